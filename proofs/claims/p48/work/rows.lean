section
-- ===== PART A: goes FIRST, ahead of the names: the tables' words, and 'selects' of the private methods out of them =====
/-- a private method of a class that the tables say can be made, by its rows of tables_1 -/
def lw_okq (q : MethodName × Nat) : Prop := (q.1.cls ≠ "java/lang/invoke/MethodHandle" ∧ q.1.cls ≠ "java/lang/invoke/VarHandle") ∧ Cond.instantiable q.1.cls q.2 ∈ tables_1 ∧ Cond.privateMethod q.1 ∈ tables_1 ∧ Cond.instanceMethod q.1 ∈ tables_1
theorem lw_p0 : lw_okq (⟨"ClashDays", "refuse", "(I)I"⟩, 14) := ⟨⟨by decide +kernel, by decide +kernel⟩, List.mem_of_getElem? (i := 17) (by decide +kernel), List.mem_of_getElem? (i := 400) (by decide +kernel), List.mem_of_getElem? (i := 401) (by decide +kernel)⟩
theorem lw_p1 : lw_okq (⟨"ClashDays$Orders", "walk", "([IJ)Z"⟩, 14) := ⟨⟨by decide +kernel, by decide +kernel⟩, List.mem_of_getElem? (i := 146) (by decide +kernel), List.mem_of_getElem? (i := 505) (by decide +kernel), List.mem_of_getElem? (i := 506) (by decide +kernel)⟩
theorem lw_p2 : lw_okq (⟨"ClashDays$Orders", "measured", "(I)I"⟩, 14) := ⟨⟨by decide +kernel, by decide +kernel⟩, List.mem_of_getElem? (i := 146) (by decide +kernel), List.mem_of_getElem? (i := 513) (by decide +kernel), List.mem_of_getElem? (i := 514) (by decide +kernel)⟩
theorem lw_p3 : lw_okq (⟨"ClashDays$Orders", "nextRow", "()Z"⟩, 14) := ⟨⟨by decide +kernel, by decide +kernel⟩, List.mem_of_getElem? (i := 146) (by decide +kernel), List.mem_of_getElem? (i := 529) (by decide +kernel), List.mem_of_getElem? (i := 530) (by decide +kernel)⟩
theorem lw_p4 : lw_okq (⟨"ClashDays$Orders", "swap", "(II)V"⟩, 14) := ⟨⟨by decide +kernel, by decide +kernel⟩, List.mem_of_getElem? (i := 146) (by decide +kernel), List.mem_of_getElem? (i := 533) (by decide +kernel), List.mem_of_getElem? (i := 534) (by decide +kernel)⟩
theorem lw_p5 : lw_okq (⟨"ClashDays$Duties", "add", "(IIII)V"⟩, 10) := ⟨⟨by decide +kernel, by decide +kernel⟩, List.mem_of_getElem? (i := 271) (by decide +kernel), List.mem_of_getElem? (i := 607) (by decide +kernel), List.mem_of_getElem? (i := 608) (by decide +kernel)⟩
theorem lw_p6 : lw_okq (⟨"ClashDays$Duties", "giveOut", "(I)V"⟩, 10) := ⟨⟨by decide +kernel, by decide +kernel⟩, List.mem_of_getElem? (i := 271) (by decide +kernel), List.mem_of_getElem? (i := 611) (by decide +kernel), List.mem_of_getElem? (i := 612) (by decide +kernel)⟩
theorem lw_p7 : lw_okq (⟨"ClashDays$Duties", "beginOf", "(I)I"⟩, 10) := ⟨⟨by decide +kernel, by decide +kernel⟩, List.mem_of_getElem? (i := 271) (by decide +kernel), List.mem_of_getElem? (i := 615) (by decide +kernel), List.mem_of_getElem? (i := 616) (by decide +kernel)⟩
theorem lw_p8 : lw_okq (⟨"ClashDays$Duties", "watcherAt", "(I)I"⟩, 10) := ⟨⟨by decide +kernel, by decide +kernel⟩, List.mem_of_getElem? (i := 271) (by decide +kernel), List.mem_of_getElem? (i := 619) (by decide +kernel), List.mem_of_getElem? (i := 620) (by decide +kernel)⟩
theorem lw_p9 : lw_okq (⟨"ClashDays$Duties", "countAtOnce", "(I)V"⟩, 10) := ⟨⟨by decide +kernel, by decide +kernel⟩, List.mem_of_getElem? (i := 271) (by decide +kernel), List.mem_of_getElem? (i := 623) (by decide +kernel), List.mem_of_getElem? (i := 624) (by decide +kernel)⟩
theorem lw_p10 : lw_okq (⟨"ClashDays$Week", "pieceFrom", "(II)J"⟩, 9) := ⟨⟨by decide +kernel, by decide +kernel⟩, List.mem_of_getElem? (i := 208) (by decide +kernel), List.mem_of_getElem? (i := 662) (by decide +kernel), List.mem_of_getElem? (i := 663) (by decide +kernel)⟩
theorem lw_p11 : lw_okq (⟨"ClashDays$Seats", "seat", "(LClashDays$Book;I)V"⟩, 9) := ⟨⟨by decide +kernel, by decide +kernel⟩, List.mem_of_getElem? (i := 308) (by decide +kernel), List.mem_of_getElem? (i := 668) (by decide +kernel), List.mem_of_getElem? (i := 669) (by decide +kernel)⟩
theorem lw_p12 : lw_okq (⟨"ClashDays$Seats", "countMoves", "(II)V"⟩, 9) := ⟨⟨by decide +kernel, by decide +kernel⟩, List.mem_of_getElem? (i := 308) (by decide +kernel), List.mem_of_getElem? (i := 672) (by decide +kernel), List.mem_of_getElem? (i := 673) (by decide +kernel)⟩
theorem lw_p13 : lw_okq (⟨"ClashDays$Seats", "costFrom", "(IIII)I"⟩, 9) := ⟨⟨by decide +kernel, by decide +kernel⟩, List.mem_of_getElem? (i := 308) (by decide +kernel), List.mem_of_getElem? (i := 676) (by decide +kernel), List.mem_of_getElem? (i := 677) (by decide +kernel)⟩
theorem lw_p14 : lw_okq (⟨"ClashDays$Seats", "firstRoom", "(III)I"⟩, 9) := ⟨⟨by decide +kernel, by decide +kernel⟩, List.mem_of_getElem? (i := 308) (by decide +kernel), List.mem_of_getElem? (i := 680) (by decide +kernel), List.mem_of_getElem? (i := 681) (by decide +kernel)⟩
theorem lw_p15 : lw_okq (⟨"ClashDays$Seats", "costWith", "(III)I"⟩, 9) := ⟨⟨by decide +kernel, by decide +kernel⟩, List.mem_of_getElem? (i := 308) (by decide +kernel), List.mem_of_getElem? (i := 684) (by decide +kernel), List.mem_of_getElem? (i := 685) (by decide +kernel)⟩
def lw_privs_1 : List (MethodName × Nat) := [(⟨"ClashDays", "refuse", "(I)I"⟩, 14), (⟨"ClashDays$Orders", "walk", "([IJ)Z"⟩, 14), (⟨"ClashDays$Orders", "measured", "(I)I"⟩, 14), (⟨"ClashDays$Orders", "nextRow", "()Z"⟩, 14), (⟨"ClashDays$Orders", "swap", "(II)V"⟩, 14), (⟨"ClashDays$Duties", "add", "(IIII)V"⟩, 10), (⟨"ClashDays$Duties", "giveOut", "(I)V"⟩, 10), (⟨"ClashDays$Duties", "beginOf", "(I)I"⟩, 10), (⟨"ClashDays$Duties", "watcherAt", "(I)I"⟩, 10), (⟨"ClashDays$Duties", "countAtOnce", "(I)V"⟩, 10), (⟨"ClashDays$Week", "pieceFrom", "(II)J"⟩, 9), (⟨"ClashDays$Seats", "seat", "(LClashDays$Book;I)V"⟩, 9), (⟨"ClashDays$Seats", "countMoves", "(II)V"⟩, 9), (⟨"ClashDays$Seats", "costFrom", "(IIII)I"⟩, 9), (⟨"ClashDays$Seats", "firstRoom", "(III)I"⟩, 9), (⟨"ClashDays$Seats", "costWith", "(III)I"⟩, 9)]
theorem lw_r1 : ∀ q ∈ lw_privs_1, lw_okq q := List.forall_mem_cons.mpr ⟨lw_p0, List.forall_mem_cons.mpr ⟨lw_p1, List.forall_mem_cons.mpr ⟨lw_p2, List.forall_mem_cons.mpr ⟨lw_p3, List.forall_mem_cons.mpr ⟨lw_p4, List.forall_mem_cons.mpr ⟨lw_p5, List.forall_mem_cons.mpr ⟨lw_p6, List.forall_mem_cons.mpr ⟨lw_p7, List.forall_mem_cons.mpr ⟨lw_p8, List.forall_mem_cons.mpr ⟨lw_p9, List.forall_mem_cons.mpr ⟨lw_p10, List.forall_mem_cons.mpr ⟨lw_p11, List.forall_mem_cons.mpr ⟨lw_p12, List.forall_mem_cons.mpr ⟨lw_p13, List.forall_mem_cons.mpr ⟨lw_p14, List.forall_mem_cons.mpr ⟨lw_p15, fun _ h => absurd h List.not_mem_nil⟩⟩⟩⟩⟩⟩⟩⟩⟩⟩⟩⟩⟩⟩⟩⟩
theorem lw_p16 : lw_okq (⟨"ClashDays$Seats", "fill", "(LClashDays$Book;IJ)V"⟩, 9) := ⟨⟨by decide +kernel, by decide +kernel⟩, List.mem_of_getElem? (i := 308) (by decide +kernel), List.mem_of_getElem? (i := 688) (by decide +kernel), List.mem_of_getElem? (i := 689) (by decide +kernel)⟩
theorem lw_p17 : lw_okq (⟨"ClashDays", "cantsFlipped", "(II)I"⟩, 14) := ⟨⟨by decide +kernel, by decide +kernel⟩, List.mem_of_getElem? (i := 17) (by decide +kernel), List.mem_of_getElem? (i := 733) (by decide +kernel), List.mem_of_getElem? (i := 734) (by decide +kernel)⟩
theorem lw_p18 : lw_okq (⟨"ClashDays", "daysSomebodyCant", "()I"⟩, 14) := ⟨⟨by decide +kernel, by decide +kernel⟩, List.mem_of_getElem? (i := 17) (by decide +kernel), List.mem_of_getElem? (i := 852) (by decide +kernel), List.mem_of_getElem? (i := 853) (by decide +kernel)⟩
theorem lw_p19 : lw_okq (⟨"ClashDays", "takersOf", "(I)I"⟩, 14) := ⟨⟨by decide +kernel, by decide +kernel⟩, List.mem_of_getElem? (i := 17) (by decide +kernel), List.mem_of_getElem? (i := 869) (by decide +kernel), List.mem_of_getElem? (i := 870) (by decide +kernel)⟩
theorem lw_p20 : lw_okq (⟨"ClashDays", "lateOnesOf", "(I)I"⟩, 14) := ⟨⟨by decide +kernel, by decide +kernel⟩, List.mem_of_getElem? (i := 17) (by decide +kernel), List.mem_of_getElem? (i := 873) (by decide +kernel), List.mem_of_getElem? (i := 874) (by decide +kernel)⟩
def lw_privs_2 : List (MethodName × Nat) := [(⟨"ClashDays$Seats", "fill", "(LClashDays$Book;IJ)V"⟩, 9), (⟨"ClashDays", "cantsFlipped", "(II)I"⟩, 14), (⟨"ClashDays", "daysSomebodyCant", "()I"⟩, 14), (⟨"ClashDays", "takersOf", "(I)I"⟩, 14), (⟨"ClashDays", "lateOnesOf", "(I)I"⟩, 14)]
theorem lw_r2 : ∀ q ∈ lw_privs_2, lw_okq q := List.forall_mem_cons.mpr ⟨lw_p16, List.forall_mem_cons.mpr ⟨lw_p17, List.forall_mem_cons.mpr ⟨lw_p18, List.forall_mem_cons.mpr ⟨lw_p19, List.forall_mem_cons.mpr ⟨lw_p20, fun _ h => absurd h List.not_mem_nil⟩⟩⟩⟩⟩
def lw_privs : List (MethodName × Nat) := lw_privs_1 ++ (lw_privs_2)
def lw_tbl : List Cond := k2_sels lw_privs ++ tables_1
theorem lw_privs_ok : ∀ q ∈ lw_privs, lw_okq q := by
  show ∀ q ∈ lw_privs_1 ++ (lw_privs_2), lw_okq q
  exact List.forall_mem_append.mpr ⟨lw_r1, lw_r2⟩
-- ===== end of PART A; then your names; then what follows =====
def RX0 : String := "ClashDays$Book"
def TX0 : u_T := fun k => match k with
  | 0 => ("ClashDays$Book", "dayOf", "[I", true)
  | 1 => ("ClashDays$Book", "startOf", "[I", true)
  | 2 => ("ClashDays$Book", "lengthOf", "[I", true)
  | 3 => ("ClashDays$Book", "kindOf", "[I", true)
  | 4 => ("ClashDays$Book", "aOf", "[I", true)
  | 5 => ("ClashDays$Book", "nightOf", "[I", true)
  | 6 => ("ClashDays$Book", "takesOf", "[I", true)
  | 7 => ("ClashDays$Book", "seatsOf", "[I", true)
  | 8 => ("ClashDays$Book", "papers", "I", false)
  | 9 => ("ClashDays$Book", "cands", "I", false)
  | 10 => ("ClashDays$Book", "rooms", "I", false)
  | 11 => ("ClashDays$Book", "hours", "I", false)
  | 12 => ("ClashDays$Book", "turn", "I", false)
  | _ => ("ClashDays$Book", "seed", "I", false)
def tyX0 : Nat → FieldType := fun k => match k with
  | 0 => .array .int
  | 1 => .array .int
  | 2 => .array .int
  | 3 => .array .int
  | 4 => .array .int
  | 5 => .array .int
  | 6 => .array .int
  | 7 => .array .int
  | 8 => .int
  | 9 => .int
  | 10 => .int
  | 11 => .int
  | 12 => .int
  | _ => .int
abbrev wsX00 : List Cond := u_ws RX0 TX0 14
theorem nmX0 : ∀ a, a < 14 → ∀ b, b < 14 → a ≠ b → (TX0 a).2.1 ≠ (TX0 b).2.1 := by decide +kernel
theorem tyX0_ok : ∀ k, k < 14 → parseFieldDescriptor (TX0 k).2.2.1 = some (tyX0 k) := by decide +kernel
abbrev cX0_init : ByteArray := prog_2_method_1_code
def yX0_init : MethodName := ⟨RX0, "<init>", "()V"⟩
abbrev cX0_become : ByteArray := prog_2_method_2_code
def yX0_become : MethodName := ⟨RX0, "become", "(LClashDays$Book;)V"⟩
abbrev cX0_hasPaper : ByteArray := prog_2_method_3_code
def yX0_hasPaper : MethodName := ⟨RX0, "hasPaper", "(J)Z"⟩
abbrev cX0_hasCand : ByteArray := prog_2_method_4_code
def yX0_hasCand : MethodName := ⟨RX0, "hasCand", "(I)Z"⟩
abbrev cX0_hasRoom : ByteArray := prog_2_method_5_code
def yX0_hasRoom : MethodName := ⟨RX0, "hasRoom", "(I)Z"⟩
abbrev cX0_addPaper : ByteArray := prog_2_method_6_code
def yX0_addPaper : MethodName := ⟨RX0, "addPaper", "(III)I"⟩
abbrev cX0_addCand : ByteArray := prog_2_method_7_code
def yX0_addCand : MethodName := ⟨RX0, "addCand", "(II)I"⟩
abbrev cX0_addRoom : ByteArray := prog_2_method_8_code
def yX0_addRoom : MethodName := ⟨RX0, "addRoom", "(I)I"⟩
abbrev cX0_doesTake : ByteArray := prog_2_method_9_code
def yX0_doesTake : MethodName := ⟨RX0, "doesTake", "(II)Z"⟩
abbrev cX0_mayFlip : ByteArray := prog_2_method_10_code
def yX0_mayFlip : MethodName := ⟨RX0, "mayFlip", "(II)Z"⟩
abbrev cX0_flip : ByteArray := prog_2_method_11_code
def yX0_flip : MethodName := ⟨RX0, "flip", "(II)V"⟩
abbrev cX0_papersOf : ByteArray := prog_2_method_12_code
def yX0_papersOf : MethodName := ⟨RX0, "papersOf", "(I)I"⟩
abbrev cX0_timeFor : ByteArray := prog_2_method_13_code
def yX0_timeFor : MethodName := ⟨RX0, "timeFor", "(II)I"⟩
abbrev cX0_restFor : ByteArray := prog_2_method_14_code
def yX0_restFor : MethodName := ⟨RX0, "restFor", "(I)I"⟩
abbrev cX0_takenInAll : ByteArray := prog_2_method_15_code
def yX0_takenInAll : MethodName := ⟨RX0, "takenInAll", "()I"⟩
def RX1 : String := "ClashDays$Duties"
def TX1 : u_T := fun k => match k with
  | 0 => ("ClashDays$Duties", "candOf", "[I", true)
  | 1 => ("ClashDays$Duties", "dayOf", "[I", true)
  | 2 => ("ClashDays$Duties", "firstOf", "[I", true)
  | 3 => ("ClashDays$Duties", "slotsOf", "[I", true)
  | 4 => ("ClashDays$Duties", "watcherOf", "[I", true)
  | 5 => ("ClashDays$Duties", "freeFrom", "[I", true)
  | 6 => ("ClashDays$Duties", "count", "I", false)
  | 7 => ("ClashDays$Duties", "watchers", "I", false)
  | 8 => ("ClashDays$Duties", "atOnce", "I", false)
  | _ => ("ClashDays$Duties", "edition", "I", false)
def tyX1 : Nat → FieldType := fun k => match k with
  | 0 => .array .int
  | 1 => .array .int
  | 2 => .array .int
  | 3 => .array .int
  | 4 => .array .int
  | 5 => .array .int
  | 6 => .int
  | 7 => .int
  | 8 => .int
  | _ => .int
abbrev wsX10 : List Cond := u_ws RX1 TX1 10
theorem nmX1 : ∀ a, a < 10 → ∀ b, b < 10 → a ≠ b → (TX1 a).2.1 ≠ (TX1 b).2.1 := by decide +kernel
theorem tyX1_ok : ∀ k, k < 10 → parseFieldDescriptor (TX1 k).2.2.1 = some (tyX1 k) := by decide +kernel
abbrev cX1_init : ByteArray := prog_3_method_1_code
def yX1_init : MethodName := ⟨RX1, "<init>", "()V"⟩
abbrev cX1_count : ByteArray := prog_3_method_2_code
def yX1_count : MethodName := ⟨RX1, "count", "()I"⟩
abbrev cX1_watchers : ByteArray := prog_3_method_3_code
def yX1_watchers : MethodName := ⟨RX1, "watchers", "()I"⟩
abbrev cX1_atOnce : ByteArray := prog_3_method_4_code
def yX1_atOnce : MethodName := ⟨RX1, "atOnce", "()I"⟩
abbrev cX1_tell : ByteArray := prog_3_method_5_code
def yX1_tell : MethodName := ⟨RX1, "tell", "(II)I"⟩
abbrev cX1_gather : ByteArray := prog_3_method_6_code
def yX1_gather : MethodName := ⟨RX1, "gather", "(LClashDays$Book;LClashDays$Weeks;)V"⟩
abbrev cX1_add : ByteArray := prog_3_method_7_code
def yX1_add : MethodName := ⟨RX1, "add", "(IIII)V"⟩
abbrev cX1_beginOf : ByteArray := prog_3_method_8_code
def yX1_beginOf : MethodName := ⟨RX1, "beginOf", "(I)I"⟩
abbrev cX1_giveOut : ByteArray := prog_3_method_9_code
def yX1_giveOut : MethodName := ⟨RX1, "giveOut", "(I)V"⟩
abbrev cX1_watcherAt : ByteArray := prog_3_method_10_code
def yX1_watcherAt : MethodName := ⟨RX1, "watcherAt", "(I)I"⟩
abbrev cX1_countAtOnce : ByteArray := prog_3_method_11_code
def yX1_countAtOnce : MethodName := ⟨RX1, "countAtOnce", "(I)V"⟩
def RX2 : String := "ClashDays$Kinds"
def TX2 : u_T := fun k => match k with
  | _ => ("", "", "", false)
def tyX2 : Nat → FieldType := fun k => match k with
  | _ => .int
abbrev wsX20 : List Cond := u_ws RX2 TX2 0
theorem nmX2 : ∀ a, a < 0 → ∀ b, b < 0 → a ≠ b → (TX2 a).2.1 ≠ (TX2 b).2.1 := by decide +kernel
theorem tyX2_ok : ∀ k, k < 0 → parseFieldDescriptor (TX2 k).2.2.1 = some (tyX2 k) := by decide +kernel
abbrev cX2_isKind : ByteArray := prog_4_method_2_code
def yX2_isKind : MethodName := ⟨RX2, "isKind", "(I)Z"⟩
abbrev cX2_timeOf : ByteArray := prog_4_method_5_code
def yX2_timeOf : MethodName := ⟨RX2, "timeOf", "(III)I"⟩
abbrev cX2_restOf : ByteArray := prog_4_method_6_code
def yX2_restOf : MethodName := ⟨RX2, "restOf", "(II)I"⟩
def RX3 : String := "ClashDays$Orders"
def TX3 : u_T := fun k => match k with
  | 0 => ("ClashDays$Orders", "paper", "[I", true)
  | 1 => ("ClashDays$Orders", "start", "[I", true)
  | 2 => ("ClashDays$Orders", "time", "[I", true)
  | 3 => ("ClashDays$Orders", "row", "[I", true)
  | 4 => ("ClashDays$Orders", "chosen", "[I", true)
  | 5 => ("ClashDays$Orders", "begin", "[I", true)
  | 6 => ("ClashDays$Orders", "count", "I", false)
  | 7 => ("ClashDays$Orders", "rest", "I", false)
  | 8 => ("ClashDays$Orders", "free", "I", false)
  | 9 => ("ClashDays$Orders", "spare", "I", false)
  | 10 => ("ClashDays$Orders", "came", "J", false)
  | 11 => ("ClashDays$Orders", "kept", "J", false)
  | 12 => ("ClashDays$Orders", "lawfulOnes", "I", false)
  | _ => ("ClashDays$Orders", "least", "I", false)
def tyX3 : Nat → FieldType := fun k => match k with
  | 0 => .array .int
  | 1 => .array .int
  | 2 => .array .int
  | 3 => .array .int
  | 4 => .array .int
  | 5 => .array .int
  | 6 => .int
  | 7 => .int
  | 8 => .int
  | 9 => .int
  | 10 => .long
  | 11 => .long
  | 12 => .int
  | _ => .int
abbrev wsX30 : List Cond := u_ws RX3 TX3 14
theorem nmX3 : ∀ a, a < 14 → ∀ b, b < 14 → a ≠ b → (TX3 a).2.1 ≠ (TX3 b).2.1 := by decide +kernel
theorem tyX3_ok : ∀ k, k < 14 → parseFieldDescriptor (TX3 k).2.2.1 = some (tyX3 k) := by decide +kernel
abbrev cX3_init : ByteArray := prog_5_method_1_code
def yX3_init : MethodName := ⟨RX3, "<init>", "()V"⟩
abbrev cX3_count : ByteArray := prog_5_method_2_code
def yX3_count : MethodName := ⟨RX3, "count", "()I"⟩
abbrev cX3_lawfulOnes : ByteArray := prog_5_method_3_code
def yX3_lawfulOnes : MethodName := ⟨RX3, "lawfulOnes", "()I"⟩
abbrev cX3_least : ByteArray := prog_5_method_4_code
def yX3_least : MethodName := ⟨RX3, "least", "()I"⟩
abbrev cX3_keptSlots : ByteArray := prog_5_method_5_code
def yX3_keptSlots : MethodName := ⟨RX3, "keptSlots", "()J"⟩
abbrev cX3_paperAt : ByteArray := prog_5_method_6_code
def yX3_paperAt : MethodName := ⟨RX3, "paperAt", "(I)I"⟩
abbrev cX3_beginAt : ByteArray := prog_5_method_7_code
def yX3_beginAt : MethodName := ⟨RX3, "beginAt", "(I)I"⟩
abbrev cX3_endAt : ByteArray := prog_5_method_8_code
def yX3_endAt : MethodName := ⟨RX3, "endAt", "(I)I"⟩
abbrev cX3_gather : ByteArray := prog_5_method_9_code
def yX3_gather : MethodName := ⟨RX3, "gather", "(LClashDays$Book;IIII)V"⟩
abbrev cX3_search : ByteArray := prog_5_method_10_code
def yX3_search : MethodName := ⟨RX3, "search", "(IJ)Z"⟩
abbrev cX3_walk : ByteArray := prog_5_method_11_code
def yX3_walk : MethodName := ⟨RX3, "walk", "([IJ)Z"⟩
abbrev cX3_measured : ByteArray := prog_5_method_12_code
def yX3_measured : MethodName := ⟨RX3, "measured", "(I)I"⟩
abbrev cX3_join : ByteArray := prog_5_method_13_code
def yX3_join : MethodName := ⟨RX3, "join", "(IIII)I"⟩
abbrev cX3_nextRow : ByteArray := prog_5_method_14_code
def yX3_nextRow : MethodName := ⟨RX3, "nextRow", "()Z"⟩
abbrev cX3_swap : ByteArray := prog_5_method_15_code
def yX3_swap : MethodName := ⟨RX3, "swap", "(II)V"⟩
def RX4 : String := "ClashDays$Planner"
def TX4 : u_T := fun k => match k with
  | _ => ("ClashDays$Planner", "orders", "LClashDays$Orders;", true)
def tyX4 : Nat → FieldType := fun k => match k with
  | _ => .object "ClashDays$Orders"
abbrev wsX40 : List Cond := u_ws RX4 TX4 1
theorem nmX4 : ∀ a, a < 1 → ∀ b, b < 1 → a ≠ b → (TX4 a).2.1 ≠ (TX4 b).2.1 := by decide +kernel
theorem tyX4_ok : ∀ k, k < 1 → parseFieldDescriptor (TX4 k).2.2.1 = some (tyX4 k) := by decide +kernel
abbrev cX4_init : ByteArray := prog_6_method_1_code
def yX4_init : MethodName := ⟨RX4, "<init>", "()V"⟩
abbrev cX4_planWeek : ByteArray := prog_6_method_2_code
def yX4_planWeek : MethodName := ⟨RX4, "planWeek", "(LClashDays$Book;ILClashDays$Week;)V"⟩
abbrev cX4_replan : ByteArray := prog_6_method_3_code
def yX4_replan : MethodName := ⟨RX4, "replan", "(LClashDays$Book;IILClashDays$Week;)V"⟩
abbrev cX4_planDay : ByteArray := prog_6_method_4_code
def yX4_planDay : MethodName := ⟨RX4, "planDay", "(LClashDays$Book;IILClashDays$Week;)V"⟩
abbrev cX4_ordersOf : ByteArray := prog_6_method_5_code
def yX4_ordersOf : MethodName := ⟨RX4, "ordersOf", "(LClashDays$Book;IILClashDays$Week;)LClashDays$Orders;"⟩
abbrev cX4_clash : ByteArray := prog_6_method_6_code
def yX4_clash : MethodName := ⟨RX4, "clash", "(LClashDays$Book;IILClashDays$Week;)I"⟩
def RX5 : String := "ClashDays$Seats"
def TX5 : u_T := fun k => match k with
  | 0 => ("ClashDays$Seats", "used", "[I", true)
  | 1 => ("ClashDays$Seats", "full", "[J", true)
  | 2 => ("ClashDays$Seats", "piece", "[J", true)
  | 3 => ("ClashDays$Seats", "pieces", "[I", true)
  | 4 => ("ClashDays$Seats", "moves", "[I", true)
  | 5 => ("ClashDays$Seats", "room", "[I", true)
  | 6 => ("ClashDays$Seats", "cost", "[I", true)
  | 7 => ("ClashDays$Seats", "laidDay", "I", false)
  | _ => ("ClashDays$Seats", "edition", "I", false)
def tyX5 : Nat → FieldType := fun k => match k with
  | 0 => .array .int
  | 1 => .array .long
  | 2 => .array .long
  | 3 => .array .int
  | 4 => .array .int
  | 5 => .array .int
  | 6 => .array .int
  | 7 => .int
  | _ => .int
abbrev wsX50 : List Cond := u_ws RX5 TX5 9
theorem nmX5 : ∀ a, a < 9 → ∀ b, b < 9 → a ≠ b → (TX5 a).2.1 ≠ (TX5 b).2.1 := by decide +kernel
theorem tyX5_ok : ∀ k, k < 9 → parseFieldDescriptor (TX5 k).2.2.1 = some (tyX5 k) := by decide +kernel
abbrev cX5_init : ByteArray := prog_7_method_1_code
def yX5_init : MethodName := ⟨RX5, "<init>", "()V"⟩
abbrev cX5_piecesOf : ByteArray := prog_7_method_2_code
def yX5_piecesOf : MethodName := ⟨RX5, "piecesOf", "(I)I"⟩
abbrev cX5_movesOf : ByteArray := prog_7_method_3_code
def yX5_movesOf : MethodName := ⟨RX5, "movesOf", "(I)I"⟩
abbrev cX5_roomAt : ByteArray := prog_7_method_4_code
def yX5_roomAt : MethodName := ⟨RX5, "roomAt", "(II)I"⟩
abbrev cX5_usedAt : ByteArray := prog_7_method_5_code
def yX5_usedAt : MethodName := ⟨RX5, "usedAt", "(II)I"⟩
abbrev cX5_lay : ByteArray := prog_7_method_6_code
def yX5_lay : MethodName := ⟨RX5, "lay", "(LClashDays$Book;LClashDays$Weeks;I)V"⟩
abbrev cX5_seat : ByteArray := prog_7_method_7_code
def yX5_seat : MethodName := ⟨RX5, "seat", "(LClashDays$Book;I)V"⟩
abbrev cX5_countMoves : ByteArray := prog_7_method_8_code
def yX5_countMoves : MethodName := ⟨RX5, "countMoves", "(II)V"⟩
abbrev cX5_costFrom : ByteArray := prog_7_method_9_code
def yX5_costFrom : MethodName := ⟨RX5, "costFrom", "(IIII)I"⟩
abbrev cX5_firstRoom : ByteArray := prog_7_method_10_code
def yX5_firstRoom : MethodName := ⟨RX5, "firstRoom", "(III)I"⟩
abbrev cX5_costWith : ByteArray := prog_7_method_11_code
def yX5_costWith : MethodName := ⟨RX5, "costWith", "(III)I"⟩
abbrev cX5_fill : ByteArray := prog_7_method_12_code
def yX5_fill : MethodName := ⟨RX5, "fill", "(LClashDays$Book;IJ)V"⟩
def RX6 : String := "ClashDays$Shelves"
def TX6 : u_T := fun k => match k with
  | 0 => ("ClashDays$Shelves", "held", "[I", true)
  | 1 => ("ClashDays$Shelves", "size", "[I", true)
  | _ => ("ClashDays$Shelves", "elements", "[J", true)
def tyX6 : Nat → FieldType := fun k => match k with
  | 0 => .array .int
  | 1 => .array .int
  | _ => .array .long
abbrev wsX60 : List Cond := u_ws RX6 TX6 3
theorem nmX6 : ∀ a, a < 3 → ∀ b, b < 3 → a ≠ b → (TX6 a).2.1 ≠ (TX6 b).2.1 := by decide +kernel
theorem tyX6_ok : ∀ k, k < 3 → parseFieldDescriptor (TX6 k).2.2.1 = some (tyX6 k) := by decide +kernel
abbrev cX6_init : ByteArray := prog_8_method_1_code
def yX6_init : MethodName := ⟨RX6, "<init>", "()V"⟩
abbrev cX6_isShelf : ByteArray := prog_8_method_2_code
def yX6_isShelf : MethodName := ⟨RX6, "isShelf", "(I)Z"⟩
abbrev cX6_holding : ByteArray := prog_8_method_4_code
def yX6_holding : MethodName := ⟨RX6, "holding", "(I)I"⟩
abbrev cX6_candOn : ByteArray := prog_8_method_6_code
def yX6_candOn : MethodName := ⟨RX6, "candOn", "(I)I"⟩
abbrev cX6_dropCandsFrom : ByteArray := prog_8_method_15_code
def yX6_dropCandsFrom : MethodName := ⟨RX6, "dropCandsFrom", "(I)V"⟩
abbrev cX6_filled : ByteArray := prog_8_method_16_code
def yX6_filled : MethodName := ⟨RX6, "filled", "()I"⟩
def RX7 : String := "ClashDays$Tape"
def TX7 : u_T := fun k => match k with
  | 0 => ("ClashDays$Tape", "bytes", "[I", true)
  | 1 => ("ClashDays$Tape", "size", "I", false)
  | 2 => ("ClashDays$Tape", "at", "I", false)
  | 3 => ("ClashDays$Tape", "tokenAt", "I", false)
  | _ => ("ClashDays$Tape", "fault", "I", false)
def tyX7 : Nat → FieldType := fun k => match k with
  | 0 => .array .int
  | 1 => .int
  | 2 => .int
  | 3 => .int
  | _ => .int
abbrev wsX70 : List Cond := u_ws RX7 TX7 5
theorem nmX7 : ∀ a, a < 5 → ∀ b, b < 5 → a ≠ b → (TX7 a).2.1 ≠ (TX7 b).2.1 := by decide +kernel
theorem tyX7_ok : ∀ k, k < 5 → parseFieldDescriptor (TX7 k).2.2.1 = some (tyX7 k) := by decide +kernel
abbrev cX7_init : ByteArray := prog_9_method_1_code
def yX7_init : MethodName := ⟨RX7, "<init>", "()V"⟩
abbrev cX7_size : ByteArray := prog_9_method_3_code
def yX7_size : MethodName := ⟨RX7, "size", "()I"⟩
def RX8 : String := "ClashDays$Week"
def TX8 : u_T := fun k => match k with
  | 0 => ("ClashDays$Week", "can", "[Z", true)
  | 1 => ("ClashDays$Week", "over", "[I", true)
  | 2 => ("ClashDays$Week", "free", "[I", true)
  | 3 => ("ClashDays$Week", "ahead", "[I", true)
  | 4 => ("ClashDays$Week", "count", "[I", true)
  | 5 => ("ClashDays$Week", "kept", "[J", true)
  | 6 => ("ClashDays$Week", "order", "[I", true)
  | 7 => ("ClashDays$Week", "begin", "[I", true)
  | _ => ("ClashDays$Week", "end", "[I", true)
def tyX8 : Nat → FieldType := fun k => match k with
  | 0 => .array .boolean
  | 1 => .array .int
  | 2 => .array .int
  | 3 => .array .int
  | 4 => .array .int
  | 5 => .array .long
  | 6 => .array .int
  | 7 => .array .int
  | _ => .array .int
abbrev wsX80 : List Cond := u_ws RX8 TX8 9
theorem nmX8 : ∀ a, a < 9 → ∀ b, b < 9 → a ≠ b → (TX8 a).2.1 ≠ (TX8 b).2.1 := by decide +kernel
theorem tyX8_ok : ∀ k, k < 9 → parseFieldDescriptor (TX8 k).2.2.1 = some (tyX8 k) := by decide +kernel
abbrev cX8_init : ByteArray := prog_10_method_1_code
def yX8_init : MethodName := ⟨RX8, "<init>", "()V"⟩
abbrev cX8_become : ByteArray := prog_10_method_2_code
def yX8_become : MethodName := ⟨RX8, "become", "(LClashDays$Week;)V"⟩
abbrev cX8_open : ByteArray := prog_10_method_3_code
def yX8_open : MethodName := ⟨RX8, "open", "(III)V"⟩
abbrev cX8_put : ByteArray := prog_10_method_4_code
def yX8_put : MethodName := ⟨RX8, "put", "(ILClashDays$Orders;I)V"⟩
abbrev cX8_cameTo : ByteArray := prog_10_method_5_code
def yX8_cameTo : MethodName := ⟨RX8, "cameTo", "(I)I"⟩
abbrev cX8_cants : ByteArray := prog_10_method_6_code
def yX8_cants : MethodName := ⟨RX8, "cants", "()I"⟩
abbrev cX8_keptSlots : ByteArray := prog_10_method_7_code
def yX8_keptSlots : MethodName := ⟨RX8, "keptSlots", "()I"⟩
abbrev cX8_deed : ByteArray := prog_10_method_8_code
def yX8_deed : MethodName := ⟨RX8, "deed", "(II)I"⟩
abbrev cX8_measured : ByteArray := prog_10_method_9_code
def yX8_measured : MethodName := ⟨RX8, "measured", "(LClashDays$Book;II)I"⟩
abbrev cX8_beginsLate : ByteArray := prog_10_method_10_code
def yX8_beginsLate : MethodName := ⟨RX8, "beginsLate", "(LClashDays$Book;I)Z"⟩
abbrev cX8_piecesOf : ByteArray := prog_10_method_11_code
def yX8_piecesOf : MethodName := ⟨RX8, "piecesOf", "(I[J)I"⟩
abbrev cX8_pieceFrom : ByteArray := prog_10_method_12_code
def yX8_pieceFrom : MethodName := ⟨RX8, "pieceFrom", "(II)J"⟩
abbrev cX8_dutyFrom : ByteArray := prog_10_method_13_code
def yX8_dutyFrom : MethodName := ⟨RX8, "dutyFrom", "(II)I"⟩
def RX9 : String := "ClashDays$Weeks"
def TX9 : u_T := fun k => match k with
  | 0 => ("ClashDays$Weeks", "planner", "LClashDays$Planner;", true)
  | 1 => ("ClashDays$Weeks", "weeks", "[LClashDays$Week;", true)
  | 2 => ("ClashDays$Weeks", "known", "[Z", true)
  | _ => ("ClashDays$Weeks", "edition", "I", false)
def tyX9 : Nat → FieldType := fun k => match k with
  | 0 => .object "ClashDays$Planner"
  | 1 => .array (.object "ClashDays$Week")
  | 2 => .array .boolean
  | _ => .int
abbrev wsX90 : List Cond := u_ws RX9 TX9 4
theorem nmX9 : ∀ a, a < 4 → ∀ b, b < 4 → a ≠ b → (TX9 a).2.1 ≠ (TX9 b).2.1 := by decide +kernel
theorem tyX9_ok : ∀ k, k < 4 → parseFieldDescriptor (TX9 k).2.2.1 = some (tyX9 k) := by decide +kernel
abbrev cX9_init : ByteArray := prog_11_method_1_code
def yX9_init : MethodName := ⟨RX9, "<init>", "()V"⟩
abbrev cX9_of : ByteArray := prog_11_method_2_code
def yX9_of : MethodName := ⟨RX9, "of", "(LClashDays$Book;I)LClashDays$Week;"⟩
abbrev cX9_edition : ByteArray := prog_11_method_3_code
def yX9_edition : MethodName := ⟨RX9, "edition", "()I"⟩
abbrev cX9_forgetOthers : ByteArray := prog_11_method_4_code
def yX9_forgetOthers : MethodName := ⟨RX9, "forgetOthers", "()V"⟩
abbrev cX9_forget : ByteArray := prog_11_method_5_code
def yX9_forget : MethodName := ⟨RX9, "forget", "(I)V"⟩
abbrev cX9_forgetAll : ByteArray := prog_11_method_6_code
def yX9_forgetAll : MethodName := ⟨RX9, "forgetAll", "()V"⟩
def RX10 : String := "ClashDays"
def TX10 : u_T := fun k => match k with
  | 0 => ("ClashDays", "now", "LClashDays$Book;", true)
  | 1 => ("ClashDays", "draft", "LClashDays$Book;", true)
  | 2 => ("ClashDays", "image", "LClashDays$Book;", true)
  | 3 => ("ClashDays", "hasImage", "Z", false)
  | 4 => ("ClashDays", "tape", "LClashDays$Tape;", true)
  | 5 => ("ClashDays", "shelves", "LClashDays$Shelves;", true)
  | 6 => ("ClashDays", "refusals", "[I", true)
  | 7 => ("ClashDays", "planner", "LClashDays$Planner;", true)
  | 8 => ("ClashDays", "weeks", "LClashDays$Weeks;", true)
  | 9 => ("ClashDays", "trial", "LClashDays$Week;", true)
  | 10 => ("ClashDays", "duties", "LClashDays$Duties;", true)
  | 11 => ("ClashDays", "seats", "LClashDays$Seats;", true)
  | 12 => ("ClashDays", "cantsByStart", "[I", true)
  | _ => ("ClashDays", "keptByStart", "[I", true)
def tyX10 : Nat → FieldType := fun k => match k with
  | 0 => .object "ClashDays$Book"
  | 1 => .object "ClashDays$Book"
  | 2 => .object "ClashDays$Book"
  | 3 => .boolean
  | 4 => .object "ClashDays$Tape"
  | 5 => .object "ClashDays$Shelves"
  | 6 => .array .int
  | 7 => .object "ClashDays$Planner"
  | 8 => .object "ClashDays$Weeks"
  | 9 => .object "ClashDays$Week"
  | 10 => .object "ClashDays$Duties"
  | 11 => .object "ClashDays$Seats"
  | 12 => .array .int
  | _ => .array .int
abbrev wsX100 : List Cond := u_ws RX10 TX10 14
theorem nmX10 : ∀ a, a < 14 → ∀ b, b < 14 → a ≠ b → (TX10 a).2.1 ≠ (TX10 b).2.1 := by decide +kernel
theorem tyX10_ok : ∀ k, k < 14 → parseFieldDescriptor (TX10 k).2.2.1 = some (tyX10 k) := by decide +kernel
abbrev cX10_init : ByteArray := prog_1_method_1_code
def yX10_init : MethodName := ⟨RX10, "<init>", "()V"⟩
abbrev cX10_paper : ByteArray := prog_1_method_9_code
def yX10_paper : MethodName := ⟨RX10, "paper", "(III)I"⟩
abbrev cX10_cand : ByteArray := prog_1_method_11_code
def yX10_cand : MethodName := ⟨RX10, "cand", "(II)I"⟩
abbrev cX10_takes : ByteArray := prog_1_method_12_code
def yX10_takes : MethodName := ⟨RX10, "takes", "(III)I"⟩
abbrev cX10_night : ByteArray := prog_1_method_13_code
def yX10_night : MethodName := ⟨RX10, "night", "(II)I"⟩
abbrev cX10_room : ByteArray := prog_1_method_14_code
def yX10_room : MethodName := ⟨RX10, "room", "(I)I"⟩
abbrev cX10_hours : ByteArray := prog_1_method_15_code
def yX10_hours : MethodName := ⟨RX10, "hours", "(I)I"⟩
abbrev cX10_turn : ByteArray := prog_1_method_16_code
def yX10_turn : MethodName := ⟨RX10, "turn", "(I)I"⟩
abbrev cX10_candOf : ByteArray := prog_1_method_20_code
def yX10_candOf : MethodName := ⟨RX10, "candOf", "(II)I"⟩
abbrev cX10_paperOf : ByteArray := prog_1_method_21_code
def yX10_paperOf : MethodName := ⟨RX10, "paperOf", "(II)I"⟩
abbrev cX10_time : ByteArray := prog_1_method_22_code
def yX10_time : MethodName := ⟨RX10, "time", "(II)I"⟩
abbrev cX10_plan : ByteArray := prog_1_method_23_code
def yX10_plan : MethodName := ⟨RX10, "plan", "(III)I"⟩
abbrev cX10_sits : ByteArray := prog_1_method_24_code
def yX10_sits : MethodName := ⟨RX10, "sits", "(IIII)I"⟩
abbrev cX10_does : ByteArray := prog_1_method_25_code
def yX10_does : MethodName := ⟨RX10, "does", "(III)I"⟩
abbrev cX10_measure : ByteArray := prog_1_method_26_code
def yX10_measure : MethodName := ⟨RX10, "measure", "(III)I"⟩
abbrev cX10_best : ByteArray := prog_1_method_27_code
def yX10_best : MethodName := ⟨RX10, "best", "(IIII)I"⟩
abbrev cX10_lawful : ByteArray := prog_1_method_28_code
def yX10_lawful : MethodName := ⟨RX10, "lawful", "(II)I"⟩
abbrev cX10_watch : ByteArray := prog_1_method_29_code
def yX10_watch : MethodName := ⟨RX10, "watch", "(I)I"⟩
abbrev cX10_duty : ByteArray := prog_1_method_30_code
def yX10_duty : MethodName := ⟨RX10, "duty", "(II)I"⟩
abbrev cX10_pieces : ByteArray := prog_1_method_31_code
def yX10_pieces : MethodName := ⟨RX10, "pieces", "(III)I"⟩
abbrev cX10_roomOf : ByteArray := prog_1_method_32_code
def yX10_roomOf : MethodName := ⟨RX10, "roomOf", "(III)I"⟩
abbrev cX10_left : ByteArray := prog_1_method_33_code
def yX10_left : MethodName := ⟨RX10, "left", "(III)I"⟩
abbrev cX10_whatIf : ByteArray := prog_1_method_34_code
def yX10_whatIf : MethodName := ⟨RX10, "whatIf", "(II)I"⟩
abbrev cX10_both : ByteArray := prog_1_method_35_code
def yX10_both : MethodName := ⟨RX10, "both", "(III)I"⟩
abbrev cX10_relief : ByteArray := prog_1_method_36_code
def yX10_relief : MethodName := ⟨RX10, "relief", "(I)I"⟩
abbrev cX10_hoursFor : ByteArray := prog_1_method_38_code
def yX10_hoursFor : MethodName := ⟨RX10, "hoursFor", "(I)I"⟩
abbrev cX10_image : ByteArray := prog_1_method_44_code
def yX10_image : MethodName := ⟨RX10, "image", "()I"⟩
abbrev cX10_back : ByteArray := prog_1_method_45_code
def yX10_back : MethodName := ⟨RX10, "back", "()I"⟩
abbrev cX10_status : ByteArray := prog_1_method_46_code
def yX10_status : MethodName := ⟨RX10, "status", "(I)I"⟩
abbrev cX10_refuse : ByteArray := prog_1_method_47_code
def yX10_refuse : MethodName := ⟨RX10, "refuse", "(I)I"⟩
abbrev cX10_isDay : ByteArray := prog_1_method_48_code
def yX10_isDay : MethodName := ⟨RX10, "isDay", "(I)Z"⟩
abbrev cX10_isSlot : ByteArray := prog_1_method_49_code
def yX10_isSlot : MethodName := ⟨RX10, "isSlot", "(I)Z"⟩
abbrev cX10_isYesOrNo : ByteArray := prog_1_method_50_code
def yX10_isYesOrNo : MethodName := ⟨RX10, "isYesOrNo", "(I)Z"⟩
abbrev cX10_isMeasure : ByteArray := prog_1_method_51_code
def yX10_isMeasure : MethodName := ⟨RX10, "isMeasure", "(I)Z"⟩
abbrev cX10_span : ByteArray := prog_1_method_53_code
def yX10_span : MethodName := ⟨RX10, "span", "(II)J"⟩
abbrev cX10_hasBit : ByteArray := prog_1_method_54_code
def yX10_hasBit : MethodName := ⟨RX10, "hasBit", "(II)Z"⟩
abbrev cX10_hasSlot : ByteArray := prog_1_method_55_code
def yX10_hasSlot : MethodName := ⟨RX10, "hasSlot", "(JI)Z"⟩
abbrev cX10_takersOf : ByteArray := prog_1_method_56_code
def yX10_takersOf : MethodName := ⟨RX10, "takersOf", "(I)I"⟩
abbrev cX10_lateOnesOf : ByteArray := prog_1_method_57_code
def yX10_lateOnesOf : MethodName := ⟨RX10, "lateOnesOf", "(I)I"⟩
abbrev cX10_daysSomebodyCant : ByteArray := prog_1_method_58_code
def yX10_daysSomebodyCant : MethodName := ⟨RX10, "daysSomebodyCant", "()I"⟩
abbrev cX10_cantsFlipped : ByteArray := prog_1_method_59_code
def yX10_cantsFlipped : MethodName := ⟨RX10, "cantsFlipped", "(II)I"⟩
def RX11 : String := "ClashDaysModel"
def TX11 : u_T := fun k => match k with
  | _ => ("", "", "", false)
def tyX11 : Nat → FieldType := fun k => match k with
  | _ => .int
abbrev wsX110 : List Cond := u_ws RX11 TX11 0
theorem nmX11 : ∀ a, a < 0 → ∀ b, b < 0 → a ≠ b → (TX11 a).2.1 ≠ (TX11 b).2.1 := by decide +kernel
theorem tyX11_ok : ∀ k, k < 0 → parseFieldDescriptor (TX11 k).2.2.1 = some (tyX11 k) := by decide +kernel
def RJ6 : String := "java/lang/Integer"
def TJ6 : u_T := fun k => match k with
  | _ => ("", "", "", false)
def tyJ6 : Nat → FieldType := fun k => match k with
  | _ => .int
abbrev wsJ60 : List Cond := u_ws RJ6 TJ6 0
theorem nmJ6 : ∀ a, a < 0 → ∀ b, b < 0 → a ≠ b → (TJ6 a).2.1 ≠ (TJ6 b).2.1 := by decide +kernel
theorem tyJ6_ok : ∀ k, k < 0 → parseFieldDescriptor (TJ6 k).2.2.1 = some (tyJ6 k) := by decide +kernel
abbrev cJ6_bitCount_0f7a4 : ByteArray := prog_14_method_49_code
def yJ6_bitCount_0f7a4 : MethodName := ⟨RJ6, "bitCount", "(I)I"⟩
def RJ13 : String := "java/lang/Long"
def TJ13 : u_T := fun k => match k with
  | _ => ("", "", "", false)
def tyJ13 : Nat → FieldType := fun k => match k with
  | _ => .int
abbrev wsJ130 : List Cond := u_ws RJ13 TJ13 0
theorem nmJ13 : ∀ a, a < 0 → ∀ b, b < 0 → a ≠ b → (TJ13 a).2.1 ≠ (TJ13 b).2.1 := by decide +kernel
theorem tyJ13_ok : ∀ k, k < 0 → parseFieldDescriptor (TJ13 k).2.2.1 = some (tyJ13 k) := by decide +kernel
abbrev cJ13_bitCount_95d88 : ByteArray := prog_15_method_50_code
def yJ13_bitCount_95d88 : MethodName := ⟨RJ13, "bitCount", "(J)I"⟩
def RJ9 : String := "java/lang/Math"
def TJ9 : u_T := fun k => match k with
  | _ => ("", "", "", false)
def tyJ9 : Nat → FieldType := fun k => match k with
  | _ => .int
abbrev wsJ90 : List Cond := u_ws RJ9 TJ9 0
theorem nmJ9 : ∀ a, a < 0 → ∀ b, b < 0 → a ≠ b → (TJ9 a).2.1 ≠ (TJ9 b).2.1 := by decide +kernel
theorem tyJ9_ok : ∀ k, k < 0 → parseFieldDescriptor (TJ9 k).2.2.1 = some (tyJ9 k) := by decide +kernel
abbrev cJ9_max_7cf53 : ByteArray := prog_16_method_65_code
def yJ9_max_7cf53 : MethodName := ⟨RJ9, "max", "(II)I"⟩
abbrev cJ9_min_7cf53 : ByteArray := prog_16_method_69_code
def yJ9_min_7cf53 : MethodName := ⟨RJ9, "min", "(II)I"⟩
def RJ10 : String := "java/lang/System"
def TJ10 : u_T := fun k => match k with
  | _ => ("", "", "", false)
def tyJ10 : Nat → FieldType := fun k => match k with
  | _ => .int
abbrev wsJ100 : List Cond := u_ws RJ10 TJ10 0
theorem nmJ10 : ∀ a, a < 0 → ∀ b, b < 0 → a ≠ b → (TJ10 a).2.1 ≠ (TJ10 b).2.1 := by decide +kernel
theorem tyJ10_ok : ∀ k, k < 0 → parseFieldDescriptor (TJ10 k).2.2.1 = some (tyJ10 k) := by decide +kernel
def RL : String := "ClashDaysLaw"
abbrev cL_cell : ByteArray := method_2_code
def yL_cell : MethodName := ⟨RL, "cell", "([II)I"⟩
abbrev cL_pick : ByteArray := method_3_code
def yL_pick : MethodName := ⟨RL, "pick", "([III)I"⟩
abbrev cL_papers : ByteArray := method_6_code
def yL_papers : MethodName := ⟨RL, "papers", "([III)[[I"⟩
abbrev cL_cands : ByteArray := method_7_code
def yL_cands : MethodName := ⟨RL, "cands", "([III)[[I"⟩
abbrev cL_isFifth : ByteArray := method_8_code
def yL_isFifth : MethodName := ⟨RL, "isFifth", "([[I[II)Z"⟩
abbrev cL_tell : ByteArray := method_9_code
def yL_tell : MethodName := ⟨RL, "tell", "(LClashDays;[II[I[[I[[I)Z"⟩
abbrev cL_looks : ByteArray := method_10_code
def yL_looks : MethodName := ⟨RL, "looks", "(LClashDays;)J"⟩
abbrev cL_isPlanned : ByteArray := method_11_code
def yL_isPlanned : MethodName := ⟨RL, "isPlanned", "(LClashDays;[[I[III)Z"⟩
abbrev cL_isClash : ByteArray := method_12_code
def yL_isClash : MethodName := ⟨RL, "isClash", "(LClashDays;[[I[III)Z"⟩
abbrev cL_law : ByteArray := code
def yL_law : MethodName := ⟨RL, "law", "([I)Z"⟩
theorem dX0_init_0 : decode cX0_init 0 = .ok (.aload_n 0, 1) := by decide +kernel
theorem dX0_init_1 : decode cX0_init 1 = .ok (.invokespecial 3, 3) := by decide +kernel
theorem dX0_init_4 : decode cX0_init 4 = .ok (.aload_n 0, 1) := by decide +kernel
theorem dX0_init_5 : decode cX0_init 5 = .ok (.bipush 12, 2) := by decide +kernel
theorem dX0_init_7 : decode cX0_init 7 = .ok (.newarray .int, 2) := by decide +kernel
theorem dX0_init_9 : decode cX0_init 9 = .ok (.putfield 9, 3) := by decide +kernel
theorem dX0_init_12 : decode cX0_init 12 = .ok (.aload_n 0, 1) := by decide +kernel
theorem dX0_init_13 : decode cX0_init 13 = .ok (.bipush 12, 2) := by decide +kernel
theorem dX0_init_15 : decode cX0_init 15 = .ok (.newarray .int, 2) := by decide +kernel
theorem dX0_init_17 : decode cX0_init 17 = .ok (.putfield 15, 3) := by decide +kernel
theorem dX0_init_20 : decode cX0_init 20 = .ok (.aload_n 0, 1) := by decide +kernel
theorem dX0_init_21 : decode cX0_init 21 = .ok (.bipush 12, 2) := by decide +kernel
theorem dX0_init_23 : decode cX0_init 23 = .ok (.newarray .int, 2) := by decide +kernel
theorem dX0_init_25 : decode cX0_init 25 = .ok (.putfield 18, 3) := by decide +kernel
theorem dX0_init_28 : decode cX0_init 28 = .ok (.aload_n 0, 1) := by decide +kernel
theorem dX0_init_29 : decode cX0_init 29 = .ok (.bipush 10, 2) := by decide +kernel
theorem dX0_init_31 : decode cX0_init 31 = .ok (.newarray .int, 2) := by decide +kernel
theorem dX0_init_33 : decode cX0_init 33 = .ok (.putfield 21, 3) := by decide +kernel
theorem dX0_init_36 : decode cX0_init 36 = .ok (.aload_n 0, 1) := by decide +kernel
theorem dX0_init_37 : decode cX0_init 37 = .ok (.bipush 10, 2) := by decide +kernel
theorem dX0_init_39 : decode cX0_init 39 = .ok (.newarray .int, 2) := by decide +kernel
theorem dX0_init_41 : decode cX0_init 41 = .ok (.putfield 24, 3) := by decide +kernel
theorem dX0_init_44 : decode cX0_init 44 = .ok (.aload_n 0, 1) := by decide +kernel
theorem dX0_init_45 : decode cX0_init 45 = .ok (.bipush 10, 2) := by decide +kernel
theorem dX0_init_47 : decode cX0_init 47 = .ok (.newarray .int, 2) := by decide +kernel
theorem dX0_init_49 : decode cX0_init 49 = .ok (.putfield 27, 3) := by decide +kernel
theorem dX0_init_52 : decode cX0_init 52 = .ok (.aload_n 0, 1) := by decide +kernel
theorem dX0_init_53 : decode cX0_init 53 = .ok (.bipush 10, 2) := by decide +kernel
theorem dX0_init_55 : decode cX0_init 55 = .ok (.newarray .int, 2) := by decide +kernel
theorem dX0_init_57 : decode cX0_init 57 = .ok (.putfield 30, 3) := by decide +kernel
theorem dX0_init_60 : decode cX0_init 60 = .ok (.aload_n 0, 1) := by decide +kernel
theorem dX0_init_61 : decode cX0_init 61 = .ok (.bipush 6, 2) := by decide +kernel
theorem dX0_init_63 : decode cX0_init 63 = .ok (.newarray .int, 2) := by decide +kernel
theorem dX0_init_65 : decode cX0_init 65 = .ok (.putfield 33, 3) := by decide +kernel
theorem dX0_init_68 : decode cX0_init 68 = .ok (.aload_n 0, 1) := by decide +kernel
theorem dX0_init_69 : decode cX0_init 69 = .ok (.bipush 24, 2) := by decide +kernel
theorem dX0_init_71 : decode cX0_init 71 = .ok (.putfield 36, 3) := by decide +kernel
theorem dX0_init_74 : decode cX0_init 74 = .ok (.aload_n 0, 1) := by decide +kernel
theorem dX0_init_75 : decode cX0_init 75 = .ok (.iconst 1, 1) := by decide +kernel
theorem dX0_init_76 : decode cX0_init 76 = .ok (.putfield 40, 3) := by decide +kernel
theorem dX0_init_79 : decode cX0_init 79 = .ok (.aload_n 0, 1) := by decide +kernel
theorem dX0_init_80 : decode cX0_init 80 = .ok (.iconst 1, 1) := by decide +kernel
theorem dX0_init_81 : decode cX0_init 81 = .ok (.putfield 43, 3) := by decide +kernel
theorem dX0_init_84 : decode cX0_init 84 = .ok (.return_, 1) := by decide +kernel
theorem dX0_become_0 : decode cX0_become 0 = .ok (.aload_n 1, 1) := by decide +kernel
theorem dX0_become_1 : decode cX0_become 1 = .ok (.getfield 9, 3) := by decide +kernel
theorem dX0_become_4 : decode cX0_become 4 = .ok (.iconst 0, 1) := by decide +kernel
theorem dX0_become_5 : decode cX0_become 5 = .ok (.aload_n 0, 1) := by decide +kernel
theorem dX0_become_6 : decode cX0_become 6 = .ok (.getfield 9, 3) := by decide +kernel
theorem dX0_become_9 : decode cX0_become 9 = .ok (.iconst 0, 1) := by decide +kernel
theorem dX0_become_10 : decode cX0_become 10 = .ok (.bipush 12, 2) := by decide +kernel
theorem dX0_become_12 : decode cX0_become 12 = .ok (.invokestatic 46, 3) := by decide +kernel
theorem dX0_become_15 : decode cX0_become 15 = .ok (.aload_n 1, 1) := by decide +kernel
theorem dX0_become_16 : decode cX0_become 16 = .ok (.getfield 15, 3) := by decide +kernel
theorem dX0_become_19 : decode cX0_become 19 = .ok (.iconst 0, 1) := by decide +kernel
theorem dX0_become_20 : decode cX0_become 20 = .ok (.aload_n 0, 1) := by decide +kernel
theorem dX0_become_21 : decode cX0_become 21 = .ok (.getfield 15, 3) := by decide +kernel
theorem dX0_become_24 : decode cX0_become 24 = .ok (.iconst 0, 1) := by decide +kernel
theorem dX0_become_25 : decode cX0_become 25 = .ok (.bipush 12, 2) := by decide +kernel
theorem dX0_become_27 : decode cX0_become 27 = .ok (.invokestatic 46, 3) := by decide +kernel
theorem dX0_become_30 : decode cX0_become 30 = .ok (.aload_n 1, 1) := by decide +kernel
theorem dX0_become_31 : decode cX0_become 31 = .ok (.getfield 18, 3) := by decide +kernel
theorem dX0_become_34 : decode cX0_become 34 = .ok (.iconst 0, 1) := by decide +kernel
theorem dX0_become_35 : decode cX0_become 35 = .ok (.aload_n 0, 1) := by decide +kernel
theorem dX0_become_36 : decode cX0_become 36 = .ok (.getfield 18, 3) := by decide +kernel
theorem dX0_become_39 : decode cX0_become 39 = .ok (.iconst 0, 1) := by decide +kernel
theorem dX0_become_40 : decode cX0_become 40 = .ok (.bipush 12, 2) := by decide +kernel
theorem dX0_become_42 : decode cX0_become 42 = .ok (.invokestatic 46, 3) := by decide +kernel
theorem dX0_become_45 : decode cX0_become 45 = .ok (.aload_n 1, 1) := by decide +kernel
theorem dX0_become_46 : decode cX0_become 46 = .ok (.getfield 21, 3) := by decide +kernel
theorem dX0_become_49 : decode cX0_become 49 = .ok (.iconst 0, 1) := by decide +kernel
theorem dX0_become_50 : decode cX0_become 50 = .ok (.aload_n 0, 1) := by decide +kernel
theorem dX0_become_51 : decode cX0_become 51 = .ok (.getfield 21, 3) := by decide +kernel
theorem dX0_become_54 : decode cX0_become 54 = .ok (.iconst 0, 1) := by decide +kernel
theorem dX0_become_55 : decode cX0_become 55 = .ok (.bipush 10, 2) := by decide +kernel
theorem dX0_become_57 : decode cX0_become 57 = .ok (.invokestatic 46, 3) := by decide +kernel
theorem dX0_become_60 : decode cX0_become 60 = .ok (.aload_n 1, 1) := by decide +kernel
theorem dX0_become_61 : decode cX0_become 61 = .ok (.getfield 24, 3) := by decide +kernel
theorem dX0_become_64 : decode cX0_become 64 = .ok (.iconst 0, 1) := by decide +kernel
theorem dX0_become_65 : decode cX0_become 65 = .ok (.aload_n 0, 1) := by decide +kernel
theorem dX0_become_66 : decode cX0_become 66 = .ok (.getfield 24, 3) := by decide +kernel
theorem dX0_become_69 : decode cX0_become 69 = .ok (.iconst 0, 1) := by decide +kernel
theorem dX0_become_70 : decode cX0_become 70 = .ok (.bipush 10, 2) := by decide +kernel
theorem dX0_become_72 : decode cX0_become 72 = .ok (.invokestatic 46, 3) := by decide +kernel
theorem dX0_become_75 : decode cX0_become 75 = .ok (.aload_n 1, 1) := by decide +kernel
theorem dX0_become_76 : decode cX0_become 76 = .ok (.getfield 27, 3) := by decide +kernel
theorem dX0_become_79 : decode cX0_become 79 = .ok (.iconst 0, 1) := by decide +kernel
theorem dX0_become_80 : decode cX0_become 80 = .ok (.aload_n 0, 1) := by decide +kernel
theorem dX0_become_81 : decode cX0_become 81 = .ok (.getfield 27, 3) := by decide +kernel
theorem dX0_become_84 : decode cX0_become 84 = .ok (.iconst 0, 1) := by decide +kernel
theorem dX0_become_85 : decode cX0_become 85 = .ok (.bipush 10, 2) := by decide +kernel
theorem dX0_become_87 : decode cX0_become 87 = .ok (.invokestatic 46, 3) := by decide +kernel
theorem dX0_become_90 : decode cX0_become 90 = .ok (.aload_n 1, 1) := by decide +kernel
theorem dX0_become_91 : decode cX0_become 91 = .ok (.getfield 30, 3) := by decide +kernel
theorem dX0_become_94 : decode cX0_become 94 = .ok (.iconst 0, 1) := by decide +kernel
theorem dX0_become_95 : decode cX0_become 95 = .ok (.aload_n 0, 1) := by decide +kernel
theorem dX0_become_96 : decode cX0_become 96 = .ok (.getfield 30, 3) := by decide +kernel
theorem dX0_become_99 : decode cX0_become 99 = .ok (.iconst 0, 1) := by decide +kernel
theorem dX0_become_100 : decode cX0_become 100 = .ok (.bipush 10, 2) := by decide +kernel
theorem dX0_become_102 : decode cX0_become 102 = .ok (.invokestatic 46, 3) := by decide +kernel
theorem dX0_become_105 : decode cX0_become 105 = .ok (.aload_n 1, 1) := by decide +kernel
theorem dX0_become_106 : decode cX0_become 106 = .ok (.getfield 33, 3) := by decide +kernel
theorem dX0_become_109 : decode cX0_become 109 = .ok (.iconst 0, 1) := by decide +kernel
theorem dX0_become_110 : decode cX0_become 110 = .ok (.aload_n 0, 1) := by decide +kernel
theorem dX0_become_111 : decode cX0_become 111 = .ok (.getfield 33, 3) := by decide +kernel
theorem dX0_become_114 : decode cX0_become 114 = .ok (.iconst 0, 1) := by decide +kernel
theorem dX0_become_115 : decode cX0_become 115 = .ok (.bipush 6, 2) := by decide +kernel
theorem dX0_become_117 : decode cX0_become 117 = .ok (.invokestatic 46, 3) := by decide +kernel
theorem dX0_become_120 : decode cX0_become 120 = .ok (.aload_n 0, 1) := by decide +kernel
theorem dX0_become_121 : decode cX0_become 121 = .ok (.aload_n 1, 1) := by decide +kernel
theorem dX0_become_122 : decode cX0_become 122 = .ok (.getfield 52, 3) := by decide +kernel
theorem dX0_become_125 : decode cX0_become 125 = .ok (.putfield 52, 3) := by decide +kernel
theorem dX0_become_128 : decode cX0_become 128 = .ok (.aload_n 0, 1) := by decide +kernel
theorem dX0_become_129 : decode cX0_become 129 = .ok (.aload_n 1, 1) := by decide +kernel
theorem dX0_become_130 : decode cX0_become 130 = .ok (.getfield 55, 3) := by decide +kernel
theorem dX0_become_133 : decode cX0_become 133 = .ok (.putfield 55, 3) := by decide +kernel
theorem dX0_become_136 : decode cX0_become 136 = .ok (.aload_n 0, 1) := by decide +kernel
theorem dX0_become_137 : decode cX0_become 137 = .ok (.aload_n 1, 1) := by decide +kernel
theorem dX0_become_138 : decode cX0_become 138 = .ok (.getfield 58, 3) := by decide +kernel
theorem dX0_become_141 : decode cX0_become 141 = .ok (.putfield 58, 3) := by decide +kernel
theorem dX0_become_144 : decode cX0_become 144 = .ok (.aload_n 0, 1) := by decide +kernel
theorem dX0_become_145 : decode cX0_become 145 = .ok (.aload_n 1, 1) := by decide +kernel
theorem dX0_become_146 : decode cX0_become 146 = .ok (.getfield 36, 3) := by decide +kernel
theorem dX0_become_149 : decode cX0_become 149 = .ok (.putfield 36, 3) := by decide +kernel
theorem dX0_become_152 : decode cX0_become 152 = .ok (.aload_n 0, 1) := by decide +kernel
theorem dX0_become_153 : decode cX0_become 153 = .ok (.aload_n 1, 1) := by decide +kernel
theorem dX0_become_154 : decode cX0_become 154 = .ok (.getfield 40, 3) := by decide +kernel
theorem dX0_become_157 : decode cX0_become 157 = .ok (.putfield 40, 3) := by decide +kernel
theorem dX0_become_160 : decode cX0_become 160 = .ok (.aload_n 0, 1) := by decide +kernel
theorem dX0_become_161 : decode cX0_become 161 = .ok (.aload_n 1, 1) := by decide +kernel
theorem dX0_become_162 : decode cX0_become 162 = .ok (.getfield 43, 3) := by decide +kernel
theorem dX0_become_165 : decode cX0_become 165 = .ok (.putfield 43, 3) := by decide +kernel
theorem dX0_become_168 : decode cX0_become 168 = .ok (.return_, 1) := by decide +kernel
theorem dX0_hasPaper_0 : decode cX0_hasPaper 0 = .ok (.lload_n 1, 1) := by decide +kernel
theorem dX0_hasPaper_1 : decode cX0_hasPaper 1 = .ok (.lconst 0, 1) := by decide +kernel
theorem dX0_hasPaper_2 : decode cX0_hasPaper 2 = .ok (.lcmp, 1) := by decide +kernel
theorem dX0_hasPaper_3 : decode cX0_hasPaper 3 = .ok (.ifCond .lt 17, 3) := by decide +kernel
theorem dX0_hasPaper_6 : decode cX0_hasPaper 6 = .ok (.lload_n 1, 1) := by decide +kernel
theorem dX0_hasPaper_7 : decode cX0_hasPaper 7 = .ok (.aload_n 0, 1) := by decide +kernel
theorem dX0_hasPaper_8 : decode cX0_hasPaper 8 = .ok (.getfield 52, 3) := by decide +kernel
theorem dX0_hasPaper_11 : decode cX0_hasPaper 11 = .ok (.i2l, 1) := by decide +kernel
theorem dX0_hasPaper_12 : decode cX0_hasPaper 12 = .ok (.lcmp, 1) := by decide +kernel
theorem dX0_hasPaper_13 : decode cX0_hasPaper 13 = .ok (.ifCond .ge 7, 3) := by decide +kernel
theorem dX0_hasPaper_16 : decode cX0_hasPaper 16 = .ok (.iconst 1, 1) := by decide +kernel
theorem dX0_hasPaper_17 : decode cX0_hasPaper 17 = .ok (.goto 4, 3) := by decide +kernel
theorem dX0_hasPaper_20 : decode cX0_hasPaper 20 = .ok (.iconst 0, 1) := by decide +kernel
theorem dX0_hasPaper_21 : decode cX0_hasPaper 21 = .ok (.ireturn, 1) := by decide +kernel
theorem dX0_hasCand_0 : decode cX0_hasCand 0 = .ok (.iload_n 1, 1) := by decide +kernel
theorem dX0_hasCand_1 : decode cX0_hasCand 1 = .ok (.ifCond .lt 15, 3) := by decide +kernel
theorem dX0_hasCand_4 : decode cX0_hasCand 4 = .ok (.iload_n 1, 1) := by decide +kernel
theorem dX0_hasCand_5 : decode cX0_hasCand 5 = .ok (.aload_n 0, 1) := by decide +kernel
theorem dX0_hasCand_6 : decode cX0_hasCand 6 = .ok (.getfield 55, 3) := by decide +kernel
theorem dX0_hasCand_9 : decode cX0_hasCand 9 = .ok (.if_icmp .ge 7, 3) := by decide +kernel
theorem dX0_hasCand_12 : decode cX0_hasCand 12 = .ok (.iconst 1, 1) := by decide +kernel
theorem dX0_hasCand_13 : decode cX0_hasCand 13 = .ok (.goto 4, 3) := by decide +kernel
theorem dX0_hasCand_16 : decode cX0_hasCand 16 = .ok (.iconst 0, 1) := by decide +kernel
theorem dX0_hasCand_17 : decode cX0_hasCand 17 = .ok (.ireturn, 1) := by decide +kernel
theorem dX0_hasRoom_0 : decode cX0_hasRoom 0 = .ok (.iload_n 1, 1) := by decide +kernel
theorem dX0_hasRoom_1 : decode cX0_hasRoom 1 = .ok (.ifCond .lt 15, 3) := by decide +kernel
theorem dX0_hasRoom_4 : decode cX0_hasRoom 4 = .ok (.iload_n 1, 1) := by decide +kernel
theorem dX0_hasRoom_5 : decode cX0_hasRoom 5 = .ok (.aload_n 0, 1) := by decide +kernel
theorem dX0_hasRoom_6 : decode cX0_hasRoom 6 = .ok (.getfield 58, 3) := by decide +kernel
theorem dX0_hasRoom_9 : decode cX0_hasRoom 9 = .ok (.if_icmp .ge 7, 3) := by decide +kernel
theorem dX0_hasRoom_12 : decode cX0_hasRoom 12 = .ok (.iconst 1, 1) := by decide +kernel
theorem dX0_hasRoom_13 : decode cX0_hasRoom 13 = .ok (.goto 4, 3) := by decide +kernel
theorem dX0_hasRoom_16 : decode cX0_hasRoom 16 = .ok (.iconst 0, 1) := by decide +kernel
theorem dX0_hasRoom_17 : decode cX0_hasRoom 17 = .ok (.ireturn, 1) := by decide +kernel
theorem dX0_addPaper_0 : decode cX0_addPaper 0 = .ok (.aload_n 0, 1) := by decide +kernel
theorem dX0_addPaper_1 : decode cX0_addPaper 1 = .ok (.getfield 52, 3) := by decide +kernel
theorem dX0_addPaper_4 : decode cX0_addPaper 4 = .ok (.bipush 12, 2) := by decide +kernel
theorem dX0_addPaper_6 : decode cX0_addPaper 6 = .ok (.if_icmp .lt 5, 3) := by decide +kernel
theorem dX0_addPaper_9 : decode cX0_addPaper 9 = .ok (.iconst (-1), 1) := by decide +kernel
theorem dX0_addPaper_10 : decode cX0_addPaper 10 = .ok (.ireturn, 1) := by decide +kernel
theorem dX0_addPaper_11 : decode cX0_addPaper 11 = .ok (.aload_n 0, 1) := by decide +kernel
theorem dX0_addPaper_12 : decode cX0_addPaper 12 = .ok (.getfield 9, 3) := by decide +kernel
theorem dX0_addPaper_15 : decode cX0_addPaper 15 = .ok (.aload_n 0, 1) := by decide +kernel
theorem dX0_addPaper_16 : decode cX0_addPaper 16 = .ok (.getfield 52, 3) := by decide +kernel
theorem dX0_addPaper_19 : decode cX0_addPaper 19 = .ok (.iload_n 1, 1) := by decide +kernel
theorem dX0_addPaper_20 : decode cX0_addPaper 20 = .ok (.iastore, 1) := by decide +kernel
theorem dX0_addPaper_21 : decode cX0_addPaper 21 = .ok (.aload_n 0, 1) := by decide +kernel
theorem dX0_addPaper_22 : decode cX0_addPaper 22 = .ok (.getfield 15, 3) := by decide +kernel
theorem dX0_addPaper_25 : decode cX0_addPaper 25 = .ok (.aload_n 0, 1) := by decide +kernel
theorem dX0_addPaper_26 : decode cX0_addPaper 26 = .ok (.getfield 52, 3) := by decide +kernel
theorem dX0_addPaper_29 : decode cX0_addPaper 29 = .ok (.iload_n 2, 1) := by decide +kernel
theorem dX0_addPaper_30 : decode cX0_addPaper 30 = .ok (.iastore, 1) := by decide +kernel
theorem dX0_addPaper_31 : decode cX0_addPaper 31 = .ok (.aload_n 0, 1) := by decide +kernel
theorem dX0_addPaper_32 : decode cX0_addPaper 32 = .ok (.getfield 18, 3) := by decide +kernel
theorem dX0_addPaper_35 : decode cX0_addPaper 35 = .ok (.aload_n 0, 1) := by decide +kernel
theorem dX0_addPaper_36 : decode cX0_addPaper 36 = .ok (.getfield 52, 3) := by decide +kernel
theorem dX0_addPaper_39 : decode cX0_addPaper 39 = .ok (.iload_n 3, 1) := by decide +kernel
theorem dX0_addPaper_40 : decode cX0_addPaper 40 = .ok (.iastore, 1) := by decide +kernel
theorem dX0_addPaper_41 : decode cX0_addPaper 41 = .ok (.aload_n 0, 1) := by decide +kernel
theorem dX0_addPaper_42 : decode cX0_addPaper 42 = .ok (.dup, 1) := by decide +kernel
theorem dX0_addPaper_43 : decode cX0_addPaper 43 = .ok (.getfield 52, 3) := by decide +kernel
theorem dX0_addPaper_46 : decode cX0_addPaper 46 = .ok (.iconst 1, 1) := by decide +kernel
theorem dX0_addPaper_47 : decode cX0_addPaper 47 = .ok (.iadd, 1) := by decide +kernel
theorem dX0_addPaper_48 : decode cX0_addPaper 48 = .ok (.putfield 52, 3) := by decide +kernel
theorem dX0_addPaper_51 : decode cX0_addPaper 51 = .ok (.aload_n 0, 1) := by decide +kernel
theorem dX0_addPaper_52 : decode cX0_addPaper 52 = .ok (.getfield 52, 3) := by decide +kernel
theorem dX0_addPaper_55 : decode cX0_addPaper 55 = .ok (.iconst 1, 1) := by decide +kernel
theorem dX0_addPaper_56 : decode cX0_addPaper 56 = .ok (.isub, 1) := by decide +kernel
theorem dX0_addPaper_57 : decode cX0_addPaper 57 = .ok (.ireturn, 1) := by decide +kernel
theorem dX0_addCand_0 : decode cX0_addCand 0 = .ok (.aload_n 0, 1) := by decide +kernel
theorem dX0_addCand_1 : decode cX0_addCand 1 = .ok (.getfield 55, 3) := by decide +kernel
theorem dX0_addCand_4 : decode cX0_addCand 4 = .ok (.bipush 10, 2) := by decide +kernel
theorem dX0_addCand_6 : decode cX0_addCand 6 = .ok (.if_icmp .lt 5, 3) := by decide +kernel
theorem dX0_addCand_9 : decode cX0_addCand 9 = .ok (.iconst (-1), 1) := by decide +kernel
theorem dX0_addCand_10 : decode cX0_addCand 10 = .ok (.ireturn, 1) := by decide +kernel
theorem dX0_addCand_11 : decode cX0_addCand 11 = .ok (.aload_n 0, 1) := by decide +kernel
theorem dX0_addCand_12 : decode cX0_addCand 12 = .ok (.getfield 21, 3) := by decide +kernel
theorem dX0_addCand_15 : decode cX0_addCand 15 = .ok (.aload_n 0, 1) := by decide +kernel
theorem dX0_addCand_16 : decode cX0_addCand 16 = .ok (.getfield 55, 3) := by decide +kernel
theorem dX0_addCand_19 : decode cX0_addCand 19 = .ok (.iload_n 1, 1) := by decide +kernel
theorem dX0_addCand_20 : decode cX0_addCand 20 = .ok (.iastore, 1) := by decide +kernel
theorem dX0_addCand_21 : decode cX0_addCand 21 = .ok (.aload_n 0, 1) := by decide +kernel
theorem dX0_addCand_22 : decode cX0_addCand 22 = .ok (.getfield 24, 3) := by decide +kernel
theorem dX0_addCand_25 : decode cX0_addCand 25 = .ok (.aload_n 0, 1) := by decide +kernel
theorem dX0_addCand_26 : decode cX0_addCand 26 = .ok (.getfield 55, 3) := by decide +kernel
theorem dX0_addCand_29 : decode cX0_addCand 29 = .ok (.iload_n 2, 1) := by decide +kernel
theorem dX0_addCand_30 : decode cX0_addCand 30 = .ok (.iastore, 1) := by decide +kernel
theorem dX0_addCand_31 : decode cX0_addCand 31 = .ok (.aload_n 0, 1) := by decide +kernel
theorem dX0_addCand_32 : decode cX0_addCand 32 = .ok (.getfield 27, 3) := by decide +kernel
theorem dX0_addCand_35 : decode cX0_addCand 35 = .ok (.aload_n 0, 1) := by decide +kernel
theorem dX0_addCand_36 : decode cX0_addCand 36 = .ok (.getfield 55, 3) := by decide +kernel
theorem dX0_addCand_39 : decode cX0_addCand 39 = .ok (.iconst 0, 1) := by decide +kernel
theorem dX0_addCand_40 : decode cX0_addCand 40 = .ok (.iastore, 1) := by decide +kernel
theorem dX0_addCand_41 : decode cX0_addCand 41 = .ok (.aload_n 0, 1) := by decide +kernel
theorem dX0_addCand_42 : decode cX0_addCand 42 = .ok (.getfield 30, 3) := by decide +kernel
theorem dX0_addCand_45 : decode cX0_addCand 45 = .ok (.aload_n 0, 1) := by decide +kernel
theorem dX0_addCand_46 : decode cX0_addCand 46 = .ok (.getfield 55, 3) := by decide +kernel
theorem dX0_addCand_49 : decode cX0_addCand 49 = .ok (.iconst 0, 1) := by decide +kernel
theorem dX0_addCand_50 : decode cX0_addCand 50 = .ok (.iastore, 1) := by decide +kernel
theorem dX0_addCand_51 : decode cX0_addCand 51 = .ok (.aload_n 0, 1) := by decide +kernel
theorem dX0_addCand_52 : decode cX0_addCand 52 = .ok (.dup, 1) := by decide +kernel
theorem dX0_addCand_53 : decode cX0_addCand 53 = .ok (.getfield 55, 3) := by decide +kernel
theorem dX0_addCand_56 : decode cX0_addCand 56 = .ok (.iconst 1, 1) := by decide +kernel
theorem dX0_addCand_57 : decode cX0_addCand 57 = .ok (.iadd, 1) := by decide +kernel
theorem dX0_addCand_58 : decode cX0_addCand 58 = .ok (.putfield 55, 3) := by decide +kernel
theorem dX0_addCand_61 : decode cX0_addCand 61 = .ok (.aload_n 0, 1) := by decide +kernel
theorem dX0_addCand_62 : decode cX0_addCand 62 = .ok (.getfield 55, 3) := by decide +kernel
theorem dX0_addCand_65 : decode cX0_addCand 65 = .ok (.iconst 1, 1) := by decide +kernel
theorem dX0_addCand_66 : decode cX0_addCand 66 = .ok (.isub, 1) := by decide +kernel
theorem dX0_addCand_67 : decode cX0_addCand 67 = .ok (.ireturn, 1) := by decide +kernel
theorem dX0_addRoom_0 : decode cX0_addRoom 0 = .ok (.aload_n 0, 1) := by decide +kernel
theorem dX0_addRoom_1 : decode cX0_addRoom 1 = .ok (.getfield 58, 3) := by decide +kernel
theorem dX0_addRoom_4 : decode cX0_addRoom 4 = .ok (.bipush 6, 2) := by decide +kernel
theorem dX0_addRoom_6 : decode cX0_addRoom 6 = .ok (.if_icmp .lt 5, 3) := by decide +kernel
theorem dX0_addRoom_9 : decode cX0_addRoom 9 = .ok (.iconst (-1), 1) := by decide +kernel
theorem dX0_addRoom_10 : decode cX0_addRoom 10 = .ok (.ireturn, 1) := by decide +kernel
theorem dX0_addRoom_11 : decode cX0_addRoom 11 = .ok (.aload_n 0, 1) := by decide +kernel
theorem dX0_addRoom_12 : decode cX0_addRoom 12 = .ok (.getfield 33, 3) := by decide +kernel
theorem dX0_addRoom_15 : decode cX0_addRoom 15 = .ok (.aload_n 0, 1) := by decide +kernel
theorem dX0_addRoom_16 : decode cX0_addRoom 16 = .ok (.getfield 58, 3) := by decide +kernel
theorem dX0_addRoom_19 : decode cX0_addRoom 19 = .ok (.iload_n 1, 1) := by decide +kernel
theorem dX0_addRoom_20 : decode cX0_addRoom 20 = .ok (.iastore, 1) := by decide +kernel
theorem dX0_addRoom_21 : decode cX0_addRoom 21 = .ok (.aload_n 0, 1) := by decide +kernel
theorem dX0_addRoom_22 : decode cX0_addRoom 22 = .ok (.dup, 1) := by decide +kernel
theorem dX0_addRoom_23 : decode cX0_addRoom 23 = .ok (.getfield 58, 3) := by decide +kernel
theorem dX0_addRoom_26 : decode cX0_addRoom 26 = .ok (.iconst 1, 1) := by decide +kernel
theorem dX0_addRoom_27 : decode cX0_addRoom 27 = .ok (.iadd, 1) := by decide +kernel
theorem dX0_addRoom_28 : decode cX0_addRoom 28 = .ok (.putfield 58, 3) := by decide +kernel
theorem dX0_addRoom_31 : decode cX0_addRoom 31 = .ok (.aload_n 0, 1) := by decide +kernel
theorem dX0_addRoom_32 : decode cX0_addRoom 32 = .ok (.getfield 58, 3) := by decide +kernel
theorem dX0_addRoom_35 : decode cX0_addRoom 35 = .ok (.iconst 1, 1) := by decide +kernel
theorem dX0_addRoom_36 : decode cX0_addRoom 36 = .ok (.isub, 1) := by decide +kernel
theorem dX0_addRoom_37 : decode cX0_addRoom 37 = .ok (.ireturn, 1) := by decide +kernel
theorem dX0_doesTake_0 : decode cX0_doesTake 0 = .ok (.aload_n 0, 1) := by decide +kernel
theorem dX0_doesTake_1 : decode cX0_doesTake 1 = .ok (.getfield 30, 3) := by decide +kernel
theorem dX0_doesTake_4 : decode cX0_doesTake 4 = .ok (.iload_n 1, 1) := by decide +kernel
theorem dX0_doesTake_5 : decode cX0_doesTake 5 = .ok (.iaload, 1) := by decide +kernel
theorem dX0_doesTake_6 : decode cX0_doesTake 6 = .ok (.iload_n 2, 1) := by decide +kernel
theorem dX0_doesTake_7 : decode cX0_doesTake 7 = .ok (.invokestatic 61, 3) := by decide +kernel
theorem dX0_doesTake_10 : decode cX0_doesTake 10 = .ok (.ireturn, 1) := by decide +kernel
theorem dX0_mayFlip_0 : decode cX0_mayFlip 0 = .ok (.aload_n 0, 1) := by decide +kernel
theorem dX0_mayFlip_1 : decode cX0_mayFlip 1 = .ok (.iload_n 1, 1) := by decide +kernel
theorem dX0_mayFlip_2 : decode cX0_mayFlip 2 = .ok (.iload_n 2, 1) := by decide +kernel
theorem dX0_mayFlip_3 : decode cX0_mayFlip 3 = .ok (.invokevirtual 65, 3) := by decide +kernel
theorem dX0_mayFlip_6 : decode cX0_mayFlip 6 = .ok (.ifCond .ne 27, 3) := by decide +kernel
theorem dX0_mayFlip_9 : decode cX0_mayFlip 9 = .ok (.aload_n 0, 1) := by decide +kernel
theorem dX0_mayFlip_10 : decode cX0_mayFlip 10 = .ok (.getfield 30, 3) := by decide +kernel
theorem dX0_mayFlip_13 : decode cX0_mayFlip 13 = .ok (.iload_n 1, 1) := by decide +kernel
theorem dX0_mayFlip_14 : decode cX0_mayFlip 14 = .ok (.iaload, 1) := by decide +kernel
theorem dX0_mayFlip_15 : decode cX0_mayFlip 15 = .ok (.aload_n 0, 1) := by decide +kernel
theorem dX0_mayFlip_16 : decode cX0_mayFlip 16 = .ok (.aload_n 0, 1) := by decide +kernel
theorem dX0_mayFlip_17 : decode cX0_mayFlip 17 = .ok (.getfield 9, 3) := by decide +kernel
theorem dX0_mayFlip_20 : decode cX0_mayFlip 20 = .ok (.iload_n 2, 1) := by decide +kernel
theorem dX0_mayFlip_21 : decode cX0_mayFlip 21 = .ok (.iaload, 1) := by decide +kernel
theorem dX0_mayFlip_22 : decode cX0_mayFlip 22 = .ok (.invokevirtual 68, 3) := by decide +kernel
theorem dX0_mayFlip_25 : decode cX0_mayFlip 25 = .ok (.iand, 1) := by decide +kernel
theorem dX0_mayFlip_26 : decode cX0_mayFlip 26 = .ok (.invokestatic 72, 3) := by decide +kernel
theorem dX0_mayFlip_29 : decode cX0_mayFlip 29 = .ok (.iconst 4, 1) := by decide +kernel
theorem dX0_mayFlip_30 : decode cX0_mayFlip 30 = .ok (.if_icmp .ge 7, 3) := by decide +kernel
theorem dX0_mayFlip_33 : decode cX0_mayFlip 33 = .ok (.iconst 1, 1) := by decide +kernel
theorem dX0_mayFlip_34 : decode cX0_mayFlip 34 = .ok (.goto 4, 3) := by decide +kernel
theorem dX0_mayFlip_37 : decode cX0_mayFlip 37 = .ok (.iconst 0, 1) := by decide +kernel
theorem dX0_mayFlip_38 : decode cX0_mayFlip 38 = .ok (.ireturn, 1) := by decide +kernel
theorem dX0_flip_0 : decode cX0_flip 0 = .ok (.aload_n 0, 1) := by decide +kernel
theorem dX0_flip_1 : decode cX0_flip 1 = .ok (.getfield 30, 3) := by decide +kernel
theorem dX0_flip_4 : decode cX0_flip 4 = .ok (.iload_n 1, 1) := by decide +kernel
theorem dX0_flip_5 : decode cX0_flip 5 = .ok (.dup2, 1) := by decide +kernel
theorem dX0_flip_6 : decode cX0_flip 6 = .ok (.iaload, 1) := by decide +kernel
theorem dX0_flip_7 : decode cX0_flip 7 = .ok (.iconst 1, 1) := by decide +kernel
theorem dX0_flip_8 : decode cX0_flip 8 = .ok (.iload_n 2, 1) := by decide +kernel
theorem dX0_flip_9 : decode cX0_flip 9 = .ok (.ishl, 1) := by decide +kernel
theorem dX0_flip_10 : decode cX0_flip 10 = .ok (.ixor, 1) := by decide +kernel
theorem dX0_flip_11 : decode cX0_flip 11 = .ok (.iastore, 1) := by decide +kernel
theorem dX0_flip_12 : decode cX0_flip 12 = .ok (.return_, 1) := by decide +kernel
theorem dX0_papersOf_0 : decode cX0_papersOf 0 = .ok (.iconst 0, 1) := by decide +kernel
theorem dX0_papersOf_1 : decode cX0_papersOf 1 = .ok (.istore_n 2, 1) := by decide +kernel
theorem dX0_papersOf_2 : decode cX0_papersOf 2 = .ok (.iconst 0, 1) := by decide +kernel
theorem dX0_papersOf_3 : decode cX0_papersOf 3 = .ok (.istore_n 3, 1) := by decide +kernel
theorem dX0_papersOf_4 : decode cX0_papersOf 4 = .ok (.iload_n 3, 1) := by decide +kernel
theorem dX0_papersOf_5 : decode cX0_papersOf 5 = .ok (.aload_n 0, 1) := by decide +kernel
theorem dX0_papersOf_6 : decode cX0_papersOf 6 = .ok (.getfield 52, 3) := by decide +kernel
theorem dX0_papersOf_9 : decode cX0_papersOf 9 = .ok (.if_icmp .ge 25, 3) := by decide +kernel
theorem dX0_papersOf_12 : decode cX0_papersOf 12 = .ok (.aload_n 0, 1) := by decide +kernel
theorem dX0_papersOf_13 : decode cX0_papersOf 13 = .ok (.getfield 9, 3) := by decide +kernel
theorem dX0_papersOf_16 : decode cX0_papersOf 16 = .ok (.iload_n 3, 1) := by decide +kernel
theorem dX0_papersOf_17 : decode cX0_papersOf 17 = .ok (.iaload, 1) := by decide +kernel
theorem dX0_papersOf_18 : decode cX0_papersOf 18 = .ok (.iload_n 1, 1) := by decide +kernel
theorem dX0_papersOf_19 : decode cX0_papersOf 19 = .ok (.if_icmp .ne 9, 3) := by decide +kernel
theorem dX0_papersOf_22 : decode cX0_papersOf 22 = .ok (.iload_n 2, 1) := by decide +kernel
theorem dX0_papersOf_23 : decode cX0_papersOf 23 = .ok (.iconst 1, 1) := by decide +kernel
theorem dX0_papersOf_24 : decode cX0_papersOf 24 = .ok (.iload_n 3, 1) := by decide +kernel
theorem dX0_papersOf_25 : decode cX0_papersOf 25 = .ok (.ishl, 1) := by decide +kernel
theorem dX0_papersOf_26 : decode cX0_papersOf 26 = .ok (.ior, 1) := by decide +kernel
theorem dX0_papersOf_27 : decode cX0_papersOf 27 = .ok (.istore_n 2, 1) := by decide +kernel
theorem dX0_papersOf_28 : decode cX0_papersOf 28 = .ok (.iinc 3 1, 3) := by decide +kernel
theorem dX0_papersOf_31 : decode cX0_papersOf 31 = .ok (.goto (-27), 3) := by decide +kernel
theorem dX0_papersOf_34 : decode cX0_papersOf 34 = .ok (.iload_n 2, 1) := by decide +kernel
theorem dX0_papersOf_35 : decode cX0_papersOf 35 = .ok (.ireturn, 1) := by decide +kernel
theorem dX0_timeFor_0 : decode cX0_timeFor 0 = .ok (.aload_n 0, 1) := by decide +kernel
theorem dX0_timeFor_1 : decode cX0_timeFor 1 = .ok (.getfield 21, 3) := by decide +kernel
theorem dX0_timeFor_4 : decode cX0_timeFor 4 = .ok (.iload_n 1, 1) := by decide +kernel
theorem dX0_timeFor_5 : decode cX0_timeFor 5 = .ok (.iaload, 1) := by decide +kernel
theorem dX0_timeFor_6 : decode cX0_timeFor 6 = .ok (.aload_n 0, 1) := by decide +kernel
theorem dX0_timeFor_7 : decode cX0_timeFor 7 = .ok (.getfield 24, 3) := by decide +kernel
theorem dX0_timeFor_10 : decode cX0_timeFor 10 = .ok (.iload_n 1, 1) := by decide +kernel
theorem dX0_timeFor_11 : decode cX0_timeFor 11 = .ok (.iaload, 1) := by decide +kernel
theorem dX0_timeFor_12 : decode cX0_timeFor 12 = .ok (.aload_n 0, 1) := by decide +kernel
theorem dX0_timeFor_13 : decode cX0_timeFor 13 = .ok (.getfield 18, 3) := by decide +kernel
theorem dX0_timeFor_16 : decode cX0_timeFor 16 = .ok (.iload_n 2, 1) := by decide +kernel
theorem dX0_timeFor_17 : decode cX0_timeFor 17 = .ok (.iaload, 1) := by decide +kernel
theorem dX0_timeFor_18 : decode cX0_timeFor 18 = .ok (.invokestatic 77, 3) := by decide +kernel
theorem dX0_timeFor_21 : decode cX0_timeFor 21 = .ok (.ireturn, 1) := by decide +kernel
theorem dX0_restFor_0 : decode cX0_restFor 0 = .ok (.aload_n 0, 1) := by decide +kernel
theorem dX0_restFor_1 : decode cX0_restFor 1 = .ok (.getfield 21, 3) := by decide +kernel
theorem dX0_restFor_4 : decode cX0_restFor 4 = .ok (.iload_n 1, 1) := by decide +kernel
theorem dX0_restFor_5 : decode cX0_restFor 5 = .ok (.iaload, 1) := by decide +kernel
theorem dX0_restFor_6 : decode cX0_restFor 6 = .ok (.aload_n 0, 1) := by decide +kernel
theorem dX0_restFor_7 : decode cX0_restFor 7 = .ok (.getfield 24, 3) := by decide +kernel
theorem dX0_restFor_10 : decode cX0_restFor 10 = .ok (.iload_n 1, 1) := by decide +kernel
theorem dX0_restFor_11 : decode cX0_restFor 11 = .ok (.iaload, 1) := by decide +kernel
theorem dX0_restFor_12 : decode cX0_restFor 12 = .ok (.invokestatic 83, 3) := by decide +kernel
theorem dX0_restFor_15 : decode cX0_restFor 15 = .ok (.ireturn, 1) := by decide +kernel
theorem dX0_takenInAll_0 : decode cX0_takenInAll 0 = .ok (.iconst 0, 1) := by decide +kernel
theorem dX0_takenInAll_1 : decode cX0_takenInAll 1 = .ok (.istore_n 1, 1) := by decide +kernel
theorem dX0_takenInAll_2 : decode cX0_takenInAll 2 = .ok (.iconst 0, 1) := by decide +kernel
theorem dX0_takenInAll_3 : decode cX0_takenInAll 3 = .ok (.istore_n 2, 1) := by decide +kernel
theorem dX0_takenInAll_4 : decode cX0_takenInAll 4 = .ok (.iload_n 2, 1) := by decide +kernel
theorem dX0_takenInAll_5 : decode cX0_takenInAll 5 = .ok (.aload_n 0, 1) := by decide +kernel
theorem dX0_takenInAll_6 : decode cX0_takenInAll 6 = .ok (.getfield 55, 3) := by decide +kernel
theorem dX0_takenInAll_9 : decode cX0_takenInAll 9 = .ok (.if_icmp .ge 21, 3) := by decide +kernel
theorem dX0_takenInAll_12 : decode cX0_takenInAll 12 = .ok (.iload_n 1, 1) := by decide +kernel
theorem dX0_takenInAll_13 : decode cX0_takenInAll 13 = .ok (.aload_n 0, 1) := by decide +kernel
theorem dX0_takenInAll_14 : decode cX0_takenInAll 14 = .ok (.getfield 30, 3) := by decide +kernel
theorem dX0_takenInAll_17 : decode cX0_takenInAll 17 = .ok (.iload_n 2, 1) := by decide +kernel
theorem dX0_takenInAll_18 : decode cX0_takenInAll 18 = .ok (.iaload, 1) := by decide +kernel
theorem dX0_takenInAll_19 : decode cX0_takenInAll 19 = .ok (.invokestatic 72, 3) := by decide +kernel
theorem dX0_takenInAll_22 : decode cX0_takenInAll 22 = .ok (.iadd, 1) := by decide +kernel
theorem dX0_takenInAll_23 : decode cX0_takenInAll 23 = .ok (.istore_n 1, 1) := by decide +kernel
theorem dX0_takenInAll_24 : decode cX0_takenInAll 24 = .ok (.iinc 2 1, 3) := by decide +kernel
theorem dX0_takenInAll_27 : decode cX0_takenInAll 27 = .ok (.goto (-23), 3) := by decide +kernel
theorem dX0_takenInAll_30 : decode cX0_takenInAll 30 = .ok (.iload_n 1, 1) := by decide +kernel
theorem dX0_takenInAll_31 : decode cX0_takenInAll 31 = .ok (.ireturn, 1) := by decide +kernel
theorem dX1_init_0 : decode cX1_init 0 = .ok (.aload_n 0, 1) := by decide +kernel
theorem dX1_init_1 : decode cX1_init 1 = .ok (.invokespecial 3, 3) := by decide +kernel
theorem dX1_init_4 : decode cX1_init 4 = .ok (.aload_n 0, 1) := by decide +kernel
theorem dX1_init_5 : decode cX1_init 5 = .ok (.sipush 200, 3) := by decide +kernel
theorem dX1_init_8 : decode cX1_init 8 = .ok (.newarray .int, 2) := by decide +kernel
theorem dX1_init_10 : decode cX1_init 10 = .ok (.putfield 9, 3) := by decide +kernel
theorem dX1_init_13 : decode cX1_init 13 = .ok (.aload_n 0, 1) := by decide +kernel
theorem dX1_init_14 : decode cX1_init 14 = .ok (.sipush 200, 3) := by decide +kernel
theorem dX1_init_17 : decode cX1_init 17 = .ok (.newarray .int, 2) := by decide +kernel
theorem dX1_init_19 : decode cX1_init 19 = .ok (.putfield 15, 3) := by decide +kernel
theorem dX1_init_22 : decode cX1_init 22 = .ok (.aload_n 0, 1) := by decide +kernel
theorem dX1_init_23 : decode cX1_init 23 = .ok (.sipush 200, 3) := by decide +kernel
theorem dX1_init_26 : decode cX1_init 26 = .ok (.newarray .int, 2) := by decide +kernel
theorem dX1_init_28 : decode cX1_init 28 = .ok (.putfield 18, 3) := by decide +kernel
theorem dX1_init_31 : decode cX1_init 31 = .ok (.aload_n 0, 1) := by decide +kernel
theorem dX1_init_32 : decode cX1_init 32 = .ok (.sipush 200, 3) := by decide +kernel
theorem dX1_init_35 : decode cX1_init 35 = .ok (.newarray .int, 2) := by decide +kernel
theorem dX1_init_37 : decode cX1_init 37 = .ok (.putfield 21, 3) := by decide +kernel
theorem dX1_init_40 : decode cX1_init 40 = .ok (.aload_n 0, 1) := by decide +kernel
theorem dX1_init_41 : decode cX1_init 41 = .ok (.sipush 200, 3) := by decide +kernel
theorem dX1_init_44 : decode cX1_init 44 = .ok (.newarray .int, 2) := by decide +kernel
theorem dX1_init_46 : decode cX1_init 46 = .ok (.putfield 24, 3) := by decide +kernel
theorem dX1_init_49 : decode cX1_init 49 = .ok (.aload_n 0, 1) := by decide +kernel
theorem dX1_init_50 : decode cX1_init 50 = .ok (.sipush 200, 3) := by decide +kernel
theorem dX1_init_53 : decode cX1_init 53 = .ok (.newarray .int, 2) := by decide +kernel
theorem dX1_init_55 : decode cX1_init 55 = .ok (.putfield 27, 3) := by decide +kernel
theorem dX1_init_58 : decode cX1_init 58 = .ok (.return_, 1) := by decide +kernel
theorem dX1_count_0 : decode cX1_count 0 = .ok (.aload_n 0, 1) := by decide +kernel
theorem dX1_count_1 : decode cX1_count 1 = .ok (.getfield 30, 3) := by decide +kernel
theorem dX1_count_4 : decode cX1_count 4 = .ok (.ireturn, 1) := by decide +kernel
theorem dX1_watchers_0 : decode cX1_watchers 0 = .ok (.aload_n 0, 1) := by decide +kernel
theorem dX1_watchers_1 : decode cX1_watchers 1 = .ok (.getfield 34, 3) := by decide +kernel
theorem dX1_watchers_4 : decode cX1_watchers 4 = .ok (.ireturn, 1) := by decide +kernel
theorem dX1_atOnce_0 : decode cX1_atOnce 0 = .ok (.aload_n 0, 1) := by decide +kernel
theorem dX1_atOnce_1 : decode cX1_atOnce 1 = .ok (.getfield 37, 3) := by decide +kernel
theorem dX1_atOnce_4 : decode cX1_atOnce 4 = .ok (.ireturn, 1) := by decide +kernel
theorem dX1_tell_0 : decode cX1_tell 0 = .ok (.iload_n 2, 1) := by decide +kernel
theorem dX1_tell_1 : decode cX1_tell 1 = .ok (.tableswitch 59 0 3 #[31, 38, 45, 52], 31) := by decide +kernel
theorem dX1_tell_32 : decode cX1_tell 32 = .ok (.aload_n 0, 1) := by decide +kernel
theorem dX1_tell_33 : decode cX1_tell 33 = .ok (.getfield 9, 3) := by decide +kernel
theorem dX1_tell_36 : decode cX1_tell 36 = .ok (.iload_n 1, 1) := by decide +kernel
theorem dX1_tell_37 : decode cX1_tell 37 = .ok (.iaload, 1) := by decide +kernel
theorem dX1_tell_38 : decode cX1_tell 38 = .ok (.ireturn, 1) := by decide +kernel
theorem dX1_tell_39 : decode cX1_tell 39 = .ok (.aload_n 0, 1) := by decide +kernel
theorem dX1_tell_40 : decode cX1_tell 40 = .ok (.getfield 15, 3) := by decide +kernel
theorem dX1_tell_43 : decode cX1_tell 43 = .ok (.iload_n 1, 1) := by decide +kernel
theorem dX1_tell_44 : decode cX1_tell 44 = .ok (.iaload, 1) := by decide +kernel
theorem dX1_tell_45 : decode cX1_tell 45 = .ok (.ireturn, 1) := by decide +kernel
theorem dX1_tell_46 : decode cX1_tell 46 = .ok (.aload_n 0, 1) := by decide +kernel
theorem dX1_tell_47 : decode cX1_tell 47 = .ok (.getfield 18, 3) := by decide +kernel
theorem dX1_tell_50 : decode cX1_tell 50 = .ok (.iload_n 1, 1) := by decide +kernel
theorem dX1_tell_51 : decode cX1_tell 51 = .ok (.iaload, 1) := by decide +kernel
theorem dX1_tell_52 : decode cX1_tell 52 = .ok (.ireturn, 1) := by decide +kernel
theorem dX1_tell_53 : decode cX1_tell 53 = .ok (.aload_n 0, 1) := by decide +kernel
theorem dX1_tell_54 : decode cX1_tell 54 = .ok (.getfield 21, 3) := by decide +kernel
theorem dX1_tell_57 : decode cX1_tell 57 = .ok (.iload_n 1, 1) := by decide +kernel
theorem dX1_tell_58 : decode cX1_tell 58 = .ok (.iaload, 1) := by decide +kernel
theorem dX1_tell_59 : decode cX1_tell 59 = .ok (.ireturn, 1) := by decide +kernel
theorem dX1_tell_60 : decode cX1_tell 60 = .ok (.aload_n 0, 1) := by decide +kernel
theorem dX1_tell_61 : decode cX1_tell 61 = .ok (.getfield 24, 3) := by decide +kernel
theorem dX1_tell_64 : decode cX1_tell 64 = .ok (.iload_n 1, 1) := by decide +kernel
theorem dX1_tell_65 : decode cX1_tell 65 = .ok (.iaload, 1) := by decide +kernel
theorem dX1_tell_66 : decode cX1_tell 66 = .ok (.ireturn, 1) := by decide +kernel
theorem dX1_gather_0 : decode cX1_gather 0 = .ok (.aload_n 0, 1) := by decide +kernel
theorem dX1_gather_1 : decode cX1_gather 1 = .ok (.getfield 40, 3) := by decide +kernel
theorem dX1_gather_4 : decode cX1_gather 4 = .ok (.aload_n 2, 1) := by decide +kernel
theorem dX1_gather_5 : decode cX1_gather 5 = .ok (.invokevirtual 43, 3) := by decide +kernel
theorem dX1_gather_8 : decode cX1_gather 8 = .ok (.if_icmp .ne 4, 3) := by decide +kernel
theorem dX1_gather_11 : decode cX1_gather 11 = .ok (.return_, 1) := by decide +kernel
theorem dX1_gather_12 : decode cX1_gather 12 = .ok (.aload_n 0, 1) := by decide +kernel
theorem dX1_gather_13 : decode cX1_gather 13 = .ok (.aload_n 2, 1) := by decide +kernel
theorem dX1_gather_14 : decode cX1_gather 14 = .ok (.invokevirtual 43, 3) := by decide +kernel
theorem dX1_gather_17 : decode cX1_gather 17 = .ok (.putfield 40, 3) := by decide +kernel
theorem dX1_gather_20 : decode cX1_gather 20 = .ok (.aload_n 0, 1) := by decide +kernel
theorem dX1_gather_21 : decode cX1_gather 21 = .ok (.iconst 0, 1) := by decide +kernel
theorem dX1_gather_22 : decode cX1_gather 22 = .ok (.putfield 30, 3) := by decide +kernel
theorem dX1_gather_25 : decode cX1_gather 25 = .ok (.iconst 0, 1) := by decide +kernel
theorem dX1_gather_26 : decode cX1_gather 26 = .ok (.istore_n 3, 1) := by decide +kernel
theorem dX1_gather_27 : decode cX1_gather 27 = .ok (.iload_n 3, 1) := by decide +kernel
theorem dX1_gather_28 : decode cX1_gather 28 = .ok (.iconst 5, 1) := by decide +kernel
theorem dX1_gather_29 : decode cX1_gather 29 = .ok (.if_icmp .ge 65, 3) := by decide +kernel
theorem dX1_gather_32 : decode cX1_gather 32 = .ok (.iconst 0, 1) := by decide +kernel
theorem dX1_gather_33 : decode cX1_gather 33 = .ok (.istore 4, 2) := by decide +kernel
theorem dX1_gather_35 : decode cX1_gather 35 = .ok (.iload 4, 2) := by decide +kernel
theorem dX1_gather_37 : decode cX1_gather 37 = .ok (.bipush 48, 2) := by decide +kernel
theorem dX1_gather_39 : decode cX1_gather 39 = .ok (.if_icmp .ge 49, 3) := by decide +kernel
theorem dX1_gather_42 : decode cX1_gather 42 = .ok (.iconst 0, 1) := by decide +kernel
theorem dX1_gather_43 : decode cX1_gather 43 = .ok (.istore 5, 2) := by decide +kernel
theorem dX1_gather_45 : decode cX1_gather 45 = .ok (.iload 5, 2) := by decide +kernel
theorem dX1_gather_47 : decode cX1_gather 47 = .ok (.aload_n 1, 1) := by decide +kernel
theorem dX1_gather_48 : decode cX1_gather 48 = .ok (.getfield 48, 3) := by decide +kernel
theorem dX1_gather_51 : decode cX1_gather 51 = .ok (.if_icmp .ge 31, 3) := by decide +kernel
theorem dX1_gather_54 : decode cX1_gather 54 = .ok (.aload_n 0, 1) := by decide +kernel
theorem dX1_gather_55 : decode cX1_gather 55 = .ok (.iload 5, 2) := by decide +kernel
theorem dX1_gather_57 : decode cX1_gather 57 = .ok (.iload_n 3, 1) := by decide +kernel
theorem dX1_gather_58 : decode cX1_gather 58 = .ok (.iload 4, 2) := by decide +kernel
theorem dX1_gather_60 : decode cX1_gather 60 = .ok (.aload_n 2, 1) := by decide +kernel
theorem dX1_gather_61 : decode cX1_gather 61 = .ok (.aload_n 1, 1) := by decide +kernel
theorem dX1_gather_62 : decode cX1_gather 62 = .ok (.iload 5, 2) := by decide +kernel
theorem dX1_gather_64 : decode cX1_gather 64 = .ok (.invokevirtual 53, 3) := by decide +kernel
theorem dX1_gather_67 : decode cX1_gather 67 = .ok (.iload_n 3, 1) := by decide +kernel
theorem dX1_gather_68 : decode cX1_gather 68 = .ok (.iload 4, 2) := by decide +kernel
theorem dX1_gather_70 : decode cX1_gather 70 = .ok (.invokevirtual 57, 3) := by decide +kernel
theorem dX1_gather_73 : decode cX1_gather 73 = .ok (.invokevirtual 63, 3) := by decide +kernel
theorem dX1_gather_76 : decode cX1_gather 76 = .ok (.iinc 5 1, 3) := by decide +kernel
theorem dX1_gather_79 : decode cX1_gather 79 = .ok (.goto (-34), 3) := by decide +kernel
theorem dX1_gather_82 : decode cX1_gather 82 = .ok (.iinc 4 1, 3) := by decide +kernel
theorem dX1_gather_85 : decode cX1_gather 85 = .ok (.goto (-50), 3) := by decide +kernel
theorem dX1_gather_88 : decode cX1_gather 88 = .ok (.iinc 3 1, 3) := by decide +kernel
theorem dX1_gather_91 : decode cX1_gather 91 = .ok (.goto (-64), 3) := by decide +kernel
theorem dX1_gather_94 : decode cX1_gather 94 = .ok (.aload_n 0, 1) := by decide +kernel
theorem dX1_gather_95 : decode cX1_gather 95 = .ok (.aload_n 1, 1) := by decide +kernel
theorem dX1_gather_96 : decode cX1_gather 96 = .ok (.getfield 67, 3) := by decide +kernel
theorem dX1_gather_99 : decode cX1_gather 99 = .ok (.invokevirtual 70, 3) := by decide +kernel
theorem dX1_gather_102 : decode cX1_gather 102 = .ok (.aload_n 0, 1) := by decide +kernel
theorem dX1_gather_103 : decode cX1_gather 103 = .ok (.aload_n 1, 1) := by decide +kernel
theorem dX1_gather_104 : decode cX1_gather 104 = .ok (.getfield 67, 3) := by decide +kernel
theorem dX1_gather_107 : decode cX1_gather 107 = .ok (.invokevirtual 74, 3) := by decide +kernel
theorem dX1_gather_110 : decode cX1_gather 110 = .ok (.return_, 1) := by decide +kernel
theorem dX1_add_0 : decode cX1_add 0 = .ok (.iload 4, 2) := by decide +kernel
theorem dX1_add_2 : decode cX1_add 2 = .ok (.ifCond .le 64, 3) := by decide +kernel
theorem dX1_add_5 : decode cX1_add 5 = .ok (.aload_n 0, 1) := by decide +kernel
theorem dX1_add_6 : decode cX1_add 6 = .ok (.getfield 30, 3) := by decide +kernel
theorem dX1_add_9 : decode cX1_add 9 = .ok (.sipush 200, 3) := by decide +kernel
theorem dX1_add_12 : decode cX1_add 12 = .ok (.if_icmp .ge 54, 3) := by decide +kernel
theorem dX1_add_15 : decode cX1_add 15 = .ok (.aload_n 0, 1) := by decide +kernel
theorem dX1_add_16 : decode cX1_add 16 = .ok (.getfield 9, 3) := by decide +kernel
theorem dX1_add_19 : decode cX1_add 19 = .ok (.aload_n 0, 1) := by decide +kernel
theorem dX1_add_20 : decode cX1_add 20 = .ok (.getfield 30, 3) := by decide +kernel
theorem dX1_add_23 : decode cX1_add 23 = .ok (.iload_n 1, 1) := by decide +kernel
theorem dX1_add_24 : decode cX1_add 24 = .ok (.iastore, 1) := by decide +kernel
theorem dX1_add_25 : decode cX1_add 25 = .ok (.aload_n 0, 1) := by decide +kernel
theorem dX1_add_26 : decode cX1_add 26 = .ok (.getfield 15, 3) := by decide +kernel
theorem dX1_add_29 : decode cX1_add 29 = .ok (.aload_n 0, 1) := by decide +kernel
theorem dX1_add_30 : decode cX1_add 30 = .ok (.getfield 30, 3) := by decide +kernel
theorem dX1_add_33 : decode cX1_add 33 = .ok (.iload_n 2, 1) := by decide +kernel
theorem dX1_add_34 : decode cX1_add 34 = .ok (.iastore, 1) := by decide +kernel
theorem dX1_add_35 : decode cX1_add 35 = .ok (.aload_n 0, 1) := by decide +kernel
theorem dX1_add_36 : decode cX1_add 36 = .ok (.getfield 18, 3) := by decide +kernel
theorem dX1_add_39 : decode cX1_add 39 = .ok (.aload_n 0, 1) := by decide +kernel
theorem dX1_add_40 : decode cX1_add 40 = .ok (.getfield 30, 3) := by decide +kernel
theorem dX1_add_43 : decode cX1_add 43 = .ok (.iload_n 3, 1) := by decide +kernel
theorem dX1_add_44 : decode cX1_add 44 = .ok (.iastore, 1) := by decide +kernel
theorem dX1_add_45 : decode cX1_add 45 = .ok (.aload_n 0, 1) := by decide +kernel
theorem dX1_add_46 : decode cX1_add 46 = .ok (.getfield 21, 3) := by decide +kernel
theorem dX1_add_49 : decode cX1_add 49 = .ok (.aload_n 0, 1) := by decide +kernel
theorem dX1_add_50 : decode cX1_add 50 = .ok (.getfield 30, 3) := by decide +kernel
theorem dX1_add_53 : decode cX1_add 53 = .ok (.iload 4, 2) := by decide +kernel
theorem dX1_add_55 : decode cX1_add 55 = .ok (.iastore, 1) := by decide +kernel
theorem dX1_add_56 : decode cX1_add 56 = .ok (.aload_n 0, 1) := by decide +kernel
theorem dX1_add_57 : decode cX1_add 57 = .ok (.dup, 1) := by decide +kernel
theorem dX1_add_58 : decode cX1_add 58 = .ok (.getfield 30, 3) := by decide +kernel
theorem dX1_add_61 : decode cX1_add 61 = .ok (.iconst 1, 1) := by decide +kernel
theorem dX1_add_62 : decode cX1_add 62 = .ok (.iadd, 1) := by decide +kernel
theorem dX1_add_63 : decode cX1_add 63 = .ok (.putfield 30, 3) := by decide +kernel
theorem dX1_add_66 : decode cX1_add 66 = .ok (.return_, 1) := by decide +kernel
theorem dX1_beginOf_0 : decode cX1_beginOf 0 = .ok (.aload_n 0, 1) := by decide +kernel
theorem dX1_beginOf_1 : decode cX1_beginOf 1 = .ok (.getfield 15, 3) := by decide +kernel
theorem dX1_beginOf_4 : decode cX1_beginOf 4 = .ok (.iload_n 1, 1) := by decide +kernel
theorem dX1_beginOf_5 : decode cX1_beginOf 5 = .ok (.iaload, 1) := by decide +kernel
theorem dX1_beginOf_6 : decode cX1_beginOf 6 = .ok (.bipush 48, 2) := by decide +kernel
theorem dX1_beginOf_8 : decode cX1_beginOf 8 = .ok (.imul, 1) := by decide +kernel
theorem dX1_beginOf_9 : decode cX1_beginOf 9 = .ok (.aload_n 0, 1) := by decide +kernel
theorem dX1_beginOf_10 : decode cX1_beginOf 10 = .ok (.getfield 18, 3) := by decide +kernel
theorem dX1_beginOf_13 : decode cX1_beginOf 13 = .ok (.iload_n 1, 1) := by decide +kernel
theorem dX1_beginOf_14 : decode cX1_beginOf 14 = .ok (.iaload, 1) := by decide +kernel
theorem dX1_beginOf_15 : decode cX1_beginOf 15 = .ok (.iadd, 1) := by decide +kernel
theorem dX1_beginOf_16 : decode cX1_beginOf 16 = .ok (.ireturn, 1) := by decide +kernel
theorem dX1_giveOut_0 : decode cX1_giveOut 0 = .ok (.aload_n 0, 1) := by decide +kernel
theorem dX1_giveOut_1 : decode cX1_giveOut 1 = .ok (.iconst 0, 1) := by decide +kernel
theorem dX1_giveOut_2 : decode cX1_giveOut 2 = .ok (.putfield 34, 3) := by decide +kernel
theorem dX1_giveOut_5 : decode cX1_giveOut 5 = .ok (.iconst 0, 1) := by decide +kernel
theorem dX1_giveOut_6 : decode cX1_giveOut 6 = .ok (.istore_n 2, 1) := by decide +kernel
theorem dX1_giveOut_7 : decode cX1_giveOut 7 = .ok (.iload_n 2, 1) := by decide +kernel
theorem dX1_giveOut_8 : decode cX1_giveOut 8 = .ok (.aload_n 0, 1) := by decide +kernel
theorem dX1_giveOut_9 : decode cX1_giveOut 9 = .ok (.getfield 30, 3) := by decide +kernel
theorem dX1_giveOut_12 : decode cX1_giveOut 12 = .ok (.if_icmp .ge 51, 3) := by decide +kernel
theorem dX1_giveOut_15 : decode cX1_giveOut 15 = .ok (.aload_n 0, 1) := by decide +kernel
theorem dX1_giveOut_16 : decode cX1_giveOut 16 = .ok (.aload_n 0, 1) := by decide +kernel
theorem dX1_giveOut_17 : decode cX1_giveOut 17 = .ok (.iload_n 2, 1) := by decide +kernel
theorem dX1_giveOut_18 : decode cX1_giveOut 18 = .ok (.invokevirtual 77, 3) := by decide +kernel
theorem dX1_giveOut_21 : decode cX1_giveOut 21 = .ok (.invokevirtual 81, 3) := by decide +kernel
theorem dX1_giveOut_24 : decode cX1_giveOut 24 = .ok (.istore_n 3, 1) := by decide +kernel
theorem dX1_giveOut_25 : decode cX1_giveOut 25 = .ok (.aload_n 0, 1) := by decide +kernel
theorem dX1_giveOut_26 : decode cX1_giveOut 26 = .ok (.getfield 24, 3) := by decide +kernel
theorem dX1_giveOut_29 : decode cX1_giveOut 29 = .ok (.iload_n 2, 1) := by decide +kernel
theorem dX1_giveOut_30 : decode cX1_giveOut 30 = .ok (.iload_n 3, 1) := by decide +kernel
theorem dX1_giveOut_31 : decode cX1_giveOut 31 = .ok (.iastore, 1) := by decide +kernel
theorem dX1_giveOut_32 : decode cX1_giveOut 32 = .ok (.iload_n 3, 1) := by decide +kernel
theorem dX1_giveOut_33 : decode cX1_giveOut 33 = .ok (.iconst (-1), 1) := by decide +kernel
theorem dX1_giveOut_34 : decode cX1_giveOut 34 = .ok (.if_icmp .eq 23, 3) := by decide +kernel
theorem dX1_giveOut_37 : decode cX1_giveOut 37 = .ok (.aload_n 0, 1) := by decide +kernel
theorem dX1_giveOut_38 : decode cX1_giveOut 38 = .ok (.getfield 27, 3) := by decide +kernel
theorem dX1_giveOut_41 : decode cX1_giveOut 41 = .ok (.iload_n 3, 1) := by decide +kernel
theorem dX1_giveOut_42 : decode cX1_giveOut 42 = .ok (.aload_n 0, 1) := by decide +kernel
theorem dX1_giveOut_43 : decode cX1_giveOut 43 = .ok (.iload_n 2, 1) := by decide +kernel
theorem dX1_giveOut_44 : decode cX1_giveOut 44 = .ok (.invokevirtual 77, 3) := by decide +kernel
theorem dX1_giveOut_47 : decode cX1_giveOut 47 = .ok (.aload_n 0, 1) := by decide +kernel
theorem dX1_giveOut_48 : decode cX1_giveOut 48 = .ok (.getfield 21, 3) := by decide +kernel
theorem dX1_giveOut_51 : decode cX1_giveOut 51 = .ok (.iload_n 2, 1) := by decide +kernel
theorem dX1_giveOut_52 : decode cX1_giveOut 52 = .ok (.iaload, 1) := by decide +kernel
theorem dX1_giveOut_53 : decode cX1_giveOut 53 = .ok (.iadd, 1) := by decide +kernel
theorem dX1_giveOut_54 : decode cX1_giveOut 54 = .ok (.iload_n 1, 1) := by decide +kernel
theorem dX1_giveOut_55 : decode cX1_giveOut 55 = .ok (.iadd, 1) := by decide +kernel
theorem dX1_giveOut_56 : decode cX1_giveOut 56 = .ok (.iastore, 1) := by decide +kernel
theorem dX1_giveOut_57 : decode cX1_giveOut 57 = .ok (.iinc 2 1, 3) := by decide +kernel
theorem dX1_giveOut_60 : decode cX1_giveOut 60 = .ok (.goto (-53), 3) := by decide +kernel
theorem dX1_giveOut_63 : decode cX1_giveOut 63 = .ok (.return_, 1) := by decide +kernel
theorem dX1_watcherAt_0 : decode cX1_watcherAt 0 = .ok (.iconst (-1), 1) := by decide +kernel
theorem dX1_watcherAt_1 : decode cX1_watcherAt 1 = .ok (.istore_n 2, 1) := by decide +kernel
theorem dX1_watcherAt_2 : decode cX1_watcherAt 2 = .ok (.iconst 0, 1) := by decide +kernel
theorem dX1_watcherAt_3 : decode cX1_watcherAt 3 = .ok (.istore_n 3, 1) := by decide +kernel
theorem dX1_watcherAt_4 : decode cX1_watcherAt 4 = .ok (.iload_n 3, 1) := by decide +kernel
theorem dX1_watcherAt_5 : decode cX1_watcherAt 5 = .ok (.aload_n 0, 1) := by decide +kernel
theorem dX1_watcherAt_6 : decode cX1_watcherAt 6 = .ok (.getfield 34, 3) := by decide +kernel
theorem dX1_watcherAt_9 : decode cX1_watcherAt 9 = .ok (.if_icmp .ge 41, 3) := by decide +kernel
theorem dX1_watcherAt_12 : decode cX1_watcherAt 12 = .ok (.aload_n 0, 1) := by decide +kernel
theorem dX1_watcherAt_13 : decode cX1_watcherAt 13 = .ok (.getfield 27, 3) := by decide +kernel
theorem dX1_watcherAt_16 : decode cX1_watcherAt 16 = .ok (.iload_n 3, 1) := by decide +kernel
theorem dX1_watcherAt_17 : decode cX1_watcherAt 17 = .ok (.iaload, 1) := by decide +kernel
theorem dX1_watcherAt_18 : decode cX1_watcherAt 18 = .ok (.iload_n 1, 1) := by decide +kernel
theorem dX1_watcherAt_19 : decode cX1_watcherAt 19 = .ok (.if_icmp .gt 25, 3) := by decide +kernel
theorem dX1_watcherAt_22 : decode cX1_watcherAt 22 = .ok (.iload_n 2, 1) := by decide +kernel
theorem dX1_watcherAt_23 : decode cX1_watcherAt 23 = .ok (.iconst (-1), 1) := by decide +kernel
theorem dX1_watcherAt_24 : decode cX1_watcherAt 24 = .ok (.if_icmp .eq 18, 3) := by decide +kernel
theorem dX1_watcherAt_27 : decode cX1_watcherAt 27 = .ok (.aload_n 0, 1) := by decide +kernel
theorem dX1_watcherAt_28 : decode cX1_watcherAt 28 = .ok (.getfield 27, 3) := by decide +kernel
theorem dX1_watcherAt_31 : decode cX1_watcherAt 31 = .ok (.iload_n 3, 1) := by decide +kernel
theorem dX1_watcherAt_32 : decode cX1_watcherAt 32 = .ok (.iaload, 1) := by decide +kernel
theorem dX1_watcherAt_33 : decode cX1_watcherAt 33 = .ok (.aload_n 0, 1) := by decide +kernel
theorem dX1_watcherAt_34 : decode cX1_watcherAt 34 = .ok (.getfield 27, 3) := by decide +kernel
theorem dX1_watcherAt_37 : decode cX1_watcherAt 37 = .ok (.iload_n 2, 1) := by decide +kernel
theorem dX1_watcherAt_38 : decode cX1_watcherAt 38 = .ok (.iaload, 1) := by decide +kernel
theorem dX1_watcherAt_39 : decode cX1_watcherAt 39 = .ok (.if_icmp .le 5, 3) := by decide +kernel
theorem dX1_watcherAt_42 : decode cX1_watcherAt 42 = .ok (.iload_n 3, 1) := by decide +kernel
theorem dX1_watcherAt_43 : decode cX1_watcherAt 43 = .ok (.istore_n 2, 1) := by decide +kernel
theorem dX1_watcherAt_44 : decode cX1_watcherAt 44 = .ok (.iinc 3 1, 3) := by decide +kernel
theorem dX1_watcherAt_47 : decode cX1_watcherAt 47 = .ok (.goto (-43), 3) := by decide +kernel
theorem dX1_watcherAt_50 : decode cX1_watcherAt 50 = .ok (.iload_n 2, 1) := by decide +kernel
theorem dX1_watcherAt_51 : decode cX1_watcherAt 51 = .ok (.iconst (-1), 1) := by decide +kernel
theorem dX1_watcherAt_52 : decode cX1_watcherAt 52 = .ok (.if_icmp .ne 28, 3) := by decide +kernel
theorem dX1_watcherAt_55 : decode cX1_watcherAt 55 = .ok (.aload_n 0, 1) := by decide +kernel
theorem dX1_watcherAt_56 : decode cX1_watcherAt 56 = .ok (.getfield 34, 3) := by decide +kernel
theorem dX1_watcherAt_59 : decode cX1_watcherAt 59 = .ok (.sipush 200, 3) := by decide +kernel
theorem dX1_watcherAt_62 : decode cX1_watcherAt 62 = .ok (.if_icmp .ge 18, 3) := by decide +kernel
theorem dX1_watcherAt_65 : decode cX1_watcherAt 65 = .ok (.aload_n 0, 1) := by decide +kernel
theorem dX1_watcherAt_66 : decode cX1_watcherAt 66 = .ok (.getfield 34, 3) := by decide +kernel
theorem dX1_watcherAt_69 : decode cX1_watcherAt 69 = .ok (.istore_n 2, 1) := by decide +kernel
theorem dX1_watcherAt_70 : decode cX1_watcherAt 70 = .ok (.aload_n 0, 1) := by decide +kernel
theorem dX1_watcherAt_71 : decode cX1_watcherAt 71 = .ok (.dup, 1) := by decide +kernel
theorem dX1_watcherAt_72 : decode cX1_watcherAt 72 = .ok (.getfield 34, 3) := by decide +kernel
theorem dX1_watcherAt_75 : decode cX1_watcherAt 75 = .ok (.iconst 1, 1) := by decide +kernel
theorem dX1_watcherAt_76 : decode cX1_watcherAt 76 = .ok (.iadd, 1) := by decide +kernel
theorem dX1_watcherAt_77 : decode cX1_watcherAt 77 = .ok (.putfield 34, 3) := by decide +kernel
theorem dX1_watcherAt_80 : decode cX1_watcherAt 80 = .ok (.iload_n 2, 1) := by decide +kernel
theorem dX1_watcherAt_81 : decode cX1_watcherAt 81 = .ok (.ireturn, 1) := by decide +kernel
theorem dX1_countAtOnce_0 : decode cX1_countAtOnce 0 = .ok (.aload_n 0, 1) := by decide +kernel
theorem dX1_countAtOnce_1 : decode cX1_countAtOnce 1 = .ok (.iconst 0, 1) := by decide +kernel
theorem dX1_countAtOnce_2 : decode cX1_countAtOnce 2 = .ok (.putfield 37, 3) := by decide +kernel
theorem dX1_countAtOnce_5 : decode cX1_countAtOnce 5 = .ok (.iconst 0, 1) := by decide +kernel
theorem dX1_countAtOnce_6 : decode cX1_countAtOnce 6 = .ok (.istore_n 2, 1) := by decide +kernel
theorem dX1_countAtOnce_7 : decode cX1_countAtOnce 7 = .ok (.iload_n 2, 1) := by decide +kernel
theorem dX1_countAtOnce_8 : decode cX1_countAtOnce 8 = .ok (.aload_n 0, 1) := by decide +kernel
theorem dX1_countAtOnce_9 : decode cX1_countAtOnce 9 = .ok (.getfield 30, 3) := by decide +kernel
theorem dX1_countAtOnce_12 : decode cX1_countAtOnce 12 = .ok (.if_icmp .ge 82, 3) := by decide +kernel
theorem dX1_countAtOnce_15 : decode cX1_countAtOnce 15 = .ok (.iconst 0, 1) := by decide +kernel
theorem dX1_countAtOnce_16 : decode cX1_countAtOnce 16 = .ok (.istore_n 3, 1) := by decide +kernel
theorem dX1_countAtOnce_17 : decode cX1_countAtOnce 17 = .ok (.iconst 0, 1) := by decide +kernel
theorem dX1_countAtOnce_18 : decode cX1_countAtOnce 18 = .ok (.istore 4, 2) := by decide +kernel
theorem dX1_countAtOnce_20 : decode cX1_countAtOnce 20 = .ok (.iload 4, 2) := by decide +kernel
theorem dX1_countAtOnce_22 : decode cX1_countAtOnce 22 = .ok (.aload_n 0, 1) := by decide +kernel
theorem dX1_countAtOnce_23 : decode cX1_countAtOnce 23 = .ok (.getfield 30, 3) := by decide +kernel
theorem dX1_countAtOnce_26 : decode cX1_countAtOnce 26 = .ok (.if_icmp .ge 50, 3) := by decide +kernel
theorem dX1_countAtOnce_29 : decode cX1_countAtOnce 29 = .ok (.aload_n 0, 1) := by decide +kernel
theorem dX1_countAtOnce_30 : decode cX1_countAtOnce 30 = .ok (.iload 4, 2) := by decide +kernel
theorem dX1_countAtOnce_32 : decode cX1_countAtOnce 32 = .ok (.invokevirtual 77, 3) := by decide +kernel
theorem dX1_countAtOnce_35 : decode cX1_countAtOnce 35 = .ok (.aload_n 0, 1) := by decide +kernel
theorem dX1_countAtOnce_36 : decode cX1_countAtOnce 36 = .ok (.iload_n 2, 1) := by decide +kernel
theorem dX1_countAtOnce_37 : decode cX1_countAtOnce 37 = .ok (.invokevirtual 77, 3) := by decide +kernel
theorem dX1_countAtOnce_40 : decode cX1_countAtOnce 40 = .ok (.if_icmp .gt 30, 3) := by decide +kernel
theorem dX1_countAtOnce_43 : decode cX1_countAtOnce 43 = .ok (.aload_n 0, 1) := by decide +kernel
theorem dX1_countAtOnce_44 : decode cX1_countAtOnce 44 = .ok (.iload_n 2, 1) := by decide +kernel
theorem dX1_countAtOnce_45 : decode cX1_countAtOnce 45 = .ok (.invokevirtual 77, 3) := by decide +kernel
theorem dX1_countAtOnce_48 : decode cX1_countAtOnce 48 = .ok (.aload_n 0, 1) := by decide +kernel
theorem dX1_countAtOnce_49 : decode cX1_countAtOnce 49 = .ok (.iload 4, 2) := by decide +kernel
theorem dX1_countAtOnce_51 : decode cX1_countAtOnce 51 = .ok (.invokevirtual 77, 3) := by decide +kernel
theorem dX1_countAtOnce_54 : decode cX1_countAtOnce 54 = .ok (.aload_n 0, 1) := by decide +kernel
theorem dX1_countAtOnce_55 : decode cX1_countAtOnce 55 = .ok (.getfield 21, 3) := by decide +kernel
theorem dX1_countAtOnce_58 : decode cX1_countAtOnce 58 = .ok (.iload 4, 2) := by decide +kernel
theorem dX1_countAtOnce_60 : decode cX1_countAtOnce 60 = .ok (.iaload, 1) := by decide +kernel
theorem dX1_countAtOnce_61 : decode cX1_countAtOnce 61 = .ok (.iadd, 1) := by decide +kernel
theorem dX1_countAtOnce_62 : decode cX1_countAtOnce 62 = .ok (.iload_n 1, 1) := by decide +kernel
theorem dX1_countAtOnce_63 : decode cX1_countAtOnce 63 = .ok (.iadd, 1) := by decide +kernel
theorem dX1_countAtOnce_64 : decode cX1_countAtOnce 64 = .ok (.if_icmp .ge 6, 3) := by decide +kernel
theorem dX1_countAtOnce_67 : decode cX1_countAtOnce 67 = .ok (.iinc 3 1, 3) := by decide +kernel
theorem dX1_countAtOnce_70 : decode cX1_countAtOnce 70 = .ok (.iinc 4 1, 3) := by decide +kernel
theorem dX1_countAtOnce_73 : decode cX1_countAtOnce 73 = .ok (.goto (-53), 3) := by decide +kernel
theorem dX1_countAtOnce_76 : decode cX1_countAtOnce 76 = .ok (.aload_n 0, 1) := by decide +kernel
theorem dX1_countAtOnce_77 : decode cX1_countAtOnce 77 = .ok (.aload_n 0, 1) := by decide +kernel
theorem dX1_countAtOnce_78 : decode cX1_countAtOnce 78 = .ok (.getfield 37, 3) := by decide +kernel
theorem dX1_countAtOnce_81 : decode cX1_countAtOnce 81 = .ok (.iload_n 3, 1) := by decide +kernel
theorem dX1_countAtOnce_82 : decode cX1_countAtOnce 82 = .ok (.invokestatic 84, 3) := by decide +kernel
theorem dX1_countAtOnce_85 : decode cX1_countAtOnce 85 = .ok (.putfield 37, 3) := by decide +kernel
theorem dX1_countAtOnce_88 : decode cX1_countAtOnce 88 = .ok (.iinc 2 1, 3) := by decide +kernel
theorem dX1_countAtOnce_91 : decode cX1_countAtOnce 91 = .ok (.goto (-84), 3) := by decide +kernel
theorem dX1_countAtOnce_94 : decode cX1_countAtOnce 94 = .ok (.return_, 1) := by decide +kernel
theorem dX2_isKind_0 : decode cX2_isKind 0 = .ok (.iload_n 0, 1) := by decide +kernel
theorem dX2_isKind_1 : decode cX2_isKind 1 = .ok (.ifCond .lt 13, 3) := by decide +kernel
theorem dX2_isKind_4 : decode cX2_isKind 4 = .ok (.iload_n 0, 1) := by decide +kernel
theorem dX2_isKind_5 : decode cX2_isKind 5 = .ok (.bipush 6, 2) := by decide +kernel
theorem dX2_isKind_7 : decode cX2_isKind 7 = .ok (.if_icmp .ge 7, 3) := by decide +kernel
theorem dX2_isKind_10 : decode cX2_isKind 10 = .ok (.iconst 1, 1) := by decide +kernel
theorem dX2_isKind_11 : decode cX2_isKind 11 = .ok (.goto 4, 3) := by decide +kernel
theorem dX2_isKind_14 : decode cX2_isKind 14 = .ok (.iconst 0, 1) := by decide +kernel
theorem dX2_isKind_15 : decode cX2_isKind 15 = .ok (.ireturn, 1) := by decide +kernel
theorem dX2_timeOf_0 : decode cX2_timeOf 0 = .ok (.iload_n 2, 1) := by decide +kernel
theorem dX2_timeOf_1 : decode cX2_timeOf 1 = .ok (.iload_n 2, 1) := by decide +kernel
theorem dX2_timeOf_2 : decode cX2_timeOf 2 = .ok (.iload_n 1, 1) := by decide +kernel
theorem dX2_timeOf_3 : decode cX2_timeOf 3 = .ok (.imul, 1) := by decide +kernel
theorem dX2_timeOf_4 : decode cX2_timeOf 4 = .ok (.bipush 9, 2) := by decide +kernel
theorem dX2_timeOf_6 : decode cX2_timeOf 6 = .ok (.iadd, 1) := by decide +kernel
theorem dX2_timeOf_7 : decode cX2_timeOf 7 = .ok (.bipush 10, 2) := by decide +kernel
theorem dX2_timeOf_9 : decode cX2_timeOf 9 = .ok (.idiv, 1) := by decide +kernel
theorem dX2_timeOf_10 : decode cX2_timeOf 10 = .ok (.iadd, 1) := by decide +kernel
theorem dX2_timeOf_11 : decode cX2_timeOf 11 = .ok (.istore_n 3, 1) := by decide +kernel
theorem dX2_timeOf_12 : decode cX2_timeOf 12 = .ok (.iload_n 0, 1) := by decide +kernel
theorem dX2_timeOf_13 : decode cX2_timeOf 13 = .ok (.tableswitch 45 1 5 #[35, 45, 37, 45, 41], 35) := by decide +kernel
theorem dX2_timeOf_48 : decode cX2_timeOf 48 = .ok (.iload_n 3, 1) := by decide +kernel
theorem dX2_timeOf_49 : decode cX2_timeOf 49 = .ok (.ireturn, 1) := by decide +kernel
theorem dX2_timeOf_50 : decode cX2_timeOf 50 = .ok (.iload_n 3, 1) := by decide +kernel
theorem dX2_timeOf_51 : decode cX2_timeOf 51 = .ok (.iconst 1, 1) := by decide +kernel
theorem dX2_timeOf_52 : decode cX2_timeOf 52 = .ok (.iadd, 1) := by decide +kernel
theorem dX2_timeOf_53 : decode cX2_timeOf 53 = .ok (.ireturn, 1) := by decide +kernel
theorem dX2_timeOf_54 : decode cX2_timeOf 54 = .ok (.iload_n 2, 1) := by decide +kernel
theorem dX2_timeOf_55 : decode cX2_timeOf 55 = .ok (.iconst 2, 1) := by decide +kernel
theorem dX2_timeOf_56 : decode cX2_timeOf 56 = .ok (.iadd, 1) := by decide +kernel
theorem dX2_timeOf_57 : decode cX2_timeOf 57 = .ok (.ireturn, 1) := by decide +kernel
theorem dX2_timeOf_58 : decode cX2_timeOf 58 = .ok (.iload_n 2, 1) := by decide +kernel
theorem dX2_timeOf_59 : decode cX2_timeOf 59 = .ok (.ireturn, 1) := by decide +kernel
theorem dX2_restOf_0 : decode cX2_restOf 0 = .ok (.iconst 1, 1) := by decide +kernel
theorem dX2_restOf_1 : decode cX2_restOf 1 = .ok (.iload_n 1, 1) := by decide +kernel
theorem dX2_restOf_2 : decode cX2_restOf 2 = .ok (.iconst 3, 1) := by decide +kernel
theorem dX2_restOf_3 : decode cX2_restOf 3 = .ok (.idiv, 1) := by decide +kernel
theorem dX2_restOf_4 : decode cX2_restOf 4 = .ok (.iadd, 1) := by decide +kernel
theorem dX2_restOf_5 : decode cX2_restOf 5 = .ok (.istore_n 2, 1) := by decide +kernel
theorem dX2_restOf_6 : decode cX2_restOf 6 = .ok (.iload_n 0, 1) := by decide +kernel
theorem dX2_restOf_7 : decode cX2_restOf 7 = .ok (.tableswitch 37 2 5 #[29, 37, 31, 35], 29) := by decide +kernel
theorem dX2_restOf_36 : decode cX2_restOf 36 = .ok (.iload_n 2, 1) := by decide +kernel
theorem dX2_restOf_37 : decode cX2_restOf 37 = .ok (.ireturn, 1) := by decide +kernel
theorem dX2_restOf_38 : decode cX2_restOf 38 = .ok (.iconst 2, 1) := by decide +kernel
theorem dX2_restOf_39 : decode cX2_restOf 39 = .ok (.iload_n 2, 1) := by decide +kernel
theorem dX2_restOf_40 : decode cX2_restOf 40 = .ok (.imul, 1) := by decide +kernel
theorem dX2_restOf_41 : decode cX2_restOf 41 = .ok (.ireturn, 1) := by decide +kernel
theorem dX2_restOf_42 : decode cX2_restOf 42 = .ok (.iconst 2, 1) := by decide +kernel
theorem dX2_restOf_43 : decode cX2_restOf 43 = .ok (.ireturn, 1) := by decide +kernel
theorem dX2_restOf_44 : decode cX2_restOf 44 = .ok (.iconst 1, 1) := by decide +kernel
theorem dX2_restOf_45 : decode cX2_restOf 45 = .ok (.ireturn, 1) := by decide +kernel
theorem dX3_init_0 : decode cX3_init 0 = .ok (.aload_n 0, 1) := by decide +kernel
theorem dX3_init_1 : decode cX3_init 1 = .ok (.invokespecial 3, 3) := by decide +kernel
theorem dX3_init_4 : decode cX3_init 4 = .ok (.aload_n 0, 1) := by decide +kernel
theorem dX3_init_5 : decode cX3_init 5 = .ok (.iconst 4, 1) := by decide +kernel
theorem dX3_init_6 : decode cX3_init 6 = .ok (.newarray .int, 2) := by decide +kernel
theorem dX3_init_8 : decode cX3_init 8 = .ok (.putfield 9, 3) := by decide +kernel
theorem dX3_init_11 : decode cX3_init 11 = .ok (.aload_n 0, 1) := by decide +kernel
theorem dX3_init_12 : decode cX3_init 12 = .ok (.iconst 4, 1) := by decide +kernel
theorem dX3_init_13 : decode cX3_init 13 = .ok (.newarray .int, 2) := by decide +kernel
theorem dX3_init_15 : decode cX3_init 15 = .ok (.putfield 15, 3) := by decide +kernel
theorem dX3_init_18 : decode cX3_init 18 = .ok (.aload_n 0, 1) := by decide +kernel
theorem dX3_init_19 : decode cX3_init 19 = .ok (.iconst 4, 1) := by decide +kernel
theorem dX3_init_20 : decode cX3_init 20 = .ok (.newarray .int, 2) := by decide +kernel
theorem dX3_init_22 : decode cX3_init 22 = .ok (.putfield 18, 3) := by decide +kernel
theorem dX3_init_25 : decode cX3_init 25 = .ok (.aload_n 0, 1) := by decide +kernel
theorem dX3_init_26 : decode cX3_init 26 = .ok (.iconst 4, 1) := by decide +kernel
theorem dX3_init_27 : decode cX3_init 27 = .ok (.newarray .int, 2) := by decide +kernel
theorem dX3_init_29 : decode cX3_init 29 = .ok (.putfield 21, 3) := by decide +kernel
theorem dX3_init_32 : decode cX3_init 32 = .ok (.aload_n 0, 1) := by decide +kernel
theorem dX3_init_33 : decode cX3_init 33 = .ok (.iconst 4, 1) := by decide +kernel
theorem dX3_init_34 : decode cX3_init 34 = .ok (.newarray .int, 2) := by decide +kernel
theorem dX3_init_36 : decode cX3_init 36 = .ok (.putfield 24, 3) := by decide +kernel
theorem dX3_init_39 : decode cX3_init 39 = .ok (.aload_n 0, 1) := by decide +kernel
theorem dX3_init_40 : decode cX3_init 40 = .ok (.iconst 4, 1) := by decide +kernel
theorem dX3_init_41 : decode cX3_init 41 = .ok (.newarray .int, 2) := by decide +kernel
theorem dX3_init_43 : decode cX3_init 43 = .ok (.putfield 27, 3) := by decide +kernel
theorem dX3_init_46 : decode cX3_init 46 = .ok (.return_, 1) := by decide +kernel
theorem dX3_count_0 : decode cX3_count 0 = .ok (.aload_n 0, 1) := by decide +kernel
theorem dX3_count_1 : decode cX3_count 1 = .ok (.getfield 30, 3) := by decide +kernel
theorem dX3_count_4 : decode cX3_count 4 = .ok (.ireturn, 1) := by decide +kernel
theorem dX3_lawfulOnes_0 : decode cX3_lawfulOnes 0 = .ok (.aload_n 0, 1) := by decide +kernel
theorem dX3_lawfulOnes_1 : decode cX3_lawfulOnes 1 = .ok (.getfield 34, 3) := by decide +kernel
theorem dX3_lawfulOnes_4 : decode cX3_lawfulOnes 4 = .ok (.ireturn, 1) := by decide +kernel
theorem dX3_least_0 : decode cX3_least 0 = .ok (.aload_n 0, 1) := by decide +kernel
theorem dX3_least_1 : decode cX3_least 1 = .ok (.getfield 37, 3) := by decide +kernel
theorem dX3_least_4 : decode cX3_least 4 = .ok (.ireturn, 1) := by decide +kernel
theorem dX3_keptSlots_0 : decode cX3_keptSlots 0 = .ok (.aload_n 0, 1) := by decide +kernel
theorem dX3_keptSlots_1 : decode cX3_keptSlots 1 = .ok (.getfield 40, 3) := by decide +kernel
theorem dX3_keptSlots_4 : decode cX3_keptSlots 4 = .ok (.lreturn, 1) := by decide +kernel
theorem dX3_paperAt_0 : decode cX3_paperAt 0 = .ok (.iload_n 1, 1) := by decide +kernel
theorem dX3_paperAt_1 : decode cX3_paperAt 1 = .ok (.ifCond .lt 25, 3) := by decide +kernel
theorem dX3_paperAt_4 : decode cX3_paperAt 4 = .ok (.iload_n 1, 1) := by decide +kernel
theorem dX3_paperAt_5 : decode cX3_paperAt 5 = .ok (.aload_n 0, 1) := by decide +kernel
theorem dX3_paperAt_6 : decode cX3_paperAt 6 = .ok (.getfield 30, 3) := by decide +kernel
theorem dX3_paperAt_9 : decode cX3_paperAt 9 = .ok (.if_icmp .ge 17, 3) := by decide +kernel
theorem dX3_paperAt_12 : decode cX3_paperAt 12 = .ok (.aload_n 0, 1) := by decide +kernel
theorem dX3_paperAt_13 : decode cX3_paperAt 13 = .ok (.getfield 9, 3) := by decide +kernel
theorem dX3_paperAt_16 : decode cX3_paperAt 16 = .ok (.aload_n 0, 1) := by decide +kernel
theorem dX3_paperAt_17 : decode cX3_paperAt 17 = .ok (.getfield 24, 3) := by decide +kernel
theorem dX3_paperAt_20 : decode cX3_paperAt 20 = .ok (.iload_n 1, 1) := by decide +kernel
theorem dX3_paperAt_21 : decode cX3_paperAt 21 = .ok (.iaload, 1) := by decide +kernel
theorem dX3_paperAt_22 : decode cX3_paperAt 22 = .ok (.iaload, 1) := by decide +kernel
theorem dX3_paperAt_23 : decode cX3_paperAt 23 = .ok (.goto 4, 3) := by decide +kernel
theorem dX3_paperAt_26 : decode cX3_paperAt 26 = .ok (.iconst (-1), 1) := by decide +kernel
theorem dX3_paperAt_27 : decode cX3_paperAt 27 = .ok (.ireturn, 1) := by decide +kernel
theorem dX3_beginAt_0 : decode cX3_beginAt 0 = .ok (.iload_n 1, 1) := by decide +kernel
theorem dX3_beginAt_1 : decode cX3_beginAt 1 = .ok (.ifCond .lt 20, 3) := by decide +kernel
theorem dX3_beginAt_4 : decode cX3_beginAt 4 = .ok (.iload_n 1, 1) := by decide +kernel
theorem dX3_beginAt_5 : decode cX3_beginAt 5 = .ok (.aload_n 0, 1) := by decide +kernel
theorem dX3_beginAt_6 : decode cX3_beginAt 6 = .ok (.getfield 30, 3) := by decide +kernel
theorem dX3_beginAt_9 : decode cX3_beginAt 9 = .ok (.if_icmp .ge 12, 3) := by decide +kernel
theorem dX3_beginAt_12 : decode cX3_beginAt 12 = .ok (.aload_n 0, 1) := by decide +kernel
theorem dX3_beginAt_13 : decode cX3_beginAt 13 = .ok (.getfield 27, 3) := by decide +kernel
theorem dX3_beginAt_16 : decode cX3_beginAt 16 = .ok (.iload_n 1, 1) := by decide +kernel
theorem dX3_beginAt_17 : decode cX3_beginAt 17 = .ok (.iaload, 1) := by decide +kernel
theorem dX3_beginAt_18 : decode cX3_beginAt 18 = .ok (.goto 4, 3) := by decide +kernel
theorem dX3_beginAt_21 : decode cX3_beginAt 21 = .ok (.iconst (-1), 1) := by decide +kernel
theorem dX3_beginAt_22 : decode cX3_beginAt 22 = .ok (.ireturn, 1) := by decide +kernel
theorem dX3_endAt_0 : decode cX3_endAt 0 = .ok (.iload_n 1, 1) := by decide +kernel
theorem dX3_endAt_1 : decode cX3_endAt 1 = .ok (.ifCond .lt 32, 3) := by decide +kernel
theorem dX3_endAt_4 : decode cX3_endAt 4 = .ok (.iload_n 1, 1) := by decide +kernel
theorem dX3_endAt_5 : decode cX3_endAt 5 = .ok (.aload_n 0, 1) := by decide +kernel
theorem dX3_endAt_6 : decode cX3_endAt 6 = .ok (.getfield 30, 3) := by decide +kernel
theorem dX3_endAt_9 : decode cX3_endAt 9 = .ok (.if_icmp .ge 24, 3) := by decide +kernel
theorem dX3_endAt_12 : decode cX3_endAt 12 = .ok (.aload_n 0, 1) := by decide +kernel
theorem dX3_endAt_13 : decode cX3_endAt 13 = .ok (.getfield 27, 3) := by decide +kernel
theorem dX3_endAt_16 : decode cX3_endAt 16 = .ok (.iload_n 1, 1) := by decide +kernel
theorem dX3_endAt_17 : decode cX3_endAt 17 = .ok (.iaload, 1) := by decide +kernel
theorem dX3_endAt_18 : decode cX3_endAt 18 = .ok (.aload_n 0, 1) := by decide +kernel
theorem dX3_endAt_19 : decode cX3_endAt 19 = .ok (.getfield 18, 3) := by decide +kernel
theorem dX3_endAt_22 : decode cX3_endAt 22 = .ok (.aload_n 0, 1) := by decide +kernel
theorem dX3_endAt_23 : decode cX3_endAt 23 = .ok (.getfield 24, 3) := by decide +kernel
theorem dX3_endAt_26 : decode cX3_endAt 26 = .ok (.iload_n 1, 1) := by decide +kernel
theorem dX3_endAt_27 : decode cX3_endAt 27 = .ok (.iaload, 1) := by decide +kernel
theorem dX3_endAt_28 : decode cX3_endAt 28 = .ok (.iaload, 1) := by decide +kernel
theorem dX3_endAt_29 : decode cX3_endAt 29 = .ok (.iadd, 1) := by decide +kernel
theorem dX3_endAt_30 : decode cX3_endAt 30 = .ok (.goto 4, 3) := by decide +kernel
theorem dX3_endAt_33 : decode cX3_endAt 33 = .ok (.iconst (-1), 1) := by decide +kernel
theorem dX3_endAt_34 : decode cX3_endAt 34 = .ok (.ireturn, 1) := by decide +kernel
theorem dX3_gather_0 : decode cX3_gather 0 = .ok (.aload_n 0, 1) := by decide +kernel
theorem dX3_gather_1 : decode cX3_gather 1 = .ok (.iconst 0, 1) := by decide +kernel
theorem dX3_gather_2 : decode cX3_gather 2 = .ok (.putfield 30, 3) := by decide +kernel
theorem dX3_gather_5 : decode cX3_gather 5 = .ok (.aload_n 0, 1) := by decide +kernel
theorem dX3_gather_6 : decode cX3_gather 6 = .ok (.aload_n 1, 1) := by decide +kernel
theorem dX3_gather_7 : decode cX3_gather 7 = .ok (.iload_n 2, 1) := by decide +kernel
theorem dX3_gather_8 : decode cX3_gather 8 = .ok (.invokevirtual 44, 3) := by decide +kernel
theorem dX3_gather_11 : decode cX3_gather 11 = .ok (.putfield 50, 3) := by decide +kernel
theorem dX3_gather_14 : decode cX3_gather 14 = .ok (.aload_n 0, 1) := by decide +kernel
theorem dX3_gather_15 : decode cX3_gather 15 = .ok (.iload 4, 2) := by decide +kernel
theorem dX3_gather_17 : decode cX3_gather 17 = .ok (.putfield 53, 3) := by decide +kernel
theorem dX3_gather_20 : decode cX3_gather 20 = .ok (.aload_n 0, 1) := by decide +kernel
theorem dX3_gather_21 : decode cX3_gather 21 = .ok (.aload_n 1, 1) := by decide +kernel
theorem dX3_gather_22 : decode cX3_gather 22 = .ok (.getfield 56, 3) := by decide +kernel
theorem dX3_gather_25 : decode cX3_gather 25 = .ok (.iload 5, 2) := by decide +kernel
theorem dX3_gather_27 : decode cX3_gather 27 = .ok (.isub, 1) := by decide +kernel
theorem dX3_gather_28 : decode cX3_gather 28 = .ok (.putfield 59, 3) := by decide +kernel
theorem dX3_gather_31 : decode cX3_gather 31 = .ok (.aload_n 0, 1) := by decide +kernel
theorem dX3_gather_32 : decode cX3_gather 32 = .ok (.iconst 0, 1) := by decide +kernel
theorem dX3_gather_33 : decode cX3_gather 33 = .ok (.iload 5, 2) := by decide +kernel
theorem dX3_gather_35 : decode cX3_gather 35 = .ok (.invokestatic 62, 3) := by decide +kernel
theorem dX3_gather_38 : decode cX3_gather 38 = .ok (.putfield 66, 3) := by decide +kernel
theorem dX3_gather_41 : decode cX3_gather 41 = .ok (.iconst 0, 1) := by decide +kernel
theorem dX3_gather_42 : decode cX3_gather 42 = .ok (.istore 6, 2) := by decide +kernel
theorem dX3_gather_44 : decode cX3_gather 44 = .ok (.iload 6, 2) := by decide +kernel
theorem dX3_gather_46 : decode cX3_gather 46 = .ok (.aload_n 1, 1) := by decide +kernel
theorem dX3_gather_47 : decode cX3_gather 47 = .ok (.getfield 69, 3) := by decide +kernel
theorem dX3_gather_50 : decode cX3_gather 50 = .ok (.if_icmp .ge 97, 3) := by decide +kernel
theorem dX3_gather_53 : decode cX3_gather 53 = .ok (.iload_n 3, 1) := by decide +kernel
theorem dX3_gather_54 : decode cX3_gather 54 = .ok (.iload 6, 2) := by decide +kernel
theorem dX3_gather_56 : decode cX3_gather 56 = .ok (.invokestatic 72, 3) := by decide +kernel
theorem dX3_gather_59 : decode cX3_gather 59 = .ok (.ifCond .eq 82, 3) := by decide +kernel
theorem dX3_gather_62 : decode cX3_gather 62 = .ok (.aload_n 0, 1) := by decide +kernel
theorem dX3_gather_63 : decode cX3_gather 63 = .ok (.getfield 30, 3) := by decide +kernel
theorem dX3_gather_66 : decode cX3_gather 66 = .ok (.iconst 4, 1) := by decide +kernel
theorem dX3_gather_67 : decode cX3_gather 67 = .ok (.if_icmp .ge 74, 3) := by decide +kernel
theorem dX3_gather_70 : decode cX3_gather 70 = .ok (.aload_n 0, 1) := by decide +kernel
theorem dX3_gather_71 : decode cX3_gather 71 = .ok (.getfield 9, 3) := by decide +kernel
theorem dX3_gather_74 : decode cX3_gather 74 = .ok (.aload_n 0, 1) := by decide +kernel
theorem dX3_gather_75 : decode cX3_gather 75 = .ok (.getfield 30, 3) := by decide +kernel
theorem dX3_gather_78 : decode cX3_gather 78 = .ok (.iload 6, 2) := by decide +kernel
theorem dX3_gather_80 : decode cX3_gather 80 = .ok (.iastore, 1) := by decide +kernel
theorem dX3_gather_81 : decode cX3_gather 81 = .ok (.aload_n 0, 1) := by decide +kernel
theorem dX3_gather_82 : decode cX3_gather 82 = .ok (.getfield 15, 3) := by decide +kernel
theorem dX3_gather_85 : decode cX3_gather 85 = .ok (.aload_n 0, 1) := by decide +kernel
theorem dX3_gather_86 : decode cX3_gather 86 = .ok (.getfield 30, 3) := by decide +kernel
theorem dX3_gather_89 : decode cX3_gather 89 = .ok (.aload_n 1, 1) := by decide +kernel
theorem dX3_gather_90 : decode cX3_gather 90 = .ok (.getfield 76, 3) := by decide +kernel
theorem dX3_gather_93 : decode cX3_gather 93 = .ok (.iload 6, 2) := by decide +kernel
theorem dX3_gather_95 : decode cX3_gather 95 = .ok (.iaload, 1) := by decide +kernel
theorem dX3_gather_96 : decode cX3_gather 96 = .ok (.iastore, 1) := by decide +kernel
theorem dX3_gather_97 : decode cX3_gather 97 = .ok (.aload_n 0, 1) := by decide +kernel
theorem dX3_gather_98 : decode cX3_gather 98 = .ok (.getfield 18, 3) := by decide +kernel
theorem dX3_gather_101 : decode cX3_gather 101 = .ok (.aload_n 0, 1) := by decide +kernel
theorem dX3_gather_102 : decode cX3_gather 102 = .ok (.getfield 30, 3) := by decide +kernel
theorem dX3_gather_105 : decode cX3_gather 105 = .ok (.aload_n 1, 1) := by decide +kernel
theorem dX3_gather_106 : decode cX3_gather 106 = .ok (.iload_n 2, 1) := by decide +kernel
theorem dX3_gather_107 : decode cX3_gather 107 = .ok (.iload 6, 2) := by decide +kernel
theorem dX3_gather_109 : decode cX3_gather 109 = .ok (.invokevirtual 79, 3) := by decide +kernel
theorem dX3_gather_112 : decode cX3_gather 112 = .ok (.iastore, 1) := by decide +kernel
theorem dX3_gather_113 : decode cX3_gather 113 = .ok (.aload_n 0, 1) := by decide +kernel
theorem dX3_gather_114 : decode cX3_gather 114 = .ok (.dup, 1) := by decide +kernel
theorem dX3_gather_115 : decode cX3_gather 115 = .ok (.getfield 59, 3) := by decide +kernel
theorem dX3_gather_118 : decode cX3_gather 118 = .ok (.aload_n 0, 1) := by decide +kernel
theorem dX3_gather_119 : decode cX3_gather 119 = .ok (.getfield 18, 3) := by decide +kernel
theorem dX3_gather_122 : decode cX3_gather 122 = .ok (.aload_n 0, 1) := by decide +kernel
theorem dX3_gather_123 : decode cX3_gather 123 = .ok (.getfield 30, 3) := by decide +kernel
theorem dX3_gather_126 : decode cX3_gather 126 = .ok (.iaload, 1) := by decide +kernel
theorem dX3_gather_127 : decode cX3_gather 127 = .ok (.isub, 1) := by decide +kernel
theorem dX3_gather_128 : decode cX3_gather 128 = .ok (.putfield 59, 3) := by decide +kernel
theorem dX3_gather_131 : decode cX3_gather 131 = .ok (.aload_n 0, 1) := by decide +kernel
theorem dX3_gather_132 : decode cX3_gather 132 = .ok (.dup, 1) := by decide +kernel
theorem dX3_gather_133 : decode cX3_gather 133 = .ok (.getfield 30, 3) := by decide +kernel
theorem dX3_gather_136 : decode cX3_gather 136 = .ok (.iconst 1, 1) := by decide +kernel
theorem dX3_gather_137 : decode cX3_gather 137 = .ok (.iadd, 1) := by decide +kernel
theorem dX3_gather_138 : decode cX3_gather 138 = .ok (.putfield 30, 3) := by decide +kernel
theorem dX3_gather_141 : decode cX3_gather 141 = .ok (.iinc 6 1, 3) := by decide +kernel
theorem dX3_gather_144 : decode cX3_gather 144 = .ok (.goto (-100), 3) := by decide +kernel
theorem dX3_gather_147 : decode cX3_gather 147 = .ok (.return_, 1) := by decide +kernel
theorem dX3_search_0 : decode cX3_search 0 = .ok (.aload_n 0, 1) := by decide +kernel
theorem dX3_search_1 : decode cX3_search 1 = .ok (.iconst 0, 1) := by decide +kernel
theorem dX3_search_2 : decode cX3_search 2 = .ok (.putfield 34, 3) := by decide +kernel
theorem dX3_search_5 : decode cX3_search 5 = .ok (.aload_n 0, 1) := by decide +kernel
theorem dX3_search_6 : decode cX3_search 6 = .ok (.iconst 0, 1) := by decide +kernel
theorem dX3_search_7 : decode cX3_search 7 = .ok (.putfield 37, 3) := by decide +kernel
theorem dX3_search_10 : decode cX3_search 10 = .ok (.aload_n 0, 1) := by decide +kernel
theorem dX3_search_11 : decode cX3_search 11 = .ok (.getfield 59, 3) := by decide +kernel
theorem dX3_search_14 : decode cX3_search 14 = .ok (.ifCond .ge 5, 3) := by decide +kernel
theorem dX3_search_17 : decode cX3_search 17 = .ok (.iconst 0, 1) := by decide +kernel
theorem dX3_search_18 : decode cX3_search 18 = .ok (.ireturn, 1) := by decide +kernel
theorem dX3_search_19 : decode cX3_search 19 = .ok (.iconst 0, 1) := by decide +kernel
theorem dX3_search_20 : decode cX3_search 20 = .ok (.istore 4, 2) := by decide +kernel
theorem dX3_search_22 : decode cX3_search 22 = .ok (.iload 4, 2) := by decide +kernel
theorem dX3_search_24 : decode cX3_search 24 = .ok (.aload_n 0, 1) := by decide +kernel
theorem dX3_search_25 : decode cX3_search 25 = .ok (.getfield 30, 3) := by decide +kernel
theorem dX3_search_28 : decode cX3_search 28 = .ok (.if_icmp .ge 18, 3) := by decide +kernel
theorem dX3_search_31 : decode cX3_search 31 = .ok (.aload_n 0, 1) := by decide +kernel
theorem dX3_search_32 : decode cX3_search 32 = .ok (.getfield 21, 3) := by decide +kernel
theorem dX3_search_35 : decode cX3_search 35 = .ok (.iload 4, 2) := by decide +kernel
theorem dX3_search_37 : decode cX3_search 37 = .ok (.iload 4, 2) := by decide +kernel
theorem dX3_search_39 : decode cX3_search 39 = .ok (.iastore, 1) := by decide +kernel
theorem dX3_search_40 : decode cX3_search 40 = .ok (.iinc 4 1, 3) := by decide +kernel
theorem dX3_search_43 : decode cX3_search 43 = .ok (.goto (-21), 3) := by decide +kernel
theorem dX3_search_46 : decode cX3_search 46 = .ok (.iconst 1, 1) := by decide +kernel
theorem dX3_search_47 : decode cX3_search 47 = .ok (.istore 4, 2) := by decide +kernel
theorem dX3_search_49 : decode cX3_search 49 = .ok (.iconst 0, 1) := by decide +kernel
theorem dX3_search_50 : decode cX3_search 50 = .ok (.istore 5, 2) := by decide +kernel
theorem dX3_search_52 : decode cX3_search 52 = .ok (.iload 5, 2) := by decide +kernel
theorem dX3_search_54 : decode cX3_search 54 = .ok (.bipush 25, 2) := by decide +kernel
theorem dX3_search_56 : decode cX3_search 56 = .ok (.if_icmp .ge 85, 3) := by decide +kernel
theorem dX3_search_59 : decode cX3_search 59 = .ok (.iload 4, 2) := by decide +kernel
theorem dX3_search_61 : decode cX3_search 61 = .ok (.ifCond .eq 80, 3) := by decide +kernel
theorem dX3_search_64 : decode cX3_search 64 = .ok (.aload_n 0, 1) := by decide +kernel
theorem dX3_search_65 : decode cX3_search 65 = .ok (.aload_n 0, 1) := by decide +kernel
theorem dX3_search_66 : decode cX3_search 66 = .ok (.getfield 21, 3) := by decide +kernel
theorem dX3_search_69 : decode cX3_search 69 = .ok (.lload_n 2, 1) := by decide +kernel
theorem dX3_search_70 : decode cX3_search 70 = .ok (.invokevirtual 83, 3) := by decide +kernel
theorem dX3_search_73 : decode cX3_search 73 = .ok (.ifCond .eq 56, 3) := by decide +kernel
theorem dX3_search_76 : decode cX3_search 76 = .ok (.aload_n 0, 1) := by decide +kernel
theorem dX3_search_77 : decode cX3_search 77 = .ok (.iload_n 1, 1) := by decide +kernel
theorem dX3_search_78 : decode cX3_search 78 = .ok (.invokevirtual 87, 3) := by decide +kernel
theorem dX3_search_81 : decode cX3_search 81 = .ok (.istore 6, 2) := by decide +kernel
theorem dX3_search_83 : decode cX3_search 83 = .ok (.aload_n 0, 1) := by decide +kernel
theorem dX3_search_84 : decode cX3_search 84 = .ok (.getfield 34, 3) := by decide +kernel
theorem dX3_search_87 : decode cX3_search 87 = .ok (.ifCond .eq 12, 3) := by decide +kernel
theorem dX3_search_90 : decode cX3_search 90 = .ok (.iload 6, 2) := by decide +kernel
theorem dX3_search_92 : decode cX3_search 92 = .ok (.aload_n 0, 1) := by decide +kernel
theorem dX3_search_93 : decode cX3_search 93 = .ok (.getfield 37, 3) := by decide +kernel
theorem dX3_search_96 : decode cX3_search 96 = .ok (.if_icmp .ge 23, 3) := by decide +kernel
theorem dX3_search_99 : decode cX3_search 99 = .ok (.aload_n 0, 1) := by decide +kernel
theorem dX3_search_100 : decode cX3_search 100 = .ok (.iload 6, 2) := by decide +kernel
theorem dX3_search_102 : decode cX3_search 102 = .ok (.putfield 37, 3) := by decide +kernel
theorem dX3_search_105 : decode cX3_search 105 = .ok (.aload_n 0, 1) := by decide +kernel
theorem dX3_search_106 : decode cX3_search 106 = .ok (.getfield 21, 3) := by decide +kernel
theorem dX3_search_109 : decode cX3_search 109 = .ok (.iconst 0, 1) := by decide +kernel
theorem dX3_search_110 : decode cX3_search 110 = .ok (.aload_n 0, 1) := by decide +kernel
theorem dX3_search_111 : decode cX3_search 111 = .ok (.getfield 24, 3) := by decide +kernel
theorem dX3_search_114 : decode cX3_search 114 = .ok (.iconst 0, 1) := by decide +kernel
theorem dX3_search_115 : decode cX3_search 115 = .ok (.iconst 4, 1) := by decide +kernel
theorem dX3_search_116 : decode cX3_search 116 = .ok (.invokestatic 90, 3) := by decide +kernel
theorem dX3_search_119 : decode cX3_search 119 = .ok (.aload_n 0, 1) := by decide +kernel
theorem dX3_search_120 : decode cX3_search 120 = .ok (.dup, 1) := by decide +kernel
theorem dX3_search_121 : decode cX3_search 121 = .ok (.getfield 34, 3) := by decide +kernel
theorem dX3_search_124 : decode cX3_search 124 = .ok (.iconst 1, 1) := by decide +kernel
theorem dX3_search_125 : decode cX3_search 125 = .ok (.iadd, 1) := by decide +kernel
theorem dX3_search_126 : decode cX3_search 126 = .ok (.putfield 34, 3) := by decide +kernel
theorem dX3_search_129 : decode cX3_search 129 = .ok (.aload_n 0, 1) := by decide +kernel
theorem dX3_search_130 : decode cX3_search 130 = .ok (.invokevirtual 96, 3) := by decide +kernel
theorem dX3_search_133 : decode cX3_search 133 = .ok (.istore 4, 2) := by decide +kernel
theorem dX3_search_135 : decode cX3_search 135 = .ok (.iinc 5 1, 3) := by decide +kernel
theorem dX3_search_138 : decode cX3_search 138 = .ok (.goto (-86), 3) := by decide +kernel
theorem dX3_search_141 : decode cX3_search 141 = .ok (.aload_n 0, 1) := by decide +kernel
theorem dX3_search_142 : decode cX3_search 142 = .ok (.getfield 34, 3) := by decide +kernel
theorem dX3_search_145 : decode cX3_search 145 = .ok (.ifCond .le 19, 3) := by decide +kernel
theorem dX3_search_148 : decode cX3_search 148 = .ok (.aload_n 0, 1) := by decide +kernel
theorem dX3_search_149 : decode cX3_search 149 = .ok (.aload_n 0, 1) := by decide +kernel
theorem dX3_search_150 : decode cX3_search 150 = .ok (.getfield 24, 3) := by decide +kernel
theorem dX3_search_153 : decode cX3_search 153 = .ok (.lload_n 2, 1) := by decide +kernel
theorem dX3_search_154 : decode cX3_search 154 = .ok (.invokevirtual 83, 3) := by decide +kernel
theorem dX3_search_157 : decode cX3_search 157 = .ok (.ifCond .eq 7, 3) := by decide +kernel
theorem dX3_search_160 : decode cX3_search 160 = .ok (.iconst 1, 1) := by decide +kernel
theorem dX3_search_161 : decode cX3_search 161 = .ok (.goto 4, 3) := by decide +kernel
theorem dX3_search_164 : decode cX3_search 164 = .ok (.iconst 0, 1) := by decide +kernel
theorem dX3_search_165 : decode cX3_search 165 = .ok (.ireturn, 1) := by decide +kernel
theorem dX3_walk_0 : decode cX3_walk 0 = .ok (.aload_n 0, 1) := by decide +kernel
theorem dX3_walk_1 : decode cX3_walk 1 = .ok (.getfield 66, 3) := by decide +kernel
theorem dX3_walk_4 : decode cX3_walk 4 = .ok (.lstore 4, 2) := by decide +kernel
theorem dX3_walk_6 : decode cX3_walk 6 = .ok (.lload_n 2, 1) := by decide +kernel
theorem dX3_walk_7 : decode cX3_walk 7 = .ok (.lstore 6, 2) := by decide +kernel
theorem dX3_walk_9 : decode cX3_walk 9 = .ok (.aload_n 0, 1) := by decide +kernel
theorem dX3_walk_10 : decode cX3_walk 10 = .ok (.getfield 53, 3) := by decide +kernel
theorem dX3_walk_13 : decode cX3_walk 13 = .ok (.istore 8, 2) := by decide +kernel
theorem dX3_walk_15 : decode cX3_walk 15 = .ok (.iconst 0, 1) := by decide +kernel
theorem dX3_walk_16 : decode cX3_walk 16 = .ok (.istore 9, 2) := by decide +kernel
theorem dX3_walk_18 : decode cX3_walk 18 = .ok (.iload 9, 2) := by decide +kernel
theorem dX3_walk_20 : decode cX3_walk 20 = .ok (.aload_n 0, 1) := by decide +kernel
theorem dX3_walk_21 : decode cX3_walk 21 = .ok (.getfield 30, 3) := by decide +kernel
theorem dX3_walk_24 : decode cX3_walk 24 = .ok (.if_icmp .ge 97, 3) := by decide +kernel
theorem dX3_walk_27 : decode cX3_walk 27 = .ok (.aload_n 1, 1) := by decide +kernel
theorem dX3_walk_28 : decode cX3_walk 28 = .ok (.iload 9, 2) := by decide +kernel
theorem dX3_walk_30 : decode cX3_walk 30 = .ok (.iaload, 1) := by decide +kernel
theorem dX3_walk_31 : decode cX3_walk 31 = .ok (.istore 10, 2) := by decide +kernel
theorem dX3_walk_33 : decode cX3_walk 33 = .ok (.aload_n 0, 1) := by decide +kernel
theorem dX3_walk_34 : decode cX3_walk 34 = .ok (.getfield 15, 3) := by decide +kernel
theorem dX3_walk_37 : decode cX3_walk 37 = .ok (.iload 10, 2) := by decide +kernel
theorem dX3_walk_39 : decode cX3_walk 39 = .ok (.iaload, 1) := by decide +kernel
theorem dX3_walk_40 : decode cX3_walk 40 = .ok (.iload 8, 2) := by decide +kernel
theorem dX3_walk_42 : decode cX3_walk 42 = .ok (.invokestatic 100, 3) := by decide +kernel
theorem dX3_walk_45 : decode cX3_walk 45 = .ok (.istore 11, 2) := by decide +kernel
theorem dX3_walk_47 : decode cX3_walk 47 = .ok (.iload 11, 2) := by decide +kernel
theorem dX3_walk_49 : decode cX3_walk 49 = .ok (.aload_n 0, 1) := by decide +kernel
theorem dX3_walk_50 : decode cX3_walk 50 = .ok (.getfield 18, 3) := by decide +kernel
theorem dX3_walk_53 : decode cX3_walk 53 = .ok (.iload 10, 2) := by decide +kernel
theorem dX3_walk_55 : decode cX3_walk 55 = .ok (.iaload, 1) := by decide +kernel
theorem dX3_walk_56 : decode cX3_walk 56 = .ok (.iadd, 1) := by decide +kernel
theorem dX3_walk_57 : decode cX3_walk 57 = .ok (.istore 12, 2) := by decide +kernel
theorem dX3_walk_59 : decode cX3_walk 59 = .ok (.iload 12, 2) := by decide +kernel
theorem dX3_walk_61 : decode cX3_walk 61 = .ok (.bipush 48, 2) := by decide +kernel
theorem dX3_walk_63 : decode cX3_walk 63 = .ok (.if_icmp .le 5, 3) := by decide +kernel
theorem dX3_walk_66 : decode cX3_walk 66 = .ok (.iconst 0, 1) := by decide +kernel
theorem dX3_walk_67 : decode cX3_walk 67 = .ok (.ireturn, 1) := by decide +kernel
theorem dX3_walk_68 : decode cX3_walk 68 = .ok (.aload_n 0, 1) := by decide +kernel
theorem dX3_walk_69 : decode cX3_walk 69 = .ok (.getfield 27, 3) := by decide +kernel
theorem dX3_walk_72 : decode cX3_walk 72 = .ok (.iload 9, 2) := by decide +kernel
theorem dX3_walk_74 : decode cX3_walk 74 = .ok (.iload 11, 2) := by decide +kernel
theorem dX3_walk_76 : decode cX3_walk 76 = .ok (.iastore, 1) := by decide +kernel
theorem dX3_walk_77 : decode cX3_walk 77 = .ok (.lload 4, 2) := by decide +kernel
theorem dX3_walk_79 : decode cX3_walk 79 = .ok (.iload 11, 2) := by decide +kernel
theorem dX3_walk_81 : decode cX3_walk 81 = .ok (.iload 12, 2) := by decide +kernel
theorem dX3_walk_83 : decode cX3_walk 83 = .ok (.invokestatic 62, 3) := by decide +kernel
theorem dX3_walk_86 : decode cX3_walk 86 = .ok (.lor, 1) := by decide +kernel
theorem dX3_walk_87 : decode cX3_walk 87 = .ok (.lstore 4, 2) := by decide +kernel
theorem dX3_walk_89 : decode cX3_walk 89 = .ok (.lload 6, 2) := by decide +kernel
theorem dX3_walk_91 : decode cX3_walk 91 = .ok (.aload_n 0, 1) := by decide +kernel
theorem dX3_walk_92 : decode cX3_walk 92 = .ok (.getfield 15, 3) := by decide +kernel
theorem dX3_walk_95 : decode cX3_walk 95 = .ok (.iload 10, 2) := by decide +kernel
theorem dX3_walk_97 : decode cX3_walk 97 = .ok (.iaload, 1) := by decide +kernel
theorem dX3_walk_98 : decode cX3_walk 98 = .ok (.iload 11, 2) := by decide +kernel
theorem dX3_walk_100 : decode cX3_walk 100 = .ok (.invokestatic 62, 3) := by decide +kernel
theorem dX3_walk_103 : decode cX3_walk 103 = .ok (.lor, 1) := by decide +kernel
theorem dX3_walk_104 : decode cX3_walk 104 = .ok (.lstore 6, 2) := by decide +kernel
theorem dX3_walk_106 : decode cX3_walk 106 = .ok (.iload 12, 2) := by decide +kernel
theorem dX3_walk_108 : decode cX3_walk 108 = .ok (.aload_n 0, 1) := by decide +kernel
theorem dX3_walk_109 : decode cX3_walk 109 = .ok (.getfield 50, 3) := by decide +kernel
theorem dX3_walk_112 : decode cX3_walk 112 = .ok (.iadd, 1) := by decide +kernel
theorem dX3_walk_113 : decode cX3_walk 113 = .ok (.istore 8, 2) := by decide +kernel
theorem dX3_walk_115 : decode cX3_walk 115 = .ok (.iinc 9 1, 3) := by decide +kernel
theorem dX3_walk_118 : decode cX3_walk 118 = .ok (.goto (-100), 3) := by decide +kernel
theorem dX3_walk_121 : decode cX3_walk 121 = .ok (.aload_n 0, 1) := by decide +kernel
theorem dX3_walk_122 : decode cX3_walk 122 = .ok (.lload 6, 2) := by decide +kernel
theorem dX3_walk_124 : decode cX3_walk 124 = .ok (.lload 4, 2) := by decide +kernel
theorem dX3_walk_126 : decode cX3_walk 126 = .ok (.ldc2_w 105, 3) := by decide +kernel
theorem dX3_walk_129 : decode cX3_walk 129 = .ok (.lxor, 1) := by decide +kernel
theorem dX3_walk_130 : decode cX3_walk 130 = .ok (.land, 1) := by decide +kernel
theorem dX3_walk_131 : decode cX3_walk 131 = .ok (.putfield 40, 3) := by decide +kernel
theorem dX3_walk_134 : decode cX3_walk 134 = .ok (.iconst 1, 1) := by decide +kernel
theorem dX3_walk_135 : decode cX3_walk 135 = .ok (.ireturn, 1) := by decide +kernel
theorem dX3_measured_0 : decode cX3_measured 0 = .ok (.iload_n 1, 1) := by decide +kernel
theorem dX3_measured_1 : decode cX3_measured 1 = .ok (.ifCond .ne 11, 3) := by decide +kernel
theorem dX3_measured_4 : decode cX3_measured 4 = .ok (.aload_n 0, 1) := by decide +kernel
theorem dX3_measured_5 : decode cX3_measured 5 = .ok (.getfield 40, 3) := by decide +kernel
theorem dX3_measured_8 : decode cX3_measured 8 = .ok (.invokestatic 107, 3) := by decide +kernel
theorem dX3_measured_11 : decode cX3_measured 11 = .ok (.ireturn, 1) := by decide +kernel
theorem dX3_measured_12 : decode cX3_measured 12 = .ok (.iconst 0, 1) := by decide +kernel
theorem dX3_measured_13 : decode cX3_measured 13 = .ok (.istore_n 2, 1) := by decide +kernel
theorem dX3_measured_14 : decode cX3_measured 14 = .ok (.iconst 0, 1) := by decide +kernel
theorem dX3_measured_15 : decode cX3_measured 15 = .ok (.istore_n 3, 1) := by decide +kernel
theorem dX3_measured_16 : decode cX3_measured 16 = .ok (.iload_n 3, 1) := by decide +kernel
theorem dX3_measured_17 : decode cX3_measured 17 = .ok (.aload_n 0, 1) := by decide +kernel
theorem dX3_measured_18 : decode cX3_measured 18 = .ok (.getfield 30, 3) := by decide +kernel
theorem dX3_measured_21 : decode cX3_measured 21 = .ok (.if_icmp .ge 55, 3) := by decide +kernel
theorem dX3_measured_24 : decode cX3_measured 24 = .ok (.aload_n 0, 1) := by decide +kernel
theorem dX3_measured_25 : decode cX3_measured 25 = .ok (.getfield 27, 3) := by decide +kernel
theorem dX3_measured_28 : decode cX3_measured 28 = .ok (.iload_n 3, 1) := by decide +kernel
theorem dX3_measured_29 : decode cX3_measured 29 = .ok (.iaload, 1) := by decide +kernel
theorem dX3_measured_30 : decode cX3_measured 30 = .ok (.aload_n 0, 1) := by decide +kernel
theorem dX3_measured_31 : decode cX3_measured 31 = .ok (.getfield 15, 3) := by decide +kernel
theorem dX3_measured_34 : decode cX3_measured 34 = .ok (.aload_n 0, 1) := by decide +kernel
theorem dX3_measured_35 : decode cX3_measured 35 = .ok (.getfield 21, 3) := by decide +kernel
theorem dX3_measured_38 : decode cX3_measured 38 = .ok (.iload_n 3, 1) := by decide +kernel
theorem dX3_measured_39 : decode cX3_measured 39 = .ok (.iaload, 1) := by decide +kernel
theorem dX3_measured_40 : decode cX3_measured 40 = .ok (.iaload, 1) := by decide +kernel
theorem dX3_measured_41 : decode cX3_measured 41 = .ok (.isub, 1) := by decide +kernel
theorem dX3_measured_42 : decode cX3_measured 42 = .ok (.istore 4, 2) := by decide +kernel
theorem dX3_measured_44 : decode cX3_measured 44 = .ok (.iload_n 1, 1) := by decide +kernel
theorem dX3_measured_45 : decode cX3_measured 45 = .ok (.iload_n 2, 1) := by decide +kernel
theorem dX3_measured_46 : decode cX3_measured 46 = .ok (.iload 4, 2) := by decide +kernel
theorem dX3_measured_48 : decode cX3_measured 48 = .ok (.aload_n 0, 1) := by decide +kernel
theorem dX3_measured_49 : decode cX3_measured 49 = .ok (.getfield 27, 3) := by decide +kernel
theorem dX3_measured_52 : decode cX3_measured 52 = .ok (.iload_n 3, 1) := by decide +kernel
theorem dX3_measured_53 : decode cX3_measured 53 = .ok (.iaload, 1) := by decide +kernel
theorem dX3_measured_54 : decode cX3_measured 54 = .ok (.aload_n 0, 1) := by decide +kernel
theorem dX3_measured_55 : decode cX3_measured 55 = .ok (.getfield 18, 3) := by decide +kernel
theorem dX3_measured_58 : decode cX3_measured 58 = .ok (.aload_n 0, 1) := by decide +kernel
theorem dX3_measured_59 : decode cX3_measured 59 = .ok (.getfield 21, 3) := by decide +kernel
theorem dX3_measured_62 : decode cX3_measured 62 = .ok (.iload_n 3, 1) := by decide +kernel
theorem dX3_measured_63 : decode cX3_measured 63 = .ok (.iaload, 1) := by decide +kernel
theorem dX3_measured_64 : decode cX3_measured 64 = .ok (.iaload, 1) := by decide +kernel
theorem dX3_measured_65 : decode cX3_measured 65 = .ok (.iadd, 1) := by decide +kernel
theorem dX3_measured_66 : decode cX3_measured 66 = .ok (.invokestatic 113, 3) := by decide +kernel
theorem dX3_measured_69 : decode cX3_measured 69 = .ok (.istore_n 2, 1) := by decide +kernel
theorem dX3_measured_70 : decode cX3_measured 70 = .ok (.iinc 3 1, 3) := by decide +kernel
theorem dX3_measured_73 : decode cX3_measured 73 = .ok (.goto (-57), 3) := by decide +kernel
theorem dX3_measured_76 : decode cX3_measured 76 = .ok (.iload_n 2, 1) := by decide +kernel
theorem dX3_measured_77 : decode cX3_measured 77 = .ok (.ireturn, 1) := by decide +kernel
theorem dX3_join_0 : decode cX3_join 0 = .ok (.iload_n 0, 1) := by decide +kernel
theorem dX3_join_1 : decode cX3_join 1 = .ok (.tableswitch 45 1 3 #[27, 29, 33], 27) := by decide +kernel
theorem dX3_join_28 : decode cX3_join 28 = .ok (.iload_n 3, 1) := by decide +kernel
theorem dX3_join_29 : decode cX3_join 29 = .ok (.ireturn, 1) := by decide +kernel
theorem dX3_join_30 : decode cX3_join 30 = .ok (.iload_n 1, 1) := by decide +kernel
theorem dX3_join_31 : decode cX3_join 31 = .ok (.iload_n 2, 1) := by decide +kernel
theorem dX3_join_32 : decode cX3_join 32 = .ok (.iadd, 1) := by decide +kernel
theorem dX3_join_33 : decode cX3_join 33 = .ok (.ireturn, 1) := by decide +kernel
theorem dX3_join_34 : decode cX3_join 34 = .ok (.iload_n 1, 1) := by decide +kernel
theorem dX3_join_35 : decode cX3_join 35 = .ok (.iload_n 2, 1) := by decide +kernel
theorem dX3_join_36 : decode cX3_join 36 = .ok (.ifCond .le 7, 3) := by decide +kernel
theorem dX3_join_39 : decode cX3_join 39 = .ok (.iconst 1, 1) := by decide +kernel
theorem dX3_join_40 : decode cX3_join 40 = .ok (.goto 4, 3) := by decide +kernel
theorem dX3_join_43 : decode cX3_join 43 = .ok (.iconst 0, 1) := by decide +kernel
theorem dX3_join_44 : decode cX3_join 44 = .ok (.iadd, 1) := by decide +kernel
theorem dX3_join_45 : decode cX3_join 45 = .ok (.ireturn, 1) := by decide +kernel
theorem dX3_join_46 : decode cX3_join 46 = .ok (.iload_n 1, 1) := by decide +kernel
theorem dX3_join_47 : decode cX3_join 47 = .ok (.iload_n 2, 1) := by decide +kernel
theorem dX3_join_48 : decode cX3_join 48 = .ok (.if_icmp .le 7, 3) := by decide +kernel
theorem dX3_join_51 : decode cX3_join 51 = .ok (.iload_n 1, 1) := by decide +kernel
theorem dX3_join_52 : decode cX3_join 52 = .ok (.goto 4, 3) := by decide +kernel
theorem dX3_join_55 : decode cX3_join 55 = .ok (.iload_n 2, 1) := by decide +kernel
theorem dX3_join_56 : decode cX3_join 56 = .ok (.ireturn, 1) := by decide +kernel
theorem dX3_nextRow_0 : decode cX3_nextRow 0 = .ok (.aload_n 0, 1) := by decide +kernel
theorem dX3_nextRow_1 : decode cX3_nextRow 1 = .ok (.getfield 30, 3) := by decide +kernel
theorem dX3_nextRow_4 : decode cX3_nextRow 4 = .ok (.iconst 2, 1) := by decide +kernel
theorem dX3_nextRow_5 : decode cX3_nextRow 5 = .ok (.isub, 1) := by decide +kernel
theorem dX3_nextRow_6 : decode cX3_nextRow 6 = .ok (.istore_n 1, 1) := by decide +kernel
theorem dX3_nextRow_7 : decode cX3_nextRow 7 = .ok (.iload_n 1, 1) := by decide +kernel
theorem dX3_nextRow_8 : decode cX3_nextRow 8 = .ok (.ifCond .lt 26, 3) := by decide +kernel
theorem dX3_nextRow_11 : decode cX3_nextRow 11 = .ok (.aload_n 0, 1) := by decide +kernel
theorem dX3_nextRow_12 : decode cX3_nextRow 12 = .ok (.getfield 21, 3) := by decide +kernel
theorem dX3_nextRow_15 : decode cX3_nextRow 15 = .ok (.iload_n 1, 1) := by decide +kernel
theorem dX3_nextRow_16 : decode cX3_nextRow 16 = .ok (.iaload, 1) := by decide +kernel
theorem dX3_nextRow_17 : decode cX3_nextRow 17 = .ok (.aload_n 0, 1) := by decide +kernel
theorem dX3_nextRow_18 : decode cX3_nextRow 18 = .ok (.getfield 21, 3) := by decide +kernel
theorem dX3_nextRow_21 : decode cX3_nextRow 21 = .ok (.iload_n 1, 1) := by decide +kernel
theorem dX3_nextRow_22 : decode cX3_nextRow 22 = .ok (.iconst 1, 1) := by decide +kernel
theorem dX3_nextRow_23 : decode cX3_nextRow 23 = .ok (.iadd, 1) := by decide +kernel
theorem dX3_nextRow_24 : decode cX3_nextRow 24 = .ok (.iaload, 1) := by decide +kernel
theorem dX3_nextRow_25 : decode cX3_nextRow 25 = .ok (.if_icmp .le 9, 3) := by decide +kernel
theorem dX3_nextRow_28 : decode cX3_nextRow 28 = .ok (.iinc 1 (-1), 3) := by decide +kernel
theorem dX3_nextRow_31 : decode cX3_nextRow 31 = .ok (.goto (-24), 3) := by decide +kernel
theorem dX3_nextRow_34 : decode cX3_nextRow 34 = .ok (.iload_n 1, 1) := by decide +kernel
theorem dX3_nextRow_35 : decode cX3_nextRow 35 = .ok (.ifCond .ge 5, 3) := by decide +kernel
theorem dX3_nextRow_38 : decode cX3_nextRow 38 = .ok (.iconst 0, 1) := by decide +kernel
theorem dX3_nextRow_39 : decode cX3_nextRow 39 = .ok (.ireturn, 1) := by decide +kernel
theorem dX3_nextRow_40 : decode cX3_nextRow 40 = .ok (.aload_n 0, 1) := by decide +kernel
theorem dX3_nextRow_41 : decode cX3_nextRow 41 = .ok (.getfield 30, 3) := by decide +kernel
theorem dX3_nextRow_44 : decode cX3_nextRow 44 = .ok (.iconst 1, 1) := by decide +kernel
theorem dX3_nextRow_45 : decode cX3_nextRow 45 = .ok (.isub, 1) := by decide +kernel
theorem dX3_nextRow_46 : decode cX3_nextRow 46 = .ok (.istore_n 2, 1) := by decide +kernel
theorem dX3_nextRow_47 : decode cX3_nextRow 47 = .ok (.iload_n 2, 1) := by decide +kernel
theorem dX3_nextRow_48 : decode cX3_nextRow 48 = .ok (.iload_n 1, 1) := by decide +kernel
theorem dX3_nextRow_49 : decode cX3_nextRow 49 = .ok (.iconst 1, 1) := by decide +kernel
theorem dX3_nextRow_50 : decode cX3_nextRow 50 = .ok (.iadd, 1) := by decide +kernel
theorem dX3_nextRow_51 : decode cX3_nextRow 51 = .ok (.if_icmp .le 24, 3) := by decide +kernel
theorem dX3_nextRow_54 : decode cX3_nextRow 54 = .ok (.aload_n 0, 1) := by decide +kernel
theorem dX3_nextRow_55 : decode cX3_nextRow 55 = .ok (.getfield 21, 3) := by decide +kernel
theorem dX3_nextRow_58 : decode cX3_nextRow 58 = .ok (.iload_n 2, 1) := by decide +kernel
theorem dX3_nextRow_59 : decode cX3_nextRow 59 = .ok (.iaload, 1) := by decide +kernel
theorem dX3_nextRow_60 : decode cX3_nextRow 60 = .ok (.aload_n 0, 1) := by decide +kernel
theorem dX3_nextRow_61 : decode cX3_nextRow 61 = .ok (.getfield 21, 3) := by decide +kernel
theorem dX3_nextRow_64 : decode cX3_nextRow 64 = .ok (.iload_n 1, 1) := by decide +kernel
theorem dX3_nextRow_65 : decode cX3_nextRow 65 = .ok (.iaload, 1) := by decide +kernel
theorem dX3_nextRow_66 : decode cX3_nextRow 66 = .ok (.if_icmp .ge 9, 3) := by decide +kernel
theorem dX3_nextRow_69 : decode cX3_nextRow 69 = .ok (.iinc 2 (-1), 3) := by decide +kernel
theorem dX3_nextRow_72 : decode cX3_nextRow 72 = .ok (.goto (-25), 3) := by decide +kernel
theorem dX3_nextRow_75 : decode cX3_nextRow 75 = .ok (.aload_n 0, 1) := by decide +kernel
theorem dX3_nextRow_76 : decode cX3_nextRow 76 = .ok (.iload_n 1, 1) := by decide +kernel
theorem dX3_nextRow_77 : decode cX3_nextRow 77 = .ok (.iload_n 2, 1) := by decide +kernel
theorem dX3_nextRow_78 : decode cX3_nextRow 78 = .ok (.invokevirtual 117, 3) := by decide +kernel
theorem dX3_nextRow_81 : decode cX3_nextRow 81 = .ok (.iload_n 1, 1) := by decide +kernel
theorem dX3_nextRow_82 : decode cX3_nextRow 82 = .ok (.iconst 1, 1) := by decide +kernel
theorem dX3_nextRow_83 : decode cX3_nextRow 83 = .ok (.iadd, 1) := by decide +kernel
theorem dX3_nextRow_84 : decode cX3_nextRow 84 = .ok (.istore_n 3, 1) := by decide +kernel
theorem dX3_nextRow_85 : decode cX3_nextRow 85 = .ok (.aload_n 0, 1) := by decide +kernel
theorem dX3_nextRow_86 : decode cX3_nextRow 86 = .ok (.getfield 30, 3) := by decide +kernel
theorem dX3_nextRow_89 : decode cX3_nextRow 89 = .ok (.iconst 1, 1) := by decide +kernel
theorem dX3_nextRow_90 : decode cX3_nextRow 90 = .ok (.isub, 1) := by decide +kernel
theorem dX3_nextRow_91 : decode cX3_nextRow 91 = .ok (.istore 4, 2) := by decide +kernel
theorem dX3_nextRow_93 : decode cX3_nextRow 93 = .ok (.iload_n 3, 1) := by decide +kernel
theorem dX3_nextRow_94 : decode cX3_nextRow 94 = .ok (.iload 4, 2) := by decide +kernel
theorem dX3_nextRow_96 : decode cX3_nextRow 96 = .ok (.if_icmp .ge 19, 3) := by decide +kernel
theorem dX3_nextRow_99 : decode cX3_nextRow 99 = .ok (.aload_n 0, 1) := by decide +kernel
theorem dX3_nextRow_100 : decode cX3_nextRow 100 = .ok (.iload_n 3, 1) := by decide +kernel
theorem dX3_nextRow_101 : decode cX3_nextRow 101 = .ok (.iload 4, 2) := by decide +kernel
theorem dX3_nextRow_103 : decode cX3_nextRow 103 = .ok (.invokevirtual 117, 3) := by decide +kernel
theorem dX3_nextRow_106 : decode cX3_nextRow 106 = .ok (.iinc 3 1, 3) := by decide +kernel
theorem dX3_nextRow_109 : decode cX3_nextRow 109 = .ok (.iinc 4 (-1), 3) := by decide +kernel
theorem dX3_nextRow_112 : decode cX3_nextRow 112 = .ok (.goto (-19), 3) := by decide +kernel
theorem dX3_nextRow_115 : decode cX3_nextRow 115 = .ok (.iconst 1, 1) := by decide +kernel
theorem dX3_nextRow_116 : decode cX3_nextRow 116 = .ok (.ireturn, 1) := by decide +kernel
theorem dX3_swap_0 : decode cX3_swap 0 = .ok (.aload_n 0, 1) := by decide +kernel
theorem dX3_swap_1 : decode cX3_swap 1 = .ok (.getfield 21, 3) := by decide +kernel
theorem dX3_swap_4 : decode cX3_swap 4 = .ok (.iload_n 1, 1) := by decide +kernel
theorem dX3_swap_5 : decode cX3_swap 5 = .ok (.iaload, 1) := by decide +kernel
theorem dX3_swap_6 : decode cX3_swap 6 = .ok (.istore_n 3, 1) := by decide +kernel
theorem dX3_swap_7 : decode cX3_swap 7 = .ok (.aload_n 0, 1) := by decide +kernel
theorem dX3_swap_8 : decode cX3_swap 8 = .ok (.getfield 21, 3) := by decide +kernel
theorem dX3_swap_11 : decode cX3_swap 11 = .ok (.iload_n 1, 1) := by decide +kernel
theorem dX3_swap_12 : decode cX3_swap 12 = .ok (.aload_n 0, 1) := by decide +kernel
theorem dX3_swap_13 : decode cX3_swap 13 = .ok (.getfield 21, 3) := by decide +kernel
theorem dX3_swap_16 : decode cX3_swap 16 = .ok (.iload_n 2, 1) := by decide +kernel
theorem dX3_swap_17 : decode cX3_swap 17 = .ok (.iaload, 1) := by decide +kernel
theorem dX3_swap_18 : decode cX3_swap 18 = .ok (.iastore, 1) := by decide +kernel
theorem dX3_swap_19 : decode cX3_swap 19 = .ok (.aload_n 0, 1) := by decide +kernel
theorem dX3_swap_20 : decode cX3_swap 20 = .ok (.getfield 21, 3) := by decide +kernel
theorem dX3_swap_23 : decode cX3_swap 23 = .ok (.iload_n 2, 1) := by decide +kernel
theorem dX3_swap_24 : decode cX3_swap 24 = .ok (.iload_n 3, 1) := by decide +kernel
theorem dX3_swap_25 : decode cX3_swap 25 = .ok (.iastore, 1) := by decide +kernel
theorem dX3_swap_26 : decode cX3_swap 26 = .ok (.return_, 1) := by decide +kernel
theorem dX4_init_0 : decode cX4_init 0 = .ok (.aload_n 0, 1) := by decide +kernel
theorem dX4_init_1 : decode cX4_init 1 = .ok (.invokespecial 3, 3) := by decide +kernel
theorem dX4_init_4 : decode cX4_init 4 = .ok (.aload_n 0, 1) := by decide +kernel
theorem dX4_init_5 : decode cX4_init 5 = .ok (.new 9, 3) := by decide +kernel
theorem dX4_init_8 : decode cX4_init 8 = .ok (.dup, 1) := by decide +kernel
theorem dX4_init_9 : decode cX4_init 9 = .ok (.invokespecial 11, 3) := by decide +kernel
theorem dX4_init_12 : decode cX4_init 12 = .ok (.putfield 12, 3) := by decide +kernel
theorem dX4_init_15 : decode cX4_init 15 = .ok (.return_, 1) := by decide +kernel
theorem dX4_planWeek_0 : decode cX4_planWeek 0 = .ok (.iconst 0, 1) := by decide +kernel
theorem dX4_planWeek_1 : decode cX4_planWeek 1 = .ok (.istore 4, 2) := by decide +kernel
theorem dX4_planWeek_3 : decode cX4_planWeek 3 = .ok (.iload 4, 2) := by decide +kernel
theorem dX4_planWeek_5 : decode cX4_planWeek 5 = .ok (.iconst 5, 1) := by decide +kernel
theorem dX4_planWeek_6 : decode cX4_planWeek 6 = .ok (.if_icmp .ge 18, 3) := by decide +kernel
theorem dX4_planWeek_9 : decode cX4_planWeek 9 = .ok (.aload_n 0, 1) := by decide +kernel
theorem dX4_planWeek_10 : decode cX4_planWeek 10 = .ok (.aload_n 1, 1) := by decide +kernel
theorem dX4_planWeek_11 : decode cX4_planWeek 11 = .ok (.iload_n 2, 1) := by decide +kernel
theorem dX4_planWeek_12 : decode cX4_planWeek 12 = .ok (.iload 4, 2) := by decide +kernel
theorem dX4_planWeek_14 : decode cX4_planWeek 14 = .ok (.aload_n 3, 1) := by decide +kernel
theorem dX4_planWeek_15 : decode cX4_planWeek 15 = .ok (.invokevirtual 18, 3) := by decide +kernel
theorem dX4_planWeek_18 : decode cX4_planWeek 18 = .ok (.iinc 4 1, 3) := by decide +kernel
theorem dX4_planWeek_21 : decode cX4_planWeek 21 = .ok (.goto (-18), 3) := by decide +kernel
theorem dX4_planWeek_24 : decode cX4_planWeek 24 = .ok (.return_, 1) := by decide +kernel
theorem dX4_replan_0 : decode cX4_replan 0 = .ok (.iconst 0, 1) := by decide +kernel
theorem dX4_replan_1 : decode cX4_replan 1 = .ok (.istore 5, 2) := by decide +kernel
theorem dX4_replan_3 : decode cX4_replan 3 = .ok (.iload_n 3, 1) := by decide +kernel
theorem dX4_replan_4 : decode cX4_replan 4 = .ok (.istore 6, 2) := by decide +kernel
theorem dX4_replan_6 : decode cX4_replan 6 = .ok (.iload 6, 2) := by decide +kernel
theorem dX4_replan_8 : decode cX4_replan 8 = .ok (.iconst 5, 1) := by decide +kernel
theorem dX4_replan_9 : decode cX4_replan 9 = .ok (.if_icmp .ge 54, 3) := by decide +kernel
theorem dX4_replan_12 : decode cX4_replan 12 = .ok (.iload 5, 2) := by decide +kernel
theorem dX4_replan_14 : decode cX4_replan 14 = .ok (.ifCond .ne 49, 3) := by decide +kernel
theorem dX4_replan_17 : decode cX4_replan 17 = .ok (.aload 4, 2) := by decide +kernel
theorem dX4_replan_19 : decode cX4_replan 19 = .ok (.getfield 22, 3) := by decide +kernel
theorem dX4_replan_22 : decode cX4_replan 22 = .ok (.iload 6, 2) := by decide +kernel
theorem dX4_replan_24 : decode cX4_replan 24 = .ok (.iaload, 1) := by decide +kernel
theorem dX4_replan_25 : decode cX4_replan 25 = .ok (.istore 7, 2) := by decide +kernel
theorem dX4_replan_27 : decode cX4_replan 27 = .ok (.aload_n 0, 1) := by decide +kernel
theorem dX4_replan_28 : decode cX4_replan 28 = .ok (.aload_n 1, 1) := by decide +kernel
theorem dX4_replan_29 : decode cX4_replan 29 = .ok (.iload_n 2, 1) := by decide +kernel
theorem dX4_replan_30 : decode cX4_replan 30 = .ok (.iload 6, 2) := by decide +kernel
theorem dX4_replan_32 : decode cX4_replan 32 = .ok (.aload 4, 2) := by decide +kernel
theorem dX4_replan_34 : decode cX4_replan 34 = .ok (.invokevirtual 18, 3) := by decide +kernel
theorem dX4_replan_37 : decode cX4_replan 37 = .ok (.aload 4, 2) := by decide +kernel
theorem dX4_replan_39 : decode cX4_replan 39 = .ok (.getfield 22, 3) := by decide +kernel
theorem dX4_replan_42 : decode cX4_replan 42 = .ok (.iload 6, 2) := by decide +kernel
theorem dX4_replan_44 : decode cX4_replan 44 = .ok (.iaload, 1) := by decide +kernel
theorem dX4_replan_45 : decode cX4_replan 45 = .ok (.iload 7, 2) := by decide +kernel
theorem dX4_replan_47 : decode cX4_replan 47 = .ok (.if_icmp .ne 7, 3) := by decide +kernel
theorem dX4_replan_50 : decode cX4_replan 50 = .ok (.iconst 1, 1) := by decide +kernel
theorem dX4_replan_51 : decode cX4_replan 51 = .ok (.goto 4, 3) := by decide +kernel
theorem dX4_replan_54 : decode cX4_replan 54 = .ok (.iconst 0, 1) := by decide +kernel
theorem dX4_replan_55 : decode cX4_replan 55 = .ok (.istore 5, 2) := by decide +kernel
theorem dX4_replan_57 : decode cX4_replan 57 = .ok (.iinc 6 1, 3) := by decide +kernel
theorem dX4_replan_60 : decode cX4_replan 60 = .ok (.goto (-54), 3) := by decide +kernel
theorem dX4_replan_63 : decode cX4_replan 63 = .ok (.return_, 1) := by decide +kernel
theorem dX4_planDay_0 : decode cX4_planDay 0 = .ok (.aload 4, 2) := by decide +kernel
theorem dX4_planDay_2 : decode cX4_planDay 2 = .ok (.iload_n 3, 1) := by decide +kernel
theorem dX4_planDay_3 : decode cX4_planDay 3 = .ok (.invokevirtual 28, 3) := by decide +kernel
theorem dX4_planDay_6 : decode cX4_planDay 6 = .ok (.istore 5, 2) := by decide +kernel
theorem dX4_planDay_8 : decode cX4_planDay 8 = .ok (.iload 5, 2) := by decide +kernel
theorem dX4_planDay_10 : decode cX4_planDay 10 = .ok (.iconst (-1), 1) := by decide +kernel
theorem dX4_planDay_11 : decode cX4_planDay 11 = .ok (.if_icmp .ne 7, 3) := by decide +kernel
theorem dX4_planDay_14 : decode cX4_planDay 14 = .ok (.iconst 0, 1) := by decide +kernel
theorem dX4_planDay_15 : decode cX4_planDay 15 = .ok (.goto 10, 3) := by decide +kernel
theorem dX4_planDay_18 : decode cX4_planDay 18 = .ok (.aload_n 1, 1) := by decide +kernel
theorem dX4_planDay_19 : decode cX4_planDay 19 = .ok (.iload_n 2, 1) := by decide +kernel
theorem dX4_planDay_20 : decode cX4_planDay 20 = .ok (.iload 5, 2) := by decide +kernel
theorem dX4_planDay_22 : decode cX4_planDay 22 = .ok (.invokevirtual 32, 3) := by decide +kernel
theorem dX4_planDay_25 : decode cX4_planDay 25 = .ok (.istore 6, 2) := by decide +kernel
theorem dX4_planDay_27 : decode cX4_planDay 27 = .ok (.iload 5, 2) := by decide +kernel
theorem dX4_planDay_29 : decode cX4_planDay 29 = .ok (.iconst (-1), 1) := by decide +kernel
theorem dX4_planDay_30 : decode cX4_planDay 30 = .ok (.if_icmp .ne 7, 3) := by decide +kernel
theorem dX4_planDay_33 : decode cX4_planDay 33 = .ok (.iconst 0, 1) := by decide +kernel
theorem dX4_planDay_34 : decode cX4_planDay 34 = .ok (.goto 11, 3) := by decide +kernel
theorem dX4_planDay_37 : decode cX4_planDay 37 = .ok (.iload 6, 2) := by decide +kernel
theorem dX4_planDay_39 : decode cX4_planDay 39 = .ok (.aload_n 1, 1) := by decide +kernel
theorem dX4_planDay_40 : decode cX4_planDay 40 = .ok (.iload_n 2, 1) := by decide +kernel
theorem dX4_planDay_41 : decode cX4_planDay 41 = .ok (.invokevirtual 38, 3) := by decide +kernel
theorem dX4_planDay_44 : decode cX4_planDay 44 = .ok (.iadd, 1) := by decide +kernel
theorem dX4_planDay_45 : decode cX4_planDay 45 = .ok (.istore 7, 2) := by decide +kernel
theorem dX4_planDay_47 : decode cX4_planDay 47 = .ok (.aload 4, 2) := by decide +kernel
theorem dX4_planDay_49 : decode cX4_planDay 49 = .ok (.iload_n 3, 1) := by decide +kernel
theorem dX4_planDay_50 : decode cX4_planDay 50 = .ok (.iload 7, 2) := by decide +kernel
theorem dX4_planDay_52 : decode cX4_planDay 52 = .ok (.iload 6, 2) := by decide +kernel
theorem dX4_planDay_54 : decode cX4_planDay 54 = .ok (.invokevirtual 41, 3) := by decide +kernel
theorem dX4_planDay_57 : decode cX4_planDay 57 = .ok (.aload_n 1, 1) := by decide +kernel
theorem dX4_planDay_58 : decode cX4_planDay 58 = .ok (.getfield 45, 3) := by decide +kernel
theorem dX4_planDay_61 : decode cX4_planDay 61 = .ok (.iload_n 2, 1) := by decide +kernel
theorem dX4_planDay_62 : decode cX4_planDay 62 = .ok (.iaload, 1) := by decide +kernel
theorem dX4_planDay_63 : decode cX4_planDay 63 = .ok (.aload_n 1, 1) := by decide +kernel
theorem dX4_planDay_64 : decode cX4_planDay 64 = .ok (.iload_n 3, 1) := by decide +kernel
theorem dX4_planDay_65 : decode cX4_planDay 65 = .ok (.invokevirtual 48, 3) := by decide +kernel
theorem dX4_planDay_68 : decode cX4_planDay 68 = .ok (.iand, 1) := by decide +kernel
theorem dX4_planDay_69 : decode cX4_planDay 69 = .ok (.istore 8, 2) := by decide +kernel
theorem dX4_planDay_71 : decode cX4_planDay 71 = .ok (.aload_n 0, 1) := by decide +kernel
theorem dX4_planDay_72 : decode cX4_planDay 72 = .ok (.getfield 12, 3) := by decide +kernel
theorem dX4_planDay_75 : decode cX4_planDay 75 = .ok (.aload_n 1, 1) := by decide +kernel
theorem dX4_planDay_76 : decode cX4_planDay 76 = .ok (.iload_n 2, 1) := by decide +kernel
theorem dX4_planDay_77 : decode cX4_planDay 77 = .ok (.iload 8, 2) := by decide +kernel
theorem dX4_planDay_79 : decode cX4_planDay 79 = .ok (.iload 7, 2) := by decide +kernel
theorem dX4_planDay_81 : decode cX4_planDay 81 = .ok (.iload 6, 2) := by decide +kernel
theorem dX4_planDay_83 : decode cX4_planDay 83 = .ok (.invokevirtual 51, 3) := by decide +kernel
theorem dX4_planDay_86 : decode cX4_planDay 86 = .ok (.aload_n 0, 1) := by decide +kernel
theorem dX4_planDay_87 : decode cX4_planDay 87 = .ok (.getfield 12, 3) := by decide +kernel
theorem dX4_planDay_90 : decode cX4_planDay 90 = .ok (.iconst 0, 1) := by decide +kernel
theorem dX4_planDay_91 : decode cX4_planDay 91 = .ok (.lconst 0, 1) := by decide +kernel
theorem dX4_planDay_92 : decode cX4_planDay 92 = .ok (.invokevirtual 55, 3) := by decide +kernel
theorem dX4_planDay_95 : decode cX4_planDay 95 = .ok (.ifCond .eq 15, 3) := by decide +kernel
theorem dX4_planDay_98 : decode cX4_planDay 98 = .ok (.aload 4, 2) := by decide +kernel
theorem dX4_planDay_100 : decode cX4_planDay 100 = .ok (.iload_n 3, 1) := by decide +kernel
theorem dX4_planDay_101 : decode cX4_planDay 101 = .ok (.aload_n 0, 1) := by decide +kernel
theorem dX4_planDay_102 : decode cX4_planDay 102 = .ok (.getfield 12, 3) := by decide +kernel
theorem dX4_planDay_105 : decode cX4_planDay 105 = .ok (.iconst (-1), 1) := by decide +kernel
theorem dX4_planDay_106 : decode cX4_planDay 106 = .ok (.invokevirtual 59, 3) := by decide +kernel
theorem dX4_planDay_109 : decode cX4_planDay 109 = .ok (.return_, 1) := by decide +kernel
theorem dX4_planDay_110 : decode cX4_planDay 110 = .ok (.aload_n 1, 1) := by decide +kernel
theorem dX4_planDay_111 : decode cX4_planDay 111 = .ok (.getfield 63, 3) := by decide +kernel
theorem dX4_planDay_114 : decode cX4_planDay 114 = .ok (.iload_n 2, 1) := by decide +kernel
theorem dX4_planDay_115 : decode cX4_planDay 115 = .ok (.iaload, 1) := by decide +kernel
theorem dX4_planDay_116 : decode cX4_planDay 116 = .ok (.ifCond .eq 8, 3) := by decide +kernel
theorem dX4_planDay_119 : decode cX4_planDay 119 = .ok (.iload_n 3, 1) := by decide +kernel
theorem dX4_planDay_120 : decode cX4_planDay 120 = .ok (.iconst 4, 1) := by decide +kernel
theorem dX4_planDay_121 : decode cX4_planDay 121 = .ok (.if_icmp .ne 4, 3) := by decide +kernel
theorem dX4_planDay_124 : decode cX4_planDay 124 = .ok (.return_, 1) := by decide +kernel
theorem dX4_planDay_125 : decode cX4_planDay 125 = .ok (.iconst 0, 1) := by decide +kernel
theorem dX4_planDay_126 : decode cX4_planDay 126 = .ok (.istore 9, 2) := by decide +kernel
theorem dX4_planDay_128 : decode cX4_planDay 128 = .ok (.iconst 0, 1) := by decide +kernel
theorem dX4_planDay_129 : decode cX4_planDay 129 = .ok (.istore 10, 2) := by decide +kernel
theorem dX4_planDay_131 : decode cX4_planDay 131 = .ok (.iload 10, 2) := by decide +kernel
theorem dX4_planDay_133 : decode cX4_planDay 133 = .ok (.aload_n 1, 1) := by decide +kernel
theorem dX4_planDay_134 : decode cX4_planDay 134 = .ok (.getfield 66, 3) := by decide +kernel
theorem dX4_planDay_137 : decode cX4_planDay 137 = .ok (.if_icmp .ge 130, 3) := by decide +kernel
theorem dX4_planDay_140 : decode cX4_planDay 140 = .ok (.iload 8, 2) := by decide +kernel
theorem dX4_planDay_142 : decode cX4_planDay 142 = .ok (.iload 10, 2) := by decide +kernel
theorem dX4_planDay_144 : decode cX4_planDay 144 = .ok (.invokestatic 70, 3) := by decide +kernel
theorem dX4_planDay_147 : decode cX4_planDay 147 = .ok (.ifCond .eq 114, 3) := by decide +kernel
theorem dX4_planDay_150 : decode cX4_planDay 150 = .ok (.aload_n 1, 1) := by decide +kernel
theorem dX4_planDay_151 : decode cX4_planDay 151 = .ok (.iload_n 2, 1) := by decide +kernel
theorem dX4_planDay_152 : decode cX4_planDay 152 = .ok (.iload 10, 2) := by decide +kernel
theorem dX4_planDay_154 : decode cX4_planDay 154 = .ok (.invokevirtual 32, 3) := by decide +kernel
theorem dX4_planDay_157 : decode cX4_planDay 157 = .ok (.bipush 48, 2) := by decide +kernel
theorem dX4_planDay_159 : decode cX4_planDay 159 = .ok (.aload_n 1, 1) := by decide +kernel
theorem dX4_planDay_160 : decode cX4_planDay 160 = .ok (.getfield 74, 3) := by decide +kernel
theorem dX4_planDay_163 : decode cX4_planDay 163 = .ok (.invokestatic 77, 3) := by decide +kernel
theorem dX4_planDay_166 : decode cX4_planDay 166 = .ok (.if_icmp .gt 95, 3) := by decide +kernel
theorem dX4_planDay_169 : decode cX4_planDay 169 = .ok (.aload_n 0, 1) := by decide +kernel
theorem dX4_planDay_170 : decode cX4_planDay 170 = .ok (.getfield 12, 3) := by decide +kernel
theorem dX4_planDay_173 : decode cX4_planDay 173 = .ok (.aload_n 1, 1) := by decide +kernel
theorem dX4_planDay_174 : decode cX4_planDay 174 = .ok (.iload_n 2, 1) := by decide +kernel
theorem dX4_planDay_175 : decode cX4_planDay 175 = .ok (.iload 8, 2) := by decide +kernel
theorem dX4_planDay_177 : decode cX4_planDay 177 = .ok (.iconst 1, 1) := by decide +kernel
theorem dX4_planDay_178 : decode cX4_planDay 178 = .ok (.iload 10, 2) := by decide +kernel
theorem dX4_planDay_180 : decode cX4_planDay 180 = .ok (.ishl, 1) := by decide +kernel
theorem dX4_planDay_181 : decode cX4_planDay 181 = .ok (.iconst (-1), 1) := by decide +kernel
theorem dX4_planDay_182 : decode cX4_planDay 182 = .ok (.ixor, 1) := by decide +kernel
theorem dX4_planDay_183 : decode cX4_planDay 183 = .ok (.iand, 1) := by decide +kernel
theorem dX4_planDay_184 : decode cX4_planDay 184 = .ok (.iload 7, 2) := by decide +kernel
theorem dX4_planDay_186 : decode cX4_planDay 186 = .ok (.iload 6, 2) := by decide +kernel
theorem dX4_planDay_188 : decode cX4_planDay 188 = .ok (.invokevirtual 51, 3) := by decide +kernel
theorem dX4_planDay_191 : decode cX4_planDay 191 = .ok (.aload_n 0, 1) := by decide +kernel
theorem dX4_planDay_192 : decode cX4_planDay 192 = .ok (.getfield 12, 3) := by decide +kernel
theorem dX4_planDay_195 : decode cX4_planDay 195 = .ok (.iconst 0, 1) := by decide +kernel
theorem dX4_planDay_196 : decode cX4_planDay 196 = .ok (.aload_n 1, 1) := by decide +kernel
theorem dX4_planDay_197 : decode cX4_planDay 197 = .ok (.getfield 82, 3) := by decide +kernel
theorem dX4_planDay_200 : decode cX4_planDay 200 = .ok (.iload 10, 2) := by decide +kernel
theorem dX4_planDay_202 : decode cX4_planDay 202 = .ok (.iaload, 1) := by decide +kernel
theorem dX4_planDay_203 : decode cX4_planDay 203 = .ok (.bipush 48, 2) := by decide +kernel
theorem dX4_planDay_205 : decode cX4_planDay 205 = .ok (.invokestatic 85, 3) := by decide +kernel
theorem dX4_planDay_208 : decode cX4_planDay 208 = .ok (.invokevirtual 55, 3) := by decide +kernel
theorem dX4_planDay_211 : decode cX4_planDay 211 = .ok (.istore 11, 2) := by decide +kernel
theorem dX4_planDay_213 : decode cX4_planDay 213 = .ok (.iload 11, 2) := by decide +kernel
theorem dX4_planDay_215 : decode cX4_planDay 215 = .ok (.ifCond .eq 46, 3) := by decide +kernel
theorem dX4_planDay_218 : decode cX4_planDay 218 = .ok (.aload 4, 2) := by decide +kernel
theorem dX4_planDay_220 : decode cX4_planDay 220 = .ok (.getfield 89, 3) := by decide +kernel
theorem dX4_planDay_223 : decode cX4_planDay 223 = .ok (.iload_n 3, 1) := by decide +kernel
theorem dX4_planDay_224 : decode cX4_planDay 224 = .ok (.baload, 1) := by decide +kernel
theorem dX4_planDay_225 : decode cX4_planDay 225 = .ok (.ifCond .eq 15, 3) := by decide +kernel
theorem dX4_planDay_228 : decode cX4_planDay 228 = .ok (.aload_n 0, 1) := by decide +kernel
theorem dX4_planDay_229 : decode cX4_planDay 229 = .ok (.getfield 12, 3) := by decide +kernel
theorem dX4_planDay_232 : decode cX4_planDay 232 = .ok (.invokevirtual 93, 3) := by decide +kernel
theorem dX4_planDay_235 : decode cX4_planDay 235 = .ok (.iload 9, 2) := by decide +kernel
theorem dX4_planDay_237 : decode cX4_planDay 237 = .ok (.if_icmp .ge 24, 3) := by decide +kernel
theorem dX4_planDay_240 : decode cX4_planDay 240 = .ok (.aload_n 0, 1) := by decide +kernel
theorem dX4_planDay_241 : decode cX4_planDay 241 = .ok (.getfield 12, 3) := by decide +kernel
theorem dX4_planDay_244 : decode cX4_planDay 244 = .ok (.invokevirtual 93, 3) := by decide +kernel
theorem dX4_planDay_247 : decode cX4_planDay 247 = .ok (.istore 9, 2) := by decide +kernel
theorem dX4_planDay_249 : decode cX4_planDay 249 = .ok (.aload 4, 2) := by decide +kernel
theorem dX4_planDay_251 : decode cX4_planDay 251 = .ok (.iload_n 3, 1) := by decide +kernel
theorem dX4_planDay_252 : decode cX4_planDay 252 = .ok (.aload_n 0, 1) := by decide +kernel
theorem dX4_planDay_253 : decode cX4_planDay 253 = .ok (.getfield 12, 3) := by decide +kernel
theorem dX4_planDay_256 : decode cX4_planDay 256 = .ok (.iload 10, 2) := by decide +kernel
theorem dX4_planDay_258 : decode cX4_planDay 258 = .ok (.invokevirtual 59, 3) := by decide +kernel
theorem dX4_planDay_261 : decode cX4_planDay 261 = .ok (.iinc 10 1, 3) := by decide +kernel
theorem dX4_planDay_264 : decode cX4_planDay 264 = .ok (.goto (-133), 3) := by decide +kernel
theorem dX4_planDay_267 : decode cX4_planDay 267 = .ok (.return_, 1) := by decide +kernel
theorem dX4_ordersOf_0 : decode cX4_ordersOf 0 = .ok (.aload_n 1, 1) := by decide +kernel
theorem dX4_ordersOf_1 : decode cX4_ordersOf 1 = .ok (.getfield 45, 3) := by decide +kernel
theorem dX4_ordersOf_4 : decode cX4_ordersOf 4 = .ok (.iload_n 2, 1) := by decide +kernel
theorem dX4_ordersOf_5 : decode cX4_ordersOf 5 = .ok (.iaload, 1) := by decide +kernel
theorem dX4_ordersOf_6 : decode cX4_ordersOf 6 = .ok (.aload_n 1, 1) := by decide +kernel
theorem dX4_ordersOf_7 : decode cX4_ordersOf 7 = .ok (.iload_n 3, 1) := by decide +kernel
theorem dX4_ordersOf_8 : decode cX4_ordersOf 8 = .ok (.invokevirtual 48, 3) := by decide +kernel
theorem dX4_ordersOf_11 : decode cX4_ordersOf 11 = .ok (.iand, 1) := by decide +kernel
theorem dX4_ordersOf_12 : decode cX4_ordersOf 12 = .ok (.istore 5, 2) := by decide +kernel
theorem dX4_ordersOf_14 : decode cX4_ordersOf 14 = .ok (.aload_n 0, 1) := by decide +kernel
theorem dX4_ordersOf_15 : decode cX4_ordersOf 15 = .ok (.getfield 12, 3) := by decide +kernel
theorem dX4_ordersOf_18 : decode cX4_ordersOf 18 = .ok (.aload_n 1, 1) := by decide +kernel
theorem dX4_ordersOf_19 : decode cX4_ordersOf 19 = .ok (.iload_n 2, 1) := by decide +kernel
theorem dX4_ordersOf_20 : decode cX4_ordersOf 20 = .ok (.iload 5, 2) := by decide +kernel
theorem dX4_ordersOf_22 : decode cX4_ordersOf 22 = .ok (.aload 4, 2) := by decide +kernel
theorem dX4_ordersOf_24 : decode cX4_ordersOf 24 = .ok (.getfield 97, 3) := by decide +kernel
theorem dX4_ordersOf_27 : decode cX4_ordersOf 27 = .ok (.iload_n 3, 1) := by decide +kernel
theorem dX4_ordersOf_28 : decode cX4_ordersOf 28 = .ok (.iaload, 1) := by decide +kernel
theorem dX4_ordersOf_29 : decode cX4_ordersOf 29 = .ok (.aload 4, 2) := by decide +kernel
theorem dX4_ordersOf_31 : decode cX4_ordersOf 31 = .ok (.getfield 100, 3) := by decide +kernel
theorem dX4_ordersOf_34 : decode cX4_ordersOf 34 = .ok (.iload_n 3, 1) := by decide +kernel
theorem dX4_ordersOf_35 : decode cX4_ordersOf 35 = .ok (.iaload, 1) := by decide +kernel
theorem dX4_ordersOf_36 : decode cX4_ordersOf 36 = .ok (.invokevirtual 51, 3) := by decide +kernel
theorem dX4_ordersOf_39 : decode cX4_ordersOf 39 = .ok (.aload_n 0, 1) := by decide +kernel
theorem dX4_ordersOf_40 : decode cX4_ordersOf 40 = .ok (.getfield 12, 3) := by decide +kernel
theorem dX4_ordersOf_43 : decode cX4_ordersOf 43 = .ok (.areturn, 1) := by decide +kernel
theorem dX4_clash_0 : decode cX4_clash 0 = .ok (.aload_n 1, 1) := by decide +kernel
theorem dX4_clash_1 : decode cX4_clash 1 = .ok (.getfield 45, 3) := by decide +kernel
theorem dX4_clash_4 : decode cX4_clash 4 = .ok (.iload_n 2, 1) := by decide +kernel
theorem dX4_clash_5 : decode cX4_clash 5 = .ok (.iaload, 1) := by decide +kernel
theorem dX4_clash_6 : decode cX4_clash 6 = .ok (.aload_n 1, 1) := by decide +kernel
theorem dX4_clash_7 : decode cX4_clash 7 = .ok (.iload_n 3, 1) := by decide +kernel
theorem dX4_clash_8 : decode cX4_clash 8 = .ok (.invokevirtual 48, 3) := by decide +kernel
theorem dX4_clash_11 : decode cX4_clash 11 = .ok (.iand, 1) := by decide +kernel
theorem dX4_clash_12 : decode cX4_clash 12 = .ok (.istore 5, 2) := by decide +kernel
theorem dX4_clash_14 : decode cX4_clash 14 = .ok (.iconst 0, 1) := by decide +kernel
theorem dX4_clash_15 : decode cX4_clash 15 = .ok (.istore 6, 2) := by decide +kernel
theorem dX4_clash_17 : decode cX4_clash 17 = .ok (.iconst 5, 1) := by decide +kernel
theorem dX4_clash_18 : decode cX4_clash 18 = .ok (.istore 7, 2) := by decide +kernel
theorem dX4_clash_20 : decode cX4_clash 20 = .ok (.iconst 1, 1) := by decide +kernel
theorem dX4_clash_21 : decode cX4_clash 21 = .ok (.istore 8, 2) := by decide +kernel
theorem dX4_clash_23 : decode cX4_clash 23 = .ok (.iload 8, 2) := by decide +kernel
theorem dX4_clash_25 : decode cX4_clash 25 = .ok (.iload 5, 2) := by decide +kernel
theorem dX4_clash_27 : decode cX4_clash 27 = .ok (.if_icmp .gt 77, 3) := by decide +kernel
theorem dX4_clash_30 : decode cX4_clash 30 = .ok (.iload 8, 2) := by decide +kernel
theorem dX4_clash_32 : decode cX4_clash 32 = .ok (.iload 5, 2) := by decide +kernel
theorem dX4_clash_34 : decode cX4_clash 34 = .ok (.iconst (-1), 1) := by decide +kernel
theorem dX4_clash_35 : decode cX4_clash 35 = .ok (.ixor, 1) := by decide +kernel
theorem dX4_clash_36 : decode cX4_clash 36 = .ok (.iand, 1) := by decide +kernel
theorem dX4_clash_37 : decode cX4_clash 37 = .ok (.ifCond .ne 61, 3) := by decide +kernel
theorem dX4_clash_40 : decode cX4_clash 40 = .ok (.iload 8, 2) := by decide +kernel
theorem dX4_clash_42 : decode cX4_clash 42 = .ok (.invokestatic 103, 3) := by decide +kernel
theorem dX4_clash_45 : decode cX4_clash 45 = .ok (.iload 7, 2) := by decide +kernel
theorem dX4_clash_47 : decode cX4_clash 47 = .ok (.if_icmp .ge 51, 3) := by decide +kernel
theorem dX4_clash_50 : decode cX4_clash 50 = .ok (.aload_n 0, 1) := by decide +kernel
theorem dX4_clash_51 : decode cX4_clash 51 = .ok (.getfield 12, 3) := by decide +kernel
theorem dX4_clash_54 : decode cX4_clash 54 = .ok (.aload_n 1, 1) := by decide +kernel
theorem dX4_clash_55 : decode cX4_clash 55 = .ok (.iload_n 2, 1) := by decide +kernel
theorem dX4_clash_56 : decode cX4_clash 56 = .ok (.iload 8, 2) := by decide +kernel
theorem dX4_clash_58 : decode cX4_clash 58 = .ok (.aload 4, 2) := by decide +kernel
theorem dX4_clash_60 : decode cX4_clash 60 = .ok (.getfield 97, 3) := by decide +kernel
theorem dX4_clash_63 : decode cX4_clash 63 = .ok (.iload_n 3, 1) := by decide +kernel
theorem dX4_clash_64 : decode cX4_clash 64 = .ok (.iaload, 1) := by decide +kernel
theorem dX4_clash_65 : decode cX4_clash 65 = .ok (.aload 4, 2) := by decide +kernel
theorem dX4_clash_67 : decode cX4_clash 67 = .ok (.getfield 100, 3) := by decide +kernel
theorem dX4_clash_70 : decode cX4_clash 70 = .ok (.iload_n 3, 1) := by decide +kernel
theorem dX4_clash_71 : decode cX4_clash 71 = .ok (.iaload, 1) := by decide +kernel
theorem dX4_clash_72 : decode cX4_clash 72 = .ok (.invokevirtual 51, 3) := by decide +kernel
theorem dX4_clash_75 : decode cX4_clash 75 = .ok (.aload_n 0, 1) := by decide +kernel
theorem dX4_clash_76 : decode cX4_clash 76 = .ok (.getfield 12, 3) := by decide +kernel
theorem dX4_clash_79 : decode cX4_clash 79 = .ok (.iconst 0, 1) := by decide +kernel
theorem dX4_clash_80 : decode cX4_clash 80 = .ok (.lconst 0, 1) := by decide +kernel
theorem dX4_clash_81 : decode cX4_clash 81 = .ok (.invokevirtual 55, 3) := by decide +kernel
theorem dX4_clash_84 : decode cX4_clash 84 = .ok (.ifCond .ne 14, 3) := by decide +kernel
theorem dX4_clash_87 : decode cX4_clash 87 = .ok (.iload 8, 2) := by decide +kernel
theorem dX4_clash_89 : decode cX4_clash 89 = .ok (.istore 6, 2) := by decide +kernel
theorem dX4_clash_91 : decode cX4_clash 91 = .ok (.iload 8, 2) := by decide +kernel
theorem dX4_clash_93 : decode cX4_clash 93 = .ok (.invokestatic 103, 3) := by decide +kernel
theorem dX4_clash_96 : decode cX4_clash 96 = .ok (.istore 7, 2) := by decide +kernel
theorem dX4_clash_98 : decode cX4_clash 98 = .ok (.iinc 8 1, 3) := by decide +kernel
theorem dX4_clash_101 : decode cX4_clash 101 = .ok (.goto (-78), 3) := by decide +kernel
theorem dX4_clash_104 : decode cX4_clash 104 = .ok (.iload 6, 2) := by decide +kernel
theorem dX4_clash_106 : decode cX4_clash 106 = .ok (.ireturn, 1) := by decide +kernel
theorem dX5_init_0 : decode cX5_init 0 = .ok (.aload_n 0, 1) := by decide +kernel
theorem dX5_init_1 : decode cX5_init 1 = .ok (.invokespecial 3, 3) := by decide +kernel
theorem dX5_init_4 : decode cX5_init 4 = .ok (.aload_n 0, 1) := by decide +kernel
theorem dX5_init_5 : decode cX5_init 5 = .ok (.sipush 288, 3) := by decide +kernel
theorem dX5_init_8 : decode cX5_init 8 = .ok (.newarray .int, 2) := by decide +kernel
theorem dX5_init_10 : decode cX5_init 10 = .ok (.putfield 9, 3) := by decide +kernel
theorem dX5_init_13 : decode cX5_init 13 = .ok (.aload_n 0, 1) := by decide +kernel
theorem dX5_init_14 : decode cX5_init 14 = .ok (.bipush 6, 2) := by decide +kernel
theorem dX5_init_16 : decode cX5_init 16 = .ok (.newarray .long, 2) := by decide +kernel
theorem dX5_init_18 : decode cX5_init 18 = .ok (.putfield 15, 3) := by decide +kernel
theorem dX5_init_21 : decode cX5_init 21 = .ok (.aload_n 0, 1) := by decide +kernel
theorem dX5_init_22 : decode cX5_init 22 = .ok (.bipush 9, 2) := by decide +kernel
theorem dX5_init_24 : decode cX5_init 24 = .ok (.newarray .long, 2) := by decide +kernel
theorem dX5_init_26 : decode cX5_init 26 = .ok (.putfield 19, 3) := by decide +kernel
theorem dX5_init_29 : decode cX5_init 29 = .ok (.aload_n 0, 1) := by decide +kernel
theorem dX5_init_30 : decode cX5_init 30 = .ok (.bipush 10, 2) := by decide +kernel
theorem dX5_init_32 : decode cX5_init 32 = .ok (.newarray .int, 2) := by decide +kernel
theorem dX5_init_34 : decode cX5_init 34 = .ok (.putfield 22, 3) := by decide +kernel
theorem dX5_init_37 : decode cX5_init 37 = .ok (.aload_n 0, 1) := by decide +kernel
theorem dX5_init_38 : decode cX5_init 38 = .ok (.bipush 10, 2) := by decide +kernel
theorem dX5_init_40 : decode cX5_init 40 = .ok (.newarray .int, 2) := by decide +kernel
theorem dX5_init_42 : decode cX5_init 42 = .ok (.putfield 25, 3) := by decide +kernel
theorem dX5_init_45 : decode cX5_init 45 = .ok (.aload_n 0, 1) := by decide +kernel
theorem dX5_init_46 : decode cX5_init 46 = .ok (.bipush 90, 2) := by decide +kernel
theorem dX5_init_48 : decode cX5_init 48 = .ok (.newarray .int, 2) := by decide +kernel
theorem dX5_init_50 : decode cX5_init 50 = .ok (.putfield 28, 3) := by decide +kernel
theorem dX5_init_53 : decode cX5_init 53 = .ok (.aload_n 0, 1) := by decide +kernel
theorem dX5_init_54 : decode cX5_init 54 = .ok (.bipush 54, 2) := by decide +kernel
theorem dX5_init_56 : decode cX5_init 56 = .ok (.newarray .int, 2) := by decide +kernel
theorem dX5_init_58 : decode cX5_init 58 = .ok (.putfield 31, 3) := by decide +kernel
theorem dX5_init_61 : decode cX5_init 61 = .ok (.return_, 1) := by decide +kernel
theorem dX5_piecesOf_0 : decode cX5_piecesOf 0 = .ok (.aload_n 0, 1) := by decide +kernel
theorem dX5_piecesOf_1 : decode cX5_piecesOf 1 = .ok (.getfield 22, 3) := by decide +kernel
theorem dX5_piecesOf_4 : decode cX5_piecesOf 4 = .ok (.iload_n 1, 1) := by decide +kernel
theorem dX5_piecesOf_5 : decode cX5_piecesOf 5 = .ok (.iaload, 1) := by decide +kernel
theorem dX5_piecesOf_6 : decode cX5_piecesOf 6 = .ok (.ireturn, 1) := by decide +kernel
theorem dX5_movesOf_0 : decode cX5_movesOf 0 = .ok (.aload_n 0, 1) := by decide +kernel
theorem dX5_movesOf_1 : decode cX5_movesOf 1 = .ok (.getfield 25, 3) := by decide +kernel
theorem dX5_movesOf_4 : decode cX5_movesOf 4 = .ok (.iload_n 1, 1) := by decide +kernel
theorem dX5_movesOf_5 : decode cX5_movesOf 5 = .ok (.iaload, 1) := by decide +kernel
theorem dX5_movesOf_6 : decode cX5_movesOf 6 = .ok (.ireturn, 1) := by decide +kernel
theorem dX5_roomAt_0 : decode cX5_roomAt 0 = .ok (.iload_n 2, 1) := by decide +kernel
theorem dX5_roomAt_1 : decode cX5_roomAt 1 = .ok (.ifCond .lt 23, 3) := by decide +kernel
theorem dX5_roomAt_4 : decode cX5_roomAt 4 = .ok (.iload_n 2, 1) := by decide +kernel
theorem dX5_roomAt_5 : decode cX5_roomAt 5 = .ok (.bipush 9, 2) := by decide +kernel
theorem dX5_roomAt_7 : decode cX5_roomAt 7 = .ok (.if_icmp .ge 17, 3) := by decide +kernel
theorem dX5_roomAt_10 : decode cX5_roomAt 10 = .ok (.aload_n 0, 1) := by decide +kernel
theorem dX5_roomAt_11 : decode cX5_roomAt 11 = .ok (.getfield 28, 3) := by decide +kernel
theorem dX5_roomAt_14 : decode cX5_roomAt 14 = .ok (.iload_n 1, 1) := by decide +kernel
theorem dX5_roomAt_15 : decode cX5_roomAt 15 = .ok (.bipush 9, 2) := by decide +kernel
theorem dX5_roomAt_17 : decode cX5_roomAt 17 = .ok (.imul, 1) := by decide +kernel
theorem dX5_roomAt_18 : decode cX5_roomAt 18 = .ok (.iload_n 2, 1) := by decide +kernel
theorem dX5_roomAt_19 : decode cX5_roomAt 19 = .ok (.iadd, 1) := by decide +kernel
theorem dX5_roomAt_20 : decode cX5_roomAt 20 = .ok (.iaload, 1) := by decide +kernel
theorem dX5_roomAt_21 : decode cX5_roomAt 21 = .ok (.goto 4, 3) := by decide +kernel
theorem dX5_roomAt_24 : decode cX5_roomAt 24 = .ok (.iconst (-1), 1) := by decide +kernel
theorem dX5_roomAt_25 : decode cX5_roomAt 25 = .ok (.ireturn, 1) := by decide +kernel
theorem dX5_usedAt_0 : decode cX5_usedAt 0 = .ok (.aload_n 0, 1) := by decide +kernel
theorem dX5_usedAt_1 : decode cX5_usedAt 1 = .ok (.getfield 9, 3) := by decide +kernel
theorem dX5_usedAt_4 : decode cX5_usedAt 4 = .ok (.iload_n 1, 1) := by decide +kernel
theorem dX5_usedAt_5 : decode cX5_usedAt 5 = .ok (.bipush 48, 2) := by decide +kernel
theorem dX5_usedAt_7 : decode cX5_usedAt 7 = .ok (.imul, 1) := by decide +kernel
theorem dX5_usedAt_8 : decode cX5_usedAt 8 = .ok (.iload_n 2, 1) := by decide +kernel
theorem dX5_usedAt_9 : decode cX5_usedAt 9 = .ok (.iadd, 1) := by decide +kernel
theorem dX5_usedAt_10 : decode cX5_usedAt 10 = .ok (.iaload, 1) := by decide +kernel
theorem dX5_usedAt_11 : decode cX5_usedAt 11 = .ok (.ireturn, 1) := by decide +kernel
theorem dX5_lay_0 : decode cX5_lay 0 = .ok (.aload_n 0, 1) := by decide +kernel
theorem dX5_lay_1 : decode cX5_lay 1 = .ok (.getfield 34, 3) := by decide +kernel
theorem dX5_lay_4 : decode cX5_lay 4 = .ok (.aload_n 2, 1) := by decide +kernel
theorem dX5_lay_5 : decode cX5_lay 5 = .ok (.invokevirtual 38, 3) := by decide +kernel
theorem dX5_lay_8 : decode cX5_lay 8 = .ok (.if_icmp .ne 12, 3) := by decide +kernel
theorem dX5_lay_11 : decode cX5_lay 11 = .ok (.aload_n 0, 1) := by decide +kernel
theorem dX5_lay_12 : decode cX5_lay 12 = .ok (.getfield 43, 3) := by decide +kernel
theorem dX5_lay_15 : decode cX5_lay 15 = .ok (.iload_n 3, 1) := by decide +kernel
theorem dX5_lay_16 : decode cX5_lay 16 = .ok (.if_icmp .ne 4, 3) := by decide +kernel
theorem dX5_lay_19 : decode cX5_lay 19 = .ok (.return_, 1) := by decide +kernel
theorem dX5_lay_20 : decode cX5_lay 20 = .ok (.aload_n 0, 1) := by decide +kernel
theorem dX5_lay_21 : decode cX5_lay 21 = .ok (.aload_n 2, 1) := by decide +kernel
theorem dX5_lay_22 : decode cX5_lay 22 = .ok (.invokevirtual 38, 3) := by decide +kernel
theorem dX5_lay_25 : decode cX5_lay 25 = .ok (.putfield 34, 3) := by decide +kernel
theorem dX5_lay_28 : decode cX5_lay 28 = .ok (.aload_n 0, 1) := by decide +kernel
theorem dX5_lay_29 : decode cX5_lay 29 = .ok (.iload_n 3, 1) := by decide +kernel
theorem dX5_lay_30 : decode cX5_lay 30 = .ok (.putfield 43, 3) := by decide +kernel
theorem dX5_lay_33 : decode cX5_lay 33 = .ok (.iconst 0, 1) := by decide +kernel
theorem dX5_lay_34 : decode cX5_lay 34 = .ok (.istore 4, 2) := by decide +kernel
theorem dX5_lay_36 : decode cX5_lay 36 = .ok (.iload 4, 2) := by decide +kernel
theorem dX5_lay_38 : decode cX5_lay 38 = .ok (.sipush 288, 3) := by decide +kernel
theorem dX5_lay_41 : decode cX5_lay 41 = .ok (.if_icmp .ge 17, 3) := by decide +kernel
theorem dX5_lay_44 : decode cX5_lay 44 = .ok (.aload_n 0, 1) := by decide +kernel
theorem dX5_lay_45 : decode cX5_lay 45 = .ok (.getfield 9, 3) := by decide +kernel
theorem dX5_lay_48 : decode cX5_lay 48 = .ok (.iload 4, 2) := by decide +kernel
theorem dX5_lay_50 : decode cX5_lay 50 = .ok (.iconst 0, 1) := by decide +kernel
theorem dX5_lay_51 : decode cX5_lay 51 = .ok (.iastore, 1) := by decide +kernel
theorem dX5_lay_52 : decode cX5_lay 52 = .ok (.iinc 4 1, 3) := by decide +kernel
theorem dX5_lay_55 : decode cX5_lay 55 = .ok (.goto (-19), 3) := by decide +kernel
theorem dX5_lay_58 : decode cX5_lay 58 = .ok (.iconst 0, 1) := by decide +kernel
theorem dX5_lay_59 : decode cX5_lay 59 = .ok (.istore 4, 2) := by decide +kernel
theorem dX5_lay_61 : decode cX5_lay 61 = .ok (.iload 4, 2) := by decide +kernel
theorem dX5_lay_63 : decode cX5_lay 63 = .ok (.bipush 6, 2) := by decide +kernel
theorem dX5_lay_65 : decode cX5_lay 65 = .ok (.if_icmp .ge 17, 3) := by decide +kernel
theorem dX5_lay_68 : decode cX5_lay 68 = .ok (.aload_n 0, 1) := by decide +kernel
theorem dX5_lay_69 : decode cX5_lay 69 = .ok (.getfield 15, 3) := by decide +kernel
theorem dX5_lay_72 : decode cX5_lay 72 = .ok (.iload 4, 2) := by decide +kernel
theorem dX5_lay_74 : decode cX5_lay 74 = .ok (.lconst 0, 1) := by decide +kernel
theorem dX5_lay_75 : decode cX5_lay 75 = .ok (.lastore, 1) := by decide +kernel
theorem dX5_lay_76 : decode cX5_lay 76 = .ok (.iinc 4 1, 3) := by decide +kernel
theorem dX5_lay_79 : decode cX5_lay 79 = .ok (.goto (-18), 3) := by decide +kernel
theorem dX5_lay_82 : decode cX5_lay 82 = .ok (.iconst 0, 1) := by decide +kernel
theorem dX5_lay_83 : decode cX5_lay 83 = .ok (.istore 4, 2) := by decide +kernel
theorem dX5_lay_85 : decode cX5_lay 85 = .ok (.iload 4, 2) := by decide +kernel
theorem dX5_lay_87 : decode cX5_lay 87 = .ok (.aload_n 1, 1) := by decide +kernel
theorem dX5_lay_88 : decode cX5_lay 88 = .ok (.getfield 46, 3) := by decide +kernel
theorem dX5_lay_91 : decode cX5_lay 91 = .ok (.if_icmp .ge 38, 3) := by decide +kernel
theorem dX5_lay_94 : decode cX5_lay 94 = .ok (.aload_n 0, 1) := by decide +kernel
theorem dX5_lay_95 : decode cX5_lay 95 = .ok (.getfield 22, 3) := by decide +kernel
theorem dX5_lay_98 : decode cX5_lay 98 = .ok (.iload 4, 2) := by decide +kernel
theorem dX5_lay_100 : decode cX5_lay 100 = .ok (.aload_n 2, 1) := by decide +kernel
theorem dX5_lay_101 : decode cX5_lay 101 = .ok (.aload_n 1, 1) := by decide +kernel
theorem dX5_lay_102 : decode cX5_lay 102 = .ok (.iload 4, 2) := by decide +kernel
theorem dX5_lay_104 : decode cX5_lay 104 = .ok (.invokevirtual 51, 3) := by decide +kernel
theorem dX5_lay_107 : decode cX5_lay 107 = .ok (.iload_n 3, 1) := by decide +kernel
theorem dX5_lay_108 : decode cX5_lay 108 = .ok (.aload_n 0, 1) := by decide +kernel
theorem dX5_lay_109 : decode cX5_lay 109 = .ok (.getfield 19, 3) := by decide +kernel
theorem dX5_lay_112 : decode cX5_lay 112 = .ok (.invokevirtual 55, 3) := by decide +kernel
theorem dX5_lay_115 : decode cX5_lay 115 = .ok (.iastore, 1) := by decide +kernel
theorem dX5_lay_116 : decode cX5_lay 116 = .ok (.aload_n 0, 1) := by decide +kernel
theorem dX5_lay_117 : decode cX5_lay 117 = .ok (.aload_n 1, 1) := by decide +kernel
theorem dX5_lay_118 : decode cX5_lay 118 = .ok (.iload 4, 2) := by decide +kernel
theorem dX5_lay_120 : decode cX5_lay 120 = .ok (.invokevirtual 61, 3) := by decide +kernel
theorem dX5_lay_123 : decode cX5_lay 123 = .ok (.iinc 4 1, 3) := by decide +kernel
theorem dX5_lay_126 : decode cX5_lay 126 = .ok (.goto (-41), 3) := by decide +kernel
theorem dX5_lay_129 : decode cX5_lay 129 = .ok (.return_, 1) := by decide +kernel
theorem dX5_seat_0 : decode cX5_seat 0 = .ok (.aload_n 0, 1) := by decide +kernel
theorem dX5_seat_1 : decode cX5_seat 1 = .ok (.getfield 22, 3) := by decide +kernel
theorem dX5_seat_4 : decode cX5_seat 4 = .ok (.iload_n 2, 1) := by decide +kernel
theorem dX5_seat_5 : decode cX5_seat 5 = .ok (.iaload, 1) := by decide +kernel
theorem dX5_seat_6 : decode cX5_seat 6 = .ok (.istore_n 3, 1) := by decide +kernel
theorem dX5_seat_7 : decode cX5_seat 7 = .ok (.iconst 0, 1) := by decide +kernel
theorem dX5_seat_8 : decode cX5_seat 8 = .ok (.istore 4, 2) := by decide +kernel
theorem dX5_seat_10 : decode cX5_seat 10 = .ok (.iload 4, 2) := by decide +kernel
theorem dX5_seat_12 : decode cX5_seat 12 = .ok (.iload_n 3, 1) := by decide +kernel
theorem dX5_seat_13 : decode cX5_seat 13 = .ok (.if_icmp .ge 22, 3) := by decide +kernel
theorem dX5_seat_16 : decode cX5_seat 16 = .ok (.aload_n 0, 1) := by decide +kernel
theorem dX5_seat_17 : decode cX5_seat 17 = .ok (.getfield 28, 3) := by decide +kernel
theorem dX5_seat_20 : decode cX5_seat 20 = .ok (.iload_n 2, 1) := by decide +kernel
theorem dX5_seat_21 : decode cX5_seat 21 = .ok (.bipush 9, 2) := by decide +kernel
theorem dX5_seat_23 : decode cX5_seat 23 = .ok (.imul, 1) := by decide +kernel
theorem dX5_seat_24 : decode cX5_seat 24 = .ok (.iload 4, 2) := by decide +kernel
theorem dX5_seat_26 : decode cX5_seat 26 = .ok (.iadd, 1) := by decide +kernel
theorem dX5_seat_27 : decode cX5_seat 27 = .ok (.iconst (-1), 1) := by decide +kernel
theorem dX5_seat_28 : decode cX5_seat 28 = .ok (.iastore, 1) := by decide +kernel
theorem dX5_seat_29 : decode cX5_seat 29 = .ok (.iinc 4 1, 3) := by decide +kernel
theorem dX5_seat_32 : decode cX5_seat 32 = .ok (.goto (-22), 3) := by decide +kernel
theorem dX5_seat_35 : decode cX5_seat 35 = .ok (.aload_n 0, 1) := by decide +kernel
theorem dX5_seat_36 : decode cX5_seat 36 = .ok (.getfield 25, 3) := by decide +kernel
theorem dX5_seat_39 : decode cX5_seat 39 = .ok (.iload_n 2, 1) := by decide +kernel
theorem dX5_seat_40 : decode cX5_seat 40 = .ok (.iconst 0, 1) := by decide +kernel
theorem dX5_seat_41 : decode cX5_seat 41 = .ok (.iastore, 1) := by decide +kernel
theorem dX5_seat_42 : decode cX5_seat 42 = .ok (.iload_n 3, 1) := by decide +kernel
theorem dX5_seat_43 : decode cX5_seat 43 = .ok (.ifCond .ne 4, 3) := by decide +kernel
theorem dX5_seat_46 : decode cX5_seat 46 = .ok (.return_, 1) := by decide +kernel
theorem dX5_seat_47 : decode cX5_seat 47 = .ok (.aload_n 0, 1) := by decide +kernel
theorem dX5_seat_48 : decode cX5_seat 48 = .ok (.aload_n 1, 1) := by decide +kernel
theorem dX5_seat_49 : decode cX5_seat 49 = .ok (.getfield 65, 3) := by decide +kernel
theorem dX5_seat_52 : decode cX5_seat 52 = .ok (.iload_n 3, 1) := by decide +kernel
theorem dX5_seat_53 : decode cX5_seat 53 = .ok (.invokevirtual 68, 3) := by decide +kernel
theorem dX5_seat_56 : decode cX5_seat 56 = .ok (.aload_n 0, 1) := by decide +kernel
theorem dX5_seat_57 : decode cX5_seat 57 = .ok (.aload_n 1, 1) := by decide +kernel
theorem dX5_seat_58 : decode cX5_seat 58 = .ok (.getfield 65, 3) := by decide +kernel
theorem dX5_seat_61 : decode cX5_seat 61 = .ok (.iconst 0, 1) := by decide +kernel
theorem dX5_seat_62 : decode cX5_seat 62 = .ok (.iconst (-1), 1) := by decide +kernel
theorem dX5_seat_63 : decode cX5_seat 63 = .ok (.invokevirtual 72, 3) := by decide +kernel
theorem dX5_seat_66 : decode cX5_seat 66 = .ok (.istore 4, 2) := by decide +kernel
theorem dX5_seat_68 : decode cX5_seat 68 = .ok (.aload_n 0, 1) := by decide +kernel
theorem dX5_seat_69 : decode cX5_seat 69 = .ok (.getfield 25, 3) := by decide +kernel
theorem dX5_seat_72 : decode cX5_seat 72 = .ok (.iload_n 2, 1) := by decide +kernel
theorem dX5_seat_73 : decode cX5_seat 73 = .ok (.iload 4, 2) := by decide +kernel
theorem dX5_seat_75 : decode cX5_seat 75 = .ok (.iconst (-1), 1) := by decide +kernel
theorem dX5_seat_76 : decode cX5_seat 76 = .ok (.if_icmp .ne 7, 3) := by decide +kernel
theorem dX5_seat_79 : decode cX5_seat 79 = .ok (.iconst (-1), 1) := by decide +kernel
theorem dX5_seat_80 : decode cX5_seat 80 = .ok (.goto 10, 3) := by decide +kernel
theorem dX5_seat_83 : decode cX5_seat 83 = .ok (.aload_n 0, 1) := by decide +kernel
theorem dX5_seat_84 : decode cX5_seat 84 = .ok (.getfield 31, 3) := by decide +kernel
theorem dX5_seat_87 : decode cX5_seat 87 = .ok (.iload 4, 2) := by decide +kernel
theorem dX5_seat_89 : decode cX5_seat 89 = .ok (.iaload, 1) := by decide +kernel
theorem dX5_seat_90 : decode cX5_seat 90 = .ok (.iastore, 1) := by decide +kernel
theorem dX5_seat_91 : decode cX5_seat 91 = .ok (.iconst 0, 1) := by decide +kernel
theorem dX5_seat_92 : decode cX5_seat 92 = .ok (.istore 5, 2) := by decide +kernel
theorem dX5_seat_94 : decode cX5_seat 94 = .ok (.iload 5, 2) := by decide +kernel
theorem dX5_seat_96 : decode cX5_seat 96 = .ok (.iload_n 3, 1) := by decide +kernel
theorem dX5_seat_97 : decode cX5_seat 97 = .ok (.if_icmp .ge 71, 3) := by decide +kernel
theorem dX5_seat_100 : decode cX5_seat 100 = .ok (.iload 4, 2) := by decide +kernel
theorem dX5_seat_102 : decode cX5_seat 102 = .ok (.iconst (-1), 1) := by decide +kernel
theorem dX5_seat_103 : decode cX5_seat 103 = .ok (.if_icmp .eq 65, 3) := by decide +kernel
theorem dX5_seat_106 : decode cX5_seat 106 = .ok (.aload_n 0, 1) := by decide +kernel
theorem dX5_seat_107 : decode cX5_seat 107 = .ok (.getfield 28, 3) := by decide +kernel
theorem dX5_seat_110 : decode cX5_seat 110 = .ok (.iload_n 2, 1) := by decide +kernel
theorem dX5_seat_111 : decode cX5_seat 111 = .ok (.bipush 9, 2) := by decide +kernel
theorem dX5_seat_113 : decode cX5_seat 113 = .ok (.imul, 1) := by decide +kernel
theorem dX5_seat_114 : decode cX5_seat 114 = .ok (.iload 5, 2) := by decide +kernel
theorem dX5_seat_116 : decode cX5_seat 116 = .ok (.iadd, 1) := by decide +kernel
theorem dX5_seat_117 : decode cX5_seat 117 = .ok (.iload 4, 2) := by decide +kernel
theorem dX5_seat_119 : decode cX5_seat 119 = .ok (.iastore, 1) := by decide +kernel
theorem dX5_seat_120 : decode cX5_seat 120 = .ok (.aload_n 0, 1) := by decide +kernel
theorem dX5_seat_121 : decode cX5_seat 121 = .ok (.aload_n 1, 1) := by decide +kernel
theorem dX5_seat_122 : decode cX5_seat 122 = .ok (.iload 4, 2) := by decide +kernel
theorem dX5_seat_124 : decode cX5_seat 124 = .ok (.aload_n 0, 1) := by decide +kernel
theorem dX5_seat_125 : decode cX5_seat 125 = .ok (.getfield 19, 3) := by decide +kernel
theorem dX5_seat_128 : decode cX5_seat 128 = .ok (.iload 5, 2) := by decide +kernel
theorem dX5_seat_130 : decode cX5_seat 130 = .ok (.laload, 1) := by decide +kernel
theorem dX5_seat_131 : decode cX5_seat 131 = .ok (.invokevirtual 76, 3) := by decide +kernel
theorem dX5_seat_134 : decode cX5_seat 134 = .ok (.iload 5, 2) := by decide +kernel
theorem dX5_seat_136 : decode cX5_seat 136 = .ok (.iconst 1, 1) := by decide +kernel
theorem dX5_seat_137 : decode cX5_seat 137 = .ok (.iadd, 1) := by decide +kernel
theorem dX5_seat_138 : decode cX5_seat 138 = .ok (.iload_n 3, 1) := by decide +kernel
theorem dX5_seat_139 : decode cX5_seat 139 = .ok (.if_icmp .ge 20, 3) := by decide +kernel
theorem dX5_seat_142 : decode cX5_seat 142 = .ok (.aload_n 0, 1) := by decide +kernel
theorem dX5_seat_143 : decode cX5_seat 143 = .ok (.aload_n 1, 1) := by decide +kernel
theorem dX5_seat_144 : decode cX5_seat 144 = .ok (.getfield 65, 3) := by decide +kernel
theorem dX5_seat_147 : decode cX5_seat 147 = .ok (.iload 5, 2) := by decide +kernel
theorem dX5_seat_149 : decode cX5_seat 149 = .ok (.iconst 1, 1) := by decide +kernel
theorem dX5_seat_150 : decode cX5_seat 150 = .ok (.iadd, 1) := by decide +kernel
theorem dX5_seat_151 : decode cX5_seat 151 = .ok (.iload 4, 2) := by decide +kernel
theorem dX5_seat_153 : decode cX5_seat 153 = .ok (.invokevirtual 72, 3) := by decide +kernel
theorem dX5_seat_156 : decode cX5_seat 156 = .ok (.goto 4, 3) := by decide +kernel
theorem dX5_seat_159 : decode cX5_seat 159 = .ok (.iconst (-1), 1) := by decide +kernel
theorem dX5_seat_160 : decode cX5_seat 160 = .ok (.istore 4, 2) := by decide +kernel
theorem dX5_seat_162 : decode cX5_seat 162 = .ok (.iinc 5 1, 3) := by decide +kernel
theorem dX5_seat_165 : decode cX5_seat 165 = .ok (.goto (-71), 3) := by decide +kernel
theorem dX5_seat_168 : decode cX5_seat 168 = .ok (.return_, 1) := by decide +kernel
theorem dX5_countMoves_0 : decode cX5_countMoves 0 = .ok (.iload_n 2, 1) := by decide +kernel
theorem dX5_countMoves_1 : decode cX5_countMoves 1 = .ok (.iconst 1, 1) := by decide +kernel
theorem dX5_countMoves_2 : decode cX5_countMoves 2 = .ok (.isub, 1) := by decide +kernel
theorem dX5_countMoves_3 : decode cX5_countMoves 3 = .ok (.istore_n 3, 1) := by decide +kernel
theorem dX5_countMoves_4 : decode cX5_countMoves 4 = .ok (.iload_n 3, 1) := by decide +kernel
theorem dX5_countMoves_5 : decode cX5_countMoves 5 = .ok (.ifCond .lt 45, 3) := by decide +kernel
theorem dX5_countMoves_8 : decode cX5_countMoves 8 = .ok (.iconst 0, 1) := by decide +kernel
theorem dX5_countMoves_9 : decode cX5_countMoves 9 = .ok (.istore 4, 2) := by decide +kernel
theorem dX5_countMoves_11 : decode cX5_countMoves 11 = .ok (.iload 4, 2) := by decide +kernel
theorem dX5_countMoves_13 : decode cX5_countMoves 13 = .ok (.iload_n 1, 1) := by decide +kernel
theorem dX5_countMoves_14 : decode cX5_countMoves 14 = .ok (.if_icmp .ge 30, 3) := by decide +kernel
theorem dX5_countMoves_17 : decode cX5_countMoves 17 = .ok (.aload_n 0, 1) := by decide +kernel
theorem dX5_countMoves_18 : decode cX5_countMoves 18 = .ok (.getfield 31, 3) := by decide +kernel
theorem dX5_countMoves_21 : decode cX5_countMoves 21 = .ok (.iload_n 3, 1) := by decide +kernel
theorem dX5_countMoves_22 : decode cX5_countMoves 22 = .ok (.bipush 6, 2) := by decide +kernel
theorem dX5_countMoves_24 : decode cX5_countMoves 24 = .ok (.imul, 1) := by decide +kernel
theorem dX5_countMoves_25 : decode cX5_countMoves 25 = .ok (.iload 4, 2) := by decide +kernel
theorem dX5_countMoves_27 : decode cX5_countMoves 27 = .ok (.iadd, 1) := by decide +kernel
theorem dX5_countMoves_28 : decode cX5_countMoves 28 = .ok (.aload_n 0, 1) := by decide +kernel
theorem dX5_countMoves_29 : decode cX5_countMoves 29 = .ok (.iload_n 1, 1) := by decide +kernel
theorem dX5_countMoves_30 : decode cX5_countMoves 30 = .ok (.iload_n 2, 1) := by decide +kernel
theorem dX5_countMoves_31 : decode cX5_countMoves 31 = .ok (.iload_n 3, 1) := by decide +kernel
theorem dX5_countMoves_32 : decode cX5_countMoves 32 = .ok (.iload 4, 2) := by decide +kernel
theorem dX5_countMoves_34 : decode cX5_countMoves 34 = .ok (.invokevirtual 80, 3) := by decide +kernel
theorem dX5_countMoves_37 : decode cX5_countMoves 37 = .ok (.iastore, 1) := by decide +kernel
theorem dX5_countMoves_38 : decode cX5_countMoves 38 = .ok (.iinc 4 1, 3) := by decide +kernel
theorem dX5_countMoves_41 : decode cX5_countMoves 41 = .ok (.goto (-30), 3) := by decide +kernel
theorem dX5_countMoves_44 : decode cX5_countMoves 44 = .ok (.iinc 3 (-1), 3) := by decide +kernel
theorem dX5_countMoves_47 : decode cX5_countMoves 47 = .ok (.goto (-43), 3) := by decide +kernel
theorem dX5_countMoves_50 : decode cX5_countMoves 50 = .ok (.return_, 1) := by decide +kernel
theorem dX5_costFrom_0 : decode cX5_costFrom 0 = .ok (.aload_n 0, 1) := by decide +kernel
theorem dX5_costFrom_1 : decode cX5_costFrom 1 = .ok (.getfield 15, 3) := by decide +kernel
theorem dX5_costFrom_4 : decode cX5_costFrom 4 = .ok (.iload 4, 2) := by decide +kernel
theorem dX5_costFrom_6 : decode cX5_costFrom 6 = .ok (.laload, 1) := by decide +kernel
theorem dX5_costFrom_7 : decode cX5_costFrom 7 = .ok (.aload_n 0, 1) := by decide +kernel
theorem dX5_costFrom_8 : decode cX5_costFrom 8 = .ok (.getfield 19, 3) := by decide +kernel
theorem dX5_costFrom_11 : decode cX5_costFrom 11 = .ok (.iload_n 3, 1) := by decide +kernel
theorem dX5_costFrom_12 : decode cX5_costFrom 12 = .ok (.laload, 1) := by decide +kernel
theorem dX5_costFrom_13 : decode cX5_costFrom 13 = .ok (.land, 1) := by decide +kernel
theorem dX5_costFrom_14 : decode cX5_costFrom 14 = .ok (.lconst 0, 1) := by decide +kernel
theorem dX5_costFrom_15 : decode cX5_costFrom 15 = .ok (.lcmp, 1) := by decide +kernel
theorem dX5_costFrom_16 : decode cX5_costFrom 16 = .ok (.ifCond .eq 7, 3) := by decide +kernel
theorem dX5_costFrom_19 : decode cX5_costFrom 19 = .ok (.sipush 1000, 3) := by decide +kernel
theorem dX5_costFrom_22 : decode cX5_costFrom 22 = .ok (.ireturn, 1) := by decide +kernel
theorem dX5_costFrom_23 : decode cX5_costFrom 23 = .ok (.iload_n 3, 1) := by decide +kernel
theorem dX5_costFrom_24 : decode cX5_costFrom 24 = .ok (.iconst 1, 1) := by decide +kernel
theorem dX5_costFrom_25 : decode cX5_costFrom 25 = .ok (.iadd, 1) := by decide +kernel
theorem dX5_costFrom_26 : decode cX5_costFrom 26 = .ok (.iload_n 2, 1) := by decide +kernel
theorem dX5_costFrom_27 : decode cX5_costFrom 27 = .ok (.if_icmp .lt 5, 3) := by decide +kernel
theorem dX5_costFrom_30 : decode cX5_costFrom 30 = .ok (.iconst 0, 1) := by decide +kernel
theorem dX5_costFrom_31 : decode cX5_costFrom 31 = .ok (.ireturn, 1) := by decide +kernel
theorem dX5_costFrom_32 : decode cX5_costFrom 32 = .ok (.aload_n 0, 1) := by decide +kernel
theorem dX5_costFrom_33 : decode cX5_costFrom 33 = .ok (.iload_n 1, 1) := by decide +kernel
theorem dX5_costFrom_34 : decode cX5_costFrom 34 = .ok (.iload_n 3, 1) := by decide +kernel
theorem dX5_costFrom_35 : decode cX5_costFrom 35 = .ok (.iconst 1, 1) := by decide +kernel
theorem dX5_costFrom_36 : decode cX5_costFrom 36 = .ok (.iadd, 1) := by decide +kernel
theorem dX5_costFrom_37 : decode cX5_costFrom 37 = .ok (.iload 4, 2) := by decide +kernel
theorem dX5_costFrom_39 : decode cX5_costFrom 39 = .ok (.invokevirtual 72, 3) := by decide +kernel
theorem dX5_costFrom_42 : decode cX5_costFrom 42 = .ok (.istore 5, 2) := by decide +kernel
theorem dX5_costFrom_44 : decode cX5_costFrom 44 = .ok (.iload 5, 2) := by decide +kernel
theorem dX5_costFrom_46 : decode cX5_costFrom 46 = .ok (.iconst (-1), 1) := by decide +kernel
theorem dX5_costFrom_47 : decode cX5_costFrom 47 = .ok (.if_icmp .ne 9, 3) := by decide +kernel
theorem dX5_costFrom_50 : decode cX5_costFrom 50 = .ok (.sipush 1000, 3) := by decide +kernel
theorem dX5_costFrom_53 : decode cX5_costFrom 53 = .ok (.goto 14, 3) := by decide +kernel
theorem dX5_costFrom_56 : decode cX5_costFrom 56 = .ok (.aload_n 0, 1) := by decide +kernel
theorem dX5_costFrom_57 : decode cX5_costFrom 57 = .ok (.iload_n 3, 1) := by decide +kernel
theorem dX5_costFrom_58 : decode cX5_costFrom 58 = .ok (.iconst 1, 1) := by decide +kernel
theorem dX5_costFrom_59 : decode cX5_costFrom 59 = .ok (.iadd, 1) := by decide +kernel
theorem dX5_costFrom_60 : decode cX5_costFrom 60 = .ok (.iload 5, 2) := by decide +kernel
theorem dX5_costFrom_62 : decode cX5_costFrom 62 = .ok (.iload 4, 2) := by decide +kernel
theorem dX5_costFrom_64 : decode cX5_costFrom 64 = .ok (.invokevirtual 84, 3) := by decide +kernel
theorem dX5_costFrom_67 : decode cX5_costFrom 67 = .ok (.ireturn, 1) := by decide +kernel
theorem dX5_firstRoom_0 : decode cX5_firstRoom 0 = .ok (.iconst (-1), 1) := by decide +kernel
theorem dX5_firstRoom_1 : decode cX5_firstRoom 1 = .ok (.istore 4, 2) := by decide +kernel
theorem dX5_firstRoom_3 : decode cX5_firstRoom 3 = .ok (.iconst 0, 1) := by decide +kernel
theorem dX5_firstRoom_4 : decode cX5_firstRoom 4 = .ok (.istore 5, 2) := by decide +kernel
theorem dX5_firstRoom_6 : decode cX5_firstRoom 6 = .ok (.iload 5, 2) := by decide +kernel
theorem dX5_firstRoom_8 : decode cX5_firstRoom 8 = .ok (.iload_n 1, 1) := by decide +kernel
theorem dX5_firstRoom_9 : decode cX5_firstRoom 9 = .ok (.if_icmp .ge 50, 3) := by decide +kernel
theorem dX5_firstRoom_12 : decode cX5_firstRoom 12 = .ok (.aload_n 0, 1) := by decide +kernel
theorem dX5_firstRoom_13 : decode cX5_firstRoom 13 = .ok (.iload_n 2, 1) := by decide +kernel
theorem dX5_firstRoom_14 : decode cX5_firstRoom 14 = .ok (.iload 5, 2) := by decide +kernel
theorem dX5_firstRoom_16 : decode cX5_firstRoom 16 = .ok (.iload_n 3, 1) := by decide +kernel
theorem dX5_firstRoom_17 : decode cX5_firstRoom 17 = .ok (.invokevirtual 84, 3) := by decide +kernel
theorem dX5_firstRoom_20 : decode cX5_firstRoom 20 = .ok (.istore 6, 2) := by decide +kernel
theorem dX5_firstRoom_22 : decode cX5_firstRoom 22 = .ok (.iload 6, 2) := by decide +kernel
theorem dX5_firstRoom_24 : decode cX5_firstRoom 24 = .ok (.sipush 1000, 3) := by decide +kernel
theorem dX5_firstRoom_27 : decode cX5_firstRoom 27 = .ok (.if_icmp .ge 26, 3) := by decide +kernel
theorem dX5_firstRoom_30 : decode cX5_firstRoom 30 = .ok (.iload 4, 2) := by decide +kernel
theorem dX5_firstRoom_32 : decode cX5_firstRoom 32 = .ok (.iconst (-1), 1) := by decide +kernel
theorem dX5_firstRoom_33 : decode cX5_firstRoom 33 = .ok (.if_icmp .eq 16, 3) := by decide +kernel
theorem dX5_firstRoom_36 : decode cX5_firstRoom 36 = .ok (.iload 6, 2) := by decide +kernel
theorem dX5_firstRoom_38 : decode cX5_firstRoom 38 = .ok (.aload_n 0, 1) := by decide +kernel
theorem dX5_firstRoom_39 : decode cX5_firstRoom 39 = .ok (.iload_n 2, 1) := by decide +kernel
theorem dX5_firstRoom_40 : decode cX5_firstRoom 40 = .ok (.iload 4, 2) := by decide +kernel
theorem dX5_firstRoom_42 : decode cX5_firstRoom 42 = .ok (.iload_n 3, 1) := by decide +kernel
theorem dX5_firstRoom_43 : decode cX5_firstRoom 43 = .ok (.invokevirtual 84, 3) := by decide +kernel
theorem dX5_firstRoom_46 : decode cX5_firstRoom 46 = .ok (.if_icmp .ge 7, 3) := by decide +kernel
theorem dX5_firstRoom_49 : decode cX5_firstRoom 49 = .ok (.iload 5, 2) := by decide +kernel
theorem dX5_firstRoom_51 : decode cX5_firstRoom 51 = .ok (.istore 4, 2) := by decide +kernel
theorem dX5_firstRoom_53 : decode cX5_firstRoom 53 = .ok (.iinc 5 1, 3) := by decide +kernel
theorem dX5_firstRoom_56 : decode cX5_firstRoom 56 = .ok (.goto (-50), 3) := by decide +kernel
theorem dX5_firstRoom_59 : decode cX5_firstRoom 59 = .ok (.iload 4, 2) := by decide +kernel
theorem dX5_firstRoom_61 : decode cX5_firstRoom 61 = .ok (.ireturn, 1) := by decide +kernel
theorem dX5_costWith_0 : decode cX5_costWith 0 = .ok (.aload_n 0, 1) := by decide +kernel
theorem dX5_costWith_1 : decode cX5_costWith 1 = .ok (.getfield 31, 3) := by decide +kernel
theorem dX5_costWith_4 : decode cX5_costWith 4 = .ok (.iload_n 1, 1) := by decide +kernel
theorem dX5_costWith_5 : decode cX5_costWith 5 = .ok (.bipush 6, 2) := by decide +kernel
theorem dX5_costWith_7 : decode cX5_costWith 7 = .ok (.imul, 1) := by decide +kernel
theorem dX5_costWith_8 : decode cX5_costWith 8 = .ok (.iload_n 2, 1) := by decide +kernel
theorem dX5_costWith_9 : decode cX5_costWith 9 = .ok (.iadd, 1) := by decide +kernel
theorem dX5_costWith_10 : decode cX5_costWith 10 = .ok (.iaload, 1) := by decide +kernel
theorem dX5_costWith_11 : decode cX5_costWith 11 = .ok (.iload_n 3, 1) := by decide +kernel
theorem dX5_costWith_12 : decode cX5_costWith 12 = .ok (.iconst (-1), 1) := by decide +kernel
theorem dX5_costWith_13 : decode cX5_costWith 13 = .ok (.if_icmp .eq 8, 3) := by decide +kernel
theorem dX5_costWith_16 : decode cX5_costWith 16 = .ok (.iload_n 3, 1) := by decide +kernel
theorem dX5_costWith_17 : decode cX5_costWith 17 = .ok (.iload_n 2, 1) := by decide +kernel
theorem dX5_costWith_18 : decode cX5_costWith 18 = .ok (.if_icmp .ne 7, 3) := by decide +kernel
theorem dX5_costWith_21 : decode cX5_costWith 21 = .ok (.iconst 0, 1) := by decide +kernel
theorem dX5_costWith_22 : decode cX5_costWith 22 = .ok (.goto 4, 3) := by decide +kernel
theorem dX5_costWith_25 : decode cX5_costWith 25 = .ok (.iconst 1, 1) := by decide +kernel
theorem dX5_costWith_26 : decode cX5_costWith 26 = .ok (.iadd, 1) := by decide +kernel
theorem dX5_costWith_27 : decode cX5_costWith 27 = .ok (.ireturn, 1) := by decide +kernel
theorem dX5_fill_0 : decode cX5_fill 0 = .ok (.iconst 0, 1) := by decide +kernel
theorem dX5_fill_1 : decode cX5_fill 1 = .ok (.istore 5, 2) := by decide +kernel
theorem dX5_fill_3 : decode cX5_fill 3 = .ok (.iload 5, 2) := by decide +kernel
theorem dX5_fill_5 : decode cX5_fill 5 = .ok (.bipush 48, 2) := by decide +kernel
theorem dX5_fill_7 : decode cX5_fill 7 = .ok (.if_icmp .ge 67, 3) := by decide +kernel
theorem dX5_fill_10 : decode cX5_fill 10 = .ok (.lload_n 3, 1) := by decide +kernel
theorem dX5_fill_11 : decode cX5_fill 11 = .ok (.iload 5, 2) := by decide +kernel
theorem dX5_fill_13 : decode cX5_fill 13 = .ok (.invokestatic 87, 3) := by decide +kernel
theorem dX5_fill_16 : decode cX5_fill 16 = .ok (.ifCond .eq 52, 3) := by decide +kernel
theorem dX5_fill_19 : decode cX5_fill 19 = .ok (.iload_n 2, 1) := by decide +kernel
theorem dX5_fill_20 : decode cX5_fill 20 = .ok (.bipush 48, 2) := by decide +kernel
theorem dX5_fill_22 : decode cX5_fill 22 = .ok (.imul, 1) := by decide +kernel
theorem dX5_fill_23 : decode cX5_fill 23 = .ok (.iload 5, 2) := by decide +kernel
theorem dX5_fill_25 : decode cX5_fill 25 = .ok (.iadd, 1) := by decide +kernel
theorem dX5_fill_26 : decode cX5_fill 26 = .ok (.istore 6, 2) := by decide +kernel
theorem dX5_fill_28 : decode cX5_fill 28 = .ok (.aload_n 0, 1) := by decide +kernel
theorem dX5_fill_29 : decode cX5_fill 29 = .ok (.getfield 9, 3) := by decide +kernel
theorem dX5_fill_32 : decode cX5_fill 32 = .ok (.iload 6, 2) := by decide +kernel
theorem dX5_fill_34 : decode cX5_fill 34 = .ok (.dup2, 1) := by decide +kernel
theorem dX5_fill_35 : decode cX5_fill 35 = .ok (.iaload, 1) := by decide +kernel
theorem dX5_fill_36 : decode cX5_fill 36 = .ok (.iconst 1, 1) := by decide +kernel
theorem dX5_fill_37 : decode cX5_fill 37 = .ok (.iadd, 1) := by decide +kernel
theorem dX5_fill_38 : decode cX5_fill 38 = .ok (.iastore, 1) := by decide +kernel
theorem dX5_fill_39 : decode cX5_fill 39 = .ok (.aload_n 0, 1) := by decide +kernel
theorem dX5_fill_40 : decode cX5_fill 40 = .ok (.getfield 9, 3) := by decide +kernel
theorem dX5_fill_43 : decode cX5_fill 43 = .ok (.iload 6, 2) := by decide +kernel
theorem dX5_fill_45 : decode cX5_fill 45 = .ok (.iaload, 1) := by decide +kernel
theorem dX5_fill_46 : decode cX5_fill 46 = .ok (.aload_n 1, 1) := by decide +kernel
theorem dX5_fill_47 : decode cX5_fill 47 = .ok (.getfield 91, 3) := by decide +kernel
theorem dX5_fill_50 : decode cX5_fill 50 = .ok (.iload_n 2, 1) := by decide +kernel
theorem dX5_fill_51 : decode cX5_fill 51 = .ok (.iaload, 1) := by decide +kernel
theorem dX5_fill_52 : decode cX5_fill 52 = .ok (.if_icmp .lt 16, 3) := by decide +kernel
theorem dX5_fill_55 : decode cX5_fill 55 = .ok (.aload_n 0, 1) := by decide +kernel
theorem dX5_fill_56 : decode cX5_fill 56 = .ok (.getfield 15, 3) := by decide +kernel
theorem dX5_fill_59 : decode cX5_fill 59 = .ok (.iload_n 2, 1) := by decide +kernel
theorem dX5_fill_60 : decode cX5_fill 60 = .ok (.dup2, 1) := by decide +kernel
theorem dX5_fill_61 : decode cX5_fill 61 = .ok (.laload, 1) := by decide +kernel
theorem dX5_fill_62 : decode cX5_fill 62 = .ok (.lconst 1, 1) := by decide +kernel
theorem dX5_fill_63 : decode cX5_fill 63 = .ok (.iload 5, 2) := by decide +kernel
theorem dX5_fill_65 : decode cX5_fill 65 = .ok (.lshl, 1) := by decide +kernel
theorem dX5_fill_66 : decode cX5_fill 66 = .ok (.lor, 1) := by decide +kernel
theorem dX5_fill_67 : decode cX5_fill 67 = .ok (.lastore, 1) := by decide +kernel
theorem dX5_fill_68 : decode cX5_fill 68 = .ok (.iinc 5 1, 3) := by decide +kernel
theorem dX5_fill_71 : decode cX5_fill 71 = .ok (.goto (-68), 3) := by decide +kernel
theorem dX5_fill_74 : decode cX5_fill 74 = .ok (.return_, 1) := by decide +kernel
theorem dX6_init_0 : decode cX6_init 0 = .ok (.aload_n 0, 1) := by decide +kernel
theorem dX6_init_1 : decode cX6_init 1 = .ok (.invokespecial 3, 3) := by decide +kernel
theorem dX6_init_4 : decode cX6_init 4 = .ok (.aload_n 0, 1) := by decide +kernel
theorem dX6_init_5 : decode cX6_init 5 = .ok (.bipush 8, 2) := by decide +kernel
theorem dX6_init_7 : decode cX6_init 7 = .ok (.newarray .int, 2) := by decide +kernel
theorem dX6_init_9 : decode cX6_init 9 = .ok (.dup, 1) := by decide +kernel
theorem dX6_init_10 : decode cX6_init 10 = .ok (.iconst 0, 1) := by decide +kernel
theorem dX6_init_11 : decode cX6_init 11 = .ok (.iconst (-1), 1) := by decide +kernel
theorem dX6_init_12 : decode cX6_init 12 = .ok (.iastore, 1) := by decide +kernel
theorem dX6_init_13 : decode cX6_init 13 = .ok (.dup, 1) := by decide +kernel
theorem dX6_init_14 : decode cX6_init 14 = .ok (.iconst 1, 1) := by decide +kernel
theorem dX6_init_15 : decode cX6_init 15 = .ok (.iconst (-1), 1) := by decide +kernel
theorem dX6_init_16 : decode cX6_init 16 = .ok (.iastore, 1) := by decide +kernel
theorem dX6_init_17 : decode cX6_init 17 = .ok (.dup, 1) := by decide +kernel
theorem dX6_init_18 : decode cX6_init 18 = .ok (.iconst 2, 1) := by decide +kernel
theorem dX6_init_19 : decode cX6_init 19 = .ok (.iconst (-1), 1) := by decide +kernel
theorem dX6_init_20 : decode cX6_init 20 = .ok (.iastore, 1) := by decide +kernel
theorem dX6_init_21 : decode cX6_init 21 = .ok (.dup, 1) := by decide +kernel
theorem dX6_init_22 : decode cX6_init 22 = .ok (.iconst 3, 1) := by decide +kernel
theorem dX6_init_23 : decode cX6_init 23 = .ok (.iconst (-1), 1) := by decide +kernel
theorem dX6_init_24 : decode cX6_init 24 = .ok (.iastore, 1) := by decide +kernel
theorem dX6_init_25 : decode cX6_init 25 = .ok (.dup, 1) := by decide +kernel
theorem dX6_init_26 : decode cX6_init 26 = .ok (.iconst 4, 1) := by decide +kernel
theorem dX6_init_27 : decode cX6_init 27 = .ok (.iconst (-1), 1) := by decide +kernel
theorem dX6_init_28 : decode cX6_init 28 = .ok (.iastore, 1) := by decide +kernel
theorem dX6_init_29 : decode cX6_init 29 = .ok (.dup, 1) := by decide +kernel
theorem dX6_init_30 : decode cX6_init 30 = .ok (.iconst 5, 1) := by decide +kernel
theorem dX6_init_31 : decode cX6_init 31 = .ok (.iconst (-1), 1) := by decide +kernel
theorem dX6_init_32 : decode cX6_init 32 = .ok (.iastore, 1) := by decide +kernel
theorem dX6_init_33 : decode cX6_init 33 = .ok (.dup, 1) := by decide +kernel
theorem dX6_init_34 : decode cX6_init 34 = .ok (.bipush 6, 2) := by decide +kernel
theorem dX6_init_36 : decode cX6_init 36 = .ok (.iconst (-1), 1) := by decide +kernel
theorem dX6_init_37 : decode cX6_init 37 = .ok (.iastore, 1) := by decide +kernel
theorem dX6_init_38 : decode cX6_init 38 = .ok (.dup, 1) := by decide +kernel
theorem dX6_init_39 : decode cX6_init 39 = .ok (.bipush 7, 2) := by decide +kernel
theorem dX6_init_41 : decode cX6_init 41 = .ok (.iconst (-1), 1) := by decide +kernel
theorem dX6_init_42 : decode cX6_init 42 = .ok (.iastore, 1) := by decide +kernel
theorem dX6_init_43 : decode cX6_init 43 = .ok (.putfield 9, 3) := by decide +kernel
theorem dX6_init_46 : decode cX6_init 46 = .ok (.aload_n 0, 1) := by decide +kernel
theorem dX6_init_47 : decode cX6_init 47 = .ok (.bipush 8, 2) := by decide +kernel
theorem dX6_init_49 : decode cX6_init 49 = .ok (.newarray .int, 2) := by decide +kernel
theorem dX6_init_51 : decode cX6_init 51 = .ok (.putfield 15, 3) := by decide +kernel
theorem dX6_init_54 : decode cX6_init 54 = .ok (.aload_n 0, 1) := by decide +kernel
theorem dX6_init_55 : decode cX6_init 55 = .ok (.sipush 320, 3) := by decide +kernel
theorem dX6_init_58 : decode cX6_init 58 = .ok (.newarray .long, 2) := by decide +kernel
theorem dX6_init_60 : decode cX6_init 60 = .ok (.putfield 18, 3) := by decide +kernel
theorem dX6_init_63 : decode cX6_init 63 = .ok (.return_, 1) := by decide +kernel
theorem dX6_isShelf_0 : decode cX6_isShelf 0 = .ok (.iload_n 0, 1) := by decide +kernel
theorem dX6_isShelf_1 : decode cX6_isShelf 1 = .ok (.ifCond .lt 13, 3) := by decide +kernel
theorem dX6_isShelf_4 : decode cX6_isShelf 4 = .ok (.iload_n 0, 1) := by decide +kernel
theorem dX6_isShelf_5 : decode cX6_isShelf 5 = .ok (.bipush 8, 2) := by decide +kernel
theorem dX6_isShelf_7 : decode cX6_isShelf 7 = .ok (.if_icmp .ge 7, 3) := by decide +kernel
theorem dX6_isShelf_10 : decode cX6_isShelf 10 = .ok (.iconst 1, 1) := by decide +kernel
theorem dX6_isShelf_11 : decode cX6_isShelf 11 = .ok (.goto 4, 3) := by decide +kernel
theorem dX6_isShelf_14 : decode cX6_isShelf 14 = .ok (.iconst 0, 1) := by decide +kernel
theorem dX6_isShelf_15 : decode cX6_isShelf 15 = .ok (.ireturn, 1) := by decide +kernel
theorem dX6_holding_0 : decode cX6_holding 0 = .ok (.iload_n 1, 1) := by decide +kernel
theorem dX6_holding_1 : decode cX6_holding 1 = .ok (.invokestatic 22, 3) := by decide +kernel
theorem dX6_holding_4 : decode cX6_holding 4 = .ok (.ifCond .eq 12, 3) := by decide +kernel
theorem dX6_holding_7 : decode cX6_holding 7 = .ok (.aload_n 0, 1) := by decide +kernel
theorem dX6_holding_8 : decode cX6_holding 8 = .ok (.getfield 9, 3) := by decide +kernel
theorem dX6_holding_11 : decode cX6_holding 11 = .ok (.iload_n 1, 1) := by decide +kernel
theorem dX6_holding_12 : decode cX6_holding 12 = .ok (.iaload, 1) := by decide +kernel
theorem dX6_holding_13 : decode cX6_holding 13 = .ok (.goto 4, 3) := by decide +kernel
theorem dX6_holding_16 : decode cX6_holding 16 = .ok (.iconst (-1), 1) := by decide +kernel
theorem dX6_holding_17 : decode cX6_holding 17 = .ok (.ireturn, 1) := by decide +kernel
theorem dX6_candOn_0 : decode cX6_candOn 0 = .ok (.aload_n 0, 1) := by decide +kernel
theorem dX6_candOn_1 : decode cX6_candOn 1 = .ok (.iload_n 1, 1) := by decide +kernel
theorem dX6_candOn_2 : decode cX6_candOn 2 = .ok (.invokevirtual 26, 3) := by decide +kernel
theorem dX6_candOn_5 : decode cX6_candOn 5 = .ok (.istore_n 2, 1) := by decide +kernel
theorem dX6_candOn_6 : decode cX6_candOn 6 = .ok (.iload_n 2, 1) := by decide +kernel
theorem dX6_candOn_7 : decode cX6_candOn 7 = .ok (.bipush 10, 2) := by decide +kernel
theorem dX6_candOn_9 : decode cX6_candOn 9 = .ok (.if_icmp .lt 10, 3) := by decide +kernel
theorem dX6_candOn_12 : decode cX6_candOn 12 = .ok (.iload_n 2, 1) := by decide +kernel
theorem dX6_candOn_13 : decode cX6_candOn 13 = .ok (.bipush 10, 2) := by decide +kernel
theorem dX6_candOn_15 : decode cX6_candOn 15 = .ok (.isub, 1) := by decide +kernel
theorem dX6_candOn_16 : decode cX6_candOn 16 = .ok (.goto 4, 3) := by decide +kernel
theorem dX6_candOn_19 : decode cX6_candOn 19 = .ok (.iconst (-1), 1) := by decide +kernel
theorem dX6_candOn_20 : decode cX6_candOn 20 = .ok (.ireturn, 1) := by decide +kernel
theorem dX6_dropCandsFrom_0 : decode cX6_dropCandsFrom 0 = .ok (.iconst 0, 1) := by decide +kernel
theorem dX6_dropCandsFrom_1 : decode cX6_dropCandsFrom 1 = .ok (.istore_n 2, 1) := by decide +kernel
theorem dX6_dropCandsFrom_2 : decode cX6_dropCandsFrom 2 = .ok (.iload_n 2, 1) := by decide +kernel
theorem dX6_dropCandsFrom_3 : decode cX6_dropCandsFrom 3 = .ok (.bipush 8, 2) := by decide +kernel
theorem dX6_dropCandsFrom_5 : decode cX6_dropCandsFrom 5 = .ok (.if_icmp .ge 25, 3) := by decide +kernel
theorem dX6_dropCandsFrom_8 : decode cX6_dropCandsFrom 8 = .ok (.aload_n 0, 1) := by decide +kernel
theorem dX6_dropCandsFrom_9 : decode cX6_dropCandsFrom 9 = .ok (.iload_n 2, 1) := by decide +kernel
theorem dX6_dropCandsFrom_10 : decode cX6_dropCandsFrom 10 = .ok (.invokevirtual 44, 3) := by decide +kernel
theorem dX6_dropCandsFrom_13 : decode cX6_dropCandsFrom 13 = .ok (.iload_n 1, 1) := by decide +kernel
theorem dX6_dropCandsFrom_14 : decode cX6_dropCandsFrom 14 = .ok (.if_icmp .lt 10, 3) := by decide +kernel
theorem dX6_dropCandsFrom_17 : decode cX6_dropCandsFrom 17 = .ok (.aload_n 0, 1) := by decide +kernel
theorem dX6_dropCandsFrom_18 : decode cX6_dropCandsFrom 18 = .ok (.getfield 9, 3) := by decide +kernel
theorem dX6_dropCandsFrom_21 : decode cX6_dropCandsFrom 21 = .ok (.iload_n 2, 1) := by decide +kernel
theorem dX6_dropCandsFrom_22 : decode cX6_dropCandsFrom 22 = .ok (.iconst (-1), 1) := by decide +kernel
theorem dX6_dropCandsFrom_23 : decode cX6_dropCandsFrom 23 = .ok (.iastore, 1) := by decide +kernel
theorem dX6_dropCandsFrom_24 : decode cX6_dropCandsFrom 24 = .ok (.iinc 2 1, 3) := by decide +kernel
theorem dX6_dropCandsFrom_27 : decode cX6_dropCandsFrom 27 = .ok (.goto (-25), 3) := by decide +kernel
theorem dX6_dropCandsFrom_30 : decode cX6_dropCandsFrom 30 = .ok (.return_, 1) := by decide +kernel
theorem dX6_filled_0 : decode cX6_filled 0 = .ok (.iconst 0, 1) := by decide +kernel
theorem dX6_filled_1 : decode cX6_filled 1 = .ok (.istore_n 1, 1) := by decide +kernel
theorem dX6_filled_2 : decode cX6_filled 2 = .ok (.iconst 0, 1) := by decide +kernel
theorem dX6_filled_3 : decode cX6_filled 3 = .ok (.istore_n 2, 1) := by decide +kernel
theorem dX6_filled_4 : decode cX6_filled 4 = .ok (.iload_n 2, 1) := by decide +kernel
theorem dX6_filled_5 : decode cX6_filled 5 = .ok (.bipush 8, 2) := by decide +kernel
theorem dX6_filled_7 : decode cX6_filled 7 = .ok (.if_icmp .ge 22, 3) := by decide +kernel
theorem dX6_filled_10 : decode cX6_filled 10 = .ok (.aload_n 0, 1) := by decide +kernel
theorem dX6_filled_11 : decode cX6_filled 11 = .ok (.getfield 9, 3) := by decide +kernel
theorem dX6_filled_14 : decode cX6_filled 14 = .ok (.iload_n 2, 1) := by decide +kernel
theorem dX6_filled_15 : decode cX6_filled 15 = .ok (.iaload, 1) := by decide +kernel
theorem dX6_filled_16 : decode cX6_filled 16 = .ok (.iconst (-1), 1) := by decide +kernel
theorem dX6_filled_17 : decode cX6_filled 17 = .ok (.if_icmp .eq 6, 3) := by decide +kernel
theorem dX6_filled_20 : decode cX6_filled 20 = .ok (.iinc 1 1, 3) := by decide +kernel
theorem dX6_filled_23 : decode cX6_filled 23 = .ok (.iinc 2 1, 3) := by decide +kernel
theorem dX6_filled_26 : decode cX6_filled 26 = .ok (.goto (-22), 3) := by decide +kernel
theorem dX6_filled_29 : decode cX6_filled 29 = .ok (.iload_n 1, 1) := by decide +kernel
theorem dX6_filled_30 : decode cX6_filled 30 = .ok (.ireturn, 1) := by decide +kernel
theorem dX7_init_0 : decode cX7_init 0 = .ok (.aload_n 0, 1) := by decide +kernel
theorem dX7_init_1 : decode cX7_init 1 = .ok (.invokespecial 3, 3) := by decide +kernel
theorem dX7_init_4 : decode cX7_init 4 = .ok (.aload_n 0, 1) := by decide +kernel
theorem dX7_init_5 : decode cX7_init 5 = .ok (.sipush 250, 3) := by decide +kernel
theorem dX7_init_8 : decode cX7_init 8 = .ok (.newarray .int, 2) := by decide +kernel
theorem dX7_init_10 : decode cX7_init 10 = .ok (.putfield 11, 3) := by decide +kernel
theorem dX7_init_13 : decode cX7_init 13 = .ok (.return_, 1) := by decide +kernel
theorem dX7_size_0 : decode cX7_size 0 = .ok (.aload_n 0, 1) := by decide +kernel
theorem dX7_size_1 : decode cX7_size 1 = .ok (.getfield 15, 3) := by decide +kernel
theorem dX7_size_4 : decode cX7_size 4 = .ok (.ireturn, 1) := by decide +kernel
theorem dX8_init_0 : decode cX8_init 0 = .ok (.aload_n 0, 1) := by decide +kernel
theorem dX8_init_1 : decode cX8_init 1 = .ok (.invokespecial 3, 3) := by decide +kernel
theorem dX8_init_4 : decode cX8_init 4 = .ok (.aload_n 0, 1) := by decide +kernel
theorem dX8_init_5 : decode cX8_init 5 = .ok (.iconst 5, 1) := by decide +kernel
theorem dX8_init_6 : decode cX8_init 6 = .ok (.newarray .boolean, 2) := by decide +kernel
theorem dX8_init_8 : decode cX8_init 8 = .ok (.putfield 9, 3) := by decide +kernel
theorem dX8_init_11 : decode cX8_init 11 = .ok (.aload_n 0, 1) := by decide +kernel
theorem dX8_init_12 : decode cX8_init 12 = .ok (.iconst 5, 1) := by decide +kernel
theorem dX8_init_13 : decode cX8_init 13 = .ok (.newarray .int, 2) := by decide +kernel
theorem dX8_init_15 : decode cX8_init 15 = .ok (.putfield 15, 3) := by decide +kernel
theorem dX8_init_18 : decode cX8_init 18 = .ok (.aload_n 0, 1) := by decide +kernel
theorem dX8_init_19 : decode cX8_init 19 = .ok (.iconst 5, 1) := by decide +kernel
theorem dX8_init_20 : decode cX8_init 20 = .ok (.newarray .int, 2) := by decide +kernel
theorem dX8_init_22 : decode cX8_init 22 = .ok (.putfield 19, 3) := by decide +kernel
theorem dX8_init_25 : decode cX8_init 25 = .ok (.aload_n 0, 1) := by decide +kernel
theorem dX8_init_26 : decode cX8_init 26 = .ok (.iconst 5, 1) := by decide +kernel
theorem dX8_init_27 : decode cX8_init 27 = .ok (.newarray .int, 2) := by decide +kernel
theorem dX8_init_29 : decode cX8_init 29 = .ok (.putfield 22, 3) := by decide +kernel
theorem dX8_init_32 : decode cX8_init 32 = .ok (.aload_n 0, 1) := by decide +kernel
theorem dX8_init_33 : decode cX8_init 33 = .ok (.iconst 5, 1) := by decide +kernel
theorem dX8_init_34 : decode cX8_init 34 = .ok (.newarray .int, 2) := by decide +kernel
theorem dX8_init_36 : decode cX8_init 36 = .ok (.putfield 25, 3) := by decide +kernel
theorem dX8_init_39 : decode cX8_init 39 = .ok (.aload_n 0, 1) := by decide +kernel
theorem dX8_init_40 : decode cX8_init 40 = .ok (.iconst 5, 1) := by decide +kernel
theorem dX8_init_41 : decode cX8_init 41 = .ok (.newarray .long, 2) := by decide +kernel
theorem dX8_init_43 : decode cX8_init 43 = .ok (.putfield 28, 3) := by decide +kernel
theorem dX8_init_46 : decode cX8_init 46 = .ok (.aload_n 0, 1) := by decide +kernel
theorem dX8_init_47 : decode cX8_init 47 = .ok (.bipush 20, 2) := by decide +kernel
theorem dX8_init_49 : decode cX8_init 49 = .ok (.newarray .int, 2) := by decide +kernel
theorem dX8_init_51 : decode cX8_init 51 = .ok (.putfield 32, 3) := by decide +kernel
theorem dX8_init_54 : decode cX8_init 54 = .ok (.aload_n 0, 1) := by decide +kernel
theorem dX8_init_55 : decode cX8_init 55 = .ok (.bipush 20, 2) := by decide +kernel
theorem dX8_init_57 : decode cX8_init 57 = .ok (.newarray .int, 2) := by decide +kernel
theorem dX8_init_59 : decode cX8_init 59 = .ok (.putfield 35, 3) := by decide +kernel
theorem dX8_init_62 : decode cX8_init 62 = .ok (.aload_n 0, 1) := by decide +kernel
theorem dX8_init_63 : decode cX8_init 63 = .ok (.bipush 20, 2) := by decide +kernel
theorem dX8_init_65 : decode cX8_init 65 = .ok (.newarray .int, 2) := by decide +kernel
theorem dX8_init_67 : decode cX8_init 67 = .ok (.putfield 38, 3) := by decide +kernel
theorem dX8_init_70 : decode cX8_init 70 = .ok (.return_, 1) := by decide +kernel
theorem dX8_become_0 : decode cX8_become 0 = .ok (.iconst 0, 1) := by decide +kernel
theorem dX8_become_1 : decode cX8_become 1 = .ok (.istore_n 2, 1) := by decide +kernel
theorem dX8_become_2 : decode cX8_become 2 = .ok (.iload_n 2, 1) := by decide +kernel
theorem dX8_become_3 : decode cX8_become 3 = .ok (.iconst 5, 1) := by decide +kernel
theorem dX8_become_4 : decode cX8_become 4 = .ok (.if_icmp .ge 21, 3) := by decide +kernel
theorem dX8_become_7 : decode cX8_become 7 = .ok (.aload_n 0, 1) := by decide +kernel
theorem dX8_become_8 : decode cX8_become 8 = .ok (.getfield 9, 3) := by decide +kernel
theorem dX8_become_11 : decode cX8_become 11 = .ok (.iload_n 2, 1) := by decide +kernel
theorem dX8_become_12 : decode cX8_become 12 = .ok (.aload_n 1, 1) := by decide +kernel
theorem dX8_become_13 : decode cX8_become 13 = .ok (.getfield 9, 3) := by decide +kernel
theorem dX8_become_16 : decode cX8_become 16 = .ok (.iload_n 2, 1) := by decide +kernel
theorem dX8_become_17 : decode cX8_become 17 = .ok (.baload, 1) := by decide +kernel
theorem dX8_become_18 : decode cX8_become 18 = .ok (.bastore, 1) := by decide +kernel
theorem dX8_become_19 : decode cX8_become 19 = .ok (.iinc 2 1, 3) := by decide +kernel
theorem dX8_become_22 : decode cX8_become 22 = .ok (.goto (-20), 3) := by decide +kernel
theorem dX8_become_25 : decode cX8_become 25 = .ok (.aload_n 1, 1) := by decide +kernel
theorem dX8_become_26 : decode cX8_become 26 = .ok (.getfield 15, 3) := by decide +kernel
theorem dX8_become_29 : decode cX8_become 29 = .ok (.iconst 0, 1) := by decide +kernel
theorem dX8_become_30 : decode cX8_become 30 = .ok (.aload_n 0, 1) := by decide +kernel
theorem dX8_become_31 : decode cX8_become 31 = .ok (.getfield 15, 3) := by decide +kernel
theorem dX8_become_34 : decode cX8_become 34 = .ok (.iconst 0, 1) := by decide +kernel
theorem dX8_become_35 : decode cX8_become 35 = .ok (.iconst 5, 1) := by decide +kernel
theorem dX8_become_36 : decode cX8_become 36 = .ok (.invokestatic 41, 3) := by decide +kernel
theorem dX8_become_39 : decode cX8_become 39 = .ok (.aload_n 1, 1) := by decide +kernel
theorem dX8_become_40 : decode cX8_become 40 = .ok (.getfield 19, 3) := by decide +kernel
theorem dX8_become_43 : decode cX8_become 43 = .ok (.iconst 0, 1) := by decide +kernel
theorem dX8_become_44 : decode cX8_become 44 = .ok (.aload_n 0, 1) := by decide +kernel
theorem dX8_become_45 : decode cX8_become 45 = .ok (.getfield 19, 3) := by decide +kernel
theorem dX8_become_48 : decode cX8_become 48 = .ok (.iconst 0, 1) := by decide +kernel
theorem dX8_become_49 : decode cX8_become 49 = .ok (.iconst 5, 1) := by decide +kernel
theorem dX8_become_50 : decode cX8_become 50 = .ok (.invokestatic 41, 3) := by decide +kernel
theorem dX8_become_53 : decode cX8_become 53 = .ok (.aload_n 1, 1) := by decide +kernel
theorem dX8_become_54 : decode cX8_become 54 = .ok (.getfield 22, 3) := by decide +kernel
theorem dX8_become_57 : decode cX8_become 57 = .ok (.iconst 0, 1) := by decide +kernel
theorem dX8_become_58 : decode cX8_become 58 = .ok (.aload_n 0, 1) := by decide +kernel
theorem dX8_become_59 : decode cX8_become 59 = .ok (.getfield 22, 3) := by decide +kernel
theorem dX8_become_62 : decode cX8_become 62 = .ok (.iconst 0, 1) := by decide +kernel
theorem dX8_become_63 : decode cX8_become 63 = .ok (.iconst 5, 1) := by decide +kernel
theorem dX8_become_64 : decode cX8_become 64 = .ok (.invokestatic 41, 3) := by decide +kernel
theorem dX8_become_67 : decode cX8_become 67 = .ok (.aload_n 1, 1) := by decide +kernel
theorem dX8_become_68 : decode cX8_become 68 = .ok (.getfield 25, 3) := by decide +kernel
theorem dX8_become_71 : decode cX8_become 71 = .ok (.iconst 0, 1) := by decide +kernel
theorem dX8_become_72 : decode cX8_become 72 = .ok (.aload_n 0, 1) := by decide +kernel
theorem dX8_become_73 : decode cX8_become 73 = .ok (.getfield 25, 3) := by decide +kernel
theorem dX8_become_76 : decode cX8_become 76 = .ok (.iconst 0, 1) := by decide +kernel
theorem dX8_become_77 : decode cX8_become 77 = .ok (.iconst 5, 1) := by decide +kernel
theorem dX8_become_78 : decode cX8_become 78 = .ok (.invokestatic 41, 3) := by decide +kernel
theorem dX8_become_81 : decode cX8_become 81 = .ok (.aload_n 1, 1) := by decide +kernel
theorem dX8_become_82 : decode cX8_become 82 = .ok (.getfield 28, 3) := by decide +kernel
theorem dX8_become_85 : decode cX8_become 85 = .ok (.iconst 0, 1) := by decide +kernel
theorem dX8_become_86 : decode cX8_become 86 = .ok (.aload_n 0, 1) := by decide +kernel
theorem dX8_become_87 : decode cX8_become 87 = .ok (.getfield 28, 3) := by decide +kernel
theorem dX8_become_90 : decode cX8_become 90 = .ok (.iconst 0, 1) := by decide +kernel
theorem dX8_become_91 : decode cX8_become 91 = .ok (.iconst 5, 1) := by decide +kernel
theorem dX8_become_92 : decode cX8_become 92 = .ok (.invokestatic 41, 3) := by decide +kernel
theorem dX8_become_95 : decode cX8_become 95 = .ok (.aload_n 1, 1) := by decide +kernel
theorem dX8_become_96 : decode cX8_become 96 = .ok (.getfield 32, 3) := by decide +kernel
theorem dX8_become_99 : decode cX8_become 99 = .ok (.iconst 0, 1) := by decide +kernel
theorem dX8_become_100 : decode cX8_become 100 = .ok (.aload_n 0, 1) := by decide +kernel
theorem dX8_become_101 : decode cX8_become 101 = .ok (.getfield 32, 3) := by decide +kernel
theorem dX8_become_104 : decode cX8_become 104 = .ok (.iconst 0, 1) := by decide +kernel
theorem dX8_become_105 : decode cX8_become 105 = .ok (.bipush 20, 2) := by decide +kernel
theorem dX8_become_107 : decode cX8_become 107 = .ok (.invokestatic 41, 3) := by decide +kernel
theorem dX8_become_110 : decode cX8_become 110 = .ok (.aload_n 1, 1) := by decide +kernel
theorem dX8_become_111 : decode cX8_become 111 = .ok (.getfield 35, 3) := by decide +kernel
theorem dX8_become_114 : decode cX8_become 114 = .ok (.iconst 0, 1) := by decide +kernel
theorem dX8_become_115 : decode cX8_become 115 = .ok (.aload_n 0, 1) := by decide +kernel
theorem dX8_become_116 : decode cX8_become 116 = .ok (.getfield 35, 3) := by decide +kernel
theorem dX8_become_119 : decode cX8_become 119 = .ok (.iconst 0, 1) := by decide +kernel
theorem dX8_become_120 : decode cX8_become 120 = .ok (.bipush 20, 2) := by decide +kernel
theorem dX8_become_122 : decode cX8_become 122 = .ok (.invokestatic 41, 3) := by decide +kernel
theorem dX8_become_125 : decode cX8_become 125 = .ok (.aload_n 1, 1) := by decide +kernel
theorem dX8_become_126 : decode cX8_become 126 = .ok (.getfield 38, 3) := by decide +kernel
theorem dX8_become_129 : decode cX8_become 129 = .ok (.iconst 0, 1) := by decide +kernel
theorem dX8_become_130 : decode cX8_become 130 = .ok (.aload_n 0, 1) := by decide +kernel
theorem dX8_become_131 : decode cX8_become 131 = .ok (.getfield 38, 3) := by decide +kernel
theorem dX8_become_134 : decode cX8_become 134 = .ok (.iconst 0, 1) := by decide +kernel
theorem dX8_become_135 : decode cX8_become 135 = .ok (.bipush 20, 2) := by decide +kernel
theorem dX8_become_137 : decode cX8_become 137 = .ok (.invokestatic 41, 3) := by decide +kernel
theorem dX8_become_140 : decode cX8_become 140 = .ok (.return_, 1) := by decide +kernel
theorem dX8_open_0 : decode cX8_open 0 = .ok (.aload_n 0, 1) := by decide +kernel
theorem dX8_open_1 : decode cX8_open 1 = .ok (.getfield 9, 3) := by decide +kernel
theorem dX8_open_4 : decode cX8_open 4 = .ok (.iload_n 1, 1) := by decide +kernel
theorem dX8_open_5 : decode cX8_open 5 = .ok (.iconst 0, 1) := by decide +kernel
theorem dX8_open_6 : decode cX8_open 6 = .ok (.bastore, 1) := by decide +kernel
theorem dX8_open_7 : decode cX8_open 7 = .ok (.aload_n 0, 1) := by decide +kernel
theorem dX8_open_8 : decode cX8_open 8 = .ok (.getfield 15, 3) := by decide +kernel
theorem dX8_open_11 : decode cX8_open 11 = .ok (.iload_n 1, 1) := by decide +kernel
theorem dX8_open_12 : decode cX8_open 12 = .ok (.iconst (-1), 1) := by decide +kernel
theorem dX8_open_13 : decode cX8_open 13 = .ok (.iastore, 1) := by decide +kernel
theorem dX8_open_14 : decode cX8_open 14 = .ok (.aload_n 0, 1) := by decide +kernel
theorem dX8_open_15 : decode cX8_open 15 = .ok (.getfield 19, 3) := by decide +kernel
theorem dX8_open_18 : decode cX8_open 18 = .ok (.iload_n 1, 1) := by decide +kernel
theorem dX8_open_19 : decode cX8_open 19 = .ok (.iload_n 2, 1) := by decide +kernel
theorem dX8_open_20 : decode cX8_open 20 = .ok (.iastore, 1) := by decide +kernel
theorem dX8_open_21 : decode cX8_open 21 = .ok (.aload_n 0, 1) := by decide +kernel
theorem dX8_open_22 : decode cX8_open 22 = .ok (.getfield 22, 3) := by decide +kernel
theorem dX8_open_25 : decode cX8_open 25 = .ok (.iload_n 1, 1) := by decide +kernel
theorem dX8_open_26 : decode cX8_open 26 = .ok (.iload_n 3, 1) := by decide +kernel
theorem dX8_open_27 : decode cX8_open 27 = .ok (.iastore, 1) := by decide +kernel
theorem dX8_open_28 : decode cX8_open 28 = .ok (.aload_n 0, 1) := by decide +kernel
theorem dX8_open_29 : decode cX8_open 29 = .ok (.getfield 25, 3) := by decide +kernel
theorem dX8_open_32 : decode cX8_open 32 = .ok (.iload_n 1, 1) := by decide +kernel
theorem dX8_open_33 : decode cX8_open 33 = .ok (.iconst 0, 1) := by decide +kernel
theorem dX8_open_34 : decode cX8_open 34 = .ok (.iastore, 1) := by decide +kernel
theorem dX8_open_35 : decode cX8_open 35 = .ok (.aload_n 0, 1) := by decide +kernel
theorem dX8_open_36 : decode cX8_open 36 = .ok (.getfield 28, 3) := by decide +kernel
theorem dX8_open_39 : decode cX8_open 39 = .ok (.iload_n 1, 1) := by decide +kernel
theorem dX8_open_40 : decode cX8_open 40 = .ok (.lconst 0, 1) := by decide +kernel
theorem dX8_open_41 : decode cX8_open 41 = .ok (.lastore, 1) := by decide +kernel
theorem dX8_open_42 : decode cX8_open 42 = .ok (.return_, 1) := by decide +kernel
theorem dX8_put_0 : decode cX8_put 0 = .ok (.aload_n 0, 1) := by decide +kernel
theorem dX8_put_1 : decode cX8_put 1 = .ok (.getfield 9, 3) := by decide +kernel
theorem dX8_put_4 : decode cX8_put 4 = .ok (.iload_n 1, 1) := by decide +kernel
theorem dX8_put_5 : decode cX8_put 5 = .ok (.iconst 1, 1) := by decide +kernel
theorem dX8_put_6 : decode cX8_put 6 = .ok (.bastore, 1) := by decide +kernel
theorem dX8_put_7 : decode cX8_put 7 = .ok (.aload_n 0, 1) := by decide +kernel
theorem dX8_put_8 : decode cX8_put 8 = .ok (.getfield 15, 3) := by decide +kernel
theorem dX8_put_11 : decode cX8_put 11 = .ok (.iload_n 1, 1) := by decide +kernel
theorem dX8_put_12 : decode cX8_put 12 = .ok (.iload_n 3, 1) := by decide +kernel
theorem dX8_put_13 : decode cX8_put 13 = .ok (.iastore, 1) := by decide +kernel
theorem dX8_put_14 : decode cX8_put 14 = .ok (.aload_n 0, 1) := by decide +kernel
theorem dX8_put_15 : decode cX8_put 15 = .ok (.getfield 25, 3) := by decide +kernel
theorem dX8_put_18 : decode cX8_put 18 = .ok (.iload_n 1, 1) := by decide +kernel
theorem dX8_put_19 : decode cX8_put 19 = .ok (.aload_n 2, 1) := by decide +kernel
theorem dX8_put_20 : decode cX8_put 20 = .ok (.invokevirtual 47, 3) := by decide +kernel
theorem dX8_put_23 : decode cX8_put 23 = .ok (.iastore, 1) := by decide +kernel
theorem dX8_put_24 : decode cX8_put 24 = .ok (.aload_n 0, 1) := by decide +kernel
theorem dX8_put_25 : decode cX8_put 25 = .ok (.getfield 28, 3) := by decide +kernel
theorem dX8_put_28 : decode cX8_put 28 = .ok (.iload_n 1, 1) := by decide +kernel
theorem dX8_put_29 : decode cX8_put 29 = .ok (.aload_n 2, 1) := by decide +kernel
theorem dX8_put_30 : decode cX8_put 30 = .ok (.invokevirtual 52, 3) := by decide +kernel
theorem dX8_put_33 : decode cX8_put 33 = .ok (.lastore, 1) := by decide +kernel
theorem dX8_put_34 : decode cX8_put 34 = .ok (.iconst 0, 1) := by decide +kernel
theorem dX8_put_35 : decode cX8_put 35 = .ok (.istore 4, 2) := by decide +kernel
theorem dX8_put_37 : decode cX8_put 37 = .ok (.iload 4, 2) := by decide +kernel
theorem dX8_put_39 : decode cX8_put 39 = .ok (.aload_n 2, 1) := by decide +kernel
theorem dX8_put_40 : decode cX8_put 40 = .ok (.invokevirtual 47, 3) := by decide +kernel
theorem dX8_put_43 : decode cX8_put 43 = .ok (.if_icmp .ge 62, 3) := by decide +kernel
theorem dX8_put_46 : decode cX8_put 46 = .ok (.iload 4, 2) := by decide +kernel
theorem dX8_put_48 : decode cX8_put 48 = .ok (.iconst 4, 1) := by decide +kernel
theorem dX8_put_49 : decode cX8_put 49 = .ok (.if_icmp .ge 56, 3) := by decide +kernel
theorem dX8_put_52 : decode cX8_put 52 = .ok (.iload_n 1, 1) := by decide +kernel
theorem dX8_put_53 : decode cX8_put 53 = .ok (.iconst 4, 1) := by decide +kernel
theorem dX8_put_54 : decode cX8_put 54 = .ok (.imul, 1) := by decide +kernel
theorem dX8_put_55 : decode cX8_put 55 = .ok (.iload 4, 2) := by decide +kernel
theorem dX8_put_57 : decode cX8_put 57 = .ok (.iadd, 1) := by decide +kernel
theorem dX8_put_58 : decode cX8_put 58 = .ok (.istore 5, 2) := by decide +kernel
theorem dX8_put_60 : decode cX8_put 60 = .ok (.aload_n 0, 1) := by decide +kernel
theorem dX8_put_61 : decode cX8_put 61 = .ok (.getfield 32, 3) := by decide +kernel
theorem dX8_put_64 : decode cX8_put 64 = .ok (.iload 5, 2) := by decide +kernel
theorem dX8_put_66 : decode cX8_put 66 = .ok (.aload_n 2, 1) := by decide +kernel
theorem dX8_put_67 : decode cX8_put 67 = .ok (.iload 4, 2) := by decide +kernel
theorem dX8_put_69 : decode cX8_put 69 = .ok (.invokevirtual 56, 3) := by decide +kernel
theorem dX8_put_72 : decode cX8_put 72 = .ok (.iastore, 1) := by decide +kernel
theorem dX8_put_73 : decode cX8_put 73 = .ok (.aload_n 0, 1) := by decide +kernel
theorem dX8_put_74 : decode cX8_put 74 = .ok (.getfield 35, 3) := by decide +kernel
theorem dX8_put_77 : decode cX8_put 77 = .ok (.iload 5, 2) := by decide +kernel
theorem dX8_put_79 : decode cX8_put 79 = .ok (.aload_n 2, 1) := by decide +kernel
theorem dX8_put_80 : decode cX8_put 80 = .ok (.iload 4, 2) := by decide +kernel
theorem dX8_put_82 : decode cX8_put 82 = .ok (.invokevirtual 60, 3) := by decide +kernel
theorem dX8_put_85 : decode cX8_put 85 = .ok (.iastore, 1) := by decide +kernel
theorem dX8_put_86 : decode cX8_put 86 = .ok (.aload_n 0, 1) := by decide +kernel
theorem dX8_put_87 : decode cX8_put 87 = .ok (.getfield 38, 3) := by decide +kernel
theorem dX8_put_90 : decode cX8_put 90 = .ok (.iload 5, 2) := by decide +kernel
theorem dX8_put_92 : decode cX8_put 92 = .ok (.aload_n 2, 1) := by decide +kernel
theorem dX8_put_93 : decode cX8_put 93 = .ok (.iload 4, 2) := by decide +kernel
theorem dX8_put_95 : decode cX8_put 95 = .ok (.invokevirtual 63, 3) := by decide +kernel
theorem dX8_put_98 : decode cX8_put 98 = .ok (.iastore, 1) := by decide +kernel
theorem dX8_put_99 : decode cX8_put 99 = .ok (.iinc 4 1, 3) := by decide +kernel
theorem dX8_put_102 : decode cX8_put 102 = .ok (.goto (-65), 3) := by decide +kernel
theorem dX8_put_105 : decode cX8_put 105 = .ok (.return_, 1) := by decide +kernel
theorem dX8_cameTo_0 : decode cX8_cameTo 0 = .ok (.iload_n 1, 1) := by decide +kernel
theorem dX8_cameTo_1 : decode cX8_cameTo 1 = .ok (.ifCond .le 19, 3) := by decide +kernel
theorem dX8_cameTo_4 : decode cX8_cameTo 4 = .ok (.iload_n 1, 1) := by decide +kernel
theorem dX8_cameTo_5 : decode cX8_cameTo 5 = .ok (.iconst 5, 1) := by decide +kernel
theorem dX8_cameTo_6 : decode cX8_cameTo 6 = .ok (.if_icmp .ge 14, 3) := by decide +kernel
theorem dX8_cameTo_9 : decode cX8_cameTo 9 = .ok (.aload_n 0, 1) := by decide +kernel
theorem dX8_cameTo_10 : decode cX8_cameTo 10 = .ok (.getfield 15, 3) := by decide +kernel
theorem dX8_cameTo_13 : decode cX8_cameTo 13 = .ok (.iload_n 1, 1) := by decide +kernel
theorem dX8_cameTo_14 : decode cX8_cameTo 14 = .ok (.iconst 1, 1) := by decide +kernel
theorem dX8_cameTo_15 : decode cX8_cameTo 15 = .ok (.isub, 1) := by decide +kernel
theorem dX8_cameTo_16 : decode cX8_cameTo 16 = .ok (.iaload, 1) := by decide +kernel
theorem dX8_cameTo_17 : decode cX8_cameTo 17 = .ok (.goto 4, 3) := by decide +kernel
theorem dX8_cameTo_20 : decode cX8_cameTo 20 = .ok (.iconst (-1), 1) := by decide +kernel
theorem dX8_cameTo_21 : decode cX8_cameTo 21 = .ok (.ireturn, 1) := by decide +kernel
theorem dX8_cants_0 : decode cX8_cants 0 = .ok (.iconst 0, 1) := by decide +kernel
theorem dX8_cants_1 : decode cX8_cants 1 = .ok (.istore_n 1, 1) := by decide +kernel
theorem dX8_cants_2 : decode cX8_cants 2 = .ok (.iconst 0, 1) := by decide +kernel
theorem dX8_cants_3 : decode cX8_cants 3 = .ok (.istore_n 2, 1) := by decide +kernel
theorem dX8_cants_4 : decode cX8_cants 4 = .ok (.iload_n 2, 1) := by decide +kernel
theorem dX8_cants_5 : decode cX8_cants 5 = .ok (.iconst 5, 1) := by decide +kernel
theorem dX8_cants_6 : decode cX8_cants 6 = .ok (.if_icmp .ge 21, 3) := by decide +kernel
theorem dX8_cants_9 : decode cX8_cants 9 = .ok (.aload_n 0, 1) := by decide +kernel
theorem dX8_cants_10 : decode cX8_cants 10 = .ok (.getfield 9, 3) := by decide +kernel
theorem dX8_cants_13 : decode cX8_cants 13 = .ok (.iload_n 2, 1) := by decide +kernel
theorem dX8_cants_14 : decode cX8_cants 14 = .ok (.baload, 1) := by decide +kernel
theorem dX8_cants_15 : decode cX8_cants 15 = .ok (.ifCond .ne 6, 3) := by decide +kernel
theorem dX8_cants_18 : decode cX8_cants 18 = .ok (.iinc 1 1, 3) := by decide +kernel
theorem dX8_cants_21 : decode cX8_cants 21 = .ok (.iinc 2 1, 3) := by decide +kernel
theorem dX8_cants_24 : decode cX8_cants 24 = .ok (.goto (-20), 3) := by decide +kernel
theorem dX8_cants_27 : decode cX8_cants 27 = .ok (.iload_n 1, 1) := by decide +kernel
theorem dX8_cants_28 : decode cX8_cants 28 = .ok (.ireturn, 1) := by decide +kernel
theorem dX8_keptSlots_0 : decode cX8_keptSlots 0 = .ok (.iconst 0, 1) := by decide +kernel
theorem dX8_keptSlots_1 : decode cX8_keptSlots 1 = .ok (.istore_n 1, 1) := by decide +kernel
theorem dX8_keptSlots_2 : decode cX8_keptSlots 2 = .ok (.iconst 0, 1) := by decide +kernel
theorem dX8_keptSlots_3 : decode cX8_keptSlots 3 = .ok (.istore_n 2, 1) := by decide +kernel
theorem dX8_keptSlots_4 : decode cX8_keptSlots 4 = .ok (.iload_n 2, 1) := by decide +kernel
theorem dX8_keptSlots_5 : decode cX8_keptSlots 5 = .ok (.iconst 5, 1) := by decide +kernel
theorem dX8_keptSlots_6 : decode cX8_keptSlots 6 = .ok (.if_icmp .ge 21, 3) := by decide +kernel
theorem dX8_keptSlots_9 : decode cX8_keptSlots 9 = .ok (.iload_n 1, 1) := by decide +kernel
theorem dX8_keptSlots_10 : decode cX8_keptSlots 10 = .ok (.aload_n 0, 1) := by decide +kernel
theorem dX8_keptSlots_11 : decode cX8_keptSlots 11 = .ok (.getfield 28, 3) := by decide +kernel
theorem dX8_keptSlots_14 : decode cX8_keptSlots 14 = .ok (.iload_n 2, 1) := by decide +kernel
theorem dX8_keptSlots_15 : decode cX8_keptSlots 15 = .ok (.laload, 1) := by decide +kernel
theorem dX8_keptSlots_16 : decode cX8_keptSlots 16 = .ok (.invokestatic 66, 3) := by decide +kernel
theorem dX8_keptSlots_19 : decode cX8_keptSlots 19 = .ok (.iadd, 1) := by decide +kernel
theorem dX8_keptSlots_20 : decode cX8_keptSlots 20 = .ok (.istore_n 1, 1) := by decide +kernel
theorem dX8_keptSlots_21 : decode cX8_keptSlots 21 = .ok (.iinc 2 1, 3) := by decide +kernel
theorem dX8_keptSlots_24 : decode cX8_keptSlots 24 = .ok (.goto (-20), 3) := by decide +kernel
theorem dX8_keptSlots_27 : decode cX8_keptSlots 27 = .ok (.iload_n 1, 1) := by decide +kernel
theorem dX8_keptSlots_28 : decode cX8_keptSlots 28 = .ok (.ireturn, 1) := by decide +kernel
theorem dX8_deed_0 : decode cX8_deed 0 = .ok (.iload_n 2, 1) := by decide +kernel
theorem dX8_deed_1 : decode cX8_deed 1 = .ok (.aload_n 0, 1) := by decide +kernel
theorem dX8_deed_2 : decode cX8_deed 2 = .ok (.getfield 22, 3) := by decide +kernel
theorem dX8_deed_5 : decode cX8_deed 5 = .ok (.iload_n 1, 1) := by decide +kernel
theorem dX8_deed_6 : decode cX8_deed 6 = .ok (.iaload, 1) := by decide +kernel
theorem dX8_deed_7 : decode cX8_deed 7 = .ok (.if_icmp .ge 9, 3) := by decide +kernel
theorem dX8_deed_10 : decode cX8_deed 10 = .ok (.aload_n 0, 1) := by decide +kernel
theorem dX8_deed_11 : decode cX8_deed 11 = .ok (.iload_n 1, 1) := by decide +kernel
theorem dX8_deed_12 : decode cX8_deed 12 = .ok (.invokevirtual 72, 3) := by decide +kernel
theorem dX8_deed_15 : decode cX8_deed 15 = .ok (.ireturn, 1) := by decide +kernel
theorem dX8_deed_16 : decode cX8_deed 16 = .ok (.iconst 0, 1) := by decide +kernel
theorem dX8_deed_17 : decode cX8_deed 17 = .ok (.istore_n 3, 1) := by decide +kernel
theorem dX8_deed_18 : decode cX8_deed 18 = .ok (.iload_n 3, 1) := by decide +kernel
theorem dX8_deed_19 : decode cX8_deed 19 = .ok (.aload_n 0, 1) := by decide +kernel
theorem dX8_deed_20 : decode cX8_deed 20 = .ok (.getfield 25, 3) := by decide +kernel
theorem dX8_deed_23 : decode cX8_deed 23 = .ok (.iload_n 1, 1) := by decide +kernel
theorem dX8_deed_24 : decode cX8_deed 24 = .ok (.iaload, 1) := by decide +kernel
theorem dX8_deed_25 : decode cX8_deed 25 = .ok (.if_icmp .ge 46, 3) := by decide +kernel
theorem dX8_deed_28 : decode cX8_deed 28 = .ok (.iload_n 1, 1) := by decide +kernel
theorem dX8_deed_29 : decode cX8_deed 29 = .ok (.iconst 4, 1) := by decide +kernel
theorem dX8_deed_30 : decode cX8_deed 30 = .ok (.imul, 1) := by decide +kernel
theorem dX8_deed_31 : decode cX8_deed 31 = .ok (.iload_n 3, 1) := by decide +kernel
theorem dX8_deed_32 : decode cX8_deed 32 = .ok (.iadd, 1) := by decide +kernel
theorem dX8_deed_33 : decode cX8_deed 33 = .ok (.istore 4, 2) := by decide +kernel
theorem dX8_deed_35 : decode cX8_deed 35 = .ok (.aload_n 0, 1) := by decide +kernel
theorem dX8_deed_36 : decode cX8_deed 36 = .ok (.getfield 35, 3) := by decide +kernel
theorem dX8_deed_39 : decode cX8_deed 39 = .ok (.iload 4, 2) := by decide +kernel
theorem dX8_deed_41 : decode cX8_deed 41 = .ok (.iaload, 1) := by decide +kernel
theorem dX8_deed_42 : decode cX8_deed 42 = .ok (.iload_n 2, 1) := by decide +kernel
theorem dX8_deed_43 : decode cX8_deed 43 = .ok (.if_icmp .gt 22, 3) := by decide +kernel
theorem dX8_deed_46 : decode cX8_deed 46 = .ok (.iload_n 2, 1) := by decide +kernel
theorem dX8_deed_47 : decode cX8_deed 47 = .ok (.aload_n 0, 1) := by decide +kernel
theorem dX8_deed_48 : decode cX8_deed 48 = .ok (.getfield 38, 3) := by decide +kernel
theorem dX8_deed_51 : decode cX8_deed 51 = .ok (.iload 4, 2) := by decide +kernel
theorem dX8_deed_53 : decode cX8_deed 53 = .ok (.iaload, 1) := by decide +kernel
theorem dX8_deed_54 : decode cX8_deed 54 = .ok (.if_icmp .ge 11, 3) := by decide +kernel
theorem dX8_deed_57 : decode cX8_deed 57 = .ok (.aload_n 0, 1) := by decide +kernel
theorem dX8_deed_58 : decode cX8_deed 58 = .ok (.getfield 32, 3) := by decide +kernel
theorem dX8_deed_61 : decode cX8_deed 61 = .ok (.iload 4, 2) := by decide +kernel
theorem dX8_deed_63 : decode cX8_deed 63 = .ok (.iaload, 1) := by decide +kernel
theorem dX8_deed_64 : decode cX8_deed 64 = .ok (.ireturn, 1) := by decide +kernel
theorem dX8_deed_65 : decode cX8_deed 65 = .ok (.iinc 3 1, 3) := by decide +kernel
theorem dX8_deed_68 : decode cX8_deed 68 = .ok (.goto (-50), 3) := by decide +kernel
theorem dX8_deed_71 : decode cX8_deed 71 = .ok (.aload_n 0, 1) := by decide +kernel
theorem dX8_deed_72 : decode cX8_deed 72 = .ok (.getfield 28, 3) := by decide +kernel
theorem dX8_deed_75 : decode cX8_deed 75 = .ok (.iload_n 1, 1) := by decide +kernel
theorem dX8_deed_76 : decode cX8_deed 76 = .ok (.laload, 1) := by decide +kernel
theorem dX8_deed_77 : decode cX8_deed 77 = .ok (.iload_n 2, 1) := by decide +kernel
theorem dX8_deed_78 : decode cX8_deed 78 = .ok (.invokestatic 75, 3) := by decide +kernel
theorem dX8_deed_81 : decode cX8_deed 81 = .ok (.ifCond .eq 8, 3) := by decide +kernel
theorem dX8_deed_84 : decode cX8_deed 84 = .ok (.bipush 20, 2) := by decide +kernel
theorem dX8_deed_86 : decode cX8_deed 86 = .ok (.goto 4, 3) := by decide +kernel
theorem dX8_deed_89 : decode cX8_deed 89 = .ok (.iconst (-1), 1) := by decide +kernel
theorem dX8_deed_90 : decode cX8_deed 90 = .ok (.ireturn, 1) := by decide +kernel
theorem dX8_measured_0 : decode cX8_measured 0 = .ok (.iload_n 3, 1) := by decide +kernel
theorem dX8_measured_1 : decode cX8_measured 1 = .ok (.ifCond .ne 13, 3) := by decide +kernel
theorem dX8_measured_4 : decode cX8_measured 4 = .ok (.aload_n 0, 1) := by decide +kernel
theorem dX8_measured_5 : decode cX8_measured 5 = .ok (.getfield 28, 3) := by decide +kernel
theorem dX8_measured_8 : decode cX8_measured 8 = .ok (.iload_n 2, 1) := by decide +kernel
theorem dX8_measured_9 : decode cX8_measured 9 = .ok (.laload, 1) := by decide +kernel
theorem dX8_measured_10 : decode cX8_measured 10 = .ok (.invokestatic 66, 3) := by decide +kernel
theorem dX8_measured_13 : decode cX8_measured 13 = .ok (.ireturn, 1) := by decide +kernel
theorem dX8_measured_14 : decode cX8_measured 14 = .ok (.iconst 0, 1) := by decide +kernel
theorem dX8_measured_15 : decode cX8_measured 15 = .ok (.istore 4, 2) := by decide +kernel
theorem dX8_measured_17 : decode cX8_measured 17 = .ok (.iconst 0, 1) := by decide +kernel
theorem dX8_measured_18 : decode cX8_measured 18 = .ok (.istore 5, 2) := by decide +kernel
theorem dX8_measured_20 : decode cX8_measured 20 = .ok (.iload 5, 2) := by decide +kernel
theorem dX8_measured_22 : decode cX8_measured 22 = .ok (.aload_n 0, 1) := by decide +kernel
theorem dX8_measured_23 : decode cX8_measured 23 = .ok (.getfield 25, 3) := by decide +kernel
theorem dX8_measured_26 : decode cX8_measured 26 = .ok (.iload_n 2, 1) := by decide +kernel
theorem dX8_measured_27 : decode cX8_measured 27 = .ok (.iaload, 1) := by decide +kernel
theorem dX8_measured_28 : decode cX8_measured 28 = .ok (.if_icmp .ge 52, 3) := by decide +kernel
theorem dX8_measured_31 : decode cX8_measured 31 = .ok (.iload_n 2, 1) := by decide +kernel
theorem dX8_measured_32 : decode cX8_measured 32 = .ok (.iconst 4, 1) := by decide +kernel
theorem dX8_measured_33 : decode cX8_measured 33 = .ok (.imul, 1) := by decide +kernel
theorem dX8_measured_34 : decode cX8_measured 34 = .ok (.iload 5, 2) := by decide +kernel
theorem dX8_measured_36 : decode cX8_measured 36 = .ok (.iadd, 1) := by decide +kernel
theorem dX8_measured_37 : decode cX8_measured 37 = .ok (.istore 6, 2) := by decide +kernel
theorem dX8_measured_39 : decode cX8_measured 39 = .ok (.iload_n 3, 1) := by decide +kernel
theorem dX8_measured_40 : decode cX8_measured 40 = .ok (.iload 4, 2) := by decide +kernel
theorem dX8_measured_42 : decode cX8_measured 42 = .ok (.aload_n 0, 1) := by decide +kernel
theorem dX8_measured_43 : decode cX8_measured 43 = .ok (.getfield 35, 3) := by decide +kernel
theorem dX8_measured_46 : decode cX8_measured 46 = .ok (.iload 6, 2) := by decide +kernel
theorem dX8_measured_48 : decode cX8_measured 48 = .ok (.iaload, 1) := by decide +kernel
theorem dX8_measured_49 : decode cX8_measured 49 = .ok (.aload_n 1, 1) := by decide +kernel
theorem dX8_measured_50 : decode cX8_measured 50 = .ok (.getfield 79, 3) := by decide +kernel
theorem dX8_measured_53 : decode cX8_measured 53 = .ok (.aload_n 0, 1) := by decide +kernel
theorem dX8_measured_54 : decode cX8_measured 54 = .ok (.getfield 32, 3) := by decide +kernel
theorem dX8_measured_57 : decode cX8_measured 57 = .ok (.iload 6, 2) := by decide +kernel
theorem dX8_measured_59 : decode cX8_measured 59 = .ok (.iaload, 1) := by decide +kernel
theorem dX8_measured_60 : decode cX8_measured 60 = .ok (.iaload, 1) := by decide +kernel
theorem dX8_measured_61 : decode cX8_measured 61 = .ok (.isub, 1) := by decide +kernel
theorem dX8_measured_62 : decode cX8_measured 62 = .ok (.aload_n 0, 1) := by decide +kernel
theorem dX8_measured_63 : decode cX8_measured 63 = .ok (.getfield 38, 3) := by decide +kernel
theorem dX8_measured_66 : decode cX8_measured 66 = .ok (.iload 6, 2) := by decide +kernel
theorem dX8_measured_68 : decode cX8_measured 68 = .ok (.iaload, 1) := by decide +kernel
theorem dX8_measured_69 : decode cX8_measured 69 = .ok (.invokestatic 84, 3) := by decide +kernel
theorem dX8_measured_72 : decode cX8_measured 72 = .ok (.istore 4, 2) := by decide +kernel
theorem dX8_measured_74 : decode cX8_measured 74 = .ok (.iinc 5 1, 3) := by decide +kernel
theorem dX8_measured_77 : decode cX8_measured 77 = .ok (.goto (-57), 3) := by decide +kernel
theorem dX8_measured_80 : decode cX8_measured 80 = .ok (.iload 4, 2) := by decide +kernel
theorem dX8_measured_82 : decode cX8_measured 82 = .ok (.ireturn, 1) := by decide +kernel
theorem dX8_beginsLate_0 : decode cX8_beginsLate 0 = .ok (.aload_n 1, 1) := by decide +kernel
theorem dX8_beginsLate_1 : decode cX8_beginsLate 1 = .ok (.getfield 88, 3) := by decide +kernel
theorem dX8_beginsLate_4 : decode cX8_beginsLate 4 = .ok (.iload_n 2, 1) := by decide +kernel
theorem dX8_beginsLate_5 : decode cX8_beginsLate 5 = .ok (.iaload, 1) := by decide +kernel
theorem dX8_beginsLate_6 : decode cX8_beginsLate 6 = .ok (.istore_n 3, 1) := by decide +kernel
theorem dX8_beginsLate_7 : decode cX8_beginsLate 7 = .ok (.aload_n 0, 1) := by decide +kernel
theorem dX8_beginsLate_8 : decode cX8_beginsLate 8 = .ok (.getfield 15, 3) := by decide +kernel
theorem dX8_beginsLate_11 : decode cX8_beginsLate 11 = .ok (.iload_n 3, 1) := by decide +kernel
theorem dX8_beginsLate_12 : decode cX8_beginsLate 12 = .ok (.iaload, 1) := by decide +kernel
theorem dX8_beginsLate_13 : decode cX8_beginsLate 13 = .ok (.iload_n 2, 1) := by decide +kernel
theorem dX8_beginsLate_14 : decode cX8_beginsLate 14 = .ok (.if_icmp .ne 5, 3) := by decide +kernel
theorem dX8_beginsLate_17 : decode cX8_beginsLate 17 = .ok (.iconst 1, 1) := by decide +kernel
theorem dX8_beginsLate_18 : decode cX8_beginsLate 18 = .ok (.ireturn, 1) := by decide +kernel
theorem dX8_beginsLate_19 : decode cX8_beginsLate 19 = .ok (.iconst 0, 1) := by decide +kernel
theorem dX8_beginsLate_20 : decode cX8_beginsLate 20 = .ok (.istore 4, 2) := by decide +kernel
theorem dX8_beginsLate_22 : decode cX8_beginsLate 22 = .ok (.iload 4, 2) := by decide +kernel
theorem dX8_beginsLate_24 : decode cX8_beginsLate 24 = .ok (.aload_n 0, 1) := by decide +kernel
theorem dX8_beginsLate_25 : decode cX8_beginsLate 25 = .ok (.getfield 25, 3) := by decide +kernel
theorem dX8_beginsLate_28 : decode cX8_beginsLate 28 = .ok (.iload_n 3, 1) := by decide +kernel
theorem dX8_beginsLate_29 : decode cX8_beginsLate 29 = .ok (.iaload, 1) := by decide +kernel
theorem dX8_beginsLate_30 : decode cX8_beginsLate 30 = .ok (.if_icmp .ge 50, 3) := by decide +kernel
theorem dX8_beginsLate_33 : decode cX8_beginsLate 33 = .ok (.iload_n 3, 1) := by decide +kernel
theorem dX8_beginsLate_34 : decode cX8_beginsLate 34 = .ok (.iconst 4, 1) := by decide +kernel
theorem dX8_beginsLate_35 : decode cX8_beginsLate 35 = .ok (.imul, 1) := by decide +kernel
theorem dX8_beginsLate_36 : decode cX8_beginsLate 36 = .ok (.iload 4, 2) := by decide +kernel
theorem dX8_beginsLate_38 : decode cX8_beginsLate 38 = .ok (.iadd, 1) := by decide +kernel
theorem dX8_beginsLate_39 : decode cX8_beginsLate 39 = .ok (.istore 5, 2) := by decide +kernel
theorem dX8_beginsLate_41 : decode cX8_beginsLate 41 = .ok (.aload_n 0, 1) := by decide +kernel
theorem dX8_beginsLate_42 : decode cX8_beginsLate 42 = .ok (.getfield 32, 3) := by decide +kernel
theorem dX8_beginsLate_45 : decode cX8_beginsLate 45 = .ok (.iload 5, 2) := by decide +kernel
theorem dX8_beginsLate_47 : decode cX8_beginsLate 47 = .ok (.iaload, 1) := by decide +kernel
theorem dX8_beginsLate_48 : decode cX8_beginsLate 48 = .ok (.iload_n 2, 1) := by decide +kernel
theorem dX8_beginsLate_49 : decode cX8_beginsLate 49 = .ok (.if_icmp .ne 25, 3) := by decide +kernel
theorem dX8_beginsLate_52 : decode cX8_beginsLate 52 = .ok (.aload_n 0, 1) := by decide +kernel
theorem dX8_beginsLate_53 : decode cX8_beginsLate 53 = .ok (.getfield 35, 3) := by decide +kernel
theorem dX8_beginsLate_56 : decode cX8_beginsLate 56 = .ok (.iload 5, 2) := by decide +kernel
theorem dX8_beginsLate_58 : decode cX8_beginsLate 58 = .ok (.iaload, 1) := by decide +kernel
theorem dX8_beginsLate_59 : decode cX8_beginsLate 59 = .ok (.aload_n 1, 1) := by decide +kernel
theorem dX8_beginsLate_60 : decode cX8_beginsLate 60 = .ok (.getfield 79, 3) := by decide +kernel
theorem dX8_beginsLate_63 : decode cX8_beginsLate 63 = .ok (.iload_n 2, 1) := by decide +kernel
theorem dX8_beginsLate_64 : decode cX8_beginsLate 64 = .ok (.iaload, 1) := by decide +kernel
theorem dX8_beginsLate_65 : decode cX8_beginsLate 65 = .ok (.if_icmp .eq 7, 3) := by decide +kernel
theorem dX8_beginsLate_68 : decode cX8_beginsLate 68 = .ok (.iconst 1, 1) := by decide +kernel
theorem dX8_beginsLate_69 : decode cX8_beginsLate 69 = .ok (.goto 4, 3) := by decide +kernel
theorem dX8_beginsLate_72 : decode cX8_beginsLate 72 = .ok (.iconst 0, 1) := by decide +kernel
theorem dX8_beginsLate_73 : decode cX8_beginsLate 73 = .ok (.ireturn, 1) := by decide +kernel
theorem dX8_beginsLate_74 : decode cX8_beginsLate 74 = .ok (.iinc 4 1, 3) := by decide +kernel
theorem dX8_beginsLate_77 : decode cX8_beginsLate 77 = .ok (.goto (-55), 3) := by decide +kernel
theorem dX8_beginsLate_80 : decode cX8_beginsLate 80 = .ok (.iconst 0, 1) := by decide +kernel
theorem dX8_beginsLate_81 : decode cX8_beginsLate 81 = .ok (.ireturn, 1) := by decide +kernel
theorem dX8_piecesOf_0 : decode cX8_piecesOf 0 = .ok (.iconst 0, 1) := by decide +kernel
theorem dX8_piecesOf_1 : decode cX8_piecesOf 1 = .ok (.istore_n 3, 1) := by decide +kernel
theorem dX8_piecesOf_2 : decode cX8_piecesOf 2 = .ok (.iconst 0, 1) := by decide +kernel
theorem dX8_piecesOf_3 : decode cX8_piecesOf 3 = .ok (.istore 4, 2) := by decide +kernel
theorem dX8_piecesOf_5 : decode cX8_piecesOf 5 = .ok (.iload 4, 2) := by decide +kernel
theorem dX8_piecesOf_7 : decode cX8_piecesOf 7 = .ok (.bipush 48, 2) := by decide +kernel
theorem dX8_piecesOf_9 : decode cX8_piecesOf 9 = .ok (.if_icmp .ge 39, 3) := by decide +kernel
theorem dX8_piecesOf_12 : decode cX8_piecesOf 12 = .ok (.aload_n 0, 1) := by decide +kernel
theorem dX8_piecesOf_13 : decode cX8_piecesOf 13 = .ok (.iload_n 1, 1) := by decide +kernel
theorem dX8_piecesOf_14 : decode cX8_piecesOf 14 = .ok (.iload 4, 2) := by decide +kernel
theorem dX8_piecesOf_16 : decode cX8_piecesOf 16 = .ok (.invokevirtual 91, 3) := by decide +kernel
theorem dX8_piecesOf_19 : decode cX8_piecesOf 19 = .ok (.lstore 5, 2) := by decide +kernel
theorem dX8_piecesOf_21 : decode cX8_piecesOf 21 = .ok (.lload 5, 2) := by decide +kernel
theorem dX8_piecesOf_23 : decode cX8_piecesOf 23 = .ok (.lconst 0, 1) := by decide +kernel
theorem dX8_piecesOf_24 : decode cX8_piecesOf 24 = .ok (.lcmp, 1) := by decide +kernel
theorem dX8_piecesOf_25 : decode cX8_piecesOf 25 = .ok (.ifCond .eq 17, 3) := by decide +kernel
theorem dX8_piecesOf_28 : decode cX8_piecesOf 28 = .ok (.iload_n 3, 1) := by decide +kernel
theorem dX8_piecesOf_29 : decode cX8_piecesOf 29 = .ok (.aload_n 2, 1) := by decide +kernel
theorem dX8_piecesOf_30 : decode cX8_piecesOf 30 = .ok (.arraylength, 1) := by decide +kernel
theorem dX8_piecesOf_31 : decode cX8_piecesOf 31 = .ok (.if_icmp .ge 11, 3) := by decide +kernel
theorem dX8_piecesOf_34 : decode cX8_piecesOf 34 = .ok (.aload_n 2, 1) := by decide +kernel
theorem dX8_piecesOf_35 : decode cX8_piecesOf 35 = .ok (.iload_n 3, 1) := by decide +kernel
theorem dX8_piecesOf_36 : decode cX8_piecesOf 36 = .ok (.lload 5, 2) := by decide +kernel
theorem dX8_piecesOf_38 : decode cX8_piecesOf 38 = .ok (.lastore, 1) := by decide +kernel
theorem dX8_piecesOf_39 : decode cX8_piecesOf 39 = .ok (.iinc 3 1, 3) := by decide +kernel
theorem dX8_piecesOf_42 : decode cX8_piecesOf 42 = .ok (.iinc 4 1, 3) := by decide +kernel
theorem dX8_piecesOf_45 : decode cX8_piecesOf 45 = .ok (.goto (-40), 3) := by decide +kernel
theorem dX8_piecesOf_48 : decode cX8_piecesOf 48 = .ok (.iload_n 3, 1) := by decide +kernel
theorem dX8_piecesOf_49 : decode cX8_piecesOf 49 = .ok (.ireturn, 1) := by decide +kernel
theorem dX8_pieceFrom_0 : decode cX8_pieceFrom 0 = .ok (.iload_n 2, 1) := by decide +kernel
theorem dX8_pieceFrom_1 : decode cX8_pieceFrom 1 = .ok (.ifCond .ne 23, 3) := by decide +kernel
theorem dX8_pieceFrom_4 : decode cX8_pieceFrom 4 = .ok (.aload_n 0, 1) := by decide +kernel
theorem dX8_pieceFrom_5 : decode cX8_pieceFrom 5 = .ok (.getfield 22, 3) := by decide +kernel
theorem dX8_pieceFrom_8 : decode cX8_pieceFrom 8 = .ok (.iload_n 1, 1) := by decide +kernel
theorem dX8_pieceFrom_9 : decode cX8_pieceFrom 9 = .ok (.iaload, 1) := by decide +kernel
theorem dX8_pieceFrom_10 : decode cX8_pieceFrom 10 = .ok (.ifCond .le 14, 3) := by decide +kernel
theorem dX8_pieceFrom_13 : decode cX8_pieceFrom 13 = .ok (.iconst 0, 1) := by decide +kernel
theorem dX8_pieceFrom_14 : decode cX8_pieceFrom 14 = .ok (.aload_n 0, 1) := by decide +kernel
theorem dX8_pieceFrom_15 : decode cX8_pieceFrom 15 = .ok (.getfield 22, 3) := by decide +kernel
theorem dX8_pieceFrom_18 : decode cX8_pieceFrom 18 = .ok (.iload_n 1, 1) := by decide +kernel
theorem dX8_pieceFrom_19 : decode cX8_pieceFrom 19 = .ok (.iaload, 1) := by decide +kernel
theorem dX8_pieceFrom_20 : decode cX8_pieceFrom 20 = .ok (.invokestatic 95, 3) := by decide +kernel
theorem dX8_pieceFrom_23 : decode cX8_pieceFrom 23 = .ok (.lreturn, 1) := by decide +kernel
theorem dX8_pieceFrom_24 : decode cX8_pieceFrom 24 = .ok (.iconst 0, 1) := by decide +kernel
theorem dX8_pieceFrom_25 : decode cX8_pieceFrom 25 = .ok (.istore_n 3, 1) := by decide +kernel
theorem dX8_pieceFrom_26 : decode cX8_pieceFrom 26 = .ok (.iload_n 3, 1) := by decide +kernel
theorem dX8_pieceFrom_27 : decode cX8_pieceFrom 27 = .ok (.aload_n 0, 1) := by decide +kernel
theorem dX8_pieceFrom_28 : decode cX8_pieceFrom 28 = .ok (.getfield 25, 3) := by decide +kernel
theorem dX8_pieceFrom_31 : decode cX8_pieceFrom 31 = .ok (.iload_n 1, 1) := by decide +kernel
theorem dX8_pieceFrom_32 : decode cX8_pieceFrom 32 = .ok (.iaload, 1) := by decide +kernel
theorem dX8_pieceFrom_33 : decode cX8_pieceFrom 33 = .ok (.if_icmp .ge 39, 3) := by decide +kernel
theorem dX8_pieceFrom_36 : decode cX8_pieceFrom 36 = .ok (.iload_n 1, 1) := by decide +kernel
theorem dX8_pieceFrom_37 : decode cX8_pieceFrom 37 = .ok (.iconst 4, 1) := by decide +kernel
theorem dX8_pieceFrom_38 : decode cX8_pieceFrom 38 = .ok (.imul, 1) := by decide +kernel
theorem dX8_pieceFrom_39 : decode cX8_pieceFrom 39 = .ok (.iload_n 3, 1) := by decide +kernel
theorem dX8_pieceFrom_40 : decode cX8_pieceFrom 40 = .ok (.iadd, 1) := by decide +kernel
theorem dX8_pieceFrom_41 : decode cX8_pieceFrom 41 = .ok (.istore 4, 2) := by decide +kernel
theorem dX8_pieceFrom_43 : decode cX8_pieceFrom 43 = .ok (.aload_n 0, 1) := by decide +kernel
theorem dX8_pieceFrom_44 : decode cX8_pieceFrom 44 = .ok (.getfield 35, 3) := by decide +kernel
theorem dX8_pieceFrom_47 : decode cX8_pieceFrom 47 = .ok (.iload 4, 2) := by decide +kernel
theorem dX8_pieceFrom_49 : decode cX8_pieceFrom 49 = .ok (.iaload, 1) := by decide +kernel
theorem dX8_pieceFrom_50 : decode cX8_pieceFrom 50 = .ok (.iload_n 2, 1) := by decide +kernel
theorem dX8_pieceFrom_51 : decode cX8_pieceFrom 51 = .ok (.if_icmp .ne 15, 3) := by decide +kernel
theorem dX8_pieceFrom_54 : decode cX8_pieceFrom 54 = .ok (.iload_n 2, 1) := by decide +kernel
theorem dX8_pieceFrom_55 : decode cX8_pieceFrom 55 = .ok (.aload_n 0, 1) := by decide +kernel
theorem dX8_pieceFrom_56 : decode cX8_pieceFrom 56 = .ok (.getfield 38, 3) := by decide +kernel
theorem dX8_pieceFrom_59 : decode cX8_pieceFrom 59 = .ok (.iload 4, 2) := by decide +kernel
theorem dX8_pieceFrom_61 : decode cX8_pieceFrom 61 = .ok (.iaload, 1) := by decide +kernel
theorem dX8_pieceFrom_62 : decode cX8_pieceFrom 62 = .ok (.invokestatic 95, 3) := by decide +kernel
theorem dX8_pieceFrom_65 : decode cX8_pieceFrom 65 = .ok (.lreturn, 1) := by decide +kernel
theorem dX8_pieceFrom_66 : decode cX8_pieceFrom 66 = .ok (.iinc 3 1, 3) := by decide +kernel
theorem dX8_pieceFrom_69 : decode cX8_pieceFrom 69 = .ok (.goto (-43), 3) := by decide +kernel
theorem dX8_pieceFrom_72 : decode cX8_pieceFrom 72 = .ok (.iload_n 2, 1) := by decide +kernel
theorem dX8_pieceFrom_73 : decode cX8_pieceFrom 73 = .ok (.iload_n 2, 1) := by decide +kernel
theorem dX8_pieceFrom_74 : decode cX8_pieceFrom 74 = .ok (.aload_n 0, 1) := by decide +kernel
theorem dX8_pieceFrom_75 : decode cX8_pieceFrom 75 = .ok (.iload_n 1, 1) := by decide +kernel
theorem dX8_pieceFrom_76 : decode cX8_pieceFrom 76 = .ok (.iload_n 2, 1) := by decide +kernel
theorem dX8_pieceFrom_77 : decode cX8_pieceFrom 77 = .ok (.invokevirtual 98, 3) := by decide +kernel
theorem dX8_pieceFrom_80 : decode cX8_pieceFrom 80 = .ok (.iadd, 1) := by decide +kernel
theorem dX8_pieceFrom_81 : decode cX8_pieceFrom 81 = .ok (.invokestatic 95, 3) := by decide +kernel
theorem dX8_pieceFrom_84 : decode cX8_pieceFrom 84 = .ok (.lreturn, 1) := by decide +kernel
theorem dX8_dutyFrom_0 : decode cX8_dutyFrom 0 = .ok (.iload_n 2, 1) := by decide +kernel
theorem dX8_dutyFrom_1 : decode cX8_dutyFrom 1 = .ok (.ifCond .le 20, 3) := by decide +kernel
theorem dX8_dutyFrom_4 : decode cX8_dutyFrom 4 = .ok (.aload_n 0, 1) := by decide +kernel
theorem dX8_dutyFrom_5 : decode cX8_dutyFrom 5 = .ok (.getfield 28, 3) := by decide +kernel
theorem dX8_dutyFrom_8 : decode cX8_dutyFrom 8 = .ok (.iload_n 1, 1) := by decide +kernel
theorem dX8_dutyFrom_9 : decode cX8_dutyFrom 9 = .ok (.laload, 1) := by decide +kernel
theorem dX8_dutyFrom_10 : decode cX8_dutyFrom 10 = .ok (.iload_n 2, 1) := by decide +kernel
theorem dX8_dutyFrom_11 : decode cX8_dutyFrom 11 = .ok (.iconst 1, 1) := by decide +kernel
theorem dX8_dutyFrom_12 : decode cX8_dutyFrom 12 = .ok (.isub, 1) := by decide +kernel
theorem dX8_dutyFrom_13 : decode cX8_dutyFrom 13 = .ok (.invokestatic 75, 3) := by decide +kernel
theorem dX8_dutyFrom_16 : decode cX8_dutyFrom 16 = .ok (.ifCond .eq 5, 3) := by decide +kernel
theorem dX8_dutyFrom_19 : decode cX8_dutyFrom 19 = .ok (.iconst 0, 1) := by decide +kernel
theorem dX8_dutyFrom_20 : decode cX8_dutyFrom 20 = .ok (.ireturn, 1) := by decide +kernel
theorem dX8_dutyFrom_21 : decode cX8_dutyFrom 21 = .ok (.iconst 0, 1) := by decide +kernel
theorem dX8_dutyFrom_22 : decode cX8_dutyFrom 22 = .ok (.istore_n 3, 1) := by decide +kernel
theorem dX8_dutyFrom_23 : decode cX8_dutyFrom 23 = .ok (.iload_n 2, 1) := by decide +kernel
theorem dX8_dutyFrom_24 : decode cX8_dutyFrom 24 = .ok (.istore 4, 2) := by decide +kernel
theorem dX8_dutyFrom_26 : decode cX8_dutyFrom 26 = .ok (.iload 4, 2) := by decide +kernel
theorem dX8_dutyFrom_28 : decode cX8_dutyFrom 28 = .ok (.bipush 48, 2) := by decide +kernel
theorem dX8_dutyFrom_30 : decode cX8_dutyFrom 30 = .ok (.if_icmp .ge 26, 3) := by decide +kernel
theorem dX8_dutyFrom_33 : decode cX8_dutyFrom 33 = .ok (.aload_n 0, 1) := by decide +kernel
theorem dX8_dutyFrom_34 : decode cX8_dutyFrom 34 = .ok (.getfield 28, 3) := by decide +kernel
theorem dX8_dutyFrom_37 : decode cX8_dutyFrom 37 = .ok (.iload_n 1, 1) := by decide +kernel
theorem dX8_dutyFrom_38 : decode cX8_dutyFrom 38 = .ok (.laload, 1) := by decide +kernel
theorem dX8_dutyFrom_39 : decode cX8_dutyFrom 39 = .ok (.iload 4, 2) := by decide +kernel
theorem dX8_dutyFrom_41 : decode cX8_dutyFrom 41 = .ok (.invokestatic 75, 3) := by decide +kernel
theorem dX8_dutyFrom_44 : decode cX8_dutyFrom 44 = .ok (.ifCond .eq 12, 3) := by decide +kernel
theorem dX8_dutyFrom_47 : decode cX8_dutyFrom 47 = .ok (.iinc 3 1, 3) := by decide +kernel
theorem dX8_dutyFrom_50 : decode cX8_dutyFrom 50 = .ok (.iinc 4 1, 3) := by decide +kernel
theorem dX8_dutyFrom_53 : decode cX8_dutyFrom 53 = .ok (.goto (-27), 3) := by decide +kernel
theorem dX8_dutyFrom_56 : decode cX8_dutyFrom 56 = .ok (.iload_n 3, 1) := by decide +kernel
theorem dX8_dutyFrom_57 : decode cX8_dutyFrom 57 = .ok (.ireturn, 1) := by decide +kernel
theorem dX9_init_0 : decode cX9_init 0 = .ok (.aload_n 0, 1) := by decide +kernel
theorem dX9_init_1 : decode cX9_init 1 = .ok (.invokespecial 3, 3) := by decide +kernel
theorem dX9_init_4 : decode cX9_init 4 = .ok (.aload_n 0, 1) := by decide +kernel
theorem dX9_init_5 : decode cX9_init 5 = .ok (.new 9, 3) := by decide +kernel
theorem dX9_init_8 : decode cX9_init 8 = .ok (.dup, 1) := by decide +kernel
theorem dX9_init_9 : decode cX9_init 9 = .ok (.invokespecial 11, 3) := by decide +kernel
theorem dX9_init_12 : decode cX9_init 12 = .ok (.putfield 12, 3) := by decide +kernel
theorem dX9_init_15 : decode cX9_init 15 = .ok (.aload_n 0, 1) := by decide +kernel
theorem dX9_init_16 : decode cX9_init 16 = .ok (.bipush 10, 2) := by decide +kernel
theorem dX9_init_18 : decode cX9_init 18 = .ok (.anewarray 18, 3) := by decide +kernel
theorem dX9_init_21 : decode cX9_init 21 = .ok (.putfield 20, 3) := by decide +kernel
theorem dX9_init_24 : decode cX9_init 24 = .ok (.aload_n 0, 1) := by decide +kernel
theorem dX9_init_25 : decode cX9_init 25 = .ok (.bipush 10, 2) := by decide +kernel
theorem dX9_init_27 : decode cX9_init 27 = .ok (.newarray .boolean, 2) := by decide +kernel
theorem dX9_init_29 : decode cX9_init 29 = .ok (.putfield 24, 3) := by decide +kernel
theorem dX9_init_32 : decode cX9_init 32 = .ok (.aload_n 0, 1) := by decide +kernel
theorem dX9_init_33 : decode cX9_init 33 = .ok (.iconst 1, 1) := by decide +kernel
theorem dX9_init_34 : decode cX9_init 34 = .ok (.putfield 28, 3) := by decide +kernel
theorem dX9_init_37 : decode cX9_init 37 = .ok (.iconst 0, 1) := by decide +kernel
theorem dX9_init_38 : decode cX9_init 38 = .ok (.istore_n 1, 1) := by decide +kernel
theorem dX9_init_39 : decode cX9_init 39 = .ok (.iload_n 1, 1) := by decide +kernel
theorem dX9_init_40 : decode cX9_init 40 = .ok (.bipush 10, 2) := by decide +kernel
theorem dX9_init_42 : decode cX9_init 42 = .ok (.if_icmp .ge 22, 3) := by decide +kernel
theorem dX9_init_45 : decode cX9_init 45 = .ok (.aload_n 0, 1) := by decide +kernel
theorem dX9_init_46 : decode cX9_init 46 = .ok (.getfield 20, 3) := by decide +kernel
theorem dX9_init_49 : decode cX9_init 49 = .ok (.iload_n 1, 1) := by decide +kernel
theorem dX9_init_50 : decode cX9_init 50 = .ok (.new 18, 3) := by decide +kernel
theorem dX9_init_53 : decode cX9_init 53 = .ok (.dup, 1) := by decide +kernel
theorem dX9_init_54 : decode cX9_init 54 = .ok (.invokespecial 32, 3) := by decide +kernel
theorem dX9_init_57 : decode cX9_init 57 = .ok (.aastore, 1) := by decide +kernel
theorem dX9_init_58 : decode cX9_init 58 = .ok (.iinc 1 1, 3) := by decide +kernel
theorem dX9_init_61 : decode cX9_init 61 = .ok (.goto (-22), 3) := by decide +kernel
theorem dX9_init_64 : decode cX9_init 64 = .ok (.return_, 1) := by decide +kernel
theorem dX9_of_0 : decode cX9_of 0 = .ok (.aload_n 0, 1) := by decide +kernel
theorem dX9_of_1 : decode cX9_of 1 = .ok (.getfield 20, 3) := by decide +kernel
theorem dX9_of_4 : decode cX9_of 4 = .ok (.iload_n 2, 1) := by decide +kernel
theorem dX9_of_5 : decode cX9_of 5 = .ok (.aaload, 1) := by decide +kernel
theorem dX9_of_6 : decode cX9_of 6 = .ok (.astore_n 3, 1) := by decide +kernel
theorem dX9_of_7 : decode cX9_of 7 = .ok (.aload_n 0, 1) := by decide +kernel
theorem dX9_of_8 : decode cX9_of 8 = .ok (.getfield 24, 3) := by decide +kernel
theorem dX9_of_11 : decode cX9_of 11 = .ok (.iload_n 2, 1) := by decide +kernel
theorem dX9_of_12 : decode cX9_of 12 = .ok (.baload, 1) := by decide +kernel
theorem dX9_of_13 : decode cX9_of 13 = .ok (.ifCond .ne 37, 3) := by decide +kernel
theorem dX9_of_16 : decode cX9_of 16 = .ok (.iconst 0, 1) := by decide +kernel
theorem dX9_of_17 : decode cX9_of 17 = .ok (.istore 4, 2) := by decide +kernel
theorem dX9_of_19 : decode cX9_of 19 = .ok (.iload 4, 2) := by decide +kernel
theorem dX9_of_21 : decode cX9_of 21 = .ok (.iconst 5, 1) := by decide +kernel
theorem dX9_of_22 : decode cX9_of 22 = .ok (.if_icmp .ge 21, 3) := by decide +kernel
theorem dX9_of_25 : decode cX9_of 25 = .ok (.aload_n 0, 1) := by decide +kernel
theorem dX9_of_26 : decode cX9_of 26 = .ok (.getfield 12, 3) := by decide +kernel
theorem dX9_of_29 : decode cX9_of 29 = .ok (.aload_n 1, 1) := by decide +kernel
theorem dX9_of_30 : decode cX9_of 30 = .ok (.iload_n 2, 1) := by decide +kernel
theorem dX9_of_31 : decode cX9_of 31 = .ok (.iload 4, 2) := by decide +kernel
theorem dX9_of_33 : decode cX9_of 33 = .ok (.aload_n 3, 1) := by decide +kernel
theorem dX9_of_34 : decode cX9_of 34 = .ok (.invokevirtual 33, 3) := by decide +kernel
theorem dX9_of_37 : decode cX9_of 37 = .ok (.iinc 4 1, 3) := by decide +kernel
theorem dX9_of_40 : decode cX9_of 40 = .ok (.goto (-21), 3) := by decide +kernel
theorem dX9_of_43 : decode cX9_of 43 = .ok (.aload_n 0, 1) := by decide +kernel
theorem dX9_of_44 : decode cX9_of 44 = .ok (.getfield 24, 3) := by decide +kernel
theorem dX9_of_47 : decode cX9_of 47 = .ok (.iload_n 2, 1) := by decide +kernel
theorem dX9_of_48 : decode cX9_of 48 = .ok (.iconst 1, 1) := by decide +kernel
theorem dX9_of_49 : decode cX9_of 49 = .ok (.bastore, 1) := by decide +kernel
theorem dX9_of_50 : decode cX9_of 50 = .ok (.aload_n 3, 1) := by decide +kernel
theorem dX9_of_51 : decode cX9_of 51 = .ok (.areturn, 1) := by decide +kernel
theorem dX9_edition_0 : decode cX9_edition 0 = .ok (.aload_n 0, 1) := by decide +kernel
theorem dX9_edition_1 : decode cX9_edition 1 = .ok (.getfield 28, 3) := by decide +kernel
theorem dX9_edition_4 : decode cX9_edition 4 = .ok (.ireturn, 1) := by decide +kernel
theorem dX9_forgetOthers_0 : decode cX9_forgetOthers 0 = .ok (.aload_n 0, 1) := by decide +kernel
theorem dX9_forgetOthers_1 : decode cX9_forgetOthers 1 = .ok (.dup, 1) := by decide +kernel
theorem dX9_forgetOthers_2 : decode cX9_forgetOthers 2 = .ok (.getfield 28, 3) := by decide +kernel
theorem dX9_forgetOthers_5 : decode cX9_forgetOthers 5 = .ok (.iconst 1, 1) := by decide +kernel
theorem dX9_forgetOthers_6 : decode cX9_forgetOthers 6 = .ok (.iadd, 1) := by decide +kernel
theorem dX9_forgetOthers_7 : decode cX9_forgetOthers 7 = .ok (.putfield 28, 3) := by decide +kernel
theorem dX9_forgetOthers_10 : decode cX9_forgetOthers 10 = .ok (.return_, 1) := by decide +kernel
theorem dX9_forget_0 : decode cX9_forget 0 = .ok (.aload_n 0, 1) := by decide +kernel
theorem dX9_forget_1 : decode cX9_forget 1 = .ok (.getfield 24, 3) := by decide +kernel
theorem dX9_forget_4 : decode cX9_forget 4 = .ok (.iload_n 1, 1) := by decide +kernel
theorem dX9_forget_5 : decode cX9_forget 5 = .ok (.iconst 0, 1) := by decide +kernel
theorem dX9_forget_6 : decode cX9_forget 6 = .ok (.bastore, 1) := by decide +kernel
theorem dX9_forget_7 : decode cX9_forget 7 = .ok (.aload_n 0, 1) := by decide +kernel
theorem dX9_forget_8 : decode cX9_forget 8 = .ok (.dup, 1) := by decide +kernel
theorem dX9_forget_9 : decode cX9_forget 9 = .ok (.getfield 28, 3) := by decide +kernel
theorem dX9_forget_12 : decode cX9_forget 12 = .ok (.iconst 1, 1) := by decide +kernel
theorem dX9_forget_13 : decode cX9_forget 13 = .ok (.iadd, 1) := by decide +kernel
theorem dX9_forget_14 : decode cX9_forget 14 = .ok (.putfield 28, 3) := by decide +kernel
theorem dX9_forget_17 : decode cX9_forget 17 = .ok (.return_, 1) := by decide +kernel
theorem dX9_forgetAll_0 : decode cX9_forgetAll 0 = .ok (.iconst 0, 1) := by decide +kernel
theorem dX9_forgetAll_1 : decode cX9_forgetAll 1 = .ok (.istore_n 1, 1) := by decide +kernel
theorem dX9_forgetAll_2 : decode cX9_forgetAll 2 = .ok (.iload_n 1, 1) := by decide +kernel
theorem dX9_forgetAll_3 : decode cX9_forgetAll 3 = .ok (.bipush 10, 2) := by decide +kernel
theorem dX9_forgetAll_5 : decode cX9_forgetAll 5 = .ok (.if_icmp .ge 16, 3) := by decide +kernel
theorem dX9_forgetAll_8 : decode cX9_forgetAll 8 = .ok (.aload_n 0, 1) := by decide +kernel
theorem dX9_forgetAll_9 : decode cX9_forgetAll 9 = .ok (.getfield 24, 3) := by decide +kernel
theorem dX9_forgetAll_12 : decode cX9_forgetAll 12 = .ok (.iload_n 1, 1) := by decide +kernel
theorem dX9_forgetAll_13 : decode cX9_forgetAll 13 = .ok (.iconst 0, 1) := by decide +kernel
theorem dX9_forgetAll_14 : decode cX9_forgetAll 14 = .ok (.bastore, 1) := by decide +kernel
theorem dX9_forgetAll_15 : decode cX9_forgetAll 15 = .ok (.iinc 1 1, 3) := by decide +kernel
theorem dX9_forgetAll_18 : decode cX9_forgetAll 18 = .ok (.goto (-16), 3) := by decide +kernel
theorem dX9_forgetAll_21 : decode cX9_forgetAll 21 = .ok (.aload_n 0, 1) := by decide +kernel
theorem dX9_forgetAll_22 : decode cX9_forgetAll 22 = .ok (.dup, 1) := by decide +kernel
theorem dX9_forgetAll_23 : decode cX9_forgetAll 23 = .ok (.getfield 28, 3) := by decide +kernel
theorem dX9_forgetAll_26 : decode cX9_forgetAll 26 = .ok (.iconst 1, 1) := by decide +kernel
theorem dX9_forgetAll_27 : decode cX9_forgetAll 27 = .ok (.iadd, 1) := by decide +kernel
theorem dX9_forgetAll_28 : decode cX9_forgetAll 28 = .ok (.putfield 28, 3) := by decide +kernel
theorem dX9_forgetAll_31 : decode cX9_forgetAll 31 = .ok (.return_, 1) := by decide +kernel
theorem dX10_init_0 : decode cX10_init 0 = .ok (.aload_n 0, 1) := by decide +kernel
theorem dX10_init_1 : decode cX10_init 1 = .ok (.invokespecial 3, 3) := by decide +kernel
theorem dX10_init_4 : decode cX10_init 4 = .ok (.aload_n 0, 1) := by decide +kernel
theorem dX10_init_5 : decode cX10_init 5 = .ok (.new 9, 3) := by decide +kernel
theorem dX10_init_8 : decode cX10_init 8 = .ok (.dup, 1) := by decide +kernel
theorem dX10_init_9 : decode cX10_init 9 = .ok (.invokespecial 11, 3) := by decide +kernel
theorem dX10_init_12 : decode cX10_init 12 = .ok (.putfield 12, 3) := by decide +kernel
theorem dX10_init_15 : decode cX10_init 15 = .ok (.aload_n 0, 1) := by decide +kernel
theorem dX10_init_16 : decode cX10_init 16 = .ok (.new 9, 3) := by decide +kernel
theorem dX10_init_19 : decode cX10_init 19 = .ok (.dup, 1) := by decide +kernel
theorem dX10_init_20 : decode cX10_init 20 = .ok (.invokespecial 11, 3) := by decide +kernel
theorem dX10_init_23 : decode cX10_init 23 = .ok (.putfield 16, 3) := by decide +kernel
theorem dX10_init_26 : decode cX10_init 26 = .ok (.aload_n 0, 1) := by decide +kernel
theorem dX10_init_27 : decode cX10_init 27 = .ok (.new 9, 3) := by decide +kernel
theorem dX10_init_30 : decode cX10_init 30 = .ok (.dup, 1) := by decide +kernel
theorem dX10_init_31 : decode cX10_init 31 = .ok (.invokespecial 11, 3) := by decide +kernel
theorem dX10_init_34 : decode cX10_init 34 = .ok (.putfield 19, 3) := by decide +kernel
theorem dX10_init_37 : decode cX10_init 37 = .ok (.aload_n 0, 1) := by decide +kernel
theorem dX10_init_38 : decode cX10_init 38 = .ok (.new 22, 3) := by decide +kernel
theorem dX10_init_41 : decode cX10_init 41 = .ok (.dup, 1) := by decide +kernel
theorem dX10_init_42 : decode cX10_init 42 = .ok (.invokespecial 24, 3) := by decide +kernel
theorem dX10_init_45 : decode cX10_init 45 = .ok (.putfield 25, 3) := by decide +kernel
theorem dX10_init_48 : decode cX10_init 48 = .ok (.aload_n 0, 1) := by decide +kernel
theorem dX10_init_49 : decode cX10_init 49 = .ok (.new 29, 3) := by decide +kernel
theorem dX10_init_52 : decode cX10_init 52 = .ok (.dup, 1) := by decide +kernel
theorem dX10_init_53 : decode cX10_init 53 = .ok (.invokespecial 31, 3) := by decide +kernel
theorem dX10_init_56 : decode cX10_init 56 = .ok (.putfield 32, 3) := by decide +kernel
theorem dX10_init_59 : decode cX10_init 59 = .ok (.aload_n 0, 1) := by decide +kernel
theorem dX10_init_60 : decode cX10_init 60 = .ok (.iconst 5, 1) := by decide +kernel
theorem dX10_init_61 : decode cX10_init 61 = .ok (.newarray .int, 2) := by decide +kernel
theorem dX10_init_63 : decode cX10_init 63 = .ok (.putfield 36, 3) := by decide +kernel
theorem dX10_init_66 : decode cX10_init 66 = .ok (.aload_n 0, 1) := by decide +kernel
theorem dX10_init_67 : decode cX10_init 67 = .ok (.new 40, 3) := by decide +kernel
theorem dX10_init_70 : decode cX10_init 70 = .ok (.dup, 1) := by decide +kernel
theorem dX10_init_71 : decode cX10_init 71 = .ok (.invokespecial 42, 3) := by decide +kernel
theorem dX10_init_74 : decode cX10_init 74 = .ok (.putfield 43, 3) := by decide +kernel
theorem dX10_init_77 : decode cX10_init 77 = .ok (.aload_n 0, 1) := by decide +kernel
theorem dX10_init_78 : decode cX10_init 78 = .ok (.new 47, 3) := by decide +kernel
theorem dX10_init_81 : decode cX10_init 81 = .ok (.dup, 1) := by decide +kernel
theorem dX10_init_82 : decode cX10_init 82 = .ok (.invokespecial 49, 3) := by decide +kernel
theorem dX10_init_85 : decode cX10_init 85 = .ok (.putfield 50, 3) := by decide +kernel
theorem dX10_init_88 : decode cX10_init 88 = .ok (.aload_n 0, 1) := by decide +kernel
theorem dX10_init_89 : decode cX10_init 89 = .ok (.new 54, 3) := by decide +kernel
theorem dX10_init_92 : decode cX10_init 92 = .ok (.dup, 1) := by decide +kernel
theorem dX10_init_93 : decode cX10_init 93 = .ok (.invokespecial 56, 3) := by decide +kernel
theorem dX10_init_96 : decode cX10_init 96 = .ok (.putfield 57, 3) := by decide +kernel
theorem dX10_init_99 : decode cX10_init 99 = .ok (.aload_n 0, 1) := by decide +kernel
theorem dX10_init_100 : decode cX10_init 100 = .ok (.new 61, 3) := by decide +kernel
theorem dX10_init_103 : decode cX10_init 103 = .ok (.dup, 1) := by decide +kernel
theorem dX10_init_104 : decode cX10_init 104 = .ok (.invokespecial 63, 3) := by decide +kernel
theorem dX10_init_107 : decode cX10_init 107 = .ok (.putfield 64, 3) := by decide +kernel
theorem dX10_init_110 : decode cX10_init 110 = .ok (.aload_n 0, 1) := by decide +kernel
theorem dX10_init_111 : decode cX10_init 111 = .ok (.new 68, 3) := by decide +kernel
theorem dX10_init_114 : decode cX10_init 114 = .ok (.dup, 1) := by decide +kernel
theorem dX10_init_115 : decode cX10_init 115 = .ok (.invokespecial 70, 3) := by decide +kernel
theorem dX10_init_118 : decode cX10_init 118 = .ok (.putfield 71, 3) := by decide +kernel
theorem dX10_init_121 : decode cX10_init 121 = .ok (.aload_n 0, 1) := by decide +kernel
theorem dX10_init_122 : decode cX10_init 122 = .ok (.bipush 48, 2) := by decide +kernel
theorem dX10_init_124 : decode cX10_init 124 = .ok (.newarray .int, 2) := by decide +kernel
theorem dX10_init_126 : decode cX10_init 126 = .ok (.putfield 75, 3) := by decide +kernel
theorem dX10_init_129 : decode cX10_init 129 = .ok (.aload_n 0, 1) := by decide +kernel
theorem dX10_init_130 : decode cX10_init 130 = .ok (.bipush 48, 2) := by decide +kernel
theorem dX10_init_132 : decode cX10_init 132 = .ok (.newarray .int, 2) := by decide +kernel
theorem dX10_init_134 : decode cX10_init 134 = .ok (.putfield 78, 3) := by decide +kernel
theorem dX10_init_137 : decode cX10_init 137 = .ok (.return_, 1) := by decide +kernel
theorem dX10_paper_0 : decode cX10_paper 0 = .ok (.iload_n 1, 1) := by decide +kernel
theorem dX10_paper_1 : decode cX10_paper 1 = .ok (.invokestatic 150, 3) := by decide +kernel
theorem dX10_paper_4 : decode cX10_paper 4 = .ok (.ifCond .eq 21, 3) := by decide +kernel
theorem dX10_paper_7 : decode cX10_paper 7 = .ok (.iload_n 2, 1) := by decide +kernel
theorem dX10_paper_8 : decode cX10_paper 8 = .ok (.invokestatic 153, 3) := by decide +kernel
theorem dX10_paper_11 : decode cX10_paper 11 = .ok (.ifCond .eq 14, 3) := by decide +kernel
theorem dX10_paper_14 : decode cX10_paper 14 = .ok (.iload_n 3, 1) := by decide +kernel
theorem dX10_paper_15 : decode cX10_paper 15 = .ok (.iconst 1, 1) := by decide +kernel
theorem dX10_paper_16 : decode cX10_paper 16 = .ok (.if_icmp .lt 9, 3) := by decide +kernel
theorem dX10_paper_19 : decode cX10_paper 19 = .ok (.iload_n 3, 1) := by decide +kernel
theorem dX10_paper_20 : decode cX10_paper 20 = .ok (.bipush 12, 2) := by decide +kernel
theorem dX10_paper_22 : decode cX10_paper 22 = .ok (.if_icmp .le 10, 3) := by decide +kernel
theorem dX10_paper_25 : decode cX10_paper 25 = .ok (.aload_n 0, 1) := by decide +kernel
theorem dX10_paper_26 : decode cX10_paper 26 = .ok (.bipush (-52), 2) := by decide +kernel
theorem dX10_paper_28 : decode cX10_paper 28 = .ok (.invokevirtual 88, 3) := by decide +kernel
theorem dX10_paper_31 : decode cX10_paper 31 = .ok (.ireturn, 1) := by decide +kernel
theorem dX10_paper_32 : decode cX10_paper 32 = .ok (.aload_n 0, 1) := by decide +kernel
theorem dX10_paper_33 : decode cX10_paper 33 = .ok (.getfield 12, 3) := by decide +kernel
theorem dX10_paper_36 : decode cX10_paper 36 = .ok (.getfield 156, 3) := by decide +kernel
theorem dX10_paper_39 : decode cX10_paper 39 = .ok (.bipush 12, 2) := by decide +kernel
theorem dX10_paper_41 : decode cX10_paper 41 = .ok (.if_icmp .lt 10, 3) := by decide +kernel
theorem dX10_paper_44 : decode cX10_paper 44 = .ok (.aload_n 0, 1) := by decide +kernel
theorem dX10_paper_45 : decode cX10_paper 45 = .ok (.bipush (-56), 2) := by decide +kernel
theorem dX10_paper_47 : decode cX10_paper 47 = .ok (.invokevirtual 88, 3) := by decide +kernel
theorem dX10_paper_50 : decode cX10_paper 50 = .ok (.ireturn, 1) := by decide +kernel
theorem dX10_paper_51 : decode cX10_paper 51 = .ok (.aload_n 0, 1) := by decide +kernel
theorem dX10_paper_52 : decode cX10_paper 52 = .ok (.getfield 12, 3) := by decide +kernel
theorem dX10_paper_55 : decode cX10_paper 55 = .ok (.iload_n 1, 1) := by decide +kernel
theorem dX10_paper_56 : decode cX10_paper 56 = .ok (.iload_n 2, 1) := by decide +kernel
theorem dX10_paper_57 : decode cX10_paper 57 = .ok (.iload_n 3, 1) := by decide +kernel
theorem dX10_paper_58 : decode cX10_paper 58 = .ok (.invokevirtual 160, 3) := by decide +kernel
theorem dX10_paper_61 : decode cX10_paper 61 = .ok (.ireturn, 1) := by decide +kernel
theorem dX10_cand_0 : decode cX10_cand 0 = .ok (.iload_n 1, 1) := by decide +kernel
theorem dX10_cand_1 : decode cX10_cand 1 = .ok (.invokestatic 129, 3) := by decide +kernel
theorem dX10_cand_4 : decode cX10_cand 4 = .ok (.ifCond .eq 13, 3) := by decide +kernel
theorem dX10_cand_7 : decode cX10_cand 7 = .ok (.iload_n 2, 1) := by decide +kernel
theorem dX10_cand_8 : decode cX10_cand 8 = .ok (.ifCond .lt 9, 3) := by decide +kernel
theorem dX10_cand_11 : decode cX10_cand 11 = .ok (.iload_n 2, 1) := by decide +kernel
theorem dX10_cand_12 : decode cX10_cand 12 = .ok (.bipush 9, 2) := by decide +kernel
theorem dX10_cand_14 : decode cX10_cand 14 = .ok (.if_icmp .le 10, 3) := by decide +kernel
theorem dX10_cand_17 : decode cX10_cand 17 = .ok (.aload_n 0, 1) := by decide +kernel
theorem dX10_cand_18 : decode cX10_cand 18 = .ok (.bipush (-52), 2) := by decide +kernel
theorem dX10_cand_20 : decode cX10_cand 20 = .ok (.invokevirtual 88, 3) := by decide +kernel
theorem dX10_cand_23 : decode cX10_cand 23 = .ok (.ireturn, 1) := by decide +kernel
theorem dX10_cand_24 : decode cX10_cand 24 = .ok (.aload_n 0, 1) := by decide +kernel
theorem dX10_cand_25 : decode cX10_cand 25 = .ok (.getfield 12, 3) := by decide +kernel
theorem dX10_cand_28 : decode cX10_cand 28 = .ok (.getfield 174, 3) := by decide +kernel
theorem dX10_cand_31 : decode cX10_cand 31 = .ok (.bipush 10, 2) := by decide +kernel
theorem dX10_cand_33 : decode cX10_cand 33 = .ok (.if_icmp .lt 10, 3) := by decide +kernel
theorem dX10_cand_36 : decode cX10_cand 36 = .ok (.aload_n 0, 1) := by decide +kernel
theorem dX10_cand_37 : decode cX10_cand 37 = .ok (.bipush (-56), 2) := by decide +kernel
theorem dX10_cand_39 : decode cX10_cand 39 = .ok (.invokevirtual 88, 3) := by decide +kernel
theorem dX10_cand_42 : decode cX10_cand 42 = .ok (.ireturn, 1) := by decide +kernel
theorem dX10_cand_43 : decode cX10_cand 43 = .ok (.aload_n 0, 1) := by decide +kernel
theorem dX10_cand_44 : decode cX10_cand 44 = .ok (.getfield 12, 3) := by decide +kernel
theorem dX10_cand_47 : decode cX10_cand 47 = .ok (.iload_n 1, 1) := by decide +kernel
theorem dX10_cand_48 : decode cX10_cand 48 = .ok (.iload_n 2, 1) := by decide +kernel
theorem dX10_cand_49 : decode cX10_cand 49 = .ok (.invokevirtual 177, 3) := by decide +kernel
theorem dX10_cand_52 : decode cX10_cand 52 = .ok (.istore_n 3, 1) := by decide +kernel
theorem dX10_cand_53 : decode cX10_cand 53 = .ok (.aload_n 0, 1) := by decide +kernel
theorem dX10_cand_54 : decode cX10_cand 54 = .ok (.getfield 50, 3) := by decide +kernel
theorem dX10_cand_57 : decode cX10_cand 57 = .ok (.iload_n 3, 1) := by decide +kernel
theorem dX10_cand_58 : decode cX10_cand 58 = .ok (.invokevirtual 181, 3) := by decide +kernel
theorem dX10_cand_61 : decode cX10_cand 61 = .ok (.iload_n 3, 1) := by decide +kernel
theorem dX10_cand_62 : decode cX10_cand 62 = .ok (.ireturn, 1) := by decide +kernel
theorem dX10_takes_0 : decode cX10_takes 0 = .ok (.aload_n 0, 1) := by decide +kernel
theorem dX10_takes_1 : decode cX10_takes 1 = .ok (.getfield 12, 3) := by decide +kernel
theorem dX10_takes_4 : decode cX10_takes 4 = .ok (.iload_n 1, 1) := by decide +kernel
theorem dX10_takes_5 : decode cX10_takes 5 = .ok (.invokevirtual 122, 3) := by decide +kernel
theorem dX10_takes_8 : decode cX10_takes 8 = .ok (.ifCond .eq 22, 3) := by decide +kernel
theorem dX10_takes_11 : decode cX10_takes 11 = .ok (.aload_n 0, 1) := by decide +kernel
theorem dX10_takes_12 : decode cX10_takes 12 = .ok (.getfield 12, 3) := by decide +kernel
theorem dX10_takes_15 : decode cX10_takes 15 = .ok (.iload_n 2, 1) := by decide +kernel
theorem dX10_takes_16 : decode cX10_takes 16 = .ok (.i2l, 1) := by decide +kernel
theorem dX10_takes_17 : decode cX10_takes 17 = .ok (.invokevirtual 164, 3) := by decide +kernel
theorem dX10_takes_20 : decode cX10_takes 20 = .ok (.ifCond .eq 10, 3) := by decide +kernel
theorem dX10_takes_23 : decode cX10_takes 23 = .ok (.iload_n 3, 1) := by decide +kernel
theorem dX10_takes_24 : decode cX10_takes 24 = .ok (.invokestatic 185, 3) := by decide +kernel
theorem dX10_takes_27 : decode cX10_takes 27 = .ok (.ifCond .ne 10, 3) := by decide +kernel
theorem dX10_takes_30 : decode cX10_takes 30 = .ok (.aload_n 0, 1) := by decide +kernel
theorem dX10_takes_31 : decode cX10_takes 31 = .ok (.bipush (-52), 2) := by decide +kernel
theorem dX10_takes_33 : decode cX10_takes 33 = .ok (.invokevirtual 88, 3) := by decide +kernel
theorem dX10_takes_36 : decode cX10_takes 36 = .ok (.ireturn, 1) := by decide +kernel
theorem dX10_takes_37 : decode cX10_takes 37 = .ok (.aload_n 0, 1) := by decide +kernel
theorem dX10_takes_38 : decode cX10_takes 38 = .ok (.getfield 12, 3) := by decide +kernel
theorem dX10_takes_41 : decode cX10_takes 41 = .ok (.iload_n 1, 1) := by decide +kernel
theorem dX10_takes_42 : decode cX10_takes 42 = .ok (.iload_n 2, 1) := by decide +kernel
theorem dX10_takes_43 : decode cX10_takes 43 = .ok (.invokevirtual 188, 3) := by decide +kernel
theorem dX10_takes_46 : decode cX10_takes 46 = .ok (.ifCond .eq 7, 3) := by decide +kernel
theorem dX10_takes_49 : decode cX10_takes 49 = .ok (.iconst 1, 1) := by decide +kernel
theorem dX10_takes_50 : decode cX10_takes 50 = .ok (.goto 4, 3) := by decide +kernel
theorem dX10_takes_53 : decode cX10_takes 53 = .ok (.iconst 0, 1) := by decide +kernel
theorem dX10_takes_54 : decode cX10_takes 54 = .ok (.istore 4, 2) := by decide +kernel
theorem dX10_takes_56 : decode cX10_takes 56 = .ok (.iload_n 3, 1) := by decide +kernel
theorem dX10_takes_57 : decode cX10_takes 57 = .ok (.iload 4, 2) := by decide +kernel
theorem dX10_takes_59 : decode cX10_takes 59 = .ok (.if_icmp .eq 39, 3) := by decide +kernel
theorem dX10_takes_62 : decode cX10_takes 62 = .ok (.aload_n 0, 1) := by decide +kernel
theorem dX10_takes_63 : decode cX10_takes 63 = .ok (.getfield 12, 3) := by decide +kernel
theorem dX10_takes_66 : decode cX10_takes 66 = .ok (.iload_n 1, 1) := by decide +kernel
theorem dX10_takes_67 : decode cX10_takes 67 = .ok (.iload_n 2, 1) := by decide +kernel
theorem dX10_takes_68 : decode cX10_takes 68 = .ok (.invokevirtual 191, 3) := by decide +kernel
theorem dX10_takes_71 : decode cX10_takes 71 = .ok (.ifCond .ne 10, 3) := by decide +kernel
theorem dX10_takes_74 : decode cX10_takes 74 = .ok (.aload_n 0, 1) := by decide +kernel
theorem dX10_takes_75 : decode cX10_takes 75 = .ok (.bipush (-55), 2) := by decide +kernel
theorem dX10_takes_77 : decode cX10_takes 77 = .ok (.invokevirtual 88, 3) := by decide +kernel
theorem dX10_takes_80 : decode cX10_takes 80 = .ok (.ireturn, 1) := by decide +kernel
theorem dX10_takes_81 : decode cX10_takes 81 = .ok (.aload_n 0, 1) := by decide +kernel
theorem dX10_takes_82 : decode cX10_takes 82 = .ok (.getfield 12, 3) := by decide +kernel
theorem dX10_takes_85 : decode cX10_takes 85 = .ok (.iload_n 1, 1) := by decide +kernel
theorem dX10_takes_86 : decode cX10_takes 86 = .ok (.iload_n 2, 1) := by decide +kernel
theorem dX10_takes_87 : decode cX10_takes 87 = .ok (.invokevirtual 194, 3) := by decide +kernel
theorem dX10_takes_90 : decode cX10_takes 90 = .ok (.aload_n 0, 1) := by decide +kernel
theorem dX10_takes_91 : decode cX10_takes 91 = .ok (.getfield 50, 3) := by decide +kernel
theorem dX10_takes_94 : decode cX10_takes 94 = .ok (.iload_n 1, 1) := by decide +kernel
theorem dX10_takes_95 : decode cX10_takes 95 = .ok (.invokevirtual 181, 3) := by decide +kernel
theorem dX10_takes_98 : decode cX10_takes 98 = .ok (.iload 4, 2) := by decide +kernel
theorem dX10_takes_100 : decode cX10_takes 100 = .ok (.ireturn, 1) := by decide +kernel
theorem dX10_night_0 : decode cX10_night 0 = .ok (.aload_n 0, 1) := by decide +kernel
theorem dX10_night_1 : decode cX10_night 1 = .ok (.getfield 12, 3) := by decide +kernel
theorem dX10_night_4 : decode cX10_night 4 = .ok (.iload_n 1, 1) := by decide +kernel
theorem dX10_night_5 : decode cX10_night 5 = .ok (.invokevirtual 122, 3) := by decide +kernel
theorem dX10_night_8 : decode cX10_night 8 = .ok (.ifCond .eq 10, 3) := by decide +kernel
theorem dX10_night_11 : decode cX10_night 11 = .ok (.iload_n 2, 1) := by decide +kernel
theorem dX10_night_12 : decode cX10_night 12 = .ok (.invokestatic 185, 3) := by decide +kernel
theorem dX10_night_15 : decode cX10_night 15 = .ok (.ifCond .ne 10, 3) := by decide +kernel
theorem dX10_night_18 : decode cX10_night 18 = .ok (.aload_n 0, 1) := by decide +kernel
theorem dX10_night_19 : decode cX10_night 19 = .ok (.bipush (-52), 2) := by decide +kernel
theorem dX10_night_21 : decode cX10_night 21 = .ok (.invokevirtual 88, 3) := by decide +kernel
theorem dX10_night_24 : decode cX10_night 24 = .ok (.ireturn, 1) := by decide +kernel
theorem dX10_night_25 : decode cX10_night 25 = .ok (.aload_n 0, 1) := by decide +kernel
theorem dX10_night_26 : decode cX10_night 26 = .ok (.getfield 12, 3) := by decide +kernel
theorem dX10_night_29 : decode cX10_night 29 = .ok (.getfield 197, 3) := by decide +kernel
theorem dX10_night_32 : decode cX10_night 32 = .ok (.iload_n 1, 1) := by decide +kernel
theorem dX10_night_33 : decode cX10_night 33 = .ok (.iaload, 1) := by decide +kernel
theorem dX10_night_34 : decode cX10_night 34 = .ok (.istore_n 3, 1) := by decide +kernel
theorem dX10_night_35 : decode cX10_night 35 = .ok (.aload_n 0, 1) := by decide +kernel
theorem dX10_night_36 : decode cX10_night 36 = .ok (.getfield 12, 3) := by decide +kernel
theorem dX10_night_39 : decode cX10_night 39 = .ok (.getfield 197, 3) := by decide +kernel
theorem dX10_night_42 : decode cX10_night 42 = .ok (.iload_n 1, 1) := by decide +kernel
theorem dX10_night_43 : decode cX10_night 43 = .ok (.iload_n 2, 1) := by decide +kernel
theorem dX10_night_44 : decode cX10_night 44 = .ok (.iastore, 1) := by decide +kernel
theorem dX10_night_45 : decode cX10_night 45 = .ok (.aload_n 0, 1) := by decide +kernel
theorem dX10_night_46 : decode cX10_night 46 = .ok (.getfield 50, 3) := by decide +kernel
theorem dX10_night_49 : decode cX10_night 49 = .ok (.iload_n 1, 1) := by decide +kernel
theorem dX10_night_50 : decode cX10_night 50 = .ok (.invokevirtual 181, 3) := by decide +kernel
theorem dX10_night_53 : decode cX10_night 53 = .ok (.iload_n 3, 1) := by decide +kernel
theorem dX10_night_54 : decode cX10_night 54 = .ok (.ireturn, 1) := by decide +kernel
theorem dX10_room_0 : decode cX10_room 0 = .ok (.iload_n 1, 1) := by decide +kernel
theorem dX10_room_1 : decode cX10_room 1 = .ok (.iconst 1, 1) := by decide +kernel
theorem dX10_room_2 : decode cX10_room 2 = .ok (.if_icmp .lt 9, 3) := by decide +kernel
theorem dX10_room_5 : decode cX10_room 5 = .ok (.iload_n 1, 1) := by decide +kernel
theorem dX10_room_6 : decode cX10_room 6 = .ok (.bipush 9, 2) := by decide +kernel
theorem dX10_room_8 : decode cX10_room 8 = .ok (.if_icmp .le 10, 3) := by decide +kernel
theorem dX10_room_11 : decode cX10_room 11 = .ok (.aload_n 0, 1) := by decide +kernel
theorem dX10_room_12 : decode cX10_room 12 = .ok (.bipush (-52), 2) := by decide +kernel
theorem dX10_room_14 : decode cX10_room 14 = .ok (.invokevirtual 88, 3) := by decide +kernel
theorem dX10_room_17 : decode cX10_room 17 = .ok (.ireturn, 1) := by decide +kernel
theorem dX10_room_18 : decode cX10_room 18 = .ok (.aload_n 0, 1) := by decide +kernel
theorem dX10_room_19 : decode cX10_room 19 = .ok (.getfield 12, 3) := by decide +kernel
theorem dX10_room_22 : decode cX10_room 22 = .ok (.getfield 200, 3) := by decide +kernel
theorem dX10_room_25 : decode cX10_room 25 = .ok (.bipush 6, 2) := by decide +kernel
theorem dX10_room_27 : decode cX10_room 27 = .ok (.if_icmp .lt 10, 3) := by decide +kernel
theorem dX10_room_30 : decode cX10_room 30 = .ok (.aload_n 0, 1) := by decide +kernel
theorem dX10_room_31 : decode cX10_room 31 = .ok (.bipush (-56), 2) := by decide +kernel
theorem dX10_room_33 : decode cX10_room 33 = .ok (.invokevirtual 88, 3) := by decide +kernel
theorem dX10_room_36 : decode cX10_room 36 = .ok (.ireturn, 1) := by decide +kernel
theorem dX10_room_37 : decode cX10_room 37 = .ok (.aload_n 0, 1) := by decide +kernel
theorem dX10_room_38 : decode cX10_room 38 = .ok (.getfield 50, 3) := by decide +kernel
theorem dX10_room_41 : decode cX10_room 41 = .ok (.invokevirtual 203, 3) := by decide +kernel
theorem dX10_room_44 : decode cX10_room 44 = .ok (.aload_n 0, 1) := by decide +kernel
theorem dX10_room_45 : decode cX10_room 45 = .ok (.getfield 12, 3) := by decide +kernel
theorem dX10_room_48 : decode cX10_room 48 = .ok (.iload_n 1, 1) := by decide +kernel
theorem dX10_room_49 : decode cX10_room 49 = .ok (.invokevirtual 206, 3) := by decide +kernel
theorem dX10_room_52 : decode cX10_room 52 = .ok (.ireturn, 1) := by decide +kernel
theorem dX10_hours_0 : decode cX10_hours 0 = .ok (.iload_n 1, 1) := by decide +kernel
theorem dX10_hours_1 : decode cX10_hours 1 = .ok (.bipush 8, 2) := by decide +kernel
theorem dX10_hours_3 : decode cX10_hours 3 = .ok (.if_icmp .lt 9, 3) := by decide +kernel
theorem dX10_hours_6 : decode cX10_hours 6 = .ok (.iload_n 1, 1) := by decide +kernel
theorem dX10_hours_7 : decode cX10_hours 7 = .ok (.bipush 40, 2) := by decide +kernel
theorem dX10_hours_9 : decode cX10_hours 9 = .ok (.if_icmp .le 10, 3) := by decide +kernel
theorem dX10_hours_12 : decode cX10_hours 12 = .ok (.aload_n 0, 1) := by decide +kernel
theorem dX10_hours_13 : decode cX10_hours 13 = .ok (.bipush (-52), 2) := by decide +kernel
theorem dX10_hours_15 : decode cX10_hours 15 = .ok (.invokevirtual 88, 3) := by decide +kernel
theorem dX10_hours_18 : decode cX10_hours 18 = .ok (.ireturn, 1) := by decide +kernel
theorem dX10_hours_19 : decode cX10_hours 19 = .ok (.aload_n 0, 1) := by decide +kernel
theorem dX10_hours_20 : decode cX10_hours 20 = .ok (.getfield 12, 3) := by decide +kernel
theorem dX10_hours_23 : decode cX10_hours 23 = .ok (.getfield 209, 3) := by decide +kernel
theorem dX10_hours_26 : decode cX10_hours 26 = .ok (.istore_n 2, 1) := by decide +kernel
theorem dX10_hours_27 : decode cX10_hours 27 = .ok (.aload_n 0, 1) := by decide +kernel
theorem dX10_hours_28 : decode cX10_hours 28 = .ok (.getfield 12, 3) := by decide +kernel
theorem dX10_hours_31 : decode cX10_hours 31 = .ok (.iload_n 1, 1) := by decide +kernel
theorem dX10_hours_32 : decode cX10_hours 32 = .ok (.putfield 209, 3) := by decide +kernel
theorem dX10_hours_35 : decode cX10_hours 35 = .ok (.aload_n 0, 1) := by decide +kernel
theorem dX10_hours_36 : decode cX10_hours 36 = .ok (.getfield 50, 3) := by decide +kernel
theorem dX10_hours_39 : decode cX10_hours 39 = .ok (.invokevirtual 171, 3) := by decide +kernel
theorem dX10_hours_42 : decode cX10_hours 42 = .ok (.iload_n 2, 1) := by decide +kernel
theorem dX10_hours_43 : decode cX10_hours 43 = .ok (.ireturn, 1) := by decide +kernel
theorem dX10_turn_0 : decode cX10_turn 0 = .ok (.iload_n 1, 1) := by decide +kernel
theorem dX10_turn_1 : decode cX10_turn 1 = .ok (.ifCond .lt 9, 3) := by decide +kernel
theorem dX10_turn_4 : decode cX10_turn 4 = .ok (.iload_n 1, 1) := by decide +kernel
theorem dX10_turn_5 : decode cX10_turn 5 = .ok (.bipush 8, 2) := by decide +kernel
theorem dX10_turn_7 : decode cX10_turn 7 = .ok (.if_icmp .le 10, 3) := by decide +kernel
theorem dX10_turn_10 : decode cX10_turn 10 = .ok (.aload_n 0, 1) := by decide +kernel
theorem dX10_turn_11 : decode cX10_turn 11 = .ok (.bipush (-52), 2) := by decide +kernel
theorem dX10_turn_13 : decode cX10_turn 13 = .ok (.invokevirtual 88, 3) := by decide +kernel
theorem dX10_turn_16 : decode cX10_turn 16 = .ok (.ireturn, 1) := by decide +kernel
theorem dX10_turn_17 : decode cX10_turn 17 = .ok (.aload_n 0, 1) := by decide +kernel
theorem dX10_turn_18 : decode cX10_turn 18 = .ok (.getfield 12, 3) := by decide +kernel
theorem dX10_turn_21 : decode cX10_turn 21 = .ok (.getfield 212, 3) := by decide +kernel
theorem dX10_turn_24 : decode cX10_turn 24 = .ok (.istore_n 2, 1) := by decide +kernel
theorem dX10_turn_25 : decode cX10_turn 25 = .ok (.aload_n 0, 1) := by decide +kernel
theorem dX10_turn_26 : decode cX10_turn 26 = .ok (.getfield 12, 3) := by decide +kernel
theorem dX10_turn_29 : decode cX10_turn 29 = .ok (.iload_n 1, 1) := by decide +kernel
theorem dX10_turn_30 : decode cX10_turn 30 = .ok (.putfield 212, 3) := by decide +kernel
theorem dX10_turn_33 : decode cX10_turn 33 = .ok (.aload_n 0, 1) := by decide +kernel
theorem dX10_turn_34 : decode cX10_turn 34 = .ok (.getfield 50, 3) := by decide +kernel
theorem dX10_turn_37 : decode cX10_turn 37 = .ok (.invokevirtual 203, 3) := by decide +kernel
theorem dX10_turn_40 : decode cX10_turn 40 = .ok (.iload_n 2, 1) := by decide +kernel
theorem dX10_turn_41 : decode cX10_turn 41 = .ok (.ireturn, 1) := by decide +kernel
theorem dX10_candOf_0 : decode cX10_candOf 0 = .ok (.aload_n 0, 1) := by decide +kernel
theorem dX10_candOf_1 : decode cX10_candOf 1 = .ok (.getfield 12, 3) := by decide +kernel
theorem dX10_candOf_4 : decode cX10_candOf 4 = .ok (.iload_n 1, 1) := by decide +kernel
theorem dX10_candOf_5 : decode cX10_candOf 5 = .ok (.invokevirtual 122, 3) := by decide +kernel
theorem dX10_candOf_8 : decode cX10_candOf 8 = .ok (.ifCond .ne 10, 3) := by decide +kernel
theorem dX10_candOf_11 : decode cX10_candOf 11 = .ok (.aload_n 0, 1) := by decide +kernel
theorem dX10_candOf_12 : decode cX10_candOf 12 = .ok (.bipush (-52), 2) := by decide +kernel
theorem dX10_candOf_14 : decode cX10_candOf 14 = .ok (.invokevirtual 88, 3) := by decide +kernel
theorem dX10_candOf_17 : decode cX10_candOf 17 = .ok (.ireturn, 1) := by decide +kernel
theorem dX10_candOf_18 : decode cX10_candOf 18 = .ok (.iload_n 2, 1) := by decide +kernel
theorem dX10_candOf_19 : decode cX10_candOf 19 = .ok (.tableswitch 102 0 5 #[37, 47, 57, 67, 77, 86], 37) := by decide +kernel
theorem dX10_candOf_56 : decode cX10_candOf 56 = .ok (.aload_n 0, 1) := by decide +kernel
theorem dX10_candOf_57 : decode cX10_candOf 57 = .ok (.getfield 12, 3) := by decide +kernel
theorem dX10_candOf_60 : decode cX10_candOf 60 = .ok (.getfield 137, 3) := by decide +kernel
theorem dX10_candOf_63 : decode cX10_candOf 63 = .ok (.iload_n 1, 1) := by decide +kernel
theorem dX10_candOf_64 : decode cX10_candOf 64 = .ok (.iaload, 1) := by decide +kernel
theorem dX10_candOf_65 : decode cX10_candOf 65 = .ok (.ireturn, 1) := by decide +kernel
theorem dX10_candOf_66 : decode cX10_candOf 66 = .ok (.aload_n 0, 1) := by decide +kernel
theorem dX10_candOf_67 : decode cX10_candOf 67 = .ok (.getfield 12, 3) := by decide +kernel
theorem dX10_candOf_70 : decode cX10_candOf 70 = .ok (.getfield 143, 3) := by decide +kernel
theorem dX10_candOf_73 : decode cX10_candOf 73 = .ok (.iload_n 1, 1) := by decide +kernel
theorem dX10_candOf_74 : decode cX10_candOf 74 = .ok (.iaload, 1) := by decide +kernel
theorem dX10_candOf_75 : decode cX10_candOf 75 = .ok (.ireturn, 1) := by decide +kernel
theorem dX10_candOf_76 : decode cX10_candOf 76 = .ok (.aload_n 0, 1) := by decide +kernel
theorem dX10_candOf_77 : decode cX10_candOf 77 = .ok (.getfield 12, 3) := by decide +kernel
theorem dX10_candOf_80 : decode cX10_candOf 80 = .ok (.getfield 197, 3) := by decide +kernel
theorem dX10_candOf_83 : decode cX10_candOf 83 = .ok (.iload_n 1, 1) := by decide +kernel
theorem dX10_candOf_84 : decode cX10_candOf 84 = .ok (.iaload, 1) := by decide +kernel
theorem dX10_candOf_85 : decode cX10_candOf 85 = .ok (.ireturn, 1) := by decide +kernel
theorem dX10_candOf_86 : decode cX10_candOf 86 = .ok (.aload_n 0, 1) := by decide +kernel
theorem dX10_candOf_87 : decode cX10_candOf 87 = .ok (.getfield 12, 3) := by decide +kernel
theorem dX10_candOf_90 : decode cX10_candOf 90 = .ok (.getfield 237, 3) := by decide +kernel
theorem dX10_candOf_93 : decode cX10_candOf 93 = .ok (.iload_n 1, 1) := by decide +kernel
theorem dX10_candOf_94 : decode cX10_candOf 94 = .ok (.iaload, 1) := by decide +kernel
theorem dX10_candOf_95 : decode cX10_candOf 95 = .ok (.ireturn, 1) := by decide +kernel
theorem dX10_candOf_96 : decode cX10_candOf 96 = .ok (.aload_n 0, 1) := by decide +kernel
theorem dX10_candOf_97 : decode cX10_candOf 97 = .ok (.getfield 12, 3) := by decide +kernel
theorem dX10_candOf_100 : decode cX10_candOf 100 = .ok (.iload_n 1, 1) := by decide +kernel
theorem dX10_candOf_101 : decode cX10_candOf 101 = .ok (.invokevirtual 240, 3) := by decide +kernel
theorem dX10_candOf_104 : decode cX10_candOf 104 = .ok (.ireturn, 1) := by decide +kernel
theorem dX10_candOf_105 : decode cX10_candOf 105 = .ok (.aload_n 0, 1) := by decide +kernel
theorem dX10_candOf_106 : decode cX10_candOf 106 = .ok (.getfield 50, 3) := by decide +kernel
theorem dX10_candOf_109 : decode cX10_candOf 109 = .ok (.aload_n 0, 1) := by decide +kernel
theorem dX10_candOf_110 : decode cX10_candOf 110 = .ok (.getfield 12, 3) := by decide +kernel
theorem dX10_candOf_113 : decode cX10_candOf 113 = .ok (.iload_n 1, 1) := by decide +kernel
theorem dX10_candOf_114 : decode cX10_candOf 114 = .ok (.invokevirtual 243, 3) := by decide +kernel
theorem dX10_candOf_117 : decode cX10_candOf 117 = .ok (.invokevirtual 247, 3) := by decide +kernel
theorem dX10_candOf_120 : decode cX10_candOf 120 = .ok (.ireturn, 1) := by decide +kernel
theorem dX10_candOf_121 : decode cX10_candOf 121 = .ok (.aload_n 0, 1) := by decide +kernel
theorem dX10_candOf_122 : decode cX10_candOf 122 = .ok (.bipush (-52), 2) := by decide +kernel
theorem dX10_candOf_124 : decode cX10_candOf 124 = .ok (.invokevirtual 88, 3) := by decide +kernel
theorem dX10_candOf_127 : decode cX10_candOf 127 = .ok (.ireturn, 1) := by decide +kernel
theorem dX10_paperOf_0 : decode cX10_paperOf 0 = .ok (.aload_n 0, 1) := by decide +kernel
theorem dX10_paperOf_1 : decode cX10_paperOf 1 = .ok (.getfield 12, 3) := by decide +kernel
theorem dX10_paperOf_4 : decode cX10_paperOf 4 = .ok (.iload_n 1, 1) := by decide +kernel
theorem dX10_paperOf_5 : decode cX10_paperOf 5 = .ok (.i2l, 1) := by decide +kernel
theorem dX10_paperOf_6 : decode cX10_paperOf 6 = .ok (.invokevirtual 164, 3) := by decide +kernel
theorem dX10_paperOf_9 : decode cX10_paperOf 9 = .ok (.ifCond .ne 10, 3) := by decide +kernel
theorem dX10_paperOf_12 : decode cX10_paperOf 12 = .ok (.aload_n 0, 1) := by decide +kernel
theorem dX10_paperOf_13 : decode cX10_paperOf 13 = .ok (.bipush (-52), 2) := by decide +kernel
theorem dX10_paperOf_15 : decode cX10_paperOf 15 = .ok (.invokevirtual 88, 3) := by decide +kernel
theorem dX10_paperOf_18 : decode cX10_paperOf 18 = .ok (.ireturn, 1) := by decide +kernel
theorem dX10_paperOf_19 : decode cX10_paperOf 19 = .ok (.iload_n 2, 1) := by decide +kernel
theorem dX10_paperOf_20 : decode cX10_paperOf 20 = .ok (.tableswitch 78 0 4 #[36, 46, 56, 66, 72], 36) := by decide +kernel
theorem dX10_paperOf_56 : decode cX10_paperOf 56 = .ok (.aload_n 0, 1) := by decide +kernel
theorem dX10_paperOf_57 : decode cX10_paperOf 57 = .ok (.getfield 12, 3) := by decide +kernel
theorem dX10_paperOf_60 : decode cX10_paperOf 60 = .ok (.getfield 250, 3) := by decide +kernel
theorem dX10_paperOf_63 : decode cX10_paperOf 63 = .ok (.iload_n 1, 1) := by decide +kernel
theorem dX10_paperOf_64 : decode cX10_paperOf 64 = .ok (.iaload, 1) := by decide +kernel
theorem dX10_paperOf_65 : decode cX10_paperOf 65 = .ok (.ireturn, 1) := by decide +kernel
theorem dX10_paperOf_66 : decode cX10_paperOf 66 = .ok (.aload_n 0, 1) := by decide +kernel
theorem dX10_paperOf_67 : decode cX10_paperOf 67 = .ok (.getfield 12, 3) := by decide +kernel
theorem dX10_paperOf_70 : decode cX10_paperOf 70 = .ok (.getfield 168, 3) := by decide +kernel
theorem dX10_paperOf_73 : decode cX10_paperOf 73 = .ok (.iload_n 1, 1) := by decide +kernel
theorem dX10_paperOf_74 : decode cX10_paperOf 74 = .ok (.iaload, 1) := by decide +kernel
theorem dX10_paperOf_75 : decode cX10_paperOf 75 = .ok (.ireturn, 1) := by decide +kernel
theorem dX10_paperOf_76 : decode cX10_paperOf 76 = .ok (.aload_n 0, 1) := by decide +kernel
theorem dX10_paperOf_77 : decode cX10_paperOf 77 = .ok (.getfield 12, 3) := by decide +kernel
theorem dX10_paperOf_80 : decode cX10_paperOf 80 = .ok (.getfield 253, 3) := by decide +kernel
theorem dX10_paperOf_83 : decode cX10_paperOf 83 = .ok (.iload_n 1, 1) := by decide +kernel
theorem dX10_paperOf_84 : decode cX10_paperOf 84 = .ok (.iaload, 1) := by decide +kernel
theorem dX10_paperOf_85 : decode cX10_paperOf 85 = .ok (.ireturn, 1) := by decide +kernel
theorem dX10_paperOf_86 : decode cX10_paperOf 86 = .ok (.aload_n 0, 1) := by decide +kernel
theorem dX10_paperOf_87 : decode cX10_paperOf 87 = .ok (.iload_n 1, 1) := by decide +kernel
theorem dX10_paperOf_88 : decode cX10_paperOf 88 = .ok (.invokevirtual 256, 3) := by decide +kernel
theorem dX10_paperOf_91 : decode cX10_paperOf 91 = .ok (.ireturn, 1) := by decide +kernel
theorem dX10_paperOf_92 : decode cX10_paperOf 92 = .ok (.aload_n 0, 1) := by decide +kernel
theorem dX10_paperOf_93 : decode cX10_paperOf 93 = .ok (.iload_n 1, 1) := by decide +kernel
theorem dX10_paperOf_94 : decode cX10_paperOf 94 = .ok (.invokevirtual 259, 3) := by decide +kernel
theorem dX10_paperOf_97 : decode cX10_paperOf 97 = .ok (.ireturn, 1) := by decide +kernel
theorem dX10_paperOf_98 : decode cX10_paperOf 98 = .ok (.aload_n 0, 1) := by decide +kernel
theorem dX10_paperOf_99 : decode cX10_paperOf 99 = .ok (.bipush (-52), 2) := by decide +kernel
theorem dX10_paperOf_101 : decode cX10_paperOf 101 = .ok (.invokevirtual 88, 3) := by decide +kernel
theorem dX10_paperOf_104 : decode cX10_paperOf 104 = .ok (.ireturn, 1) := by decide +kernel
theorem dX10_time_0 : decode cX10_time 0 = .ok (.aload_n 0, 1) := by decide +kernel
theorem dX10_time_1 : decode cX10_time 1 = .ok (.getfield 12, 3) := by decide +kernel
theorem dX10_time_4 : decode cX10_time 4 = .ok (.iload_n 1, 1) := by decide +kernel
theorem dX10_time_5 : decode cX10_time 5 = .ok (.invokevirtual 122, 3) := by decide +kernel
theorem dX10_time_8 : decode cX10_time 8 = .ok (.ifCond .eq 15, 3) := by decide +kernel
theorem dX10_time_11 : decode cX10_time 11 = .ok (.aload_n 0, 1) := by decide +kernel
theorem dX10_time_12 : decode cX10_time 12 = .ok (.getfield 12, 3) := by decide +kernel
theorem dX10_time_15 : decode cX10_time 15 = .ok (.iload_n 2, 1) := by decide +kernel
theorem dX10_time_16 : decode cX10_time 16 = .ok (.i2l, 1) := by decide +kernel
theorem dX10_time_17 : decode cX10_time 17 = .ok (.invokevirtual 164, 3) := by decide +kernel
theorem dX10_time_20 : decode cX10_time 20 = .ok (.ifCond .ne 10, 3) := by decide +kernel
theorem dX10_time_23 : decode cX10_time 23 = .ok (.aload_n 0, 1) := by decide +kernel
theorem dX10_time_24 : decode cX10_time 24 = .ok (.bipush (-52), 2) := by decide +kernel
theorem dX10_time_26 : decode cX10_time 26 = .ok (.invokevirtual 88, 3) := by decide +kernel
theorem dX10_time_29 : decode cX10_time 29 = .ok (.ireturn, 1) := by decide +kernel
theorem dX10_time_30 : decode cX10_time 30 = .ok (.aload_n 0, 1) := by decide +kernel
theorem dX10_time_31 : decode cX10_time 31 = .ok (.getfield 12, 3) := by decide +kernel
theorem dX10_time_34 : decode cX10_time 34 = .ok (.iload_n 1, 1) := by decide +kernel
theorem dX10_time_35 : decode cX10_time 35 = .ok (.iload_n 2, 1) := by decide +kernel
theorem dX10_time_36 : decode cX10_time 36 = .ok (.invokevirtual 262, 3) := by decide +kernel
theorem dX10_time_39 : decode cX10_time 39 = .ok (.ireturn, 1) := by decide +kernel
theorem dX10_plan_0 : decode cX10_plan 0 = .ok (.aload_n 0, 1) := by decide +kernel
theorem dX10_plan_1 : decode cX10_plan 1 = .ok (.getfield 12, 3) := by decide +kernel
theorem dX10_plan_4 : decode cX10_plan 4 = .ok (.iload_n 1, 1) := by decide +kernel
theorem dX10_plan_5 : decode cX10_plan 5 = .ok (.invokevirtual 122, 3) := by decide +kernel
theorem dX10_plan_8 : decode cX10_plan 8 = .ok (.ifCond .eq 10, 3) := by decide +kernel
theorem dX10_plan_11 : decode cX10_plan 11 = .ok (.iload_n 2, 1) := by decide +kernel
theorem dX10_plan_12 : decode cX10_plan 12 = .ok (.invokestatic 150, 3) := by decide +kernel
theorem dX10_plan_15 : decode cX10_plan 15 = .ok (.ifCond .ne 10, 3) := by decide +kernel
theorem dX10_plan_18 : decode cX10_plan 18 = .ok (.aload_n 0, 1) := by decide +kernel
theorem dX10_plan_19 : decode cX10_plan 19 = .ok (.bipush (-52), 2) := by decide +kernel
theorem dX10_plan_21 : decode cX10_plan 21 = .ok (.invokevirtual 88, 3) := by decide +kernel
theorem dX10_plan_24 : decode cX10_plan 24 = .ok (.ireturn, 1) := by decide +kernel
theorem dX10_plan_25 : decode cX10_plan 25 = .ok (.aload_n 0, 1) := by decide +kernel
theorem dX10_plan_26 : decode cX10_plan 26 = .ok (.getfield 50, 3) := by decide +kernel
theorem dX10_plan_29 : decode cX10_plan 29 = .ok (.aload_n 0, 1) := by decide +kernel
theorem dX10_plan_30 : decode cX10_plan 30 = .ok (.getfield 12, 3) := by decide +kernel
theorem dX10_plan_33 : decode cX10_plan 33 = .ok (.iload_n 1, 1) := by decide +kernel
theorem dX10_plan_34 : decode cX10_plan 34 = .ok (.invokevirtual 243, 3) := by decide +kernel
theorem dX10_plan_37 : decode cX10_plan 37 = .ok (.astore 4, 2) := by decide +kernel
theorem dX10_plan_39 : decode cX10_plan 39 = .ok (.iload_n 3, 1) := by decide +kernel
theorem dX10_plan_40 : decode cX10_plan 40 = .ok (.tableswitch 133 0 6 #[44, 60, 71, 79, 87, 95, 103], 44) := by decide +kernel
theorem dX10_plan_84 : decode cX10_plan 84 = .ok (.aload 4, 2) := by decide +kernel
theorem dX10_plan_86 : decode cX10_plan 86 = .ok (.getfield 265, 3) := by decide +kernel
theorem dX10_plan_89 : decode cX10_plan 89 = .ok (.iload_n 2, 1) := by decide +kernel
theorem dX10_plan_90 : decode cX10_plan 90 = .ok (.baload, 1) := by decide +kernel
theorem dX10_plan_91 : decode cX10_plan 91 = .ok (.ifCond .eq 7, 3) := by decide +kernel
theorem dX10_plan_94 : decode cX10_plan 94 = .ok (.iconst 1, 1) := by decide +kernel
theorem dX10_plan_95 : decode cX10_plan 95 = .ok (.goto 4, 3) := by decide +kernel
theorem dX10_plan_98 : decode cX10_plan 98 = .ok (.iconst 0, 1) := by decide +kernel
theorem dX10_plan_99 : decode cX10_plan 99 = .ok (.ireturn, 1) := by decide +kernel
theorem dX10_plan_100 : decode cX10_plan 100 = .ok (.aload 4, 2) := by decide +kernel
theorem dX10_plan_102 : decode cX10_plan 102 = .ok (.getfield 269, 3) := by decide +kernel
theorem dX10_plan_105 : decode cX10_plan 105 = .ok (.iload_n 2, 1) := by decide +kernel
theorem dX10_plan_106 : decode cX10_plan 106 = .ok (.laload, 1) := by decide +kernel
theorem dX10_plan_107 : decode cX10_plan 107 = .ok (.invokestatic 273, 3) := by decide +kernel
theorem dX10_plan_110 : decode cX10_plan 110 = .ok (.ireturn, 1) := by decide +kernel
theorem dX10_plan_111 : decode cX10_plan 111 = .ok (.aload 4, 2) := by decide +kernel
theorem dX10_plan_113 : decode cX10_plan 113 = .ok (.getfield 279, 3) := by decide +kernel
theorem dX10_plan_116 : decode cX10_plan 116 = .ok (.iload_n 2, 1) := by decide +kernel
theorem dX10_plan_117 : decode cX10_plan 117 = .ok (.iaload, 1) := by decide +kernel
theorem dX10_plan_118 : decode cX10_plan 118 = .ok (.ireturn, 1) := by decide +kernel
theorem dX10_plan_119 : decode cX10_plan 119 = .ok (.aload 4, 2) := by decide +kernel
theorem dX10_plan_121 : decode cX10_plan 121 = .ok (.getfield 282, 3) := by decide +kernel
theorem dX10_plan_124 : decode cX10_plan 124 = .ok (.iload_n 2, 1) := by decide +kernel
theorem dX10_plan_125 : decode cX10_plan 125 = .ok (.iaload, 1) := by decide +kernel
theorem dX10_plan_126 : decode cX10_plan 126 = .ok (.ireturn, 1) := by decide +kernel
theorem dX10_plan_127 : decode cX10_plan 127 = .ok (.aload 4, 2) := by decide +kernel
theorem dX10_plan_129 : decode cX10_plan 129 = .ok (.getfield 285, 3) := by decide +kernel
theorem dX10_plan_132 : decode cX10_plan 132 = .ok (.iload_n 2, 1) := by decide +kernel
theorem dX10_plan_133 : decode cX10_plan 133 = .ok (.iaload, 1) := by decide +kernel
theorem dX10_plan_134 : decode cX10_plan 134 = .ok (.ireturn, 1) := by decide +kernel
theorem dX10_plan_135 : decode cX10_plan 135 = .ok (.aload 4, 2) := by decide +kernel
theorem dX10_plan_137 : decode cX10_plan 137 = .ok (.getfield 288, 3) := by decide +kernel
theorem dX10_plan_140 : decode cX10_plan 140 = .ok (.iload_n 2, 1) := by decide +kernel
theorem dX10_plan_141 : decode cX10_plan 141 = .ok (.iaload, 1) := by decide +kernel
theorem dX10_plan_142 : decode cX10_plan 142 = .ok (.ireturn, 1) := by decide +kernel
theorem dX10_plan_143 : decode cX10_plan 143 = .ok (.aload 4, 2) := by decide +kernel
theorem dX10_plan_145 : decode cX10_plan 145 = .ok (.getfield 265, 3) := by decide +kernel
theorem dX10_plan_148 : decode cX10_plan 148 = .ok (.iload_n 2, 1) := by decide +kernel
theorem dX10_plan_149 : decode cX10_plan 149 = .ok (.baload, 1) := by decide +kernel
theorem dX10_plan_150 : decode cX10_plan 150 = .ok (.ifCond .eq 7, 3) := by decide +kernel
theorem dX10_plan_153 : decode cX10_plan 153 = .ok (.iconst 0, 1) := by decide +kernel
theorem dX10_plan_154 : decode cX10_plan 154 = .ok (.goto 18, 3) := by decide +kernel
theorem dX10_plan_157 : decode cX10_plan 157 = .ok (.aload_n 0, 1) := by decide +kernel
theorem dX10_plan_158 : decode cX10_plan 158 = .ok (.getfield 43, 3) := by decide +kernel
theorem dX10_plan_161 : decode cX10_plan 161 = .ok (.aload_n 0, 1) := by decide +kernel
theorem dX10_plan_162 : decode cX10_plan 162 = .ok (.getfield 12, 3) := by decide +kernel
theorem dX10_plan_165 : decode cX10_plan 165 = .ok (.iload_n 1, 1) := by decide +kernel
theorem dX10_plan_166 : decode cX10_plan 166 = .ok (.iload_n 2, 1) := by decide +kernel
theorem dX10_plan_167 : decode cX10_plan 167 = .ok (.aload 4, 2) := by decide +kernel
theorem dX10_plan_169 : decode cX10_plan 169 = .ok (.invokevirtual 291, 3) := by decide +kernel
theorem dX10_plan_172 : decode cX10_plan 172 = .ok (.ireturn, 1) := by decide +kernel
theorem dX10_plan_173 : decode cX10_plan 173 = .ok (.aload_n 0, 1) := by decide +kernel
theorem dX10_plan_174 : decode cX10_plan 174 = .ok (.bipush (-52), 2) := by decide +kernel
theorem dX10_plan_176 : decode cX10_plan 176 = .ok (.invokevirtual 88, 3) := by decide +kernel
theorem dX10_plan_179 : decode cX10_plan 179 = .ok (.ireturn, 1) := by decide +kernel
theorem dX10_sits_0 : decode cX10_sits 0 = .ok (.aload_n 0, 1) := by decide +kernel
theorem dX10_sits_1 : decode cX10_sits 1 = .ok (.getfield 12, 3) := by decide +kernel
theorem dX10_sits_4 : decode cX10_sits 4 = .ok (.iload_n 1, 1) := by decide +kernel
theorem dX10_sits_5 : decode cX10_sits 5 = .ok (.invokevirtual 122, 3) := by decide +kernel
theorem dX10_sits_8 : decode cX10_sits 8 = .ok (.ifCond .eq 10, 3) := by decide +kernel
theorem dX10_sits_11 : decode cX10_sits 11 = .ok (.iload_n 2, 1) := by decide +kernel
theorem dX10_sits_12 : decode cX10_sits 12 = .ok (.invokestatic 150, 3) := by decide +kernel
theorem dX10_sits_15 : decode cX10_sits 15 = .ok (.ifCond .ne 10, 3) := by decide +kernel
theorem dX10_sits_18 : decode cX10_sits 18 = .ok (.aload_n 0, 1) := by decide +kernel
theorem dX10_sits_19 : decode cX10_sits 19 = .ok (.bipush (-52), 2) := by decide +kernel
theorem dX10_sits_21 : decode cX10_sits 21 = .ok (.invokevirtual 88, 3) := by decide +kernel
theorem dX10_sits_24 : decode cX10_sits 24 = .ok (.ireturn, 1) := by decide +kernel
theorem dX10_sits_25 : decode cX10_sits 25 = .ok (.aload_n 0, 1) := by decide +kernel
theorem dX10_sits_26 : decode cX10_sits 26 = .ok (.getfield 50, 3) := by decide +kernel
theorem dX10_sits_29 : decode cX10_sits 29 = .ok (.aload_n 0, 1) := by decide +kernel
theorem dX10_sits_30 : decode cX10_sits 30 = .ok (.getfield 12, 3) := by decide +kernel
theorem dX10_sits_33 : decode cX10_sits 33 = .ok (.iload_n 1, 1) := by decide +kernel
theorem dX10_sits_34 : decode cX10_sits 34 = .ok (.invokevirtual 243, 3) := by decide +kernel
theorem dX10_sits_37 : decode cX10_sits 37 = .ok (.astore 5, 2) := by decide +kernel
theorem dX10_sits_39 : decode cX10_sits 39 = .ok (.iload_n 3, 1) := by decide +kernel
theorem dX10_sits_40 : decode cX10_sits 40 = .ok (.ifCond .lt 14, 3) := by decide +kernel
theorem dX10_sits_43 : decode cX10_sits 43 = .ok (.iload_n 3, 1) := by decide +kernel
theorem dX10_sits_44 : decode cX10_sits 44 = .ok (.aload 5, 2) := by decide +kernel
theorem dX10_sits_46 : decode cX10_sits 46 = .ok (.getfield 288, 3) := by decide +kernel
theorem dX10_sits_49 : decode cX10_sits 49 = .ok (.iload_n 2, 1) := by decide +kernel
theorem dX10_sits_50 : decode cX10_sits 50 = .ok (.iaload, 1) := by decide +kernel
theorem dX10_sits_51 : decode cX10_sits 51 = .ok (.if_icmp .lt 10, 3) := by decide +kernel
theorem dX10_sits_54 : decode cX10_sits 54 = .ok (.aload_n 0, 1) := by decide +kernel
theorem dX10_sits_55 : decode cX10_sits 55 = .ok (.bipush (-52), 2) := by decide +kernel
theorem dX10_sits_57 : decode cX10_sits 57 = .ok (.invokevirtual 88, 3) := by decide +kernel
theorem dX10_sits_60 : decode cX10_sits 60 = .ok (.ireturn, 1) := by decide +kernel
theorem dX10_sits_61 : decode cX10_sits 61 = .ok (.iload_n 2, 1) := by decide +kernel
theorem dX10_sits_62 : decode cX10_sits 62 = .ok (.iconst 4, 1) := by decide +kernel
theorem dX10_sits_63 : decode cX10_sits 63 = .ok (.imul, 1) := by decide +kernel
theorem dX10_sits_64 : decode cX10_sits 64 = .ok (.iload_n 3, 1) := by decide +kernel
theorem dX10_sits_65 : decode cX10_sits 65 = .ok (.iadd, 1) := by decide +kernel
theorem dX10_sits_66 : decode cX10_sits 66 = .ok (.istore 6, 2) := by decide +kernel
theorem dX10_sits_68 : decode cX10_sits 68 = .ok (.iload 4, 2) := by decide +kernel
theorem dX10_sits_70 : decode cX10_sits 70 = .ok (.tableswitch 53 0 2 #[26, 35, 44], 26) := by decide +kernel
theorem dX10_sits_96 : decode cX10_sits 96 = .ok (.aload 5, 2) := by decide +kernel
theorem dX10_sits_98 : decode cX10_sits 98 = .ok (.getfield 295, 3) := by decide +kernel
theorem dX10_sits_101 : decode cX10_sits 101 = .ok (.iload 6, 2) := by decide +kernel
theorem dX10_sits_103 : decode cX10_sits 103 = .ok (.iaload, 1) := by decide +kernel
theorem dX10_sits_104 : decode cX10_sits 104 = .ok (.ireturn, 1) := by decide +kernel
theorem dX10_sits_105 : decode cX10_sits 105 = .ok (.aload 5, 2) := by decide +kernel
theorem dX10_sits_107 : decode cX10_sits 107 = .ok (.getfield 298, 3) := by decide +kernel
theorem dX10_sits_110 : decode cX10_sits 110 = .ok (.iload 6, 2) := by decide +kernel
theorem dX10_sits_112 : decode cX10_sits 112 = .ok (.iaload, 1) := by decide +kernel
theorem dX10_sits_113 : decode cX10_sits 113 = .ok (.ireturn, 1) := by decide +kernel
theorem dX10_sits_114 : decode cX10_sits 114 = .ok (.aload 5, 2) := by decide +kernel
theorem dX10_sits_116 : decode cX10_sits 116 = .ok (.getfield 301, 3) := by decide +kernel
theorem dX10_sits_119 : decode cX10_sits 119 = .ok (.iload 6, 2) := by decide +kernel
theorem dX10_sits_121 : decode cX10_sits 121 = .ok (.iaload, 1) := by decide +kernel
theorem dX10_sits_122 : decode cX10_sits 122 = .ok (.ireturn, 1) := by decide +kernel
theorem dX10_sits_123 : decode cX10_sits 123 = .ok (.aload_n 0, 1) := by decide +kernel
theorem dX10_sits_124 : decode cX10_sits 124 = .ok (.bipush (-52), 2) := by decide +kernel
theorem dX10_sits_126 : decode cX10_sits 126 = .ok (.invokevirtual 88, 3) := by decide +kernel
theorem dX10_sits_129 : decode cX10_sits 129 = .ok (.ireturn, 1) := by decide +kernel
theorem dX10_does_0 : decode cX10_does 0 = .ok (.aload_n 0, 1) := by decide +kernel
theorem dX10_does_1 : decode cX10_does 1 = .ok (.getfield 12, 3) := by decide +kernel
theorem dX10_does_4 : decode cX10_does 4 = .ok (.iload_n 1, 1) := by decide +kernel
theorem dX10_does_5 : decode cX10_does 5 = .ok (.invokevirtual 122, 3) := by decide +kernel
theorem dX10_does_8 : decode cX10_does 8 = .ok (.ifCond .eq 17, 3) := by decide +kernel
theorem dX10_does_11 : decode cX10_does 11 = .ok (.iload_n 2, 1) := by decide +kernel
theorem dX10_does_12 : decode cX10_does 12 = .ok (.invokestatic 150, 3) := by decide +kernel
theorem dX10_does_15 : decode cX10_does 15 = .ok (.ifCond .eq 10, 3) := by decide +kernel
theorem dX10_does_18 : decode cX10_does 18 = .ok (.iload_n 3, 1) := by decide +kernel
theorem dX10_does_19 : decode cX10_does 19 = .ok (.invokestatic 153, 3) := by decide +kernel
theorem dX10_does_22 : decode cX10_does 22 = .ok (.ifCond .ne 10, 3) := by decide +kernel
theorem dX10_does_25 : decode cX10_does 25 = .ok (.aload_n 0, 1) := by decide +kernel
theorem dX10_does_26 : decode cX10_does 26 = .ok (.bipush (-52), 2) := by decide +kernel
theorem dX10_does_28 : decode cX10_does 28 = .ok (.invokevirtual 88, 3) := by decide +kernel
theorem dX10_does_31 : decode cX10_does 31 = .ok (.ireturn, 1) := by decide +kernel
theorem dX10_does_32 : decode cX10_does 32 = .ok (.aload_n 0, 1) := by decide +kernel
theorem dX10_does_33 : decode cX10_does 33 = .ok (.getfield 50, 3) := by decide +kernel
theorem dX10_does_36 : decode cX10_does 36 = .ok (.aload_n 0, 1) := by decide +kernel
theorem dX10_does_37 : decode cX10_does 37 = .ok (.getfield 12, 3) := by decide +kernel
theorem dX10_does_40 : decode cX10_does 40 = .ok (.iload_n 1, 1) := by decide +kernel
theorem dX10_does_41 : decode cX10_does 41 = .ok (.invokevirtual 243, 3) := by decide +kernel
theorem dX10_does_44 : decode cX10_does 44 = .ok (.iload_n 2, 1) := by decide +kernel
theorem dX10_does_45 : decode cX10_does 45 = .ok (.iload_n 3, 1) := by decide +kernel
theorem dX10_does_46 : decode cX10_does 46 = .ok (.invokevirtual 304, 3) := by decide +kernel
theorem dX10_does_49 : decode cX10_does 49 = .ok (.ireturn, 1) := by decide +kernel
theorem dX10_measure_0 : decode cX10_measure 0 = .ok (.aload_n 0, 1) := by decide +kernel
theorem dX10_measure_1 : decode cX10_measure 1 = .ok (.getfield 12, 3) := by decide +kernel
theorem dX10_measure_4 : decode cX10_measure 4 = .ok (.iload_n 1, 1) := by decide +kernel
theorem dX10_measure_5 : decode cX10_measure 5 = .ok (.invokevirtual 122, 3) := by decide +kernel
theorem dX10_measure_8 : decode cX10_measure 8 = .ok (.ifCond .eq 17, 3) := by decide +kernel
theorem dX10_measure_11 : decode cX10_measure 11 = .ok (.iload_n 2, 1) := by decide +kernel
theorem dX10_measure_12 : decode cX10_measure 12 = .ok (.invokestatic 150, 3) := by decide +kernel
theorem dX10_measure_15 : decode cX10_measure 15 = .ok (.ifCond .eq 10, 3) := by decide +kernel
theorem dX10_measure_18 : decode cX10_measure 18 = .ok (.iload_n 3, 1) := by decide +kernel
theorem dX10_measure_19 : decode cX10_measure 19 = .ok (.invokestatic 307, 3) := by decide +kernel
theorem dX10_measure_22 : decode cX10_measure 22 = .ok (.ifCond .ne 10, 3) := by decide +kernel
theorem dX10_measure_25 : decode cX10_measure 25 = .ok (.aload_n 0, 1) := by decide +kernel
theorem dX10_measure_26 : decode cX10_measure 26 = .ok (.bipush (-52), 2) := by decide +kernel
theorem dX10_measure_28 : decode cX10_measure 28 = .ok (.invokevirtual 88, 3) := by decide +kernel
theorem dX10_measure_31 : decode cX10_measure 31 = .ok (.ireturn, 1) := by decide +kernel
theorem dX10_measure_32 : decode cX10_measure 32 = .ok (.aload_n 0, 1) := by decide +kernel
theorem dX10_measure_33 : decode cX10_measure 33 = .ok (.getfield 50, 3) := by decide +kernel
theorem dX10_measure_36 : decode cX10_measure 36 = .ok (.aload_n 0, 1) := by decide +kernel
theorem dX10_measure_37 : decode cX10_measure 37 = .ok (.getfield 12, 3) := by decide +kernel
theorem dX10_measure_40 : decode cX10_measure 40 = .ok (.iload_n 1, 1) := by decide +kernel
theorem dX10_measure_41 : decode cX10_measure 41 = .ok (.invokevirtual 243, 3) := by decide +kernel
theorem dX10_measure_44 : decode cX10_measure 44 = .ok (.astore 4, 2) := by decide +kernel
theorem dX10_measure_46 : decode cX10_measure 46 = .ok (.aload 4, 2) := by decide +kernel
theorem dX10_measure_48 : decode cX10_measure 48 = .ok (.getfield 265, 3) := by decide +kernel
theorem dX10_measure_51 : decode cX10_measure 51 = .ok (.iload_n 2, 1) := by decide +kernel
theorem dX10_measure_52 : decode cX10_measure 52 = .ok (.baload, 1) := by decide +kernel
theorem dX10_measure_53 : decode cX10_measure 53 = .ok (.ifCond .eq 24, 3) := by decide +kernel
theorem dX10_measure_56 : decode cX10_measure 56 = .ok (.aload 4, 2) := by decide +kernel
theorem dX10_measure_58 : decode cX10_measure 58 = .ok (.getfield 279, 3) := by decide +kernel
theorem dX10_measure_61 : decode cX10_measure 61 = .ok (.iload_n 2, 1) := by decide +kernel
theorem dX10_measure_62 : decode cX10_measure 62 = .ok (.iaload, 1) := by decide +kernel
theorem dX10_measure_63 : decode cX10_measure 63 = .ok (.iconst (-1), 1) := by decide +kernel
theorem dX10_measure_64 : decode cX10_measure 64 = .ok (.if_icmp .ne 13, 3) := by decide +kernel
theorem dX10_measure_67 : decode cX10_measure 67 = .ok (.aload 4, 2) := by decide +kernel
theorem dX10_measure_69 : decode cX10_measure 69 = .ok (.getfield 288, 3) := by decide +kernel
theorem dX10_measure_72 : decode cX10_measure 72 = .ok (.iload_n 2, 1) := by decide +kernel
theorem dX10_measure_73 : decode cX10_measure 73 = .ok (.iaload, 1) := by decide +kernel
theorem dX10_measure_74 : decode cX10_measure 74 = .ok (.ifCond .ne 10, 3) := by decide +kernel
theorem dX10_measure_77 : decode cX10_measure 77 = .ok (.aload_n 0, 1) := by decide +kernel
theorem dX10_measure_78 : decode cX10_measure 78 = .ok (.bipush (-55), 2) := by decide +kernel
theorem dX10_measure_80 : decode cX10_measure 80 = .ok (.invokevirtual 88, 3) := by decide +kernel
theorem dX10_measure_83 : decode cX10_measure 83 = .ok (.ireturn, 1) := by decide +kernel
theorem dX10_measure_84 : decode cX10_measure 84 = .ok (.aload 4, 2) := by decide +kernel
theorem dX10_measure_86 : decode cX10_measure 86 = .ok (.aload_n 0, 1) := by decide +kernel
theorem dX10_measure_87 : decode cX10_measure 87 = .ok (.getfield 12, 3) := by decide +kernel
theorem dX10_measure_90 : decode cX10_measure 90 = .ok (.iload_n 2, 1) := by decide +kernel
theorem dX10_measure_91 : decode cX10_measure 91 = .ok (.iload_n 3, 1) := by decide +kernel
theorem dX10_measure_92 : decode cX10_measure 92 = .ok (.invokevirtual 310, 3) := by decide +kernel
theorem dX10_measure_95 : decode cX10_measure 95 = .ok (.ireturn, 1) := by decide +kernel
theorem dX10_best_0 : decode cX10_best 0 = .ok (.aload_n 0, 1) := by decide +kernel
theorem dX10_best_1 : decode cX10_best 1 = .ok (.getfield 12, 3) := by decide +kernel
theorem dX10_best_4 : decode cX10_best 4 = .ok (.iload_n 1, 1) := by decide +kernel
theorem dX10_best_5 : decode cX10_best 5 = .ok (.invokevirtual 122, 3) := by decide +kernel
theorem dX10_best_8 : decode cX10_best 8 = .ok (.ifCond .eq 17, 3) := by decide +kernel
theorem dX10_best_11 : decode cX10_best 11 = .ok (.iload_n 2, 1) := by decide +kernel
theorem dX10_best_12 : decode cX10_best 12 = .ok (.invokestatic 150, 3) := by decide +kernel
theorem dX10_best_15 : decode cX10_best 15 = .ok (.ifCond .eq 10, 3) := by decide +kernel
theorem dX10_best_18 : decode cX10_best 18 = .ok (.iload_n 3, 1) := by decide +kernel
theorem dX10_best_19 : decode cX10_best 19 = .ok (.invokestatic 307, 3) := by decide +kernel
theorem dX10_best_22 : decode cX10_best 22 = .ok (.ifCond .ne 10, 3) := by decide +kernel
theorem dX10_best_25 : decode cX10_best 25 = .ok (.aload_n 0, 1) := by decide +kernel
theorem dX10_best_26 : decode cX10_best 26 = .ok (.bipush (-52), 2) := by decide +kernel
theorem dX10_best_28 : decode cX10_best 28 = .ok (.invokevirtual 88, 3) := by decide +kernel
theorem dX10_best_31 : decode cX10_best 31 = .ok (.ireturn, 1) := by decide +kernel
theorem dX10_best_32 : decode cX10_best 32 = .ok (.aload_n 0, 1) := by decide +kernel
theorem dX10_best_33 : decode cX10_best 33 = .ok (.getfield 43, 3) := by decide +kernel
theorem dX10_best_36 : decode cX10_best 36 = .ok (.aload_n 0, 1) := by decide +kernel
theorem dX10_best_37 : decode cX10_best 37 = .ok (.getfield 12, 3) := by decide +kernel
theorem dX10_best_40 : decode cX10_best 40 = .ok (.iload_n 1, 1) := by decide +kernel
theorem dX10_best_41 : decode cX10_best 41 = .ok (.iload_n 2, 1) := by decide +kernel
theorem dX10_best_42 : decode cX10_best 42 = .ok (.aload_n 0, 1) := by decide +kernel
theorem dX10_best_43 : decode cX10_best 43 = .ok (.getfield 50, 3) := by decide +kernel
theorem dX10_best_46 : decode cX10_best 46 = .ok (.aload_n 0, 1) := by decide +kernel
theorem dX10_best_47 : decode cX10_best 47 = .ok (.getfield 12, 3) := by decide +kernel
theorem dX10_best_50 : decode cX10_best 50 = .ok (.iload_n 1, 1) := by decide +kernel
theorem dX10_best_51 : decode cX10_best 51 = .ok (.invokevirtual 243, 3) := by decide +kernel
theorem dX10_best_54 : decode cX10_best 54 = .ok (.invokevirtual 314, 3) := by decide +kernel
theorem dX10_best_57 : decode cX10_best 57 = .ok (.astore 5, 2) := by decide +kernel
theorem dX10_best_59 : decode cX10_best 59 = .ok (.aload 5, 2) := by decide +kernel
theorem dX10_best_61 : decode cX10_best 61 = .ok (.invokevirtual 318, 3) := by decide +kernel
theorem dX10_best_64 : decode cX10_best 64 = .ok (.ifCond .eq 13, 3) := by decide +kernel
theorem dX10_best_67 : decode cX10_best 67 = .ok (.aload 5, 2) := by decide +kernel
theorem dX10_best_69 : decode cX10_best 69 = .ok (.iload_n 3, 1) := by decide +kernel
theorem dX10_best_70 : decode cX10_best 70 = .ok (.lconst 0, 1) := by decide +kernel
theorem dX10_best_71 : decode cX10_best 71 = .ok (.invokevirtual 322, 3) := by decide +kernel
theorem dX10_best_74 : decode cX10_best 74 = .ok (.ifCond .ne 5, 3) := by decide +kernel
theorem dX10_best_77 : decode cX10_best 77 = .ok (.iconst (-1), 1) := by decide +kernel
theorem dX10_best_78 : decode cX10_best 78 = .ok (.ireturn, 1) := by decide +kernel
theorem dX10_best_79 : decode cX10_best 79 = .ok (.iload 4, 2) := by decide +kernel
theorem dX10_best_81 : decode cX10_best 81 = .ok (.iconst (-1), 1) := by decide +kernel
theorem dX10_best_82 : decode cX10_best 82 = .ok (.if_icmp .ne 9, 3) := by decide +kernel
theorem dX10_best_85 : decode cX10_best 85 = .ok (.aload 5, 2) := by decide +kernel
theorem dX10_best_87 : decode cX10_best 87 = .ok (.invokevirtual 326, 3) := by decide +kernel
theorem dX10_best_90 : decode cX10_best 90 = .ok (.ireturn, 1) := by decide +kernel
theorem dX10_best_91 : decode cX10_best 91 = .ok (.iload 4, 2) := by decide +kernel
theorem dX10_best_93 : decode cX10_best 93 = .ok (.ifCond .lt 13, 3) := by decide +kernel
theorem dX10_best_96 : decode cX10_best 96 = .ok (.iload 4, 2) := by decide +kernel
theorem dX10_best_98 : decode cX10_best 98 = .ok (.aload 5, 2) := by decide +kernel
theorem dX10_best_100 : decode cX10_best 100 = .ok (.invokevirtual 318, 3) := by decide +kernel
theorem dX10_best_103 : decode cX10_best 103 = .ok (.if_icmp .lt 10, 3) := by decide +kernel
theorem dX10_best_106 : decode cX10_best 106 = .ok (.aload_n 0, 1) := by decide +kernel
theorem dX10_best_107 : decode cX10_best 107 = .ok (.bipush (-52), 2) := by decide +kernel
theorem dX10_best_109 : decode cX10_best 109 = .ok (.invokevirtual 88, 3) := by decide +kernel
theorem dX10_best_112 : decode cX10_best 112 = .ok (.ireturn, 1) := by decide +kernel
theorem dX10_best_113 : decode cX10_best 113 = .ok (.aload 5, 2) := by decide +kernel
theorem dX10_best_115 : decode cX10_best 115 = .ok (.iload 4, 2) := by decide +kernel
theorem dX10_best_117 : decode cX10_best 117 = .ok (.invokevirtual 329, 3) := by decide +kernel
theorem dX10_best_120 : decode cX10_best 120 = .ok (.ireturn, 1) := by decide +kernel
theorem dX10_lawful_0 : decode cX10_lawful 0 = .ok (.aload_n 0, 1) := by decide +kernel
theorem dX10_lawful_1 : decode cX10_lawful 1 = .ok (.getfield 12, 3) := by decide +kernel
theorem dX10_lawful_4 : decode cX10_lawful 4 = .ok (.iload_n 1, 1) := by decide +kernel
theorem dX10_lawful_5 : decode cX10_lawful 5 = .ok (.invokevirtual 122, 3) := by decide +kernel
theorem dX10_lawful_8 : decode cX10_lawful 8 = .ok (.ifCond .eq 10, 3) := by decide +kernel
theorem dX10_lawful_11 : decode cX10_lawful 11 = .ok (.iload_n 2, 1) := by decide +kernel
theorem dX10_lawful_12 : decode cX10_lawful 12 = .ok (.invokestatic 150, 3) := by decide +kernel
theorem dX10_lawful_15 : decode cX10_lawful 15 = .ok (.ifCond .ne 10, 3) := by decide +kernel
theorem dX10_lawful_18 : decode cX10_lawful 18 = .ok (.aload_n 0, 1) := by decide +kernel
theorem dX10_lawful_19 : decode cX10_lawful 19 = .ok (.bipush (-52), 2) := by decide +kernel
theorem dX10_lawful_21 : decode cX10_lawful 21 = .ok (.invokevirtual 88, 3) := by decide +kernel
theorem dX10_lawful_24 : decode cX10_lawful 24 = .ok (.ireturn, 1) := by decide +kernel
theorem dX10_lawful_25 : decode cX10_lawful 25 = .ok (.aload_n 0, 1) := by decide +kernel
theorem dX10_lawful_26 : decode cX10_lawful 26 = .ok (.getfield 43, 3) := by decide +kernel
theorem dX10_lawful_29 : decode cX10_lawful 29 = .ok (.aload_n 0, 1) := by decide +kernel
theorem dX10_lawful_30 : decode cX10_lawful 30 = .ok (.getfield 12, 3) := by decide +kernel
theorem dX10_lawful_33 : decode cX10_lawful 33 = .ok (.iload_n 1, 1) := by decide +kernel
theorem dX10_lawful_34 : decode cX10_lawful 34 = .ok (.iload_n 2, 1) := by decide +kernel
theorem dX10_lawful_35 : decode cX10_lawful 35 = .ok (.aload_n 0, 1) := by decide +kernel
theorem dX10_lawful_36 : decode cX10_lawful 36 = .ok (.getfield 50, 3) := by decide +kernel
theorem dX10_lawful_39 : decode cX10_lawful 39 = .ok (.aload_n 0, 1) := by decide +kernel
theorem dX10_lawful_40 : decode cX10_lawful 40 = .ok (.getfield 12, 3) := by decide +kernel
theorem dX10_lawful_43 : decode cX10_lawful 43 = .ok (.iload_n 1, 1) := by decide +kernel
theorem dX10_lawful_44 : decode cX10_lawful 44 = .ok (.invokevirtual 243, 3) := by decide +kernel
theorem dX10_lawful_47 : decode cX10_lawful 47 = .ok (.invokevirtual 314, 3) := by decide +kernel
theorem dX10_lawful_50 : decode cX10_lawful 50 = .ok (.astore_n 3, 1) := by decide +kernel
theorem dX10_lawful_51 : decode cX10_lawful 51 = .ok (.aload_n 3, 1) := by decide +kernel
theorem dX10_lawful_52 : decode cX10_lawful 52 = .ok (.iconst 0, 1) := by decide +kernel
theorem dX10_lawful_53 : decode cX10_lawful 53 = .ok (.lconst 0, 1) := by decide +kernel
theorem dX10_lawful_54 : decode cX10_lawful 54 = .ok (.invokevirtual 322, 3) := by decide +kernel
theorem dX10_lawful_57 : decode cX10_lawful 57 = .ok (.pop, 1) := by decide +kernel
theorem dX10_lawful_58 : decode cX10_lawful 58 = .ok (.aload_n 3, 1) := by decide +kernel
theorem dX10_lawful_59 : decode cX10_lawful 59 = .ok (.invokevirtual 332, 3) := by decide +kernel
theorem dX10_lawful_62 : decode cX10_lawful 62 = .ok (.ireturn, 1) := by decide +kernel
theorem dX10_watch_0 : decode cX10_watch 0 = .ok (.iload_n 1, 1) := by decide +kernel
theorem dX10_watch_1 : decode cX10_watch 1 = .ok (.ifCond .lt 8, 3) := by decide +kernel
theorem dX10_watch_4 : decode cX10_watch 4 = .ok (.iload_n 1, 1) := by decide +kernel
theorem dX10_watch_5 : decode cX10_watch 5 = .ok (.iconst 2, 1) := by decide +kernel
theorem dX10_watch_6 : decode cX10_watch 6 = .ok (.if_icmp .le 10, 3) := by decide +kernel
theorem dX10_watch_9 : decode cX10_watch 9 = .ok (.aload_n 0, 1) := by decide +kernel
theorem dX10_watch_10 : decode cX10_watch 10 = .ok (.bipush (-52), 2) := by decide +kernel
theorem dX10_watch_12 : decode cX10_watch 12 = .ok (.invokevirtual 88, 3) := by decide +kernel
theorem dX10_watch_15 : decode cX10_watch 15 = .ok (.ireturn, 1) := by decide +kernel
theorem dX10_watch_16 : decode cX10_watch 16 = .ok (.aload_n 0, 1) := by decide +kernel
theorem dX10_watch_17 : decode cX10_watch 17 = .ok (.getfield 64, 3) := by decide +kernel
theorem dX10_watch_20 : decode cX10_watch 20 = .ok (.aload_n 0, 1) := by decide +kernel
theorem dX10_watch_21 : decode cX10_watch 21 = .ok (.getfield 12, 3) := by decide +kernel
theorem dX10_watch_24 : decode cX10_watch 24 = .ok (.aload_n 0, 1) := by decide +kernel
theorem dX10_watch_25 : decode cX10_watch 25 = .ok (.getfield 50, 3) := by decide +kernel
theorem dX10_watch_28 : decode cX10_watch 28 = .ok (.invokevirtual 335, 3) := by decide +kernel
theorem dX10_watch_31 : decode cX10_watch 31 = .ok (.iload_n 1, 1) := by decide +kernel
theorem dX10_watch_32 : decode cX10_watch 32 = .ok (.lookupswitch 44 #[(0, 28), (1, 36)], 28) := by decide +kernel
theorem dX10_watch_60 : decode cX10_watch 60 = .ok (.aload_n 0, 1) := by decide +kernel
theorem dX10_watch_61 : decode cX10_watch 61 = .ok (.getfield 64, 3) := by decide +kernel
theorem dX10_watch_64 : decode cX10_watch 64 = .ok (.invokevirtual 339, 3) := by decide +kernel
theorem dX10_watch_67 : decode cX10_watch 67 = .ok (.ireturn, 1) := by decide +kernel
theorem dX10_watch_68 : decode cX10_watch 68 = .ok (.aload_n 0, 1) := by decide +kernel
theorem dX10_watch_69 : decode cX10_watch 69 = .ok (.getfield 64, 3) := by decide +kernel
theorem dX10_watch_72 : decode cX10_watch 72 = .ok (.invokevirtual 340, 3) := by decide +kernel
theorem dX10_watch_75 : decode cX10_watch 75 = .ok (.ireturn, 1) := by decide +kernel
theorem dX10_watch_76 : decode cX10_watch 76 = .ok (.aload_n 0, 1) := by decide +kernel
theorem dX10_watch_77 : decode cX10_watch 77 = .ok (.getfield 64, 3) := by decide +kernel
theorem dX10_watch_80 : decode cX10_watch 80 = .ok (.invokevirtual 343, 3) := by decide +kernel
theorem dX10_watch_83 : decode cX10_watch 83 = .ok (.ireturn, 1) := by decide +kernel
theorem dX10_duty_0 : decode cX10_duty 0 = .ok (.aload_n 0, 1) := by decide +kernel
theorem dX10_duty_1 : decode cX10_duty 1 = .ok (.getfield 64, 3) := by decide +kernel
theorem dX10_duty_4 : decode cX10_duty 4 = .ok (.aload_n 0, 1) := by decide +kernel
theorem dX10_duty_5 : decode cX10_duty 5 = .ok (.getfield 12, 3) := by decide +kernel
theorem dX10_duty_8 : decode cX10_duty 8 = .ok (.aload_n 0, 1) := by decide +kernel
theorem dX10_duty_9 : decode cX10_duty 9 = .ok (.getfield 50, 3) := by decide +kernel
theorem dX10_duty_12 : decode cX10_duty 12 = .ok (.invokevirtual 335, 3) := by decide +kernel
theorem dX10_duty_15 : decode cX10_duty 15 = .ok (.iload_n 1, 1) := by decide +kernel
theorem dX10_duty_16 : decode cX10_duty 16 = .ok (.ifCond .lt 23, 3) := by decide +kernel
theorem dX10_duty_19 : decode cX10_duty 19 = .ok (.iload_n 1, 1) := by decide +kernel
theorem dX10_duty_20 : decode cX10_duty 20 = .ok (.aload_n 0, 1) := by decide +kernel
theorem dX10_duty_21 : decode cX10_duty 21 = .ok (.getfield 64, 3) := by decide +kernel
theorem dX10_duty_24 : decode cX10_duty 24 = .ok (.invokevirtual 339, 3) := by decide +kernel
theorem dX10_duty_27 : decode cX10_duty 27 = .ok (.if_icmp .ge 12, 3) := by decide +kernel
theorem dX10_duty_30 : decode cX10_duty 30 = .ok (.iload_n 2, 1) := by decide +kernel
theorem dX10_duty_31 : decode cX10_duty 31 = .ok (.ifCond .lt 8, 3) := by decide +kernel
theorem dX10_duty_34 : decode cX10_duty 34 = .ok (.iload_n 2, 1) := by decide +kernel
theorem dX10_duty_35 : decode cX10_duty 35 = .ok (.iconst 4, 1) := by decide +kernel
theorem dX10_duty_36 : decode cX10_duty 36 = .ok (.if_icmp .le 10, 3) := by decide +kernel
theorem dX10_duty_39 : decode cX10_duty 39 = .ok (.aload_n 0, 1) := by decide +kernel
theorem dX10_duty_40 : decode cX10_duty 40 = .ok (.bipush (-52), 2) := by decide +kernel
theorem dX10_duty_42 : decode cX10_duty 42 = .ok (.invokevirtual 88, 3) := by decide +kernel
theorem dX10_duty_45 : decode cX10_duty 45 = .ok (.ireturn, 1) := by decide +kernel
theorem dX10_duty_46 : decode cX10_duty 46 = .ok (.aload_n 0, 1) := by decide +kernel
theorem dX10_duty_47 : decode cX10_duty 47 = .ok (.getfield 64, 3) := by decide +kernel
theorem dX10_duty_50 : decode cX10_duty 50 = .ok (.iload_n 1, 1) := by decide +kernel
theorem dX10_duty_51 : decode cX10_duty 51 = .ok (.iload_n 2, 1) := by decide +kernel
theorem dX10_duty_52 : decode cX10_duty 52 = .ok (.invokevirtual 346, 3) := by decide +kernel
theorem dX10_duty_55 : decode cX10_duty 55 = .ok (.ireturn, 1) := by decide +kernel
theorem dX10_pieces_0 : decode cX10_pieces 0 = .ok (.aload_n 0, 1) := by decide +kernel
theorem dX10_pieces_1 : decode cX10_pieces 1 = .ok (.getfield 12, 3) := by decide +kernel
theorem dX10_pieces_4 : decode cX10_pieces 4 = .ok (.iload_n 1, 1) := by decide +kernel
theorem dX10_pieces_5 : decode cX10_pieces 5 = .ok (.invokevirtual 122, 3) := by decide +kernel
theorem dX10_pieces_8 : decode cX10_pieces 8 = .ok (.ifCond .eq 19, 3) := by decide +kernel
theorem dX10_pieces_11 : decode cX10_pieces 11 = .ok (.iload_n 2, 1) := by decide +kernel
theorem dX10_pieces_12 : decode cX10_pieces 12 = .ok (.invokestatic 150, 3) := by decide +kernel
theorem dX10_pieces_15 : decode cX10_pieces 15 = .ok (.ifCond .eq 12, 3) := by decide +kernel
theorem dX10_pieces_18 : decode cX10_pieces 18 = .ok (.iload_n 3, 1) := by decide +kernel
theorem dX10_pieces_19 : decode cX10_pieces 19 = .ok (.ifCond .lt 8, 3) := by decide +kernel
theorem dX10_pieces_22 : decode cX10_pieces 22 = .ok (.iload_n 3, 1) := by decide +kernel
theorem dX10_pieces_23 : decode cX10_pieces 23 = .ok (.iconst 1, 1) := by decide +kernel
theorem dX10_pieces_24 : decode cX10_pieces 24 = .ok (.if_icmp .le 10, 3) := by decide +kernel
theorem dX10_pieces_27 : decode cX10_pieces 27 = .ok (.aload_n 0, 1) := by decide +kernel
theorem dX10_pieces_28 : decode cX10_pieces 28 = .ok (.bipush (-52), 2) := by decide +kernel
theorem dX10_pieces_30 : decode cX10_pieces 30 = .ok (.invokevirtual 88, 3) := by decide +kernel
theorem dX10_pieces_33 : decode cX10_pieces 33 = .ok (.ireturn, 1) := by decide +kernel
theorem dX10_pieces_34 : decode cX10_pieces 34 = .ok (.aload_n 0, 1) := by decide +kernel
theorem dX10_pieces_35 : decode cX10_pieces 35 = .ok (.getfield 71, 3) := by decide +kernel
theorem dX10_pieces_38 : decode cX10_pieces 38 = .ok (.aload_n 0, 1) := by decide +kernel
theorem dX10_pieces_39 : decode cX10_pieces 39 = .ok (.getfield 12, 3) := by decide +kernel
theorem dX10_pieces_42 : decode cX10_pieces 42 = .ok (.aload_n 0, 1) := by decide +kernel
theorem dX10_pieces_43 : decode cX10_pieces 43 = .ok (.getfield 50, 3) := by decide +kernel
theorem dX10_pieces_46 : decode cX10_pieces 46 = .ok (.iload_n 2, 1) := by decide +kernel
theorem dX10_pieces_47 : decode cX10_pieces 47 = .ok (.invokevirtual 349, 3) := by decide +kernel
theorem dX10_pieces_50 : decode cX10_pieces 50 = .ok (.iload_n 3, 1) := by decide +kernel
theorem dX10_pieces_51 : decode cX10_pieces 51 = .ok (.ifCond .ne 14, 3) := by decide +kernel
theorem dX10_pieces_54 : decode cX10_pieces 54 = .ok (.aload_n 0, 1) := by decide +kernel
theorem dX10_pieces_55 : decode cX10_pieces 55 = .ok (.getfield 71, 3) := by decide +kernel
theorem dX10_pieces_58 : decode cX10_pieces 58 = .ok (.iload_n 1, 1) := by decide +kernel
theorem dX10_pieces_59 : decode cX10_pieces 59 = .ok (.invokevirtual 353, 3) := by decide +kernel
theorem dX10_pieces_62 : decode cX10_pieces 62 = .ok (.goto 11, 3) := by decide +kernel
theorem dX10_pieces_65 : decode cX10_pieces 65 = .ok (.aload_n 0, 1) := by decide +kernel
theorem dX10_pieces_66 : decode cX10_pieces 66 = .ok (.getfield 71, 3) := by decide +kernel
theorem dX10_pieces_69 : decode cX10_pieces 69 = .ok (.iload_n 1, 1) := by decide +kernel
theorem dX10_pieces_70 : decode cX10_pieces 70 = .ok (.invokevirtual 356, 3) := by decide +kernel
theorem dX10_pieces_73 : decode cX10_pieces 73 = .ok (.ireturn, 1) := by decide +kernel
theorem dX10_roomOf_0 : decode cX10_roomOf 0 = .ok (.aload_n 0, 1) := by decide +kernel
theorem dX10_roomOf_1 : decode cX10_roomOf 1 = .ok (.getfield 12, 3) := by decide +kernel
theorem dX10_roomOf_4 : decode cX10_roomOf 4 = .ok (.iload_n 1, 1) := by decide +kernel
theorem dX10_roomOf_5 : decode cX10_roomOf 5 = .ok (.invokevirtual 122, 3) := by decide +kernel
theorem dX10_roomOf_8 : decode cX10_roomOf 8 = .ok (.ifCond .eq 10, 3) := by decide +kernel
theorem dX10_roomOf_11 : decode cX10_roomOf 11 = .ok (.iload_n 2, 1) := by decide +kernel
theorem dX10_roomOf_12 : decode cX10_roomOf 12 = .ok (.invokestatic 150, 3) := by decide +kernel
theorem dX10_roomOf_15 : decode cX10_roomOf 15 = .ok (.ifCond .ne 10, 3) := by decide +kernel
theorem dX10_roomOf_18 : decode cX10_roomOf 18 = .ok (.aload_n 0, 1) := by decide +kernel
theorem dX10_roomOf_19 : decode cX10_roomOf 19 = .ok (.bipush (-52), 2) := by decide +kernel
theorem dX10_roomOf_21 : decode cX10_roomOf 21 = .ok (.invokevirtual 88, 3) := by decide +kernel
theorem dX10_roomOf_24 : decode cX10_roomOf 24 = .ok (.ireturn, 1) := by decide +kernel
theorem dX10_roomOf_25 : decode cX10_roomOf 25 = .ok (.aload_n 0, 1) := by decide +kernel
theorem dX10_roomOf_26 : decode cX10_roomOf 26 = .ok (.getfield 71, 3) := by decide +kernel
theorem dX10_roomOf_29 : decode cX10_roomOf 29 = .ok (.aload_n 0, 1) := by decide +kernel
theorem dX10_roomOf_30 : decode cX10_roomOf 30 = .ok (.getfield 12, 3) := by decide +kernel
theorem dX10_roomOf_33 : decode cX10_roomOf 33 = .ok (.aload_n 0, 1) := by decide +kernel
theorem dX10_roomOf_34 : decode cX10_roomOf 34 = .ok (.getfield 50, 3) := by decide +kernel
theorem dX10_roomOf_37 : decode cX10_roomOf 37 = .ok (.iload_n 2, 1) := by decide +kernel
theorem dX10_roomOf_38 : decode cX10_roomOf 38 = .ok (.invokevirtual 349, 3) := by decide +kernel
theorem dX10_roomOf_41 : decode cX10_roomOf 41 = .ok (.iload_n 3, 1) := by decide +kernel
theorem dX10_roomOf_42 : decode cX10_roomOf 42 = .ok (.ifCond .lt 15, 3) := by decide +kernel
theorem dX10_roomOf_45 : decode cX10_roomOf 45 = .ok (.iload_n 3, 1) := by decide +kernel
theorem dX10_roomOf_46 : decode cX10_roomOf 46 = .ok (.aload_n 0, 1) := by decide +kernel
theorem dX10_roomOf_47 : decode cX10_roomOf 47 = .ok (.getfield 71, 3) := by decide +kernel
theorem dX10_roomOf_50 : decode cX10_roomOf 50 = .ok (.iload_n 1, 1) := by decide +kernel
theorem dX10_roomOf_51 : decode cX10_roomOf 51 = .ok (.invokevirtual 353, 3) := by decide +kernel
theorem dX10_roomOf_54 : decode cX10_roomOf 54 = .ok (.if_icmp .lt 10, 3) := by decide +kernel
theorem dX10_roomOf_57 : decode cX10_roomOf 57 = .ok (.aload_n 0, 1) := by decide +kernel
theorem dX10_roomOf_58 : decode cX10_roomOf 58 = .ok (.bipush (-52), 2) := by decide +kernel
theorem dX10_roomOf_60 : decode cX10_roomOf 60 = .ok (.invokevirtual 88, 3) := by decide +kernel
theorem dX10_roomOf_63 : decode cX10_roomOf 63 = .ok (.ireturn, 1) := by decide +kernel
theorem dX10_roomOf_64 : decode cX10_roomOf 64 = .ok (.aload_n 0, 1) := by decide +kernel
theorem dX10_roomOf_65 : decode cX10_roomOf 65 = .ok (.getfield 71, 3) := by decide +kernel
theorem dX10_roomOf_68 : decode cX10_roomOf 68 = .ok (.iload_n 1, 1) := by decide +kernel
theorem dX10_roomOf_69 : decode cX10_roomOf 69 = .ok (.iload_n 3, 1) := by decide +kernel
theorem dX10_roomOf_70 : decode cX10_roomOf 70 = .ok (.invokevirtual 359, 3) := by decide +kernel
theorem dX10_roomOf_73 : decode cX10_roomOf 73 = .ok (.ireturn, 1) := by decide +kernel
theorem dX10_left_0 : decode cX10_left 0 = .ok (.aload_n 0, 1) := by decide +kernel
theorem dX10_left_1 : decode cX10_left 1 = .ok (.getfield 12, 3) := by decide +kernel
theorem dX10_left_4 : decode cX10_left 4 = .ok (.iload_n 1, 1) := by decide +kernel
theorem dX10_left_5 : decode cX10_left 5 = .ok (.invokevirtual 362, 3) := by decide +kernel
theorem dX10_left_8 : decode cX10_left 8 = .ok (.ifCond .eq 17, 3) := by decide +kernel
theorem dX10_left_11 : decode cX10_left 11 = .ok (.iload_n 2, 1) := by decide +kernel
theorem dX10_left_12 : decode cX10_left 12 = .ok (.invokestatic 150, 3) := by decide +kernel
theorem dX10_left_15 : decode cX10_left 15 = .ok (.ifCond .eq 10, 3) := by decide +kernel
theorem dX10_left_18 : decode cX10_left 18 = .ok (.iload_n 3, 1) := by decide +kernel
theorem dX10_left_19 : decode cX10_left 19 = .ok (.invokestatic 153, 3) := by decide +kernel
theorem dX10_left_22 : decode cX10_left 22 = .ok (.ifCond .ne 10, 3) := by decide +kernel
theorem dX10_left_25 : decode cX10_left 25 = .ok (.aload_n 0, 1) := by decide +kernel
theorem dX10_left_26 : decode cX10_left 26 = .ok (.bipush (-52), 2) := by decide +kernel
theorem dX10_left_28 : decode cX10_left 28 = .ok (.invokevirtual 88, 3) := by decide +kernel
theorem dX10_left_31 : decode cX10_left 31 = .ok (.ireturn, 1) := by decide +kernel
theorem dX10_left_32 : decode cX10_left 32 = .ok (.aload_n 0, 1) := by decide +kernel
theorem dX10_left_33 : decode cX10_left 33 = .ok (.getfield 71, 3) := by decide +kernel
theorem dX10_left_36 : decode cX10_left 36 = .ok (.aload_n 0, 1) := by decide +kernel
theorem dX10_left_37 : decode cX10_left 37 = .ok (.getfield 12, 3) := by decide +kernel
theorem dX10_left_40 : decode cX10_left 40 = .ok (.aload_n 0, 1) := by decide +kernel
theorem dX10_left_41 : decode cX10_left 41 = .ok (.getfield 50, 3) := by decide +kernel
theorem dX10_left_44 : decode cX10_left 44 = .ok (.iload_n 2, 1) := by decide +kernel
theorem dX10_left_45 : decode cX10_left 45 = .ok (.invokevirtual 349, 3) := by decide +kernel
theorem dX10_left_48 : decode cX10_left 48 = .ok (.aload_n 0, 1) := by decide +kernel
theorem dX10_left_49 : decode cX10_left 49 = .ok (.getfield 12, 3) := by decide +kernel
theorem dX10_left_52 : decode cX10_left 52 = .ok (.getfield 365, 3) := by decide +kernel
theorem dX10_left_55 : decode cX10_left 55 = .ok (.iload_n 1, 1) := by decide +kernel
theorem dX10_left_56 : decode cX10_left 56 = .ok (.iaload, 1) := by decide +kernel
theorem dX10_left_57 : decode cX10_left 57 = .ok (.aload_n 0, 1) := by decide +kernel
theorem dX10_left_58 : decode cX10_left 58 = .ok (.getfield 71, 3) := by decide +kernel
theorem dX10_left_61 : decode cX10_left 61 = .ok (.iload_n 1, 1) := by decide +kernel
theorem dX10_left_62 : decode cX10_left 62 = .ok (.iload_n 3, 1) := by decide +kernel
theorem dX10_left_63 : decode cX10_left 63 = .ok (.invokevirtual 368, 3) := by decide +kernel
theorem dX10_left_66 : decode cX10_left 66 = .ok (.isub, 1) := by decide +kernel
theorem dX10_left_67 : decode cX10_left 67 = .ok (.ireturn, 1) := by decide +kernel
theorem dX10_whatIf_0 : decode cX10_whatIf 0 = .ok (.aload_n 0, 1) := by decide +kernel
theorem dX10_whatIf_1 : decode cX10_whatIf 1 = .ok (.getfield 12, 3) := by decide +kernel
theorem dX10_whatIf_4 : decode cX10_whatIf 4 = .ok (.iload_n 1, 1) := by decide +kernel
theorem dX10_whatIf_5 : decode cX10_whatIf 5 = .ok (.invokevirtual 122, 3) := by decide +kernel
theorem dX10_whatIf_8 : decode cX10_whatIf 8 = .ok (.ifCond .eq 15, 3) := by decide +kernel
theorem dX10_whatIf_11 : decode cX10_whatIf 11 = .ok (.aload_n 0, 1) := by decide +kernel
theorem dX10_whatIf_12 : decode cX10_whatIf 12 = .ok (.getfield 12, 3) := by decide +kernel
theorem dX10_whatIf_15 : decode cX10_whatIf 15 = .ok (.iload_n 2, 1) := by decide +kernel
theorem dX10_whatIf_16 : decode cX10_whatIf 16 = .ok (.i2l, 1) := by decide +kernel
theorem dX10_whatIf_17 : decode cX10_whatIf 17 = .ok (.invokevirtual 164, 3) := by decide +kernel
theorem dX10_whatIf_20 : decode cX10_whatIf 20 = .ok (.ifCond .ne 10, 3) := by decide +kernel
theorem dX10_whatIf_23 : decode cX10_whatIf 23 = .ok (.aload_n 0, 1) := by decide +kernel
theorem dX10_whatIf_24 : decode cX10_whatIf 24 = .ok (.bipush (-52), 2) := by decide +kernel
theorem dX10_whatIf_26 : decode cX10_whatIf 26 = .ok (.invokevirtual 88, 3) := by decide +kernel
theorem dX10_whatIf_29 : decode cX10_whatIf 29 = .ok (.ireturn, 1) := by decide +kernel
theorem dX10_whatIf_30 : decode cX10_whatIf 30 = .ok (.aload_n 0, 1) := by decide +kernel
theorem dX10_whatIf_31 : decode cX10_whatIf 31 = .ok (.getfield 12, 3) := by decide +kernel
theorem dX10_whatIf_34 : decode cX10_whatIf 34 = .ok (.iload_n 1, 1) := by decide +kernel
theorem dX10_whatIf_35 : decode cX10_whatIf 35 = .ok (.iload_n 2, 1) := by decide +kernel
theorem dX10_whatIf_36 : decode cX10_whatIf 36 = .ok (.invokevirtual 191, 3) := by decide +kernel
theorem dX10_whatIf_39 : decode cX10_whatIf 39 = .ok (.ifCond .ne 10, 3) := by decide +kernel
theorem dX10_whatIf_42 : decode cX10_whatIf 42 = .ok (.aload_n 0, 1) := by decide +kernel
theorem dX10_whatIf_43 : decode cX10_whatIf 43 = .ok (.bipush (-55), 2) := by decide +kernel
theorem dX10_whatIf_45 : decode cX10_whatIf 45 = .ok (.invokevirtual 88, 3) := by decide +kernel
theorem dX10_whatIf_48 : decode cX10_whatIf 48 = .ok (.ireturn, 1) := by decide +kernel
theorem dX10_whatIf_49 : decode cX10_whatIf 49 = .ok (.aload_n 0, 1) := by decide +kernel
theorem dX10_whatIf_50 : decode cX10_whatIf 50 = .ok (.getfield 16, 3) := by decide +kernel
theorem dX10_whatIf_53 : decode cX10_whatIf 53 = .ok (.aload_n 0, 1) := by decide +kernel
theorem dX10_whatIf_54 : decode cX10_whatIf 54 = .ok (.getfield 12, 3) := by decide +kernel
theorem dX10_whatIf_57 : decode cX10_whatIf 57 = .ok (.invokevirtual 226, 3) := by decide +kernel
theorem dX10_whatIf_60 : decode cX10_whatIf 60 = .ok (.aload_n 0, 1) := by decide +kernel
theorem dX10_whatIf_61 : decode cX10_whatIf 61 = .ok (.iload_n 1, 1) := by decide +kernel
theorem dX10_whatIf_62 : decode cX10_whatIf 62 = .ok (.iload_n 2, 1) := by decide +kernel
theorem dX10_whatIf_63 : decode cX10_whatIf 63 = .ok (.invokevirtual 371, 3) := by decide +kernel
theorem dX10_whatIf_66 : decode cX10_whatIf 66 = .ok (.ireturn, 1) := by decide +kernel
theorem dX10_both_0 : decode cX10_both 0 = .ok (.aload_n 0, 1) := by decide +kernel
theorem dX10_both_1 : decode cX10_both 1 = .ok (.getfield 12, 3) := by decide +kernel
theorem dX10_both_4 : decode cX10_both 4 = .ok (.iload_n 1, 1) := by decide +kernel
theorem dX10_both_5 : decode cX10_both 5 = .ok (.invokevirtual 122, 3) := by decide +kernel
theorem dX10_both_8 : decode cX10_both 8 = .ok (.ifCond .eq 27, 3) := by decide +kernel
theorem dX10_both_11 : decode cX10_both 11 = .ok (.aload_n 0, 1) := by decide +kernel
theorem dX10_both_12 : decode cX10_both 12 = .ok (.getfield 12, 3) := by decide +kernel
theorem dX10_both_15 : decode cX10_both 15 = .ok (.iload_n 2, 1) := by decide +kernel
theorem dX10_both_16 : decode cX10_both 16 = .ok (.i2l, 1) := by decide +kernel
theorem dX10_both_17 : decode cX10_both 17 = .ok (.invokevirtual 164, 3) := by decide +kernel
theorem dX10_both_20 : decode cX10_both 20 = .ok (.ifCond .eq 15, 3) := by decide +kernel
theorem dX10_both_23 : decode cX10_both 23 = .ok (.aload_n 0, 1) := by decide +kernel
theorem dX10_both_24 : decode cX10_both 24 = .ok (.getfield 12, 3) := by decide +kernel
theorem dX10_both_27 : decode cX10_both 27 = .ok (.iload_n 3, 1) := by decide +kernel
theorem dX10_both_28 : decode cX10_both 28 = .ok (.i2l, 1) := by decide +kernel
theorem dX10_both_29 : decode cX10_both 29 = .ok (.invokevirtual 164, 3) := by decide +kernel
theorem dX10_both_32 : decode cX10_both 32 = .ok (.ifCond .ne 10, 3) := by decide +kernel
theorem dX10_both_35 : decode cX10_both 35 = .ok (.aload_n 0, 1) := by decide +kernel
theorem dX10_both_36 : decode cX10_both 36 = .ok (.bipush (-52), 2) := by decide +kernel
theorem dX10_both_38 : decode cX10_both 38 = .ok (.invokevirtual 88, 3) := by decide +kernel
theorem dX10_both_41 : decode cX10_both 41 = .ok (.ireturn, 1) := by decide +kernel
theorem dX10_both_42 : decode cX10_both 42 = .ok (.aload_n 0, 1) := by decide +kernel
theorem dX10_both_43 : decode cX10_both 43 = .ok (.getfield 16, 3) := by decide +kernel
theorem dX10_both_46 : decode cX10_both 46 = .ok (.aload_n 0, 1) := by decide +kernel
theorem dX10_both_47 : decode cX10_both 47 = .ok (.getfield 12, 3) := by decide +kernel
theorem dX10_both_50 : decode cX10_both 50 = .ok (.invokevirtual 226, 3) := by decide +kernel
theorem dX10_both_53 : decode cX10_both 53 = .ok (.aload_n 0, 1) := by decide +kernel
theorem dX10_both_54 : decode cX10_both 54 = .ok (.getfield 16, 3) := by decide +kernel
theorem dX10_both_57 : decode cX10_both 57 = .ok (.iload_n 1, 1) := by decide +kernel
theorem dX10_both_58 : decode cX10_both 58 = .ok (.iload_n 2, 1) := by decide +kernel
theorem dX10_both_59 : decode cX10_both 59 = .ok (.invokevirtual 191, 3) := by decide +kernel
theorem dX10_both_62 : decode cX10_both 62 = .ok (.ifCond .ne 10, 3) := by decide +kernel
theorem dX10_both_65 : decode cX10_both 65 = .ok (.aload_n 0, 1) := by decide +kernel
theorem dX10_both_66 : decode cX10_both 66 = .ok (.bipush (-55), 2) := by decide +kernel
theorem dX10_both_68 : decode cX10_both 68 = .ok (.invokevirtual 88, 3) := by decide +kernel
theorem dX10_both_71 : decode cX10_both 71 = .ok (.ireturn, 1) := by decide +kernel
theorem dX10_both_72 : decode cX10_both 72 = .ok (.aload_n 0, 1) := by decide +kernel
theorem dX10_both_73 : decode cX10_both 73 = .ok (.getfield 16, 3) := by decide +kernel
theorem dX10_both_76 : decode cX10_both 76 = .ok (.iload_n 1, 1) := by decide +kernel
theorem dX10_both_77 : decode cX10_both 77 = .ok (.iload_n 2, 1) := by decide +kernel
theorem dX10_both_78 : decode cX10_both 78 = .ok (.invokevirtual 194, 3) := by decide +kernel
theorem dX10_both_81 : decode cX10_both 81 = .ok (.aload_n 0, 1) := by decide +kernel
theorem dX10_both_82 : decode cX10_both 82 = .ok (.getfield 16, 3) := by decide +kernel
theorem dX10_both_85 : decode cX10_both 85 = .ok (.iload_n 1, 1) := by decide +kernel
theorem dX10_both_86 : decode cX10_both 86 = .ok (.iload_n 3, 1) := by decide +kernel
theorem dX10_both_87 : decode cX10_both 87 = .ok (.invokevirtual 191, 3) := by decide +kernel
theorem dX10_both_90 : decode cX10_both 90 = .ok (.ifCond .ne 10, 3) := by decide +kernel
theorem dX10_both_93 : decode cX10_both 93 = .ok (.aload_n 0, 1) := by decide +kernel
theorem dX10_both_94 : decode cX10_both 94 = .ok (.bipush (-55), 2) := by decide +kernel
theorem dX10_both_96 : decode cX10_both 96 = .ok (.invokevirtual 88, 3) := by decide +kernel
theorem dX10_both_99 : decode cX10_both 99 = .ok (.ireturn, 1) := by decide +kernel
theorem dX10_both_100 : decode cX10_both 100 = .ok (.aload_n 0, 1) := by decide +kernel
theorem dX10_both_101 : decode cX10_both 101 = .ok (.getfield 16, 3) := by decide +kernel
theorem dX10_both_104 : decode cX10_both 104 = .ok (.iload_n 1, 1) := by decide +kernel
theorem dX10_both_105 : decode cX10_both 105 = .ok (.iload_n 3, 1) := by decide +kernel
theorem dX10_both_106 : decode cX10_both 106 = .ok (.invokevirtual 194, 3) := by decide +kernel
theorem dX10_both_109 : decode cX10_both 109 = .ok (.aload_n 0, 1) := by decide +kernel
theorem dX10_both_110 : decode cX10_both 110 = .ok (.getfield 43, 3) := by decide +kernel
theorem dX10_both_113 : decode cX10_both 113 = .ok (.aload_n 0, 1) := by decide +kernel
theorem dX10_both_114 : decode cX10_both 114 = .ok (.getfield 16, 3) := by decide +kernel
theorem dX10_both_117 : decode cX10_both 117 = .ok (.iload_n 1, 1) := by decide +kernel
theorem dX10_both_118 : decode cX10_both 118 = .ok (.aload_n 0, 1) := by decide +kernel
theorem dX10_both_119 : decode cX10_both 119 = .ok (.getfield 57, 3) := by decide +kernel
theorem dX10_both_122 : decode cX10_both 122 = .ok (.invokevirtual 374, 3) := by decide +kernel
theorem dX10_both_125 : decode cX10_both 125 = .ok (.aload_n 0, 1) := by decide +kernel
theorem dX10_both_126 : decode cX10_both 126 = .ok (.getfield 57, 3) := by decide +kernel
theorem dX10_both_129 : decode cX10_both 129 = .ok (.invokevirtual 378, 3) := by decide +kernel
theorem dX10_both_132 : decode cX10_both 132 = .ok (.ireturn, 1) := by decide +kernel
theorem dX10_relief_0 : decode cX10_relief 0 = .ok (.aload_n 0, 1) := by decide +kernel
theorem dX10_relief_1 : decode cX10_relief 1 = .ok (.getfield 12, 3) := by decide +kernel
theorem dX10_relief_4 : decode cX10_relief 4 = .ok (.iload_n 1, 1) := by decide +kernel
theorem dX10_relief_5 : decode cX10_relief 5 = .ok (.invokevirtual 122, 3) := by decide +kernel
theorem dX10_relief_8 : decode cX10_relief 8 = .ok (.ifCond .ne 10, 3) := by decide +kernel
theorem dX10_relief_11 : decode cX10_relief 11 = .ok (.aload_n 0, 1) := by decide +kernel
theorem dX10_relief_12 : decode cX10_relief 12 = .ok (.bipush (-52), 2) := by decide +kernel
theorem dX10_relief_14 : decode cX10_relief 14 = .ok (.invokevirtual 88, 3) := by decide +kernel
theorem dX10_relief_17 : decode cX10_relief 17 = .ok (.ireturn, 1) := by decide +kernel
theorem dX10_relief_18 : decode cX10_relief 18 = .ok (.aload_n 0, 1) := by decide +kernel
theorem dX10_relief_19 : decode cX10_relief 19 = .ok (.getfield 16, 3) := by decide +kernel
theorem dX10_relief_22 : decode cX10_relief 22 = .ok (.aload_n 0, 1) := by decide +kernel
theorem dX10_relief_23 : decode cX10_relief 23 = .ok (.getfield 12, 3) := by decide +kernel
theorem dX10_relief_26 : decode cX10_relief 26 = .ok (.invokevirtual 226, 3) := by decide +kernel
theorem dX10_relief_29 : decode cX10_relief 29 = .ok (.iconst (-1), 1) := by decide +kernel
theorem dX10_relief_30 : decode cX10_relief 30 = .ok (.istore_n 2, 1) := by decide +kernel
theorem dX10_relief_31 : decode cX10_relief 31 = .ok (.iconst 0, 1) := by decide +kernel
theorem dX10_relief_32 : decode cX10_relief 32 = .ok (.istore_n 3, 1) := by decide +kernel
theorem dX10_relief_33 : decode cX10_relief 33 = .ok (.iconst 0, 1) := by decide +kernel
theorem dX10_relief_34 : decode cX10_relief 34 = .ok (.istore 4, 2) := by decide +kernel
theorem dX10_relief_36 : decode cX10_relief 36 = .ok (.iload 4, 2) := by decide +kernel
theorem dX10_relief_38 : decode cX10_relief 38 = .ok (.aload_n 0, 1) := by decide +kernel
theorem dX10_relief_39 : decode cX10_relief 39 = .ok (.getfield 16, 3) := by decide +kernel
theorem dX10_relief_42 : decode cX10_relief 42 = .ok (.getfield 156, 3) := by decide +kernel
theorem dX10_relief_45 : decode cX10_relief 45 = .ok (.if_icmp .ge 48, 3) := by decide +kernel
theorem dX10_relief_48 : decode cX10_relief 48 = .ok (.aload_n 0, 1) := by decide +kernel
theorem dX10_relief_49 : decode cX10_relief 49 = .ok (.getfield 16, 3) := by decide +kernel
theorem dX10_relief_52 : decode cX10_relief 52 = .ok (.iload_n 1, 1) := by decide +kernel
theorem dX10_relief_53 : decode cX10_relief 53 = .ok (.iload 4, 2) := by decide +kernel
theorem dX10_relief_55 : decode cX10_relief 55 = .ok (.invokevirtual 191, 3) := by decide +kernel
theorem dX10_relief_58 : decode cX10_relief 58 = .ok (.ifCond .eq 29, 3) := by decide +kernel
theorem dX10_relief_61 : decode cX10_relief 61 = .ok (.aload_n 0, 1) := by decide +kernel
theorem dX10_relief_62 : decode cX10_relief 62 = .ok (.iload_n 1, 1) := by decide +kernel
theorem dX10_relief_63 : decode cX10_relief 63 = .ok (.iload 4, 2) := by decide +kernel
theorem dX10_relief_65 : decode cX10_relief 65 = .ok (.invokevirtual 371, 3) := by decide +kernel
theorem dX10_relief_68 : decode cX10_relief 68 = .ok (.istore 5, 2) := by decide +kernel
theorem dX10_relief_70 : decode cX10_relief 70 = .ok (.iload_n 2, 1) := by decide +kernel
theorem dX10_relief_71 : decode cX10_relief 71 = .ok (.iconst (-1), 1) := by decide +kernel
theorem dX10_relief_72 : decode cX10_relief 72 = .ok (.if_icmp .eq 9, 3) := by decide +kernel
theorem dX10_relief_75 : decode cX10_relief 75 = .ok (.iload 5, 2) := by decide +kernel
theorem dX10_relief_77 : decode cX10_relief 77 = .ok (.iload_n 3, 1) := by decide +kernel
theorem dX10_relief_78 : decode cX10_relief 78 = .ok (.if_icmp .ge 9, 3) := by decide +kernel
theorem dX10_relief_81 : decode cX10_relief 81 = .ok (.iload 4, 2) := by decide +kernel
theorem dX10_relief_83 : decode cX10_relief 83 = .ok (.istore_n 2, 1) := by decide +kernel
theorem dX10_relief_84 : decode cX10_relief 84 = .ok (.iload 5, 2) := by decide +kernel
theorem dX10_relief_86 : decode cX10_relief 86 = .ok (.istore_n 3, 1) := by decide +kernel
theorem dX10_relief_87 : decode cX10_relief 87 = .ok (.iinc 4 1, 3) := by decide +kernel
theorem dX10_relief_90 : decode cX10_relief 90 = .ok (.goto (-54), 3) := by decide +kernel
theorem dX10_relief_93 : decode cX10_relief 93 = .ok (.iload_n 2, 1) := by decide +kernel
theorem dX10_relief_94 : decode cX10_relief 94 = .ok (.ireturn, 1) := by decide +kernel
theorem dX10_hoursFor_0 : decode cX10_hoursFor 0 = .ok (.aload_n 0, 1) := by decide +kernel
theorem dX10_hoursFor_1 : decode cX10_hoursFor 1 = .ok (.getfield 12, 3) := by decide +kernel
theorem dX10_hoursFor_4 : decode cX10_hoursFor 4 = .ok (.iload_n 1, 1) := by decide +kernel
theorem dX10_hoursFor_5 : decode cX10_hoursFor 5 = .ok (.invokevirtual 122, 3) := by decide +kernel
theorem dX10_hoursFor_8 : decode cX10_hoursFor 8 = .ok (.ifCond .ne 10, 3) := by decide +kernel
theorem dX10_hoursFor_11 : decode cX10_hoursFor 11 = .ok (.aload_n 0, 1) := by decide +kernel
theorem dX10_hoursFor_12 : decode cX10_hoursFor 12 = .ok (.bipush (-52), 2) := by decide +kernel
theorem dX10_hoursFor_14 : decode cX10_hoursFor 14 = .ok (.invokevirtual 88, 3) := by decide +kernel
theorem dX10_hoursFor_17 : decode cX10_hoursFor 17 = .ok (.ireturn, 1) := by decide +kernel
theorem dX10_hoursFor_18 : decode cX10_hoursFor 18 = .ok (.aload_n 0, 1) := by decide +kernel
theorem dX10_hoursFor_19 : decode cX10_hoursFor 19 = .ok (.getfield 16, 3) := by decide +kernel
theorem dX10_hoursFor_22 : decode cX10_hoursFor 22 = .ok (.aload_n 0, 1) := by decide +kernel
theorem dX10_hoursFor_23 : decode cX10_hoursFor 23 = .ok (.getfield 12, 3) := by decide +kernel
theorem dX10_hoursFor_26 : decode cX10_hoursFor 26 = .ok (.invokevirtual 226, 3) := by decide +kernel
theorem dX10_hoursFor_29 : decode cX10_hoursFor 29 = .ok (.bipush 8, 2) := by decide +kernel
theorem dX10_hoursFor_31 : decode cX10_hoursFor 31 = .ok (.istore_n 2, 1) := by decide +kernel
theorem dX10_hoursFor_32 : decode cX10_hoursFor 32 = .ok (.iload_n 2, 1) := by decide +kernel
theorem dX10_hoursFor_33 : decode cX10_hoursFor 33 = .ok (.bipush 40, 2) := by decide +kernel
theorem dX10_hoursFor_35 : decode cX10_hoursFor 35 = .ok (.if_icmp .gt 45, 3) := by decide +kernel
theorem dX10_hoursFor_38 : decode cX10_hoursFor 38 = .ok (.aload_n 0, 1) := by decide +kernel
theorem dX10_hoursFor_39 : decode cX10_hoursFor 39 = .ok (.getfield 16, 3) := by decide +kernel
theorem dX10_hoursFor_42 : decode cX10_hoursFor 42 = .ok (.iload_n 2, 1) := by decide +kernel
theorem dX10_hoursFor_43 : decode cX10_hoursFor 43 = .ok (.putfield 209, 3) := by decide +kernel
theorem dX10_hoursFor_46 : decode cX10_hoursFor 46 = .ok (.aload_n 0, 1) := by decide +kernel
theorem dX10_hoursFor_47 : decode cX10_hoursFor 47 = .ok (.getfield 43, 3) := by decide +kernel
theorem dX10_hoursFor_50 : decode cX10_hoursFor 50 = .ok (.aload_n 0, 1) := by decide +kernel
theorem dX10_hoursFor_51 : decode cX10_hoursFor 51 = .ok (.getfield 16, 3) := by decide +kernel
theorem dX10_hoursFor_54 : decode cX10_hoursFor 54 = .ok (.iload_n 1, 1) := by decide +kernel
theorem dX10_hoursFor_55 : decode cX10_hoursFor 55 = .ok (.aload_n 0, 1) := by decide +kernel
theorem dX10_hoursFor_56 : decode cX10_hoursFor 56 = .ok (.getfield 57, 3) := by decide +kernel
theorem dX10_hoursFor_59 : decode cX10_hoursFor 59 = .ok (.invokevirtual 374, 3) := by decide +kernel
theorem dX10_hoursFor_62 : decode cX10_hoursFor 62 = .ok (.aload_n 0, 1) := by decide +kernel
theorem dX10_hoursFor_63 : decode cX10_hoursFor 63 = .ok (.getfield 57, 3) := by decide +kernel
theorem dX10_hoursFor_66 : decode cX10_hoursFor 66 = .ok (.invokevirtual 247, 3) := by decide +kernel
theorem dX10_hoursFor_69 : decode cX10_hoursFor 69 = .ok (.ifCond .ne 5, 3) := by decide +kernel
theorem dX10_hoursFor_72 : decode cX10_hoursFor 72 = .ok (.iload_n 2, 1) := by decide +kernel
theorem dX10_hoursFor_73 : decode cX10_hoursFor 73 = .ok (.ireturn, 1) := by decide +kernel
theorem dX10_hoursFor_74 : decode cX10_hoursFor 74 = .ok (.iinc 2 1, 3) := by decide +kernel
theorem dX10_hoursFor_77 : decode cX10_hoursFor 77 = .ok (.goto (-45), 3) := by decide +kernel
theorem dX10_hoursFor_80 : decode cX10_hoursFor 80 = .ok (.iconst (-1), 1) := by decide +kernel
theorem dX10_hoursFor_81 : decode cX10_hoursFor 81 = .ok (.ireturn, 1) := by decide +kernel
theorem dX10_image_0 : decode cX10_image 0 = .ok (.aload_n 0, 1) := by decide +kernel
theorem dX10_image_1 : decode cX10_image 1 = .ok (.getfield 19, 3) := by decide +kernel
theorem dX10_image_4 : decode cX10_image 4 = .ok (.aload_n 0, 1) := by decide +kernel
theorem dX10_image_5 : decode cX10_image 5 = .ok (.getfield 12, 3) := by decide +kernel
theorem dX10_image_8 : decode cX10_image 8 = .ok (.invokevirtual 226, 3) := by decide +kernel
theorem dX10_image_11 : decode cX10_image 11 = .ok (.aload_n 0, 1) := by decide +kernel
theorem dX10_image_12 : decode cX10_image 12 = .ok (.iconst 1, 1) := by decide +kernel
theorem dX10_image_13 : decode cX10_image 13 = .ok (.putfield 400, 3) := by decide +kernel
theorem dX10_image_16 : decode cX10_image 16 = .ok (.iconst 1, 1) := by decide +kernel
theorem dX10_image_17 : decode cX10_image 17 = .ok (.ireturn, 1) := by decide +kernel
theorem dX10_back_0 : decode cX10_back 0 = .ok (.aload_n 0, 1) := by decide +kernel
theorem dX10_back_1 : decode cX10_back 1 = .ok (.getfield 400, 3) := by decide +kernel
theorem dX10_back_4 : decode cX10_back 4 = .ok (.ifCond .ne 10, 3) := by decide +kernel
theorem dX10_back_7 : decode cX10_back 7 = .ok (.aload_n 0, 1) := by decide +kernel
theorem dX10_back_8 : decode cX10_back 8 = .ok (.bipush (-55), 2) := by decide +kernel
theorem dX10_back_10 : decode cX10_back 10 = .ok (.invokevirtual 88, 3) := by decide +kernel
theorem dX10_back_13 : decode cX10_back 13 = .ok (.ireturn, 1) := by decide +kernel
theorem dX10_back_14 : decode cX10_back 14 = .ok (.aload_n 0, 1) := by decide +kernel
theorem dX10_back_15 : decode cX10_back 15 = .ok (.getfield 12, 3) := by decide +kernel
theorem dX10_back_18 : decode cX10_back 18 = .ok (.aload_n 0, 1) := by decide +kernel
theorem dX10_back_19 : decode cX10_back 19 = .ok (.getfield 19, 3) := by decide +kernel
theorem dX10_back_22 : decode cX10_back 22 = .ok (.invokevirtual 226, 3) := by decide +kernel
theorem dX10_back_25 : decode cX10_back 25 = .ok (.aload_n 0, 1) := by decide +kernel
theorem dX10_back_26 : decode cX10_back 26 = .ok (.getfield 32, 3) := by decide +kernel
theorem dX10_back_29 : decode cX10_back 29 = .ok (.aload_n 0, 1) := by decide +kernel
theorem dX10_back_30 : decode cX10_back 30 = .ok (.getfield 12, 3) := by decide +kernel
theorem dX10_back_33 : decode cX10_back 33 = .ok (.getfield 174, 3) := by decide +kernel
theorem dX10_back_36 : decode cX10_back 36 = .ok (.invokevirtual 404, 3) := by decide +kernel
theorem dX10_back_39 : decode cX10_back 39 = .ok (.aload_n 0, 1) := by decide +kernel
theorem dX10_back_40 : decode cX10_back 40 = .ok (.getfield 50, 3) := by decide +kernel
theorem dX10_back_43 : decode cX10_back 43 = .ok (.invokevirtual 171, 3) := by decide +kernel
theorem dX10_back_46 : decode cX10_back 46 = .ok (.iconst 1, 1) := by decide +kernel
theorem dX10_back_47 : decode cX10_back 47 = .ok (.ireturn, 1) := by decide +kernel
theorem dX10_status_0 : decode cX10_status 0 = .ok (.iload_n 1, 1) := by decide +kernel
theorem dX10_status_1 : decode cX10_status 1 = .ok (.bipush 12, 2) := by decide +kernel
theorem dX10_status_3 : decode cX10_status 3 = .ok (.if_icmp .lt 19, 3) := by decide +kernel
theorem dX10_status_6 : decode cX10_status 6 = .ok (.iload_n 1, 1) := by decide +kernel
theorem dX10_status_7 : decode cX10_status 7 = .ok (.bipush 17, 2) := by decide +kernel
theorem dX10_status_9 : decode cX10_status 9 = .ok (.if_icmp .ge 13, 3) := by decide +kernel
theorem dX10_status_12 : decode cX10_status 12 = .ok (.aload_n 0, 1) := by decide +kernel
theorem dX10_status_13 : decode cX10_status 13 = .ok (.getfield 36, 3) := by decide +kernel
theorem dX10_status_16 : decode cX10_status 16 = .ok (.iload_n 1, 1) := by decide +kernel
theorem dX10_status_17 : decode cX10_status 17 = .ok (.bipush 12, 2) := by decide +kernel
theorem dX10_status_19 : decode cX10_status 19 = .ok (.isub, 1) := by decide +kernel
theorem dX10_status_20 : decode cX10_status 20 = .ok (.iaload, 1) := by decide +kernel
theorem dX10_status_21 : decode cX10_status 21 = .ok (.ireturn, 1) := by decide +kernel
theorem dX10_status_22 : decode cX10_status 22 = .ok (.iload_n 1, 1) := by decide +kernel
theorem dX10_status_23 : decode cX10_status 23 = .ok (.tableswitch 130 0 9 #[53, 61, 69, 77, 85, 93, 101, 106, 114, 122], 53) := by decide +kernel
theorem dX10_status_76 : decode cX10_status 76 = .ok (.aload_n 0, 1) := by decide +kernel
theorem dX10_status_77 : decode cX10_status 77 = .ok (.getfield 12, 3) := by decide +kernel
theorem dX10_status_80 : decode cX10_status 80 = .ok (.getfield 156, 3) := by decide +kernel
theorem dX10_status_83 : decode cX10_status 83 = .ok (.ireturn, 1) := by decide +kernel
theorem dX10_status_84 : decode cX10_status 84 = .ok (.aload_n 0, 1) := by decide +kernel
theorem dX10_status_85 : decode cX10_status 85 = .ok (.getfield 12, 3) := by decide +kernel
theorem dX10_status_88 : decode cX10_status 88 = .ok (.getfield 174, 3) := by decide +kernel
theorem dX10_status_91 : decode cX10_status 91 = .ok (.ireturn, 1) := by decide +kernel
theorem dX10_status_92 : decode cX10_status 92 = .ok (.aload_n 0, 1) := by decide +kernel
theorem dX10_status_93 : decode cX10_status 93 = .ok (.getfield 12, 3) := by decide +kernel
theorem dX10_status_96 : decode cX10_status 96 = .ok (.getfield 200, 3) := by decide +kernel
theorem dX10_status_99 : decode cX10_status 99 = .ok (.ireturn, 1) := by decide +kernel
theorem dX10_status_100 : decode cX10_status 100 = .ok (.aload_n 0, 1) := by decide +kernel
theorem dX10_status_101 : decode cX10_status 101 = .ok (.getfield 12, 3) := by decide +kernel
theorem dX10_status_104 : decode cX10_status 104 = .ok (.getfield 209, 3) := by decide +kernel
theorem dX10_status_107 : decode cX10_status 107 = .ok (.ireturn, 1) := by decide +kernel
theorem dX10_status_108 : decode cX10_status 108 = .ok (.aload_n 0, 1) := by decide +kernel
theorem dX10_status_109 : decode cX10_status 109 = .ok (.getfield 12, 3) := by decide +kernel
theorem dX10_status_112 : decode cX10_status 112 = .ok (.getfield 212, 3) := by decide +kernel
theorem dX10_status_115 : decode cX10_status 115 = .ok (.ireturn, 1) := by decide +kernel
theorem dX10_status_116 : decode cX10_status 116 = .ok (.aload_n 0, 1) := by decide +kernel
theorem dX10_status_117 : decode cX10_status 117 = .ok (.getfield 12, 3) := by decide +kernel
theorem dX10_status_120 : decode cX10_status 120 = .ok (.invokevirtual 407, 3) := by decide +kernel
theorem dX10_status_123 : decode cX10_status 123 = .ok (.ireturn, 1) := by decide +kernel
theorem dX10_status_124 : decode cX10_status 124 = .ok (.aload_n 0, 1) := by decide +kernel
theorem dX10_status_125 : decode cX10_status 125 = .ok (.invokevirtual 410, 3) := by decide +kernel
theorem dX10_status_128 : decode cX10_status 128 = .ok (.ireturn, 1) := by decide +kernel
theorem dX10_status_129 : decode cX10_status 129 = .ok (.aload_n 0, 1) := by decide +kernel
theorem dX10_status_130 : decode cX10_status 130 = .ok (.getfield 25, 3) := by decide +kernel
theorem dX10_status_133 : decode cX10_status 133 = .ok (.invokevirtual 413, 3) := by decide +kernel
theorem dX10_status_136 : decode cX10_status 136 = .ok (.ireturn, 1) := by decide +kernel
theorem dX10_status_137 : decode cX10_status 137 = .ok (.aload_n 0, 1) := by decide +kernel
theorem dX10_status_138 : decode cX10_status 138 = .ok (.getfield 12, 3) := by decide +kernel
theorem dX10_status_141 : decode cX10_status 141 = .ok (.getfield 397, 3) := by decide +kernel
theorem dX10_status_144 : decode cX10_status 144 = .ok (.ireturn, 1) := by decide +kernel
theorem dX10_status_145 : decode cX10_status 145 = .ok (.aload_n 0, 1) := by decide +kernel
theorem dX10_status_146 : decode cX10_status 146 = .ok (.getfield 32, 3) := by decide +kernel
theorem dX10_status_149 : decode cX10_status 149 = .ok (.invokevirtual 416, 3) := by decide +kernel
theorem dX10_status_152 : decode cX10_status 152 = .ok (.ireturn, 1) := by decide +kernel
theorem dX10_status_153 : decode cX10_status 153 = .ok (.iconst (-1), 1) := by decide +kernel
theorem dX10_status_154 : decode cX10_status 154 = .ok (.ireturn, 1) := by decide +kernel
theorem dX10_refuse_0 : decode cX10_refuse 0 = .ok (.bipush (-52), 2) := by decide +kernel
theorem dX10_refuse_2 : decode cX10_refuse 2 = .ok (.iload_n 1, 1) := by decide +kernel
theorem dX10_refuse_3 : decode cX10_refuse 3 = .ok (.isub, 1) := by decide +kernel
theorem dX10_refuse_4 : decode cX10_refuse 4 = .ok (.istore_n 2, 1) := by decide +kernel
theorem dX10_refuse_5 : decode cX10_refuse 5 = .ok (.iload_n 2, 1) := by decide +kernel
theorem dX10_refuse_6 : decode cX10_refuse 6 = .ok (.ifCond .lt 18, 3) := by decide +kernel
theorem dX10_refuse_9 : decode cX10_refuse 9 = .ok (.iload_n 2, 1) := by decide +kernel
theorem dX10_refuse_10 : decode cX10_refuse 10 = .ok (.iconst 5, 1) := by decide +kernel
theorem dX10_refuse_11 : decode cX10_refuse 11 = .ok (.if_icmp .ge 13, 3) := by decide +kernel
theorem dX10_refuse_14 : decode cX10_refuse 14 = .ok (.aload_n 0, 1) := by decide +kernel
theorem dX10_refuse_15 : decode cX10_refuse 15 = .ok (.getfield 36, 3) := by decide +kernel
theorem dX10_refuse_18 : decode cX10_refuse 18 = .ok (.iload_n 2, 1) := by decide +kernel
theorem dX10_refuse_19 : decode cX10_refuse 19 = .ok (.dup2, 1) := by decide +kernel
theorem dX10_refuse_20 : decode cX10_refuse 20 = .ok (.iaload, 1) := by decide +kernel
theorem dX10_refuse_21 : decode cX10_refuse 21 = .ok (.iconst 1, 1) := by decide +kernel
theorem dX10_refuse_22 : decode cX10_refuse 22 = .ok (.iadd, 1) := by decide +kernel
theorem dX10_refuse_23 : decode cX10_refuse 23 = .ok (.iastore, 1) := by decide +kernel
theorem dX10_refuse_24 : decode cX10_refuse 24 = .ok (.iload_n 1, 1) := by decide +kernel
theorem dX10_refuse_25 : decode cX10_refuse 25 = .ok (.ireturn, 1) := by decide +kernel
theorem dX10_isDay_0 : decode cX10_isDay 0 = .ok (.iload_n 0, 1) := by decide +kernel
theorem dX10_isDay_1 : decode cX10_isDay 1 = .ok (.ifCond .lt 12, 3) := by decide +kernel
theorem dX10_isDay_4 : decode cX10_isDay 4 = .ok (.iload_n 0, 1) := by decide +kernel
theorem dX10_isDay_5 : decode cX10_isDay 5 = .ok (.iconst 5, 1) := by decide +kernel
theorem dX10_isDay_6 : decode cX10_isDay 6 = .ok (.if_icmp .ge 7, 3) := by decide +kernel
theorem dX10_isDay_9 : decode cX10_isDay 9 = .ok (.iconst 1, 1) := by decide +kernel
theorem dX10_isDay_10 : decode cX10_isDay 10 = .ok (.goto 4, 3) := by decide +kernel
theorem dX10_isDay_13 : decode cX10_isDay 13 = .ok (.iconst 0, 1) := by decide +kernel
theorem dX10_isDay_14 : decode cX10_isDay 14 = .ok (.ireturn, 1) := by decide +kernel
theorem dX10_isSlot_0 : decode cX10_isSlot 0 = .ok (.iload_n 0, 1) := by decide +kernel
theorem dX10_isSlot_1 : decode cX10_isSlot 1 = .ok (.ifCond .lt 13, 3) := by decide +kernel
theorem dX10_isSlot_4 : decode cX10_isSlot 4 = .ok (.iload_n 0, 1) := by decide +kernel
theorem dX10_isSlot_5 : decode cX10_isSlot 5 = .ok (.bipush 48, 2) := by decide +kernel
theorem dX10_isSlot_7 : decode cX10_isSlot 7 = .ok (.if_icmp .ge 7, 3) := by decide +kernel
theorem dX10_isSlot_10 : decode cX10_isSlot 10 = .ok (.iconst 1, 1) := by decide +kernel
theorem dX10_isSlot_11 : decode cX10_isSlot 11 = .ok (.goto 4, 3) := by decide +kernel
theorem dX10_isSlot_14 : decode cX10_isSlot 14 = .ok (.iconst 0, 1) := by decide +kernel
theorem dX10_isSlot_15 : decode cX10_isSlot 15 = .ok (.ireturn, 1) := by decide +kernel
theorem dX10_isYesOrNo_0 : decode cX10_isYesOrNo 0 = .ok (.iload_n 0, 1) := by decide +kernel
theorem dX10_isYesOrNo_1 : decode cX10_isYesOrNo 1 = .ok (.ifCond .eq 8, 3) := by decide +kernel
theorem dX10_isYesOrNo_4 : decode cX10_isYesOrNo 4 = .ok (.iload_n 0, 1) := by decide +kernel
theorem dX10_isYesOrNo_5 : decode cX10_isYesOrNo 5 = .ok (.iconst 1, 1) := by decide +kernel
theorem dX10_isYesOrNo_6 : decode cX10_isYesOrNo 6 = .ok (.if_icmp .ne 7, 3) := by decide +kernel
theorem dX10_isYesOrNo_9 : decode cX10_isYesOrNo 9 = .ok (.iconst 1, 1) := by decide +kernel
theorem dX10_isYesOrNo_10 : decode cX10_isYesOrNo 10 = .ok (.goto 4, 3) := by decide +kernel
theorem dX10_isYesOrNo_13 : decode cX10_isYesOrNo 13 = .ok (.iconst 0, 1) := by decide +kernel
theorem dX10_isYesOrNo_14 : decode cX10_isYesOrNo 14 = .ok (.ireturn, 1) := by decide +kernel
theorem dX10_isMeasure_0 : decode cX10_isMeasure 0 = .ok (.iload_n 0, 1) := by decide +kernel
theorem dX10_isMeasure_1 : decode cX10_isMeasure 1 = .ok (.ifCond .lt 12, 3) := by decide +kernel
theorem dX10_isMeasure_4 : decode cX10_isMeasure 4 = .ok (.iload_n 0, 1) := by decide +kernel
theorem dX10_isMeasure_5 : decode cX10_isMeasure 5 = .ok (.iconst 5, 1) := by decide +kernel
theorem dX10_isMeasure_6 : decode cX10_isMeasure 6 = .ok (.if_icmp .ge 7, 3) := by decide +kernel
theorem dX10_isMeasure_9 : decode cX10_isMeasure 9 = .ok (.iconst 1, 1) := by decide +kernel
theorem dX10_isMeasure_10 : decode cX10_isMeasure 10 = .ok (.goto 4, 3) := by decide +kernel
theorem dX10_isMeasure_13 : decode cX10_isMeasure 13 = .ok (.iconst 0, 1) := by decide +kernel
theorem dX10_isMeasure_14 : decode cX10_isMeasure 14 = .ok (.ireturn, 1) := by decide +kernel
theorem dX10_span_0 : decode cX10_span 0 = .ok (.lconst 1, 1) := by decide +kernel
theorem dX10_span_1 : decode cX10_span 1 = .ok (.iload_n 1, 1) := by decide +kernel
theorem dX10_span_2 : decode cX10_span 2 = .ok (.lshl, 1) := by decide +kernel
theorem dX10_span_3 : decode cX10_span 3 = .ok (.lconst 1, 1) := by decide +kernel
theorem dX10_span_4 : decode cX10_span 4 = .ok (.lsub, 1) := by decide +kernel
theorem dX10_span_5 : decode cX10_span 5 = .ok (.lconst 1, 1) := by decide +kernel
theorem dX10_span_6 : decode cX10_span 6 = .ok (.iload_n 0, 1) := by decide +kernel
theorem dX10_span_7 : decode cX10_span 7 = .ok (.lshl, 1) := by decide +kernel
theorem dX10_span_8 : decode cX10_span 8 = .ok (.lconst 1, 1) := by decide +kernel
theorem dX10_span_9 : decode cX10_span 9 = .ok (.lsub, 1) := by decide +kernel
theorem dX10_span_10 : decode cX10_span 10 = .ok (.ldc2_w 419, 3) := by decide +kernel
theorem dX10_span_13 : decode cX10_span 13 = .ok (.lxor, 1) := by decide +kernel
theorem dX10_span_14 : decode cX10_span 14 = .ok (.land, 1) := by decide +kernel
theorem dX10_span_15 : decode cX10_span 15 = .ok (.lreturn, 1) := by decide +kernel
theorem dX10_hasBit_0 : decode cX10_hasBit 0 = .ok (.iload_n 0, 1) := by decide +kernel
theorem dX10_hasBit_1 : decode cX10_hasBit 1 = .ok (.iload_n 1, 1) := by decide +kernel
theorem dX10_hasBit_2 : decode cX10_hasBit 2 = .ok (.ishr, 1) := by decide +kernel
theorem dX10_hasBit_3 : decode cX10_hasBit 3 = .ok (.iconst 1, 1) := by decide +kernel
theorem dX10_hasBit_4 : decode cX10_hasBit 4 = .ok (.iand, 1) := by decide +kernel
theorem dX10_hasBit_5 : decode cX10_hasBit 5 = .ok (.ifCond .eq 7, 3) := by decide +kernel
theorem dX10_hasBit_8 : decode cX10_hasBit 8 = .ok (.iconst 1, 1) := by decide +kernel
theorem dX10_hasBit_9 : decode cX10_hasBit 9 = .ok (.goto 4, 3) := by decide +kernel
theorem dX10_hasBit_12 : decode cX10_hasBit 12 = .ok (.iconst 0, 1) := by decide +kernel
theorem dX10_hasBit_13 : decode cX10_hasBit 13 = .ok (.ireturn, 1) := by decide +kernel
theorem dX10_hasSlot_0 : decode cX10_hasSlot 0 = .ok (.lload_n 0, 1) := by decide +kernel
theorem dX10_hasSlot_1 : decode cX10_hasSlot 1 = .ok (.iload_n 2, 1) := by decide +kernel
theorem dX10_hasSlot_2 : decode cX10_hasSlot 2 = .ok (.lshr, 1) := by decide +kernel
theorem dX10_hasSlot_3 : decode cX10_hasSlot 3 = .ok (.lconst 1, 1) := by decide +kernel
theorem dX10_hasSlot_4 : decode cX10_hasSlot 4 = .ok (.land, 1) := by decide +kernel
theorem dX10_hasSlot_5 : decode cX10_hasSlot 5 = .ok (.lconst 0, 1) := by decide +kernel
theorem dX10_hasSlot_6 : decode cX10_hasSlot 6 = .ok (.lcmp, 1) := by decide +kernel
theorem dX10_hasSlot_7 : decode cX10_hasSlot 7 = .ok (.ifCond .eq 7, 3) := by decide +kernel
theorem dX10_hasSlot_10 : decode cX10_hasSlot 10 = .ok (.iconst 1, 1) := by decide +kernel
theorem dX10_hasSlot_11 : decode cX10_hasSlot 11 = .ok (.goto 4, 3) := by decide +kernel
theorem dX10_hasSlot_14 : decode cX10_hasSlot 14 = .ok (.iconst 0, 1) := by decide +kernel
theorem dX10_hasSlot_15 : decode cX10_hasSlot 15 = .ok (.ireturn, 1) := by decide +kernel
theorem dX10_takersOf_0 : decode cX10_takersOf 0 = .ok (.iconst 0, 1) := by decide +kernel
theorem dX10_takersOf_1 : decode cX10_takersOf 1 = .ok (.istore_n 2, 1) := by decide +kernel
theorem dX10_takersOf_2 : decode cX10_takersOf 2 = .ok (.iconst 0, 1) := by decide +kernel
theorem dX10_takersOf_3 : decode cX10_takersOf 3 = .ok (.istore_n 3, 1) := by decide +kernel
theorem dX10_takersOf_4 : decode cX10_takersOf 4 = .ok (.iload_n 3, 1) := by decide +kernel
theorem dX10_takersOf_5 : decode cX10_takersOf 5 = .ok (.aload_n 0, 1) := by decide +kernel
theorem dX10_takersOf_6 : decode cX10_takersOf 6 = .ok (.getfield 12, 3) := by decide +kernel
theorem dX10_takersOf_9 : decode cX10_takersOf 9 = .ok (.getfield 174, 3) := by decide +kernel
theorem dX10_takersOf_12 : decode cX10_takersOf 12 = .ok (.if_icmp .ge 24, 3) := by decide +kernel
theorem dX10_takersOf_15 : decode cX10_takersOf 15 = .ok (.aload_n 0, 1) := by decide +kernel
theorem dX10_takersOf_16 : decode cX10_takersOf 16 = .ok (.getfield 12, 3) := by decide +kernel
theorem dX10_takersOf_19 : decode cX10_takersOf 19 = .ok (.iload_n 3, 1) := by decide +kernel
theorem dX10_takersOf_20 : decode cX10_takersOf 20 = .ok (.iload_n 1, 1) := by decide +kernel
theorem dX10_takersOf_21 : decode cX10_takersOf 21 = .ok (.invokevirtual 188, 3) := by decide +kernel
theorem dX10_takersOf_24 : decode cX10_takersOf 24 = .ok (.ifCond .eq 6, 3) := by decide +kernel
theorem dX10_takersOf_27 : decode cX10_takersOf 27 = .ok (.iinc 2 1, 3) := by decide +kernel
theorem dX10_takersOf_30 : decode cX10_takersOf 30 = .ok (.iinc 3 1, 3) := by decide +kernel
theorem dX10_takersOf_33 : decode cX10_takersOf 33 = .ok (.goto (-29), 3) := by decide +kernel
theorem dX10_takersOf_36 : decode cX10_takersOf 36 = .ok (.iload_n 2, 1) := by decide +kernel
theorem dX10_takersOf_37 : decode cX10_takersOf 37 = .ok (.ireturn, 1) := by decide +kernel
theorem dX10_lateOnesOf_0 : decode cX10_lateOnesOf 0 = .ok (.iconst 0, 1) := by decide +kernel
theorem dX10_lateOnesOf_1 : decode cX10_lateOnesOf 1 = .ok (.istore_n 2, 1) := by decide +kernel
theorem dX10_lateOnesOf_2 : decode cX10_lateOnesOf 2 = .ok (.iconst 0, 1) := by decide +kernel
theorem dX10_lateOnesOf_3 : decode cX10_lateOnesOf 3 = .ok (.istore_n 3, 1) := by decide +kernel
theorem dX10_lateOnesOf_4 : decode cX10_lateOnesOf 4 = .ok (.iload_n 3, 1) := by decide +kernel
theorem dX10_lateOnesOf_5 : decode cX10_lateOnesOf 5 = .ok (.aload_n 0, 1) := by decide +kernel
theorem dX10_lateOnesOf_6 : decode cX10_lateOnesOf 6 = .ok (.getfield 12, 3) := by decide +kernel
theorem dX10_lateOnesOf_9 : decode cX10_lateOnesOf 9 = .ok (.getfield 174, 3) := by decide +kernel
theorem dX10_lateOnesOf_12 : decode cX10_lateOnesOf 12 = .ok (.if_icmp .ge 35, 3) := by decide +kernel
theorem dX10_lateOnesOf_15 : decode cX10_lateOnesOf 15 = .ok (.aload_n 0, 1) := by decide +kernel
theorem dX10_lateOnesOf_16 : decode cX10_lateOnesOf 16 = .ok (.getfield 50, 3) := by decide +kernel
theorem dX10_lateOnesOf_19 : decode cX10_lateOnesOf 19 = .ok (.aload_n 0, 1) := by decide +kernel
theorem dX10_lateOnesOf_20 : decode cX10_lateOnesOf 20 = .ok (.getfield 12, 3) := by decide +kernel
theorem dX10_lateOnesOf_23 : decode cX10_lateOnesOf 23 = .ok (.iload_n 3, 1) := by decide +kernel
theorem dX10_lateOnesOf_24 : decode cX10_lateOnesOf 24 = .ok (.invokevirtual 243, 3) := by decide +kernel
theorem dX10_lateOnesOf_27 : decode cX10_lateOnesOf 27 = .ok (.aload_n 0, 1) := by decide +kernel
theorem dX10_lateOnesOf_28 : decode cX10_lateOnesOf 28 = .ok (.getfield 12, 3) := by decide +kernel
theorem dX10_lateOnesOf_31 : decode cX10_lateOnesOf 31 = .ok (.iload_n 1, 1) := by decide +kernel
theorem dX10_lateOnesOf_32 : decode cX10_lateOnesOf 32 = .ok (.invokevirtual 421, 3) := by decide +kernel
theorem dX10_lateOnesOf_35 : decode cX10_lateOnesOf 35 = .ok (.ifCond .eq 6, 3) := by decide +kernel
theorem dX10_lateOnesOf_38 : decode cX10_lateOnesOf 38 = .ok (.iinc 2 1, 3) := by decide +kernel
theorem dX10_lateOnesOf_41 : decode cX10_lateOnesOf 41 = .ok (.iinc 3 1, 3) := by decide +kernel
theorem dX10_lateOnesOf_44 : decode cX10_lateOnesOf 44 = .ok (.goto (-40), 3) := by decide +kernel
theorem dX10_lateOnesOf_47 : decode cX10_lateOnesOf 47 = .ok (.iload_n 2, 1) := by decide +kernel
theorem dX10_lateOnesOf_48 : decode cX10_lateOnesOf 48 = .ok (.ireturn, 1) := by decide +kernel
theorem dX10_daysSomebodyCant_0 : decode cX10_daysSomebodyCant 0 = .ok (.iconst 0, 1) := by decide +kernel
theorem dX10_daysSomebodyCant_1 : decode cX10_daysSomebodyCant 1 = .ok (.istore_n 1, 1) := by decide +kernel
theorem dX10_daysSomebodyCant_2 : decode cX10_daysSomebodyCant 2 = .ok (.iconst 0, 1) := by decide +kernel
theorem dX10_daysSomebodyCant_3 : decode cX10_daysSomebodyCant 3 = .ok (.istore_n 2, 1) := by decide +kernel
theorem dX10_daysSomebodyCant_4 : decode cX10_daysSomebodyCant 4 = .ok (.iload_n 2, 1) := by decide +kernel
theorem dX10_daysSomebodyCant_5 : decode cX10_daysSomebodyCant 5 = .ok (.iconst 5, 1) := by decide +kernel
theorem dX10_daysSomebodyCant_6 : decode cX10_daysSomebodyCant 6 = .ok (.if_icmp .ge 70, 3) := by decide +kernel
theorem dX10_daysSomebodyCant_9 : decode cX10_daysSomebodyCant 9 = .ok (.iconst 0, 1) := by decide +kernel
theorem dX10_daysSomebodyCant_10 : decode cX10_daysSomebodyCant 10 = .ok (.istore_n 3, 1) := by decide +kernel
theorem dX10_daysSomebodyCant_11 : decode cX10_daysSomebodyCant 11 = .ok (.iconst 0, 1) := by decide +kernel
theorem dX10_daysSomebodyCant_12 : decode cX10_daysSomebodyCant 12 = .ok (.istore 4, 2) := by decide +kernel
theorem dX10_daysSomebodyCant_14 : decode cX10_daysSomebodyCant 14 = .ok (.iload 4, 2) := by decide +kernel
theorem dX10_daysSomebodyCant_16 : decode cX10_daysSomebodyCant 16 = .ok (.aload_n 0, 1) := by decide +kernel
theorem dX10_daysSomebodyCant_17 : decode cX10_daysSomebodyCant 17 = .ok (.getfield 12, 3) := by decide +kernel
theorem dX10_daysSomebodyCant_20 : decode cX10_daysSomebodyCant 20 = .ok (.getfield 174, 3) := by decide +kernel
theorem dX10_daysSomebodyCant_23 : decode cX10_daysSomebodyCant 23 = .ok (.if_icmp .ge 40, 3) := by decide +kernel
theorem dX10_daysSomebodyCant_26 : decode cX10_daysSomebodyCant 26 = .ok (.iload_n 3, 1) := by decide +kernel
theorem dX10_daysSomebodyCant_27 : decode cX10_daysSomebodyCant 27 = .ok (.ifCond .ne 36, 3) := by decide +kernel
theorem dX10_daysSomebodyCant_30 : decode cX10_daysSomebodyCant 30 = .ok (.aload_n 0, 1) := by decide +kernel
theorem dX10_daysSomebodyCant_31 : decode cX10_daysSomebodyCant 31 = .ok (.getfield 50, 3) := by decide +kernel
theorem dX10_daysSomebodyCant_34 : decode cX10_daysSomebodyCant 34 = .ok (.aload_n 0, 1) := by decide +kernel
theorem dX10_daysSomebodyCant_35 : decode cX10_daysSomebodyCant 35 = .ok (.getfield 12, 3) := by decide +kernel
theorem dX10_daysSomebodyCant_38 : decode cX10_daysSomebodyCant 38 = .ok (.iload 4, 2) := by decide +kernel
theorem dX10_daysSomebodyCant_40 : decode cX10_daysSomebodyCant 40 = .ok (.invokevirtual 243, 3) := by decide +kernel
theorem dX10_daysSomebodyCant_43 : decode cX10_daysSomebodyCant 43 = .ok (.getfield 265, 3) := by decide +kernel
theorem dX10_daysSomebodyCant_46 : decode cX10_daysSomebodyCant 46 = .ok (.iload_n 2, 1) := by decide +kernel
theorem dX10_daysSomebodyCant_47 : decode cX10_daysSomebodyCant 47 = .ok (.baload, 1) := by decide +kernel
theorem dX10_daysSomebodyCant_48 : decode cX10_daysSomebodyCant 48 = .ok (.ifCond .ne 7, 3) := by decide +kernel
theorem dX10_daysSomebodyCant_51 : decode cX10_daysSomebodyCant 51 = .ok (.iconst 1, 1) := by decide +kernel
theorem dX10_daysSomebodyCant_52 : decode cX10_daysSomebodyCant 52 = .ok (.goto 4, 3) := by decide +kernel
theorem dX10_daysSomebodyCant_55 : decode cX10_daysSomebodyCant 55 = .ok (.iconst 0, 1) := by decide +kernel
theorem dX10_daysSomebodyCant_56 : decode cX10_daysSomebodyCant 56 = .ok (.istore_n 3, 1) := by decide +kernel
theorem dX10_daysSomebodyCant_57 : decode cX10_daysSomebodyCant 57 = .ok (.iinc 4 1, 3) := by decide +kernel
theorem dX10_daysSomebodyCant_60 : decode cX10_daysSomebodyCant 60 = .ok (.goto (-46), 3) := by decide +kernel
theorem dX10_daysSomebodyCant_63 : decode cX10_daysSomebodyCant 63 = .ok (.iload_n 3, 1) := by decide +kernel
theorem dX10_daysSomebodyCant_64 : decode cX10_daysSomebodyCant 64 = .ok (.ifCond .eq 6, 3) := by decide +kernel
theorem dX10_daysSomebodyCant_67 : decode cX10_daysSomebodyCant 67 = .ok (.iinc 1 1, 3) := by decide +kernel
theorem dX10_daysSomebodyCant_70 : decode cX10_daysSomebodyCant 70 = .ok (.iinc 2 1, 3) := by decide +kernel
theorem dX10_daysSomebodyCant_73 : decode cX10_daysSomebodyCant 73 = .ok (.goto (-69), 3) := by decide +kernel
theorem dX10_daysSomebodyCant_76 : decode cX10_daysSomebodyCant 76 = .ok (.iload_n 1, 1) := by decide +kernel
theorem dX10_daysSomebodyCant_77 : decode cX10_daysSomebodyCant 77 = .ok (.ireturn, 1) := by decide +kernel
theorem dX10_cantsFlipped_0 : decode cX10_cantsFlipped 0 = .ok (.aload_n 0, 1) := by decide +kernel
theorem dX10_cantsFlipped_1 : decode cX10_cantsFlipped 1 = .ok (.getfield 16, 3) := by decide +kernel
theorem dX10_cantsFlipped_4 : decode cX10_cantsFlipped 4 = .ok (.iload_n 1, 1) := by decide +kernel
theorem dX10_cantsFlipped_5 : decode cX10_cantsFlipped 5 = .ok (.iload_n 2, 1) := by decide +kernel
theorem dX10_cantsFlipped_6 : decode cX10_cantsFlipped 6 = .ok (.invokevirtual 194, 3) := by decide +kernel
theorem dX10_cantsFlipped_9 : decode cX10_cantsFlipped 9 = .ok (.aload_n 0, 1) := by decide +kernel
theorem dX10_cantsFlipped_10 : decode cX10_cantsFlipped 10 = .ok (.getfield 57, 3) := by decide +kernel
theorem dX10_cantsFlipped_13 : decode cX10_cantsFlipped 13 = .ok (.aload_n 0, 1) := by decide +kernel
theorem dX10_cantsFlipped_14 : decode cX10_cantsFlipped 14 = .ok (.getfield 50, 3) := by decide +kernel
theorem dX10_cantsFlipped_17 : decode cX10_cantsFlipped 17 = .ok (.aload_n 0, 1) := by decide +kernel
theorem dX10_cantsFlipped_18 : decode cX10_cantsFlipped 18 = .ok (.getfield 12, 3) := by decide +kernel
theorem dX10_cantsFlipped_21 : decode cX10_cantsFlipped 21 = .ok (.iload_n 1, 1) := by decide +kernel
theorem dX10_cantsFlipped_22 : decode cX10_cantsFlipped 22 = .ok (.invokevirtual 243, 3) := by decide +kernel
theorem dX10_cantsFlipped_25 : decode cX10_cantsFlipped 25 = .ok (.invokevirtual 425, 3) := by decide +kernel
theorem dX10_cantsFlipped_28 : decode cX10_cantsFlipped 28 = .ok (.aload_n 0, 1) := by decide +kernel
theorem dX10_cantsFlipped_29 : decode cX10_cantsFlipped 29 = .ok (.getfield 43, 3) := by decide +kernel
theorem dX10_cantsFlipped_32 : decode cX10_cantsFlipped 32 = .ok (.aload_n 0, 1) := by decide +kernel
theorem dX10_cantsFlipped_33 : decode cX10_cantsFlipped 33 = .ok (.getfield 16, 3) := by decide +kernel
theorem dX10_cantsFlipped_36 : decode cX10_cantsFlipped 36 = .ok (.iload_n 1, 1) := by decide +kernel
theorem dX10_cantsFlipped_37 : decode cX10_cantsFlipped 37 = .ok (.aload_n 0, 1) := by decide +kernel
theorem dX10_cantsFlipped_38 : decode cX10_cantsFlipped 38 = .ok (.getfield 16, 3) := by decide +kernel
theorem dX10_cantsFlipped_41 : decode cX10_cantsFlipped 41 = .ok (.getfield 250, 3) := by decide +kernel
theorem dX10_cantsFlipped_44 : decode cX10_cantsFlipped 44 = .ok (.iload_n 2, 1) := by decide +kernel
theorem dX10_cantsFlipped_45 : decode cX10_cantsFlipped 45 = .ok (.iaload, 1) := by decide +kernel
theorem dX10_cantsFlipped_46 : decode cX10_cantsFlipped 46 = .ok (.aload_n 0, 1) := by decide +kernel
theorem dX10_cantsFlipped_47 : decode cX10_cantsFlipped 47 = .ok (.getfield 57, 3) := by decide +kernel
theorem dX10_cantsFlipped_50 : decode cX10_cantsFlipped 50 = .ok (.invokevirtual 428, 3) := by decide +kernel
theorem dX10_cantsFlipped_53 : decode cX10_cantsFlipped 53 = .ok (.aload_n 0, 1) := by decide +kernel
theorem dX10_cantsFlipped_54 : decode cX10_cantsFlipped 54 = .ok (.getfield 16, 3) := by decide +kernel
theorem dX10_cantsFlipped_57 : decode cX10_cantsFlipped 57 = .ok (.iload_n 1, 1) := by decide +kernel
theorem dX10_cantsFlipped_58 : decode cX10_cantsFlipped 58 = .ok (.iload_n 2, 1) := by decide +kernel
theorem dX10_cantsFlipped_59 : decode cX10_cantsFlipped 59 = .ok (.invokevirtual 194, 3) := by decide +kernel
theorem dX10_cantsFlipped_62 : decode cX10_cantsFlipped 62 = .ok (.aload_n 0, 1) := by decide +kernel
theorem dX10_cantsFlipped_63 : decode cX10_cantsFlipped 63 = .ok (.getfield 57, 3) := by decide +kernel
theorem dX10_cantsFlipped_66 : decode cX10_cantsFlipped 66 = .ok (.invokevirtual 247, 3) := by decide +kernel
theorem dX10_cantsFlipped_69 : decode cX10_cantsFlipped 69 = .ok (.ireturn, 1) := by decide +kernel
theorem dJ6_bitCount_0f7a4_0 : decode cJ6_bitCount_0f7a4 0 = .ok (.iload_n 0, 1) := by decide +kernel
theorem dJ6_bitCount_0f7a4_1 : decode cJ6_bitCount_0f7a4 1 = .ok (.iload_n 0, 1) := by decide +kernel
theorem dJ6_bitCount_0f7a4_2 : decode cJ6_bitCount_0f7a4 2 = .ok (.iconst 1, 1) := by decide +kernel
theorem dJ6_bitCount_0f7a4_3 : decode cJ6_bitCount_0f7a4 3 = .ok (.iushr, 1) := by decide +kernel
theorem dJ6_bitCount_0f7a4_4 : decode cJ6_bitCount_0f7a4 4 = .ok (.ldc_w 265, 3) := by decide +kernel
theorem dJ6_bitCount_0f7a4_7 : decode cJ6_bitCount_0f7a4 7 = .ok (.iand, 1) := by decide +kernel
theorem dJ6_bitCount_0f7a4_8 : decode cJ6_bitCount_0f7a4 8 = .ok (.isub, 1) := by decide +kernel
theorem dJ6_bitCount_0f7a4_9 : decode cJ6_bitCount_0f7a4 9 = .ok (.istore_n 0, 1) := by decide +kernel
theorem dJ6_bitCount_0f7a4_10 : decode cJ6_bitCount_0f7a4 10 = .ok (.iload_n 0, 1) := by decide +kernel
theorem dJ6_bitCount_0f7a4_11 : decode cJ6_bitCount_0f7a4 11 = .ok (.ldc_w 266, 3) := by decide +kernel
theorem dJ6_bitCount_0f7a4_14 : decode cJ6_bitCount_0f7a4 14 = .ok (.iand, 1) := by decide +kernel
theorem dJ6_bitCount_0f7a4_15 : decode cJ6_bitCount_0f7a4 15 = .ok (.iload_n 0, 1) := by decide +kernel
theorem dJ6_bitCount_0f7a4_16 : decode cJ6_bitCount_0f7a4 16 = .ok (.iconst 2, 1) := by decide +kernel
theorem dJ6_bitCount_0f7a4_17 : decode cJ6_bitCount_0f7a4 17 = .ok (.iushr, 1) := by decide +kernel
theorem dJ6_bitCount_0f7a4_18 : decode cJ6_bitCount_0f7a4 18 = .ok (.ldc_w 266, 3) := by decide +kernel
theorem dJ6_bitCount_0f7a4_21 : decode cJ6_bitCount_0f7a4 21 = .ok (.iand, 1) := by decide +kernel
theorem dJ6_bitCount_0f7a4_22 : decode cJ6_bitCount_0f7a4 22 = .ok (.iadd, 1) := by decide +kernel
theorem dJ6_bitCount_0f7a4_23 : decode cJ6_bitCount_0f7a4 23 = .ok (.istore_n 0, 1) := by decide +kernel
theorem dJ6_bitCount_0f7a4_24 : decode cJ6_bitCount_0f7a4 24 = .ok (.iload_n 0, 1) := by decide +kernel
theorem dJ6_bitCount_0f7a4_25 : decode cJ6_bitCount_0f7a4 25 = .ok (.iload_n 0, 1) := by decide +kernel
theorem dJ6_bitCount_0f7a4_26 : decode cJ6_bitCount_0f7a4 26 = .ok (.iconst 4, 1) := by decide +kernel
theorem dJ6_bitCount_0f7a4_27 : decode cJ6_bitCount_0f7a4 27 = .ok (.iushr, 1) := by decide +kernel
theorem dJ6_bitCount_0f7a4_28 : decode cJ6_bitCount_0f7a4 28 = .ok (.iadd, 1) := by decide +kernel
theorem dJ6_bitCount_0f7a4_29 : decode cJ6_bitCount_0f7a4 29 = .ok (.ldc_w 267, 3) := by decide +kernel
theorem dJ6_bitCount_0f7a4_32 : decode cJ6_bitCount_0f7a4 32 = .ok (.iand, 1) := by decide +kernel
theorem dJ6_bitCount_0f7a4_33 : decode cJ6_bitCount_0f7a4 33 = .ok (.istore_n 0, 1) := by decide +kernel
theorem dJ6_bitCount_0f7a4_34 : decode cJ6_bitCount_0f7a4 34 = .ok (.iload_n 0, 1) := by decide +kernel
theorem dJ6_bitCount_0f7a4_35 : decode cJ6_bitCount_0f7a4 35 = .ok (.iload_n 0, 1) := by decide +kernel
theorem dJ6_bitCount_0f7a4_36 : decode cJ6_bitCount_0f7a4 36 = .ok (.bipush 8, 2) := by decide +kernel
theorem dJ6_bitCount_0f7a4_38 : decode cJ6_bitCount_0f7a4 38 = .ok (.iushr, 1) := by decide +kernel
theorem dJ6_bitCount_0f7a4_39 : decode cJ6_bitCount_0f7a4 39 = .ok (.iadd, 1) := by decide +kernel
theorem dJ6_bitCount_0f7a4_40 : decode cJ6_bitCount_0f7a4 40 = .ok (.istore_n 0, 1) := by decide +kernel
theorem dJ6_bitCount_0f7a4_41 : decode cJ6_bitCount_0f7a4 41 = .ok (.iload_n 0, 1) := by decide +kernel
theorem dJ6_bitCount_0f7a4_42 : decode cJ6_bitCount_0f7a4 42 = .ok (.iload_n 0, 1) := by decide +kernel
theorem dJ6_bitCount_0f7a4_43 : decode cJ6_bitCount_0f7a4 43 = .ok (.bipush 16, 2) := by decide +kernel
theorem dJ6_bitCount_0f7a4_45 : decode cJ6_bitCount_0f7a4 45 = .ok (.iushr, 1) := by decide +kernel
theorem dJ6_bitCount_0f7a4_46 : decode cJ6_bitCount_0f7a4 46 = .ok (.iadd, 1) := by decide +kernel
theorem dJ6_bitCount_0f7a4_47 : decode cJ6_bitCount_0f7a4 47 = .ok (.istore_n 0, 1) := by decide +kernel
theorem dJ6_bitCount_0f7a4_48 : decode cJ6_bitCount_0f7a4 48 = .ok (.iload_n 0, 1) := by decide +kernel
theorem dJ6_bitCount_0f7a4_49 : decode cJ6_bitCount_0f7a4 49 = .ok (.bipush 63, 2) := by decide +kernel
theorem dJ6_bitCount_0f7a4_51 : decode cJ6_bitCount_0f7a4 51 = .ok (.iand, 1) := by decide +kernel
theorem dJ6_bitCount_0f7a4_52 : decode cJ6_bitCount_0f7a4 52 = .ok (.ireturn, 1) := by decide +kernel
theorem dJ13_bitCount_95d88_0 : decode cJ13_bitCount_95d88 0 = .ok (.lload_n 0, 1) := by decide +kernel
theorem dJ13_bitCount_95d88_1 : decode cJ13_bitCount_95d88 1 = .ok (.lload_n 0, 1) := by decide +kernel
theorem dJ13_bitCount_95d88_2 : decode cJ13_bitCount_95d88 2 = .ok (.iconst 1, 1) := by decide +kernel
theorem dJ13_bitCount_95d88_3 : decode cJ13_bitCount_95d88 3 = .ok (.lushr, 1) := by decide +kernel
theorem dJ13_bitCount_95d88_4 : decode cJ13_bitCount_95d88 4 = .ok (.ldc2_w 314, 3) := by decide +kernel
theorem dJ13_bitCount_95d88_7 : decode cJ13_bitCount_95d88 7 = .ok (.land, 1) := by decide +kernel
theorem dJ13_bitCount_95d88_8 : decode cJ13_bitCount_95d88 8 = .ok (.lsub, 1) := by decide +kernel
theorem dJ13_bitCount_95d88_9 : decode cJ13_bitCount_95d88 9 = .ok (.lstore_n 0, 1) := by decide +kernel
theorem dJ13_bitCount_95d88_10 : decode cJ13_bitCount_95d88 10 = .ok (.lload_n 0, 1) := by decide +kernel
theorem dJ13_bitCount_95d88_11 : decode cJ13_bitCount_95d88 11 = .ok (.ldc2_w 316, 3) := by decide +kernel
theorem dJ13_bitCount_95d88_14 : decode cJ13_bitCount_95d88 14 = .ok (.land, 1) := by decide +kernel
theorem dJ13_bitCount_95d88_15 : decode cJ13_bitCount_95d88 15 = .ok (.lload_n 0, 1) := by decide +kernel
theorem dJ13_bitCount_95d88_16 : decode cJ13_bitCount_95d88 16 = .ok (.iconst 2, 1) := by decide +kernel
theorem dJ13_bitCount_95d88_17 : decode cJ13_bitCount_95d88 17 = .ok (.lushr, 1) := by decide +kernel
theorem dJ13_bitCount_95d88_18 : decode cJ13_bitCount_95d88 18 = .ok (.ldc2_w 316, 3) := by decide +kernel
theorem dJ13_bitCount_95d88_21 : decode cJ13_bitCount_95d88 21 = .ok (.land, 1) := by decide +kernel
theorem dJ13_bitCount_95d88_22 : decode cJ13_bitCount_95d88 22 = .ok (.ladd, 1) := by decide +kernel
theorem dJ13_bitCount_95d88_23 : decode cJ13_bitCount_95d88 23 = .ok (.lstore_n 0, 1) := by decide +kernel
theorem dJ13_bitCount_95d88_24 : decode cJ13_bitCount_95d88 24 = .ok (.lload_n 0, 1) := by decide +kernel
theorem dJ13_bitCount_95d88_25 : decode cJ13_bitCount_95d88 25 = .ok (.lload_n 0, 1) := by decide +kernel
theorem dJ13_bitCount_95d88_26 : decode cJ13_bitCount_95d88 26 = .ok (.iconst 4, 1) := by decide +kernel
theorem dJ13_bitCount_95d88_27 : decode cJ13_bitCount_95d88 27 = .ok (.lushr, 1) := by decide +kernel
theorem dJ13_bitCount_95d88_28 : decode cJ13_bitCount_95d88 28 = .ok (.ladd, 1) := by decide +kernel
theorem dJ13_bitCount_95d88_29 : decode cJ13_bitCount_95d88 29 = .ok (.ldc2_w 318, 3) := by decide +kernel
theorem dJ13_bitCount_95d88_32 : decode cJ13_bitCount_95d88 32 = .ok (.land, 1) := by decide +kernel
theorem dJ13_bitCount_95d88_33 : decode cJ13_bitCount_95d88 33 = .ok (.lstore_n 0, 1) := by decide +kernel
theorem dJ13_bitCount_95d88_34 : decode cJ13_bitCount_95d88 34 = .ok (.lload_n 0, 1) := by decide +kernel
theorem dJ13_bitCount_95d88_35 : decode cJ13_bitCount_95d88 35 = .ok (.lload_n 0, 1) := by decide +kernel
theorem dJ13_bitCount_95d88_36 : decode cJ13_bitCount_95d88 36 = .ok (.bipush 8, 2) := by decide +kernel
theorem dJ13_bitCount_95d88_38 : decode cJ13_bitCount_95d88 38 = .ok (.lushr, 1) := by decide +kernel
theorem dJ13_bitCount_95d88_39 : decode cJ13_bitCount_95d88 39 = .ok (.ladd, 1) := by decide +kernel
theorem dJ13_bitCount_95d88_40 : decode cJ13_bitCount_95d88 40 = .ok (.lstore_n 0, 1) := by decide +kernel
theorem dJ13_bitCount_95d88_41 : decode cJ13_bitCount_95d88 41 = .ok (.lload_n 0, 1) := by decide +kernel
theorem dJ13_bitCount_95d88_42 : decode cJ13_bitCount_95d88 42 = .ok (.lload_n 0, 1) := by decide +kernel
theorem dJ13_bitCount_95d88_43 : decode cJ13_bitCount_95d88 43 = .ok (.bipush 16, 2) := by decide +kernel
theorem dJ13_bitCount_95d88_45 : decode cJ13_bitCount_95d88 45 = .ok (.lushr, 1) := by decide +kernel
theorem dJ13_bitCount_95d88_46 : decode cJ13_bitCount_95d88 46 = .ok (.ladd, 1) := by decide +kernel
theorem dJ13_bitCount_95d88_47 : decode cJ13_bitCount_95d88 47 = .ok (.lstore_n 0, 1) := by decide +kernel
theorem dJ13_bitCount_95d88_48 : decode cJ13_bitCount_95d88 48 = .ok (.lload_n 0, 1) := by decide +kernel
theorem dJ13_bitCount_95d88_49 : decode cJ13_bitCount_95d88 49 = .ok (.lload_n 0, 1) := by decide +kernel
theorem dJ13_bitCount_95d88_50 : decode cJ13_bitCount_95d88 50 = .ok (.bipush 32, 2) := by decide +kernel
theorem dJ13_bitCount_95d88_52 : decode cJ13_bitCount_95d88 52 = .ok (.lushr, 1) := by decide +kernel
theorem dJ13_bitCount_95d88_53 : decode cJ13_bitCount_95d88 53 = .ok (.ladd, 1) := by decide +kernel
theorem dJ13_bitCount_95d88_54 : decode cJ13_bitCount_95d88 54 = .ok (.lstore_n 0, 1) := by decide +kernel
theorem dJ13_bitCount_95d88_55 : decode cJ13_bitCount_95d88 55 = .ok (.lload_n 0, 1) := by decide +kernel
theorem dJ13_bitCount_95d88_56 : decode cJ13_bitCount_95d88 56 = .ok (.l2i, 1) := by decide +kernel
theorem dJ13_bitCount_95d88_57 : decode cJ13_bitCount_95d88 57 = .ok (.bipush 127, 2) := by decide +kernel
theorem dJ13_bitCount_95d88_59 : decode cJ13_bitCount_95d88 59 = .ok (.iand, 1) := by decide +kernel
theorem dJ13_bitCount_95d88_60 : decode cJ13_bitCount_95d88 60 = .ok (.ireturn, 1) := by decide +kernel
theorem dJ9_max_7cf53_0 : decode cJ9_max_7cf53 0 = .ok (.iload_n 0, 1) := by decide +kernel
theorem dJ9_max_7cf53_1 : decode cJ9_max_7cf53 1 = .ok (.iload_n 1, 1) := by decide +kernel
theorem dJ9_max_7cf53_2 : decode cJ9_max_7cf53 2 = .ok (.if_icmp .lt 7, 3) := by decide +kernel
theorem dJ9_max_7cf53_5 : decode cJ9_max_7cf53 5 = .ok (.iload_n 0, 1) := by decide +kernel
theorem dJ9_max_7cf53_6 : decode cJ9_max_7cf53 6 = .ok (.goto 4, 3) := by decide +kernel
theorem dJ9_max_7cf53_9 : decode cJ9_max_7cf53 9 = .ok (.iload_n 1, 1) := by decide +kernel
theorem dJ9_max_7cf53_10 : decode cJ9_max_7cf53 10 = .ok (.ireturn, 1) := by decide +kernel
theorem dJ9_min_7cf53_0 : decode cJ9_min_7cf53 0 = .ok (.iload_n 0, 1) := by decide +kernel
theorem dJ9_min_7cf53_1 : decode cJ9_min_7cf53 1 = .ok (.iload_n 1, 1) := by decide +kernel
theorem dJ9_min_7cf53_2 : decode cJ9_min_7cf53 2 = .ok (.if_icmp .gt 7, 3) := by decide +kernel
theorem dJ9_min_7cf53_5 : decode cJ9_min_7cf53 5 = .ok (.iload_n 0, 1) := by decide +kernel
theorem dJ9_min_7cf53_6 : decode cJ9_min_7cf53 6 = .ok (.goto 4, 3) := by decide +kernel
theorem dJ9_min_7cf53_9 : decode cJ9_min_7cf53 9 = .ok (.iload_n 1, 1) := by decide +kernel
theorem dJ9_min_7cf53_10 : decode cJ9_min_7cf53 10 = .ok (.ireturn, 1) := by decide +kernel
theorem dL_cell_0 : decode cL_cell 0 = .ok (.ldc 7, 2) := by decide +kernel
theorem dL_cell_2 : decode cL_cell 2 = .ok (.iload_n 1, 1) := by decide +kernel
theorem dL_cell_3 : decode cL_cell 3 = .ok (.aload_n 0, 1) := by decide +kernel
theorem dL_cell_4 : decode cL_cell 4 = .ok (.arraylength, 1) := by decide +kernel
theorem dL_cell_5 : decode cL_cell 5 = .ok (.if_icmp .ge 9, 3) := by decide +kernel
theorem dL_cell_8 : decode cL_cell 8 = .ok (.aload_n 0, 1) := by decide +kernel
theorem dL_cell_9 : decode cL_cell 9 = .ok (.iload_n 1, 1) := by decide +kernel
theorem dL_cell_10 : decode cL_cell 10 = .ok (.iaload, 1) := by decide +kernel
theorem dL_cell_11 : decode cL_cell 11 = .ok (.goto 4, 3) := by decide +kernel
theorem dL_cell_14 : decode cL_cell 14 = .ok (.iconst 0, 1) := by decide +kernel
theorem dL_cell_15 : decode cL_cell 15 = .ok (.sipush 1009, 3) := by decide +kernel
theorem dL_cell_18 : decode cL_cell 18 = .ok (.iload_n 1, 1) := by decide +kernel
theorem dL_cell_19 : decode cL_cell 19 = .ok (.imul, 1) := by decide +kernel
theorem dL_cell_20 : decode cL_cell 20 = .ok (.iadd, 1) := by decide +kernel
theorem dL_cell_21 : decode cL_cell 21 = .ok (.imul, 1) := by decide +kernel
theorem dL_cell_22 : decode cL_cell 22 = .ok (.sipush 12345, 3) := by decide +kernel
theorem dL_cell_25 : decode cL_cell 25 = .ok (.iadd, 1) := by decide +kernel
theorem dL_cell_26 : decode cL_cell 26 = .ok (.istore_n 2, 1) := by decide +kernel
theorem dL_cell_27 : decode cL_cell 27 = .ok (.iload_n 2, 1) := by decide +kernel
theorem dL_cell_28 : decode cL_cell 28 = .ok (.iload_n 2, 1) := by decide +kernel
theorem dL_cell_29 : decode cL_cell 29 = .ok (.bipush 13, 2) := by decide +kernel
theorem dL_cell_31 : decode cL_cell 31 = .ok (.iushr, 1) := by decide +kernel
theorem dL_cell_32 : decode cL_cell 32 = .ok (.ixor, 1) := by decide +kernel
theorem dL_cell_33 : decode cL_cell 33 = .ok (.ldc 8, 2) := by decide +kernel
theorem dL_cell_35 : decode cL_cell 35 = .ok (.imul, 1) := by decide +kernel
theorem dL_cell_36 : decode cL_cell 36 = .ok (.istore_n 2, 1) := by decide +kernel
theorem dL_cell_37 : decode cL_cell 37 = .ok (.iload_n 2, 1) := by decide +kernel
theorem dL_cell_38 : decode cL_cell 38 = .ok (.iload_n 2, 1) := by decide +kernel
theorem dL_cell_39 : decode cL_cell 39 = .ok (.bipush 16, 2) := by decide +kernel
theorem dL_cell_41 : decode cL_cell 41 = .ok (.iushr, 1) := by decide +kernel
theorem dL_cell_42 : decode cL_cell 42 = .ok (.ixor, 1) := by decide +kernel
theorem dL_cell_43 : decode cL_cell 43 = .ok (.ireturn, 1) := by decide +kernel
theorem dL_pick_0 : decode cL_pick 0 = .ok (.aload_n 0, 1) := by decide +kernel
theorem dL_pick_1 : decode cL_pick 1 = .ok (.iload_n 1, 1) := by decide +kernel
theorem dL_pick_2 : decode cL_pick 2 = .ok (.invokestatic 9, 3) := by decide +kernel
theorem dL_pick_5 : decode cL_pick 5 = .ok (.bipush 8, 2) := by decide +kernel
theorem dL_pick_7 : decode cL_pick 7 = .ok (.iushr, 1) := by decide +kernel
theorem dL_pick_8 : decode cL_pick 8 = .ok (.iload_n 2, 1) := by decide +kernel
theorem dL_pick_9 : decode cL_pick 9 = .ok (.irem, 1) := by decide +kernel
theorem dL_pick_10 : decode cL_pick 10 = .ok (.ireturn, 1) := by decide +kernel
theorem dL_papers_0 : decode cL_papers 0 = .ok (.iload_n 2, 1) := by decide +kernel
theorem dL_papers_1 : decode cL_papers 1 = .ok (.anewarray 15, 3) := by decide +kernel
theorem dL_papers_4 : decode cL_papers 4 = .ok (.astore_n 3, 1) := by decide +kernel
theorem dL_papers_5 : decode cL_papers 5 = .ok (.iconst 0, 1) := by decide +kernel
theorem dL_papers_6 : decode cL_papers 6 = .ok (.istore 4, 2) := by decide +kernel
theorem dL_papers_8 : decode cL_papers 8 = .ok (.iload 4, 2) := by decide +kernel
theorem dL_papers_10 : decode cL_papers 10 = .ok (.iload_n 2, 1) := by decide +kernel
theorem dL_papers_11 : decode cL_papers 11 = .ok (.if_icmp .ge 111, 3) := by decide +kernel
theorem dL_papers_14 : decode cL_papers 14 = .ok (.iload_n 1, 1) := by decide +kernel
theorem dL_papers_15 : decode cL_papers 15 = .ok (.iconst 4, 1) := by decide +kernel
theorem dL_papers_16 : decode cL_papers 16 = .ok (.iload 4, 2) := by decide +kernel
theorem dL_papers_18 : decode cL_papers 18 = .ok (.imul, 1) := by decide +kernel
theorem dL_papers_19 : decode cL_papers 19 = .ok (.iadd, 1) := by decide +kernel
theorem dL_papers_20 : decode cL_papers 20 = .ok (.istore 5, 2) := by decide +kernel
theorem dL_papers_22 : decode cL_papers 22 = .ok (.aload_n 3, 1) := by decide +kernel
theorem dL_papers_23 : decode cL_papers 23 = .ok (.iload 4, 2) := by decide +kernel
theorem dL_papers_25 : decode cL_papers 25 = .ok (.iconst 3, 1) := by decide +kernel
theorem dL_papers_26 : decode cL_papers 26 = .ok (.newarray .int, 2) := by decide +kernel
theorem dL_papers_28 : decode cL_papers 28 = .ok (.dup, 1) := by decide +kernel
theorem dL_papers_29 : decode cL_papers 29 = .ok (.iconst 0, 1) := by decide +kernel
theorem dL_papers_30 : decode cL_papers 30 = .ok (.aload_n 0, 1) := by decide +kernel
theorem dL_papers_31 : decode cL_papers 31 = .ok (.iload 5, 2) := by decide +kernel
theorem dL_papers_33 : decode cL_papers 33 = .ok (.iconst 3, 1) := by decide +kernel
theorem dL_papers_34 : decode cL_papers 34 = .ok (.invokestatic 17, 3) := by decide +kernel
theorem dL_papers_37 : decode cL_papers 37 = .ok (.ifCond .ne 15, 3) := by decide +kernel
theorem dL_papers_40 : decode cL_papers 40 = .ok (.aload_n 0, 1) := by decide +kernel
theorem dL_papers_41 : decode cL_papers 41 = .ok (.iload 5, 2) := by decide +kernel
theorem dL_papers_43 : decode cL_papers 43 = .ok (.iconst 1, 1) := by decide +kernel
theorem dL_papers_44 : decode cL_papers 44 = .ok (.iadd, 1) := by decide +kernel
theorem dL_papers_45 : decode cL_papers 45 = .ok (.iconst 5, 1) := by decide +kernel
theorem dL_papers_46 : decode cL_papers 46 = .ok (.invokestatic 17, 3) := by decide +kernel
theorem dL_papers_49 : decode cL_papers 49 = .ok (.goto 12, 3) := by decide +kernel
theorem dL_papers_52 : decode cL_papers 52 = .ok (.aload_n 0, 1) := by decide +kernel
theorem dL_papers_53 : decode cL_papers 53 = .ok (.iload 5, 2) := by decide +kernel
theorem dL_papers_55 : decode cL_papers 55 = .ok (.iconst 1, 1) := by decide +kernel
theorem dL_papers_56 : decode cL_papers 56 = .ok (.iadd, 1) := by decide +kernel
theorem dL_papers_57 : decode cL_papers 57 = .ok (.iconst 2, 1) := by decide +kernel
theorem dL_papers_58 : decode cL_papers 58 = .ok (.invokestatic 17, 3) := by decide +kernel
theorem dL_papers_61 : decode cL_papers 61 = .ok (.iastore, 1) := by decide +kernel
theorem dL_papers_62 : decode cL_papers 62 = .ok (.dup, 1) := by decide +kernel
theorem dL_papers_63 : decode cL_papers 63 = .ok (.iconst 1, 1) := by decide +kernel
theorem dL_papers_64 : decode cL_papers 64 = .ok (.aload_n 0, 1) := by decide +kernel
theorem dL_papers_65 : decode cL_papers 65 = .ok (.iload 5, 2) := by decide +kernel
theorem dL_papers_67 : decode cL_papers 67 = .ok (.iconst 2, 1) := by decide +kernel
theorem dL_papers_68 : decode cL_papers 68 = .ok (.iadd, 1) := by decide +kernel
theorem dL_papers_69 : decode cL_papers 69 = .ok (.iconst 4, 1) := by decide +kernel
theorem dL_papers_70 : decode cL_papers 70 = .ok (.invokestatic 17, 3) := by decide +kernel
theorem dL_papers_73 : decode cL_papers 73 = .ok (.ifCond .ne 16, 3) := by decide +kernel
theorem dL_papers_76 : decode cL_papers 76 = .ok (.aload_n 0, 1) := by decide +kernel
theorem dL_papers_77 : decode cL_papers 77 = .ok (.iload 5, 2) := by decide +kernel
theorem dL_papers_79 : decode cL_papers 79 = .ok (.iconst 3, 1) := by decide +kernel
theorem dL_papers_80 : decode cL_papers 80 = .ok (.iadd, 1) := by decide +kernel
theorem dL_papers_81 : decode cL_papers 81 = .ok (.bipush 48, 2) := by decide +kernel
theorem dL_papers_83 : decode cL_papers 83 = .ok (.invokestatic 17, 3) := by decide +kernel
theorem dL_papers_86 : decode cL_papers 86 = .ok (.goto 13, 3) := by decide +kernel
theorem dL_papers_89 : decode cL_papers 89 = .ok (.aload_n 0, 1) := by decide +kernel
theorem dL_papers_90 : decode cL_papers 90 = .ok (.iload 5, 2) := by decide +kernel
theorem dL_papers_92 : decode cL_papers 92 = .ok (.iconst 3, 1) := by decide +kernel
theorem dL_papers_93 : decode cL_papers 93 = .ok (.iadd, 1) := by decide +kernel
theorem dL_papers_94 : decode cL_papers 94 = .ok (.bipush 30, 2) := by decide +kernel
theorem dL_papers_96 : decode cL_papers 96 = .ok (.invokestatic 17, 3) := by decide +kernel
theorem dL_papers_99 : decode cL_papers 99 = .ok (.iastore, 1) := by decide +kernel
theorem dL_papers_100 : decode cL_papers 100 = .ok (.dup, 1) := by decide +kernel
theorem dL_papers_101 : decode cL_papers 101 = .ok (.iconst 2, 1) := by decide +kernel
theorem dL_papers_102 : decode cL_papers 102 = .ok (.iconst 1, 1) := by decide +kernel
theorem dL_papers_103 : decode cL_papers 103 = .ok (.aload_n 0, 1) := by decide +kernel
theorem dL_papers_104 : decode cL_papers 104 = .ok (.iload 5, 2) := by decide +kernel
theorem dL_papers_106 : decode cL_papers 106 = .ok (.iconst 2, 1) := by decide +kernel
theorem dL_papers_107 : decode cL_papers 107 = .ok (.iadd, 1) := by decide +kernel
theorem dL_papers_108 : decode cL_papers 108 = .ok (.bipush 12, 2) := by decide +kernel
theorem dL_papers_110 : decode cL_papers 110 = .ok (.invokestatic 17, 3) := by decide +kernel
theorem dL_papers_113 : decode cL_papers 113 = .ok (.iadd, 1) := by decide +kernel
theorem dL_papers_114 : decode cL_papers 114 = .ok (.iastore, 1) := by decide +kernel
theorem dL_papers_115 : decode cL_papers 115 = .ok (.aastore, 1) := by decide +kernel
theorem dL_papers_116 : decode cL_papers 116 = .ok (.iinc 4 1, 3) := by decide +kernel
theorem dL_papers_119 : decode cL_papers 119 = .ok (.goto (-111), 3) := by decide +kernel
theorem dL_papers_122 : decode cL_papers 122 = .ok (.aload_n 3, 1) := by decide +kernel
theorem dL_papers_123 : decode cL_papers 123 = .ok (.areturn, 1) := by decide +kernel
theorem dL_cands_0 : decode cL_cands 0 = .ok (.iload_n 2, 1) := by decide +kernel
theorem dL_cands_1 : decode cL_cands 1 = .ok (.anewarray 15, 3) := by decide +kernel
theorem dL_cands_4 : decode cL_cands 4 = .ok (.astore_n 3, 1) := by decide +kernel
theorem dL_cands_5 : decode cL_cands 5 = .ok (.iconst 0, 1) := by decide +kernel
theorem dL_cands_6 : decode cL_cands 6 = .ok (.istore 4, 2) := by decide +kernel
theorem dL_cands_8 : decode cL_cands 8 = .ok (.iload 4, 2) := by decide +kernel
theorem dL_cands_10 : decode cL_cands 10 = .ok (.iload_n 2, 1) := by decide +kernel
theorem dL_cands_11 : decode cL_cands 11 = .ok (.if_icmp .ge 64, 3) := by decide +kernel
theorem dL_cands_14 : decode cL_cands 14 = .ok (.iload_n 1, 1) := by decide +kernel
theorem dL_cands_15 : decode cL_cands 15 = .ok (.iconst 3, 1) := by decide +kernel
theorem dL_cands_16 : decode cL_cands 16 = .ok (.iload 4, 2) := by decide +kernel
theorem dL_cands_18 : decode cL_cands 18 = .ok (.imul, 1) := by decide +kernel
theorem dL_cands_19 : decode cL_cands 19 = .ok (.iadd, 1) := by decide +kernel
theorem dL_cands_20 : decode cL_cands 20 = .ok (.istore 5, 2) := by decide +kernel
theorem dL_cands_22 : decode cL_cands 22 = .ok (.aload_n 3, 1) := by decide +kernel
theorem dL_cands_23 : decode cL_cands 23 = .ok (.iload 4, 2) := by decide +kernel
theorem dL_cands_25 : decode cL_cands 25 = .ok (.iconst 4, 1) := by decide +kernel
theorem dL_cands_26 : decode cL_cands 26 = .ok (.newarray .int, 2) := by decide +kernel
theorem dL_cands_28 : decode cL_cands 28 = .ok (.dup, 1) := by decide +kernel
theorem dL_cands_29 : decode cL_cands 29 = .ok (.iconst 0, 1) := by decide +kernel
theorem dL_cands_30 : decode cL_cands 30 = .ok (.aload_n 0, 1) := by decide +kernel
theorem dL_cands_31 : decode cL_cands 31 = .ok (.iload 5, 2) := by decide +kernel
theorem dL_cands_33 : decode cL_cands 33 = .ok (.bipush 6, 2) := by decide +kernel
theorem dL_cands_35 : decode cL_cands 35 = .ok (.invokestatic 17, 3) := by decide +kernel
theorem dL_cands_38 : decode cL_cands 38 = .ok (.iastore, 1) := by decide +kernel
theorem dL_cands_39 : decode cL_cands 39 = .ok (.dup, 1) := by decide +kernel
theorem dL_cands_40 : decode cL_cands 40 = .ok (.iconst 1, 1) := by decide +kernel
theorem dL_cands_41 : decode cL_cands 41 = .ok (.aload_n 0, 1) := by decide +kernel
theorem dL_cands_42 : decode cL_cands 42 = .ok (.iload 5, 2) := by decide +kernel
theorem dL_cands_44 : decode cL_cands 44 = .ok (.iconst 1, 1) := by decide +kernel
theorem dL_cands_45 : decode cL_cands 45 = .ok (.iadd, 1) := by decide +kernel
theorem dL_cands_46 : decode cL_cands 46 = .ok (.bipush 10, 2) := by decide +kernel
theorem dL_cands_48 : decode cL_cands 48 = .ok (.invokestatic 17, 3) := by decide +kernel
theorem dL_cands_51 : decode cL_cands 51 = .ok (.iastore, 1) := by decide +kernel
theorem dL_cands_52 : decode cL_cands 52 = .ok (.dup, 1) := by decide +kernel
theorem dL_cands_53 : decode cL_cands 53 = .ok (.iconst 2, 1) := by decide +kernel
theorem dL_cands_54 : decode cL_cands 54 = .ok (.aload_n 0, 1) := by decide +kernel
theorem dL_cands_55 : decode cL_cands 55 = .ok (.iload 5, 2) := by decide +kernel
theorem dL_cands_57 : decode cL_cands 57 = .ok (.iconst 2, 1) := by decide +kernel
theorem dL_cands_58 : decode cL_cands 58 = .ok (.iadd, 1) := by decide +kernel
theorem dL_cands_59 : decode cL_cands 59 = .ok (.iconst 2, 1) := by decide +kernel
theorem dL_cands_60 : decode cL_cands 60 = .ok (.invokestatic 17, 3) := by decide +kernel
theorem dL_cands_63 : decode cL_cands 63 = .ok (.iastore, 1) := by decide +kernel
theorem dL_cands_64 : decode cL_cands 64 = .ok (.dup, 1) := by decide +kernel
theorem dL_cands_65 : decode cL_cands 65 = .ok (.iconst 3, 1) := by decide +kernel
theorem dL_cands_66 : decode cL_cands 66 = .ok (.iconst 0, 1) := by decide +kernel
theorem dL_cands_67 : decode cL_cands 67 = .ok (.iastore, 1) := by decide +kernel
theorem dL_cands_68 : decode cL_cands 68 = .ok (.aastore, 1) := by decide +kernel
theorem dL_cands_69 : decode cL_cands 69 = .ok (.iinc 4 1, 3) := by decide +kernel
theorem dL_cands_72 : decode cL_cands 72 = .ok (.goto (-64), 3) := by decide +kernel
theorem dL_cands_75 : decode cL_cands 75 = .ok (.aload_n 3, 1) := by decide +kernel
theorem dL_cands_76 : decode cL_cands 76 = .ok (.areturn, 1) := by decide +kernel
theorem dL_isFifth_0 : decode cL_isFifth 0 = .ok (.iconst 0, 1) := by decide +kernel
theorem dL_isFifth_1 : decode cL_isFifth 1 = .ok (.istore_n 3, 1) := by decide +kernel
theorem dL_isFifth_2 : decode cL_isFifth 2 = .ok (.iconst 0, 1) := by decide +kernel
theorem dL_isFifth_3 : decode cL_isFifth 3 = .ok (.istore 4, 2) := by decide +kernel
theorem dL_isFifth_5 : decode cL_isFifth 5 = .ok (.iload 4, 2) := by decide +kernel
theorem dL_isFifth_7 : decode cL_isFifth 7 = .ok (.aload_n 0, 1) := by decide +kernel
theorem dL_isFifth_8 : decode cL_isFifth 8 = .ok (.arraylength, 1) := by decide +kernel
theorem dL_isFifth_9 : decode cL_isFifth 9 = .ok (.if_icmp .ge 42, 3) := by decide +kernel
theorem dL_isFifth_12 : decode cL_isFifth 12 = .ok (.iload_n 3, 1) := by decide +kernel
theorem dL_isFifth_13 : decode cL_isFifth 13 = .ok (.aload_n 1, 1) := by decide +kernel
theorem dL_isFifth_14 : decode cL_isFifth 14 = .ok (.iconst 3, 1) := by decide +kernel
theorem dL_isFifth_15 : decode cL_isFifth 15 = .ok (.iaload, 1) := by decide +kernel
theorem dL_isFifth_16 : decode cL_isFifth 16 = .ok (.iconst 1, 1) := by decide +kernel
theorem dL_isFifth_17 : decode cL_isFifth 17 = .ok (.iload 4, 2) := by decide +kernel
theorem dL_isFifth_19 : decode cL_isFifth 19 = .ok (.ishl, 1) := by decide +kernel
theorem dL_isFifth_20 : decode cL_isFifth 20 = .ok (.iand, 1) := by decide +kernel
theorem dL_isFifth_21 : decode cL_isFifth 21 = .ok (.ifCond .eq 21, 3) := by decide +kernel
theorem dL_isFifth_24 : decode cL_isFifth 24 = .ok (.aload_n 0, 1) := by decide +kernel
theorem dL_isFifth_25 : decode cL_isFifth 25 = .ok (.iload 4, 2) := by decide +kernel
theorem dL_isFifth_27 : decode cL_isFifth 27 = .ok (.aaload, 1) := by decide +kernel
theorem dL_isFifth_28 : decode cL_isFifth 28 = .ok (.iconst 0, 1) := by decide +kernel
theorem dL_isFifth_29 : decode cL_isFifth 29 = .ok (.iaload, 1) := by decide +kernel
theorem dL_isFifth_30 : decode cL_isFifth 30 = .ok (.aload_n 0, 1) := by decide +kernel
theorem dL_isFifth_31 : decode cL_isFifth 31 = .ok (.iload_n 2, 1) := by decide +kernel
theorem dL_isFifth_32 : decode cL_isFifth 32 = .ok (.aaload, 1) := by decide +kernel
theorem dL_isFifth_33 : decode cL_isFifth 33 = .ok (.iconst 0, 1) := by decide +kernel
theorem dL_isFifth_34 : decode cL_isFifth 34 = .ok (.iaload, 1) := by decide +kernel
theorem dL_isFifth_35 : decode cL_isFifth 35 = .ok (.if_icmp .ne 7, 3) := by decide +kernel
theorem dL_isFifth_38 : decode cL_isFifth 38 = .ok (.iconst 1, 1) := by decide +kernel
theorem dL_isFifth_39 : decode cL_isFifth 39 = .ok (.goto 4, 3) := by decide +kernel
theorem dL_isFifth_42 : decode cL_isFifth 42 = .ok (.iconst 0, 1) := by decide +kernel
theorem dL_isFifth_43 : decode cL_isFifth 43 = .ok (.iadd, 1) := by decide +kernel
theorem dL_isFifth_44 : decode cL_isFifth 44 = .ok (.istore_n 3, 1) := by decide +kernel
theorem dL_isFifth_45 : decode cL_isFifth 45 = .ok (.iinc 4 1, 3) := by decide +kernel
theorem dL_isFifth_48 : decode cL_isFifth 48 = .ok (.goto (-43), 3) := by decide +kernel
theorem dL_isFifth_51 : decode cL_isFifth 51 = .ok (.iload_n 3, 1) := by decide +kernel
theorem dL_isFifth_52 : decode cL_isFifth 52 = .ok (.iconst 4, 1) := by decide +kernel
theorem dL_isFifth_53 : decode cL_isFifth 53 = .ok (.if_icmp .ne 17, 3) := by decide +kernel
theorem dL_isFifth_56 : decode cL_isFifth 56 = .ok (.aload_n 1, 1) := by decide +kernel
theorem dL_isFifth_57 : decode cL_isFifth 57 = .ok (.iconst 3, 1) := by decide +kernel
theorem dL_isFifth_58 : decode cL_isFifth 58 = .ok (.iaload, 1) := by decide +kernel
theorem dL_isFifth_59 : decode cL_isFifth 59 = .ok (.iconst 1, 1) := by decide +kernel
theorem dL_isFifth_60 : decode cL_isFifth 60 = .ok (.iload_n 2, 1) := by decide +kernel
theorem dL_isFifth_61 : decode cL_isFifth 61 = .ok (.ishl, 1) := by decide +kernel
theorem dL_isFifth_62 : decode cL_isFifth 62 = .ok (.iand, 1) := by decide +kernel
theorem dL_isFifth_63 : decode cL_isFifth 63 = .ok (.ifCond .ne 7, 3) := by decide +kernel
theorem dL_isFifth_66 : decode cL_isFifth 66 = .ok (.iconst 1, 1) := by decide +kernel
theorem dL_isFifth_67 : decode cL_isFifth 67 = .ok (.goto 4, 3) := by decide +kernel
theorem dL_isFifth_70 : decode cL_isFifth 70 = .ok (.iconst 0, 1) := by decide +kernel
theorem dL_isFifth_71 : decode cL_isFifth 71 = .ok (.ireturn, 1) := by decide +kernel
theorem dL_tell_0 : decode cL_tell 0 = .ok (.aload_n 0, 1) := by decide +kernel
theorem dL_tell_1 : decode cL_tell 1 = .ok (.aload_n 3, 1) := by decide +kernel
theorem dL_tell_2 : decode cL_tell 2 = .ok (.iconst 0, 1) := by decide +kernel
theorem dL_tell_3 : decode cL_tell 3 = .ok (.iaload, 1) := by decide +kernel
theorem dL_tell_4 : decode cL_tell 4 = .ok (.invokevirtual 21, 3) := by decide +kernel
theorem dL_tell_7 : decode cL_tell 7 = .ok (.bipush 24, 2) := by decide +kernel
theorem dL_tell_9 : decode cL_tell 9 = .ok (.if_icmp .ne 18, 3) := by decide +kernel
theorem dL_tell_12 : decode cL_tell 12 = .ok (.aload_n 0, 1) := by decide +kernel
theorem dL_tell_13 : decode cL_tell 13 = .ok (.aload_n 3, 1) := by decide +kernel
theorem dL_tell_14 : decode cL_tell 14 = .ok (.iconst 1, 1) := by decide +kernel
theorem dL_tell_15 : decode cL_tell 15 = .ok (.iaload, 1) := by decide +kernel
theorem dL_tell_16 : decode cL_tell 16 = .ok (.invokevirtual 27, 3) := by decide +kernel
theorem dL_tell_19 : decode cL_tell 19 = .ok (.iconst 1, 1) := by decide +kernel
theorem dL_tell_20 : decode cL_tell 20 = .ok (.if_icmp .ne 7, 3) := by decide +kernel
theorem dL_tell_23 : decode cL_tell 23 = .ok (.iconst 1, 1) := by decide +kernel
theorem dL_tell_24 : decode cL_tell 24 = .ok (.goto 4, 3) := by decide +kernel
theorem dL_tell_27 : decode cL_tell 27 = .ok (.iconst 0, 1) := by decide +kernel
theorem dL_tell_28 : decode cL_tell 28 = .ok (.istore 6, 2) := by decide +kernel
theorem dL_tell_30 : decode cL_tell 30 = .ok (.iconst 0, 1) := by decide +kernel
theorem dL_tell_31 : decode cL_tell 31 = .ok (.istore 7, 2) := by decide +kernel
theorem dL_tell_33 : decode cL_tell 33 = .ok (.iload 7, 2) := by decide +kernel
theorem dL_tell_35 : decode cL_tell 35 = .ok (.aload 4, 2) := by decide +kernel
theorem dL_tell_37 : decode cL_tell 37 = .ok (.arraylength, 1) := by decide +kernel
theorem dL_tell_38 : decode cL_tell 38 = .ok (.if_icmp .ge 51, 3) := by decide +kernel
theorem dL_tell_41 : decode cL_tell 41 = .ok (.iload 6, 2) := by decide +kernel
theorem dL_tell_43 : decode cL_tell 43 = .ok (.ifCond .eq 37, 3) := by decide +kernel
theorem dL_tell_46 : decode cL_tell 46 = .ok (.aload_n 0, 1) := by decide +kernel
theorem dL_tell_47 : decode cL_tell 47 = .ok (.aload 4, 2) := by decide +kernel
theorem dL_tell_49 : decode cL_tell 49 = .ok (.iload 7, 2) := by decide +kernel
theorem dL_tell_51 : decode cL_tell 51 = .ok (.aaload, 1) := by decide +kernel
theorem dL_tell_52 : decode cL_tell 52 = .ok (.iconst 0, 1) := by decide +kernel
theorem dL_tell_53 : decode cL_tell 53 = .ok (.iaload, 1) := by decide +kernel
theorem dL_tell_54 : decode cL_tell 54 = .ok (.aload 4, 2) := by decide +kernel
theorem dL_tell_56 : decode cL_tell 56 = .ok (.iload 7, 2) := by decide +kernel
theorem dL_tell_58 : decode cL_tell 58 = .ok (.aaload, 1) := by decide +kernel
theorem dL_tell_59 : decode cL_tell 59 = .ok (.iconst 1, 1) := by decide +kernel
theorem dL_tell_60 : decode cL_tell 60 = .ok (.iaload, 1) := by decide +kernel
theorem dL_tell_61 : decode cL_tell 61 = .ok (.aload 4, 2) := by decide +kernel
theorem dL_tell_63 : decode cL_tell 63 = .ok (.iload 7, 2) := by decide +kernel
theorem dL_tell_65 : decode cL_tell 65 = .ok (.aaload, 1) := by decide +kernel
theorem dL_tell_66 : decode cL_tell 66 = .ok (.iconst 2, 1) := by decide +kernel
theorem dL_tell_67 : decode cL_tell 67 = .ok (.iaload, 1) := by decide +kernel
theorem dL_tell_68 : decode cL_tell 68 = .ok (.invokevirtual 30, 3) := by decide +kernel
theorem dL_tell_71 : decode cL_tell 71 = .ok (.iload 7, 2) := by decide +kernel
theorem dL_tell_73 : decode cL_tell 73 = .ok (.if_icmp .ne 7, 3) := by decide +kernel
theorem dL_tell_76 : decode cL_tell 76 = .ok (.iconst 1, 1) := by decide +kernel
theorem dL_tell_77 : decode cL_tell 77 = .ok (.goto 4, 3) := by decide +kernel
theorem dL_tell_80 : decode cL_tell 80 = .ok (.iconst 0, 1) := by decide +kernel
theorem dL_tell_81 : decode cL_tell 81 = .ok (.istore 6, 2) := by decide +kernel
theorem dL_tell_83 : decode cL_tell 83 = .ok (.iinc 7 1, 3) := by decide +kernel
theorem dL_tell_86 : decode cL_tell 86 = .ok (.goto (-53), 3) := by decide +kernel
theorem dL_tell_89 : decode cL_tell 89 = .ok (.iconst 0, 1) := by decide +kernel
theorem dL_tell_90 : decode cL_tell 90 = .ok (.istore 7, 2) := by decide +kernel
theorem dL_tell_92 : decode cL_tell 92 = .ok (.iload 7, 2) := by decide +kernel
theorem dL_tell_94 : decode cL_tell 94 = .ok (.aload 5, 2) := by decide +kernel
theorem dL_tell_96 : decode cL_tell 96 = .ok (.arraylength, 1) := by decide +kernel
theorem dL_tell_97 : decode cL_tell 97 = .ok (.if_icmp .ge 168, 3) := by decide +kernel
theorem dL_tell_100 : decode cL_tell 100 = .ok (.iload 6, 2) := by decide +kernel
theorem dL_tell_102 : decode cL_tell 102 = .ok (.ifCond .eq 46, 3) := by decide +kernel
theorem dL_tell_105 : decode cL_tell 105 = .ok (.aload_n 0, 1) := by decide +kernel
theorem dL_tell_106 : decode cL_tell 106 = .ok (.aload 5, 2) := by decide +kernel
theorem dL_tell_108 : decode cL_tell 108 = .ok (.iload 7, 2) := by decide +kernel
theorem dL_tell_110 : decode cL_tell 110 = .ok (.aaload, 1) := by decide +kernel
theorem dL_tell_111 : decode cL_tell 111 = .ok (.iconst 0, 1) := by decide +kernel
theorem dL_tell_112 : decode cL_tell 112 = .ok (.iaload, 1) := by decide +kernel
theorem dL_tell_113 : decode cL_tell 113 = .ok (.aload 5, 2) := by decide +kernel
theorem dL_tell_115 : decode cL_tell 115 = .ok (.iload 7, 2) := by decide +kernel
theorem dL_tell_117 : decode cL_tell 117 = .ok (.aaload, 1) := by decide +kernel
theorem dL_tell_118 : decode cL_tell 118 = .ok (.iconst 1, 1) := by decide +kernel
theorem dL_tell_119 : decode cL_tell 119 = .ok (.iaload, 1) := by decide +kernel
theorem dL_tell_120 : decode cL_tell 120 = .ok (.invokevirtual 34, 3) := by decide +kernel
theorem dL_tell_123 : decode cL_tell 123 = .ok (.iload 7, 2) := by decide +kernel
theorem dL_tell_125 : decode cL_tell 125 = .ok (.if_icmp .ne 23, 3) := by decide +kernel
theorem dL_tell_128 : decode cL_tell 128 = .ok (.aload_n 0, 1) := by decide +kernel
theorem dL_tell_129 : decode cL_tell 129 = .ok (.iload 7, 2) := by decide +kernel
theorem dL_tell_131 : decode cL_tell 131 = .ok (.aload 5, 2) := by decide +kernel
theorem dL_tell_133 : decode cL_tell 133 = .ok (.iload 7, 2) := by decide +kernel
theorem dL_tell_135 : decode cL_tell 135 = .ok (.aaload, 1) := by decide +kernel
theorem dL_tell_136 : decode cL_tell 136 = .ok (.iconst 2, 1) := by decide +kernel
theorem dL_tell_137 : decode cL_tell 137 = .ok (.iaload, 1) := by decide +kernel
theorem dL_tell_138 : decode cL_tell 138 = .ok (.invokevirtual 38, 3) := by decide +kernel
theorem dL_tell_141 : decode cL_tell 141 = .ok (.ifCond .ne 7, 3) := by decide +kernel
theorem dL_tell_144 : decode cL_tell 144 = .ok (.iconst 1, 1) := by decide +kernel
theorem dL_tell_145 : decode cL_tell 145 = .ok (.goto 4, 3) := by decide +kernel
theorem dL_tell_148 : decode cL_tell 148 = .ok (.iconst 0, 1) := by decide +kernel
theorem dL_tell_149 : decode cL_tell 149 = .ok (.istore 6, 2) := by decide +kernel
theorem dL_tell_151 : decode cL_tell 151 = .ok (.iconst 0, 1) := by decide +kernel
theorem dL_tell_152 : decode cL_tell 152 = .ok (.istore 8, 2) := by decide +kernel
theorem dL_tell_154 : decode cL_tell 154 = .ok (.iload 8, 2) := by decide +kernel
theorem dL_tell_156 : decode cL_tell 156 = .ok (.aload 4, 2) := by decide +kernel
theorem dL_tell_158 : decode cL_tell 158 = .ok (.arraylength, 1) := by decide +kernel
theorem dL_tell_159 : decode cL_tell 159 = .ok (.if_icmp .ge 100, 3) := by decide +kernel
theorem dL_tell_162 : decode cL_tell 162 = .ok (.aload_n 1, 1) := by decide +kernel
theorem dL_tell_163 : decode cL_tell 163 = .ok (.iload_n 2, 1) := by decide +kernel
theorem dL_tell_164 : decode cL_tell 164 = .ok (.bipush 12, 2) := by decide +kernel
theorem dL_tell_166 : decode cL_tell 166 = .ok (.iload 7, 2) := by decide +kernel
theorem dL_tell_168 : decode cL_tell 168 = .ok (.imul, 1) := by decide +kernel
theorem dL_tell_169 : decode cL_tell 169 = .ok (.iadd, 1) := by decide +kernel
theorem dL_tell_170 : decode cL_tell 170 = .ok (.iload 8, 2) := by decide +kernel
theorem dL_tell_172 : decode cL_tell 172 = .ok (.iadd, 1) := by decide +kernel
theorem dL_tell_173 : decode cL_tell 173 = .ok (.iconst 5, 1) := by decide +kernel
theorem dL_tell_174 : decode cL_tell 174 = .ok (.invokestatic 17, 3) := by decide +kernel
theorem dL_tell_177 : decode cL_tell 177 = .ok (.iconst 3, 1) := by decide +kernel
theorem dL_tell_178 : decode cL_tell 178 = .ok (.if_icmp .ge 75, 3) := by decide +kernel
theorem dL_tell_181 : decode cL_tell 181 = .ok (.aload 4, 2) := by decide +kernel
theorem dL_tell_183 : decode cL_tell 183 = .ok (.aload 5, 2) := by decide +kernel
theorem dL_tell_185 : decode cL_tell 185 = .ok (.iload 7, 2) := by decide +kernel
theorem dL_tell_187 : decode cL_tell 187 = .ok (.aaload, 1) := by decide +kernel
theorem dL_tell_188 : decode cL_tell 188 = .ok (.iload 8, 2) := by decide +kernel
theorem dL_tell_190 : decode cL_tell 190 = .ok (.invokestatic 41, 3) := by decide +kernel
theorem dL_tell_193 : decode cL_tell 193 = .ok (.istore 9, 2) := by decide +kernel
theorem dL_tell_195 : decode cL_tell 195 = .ok (.aload 5, 2) := by decide +kernel
theorem dL_tell_197 : decode cL_tell 197 = .ok (.iload 7, 2) := by decide +kernel
theorem dL_tell_199 : decode cL_tell 199 = .ok (.aaload, 1) := by decide +kernel
theorem dL_tell_200 : decode cL_tell 200 = .ok (.iconst 3, 1) := by decide +kernel
theorem dL_tell_201 : decode cL_tell 201 = .ok (.dup2, 1) := by decide +kernel
theorem dL_tell_202 : decode cL_tell 202 = .ok (.iaload, 1) := by decide +kernel
theorem dL_tell_203 : decode cL_tell 203 = .ok (.iload 9, 2) := by decide +kernel
theorem dL_tell_205 : decode cL_tell 205 = .ok (.ifCond .eq 7, 3) := by decide +kernel
theorem dL_tell_208 : decode cL_tell 208 = .ok (.iconst 0, 1) := by decide +kernel
theorem dL_tell_209 : decode cL_tell 209 = .ok (.goto 7, 3) := by decide +kernel
theorem dL_tell_212 : decode cL_tell 212 = .ok (.iconst 1, 1) := by decide +kernel
theorem dL_tell_213 : decode cL_tell 213 = .ok (.iload 8, 2) := by decide +kernel
theorem dL_tell_215 : decode cL_tell 215 = .ok (.ishl, 1) := by decide +kernel
theorem dL_tell_216 : decode cL_tell 216 = .ok (.ior, 1) := by decide +kernel
theorem dL_tell_217 : decode cL_tell 217 = .ok (.iastore, 1) := by decide +kernel
theorem dL_tell_218 : decode cL_tell 218 = .ok (.iload 6, 2) := by decide +kernel
theorem dL_tell_220 : decode cL_tell 220 = .ok (.ifCond .eq 30, 3) := by decide +kernel
theorem dL_tell_223 : decode cL_tell 223 = .ok (.aload_n 0, 1) := by decide +kernel
theorem dL_tell_224 : decode cL_tell 224 = .ok (.iload 7, 2) := by decide +kernel
theorem dL_tell_226 : decode cL_tell 226 = .ok (.iload 8, 2) := by decide +kernel
theorem dL_tell_228 : decode cL_tell 228 = .ok (.iconst 1, 1) := by decide +kernel
theorem dL_tell_229 : decode cL_tell 229 = .ok (.invokevirtual 45, 3) := by decide +kernel
theorem dL_tell_232 : decode cL_tell 232 = .ok (.iload 9, 2) := by decide +kernel
theorem dL_tell_234 : decode cL_tell 234 = .ok (.ifCond .eq 8, 3) := by decide +kernel
theorem dL_tell_237 : decode cL_tell 237 = .ok (.bipush (-55), 2) := by decide +kernel
theorem dL_tell_239 : decode cL_tell 239 = .ok (.goto 4, 3) := by decide +kernel
theorem dL_tell_242 : decode cL_tell 242 = .ok (.iconst 0, 1) := by decide +kernel
theorem dL_tell_243 : decode cL_tell 243 = .ok (.if_icmp .ne 7, 3) := by decide +kernel
theorem dL_tell_246 : decode cL_tell 246 = .ok (.iconst 1, 1) := by decide +kernel
theorem dL_tell_247 : decode cL_tell 247 = .ok (.goto 4, 3) := by decide +kernel
theorem dL_tell_250 : decode cL_tell 250 = .ok (.iconst 0, 1) := by decide +kernel
theorem dL_tell_251 : decode cL_tell 251 = .ok (.istore 6, 2) := by decide +kernel
theorem dL_tell_253 : decode cL_tell 253 = .ok (.iinc 8 1, 3) := by decide +kernel
theorem dL_tell_256 : decode cL_tell 256 = .ok (.goto (-102), 3) := by decide +kernel
theorem dL_tell_259 : decode cL_tell 259 = .ok (.iinc 7 1, 3) := by decide +kernel
theorem dL_tell_262 : decode cL_tell 262 = .ok (.goto (-170), 3) := by decide +kernel
theorem dL_tell_265 : decode cL_tell 265 = .ok (.iload 6, 2) := by decide +kernel
theorem dL_tell_267 : decode cL_tell 267 = .ok (.ireturn, 1) := by decide +kernel
theorem dL_looks_0 : decode cL_looks 0 = .ok (.ldc2_w 48, 3) := by decide +kernel
theorem dL_looks_3 : decode cL_looks 3 = .ok (.lstore_n 1, 1) := by decide +kernel
theorem dL_looks_4 : decode cL_looks 4 = .ok (.iconst 0, 1) := by decide +kernel
theorem dL_looks_5 : decode cL_looks 5 = .ok (.istore_n 3, 1) := by decide +kernel
theorem dL_looks_6 : decode cL_looks 6 = .ok (.iload_n 3, 1) := by decide +kernel
theorem dL_looks_7 : decode cL_looks 7 = .ok (.aload_n 0, 1) := by decide +kernel
theorem dL_looks_8 : decode cL_looks 8 = .ok (.iconst 1, 1) := by decide +kernel
theorem dL_looks_9 : decode cL_looks 9 = .ok (.invokevirtual 50, 3) := by decide +kernel
theorem dL_looks_12 : decode cL_looks 12 = .ok (.if_icmp .ge 85, 3) := by decide +kernel
theorem dL_looks_15 : decode cL_looks 15 = .ok (.iconst 0, 1) := by decide +kernel
theorem dL_looks_16 : decode cL_looks 16 = .ok (.istore 4, 2) := by decide +kernel
theorem dL_looks_18 : decode cL_looks 18 = .ok (.iload 4, 2) := by decide +kernel
theorem dL_looks_20 : decode cL_looks 20 = .ok (.bipush 6, 2) := by decide +kernel
theorem dL_looks_22 : decode cL_looks 22 = .ok (.if_icmp .ge 24, 3) := by decide +kernel
theorem dL_looks_25 : decode cL_looks 25 = .ok (.ldc2_w 53, 3) := by decide +kernel
theorem dL_looks_28 : decode cL_looks 28 = .ok (.lload_n 1, 1) := by decide +kernel
theorem dL_looks_29 : decode cL_looks 29 = .ok (.lmul, 1) := by decide +kernel
theorem dL_looks_30 : decode cL_looks 30 = .ok (.aload_n 0, 1) := by decide +kernel
theorem dL_looks_31 : decode cL_looks 31 = .ok (.iload_n 3, 1) := by decide +kernel
theorem dL_looks_32 : decode cL_looks 32 = .ok (.iload 4, 2) := by decide +kernel
theorem dL_looks_34 : decode cL_looks 34 = .ok (.invokevirtual 55, 3) := by decide +kernel
theorem dL_looks_37 : decode cL_looks 37 = .ok (.i2l, 1) := by decide +kernel
theorem dL_looks_38 : decode cL_looks 38 = .ok (.ladd, 1) := by decide +kernel
theorem dL_looks_39 : decode cL_looks 39 = .ok (.lstore_n 1, 1) := by decide +kernel
theorem dL_looks_40 : decode cL_looks 40 = .ok (.iinc 4 1, 3) := by decide +kernel
theorem dL_looks_43 : decode cL_looks 43 = .ok (.goto (-25), 3) := by decide +kernel
theorem dL_looks_46 : decode cL_looks 46 = .ok (.iconst 0, 1) := by decide +kernel
theorem dL_looks_47 : decode cL_looks 47 = .ok (.istore 4, 2) := by decide +kernel
theorem dL_looks_49 : decode cL_looks 49 = .ok (.iload 4, 2) := by decide +kernel
theorem dL_looks_51 : decode cL_looks 51 = .ok (.iconst 5, 1) := by decide +kernel
theorem dL_looks_52 : decode cL_looks 52 = .ok (.if_icmp .ge 39, 3) := by decide +kernel
theorem dL_looks_55 : decode cL_looks 55 = .ok (.ldc2_w 53, 3) := by decide +kernel
theorem dL_looks_58 : decode cL_looks 58 = .ok (.ldc2_w 53, 3) := by decide +kernel
theorem dL_looks_61 : decode cL_looks 61 = .ok (.lload_n 1, 1) := by decide +kernel
theorem dL_looks_62 : decode cL_looks 62 = .ok (.lmul, 1) := by decide +kernel
theorem dL_looks_63 : decode cL_looks 63 = .ok (.aload_n 0, 1) := by decide +kernel
theorem dL_looks_64 : decode cL_looks 64 = .ok (.iload_n 3, 1) := by decide +kernel
theorem dL_looks_65 : decode cL_looks 65 = .ok (.iload 4, 2) := by decide +kernel
theorem dL_looks_67 : decode cL_looks 67 = .ok (.iconst 1, 1) := by decide +kernel
theorem dL_looks_68 : decode cL_looks 68 = .ok (.invokevirtual 58, 3) := by decide +kernel
theorem dL_looks_71 : decode cL_looks 71 = .ok (.i2l, 1) := by decide +kernel
theorem dL_looks_72 : decode cL_looks 72 = .ok (.ladd, 1) := by decide +kernel
theorem dL_looks_73 : decode cL_looks 73 = .ok (.lmul, 1) := by decide +kernel
theorem dL_looks_74 : decode cL_looks 74 = .ok (.aload_n 0, 1) := by decide +kernel
theorem dL_looks_75 : decode cL_looks 75 = .ok (.iload_n 3, 1) := by decide +kernel
theorem dL_looks_76 : decode cL_looks 76 = .ok (.iload 4, 2) := by decide +kernel
theorem dL_looks_78 : decode cL_looks 78 = .ok (.iconst 2, 1) := by decide +kernel
theorem dL_looks_79 : decode cL_looks 79 = .ok (.invokevirtual 58, 3) := by decide +kernel
theorem dL_looks_82 : decode cL_looks 82 = .ok (.i2l, 1) := by decide +kernel
theorem dL_looks_83 : decode cL_looks 83 = .ok (.ladd, 1) := by decide +kernel
theorem dL_looks_84 : decode cL_looks 84 = .ok (.lstore_n 1, 1) := by decide +kernel
theorem dL_looks_85 : decode cL_looks 85 = .ok (.iinc 4 1, 3) := by decide +kernel
theorem dL_looks_88 : decode cL_looks 88 = .ok (.goto (-39), 3) := by decide +kernel
theorem dL_looks_91 : decode cL_looks 91 = .ok (.iinc 3 1, 3) := by decide +kernel
theorem dL_looks_94 : decode cL_looks 94 = .ok (.goto (-88), 3) := by decide +kernel
theorem dL_looks_97 : decode cL_looks 97 = .ok (.iconst 0, 1) := by decide +kernel
theorem dL_looks_98 : decode cL_looks 98 = .ok (.istore_n 3, 1) := by decide +kernel
theorem dL_looks_99 : decode cL_looks 99 = .ok (.iload_n 3, 1) := by decide +kernel
theorem dL_looks_100 : decode cL_looks 100 = .ok (.aload_n 0, 1) := by decide +kernel
theorem dL_looks_101 : decode cL_looks 101 = .ok (.iconst 0, 1) := by decide +kernel
theorem dL_looks_102 : decode cL_looks 102 = .ok (.invokevirtual 50, 3) := by decide +kernel
theorem dL_looks_105 : decode cL_looks 105 = .ok (.if_icmp .ge 39, 3) := by decide +kernel
theorem dL_looks_108 : decode cL_looks 108 = .ok (.iconst 0, 1) := by decide +kernel
theorem dL_looks_109 : decode cL_looks 109 = .ok (.istore 4, 2) := by decide +kernel
theorem dL_looks_111 : decode cL_looks 111 = .ok (.iload 4, 2) := by decide +kernel
theorem dL_looks_113 : decode cL_looks 113 = .ok (.iconst 5, 1) := by decide +kernel
theorem dL_looks_114 : decode cL_looks 114 = .ok (.if_icmp .ge 24, 3) := by decide +kernel
theorem dL_looks_117 : decode cL_looks 117 = .ok (.ldc2_w 53, 3) := by decide +kernel
theorem dL_looks_120 : decode cL_looks 120 = .ok (.lload_n 1, 1) := by decide +kernel
theorem dL_looks_121 : decode cL_looks 121 = .ok (.lmul, 1) := by decide +kernel
theorem dL_looks_122 : decode cL_looks 122 = .ok (.aload_n 0, 1) := by decide +kernel
theorem dL_looks_123 : decode cL_looks 123 = .ok (.iload_n 3, 1) := by decide +kernel
theorem dL_looks_124 : decode cL_looks 124 = .ok (.iload 4, 2) := by decide +kernel
theorem dL_looks_126 : decode cL_looks 126 = .ok (.invokevirtual 61, 3) := by decide +kernel
theorem dL_looks_129 : decode cL_looks 129 = .ok (.i2l, 1) := by decide +kernel
theorem dL_looks_130 : decode cL_looks 130 = .ok (.ladd, 1) := by decide +kernel
theorem dL_looks_131 : decode cL_looks 131 = .ok (.lstore_n 1, 1) := by decide +kernel
theorem dL_looks_132 : decode cL_looks 132 = .ok (.iinc 4 1, 3) := by decide +kernel
theorem dL_looks_135 : decode cL_looks 135 = .ok (.goto (-24), 3) := by decide +kernel
theorem dL_looks_138 : decode cL_looks 138 = .ok (.iinc 3 1, 3) := by decide +kernel
theorem dL_looks_141 : decode cL_looks 141 = .ok (.goto (-42), 3) := by decide +kernel
theorem dL_looks_144 : decode cL_looks 144 = .ok (.iconst 0, 1) := by decide +kernel
theorem dL_looks_145 : decode cL_looks 145 = .ok (.istore_n 3, 1) := by decide +kernel
theorem dL_looks_146 : decode cL_looks 146 = .ok (.iload_n 3, 1) := by decide +kernel
theorem dL_looks_147 : decode cL_looks 147 = .ok (.bipush 9, 2) := by decide +kernel
theorem dL_looks_149 : decode cL_looks 149 = .ok (.if_icmp .ge 22, 3) := by decide +kernel
theorem dL_looks_152 : decode cL_looks 152 = .ok (.ldc2_w 53, 3) := by decide +kernel
theorem dL_looks_155 : decode cL_looks 155 = .ok (.lload_n 1, 1) := by decide +kernel
theorem dL_looks_156 : decode cL_looks 156 = .ok (.lmul, 1) := by decide +kernel
theorem dL_looks_157 : decode cL_looks 157 = .ok (.aload_n 0, 1) := by decide +kernel
theorem dL_looks_158 : decode cL_looks 158 = .ok (.iload_n 3, 1) := by decide +kernel
theorem dL_looks_159 : decode cL_looks 159 = .ok (.invokevirtual 50, 3) := by decide +kernel
theorem dL_looks_162 : decode cL_looks 162 = .ok (.i2l, 1) := by decide +kernel
theorem dL_looks_163 : decode cL_looks 163 = .ok (.ladd, 1) := by decide +kernel
theorem dL_looks_164 : decode cL_looks 164 = .ok (.lstore_n 1, 1) := by decide +kernel
theorem dL_looks_165 : decode cL_looks 165 = .ok (.iinc 3 1, 3) := by decide +kernel
theorem dL_looks_168 : decode cL_looks 168 = .ok (.goto (-22), 3) := by decide +kernel
theorem dL_looks_171 : decode cL_looks 171 = .ok (.lload_n 1, 1) := by decide +kernel
theorem dL_looks_172 : decode cL_looks 172 = .ok (.lreturn, 1) := by decide +kernel
theorem dL_isPlanned_0 : decode cL_isPlanned 0 = .ok (.iload 4, 2) := by decide +kernel
theorem dL_isPlanned_2 : decode cL_isPlanned 2 = .ok (.ifCond .ne 7, 3) := by decide +kernel
theorem dL_isPlanned_5 : decode cL_isPlanned 5 = .ok (.iconst (-1), 1) := by decide +kernel
theorem dL_isPlanned_6 : decode cL_isPlanned 6 = .ok (.goto 13, 3) := by decide +kernel
theorem dL_isPlanned_9 : decode cL_isPlanned 9 = .ok (.aload_n 0, 1) := by decide +kernel
theorem dL_isPlanned_10 : decode cL_isPlanned 10 = .ok (.iload_n 3, 1) := by decide +kernel
theorem dL_isPlanned_11 : decode cL_isPlanned 11 = .ok (.iload 4, 2) := by decide +kernel
theorem dL_isPlanned_13 : decode cL_isPlanned 13 = .ok (.iconst 1, 1) := by decide +kernel
theorem dL_isPlanned_14 : decode cL_isPlanned 14 = .ok (.isub, 1) := by decide +kernel
theorem dL_isPlanned_15 : decode cL_isPlanned 15 = .ok (.iconst 2, 1) := by decide +kernel
theorem dL_isPlanned_16 : decode cL_isPlanned 16 = .ok (.invokevirtual 58, 3) := by decide +kernel
theorem dL_isPlanned_19 : decode cL_isPlanned 19 = .ok (.istore 5, 2) := by decide +kernel
theorem dL_isPlanned_21 : decode cL_isPlanned 21 = .ok (.iload 5, 2) := by decide +kernel
theorem dL_isPlanned_23 : decode cL_isPlanned 23 = .ok (.ifCond .ge 7, 3) := by decide +kernel
theorem dL_isPlanned_26 : decode cL_isPlanned 26 = .ok (.iconst 0, 1) := by decide +kernel
theorem dL_isPlanned_27 : decode cL_isPlanned 27 = .ok (.goto 10, 3) := by decide +kernel
theorem dL_isPlanned_30 : decode cL_isPlanned 30 = .ok (.aload_n 0, 1) := by decide +kernel
theorem dL_isPlanned_31 : decode cL_isPlanned 31 = .ok (.iload_n 3, 1) := by decide +kernel
theorem dL_isPlanned_32 : decode cL_isPlanned 32 = .ok (.iload 5, 2) := by decide +kernel
theorem dL_isPlanned_34 : decode cL_isPlanned 34 = .ok (.invokevirtual 64, 3) := by decide +kernel
theorem dL_isPlanned_37 : decode cL_isPlanned 37 = .ok (.istore 6, 2) := by decide +kernel
theorem dL_isPlanned_39 : decode cL_isPlanned 39 = .ok (.aload_n 0, 1) := by decide +kernel
theorem dL_isPlanned_40 : decode cL_isPlanned 40 = .ok (.iload_n 3, 1) := by decide +kernel
theorem dL_isPlanned_41 : decode cL_isPlanned 41 = .ok (.iconst 4, 1) := by decide +kernel
theorem dL_isPlanned_42 : decode cL_isPlanned 42 = .ok (.invokevirtual 55, 3) := by decide +kernel
theorem dL_isPlanned_45 : decode cL_isPlanned 45 = .ok (.istore 7, 2) := by decide +kernel
theorem dL_isPlanned_47 : decode cL_isPlanned 47 = .ok (.aload_n 0, 1) := by decide +kernel
theorem dL_isPlanned_48 : decode cL_isPlanned 48 = .ok (.iload_n 3, 1) := by decide +kernel
theorem dL_isPlanned_49 : decode cL_isPlanned 49 = .ok (.iload 4, 2) := by decide +kernel
theorem dL_isPlanned_51 : decode cL_isPlanned 51 = .ok (.iconst 5, 1) := by decide +kernel
theorem dL_isPlanned_52 : decode cL_isPlanned 52 = .ok (.invokevirtual 58, 3) := by decide +kernel
theorem dL_isPlanned_55 : decode cL_isPlanned 55 = .ok (.istore 8, 2) := by decide +kernel
theorem dL_isPlanned_57 : decode cL_isPlanned 57 = .ok (.aload_n 0, 1) := by decide +kernel
theorem dL_isPlanned_58 : decode cL_isPlanned 58 = .ok (.iload_n 3, 1) := by decide +kernel
theorem dL_isPlanned_59 : decode cL_isPlanned 59 = .ok (.iload 4, 2) := by decide +kernel
theorem dL_isPlanned_61 : decode cL_isPlanned 61 = .ok (.iconst 2, 1) := by decide +kernel
theorem dL_isPlanned_62 : decode cL_isPlanned 62 = .ok (.invokevirtual 58, 3) := by decide +kernel
theorem dL_isPlanned_65 : decode cL_isPlanned 65 = .ok (.istore 9, 2) := by decide +kernel
theorem dL_isPlanned_67 : decode cL_isPlanned 67 = .ok (.aload_n 0, 1) := by decide +kernel
theorem dL_isPlanned_68 : decode cL_isPlanned 68 = .ok (.iload_n 3, 1) := by decide +kernel
theorem dL_isPlanned_69 : decode cL_isPlanned 69 = .ok (.iload 4, 2) := by decide +kernel
theorem dL_isPlanned_71 : decode cL_isPlanned 71 = .ok (.iconst 4, 1) := by decide +kernel
theorem dL_isPlanned_72 : decode cL_isPlanned 72 = .ok (.invokevirtual 58, 3) := by decide +kernel
theorem dL_isPlanned_75 : decode cL_isPlanned 75 = .ok (.iload 6, 2) := by decide +kernel
theorem dL_isPlanned_77 : decode cL_isPlanned 77 = .ok (.if_icmp .ne 32, 3) := by decide +kernel
theorem dL_isPlanned_80 : decode cL_isPlanned 80 = .ok (.aload_n 0, 1) := by decide +kernel
theorem dL_isPlanned_81 : decode cL_isPlanned 81 = .ok (.iload_n 3, 1) := by decide +kernel
theorem dL_isPlanned_82 : decode cL_isPlanned 82 = .ok (.iload 4, 2) := by decide +kernel
theorem dL_isPlanned_84 : decode cL_isPlanned 84 = .ok (.iconst 3, 1) := by decide +kernel
theorem dL_isPlanned_85 : decode cL_isPlanned 85 = .ok (.invokevirtual 58, 3) := by decide +kernel
theorem dL_isPlanned_88 : decode cL_isPlanned 88 = .ok (.iload 5, 2) := by decide +kernel
theorem dL_isPlanned_90 : decode cL_isPlanned 90 = .ok (.ifCond .ge 7, 3) := by decide +kernel
theorem dL_isPlanned_93 : decode cL_isPlanned 93 = .ok (.iconst 0, 1) := by decide +kernel
theorem dL_isPlanned_94 : decode cL_isPlanned 94 = .ok (.goto 8, 3) := by decide +kernel
theorem dL_isPlanned_97 : decode cL_isPlanned 97 = .ok (.iload 6, 2) := by decide +kernel
theorem dL_isPlanned_99 : decode cL_isPlanned 99 = .ok (.iload 7, 2) := by decide +kernel
theorem dL_isPlanned_101 : decode cL_isPlanned 101 = .ok (.iadd, 1) := by decide +kernel
theorem dL_isPlanned_102 : decode cL_isPlanned 102 = .ok (.if_icmp .ne 7, 3) := by decide +kernel
theorem dL_isPlanned_105 : decode cL_isPlanned 105 = .ok (.iconst 1, 1) := by decide +kernel
theorem dL_isPlanned_106 : decode cL_isPlanned 106 = .ok (.goto 4, 3) := by decide +kernel
theorem dL_isPlanned_109 : decode cL_isPlanned 109 = .ok (.iconst 0, 1) := by decide +kernel
theorem dL_isPlanned_110 : decode cL_isPlanned 110 = .ok (.istore 10, 2) := by decide +kernel
theorem dL_isPlanned_112 : decode cL_isPlanned 112 = .ok (.iload 5, 2) := by decide +kernel
theorem dL_isPlanned_114 : decode cL_isPlanned 114 = .ok (.ifCond .ge 7, 3) := by decide +kernel
theorem dL_isPlanned_117 : decode cL_isPlanned 117 = .ok (.iconst 0, 1) := by decide +kernel
theorem dL_isPlanned_118 : decode cL_isPlanned 118 = .ok (.goto 8, 3) := by decide +kernel
theorem dL_isPlanned_121 : decode cL_isPlanned 121 = .ok (.iload 6, 2) := by decide +kernel
theorem dL_isPlanned_123 : decode cL_isPlanned 123 = .ok (.iload 7, 2) := by decide +kernel
theorem dL_isPlanned_125 : decode cL_isPlanned 125 = .ok (.iadd, 1) := by decide +kernel
theorem dL_isPlanned_126 : decode cL_isPlanned 126 = .ok (.istore 11, 2) := by decide +kernel
theorem dL_isPlanned_128 : decode cL_isPlanned 128 = .ok (.iload 6, 2) := by decide +kernel
theorem dL_isPlanned_130 : decode cL_isPlanned 130 = .ok (.istore 12, 2) := by decide +kernel
theorem dL_isPlanned_132 : decode cL_isPlanned 132 = .ok (.iconst 0, 1) := by decide +kernel
theorem dL_isPlanned_133 : decode cL_isPlanned 133 = .ok (.istore 13, 2) := by decide +kernel
theorem dL_isPlanned_135 : decode cL_isPlanned 135 = .ok (.iconst 0, 1) := by decide +kernel
theorem dL_isPlanned_136 : decode cL_isPlanned 136 = .ok (.istore 14, 2) := by decide +kernel
theorem dL_isPlanned_138 : decode cL_isPlanned 138 = .ok (.iload 14, 2) := by decide +kernel
theorem dL_isPlanned_140 : decode cL_isPlanned 140 = .ok (.aload_n 1, 1) := by decide +kernel
theorem dL_isPlanned_141 : decode cL_isPlanned 141 = .ok (.arraylength, 1) := by decide +kernel
theorem dL_isPlanned_142 : decode cL_isPlanned 142 = .ok (.if_icmp .ge 37, 3) := by decide +kernel
theorem dL_isPlanned_145 : decode cL_isPlanned 145 = .ok (.iload 13, 2) := by decide +kernel
theorem dL_isPlanned_147 : decode cL_isPlanned 147 = .ok (.aload_n 1, 1) := by decide +kernel
theorem dL_isPlanned_148 : decode cL_isPlanned 148 = .ok (.iload 14, 2) := by decide +kernel
theorem dL_isPlanned_150 : decode cL_isPlanned 150 = .ok (.aaload, 1) := by decide +kernel
theorem dL_isPlanned_151 : decode cL_isPlanned 151 = .ok (.iconst 0, 1) := by decide +kernel
theorem dL_isPlanned_152 : decode cL_isPlanned 152 = .ok (.iaload, 1) := by decide +kernel
theorem dL_isPlanned_153 : decode cL_isPlanned 153 = .ok (.iload 4, 2) := by decide +kernel
theorem dL_isPlanned_155 : decode cL_isPlanned 155 = .ok (.if_icmp .ne 14, 3) := by decide +kernel
theorem dL_isPlanned_158 : decode cL_isPlanned 158 = .ok (.aload_n 2, 1) := by decide +kernel
theorem dL_isPlanned_159 : decode cL_isPlanned 159 = .ok (.iconst 3, 1) := by decide +kernel
theorem dL_isPlanned_160 : decode cL_isPlanned 160 = .ok (.iaload, 1) := by decide +kernel
theorem dL_isPlanned_161 : decode cL_isPlanned 161 = .ok (.iconst 1, 1) := by decide +kernel
theorem dL_isPlanned_162 : decode cL_isPlanned 162 = .ok (.iload 14, 2) := by decide +kernel
theorem dL_isPlanned_164 : decode cL_isPlanned 164 = .ok (.ishl, 1) := by decide +kernel
theorem dL_isPlanned_165 : decode cL_isPlanned 165 = .ok (.iand, 1) := by decide +kernel
theorem dL_isPlanned_166 : decode cL_isPlanned 166 = .ok (.goto 4, 3) := by decide +kernel
theorem dL_isPlanned_169 : decode cL_isPlanned 169 = .ok (.iconst 0, 1) := by decide +kernel
theorem dL_isPlanned_170 : decode cL_isPlanned 170 = .ok (.ior, 1) := by decide +kernel
theorem dL_isPlanned_171 : decode cL_isPlanned 171 = .ok (.istore 13, 2) := by decide +kernel
theorem dL_isPlanned_173 : decode cL_isPlanned 173 = .ok (.iinc 14 1, 3) := by decide +kernel
theorem dL_isPlanned_176 : decode cL_isPlanned 176 = .ok (.goto (-38), 3) := by decide +kernel
theorem dL_isPlanned_179 : decode cL_isPlanned 179 = .ok (.iload 13, 2) := by decide +kernel
theorem dL_isPlanned_181 : decode cL_isPlanned 181 = .ok (.istore 14, 2) := by decide +kernel
theorem dL_isPlanned_183 : decode cL_isPlanned 183 = .ok (.iconst 0, 1) := by decide +kernel
theorem dL_isPlanned_184 : decode cL_isPlanned 184 = .ok (.istore 15, 2) := by decide +kernel
theorem dL_isPlanned_186 : decode cL_isPlanned 186 = .ok (.iload 15, 2) := by decide +kernel
theorem dL_isPlanned_188 : decode cL_isPlanned 188 = .ok (.iload 8, 2) := by decide +kernel
theorem dL_isPlanned_190 : decode cL_isPlanned 190 = .ok (.if_icmp .ge 144, 3) := by decide +kernel
theorem dL_isPlanned_193 : decode cL_isPlanned 193 = .ok (.aload_n 0, 1) := by decide +kernel
theorem dL_isPlanned_194 : decode cL_isPlanned 194 = .ok (.iload_n 3, 1) := by decide +kernel
theorem dL_isPlanned_195 : decode cL_isPlanned 195 = .ok (.iload 4, 2) := by decide +kernel
theorem dL_isPlanned_197 : decode cL_isPlanned 197 = .ok (.iload 15, 2) := by decide +kernel
theorem dL_isPlanned_199 : decode cL_isPlanned 199 = .ok (.iconst 0, 1) := by decide +kernel
theorem dL_isPlanned_200 : decode cL_isPlanned 200 = .ok (.invokevirtual 67, 3) := by decide +kernel
theorem dL_isPlanned_203 : decode cL_isPlanned 203 = .ok (.istore 16, 2) := by decide +kernel
theorem dL_isPlanned_205 : decode cL_isPlanned 205 = .ok (.aload_n 0, 1) := by decide +kernel
theorem dL_isPlanned_206 : decode cL_isPlanned 206 = .ok (.iload_n 3, 1) := by decide +kernel
theorem dL_isPlanned_207 : decode cL_isPlanned 207 = .ok (.iload 4, 2) := by decide +kernel
theorem dL_isPlanned_209 : decode cL_isPlanned 209 = .ok (.iload 15, 2) := by decide +kernel
theorem dL_isPlanned_211 : decode cL_isPlanned 211 = .ok (.iconst 1, 1) := by decide +kernel
theorem dL_isPlanned_212 : decode cL_isPlanned 212 = .ok (.invokevirtual 67, 3) := by decide +kernel
theorem dL_isPlanned_215 : decode cL_isPlanned 215 = .ok (.istore 17, 2) := by decide +kernel
theorem dL_isPlanned_217 : decode cL_isPlanned 217 = .ok (.aload_n 0, 1) := by decide +kernel
theorem dL_isPlanned_218 : decode cL_isPlanned 218 = .ok (.iload_n 3, 1) := by decide +kernel
theorem dL_isPlanned_219 : decode cL_isPlanned 219 = .ok (.iload 4, 2) := by decide +kernel
theorem dL_isPlanned_221 : decode cL_isPlanned 221 = .ok (.iload 15, 2) := by decide +kernel
theorem dL_isPlanned_223 : decode cL_isPlanned 223 = .ok (.iconst 2, 1) := by decide +kernel
theorem dL_isPlanned_224 : decode cL_isPlanned 224 = .ok (.invokevirtual 67, 3) := by decide +kernel
theorem dL_isPlanned_227 : decode cL_isPlanned 227 = .ok (.istore 18, 2) := by decide +kernel
theorem dL_isPlanned_229 : decode cL_isPlanned 229 = .ok (.iload 10, 2) := by decide +kernel
theorem dL_isPlanned_231 : decode cL_isPlanned 231 = .ok (.ifCond .eq 66, 3) := by decide +kernel
theorem dL_isPlanned_234 : decode cL_isPlanned 234 = .ok (.iload 13, 2) := by decide +kernel
theorem dL_isPlanned_236 : decode cL_isPlanned 236 = .ok (.iconst 1, 1) := by decide +kernel
theorem dL_isPlanned_237 : decode cL_isPlanned 237 = .ok (.iload 16, 2) := by decide +kernel
theorem dL_isPlanned_239 : decode cL_isPlanned 239 = .ok (.ishl, 1) := by decide +kernel
theorem dL_isPlanned_240 : decode cL_isPlanned 240 = .ok (.iand, 1) := by decide +kernel
theorem dL_isPlanned_241 : decode cL_isPlanned 241 = .ok (.ifCond .eq 56, 3) := by decide +kernel
theorem dL_isPlanned_244 : decode cL_isPlanned 244 = .ok (.iload 17, 2) := by decide +kernel
theorem dL_isPlanned_246 : decode cL_isPlanned 246 = .ok (.iload 11, 2) := by decide +kernel
theorem dL_isPlanned_248 : decode cL_isPlanned 248 = .ok (.aload_n 1, 1) := by decide +kernel
theorem dL_isPlanned_249 : decode cL_isPlanned 249 = .ok (.iload 16, 2) := by decide +kernel
theorem dL_isPlanned_251 : decode cL_isPlanned 251 = .ok (.aaload, 1) := by decide +kernel
theorem dL_isPlanned_252 : decode cL_isPlanned 252 = .ok (.iconst 1, 1) := by decide +kernel
theorem dL_isPlanned_253 : decode cL_isPlanned 253 = .ok (.iaload, 1) := by decide +kernel
theorem dL_isPlanned_254 : decode cL_isPlanned 254 = .ok (.if_icmp .le 8, 3) := by decide +kernel
theorem dL_isPlanned_257 : decode cL_isPlanned 257 = .ok (.iload 11, 2) := by decide +kernel
theorem dL_isPlanned_259 : decode cL_isPlanned 259 = .ok (.goto 9, 3) := by decide +kernel
theorem dL_isPlanned_262 : decode cL_isPlanned 262 = .ok (.aload_n 1, 1) := by decide +kernel
theorem dL_isPlanned_263 : decode cL_isPlanned 263 = .ok (.iload 16, 2) := by decide +kernel
theorem dL_isPlanned_265 : decode cL_isPlanned 265 = .ok (.aaload, 1) := by decide +kernel
theorem dL_isPlanned_266 : decode cL_isPlanned 266 = .ok (.iconst 1, 1) := by decide +kernel
theorem dL_isPlanned_267 : decode cL_isPlanned 267 = .ok (.iaload, 1) := by decide +kernel
theorem dL_isPlanned_268 : decode cL_isPlanned 268 = .ok (.if_icmp .ne 29, 3) := by decide +kernel
theorem dL_isPlanned_271 : decode cL_isPlanned 271 = .ok (.iload 18, 2) := by decide +kernel
theorem dL_isPlanned_273 : decode cL_isPlanned 273 = .ok (.iload 17, 2) := by decide +kernel
theorem dL_isPlanned_275 : decode cL_isPlanned 275 = .ok (.aload_n 0, 1) := by decide +kernel
theorem dL_isPlanned_276 : decode cL_isPlanned 276 = .ok (.iload_n 3, 1) := by decide +kernel
theorem dL_isPlanned_277 : decode cL_isPlanned 277 = .ok (.iload 16, 2) := by decide +kernel
theorem dL_isPlanned_279 : decode cL_isPlanned 279 = .ok (.invokevirtual 64, 3) := by decide +kernel
theorem dL_isPlanned_282 : decode cL_isPlanned 282 = .ok (.iadd, 1) := by decide +kernel
theorem dL_isPlanned_283 : decode cL_isPlanned 283 = .ok (.if_icmp .ne 14, 3) := by decide +kernel
theorem dL_isPlanned_286 : decode cL_isPlanned 286 = .ok (.iload 18, 2) := by decide +kernel
theorem dL_isPlanned_288 : decode cL_isPlanned 288 = .ok (.bipush 48, 2) := by decide +kernel
theorem dL_isPlanned_290 : decode cL_isPlanned 290 = .ok (.if_icmp .gt 7, 3) := by decide +kernel
theorem dL_isPlanned_293 : decode cL_isPlanned 293 = .ok (.iconst 1, 1) := by decide +kernel
theorem dL_isPlanned_294 : decode cL_isPlanned 294 = .ok (.goto 4, 3) := by decide +kernel
theorem dL_isPlanned_297 : decode cL_isPlanned 297 = .ok (.iconst 0, 1) := by decide +kernel
theorem dL_isPlanned_298 : decode cL_isPlanned 298 = .ok (.istore 10, 2) := by decide +kernel
theorem dL_isPlanned_300 : decode cL_isPlanned 300 = .ok (.iload 13, 2) := by decide +kernel
theorem dL_isPlanned_302 : decode cL_isPlanned 302 = .ok (.iconst 1, 1) := by decide +kernel
theorem dL_isPlanned_303 : decode cL_isPlanned 303 = .ok (.iload 16, 2) := by decide +kernel
theorem dL_isPlanned_305 : decode cL_isPlanned 305 = .ok (.ishl, 1) := by decide +kernel
theorem dL_isPlanned_306 : decode cL_isPlanned 306 = .ok (.iconst (-1), 1) := by decide +kernel
theorem dL_isPlanned_307 : decode cL_isPlanned 307 = .ok (.ixor, 1) := by decide +kernel
theorem dL_isPlanned_308 : decode cL_isPlanned 308 = .ok (.iand, 1) := by decide +kernel
theorem dL_isPlanned_309 : decode cL_isPlanned 309 = .ok (.istore 13, 2) := by decide +kernel
theorem dL_isPlanned_311 : decode cL_isPlanned 311 = .ok (.iload 18, 2) := by decide +kernel
theorem dL_isPlanned_313 : decode cL_isPlanned 313 = .ok (.iload 7, 2) := by decide +kernel
theorem dL_isPlanned_315 : decode cL_isPlanned 315 = .ok (.iadd, 1) := by decide +kernel
theorem dL_isPlanned_316 : decode cL_isPlanned 316 = .ok (.istore 11, 2) := by decide +kernel
theorem dL_isPlanned_318 : decode cL_isPlanned 318 = .ok (.iload 12, 2) := by decide +kernel
theorem dL_isPlanned_320 : decode cL_isPlanned 320 = .ok (.iload 18, 2) := by decide +kernel
theorem dL_isPlanned_322 : decode cL_isPlanned 322 = .ok (.iload 17, 2) := by decide +kernel
theorem dL_isPlanned_324 : decode cL_isPlanned 324 = .ok (.isub, 1) := by decide +kernel
theorem dL_isPlanned_325 : decode cL_isPlanned 325 = .ok (.iadd, 1) := by decide +kernel
theorem dL_isPlanned_326 : decode cL_isPlanned 326 = .ok (.istore 12, 2) := by decide +kernel
theorem dL_isPlanned_328 : decode cL_isPlanned 328 = .ok (.iinc 15 1, 3) := by decide +kernel
theorem dL_isPlanned_331 : decode cL_isPlanned 331 = .ok (.goto (-145), 3) := by decide +kernel
theorem dL_isPlanned_334 : decode cL_isPlanned 334 = .ok (.iload 10, 2) := by decide +kernel
theorem dL_isPlanned_336 : decode cL_isPlanned 336 = .ok (.ifCond .eq 60, 3) := by decide +kernel
theorem dL_isPlanned_339 : decode cL_isPlanned 339 = .ok (.iload 12, 2) := by decide +kernel
theorem dL_isPlanned_341 : decode cL_isPlanned 341 = .ok (.aload_n 0, 1) := by decide +kernel
theorem dL_isPlanned_342 : decode cL_isPlanned 342 = .ok (.iconst 3, 1) := by decide +kernel
theorem dL_isPlanned_343 : decode cL_isPlanned 343 = .ok (.invokevirtual 50, 3) := by decide +kernel
theorem dL_isPlanned_346 : decode cL_isPlanned 346 = .ok (.if_icmp .gt 50, 3) := by decide +kernel
theorem dL_isPlanned_349 : decode cL_isPlanned 349 = .ok (.aload_n 0, 1) := by decide +kernel
theorem dL_isPlanned_350 : decode cL_isPlanned 350 = .ok (.iload_n 3, 1) := by decide +kernel
theorem dL_isPlanned_351 : decode cL_isPlanned 351 = .ok (.iload 4, 2) := by decide +kernel
theorem dL_isPlanned_353 : decode cL_isPlanned 353 = .ok (.iconst 0, 1) := by decide +kernel
theorem dL_isPlanned_354 : decode cL_isPlanned 354 = .ok (.invokevirtual 58, 3) := by decide +kernel
theorem dL_isPlanned_357 : decode cL_isPlanned 357 = .ok (.iconst 1, 1) := by decide +kernel
theorem dL_isPlanned_358 : decode cL_isPlanned 358 = .ok (.if_icmp .ne 24, 3) := by decide +kernel
theorem dL_isPlanned_361 : decode cL_isPlanned 361 = .ok (.iload 13, 2) := by decide +kernel
theorem dL_isPlanned_363 : decode cL_isPlanned 363 = .ok (.iload 9, 2) := by decide +kernel
theorem dL_isPlanned_365 : decode cL_isPlanned 365 = .ok (.ifCond .ge 7, 3) := by decide +kernel
theorem dL_isPlanned_368 : decode cL_isPlanned 368 = .ok (.iconst 0, 1) := by decide +kernel
theorem dL_isPlanned_369 : decode cL_isPlanned 369 = .ok (.goto 7, 3) := by decide +kernel
theorem dL_isPlanned_372 : decode cL_isPlanned 372 = .ok (.iconst 1, 1) := by decide +kernel
theorem dL_isPlanned_373 : decode cL_isPlanned 373 = .ok (.iload 9, 2) := by decide +kernel
theorem dL_isPlanned_375 : decode cL_isPlanned 375 = .ok (.ishl, 1) := by decide +kernel
theorem dL_isPlanned_376 : decode cL_isPlanned 376 = .ok (.if_icmp .ne 20, 3) := by decide +kernel
theorem dL_isPlanned_379 : decode cL_isPlanned 379 = .ok (.goto 13, 3) := by decide +kernel
theorem dL_isPlanned_382 : decode cL_isPlanned 382 = .ok (.iload 8, 2) := by decide +kernel
theorem dL_isPlanned_384 : decode cL_isPlanned 384 = .ok (.ifCond .ne 12, 3) := by decide +kernel
theorem dL_isPlanned_387 : decode cL_isPlanned 387 = .ok (.iload 9, 2) := by decide +kernel
theorem dL_isPlanned_389 : decode cL_isPlanned 389 = .ok (.ifCond .ge 7, 3) := by decide +kernel
theorem dL_isPlanned_392 : decode cL_isPlanned 392 = .ok (.iconst 1, 1) := by decide +kernel
theorem dL_isPlanned_393 : decode cL_isPlanned 393 = .ok (.goto 4, 3) := by decide +kernel
theorem dL_isPlanned_396 : decode cL_isPlanned 396 = .ok (.iconst 0, 1) := by decide +kernel
theorem dL_isPlanned_397 : decode cL_isPlanned 397 = .ok (.istore 10, 2) := by decide +kernel
theorem dL_isPlanned_399 : decode cL_isPlanned 399 = .ok (.iconst 0, 1) := by decide +kernel
theorem dL_isPlanned_400 : decode cL_isPlanned 400 = .ok (.istore 15, 2) := by decide +kernel
theorem dL_isPlanned_402 : decode cL_isPlanned 402 = .ok (.iconst 0, 1) := by decide +kernel
theorem dL_isPlanned_403 : decode cL_isPlanned 403 = .ok (.istore 16, 2) := by decide +kernel
theorem dL_isPlanned_405 : decode cL_isPlanned 405 = .ok (.iload 16, 2) := by decide +kernel
theorem dL_isPlanned_407 : decode cL_isPlanned 407 = .ok (.bipush 48, 2) := by decide +kernel
theorem dL_isPlanned_409 : decode cL_isPlanned 409 = .ok (.if_icmp .ge 218, 3) := by decide +kernel
theorem dL_isPlanned_412 : decode cL_isPlanned 412 = .ok (.aload_n 0, 1) := by decide +kernel
theorem dL_isPlanned_413 : decode cL_isPlanned 413 = .ok (.iload_n 3, 1) := by decide +kernel
theorem dL_isPlanned_414 : decode cL_isPlanned 414 = .ok (.iload 4, 2) := by decide +kernel
theorem dL_isPlanned_416 : decode cL_isPlanned 416 = .ok (.iload 16, 2) := by decide +kernel
theorem dL_isPlanned_418 : decode cL_isPlanned 418 = .ok (.invokevirtual 71, 3) := by decide +kernel
theorem dL_isPlanned_421 : decode cL_isPlanned 421 = .ok (.istore 17, 2) := by decide +kernel
theorem dL_isPlanned_423 : decode cL_isPlanned 423 = .ok (.iload 15, 2) := by decide +kernel
theorem dL_isPlanned_425 : decode cL_isPlanned 425 = .ok (.iload 17, 2) := by decide +kernel
theorem dL_isPlanned_427 : decode cL_isPlanned 427 = .ok (.bipush 20, 2) := by decide +kernel
theorem dL_isPlanned_429 : decode cL_isPlanned 429 = .ok (.if_icmp .ne 7, 3) := by decide +kernel
theorem dL_isPlanned_432 : decode cL_isPlanned 432 = .ok (.iconst 1, 1) := by decide +kernel
theorem dL_isPlanned_433 : decode cL_isPlanned 433 = .ok (.goto 4, 3) := by decide +kernel
theorem dL_isPlanned_436 : decode cL_isPlanned 436 = .ok (.iconst 0, 1) := by decide +kernel
theorem dL_isPlanned_437 : decode cL_isPlanned 437 = .ok (.iadd, 1) := by decide +kernel
theorem dL_isPlanned_438 : decode cL_isPlanned 438 = .ok (.istore 15, 2) := by decide +kernel
theorem dL_isPlanned_440 : decode cL_isPlanned 440 = .ok (.iload 9, 2) := by decide +kernel
theorem dL_isPlanned_442 : decode cL_isPlanned 442 = .ok (.ifCond .lt 18, 3) := by decide +kernel
theorem dL_isPlanned_445 : decode cL_isPlanned 445 = .ok (.iload 16, 2) := by decide +kernel
theorem dL_isPlanned_447 : decode cL_isPlanned 447 = .ok (.aload_n 1, 1) := by decide +kernel
theorem dL_isPlanned_448 : decode cL_isPlanned 448 = .ok (.iload 9, 2) := by decide +kernel
theorem dL_isPlanned_450 : decode cL_isPlanned 450 = .ok (.aaload, 1) := by decide +kernel
theorem dL_isPlanned_451 : decode cL_isPlanned 451 = .ok (.iconst 1, 1) := by decide +kernel
theorem dL_isPlanned_452 : decode cL_isPlanned 452 = .ok (.iaload, 1) := by decide +kernel
theorem dL_isPlanned_453 : decode cL_isPlanned 453 = .ok (.if_icmp .lt 7, 3) := by decide +kernel
theorem dL_isPlanned_456 : decode cL_isPlanned 456 = .ok (.iconst 1, 1) := by decide +kernel
theorem dL_isPlanned_457 : decode cL_isPlanned 457 = .ok (.goto 4, 3) := by decide +kernel
theorem dL_isPlanned_460 : decode cL_isPlanned 460 = .ok (.iconst 0, 1) := by decide +kernel
theorem dL_isPlanned_461 : decode cL_isPlanned 461 = .ok (.istore 18, 2) := by decide +kernel
theorem dL_isPlanned_463 : decode cL_isPlanned 463 = .ok (.iload 16, 2) := by decide +kernel
theorem dL_isPlanned_465 : decode cL_isPlanned 465 = .ok (.iload 6, 2) := by decide +kernel
theorem dL_isPlanned_467 : decode cL_isPlanned 467 = .ok (.if_icmp .ge 8, 3) := by decide +kernel
theorem dL_isPlanned_470 : decode cL_isPlanned 470 = .ok (.iload 5, 2) := by decide +kernel
theorem dL_isPlanned_472 : decode cL_isPlanned 472 = .ok (.goto 4, 3) := by decide +kernel
theorem dL_isPlanned_475 : decode cL_isPlanned 475 = .ok (.iconst (-1), 1) := by decide +kernel
theorem dL_isPlanned_476 : decode cL_isPlanned 476 = .ok (.istore 19, 2) := by decide +kernel
theorem dL_isPlanned_478 : decode cL_isPlanned 478 = .ok (.iconst 0, 1) := by decide +kernel
theorem dL_isPlanned_479 : decode cL_isPlanned 479 = .ok (.istore 20, 2) := by decide +kernel
theorem dL_isPlanned_481 : decode cL_isPlanned 481 = .ok (.iload 20, 2) := by decide +kernel
theorem dL_isPlanned_483 : decode cL_isPlanned 483 = .ok (.iload 8, 2) := by decide +kernel
theorem dL_isPlanned_485 : decode cL_isPlanned 485 = .ok (.if_icmp .ge 98, 3) := by decide +kernel
theorem dL_isPlanned_488 : decode cL_isPlanned 488 = .ok (.aload_n 0, 1) := by decide +kernel
theorem dL_isPlanned_489 : decode cL_isPlanned 489 = .ok (.iload_n 3, 1) := by decide +kernel
theorem dL_isPlanned_490 : decode cL_isPlanned 490 = .ok (.iload 4, 2) := by decide +kernel
theorem dL_isPlanned_492 : decode cL_isPlanned 492 = .ok (.iload 20, 2) := by decide +kernel
theorem dL_isPlanned_494 : decode cL_isPlanned 494 = .ok (.iconst 0, 1) := by decide +kernel
theorem dL_isPlanned_495 : decode cL_isPlanned 495 = .ok (.invokevirtual 67, 3) := by decide +kernel
theorem dL_isPlanned_498 : decode cL_isPlanned 498 = .ok (.istore 21, 2) := by decide +kernel
theorem dL_isPlanned_500 : decode cL_isPlanned 500 = .ok (.iload 18, 2) := by decide +kernel
theorem dL_isPlanned_502 : decode cL_isPlanned 502 = .ok (.ifCond .ne 29, 3) := by decide +kernel
theorem dL_isPlanned_505 : decode cL_isPlanned 505 = .ok (.iload 16, 2) := by decide +kernel
theorem dL_isPlanned_507 : decode cL_isPlanned 507 = .ok (.aload_n 1, 1) := by decide +kernel
theorem dL_isPlanned_508 : decode cL_isPlanned 508 = .ok (.iload 21, 2) := by decide +kernel
theorem dL_isPlanned_510 : decode cL_isPlanned 510 = .ok (.aaload, 1) := by decide +kernel
theorem dL_isPlanned_511 : decode cL_isPlanned 511 = .ok (.iconst 1, 1) := by decide +kernel
theorem dL_isPlanned_512 : decode cL_isPlanned 512 = .ok (.iaload, 1) := by decide +kernel
theorem dL_isPlanned_513 : decode cL_isPlanned 513 = .ok (.if_icmp .lt 22, 3) := by decide +kernel
theorem dL_isPlanned_516 : decode cL_isPlanned 516 = .ok (.iload 16, 2) := by decide +kernel
theorem dL_isPlanned_518 : decode cL_isPlanned 518 = .ok (.aload_n 0, 1) := by decide +kernel
theorem dL_isPlanned_519 : decode cL_isPlanned 519 = .ok (.iload_n 3, 1) := by decide +kernel
theorem dL_isPlanned_520 : decode cL_isPlanned 520 = .ok (.iload 4, 2) := by decide +kernel
theorem dL_isPlanned_522 : decode cL_isPlanned 522 = .ok (.iload 20, 2) := by decide +kernel
theorem dL_isPlanned_524 : decode cL_isPlanned 524 = .ok (.iconst 1, 1) := by decide +kernel
theorem dL_isPlanned_525 : decode cL_isPlanned 525 = .ok (.invokevirtual 67, 3) := by decide +kernel
theorem dL_isPlanned_528 : decode cL_isPlanned 528 = .ok (.if_icmp .ge 7, 3) := by decide +kernel
theorem dL_isPlanned_531 : decode cL_isPlanned 531 = .ok (.iconst 1, 1) := by decide +kernel
theorem dL_isPlanned_532 : decode cL_isPlanned 532 = .ok (.goto 4, 3) := by decide +kernel
theorem dL_isPlanned_535 : decode cL_isPlanned 535 = .ok (.iconst 0, 1) := by decide +kernel
theorem dL_isPlanned_536 : decode cL_isPlanned 536 = .ok (.istore 18, 2) := by decide +kernel
theorem dL_isPlanned_538 : decode cL_isPlanned 538 = .ok (.iload 16, 2) := by decide +kernel
theorem dL_isPlanned_540 : decode cL_isPlanned 540 = .ok (.aload_n 0, 1) := by decide +kernel
theorem dL_isPlanned_541 : decode cL_isPlanned 541 = .ok (.iload_n 3, 1) := by decide +kernel
theorem dL_isPlanned_542 : decode cL_isPlanned 542 = .ok (.iload 4, 2) := by decide +kernel
theorem dL_isPlanned_544 : decode cL_isPlanned 544 = .ok (.iload 20, 2) := by decide +kernel
theorem dL_isPlanned_546 : decode cL_isPlanned 546 = .ok (.iconst 1, 1) := by decide +kernel
theorem dL_isPlanned_547 : decode cL_isPlanned 547 = .ok (.invokevirtual 67, 3) := by decide +kernel
theorem dL_isPlanned_550 : decode cL_isPlanned 550 = .ok (.if_icmp .lt 23, 3) := by decide +kernel
theorem dL_isPlanned_553 : decode cL_isPlanned 553 = .ok (.iload 16, 2) := by decide +kernel
theorem dL_isPlanned_555 : decode cL_isPlanned 555 = .ok (.aload_n 0, 1) := by decide +kernel
theorem dL_isPlanned_556 : decode cL_isPlanned 556 = .ok (.iload_n 3, 1) := by decide +kernel
theorem dL_isPlanned_557 : decode cL_isPlanned 557 = .ok (.iload 4, 2) := by decide +kernel
theorem dL_isPlanned_559 : decode cL_isPlanned 559 = .ok (.iload 20, 2) := by decide +kernel
theorem dL_isPlanned_561 : decode cL_isPlanned 561 = .ok (.iconst 2, 1) := by decide +kernel
theorem dL_isPlanned_562 : decode cL_isPlanned 562 = .ok (.invokevirtual 67, 3) := by decide +kernel
theorem dL_isPlanned_565 : decode cL_isPlanned 565 = .ok (.if_icmp .ge 8, 3) := by decide +kernel
theorem dL_isPlanned_568 : decode cL_isPlanned 568 = .ok (.iload 21, 2) := by decide +kernel
theorem dL_isPlanned_570 : decode cL_isPlanned 570 = .ok (.goto 5, 3) := by decide +kernel
theorem dL_isPlanned_573 : decode cL_isPlanned 573 = .ok (.iload 19, 2) := by decide +kernel
theorem dL_isPlanned_575 : decode cL_isPlanned 575 = .ok (.istore 19, 2) := by decide +kernel
theorem dL_isPlanned_577 : decode cL_isPlanned 577 = .ok (.iinc 20 1, 3) := by decide +kernel
theorem dL_isPlanned_580 : decode cL_isPlanned 580 = .ok (.goto (-99), 3) := by decide +kernel
theorem dL_isPlanned_583 : decode cL_isPlanned 583 = .ok (.iload 10, 2) := by decide +kernel
theorem dL_isPlanned_585 : decode cL_isPlanned 585 = .ok (.ifCond .eq 33, 3) := by decide +kernel
theorem dL_isPlanned_588 : decode cL_isPlanned 588 = .ok (.iload 17, 2) := by decide +kernel
theorem dL_isPlanned_590 : decode cL_isPlanned 590 = .ok (.iload 19, 2) := by decide +kernel
theorem dL_isPlanned_592 : decode cL_isPlanned 592 = .ok (.ifCond .lt 8, 3) := by decide +kernel
theorem dL_isPlanned_595 : decode cL_isPlanned 595 = .ok (.iload 19, 2) := by decide +kernel
theorem dL_isPlanned_597 : decode cL_isPlanned 597 = .ok (.goto 14, 3) := by decide +kernel
theorem dL_isPlanned_600 : decode cL_isPlanned 600 = .ok (.iload 18, 2) := by decide +kernel
theorem dL_isPlanned_602 : decode cL_isPlanned 602 = .ok (.ifCond .eq 8, 3) := by decide +kernel
theorem dL_isPlanned_605 : decode cL_isPlanned 605 = .ok (.bipush 20, 2) := by decide +kernel
theorem dL_isPlanned_607 : decode cL_isPlanned 607 = .ok (.goto 4, 3) := by decide +kernel
theorem dL_isPlanned_610 : decode cL_isPlanned 610 = .ok (.iconst (-1), 1) := by decide +kernel
theorem dL_isPlanned_611 : decode cL_isPlanned 611 = .ok (.if_icmp .ne 7, 3) := by decide +kernel
theorem dL_isPlanned_614 : decode cL_isPlanned 614 = .ok (.iconst 1, 1) := by decide +kernel
theorem dL_isPlanned_615 : decode cL_isPlanned 615 = .ok (.goto 4, 3) := by decide +kernel
theorem dL_isPlanned_618 : decode cL_isPlanned 618 = .ok (.iconst 0, 1) := by decide +kernel
theorem dL_isPlanned_619 : decode cL_isPlanned 619 = .ok (.istore 10, 2) := by decide +kernel
theorem dL_isPlanned_621 : decode cL_isPlanned 621 = .ok (.iinc 16 1, 3) := by decide +kernel
theorem dL_isPlanned_624 : decode cL_isPlanned 624 = .ok (.goto (-219), 3) := by decide +kernel
theorem dL_isPlanned_627 : decode cL_isPlanned 627 = .ok (.iload 10, 2) := by decide +kernel
theorem dL_isPlanned_629 : decode cL_isPlanned 629 = .ok (.ifCond .eq 20, 3) := by decide +kernel
theorem dL_isPlanned_632 : decode cL_isPlanned 632 = .ok (.iload 15, 2) := by decide +kernel
theorem dL_isPlanned_634 : decode cL_isPlanned 634 = .ok (.aload_n 0, 1) := by decide +kernel
theorem dL_isPlanned_635 : decode cL_isPlanned 635 = .ok (.iload_n 3, 1) := by decide +kernel
theorem dL_isPlanned_636 : decode cL_isPlanned 636 = .ok (.iload 4, 2) := by decide +kernel
theorem dL_isPlanned_638 : decode cL_isPlanned 638 = .ok (.iconst 1, 1) := by decide +kernel
theorem dL_isPlanned_639 : decode cL_isPlanned 639 = .ok (.invokevirtual 58, 3) := by decide +kernel
theorem dL_isPlanned_642 : decode cL_isPlanned 642 = .ok (.if_icmp .ne 7, 3) := by decide +kernel
theorem dL_isPlanned_645 : decode cL_isPlanned 645 = .ok (.iconst 1, 1) := by decide +kernel
theorem dL_isPlanned_646 : decode cL_isPlanned 646 = .ok (.goto 4, 3) := by decide +kernel
theorem dL_isPlanned_649 : decode cL_isPlanned 649 = .ok (.iconst 0, 1) := by decide +kernel
theorem dL_isPlanned_650 : decode cL_isPlanned 650 = .ok (.istore 10, 2) := by decide +kernel
theorem dL_isPlanned_652 : decode cL_isPlanned 652 = .ok (.iload 9, 2) := by decide +kernel
theorem dL_isPlanned_654 : decode cL_isPlanned 654 = .ok (.ifCond .ge 92, 3) := by decide +kernel
theorem dL_isPlanned_657 : decode cL_isPlanned 657 = .ok (.aload_n 0, 1) := by decide +kernel
theorem dL_isPlanned_658 : decode cL_isPlanned 658 = .ok (.iload_n 3, 1) := by decide +kernel
theorem dL_isPlanned_659 : decode cL_isPlanned 659 = .ok (.iload 4, 2) := by decide +kernel
theorem dL_isPlanned_661 : decode cL_isPlanned 661 = .ok (.iconst 0, 1) := by decide +kernel
theorem dL_isPlanned_662 : decode cL_isPlanned 662 = .ok (.invokevirtual 58, 3) := by decide +kernel
theorem dL_isPlanned_665 : decode cL_isPlanned 665 = .ok (.iconst 1, 1) := by decide +kernel
theorem dL_isPlanned_666 : decode cL_isPlanned 666 = .ok (.if_icmp .ne 80, 3) := by decide +kernel
theorem dL_isPlanned_669 : decode cL_isPlanned 669 = .ok (.iload 8, 2) := by decide +kernel
theorem dL_isPlanned_671 : decode cL_isPlanned 671 = .ok (.ifCond .le 75, 3) := by decide +kernel
theorem dL_isPlanned_674 : decode cL_isPlanned 674 = .ok (.iload 10, 2) := by decide +kernel
theorem dL_isPlanned_676 : decode cL_isPlanned 676 = .ok (.ifCond .eq 67, 3) := by decide +kernel
theorem dL_isPlanned_679 : decode cL_isPlanned 679 = .ok (.aload_n 0, 1) := by decide +kernel
theorem dL_isPlanned_680 : decode cL_isPlanned 680 = .ok (.iload_n 3, 1) := by decide +kernel
theorem dL_isPlanned_681 : decode cL_isPlanned 681 = .ok (.iload 4, 2) := by decide +kernel
theorem dL_isPlanned_683 : decode cL_isPlanned 683 = .ok (.invokevirtual 74, 3) := by decide +kernel
theorem dL_isPlanned_686 : decode cL_isPlanned 686 = .ok (.ifCond .le 57, 3) := by decide +kernel
theorem dL_isPlanned_689 : decode cL_isPlanned 689 = .ok (.aload_n 0, 1) := by decide +kernel
theorem dL_isPlanned_690 : decode cL_isPlanned 690 = .ok (.iload_n 3, 1) := by decide +kernel
theorem dL_isPlanned_691 : decode cL_isPlanned 691 = .ok (.iload 4, 2) := by decide +kernel
theorem dL_isPlanned_693 : decode cL_isPlanned 693 = .ok (.iconst 0, 1) := by decide +kernel
theorem dL_isPlanned_694 : decode cL_isPlanned 694 = .ok (.invokevirtual 77, 3) := by decide +kernel
theorem dL_isPlanned_697 : decode cL_isPlanned 697 = .ok (.iload 15, 2) := by decide +kernel
theorem dL_isPlanned_699 : decode cL_isPlanned 699 = .ok (.if_icmp .ne 44, 3) := by decide +kernel
theorem dL_isPlanned_702 : decode cL_isPlanned 702 = .ok (.aload_n 0, 1) := by decide +kernel
theorem dL_isPlanned_703 : decode cL_isPlanned 703 = .ok (.iload_n 3, 1) := by decide +kernel
theorem dL_isPlanned_704 : decode cL_isPlanned 704 = .ok (.iload 4, 2) := by decide +kernel
theorem dL_isPlanned_706 : decode cL_isPlanned 706 = .ok (.iconst 0, 1) := by decide +kernel
theorem dL_isPlanned_707 : decode cL_isPlanned 707 = .ok (.iconst (-1), 1) := by decide +kernel
theorem dL_isPlanned_708 : decode cL_isPlanned 708 = .ok (.invokevirtual 80, 3) := by decide +kernel
theorem dL_isPlanned_711 : decode cL_isPlanned 711 = .ok (.iload 15, 2) := by decide +kernel
theorem dL_isPlanned_713 : decode cL_isPlanned 713 = .ok (.if_icmp .ne 30, 3) := by decide +kernel
theorem dL_isPlanned_716 : decode cL_isPlanned 716 = .ok (.aload_n 0, 1) := by decide +kernel
theorem dL_isPlanned_717 : decode cL_isPlanned 717 = .ok (.iload_n 3, 1) := by decide +kernel
theorem dL_isPlanned_718 : decode cL_isPlanned 718 = .ok (.iload 4, 2) := by decide +kernel
theorem dL_isPlanned_720 : decode cL_isPlanned 720 = .ok (.iconst 1, 1) := by decide +kernel
theorem dL_isPlanned_721 : decode cL_isPlanned 721 = .ok (.invokevirtual 77, 3) := by decide +kernel
theorem dL_isPlanned_724 : decode cL_isPlanned 724 = .ok (.aload_n 0, 1) := by decide +kernel
theorem dL_isPlanned_725 : decode cL_isPlanned 725 = .ok (.iload_n 3, 1) := by decide +kernel
theorem dL_isPlanned_726 : decode cL_isPlanned 726 = .ok (.iload 4, 2) := by decide +kernel
theorem dL_isPlanned_728 : decode cL_isPlanned 728 = .ok (.iload 8, 2) := by decide +kernel
theorem dL_isPlanned_730 : decode cL_isPlanned 730 = .ok (.iconst 1, 1) := by decide +kernel
theorem dL_isPlanned_731 : decode cL_isPlanned 731 = .ok (.isub, 1) := by decide +kernel
theorem dL_isPlanned_732 : decode cL_isPlanned 732 = .ok (.iconst 2, 1) := by decide +kernel
theorem dL_isPlanned_733 : decode cL_isPlanned 733 = .ok (.invokevirtual 67, 3) := by decide +kernel
theorem dL_isPlanned_736 : decode cL_isPlanned 736 = .ok (.if_icmp .ne 7, 3) := by decide +kernel
theorem dL_isPlanned_739 : decode cL_isPlanned 739 = .ok (.iconst 1, 1) := by decide +kernel
theorem dL_isPlanned_740 : decode cL_isPlanned 740 = .ok (.goto 4, 3) := by decide +kernel
theorem dL_isPlanned_743 : decode cL_isPlanned 743 = .ok (.iconst 0, 1) := by decide +kernel
theorem dL_isPlanned_744 : decode cL_isPlanned 744 = .ok (.istore 10, 2) := by decide +kernel
theorem dL_isPlanned_746 : decode cL_isPlanned 746 = .ok (.iload 10, 2) := by decide +kernel
theorem dL_isPlanned_748 : decode cL_isPlanned 748 = .ok (.ifCond .eq 95, 3) := by decide +kernel
theorem dL_isPlanned_751 : decode cL_isPlanned 751 = .ok (.iload 9, 2) := by decide +kernel
theorem dL_isPlanned_753 : decode cL_isPlanned 753 = .ok (.ifCond .lt 13, 3) := by decide +kernel
theorem dL_isPlanned_756 : decode cL_isPlanned 756 = .ok (.aload_n 0, 1) := by decide +kernel
theorem dL_isPlanned_757 : decode cL_isPlanned 757 = .ok (.iload_n 3, 1) := by decide +kernel
theorem dL_isPlanned_758 : decode cL_isPlanned 758 = .ok (.iload 4, 2) := by decide +kernel
theorem dL_isPlanned_760 : decode cL_isPlanned 760 = .ok (.invokevirtual 74, 3) := by decide +kernel
theorem dL_isPlanned_763 : decode cL_isPlanned 763 = .ok (.ifCond .ne 80, 3) := by decide +kernel
theorem dL_isPlanned_766 : decode cL_isPlanned 766 = .ok (.aload_n 0, 1) := by decide +kernel
theorem dL_isPlanned_767 : decode cL_isPlanned 767 = .ok (.iload_n 3, 1) := by decide +kernel
theorem dL_isPlanned_768 : decode cL_isPlanned 768 = .ok (.iload 4, 2) := by decide +kernel
theorem dL_isPlanned_770 : decode cL_isPlanned 770 = .ok (.iconst 0, 1) := by decide +kernel
theorem dL_isPlanned_771 : decode cL_isPlanned 771 = .ok (.invokevirtual 58, 3) := by decide +kernel
theorem dL_isPlanned_774 : decode cL_isPlanned 774 = .ok (.iconst 1, 1) := by decide +kernel
theorem dL_isPlanned_775 : decode cL_isPlanned 775 = .ok (.if_icmp .ne 18, 3) := by decide +kernel
theorem dL_isPlanned_778 : decode cL_isPlanned 778 = .ok (.aload_n 0, 1) := by decide +kernel
theorem dL_isPlanned_779 : decode cL_isPlanned 779 = .ok (.iload_n 3, 1) := by decide +kernel
theorem dL_isPlanned_780 : decode cL_isPlanned 780 = .ok (.iload 4, 2) := by decide +kernel
theorem dL_isPlanned_782 : decode cL_isPlanned 782 = .ok (.bipush 6, 2) := by decide +kernel
theorem dL_isPlanned_784 : decode cL_isPlanned 784 = .ok (.invokevirtual 58, 3) := by decide +kernel
theorem dL_isPlanned_787 : decode cL_isPlanned 787 = .ok (.ifCond .ne 56, 3) := by decide +kernel
theorem dL_isPlanned_790 : decode cL_isPlanned 790 = .ok (.goto 49, 3) := by decide +kernel
theorem dL_isPlanned_793 : decode cL_isPlanned 793 = .ok (.aload_n 0, 1) := by decide +kernel
theorem dL_isPlanned_794 : decode cL_isPlanned 794 = .ok (.iload_n 3, 1) := by decide +kernel
theorem dL_isPlanned_795 : decode cL_isPlanned 795 = .ok (.iload 4, 2) := by decide +kernel
theorem dL_isPlanned_797 : decode cL_isPlanned 797 = .ok (.invokevirtual 74, 3) := by decide +kernel
theorem dL_isPlanned_800 : decode cL_isPlanned 800 = .ok (.ifCond .ne 43, 3) := by decide +kernel
theorem dL_isPlanned_803 : decode cL_isPlanned 803 = .ok (.aload_n 0, 1) := by decide +kernel
theorem dL_isPlanned_804 : decode cL_isPlanned 804 = .ok (.iload_n 3, 1) := by decide +kernel
theorem dL_isPlanned_805 : decode cL_isPlanned 805 = .ok (.iload 4, 2) := by decide +kernel
theorem dL_isPlanned_807 : decode cL_isPlanned 807 = .ok (.bipush 6, 2) := by decide +kernel
theorem dL_isPlanned_809 : decode cL_isPlanned 809 = .ok (.invokevirtual 58, 3) := by decide +kernel
theorem dL_isPlanned_812 : decode cL_isPlanned 812 = .ok (.iload 14, 2) := by decide +kernel
theorem dL_isPlanned_814 : decode cL_isPlanned 814 = .ok (.iand, 1) := by decide +kernel
theorem dL_isPlanned_815 : decode cL_isPlanned 815 = .ok (.aload_n 0, 1) := by decide +kernel
theorem dL_isPlanned_816 : decode cL_isPlanned 816 = .ok (.iload_n 3, 1) := by decide +kernel
theorem dL_isPlanned_817 : decode cL_isPlanned 817 = .ok (.iload 4, 2) := by decide +kernel
theorem dL_isPlanned_819 : decode cL_isPlanned 819 = .ok (.bipush 6, 2) := by decide +kernel
theorem dL_isPlanned_821 : decode cL_isPlanned 821 = .ok (.invokevirtual 58, 3) := by decide +kernel
theorem dL_isPlanned_824 : decode cL_isPlanned 824 = .ok (.if_icmp .ne 19, 3) := by decide +kernel
theorem dL_isPlanned_827 : decode cL_isPlanned 827 = .ok (.aload_n 0, 1) := by decide +kernel
theorem dL_isPlanned_828 : decode cL_isPlanned 828 = .ok (.iload_n 3, 1) := by decide +kernel
theorem dL_isPlanned_829 : decode cL_isPlanned 829 = .ok (.iload 4, 2) := by decide +kernel
theorem dL_isPlanned_831 : decode cL_isPlanned 831 = .ok (.bipush 6, 2) := by decide +kernel
theorem dL_isPlanned_833 : decode cL_isPlanned 833 = .ok (.invokevirtual 58, 3) := by decide +kernel
theorem dL_isPlanned_836 : decode cL_isPlanned 836 = .ok (.ifCond .eq 7, 3) := by decide +kernel
theorem dL_isPlanned_839 : decode cL_isPlanned 839 = .ok (.iconst 1, 1) := by decide +kernel
theorem dL_isPlanned_840 : decode cL_isPlanned 840 = .ok (.goto 4, 3) := by decide +kernel
theorem dL_isPlanned_843 : decode cL_isPlanned 843 = .ok (.iconst 0, 1) := by decide +kernel
theorem dL_isPlanned_844 : decode cL_isPlanned 844 = .ok (.ireturn, 1) := by decide +kernel
theorem dL_isClash_0 : decode cL_isClash 0 = .ok (.aload_n 0, 1) := by decide +kernel
theorem dL_isClash_1 : decode cL_isClash 1 = .ok (.iload_n 3, 1) := by decide +kernel
theorem dL_isClash_2 : decode cL_isClash 2 = .ok (.iload 4, 2) := by decide +kernel
theorem dL_isClash_4 : decode cL_isClash 4 = .ok (.bipush 6, 2) := by decide +kernel
theorem dL_isClash_6 : decode cL_isClash 6 = .ok (.invokevirtual 58, 3) := by decide +kernel
theorem dL_isClash_9 : decode cL_isClash 9 = .ok (.istore 5, 2) := by decide +kernel
theorem dL_isClash_11 : decode cL_isClash 11 = .ok (.iconst 1, 1) := by decide +kernel
theorem dL_isClash_12 : decode cL_isClash 12 = .ok (.istore 6, 2) := by decide +kernel
theorem dL_isClash_14 : decode cL_isClash 14 = .ok (.iconst 0, 1) := by decide +kernel
theorem dL_isClash_15 : decode cL_isClash 15 = .ok (.istore 7, 2) := by decide +kernel
theorem dL_isClash_17 : decode cL_isClash 17 = .ok (.iload 7, 2) := by decide +kernel
theorem dL_isClash_19 : decode cL_isClash 19 = .ok (.aload_n 1, 1) := by decide +kernel
theorem dL_isClash_20 : decode cL_isClash 20 = .ok (.arraylength, 1) := by decide +kernel
theorem dL_isClash_21 : decode cL_isClash 21 = .ok (.if_icmp .ge 50, 3) := by decide +kernel
theorem dL_isClash_24 : decode cL_isClash 24 = .ok (.aload_n 1, 1) := by decide +kernel
theorem dL_isClash_25 : decode cL_isClash 25 = .ok (.iload 7, 2) := by decide +kernel
theorem dL_isClash_27 : decode cL_isClash 27 = .ok (.aaload, 1) := by decide +kernel
theorem dL_isClash_28 : decode cL_isClash 28 = .ok (.iconst 0, 1) := by decide +kernel
theorem dL_isClash_29 : decode cL_isClash 29 = .ok (.iaload, 1) := by decide +kernel
theorem dL_isClash_30 : decode cL_isClash 30 = .ok (.iload 4, 2) := by decide +kernel
theorem dL_isClash_32 : decode cL_isClash 32 = .ok (.if_icmp .ne 33, 3) := by decide +kernel
theorem dL_isClash_35 : decode cL_isClash 35 = .ok (.aload_n 2, 1) := by decide +kernel
theorem dL_isClash_36 : decode cL_isClash 36 = .ok (.iconst 3, 1) := by decide +kernel
theorem dL_isClash_37 : decode cL_isClash 37 = .ok (.iaload, 1) := by decide +kernel
theorem dL_isClash_38 : decode cL_isClash 38 = .ok (.iconst 1, 1) := by decide +kernel
theorem dL_isClash_39 : decode cL_isClash 39 = .ok (.iload 7, 2) := by decide +kernel
theorem dL_isClash_41 : decode cL_isClash 41 = .ok (.ishl, 1) := by decide +kernel
theorem dL_isClash_42 : decode cL_isClash 42 = .ok (.iand, 1) := by decide +kernel
theorem dL_isClash_43 : decode cL_isClash 43 = .ok (.ifCond .eq 22, 3) := by decide +kernel
theorem dL_isClash_46 : decode cL_isClash 46 = .ok (.iload 5, 2) := by decide +kernel
theorem dL_isClash_48 : decode cL_isClash 48 = .ok (.iconst 1, 1) := by decide +kernel
theorem dL_isClash_49 : decode cL_isClash 49 = .ok (.iload 7, 2) := by decide +kernel
theorem dL_isClash_51 : decode cL_isClash 51 = .ok (.ishl, 1) := by decide +kernel
theorem dL_isClash_52 : decode cL_isClash 52 = .ok (.iand, 1) := by decide +kernel
theorem dL_isClash_53 : decode cL_isClash 53 = .ok (.ifCond .ne 12, 3) := by decide +kernel
theorem dL_isClash_56 : decode cL_isClash 56 = .ok (.aload_n 0, 1) := by decide +kernel
theorem dL_isClash_57 : decode cL_isClash 57 = .ok (.iload_n 3, 1) := by decide +kernel
theorem dL_isClash_58 : decode cL_isClash 58 = .ok (.iload 7, 2) := by decide +kernel
theorem dL_isClash_60 : decode cL_isClash 60 = .ok (.iconst 0, 1) := by decide +kernel
theorem dL_isClash_61 : decode cL_isClash 61 = .ok (.invokevirtual 45, 3) := by decide +kernel
theorem dL_isClash_64 : decode cL_isClash 64 = .ok (.pop, 1) := by decide +kernel
theorem dL_isClash_65 : decode cL_isClash 65 = .ok (.iinc 7 1, 3) := by decide +kernel
theorem dL_isClash_68 : decode cL_isClash 68 = .ok (.goto (-51), 3) := by decide +kernel
theorem dL_isClash_71 : decode cL_isClash 71 = .ok (.aload_n 0, 1) := by decide +kernel
theorem dL_isClash_72 : decode cL_isClash 72 = .ok (.iload_n 3, 1) := by decide +kernel
theorem dL_isClash_73 : decode cL_isClash 73 = .ok (.iload 4, 2) := by decide +kernel
theorem dL_isClash_75 : decode cL_isClash 75 = .ok (.invokevirtual 74, 3) := by decide +kernel
theorem dL_isClash_78 : decode cL_isClash 78 = .ok (.ifCond .ne 7, 3) := by decide +kernel
theorem dL_isClash_81 : decode cL_isClash 81 = .ok (.iconst 1, 1) := by decide +kernel
theorem dL_isClash_82 : decode cL_isClash 82 = .ok (.goto 4, 3) := by decide +kernel
theorem dL_isClash_85 : decode cL_isClash 85 = .ok (.iconst 0, 1) := by decide +kernel
theorem dL_isClash_86 : decode cL_isClash 86 = .ok (.istore 6, 2) := by decide +kernel
theorem dL_isClash_88 : decode cL_isClash 88 = .ok (.iconst 0, 1) := by decide +kernel
theorem dL_isClash_89 : decode cL_isClash 89 = .ok (.istore 7, 2) := by decide +kernel
theorem dL_isClash_91 : decode cL_isClash 91 = .ok (.iload 7, 2) := by decide +kernel
theorem dL_isClash_93 : decode cL_isClash 93 = .ok (.aload_n 1, 1) := by decide +kernel
theorem dL_isClash_94 : decode cL_isClash 94 = .ok (.arraylength, 1) := by decide +kernel
theorem dL_isClash_95 : decode cL_isClash 95 = .ok (.if_icmp .ge 59, 3) := by decide +kernel
theorem dL_isClash_98 : decode cL_isClash 98 = .ok (.iload 5, 2) := by decide +kernel
theorem dL_isClash_100 : decode cL_isClash 100 = .ok (.iconst 1, 1) := by decide +kernel
theorem dL_isClash_101 : decode cL_isClash 101 = .ok (.iload 7, 2) := by decide +kernel
theorem dL_isClash_103 : decode cL_isClash 103 = .ok (.ishl, 1) := by decide +kernel
theorem dL_isClash_104 : decode cL_isClash 104 = .ok (.iand, 1) := by decide +kernel
theorem dL_isClash_105 : decode cL_isClash 105 = .ok (.ifCond .eq 43, 3) := by decide +kernel
theorem dL_isClash_108 : decode cL_isClash 108 = .ok (.aload_n 0, 1) := by decide +kernel
theorem dL_isClash_109 : decode cL_isClash 109 = .ok (.iload_n 3, 1) := by decide +kernel
theorem dL_isClash_110 : decode cL_isClash 110 = .ok (.iload 7, 2) := by decide +kernel
theorem dL_isClash_112 : decode cL_isClash 112 = .ok (.iconst 0, 1) := by decide +kernel
theorem dL_isClash_113 : decode cL_isClash 113 = .ok (.invokevirtual 45, 3) := by decide +kernel
theorem dL_isClash_116 : decode cL_isClash 116 = .ok (.pop, 1) := by decide +kernel
theorem dL_isClash_117 : decode cL_isClash 117 = .ok (.iload 6, 2) := by decide +kernel
theorem dL_isClash_119 : decode cL_isClash 119 = .ok (.ifCond .eq 17, 3) := by decide +kernel
theorem dL_isClash_122 : decode cL_isClash 122 = .ok (.aload_n 0, 1) := by decide +kernel
theorem dL_isClash_123 : decode cL_isClash 123 = .ok (.iload_n 3, 1) := by decide +kernel
theorem dL_isClash_124 : decode cL_isClash 124 = .ok (.iload 4, 2) := by decide +kernel
theorem dL_isClash_126 : decode cL_isClash 126 = .ok (.invokevirtual 74, 3) := by decide +kernel
theorem dL_isClash_129 : decode cL_isClash 129 = .ok (.ifCond .le 7, 3) := by decide +kernel
theorem dL_isClash_132 : decode cL_isClash 132 = .ok (.iconst 1, 1) := by decide +kernel
theorem dL_isClash_133 : decode cL_isClash 133 = .ok (.goto 4, 3) := by decide +kernel
theorem dL_isClash_136 : decode cL_isClash 136 = .ok (.iconst 0, 1) := by decide +kernel
theorem dL_isClash_137 : decode cL_isClash 137 = .ok (.istore 6, 2) := by decide +kernel
theorem dL_isClash_139 : decode cL_isClash 139 = .ok (.aload_n 0, 1) := by decide +kernel
theorem dL_isClash_140 : decode cL_isClash 140 = .ok (.iload_n 3, 1) := by decide +kernel
theorem dL_isClash_141 : decode cL_isClash 141 = .ok (.iload 7, 2) := by decide +kernel
theorem dL_isClash_143 : decode cL_isClash 143 = .ok (.iconst 1, 1) := by decide +kernel
theorem dL_isClash_144 : decode cL_isClash 144 = .ok (.invokevirtual 45, 3) := by decide +kernel
theorem dL_isClash_147 : decode cL_isClash 147 = .ok (.pop, 1) := by decide +kernel
theorem dL_isClash_148 : decode cL_isClash 148 = .ok (.iinc 7 1, 3) := by decide +kernel
theorem dL_isClash_151 : decode cL_isClash 151 = .ok (.goto (-60), 3) := by decide +kernel
theorem dL_isClash_154 : decode cL_isClash 154 = .ok (.aload_n 0, 1) := by decide +kernel
theorem dL_isClash_155 : decode cL_isClash 155 = .ok (.invokevirtual 83, 3) := by decide +kernel
theorem dL_isClash_158 : decode cL_isClash 158 = .ok (.pop, 1) := by decide +kernel
theorem dL_isClash_159 : decode cL_isClash 159 = .ok (.iload 6, 2) := by decide +kernel
theorem dL_isClash_161 : decode cL_isClash 161 = .ok (.ireturn, 1) := by decide +kernel
theorem dL_law_0 : decode cL_law 0 = .ok (.iconst 2, 1) := by decide +kernel
theorem dL_law_1 : decode cL_law 1 = .ok (.newarray .int, 2) := by decide +kernel
theorem dL_law_3 : decode cL_law 3 = .ok (.dup, 1) := by decide +kernel
theorem dL_law_4 : decode cL_law 4 = .ok (.iconst 0, 1) := by decide +kernel
theorem dL_law_5 : decode cL_law 5 = .ok (.bipush 8, 2) := by decide +kernel
theorem dL_law_7 : decode cL_law 7 = .ok (.aload_n 0, 1) := by decide +kernel
theorem dL_law_8 : decode cL_law 8 = .ok (.iconst 0, 1) := by decide +kernel
theorem dL_law_9 : decode cL_law 9 = .ok (.bipush 33, 2) := by decide +kernel
theorem dL_law_11 : decode cL_law 11 = .ok (.invokestatic 17, 3) := by decide +kernel
theorem dL_law_14 : decode cL_law 14 = .ok (.iadd, 1) := by decide +kernel
theorem dL_law_15 : decode cL_law 15 = .ok (.iastore, 1) := by decide +kernel
theorem dL_law_16 : decode cL_law 16 = .ok (.dup, 1) := by decide +kernel
theorem dL_law_17 : decode cL_law 17 = .ok (.iconst 1, 1) := by decide +kernel
theorem dL_law_18 : decode cL_law 18 = .ok (.aload_n 0, 1) := by decide +kernel
theorem dL_law_19 : decode cL_law 19 = .ok (.iconst 1, 1) := by decide +kernel
theorem dL_law_20 : decode cL_law 20 = .ok (.bipush 9, 2) := by decide +kernel
theorem dL_law_22 : decode cL_law 22 = .ok (.invokestatic 17, 3) := by decide +kernel
theorem dL_law_25 : decode cL_law 25 = .ok (.iastore, 1) := by decide +kernel
theorem dL_law_26 : decode cL_law 26 = .ok (.astore_n 1, 1) := by decide +kernel
theorem dL_law_27 : decode cL_law 27 = .ok (.aload_n 0, 1) := by decide +kernel
theorem dL_law_28 : decode cL_law 28 = .ok (.iconst 2, 1) := by decide +kernel
theorem dL_law_29 : decode cL_law 29 = .ok (.iconst 5, 1) := by decide +kernel
theorem dL_law_30 : decode cL_law 30 = .ok (.invokestatic 17, 3) := by decide +kernel
theorem dL_law_33 : decode cL_law 33 = .ok (.istore_n 2, 1) := by decide +kernel
theorem dL_law_34 : decode cL_law 34 = .ok (.aload_n 0, 1) := by decide +kernel
theorem dL_law_35 : decode cL_law 35 = .ok (.iconst 3, 1) := by decide +kernel
theorem dL_law_36 : decode cL_law 36 = .ok (.bipush 11, 2) := by decide +kernel
theorem dL_law_38 : decode cL_law 38 = .ok (.invokestatic 17, 3) := by decide +kernel
theorem dL_law_41 : decode cL_law 41 = .ok (.istore_n 3, 1) := by decide +kernel
theorem dL_law_42 : decode cL_law 42 = .ok (.aload_n 0, 1) := by decide +kernel
theorem dL_law_43 : decode cL_law 43 = .ok (.bipush 10, 2) := by decide +kernel
theorem dL_law_45 : decode cL_law 45 = .ok (.iload_n 3, 1) := by decide +kernel
theorem dL_law_46 : decode cL_law 46 = .ok (.invokestatic 87, 3) := by decide +kernel
theorem dL_law_49 : decode cL_law 49 = .ok (.astore 4, 2) := by decide +kernel
theorem dL_law_51 : decode cL_law 51 = .ok (.aload_n 0, 1) := by decide +kernel
theorem dL_law_52 : decode cL_law 52 = .ok (.bipush 70, 2) := by decide +kernel
theorem dL_law_54 : decode cL_law 54 = .ok (.iload_n 2, 1) := by decide +kernel
theorem dL_law_55 : decode cL_law 55 = .ok (.invokestatic 91, 3) := by decide +kernel
theorem dL_law_58 : decode cL_law 58 = .ok (.astore 5, 2) := by decide +kernel
theorem dL_law_60 : decode cL_law 60 = .ok (.new 22, 3) := by decide +kernel
theorem dL_law_63 : decode cL_law 63 = .ok (.dup, 1) := by decide +kernel
theorem dL_law_64 : decode cL_law 64 = .ok (.invokespecial 94, 3) := by decide +kernel
theorem dL_law_67 : decode cL_law 67 = .ok (.astore 6, 2) := by decide +kernel
theorem dL_law_69 : decode cL_law 69 = .ok (.aload 6, 2) := by decide +kernel
theorem dL_law_71 : decode cL_law 71 = .ok (.aload_n 0, 1) := by decide +kernel
theorem dL_law_72 : decode cL_law 72 = .ok (.bipush 110, 2) := by decide +kernel
theorem dL_law_74 : decode cL_law 74 = .ok (.aload_n 1, 1) := by decide +kernel
theorem dL_law_75 : decode cL_law 75 = .ok (.aload 4, 2) := by decide +kernel
theorem dL_law_77 : decode cL_law 77 = .ok (.aload 5, 2) := by decide +kernel
theorem dL_law_79 : decode cL_law 79 = .ok (.invokestatic 95, 3) := by decide +kernel
theorem dL_law_82 : decode cL_law 82 = .ok (.ifCond .ne 5, 3) := by decide +kernel
theorem dL_law_85 : decode cL_law 85 = .ok (.iconst 0, 1) := by decide +kernel
theorem dL_law_86 : decode cL_law 86 = .ok (.ireturn, 1) := by decide +kernel
theorem dL_law_87 : decode cL_law 87 = .ok (.iconst 0, 1) := by decide +kernel
theorem dL_law_88 : decode cL_law 88 = .ok (.istore 7, 2) := by decide +kernel
theorem dL_law_90 : decode cL_law 90 = .ok (.iload 7, 2) := by decide +kernel
theorem dL_law_92 : decode cL_law 92 = .ok (.iconst 2, 1) := by decide +kernel
theorem dL_law_93 : decode cL_law 93 = .ok (.if_icmp .ge 28, 3) := by decide +kernel
theorem dL_law_96 : decode cL_law 96 = .ok (.aload 6, 2) := by decide +kernel
theorem dL_law_98 : decode cL_law 98 = .ok (.iconst 1, 1) := by decide +kernel
theorem dL_law_99 : decode cL_law 99 = .ok (.aload_n 0, 1) := by decide +kernel
theorem dL_law_100 : decode cL_law 100 = .ok (.sipush 240, 3) := by decide +kernel
theorem dL_law_103 : decode cL_law 103 = .ok (.iload 7, 2) := by decide +kernel
theorem dL_law_105 : decode cL_law 105 = .ok (.iadd, 1) := by decide +kernel
theorem dL_law_106 : decode cL_law 106 = .ok (.iconst 3, 1) := by decide +kernel
theorem dL_law_107 : decode cL_law 107 = .ok (.invokestatic 17, 3) := by decide +kernel
theorem dL_law_110 : decode cL_law 110 = .ok (.iadd, 1) := by decide +kernel
theorem dL_law_111 : decode cL_law 111 = .ok (.invokevirtual 99, 3) := by decide +kernel
theorem dL_law_114 : decode cL_law 114 = .ok (.pop, 1) := by decide +kernel
theorem dL_law_115 : decode cL_law 115 = .ok (.iinc 7 1, 3) := by decide +kernel
theorem dL_law_118 : decode cL_law 118 = .ok (.goto (-28), 3) := by decide +kernel
theorem dL_law_121 : decode cL_law 121 = .ok (.aload 6, 2) := by decide +kernel
theorem dL_law_123 : decode cL_law 123 = .ok (.invokestatic 102, 3) := by decide +kernel
theorem dL_law_126 : decode cL_law 126 = .ok (.lstore 7, 2) := by decide +kernel
theorem dL_law_128 : decode cL_law 128 = .ok (.aload 6, 2) := by decide +kernel
theorem dL_law_130 : decode cL_law 130 = .ok (.invokevirtual 106, 3) := by decide +kernel
theorem dL_law_133 : decode cL_law 133 = .ok (.pop, 1) := by decide +kernel
theorem dL_law_134 : decode cL_law 134 = .ok (.iconst 0, 1) := by decide +kernel
theorem dL_law_135 : decode cL_law 135 = .ok (.istore 9, 2) := by decide +kernel
theorem dL_law_137 : decode cL_law 137 = .ok (.iconst 0, 1) := by decide +kernel
theorem dL_law_138 : decode cL_law 138 = .ok (.istore 10, 2) := by decide +kernel
theorem dL_law_140 : decode cL_law 140 = .ok (.iload 10, 2) := by decide +kernel
theorem dL_law_142 : decode cL_law 142 = .ok (.iload_n 2, 1) := by decide +kernel
theorem dL_law_143 : decode cL_law 143 = .ok (.if_icmp .ge 424, 3) := by decide +kernel
theorem dL_law_146 : decode cL_law 146 = .ok (.iconst 0, 1) := by decide +kernel
theorem dL_law_147 : decode cL_law 147 = .ok (.istore 11, 2) := by decide +kernel
theorem dL_law_149 : decode cL_law 149 = .ok (.iconst 0, 1) := by decide +kernel
theorem dL_law_150 : decode cL_law 150 = .ok (.istore 12, 2) := by decide +kernel
theorem dL_law_152 : decode cL_law 152 = .ok (.iload 12, 2) := by decide +kernel
theorem dL_law_154 : decode cL_law 154 = .ok (.iconst 5, 1) := by decide +kernel
theorem dL_law_155 : decode cL_law 155 = .ok (.if_icmp .ge 77, 3) := by decide +kernel
theorem dL_law_158 : decode cL_law 158 = .ok (.aload 6, 2) := by decide +kernel
theorem dL_law_160 : decode cL_law 160 = .ok (.aload 4, 2) := by decide +kernel
theorem dL_law_162 : decode cL_law 162 = .ok (.aload 5, 2) := by decide +kernel
theorem dL_law_164 : decode cL_law 164 = .ok (.iload 10, 2) := by decide +kernel
theorem dL_law_166 : decode cL_law 166 = .ok (.aaload, 1) := by decide +kernel
theorem dL_law_167 : decode cL_law 167 = .ok (.iload 10, 2) := by decide +kernel
theorem dL_law_169 : decode cL_law 169 = .ok (.iload 12, 2) := by decide +kernel
theorem dL_law_171 : decode cL_law 171 = .ok (.invokestatic 109, 3) := by decide +kernel
theorem dL_law_174 : decode cL_law 174 = .ok (.ifCond .eq 35, 3) := by decide +kernel
theorem dL_law_177 : decode cL_law 177 = .ok (.aload 6, 2) := by decide +kernel
theorem dL_law_179 : decode cL_law 179 = .ok (.iload 10, 2) := by decide +kernel
theorem dL_law_181 : decode cL_law 181 = .ok (.iload 12, 2) := by decide +kernel
theorem dL_law_183 : decode cL_law 183 = .ok (.iconst 0, 1) := by decide +kernel
theorem dL_law_184 : decode cL_law 184 = .ok (.invokevirtual 58, 3) := by decide +kernel
theorem dL_law_187 : decode cL_law 187 = .ok (.ifCond .ne 24, 3) := by decide +kernel
theorem dL_law_190 : decode cL_law 190 = .ok (.aload 6, 2) := by decide +kernel
theorem dL_law_192 : decode cL_law 192 = .ok (.aload 4, 2) := by decide +kernel
theorem dL_law_194 : decode cL_law 194 = .ok (.aload 5, 2) := by decide +kernel
theorem dL_law_196 : decode cL_law 196 = .ok (.iload 10, 2) := by decide +kernel
theorem dL_law_198 : decode cL_law 198 = .ok (.aaload, 1) := by decide +kernel
theorem dL_law_199 : decode cL_law 199 = .ok (.iload 10, 2) := by decide +kernel
theorem dL_law_201 : decode cL_law 201 = .ok (.iload 12, 2) := by decide +kernel
theorem dL_law_203 : decode cL_law 203 = .ok (.invokestatic 113, 3) := by decide +kernel
theorem dL_law_206 : decode cL_law 206 = .ok (.ifCond .ne 5, 3) := by decide +kernel
theorem dL_law_209 : decode cL_law 209 = .ok (.iconst 0, 1) := by decide +kernel
theorem dL_law_210 : decode cL_law 210 = .ok (.ireturn, 1) := by decide +kernel
theorem dL_law_211 : decode cL_law 211 = .ok (.iload 11, 2) := by decide +kernel
theorem dL_law_213 : decode cL_law 213 = .ok (.aload 6, 2) := by decide +kernel
theorem dL_law_215 : decode cL_law 215 = .ok (.iload 10, 2) := by decide +kernel
theorem dL_law_217 : decode cL_law 217 = .ok (.iload 12, 2) := by decide +kernel
theorem dL_law_219 : decode cL_law 219 = .ok (.iconst 1, 1) := by decide +kernel
theorem dL_law_220 : decode cL_law 220 = .ok (.invokevirtual 58, 3) := by decide +kernel
theorem dL_law_223 : decode cL_law 223 = .ok (.iadd, 1) := by decide +kernel
theorem dL_law_224 : decode cL_law 224 = .ok (.istore 11, 2) := by decide +kernel
theorem dL_law_226 : decode cL_law 226 = .ok (.iinc 12 1, 3) := by decide +kernel
theorem dL_law_229 : decode cL_law 229 = .ok (.goto (-77), 3) := by decide +kernel
theorem dL_law_232 : decode cL_law 232 = .ok (.iload 9, 2) := by decide +kernel
theorem dL_law_234 : decode cL_law 234 = .ok (.iload 11, 2) := by decide +kernel
theorem dL_law_236 : decode cL_law 236 = .ok (.iadd, 1) := by decide +kernel
theorem dL_law_237 : decode cL_law 237 = .ok (.istore 9, 2) := by decide +kernel
theorem dL_law_239 : decode cL_law 239 = .ok (.iconst 0, 1) := by decide +kernel
theorem dL_law_240 : decode cL_law 240 = .ok (.istore 12, 2) := by decide +kernel
theorem dL_law_242 : decode cL_law 242 = .ok (.iload 12, 2) := by decide +kernel
theorem dL_law_244 : decode cL_law 244 = .ok (.iload_n 3, 1) := by decide +kernel
theorem dL_law_245 : decode cL_law 245 = .ok (.if_icmp .ge 140, 3) := by decide +kernel
theorem dL_law_248 : decode cL_law 248 = .ok (.aload 6, 2) := by decide +kernel
theorem dL_law_250 : decode cL_law 250 = .ok (.iload 10, 2) := by decide +kernel
theorem dL_law_252 : decode cL_law 252 = .ok (.iload 12, 2) := by decide +kernel
theorem dL_law_254 : decode cL_law 254 = .ok (.invokevirtual 116, 3) := by decide +kernel
theorem dL_law_257 : decode cL_law 257 = .ok (.istore 13, 2) := by decide +kernel
theorem dL_law_259 : decode cL_law 259 = .ok (.aload 6, 2) := by decide +kernel
theorem dL_law_261 : decode cL_law 261 = .ok (.iload 10, 2) := by decide +kernel
theorem dL_law_263 : decode cL_law 263 = .ok (.iconst 3, 1) := by decide +kernel
theorem dL_law_264 : decode cL_law 264 = .ok (.invokevirtual 55, 3) := by decide +kernel
theorem dL_law_267 : decode cL_law 267 = .ok (.iload 12, 2) := by decide +kernel
theorem dL_law_269 : decode cL_law 269 = .ok (.ishr, 1) := by decide +kernel
theorem dL_law_270 : decode cL_law 270 = .ok (.iconst 1, 1) := by decide +kernel
theorem dL_law_271 : decode cL_law 271 = .ok (.iand, 1) := by decide +kernel
theorem dL_law_272 : decode cL_law 272 = .ok (.istore 14, 2) := by decide +kernel
theorem dL_law_274 : decode cL_law 274 = .ok (.aload 6, 2) := by decide +kernel
theorem dL_law_276 : decode cL_law 276 = .ok (.iload 10, 2) := by decide +kernel
theorem dL_law_278 : decode cL_law 278 = .ok (.iload 12, 2) := by decide +kernel
theorem dL_law_280 : decode cL_law 280 = .ok (.iconst 1, 1) := by decide +kernel
theorem dL_law_281 : decode cL_law 281 = .ok (.iload 14, 2) := by decide +kernel
theorem dL_law_283 : decode cL_law 283 = .ok (.isub, 1) := by decide +kernel
theorem dL_law_284 : decode cL_law 284 = .ok (.invokevirtual 45, 3) := by decide +kernel
theorem dL_law_287 : decode cL_law 287 = .ok (.istore 15, 2) := by decide +kernel
theorem dL_law_289 : decode cL_law 289 = .ok (.iload 13, 2) := by decide +kernel
theorem dL_law_291 : decode cL_law 291 = .ok (.ifCond .ge 7, 3) := by decide +kernel
theorem dL_law_294 : decode cL_law 294 = .ok (.iconst 1, 1) := by decide +kernel
theorem dL_law_295 : decode cL_law 295 = .ok (.goto 4, 3) := by decide +kernel
theorem dL_law_298 : decode cL_law 298 = .ok (.iconst 0, 1) := by decide +kernel
theorem dL_law_299 : decode cL_law 299 = .ok (.iload 15, 2) := by decide +kernel
theorem dL_law_301 : decode cL_law 301 = .ok (.ifCond .ge 7, 3) := by decide +kernel
theorem dL_law_304 : decode cL_law 304 = .ok (.iconst 1, 1) := by decide +kernel
theorem dL_law_305 : decode cL_law 305 = .ok (.goto 4, 3) := by decide +kernel
theorem dL_law_308 : decode cL_law 308 = .ok (.iconst 0, 1) := by decide +kernel
theorem dL_law_309 : decode cL_law 309 = .ok (.if_icmp .ne 39, 3) := by decide +kernel
theorem dL_law_312 : decode cL_law 312 = .ok (.iload 13, 2) := by decide +kernel
theorem dL_law_314 : decode cL_law 314 = .ok (.ifCond .lt 36, 3) := by decide +kernel
theorem dL_law_317 : decode cL_law 317 = .ok (.aload 6, 2) := by decide +kernel
theorem dL_law_319 : decode cL_law 319 = .ok (.iload 10, 2) := by decide +kernel
theorem dL_law_321 : decode cL_law 321 = .ok (.iconst 5, 1) := by decide +kernel
theorem dL_law_322 : decode cL_law 322 = .ok (.invokevirtual 55, 3) := by decide +kernel
theorem dL_law_325 : decode cL_law 325 = .ok (.iload 13, 2) := by decide +kernel
theorem dL_law_327 : decode cL_law 327 = .ok (.if_icmp .ne 21, 3) := by decide +kernel
theorem dL_law_330 : decode cL_law 330 = .ok (.aload 6, 2) := by decide +kernel
theorem dL_law_332 : decode cL_law 332 = .ok (.iload 10, 2) := by decide +kernel
theorem dL_law_334 : decode cL_law 334 = .ok (.iconst 3, 1) := by decide +kernel
theorem dL_law_335 : decode cL_law 335 = .ok (.invokevirtual 55, 3) := by decide +kernel
theorem dL_law_338 : decode cL_law 338 = .ok (.aload 5, 2) := by decide +kernel
theorem dL_law_340 : decode cL_law 340 = .ok (.iload 10, 2) := by decide +kernel
theorem dL_law_342 : decode cL_law 342 = .ok (.aaload, 1) := by decide +kernel
theorem dL_law_343 : decode cL_law 343 = .ok (.iconst 3, 1) := by decide +kernel
theorem dL_law_344 : decode cL_law 344 = .ok (.iaload, 1) := by decide +kernel
theorem dL_law_345 : decode cL_law 345 = .ok (.if_icmp .ne 5, 3) := by decide +kernel
theorem dL_law_348 : decode cL_law 348 = .ok (.iconst 0, 1) := by decide +kernel
theorem dL_law_349 : decode cL_law 349 = .ok (.ireturn, 1) := by decide +kernel
theorem dL_law_350 : decode cL_law 350 = .ok (.aload 6, 2) := by decide +kernel
theorem dL_law_352 : decode cL_law 352 = .ok (.invokevirtual 83, 3) := by decide +kernel
theorem dL_law_355 : decode cL_law 355 = .ok (.pop, 1) := by decide +kernel
theorem dL_law_356 : decode cL_law 356 = .ok (.iload 13, 2) := by decide +kernel
theorem dL_law_358 : decode cL_law 358 = .ok (.ifCond .lt 21, 3) := by decide +kernel
theorem dL_law_361 : decode cL_law 361 = .ok (.aload 6, 2) := by decide +kernel
theorem dL_law_363 : decode cL_law 363 = .ok (.iload 10, 2) := by decide +kernel
theorem dL_law_365 : decode cL_law 365 = .ok (.iload 12, 2) := by decide +kernel
theorem dL_law_367 : decode cL_law 367 = .ok (.iload 12, 2) := by decide +kernel
theorem dL_law_369 : decode cL_law 369 = .ok (.invokevirtual 119, 3) := by decide +kernel
theorem dL_law_372 : decode cL_law 372 = .ok (.iload 11, 2) := by decide +kernel
theorem dL_law_374 : decode cL_law 374 = .ok (.if_icmp .eq 5, 3) := by decide +kernel
theorem dL_law_377 : decode cL_law 377 = .ok (.iconst 0, 1) := by decide +kernel
theorem dL_law_378 : decode cL_law 378 = .ok (.ireturn, 1) := by decide +kernel
theorem dL_law_379 : decode cL_law 379 = .ok (.iinc 12 1, 3) := by decide +kernel
theorem dL_law_382 : decode cL_law 382 = .ok (.goto (-140), 3) := by decide +kernel
theorem dL_law_385 : decode cL_law 385 = .ok (.aload 6, 2) := by decide +kernel
theorem dL_law_387 : decode cL_law 387 = .ok (.iload 10, 2) := by decide +kernel
theorem dL_law_389 : decode cL_law 389 = .ok (.invokevirtual 122, 3) := by decide +kernel
theorem dL_law_392 : decode cL_law 392 = .ok (.istore 12, 2) := by decide +kernel
theorem dL_law_394 : decode cL_law 394 = .ok (.iconst 0, 1) := by decide +kernel
theorem dL_law_395 : decode cL_law 395 = .ok (.istore 13, 2) := by decide +kernel
theorem dL_law_397 : decode cL_law 397 = .ok (.iload 13, 2) := by decide +kernel
theorem dL_law_399 : decode cL_law 399 = .ok (.iload_n 3, 1) := by decide +kernel
theorem dL_law_400 : decode cL_law 400 = .ok (.if_icmp .ge 67, 3) := by decide +kernel
theorem dL_law_403 : decode cL_law 403 = .ok (.aload 6, 2) := by decide +kernel
theorem dL_law_405 : decode cL_law 405 = .ok (.iload 10, 2) := by decide +kernel
theorem dL_law_407 : decode cL_law 407 = .ok (.iload 13, 2) := by decide +kernel
theorem dL_law_409 : decode cL_law 409 = .ok (.invokevirtual 116, 3) := by decide +kernel
theorem dL_law_412 : decode cL_law 412 = .ok (.istore 14, 2) := by decide +kernel
theorem dL_law_414 : decode cL_law 414 = .ok (.iload 14, 2) := by decide +kernel
theorem dL_law_416 : decode cL_law 416 = .ok (.ifCond .lt 45, 3) := by decide +kernel
theorem dL_law_419 : decode cL_law 419 = .ok (.iload 12, 2) := by decide +kernel
theorem dL_law_421 : decode cL_law 421 = .ok (.ifCond .lt 38, 3) := by decide +kernel
theorem dL_law_424 : decode cL_law 424 = .ok (.iload 14, 2) := by decide +kernel
theorem dL_law_426 : decode cL_law 426 = .ok (.aload 6, 2) := by decide +kernel
theorem dL_law_428 : decode cL_law 428 = .ok (.iload 10, 2) := by decide +kernel
theorem dL_law_430 : decode cL_law 430 = .ok (.iload 12, 2) := by decide +kernel
theorem dL_law_432 : decode cL_law 432 = .ok (.invokevirtual 116, 3) := by decide +kernel
theorem dL_law_435 : decode cL_law 435 = .ok (.if_icmp .lt 24, 3) := by decide +kernel
theorem dL_law_438 : decode cL_law 438 = .ok (.iload 14, 2) := by decide +kernel
theorem dL_law_440 : decode cL_law 440 = .ok (.aload 6, 2) := by decide +kernel
theorem dL_law_442 : decode cL_law 442 = .ok (.iload 10, 2) := by decide +kernel
theorem dL_law_444 : decode cL_law 444 = .ok (.iload 12, 2) := by decide +kernel
theorem dL_law_446 : decode cL_law 446 = .ok (.invokevirtual 116, 3) := by decide +kernel
theorem dL_law_449 : decode cL_law 449 = .ok (.if_icmp .ne 12, 3) := by decide +kernel
theorem dL_law_452 : decode cL_law 452 = .ok (.iload 13, 2) := by decide +kernel
theorem dL_law_454 : decode cL_law 454 = .ok (.iload 12, 2) := by decide +kernel
theorem dL_law_456 : decode cL_law 456 = .ok (.if_icmp .ge 5, 3) := by decide +kernel
theorem dL_law_459 : decode cL_law 459 = .ok (.iconst 0, 1) := by decide +kernel
theorem dL_law_460 : decode cL_law 460 = .ok (.ireturn, 1) := by decide +kernel
theorem dL_law_461 : decode cL_law 461 = .ok (.iinc 13 1, 3) := by decide +kernel
theorem dL_law_464 : decode cL_law 464 = .ok (.goto (-67), 3) := by decide +kernel
theorem dL_law_467 : decode cL_law 467 = .ok (.aload 6, 2) := by decide +kernel
theorem dL_law_469 : decode cL_law 469 = .ok (.iload 10, 2) := by decide +kernel
theorem dL_law_471 : decode cL_law 471 = .ok (.invokevirtual 125, 3) := by decide +kernel
theorem dL_law_474 : decode cL_law 474 = .ok (.istore 13, 2) := by decide +kernel
theorem dL_law_476 : decode cL_law 476 = .ok (.aload 6, 2) := by decide +kernel
theorem dL_law_478 : decode cL_law 478 = .ok (.iload 13, 2) := by decide +kernel
theorem dL_law_480 : decode cL_law 480 = .ok (.ifCond .ge 8, 3) := by decide +kernel
theorem dL_law_483 : decode cL_law 483 = .ok (.bipush 40, 2) := by decide +kernel
theorem dL_law_485 : decode cL_law 485 = .ok (.goto 5, 3) := by decide +kernel
theorem dL_law_488 : decode cL_law 488 = .ok (.iload 13, 2) := by decide +kernel
theorem dL_law_490 : decode cL_law 490 = .ok (.invokevirtual 21, 3) := by decide +kernel
theorem dL_law_493 : decode cL_law 493 = .ok (.pop, 1) := by decide +kernel
theorem dL_law_494 : decode cL_law 494 = .ok (.aload 6, 2) := by decide +kernel
theorem dL_law_496 : decode cL_law 496 = .ok (.iload 10, 2) := by decide +kernel
theorem dL_law_498 : decode cL_law 498 = .ok (.iconst 5, 1) := by decide +kernel
theorem dL_law_499 : decode cL_law 499 = .ok (.invokevirtual 55, 3) := by decide +kernel
theorem dL_law_502 : decode cL_law 502 = .ok (.ifCond .ne 7, 3) := by decide +kernel
theorem dL_law_505 : decode cL_law 505 = .ok (.iconst 1, 1) := by decide +kernel
theorem dL_law_506 : decode cL_law 506 = .ok (.goto 4, 3) := by decide +kernel
theorem dL_law_509 : decode cL_law 509 = .ok (.iconst 0, 1) := by decide +kernel
theorem dL_law_510 : decode cL_law 510 = .ok (.iload 13, 2) := by decide +kernel
theorem dL_law_512 : decode cL_law 512 = .ok (.ifCond .lt 7, 3) := by decide +kernel
theorem dL_law_515 : decode cL_law 515 = .ok (.iconst 1, 1) := by decide +kernel
theorem dL_law_516 : decode cL_law 516 = .ok (.goto 4, 3) := by decide +kernel
theorem dL_law_519 : decode cL_law 519 = .ok (.iconst 0, 1) := by decide +kernel
theorem dL_law_520 : decode cL_law 520 = .ok (.if_icmp .eq 5, 3) := by decide +kernel
theorem dL_law_523 : decode cL_law 523 = .ok (.iconst 0, 1) := by decide +kernel
theorem dL_law_524 : decode cL_law 524 = .ok (.ireturn, 1) := by decide +kernel
theorem dL_law_525 : decode cL_law 525 = .ok (.iload 13, 2) := by decide +kernel
theorem dL_law_527 : decode cL_law 527 = .ok (.bipush 8, 2) := by decide +kernel
theorem dL_law_529 : decode cL_law 529 = .ok (.if_icmp .le 26, 3) := by decide +kernel
theorem dL_law_532 : decode cL_law 532 = .ok (.aload 6, 2) := by decide +kernel
theorem dL_law_534 : decode cL_law 534 = .ok (.iload 13, 2) := by decide +kernel
theorem dL_law_536 : decode cL_law 536 = .ok (.iconst 1, 1) := by decide +kernel
theorem dL_law_537 : decode cL_law 537 = .ok (.isub, 1) := by decide +kernel
theorem dL_law_538 : decode cL_law 538 = .ok (.invokevirtual 21, 3) := by decide +kernel
theorem dL_law_541 : decode cL_law 541 = .ok (.pop, 1) := by decide +kernel
theorem dL_law_542 : decode cL_law 542 = .ok (.aload 6, 2) := by decide +kernel
theorem dL_law_544 : decode cL_law 544 = .ok (.iload 10, 2) := by decide +kernel
theorem dL_law_546 : decode cL_law 546 = .ok (.iconst 5, 1) := by decide +kernel
theorem dL_law_547 : decode cL_law 547 = .ok (.invokevirtual 55, 3) := by decide +kernel
theorem dL_law_550 : decode cL_law 550 = .ok (.ifCond .ne 5, 3) := by decide +kernel
theorem dL_law_553 : decode cL_law 553 = .ok (.iconst 0, 1) := by decide +kernel
theorem dL_law_554 : decode cL_law 554 = .ok (.ireturn, 1) := by decide +kernel
theorem dL_law_555 : decode cL_law 555 = .ok (.aload 6, 2) := by decide +kernel
theorem dL_law_557 : decode cL_law 557 = .ok (.invokevirtual 83, 3) := by decide +kernel
theorem dL_law_560 : decode cL_law 560 = .ok (.pop, 1) := by decide +kernel
theorem dL_law_561 : decode cL_law 561 = .ok (.iinc 10 1, 3) := by decide +kernel
theorem dL_law_564 : decode cL_law 564 = .ok (.goto (-424), 3) := by decide +kernel
theorem dL_law_567 : decode cL_law 567 = .ok (.aload 6, 2) := by decide +kernel
theorem dL_law_569 : decode cL_law 569 = .ok (.iconst 0, 1) := by decide +kernel
theorem dL_law_570 : decode cL_law 570 = .ok (.invokevirtual 128, 3) := by decide +kernel
theorem dL_law_573 : decode cL_law 573 = .ok (.istore 10, 2) := by decide +kernel
theorem dL_law_575 : decode cL_law 575 = .ok (.iconst 0, 1) := by decide +kernel
theorem dL_law_576 : decode cL_law 576 = .ok (.istore 11, 2) := by decide +kernel
theorem dL_law_578 : decode cL_law 578 = .ok (.iconst 0, 1) := by decide +kernel
theorem dL_law_579 : decode cL_law 579 = .ok (.istore 12, 2) := by decide +kernel
theorem dL_law_581 : decode cL_law 581 = .ok (.iload 12, 2) := by decide +kernel
theorem dL_law_583 : decode cL_law 583 = .ok (.iload 10, 2) := by decide +kernel
theorem dL_law_585 : decode cL_law 585 = .ok (.if_icmp .ge 119, 3) := by decide +kernel
theorem dL_law_588 : decode cL_law 588 = .ok (.iload 11, 2) := by decide +kernel
theorem dL_law_590 : decode cL_law 590 = .ok (.aload 6, 2) := by decide +kernel
theorem dL_law_592 : decode cL_law 592 = .ok (.iload 12, 2) := by decide +kernel
theorem dL_law_594 : decode cL_law 594 = .ok (.iconst 3, 1) := by decide +kernel
theorem dL_law_595 : decode cL_law 595 = .ok (.invokevirtual 131, 3) := by decide +kernel
theorem dL_law_598 : decode cL_law 598 = .ok (.iadd, 1) := by decide +kernel
theorem dL_law_599 : decode cL_law 599 = .ok (.istore 11, 2) := by decide +kernel
theorem dL_law_601 : decode cL_law 601 = .ok (.iconst 0, 1) := by decide +kernel
theorem dL_law_602 : decode cL_law 602 = .ok (.istore 13, 2) := by decide +kernel
theorem dL_law_604 : decode cL_law 604 = .ok (.iload 13, 2) := by decide +kernel
theorem dL_law_606 : decode cL_law 606 = .ok (.iload 12, 2) := by decide +kernel
theorem dL_law_608 : decode cL_law 608 = .ok (.if_icmp .ge 90, 3) := by decide +kernel
theorem dL_law_611 : decode cL_law 611 = .ok (.bipush 48, 2) := by decide +kernel
theorem dL_law_613 : decode cL_law 613 = .ok (.aload 6, 2) := by decide +kernel
theorem dL_law_615 : decode cL_law 615 = .ok (.iload 13, 2) := by decide +kernel
theorem dL_law_617 : decode cL_law 617 = .ok (.iconst 1, 1) := by decide +kernel
theorem dL_law_618 : decode cL_law 618 = .ok (.invokevirtual 131, 3) := by decide +kernel
theorem dL_law_621 : decode cL_law 621 = .ok (.imul, 1) := by decide +kernel
theorem dL_law_622 : decode cL_law 622 = .ok (.aload 6, 2) := by decide +kernel
theorem dL_law_624 : decode cL_law 624 = .ok (.iload 13, 2) := by decide +kernel
theorem dL_law_626 : decode cL_law 626 = .ok (.iconst 2, 1) := by decide +kernel
theorem dL_law_627 : decode cL_law 627 = .ok (.invokevirtual 131, 3) := by decide +kernel
theorem dL_law_630 : decode cL_law 630 = .ok (.iadd, 1) := by decide +kernel
theorem dL_law_631 : decode cL_law 631 = .ok (.aload 6, 2) := by decide +kernel
theorem dL_law_633 : decode cL_law 633 = .ok (.iload 13, 2) := by decide +kernel
theorem dL_law_635 : decode cL_law 635 = .ok (.iconst 3, 1) := by decide +kernel
theorem dL_law_636 : decode cL_law 636 = .ok (.invokevirtual 131, 3) := by decide +kernel
theorem dL_law_639 : decode cL_law 639 = .ok (.iadd, 1) := by decide +kernel
theorem dL_law_640 : decode cL_law 640 = .ok (.istore 14, 2) := by decide +kernel
theorem dL_law_642 : decode cL_law 642 = .ok (.aload 6, 2) := by decide +kernel
theorem dL_law_644 : decode cL_law 644 = .ok (.iload 12, 2) := by decide +kernel
theorem dL_law_646 : decode cL_law 646 = .ok (.iconst 4, 1) := by decide +kernel
theorem dL_law_647 : decode cL_law 647 = .ok (.invokevirtual 131, 3) := by decide +kernel
theorem dL_law_650 : decode cL_law 650 = .ok (.aload 6, 2) := by decide +kernel
theorem dL_law_652 : decode cL_law 652 = .ok (.iload 13, 2) := by decide +kernel
theorem dL_law_654 : decode cL_law 654 = .ok (.iconst 4, 1) := by decide +kernel
theorem dL_law_655 : decode cL_law 655 = .ok (.invokevirtual 131, 3) := by decide +kernel
theorem dL_law_658 : decode cL_law 658 = .ok (.if_icmp .ne 34, 3) := by decide +kernel
theorem dL_law_661 : decode cL_law 661 = .ok (.bipush 48, 2) := by decide +kernel
theorem dL_law_663 : decode cL_law 663 = .ok (.aload 6, 2) := by decide +kernel
theorem dL_law_665 : decode cL_law 665 = .ok (.iload 12, 2) := by decide +kernel
theorem dL_law_667 : decode cL_law 667 = .ok (.iconst 1, 1) := by decide +kernel
theorem dL_law_668 : decode cL_law 668 = .ok (.invokevirtual 131, 3) := by decide +kernel
theorem dL_law_671 : decode cL_law 671 = .ok (.imul, 1) := by decide +kernel
theorem dL_law_672 : decode cL_law 672 = .ok (.aload 6, 2) := by decide +kernel
theorem dL_law_674 : decode cL_law 674 = .ok (.iload 12, 2) := by decide +kernel
theorem dL_law_676 : decode cL_law 676 = .ok (.iconst 2, 1) := by decide +kernel
theorem dL_law_677 : decode cL_law 677 = .ok (.invokevirtual 131, 3) := by decide +kernel
theorem dL_law_680 : decode cL_law 680 = .ok (.iadd, 1) := by decide +kernel
theorem dL_law_681 : decode cL_law 681 = .ok (.iload 14, 2) := by decide +kernel
theorem dL_law_683 : decode cL_law 683 = .ok (.aload_n 1, 1) := by decide +kernel
theorem dL_law_684 : decode cL_law 684 = .ok (.iconst 1, 1) := by decide +kernel
theorem dL_law_685 : decode cL_law 685 = .ok (.iaload, 1) := by decide +kernel
theorem dL_law_686 : decode cL_law 686 = .ok (.iadd, 1) := by decide +kernel
theorem dL_law_687 : decode cL_law 687 = .ok (.if_icmp .ge 5, 3) := by decide +kernel
theorem dL_law_690 : decode cL_law 690 = .ok (.iconst 0, 1) := by decide +kernel
theorem dL_law_691 : decode cL_law 691 = .ok (.ireturn, 1) := by decide +kernel
theorem dL_law_692 : decode cL_law 692 = .ok (.iinc 13 1, 3) := by decide +kernel
theorem dL_law_695 : decode cL_law 695 = .ok (.goto (-91), 3) := by decide +kernel
theorem dL_law_698 : decode cL_law 698 = .ok (.iinc 12 1, 3) := by decide +kernel
theorem dL_law_701 : decode cL_law 701 = .ok (.goto (-120), 3) := by decide +kernel
theorem dL_law_704 : decode cL_law 704 = .ok (.iload 11, 2) := by decide +kernel
theorem dL_law_706 : decode cL_law 706 = .ok (.iload 9, 2) := by decide +kernel
theorem dL_law_708 : decode cL_law 708 = .ok (.if_icmp .ne 18, 3) := by decide +kernel
theorem dL_law_711 : decode cL_law 711 = .ok (.aload 6, 2) := by decide +kernel
theorem dL_law_713 : decode cL_law 713 = .ok (.iconst 1, 1) := by decide +kernel
theorem dL_law_714 : decode cL_law 714 = .ok (.invokevirtual 128, 3) := by decide +kernel
theorem dL_law_717 : decode cL_law 717 = .ok (.aload 6, 2) := by decide +kernel
theorem dL_law_719 : decode cL_law 719 = .ok (.iconst 2, 1) := by decide +kernel
theorem dL_law_720 : decode cL_law 720 = .ok (.invokevirtual 128, 3) := by decide +kernel
theorem dL_law_723 : decode cL_law 723 = .ok (.if_icmp .eq 5, 3) := by decide +kernel
theorem dL_law_726 : decode cL_law 726 = .ok (.iconst 0, 1) := by decide +kernel
theorem dL_law_727 : decode cL_law 727 = .ok (.ireturn, 1) := by decide +kernel
theorem dL_law_728 : decode cL_law 728 = .ok (.iconst 0, 1) := by decide +kernel
theorem dL_law_729 : decode cL_law 729 = .ok (.istore 12, 2) := by decide +kernel
theorem dL_law_731 : decode cL_law 731 = .ok (.iload 12, 2) := by decide +kernel
theorem dL_law_733 : decode cL_law 733 = .ok (.iload_n 2, 1) := by decide +kernel
theorem dL_law_734 : decode cL_law 734 = .ok (.if_icmp .ge 120, 3) := by decide +kernel
theorem dL_law_737 : decode cL_law 737 = .ok (.aload_n 0, 1) := by decide +kernel
theorem dL_law_738 : decode cL_law 738 = .ok (.sipush 250, 3) := by decide +kernel
theorem dL_law_741 : decode cL_law 741 = .ok (.iload 12, 2) := by decide +kernel
theorem dL_law_743 : decode cL_law 743 = .ok (.iadd, 1) := by decide +kernel
theorem dL_law_744 : decode cL_law 744 = .ok (.iconst 2, 1) := by decide +kernel
theorem dL_law_745 : decode cL_law 745 = .ok (.invokestatic 17, 3) := by decide +kernel
theorem dL_law_748 : decode cL_law 748 = .ok (.istore 13, 2) := by decide +kernel
theorem dL_law_750 : decode cL_law 750 = .ok (.aload 6, 2) := by decide +kernel
theorem dL_law_752 : decode cL_law 752 = .ok (.iload 12, 2) := by decide +kernel
theorem dL_law_754 : decode cL_law 754 = .ok (.iload 13, 2) := by decide +kernel
theorem dL_law_756 : decode cL_law 756 = .ok (.iconst 0, 1) := by decide +kernel
theorem dL_law_757 : decode cL_law 757 = .ok (.invokevirtual 134, 3) := by decide +kernel
theorem dL_law_760 : decode cL_law 760 = .ok (.istore 14, 2) := by decide +kernel
theorem dL_law_762 : decode cL_law 762 = .ok (.iconst 0, 1) := by decide +kernel
theorem dL_law_763 : decode cL_law 763 = .ok (.istore 15, 2) := by decide +kernel
theorem dL_law_765 : decode cL_law 765 = .ok (.iconst 1, 1) := by decide +kernel
theorem dL_law_766 : decode cL_law 766 = .ok (.istore 16, 2) := by decide +kernel
theorem dL_law_768 : decode cL_law 768 = .ok (.iload 16, 2) := by decide +kernel
theorem dL_law_770 : decode cL_law 770 = .ok (.iload 14, 2) := by decide +kernel
theorem dL_law_772 : decode cL_law 772 = .ok (.if_icmp .ge 46, 3) := by decide +kernel
theorem dL_law_775 : decode cL_law 775 = .ok (.iload 15, 2) := by decide +kernel
theorem dL_law_777 : decode cL_law 777 = .ok (.aload 6, 2) := by decide +kernel
theorem dL_law_779 : decode cL_law 779 = .ok (.iload 12, 2) := by decide +kernel
theorem dL_law_781 : decode cL_law 781 = .ok (.iload 13, 2) := by decide +kernel
theorem dL_law_783 : decode cL_law 783 = .ok (.iload 16, 2) := by decide +kernel
theorem dL_law_785 : decode cL_law 785 = .ok (.invokevirtual 137, 3) := by decide +kernel
theorem dL_law_788 : decode cL_law 788 = .ok (.aload 6, 2) := by decide +kernel
theorem dL_law_790 : decode cL_law 790 = .ok (.iload 12, 2) := by decide +kernel
theorem dL_law_792 : decode cL_law 792 = .ok (.iload 13, 2) := by decide +kernel
theorem dL_law_794 : decode cL_law 794 = .ok (.iload 16, 2) := by decide +kernel
theorem dL_law_796 : decode cL_law 796 = .ok (.iconst 1, 1) := by decide +kernel
theorem dL_law_797 : decode cL_law 797 = .ok (.isub, 1) := by decide +kernel
theorem dL_law_798 : decode cL_law 798 = .ok (.invokevirtual 137, 3) := by decide +kernel
theorem dL_law_801 : decode cL_law 801 = .ok (.if_icmp .eq 7, 3) := by decide +kernel
theorem dL_law_804 : decode cL_law 804 = .ok (.iconst 1, 1) := by decide +kernel
theorem dL_law_805 : decode cL_law 805 = .ok (.goto 4, 3) := by decide +kernel
theorem dL_law_808 : decode cL_law 808 = .ok (.iconst 0, 1) := by decide +kernel
theorem dL_law_809 : decode cL_law 809 = .ok (.iadd, 1) := by decide +kernel
theorem dL_law_810 : decode cL_law 810 = .ok (.istore 15, 2) := by decide +kernel
theorem dL_law_812 : decode cL_law 812 = .ok (.iinc 16 1, 3) := by decide +kernel
theorem dL_law_815 : decode cL_law 815 = .ok (.goto (-47), 3) := by decide +kernel
theorem dL_law_818 : decode cL_law 818 = .ok (.aload 6, 2) := by decide +kernel
theorem dL_law_820 : decode cL_law 820 = .ok (.iload 12, 2) := by decide +kernel
theorem dL_law_822 : decode cL_law 822 = .ok (.iload 13, 2) := by decide +kernel
theorem dL_law_824 : decode cL_law 824 = .ok (.iconst 1, 1) := by decide +kernel
theorem dL_law_825 : decode cL_law 825 = .ok (.invokevirtual 134, 3) := by decide +kernel
theorem dL_law_828 : decode cL_law 828 = .ok (.ifCond .lt 20, 3) := by decide +kernel
theorem dL_law_831 : decode cL_law 831 = .ok (.aload 6, 2) := by decide +kernel
theorem dL_law_833 : decode cL_law 833 = .ok (.iload 12, 2) := by decide +kernel
theorem dL_law_835 : decode cL_law 835 = .ok (.iload 13, 2) := by decide +kernel
theorem dL_law_837 : decode cL_law 837 = .ok (.iconst 1, 1) := by decide +kernel
theorem dL_law_838 : decode cL_law 838 = .ok (.invokevirtual 134, 3) := by decide +kernel
theorem dL_law_841 : decode cL_law 841 = .ok (.iload 15, 2) := by decide +kernel
theorem dL_law_843 : decode cL_law 843 = .ok (.if_icmp .eq 5, 3) := by decide +kernel
theorem dL_law_846 : decode cL_law 846 = .ok (.iconst 0, 1) := by decide +kernel
theorem dL_law_847 : decode cL_law 847 = .ok (.ireturn, 1) := by decide +kernel
theorem dL_law_848 : decode cL_law 848 = .ok (.iinc 12 1, 3) := by decide +kernel
theorem dL_law_851 : decode cL_law 851 = .ok (.goto (-120), 3) := by decide +kernel
theorem dL_law_854 : decode cL_law 854 = .ok (.iconst 0, 1) := by decide +kernel
theorem dL_law_855 : decode cL_law 855 = .ok (.istore 12, 2) := by decide +kernel
theorem dL_law_857 : decode cL_law 857 = .ok (.iload 12, 2) := by decide +kernel
theorem dL_law_859 : decode cL_law 859 = .ok (.bipush 48, 2) := by decide +kernel
theorem dL_law_861 : decode cL_law 861 = .ok (.if_icmp .ge 39, 3) := by decide +kernel
theorem dL_law_864 : decode cL_law 864 = .ok (.iconst 0, 1) := by decide +kernel
theorem dL_law_865 : decode cL_law 865 = .ok (.istore 13, 2) := by decide +kernel
theorem dL_law_867 : decode cL_law 867 = .ok (.iload 13, 2) := by decide +kernel
theorem dL_law_869 : decode cL_law 869 = .ok (.iconst 2, 1) := by decide +kernel
theorem dL_law_870 : decode cL_law 870 = .ok (.if_icmp .ge 24, 3) := by decide +kernel
theorem dL_law_873 : decode cL_law 873 = .ok (.aload 6, 2) := by decide +kernel
theorem dL_law_875 : decode cL_law 875 = .ok (.iload 13, 2) := by decide +kernel
theorem dL_law_877 : decode cL_law 877 = .ok (.iconst 0, 1) := by decide +kernel
theorem dL_law_878 : decode cL_law 878 = .ok (.iload 12, 2) := by decide +kernel
theorem dL_law_880 : decode cL_law 880 = .ok (.invokevirtual 140, 3) := by decide +kernel
theorem dL_law_883 : decode cL_law 883 = .ok (.ifCond .ge 5, 3) := by decide +kernel
theorem dL_law_886 : decode cL_law 886 = .ok (.iconst 0, 1) := by decide +kernel
theorem dL_law_887 : decode cL_law 887 = .ok (.ireturn, 1) := by decide +kernel
theorem dL_law_888 : decode cL_law 888 = .ok (.iinc 13 1, 3) := by decide +kernel
theorem dL_law_891 : decode cL_law 891 = .ok (.goto (-24), 3) := by decide +kernel
theorem dL_law_894 : decode cL_law 894 = .ok (.iinc 12 5, 3) := by decide +kernel
theorem dL_law_897 : decode cL_law 897 = .ok (.goto (-40), 3) := by decide +kernel
theorem dL_law_900 : decode cL_law 900 = .ok (.aload 6, 2) := by decide +kernel
theorem dL_law_902 : decode cL_law 902 = .ok (.invokestatic 102, 3) := by decide +kernel
theorem dL_law_905 : decode cL_law 905 = .ok (.lload 7, 2) := by decide +kernel
theorem dL_law_907 : decode cL_law 907 = .ok (.lcmp, 1) := by decide +kernel
theorem dL_law_908 : decode cL_law 908 = .ok (.ifCond .ne 7, 3) := by decide +kernel
theorem dL_law_911 : decode cL_law 911 = .ok (.iconst 1, 1) := by decide +kernel
theorem dL_law_912 : decode cL_law 912 = .ok (.goto 4, 3) := by decide +kernel
theorem dL_law_915 : decode cL_law 915 = .ok (.iconst 0, 1) := by decide +kernel
theorem dL_law_916 : decode cL_law 916 = .ok (.ireturn, 1) := by decide +kernel
abbrev vwCl : List vw_C := [(RX0, TX0, 14), (RX1, TX1, 10), (RX3, TX3, 14), (RX4, TX4, 1), (RX5, TX5, 9), (RX6, TX6, 3), (RX7, TX7, 5), (RX8, TX8, 9), (RX9, TX9, 4), (RX10, TX10, 14)]
end
section
/-! TABLES: what the constructor makes, by place (the order of the making): kind (0 int[], 1 long[], 2 boolean[], 3 char[], 4 Week[], 5 + c an object of row c of vwCl) and size; the classes' fields by type (0 int, 1 long, 2 a reference); what each reference holds -/
def shL : List (Nat × Nat) := [(14, 14), (5, 14), (0, 12), (0, 12), (0, 12), (0, 10), (0, 10), (0, 10), (0, 10), (0, 6), (5, 14), (0, 12), (0, 12), (0, 12), (0, 10), (0, 10), (0, 10), (0, 10), (0, 6), (5, 14), (0, 12), (0, 12), (0, 12), (0, 10), (0, 10), (0, 10), (0, 10), (0, 6), (11, 5), (0, 250), (10, 3), (0, 8), (0, 8), (1, 320), (0, 5), (8, 1), (7, 14), (0, 4), (0, 4), (0, 4), (0, 4), (0, 4), (0, 4), (13, 4), (8, 1), (7, 14), (0, 4), (0, 4), (0, 4), (0, 4), (0, 4), (0, 4), (4, 10), (2, 10), (12, 9), (2, 5), (0, 5), (0, 5), (0, 5), (0, 5), (1, 5), (0, 20), (0, 20), (0, 20), (12, 9), (2, 5), (0, 5), (0, 5), (0, 5), (0, 5), (1, 5), (0, 20), (0, 20), (0, 20), (12, 9), (2, 5), (0, 5), (0, 5), (0, 5), (0, 5), (1, 5), (0, 20), (0, 20), (0, 20), (12, 9), (2, 5), (0, 5), (0, 5), (0, 5), (0, 5), (1, 5), (0, 20), (0, 20), (0, 20), (12, 9), (2, 5), (0, 5), (0, 5), (0, 5), (0, 5), (1, 5), (0, 20), (0, 20), (0, 20), (12, 9), (2, 5), (0, 5), (0, 5), (0, 5), (0, 5), (1, 5), (0, 20), (0, 20), (0, 20), (12, 9), (2, 5), (0, 5), (0, 5), (0, 5), (0, 5), (1, 5), (0, 20), (0, 20), (0, 20), (12, 9), (2, 5), (0, 5), (0, 5), (0, 5), (0, 5), (1, 5), (0, 20), (0, 20), (0, 20), (12, 9), (2, 5), (0, 5), (0, 5), (0, 5), (0, 5), (1, 5), (0, 20), (0, 20), (0, 20), (12, 9), (2, 5), (0, 5), (0, 5), (0, 5), (0, 5), (1, 5), (0, 20), (0, 20), (0, 20), (12, 9), (2, 5), (0, 5), (0, 5), (0, 5), (0, 5), (1, 5), (0, 20), (0, 20), (0, 20), (6, 10), (0, 200), (0, 200), (0, 200), (0, 200), (0, 200), (0, 200), (9, 9), (0, 288), (1, 6), (1, 9), (0, 10), (0, 10), (0, 90), (0, 54), (0, 48), (0, 48)]
def ftL : List (List Nat) := [[2, 2, 2, 2, 2, 2, 2, 2, 0, 0, 0, 0, 0, 0], [2, 2, 2, 2, 2, 2, 0, 0, 0, 0], [2, 2, 2, 2, 2, 2, 0, 0, 0, 0, 1, 1, 0, 0], [2], [2, 2, 2, 2, 2, 2, 2, 0, 0], [2, 2, 2], [2, 0, 0, 0, 0], [2, 2, 2, 2, 2, 2, 2, 2, 2], [2, 2, 2, 0], [2, 2, 2, 0, 2, 2, 2, 2, 2, 2, 2, 2, 2, 2]]
def WS : List Cond := lw_tbl.filter goodWord
theorem inWS {c : Cond} (i : Nat) (h : lw_tbl[i]? = some c) (hg : goodWord c = true) : c ∈ WS := List.mem_filter.mpr ⟨List.mem_of_getElem? h, hg⟩
theorem WS_tbl {c : Cond} (h : c ∈ WS) : c ∈ lw_tbl := (List.mem_filter.mp h).1
theorem WS_good {c : Cond} (h : c ∈ WS) : goodWord c = true := (List.mem_filter.mp h).2
/-- links between nest mates -/
def nwL : List (String × Nat × MethodName × String) := [(RX10, 11, yX0_init, "ClashDays"), (RX10, 24, yX7_init, "ClashDays"), (RX10, 31, yX6_init, "ClashDays"), (RX10, 42, yX4_init, "ClashDays"), (RX4, 11, yX3_init, "ClashDays"), (RX9, 11, yX4_init, "ClashDays"), (RX9, 32, yX8_init, "ClashDays"), (RX10, 56, yX8_init, "ClashDays"), (RX10, 63, yX1_init, "ClashDays"), (RX10, 70, yX5_init, "ClashDays"), (RX0, 61, yX10_hasBit, "ClashDays"), (RX3, 62, yX10_span, "ClashDays"), (RX3, 72, yX10_hasBit, "ClashDays"), (RX4, 70, yX10_hasBit, "ClashDays"), (RX4, 85, yX10_span, "ClashDays"), (RX8, 75, yX10_hasSlot, "ClashDays"), (RX8, 95, yX10_span, "ClashDays"), (RX5, 87, yX10_hasSlot, "ClashDays")]
end
section
/-! MEMORY AND VALUES: an object or array has a place (a number, in the order of its making); memory gives a place's k-th entry as a whole number -/
abbrev Mem : Type := Int → Int → Int
abbrev V : Type := Nat × Int
abbrev MD : Type := String × ByteArray × Nat × Option FieldType × Nat × Nat × Bool × (State → (Nat → Prop) → (Nat → Nat) → Prop)
abbrev in32 (x : Int) : Prop := -2147483648 ≤ x ∧ x ≤ 2147483647
abbrev in64 (x : Int) : Prop := -9223372036854775808 ≤ x ∧ x ≤ 9223372036854775807
def rv (ad : Nat → Nat) : V → Value
  | (0, x) => .int (Int32.ofInt x)
  | (1, x) => .long (Int64.ofInt x)
  | (2, x) => if x < 0 then .null else .ref (ad x.toNat)
  | (3, x) => .ref (ad (100000 + x.toNat))
  | (_, _) => if ad 500000 = 0 then .null else .ref (ad 500001)
def okv (n : Nat) : V → Prop
  | (0, x) => in32 x
  | (1, x) => in64 x
  | (2, x) => -1 ≤ x ∧ x < n
  | _ => True
def shp (k : Nat) : Nat × Nat := shL.getD k (0, 0)
def fts (c : Nat) : List Nat := ftL.getD c []
def szL : Nat → Nat
  | 0 => 0
  | n + 1 => szL n + (shp n).2
def cel (dA : Nat → ClassId) (ad : Nat → Nat) (ρ σ : Mem) (k : Nat) : va_E := match shp k with
  | (0, n) => .inl (dA 0, n, .inl fun j => Int32.ofInt (σ k j))
  | (1, n) => .inl (dA 1, n, .inr (.inl fun j => Int64.ofInt (σ k j)))
  | (2, n) => .inl (dA 2, n, .inl fun j => Int32.ofInt (σ k j))
  | (3, n) => .inl (dA 3, n, .inl fun j => Int32.ofInt (σ k j))
  | (4, n) => .inl (dA 4, n, .inr (.inr (.inr (.inr fun j => if ρ k j < 0 then none else some (ad (ρ k j).toNat)))))
  | (c + 5, _) => .inr (c, (fts c).mapIdx fun j t => rv ad (t, if t = 2 then ρ k j else σ k j))
def wl (dA : Nat → ClassId) (ad : Nat → Nat) (ρ σ : Mem) (n : Nat) : va_W := (List.range n).map fun k => (ad k, cel dA ad ρ σ k)
def TY (dA : Nat → ClassId) : List (ClassId × FieldType) := [(dA 0, .int), (dA 1, .long), (dA 2, .boolean), (dA 3, .array .int), (dA 4, .object "ClashDays$Week")]
def lgt (k j : Int) : Bool := match shp k.toNat with
  | (0, _) => false
  | (1, _) => true
  | (2, _) => false
  | (3, _) => false
  | (4, _) => false
  | (c + 5, _) => (fts c).getD j.toNat 0 == 1
def rok (σ : Mem) : Prop := ∀ k j : Int, if lgt k j = true then in64 (σ k j) else in32 (σ k j)
def rokr (n : Nat) (ρ : Mem) : Prop := ∀ k j : Int, -1 ≤ ρ k j ∧ ρ k j < n
def frs (n : Nat) (ρ σ : Mem) : Prop := ∀ k j : Int, n ≤ k → ρ k j = -1 ∧ σ k j = 0
def pok (n : Nat) (ρ σ : Mem) : Prop := rok σ ∧ rokr n ρ ∧ frs n ρ σ
def mup (σ : Mem) (k j v : Int) : Mem := fun a b => if a = k ∧ b = j then v else σ a b
def mcp (σ : Mem) (a i b j n : Int) : Mem := fun x y => if x = b ∧ j ≤ y ∧ y < j + n then σ a (i + (y - j)) else σ x y
def Sk (_ad : Nat → Nat) (_A : Nat → Prop) (U : State) (_H : Heap) : Prop := va_AO "ClashDays$Week" U ∧ ∀ q ∈ nwL, va_Nw (.methodLinkNest q.1 q.2.1 q.2.2.1 q.2.2.2) U
/-- a class's facts: its row of vwCl, its words, the types of its fields -/
def tgF : FieldType → Nat
  | .long => 1
  | .object _ => 2
  | .array _ => 2
  | _ => 0
def CF (ci : Nat) (C : String) (T : u_T) (N : Nat) (ty : Nat → FieldType) : Prop := vwCl[ci]? = some (C, T, N) ∧ (∀ w ∈ u_ws C T N, w ∈ WS) ∧ (∀ k, k < N → parseFieldDescriptor (T k).2.2.1 = some (ty k)) ∧ (∀ a, a < N → ∀ b, b < N → a ≠ b → (T a).2.1 ≠ (T b).2.1) ∧ (fts ci).length = N ∧ ∀ k, k < N → (fts ci)[k]? = some (tgF (ty k)) ∧ (ty k = .int ∨ ty k = .boolean ∨ ty k = .long ∨ (∃ c, ty k = .object c) ∨ ∃ c, ty k = .array c)
/-- the local variables: each with its value; 9: nothing known of it -/
def lz (ad : Nat → Nat) : Nat → List V → List (Nat × Value)
  | _, [] => []
  | i, v :: L => if v.1 = 9 then lz ad (i + 1) L else (i, rv ad v) :: lz ad (i + 1) L
def Cx (M : MD) (n0 n1 : Nat) (p : Program) (Rm : Room) (s : State) (m : MethodId) (args : Array Value) (meth : Method) (c : Code) : Prop :=
  p.tables.exec = Jvm.exec ∧ c.code = M.2.1 ∧ meth.sig.returnType = M.2.2.2.1 ∧ c.maxLocals = M.2.2.1 ∧ s.vm.findClass M.1 = some m.cls ∧ (∀ w ∈ WS, w.before args s = true) ∧ meth.locks = false ∧ M.2.2.2.2.1 ≤ Rm.frames ∧ M.2.2.2.2.2.1 ≤ Rm.locals ∧ n1 - n0 ≤ Rm.cells ∧ szL n1 - szL n0 ≤ Rm.slots ∧ (M.2.2.2.2.2.2.1 = true → meth.name = "<init>")
def Cw (M : MD) (D : va_G) (dA : Nat → ClassId) (n0 : Nat) (ad0 : Nat → Nat) (A : Nat → Prop) (s : State) : Prop := va_K D vwCl (TY dA) s ∧ Sk ad0 A s s.heap ∧ (∀ q, s.heap.size ≤ q → A q) ∧ (∀ k, k < n0 → A (ad0 k)) ∧ M.2.2.2.2.2.2.2 s A ad0
def Ch (D : va_G) (dA : Nat → ClassId) (n0 n1 n : Nat) (ad0 ad : Nat → Nat) (ρ σ : Mem) (A : Nat → Prop) (H0 H : Heap) (locs : List Loc) : Prop := va_P D vwCl (wl dA ad ρ σ n) H ∧ va_D A (wl dA ad ρ σ n) ∧ va_S A H0 H locs ∧ (∀ k, k < n0 → ad k = ad0 k) ∧ (∀ k, 100000 ≤ k → ad k = ad0 k) ∧ pok n ρ σ ∧ n0 ≤ n ∧ n ≤ n1 ∧ n1 ≤ 90000
def Af (n0 : Nat) (ad0 : Nat → Nat) (sz : Nat) : Nat → Prop := fun q => (∃ k, k < n0 ∧ q = ad0 k) ∨ sz ≤ q
def Qm (n0 n1 : Nat) (r : Option V × Mem × Mem) (D : va_G) (dA : Nat → ClassId) (ad0 : Nat → Nat) (A : Nat → Prop) : Array Value → State → Outcome → State → Prop := fun _ st oc t =>
  (∃ ad : Nat → Nat, (∀ k, k < n0 → ad k = ad0 k) ∧ (∀ k, 100000 ≤ k → ad k = ad0 k) ∧ oc = .returned (r.1.map (rv ad)) ∧ (∀ v, r.1 = some v → okv n1 v) ∧ va_P D vwCl (wl dA ad r.2.1 r.2.2 n1) t.heap ∧ va_D A (wl dA ad r.2.1 r.2.2 n1) ∧ pok n1 r.2.1 r.2.2 ∧ n0 ≤ n1 ∧ n1 ≤ 90000) ∧ va_F A st t
/-- FROM HERE IT COMES TO r: the method's code from pc on, with these locals, this stack, this memory, comes to its end, with the answer and memory r -/
def Ev (M : MD) (n0 n1 : Nat) (r : Option V × Mem × Mem) (pc n : Nat) (ρ σ : Mem) (L st : List V) : Prop :=
  ∀ (p : Program) (l : Launch) (e : Env) (Rm : Room) (s : State) (m : MethodId) (args : Array Value) (below : List Frame) (meth : Method) (c : Code) (A : Nat → Prop) (H : Heap) (locs : List Loc) (D : va_G) (dA : Nat → ClassId) (ad0 ad : Nat → Nat) (ls : Array Slot),
    Cx M n0 n1 p Rm s m args meth c → Cw M D dA n0 ad0 A s → Ch D dA n0 n1 n ad0 ad ρ σ A s.heap H locs → lv_has ls M.2.2.1 (lz ad 0 L) → (∀ v ∈ L, okv n v) → L.length = M.2.2.1 → (∀ v ∈ st, okv n v) →
    W p l e Rm s m args below meth c H locs (n - n0) (szL n - szL n0) (MQ below (Qm n0 n1 r D dA ad0 A) args s (n1 - n0) (szL n1 - szL n0) A) (F0 m pc ls (st.map (rv ad)))
theorem cons_ok {n : Nat} {v : V} {st : List V} (h : ∀ w ∈ v :: st, okv n w) : okv n v ∧ ∀ w ∈ st, okv n w := ⟨h v List.mem_cons_self, fun w hw => h w (List.mem_cons_of_mem _ hw)⟩
theorem ok_cons {n : Nat} {v : V} {st : List V} (h1 : okv n v) (h2 : ∀ w ∈ st, okv n w) : ∀ w ∈ v :: st, okv n w := by
  intro w hw
  rcases List.mem_cons.mp hw with h | h
  · rw [h]; exact h1
  · exact h2 w h
theorem ti32 (z : Int32) : in32 z.toInt := ⟨z.le_toInt, by have := z.toInt_lt; omega⟩
theorem ti64 (z : Int64) : in64 z.toInt := ⟨z.le_toInt, by have := z.toInt_lt; omega⟩
theorem oi32 {x : Int} (h : in32 x) : (Int32.ofInt x).toInt = x := Int32.toInt_ofInt_of_le h.1 (by have := h.2; omega)
theorem oi64 {x : Int} (h : in64 x) : (Int64.ofInt x).toInt = x := Int64.toInt_ofInt_of_le h.1 (by have := h.2; omega)
theorem lz_mem {ad : Nat → Nat} {v : V} (hv : v.1 ≠ 9) : ∀ (L : List V) (j i : Nat), L[i]? = some v → (j + i, rv ad v) ∈ lz ad j L := by
  intro L
  induction L with
  | nil => intro j i h; simp at h
  | cons a L ih =>
    intro j i h
    cases i with
    | zero =>
      simp at h; subst h
      simp [lz, hv]
    | succ i =>
      have h2 := ih (j + 1) i (by simpa using h)
      have e : j + 1 + i = j + (i + 1) := by omega
      rw [e] at h2
      unfold lz
      split
      · exact h2
      · exact List.mem_cons_of_mem _ h2
theorem lz_inv {ad : Nat → Nat} : ∀ (L : List V) (j : Nat) (q : Nat × Value), q ∈ lz ad j L → ∃ i v, q = (j + i, rv ad v) ∧ L[i]? = some v ∧ v.1 ≠ 9 := by
  intro L
  induction L with
  | nil => intro j q h; simp [lz] at h
  | cons a L ih =>
    intro j q h
    unfold lz at h
    split at h
    · obtain ⟨i, v, h1, h2, h3⟩ := ih (j + 1) q h
      exact ⟨i + 1, v, by rw [h1]; congr 1; omega, by simpa using h2, h3⟩
    · rename_i ha
      rcases List.mem_cons.mp h with h | h
      · exact ⟨0, a, by simpa using h, by simp, ha⟩
      · obtain ⟨i, v, h1, h2, h3⟩ := ih (j + 1) q h
        exact ⟨i + 1, v, by rw [h1]; congr 1; omega, by simpa using h2, h3⟩
theorem lok_at {ls : Array Slot} {nL : Nat} {ad : Nat → Nat} {L : List V} {i : Nat} {v : V} (h : lv_has ls nL (lz ad 0 L)) (hi : L[i]? = some v) (hv : v.1 ≠ 9) : ls[i]? = some (.val (rv ad v)) := by
  have h1 := lz_mem (ad := ad) hv L 0 i hi
  rw [Nat.zero_add] at h1
  exact h.2.2 _ h1
theorem lok_sub {ls : Array Slot} {nL : Nat} {l l' : List (Nat × Value)} (h : lv_has ls nL l) (hs : ∀ q ∈ l', q ∈ l) : lv_has ls nL l' := ⟨h.1, h.2.1, fun q hq => h.2.2 q (hs q hq)⟩
theorem rv_cat (ad : Nat → Nat) (v : V) : (rv ad v).category = if v.1 = 1 then 2 else 1 := by
  obtain ⟨t, x⟩ := v
  match t with
  | 0 => rfl
  | 1 => rfl
  | 2 => show (if x < 0 then Value.null else Value.ref _).category = 1; split <;> rfl
  | 3 => rfl
  | t + 4 => show (if ad 500000 = 0 then Value.null else Value.ref _).category = _; split <;> simp [Value.category]
/-- a store does not cut a long in two -/
def stk (L : List V) (i : Nat) : Bool := match i with
  | 0 => true
  | j + 1 => match L[j]? with
    | some (1, _) => false
    | _ => true
theorem lok_st1 {ad : Nat → Nat} {L : List V} {i : Nat} {v : V} {ls : Array Slot} {nL : Nat} (hc : v.1 ≠ 1) (hk : stk L i = true) (h : lv_has ls nL ((i, rv ad v) :: (lz ad 0 L).filter (fun q => !(q.1 == i) && !(q.1 + 1 == i && q.2.category == 2)))) : lv_has ls nL (lz ad 0 (L.set i v)) := by
  refine lok_sub h fun q hq => ?_
  obtain ⟨j, u, h1, h2, h3⟩ := lz_inv _ _ _ hq
  rw [Nat.zero_add] at h1
  rw [List.getElem?_set] at h2
  by_cases hij : i = j
  · rw [if_pos hij] at h2
    split at h2
    · cases h2
      rw [h1, hij]
      exact List.mem_cons_self
    · cases h2
  · rw [if_neg hij] at h2
    refine List.mem_cons_of_mem _ (List.mem_filter.mpr ⟨?_, ?_⟩)
    · have := lz_mem (ad := ad) h3 L 0 j h2
      rw [Nat.zero_add] at this
      rw [h1]; exact this
    · rw [h1]
      have e1 : (j == i) = false := by simpa using (Ne.symm hij)
      simp only [e1, Bool.not_false, Bool.true_and]
      by_cases h4 : j + 1 = i
      · subst h4
        have : u.1 ≠ 1 := by
          intro hu
          obtain ⟨t, x⟩ := u
          simp only at hu
          subst hu
          simp [stk, h2] at hk
        simp [rv_cat, this]
      · simp [h4]
theorem lok_st2 {ad : Nat → Nat} {L : List V} {i : Nat} {v : V} {ls : Array Slot} {nL : Nat} (hk : stk L i = true) (h : lv_has ls nL ((i, rv ad v) :: (lz ad 0 L).filter (fun q => !(q.1 == i) && (!(q.1 == i + 1) && !(q.1 + 1 == i && q.2.category == 2))))) : lv_has ls nL (lz ad 0 ((L.set i v).set (i + 1) (9, 0))) := by
  refine lok_sub h fun q hq => ?_
  obtain ⟨j, u, h1, h2, h3⟩ := lz_inv _ _ _ hq
  rw [Nat.zero_add] at h1
  rw [List.getElem?_set] at h2
  by_cases hj1 : i + 1 = j
  · rw [if_pos hj1] at h2
    split at h2
    · cases h2; exact absurd rfl h3
    · cases h2
  rw [if_neg hj1, List.getElem?_set] at h2
  by_cases hij : i = j
  · rw [if_pos hij] at h2
    split at h2
    · cases h2
      rw [h1, hij]
      exact List.mem_cons_self
    · cases h2
  · rw [if_neg hij] at h2
    refine List.mem_cons_of_mem _ (List.mem_filter.mpr ⟨?_, ?_⟩)
    · have := lz_mem (ad := ad) h3 L 0 j h2
      rw [Nat.zero_add] at this
      rw [h1]; exact this
    · rw [h1]
      have e1 : (j == i) = false := by simpa using (Ne.symm hij)
      have e2 : (j == i + 1) = false := by simpa using (Ne.symm hj1)
      simp only [e1, e2, Bool.not_false, Bool.true_and]
      by_cases h4 : j + 1 = i
      · subst h4
        have : u.1 ≠ 1 := by
          intro hu
          obtain ⟨t, x⟩ := u
          simp only at hu
          subst hu
          simp [stk, h2] at hk
        simp [rv_cat, this]
      · simp [h4]
theorem set_ok {n : Nat} {L : List V} {i : Nat} {v : V} (h : ∀ w ∈ L, okv n w) (hv : okv n v) : ∀ w ∈ L.set i v, okv n w := by
  intro w hw
  rcases List.mem_or_eq_of_mem_set hw with h1 | h1
  · exact h w h1
  · rw [h1]; exact hv
theorem rv_ref {ad : Nat → Nat} {k : Int} (h : 0 ≤ k) : rv ad (2, k) = .ref (ad k.toNat) := by
  show (if k < 0 then Value.null else _) = _
  rw [if_neg (by omega)]
theorem wl_get {dA : Nat → ClassId} {ad : Nat → Nat} {ρ σ : Mem} {n k : Nat} (h : k < n) : (wl dA ad ρ σ n)[k]? = some (ad k, cel dA ad ρ σ k) := by
  simp [wl, h]
theorem wl_set {dA : Nat → ClassId} {ad : Nat → Nat} {ρ σ ρ' σ' : Mem} {n k : Nat} (h : ∀ i, i < n → i ≠ k → cel dA ad ρ' σ' i = cel dA ad ρ σ i) : (wl dA ad ρ σ n).set k (ad k, cel dA ad ρ' σ' k) = wl dA ad ρ' σ' n := by
  apply List.ext_getElem?
  intro i
  rw [List.getElem?_set]
  by_cases hk : k = i
  · subst hk
    rw [if_pos rfl]
    by_cases hn : k < n
    · rw [wl_get hn, if_pos (by simp [wl, hn])]
    · rw [if_neg (by simp [wl]; omega)]
      simp [wl, hn]
  · rw [if_neg hk]
    by_cases hn : i < n
    · rw [wl_get hn, wl_get hn, h i hn (Ne.symm hk)]
    · simp [wl, hn]
theorem cel_mup {dA : Nat → ClassId} {ad : Nat → Nat} {ρ σ : Mem} {k j v : Int} {i : Nat} (h : (i : Int) ≠ k) : cel dA ad ρ (mup σ k j v) i = cel dA ad ρ σ i := by
  have e : ∀ j' : Int, mup σ k j v i j' = σ i j' := fun j' => by simp [mup, h]
  unfold cel
  simp only [e]
theorem cel_mupr {dA : Nat → ClassId} {ad : Nat → Nat} {ρ σ : Mem} {k j v : Int} {i : Nat} (h : (i : Int) ≠ k) : cel dA ad (mup ρ k j v) σ i = cel dA ad ρ σ i := by
  have e : ∀ j' : Int, mup ρ k j v i j' = ρ i j' := fun j' => by simp [mup, h]
  unfold cel
  simp only [e]
theorem cel_mcp {dA : Nat → ClassId} {ad : Nat → Nat} {ρ σ : Mem} {a i b j n : Int} {x : Nat} (h : (x : Int) ≠ b) : cel dA ad ρ (mcp σ a i b j n) x = cel dA ad ρ σ x := by
  have e : ∀ j' : Int, mcp σ a i b j n x j' = σ x j' := fun j' => by simp [mcp, h]
  unfold cel
  simp only [e]
theorem rok_mup {σ : Mem} {k j v : Int} (h : rok σ) (hv : if lgt k j = true then in64 v else in32 v) : rok (mup σ k j v) := by
  intro a b
  unfold mup
  by_cases hc : a = k ∧ b = j
  · rw [if_pos hc, hc.1, hc.2]; exact hv
  · rw [if_neg hc]; exact h a b
theorem in32_vp {i : Int} {n : Nat} (h : in32 i) (h0 : 0 ≤ i) (h1 : i < n) : vp_in (Int32.ofInt i) n ∧ (Int32.ofInt i).toNatClampNeg = i.toNat := by
  have e : (Int32.ofInt i).toInt = i := oi32 h
  refine ⟨vp_in_iff.mpr (by rw [e]; exact ⟨h0, h1⟩), ?_⟩
  show (Int32.ofInt i).toInt.toNat = i.toNat
  rw [e]

theorem ev_iconst {M : MD} {n0 n1 : Nat} {r : Option V × Mem × Mem} {pc n : Nat} {ρ σ : Mem} {L st : List V} {k : Int} (hd : decode M.2.1 pc = .ok (.iconst k, 1)) (hv : in32 k) (hh : Ev M n0 n1 r (pc + 1) n ρ σ (L) ((0, k) :: st)) : Ev M n0 n1 r (pc) n ρ σ (L) (st) := by
  intro p l e Rm s m args below meth c A H locs D dA ad0 ad ls C K h hl hL hn hs
  have hx := C.1
  have hb := C.2.1
  exact lv_iconst hx hb hd rfl (hh p l e Rm s m args below meth c A H locs D dA ad0 ad ls C K h hl hL hn (ok_cons hv hs))
theorem ev_bipush {M : MD} {n0 n1 : Nat} {r : Option V × Mem × Mem} {pc n : Nat} {ρ σ : Mem} {L st : List V} {k : Int} (hd : decode M.2.1 pc = .ok (.bipush k, 2)) (hv : in32 k) (hw : (Int8.ofInt k).toInt32 = Int32.ofInt k) (hh : Ev M n0 n1 r (pc + 2) n ρ σ (L) ((0, k) :: st)) : Ev M n0 n1 r (pc) n ρ σ (L) (st) := by
  intro p l e Rm s m args below meth c A H locs D dA ad0 ad ls C K h hl hL hn hs
  have hx := C.1
  have hb := C.2.1
  exact lv_bipush hx hb hd hw (hh p l e Rm s m args below meth c A H locs D dA ad0 ad ls C K h hl hL hn (ok_cons hv hs))
theorem ev_sipush {M : MD} {n0 n1 : Nat} {r : Option V × Mem × Mem} {pc n : Nat} {ρ σ : Mem} {L st : List V} {k : Int} (hd : decode M.2.1 pc = .ok (.sipush k, 3)) (hv : in32 k) (hw : (Int16.ofInt k).toInt32 = Int32.ofInt k) (hh : Ev M n0 n1 r (pc + 3) n ρ σ (L) ((0, k) :: st)) : Ev M n0 n1 r (pc) n ρ σ (L) (st) := by
  intro p l e Rm s m args below meth c A H locs D dA ad0 ad ls C K h hl hL hn hs
  have hx := C.1
  have hb := C.2.1
  exact lv_sipush hx hb hd hw (hh p l e Rm s m args below meth c A H locs D dA ad0 ad ls C K h hl hL hn (ok_cons hv hs))
theorem ev_lconst {M : MD} {n0 n1 : Nat} {r : Option V × Mem × Mem} {pc n : Nat} {ρ σ : Mem} {L st : List V} {k : Fin 2} {x : Int} (hd : decode M.2.1 pc = .ok (.lconst k, 1)) (hv : in64 x) (hw : Int64.ofNat (k : Nat) = Int64.ofInt x) (hh : Ev M n0 n1 r (pc + 1) n ρ σ (L) ((1, x) :: st)) : Ev M n0 n1 r (pc) n ρ σ (L) (st) := by
  intro p l e Rm s m args below meth c A H locs D dA ad0 ad ls C K h hl hL hn hs
  have hx := C.1
  have hb := C.2.1
  exact lv_lconst hx hb hd hw (hh p l e Rm s m args below meth c A H locs D dA ad0 ad ls C K h hl hL hn (ok_cons hv hs))
theorem ev_ldc {M : MD} {n0 n1 : Nat} {r : Option V × Mem × Mem} {pc n : Nat} {ρ σ : Mem} {L st : List V} {k : Nat} {z : Int32} {x : Int} (hd : decode M.2.1 pc = .ok (.ldc k, 2)) (hw : Cond.constant M.1 k z ∈ WS) (hz : z = Int32.ofInt x) (hv : in32 x) (hh : Ev M n0 n1 r (pc + 2) n ρ σ (L) ((0, x) :: st)) : Ev M n0 n1 r (pc) n ρ σ (L) (st) := by
  intro p l e Rm s m args below meth c A H locs D dA ad0 ad ls C K h hl hL hn hs
  have hx := C.1
  have hb := C.2.1
  subst hz
  exact lv_ldc hx hb C.2.2.2.2.1 (C.2.2.2.2.2.1 _ hw) hd (hh p l e Rm s m args below meth c A H locs D dA ad0 ad ls C K h hl hL hn (ok_cons hv hs))
theorem ev_ldcw {M : MD} {n0 n1 : Nat} {r : Option V × Mem × Mem} {pc n : Nat} {ρ σ : Mem} {L st : List V} {k : Nat} {z : Int32} {x : Int} (hd : decode M.2.1 pc = .ok (.ldc_w k, 3)) (hw : Cond.constant M.1 k z ∈ WS) (hz : z = Int32.ofInt x) (hv : in32 x) (hh : Ev M n0 n1 r (pc + 3) n ρ σ (L) ((0, x) :: st)) : Ev M n0 n1 r (pc) n ρ σ (L) (st) := by
  intro p l e Rm s m args below meth c A H locs D dA ad0 ad ls C K h hl hL hn hs
  have hx := C.1
  have hb := C.2.1
  subst hz
  exact lv_ldcw hx hb C.2.2.2.2.1 (C.2.2.2.2.2.1 _ hw) hd (hh p l e Rm s m args below meth c A H locs D dA ad0 ad ls C K h hl hL hn (ok_cons hv hs))
theorem ev_ldc2 {M : MD} {n0 n1 : Nat} {r : Option V × Mem × Mem} {pc n : Nat} {ρ σ : Mem} {L st : List V} {k : Nat} {z : Int64} {x : Int} (hd : decode M.2.1 pc = .ok (.ldc2_w k, 3)) (hw : Cond.constantLong M.1 k z ∈ WS) (hz : z = Int64.ofInt x) (hv : in64 x) (hh : Ev M n0 n1 r (pc + 3) n ρ σ (L) ((1, x) :: st)) : Ev M n0 n1 r (pc) n ρ σ (L) (st) := by
  intro p l e Rm s m args below meth c A H locs D dA ad0 ad ls C K h hl hL hn hs
  have hx := C.1
  have hb := C.2.1
  subst hz
  exact lv_ldc2 hx hb C.2.2.2.2.1 (C.2.2.2.2.2.1 _ hw) hd (hh p l e Rm s m args below meth c A H locs D dA ad0 ad ls C K h hl hL hn (ok_cons hv hs))
theorem ev_iload_n {M : MD} {n0 n1 : Nat} {r : Option V × Mem × Mem} {pc n : Nat} {ρ σ : Mem} {L st : List V} {k : Fin 4} {x : Int} (hd : decode M.2.1 pc = .ok (.iload_n k, 1)) (hi : L[(k : Nat)]? = some (0, x)) (hh : Ev M n0 n1 r (pc + 1) n ρ σ (L) ((0, x) :: st)) : Ev M n0 n1 r (pc) n ρ σ (L) (st) := by
  intro p l e Rm s m args below meth c A H locs D dA ad0 ad ls C K h hl hL hn hs
  have hx := C.1
  have hb := C.2.1
  exact lv_iload_n hx hb hd rfl (lok_at hl hi (fun q => by cases q)) (hh p l e Rm s m args below meth c A H locs D dA ad0 ad ls C K h hl hL hn (ok_cons (hL _ (List.mem_of_getElem? hi)) hs))
theorem ev_iload {M : MD} {n0 n1 : Nat} {r : Option V × Mem × Mem} {pc n : Nat} {ρ σ : Mem} {L st : List V} {k : Nat} {x : Int} (hd : decode M.2.1 pc = .ok (.iload k, 2)) (hi : L[k]? = some (0, x)) (hh : Ev M n0 n1 r (pc + 2) n ρ σ (L) ((0, x) :: st)) : Ev M n0 n1 r (pc) n ρ σ (L) (st) := by
  intro p l e Rm s m args below meth c A H locs D dA ad0 ad ls C K h hl hL hn hs
  have hx := C.1
  have hb := C.2.1
  exact lv_iload hx hb hd (lok_at hl hi (fun q => by cases q)) (hh p l e Rm s m args below meth c A H locs D dA ad0 ad ls C K h hl hL hn (ok_cons (hL _ (List.mem_of_getElem? hi)) hs))
theorem ev_lload_n {M : MD} {n0 n1 : Nat} {r : Option V × Mem × Mem} {pc n : Nat} {ρ σ : Mem} {L st : List V} {k : Fin 4} {x : Int} (hd : decode M.2.1 pc = .ok (.lload_n k, 1)) (hi : L[(k : Nat)]? = some (1, x)) (hh : Ev M n0 n1 r (pc + 1) n ρ σ (L) ((1, x) :: st)) : Ev M n0 n1 r (pc) n ρ σ (L) (st) := by
  intro p l e Rm s m args below meth c A H locs D dA ad0 ad ls C K h hl hL hn hs
  have hx := C.1
  have hb := C.2.1
  exact lv_lload_n hx hb hd rfl (lok_at hl hi (fun q => by cases q)) (hh p l e Rm s m args below meth c A H locs D dA ad0 ad ls C K h hl hL hn (ok_cons (hL _ (List.mem_of_getElem? hi)) hs))
theorem ev_lload {M : MD} {n0 n1 : Nat} {r : Option V × Mem × Mem} {pc n : Nat} {ρ σ : Mem} {L st : List V} {k : Nat} {x : Int} (hd : decode M.2.1 pc = .ok (.lload k, 2)) (hi : L[k]? = some (1, x)) (hh : Ev M n0 n1 r (pc + 2) n ρ σ (L) ((1, x) :: st)) : Ev M n0 n1 r (pc) n ρ σ (L) (st) := by
  intro p l e Rm s m args below meth c A H locs D dA ad0 ad ls C K h hl hL hn hs
  have hx := C.1
  have hb := C.2.1
  exact lv_lload hx hb hd (lok_at hl hi (fun q => by cases q)) (hh p l e Rm s m args below meth c A H locs D dA ad0 ad ls C K h hl hL hn (ok_cons (hL _ (List.mem_of_getElem? hi)) hs))
theorem ev_aload_n {M : MD} {n0 n1 : Nat} {r : Option V × Mem × Mem} {pc n : Nat} {ρ σ : Mem} {L st : List V} {k : Fin 4} {x : Int} (hd : decode M.2.1 pc = .ok (.aload_n k, 1)) (hi : L[(k : Nat)]? = some (2, x)) (h0 : 0 ≤ x) (hh : Ev M n0 n1 r (pc + 1) n ρ σ (L) ((2, x) :: st)) : Ev M n0 n1 r (pc) n ρ σ (L) (st) := by
  intro p l e Rm s m args below meth c A H locs D dA ad0 ad ls C K h hl hL hn hs
  have hx := C.1
  have hb := C.2.1
  have h2 := hh p l e Rm s m args below meth c A H locs D dA ad0 ad ls C K h hl hL hn (ok_cons (hL _ (List.mem_of_getElem? hi)) hs)
  rw [List.map_cons, rv_ref h0] at h2
  exact lv_aload_n hx hb hd rfl (by rw [← rv_ref h0]; exact lok_at hl hi (fun q => by cases q)) h2
theorem ev_aload {M : MD} {n0 n1 : Nat} {r : Option V × Mem × Mem} {pc n : Nat} {ρ σ : Mem} {L st : List V} {k : Nat} {x : Int} (hd : decode M.2.1 pc = .ok (.aload k, 2)) (hi : L[k]? = some (2, x)) (h0 : 0 ≤ x) (hh : Ev M n0 n1 r (pc + 2) n ρ σ (L) ((2, x) :: st)) : Ev M n0 n1 r (pc) n ρ σ (L) (st) := by
  intro p l e Rm s m args below meth c A H locs D dA ad0 ad ls C K h hl hL hn hs
  have hx := C.1
  have hb := C.2.1
  have h2 := hh p l e Rm s m args below meth c A H locs D dA ad0 ad ls C K h hl hL hn (ok_cons (hL _ (List.mem_of_getElem? hi)) hs)
  rw [List.map_cons, rv_ref h0] at h2
  exact lv_aload hx hb hd (by rw [← rv_ref h0]; exact lok_at hl hi (fun q => by cases q)) h2
theorem ev_aloadS {M : MD} {n0 n1 : Nat} {r : Option V × Mem × Mem} {pc n : Nat} {ρ σ : Mem} {L st : List V} {k : Fin 4} {x : Int} (hd : decode M.2.1 pc = .ok (.aload_n k, 1)) (hi : L[(k : Nat)]? = some (3, x)) (hh : Ev M n0 n1 r (pc + 1) n ρ σ (L) ((3, x) :: st)) : Ev M n0 n1 r (pc) n ρ σ (L) (st) := by
  intro p l e Rm s m args below meth c A H locs D dA ad0 ad ls C K h hl hL hn hs
  have hx := C.1
  have hb := C.2.1
  exact lv_aload_n hx hb hd rfl (lok_at hl hi (fun q => by cases q)) (hh p l e Rm s m args below meth c A H locs D dA ad0 ad ls C K h hl hL hn (ok_cons (hL _ (List.mem_of_getElem? hi)) hs))
theorem ev_istore_n {M : MD} {n0 n1 : Nat} {r : Option V × Mem × Mem} {pc n : Nat} {ρ σ : Mem} {L st : List V} {k : Fin 4} {x : Int} (hd : decode M.2.1 pc = .ok (.istore_n k, 1)) (hk : stk L (k : Nat) = true) (hb' : (k : Nat) < M.2.2.1) (hh : Ev M n0 n1 r (pc + 1) n ρ σ (L.set (k : Nat) (0, x)) (st)) : Ev M n0 n1 r (pc) n ρ σ (L) ((0, x) :: st) := by
  intro p l e Rm s m args below meth c A H locs D dA ad0 ad ls C K h hl hL hn hs
  have hx := C.1
  have hb := C.2.1
  exact lv_istore_n hx hb hd rfl hl hb' rfl (fun ls' hl' => hh p l e Rm s m args below meth c A H locs D dA ad0 ad ls' C K h (lok_st1 (v := (0, x)) (show (0 : Nat) ≠ 1 by decide) hk hl') (set_ok hL (cons_ok hs).1) (by simpa using hn) (cons_ok hs).2)
theorem ev_istore {M : MD} {n0 n1 : Nat} {r : Option V × Mem × Mem} {pc n : Nat} {ρ σ : Mem} {L st : List V} {k : Nat} {x : Int} (hd : decode M.2.1 pc = .ok (.istore k, 2)) (hk : stk L k = true) (hb' : k < M.2.2.1) (hh : Ev M n0 n1 r (pc + 2) n ρ σ (L.set k (0, x)) (st)) : Ev M n0 n1 r (pc) n ρ σ (L) ((0, x) :: st) := by
  intro p l e Rm s m args below meth c A H locs D dA ad0 ad ls C K h hl hL hn hs
  have hx := C.1
  have hb := C.2.1
  exact lv_istore hx hb hd hl hb' rfl (fun ls' hl' => hh p l e Rm s m args below meth c A H locs D dA ad0 ad ls' C K h (lok_st1 (v := (0, x)) (show (0 : Nat) ≠ 1 by decide) hk hl') (set_ok hL (cons_ok hs).1) (by simpa using hn) (cons_ok hs).2)
theorem ev_lstore_n {M : MD} {n0 n1 : Nat} {r : Option V × Mem × Mem} {pc n : Nat} {ρ σ : Mem} {L st : List V} {k : Fin 4} {x : Int} (hd : decode M.2.1 pc = .ok (.lstore_n k, 1)) (hk : stk L (k : Nat) = true) (hb' : (k : Nat) + 1 < M.2.2.1) (hh : Ev M n0 n1 r (pc + 1) n ρ σ ((L.set (k : Nat) (1, x)).set ((k : Nat) + 1) (9, 0)) (st)) : Ev M n0 n1 r (pc) n ρ σ (L) ((1, x) :: st) := by
  intro p l e Rm s m args below meth c A H locs D dA ad0 ad ls C K h hl hL hn hs
  have hx := C.1
  have hb := C.2.1
  exact lv_lstore_n hx hb hd rfl hl hb' rfl (fun ls' hl' => hh p l e Rm s m args below meth c A H locs D dA ad0 ad ls' C K h (lok_st2 hk hl') (set_ok (set_ok hL (cons_ok hs).1) trivial) (by simpa using hn) (cons_ok hs).2)
theorem ev_lstore {M : MD} {n0 n1 : Nat} {r : Option V × Mem × Mem} {pc n : Nat} {ρ σ : Mem} {L st : List V} {k : Nat} {x : Int} (hd : decode M.2.1 pc = .ok (.lstore k, 2)) (hk : stk L k = true) (hb' : k + 1 < M.2.2.1) (hh : Ev M n0 n1 r (pc + 2) n ρ σ ((L.set k (1, x)).set (k + 1) (9, 0)) (st)) : Ev M n0 n1 r (pc) n ρ σ (L) ((1, x) :: st) := by
  intro p l e Rm s m args below meth c A H locs D dA ad0 ad ls C K h hl hL hn hs
  have hx := C.1
  have hb := C.2.1
  exact lv_lstore hx hb hd hl hb' rfl (fun ls' hl' => hh p l e Rm s m args below meth c A H locs D dA ad0 ad ls' C K h (lok_st2 hk hl') (set_ok (set_ok hL (cons_ok hs).1) trivial) (by simpa using hn) (cons_ok hs).2)
theorem ev_astore_n {M : MD} {n0 n1 : Nat} {r : Option V × Mem × Mem} {pc n : Nat} {ρ σ : Mem} {L st : List V} {k : Fin 4} {x : Int} (hd : decode M.2.1 pc = .ok (.astore_n k, 1)) (hk : stk L (k : Nat) = true) (hb' : (k : Nat) < M.2.2.1) (h0 : 0 ≤ x) (hh : Ev M n0 n1 r (pc + 1) n ρ σ (L.set (k : Nat) (2, x)) (st)) : Ev M n0 n1 r (pc) n ρ σ (L) ((2, x) :: st) := by
  intro p l e Rm s m args below meth c A H locs D dA ad0 ad ls C K h hl hL hn hs
  have hx := C.1
  have hb := C.2.1
  rw [List.map_cons, rv_ref h0]
  exact lv_astore_n hx hb hd rfl hl hb' rfl (fun ls' hl' => hh p l e Rm s m args below meth c A H locs D dA ad0 ad ls' C K h (lok_st1 (v := (2, x)) (show (2 : Nat) ≠ 1 by decide) hk (by rw [rv_ref h0]; exact hl')) (set_ok hL (cons_ok hs).1) (by simpa using hn) (cons_ok hs).2)
theorem ev_astore {M : MD} {n0 n1 : Nat} {r : Option V × Mem × Mem} {pc n : Nat} {ρ σ : Mem} {L st : List V} {k : Nat} {x : Int} (hd : decode M.2.1 pc = .ok (.astore k, 2)) (hk : stk L k = true) (hb' : k < M.2.2.1) (h0 : 0 ≤ x) (hh : Ev M n0 n1 r (pc + 2) n ρ σ (L.set k (2, x)) (st)) : Ev M n0 n1 r (pc) n ρ σ (L) ((2, x) :: st) := by
  intro p l e Rm s m args below meth c A H locs D dA ad0 ad ls C K h hl hL hn hs
  have hx := C.1
  have hb := C.2.1
  rw [List.map_cons, rv_ref h0]
  exact lv_astore hx hb hd hl hb' rfl (fun ls' hl' => hh p l e Rm s m args below meth c A H locs D dA ad0 ad ls' C K h (lok_st1 (v := (2, x)) (show (2 : Nat) ≠ 1 by decide) hk (by rw [rv_ref h0]; exact hl')) (set_ok hL (cons_ok hs).1) (by simpa using hn) (cons_ok hs).2)
theorem ev_forget {M : MD} {n0 n1 : Nat} {r : Option V × Mem × Mem} {pc n : Nat} {ρ σ : Mem} {L st : List V} (k : Nat) (hh : Ev M n0 n1 r (pc) n ρ σ (L.set k (9, 0)) (st)) : Ev M n0 n1 r (pc) n ρ σ (L) (st) := by
  intro p l e Rm s m args below meth c A H locs D dA ad0 ad ls C K h hl hL hn hs
  have hx := C.1
  have hb := C.2.1
  refine hh p l e Rm s m args below meth c A H locs D dA ad0 ad ls C K h (lok_sub hl fun q hq => ?_) (set_ok hL trivial) (by simpa using hn) hs
  obtain ⟨i, v, h1, h2, h3⟩ := lz_inv _ _ _ hq
  rw [Nat.zero_add] at h1
  rw [List.getElem?_set] at h2
  by_cases hk : k = i
  · rw [if_pos hk] at h2
    split at h2
    · cases h2; exact absurd rfl h3
    · cases h2
  · rw [if_neg hk] at h2
    have := lz_mem (ad := ad) h3 L 0 i h2
    rw [Nat.zero_add] at this
    rw [h1]; exact this
def jadd (a b : Int) : Int := (Int32.ofInt a + Int32.ofInt b).toInt
theorem ev_iinc {M : MD} {n0 n1 : Nat} {r : Option V × Mem × Mem} {pc n : Nat} {ρ σ : Mem} {L st : List V} {k : Nat} {z x : Int} (hd : decode M.2.1 pc = .ok (.iinc k z, 3)) (hi : L[k]? = some (0, x)) (hk : stk L k = true) (hh : Ev M n0 n1 r (pc + 3) n ρ σ (L.set k (0, jadd x z)) (st)) : Ev M n0 n1 r (pc) n ρ σ (L) (st) := by
  intro p l e Rm s m args below meth c A H locs D dA ad0 ad ls C K h hl hL hn hs
  have hx := C.1
  have hb := C.2.1
  obtain ⟨j, hj⟩ := List.getElem?_of_mem (show (k, rv ad (0, x)) ∈ lz ad 0 L by have := lz_mem (ad := ad) (v := (0, x)) (fun q => by cases q) L 0 k hi; rwa [Nat.zero_add] at this)
  exact lv_iinc hx hb hd hl (v := Int32.ofInt (jadd x z)) hj (by rw [jadd, Int32.ofInt_toInt]) (by rw [← hn]; exact (List.getElem?_eq_some_iff.mp hi).1) rfl (fun ls' hl' => hh p l e Rm s m args below meth c A H locs D dA ad0 ad ls' C K h (lok_st1 (v := (0, jadd x z)) (show (0 : Nat) ≠ 1 by decide) hk hl') (set_ok hL (ti32 _)) (by simpa using hn) hs)
def jsub (a b : Int) : Int := (Int32.ofInt a - Int32.ofInt b).toInt
def jmul (a b : Int) : Int := (Int32.ofInt a * Int32.ofInt b).toInt
def jand (a b : Int) : Int := (Int32.ofInt a &&& Int32.ofInt b).toInt
def jor (a b : Int) : Int := (Int32.ofInt a ||| Int32.ofInt b).toInt
def jxor (a b : Int) : Int := (Int32.ofInt a ^^^ Int32.ofInt b).toInt
def jshl (a b : Int) : Int := (Int32.ofInt a <<< (Int32.ofInt b &&& 31)).toInt
def jshr (a b : Int) : Int := (Int32.ofInt a >>> (Int32.ofInt b &&& 31)).toInt
def jushr (a b : Int) : Int := ((Int32.ofInt a).toUInt32 >>> ((Int32.ofInt b).toUInt32 &&& Int32.toUInt32 31)).toInt32.toInt
theorem ev_iadd {M : MD} {n0 n1 : Nat} {r : Option V × Mem × Mem} {pc n : Nat} {ρ σ : Mem} {L st : List V} {x y : Int} (hd : decode M.2.1 pc = .ok (.iadd, 1)) (hh : Ev M n0 n1 r (pc + 1) n ρ σ (L) ((0, jadd x y) :: st)) : Ev M n0 n1 r (pc) n ρ σ (L) ((0, y) :: (0, x) :: st) := by
  intro p l e Rm s m args below meth c A H locs D dA ad0 ad ls C K h hl hL hn hs
  have hx := C.1
  have hb := C.2.1
  have h2 := hh p l e Rm s m args below meth c A H locs D dA ad0 ad ls C K h hl hL hn (ok_cons (ti32 _) (cons_ok (cons_ok hs).2).2)
  rw [List.map_cons, show rv ad (0, jadd x y) = .int (Int32.ofInt (jadd x y)) from rfl, jadd, Int32.ofInt_toInt] at h2
  exact lv_iadd hx hb hd h2
theorem ev_isub {M : MD} {n0 n1 : Nat} {r : Option V × Mem × Mem} {pc n : Nat} {ρ σ : Mem} {L st : List V} {x y : Int} (hd : decode M.2.1 pc = .ok (.isub, 1)) (hh : Ev M n0 n1 r (pc + 1) n ρ σ (L) ((0, jsub x y) :: st)) : Ev M n0 n1 r (pc) n ρ σ (L) ((0, y) :: (0, x) :: st) := by
  intro p l e Rm s m args below meth c A H locs D dA ad0 ad ls C K h hl hL hn hs
  have hx := C.1
  have hb := C.2.1
  have h2 := hh p l e Rm s m args below meth c A H locs D dA ad0 ad ls C K h hl hL hn (ok_cons (ti32 _) (cons_ok (cons_ok hs).2).2)
  rw [List.map_cons, show rv ad (0, jsub x y) = .int (Int32.ofInt (jsub x y)) from rfl, jsub, Int32.ofInt_toInt] at h2
  exact lv_isub hx hb hd h2
theorem ev_imul {M : MD} {n0 n1 : Nat} {r : Option V × Mem × Mem} {pc n : Nat} {ρ σ : Mem} {L st : List V} {x y : Int} (hd : decode M.2.1 pc = .ok (.imul, 1)) (hh : Ev M n0 n1 r (pc + 1) n ρ σ (L) ((0, jmul x y) :: st)) : Ev M n0 n1 r (pc) n ρ σ (L) ((0, y) :: (0, x) :: st) := by
  intro p l e Rm s m args below meth c A H locs D dA ad0 ad ls C K h hl hL hn hs
  have hx := C.1
  have hb := C.2.1
  have h2 := hh p l e Rm s m args below meth c A H locs D dA ad0 ad ls C K h hl hL hn (ok_cons (ti32 _) (cons_ok (cons_ok hs).2).2)
  rw [List.map_cons, show rv ad (0, jmul x y) = .int (Int32.ofInt (jmul x y)) from rfl, jmul, Int32.ofInt_toInt] at h2
  exact lv_imul hx hb hd h2
theorem ev_iand {M : MD} {n0 n1 : Nat} {r : Option V × Mem × Mem} {pc n : Nat} {ρ σ : Mem} {L st : List V} {x y : Int} (hd : decode M.2.1 pc = .ok (.iand, 1)) (hh : Ev M n0 n1 r (pc + 1) n ρ σ (L) ((0, jand x y) :: st)) : Ev M n0 n1 r (pc) n ρ σ (L) ((0, y) :: (0, x) :: st) := by
  intro p l e Rm s m args below meth c A H locs D dA ad0 ad ls C K h hl hL hn hs
  have hx := C.1
  have hb := C.2.1
  have h2 := hh p l e Rm s m args below meth c A H locs D dA ad0 ad ls C K h hl hL hn (ok_cons (ti32 _) (cons_ok (cons_ok hs).2).2)
  rw [List.map_cons, show rv ad (0, jand x y) = .int (Int32.ofInt (jand x y)) from rfl, jand, Int32.ofInt_toInt] at h2
  exact lv_iand hx hb hd h2
theorem ev_ior {M : MD} {n0 n1 : Nat} {r : Option V × Mem × Mem} {pc n : Nat} {ρ σ : Mem} {L st : List V} {x y : Int} (hd : decode M.2.1 pc = .ok (.ior, 1)) (hh : Ev M n0 n1 r (pc + 1) n ρ σ (L) ((0, jor x y) :: st)) : Ev M n0 n1 r (pc) n ρ σ (L) ((0, y) :: (0, x) :: st) := by
  intro p l e Rm s m args below meth c A H locs D dA ad0 ad ls C K h hl hL hn hs
  have hx := C.1
  have hb := C.2.1
  have h2 := hh p l e Rm s m args below meth c A H locs D dA ad0 ad ls C K h hl hL hn (ok_cons (ti32 _) (cons_ok (cons_ok hs).2).2)
  rw [List.map_cons, show rv ad (0, jor x y) = .int (Int32.ofInt (jor x y)) from rfl, jor, Int32.ofInt_toInt] at h2
  exact lv_ior hx hb hd h2
theorem ev_ixor {M : MD} {n0 n1 : Nat} {r : Option V × Mem × Mem} {pc n : Nat} {ρ σ : Mem} {L st : List V} {x y : Int} (hd : decode M.2.1 pc = .ok (.ixor, 1)) (hh : Ev M n0 n1 r (pc + 1) n ρ σ (L) ((0, jxor x y) :: st)) : Ev M n0 n1 r (pc) n ρ σ (L) ((0, y) :: (0, x) :: st) := by
  intro p l e Rm s m args below meth c A H locs D dA ad0 ad ls C K h hl hL hn hs
  have hx := C.1
  have hb := C.2.1
  have h2 := hh p l e Rm s m args below meth c A H locs D dA ad0 ad ls C K h hl hL hn (ok_cons (ti32 _) (cons_ok (cons_ok hs).2).2)
  rw [List.map_cons, show rv ad (0, jxor x y) = .int (Int32.ofInt (jxor x y)) from rfl, jxor, Int32.ofInt_toInt] at h2
  exact lv_ixor hx hb hd h2
theorem ev_ishl {M : MD} {n0 n1 : Nat} {r : Option V × Mem × Mem} {pc n : Nat} {ρ σ : Mem} {L st : List V} {x y : Int} (hd : decode M.2.1 pc = .ok (.ishl, 1)) (hh : Ev M n0 n1 r (pc + 1) n ρ σ (L) ((0, jshl x y) :: st)) : Ev M n0 n1 r (pc) n ρ σ (L) ((0, y) :: (0, x) :: st) := by
  intro p l e Rm s m args below meth c A H locs D dA ad0 ad ls C K h hl hL hn hs
  have hx := C.1
  have hb := C.2.1
  have h2 := hh p l e Rm s m args below meth c A H locs D dA ad0 ad ls C K h hl hL hn (ok_cons (ti32 _) (cons_ok (cons_ok hs).2).2)
  rw [List.map_cons, show rv ad (0, jshl x y) = .int (Int32.ofInt (jshl x y)) from rfl, jshl, Int32.ofInt_toInt] at h2
  exact lv_ishl hx hb hd h2
theorem ev_ishr {M : MD} {n0 n1 : Nat} {r : Option V × Mem × Mem} {pc n : Nat} {ρ σ : Mem} {L st : List V} {x y : Int} (hd : decode M.2.1 pc = .ok (.ishr, 1)) (hh : Ev M n0 n1 r (pc + 1) n ρ σ (L) ((0, jshr x y) :: st)) : Ev M n0 n1 r (pc) n ρ σ (L) ((0, y) :: (0, x) :: st) := by
  intro p l e Rm s m args below meth c A H locs D dA ad0 ad ls C K h hl hL hn hs
  have hx := C.1
  have hb := C.2.1
  have h2 := hh p l e Rm s m args below meth c A H locs D dA ad0 ad ls C K h hl hL hn (ok_cons (ti32 _) (cons_ok (cons_ok hs).2).2)
  rw [List.map_cons, show rv ad (0, jshr x y) = .int (Int32.ofInt (jshr x y)) from rfl, jshr, Int32.ofInt_toInt] at h2
  exact lv_ishr hx hb hd h2
theorem ev_iushr {M : MD} {n0 n1 : Nat} {r : Option V × Mem × Mem} {pc n : Nat} {ρ σ : Mem} {L st : List V} {x y : Int} (hd : decode M.2.1 pc = .ok (.iushr, 1)) (hh : Ev M n0 n1 r (pc + 1) n ρ σ (L) ((0, jushr x y) :: st)) : Ev M n0 n1 r (pc) n ρ σ (L) ((0, y) :: (0, x) :: st) := by
  intro p l e Rm s m args below meth c A H locs D dA ad0 ad ls C K h hl hL hn hs
  have hx := C.1
  have hb := C.2.1
  have h2 := hh p l e Rm s m args below meth c A H locs D dA ad0 ad ls C K h hl hL hn (ok_cons (ti32 _) (cons_ok (cons_ok hs).2).2)
  rw [List.map_cons, show rv ad (0, jushr x y) = .int (Int32.ofInt (jushr x y)) from rfl, jushr, Int32.ofInt_toInt] at h2
  exact lv_iushr hx hb hd rfl h2
def jdiv (a b : Int) : Int := (Int32.ofInt a / Int32.ofInt b).toInt
def jrem (a b : Int) : Int := (Int32.ofInt a - Int32.ofInt a / Int32.ofInt b * Int32.ofInt b).toInt
def chk {α : Type} (c : Prop) [Decidable c] (x : Option α) : Option α := if c then x else none
theorem chk_of {α : Type} {c : Prop} [Decidable c] {x : Option α} {y : α} (h : chk c x = some y) : c ∧ x = some y := by
  unfold chk at h
  split at h
  · exact ⟨by assumption, h⟩
  · cases h
theorem chk_pos {α : Type} {c : Prop} [Decidable c] {x : Option α} (h : c) : chk c x = x := if_pos h
theorem ev_idiv {M : MD} {n0 n1 : Nat} {r : Option V × Mem × Mem} {pc n : Nat} {ρ σ : Mem} {L st : List V} {α : Type} {X : Option α} {q : α} {x y : Int} (hd : decode M.2.1 pc = .ok (.idiv, 1)) (hf : chk (y ≠ 0) X = some q) (hh : X = some q → Ev M n0 n1 r (pc + 1) n ρ σ (L) ((0, jdiv x y) :: st)) : Ev M n0 n1 r (pc) n ρ σ (L) ((0, y) :: (0, x) :: st) := by
  intro p l e Rm s m args below meth c A H locs D dA ad0 ad ls C K h hl hL hn hs
  have hx := C.1
  have hb := C.2.1
  obtain ⟨hy, hf⟩ := chk_of hf
  have h2 := hh hf p l e Rm s m args below meth c A H locs D dA ad0 ad ls C K h hl hL hn (ok_cons (ti32 _) (cons_ok (cons_ok hs).2).2)
  rw [List.map_cons, show rv ad (0, jdiv x y) = .int (Int32.ofInt (jdiv x y)) from rfl, jdiv, Int32.ofInt_toInt] at h2
  refine lv_idiv hx hb hd (fun z => hy ?_) h2
  have := congrArg Int32.toInt z
  rw [oi32 (cons_ok hs).1] at this
  exact this
theorem ev_irem {M : MD} {n0 n1 : Nat} {r : Option V × Mem × Mem} {pc n : Nat} {ρ σ : Mem} {L st : List V} {α : Type} {X : Option α} {q : α} {x y : Int} (hd : decode M.2.1 pc = .ok (.irem, 1)) (hf : chk (y ≠ 0) X = some q) (hh : X = some q → Ev M n0 n1 r (pc + 1) n ρ σ (L) ((0, jrem x y) :: st)) : Ev M n0 n1 r (pc) n ρ σ (L) ((0, y) :: (0, x) :: st) := by
  intro p l e Rm s m args below meth c A H locs D dA ad0 ad ls C K h hl hL hn hs
  have hx := C.1
  have hb := C.2.1
  obtain ⟨hy, hf⟩ := chk_of hf
  have h2 := hh hf p l e Rm s m args below meth c A H locs D dA ad0 ad ls C K h hl hL hn (ok_cons (ti32 _) (cons_ok (cons_ok hs).2).2)
  rw [List.map_cons, show rv ad (0, jrem x y) = .int (Int32.ofInt (jrem x y)) from rfl, jrem, Int32.ofInt_toInt] at h2
  refine lv_irem hx hb hd (fun z => hy ?_) h2
  have := congrArg Int32.toInt z
  rw [oi32 (cons_ok hs).1] at this
  exact this
def kadd (a b : Int) : Int := (Int64.ofInt a + Int64.ofInt b).toInt
theorem ev_ladd {M : MD} {n0 n1 : Nat} {r : Option V × Mem × Mem} {pc n : Nat} {ρ σ : Mem} {L st : List V} {x y : Int} (hd : decode M.2.1 pc = .ok (.ladd, 1)) (hh : Ev M n0 n1 r (pc + 1) n ρ σ (L) ((1, kadd x y) :: st)) : Ev M n0 n1 r (pc) n ρ σ (L) ((1, y) :: (1, x) :: st) := by
  intro p l e Rm s m args below meth c A H locs D dA ad0 ad ls C K h hl hL hn hs
  have hx := C.1
  have hb := C.2.1
  have h2 := hh p l e Rm s m args below meth c A H locs D dA ad0 ad ls C K h hl hL hn (ok_cons (ti64 _) (cons_ok (cons_ok hs).2).2)
  rw [List.map_cons, show rv ad (1, kadd x y) = .long (Int64.ofInt (kadd x y)) from rfl, kadd, Int64.ofInt_toInt] at h2
  exact lv_ladd hx hb hd h2
def ksub (a b : Int) : Int := (Int64.ofInt a - Int64.ofInt b).toInt
theorem ev_lsub {M : MD} {n0 n1 : Nat} {r : Option V × Mem × Mem} {pc n : Nat} {ρ σ : Mem} {L st : List V} {x y : Int} (hd : decode M.2.1 pc = .ok (.lsub, 1)) (hh : Ev M n0 n1 r (pc + 1) n ρ σ (L) ((1, ksub x y) :: st)) : Ev M n0 n1 r (pc) n ρ σ (L) ((1, y) :: (1, x) :: st) := by
  intro p l e Rm s m args below meth c A H locs D dA ad0 ad ls C K h hl hL hn hs
  have hx := C.1
  have hb := C.2.1
  have h2 := hh p l e Rm s m args below meth c A H locs D dA ad0 ad ls C K h hl hL hn (ok_cons (ti64 _) (cons_ok (cons_ok hs).2).2)
  rw [List.map_cons, show rv ad (1, ksub x y) = .long (Int64.ofInt (ksub x y)) from rfl, ksub, Int64.ofInt_toInt] at h2
  exact lv_lsub hx hb hd h2
def kand (a b : Int) : Int := (Int64.ofInt a &&& Int64.ofInt b).toInt
theorem ev_land {M : MD} {n0 n1 : Nat} {r : Option V × Mem × Mem} {pc n : Nat} {ρ σ : Mem} {L st : List V} {x y : Int} (hd : decode M.2.1 pc = .ok (.land, 1)) (hh : Ev M n0 n1 r (pc + 1) n ρ σ (L) ((1, kand x y) :: st)) : Ev M n0 n1 r (pc) n ρ σ (L) ((1, y) :: (1, x) :: st) := by
  intro p l e Rm s m args below meth c A H locs D dA ad0 ad ls C K h hl hL hn hs
  have hx := C.1
  have hb := C.2.1
  have h2 := hh p l e Rm s m args below meth c A H locs D dA ad0 ad ls C K h hl hL hn (ok_cons (ti64 _) (cons_ok (cons_ok hs).2).2)
  rw [List.map_cons, show rv ad (1, kand x y) = .long (Int64.ofInt (kand x y)) from rfl, kand, Int64.ofInt_toInt] at h2
  exact lv_land hx hb hd h2
def kor (a b : Int) : Int := (Int64.ofInt a ||| Int64.ofInt b).toInt
theorem ev_lor {M : MD} {n0 n1 : Nat} {r : Option V × Mem × Mem} {pc n : Nat} {ρ σ : Mem} {L st : List V} {x y : Int} (hd : decode M.2.1 pc = .ok (.lor, 1)) (hh : Ev M n0 n1 r (pc + 1) n ρ σ (L) ((1, kor x y) :: st)) : Ev M n0 n1 r (pc) n ρ σ (L) ((1, y) :: (1, x) :: st) := by
  intro p l e Rm s m args below meth c A H locs D dA ad0 ad ls C K h hl hL hn hs
  have hx := C.1
  have hb := C.2.1
  have h2 := hh p l e Rm s m args below meth c A H locs D dA ad0 ad ls C K h hl hL hn (ok_cons (ti64 _) (cons_ok (cons_ok hs).2).2)
  rw [List.map_cons, show rv ad (1, kor x y) = .long (Int64.ofInt (kor x y)) from rfl, kor, Int64.ofInt_toInt] at h2
  exact lv_lor hx hb hd h2
def kxor (a b : Int) : Int := (Int64.ofInt a ^^^ Int64.ofInt b).toInt
theorem ev_lxor {M : MD} {n0 n1 : Nat} {r : Option V × Mem × Mem} {pc n : Nat} {ρ σ : Mem} {L st : List V} {x y : Int} (hd : decode M.2.1 pc = .ok (.lxor, 1)) (hh : Ev M n0 n1 r (pc + 1) n ρ σ (L) ((1, kxor x y) :: st)) : Ev M n0 n1 r (pc) n ρ σ (L) ((1, y) :: (1, x) :: st) := by
  intro p l e Rm s m args below meth c A H locs D dA ad0 ad ls C K h hl hL hn hs
  have hx := C.1
  have hb := C.2.1
  have h2 := hh p l e Rm s m args below meth c A H locs D dA ad0 ad ls C K h hl hL hn (ok_cons (ti64 _) (cons_ok (cons_ok hs).2).2)
  rw [List.map_cons, show rv ad (1, kxor x y) = .long (Int64.ofInt (kxor x y)) from rfl, kxor, Int64.ofInt_toInt] at h2
  exact lv_lxor hx hb hd h2
def kshl (a b : Int) : Int := (Int64.ofInt a <<< ((Int32.ofInt b).toInt64 &&& 63)).toInt
theorem ev_lshl {M : MD} {n0 n1 : Nat} {r : Option V × Mem × Mem} {pc n : Nat} {ρ σ : Mem} {L st : List V} {x y : Int} (hd : decode M.2.1 pc = .ok (.lshl, 1)) (hh : Ev M n0 n1 r (pc + 1) n ρ σ (L) ((1, kshl x y) :: st)) : Ev M n0 n1 r (pc) n ρ σ (L) ((0, y) :: (1, x) :: st) := by
  intro p l e Rm s m args below meth c A H locs D dA ad0 ad ls C K h hl hL hn hs
  have hx := C.1
  have hb := C.2.1
  have h2 := hh p l e Rm s m args below meth c A H locs D dA ad0 ad ls C K h hl hL hn (ok_cons (ti64 _) (cons_ok (cons_ok hs).2).2)
  rw [List.map_cons, show rv ad (1, kshl x y) = .long (Int64.ofInt (kshl x y)) from rfl, kshl, Int64.ofInt_toInt] at h2
  exact lv_lshl hx hb hd rfl h2
def kshr (a b : Int) : Int := (Int64.ofInt a >>> ((Int32.ofInt b).toInt64 &&& 63)).toInt
theorem ev_lshr {M : MD} {n0 n1 : Nat} {r : Option V × Mem × Mem} {pc n : Nat} {ρ σ : Mem} {L st : List V} {x y : Int} (hd : decode M.2.1 pc = .ok (.lshr, 1)) (hh : Ev M n0 n1 r (pc + 1) n ρ σ (L) ((1, kshr x y) :: st)) : Ev M n0 n1 r (pc) n ρ σ (L) ((0, y) :: (1, x) :: st) := by
  intro p l e Rm s m args below meth c A H locs D dA ad0 ad ls C K h hl hL hn hs
  have hx := C.1
  have hb := C.2.1
  have h2 := hh p l e Rm s m args below meth c A H locs D dA ad0 ad ls C K h hl hL hn (ok_cons (ti64 _) (cons_ok (cons_ok hs).2).2)
  rw [List.map_cons, show rv ad (1, kshr x y) = .long (Int64.ofInt (kshr x y)) from rfl, kshr, Int64.ofInt_toInt] at h2
  exact lv_lshr hx hb hd rfl h2
def kushr (a b : Int) : Int := ((Int64.ofInt a).toUInt64 >>> ((Int32.ofInt b).toInt64.toUInt64 &&& Int64.toUInt64 63)).toInt64.toInt
theorem ev_lushr {M : MD} {n0 n1 : Nat} {r : Option V × Mem × Mem} {pc n : Nat} {ρ σ : Mem} {L st : List V} {x y : Int} (hd : decode M.2.1 pc = .ok (.lushr, 1)) (hh : Ev M n0 n1 r (pc + 1) n ρ σ (L) ((1, kushr x y) :: st)) : Ev M n0 n1 r (pc) n ρ σ (L) ((0, y) :: (1, x) :: st) := by
  intro p l e Rm s m args below meth c A H locs D dA ad0 ad ls C K h hl hL hn hs
  have hx := C.1
  have hb := C.2.1
  have h2 := hh p l e Rm s m args below meth c A H locs D dA ad0 ad ls C K h hl hL hn (ok_cons (ti64 _) (cons_ok (cons_ok hs).2).2)
  rw [List.map_cons, show rv ad (1, kushr x y) = .long (Int64.ofInt (kushr x y)) from rfl, kushr, Int64.ofInt_toInt] at h2
  exact lv_lushr hx hb hd rfl h2
def jl (a : Int) : Int := (Int32.ofInt a).toInt64.toInt
def lj (a : Int) : Int := (Int64.ofInt a).toInt32.toInt
def jb (a : Int) : Int := (Int32.ofInt a).toInt8.toInt32.toInt
def js (a : Int) : Int := (Int32.ofInt a).toInt16.toInt32.toInt
theorem ev_i2l {M : MD} {n0 n1 : Nat} {r : Option V × Mem × Mem} {pc n : Nat} {ρ σ : Mem} {L st : List V} {x : Int} (hd : decode M.2.1 pc = .ok (.i2l, 1)) (hh : Ev M n0 n1 r (pc + 1) n ρ σ (L) ((1, jl x) :: st)) : Ev M n0 n1 r (pc) n ρ σ (L) ((0, x) :: st) := by
  intro p l e Rm s m args below meth c A H locs D dA ad0 ad ls C K h hl hL hn hs
  have hx := C.1
  have hb := C.2.1
  have h2 := hh p l e Rm s m args below meth c A H locs D dA ad0 ad ls C K h hl hL hn (ok_cons (ti64 _) (cons_ok hs).2)
  rw [List.map_cons, show rv ad (1, jl x) = .long (Int64.ofInt (jl x)) from rfl, jl, Int64.ofInt_toInt] at h2
  exact lv_i2l hx hb hd rfl h2
theorem ev_l2i {M : MD} {n0 n1 : Nat} {r : Option V × Mem × Mem} {pc n : Nat} {ρ σ : Mem} {L st : List V} {x : Int} (hd : decode M.2.1 pc = .ok (.l2i, 1)) (hh : Ev M n0 n1 r (pc + 1) n ρ σ (L) ((0, lj x) :: st)) : Ev M n0 n1 r (pc) n ρ σ (L) ((1, x) :: st) := by
  intro p l e Rm s m args below meth c A H locs D dA ad0 ad ls C K h hl hL hn hs
  have hx := C.1
  have hb := C.2.1
  have h2 := hh p l e Rm s m args below meth c A H locs D dA ad0 ad ls C K h hl hL hn (ok_cons (ti32 _) (cons_ok hs).2)
  rw [List.map_cons, show rv ad (0, lj x) = .int (Int32.ofInt (lj x)) from rfl, lj, Int32.ofInt_toInt] at h2
  exact lv_l2i hx hb hd rfl h2
theorem ev_i2b {M : MD} {n0 n1 : Nat} {r : Option V × Mem × Mem} {pc n : Nat} {ρ σ : Mem} {L st : List V} {x : Int} (hd : decode M.2.1 pc = .ok (.i2b, 1)) (hh : Ev M n0 n1 r (pc + 1) n ρ σ (L) ((0, jb x) :: st)) : Ev M n0 n1 r (pc) n ρ σ (L) ((0, x) :: st) := by
  intro p l e Rm s m args below meth c A H locs D dA ad0 ad ls C K h hl hL hn hs
  have hx := C.1
  have hb := C.2.1
  have h2 := hh p l e Rm s m args below meth c A H locs D dA ad0 ad ls C K h hl hL hn (ok_cons (ti32 _) (cons_ok hs).2)
  rw [List.map_cons, show rv ad (0, jb x) = .int (Int32.ofInt (jb x)) from rfl, jb, Int32.ofInt_toInt] at h2
  exact lv_i2b hx hb hd rfl h2
theorem ev_i2s {M : MD} {n0 n1 : Nat} {r : Option V × Mem × Mem} {pc n : Nat} {ρ σ : Mem} {L st : List V} {x : Int} (hd : decode M.2.1 pc = .ok (.i2s, 1)) (hh : Ev M n0 n1 r (pc + 1) n ρ σ (L) ((0, js x) :: st)) : Ev M n0 n1 r (pc) n ρ σ (L) ((0, x) :: st) := by
  intro p l e Rm s m args below meth c A H locs D dA ad0 ad ls C K h hl hL hn hs
  have hx := C.1
  have hb := C.2.1
  have h2 := hh p l e Rm s m args below meth c A H locs D dA ad0 ad ls C K h hl hL hn (ok_cons (ti32 _) (cons_ok hs).2)
  rw [List.map_cons, show rv ad (0, js x) = .int (Int32.ofInt (js x)) from rfl, js, Int32.ofInt_toInt] at h2
  exact lv_i2s hx hb hd rfl h2
def lcm (a b : Int) : Int := (lg_cmp (Int64.ofInt a) (Int64.ofInt b)).toInt
theorem ev_lcmp {M : MD} {n0 n1 : Nat} {r : Option V × Mem × Mem} {pc n : Nat} {ρ σ : Mem} {L st : List V} {x y : Int} (hd : decode M.2.1 pc = .ok (.lcmp, 1)) (hh : Ev M n0 n1 r (pc + 1) n ρ σ (L) ((0, lcm x y) :: st)) : Ev M n0 n1 r (pc) n ρ σ (L) ((1, y) :: (1, x) :: st) := by
  intro p l e Rm s m args below meth c A H locs D dA ad0 ad ls C K h hl hL hn hs
  have hx := C.1
  have hb := C.2.1
  have h2 := hh p l e Rm s m args below meth c A H locs D dA ad0 ad ls C K h hl hL hn (ok_cons (ti32 _) (cons_ok (cons_ok hs).2).2)
  rw [List.map_cons, show rv ad (0, lcm x y) = .int (Int32.ofInt (lcm x y)) from rfl, lcm, Int32.ofInt_toInt] at h2
  exact W.lcmp hx hb hd h2
theorem ev_dup {M : MD} {n0 n1 : Nat} {r : Option V × Mem × Mem} {pc n : Nat} {ρ σ : Mem} {L st : List V} {v : V} (hd : decode M.2.1 pc = .ok (.dup, 1)) (hc : v.1 ≠ 1) (hh : Ev M n0 n1 r (pc + 1) n ρ σ (L) (v :: v :: st)) : Ev M n0 n1 r (pc) n ρ σ (L) (v :: st) := by
  intro p l e Rm s m args below meth c A H locs D dA ad0 ad ls C K h hl hL hn hs
  have hx := C.1
  have hb := C.2.1
  exact lv_dup hx hb hd (by rw [rv_cat, if_neg hc]) (hh p l e Rm s m args below meth c A H locs D dA ad0 ad ls C K h hl hL hn (ok_cons (cons_ok hs).1 hs))
theorem ev_pop {M : MD} {n0 n1 : Nat} {r : Option V × Mem × Mem} {pc n : Nat} {ρ σ : Mem} {L st : List V} {v : V} (hd : decode M.2.1 pc = .ok (.pop, 1)) (hc : v.1 ≠ 1) (hh : Ev M n0 n1 r (pc + 1) n ρ σ (L) (st)) : Ev M n0 n1 r (pc) n ρ σ (L) (v :: st) := by
  intro p l e Rm s m args below meth c A H locs D dA ad0 ad ls C K h hl hL hn hs
  have hx := C.1
  have hb := C.2.1
  exact lv_pop hx hb hd (by rw [rv_cat, if_neg hc]) (hh p l e Rm s m args below meth c A H locs D dA ad0 ad ls C K h hl hL hn (cons_ok hs).2)
theorem ev_dup2 {M : MD} {n0 n1 : Nat} {r : Option V × Mem × Mem} {pc n : Nat} {ρ σ : Mem} {L st : List V} {v u : V} (hd : decode M.2.1 pc = .ok (.dup2, 1)) (hc : v.1 ≠ 1) (hc2 : u.1 ≠ 1) (hh : Ev M n0 n1 r (pc + 1) n ρ σ (L) (v :: u :: v :: u :: st)) : Ev M n0 n1 r (pc) n ρ σ (L) (v :: u :: st) := by
  intro p l e Rm s m args below meth c A H locs D dA ad0 ad ls C K h hl hL hn hs
  have hx := C.1
  have hb := C.2.1
  exact lv_dup2_11 hx hb hd (by rw [rv_cat, if_neg hc]) (by rw [rv_cat, if_neg hc2]) (hh p l e Rm s m args below meth c A H locs D dA ad0 ad ls C K h hl hL hn (ok_cons (cons_ok hs).1 (ok_cons (cons_ok (cons_ok hs).2).1 hs)))
theorem ev_goto {M : MD} {n0 n1 : Nat} {r : Option V × Mem × Mem} {pc n : Nat} {ρ σ : Mem} {L st : List V} {off : Int} {tgt : Nat} (hd : decode M.2.1 pc = .ok (.goto off, 3)) (ht : (pc : Int) + off = (tgt : Int)) (hh : Ev M n0 n1 r (tgt) n ρ σ (L) (st)) : Ev M n0 n1 r (pc) n ρ σ (L) (st) := by
  intro p l e Rm s m args below meth c A H locs D dA ad0 ad ls C K h hl hL hn hs
  have hx := C.1
  have hb := C.2.1
  exact lv_goto hx hb hd ht (hh p l e Rm s m args below meth c A H locs D dA ad0 ad ls C K h hl hL hn hs)
theorem eq32 {x y : Int} (hx : in32 x) (hy : in32 y) : Int32.ofInt x = Int32.ofInt y ↔ x = y := ⟨fun h => by have := congrArg Int32.toInt h; rwa [oi32 hx, oi32 hy] at this, fun h => by rw [h]⟩
theorem lt32 {x y : Int} (hx : in32 x) (hy : in32 y) : Int32.ofInt x < Int32.ofInt y ↔ x < y := by rw [Int32.lt_iff_toInt_lt, oi32 hx, oi32 hy]
theorem le32 {x y : Int} (hx : in32 x) (hy : in32 y) : Int32.ofInt x ≤ Int32.ofInt y ↔ x ≤ y := by rw [Int32.le_iff_toInt_le, oi32 hx, oi32 hy]
theorem in32_0 : in32 0 := by decide
theorem ite_pos' {α : Type} {c : Prop} [Decidable c] {x y z : α} (h : (if c then x else y) = z) (hc : c) : x = z := by rwa [if_pos hc] at h
theorem ite_neg' {α : Type} {c : Prop} [Decidable c] {x y z : α} (h : (if c then x else y) = z) (hc : ¬ c) : y = z := by rwa [if_neg hc] at h
theorem ev_icmp_eq {M : MD} {n0 n1 : Nat} {r : Option V × Mem × Mem} {pc n : Nat} {ρ σ : Mem} {L st : List V} {α : Type} {X Y : Option α} {q : α} {x y off : Int} {tgt : Nat} (hd : decode M.2.1 pc = .ok (.if_icmp .eq off, 3)) (ht : (pc : Int) + off = (tgt : Int)) (hf : (if x = y then X else Y) = some q) (h1 : x = y → X = some q → Ev M n0 n1 r (tgt) n ρ σ (L) (st)) (h2 : ¬ (x = y) → Y = some q → Ev M n0 n1 r (pc + 3) n ρ σ (L) (st)) : Ev M n0 n1 r (pc) n ρ σ (L) ((0, y) :: (0, x) :: st) := by
  intro p l e Rm s m args below meth c A H locs D dA ad0 ad ls C K h hl hL hn hs
  have hx := C.1
  have hb := C.2.1
  have hq := eq32 (cons_ok (cons_ok hs).2).1 (cons_ok hs).1
  exact lv_icmp_eq hx hb hd ht (fun z => h1 (hq.mp z) (ite_pos' hf (hq.mp z)) p l e Rm s m args below meth c A H locs D dA ad0 ad ls C K h hl hL hn (cons_ok (cons_ok hs).2).2) (fun z => h2 (fun z2 => z (hq.mpr z2)) (ite_neg' hf (fun z2 => z (hq.mpr z2))) p l e Rm s m args below meth c A H locs D dA ad0 ad ls C K h hl hL hn (cons_ok (cons_ok hs).2).2)
theorem ev_icmp_ne {M : MD} {n0 n1 : Nat} {r : Option V × Mem × Mem} {pc n : Nat} {ρ σ : Mem} {L st : List V} {α : Type} {X Y : Option α} {q : α} {x y off : Int} {tgt : Nat} (hd : decode M.2.1 pc = .ok (.if_icmp .ne off, 3)) (ht : (pc : Int) + off = (tgt : Int)) (hf : (if x ≠ y then X else Y) = some q) (h1 : x ≠ y → X = some q → Ev M n0 n1 r (tgt) n ρ σ (L) (st)) (h2 : ¬ (x ≠ y) → Y = some q → Ev M n0 n1 r (pc + 3) n ρ σ (L) (st)) : Ev M n0 n1 r (pc) n ρ σ (L) ((0, y) :: (0, x) :: st) := by
  intro p l e Rm s m args below meth c A H locs D dA ad0 ad ls C K h hl hL hn hs
  have hx := C.1
  have hb := C.2.1
  have hq := not_congr (eq32 (cons_ok (cons_ok hs).2).1 (cons_ok hs).1)
  exact lv_icmp_ne hx hb hd ht (fun z => h1 (hq.mp z) (ite_pos' hf (hq.mp z)) p l e Rm s m args below meth c A H locs D dA ad0 ad ls C K h hl hL hn (cons_ok (cons_ok hs).2).2) (fun z => h2 (fun z2 => (hq.mpr z2) z) (ite_neg' hf (fun z2 => (hq.mpr z2) z)) p l e Rm s m args below meth c A H locs D dA ad0 ad ls C K h hl hL hn (cons_ok (cons_ok hs).2).2)
theorem ev_icmp_lt {M : MD} {n0 n1 : Nat} {r : Option V × Mem × Mem} {pc n : Nat} {ρ σ : Mem} {L st : List V} {α : Type} {X Y : Option α} {q : α} {x y off : Int} {tgt : Nat} (hd : decode M.2.1 pc = .ok (.if_icmp .lt off, 3)) (ht : (pc : Int) + off = (tgt : Int)) (hf : (if x < y then X else Y) = some q) (h1 : x < y → X = some q → Ev M n0 n1 r (tgt) n ρ σ (L) (st)) (h2 : ¬ (x < y) → Y = some q → Ev M n0 n1 r (pc + 3) n ρ σ (L) (st)) : Ev M n0 n1 r (pc) n ρ σ (L) ((0, y) :: (0, x) :: st) := by
  intro p l e Rm s m args below meth c A H locs D dA ad0 ad ls C K h hl hL hn hs
  have hx := C.1
  have hb := C.2.1
  have hq := lt32 (cons_ok (cons_ok hs).2).1 (cons_ok hs).1
  exact lv_icmp_lt hx hb hd ht (fun z => h1 (hq.mp z) (ite_pos' hf (hq.mp z)) p l e Rm s m args below meth c A H locs D dA ad0 ad ls C K h hl hL hn (cons_ok (cons_ok hs).2).2) (fun z => h2 (fun z2 => z (hq.mpr z2)) (ite_neg' hf (fun z2 => z (hq.mpr z2))) p l e Rm s m args below meth c A H locs D dA ad0 ad ls C K h hl hL hn (cons_ok (cons_ok hs).2).2)
theorem ev_icmp_ge {M : MD} {n0 n1 : Nat} {r : Option V × Mem × Mem} {pc n : Nat} {ρ σ : Mem} {L st : List V} {α : Type} {X Y : Option α} {q : α} {x y off : Int} {tgt : Nat} (hd : decode M.2.1 pc = .ok (.if_icmp .ge off, 3)) (ht : (pc : Int) + off = (tgt : Int)) (hf : (if y ≤ x then X else Y) = some q) (h1 : y ≤ x → X = some q → Ev M n0 n1 r (tgt) n ρ σ (L) (st)) (h2 : ¬ (y ≤ x) → Y = some q → Ev M n0 n1 r (pc + 3) n ρ σ (L) (st)) : Ev M n0 n1 r (pc) n ρ σ (L) ((0, y) :: (0, x) :: st) := by
  intro p l e Rm s m args below meth c A H locs D dA ad0 ad ls C K h hl hL hn hs
  have hx := C.1
  have hb := C.2.1
  have hq := le32 (cons_ok hs).1 (cons_ok (cons_ok hs).2).1
  exact lv_icmp_ge hx hb hd ht (fun z => h1 (hq.mp z) (ite_pos' hf (hq.mp z)) p l e Rm s m args below meth c A H locs D dA ad0 ad ls C K h hl hL hn (cons_ok (cons_ok hs).2).2) (fun z => h2 (fun z2 => z (hq.mpr z2)) (ite_neg' hf (fun z2 => z (hq.mpr z2))) p l e Rm s m args below meth c A H locs D dA ad0 ad ls C K h hl hL hn (cons_ok (cons_ok hs).2).2)
theorem ev_icmp_gt {M : MD} {n0 n1 : Nat} {r : Option V × Mem × Mem} {pc n : Nat} {ρ σ : Mem} {L st : List V} {α : Type} {X Y : Option α} {q : α} {x y off : Int} {tgt : Nat} (hd : decode M.2.1 pc = .ok (.if_icmp .gt off, 3)) (ht : (pc : Int) + off = (tgt : Int)) (hf : (if y < x then X else Y) = some q) (h1 : y < x → X = some q → Ev M n0 n1 r (tgt) n ρ σ (L) (st)) (h2 : ¬ (y < x) → Y = some q → Ev M n0 n1 r (pc + 3) n ρ σ (L) (st)) : Ev M n0 n1 r (pc) n ρ σ (L) ((0, y) :: (0, x) :: st) := by
  intro p l e Rm s m args below meth c A H locs D dA ad0 ad ls C K h hl hL hn hs
  have hx := C.1
  have hb := C.2.1
  have hq := lt32 (cons_ok hs).1 (cons_ok (cons_ok hs).2).1
  exact lv_icmp_gt hx hb hd ht (fun z => h1 (hq.mp z) (ite_pos' hf (hq.mp z)) p l e Rm s m args below meth c A H locs D dA ad0 ad ls C K h hl hL hn (cons_ok (cons_ok hs).2).2) (fun z => h2 (fun z2 => z (hq.mpr z2)) (ite_neg' hf (fun z2 => z (hq.mpr z2))) p l e Rm s m args below meth c A H locs D dA ad0 ad ls C K h hl hL hn (cons_ok (cons_ok hs).2).2)
theorem ev_icmp_le {M : MD} {n0 n1 : Nat} {r : Option V × Mem × Mem} {pc n : Nat} {ρ σ : Mem} {L st : List V} {α : Type} {X Y : Option α} {q : α} {x y off : Int} {tgt : Nat} (hd : decode M.2.1 pc = .ok (.if_icmp .le off, 3)) (ht : (pc : Int) + off = (tgt : Int)) (hf : (if x ≤ y then X else Y) = some q) (h1 : x ≤ y → X = some q → Ev M n0 n1 r (tgt) n ρ σ (L) (st)) (h2 : ¬ (x ≤ y) → Y = some q → Ev M n0 n1 r (pc + 3) n ρ σ (L) (st)) : Ev M n0 n1 r (pc) n ρ σ (L) ((0, y) :: (0, x) :: st) := by
  intro p l e Rm s m args below meth c A H locs D dA ad0 ad ls C K h hl hL hn hs
  have hx := C.1
  have hb := C.2.1
  have hq := le32 (cons_ok (cons_ok hs).2).1 (cons_ok hs).1
  exact lv_icmp_le hx hb hd ht (fun z => h1 (hq.mp z) (ite_pos' hf (hq.mp z)) p l e Rm s m args below meth c A H locs D dA ad0 ad ls C K h hl hL hn (cons_ok (cons_ok hs).2).2) (fun z => h2 (fun z2 => z (hq.mpr z2)) (ite_neg' hf (fun z2 => z (hq.mpr z2))) p l e Rm s m args below meth c A H locs D dA ad0 ad ls C K h hl hL hn (cons_ok (cons_ok hs).2).2)
theorem ev_if_eq {M : MD} {n0 n1 : Nat} {r : Option V × Mem × Mem} {pc n : Nat} {ρ σ : Mem} {L st : List V} {α : Type} {X Y : Option α} {q : α} {x off : Int} {tgt : Nat} (hd : decode M.2.1 pc = .ok (.ifCond .eq off, 3)) (ht : (pc : Int) + off = (tgt : Int)) (hf : (if x = 0 then X else Y) = some q) (h1 : x = 0 → X = some q → Ev M n0 n1 r (tgt) n ρ σ (L) (st)) (h2 : ¬ (x = 0) → Y = some q → Ev M n0 n1 r (pc + 3) n ρ σ (L) (st)) : Ev M n0 n1 r (pc) n ρ σ (L) ((0, x) :: st) := by
  intro p l e Rm s m args below meth c A H locs D dA ad0 ad ls C K h hl hL hn hs
  have hx := C.1
  have hb := C.2.1
  have hq := eq32 (cons_ok hs).1 in32_0
  exact lv_if_eq hx hb hd ht (fun z => h1 (hq.mp z) (ite_pos' hf (hq.mp z)) p l e Rm s m args below meth c A H locs D dA ad0 ad ls C K h hl hL hn (cons_ok hs).2) (fun z => h2 (fun z2 => z (hq.mpr z2)) (ite_neg' hf (fun z2 => z (hq.mpr z2))) p l e Rm s m args below meth c A H locs D dA ad0 ad ls C K h hl hL hn (cons_ok hs).2)
theorem ev_if_ne {M : MD} {n0 n1 : Nat} {r : Option V × Mem × Mem} {pc n : Nat} {ρ σ : Mem} {L st : List V} {α : Type} {X Y : Option α} {q : α} {x off : Int} {tgt : Nat} (hd : decode M.2.1 pc = .ok (.ifCond .ne off, 3)) (ht : (pc : Int) + off = (tgt : Int)) (hf : (if x ≠ 0 then X else Y) = some q) (h1 : x ≠ 0 → X = some q → Ev M n0 n1 r (tgt) n ρ σ (L) (st)) (h2 : ¬ (x ≠ 0) → Y = some q → Ev M n0 n1 r (pc + 3) n ρ σ (L) (st)) : Ev M n0 n1 r (pc) n ρ σ (L) ((0, x) :: st) := by
  intro p l e Rm s m args below meth c A H locs D dA ad0 ad ls C K h hl hL hn hs
  have hx := C.1
  have hb := C.2.1
  have hq := not_congr (eq32 (cons_ok hs).1 in32_0)
  exact lv_if_ne hx hb hd ht (fun z => h1 (hq.mp z) (ite_pos' hf (hq.mp z)) p l e Rm s m args below meth c A H locs D dA ad0 ad ls C K h hl hL hn (cons_ok hs).2) (fun z => h2 (fun z2 => (hq.mpr z2) z) (ite_neg' hf (fun z2 => (hq.mpr z2) z)) p l e Rm s m args below meth c A H locs D dA ad0 ad ls C K h hl hL hn (cons_ok hs).2)
theorem ev_if_lt {M : MD} {n0 n1 : Nat} {r : Option V × Mem × Mem} {pc n : Nat} {ρ σ : Mem} {L st : List V} {α : Type} {X Y : Option α} {q : α} {x off : Int} {tgt : Nat} (hd : decode M.2.1 pc = .ok (.ifCond .lt off, 3)) (ht : (pc : Int) + off = (tgt : Int)) (hf : (if x < 0 then X else Y) = some q) (h1 : x < 0 → X = some q → Ev M n0 n1 r (tgt) n ρ σ (L) (st)) (h2 : ¬ (x < 0) → Y = some q → Ev M n0 n1 r (pc + 3) n ρ σ (L) (st)) : Ev M n0 n1 r (pc) n ρ σ (L) ((0, x) :: st) := by
  intro p l e Rm s m args below meth c A H locs D dA ad0 ad ls C K h hl hL hn hs
  have hx := C.1
  have hb := C.2.1
  have hq := lt32 (cons_ok hs).1 in32_0
  exact lv_if_lt hx hb hd ht (fun z => h1 (hq.mp z) (ite_pos' hf (hq.mp z)) p l e Rm s m args below meth c A H locs D dA ad0 ad ls C K h hl hL hn (cons_ok hs).2) (fun z => h2 (fun z2 => z (hq.mpr z2)) (ite_neg' hf (fun z2 => z (hq.mpr z2))) p l e Rm s m args below meth c A H locs D dA ad0 ad ls C K h hl hL hn (cons_ok hs).2)
theorem ev_if_ge {M : MD} {n0 n1 : Nat} {r : Option V × Mem × Mem} {pc n : Nat} {ρ σ : Mem} {L st : List V} {α : Type} {X Y : Option α} {q : α} {x off : Int} {tgt : Nat} (hd : decode M.2.1 pc = .ok (.ifCond .ge off, 3)) (ht : (pc : Int) + off = (tgt : Int)) (hf : (if 0 ≤ x then X else Y) = some q) (h1 : 0 ≤ x → X = some q → Ev M n0 n1 r (tgt) n ρ σ (L) (st)) (h2 : ¬ (0 ≤ x) → Y = some q → Ev M n0 n1 r (pc + 3) n ρ σ (L) (st)) : Ev M n0 n1 r (pc) n ρ σ (L) ((0, x) :: st) := by
  intro p l e Rm s m args below meth c A H locs D dA ad0 ad ls C K h hl hL hn hs
  have hx := C.1
  have hb := C.2.1
  have hq := le32 in32_0 (cons_ok hs).1
  exact lv_if_ge hx hb hd ht (fun z => h1 (hq.mp z) (ite_pos' hf (hq.mp z)) p l e Rm s m args below meth c A H locs D dA ad0 ad ls C K h hl hL hn (cons_ok hs).2) (fun z => h2 (fun z2 => z (hq.mpr z2)) (ite_neg' hf (fun z2 => z (hq.mpr z2))) p l e Rm s m args below meth c A H locs D dA ad0 ad ls C K h hl hL hn (cons_ok hs).2)
theorem ev_if_gt {M : MD} {n0 n1 : Nat} {r : Option V × Mem × Mem} {pc n : Nat} {ρ σ : Mem} {L st : List V} {α : Type} {X Y : Option α} {q : α} {x off : Int} {tgt : Nat} (hd : decode M.2.1 pc = .ok (.ifCond .gt off, 3)) (ht : (pc : Int) + off = (tgt : Int)) (hf : (if 0 < x then X else Y) = some q) (h1 : 0 < x → X = some q → Ev M n0 n1 r (tgt) n ρ σ (L) (st)) (h2 : ¬ (0 < x) → Y = some q → Ev M n0 n1 r (pc + 3) n ρ σ (L) (st)) : Ev M n0 n1 r (pc) n ρ σ (L) ((0, x) :: st) := by
  intro p l e Rm s m args below meth c A H locs D dA ad0 ad ls C K h hl hL hn hs
  have hx := C.1
  have hb := C.2.1
  have hq := lt32 in32_0 (cons_ok hs).1
  exact lv_if_gt hx hb hd ht (fun z => h1 (hq.mp z) (ite_pos' hf (hq.mp z)) p l e Rm s m args below meth c A H locs D dA ad0 ad ls C K h hl hL hn (cons_ok hs).2) (fun z => h2 (fun z2 => z (hq.mpr z2)) (ite_neg' hf (fun z2 => z (hq.mpr z2))) p l e Rm s m args below meth c A H locs D dA ad0 ad ls C K h hl hL hn (cons_ok hs).2)
theorem ev_if_le {M : MD} {n0 n1 : Nat} {r : Option V × Mem × Mem} {pc n : Nat} {ρ σ : Mem} {L st : List V} {α : Type} {X Y : Option α} {q : α} {x off : Int} {tgt : Nat} (hd : decode M.2.1 pc = .ok (.ifCond .le off, 3)) (ht : (pc : Int) + off = (tgt : Int)) (hf : (if x ≤ 0 then X else Y) = some q) (h1 : x ≤ 0 → X = some q → Ev M n0 n1 r (tgt) n ρ σ (L) (st)) (h2 : ¬ (x ≤ 0) → Y = some q → Ev M n0 n1 r (pc + 3) n ρ σ (L) (st)) : Ev M n0 n1 r (pc) n ρ σ (L) ((0, x) :: st) := by
  intro p l e Rm s m args below meth c A H locs D dA ad0 ad ls C K h hl hL hn hs
  have hx := C.1
  have hb := C.2.1
  have hq := le32 (cons_ok hs).1 in32_0
  exact lv_if_le hx hb hd ht (fun z => h1 (hq.mp z) (ite_pos' hf (hq.mp z)) p l e Rm s m args below meth c A H locs D dA ad0 ad ls C K h hl hL hn (cons_ok hs).2) (fun z => h2 (fun z2 => z (hq.mpr z2)) (ite_neg' hf (fun z2 => z (hq.mpr z2))) p l e Rm s m args below meth c A H locs D dA ad0 ad ls C K h hl hL hn (cons_ok hs).2)
theorem ev_tswIn {M : MD} {n0 n1 : Nat} {r : Option V × Mem × Mem} {pc n : Nat} {ρ σ : Mem} {L st : List V} {dflt lo hi x off : Int} {offs : Array Int} {len tgt : Nat} (hd : decode M.2.1 pc = .ok (.tableswitch dflt lo hi offs, len)) (h1 : lo ≤ x) (h2 : x ≤ hi) (ho : offs[(x - lo).toNat]? = some off) (ht : (pc : Int) + off = (tgt : Int)) (hh : Ev M n0 n1 r (tgt) n ρ σ (L) (st)) : Ev M n0 n1 r (pc) n ρ σ (L) ((0, x) :: st) := by
  intro p l e Rm s m args below meth c A H locs D dA ad0 ad ls C K h hl hL hn hs
  have hx := C.1
  have hb := C.2.1
  have hq := oi32 (cons_ok hs).1
  exact lv_tableIn (off := off) hx hb hd (by rw [hq]; omega) (by rw [hq]; omega) (by rw [hq]; exact ho) ht (hh p l e Rm s m args below meth c A H locs D dA ad0 ad ls C K h hl hL hn (cons_ok hs).2)
theorem ev_tswOut {M : MD} {n0 n1 : Nat} {r : Option V × Mem × Mem} {pc n : Nat} {ρ σ : Mem} {L st : List V} {dflt lo hi x : Int} {offs : Array Int} {len tgt : Nat} (hd : decode M.2.1 pc = .ok (.tableswitch dflt lo hi offs, len)) (h1 : x < lo ∨ hi < x) (ht : (pc : Int) + dflt = (tgt : Int)) (hh : Ev M n0 n1 r (tgt) n ρ σ (L) (st)) : Ev M n0 n1 r (pc) n ρ σ (L) ((0, x) :: st) := by
  intro p l e Rm s m args below meth c A H locs D dA ad0 ad ls C K h hl hL hn hs
  have hx := C.1
  have hb := C.2.1
  have hq := oi32 (cons_ok hs).1
  exact lv_tableOut hx hb hd (by rw [hq]; exact h1) ht (hh p l e Rm s m args below meth c A H locs D dA ad0 ad ls C K h hl hL hn (cons_ok hs).2)
theorem ev_lsw {M : MD} {n0 n1 : Nat} {r : Option V × Mem × Mem} {pc n : Nat} {ρ σ : Mem} {L st : List V} {dflt x off : Int} {ps : Array (Int × Int)} {len tgt : Nat} (hd : decode M.2.1 pc = .ok (.lookupswitch dflt ps, len)) (hp : (ps.toList.zip (ps.toList.drop 1)).all (fun (a, next) => a.1 < next.1) = true) (ho : Op.lookupswitch.offset ps.toList dflt x = off) (ht : (pc : Int) + off = (tgt : Int)) (hh : Ev M n0 n1 r (tgt) n ρ σ (L) (st)) : Ev M n0 n1 r (pc) n ρ σ (L) ((0, x) :: st) := by
  intro p l e Rm s m args below meth c A H locs D dA ad0 ad ls C K h hl hL hn hs
  have hx := C.1
  have hb := C.2.1
  have hq := oi32 (cons_ok hs).1
  exact lv_lookup hx hb hd hp (by rw [hq]; exact ho) ht (hh p l e Rm s m args below meth c A H locs D dA ad0 ad ls C K h hl hL hn (cons_ok hs).2)
end
section
theorem cel_obj {dA : Nat → ClassId} {ad : Nat → Nat} {ρ σ : Mem} {k ci nf : Nat} (hs : shp k = (ci + 5, nf)) : cel dA ad ρ σ k = .inr (ci, (fts ci).mapIdx fun j t => rv ad (t, if t = 2 then ρ k j else σ k j)) := by unfold cel; rw [hs]
theorem cel_0 {dA : Nat → ClassId} {ad : Nat → Nat} {ρ σ : Mem} {k n : Nat} (hs : shp k = (0, n)) : cel dA ad ρ σ k = .inl (dA 0, n, .inl fun j => Int32.ofInt (σ k j)) := by unfold cel; rw [hs]
theorem cel_1 {dA : Nat → ClassId} {ad : Nat → Nat} {ρ σ : Mem} {k n : Nat} (hs : shp k = (1, n)) : cel dA ad ρ σ k = .inl (dA 1, n, .inr (.inl fun j => Int64.ofInt (σ k j))) := by unfold cel; rw [hs]
theorem cel_2 {dA : Nat → ClassId} {ad : Nat → Nat} {ρ σ : Mem} {k n : Nat} (hs : shp k = (2, n)) : cel dA ad ρ σ k = .inl (dA 2, n, .inl fun j => Int32.ofInt (σ k j)) := by unfold cel; rw [hs]
theorem cel_3 {dA : Nat → ClassId} {ad : Nat → Nat} {ρ σ : Mem} {k n : Nat} (hs : shp k = (3, n)) : cel dA ad ρ σ k = .inl (dA 3, n, .inl fun j => Int32.ofInt (σ k j)) := by unfold cel; rw [hs]
theorem cel_4 {dA : Nat → ClassId} {ad : Nat → Nat} {ρ σ : Mem} {k n : Nat} (hs : shp k = (4, n)) : cel dA ad ρ σ k = .inl (dA 4, n, .inr (.inr (.inr (.inr fun j => if ρ k j < 0 then none else some (ad (ρ k j).toNat))))) := by unfold cel; rw [hs]
theorem lgt_obj {k : Int} {j ci nf : Nat} (hs : shp k.toNat = (ci + 5, nf)) : lgt k j = ((fts ci).getD j 0 == 1) := by unfold lgt; rw [hs]; rfl
theorem lgt_arr {k j : Int} {d nf : Nat} (hs : shp k.toNat = (d, nf)) (hd : d = 0 ∨ d = 2 ∨ d = 3) : lgt k j = false := by unfold lgt; rw [hs]; rcases hd with h | h | h <;> subst h <;> rfl
theorem lgt_arl {k j : Int} {nf : Nat} (hs : shp k.toNat = (1, nf)) : lgt k j = true := by unfold lgt; rw [hs]
theorem obj_fs {ad : Nat → Nat} {ρ σ : Mem} {ci j t : Nat} {k : Int} (ht : (fts ci)[j]? = some t) : ((fts ci).mapIdx fun j t => rv ad (t, if t = 2 then ρ k j else σ k j))[j]? = some (rv ad (t, if t = 2 then ρ k j else σ k j)) := by
  simp [List.getElem?_mapIdx, ht]
theorem CF_len {ci : Nat} {CN : String} {T : u_T} {N : Nat} {ty : Nat → FieldType} (cf : CF ci CN T N ty) {j t : Nat} (ht : (fts ci)[j]? = some t) : j < N := by
  have := (List.getElem?_eq_some_iff.mp ht).1
  rw [cf.2.2.2.2.1] at this
  exact this
/-- a field's value -/
def fv (ρ σ : Mem) (k : Int) (j t : Nat) : Int := if t = 2 then ρ k j else σ k j
theorem fv_ok {n : Nat} {ρ σ : Mem} {k : Int} {j ci nf t : Nat} (hp : pok n ρ σ) (hs : shp k.toNat = (ci + 5, nf)) (ht : (fts ci)[j]? = some t) (h3 : t < 3) : okv n (t, fv ρ σ k j t) := by
  have hg : (fts ci).getD j 0 = t := by simp [List.getD, ht]
  match t, h3 with
  | 0, _ =>
    have := hp.1 k j
    rw [lgt_obj hs, hg] at this
    exact this
  | 1, _ =>
    have := hp.1 k j
    rw [lgt_obj hs, hg] at this
    exact this
  | 2, _ => exact hp.2.1 k j
theorem ev_getf {M : MD} {n0 n1 : Nat} {r : Option V × Mem × Mem} {pc n : Nat} {ρ σ : Mem} {L st : List V} {k x : Int} {j ci idx t nf N : Nat} {CN : String} {T : u_T} {ty : Nat → FieldType} (hd : decode M.2.1 pc = .ok (.getfield idx, 3)) (cf : CF ci CN T N ty) (hw : Cond.fieldLink M.1 idx (T j).1 (T j).2.1 (T j).2.2.1 ∈ WS) (hsh : shp k.toNat = (ci + 5, nf)) (h0 : 0 ≤ k) (hkn : k < n) (ht : (fts ci)[j]? = some t) (h3 : t < 3) (hv : fv ρ σ k j t = x) (hh : Ev M n0 n1 r (pc + 3) (n) (ρ) (σ) (L) ((t, x) :: st)) : Ev M n0 n1 r (pc) (n) (ρ) (σ) (L) ((2, k) :: st) := by
  intro p l e Rm s m args below meth c A H locs D dA ad0 ad ls C K h hl hL hn hs
  have hx := C.1
  have hb := C.2.1
  subst hv
  obtain ⟨q, rfl⟩ := Int.eq_ofNat_of_zero_le h0
  have hq : q < n := by omega
  have hsq : shp q = (ci + 5, nf) := by simpa using hsh
  have h2 := hh p l e Rm s m args below meth c A H locs D dA ad0 ad ls C K h hl hL hn (ok_cons (fv_ok h.2.2.2.2.2.1 hsh ht h3) (cons_ok hs).2)
  rw [List.map_cons, rv_ref h0, Int.toNat_natCast]
  exact va_get (D := D) (ci := ci) (C := CN) (T := T) (N := N) (tys := TY dA) hx hb C.2.2.2.2.2.1 cf.2.1 C.2.2.2.2.1 K.1 h.1 q (by rw [wl_get hq, cel_obj hsq]) cf.1 j (CF_len cf ht) (C.2.2.2.2.2.1 _ hw) (fun _ h9 => h9) (obj_fs ht) hd h2
theorem obj_set {ad : Nat → Nat} {ρ σ : Mem} {ci j t : Nat} {k x : Int} (ht : (fts ci)[j]? = some t) (h2 : t ≠ 2) : ((fts ci).mapIdx fun j t => rv ad (t, if t = 2 then ρ k j else σ k j)).set j (rv ad (t, x)) = (fts ci).mapIdx fun i t => rv ad (t, if t = 2 then ρ k i else mup σ k j x k i) := by
  apply List.ext_getElem?
  intro i
  rw [List.getElem?_set]
  by_cases hi : j = i
  · subst hi
    have hl := (List.getElem?_eq_some_iff.mp ht).1
    rw [if_pos rfl, if_pos (by simpa using hl)]
    simp [List.getElem?_mapIdx, ht, h2, mup]
  · rw [if_neg hi]
    simp only [List.getElem?_mapIdx]
    cases hf : (fts ci)[i]? with
    | none => rfl
    | some t' =>
      have : ¬ ((i : Int) = (j : Int)) := by omega
      simp [mup, this]
theorem obj_setr {ad : Nat → Nat} {ρ σ : Mem} {ci j : Nat} {k x : Int} (ht : (fts ci)[j]? = some 2) : ((fts ci).mapIdx fun j t => rv ad (t, if t = 2 then ρ k j else σ k j)).set j (rv ad (2, x)) = (fts ci).mapIdx fun i t => rv ad (t, if t = 2 then mup ρ k j x k i else σ k i) := by
  apply List.ext_getElem?
  intro i
  rw [List.getElem?_set]
  by_cases hi : j = i
  · subst hi
    have hl := (List.getElem?_eq_some_iff.mp ht).1
    rw [if_pos rfl, if_pos (by simpa using hl)]
    simp [List.getElem?_mapIdx, ht, mup]
  · rw [if_neg hi]
    simp only [List.getElem?_mapIdx]
    cases hf : (fts ci)[i]? with
    | none => rfl
    | some t' =>
      have : ¬ ((i : Int) = (j : Int)) := by omega
      simp [mup, this]
theorem ne_cast {i q : Nat} (h : i ≠ q) : (i : Int) ≠ (q : Int) := by omega
theorem pok_mup {n : Nat} {ρ σ : Mem} {k j v : Int} (h : pok n ρ σ) (hk : k < n) (hv : if lgt k j = true then in64 v else in32 v) : pok n ρ (mup σ k j v) := by
  refine ⟨rok_mup h.1 hv, h.2.1, fun a b hab => ⟨(h.2.2 a b hab).1, ?_⟩⟩
  unfold mup
  rw [if_neg (by omega)]
  exact (h.2.2 a b hab).2
theorem pok_mupr {n : Nat} {ρ σ : Mem} {k j v : Int} (h : pok n ρ σ) (hk : k < n) (hv : -1 ≤ v ∧ v < n) : pok n (mup ρ k j v) σ := by
  refine ⟨h.1, fun a b => ?_, fun a b hab => ⟨?_, (h.2.2 a b hab).2⟩⟩
  · unfold mup
    split
    · exact hv
    · exact h.2.1 a b
  · unfold mup
    rw [if_neg (by omega)]
    exact (h.2.2 a b hab).1
/-- a value fits a field -/
def pfit (t : Nat) (x : Int) (f : FieldType) : Prop := f = .boolean → x = 0 ∨ x = 1
theorem nar_fit {ad : Nat → Nat} {t : Nat} {x : Int} {f : FieldType} (ht : t = tgF f) (hk : f = .int ∨ f = .boolean ∨ f = .long ∨ (∃ c, f = .object c) ∨ ∃ c, f = .array c) (hp : pfit t x f) : narrow f (rv ad (t, x)) = rv ad (t, x) ∧ fits f (rv ad (t, x)) = true := by
  rcases hk with h | h | h | ⟨c, h⟩ | ⟨c, h⟩ <;> subst h <;> subst ht
  · exact ⟨rfl, rfl⟩
  · rcases hp rfl with h | h <;> subst h <;> exact ⟨rfl, rfl⟩
  · exact ⟨rfl, rfl⟩
  · show narrow _ (if x < 0 then Value.null else _) = (if x < 0 then Value.null else _) ∧ fits _ (if x < 0 then Value.null else _) = true
    split <;> exact ⟨rfl, rfl⟩
  · show narrow _ (if x < 0 then Value.null else _) = (if x < 0 then Value.null else _) ∧ fits _ (if x < 0 then Value.null else _) = true
    split <;> exact ⟨rfl, rfl⟩
theorem ev_putf {M : MD} {n0 n1 : Nat} {r : Option V × Mem × Mem} {pc n : Nat} {ρ σ : Mem} {L st : List V} {t : Nat} {k x : Int} {j ci idx nf N : Nat} {CN : String} {T : u_T} {ty : Nat → FieldType} (hd : decode M.2.1 pc = .ok (.putfield idx, 3)) (cf : CF ci CN T N ty) (hw : Cond.fieldLink M.1 idx (T j).1 (T j).2.1 (T j).2.2.1 ∈ WS) (hsh : shp k.toNat = (ci + 5, nf)) (h0 : 0 ≤ k) (hkn : k < n) (ht : (fts ci)[j]? = some t) (h2 : t ≠ 2) (hb1 : t = 0 ∨ t = 1) (hfin : (T j).2.2.2 = false) (hp : pfit t x (ty j)) (hh : Ev M n0 n1 r (pc + 3) (n) (ρ) (mup σ k j x) (L) (st)) : Ev M n0 n1 r (pc) (n) (ρ) (σ) (L) ((t, x) :: (2, k) :: st) := by
  intro p l e Rm s m args below meth c A H locs D dA ad0 ad ls C K h hl hL hn hs
  have hx := C.1
  have hb := C.2.1
  obtain ⟨q, rfl⟩ := Int.eq_ofNat_of_zero_le h0
  have hq : q < n := by omega
  have hsq : shp q = (ci + 5, nf) := by simpa using hsh
  have hty := cf.2.2.2.2.2 j (CF_len cf ht)
  have hnf := nar_fit (ad := ad) (Option.some.inj (ht.symm.trans hty.1)) hty.2 hp
  rw [List.map_cons, List.map_cons, rv_ref h0, Int.toNat_natCast]
  have hset : (wl dA ad ρ σ n).set q (ad q, .inr (ci, ((fts ci).mapIdx fun j t => rv ad (t, if t = 2 then ρ q j else σ q j)).set j (rv ad (t, x)))) = wl dA ad (ρ) (mup σ q j x) n := by
    rw [obj_set ht h2, ← cel_obj (dA := dA) hsq]
    exact wl_set fun i _ hi => cel_mup (ne_cast hi)
  refine va_put (D := D) (ci := ci) (C := CN) (T := T) (N := N) (tys := TY dA) hx hb C.2.2.2.2.2.1 cf.2.1 ty cf.2.2.1 cf.2.2.2.1 C.2.2.2.2.1 K.1 h.1 h.2.1 h.2.2.1 q (by rw [wl_get hq, cel_obj hsq]) cf.1 j (CF_len cf ht) (C.2.2.2.2.2.1 _ hw) (fun _ h9 => h9) hfin (cf.2.2.1 j (CF_len cf ht)) hnf.1 hnf.2 (by simpa using (List.getElem?_eq_some_iff.mp ht).1) hd (fun H1 locs1 hP hD hS => ?_)
  rw [hset] at hP hD
  exact hh p l e Rm s m args below meth c A H1 locs1 D dA ad0 ad ls C K ⟨hP, hD, hS, h.2.2.2.1, h.2.2.2.2.1, pok_mup h.2.2.2.2.2.1 hkn (by rw [lgt_obj hsh, show (fts ci).getD j 0 = t by simp [List.getD, ht]]; rcases hb1 with h9 | h9 <;> subst h9 <;> exact (cons_ok hs).1), h.2.2.2.2.2.2⟩ hl hL hn (cons_ok (cons_ok hs).2).2
theorem ev_putfF {M : MD} {n0 n1 : Nat} {r : Option V × Mem × Mem} {pc n : Nat} {ρ σ : Mem} {L st : List V} {t : Nat} {k x : Int} {j ci idx nf N : Nat} {CN : String} {T : u_T} {ty : Nat → FieldType} (hd : decode M.2.1 pc = .ok (.putfield idx, 3)) (cf : CF ci CN T N ty) (hw : Cond.fieldLink M.1 idx (T j).1 (T j).2.1 (T j).2.2.1 ∈ WS) (hsh : shp k.toNat = (ci + 5, nf)) (h0 : 0 ≤ k) (hkn : k < n) (ht : (fts ci)[j]? = some t) (h2 : t ≠ 2) (hb1 : t = 0 ∨ t = 1) (hfin : (T j).2.2.2 = true) (hin : M.2.2.2.2.2.2.1 = true) (hdc : (T j).1 = M.1) (hp : pfit t x (ty j)) (hh : Ev M n0 n1 r (pc + 3) (n) (ρ) (mup σ k j x) (L) (st)) : Ev M n0 n1 r (pc) (n) (ρ) (σ) (L) ((t, x) :: (2, k) :: st) := by
  intro p l e Rm s m args below meth c A H locs D dA ad0 ad ls C K h hl hL hn hs
  have hx := C.1
  have hb := C.2.1
  obtain ⟨q, rfl⟩ := Int.eq_ofNat_of_zero_le h0
  have hq : q < n := by omega
  have hsq : shp q = (ci + 5, nf) := by simpa using hsh
  have hty := cf.2.2.2.2.2 j (CF_len cf ht)
  have hnf := nar_fit (ad := ad) (Option.some.inj (ht.symm.trans hty.1)) hty.2 hp
  rw [List.map_cons, List.map_cons, rv_ref h0, Int.toNat_natCast]
  have hset : (wl dA ad ρ σ n).set q (ad q, .inr (ci, ((fts ci).mapIdx fun j t => rv ad (t, if t = 2 then ρ q j else σ q j)).set j (rv ad (t, x)))) = wl dA ad (ρ) (mup σ q j x) n := by
    rw [obj_set ht h2, ← cel_obj (dA := dA) hsq]
    exact wl_set fun i _ hi => cel_mup (ne_cast hi)
  refine va_putF (D := D) (ci := ci) (C := CN) (T := T) (N := N) (tys := TY dA) hx hb C.2.2.2.2.2.1 cf.2.1 ty cf.2.2.1 cf.2.2.2.1 C.2.2.2.2.1 K.1 h.1 h.2.1 h.2.2.1 q (by rw [wl_get hq, cel_obj hsq]) cf.1 j (CF_len cf ht) (C.2.2.2.2.2.1 _ hw) (fun _ h9 => h9) hfin (C.2.2.2.2.2.2.2.2.2.2.2 hin) hdc (cf.2.2.1 j (CF_len cf ht)) hnf.1 hnf.2 (by simpa using (List.getElem?_eq_some_iff.mp ht).1) hd (fun H1 locs1 hP hD hS => ?_)
  rw [hset] at hP hD
  exact hh p l e Rm s m args below meth c A H1 locs1 D dA ad0 ad ls C K ⟨hP, hD, hS, h.2.2.2.1, h.2.2.2.2.1, pok_mup h.2.2.2.2.2.1 hkn (by rw [lgt_obj hsh, show (fts ci).getD j 0 = t by simp [List.getD, ht]]; rcases hb1 with h9 | h9 <;> subst h9 <;> exact (cons_ok hs).1), h.2.2.2.2.2.2⟩ hl hL hn (cons_ok (cons_ok hs).2).2
theorem ev_putr {M : MD} {n0 n1 : Nat} {r : Option V × Mem × Mem} {pc n : Nat} {ρ σ : Mem} {L st : List V} {k x : Int} {j ci idx nf N : Nat} {CN : String} {T : u_T} {ty : Nat → FieldType} (hd : decode M.2.1 pc = .ok (.putfield idx, 3)) (cf : CF ci CN T N ty) (hw : Cond.fieldLink M.1 idx (T j).1 (T j).2.1 (T j).2.2.1 ∈ WS) (hsh : shp k.toNat = (ci + 5, nf)) (h0 : 0 ≤ k) (hkn : k < n) (ht : (fts ci)[j]? = some 2)  (hfin : (T j).2.2.2 = false) (hp : pfit 2 x (ty j)) (hh : Ev M n0 n1 r (pc + 3) (n) (mup ρ k j x) (σ) (L) (st)) : Ev M n0 n1 r (pc) (n) (ρ) (σ) (L) ((2, x) :: (2, k) :: st) := by
  intro p l e Rm s m args below meth c A H locs D dA ad0 ad ls C K h hl hL hn hs
  have hx := C.1
  have hb := C.2.1
  obtain ⟨q, rfl⟩ := Int.eq_ofNat_of_zero_le h0
  have hq : q < n := by omega
  have hsq : shp q = (ci + 5, nf) := by simpa using hsh
  have hty := cf.2.2.2.2.2 j (CF_len cf ht)
  have hnf := nar_fit (ad := ad) (Option.some.inj (ht.symm.trans hty.1)) hty.2 hp
  rw [List.map_cons, List.map_cons, rv_ref h0, Int.toNat_natCast]
  have hset : (wl dA ad ρ σ n).set q (ad q, .inr (ci, ((fts ci).mapIdx fun j t => rv ad (t, if t = 2 then ρ q j else σ q j)).set j (rv ad (2, x)))) = wl dA ad (mup ρ q j x) (σ) n := by
    rw [obj_setr ht, ← cel_obj (dA := dA) hsq]
    exact wl_set fun i _ hi => cel_mupr (ne_cast hi)
  refine va_put (D := D) (ci := ci) (C := CN) (T := T) (N := N) (tys := TY dA) hx hb C.2.2.2.2.2.1 cf.2.1 ty cf.2.2.1 cf.2.2.2.1 C.2.2.2.2.1 K.1 h.1 h.2.1 h.2.2.1 q (by rw [wl_get hq, cel_obj hsq]) cf.1 j (CF_len cf ht) (C.2.2.2.2.2.1 _ hw) (fun _ h9 => h9) hfin (cf.2.2.1 j (CF_len cf ht)) hnf.1 hnf.2 (by simpa using (List.getElem?_eq_some_iff.mp ht).1) hd (fun H1 locs1 hP hD hS => ?_)
  rw [hset] at hP hD
  exact hh p l e Rm s m args below meth c A H1 locs1 D dA ad0 ad ls C K ⟨hP, hD, hS, h.2.2.2.1, h.2.2.2.2.1, pok_mupr h.2.2.2.2.2.1 hkn (cons_ok hs).1, h.2.2.2.2.2.2⟩ hl hL hn (cons_ok (cons_ok hs).2).2
theorem ev_putrF {M : MD} {n0 n1 : Nat} {r : Option V × Mem × Mem} {pc n : Nat} {ρ σ : Mem} {L st : List V} {k x : Int} {j ci idx nf N : Nat} {CN : String} {T : u_T} {ty : Nat → FieldType} (hd : decode M.2.1 pc = .ok (.putfield idx, 3)) (cf : CF ci CN T N ty) (hw : Cond.fieldLink M.1 idx (T j).1 (T j).2.1 (T j).2.2.1 ∈ WS) (hsh : shp k.toNat = (ci + 5, nf)) (h0 : 0 ≤ k) (hkn : k < n) (ht : (fts ci)[j]? = some 2)  (hfin : (T j).2.2.2 = true) (hin : M.2.2.2.2.2.2.1 = true) (hdc : (T j).1 = M.1) (hp : pfit 2 x (ty j)) (hh : Ev M n0 n1 r (pc + 3) (n) (mup ρ k j x) (σ) (L) (st)) : Ev M n0 n1 r (pc) (n) (ρ) (σ) (L) ((2, x) :: (2, k) :: st) := by
  intro p l e Rm s m args below meth c A H locs D dA ad0 ad ls C K h hl hL hn hs
  have hx := C.1
  have hb := C.2.1
  obtain ⟨q, rfl⟩ := Int.eq_ofNat_of_zero_le h0
  have hq : q < n := by omega
  have hsq : shp q = (ci + 5, nf) := by simpa using hsh
  have hty := cf.2.2.2.2.2 j (CF_len cf ht)
  have hnf := nar_fit (ad := ad) (Option.some.inj (ht.symm.trans hty.1)) hty.2 hp
  rw [List.map_cons, List.map_cons, rv_ref h0, Int.toNat_natCast]
  have hset : (wl dA ad ρ σ n).set q (ad q, .inr (ci, ((fts ci).mapIdx fun j t => rv ad (t, if t = 2 then ρ q j else σ q j)).set j (rv ad (2, x)))) = wl dA ad (mup ρ q j x) (σ) n := by
    rw [obj_setr ht, ← cel_obj (dA := dA) hsq]
    exact wl_set fun i _ hi => cel_mupr (ne_cast hi)
  refine va_putF (D := D) (ci := ci) (C := CN) (T := T) (N := N) (tys := TY dA) hx hb C.2.2.2.2.2.1 cf.2.1 ty cf.2.2.1 cf.2.2.2.1 C.2.2.2.2.1 K.1 h.1 h.2.1 h.2.2.1 q (by rw [wl_get hq, cel_obj hsq]) cf.1 j (CF_len cf ht) (C.2.2.2.2.2.1 _ hw) (fun _ h9 => h9) hfin (C.2.2.2.2.2.2.2.2.2.2.2 hin) hdc (cf.2.2.1 j (CF_len cf ht)) hnf.1 hnf.2 (by simpa using (List.getElem?_eq_some_iff.mp ht).1) hd (fun H1 locs1 hP hD hS => ?_)
  rw [hset] at hP hD
  exact hh p l e Rm s m args below meth c A H1 locs1 D dA ad0 ad ls C K ⟨hP, hD, hS, h.2.2.2.1, h.2.2.2.2.1, pok_mupr h.2.2.2.2.2.1 hkn (cons_ok hs).1, h.2.2.2.2.2.2⟩ hl hL hn (cons_ok (cons_ok hs).2).2
theorem ev_iald {M : MD} {n0 n1 : Nat} {r : Option V × Mem × Mem} {pc n : Nat} {ρ σ : Mem} {L st : List V} {α : Type} {X : Option α} {q : α} {k i : Int} {N : Nat} (hd : decode M.2.1 pc = .ok (.iaload, 1)) (hsh : shp k.toNat = (0, N)) (h0 : 0 ≤ k) (hkn : k < n) (hf : chk (0 ≤ i ∧ i < N) X = some q) (hh : X = some q → Ev M n0 n1 r (pc + 1) (n) (ρ) (σ) (L) ((0, σ k i) :: st)) : Ev M n0 n1 r (pc) (n) (ρ) (σ) (L) ((0, i) :: (2, k) :: st) := by
  intro p l e Rm s m args below meth c A H locs D dA ad0 ad ls C K h hl hL hn hs
  have hx := C.1
  have hb := C.2.1
  obtain ⟨hi, hf⟩ := chk_of hf
  obtain ⟨z, rfl⟩ := Int.eq_ofNat_of_zero_le h0
  have hq : z < n := by omega
  have hsq : shp z = (0, N) := by simpa using hsh
  have hvp := in32_vp (cons_ok hs).1 hi.1 hi.2
  have h2 := hh hf p l e Rm s m args below meth c A H locs D dA ad0 ad ls C K h hl hL hn (ok_cons (by have := h.2.2.2.2.2.1.1 (z : Int) i; rw [lgt_arr hsh (by decide)] at this; exact this) (cons_ok (cons_ok hs).2).2)
  rw [List.map_cons, List.map_cons, rv_ref h0, Int.toNat_natCast]
  refine va_iald (D := D) (tys := TY dA) hx hb K.1 h.1 z 0 (by rw [wl_get hq, cel_0 hsq]) rfl hvp.1 hd ?_

  rw [hvp.2, Int.toNat_of_nonneg hi.1]
  exact h2
theorem ev_zald {M : MD} {n0 n1 : Nat} {r : Option V × Mem × Mem} {pc n : Nat} {ρ σ : Mem} {L st : List V} {α : Type} {X : Option α} {q : α} {k i : Int} {N : Nat} (hd : decode M.2.1 pc = .ok (.baload, 1)) (hsh : shp k.toNat = (2, N)) (h0 : 0 ≤ k) (hkn : k < n) (hf : chk (0 ≤ i ∧ i < N) X = some q) (hh : X = some q → Ev M n0 n1 r (pc + 1) (n) (ρ) (σ) (L) ((0, σ k i) :: st)) : Ev M n0 n1 r (pc) (n) (ρ) (σ) (L) ((0, i) :: (2, k) :: st) := by
  intro p l e Rm s m args below meth c A H locs D dA ad0 ad ls C K h hl hL hn hs
  have hx := C.1
  have hb := C.2.1
  obtain ⟨hi, hf⟩ := chk_of hf
  obtain ⟨z, rfl⟩ := Int.eq_ofNat_of_zero_le h0
  have hq : z < n := by omega
  have hsq : shp z = (2, N) := by simpa using hsh
  have hvp := in32_vp (cons_ok hs).1 hi.1 hi.2
  have h2 := hh hf p l e Rm s m args below meth c A H locs D dA ad0 ad ls C K h hl hL hn (ok_cons (by have := h.2.2.2.2.2.1.1 (z : Int) i; rw [lgt_arr hsh (by decide)] at this; exact this) (cons_ok (cons_ok hs).2).2)
  rw [List.map_cons, List.map_cons, rv_ref h0, Int.toNat_natCast]
  refine va_zald (D := D) (tys := TY dA) hx hb K.1 h.1 z 2 (by rw [wl_get hq, cel_2 hsq]) rfl hvp.1 hd ?_

  rw [hvp.2, Int.toNat_of_nonneg hi.1]
  exact h2
theorem ev_lald {M : MD} {n0 n1 : Nat} {r : Option V × Mem × Mem} {pc n : Nat} {ρ σ : Mem} {L st : List V} {α : Type} {X : Option α} {q : α} {k i : Int} {N : Nat} (hd : decode M.2.1 pc = .ok (.laload, 1)) (hsh : shp k.toNat = (1, N)) (h0 : 0 ≤ k) (hkn : k < n) (hf : chk (0 ≤ i ∧ i < N) X = some q) (hh : X = some q → Ev M n0 n1 r (pc + 1) (n) (ρ) (σ) (L) ((1, σ k i) :: st)) : Ev M n0 n1 r (pc) (n) (ρ) (σ) (L) ((0, i) :: (2, k) :: st) := by
  intro p l e Rm s m args below meth c A H locs D dA ad0 ad ls C K h hl hL hn hs
  have hx := C.1
  have hb := C.2.1
  obtain ⟨hi, hf⟩ := chk_of hf
  obtain ⟨z, rfl⟩ := Int.eq_ofNat_of_zero_le h0
  have hq : z < n := by omega
  have hsq : shp z = (1, N) := by simpa using hsh
  have hvp := in32_vp (cons_ok hs).1 hi.1 hi.2
  have h2 := hh hf p l e Rm s m args below meth c A H locs D dA ad0 ad ls C K h hl hL hn (ok_cons (by have := h.2.2.2.2.2.1.1 (z : Int) i; rw [lgt_arl hsh] at this; exact this) (cons_ok (cons_ok hs).2).2)
  rw [List.map_cons, List.map_cons, rv_ref h0, Int.toNat_natCast]
  refine va_lald (D := D) (tys := TY dA) hx hb K.1 h.1 z 1 (by rw [wl_get hq, cel_1 hsq]) rfl hvp.1 hd ?_

  rw [hvp.2, Int.toNat_of_nonneg hi.1]
  exact h2
theorem ev_aald {M : MD} {n0 n1 : Nat} {r : Option V × Mem × Mem} {pc n : Nat} {ρ σ : Mem} {L st : List V} {α : Type} {X : Option α} {q : α} {k i x : Int} {N : Nat} (hd : decode M.2.1 pc = .ok (.aaload, 1)) (hsh : shp k.toNat = (4, N)) (h0 : 0 ≤ k) (hkn : k < n) (hf : chk (0 ≤ i ∧ i < N) X = some q) (hv : ρ k i = x) (hh : X = some q → Ev M n0 n1 r (pc + 1) (n) (ρ) (σ) (L) ((2, x) :: st)) : Ev M n0 n1 r (pc) (n) (ρ) (σ) (L) ((0, i) :: (2, k) :: st) := by
  intro p l e Rm s m args below meth c A H locs D dA ad0 ad ls C K h hl hL hn hs
  have hx := C.1
  have hb := C.2.1
  subst hv
  obtain ⟨hi, hf⟩ := chk_of hf
  obtain ⟨z, rfl⟩ := Int.eq_ofNat_of_zero_le h0
  have hq : z < n := by omega
  have hsq : shp z = (4, N) := by simpa using hsh
  have hvp := in32_vp (cons_ok hs).1 hi.1 hi.2
  have h2 := hh hf p l e Rm s m args below meth c A H locs D dA ad0 ad ls C K h hl hL hn (ok_cons (h.2.2.2.2.2.1.2.1 (z : Int) i) (cons_ok (cons_ok hs).2).2)
  rw [List.map_cons, List.map_cons, rv_ref h0, Int.toNat_natCast]
  refine va_aldq (D := D) (tys := TY dA) (C := "ClashDays$Week") hx hb K.1 h.1 z 4 (by rw [wl_get hq, cel_4 hsq]) rfl hvp.1 hd ?_

  rw [hvp.2, Int.toNat_of_nonneg hi.1]
  have e : va_rf (if ρ (z : Int) i < 0 then none else some (ad (ρ (z : Int) i).toNat)) = rv ad (2, ρ (z : Int) i) := by
    show _ = if ρ (z : Int) i < 0 then Value.null else _
    split <;> rfl
  rw [e]
  exact h2
theorem ev_iast {M : MD} {n0 n1 : Nat} {r : Option V × Mem × Mem} {pc n : Nat} {ρ σ : Mem} {L st : List V} {α : Type} {X : Option α} {q : α} {k i x : Int} {N : Nat} (hd : decode M.2.1 pc = .ok (.iastore, 1)) (hsh : shp k.toNat = (0, N)) (h0 : 0 ≤ k) (hkn : k < n) (hf : chk (0 ≤ i ∧ i < N ) X = some q) (hh : X = some q → Ev M n0 n1 r (pc + 1) (n) (ρ) (mup σ k i x) (L) (st)) : Ev M n0 n1 r (pc) (n) (ρ) (σ) (L) ((0, x) :: (0, i) :: (2, k) :: st) := by
  intro p l e Rm s m args below meth c A H locs D dA ad0 ad ls C K h hl hL hn hs
  have hx := C.1
  have hb := C.2.1
  obtain ⟨hi, hf⟩ := chk_of hf
  obtain ⟨z, rfl⟩ := Int.eq_ofNat_of_zero_le h0
  have hq : z < n := by omega
  have hsq : shp z = (0, N) := by simpa using hsh
  have hvp := in32_vp (cons_ok (cons_ok hs).2).1 hi.1 hi.2
  rw [List.map_cons, List.map_cons, List.map_cons, rv_ref h0, Int.toNat_natCast]
  have hset : (wl dA ad ρ σ n).set z (ad z, .inl (dA 0, N, .inl (upd (fun j : Nat => Int32.ofInt (σ z j)) (Int32.ofInt i).toNatClampNeg (Int32.ofInt x)))) = wl dA ad ρ (mup σ z i x) n := by
    have e : .inl (upd (fun j : Nat => Int32.ofInt (σ z j)) (Int32.ofInt i).toNatClampNeg (Int32.ofInt x)) = ((.inl fun j : Nat => Int32.ofInt (mup σ z i x z j)) : (Nat → Int32) ⊕ (Nat → Int64) ⊕ (Nat → UInt32) ⊕ (Nat → UInt64) ⊕ (Nat → Option Nat)) := by
      congr 1
      funext j
      rw [hvp.2]
      show (if j = i.toNat then _ else _) = Int32.ofInt (if _ ∧ _ then _ else _)
      by_cases hj : j = i.toNat
      · have hj2 : (j : Int) = i := by omega
        rw [if_pos hj, if_pos ⟨rfl, hj2⟩]
      · have hj2 : ¬ (j : Int) = i := by omega
        rw [if_neg hj, if_neg (fun h9 => hj2 h9.2)]
    rw [e, ← cel_0 (dA := dA) (ad := ad) (ρ := ρ) hsq]
    exact wl_set fun a _ ha => cel_mup (ne_cast ha)
  refine va_iast (D := D) (tys := TY dA) hx hb K.1 h.1 h.2.1 h.2.2.1 z 0 (by rw [wl_get hq, cel_0 hsq]) rfl hvp.1 hd (fun H1 locs1 hP hD hS => ?_)
  rw [hset] at hP hD
  exact hh hf p l e Rm s m args below meth c A H1 locs1 D dA ad0 ad ls C K ⟨hP, hD, hS, h.2.2.2.1, h.2.2.2.2.1, pok_mup h.2.2.2.2.2.1 hkn (by rw [lgt_arr hsh (by decide)]; exact (cons_ok hs).1), h.2.2.2.2.2.2⟩ hl hL hn (cons_ok (cons_ok (cons_ok hs).2).2).2
theorem ev_zast {M : MD} {n0 n1 : Nat} {r : Option V × Mem × Mem} {pc n : Nat} {ρ σ : Mem} {L st : List V} {α : Type} {X : Option α} {q : α} {k i x : Int} {N : Nat} (hd : decode M.2.1 pc = .ok (.bastore, 1)) (hsh : shp k.toNat = (2, N)) (h0 : 0 ≤ k) (hkn : k < n) (hf : chk (0 ≤ i ∧ i < N ∧ (x = 0 ∨ x = 1)) X = some q) (hh : X = some q → Ev M n0 n1 r (pc + 1) (n) (ρ) (mup σ k i x) (L) (st)) : Ev M n0 n1 r (pc) (n) (ρ) (σ) (L) ((0, x) :: (0, i) :: (2, k) :: st) := by
  intro p l e Rm s m args below meth c A H locs D dA ad0 ad ls C K h hl hL hn hs
  have hx := C.1
  have hb := C.2.1
  obtain ⟨hi, hf⟩ := chk_of hf
  obtain ⟨z, rfl⟩ := Int.eq_ofNat_of_zero_le h0
  have hq : z < n := by omega
  have hsq : shp z = (2, N) := by simpa using hsh
  have hnar : vp_nar .boolean (Int32.ofInt x) = Int32.ofInt x := by rcases hi.2.2 with h9 | h9 <;> subst h9 <;> decide
  have hvp := in32_vp (cons_ok (cons_ok hs).2).1 hi.1 hi.2.1
  rw [List.map_cons, List.map_cons, List.map_cons, rv_ref h0, Int.toNat_natCast]
  have hset : (wl dA ad ρ σ n).set z (ad z, .inl (dA 2, N, .inl (upd (fun j : Nat => Int32.ofInt (σ z j)) (Int32.ofInt i).toNatClampNeg (Int32.ofInt x)))) = wl dA ad ρ (mup σ z i x) n := by
    have e : .inl (upd (fun j : Nat => Int32.ofInt (σ z j)) (Int32.ofInt i).toNatClampNeg (Int32.ofInt x)) = ((.inl fun j : Nat => Int32.ofInt (mup σ z i x z j)) : (Nat → Int32) ⊕ (Nat → Int64) ⊕ (Nat → UInt32) ⊕ (Nat → UInt64) ⊕ (Nat → Option Nat)) := by
      congr 1
      funext j
      rw [hvp.2]
      show (if j = i.toNat then _ else _) = Int32.ofInt (if _ ∧ _ then _ else _)
      by_cases hj : j = i.toNat
      · have hj2 : (j : Int) = i := by omega
        rw [if_pos hj, if_pos ⟨rfl, hj2⟩]
      · have hj2 : ¬ (j : Int) = i := by omega
        rw [if_neg hj, if_neg (fun h9 => hj2 h9.2)]
    rw [e, ← cel_2 (dA := dA) (ad := ad) (ρ := ρ) hsq]
    exact wl_set fun a _ ha => cel_mup (ne_cast ha)
  refine va_zast (D := D) (tys := TY dA) hx hb K.1 h.1 h.2.1 h.2.2.1 z 2 (by rw [wl_get hq, cel_2 hsq]) rfl hvp.1 hd (fun H1 locs1 hP hD hS => ?_)
  rw [hnar] at hP hD
  rw [hset] at hP hD
  exact hh hf p l e Rm s m args below meth c A H1 locs1 D dA ad0 ad ls C K ⟨hP, hD, hS, h.2.2.2.1, h.2.2.2.2.1, pok_mup h.2.2.2.2.2.1 hkn (by rw [lgt_arr hsh (by decide)]; exact (cons_ok hs).1), h.2.2.2.2.2.2⟩ hl hL hn (cons_ok (cons_ok (cons_ok hs).2).2).2
theorem ev_last {M : MD} {n0 n1 : Nat} {r : Option V × Mem × Mem} {pc n : Nat} {ρ σ : Mem} {L st : List V} {α : Type} {X : Option α} {q : α} {k i x : Int} {N : Nat} (hd : decode M.2.1 pc = .ok (.lastore, 1)) (hsh : shp k.toNat = (1, N)) (h0 : 0 ≤ k) (hkn : k < n) (hf : chk (0 ≤ i ∧ i < N ) X = some q) (hh : X = some q → Ev M n0 n1 r (pc + 1) (n) (ρ) (mup σ k i x) (L) (st)) : Ev M n0 n1 r (pc) (n) (ρ) (σ) (L) ((1, x) :: (0, i) :: (2, k) :: st) := by
  intro p l e Rm s m args below meth c A H locs D dA ad0 ad ls C K h hl hL hn hs
  have hx := C.1
  have hb := C.2.1
  obtain ⟨hi, hf⟩ := chk_of hf
  obtain ⟨z, rfl⟩ := Int.eq_ofNat_of_zero_le h0
  have hq : z < n := by omega
  have hsq : shp z = (1, N) := by simpa using hsh
  have hvp := in32_vp (cons_ok (cons_ok hs).2).1 hi.1 hi.2
  rw [List.map_cons, List.map_cons, List.map_cons, rv_ref h0, Int.toNat_natCast]
  have hset : (wl dA ad ρ σ n).set z (ad z, .inl (dA 1, N, .inr (.inl (vp_updL (fun j : Nat => Int64.ofInt (σ z j)) (Int32.ofInt i).toNatClampNeg (Int64.ofInt x))))) = wl dA ad ρ (mup σ z i x) n := by
    have e : .inr (.inl (vp_updL (fun j : Nat => Int64.ofInt (σ z j)) (Int32.ofInt i).toNatClampNeg (Int64.ofInt x))) = ((.inr (.inl fun j : Nat => Int64.ofInt (mup σ z i x z j))) : (Nat → Int32) ⊕ (Nat → Int64) ⊕ (Nat → UInt32) ⊕ (Nat → UInt64) ⊕ (Nat → Option Nat)) := by
      congr 2
      funext j
      rw [hvp.2]
      show (if j = i.toNat then _ else _) = Int64.ofInt (if _ ∧ _ then _ else _)
      by_cases hj : j = i.toNat
      · have hj2 : (j : Int) = i := by omega
        rw [if_pos hj, if_pos ⟨rfl, hj2⟩]
      · have hj2 : ¬ (j : Int) = i := by omega
        rw [if_neg hj, if_neg (fun h9 => hj2 h9.2)]
    rw [e, ← cel_1 (dA := dA) (ad := ad) (ρ := ρ) hsq]
    exact wl_set fun a _ ha => cel_mup (ne_cast ha)
  refine va_last (D := D) (tys := TY dA) hx hb K.1 h.1 h.2.1 h.2.2.1 z 1 (by rw [wl_get hq, cel_1 hsq]) rfl hvp.1 hd (fun H1 locs1 hP hD hS => ?_)
  rw [hset] at hP hD
  exact hh hf p l e Rm s m args below meth c A H1 locs1 D dA ad0 ad ls C K ⟨hP, hD, hS, h.2.2.2.1, h.2.2.2.2.1, pok_mup h.2.2.2.2.2.1 hkn (by rw [lgt_arl hsh]; exact (cons_ok hs).1), h.2.2.2.2.2.2⟩ hl hL hn (cons_ok (cons_ok (cons_ok hs).2).2).2
theorem ev_alen {M : MD} {n0 n1 : Nat} {r : Option V × Mem × Mem} {pc n : Nat} {ρ σ : Mem} {L st : List V} {k : Int} {N d : Nat} (hd : decode M.2.1 pc = .ok (.arraylength, 1)) (hsh : shp k.toNat = (d, N)) (hd3 : d < 2) (hN : (N : Int) ≤ 2147483647) (h0 : 0 ≤ k) (hkn : k < n) (hh : Ev M n0 n1 r (pc + 1) (n) (ρ) (σ) (L) ((0, (N : Int)) :: st)) : Ev M n0 n1 r (pc) (n) (ρ) (σ) (L) ((2, k) :: st) := by
  intro p l e Rm s m args below meth c A H locs D dA ad0 ad ls C K h hl hL hn hs
  have hx := C.1
  have hb := C.2.1
  obtain ⟨z, rfl⟩ := Int.eq_ofNat_of_zero_le h0
  have hq : z < n := by omega
  have hsq : shp z = (d, N) := by simpa using hsh
  rw [List.map_cons, rv_ref h0, Int.toNat_natCast]
  have h2 := hh p l e Rm s m args below meth c A H locs D dA ad0 ad ls C K h hl hL hn (ok_cons (show in32 (N : Int) from ⟨by omega, hN⟩) (cons_ok hs).2)
  match d, hd3 with
  | 0, _ => exact va_alen (D := D) (tys := TY dA) (x := (N, .inl fun j => Int32.ofInt (σ z j))) (v := Int32.ofInt (N : Int)) hx hb K.1 h.1 z 0 (by rw [wl_get hq, cel_0 hsq]) rfl rfl hd h2
  | 1, _ => exact va_alen (D := D) (tys := TY dA) (x := (N, .inr (.inl fun j => Int64.ofInt (σ z j)))) (v := Int32.ofInt (N : Int)) hx hb K.1 h.1 z 1 (by rw [wl_get hq, cel_1 hsq]) rfl rfl hd h2
theorem ev_copyi {M : MD} {n0 n1 : Nat} {r : Option V × Mem × Mem} {pc n : Nat} {ρ σ : Mem} {L st : List V} {α : Type} {X : Option α} {q : α} {a i b j z : Int} {Na Nb idx : Nat} (hd : decode M.2.1 pc = .ok (.invokestatic idx, 3)) (hw : Cond.methodLink M.1 idx arraycopyName ∈ WS) (hw2 : Cond.native arraycopyName ∈ WS ∧ Cond.static arraycopyName ∈ WS ∧ Cond.initialized "java/lang/System" ∈ WS) (hsa : shp a.toNat = (0, Na)) (ha0 : 0 ≤ a) (han : a < n) (hsb : shp b.toNat = (0, Nb)) (hb0 : 0 ≤ b) (hbn : b < n) (hM : 1 ≤ M.2.2.2.2.1 ∧ 8 + (nativeFrameWords "java/lang/System" "arraycopy" 5 + 11) ≤ M.2.2.2.2.2.1) (hst : st.length ≤ 4) (hf : chk (0 ≤ i ∧ 0 ≤ j ∧ 0 ≤ z ∧ i + z ≤ Na ∧ j + z ≤ Nb) X = some q) (hh : X = some q → Ev M n0 n1 r (pc + 3) (n) (ρ) (mcp σ a i b j z) (L) (st)) : Ev M n0 n1 r (pc) (n) (ρ) (σ) (L) ((0, z) :: (0, j) :: (2, b) :: (0, i) :: (2, a) :: st) := by
  intro p l e Rm s m args below meth c A H locs D dA ad0 ad ls C K h hl hL hn hs
  have hx := C.1
  have hb := C.2.1
  obtain ⟨hi, hf⟩ := chk_of hf
  obtain ⟨a, rfl⟩ := Int.eq_ofNat_of_zero_le ha0
  obtain ⟨b, rfl⟩ := Int.eq_ofNat_of_zero_le hb0
  have hqa : a < n := by omega
  have hqb : b < n := by omega
  have hsa' : shp a = (0, Na) := by simpa using hsa
  have hsb' : shp b = (0, Nb) := by simpa using hsb
  have sz := (cons_ok hs).1
  have sj := (cons_ok (cons_ok hs).2).1
  have si := (cons_ok (cons_ok (cons_ok (cons_ok hs).2).2).2).1
  have e1 : (Int32.ofInt i).toNatClampNeg = i.toNat := by show (Int32.ofInt i).toInt.toNat = _; rw [oi32 si]
  have e2 : (Int32.ofInt j).toNatClampNeg = j.toNat := by show (Int32.ofInt j).toInt.toNat = _; rw [oi32 sj]
  have e3 : (Int32.ofInt z).toNatClampNeg = z.toNat := by show (Int32.ofInt z).toInt.toNat = _; rw [oi32 sz]
  have ng : ∀ x : Int, in32 x → 0 ≤ x → ¬ Int32.ofInt x < 0 := fun x h1 h2 h3 => by
    have := (lt32 h1 in32_0).mp h3
    omega
  simp only [List.map_cons, rv_ref ha0, rv_ref hb0, Int.toNat_natCast]
  have hset : (wl dA ad ρ σ n).set b (ad b, .inl (dA 0, Nb, .inl (va_cpy (fun y : Nat => Int32.ofInt (σ a y)) (fun y : Nat => Int32.ofInt (σ b y)) (Int32.ofInt i).toNatClampNeg (Int32.ofInt j).toNatClampNeg (Int32.ofInt z).toNatClampNeg))) = wl dA ad ρ (mcp σ a i b j z) n := by
    have e : .inl (va_cpy (fun y : Nat => Int32.ofInt (σ a y)) (fun y : Nat => Int32.ofInt (σ b y)) (Int32.ofInt i).toNatClampNeg (Int32.ofInt j).toNatClampNeg (Int32.ofInt z).toNatClampNeg) = ((.inl fun y : Nat => Int32.ofInt (mcp σ a i b j z b y)) : (Nat → Int32) ⊕ (Nat → Int64) ⊕ (Nat → UInt32) ⊕ (Nat → UInt64) ⊕ (Nat → Option Nat)) := by
      congr 1
      funext y
      rw [e1, e2, e3]
      unfold va_cpy mcp
      by_cases hy : j.toNat ≤ y ∧ y < j.toNat + z.toNat
      · rw [if_pos hy, if_pos ⟨rfl, by omega, by omega⟩]
        have : ((i.toNat + (y - j.toNat) : Nat) : Int) = i + ((y : Int) - j) := by omega
        rw [← this]
      · rw [if_neg hy, if_neg (by omega)]
    rw [e, ← cel_0 (dA := dA) (ad := ad) (ρ := ρ) hsb']
    exact wl_set fun x _ hx9 => cel_mcp (ne_cast hx9)
  have hsum : ((List.map (rv ad) st).map fun v => v.category).sum ≤ 8 := by
    have : ∀ l : List V, ((List.map (rv ad) l).map fun v => v.category).sum ≤ 2 * l.length := by
      intro l
      induction l with
      | nil => simp
      | cons v l ih =>
        simp only [List.map_cons, List.sum_cons, List.length_cons]
        have : (rv ad v).category ≤ 2 := by rw [rv_cat]; split <;> omega
        omega
    have := this st
    omega
  refine va_copyi (D := D) (tys := TY dA) (ty := .int) hx hb (by rw [C.2.2.2.1]; exact hl.1.symm) C.2.2.2.2.1 (C.2.2.2.2.2.1 _ hw) (C.2.2.2.2.2.1 _ hw2.1) (C.2.2.2.2.2.1 _ hw2.2.1) (C.2.2.2.2.2.1 _ hw2.2.2) K.1 h.1 h.2.1 h.2.2.1 a b 0 0 (by rw [wl_get hqa, cel_0 hsa']) (by rw [wl_get hqb, cel_0 hsb']) rfl rfl rfl (ng _ si hi.1) (ng _ sj hi.2.1) (ng _ sz hi.2.2.1) (by rw [e1, e3]; omega) (by rw [e2, e3]; omega) (fun _ _ => rfl) (by have := C.2.2.2.2.2.2.2.1; omega) (by have := C.2.2.2.2.2.2.2.2.1; omega) hd (fun H1 locs1 hP hD hS => ?_)
  rw [hset] at hP hD
  refine hh hf p l e Rm s m args below meth c A H1 locs1 D dA ad0 ad ls C K ⟨hP, hD, hS, h.2.2.2.1, h.2.2.2.2.1, ?_, h.2.2.2.2.2.2⟩ hl hL hn (cons_ok (cons_ok (cons_ok (cons_ok (cons_ok hs).2).2).2).2).2
  have hp := h.2.2.2.2.2.1
  refine ⟨fun x y => ?_, hp.2.1, fun x y hxy => ⟨(hp.2.2 x y hxy).1, ?_⟩⟩
  · unfold mcp
    by_cases h9 : x = b ∧ j ≤ y ∧ y < j + z
    · rw [if_pos h9]
      have := hp.1 a (i + (y - j))
      rw [lgt_arr hsa (by decide)] at this
      rw [h9.1, lgt_arr hsb (by decide)]
      exact this
    · rw [if_neg h9]
      exact hp.1 x y
  · unfold mcp
    rw [if_neg (by omega)]
    exact (hp.2.2 x y hxy).2
theorem ev_copyl {M : MD} {n0 n1 : Nat} {r : Option V × Mem × Mem} {pc n : Nat} {ρ σ : Mem} {L st : List V} {α : Type} {X : Option α} {q : α} {a i b j z : Int} {Na Nb idx : Nat} (hd : decode M.2.1 pc = .ok (.invokestatic idx, 3)) (hw : Cond.methodLink M.1 idx arraycopyName ∈ WS) (hw2 : Cond.native arraycopyName ∈ WS ∧ Cond.static arraycopyName ∈ WS ∧ Cond.initialized "java/lang/System" ∈ WS) (hsa : shp a.toNat = (1, Na)) (ha0 : 0 ≤ a) (han : a < n) (hsb : shp b.toNat = (1, Nb)) (hb0 : 0 ≤ b) (hbn : b < n) (hM : 1 ≤ M.2.2.2.2.1 ∧ 8 + (nativeFrameWords "java/lang/System" "arraycopy" 5 + 11) ≤ M.2.2.2.2.2.1) (hst : st.length ≤ 4) (hf : chk (0 ≤ i ∧ 0 ≤ j ∧ 0 ≤ z ∧ i + z ≤ Na ∧ j + z ≤ Nb) X = some q) (hh : X = some q → Ev M n0 n1 r (pc + 3) (n) (ρ) (mcp σ a i b j z) (L) (st)) : Ev M n0 n1 r (pc) (n) (ρ) (σ) (L) ((0, z) :: (0, j) :: (2, b) :: (0, i) :: (2, a) :: st) := by
  intro p l e Rm s m args below meth c A H locs D dA ad0 ad ls C K h hl hL hn hs
  have hx := C.1
  have hb := C.2.1
  obtain ⟨hi, hf⟩ := chk_of hf
  obtain ⟨a, rfl⟩ := Int.eq_ofNat_of_zero_le ha0
  obtain ⟨b, rfl⟩ := Int.eq_ofNat_of_zero_le hb0
  have hqa : a < n := by omega
  have hqb : b < n := by omega
  have hsa' : shp a = (1, Na) := by simpa using hsa
  have hsb' : shp b = (1, Nb) := by simpa using hsb
  have sz := (cons_ok hs).1
  have sj := (cons_ok (cons_ok hs).2).1
  have si := (cons_ok (cons_ok (cons_ok (cons_ok hs).2).2).2).1
  have e1 : (Int32.ofInt i).toNatClampNeg = i.toNat := by show (Int32.ofInt i).toInt.toNat = _; rw [oi32 si]
  have e2 : (Int32.ofInt j).toNatClampNeg = j.toNat := by show (Int32.ofInt j).toInt.toNat = _; rw [oi32 sj]
  have e3 : (Int32.ofInt z).toNatClampNeg = z.toNat := by show (Int32.ofInt z).toInt.toNat = _; rw [oi32 sz]
  have ng : ∀ x : Int, in32 x → 0 ≤ x → ¬ Int32.ofInt x < 0 := fun x h1 h2 h3 => by
    have := (lt32 h1 in32_0).mp h3
    omega
  simp only [List.map_cons, rv_ref ha0, rv_ref hb0, Int.toNat_natCast]
  have hset : (wl dA ad ρ σ n).set b (ad b, .inl (dA 1, Nb, .inr (.inl (va_cpy (fun y : Nat => Int64.ofInt (σ a y)) (fun y : Nat => Int64.ofInt (σ b y)) (Int32.ofInt i).toNatClampNeg (Int32.ofInt j).toNatClampNeg (Int32.ofInt z).toNatClampNeg)))) = wl dA ad ρ (mcp σ a i b j z) n := by
    have e : .inr (.inl (va_cpy (fun y : Nat => Int64.ofInt (σ a y)) (fun y : Nat => Int64.ofInt (σ b y)) (Int32.ofInt i).toNatClampNeg (Int32.ofInt j).toNatClampNeg (Int32.ofInt z).toNatClampNeg)) = ((.inr (.inl fun y : Nat => Int64.ofInt (mcp σ a i b j z b y))) : (Nat → Int32) ⊕ (Nat → Int64) ⊕ (Nat → UInt32) ⊕ (Nat → UInt64) ⊕ (Nat → Option Nat)) := by
      congr 2
      funext y
      rw [e1, e2, e3]
      unfold va_cpy mcp
      by_cases hy : j.toNat ≤ y ∧ y < j.toNat + z.toNat
      · rw [if_pos hy, if_pos ⟨rfl, by omega, by omega⟩]
        have : ((i.toNat + (y - j.toNat) : Nat) : Int) = i + ((y : Int) - j) := by omega
        rw [← this]
      · rw [if_neg hy, if_neg (by omega)]
    rw [e, ← cel_1 (dA := dA) (ad := ad) (ρ := ρ) hsb']
    exact wl_set fun x _ hx9 => cel_mcp (ne_cast hx9)
  have hsum : ((List.map (rv ad) st).map fun v => v.category).sum ≤ 8 := by
    have : ∀ l : List V, ((List.map (rv ad) l).map fun v => v.category).sum ≤ 2 * l.length := by
      intro l
      induction l with
      | nil => simp
      | cons v l ih =>
        simp only [List.map_cons, List.sum_cons, List.length_cons]
        have : (rv ad v).category ≤ 2 := by rw [rv_cat]; split <;> omega
        omega
    have := this st
    omega
  refine va_copyl (D := D) (tys := TY dA) (ty := .long) hx hb (by rw [C.2.2.2.1]; exact hl.1.symm) C.2.2.2.2.1 (C.2.2.2.2.2.1 _ hw) (C.2.2.2.2.2.1 _ hw2.1) (C.2.2.2.2.2.1 _ hw2.2.1) (C.2.2.2.2.2.1 _ hw2.2.2) K.1 h.1 h.2.1 h.2.2.1 a b 1 1 (by rw [wl_get hqa, cel_1 hsa']) (by rw [wl_get hqb, cel_1 hsb']) rfl rfl rfl (ng _ si hi.1) (ng _ sj hi.2.1) (ng _ sz hi.2.2.1) (by rw [e1, e3]; omega) (by rw [e2, e3]; omega) (fun _ _ => rfl) (by have := C.2.2.2.2.2.2.2.1; omega) (by have := C.2.2.2.2.2.2.2.2.1; omega) hd (fun H1 locs1 hP hD hS => ?_)
  rw [hset] at hP hD
  refine hh hf p l e Rm s m args below meth c A H1 locs1 D dA ad0 ad ls C K ⟨hP, hD, hS, h.2.2.2.1, h.2.2.2.2.1, ?_, h.2.2.2.2.2.2⟩ hl hL hn (cons_ok (cons_ok (cons_ok (cons_ok (cons_ok hs).2).2).2).2).2
  have hp := h.2.2.2.2.2.1
  refine ⟨fun x y => ?_, hp.2.1, fun x y hxy => ⟨(hp.2.2 x y hxy).1, ?_⟩⟩
  · unfold mcp
    by_cases h9 : x = b ∧ j ≤ y ∧ y < j + z
    · rw [if_pos h9]
      have := hp.1 a (i + (y - j))
      rw [lgt_arl hsa] at this
      rw [h9.1, lgt_arl hsb]
      exact this
    · rw [if_neg h9]
      exact hp.1 x y
  · unfold mcp
    rw [if_neg (by omega)]
    exact (hp.2.2 x y hxy).2
end
section
theorem rv_agree {ad ad' : Nat → Nat} {n : Nat} {v : V} (h1 : ∀ k, k < n → ad' k = ad k) (h2 : ∀ k, 100000 ≤ k → ad' k = ad k) (hv : okv n v) : rv ad' v = rv ad v := by
  obtain ⟨t, x⟩ := v
  match t with
  | 0 => rfl
  | 1 => rfl
  | 2 =>
    show (if x < 0 then Value.null else _) = (if x < 0 then Value.null else _)
    by_cases hx : x < 0
    · rw [if_pos hx, if_pos hx]
    · rw [if_neg hx, if_neg hx, h1 x.toNat (by have := hv.2; omega)]
  | 3 => show Value.ref _ = Value.ref _; rw [h2 _ (by omega)]
  | t + 4 => show (if ad' 500000 = 0 then Value.null else Value.ref (ad' 500001)) = _; rw [h2 500000 (by omega), h2 500001 (by omega)]; rfl
theorem map_agree {ad ad' : Nat → Nat} {n : Nat} {st : List V} (h1 : ∀ k, k < n → ad' k = ad k) (h2 : ∀ k, 100000 ≤ k → ad' k = ad k) (hv : ∀ v ∈ st, okv n v) : st.map (rv ad') = st.map (rv ad) := List.map_congr_left fun v h => rv_agree h1 h2 (hv v h)
theorem lz_agree {ad ad' : Nat → Nat} {n : Nat} (h1 : ∀ k, k < n → ad' k = ad k) (h2 : ∀ k, 100000 ≤ k → ad' k = ad k) : ∀ (L : List V) (j : Nat), (∀ v ∈ L, okv n v) → lz ad' j L = lz ad j L := by
  intro L
  induction L with
  | nil => intro j _; rfl
  | cons v L ih =>
    intro j hv
    unfold lz
    rw [ih (j + 1) (cons_ok hv).2, rv_agree h1 h2 (cons_ok hv).1]
theorem okv_mono {n n' : Nat} (h : n ≤ n') {v : V} (hv : okv n v) : okv n' v := by
  obtain ⟨t, x⟩ := v
  match t with
  | 0 => exact hv
  | 1 => exact hv
  | 2 => exact ⟨hv.1, by have := hv.2; show x < (n' : Int); omega⟩
  | t + 3 => trivial
theorem szL_mono {a b : Nat} (h : a ≤ b) : szL a ≤ szL b := by
  induction b with
  | zero => have : a = 0 := by omega
            subst this; exact Nat.le_refl _
  | succ b ih =>
    by_cases hb : a = b + 1
    · subst hb; exact Nat.le_refl _
    · have := ih (by omega)
      show szL a ≤ szL b + (shp b).2
      omega
theorem Sk.warm {ad : Nat → Nat} {A : Nat → Prop} {s U : State} {H : Heap} (hW : s.WarmedH U.vm) (h : Sk ad A s H) : Sk ad A U H := ⟨h.1.moved hW.alike, fun q hq => va_Nw.warmM hW (h.2 q hq)⟩
theorem Sk.same {ad : Nat → Nat} {A : Nat → Prop} {u U : State} {H : Heap} (hv : U.vm = u.vm) (h : Sk ad A u H) : Sk ad A U H := ⟨h.1.moved (by rw [hv]; exact Vm.Alike.refl _), fun q hq => va_Nw.same rfl hv.symm (h.2 q hq)⟩
theorem Sk.ad {ad ad' : Nat → Nat} {A : Nat → Prop} {U : State} {H : Heap} (_h2 : ∀ k, 100000 ≤ k → ad' k = ad k) (h : Sk ad A U H) : Sk ad' A U H := h
theorem Sk.kept {ad : Nat → Nat} {A B : Nat → Prop} {U : State} {H H1 : Heap} (h : Sk ad A U H) (_hq : ∀ a : Nat, a < H.size → ¬ A a → H1[a]? = H[a]?) (_hAB : ∀ q, B q → A q) : Sk ad B U H1 := h
def Pm (n0 : Nat) (av : List V) (ρ σ : Mem) (D : va_G) (dA : Nat → ClassId) (ad : Nat → Nat) (sz : Nat) : Array Value → State → Prop := va_Pc (av.map (rv ad)) fun U => U.heap.size = sz ∧ va_P D vwCl (wl dA ad ρ σ n0) U.heap ∧ va_D (fun _ => True) (wl dA ad ρ σ n0) ∧ va_K D vwCl (TY dA) U ∧ Sk ad (Af n0 ad sz) U U.heap
/-- THE CONTRACT: called with these arguments and this memory, the method answers r and leaves r's memory -/
def Ms (y : MethodName) (M : MD) (n0 n1 : Nat) (av : List V) (ρ σ : Mem) (r : Option V × Mem × Mem) : Prop := pok n0 ρ σ → n0 ≤ n1 → n1 ≤ 90000 → (∀ v ∈ av, okv n0 v) → ∀ (l : Launch) (D : va_G) (dA : Nat → ClassId) (ad : Nat → Nat) (sz : Nat), Met l y (Cond.code y M.2.1 M.2.2.1 M.2.2.2.1 :: WS) ({ frames := M.2.2.2.2.1, cells := n1 - n0, slots := szL n1 - szL n0, locals := M.2.2.2.2.2.1 }) (Pm n0 av ρ σ D dA ad sz) (Qm n0 n1 r D dA ad (Af n0 ad sz)) (n1 - n0) (szL n1 - szL n0) (Af n0 ad sz)
theorem Pm_blind {n0 : Nat} {av : List V} {ρ σ : Mem} {D : va_G} {dA : Nat → ClassId} {ad : Nat → Nat} {sz : Nat} : FrameBlind (Pm n0 av ρ σ D dA ad sz) := fun a U g mk q => by
  obtain ⟨q0, q1, qP, qD, qK, qS⟩ := q
  exact ⟨q0, q1, qP, qD, va_K.moved (u := U) (U := U.calling g mk a) (Vm.Alike.refl U.vm) qK, Sk.same (u := U) rfl qS⟩
def lav : List V → List V
  | [] => []
  | v :: av => if v.1 = 1 then v :: (9, 0) :: lav av else v :: lav av
theorem lav_len {ad : Nat → Nat} : ∀ av : List V, (lg_sl (av.map (rv ad))).length = (lav av).length := by
  intro av
  induction av with
  | nil => rfl
  | cons v av ih =>
    unfold lav
    rw [List.map_cons]
    unfold lg_sl at ih ⊢
    rw [List.flatMap_cons, List.length_append, ih, rv_cat]
    by_cases h : v.1 = 1
    · simp [h]; omega
    · simp [h]; omega
theorem lz_pad {ad : Nat → Nat} (k : Nat) : ∀ j, lz ad j (List.replicate k (9, 0)) = [] := by
  induction k with
  | zero => intro j; rfl
  | succ k ih => intro j; rw [List.replicate_succ]; unfold lz; rw [if_pos rfl]; exact ih _
theorem lz_lav {ad : Nat → Nat} {k : Nat} : ∀ (av : List V) (j : Nat), (∀ v ∈ av, v.1 ≠ 9) → lz ad j (lav av ++ List.replicate k (9, 0)) = lv_args j (av.map (rv ad)) := by
  intro av
  induction av with
  | nil => intro j _; exact lz_pad k j
  | cons v av ih =>
    intro j h9
    have hv := h9 v List.mem_cons_self
    have ht := fun j => ih j (fun u hu => h9 u (List.mem_cons_of_mem _ hu))
    unfold lav
    rw [List.map_cons]
    unfold lv_args
    rw [rv_cat]
    by_cases h : v.1 = 1
    · rw [if_pos h, if_pos (by rw [if_pos h])]
      rw [List.cons_append, List.cons_append]
      unfold lz
      rw [if_neg hv]
      unfold lz
      rw [if_pos rfl, ht]
    · rw [if_neg h, if_neg (by rw [if_neg h]; decide)]
      rw [List.cons_append]
      unfold lz
      rw [if_neg hv, ht]
theorem lav_ok {n : Nat} : ∀ av : List V, (∀ v ∈ av, okv n v) → ∀ v ∈ lav av, okv n v := by
  intro av
  induction av with
  | nil => intro _ v hv; cases hv
  | cons u av ih =>
    intro h v hv
    have ht := ih (cons_ok h).2
    unfold lav at hv
    split at hv
    · rcases List.mem_cons.mp hv with q | q
      · rw [q]; exact (cons_ok h).1
      · rcases List.mem_cons.mp q with q | q
        · rw [q]; trivial
        · exact ht v q
    · rcases List.mem_cons.mp hv with q | q
      · rw [q]; exact (cons_ok h).1
      · exact ht v q
theorem Ms.of {y : MethodName} {M : MD} {n0 n1 : Nat} {av : List V} {ρ σ : Mem} {r : Option V × Mem × Mem} (k : Nat) (hy : plainName y.cls = true) (hown : y.cls = M.1) (hinit : M.2.2.2.2.2.2.1 = true → y.name = "<init>") (hex : ∀ s A ad, M.2.2.2.2.2.2.2 s A ad) (h9 : av.all (fun v => v.1 != 9) = true) (hlen : (lav av).length + k = M.2.2.1) (h : Ev M n0 n1 r 0 n0 ρ σ (lav av ++ List.replicate k (9, 0)) []) : Ms y M n0 n1 av ρ σ r := by
  intro hp h01 h90 hav l D dA ad sz
  refine Met.ofW (cc := M.2.1) (maxL := M.2.2.1) (ret := M.2.2.2.1) hy rfl ?_
  intro p e s m args below meth c s₁ B hml hv
  obtain ⟨rfl, hsz, hP, hD0, hK, hSk⟩ := hv
  have hts := atoms_spec (ws := Cond.code y M.2.1 M.2.2.1 M.2.2.2.1 :: WS) B.pre
  have ho : s.vm.findClass M.1 = some m.cls := by rw [← hown]; exact findClass_of_methodNamed B.named
  subst hsz
  have h9' : ∀ v ∈ av, v.1 ≠ 9 := fun v hv => by have := List.all_eq_true.mp h9 v hv; simpa using this
  have hl := lv_entry (av.map (rv ad)) (n := M.2.2.1) (by rw [lav_len]; omega)
  rw [lg_entry_eq]
  generalize (lg_sl (av.map (rv ad)) ++ List.replicate (M.2.2.1 - (lg_sl (av.map (rv ad))).length) Slot.unset).toArray = ls at hl ⊢
  rw [← lz_lav (k := k) av 0 h9'] at hl
  have hD : va_D (Af n0 ad s.heap.size) (wl dA ad ρ σ n0) := ⟨hD0.1, fun i q hq => by
    have hi : i < n0 := by have := (List.getElem?_eq_some_iff.mp hq).1; simpa [wl] using this
    rw [wl_get hi] at hq
    cases hq
    exact Or.inl ⟨i, hi, rfl⟩⟩
  have := h p l e (headSpec (Cond.code y M.2.1 M.2.2.1 M.2.2.2.1 :: WS) { frames := M.2.2.2.2.1, cells := n1 - n0, slots := szL n1 - szL n0, locals := M.2.2.2.2.2.1 }).room s m (av.map (rv ad)).toArray below meth c (Af n0 ad s.heap.size) s.heap [] D dA ad ad ls
    ⟨B.exec, B.bytes, B.returns, hml, ho, fun w hw => hts w (List.mem_cons_of_mem _ hw), B.notSynchronized, Nat.le_refl _, Nat.le_refl _, Nat.le_refl _, Nat.le_refl _, fun hi => by rw [(name_of_methodNamed B.named B.method).1]; exact hinit hi⟩
    ⟨hK, hSk, fun q hq => Or.inr hq, fun k hk => Or.inl ⟨k, hk, rfl⟩, hex _ _ _⟩
    ⟨hP, hD, va_S.rf, fun _ _ => rfl, fun _ _ => rfl, hp, Nat.le_refl _, h01, h90⟩
    hl (fun v hv => by
      rcases List.mem_append.mp hv with q | q
      · exact lav_ok av hav v q
      · rw [(List.mem_replicate.mp q).2]; trivial) (by simp; omega) (fun v hv => by cases hv)
  rw [Nat.sub_self, Nat.sub_self] at this
  exact this
theorem ev_iret {M : MD} {n0 n1 : Nat} {r : Option V × Mem × Mem} {pc : Nat} {ρ σ : Mem} {L : List V} {x : Int} (hd : decode M.2.1 pc = .ok (.ireturn, 1)) (hr : M.2.2.2.1 = some .int) (he : (some (0, x), ρ, σ) = r) : Ev M n0 n1 r pc n1 ρ σ L [(0, x)] := by
  intro p l e Rm s m args below meth c A H locs D dA ad0 ad ls C K h hl hL hn hs
  have hx := C.1
  have hb := C.2.1
  subst he
  exact W.iret (v := Int32.ofInt x) hx hb (by rw [C.2.2.1, hr]) (fun t ht hW => ⟨⟨ad, h.2.2.2.1, h.2.2.2.2.1, rfl, fun v hv => by cases hv; exact (cons_ok hs).1, by rw [ht]; exact h.1, h.2.1, h.2.2.2.2.2.1, h.2.2.2.2.2.2.1, h.2.2.2.2.2.2.2.2⟩, h.2.2.1.F ht⟩) h.2.2.1.2.2 hd C.2.2.2.2.2.2.1
theorem ev_lret {M : MD} {n0 n1 : Nat} {r : Option V × Mem × Mem} {pc : Nat} {ρ σ : Mem} {L : List V} {x : Int} (hd : decode M.2.1 pc = .ok (.lreturn, 1)) (hr : M.2.2.2.1 = some .long) (he : (some (1, x), ρ, σ) = r) : Ev M n0 n1 r pc n1 ρ σ L [(1, x)] := by
  intro p l e Rm s m args below meth c A H locs D dA ad0 ad ls C K h hl hL hn hs
  have hx := C.1
  have hb := C.2.1
  subst he
  exact W.lret (v := Int64.ofInt x) hx hb (by rw [C.2.2.1, hr]) (fun t ht hW => ⟨⟨ad, h.2.2.2.1, h.2.2.2.2.1, rfl, fun v hv => by cases hv; exact (cons_ok hs).1, by rw [ht]; exact h.1, h.2.1, h.2.2.2.2.2.1, h.2.2.2.2.2.2.1, h.2.2.2.2.2.2.2.2⟩, h.2.2.1.F ht⟩) h.2.2.1.2.2 hd C.2.2.2.2.2.2.1
theorem ev_zret {M : MD} {n0 n1 : Nat} {r : Option V × Mem × Mem} {pc : Nat} {ρ σ : Mem} {L : List V} {x : Int} (hd : decode M.2.1 pc = .ok (.ireturn, 1)) (hr : M.2.2.2.1 = some .boolean) (he : chk (x = 0 ∨ x = 1) (some (some (0, x), ρ, σ)) = some r) : Ev M n0 n1 r pc n1 ρ σ L [(0, x)] := by
  intro p l e Rm s m args below meth c A H locs D dA ad0 ad ls C K h hl hL hn hs
  have hx := C.1
  have hb := C.2.1
  obtain ⟨hz, he⟩ := chk_of he
  cases he
  exact W.zret (v := Int32.ofInt x) (ty := .boolean) hx hb (by rw [C.2.2.1, hr]) (by rcases hz with q | q <;> subst q <;> rfl) (fun t ht hW => ⟨⟨ad, h.2.2.2.1, h.2.2.2.2.1, rfl, fun v hv => by cases hv; exact (cons_ok hs).1, by rw [ht]; exact h.1, h.2.1, h.2.2.2.2.2.1, h.2.2.2.2.2.2.1, h.2.2.2.2.2.2.2.2⟩, h.2.2.1.F ht⟩) h.2.2.1.2.2 hd C.2.2.2.2.2.2.1
theorem ev_vret {M : MD} {n0 n1 : Nat} {r : Option V × Mem × Mem} {pc : Nat} {ρ σ : Mem} {L : List V} (hd : decode M.2.1 pc = .ok (.return_, 1)) (hr : M.2.2.2.1 = none) (he : (none, ρ, σ) = r) : Ev M n0 n1 r pc n1 ρ σ L [] := by
  intro p l e Rm s m args below meth c A H locs D dA ad0 ad ls C K h hl hL hn hs
  have hx := C.1
  have hb := C.2.1
  subst he
  exact W.vret hx hb (by rw [C.2.2.1, hr]) (fun t ht hW => ⟨⟨ad, h.2.2.2.1, h.2.2.2.2.1, rfl, (fun v hv => by cases hv), by rw [ht]; exact h.1, h.2.1, h.2.2.2.2.2.1, h.2.2.2.2.2.2.1, h.2.2.2.2.2.2.2.2⟩, h.2.2.1.F ht⟩) h.2.2.1.2.2 hd C.2.2.2.2.2.2.1
theorem ev_aret {M : MD} {n0 n1 : Nat} {r : Option V × Mem × Mem} {pc : Nat} {ρ σ : Mem} {L : List V} {x : Int} {cn : String} (hd : decode M.2.1 pc = .ok (.areturn, 1)) (hr : M.2.2.2.1 = some (.object cn)) (he : (some (2, x), ρ, σ) = r) : Ev M n0 n1 r pc n1 ρ σ L [(2, x)] := by
  intro p l e Rm s m args below meth c A H locs D dA ad0 ad ls C K h hl hL hn hs
  have hx := C.1
  have hb := C.2.1
  subst he
  exact W.aret (v := rv ad (2, x)) (rt := .object cn) hx hb (by rw [C.2.2.1, hr]) (Or.inl ⟨cn, rfl⟩) (by show (if x < 0 then Value.null else _) = _ ∨ ∃ a, (if x < 0 then Value.null else _) = _; split; exact Or.inl rfl; exact Or.inr ⟨_, rfl⟩) (fun t ht hW => ⟨⟨ad, h.2.2.2.1, h.2.2.2.2.1, rfl, fun v hv => by cases hv; exact (cons_ok hs).1, by rw [ht]; exact h.1, h.2.1, h.2.2.2.2.2.1, h.2.2.2.2.2.2.1, h.2.2.2.2.2.2.2.2⟩, h.2.2.1.F ht⟩) h.2.2.1.2.2 hd C.2.2.2.2.2.2.1
theorem gWS {y : MethodName} {c : ByteArray} {nL : Nat} {rt : Option FieldType} (h : Cond.code y c nL rt ∈ WS) : GoodIn WS (Cond.code y c nL rt :: WS) := by
  intro x hx
  rcases List.mem_cons.mp hx with q | q
  · rw [q]; exact ⟨h, good_of_word (WS_good h)⟩
  · exact ⟨q, good_of_word (WS_good q)⟩
theorem cat_sum {ad : Nat → Nat} {st : List V} (h : st.length ≤ 4) : ((st.map (rv ad)).map fun v => v.category).sum ≤ 8 := by
  have : ∀ l : List V, ((l.map (rv ad)).map fun v => v.category).sum ≤ 2 * l.length := by
    intro l
    induction l with
    | nil => simp
    | cons v l ih =>
      simp only [List.map_cons, List.sum_cons, List.length_cons]
      have : (rv ad v).category ≤ 2 := by rw [rv_cat]; split <;> omega
      omega
  have := this st
  omega
/-- what is behind a call, out of the callee's contract -/
theorem ev_back {M : MD} {n0 n1 n n2 : Nat} {r r2 : Option V × Mem × Mem} {pc : Nat} {ρ σ : Mem} {L st st0 : List V} {p : Program} {l : Launch} {e : Env} {Rm : Room} {s : State} {m : MethodId} {args : Array Value} {below : List Frame} {meth : Method} {c : Code} {A : Nat → Prop} {H : Heap} {locs : List Loc} {D : va_G} {dA : Nat → ClassId} {ad0 ad : Nat → Nat} {ls : Array Slot} {a : Array Value} (C : Cx M n0 n1 p Rm s m args meth c) (K : Cw M D dA n0 ad0 A s) (h : Ch D dA n0 n1 n ad0 ad ρ σ A s.heap H locs) (hl : lv_has ls M.2.2.1 (lz ad 0 L)) (hL : ∀ v ∈ L, okv n v) (hn : L.length = M.2.2.1) (hs : ∀ v ∈ st, okv n v) (h2 : n ≤ n2 ∧ n2 ≤ n1)
    (hr : va_Run p l e Rm s m args below meth c H locs (n - n0) (szL n - szL n0) (n2 - n) (szL n2 - szL n) (F0 m pc ls (st0.map (rv ad))) (st.map (rv ad)) (Qm n n2 r2 D dA ad (Af n ad H.size) a) (Af n ad H.size))
    (hh : Ev M n0 n1 r (pc + 3) n2 r2.2.1 r2.2.2 L (r2.1.toList ++ st)) : W p l e Rm s m args below meth c H locs (n - n0) (szL n - szL n0) (MQ below (Qm n0 n1 r D dA ad0 A) args s (n1 - n0) (szL n1 - szL n0) A) (F0 m pc ls (st0.map (rv ad))) := by
  intro T hT X
  obtain ⟨v, st₀, t, T', Lc, h0', X', hLc, e1, e2, ⟨⟨ad', a1, a2, hv, hok, hP', hD', hpk, -, -⟩, hF⟩, stp⟩ := hr T hT X
  have hAf : ∀ q, Af n ad H.size q → A q := by
    intro q hq
    rcases hq with ⟨k, hk, rfl⟩ | hq
    · exact h.2.1.2 k _ (wl_get hk)
    · exact K.2.2.1 q (Nat.le_trans h.2.2.1.1 hq)
  have ev : v = r2.1.map (rv ad') := by cases hv; rfl
  have b1 : ∀ k, k < n0 → ad' k = ad0 k := fun k hk => by rw [a1 k (by have := h.2.2.2.2.2.2.1; omega)]; exact h.2.2.2.1 k hk
  have b2 : ∀ k, 100000 ≤ k → ad' k = ad0 k := fun k hk => by rw [a2 k hk]; exact h.2.2.2.2.1 k hk
  have hz := hF.1
  have hk1 := hF.2
  rw [h0'] at hz hk1
  have hS : va_S A s.heap T'.heap (locs ++ Lc) := ⟨Nat.le_trans h.2.2.1.1 (by rw [e1]; exact hz), fun q h1 h2 => by rw [e1, hk1 q (Nat.lt_of_lt_of_le h1 h.2.2.1.1) (fun z => h2 (hAf q z))]; exact h.2.2.1.2.1 q h1 h2, fun q hq => by
    rcases List.mem_append.mp hq with g | g
    · exact h.2.2.1.2.2 q g
    · exact hAf _ (hLc q g)⟩
  have hw := hh p l e Rm s m args below meth c A T'.heap (locs ++ Lc) D dA ad0 ad' ls C K
    ⟨by rw [e1]; exact hP', hD'.weaken (fun k q _ g => hAf _ g), hS, b1, b2, hpk, Nat.le_trans h.2.2.2.2.2.2.1 h2.1, h2.2, h.2.2.2.2.2.2.2.2⟩
    (by rw [lz_agree a1 a2 L 0 hL]; exact hl) (fun v hv => okv_mono h2.1 (hL v hv)) hn (fun v hv => by
      rcases List.mem_append.mp hv with g | g
      · exact hok v (by cases hq : r2.1 with | none => rw [hq] at g; cases g | some u => rw [hq] at g; rw [List.mem_singleton.mp g])
      · exact okv_mono h2.1 (hs v g))
  have q1 : n - n0 + (n2 - n) = n2 - n0 := by have := h.2.2.2.2.2.2.1; omega
  have q2 : szL n - szL n0 + (szL n2 - szL n) = szL n2 - szL n0 := by
    have := szL_mono h.2.2.2.2.2.2.1
    have := szL_mono h2.1
    omega
  rw [q1, q2] at X'
  obtain ⟨t2, g1, g2⟩ := hw T' rfl X'
  refine ⟨t2, stp t2 ?_, g2⟩
  have e3 : (r2.1.toList ++ st).map (rv ad') = v.toList ++ st.map (rv ad) := by
    rw [List.map_append, map_agree a1 a2 hs, ev]
    cases r2.1 <;> rfl
  rw [e3] at g1
  exact g1
theorem Pm_call {M : MD} {n0 n1 n : Nat} {av : List V} {ρ σ : Mem} {s : State} {A : Nat → Prop} {H : Heap} {locs : List Loc} {D : va_G} {dA : Nat → ClassId} {ad0 ad : Nat → Nat} (K : Cw M D dA n0 ad0 A s) (h : Ch D dA n0 n1 n ad0 ad ρ σ A s.heap H locs) : ∀ U : State, U.heap = H → s.WarmedH U.vm → Pm n av ρ σ D dA ad H.size (av.map (rv ad)).toArray U := by
  intro U hU hW
  have hAf : ∀ q, Af n ad H.size q → A q := by
    intro q hq
    rcases hq with ⟨k, hk, rfl⟩ | hq
    · exact h.2.1.2 k _ (wl_get hk)
    · exact K.2.2.1 q (Nat.le_trans h.2.2.1.1 hq)
  refine ⟨rfl, by rw [hU], by rw [hU]; exact h.1, h.2.1.weaken (fun _ _ _ _ => trivial), va_K.moved hW.alike K.1, ?_⟩
  rw [hU]
  exact Sk.warm hW (((K.2.1.ad h.2.2.2.2.1).kept h.2.2.1.2.1) hAf)
/-- what a call's words are -/
def ML (own : String) (idx : Nat) (y : MethodName) (My : MD) : Prop := Cond.methodLink own idx y ∈ WS ∧ Cond.initialized y.cls ∈ WS ∧ Cond.code y My.2.1 My.2.2.1 My.2.2.2.1 ∈ WS ∧ (y.cls ≠ "java/lang/invoke/MethodHandle" ∧ y.cls ≠ "java/lang/invoke/VarHandle")
def MLn (own : String) (idx : Nat) (y : MethodName) (My : MD) : Prop := (∃ host, (own, idx, y, host) ∈ nwL) ∧ Cond.initialized y.cls ∈ WS ∧ Cond.code y My.2.1 My.2.2.1 My.2.2.2.1 ∈ WS ∧ (y.cls ≠ "java/lang/invoke/MethodHandle" ∧ y.cls ≠ "java/lang/invoke/VarHandle")
def MLv (y : MethodName) : Prop := Cond.instanceMethod y ∈ WS ∧ Cond.selects y.cls y y ∈ WS
def rmOk (M My : MD) : Prop := My.2.2.2.2.1 + 1 ≤ M.2.2.2.2.1 ∧ 8 + (My.2.2.1 + 11) + My.2.2.2.2.2.1 ≤ M.2.2.2.2.2.1
theorem sig_len {y : MethodName} {k : Nat} (h : (parseMethodDescriptor y.desc).map (fun d => d.parameters.length) = some k) : ∀ sig, parseMethodDescriptor y.desc = some sig → k = sig.parameters.length := fun sig hs => by
  rw [hs] at h
  exact (Option.some.inj h).symm
theorem ev_invV {M : MD} {n0 n1 : Nat} {r : Option V × Mem × Mem} {pc n : Nat} {ρ σ : Mem} {L st : List V} {idx n2 : Nat} {y : MethodName} {My : MD} {k : Int} {av : List V} {r2 : Option V × Mem × Mem} (hd : decode M.2.1 pc = .ok (.invokevirtual idx, 3)) (hw : ML M.1 idx y My) (hv : MLv y) {ci nf N : Nat} {T : u_T} (hcl : vwCl[ci]? = some (y.cls, T, N)) (hsh : shp k.toNat = (ci + 5, nf)) (h0 : 0 ≤ k) (hkn : k < n) (hsg : (parseMethodDescriptor y.desc).map (fun d => d.parameters.length) = some av.length) (hR : rmOk M My) (hst : st.length ≤ 4) (hm : Ms y My n n2 ((2, k) :: av) ρ σ r2) (h2 : n ≤ n2 ∧ n2 ≤ n1) (hh : Ev M n0 n1 r (pc + 3) n2 r2.2.1 r2.2.2 L (r2.1.toList ++ st)) : Ev M n0 n1 r (pc) (n) (ρ) (σ) (L) (av.reverse ++ (2, k) :: st) := by
  intro p l e Rm s m args below meth c A H locs D dA ad0 ad ls C K h hl hL hn hs
  have hx := C.1
  have hb := C.2.1
  obtain ⟨z, rfl⟩ := Int.eq_ofNat_of_zero_le h0
  have hq : z < n := by omega
  have hsq : shp z = (ci + 5, nf) := by simpa using hsh
  have hM := hm h.2.2.2.2.2.1 h2.1 (Nat.le_trans h2.2 h.2.2.2.2.2.2.2.2) (fun v hv9 => hs v (by rcases List.mem_cons.mp hv9 with q | q; rw [q]; exact List.mem_append_right _ List.mem_cons_self; exact List.mem_append_left _ (List.mem_reverse.mpr q))) l D dA ad H.size
  refine ev_back C K h hl hL hn (fun v hv9 => hs v (List.mem_append_right _ (List.mem_cons_of_mem _ hv9))) h2 (va_runV (nL := M.2.2.1) (own := M.1) (y := y) (bytes := My.2.1) (maxL := My.2.2.1) (ret := My.2.2.2.1) (n := av.length) (As := av.map (rv ad)) (Ts := WS) ⟨hx, hb, C.2.2.2.1, C.2.2.2.2.1, C.2.2.2.2.2.1⟩ hM ⟨⟨rfl, rfl, Nat.le_trans hR.1 C.2.2.2.2.2.2.2.1, Nat.le_trans hR.2 C.2.2.2.2.2.2.2.2.1, pay_in C.2.2.2.2.2.1 (gWS hw.2.2.1), List.mem_cons_self, C.2.2.2.2.2.1 _ hw.2.2.1, C.2.2.2.2.2.1 _ hw.2.1, hw.2.2.2, sig_len hsg, C.2.2.2.2.2.1 _ hw.1⟩, C.2.2.2.2.2.1 _ hv.1, C.2.2.2.2.2.1 _ hv.2⟩ ⟨Pm_blind, va_recv (D := D) (tys := TY dA) K.1 h.1 hcl (by rw [wl_get hq, cel_obj hsq]), fun U hU hW => by have := Pm_call (av := (2, (z : Int)) :: av) K h U hU hW; rw [List.map_cons, rv_ref h0, Int.toNat_natCast] at this; exact this⟩ rfl (List.length_map _) hl.1 (by show (List.map (rv ad) (av.reverse ++ (2, (z : Int)) :: st)) = (av.map (rv ad)).reverse ++ Value.ref (ad z) :: st.map (rv ad); rw [List.map_append, List.map_reverse, List.map_cons, rv_ref h0, Int.toNat_natCast]) (lv_room (cat_sum hst)) hd ⟨by have := C.2.2.2.2.2.2.2.2.2.1; have := h.2.2.2.2.2.2.1; omega, by have := C.2.2.2.2.2.2.2.2.2.2.1; have := szL_mono h.2.2.2.2.2.2.1; have := szL_mono h2.1; have := szL_mono h2.2; omega⟩) hh
theorem ev_invS {M : MD} {n0 n1 : Nat} {r : Option V × Mem × Mem} {pc n : Nat} {ρ σ : Mem} {L st : List V} {idx n2 : Nat} {y : MethodName} {My : MD} {av : List V} {r2 : Option V × Mem × Mem} (hd : decode M.2.1 pc = .ok (.invokestatic idx, 3)) (hw : ML M.1 idx y My) (hv : Cond.static y ∈ WS) (hsg : (parseMethodDescriptor y.desc).map (fun d => d.parameters.length) = some av.length) (hR : rmOk M My) (hst : st.length ≤ 4) (hm : Ms y My n n2 (av) ρ σ r2) (h2 : n ≤ n2 ∧ n2 ≤ n1) (hh : Ev M n0 n1 r (pc + 3) n2 r2.2.1 r2.2.2 L (r2.1.toList ++ st)) : Ev M n0 n1 r (pc) (n) (ρ) (σ) (L) (av.reverse ++ st) := by
  intro p l e Rm s m args below meth c A H locs D dA ad0 ad ls C K h hl hL hn hs
  have hx := C.1
  have hb := C.2.1
  have hM := hm h.2.2.2.2.2.1 h2.1 (Nat.le_trans h2.2 h.2.2.2.2.2.2.2.2) (fun v hv9 => hs v (List.mem_append_left _ (List.mem_reverse.mpr hv9))) l D dA ad H.size
  refine ev_back C K h hl hL hn (fun v hv9 => hs v (List.mem_append_right _ hv9)) h2 (va_runS (nL := M.2.2.1) (own := M.1) (y := y) (bytes := My.2.1) (maxL := My.2.2.1) (ret := My.2.2.2.1) (n := av.length) (As := av.map (rv ad)) (Ts := WS) ⟨hx, hb, C.2.2.2.1, C.2.2.2.2.1, C.2.2.2.2.2.1⟩ hM ⟨⟨rfl, rfl, Nat.le_trans hR.1 C.2.2.2.2.2.2.2.1, Nat.le_trans hR.2 C.2.2.2.2.2.2.2.2.1, pay_in C.2.2.2.2.2.1 (gWS hw.2.2.1), List.mem_cons_self, C.2.2.2.2.2.1 _ hw.2.2.1, C.2.2.2.2.2.1 _ hw.2.1, hw.2.2.2, sig_len hsg, C.2.2.2.2.2.1 _ hw.1⟩, C.2.2.2.2.2.1 _ hv⟩ ⟨Pm_blind, Pm_call K h⟩ rfl (List.length_map _) hl.1 (by show (List.map (rv ad) (av.reverse ++ st)) = (av.map (rv ad)).reverse ++ st.map (rv ad); rw [List.map_append, List.map_reverse]) (lv_room (cat_sum hst)) hd ⟨by have := C.2.2.2.2.2.2.2.2.2.1; have := h.2.2.2.2.2.2.1; omega, by have := C.2.2.2.2.2.2.2.2.2.2.1; have := szL_mono h.2.2.2.2.2.2.1; have := szL_mono h2.1; have := szL_mono h2.2; omega⟩) hh
theorem ev_invSN {M : MD} {n0 n1 : Nat} {r : Option V × Mem × Mem} {pc n : Nat} {ρ σ : Mem} {L st : List V} {idx n2 : Nat} {y : MethodName} {My : MD} {av : List V} {r2 : Option V × Mem × Mem} (hd : decode M.2.1 pc = .ok (.invokestatic idx, 3)) (hw : MLn M.1 idx y My) (hv : Cond.static y ∈ WS) (hsg : (parseMethodDescriptor y.desc).map (fun d => d.parameters.length) = some av.length) (hR : rmOk M My) (hst : st.length ≤ 4) (hm : Ms y My n n2 (av) ρ σ r2) (h2 : n ≤ n2 ∧ n2 ≤ n1) (hh : Ev M n0 n1 r (pc + 3) n2 r2.2.1 r2.2.2 L (r2.1.toList ++ st)) : Ev M n0 n1 r (pc) (n) (ρ) (σ) (L) (av.reverse ++ st) := by
  intro p l e Rm s m args below meth c A H locs D dA ad0 ad ls C K h hl hL hn hs
  have hx := C.1
  have hb := C.2.1
  obtain ⟨⟨host, hhost⟩, hw1, hw2, hw3⟩ := hw
  have hM := hm h.2.2.2.2.2.1 h2.1 (Nat.le_trans h2.2 h.2.2.2.2.2.2.2.2) (fun v hv9 => hs v (List.mem_append_left _ (List.mem_reverse.mpr hv9))) l D dA ad H.size
  refine ev_back C K h hl hL hn (fun v hv9 => hs v (List.mem_append_right _ hv9)) h2 (va_runSN (nL := M.2.2.1) (own := M.1) (y := y) (bytes := My.2.1) (maxL := My.2.2.1) (ret := My.2.2.2.1) (host := host) (n := av.length) (As := av.map (rv ad)) (Ts := WS) ⟨hx, hb, C.2.2.2.1, C.2.2.2.2.1, C.2.2.2.2.2.1⟩ hM ⟨⟨⟨rfl, rfl, Nat.le_trans hR.1 C.2.2.2.2.2.2.2.1, Nat.le_trans hR.2 C.2.2.2.2.2.2.2.2.1, pay_in C.2.2.2.2.2.1 (gWS hw2), List.mem_cons_self⟩, C.2.2.2.2.2.1 _ hw2, C.2.2.2.2.2.1 _ hw1, hw3, sig_len hsg, va_Nw.use rfl (K.2.1.2 _ hhost)⟩, C.2.2.2.2.2.1 _ hv, trivial⟩ ⟨Pm_blind, Pm_call K h⟩ rfl (List.length_map _) hl.1 (by show (List.map (rv ad) (av.reverse ++ st)) = (av.map (rv ad)).reverse ++ st.map (rv ad); rw [List.map_append, List.map_reverse]) (lv_room (cat_sum hst)) hd ⟨by have := C.2.2.2.2.2.2.2.2.2.1; have := h.2.2.2.2.2.2.1; omega, by have := C.2.2.2.2.2.2.2.2.2.2.1; have := szL_mono h.2.2.2.2.2.2.1; have := szL_mono h2.1; have := szL_mono h2.2; omega⟩) hh
theorem ev_invI {M : MD} {n0 n1 : Nat} {r : Option V × Mem × Mem} {pc n : Nat} {ρ σ : Mem} {L st : List V} {idx n2 : Nat} {y : MethodName} {My : MD} {k : Int} {av : List V} {r2 : Option V × Mem × Mem} (hd : decode M.2.1 pc = .ok (.invokespecial idx, 3)) (hw : ML M.1 idx y My) (hv : Cond.instanceMethod y ∈ WS) (hyn : y.name = "<init>") (h0 : 0 ≤ k) (hrt : My.2.2.2.1 = none) (hsg : (parseMethodDescriptor y.desc).map (fun d => d.parameters.length) = some av.length) (hR : rmOk M My) (hst : st.length ≤ 4) (hm : Ms y My n n2 ((2, k) :: av) ρ σ r2) (h2 : n ≤ n2 ∧ n2 ≤ n1) (hh : Ev M n0 n1 r (pc + 3) n2 r2.2.1 r2.2.2 L (r2.1.toList ++ st)) : Ev M n0 n1 r (pc) (n) (ρ) (σ) (L) (av.reverse ++ (2, k) :: st) := by
  intro p l e Rm s m args below meth c A H locs D dA ad0 ad ls C K h hl hL hn hs
  have hx := C.1
  have hb := C.2.1
  obtain ⟨z, rfl⟩ := Int.eq_ofNat_of_zero_le h0
  have hM := hm h.2.2.2.2.2.1 h2.1 (Nat.le_trans h2.2 h.2.2.2.2.2.2.2.2) (fun v hv9 => hs v (by rcases List.mem_cons.mp hv9 with q | q; rw [q]; exact List.mem_append_right _ List.mem_cons_self; exact List.mem_append_left _ (List.mem_reverse.mpr q))) l D dA ad H.size
  unfold ML at hw
  rw [hrt] at hM hw
  refine ev_back C K h hl hL hn (fun v hv9 => hs v (List.mem_append_right _ (List.mem_cons_of_mem _ hv9))) h2 (va_runI (nL := M.2.2.1) (own := M.1) (y := y) (bytes := My.2.1) (maxL := My.2.2.1)  (n := av.length) (As := av.map (rv ad)) (Ts := WS) ⟨hx, hb, C.2.2.2.1, C.2.2.2.2.1, C.2.2.2.2.2.1⟩ hM ⟨⟨rfl, rfl, Nat.le_trans hR.1 C.2.2.2.2.2.2.2.1, Nat.le_trans hR.2 C.2.2.2.2.2.2.2.2.1, pay_in C.2.2.2.2.2.1 (gWS hw.2.2.1), List.mem_cons_self, C.2.2.2.2.2.1 _ hw.2.2.1, C.2.2.2.2.2.1 _ hw.2.1, hw.2.2.2, sig_len hsg, C.2.2.2.2.2.1 _ hw.1⟩, hyn, C.2.2.2.2.2.1 _ hv⟩ ⟨Pm_blind, fun U hU hW => by have := Pm_call (av := (2, (z : Int)) :: av) K h U hU hW; rw [List.map_cons, rv_ref h0, Int.toNat_natCast] at this; exact this⟩ rfl (List.length_map _) hl.1 (by show (List.map (rv ad) (av.reverse ++ (2, (z : Int)) :: st)) = (av.map (rv ad)).reverse ++ Value.ref (ad z) :: st.map (rv ad); rw [List.map_append, List.map_reverse, List.map_cons, rv_ref h0, Int.toNat_natCast]) (lv_room (cat_sum hst)) hd ⟨by have := C.2.2.2.2.2.2.2.2.2.1; have := h.2.2.2.2.2.2.1; omega, by have := C.2.2.2.2.2.2.2.2.2.2.1; have := szL_mono h.2.2.2.2.2.2.1; have := szL_mono h2.1; have := szL_mono h2.2; omega⟩) hh
theorem ev_invIN {M : MD} {n0 n1 : Nat} {r : Option V × Mem × Mem} {pc n : Nat} {ρ σ : Mem} {L st : List V} {idx n2 : Nat} {y : MethodName} {My : MD} {k : Int} {av : List V} {r2 : Option V × Mem × Mem} (hd : decode M.2.1 pc = .ok (.invokespecial idx, 3)) (hw : MLn M.1 idx y My) (hv : Cond.instanceMethod y ∈ WS) (hyn : y.name = "<init>") (h0 : 0 ≤ k) (hrt : My.2.2.2.1 = none) (hsg : (parseMethodDescriptor y.desc).map (fun d => d.parameters.length) = some av.length) (hR : rmOk M My) (hst : st.length ≤ 4) (hm : Ms y My n n2 ((2, k) :: av) ρ σ r2) (h2 : n ≤ n2 ∧ n2 ≤ n1) (hh : Ev M n0 n1 r (pc + 3) n2 r2.2.1 r2.2.2 L (r2.1.toList ++ st)) : Ev M n0 n1 r (pc) (n) (ρ) (σ) (L) (av.reverse ++ (2, k) :: st) := by
  intro p l e Rm s m args below meth c A H locs D dA ad0 ad ls C K h hl hL hn hs
  have hx := C.1
  have hb := C.2.1
  obtain ⟨z, rfl⟩ := Int.eq_ofNat_of_zero_le h0
  obtain ⟨⟨host, hhost⟩, hw1, hw2, hw3⟩ := hw
  have hM := hm h.2.2.2.2.2.1 h2.1 (Nat.le_trans h2.2 h.2.2.2.2.2.2.2.2) (fun v hv9 => hs v (by rcases List.mem_cons.mp hv9 with q | q; rw [q]; exact List.mem_append_right _ List.mem_cons_self; exact List.mem_append_left _ (List.mem_reverse.mpr q))) l D dA ad H.size
  rw [hrt] at hM hw2
  refine ev_back C K h hl hL hn (fun v hv9 => hs v (List.mem_append_right _ (List.mem_cons_of_mem _ hv9))) h2 (va_runIN (nL := M.2.2.1) (own := M.1) (y := y) (bytes := My.2.1) (maxL := My.2.2.1)  (host := host) (n := av.length) (As := av.map (rv ad)) (Ts := WS) ⟨hx, hb, C.2.2.2.1, C.2.2.2.2.1, C.2.2.2.2.2.1⟩ hM ⟨⟨⟨rfl, rfl, Nat.le_trans hR.1 C.2.2.2.2.2.2.2.1, Nat.le_trans hR.2 C.2.2.2.2.2.2.2.2.1, pay_in C.2.2.2.2.2.1 (gWS hw2), List.mem_cons_self⟩, C.2.2.2.2.2.1 _ hw2, C.2.2.2.2.2.1 _ hw1, hw3, sig_len hsg, va_Nw.use rfl (K.2.1.2 _ hhost)⟩, hyn, C.2.2.2.2.2.1 _ hv⟩ ⟨Pm_blind, fun U hU hW => by have := Pm_call (av := (2, (z : Int)) :: av) K h U hU hW; rw [List.map_cons, rv_ref h0, Int.toNat_natCast] at this; exact this⟩ rfl (List.length_map _) hl.1 (by show (List.map (rv ad) (av.reverse ++ (2, (z : Int)) :: st)) = (av.map (rv ad)).reverse ++ Value.ref (ad z) :: st.map (rv ad); rw [List.map_append, List.map_reverse, List.map_cons, rv_ref h0, Int.toNat_natCast]) (lv_room (cat_sum hst)) hd ⟨by have := C.2.2.2.2.2.2.2.2.2.1; have := h.2.2.2.2.2.2.1; omega, by have := C.2.2.2.2.2.2.2.2.2.2.1; have := szL_mono h.2.2.2.2.2.2.1; have := szL_mono h2.1; have := szL_mono h2.2; omega⟩) hh
end
section
theorem ev_fact {M : MD} {n0 n1 : Nat} {r : Option V × Mem × Mem} {pc n : Nat} {ρ σ : Mem} {L st : List V} (h : (∀ v ∈ st, okv n v) → (∀ v ∈ L, okv n v) → Ev M n0 n1 r (pc) (n) (ρ) (σ) (L) (st)) : Ev M n0 n1 r (pc) (n) (ρ) (σ) (L) (st) := fun p l e Rm s m args below meth c A H locs D dA ad0 ad ls C K hc hl hL hn hs => h hs hL p l e Rm s m args below meth c A H locs D dA ad0 ad ls C K hc hl hL hn hs
theorem ev_by {M : MD} {n0 n1 : Nat} {r : Option V × Mem × Mem} {pc n : Nat} {ρ σ : Mem} {L st : List V} {α : Type} {X Y : Option α} {q : α} {c : Prop} [Decidable c] (hf : (if c then X else Y) = some q) (h1 : c → X = some q → Ev M n0 n1 r (pc) (n) (ρ) (σ) (L) (st)) (h2 : ¬ c → Y = some q → Ev M n0 n1 r (pc) (n) (ρ) (σ) (L) (st)) : Ev M n0 n1 r (pc) (n) (ρ) (σ) (L) (st) := by
  by_cases hc : c
  · exact h1 hc (ite_pos' hf hc)
  · exact h2 hc (ite_neg' hf hc)
theorem jl_eq {x : Int} (h : in32 x) : jl x = x := by unfold jl; rw [Int32.toInt_toInt64, oi32 h]
theorem ev_i2lk {M : MD} {n0 n1 : Nat} {r : Option V × Mem × Mem} {pc n : Nat} {ρ σ : Mem} {L st : List V} {x : Int} (hd : decode M.2.1 pc = .ok (.i2l, 1)) (hh : Ev M n0 n1 r (pc + 1) (n) (ρ) (σ) (L) ((1, x) :: st)) : Ev M n0 n1 r (pc) (n) (ρ) (σ) (L) ((0, x) :: st) := ev_fact fun hs _ => ev_i2l hd (by rw [jl_eq (cons_ok hs).1]; exact hh)
theorem lcm_lt {x y : Int} (hx : in64 x) (hy : in64 y) : (lcm x y < 0 ↔ x < y) ∧ (lcm x y = 0 ↔ x = y) ∧ (0 < lcm x y ↔ y < x) := by
  unfold lcm lg_cmp
  simp only [gt_iff_lt, Int64.lt_iff_toInt_lt, ← Int64.toInt_inj, oi64 hx, oi64 hy]
  rcases Int.lt_trichotomy x y with h | h | h
  · rw [if_neg (by omega), if_neg (by omega)]
    exact ⟨⟨fun _ => h, fun _ => by decide⟩, ⟨fun q => absurd q (by decide), fun q => by omega⟩, ⟨fun q => absurd q (by decide), fun q => by omega⟩⟩
  · rw [if_neg (by omega), if_pos h]
    exact ⟨⟨fun q => absurd q (by decide), fun q => by omega⟩, ⟨fun _ => h, fun _ => by decide⟩, ⟨fun q => absurd q (by decide), fun q => by omega⟩⟩
  · rw [if_pos h]
    exact ⟨⟨fun q => absurd q (by decide), fun q => by omega⟩, ⟨fun q => absurd q (by decide), fun q => by omega⟩, ⟨fun _ => h, fun _ => by decide⟩⟩
theorem ev_lc_eq {M : MD} {n0 n1 : Nat} {r : Option V × Mem × Mem} {pc n : Nat} {ρ σ : Mem} {L st : List V} {α : Type} {X Y : Option α} {q : α} {x y off : Int} {tgt : Nat} (hd : decode M.2.1 pc = .ok (.lcmp, 1)) (hd2 : decode M.2.1 (pc + 1) = .ok (.ifCond .eq off, 3)) (ht : ((pc + 1 : Nat) : Int) + off = (tgt : Int)) (hf : (if x = y then X else Y) = some q) (h1 : x = y → X = some q → Ev M n0 n1 r (tgt) (n) (ρ) (σ) (L) (st)) (h2 : ¬ (x = y) → Y = some q → Ev M n0 n1 r (pc + 1 + 3) (n) (ρ) (σ) (L) (st)) : Ev M n0 n1 r (pc) (n) (ρ) (σ) (L) ((1, y) :: (1, x) :: st) := ev_fact fun hs _ => by
  have hi := lcm_lt (cons_ok (cons_ok hs).2).1 (cons_ok hs).1
  have hc : lcm x y = 0 ↔ x = y := by omega
  exact ev_lcmp hd (ev_if_eq hd2 ht (X := X) (Y := Y) (q := q) (by
    by_cases z : x = y
    · rw [if_pos (hc.mpr z)]; exact ite_pos' hf z
    · rw [if_neg (fun z2 => z (hc.mp z2))]; exact ite_neg' hf z) (fun z => h1 (hc.mp z)) (fun z => h2 (fun z2 => z (hc.mpr z2))))
theorem ev_lc_ne {M : MD} {n0 n1 : Nat} {r : Option V × Mem × Mem} {pc n : Nat} {ρ σ : Mem} {L st : List V} {α : Type} {X Y : Option α} {q : α} {x y off : Int} {tgt : Nat} (hd : decode M.2.1 pc = .ok (.lcmp, 1)) (hd2 : decode M.2.1 (pc + 1) = .ok (.ifCond .ne off, 3)) (ht : ((pc + 1 : Nat) : Int) + off = (tgt : Int)) (hf : (if x ≠ y then X else Y) = some q) (h1 : x ≠ y → X = some q → Ev M n0 n1 r (tgt) (n) (ρ) (σ) (L) (st)) (h2 : ¬ (x ≠ y) → Y = some q → Ev M n0 n1 r (pc + 1 + 3) (n) (ρ) (σ) (L) (st)) : Ev M n0 n1 r (pc) (n) (ρ) (σ) (L) ((1, y) :: (1, x) :: st) := ev_fact fun hs _ => by
  have hi := lcm_lt (cons_ok (cons_ok hs).2).1 (cons_ok hs).1
  have hc : lcm x y ≠ 0 ↔ x ≠ y := by omega
  exact ev_lcmp hd (ev_if_ne hd2 ht (X := X) (Y := Y) (q := q) (by
    by_cases z : x ≠ y
    · rw [if_pos (hc.mpr z)]; exact ite_pos' hf z
    · rw [if_neg (fun z2 => z (hc.mp z2))]; exact ite_neg' hf z) (fun z => h1 (hc.mp z)) (fun z => h2 (fun z2 => z (hc.mpr z2))))
theorem ev_lc_lt {M : MD} {n0 n1 : Nat} {r : Option V × Mem × Mem} {pc n : Nat} {ρ σ : Mem} {L st : List V} {α : Type} {X Y : Option α} {q : α} {x y off : Int} {tgt : Nat} (hd : decode M.2.1 pc = .ok (.lcmp, 1)) (hd2 : decode M.2.1 (pc + 1) = .ok (.ifCond .lt off, 3)) (ht : ((pc + 1 : Nat) : Int) + off = (tgt : Int)) (hf : (if x < y then X else Y) = some q) (h1 : x < y → X = some q → Ev M n0 n1 r (tgt) (n) (ρ) (σ) (L) (st)) (h2 : ¬ (x < y) → Y = some q → Ev M n0 n1 r (pc + 1 + 3) (n) (ρ) (σ) (L) (st)) : Ev M n0 n1 r (pc) (n) (ρ) (σ) (L) ((1, y) :: (1, x) :: st) := ev_fact fun hs _ => by
  have hi := lcm_lt (cons_ok (cons_ok hs).2).1 (cons_ok hs).1
  have hc : lcm x y < 0 ↔ x < y := by omega
  exact ev_lcmp hd (ev_if_lt hd2 ht (X := X) (Y := Y) (q := q) (by
    by_cases z : x < y
    · rw [if_pos (hc.mpr z)]; exact ite_pos' hf z
    · rw [if_neg (fun z2 => z (hc.mp z2))]; exact ite_neg' hf z) (fun z => h1 (hc.mp z)) (fun z => h2 (fun z2 => z (hc.mpr z2))))
theorem ev_lc_ge {M : MD} {n0 n1 : Nat} {r : Option V × Mem × Mem} {pc n : Nat} {ρ σ : Mem} {L st : List V} {α : Type} {X Y : Option α} {q : α} {x y off : Int} {tgt : Nat} (hd : decode M.2.1 pc = .ok (.lcmp, 1)) (hd2 : decode M.2.1 (pc + 1) = .ok (.ifCond .ge off, 3)) (ht : ((pc + 1 : Nat) : Int) + off = (tgt : Int)) (hf : (if y ≤ x then X else Y) = some q) (h1 : y ≤ x → X = some q → Ev M n0 n1 r (tgt) (n) (ρ) (σ) (L) (st)) (h2 : ¬ (y ≤ x) → Y = some q → Ev M n0 n1 r (pc + 1 + 3) (n) (ρ) (σ) (L) (st)) : Ev M n0 n1 r (pc) (n) (ρ) (σ) (L) ((1, y) :: (1, x) :: st) := ev_fact fun hs _ => by
  have hi := lcm_lt (cons_ok (cons_ok hs).2).1 (cons_ok hs).1
  have hc : 0 ≤ lcm x y ↔ y ≤ x := by omega
  exact ev_lcmp hd (ev_if_ge hd2 ht (X := X) (Y := Y) (q := q) (by
    by_cases z : y ≤ x
    · rw [if_pos (hc.mpr z)]; exact ite_pos' hf z
    · rw [if_neg (fun z2 => z (hc.mp z2))]; exact ite_neg' hf z) (fun z => h1 (hc.mp z)) (fun z => h2 (fun z2 => z (hc.mpr z2))))
theorem ev_lc_gt {M : MD} {n0 n1 : Nat} {r : Option V × Mem × Mem} {pc n : Nat} {ρ σ : Mem} {L st : List V} {α : Type} {X Y : Option α} {q : α} {x y off : Int} {tgt : Nat} (hd : decode M.2.1 pc = .ok (.lcmp, 1)) (hd2 : decode M.2.1 (pc + 1) = .ok (.ifCond .gt off, 3)) (ht : ((pc + 1 : Nat) : Int) + off = (tgt : Int)) (hf : (if y < x then X else Y) = some q) (h1 : y < x → X = some q → Ev M n0 n1 r (tgt) (n) (ρ) (σ) (L) (st)) (h2 : ¬ (y < x) → Y = some q → Ev M n0 n1 r (pc + 1 + 3) (n) (ρ) (σ) (L) (st)) : Ev M n0 n1 r (pc) (n) (ρ) (σ) (L) ((1, y) :: (1, x) :: st) := ev_fact fun hs _ => by
  have hi := lcm_lt (cons_ok (cons_ok hs).2).1 (cons_ok hs).1
  have hc : 0 < lcm x y ↔ y < x := by omega
  exact ev_lcmp hd (ev_if_gt hd2 ht (X := X) (Y := Y) (q := q) (by
    by_cases z : y < x
    · rw [if_pos (hc.mpr z)]; exact ite_pos' hf z
    · rw [if_neg (fun z2 => z (hc.mp z2))]; exact ite_neg' hf z) (fun z => h1 (hc.mp z)) (fun z => h2 (fun z2 => z (hc.mpr z2))))
theorem ev_lc_le {M : MD} {n0 n1 : Nat} {r : Option V × Mem × Mem} {pc n : Nat} {ρ σ : Mem} {L st : List V} {α : Type} {X Y : Option α} {q : α} {x y off : Int} {tgt : Nat} (hd : decode M.2.1 pc = .ok (.lcmp, 1)) (hd2 : decode M.2.1 (pc + 1) = .ok (.ifCond .le off, 3)) (ht : ((pc + 1 : Nat) : Int) + off = (tgt : Int)) (hf : (if x ≤ y then X else Y) = some q) (h1 : x ≤ y → X = some q → Ev M n0 n1 r (tgt) (n) (ρ) (σ) (L) (st)) (h2 : ¬ (x ≤ y) → Y = some q → Ev M n0 n1 r (pc + 1 + 3) (n) (ρ) (σ) (L) (st)) : Ev M n0 n1 r (pc) (n) (ρ) (σ) (L) ((1, y) :: (1, x) :: st) := ev_fact fun hs _ => by
  have hi := lcm_lt (cons_ok (cons_ok hs).2).1 (cons_ok hs).1
  have hc : lcm x y ≤ 0 ↔ x ≤ y := by omega
  exact ev_lcmp hd (ev_if_le hd2 ht (X := X) (Y := Y) (q := q) (by
    by_cases z : x ≤ y
    · rw [if_pos (hc.mpr z)]; exact ite_pos' hf z
    · rw [if_neg (fun z2 => z (hc.mp z2))]; exact ite_neg' hf z) (fun z => h1 (hc.mp z)) (fun z => h2 (fun z2 => z (hc.mpr z2))))
theorem ev_istore_nG {M : MD} {n0 n1 : Nat} {r : Option V × Mem × Mem} {pc n : Nat} {ρ σ : Mem} {L st : List V} {β : Type} {X : Int → Option β} {q : β} {k : Fin 4} {x : Int} (hd : decode M.2.1 pc = .ok (.istore_n k, 1)) (hf : (some x).bind X = some q) (hk : stk L (k : Nat) = true) (hb' : (k : Nat) < M.2.2.1) (hh : ∀ y, X y = some q → Ev M n0 n1 r (pc + 1) (n) (ρ) (σ) (L.set (k : Nat) (0, y)) (st)) : Ev M n0 n1 r (pc) (n) (ρ) (σ) (L) ((0, x) :: st) := ev_istore_n hd hk hb' (hh x hf)
theorem ev_istoreG {M : MD} {n0 n1 : Nat} {r : Option V × Mem × Mem} {pc n : Nat} {ρ σ : Mem} {L st : List V} {β : Type} {X : Int → Option β} {q : β} {k : Nat} {x : Int} (hd : decode M.2.1 pc = .ok (.istore k, 2)) (hf : (some x).bind X = some q) (hk : stk L k = true) (hb' : k < M.2.2.1) (hh : ∀ y, X y = some q → Ev M n0 n1 r (pc + 2) (n) (ρ) (σ) (L.set k (0, y)) (st)) : Ev M n0 n1 r (pc) (n) (ρ) (σ) (L) ((0, x) :: st) := ev_istore hd hk hb' (hh x hf)
theorem ev_lstore_nG {M : MD} {n0 n1 : Nat} {r : Option V × Mem × Mem} {pc n : Nat} {ρ σ : Mem} {L st : List V} {β : Type} {X : Int → Option β} {q : β} {k : Fin 4} {x : Int} (hd : decode M.2.1 pc = .ok (.lstore_n k, 1)) (hf : (some x).bind X = some q) (hk : stk L (k : Nat) = true) (hb' : (k : Nat) + 1 < M.2.2.1) (hh : ∀ y, X y = some q → Ev M n0 n1 r (pc + 1) (n) (ρ) (σ) ((L.set (k : Nat) (1, y)).set ((k : Nat) + 1) (9, 0)) (st)) : Ev M n0 n1 r (pc) (n) (ρ) (σ) (L) ((1, x) :: st) := ev_lstore_n hd hk hb' (hh x hf)
theorem ev_lstoreG {M : MD} {n0 n1 : Nat} {r : Option V × Mem × Mem} {pc n : Nat} {ρ σ : Mem} {L st : List V} {β : Type} {X : Int → Option β} {q : β} {k : Nat} {x : Int} (hd : decode M.2.1 pc = .ok (.lstore k, 2)) (hf : (some x).bind X = some q) (hk : stk L k = true) (hb' : k + 1 < M.2.2.1) (hh : ∀ y, X y = some q → Ev M n0 n1 r (pc + 2) (n) (ρ) (σ) ((L.set k (1, y)).set (k + 1) (9, 0)) (st)) : Ev M n0 n1 r (pc) (n) (ρ) (σ) (L) ((1, x) :: st) := ev_lstore hd hk hb' (hh x hf)
theorem ev_iincG {M : MD} {n0 n1 : Nat} {r : Option V × Mem × Mem} {pc n : Nat} {ρ σ : Mem} {L st : List V} {β : Type} {X : Int → Option β} {q : β} {k : Nat} {z x : Int} (hd : decode M.2.1 pc = .ok (.iinc k z, 3)) (hi : L[k]? = some (0, x)) (hf : (some (jadd x z)).bind X = some q) (hk : stk L k = true) (hh : ∀ y, X y = some q → Ev M n0 n1 r (pc + 3) (n) (ρ) (σ) (L.set k (0, y)) (st)) : Ev M n0 n1 r (pc) (n) (ρ) (σ) (L) (st) := ev_iinc hd hi hk (hh _ hf)
theorem ev_putfG {M : MD} {n0 n1 : Nat} {r : Option V × Mem × Mem} {pc n : Nat} {ρ σ : Mem} {L st : List V} {β : Type} {X : Mem → Option β} {q : β} {t : Nat} {k x : Int} {j ci idx nf N : Nat} {CN : String} {T : u_T} {ty : Nat → FieldType} (hd : decode M.2.1 pc = .ok (.putfield idx, 3)) (cf : CF ci CN T N ty) (hw : Cond.fieldLink M.1 idx (T j).1 (T j).2.1 (T j).2.2.1 ∈ WS) (hsh : shp k.toNat = (ci + 5, nf)) (h0 : 0 ≤ k) (hkn : k < n) (ht : (fts ci)[j]? = some t) (h2 : t ≠ 2) (hb1 : t = 0 ∨ t = 1) (hfin : (T j).2.2.2 = false) (hp : pfit t x (ty j)) (hf : (some (mup σ k j x)).bind X = some q) (hh : ∀ τ, X τ = some q → Ev M n0 n1 r (pc + 3) (n) (ρ) (τ) (L) (st)) : Ev M n0 n1 r (pc) (n) (ρ) (σ) (L) ((t, x) :: (2, k) :: st) := ev_putf hd cf hw hsh h0 hkn ht h2 hb1 hfin hp (hh _ hf)
theorem ev_iastG {M : MD} {n0 n1 : Nat} {r : Option V × Mem × Mem} {pc n : Nat} {ρ σ : Mem} {L st : List V} {β : Type} {X : Mem → Option β} {q : β} {k i x : Int} {N : Nat} (hd : decode M.2.1 pc = .ok (.iastore, 1)) (hsh : shp k.toNat = (0, N)) (h0 : 0 ≤ k) (hkn : k < n) (hf : chk (0 ≤ i ∧ i < N ) ((some (mup σ k i x)).bind X) = some q) (hh : ∀ τ, X τ = some q → Ev M n0 n1 r (pc + 1) (n) (ρ) (τ) (L) (st)) : Ev M n0 n1 r (pc) (n) (ρ) (σ) (L) ((0, x) :: (0, i) :: (2, k) :: st) := ev_iast hd hsh h0 hkn hf (fun hf => hh _ hf)
theorem ev_zastG {M : MD} {n0 n1 : Nat} {r : Option V × Mem × Mem} {pc n : Nat} {ρ σ : Mem} {L st : List V} {β : Type} {X : Mem → Option β} {q : β} {k i x : Int} {N : Nat} (hd : decode M.2.1 pc = .ok (.bastore, 1)) (hsh : shp k.toNat = (2, N)) (h0 : 0 ≤ k) (hkn : k < n) (hf : chk (0 ≤ i ∧ i < N ∧ (x = 0 ∨ x = 1)) ((some (mup σ k i x)).bind X) = some q) (hh : ∀ τ, X τ = some q → Ev M n0 n1 r (pc + 1) (n) (ρ) (τ) (L) (st)) : Ev M n0 n1 r (pc) (n) (ρ) (σ) (L) ((0, x) :: (0, i) :: (2, k) :: st) := ev_zast hd hsh h0 hkn hf (fun hf => hh _ hf)
theorem ev_lastG {M : MD} {n0 n1 : Nat} {r : Option V × Mem × Mem} {pc n : Nat} {ρ σ : Mem} {L st : List V} {β : Type} {X : Mem → Option β} {q : β} {k i x : Int} {N : Nat} (hd : decode M.2.1 pc = .ok (.lastore, 1)) (hsh : shp k.toNat = (1, N)) (h0 : 0 ≤ k) (hkn : k < n) (hf : chk (0 ≤ i ∧ i < N ) ((some (mup σ k i x)).bind X) = some q) (hh : ∀ τ, X τ = some q → Ev M n0 n1 r (pc + 1) (n) (ρ) (τ) (L) (st)) : Ev M n0 n1 r (pc) (n) (ρ) (σ) (L) ((1, x) :: (0, i) :: (2, k) :: st) := ev_last hd hsh h0 hkn hf (fun hf => hh _ hf)
theorem ev_copyiG {M : MD} {n0 n1 : Nat} {r : Option V × Mem × Mem} {pc n : Nat} {ρ σ : Mem} {L st : List V} {β : Type} {X : Mem → Option β} {q : β} {a i b j z : Int} {Na Nb idx : Nat} (hd : decode M.2.1 pc = .ok (.invokestatic idx, 3)) (hw : Cond.methodLink M.1 idx arraycopyName ∈ WS) (hw2 : Cond.native arraycopyName ∈ WS ∧ Cond.static arraycopyName ∈ WS ∧ Cond.initialized "java/lang/System" ∈ WS) (hsa : shp a.toNat = (0, Na)) (ha0 : 0 ≤ a) (han : a < n) (hsb : shp b.toNat = (0, Nb)) (hb0 : 0 ≤ b) (hbn : b < n) (hM : 1 ≤ M.2.2.2.2.1 ∧ 8 + (nativeFrameWords "java/lang/System" "arraycopy" 5 + 11) ≤ M.2.2.2.2.2.1) (hst : st.length ≤ 4) (hf : chk (0 ≤ i ∧ 0 ≤ j ∧ 0 ≤ z ∧ i + z ≤ Na ∧ j + z ≤ Nb) ((some (mcp σ a i b j z)).bind X) = some q) (hh : ∀ τ, X τ = some q → Ev M n0 n1 r (pc + 3) (n) (ρ) (τ) (L) (st)) : Ev M n0 n1 r (pc) (n) (ρ) (σ) (L) ((0, z) :: (0, j) :: (2, b) :: (0, i) :: (2, a) :: st) := ev_copyi hd hw hw2 hsa ha0 han hsb hb0 hbn hM hst hf (fun hf => hh _ hf)
theorem ev_copylG {M : MD} {n0 n1 : Nat} {r : Option V × Mem × Mem} {pc n : Nat} {ρ σ : Mem} {L st : List V} {β : Type} {X : Mem → Option β} {q : β} {a i b j z : Int} {Na Nb idx : Nat} (hd : decode M.2.1 pc = .ok (.invokestatic idx, 3)) (hw : Cond.methodLink M.1 idx arraycopyName ∈ WS) (hw2 : Cond.native arraycopyName ∈ WS ∧ Cond.static arraycopyName ∈ WS ∧ Cond.initialized "java/lang/System" ∈ WS) (hsa : shp a.toNat = (1, Na)) (ha0 : 0 ≤ a) (han : a < n) (hsb : shp b.toNat = (1, Nb)) (hb0 : 0 ≤ b) (hbn : b < n) (hM : 1 ≤ M.2.2.2.2.1 ∧ 8 + (nativeFrameWords "java/lang/System" "arraycopy" 5 + 11) ≤ M.2.2.2.2.2.1) (hst : st.length ≤ 4) (hf : chk (0 ≤ i ∧ 0 ≤ j ∧ 0 ≤ z ∧ i + z ≤ Na ∧ j + z ≤ Nb) ((some (mcp σ a i b j z)).bind X) = some q) (hh : ∀ τ, X τ = some q → Ev M n0 n1 r (pc + 3) (n) (ρ) (τ) (L) (st)) : Ev M n0 n1 r (pc) (n) (ρ) (σ) (L) ((0, z) :: (0, j) :: (2, b) :: (0, i) :: (2, a) :: st) := ev_copyl hd hw hw2 hsa ha0 han hsb hb0 hbn hM hst hf (fun hf => hh _ hf)
/-- fewer locals known -/
def subL : List V → List V → Prop
  | [], [] => True
  | a :: L, b :: L2 => (b = (9, 0) ∨ a = b) ∧ subL L L2
  | _, _ => False
theorem subL_len : ∀ {L L2 : List V}, subL L L2 → L.length = L2.length
  | [], [], _ => rfl
  | _ :: L, _ :: L2, h => by simp [subL_len h.2]
  | [], _ :: _, h => h.elim
  | _ :: _, [], h => h.elim
theorem subL_get : ∀ {L L2 : List V} {i : Nat} {v : V}, subL L L2 → L2[i]? = some v → v.1 ≠ 9 → L[i]? = some v
  | [], [], i, v, _, h, _ => by simp at h
  | a :: L, b :: L2, 0, v, h, hv, h9 => by
    simp at hv
    rcases h.1 with q | q
    · rw [← hv, q] at h9; exact absurd rfl h9
    · simp [q, hv]
  | a :: L, b :: L2, i + 1, v, h, hv, h9 => by
    simp at hv ⊢
    exact subL_get h.2 hv h9
  | [], _ :: _, _, _, h, _, _ => h.elim
  | _ :: _, [], _, _, h, _, _ => h.elim
theorem subL_ok {n : Nat} : ∀ {L L2 : List V}, subL L L2 → (∀ v ∈ L, okv n v) → ∀ v ∈ L2, okv n v
  | [], [], _, _, v, hv => by cases hv
  | a :: L, b :: L2, h, hk, v, hv => by
    rcases List.mem_cons.mp hv with q | q
    · rcases h.1 with g | g
      · rw [q, g]; trivial
      · rw [q, ← g]; exact (cons_ok hk).1
    · exact subL_ok h.2 (cons_ok hk).2 v q
  | [], _ :: _, h, _, _, _ => h.elim
  | _ :: _, [], h, _, _, _ => h.elim
theorem ev_sub {M : MD} {n0 n1 : Nat} {r : Option V × Mem × Mem} {pc n : Nat} {ρ σ : Mem} {L st : List V} {L2 : List V} (hh : Ev M n0 n1 r (pc) (n) (ρ) (σ) (L2) (st)) (hs2 : subL L L2) : Ev M n0 n1 r (pc) (n) (ρ) (σ) (L) (st) := by
  intro p l e Rm s m args below meth c A H locs D dA ad0 ad ls C K h hl hL hn hs
  have hx := C.1
  have hb := C.2.1
  refine hh p l e Rm s m args below meth c A H locs D dA ad0 ad ls C K h (lok_sub hl fun q hq => ?_) (subL_ok hs2 hL) (by rw [← subL_len hs2]; exact hn) hs
  obtain ⟨i, v, h1, h2, h3⟩ := lz_inv _ _ _ hq
  rw [Nat.zero_add] at h1
  have := lz_mem (ad := ad) h3 L 0 i (subL_get hs2 h2 h3)
  rw [Nat.zero_add] at this
  rw [h1]; exact this
/-- a loop: until the body says it is done; none, where the count of rounds is used up -/
def loop {α β : Type} (f : α → Option (α ⊕ β)) : Nat → α → Option β
  | 0, _ => none
  | n + 1, a => (f a).bind fun x => match x with
    | .inl a2 => loop f n a2
    | .inr b => some b
def FU : Nat := 1000000
theorem loop_ev {α β : Type} {f : α → Option (α ⊕ β)} {K : α ⊕ β → Prop} (hs : ∀ a x, f a = some x → K x → K (.inl a)) : ∀ (n : Nat) (a : α) (b : β), loop f n a = some b → K (.inr b) → K (.inl a)
  | 0, _, _, h, _ => by cases h
  | n + 1, a, b, h, hb => by
    unfold loop at h
    obtain ⟨x, h1, h2⟩ := Option.bind_eq_some_iff.mp h
    cases x with
    | inl a2 => exact hs a _ h1 (loop_ev hs n a2 b h2 hb)
    | inr b2 => cases h2; exact hs a _ h1 hb
theorem bind_of {α β : Type} {x : Option α} {f : α → Option β} {b : β} (h : x.bind f = some b) : ∃ a, x = some a ∧ f a = some b := Option.bind_eq_some_iff.mp h
theorem cel_agree {dA : Nat → ClassId} {ad ad' : Nat → Nat} {ρ σ : Mem} {n k : Nat} (h1 : ∀ i, i < n → ad' i = ad i) (h2 : ∀ i, 100000 ≤ i → ad' i = ad i) (hr : rokr n ρ) : cel dA ad' ρ σ k = cel dA ad ρ σ k := by
  unfold cel
  have hq : ∀ j : Int, (if ρ k j < 0 then none else some (ad' (ρ k j).toNat)) = (if ρ k j < 0 then none else some (ad (ρ k j).toNat)) := by
    intro j
    by_cases hx : ρ k j < 0
    · rw [if_pos hx, if_pos hx]
    · rw [if_neg hx, if_neg hx, h1 _ (by have := (hr k j).2; omega)]
  have hv : ∀ (t : Nat) (j : Int), rv ad' (t, if t = 2 then ρ k j else σ k j) = rv ad (t, if t = 2 then ρ k j else σ k j) := by
    intro t j
    match t with
    | 0 => rfl
    | 1 => rfl
    | 2 => exact rv_agree (n := n) h1 h2 (hr k j)
    | t + 3 => exact rv_agree (n := n) h1 h2 (show okv n (t + 3, _) from trivial)
  split
  · rfl
  · rfl
  · rfl
  · rfl
  · simp only [hq]
  · simp only [hv]
theorem wl_push {dA : Nat → ClassId} {ad ad' : Nat → Nat} {ρ σ : Mem} {n : Nat} (h1 : ∀ i, i < n → ad' i = ad i) (h2 : ∀ i, 100000 ≤ i → ad' i = ad i) (hr : rokr n ρ) : wl dA ad' ρ σ (n + 1) = wl dA ad ρ σ n ++ [(ad' n, cel dA ad' ρ σ n)] := by
  unfold wl
  rw [List.range_succ, List.map_append]
  congr 1
  refine List.map_congr_left fun k hk => ?_
  rw [cel_agree h1 h2 hr, h1 k (List.mem_range.mp hk)]
def adq (ad : Nat → Nat) (n q : Nat) : Nat → Nat := fun k => if k = n then q else ad k
theorem pok_push {n : Nat} {ρ σ : Mem} (h : pok n ρ σ) : pok (n + 1) ρ σ := ⟨h.1, fun k j => ⟨(h.2.1 k j).1, by have := (h.2.1 k j).2; omega⟩, fun k j hk => h.2.2 k j (by omega)⟩
/-- behind a making -/
theorem ev_made {M : MD} {n0 n1 n N : Nat} {r : Option V × Mem × Mem} {pc : Nat} {ρ σ : Mem} {L st : List V} {p : Program} {l : Launch} {e : Env} {Rm : Room} {s : State} {m : MethodId} {args : Array Value} {below : List Frame} {meth : Method} {c : Code} {A : Nat → Prop} {H H1 : Heap} {locs : List Loc} {D : va_G} {dA : Nat → ClassId} {ad0 ad : Nat → Nat} {ls : Array Slot} {q : Nat} {x : va_E} (C : Cx M n0 n1 p Rm s m args meth c) (K : Cw M D dA n0 ad0 A s) (h : Ch D dA n0 n1 n ad0 ad ρ σ A s.heap H locs) (hl : lv_has ls M.2.2.1 (lz ad 0 L)) (hL : ∀ v ∈ L, okv n v) (hn : L.length = M.2.2.1) (hs : ∀ v ∈ st, okv n v) (hn1 : n < n1) (hN : (shp n).2 = N) (hx : cel dA (adq ad n q) ρ σ n = x) (hP : va_P D vwCl (wl dA ad ρ σ n ++ [(q, x)]) H1) (hD : va_D A (wl dA ad ρ σ n ++ [(q, x)])) (hS : va_S A s.heap H1 locs)
    (hh : Ev M n0 n1 r pc (n + 1) ρ σ L ((2, (n : Int)) :: st)) : W p l e Rm s m args below meth c H1 locs (n - n0 + 1) (szL n - szL n0 + N) (MQ below (Qm n0 n1 r D dA ad0 A) args s (n1 - n0) (szL n1 - szL n0) A) (F0 m pc ls (.ref q :: st.map (rv ad))) := by
  have h90 := h.2.2.2.2.2.2.2.2
  have h0n := h.2.2.2.2.2.2.1
  have a1 : ∀ k, k < n → adq ad n q k = ad k := fun k hk => by unfold adq; rw [if_neg (by omega)]
  have a2 : ∀ k, 100000 ≤ k → adq ad n q k = ad k := fun k hk => by unfold adq; rw [if_neg (by omega)]
  have hw : wl dA (adq ad n q) ρ σ (n + 1) = wl dA ad ρ σ n ++ [(q, x)] := by
    rw [wl_push a1 a2 h.2.2.2.2.2.1.2.1, hx]
    simp [adq]
  have key := hh p l e Rm s m args below meth c A H1 locs D dA ad0 (adq ad n q) ls C K
    ⟨by rw [hw]; exact hP, by rw [hw]; exact hD, hS, fun k hk => by rw [a1 k (by omega)]; exact h.2.2.2.1 k hk, fun k hk => by rw [a2 k hk]; exact h.2.2.2.2.1 k hk, pok_push h.2.2.2.2.2.1, by omega, hn1, h90⟩
    (by rw [lz_agree a1 a2 L 0 hL]; exact hl) (fun v hv => okv_mono (Nat.le_succ n) (hL v hv)) hn (fun v hv => by
      rcases List.mem_cons.mp hv with g | g
      · rw [g]; exact ⟨by omega, by show (n : Int) < ((n + 1 : Nat) : Int); omega⟩
      · exact okv_mono (Nat.le_succ n) (hs v g))
  have q1 : n + 1 - n0 = n - n0 + 1 := by omega
  have q2 : szL (n + 1) - szL n0 = szL n - szL n0 + N := by
    have := szL_mono h0n
    show szL n + (shp n).2 - szL n0 = _
    rw [hN]; omega
  have q3 : ((2, (n : Int)) :: st).map (rv (adq ad n q)) = .ref q :: st.map (rv ad) := by
    rw [List.map_cons, map_agree a1 a2 hs, rv_ref (by omega)]
    simp [adq]
  rw [q1, q2, q3] at key
  exact key
theorem room_made {M : MD} {n0 n1 n N : Nat} {p : Program} {Rm : Room} {s : State} {m : MethodId} {args : Array Value} {meth : Method} {c : Code} (C : Cx M n0 n1 p Rm s m args meth c) (h0 : n0 ≤ n) (hn1 : n < n1) (hN : (shp n).2 = N) : n - n0 + 1 ≤ Rm.cells ∧ szL n - szL n0 + N ≤ Rm.slots := by
  have h1 := C.2.2.2.2.2.2.2.2.2.1
  have h2 := C.2.2.2.2.2.2.2.2.2.2.1
  have h3 := szL_mono h0
  have h4 : szL (n + 1) ≤ szL n1 := szL_mono hn1
  have h5 : szL (n + 1) = szL n + N := by show szL n + (shp n).2 = _; rw [hN]
  omega
theorem ev_new {M : MD} {n0 n1 : Nat} {r : Option V × Mem × Mem} {pc n : Nat} {ρ σ : Mem} {L st : List V} {idx ci N : Nat} {CN : String} {T : u_T} {ty : Nat → FieldType} (hd : decode M.2.1 pc = .ok (.new idx, 3)) (cf : CF ci CN T N ty) (hw : Cond.classLink M.1 idx CN ∈ WS) (hw2 : Cond.instantiable CN N ∈ WS) (hw3 : Cond.initialized CN ∈ WS) (hsh : shp n = (ci + 5, N)) (hn1 : n < n1) (hh : Ev M n0 n1 r (pc + 3) (n + 1) (ρ) (σ) (L) ((2, (n : Int)) :: st)) : Ev M n0 n1 r (pc) (n) (ρ) (σ) (L) (st) := by
  intro p l e Rm s m args below meth c A H locs D dA ad0 ad ls C K h hl hL hn hs
  have hx := C.1
  have hb := C.2.1
  have hr := room_made C h.2.2.2.2.2.2.1 hn1 (show (shp n).2 = N by rw [hsh])
  have hts := C.2.2.2.2.2.1
  refine va_new (D := D) (ci := ci) (fs := (fts ci).map fun t => if t = 2 then Value.null else if t = 1 then .long 0 else .int 0) hx hb hts cf.2.1 ty cf.2.2.1 C.2.2.2.2.1 (hts _ hw) (hts _ hw2) (hts _ hw3) K.1 h.1 h.2.1 h.2.2.1 K.2.2.1 cf.1 (fun j hj => ?_) hr.1 hr.2 hd (fun q H1 hP hD hS => ?_)
  · obtain ⟨h1, h2⟩ := cf.2.2.2.2.2 j hj
    have e : vp_V ((fts ci).map fun t => if t = 2 then Value.null else if t = 1 then .long 0 else .int 0) j = if tgF (ty j) = 2 then Value.null else if tgF (ty j) = 1 then .long 0 else .int 0 := by
      unfold vp_V
      rw [List.getD_eq_getElem?_getD, List.getElem?_map, h1]
      rfl
    rw [e]
    rcases h2 with q | q | q | ⟨_, q⟩ | ⟨_, q⟩ <;> rw [q] <;> rfl
  · refine ev_made C K h hl hL hn hs hn1 (show (shp n).2 = N by rw [hsh]) ?_ hP hD hS hh
    rw [cel_obj hsh]
    congr 2
    apply List.ext_getElem?
    intro i
    simp only [List.getElem?_mapIdx, List.getElem?_map]
    cases hf : (fts ci)[i]? with
    | none => rfl
    | some t =>
      have hfr := h.2.2.2.2.2.1.2.2 n i (Int.le_refl _)
      simp only [Option.map_some, hfr.1, hfr.2]
      have ht3 : t = 0 ∨ t = 1 ∨ t = 2 := by
        have hi : i < N := by rw [← cf.2.2.2.2.1]; exact (List.getElem?_eq_some_iff.mp hf).1
        obtain ⟨g1, g2⟩ := cf.2.2.2.2.2 i hi
        have g3 : t = tgF (ty i) := Option.some.inj (hf.symm.trans g1)
        rw [g3]
        rcases g2 with q | q | q | ⟨_, q⟩ | ⟨_, q⟩ <;> rw [q] <;> simp [tgF]
      rcases ht3 with q | q | q <;> subst q <;> rfl
theorem ev_newi {M : MD} {n0 n1 : Nat} {r : Option V × Mem × Mem} {pc n : Nat} {ρ σ : Mem} {L st : List V} {N : Nat} (hd : decode M.2.1 pc = .ok (.newarray .int, 2)) (hw : Cond.arrayClass .int ∈ WS) (hsh : shp n = (0, N)) (hN : N ≤ 10000) (hn1 : n < n1) (hh : Ev M n0 n1 r (pc + 2) (n + 1) (ρ) (σ) (L) ((2, (n : Int)) :: st)) : Ev M n0 n1 r (pc) (n) (ρ) (σ) (L) ((0, (N : Int)) :: st) := by
  intro p l e Rm s m args below meth c A H locs D dA ad0 ad ls C K h hl hL hn hs
  have hx := C.1
  have hb := C.2.1
  have hr := room_made C h.2.2.2.2.2.2.1 hn1 (show (shp n).2 = N by rw [hsh])
  have hts := C.2.2.2.2.2.1
  have hin : in32 (N : Int) := ⟨by omega, by omega⟩
  refine va_newa (D := D) (tys := TY dA) (atype := .int) (ty := .int) (n := Int32.ofInt (N : Int)) (N' := N) (a0 := (N, .inl fun _ => 0)) hx hb (hts _ hw) rfl K.1 h.1 h.2.1 h.2.2.1 K.2.2.1 (fun cA => rfl) (fun z => by have := (lt32 hin in32_0).mp z; omega) (by show (Int32.ofInt (N : Int)).toInt.toNat = N; rw [oi32 hin]; omega) (by simp [componentBytes]; omega) hr.1 hr.2 hd (fun q cA H1 hK1 hP hD hS => ?_)
  have e1 : cA = dA 0 := by
    have g1 := (hK1.2 (TY dA).length (cA, .int) (by rw [List.getElem?_append_right (Nat.le_refl _), Nat.sub_self]; rfl)).2
    have g2 := (K.1.2 0 (dA 0, .int) rfl).2
    exact Option.some.inj (g1.symm.trans g2)
  subst e1
  refine ev_made C K h hl hL hn (cons_ok hs).2 hn1 (show (shp n).2 = N by rw [hsh]) ?_ hP hD hS hh
  rw [cel_0 hsh]
  have hfr : ∀ j : Int, σ n j = 0 := fun j => (h.2.2.2.2.2.1.2.2 n j (Int.le_refl _)).2
  simp only [hfr]
  rfl
theorem ev_newl {M : MD} {n0 n1 : Nat} {r : Option V × Mem × Mem} {pc n : Nat} {ρ σ : Mem} {L st : List V} {N : Nat} (hd : decode M.2.1 pc = .ok (.newarray .long, 2)) (hw : Cond.arrayClass .long ∈ WS) (hsh : shp n = (1, N)) (hN : N ≤ 10000) (hn1 : n < n1) (hh : Ev M n0 n1 r (pc + 2) (n + 1) (ρ) (σ) (L) ((2, (n : Int)) :: st)) : Ev M n0 n1 r (pc) (n) (ρ) (σ) (L) ((0, (N : Int)) :: st) := by
  intro p l e Rm s m args below meth c A H locs D dA ad0 ad ls C K h hl hL hn hs
  have hx := C.1
  have hb := C.2.1
  have hr := room_made C h.2.2.2.2.2.2.1 hn1 (show (shp n).2 = N by rw [hsh])
  have hts := C.2.2.2.2.2.1
  have hin : in32 (N : Int) := ⟨by omega, by omega⟩
  refine va_newa (D := D) (tys := TY dA) (atype := .long) (ty := .long) (n := Int32.ofInt (N : Int)) (N' := N) (a0 := (N, .inr (.inl fun _ => 0))) hx hb (hts _ hw) rfl K.1 h.1 h.2.1 h.2.2.1 K.2.2.1 (fun cA => rfl) (fun z => by have := (lt32 hin in32_0).mp z; omega) (by show (Int32.ofInt (N : Int)).toInt.toNat = N; rw [oi32 hin]; omega) (by simp [componentBytes]; omega) hr.1 hr.2 hd (fun q cA H1 hK1 hP hD hS => ?_)
  have e1 : cA = dA 1 := by
    have g1 := (hK1.2 (TY dA).length (cA, .long) (by rw [List.getElem?_append_right (Nat.le_refl _), Nat.sub_self]; rfl)).2
    have g2 := (K.1.2 1 (dA 1, .long) rfl).2
    exact Option.some.inj (g1.symm.trans g2)
  subst e1
  refine ev_made C K h hl hL hn (cons_ok hs).2 hn1 (show (shp n).2 = N by rw [hsh]) ?_ hP hD hS hh
  rw [cel_1 hsh]
  have hfr : ∀ j : Int, σ n j = 0 := fun j => (h.2.2.2.2.2.1.2.2 n j (Int.le_refl _)).2
  simp only [hfr]
  rfl
theorem ev_newz {M : MD} {n0 n1 : Nat} {r : Option V × Mem × Mem} {pc n : Nat} {ρ σ : Mem} {L st : List V} {N : Nat} (hd : decode M.2.1 pc = .ok (.newarray .boolean, 2)) (hw : Cond.arrayClass .boolean ∈ WS) (hsh : shp n = (2, N)) (hN : N ≤ 10000) (hn1 : n < n1) (hh : Ev M n0 n1 r (pc + 2) (n + 1) (ρ) (σ) (L) ((2, (n : Int)) :: st)) : Ev M n0 n1 r (pc) (n) (ρ) (σ) (L) ((0, (N : Int)) :: st) := by
  intro p l e Rm s m args below meth c A H locs D dA ad0 ad ls C K h hl hL hn hs
  have hx := C.1
  have hb := C.2.1
  have hr := room_made C h.2.2.2.2.2.2.1 hn1 (show (shp n).2 = N by rw [hsh])
  have hts := C.2.2.2.2.2.1
  have hin : in32 (N : Int) := ⟨by omega, by omega⟩
  refine va_newa (D := D) (tys := TY dA) (atype := .boolean) (ty := .boolean) (n := Int32.ofInt (N : Int)) (N' := N) (a0 := (N, .inl fun _ => 0)) hx hb (hts _ hw) rfl K.1 h.1 h.2.1 h.2.2.1 K.2.2.1 (fun cA => rfl) (fun z => by have := (lt32 hin in32_0).mp z; omega) (by show (Int32.ofInt (N : Int)).toInt.toNat = N; rw [oi32 hin]; omega) (by simp [componentBytes]; omega) hr.1 hr.2 hd (fun q cA H1 hK1 hP hD hS => ?_)
  have e1 : cA = dA 2 := by
    have g1 := (hK1.2 (TY dA).length (cA, .boolean) (by rw [List.getElem?_append_right (Nat.le_refl _), Nat.sub_self]; rfl)).2
    have g2 := (K.1.2 2 (dA 2, .boolean) rfl).2
    exact Option.some.inj (g1.symm.trans g2)
  subst e1
  refine ev_made C K h hl hL hn (cons_ok hs).2 hn1 (show (shp n).2 = N by rw [hsh]) ?_ hP hD hS hh
  rw [cel_2 hsh]
  have hfr : ∀ j : Int, σ n j = 0 := fun j => (h.2.2.2.2.2.1.2.2 n j (Int.le_refl _)).2
  simp only [hfr]
  rfl
theorem ev_newq {M : MD} {n0 n1 : Nat} {r : Option V × Mem × Mem} {pc n : Nat} {ρ σ : Mem} {L st : List V} {N idx : Nat} (hd : decode M.2.1 pc = .ok (.anewarray idx, 3)) (hw : Cond.classLink M.1 idx "ClashDays$Week" ∈ WS) (hsh : shp n = (4, N)) (hN : N ≤ 10000) (hn1 : n < n1) (hh : Ev M n0 n1 r (pc + 3) (n + 1) (ρ) (σ) (L) ((2, (n : Int)) :: st)) : Ev M n0 n1 r (pc) (n) (ρ) (σ) (L) ((0, (N : Int)) :: st) := by
  intro p l e Rm s m args below meth c A H locs D dA ad0 ad ls C K h hl hL hn hs
  have hx := C.1
  have hb := C.2.1
  have hr := room_made C h.2.2.2.2.2.2.1 hn1 (show (shp n).2 = N by rw [hsh])
  have hts := C.2.2.2.2.2.1
  have hin : in32 (N : Int) := ⟨by omega, by omega⟩
  refine va_newq (D := D) (tys := TY dA) (C := "ClashDays$Week") (n := Int32.ofInt (N : Int)) (N' := N) hx hb C.2.2.2.2.1 (hts _ hw) K.2.1.1 K.1 h.1 h.2.1 h.2.2.1 K.2.2.1 (fun z => by have := (lt32 hin in32_0).mp z; omega) (by show (Int32.ofInt (N : Int)).toInt.toNat = N; rw [oi32 hin]; omega) (by omega) hr.1 hr.2 hd (fun q cA H1 hK1 hP hD hS => ?_)
  have e1 : cA = dA 4 := by
    obtain ⟨_, _, _, _, _, g1⟩ := (hK1.2 (TY dA).length (cA, .object "ClashDays$Week") (by rw [List.getElem?_append_right (Nat.le_refl _), Nat.sub_self]; rfl)).2
    obtain ⟨_, _, _, _, _, g2⟩ := (K.1.2 4 (dA 4, .object "ClashDays$Week") rfl).2
    exact Option.some.inj (g1.symm.trans g2)
  subst e1
  refine ev_made C K h hl hL hn (cons_ok hs).2 hn1 (show (shp n).2 = N by rw [hsh]) ?_ hP hD hS hh
  rw [cel_4 hsh]
  have hfr : ∀ j : Int, ρ n j = -1 := fun j => (h.2.2.2.2.2.1.2.2 n j (Int.le_refl _)).1
  simp only [hfr]
  rfl
theorem ev_aast {M : MD} {n0 n1 : Nat} {r : Option V × Mem × Mem} {pc n : Nat} {ρ σ : Mem} {L st : List V} {k v i : Int} {N ci nf NN : Nat} {T : u_T} (hd : decode M.2.1 pc = .ok (.aastore, 1)) (hcl : vwCl[ci]? = some ("ClashDays$Week", T, NN)) (hsh : shp k.toNat = (4, N)) (h0 : 0 ≤ k) (hkn : k < n) (hsv : shp v.toNat = (ci + 5, nf)) (hv0 : 0 ≤ v) (hvn : v < n) (hi : 0 ≤ i ∧ i < N) (hh : Ev M n0 n1 r (pc + 1) (n) (mup ρ k i v) (σ) (L) (st)) : Ev M n0 n1 r (pc) (n) (ρ) (σ) (L) ((2, v) :: (0, i) :: (2, k) :: st) := by
  intro p l e Rm s m args below meth c A H locs D dA ad0 ad ls C K h hl hL hn hs
  have hx := C.1
  have hb := C.2.1
  obtain ⟨z, rfl⟩ := Int.eq_ofNat_of_zero_le h0
  obtain ⟨zv, rfl⟩ := Int.eq_ofNat_of_zero_le hv0
  have hq : z < n := by omega
  have hqv : zv < n := by omega
  have hsq : shp z = (4, N) := by simpa using hsh
  have hsqv : shp zv = (ci + 5, nf) := by simpa using hsv
  have hvp := in32_vp (cons_ok (cons_ok hs).2).1 hi.1 hi.2
  rw [List.map_cons, List.map_cons, List.map_cons, rv_ref h0, rv_ref hv0, Int.toNat_natCast, Int.toNat_natCast]
  have hset : (wl dA ad ρ σ n).set z (ad z, .inl (dA 4, N, .inr (.inr (.inr (.inr (va_up (fun j : Nat => if ρ z j < 0 then none else some (ad (ρ z j).toNat)) (Int32.ofInt i).toNatClampNeg (some (ad zv)))))))) = wl dA ad (mup ρ z i zv) σ n := by
    have e : (va_up (fun j : Nat => if ρ z j < 0 then none else some (ad (ρ z j).toNat)) (Int32.ofInt i).toNatClampNeg (some (ad zv))) = fun j : Nat => if mup ρ z i zv z j < 0 then none else some (ad (mup ρ z i zv z j).toNat) := by
      funext j
      unfold va_up mup
      rw [hvp.2]
      by_cases hj : j = i.toNat
      · have hj2 : (j : Int) = i := by omega
        rw [if_pos hj]
        simp [hj2]
      · have hj2 : ¬ (j : Int) = i := by omega
        rw [if_neg hj]
        simp [hj2]
    rw [e, ← cel_4 (dA := dA) (ad := ad) (σ := σ) hsq]
    exact wl_set fun a _ ha => cel_mupr (ne_cast ha)
  refine va_astq (D := D) (tys := TY dA) hx hb K.1 h.1 h.2.1 h.2.2.1 z 4 zv ci (by rw [wl_get hq, cel_4 hsq]) rfl (by rw [wl_get hqv, cel_obj hsqv]) hcl hvp.1 hd (fun H1 locs1 hP hD hS => ?_)
  rw [hset] at hP hD
  exact hh p l e Rm s m args below meth c A H1 locs1 D dA ad0 ad ls C K ⟨hP, hD, hS, h.2.2.2.1, h.2.2.2.2.1, pok_mupr h.2.2.2.2.2.1 hkn ⟨by omega, hvn⟩, h.2.2.2.2.2.2⟩ hl hL hn (cons_ok (cons_ok (cons_ok hs).2).2).2
theorem ev_oinit {M : MD} {n0 n1 : Nat} {r : Option V × Mem × Mem} {pc n : Nat} {ρ σ : Mem} {L st : List V} {k : Int} {idx : Nat} (hd : decode M.2.1 pc = .ok (.invokespecial idx, 3)) (hw : Cond.methodLink M.1 idx Lib.objectInit ∈ WS) (hw2 : Cond.instanceMethod Lib.objectInit ∈ WS) (hw3 : Cond.code Lib.objectInit ⟨#[0xb1]⟩ 1 none ∈ WS) (h0 : 0 ≤ k) (hM : 1 ≤ M.2.2.2.2.1 ∧ 20 ≤ M.2.2.2.2.2.1) (hst : st.length ≤ 4) (hh : Ev M n0 n1 r (pc + 3) (n) (ρ) (σ) (L) (st)) : Ev M n0 n1 r (pc) (n) (ρ) (σ) (L) ((2, k) :: st) := by
  intro p l e Rm s m args below meth c A H locs D dA ad0 ad ls C K h hl hL hn hs
  have hx := C.1
  have hb := C.2.1
  have hts := C.2.2.2.2.2.1
  rw [List.map_cons, rv_ref h0]
  refine W.objInit hx hb C.2.2.2.2.1 (hts _ hw) (hts _ hw2) (hts _ hw3) rfl (by show ls.size = c.maxLocals; rw [C.2.2.2.1]; exact hl.1) rfl hd (by have := C.2.2.2.2.2.2.2.1; omega) (by have h1 := C.2.2.2.2.2.2.2.2.1; have h2 := cat_sum (ad := ad) hst; show 2 * 0 + _ + 12 ≤ _; omega) ?_
  exact hh p l e Rm s m args below meth c A H locs D dA ad0 ad ls C K h hl hL hn (cons_ok hs).2
def scrX (N : Nat) (xs : Nat → Int32) : State → (Nat → Prop) → (Nat → Nat) → Prop := fun s A ad0 => va_X (ad0 300000) N xs s s.heap ∧ ad0 300000 < s.heap.size ∧ ¬ A (ad0 300000)
theorem ev_scl {M : MD} {n0 n1 : Nat} {r : Option V × Mem × Mem} {pc n : Nat} {ρ σ : Mem} {L st : List V} {N : Nat} {xs : Nat → Int32} (hd : decode M.2.1 pc = .ok (.arraylength, 1)) (hex : M.2.2.2.2.2.2.2 = scrX N xs) (hN : (N : Int) ≤ 2147483647) (hh : Ev M n0 n1 r (pc + 1) (n) (ρ) (σ) (L) ((0, (N : Int)) :: st)) : Ev M n0 n1 r (pc) (n) (ρ) (σ) (L) ((3, 200000) :: st) := by
  intro p l e Rm s m args below meth c A H locs D dA ad0 ad ls C K h hl hL hn hs
  have hx := C.1
  have hb := C.2.1
  have hX := K.2.2.2.2
  rw [hex] at hX
  have h2 := hh p l e Rm s m args below meth c A H locs D dA ad0 ad ls C K h hl hL hn (ok_cons (show okv n (0, (N : Int)) from ⟨by omega, hN⟩) (cons_ok hs).2)
  rw [List.map_cons, show rv ad (3, 200000) = .ref (ad 300000) from rfl, h.2.2.2.2.1 _ (by omega)]
  exact va_slen hx hb hX.1 hX.2.1 hX.2.2 h.2.2.1 hd h2
theorem ev_scld {M : MD} {n0 n1 : Nat} {r : Option V × Mem × Mem} {pc n : Nat} {ρ σ : Mem} {L st : List V} {α : Type} {X : Option α} {q : α} {i : Int} {N : Nat} {xs : Nat → Int32} (hd : decode M.2.1 pc = .ok (.iaload, 1)) (hex : M.2.2.2.2.2.2.2 = scrX N xs) (hf : chk (0 ≤ i ∧ i < N) X = some q) (hh : X = some q → Ev M n0 n1 r (pc + 1) (n) (ρ) (σ) (L) ((0, (xs i.toNat).toInt) :: st)) : Ev M n0 n1 r (pc) (n) (ρ) (σ) (L) ((0, i) :: (3, 200000) :: st) := by
  intro p l e Rm s m args below meth c A H locs D dA ad0 ad ls C K h hl hL hn hs
  have hx := C.1
  have hb := C.2.1
  obtain ⟨hi, hf⟩ := chk_of hf
  have hX := K.2.2.2.2
  rw [hex] at hX
  have hvp := in32_vp (cons_ok hs).1 hi.1 hi.2
  have h2 := hh hf p l e Rm s m args below meth c A H locs D dA ad0 ad ls C K h hl hL hn (ok_cons (show okv n (0, (xs i.toNat).toInt) from ti32 _) (cons_ok (cons_ok hs).2).2)
  rw [List.map_cons, show rv ad (0, (xs i.toNat).toInt) = .int (Int32.ofInt (xs i.toNat).toInt) from rfl, Int32.ofInt_toInt] at h2
  rw [List.map_cons, List.map_cons, show rv ad (3, 200000) = .ref (ad 300000) from rfl, h.2.2.2.2.1 _ (by omega)]
  refine va_sld hx hb hX.1 hX.2.1 hX.2.2 h.2.2.1 hvp.1 hd ?_
  rw [hvp.2]
  exact h2
def mx (x y : Int) : Int := if x < y then y else x
theorem ev_mx {M : MD} {n0 n1 : Nat} {r : Option V × Mem × Mem} {pc n : Nat} {ρ σ : Mem} {L st : List V} {idx : Nat} {x y : Int} (hd : decode M.2.1 pc = .ok (.invokestatic idx, 3)) (hw : Cond.methodLink M.1 idx Lib.Math.max.name ∈ WS) (hw2 : Cond.static Lib.Math.max.name ∈ WS ∧ Cond.initialized "java/lang/Math" ∈ WS ∧ Cond.code Lib.Math.max.name Lib.Math.max.code 2 (some .int) ∈ WS) (hM : 1 ≤ M.2.2.2.2.1 ∧ 21 ≤ M.2.2.2.2.2.1) (hst : st.length ≤ 4) (hh : Ev M n0 n1 r (pc + 3) (n) (ρ) (σ) (L) ((0, mx x y) :: st)) : Ev M n0 n1 r (pc) (n) (ρ) (σ) (L) ((0, y) :: (0, x) :: st) := by
  intro p l e Rm s m args below meth c A H locs D dA ad0 ad ls C K h hl hL hn hs
  have hx := C.1
  have hb := C.2.1
  have hts := C.2.2.2.2.2.1
  have hv : okv n (0, mx x y) := by
    unfold mx
    split
    · exact (cons_ok hs).1
    · exact (cons_ok (cons_ok hs).2).1
  have h2 := hh p l e Rm s m args below meth c A H locs D dA ad0 ad ls C K h hl hL hn (ok_cons hv (cons_ok (cons_ok hs).2).2)
  refine va_mmax hx hb (by show c.maxLocals = ls.size; rw [C.2.2.2.1]; exact hl.1.symm) C.2.2.2.2.1 (hts _ hw) (hts _ hw2.1) (hts _ hw2.2.1) (hts _ hw2.2.2) (by have := C.2.2.2.2.2.2.2.1; omega) (by have h1 := C.2.2.2.2.2.2.2.2.1; have h2 := cat_sum (ad := ad) hst; omega) ?_ ?_ hd ?_
  · have := C.2.2.2.2.2.2.2.2.2.1; have := h.2.2.2.2.2.2.1; have := h.2.2.2.2.2.2.2.1; omega
  · have := C.2.2.2.2.2.2.2.2.2.2.1; have := szL_mono h.2.2.2.2.2.2.1; have := szL_mono h.2.2.2.2.2.2.2.1; omega
  · have e : (if Int32.ofInt x < Int32.ofInt y then Int32.ofInt y else Int32.ofInt x) = Int32.ofInt (mx x y) := by
      unfold mx
      by_cases hc : x < y
      · rw [if_pos hc, if_pos ((lt32 (cons_ok (cons_ok hs).2).1 (cons_ok hs).1).mpr hc)]
      · rw [if_neg hc, if_neg (fun z => hc ((lt32 (cons_ok (cons_ok hs).2).1 (cons_ok hs).1).mp z))]
    rw [e]
    exact h2
def mn (x y : Int) : Int := if y < x then y else x
theorem ev_mn {M : MD} {n0 n1 : Nat} {r : Option V × Mem × Mem} {pc n : Nat} {ρ σ : Mem} {L st : List V} {idx : Nat} {x y : Int} (hd : decode M.2.1 pc = .ok (.invokestatic idx, 3)) (hw : Cond.methodLink M.1 idx Lib.Math.min.name ∈ WS) (hw2 : Cond.static Lib.Math.min.name ∈ WS ∧ Cond.initialized "java/lang/Math" ∈ WS ∧ Cond.code Lib.Math.min.name Lib.Math.min.code 2 (some .int) ∈ WS) (hM : 1 ≤ M.2.2.2.2.1 ∧ 21 ≤ M.2.2.2.2.2.1) (hst : st.length ≤ 4) (hh : Ev M n0 n1 r (pc + 3) (n) (ρ) (σ) (L) ((0, mn x y) :: st)) : Ev M n0 n1 r (pc) (n) (ρ) (σ) (L) ((0, y) :: (0, x) :: st) := by
  intro p l e Rm s m args below meth c A H locs D dA ad0 ad ls C K h hl hL hn hs
  have hx := C.1
  have hb := C.2.1
  have hts := C.2.2.2.2.2.1
  have hv : okv n (0, mn x y) := by
    unfold mn
    split
    · exact (cons_ok hs).1
    · exact (cons_ok (cons_ok hs).2).1
  have h2 := hh p l e Rm s m args below meth c A H locs D dA ad0 ad ls C K h hl hL hn (ok_cons hv (cons_ok (cons_ok hs).2).2)
  refine va_mmin hx hb (by show c.maxLocals = ls.size; rw [C.2.2.2.1]; exact hl.1.symm) C.2.2.2.2.1 (hts _ hw) (hts _ hw2.1) (hts _ hw2.2.1) (hts _ hw2.2.2) (by have := C.2.2.2.2.2.2.2.1; omega) (by have h1 := C.2.2.2.2.2.2.2.2.1; have h2 := cat_sum (ad := ad) hst; omega) ?_ ?_ hd ?_
  · have := C.2.2.2.2.2.2.2.2.2.1; have := h.2.2.2.2.2.2.1; have := h.2.2.2.2.2.2.2.1; omega
  · have := C.2.2.2.2.2.2.2.2.2.2.1; have := szL_mono h.2.2.2.2.2.2.1; have := szL_mono h.2.2.2.2.2.2.2.1; omega
  · have e : (if Int32.ofInt y < Int32.ofInt x then Int32.ofInt y else Int32.ofInt x) = Int32.ofInt (mn x y) := by
      unfold mn
      by_cases hc : y < x
      · rw [if_pos hc, if_pos ((lt32 (cons_ok hs).1 (cons_ok (cons_ok hs).2).1).mpr hc)]
      · rw [if_neg hc, if_neg (fun z => hc ((lt32 (cons_ok hs).1 (cons_ok (cons_ok hs).2).1).mp z))]
    rw [e]
    exact h2
theorem ev_invV_v {M : MD} {n0 : Nat} {r : Option V × Mem × Mem} {pc n : Nat} {ρ σ τ : Mem} {L st : List V} {idx : Nat} {y : MethodName} {My : MD} {k : Int} {av : List V} {v : V} (hd : decode M.2.1 pc = .ok (.invokevirtual idx, 3)) (hw : ML M.1 idx y My) (hv : MLv y) {ci nf N : Nat} {T : u_T} (hcl : vwCl[ci]? = some (y.cls, T, N)) (hsh : shp k.toNat = (ci + 5, nf)) (h0 : 0 ≤ k) (hkn : k < n) (hsg : (parseMethodDescriptor y.desc).map (fun d => d.parameters.length) = some av.length) (hR : rmOk M My) (hst : st.length ≤ 4) (hm : Ms y My n n ((2, k) :: av) ρ σ (some v, ρ, τ)) (hh : Ev M n0 n r (pc + 3) n ρ (τ) L (v :: st)) : Ev M n0 n r (pc) n ρ (σ) L (av.reverse ++ (2, k) :: st) := ev_invV hd hw hv hcl hsh h0 hkn hsg hR hst hm ⟨Nat.le_refl _, Nat.le_refl _⟩ hh
theorem ev_invV_n {M : MD} {n0 : Nat} {r : Option V × Mem × Mem} {pc n : Nat} {ρ σ τ : Mem} {L st : List V} {idx : Nat} {y : MethodName} {My : MD} {k : Int} {av : List V} (hd : decode M.2.1 pc = .ok (.invokevirtual idx, 3)) (hw : ML M.1 idx y My) (hv : MLv y) {ci nf N : Nat} {T : u_T} (hcl : vwCl[ci]? = some (y.cls, T, N)) (hsh : shp k.toNat = (ci + 5, nf)) (h0 : 0 ≤ k) (hkn : k < n) (hsg : (parseMethodDescriptor y.desc).map (fun d => d.parameters.length) = some av.length) (hR : rmOk M My) (hst : st.length ≤ 4) (hm : Ms y My n n ((2, k) :: av) ρ σ (none, ρ, τ)) (hh : Ev M n0 n r (pc + 3) n ρ (τ) L (st)) : Ev M n0 n r (pc) n ρ (σ) L (av.reverse ++ (2, k) :: st) := ev_invV hd hw hv hcl hsh h0 hkn hsg hR hst hm ⟨Nat.le_refl _, Nat.le_refl _⟩ hh
theorem ev_invS_v {M : MD} {n0 : Nat} {r : Option V × Mem × Mem} {pc n : Nat} {ρ σ τ : Mem} {L st : List V} {idx : Nat} {y : MethodName} {My : MD} {av : List V} {v : V} (hd : decode M.2.1 pc = .ok (.invokestatic idx, 3)) (hw : ML M.1 idx y My) (hv : Cond.static y ∈ WS) (hsg : (parseMethodDescriptor y.desc).map (fun d => d.parameters.length) = some av.length) (hR : rmOk M My) (hst : st.length ≤ 4) (hm : Ms y My n n (av) ρ σ (some v, ρ, τ)) (hh : Ev M n0 n r (pc + 3) n ρ (τ) L (v :: st)) : Ev M n0 n r (pc) n ρ (σ) L (av.reverse ++ st) := ev_invS hd hw hv hsg hR hst hm ⟨Nat.le_refl _, Nat.le_refl _⟩ hh
theorem ev_invS_n {M : MD} {n0 : Nat} {r : Option V × Mem × Mem} {pc n : Nat} {ρ σ τ : Mem} {L st : List V} {idx : Nat} {y : MethodName} {My : MD} {av : List V} (hd : decode M.2.1 pc = .ok (.invokestatic idx, 3)) (hw : ML M.1 idx y My) (hv : Cond.static y ∈ WS) (hsg : (parseMethodDescriptor y.desc).map (fun d => d.parameters.length) = some av.length) (hR : rmOk M My) (hst : st.length ≤ 4) (hm : Ms y My n n (av) ρ σ (none, ρ, τ)) (hh : Ev M n0 n r (pc + 3) n ρ (τ) L (st)) : Ev M n0 n r (pc) n ρ (σ) L (av.reverse ++ st) := ev_invS hd hw hv hsg hR hst hm ⟨Nat.le_refl _, Nat.le_refl _⟩ hh
theorem ev_invSN_v {M : MD} {n0 : Nat} {r : Option V × Mem × Mem} {pc n : Nat} {ρ σ τ : Mem} {L st : List V} {idx : Nat} {y : MethodName} {My : MD} {av : List V} {v : V} (hd : decode M.2.1 pc = .ok (.invokestatic idx, 3)) (hw : MLn M.1 idx y My) (hv : Cond.static y ∈ WS) (hsg : (parseMethodDescriptor y.desc).map (fun d => d.parameters.length) = some av.length) (hR : rmOk M My) (hst : st.length ≤ 4) (hm : Ms y My n n (av) ρ σ (some v, ρ, τ)) (hh : Ev M n0 n r (pc + 3) n ρ (τ) L (v :: st)) : Ev M n0 n r (pc) n ρ (σ) L (av.reverse ++ st) := ev_invSN hd hw hv hsg hR hst hm ⟨Nat.le_refl _, Nat.le_refl _⟩ hh
theorem ev_invSN_n {M : MD} {n0 : Nat} {r : Option V × Mem × Mem} {pc n : Nat} {ρ σ τ : Mem} {L st : List V} {idx : Nat} {y : MethodName} {My : MD} {av : List V} (hd : decode M.2.1 pc = .ok (.invokestatic idx, 3)) (hw : MLn M.1 idx y My) (hv : Cond.static y ∈ WS) (hsg : (parseMethodDescriptor y.desc).map (fun d => d.parameters.length) = some av.length) (hR : rmOk M My) (hst : st.length ≤ 4) (hm : Ms y My n n (av) ρ σ (none, ρ, τ)) (hh : Ev M n0 n r (pc + 3) n ρ (τ) L (st)) : Ev M n0 n r (pc) n ρ (σ) L (av.reverse ++ st) := ev_invSN hd hw hv hsg hR hst hm ⟨Nat.le_refl _, Nat.le_refl _⟩ hh
end
section
/-! THE LAW'S OWN JUDGEMENT: the class' world, and the law's arrays beside it (by number: shape (0, N) an int[N], (3, N) an int[N][]) -/
abbrev XS : Type := Nat → Nat × Nat
/-- the law's memory: how many places of the class' world, its references, its numbers; how many arrays, their references, their numbers -/
abbrev LM : Type := Nat × Mem × Mem × Nat × Mem × Mem
def xel (S : XS) (dA : Nat → ClassId) (ad : Nat → Nat) (η ξ : Mem) (x : Nat) : va_E := match S x with
  | (0, n) => .inl (dA 0, n, .inl fun j => Int32.ofInt (ξ x j))
  | (_, n) => .inl (dA 3, n, .inr (.inr (.inr (.inr fun j => if η x j < 0 then none else some (ad (100000 + (η x j).toNat))))))
def xl (S : XS) (dA : Nat → ClassId) (ad : Nat → Nat) (η ξ : Mem) (nx : Nat) : va_W := (List.range nx).map fun x => (ad (100000 + x), xel S dA ad η ξ x)
def ww (S : XS) (dA : Nat → ClassId) (ad : Nat → Nat) (μ : LM) : va_W := wl dA ad μ.2.1 μ.2.2.1 μ.1 ++ xl S dA ad μ.2.2.2.2.1 μ.2.2.2.2.2 μ.2.2.2.1
def xz (S : XS) : Nat → Nat
  | 0 => 0
  | x + 1 => xz S x + (S x).2
def pokx (nx : Nat) (η ξ : Mem) : Prop := (∀ x j : Int, in32 (ξ x j)) ∧ (∀ x j : Int, -1 ≤ η x j ∧ η x j < nx) ∧ ∀ x j : Int, nx ≤ x → η x j = -1 ∧ ξ x j = 0
def Cxl (S : XS) (M : MD) (z0 z1 : Nat × Nat) (p : Program) (Rm : Room) (s : State) (m : MethodId) (args : Array Value) (meth : Method) (c : Code) : Prop :=
  p.tables.exec = Jvm.exec ∧ c.code = M.2.1 ∧ meth.sig.returnType = M.2.2.2.1 ∧ c.maxLocals = M.2.2.1 ∧ s.vm.findClass M.1 = some m.cls ∧ (∀ w ∈ WS, w.before args s = true) ∧ meth.locks = false ∧ M.2.2.2.2.1 ≤ Rm.frames ∧ M.2.2.2.2.2.1 ≤ Rm.locals ∧ z1.1 - z0.1 + (z1.2 - z0.2) ≤ Rm.cells ∧ szL z1.1 - szL z0.1 + (xz S z1.2 - xz S z0.2) ≤ Rm.slots ∧ (M.2.2.2.2.2.2.1 = true → meth.name = "<init>")
def Cwl (M : MD) (D : va_G) (dA : Nat → ClassId) (z0 z1 : Nat × Nat) (ad0 : Nat → Nat) (A : Nat → Prop) (s : State) : Prop := va_K D vwCl (TY dA) s ∧ Sk ad0 A s s.heap ∧ (∀ q, s.heap.size ≤ q → A q) ∧ M.2.2.2.2.2.2.2 s A ad0 ∧ ∀ x, z0.2 ≤ x → x < z1.2 → ad0 (100000 + x) = s.heap.size + (x - z0.2)
def Chl (S : XS) (b : Bool) (D : va_G) (dA : Nat → ClassId) (z0 z1 : Nat × Nat) (μ : LM) (ad0 ad : Nat → Nat) (A : Nat → Prop) (H0 H : Heap) (locs : List Loc) : Prop := va_P D vwCl (ww S dA ad μ) H ∧ va_D A (ww S dA ad μ) ∧ va_S A H0 H locs ∧ (∀ k, k < z0.1 → ad k = ad0 k) ∧ (∀ k, 100000 ≤ k → ad k = ad0 k) ∧ pok μ.1 μ.2.1 μ.2.2.1 ∧ z0.1 ≤ μ.1 ∧ μ.1 ≤ z1.1 ∧ z1.1 ≤ 90000 ∧ pokx μ.2.2.2.1 μ.2.2.2.2.1 μ.2.2.2.2.2 ∧ z0.2 ≤ μ.2.2.2.1 ∧ μ.2.2.2.1 ≤ z1.2 ∧ z1.2 ≤ 90000 ∧ (b = true → H.size = H0.size + (μ.1 - z0.1) + (μ.2.2.2.1 - z0.2))
def Afl (z0 : Nat × Nat) (ad0 : Nat → Nat) (sz : Nat) : Nat → Prop := fun q => (∃ k, k < z0.1 ∧ q = ad0 k) ∨ (∃ x, x < z0.2 ∧ q = ad0 (100000 + x)) ∨ sz ≤ q
def Qml (S : XS) (κ : Bool) (z0 z1 : Nat × Nat) (r : Option V × LM) (D : va_G) (dA : Nat → ClassId) (ad0 : Nat → Nat) (A : Nat → Prop) : Array Value → State → Outcome → State → Prop := fun _ st oc t =>
  (∃ ad : Nat → Nat, (∀ k, k < z0.1 → ad k = ad0 k) ∧ (∀ k, 100000 ≤ k → ad k = ad0 k) ∧ oc = .returned (r.1.map (rv ad)) ∧ (∀ v, r.1 = some v → okv z1.1 v) ∧ va_P D vwCl (ww S dA ad r.2) t.heap ∧ va_D A (ww S dA ad r.2) ∧ pok z1.1 r.2.2.1 r.2.2.2.1 ∧ pokx z1.2 r.2.2.2.2.2.1 r.2.2.2.2.2.2 ∧ (r.2.1 = z1.1 ∧ r.2.2.2.2.1 = z1.2) ∧ (κ = true → t.heap.size = st.heap.size + (z1.1 - z0.1) + (z1.2 - z0.2))) ∧ va_F A st t
/-- FROM HERE IT COMES TO r, in the law's own methods -/
def El (S : XS) (M : MD) (f : Bool × Bool) (z0 z1 : Nat × Nat) (r : Option V × LM) (pc : Nat) (μ : LM) (L st : List V) : Prop :=
  ∀ (p : Program) (l : Launch) (e : Env) (Rm : Room) (s : State) (m : MethodId) (args : Array Value) (below : List Frame) (meth : Method) (c : Code) (A : Nat → Prop) (H : Heap) (locs : List Loc) (D : va_G) (dA : Nat → ClassId) (ad0 ad : Nat → Nat) (ls : Array Slot),
    Cxl S M z0 z1 p Rm s m args meth c → Cwl M D dA z0 z1 ad0 A s → Chl S f.2 D dA z0 z1 μ ad0 ad A s.heap H locs → lv_has ls M.2.2.1 (lz ad 0 L) → (∀ v ∈ L, okv μ.1 v) → L.length = M.2.2.1 → (∀ v ∈ st, okv μ.1 v) →
    W p l e Rm s m args below meth c H locs (μ.1 - z0.1 + (μ.2.2.2.1 - z0.2)) (szL μ.1 - szL z0.1 + (xz S μ.2.2.2.1 - xz S z0.2)) (MQ below (Qml S f.1 z0 z1 r D dA ad0 A) args s (z1.1 - z0.1 + (z1.2 - z0.2)) (szL z1.1 - szL z0.1 + (xz S z1.2 - xz S z0.2)) A) (F0 m pc ls (st.map (rv ad)))
theorem el_iconst {S : XS} {M : MD} {f : Bool × Bool} {z0 z1 : Nat × Nat} {r : Option V × LM} {pc : Nat} {μ : LM} {L st : List V} {k : Int} (hd : decode M.2.1 pc = .ok (.iconst k, 1)) (hv : in32 k) (hh : El S M f z0 z1 r (pc + 1) μ (L) ((0, k) :: st)) : El S M f z0 z1 r (pc) μ (L) (st) := by
  intro p l e Rm s m args below meth c A H locs D dA ad0 ad ls C K h hl hL hn hs
  have hx := C.1
  have hb := C.2.1
  exact lv_iconst hx hb hd rfl (hh p l e Rm s m args below meth c A H locs D dA ad0 ad ls C K h hl hL hn (ok_cons hv hs))
theorem el_bipush {S : XS} {M : MD} {f : Bool × Bool} {z0 z1 : Nat × Nat} {r : Option V × LM} {pc : Nat} {μ : LM} {L st : List V} {k : Int} (hd : decode M.2.1 pc = .ok (.bipush k, 2)) (hv : in32 k) (hw : (Int8.ofInt k).toInt32 = Int32.ofInt k) (hh : El S M f z0 z1 r (pc + 2) μ (L) ((0, k) :: st)) : El S M f z0 z1 r (pc) μ (L) (st) := by
  intro p l e Rm s m args below meth c A H locs D dA ad0 ad ls C K h hl hL hn hs
  have hx := C.1
  have hb := C.2.1
  exact lv_bipush hx hb hd hw (hh p l e Rm s m args below meth c A H locs D dA ad0 ad ls C K h hl hL hn (ok_cons hv hs))
theorem el_sipush {S : XS} {M : MD} {f : Bool × Bool} {z0 z1 : Nat × Nat} {r : Option V × LM} {pc : Nat} {μ : LM} {L st : List V} {k : Int} (hd : decode M.2.1 pc = .ok (.sipush k, 3)) (hv : in32 k) (hw : (Int16.ofInt k).toInt32 = Int32.ofInt k) (hh : El S M f z0 z1 r (pc + 3) μ (L) ((0, k) :: st)) : El S M f z0 z1 r (pc) μ (L) (st) := by
  intro p l e Rm s m args below meth c A H locs D dA ad0 ad ls C K h hl hL hn hs
  have hx := C.1
  have hb := C.2.1
  exact lv_sipush hx hb hd hw (hh p l e Rm s m args below meth c A H locs D dA ad0 ad ls C K h hl hL hn (ok_cons hv hs))
theorem el_lconst {S : XS} {M : MD} {f : Bool × Bool} {z0 z1 : Nat × Nat} {r : Option V × LM} {pc : Nat} {μ : LM} {L st : List V} {k : Fin 2} {x : Int} (hd : decode M.2.1 pc = .ok (.lconst k, 1)) (hv : in64 x) (hw : Int64.ofNat (k : Nat) = Int64.ofInt x) (hh : El S M f z0 z1 r (pc + 1) μ (L) ((1, x) :: st)) : El S M f z0 z1 r (pc) μ (L) (st) := by
  intro p l e Rm s m args below meth c A H locs D dA ad0 ad ls C K h hl hL hn hs
  have hx := C.1
  have hb := C.2.1
  exact lv_lconst hx hb hd hw (hh p l e Rm s m args below meth c A H locs D dA ad0 ad ls C K h hl hL hn (ok_cons hv hs))
theorem el_ldc {S : XS} {M : MD} {f : Bool × Bool} {z0 z1 : Nat × Nat} {r : Option V × LM} {pc : Nat} {μ : LM} {L st : List V} {k : Nat} {z : Int32} {x : Int} (hd : decode M.2.1 pc = .ok (.ldc k, 2)) (hw : Cond.constant M.1 k z ∈ WS) (hz : z = Int32.ofInt x) (hv : in32 x) (hh : El S M f z0 z1 r (pc + 2) μ (L) ((0, x) :: st)) : El S M f z0 z1 r (pc) μ (L) (st) := by
  intro p l e Rm s m args below meth c A H locs D dA ad0 ad ls C K h hl hL hn hs
  have hx := C.1
  have hb := C.2.1
  subst hz
  exact lv_ldc hx hb C.2.2.2.2.1 (C.2.2.2.2.2.1 _ hw) hd (hh p l e Rm s m args below meth c A H locs D dA ad0 ad ls C K h hl hL hn (ok_cons hv hs))
theorem el_ldcw {S : XS} {M : MD} {f : Bool × Bool} {z0 z1 : Nat × Nat} {r : Option V × LM} {pc : Nat} {μ : LM} {L st : List V} {k : Nat} {z : Int32} {x : Int} (hd : decode M.2.1 pc = .ok (.ldc_w k, 3)) (hw : Cond.constant M.1 k z ∈ WS) (hz : z = Int32.ofInt x) (hv : in32 x) (hh : El S M f z0 z1 r (pc + 3) μ (L) ((0, x) :: st)) : El S M f z0 z1 r (pc) μ (L) (st) := by
  intro p l e Rm s m args below meth c A H locs D dA ad0 ad ls C K h hl hL hn hs
  have hx := C.1
  have hb := C.2.1
  subst hz
  exact lv_ldcw hx hb C.2.2.2.2.1 (C.2.2.2.2.2.1 _ hw) hd (hh p l e Rm s m args below meth c A H locs D dA ad0 ad ls C K h hl hL hn (ok_cons hv hs))
theorem el_ldc2 {S : XS} {M : MD} {f : Bool × Bool} {z0 z1 : Nat × Nat} {r : Option V × LM} {pc : Nat} {μ : LM} {L st : List V} {k : Nat} {z : Int64} {x : Int} (hd : decode M.2.1 pc = .ok (.ldc2_w k, 3)) (hw : Cond.constantLong M.1 k z ∈ WS) (hz : z = Int64.ofInt x) (hv : in64 x) (hh : El S M f z0 z1 r (pc + 3) μ (L) ((1, x) :: st)) : El S M f z0 z1 r (pc) μ (L) (st) := by
  intro p l e Rm s m args below meth c A H locs D dA ad0 ad ls C K h hl hL hn hs
  have hx := C.1
  have hb := C.2.1
  subst hz
  exact lv_ldc2 hx hb C.2.2.2.2.1 (C.2.2.2.2.2.1 _ hw) hd (hh p l e Rm s m args below meth c A H locs D dA ad0 ad ls C K h hl hL hn (ok_cons hv hs))
theorem el_iload_n {S : XS} {M : MD} {f : Bool × Bool} {z0 z1 : Nat × Nat} {r : Option V × LM} {pc : Nat} {μ : LM} {L st : List V} {k : Fin 4} {x : Int} (hd : decode M.2.1 pc = .ok (.iload_n k, 1)) (hi : L[(k : Nat)]? = some (0, x)) (hh : El S M f z0 z1 r (pc + 1) μ (L) ((0, x) :: st)) : El S M f z0 z1 r (pc) μ (L) (st) := by
  intro p l e Rm s m args below meth c A H locs D dA ad0 ad ls C K h hl hL hn hs
  have hx := C.1
  have hb := C.2.1
  exact lv_iload_n hx hb hd rfl (lok_at hl hi (fun q => by cases q)) (hh p l e Rm s m args below meth c A H locs D dA ad0 ad ls C K h hl hL hn (ok_cons (hL _ (List.mem_of_getElem? hi)) hs))
theorem el_iload {S : XS} {M : MD} {f : Bool × Bool} {z0 z1 : Nat × Nat} {r : Option V × LM} {pc : Nat} {μ : LM} {L st : List V} {k : Nat} {x : Int} (hd : decode M.2.1 pc = .ok (.iload k, 2)) (hi : L[k]? = some (0, x)) (hh : El S M f z0 z1 r (pc + 2) μ (L) ((0, x) :: st)) : El S M f z0 z1 r (pc) μ (L) (st) := by
  intro p l e Rm s m args below meth c A H locs D dA ad0 ad ls C K h hl hL hn hs
  have hx := C.1
  have hb := C.2.1
  exact lv_iload hx hb hd (lok_at hl hi (fun q => by cases q)) (hh p l e Rm s m args below meth c A H locs D dA ad0 ad ls C K h hl hL hn (ok_cons (hL _ (List.mem_of_getElem? hi)) hs))
theorem el_lload_n {S : XS} {M : MD} {f : Bool × Bool} {z0 z1 : Nat × Nat} {r : Option V × LM} {pc : Nat} {μ : LM} {L st : List V} {k : Fin 4} {x : Int} (hd : decode M.2.1 pc = .ok (.lload_n k, 1)) (hi : L[(k : Nat)]? = some (1, x)) (hh : El S M f z0 z1 r (pc + 1) μ (L) ((1, x) :: st)) : El S M f z0 z1 r (pc) μ (L) (st) := by
  intro p l e Rm s m args below meth c A H locs D dA ad0 ad ls C K h hl hL hn hs
  have hx := C.1
  have hb := C.2.1
  exact lv_lload_n hx hb hd rfl (lok_at hl hi (fun q => by cases q)) (hh p l e Rm s m args below meth c A H locs D dA ad0 ad ls C K h hl hL hn (ok_cons (hL _ (List.mem_of_getElem? hi)) hs))
theorem el_lload {S : XS} {M : MD} {f : Bool × Bool} {z0 z1 : Nat × Nat} {r : Option V × LM} {pc : Nat} {μ : LM} {L st : List V} {k : Nat} {x : Int} (hd : decode M.2.1 pc = .ok (.lload k, 2)) (hi : L[k]? = some (1, x)) (hh : El S M f z0 z1 r (pc + 2) μ (L) ((1, x) :: st)) : El S M f z0 z1 r (pc) μ (L) (st) := by
  intro p l e Rm s m args below meth c A H locs D dA ad0 ad ls C K h hl hL hn hs
  have hx := C.1
  have hb := C.2.1
  exact lv_lload hx hb hd (lok_at hl hi (fun q => by cases q)) (hh p l e Rm s m args below meth c A H locs D dA ad0 ad ls C K h hl hL hn (ok_cons (hL _ (List.mem_of_getElem? hi)) hs))
theorem el_aload_n {S : XS} {M : MD} {f : Bool × Bool} {z0 z1 : Nat × Nat} {r : Option V × LM} {pc : Nat} {μ : LM} {L st : List V} {k : Fin 4} {x : Int} (hd : decode M.2.1 pc = .ok (.aload_n k, 1)) (hi : L[(k : Nat)]? = some (2, x)) (h0 : 0 ≤ x) (hh : El S M f z0 z1 r (pc + 1) μ (L) ((2, x) :: st)) : El S M f z0 z1 r (pc) μ (L) (st) := by
  intro p l e Rm s m args below meth c A H locs D dA ad0 ad ls C K h hl hL hn hs
  have hx := C.1
  have hb := C.2.1
  have h2 := hh p l e Rm s m args below meth c A H locs D dA ad0 ad ls C K h hl hL hn (ok_cons (hL _ (List.mem_of_getElem? hi)) hs)
  rw [List.map_cons, rv_ref h0] at h2
  exact lv_aload_n hx hb hd rfl (by rw [← rv_ref h0]; exact lok_at hl hi (fun q => by cases q)) h2
theorem el_aload {S : XS} {M : MD} {f : Bool × Bool} {z0 z1 : Nat × Nat} {r : Option V × LM} {pc : Nat} {μ : LM} {L st : List V} {k : Nat} {x : Int} (hd : decode M.2.1 pc = .ok (.aload k, 2)) (hi : L[k]? = some (2, x)) (h0 : 0 ≤ x) (hh : El S M f z0 z1 r (pc + 2) μ (L) ((2, x) :: st)) : El S M f z0 z1 r (pc) μ (L) (st) := by
  intro p l e Rm s m args below meth c A H locs D dA ad0 ad ls C K h hl hL hn hs
  have hx := C.1
  have hb := C.2.1
  have h2 := hh p l e Rm s m args below meth c A H locs D dA ad0 ad ls C K h hl hL hn (ok_cons (hL _ (List.mem_of_getElem? hi)) hs)
  rw [List.map_cons, rv_ref h0] at h2
  exact lv_aload hx hb hd (by rw [← rv_ref h0]; exact lok_at hl hi (fun q => by cases q)) h2
theorem el_aloadS {S : XS} {M : MD} {f : Bool × Bool} {z0 z1 : Nat × Nat} {r : Option V × LM} {pc : Nat} {μ : LM} {L st : List V} {k : Fin 4} {x : Int} (hd : decode M.2.1 pc = .ok (.aload_n k, 1)) (hi : L[(k : Nat)]? = some (3, x)) (hh : El S M f z0 z1 r (pc + 1) μ (L) ((3, x) :: st)) : El S M f z0 z1 r (pc) μ (L) (st) := by
  intro p l e Rm s m args below meth c A H locs D dA ad0 ad ls C K h hl hL hn hs
  have hx := C.1
  have hb := C.2.1
  exact lv_aload_n hx hb hd rfl (lok_at hl hi (fun q => by cases q)) (hh p l e Rm s m args below meth c A H locs D dA ad0 ad ls C K h hl hL hn (ok_cons (hL _ (List.mem_of_getElem? hi)) hs))
theorem el_istore_n {S : XS} {M : MD} {f : Bool × Bool} {z0 z1 : Nat × Nat} {r : Option V × LM} {pc : Nat} {μ : LM} {L st : List V} {k : Fin 4} {x : Int} (hd : decode M.2.1 pc = .ok (.istore_n k, 1)) (hk : stk L (k : Nat) = true) (hb' : (k : Nat) < M.2.2.1) (hh : El S M f z0 z1 r (pc + 1) μ (L.set (k : Nat) (0, x)) (st)) : El S M f z0 z1 r (pc) μ (L) ((0, x) :: st) := by
  intro p l e Rm s m args below meth c A H locs D dA ad0 ad ls C K h hl hL hn hs
  have hx := C.1
  have hb := C.2.1
  exact lv_istore_n hx hb hd rfl hl hb' rfl (fun ls' hl' => hh p l e Rm s m args below meth c A H locs D dA ad0 ad ls' C K h (lok_st1 (v := (0, x)) (show (0 : Nat) ≠ 1 by decide) hk hl') (set_ok hL (cons_ok hs).1) (by simpa using hn) (cons_ok hs).2)
theorem el_istore {S : XS} {M : MD} {f : Bool × Bool} {z0 z1 : Nat × Nat} {r : Option V × LM} {pc : Nat} {μ : LM} {L st : List V} {k : Nat} {x : Int} (hd : decode M.2.1 pc = .ok (.istore k, 2)) (hk : stk L k = true) (hb' : k < M.2.2.1) (hh : El S M f z0 z1 r (pc + 2) μ (L.set k (0, x)) (st)) : El S M f z0 z1 r (pc) μ (L) ((0, x) :: st) := by
  intro p l e Rm s m args below meth c A H locs D dA ad0 ad ls C K h hl hL hn hs
  have hx := C.1
  have hb := C.2.1
  exact lv_istore hx hb hd hl hb' rfl (fun ls' hl' => hh p l e Rm s m args below meth c A H locs D dA ad0 ad ls' C K h (lok_st1 (v := (0, x)) (show (0 : Nat) ≠ 1 by decide) hk hl') (set_ok hL (cons_ok hs).1) (by simpa using hn) (cons_ok hs).2)
theorem el_lstore_n {S : XS} {M : MD} {f : Bool × Bool} {z0 z1 : Nat × Nat} {r : Option V × LM} {pc : Nat} {μ : LM} {L st : List V} {k : Fin 4} {x : Int} (hd : decode M.2.1 pc = .ok (.lstore_n k, 1)) (hk : stk L (k : Nat) = true) (hb' : (k : Nat) + 1 < M.2.2.1) (hh : El S M f z0 z1 r (pc + 1) μ ((L.set (k : Nat) (1, x)).set ((k : Nat) + 1) (9, 0)) (st)) : El S M f z0 z1 r (pc) μ (L) ((1, x) :: st) := by
  intro p l e Rm s m args below meth c A H locs D dA ad0 ad ls C K h hl hL hn hs
  have hx := C.1
  have hb := C.2.1
  exact lv_lstore_n hx hb hd rfl hl hb' rfl (fun ls' hl' => hh p l e Rm s m args below meth c A H locs D dA ad0 ad ls' C K h (lok_st2 hk hl') (set_ok (set_ok hL (cons_ok hs).1) trivial) (by simpa using hn) (cons_ok hs).2)
theorem el_lstore {S : XS} {M : MD} {f : Bool × Bool} {z0 z1 : Nat × Nat} {r : Option V × LM} {pc : Nat} {μ : LM} {L st : List V} {k : Nat} {x : Int} (hd : decode M.2.1 pc = .ok (.lstore k, 2)) (hk : stk L k = true) (hb' : k + 1 < M.2.2.1) (hh : El S M f z0 z1 r (pc + 2) μ ((L.set k (1, x)).set (k + 1) (9, 0)) (st)) : El S M f z0 z1 r (pc) μ (L) ((1, x) :: st) := by
  intro p l e Rm s m args below meth c A H locs D dA ad0 ad ls C K h hl hL hn hs
  have hx := C.1
  have hb := C.2.1
  exact lv_lstore hx hb hd hl hb' rfl (fun ls' hl' => hh p l e Rm s m args below meth c A H locs D dA ad0 ad ls' C K h (lok_st2 hk hl') (set_ok (set_ok hL (cons_ok hs).1) trivial) (by simpa using hn) (cons_ok hs).2)
theorem el_astore_n {S : XS} {M : MD} {f : Bool × Bool} {z0 z1 : Nat × Nat} {r : Option V × LM} {pc : Nat} {μ : LM} {L st : List V} {k : Fin 4} {x : Int} (hd : decode M.2.1 pc = .ok (.astore_n k, 1)) (hk : stk L (k : Nat) = true) (hb' : (k : Nat) < M.2.2.1) (h0 : 0 ≤ x) (hh : El S M f z0 z1 r (pc + 1) μ (L.set (k : Nat) (2, x)) (st)) : El S M f z0 z1 r (pc) μ (L) ((2, x) :: st) := by
  intro p l e Rm s m args below meth c A H locs D dA ad0 ad ls C K h hl hL hn hs
  have hx := C.1
  have hb := C.2.1
  rw [List.map_cons, rv_ref h0]
  exact lv_astore_n hx hb hd rfl hl hb' rfl (fun ls' hl' => hh p l e Rm s m args below meth c A H locs D dA ad0 ad ls' C K h (lok_st1 (v := (2, x)) (show (2 : Nat) ≠ 1 by decide) hk (by rw [rv_ref h0]; exact hl')) (set_ok hL (cons_ok hs).1) (by simpa using hn) (cons_ok hs).2)
theorem el_astore {S : XS} {M : MD} {f : Bool × Bool} {z0 z1 : Nat × Nat} {r : Option V × LM} {pc : Nat} {μ : LM} {L st : List V} {k : Nat} {x : Int} (hd : decode M.2.1 pc = .ok (.astore k, 2)) (hk : stk L k = true) (hb' : k < M.2.2.1) (h0 : 0 ≤ x) (hh : El S M f z0 z1 r (pc + 2) μ (L.set k (2, x)) (st)) : El S M f z0 z1 r (pc) μ (L) ((2, x) :: st) := by
  intro p l e Rm s m args below meth c A H locs D dA ad0 ad ls C K h hl hL hn hs
  have hx := C.1
  have hb := C.2.1
  rw [List.map_cons, rv_ref h0]
  exact lv_astore hx hb hd hl hb' rfl (fun ls' hl' => hh p l e Rm s m args below meth c A H locs D dA ad0 ad ls' C K h (lok_st1 (v := (2, x)) (show (2 : Nat) ≠ 1 by decide) hk (by rw [rv_ref h0]; exact hl')) (set_ok hL (cons_ok hs).1) (by simpa using hn) (cons_ok hs).2)
theorem el_forget {S : XS} {M : MD} {f : Bool × Bool} {z0 z1 : Nat × Nat} {r : Option V × LM} {pc : Nat} {μ : LM} {L st : List V} (k : Nat) (hh : El S M f z0 z1 r (pc) μ (L.set k (9, 0)) (st)) : El S M f z0 z1 r (pc) μ (L) (st) := by
  intro p l e Rm s m args below meth c A H locs D dA ad0 ad ls C K h hl hL hn hs
  have hx := C.1
  have hb := C.2.1
  refine hh p l e Rm s m args below meth c A H locs D dA ad0 ad ls C K h (lok_sub hl fun q hq => ?_) (set_ok hL trivial) (by simpa using hn) hs
  obtain ⟨i, v, h1, h2, h3⟩ := lz_inv _ _ _ hq
  rw [Nat.zero_add] at h1
  rw [List.getElem?_set] at h2
  by_cases hk : k = i
  · rw [if_pos hk] at h2
    split at h2
    · cases h2; exact absurd rfl h3
    · cases h2
  · rw [if_neg hk] at h2
    have := lz_mem (ad := ad) h3 L 0 i h2
    rw [Nat.zero_add] at this
    rw [h1]; exact this
theorem el_iinc {S : XS} {M : MD} {f : Bool × Bool} {z0 z1 : Nat × Nat} {r : Option V × LM} {pc : Nat} {μ : LM} {L st : List V} {k : Nat} {z x : Int} (hd : decode M.2.1 pc = .ok (.iinc k z, 3)) (hi : L[k]? = some (0, x)) (hk : stk L k = true) (hh : El S M f z0 z1 r (pc + 3) μ (L.set k (0, jadd x z)) (st)) : El S M f z0 z1 r (pc) μ (L) (st) := by
  intro p l e Rm s m args below meth c A H locs D dA ad0 ad ls C K h hl hL hn hs
  have hx := C.1
  have hb := C.2.1
  obtain ⟨j, hj⟩ := List.getElem?_of_mem (show (k, rv ad (0, x)) ∈ lz ad 0 L by have := lz_mem (ad := ad) (v := (0, x)) (fun q => by cases q) L 0 k hi; rwa [Nat.zero_add] at this)
  exact lv_iinc hx hb hd hl (v := Int32.ofInt (jadd x z)) hj (by rw [jadd, Int32.ofInt_toInt]) (by rw [← hn]; exact (List.getElem?_eq_some_iff.mp hi).1) rfl (fun ls' hl' => hh p l e Rm s m args below meth c A H locs D dA ad0 ad ls' C K h (lok_st1 (v := (0, jadd x z)) (show (0 : Nat) ≠ 1 by decide) hk hl') (set_ok hL (ti32 _)) (by simpa using hn) hs)
theorem el_iadd {S : XS} {M : MD} {f : Bool × Bool} {z0 z1 : Nat × Nat} {r : Option V × LM} {pc : Nat} {μ : LM} {L st : List V} {x y : Int} (hd : decode M.2.1 pc = .ok (.iadd, 1)) (hh : El S M f z0 z1 r (pc + 1) μ (L) ((0, jadd x y) :: st)) : El S M f z0 z1 r (pc) μ (L) ((0, y) :: (0, x) :: st) := by
  intro p l e Rm s m args below meth c A H locs D dA ad0 ad ls C K h hl hL hn hs
  have hx := C.1
  have hb := C.2.1
  have h2 := hh p l e Rm s m args below meth c A H locs D dA ad0 ad ls C K h hl hL hn (ok_cons (ti32 _) (cons_ok (cons_ok hs).2).2)
  rw [List.map_cons, show rv ad (0, jadd x y) = .int (Int32.ofInt (jadd x y)) from rfl, jadd, Int32.ofInt_toInt] at h2
  exact lv_iadd hx hb hd h2
theorem el_isub {S : XS} {M : MD} {f : Bool × Bool} {z0 z1 : Nat × Nat} {r : Option V × LM} {pc : Nat} {μ : LM} {L st : List V} {x y : Int} (hd : decode M.2.1 pc = .ok (.isub, 1)) (hh : El S M f z0 z1 r (pc + 1) μ (L) ((0, jsub x y) :: st)) : El S M f z0 z1 r (pc) μ (L) ((0, y) :: (0, x) :: st) := by
  intro p l e Rm s m args below meth c A H locs D dA ad0 ad ls C K h hl hL hn hs
  have hx := C.1
  have hb := C.2.1
  have h2 := hh p l e Rm s m args below meth c A H locs D dA ad0 ad ls C K h hl hL hn (ok_cons (ti32 _) (cons_ok (cons_ok hs).2).2)
  rw [List.map_cons, show rv ad (0, jsub x y) = .int (Int32.ofInt (jsub x y)) from rfl, jsub, Int32.ofInt_toInt] at h2
  exact lv_isub hx hb hd h2
theorem el_imul {S : XS} {M : MD} {f : Bool × Bool} {z0 z1 : Nat × Nat} {r : Option V × LM} {pc : Nat} {μ : LM} {L st : List V} {x y : Int} (hd : decode M.2.1 pc = .ok (.imul, 1)) (hh : El S M f z0 z1 r (pc + 1) μ (L) ((0, jmul x y) :: st)) : El S M f z0 z1 r (pc) μ (L) ((0, y) :: (0, x) :: st) := by
  intro p l e Rm s m args below meth c A H locs D dA ad0 ad ls C K h hl hL hn hs
  have hx := C.1
  have hb := C.2.1
  have h2 := hh p l e Rm s m args below meth c A H locs D dA ad0 ad ls C K h hl hL hn (ok_cons (ti32 _) (cons_ok (cons_ok hs).2).2)
  rw [List.map_cons, show rv ad (0, jmul x y) = .int (Int32.ofInt (jmul x y)) from rfl, jmul, Int32.ofInt_toInt] at h2
  exact lv_imul hx hb hd h2
theorem el_iand {S : XS} {M : MD} {f : Bool × Bool} {z0 z1 : Nat × Nat} {r : Option V × LM} {pc : Nat} {μ : LM} {L st : List V} {x y : Int} (hd : decode M.2.1 pc = .ok (.iand, 1)) (hh : El S M f z0 z1 r (pc + 1) μ (L) ((0, jand x y) :: st)) : El S M f z0 z1 r (pc) μ (L) ((0, y) :: (0, x) :: st) := by
  intro p l e Rm s m args below meth c A H locs D dA ad0 ad ls C K h hl hL hn hs
  have hx := C.1
  have hb := C.2.1
  have h2 := hh p l e Rm s m args below meth c A H locs D dA ad0 ad ls C K h hl hL hn (ok_cons (ti32 _) (cons_ok (cons_ok hs).2).2)
  rw [List.map_cons, show rv ad (0, jand x y) = .int (Int32.ofInt (jand x y)) from rfl, jand, Int32.ofInt_toInt] at h2
  exact lv_iand hx hb hd h2
theorem el_ior {S : XS} {M : MD} {f : Bool × Bool} {z0 z1 : Nat × Nat} {r : Option V × LM} {pc : Nat} {μ : LM} {L st : List V} {x y : Int} (hd : decode M.2.1 pc = .ok (.ior, 1)) (hh : El S M f z0 z1 r (pc + 1) μ (L) ((0, jor x y) :: st)) : El S M f z0 z1 r (pc) μ (L) ((0, y) :: (0, x) :: st) := by
  intro p l e Rm s m args below meth c A H locs D dA ad0 ad ls C K h hl hL hn hs
  have hx := C.1
  have hb := C.2.1
  have h2 := hh p l e Rm s m args below meth c A H locs D dA ad0 ad ls C K h hl hL hn (ok_cons (ti32 _) (cons_ok (cons_ok hs).2).2)
  rw [List.map_cons, show rv ad (0, jor x y) = .int (Int32.ofInt (jor x y)) from rfl, jor, Int32.ofInt_toInt] at h2
  exact lv_ior hx hb hd h2
theorem el_ixor {S : XS} {M : MD} {f : Bool × Bool} {z0 z1 : Nat × Nat} {r : Option V × LM} {pc : Nat} {μ : LM} {L st : List V} {x y : Int} (hd : decode M.2.1 pc = .ok (.ixor, 1)) (hh : El S M f z0 z1 r (pc + 1) μ (L) ((0, jxor x y) :: st)) : El S M f z0 z1 r (pc) μ (L) ((0, y) :: (0, x) :: st) := by
  intro p l e Rm s m args below meth c A H locs D dA ad0 ad ls C K h hl hL hn hs
  have hx := C.1
  have hb := C.2.1
  have h2 := hh p l e Rm s m args below meth c A H locs D dA ad0 ad ls C K h hl hL hn (ok_cons (ti32 _) (cons_ok (cons_ok hs).2).2)
  rw [List.map_cons, show rv ad (0, jxor x y) = .int (Int32.ofInt (jxor x y)) from rfl, jxor, Int32.ofInt_toInt] at h2
  exact lv_ixor hx hb hd h2
theorem el_ishl {S : XS} {M : MD} {f : Bool × Bool} {z0 z1 : Nat × Nat} {r : Option V × LM} {pc : Nat} {μ : LM} {L st : List V} {x y : Int} (hd : decode M.2.1 pc = .ok (.ishl, 1)) (hh : El S M f z0 z1 r (pc + 1) μ (L) ((0, jshl x y) :: st)) : El S M f z0 z1 r (pc) μ (L) ((0, y) :: (0, x) :: st) := by
  intro p l e Rm s m args below meth c A H locs D dA ad0 ad ls C K h hl hL hn hs
  have hx := C.1
  have hb := C.2.1
  have h2 := hh p l e Rm s m args below meth c A H locs D dA ad0 ad ls C K h hl hL hn (ok_cons (ti32 _) (cons_ok (cons_ok hs).2).2)
  rw [List.map_cons, show rv ad (0, jshl x y) = .int (Int32.ofInt (jshl x y)) from rfl, jshl, Int32.ofInt_toInt] at h2
  exact lv_ishl hx hb hd h2
theorem el_ishr {S : XS} {M : MD} {f : Bool × Bool} {z0 z1 : Nat × Nat} {r : Option V × LM} {pc : Nat} {μ : LM} {L st : List V} {x y : Int} (hd : decode M.2.1 pc = .ok (.ishr, 1)) (hh : El S M f z0 z1 r (pc + 1) μ (L) ((0, jshr x y) :: st)) : El S M f z0 z1 r (pc) μ (L) ((0, y) :: (0, x) :: st) := by
  intro p l e Rm s m args below meth c A H locs D dA ad0 ad ls C K h hl hL hn hs
  have hx := C.1
  have hb := C.2.1
  have h2 := hh p l e Rm s m args below meth c A H locs D dA ad0 ad ls C K h hl hL hn (ok_cons (ti32 _) (cons_ok (cons_ok hs).2).2)
  rw [List.map_cons, show rv ad (0, jshr x y) = .int (Int32.ofInt (jshr x y)) from rfl, jshr, Int32.ofInt_toInt] at h2
  exact lv_ishr hx hb hd h2
theorem el_iushr {S : XS} {M : MD} {f : Bool × Bool} {z0 z1 : Nat × Nat} {r : Option V × LM} {pc : Nat} {μ : LM} {L st : List V} {x y : Int} (hd : decode M.2.1 pc = .ok (.iushr, 1)) (hh : El S M f z0 z1 r (pc + 1) μ (L) ((0, jushr x y) :: st)) : El S M f z0 z1 r (pc) μ (L) ((0, y) :: (0, x) :: st) := by
  intro p l e Rm s m args below meth c A H locs D dA ad0 ad ls C K h hl hL hn hs
  have hx := C.1
  have hb := C.2.1
  have h2 := hh p l e Rm s m args below meth c A H locs D dA ad0 ad ls C K h hl hL hn (ok_cons (ti32 _) (cons_ok (cons_ok hs).2).2)
  rw [List.map_cons, show rv ad (0, jushr x y) = .int (Int32.ofInt (jushr x y)) from rfl, jushr, Int32.ofInt_toInt] at h2
  exact lv_iushr hx hb hd rfl h2
theorem el_irem {S : XS} {M : MD} {f : Bool × Bool} {z0 z1 : Nat × Nat} {r : Option V × LM} {pc : Nat} {μ : LM} {L st : List V} {α : Type} {X : Option α} {q : α} {x y : Int} (hd : decode M.2.1 pc = .ok (.irem, 1)) (hf : chk (y ≠ 0) X = some q) (hh : X = some q → El S M f z0 z1 r (pc + 1) μ (L) ((0, jrem x y) :: st)) : El S M f z0 z1 r (pc) μ (L) ((0, y) :: (0, x) :: st) := by
  intro p l e Rm s m args below meth c A H locs D dA ad0 ad ls C K h hl hL hn hs
  have hx := C.1
  have hb := C.2.1
  obtain ⟨hy, hf⟩ := chk_of hf
  have h2 := hh hf p l e Rm s m args below meth c A H locs D dA ad0 ad ls C K h hl hL hn (ok_cons (ti32 _) (cons_ok (cons_ok hs).2).2)
  rw [List.map_cons, show rv ad (0, jrem x y) = .int (Int32.ofInt (jrem x y)) from rfl, jrem, Int32.ofInt_toInt] at h2
  refine lv_irem hx hb hd (fun z => hy ?_) h2
  have := congrArg Int32.toInt z
  rw [oi32 (cons_ok hs).1] at this
  exact this
theorem el_ladd {S : XS} {M : MD} {f : Bool × Bool} {z0 z1 : Nat × Nat} {r : Option V × LM} {pc : Nat} {μ : LM} {L st : List V} {x y : Int} (hd : decode M.2.1 pc = .ok (.ladd, 1)) (hh : El S M f z0 z1 r (pc + 1) μ (L) ((1, kadd x y) :: st)) : El S M f z0 z1 r (pc) μ (L) ((1, y) :: (1, x) :: st) := by
  intro p l e Rm s m args below meth c A H locs D dA ad0 ad ls C K h hl hL hn hs
  have hx := C.1
  have hb := C.2.1
  have h2 := hh p l e Rm s m args below meth c A H locs D dA ad0 ad ls C K h hl hL hn (ok_cons (ti64 _) (cons_ok (cons_ok hs).2).2)
  rw [List.map_cons, show rv ad (1, kadd x y) = .long (Int64.ofInt (kadd x y)) from rfl, kadd, Int64.ofInt_toInt] at h2
  exact lv_ladd hx hb hd h2
theorem el_lsub {S : XS} {M : MD} {f : Bool × Bool} {z0 z1 : Nat × Nat} {r : Option V × LM} {pc : Nat} {μ : LM} {L st : List V} {x y : Int} (hd : decode M.2.1 pc = .ok (.lsub, 1)) (hh : El S M f z0 z1 r (pc + 1) μ (L) ((1, ksub x y) :: st)) : El S M f z0 z1 r (pc) μ (L) ((1, y) :: (1, x) :: st) := by
  intro p l e Rm s m args below meth c A H locs D dA ad0 ad ls C K h hl hL hn hs
  have hx := C.1
  have hb := C.2.1
  have h2 := hh p l e Rm s m args below meth c A H locs D dA ad0 ad ls C K h hl hL hn (ok_cons (ti64 _) (cons_ok (cons_ok hs).2).2)
  rw [List.map_cons, show rv ad (1, ksub x y) = .long (Int64.ofInt (ksub x y)) from rfl, ksub, Int64.ofInt_toInt] at h2
  exact lv_lsub hx hb hd h2
theorem el_i2l {S : XS} {M : MD} {f : Bool × Bool} {z0 z1 : Nat × Nat} {r : Option V × LM} {pc : Nat} {μ : LM} {L st : List V} {x : Int} (hd : decode M.2.1 pc = .ok (.i2l, 1)) (hh : El S M f z0 z1 r (pc + 1) μ (L) ((1, jl x) :: st)) : El S M f z0 z1 r (pc) μ (L) ((0, x) :: st) := by
  intro p l e Rm s m args below meth c A H locs D dA ad0 ad ls C K h hl hL hn hs
  have hx := C.1
  have hb := C.2.1
  have h2 := hh p l e Rm s m args below meth c A H locs D dA ad0 ad ls C K h hl hL hn (ok_cons (ti64 _) (cons_ok hs).2)
  rw [List.map_cons, show rv ad (1, jl x) = .long (Int64.ofInt (jl x)) from rfl, jl, Int64.ofInt_toInt] at h2
  exact lv_i2l hx hb hd rfl h2
theorem el_lcmp {S : XS} {M : MD} {f : Bool × Bool} {z0 z1 : Nat × Nat} {r : Option V × LM} {pc : Nat} {μ : LM} {L st : List V} {x y : Int} (hd : decode M.2.1 pc = .ok (.lcmp, 1)) (hh : El S M f z0 z1 r (pc + 1) μ (L) ((0, lcm x y) :: st)) : El S M f z0 z1 r (pc) μ (L) ((1, y) :: (1, x) :: st) := by
  intro p l e Rm s m args below meth c A H locs D dA ad0 ad ls C K h hl hL hn hs
  have hx := C.1
  have hb := C.2.1
  have h2 := hh p l e Rm s m args below meth c A H locs D dA ad0 ad ls C K h hl hL hn (ok_cons (ti32 _) (cons_ok (cons_ok hs).2).2)
  rw [List.map_cons, show rv ad (0, lcm x y) = .int (Int32.ofInt (lcm x y)) from rfl, lcm, Int32.ofInt_toInt] at h2
  exact W.lcmp hx hb hd h2
theorem el_dup {S : XS} {M : MD} {f : Bool × Bool} {z0 z1 : Nat × Nat} {r : Option V × LM} {pc : Nat} {μ : LM} {L st : List V} {v : V} (hd : decode M.2.1 pc = .ok (.dup, 1)) (hc : v.1 ≠ 1) (hh : El S M f z0 z1 r (pc + 1) μ (L) (v :: v :: st)) : El S M f z0 z1 r (pc) μ (L) (v :: st) := by
  intro p l e Rm s m args below meth c A H locs D dA ad0 ad ls C K h hl hL hn hs
  have hx := C.1
  have hb := C.2.1
  exact lv_dup hx hb hd (by rw [rv_cat, if_neg hc]) (hh p l e Rm s m args below meth c A H locs D dA ad0 ad ls C K h hl hL hn (ok_cons (cons_ok hs).1 hs))
theorem el_pop {S : XS} {M : MD} {f : Bool × Bool} {z0 z1 : Nat × Nat} {r : Option V × LM} {pc : Nat} {μ : LM} {L st : List V} {v : V} (hd : decode M.2.1 pc = .ok (.pop, 1)) (hc : v.1 ≠ 1) (hh : El S M f z0 z1 r (pc + 1) μ (L) (st)) : El S M f z0 z1 r (pc) μ (L) (v :: st) := by
  intro p l e Rm s m args below meth c A H locs D dA ad0 ad ls C K h hl hL hn hs
  have hx := C.1
  have hb := C.2.1
  exact lv_pop hx hb hd (by rw [rv_cat, if_neg hc]) (hh p l e Rm s m args below meth c A H locs D dA ad0 ad ls C K h hl hL hn (cons_ok hs).2)
theorem el_dup2 {S : XS} {M : MD} {f : Bool × Bool} {z0 z1 : Nat × Nat} {r : Option V × LM} {pc : Nat} {μ : LM} {L st : List V} {v u : V} (hd : decode M.2.1 pc = .ok (.dup2, 1)) (hc : v.1 ≠ 1) (hc2 : u.1 ≠ 1) (hh : El S M f z0 z1 r (pc + 1) μ (L) (v :: u :: v :: u :: st)) : El S M f z0 z1 r (pc) μ (L) (v :: u :: st) := by
  intro p l e Rm s m args below meth c A H locs D dA ad0 ad ls C K h hl hL hn hs
  have hx := C.1
  have hb := C.2.1
  exact lv_dup2_11 hx hb hd (by rw [rv_cat, if_neg hc]) (by rw [rv_cat, if_neg hc2]) (hh p l e Rm s m args below meth c A H locs D dA ad0 ad ls C K h hl hL hn (ok_cons (cons_ok hs).1 (ok_cons (cons_ok (cons_ok hs).2).1 hs)))
theorem el_goto {S : XS} {M : MD} {f : Bool × Bool} {z0 z1 : Nat × Nat} {r : Option V × LM} {pc : Nat} {μ : LM} {L st : List V} {off : Int} {tgt : Nat} (hd : decode M.2.1 pc = .ok (.goto off, 3)) (ht : (pc : Int) + off = (tgt : Int)) (hh : El S M f z0 z1 r (tgt) μ (L) (st)) : El S M f z0 z1 r (pc) μ (L) (st) := by
  intro p l e Rm s m args below meth c A H locs D dA ad0 ad ls C K h hl hL hn hs
  have hx := C.1
  have hb := C.2.1
  exact lv_goto hx hb hd ht (hh p l e Rm s m args below meth c A H locs D dA ad0 ad ls C K h hl hL hn hs)
theorem el_icmp_eq {S : XS} {M : MD} {f : Bool × Bool} {z0 z1 : Nat × Nat} {r : Option V × LM} {pc : Nat} {μ : LM} {L st : List V} {α : Type} {X Y : Option α} {q : α} {x y off : Int} {tgt : Nat} (hd : decode M.2.1 pc = .ok (.if_icmp .eq off, 3)) (ht : (pc : Int) + off = (tgt : Int)) (hf : (if x = y then X else Y) = some q) (h1 : x = y → X = some q → El S M f z0 z1 r (tgt) μ (L) (st)) (h2 : ¬ (x = y) → Y = some q → El S M f z0 z1 r (pc + 3) μ (L) (st)) : El S M f z0 z1 r (pc) μ (L) ((0, y) :: (0, x) :: st) := by
  intro p l e Rm s m args below meth c A H locs D dA ad0 ad ls C K h hl hL hn hs
  have hx := C.1
  have hb := C.2.1
  have hq := eq32 (cons_ok (cons_ok hs).2).1 (cons_ok hs).1
  exact lv_icmp_eq hx hb hd ht (fun z => h1 (hq.mp z) (ite_pos' hf (hq.mp z)) p l e Rm s m args below meth c A H locs D dA ad0 ad ls C K h hl hL hn (cons_ok (cons_ok hs).2).2) (fun z => h2 (fun z2 => z (hq.mpr z2)) (ite_neg' hf (fun z2 => z (hq.mpr z2))) p l e Rm s m args below meth c A H locs D dA ad0 ad ls C K h hl hL hn (cons_ok (cons_ok hs).2).2)
theorem el_icmp_ne {S : XS} {M : MD} {f : Bool × Bool} {z0 z1 : Nat × Nat} {r : Option V × LM} {pc : Nat} {μ : LM} {L st : List V} {α : Type} {X Y : Option α} {q : α} {x y off : Int} {tgt : Nat} (hd : decode M.2.1 pc = .ok (.if_icmp .ne off, 3)) (ht : (pc : Int) + off = (tgt : Int)) (hf : (if x ≠ y then X else Y) = some q) (h1 : x ≠ y → X = some q → El S M f z0 z1 r (tgt) μ (L) (st)) (h2 : ¬ (x ≠ y) → Y = some q → El S M f z0 z1 r (pc + 3) μ (L) (st)) : El S M f z0 z1 r (pc) μ (L) ((0, y) :: (0, x) :: st) := by
  intro p l e Rm s m args below meth c A H locs D dA ad0 ad ls C K h hl hL hn hs
  have hx := C.1
  have hb := C.2.1
  have hq := not_congr (eq32 (cons_ok (cons_ok hs).2).1 (cons_ok hs).1)
  exact lv_icmp_ne hx hb hd ht (fun z => h1 (hq.mp z) (ite_pos' hf (hq.mp z)) p l e Rm s m args below meth c A H locs D dA ad0 ad ls C K h hl hL hn (cons_ok (cons_ok hs).2).2) (fun z => h2 (fun z2 => (hq.mpr z2) z) (ite_neg' hf (fun z2 => (hq.mpr z2) z)) p l e Rm s m args below meth c A H locs D dA ad0 ad ls C K h hl hL hn (cons_ok (cons_ok hs).2).2)
theorem el_icmp_lt {S : XS} {M : MD} {f : Bool × Bool} {z0 z1 : Nat × Nat} {r : Option V × LM} {pc : Nat} {μ : LM} {L st : List V} {α : Type} {X Y : Option α} {q : α} {x y off : Int} {tgt : Nat} (hd : decode M.2.1 pc = .ok (.if_icmp .lt off, 3)) (ht : (pc : Int) + off = (tgt : Int)) (hf : (if x < y then X else Y) = some q) (h1 : x < y → X = some q → El S M f z0 z1 r (tgt) μ (L) (st)) (h2 : ¬ (x < y) → Y = some q → El S M f z0 z1 r (pc + 3) μ (L) (st)) : El S M f z0 z1 r (pc) μ (L) ((0, y) :: (0, x) :: st) := by
  intro p l e Rm s m args below meth c A H locs D dA ad0 ad ls C K h hl hL hn hs
  have hx := C.1
  have hb := C.2.1
  have hq := lt32 (cons_ok (cons_ok hs).2).1 (cons_ok hs).1
  exact lv_icmp_lt hx hb hd ht (fun z => h1 (hq.mp z) (ite_pos' hf (hq.mp z)) p l e Rm s m args below meth c A H locs D dA ad0 ad ls C K h hl hL hn (cons_ok (cons_ok hs).2).2) (fun z => h2 (fun z2 => z (hq.mpr z2)) (ite_neg' hf (fun z2 => z (hq.mpr z2))) p l e Rm s m args below meth c A H locs D dA ad0 ad ls C K h hl hL hn (cons_ok (cons_ok hs).2).2)
theorem el_icmp_ge {S : XS} {M : MD} {f : Bool × Bool} {z0 z1 : Nat × Nat} {r : Option V × LM} {pc : Nat} {μ : LM} {L st : List V} {α : Type} {X Y : Option α} {q : α} {x y off : Int} {tgt : Nat} (hd : decode M.2.1 pc = .ok (.if_icmp .ge off, 3)) (ht : (pc : Int) + off = (tgt : Int)) (hf : (if y ≤ x then X else Y) = some q) (h1 : y ≤ x → X = some q → El S M f z0 z1 r (tgt) μ (L) (st)) (h2 : ¬ (y ≤ x) → Y = some q → El S M f z0 z1 r (pc + 3) μ (L) (st)) : El S M f z0 z1 r (pc) μ (L) ((0, y) :: (0, x) :: st) := by
  intro p l e Rm s m args below meth c A H locs D dA ad0 ad ls C K h hl hL hn hs
  have hx := C.1
  have hb := C.2.1
  have hq := le32 (cons_ok hs).1 (cons_ok (cons_ok hs).2).1
  exact lv_icmp_ge hx hb hd ht (fun z => h1 (hq.mp z) (ite_pos' hf (hq.mp z)) p l e Rm s m args below meth c A H locs D dA ad0 ad ls C K h hl hL hn (cons_ok (cons_ok hs).2).2) (fun z => h2 (fun z2 => z (hq.mpr z2)) (ite_neg' hf (fun z2 => z (hq.mpr z2))) p l e Rm s m args below meth c A H locs D dA ad0 ad ls C K h hl hL hn (cons_ok (cons_ok hs).2).2)
theorem el_icmp_gt {S : XS} {M : MD} {f : Bool × Bool} {z0 z1 : Nat × Nat} {r : Option V × LM} {pc : Nat} {μ : LM} {L st : List V} {α : Type} {X Y : Option α} {q : α} {x y off : Int} {tgt : Nat} (hd : decode M.2.1 pc = .ok (.if_icmp .gt off, 3)) (ht : (pc : Int) + off = (tgt : Int)) (hf : (if y < x then X else Y) = some q) (h1 : y < x → X = some q → El S M f z0 z1 r (tgt) μ (L) (st)) (h2 : ¬ (y < x) → Y = some q → El S M f z0 z1 r (pc + 3) μ (L) (st)) : El S M f z0 z1 r (pc) μ (L) ((0, y) :: (0, x) :: st) := by
  intro p l e Rm s m args below meth c A H locs D dA ad0 ad ls C K h hl hL hn hs
  have hx := C.1
  have hb := C.2.1
  have hq := lt32 (cons_ok hs).1 (cons_ok (cons_ok hs).2).1
  exact lv_icmp_gt hx hb hd ht (fun z => h1 (hq.mp z) (ite_pos' hf (hq.mp z)) p l e Rm s m args below meth c A H locs D dA ad0 ad ls C K h hl hL hn (cons_ok (cons_ok hs).2).2) (fun z => h2 (fun z2 => z (hq.mpr z2)) (ite_neg' hf (fun z2 => z (hq.mpr z2))) p l e Rm s m args below meth c A H locs D dA ad0 ad ls C K h hl hL hn (cons_ok (cons_ok hs).2).2)
theorem el_icmp_le {S : XS} {M : MD} {f : Bool × Bool} {z0 z1 : Nat × Nat} {r : Option V × LM} {pc : Nat} {μ : LM} {L st : List V} {α : Type} {X Y : Option α} {q : α} {x y off : Int} {tgt : Nat} (hd : decode M.2.1 pc = .ok (.if_icmp .le off, 3)) (ht : (pc : Int) + off = (tgt : Int)) (hf : (if x ≤ y then X else Y) = some q) (h1 : x ≤ y → X = some q → El S M f z0 z1 r (tgt) μ (L) (st)) (h2 : ¬ (x ≤ y) → Y = some q → El S M f z0 z1 r (pc + 3) μ (L) (st)) : El S M f z0 z1 r (pc) μ (L) ((0, y) :: (0, x) :: st) := by
  intro p l e Rm s m args below meth c A H locs D dA ad0 ad ls C K h hl hL hn hs
  have hx := C.1
  have hb := C.2.1
  have hq := le32 (cons_ok (cons_ok hs).2).1 (cons_ok hs).1
  exact lv_icmp_le hx hb hd ht (fun z => h1 (hq.mp z) (ite_pos' hf (hq.mp z)) p l e Rm s m args below meth c A H locs D dA ad0 ad ls C K h hl hL hn (cons_ok (cons_ok hs).2).2) (fun z => h2 (fun z2 => z (hq.mpr z2)) (ite_neg' hf (fun z2 => z (hq.mpr z2))) p l e Rm s m args below meth c A H locs D dA ad0 ad ls C K h hl hL hn (cons_ok (cons_ok hs).2).2)
theorem el_if_eq {S : XS} {M : MD} {f : Bool × Bool} {z0 z1 : Nat × Nat} {r : Option V × LM} {pc : Nat} {μ : LM} {L st : List V} {α : Type} {X Y : Option α} {q : α} {x off : Int} {tgt : Nat} (hd : decode M.2.1 pc = .ok (.ifCond .eq off, 3)) (ht : (pc : Int) + off = (tgt : Int)) (hf : (if x = 0 then X else Y) = some q) (h1 : x = 0 → X = some q → El S M f z0 z1 r (tgt) μ (L) (st)) (h2 : ¬ (x = 0) → Y = some q → El S M f z0 z1 r (pc + 3) μ (L) (st)) : El S M f z0 z1 r (pc) μ (L) ((0, x) :: st) := by
  intro p l e Rm s m args below meth c A H locs D dA ad0 ad ls C K h hl hL hn hs
  have hx := C.1
  have hb := C.2.1
  have hq := eq32 (cons_ok hs).1 in32_0
  exact lv_if_eq hx hb hd ht (fun z => h1 (hq.mp z) (ite_pos' hf (hq.mp z)) p l e Rm s m args below meth c A H locs D dA ad0 ad ls C K h hl hL hn (cons_ok hs).2) (fun z => h2 (fun z2 => z (hq.mpr z2)) (ite_neg' hf (fun z2 => z (hq.mpr z2))) p l e Rm s m args below meth c A H locs D dA ad0 ad ls C K h hl hL hn (cons_ok hs).2)
theorem el_if_ne {S : XS} {M : MD} {f : Bool × Bool} {z0 z1 : Nat × Nat} {r : Option V × LM} {pc : Nat} {μ : LM} {L st : List V} {α : Type} {X Y : Option α} {q : α} {x off : Int} {tgt : Nat} (hd : decode M.2.1 pc = .ok (.ifCond .ne off, 3)) (ht : (pc : Int) + off = (tgt : Int)) (hf : (if x ≠ 0 then X else Y) = some q) (h1 : x ≠ 0 → X = some q → El S M f z0 z1 r (tgt) μ (L) (st)) (h2 : ¬ (x ≠ 0) → Y = some q → El S M f z0 z1 r (pc + 3) μ (L) (st)) : El S M f z0 z1 r (pc) μ (L) ((0, x) :: st) := by
  intro p l e Rm s m args below meth c A H locs D dA ad0 ad ls C K h hl hL hn hs
  have hx := C.1
  have hb := C.2.1
  have hq := not_congr (eq32 (cons_ok hs).1 in32_0)
  exact lv_if_ne hx hb hd ht (fun z => h1 (hq.mp z) (ite_pos' hf (hq.mp z)) p l e Rm s m args below meth c A H locs D dA ad0 ad ls C K h hl hL hn (cons_ok hs).2) (fun z => h2 (fun z2 => (hq.mpr z2) z) (ite_neg' hf (fun z2 => (hq.mpr z2) z)) p l e Rm s m args below meth c A H locs D dA ad0 ad ls C K h hl hL hn (cons_ok hs).2)
theorem el_if_lt {S : XS} {M : MD} {f : Bool × Bool} {z0 z1 : Nat × Nat} {r : Option V × LM} {pc : Nat} {μ : LM} {L st : List V} {α : Type} {X Y : Option α} {q : α} {x off : Int} {tgt : Nat} (hd : decode M.2.1 pc = .ok (.ifCond .lt off, 3)) (ht : (pc : Int) + off = (tgt : Int)) (hf : (if x < 0 then X else Y) = some q) (h1 : x < 0 → X = some q → El S M f z0 z1 r (tgt) μ (L) (st)) (h2 : ¬ (x < 0) → Y = some q → El S M f z0 z1 r (pc + 3) μ (L) (st)) : El S M f z0 z1 r (pc) μ (L) ((0, x) :: st) := by
  intro p l e Rm s m args below meth c A H locs D dA ad0 ad ls C K h hl hL hn hs
  have hx := C.1
  have hb := C.2.1
  have hq := lt32 (cons_ok hs).1 in32_0
  exact lv_if_lt hx hb hd ht (fun z => h1 (hq.mp z) (ite_pos' hf (hq.mp z)) p l e Rm s m args below meth c A H locs D dA ad0 ad ls C K h hl hL hn (cons_ok hs).2) (fun z => h2 (fun z2 => z (hq.mpr z2)) (ite_neg' hf (fun z2 => z (hq.mpr z2))) p l e Rm s m args below meth c A H locs D dA ad0 ad ls C K h hl hL hn (cons_ok hs).2)
theorem el_if_ge {S : XS} {M : MD} {f : Bool × Bool} {z0 z1 : Nat × Nat} {r : Option V × LM} {pc : Nat} {μ : LM} {L st : List V} {α : Type} {X Y : Option α} {q : α} {x off : Int} {tgt : Nat} (hd : decode M.2.1 pc = .ok (.ifCond .ge off, 3)) (ht : (pc : Int) + off = (tgt : Int)) (hf : (if 0 ≤ x then X else Y) = some q) (h1 : 0 ≤ x → X = some q → El S M f z0 z1 r (tgt) μ (L) (st)) (h2 : ¬ (0 ≤ x) → Y = some q → El S M f z0 z1 r (pc + 3) μ (L) (st)) : El S M f z0 z1 r (pc) μ (L) ((0, x) :: st) := by
  intro p l e Rm s m args below meth c A H locs D dA ad0 ad ls C K h hl hL hn hs
  have hx := C.1
  have hb := C.2.1
  have hq := le32 in32_0 (cons_ok hs).1
  exact lv_if_ge hx hb hd ht (fun z => h1 (hq.mp z) (ite_pos' hf (hq.mp z)) p l e Rm s m args below meth c A H locs D dA ad0 ad ls C K h hl hL hn (cons_ok hs).2) (fun z => h2 (fun z2 => z (hq.mpr z2)) (ite_neg' hf (fun z2 => z (hq.mpr z2))) p l e Rm s m args below meth c A H locs D dA ad0 ad ls C K h hl hL hn (cons_ok hs).2)
theorem el_if_gt {S : XS} {M : MD} {f : Bool × Bool} {z0 z1 : Nat × Nat} {r : Option V × LM} {pc : Nat} {μ : LM} {L st : List V} {α : Type} {X Y : Option α} {q : α} {x off : Int} {tgt : Nat} (hd : decode M.2.1 pc = .ok (.ifCond .gt off, 3)) (ht : (pc : Int) + off = (tgt : Int)) (hf : (if 0 < x then X else Y) = some q) (h1 : 0 < x → X = some q → El S M f z0 z1 r (tgt) μ (L) (st)) (h2 : ¬ (0 < x) → Y = some q → El S M f z0 z1 r (pc + 3) μ (L) (st)) : El S M f z0 z1 r (pc) μ (L) ((0, x) :: st) := by
  intro p l e Rm s m args below meth c A H locs D dA ad0 ad ls C K h hl hL hn hs
  have hx := C.1
  have hb := C.2.1
  have hq := lt32 in32_0 (cons_ok hs).1
  exact lv_if_gt hx hb hd ht (fun z => h1 (hq.mp z) (ite_pos' hf (hq.mp z)) p l e Rm s m args below meth c A H locs D dA ad0 ad ls C K h hl hL hn (cons_ok hs).2) (fun z => h2 (fun z2 => z (hq.mpr z2)) (ite_neg' hf (fun z2 => z (hq.mpr z2))) p l e Rm s m args below meth c A H locs D dA ad0 ad ls C K h hl hL hn (cons_ok hs).2)
theorem el_if_le {S : XS} {M : MD} {f : Bool × Bool} {z0 z1 : Nat × Nat} {r : Option V × LM} {pc : Nat} {μ : LM} {L st : List V} {α : Type} {X Y : Option α} {q : α} {x off : Int} {tgt : Nat} (hd : decode M.2.1 pc = .ok (.ifCond .le off, 3)) (ht : (pc : Int) + off = (tgt : Int)) (hf : (if x ≤ 0 then X else Y) = some q) (h1 : x ≤ 0 → X = some q → El S M f z0 z1 r (tgt) μ (L) (st)) (h2 : ¬ (x ≤ 0) → Y = some q → El S M f z0 z1 r (pc + 3) μ (L) (st)) : El S M f z0 z1 r (pc) μ (L) ((0, x) :: st) := by
  intro p l e Rm s m args below meth c A H locs D dA ad0 ad ls C K h hl hL hn hs
  have hx := C.1
  have hb := C.2.1
  have hq := le32 (cons_ok hs).1 in32_0
  exact lv_if_le hx hb hd ht (fun z => h1 (hq.mp z) (ite_pos' hf (hq.mp z)) p l e Rm s m args below meth c A H locs D dA ad0 ad ls C K h hl hL hn (cons_ok hs).2) (fun z => h2 (fun z2 => z (hq.mpr z2)) (ite_neg' hf (fun z2 => z (hq.mpr z2))) p l e Rm s m args below meth c A H locs D dA ad0 ad ls C K h hl hL hn (cons_ok hs).2)
theorem el_fact {S : XS} {M : MD} {f : Bool × Bool} {z0 z1 : Nat × Nat} {r : Option V × LM} {pc : Nat} {μ : LM} {L st : List V} (h : (∀ v ∈ st, okv μ.1 v) → (∀ v ∈ L, okv μ.1 v) → El S M f z0 z1 r (pc) μ (L) (st)) : El S M f z0 z1 r (pc) μ (L) (st) := fun p l e Rm s m args below meth c A H locs D dA ad0 ad ls C K hc hl hL hn hs => h hs hL p l e Rm s m args below meth c A H locs D dA ad0 ad ls C K hc hl hL hn hs
theorem el_by {S : XS} {M : MD} {f : Bool × Bool} {z0 z1 : Nat × Nat} {r : Option V × LM} {pc : Nat} {μ : LM} {L st : List V} {α : Type} {X Y : Option α} {q : α} {c : Prop} [Decidable c] (hf : (if c then X else Y) = some q) (h1 : c → X = some q → El S M f z0 z1 r (pc) μ (L) (st)) (h2 : ¬ c → Y = some q → El S M f z0 z1 r (pc) μ (L) (st)) : El S M f z0 z1 r (pc) μ (L) (st) := by
  by_cases hc : c
  · exact h1 hc (ite_pos' hf hc)
  · exact h2 hc (ite_neg' hf hc)
theorem el_i2lk {S : XS} {M : MD} {f : Bool × Bool} {z0 z1 : Nat × Nat} {r : Option V × LM} {pc : Nat} {μ : LM} {L st : List V} {x : Int} (hd : decode M.2.1 pc = .ok (.i2l, 1)) (hh : El S M f z0 z1 r (pc + 1) μ (L) ((1, x) :: st)) : El S M f z0 z1 r (pc) μ (L) ((0, x) :: st) := el_fact fun hs _ => el_i2l hd (by rw [jl_eq (cons_ok hs).1]; exact hh)
theorem el_lc_eq {S : XS} {M : MD} {f : Bool × Bool} {z0 z1 : Nat × Nat} {r : Option V × LM} {pc : Nat} {μ : LM} {L st : List V} {α : Type} {X Y : Option α} {q : α} {x y off : Int} {tgt : Nat} (hd : decode M.2.1 pc = .ok (.lcmp, 1)) (hd2 : decode M.2.1 (pc + 1) = .ok (.ifCond .eq off, 3)) (ht : ((pc + 1 : Nat) : Int) + off = (tgt : Int)) (hf : (if x = y then X else Y) = some q) (h1 : x = y → X = some q → El S M f z0 z1 r (tgt) μ (L) (st)) (h2 : ¬ (x = y) → Y = some q → El S M f z0 z1 r (pc + 1 + 3) μ (L) (st)) : El S M f z0 z1 r (pc) μ (L) ((1, y) :: (1, x) :: st) := el_fact fun hs _ => by
  have hi := lcm_lt (cons_ok (cons_ok hs).2).1 (cons_ok hs).1
  have hc : lcm x y = 0 ↔ x = y := by omega
  exact el_lcmp hd (el_if_eq hd2 ht (X := X) (Y := Y) (q := q) (by
    by_cases z : x = y
    · rw [if_pos (hc.mpr z)]; exact ite_pos' hf z
    · rw [if_neg (fun z2 => z (hc.mp z2))]; exact ite_neg' hf z) (fun z => h1 (hc.mp z)) (fun z => h2 (fun z2 => z (hc.mpr z2))))
theorem el_lc_ne {S : XS} {M : MD} {f : Bool × Bool} {z0 z1 : Nat × Nat} {r : Option V × LM} {pc : Nat} {μ : LM} {L st : List V} {α : Type} {X Y : Option α} {q : α} {x y off : Int} {tgt : Nat} (hd : decode M.2.1 pc = .ok (.lcmp, 1)) (hd2 : decode M.2.1 (pc + 1) = .ok (.ifCond .ne off, 3)) (ht : ((pc + 1 : Nat) : Int) + off = (tgt : Int)) (hf : (if x ≠ y then X else Y) = some q) (h1 : x ≠ y → X = some q → El S M f z0 z1 r (tgt) μ (L) (st)) (h2 : ¬ (x ≠ y) → Y = some q → El S M f z0 z1 r (pc + 1 + 3) μ (L) (st)) : El S M f z0 z1 r (pc) μ (L) ((1, y) :: (1, x) :: st) := el_fact fun hs _ => by
  have hi := lcm_lt (cons_ok (cons_ok hs).2).1 (cons_ok hs).1
  have hc : lcm x y ≠ 0 ↔ x ≠ y := by omega
  exact el_lcmp hd (el_if_ne hd2 ht (X := X) (Y := Y) (q := q) (by
    by_cases z : x ≠ y
    · rw [if_pos (hc.mpr z)]; exact ite_pos' hf z
    · rw [if_neg (fun z2 => z (hc.mp z2))]; exact ite_neg' hf z) (fun z => h1 (hc.mp z)) (fun z => h2 (fun z2 => z (hc.mpr z2))))
theorem el_lc_lt {S : XS} {M : MD} {f : Bool × Bool} {z0 z1 : Nat × Nat} {r : Option V × LM} {pc : Nat} {μ : LM} {L st : List V} {α : Type} {X Y : Option α} {q : α} {x y off : Int} {tgt : Nat} (hd : decode M.2.1 pc = .ok (.lcmp, 1)) (hd2 : decode M.2.1 (pc + 1) = .ok (.ifCond .lt off, 3)) (ht : ((pc + 1 : Nat) : Int) + off = (tgt : Int)) (hf : (if x < y then X else Y) = some q) (h1 : x < y → X = some q → El S M f z0 z1 r (tgt) μ (L) (st)) (h2 : ¬ (x < y) → Y = some q → El S M f z0 z1 r (pc + 1 + 3) μ (L) (st)) : El S M f z0 z1 r (pc) μ (L) ((1, y) :: (1, x) :: st) := el_fact fun hs _ => by
  have hi := lcm_lt (cons_ok (cons_ok hs).2).1 (cons_ok hs).1
  have hc : lcm x y < 0 ↔ x < y := by omega
  exact el_lcmp hd (el_if_lt hd2 ht (X := X) (Y := Y) (q := q) (by
    by_cases z : x < y
    · rw [if_pos (hc.mpr z)]; exact ite_pos' hf z
    · rw [if_neg (fun z2 => z (hc.mp z2))]; exact ite_neg' hf z) (fun z => h1 (hc.mp z)) (fun z => h2 (fun z2 => z (hc.mpr z2))))
theorem el_lc_ge {S : XS} {M : MD} {f : Bool × Bool} {z0 z1 : Nat × Nat} {r : Option V × LM} {pc : Nat} {μ : LM} {L st : List V} {α : Type} {X Y : Option α} {q : α} {x y off : Int} {tgt : Nat} (hd : decode M.2.1 pc = .ok (.lcmp, 1)) (hd2 : decode M.2.1 (pc + 1) = .ok (.ifCond .ge off, 3)) (ht : ((pc + 1 : Nat) : Int) + off = (tgt : Int)) (hf : (if y ≤ x then X else Y) = some q) (h1 : y ≤ x → X = some q → El S M f z0 z1 r (tgt) μ (L) (st)) (h2 : ¬ (y ≤ x) → Y = some q → El S M f z0 z1 r (pc + 1 + 3) μ (L) (st)) : El S M f z0 z1 r (pc) μ (L) ((1, y) :: (1, x) :: st) := el_fact fun hs _ => by
  have hi := lcm_lt (cons_ok (cons_ok hs).2).1 (cons_ok hs).1
  have hc : 0 ≤ lcm x y ↔ y ≤ x := by omega
  exact el_lcmp hd (el_if_ge hd2 ht (X := X) (Y := Y) (q := q) (by
    by_cases z : y ≤ x
    · rw [if_pos (hc.mpr z)]; exact ite_pos' hf z
    · rw [if_neg (fun z2 => z (hc.mp z2))]; exact ite_neg' hf z) (fun z => h1 (hc.mp z)) (fun z => h2 (fun z2 => z (hc.mpr z2))))
theorem el_lc_gt {S : XS} {M : MD} {f : Bool × Bool} {z0 z1 : Nat × Nat} {r : Option V × LM} {pc : Nat} {μ : LM} {L st : List V} {α : Type} {X Y : Option α} {q : α} {x y off : Int} {tgt : Nat} (hd : decode M.2.1 pc = .ok (.lcmp, 1)) (hd2 : decode M.2.1 (pc + 1) = .ok (.ifCond .gt off, 3)) (ht : ((pc + 1 : Nat) : Int) + off = (tgt : Int)) (hf : (if y < x then X else Y) = some q) (h1 : y < x → X = some q → El S M f z0 z1 r (tgt) μ (L) (st)) (h2 : ¬ (y < x) → Y = some q → El S M f z0 z1 r (pc + 1 + 3) μ (L) (st)) : El S M f z0 z1 r (pc) μ (L) ((1, y) :: (1, x) :: st) := el_fact fun hs _ => by
  have hi := lcm_lt (cons_ok (cons_ok hs).2).1 (cons_ok hs).1
  have hc : 0 < lcm x y ↔ y < x := by omega
  exact el_lcmp hd (el_if_gt hd2 ht (X := X) (Y := Y) (q := q) (by
    by_cases z : y < x
    · rw [if_pos (hc.mpr z)]; exact ite_pos' hf z
    · rw [if_neg (fun z2 => z (hc.mp z2))]; exact ite_neg' hf z) (fun z => h1 (hc.mp z)) (fun z => h2 (fun z2 => z (hc.mpr z2))))
theorem el_lc_le {S : XS} {M : MD} {f : Bool × Bool} {z0 z1 : Nat × Nat} {r : Option V × LM} {pc : Nat} {μ : LM} {L st : List V} {α : Type} {X Y : Option α} {q : α} {x y off : Int} {tgt : Nat} (hd : decode M.2.1 pc = .ok (.lcmp, 1)) (hd2 : decode M.2.1 (pc + 1) = .ok (.ifCond .le off, 3)) (ht : ((pc + 1 : Nat) : Int) + off = (tgt : Int)) (hf : (if x ≤ y then X else Y) = some q) (h1 : x ≤ y → X = some q → El S M f z0 z1 r (tgt) μ (L) (st)) (h2 : ¬ (x ≤ y) → Y = some q → El S M f z0 z1 r (pc + 1 + 3) μ (L) (st)) : El S M f z0 z1 r (pc) μ (L) ((1, y) :: (1, x) :: st) := el_fact fun hs _ => by
  have hi := lcm_lt (cons_ok (cons_ok hs).2).1 (cons_ok hs).1
  have hc : lcm x y ≤ 0 ↔ x ≤ y := by omega
  exact el_lcmp hd (el_if_le hd2 ht (X := X) (Y := Y) (q := q) (by
    by_cases z : x ≤ y
    · rw [if_pos (hc.mpr z)]; exact ite_pos' hf z
    · rw [if_neg (fun z2 => z (hc.mp z2))]; exact ite_neg' hf z) (fun z => h1 (hc.mp z)) (fun z => h2 (fun z2 => z (hc.mpr z2))))
theorem el_istore_nG {S : XS} {M : MD} {f : Bool × Bool} {z0 z1 : Nat × Nat} {r : Option V × LM} {pc : Nat} {μ : LM} {L st : List V} {β : Type} {X : Int → Option β} {q : β} {k : Fin 4} {x : Int} (hd : decode M.2.1 pc = .ok (.istore_n k, 1)) (hf : (some x).bind X = some q) (hk : stk L (k : Nat) = true) (hb' : (k : Nat) < M.2.2.1) (hh : ∀ y, X y = some q → El S M f z0 z1 r (pc + 1) μ (L.set (k : Nat) (0, y)) (st)) : El S M f z0 z1 r (pc) μ (L) ((0, x) :: st) := el_istore_n hd hk hb' (hh x hf)
theorem el_istoreG {S : XS} {M : MD} {f : Bool × Bool} {z0 z1 : Nat × Nat} {r : Option V × LM} {pc : Nat} {μ : LM} {L st : List V} {β : Type} {X : Int → Option β} {q : β} {k : Nat} {x : Int} (hd : decode M.2.1 pc = .ok (.istore k, 2)) (hf : (some x).bind X = some q) (hk : stk L k = true) (hb' : k < M.2.2.1) (hh : ∀ y, X y = some q → El S M f z0 z1 r (pc + 2) μ (L.set k (0, y)) (st)) : El S M f z0 z1 r (pc) μ (L) ((0, x) :: st) := el_istore hd hk hb' (hh x hf)
theorem el_lstore_nG {S : XS} {M : MD} {f : Bool × Bool} {z0 z1 : Nat × Nat} {r : Option V × LM} {pc : Nat} {μ : LM} {L st : List V} {β : Type} {X : Int → Option β} {q : β} {k : Fin 4} {x : Int} (hd : decode M.2.1 pc = .ok (.lstore_n k, 1)) (hf : (some x).bind X = some q) (hk : stk L (k : Nat) = true) (hb' : (k : Nat) + 1 < M.2.2.1) (hh : ∀ y, X y = some q → El S M f z0 z1 r (pc + 1) μ ((L.set (k : Nat) (1, y)).set ((k : Nat) + 1) (9, 0)) (st)) : El S M f z0 z1 r (pc) μ (L) ((1, x) :: st) := el_lstore_n hd hk hb' (hh x hf)
theorem el_lstoreG {S : XS} {M : MD} {f : Bool × Bool} {z0 z1 : Nat × Nat} {r : Option V × LM} {pc : Nat} {μ : LM} {L st : List V} {β : Type} {X : Int → Option β} {q : β} {k : Nat} {x : Int} (hd : decode M.2.1 pc = .ok (.lstore k, 2)) (hf : (some x).bind X = some q) (hk : stk L k = true) (hb' : k + 1 < M.2.2.1) (hh : ∀ y, X y = some q → El S M f z0 z1 r (pc + 2) μ ((L.set k (1, y)).set (k + 1) (9, 0)) (st)) : El S M f z0 z1 r (pc) μ (L) ((1, x) :: st) := el_lstore hd hk hb' (hh x hf)
theorem el_iincG {S : XS} {M : MD} {f : Bool × Bool} {z0 z1 : Nat × Nat} {r : Option V × LM} {pc : Nat} {μ : LM} {L st : List V} {β : Type} {X : Int → Option β} {q : β} {k : Nat} {z x : Int} (hd : decode M.2.1 pc = .ok (.iinc k z, 3)) (hi : L[k]? = some (0, x)) (hf : (some (jadd x z)).bind X = some q) (hk : stk L k = true) (hh : ∀ y, X y = some q → El S M f z0 z1 r (pc + 3) μ (L.set k (0, y)) (st)) : El S M f z0 z1 r (pc) μ (L) (st) := el_iinc hd hi hk (hh _ hf)
theorem el_sub {S : XS} {M : MD} {f : Bool × Bool} {z0 z1 : Nat × Nat} {r : Option V × LM} {pc : Nat} {μ : LM} {L st : List V} {L2 : List V} (hh : El S M f z0 z1 r (pc) μ (L2) (st)) (hs2 : subL L L2) : El S M f z0 z1 r (pc) μ (L) (st) := by
  intro p l e Rm s m args below meth c A H locs D dA ad0 ad ls C K h hl hL hn hs
  have hx := C.1
  have hb := C.2.1
  refine hh p l e Rm s m args below meth c A H locs D dA ad0 ad ls C K h (lok_sub hl fun q hq => ?_) (subL_ok hs2 hL) (by rw [← subL_len hs2]; exact hn) hs
  obtain ⟨i, v, h1, h2, h3⟩ := lz_inv _ _ _ hq
  rw [Nat.zero_add] at h1
  have := lz_mem (ad := ad) h3 L 0 i (subL_get hs2 h2 h3)
  rw [Nat.zero_add] at this
  rw [h1]; exact this
theorem wl_len {dA : Nat → ClassId} {ad : Nat → Nat} {ρ σ : Mem} {n : Nat} : (wl dA ad ρ σ n).length = n := by simp [wl]
theorem ww_c {S : XS} {dA : Nat → ClassId} {ad : Nat → Nat} {μ : LM} {k : Nat} (h : k < μ.1) : (ww S dA ad μ)[k]? = some (ad k, cel dA ad μ.2.1 μ.2.2.1 k) := by
  unfold ww
  rw [List.getElem?_append_left (by rw [wl_len]; exact h), wl_get h]
theorem xl_get {S : XS} {dA : Nat → ClassId} {ad : Nat → Nat} {η ξ : Mem} {nx x : Nat} (h : x < nx) : (xl S dA ad η ξ nx)[x]? = some (ad (100000 + x), xel S dA ad η ξ x) := by simp [xl, h]
theorem ww_x {S : XS} {dA : Nat → ClassId} {ad : Nat → Nat} {μ : LM} {x : Nat} (h : x < μ.2.2.2.1) : (ww S dA ad μ)[μ.1 + x]? = some (ad (100000 + x), xel S dA ad μ.2.2.2.2.1 μ.2.2.2.2.2 x) := by
  unfold ww
  rw [List.getElem?_append_right (by rw [wl_len]; omega), wl_len, Nat.add_sub_cancel_left, xl_get h]
theorem xel_0 {S : XS} {dA : Nat → ClassId} {ad : Nat → Nat} {η ξ : Mem} {x n : Nat} (h : S x = (0, n)) : xel S dA ad η ξ x = .inl (dA 0, n, .inl fun j => Int32.ofInt (ξ x j)) := by unfold xel; rw [h]
theorem xel_3 {S : XS} {dA : Nat → ClassId} {ad : Nat → Nat} {η ξ : Mem} {x n : Nat} (h : S x = (3, n)) : xel S dA ad η ξ x = .inl (dA 3, n, .inr (.inr (.inr (.inr fun j => if η x j < 0 then none else some (ad (100000 + (η x j).toNat)))))) := by unfold xel; rw [h]
theorem xl_set {S : XS} {dA : Nat → ClassId} {ad : Nat → Nat} {η ξ η' ξ' : Mem} {nx x : Nat} (h : ∀ i, i < nx → i ≠ x → xel S dA ad η' ξ' i = xel S dA ad η ξ i) : (xl S dA ad η ξ nx).set x (ad (100000 + x), xel S dA ad η' ξ' x) = xl S dA ad η' ξ' nx := by
  apply List.ext_getElem?
  intro i
  rw [List.getElem?_set]
  by_cases hk : x = i
  · subst hk
    rw [if_pos rfl]
    by_cases hn : x < nx
    · rw [xl_get hn, if_pos (by simp [xl, hn])]
    · rw [if_neg (by simp [xl]; omega)]
      simp [xl, hn]
  · rw [if_neg hk]
    by_cases hn : i < nx
    · rw [xl_get hn, xl_get hn, h i hn (Ne.symm hk)]
    · simp [xl, hn]
theorem ww_set {S : XS} {dA : Nat → ClassId} {ad : Nat → Nat} {n nx x : Nat} {ρ σ η ξ η' ξ' : Mem} (h : ∀ i, i < nx → i ≠ x → xel S dA ad η' ξ' i = xel S dA ad η ξ i) : (ww S dA ad (n, ρ, σ, nx, η, ξ)).set (n + x) (ad (100000 + x), xel S dA ad η' ξ' x) = ww S dA ad (n, ρ, σ, nx, η', ξ') := by
  unfold ww
  rw [List.set_append_right (by rw [wl_len]; omega), wl_len, Nat.add_sub_cancel_left, xl_set h]
theorem xel_mup {S : XS} {dA : Nat → ClassId} {ad : Nat → Nat} {η ξ : Mem} {k j v : Int} {i : Nat} (h : (i : Int) ≠ k) : xel S dA ad η (mup ξ k j v) i = xel S dA ad η ξ i := by
  have e : ∀ j' : Int, mup ξ k j v i j' = ξ i j' := fun j' => by simp [mup, h]
  unfold xel
  simp only [e]
theorem xel_mupr {S : XS} {dA : Nat → ClassId} {ad : Nat → Nat} {η ξ : Mem} {k j v : Int} {i : Nat} (h : (i : Int) ≠ k) : xel S dA ad (mup η k j v) ξ i = xel S dA ad η ξ i := by
  have e : ∀ j' : Int, mup η k j v i j' = η i j' := fun j' => by simp [mup, h]
  unfold xel
  simp only [e]
theorem xel_agree {S : XS} {dA : Nat → ClassId} {ad ad' : Nat → Nat} {η ξ : Mem} {x : Nat} (h2 : ∀ i, 100000 ≤ i → ad' i = ad i) : xel S dA ad' η ξ x = xel S dA ad η ξ x := by
  unfold xel
  have e : ∀ z : Nat, ad' (100000 + z) = ad (100000 + z) := fun z => h2 _ (by omega)
  simp only [e]
theorem xl_agree {S : XS} {dA : Nat → ClassId} {ad ad' : Nat → Nat} {η ξ : Mem} {nx : Nat} (h2 : ∀ i, 100000 ≤ i → ad' i = ad i) : xl S dA ad' η ξ nx = xl S dA ad η ξ nx := by
  unfold xl
  refine List.map_congr_left fun k _ => ?_
  rw [xel_agree h2, h2 _ (by omega)]
theorem xl_push {S : XS} {dA : Nat → ClassId} {ad : Nat → Nat} {η ξ : Mem} {nx : Nat} : xl S dA ad η ξ (nx + 1) = xl S dA ad η ξ nx ++ [(ad (100000 + nx), xel S dA ad η ξ nx)] := by
  unfold xl
  rw [List.range_succ, List.map_append]; rfl
theorem xz_mono {S : XS} {a b : Nat} (h : a ≤ b) : xz S a ≤ xz S b := by
  induction b with
  | zero => have : a = 0 := by omega
            subst this; exact Nat.le_refl _
  | succ b ih =>
    by_cases hb : a = b + 1
    · subst hb; exact Nat.le_refl _
    · have := ih (by omega)
      show xz S a ≤ xz S b + (S b).2
      omega
theorem pokx_mup {nx : Nat} {η ξ : Mem} {k j v : Int} (h : pokx nx η ξ) (hk : k < nx) (hv : in32 v) : pokx nx η (mup ξ k j v) := by
  refine ⟨fun x y => ?_, h.2.1, fun x y hx => ⟨(h.2.2 x y hx).1, ?_⟩⟩
  · unfold mup
    split
    · exact hv
    · exact h.1 x y
  · unfold mup
    rw [if_neg (fun q => by omega)]
    exact (h.2.2 x y hx).2
theorem pokx_mupr {nx : Nat} {η ξ : Mem} {k j v : Int} (h : pokx nx η ξ) (hk : k < nx) (hv : -1 ≤ v ∧ v < nx) : pokx nx (mup η k j v) ξ := by
  refine ⟨h.1, fun x y => ?_, fun x y hx => ⟨?_, (h.2.2 x y hx).2⟩⟩
  · unfold mup
    split
    · exact hv
    · exact h.2.1 x y
  · unfold mup
    rw [if_neg (fun q => by omega)]
    exact (h.2.2 x y hx).1
theorem pokx_push {nx : Nat} {η ξ : Mem} (h : pokx nx η ξ) : pokx (nx + 1) η ξ := ⟨h.1, fun x j => ⟨(h.2.1 x j).1, by have := (h.2.1 x j).2; omega⟩, fun x j hx => h.2.2 x j (by omega)⟩
def kmul (a b : Int) : Int := (Int64.ofInt a * Int64.ofInt b).toInt
theorem el_lmul {S : XS} {M : MD} {f : Bool × Bool} {z0 z1 : Nat × Nat} {r : Option V × LM} {pc : Nat} {μ : LM} {L st : List V} {x y : Int} (hd : decode M.2.1 pc = .ok (.lmul, 1)) (hh : El S M f z0 z1 r (pc + 1) μ (L) ((1, kmul x y) :: st)) : El S M f z0 z1 r (pc) μ (L) ((1, y) :: (1, x) :: st) := by
  intro p l e Rm s m args below meth c A H locs D dA ad0 ad ls C K h hl hL hn hs
  have hx := C.1
  have hb := C.2.1
  have h2 := hh p l e Rm s m args below meth c A H locs D dA ad0 ad ls C K h hl hL hn (ok_cons (ti64 _) (cons_ok (cons_ok hs).2).2)
  rw [List.map_cons, show rv ad (1, kmul x y) = .long (Int64.ofInt (kmul x y)) from rfl, kmul, Int64.ofInt_toInt] at h2
  exact lv_lmul hx hb hd h2
theorem el_aloadS2 {S : XS} {M : MD} {f : Bool × Bool} {z0 z1 : Nat × Nat} {r : Option V × LM} {pc : Nat} {μ : LM} {L st : List V} {k : Nat} {x : Int} (hd : decode M.2.1 pc = .ok (.aload k, 2)) (hi : L[k]? = some (3, x)) (hh : El S M f z0 z1 r (pc + 2) μ (L) ((3, x) :: st)) : El S M f z0 z1 r (pc) μ (L) (st) := by
  intro p l e Rm s m args below meth c A H locs D dA ad0 ad ls C K h hl hL hn hs
  have hx := C.1
  have hb := C.2.1
  exact lv_aload hx hb hd (lok_at hl hi (fun q => by cases q)) (hh p l e Rm s m args below meth c A H locs D dA ad0 ad ls C K h hl hL hn (ok_cons (hL _ (List.mem_of_getElem? hi)) hs))
theorem el_astoreS_n {S : XS} {M : MD} {f : Bool × Bool} {z0 z1 : Nat × Nat} {r : Option V × LM} {pc : Nat} {μ : LM} {L st : List V} {k : Fin 4} {x : Int} (hd : decode M.2.1 pc = .ok (.astore_n k, 1)) (hk : stk L (k : Nat) = true) (hb' : (k : Nat) < M.2.2.1) (hh : El S M f z0 z1 r (pc + 1) μ (L.set (k : Nat) (3, x)) (st)) : El S M f z0 z1 r (pc) μ (L) ((3, x) :: st) := by
  intro p l e Rm s m args below meth c A H locs D dA ad0 ad ls C K h hl hL hn hs
  have hx := C.1
  have hb := C.2.1
  exact lv_astore_n hx hb hd rfl hl hb' rfl (fun ls' hl' => hh p l e Rm s m args below meth c A H locs D dA ad0 ad ls' C K h (lok_st1 (v := (3, x)) (show (3 : Nat) ≠ 1 by decide) hk hl') (set_ok hL trivial) (by simpa using hn) (cons_ok hs).2)
theorem el_astoreS {S : XS} {M : MD} {f : Bool × Bool} {z0 z1 : Nat × Nat} {r : Option V × LM} {pc : Nat} {μ : LM} {L st : List V} {k : Nat} {x : Int} (hd : decode M.2.1 pc = .ok (.astore k, 2)) (hk : stk L k = true) (hb' : k < M.2.2.1) (hh : El S M f z0 z1 r (pc + 2) μ (L.set k (3, x)) (st)) : El S M f z0 z1 r (pc) μ (L) ((3, x) :: st) := by
  intro p l e Rm s m args below meth c A H locs D dA ad0 ad ls C K h hl hL hn hs
  have hx := C.1
  have hb := C.2.1
  exact lv_astore hx hb hd hl hb' rfl (fun ls' hl' => hh p l e Rm s m args below meth c A H locs D dA ad0 ad ls' C K h (lok_st1 (v := (3, x)) (show (3 : Nat) ≠ 1 by decide) hk hl') (set_ok hL trivial) (by simpa using hn) (cons_ok hs).2)
theorem rv_3 {ad : Nat → Nat} {k : Int} : rv ad (3, k) = .ref (ad (100000 + k.toNat)) := rfl
/-- the script -/
theorem el_scl {S : XS} {M : MD} {f : Bool × Bool} {z0 z1 : Nat × Nat} {r : Option V × LM} {pc : Nat} {μ : LM} {L st : List V} {N : Nat} {xs : Nat → Int32} (hd : decode M.2.1 pc = .ok (.arraylength, 1)) (hex : M.2.2.2.2.2.2.2 = scrX N xs) (hN : (N : Int) ≤ 2147483647) (hh : El S M f z0 z1 r (pc + 1) μ L ((0, (N : Int)) :: st)) : El S M f z0 z1 r (pc) μ L ((3, 200000) :: st) := by
  intro p l e Rm s m args below meth c A H locs D dA ad0 ad ls C K h hl hL hn hs
  have hx := C.1
  have hb := C.2.1
  have hX := K.2.2.2.1
  rw [hex] at hX
  have h2 := hh p l e Rm s m args below meth c A H locs D dA ad0 ad ls C K h hl hL hn (ok_cons (show okv μ.1 (0, (N : Int)) from ⟨by omega, hN⟩) (cons_ok hs).2)
  rw [List.map_cons, show rv ad (3, 200000) = .ref (ad 300000) from rfl, h.2.2.2.2.1 _ (by omega)]
  exact va_slen hx hb hX.1 hX.2.1 hX.2.2 h.2.2.1 hd h2
theorem el_scld {S : XS} {M : MD} {f : Bool × Bool} {z0 z1 : Nat × Nat} {r : Option V × LM} {pc : Nat} {μ : LM} {L st : List V} {α : Type} {X : Option α} {q : α} {i : Int} {N : Nat} {xs : Nat → Int32} (hd : decode M.2.1 pc = .ok (.iaload, 1)) (hex : M.2.2.2.2.2.2.2 = scrX N xs) (hf : chk (0 ≤ i ∧ i < N) X = some q) (hh : X = some q → El S M f z0 z1 r (pc + 1) μ L ((0, (xs i.toNat).toInt) :: st)) : El S M f z0 z1 r (pc) μ L ((0, i) :: (3, 200000) :: st) := by
  intro p l e Rm s m args below meth c A H locs D dA ad0 ad ls C K h hl hL hn hs
  have hx := C.1
  have hb := C.2.1
  obtain ⟨hi, hf⟩ := chk_of hf
  have hX := K.2.2.2.1
  rw [hex] at hX
  have hvp := in32_vp (cons_ok hs).1 hi.1 hi.2
  have h2 := hh hf p l e Rm s m args below meth c A H locs D dA ad0 ad ls C K h hl hL hn (ok_cons (show okv μ.1 (0, (xs i.toNat).toInt) from ti32 _) (cons_ok (cons_ok hs).2).2)
  rw [List.map_cons, show rv ad (0, (xs i.toNat).toInt) = .int (Int32.ofInt (xs i.toNat).toInt) from rfl, Int32.ofInt_toInt] at h2
  rw [List.map_cons, List.map_cons, show rv ad (3, 200000) = .ref (ad 300000) from rfl, h.2.2.2.2.1 _ (by omega)]
  refine va_sld hx hb hX.1 hX.2.1 hX.2.2 h.2.2.1 hvp.1 hd ?_
  rw [hvp.2]
  exact h2
/-- the law's arrays: lengths, reads, writes -/
theorem el_xlen {S : XS} {M : MD} {f : Bool × Bool} {z0 z1 : Nat × Nat} {r : Option V × LM} {pc : Nat} {μ : LM} {L st : List V} {k : Int} {N d : Nat} (hd : decode M.2.1 pc = .ok (.arraylength, 1)) (hsh : S k.toNat = (d, N)) (hd3 : d = 0 ∨ d = 3) (hN : (N : Int) ≤ 2147483647) (h0 : 0 ≤ k) (hkn : k < μ.2.2.2.1) (hh : El S M f z0 z1 r (pc + 1) μ L ((0, (N : Int)) :: st)) : El S M f z0 z1 r (pc) μ L ((3, k) :: st) := by
  intro p l e Rm s m args below meth c A H locs D dA ad0 ad ls C K h hl hL hn hs
  have hx := C.1
  have hb := C.2.1
  obtain ⟨z, rfl⟩ := Int.eq_ofNat_of_zero_le h0
  have hq : z < μ.2.2.2.1 := by omega
  have hsq : S z = (d, N) := by simpa using hsh
  rw [List.map_cons, rv_3, Int.toNat_natCast]
  have h2 := hh p l e Rm s m args below meth c A H locs D dA ad0 ad ls C K h hl hL hn (ok_cons (show in32 (N : Int) from ⟨by omega, hN⟩) (cons_ok hs).2)
  rcases hd3 with rfl | rfl
  · exact va_alen (D := D) (tys := TY dA) (x := (N, .inl fun j => Int32.ofInt (μ.2.2.2.2.2 z j))) (v := Int32.ofInt (N : Int)) hx hb K.1 h.1 (μ.1 + z) 0 (by rw [ww_x hq, xel_0 hsq]) rfl rfl hd h2
  · exact va_alen (D := D) (tys := TY dA) (x := (N, .inr (.inr (.inr (.inr fun j => if μ.2.2.2.2.1 z j < 0 then none else some (ad (100000 + (μ.2.2.2.2.1 z j).toNat))))))) (v := Int32.ofInt (N : Int)) hx hb K.1 h.1 (μ.1 + z) 3 (by rw [ww_x hq, xel_3 hsq]) rfl rfl hd h2
theorem el_xald {S : XS} {M : MD} {f : Bool × Bool} {z0 z1 : Nat × Nat} {r : Option V × LM} {pc : Nat} {μ : LM} {L st : List V} {α : Type} {X : Option α} {q : α} {k i : Int} {N : Nat} (hd : decode M.2.1 pc = .ok (.iaload, 1)) (hsh : S k.toNat = (0, N)) (h0 : 0 ≤ k) (hkn : k < μ.2.2.2.1) (hf : chk (0 ≤ i ∧ i < N) X = some q) (hh : X = some q → El S M f z0 z1 r (pc + 1) μ L ((0, μ.2.2.2.2.2 k i) :: st)) : El S M f z0 z1 r (pc) μ L ((0, i) :: (3, k) :: st) := by
  intro p l e Rm s m args below meth c A H locs D dA ad0 ad ls C K h hl hL hn hs
  have hx := C.1
  have hb := C.2.1
  obtain ⟨hi, hf⟩ := chk_of hf
  obtain ⟨z, rfl⟩ := Int.eq_ofNat_of_zero_le h0
  have hq : z < μ.2.2.2.1 := by omega
  have hsq : S z = (0, N) := by simpa using hsh
  have hvp := in32_vp (cons_ok hs).1 hi.1 hi.2
  have hpx := h.2.2.2.2.2.2.2.2.2.1
  have h2 := hh hf p l e Rm s m args below meth c A H locs D dA ad0 ad ls C K h hl hL hn (ok_cons (show in32 _ from hpx.1 (z : Int) i) (cons_ok (cons_ok hs).2).2)
  rw [List.map_cons, List.map_cons, rv_3, Int.toNat_natCast]
  refine va_iald (D := D) (tys := TY dA) hx hb K.1 h.1 (μ.1 + z) 0 (by rw [ww_x hq, xel_0 hsq]) rfl hvp.1 hd ?_
  rw [hvp.2, Int.toNat_of_nonneg hi.1]
  exact h2
theorem el_xaald {S : XS} {M : MD} {f : Bool × Bool} {z0 z1 : Nat × Nat} {r : Option V × LM} {pc : Nat} {μ : LM} {L st : List V} {α : Type} {X : Option α} {q : α} {k i v : Int} {N : Nat} (hd : decode M.2.1 pc = .ok (.aaload, 1)) (hsh : S k.toNat = (3, N)) (h0 : 0 ≤ k) (hkn : k < μ.2.2.2.1) (hf : chk (0 ≤ i ∧ i < N) X = some q) (hv : 0 ≤ i ∧ i < N → μ.2.2.2.2.1 k i = v ∧ 0 ≤ v) (hh : X = some q → El S M f z0 z1 r (pc + 1) μ L ((3, v) :: st)) : El S M f z0 z1 r (pc) μ L ((0, i) :: (3, k) :: st) := by
  intro p l e Rm s m args below meth c A H locs D dA ad0 ad ls C K h hl hL hn hs
  have hx := C.1
  have hb := C.2.1
  obtain ⟨hi, hf⟩ := chk_of hf
  obtain ⟨hv1, hv2⟩ := hv hi
  obtain ⟨z, rfl⟩ := Int.eq_ofNat_of_zero_le h0
  have hq : z < μ.2.2.2.1 := by omega
  have hsq : S z = (3, N) := by simpa using hsh
  have hvp := in32_vp (cons_ok hs).1 hi.1 hi.2
  have h2 := hh hf p l e Rm s m args below meth c A H locs D dA ad0 ad ls C K h hl hL hn (ok_cons (show okv μ.1 (3, v) from trivial) (cons_ok (cons_ok hs).2).2)
  rw [List.map_cons, List.map_cons, rv_3, Int.toNat_natCast]
  have hlt : (Int32.ofInt i).toNatClampNeg < N := Nat.not_le.mp fun q => hvp.1 (Or.inr q)
  have ha : (ww S dA ad μ)[μ.1 + z]? = some (ad (100000 + z), .inl (dA 3, N, .inr (.inr (.inr (.inr fun j => if μ.2.2.2.2.1 z j < 0 then none else some (ad (100000 + (μ.2.2.2.2.1 z j).toNat))))))) := by rw [ww_x hq, xel_3 hsq]
  refine W.aald (v := .ref (ad (100000 + v.toNat))) (ty := .array .int) hx hb (h.1 (μ.1 + z) _ ha) ((K.1.2 3 (dA 3, .array .int) rfl).1 N (fun j => va_rf (if μ.2.2.2.2.1 z j < 0 then none else some (ad (100000 + (μ.2.2.2.2.1 z j).toNat))))) rfl (fun q => by cases q) (by show ¬ ((Int32.ofInt i) < 0 ∨ (arrV _ _ _).slots.size ≤ _); rw [arrV_size]; exact hvp.1) ?_ rfl rfl hd h2
  show (arrV _ _ _).slots[_]? = _
  rw [arrV_read _ _ hlt, hvp.2, Int.toNat_of_nonneg hi.1, hv1, if_neg (by omega)]
  rfl
theorem el_xast {S : XS} {M : MD} {f : Bool × Bool} {z0 z1 : Nat × Nat} {r : Option V × LM} {pc : Nat} {n nx : Nat} {ρ σ η ξ : Mem} {L st : List V} {α : Type} {X : Option α} {q : α} {k i x : Int} {N : Nat} (hd : decode M.2.1 pc = .ok (.iastore, 1)) (hsh : S k.toNat = (0, N)) (h0 : 0 ≤ k) (hkn : k < nx) (hf : chk (0 ≤ i ∧ i < N) X = some q) (hh : X = some q → El S M f z0 z1 r (pc + 1) (n, ρ, σ, nx, η, mup ξ k i x) L st) : El S M f z0 z1 r (pc) (n, ρ, σ, nx, η, ξ) L ((0, x) :: (0, i) :: (3, k) :: st) := by
  intro p l e Rm s m args below meth c A H locs D dA ad0 ad ls C K h hl hL hn hs
  have hx := C.1
  have hb := C.2.1
  obtain ⟨hi, hf⟩ := chk_of hf
  obtain ⟨z, rfl⟩ := Int.eq_ofNat_of_zero_le h0
  have hq : z < nx := by omega
  have hsq : S z = (0, N) := by simpa using hsh
  have hvp := in32_vp (cons_ok (cons_ok hs).2).1 hi.1 hi.2
  rw [List.map_cons, List.map_cons, List.map_cons, rv_3, Int.toNat_natCast]
  have hset : (ww S dA ad (n, ρ, σ, nx, η, ξ)).set (n + z) (ad (100000 + z), .inl (dA 0, N, .inl (upd (fun j : Nat => Int32.ofInt (ξ z j)) (Int32.ofInt i).toNatClampNeg (Int32.ofInt x)))) = ww S dA ad (n, ρ, σ, nx, η, mup ξ z i x) := by
    have e : .inl (upd (fun j : Nat => Int32.ofInt (ξ z j)) (Int32.ofInt i).toNatClampNeg (Int32.ofInt x)) = ((.inl fun j : Nat => Int32.ofInt (mup ξ z i x z j)) : (Nat → Int32) ⊕ (Nat → Int64) ⊕ (Nat → UInt32) ⊕ (Nat → UInt64) ⊕ (Nat → Option Nat)) := by
      congr 1
      funext j
      rw [hvp.2]
      show (if j = i.toNat then _ else _) = Int32.ofInt (if _ ∧ _ then _ else _)
      by_cases hj : j = i.toNat
      · have hj2 : (j : Int) = i := by omega
        rw [if_pos hj, if_pos ⟨rfl, hj2⟩]
      · have hj2 : ¬ (j : Int) = i := by omega
        rw [if_neg hj, if_neg (fun h9 => hj2 h9.2)]
    rw [e, ← xel_0 (dA := dA) (ad := ad) (η := η) hsq]
    exact ww_set fun a _ ha => xel_mup (ne_cast ha)
  obtain ⟨hP, hD, hS, hA0, hA1, hpk, hn0, hn1, h9, hpx, hx0, hx1, hx9, hsz⟩ := id h
  have ha : (ww S dA ad (n, ρ, σ, nx, η, ξ))[n + z]? = some (ad (100000 + z), .inl (dA 0, N, .inl fun j : Nat => Int32.ofInt (ξ z j))) := by rw [ww_x (μ := (n, ρ, σ, nx, η, ξ)) hq, xel_0 hsq]
  refine W.iast hx hb (hP (n + z) _ ha) ((K.1.2 0 (dA 0, .int) rfl).1 N (fun j => .int (Int32.ofInt (ξ z j)))) (fun q => by cases q) (by show ¬ ((Int32.ofInt i) < 0 ∨ (arrV _ _ _).slots.size ≤ _); rw [arrV_size]; exact hvp.1) rfl rfl hd fun H1 ee z1 oq => ?_
  have hP1 := hP.set (e := .inl (dA 0, N, .inl (upd (fun j : Nat => Int32.ofInt (ξ z j)) (Int32.ofInt i).toNatClampNeg (Int32.ofInt x)))) hD ha (by
    show H1[_]? = some (vp_cell _ _)
    rw [ee]
    rw [vp_cell_i, vp_cell_i, arrV_store]
    congr 2
    funext q
    by_cases hq : q = (Int32.ofInt i).toNatClampNeg
    · subst hq
      simp [updV, upd]
    · simp [updV, upd, hq]) oq
  have hD1 := hD.set (e := .inl (dA 0, N, .inl (upd (fun j : Nat => Int32.ofInt (ξ z j)) (Int32.ofInt i).toNatClampNeg (Int32.ofInt x)))) ha
  rw [hset] at hP1 hD1
  exact hh hf p l e Rm s m args below meth c A H1 _ D dA ad0 ad ls C K ⟨hP1, hD1, hS.put z1 oq (hD.2 (n + z) _ ha), hA0, hA1, hpk, hn0, hn1, h9, pokx_mup hpx hkn (cons_ok hs).1, hx0, hx1, hx9, fun hb => by rw [z1]; exact hsz hb⟩ hl hL hn (cons_ok (cons_ok (cons_ok hs).2).2).2
/-- the arrays of arrays: a write -/
theorem el_xaast {S : XS} {M : MD} {f : Bool × Bool} {z0 z1 : Nat × Nat} {r : Option V × LM} {pc : Nat} {n nx : Nat} {ρ σ η ξ : Mem} {L st : List V} {k i v : Int} {N N2 : Nat} (hd : decode M.2.1 pc = .ok (.aastore, 1)) (hw : Cond.arrayOver (.array .int) ∈ WS) (hsh : S k.toNat = (3, N)) (h0 : 0 ≤ k) (hkn : k < nx) (hsv : S v.toNat = (0, N2)) (hv0 : 0 ≤ v) (hvn : v < nx) (hi : 0 ≤ i ∧ i < N) (hh : El S M f z0 z1 r (pc + 1) (n, ρ, σ, nx, mup η k i v, ξ) L st) : El S M f z0 z1 r (pc) (n, ρ, σ, nx, η, ξ) L ((3, v) :: (0, i) :: (3, k) :: st) := by
  intro p l e Rm s m args below meth c A H locs D dA ad0 ad ls C K h hl hL hn hs
  have hx := C.1
  have hb := C.2.1
  obtain ⟨z, rfl⟩ := Int.eq_ofNat_of_zero_le h0
  obtain ⟨zv, rfl⟩ := Int.eq_ofNat_of_zero_le hv0
  have hq : z < nx := by omega
  have hqv : zv < nx := by omega
  have hsq : S z = (3, N) := by simpa using hsh
  have hsqv : S zv = (0, N2) := by simpa using hsv
  have hvp := in32_vp (cons_ok (cons_ok hs).2).1 hi.1 hi.2
  rw [List.map_cons, List.map_cons, List.map_cons, rv_3, rv_3, Int.toNat_natCast, Int.toNat_natCast]
  have hset : (ww S dA ad (n, ρ, σ, nx, η, ξ)).set (n + z) (ad (100000 + z), .inl (dA 3, N, .inr (.inr (.inr (.inr (va_up (fun j : Nat => if η z j < 0 then none else some (ad (100000 + (η z j).toNat))) (Int32.ofInt i).toNatClampNeg (some (ad (100000 + zv))))))))) = ww S dA ad (n, ρ, σ, nx, mup η z i zv, ξ) := by
    have e : (va_up (fun j : Nat => if η z j < 0 then none else some (ad (100000 + (η z j).toNat))) (Int32.ofInt i).toNatClampNeg (some (ad (100000 + zv)))) = fun j : Nat => if mup η z i zv z j < 0 then none else some (ad (100000 + (mup η z i zv z j).toNat)) := by
      funext j
      unfold va_up mup
      rw [hvp.2]
      by_cases hj : j = i.toNat
      · have hj2 : (j : Int) = i := by omega
        rw [if_pos hj]
        simp [hj2]
      · have hj2 : ¬ (j : Int) = i := by omega
        rw [if_neg hj]
        simp [hj2]
    rw [e, ← xel_3 (dA := dA) (ad := ad) (ξ := ξ) hsq]
    exact ww_set fun a _ ha => xel_mupr (ne_cast ha)
  obtain ⟨hP, hD, hS, hA0, hA1, hpk, hn0, hn1, h9, hpx, hx0, hx1, hx9, hsz⟩ := id h
  have ha : (ww S dA ad (n, ρ, σ, nx, η, ξ))[n + z]? = some (ad (100000 + z), .inl (dA 3, N, .inr (.inr (.inr (.inr fun j : Nat => if η z j < 0 then none else some (ad (100000 + (η z j).toNat))))))) := by rw [ww_x (μ := (n, ρ, σ, nx, η, ξ)) hq, xel_3 hsq]
  have hav : (ww S dA ad (n, ρ, σ, nx, η, ξ))[n + zv]? = some (ad (100000 + zv), .inl (dA 0, N2, .inl fun j : Nat => Int32.ofInt (ξ zv j))) := by rw [ww_x (μ := (n, ρ, σ, nx, η, ξ)) hqv, xel_0 hsqv]
  obtain ⟨comp, cA, kA, w1, w2, w3, w4, w5⟩ := arrayOverA_spec (C.2.2.2.2.2.1 _ hw)
  have g3 : s.vm.findClass ("[" ++ (FieldType.array .int).toString) = some (dA 3) := (K.1.2 3 (dA 3, .array .int) rfl).2
  have g0 : s.vm.findClass ("[" ++ (FieldType.int).toString) = some (dA 0) := (K.1.2 0 (dA 0, .int) rfl).2
  have hcA : cA = dA 3 := Option.some.inj (w5.symm.trans g3)
  have hcomp : comp = dA 0 := Option.some.inj (w1.symm.trans g0)
  subst hcA hcomp
  obtain ⟨kC, hkC, -⟩ := Vm.findClass_spec w1
  refine W.aast hx hb (hP (n + z) _ ha) (fun q h => by cases h) (fun h => by cases h) w3 w4 rfl hkC ⟨fun q => hvp.1 (Or.inl q), by show _ < (arrV _ _ _).slots.size; rw [arrV_size]; exact Nat.not_le.mp fun q => hvp.1 (Or.inr q)⟩ (hP (n + zv) _ hav) (fun q h => by cases h) hkC (va_asg _ _) rfl rfl hd fun H1 ee z1 oq => ?_
  have hP1 := hP.set (e := .inl (dA 3, N, .inr (.inr (.inr (.inr (va_up (fun j : Nat => if η z j < 0 then none else some (ad (100000 + (η z j).toNat))) (Int32.ofInt i).toNatClampNeg (some (ad (100000 + zv))))))))) hD ha (by
    show H1[_]? = some (vp_cell _ _)
    rw [ee]
    rw [vp_cell_q, vp_cell_q, arrV_store]
    congr 2
    funext q
    by_cases hq : q = (Int32.ofInt i).toNatClampNeg
    · subst hq
      simp [updV, va_up, va_rf]
    · simp [updV, va_up, hq]) oq
  have hD1 := hD.set (e := .inl (dA 3, N, .inr (.inr (.inr (.inr (va_up (fun j : Nat => if η z j < 0 then none else some (ad (100000 + (η z j).toNat))) (Int32.ofInt i).toNatClampNeg (some (ad (100000 + zv))))))))) ha
  rw [hset] at hP1 hD1
  exact hh p l e Rm s m args below meth c A H1 _ D dA ad0 ad ls C K ⟨hP1, hD1, hS.put z1 oq (hD.2 (n + z) _ ha), hA0, hA1, hpk, hn0, hn1, h9, pokx_mupr hpx hkn ⟨by omega, hvn⟩, hx0, hx1, hx9, fun hb => by rw [z1]; exact hsz hb⟩ hl hL hn (cons_ok (cons_ok (cons_ok hs).2).2).2
/-- behind the making of an array -/
theorem el_made {S : XS} {M : MD} {z0 z1 : Nat × Nat} {κ : Bool} {r : Option V × LM} {pc : Nat} {n nx N : Nat} {ρ σ η ξ : Mem} {L st : List V} {p : Program} {l : Launch} {e : Env} {Rm : Room} {s : State} {m : MethodId} {args : Array Value} {below : List Frame} {meth : Method} {c : Code} {A : Nat → Prop} {H H1 : Heap} {locs : List Loc} {D : va_G} {dA : Nat → ClassId} {ad0 ad : Nat → Nat} {ls : Array Slot} (C : Cxl S M z0 z1 p Rm s m args meth c) (K : Cwl M D dA z0 z1 ad0 A s) (h : Chl S true D dA z0 z1 (n, ρ, σ, nx, η, ξ) ad0 ad A s.heap H locs) (hl : lv_has ls M.2.2.1 (lz ad 0 L)) (hL : ∀ v ∈ L, okv n v) (hn : L.length = M.2.2.1) (hs : ∀ v ∈ st, okv n v) (hn0 : n = z0.1) (hx1 : nx < z1.2) (hN : (S nx).2 = N) (o1 : ∀ q : Nat, q < H.size → H1[q]? = H[q]?) (hz : H1.size = H.size + 1) (hv : va_at D vwCl (H.size, xel S dA ad η ξ nx) H1)
    (hh : El S M (κ, true) z0 z1 r pc (n, ρ, σ, nx + 1, η, ξ) L ((3, (nx : Int)) :: st)) : W p l e Rm s m args below meth c H1 locs (n - z0.1 + (nx - z0.2) + 1) (szL n - szL z0.1 + (xz S nx - xz S z0.2) + N) (MQ below (Qml S κ z0 z1 r D dA ad0 A) args s (z1.1 - z0.1 + (z1.2 - z0.2)) (szL z1.1 - szL z0.1 + (xz S z1.2 - xz S z0.2)) A) (F0 m pc ls (.ref H.size :: st.map (rv ad))) := by
  obtain ⟨hP, hD, hS, hA0, hA1, hpk, hz0, hz1, h9, hpx, hx0, hxx, hx9, hsz⟩ := id h
  have ea : ad (100000 + nx) = H.size := by
    rw [hA1 _ (by omega), K.2.2.2.2 nx hx0 hx1, hsz rfl]
    show _ = s.heap.size + (n - z0.1) + (nx - z0.2)
    omega
  have hw : ww S dA ad (n, ρ, σ, nx + 1, η, ξ) = ww S dA ad (n, ρ, σ, nx, η, ξ) ++ [(H.size, xel S dA ad η ξ nx)] := by
    unfold ww
    rw [xl_push, ea, List.append_assoc]
  have hk : ∀ (k : Nat) (x : Nat × va_E), (ww S dA ad (n, ρ, σ, nx, η, ξ))[k]? = some x → H1[x.1]? = H[x.1]? := fun k x hx => o1 x.1 ((hP k x hx).lt)
  have key := hh p l e Rm s m args below meth c A H1 locs D dA ad0 ad ls C K
    ⟨by
      rw [hw]
      refine (hP.kept hk).app fun k x hx => ?_
      have hz : k < 1 := (List.getElem?_eq_some_iff.mp hx).1
      rw [show k = 0 by omega] at hx
      cases hx
      exact hv, by rw [hw]; exact hD.push hP rfl (K.2.2.1 _ hS.1), ⟨Nat.le_trans hS.1 (by omega), fun x h1 h2 => (o1 x (Nat.lt_of_lt_of_le h1 hS.1)).trans (hS.2.1 x h1 h2), hS.2.2⟩, hA0, hA1, hpk, hz0, hz1, h9, pokx_push hpx, by show z0.2 ≤ nx + 1; have : z0.2 ≤ nx := hx0; omega, hx1, hx9, fun _ => by
        rw [hz, hsz rfl]
        show s.heap.size + (n - z0.1) + (nx - z0.2) + 1 = s.heap.size + (n - z0.1) + (nx + 1 - z0.2)
        have : z0.2 ≤ nx := hx0
        omega⟩ hl hL hn (ok_cons (show okv n (3, (nx : Int)) from trivial) hs)
  have hx0' : z0.2 ≤ nx := hx0
  have q1 : n - z0.1 + (nx + 1 - z0.2) = n - z0.1 + (nx - z0.2) + 1 := by omega
  have q2 : szL n - szL z0.1 + (xz S (nx + 1) - xz S z0.2) = szL n - szL z0.1 + (xz S nx - xz S z0.2) + N := by
    have := xz_mono (S := S) hx0'
    show _ + (xz S nx + (S nx).2 - xz S z0.2) = _
    rw [hN]; omega
  rw [List.map_cons, rv_3, Int.toNat_natCast, ea] at key
  rw [← q1, ← q2]
  exact key
theorem room_x {S : XS} {M : MD} {z0 z1 : Nat × Nat} {n nx N : Nat} {p : Program} {Rm : Room} {s : State} {m : MethodId} {args : Array Value} {meth : Method} {c : Code} (C : Cxl S M z0 z1 p Rm s m args meth c) (h0 : z0.1 ≤ n) (h1 : n ≤ z1.1) (hx0 : z0.2 ≤ nx) (hx1 : nx < z1.2) (hN : (S nx).2 = N) : n - z0.1 + (nx - z0.2) + 1 ≤ Rm.cells ∧ szL n - szL z0.1 + (xz S nx - xz S z0.2) + N ≤ Rm.slots := by
  have h1' := C.2.2.2.2.2.2.2.2.2.1
  have h2 := C.2.2.2.2.2.2.2.2.2.2.1
  have h3 := szL_mono h0
  have h4 := szL_mono h1
  have h5 := xz_mono (S := S) hx0
  have h6 : xz S (nx + 1) ≤ xz S z1.2 := xz_mono hx1
  have h7 : xz S (nx + 1) = xz S nx + N := by show xz S nx + (S nx).2 = _; rw [hN]
  omega
theorem el_newi {S : XS} {M : MD} {κ : Bool} {z0 z1 : Nat × Nat} {r : Option V × LM} {pc : Nat} {n nx : Nat} {ρ σ η ξ : Mem} {L st : List V} {N : Nat} (hd : decode M.2.1 pc = .ok (.newarray .int, 2)) (hw : Cond.arrayClass .int ∈ WS) (hsh : S nx = (0, N)) (hN : N ≤ 10000) (hn0 : n = z0.1) (hx1 : nx < z1.2) (hh : El S M (κ, true) z0 z1 r (pc + 2) (n, ρ, σ, nx + 1, η, ξ) L ((3, (nx : Int)) :: st)) : El S M (κ, true) z0 z1 r (pc) (n, ρ, σ, nx, η, ξ) L ((0, (N : Int)) :: st) := by
  intro p l e Rm s m args below meth c A H locs D dA ad0 ad ls C K h hl hL hn hs
  have hx := C.1
  have hb := C.2.1
  have hr := room_x C h.2.2.2.2.2.2.1 h.2.2.2.2.2.2.2.1 h.2.2.2.2.2.2.2.2.2.2.1 hx1 (show (S nx).2 = N by rw [hsh])
  have hts := C.2.2.2.2.2.1
  have hin : in32 (N : Int) := ⟨by omega, by omega⟩
  refine va_newaK (atype := .int) (n := Int32.ofInt (N : Int)) (N := N) hx hb (hts _ hw) rfl hd rfl (fun z => by have := (lt32 hin in32_0).mp z; omega) (by show (Int32.ofInt (N : Int)).toInt.toNat = N; rw [oi32 hin]; omega) (by simp [componentBytes, newarray.typeOf]; omega) hr.1 hr.2 rfl fun H1 cA e1 hz o1 hAr hNm => ?_
  have e0 : cA = dA 0 := Option.some.inj (hNm.symm.trans (K.1.2 0 (dA 0, .int) rfl).2)
  subst e0
  refine el_made C K h hl hL hn (cons_ok hs).2 hn0 hx1 (show (S nx).2 = N by rw [hsh]) o1 hz ?_ hh
  rw [xel_0 hsh]
  show H1[H.size]? = some (vp_cell _ _)
  have hfr : ∀ j : Int, ξ nx j = 0 := fun j => (h.2.2.2.2.2.2.2.2.2.1.2.2 nx j (Int.le_refl _)).2
  simp only [hfr]
  exact e1
theorem el_newa {S : XS} {M : MD} {κ : Bool} {z0 z1 : Nat × Nat} {r : Option V × LM} {pc : Nat} {n nx idx : Nat} {ρ σ η ξ : Mem} {L st : List V} {N : Nat} (hd : decode M.2.1 pc = .ok (.anewarray idx, 3)) (hwc : Cond.classLink M.1 idx "[I" ∈ WS) (hw : Cond.arrayOver (.array .int) ∈ WS) (hsh : S nx = (3, N)) (hN : N ≤ 10000) (hn0 : n = z0.1) (hx1 : nx < z1.2) (hh : El S M (κ, true) z0 z1 r (pc + 3) (n, ρ, σ, nx + 1, η, ξ) L ((3, (nx : Int)) :: st)) : El S M (κ, true) z0 z1 r (pc) (n, ρ, σ, nx, η, ξ) L ((0, (N : Int)) :: st) := by
  intro p l e Rm s m args below meth c A H locs D dA ad0 ad ls C K h hl hL hn hs
  have hx := C.1
  have hb := C.2.1
  have hr := room_x C h.2.2.2.2.2.2.1 h.2.2.2.2.2.2.2.1 h.2.2.2.2.2.2.2.2.2.2.1 hx1 (show (S nx).2 = N by rw [hsh])
  have hts := C.2.2.2.2.2.1
  have hin : in32 (N : Int) := ⟨by omega, by omega⟩
  have hNc : (Int32.ofInt (N : Int)).toNatClampNeg = N := by show (Int32.ofInt (N : Int)).toInt.toNat = N; rw [oi32 hin]; omega
  refine W.anewA (t := .int) (n := Int32.ofInt (N : Int)) hx hb C.2.2.2.2.1 (hts _ hwc) (hts _ hw) rfl hd rfl (fun z => by have := (lt32 hin in32_0).mp z; omega) (by rw [hNc]; omega) hr.1 (by rw [hNc]; exact hr.2) fun cA kA comp f1 f2 f3 f4 => ?_
  rw [hNc]
  have e0 : cA = dA 3 := Option.some.inj (f1.symm.trans (K.1.2 3 (dA 3, .array .int) rfl).2)
  subst e0
  refine el_made C K h hl hL hn (cons_ok hs).2 hn0 hx1 (show (S nx).2 = N by rw [hsh]) (fun q hq => by rw [Array.getElem?_push, if_neg (Nat.ne_of_lt hq)]) (by simp) ?_ hh
  rw [xel_3 hsh]
  show (H.push _)[H.size]? = some (vp_cell _ _)
  have hfr : ∀ j : Int, η nx j = -1 := fun j => (h.2.2.2.2.2.2.2.2.2.1.2.2 nx j (Int.le_refl _)).1
  simp only [hfr]
  rw [Array.getElem?_push_size, vp_cell_q, ← arrV_new]
  rfl
/-- the size of the heap is no longer looked at -/
theorem el_loose {S : XS} {M : MD} {κ : Bool} {z0 z1 : Nat × Nat} {r : Option V × LM} {pc : Nat} {μ : LM} {L st : List V} (hh : El S M (κ, false) z0 z1 r pc μ L st) : El S M (κ, true) z0 z1 r pc μ L st := fun p l e Rm s m args below meth c A H locs D dA ad0 ad ls C K h hl hL hn hs => hh p l e Rm s m args below meth c A H locs D dA ad0 ad ls C K ⟨h.1, h.2.1, h.2.2.1, h.2.2.2.1, h.2.2.2.2.1, h.2.2.2.2.2.1, h.2.2.2.2.2.2.1, h.2.2.2.2.2.2.2.1, h.2.2.2.2.2.2.2.2.1, h.2.2.2.2.2.2.2.2.2.1, h.2.2.2.2.2.2.2.2.2.2.1, h.2.2.2.2.2.2.2.2.2.2.2.1, h.2.2.2.2.2.2.2.2.2.2.2.2.1, fun z => by cases z⟩ hl hL hn hs
end
