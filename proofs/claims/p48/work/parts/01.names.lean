-- ===== PART A: goes FIRST, ahead of the names: the tables' words, and 'selects' of the private methods out of them =====
/-- a private method of a class that the tables say can be made, by its rows of tables_1 -/
def lw_okq (q : MethodName × Nat) : Prop := (q.1.cls ≠ "java/lang/invoke/MethodHandle" ∧ q.1.cls ≠ "java/lang/invoke/VarHandle") ∧ Cond.instantiable q.1.cls q.2 ∈ tables_1 ∧ Cond.privateMethod q.1 ∈ tables_1 ∧ Cond.instanceMethod q.1 ∈ tables_1
theorem lw_p0 : lw_okq (⟨"ClashDays", "refuse", "(I)I"⟩, 14) := ⟨⟨by decide +kernel, by decide +kernel⟩, List.mem_of_getElem? (i := 17) (by decide +kernel), List.mem_of_getElem? (i := 400) (by decide +kernel), List.mem_of_getElem? (i := 401) (by decide +kernel)⟩
theorem lw_p1 : lw_okq (⟨"ClashDays$Orders", "walk", "([IJ)Z"⟩, 14) := ⟨⟨by decide +kernel, by decide +kernel⟩, List.mem_of_getElem? (i := 146) (by decide +kernel), List.mem_of_getElem? (i := 505) (by decide +kernel), List.mem_of_getElem? (i := 506) (by decide +kernel)⟩
theorem lw_p2 : lw_okq (⟨"ClashDays$Orders", "measured", "(I)I"⟩, 14) := ⟨⟨by decide +kernel, by decide +kernel⟩, List.mem_of_getElem? (i := 146) (by decide +kernel), List.mem_of_getElem? (i := 513) (by decide +kernel), List.mem_of_getElem? (i := 514) (by decide +kernel)⟩
theorem lw_p3 : lw_okq (⟨"ClashDays$Orders", "nextRow", "()Z"⟩, 14) := ⟨⟨by decide +kernel, by decide +kernel⟩, List.mem_of_getElem? (i := 146) (by decide +kernel), List.mem_of_getElem? (i := 529) (by decide +kernel), List.mem_of_getElem? (i := 530) (by decide +kernel)⟩
theorem lw_p4 : lw_okq (⟨"ClashDays$Orders", "swap", "(II)V"⟩, 14) := ⟨⟨by decide +kernel, by decide +kernel⟩, List.mem_of_getElem? (i := 146) (by decide +kernel), List.mem_of_getElem? (i := 533) (by decide +kernel), List.mem_of_getElem? (i := 534) (by decide +kernel)⟩
theorem lw_p5 : lw_okq (⟨"ClashDays$Duties", "add", "(IIII)V"⟩, 10) := ⟨⟨by decide +kernel, by decide +kernel⟩, List.mem_of_getElem? (i := 271) (by decide +kernel), List.mem_of_getElem? (i := 607) (by decide +kernel), List.mem_of_getElem? (i := 608) (by decide +kernel)⟩
theorem lw_p6 : lw_okq (⟨"ClashDays$Duties", "giveOut", "(I)V"⟩, 10) := ⟨⟨by decide +kernel, by decide +kernel⟩, List.mem_of_getElem? (i := 271) (by decide +kernel), List.mem_of_getElem? (i := 611) (by decide +kernel), List.mem_of_getElem? (i := 612) (by decide +kernel)⟩
theorem lw_p7 : lw_okq (⟨"ClashDays$Duties", "beginOf", "(I)I"⟩, 10) := ⟨⟨by decide +kernel, by decide +kernel⟩, List.mem_of_getElem? (i := 271) (by decide +kernel), List.mem_of_getElem? (i := 615) (by decide +kernel), List.mem_of_getElem? (i := 616) (by decide +kernel)⟩
theorem lw_p8 : lw_okq (⟨"ClashDays$Duties", "watcherAt", "(I)I"⟩, 10) := ⟨⟨by decide +kernel, by decide +kernel⟩, List.mem_of_getElem? (i := 271) (by decide +kernel), List.mem_of_getElem? (i := 619) (by decide +kernel), List.mem_of_getElem? (i := 620) (by decide +kernel)⟩
theorem lw_p9 : lw_okq (⟨"ClashDays$Duties", "countAtOnce", "(I)V"⟩, 10) := ⟨⟨by decide +kernel, by decide +kernel⟩, List.mem_of_getElem? (i := 271) (by decide +kernel), List.mem_of_getElem? (i := 623) (by decide +kernel), List.mem_of_getElem? (i := 624) (by decide +kernel)⟩
theorem lw_p10 : lw_okq (⟨"ClashDays$Week", "pieceFrom", "(II)J"⟩, 9) := ⟨⟨by decide +kernel, by decide +kernel⟩, List.mem_of_getElem? (i := 208) (by decide +kernel), List.mem_of_getElem? (i := 662) (by decide +kernel), List.mem_of_getElem? (i := 663) (by decide +kernel)⟩
theorem lw_p11 : lw_okq (⟨"ClashDays$Seats", "seat", "(LClashDays$Book;I)V"⟩, 9) := ⟨⟨by decide +kernel, by decide +kernel⟩, List.mem_of_getElem? (i := 308) (by decide +kernel), List.mem_of_getElem? (i := 668) (by decide +kernel), List.mem_of_getElem? (i := 669) (by decide +kernel)⟩
theorem lw_p12 : lw_okq (⟨"ClashDays$Seats", "countMoves", "(II)V"⟩, 9) := ⟨⟨by decide +kernel, by decide +kernel⟩, List.mem_of_getElem? (i := 308) (by decide +kernel), List.mem_of_getElem? (i := 672) (by decide +kernel), List.mem_of_getElem? (i := 673) (by decide +kernel)⟩
theorem lw_p13 : lw_okq (⟨"ClashDays$Seats", "costFrom", "(IIII)I"⟩, 9) := ⟨⟨by decide +kernel, by decide +kernel⟩, List.mem_of_getElem? (i := 308) (by decide +kernel), List.mem_of_getElem? (i := 676) (by decide +kernel), List.mem_of_getElem? (i := 677) (by decide +kernel)⟩
theorem lw_p14 : lw_okq (⟨"ClashDays$Seats", "firstRoom", "(III)I"⟩, 9) := ⟨⟨by decide +kernel, by decide +kernel⟩, List.mem_of_getElem? (i := 308) (by decide +kernel), List.mem_of_getElem? (i := 680) (by decide +kernel), List.mem_of_getElem? (i := 681) (by decide +kernel)⟩
theorem lw_p15 : lw_okq (⟨"ClashDays$Seats", "costWith", "(III)I"⟩, 9) := ⟨⟨by decide +kernel, by decide +kernel⟩, List.mem_of_getElem? (i := 308) (by decide +kernel), List.mem_of_getElem? (i := 684) (by decide +kernel), List.mem_of_getElem? (i := 685) (by decide +kernel)⟩
def lw_privs_1 : List (MethodName × Nat) := [(⟨"ClashDays", "refuse", "(I)I"⟩, 14), (⟨"ClashDays$Orders", "walk", "([IJ)Z"⟩, 14), (⟨"ClashDays$Orders", "measured", "(I)I"⟩, 14), (⟨"ClashDays$Orders", "nextRow", "()Z"⟩, 14), (⟨"ClashDays$Orders", "swap", "(II)V"⟩, 14), (⟨"ClashDays$Duties", "add", "(IIII)V"⟩, 10), (⟨"ClashDays$Duties", "giveOut", "(I)V"⟩, 10), (⟨"ClashDays$Duties", "beginOf", "(I)I"⟩, 10), (⟨"ClashDays$Duties", "watcherAt", "(I)I"⟩, 10), (⟨"ClashDays$Duties", "countAtOnce", "(I)V"⟩, 10), (⟨"ClashDays$Week", "pieceFrom", "(II)J"⟩, 9), (⟨"ClashDays$Seats", "seat", "(LClashDays$Book;I)V"⟩, 9), (⟨"ClashDays$Seats", "countMoves", "(II)V"⟩, 9), (⟨"ClashDays$Seats", "costFrom", "(IIII)I"⟩, 9), (⟨"ClashDays$Seats", "firstRoom", "(III)I"⟩, 9), (⟨"ClashDays$Seats", "costWith", "(III)I"⟩, 9)]
theorem lw_r1 : ∀ q ∈ lw_privs_1, lw_okq q := List.forall_mem_cons.mpr ⟨lw_p0, List.forall_mem_cons.mpr ⟨lw_p1, List.forall_mem_cons.mpr ⟨lw_p2, List.forall_mem_cons.mpr ⟨lw_p3, List.forall_mem_cons.mpr ⟨lw_p4, List.forall_mem_cons.mpr ⟨lw_p5, List.forall_mem_cons.mpr ⟨lw_p6, List.forall_mem_cons.mpr ⟨lw_p7, List.forall_mem_cons.mpr ⟨lw_p8, List.forall_mem_cons.mpr ⟨lw_p9, List.forall_mem_cons.mpr ⟨lw_p10, List.forall_mem_cons.mpr ⟨lw_p11, List.forall_mem_cons.mpr ⟨lw_p12, List.forall_mem_cons.mpr ⟨lw_p13, List.forall_mem_cons.mpr ⟨lw_p14, List.forall_mem_cons.mpr ⟨lw_p15, fun _ h => absurd h List.not_mem_nil⟩⟩⟩⟩⟩⟩⟩⟩⟩⟩⟩⟩⟩⟩⟩⟩
theorem lw_p16 : lw_okq (⟨"ClashDays$Seats", "fill", "(LClashDays$Book;IJ)V"⟩, 9) := ⟨⟨by decide +kernel, by decide +kernel⟩, List.mem_of_getElem? (i := 308) (by decide +kernel), List.mem_of_getElem? (i := 688) (by decide +kernel), List.mem_of_getElem? (i := 689) (by decide +kernel)⟩
theorem lw_p17 : lw_okq (⟨"ClashDays", "cantsFlipped", "(II)I"⟩, 14) := ⟨⟨by decide +kernel, by decide +kernel⟩, List.mem_of_getElem? (i := 17) (by decide +kernel), List.mem_of_getElem? (i := 733) (by decide +kernel), List.mem_of_getElem? (i := 734) (by decide +kernel)⟩
theorem lw_p18 : lw_okq (⟨"ClashDays", "daysSomebodyCant", "()I"⟩, 14) := ⟨⟨by decide +kernel, by decide +kernel⟩, List.mem_of_getElem? (i := 17) (by decide +kernel), List.mem_of_getElem? (i := 852) (by decide +kernel), List.mem_of_getElem? (i := 853) (by decide +kernel)⟩
theorem lw_p19 : lw_okq (⟨"ClashDays", "takersOf", "(I)I"⟩, 14) := ⟨⟨by decide +kernel, by decide +kernel⟩, List.mem_of_getElem? (i := 17) (by decide +kernel), List.mem_of_getElem? (i := 869) (by decide +kernel), List.mem_of_getElem? (i := 870) (by decide +kernel)⟩
theorem lw_p20 : lw_okq (⟨"ClashDays", "lateOnesOf", "(I)I"⟩, 14) := ⟨⟨by decide +kernel, by decide +kernel⟩, List.mem_of_getElem? (i := 17) (by decide +kernel), List.mem_of_getElem? (i := 873) (by decide +kernel), List.mem_of_getElem? (i := 874) (by decide +kernel)⟩
def lw_privs_2 : List (MethodName × Nat) := [(⟨"ClashDays$Seats", "fill", "(LClashDays$Book;IJ)V"⟩, 9), (⟨"ClashDays", "cantsFlipped", "(II)I"⟩, 14), (⟨"ClashDays", "daysSomebodyCant", "()I"⟩, 14), (⟨"ClashDays", "takersOf", "(I)I"⟩, 14), (⟨"ClashDays", "lateOnesOf", "(I)I"⟩, 14)]
theorem lw_r2 : ∀ q ∈ lw_privs_2, lw_okq q := List.forall_mem_cons.mpr ⟨lw_p16, List.forall_mem_cons.mpr ⟨lw_p17, List.forall_mem_cons.mpr ⟨lw_p18, List.forall_mem_cons.mpr ⟨lw_p19, List.forall_mem_cons.mpr ⟨lw_p20, fun _ h => absurd h List.not_mem_nil⟩⟩⟩⟩⟩
def lw_privs : List (MethodName × Nat) := lw_privs_1 ++ (lw_privs_2)
def lw_tbl : List Cond := k2_sels lw_privs ++ tables_1
theorem lw_privs_ok : ∀ q ∈ lw_privs, lw_okq q := by
  show ∀ q ∈ lw_privs_1 ++ (lw_privs_2), lw_okq q
  exact List.forall_mem_append.mpr ⟨lw_r1, lw_r2⟩
-- ===== end of PART A; then your names; then what follows =====
def RX0 : String := "ClashDays$Book"
def TX0 : u_T := fun k => match k with
  | 0 => ("ClashDays$Book", "dayOf", "[I", true)
  | 1 => ("ClashDays$Book", "startOf", "[I", true)
  | 2 => ("ClashDays$Book", "lengthOf", "[I", true)
  | 3 => ("ClashDays$Book", "kindOf", "[I", true)
  | 4 => ("ClashDays$Book", "aOf", "[I", true)
  | 5 => ("ClashDays$Book", "nightOf", "[I", true)
  | 6 => ("ClashDays$Book", "takesOf", "[I", true)
  | 7 => ("ClashDays$Book", "seatsOf", "[I", true)
  | 8 => ("ClashDays$Book", "papers", "I", false)
  | 9 => ("ClashDays$Book", "cands", "I", false)
  | 10 => ("ClashDays$Book", "rooms", "I", false)
  | 11 => ("ClashDays$Book", "hours", "I", false)
  | 12 => ("ClashDays$Book", "turn", "I", false)
  | _ => ("ClashDays$Book", "seed", "I", false)
def tyX0 : Nat → FieldType := fun k => match k with
  | 0 => .array .int
  | 1 => .array .int
  | 2 => .array .int
  | 3 => .array .int
  | 4 => .array .int
  | 5 => .array .int
  | 6 => .array .int
  | 7 => .array .int
  | 8 => .int
  | 9 => .int
  | 10 => .int
  | 11 => .int
  | 12 => .int
  | _ => .int
abbrev wsX00 : List Cond := u_ws RX0 TX0 14
theorem nmX0 : ∀ a, a < 14 → ∀ b, b < 14 → a ≠ b → (TX0 a).2.1 ≠ (TX0 b).2.1 := by decide +kernel
theorem tyX0_ok : ∀ k, k < 14 → parseFieldDescriptor (TX0 k).2.2.1 = some (tyX0 k) := by decide +kernel
abbrev cX0_init : ByteArray := prog_2_method_1_code
def yX0_init : MethodName := ⟨RX0, "<init>", "()V"⟩
abbrev cX0_become : ByteArray := prog_2_method_2_code
def yX0_become : MethodName := ⟨RX0, "become", "(LClashDays$Book;)V"⟩
abbrev cX0_hasPaper : ByteArray := prog_2_method_3_code
def yX0_hasPaper : MethodName := ⟨RX0, "hasPaper", "(J)Z"⟩
abbrev cX0_hasCand : ByteArray := prog_2_method_4_code
def yX0_hasCand : MethodName := ⟨RX0, "hasCand", "(I)Z"⟩
abbrev cX0_hasRoom : ByteArray := prog_2_method_5_code
def yX0_hasRoom : MethodName := ⟨RX0, "hasRoom", "(I)Z"⟩
abbrev cX0_addPaper : ByteArray := prog_2_method_6_code
def yX0_addPaper : MethodName := ⟨RX0, "addPaper", "(III)I"⟩
abbrev cX0_addCand : ByteArray := prog_2_method_7_code
def yX0_addCand : MethodName := ⟨RX0, "addCand", "(II)I"⟩
abbrev cX0_addRoom : ByteArray := prog_2_method_8_code
def yX0_addRoom : MethodName := ⟨RX0, "addRoom", "(I)I"⟩
abbrev cX0_doesTake : ByteArray := prog_2_method_9_code
def yX0_doesTake : MethodName := ⟨RX0, "doesTake", "(II)Z"⟩
abbrev cX0_mayFlip : ByteArray := prog_2_method_10_code
def yX0_mayFlip : MethodName := ⟨RX0, "mayFlip", "(II)Z"⟩
abbrev cX0_flip : ByteArray := prog_2_method_11_code
def yX0_flip : MethodName := ⟨RX0, "flip", "(II)V"⟩
abbrev cX0_papersOf : ByteArray := prog_2_method_12_code
def yX0_papersOf : MethodName := ⟨RX0, "papersOf", "(I)I"⟩
abbrev cX0_timeFor : ByteArray := prog_2_method_13_code
def yX0_timeFor : MethodName := ⟨RX0, "timeFor", "(II)I"⟩
abbrev cX0_restFor : ByteArray := prog_2_method_14_code
def yX0_restFor : MethodName := ⟨RX0, "restFor", "(I)I"⟩
abbrev cX0_takenInAll : ByteArray := prog_2_method_15_code
def yX0_takenInAll : MethodName := ⟨RX0, "takenInAll", "()I"⟩
def RX1 : String := "ClashDays$Duties"
def TX1 : u_T := fun k => match k with
  | 0 => ("ClashDays$Duties", "candOf", "[I", true)
  | 1 => ("ClashDays$Duties", "dayOf", "[I", true)
  | 2 => ("ClashDays$Duties", "firstOf", "[I", true)
  | 3 => ("ClashDays$Duties", "slotsOf", "[I", true)
  | 4 => ("ClashDays$Duties", "watcherOf", "[I", true)
  | 5 => ("ClashDays$Duties", "freeFrom", "[I", true)
  | 6 => ("ClashDays$Duties", "count", "I", false)
  | 7 => ("ClashDays$Duties", "watchers", "I", false)
  | 8 => ("ClashDays$Duties", "atOnce", "I", false)
  | _ => ("ClashDays$Duties", "edition", "I", false)
def tyX1 : Nat → FieldType := fun k => match k with
  | 0 => .array .int
  | 1 => .array .int
  | 2 => .array .int
  | 3 => .array .int
  | 4 => .array .int
  | 5 => .array .int
  | 6 => .int
  | 7 => .int
  | 8 => .int
  | _ => .int
abbrev wsX10 : List Cond := u_ws RX1 TX1 10
theorem nmX1 : ∀ a, a < 10 → ∀ b, b < 10 → a ≠ b → (TX1 a).2.1 ≠ (TX1 b).2.1 := by decide +kernel
theorem tyX1_ok : ∀ k, k < 10 → parseFieldDescriptor (TX1 k).2.2.1 = some (tyX1 k) := by decide +kernel
abbrev cX1_init : ByteArray := prog_3_method_1_code
def yX1_init : MethodName := ⟨RX1, "<init>", "()V"⟩
abbrev cX1_count : ByteArray := prog_3_method_2_code
def yX1_count : MethodName := ⟨RX1, "count", "()I"⟩
abbrev cX1_watchers : ByteArray := prog_3_method_3_code
def yX1_watchers : MethodName := ⟨RX1, "watchers", "()I"⟩
abbrev cX1_atOnce : ByteArray := prog_3_method_4_code
def yX1_atOnce : MethodName := ⟨RX1, "atOnce", "()I"⟩
abbrev cX1_tell : ByteArray := prog_3_method_5_code
def yX1_tell : MethodName := ⟨RX1, "tell", "(II)I"⟩
abbrev cX1_gather : ByteArray := prog_3_method_6_code
def yX1_gather : MethodName := ⟨RX1, "gather", "(LClashDays$Book;LClashDays$Weeks;)V"⟩
abbrev cX1_add : ByteArray := prog_3_method_7_code
def yX1_add : MethodName := ⟨RX1, "add", "(IIII)V"⟩
abbrev cX1_beginOf : ByteArray := prog_3_method_8_code
def yX1_beginOf : MethodName := ⟨RX1, "beginOf", "(I)I"⟩
abbrev cX1_giveOut : ByteArray := prog_3_method_9_code
def yX1_giveOut : MethodName := ⟨RX1, "giveOut", "(I)V"⟩
abbrev cX1_watcherAt : ByteArray := prog_3_method_10_code
def yX1_watcherAt : MethodName := ⟨RX1, "watcherAt", "(I)I"⟩
abbrev cX1_countAtOnce : ByteArray := prog_3_method_11_code
def yX1_countAtOnce : MethodName := ⟨RX1, "countAtOnce", "(I)V"⟩
def RX2 : String := "ClashDays$Kinds"
def TX2 : u_T := fun k => match k with
  | _ => ("", "", "", false)
def tyX2 : Nat → FieldType := fun k => match k with
  | _ => .int
abbrev wsX20 : List Cond := u_ws RX2 TX2 0
theorem nmX2 : ∀ a, a < 0 → ∀ b, b < 0 → a ≠ b → (TX2 a).2.1 ≠ (TX2 b).2.1 := by decide +kernel
theorem tyX2_ok : ∀ k, k < 0 → parseFieldDescriptor (TX2 k).2.2.1 = some (tyX2 k) := by decide +kernel
abbrev cX2_isKind : ByteArray := prog_4_method_2_code
def yX2_isKind : MethodName := ⟨RX2, "isKind", "(I)Z"⟩
abbrev cX2_timeOf : ByteArray := prog_4_method_5_code
def yX2_timeOf : MethodName := ⟨RX2, "timeOf", "(III)I"⟩
abbrev cX2_restOf : ByteArray := prog_4_method_6_code
def yX2_restOf : MethodName := ⟨RX2, "restOf", "(II)I"⟩
def RX3 : String := "ClashDays$Orders"
def TX3 : u_T := fun k => match k with
  | 0 => ("ClashDays$Orders", "paper", "[I", true)
  | 1 => ("ClashDays$Orders", "start", "[I", true)
  | 2 => ("ClashDays$Orders", "time", "[I", true)
  | 3 => ("ClashDays$Orders", "row", "[I", true)
  | 4 => ("ClashDays$Orders", "chosen", "[I", true)
  | 5 => ("ClashDays$Orders", "begin", "[I", true)
  | 6 => ("ClashDays$Orders", "count", "I", false)
  | 7 => ("ClashDays$Orders", "rest", "I", false)
  | 8 => ("ClashDays$Orders", "free", "I", false)
  | 9 => ("ClashDays$Orders", "spare", "I", false)
  | 10 => ("ClashDays$Orders", "came", "J", false)
  | 11 => ("ClashDays$Orders", "kept", "J", false)
  | 12 => ("ClashDays$Orders", "lawfulOnes", "I", false)
  | _ => ("ClashDays$Orders", "least", "I", false)
def tyX3 : Nat → FieldType := fun k => match k with
  | 0 => .array .int
  | 1 => .array .int
  | 2 => .array .int
  | 3 => .array .int
  | 4 => .array .int
  | 5 => .array .int
  | 6 => .int
  | 7 => .int
  | 8 => .int
  | 9 => .int
  | 10 => .long
  | 11 => .long
  | 12 => .int
  | _ => .int
abbrev wsX30 : List Cond := u_ws RX3 TX3 14
theorem nmX3 : ∀ a, a < 14 → ∀ b, b < 14 → a ≠ b → (TX3 a).2.1 ≠ (TX3 b).2.1 := by decide +kernel
theorem tyX3_ok : ∀ k, k < 14 → parseFieldDescriptor (TX3 k).2.2.1 = some (tyX3 k) := by decide +kernel
abbrev cX3_init : ByteArray := prog_5_method_1_code
def yX3_init : MethodName := ⟨RX3, "<init>", "()V"⟩
abbrev cX3_count : ByteArray := prog_5_method_2_code
def yX3_count : MethodName := ⟨RX3, "count", "()I"⟩
abbrev cX3_lawfulOnes : ByteArray := prog_5_method_3_code
def yX3_lawfulOnes : MethodName := ⟨RX3, "lawfulOnes", "()I"⟩
abbrev cX3_least : ByteArray := prog_5_method_4_code
def yX3_least : MethodName := ⟨RX3, "least", "()I"⟩
abbrev cX3_keptSlots : ByteArray := prog_5_method_5_code
def yX3_keptSlots : MethodName := ⟨RX3, "keptSlots", "()J"⟩
abbrev cX3_paperAt : ByteArray := prog_5_method_6_code
def yX3_paperAt : MethodName := ⟨RX3, "paperAt", "(I)I"⟩
abbrev cX3_beginAt : ByteArray := prog_5_method_7_code
def yX3_beginAt : MethodName := ⟨RX3, "beginAt", "(I)I"⟩
abbrev cX3_endAt : ByteArray := prog_5_method_8_code
def yX3_endAt : MethodName := ⟨RX3, "endAt", "(I)I"⟩
abbrev cX3_gather : ByteArray := prog_5_method_9_code
def yX3_gather : MethodName := ⟨RX3, "gather", "(LClashDays$Book;IIII)V"⟩
abbrev cX3_search : ByteArray := prog_5_method_10_code
def yX3_search : MethodName := ⟨RX3, "search", "(IJ)Z"⟩
abbrev cX3_walk : ByteArray := prog_5_method_11_code
def yX3_walk : MethodName := ⟨RX3, "walk", "([IJ)Z"⟩
abbrev cX3_measured : ByteArray := prog_5_method_12_code
def yX3_measured : MethodName := ⟨RX3, "measured", "(I)I"⟩
abbrev cX3_join : ByteArray := prog_5_method_13_code
def yX3_join : MethodName := ⟨RX3, "join", "(IIII)I"⟩
abbrev cX3_nextRow : ByteArray := prog_5_method_14_code
def yX3_nextRow : MethodName := ⟨RX3, "nextRow", "()Z"⟩
abbrev cX3_swap : ByteArray := prog_5_method_15_code
def yX3_swap : MethodName := ⟨RX3, "swap", "(II)V"⟩
def RX4 : String := "ClashDays$Planner"
def TX4 : u_T := fun k => match k with
  | _ => ("ClashDays$Planner", "orders", "LClashDays$Orders;", true)
def tyX4 : Nat → FieldType := fun k => match k with
  | _ => .object "ClashDays$Orders"
abbrev wsX40 : List Cond := u_ws RX4 TX4 1
theorem nmX4 : ∀ a, a < 1 → ∀ b, b < 1 → a ≠ b → (TX4 a).2.1 ≠ (TX4 b).2.1 := by decide +kernel
theorem tyX4_ok : ∀ k, k < 1 → parseFieldDescriptor (TX4 k).2.2.1 = some (tyX4 k) := by decide +kernel
abbrev cX4_init : ByteArray := prog_6_method_1_code
def yX4_init : MethodName := ⟨RX4, "<init>", "()V"⟩
abbrev cX4_planWeek : ByteArray := prog_6_method_2_code
def yX4_planWeek : MethodName := ⟨RX4, "planWeek", "(LClashDays$Book;ILClashDays$Week;)V"⟩
abbrev cX4_replan : ByteArray := prog_6_method_3_code
def yX4_replan : MethodName := ⟨RX4, "replan", "(LClashDays$Book;IILClashDays$Week;)V"⟩
abbrev cX4_planDay : ByteArray := prog_6_method_4_code
def yX4_planDay : MethodName := ⟨RX4, "planDay", "(LClashDays$Book;IILClashDays$Week;)V"⟩
abbrev cX4_ordersOf : ByteArray := prog_6_method_5_code
def yX4_ordersOf : MethodName := ⟨RX4, "ordersOf", "(LClashDays$Book;IILClashDays$Week;)LClashDays$Orders;"⟩
abbrev cX4_clash : ByteArray := prog_6_method_6_code
def yX4_clash : MethodName := ⟨RX4, "clash", "(LClashDays$Book;IILClashDays$Week;)I"⟩
def RX5 : String := "ClashDays$Seats"
def TX5 : u_T := fun k => match k with
  | 0 => ("ClashDays$Seats", "used", "[I", true)
  | 1 => ("ClashDays$Seats", "full", "[J", true)
  | 2 => ("ClashDays$Seats", "piece", "[J", true)
  | 3 => ("ClashDays$Seats", "pieces", "[I", true)
  | 4 => ("ClashDays$Seats", "moves", "[I", true)
  | 5 => ("ClashDays$Seats", "room", "[I", true)
  | 6 => ("ClashDays$Seats", "cost", "[I", true)
  | 7 => ("ClashDays$Seats", "laidDay", "I", false)
  | _ => ("ClashDays$Seats", "edition", "I", false)
def tyX5 : Nat → FieldType := fun k => match k with
  | 0 => .array .int
  | 1 => .array .long
  | 2 => .array .long
  | 3 => .array .int
  | 4 => .array .int
  | 5 => .array .int
  | 6 => .array .int
  | 7 => .int
  | _ => .int
abbrev wsX50 : List Cond := u_ws RX5 TX5 9
theorem nmX5 : ∀ a, a < 9 → ∀ b, b < 9 → a ≠ b → (TX5 a).2.1 ≠ (TX5 b).2.1 := by decide +kernel
theorem tyX5_ok : ∀ k, k < 9 → parseFieldDescriptor (TX5 k).2.2.1 = some (tyX5 k) := by decide +kernel
abbrev cX5_init : ByteArray := prog_7_method_1_code
def yX5_init : MethodName := ⟨RX5, "<init>", "()V"⟩
abbrev cX5_piecesOf : ByteArray := prog_7_method_2_code
def yX5_piecesOf : MethodName := ⟨RX5, "piecesOf", "(I)I"⟩
abbrev cX5_movesOf : ByteArray := prog_7_method_3_code
def yX5_movesOf : MethodName := ⟨RX5, "movesOf", "(I)I"⟩
abbrev cX5_roomAt : ByteArray := prog_7_method_4_code
def yX5_roomAt : MethodName := ⟨RX5, "roomAt", "(II)I"⟩
abbrev cX5_usedAt : ByteArray := prog_7_method_5_code
def yX5_usedAt : MethodName := ⟨RX5, "usedAt", "(II)I"⟩
abbrev cX5_lay : ByteArray := prog_7_method_6_code
def yX5_lay : MethodName := ⟨RX5, "lay", "(LClashDays$Book;LClashDays$Weeks;I)V"⟩
abbrev cX5_seat : ByteArray := prog_7_method_7_code
def yX5_seat : MethodName := ⟨RX5, "seat", "(LClashDays$Book;I)V"⟩
abbrev cX5_countMoves : ByteArray := prog_7_method_8_code
def yX5_countMoves : MethodName := ⟨RX5, "countMoves", "(II)V"⟩
abbrev cX5_costFrom : ByteArray := prog_7_method_9_code
def yX5_costFrom : MethodName := ⟨RX5, "costFrom", "(IIII)I"⟩
abbrev cX5_firstRoom : ByteArray := prog_7_method_10_code
def yX5_firstRoom : MethodName := ⟨RX5, "firstRoom", "(III)I"⟩
abbrev cX5_costWith : ByteArray := prog_7_method_11_code
def yX5_costWith : MethodName := ⟨RX5, "costWith", "(III)I"⟩
abbrev cX5_fill : ByteArray := prog_7_method_12_code
def yX5_fill : MethodName := ⟨RX5, "fill", "(LClashDays$Book;IJ)V"⟩
def RX6 : String := "ClashDays$Shelves"
def TX6 : u_T := fun k => match k with
  | 0 => ("ClashDays$Shelves", "held", "[I", true)
  | 1 => ("ClashDays$Shelves", "size", "[I", true)
  | _ => ("ClashDays$Shelves", "elements", "[J", true)
def tyX6 : Nat → FieldType := fun k => match k with
  | 0 => .array .int
  | 1 => .array .int
  | _ => .array .long
abbrev wsX60 : List Cond := u_ws RX6 TX6 3
theorem nmX6 : ∀ a, a < 3 → ∀ b, b < 3 → a ≠ b → (TX6 a).2.1 ≠ (TX6 b).2.1 := by decide +kernel
theorem tyX6_ok : ∀ k, k < 3 → parseFieldDescriptor (TX6 k).2.2.1 = some (tyX6 k) := by decide +kernel
abbrev cX6_init : ByteArray := prog_8_method_1_code
def yX6_init : MethodName := ⟨RX6, "<init>", "()V"⟩
abbrev cX6_isShelf : ByteArray := prog_8_method_2_code
def yX6_isShelf : MethodName := ⟨RX6, "isShelf", "(I)Z"⟩
abbrev cX6_holding : ByteArray := prog_8_method_4_code
def yX6_holding : MethodName := ⟨RX6, "holding", "(I)I"⟩
abbrev cX6_candOn : ByteArray := prog_8_method_6_code
def yX6_candOn : MethodName := ⟨RX6, "candOn", "(I)I"⟩
abbrev cX6_dropCandsFrom : ByteArray := prog_8_method_15_code
def yX6_dropCandsFrom : MethodName := ⟨RX6, "dropCandsFrom", "(I)V"⟩
abbrev cX6_filled : ByteArray := prog_8_method_16_code
def yX6_filled : MethodName := ⟨RX6, "filled", "()I"⟩
def RX7 : String := "ClashDays$Tape"
def TX7 : u_T := fun k => match k with
  | 0 => ("ClashDays$Tape", "bytes", "[I", true)
  | 1 => ("ClashDays$Tape", "size", "I", false)
  | 2 => ("ClashDays$Tape", "at", "I", false)
  | 3 => ("ClashDays$Tape", "tokenAt", "I", false)
  | _ => ("ClashDays$Tape", "fault", "I", false)
def tyX7 : Nat → FieldType := fun k => match k with
  | 0 => .array .int
  | 1 => .int
  | 2 => .int
  | 3 => .int
  | _ => .int
abbrev wsX70 : List Cond := u_ws RX7 TX7 5
theorem nmX7 : ∀ a, a < 5 → ∀ b, b < 5 → a ≠ b → (TX7 a).2.1 ≠ (TX7 b).2.1 := by decide +kernel
theorem tyX7_ok : ∀ k, k < 5 → parseFieldDescriptor (TX7 k).2.2.1 = some (tyX7 k) := by decide +kernel
abbrev cX7_init : ByteArray := prog_9_method_1_code
def yX7_init : MethodName := ⟨RX7, "<init>", "()V"⟩
abbrev cX7_size : ByteArray := prog_9_method_3_code
def yX7_size : MethodName := ⟨RX7, "size", "()I"⟩
def RX8 : String := "ClashDays$Week"
def TX8 : u_T := fun k => match k with
  | 0 => ("ClashDays$Week", "can", "[Z", true)
  | 1 => ("ClashDays$Week", "over", "[I", true)
  | 2 => ("ClashDays$Week", "free", "[I", true)
  | 3 => ("ClashDays$Week", "ahead", "[I", true)
  | 4 => ("ClashDays$Week", "count", "[I", true)
  | 5 => ("ClashDays$Week", "kept", "[J", true)
  | 6 => ("ClashDays$Week", "order", "[I", true)
  | 7 => ("ClashDays$Week", "begin", "[I", true)
  | _ => ("ClashDays$Week", "end", "[I", true)
def tyX8 : Nat → FieldType := fun k => match k with
  | 0 => .array .boolean
  | 1 => .array .int
  | 2 => .array .int
  | 3 => .array .int
  | 4 => .array .int
  | 5 => .array .long
  | 6 => .array .int
  | 7 => .array .int
  | _ => .array .int
abbrev wsX80 : List Cond := u_ws RX8 TX8 9
theorem nmX8 : ∀ a, a < 9 → ∀ b, b < 9 → a ≠ b → (TX8 a).2.1 ≠ (TX8 b).2.1 := by decide +kernel
theorem tyX8_ok : ∀ k, k < 9 → parseFieldDescriptor (TX8 k).2.2.1 = some (tyX8 k) := by decide +kernel
abbrev cX8_init : ByteArray := prog_10_method_1_code
def yX8_init : MethodName := ⟨RX8, "<init>", "()V"⟩
abbrev cX8_become : ByteArray := prog_10_method_2_code
def yX8_become : MethodName := ⟨RX8, "become", "(LClashDays$Week;)V"⟩
abbrev cX8_open : ByteArray := prog_10_method_3_code
def yX8_open : MethodName := ⟨RX8, "open", "(III)V"⟩
abbrev cX8_put : ByteArray := prog_10_method_4_code
def yX8_put : MethodName := ⟨RX8, "put", "(ILClashDays$Orders;I)V"⟩
abbrev cX8_cameTo : ByteArray := prog_10_method_5_code
def yX8_cameTo : MethodName := ⟨RX8, "cameTo", "(I)I"⟩
abbrev cX8_cants : ByteArray := prog_10_method_6_code
def yX8_cants : MethodName := ⟨RX8, "cants", "()I"⟩
abbrev cX8_keptSlots : ByteArray := prog_10_method_7_code
def yX8_keptSlots : MethodName := ⟨RX8, "keptSlots", "()I"⟩
abbrev cX8_deed : ByteArray := prog_10_method_8_code
def yX8_deed : MethodName := ⟨RX8, "deed", "(II)I"⟩
abbrev cX8_measured : ByteArray := prog_10_method_9_code
def yX8_measured : MethodName := ⟨RX8, "measured", "(LClashDays$Book;II)I"⟩
abbrev cX8_beginsLate : ByteArray := prog_10_method_10_code
def yX8_beginsLate : MethodName := ⟨RX8, "beginsLate", "(LClashDays$Book;I)Z"⟩
abbrev cX8_piecesOf : ByteArray := prog_10_method_11_code
def yX8_piecesOf : MethodName := ⟨RX8, "piecesOf", "(I[J)I"⟩
abbrev cX8_pieceFrom : ByteArray := prog_10_method_12_code
def yX8_pieceFrom : MethodName := ⟨RX8, "pieceFrom", "(II)J"⟩
abbrev cX8_dutyFrom : ByteArray := prog_10_method_13_code
def yX8_dutyFrom : MethodName := ⟨RX8, "dutyFrom", "(II)I"⟩
def RX9 : String := "ClashDays$Weeks"
def TX9 : u_T := fun k => match k with
  | 0 => ("ClashDays$Weeks", "planner", "LClashDays$Planner;", true)
  | 1 => ("ClashDays$Weeks", "weeks", "[LClashDays$Week;", true)
  | 2 => ("ClashDays$Weeks", "known", "[Z", true)
  | _ => ("ClashDays$Weeks", "edition", "I", false)
def tyX9 : Nat → FieldType := fun k => match k with
  | 0 => .object "ClashDays$Planner"
  | 1 => .array (.object "ClashDays$Week")
  | 2 => .array .boolean
  | _ => .int
abbrev wsX90 : List Cond := u_ws RX9 TX9 4
theorem nmX9 : ∀ a, a < 4 → ∀ b, b < 4 → a ≠ b → (TX9 a).2.1 ≠ (TX9 b).2.1 := by decide +kernel
theorem tyX9_ok : ∀ k, k < 4 → parseFieldDescriptor (TX9 k).2.2.1 = some (tyX9 k) := by decide +kernel
abbrev cX9_init : ByteArray := prog_11_method_1_code
def yX9_init : MethodName := ⟨RX9, "<init>", "()V"⟩
abbrev cX9_of : ByteArray := prog_11_method_2_code
def yX9_of : MethodName := ⟨RX9, "of", "(LClashDays$Book;I)LClashDays$Week;"⟩
abbrev cX9_edition : ByteArray := prog_11_method_3_code
def yX9_edition : MethodName := ⟨RX9, "edition", "()I"⟩
abbrev cX9_forgetOthers : ByteArray := prog_11_method_4_code
def yX9_forgetOthers : MethodName := ⟨RX9, "forgetOthers", "()V"⟩
abbrev cX9_forget : ByteArray := prog_11_method_5_code
def yX9_forget : MethodName := ⟨RX9, "forget", "(I)V"⟩
abbrev cX9_forgetAll : ByteArray := prog_11_method_6_code
def yX9_forgetAll : MethodName := ⟨RX9, "forgetAll", "()V"⟩
def RX10 : String := "ClashDays"
def TX10 : u_T := fun k => match k with
  | 0 => ("ClashDays", "now", "LClashDays$Book;", true)
  | 1 => ("ClashDays", "draft", "LClashDays$Book;", true)
  | 2 => ("ClashDays", "image", "LClashDays$Book;", true)
  | 3 => ("ClashDays", "hasImage", "Z", false)
  | 4 => ("ClashDays", "tape", "LClashDays$Tape;", true)
  | 5 => ("ClashDays", "shelves", "LClashDays$Shelves;", true)
  | 6 => ("ClashDays", "refusals", "[I", true)
  | 7 => ("ClashDays", "planner", "LClashDays$Planner;", true)
  | 8 => ("ClashDays", "weeks", "LClashDays$Weeks;", true)
  | 9 => ("ClashDays", "trial", "LClashDays$Week;", true)
  | 10 => ("ClashDays", "duties", "LClashDays$Duties;", true)
  | 11 => ("ClashDays", "seats", "LClashDays$Seats;", true)
  | 12 => ("ClashDays", "cantsByStart", "[I", true)
  | _ => ("ClashDays", "keptByStart", "[I", true)
def tyX10 : Nat → FieldType := fun k => match k with
  | 0 => .object "ClashDays$Book"
  | 1 => .object "ClashDays$Book"
  | 2 => .object "ClashDays$Book"
  | 3 => .boolean
  | 4 => .object "ClashDays$Tape"
  | 5 => .object "ClashDays$Shelves"
  | 6 => .array .int
  | 7 => .object "ClashDays$Planner"
  | 8 => .object "ClashDays$Weeks"
  | 9 => .object "ClashDays$Week"
  | 10 => .object "ClashDays$Duties"
  | 11 => .object "ClashDays$Seats"
  | 12 => .array .int
  | _ => .array .int
abbrev wsX100 : List Cond := u_ws RX10 TX10 14
theorem nmX10 : ∀ a, a < 14 → ∀ b, b < 14 → a ≠ b → (TX10 a).2.1 ≠ (TX10 b).2.1 := by decide +kernel
theorem tyX10_ok : ∀ k, k < 14 → parseFieldDescriptor (TX10 k).2.2.1 = some (tyX10 k) := by decide +kernel
abbrev cX10_init : ByteArray := prog_1_method_1_code
def yX10_init : MethodName := ⟨RX10, "<init>", "()V"⟩
abbrev cX10_paper : ByteArray := prog_1_method_9_code
def yX10_paper : MethodName := ⟨RX10, "paper", "(III)I"⟩
abbrev cX10_cand : ByteArray := prog_1_method_11_code
def yX10_cand : MethodName := ⟨RX10, "cand", "(II)I"⟩
abbrev cX10_takes : ByteArray := prog_1_method_12_code
def yX10_takes : MethodName := ⟨RX10, "takes", "(III)I"⟩
abbrev cX10_night : ByteArray := prog_1_method_13_code
def yX10_night : MethodName := ⟨RX10, "night", "(II)I"⟩
abbrev cX10_room : ByteArray := prog_1_method_14_code
def yX10_room : MethodName := ⟨RX10, "room", "(I)I"⟩
abbrev cX10_hours : ByteArray := prog_1_method_15_code
def yX10_hours : MethodName := ⟨RX10, "hours", "(I)I"⟩
abbrev cX10_turn : ByteArray := prog_1_method_16_code
def yX10_turn : MethodName := ⟨RX10, "turn", "(I)I"⟩
abbrev cX10_candOf : ByteArray := prog_1_method_20_code
def yX10_candOf : MethodName := ⟨RX10, "candOf", "(II)I"⟩
abbrev cX10_paperOf : ByteArray := prog_1_method_21_code
def yX10_paperOf : MethodName := ⟨RX10, "paperOf", "(II)I"⟩
abbrev cX10_time : ByteArray := prog_1_method_22_code
def yX10_time : MethodName := ⟨RX10, "time", "(II)I"⟩
abbrev cX10_plan : ByteArray := prog_1_method_23_code
def yX10_plan : MethodName := ⟨RX10, "plan", "(III)I"⟩
abbrev cX10_sits : ByteArray := prog_1_method_24_code
def yX10_sits : MethodName := ⟨RX10, "sits", "(IIII)I"⟩
abbrev cX10_does : ByteArray := prog_1_method_25_code
def yX10_does : MethodName := ⟨RX10, "does", "(III)I"⟩
abbrev cX10_measure : ByteArray := prog_1_method_26_code
def yX10_measure : MethodName := ⟨RX10, "measure", "(III)I"⟩
abbrev cX10_best : ByteArray := prog_1_method_27_code
def yX10_best : MethodName := ⟨RX10, "best", "(IIII)I"⟩
abbrev cX10_lawful : ByteArray := prog_1_method_28_code
def yX10_lawful : MethodName := ⟨RX10, "lawful", "(II)I"⟩
abbrev cX10_watch : ByteArray := prog_1_method_29_code
def yX10_watch : MethodName := ⟨RX10, "watch", "(I)I"⟩
abbrev cX10_duty : ByteArray := prog_1_method_30_code
def yX10_duty : MethodName := ⟨RX10, "duty", "(II)I"⟩
abbrev cX10_pieces : ByteArray := prog_1_method_31_code
def yX10_pieces : MethodName := ⟨RX10, "pieces", "(III)I"⟩
abbrev cX10_roomOf : ByteArray := prog_1_method_32_code
def yX10_roomOf : MethodName := ⟨RX10, "roomOf", "(III)I"⟩
abbrev cX10_left : ByteArray := prog_1_method_33_code
def yX10_left : MethodName := ⟨RX10, "left", "(III)I"⟩
abbrev cX10_whatIf : ByteArray := prog_1_method_34_code
def yX10_whatIf : MethodName := ⟨RX10, "whatIf", "(II)I"⟩
abbrev cX10_both : ByteArray := prog_1_method_35_code
def yX10_both : MethodName := ⟨RX10, "both", "(III)I"⟩
abbrev cX10_relief : ByteArray := prog_1_method_36_code
def yX10_relief : MethodName := ⟨RX10, "relief", "(I)I"⟩
abbrev cX10_hoursFor : ByteArray := prog_1_method_38_code
def yX10_hoursFor : MethodName := ⟨RX10, "hoursFor", "(I)I"⟩
abbrev cX10_image : ByteArray := prog_1_method_44_code
def yX10_image : MethodName := ⟨RX10, "image", "()I"⟩
abbrev cX10_back : ByteArray := prog_1_method_45_code
def yX10_back : MethodName := ⟨RX10, "back", "()I"⟩
abbrev cX10_status : ByteArray := prog_1_method_46_code
def yX10_status : MethodName := ⟨RX10, "status", "(I)I"⟩
abbrev cX10_refuse : ByteArray := prog_1_method_47_code
def yX10_refuse : MethodName := ⟨RX10, "refuse", "(I)I"⟩
abbrev cX10_isDay : ByteArray := prog_1_method_48_code
def yX10_isDay : MethodName := ⟨RX10, "isDay", "(I)Z"⟩
abbrev cX10_isSlot : ByteArray := prog_1_method_49_code
def yX10_isSlot : MethodName := ⟨RX10, "isSlot", "(I)Z"⟩
abbrev cX10_isYesOrNo : ByteArray := prog_1_method_50_code
def yX10_isYesOrNo : MethodName := ⟨RX10, "isYesOrNo", "(I)Z"⟩
abbrev cX10_isMeasure : ByteArray := prog_1_method_51_code
def yX10_isMeasure : MethodName := ⟨RX10, "isMeasure", "(I)Z"⟩
abbrev cX10_span : ByteArray := prog_1_method_53_code
def yX10_span : MethodName := ⟨RX10, "span", "(II)J"⟩
abbrev cX10_hasBit : ByteArray := prog_1_method_54_code
def yX10_hasBit : MethodName := ⟨RX10, "hasBit", "(II)Z"⟩
abbrev cX10_hasSlot : ByteArray := prog_1_method_55_code
def yX10_hasSlot : MethodName := ⟨RX10, "hasSlot", "(JI)Z"⟩
abbrev cX10_takersOf : ByteArray := prog_1_method_56_code
def yX10_takersOf : MethodName := ⟨RX10, "takersOf", "(I)I"⟩
abbrev cX10_lateOnesOf : ByteArray := prog_1_method_57_code
def yX10_lateOnesOf : MethodName := ⟨RX10, "lateOnesOf", "(I)I"⟩
abbrev cX10_daysSomebodyCant : ByteArray := prog_1_method_58_code
def yX10_daysSomebodyCant : MethodName := ⟨RX10, "daysSomebodyCant", "()I"⟩
abbrev cX10_cantsFlipped : ByteArray := prog_1_method_59_code
def yX10_cantsFlipped : MethodName := ⟨RX10, "cantsFlipped", "(II)I"⟩
def RX11 : String := "ClashDaysModel"
def TX11 : u_T := fun k => match k with
  | _ => ("", "", "", false)
def tyX11 : Nat → FieldType := fun k => match k with
  | _ => .int
abbrev wsX110 : List Cond := u_ws RX11 TX11 0
theorem nmX11 : ∀ a, a < 0 → ∀ b, b < 0 → a ≠ b → (TX11 a).2.1 ≠ (TX11 b).2.1 := by decide +kernel
theorem tyX11_ok : ∀ k, k < 0 → parseFieldDescriptor (TX11 k).2.2.1 = some (tyX11 k) := by decide +kernel
def RJ6 : String := "java/lang/Integer"
def TJ6 : u_T := fun k => match k with
  | _ => ("", "", "", false)
def tyJ6 : Nat → FieldType := fun k => match k with
  | _ => .int
abbrev wsJ60 : List Cond := u_ws RJ6 TJ6 0
theorem nmJ6 : ∀ a, a < 0 → ∀ b, b < 0 → a ≠ b → (TJ6 a).2.1 ≠ (TJ6 b).2.1 := by decide +kernel
theorem tyJ6_ok : ∀ k, k < 0 → parseFieldDescriptor (TJ6 k).2.2.1 = some (tyJ6 k) := by decide +kernel
abbrev cJ6_bitCount_0f7a4 : ByteArray := prog_14_method_49_code
def yJ6_bitCount_0f7a4 : MethodName := ⟨RJ6, "bitCount", "(I)I"⟩
def RJ13 : String := "java/lang/Long"
def TJ13 : u_T := fun k => match k with
  | _ => ("", "", "", false)
def tyJ13 : Nat → FieldType := fun k => match k with
  | _ => .int
abbrev wsJ130 : List Cond := u_ws RJ13 TJ13 0
theorem nmJ13 : ∀ a, a < 0 → ∀ b, b < 0 → a ≠ b → (TJ13 a).2.1 ≠ (TJ13 b).2.1 := by decide +kernel
theorem tyJ13_ok : ∀ k, k < 0 → parseFieldDescriptor (TJ13 k).2.2.1 = some (tyJ13 k) := by decide +kernel
abbrev cJ13_bitCount_95d88 : ByteArray := prog_15_method_50_code
def yJ13_bitCount_95d88 : MethodName := ⟨RJ13, "bitCount", "(J)I"⟩
def RJ9 : String := "java/lang/Math"
def TJ9 : u_T := fun k => match k with
  | _ => ("", "", "", false)
def tyJ9 : Nat → FieldType := fun k => match k with
  | _ => .int
abbrev wsJ90 : List Cond := u_ws RJ9 TJ9 0
theorem nmJ9 : ∀ a, a < 0 → ∀ b, b < 0 → a ≠ b → (TJ9 a).2.1 ≠ (TJ9 b).2.1 := by decide +kernel
theorem tyJ9_ok : ∀ k, k < 0 → parseFieldDescriptor (TJ9 k).2.2.1 = some (tyJ9 k) := by decide +kernel
abbrev cJ9_max_7cf53 : ByteArray := prog_16_method_65_code
def yJ9_max_7cf53 : MethodName := ⟨RJ9, "max", "(II)I"⟩
abbrev cJ9_min_7cf53 : ByteArray := prog_16_method_69_code
def yJ9_min_7cf53 : MethodName := ⟨RJ9, "min", "(II)I"⟩
def RJ10 : String := "java/lang/System"
def TJ10 : u_T := fun k => match k with
  | _ => ("", "", "", false)
def tyJ10 : Nat → FieldType := fun k => match k with
  | _ => .int
abbrev wsJ100 : List Cond := u_ws RJ10 TJ10 0
theorem nmJ10 : ∀ a, a < 0 → ∀ b, b < 0 → a ≠ b → (TJ10 a).2.1 ≠ (TJ10 b).2.1 := by decide +kernel
theorem tyJ10_ok : ∀ k, k < 0 → parseFieldDescriptor (TJ10 k).2.2.1 = some (tyJ10 k) := by decide +kernel
def RL : String := "ClashDaysLaw"
abbrev cL_cell : ByteArray := method_2_code
def yL_cell : MethodName := ⟨RL, "cell", "([II)I"⟩
abbrev cL_pick : ByteArray := method_3_code
def yL_pick : MethodName := ⟨RL, "pick", "([III)I"⟩
abbrev cL_papers : ByteArray := method_6_code
def yL_papers : MethodName := ⟨RL, "papers", "([III)[[I"⟩
abbrev cL_cands : ByteArray := method_7_code
def yL_cands : MethodName := ⟨RL, "cands", "([III)[[I"⟩
abbrev cL_isFifth : ByteArray := method_8_code
def yL_isFifth : MethodName := ⟨RL, "isFifth", "([[I[II)Z"⟩
abbrev cL_tell : ByteArray := method_9_code
def yL_tell : MethodName := ⟨RL, "tell", "(LClashDays;[II[I[[I[[I)Z"⟩
abbrev cL_looks : ByteArray := method_10_code
def yL_looks : MethodName := ⟨RL, "looks", "(LClashDays;)J"⟩
abbrev cL_isPlanned : ByteArray := method_11_code
def yL_isPlanned : MethodName := ⟨RL, "isPlanned", "(LClashDays;[[I[III)Z"⟩
abbrev cL_isClash : ByteArray := method_12_code
def yL_isClash : MethodName := ⟨RL, "isClash", "(LClashDays;[[I[III)Z"⟩
abbrev cL_law : ByteArray := code
def yL_law : MethodName := ⟨RL, "law", "([I)Z"⟩
theorem dX0_init_0 : decode cX0_init 0 = .ok (.aload_n 0, 1) := by decide +kernel
theorem dX0_init_1 : decode cX0_init 1 = .ok (.invokespecial 3, 3) := by decide +kernel
theorem dX0_init_4 : decode cX0_init 4 = .ok (.aload_n 0, 1) := by decide +kernel
theorem dX0_init_5 : decode cX0_init 5 = .ok (.bipush 12, 2) := by decide +kernel
theorem dX0_init_7 : decode cX0_init 7 = .ok (.newarray .int, 2) := by decide +kernel
theorem dX0_init_9 : decode cX0_init 9 = .ok (.putfield 9, 3) := by decide +kernel
theorem dX0_init_12 : decode cX0_init 12 = .ok (.aload_n 0, 1) := by decide +kernel
theorem dX0_init_13 : decode cX0_init 13 = .ok (.bipush 12, 2) := by decide +kernel
theorem dX0_init_15 : decode cX0_init 15 = .ok (.newarray .int, 2) := by decide +kernel
theorem dX0_init_17 : decode cX0_init 17 = .ok (.putfield 15, 3) := by decide +kernel
theorem dX0_init_20 : decode cX0_init 20 = .ok (.aload_n 0, 1) := by decide +kernel
theorem dX0_init_21 : decode cX0_init 21 = .ok (.bipush 12, 2) := by decide +kernel
theorem dX0_init_23 : decode cX0_init 23 = .ok (.newarray .int, 2) := by decide +kernel
theorem dX0_init_25 : decode cX0_init 25 = .ok (.putfield 18, 3) := by decide +kernel
theorem dX0_init_28 : decode cX0_init 28 = .ok (.aload_n 0, 1) := by decide +kernel
theorem dX0_init_29 : decode cX0_init 29 = .ok (.bipush 10, 2) := by decide +kernel
theorem dX0_init_31 : decode cX0_init 31 = .ok (.newarray .int, 2) := by decide +kernel
theorem dX0_init_33 : decode cX0_init 33 = .ok (.putfield 21, 3) := by decide +kernel
theorem dX0_init_36 : decode cX0_init 36 = .ok (.aload_n 0, 1) := by decide +kernel
theorem dX0_init_37 : decode cX0_init 37 = .ok (.bipush 10, 2) := by decide +kernel
theorem dX0_init_39 : decode cX0_init 39 = .ok (.newarray .int, 2) := by decide +kernel
theorem dX0_init_41 : decode cX0_init 41 = .ok (.putfield 24, 3) := by decide +kernel
theorem dX0_init_44 : decode cX0_init 44 = .ok (.aload_n 0, 1) := by decide +kernel
theorem dX0_init_45 : decode cX0_init 45 = .ok (.bipush 10, 2) := by decide +kernel
theorem dX0_init_47 : decode cX0_init 47 = .ok (.newarray .int, 2) := by decide +kernel
theorem dX0_init_49 : decode cX0_init 49 = .ok (.putfield 27, 3) := by decide +kernel
theorem dX0_init_52 : decode cX0_init 52 = .ok (.aload_n 0, 1) := by decide +kernel
theorem dX0_init_53 : decode cX0_init 53 = .ok (.bipush 10, 2) := by decide +kernel
theorem dX0_init_55 : decode cX0_init 55 = .ok (.newarray .int, 2) := by decide +kernel
theorem dX0_init_57 : decode cX0_init 57 = .ok (.putfield 30, 3) := by decide +kernel
theorem dX0_init_60 : decode cX0_init 60 = .ok (.aload_n 0, 1) := by decide +kernel
theorem dX0_init_61 : decode cX0_init 61 = .ok (.bipush 6, 2) := by decide +kernel
theorem dX0_init_63 : decode cX0_init 63 = .ok (.newarray .int, 2) := by decide +kernel
theorem dX0_init_65 : decode cX0_init 65 = .ok (.putfield 33, 3) := by decide +kernel
theorem dX0_init_68 : decode cX0_init 68 = .ok (.aload_n 0, 1) := by decide +kernel
theorem dX0_init_69 : decode cX0_init 69 = .ok (.bipush 24, 2) := by decide +kernel
theorem dX0_init_71 : decode cX0_init 71 = .ok (.putfield 36, 3) := by decide +kernel
theorem dX0_init_74 : decode cX0_init 74 = .ok (.aload_n 0, 1) := by decide +kernel
theorem dX0_init_75 : decode cX0_init 75 = .ok (.iconst 1, 1) := by decide +kernel
theorem dX0_init_76 : decode cX0_init 76 = .ok (.putfield 40, 3) := by decide +kernel
theorem dX0_init_79 : decode cX0_init 79 = .ok (.aload_n 0, 1) := by decide +kernel
theorem dX0_init_80 : decode cX0_init 80 = .ok (.iconst 1, 1) := by decide +kernel
theorem dX0_init_81 : decode cX0_init 81 = .ok (.putfield 43, 3) := by decide +kernel
theorem dX0_init_84 : decode cX0_init 84 = .ok (.return_, 1) := by decide +kernel
theorem dX0_become_0 : decode cX0_become 0 = .ok (.aload_n 1, 1) := by decide +kernel
theorem dX0_become_1 : decode cX0_become 1 = .ok (.getfield 9, 3) := by decide +kernel
theorem dX0_become_4 : decode cX0_become 4 = .ok (.iconst 0, 1) := by decide +kernel
theorem dX0_become_5 : decode cX0_become 5 = .ok (.aload_n 0, 1) := by decide +kernel
theorem dX0_become_6 : decode cX0_become 6 = .ok (.getfield 9, 3) := by decide +kernel
theorem dX0_become_9 : decode cX0_become 9 = .ok (.iconst 0, 1) := by decide +kernel
theorem dX0_become_10 : decode cX0_become 10 = .ok (.bipush 12, 2) := by decide +kernel
theorem dX0_become_12 : decode cX0_become 12 = .ok (.invokestatic 46, 3) := by decide +kernel
theorem dX0_become_15 : decode cX0_become 15 = .ok (.aload_n 1, 1) := by decide +kernel
theorem dX0_become_16 : decode cX0_become 16 = .ok (.getfield 15, 3) := by decide +kernel
theorem dX0_become_19 : decode cX0_become 19 = .ok (.iconst 0, 1) := by decide +kernel
theorem dX0_become_20 : decode cX0_become 20 = .ok (.aload_n 0, 1) := by decide +kernel
theorem dX0_become_21 : decode cX0_become 21 = .ok (.getfield 15, 3) := by decide +kernel
theorem dX0_become_24 : decode cX0_become 24 = .ok (.iconst 0, 1) := by decide +kernel
theorem dX0_become_25 : decode cX0_become 25 = .ok (.bipush 12, 2) := by decide +kernel
theorem dX0_become_27 : decode cX0_become 27 = .ok (.invokestatic 46, 3) := by decide +kernel
theorem dX0_become_30 : decode cX0_become 30 = .ok (.aload_n 1, 1) := by decide +kernel
theorem dX0_become_31 : decode cX0_become 31 = .ok (.getfield 18, 3) := by decide +kernel
theorem dX0_become_34 : decode cX0_become 34 = .ok (.iconst 0, 1) := by decide +kernel
theorem dX0_become_35 : decode cX0_become 35 = .ok (.aload_n 0, 1) := by decide +kernel
theorem dX0_become_36 : decode cX0_become 36 = .ok (.getfield 18, 3) := by decide +kernel
theorem dX0_become_39 : decode cX0_become 39 = .ok (.iconst 0, 1) := by decide +kernel
theorem dX0_become_40 : decode cX0_become 40 = .ok (.bipush 12, 2) := by decide +kernel
theorem dX0_become_42 : decode cX0_become 42 = .ok (.invokestatic 46, 3) := by decide +kernel
theorem dX0_become_45 : decode cX0_become 45 = .ok (.aload_n 1, 1) := by decide +kernel
theorem dX0_become_46 : decode cX0_become 46 = .ok (.getfield 21, 3) := by decide +kernel
theorem dX0_become_49 : decode cX0_become 49 = .ok (.iconst 0, 1) := by decide +kernel
theorem dX0_become_50 : decode cX0_become 50 = .ok (.aload_n 0, 1) := by decide +kernel
theorem dX0_become_51 : decode cX0_become 51 = .ok (.getfield 21, 3) := by decide +kernel
theorem dX0_become_54 : decode cX0_become 54 = .ok (.iconst 0, 1) := by decide +kernel
theorem dX0_become_55 : decode cX0_become 55 = .ok (.bipush 10, 2) := by decide +kernel
theorem dX0_become_57 : decode cX0_become 57 = .ok (.invokestatic 46, 3) := by decide +kernel
theorem dX0_become_60 : decode cX0_become 60 = .ok (.aload_n 1, 1) := by decide +kernel
theorem dX0_become_61 : decode cX0_become 61 = .ok (.getfield 24, 3) := by decide +kernel
theorem dX0_become_64 : decode cX0_become 64 = .ok (.iconst 0, 1) := by decide +kernel
theorem dX0_become_65 : decode cX0_become 65 = .ok (.aload_n 0, 1) := by decide +kernel
theorem dX0_become_66 : decode cX0_become 66 = .ok (.getfield 24, 3) := by decide +kernel
theorem dX0_become_69 : decode cX0_become 69 = .ok (.iconst 0, 1) := by decide +kernel
theorem dX0_become_70 : decode cX0_become 70 = .ok (.bipush 10, 2) := by decide +kernel
theorem dX0_become_72 : decode cX0_become 72 = .ok (.invokestatic 46, 3) := by decide +kernel
theorem dX0_become_75 : decode cX0_become 75 = .ok (.aload_n 1, 1) := by decide +kernel
theorem dX0_become_76 : decode cX0_become 76 = .ok (.getfield 27, 3) := by decide +kernel
theorem dX0_become_79 : decode cX0_become 79 = .ok (.iconst 0, 1) := by decide +kernel
theorem dX0_become_80 : decode cX0_become 80 = .ok (.aload_n 0, 1) := by decide +kernel
theorem dX0_become_81 : decode cX0_become 81 = .ok (.getfield 27, 3) := by decide +kernel
theorem dX0_become_84 : decode cX0_become 84 = .ok (.iconst 0, 1) := by decide +kernel
theorem dX0_become_85 : decode cX0_become 85 = .ok (.bipush 10, 2) := by decide +kernel
theorem dX0_become_87 : decode cX0_become 87 = .ok (.invokestatic 46, 3) := by decide +kernel
theorem dX0_become_90 : decode cX0_become 90 = .ok (.aload_n 1, 1) := by decide +kernel
theorem dX0_become_91 : decode cX0_become 91 = .ok (.getfield 30, 3) := by decide +kernel
theorem dX0_become_94 : decode cX0_become 94 = .ok (.iconst 0, 1) := by decide +kernel
theorem dX0_become_95 : decode cX0_become 95 = .ok (.aload_n 0, 1) := by decide +kernel
theorem dX0_become_96 : decode cX0_become 96 = .ok (.getfield 30, 3) := by decide +kernel
theorem dX0_become_99 : decode cX0_become 99 = .ok (.iconst 0, 1) := by decide +kernel
theorem dX0_become_100 : decode cX0_become 100 = .ok (.bipush 10, 2) := by decide +kernel
theorem dX0_become_102 : decode cX0_become 102 = .ok (.invokestatic 46, 3) := by decide +kernel
theorem dX0_become_105 : decode cX0_become 105 = .ok (.aload_n 1, 1) := by decide +kernel
theorem dX0_become_106 : decode cX0_become 106 = .ok (.getfield 33, 3) := by decide +kernel
theorem dX0_become_109 : decode cX0_become 109 = .ok (.iconst 0, 1) := by decide +kernel
theorem dX0_become_110 : decode cX0_become 110 = .ok (.aload_n 0, 1) := by decide +kernel
theorem dX0_become_111 : decode cX0_become 111 = .ok (.getfield 33, 3) := by decide +kernel
theorem dX0_become_114 : decode cX0_become 114 = .ok (.iconst 0, 1) := by decide +kernel
theorem dX0_become_115 : decode cX0_become 115 = .ok (.bipush 6, 2) := by decide +kernel
theorem dX0_become_117 : decode cX0_become 117 = .ok (.invokestatic 46, 3) := by decide +kernel
theorem dX0_become_120 : decode cX0_become 120 = .ok (.aload_n 0, 1) := by decide +kernel
theorem dX0_become_121 : decode cX0_become 121 = .ok (.aload_n 1, 1) := by decide +kernel
theorem dX0_become_122 : decode cX0_become 122 = .ok (.getfield 52, 3) := by decide +kernel
theorem dX0_become_125 : decode cX0_become 125 = .ok (.putfield 52, 3) := by decide +kernel
theorem dX0_become_128 : decode cX0_become 128 = .ok (.aload_n 0, 1) := by decide +kernel
theorem dX0_become_129 : decode cX0_become 129 = .ok (.aload_n 1, 1) := by decide +kernel
theorem dX0_become_130 : decode cX0_become 130 = .ok (.getfield 55, 3) := by decide +kernel
theorem dX0_become_133 : decode cX0_become 133 = .ok (.putfield 55, 3) := by decide +kernel
theorem dX0_become_136 : decode cX0_become 136 = .ok (.aload_n 0, 1) := by decide +kernel
theorem dX0_become_137 : decode cX0_become 137 = .ok (.aload_n 1, 1) := by decide +kernel
theorem dX0_become_138 : decode cX0_become 138 = .ok (.getfield 58, 3) := by decide +kernel
theorem dX0_become_141 : decode cX0_become 141 = .ok (.putfield 58, 3) := by decide +kernel
theorem dX0_become_144 : decode cX0_become 144 = .ok (.aload_n 0, 1) := by decide +kernel
theorem dX0_become_145 : decode cX0_become 145 = .ok (.aload_n 1, 1) := by decide +kernel
theorem dX0_become_146 : decode cX0_become 146 = .ok (.getfield 36, 3) := by decide +kernel
theorem dX0_become_149 : decode cX0_become 149 = .ok (.putfield 36, 3) := by decide +kernel
theorem dX0_become_152 : decode cX0_become 152 = .ok (.aload_n 0, 1) := by decide +kernel
theorem dX0_become_153 : decode cX0_become 153 = .ok (.aload_n 1, 1) := by decide +kernel
theorem dX0_become_154 : decode cX0_become 154 = .ok (.getfield 40, 3) := by decide +kernel
theorem dX0_become_157 : decode cX0_become 157 = .ok (.putfield 40, 3) := by decide +kernel
theorem dX0_become_160 : decode cX0_become 160 = .ok (.aload_n 0, 1) := by decide +kernel
theorem dX0_become_161 : decode cX0_become 161 = .ok (.aload_n 1, 1) := by decide +kernel
theorem dX0_become_162 : decode cX0_become 162 = .ok (.getfield 43, 3) := by decide +kernel
theorem dX0_become_165 : decode cX0_become 165 = .ok (.putfield 43, 3) := by decide +kernel
theorem dX0_become_168 : decode cX0_become 168 = .ok (.return_, 1) := by decide +kernel
theorem dX0_hasPaper_0 : decode cX0_hasPaper 0 = .ok (.lload_n 1, 1) := by decide +kernel
theorem dX0_hasPaper_1 : decode cX0_hasPaper 1 = .ok (.lconst 0, 1) := by decide +kernel
theorem dX0_hasPaper_2 : decode cX0_hasPaper 2 = .ok (.lcmp, 1) := by decide +kernel
theorem dX0_hasPaper_3 : decode cX0_hasPaper 3 = .ok (.ifCond .lt 17, 3) := by decide +kernel
theorem dX0_hasPaper_6 : decode cX0_hasPaper 6 = .ok (.lload_n 1, 1) := by decide +kernel
theorem dX0_hasPaper_7 : decode cX0_hasPaper 7 = .ok (.aload_n 0, 1) := by decide +kernel
theorem dX0_hasPaper_8 : decode cX0_hasPaper 8 = .ok (.getfield 52, 3) := by decide +kernel
theorem dX0_hasPaper_11 : decode cX0_hasPaper 11 = .ok (.i2l, 1) := by decide +kernel
theorem dX0_hasPaper_12 : decode cX0_hasPaper 12 = .ok (.lcmp, 1) := by decide +kernel
theorem dX0_hasPaper_13 : decode cX0_hasPaper 13 = .ok (.ifCond .ge 7, 3) := by decide +kernel
theorem dX0_hasPaper_16 : decode cX0_hasPaper 16 = .ok (.iconst 1, 1) := by decide +kernel
theorem dX0_hasPaper_17 : decode cX0_hasPaper 17 = .ok (.goto 4, 3) := by decide +kernel
theorem dX0_hasPaper_20 : decode cX0_hasPaper 20 = .ok (.iconst 0, 1) := by decide +kernel
theorem dX0_hasPaper_21 : decode cX0_hasPaper 21 = .ok (.ireturn, 1) := by decide +kernel
theorem dX0_hasCand_0 : decode cX0_hasCand 0 = .ok (.iload_n 1, 1) := by decide +kernel
theorem dX0_hasCand_1 : decode cX0_hasCand 1 = .ok (.ifCond .lt 15, 3) := by decide +kernel
theorem dX0_hasCand_4 : decode cX0_hasCand 4 = .ok (.iload_n 1, 1) := by decide +kernel
theorem dX0_hasCand_5 : decode cX0_hasCand 5 = .ok (.aload_n 0, 1) := by decide +kernel
theorem dX0_hasCand_6 : decode cX0_hasCand 6 = .ok (.getfield 55, 3) := by decide +kernel
theorem dX0_hasCand_9 : decode cX0_hasCand 9 = .ok (.if_icmp .ge 7, 3) := by decide +kernel
theorem dX0_hasCand_12 : decode cX0_hasCand 12 = .ok (.iconst 1, 1) := by decide +kernel
theorem dX0_hasCand_13 : decode cX0_hasCand 13 = .ok (.goto 4, 3) := by decide +kernel
theorem dX0_hasCand_16 : decode cX0_hasCand 16 = .ok (.iconst 0, 1) := by decide +kernel
theorem dX0_hasCand_17 : decode cX0_hasCand 17 = .ok (.ireturn, 1) := by decide +kernel
theorem dX0_hasRoom_0 : decode cX0_hasRoom 0 = .ok (.iload_n 1, 1) := by decide +kernel
theorem dX0_hasRoom_1 : decode cX0_hasRoom 1 = .ok (.ifCond .lt 15, 3) := by decide +kernel
theorem dX0_hasRoom_4 : decode cX0_hasRoom 4 = .ok (.iload_n 1, 1) := by decide +kernel
theorem dX0_hasRoom_5 : decode cX0_hasRoom 5 = .ok (.aload_n 0, 1) := by decide +kernel
theorem dX0_hasRoom_6 : decode cX0_hasRoom 6 = .ok (.getfield 58, 3) := by decide +kernel
theorem dX0_hasRoom_9 : decode cX0_hasRoom 9 = .ok (.if_icmp .ge 7, 3) := by decide +kernel
theorem dX0_hasRoom_12 : decode cX0_hasRoom 12 = .ok (.iconst 1, 1) := by decide +kernel
theorem dX0_hasRoom_13 : decode cX0_hasRoom 13 = .ok (.goto 4, 3) := by decide +kernel
theorem dX0_hasRoom_16 : decode cX0_hasRoom 16 = .ok (.iconst 0, 1) := by decide +kernel
theorem dX0_hasRoom_17 : decode cX0_hasRoom 17 = .ok (.ireturn, 1) := by decide +kernel
theorem dX0_addPaper_0 : decode cX0_addPaper 0 = .ok (.aload_n 0, 1) := by decide +kernel
theorem dX0_addPaper_1 : decode cX0_addPaper 1 = .ok (.getfield 52, 3) := by decide +kernel
theorem dX0_addPaper_4 : decode cX0_addPaper 4 = .ok (.bipush 12, 2) := by decide +kernel
theorem dX0_addPaper_6 : decode cX0_addPaper 6 = .ok (.if_icmp .lt 5, 3) := by decide +kernel
theorem dX0_addPaper_9 : decode cX0_addPaper 9 = .ok (.iconst (-1), 1) := by decide +kernel
theorem dX0_addPaper_10 : decode cX0_addPaper 10 = .ok (.ireturn, 1) := by decide +kernel
theorem dX0_addPaper_11 : decode cX0_addPaper 11 = .ok (.aload_n 0, 1) := by decide +kernel
theorem dX0_addPaper_12 : decode cX0_addPaper 12 = .ok (.getfield 9, 3) := by decide +kernel
theorem dX0_addPaper_15 : decode cX0_addPaper 15 = .ok (.aload_n 0, 1) := by decide +kernel
theorem dX0_addPaper_16 : decode cX0_addPaper 16 = .ok (.getfield 52, 3) := by decide +kernel
theorem dX0_addPaper_19 : decode cX0_addPaper 19 = .ok (.iload_n 1, 1) := by decide +kernel
theorem dX0_addPaper_20 : decode cX0_addPaper 20 = .ok (.iastore, 1) := by decide +kernel
theorem dX0_addPaper_21 : decode cX0_addPaper 21 = .ok (.aload_n 0, 1) := by decide +kernel
theorem dX0_addPaper_22 : decode cX0_addPaper 22 = .ok (.getfield 15, 3) := by decide +kernel
theorem dX0_addPaper_25 : decode cX0_addPaper 25 = .ok (.aload_n 0, 1) := by decide +kernel
theorem dX0_addPaper_26 : decode cX0_addPaper 26 = .ok (.getfield 52, 3) := by decide +kernel
theorem dX0_addPaper_29 : decode cX0_addPaper 29 = .ok (.iload_n 2, 1) := by decide +kernel
theorem dX0_addPaper_30 : decode cX0_addPaper 30 = .ok (.iastore, 1) := by decide +kernel
theorem dX0_addPaper_31 : decode cX0_addPaper 31 = .ok (.aload_n 0, 1) := by decide +kernel
theorem dX0_addPaper_32 : decode cX0_addPaper 32 = .ok (.getfield 18, 3) := by decide +kernel
theorem dX0_addPaper_35 : decode cX0_addPaper 35 = .ok (.aload_n 0, 1) := by decide +kernel
theorem dX0_addPaper_36 : decode cX0_addPaper 36 = .ok (.getfield 52, 3) := by decide +kernel
theorem dX0_addPaper_39 : decode cX0_addPaper 39 = .ok (.iload_n 3, 1) := by decide +kernel
theorem dX0_addPaper_40 : decode cX0_addPaper 40 = .ok (.iastore, 1) := by decide +kernel
theorem dX0_addPaper_41 : decode cX0_addPaper 41 = .ok (.aload_n 0, 1) := by decide +kernel
theorem dX0_addPaper_42 : decode cX0_addPaper 42 = .ok (.dup, 1) := by decide +kernel
theorem dX0_addPaper_43 : decode cX0_addPaper 43 = .ok (.getfield 52, 3) := by decide +kernel
theorem dX0_addPaper_46 : decode cX0_addPaper 46 = .ok (.iconst 1, 1) := by decide +kernel
theorem dX0_addPaper_47 : decode cX0_addPaper 47 = .ok (.iadd, 1) := by decide +kernel
theorem dX0_addPaper_48 : decode cX0_addPaper 48 = .ok (.putfield 52, 3) := by decide +kernel
theorem dX0_addPaper_51 : decode cX0_addPaper 51 = .ok (.aload_n 0, 1) := by decide +kernel
theorem dX0_addPaper_52 : decode cX0_addPaper 52 = .ok (.getfield 52, 3) := by decide +kernel
theorem dX0_addPaper_55 : decode cX0_addPaper 55 = .ok (.iconst 1, 1) := by decide +kernel
theorem dX0_addPaper_56 : decode cX0_addPaper 56 = .ok (.isub, 1) := by decide +kernel
theorem dX0_addPaper_57 : decode cX0_addPaper 57 = .ok (.ireturn, 1) := by decide +kernel
theorem dX0_addCand_0 : decode cX0_addCand 0 = .ok (.aload_n 0, 1) := by decide +kernel
theorem dX0_addCand_1 : decode cX0_addCand 1 = .ok (.getfield 55, 3) := by decide +kernel
theorem dX0_addCand_4 : decode cX0_addCand 4 = .ok (.bipush 10, 2) := by decide +kernel
theorem dX0_addCand_6 : decode cX0_addCand 6 = .ok (.if_icmp .lt 5, 3) := by decide +kernel
theorem dX0_addCand_9 : decode cX0_addCand 9 = .ok (.iconst (-1), 1) := by decide +kernel
theorem dX0_addCand_10 : decode cX0_addCand 10 = .ok (.ireturn, 1) := by decide +kernel
theorem dX0_addCand_11 : decode cX0_addCand 11 = .ok (.aload_n 0, 1) := by decide +kernel
theorem dX0_addCand_12 : decode cX0_addCand 12 = .ok (.getfield 21, 3) := by decide +kernel
theorem dX0_addCand_15 : decode cX0_addCand 15 = .ok (.aload_n 0, 1) := by decide +kernel
theorem dX0_addCand_16 : decode cX0_addCand 16 = .ok (.getfield 55, 3) := by decide +kernel
theorem dX0_addCand_19 : decode cX0_addCand 19 = .ok (.iload_n 1, 1) := by decide +kernel
theorem dX0_addCand_20 : decode cX0_addCand 20 = .ok (.iastore, 1) := by decide +kernel
theorem dX0_addCand_21 : decode cX0_addCand 21 = .ok (.aload_n 0, 1) := by decide +kernel
theorem dX0_addCand_22 : decode cX0_addCand 22 = .ok (.getfield 24, 3) := by decide +kernel
theorem dX0_addCand_25 : decode cX0_addCand 25 = .ok (.aload_n 0, 1) := by decide +kernel
theorem dX0_addCand_26 : decode cX0_addCand 26 = .ok (.getfield 55, 3) := by decide +kernel
theorem dX0_addCand_29 : decode cX0_addCand 29 = .ok (.iload_n 2, 1) := by decide +kernel
theorem dX0_addCand_30 : decode cX0_addCand 30 = .ok (.iastore, 1) := by decide +kernel
theorem dX0_addCand_31 : decode cX0_addCand 31 = .ok (.aload_n 0, 1) := by decide +kernel
theorem dX0_addCand_32 : decode cX0_addCand 32 = .ok (.getfield 27, 3) := by decide +kernel
theorem dX0_addCand_35 : decode cX0_addCand 35 = .ok (.aload_n 0, 1) := by decide +kernel
theorem dX0_addCand_36 : decode cX0_addCand 36 = .ok (.getfield 55, 3) := by decide +kernel
theorem dX0_addCand_39 : decode cX0_addCand 39 = .ok (.iconst 0, 1) := by decide +kernel
theorem dX0_addCand_40 : decode cX0_addCand 40 = .ok (.iastore, 1) := by decide +kernel
theorem dX0_addCand_41 : decode cX0_addCand 41 = .ok (.aload_n 0, 1) := by decide +kernel
theorem dX0_addCand_42 : decode cX0_addCand 42 = .ok (.getfield 30, 3) := by decide +kernel
theorem dX0_addCand_45 : decode cX0_addCand 45 = .ok (.aload_n 0, 1) := by decide +kernel
theorem dX0_addCand_46 : decode cX0_addCand 46 = .ok (.getfield 55, 3) := by decide +kernel
theorem dX0_addCand_49 : decode cX0_addCand 49 = .ok (.iconst 0, 1) := by decide +kernel
theorem dX0_addCand_50 : decode cX0_addCand 50 = .ok (.iastore, 1) := by decide +kernel
theorem dX0_addCand_51 : decode cX0_addCand 51 = .ok (.aload_n 0, 1) := by decide +kernel
theorem dX0_addCand_52 : decode cX0_addCand 52 = .ok (.dup, 1) := by decide +kernel
theorem dX0_addCand_53 : decode cX0_addCand 53 = .ok (.getfield 55, 3) := by decide +kernel
theorem dX0_addCand_56 : decode cX0_addCand 56 = .ok (.iconst 1, 1) := by decide +kernel
theorem dX0_addCand_57 : decode cX0_addCand 57 = .ok (.iadd, 1) := by decide +kernel
theorem dX0_addCand_58 : decode cX0_addCand 58 = .ok (.putfield 55, 3) := by decide +kernel
theorem dX0_addCand_61 : decode cX0_addCand 61 = .ok (.aload_n 0, 1) := by decide +kernel
theorem dX0_addCand_62 : decode cX0_addCand 62 = .ok (.getfield 55, 3) := by decide +kernel
theorem dX0_addCand_65 : decode cX0_addCand 65 = .ok (.iconst 1, 1) := by decide +kernel
theorem dX0_addCand_66 : decode cX0_addCand 66 = .ok (.isub, 1) := by decide +kernel
theorem dX0_addCand_67 : decode cX0_addCand 67 = .ok (.ireturn, 1) := by decide +kernel
theorem dX0_addRoom_0 : decode cX0_addRoom 0 = .ok (.aload_n 0, 1) := by decide +kernel
theorem dX0_addRoom_1 : decode cX0_addRoom 1 = .ok (.getfield 58, 3) := by decide +kernel
theorem dX0_addRoom_4 : decode cX0_addRoom 4 = .ok (.bipush 6, 2) := by decide +kernel
theorem dX0_addRoom_6 : decode cX0_addRoom 6 = .ok (.if_icmp .lt 5, 3) := by decide +kernel
theorem dX0_addRoom_9 : decode cX0_addRoom 9 = .ok (.iconst (-1), 1) := by decide +kernel
theorem dX0_addRoom_10 : decode cX0_addRoom 10 = .ok (.ireturn, 1) := by decide +kernel
theorem dX0_addRoom_11 : decode cX0_addRoom 11 = .ok (.aload_n 0, 1) := by decide +kernel
theorem dX0_addRoom_12 : decode cX0_addRoom 12 = .ok (.getfield 33, 3) := by decide +kernel
theorem dX0_addRoom_15 : decode cX0_addRoom 15 = .ok (.aload_n 0, 1) := by decide +kernel
theorem dX0_addRoom_16 : decode cX0_addRoom 16 = .ok (.getfield 58, 3) := by decide +kernel
theorem dX0_addRoom_19 : decode cX0_addRoom 19 = .ok (.iload_n 1, 1) := by decide +kernel
theorem dX0_addRoom_20 : decode cX0_addRoom 20 = .ok (.iastore, 1) := by decide +kernel
theorem dX0_addRoom_21 : decode cX0_addRoom 21 = .ok (.aload_n 0, 1) := by decide +kernel
theorem dX0_addRoom_22 : decode cX0_addRoom 22 = .ok (.dup, 1) := by decide +kernel
theorem dX0_addRoom_23 : decode cX0_addRoom 23 = .ok (.getfield 58, 3) := by decide +kernel
theorem dX0_addRoom_26 : decode cX0_addRoom 26 = .ok (.iconst 1, 1) := by decide +kernel
theorem dX0_addRoom_27 : decode cX0_addRoom 27 = .ok (.iadd, 1) := by decide +kernel
theorem dX0_addRoom_28 : decode cX0_addRoom 28 = .ok (.putfield 58, 3) := by decide +kernel
theorem dX0_addRoom_31 : decode cX0_addRoom 31 = .ok (.aload_n 0, 1) := by decide +kernel
theorem dX0_addRoom_32 : decode cX0_addRoom 32 = .ok (.getfield 58, 3) := by decide +kernel
theorem dX0_addRoom_35 : decode cX0_addRoom 35 = .ok (.iconst 1, 1) := by decide +kernel
theorem dX0_addRoom_36 : decode cX0_addRoom 36 = .ok (.isub, 1) := by decide +kernel
theorem dX0_addRoom_37 : decode cX0_addRoom 37 = .ok (.ireturn, 1) := by decide +kernel
theorem dX0_doesTake_0 : decode cX0_doesTake 0 = .ok (.aload_n 0, 1) := by decide +kernel
theorem dX0_doesTake_1 : decode cX0_doesTake 1 = .ok (.getfield 30, 3) := by decide +kernel
theorem dX0_doesTake_4 : decode cX0_doesTake 4 = .ok (.iload_n 1, 1) := by decide +kernel
theorem dX0_doesTake_5 : decode cX0_doesTake 5 = .ok (.iaload, 1) := by decide +kernel
theorem dX0_doesTake_6 : decode cX0_doesTake 6 = .ok (.iload_n 2, 1) := by decide +kernel
theorem dX0_doesTake_7 : decode cX0_doesTake 7 = .ok (.invokestatic 61, 3) := by decide +kernel
theorem dX0_doesTake_10 : decode cX0_doesTake 10 = .ok (.ireturn, 1) := by decide +kernel
theorem dX0_mayFlip_0 : decode cX0_mayFlip 0 = .ok (.aload_n 0, 1) := by decide +kernel
theorem dX0_mayFlip_1 : decode cX0_mayFlip 1 = .ok (.iload_n 1, 1) := by decide +kernel
theorem dX0_mayFlip_2 : decode cX0_mayFlip 2 = .ok (.iload_n 2, 1) := by decide +kernel
theorem dX0_mayFlip_3 : decode cX0_mayFlip 3 = .ok (.invokevirtual 65, 3) := by decide +kernel
theorem dX0_mayFlip_6 : decode cX0_mayFlip 6 = .ok (.ifCond .ne 27, 3) := by decide +kernel
theorem dX0_mayFlip_9 : decode cX0_mayFlip 9 = .ok (.aload_n 0, 1) := by decide +kernel
theorem dX0_mayFlip_10 : decode cX0_mayFlip 10 = .ok (.getfield 30, 3) := by decide +kernel
theorem dX0_mayFlip_13 : decode cX0_mayFlip 13 = .ok (.iload_n 1, 1) := by decide +kernel
theorem dX0_mayFlip_14 : decode cX0_mayFlip 14 = .ok (.iaload, 1) := by decide +kernel
theorem dX0_mayFlip_15 : decode cX0_mayFlip 15 = .ok (.aload_n 0, 1) := by decide +kernel
theorem dX0_mayFlip_16 : decode cX0_mayFlip 16 = .ok (.aload_n 0, 1) := by decide +kernel
theorem dX0_mayFlip_17 : decode cX0_mayFlip 17 = .ok (.getfield 9, 3) := by decide +kernel
theorem dX0_mayFlip_20 : decode cX0_mayFlip 20 = .ok (.iload_n 2, 1) := by decide +kernel
theorem dX0_mayFlip_21 : decode cX0_mayFlip 21 = .ok (.iaload, 1) := by decide +kernel
theorem dX0_mayFlip_22 : decode cX0_mayFlip 22 = .ok (.invokevirtual 68, 3) := by decide +kernel
theorem dX0_mayFlip_25 : decode cX0_mayFlip 25 = .ok (.iand, 1) := by decide +kernel
theorem dX0_mayFlip_26 : decode cX0_mayFlip 26 = .ok (.invokestatic 72, 3) := by decide +kernel
theorem dX0_mayFlip_29 : decode cX0_mayFlip 29 = .ok (.iconst 4, 1) := by decide +kernel
theorem dX0_mayFlip_30 : decode cX0_mayFlip 30 = .ok (.if_icmp .ge 7, 3) := by decide +kernel
theorem dX0_mayFlip_33 : decode cX0_mayFlip 33 = .ok (.iconst 1, 1) := by decide +kernel
theorem dX0_mayFlip_34 : decode cX0_mayFlip 34 = .ok (.goto 4, 3) := by decide +kernel
theorem dX0_mayFlip_37 : decode cX0_mayFlip 37 = .ok (.iconst 0, 1) := by decide +kernel
theorem dX0_mayFlip_38 : decode cX0_mayFlip 38 = .ok (.ireturn, 1) := by decide +kernel
theorem dX0_flip_0 : decode cX0_flip 0 = .ok (.aload_n 0, 1) := by decide +kernel
theorem dX0_flip_1 : decode cX0_flip 1 = .ok (.getfield 30, 3) := by decide +kernel
theorem dX0_flip_4 : decode cX0_flip 4 = .ok (.iload_n 1, 1) := by decide +kernel
theorem dX0_flip_5 : decode cX0_flip 5 = .ok (.dup2, 1) := by decide +kernel
theorem dX0_flip_6 : decode cX0_flip 6 = .ok (.iaload, 1) := by decide +kernel
theorem dX0_flip_7 : decode cX0_flip 7 = .ok (.iconst 1, 1) := by decide +kernel
theorem dX0_flip_8 : decode cX0_flip 8 = .ok (.iload_n 2, 1) := by decide +kernel
theorem dX0_flip_9 : decode cX0_flip 9 = .ok (.ishl, 1) := by decide +kernel
theorem dX0_flip_10 : decode cX0_flip 10 = .ok (.ixor, 1) := by decide +kernel
theorem dX0_flip_11 : decode cX0_flip 11 = .ok (.iastore, 1) := by decide +kernel
theorem dX0_flip_12 : decode cX0_flip 12 = .ok (.return_, 1) := by decide +kernel
theorem dX0_papersOf_0 : decode cX0_papersOf 0 = .ok (.iconst 0, 1) := by decide +kernel
theorem dX0_papersOf_1 : decode cX0_papersOf 1 = .ok (.istore_n 2, 1) := by decide +kernel
theorem dX0_papersOf_2 : decode cX0_papersOf 2 = .ok (.iconst 0, 1) := by decide +kernel
theorem dX0_papersOf_3 : decode cX0_papersOf 3 = .ok (.istore_n 3, 1) := by decide +kernel
theorem dX0_papersOf_4 : decode cX0_papersOf 4 = .ok (.iload_n 3, 1) := by decide +kernel
theorem dX0_papersOf_5 : decode cX0_papersOf 5 = .ok (.aload_n 0, 1) := by decide +kernel
theorem dX0_papersOf_6 : decode cX0_papersOf 6 = .ok (.getfield 52, 3) := by decide +kernel
theorem dX0_papersOf_9 : decode cX0_papersOf 9 = .ok (.if_icmp .ge 25, 3) := by decide +kernel
theorem dX0_papersOf_12 : decode cX0_papersOf 12 = .ok (.aload_n 0, 1) := by decide +kernel
theorem dX0_papersOf_13 : decode cX0_papersOf 13 = .ok (.getfield 9, 3) := by decide +kernel
theorem dX0_papersOf_16 : decode cX0_papersOf 16 = .ok (.iload_n 3, 1) := by decide +kernel
theorem dX0_papersOf_17 : decode cX0_papersOf 17 = .ok (.iaload, 1) := by decide +kernel
theorem dX0_papersOf_18 : decode cX0_papersOf 18 = .ok (.iload_n 1, 1) := by decide +kernel
theorem dX0_papersOf_19 : decode cX0_papersOf 19 = .ok (.if_icmp .ne 9, 3) := by decide +kernel
theorem dX0_papersOf_22 : decode cX0_papersOf 22 = .ok (.iload_n 2, 1) := by decide +kernel
theorem dX0_papersOf_23 : decode cX0_papersOf 23 = .ok (.iconst 1, 1) := by decide +kernel
theorem dX0_papersOf_24 : decode cX0_papersOf 24 = .ok (.iload_n 3, 1) := by decide +kernel
theorem dX0_papersOf_25 : decode cX0_papersOf 25 = .ok (.ishl, 1) := by decide +kernel
theorem dX0_papersOf_26 : decode cX0_papersOf 26 = .ok (.ior, 1) := by decide +kernel
theorem dX0_papersOf_27 : decode cX0_papersOf 27 = .ok (.istore_n 2, 1) := by decide +kernel
theorem dX0_papersOf_28 : decode cX0_papersOf 28 = .ok (.iinc 3 1, 3) := by decide +kernel
theorem dX0_papersOf_31 : decode cX0_papersOf 31 = .ok (.goto (-27), 3) := by decide +kernel
theorem dX0_papersOf_34 : decode cX0_papersOf 34 = .ok (.iload_n 2, 1) := by decide +kernel
theorem dX0_papersOf_35 : decode cX0_papersOf 35 = .ok (.ireturn, 1) := by decide +kernel
theorem dX0_timeFor_0 : decode cX0_timeFor 0 = .ok (.aload_n 0, 1) := by decide +kernel
theorem dX0_timeFor_1 : decode cX0_timeFor 1 = .ok (.getfield 21, 3) := by decide +kernel
theorem dX0_timeFor_4 : decode cX0_timeFor 4 = .ok (.iload_n 1, 1) := by decide +kernel
theorem dX0_timeFor_5 : decode cX0_timeFor 5 = .ok (.iaload, 1) := by decide +kernel
theorem dX0_timeFor_6 : decode cX0_timeFor 6 = .ok (.aload_n 0, 1) := by decide +kernel
theorem dX0_timeFor_7 : decode cX0_timeFor 7 = .ok (.getfield 24, 3) := by decide +kernel
theorem dX0_timeFor_10 : decode cX0_timeFor 10 = .ok (.iload_n 1, 1) := by decide +kernel
theorem dX0_timeFor_11 : decode cX0_timeFor 11 = .ok (.iaload, 1) := by decide +kernel
theorem dX0_timeFor_12 : decode cX0_timeFor 12 = .ok (.aload_n 0, 1) := by decide +kernel
theorem dX0_timeFor_13 : decode cX0_timeFor 13 = .ok (.getfield 18, 3) := by decide +kernel
theorem dX0_timeFor_16 : decode cX0_timeFor 16 = .ok (.iload_n 2, 1) := by decide +kernel
theorem dX0_timeFor_17 : decode cX0_timeFor 17 = .ok (.iaload, 1) := by decide +kernel
theorem dX0_timeFor_18 : decode cX0_timeFor 18 = .ok (.invokestatic 77, 3) := by decide +kernel
theorem dX0_timeFor_21 : decode cX0_timeFor 21 = .ok (.ireturn, 1) := by decide +kernel
theorem dX0_restFor_0 : decode cX0_restFor 0 = .ok (.aload_n 0, 1) := by decide +kernel
theorem dX0_restFor_1 : decode cX0_restFor 1 = .ok (.getfield 21, 3) := by decide +kernel
theorem dX0_restFor_4 : decode cX0_restFor 4 = .ok (.iload_n 1, 1) := by decide +kernel
theorem dX0_restFor_5 : decode cX0_restFor 5 = .ok (.iaload, 1) := by decide +kernel
theorem dX0_restFor_6 : decode cX0_restFor 6 = .ok (.aload_n 0, 1) := by decide +kernel
theorem dX0_restFor_7 : decode cX0_restFor 7 = .ok (.getfield 24, 3) := by decide +kernel
theorem dX0_restFor_10 : decode cX0_restFor 10 = .ok (.iload_n 1, 1) := by decide +kernel
theorem dX0_restFor_11 : decode cX0_restFor 11 = .ok (.iaload, 1) := by decide +kernel
theorem dX0_restFor_12 : decode cX0_restFor 12 = .ok (.invokestatic 83, 3) := by decide +kernel
theorem dX0_restFor_15 : decode cX0_restFor 15 = .ok (.ireturn, 1) := by decide +kernel
theorem dX0_takenInAll_0 : decode cX0_takenInAll 0 = .ok (.iconst 0, 1) := by decide +kernel
theorem dX0_takenInAll_1 : decode cX0_takenInAll 1 = .ok (.istore_n 1, 1) := by decide +kernel
theorem dX0_takenInAll_2 : decode cX0_takenInAll 2 = .ok (.iconst 0, 1) := by decide +kernel
theorem dX0_takenInAll_3 : decode cX0_takenInAll 3 = .ok (.istore_n 2, 1) := by decide +kernel
theorem dX0_takenInAll_4 : decode cX0_takenInAll 4 = .ok (.iload_n 2, 1) := by decide +kernel
theorem dX0_takenInAll_5 : decode cX0_takenInAll 5 = .ok (.aload_n 0, 1) := by decide +kernel
theorem dX0_takenInAll_6 : decode cX0_takenInAll 6 = .ok (.getfield 55, 3) := by decide +kernel
theorem dX0_takenInAll_9 : decode cX0_takenInAll 9 = .ok (.if_icmp .ge 21, 3) := by decide +kernel
theorem dX0_takenInAll_12 : decode cX0_takenInAll 12 = .ok (.iload_n 1, 1) := by decide +kernel
theorem dX0_takenInAll_13 : decode cX0_takenInAll 13 = .ok (.aload_n 0, 1) := by decide +kernel
theorem dX0_takenInAll_14 : decode cX0_takenInAll 14 = .ok (.getfield 30, 3) := by decide +kernel
theorem dX0_takenInAll_17 : decode cX0_takenInAll 17 = .ok (.iload_n 2, 1) := by decide +kernel
theorem dX0_takenInAll_18 : decode cX0_takenInAll 18 = .ok (.iaload, 1) := by decide +kernel
theorem dX0_takenInAll_19 : decode cX0_takenInAll 19 = .ok (.invokestatic 72, 3) := by decide +kernel
theorem dX0_takenInAll_22 : decode cX0_takenInAll 22 = .ok (.iadd, 1) := by decide +kernel
theorem dX0_takenInAll_23 : decode cX0_takenInAll 23 = .ok (.istore_n 1, 1) := by decide +kernel
theorem dX0_takenInAll_24 : decode cX0_takenInAll 24 = .ok (.iinc 2 1, 3) := by decide +kernel
theorem dX0_takenInAll_27 : decode cX0_takenInAll 27 = .ok (.goto (-23), 3) := by decide +kernel
theorem dX0_takenInAll_30 : decode cX0_takenInAll 30 = .ok (.iload_n 1, 1) := by decide +kernel
theorem dX0_takenInAll_31 : decode cX0_takenInAll 31 = .ok (.ireturn, 1) := by decide +kernel
theorem dX1_init_0 : decode cX1_init 0 = .ok (.aload_n 0, 1) := by decide +kernel
theorem dX1_init_1 : decode cX1_init 1 = .ok (.invokespecial 3, 3) := by decide +kernel
theorem dX1_init_4 : decode cX1_init 4 = .ok (.aload_n 0, 1) := by decide +kernel
theorem dX1_init_5 : decode cX1_init 5 = .ok (.sipush 200, 3) := by decide +kernel
theorem dX1_init_8 : decode cX1_init 8 = .ok (.newarray .int, 2) := by decide +kernel
theorem dX1_init_10 : decode cX1_init 10 = .ok (.putfield 9, 3) := by decide +kernel
theorem dX1_init_13 : decode cX1_init 13 = .ok (.aload_n 0, 1) := by decide +kernel
theorem dX1_init_14 : decode cX1_init 14 = .ok (.sipush 200, 3) := by decide +kernel
theorem dX1_init_17 : decode cX1_init 17 = .ok (.newarray .int, 2) := by decide +kernel
theorem dX1_init_19 : decode cX1_init 19 = .ok (.putfield 15, 3) := by decide +kernel
theorem dX1_init_22 : decode cX1_init 22 = .ok (.aload_n 0, 1) := by decide +kernel
theorem dX1_init_23 : decode cX1_init 23 = .ok (.sipush 200, 3) := by decide +kernel
theorem dX1_init_26 : decode cX1_init 26 = .ok (.newarray .int, 2) := by decide +kernel
theorem dX1_init_28 : decode cX1_init 28 = .ok (.putfield 18, 3) := by decide +kernel
theorem dX1_init_31 : decode cX1_init 31 = .ok (.aload_n 0, 1) := by decide +kernel
theorem dX1_init_32 : decode cX1_init 32 = .ok (.sipush 200, 3) := by decide +kernel
theorem dX1_init_35 : decode cX1_init 35 = .ok (.newarray .int, 2) := by decide +kernel
theorem dX1_init_37 : decode cX1_init 37 = .ok (.putfield 21, 3) := by decide +kernel
theorem dX1_init_40 : decode cX1_init 40 = .ok (.aload_n 0, 1) := by decide +kernel
theorem dX1_init_41 : decode cX1_init 41 = .ok (.sipush 200, 3) := by decide +kernel
theorem dX1_init_44 : decode cX1_init 44 = .ok (.newarray .int, 2) := by decide +kernel
theorem dX1_init_46 : decode cX1_init 46 = .ok (.putfield 24, 3) := by decide +kernel
theorem dX1_init_49 : decode cX1_init 49 = .ok (.aload_n 0, 1) := by decide +kernel
theorem dX1_init_50 : decode cX1_init 50 = .ok (.sipush 200, 3) := by decide +kernel
theorem dX1_init_53 : decode cX1_init 53 = .ok (.newarray .int, 2) := by decide +kernel
theorem dX1_init_55 : decode cX1_init 55 = .ok (.putfield 27, 3) := by decide +kernel
theorem dX1_init_58 : decode cX1_init 58 = .ok (.return_, 1) := by decide +kernel
theorem dX1_count_0 : decode cX1_count 0 = .ok (.aload_n 0, 1) := by decide +kernel
theorem dX1_count_1 : decode cX1_count 1 = .ok (.getfield 30, 3) := by decide +kernel
theorem dX1_count_4 : decode cX1_count 4 = .ok (.ireturn, 1) := by decide +kernel
theorem dX1_watchers_0 : decode cX1_watchers 0 = .ok (.aload_n 0, 1) := by decide +kernel
theorem dX1_watchers_1 : decode cX1_watchers 1 = .ok (.getfield 34, 3) := by decide +kernel
theorem dX1_watchers_4 : decode cX1_watchers 4 = .ok (.ireturn, 1) := by decide +kernel
theorem dX1_atOnce_0 : decode cX1_atOnce 0 = .ok (.aload_n 0, 1) := by decide +kernel
theorem dX1_atOnce_1 : decode cX1_atOnce 1 = .ok (.getfield 37, 3) := by decide +kernel
theorem dX1_atOnce_4 : decode cX1_atOnce 4 = .ok (.ireturn, 1) := by decide +kernel
theorem dX1_tell_0 : decode cX1_tell 0 = .ok (.iload_n 2, 1) := by decide +kernel
theorem dX1_tell_1 : decode cX1_tell 1 = .ok (.tableswitch 59 0 3 #[31, 38, 45, 52], 31) := by decide +kernel
theorem dX1_tell_32 : decode cX1_tell 32 = .ok (.aload_n 0, 1) := by decide +kernel
theorem dX1_tell_33 : decode cX1_tell 33 = .ok (.getfield 9, 3) := by decide +kernel
theorem dX1_tell_36 : decode cX1_tell 36 = .ok (.iload_n 1, 1) := by decide +kernel
theorem dX1_tell_37 : decode cX1_tell 37 = .ok (.iaload, 1) := by decide +kernel
theorem dX1_tell_38 : decode cX1_tell 38 = .ok (.ireturn, 1) := by decide +kernel
theorem dX1_tell_39 : decode cX1_tell 39 = .ok (.aload_n 0, 1) := by decide +kernel
theorem dX1_tell_40 : decode cX1_tell 40 = .ok (.getfield 15, 3) := by decide +kernel
theorem dX1_tell_43 : decode cX1_tell 43 = .ok (.iload_n 1, 1) := by decide +kernel
theorem dX1_tell_44 : decode cX1_tell 44 = .ok (.iaload, 1) := by decide +kernel
theorem dX1_tell_45 : decode cX1_tell 45 = .ok (.ireturn, 1) := by decide +kernel
theorem dX1_tell_46 : decode cX1_tell 46 = .ok (.aload_n 0, 1) := by decide +kernel
theorem dX1_tell_47 : decode cX1_tell 47 = .ok (.getfield 18, 3) := by decide +kernel
theorem dX1_tell_50 : decode cX1_tell 50 = .ok (.iload_n 1, 1) := by decide +kernel
theorem dX1_tell_51 : decode cX1_tell 51 = .ok (.iaload, 1) := by decide +kernel
theorem dX1_tell_52 : decode cX1_tell 52 = .ok (.ireturn, 1) := by decide +kernel
theorem dX1_tell_53 : decode cX1_tell 53 = .ok (.aload_n 0, 1) := by decide +kernel
theorem dX1_tell_54 : decode cX1_tell 54 = .ok (.getfield 21, 3) := by decide +kernel
theorem dX1_tell_57 : decode cX1_tell 57 = .ok (.iload_n 1, 1) := by decide +kernel
theorem dX1_tell_58 : decode cX1_tell 58 = .ok (.iaload, 1) := by decide +kernel
theorem dX1_tell_59 : decode cX1_tell 59 = .ok (.ireturn, 1) := by decide +kernel
theorem dX1_tell_60 : decode cX1_tell 60 = .ok (.aload_n 0, 1) := by decide +kernel
theorem dX1_tell_61 : decode cX1_tell 61 = .ok (.getfield 24, 3) := by decide +kernel
theorem dX1_tell_64 : decode cX1_tell 64 = .ok (.iload_n 1, 1) := by decide +kernel
theorem dX1_tell_65 : decode cX1_tell 65 = .ok (.iaload, 1) := by decide +kernel
theorem dX1_tell_66 : decode cX1_tell 66 = .ok (.ireturn, 1) := by decide +kernel
theorem dX1_gather_0 : decode cX1_gather 0 = .ok (.aload_n 0, 1) := by decide +kernel
theorem dX1_gather_1 : decode cX1_gather 1 = .ok (.getfield 40, 3) := by decide +kernel
theorem dX1_gather_4 : decode cX1_gather 4 = .ok (.aload_n 2, 1) := by decide +kernel
theorem dX1_gather_5 : decode cX1_gather 5 = .ok (.invokevirtual 43, 3) := by decide +kernel
theorem dX1_gather_8 : decode cX1_gather 8 = .ok (.if_icmp .ne 4, 3) := by decide +kernel
theorem dX1_gather_11 : decode cX1_gather 11 = .ok (.return_, 1) := by decide +kernel
theorem dX1_gather_12 : decode cX1_gather 12 = .ok (.aload_n 0, 1) := by decide +kernel
theorem dX1_gather_13 : decode cX1_gather 13 = .ok (.aload_n 2, 1) := by decide +kernel
theorem dX1_gather_14 : decode cX1_gather 14 = .ok (.invokevirtual 43, 3) := by decide +kernel
theorem dX1_gather_17 : decode cX1_gather 17 = .ok (.putfield 40, 3) := by decide +kernel
theorem dX1_gather_20 : decode cX1_gather 20 = .ok (.aload_n 0, 1) := by decide +kernel
theorem dX1_gather_21 : decode cX1_gather 21 = .ok (.iconst 0, 1) := by decide +kernel
theorem dX1_gather_22 : decode cX1_gather 22 = .ok (.putfield 30, 3) := by decide +kernel
theorem dX1_gather_25 : decode cX1_gather 25 = .ok (.iconst 0, 1) := by decide +kernel
theorem dX1_gather_26 : decode cX1_gather 26 = .ok (.istore_n 3, 1) := by decide +kernel
theorem dX1_gather_27 : decode cX1_gather 27 = .ok (.iload_n 3, 1) := by decide +kernel
theorem dX1_gather_28 : decode cX1_gather 28 = .ok (.iconst 5, 1) := by decide +kernel
theorem dX1_gather_29 : decode cX1_gather 29 = .ok (.if_icmp .ge 65, 3) := by decide +kernel
theorem dX1_gather_32 : decode cX1_gather 32 = .ok (.iconst 0, 1) := by decide +kernel
theorem dX1_gather_33 : decode cX1_gather 33 = .ok (.istore 4, 2) := by decide +kernel
theorem dX1_gather_35 : decode cX1_gather 35 = .ok (.iload 4, 2) := by decide +kernel
theorem dX1_gather_37 : decode cX1_gather 37 = .ok (.bipush 48, 2) := by decide +kernel
theorem dX1_gather_39 : decode cX1_gather 39 = .ok (.if_icmp .ge 49, 3) := by decide +kernel
theorem dX1_gather_42 : decode cX1_gather 42 = .ok (.iconst 0, 1) := by decide +kernel
theorem dX1_gather_43 : decode cX1_gather 43 = .ok (.istore 5, 2) := by decide +kernel
theorem dX1_gather_45 : decode cX1_gather 45 = .ok (.iload 5, 2) := by decide +kernel
theorem dX1_gather_47 : decode cX1_gather 47 = .ok (.aload_n 1, 1) := by decide +kernel
theorem dX1_gather_48 : decode cX1_gather 48 = .ok (.getfield 48, 3) := by decide +kernel
theorem dX1_gather_51 : decode cX1_gather 51 = .ok (.if_icmp .ge 31, 3) := by decide +kernel
theorem dX1_gather_54 : decode cX1_gather 54 = .ok (.aload_n 0, 1) := by decide +kernel
theorem dX1_gather_55 : decode cX1_gather 55 = .ok (.iload 5, 2) := by decide +kernel
theorem dX1_gather_57 : decode cX1_gather 57 = .ok (.iload_n 3, 1) := by decide +kernel
theorem dX1_gather_58 : decode cX1_gather 58 = .ok (.iload 4, 2) := by decide +kernel
theorem dX1_gather_60 : decode cX1_gather 60 = .ok (.aload_n 2, 1) := by decide +kernel
theorem dX1_gather_61 : decode cX1_gather 61 = .ok (.aload_n 1, 1) := by decide +kernel
theorem dX1_gather_62 : decode cX1_gather 62 = .ok (.iload 5, 2) := by decide +kernel
theorem dX1_gather_64 : decode cX1_gather 64 = .ok (.invokevirtual 53, 3) := by decide +kernel
theorem dX1_gather_67 : decode cX1_gather 67 = .ok (.iload_n 3, 1) := by decide +kernel
theorem dX1_gather_68 : decode cX1_gather 68 = .ok (.iload 4, 2) := by decide +kernel
theorem dX1_gather_70 : decode cX1_gather 70 = .ok (.invokevirtual 57, 3) := by decide +kernel
theorem dX1_gather_73 : decode cX1_gather 73 = .ok (.invokevirtual 63, 3) := by decide +kernel
theorem dX1_gather_76 : decode cX1_gather 76 = .ok (.iinc 5 1, 3) := by decide +kernel
theorem dX1_gather_79 : decode cX1_gather 79 = .ok (.goto (-34), 3) := by decide +kernel
theorem dX1_gather_82 : decode cX1_gather 82 = .ok (.iinc 4 1, 3) := by decide +kernel
theorem dX1_gather_85 : decode cX1_gather 85 = .ok (.goto (-50), 3) := by decide +kernel
theorem dX1_gather_88 : decode cX1_gather 88 = .ok (.iinc 3 1, 3) := by decide +kernel
theorem dX1_gather_91 : decode cX1_gather 91 = .ok (.goto (-64), 3) := by decide +kernel
theorem dX1_gather_94 : decode cX1_gather 94 = .ok (.aload_n 0, 1) := by decide +kernel
theorem dX1_gather_95 : decode cX1_gather 95 = .ok (.aload_n 1, 1) := by decide +kernel
theorem dX1_gather_96 : decode cX1_gather 96 = .ok (.getfield 67, 3) := by decide +kernel
theorem dX1_gather_99 : decode cX1_gather 99 = .ok (.invokevirtual 70, 3) := by decide +kernel
theorem dX1_gather_102 : decode cX1_gather 102 = .ok (.aload_n 0, 1) := by decide +kernel
theorem dX1_gather_103 : decode cX1_gather 103 = .ok (.aload_n 1, 1) := by decide +kernel
theorem dX1_gather_104 : decode cX1_gather 104 = .ok (.getfield 67, 3) := by decide +kernel
theorem dX1_gather_107 : decode cX1_gather 107 = .ok (.invokevirtual 74, 3) := by decide +kernel
theorem dX1_gather_110 : decode cX1_gather 110 = .ok (.return_, 1) := by decide +kernel
theorem dX1_add_0 : decode cX1_add 0 = .ok (.iload 4, 2) := by decide +kernel
theorem dX1_add_2 : decode cX1_add 2 = .ok (.ifCond .le 64, 3) := by decide +kernel
theorem dX1_add_5 : decode cX1_add 5 = .ok (.aload_n 0, 1) := by decide +kernel
theorem dX1_add_6 : decode cX1_add 6 = .ok (.getfield 30, 3) := by decide +kernel
theorem dX1_add_9 : decode cX1_add 9 = .ok (.sipush 200, 3) := by decide +kernel
theorem dX1_add_12 : decode cX1_add 12 = .ok (.if_icmp .ge 54, 3) := by decide +kernel
theorem dX1_add_15 : decode cX1_add 15 = .ok (.aload_n 0, 1) := by decide +kernel
theorem dX1_add_16 : decode cX1_add 16 = .ok (.getfield 9, 3) := by decide +kernel
theorem dX1_add_19 : decode cX1_add 19 = .ok (.aload_n 0, 1) := by decide +kernel
theorem dX1_add_20 : decode cX1_add 20 = .ok (.getfield 30, 3) := by decide +kernel
theorem dX1_add_23 : decode cX1_add 23 = .ok (.iload_n 1, 1) := by decide +kernel
theorem dX1_add_24 : decode cX1_add 24 = .ok (.iastore, 1) := by decide +kernel
theorem dX1_add_25 : decode cX1_add 25 = .ok (.aload_n 0, 1) := by decide +kernel
theorem dX1_add_26 : decode cX1_add 26 = .ok (.getfield 15, 3) := by decide +kernel
theorem dX1_add_29 : decode cX1_add 29 = .ok (.aload_n 0, 1) := by decide +kernel
theorem dX1_add_30 : decode cX1_add 30 = .ok (.getfield 30, 3) := by decide +kernel
theorem dX1_add_33 : decode cX1_add 33 = .ok (.iload_n 2, 1) := by decide +kernel
theorem dX1_add_34 : decode cX1_add 34 = .ok (.iastore, 1) := by decide +kernel
theorem dX1_add_35 : decode cX1_add 35 = .ok (.aload_n 0, 1) := by decide +kernel
theorem dX1_add_36 : decode cX1_add 36 = .ok (.getfield 18, 3) := by decide +kernel
theorem dX1_add_39 : decode cX1_add 39 = .ok (.aload_n 0, 1) := by decide +kernel
theorem dX1_add_40 : decode cX1_add 40 = .ok (.getfield 30, 3) := by decide +kernel
theorem dX1_add_43 : decode cX1_add 43 = .ok (.iload_n 3, 1) := by decide +kernel
theorem dX1_add_44 : decode cX1_add 44 = .ok (.iastore, 1) := by decide +kernel
theorem dX1_add_45 : decode cX1_add 45 = .ok (.aload_n 0, 1) := by decide +kernel
theorem dX1_add_46 : decode cX1_add 46 = .ok (.getfield 21, 3) := by decide +kernel
theorem dX1_add_49 : decode cX1_add 49 = .ok (.aload_n 0, 1) := by decide +kernel
theorem dX1_add_50 : decode cX1_add 50 = .ok (.getfield 30, 3) := by decide +kernel
theorem dX1_add_53 : decode cX1_add 53 = .ok (.iload 4, 2) := by decide +kernel
theorem dX1_add_55 : decode cX1_add 55 = .ok (.iastore, 1) := by decide +kernel
theorem dX1_add_56 : decode cX1_add 56 = .ok (.aload_n 0, 1) := by decide +kernel
theorem dX1_add_57 : decode cX1_add 57 = .ok (.dup, 1) := by decide +kernel
theorem dX1_add_58 : decode cX1_add 58 = .ok (.getfield 30, 3) := by decide +kernel
theorem dX1_add_61 : decode cX1_add 61 = .ok (.iconst 1, 1) := by decide +kernel
theorem dX1_add_62 : decode cX1_add 62 = .ok (.iadd, 1) := by decide +kernel
theorem dX1_add_63 : decode cX1_add 63 = .ok (.putfield 30, 3) := by decide +kernel
theorem dX1_add_66 : decode cX1_add 66 = .ok (.return_, 1) := by decide +kernel
theorem dX1_beginOf_0 : decode cX1_beginOf 0 = .ok (.aload_n 0, 1) := by decide +kernel
theorem dX1_beginOf_1 : decode cX1_beginOf 1 = .ok (.getfield 15, 3) := by decide +kernel
theorem dX1_beginOf_4 : decode cX1_beginOf 4 = .ok (.iload_n 1, 1) := by decide +kernel
theorem dX1_beginOf_5 : decode cX1_beginOf 5 = .ok (.iaload, 1) := by decide +kernel
theorem dX1_beginOf_6 : decode cX1_beginOf 6 = .ok (.bipush 48, 2) := by decide +kernel
theorem dX1_beginOf_8 : decode cX1_beginOf 8 = .ok (.imul, 1) := by decide +kernel
theorem dX1_beginOf_9 : decode cX1_beginOf 9 = .ok (.aload_n 0, 1) := by decide +kernel
theorem dX1_beginOf_10 : decode cX1_beginOf 10 = .ok (.getfield 18, 3) := by decide +kernel
theorem dX1_beginOf_13 : decode cX1_beginOf 13 = .ok (.iload_n 1, 1) := by decide +kernel
theorem dX1_beginOf_14 : decode cX1_beginOf 14 = .ok (.iaload, 1) := by decide +kernel
theorem dX1_beginOf_15 : decode cX1_beginOf 15 = .ok (.iadd, 1) := by decide +kernel
theorem dX1_beginOf_16 : decode cX1_beginOf 16 = .ok (.ireturn, 1) := by decide +kernel
theorem dX1_giveOut_0 : decode cX1_giveOut 0 = .ok (.aload_n 0, 1) := by decide +kernel
theorem dX1_giveOut_1 : decode cX1_giveOut 1 = .ok (.iconst 0, 1) := by decide +kernel
theorem dX1_giveOut_2 : decode cX1_giveOut 2 = .ok (.putfield 34, 3) := by decide +kernel
theorem dX1_giveOut_5 : decode cX1_giveOut 5 = .ok (.iconst 0, 1) := by decide +kernel
theorem dX1_giveOut_6 : decode cX1_giveOut 6 = .ok (.istore_n 2, 1) := by decide +kernel
theorem dX1_giveOut_7 : decode cX1_giveOut 7 = .ok (.iload_n 2, 1) := by decide +kernel
theorem dX1_giveOut_8 : decode cX1_giveOut 8 = .ok (.aload_n 0, 1) := by decide +kernel
theorem dX1_giveOut_9 : decode cX1_giveOut 9 = .ok (.getfield 30, 3) := by decide +kernel
theorem dX1_giveOut_12 : decode cX1_giveOut 12 = .ok (.if_icmp .ge 51, 3) := by decide +kernel
theorem dX1_giveOut_15 : decode cX1_giveOut 15 = .ok (.aload_n 0, 1) := by decide +kernel
theorem dX1_giveOut_16 : decode cX1_giveOut 16 = .ok (.aload_n 0, 1) := by decide +kernel
theorem dX1_giveOut_17 : decode cX1_giveOut 17 = .ok (.iload_n 2, 1) := by decide +kernel
theorem dX1_giveOut_18 : decode cX1_giveOut 18 = .ok (.invokevirtual 77, 3) := by decide +kernel
theorem dX1_giveOut_21 : decode cX1_giveOut 21 = .ok (.invokevirtual 81, 3) := by decide +kernel
theorem dX1_giveOut_24 : decode cX1_giveOut 24 = .ok (.istore_n 3, 1) := by decide +kernel
theorem dX1_giveOut_25 : decode cX1_giveOut 25 = .ok (.aload_n 0, 1) := by decide +kernel
theorem dX1_giveOut_26 : decode cX1_giveOut 26 = .ok (.getfield 24, 3) := by decide +kernel
theorem dX1_giveOut_29 : decode cX1_giveOut 29 = .ok (.iload_n 2, 1) := by decide +kernel
theorem dX1_giveOut_30 : decode cX1_giveOut 30 = .ok (.iload_n 3, 1) := by decide +kernel
theorem dX1_giveOut_31 : decode cX1_giveOut 31 = .ok (.iastore, 1) := by decide +kernel
theorem dX1_giveOut_32 : decode cX1_giveOut 32 = .ok (.iload_n 3, 1) := by decide +kernel
theorem dX1_giveOut_33 : decode cX1_giveOut 33 = .ok (.iconst (-1), 1) := by decide +kernel
theorem dX1_giveOut_34 : decode cX1_giveOut 34 = .ok (.if_icmp .eq 23, 3) := by decide +kernel
theorem dX1_giveOut_37 : decode cX1_giveOut 37 = .ok (.aload_n 0, 1) := by decide +kernel
theorem dX1_giveOut_38 : decode cX1_giveOut 38 = .ok (.getfield 27, 3) := by decide +kernel
theorem dX1_giveOut_41 : decode cX1_giveOut 41 = .ok (.iload_n 3, 1) := by decide +kernel
theorem dX1_giveOut_42 : decode cX1_giveOut 42 = .ok (.aload_n 0, 1) := by decide +kernel
theorem dX1_giveOut_43 : decode cX1_giveOut 43 = .ok (.iload_n 2, 1) := by decide +kernel
theorem dX1_giveOut_44 : decode cX1_giveOut 44 = .ok (.invokevirtual 77, 3) := by decide +kernel
theorem dX1_giveOut_47 : decode cX1_giveOut 47 = .ok (.aload_n 0, 1) := by decide +kernel
theorem dX1_giveOut_48 : decode cX1_giveOut 48 = .ok (.getfield 21, 3) := by decide +kernel
theorem dX1_giveOut_51 : decode cX1_giveOut 51 = .ok (.iload_n 2, 1) := by decide +kernel
theorem dX1_giveOut_52 : decode cX1_giveOut 52 = .ok (.iaload, 1) := by decide +kernel
theorem dX1_giveOut_53 : decode cX1_giveOut 53 = .ok (.iadd, 1) := by decide +kernel
theorem dX1_giveOut_54 : decode cX1_giveOut 54 = .ok (.iload_n 1, 1) := by decide +kernel
theorem dX1_giveOut_55 : decode cX1_giveOut 55 = .ok (.iadd, 1) := by decide +kernel
theorem dX1_giveOut_56 : decode cX1_giveOut 56 = .ok (.iastore, 1) := by decide +kernel
theorem dX1_giveOut_57 : decode cX1_giveOut 57 = .ok (.iinc 2 1, 3) := by decide +kernel
theorem dX1_giveOut_60 : decode cX1_giveOut 60 = .ok (.goto (-53), 3) := by decide +kernel
theorem dX1_giveOut_63 : decode cX1_giveOut 63 = .ok (.return_, 1) := by decide +kernel
theorem dX1_watcherAt_0 : decode cX1_watcherAt 0 = .ok (.iconst (-1), 1) := by decide +kernel
theorem dX1_watcherAt_1 : decode cX1_watcherAt 1 = .ok (.istore_n 2, 1) := by decide +kernel
theorem dX1_watcherAt_2 : decode cX1_watcherAt 2 = .ok (.iconst 0, 1) := by decide +kernel
theorem dX1_watcherAt_3 : decode cX1_watcherAt 3 = .ok (.istore_n 3, 1) := by decide +kernel
theorem dX1_watcherAt_4 : decode cX1_watcherAt 4 = .ok (.iload_n 3, 1) := by decide +kernel
theorem dX1_watcherAt_5 : decode cX1_watcherAt 5 = .ok (.aload_n 0, 1) := by decide +kernel
theorem dX1_watcherAt_6 : decode cX1_watcherAt 6 = .ok (.getfield 34, 3) := by decide +kernel
theorem dX1_watcherAt_9 : decode cX1_watcherAt 9 = .ok (.if_icmp .ge 41, 3) := by decide +kernel
theorem dX1_watcherAt_12 : decode cX1_watcherAt 12 = .ok (.aload_n 0, 1) := by decide +kernel
theorem dX1_watcherAt_13 : decode cX1_watcherAt 13 = .ok (.getfield 27, 3) := by decide +kernel
theorem dX1_watcherAt_16 : decode cX1_watcherAt 16 = .ok (.iload_n 3, 1) := by decide +kernel
theorem dX1_watcherAt_17 : decode cX1_watcherAt 17 = .ok (.iaload, 1) := by decide +kernel
theorem dX1_watcherAt_18 : decode cX1_watcherAt 18 = .ok (.iload_n 1, 1) := by decide +kernel
theorem dX1_watcherAt_19 : decode cX1_watcherAt 19 = .ok (.if_icmp .gt 25, 3) := by decide +kernel
theorem dX1_watcherAt_22 : decode cX1_watcherAt 22 = .ok (.iload_n 2, 1) := by decide +kernel
theorem dX1_watcherAt_23 : decode cX1_watcherAt 23 = .ok (.iconst (-1), 1) := by decide +kernel
theorem dX1_watcherAt_24 : decode cX1_watcherAt 24 = .ok (.if_icmp .eq 18, 3) := by decide +kernel
theorem dX1_watcherAt_27 : decode cX1_watcherAt 27 = .ok (.aload_n 0, 1) := by decide +kernel
theorem dX1_watcherAt_28 : decode cX1_watcherAt 28 = .ok (.getfield 27, 3) := by decide +kernel
theorem dX1_watcherAt_31 : decode cX1_watcherAt 31 = .ok (.iload_n 3, 1) := by decide +kernel
theorem dX1_watcherAt_32 : decode cX1_watcherAt 32 = .ok (.iaload, 1) := by decide +kernel
theorem dX1_watcherAt_33 : decode cX1_watcherAt 33 = .ok (.aload_n 0, 1) := by decide +kernel
theorem dX1_watcherAt_34 : decode cX1_watcherAt 34 = .ok (.getfield 27, 3) := by decide +kernel
theorem dX1_watcherAt_37 : decode cX1_watcherAt 37 = .ok (.iload_n 2, 1) := by decide +kernel
theorem dX1_watcherAt_38 : decode cX1_watcherAt 38 = .ok (.iaload, 1) := by decide +kernel
theorem dX1_watcherAt_39 : decode cX1_watcherAt 39 = .ok (.if_icmp .le 5, 3) := by decide +kernel
theorem dX1_watcherAt_42 : decode cX1_watcherAt 42 = .ok (.iload_n 3, 1) := by decide +kernel
theorem dX1_watcherAt_43 : decode cX1_watcherAt 43 = .ok (.istore_n 2, 1) := by decide +kernel
theorem dX1_watcherAt_44 : decode cX1_watcherAt 44 = .ok (.iinc 3 1, 3) := by decide +kernel
theorem dX1_watcherAt_47 : decode cX1_watcherAt 47 = .ok (.goto (-43), 3) := by decide +kernel
theorem dX1_watcherAt_50 : decode cX1_watcherAt 50 = .ok (.iload_n 2, 1) := by decide +kernel
theorem dX1_watcherAt_51 : decode cX1_watcherAt 51 = .ok (.iconst (-1), 1) := by decide +kernel
theorem dX1_watcherAt_52 : decode cX1_watcherAt 52 = .ok (.if_icmp .ne 28, 3) := by decide +kernel
theorem dX1_watcherAt_55 : decode cX1_watcherAt 55 = .ok (.aload_n 0, 1) := by decide +kernel
theorem dX1_watcherAt_56 : decode cX1_watcherAt 56 = .ok (.getfield 34, 3) := by decide +kernel
theorem dX1_watcherAt_59 : decode cX1_watcherAt 59 = .ok (.sipush 200, 3) := by decide +kernel
theorem dX1_watcherAt_62 : decode cX1_watcherAt 62 = .ok (.if_icmp .ge 18, 3) := by decide +kernel
theorem dX1_watcherAt_65 : decode cX1_watcherAt 65 = .ok (.aload_n 0, 1) := by decide +kernel
theorem dX1_watcherAt_66 : decode cX1_watcherAt 66 = .ok (.getfield 34, 3) := by decide +kernel
theorem dX1_watcherAt_69 : decode cX1_watcherAt 69 = .ok (.istore_n 2, 1) := by decide +kernel
theorem dX1_watcherAt_70 : decode cX1_watcherAt 70 = .ok (.aload_n 0, 1) := by decide +kernel
theorem dX1_watcherAt_71 : decode cX1_watcherAt 71 = .ok (.dup, 1) := by decide +kernel
theorem dX1_watcherAt_72 : decode cX1_watcherAt 72 = .ok (.getfield 34, 3) := by decide +kernel
theorem dX1_watcherAt_75 : decode cX1_watcherAt 75 = .ok (.iconst 1, 1) := by decide +kernel
theorem dX1_watcherAt_76 : decode cX1_watcherAt 76 = .ok (.iadd, 1) := by decide +kernel
theorem dX1_watcherAt_77 : decode cX1_watcherAt 77 = .ok (.putfield 34, 3) := by decide +kernel
theorem dX1_watcherAt_80 : decode cX1_watcherAt 80 = .ok (.iload_n 2, 1) := by decide +kernel
theorem dX1_watcherAt_81 : decode cX1_watcherAt 81 = .ok (.ireturn, 1) := by decide +kernel
theorem dX1_countAtOnce_0 : decode cX1_countAtOnce 0 = .ok (.aload_n 0, 1) := by decide +kernel
theorem dX1_countAtOnce_1 : decode cX1_countAtOnce 1 = .ok (.iconst 0, 1) := by decide +kernel
theorem dX1_countAtOnce_2 : decode cX1_countAtOnce 2 = .ok (.putfield 37, 3) := by decide +kernel
theorem dX1_countAtOnce_5 : decode cX1_countAtOnce 5 = .ok (.iconst 0, 1) := by decide +kernel
theorem dX1_countAtOnce_6 : decode cX1_countAtOnce 6 = .ok (.istore_n 2, 1) := by decide +kernel
theorem dX1_countAtOnce_7 : decode cX1_countAtOnce 7 = .ok (.iload_n 2, 1) := by decide +kernel
theorem dX1_countAtOnce_8 : decode cX1_countAtOnce 8 = .ok (.aload_n 0, 1) := by decide +kernel
theorem dX1_countAtOnce_9 : decode cX1_countAtOnce 9 = .ok (.getfield 30, 3) := by decide +kernel
theorem dX1_countAtOnce_12 : decode cX1_countAtOnce 12 = .ok (.if_icmp .ge 82, 3) := by decide +kernel
theorem dX1_countAtOnce_15 : decode cX1_countAtOnce 15 = .ok (.iconst 0, 1) := by decide +kernel
theorem dX1_countAtOnce_16 : decode cX1_countAtOnce 16 = .ok (.istore_n 3, 1) := by decide +kernel
theorem dX1_countAtOnce_17 : decode cX1_countAtOnce 17 = .ok (.iconst 0, 1) := by decide +kernel
theorem dX1_countAtOnce_18 : decode cX1_countAtOnce 18 = .ok (.istore 4, 2) := by decide +kernel
theorem dX1_countAtOnce_20 : decode cX1_countAtOnce 20 = .ok (.iload 4, 2) := by decide +kernel
theorem dX1_countAtOnce_22 : decode cX1_countAtOnce 22 = .ok (.aload_n 0, 1) := by decide +kernel
theorem dX1_countAtOnce_23 : decode cX1_countAtOnce 23 = .ok (.getfield 30, 3) := by decide +kernel
theorem dX1_countAtOnce_26 : decode cX1_countAtOnce 26 = .ok (.if_icmp .ge 50, 3) := by decide +kernel
theorem dX1_countAtOnce_29 : decode cX1_countAtOnce 29 = .ok (.aload_n 0, 1) := by decide +kernel
theorem dX1_countAtOnce_30 : decode cX1_countAtOnce 30 = .ok (.iload 4, 2) := by decide +kernel
theorem dX1_countAtOnce_32 : decode cX1_countAtOnce 32 = .ok (.invokevirtual 77, 3) := by decide +kernel
theorem dX1_countAtOnce_35 : decode cX1_countAtOnce 35 = .ok (.aload_n 0, 1) := by decide +kernel
theorem dX1_countAtOnce_36 : decode cX1_countAtOnce 36 = .ok (.iload_n 2, 1) := by decide +kernel
theorem dX1_countAtOnce_37 : decode cX1_countAtOnce 37 = .ok (.invokevirtual 77, 3) := by decide +kernel
theorem dX1_countAtOnce_40 : decode cX1_countAtOnce 40 = .ok (.if_icmp .gt 30, 3) := by decide +kernel
theorem dX1_countAtOnce_43 : decode cX1_countAtOnce 43 = .ok (.aload_n 0, 1) := by decide +kernel
theorem dX1_countAtOnce_44 : decode cX1_countAtOnce 44 = .ok (.iload_n 2, 1) := by decide +kernel
theorem dX1_countAtOnce_45 : decode cX1_countAtOnce 45 = .ok (.invokevirtual 77, 3) := by decide +kernel
theorem dX1_countAtOnce_48 : decode cX1_countAtOnce 48 = .ok (.aload_n 0, 1) := by decide +kernel
theorem dX1_countAtOnce_49 : decode cX1_countAtOnce 49 = .ok (.iload 4, 2) := by decide +kernel
theorem dX1_countAtOnce_51 : decode cX1_countAtOnce 51 = .ok (.invokevirtual 77, 3) := by decide +kernel
theorem dX1_countAtOnce_54 : decode cX1_countAtOnce 54 = .ok (.aload_n 0, 1) := by decide +kernel
theorem dX1_countAtOnce_55 : decode cX1_countAtOnce 55 = .ok (.getfield 21, 3) := by decide +kernel
theorem dX1_countAtOnce_58 : decode cX1_countAtOnce 58 = .ok (.iload 4, 2) := by decide +kernel
theorem dX1_countAtOnce_60 : decode cX1_countAtOnce 60 = .ok (.iaload, 1) := by decide +kernel
theorem dX1_countAtOnce_61 : decode cX1_countAtOnce 61 = .ok (.iadd, 1) := by decide +kernel
theorem dX1_countAtOnce_62 : decode cX1_countAtOnce 62 = .ok (.iload_n 1, 1) := by decide +kernel
theorem dX1_countAtOnce_63 : decode cX1_countAtOnce 63 = .ok (.iadd, 1) := by decide +kernel
theorem dX1_countAtOnce_64 : decode cX1_countAtOnce 64 = .ok (.if_icmp .ge 6, 3) := by decide +kernel
theorem dX1_countAtOnce_67 : decode cX1_countAtOnce 67 = .ok (.iinc 3 1, 3) := by decide +kernel
theorem dX1_countAtOnce_70 : decode cX1_countAtOnce 70 = .ok (.iinc 4 1, 3) := by decide +kernel
theorem dX1_countAtOnce_73 : decode cX1_countAtOnce 73 = .ok (.goto (-53), 3) := by decide +kernel
theorem dX1_countAtOnce_76 : decode cX1_countAtOnce 76 = .ok (.aload_n 0, 1) := by decide +kernel
theorem dX1_countAtOnce_77 : decode cX1_countAtOnce 77 = .ok (.aload_n 0, 1) := by decide +kernel
theorem dX1_countAtOnce_78 : decode cX1_countAtOnce 78 = .ok (.getfield 37, 3) := by decide +kernel
theorem dX1_countAtOnce_81 : decode cX1_countAtOnce 81 = .ok (.iload_n 3, 1) := by decide +kernel
theorem dX1_countAtOnce_82 : decode cX1_countAtOnce 82 = .ok (.invokestatic 84, 3) := by decide +kernel
theorem dX1_countAtOnce_85 : decode cX1_countAtOnce 85 = .ok (.putfield 37, 3) := by decide +kernel
theorem dX1_countAtOnce_88 : decode cX1_countAtOnce 88 = .ok (.iinc 2 1, 3) := by decide +kernel
theorem dX1_countAtOnce_91 : decode cX1_countAtOnce 91 = .ok (.goto (-84), 3) := by decide +kernel
theorem dX1_countAtOnce_94 : decode cX1_countAtOnce 94 = .ok (.return_, 1) := by decide +kernel
theorem dX2_isKind_0 : decode cX2_isKind 0 = .ok (.iload_n 0, 1) := by decide +kernel
theorem dX2_isKind_1 : decode cX2_isKind 1 = .ok (.ifCond .lt 13, 3) := by decide +kernel
theorem dX2_isKind_4 : decode cX2_isKind 4 = .ok (.iload_n 0, 1) := by decide +kernel
theorem dX2_isKind_5 : decode cX2_isKind 5 = .ok (.bipush 6, 2) := by decide +kernel
theorem dX2_isKind_7 : decode cX2_isKind 7 = .ok (.if_icmp .ge 7, 3) := by decide +kernel
theorem dX2_isKind_10 : decode cX2_isKind 10 = .ok (.iconst 1, 1) := by decide +kernel
theorem dX2_isKind_11 : decode cX2_isKind 11 = .ok (.goto 4, 3) := by decide +kernel
theorem dX2_isKind_14 : decode cX2_isKind 14 = .ok (.iconst 0, 1) := by decide +kernel
theorem dX2_isKind_15 : decode cX2_isKind 15 = .ok (.ireturn, 1) := by decide +kernel
theorem dX2_timeOf_0 : decode cX2_timeOf 0 = .ok (.iload_n 2, 1) := by decide +kernel
theorem dX2_timeOf_1 : decode cX2_timeOf 1 = .ok (.iload_n 2, 1) := by decide +kernel
theorem dX2_timeOf_2 : decode cX2_timeOf 2 = .ok (.iload_n 1, 1) := by decide +kernel
theorem dX2_timeOf_3 : decode cX2_timeOf 3 = .ok (.imul, 1) := by decide +kernel
theorem dX2_timeOf_4 : decode cX2_timeOf 4 = .ok (.bipush 9, 2) := by decide +kernel
theorem dX2_timeOf_6 : decode cX2_timeOf 6 = .ok (.iadd, 1) := by decide +kernel
theorem dX2_timeOf_7 : decode cX2_timeOf 7 = .ok (.bipush 10, 2) := by decide +kernel
theorem dX2_timeOf_9 : decode cX2_timeOf 9 = .ok (.idiv, 1) := by decide +kernel
theorem dX2_timeOf_10 : decode cX2_timeOf 10 = .ok (.iadd, 1) := by decide +kernel
theorem dX2_timeOf_11 : decode cX2_timeOf 11 = .ok (.istore_n 3, 1) := by decide +kernel
theorem dX2_timeOf_12 : decode cX2_timeOf 12 = .ok (.iload_n 0, 1) := by decide +kernel
theorem dX2_timeOf_13 : decode cX2_timeOf 13 = .ok (.tableswitch 45 1 5 #[35, 45, 37, 45, 41], 35) := by decide +kernel
theorem dX2_timeOf_48 : decode cX2_timeOf 48 = .ok (.iload_n 3, 1) := by decide +kernel
theorem dX2_timeOf_49 : decode cX2_timeOf 49 = .ok (.ireturn, 1) := by decide +kernel
theorem dX2_timeOf_50 : decode cX2_timeOf 50 = .ok (.iload_n 3, 1) := by decide +kernel
theorem dX2_timeOf_51 : decode cX2_timeOf 51 = .ok (.iconst 1, 1) := by decide +kernel
theorem dX2_timeOf_52 : decode cX2_timeOf 52 = .ok (.iadd, 1) := by decide +kernel
theorem dX2_timeOf_53 : decode cX2_timeOf 53 = .ok (.ireturn, 1) := by decide +kernel
theorem dX2_timeOf_54 : decode cX2_timeOf 54 = .ok (.iload_n 2, 1) := by decide +kernel
theorem dX2_timeOf_55 : decode cX2_timeOf 55 = .ok (.iconst 2, 1) := by decide +kernel
theorem dX2_timeOf_56 : decode cX2_timeOf 56 = .ok (.iadd, 1) := by decide +kernel
theorem dX2_timeOf_57 : decode cX2_timeOf 57 = .ok (.ireturn, 1) := by decide +kernel
theorem dX2_timeOf_58 : decode cX2_timeOf 58 = .ok (.iload_n 2, 1) := by decide +kernel
theorem dX2_timeOf_59 : decode cX2_timeOf 59 = .ok (.ireturn, 1) := by decide +kernel
theorem dX2_restOf_0 : decode cX2_restOf 0 = .ok (.iconst 1, 1) := by decide +kernel
theorem dX2_restOf_1 : decode cX2_restOf 1 = .ok (.iload_n 1, 1) := by decide +kernel
theorem dX2_restOf_2 : decode cX2_restOf 2 = .ok (.iconst 3, 1) := by decide +kernel
theorem dX2_restOf_3 : decode cX2_restOf 3 = .ok (.idiv, 1) := by decide +kernel
theorem dX2_restOf_4 : decode cX2_restOf 4 = .ok (.iadd, 1) := by decide +kernel
theorem dX2_restOf_5 : decode cX2_restOf 5 = .ok (.istore_n 2, 1) := by decide +kernel
theorem dX2_restOf_6 : decode cX2_restOf 6 = .ok (.iload_n 0, 1) := by decide +kernel
theorem dX2_restOf_7 : decode cX2_restOf 7 = .ok (.tableswitch 37 2 5 #[29, 37, 31, 35], 29) := by decide +kernel
theorem dX2_restOf_36 : decode cX2_restOf 36 = .ok (.iload_n 2, 1) := by decide +kernel
theorem dX2_restOf_37 : decode cX2_restOf 37 = .ok (.ireturn, 1) := by decide +kernel
theorem dX2_restOf_38 : decode cX2_restOf 38 = .ok (.iconst 2, 1) := by decide +kernel
theorem dX2_restOf_39 : decode cX2_restOf 39 = .ok (.iload_n 2, 1) := by decide +kernel
theorem dX2_restOf_40 : decode cX2_restOf 40 = .ok (.imul, 1) := by decide +kernel
theorem dX2_restOf_41 : decode cX2_restOf 41 = .ok (.ireturn, 1) := by decide +kernel
theorem dX2_restOf_42 : decode cX2_restOf 42 = .ok (.iconst 2, 1) := by decide +kernel
theorem dX2_restOf_43 : decode cX2_restOf 43 = .ok (.ireturn, 1) := by decide +kernel
theorem dX2_restOf_44 : decode cX2_restOf 44 = .ok (.iconst 1, 1) := by decide +kernel
theorem dX2_restOf_45 : decode cX2_restOf 45 = .ok (.ireturn, 1) := by decide +kernel
theorem dX3_init_0 : decode cX3_init 0 = .ok (.aload_n 0, 1) := by decide +kernel
theorem dX3_init_1 : decode cX3_init 1 = .ok (.invokespecial 3, 3) := by decide +kernel
theorem dX3_init_4 : decode cX3_init 4 = .ok (.aload_n 0, 1) := by decide +kernel
theorem dX3_init_5 : decode cX3_init 5 = .ok (.iconst 4, 1) := by decide +kernel
theorem dX3_init_6 : decode cX3_init 6 = .ok (.newarray .int, 2) := by decide +kernel
theorem dX3_init_8 : decode cX3_init 8 = .ok (.putfield 9, 3) := by decide +kernel
theorem dX3_init_11 : decode cX3_init 11 = .ok (.aload_n 0, 1) := by decide +kernel
theorem dX3_init_12 : decode cX3_init 12 = .ok (.iconst 4, 1) := by decide +kernel
theorem dX3_init_13 : decode cX3_init 13 = .ok (.newarray .int, 2) := by decide +kernel
theorem dX3_init_15 : decode cX3_init 15 = .ok (.putfield 15, 3) := by decide +kernel
theorem dX3_init_18 : decode cX3_init 18 = .ok (.aload_n 0, 1) := by decide +kernel
theorem dX3_init_19 : decode cX3_init 19 = .ok (.iconst 4, 1) := by decide +kernel
theorem dX3_init_20 : decode cX3_init 20 = .ok (.newarray .int, 2) := by decide +kernel
theorem dX3_init_22 : decode cX3_init 22 = .ok (.putfield 18, 3) := by decide +kernel
theorem dX3_init_25 : decode cX3_init 25 = .ok (.aload_n 0, 1) := by decide +kernel
theorem dX3_init_26 : decode cX3_init 26 = .ok (.iconst 4, 1) := by decide +kernel
theorem dX3_init_27 : decode cX3_init 27 = .ok (.newarray .int, 2) := by decide +kernel
theorem dX3_init_29 : decode cX3_init 29 = .ok (.putfield 21, 3) := by decide +kernel
theorem dX3_init_32 : decode cX3_init 32 = .ok (.aload_n 0, 1) := by decide +kernel
theorem dX3_init_33 : decode cX3_init 33 = .ok (.iconst 4, 1) := by decide +kernel
theorem dX3_init_34 : decode cX3_init 34 = .ok (.newarray .int, 2) := by decide +kernel
theorem dX3_init_36 : decode cX3_init 36 = .ok (.putfield 24, 3) := by decide +kernel
theorem dX3_init_39 : decode cX3_init 39 = .ok (.aload_n 0, 1) := by decide +kernel
theorem dX3_init_40 : decode cX3_init 40 = .ok (.iconst 4, 1) := by decide +kernel
theorem dX3_init_41 : decode cX3_init 41 = .ok (.newarray .int, 2) := by decide +kernel
theorem dX3_init_43 : decode cX3_init 43 = .ok (.putfield 27, 3) := by decide +kernel
theorem dX3_init_46 : decode cX3_init 46 = .ok (.return_, 1) := by decide +kernel
theorem dX3_count_0 : decode cX3_count 0 = .ok (.aload_n 0, 1) := by decide +kernel
theorem dX3_count_1 : decode cX3_count 1 = .ok (.getfield 30, 3) := by decide +kernel
theorem dX3_count_4 : decode cX3_count 4 = .ok (.ireturn, 1) := by decide +kernel
theorem dX3_lawfulOnes_0 : decode cX3_lawfulOnes 0 = .ok (.aload_n 0, 1) := by decide +kernel
theorem dX3_lawfulOnes_1 : decode cX3_lawfulOnes 1 = .ok (.getfield 34, 3) := by decide +kernel
theorem dX3_lawfulOnes_4 : decode cX3_lawfulOnes 4 = .ok (.ireturn, 1) := by decide +kernel
theorem dX3_least_0 : decode cX3_least 0 = .ok (.aload_n 0, 1) := by decide +kernel
theorem dX3_least_1 : decode cX3_least 1 = .ok (.getfield 37, 3) := by decide +kernel
theorem dX3_least_4 : decode cX3_least 4 = .ok (.ireturn, 1) := by decide +kernel
theorem dX3_keptSlots_0 : decode cX3_keptSlots 0 = .ok (.aload_n 0, 1) := by decide +kernel
theorem dX3_keptSlots_1 : decode cX3_keptSlots 1 = .ok (.getfield 40, 3) := by decide +kernel
theorem dX3_keptSlots_4 : decode cX3_keptSlots 4 = .ok (.lreturn, 1) := by decide +kernel
theorem dX3_paperAt_0 : decode cX3_paperAt 0 = .ok (.iload_n 1, 1) := by decide +kernel
theorem dX3_paperAt_1 : decode cX3_paperAt 1 = .ok (.ifCond .lt 25, 3) := by decide +kernel
theorem dX3_paperAt_4 : decode cX3_paperAt 4 = .ok (.iload_n 1, 1) := by decide +kernel
theorem dX3_paperAt_5 : decode cX3_paperAt 5 = .ok (.aload_n 0, 1) := by decide +kernel
theorem dX3_paperAt_6 : decode cX3_paperAt 6 = .ok (.getfield 30, 3) := by decide +kernel
theorem dX3_paperAt_9 : decode cX3_paperAt 9 = .ok (.if_icmp .ge 17, 3) := by decide +kernel
theorem dX3_paperAt_12 : decode cX3_paperAt 12 = .ok (.aload_n 0, 1) := by decide +kernel
theorem dX3_paperAt_13 : decode cX3_paperAt 13 = .ok (.getfield 9, 3) := by decide +kernel
theorem dX3_paperAt_16 : decode cX3_paperAt 16 = .ok (.aload_n 0, 1) := by decide +kernel
theorem dX3_paperAt_17 : decode cX3_paperAt 17 = .ok (.getfield 24, 3) := by decide +kernel
theorem dX3_paperAt_20 : decode cX3_paperAt 20 = .ok (.iload_n 1, 1) := by decide +kernel
theorem dX3_paperAt_21 : decode cX3_paperAt 21 = .ok (.iaload, 1) := by decide +kernel
theorem dX3_paperAt_22 : decode cX3_paperAt 22 = .ok (.iaload, 1) := by decide +kernel
theorem dX3_paperAt_23 : decode cX3_paperAt 23 = .ok (.goto 4, 3) := by decide +kernel
theorem dX3_paperAt_26 : decode cX3_paperAt 26 = .ok (.iconst (-1), 1) := by decide +kernel
theorem dX3_paperAt_27 : decode cX3_paperAt 27 = .ok (.ireturn, 1) := by decide +kernel
theorem dX3_beginAt_0 : decode cX3_beginAt 0 = .ok (.iload_n 1, 1) := by decide +kernel
theorem dX3_beginAt_1 : decode cX3_beginAt 1 = .ok (.ifCond .lt 20, 3) := by decide +kernel
theorem dX3_beginAt_4 : decode cX3_beginAt 4 = .ok (.iload_n 1, 1) := by decide +kernel
theorem dX3_beginAt_5 : decode cX3_beginAt 5 = .ok (.aload_n 0, 1) := by decide +kernel
theorem dX3_beginAt_6 : decode cX3_beginAt 6 = .ok (.getfield 30, 3) := by decide +kernel
theorem dX3_beginAt_9 : decode cX3_beginAt 9 = .ok (.if_icmp .ge 12, 3) := by decide +kernel
theorem dX3_beginAt_12 : decode cX3_beginAt 12 = .ok (.aload_n 0, 1) := by decide +kernel
theorem dX3_beginAt_13 : decode cX3_beginAt 13 = .ok (.getfield 27, 3) := by decide +kernel
theorem dX3_beginAt_16 : decode cX3_beginAt 16 = .ok (.iload_n 1, 1) := by decide +kernel
theorem dX3_beginAt_17 : decode cX3_beginAt 17 = .ok (.iaload, 1) := by decide +kernel
theorem dX3_beginAt_18 : decode cX3_beginAt 18 = .ok (.goto 4, 3) := by decide +kernel
theorem dX3_beginAt_21 : decode cX3_beginAt 21 = .ok (.iconst (-1), 1) := by decide +kernel
theorem dX3_beginAt_22 : decode cX3_beginAt 22 = .ok (.ireturn, 1) := by decide +kernel
theorem dX3_endAt_0 : decode cX3_endAt 0 = .ok (.iload_n 1, 1) := by decide +kernel
theorem dX3_endAt_1 : decode cX3_endAt 1 = .ok (.ifCond .lt 32, 3) := by decide +kernel
theorem dX3_endAt_4 : decode cX3_endAt 4 = .ok (.iload_n 1, 1) := by decide +kernel
theorem dX3_endAt_5 : decode cX3_endAt 5 = .ok (.aload_n 0, 1) := by decide +kernel
theorem dX3_endAt_6 : decode cX3_endAt 6 = .ok (.getfield 30, 3) := by decide +kernel
theorem dX3_endAt_9 : decode cX3_endAt 9 = .ok (.if_icmp .ge 24, 3) := by decide +kernel
theorem dX3_endAt_12 : decode cX3_endAt 12 = .ok (.aload_n 0, 1) := by decide +kernel
theorem dX3_endAt_13 : decode cX3_endAt 13 = .ok (.getfield 27, 3) := by decide +kernel
theorem dX3_endAt_16 : decode cX3_endAt 16 = .ok (.iload_n 1, 1) := by decide +kernel
theorem dX3_endAt_17 : decode cX3_endAt 17 = .ok (.iaload, 1) := by decide +kernel
theorem dX3_endAt_18 : decode cX3_endAt 18 = .ok (.aload_n 0, 1) := by decide +kernel
theorem dX3_endAt_19 : decode cX3_endAt 19 = .ok (.getfield 18, 3) := by decide +kernel
theorem dX3_endAt_22 : decode cX3_endAt 22 = .ok (.aload_n 0, 1) := by decide +kernel
theorem dX3_endAt_23 : decode cX3_endAt 23 = .ok (.getfield 24, 3) := by decide +kernel
theorem dX3_endAt_26 : decode cX3_endAt 26 = .ok (.iload_n 1, 1) := by decide +kernel
theorem dX3_endAt_27 : decode cX3_endAt 27 = .ok (.iaload, 1) := by decide +kernel
theorem dX3_endAt_28 : decode cX3_endAt 28 = .ok (.iaload, 1) := by decide +kernel
theorem dX3_endAt_29 : decode cX3_endAt 29 = .ok (.iadd, 1) := by decide +kernel
theorem dX3_endAt_30 : decode cX3_endAt 30 = .ok (.goto 4, 3) := by decide +kernel
theorem dX3_endAt_33 : decode cX3_endAt 33 = .ok (.iconst (-1), 1) := by decide +kernel
theorem dX3_endAt_34 : decode cX3_endAt 34 = .ok (.ireturn, 1) := by decide +kernel
theorem dX3_gather_0 : decode cX3_gather 0 = .ok (.aload_n 0, 1) := by decide +kernel
theorem dX3_gather_1 : decode cX3_gather 1 = .ok (.iconst 0, 1) := by decide +kernel
theorem dX3_gather_2 : decode cX3_gather 2 = .ok (.putfield 30, 3) := by decide +kernel
theorem dX3_gather_5 : decode cX3_gather 5 = .ok (.aload_n 0, 1) := by decide +kernel
theorem dX3_gather_6 : decode cX3_gather 6 = .ok (.aload_n 1, 1) := by decide +kernel
theorem dX3_gather_7 : decode cX3_gather 7 = .ok (.iload_n 2, 1) := by decide +kernel
theorem dX3_gather_8 : decode cX3_gather 8 = .ok (.invokevirtual 44, 3) := by decide +kernel
theorem dX3_gather_11 : decode cX3_gather 11 = .ok (.putfield 50, 3) := by decide +kernel
theorem dX3_gather_14 : decode cX3_gather 14 = .ok (.aload_n 0, 1) := by decide +kernel
theorem dX3_gather_15 : decode cX3_gather 15 = .ok (.iload 4, 2) := by decide +kernel
theorem dX3_gather_17 : decode cX3_gather 17 = .ok (.putfield 53, 3) := by decide +kernel
theorem dX3_gather_20 : decode cX3_gather 20 = .ok (.aload_n 0, 1) := by decide +kernel
theorem dX3_gather_21 : decode cX3_gather 21 = .ok (.aload_n 1, 1) := by decide +kernel
theorem dX3_gather_22 : decode cX3_gather 22 = .ok (.getfield 56, 3) := by decide +kernel
theorem dX3_gather_25 : decode cX3_gather 25 = .ok (.iload 5, 2) := by decide +kernel
theorem dX3_gather_27 : decode cX3_gather 27 = .ok (.isub, 1) := by decide +kernel
theorem dX3_gather_28 : decode cX3_gather 28 = .ok (.putfield 59, 3) := by decide +kernel
theorem dX3_gather_31 : decode cX3_gather 31 = .ok (.aload_n 0, 1) := by decide +kernel
theorem dX3_gather_32 : decode cX3_gather 32 = .ok (.iconst 0, 1) := by decide +kernel
theorem dX3_gather_33 : decode cX3_gather 33 = .ok (.iload 5, 2) := by decide +kernel
theorem dX3_gather_35 : decode cX3_gather 35 = .ok (.invokestatic 62, 3) := by decide +kernel
theorem dX3_gather_38 : decode cX3_gather 38 = .ok (.putfield 66, 3) := by decide +kernel
theorem dX3_gather_41 : decode cX3_gather 41 = .ok (.iconst 0, 1) := by decide +kernel
theorem dX3_gather_42 : decode cX3_gather 42 = .ok (.istore 6, 2) := by decide +kernel
theorem dX3_gather_44 : decode cX3_gather 44 = .ok (.iload 6, 2) := by decide +kernel
theorem dX3_gather_46 : decode cX3_gather 46 = .ok (.aload_n 1, 1) := by decide +kernel
theorem dX3_gather_47 : decode cX3_gather 47 = .ok (.getfield 69, 3) := by decide +kernel
theorem dX3_gather_50 : decode cX3_gather 50 = .ok (.if_icmp .ge 97, 3) := by decide +kernel
theorem dX3_gather_53 : decode cX3_gather 53 = .ok (.iload_n 3, 1) := by decide +kernel
theorem dX3_gather_54 : decode cX3_gather 54 = .ok (.iload 6, 2) := by decide +kernel
theorem dX3_gather_56 : decode cX3_gather 56 = .ok (.invokestatic 72, 3) := by decide +kernel
theorem dX3_gather_59 : decode cX3_gather 59 = .ok (.ifCond .eq 82, 3) := by decide +kernel
theorem dX3_gather_62 : decode cX3_gather 62 = .ok (.aload_n 0, 1) := by decide +kernel
theorem dX3_gather_63 : decode cX3_gather 63 = .ok (.getfield 30, 3) := by decide +kernel
theorem dX3_gather_66 : decode cX3_gather 66 = .ok (.iconst 4, 1) := by decide +kernel
theorem dX3_gather_67 : decode cX3_gather 67 = .ok (.if_icmp .ge 74, 3) := by decide +kernel
theorem dX3_gather_70 : decode cX3_gather 70 = .ok (.aload_n 0, 1) := by decide +kernel
theorem dX3_gather_71 : decode cX3_gather 71 = .ok (.getfield 9, 3) := by decide +kernel
theorem dX3_gather_74 : decode cX3_gather 74 = .ok (.aload_n 0, 1) := by decide +kernel
theorem dX3_gather_75 : decode cX3_gather 75 = .ok (.getfield 30, 3) := by decide +kernel
theorem dX3_gather_78 : decode cX3_gather 78 = .ok (.iload 6, 2) := by decide +kernel
theorem dX3_gather_80 : decode cX3_gather 80 = .ok (.iastore, 1) := by decide +kernel
theorem dX3_gather_81 : decode cX3_gather 81 = .ok (.aload_n 0, 1) := by decide +kernel
theorem dX3_gather_82 : decode cX3_gather 82 = .ok (.getfield 15, 3) := by decide +kernel
theorem dX3_gather_85 : decode cX3_gather 85 = .ok (.aload_n 0, 1) := by decide +kernel
theorem dX3_gather_86 : decode cX3_gather 86 = .ok (.getfield 30, 3) := by decide +kernel
theorem dX3_gather_89 : decode cX3_gather 89 = .ok (.aload_n 1, 1) := by decide +kernel
theorem dX3_gather_90 : decode cX3_gather 90 = .ok (.getfield 76, 3) := by decide +kernel
theorem dX3_gather_93 : decode cX3_gather 93 = .ok (.iload 6, 2) := by decide +kernel
theorem dX3_gather_95 : decode cX3_gather 95 = .ok (.iaload, 1) := by decide +kernel
theorem dX3_gather_96 : decode cX3_gather 96 = .ok (.iastore, 1) := by decide +kernel
theorem dX3_gather_97 : decode cX3_gather 97 = .ok (.aload_n 0, 1) := by decide +kernel
theorem dX3_gather_98 : decode cX3_gather 98 = .ok (.getfield 18, 3) := by decide +kernel
theorem dX3_gather_101 : decode cX3_gather 101 = .ok (.aload_n 0, 1) := by decide +kernel
theorem dX3_gather_102 : decode cX3_gather 102 = .ok (.getfield 30, 3) := by decide +kernel
theorem dX3_gather_105 : decode cX3_gather 105 = .ok (.aload_n 1, 1) := by decide +kernel
theorem dX3_gather_106 : decode cX3_gather 106 = .ok (.iload_n 2, 1) := by decide +kernel
theorem dX3_gather_107 : decode cX3_gather 107 = .ok (.iload 6, 2) := by decide +kernel
theorem dX3_gather_109 : decode cX3_gather 109 = .ok (.invokevirtual 79, 3) := by decide +kernel
theorem dX3_gather_112 : decode cX3_gather 112 = .ok (.iastore, 1) := by decide +kernel
theorem dX3_gather_113 : decode cX3_gather 113 = .ok (.aload_n 0, 1) := by decide +kernel
theorem dX3_gather_114 : decode cX3_gather 114 = .ok (.dup, 1) := by decide +kernel
theorem dX3_gather_115 : decode cX3_gather 115 = .ok (.getfield 59, 3) := by decide +kernel
theorem dX3_gather_118 : decode cX3_gather 118 = .ok (.aload_n 0, 1) := by decide +kernel
theorem dX3_gather_119 : decode cX3_gather 119 = .ok (.getfield 18, 3) := by decide +kernel
theorem dX3_gather_122 : decode cX3_gather 122 = .ok (.aload_n 0, 1) := by decide +kernel
theorem dX3_gather_123 : decode cX3_gather 123 = .ok (.getfield 30, 3) := by decide +kernel
theorem dX3_gather_126 : decode cX3_gather 126 = .ok (.iaload, 1) := by decide +kernel
theorem dX3_gather_127 : decode cX3_gather 127 = .ok (.isub, 1) := by decide +kernel
theorem dX3_gather_128 : decode cX3_gather 128 = .ok (.putfield 59, 3) := by decide +kernel
theorem dX3_gather_131 : decode cX3_gather 131 = .ok (.aload_n 0, 1) := by decide +kernel
theorem dX3_gather_132 : decode cX3_gather 132 = .ok (.dup, 1) := by decide +kernel
theorem dX3_gather_133 : decode cX3_gather 133 = .ok (.getfield 30, 3) := by decide +kernel
theorem dX3_gather_136 : decode cX3_gather 136 = .ok (.iconst 1, 1) := by decide +kernel
theorem dX3_gather_137 : decode cX3_gather 137 = .ok (.iadd, 1) := by decide +kernel
theorem dX3_gather_138 : decode cX3_gather 138 = .ok (.putfield 30, 3) := by decide +kernel
theorem dX3_gather_141 : decode cX3_gather 141 = .ok (.iinc 6 1, 3) := by decide +kernel
theorem dX3_gather_144 : decode cX3_gather 144 = .ok (.goto (-100), 3) := by decide +kernel
theorem dX3_gather_147 : decode cX3_gather 147 = .ok (.return_, 1) := by decide +kernel
theorem dX3_search_0 : decode cX3_search 0 = .ok (.aload_n 0, 1) := by decide +kernel
theorem dX3_search_1 : decode cX3_search 1 = .ok (.iconst 0, 1) := by decide +kernel
theorem dX3_search_2 : decode cX3_search 2 = .ok (.putfield 34, 3) := by decide +kernel
theorem dX3_search_5 : decode cX3_search 5 = .ok (.aload_n 0, 1) := by decide +kernel
theorem dX3_search_6 : decode cX3_search 6 = .ok (.iconst 0, 1) := by decide +kernel
theorem dX3_search_7 : decode cX3_search 7 = .ok (.putfield 37, 3) := by decide +kernel
theorem dX3_search_10 : decode cX3_search 10 = .ok (.aload_n 0, 1) := by decide +kernel
theorem dX3_search_11 : decode cX3_search 11 = .ok (.getfield 59, 3) := by decide +kernel
theorem dX3_search_14 : decode cX3_search 14 = .ok (.ifCond .ge 5, 3) := by decide +kernel
theorem dX3_search_17 : decode cX3_search 17 = .ok (.iconst 0, 1) := by decide +kernel
theorem dX3_search_18 : decode cX3_search 18 = .ok (.ireturn, 1) := by decide +kernel
theorem dX3_search_19 : decode cX3_search 19 = .ok (.iconst 0, 1) := by decide +kernel
theorem dX3_search_20 : decode cX3_search 20 = .ok (.istore 4, 2) := by decide +kernel
theorem dX3_search_22 : decode cX3_search 22 = .ok (.iload 4, 2) := by decide +kernel
theorem dX3_search_24 : decode cX3_search 24 = .ok (.aload_n 0, 1) := by decide +kernel
theorem dX3_search_25 : decode cX3_search 25 = .ok (.getfield 30, 3) := by decide +kernel
theorem dX3_search_28 : decode cX3_search 28 = .ok (.if_icmp .ge 18, 3) := by decide +kernel
theorem dX3_search_31 : decode cX3_search 31 = .ok (.aload_n 0, 1) := by decide +kernel
theorem dX3_search_32 : decode cX3_search 32 = .ok (.getfield 21, 3) := by decide +kernel
theorem dX3_search_35 : decode cX3_search 35 = .ok (.iload 4, 2) := by decide +kernel
theorem dX3_search_37 : decode cX3_search 37 = .ok (.iload 4, 2) := by decide +kernel
theorem dX3_search_39 : decode cX3_search 39 = .ok (.iastore, 1) := by decide +kernel
theorem dX3_search_40 : decode cX3_search 40 = .ok (.iinc 4 1, 3) := by decide +kernel
theorem dX3_search_43 : decode cX3_search 43 = .ok (.goto (-21), 3) := by decide +kernel
theorem dX3_search_46 : decode cX3_search 46 = .ok (.iconst 1, 1) := by decide +kernel
theorem dX3_search_47 : decode cX3_search 47 = .ok (.istore 4, 2) := by decide +kernel
theorem dX3_search_49 : decode cX3_search 49 = .ok (.iconst 0, 1) := by decide +kernel
theorem dX3_search_50 : decode cX3_search 50 = .ok (.istore 5, 2) := by decide +kernel
theorem dX3_search_52 : decode cX3_search 52 = .ok (.iload 5, 2) := by decide +kernel
theorem dX3_search_54 : decode cX3_search 54 = .ok (.bipush 25, 2) := by decide +kernel
theorem dX3_search_56 : decode cX3_search 56 = .ok (.if_icmp .ge 85, 3) := by decide +kernel
theorem dX3_search_59 : decode cX3_search 59 = .ok (.iload 4, 2) := by decide +kernel
theorem dX3_search_61 : decode cX3_search 61 = .ok (.ifCond .eq 80, 3) := by decide +kernel
theorem dX3_search_64 : decode cX3_search 64 = .ok (.aload_n 0, 1) := by decide +kernel
theorem dX3_search_65 : decode cX3_search 65 = .ok (.aload_n 0, 1) := by decide +kernel
theorem dX3_search_66 : decode cX3_search 66 = .ok (.getfield 21, 3) := by decide +kernel
theorem dX3_search_69 : decode cX3_search 69 = .ok (.lload_n 2, 1) := by decide +kernel
theorem dX3_search_70 : decode cX3_search 70 = .ok (.invokevirtual 83, 3) := by decide +kernel
theorem dX3_search_73 : decode cX3_search 73 = .ok (.ifCond .eq 56, 3) := by decide +kernel
theorem dX3_search_76 : decode cX3_search 76 = .ok (.aload_n 0, 1) := by decide +kernel
theorem dX3_search_77 : decode cX3_search 77 = .ok (.iload_n 1, 1) := by decide +kernel
theorem dX3_search_78 : decode cX3_search 78 = .ok (.invokevirtual 87, 3) := by decide +kernel
theorem dX3_search_81 : decode cX3_search 81 = .ok (.istore 6, 2) := by decide +kernel
theorem dX3_search_83 : decode cX3_search 83 = .ok (.aload_n 0, 1) := by decide +kernel
theorem dX3_search_84 : decode cX3_search 84 = .ok (.getfield 34, 3) := by decide +kernel
theorem dX3_search_87 : decode cX3_search 87 = .ok (.ifCond .eq 12, 3) := by decide +kernel
theorem dX3_search_90 : decode cX3_search 90 = .ok (.iload 6, 2) := by decide +kernel
theorem dX3_search_92 : decode cX3_search 92 = .ok (.aload_n 0, 1) := by decide +kernel
theorem dX3_search_93 : decode cX3_search 93 = .ok (.getfield 37, 3) := by decide +kernel
theorem dX3_search_96 : decode cX3_search 96 = .ok (.if_icmp .ge 23, 3) := by decide +kernel
theorem dX3_search_99 : decode cX3_search 99 = .ok (.aload_n 0, 1) := by decide +kernel
theorem dX3_search_100 : decode cX3_search 100 = .ok (.iload 6, 2) := by decide +kernel
theorem dX3_search_102 : decode cX3_search 102 = .ok (.putfield 37, 3) := by decide +kernel
theorem dX3_search_105 : decode cX3_search 105 = .ok (.aload_n 0, 1) := by decide +kernel
theorem dX3_search_106 : decode cX3_search 106 = .ok (.getfield 21, 3) := by decide +kernel
theorem dX3_search_109 : decode cX3_search 109 = .ok (.iconst 0, 1) := by decide +kernel
theorem dX3_search_110 : decode cX3_search 110 = .ok (.aload_n 0, 1) := by decide +kernel
theorem dX3_search_111 : decode cX3_search 111 = .ok (.getfield 24, 3) := by decide +kernel
theorem dX3_search_114 : decode cX3_search 114 = .ok (.iconst 0, 1) := by decide +kernel
theorem dX3_search_115 : decode cX3_search 115 = .ok (.iconst 4, 1) := by decide +kernel
theorem dX3_search_116 : decode cX3_search 116 = .ok (.invokestatic 90, 3) := by decide +kernel
theorem dX3_search_119 : decode cX3_search 119 = .ok (.aload_n 0, 1) := by decide +kernel
theorem dX3_search_120 : decode cX3_search 120 = .ok (.dup, 1) := by decide +kernel
theorem dX3_search_121 : decode cX3_search 121 = .ok (.getfield 34, 3) := by decide +kernel
theorem dX3_search_124 : decode cX3_search 124 = .ok (.iconst 1, 1) := by decide +kernel
theorem dX3_search_125 : decode cX3_search 125 = .ok (.iadd, 1) := by decide +kernel
theorem dX3_search_126 : decode cX3_search 126 = .ok (.putfield 34, 3) := by decide +kernel
theorem dX3_search_129 : decode cX3_search 129 = .ok (.aload_n 0, 1) := by decide +kernel
theorem dX3_search_130 : decode cX3_search 130 = .ok (.invokevirtual 96, 3) := by decide +kernel
theorem dX3_search_133 : decode cX3_search 133 = .ok (.istore 4, 2) := by decide +kernel
theorem dX3_search_135 : decode cX3_search 135 = .ok (.iinc 5 1, 3) := by decide +kernel
theorem dX3_search_138 : decode cX3_search 138 = .ok (.goto (-86), 3) := by decide +kernel
theorem dX3_search_141 : decode cX3_search 141 = .ok (.aload_n 0, 1) := by decide +kernel
theorem dX3_search_142 : decode cX3_search 142 = .ok (.getfield 34, 3) := by decide +kernel
theorem dX3_search_145 : decode cX3_search 145 = .ok (.ifCond .le 19, 3) := by decide +kernel
theorem dX3_search_148 : decode cX3_search 148 = .ok (.aload_n 0, 1) := by decide +kernel
theorem dX3_search_149 : decode cX3_search 149 = .ok (.aload_n 0, 1) := by decide +kernel
theorem dX3_search_150 : decode cX3_search 150 = .ok (.getfield 24, 3) := by decide +kernel
theorem dX3_search_153 : decode cX3_search 153 = .ok (.lload_n 2, 1) := by decide +kernel
theorem dX3_search_154 : decode cX3_search 154 = .ok (.invokevirtual 83, 3) := by decide +kernel
theorem dX3_search_157 : decode cX3_search 157 = .ok (.ifCond .eq 7, 3) := by decide +kernel
theorem dX3_search_160 : decode cX3_search 160 = .ok (.iconst 1, 1) := by decide +kernel
theorem dX3_search_161 : decode cX3_search 161 = .ok (.goto 4, 3) := by decide +kernel
theorem dX3_search_164 : decode cX3_search 164 = .ok (.iconst 0, 1) := by decide +kernel
theorem dX3_search_165 : decode cX3_search 165 = .ok (.ireturn, 1) := by decide +kernel
theorem dX3_walk_0 : decode cX3_walk 0 = .ok (.aload_n 0, 1) := by decide +kernel
theorem dX3_walk_1 : decode cX3_walk 1 = .ok (.getfield 66, 3) := by decide +kernel
theorem dX3_walk_4 : decode cX3_walk 4 = .ok (.lstore 4, 2) := by decide +kernel
theorem dX3_walk_6 : decode cX3_walk 6 = .ok (.lload_n 2, 1) := by decide +kernel
theorem dX3_walk_7 : decode cX3_walk 7 = .ok (.lstore 6, 2) := by decide +kernel
theorem dX3_walk_9 : decode cX3_walk 9 = .ok (.aload_n 0, 1) := by decide +kernel
theorem dX3_walk_10 : decode cX3_walk 10 = .ok (.getfield 53, 3) := by decide +kernel
theorem dX3_walk_13 : decode cX3_walk 13 = .ok (.istore 8, 2) := by decide +kernel
theorem dX3_walk_15 : decode cX3_walk 15 = .ok (.iconst 0, 1) := by decide +kernel
theorem dX3_walk_16 : decode cX3_walk 16 = .ok (.istore 9, 2) := by decide +kernel
theorem dX3_walk_18 : decode cX3_walk 18 = .ok (.iload 9, 2) := by decide +kernel
theorem dX3_walk_20 : decode cX3_walk 20 = .ok (.aload_n 0, 1) := by decide +kernel
theorem dX3_walk_21 : decode cX3_walk 21 = .ok (.getfield 30, 3) := by decide +kernel
theorem dX3_walk_24 : decode cX3_walk 24 = .ok (.if_icmp .ge 97, 3) := by decide +kernel
theorem dX3_walk_27 : decode cX3_walk 27 = .ok (.aload_n 1, 1) := by decide +kernel
theorem dX3_walk_28 : decode cX3_walk 28 = .ok (.iload 9, 2) := by decide +kernel
theorem dX3_walk_30 : decode cX3_walk 30 = .ok (.iaload, 1) := by decide +kernel
theorem dX3_walk_31 : decode cX3_walk 31 = .ok (.istore 10, 2) := by decide +kernel
theorem dX3_walk_33 : decode cX3_walk 33 = .ok (.aload_n 0, 1) := by decide +kernel
theorem dX3_walk_34 : decode cX3_walk 34 = .ok (.getfield 15, 3) := by decide +kernel
theorem dX3_walk_37 : decode cX3_walk 37 = .ok (.iload 10, 2) := by decide +kernel
theorem dX3_walk_39 : decode cX3_walk 39 = .ok (.iaload, 1) := by decide +kernel
theorem dX3_walk_40 : decode cX3_walk 40 = .ok (.iload 8, 2) := by decide +kernel
theorem dX3_walk_42 : decode cX3_walk 42 = .ok (.invokestatic 100, 3) := by decide +kernel
theorem dX3_walk_45 : decode cX3_walk 45 = .ok (.istore 11, 2) := by decide +kernel
theorem dX3_walk_47 : decode cX3_walk 47 = .ok (.iload 11, 2) := by decide +kernel
theorem dX3_walk_49 : decode cX3_walk 49 = .ok (.aload_n 0, 1) := by decide +kernel
theorem dX3_walk_50 : decode cX3_walk 50 = .ok (.getfield 18, 3) := by decide +kernel
theorem dX3_walk_53 : decode cX3_walk 53 = .ok (.iload 10, 2) := by decide +kernel
theorem dX3_walk_55 : decode cX3_walk 55 = .ok (.iaload, 1) := by decide +kernel
theorem dX3_walk_56 : decode cX3_walk 56 = .ok (.iadd, 1) := by decide +kernel
theorem dX3_walk_57 : decode cX3_walk 57 = .ok (.istore 12, 2) := by decide +kernel
theorem dX3_walk_59 : decode cX3_walk 59 = .ok (.iload 12, 2) := by decide +kernel
theorem dX3_walk_61 : decode cX3_walk 61 = .ok (.bipush 48, 2) := by decide +kernel
theorem dX3_walk_63 : decode cX3_walk 63 = .ok (.if_icmp .le 5, 3) := by decide +kernel
theorem dX3_walk_66 : decode cX3_walk 66 = .ok (.iconst 0, 1) := by decide +kernel
theorem dX3_walk_67 : decode cX3_walk 67 = .ok (.ireturn, 1) := by decide +kernel
theorem dX3_walk_68 : decode cX3_walk 68 = .ok (.aload_n 0, 1) := by decide +kernel
theorem dX3_walk_69 : decode cX3_walk 69 = .ok (.getfield 27, 3) := by decide +kernel
theorem dX3_walk_72 : decode cX3_walk 72 = .ok (.iload 9, 2) := by decide +kernel
theorem dX3_walk_74 : decode cX3_walk 74 = .ok (.iload 11, 2) := by decide +kernel
theorem dX3_walk_76 : decode cX3_walk 76 = .ok (.iastore, 1) := by decide +kernel
theorem dX3_walk_77 : decode cX3_walk 77 = .ok (.lload 4, 2) := by decide +kernel
theorem dX3_walk_79 : decode cX3_walk 79 = .ok (.iload 11, 2) := by decide +kernel
theorem dX3_walk_81 : decode cX3_walk 81 = .ok (.iload 12, 2) := by decide +kernel
theorem dX3_walk_83 : decode cX3_walk 83 = .ok (.invokestatic 62, 3) := by decide +kernel
theorem dX3_walk_86 : decode cX3_walk 86 = .ok (.lor, 1) := by decide +kernel
theorem dX3_walk_87 : decode cX3_walk 87 = .ok (.lstore 4, 2) := by decide +kernel
theorem dX3_walk_89 : decode cX3_walk 89 = .ok (.lload 6, 2) := by decide +kernel
theorem dX3_walk_91 : decode cX3_walk 91 = .ok (.aload_n 0, 1) := by decide +kernel
theorem dX3_walk_92 : decode cX3_walk 92 = .ok (.getfield 15, 3) := by decide +kernel
theorem dX3_walk_95 : decode cX3_walk 95 = .ok (.iload 10, 2) := by decide +kernel
theorem dX3_walk_97 : decode cX3_walk 97 = .ok (.iaload, 1) := by decide +kernel
theorem dX3_walk_98 : decode cX3_walk 98 = .ok (.iload 11, 2) := by decide +kernel
theorem dX3_walk_100 : decode cX3_walk 100 = .ok (.invokestatic 62, 3) := by decide +kernel
theorem dX3_walk_103 : decode cX3_walk 103 = .ok (.lor, 1) := by decide +kernel
theorem dX3_walk_104 : decode cX3_walk 104 = .ok (.lstore 6, 2) := by decide +kernel
theorem dX3_walk_106 : decode cX3_walk 106 = .ok (.iload 12, 2) := by decide +kernel
theorem dX3_walk_108 : decode cX3_walk 108 = .ok (.aload_n 0, 1) := by decide +kernel
theorem dX3_walk_109 : decode cX3_walk 109 = .ok (.getfield 50, 3) := by decide +kernel
theorem dX3_walk_112 : decode cX3_walk 112 = .ok (.iadd, 1) := by decide +kernel
theorem dX3_walk_113 : decode cX3_walk 113 = .ok (.istore 8, 2) := by decide +kernel
theorem dX3_walk_115 : decode cX3_walk 115 = .ok (.iinc 9 1, 3) := by decide +kernel
theorem dX3_walk_118 : decode cX3_walk 118 = .ok (.goto (-100), 3) := by decide +kernel
theorem dX3_walk_121 : decode cX3_walk 121 = .ok (.aload_n 0, 1) := by decide +kernel
theorem dX3_walk_122 : decode cX3_walk 122 = .ok (.lload 6, 2) := by decide +kernel
theorem dX3_walk_124 : decode cX3_walk 124 = .ok (.lload 4, 2) := by decide +kernel
theorem dX3_walk_126 : decode cX3_walk 126 = .ok (.ldc2_w 105, 3) := by decide +kernel
theorem dX3_walk_129 : decode cX3_walk 129 = .ok (.lxor, 1) := by decide +kernel
theorem dX3_walk_130 : decode cX3_walk 130 = .ok (.land, 1) := by decide +kernel
theorem dX3_walk_131 : decode cX3_walk 131 = .ok (.putfield 40, 3) := by decide +kernel
theorem dX3_walk_134 : decode cX3_walk 134 = .ok (.iconst 1, 1) := by decide +kernel
theorem dX3_walk_135 : decode cX3_walk 135 = .ok (.ireturn, 1) := by decide +kernel
theorem dX3_measured_0 : decode cX3_measured 0 = .ok (.iload_n 1, 1) := by decide +kernel
theorem dX3_measured_1 : decode cX3_measured 1 = .ok (.ifCond .ne 11, 3) := by decide +kernel
theorem dX3_measured_4 : decode cX3_measured 4 = .ok (.aload_n 0, 1) := by decide +kernel
theorem dX3_measured_5 : decode cX3_measured 5 = .ok (.getfield 40, 3) := by decide +kernel
theorem dX3_measured_8 : decode cX3_measured 8 = .ok (.invokestatic 107, 3) := by decide +kernel
theorem dX3_measured_11 : decode cX3_measured 11 = .ok (.ireturn, 1) := by decide +kernel
theorem dX3_measured_12 : decode cX3_measured 12 = .ok (.iconst 0, 1) := by decide +kernel
theorem dX3_measured_13 : decode cX3_measured 13 = .ok (.istore_n 2, 1) := by decide +kernel
theorem dX3_measured_14 : decode cX3_measured 14 = .ok (.iconst 0, 1) := by decide +kernel
theorem dX3_measured_15 : decode cX3_measured 15 = .ok (.istore_n 3, 1) := by decide +kernel
theorem dX3_measured_16 : decode cX3_measured 16 = .ok (.iload_n 3, 1) := by decide +kernel
theorem dX3_measured_17 : decode cX3_measured 17 = .ok (.aload_n 0, 1) := by decide +kernel
theorem dX3_measured_18 : decode cX3_measured 18 = .ok (.getfield 30, 3) := by decide +kernel
theorem dX3_measured_21 : decode cX3_measured 21 = .ok (.if_icmp .ge 55, 3) := by decide +kernel
theorem dX3_measured_24 : decode cX3_measured 24 = .ok (.aload_n 0, 1) := by decide +kernel
theorem dX3_measured_25 : decode cX3_measured 25 = .ok (.getfield 27, 3) := by decide +kernel
theorem dX3_measured_28 : decode cX3_measured 28 = .ok (.iload_n 3, 1) := by decide +kernel
theorem dX3_measured_29 : decode cX3_measured 29 = .ok (.iaload, 1) := by decide +kernel
theorem dX3_measured_30 : decode cX3_measured 30 = .ok (.aload_n 0, 1) := by decide +kernel
theorem dX3_measured_31 : decode cX3_measured 31 = .ok (.getfield 15, 3) := by decide +kernel
theorem dX3_measured_34 : decode cX3_measured 34 = .ok (.aload_n 0, 1) := by decide +kernel
theorem dX3_measured_35 : decode cX3_measured 35 = .ok (.getfield 21, 3) := by decide +kernel
theorem dX3_measured_38 : decode cX3_measured 38 = .ok (.iload_n 3, 1) := by decide +kernel
theorem dX3_measured_39 : decode cX3_measured 39 = .ok (.iaload, 1) := by decide +kernel
theorem dX3_measured_40 : decode cX3_measured 40 = .ok (.iaload, 1) := by decide +kernel
theorem dX3_measured_41 : decode cX3_measured 41 = .ok (.isub, 1) := by decide +kernel
theorem dX3_measured_42 : decode cX3_measured 42 = .ok (.istore 4, 2) := by decide +kernel
theorem dX3_measured_44 : decode cX3_measured 44 = .ok (.iload_n 1, 1) := by decide +kernel
theorem dX3_measured_45 : decode cX3_measured 45 = .ok (.iload_n 2, 1) := by decide +kernel
theorem dX3_measured_46 : decode cX3_measured 46 = .ok (.iload 4, 2) := by decide +kernel
theorem dX3_measured_48 : decode cX3_measured 48 = .ok (.aload_n 0, 1) := by decide +kernel
theorem dX3_measured_49 : decode cX3_measured 49 = .ok (.getfield 27, 3) := by decide +kernel
theorem dX3_measured_52 : decode cX3_measured 52 = .ok (.iload_n 3, 1) := by decide +kernel
theorem dX3_measured_53 : decode cX3_measured 53 = .ok (.iaload, 1) := by decide +kernel
theorem dX3_measured_54 : decode cX3_measured 54 = .ok (.aload_n 0, 1) := by decide +kernel
theorem dX3_measured_55 : decode cX3_measured 55 = .ok (.getfield 18, 3) := by decide +kernel
theorem dX3_measured_58 : decode cX3_measured 58 = .ok (.aload_n 0, 1) := by decide +kernel
theorem dX3_measured_59 : decode cX3_measured 59 = .ok (.getfield 21, 3) := by decide +kernel
theorem dX3_measured_62 : decode cX3_measured 62 = .ok (.iload_n 3, 1) := by decide +kernel
theorem dX3_measured_63 : decode cX3_measured 63 = .ok (.iaload, 1) := by decide +kernel
theorem dX3_measured_64 : decode cX3_measured 64 = .ok (.iaload, 1) := by decide +kernel
theorem dX3_measured_65 : decode cX3_measured 65 = .ok (.iadd, 1) := by decide +kernel
theorem dX3_measured_66 : decode cX3_measured 66 = .ok (.invokestatic 113, 3) := by decide +kernel
theorem dX3_measured_69 : decode cX3_measured 69 = .ok (.istore_n 2, 1) := by decide +kernel
theorem dX3_measured_70 : decode cX3_measured 70 = .ok (.iinc 3 1, 3) := by decide +kernel
theorem dX3_measured_73 : decode cX3_measured 73 = .ok (.goto (-57), 3) := by decide +kernel
theorem dX3_measured_76 : decode cX3_measured 76 = .ok (.iload_n 2, 1) := by decide +kernel
theorem dX3_measured_77 : decode cX3_measured 77 = .ok (.ireturn, 1) := by decide +kernel
theorem dX3_join_0 : decode cX3_join 0 = .ok (.iload_n 0, 1) := by decide +kernel
theorem dX3_join_1 : decode cX3_join 1 = .ok (.tableswitch 45 1 3 #[27, 29, 33], 27) := by decide +kernel
theorem dX3_join_28 : decode cX3_join 28 = .ok (.iload_n 3, 1) := by decide +kernel
theorem dX3_join_29 : decode cX3_join 29 = .ok (.ireturn, 1) := by decide +kernel
theorem dX3_join_30 : decode cX3_join 30 = .ok (.iload_n 1, 1) := by decide +kernel
theorem dX3_join_31 : decode cX3_join 31 = .ok (.iload_n 2, 1) := by decide +kernel
theorem dX3_join_32 : decode cX3_join 32 = .ok (.iadd, 1) := by decide +kernel
theorem dX3_join_33 : decode cX3_join 33 = .ok (.ireturn, 1) := by decide +kernel
theorem dX3_join_34 : decode cX3_join 34 = .ok (.iload_n 1, 1) := by decide +kernel
theorem dX3_join_35 : decode cX3_join 35 = .ok (.iload_n 2, 1) := by decide +kernel
theorem dX3_join_36 : decode cX3_join 36 = .ok (.ifCond .le 7, 3) := by decide +kernel
theorem dX3_join_39 : decode cX3_join 39 = .ok (.iconst 1, 1) := by decide +kernel
theorem dX3_join_40 : decode cX3_join 40 = .ok (.goto 4, 3) := by decide +kernel
theorem dX3_join_43 : decode cX3_join 43 = .ok (.iconst 0, 1) := by decide +kernel
theorem dX3_join_44 : decode cX3_join 44 = .ok (.iadd, 1) := by decide +kernel
theorem dX3_join_45 : decode cX3_join 45 = .ok (.ireturn, 1) := by decide +kernel
theorem dX3_join_46 : decode cX3_join 46 = .ok (.iload_n 1, 1) := by decide +kernel
theorem dX3_join_47 : decode cX3_join 47 = .ok (.iload_n 2, 1) := by decide +kernel
theorem dX3_join_48 : decode cX3_join 48 = .ok (.if_icmp .le 7, 3) := by decide +kernel
theorem dX3_join_51 : decode cX3_join 51 = .ok (.iload_n 1, 1) := by decide +kernel
theorem dX3_join_52 : decode cX3_join 52 = .ok (.goto 4, 3) := by decide +kernel
theorem dX3_join_55 : decode cX3_join 55 = .ok (.iload_n 2, 1) := by decide +kernel
theorem dX3_join_56 : decode cX3_join 56 = .ok (.ireturn, 1) := by decide +kernel
theorem dX3_nextRow_0 : decode cX3_nextRow 0 = .ok (.aload_n 0, 1) := by decide +kernel
theorem dX3_nextRow_1 : decode cX3_nextRow 1 = .ok (.getfield 30, 3) := by decide +kernel
theorem dX3_nextRow_4 : decode cX3_nextRow 4 = .ok (.iconst 2, 1) := by decide +kernel
theorem dX3_nextRow_5 : decode cX3_nextRow 5 = .ok (.isub, 1) := by decide +kernel
theorem dX3_nextRow_6 : decode cX3_nextRow 6 = .ok (.istore_n 1, 1) := by decide +kernel
theorem dX3_nextRow_7 : decode cX3_nextRow 7 = .ok (.iload_n 1, 1) := by decide +kernel
theorem dX3_nextRow_8 : decode cX3_nextRow 8 = .ok (.ifCond .lt 26, 3) := by decide +kernel
theorem dX3_nextRow_11 : decode cX3_nextRow 11 = .ok (.aload_n 0, 1) := by decide +kernel
theorem dX3_nextRow_12 : decode cX3_nextRow 12 = .ok (.getfield 21, 3) := by decide +kernel
theorem dX3_nextRow_15 : decode cX3_nextRow 15 = .ok (.iload_n 1, 1) := by decide +kernel
theorem dX3_nextRow_16 : decode cX3_nextRow 16 = .ok (.iaload, 1) := by decide +kernel
theorem dX3_nextRow_17 : decode cX3_nextRow 17 = .ok (.aload_n 0, 1) := by decide +kernel
theorem dX3_nextRow_18 : decode cX3_nextRow 18 = .ok (.getfield 21, 3) := by decide +kernel
theorem dX3_nextRow_21 : decode cX3_nextRow 21 = .ok (.iload_n 1, 1) := by decide +kernel
theorem dX3_nextRow_22 : decode cX3_nextRow 22 = .ok (.iconst 1, 1) := by decide +kernel
theorem dX3_nextRow_23 : decode cX3_nextRow 23 = .ok (.iadd, 1) := by decide +kernel
theorem dX3_nextRow_24 : decode cX3_nextRow 24 = .ok (.iaload, 1) := by decide +kernel
theorem dX3_nextRow_25 : decode cX3_nextRow 25 = .ok (.if_icmp .le 9, 3) := by decide +kernel
theorem dX3_nextRow_28 : decode cX3_nextRow 28 = .ok (.iinc 1 (-1), 3) := by decide +kernel
theorem dX3_nextRow_31 : decode cX3_nextRow 31 = .ok (.goto (-24), 3) := by decide +kernel
theorem dX3_nextRow_34 : decode cX3_nextRow 34 = .ok (.iload_n 1, 1) := by decide +kernel
theorem dX3_nextRow_35 : decode cX3_nextRow 35 = .ok (.ifCond .ge 5, 3) := by decide +kernel
theorem dX3_nextRow_38 : decode cX3_nextRow 38 = .ok (.iconst 0, 1) := by decide +kernel
theorem dX3_nextRow_39 : decode cX3_nextRow 39 = .ok (.ireturn, 1) := by decide +kernel
theorem dX3_nextRow_40 : decode cX3_nextRow 40 = .ok (.aload_n 0, 1) := by decide +kernel
theorem dX3_nextRow_41 : decode cX3_nextRow 41 = .ok (.getfield 30, 3) := by decide +kernel
theorem dX3_nextRow_44 : decode cX3_nextRow 44 = .ok (.iconst 1, 1) := by decide +kernel
theorem dX3_nextRow_45 : decode cX3_nextRow 45 = .ok (.isub, 1) := by decide +kernel
theorem dX3_nextRow_46 : decode cX3_nextRow 46 = .ok (.istore_n 2, 1) := by decide +kernel
theorem dX3_nextRow_47 : decode cX3_nextRow 47 = .ok (.iload_n 2, 1) := by decide +kernel
theorem dX3_nextRow_48 : decode cX3_nextRow 48 = .ok (.iload_n 1, 1) := by decide +kernel
theorem dX3_nextRow_49 : decode cX3_nextRow 49 = .ok (.iconst 1, 1) := by decide +kernel
theorem dX3_nextRow_50 : decode cX3_nextRow 50 = .ok (.iadd, 1) := by decide +kernel
theorem dX3_nextRow_51 : decode cX3_nextRow 51 = .ok (.if_icmp .le 24, 3) := by decide +kernel
theorem dX3_nextRow_54 : decode cX3_nextRow 54 = .ok (.aload_n 0, 1) := by decide +kernel
theorem dX3_nextRow_55 : decode cX3_nextRow 55 = .ok (.getfield 21, 3) := by decide +kernel
theorem dX3_nextRow_58 : decode cX3_nextRow 58 = .ok (.iload_n 2, 1) := by decide +kernel
theorem dX3_nextRow_59 : decode cX3_nextRow 59 = .ok (.iaload, 1) := by decide +kernel
theorem dX3_nextRow_60 : decode cX3_nextRow 60 = .ok (.aload_n 0, 1) := by decide +kernel
theorem dX3_nextRow_61 : decode cX3_nextRow 61 = .ok (.getfield 21, 3) := by decide +kernel
theorem dX3_nextRow_64 : decode cX3_nextRow 64 = .ok (.iload_n 1, 1) := by decide +kernel
theorem dX3_nextRow_65 : decode cX3_nextRow 65 = .ok (.iaload, 1) := by decide +kernel
theorem dX3_nextRow_66 : decode cX3_nextRow 66 = .ok (.if_icmp .ge 9, 3) := by decide +kernel
theorem dX3_nextRow_69 : decode cX3_nextRow 69 = .ok (.iinc 2 (-1), 3) := by decide +kernel
theorem dX3_nextRow_72 : decode cX3_nextRow 72 = .ok (.goto (-25), 3) := by decide +kernel
theorem dX3_nextRow_75 : decode cX3_nextRow 75 = .ok (.aload_n 0, 1) := by decide +kernel
theorem dX3_nextRow_76 : decode cX3_nextRow 76 = .ok (.iload_n 1, 1) := by decide +kernel
theorem dX3_nextRow_77 : decode cX3_nextRow 77 = .ok (.iload_n 2, 1) := by decide +kernel
theorem dX3_nextRow_78 : decode cX3_nextRow 78 = .ok (.invokevirtual 117, 3) := by decide +kernel
theorem dX3_nextRow_81 : decode cX3_nextRow 81 = .ok (.iload_n 1, 1) := by decide +kernel
theorem dX3_nextRow_82 : decode cX3_nextRow 82 = .ok (.iconst 1, 1) := by decide +kernel
theorem dX3_nextRow_83 : decode cX3_nextRow 83 = .ok (.iadd, 1) := by decide +kernel
theorem dX3_nextRow_84 : decode cX3_nextRow 84 = .ok (.istore_n 3, 1) := by decide +kernel
theorem dX3_nextRow_85 : decode cX3_nextRow 85 = .ok (.aload_n 0, 1) := by decide +kernel
theorem dX3_nextRow_86 : decode cX3_nextRow 86 = .ok (.getfield 30, 3) := by decide +kernel
theorem dX3_nextRow_89 : decode cX3_nextRow 89 = .ok (.iconst 1, 1) := by decide +kernel
theorem dX3_nextRow_90 : decode cX3_nextRow 90 = .ok (.isub, 1) := by decide +kernel
theorem dX3_nextRow_91 : decode cX3_nextRow 91 = .ok (.istore 4, 2) := by decide +kernel
theorem dX3_nextRow_93 : decode cX3_nextRow 93 = .ok (.iload_n 3, 1) := by decide +kernel
theorem dX3_nextRow_94 : decode cX3_nextRow 94 = .ok (.iload 4, 2) := by decide +kernel
theorem dX3_nextRow_96 : decode cX3_nextRow 96 = .ok (.if_icmp .ge 19, 3) := by decide +kernel
theorem dX3_nextRow_99 : decode cX3_nextRow 99 = .ok (.aload_n 0, 1) := by decide +kernel
theorem dX3_nextRow_100 : decode cX3_nextRow 100 = .ok (.iload_n 3, 1) := by decide +kernel
theorem dX3_nextRow_101 : decode cX3_nextRow 101 = .ok (.iload 4, 2) := by decide +kernel
theorem dX3_nextRow_103 : decode cX3_nextRow 103 = .ok (.invokevirtual 117, 3) := by decide +kernel
theorem dX3_nextRow_106 : decode cX3_nextRow 106 = .ok (.iinc 3 1, 3) := by decide +kernel
theorem dX3_nextRow_109 : decode cX3_nextRow 109 = .ok (.iinc 4 (-1), 3) := by decide +kernel
theorem dX3_nextRow_112 : decode cX3_nextRow 112 = .ok (.goto (-19), 3) := by decide +kernel
theorem dX3_nextRow_115 : decode cX3_nextRow 115 = .ok (.iconst 1, 1) := by decide +kernel
theorem dX3_nextRow_116 : decode cX3_nextRow 116 = .ok (.ireturn, 1) := by decide +kernel
theorem dX3_swap_0 : decode cX3_swap 0 = .ok (.aload_n 0, 1) := by decide +kernel
theorem dX3_swap_1 : decode cX3_swap 1 = .ok (.getfield 21, 3) := by decide +kernel
theorem dX3_swap_4 : decode cX3_swap 4 = .ok (.iload_n 1, 1) := by decide +kernel
theorem dX3_swap_5 : decode cX3_swap 5 = .ok (.iaload, 1) := by decide +kernel
theorem dX3_swap_6 : decode cX3_swap 6 = .ok (.istore_n 3, 1) := by decide +kernel
theorem dX3_swap_7 : decode cX3_swap 7 = .ok (.aload_n 0, 1) := by decide +kernel
theorem dX3_swap_8 : decode cX3_swap 8 = .ok (.getfield 21, 3) := by decide +kernel
theorem dX3_swap_11 : decode cX3_swap 11 = .ok (.iload_n 1, 1) := by decide +kernel
theorem dX3_swap_12 : decode cX3_swap 12 = .ok (.aload_n 0, 1) := by decide +kernel
theorem dX3_swap_13 : decode cX3_swap 13 = .ok (.getfield 21, 3) := by decide +kernel
theorem dX3_swap_16 : decode cX3_swap 16 = .ok (.iload_n 2, 1) := by decide +kernel
theorem dX3_swap_17 : decode cX3_swap 17 = .ok (.iaload, 1) := by decide +kernel
theorem dX3_swap_18 : decode cX3_swap 18 = .ok (.iastore, 1) := by decide +kernel
theorem dX3_swap_19 : decode cX3_swap 19 = .ok (.aload_n 0, 1) := by decide +kernel
theorem dX3_swap_20 : decode cX3_swap 20 = .ok (.getfield 21, 3) := by decide +kernel
theorem dX3_swap_23 : decode cX3_swap 23 = .ok (.iload_n 2, 1) := by decide +kernel
theorem dX3_swap_24 : decode cX3_swap 24 = .ok (.iload_n 3, 1) := by decide +kernel
theorem dX3_swap_25 : decode cX3_swap 25 = .ok (.iastore, 1) := by decide +kernel
theorem dX3_swap_26 : decode cX3_swap 26 = .ok (.return_, 1) := by decide +kernel
theorem dX4_init_0 : decode cX4_init 0 = .ok (.aload_n 0, 1) := by decide +kernel
theorem dX4_init_1 : decode cX4_init 1 = .ok (.invokespecial 3, 3) := by decide +kernel
theorem dX4_init_4 : decode cX4_init 4 = .ok (.aload_n 0, 1) := by decide +kernel
theorem dX4_init_5 : decode cX4_init 5 = .ok (.new 9, 3) := by decide +kernel
theorem dX4_init_8 : decode cX4_init 8 = .ok (.dup, 1) := by decide +kernel
theorem dX4_init_9 : decode cX4_init 9 = .ok (.invokespecial 11, 3) := by decide +kernel
theorem dX4_init_12 : decode cX4_init 12 = .ok (.putfield 12, 3) := by decide +kernel
theorem dX4_init_15 : decode cX4_init 15 = .ok (.return_, 1) := by decide +kernel
theorem dX4_planWeek_0 : decode cX4_planWeek 0 = .ok (.iconst 0, 1) := by decide +kernel
theorem dX4_planWeek_1 : decode cX4_planWeek 1 = .ok (.istore 4, 2) := by decide +kernel
theorem dX4_planWeek_3 : decode cX4_planWeek 3 = .ok (.iload 4, 2) := by decide +kernel
theorem dX4_planWeek_5 : decode cX4_planWeek 5 = .ok (.iconst 5, 1) := by decide +kernel
theorem dX4_planWeek_6 : decode cX4_planWeek 6 = .ok (.if_icmp .ge 18, 3) := by decide +kernel
theorem dX4_planWeek_9 : decode cX4_planWeek 9 = .ok (.aload_n 0, 1) := by decide +kernel
theorem dX4_planWeek_10 : decode cX4_planWeek 10 = .ok (.aload_n 1, 1) := by decide +kernel
theorem dX4_planWeek_11 : decode cX4_planWeek 11 = .ok (.iload_n 2, 1) := by decide +kernel
theorem dX4_planWeek_12 : decode cX4_planWeek 12 = .ok (.iload 4, 2) := by decide +kernel
theorem dX4_planWeek_14 : decode cX4_planWeek 14 = .ok (.aload_n 3, 1) := by decide +kernel
theorem dX4_planWeek_15 : decode cX4_planWeek 15 = .ok (.invokevirtual 18, 3) := by decide +kernel
theorem dX4_planWeek_18 : decode cX4_planWeek 18 = .ok (.iinc 4 1, 3) := by decide +kernel
theorem dX4_planWeek_21 : decode cX4_planWeek 21 = .ok (.goto (-18), 3) := by decide +kernel
theorem dX4_planWeek_24 : decode cX4_planWeek 24 = .ok (.return_, 1) := by decide +kernel
theorem dX4_replan_0 : decode cX4_replan 0 = .ok (.iconst 0, 1) := by decide +kernel
theorem dX4_replan_1 : decode cX4_replan 1 = .ok (.istore 5, 2) := by decide +kernel
theorem dX4_replan_3 : decode cX4_replan 3 = .ok (.iload_n 3, 1) := by decide +kernel
theorem dX4_replan_4 : decode cX4_replan 4 = .ok (.istore 6, 2) := by decide +kernel
theorem dX4_replan_6 : decode cX4_replan 6 = .ok (.iload 6, 2) := by decide +kernel
theorem dX4_replan_8 : decode cX4_replan 8 = .ok (.iconst 5, 1) := by decide +kernel
theorem dX4_replan_9 : decode cX4_replan 9 = .ok (.if_icmp .ge 54, 3) := by decide +kernel
theorem dX4_replan_12 : decode cX4_replan 12 = .ok (.iload 5, 2) := by decide +kernel
theorem dX4_replan_14 : decode cX4_replan 14 = .ok (.ifCond .ne 49, 3) := by decide +kernel
theorem dX4_replan_17 : decode cX4_replan 17 = .ok (.aload 4, 2) := by decide +kernel
theorem dX4_replan_19 : decode cX4_replan 19 = .ok (.getfield 22, 3) := by decide +kernel
theorem dX4_replan_22 : decode cX4_replan 22 = .ok (.iload 6, 2) := by decide +kernel
theorem dX4_replan_24 : decode cX4_replan 24 = .ok (.iaload, 1) := by decide +kernel
theorem dX4_replan_25 : decode cX4_replan 25 = .ok (.istore 7, 2) := by decide +kernel
theorem dX4_replan_27 : decode cX4_replan 27 = .ok (.aload_n 0, 1) := by decide +kernel
theorem dX4_replan_28 : decode cX4_replan 28 = .ok (.aload_n 1, 1) := by decide +kernel
theorem dX4_replan_29 : decode cX4_replan 29 = .ok (.iload_n 2, 1) := by decide +kernel
theorem dX4_replan_30 : decode cX4_replan 30 = .ok (.iload 6, 2) := by decide +kernel
theorem dX4_replan_32 : decode cX4_replan 32 = .ok (.aload 4, 2) := by decide +kernel
theorem dX4_replan_34 : decode cX4_replan 34 = .ok (.invokevirtual 18, 3) := by decide +kernel
theorem dX4_replan_37 : decode cX4_replan 37 = .ok (.aload 4, 2) := by decide +kernel
theorem dX4_replan_39 : decode cX4_replan 39 = .ok (.getfield 22, 3) := by decide +kernel
theorem dX4_replan_42 : decode cX4_replan 42 = .ok (.iload 6, 2) := by decide +kernel
theorem dX4_replan_44 : decode cX4_replan 44 = .ok (.iaload, 1) := by decide +kernel
theorem dX4_replan_45 : decode cX4_replan 45 = .ok (.iload 7, 2) := by decide +kernel
theorem dX4_replan_47 : decode cX4_replan 47 = .ok (.if_icmp .ne 7, 3) := by decide +kernel
theorem dX4_replan_50 : decode cX4_replan 50 = .ok (.iconst 1, 1) := by decide +kernel
theorem dX4_replan_51 : decode cX4_replan 51 = .ok (.goto 4, 3) := by decide +kernel
theorem dX4_replan_54 : decode cX4_replan 54 = .ok (.iconst 0, 1) := by decide +kernel
theorem dX4_replan_55 : decode cX4_replan 55 = .ok (.istore 5, 2) := by decide +kernel
theorem dX4_replan_57 : decode cX4_replan 57 = .ok (.iinc 6 1, 3) := by decide +kernel
theorem dX4_replan_60 : decode cX4_replan 60 = .ok (.goto (-54), 3) := by decide +kernel
theorem dX4_replan_63 : decode cX4_replan 63 = .ok (.return_, 1) := by decide +kernel
theorem dX4_planDay_0 : decode cX4_planDay 0 = .ok (.aload 4, 2) := by decide +kernel
theorem dX4_planDay_2 : decode cX4_planDay 2 = .ok (.iload_n 3, 1) := by decide +kernel
theorem dX4_planDay_3 : decode cX4_planDay 3 = .ok (.invokevirtual 28, 3) := by decide +kernel
theorem dX4_planDay_6 : decode cX4_planDay 6 = .ok (.istore 5, 2) := by decide +kernel
theorem dX4_planDay_8 : decode cX4_planDay 8 = .ok (.iload 5, 2) := by decide +kernel
theorem dX4_planDay_10 : decode cX4_planDay 10 = .ok (.iconst (-1), 1) := by decide +kernel
theorem dX4_planDay_11 : decode cX4_planDay 11 = .ok (.if_icmp .ne 7, 3) := by decide +kernel
theorem dX4_planDay_14 : decode cX4_planDay 14 = .ok (.iconst 0, 1) := by decide +kernel
theorem dX4_planDay_15 : decode cX4_planDay 15 = .ok (.goto 10, 3) := by decide +kernel
theorem dX4_planDay_18 : decode cX4_planDay 18 = .ok (.aload_n 1, 1) := by decide +kernel
theorem dX4_planDay_19 : decode cX4_planDay 19 = .ok (.iload_n 2, 1) := by decide +kernel
theorem dX4_planDay_20 : decode cX4_planDay 20 = .ok (.iload 5, 2) := by decide +kernel
theorem dX4_planDay_22 : decode cX4_planDay 22 = .ok (.invokevirtual 32, 3) := by decide +kernel
theorem dX4_planDay_25 : decode cX4_planDay 25 = .ok (.istore 6, 2) := by decide +kernel
theorem dX4_planDay_27 : decode cX4_planDay 27 = .ok (.iload 5, 2) := by decide +kernel
theorem dX4_planDay_29 : decode cX4_planDay 29 = .ok (.iconst (-1), 1) := by decide +kernel
theorem dX4_planDay_30 : decode cX4_planDay 30 = .ok (.if_icmp .ne 7, 3) := by decide +kernel
theorem dX4_planDay_33 : decode cX4_planDay 33 = .ok (.iconst 0, 1) := by decide +kernel
theorem dX4_planDay_34 : decode cX4_planDay 34 = .ok (.goto 11, 3) := by decide +kernel
theorem dX4_planDay_37 : decode cX4_planDay 37 = .ok (.iload 6, 2) := by decide +kernel
theorem dX4_planDay_39 : decode cX4_planDay 39 = .ok (.aload_n 1, 1) := by decide +kernel
theorem dX4_planDay_40 : decode cX4_planDay 40 = .ok (.iload_n 2, 1) := by decide +kernel
theorem dX4_planDay_41 : decode cX4_planDay 41 = .ok (.invokevirtual 38, 3) := by decide +kernel
theorem dX4_planDay_44 : decode cX4_planDay 44 = .ok (.iadd, 1) := by decide +kernel
theorem dX4_planDay_45 : decode cX4_planDay 45 = .ok (.istore 7, 2) := by decide +kernel
theorem dX4_planDay_47 : decode cX4_planDay 47 = .ok (.aload 4, 2) := by decide +kernel
theorem dX4_planDay_49 : decode cX4_planDay 49 = .ok (.iload_n 3, 1) := by decide +kernel
theorem dX4_planDay_50 : decode cX4_planDay 50 = .ok (.iload 7, 2) := by decide +kernel
theorem dX4_planDay_52 : decode cX4_planDay 52 = .ok (.iload 6, 2) := by decide +kernel
theorem dX4_planDay_54 : decode cX4_planDay 54 = .ok (.invokevirtual 41, 3) := by decide +kernel
theorem dX4_planDay_57 : decode cX4_planDay 57 = .ok (.aload_n 1, 1) := by decide +kernel
theorem dX4_planDay_58 : decode cX4_planDay 58 = .ok (.getfield 45, 3) := by decide +kernel
theorem dX4_planDay_61 : decode cX4_planDay 61 = .ok (.iload_n 2, 1) := by decide +kernel
theorem dX4_planDay_62 : decode cX4_planDay 62 = .ok (.iaload, 1) := by decide +kernel
theorem dX4_planDay_63 : decode cX4_planDay 63 = .ok (.aload_n 1, 1) := by decide +kernel
theorem dX4_planDay_64 : decode cX4_planDay 64 = .ok (.iload_n 3, 1) := by decide +kernel
theorem dX4_planDay_65 : decode cX4_planDay 65 = .ok (.invokevirtual 48, 3) := by decide +kernel
theorem dX4_planDay_68 : decode cX4_planDay 68 = .ok (.iand, 1) := by decide +kernel
theorem dX4_planDay_69 : decode cX4_planDay 69 = .ok (.istore 8, 2) := by decide +kernel
theorem dX4_planDay_71 : decode cX4_planDay 71 = .ok (.aload_n 0, 1) := by decide +kernel
theorem dX4_planDay_72 : decode cX4_planDay 72 = .ok (.getfield 12, 3) := by decide +kernel
theorem dX4_planDay_75 : decode cX4_planDay 75 = .ok (.aload_n 1, 1) := by decide +kernel
theorem dX4_planDay_76 : decode cX4_planDay 76 = .ok (.iload_n 2, 1) := by decide +kernel
theorem dX4_planDay_77 : decode cX4_planDay 77 = .ok (.iload 8, 2) := by decide +kernel
theorem dX4_planDay_79 : decode cX4_planDay 79 = .ok (.iload 7, 2) := by decide +kernel
theorem dX4_planDay_81 : decode cX4_planDay 81 = .ok (.iload 6, 2) := by decide +kernel
theorem dX4_planDay_83 : decode cX4_planDay 83 = .ok (.invokevirtual 51, 3) := by decide +kernel
theorem dX4_planDay_86 : decode cX4_planDay 86 = .ok (.aload_n 0, 1) := by decide +kernel
theorem dX4_planDay_87 : decode cX4_planDay 87 = .ok (.getfield 12, 3) := by decide +kernel
theorem dX4_planDay_90 : decode cX4_planDay 90 = .ok (.iconst 0, 1) := by decide +kernel
theorem dX4_planDay_91 : decode cX4_planDay 91 = .ok (.lconst 0, 1) := by decide +kernel
theorem dX4_planDay_92 : decode cX4_planDay 92 = .ok (.invokevirtual 55, 3) := by decide +kernel
theorem dX4_planDay_95 : decode cX4_planDay 95 = .ok (.ifCond .eq 15, 3) := by decide +kernel
theorem dX4_planDay_98 : decode cX4_planDay 98 = .ok (.aload 4, 2) := by decide +kernel
theorem dX4_planDay_100 : decode cX4_planDay 100 = .ok (.iload_n 3, 1) := by decide +kernel
theorem dX4_planDay_101 : decode cX4_planDay 101 = .ok (.aload_n 0, 1) := by decide +kernel
theorem dX4_planDay_102 : decode cX4_planDay 102 = .ok (.getfield 12, 3) := by decide +kernel
theorem dX4_planDay_105 : decode cX4_planDay 105 = .ok (.iconst (-1), 1) := by decide +kernel
theorem dX4_planDay_106 : decode cX4_planDay 106 = .ok (.invokevirtual 59, 3) := by decide +kernel
theorem dX4_planDay_109 : decode cX4_planDay 109 = .ok (.return_, 1) := by decide +kernel
theorem dX4_planDay_110 : decode cX4_planDay 110 = .ok (.aload_n 1, 1) := by decide +kernel
theorem dX4_planDay_111 : decode cX4_planDay 111 = .ok (.getfield 63, 3) := by decide +kernel
theorem dX4_planDay_114 : decode cX4_planDay 114 = .ok (.iload_n 2, 1) := by decide +kernel
theorem dX4_planDay_115 : decode cX4_planDay 115 = .ok (.iaload, 1) := by decide +kernel
theorem dX4_planDay_116 : decode cX4_planDay 116 = .ok (.ifCond .eq 8, 3) := by decide +kernel
theorem dX4_planDay_119 : decode cX4_planDay 119 = .ok (.iload_n 3, 1) := by decide +kernel
theorem dX4_planDay_120 : decode cX4_planDay 120 = .ok (.iconst 4, 1) := by decide +kernel
theorem dX4_planDay_121 : decode cX4_planDay 121 = .ok (.if_icmp .ne 4, 3) := by decide +kernel
theorem dX4_planDay_124 : decode cX4_planDay 124 = .ok (.return_, 1) := by decide +kernel
theorem dX4_planDay_125 : decode cX4_planDay 125 = .ok (.iconst 0, 1) := by decide +kernel
theorem dX4_planDay_126 : decode cX4_planDay 126 = .ok (.istore 9, 2) := by decide +kernel
theorem dX4_planDay_128 : decode cX4_planDay 128 = .ok (.iconst 0, 1) := by decide +kernel
theorem dX4_planDay_129 : decode cX4_planDay 129 = .ok (.istore 10, 2) := by decide +kernel
theorem dX4_planDay_131 : decode cX4_planDay 131 = .ok (.iload 10, 2) := by decide +kernel
theorem dX4_planDay_133 : decode cX4_planDay 133 = .ok (.aload_n 1, 1) := by decide +kernel
theorem dX4_planDay_134 : decode cX4_planDay 134 = .ok (.getfield 66, 3) := by decide +kernel
theorem dX4_planDay_137 : decode cX4_planDay 137 = .ok (.if_icmp .ge 130, 3) := by decide +kernel
theorem dX4_planDay_140 : decode cX4_planDay 140 = .ok (.iload 8, 2) := by decide +kernel
theorem dX4_planDay_142 : decode cX4_planDay 142 = .ok (.iload 10, 2) := by decide +kernel
theorem dX4_planDay_144 : decode cX4_planDay 144 = .ok (.invokestatic 70, 3) := by decide +kernel
theorem dX4_planDay_147 : decode cX4_planDay 147 = .ok (.ifCond .eq 114, 3) := by decide +kernel
theorem dX4_planDay_150 : decode cX4_planDay 150 = .ok (.aload_n 1, 1) := by decide +kernel
theorem dX4_planDay_151 : decode cX4_planDay 151 = .ok (.iload_n 2, 1) := by decide +kernel
theorem dX4_planDay_152 : decode cX4_planDay 152 = .ok (.iload 10, 2) := by decide +kernel
theorem dX4_planDay_154 : decode cX4_planDay 154 = .ok (.invokevirtual 32, 3) := by decide +kernel
theorem dX4_planDay_157 : decode cX4_planDay 157 = .ok (.bipush 48, 2) := by decide +kernel
theorem dX4_planDay_159 : decode cX4_planDay 159 = .ok (.aload_n 1, 1) := by decide +kernel
theorem dX4_planDay_160 : decode cX4_planDay 160 = .ok (.getfield 74, 3) := by decide +kernel
theorem dX4_planDay_163 : decode cX4_planDay 163 = .ok (.invokestatic 77, 3) := by decide +kernel
theorem dX4_planDay_166 : decode cX4_planDay 166 = .ok (.if_icmp .gt 95, 3) := by decide +kernel
theorem dX4_planDay_169 : decode cX4_planDay 169 = .ok (.aload_n 0, 1) := by decide +kernel
theorem dX4_planDay_170 : decode cX4_planDay 170 = .ok (.getfield 12, 3) := by decide +kernel
theorem dX4_planDay_173 : decode cX4_planDay 173 = .ok (.aload_n 1, 1) := by decide +kernel
theorem dX4_planDay_174 : decode cX4_planDay 174 = .ok (.iload_n 2, 1) := by decide +kernel
theorem dX4_planDay_175 : decode cX4_planDay 175 = .ok (.iload 8, 2) := by decide +kernel
theorem dX4_planDay_177 : decode cX4_planDay 177 = .ok (.iconst 1, 1) := by decide +kernel
theorem dX4_planDay_178 : decode cX4_planDay 178 = .ok (.iload 10, 2) := by decide +kernel
theorem dX4_planDay_180 : decode cX4_planDay 180 = .ok (.ishl, 1) := by decide +kernel
theorem dX4_planDay_181 : decode cX4_planDay 181 = .ok (.iconst (-1), 1) := by decide +kernel
theorem dX4_planDay_182 : decode cX4_planDay 182 = .ok (.ixor, 1) := by decide +kernel
theorem dX4_planDay_183 : decode cX4_planDay 183 = .ok (.iand, 1) := by decide +kernel
theorem dX4_planDay_184 : decode cX4_planDay 184 = .ok (.iload 7, 2) := by decide +kernel
theorem dX4_planDay_186 : decode cX4_planDay 186 = .ok (.iload 6, 2) := by decide +kernel
theorem dX4_planDay_188 : decode cX4_planDay 188 = .ok (.invokevirtual 51, 3) := by decide +kernel
theorem dX4_planDay_191 : decode cX4_planDay 191 = .ok (.aload_n 0, 1) := by decide +kernel
theorem dX4_planDay_192 : decode cX4_planDay 192 = .ok (.getfield 12, 3) := by decide +kernel
theorem dX4_planDay_195 : decode cX4_planDay 195 = .ok (.iconst 0, 1) := by decide +kernel
theorem dX4_planDay_196 : decode cX4_planDay 196 = .ok (.aload_n 1, 1) := by decide +kernel
theorem dX4_planDay_197 : decode cX4_planDay 197 = .ok (.getfield 82, 3) := by decide +kernel
theorem dX4_planDay_200 : decode cX4_planDay 200 = .ok (.iload 10, 2) := by decide +kernel
theorem dX4_planDay_202 : decode cX4_planDay 202 = .ok (.iaload, 1) := by decide +kernel
theorem dX4_planDay_203 : decode cX4_planDay 203 = .ok (.bipush 48, 2) := by decide +kernel
theorem dX4_planDay_205 : decode cX4_planDay 205 = .ok (.invokestatic 85, 3) := by decide +kernel
theorem dX4_planDay_208 : decode cX4_planDay 208 = .ok (.invokevirtual 55, 3) := by decide +kernel
theorem dX4_planDay_211 : decode cX4_planDay 211 = .ok (.istore 11, 2) := by decide +kernel
theorem dX4_planDay_213 : decode cX4_planDay 213 = .ok (.iload 11, 2) := by decide +kernel
theorem dX4_planDay_215 : decode cX4_planDay 215 = .ok (.ifCond .eq 46, 3) := by decide +kernel
theorem dX4_planDay_218 : decode cX4_planDay 218 = .ok (.aload 4, 2) := by decide +kernel
theorem dX4_planDay_220 : decode cX4_planDay 220 = .ok (.getfield 89, 3) := by decide +kernel
theorem dX4_planDay_223 : decode cX4_planDay 223 = .ok (.iload_n 3, 1) := by decide +kernel
theorem dX4_planDay_224 : decode cX4_planDay 224 = .ok (.baload, 1) := by decide +kernel
theorem dX4_planDay_225 : decode cX4_planDay 225 = .ok (.ifCond .eq 15, 3) := by decide +kernel
theorem dX4_planDay_228 : decode cX4_planDay 228 = .ok (.aload_n 0, 1) := by decide +kernel
theorem dX4_planDay_229 : decode cX4_planDay 229 = .ok (.getfield 12, 3) := by decide +kernel
theorem dX4_planDay_232 : decode cX4_planDay 232 = .ok (.invokevirtual 93, 3) := by decide +kernel
theorem dX4_planDay_235 : decode cX4_planDay 235 = .ok (.iload 9, 2) := by decide +kernel
theorem dX4_planDay_237 : decode cX4_planDay 237 = .ok (.if_icmp .ge 24, 3) := by decide +kernel
theorem dX4_planDay_240 : decode cX4_planDay 240 = .ok (.aload_n 0, 1) := by decide +kernel
theorem dX4_planDay_241 : decode cX4_planDay 241 = .ok (.getfield 12, 3) := by decide +kernel
theorem dX4_planDay_244 : decode cX4_planDay 244 = .ok (.invokevirtual 93, 3) := by decide +kernel
theorem dX4_planDay_247 : decode cX4_planDay 247 = .ok (.istore 9, 2) := by decide +kernel
theorem dX4_planDay_249 : decode cX4_planDay 249 = .ok (.aload 4, 2) := by decide +kernel
theorem dX4_planDay_251 : decode cX4_planDay 251 = .ok (.iload_n 3, 1) := by decide +kernel
theorem dX4_planDay_252 : decode cX4_planDay 252 = .ok (.aload_n 0, 1) := by decide +kernel
theorem dX4_planDay_253 : decode cX4_planDay 253 = .ok (.getfield 12, 3) := by decide +kernel
theorem dX4_planDay_256 : decode cX4_planDay 256 = .ok (.iload 10, 2) := by decide +kernel
theorem dX4_planDay_258 : decode cX4_planDay 258 = .ok (.invokevirtual 59, 3) := by decide +kernel
theorem dX4_planDay_261 : decode cX4_planDay 261 = .ok (.iinc 10 1, 3) := by decide +kernel
theorem dX4_planDay_264 : decode cX4_planDay 264 = .ok (.goto (-133), 3) := by decide +kernel
theorem dX4_planDay_267 : decode cX4_planDay 267 = .ok (.return_, 1) := by decide +kernel
theorem dX4_ordersOf_0 : decode cX4_ordersOf 0 = .ok (.aload_n 1, 1) := by decide +kernel
theorem dX4_ordersOf_1 : decode cX4_ordersOf 1 = .ok (.getfield 45, 3) := by decide +kernel
theorem dX4_ordersOf_4 : decode cX4_ordersOf 4 = .ok (.iload_n 2, 1) := by decide +kernel
theorem dX4_ordersOf_5 : decode cX4_ordersOf 5 = .ok (.iaload, 1) := by decide +kernel
theorem dX4_ordersOf_6 : decode cX4_ordersOf 6 = .ok (.aload_n 1, 1) := by decide +kernel
theorem dX4_ordersOf_7 : decode cX4_ordersOf 7 = .ok (.iload_n 3, 1) := by decide +kernel
theorem dX4_ordersOf_8 : decode cX4_ordersOf 8 = .ok (.invokevirtual 48, 3) := by decide +kernel
theorem dX4_ordersOf_11 : decode cX4_ordersOf 11 = .ok (.iand, 1) := by decide +kernel
theorem dX4_ordersOf_12 : decode cX4_ordersOf 12 = .ok (.istore 5, 2) := by decide +kernel
theorem dX4_ordersOf_14 : decode cX4_ordersOf 14 = .ok (.aload_n 0, 1) := by decide +kernel
theorem dX4_ordersOf_15 : decode cX4_ordersOf 15 = .ok (.getfield 12, 3) := by decide +kernel
theorem dX4_ordersOf_18 : decode cX4_ordersOf 18 = .ok (.aload_n 1, 1) := by decide +kernel
theorem dX4_ordersOf_19 : decode cX4_ordersOf 19 = .ok (.iload_n 2, 1) := by decide +kernel
theorem dX4_ordersOf_20 : decode cX4_ordersOf 20 = .ok (.iload 5, 2) := by decide +kernel
theorem dX4_ordersOf_22 : decode cX4_ordersOf 22 = .ok (.aload 4, 2) := by decide +kernel
theorem dX4_ordersOf_24 : decode cX4_ordersOf 24 = .ok (.getfield 97, 3) := by decide +kernel
theorem dX4_ordersOf_27 : decode cX4_ordersOf 27 = .ok (.iload_n 3, 1) := by decide +kernel
theorem dX4_ordersOf_28 : decode cX4_ordersOf 28 = .ok (.iaload, 1) := by decide +kernel
theorem dX4_ordersOf_29 : decode cX4_ordersOf 29 = .ok (.aload 4, 2) := by decide +kernel
theorem dX4_ordersOf_31 : decode cX4_ordersOf 31 = .ok (.getfield 100, 3) := by decide +kernel
theorem dX4_ordersOf_34 : decode cX4_ordersOf 34 = .ok (.iload_n 3, 1) := by decide +kernel
theorem dX4_ordersOf_35 : decode cX4_ordersOf 35 = .ok (.iaload, 1) := by decide +kernel
theorem dX4_ordersOf_36 : decode cX4_ordersOf 36 = .ok (.invokevirtual 51, 3) := by decide +kernel
theorem dX4_ordersOf_39 : decode cX4_ordersOf 39 = .ok (.aload_n 0, 1) := by decide +kernel
theorem dX4_ordersOf_40 : decode cX4_ordersOf 40 = .ok (.getfield 12, 3) := by decide +kernel
theorem dX4_ordersOf_43 : decode cX4_ordersOf 43 = .ok (.areturn, 1) := by decide +kernel
theorem dX4_clash_0 : decode cX4_clash 0 = .ok (.aload_n 1, 1) := by decide +kernel
theorem dX4_clash_1 : decode cX4_clash 1 = .ok (.getfield 45, 3) := by decide +kernel
theorem dX4_clash_4 : decode cX4_clash 4 = .ok (.iload_n 2, 1) := by decide +kernel
theorem dX4_clash_5 : decode cX4_clash 5 = .ok (.iaload, 1) := by decide +kernel
theorem dX4_clash_6 : decode cX4_clash 6 = .ok (.aload_n 1, 1) := by decide +kernel
theorem dX4_clash_7 : decode cX4_clash 7 = .ok (.iload_n 3, 1) := by decide +kernel
theorem dX4_clash_8 : decode cX4_clash 8 = .ok (.invokevirtual 48, 3) := by decide +kernel
theorem dX4_clash_11 : decode cX4_clash 11 = .ok (.iand, 1) := by decide +kernel
theorem dX4_clash_12 : decode cX4_clash 12 = .ok (.istore 5, 2) := by decide +kernel
theorem dX4_clash_14 : decode cX4_clash 14 = .ok (.iconst 0, 1) := by decide +kernel
theorem dX4_clash_15 : decode cX4_clash 15 = .ok (.istore 6, 2) := by decide +kernel
theorem dX4_clash_17 : decode cX4_clash 17 = .ok (.iconst 5, 1) := by decide +kernel
theorem dX4_clash_18 : decode cX4_clash 18 = .ok (.istore 7, 2) := by decide +kernel
theorem dX4_clash_20 : decode cX4_clash 20 = .ok (.iconst 1, 1) := by decide +kernel
theorem dX4_clash_21 : decode cX4_clash 21 = .ok (.istore 8, 2) := by decide +kernel
theorem dX4_clash_23 : decode cX4_clash 23 = .ok (.iload 8, 2) := by decide +kernel
theorem dX4_clash_25 : decode cX4_clash 25 = .ok (.iload 5, 2) := by decide +kernel
theorem dX4_clash_27 : decode cX4_clash 27 = .ok (.if_icmp .gt 77, 3) := by decide +kernel
theorem dX4_clash_30 : decode cX4_clash 30 = .ok (.iload 8, 2) := by decide +kernel
theorem dX4_clash_32 : decode cX4_clash 32 = .ok (.iload 5, 2) := by decide +kernel
theorem dX4_clash_34 : decode cX4_clash 34 = .ok (.iconst (-1), 1) := by decide +kernel
theorem dX4_clash_35 : decode cX4_clash 35 = .ok (.ixor, 1) := by decide +kernel
theorem dX4_clash_36 : decode cX4_clash 36 = .ok (.iand, 1) := by decide +kernel
theorem dX4_clash_37 : decode cX4_clash 37 = .ok (.ifCond .ne 61, 3) := by decide +kernel
theorem dX4_clash_40 : decode cX4_clash 40 = .ok (.iload 8, 2) := by decide +kernel
theorem dX4_clash_42 : decode cX4_clash 42 = .ok (.invokestatic 103, 3) := by decide +kernel
theorem dX4_clash_45 : decode cX4_clash 45 = .ok (.iload 7, 2) := by decide +kernel
theorem dX4_clash_47 : decode cX4_clash 47 = .ok (.if_icmp .ge 51, 3) := by decide +kernel
theorem dX4_clash_50 : decode cX4_clash 50 = .ok (.aload_n 0, 1) := by decide +kernel
theorem dX4_clash_51 : decode cX4_clash 51 = .ok (.getfield 12, 3) := by decide +kernel
theorem dX4_clash_54 : decode cX4_clash 54 = .ok (.aload_n 1, 1) := by decide +kernel
theorem dX4_clash_55 : decode cX4_clash 55 = .ok (.iload_n 2, 1) := by decide +kernel
theorem dX4_clash_56 : decode cX4_clash 56 = .ok (.iload 8, 2) := by decide +kernel
theorem dX4_clash_58 : decode cX4_clash 58 = .ok (.aload 4, 2) := by decide +kernel
theorem dX4_clash_60 : decode cX4_clash 60 = .ok (.getfield 97, 3) := by decide +kernel
theorem dX4_clash_63 : decode cX4_clash 63 = .ok (.iload_n 3, 1) := by decide +kernel
theorem dX4_clash_64 : decode cX4_clash 64 = .ok (.iaload, 1) := by decide +kernel
theorem dX4_clash_65 : decode cX4_clash 65 = .ok (.aload 4, 2) := by decide +kernel
theorem dX4_clash_67 : decode cX4_clash 67 = .ok (.getfield 100, 3) := by decide +kernel
theorem dX4_clash_70 : decode cX4_clash 70 = .ok (.iload_n 3, 1) := by decide +kernel
theorem dX4_clash_71 : decode cX4_clash 71 = .ok (.iaload, 1) := by decide +kernel
theorem dX4_clash_72 : decode cX4_clash 72 = .ok (.invokevirtual 51, 3) := by decide +kernel
theorem dX4_clash_75 : decode cX4_clash 75 = .ok (.aload_n 0, 1) := by decide +kernel
theorem dX4_clash_76 : decode cX4_clash 76 = .ok (.getfield 12, 3) := by decide +kernel
theorem dX4_clash_79 : decode cX4_clash 79 = .ok (.iconst 0, 1) := by decide +kernel
theorem dX4_clash_80 : decode cX4_clash 80 = .ok (.lconst 0, 1) := by decide +kernel
theorem dX4_clash_81 : decode cX4_clash 81 = .ok (.invokevirtual 55, 3) := by decide +kernel
theorem dX4_clash_84 : decode cX4_clash 84 = .ok (.ifCond .ne 14, 3) := by decide +kernel
theorem dX4_clash_87 : decode cX4_clash 87 = .ok (.iload 8, 2) := by decide +kernel
theorem dX4_clash_89 : decode cX4_clash 89 = .ok (.istore 6, 2) := by decide +kernel
theorem dX4_clash_91 : decode cX4_clash 91 = .ok (.iload 8, 2) := by decide +kernel
theorem dX4_clash_93 : decode cX4_clash 93 = .ok (.invokestatic 103, 3) := by decide +kernel
theorem dX4_clash_96 : decode cX4_clash 96 = .ok (.istore 7, 2) := by decide +kernel
theorem dX4_clash_98 : decode cX4_clash 98 = .ok (.iinc 8 1, 3) := by decide +kernel
theorem dX4_clash_101 : decode cX4_clash 101 = .ok (.goto (-78), 3) := by decide +kernel
theorem dX4_clash_104 : decode cX4_clash 104 = .ok (.iload 6, 2) := by decide +kernel
theorem dX4_clash_106 : decode cX4_clash 106 = .ok (.ireturn, 1) := by decide +kernel
theorem dX5_init_0 : decode cX5_init 0 = .ok (.aload_n 0, 1) := by decide +kernel
theorem dX5_init_1 : decode cX5_init 1 = .ok (.invokespecial 3, 3) := by decide +kernel
theorem dX5_init_4 : decode cX5_init 4 = .ok (.aload_n 0, 1) := by decide +kernel
theorem dX5_init_5 : decode cX5_init 5 = .ok (.sipush 288, 3) := by decide +kernel
theorem dX5_init_8 : decode cX5_init 8 = .ok (.newarray .int, 2) := by decide +kernel
theorem dX5_init_10 : decode cX5_init 10 = .ok (.putfield 9, 3) := by decide +kernel
theorem dX5_init_13 : decode cX5_init 13 = .ok (.aload_n 0, 1) := by decide +kernel
theorem dX5_init_14 : decode cX5_init 14 = .ok (.bipush 6, 2) := by decide +kernel
theorem dX5_init_16 : decode cX5_init 16 = .ok (.newarray .long, 2) := by decide +kernel
theorem dX5_init_18 : decode cX5_init 18 = .ok (.putfield 15, 3) := by decide +kernel
theorem dX5_init_21 : decode cX5_init 21 = .ok (.aload_n 0, 1) := by decide +kernel
theorem dX5_init_22 : decode cX5_init 22 = .ok (.bipush 9, 2) := by decide +kernel
theorem dX5_init_24 : decode cX5_init 24 = .ok (.newarray .long, 2) := by decide +kernel
theorem dX5_init_26 : decode cX5_init 26 = .ok (.putfield 19, 3) := by decide +kernel
theorem dX5_init_29 : decode cX5_init 29 = .ok (.aload_n 0, 1) := by decide +kernel
theorem dX5_init_30 : decode cX5_init 30 = .ok (.bipush 10, 2) := by decide +kernel
theorem dX5_init_32 : decode cX5_init 32 = .ok (.newarray .int, 2) := by decide +kernel
theorem dX5_init_34 : decode cX5_init 34 = .ok (.putfield 22, 3) := by decide +kernel
theorem dX5_init_37 : decode cX5_init 37 = .ok (.aload_n 0, 1) := by decide +kernel
theorem dX5_init_38 : decode cX5_init 38 = .ok (.bipush 10, 2) := by decide +kernel
theorem dX5_init_40 : decode cX5_init 40 = .ok (.newarray .int, 2) := by decide +kernel
theorem dX5_init_42 : decode cX5_init 42 = .ok (.putfield 25, 3) := by decide +kernel
theorem dX5_init_45 : decode cX5_init 45 = .ok (.aload_n 0, 1) := by decide +kernel
theorem dX5_init_46 : decode cX5_init 46 = .ok (.bipush 90, 2) := by decide +kernel
theorem dX5_init_48 : decode cX5_init 48 = .ok (.newarray .int, 2) := by decide +kernel
theorem dX5_init_50 : decode cX5_init 50 = .ok (.putfield 28, 3) := by decide +kernel
theorem dX5_init_53 : decode cX5_init 53 = .ok (.aload_n 0, 1) := by decide +kernel
theorem dX5_init_54 : decode cX5_init 54 = .ok (.bipush 54, 2) := by decide +kernel
theorem dX5_init_56 : decode cX5_init 56 = .ok (.newarray .int, 2) := by decide +kernel
theorem dX5_init_58 : decode cX5_init 58 = .ok (.putfield 31, 3) := by decide +kernel
theorem dX5_init_61 : decode cX5_init 61 = .ok (.return_, 1) := by decide +kernel
theorem dX5_piecesOf_0 : decode cX5_piecesOf 0 = .ok (.aload_n 0, 1) := by decide +kernel
theorem dX5_piecesOf_1 : decode cX5_piecesOf 1 = .ok (.getfield 22, 3) := by decide +kernel
theorem dX5_piecesOf_4 : decode cX5_piecesOf 4 = .ok (.iload_n 1, 1) := by decide +kernel
theorem dX5_piecesOf_5 : decode cX5_piecesOf 5 = .ok (.iaload, 1) := by decide +kernel
theorem dX5_piecesOf_6 : decode cX5_piecesOf 6 = .ok (.ireturn, 1) := by decide +kernel
theorem dX5_movesOf_0 : decode cX5_movesOf 0 = .ok (.aload_n 0, 1) := by decide +kernel
theorem dX5_movesOf_1 : decode cX5_movesOf 1 = .ok (.getfield 25, 3) := by decide +kernel
theorem dX5_movesOf_4 : decode cX5_movesOf 4 = .ok (.iload_n 1, 1) := by decide +kernel
theorem dX5_movesOf_5 : decode cX5_movesOf 5 = .ok (.iaload, 1) := by decide +kernel
theorem dX5_movesOf_6 : decode cX5_movesOf 6 = .ok (.ireturn, 1) := by decide +kernel
theorem dX5_roomAt_0 : decode cX5_roomAt 0 = .ok (.iload_n 2, 1) := by decide +kernel
theorem dX5_roomAt_1 : decode cX5_roomAt 1 = .ok (.ifCond .lt 23, 3) := by decide +kernel
theorem dX5_roomAt_4 : decode cX5_roomAt 4 = .ok (.iload_n 2, 1) := by decide +kernel
theorem dX5_roomAt_5 : decode cX5_roomAt 5 = .ok (.bipush 9, 2) := by decide +kernel
theorem dX5_roomAt_7 : decode cX5_roomAt 7 = .ok (.if_icmp .ge 17, 3) := by decide +kernel
theorem dX5_roomAt_10 : decode cX5_roomAt 10 = .ok (.aload_n 0, 1) := by decide +kernel
theorem dX5_roomAt_11 : decode cX5_roomAt 11 = .ok (.getfield 28, 3) := by decide +kernel
theorem dX5_roomAt_14 : decode cX5_roomAt 14 = .ok (.iload_n 1, 1) := by decide +kernel
theorem dX5_roomAt_15 : decode cX5_roomAt 15 = .ok (.bipush 9, 2) := by decide +kernel
theorem dX5_roomAt_17 : decode cX5_roomAt 17 = .ok (.imul, 1) := by decide +kernel
theorem dX5_roomAt_18 : decode cX5_roomAt 18 = .ok (.iload_n 2, 1) := by decide +kernel
theorem dX5_roomAt_19 : decode cX5_roomAt 19 = .ok (.iadd, 1) := by decide +kernel
theorem dX5_roomAt_20 : decode cX5_roomAt 20 = .ok (.iaload, 1) := by decide +kernel
theorem dX5_roomAt_21 : decode cX5_roomAt 21 = .ok (.goto 4, 3) := by decide +kernel
theorem dX5_roomAt_24 : decode cX5_roomAt 24 = .ok (.iconst (-1), 1) := by decide +kernel
theorem dX5_roomAt_25 : decode cX5_roomAt 25 = .ok (.ireturn, 1) := by decide +kernel
theorem dX5_usedAt_0 : decode cX5_usedAt 0 = .ok (.aload_n 0, 1) := by decide +kernel
theorem dX5_usedAt_1 : decode cX5_usedAt 1 = .ok (.getfield 9, 3) := by decide +kernel
theorem dX5_usedAt_4 : decode cX5_usedAt 4 = .ok (.iload_n 1, 1) := by decide +kernel
theorem dX5_usedAt_5 : decode cX5_usedAt 5 = .ok (.bipush 48, 2) := by decide +kernel
theorem dX5_usedAt_7 : decode cX5_usedAt 7 = .ok (.imul, 1) := by decide +kernel
theorem dX5_usedAt_8 : decode cX5_usedAt 8 = .ok (.iload_n 2, 1) := by decide +kernel
theorem dX5_usedAt_9 : decode cX5_usedAt 9 = .ok (.iadd, 1) := by decide +kernel
theorem dX5_usedAt_10 : decode cX5_usedAt 10 = .ok (.iaload, 1) := by decide +kernel
theorem dX5_usedAt_11 : decode cX5_usedAt 11 = .ok (.ireturn, 1) := by decide +kernel
theorem dX5_lay_0 : decode cX5_lay 0 = .ok (.aload_n 0, 1) := by decide +kernel
theorem dX5_lay_1 : decode cX5_lay 1 = .ok (.getfield 34, 3) := by decide +kernel
theorem dX5_lay_4 : decode cX5_lay 4 = .ok (.aload_n 2, 1) := by decide +kernel
theorem dX5_lay_5 : decode cX5_lay 5 = .ok (.invokevirtual 38, 3) := by decide +kernel
theorem dX5_lay_8 : decode cX5_lay 8 = .ok (.if_icmp .ne 12, 3) := by decide +kernel
theorem dX5_lay_11 : decode cX5_lay 11 = .ok (.aload_n 0, 1) := by decide +kernel
theorem dX5_lay_12 : decode cX5_lay 12 = .ok (.getfield 43, 3) := by decide +kernel
theorem dX5_lay_15 : decode cX5_lay 15 = .ok (.iload_n 3, 1) := by decide +kernel
theorem dX5_lay_16 : decode cX5_lay 16 = .ok (.if_icmp .ne 4, 3) := by decide +kernel
theorem dX5_lay_19 : decode cX5_lay 19 = .ok (.return_, 1) := by decide +kernel
theorem dX5_lay_20 : decode cX5_lay 20 = .ok (.aload_n 0, 1) := by decide +kernel
theorem dX5_lay_21 : decode cX5_lay 21 = .ok (.aload_n 2, 1) := by decide +kernel
theorem dX5_lay_22 : decode cX5_lay 22 = .ok (.invokevirtual 38, 3) := by decide +kernel
theorem dX5_lay_25 : decode cX5_lay 25 = .ok (.putfield 34, 3) := by decide +kernel
theorem dX5_lay_28 : decode cX5_lay 28 = .ok (.aload_n 0, 1) := by decide +kernel
theorem dX5_lay_29 : decode cX5_lay 29 = .ok (.iload_n 3, 1) := by decide +kernel
theorem dX5_lay_30 : decode cX5_lay 30 = .ok (.putfield 43, 3) := by decide +kernel
theorem dX5_lay_33 : decode cX5_lay 33 = .ok (.iconst 0, 1) := by decide +kernel
theorem dX5_lay_34 : decode cX5_lay 34 = .ok (.istore 4, 2) := by decide +kernel
theorem dX5_lay_36 : decode cX5_lay 36 = .ok (.iload 4, 2) := by decide +kernel
theorem dX5_lay_38 : decode cX5_lay 38 = .ok (.sipush 288, 3) := by decide +kernel
theorem dX5_lay_41 : decode cX5_lay 41 = .ok (.if_icmp .ge 17, 3) := by decide +kernel
theorem dX5_lay_44 : decode cX5_lay 44 = .ok (.aload_n 0, 1) := by decide +kernel
theorem dX5_lay_45 : decode cX5_lay 45 = .ok (.getfield 9, 3) := by decide +kernel
theorem dX5_lay_48 : decode cX5_lay 48 = .ok (.iload 4, 2) := by decide +kernel
theorem dX5_lay_50 : decode cX5_lay 50 = .ok (.iconst 0, 1) := by decide +kernel
theorem dX5_lay_51 : decode cX5_lay 51 = .ok (.iastore, 1) := by decide +kernel
theorem dX5_lay_52 : decode cX5_lay 52 = .ok (.iinc 4 1, 3) := by decide +kernel
theorem dX5_lay_55 : decode cX5_lay 55 = .ok (.goto (-19), 3) := by decide +kernel
theorem dX5_lay_58 : decode cX5_lay 58 = .ok (.iconst 0, 1) := by decide +kernel
theorem dX5_lay_59 : decode cX5_lay 59 = .ok (.istore 4, 2) := by decide +kernel
theorem dX5_lay_61 : decode cX5_lay 61 = .ok (.iload 4, 2) := by decide +kernel
theorem dX5_lay_63 : decode cX5_lay 63 = .ok (.bipush 6, 2) := by decide +kernel
theorem dX5_lay_65 : decode cX5_lay 65 = .ok (.if_icmp .ge 17, 3) := by decide +kernel
theorem dX5_lay_68 : decode cX5_lay 68 = .ok (.aload_n 0, 1) := by decide +kernel
theorem dX5_lay_69 : decode cX5_lay 69 = .ok (.getfield 15, 3) := by decide +kernel
theorem dX5_lay_72 : decode cX5_lay 72 = .ok (.iload 4, 2) := by decide +kernel
theorem dX5_lay_74 : decode cX5_lay 74 = .ok (.lconst 0, 1) := by decide +kernel
theorem dX5_lay_75 : decode cX5_lay 75 = .ok (.lastore, 1) := by decide +kernel
theorem dX5_lay_76 : decode cX5_lay 76 = .ok (.iinc 4 1, 3) := by decide +kernel
theorem dX5_lay_79 : decode cX5_lay 79 = .ok (.goto (-18), 3) := by decide +kernel
theorem dX5_lay_82 : decode cX5_lay 82 = .ok (.iconst 0, 1) := by decide +kernel
theorem dX5_lay_83 : decode cX5_lay 83 = .ok (.istore 4, 2) := by decide +kernel
theorem dX5_lay_85 : decode cX5_lay 85 = .ok (.iload 4, 2) := by decide +kernel
theorem dX5_lay_87 : decode cX5_lay 87 = .ok (.aload_n 1, 1) := by decide +kernel
theorem dX5_lay_88 : decode cX5_lay 88 = .ok (.getfield 46, 3) := by decide +kernel
theorem dX5_lay_91 : decode cX5_lay 91 = .ok (.if_icmp .ge 38, 3) := by decide +kernel
theorem dX5_lay_94 : decode cX5_lay 94 = .ok (.aload_n 0, 1) := by decide +kernel
theorem dX5_lay_95 : decode cX5_lay 95 = .ok (.getfield 22, 3) := by decide +kernel
theorem dX5_lay_98 : decode cX5_lay 98 = .ok (.iload 4, 2) := by decide +kernel
theorem dX5_lay_100 : decode cX5_lay 100 = .ok (.aload_n 2, 1) := by decide +kernel
theorem dX5_lay_101 : decode cX5_lay 101 = .ok (.aload_n 1, 1) := by decide +kernel
theorem dX5_lay_102 : decode cX5_lay 102 = .ok (.iload 4, 2) := by decide +kernel
theorem dX5_lay_104 : decode cX5_lay 104 = .ok (.invokevirtual 51, 3) := by decide +kernel
theorem dX5_lay_107 : decode cX5_lay 107 = .ok (.iload_n 3, 1) := by decide +kernel
theorem dX5_lay_108 : decode cX5_lay 108 = .ok (.aload_n 0, 1) := by decide +kernel
theorem dX5_lay_109 : decode cX5_lay 109 = .ok (.getfield 19, 3) := by decide +kernel
theorem dX5_lay_112 : decode cX5_lay 112 = .ok (.invokevirtual 55, 3) := by decide +kernel
theorem dX5_lay_115 : decode cX5_lay 115 = .ok (.iastore, 1) := by decide +kernel
theorem dX5_lay_116 : decode cX5_lay 116 = .ok (.aload_n 0, 1) := by decide +kernel
theorem dX5_lay_117 : decode cX5_lay 117 = .ok (.aload_n 1, 1) := by decide +kernel
theorem dX5_lay_118 : decode cX5_lay 118 = .ok (.iload 4, 2) := by decide +kernel
theorem dX5_lay_120 : decode cX5_lay 120 = .ok (.invokevirtual 61, 3) := by decide +kernel
theorem dX5_lay_123 : decode cX5_lay 123 = .ok (.iinc 4 1, 3) := by decide +kernel
theorem dX5_lay_126 : decode cX5_lay 126 = .ok (.goto (-41), 3) := by decide +kernel
theorem dX5_lay_129 : decode cX5_lay 129 = .ok (.return_, 1) := by decide +kernel
theorem dX5_seat_0 : decode cX5_seat 0 = .ok (.aload_n 0, 1) := by decide +kernel
theorem dX5_seat_1 : decode cX5_seat 1 = .ok (.getfield 22, 3) := by decide +kernel
theorem dX5_seat_4 : decode cX5_seat 4 = .ok (.iload_n 2, 1) := by decide +kernel
theorem dX5_seat_5 : decode cX5_seat 5 = .ok (.iaload, 1) := by decide +kernel
theorem dX5_seat_6 : decode cX5_seat 6 = .ok (.istore_n 3, 1) := by decide +kernel
theorem dX5_seat_7 : decode cX5_seat 7 = .ok (.iconst 0, 1) := by decide +kernel
theorem dX5_seat_8 : decode cX5_seat 8 = .ok (.istore 4, 2) := by decide +kernel
theorem dX5_seat_10 : decode cX5_seat 10 = .ok (.iload 4, 2) := by decide +kernel
theorem dX5_seat_12 : decode cX5_seat 12 = .ok (.iload_n 3, 1) := by decide +kernel
theorem dX5_seat_13 : decode cX5_seat 13 = .ok (.if_icmp .ge 22, 3) := by decide +kernel
theorem dX5_seat_16 : decode cX5_seat 16 = .ok (.aload_n 0, 1) := by decide +kernel
theorem dX5_seat_17 : decode cX5_seat 17 = .ok (.getfield 28, 3) := by decide +kernel
theorem dX5_seat_20 : decode cX5_seat 20 = .ok (.iload_n 2, 1) := by decide +kernel
theorem dX5_seat_21 : decode cX5_seat 21 = .ok (.bipush 9, 2) := by decide +kernel
theorem dX5_seat_23 : decode cX5_seat 23 = .ok (.imul, 1) := by decide +kernel
theorem dX5_seat_24 : decode cX5_seat 24 = .ok (.iload 4, 2) := by decide +kernel
theorem dX5_seat_26 : decode cX5_seat 26 = .ok (.iadd, 1) := by decide +kernel
theorem dX5_seat_27 : decode cX5_seat 27 = .ok (.iconst (-1), 1) := by decide +kernel
theorem dX5_seat_28 : decode cX5_seat 28 = .ok (.iastore, 1) := by decide +kernel
theorem dX5_seat_29 : decode cX5_seat 29 = .ok (.iinc 4 1, 3) := by decide +kernel
theorem dX5_seat_32 : decode cX5_seat 32 = .ok (.goto (-22), 3) := by decide +kernel
theorem dX5_seat_35 : decode cX5_seat 35 = .ok (.aload_n 0, 1) := by decide +kernel
theorem dX5_seat_36 : decode cX5_seat 36 = .ok (.getfield 25, 3) := by decide +kernel
theorem dX5_seat_39 : decode cX5_seat 39 = .ok (.iload_n 2, 1) := by decide +kernel
theorem dX5_seat_40 : decode cX5_seat 40 = .ok (.iconst 0, 1) := by decide +kernel
theorem dX5_seat_41 : decode cX5_seat 41 = .ok (.iastore, 1) := by decide +kernel
theorem dX5_seat_42 : decode cX5_seat 42 = .ok (.iload_n 3, 1) := by decide +kernel
theorem dX5_seat_43 : decode cX5_seat 43 = .ok (.ifCond .ne 4, 3) := by decide +kernel
theorem dX5_seat_46 : decode cX5_seat 46 = .ok (.return_, 1) := by decide +kernel
theorem dX5_seat_47 : decode cX5_seat 47 = .ok (.aload_n 0, 1) := by decide +kernel
theorem dX5_seat_48 : decode cX5_seat 48 = .ok (.aload_n 1, 1) := by decide +kernel
theorem dX5_seat_49 : decode cX5_seat 49 = .ok (.getfield 65, 3) := by decide +kernel
theorem dX5_seat_52 : decode cX5_seat 52 = .ok (.iload_n 3, 1) := by decide +kernel
theorem dX5_seat_53 : decode cX5_seat 53 = .ok (.invokevirtual 68, 3) := by decide +kernel
theorem dX5_seat_56 : decode cX5_seat 56 = .ok (.aload_n 0, 1) := by decide +kernel
theorem dX5_seat_57 : decode cX5_seat 57 = .ok (.aload_n 1, 1) := by decide +kernel
theorem dX5_seat_58 : decode cX5_seat 58 = .ok (.getfield 65, 3) := by decide +kernel
theorem dX5_seat_61 : decode cX5_seat 61 = .ok (.iconst 0, 1) := by decide +kernel
theorem dX5_seat_62 : decode cX5_seat 62 = .ok (.iconst (-1), 1) := by decide +kernel
theorem dX5_seat_63 : decode cX5_seat 63 = .ok (.invokevirtual 72, 3) := by decide +kernel
theorem dX5_seat_66 : decode cX5_seat 66 = .ok (.istore 4, 2) := by decide +kernel
theorem dX5_seat_68 : decode cX5_seat 68 = .ok (.aload_n 0, 1) := by decide +kernel
theorem dX5_seat_69 : decode cX5_seat 69 = .ok (.getfield 25, 3) := by decide +kernel
theorem dX5_seat_72 : decode cX5_seat 72 = .ok (.iload_n 2, 1) := by decide +kernel
theorem dX5_seat_73 : decode cX5_seat 73 = .ok (.iload 4, 2) := by decide +kernel
theorem dX5_seat_75 : decode cX5_seat 75 = .ok (.iconst (-1), 1) := by decide +kernel
theorem dX5_seat_76 : decode cX5_seat 76 = .ok (.if_icmp .ne 7, 3) := by decide +kernel
theorem dX5_seat_79 : decode cX5_seat 79 = .ok (.iconst (-1), 1) := by decide +kernel
theorem dX5_seat_80 : decode cX5_seat 80 = .ok (.goto 10, 3) := by decide +kernel
theorem dX5_seat_83 : decode cX5_seat 83 = .ok (.aload_n 0, 1) := by decide +kernel
theorem dX5_seat_84 : decode cX5_seat 84 = .ok (.getfield 31, 3) := by decide +kernel
theorem dX5_seat_87 : decode cX5_seat 87 = .ok (.iload 4, 2) := by decide +kernel
theorem dX5_seat_89 : decode cX5_seat 89 = .ok (.iaload, 1) := by decide +kernel
theorem dX5_seat_90 : decode cX5_seat 90 = .ok (.iastore, 1) := by decide +kernel
theorem dX5_seat_91 : decode cX5_seat 91 = .ok (.iconst 0, 1) := by decide +kernel
theorem dX5_seat_92 : decode cX5_seat 92 = .ok (.istore 5, 2) := by decide +kernel
theorem dX5_seat_94 : decode cX5_seat 94 = .ok (.iload 5, 2) := by decide +kernel
theorem dX5_seat_96 : decode cX5_seat 96 = .ok (.iload_n 3, 1) := by decide +kernel
theorem dX5_seat_97 : decode cX5_seat 97 = .ok (.if_icmp .ge 71, 3) := by decide +kernel
theorem dX5_seat_100 : decode cX5_seat 100 = .ok (.iload 4, 2) := by decide +kernel
theorem dX5_seat_102 : decode cX5_seat 102 = .ok (.iconst (-1), 1) := by decide +kernel
theorem dX5_seat_103 : decode cX5_seat 103 = .ok (.if_icmp .eq 65, 3) := by decide +kernel
theorem dX5_seat_106 : decode cX5_seat 106 = .ok (.aload_n 0, 1) := by decide +kernel
theorem dX5_seat_107 : decode cX5_seat 107 = .ok (.getfield 28, 3) := by decide +kernel
theorem dX5_seat_110 : decode cX5_seat 110 = .ok (.iload_n 2, 1) := by decide +kernel
theorem dX5_seat_111 : decode cX5_seat 111 = .ok (.bipush 9, 2) := by decide +kernel
theorem dX5_seat_113 : decode cX5_seat 113 = .ok (.imul, 1) := by decide +kernel
theorem dX5_seat_114 : decode cX5_seat 114 = .ok (.iload 5, 2) := by decide +kernel
theorem dX5_seat_116 : decode cX5_seat 116 = .ok (.iadd, 1) := by decide +kernel
theorem dX5_seat_117 : decode cX5_seat 117 = .ok (.iload 4, 2) := by decide +kernel
theorem dX5_seat_119 : decode cX5_seat 119 = .ok (.iastore, 1) := by decide +kernel
theorem dX5_seat_120 : decode cX5_seat 120 = .ok (.aload_n 0, 1) := by decide +kernel
theorem dX5_seat_121 : decode cX5_seat 121 = .ok (.aload_n 1, 1) := by decide +kernel
theorem dX5_seat_122 : decode cX5_seat 122 = .ok (.iload 4, 2) := by decide +kernel
theorem dX5_seat_124 : decode cX5_seat 124 = .ok (.aload_n 0, 1) := by decide +kernel
theorem dX5_seat_125 : decode cX5_seat 125 = .ok (.getfield 19, 3) := by decide +kernel
theorem dX5_seat_128 : decode cX5_seat 128 = .ok (.iload 5, 2) := by decide +kernel
theorem dX5_seat_130 : decode cX5_seat 130 = .ok (.laload, 1) := by decide +kernel
theorem dX5_seat_131 : decode cX5_seat 131 = .ok (.invokevirtual 76, 3) := by decide +kernel
theorem dX5_seat_134 : decode cX5_seat 134 = .ok (.iload 5, 2) := by decide +kernel
theorem dX5_seat_136 : decode cX5_seat 136 = .ok (.iconst 1, 1) := by decide +kernel
theorem dX5_seat_137 : decode cX5_seat 137 = .ok (.iadd, 1) := by decide +kernel
theorem dX5_seat_138 : decode cX5_seat 138 = .ok (.iload_n 3, 1) := by decide +kernel
theorem dX5_seat_139 : decode cX5_seat 139 = .ok (.if_icmp .ge 20, 3) := by decide +kernel
theorem dX5_seat_142 : decode cX5_seat 142 = .ok (.aload_n 0, 1) := by decide +kernel
theorem dX5_seat_143 : decode cX5_seat 143 = .ok (.aload_n 1, 1) := by decide +kernel
theorem dX5_seat_144 : decode cX5_seat 144 = .ok (.getfield 65, 3) := by decide +kernel
theorem dX5_seat_147 : decode cX5_seat 147 = .ok (.iload 5, 2) := by decide +kernel
theorem dX5_seat_149 : decode cX5_seat 149 = .ok (.iconst 1, 1) := by decide +kernel
theorem dX5_seat_150 : decode cX5_seat 150 = .ok (.iadd, 1) := by decide +kernel
theorem dX5_seat_151 : decode cX5_seat 151 = .ok (.iload 4, 2) := by decide +kernel
theorem dX5_seat_153 : decode cX5_seat 153 = .ok (.invokevirtual 72, 3) := by decide +kernel
theorem dX5_seat_156 : decode cX5_seat 156 = .ok (.goto 4, 3) := by decide +kernel
theorem dX5_seat_159 : decode cX5_seat 159 = .ok (.iconst (-1), 1) := by decide +kernel
theorem dX5_seat_160 : decode cX5_seat 160 = .ok (.istore 4, 2) := by decide +kernel
theorem dX5_seat_162 : decode cX5_seat 162 = .ok (.iinc 5 1, 3) := by decide +kernel
theorem dX5_seat_165 : decode cX5_seat 165 = .ok (.goto (-71), 3) := by decide +kernel
theorem dX5_seat_168 : decode cX5_seat 168 = .ok (.return_, 1) := by decide +kernel
theorem dX5_countMoves_0 : decode cX5_countMoves 0 = .ok (.iload_n 2, 1) := by decide +kernel
theorem dX5_countMoves_1 : decode cX5_countMoves 1 = .ok (.iconst 1, 1) := by decide +kernel
theorem dX5_countMoves_2 : decode cX5_countMoves 2 = .ok (.isub, 1) := by decide +kernel
theorem dX5_countMoves_3 : decode cX5_countMoves 3 = .ok (.istore_n 3, 1) := by decide +kernel
theorem dX5_countMoves_4 : decode cX5_countMoves 4 = .ok (.iload_n 3, 1) := by decide +kernel
theorem dX5_countMoves_5 : decode cX5_countMoves 5 = .ok (.ifCond .lt 45, 3) := by decide +kernel
theorem dX5_countMoves_8 : decode cX5_countMoves 8 = .ok (.iconst 0, 1) := by decide +kernel
theorem dX5_countMoves_9 : decode cX5_countMoves 9 = .ok (.istore 4, 2) := by decide +kernel
theorem dX5_countMoves_11 : decode cX5_countMoves 11 = .ok (.iload 4, 2) := by decide +kernel
theorem dX5_countMoves_13 : decode cX5_countMoves 13 = .ok (.iload_n 1, 1) := by decide +kernel
theorem dX5_countMoves_14 : decode cX5_countMoves 14 = .ok (.if_icmp .ge 30, 3) := by decide +kernel
theorem dX5_countMoves_17 : decode cX5_countMoves 17 = .ok (.aload_n 0, 1) := by decide +kernel
theorem dX5_countMoves_18 : decode cX5_countMoves 18 = .ok (.getfield 31, 3) := by decide +kernel
theorem dX5_countMoves_21 : decode cX5_countMoves 21 = .ok (.iload_n 3, 1) := by decide +kernel
theorem dX5_countMoves_22 : decode cX5_countMoves 22 = .ok (.bipush 6, 2) := by decide +kernel
theorem dX5_countMoves_24 : decode cX5_countMoves 24 = .ok (.imul, 1) := by decide +kernel
theorem dX5_countMoves_25 : decode cX5_countMoves 25 = .ok (.iload 4, 2) := by decide +kernel
theorem dX5_countMoves_27 : decode cX5_countMoves 27 = .ok (.iadd, 1) := by decide +kernel
theorem dX5_countMoves_28 : decode cX5_countMoves 28 = .ok (.aload_n 0, 1) := by decide +kernel
theorem dX5_countMoves_29 : decode cX5_countMoves 29 = .ok (.iload_n 1, 1) := by decide +kernel
theorem dX5_countMoves_30 : decode cX5_countMoves 30 = .ok (.iload_n 2, 1) := by decide +kernel
theorem dX5_countMoves_31 : decode cX5_countMoves 31 = .ok (.iload_n 3, 1) := by decide +kernel
theorem dX5_countMoves_32 : decode cX5_countMoves 32 = .ok (.iload 4, 2) := by decide +kernel
theorem dX5_countMoves_34 : decode cX5_countMoves 34 = .ok (.invokevirtual 80, 3) := by decide +kernel
theorem dX5_countMoves_37 : decode cX5_countMoves 37 = .ok (.iastore, 1) := by decide +kernel
theorem dX5_countMoves_38 : decode cX5_countMoves 38 = .ok (.iinc 4 1, 3) := by decide +kernel
theorem dX5_countMoves_41 : decode cX5_countMoves 41 = .ok (.goto (-30), 3) := by decide +kernel
theorem dX5_countMoves_44 : decode cX5_countMoves 44 = .ok (.iinc 3 (-1), 3) := by decide +kernel
theorem dX5_countMoves_47 : decode cX5_countMoves 47 = .ok (.goto (-43), 3) := by decide +kernel
theorem dX5_countMoves_50 : decode cX5_countMoves 50 = .ok (.return_, 1) := by decide +kernel
theorem dX5_costFrom_0 : decode cX5_costFrom 0 = .ok (.aload_n 0, 1) := by decide +kernel
theorem dX5_costFrom_1 : decode cX5_costFrom 1 = .ok (.getfield 15, 3) := by decide +kernel
theorem dX5_costFrom_4 : decode cX5_costFrom 4 = .ok (.iload 4, 2) := by decide +kernel
theorem dX5_costFrom_6 : decode cX5_costFrom 6 = .ok (.laload, 1) := by decide +kernel
theorem dX5_costFrom_7 : decode cX5_costFrom 7 = .ok (.aload_n 0, 1) := by decide +kernel
theorem dX5_costFrom_8 : decode cX5_costFrom 8 = .ok (.getfield 19, 3) := by decide +kernel
theorem dX5_costFrom_11 : decode cX5_costFrom 11 = .ok (.iload_n 3, 1) := by decide +kernel
theorem dX5_costFrom_12 : decode cX5_costFrom 12 = .ok (.laload, 1) := by decide +kernel
theorem dX5_costFrom_13 : decode cX5_costFrom 13 = .ok (.land, 1) := by decide +kernel
theorem dX5_costFrom_14 : decode cX5_costFrom 14 = .ok (.lconst 0, 1) := by decide +kernel
theorem dX5_costFrom_15 : decode cX5_costFrom 15 = .ok (.lcmp, 1) := by decide +kernel
theorem dX5_costFrom_16 : decode cX5_costFrom 16 = .ok (.ifCond .eq 7, 3) := by decide +kernel
theorem dX5_costFrom_19 : decode cX5_costFrom 19 = .ok (.sipush 1000, 3) := by decide +kernel
theorem dX5_costFrom_22 : decode cX5_costFrom 22 = .ok (.ireturn, 1) := by decide +kernel
theorem dX5_costFrom_23 : decode cX5_costFrom 23 = .ok (.iload_n 3, 1) := by decide +kernel
theorem dX5_costFrom_24 : decode cX5_costFrom 24 = .ok (.iconst 1, 1) := by decide +kernel
theorem dX5_costFrom_25 : decode cX5_costFrom 25 = .ok (.iadd, 1) := by decide +kernel
theorem dX5_costFrom_26 : decode cX5_costFrom 26 = .ok (.iload_n 2, 1) := by decide +kernel
theorem dX5_costFrom_27 : decode cX5_costFrom 27 = .ok (.if_icmp .lt 5, 3) := by decide +kernel
theorem dX5_costFrom_30 : decode cX5_costFrom 30 = .ok (.iconst 0, 1) := by decide +kernel
theorem dX5_costFrom_31 : decode cX5_costFrom 31 = .ok (.ireturn, 1) := by decide +kernel
theorem dX5_costFrom_32 : decode cX5_costFrom 32 = .ok (.aload_n 0, 1) := by decide +kernel
theorem dX5_costFrom_33 : decode cX5_costFrom 33 = .ok (.iload_n 1, 1) := by decide +kernel
theorem dX5_costFrom_34 : decode cX5_costFrom 34 = .ok (.iload_n 3, 1) := by decide +kernel
theorem dX5_costFrom_35 : decode cX5_costFrom 35 = .ok (.iconst 1, 1) := by decide +kernel
theorem dX5_costFrom_36 : decode cX5_costFrom 36 = .ok (.iadd, 1) := by decide +kernel
theorem dX5_costFrom_37 : decode cX5_costFrom 37 = .ok (.iload 4, 2) := by decide +kernel
theorem dX5_costFrom_39 : decode cX5_costFrom 39 = .ok (.invokevirtual 72, 3) := by decide +kernel
theorem dX5_costFrom_42 : decode cX5_costFrom 42 = .ok (.istore 5, 2) := by decide +kernel
theorem dX5_costFrom_44 : decode cX5_costFrom 44 = .ok (.iload 5, 2) := by decide +kernel
theorem dX5_costFrom_46 : decode cX5_costFrom 46 = .ok (.iconst (-1), 1) := by decide +kernel
theorem dX5_costFrom_47 : decode cX5_costFrom 47 = .ok (.if_icmp .ne 9, 3) := by decide +kernel
theorem dX5_costFrom_50 : decode cX5_costFrom 50 = .ok (.sipush 1000, 3) := by decide +kernel
theorem dX5_costFrom_53 : decode cX5_costFrom 53 = .ok (.goto 14, 3) := by decide +kernel
theorem dX5_costFrom_56 : decode cX5_costFrom 56 = .ok (.aload_n 0, 1) := by decide +kernel
theorem dX5_costFrom_57 : decode cX5_costFrom 57 = .ok (.iload_n 3, 1) := by decide +kernel
theorem dX5_costFrom_58 : decode cX5_costFrom 58 = .ok (.iconst 1, 1) := by decide +kernel
theorem dX5_costFrom_59 : decode cX5_costFrom 59 = .ok (.iadd, 1) := by decide +kernel
theorem dX5_costFrom_60 : decode cX5_costFrom 60 = .ok (.iload 5, 2) := by decide +kernel
theorem dX5_costFrom_62 : decode cX5_costFrom 62 = .ok (.iload 4, 2) := by decide +kernel
theorem dX5_costFrom_64 : decode cX5_costFrom 64 = .ok (.invokevirtual 84, 3) := by decide +kernel
theorem dX5_costFrom_67 : decode cX5_costFrom 67 = .ok (.ireturn, 1) := by decide +kernel
theorem dX5_firstRoom_0 : decode cX5_firstRoom 0 = .ok (.iconst (-1), 1) := by decide +kernel
theorem dX5_firstRoom_1 : decode cX5_firstRoom 1 = .ok (.istore 4, 2) := by decide +kernel
theorem dX5_firstRoom_3 : decode cX5_firstRoom 3 = .ok (.iconst 0, 1) := by decide +kernel
theorem dX5_firstRoom_4 : decode cX5_firstRoom 4 = .ok (.istore 5, 2) := by decide +kernel
theorem dX5_firstRoom_6 : decode cX5_firstRoom 6 = .ok (.iload 5, 2) := by decide +kernel
theorem dX5_firstRoom_8 : decode cX5_firstRoom 8 = .ok (.iload_n 1, 1) := by decide +kernel
theorem dX5_firstRoom_9 : decode cX5_firstRoom 9 = .ok (.if_icmp .ge 50, 3) := by decide +kernel
theorem dX5_firstRoom_12 : decode cX5_firstRoom 12 = .ok (.aload_n 0, 1) := by decide +kernel
theorem dX5_firstRoom_13 : decode cX5_firstRoom 13 = .ok (.iload_n 2, 1) := by decide +kernel
theorem dX5_firstRoom_14 : decode cX5_firstRoom 14 = .ok (.iload 5, 2) := by decide +kernel
theorem dX5_firstRoom_16 : decode cX5_firstRoom 16 = .ok (.iload_n 3, 1) := by decide +kernel
theorem dX5_firstRoom_17 : decode cX5_firstRoom 17 = .ok (.invokevirtual 84, 3) := by decide +kernel
theorem dX5_firstRoom_20 : decode cX5_firstRoom 20 = .ok (.istore 6, 2) := by decide +kernel
theorem dX5_firstRoom_22 : decode cX5_firstRoom 22 = .ok (.iload 6, 2) := by decide +kernel
theorem dX5_firstRoom_24 : decode cX5_firstRoom 24 = .ok (.sipush 1000, 3) := by decide +kernel
theorem dX5_firstRoom_27 : decode cX5_firstRoom 27 = .ok (.if_icmp .ge 26, 3) := by decide +kernel
theorem dX5_firstRoom_30 : decode cX5_firstRoom 30 = .ok (.iload 4, 2) := by decide +kernel
theorem dX5_firstRoom_32 : decode cX5_firstRoom 32 = .ok (.iconst (-1), 1) := by decide +kernel
theorem dX5_firstRoom_33 : decode cX5_firstRoom 33 = .ok (.if_icmp .eq 16, 3) := by decide +kernel
theorem dX5_firstRoom_36 : decode cX5_firstRoom 36 = .ok (.iload 6, 2) := by decide +kernel
theorem dX5_firstRoom_38 : decode cX5_firstRoom 38 = .ok (.aload_n 0, 1) := by decide +kernel
theorem dX5_firstRoom_39 : decode cX5_firstRoom 39 = .ok (.iload_n 2, 1) := by decide +kernel
theorem dX5_firstRoom_40 : decode cX5_firstRoom 40 = .ok (.iload 4, 2) := by decide +kernel
theorem dX5_firstRoom_42 : decode cX5_firstRoom 42 = .ok (.iload_n 3, 1) := by decide +kernel
theorem dX5_firstRoom_43 : decode cX5_firstRoom 43 = .ok (.invokevirtual 84, 3) := by decide +kernel
theorem dX5_firstRoom_46 : decode cX5_firstRoom 46 = .ok (.if_icmp .ge 7, 3) := by decide +kernel
theorem dX5_firstRoom_49 : decode cX5_firstRoom 49 = .ok (.iload 5, 2) := by decide +kernel
theorem dX5_firstRoom_51 : decode cX5_firstRoom 51 = .ok (.istore 4, 2) := by decide +kernel
theorem dX5_firstRoom_53 : decode cX5_firstRoom 53 = .ok (.iinc 5 1, 3) := by decide +kernel
theorem dX5_firstRoom_56 : decode cX5_firstRoom 56 = .ok (.goto (-50), 3) := by decide +kernel
theorem dX5_firstRoom_59 : decode cX5_firstRoom 59 = .ok (.iload 4, 2) := by decide +kernel
theorem dX5_firstRoom_61 : decode cX5_firstRoom 61 = .ok (.ireturn, 1) := by decide +kernel
theorem dX5_costWith_0 : decode cX5_costWith 0 = .ok (.aload_n 0, 1) := by decide +kernel
theorem dX5_costWith_1 : decode cX5_costWith 1 = .ok (.getfield 31, 3) := by decide +kernel
theorem dX5_costWith_4 : decode cX5_costWith 4 = .ok (.iload_n 1, 1) := by decide +kernel
theorem dX5_costWith_5 : decode cX5_costWith 5 = .ok (.bipush 6, 2) := by decide +kernel
theorem dX5_costWith_7 : decode cX5_costWith 7 = .ok (.imul, 1) := by decide +kernel
theorem dX5_costWith_8 : decode cX5_costWith 8 = .ok (.iload_n 2, 1) := by decide +kernel
theorem dX5_costWith_9 : decode cX5_costWith 9 = .ok (.iadd, 1) := by decide +kernel
theorem dX5_costWith_10 : decode cX5_costWith 10 = .ok (.iaload, 1) := by decide +kernel
theorem dX5_costWith_11 : decode cX5_costWith 11 = .ok (.iload_n 3, 1) := by decide +kernel
theorem dX5_costWith_12 : decode cX5_costWith 12 = .ok (.iconst (-1), 1) := by decide +kernel
theorem dX5_costWith_13 : decode cX5_costWith 13 = .ok (.if_icmp .eq 8, 3) := by decide +kernel
theorem dX5_costWith_16 : decode cX5_costWith 16 = .ok (.iload_n 3, 1) := by decide +kernel
theorem dX5_costWith_17 : decode cX5_costWith 17 = .ok (.iload_n 2, 1) := by decide +kernel
theorem dX5_costWith_18 : decode cX5_costWith 18 = .ok (.if_icmp .ne 7, 3) := by decide +kernel
theorem dX5_costWith_21 : decode cX5_costWith 21 = .ok (.iconst 0, 1) := by decide +kernel
theorem dX5_costWith_22 : decode cX5_costWith 22 = .ok (.goto 4, 3) := by decide +kernel
theorem dX5_costWith_25 : decode cX5_costWith 25 = .ok (.iconst 1, 1) := by decide +kernel
theorem dX5_costWith_26 : decode cX5_costWith 26 = .ok (.iadd, 1) := by decide +kernel
theorem dX5_costWith_27 : decode cX5_costWith 27 = .ok (.ireturn, 1) := by decide +kernel
theorem dX5_fill_0 : decode cX5_fill 0 = .ok (.iconst 0, 1) := by decide +kernel
theorem dX5_fill_1 : decode cX5_fill 1 = .ok (.istore 5, 2) := by decide +kernel
theorem dX5_fill_3 : decode cX5_fill 3 = .ok (.iload 5, 2) := by decide +kernel
theorem dX5_fill_5 : decode cX5_fill 5 = .ok (.bipush 48, 2) := by decide +kernel
theorem dX5_fill_7 : decode cX5_fill 7 = .ok (.if_icmp .ge 67, 3) := by decide +kernel
theorem dX5_fill_10 : decode cX5_fill 10 = .ok (.lload_n 3, 1) := by decide +kernel
theorem dX5_fill_11 : decode cX5_fill 11 = .ok (.iload 5, 2) := by decide +kernel
theorem dX5_fill_13 : decode cX5_fill 13 = .ok (.invokestatic 87, 3) := by decide +kernel
theorem dX5_fill_16 : decode cX5_fill 16 = .ok (.ifCond .eq 52, 3) := by decide +kernel
theorem dX5_fill_19 : decode cX5_fill 19 = .ok (.iload_n 2, 1) := by decide +kernel
theorem dX5_fill_20 : decode cX5_fill 20 = .ok (.bipush 48, 2) := by decide +kernel
theorem dX5_fill_22 : decode cX5_fill 22 = .ok (.imul, 1) := by decide +kernel
theorem dX5_fill_23 : decode cX5_fill 23 = .ok (.iload 5, 2) := by decide +kernel
theorem dX5_fill_25 : decode cX5_fill 25 = .ok (.iadd, 1) := by decide +kernel
theorem dX5_fill_26 : decode cX5_fill 26 = .ok (.istore 6, 2) := by decide +kernel
theorem dX5_fill_28 : decode cX5_fill 28 = .ok (.aload_n 0, 1) := by decide +kernel
theorem dX5_fill_29 : decode cX5_fill 29 = .ok (.getfield 9, 3) := by decide +kernel
theorem dX5_fill_32 : decode cX5_fill 32 = .ok (.iload 6, 2) := by decide +kernel
theorem dX5_fill_34 : decode cX5_fill 34 = .ok (.dup2, 1) := by decide +kernel
theorem dX5_fill_35 : decode cX5_fill 35 = .ok (.iaload, 1) := by decide +kernel
theorem dX5_fill_36 : decode cX5_fill 36 = .ok (.iconst 1, 1) := by decide +kernel
theorem dX5_fill_37 : decode cX5_fill 37 = .ok (.iadd, 1) := by decide +kernel
theorem dX5_fill_38 : decode cX5_fill 38 = .ok (.iastore, 1) := by decide +kernel
theorem dX5_fill_39 : decode cX5_fill 39 = .ok (.aload_n 0, 1) := by decide +kernel
theorem dX5_fill_40 : decode cX5_fill 40 = .ok (.getfield 9, 3) := by decide +kernel
theorem dX5_fill_43 : decode cX5_fill 43 = .ok (.iload 6, 2) := by decide +kernel
theorem dX5_fill_45 : decode cX5_fill 45 = .ok (.iaload, 1) := by decide +kernel
theorem dX5_fill_46 : decode cX5_fill 46 = .ok (.aload_n 1, 1) := by decide +kernel
theorem dX5_fill_47 : decode cX5_fill 47 = .ok (.getfield 91, 3) := by decide +kernel
theorem dX5_fill_50 : decode cX5_fill 50 = .ok (.iload_n 2, 1) := by decide +kernel
theorem dX5_fill_51 : decode cX5_fill 51 = .ok (.iaload, 1) := by decide +kernel
theorem dX5_fill_52 : decode cX5_fill 52 = .ok (.if_icmp .lt 16, 3) := by decide +kernel
theorem dX5_fill_55 : decode cX5_fill 55 = .ok (.aload_n 0, 1) := by decide +kernel
theorem dX5_fill_56 : decode cX5_fill 56 = .ok (.getfield 15, 3) := by decide +kernel
theorem dX5_fill_59 : decode cX5_fill 59 = .ok (.iload_n 2, 1) := by decide +kernel
theorem dX5_fill_60 : decode cX5_fill 60 = .ok (.dup2, 1) := by decide +kernel
theorem dX5_fill_61 : decode cX5_fill 61 = .ok (.laload, 1) := by decide +kernel
theorem dX5_fill_62 : decode cX5_fill 62 = .ok (.lconst 1, 1) := by decide +kernel
theorem dX5_fill_63 : decode cX5_fill 63 = .ok (.iload 5, 2) := by decide +kernel
theorem dX5_fill_65 : decode cX5_fill 65 = .ok (.lshl, 1) := by decide +kernel
theorem dX5_fill_66 : decode cX5_fill 66 = .ok (.lor, 1) := by decide +kernel
theorem dX5_fill_67 : decode cX5_fill 67 = .ok (.lastore, 1) := by decide +kernel
theorem dX5_fill_68 : decode cX5_fill 68 = .ok (.iinc 5 1, 3) := by decide +kernel
theorem dX5_fill_71 : decode cX5_fill 71 = .ok (.goto (-68), 3) := by decide +kernel
theorem dX5_fill_74 : decode cX5_fill 74 = .ok (.return_, 1) := by decide +kernel
theorem dX6_init_0 : decode cX6_init 0 = .ok (.aload_n 0, 1) := by decide +kernel
theorem dX6_init_1 : decode cX6_init 1 = .ok (.invokespecial 3, 3) := by decide +kernel
theorem dX6_init_4 : decode cX6_init 4 = .ok (.aload_n 0, 1) := by decide +kernel
theorem dX6_init_5 : decode cX6_init 5 = .ok (.bipush 8, 2) := by decide +kernel
theorem dX6_init_7 : decode cX6_init 7 = .ok (.newarray .int, 2) := by decide +kernel
theorem dX6_init_9 : decode cX6_init 9 = .ok (.dup, 1) := by decide +kernel
theorem dX6_init_10 : decode cX6_init 10 = .ok (.iconst 0, 1) := by decide +kernel
theorem dX6_init_11 : decode cX6_init 11 = .ok (.iconst (-1), 1) := by decide +kernel
theorem dX6_init_12 : decode cX6_init 12 = .ok (.iastore, 1) := by decide +kernel
theorem dX6_init_13 : decode cX6_init 13 = .ok (.dup, 1) := by decide +kernel
theorem dX6_init_14 : decode cX6_init 14 = .ok (.iconst 1, 1) := by decide +kernel
theorem dX6_init_15 : decode cX6_init 15 = .ok (.iconst (-1), 1) := by decide +kernel
theorem dX6_init_16 : decode cX6_init 16 = .ok (.iastore, 1) := by decide +kernel
theorem dX6_init_17 : decode cX6_init 17 = .ok (.dup, 1) := by decide +kernel
theorem dX6_init_18 : decode cX6_init 18 = .ok (.iconst 2, 1) := by decide +kernel
theorem dX6_init_19 : decode cX6_init 19 = .ok (.iconst (-1), 1) := by decide +kernel
theorem dX6_init_20 : decode cX6_init 20 = .ok (.iastore, 1) := by decide +kernel
theorem dX6_init_21 : decode cX6_init 21 = .ok (.dup, 1) := by decide +kernel
theorem dX6_init_22 : decode cX6_init 22 = .ok (.iconst 3, 1) := by decide +kernel
theorem dX6_init_23 : decode cX6_init 23 = .ok (.iconst (-1), 1) := by decide +kernel
theorem dX6_init_24 : decode cX6_init 24 = .ok (.iastore, 1) := by decide +kernel
theorem dX6_init_25 : decode cX6_init 25 = .ok (.dup, 1) := by decide +kernel
theorem dX6_init_26 : decode cX6_init 26 = .ok (.iconst 4, 1) := by decide +kernel
theorem dX6_init_27 : decode cX6_init 27 = .ok (.iconst (-1), 1) := by decide +kernel
theorem dX6_init_28 : decode cX6_init 28 = .ok (.iastore, 1) := by decide +kernel
theorem dX6_init_29 : decode cX6_init 29 = .ok (.dup, 1) := by decide +kernel
theorem dX6_init_30 : decode cX6_init 30 = .ok (.iconst 5, 1) := by decide +kernel
theorem dX6_init_31 : decode cX6_init 31 = .ok (.iconst (-1), 1) := by decide +kernel
theorem dX6_init_32 : decode cX6_init 32 = .ok (.iastore, 1) := by decide +kernel
theorem dX6_init_33 : decode cX6_init 33 = .ok (.dup, 1) := by decide +kernel
theorem dX6_init_34 : decode cX6_init 34 = .ok (.bipush 6, 2) := by decide +kernel
theorem dX6_init_36 : decode cX6_init 36 = .ok (.iconst (-1), 1) := by decide +kernel
theorem dX6_init_37 : decode cX6_init 37 = .ok (.iastore, 1) := by decide +kernel
theorem dX6_init_38 : decode cX6_init 38 = .ok (.dup, 1) := by decide +kernel
theorem dX6_init_39 : decode cX6_init 39 = .ok (.bipush 7, 2) := by decide +kernel
theorem dX6_init_41 : decode cX6_init 41 = .ok (.iconst (-1), 1) := by decide +kernel
theorem dX6_init_42 : decode cX6_init 42 = .ok (.iastore, 1) := by decide +kernel
theorem dX6_init_43 : decode cX6_init 43 = .ok (.putfield 9, 3) := by decide +kernel
theorem dX6_init_46 : decode cX6_init 46 = .ok (.aload_n 0, 1) := by decide +kernel
theorem dX6_init_47 : decode cX6_init 47 = .ok (.bipush 8, 2) := by decide +kernel
theorem dX6_init_49 : decode cX6_init 49 = .ok (.newarray .int, 2) := by decide +kernel
theorem dX6_init_51 : decode cX6_init 51 = .ok (.putfield 15, 3) := by decide +kernel
theorem dX6_init_54 : decode cX6_init 54 = .ok (.aload_n 0, 1) := by decide +kernel
theorem dX6_init_55 : decode cX6_init 55 = .ok (.sipush 320, 3) := by decide +kernel
theorem dX6_init_58 : decode cX6_init 58 = .ok (.newarray .long, 2) := by decide +kernel
theorem dX6_init_60 : decode cX6_init 60 = .ok (.putfield 18, 3) := by decide +kernel
theorem dX6_init_63 : decode cX6_init 63 = .ok (.return_, 1) := by decide +kernel
theorem dX6_isShelf_0 : decode cX6_isShelf 0 = .ok (.iload_n 0, 1) := by decide +kernel
theorem dX6_isShelf_1 : decode cX6_isShelf 1 = .ok (.ifCond .lt 13, 3) := by decide +kernel
theorem dX6_isShelf_4 : decode cX6_isShelf 4 = .ok (.iload_n 0, 1) := by decide +kernel
theorem dX6_isShelf_5 : decode cX6_isShelf 5 = .ok (.bipush 8, 2) := by decide +kernel
theorem dX6_isShelf_7 : decode cX6_isShelf 7 = .ok (.if_icmp .ge 7, 3) := by decide +kernel
theorem dX6_isShelf_10 : decode cX6_isShelf 10 = .ok (.iconst 1, 1) := by decide +kernel
theorem dX6_isShelf_11 : decode cX6_isShelf 11 = .ok (.goto 4, 3) := by decide +kernel
theorem dX6_isShelf_14 : decode cX6_isShelf 14 = .ok (.iconst 0, 1) := by decide +kernel
theorem dX6_isShelf_15 : decode cX6_isShelf 15 = .ok (.ireturn, 1) := by decide +kernel
theorem dX6_holding_0 : decode cX6_holding 0 = .ok (.iload_n 1, 1) := by decide +kernel
theorem dX6_holding_1 : decode cX6_holding 1 = .ok (.invokestatic 22, 3) := by decide +kernel
theorem dX6_holding_4 : decode cX6_holding 4 = .ok (.ifCond .eq 12, 3) := by decide +kernel
theorem dX6_holding_7 : decode cX6_holding 7 = .ok (.aload_n 0, 1) := by decide +kernel
theorem dX6_holding_8 : decode cX6_holding 8 = .ok (.getfield 9, 3) := by decide +kernel
theorem dX6_holding_11 : decode cX6_holding 11 = .ok (.iload_n 1, 1) := by decide +kernel
theorem dX6_holding_12 : decode cX6_holding 12 = .ok (.iaload, 1) := by decide +kernel
theorem dX6_holding_13 : decode cX6_holding 13 = .ok (.goto 4, 3) := by decide +kernel
theorem dX6_holding_16 : decode cX6_holding 16 = .ok (.iconst (-1), 1) := by decide +kernel
theorem dX6_holding_17 : decode cX6_holding 17 = .ok (.ireturn, 1) := by decide +kernel
theorem dX6_candOn_0 : decode cX6_candOn 0 = .ok (.aload_n 0, 1) := by decide +kernel
theorem dX6_candOn_1 : decode cX6_candOn 1 = .ok (.iload_n 1, 1) := by decide +kernel
theorem dX6_candOn_2 : decode cX6_candOn 2 = .ok (.invokevirtual 26, 3) := by decide +kernel
theorem dX6_candOn_5 : decode cX6_candOn 5 = .ok (.istore_n 2, 1) := by decide +kernel
theorem dX6_candOn_6 : decode cX6_candOn 6 = .ok (.iload_n 2, 1) := by decide +kernel
theorem dX6_candOn_7 : decode cX6_candOn 7 = .ok (.bipush 10, 2) := by decide +kernel
theorem dX6_candOn_9 : decode cX6_candOn 9 = .ok (.if_icmp .lt 10, 3) := by decide +kernel
theorem dX6_candOn_12 : decode cX6_candOn 12 = .ok (.iload_n 2, 1) := by decide +kernel
theorem dX6_candOn_13 : decode cX6_candOn 13 = .ok (.bipush 10, 2) := by decide +kernel
theorem dX6_candOn_15 : decode cX6_candOn 15 = .ok (.isub, 1) := by decide +kernel
theorem dX6_candOn_16 : decode cX6_candOn 16 = .ok (.goto 4, 3) := by decide +kernel
theorem dX6_candOn_19 : decode cX6_candOn 19 = .ok (.iconst (-1), 1) := by decide +kernel
theorem dX6_candOn_20 : decode cX6_candOn 20 = .ok (.ireturn, 1) := by decide +kernel
theorem dX6_dropCandsFrom_0 : decode cX6_dropCandsFrom 0 = .ok (.iconst 0, 1) := by decide +kernel
theorem dX6_dropCandsFrom_1 : decode cX6_dropCandsFrom 1 = .ok (.istore_n 2, 1) := by decide +kernel
theorem dX6_dropCandsFrom_2 : decode cX6_dropCandsFrom 2 = .ok (.iload_n 2, 1) := by decide +kernel
theorem dX6_dropCandsFrom_3 : decode cX6_dropCandsFrom 3 = .ok (.bipush 8, 2) := by decide +kernel
theorem dX6_dropCandsFrom_5 : decode cX6_dropCandsFrom 5 = .ok (.if_icmp .ge 25, 3) := by decide +kernel
theorem dX6_dropCandsFrom_8 : decode cX6_dropCandsFrom 8 = .ok (.aload_n 0, 1) := by decide +kernel
theorem dX6_dropCandsFrom_9 : decode cX6_dropCandsFrom 9 = .ok (.iload_n 2, 1) := by decide +kernel
theorem dX6_dropCandsFrom_10 : decode cX6_dropCandsFrom 10 = .ok (.invokevirtual 44, 3) := by decide +kernel
theorem dX6_dropCandsFrom_13 : decode cX6_dropCandsFrom 13 = .ok (.iload_n 1, 1) := by decide +kernel
theorem dX6_dropCandsFrom_14 : decode cX6_dropCandsFrom 14 = .ok (.if_icmp .lt 10, 3) := by decide +kernel
theorem dX6_dropCandsFrom_17 : decode cX6_dropCandsFrom 17 = .ok (.aload_n 0, 1) := by decide +kernel
theorem dX6_dropCandsFrom_18 : decode cX6_dropCandsFrom 18 = .ok (.getfield 9, 3) := by decide +kernel
theorem dX6_dropCandsFrom_21 : decode cX6_dropCandsFrom 21 = .ok (.iload_n 2, 1) := by decide +kernel
theorem dX6_dropCandsFrom_22 : decode cX6_dropCandsFrom 22 = .ok (.iconst (-1), 1) := by decide +kernel
theorem dX6_dropCandsFrom_23 : decode cX6_dropCandsFrom 23 = .ok (.iastore, 1) := by decide +kernel
theorem dX6_dropCandsFrom_24 : decode cX6_dropCandsFrom 24 = .ok (.iinc 2 1, 3) := by decide +kernel
theorem dX6_dropCandsFrom_27 : decode cX6_dropCandsFrom 27 = .ok (.goto (-25), 3) := by decide +kernel
theorem dX6_dropCandsFrom_30 : decode cX6_dropCandsFrom 30 = .ok (.return_, 1) := by decide +kernel
theorem dX6_filled_0 : decode cX6_filled 0 = .ok (.iconst 0, 1) := by decide +kernel
theorem dX6_filled_1 : decode cX6_filled 1 = .ok (.istore_n 1, 1) := by decide +kernel
theorem dX6_filled_2 : decode cX6_filled 2 = .ok (.iconst 0, 1) := by decide +kernel
theorem dX6_filled_3 : decode cX6_filled 3 = .ok (.istore_n 2, 1) := by decide +kernel
theorem dX6_filled_4 : decode cX6_filled 4 = .ok (.iload_n 2, 1) := by decide +kernel
theorem dX6_filled_5 : decode cX6_filled 5 = .ok (.bipush 8, 2) := by decide +kernel
theorem dX6_filled_7 : decode cX6_filled 7 = .ok (.if_icmp .ge 22, 3) := by decide +kernel
theorem dX6_filled_10 : decode cX6_filled 10 = .ok (.aload_n 0, 1) := by decide +kernel
theorem dX6_filled_11 : decode cX6_filled 11 = .ok (.getfield 9, 3) := by decide +kernel
theorem dX6_filled_14 : decode cX6_filled 14 = .ok (.iload_n 2, 1) := by decide +kernel
theorem dX6_filled_15 : decode cX6_filled 15 = .ok (.iaload, 1) := by decide +kernel
theorem dX6_filled_16 : decode cX6_filled 16 = .ok (.iconst (-1), 1) := by decide +kernel
theorem dX6_filled_17 : decode cX6_filled 17 = .ok (.if_icmp .eq 6, 3) := by decide +kernel
theorem dX6_filled_20 : decode cX6_filled 20 = .ok (.iinc 1 1, 3) := by decide +kernel
theorem dX6_filled_23 : decode cX6_filled 23 = .ok (.iinc 2 1, 3) := by decide +kernel
theorem dX6_filled_26 : decode cX6_filled 26 = .ok (.goto (-22), 3) := by decide +kernel
theorem dX6_filled_29 : decode cX6_filled 29 = .ok (.iload_n 1, 1) := by decide +kernel
theorem dX6_filled_30 : decode cX6_filled 30 = .ok (.ireturn, 1) := by decide +kernel
theorem dX7_init_0 : decode cX7_init 0 = .ok (.aload_n 0, 1) := by decide +kernel
theorem dX7_init_1 : decode cX7_init 1 = .ok (.invokespecial 3, 3) := by decide +kernel
theorem dX7_init_4 : decode cX7_init 4 = .ok (.aload_n 0, 1) := by decide +kernel
theorem dX7_init_5 : decode cX7_init 5 = .ok (.sipush 250, 3) := by decide +kernel
theorem dX7_init_8 : decode cX7_init 8 = .ok (.newarray .int, 2) := by decide +kernel
theorem dX7_init_10 : decode cX7_init 10 = .ok (.putfield 11, 3) := by decide +kernel
theorem dX7_init_13 : decode cX7_init 13 = .ok (.return_, 1) := by decide +kernel
theorem dX7_size_0 : decode cX7_size 0 = .ok (.aload_n 0, 1) := by decide +kernel
theorem dX7_size_1 : decode cX7_size 1 = .ok (.getfield 15, 3) := by decide +kernel
theorem dX7_size_4 : decode cX7_size 4 = .ok (.ireturn, 1) := by decide +kernel
theorem dX8_init_0 : decode cX8_init 0 = .ok (.aload_n 0, 1) := by decide +kernel
theorem dX8_init_1 : decode cX8_init 1 = .ok (.invokespecial 3, 3) := by decide +kernel
theorem dX8_init_4 : decode cX8_init 4 = .ok (.aload_n 0, 1) := by decide +kernel
theorem dX8_init_5 : decode cX8_init 5 = .ok (.iconst 5, 1) := by decide +kernel
theorem dX8_init_6 : decode cX8_init 6 = .ok (.newarray .boolean, 2) := by decide +kernel
theorem dX8_init_8 : decode cX8_init 8 = .ok (.putfield 9, 3) := by decide +kernel
theorem dX8_init_11 : decode cX8_init 11 = .ok (.aload_n 0, 1) := by decide +kernel
theorem dX8_init_12 : decode cX8_init 12 = .ok (.iconst 5, 1) := by decide +kernel
theorem dX8_init_13 : decode cX8_init 13 = .ok (.newarray .int, 2) := by decide +kernel
theorem dX8_init_15 : decode cX8_init 15 = .ok (.putfield 15, 3) := by decide +kernel
theorem dX8_init_18 : decode cX8_init 18 = .ok (.aload_n 0, 1) := by decide +kernel
theorem dX8_init_19 : decode cX8_init 19 = .ok (.iconst 5, 1) := by decide +kernel
theorem dX8_init_20 : decode cX8_init 20 = .ok (.newarray .int, 2) := by decide +kernel
theorem dX8_init_22 : decode cX8_init 22 = .ok (.putfield 19, 3) := by decide +kernel
theorem dX8_init_25 : decode cX8_init 25 = .ok (.aload_n 0, 1) := by decide +kernel
theorem dX8_init_26 : decode cX8_init 26 = .ok (.iconst 5, 1) := by decide +kernel
theorem dX8_init_27 : decode cX8_init 27 = .ok (.newarray .int, 2) := by decide +kernel
theorem dX8_init_29 : decode cX8_init 29 = .ok (.putfield 22, 3) := by decide +kernel
theorem dX8_init_32 : decode cX8_init 32 = .ok (.aload_n 0, 1) := by decide +kernel
theorem dX8_init_33 : decode cX8_init 33 = .ok (.iconst 5, 1) := by decide +kernel
theorem dX8_init_34 : decode cX8_init 34 = .ok (.newarray .int, 2) := by decide +kernel
theorem dX8_init_36 : decode cX8_init 36 = .ok (.putfield 25, 3) := by decide +kernel
theorem dX8_init_39 : decode cX8_init 39 = .ok (.aload_n 0, 1) := by decide +kernel
theorem dX8_init_40 : decode cX8_init 40 = .ok (.iconst 5, 1) := by decide +kernel
theorem dX8_init_41 : decode cX8_init 41 = .ok (.newarray .long, 2) := by decide +kernel
theorem dX8_init_43 : decode cX8_init 43 = .ok (.putfield 28, 3) := by decide +kernel
theorem dX8_init_46 : decode cX8_init 46 = .ok (.aload_n 0, 1) := by decide +kernel
theorem dX8_init_47 : decode cX8_init 47 = .ok (.bipush 20, 2) := by decide +kernel
theorem dX8_init_49 : decode cX8_init 49 = .ok (.newarray .int, 2) := by decide +kernel
theorem dX8_init_51 : decode cX8_init 51 = .ok (.putfield 32, 3) := by decide +kernel
theorem dX8_init_54 : decode cX8_init 54 = .ok (.aload_n 0, 1) := by decide +kernel
theorem dX8_init_55 : decode cX8_init 55 = .ok (.bipush 20, 2) := by decide +kernel
theorem dX8_init_57 : decode cX8_init 57 = .ok (.newarray .int, 2) := by decide +kernel
theorem dX8_init_59 : decode cX8_init 59 = .ok (.putfield 35, 3) := by decide +kernel
theorem dX8_init_62 : decode cX8_init 62 = .ok (.aload_n 0, 1) := by decide +kernel
theorem dX8_init_63 : decode cX8_init 63 = .ok (.bipush 20, 2) := by decide +kernel
theorem dX8_init_65 : decode cX8_init 65 = .ok (.newarray .int, 2) := by decide +kernel
theorem dX8_init_67 : decode cX8_init 67 = .ok (.putfield 38, 3) := by decide +kernel
theorem dX8_init_70 : decode cX8_init 70 = .ok (.return_, 1) := by decide +kernel
theorem dX8_become_0 : decode cX8_become 0 = .ok (.iconst 0, 1) := by decide +kernel
theorem dX8_become_1 : decode cX8_become 1 = .ok (.istore_n 2, 1) := by decide +kernel
theorem dX8_become_2 : decode cX8_become 2 = .ok (.iload_n 2, 1) := by decide +kernel
theorem dX8_become_3 : decode cX8_become 3 = .ok (.iconst 5, 1) := by decide +kernel
theorem dX8_become_4 : decode cX8_become 4 = .ok (.if_icmp .ge 21, 3) := by decide +kernel
theorem dX8_become_7 : decode cX8_become 7 = .ok (.aload_n 0, 1) := by decide +kernel
theorem dX8_become_8 : decode cX8_become 8 = .ok (.getfield 9, 3) := by decide +kernel
theorem dX8_become_11 : decode cX8_become 11 = .ok (.iload_n 2, 1) := by decide +kernel
theorem dX8_become_12 : decode cX8_become 12 = .ok (.aload_n 1, 1) := by decide +kernel
theorem dX8_become_13 : decode cX8_become 13 = .ok (.getfield 9, 3) := by decide +kernel
theorem dX8_become_16 : decode cX8_become 16 = .ok (.iload_n 2, 1) := by decide +kernel
theorem dX8_become_17 : decode cX8_become 17 = .ok (.baload, 1) := by decide +kernel
theorem dX8_become_18 : decode cX8_become 18 = .ok (.bastore, 1) := by decide +kernel
theorem dX8_become_19 : decode cX8_become 19 = .ok (.iinc 2 1, 3) := by decide +kernel
theorem dX8_become_22 : decode cX8_become 22 = .ok (.goto (-20), 3) := by decide +kernel
theorem dX8_become_25 : decode cX8_become 25 = .ok (.aload_n 1, 1) := by decide +kernel
theorem dX8_become_26 : decode cX8_become 26 = .ok (.getfield 15, 3) := by decide +kernel
theorem dX8_become_29 : decode cX8_become 29 = .ok (.iconst 0, 1) := by decide +kernel
theorem dX8_become_30 : decode cX8_become 30 = .ok (.aload_n 0, 1) := by decide +kernel
theorem dX8_become_31 : decode cX8_become 31 = .ok (.getfield 15, 3) := by decide +kernel
theorem dX8_become_34 : decode cX8_become 34 = .ok (.iconst 0, 1) := by decide +kernel
theorem dX8_become_35 : decode cX8_become 35 = .ok (.iconst 5, 1) := by decide +kernel
theorem dX8_become_36 : decode cX8_become 36 = .ok (.invokestatic 41, 3) := by decide +kernel
theorem dX8_become_39 : decode cX8_become 39 = .ok (.aload_n 1, 1) := by decide +kernel
theorem dX8_become_40 : decode cX8_become 40 = .ok (.getfield 19, 3) := by decide +kernel
theorem dX8_become_43 : decode cX8_become 43 = .ok (.iconst 0, 1) := by decide +kernel
theorem dX8_become_44 : decode cX8_become 44 = .ok (.aload_n 0, 1) := by decide +kernel
theorem dX8_become_45 : decode cX8_become 45 = .ok (.getfield 19, 3) := by decide +kernel
theorem dX8_become_48 : decode cX8_become 48 = .ok (.iconst 0, 1) := by decide +kernel
theorem dX8_become_49 : decode cX8_become 49 = .ok (.iconst 5, 1) := by decide +kernel
theorem dX8_become_50 : decode cX8_become 50 = .ok (.invokestatic 41, 3) := by decide +kernel
theorem dX8_become_53 : decode cX8_become 53 = .ok (.aload_n 1, 1) := by decide +kernel
theorem dX8_become_54 : decode cX8_become 54 = .ok (.getfield 22, 3) := by decide +kernel
theorem dX8_become_57 : decode cX8_become 57 = .ok (.iconst 0, 1) := by decide +kernel
theorem dX8_become_58 : decode cX8_become 58 = .ok (.aload_n 0, 1) := by decide +kernel
theorem dX8_become_59 : decode cX8_become 59 = .ok (.getfield 22, 3) := by decide +kernel
theorem dX8_become_62 : decode cX8_become 62 = .ok (.iconst 0, 1) := by decide +kernel
theorem dX8_become_63 : decode cX8_become 63 = .ok (.iconst 5, 1) := by decide +kernel
theorem dX8_become_64 : decode cX8_become 64 = .ok (.invokestatic 41, 3) := by decide +kernel
theorem dX8_become_67 : decode cX8_become 67 = .ok (.aload_n 1, 1) := by decide +kernel
theorem dX8_become_68 : decode cX8_become 68 = .ok (.getfield 25, 3) := by decide +kernel
theorem dX8_become_71 : decode cX8_become 71 = .ok (.iconst 0, 1) := by decide +kernel
theorem dX8_become_72 : decode cX8_become 72 = .ok (.aload_n 0, 1) := by decide +kernel
theorem dX8_become_73 : decode cX8_become 73 = .ok (.getfield 25, 3) := by decide +kernel
theorem dX8_become_76 : decode cX8_become 76 = .ok (.iconst 0, 1) := by decide +kernel
theorem dX8_become_77 : decode cX8_become 77 = .ok (.iconst 5, 1) := by decide +kernel
theorem dX8_become_78 : decode cX8_become 78 = .ok (.invokestatic 41, 3) := by decide +kernel
theorem dX8_become_81 : decode cX8_become 81 = .ok (.aload_n 1, 1) := by decide +kernel
theorem dX8_become_82 : decode cX8_become 82 = .ok (.getfield 28, 3) := by decide +kernel
theorem dX8_become_85 : decode cX8_become 85 = .ok (.iconst 0, 1) := by decide +kernel
theorem dX8_become_86 : decode cX8_become 86 = .ok (.aload_n 0, 1) := by decide +kernel
theorem dX8_become_87 : decode cX8_become 87 = .ok (.getfield 28, 3) := by decide +kernel
theorem dX8_become_90 : decode cX8_become 90 = .ok (.iconst 0, 1) := by decide +kernel
theorem dX8_become_91 : decode cX8_become 91 = .ok (.iconst 5, 1) := by decide +kernel
theorem dX8_become_92 : decode cX8_become 92 = .ok (.invokestatic 41, 3) := by decide +kernel
theorem dX8_become_95 : decode cX8_become 95 = .ok (.aload_n 1, 1) := by decide +kernel
theorem dX8_become_96 : decode cX8_become 96 = .ok (.getfield 32, 3) := by decide +kernel
theorem dX8_become_99 : decode cX8_become 99 = .ok (.iconst 0, 1) := by decide +kernel
theorem dX8_become_100 : decode cX8_become 100 = .ok (.aload_n 0, 1) := by decide +kernel
theorem dX8_become_101 : decode cX8_become 101 = .ok (.getfield 32, 3) := by decide +kernel
theorem dX8_become_104 : decode cX8_become 104 = .ok (.iconst 0, 1) := by decide +kernel
theorem dX8_become_105 : decode cX8_become 105 = .ok (.bipush 20, 2) := by decide +kernel
theorem dX8_become_107 : decode cX8_become 107 = .ok (.invokestatic 41, 3) := by decide +kernel
theorem dX8_become_110 : decode cX8_become 110 = .ok (.aload_n 1, 1) := by decide +kernel
theorem dX8_become_111 : decode cX8_become 111 = .ok (.getfield 35, 3) := by decide +kernel
theorem dX8_become_114 : decode cX8_become 114 = .ok (.iconst 0, 1) := by decide +kernel
theorem dX8_become_115 : decode cX8_become 115 = .ok (.aload_n 0, 1) := by decide +kernel
theorem dX8_become_116 : decode cX8_become 116 = .ok (.getfield 35, 3) := by decide +kernel
theorem dX8_become_119 : decode cX8_become 119 = .ok (.iconst 0, 1) := by decide +kernel
theorem dX8_become_120 : decode cX8_become 120 = .ok (.bipush 20, 2) := by decide +kernel
theorem dX8_become_122 : decode cX8_become 122 = .ok (.invokestatic 41, 3) := by decide +kernel
theorem dX8_become_125 : decode cX8_become 125 = .ok (.aload_n 1, 1) := by decide +kernel
theorem dX8_become_126 : decode cX8_become 126 = .ok (.getfield 38, 3) := by decide +kernel
theorem dX8_become_129 : decode cX8_become 129 = .ok (.iconst 0, 1) := by decide +kernel
theorem dX8_become_130 : decode cX8_become 130 = .ok (.aload_n 0, 1) := by decide +kernel
theorem dX8_become_131 : decode cX8_become 131 = .ok (.getfield 38, 3) := by decide +kernel
theorem dX8_become_134 : decode cX8_become 134 = .ok (.iconst 0, 1) := by decide +kernel
theorem dX8_become_135 : decode cX8_become 135 = .ok (.bipush 20, 2) := by decide +kernel
theorem dX8_become_137 : decode cX8_become 137 = .ok (.invokestatic 41, 3) := by decide +kernel
theorem dX8_become_140 : decode cX8_become 140 = .ok (.return_, 1) := by decide +kernel
theorem dX8_open_0 : decode cX8_open 0 = .ok (.aload_n 0, 1) := by decide +kernel
theorem dX8_open_1 : decode cX8_open 1 = .ok (.getfield 9, 3) := by decide +kernel
theorem dX8_open_4 : decode cX8_open 4 = .ok (.iload_n 1, 1) := by decide +kernel
theorem dX8_open_5 : decode cX8_open 5 = .ok (.iconst 0, 1) := by decide +kernel
theorem dX8_open_6 : decode cX8_open 6 = .ok (.bastore, 1) := by decide +kernel
theorem dX8_open_7 : decode cX8_open 7 = .ok (.aload_n 0, 1) := by decide +kernel
theorem dX8_open_8 : decode cX8_open 8 = .ok (.getfield 15, 3) := by decide +kernel
theorem dX8_open_11 : decode cX8_open 11 = .ok (.iload_n 1, 1) := by decide +kernel
theorem dX8_open_12 : decode cX8_open 12 = .ok (.iconst (-1), 1) := by decide +kernel
theorem dX8_open_13 : decode cX8_open 13 = .ok (.iastore, 1) := by decide +kernel
theorem dX8_open_14 : decode cX8_open 14 = .ok (.aload_n 0, 1) := by decide +kernel
theorem dX8_open_15 : decode cX8_open 15 = .ok (.getfield 19, 3) := by decide +kernel
theorem dX8_open_18 : decode cX8_open 18 = .ok (.iload_n 1, 1) := by decide +kernel
theorem dX8_open_19 : decode cX8_open 19 = .ok (.iload_n 2, 1) := by decide +kernel
theorem dX8_open_20 : decode cX8_open 20 = .ok (.iastore, 1) := by decide +kernel
theorem dX8_open_21 : decode cX8_open 21 = .ok (.aload_n 0, 1) := by decide +kernel
theorem dX8_open_22 : decode cX8_open 22 = .ok (.getfield 22, 3) := by decide +kernel
theorem dX8_open_25 : decode cX8_open 25 = .ok (.iload_n 1, 1) := by decide +kernel
theorem dX8_open_26 : decode cX8_open 26 = .ok (.iload_n 3, 1) := by decide +kernel
theorem dX8_open_27 : decode cX8_open 27 = .ok (.iastore, 1) := by decide +kernel
theorem dX8_open_28 : decode cX8_open 28 = .ok (.aload_n 0, 1) := by decide +kernel
theorem dX8_open_29 : decode cX8_open 29 = .ok (.getfield 25, 3) := by decide +kernel
theorem dX8_open_32 : decode cX8_open 32 = .ok (.iload_n 1, 1) := by decide +kernel
theorem dX8_open_33 : decode cX8_open 33 = .ok (.iconst 0, 1) := by decide +kernel
theorem dX8_open_34 : decode cX8_open 34 = .ok (.iastore, 1) := by decide +kernel
theorem dX8_open_35 : decode cX8_open 35 = .ok (.aload_n 0, 1) := by decide +kernel
theorem dX8_open_36 : decode cX8_open 36 = .ok (.getfield 28, 3) := by decide +kernel
theorem dX8_open_39 : decode cX8_open 39 = .ok (.iload_n 1, 1) := by decide +kernel
theorem dX8_open_40 : decode cX8_open 40 = .ok (.lconst 0, 1) := by decide +kernel
theorem dX8_open_41 : decode cX8_open 41 = .ok (.lastore, 1) := by decide +kernel
theorem dX8_open_42 : decode cX8_open 42 = .ok (.return_, 1) := by decide +kernel
theorem dX8_put_0 : decode cX8_put 0 = .ok (.aload_n 0, 1) := by decide +kernel
theorem dX8_put_1 : decode cX8_put 1 = .ok (.getfield 9, 3) := by decide +kernel
theorem dX8_put_4 : decode cX8_put 4 = .ok (.iload_n 1, 1) := by decide +kernel
theorem dX8_put_5 : decode cX8_put 5 = .ok (.iconst 1, 1) := by decide +kernel
theorem dX8_put_6 : decode cX8_put 6 = .ok (.bastore, 1) := by decide +kernel
theorem dX8_put_7 : decode cX8_put 7 = .ok (.aload_n 0, 1) := by decide +kernel
theorem dX8_put_8 : decode cX8_put 8 = .ok (.getfield 15, 3) := by decide +kernel
theorem dX8_put_11 : decode cX8_put 11 = .ok (.iload_n 1, 1) := by decide +kernel
theorem dX8_put_12 : decode cX8_put 12 = .ok (.iload_n 3, 1) := by decide +kernel
theorem dX8_put_13 : decode cX8_put 13 = .ok (.iastore, 1) := by decide +kernel
theorem dX8_put_14 : decode cX8_put 14 = .ok (.aload_n 0, 1) := by decide +kernel
theorem dX8_put_15 : decode cX8_put 15 = .ok (.getfield 25, 3) := by decide +kernel
theorem dX8_put_18 : decode cX8_put 18 = .ok (.iload_n 1, 1) := by decide +kernel
theorem dX8_put_19 : decode cX8_put 19 = .ok (.aload_n 2, 1) := by decide +kernel
theorem dX8_put_20 : decode cX8_put 20 = .ok (.invokevirtual 47, 3) := by decide +kernel
theorem dX8_put_23 : decode cX8_put 23 = .ok (.iastore, 1) := by decide +kernel
theorem dX8_put_24 : decode cX8_put 24 = .ok (.aload_n 0, 1) := by decide +kernel
theorem dX8_put_25 : decode cX8_put 25 = .ok (.getfield 28, 3) := by decide +kernel
theorem dX8_put_28 : decode cX8_put 28 = .ok (.iload_n 1, 1) := by decide +kernel
theorem dX8_put_29 : decode cX8_put 29 = .ok (.aload_n 2, 1) := by decide +kernel
theorem dX8_put_30 : decode cX8_put 30 = .ok (.invokevirtual 52, 3) := by decide +kernel
theorem dX8_put_33 : decode cX8_put 33 = .ok (.lastore, 1) := by decide +kernel
theorem dX8_put_34 : decode cX8_put 34 = .ok (.iconst 0, 1) := by decide +kernel
theorem dX8_put_35 : decode cX8_put 35 = .ok (.istore 4, 2) := by decide +kernel
theorem dX8_put_37 : decode cX8_put 37 = .ok (.iload 4, 2) := by decide +kernel
theorem dX8_put_39 : decode cX8_put 39 = .ok (.aload_n 2, 1) := by decide +kernel
theorem dX8_put_40 : decode cX8_put 40 = .ok (.invokevirtual 47, 3) := by decide +kernel
theorem dX8_put_43 : decode cX8_put 43 = .ok (.if_icmp .ge 62, 3) := by decide +kernel
theorem dX8_put_46 : decode cX8_put 46 = .ok (.iload 4, 2) := by decide +kernel
theorem dX8_put_48 : decode cX8_put 48 = .ok (.iconst 4, 1) := by decide +kernel
theorem dX8_put_49 : decode cX8_put 49 = .ok (.if_icmp .ge 56, 3) := by decide +kernel
theorem dX8_put_52 : decode cX8_put 52 = .ok (.iload_n 1, 1) := by decide +kernel
theorem dX8_put_53 : decode cX8_put 53 = .ok (.iconst 4, 1) := by decide +kernel
theorem dX8_put_54 : decode cX8_put 54 = .ok (.imul, 1) := by decide +kernel
theorem dX8_put_55 : decode cX8_put 55 = .ok (.iload 4, 2) := by decide +kernel
theorem dX8_put_57 : decode cX8_put 57 = .ok (.iadd, 1) := by decide +kernel
theorem dX8_put_58 : decode cX8_put 58 = .ok (.istore 5, 2) := by decide +kernel
theorem dX8_put_60 : decode cX8_put 60 = .ok (.aload_n 0, 1) := by decide +kernel
theorem dX8_put_61 : decode cX8_put 61 = .ok (.getfield 32, 3) := by decide +kernel
theorem dX8_put_64 : decode cX8_put 64 = .ok (.iload 5, 2) := by decide +kernel
theorem dX8_put_66 : decode cX8_put 66 = .ok (.aload_n 2, 1) := by decide +kernel
theorem dX8_put_67 : decode cX8_put 67 = .ok (.iload 4, 2) := by decide +kernel
theorem dX8_put_69 : decode cX8_put 69 = .ok (.invokevirtual 56, 3) := by decide +kernel
theorem dX8_put_72 : decode cX8_put 72 = .ok (.iastore, 1) := by decide +kernel
theorem dX8_put_73 : decode cX8_put 73 = .ok (.aload_n 0, 1) := by decide +kernel
theorem dX8_put_74 : decode cX8_put 74 = .ok (.getfield 35, 3) := by decide +kernel
theorem dX8_put_77 : decode cX8_put 77 = .ok (.iload 5, 2) := by decide +kernel
theorem dX8_put_79 : decode cX8_put 79 = .ok (.aload_n 2, 1) := by decide +kernel
theorem dX8_put_80 : decode cX8_put 80 = .ok (.iload 4, 2) := by decide +kernel
theorem dX8_put_82 : decode cX8_put 82 = .ok (.invokevirtual 60, 3) := by decide +kernel
theorem dX8_put_85 : decode cX8_put 85 = .ok (.iastore, 1) := by decide +kernel
theorem dX8_put_86 : decode cX8_put 86 = .ok (.aload_n 0, 1) := by decide +kernel
theorem dX8_put_87 : decode cX8_put 87 = .ok (.getfield 38, 3) := by decide +kernel
theorem dX8_put_90 : decode cX8_put 90 = .ok (.iload 5, 2) := by decide +kernel
theorem dX8_put_92 : decode cX8_put 92 = .ok (.aload_n 2, 1) := by decide +kernel
theorem dX8_put_93 : decode cX8_put 93 = .ok (.iload 4, 2) := by decide +kernel
theorem dX8_put_95 : decode cX8_put 95 = .ok (.invokevirtual 63, 3) := by decide +kernel
theorem dX8_put_98 : decode cX8_put 98 = .ok (.iastore, 1) := by decide +kernel
theorem dX8_put_99 : decode cX8_put 99 = .ok (.iinc 4 1, 3) := by decide +kernel
theorem dX8_put_102 : decode cX8_put 102 = .ok (.goto (-65), 3) := by decide +kernel
theorem dX8_put_105 : decode cX8_put 105 = .ok (.return_, 1) := by decide +kernel
theorem dX8_cameTo_0 : decode cX8_cameTo 0 = .ok (.iload_n 1, 1) := by decide +kernel
theorem dX8_cameTo_1 : decode cX8_cameTo 1 = .ok (.ifCond .le 19, 3) := by decide +kernel
theorem dX8_cameTo_4 : decode cX8_cameTo 4 = .ok (.iload_n 1, 1) := by decide +kernel
theorem dX8_cameTo_5 : decode cX8_cameTo 5 = .ok (.iconst 5, 1) := by decide +kernel
theorem dX8_cameTo_6 : decode cX8_cameTo 6 = .ok (.if_icmp .ge 14, 3) := by decide +kernel
theorem dX8_cameTo_9 : decode cX8_cameTo 9 = .ok (.aload_n 0, 1) := by decide +kernel
theorem dX8_cameTo_10 : decode cX8_cameTo 10 = .ok (.getfield 15, 3) := by decide +kernel
theorem dX8_cameTo_13 : decode cX8_cameTo 13 = .ok (.iload_n 1, 1) := by decide +kernel
theorem dX8_cameTo_14 : decode cX8_cameTo 14 = .ok (.iconst 1, 1) := by decide +kernel
theorem dX8_cameTo_15 : decode cX8_cameTo 15 = .ok (.isub, 1) := by decide +kernel
theorem dX8_cameTo_16 : decode cX8_cameTo 16 = .ok (.iaload, 1) := by decide +kernel
theorem dX8_cameTo_17 : decode cX8_cameTo 17 = .ok (.goto 4, 3) := by decide +kernel
theorem dX8_cameTo_20 : decode cX8_cameTo 20 = .ok (.iconst (-1), 1) := by decide +kernel
theorem dX8_cameTo_21 : decode cX8_cameTo 21 = .ok (.ireturn, 1) := by decide +kernel
theorem dX8_cants_0 : decode cX8_cants 0 = .ok (.iconst 0, 1) := by decide +kernel
theorem dX8_cants_1 : decode cX8_cants 1 = .ok (.istore_n 1, 1) := by decide +kernel
theorem dX8_cants_2 : decode cX8_cants 2 = .ok (.iconst 0, 1) := by decide +kernel
theorem dX8_cants_3 : decode cX8_cants 3 = .ok (.istore_n 2, 1) := by decide +kernel
theorem dX8_cants_4 : decode cX8_cants 4 = .ok (.iload_n 2, 1) := by decide +kernel
theorem dX8_cants_5 : decode cX8_cants 5 = .ok (.iconst 5, 1) := by decide +kernel
theorem dX8_cants_6 : decode cX8_cants 6 = .ok (.if_icmp .ge 21, 3) := by decide +kernel
theorem dX8_cants_9 : decode cX8_cants 9 = .ok (.aload_n 0, 1) := by decide +kernel
theorem dX8_cants_10 : decode cX8_cants 10 = .ok (.getfield 9, 3) := by decide +kernel
theorem dX8_cants_13 : decode cX8_cants 13 = .ok (.iload_n 2, 1) := by decide +kernel
theorem dX8_cants_14 : decode cX8_cants 14 = .ok (.baload, 1) := by decide +kernel
theorem dX8_cants_15 : decode cX8_cants 15 = .ok (.ifCond .ne 6, 3) := by decide +kernel
theorem dX8_cants_18 : decode cX8_cants 18 = .ok (.iinc 1 1, 3) := by decide +kernel
theorem dX8_cants_21 : decode cX8_cants 21 = .ok (.iinc 2 1, 3) := by decide +kernel
theorem dX8_cants_24 : decode cX8_cants 24 = .ok (.goto (-20), 3) := by decide +kernel
theorem dX8_cants_27 : decode cX8_cants 27 = .ok (.iload_n 1, 1) := by decide +kernel
theorem dX8_cants_28 : decode cX8_cants 28 = .ok (.ireturn, 1) := by decide +kernel
theorem dX8_keptSlots_0 : decode cX8_keptSlots 0 = .ok (.iconst 0, 1) := by decide +kernel
theorem dX8_keptSlots_1 : decode cX8_keptSlots 1 = .ok (.istore_n 1, 1) := by decide +kernel
theorem dX8_keptSlots_2 : decode cX8_keptSlots 2 = .ok (.iconst 0, 1) := by decide +kernel
theorem dX8_keptSlots_3 : decode cX8_keptSlots 3 = .ok (.istore_n 2, 1) := by decide +kernel
theorem dX8_keptSlots_4 : decode cX8_keptSlots 4 = .ok (.iload_n 2, 1) := by decide +kernel
theorem dX8_keptSlots_5 : decode cX8_keptSlots 5 = .ok (.iconst 5, 1) := by decide +kernel
theorem dX8_keptSlots_6 : decode cX8_keptSlots 6 = .ok (.if_icmp .ge 21, 3) := by decide +kernel
theorem dX8_keptSlots_9 : decode cX8_keptSlots 9 = .ok (.iload_n 1, 1) := by decide +kernel
theorem dX8_keptSlots_10 : decode cX8_keptSlots 10 = .ok (.aload_n 0, 1) := by decide +kernel
theorem dX8_keptSlots_11 : decode cX8_keptSlots 11 = .ok (.getfield 28, 3) := by decide +kernel
theorem dX8_keptSlots_14 : decode cX8_keptSlots 14 = .ok (.iload_n 2, 1) := by decide +kernel
theorem dX8_keptSlots_15 : decode cX8_keptSlots 15 = .ok (.laload, 1) := by decide +kernel
theorem dX8_keptSlots_16 : decode cX8_keptSlots 16 = .ok (.invokestatic 66, 3) := by decide +kernel
theorem dX8_keptSlots_19 : decode cX8_keptSlots 19 = .ok (.iadd, 1) := by decide +kernel
theorem dX8_keptSlots_20 : decode cX8_keptSlots 20 = .ok (.istore_n 1, 1) := by decide +kernel
theorem dX8_keptSlots_21 : decode cX8_keptSlots 21 = .ok (.iinc 2 1, 3) := by decide +kernel
theorem dX8_keptSlots_24 : decode cX8_keptSlots 24 = .ok (.goto (-20), 3) := by decide +kernel
theorem dX8_keptSlots_27 : decode cX8_keptSlots 27 = .ok (.iload_n 1, 1) := by decide +kernel
theorem dX8_keptSlots_28 : decode cX8_keptSlots 28 = .ok (.ireturn, 1) := by decide +kernel
theorem dX8_deed_0 : decode cX8_deed 0 = .ok (.iload_n 2, 1) := by decide +kernel
theorem dX8_deed_1 : decode cX8_deed 1 = .ok (.aload_n 0, 1) := by decide +kernel
theorem dX8_deed_2 : decode cX8_deed 2 = .ok (.getfield 22, 3) := by decide +kernel
theorem dX8_deed_5 : decode cX8_deed 5 = .ok (.iload_n 1, 1) := by decide +kernel
theorem dX8_deed_6 : decode cX8_deed 6 = .ok (.iaload, 1) := by decide +kernel
theorem dX8_deed_7 : decode cX8_deed 7 = .ok (.if_icmp .ge 9, 3) := by decide +kernel
theorem dX8_deed_10 : decode cX8_deed 10 = .ok (.aload_n 0, 1) := by decide +kernel
theorem dX8_deed_11 : decode cX8_deed 11 = .ok (.iload_n 1, 1) := by decide +kernel
theorem dX8_deed_12 : decode cX8_deed 12 = .ok (.invokevirtual 72, 3) := by decide +kernel
theorem dX8_deed_15 : decode cX8_deed 15 = .ok (.ireturn, 1) := by decide +kernel
theorem dX8_deed_16 : decode cX8_deed 16 = .ok (.iconst 0, 1) := by decide +kernel
theorem dX8_deed_17 : decode cX8_deed 17 = .ok (.istore_n 3, 1) := by decide +kernel
theorem dX8_deed_18 : decode cX8_deed 18 = .ok (.iload_n 3, 1) := by decide +kernel
theorem dX8_deed_19 : decode cX8_deed 19 = .ok (.aload_n 0, 1) := by decide +kernel
theorem dX8_deed_20 : decode cX8_deed 20 = .ok (.getfield 25, 3) := by decide +kernel
theorem dX8_deed_23 : decode cX8_deed 23 = .ok (.iload_n 1, 1) := by decide +kernel
theorem dX8_deed_24 : decode cX8_deed 24 = .ok (.iaload, 1) := by decide +kernel
theorem dX8_deed_25 : decode cX8_deed 25 = .ok (.if_icmp .ge 46, 3) := by decide +kernel
theorem dX8_deed_28 : decode cX8_deed 28 = .ok (.iload_n 1, 1) := by decide +kernel
theorem dX8_deed_29 : decode cX8_deed 29 = .ok (.iconst 4, 1) := by decide +kernel
theorem dX8_deed_30 : decode cX8_deed 30 = .ok (.imul, 1) := by decide +kernel
theorem dX8_deed_31 : decode cX8_deed 31 = .ok (.iload_n 3, 1) := by decide +kernel
theorem dX8_deed_32 : decode cX8_deed 32 = .ok (.iadd, 1) := by decide +kernel
theorem dX8_deed_33 : decode cX8_deed 33 = .ok (.istore 4, 2) := by decide +kernel
theorem dX8_deed_35 : decode cX8_deed 35 = .ok (.aload_n 0, 1) := by decide +kernel
theorem dX8_deed_36 : decode cX8_deed 36 = .ok (.getfield 35, 3) := by decide +kernel
theorem dX8_deed_39 : decode cX8_deed 39 = .ok (.iload 4, 2) := by decide +kernel
theorem dX8_deed_41 : decode cX8_deed 41 = .ok (.iaload, 1) := by decide +kernel
theorem dX8_deed_42 : decode cX8_deed 42 = .ok (.iload_n 2, 1) := by decide +kernel
theorem dX8_deed_43 : decode cX8_deed 43 = .ok (.if_icmp .gt 22, 3) := by decide +kernel
theorem dX8_deed_46 : decode cX8_deed 46 = .ok (.iload_n 2, 1) := by decide +kernel
theorem dX8_deed_47 : decode cX8_deed 47 = .ok (.aload_n 0, 1) := by decide +kernel
theorem dX8_deed_48 : decode cX8_deed 48 = .ok (.getfield 38, 3) := by decide +kernel
theorem dX8_deed_51 : decode cX8_deed 51 = .ok (.iload 4, 2) := by decide +kernel
theorem dX8_deed_53 : decode cX8_deed 53 = .ok (.iaload, 1) := by decide +kernel
theorem dX8_deed_54 : decode cX8_deed 54 = .ok (.if_icmp .ge 11, 3) := by decide +kernel
theorem dX8_deed_57 : decode cX8_deed 57 = .ok (.aload_n 0, 1) := by decide +kernel
theorem dX8_deed_58 : decode cX8_deed 58 = .ok (.getfield 32, 3) := by decide +kernel
theorem dX8_deed_61 : decode cX8_deed 61 = .ok (.iload 4, 2) := by decide +kernel
theorem dX8_deed_63 : decode cX8_deed 63 = .ok (.iaload, 1) := by decide +kernel
theorem dX8_deed_64 : decode cX8_deed 64 = .ok (.ireturn, 1) := by decide +kernel
theorem dX8_deed_65 : decode cX8_deed 65 = .ok (.iinc 3 1, 3) := by decide +kernel
theorem dX8_deed_68 : decode cX8_deed 68 = .ok (.goto (-50), 3) := by decide +kernel
theorem dX8_deed_71 : decode cX8_deed 71 = .ok (.aload_n 0, 1) := by decide +kernel
theorem dX8_deed_72 : decode cX8_deed 72 = .ok (.getfield 28, 3) := by decide +kernel
theorem dX8_deed_75 : decode cX8_deed 75 = .ok (.iload_n 1, 1) := by decide +kernel
theorem dX8_deed_76 : decode cX8_deed 76 = .ok (.laload, 1) := by decide +kernel
theorem dX8_deed_77 : decode cX8_deed 77 = .ok (.iload_n 2, 1) := by decide +kernel
theorem dX8_deed_78 : decode cX8_deed 78 = .ok (.invokestatic 75, 3) := by decide +kernel
theorem dX8_deed_81 : decode cX8_deed 81 = .ok (.ifCond .eq 8, 3) := by decide +kernel
theorem dX8_deed_84 : decode cX8_deed 84 = .ok (.bipush 20, 2) := by decide +kernel
theorem dX8_deed_86 : decode cX8_deed 86 = .ok (.goto 4, 3) := by decide +kernel
theorem dX8_deed_89 : decode cX8_deed 89 = .ok (.iconst (-1), 1) := by decide +kernel
theorem dX8_deed_90 : decode cX8_deed 90 = .ok (.ireturn, 1) := by decide +kernel
theorem dX8_measured_0 : decode cX8_measured 0 = .ok (.iload_n 3, 1) := by decide +kernel
theorem dX8_measured_1 : decode cX8_measured 1 = .ok (.ifCond .ne 13, 3) := by decide +kernel
theorem dX8_measured_4 : decode cX8_measured 4 = .ok (.aload_n 0, 1) := by decide +kernel
theorem dX8_measured_5 : decode cX8_measured 5 = .ok (.getfield 28, 3) := by decide +kernel
theorem dX8_measured_8 : decode cX8_measured 8 = .ok (.iload_n 2, 1) := by decide +kernel
theorem dX8_measured_9 : decode cX8_measured 9 = .ok (.laload, 1) := by decide +kernel
theorem dX8_measured_10 : decode cX8_measured 10 = .ok (.invokestatic 66, 3) := by decide +kernel
theorem dX8_measured_13 : decode cX8_measured 13 = .ok (.ireturn, 1) := by decide +kernel
theorem dX8_measured_14 : decode cX8_measured 14 = .ok (.iconst 0, 1) := by decide +kernel
theorem dX8_measured_15 : decode cX8_measured 15 = .ok (.istore 4, 2) := by decide +kernel
theorem dX8_measured_17 : decode cX8_measured 17 = .ok (.iconst 0, 1) := by decide +kernel
theorem dX8_measured_18 : decode cX8_measured 18 = .ok (.istore 5, 2) := by decide +kernel
theorem dX8_measured_20 : decode cX8_measured 20 = .ok (.iload 5, 2) := by decide +kernel
theorem dX8_measured_22 : decode cX8_measured 22 = .ok (.aload_n 0, 1) := by decide +kernel
theorem dX8_measured_23 : decode cX8_measured 23 = .ok (.getfield 25, 3) := by decide +kernel
theorem dX8_measured_26 : decode cX8_measured 26 = .ok (.iload_n 2, 1) := by decide +kernel
theorem dX8_measured_27 : decode cX8_measured 27 = .ok (.iaload, 1) := by decide +kernel
theorem dX8_measured_28 : decode cX8_measured 28 = .ok (.if_icmp .ge 52, 3) := by decide +kernel
theorem dX8_measured_31 : decode cX8_measured 31 = .ok (.iload_n 2, 1) := by decide +kernel
theorem dX8_measured_32 : decode cX8_measured 32 = .ok (.iconst 4, 1) := by decide +kernel
theorem dX8_measured_33 : decode cX8_measured 33 = .ok (.imul, 1) := by decide +kernel
theorem dX8_measured_34 : decode cX8_measured 34 = .ok (.iload 5, 2) := by decide +kernel
theorem dX8_measured_36 : decode cX8_measured 36 = .ok (.iadd, 1) := by decide +kernel
theorem dX8_measured_37 : decode cX8_measured 37 = .ok (.istore 6, 2) := by decide +kernel
theorem dX8_measured_39 : decode cX8_measured 39 = .ok (.iload_n 3, 1) := by decide +kernel
theorem dX8_measured_40 : decode cX8_measured 40 = .ok (.iload 4, 2) := by decide +kernel
theorem dX8_measured_42 : decode cX8_measured 42 = .ok (.aload_n 0, 1) := by decide +kernel
theorem dX8_measured_43 : decode cX8_measured 43 = .ok (.getfield 35, 3) := by decide +kernel
theorem dX8_measured_46 : decode cX8_measured 46 = .ok (.iload 6, 2) := by decide +kernel
theorem dX8_measured_48 : decode cX8_measured 48 = .ok (.iaload, 1) := by decide +kernel
theorem dX8_measured_49 : decode cX8_measured 49 = .ok (.aload_n 1, 1) := by decide +kernel
theorem dX8_measured_50 : decode cX8_measured 50 = .ok (.getfield 79, 3) := by decide +kernel
theorem dX8_measured_53 : decode cX8_measured 53 = .ok (.aload_n 0, 1) := by decide +kernel
theorem dX8_measured_54 : decode cX8_measured 54 = .ok (.getfield 32, 3) := by decide +kernel
theorem dX8_measured_57 : decode cX8_measured 57 = .ok (.iload 6, 2) := by decide +kernel
theorem dX8_measured_59 : decode cX8_measured 59 = .ok (.iaload, 1) := by decide +kernel
theorem dX8_measured_60 : decode cX8_measured 60 = .ok (.iaload, 1) := by decide +kernel
theorem dX8_measured_61 : decode cX8_measured 61 = .ok (.isub, 1) := by decide +kernel
theorem dX8_measured_62 : decode cX8_measured 62 = .ok (.aload_n 0, 1) := by decide +kernel
theorem dX8_measured_63 : decode cX8_measured 63 = .ok (.getfield 38, 3) := by decide +kernel
theorem dX8_measured_66 : decode cX8_measured 66 = .ok (.iload 6, 2) := by decide +kernel
theorem dX8_measured_68 : decode cX8_measured 68 = .ok (.iaload, 1) := by decide +kernel
theorem dX8_measured_69 : decode cX8_measured 69 = .ok (.invokestatic 84, 3) := by decide +kernel
theorem dX8_measured_72 : decode cX8_measured 72 = .ok (.istore 4, 2) := by decide +kernel
theorem dX8_measured_74 : decode cX8_measured 74 = .ok (.iinc 5 1, 3) := by decide +kernel
theorem dX8_measured_77 : decode cX8_measured 77 = .ok (.goto (-57), 3) := by decide +kernel
theorem dX8_measured_80 : decode cX8_measured 80 = .ok (.iload 4, 2) := by decide +kernel
theorem dX8_measured_82 : decode cX8_measured 82 = .ok (.ireturn, 1) := by decide +kernel
theorem dX8_beginsLate_0 : decode cX8_beginsLate 0 = .ok (.aload_n 1, 1) := by decide +kernel
theorem dX8_beginsLate_1 : decode cX8_beginsLate 1 = .ok (.getfield 88, 3) := by decide +kernel
theorem dX8_beginsLate_4 : decode cX8_beginsLate 4 = .ok (.iload_n 2, 1) := by decide +kernel
theorem dX8_beginsLate_5 : decode cX8_beginsLate 5 = .ok (.iaload, 1) := by decide +kernel
theorem dX8_beginsLate_6 : decode cX8_beginsLate 6 = .ok (.istore_n 3, 1) := by decide +kernel
theorem dX8_beginsLate_7 : decode cX8_beginsLate 7 = .ok (.aload_n 0, 1) := by decide +kernel
theorem dX8_beginsLate_8 : decode cX8_beginsLate 8 = .ok (.getfield 15, 3) := by decide +kernel
theorem dX8_beginsLate_11 : decode cX8_beginsLate 11 = .ok (.iload_n 3, 1) := by decide +kernel
theorem dX8_beginsLate_12 : decode cX8_beginsLate 12 = .ok (.iaload, 1) := by decide +kernel
theorem dX8_beginsLate_13 : decode cX8_beginsLate 13 = .ok (.iload_n 2, 1) := by decide +kernel
theorem dX8_beginsLate_14 : decode cX8_beginsLate 14 = .ok (.if_icmp .ne 5, 3) := by decide +kernel
theorem dX8_beginsLate_17 : decode cX8_beginsLate 17 = .ok (.iconst 1, 1) := by decide +kernel
theorem dX8_beginsLate_18 : decode cX8_beginsLate 18 = .ok (.ireturn, 1) := by decide +kernel
theorem dX8_beginsLate_19 : decode cX8_beginsLate 19 = .ok (.iconst 0, 1) := by decide +kernel
theorem dX8_beginsLate_20 : decode cX8_beginsLate 20 = .ok (.istore 4, 2) := by decide +kernel
theorem dX8_beginsLate_22 : decode cX8_beginsLate 22 = .ok (.iload 4, 2) := by decide +kernel
theorem dX8_beginsLate_24 : decode cX8_beginsLate 24 = .ok (.aload_n 0, 1) := by decide +kernel
theorem dX8_beginsLate_25 : decode cX8_beginsLate 25 = .ok (.getfield 25, 3) := by decide +kernel
theorem dX8_beginsLate_28 : decode cX8_beginsLate 28 = .ok (.iload_n 3, 1) := by decide +kernel
theorem dX8_beginsLate_29 : decode cX8_beginsLate 29 = .ok (.iaload, 1) := by decide +kernel
theorem dX8_beginsLate_30 : decode cX8_beginsLate 30 = .ok (.if_icmp .ge 50, 3) := by decide +kernel
theorem dX8_beginsLate_33 : decode cX8_beginsLate 33 = .ok (.iload_n 3, 1) := by decide +kernel
theorem dX8_beginsLate_34 : decode cX8_beginsLate 34 = .ok (.iconst 4, 1) := by decide +kernel
theorem dX8_beginsLate_35 : decode cX8_beginsLate 35 = .ok (.imul, 1) := by decide +kernel
theorem dX8_beginsLate_36 : decode cX8_beginsLate 36 = .ok (.iload 4, 2) := by decide +kernel
theorem dX8_beginsLate_38 : decode cX8_beginsLate 38 = .ok (.iadd, 1) := by decide +kernel
theorem dX8_beginsLate_39 : decode cX8_beginsLate 39 = .ok (.istore 5, 2) := by decide +kernel
theorem dX8_beginsLate_41 : decode cX8_beginsLate 41 = .ok (.aload_n 0, 1) := by decide +kernel
theorem dX8_beginsLate_42 : decode cX8_beginsLate 42 = .ok (.getfield 32, 3) := by decide +kernel
theorem dX8_beginsLate_45 : decode cX8_beginsLate 45 = .ok (.iload 5, 2) := by decide +kernel
theorem dX8_beginsLate_47 : decode cX8_beginsLate 47 = .ok (.iaload, 1) := by decide +kernel
theorem dX8_beginsLate_48 : decode cX8_beginsLate 48 = .ok (.iload_n 2, 1) := by decide +kernel
theorem dX8_beginsLate_49 : decode cX8_beginsLate 49 = .ok (.if_icmp .ne 25, 3) := by decide +kernel
theorem dX8_beginsLate_52 : decode cX8_beginsLate 52 = .ok (.aload_n 0, 1) := by decide +kernel
theorem dX8_beginsLate_53 : decode cX8_beginsLate 53 = .ok (.getfield 35, 3) := by decide +kernel
theorem dX8_beginsLate_56 : decode cX8_beginsLate 56 = .ok (.iload 5, 2) := by decide +kernel
theorem dX8_beginsLate_58 : decode cX8_beginsLate 58 = .ok (.iaload, 1) := by decide +kernel
theorem dX8_beginsLate_59 : decode cX8_beginsLate 59 = .ok (.aload_n 1, 1) := by decide +kernel
theorem dX8_beginsLate_60 : decode cX8_beginsLate 60 = .ok (.getfield 79, 3) := by decide +kernel
theorem dX8_beginsLate_63 : decode cX8_beginsLate 63 = .ok (.iload_n 2, 1) := by decide +kernel
theorem dX8_beginsLate_64 : decode cX8_beginsLate 64 = .ok (.iaload, 1) := by decide +kernel
theorem dX8_beginsLate_65 : decode cX8_beginsLate 65 = .ok (.if_icmp .eq 7, 3) := by decide +kernel
theorem dX8_beginsLate_68 : decode cX8_beginsLate 68 = .ok (.iconst 1, 1) := by decide +kernel
theorem dX8_beginsLate_69 : decode cX8_beginsLate 69 = .ok (.goto 4, 3) := by decide +kernel
theorem dX8_beginsLate_72 : decode cX8_beginsLate 72 = .ok (.iconst 0, 1) := by decide +kernel
theorem dX8_beginsLate_73 : decode cX8_beginsLate 73 = .ok (.ireturn, 1) := by decide +kernel
theorem dX8_beginsLate_74 : decode cX8_beginsLate 74 = .ok (.iinc 4 1, 3) := by decide +kernel
theorem dX8_beginsLate_77 : decode cX8_beginsLate 77 = .ok (.goto (-55), 3) := by decide +kernel
theorem dX8_beginsLate_80 : decode cX8_beginsLate 80 = .ok (.iconst 0, 1) := by decide +kernel
theorem dX8_beginsLate_81 : decode cX8_beginsLate 81 = .ok (.ireturn, 1) := by decide +kernel
theorem dX8_piecesOf_0 : decode cX8_piecesOf 0 = .ok (.iconst 0, 1) := by decide +kernel
theorem dX8_piecesOf_1 : decode cX8_piecesOf 1 = .ok (.istore_n 3, 1) := by decide +kernel
theorem dX8_piecesOf_2 : decode cX8_piecesOf 2 = .ok (.iconst 0, 1) := by decide +kernel
theorem dX8_piecesOf_3 : decode cX8_piecesOf 3 = .ok (.istore 4, 2) := by decide +kernel
theorem dX8_piecesOf_5 : decode cX8_piecesOf 5 = .ok (.iload 4, 2) := by decide +kernel
theorem dX8_piecesOf_7 : decode cX8_piecesOf 7 = .ok (.bipush 48, 2) := by decide +kernel
theorem dX8_piecesOf_9 : decode cX8_piecesOf 9 = .ok (.if_icmp .ge 39, 3) := by decide +kernel
theorem dX8_piecesOf_12 : decode cX8_piecesOf 12 = .ok (.aload_n 0, 1) := by decide +kernel
theorem dX8_piecesOf_13 : decode cX8_piecesOf 13 = .ok (.iload_n 1, 1) := by decide +kernel
theorem dX8_piecesOf_14 : decode cX8_piecesOf 14 = .ok (.iload 4, 2) := by decide +kernel
theorem dX8_piecesOf_16 : decode cX8_piecesOf 16 = .ok (.invokevirtual 91, 3) := by decide +kernel
theorem dX8_piecesOf_19 : decode cX8_piecesOf 19 = .ok (.lstore 5, 2) := by decide +kernel
theorem dX8_piecesOf_21 : decode cX8_piecesOf 21 = .ok (.lload 5, 2) := by decide +kernel
theorem dX8_piecesOf_23 : decode cX8_piecesOf 23 = .ok (.lconst 0, 1) := by decide +kernel
theorem dX8_piecesOf_24 : decode cX8_piecesOf 24 = .ok (.lcmp, 1) := by decide +kernel
theorem dX8_piecesOf_25 : decode cX8_piecesOf 25 = .ok (.ifCond .eq 17, 3) := by decide +kernel
theorem dX8_piecesOf_28 : decode cX8_piecesOf 28 = .ok (.iload_n 3, 1) := by decide +kernel
theorem dX8_piecesOf_29 : decode cX8_piecesOf 29 = .ok (.aload_n 2, 1) := by decide +kernel
theorem dX8_piecesOf_30 : decode cX8_piecesOf 30 = .ok (.arraylength, 1) := by decide +kernel
theorem dX8_piecesOf_31 : decode cX8_piecesOf 31 = .ok (.if_icmp .ge 11, 3) := by decide +kernel
theorem dX8_piecesOf_34 : decode cX8_piecesOf 34 = .ok (.aload_n 2, 1) := by decide +kernel
theorem dX8_piecesOf_35 : decode cX8_piecesOf 35 = .ok (.iload_n 3, 1) := by decide +kernel
theorem dX8_piecesOf_36 : decode cX8_piecesOf 36 = .ok (.lload 5, 2) := by decide +kernel
theorem dX8_piecesOf_38 : decode cX8_piecesOf 38 = .ok (.lastore, 1) := by decide +kernel
theorem dX8_piecesOf_39 : decode cX8_piecesOf 39 = .ok (.iinc 3 1, 3) := by decide +kernel
theorem dX8_piecesOf_42 : decode cX8_piecesOf 42 = .ok (.iinc 4 1, 3) := by decide +kernel
theorem dX8_piecesOf_45 : decode cX8_piecesOf 45 = .ok (.goto (-40), 3) := by decide +kernel
theorem dX8_piecesOf_48 : decode cX8_piecesOf 48 = .ok (.iload_n 3, 1) := by decide +kernel
theorem dX8_piecesOf_49 : decode cX8_piecesOf 49 = .ok (.ireturn, 1) := by decide +kernel
theorem dX8_pieceFrom_0 : decode cX8_pieceFrom 0 = .ok (.iload_n 2, 1) := by decide +kernel
theorem dX8_pieceFrom_1 : decode cX8_pieceFrom 1 = .ok (.ifCond .ne 23, 3) := by decide +kernel
theorem dX8_pieceFrom_4 : decode cX8_pieceFrom 4 = .ok (.aload_n 0, 1) := by decide +kernel
theorem dX8_pieceFrom_5 : decode cX8_pieceFrom 5 = .ok (.getfield 22, 3) := by decide +kernel
theorem dX8_pieceFrom_8 : decode cX8_pieceFrom 8 = .ok (.iload_n 1, 1) := by decide +kernel
theorem dX8_pieceFrom_9 : decode cX8_pieceFrom 9 = .ok (.iaload, 1) := by decide +kernel
theorem dX8_pieceFrom_10 : decode cX8_pieceFrom 10 = .ok (.ifCond .le 14, 3) := by decide +kernel
theorem dX8_pieceFrom_13 : decode cX8_pieceFrom 13 = .ok (.iconst 0, 1) := by decide +kernel
theorem dX8_pieceFrom_14 : decode cX8_pieceFrom 14 = .ok (.aload_n 0, 1) := by decide +kernel
theorem dX8_pieceFrom_15 : decode cX8_pieceFrom 15 = .ok (.getfield 22, 3) := by decide +kernel
theorem dX8_pieceFrom_18 : decode cX8_pieceFrom 18 = .ok (.iload_n 1, 1) := by decide +kernel
theorem dX8_pieceFrom_19 : decode cX8_pieceFrom 19 = .ok (.iaload, 1) := by decide +kernel
theorem dX8_pieceFrom_20 : decode cX8_pieceFrom 20 = .ok (.invokestatic 95, 3) := by decide +kernel
theorem dX8_pieceFrom_23 : decode cX8_pieceFrom 23 = .ok (.lreturn, 1) := by decide +kernel
theorem dX8_pieceFrom_24 : decode cX8_pieceFrom 24 = .ok (.iconst 0, 1) := by decide +kernel
theorem dX8_pieceFrom_25 : decode cX8_pieceFrom 25 = .ok (.istore_n 3, 1) := by decide +kernel
theorem dX8_pieceFrom_26 : decode cX8_pieceFrom 26 = .ok (.iload_n 3, 1) := by decide +kernel
theorem dX8_pieceFrom_27 : decode cX8_pieceFrom 27 = .ok (.aload_n 0, 1) := by decide +kernel
theorem dX8_pieceFrom_28 : decode cX8_pieceFrom 28 = .ok (.getfield 25, 3) := by decide +kernel
theorem dX8_pieceFrom_31 : decode cX8_pieceFrom 31 = .ok (.iload_n 1, 1) := by decide +kernel
theorem dX8_pieceFrom_32 : decode cX8_pieceFrom 32 = .ok (.iaload, 1) := by decide +kernel
theorem dX8_pieceFrom_33 : decode cX8_pieceFrom 33 = .ok (.if_icmp .ge 39, 3) := by decide +kernel
theorem dX8_pieceFrom_36 : decode cX8_pieceFrom 36 = .ok (.iload_n 1, 1) := by decide +kernel
theorem dX8_pieceFrom_37 : decode cX8_pieceFrom 37 = .ok (.iconst 4, 1) := by decide +kernel
theorem dX8_pieceFrom_38 : decode cX8_pieceFrom 38 = .ok (.imul, 1) := by decide +kernel
theorem dX8_pieceFrom_39 : decode cX8_pieceFrom 39 = .ok (.iload_n 3, 1) := by decide +kernel
theorem dX8_pieceFrom_40 : decode cX8_pieceFrom 40 = .ok (.iadd, 1) := by decide +kernel
theorem dX8_pieceFrom_41 : decode cX8_pieceFrom 41 = .ok (.istore 4, 2) := by decide +kernel
theorem dX8_pieceFrom_43 : decode cX8_pieceFrom 43 = .ok (.aload_n 0, 1) := by decide +kernel
theorem dX8_pieceFrom_44 : decode cX8_pieceFrom 44 = .ok (.getfield 35, 3) := by decide +kernel
theorem dX8_pieceFrom_47 : decode cX8_pieceFrom 47 = .ok (.iload 4, 2) := by decide +kernel
theorem dX8_pieceFrom_49 : decode cX8_pieceFrom 49 = .ok (.iaload, 1) := by decide +kernel
theorem dX8_pieceFrom_50 : decode cX8_pieceFrom 50 = .ok (.iload_n 2, 1) := by decide +kernel
theorem dX8_pieceFrom_51 : decode cX8_pieceFrom 51 = .ok (.if_icmp .ne 15, 3) := by decide +kernel
theorem dX8_pieceFrom_54 : decode cX8_pieceFrom 54 = .ok (.iload_n 2, 1) := by decide +kernel
theorem dX8_pieceFrom_55 : decode cX8_pieceFrom 55 = .ok (.aload_n 0, 1) := by decide +kernel
theorem dX8_pieceFrom_56 : decode cX8_pieceFrom 56 = .ok (.getfield 38, 3) := by decide +kernel
theorem dX8_pieceFrom_59 : decode cX8_pieceFrom 59 = .ok (.iload 4, 2) := by decide +kernel
theorem dX8_pieceFrom_61 : decode cX8_pieceFrom 61 = .ok (.iaload, 1) := by decide +kernel
theorem dX8_pieceFrom_62 : decode cX8_pieceFrom 62 = .ok (.invokestatic 95, 3) := by decide +kernel
theorem dX8_pieceFrom_65 : decode cX8_pieceFrom 65 = .ok (.lreturn, 1) := by decide +kernel
theorem dX8_pieceFrom_66 : decode cX8_pieceFrom 66 = .ok (.iinc 3 1, 3) := by decide +kernel
theorem dX8_pieceFrom_69 : decode cX8_pieceFrom 69 = .ok (.goto (-43), 3) := by decide +kernel
theorem dX8_pieceFrom_72 : decode cX8_pieceFrom 72 = .ok (.iload_n 2, 1) := by decide +kernel
theorem dX8_pieceFrom_73 : decode cX8_pieceFrom 73 = .ok (.iload_n 2, 1) := by decide +kernel
theorem dX8_pieceFrom_74 : decode cX8_pieceFrom 74 = .ok (.aload_n 0, 1) := by decide +kernel
theorem dX8_pieceFrom_75 : decode cX8_pieceFrom 75 = .ok (.iload_n 1, 1) := by decide +kernel
theorem dX8_pieceFrom_76 : decode cX8_pieceFrom 76 = .ok (.iload_n 2, 1) := by decide +kernel
theorem dX8_pieceFrom_77 : decode cX8_pieceFrom 77 = .ok (.invokevirtual 98, 3) := by decide +kernel
theorem dX8_pieceFrom_80 : decode cX8_pieceFrom 80 = .ok (.iadd, 1) := by decide +kernel
theorem dX8_pieceFrom_81 : decode cX8_pieceFrom 81 = .ok (.invokestatic 95, 3) := by decide +kernel
theorem dX8_pieceFrom_84 : decode cX8_pieceFrom 84 = .ok (.lreturn, 1) := by decide +kernel
theorem dX8_dutyFrom_0 : decode cX8_dutyFrom 0 = .ok (.iload_n 2, 1) := by decide +kernel
theorem dX8_dutyFrom_1 : decode cX8_dutyFrom 1 = .ok (.ifCond .le 20, 3) := by decide +kernel
theorem dX8_dutyFrom_4 : decode cX8_dutyFrom 4 = .ok (.aload_n 0, 1) := by decide +kernel
theorem dX8_dutyFrom_5 : decode cX8_dutyFrom 5 = .ok (.getfield 28, 3) := by decide +kernel
theorem dX8_dutyFrom_8 : decode cX8_dutyFrom 8 = .ok (.iload_n 1, 1) := by decide +kernel
theorem dX8_dutyFrom_9 : decode cX8_dutyFrom 9 = .ok (.laload, 1) := by decide +kernel
theorem dX8_dutyFrom_10 : decode cX8_dutyFrom 10 = .ok (.iload_n 2, 1) := by decide +kernel
theorem dX8_dutyFrom_11 : decode cX8_dutyFrom 11 = .ok (.iconst 1, 1) := by decide +kernel
theorem dX8_dutyFrom_12 : decode cX8_dutyFrom 12 = .ok (.isub, 1) := by decide +kernel
theorem dX8_dutyFrom_13 : decode cX8_dutyFrom 13 = .ok (.invokestatic 75, 3) := by decide +kernel
theorem dX8_dutyFrom_16 : decode cX8_dutyFrom 16 = .ok (.ifCond .eq 5, 3) := by decide +kernel
theorem dX8_dutyFrom_19 : decode cX8_dutyFrom 19 = .ok (.iconst 0, 1) := by decide +kernel
theorem dX8_dutyFrom_20 : decode cX8_dutyFrom 20 = .ok (.ireturn, 1) := by decide +kernel
theorem dX8_dutyFrom_21 : decode cX8_dutyFrom 21 = .ok (.iconst 0, 1) := by decide +kernel
theorem dX8_dutyFrom_22 : decode cX8_dutyFrom 22 = .ok (.istore_n 3, 1) := by decide +kernel
theorem dX8_dutyFrom_23 : decode cX8_dutyFrom 23 = .ok (.iload_n 2, 1) := by decide +kernel
theorem dX8_dutyFrom_24 : decode cX8_dutyFrom 24 = .ok (.istore 4, 2) := by decide +kernel
theorem dX8_dutyFrom_26 : decode cX8_dutyFrom 26 = .ok (.iload 4, 2) := by decide +kernel
theorem dX8_dutyFrom_28 : decode cX8_dutyFrom 28 = .ok (.bipush 48, 2) := by decide +kernel
theorem dX8_dutyFrom_30 : decode cX8_dutyFrom 30 = .ok (.if_icmp .ge 26, 3) := by decide +kernel
theorem dX8_dutyFrom_33 : decode cX8_dutyFrom 33 = .ok (.aload_n 0, 1) := by decide +kernel
theorem dX8_dutyFrom_34 : decode cX8_dutyFrom 34 = .ok (.getfield 28, 3) := by decide +kernel
theorem dX8_dutyFrom_37 : decode cX8_dutyFrom 37 = .ok (.iload_n 1, 1) := by decide +kernel
theorem dX8_dutyFrom_38 : decode cX8_dutyFrom 38 = .ok (.laload, 1) := by decide +kernel
theorem dX8_dutyFrom_39 : decode cX8_dutyFrom 39 = .ok (.iload 4, 2) := by decide +kernel
theorem dX8_dutyFrom_41 : decode cX8_dutyFrom 41 = .ok (.invokestatic 75, 3) := by decide +kernel
theorem dX8_dutyFrom_44 : decode cX8_dutyFrom 44 = .ok (.ifCond .eq 12, 3) := by decide +kernel
theorem dX8_dutyFrom_47 : decode cX8_dutyFrom 47 = .ok (.iinc 3 1, 3) := by decide +kernel
theorem dX8_dutyFrom_50 : decode cX8_dutyFrom 50 = .ok (.iinc 4 1, 3) := by decide +kernel
theorem dX8_dutyFrom_53 : decode cX8_dutyFrom 53 = .ok (.goto (-27), 3) := by decide +kernel
theorem dX8_dutyFrom_56 : decode cX8_dutyFrom 56 = .ok (.iload_n 3, 1) := by decide +kernel
theorem dX8_dutyFrom_57 : decode cX8_dutyFrom 57 = .ok (.ireturn, 1) := by decide +kernel
theorem dX9_init_0 : decode cX9_init 0 = .ok (.aload_n 0, 1) := by decide +kernel
theorem dX9_init_1 : decode cX9_init 1 = .ok (.invokespecial 3, 3) := by decide +kernel
theorem dX9_init_4 : decode cX9_init 4 = .ok (.aload_n 0, 1) := by decide +kernel
theorem dX9_init_5 : decode cX9_init 5 = .ok (.new 9, 3) := by decide +kernel
theorem dX9_init_8 : decode cX9_init 8 = .ok (.dup, 1) := by decide +kernel
theorem dX9_init_9 : decode cX9_init 9 = .ok (.invokespecial 11, 3) := by decide +kernel
theorem dX9_init_12 : decode cX9_init 12 = .ok (.putfield 12, 3) := by decide +kernel
theorem dX9_init_15 : decode cX9_init 15 = .ok (.aload_n 0, 1) := by decide +kernel
theorem dX9_init_16 : decode cX9_init 16 = .ok (.bipush 10, 2) := by decide +kernel
theorem dX9_init_18 : decode cX9_init 18 = .ok (.anewarray 18, 3) := by decide +kernel
theorem dX9_init_21 : decode cX9_init 21 = .ok (.putfield 20, 3) := by decide +kernel
theorem dX9_init_24 : decode cX9_init 24 = .ok (.aload_n 0, 1) := by decide +kernel
theorem dX9_init_25 : decode cX9_init 25 = .ok (.bipush 10, 2) := by decide +kernel
theorem dX9_init_27 : decode cX9_init 27 = .ok (.newarray .boolean, 2) := by decide +kernel
theorem dX9_init_29 : decode cX9_init 29 = .ok (.putfield 24, 3) := by decide +kernel
theorem dX9_init_32 : decode cX9_init 32 = .ok (.aload_n 0, 1) := by decide +kernel
theorem dX9_init_33 : decode cX9_init 33 = .ok (.iconst 1, 1) := by decide +kernel
theorem dX9_init_34 : decode cX9_init 34 = .ok (.putfield 28, 3) := by decide +kernel
theorem dX9_init_37 : decode cX9_init 37 = .ok (.iconst 0, 1) := by decide +kernel
theorem dX9_init_38 : decode cX9_init 38 = .ok (.istore_n 1, 1) := by decide +kernel
theorem dX9_init_39 : decode cX9_init 39 = .ok (.iload_n 1, 1) := by decide +kernel
theorem dX9_init_40 : decode cX9_init 40 = .ok (.bipush 10, 2) := by decide +kernel
theorem dX9_init_42 : decode cX9_init 42 = .ok (.if_icmp .ge 22, 3) := by decide +kernel
theorem dX9_init_45 : decode cX9_init 45 = .ok (.aload_n 0, 1) := by decide +kernel
theorem dX9_init_46 : decode cX9_init 46 = .ok (.getfield 20, 3) := by decide +kernel
theorem dX9_init_49 : decode cX9_init 49 = .ok (.iload_n 1, 1) := by decide +kernel
theorem dX9_init_50 : decode cX9_init 50 = .ok (.new 18, 3) := by decide +kernel
theorem dX9_init_53 : decode cX9_init 53 = .ok (.dup, 1) := by decide +kernel
theorem dX9_init_54 : decode cX9_init 54 = .ok (.invokespecial 32, 3) := by decide +kernel
theorem dX9_init_57 : decode cX9_init 57 = .ok (.aastore, 1) := by decide +kernel
theorem dX9_init_58 : decode cX9_init 58 = .ok (.iinc 1 1, 3) := by decide +kernel
theorem dX9_init_61 : decode cX9_init 61 = .ok (.goto (-22), 3) := by decide +kernel
theorem dX9_init_64 : decode cX9_init 64 = .ok (.return_, 1) := by decide +kernel
theorem dX9_of_0 : decode cX9_of 0 = .ok (.aload_n 0, 1) := by decide +kernel
theorem dX9_of_1 : decode cX9_of 1 = .ok (.getfield 20, 3) := by decide +kernel
theorem dX9_of_4 : decode cX9_of 4 = .ok (.iload_n 2, 1) := by decide +kernel
theorem dX9_of_5 : decode cX9_of 5 = .ok (.aaload, 1) := by decide +kernel
theorem dX9_of_6 : decode cX9_of 6 = .ok (.astore_n 3, 1) := by decide +kernel
theorem dX9_of_7 : decode cX9_of 7 = .ok (.aload_n 0, 1) := by decide +kernel
theorem dX9_of_8 : decode cX9_of 8 = .ok (.getfield 24, 3) := by decide +kernel
theorem dX9_of_11 : decode cX9_of 11 = .ok (.iload_n 2, 1) := by decide +kernel
theorem dX9_of_12 : decode cX9_of 12 = .ok (.baload, 1) := by decide +kernel
theorem dX9_of_13 : decode cX9_of 13 = .ok (.ifCond .ne 37, 3) := by decide +kernel
theorem dX9_of_16 : decode cX9_of 16 = .ok (.iconst 0, 1) := by decide +kernel
theorem dX9_of_17 : decode cX9_of 17 = .ok (.istore 4, 2) := by decide +kernel
theorem dX9_of_19 : decode cX9_of 19 = .ok (.iload 4, 2) := by decide +kernel
theorem dX9_of_21 : decode cX9_of 21 = .ok (.iconst 5, 1) := by decide +kernel
theorem dX9_of_22 : decode cX9_of 22 = .ok (.if_icmp .ge 21, 3) := by decide +kernel
theorem dX9_of_25 : decode cX9_of 25 = .ok (.aload_n 0, 1) := by decide +kernel
theorem dX9_of_26 : decode cX9_of 26 = .ok (.getfield 12, 3) := by decide +kernel
theorem dX9_of_29 : decode cX9_of 29 = .ok (.aload_n 1, 1) := by decide +kernel
theorem dX9_of_30 : decode cX9_of 30 = .ok (.iload_n 2, 1) := by decide +kernel
theorem dX9_of_31 : decode cX9_of 31 = .ok (.iload 4, 2) := by decide +kernel
theorem dX9_of_33 : decode cX9_of 33 = .ok (.aload_n 3, 1) := by decide +kernel
theorem dX9_of_34 : decode cX9_of 34 = .ok (.invokevirtual 33, 3) := by decide +kernel
theorem dX9_of_37 : decode cX9_of 37 = .ok (.iinc 4 1, 3) := by decide +kernel
theorem dX9_of_40 : decode cX9_of 40 = .ok (.goto (-21), 3) := by decide +kernel
theorem dX9_of_43 : decode cX9_of 43 = .ok (.aload_n 0, 1) := by decide +kernel
theorem dX9_of_44 : decode cX9_of 44 = .ok (.getfield 24, 3) := by decide +kernel
theorem dX9_of_47 : decode cX9_of 47 = .ok (.iload_n 2, 1) := by decide +kernel
theorem dX9_of_48 : decode cX9_of 48 = .ok (.iconst 1, 1) := by decide +kernel
theorem dX9_of_49 : decode cX9_of 49 = .ok (.bastore, 1) := by decide +kernel
theorem dX9_of_50 : decode cX9_of 50 = .ok (.aload_n 3, 1) := by decide +kernel
theorem dX9_of_51 : decode cX9_of 51 = .ok (.areturn, 1) := by decide +kernel
theorem dX9_edition_0 : decode cX9_edition 0 = .ok (.aload_n 0, 1) := by decide +kernel
theorem dX9_edition_1 : decode cX9_edition 1 = .ok (.getfield 28, 3) := by decide +kernel
theorem dX9_edition_4 : decode cX9_edition 4 = .ok (.ireturn, 1) := by decide +kernel
theorem dX9_forgetOthers_0 : decode cX9_forgetOthers 0 = .ok (.aload_n 0, 1) := by decide +kernel
theorem dX9_forgetOthers_1 : decode cX9_forgetOthers 1 = .ok (.dup, 1) := by decide +kernel
theorem dX9_forgetOthers_2 : decode cX9_forgetOthers 2 = .ok (.getfield 28, 3) := by decide +kernel
theorem dX9_forgetOthers_5 : decode cX9_forgetOthers 5 = .ok (.iconst 1, 1) := by decide +kernel
theorem dX9_forgetOthers_6 : decode cX9_forgetOthers 6 = .ok (.iadd, 1) := by decide +kernel
theorem dX9_forgetOthers_7 : decode cX9_forgetOthers 7 = .ok (.putfield 28, 3) := by decide +kernel
theorem dX9_forgetOthers_10 : decode cX9_forgetOthers 10 = .ok (.return_, 1) := by decide +kernel
theorem dX9_forget_0 : decode cX9_forget 0 = .ok (.aload_n 0, 1) := by decide +kernel
theorem dX9_forget_1 : decode cX9_forget 1 = .ok (.getfield 24, 3) := by decide +kernel
theorem dX9_forget_4 : decode cX9_forget 4 = .ok (.iload_n 1, 1) := by decide +kernel
theorem dX9_forget_5 : decode cX9_forget 5 = .ok (.iconst 0, 1) := by decide +kernel
theorem dX9_forget_6 : decode cX9_forget 6 = .ok (.bastore, 1) := by decide +kernel
theorem dX9_forget_7 : decode cX9_forget 7 = .ok (.aload_n 0, 1) := by decide +kernel
theorem dX9_forget_8 : decode cX9_forget 8 = .ok (.dup, 1) := by decide +kernel
theorem dX9_forget_9 : decode cX9_forget 9 = .ok (.getfield 28, 3) := by decide +kernel
theorem dX9_forget_12 : decode cX9_forget 12 = .ok (.iconst 1, 1) := by decide +kernel
theorem dX9_forget_13 : decode cX9_forget 13 = .ok (.iadd, 1) := by decide +kernel
theorem dX9_forget_14 : decode cX9_forget 14 = .ok (.putfield 28, 3) := by decide +kernel
theorem dX9_forget_17 : decode cX9_forget 17 = .ok (.return_, 1) := by decide +kernel
theorem dX9_forgetAll_0 : decode cX9_forgetAll 0 = .ok (.iconst 0, 1) := by decide +kernel
theorem dX9_forgetAll_1 : decode cX9_forgetAll 1 = .ok (.istore_n 1, 1) := by decide +kernel
theorem dX9_forgetAll_2 : decode cX9_forgetAll 2 = .ok (.iload_n 1, 1) := by decide +kernel
theorem dX9_forgetAll_3 : decode cX9_forgetAll 3 = .ok (.bipush 10, 2) := by decide +kernel
theorem dX9_forgetAll_5 : decode cX9_forgetAll 5 = .ok (.if_icmp .ge 16, 3) := by decide +kernel
theorem dX9_forgetAll_8 : decode cX9_forgetAll 8 = .ok (.aload_n 0, 1) := by decide +kernel
theorem dX9_forgetAll_9 : decode cX9_forgetAll 9 = .ok (.getfield 24, 3) := by decide +kernel
theorem dX9_forgetAll_12 : decode cX9_forgetAll 12 = .ok (.iload_n 1, 1) := by decide +kernel
theorem dX9_forgetAll_13 : decode cX9_forgetAll 13 = .ok (.iconst 0, 1) := by decide +kernel
theorem dX9_forgetAll_14 : decode cX9_forgetAll 14 = .ok (.bastore, 1) := by decide +kernel
theorem dX9_forgetAll_15 : decode cX9_forgetAll 15 = .ok (.iinc 1 1, 3) := by decide +kernel
theorem dX9_forgetAll_18 : decode cX9_forgetAll 18 = .ok (.goto (-16), 3) := by decide +kernel
theorem dX9_forgetAll_21 : decode cX9_forgetAll 21 = .ok (.aload_n 0, 1) := by decide +kernel
theorem dX9_forgetAll_22 : decode cX9_forgetAll 22 = .ok (.dup, 1) := by decide +kernel
theorem dX9_forgetAll_23 : decode cX9_forgetAll 23 = .ok (.getfield 28, 3) := by decide +kernel
theorem dX9_forgetAll_26 : decode cX9_forgetAll 26 = .ok (.iconst 1, 1) := by decide +kernel
theorem dX9_forgetAll_27 : decode cX9_forgetAll 27 = .ok (.iadd, 1) := by decide +kernel
theorem dX9_forgetAll_28 : decode cX9_forgetAll 28 = .ok (.putfield 28, 3) := by decide +kernel
theorem dX9_forgetAll_31 : decode cX9_forgetAll 31 = .ok (.return_, 1) := by decide +kernel
theorem dX10_init_0 : decode cX10_init 0 = .ok (.aload_n 0, 1) := by decide +kernel
theorem dX10_init_1 : decode cX10_init 1 = .ok (.invokespecial 3, 3) := by decide +kernel
theorem dX10_init_4 : decode cX10_init 4 = .ok (.aload_n 0, 1) := by decide +kernel
theorem dX10_init_5 : decode cX10_init 5 = .ok (.new 9, 3) := by decide +kernel
theorem dX10_init_8 : decode cX10_init 8 = .ok (.dup, 1) := by decide +kernel
theorem dX10_init_9 : decode cX10_init 9 = .ok (.invokespecial 11, 3) := by decide +kernel
theorem dX10_init_12 : decode cX10_init 12 = .ok (.putfield 12, 3) := by decide +kernel
theorem dX10_init_15 : decode cX10_init 15 = .ok (.aload_n 0, 1) := by decide +kernel
theorem dX10_init_16 : decode cX10_init 16 = .ok (.new 9, 3) := by decide +kernel
theorem dX10_init_19 : decode cX10_init 19 = .ok (.dup, 1) := by decide +kernel
theorem dX10_init_20 : decode cX10_init 20 = .ok (.invokespecial 11, 3) := by decide +kernel
theorem dX10_init_23 : decode cX10_init 23 = .ok (.putfield 16, 3) := by decide +kernel
theorem dX10_init_26 : decode cX10_init 26 = .ok (.aload_n 0, 1) := by decide +kernel
theorem dX10_init_27 : decode cX10_init 27 = .ok (.new 9, 3) := by decide +kernel
theorem dX10_init_30 : decode cX10_init 30 = .ok (.dup, 1) := by decide +kernel
theorem dX10_init_31 : decode cX10_init 31 = .ok (.invokespecial 11, 3) := by decide +kernel
theorem dX10_init_34 : decode cX10_init 34 = .ok (.putfield 19, 3) := by decide +kernel
theorem dX10_init_37 : decode cX10_init 37 = .ok (.aload_n 0, 1) := by decide +kernel
theorem dX10_init_38 : decode cX10_init 38 = .ok (.new 22, 3) := by decide +kernel
theorem dX10_init_41 : decode cX10_init 41 = .ok (.dup, 1) := by decide +kernel
theorem dX10_init_42 : decode cX10_init 42 = .ok (.invokespecial 24, 3) := by decide +kernel
theorem dX10_init_45 : decode cX10_init 45 = .ok (.putfield 25, 3) := by decide +kernel
theorem dX10_init_48 : decode cX10_init 48 = .ok (.aload_n 0, 1) := by decide +kernel
theorem dX10_init_49 : decode cX10_init 49 = .ok (.new 29, 3) := by decide +kernel
theorem dX10_init_52 : decode cX10_init 52 = .ok (.dup, 1) := by decide +kernel
theorem dX10_init_53 : decode cX10_init 53 = .ok (.invokespecial 31, 3) := by decide +kernel
theorem dX10_init_56 : decode cX10_init 56 = .ok (.putfield 32, 3) := by decide +kernel
theorem dX10_init_59 : decode cX10_init 59 = .ok (.aload_n 0, 1) := by decide +kernel
theorem dX10_init_60 : decode cX10_init 60 = .ok (.iconst 5, 1) := by decide +kernel
theorem dX10_init_61 : decode cX10_init 61 = .ok (.newarray .int, 2) := by decide +kernel
theorem dX10_init_63 : decode cX10_init 63 = .ok (.putfield 36, 3) := by decide +kernel
theorem dX10_init_66 : decode cX10_init 66 = .ok (.aload_n 0, 1) := by decide +kernel
theorem dX10_init_67 : decode cX10_init 67 = .ok (.new 40, 3) := by decide +kernel
theorem dX10_init_70 : decode cX10_init 70 = .ok (.dup, 1) := by decide +kernel
theorem dX10_init_71 : decode cX10_init 71 = .ok (.invokespecial 42, 3) := by decide +kernel
theorem dX10_init_74 : decode cX10_init 74 = .ok (.putfield 43, 3) := by decide +kernel
theorem dX10_init_77 : decode cX10_init 77 = .ok (.aload_n 0, 1) := by decide +kernel
theorem dX10_init_78 : decode cX10_init 78 = .ok (.new 47, 3) := by decide +kernel
theorem dX10_init_81 : decode cX10_init 81 = .ok (.dup, 1) := by decide +kernel
theorem dX10_init_82 : decode cX10_init 82 = .ok (.invokespecial 49, 3) := by decide +kernel
theorem dX10_init_85 : decode cX10_init 85 = .ok (.putfield 50, 3) := by decide +kernel
theorem dX10_init_88 : decode cX10_init 88 = .ok (.aload_n 0, 1) := by decide +kernel
theorem dX10_init_89 : decode cX10_init 89 = .ok (.new 54, 3) := by decide +kernel
theorem dX10_init_92 : decode cX10_init 92 = .ok (.dup, 1) := by decide +kernel
theorem dX10_init_93 : decode cX10_init 93 = .ok (.invokespecial 56, 3) := by decide +kernel
theorem dX10_init_96 : decode cX10_init 96 = .ok (.putfield 57, 3) := by decide +kernel
theorem dX10_init_99 : decode cX10_init 99 = .ok (.aload_n 0, 1) := by decide +kernel
theorem dX10_init_100 : decode cX10_init 100 = .ok (.new 61, 3) := by decide +kernel
theorem dX10_init_103 : decode cX10_init 103 = .ok (.dup, 1) := by decide +kernel
theorem dX10_init_104 : decode cX10_init 104 = .ok (.invokespecial 63, 3) := by decide +kernel
theorem dX10_init_107 : decode cX10_init 107 = .ok (.putfield 64, 3) := by decide +kernel
theorem dX10_init_110 : decode cX10_init 110 = .ok (.aload_n 0, 1) := by decide +kernel
theorem dX10_init_111 : decode cX10_init 111 = .ok (.new 68, 3) := by decide +kernel
theorem dX10_init_114 : decode cX10_init 114 = .ok (.dup, 1) := by decide +kernel
theorem dX10_init_115 : decode cX10_init 115 = .ok (.invokespecial 70, 3) := by decide +kernel
theorem dX10_init_118 : decode cX10_init 118 = .ok (.putfield 71, 3) := by decide +kernel
theorem dX10_init_121 : decode cX10_init 121 = .ok (.aload_n 0, 1) := by decide +kernel
theorem dX10_init_122 : decode cX10_init 122 = .ok (.bipush 48, 2) := by decide +kernel
theorem dX10_init_124 : decode cX10_init 124 = .ok (.newarray .int, 2) := by decide +kernel
theorem dX10_init_126 : decode cX10_init 126 = .ok (.putfield 75, 3) := by decide +kernel
theorem dX10_init_129 : decode cX10_init 129 = .ok (.aload_n 0, 1) := by decide +kernel
theorem dX10_init_130 : decode cX10_init 130 = .ok (.bipush 48, 2) := by decide +kernel
theorem dX10_init_132 : decode cX10_init 132 = .ok (.newarray .int, 2) := by decide +kernel
theorem dX10_init_134 : decode cX10_init 134 = .ok (.putfield 78, 3) := by decide +kernel
theorem dX10_init_137 : decode cX10_init 137 = .ok (.return_, 1) := by decide +kernel
theorem dX10_paper_0 : decode cX10_paper 0 = .ok (.iload_n 1, 1) := by decide +kernel
theorem dX10_paper_1 : decode cX10_paper 1 = .ok (.invokestatic 150, 3) := by decide +kernel
theorem dX10_paper_4 : decode cX10_paper 4 = .ok (.ifCond .eq 21, 3) := by decide +kernel
theorem dX10_paper_7 : decode cX10_paper 7 = .ok (.iload_n 2, 1) := by decide +kernel
theorem dX10_paper_8 : decode cX10_paper 8 = .ok (.invokestatic 153, 3) := by decide +kernel
theorem dX10_paper_11 : decode cX10_paper 11 = .ok (.ifCond .eq 14, 3) := by decide +kernel
theorem dX10_paper_14 : decode cX10_paper 14 = .ok (.iload_n 3, 1) := by decide +kernel
theorem dX10_paper_15 : decode cX10_paper 15 = .ok (.iconst 1, 1) := by decide +kernel
theorem dX10_paper_16 : decode cX10_paper 16 = .ok (.if_icmp .lt 9, 3) := by decide +kernel
theorem dX10_paper_19 : decode cX10_paper 19 = .ok (.iload_n 3, 1) := by decide +kernel
theorem dX10_paper_20 : decode cX10_paper 20 = .ok (.bipush 12, 2) := by decide +kernel
theorem dX10_paper_22 : decode cX10_paper 22 = .ok (.if_icmp .le 10, 3) := by decide +kernel
theorem dX10_paper_25 : decode cX10_paper 25 = .ok (.aload_n 0, 1) := by decide +kernel
theorem dX10_paper_26 : decode cX10_paper 26 = .ok (.bipush (-52), 2) := by decide +kernel
theorem dX10_paper_28 : decode cX10_paper 28 = .ok (.invokevirtual 88, 3) := by decide +kernel
theorem dX10_paper_31 : decode cX10_paper 31 = .ok (.ireturn, 1) := by decide +kernel
theorem dX10_paper_32 : decode cX10_paper 32 = .ok (.aload_n 0, 1) := by decide +kernel
theorem dX10_paper_33 : decode cX10_paper 33 = .ok (.getfield 12, 3) := by decide +kernel
theorem dX10_paper_36 : decode cX10_paper 36 = .ok (.getfield 156, 3) := by decide +kernel
theorem dX10_paper_39 : decode cX10_paper 39 = .ok (.bipush 12, 2) := by decide +kernel
theorem dX10_paper_41 : decode cX10_paper 41 = .ok (.if_icmp .lt 10, 3) := by decide +kernel
theorem dX10_paper_44 : decode cX10_paper 44 = .ok (.aload_n 0, 1) := by decide +kernel
theorem dX10_paper_45 : decode cX10_paper 45 = .ok (.bipush (-56), 2) := by decide +kernel
theorem dX10_paper_47 : decode cX10_paper 47 = .ok (.invokevirtual 88, 3) := by decide +kernel
theorem dX10_paper_50 : decode cX10_paper 50 = .ok (.ireturn, 1) := by decide +kernel
theorem dX10_paper_51 : decode cX10_paper 51 = .ok (.aload_n 0, 1) := by decide +kernel
theorem dX10_paper_52 : decode cX10_paper 52 = .ok (.getfield 12, 3) := by decide +kernel
theorem dX10_paper_55 : decode cX10_paper 55 = .ok (.iload_n 1, 1) := by decide +kernel
theorem dX10_paper_56 : decode cX10_paper 56 = .ok (.iload_n 2, 1) := by decide +kernel
theorem dX10_paper_57 : decode cX10_paper 57 = .ok (.iload_n 3, 1) := by decide +kernel
theorem dX10_paper_58 : decode cX10_paper 58 = .ok (.invokevirtual 160, 3) := by decide +kernel
theorem dX10_paper_61 : decode cX10_paper 61 = .ok (.ireturn, 1) := by decide +kernel
theorem dX10_cand_0 : decode cX10_cand 0 = .ok (.iload_n 1, 1) := by decide +kernel
theorem dX10_cand_1 : decode cX10_cand 1 = .ok (.invokestatic 129, 3) := by decide +kernel
theorem dX10_cand_4 : decode cX10_cand 4 = .ok (.ifCond .eq 13, 3) := by decide +kernel
theorem dX10_cand_7 : decode cX10_cand 7 = .ok (.iload_n 2, 1) := by decide +kernel
theorem dX10_cand_8 : decode cX10_cand 8 = .ok (.ifCond .lt 9, 3) := by decide +kernel
theorem dX10_cand_11 : decode cX10_cand 11 = .ok (.iload_n 2, 1) := by decide +kernel
theorem dX10_cand_12 : decode cX10_cand 12 = .ok (.bipush 9, 2) := by decide +kernel
theorem dX10_cand_14 : decode cX10_cand 14 = .ok (.if_icmp .le 10, 3) := by decide +kernel
theorem dX10_cand_17 : decode cX10_cand 17 = .ok (.aload_n 0, 1) := by decide +kernel
theorem dX10_cand_18 : decode cX10_cand 18 = .ok (.bipush (-52), 2) := by decide +kernel
theorem dX10_cand_20 : decode cX10_cand 20 = .ok (.invokevirtual 88, 3) := by decide +kernel
theorem dX10_cand_23 : decode cX10_cand 23 = .ok (.ireturn, 1) := by decide +kernel
theorem dX10_cand_24 : decode cX10_cand 24 = .ok (.aload_n 0, 1) := by decide +kernel
theorem dX10_cand_25 : decode cX10_cand 25 = .ok (.getfield 12, 3) := by decide +kernel
theorem dX10_cand_28 : decode cX10_cand 28 = .ok (.getfield 174, 3) := by decide +kernel
theorem dX10_cand_31 : decode cX10_cand 31 = .ok (.bipush 10, 2) := by decide +kernel
theorem dX10_cand_33 : decode cX10_cand 33 = .ok (.if_icmp .lt 10, 3) := by decide +kernel
theorem dX10_cand_36 : decode cX10_cand 36 = .ok (.aload_n 0, 1) := by decide +kernel
theorem dX10_cand_37 : decode cX10_cand 37 = .ok (.bipush (-56), 2) := by decide +kernel
theorem dX10_cand_39 : decode cX10_cand 39 = .ok (.invokevirtual 88, 3) := by decide +kernel
theorem dX10_cand_42 : decode cX10_cand 42 = .ok (.ireturn, 1) := by decide +kernel
theorem dX10_cand_43 : decode cX10_cand 43 = .ok (.aload_n 0, 1) := by decide +kernel
theorem dX10_cand_44 : decode cX10_cand 44 = .ok (.getfield 12, 3) := by decide +kernel
theorem dX10_cand_47 : decode cX10_cand 47 = .ok (.iload_n 1, 1) := by decide +kernel
theorem dX10_cand_48 : decode cX10_cand 48 = .ok (.iload_n 2, 1) := by decide +kernel
theorem dX10_cand_49 : decode cX10_cand 49 = .ok (.invokevirtual 177, 3) := by decide +kernel
theorem dX10_cand_52 : decode cX10_cand 52 = .ok (.istore_n 3, 1) := by decide +kernel
theorem dX10_cand_53 : decode cX10_cand 53 = .ok (.aload_n 0, 1) := by decide +kernel
theorem dX10_cand_54 : decode cX10_cand 54 = .ok (.getfield 50, 3) := by decide +kernel
theorem dX10_cand_57 : decode cX10_cand 57 = .ok (.iload_n 3, 1) := by decide +kernel
theorem dX10_cand_58 : decode cX10_cand 58 = .ok (.invokevirtual 181, 3) := by decide +kernel
theorem dX10_cand_61 : decode cX10_cand 61 = .ok (.iload_n 3, 1) := by decide +kernel
theorem dX10_cand_62 : decode cX10_cand 62 = .ok (.ireturn, 1) := by decide +kernel
theorem dX10_takes_0 : decode cX10_takes 0 = .ok (.aload_n 0, 1) := by decide +kernel
theorem dX10_takes_1 : decode cX10_takes 1 = .ok (.getfield 12, 3) := by decide +kernel
theorem dX10_takes_4 : decode cX10_takes 4 = .ok (.iload_n 1, 1) := by decide +kernel
theorem dX10_takes_5 : decode cX10_takes 5 = .ok (.invokevirtual 122, 3) := by decide +kernel
theorem dX10_takes_8 : decode cX10_takes 8 = .ok (.ifCond .eq 22, 3) := by decide +kernel
theorem dX10_takes_11 : decode cX10_takes 11 = .ok (.aload_n 0, 1) := by decide +kernel
theorem dX10_takes_12 : decode cX10_takes 12 = .ok (.getfield 12, 3) := by decide +kernel
theorem dX10_takes_15 : decode cX10_takes 15 = .ok (.iload_n 2, 1) := by decide +kernel
theorem dX10_takes_16 : decode cX10_takes 16 = .ok (.i2l, 1) := by decide +kernel
theorem dX10_takes_17 : decode cX10_takes 17 = .ok (.invokevirtual 164, 3) := by decide +kernel
theorem dX10_takes_20 : decode cX10_takes 20 = .ok (.ifCond .eq 10, 3) := by decide +kernel
theorem dX10_takes_23 : decode cX10_takes 23 = .ok (.iload_n 3, 1) := by decide +kernel
theorem dX10_takes_24 : decode cX10_takes 24 = .ok (.invokestatic 185, 3) := by decide +kernel
theorem dX10_takes_27 : decode cX10_takes 27 = .ok (.ifCond .ne 10, 3) := by decide +kernel
theorem dX10_takes_30 : decode cX10_takes 30 = .ok (.aload_n 0, 1) := by decide +kernel
theorem dX10_takes_31 : decode cX10_takes 31 = .ok (.bipush (-52), 2) := by decide +kernel
theorem dX10_takes_33 : decode cX10_takes 33 = .ok (.invokevirtual 88, 3) := by decide +kernel
theorem dX10_takes_36 : decode cX10_takes 36 = .ok (.ireturn, 1) := by decide +kernel
theorem dX10_takes_37 : decode cX10_takes 37 = .ok (.aload_n 0, 1) := by decide +kernel
theorem dX10_takes_38 : decode cX10_takes 38 = .ok (.getfield 12, 3) := by decide +kernel
theorem dX10_takes_41 : decode cX10_takes 41 = .ok (.iload_n 1, 1) := by decide +kernel
theorem dX10_takes_42 : decode cX10_takes 42 = .ok (.iload_n 2, 1) := by decide +kernel
theorem dX10_takes_43 : decode cX10_takes 43 = .ok (.invokevirtual 188, 3) := by decide +kernel
theorem dX10_takes_46 : decode cX10_takes 46 = .ok (.ifCond .eq 7, 3) := by decide +kernel
theorem dX10_takes_49 : decode cX10_takes 49 = .ok (.iconst 1, 1) := by decide +kernel
theorem dX10_takes_50 : decode cX10_takes 50 = .ok (.goto 4, 3) := by decide +kernel
theorem dX10_takes_53 : decode cX10_takes 53 = .ok (.iconst 0, 1) := by decide +kernel
theorem dX10_takes_54 : decode cX10_takes 54 = .ok (.istore 4, 2) := by decide +kernel
theorem dX10_takes_56 : decode cX10_takes 56 = .ok (.iload_n 3, 1) := by decide +kernel
theorem dX10_takes_57 : decode cX10_takes 57 = .ok (.iload 4, 2) := by decide +kernel
theorem dX10_takes_59 : decode cX10_takes 59 = .ok (.if_icmp .eq 39, 3) := by decide +kernel
theorem dX10_takes_62 : decode cX10_takes 62 = .ok (.aload_n 0, 1) := by decide +kernel
theorem dX10_takes_63 : decode cX10_takes 63 = .ok (.getfield 12, 3) := by decide +kernel
theorem dX10_takes_66 : decode cX10_takes 66 = .ok (.iload_n 1, 1) := by decide +kernel
theorem dX10_takes_67 : decode cX10_takes 67 = .ok (.iload_n 2, 1) := by decide +kernel
theorem dX10_takes_68 : decode cX10_takes 68 = .ok (.invokevirtual 191, 3) := by decide +kernel
theorem dX10_takes_71 : decode cX10_takes 71 = .ok (.ifCond .ne 10, 3) := by decide +kernel
theorem dX10_takes_74 : decode cX10_takes 74 = .ok (.aload_n 0, 1) := by decide +kernel
theorem dX10_takes_75 : decode cX10_takes 75 = .ok (.bipush (-55), 2) := by decide +kernel
theorem dX10_takes_77 : decode cX10_takes 77 = .ok (.invokevirtual 88, 3) := by decide +kernel
theorem dX10_takes_80 : decode cX10_takes 80 = .ok (.ireturn, 1) := by decide +kernel
theorem dX10_takes_81 : decode cX10_takes 81 = .ok (.aload_n 0, 1) := by decide +kernel
theorem dX10_takes_82 : decode cX10_takes 82 = .ok (.getfield 12, 3) := by decide +kernel
theorem dX10_takes_85 : decode cX10_takes 85 = .ok (.iload_n 1, 1) := by decide +kernel
theorem dX10_takes_86 : decode cX10_takes 86 = .ok (.iload_n 2, 1) := by decide +kernel
theorem dX10_takes_87 : decode cX10_takes 87 = .ok (.invokevirtual 194, 3) := by decide +kernel
theorem dX10_takes_90 : decode cX10_takes 90 = .ok (.aload_n 0, 1) := by decide +kernel
theorem dX10_takes_91 : decode cX10_takes 91 = .ok (.getfield 50, 3) := by decide +kernel
theorem dX10_takes_94 : decode cX10_takes 94 = .ok (.iload_n 1, 1) := by decide +kernel
theorem dX10_takes_95 : decode cX10_takes 95 = .ok (.invokevirtual 181, 3) := by decide +kernel
theorem dX10_takes_98 : decode cX10_takes 98 = .ok (.iload 4, 2) := by decide +kernel
theorem dX10_takes_100 : decode cX10_takes 100 = .ok (.ireturn, 1) := by decide +kernel
theorem dX10_night_0 : decode cX10_night 0 = .ok (.aload_n 0, 1) := by decide +kernel
theorem dX10_night_1 : decode cX10_night 1 = .ok (.getfield 12, 3) := by decide +kernel
theorem dX10_night_4 : decode cX10_night 4 = .ok (.iload_n 1, 1) := by decide +kernel
theorem dX10_night_5 : decode cX10_night 5 = .ok (.invokevirtual 122, 3) := by decide +kernel
theorem dX10_night_8 : decode cX10_night 8 = .ok (.ifCond .eq 10, 3) := by decide +kernel
theorem dX10_night_11 : decode cX10_night 11 = .ok (.iload_n 2, 1) := by decide +kernel
theorem dX10_night_12 : decode cX10_night 12 = .ok (.invokestatic 185, 3) := by decide +kernel
theorem dX10_night_15 : decode cX10_night 15 = .ok (.ifCond .ne 10, 3) := by decide +kernel
theorem dX10_night_18 : decode cX10_night 18 = .ok (.aload_n 0, 1) := by decide +kernel
theorem dX10_night_19 : decode cX10_night 19 = .ok (.bipush (-52), 2) := by decide +kernel
theorem dX10_night_21 : decode cX10_night 21 = .ok (.invokevirtual 88, 3) := by decide +kernel
theorem dX10_night_24 : decode cX10_night 24 = .ok (.ireturn, 1) := by decide +kernel
theorem dX10_night_25 : decode cX10_night 25 = .ok (.aload_n 0, 1) := by decide +kernel
theorem dX10_night_26 : decode cX10_night 26 = .ok (.getfield 12, 3) := by decide +kernel
theorem dX10_night_29 : decode cX10_night 29 = .ok (.getfield 197, 3) := by decide +kernel
theorem dX10_night_32 : decode cX10_night 32 = .ok (.iload_n 1, 1) := by decide +kernel
theorem dX10_night_33 : decode cX10_night 33 = .ok (.iaload, 1) := by decide +kernel
theorem dX10_night_34 : decode cX10_night 34 = .ok (.istore_n 3, 1) := by decide +kernel
theorem dX10_night_35 : decode cX10_night 35 = .ok (.aload_n 0, 1) := by decide +kernel
theorem dX10_night_36 : decode cX10_night 36 = .ok (.getfield 12, 3) := by decide +kernel
theorem dX10_night_39 : decode cX10_night 39 = .ok (.getfield 197, 3) := by decide +kernel
theorem dX10_night_42 : decode cX10_night 42 = .ok (.iload_n 1, 1) := by decide +kernel
theorem dX10_night_43 : decode cX10_night 43 = .ok (.iload_n 2, 1) := by decide +kernel
theorem dX10_night_44 : decode cX10_night 44 = .ok (.iastore, 1) := by decide +kernel
theorem dX10_night_45 : decode cX10_night 45 = .ok (.aload_n 0, 1) := by decide +kernel
theorem dX10_night_46 : decode cX10_night 46 = .ok (.getfield 50, 3) := by decide +kernel
theorem dX10_night_49 : decode cX10_night 49 = .ok (.iload_n 1, 1) := by decide +kernel
theorem dX10_night_50 : decode cX10_night 50 = .ok (.invokevirtual 181, 3) := by decide +kernel
theorem dX10_night_53 : decode cX10_night 53 = .ok (.iload_n 3, 1) := by decide +kernel
theorem dX10_night_54 : decode cX10_night 54 = .ok (.ireturn, 1) := by decide +kernel
theorem dX10_room_0 : decode cX10_room 0 = .ok (.iload_n 1, 1) := by decide +kernel
theorem dX10_room_1 : decode cX10_room 1 = .ok (.iconst 1, 1) := by decide +kernel
theorem dX10_room_2 : decode cX10_room 2 = .ok (.if_icmp .lt 9, 3) := by decide +kernel
theorem dX10_room_5 : decode cX10_room 5 = .ok (.iload_n 1, 1) := by decide +kernel
theorem dX10_room_6 : decode cX10_room 6 = .ok (.bipush 9, 2) := by decide +kernel
theorem dX10_room_8 : decode cX10_room 8 = .ok (.if_icmp .le 10, 3) := by decide +kernel
theorem dX10_room_11 : decode cX10_room 11 = .ok (.aload_n 0, 1) := by decide +kernel
theorem dX10_room_12 : decode cX10_room 12 = .ok (.bipush (-52), 2) := by decide +kernel
theorem dX10_room_14 : decode cX10_room 14 = .ok (.invokevirtual 88, 3) := by decide +kernel
theorem dX10_room_17 : decode cX10_room 17 = .ok (.ireturn, 1) := by decide +kernel
theorem dX10_room_18 : decode cX10_room 18 = .ok (.aload_n 0, 1) := by decide +kernel
theorem dX10_room_19 : decode cX10_room 19 = .ok (.getfield 12, 3) := by decide +kernel
theorem dX10_room_22 : decode cX10_room 22 = .ok (.getfield 200, 3) := by decide +kernel
theorem dX10_room_25 : decode cX10_room 25 = .ok (.bipush 6, 2) := by decide +kernel
theorem dX10_room_27 : decode cX10_room 27 = .ok (.if_icmp .lt 10, 3) := by decide +kernel
theorem dX10_room_30 : decode cX10_room 30 = .ok (.aload_n 0, 1) := by decide +kernel
theorem dX10_room_31 : decode cX10_room 31 = .ok (.bipush (-56), 2) := by decide +kernel
theorem dX10_room_33 : decode cX10_room 33 = .ok (.invokevirtual 88, 3) := by decide +kernel
theorem dX10_room_36 : decode cX10_room 36 = .ok (.ireturn, 1) := by decide +kernel
theorem dX10_room_37 : decode cX10_room 37 = .ok (.aload_n 0, 1) := by decide +kernel
theorem dX10_room_38 : decode cX10_room 38 = .ok (.getfield 50, 3) := by decide +kernel
theorem dX10_room_41 : decode cX10_room 41 = .ok (.invokevirtual 203, 3) := by decide +kernel
theorem dX10_room_44 : decode cX10_room 44 = .ok (.aload_n 0, 1) := by decide +kernel
theorem dX10_room_45 : decode cX10_room 45 = .ok (.getfield 12, 3) := by decide +kernel
theorem dX10_room_48 : decode cX10_room 48 = .ok (.iload_n 1, 1) := by decide +kernel
theorem dX10_room_49 : decode cX10_room 49 = .ok (.invokevirtual 206, 3) := by decide +kernel
theorem dX10_room_52 : decode cX10_room 52 = .ok (.ireturn, 1) := by decide +kernel
theorem dX10_hours_0 : decode cX10_hours 0 = .ok (.iload_n 1, 1) := by decide +kernel
theorem dX10_hours_1 : decode cX10_hours 1 = .ok (.bipush 8, 2) := by decide +kernel
theorem dX10_hours_3 : decode cX10_hours 3 = .ok (.if_icmp .lt 9, 3) := by decide +kernel
theorem dX10_hours_6 : decode cX10_hours 6 = .ok (.iload_n 1, 1) := by decide +kernel
theorem dX10_hours_7 : decode cX10_hours 7 = .ok (.bipush 40, 2) := by decide +kernel
theorem dX10_hours_9 : decode cX10_hours 9 = .ok (.if_icmp .le 10, 3) := by decide +kernel
theorem dX10_hours_12 : decode cX10_hours 12 = .ok (.aload_n 0, 1) := by decide +kernel
theorem dX10_hours_13 : decode cX10_hours 13 = .ok (.bipush (-52), 2) := by decide +kernel
theorem dX10_hours_15 : decode cX10_hours 15 = .ok (.invokevirtual 88, 3) := by decide +kernel
theorem dX10_hours_18 : decode cX10_hours 18 = .ok (.ireturn, 1) := by decide +kernel
theorem dX10_hours_19 : decode cX10_hours 19 = .ok (.aload_n 0, 1) := by decide +kernel
theorem dX10_hours_20 : decode cX10_hours 20 = .ok (.getfield 12, 3) := by decide +kernel
theorem dX10_hours_23 : decode cX10_hours 23 = .ok (.getfield 209, 3) := by decide +kernel
theorem dX10_hours_26 : decode cX10_hours 26 = .ok (.istore_n 2, 1) := by decide +kernel
theorem dX10_hours_27 : decode cX10_hours 27 = .ok (.aload_n 0, 1) := by decide +kernel
theorem dX10_hours_28 : decode cX10_hours 28 = .ok (.getfield 12, 3) := by decide +kernel
theorem dX10_hours_31 : decode cX10_hours 31 = .ok (.iload_n 1, 1) := by decide +kernel
theorem dX10_hours_32 : decode cX10_hours 32 = .ok (.putfield 209, 3) := by decide +kernel
theorem dX10_hours_35 : decode cX10_hours 35 = .ok (.aload_n 0, 1) := by decide +kernel
theorem dX10_hours_36 : decode cX10_hours 36 = .ok (.getfield 50, 3) := by decide +kernel
theorem dX10_hours_39 : decode cX10_hours 39 = .ok (.invokevirtual 171, 3) := by decide +kernel
theorem dX10_hours_42 : decode cX10_hours 42 = .ok (.iload_n 2, 1) := by decide +kernel
theorem dX10_hours_43 : decode cX10_hours 43 = .ok (.ireturn, 1) := by decide +kernel
theorem dX10_turn_0 : decode cX10_turn 0 = .ok (.iload_n 1, 1) := by decide +kernel
theorem dX10_turn_1 : decode cX10_turn 1 = .ok (.ifCond .lt 9, 3) := by decide +kernel
theorem dX10_turn_4 : decode cX10_turn 4 = .ok (.iload_n 1, 1) := by decide +kernel
theorem dX10_turn_5 : decode cX10_turn 5 = .ok (.bipush 8, 2) := by decide +kernel
theorem dX10_turn_7 : decode cX10_turn 7 = .ok (.if_icmp .le 10, 3) := by decide +kernel
theorem dX10_turn_10 : decode cX10_turn 10 = .ok (.aload_n 0, 1) := by decide +kernel
theorem dX10_turn_11 : decode cX10_turn 11 = .ok (.bipush (-52), 2) := by decide +kernel
theorem dX10_turn_13 : decode cX10_turn 13 = .ok (.invokevirtual 88, 3) := by decide +kernel
theorem dX10_turn_16 : decode cX10_turn 16 = .ok (.ireturn, 1) := by decide +kernel
theorem dX10_turn_17 : decode cX10_turn 17 = .ok (.aload_n 0, 1) := by decide +kernel
theorem dX10_turn_18 : decode cX10_turn 18 = .ok (.getfield 12, 3) := by decide +kernel
theorem dX10_turn_21 : decode cX10_turn 21 = .ok (.getfield 212, 3) := by decide +kernel
theorem dX10_turn_24 : decode cX10_turn 24 = .ok (.istore_n 2, 1) := by decide +kernel
theorem dX10_turn_25 : decode cX10_turn 25 = .ok (.aload_n 0, 1) := by decide +kernel
theorem dX10_turn_26 : decode cX10_turn 26 = .ok (.getfield 12, 3) := by decide +kernel
theorem dX10_turn_29 : decode cX10_turn 29 = .ok (.iload_n 1, 1) := by decide +kernel
theorem dX10_turn_30 : decode cX10_turn 30 = .ok (.putfield 212, 3) := by decide +kernel
theorem dX10_turn_33 : decode cX10_turn 33 = .ok (.aload_n 0, 1) := by decide +kernel
theorem dX10_turn_34 : decode cX10_turn 34 = .ok (.getfield 50, 3) := by decide +kernel
theorem dX10_turn_37 : decode cX10_turn 37 = .ok (.invokevirtual 203, 3) := by decide +kernel
theorem dX10_turn_40 : decode cX10_turn 40 = .ok (.iload_n 2, 1) := by decide +kernel
theorem dX10_turn_41 : decode cX10_turn 41 = .ok (.ireturn, 1) := by decide +kernel
theorem dX10_candOf_0 : decode cX10_candOf 0 = .ok (.aload_n 0, 1) := by decide +kernel
theorem dX10_candOf_1 : decode cX10_candOf 1 = .ok (.getfield 12, 3) := by decide +kernel
theorem dX10_candOf_4 : decode cX10_candOf 4 = .ok (.iload_n 1, 1) := by decide +kernel
theorem dX10_candOf_5 : decode cX10_candOf 5 = .ok (.invokevirtual 122, 3) := by decide +kernel
theorem dX10_candOf_8 : decode cX10_candOf 8 = .ok (.ifCond .ne 10, 3) := by decide +kernel
theorem dX10_candOf_11 : decode cX10_candOf 11 = .ok (.aload_n 0, 1) := by decide +kernel
theorem dX10_candOf_12 : decode cX10_candOf 12 = .ok (.bipush (-52), 2) := by decide +kernel
theorem dX10_candOf_14 : decode cX10_candOf 14 = .ok (.invokevirtual 88, 3) := by decide +kernel
theorem dX10_candOf_17 : decode cX10_candOf 17 = .ok (.ireturn, 1) := by decide +kernel
theorem dX10_candOf_18 : decode cX10_candOf 18 = .ok (.iload_n 2, 1) := by decide +kernel
theorem dX10_candOf_19 : decode cX10_candOf 19 = .ok (.tableswitch 102 0 5 #[37, 47, 57, 67, 77, 86], 37) := by decide +kernel
theorem dX10_candOf_56 : decode cX10_candOf 56 = .ok (.aload_n 0, 1) := by decide +kernel
theorem dX10_candOf_57 : decode cX10_candOf 57 = .ok (.getfield 12, 3) := by decide +kernel
theorem dX10_candOf_60 : decode cX10_candOf 60 = .ok (.getfield 137, 3) := by decide +kernel
theorem dX10_candOf_63 : decode cX10_candOf 63 = .ok (.iload_n 1, 1) := by decide +kernel
theorem dX10_candOf_64 : decode cX10_candOf 64 = .ok (.iaload, 1) := by decide +kernel
theorem dX10_candOf_65 : decode cX10_candOf 65 = .ok (.ireturn, 1) := by decide +kernel
theorem dX10_candOf_66 : decode cX10_candOf 66 = .ok (.aload_n 0, 1) := by decide +kernel
theorem dX10_candOf_67 : decode cX10_candOf 67 = .ok (.getfield 12, 3) := by decide +kernel
theorem dX10_candOf_70 : decode cX10_candOf 70 = .ok (.getfield 143, 3) := by decide +kernel
theorem dX10_candOf_73 : decode cX10_candOf 73 = .ok (.iload_n 1, 1) := by decide +kernel
theorem dX10_candOf_74 : decode cX10_candOf 74 = .ok (.iaload, 1) := by decide +kernel
theorem dX10_candOf_75 : decode cX10_candOf 75 = .ok (.ireturn, 1) := by decide +kernel
theorem dX10_candOf_76 : decode cX10_candOf 76 = .ok (.aload_n 0, 1) := by decide +kernel
theorem dX10_candOf_77 : decode cX10_candOf 77 = .ok (.getfield 12, 3) := by decide +kernel
theorem dX10_candOf_80 : decode cX10_candOf 80 = .ok (.getfield 197, 3) := by decide +kernel
theorem dX10_candOf_83 : decode cX10_candOf 83 = .ok (.iload_n 1, 1) := by decide +kernel
theorem dX10_candOf_84 : decode cX10_candOf 84 = .ok (.iaload, 1) := by decide +kernel
theorem dX10_candOf_85 : decode cX10_candOf 85 = .ok (.ireturn, 1) := by decide +kernel
theorem dX10_candOf_86 : decode cX10_candOf 86 = .ok (.aload_n 0, 1) := by decide +kernel
theorem dX10_candOf_87 : decode cX10_candOf 87 = .ok (.getfield 12, 3) := by decide +kernel
theorem dX10_candOf_90 : decode cX10_candOf 90 = .ok (.getfield 237, 3) := by decide +kernel
theorem dX10_candOf_93 : decode cX10_candOf 93 = .ok (.iload_n 1, 1) := by decide +kernel
theorem dX10_candOf_94 : decode cX10_candOf 94 = .ok (.iaload, 1) := by decide +kernel
theorem dX10_candOf_95 : decode cX10_candOf 95 = .ok (.ireturn, 1) := by decide +kernel
theorem dX10_candOf_96 : decode cX10_candOf 96 = .ok (.aload_n 0, 1) := by decide +kernel
theorem dX10_candOf_97 : decode cX10_candOf 97 = .ok (.getfield 12, 3) := by decide +kernel
theorem dX10_candOf_100 : decode cX10_candOf 100 = .ok (.iload_n 1, 1) := by decide +kernel
theorem dX10_candOf_101 : decode cX10_candOf 101 = .ok (.invokevirtual 240, 3) := by decide +kernel
theorem dX10_candOf_104 : decode cX10_candOf 104 = .ok (.ireturn, 1) := by decide +kernel
theorem dX10_candOf_105 : decode cX10_candOf 105 = .ok (.aload_n 0, 1) := by decide +kernel
theorem dX10_candOf_106 : decode cX10_candOf 106 = .ok (.getfield 50, 3) := by decide +kernel
theorem dX10_candOf_109 : decode cX10_candOf 109 = .ok (.aload_n 0, 1) := by decide +kernel
theorem dX10_candOf_110 : decode cX10_candOf 110 = .ok (.getfield 12, 3) := by decide +kernel
theorem dX10_candOf_113 : decode cX10_candOf 113 = .ok (.iload_n 1, 1) := by decide +kernel
theorem dX10_candOf_114 : decode cX10_candOf 114 = .ok (.invokevirtual 243, 3) := by decide +kernel
theorem dX10_candOf_117 : decode cX10_candOf 117 = .ok (.invokevirtual 247, 3) := by decide +kernel
theorem dX10_candOf_120 : decode cX10_candOf 120 = .ok (.ireturn, 1) := by decide +kernel
theorem dX10_candOf_121 : decode cX10_candOf 121 = .ok (.aload_n 0, 1) := by decide +kernel
theorem dX10_candOf_122 : decode cX10_candOf 122 = .ok (.bipush (-52), 2) := by decide +kernel
theorem dX10_candOf_124 : decode cX10_candOf 124 = .ok (.invokevirtual 88, 3) := by decide +kernel
theorem dX10_candOf_127 : decode cX10_candOf 127 = .ok (.ireturn, 1) := by decide +kernel
theorem dX10_paperOf_0 : decode cX10_paperOf 0 = .ok (.aload_n 0, 1) := by decide +kernel
theorem dX10_paperOf_1 : decode cX10_paperOf 1 = .ok (.getfield 12, 3) := by decide +kernel
theorem dX10_paperOf_4 : decode cX10_paperOf 4 = .ok (.iload_n 1, 1) := by decide +kernel
theorem dX10_paperOf_5 : decode cX10_paperOf 5 = .ok (.i2l, 1) := by decide +kernel
theorem dX10_paperOf_6 : decode cX10_paperOf 6 = .ok (.invokevirtual 164, 3) := by decide +kernel
theorem dX10_paperOf_9 : decode cX10_paperOf 9 = .ok (.ifCond .ne 10, 3) := by decide +kernel
theorem dX10_paperOf_12 : decode cX10_paperOf 12 = .ok (.aload_n 0, 1) := by decide +kernel
theorem dX10_paperOf_13 : decode cX10_paperOf 13 = .ok (.bipush (-52), 2) := by decide +kernel
theorem dX10_paperOf_15 : decode cX10_paperOf 15 = .ok (.invokevirtual 88, 3) := by decide +kernel
theorem dX10_paperOf_18 : decode cX10_paperOf 18 = .ok (.ireturn, 1) := by decide +kernel
theorem dX10_paperOf_19 : decode cX10_paperOf 19 = .ok (.iload_n 2, 1) := by decide +kernel
theorem dX10_paperOf_20 : decode cX10_paperOf 20 = .ok (.tableswitch 78 0 4 #[36, 46, 56, 66, 72], 36) := by decide +kernel
theorem dX10_paperOf_56 : decode cX10_paperOf 56 = .ok (.aload_n 0, 1) := by decide +kernel
theorem dX10_paperOf_57 : decode cX10_paperOf 57 = .ok (.getfield 12, 3) := by decide +kernel
theorem dX10_paperOf_60 : decode cX10_paperOf 60 = .ok (.getfield 250, 3) := by decide +kernel
theorem dX10_paperOf_63 : decode cX10_paperOf 63 = .ok (.iload_n 1, 1) := by decide +kernel
theorem dX10_paperOf_64 : decode cX10_paperOf 64 = .ok (.iaload, 1) := by decide +kernel
theorem dX10_paperOf_65 : decode cX10_paperOf 65 = .ok (.ireturn, 1) := by decide +kernel
theorem dX10_paperOf_66 : decode cX10_paperOf 66 = .ok (.aload_n 0, 1) := by decide +kernel
theorem dX10_paperOf_67 : decode cX10_paperOf 67 = .ok (.getfield 12, 3) := by decide +kernel
theorem dX10_paperOf_70 : decode cX10_paperOf 70 = .ok (.getfield 168, 3) := by decide +kernel
theorem dX10_paperOf_73 : decode cX10_paperOf 73 = .ok (.iload_n 1, 1) := by decide +kernel
theorem dX10_paperOf_74 : decode cX10_paperOf 74 = .ok (.iaload, 1) := by decide +kernel
theorem dX10_paperOf_75 : decode cX10_paperOf 75 = .ok (.ireturn, 1) := by decide +kernel
theorem dX10_paperOf_76 : decode cX10_paperOf 76 = .ok (.aload_n 0, 1) := by decide +kernel
theorem dX10_paperOf_77 : decode cX10_paperOf 77 = .ok (.getfield 12, 3) := by decide +kernel
theorem dX10_paperOf_80 : decode cX10_paperOf 80 = .ok (.getfield 253, 3) := by decide +kernel
theorem dX10_paperOf_83 : decode cX10_paperOf 83 = .ok (.iload_n 1, 1) := by decide +kernel
theorem dX10_paperOf_84 : decode cX10_paperOf 84 = .ok (.iaload, 1) := by decide +kernel
theorem dX10_paperOf_85 : decode cX10_paperOf 85 = .ok (.ireturn, 1) := by decide +kernel
theorem dX10_paperOf_86 : decode cX10_paperOf 86 = .ok (.aload_n 0, 1) := by decide +kernel
theorem dX10_paperOf_87 : decode cX10_paperOf 87 = .ok (.iload_n 1, 1) := by decide +kernel
theorem dX10_paperOf_88 : decode cX10_paperOf 88 = .ok (.invokevirtual 256, 3) := by decide +kernel
theorem dX10_paperOf_91 : decode cX10_paperOf 91 = .ok (.ireturn, 1) := by decide +kernel
theorem dX10_paperOf_92 : decode cX10_paperOf 92 = .ok (.aload_n 0, 1) := by decide +kernel
theorem dX10_paperOf_93 : decode cX10_paperOf 93 = .ok (.iload_n 1, 1) := by decide +kernel
theorem dX10_paperOf_94 : decode cX10_paperOf 94 = .ok (.invokevirtual 259, 3) := by decide +kernel
theorem dX10_paperOf_97 : decode cX10_paperOf 97 = .ok (.ireturn, 1) := by decide +kernel
theorem dX10_paperOf_98 : decode cX10_paperOf 98 = .ok (.aload_n 0, 1) := by decide +kernel
theorem dX10_paperOf_99 : decode cX10_paperOf 99 = .ok (.bipush (-52), 2) := by decide +kernel
theorem dX10_paperOf_101 : decode cX10_paperOf 101 = .ok (.invokevirtual 88, 3) := by decide +kernel
theorem dX10_paperOf_104 : decode cX10_paperOf 104 = .ok (.ireturn, 1) := by decide +kernel
theorem dX10_time_0 : decode cX10_time 0 = .ok (.aload_n 0, 1) := by decide +kernel
theorem dX10_time_1 : decode cX10_time 1 = .ok (.getfield 12, 3) := by decide +kernel
theorem dX10_time_4 : decode cX10_time 4 = .ok (.iload_n 1, 1) := by decide +kernel
theorem dX10_time_5 : decode cX10_time 5 = .ok (.invokevirtual 122, 3) := by decide +kernel
theorem dX10_time_8 : decode cX10_time 8 = .ok (.ifCond .eq 15, 3) := by decide +kernel
theorem dX10_time_11 : decode cX10_time 11 = .ok (.aload_n 0, 1) := by decide +kernel
theorem dX10_time_12 : decode cX10_time 12 = .ok (.getfield 12, 3) := by decide +kernel
theorem dX10_time_15 : decode cX10_time 15 = .ok (.iload_n 2, 1) := by decide +kernel
theorem dX10_time_16 : decode cX10_time 16 = .ok (.i2l, 1) := by decide +kernel
theorem dX10_time_17 : decode cX10_time 17 = .ok (.invokevirtual 164, 3) := by decide +kernel
theorem dX10_time_20 : decode cX10_time 20 = .ok (.ifCond .ne 10, 3) := by decide +kernel
theorem dX10_time_23 : decode cX10_time 23 = .ok (.aload_n 0, 1) := by decide +kernel
theorem dX10_time_24 : decode cX10_time 24 = .ok (.bipush (-52), 2) := by decide +kernel
theorem dX10_time_26 : decode cX10_time 26 = .ok (.invokevirtual 88, 3) := by decide +kernel
theorem dX10_time_29 : decode cX10_time 29 = .ok (.ireturn, 1) := by decide +kernel
theorem dX10_time_30 : decode cX10_time 30 = .ok (.aload_n 0, 1) := by decide +kernel
theorem dX10_time_31 : decode cX10_time 31 = .ok (.getfield 12, 3) := by decide +kernel
theorem dX10_time_34 : decode cX10_time 34 = .ok (.iload_n 1, 1) := by decide +kernel
theorem dX10_time_35 : decode cX10_time 35 = .ok (.iload_n 2, 1) := by decide +kernel
theorem dX10_time_36 : decode cX10_time 36 = .ok (.invokevirtual 262, 3) := by decide +kernel
theorem dX10_time_39 : decode cX10_time 39 = .ok (.ireturn, 1) := by decide +kernel
theorem dX10_plan_0 : decode cX10_plan 0 = .ok (.aload_n 0, 1) := by decide +kernel
theorem dX10_plan_1 : decode cX10_plan 1 = .ok (.getfield 12, 3) := by decide +kernel
theorem dX10_plan_4 : decode cX10_plan 4 = .ok (.iload_n 1, 1) := by decide +kernel
theorem dX10_plan_5 : decode cX10_plan 5 = .ok (.invokevirtual 122, 3) := by decide +kernel
theorem dX10_plan_8 : decode cX10_plan 8 = .ok (.ifCond .eq 10, 3) := by decide +kernel
theorem dX10_plan_11 : decode cX10_plan 11 = .ok (.iload_n 2, 1) := by decide +kernel
theorem dX10_plan_12 : decode cX10_plan 12 = .ok (.invokestatic 150, 3) := by decide +kernel
theorem dX10_plan_15 : decode cX10_plan 15 = .ok (.ifCond .ne 10, 3) := by decide +kernel
theorem dX10_plan_18 : decode cX10_plan 18 = .ok (.aload_n 0, 1) := by decide +kernel
theorem dX10_plan_19 : decode cX10_plan 19 = .ok (.bipush (-52), 2) := by decide +kernel
theorem dX10_plan_21 : decode cX10_plan 21 = .ok (.invokevirtual 88, 3) := by decide +kernel
theorem dX10_plan_24 : decode cX10_plan 24 = .ok (.ireturn, 1) := by decide +kernel
theorem dX10_plan_25 : decode cX10_plan 25 = .ok (.aload_n 0, 1) := by decide +kernel
theorem dX10_plan_26 : decode cX10_plan 26 = .ok (.getfield 50, 3) := by decide +kernel
theorem dX10_plan_29 : decode cX10_plan 29 = .ok (.aload_n 0, 1) := by decide +kernel
theorem dX10_plan_30 : decode cX10_plan 30 = .ok (.getfield 12, 3) := by decide +kernel
theorem dX10_plan_33 : decode cX10_plan 33 = .ok (.iload_n 1, 1) := by decide +kernel
theorem dX10_plan_34 : decode cX10_plan 34 = .ok (.invokevirtual 243, 3) := by decide +kernel
theorem dX10_plan_37 : decode cX10_plan 37 = .ok (.astore 4, 2) := by decide +kernel
theorem dX10_plan_39 : decode cX10_plan 39 = .ok (.iload_n 3, 1) := by decide +kernel
theorem dX10_plan_40 : decode cX10_plan 40 = .ok (.tableswitch 133 0 6 #[44, 60, 71, 79, 87, 95, 103], 44) := by decide +kernel
theorem dX10_plan_84 : decode cX10_plan 84 = .ok (.aload 4, 2) := by decide +kernel
theorem dX10_plan_86 : decode cX10_plan 86 = .ok (.getfield 265, 3) := by decide +kernel
theorem dX10_plan_89 : decode cX10_plan 89 = .ok (.iload_n 2, 1) := by decide +kernel
theorem dX10_plan_90 : decode cX10_plan 90 = .ok (.baload, 1) := by decide +kernel
theorem dX10_plan_91 : decode cX10_plan 91 = .ok (.ifCond .eq 7, 3) := by decide +kernel
theorem dX10_plan_94 : decode cX10_plan 94 = .ok (.iconst 1, 1) := by decide +kernel
theorem dX10_plan_95 : decode cX10_plan 95 = .ok (.goto 4, 3) := by decide +kernel
theorem dX10_plan_98 : decode cX10_plan 98 = .ok (.iconst 0, 1) := by decide +kernel
theorem dX10_plan_99 : decode cX10_plan 99 = .ok (.ireturn, 1) := by decide +kernel
theorem dX10_plan_100 : decode cX10_plan 100 = .ok (.aload 4, 2) := by decide +kernel
theorem dX10_plan_102 : decode cX10_plan 102 = .ok (.getfield 269, 3) := by decide +kernel
theorem dX10_plan_105 : decode cX10_plan 105 = .ok (.iload_n 2, 1) := by decide +kernel
theorem dX10_plan_106 : decode cX10_plan 106 = .ok (.laload, 1) := by decide +kernel
theorem dX10_plan_107 : decode cX10_plan 107 = .ok (.invokestatic 273, 3) := by decide +kernel
theorem dX10_plan_110 : decode cX10_plan 110 = .ok (.ireturn, 1) := by decide +kernel
theorem dX10_plan_111 : decode cX10_plan 111 = .ok (.aload 4, 2) := by decide +kernel
theorem dX10_plan_113 : decode cX10_plan 113 = .ok (.getfield 279, 3) := by decide +kernel
theorem dX10_plan_116 : decode cX10_plan 116 = .ok (.iload_n 2, 1) := by decide +kernel
theorem dX10_plan_117 : decode cX10_plan 117 = .ok (.iaload, 1) := by decide +kernel
theorem dX10_plan_118 : decode cX10_plan 118 = .ok (.ireturn, 1) := by decide +kernel
theorem dX10_plan_119 : decode cX10_plan 119 = .ok (.aload 4, 2) := by decide +kernel
theorem dX10_plan_121 : decode cX10_plan 121 = .ok (.getfield 282, 3) := by decide +kernel
theorem dX10_plan_124 : decode cX10_plan 124 = .ok (.iload_n 2, 1) := by decide +kernel
theorem dX10_plan_125 : decode cX10_plan 125 = .ok (.iaload, 1) := by decide +kernel
theorem dX10_plan_126 : decode cX10_plan 126 = .ok (.ireturn, 1) := by decide +kernel
theorem dX10_plan_127 : decode cX10_plan 127 = .ok (.aload 4, 2) := by decide +kernel
theorem dX10_plan_129 : decode cX10_plan 129 = .ok (.getfield 285, 3) := by decide +kernel
theorem dX10_plan_132 : decode cX10_plan 132 = .ok (.iload_n 2, 1) := by decide +kernel
theorem dX10_plan_133 : decode cX10_plan 133 = .ok (.iaload, 1) := by decide +kernel
theorem dX10_plan_134 : decode cX10_plan 134 = .ok (.ireturn, 1) := by decide +kernel
theorem dX10_plan_135 : decode cX10_plan 135 = .ok (.aload 4, 2) := by decide +kernel
theorem dX10_plan_137 : decode cX10_plan 137 = .ok (.getfield 288, 3) := by decide +kernel
theorem dX10_plan_140 : decode cX10_plan 140 = .ok (.iload_n 2, 1) := by decide +kernel
theorem dX10_plan_141 : decode cX10_plan 141 = .ok (.iaload, 1) := by decide +kernel
theorem dX10_plan_142 : decode cX10_plan 142 = .ok (.ireturn, 1) := by decide +kernel
theorem dX10_plan_143 : decode cX10_plan 143 = .ok (.aload 4, 2) := by decide +kernel
theorem dX10_plan_145 : decode cX10_plan 145 = .ok (.getfield 265, 3) := by decide +kernel
theorem dX10_plan_148 : decode cX10_plan 148 = .ok (.iload_n 2, 1) := by decide +kernel
theorem dX10_plan_149 : decode cX10_plan 149 = .ok (.baload, 1) := by decide +kernel
theorem dX10_plan_150 : decode cX10_plan 150 = .ok (.ifCond .eq 7, 3) := by decide +kernel
theorem dX10_plan_153 : decode cX10_plan 153 = .ok (.iconst 0, 1) := by decide +kernel
theorem dX10_plan_154 : decode cX10_plan 154 = .ok (.goto 18, 3) := by decide +kernel
theorem dX10_plan_157 : decode cX10_plan 157 = .ok (.aload_n 0, 1) := by decide +kernel
theorem dX10_plan_158 : decode cX10_plan 158 = .ok (.getfield 43, 3) := by decide +kernel
theorem dX10_plan_161 : decode cX10_plan 161 = .ok (.aload_n 0, 1) := by decide +kernel
theorem dX10_plan_162 : decode cX10_plan 162 = .ok (.getfield 12, 3) := by decide +kernel
theorem dX10_plan_165 : decode cX10_plan 165 = .ok (.iload_n 1, 1) := by decide +kernel
theorem dX10_plan_166 : decode cX10_plan 166 = .ok (.iload_n 2, 1) := by decide +kernel
theorem dX10_plan_167 : decode cX10_plan 167 = .ok (.aload 4, 2) := by decide +kernel
theorem dX10_plan_169 : decode cX10_plan 169 = .ok (.invokevirtual 291, 3) := by decide +kernel
theorem dX10_plan_172 : decode cX10_plan 172 = .ok (.ireturn, 1) := by decide +kernel
theorem dX10_plan_173 : decode cX10_plan 173 = .ok (.aload_n 0, 1) := by decide +kernel
theorem dX10_plan_174 : decode cX10_plan 174 = .ok (.bipush (-52), 2) := by decide +kernel
theorem dX10_plan_176 : decode cX10_plan 176 = .ok (.invokevirtual 88, 3) := by decide +kernel
theorem dX10_plan_179 : decode cX10_plan 179 = .ok (.ireturn, 1) := by decide +kernel
theorem dX10_sits_0 : decode cX10_sits 0 = .ok (.aload_n 0, 1) := by decide +kernel
theorem dX10_sits_1 : decode cX10_sits 1 = .ok (.getfield 12, 3) := by decide +kernel
theorem dX10_sits_4 : decode cX10_sits 4 = .ok (.iload_n 1, 1) := by decide +kernel
theorem dX10_sits_5 : decode cX10_sits 5 = .ok (.invokevirtual 122, 3) := by decide +kernel
theorem dX10_sits_8 : decode cX10_sits 8 = .ok (.ifCond .eq 10, 3) := by decide +kernel
theorem dX10_sits_11 : decode cX10_sits 11 = .ok (.iload_n 2, 1) := by decide +kernel
theorem dX10_sits_12 : decode cX10_sits 12 = .ok (.invokestatic 150, 3) := by decide +kernel
theorem dX10_sits_15 : decode cX10_sits 15 = .ok (.ifCond .ne 10, 3) := by decide +kernel
theorem dX10_sits_18 : decode cX10_sits 18 = .ok (.aload_n 0, 1) := by decide +kernel
theorem dX10_sits_19 : decode cX10_sits 19 = .ok (.bipush (-52), 2) := by decide +kernel
theorem dX10_sits_21 : decode cX10_sits 21 = .ok (.invokevirtual 88, 3) := by decide +kernel
theorem dX10_sits_24 : decode cX10_sits 24 = .ok (.ireturn, 1) := by decide +kernel
theorem dX10_sits_25 : decode cX10_sits 25 = .ok (.aload_n 0, 1) := by decide +kernel
theorem dX10_sits_26 : decode cX10_sits 26 = .ok (.getfield 50, 3) := by decide +kernel
theorem dX10_sits_29 : decode cX10_sits 29 = .ok (.aload_n 0, 1) := by decide +kernel
theorem dX10_sits_30 : decode cX10_sits 30 = .ok (.getfield 12, 3) := by decide +kernel
theorem dX10_sits_33 : decode cX10_sits 33 = .ok (.iload_n 1, 1) := by decide +kernel
theorem dX10_sits_34 : decode cX10_sits 34 = .ok (.invokevirtual 243, 3) := by decide +kernel
theorem dX10_sits_37 : decode cX10_sits 37 = .ok (.astore 5, 2) := by decide +kernel
theorem dX10_sits_39 : decode cX10_sits 39 = .ok (.iload_n 3, 1) := by decide +kernel
theorem dX10_sits_40 : decode cX10_sits 40 = .ok (.ifCond .lt 14, 3) := by decide +kernel
theorem dX10_sits_43 : decode cX10_sits 43 = .ok (.iload_n 3, 1) := by decide +kernel
theorem dX10_sits_44 : decode cX10_sits 44 = .ok (.aload 5, 2) := by decide +kernel
theorem dX10_sits_46 : decode cX10_sits 46 = .ok (.getfield 288, 3) := by decide +kernel
theorem dX10_sits_49 : decode cX10_sits 49 = .ok (.iload_n 2, 1) := by decide +kernel
theorem dX10_sits_50 : decode cX10_sits 50 = .ok (.iaload, 1) := by decide +kernel
theorem dX10_sits_51 : decode cX10_sits 51 = .ok (.if_icmp .lt 10, 3) := by decide +kernel
theorem dX10_sits_54 : decode cX10_sits 54 = .ok (.aload_n 0, 1) := by decide +kernel
theorem dX10_sits_55 : decode cX10_sits 55 = .ok (.bipush (-52), 2) := by decide +kernel
theorem dX10_sits_57 : decode cX10_sits 57 = .ok (.invokevirtual 88, 3) := by decide +kernel
theorem dX10_sits_60 : decode cX10_sits 60 = .ok (.ireturn, 1) := by decide +kernel
theorem dX10_sits_61 : decode cX10_sits 61 = .ok (.iload_n 2, 1) := by decide +kernel
theorem dX10_sits_62 : decode cX10_sits 62 = .ok (.iconst 4, 1) := by decide +kernel
theorem dX10_sits_63 : decode cX10_sits 63 = .ok (.imul, 1) := by decide +kernel
theorem dX10_sits_64 : decode cX10_sits 64 = .ok (.iload_n 3, 1) := by decide +kernel
theorem dX10_sits_65 : decode cX10_sits 65 = .ok (.iadd, 1) := by decide +kernel
theorem dX10_sits_66 : decode cX10_sits 66 = .ok (.istore 6, 2) := by decide +kernel
theorem dX10_sits_68 : decode cX10_sits 68 = .ok (.iload 4, 2) := by decide +kernel
theorem dX10_sits_70 : decode cX10_sits 70 = .ok (.tableswitch 53 0 2 #[26, 35, 44], 26) := by decide +kernel
theorem dX10_sits_96 : decode cX10_sits 96 = .ok (.aload 5, 2) := by decide +kernel
theorem dX10_sits_98 : decode cX10_sits 98 = .ok (.getfield 295, 3) := by decide +kernel
theorem dX10_sits_101 : decode cX10_sits 101 = .ok (.iload 6, 2) := by decide +kernel
theorem dX10_sits_103 : decode cX10_sits 103 = .ok (.iaload, 1) := by decide +kernel
theorem dX10_sits_104 : decode cX10_sits 104 = .ok (.ireturn, 1) := by decide +kernel
theorem dX10_sits_105 : decode cX10_sits 105 = .ok (.aload 5, 2) := by decide +kernel
theorem dX10_sits_107 : decode cX10_sits 107 = .ok (.getfield 298, 3) := by decide +kernel
theorem dX10_sits_110 : decode cX10_sits 110 = .ok (.iload 6, 2) := by decide +kernel
theorem dX10_sits_112 : decode cX10_sits 112 = .ok (.iaload, 1) := by decide +kernel
theorem dX10_sits_113 : decode cX10_sits 113 = .ok (.ireturn, 1) := by decide +kernel
theorem dX10_sits_114 : decode cX10_sits 114 = .ok (.aload 5, 2) := by decide +kernel
theorem dX10_sits_116 : decode cX10_sits 116 = .ok (.getfield 301, 3) := by decide +kernel
theorem dX10_sits_119 : decode cX10_sits 119 = .ok (.iload 6, 2) := by decide +kernel
theorem dX10_sits_121 : decode cX10_sits 121 = .ok (.iaload, 1) := by decide +kernel
theorem dX10_sits_122 : decode cX10_sits 122 = .ok (.ireturn, 1) := by decide +kernel
theorem dX10_sits_123 : decode cX10_sits 123 = .ok (.aload_n 0, 1) := by decide +kernel
theorem dX10_sits_124 : decode cX10_sits 124 = .ok (.bipush (-52), 2) := by decide +kernel
theorem dX10_sits_126 : decode cX10_sits 126 = .ok (.invokevirtual 88, 3) := by decide +kernel
theorem dX10_sits_129 : decode cX10_sits 129 = .ok (.ireturn, 1) := by decide +kernel
theorem dX10_does_0 : decode cX10_does 0 = .ok (.aload_n 0, 1) := by decide +kernel
theorem dX10_does_1 : decode cX10_does 1 = .ok (.getfield 12, 3) := by decide +kernel
theorem dX10_does_4 : decode cX10_does 4 = .ok (.iload_n 1, 1) := by decide +kernel
theorem dX10_does_5 : decode cX10_does 5 = .ok (.invokevirtual 122, 3) := by decide +kernel
theorem dX10_does_8 : decode cX10_does 8 = .ok (.ifCond .eq 17, 3) := by decide +kernel
theorem dX10_does_11 : decode cX10_does 11 = .ok (.iload_n 2, 1) := by decide +kernel
theorem dX10_does_12 : decode cX10_does 12 = .ok (.invokestatic 150, 3) := by decide +kernel
theorem dX10_does_15 : decode cX10_does 15 = .ok (.ifCond .eq 10, 3) := by decide +kernel
theorem dX10_does_18 : decode cX10_does 18 = .ok (.iload_n 3, 1) := by decide +kernel
theorem dX10_does_19 : decode cX10_does 19 = .ok (.invokestatic 153, 3) := by decide +kernel
theorem dX10_does_22 : decode cX10_does 22 = .ok (.ifCond .ne 10, 3) := by decide +kernel
theorem dX10_does_25 : decode cX10_does 25 = .ok (.aload_n 0, 1) := by decide +kernel
theorem dX10_does_26 : decode cX10_does 26 = .ok (.bipush (-52), 2) := by decide +kernel
theorem dX10_does_28 : decode cX10_does 28 = .ok (.invokevirtual 88, 3) := by decide +kernel
theorem dX10_does_31 : decode cX10_does 31 = .ok (.ireturn, 1) := by decide +kernel
theorem dX10_does_32 : decode cX10_does 32 = .ok (.aload_n 0, 1) := by decide +kernel
theorem dX10_does_33 : decode cX10_does 33 = .ok (.getfield 50, 3) := by decide +kernel
theorem dX10_does_36 : decode cX10_does 36 = .ok (.aload_n 0, 1) := by decide +kernel
theorem dX10_does_37 : decode cX10_does 37 = .ok (.getfield 12, 3) := by decide +kernel
theorem dX10_does_40 : decode cX10_does 40 = .ok (.iload_n 1, 1) := by decide +kernel
theorem dX10_does_41 : decode cX10_does 41 = .ok (.invokevirtual 243, 3) := by decide +kernel
theorem dX10_does_44 : decode cX10_does 44 = .ok (.iload_n 2, 1) := by decide +kernel
theorem dX10_does_45 : decode cX10_does 45 = .ok (.iload_n 3, 1) := by decide +kernel
theorem dX10_does_46 : decode cX10_does 46 = .ok (.invokevirtual 304, 3) := by decide +kernel
theorem dX10_does_49 : decode cX10_does 49 = .ok (.ireturn, 1) := by decide +kernel
theorem dX10_measure_0 : decode cX10_measure 0 = .ok (.aload_n 0, 1) := by decide +kernel
theorem dX10_measure_1 : decode cX10_measure 1 = .ok (.getfield 12, 3) := by decide +kernel
theorem dX10_measure_4 : decode cX10_measure 4 = .ok (.iload_n 1, 1) := by decide +kernel
theorem dX10_measure_5 : decode cX10_measure 5 = .ok (.invokevirtual 122, 3) := by decide +kernel
theorem dX10_measure_8 : decode cX10_measure 8 = .ok (.ifCond .eq 17, 3) := by decide +kernel
theorem dX10_measure_11 : decode cX10_measure 11 = .ok (.iload_n 2, 1) := by decide +kernel
theorem dX10_measure_12 : decode cX10_measure 12 = .ok (.invokestatic 150, 3) := by decide +kernel
theorem dX10_measure_15 : decode cX10_measure 15 = .ok (.ifCond .eq 10, 3) := by decide +kernel
theorem dX10_measure_18 : decode cX10_measure 18 = .ok (.iload_n 3, 1) := by decide +kernel
theorem dX10_measure_19 : decode cX10_measure 19 = .ok (.invokestatic 307, 3) := by decide +kernel
theorem dX10_measure_22 : decode cX10_measure 22 = .ok (.ifCond .ne 10, 3) := by decide +kernel
theorem dX10_measure_25 : decode cX10_measure 25 = .ok (.aload_n 0, 1) := by decide +kernel
theorem dX10_measure_26 : decode cX10_measure 26 = .ok (.bipush (-52), 2) := by decide +kernel
theorem dX10_measure_28 : decode cX10_measure 28 = .ok (.invokevirtual 88, 3) := by decide +kernel
theorem dX10_measure_31 : decode cX10_measure 31 = .ok (.ireturn, 1) := by decide +kernel
theorem dX10_measure_32 : decode cX10_measure 32 = .ok (.aload_n 0, 1) := by decide +kernel
theorem dX10_measure_33 : decode cX10_measure 33 = .ok (.getfield 50, 3) := by decide +kernel
theorem dX10_measure_36 : decode cX10_measure 36 = .ok (.aload_n 0, 1) := by decide +kernel
theorem dX10_measure_37 : decode cX10_measure 37 = .ok (.getfield 12, 3) := by decide +kernel
theorem dX10_measure_40 : decode cX10_measure 40 = .ok (.iload_n 1, 1) := by decide +kernel
theorem dX10_measure_41 : decode cX10_measure 41 = .ok (.invokevirtual 243, 3) := by decide +kernel
theorem dX10_measure_44 : decode cX10_measure 44 = .ok (.astore 4, 2) := by decide +kernel
theorem dX10_measure_46 : decode cX10_measure 46 = .ok (.aload 4, 2) := by decide +kernel
theorem dX10_measure_48 : decode cX10_measure 48 = .ok (.getfield 265, 3) := by decide +kernel
theorem dX10_measure_51 : decode cX10_measure 51 = .ok (.iload_n 2, 1) := by decide +kernel
theorem dX10_measure_52 : decode cX10_measure 52 = .ok (.baload, 1) := by decide +kernel
theorem dX10_measure_53 : decode cX10_measure 53 = .ok (.ifCond .eq 24, 3) := by decide +kernel
theorem dX10_measure_56 : decode cX10_measure 56 = .ok (.aload 4, 2) := by decide +kernel
theorem dX10_measure_58 : decode cX10_measure 58 = .ok (.getfield 279, 3) := by decide +kernel
theorem dX10_measure_61 : decode cX10_measure 61 = .ok (.iload_n 2, 1) := by decide +kernel
theorem dX10_measure_62 : decode cX10_measure 62 = .ok (.iaload, 1) := by decide +kernel
theorem dX10_measure_63 : decode cX10_measure 63 = .ok (.iconst (-1), 1) := by decide +kernel
theorem dX10_measure_64 : decode cX10_measure 64 = .ok (.if_icmp .ne 13, 3) := by decide +kernel
theorem dX10_measure_67 : decode cX10_measure 67 = .ok (.aload 4, 2) := by decide +kernel
theorem dX10_measure_69 : decode cX10_measure 69 = .ok (.getfield 288, 3) := by decide +kernel
theorem dX10_measure_72 : decode cX10_measure 72 = .ok (.iload_n 2, 1) := by decide +kernel
theorem dX10_measure_73 : decode cX10_measure 73 = .ok (.iaload, 1) := by decide +kernel
theorem dX10_measure_74 : decode cX10_measure 74 = .ok (.ifCond .ne 10, 3) := by decide +kernel
theorem dX10_measure_77 : decode cX10_measure 77 = .ok (.aload_n 0, 1) := by decide +kernel
theorem dX10_measure_78 : decode cX10_measure 78 = .ok (.bipush (-55), 2) := by decide +kernel
theorem dX10_measure_80 : decode cX10_measure 80 = .ok (.invokevirtual 88, 3) := by decide +kernel
theorem dX10_measure_83 : decode cX10_measure 83 = .ok (.ireturn, 1) := by decide +kernel
theorem dX10_measure_84 : decode cX10_measure 84 = .ok (.aload 4, 2) := by decide +kernel
theorem dX10_measure_86 : decode cX10_measure 86 = .ok (.aload_n 0, 1) := by decide +kernel
theorem dX10_measure_87 : decode cX10_measure 87 = .ok (.getfield 12, 3) := by decide +kernel
theorem dX10_measure_90 : decode cX10_measure 90 = .ok (.iload_n 2, 1) := by decide +kernel
theorem dX10_measure_91 : decode cX10_measure 91 = .ok (.iload_n 3, 1) := by decide +kernel
theorem dX10_measure_92 : decode cX10_measure 92 = .ok (.invokevirtual 310, 3) := by decide +kernel
theorem dX10_measure_95 : decode cX10_measure 95 = .ok (.ireturn, 1) := by decide +kernel
theorem dX10_best_0 : decode cX10_best 0 = .ok (.aload_n 0, 1) := by decide +kernel
theorem dX10_best_1 : decode cX10_best 1 = .ok (.getfield 12, 3) := by decide +kernel
theorem dX10_best_4 : decode cX10_best 4 = .ok (.iload_n 1, 1) := by decide +kernel
theorem dX10_best_5 : decode cX10_best 5 = .ok (.invokevirtual 122, 3) := by decide +kernel
theorem dX10_best_8 : decode cX10_best 8 = .ok (.ifCond .eq 17, 3) := by decide +kernel
theorem dX10_best_11 : decode cX10_best 11 = .ok (.iload_n 2, 1) := by decide +kernel
theorem dX10_best_12 : decode cX10_best 12 = .ok (.invokestatic 150, 3) := by decide +kernel
theorem dX10_best_15 : decode cX10_best 15 = .ok (.ifCond .eq 10, 3) := by decide +kernel
theorem dX10_best_18 : decode cX10_best 18 = .ok (.iload_n 3, 1) := by decide +kernel
theorem dX10_best_19 : decode cX10_best 19 = .ok (.invokestatic 307, 3) := by decide +kernel
theorem dX10_best_22 : decode cX10_best 22 = .ok (.ifCond .ne 10, 3) := by decide +kernel
theorem dX10_best_25 : decode cX10_best 25 = .ok (.aload_n 0, 1) := by decide +kernel
theorem dX10_best_26 : decode cX10_best 26 = .ok (.bipush (-52), 2) := by decide +kernel
theorem dX10_best_28 : decode cX10_best 28 = .ok (.invokevirtual 88, 3) := by decide +kernel
theorem dX10_best_31 : decode cX10_best 31 = .ok (.ireturn, 1) := by decide +kernel
theorem dX10_best_32 : decode cX10_best 32 = .ok (.aload_n 0, 1) := by decide +kernel
theorem dX10_best_33 : decode cX10_best 33 = .ok (.getfield 43, 3) := by decide +kernel
theorem dX10_best_36 : decode cX10_best 36 = .ok (.aload_n 0, 1) := by decide +kernel
theorem dX10_best_37 : decode cX10_best 37 = .ok (.getfield 12, 3) := by decide +kernel
theorem dX10_best_40 : decode cX10_best 40 = .ok (.iload_n 1, 1) := by decide +kernel
theorem dX10_best_41 : decode cX10_best 41 = .ok (.iload_n 2, 1) := by decide +kernel
theorem dX10_best_42 : decode cX10_best 42 = .ok (.aload_n 0, 1) := by decide +kernel
theorem dX10_best_43 : decode cX10_best 43 = .ok (.getfield 50, 3) := by decide +kernel
theorem dX10_best_46 : decode cX10_best 46 = .ok (.aload_n 0, 1) := by decide +kernel
theorem dX10_best_47 : decode cX10_best 47 = .ok (.getfield 12, 3) := by decide +kernel
theorem dX10_best_50 : decode cX10_best 50 = .ok (.iload_n 1, 1) := by decide +kernel
theorem dX10_best_51 : decode cX10_best 51 = .ok (.invokevirtual 243, 3) := by decide +kernel
theorem dX10_best_54 : decode cX10_best 54 = .ok (.invokevirtual 314, 3) := by decide +kernel
theorem dX10_best_57 : decode cX10_best 57 = .ok (.astore 5, 2) := by decide +kernel
theorem dX10_best_59 : decode cX10_best 59 = .ok (.aload 5, 2) := by decide +kernel
theorem dX10_best_61 : decode cX10_best 61 = .ok (.invokevirtual 318, 3) := by decide +kernel
theorem dX10_best_64 : decode cX10_best 64 = .ok (.ifCond .eq 13, 3) := by decide +kernel
theorem dX10_best_67 : decode cX10_best 67 = .ok (.aload 5, 2) := by decide +kernel
theorem dX10_best_69 : decode cX10_best 69 = .ok (.iload_n 3, 1) := by decide +kernel
theorem dX10_best_70 : decode cX10_best 70 = .ok (.lconst 0, 1) := by decide +kernel
theorem dX10_best_71 : decode cX10_best 71 = .ok (.invokevirtual 322, 3) := by decide +kernel
theorem dX10_best_74 : decode cX10_best 74 = .ok (.ifCond .ne 5, 3) := by decide +kernel
theorem dX10_best_77 : decode cX10_best 77 = .ok (.iconst (-1), 1) := by decide +kernel
theorem dX10_best_78 : decode cX10_best 78 = .ok (.ireturn, 1) := by decide +kernel
theorem dX10_best_79 : decode cX10_best 79 = .ok (.iload 4, 2) := by decide +kernel
theorem dX10_best_81 : decode cX10_best 81 = .ok (.iconst (-1), 1) := by decide +kernel
theorem dX10_best_82 : decode cX10_best 82 = .ok (.if_icmp .ne 9, 3) := by decide +kernel
theorem dX10_best_85 : decode cX10_best 85 = .ok (.aload 5, 2) := by decide +kernel
theorem dX10_best_87 : decode cX10_best 87 = .ok (.invokevirtual 326, 3) := by decide +kernel
theorem dX10_best_90 : decode cX10_best 90 = .ok (.ireturn, 1) := by decide +kernel
theorem dX10_best_91 : decode cX10_best 91 = .ok (.iload 4, 2) := by decide +kernel
theorem dX10_best_93 : decode cX10_best 93 = .ok (.ifCond .lt 13, 3) := by decide +kernel
theorem dX10_best_96 : decode cX10_best 96 = .ok (.iload 4, 2) := by decide +kernel
theorem dX10_best_98 : decode cX10_best 98 = .ok (.aload 5, 2) := by decide +kernel
theorem dX10_best_100 : decode cX10_best 100 = .ok (.invokevirtual 318, 3) := by decide +kernel
theorem dX10_best_103 : decode cX10_best 103 = .ok (.if_icmp .lt 10, 3) := by decide +kernel
theorem dX10_best_106 : decode cX10_best 106 = .ok (.aload_n 0, 1) := by decide +kernel
theorem dX10_best_107 : decode cX10_best 107 = .ok (.bipush (-52), 2) := by decide +kernel
theorem dX10_best_109 : decode cX10_best 109 = .ok (.invokevirtual 88, 3) := by decide +kernel
theorem dX10_best_112 : decode cX10_best 112 = .ok (.ireturn, 1) := by decide +kernel
theorem dX10_best_113 : decode cX10_best 113 = .ok (.aload 5, 2) := by decide +kernel
theorem dX10_best_115 : decode cX10_best 115 = .ok (.iload 4, 2) := by decide +kernel
theorem dX10_best_117 : decode cX10_best 117 = .ok (.invokevirtual 329, 3) := by decide +kernel
theorem dX10_best_120 : decode cX10_best 120 = .ok (.ireturn, 1) := by decide +kernel
theorem dX10_lawful_0 : decode cX10_lawful 0 = .ok (.aload_n 0, 1) := by decide +kernel
theorem dX10_lawful_1 : decode cX10_lawful 1 = .ok (.getfield 12, 3) := by decide +kernel
theorem dX10_lawful_4 : decode cX10_lawful 4 = .ok (.iload_n 1, 1) := by decide +kernel
theorem dX10_lawful_5 : decode cX10_lawful 5 = .ok (.invokevirtual 122, 3) := by decide +kernel
theorem dX10_lawful_8 : decode cX10_lawful 8 = .ok (.ifCond .eq 10, 3) := by decide +kernel
theorem dX10_lawful_11 : decode cX10_lawful 11 = .ok (.iload_n 2, 1) := by decide +kernel
theorem dX10_lawful_12 : decode cX10_lawful 12 = .ok (.invokestatic 150, 3) := by decide +kernel
theorem dX10_lawful_15 : decode cX10_lawful 15 = .ok (.ifCond .ne 10, 3) := by decide +kernel
theorem dX10_lawful_18 : decode cX10_lawful 18 = .ok (.aload_n 0, 1) := by decide +kernel
theorem dX10_lawful_19 : decode cX10_lawful 19 = .ok (.bipush (-52), 2) := by decide +kernel
theorem dX10_lawful_21 : decode cX10_lawful 21 = .ok (.invokevirtual 88, 3) := by decide +kernel
theorem dX10_lawful_24 : decode cX10_lawful 24 = .ok (.ireturn, 1) := by decide +kernel
theorem dX10_lawful_25 : decode cX10_lawful 25 = .ok (.aload_n 0, 1) := by decide +kernel
theorem dX10_lawful_26 : decode cX10_lawful 26 = .ok (.getfield 43, 3) := by decide +kernel
theorem dX10_lawful_29 : decode cX10_lawful 29 = .ok (.aload_n 0, 1) := by decide +kernel
theorem dX10_lawful_30 : decode cX10_lawful 30 = .ok (.getfield 12, 3) := by decide +kernel
theorem dX10_lawful_33 : decode cX10_lawful 33 = .ok (.iload_n 1, 1) := by decide +kernel
theorem dX10_lawful_34 : decode cX10_lawful 34 = .ok (.iload_n 2, 1) := by decide +kernel
theorem dX10_lawful_35 : decode cX10_lawful 35 = .ok (.aload_n 0, 1) := by decide +kernel
theorem dX10_lawful_36 : decode cX10_lawful 36 = .ok (.getfield 50, 3) := by decide +kernel
theorem dX10_lawful_39 : decode cX10_lawful 39 = .ok (.aload_n 0, 1) := by decide +kernel
theorem dX10_lawful_40 : decode cX10_lawful 40 = .ok (.getfield 12, 3) := by decide +kernel
theorem dX10_lawful_43 : decode cX10_lawful 43 = .ok (.iload_n 1, 1) := by decide +kernel
theorem dX10_lawful_44 : decode cX10_lawful 44 = .ok (.invokevirtual 243, 3) := by decide +kernel
theorem dX10_lawful_47 : decode cX10_lawful 47 = .ok (.invokevirtual 314, 3) := by decide +kernel
theorem dX10_lawful_50 : decode cX10_lawful 50 = .ok (.astore_n 3, 1) := by decide +kernel
theorem dX10_lawful_51 : decode cX10_lawful 51 = .ok (.aload_n 3, 1) := by decide +kernel
theorem dX10_lawful_52 : decode cX10_lawful 52 = .ok (.iconst 0, 1) := by decide +kernel
theorem dX10_lawful_53 : decode cX10_lawful 53 = .ok (.lconst 0, 1) := by decide +kernel
theorem dX10_lawful_54 : decode cX10_lawful 54 = .ok (.invokevirtual 322, 3) := by decide +kernel
theorem dX10_lawful_57 : decode cX10_lawful 57 = .ok (.pop, 1) := by decide +kernel
theorem dX10_lawful_58 : decode cX10_lawful 58 = .ok (.aload_n 3, 1) := by decide +kernel
theorem dX10_lawful_59 : decode cX10_lawful 59 = .ok (.invokevirtual 332, 3) := by decide +kernel
theorem dX10_lawful_62 : decode cX10_lawful 62 = .ok (.ireturn, 1) := by decide +kernel
theorem dX10_watch_0 : decode cX10_watch 0 = .ok (.iload_n 1, 1) := by decide +kernel
theorem dX10_watch_1 : decode cX10_watch 1 = .ok (.ifCond .lt 8, 3) := by decide +kernel
theorem dX10_watch_4 : decode cX10_watch 4 = .ok (.iload_n 1, 1) := by decide +kernel
theorem dX10_watch_5 : decode cX10_watch 5 = .ok (.iconst 2, 1) := by decide +kernel
theorem dX10_watch_6 : decode cX10_watch 6 = .ok (.if_icmp .le 10, 3) := by decide +kernel
theorem dX10_watch_9 : decode cX10_watch 9 = .ok (.aload_n 0, 1) := by decide +kernel
theorem dX10_watch_10 : decode cX10_watch 10 = .ok (.bipush (-52), 2) := by decide +kernel
theorem dX10_watch_12 : decode cX10_watch 12 = .ok (.invokevirtual 88, 3) := by decide +kernel
theorem dX10_watch_15 : decode cX10_watch 15 = .ok (.ireturn, 1) := by decide +kernel
theorem dX10_watch_16 : decode cX10_watch 16 = .ok (.aload_n 0, 1) := by decide +kernel
theorem dX10_watch_17 : decode cX10_watch 17 = .ok (.getfield 64, 3) := by decide +kernel
theorem dX10_watch_20 : decode cX10_watch 20 = .ok (.aload_n 0, 1) := by decide +kernel
theorem dX10_watch_21 : decode cX10_watch 21 = .ok (.getfield 12, 3) := by decide +kernel
theorem dX10_watch_24 : decode cX10_watch 24 = .ok (.aload_n 0, 1) := by decide +kernel
theorem dX10_watch_25 : decode cX10_watch 25 = .ok (.getfield 50, 3) := by decide +kernel
theorem dX10_watch_28 : decode cX10_watch 28 = .ok (.invokevirtual 335, 3) := by decide +kernel
theorem dX10_watch_31 : decode cX10_watch 31 = .ok (.iload_n 1, 1) := by decide +kernel
theorem dX10_watch_32 : decode cX10_watch 32 = .ok (.lookupswitch 44 #[(0, 28), (1, 36)], 28) := by decide +kernel
theorem dX10_watch_60 : decode cX10_watch 60 = .ok (.aload_n 0, 1) := by decide +kernel
theorem dX10_watch_61 : decode cX10_watch 61 = .ok (.getfield 64, 3) := by decide +kernel
theorem dX10_watch_64 : decode cX10_watch 64 = .ok (.invokevirtual 339, 3) := by decide +kernel
theorem dX10_watch_67 : decode cX10_watch 67 = .ok (.ireturn, 1) := by decide +kernel
theorem dX10_watch_68 : decode cX10_watch 68 = .ok (.aload_n 0, 1) := by decide +kernel
theorem dX10_watch_69 : decode cX10_watch 69 = .ok (.getfield 64, 3) := by decide +kernel
theorem dX10_watch_72 : decode cX10_watch 72 = .ok (.invokevirtual 340, 3) := by decide +kernel
theorem dX10_watch_75 : decode cX10_watch 75 = .ok (.ireturn, 1) := by decide +kernel
theorem dX10_watch_76 : decode cX10_watch 76 = .ok (.aload_n 0, 1) := by decide +kernel
theorem dX10_watch_77 : decode cX10_watch 77 = .ok (.getfield 64, 3) := by decide +kernel
theorem dX10_watch_80 : decode cX10_watch 80 = .ok (.invokevirtual 343, 3) := by decide +kernel
theorem dX10_watch_83 : decode cX10_watch 83 = .ok (.ireturn, 1) := by decide +kernel
theorem dX10_duty_0 : decode cX10_duty 0 = .ok (.aload_n 0, 1) := by decide +kernel
theorem dX10_duty_1 : decode cX10_duty 1 = .ok (.getfield 64, 3) := by decide +kernel
theorem dX10_duty_4 : decode cX10_duty 4 = .ok (.aload_n 0, 1) := by decide +kernel
theorem dX10_duty_5 : decode cX10_duty 5 = .ok (.getfield 12, 3) := by decide +kernel
theorem dX10_duty_8 : decode cX10_duty 8 = .ok (.aload_n 0, 1) := by decide +kernel
theorem dX10_duty_9 : decode cX10_duty 9 = .ok (.getfield 50, 3) := by decide +kernel
theorem dX10_duty_12 : decode cX10_duty 12 = .ok (.invokevirtual 335, 3) := by decide +kernel
theorem dX10_duty_15 : decode cX10_duty 15 = .ok (.iload_n 1, 1) := by decide +kernel
theorem dX10_duty_16 : decode cX10_duty 16 = .ok (.ifCond .lt 23, 3) := by decide +kernel
theorem dX10_duty_19 : decode cX10_duty 19 = .ok (.iload_n 1, 1) := by decide +kernel
theorem dX10_duty_20 : decode cX10_duty 20 = .ok (.aload_n 0, 1) := by decide +kernel
theorem dX10_duty_21 : decode cX10_duty 21 = .ok (.getfield 64, 3) := by decide +kernel
theorem dX10_duty_24 : decode cX10_duty 24 = .ok (.invokevirtual 339, 3) := by decide +kernel
theorem dX10_duty_27 : decode cX10_duty 27 = .ok (.if_icmp .ge 12, 3) := by decide +kernel
theorem dX10_duty_30 : decode cX10_duty 30 = .ok (.iload_n 2, 1) := by decide +kernel
theorem dX10_duty_31 : decode cX10_duty 31 = .ok (.ifCond .lt 8, 3) := by decide +kernel
theorem dX10_duty_34 : decode cX10_duty 34 = .ok (.iload_n 2, 1) := by decide +kernel
theorem dX10_duty_35 : decode cX10_duty 35 = .ok (.iconst 4, 1) := by decide +kernel
theorem dX10_duty_36 : decode cX10_duty 36 = .ok (.if_icmp .le 10, 3) := by decide +kernel
theorem dX10_duty_39 : decode cX10_duty 39 = .ok (.aload_n 0, 1) := by decide +kernel
theorem dX10_duty_40 : decode cX10_duty 40 = .ok (.bipush (-52), 2) := by decide +kernel
theorem dX10_duty_42 : decode cX10_duty 42 = .ok (.invokevirtual 88, 3) := by decide +kernel
theorem dX10_duty_45 : decode cX10_duty 45 = .ok (.ireturn, 1) := by decide +kernel
theorem dX10_duty_46 : decode cX10_duty 46 = .ok (.aload_n 0, 1) := by decide +kernel
theorem dX10_duty_47 : decode cX10_duty 47 = .ok (.getfield 64, 3) := by decide +kernel
theorem dX10_duty_50 : decode cX10_duty 50 = .ok (.iload_n 1, 1) := by decide +kernel
theorem dX10_duty_51 : decode cX10_duty 51 = .ok (.iload_n 2, 1) := by decide +kernel
theorem dX10_duty_52 : decode cX10_duty 52 = .ok (.invokevirtual 346, 3) := by decide +kernel
theorem dX10_duty_55 : decode cX10_duty 55 = .ok (.ireturn, 1) := by decide +kernel
theorem dX10_pieces_0 : decode cX10_pieces 0 = .ok (.aload_n 0, 1) := by decide +kernel
theorem dX10_pieces_1 : decode cX10_pieces 1 = .ok (.getfield 12, 3) := by decide +kernel
theorem dX10_pieces_4 : decode cX10_pieces 4 = .ok (.iload_n 1, 1) := by decide +kernel
theorem dX10_pieces_5 : decode cX10_pieces 5 = .ok (.invokevirtual 122, 3) := by decide +kernel
theorem dX10_pieces_8 : decode cX10_pieces 8 = .ok (.ifCond .eq 19, 3) := by decide +kernel
theorem dX10_pieces_11 : decode cX10_pieces 11 = .ok (.iload_n 2, 1) := by decide +kernel
theorem dX10_pieces_12 : decode cX10_pieces 12 = .ok (.invokestatic 150, 3) := by decide +kernel
theorem dX10_pieces_15 : decode cX10_pieces 15 = .ok (.ifCond .eq 12, 3) := by decide +kernel
theorem dX10_pieces_18 : decode cX10_pieces 18 = .ok (.iload_n 3, 1) := by decide +kernel
theorem dX10_pieces_19 : decode cX10_pieces 19 = .ok (.ifCond .lt 8, 3) := by decide +kernel
theorem dX10_pieces_22 : decode cX10_pieces 22 = .ok (.iload_n 3, 1) := by decide +kernel
theorem dX10_pieces_23 : decode cX10_pieces 23 = .ok (.iconst 1, 1) := by decide +kernel
theorem dX10_pieces_24 : decode cX10_pieces 24 = .ok (.if_icmp .le 10, 3) := by decide +kernel
theorem dX10_pieces_27 : decode cX10_pieces 27 = .ok (.aload_n 0, 1) := by decide +kernel
theorem dX10_pieces_28 : decode cX10_pieces 28 = .ok (.bipush (-52), 2) := by decide +kernel
theorem dX10_pieces_30 : decode cX10_pieces 30 = .ok (.invokevirtual 88, 3) := by decide +kernel
theorem dX10_pieces_33 : decode cX10_pieces 33 = .ok (.ireturn, 1) := by decide +kernel
theorem dX10_pieces_34 : decode cX10_pieces 34 = .ok (.aload_n 0, 1) := by decide +kernel
theorem dX10_pieces_35 : decode cX10_pieces 35 = .ok (.getfield 71, 3) := by decide +kernel
theorem dX10_pieces_38 : decode cX10_pieces 38 = .ok (.aload_n 0, 1) := by decide +kernel
theorem dX10_pieces_39 : decode cX10_pieces 39 = .ok (.getfield 12, 3) := by decide +kernel
theorem dX10_pieces_42 : decode cX10_pieces 42 = .ok (.aload_n 0, 1) := by decide +kernel
theorem dX10_pieces_43 : decode cX10_pieces 43 = .ok (.getfield 50, 3) := by decide +kernel
theorem dX10_pieces_46 : decode cX10_pieces 46 = .ok (.iload_n 2, 1) := by decide +kernel
theorem dX10_pieces_47 : decode cX10_pieces 47 = .ok (.invokevirtual 349, 3) := by decide +kernel
theorem dX10_pieces_50 : decode cX10_pieces 50 = .ok (.iload_n 3, 1) := by decide +kernel
theorem dX10_pieces_51 : decode cX10_pieces 51 = .ok (.ifCond .ne 14, 3) := by decide +kernel
theorem dX10_pieces_54 : decode cX10_pieces 54 = .ok (.aload_n 0, 1) := by decide +kernel
theorem dX10_pieces_55 : decode cX10_pieces 55 = .ok (.getfield 71, 3) := by decide +kernel
theorem dX10_pieces_58 : decode cX10_pieces 58 = .ok (.iload_n 1, 1) := by decide +kernel
theorem dX10_pieces_59 : decode cX10_pieces 59 = .ok (.invokevirtual 353, 3) := by decide +kernel
theorem dX10_pieces_62 : decode cX10_pieces 62 = .ok (.goto 11, 3) := by decide +kernel
theorem dX10_pieces_65 : decode cX10_pieces 65 = .ok (.aload_n 0, 1) := by decide +kernel
theorem dX10_pieces_66 : decode cX10_pieces 66 = .ok (.getfield 71, 3) := by decide +kernel
theorem dX10_pieces_69 : decode cX10_pieces 69 = .ok (.iload_n 1, 1) := by decide +kernel
theorem dX10_pieces_70 : decode cX10_pieces 70 = .ok (.invokevirtual 356, 3) := by decide +kernel
theorem dX10_pieces_73 : decode cX10_pieces 73 = .ok (.ireturn, 1) := by decide +kernel
theorem dX10_roomOf_0 : decode cX10_roomOf 0 = .ok (.aload_n 0, 1) := by decide +kernel
theorem dX10_roomOf_1 : decode cX10_roomOf 1 = .ok (.getfield 12, 3) := by decide +kernel
theorem dX10_roomOf_4 : decode cX10_roomOf 4 = .ok (.iload_n 1, 1) := by decide +kernel
theorem dX10_roomOf_5 : decode cX10_roomOf 5 = .ok (.invokevirtual 122, 3) := by decide +kernel
theorem dX10_roomOf_8 : decode cX10_roomOf 8 = .ok (.ifCond .eq 10, 3) := by decide +kernel
theorem dX10_roomOf_11 : decode cX10_roomOf 11 = .ok (.iload_n 2, 1) := by decide +kernel
theorem dX10_roomOf_12 : decode cX10_roomOf 12 = .ok (.invokestatic 150, 3) := by decide +kernel
theorem dX10_roomOf_15 : decode cX10_roomOf 15 = .ok (.ifCond .ne 10, 3) := by decide +kernel
theorem dX10_roomOf_18 : decode cX10_roomOf 18 = .ok (.aload_n 0, 1) := by decide +kernel
theorem dX10_roomOf_19 : decode cX10_roomOf 19 = .ok (.bipush (-52), 2) := by decide +kernel
theorem dX10_roomOf_21 : decode cX10_roomOf 21 = .ok (.invokevirtual 88, 3) := by decide +kernel
theorem dX10_roomOf_24 : decode cX10_roomOf 24 = .ok (.ireturn, 1) := by decide +kernel
theorem dX10_roomOf_25 : decode cX10_roomOf 25 = .ok (.aload_n 0, 1) := by decide +kernel
theorem dX10_roomOf_26 : decode cX10_roomOf 26 = .ok (.getfield 71, 3) := by decide +kernel
theorem dX10_roomOf_29 : decode cX10_roomOf 29 = .ok (.aload_n 0, 1) := by decide +kernel
theorem dX10_roomOf_30 : decode cX10_roomOf 30 = .ok (.getfield 12, 3) := by decide +kernel
theorem dX10_roomOf_33 : decode cX10_roomOf 33 = .ok (.aload_n 0, 1) := by decide +kernel
theorem dX10_roomOf_34 : decode cX10_roomOf 34 = .ok (.getfield 50, 3) := by decide +kernel
theorem dX10_roomOf_37 : decode cX10_roomOf 37 = .ok (.iload_n 2, 1) := by decide +kernel
theorem dX10_roomOf_38 : decode cX10_roomOf 38 = .ok (.invokevirtual 349, 3) := by decide +kernel
theorem dX10_roomOf_41 : decode cX10_roomOf 41 = .ok (.iload_n 3, 1) := by decide +kernel
theorem dX10_roomOf_42 : decode cX10_roomOf 42 = .ok (.ifCond .lt 15, 3) := by decide +kernel
theorem dX10_roomOf_45 : decode cX10_roomOf 45 = .ok (.iload_n 3, 1) := by decide +kernel
theorem dX10_roomOf_46 : decode cX10_roomOf 46 = .ok (.aload_n 0, 1) := by decide +kernel
theorem dX10_roomOf_47 : decode cX10_roomOf 47 = .ok (.getfield 71, 3) := by decide +kernel
theorem dX10_roomOf_50 : decode cX10_roomOf 50 = .ok (.iload_n 1, 1) := by decide +kernel
theorem dX10_roomOf_51 : decode cX10_roomOf 51 = .ok (.invokevirtual 353, 3) := by decide +kernel
theorem dX10_roomOf_54 : decode cX10_roomOf 54 = .ok (.if_icmp .lt 10, 3) := by decide +kernel
theorem dX10_roomOf_57 : decode cX10_roomOf 57 = .ok (.aload_n 0, 1) := by decide +kernel
theorem dX10_roomOf_58 : decode cX10_roomOf 58 = .ok (.bipush (-52), 2) := by decide +kernel
theorem dX10_roomOf_60 : decode cX10_roomOf 60 = .ok (.invokevirtual 88, 3) := by decide +kernel
theorem dX10_roomOf_63 : decode cX10_roomOf 63 = .ok (.ireturn, 1) := by decide +kernel
theorem dX10_roomOf_64 : decode cX10_roomOf 64 = .ok (.aload_n 0, 1) := by decide +kernel
theorem dX10_roomOf_65 : decode cX10_roomOf 65 = .ok (.getfield 71, 3) := by decide +kernel
theorem dX10_roomOf_68 : decode cX10_roomOf 68 = .ok (.iload_n 1, 1) := by decide +kernel
theorem dX10_roomOf_69 : decode cX10_roomOf 69 = .ok (.iload_n 3, 1) := by decide +kernel
theorem dX10_roomOf_70 : decode cX10_roomOf 70 = .ok (.invokevirtual 359, 3) := by decide +kernel
theorem dX10_roomOf_73 : decode cX10_roomOf 73 = .ok (.ireturn, 1) := by decide +kernel
theorem dX10_left_0 : decode cX10_left 0 = .ok (.aload_n 0, 1) := by decide +kernel
theorem dX10_left_1 : decode cX10_left 1 = .ok (.getfield 12, 3) := by decide +kernel
theorem dX10_left_4 : decode cX10_left 4 = .ok (.iload_n 1, 1) := by decide +kernel
theorem dX10_left_5 : decode cX10_left 5 = .ok (.invokevirtual 362, 3) := by decide +kernel
theorem dX10_left_8 : decode cX10_left 8 = .ok (.ifCond .eq 17, 3) := by decide +kernel
theorem dX10_left_11 : decode cX10_left 11 = .ok (.iload_n 2, 1) := by decide +kernel
theorem dX10_left_12 : decode cX10_left 12 = .ok (.invokestatic 150, 3) := by decide +kernel
theorem dX10_left_15 : decode cX10_left 15 = .ok (.ifCond .eq 10, 3) := by decide +kernel
theorem dX10_left_18 : decode cX10_left 18 = .ok (.iload_n 3, 1) := by decide +kernel
theorem dX10_left_19 : decode cX10_left 19 = .ok (.invokestatic 153, 3) := by decide +kernel
theorem dX10_left_22 : decode cX10_left 22 = .ok (.ifCond .ne 10, 3) := by decide +kernel
theorem dX10_left_25 : decode cX10_left 25 = .ok (.aload_n 0, 1) := by decide +kernel
theorem dX10_left_26 : decode cX10_left 26 = .ok (.bipush (-52), 2) := by decide +kernel
theorem dX10_left_28 : decode cX10_left 28 = .ok (.invokevirtual 88, 3) := by decide +kernel
theorem dX10_left_31 : decode cX10_left 31 = .ok (.ireturn, 1) := by decide +kernel
theorem dX10_left_32 : decode cX10_left 32 = .ok (.aload_n 0, 1) := by decide +kernel
theorem dX10_left_33 : decode cX10_left 33 = .ok (.getfield 71, 3) := by decide +kernel
theorem dX10_left_36 : decode cX10_left 36 = .ok (.aload_n 0, 1) := by decide +kernel
theorem dX10_left_37 : decode cX10_left 37 = .ok (.getfield 12, 3) := by decide +kernel
theorem dX10_left_40 : decode cX10_left 40 = .ok (.aload_n 0, 1) := by decide +kernel
theorem dX10_left_41 : decode cX10_left 41 = .ok (.getfield 50, 3) := by decide +kernel
theorem dX10_left_44 : decode cX10_left 44 = .ok (.iload_n 2, 1) := by decide +kernel
theorem dX10_left_45 : decode cX10_left 45 = .ok (.invokevirtual 349, 3) := by decide +kernel
theorem dX10_left_48 : decode cX10_left 48 = .ok (.aload_n 0, 1) := by decide +kernel
theorem dX10_left_49 : decode cX10_left 49 = .ok (.getfield 12, 3) := by decide +kernel
theorem dX10_left_52 : decode cX10_left 52 = .ok (.getfield 365, 3) := by decide +kernel
theorem dX10_left_55 : decode cX10_left 55 = .ok (.iload_n 1, 1) := by decide +kernel
theorem dX10_left_56 : decode cX10_left 56 = .ok (.iaload, 1) := by decide +kernel
theorem dX10_left_57 : decode cX10_left 57 = .ok (.aload_n 0, 1) := by decide +kernel
theorem dX10_left_58 : decode cX10_left 58 = .ok (.getfield 71, 3) := by decide +kernel
theorem dX10_left_61 : decode cX10_left 61 = .ok (.iload_n 1, 1) := by decide +kernel
theorem dX10_left_62 : decode cX10_left 62 = .ok (.iload_n 3, 1) := by decide +kernel
theorem dX10_left_63 : decode cX10_left 63 = .ok (.invokevirtual 368, 3) := by decide +kernel
theorem dX10_left_66 : decode cX10_left 66 = .ok (.isub, 1) := by decide +kernel
theorem dX10_left_67 : decode cX10_left 67 = .ok (.ireturn, 1) := by decide +kernel
theorem dX10_whatIf_0 : decode cX10_whatIf 0 = .ok (.aload_n 0, 1) := by decide +kernel
theorem dX10_whatIf_1 : decode cX10_whatIf 1 = .ok (.getfield 12, 3) := by decide +kernel
theorem dX10_whatIf_4 : decode cX10_whatIf 4 = .ok (.iload_n 1, 1) := by decide +kernel
theorem dX10_whatIf_5 : decode cX10_whatIf 5 = .ok (.invokevirtual 122, 3) := by decide +kernel
theorem dX10_whatIf_8 : decode cX10_whatIf 8 = .ok (.ifCond .eq 15, 3) := by decide +kernel
theorem dX10_whatIf_11 : decode cX10_whatIf 11 = .ok (.aload_n 0, 1) := by decide +kernel
theorem dX10_whatIf_12 : decode cX10_whatIf 12 = .ok (.getfield 12, 3) := by decide +kernel
theorem dX10_whatIf_15 : decode cX10_whatIf 15 = .ok (.iload_n 2, 1) := by decide +kernel
theorem dX10_whatIf_16 : decode cX10_whatIf 16 = .ok (.i2l, 1) := by decide +kernel
theorem dX10_whatIf_17 : decode cX10_whatIf 17 = .ok (.invokevirtual 164, 3) := by decide +kernel
theorem dX10_whatIf_20 : decode cX10_whatIf 20 = .ok (.ifCond .ne 10, 3) := by decide +kernel
theorem dX10_whatIf_23 : decode cX10_whatIf 23 = .ok (.aload_n 0, 1) := by decide +kernel
theorem dX10_whatIf_24 : decode cX10_whatIf 24 = .ok (.bipush (-52), 2) := by decide +kernel
theorem dX10_whatIf_26 : decode cX10_whatIf 26 = .ok (.invokevirtual 88, 3) := by decide +kernel
theorem dX10_whatIf_29 : decode cX10_whatIf 29 = .ok (.ireturn, 1) := by decide +kernel
theorem dX10_whatIf_30 : decode cX10_whatIf 30 = .ok (.aload_n 0, 1) := by decide +kernel
theorem dX10_whatIf_31 : decode cX10_whatIf 31 = .ok (.getfield 12, 3) := by decide +kernel
theorem dX10_whatIf_34 : decode cX10_whatIf 34 = .ok (.iload_n 1, 1) := by decide +kernel
theorem dX10_whatIf_35 : decode cX10_whatIf 35 = .ok (.iload_n 2, 1) := by decide +kernel
theorem dX10_whatIf_36 : decode cX10_whatIf 36 = .ok (.invokevirtual 191, 3) := by decide +kernel
theorem dX10_whatIf_39 : decode cX10_whatIf 39 = .ok (.ifCond .ne 10, 3) := by decide +kernel
theorem dX10_whatIf_42 : decode cX10_whatIf 42 = .ok (.aload_n 0, 1) := by decide +kernel
theorem dX10_whatIf_43 : decode cX10_whatIf 43 = .ok (.bipush (-55), 2) := by decide +kernel
theorem dX10_whatIf_45 : decode cX10_whatIf 45 = .ok (.invokevirtual 88, 3) := by decide +kernel
theorem dX10_whatIf_48 : decode cX10_whatIf 48 = .ok (.ireturn, 1) := by decide +kernel
theorem dX10_whatIf_49 : decode cX10_whatIf 49 = .ok (.aload_n 0, 1) := by decide +kernel
theorem dX10_whatIf_50 : decode cX10_whatIf 50 = .ok (.getfield 16, 3) := by decide +kernel
theorem dX10_whatIf_53 : decode cX10_whatIf 53 = .ok (.aload_n 0, 1) := by decide +kernel
theorem dX10_whatIf_54 : decode cX10_whatIf 54 = .ok (.getfield 12, 3) := by decide +kernel
theorem dX10_whatIf_57 : decode cX10_whatIf 57 = .ok (.invokevirtual 226, 3) := by decide +kernel
theorem dX10_whatIf_60 : decode cX10_whatIf 60 = .ok (.aload_n 0, 1) := by decide +kernel
theorem dX10_whatIf_61 : decode cX10_whatIf 61 = .ok (.iload_n 1, 1) := by decide +kernel
theorem dX10_whatIf_62 : decode cX10_whatIf 62 = .ok (.iload_n 2, 1) := by decide +kernel
theorem dX10_whatIf_63 : decode cX10_whatIf 63 = .ok (.invokevirtual 371, 3) := by decide +kernel
theorem dX10_whatIf_66 : decode cX10_whatIf 66 = .ok (.ireturn, 1) := by decide +kernel
theorem dX10_both_0 : decode cX10_both 0 = .ok (.aload_n 0, 1) := by decide +kernel
theorem dX10_both_1 : decode cX10_both 1 = .ok (.getfield 12, 3) := by decide +kernel
theorem dX10_both_4 : decode cX10_both 4 = .ok (.iload_n 1, 1) := by decide +kernel
theorem dX10_both_5 : decode cX10_both 5 = .ok (.invokevirtual 122, 3) := by decide +kernel
theorem dX10_both_8 : decode cX10_both 8 = .ok (.ifCond .eq 27, 3) := by decide +kernel
theorem dX10_both_11 : decode cX10_both 11 = .ok (.aload_n 0, 1) := by decide +kernel
theorem dX10_both_12 : decode cX10_both 12 = .ok (.getfield 12, 3) := by decide +kernel
theorem dX10_both_15 : decode cX10_both 15 = .ok (.iload_n 2, 1) := by decide +kernel
theorem dX10_both_16 : decode cX10_both 16 = .ok (.i2l, 1) := by decide +kernel
theorem dX10_both_17 : decode cX10_both 17 = .ok (.invokevirtual 164, 3) := by decide +kernel
theorem dX10_both_20 : decode cX10_both 20 = .ok (.ifCond .eq 15, 3) := by decide +kernel
theorem dX10_both_23 : decode cX10_both 23 = .ok (.aload_n 0, 1) := by decide +kernel
theorem dX10_both_24 : decode cX10_both 24 = .ok (.getfield 12, 3) := by decide +kernel
theorem dX10_both_27 : decode cX10_both 27 = .ok (.iload_n 3, 1) := by decide +kernel
theorem dX10_both_28 : decode cX10_both 28 = .ok (.i2l, 1) := by decide +kernel
theorem dX10_both_29 : decode cX10_both 29 = .ok (.invokevirtual 164, 3) := by decide +kernel
theorem dX10_both_32 : decode cX10_both 32 = .ok (.ifCond .ne 10, 3) := by decide +kernel
theorem dX10_both_35 : decode cX10_both 35 = .ok (.aload_n 0, 1) := by decide +kernel
theorem dX10_both_36 : decode cX10_both 36 = .ok (.bipush (-52), 2) := by decide +kernel
theorem dX10_both_38 : decode cX10_both 38 = .ok (.invokevirtual 88, 3) := by decide +kernel
theorem dX10_both_41 : decode cX10_both 41 = .ok (.ireturn, 1) := by decide +kernel
theorem dX10_both_42 : decode cX10_both 42 = .ok (.aload_n 0, 1) := by decide +kernel
theorem dX10_both_43 : decode cX10_both 43 = .ok (.getfield 16, 3) := by decide +kernel
theorem dX10_both_46 : decode cX10_both 46 = .ok (.aload_n 0, 1) := by decide +kernel
theorem dX10_both_47 : decode cX10_both 47 = .ok (.getfield 12, 3) := by decide +kernel
theorem dX10_both_50 : decode cX10_both 50 = .ok (.invokevirtual 226, 3) := by decide +kernel
theorem dX10_both_53 : decode cX10_both 53 = .ok (.aload_n 0, 1) := by decide +kernel
theorem dX10_both_54 : decode cX10_both 54 = .ok (.getfield 16, 3) := by decide +kernel
theorem dX10_both_57 : decode cX10_both 57 = .ok (.iload_n 1, 1) := by decide +kernel
theorem dX10_both_58 : decode cX10_both 58 = .ok (.iload_n 2, 1) := by decide +kernel
theorem dX10_both_59 : decode cX10_both 59 = .ok (.invokevirtual 191, 3) := by decide +kernel
theorem dX10_both_62 : decode cX10_both 62 = .ok (.ifCond .ne 10, 3) := by decide +kernel
theorem dX10_both_65 : decode cX10_both 65 = .ok (.aload_n 0, 1) := by decide +kernel
theorem dX10_both_66 : decode cX10_both 66 = .ok (.bipush (-55), 2) := by decide +kernel
theorem dX10_both_68 : decode cX10_both 68 = .ok (.invokevirtual 88, 3) := by decide +kernel
theorem dX10_both_71 : decode cX10_both 71 = .ok (.ireturn, 1) := by decide +kernel
theorem dX10_both_72 : decode cX10_both 72 = .ok (.aload_n 0, 1) := by decide +kernel
theorem dX10_both_73 : decode cX10_both 73 = .ok (.getfield 16, 3) := by decide +kernel
theorem dX10_both_76 : decode cX10_both 76 = .ok (.iload_n 1, 1) := by decide +kernel
theorem dX10_both_77 : decode cX10_both 77 = .ok (.iload_n 2, 1) := by decide +kernel
theorem dX10_both_78 : decode cX10_both 78 = .ok (.invokevirtual 194, 3) := by decide +kernel
theorem dX10_both_81 : decode cX10_both 81 = .ok (.aload_n 0, 1) := by decide +kernel
theorem dX10_both_82 : decode cX10_both 82 = .ok (.getfield 16, 3) := by decide +kernel
theorem dX10_both_85 : decode cX10_both 85 = .ok (.iload_n 1, 1) := by decide +kernel
theorem dX10_both_86 : decode cX10_both 86 = .ok (.iload_n 3, 1) := by decide +kernel
theorem dX10_both_87 : decode cX10_both 87 = .ok (.invokevirtual 191, 3) := by decide +kernel
theorem dX10_both_90 : decode cX10_both 90 = .ok (.ifCond .ne 10, 3) := by decide +kernel
theorem dX10_both_93 : decode cX10_both 93 = .ok (.aload_n 0, 1) := by decide +kernel
theorem dX10_both_94 : decode cX10_both 94 = .ok (.bipush (-55), 2) := by decide +kernel
theorem dX10_both_96 : decode cX10_both 96 = .ok (.invokevirtual 88, 3) := by decide +kernel
theorem dX10_both_99 : decode cX10_both 99 = .ok (.ireturn, 1) := by decide +kernel
theorem dX10_both_100 : decode cX10_both 100 = .ok (.aload_n 0, 1) := by decide +kernel
theorem dX10_both_101 : decode cX10_both 101 = .ok (.getfield 16, 3) := by decide +kernel
theorem dX10_both_104 : decode cX10_both 104 = .ok (.iload_n 1, 1) := by decide +kernel
theorem dX10_both_105 : decode cX10_both 105 = .ok (.iload_n 3, 1) := by decide +kernel
theorem dX10_both_106 : decode cX10_both 106 = .ok (.invokevirtual 194, 3) := by decide +kernel
theorem dX10_both_109 : decode cX10_both 109 = .ok (.aload_n 0, 1) := by decide +kernel
theorem dX10_both_110 : decode cX10_both 110 = .ok (.getfield 43, 3) := by decide +kernel
theorem dX10_both_113 : decode cX10_both 113 = .ok (.aload_n 0, 1) := by decide +kernel
theorem dX10_both_114 : decode cX10_both 114 = .ok (.getfield 16, 3) := by decide +kernel
theorem dX10_both_117 : decode cX10_both 117 = .ok (.iload_n 1, 1) := by decide +kernel
theorem dX10_both_118 : decode cX10_both 118 = .ok (.aload_n 0, 1) := by decide +kernel
theorem dX10_both_119 : decode cX10_both 119 = .ok (.getfield 57, 3) := by decide +kernel
theorem dX10_both_122 : decode cX10_both 122 = .ok (.invokevirtual 374, 3) := by decide +kernel
theorem dX10_both_125 : decode cX10_both 125 = .ok (.aload_n 0, 1) := by decide +kernel
theorem dX10_both_126 : decode cX10_both 126 = .ok (.getfield 57, 3) := by decide +kernel
theorem dX10_both_129 : decode cX10_both 129 = .ok (.invokevirtual 378, 3) := by decide +kernel
theorem dX10_both_132 : decode cX10_both 132 = .ok (.ireturn, 1) := by decide +kernel
theorem dX10_relief_0 : decode cX10_relief 0 = .ok (.aload_n 0, 1) := by decide +kernel
theorem dX10_relief_1 : decode cX10_relief 1 = .ok (.getfield 12, 3) := by decide +kernel
theorem dX10_relief_4 : decode cX10_relief 4 = .ok (.iload_n 1, 1) := by decide +kernel
theorem dX10_relief_5 : decode cX10_relief 5 = .ok (.invokevirtual 122, 3) := by decide +kernel
theorem dX10_relief_8 : decode cX10_relief 8 = .ok (.ifCond .ne 10, 3) := by decide +kernel
theorem dX10_relief_11 : decode cX10_relief 11 = .ok (.aload_n 0, 1) := by decide +kernel
theorem dX10_relief_12 : decode cX10_relief 12 = .ok (.bipush (-52), 2) := by decide +kernel
theorem dX10_relief_14 : decode cX10_relief 14 = .ok (.invokevirtual 88, 3) := by decide +kernel
theorem dX10_relief_17 : decode cX10_relief 17 = .ok (.ireturn, 1) := by decide +kernel
theorem dX10_relief_18 : decode cX10_relief 18 = .ok (.aload_n 0, 1) := by decide +kernel
theorem dX10_relief_19 : decode cX10_relief 19 = .ok (.getfield 16, 3) := by decide +kernel
theorem dX10_relief_22 : decode cX10_relief 22 = .ok (.aload_n 0, 1) := by decide +kernel
theorem dX10_relief_23 : decode cX10_relief 23 = .ok (.getfield 12, 3) := by decide +kernel
theorem dX10_relief_26 : decode cX10_relief 26 = .ok (.invokevirtual 226, 3) := by decide +kernel
theorem dX10_relief_29 : decode cX10_relief 29 = .ok (.iconst (-1), 1) := by decide +kernel
theorem dX10_relief_30 : decode cX10_relief 30 = .ok (.istore_n 2, 1) := by decide +kernel
theorem dX10_relief_31 : decode cX10_relief 31 = .ok (.iconst 0, 1) := by decide +kernel
theorem dX10_relief_32 : decode cX10_relief 32 = .ok (.istore_n 3, 1) := by decide +kernel
theorem dX10_relief_33 : decode cX10_relief 33 = .ok (.iconst 0, 1) := by decide +kernel
theorem dX10_relief_34 : decode cX10_relief 34 = .ok (.istore 4, 2) := by decide +kernel
theorem dX10_relief_36 : decode cX10_relief 36 = .ok (.iload 4, 2) := by decide +kernel
theorem dX10_relief_38 : decode cX10_relief 38 = .ok (.aload_n 0, 1) := by decide +kernel
theorem dX10_relief_39 : decode cX10_relief 39 = .ok (.getfield 16, 3) := by decide +kernel
theorem dX10_relief_42 : decode cX10_relief 42 = .ok (.getfield 156, 3) := by decide +kernel
theorem dX10_relief_45 : decode cX10_relief 45 = .ok (.if_icmp .ge 48, 3) := by decide +kernel
theorem dX10_relief_48 : decode cX10_relief 48 = .ok (.aload_n 0, 1) := by decide +kernel
theorem dX10_relief_49 : decode cX10_relief 49 = .ok (.getfield 16, 3) := by decide +kernel
theorem dX10_relief_52 : decode cX10_relief 52 = .ok (.iload_n 1, 1) := by decide +kernel
theorem dX10_relief_53 : decode cX10_relief 53 = .ok (.iload 4, 2) := by decide +kernel
theorem dX10_relief_55 : decode cX10_relief 55 = .ok (.invokevirtual 191, 3) := by decide +kernel
theorem dX10_relief_58 : decode cX10_relief 58 = .ok (.ifCond .eq 29, 3) := by decide +kernel
theorem dX10_relief_61 : decode cX10_relief 61 = .ok (.aload_n 0, 1) := by decide +kernel
theorem dX10_relief_62 : decode cX10_relief 62 = .ok (.iload_n 1, 1) := by decide +kernel
theorem dX10_relief_63 : decode cX10_relief 63 = .ok (.iload 4, 2) := by decide +kernel
theorem dX10_relief_65 : decode cX10_relief 65 = .ok (.invokevirtual 371, 3) := by decide +kernel
theorem dX10_relief_68 : decode cX10_relief 68 = .ok (.istore 5, 2) := by decide +kernel
theorem dX10_relief_70 : decode cX10_relief 70 = .ok (.iload_n 2, 1) := by decide +kernel
theorem dX10_relief_71 : decode cX10_relief 71 = .ok (.iconst (-1), 1) := by decide +kernel
theorem dX10_relief_72 : decode cX10_relief 72 = .ok (.if_icmp .eq 9, 3) := by decide +kernel
theorem dX10_relief_75 : decode cX10_relief 75 = .ok (.iload 5, 2) := by decide +kernel
theorem dX10_relief_77 : decode cX10_relief 77 = .ok (.iload_n 3, 1) := by decide +kernel
theorem dX10_relief_78 : decode cX10_relief 78 = .ok (.if_icmp .ge 9, 3) := by decide +kernel
theorem dX10_relief_81 : decode cX10_relief 81 = .ok (.iload 4, 2) := by decide +kernel
theorem dX10_relief_83 : decode cX10_relief 83 = .ok (.istore_n 2, 1) := by decide +kernel
theorem dX10_relief_84 : decode cX10_relief 84 = .ok (.iload 5, 2) := by decide +kernel
theorem dX10_relief_86 : decode cX10_relief 86 = .ok (.istore_n 3, 1) := by decide +kernel
theorem dX10_relief_87 : decode cX10_relief 87 = .ok (.iinc 4 1, 3) := by decide +kernel
theorem dX10_relief_90 : decode cX10_relief 90 = .ok (.goto (-54), 3) := by decide +kernel
theorem dX10_relief_93 : decode cX10_relief 93 = .ok (.iload_n 2, 1) := by decide +kernel
theorem dX10_relief_94 : decode cX10_relief 94 = .ok (.ireturn, 1) := by decide +kernel
theorem dX10_hoursFor_0 : decode cX10_hoursFor 0 = .ok (.aload_n 0, 1) := by decide +kernel
theorem dX10_hoursFor_1 : decode cX10_hoursFor 1 = .ok (.getfield 12, 3) := by decide +kernel
theorem dX10_hoursFor_4 : decode cX10_hoursFor 4 = .ok (.iload_n 1, 1) := by decide +kernel
theorem dX10_hoursFor_5 : decode cX10_hoursFor 5 = .ok (.invokevirtual 122, 3) := by decide +kernel
theorem dX10_hoursFor_8 : decode cX10_hoursFor 8 = .ok (.ifCond .ne 10, 3) := by decide +kernel
theorem dX10_hoursFor_11 : decode cX10_hoursFor 11 = .ok (.aload_n 0, 1) := by decide +kernel
theorem dX10_hoursFor_12 : decode cX10_hoursFor 12 = .ok (.bipush (-52), 2) := by decide +kernel
theorem dX10_hoursFor_14 : decode cX10_hoursFor 14 = .ok (.invokevirtual 88, 3) := by decide +kernel
theorem dX10_hoursFor_17 : decode cX10_hoursFor 17 = .ok (.ireturn, 1) := by decide +kernel
theorem dX10_hoursFor_18 : decode cX10_hoursFor 18 = .ok (.aload_n 0, 1) := by decide +kernel
theorem dX10_hoursFor_19 : decode cX10_hoursFor 19 = .ok (.getfield 16, 3) := by decide +kernel
theorem dX10_hoursFor_22 : decode cX10_hoursFor 22 = .ok (.aload_n 0, 1) := by decide +kernel
theorem dX10_hoursFor_23 : decode cX10_hoursFor 23 = .ok (.getfield 12, 3) := by decide +kernel
theorem dX10_hoursFor_26 : decode cX10_hoursFor 26 = .ok (.invokevirtual 226, 3) := by decide +kernel
theorem dX10_hoursFor_29 : decode cX10_hoursFor 29 = .ok (.bipush 8, 2) := by decide +kernel
theorem dX10_hoursFor_31 : decode cX10_hoursFor 31 = .ok (.istore_n 2, 1) := by decide +kernel
theorem dX10_hoursFor_32 : decode cX10_hoursFor 32 = .ok (.iload_n 2, 1) := by decide +kernel
theorem dX10_hoursFor_33 : decode cX10_hoursFor 33 = .ok (.bipush 40, 2) := by decide +kernel
theorem dX10_hoursFor_35 : decode cX10_hoursFor 35 = .ok (.if_icmp .gt 45, 3) := by decide +kernel
theorem dX10_hoursFor_38 : decode cX10_hoursFor 38 = .ok (.aload_n 0, 1) := by decide +kernel
theorem dX10_hoursFor_39 : decode cX10_hoursFor 39 = .ok (.getfield 16, 3) := by decide +kernel
theorem dX10_hoursFor_42 : decode cX10_hoursFor 42 = .ok (.iload_n 2, 1) := by decide +kernel
theorem dX10_hoursFor_43 : decode cX10_hoursFor 43 = .ok (.putfield 209, 3) := by decide +kernel
theorem dX10_hoursFor_46 : decode cX10_hoursFor 46 = .ok (.aload_n 0, 1) := by decide +kernel
theorem dX10_hoursFor_47 : decode cX10_hoursFor 47 = .ok (.getfield 43, 3) := by decide +kernel
theorem dX10_hoursFor_50 : decode cX10_hoursFor 50 = .ok (.aload_n 0, 1) := by decide +kernel
theorem dX10_hoursFor_51 : decode cX10_hoursFor 51 = .ok (.getfield 16, 3) := by decide +kernel
theorem dX10_hoursFor_54 : decode cX10_hoursFor 54 = .ok (.iload_n 1, 1) := by decide +kernel
theorem dX10_hoursFor_55 : decode cX10_hoursFor 55 = .ok (.aload_n 0, 1) := by decide +kernel
theorem dX10_hoursFor_56 : decode cX10_hoursFor 56 = .ok (.getfield 57, 3) := by decide +kernel
theorem dX10_hoursFor_59 : decode cX10_hoursFor 59 = .ok (.invokevirtual 374, 3) := by decide +kernel
theorem dX10_hoursFor_62 : decode cX10_hoursFor 62 = .ok (.aload_n 0, 1) := by decide +kernel
theorem dX10_hoursFor_63 : decode cX10_hoursFor 63 = .ok (.getfield 57, 3) := by decide +kernel
theorem dX10_hoursFor_66 : decode cX10_hoursFor 66 = .ok (.invokevirtual 247, 3) := by decide +kernel
theorem dX10_hoursFor_69 : decode cX10_hoursFor 69 = .ok (.ifCond .ne 5, 3) := by decide +kernel
theorem dX10_hoursFor_72 : decode cX10_hoursFor 72 = .ok (.iload_n 2, 1) := by decide +kernel
theorem dX10_hoursFor_73 : decode cX10_hoursFor 73 = .ok (.ireturn, 1) := by decide +kernel
theorem dX10_hoursFor_74 : decode cX10_hoursFor 74 = .ok (.iinc 2 1, 3) := by decide +kernel
theorem dX10_hoursFor_77 : decode cX10_hoursFor 77 = .ok (.goto (-45), 3) := by decide +kernel
theorem dX10_hoursFor_80 : decode cX10_hoursFor 80 = .ok (.iconst (-1), 1) := by decide +kernel
theorem dX10_hoursFor_81 : decode cX10_hoursFor 81 = .ok (.ireturn, 1) := by decide +kernel
theorem dX10_image_0 : decode cX10_image 0 = .ok (.aload_n 0, 1) := by decide +kernel
theorem dX10_image_1 : decode cX10_image 1 = .ok (.getfield 19, 3) := by decide +kernel
theorem dX10_image_4 : decode cX10_image 4 = .ok (.aload_n 0, 1) := by decide +kernel
theorem dX10_image_5 : decode cX10_image 5 = .ok (.getfield 12, 3) := by decide +kernel
theorem dX10_image_8 : decode cX10_image 8 = .ok (.invokevirtual 226, 3) := by decide +kernel
theorem dX10_image_11 : decode cX10_image 11 = .ok (.aload_n 0, 1) := by decide +kernel
theorem dX10_image_12 : decode cX10_image 12 = .ok (.iconst 1, 1) := by decide +kernel
theorem dX10_image_13 : decode cX10_image 13 = .ok (.putfield 400, 3) := by decide +kernel
theorem dX10_image_16 : decode cX10_image 16 = .ok (.iconst 1, 1) := by decide +kernel
theorem dX10_image_17 : decode cX10_image 17 = .ok (.ireturn, 1) := by decide +kernel
theorem dX10_back_0 : decode cX10_back 0 = .ok (.aload_n 0, 1) := by decide +kernel
theorem dX10_back_1 : decode cX10_back 1 = .ok (.getfield 400, 3) := by decide +kernel
theorem dX10_back_4 : decode cX10_back 4 = .ok (.ifCond .ne 10, 3) := by decide +kernel
theorem dX10_back_7 : decode cX10_back 7 = .ok (.aload_n 0, 1) := by decide +kernel
theorem dX10_back_8 : decode cX10_back 8 = .ok (.bipush (-55), 2) := by decide +kernel
theorem dX10_back_10 : decode cX10_back 10 = .ok (.invokevirtual 88, 3) := by decide +kernel
theorem dX10_back_13 : decode cX10_back 13 = .ok (.ireturn, 1) := by decide +kernel
theorem dX10_back_14 : decode cX10_back 14 = .ok (.aload_n 0, 1) := by decide +kernel
theorem dX10_back_15 : decode cX10_back 15 = .ok (.getfield 12, 3) := by decide +kernel
theorem dX10_back_18 : decode cX10_back 18 = .ok (.aload_n 0, 1) := by decide +kernel
theorem dX10_back_19 : decode cX10_back 19 = .ok (.getfield 19, 3) := by decide +kernel
theorem dX10_back_22 : decode cX10_back 22 = .ok (.invokevirtual 226, 3) := by decide +kernel
theorem dX10_back_25 : decode cX10_back 25 = .ok (.aload_n 0, 1) := by decide +kernel
theorem dX10_back_26 : decode cX10_back 26 = .ok (.getfield 32, 3) := by decide +kernel
theorem dX10_back_29 : decode cX10_back 29 = .ok (.aload_n 0, 1) := by decide +kernel
theorem dX10_back_30 : decode cX10_back 30 = .ok (.getfield 12, 3) := by decide +kernel
theorem dX10_back_33 : decode cX10_back 33 = .ok (.getfield 174, 3) := by decide +kernel
theorem dX10_back_36 : decode cX10_back 36 = .ok (.invokevirtual 404, 3) := by decide +kernel
theorem dX10_back_39 : decode cX10_back 39 = .ok (.aload_n 0, 1) := by decide +kernel
theorem dX10_back_40 : decode cX10_back 40 = .ok (.getfield 50, 3) := by decide +kernel
theorem dX10_back_43 : decode cX10_back 43 = .ok (.invokevirtual 171, 3) := by decide +kernel
theorem dX10_back_46 : decode cX10_back 46 = .ok (.iconst 1, 1) := by decide +kernel
theorem dX10_back_47 : decode cX10_back 47 = .ok (.ireturn, 1) := by decide +kernel
theorem dX10_status_0 : decode cX10_status 0 = .ok (.iload_n 1, 1) := by decide +kernel
theorem dX10_status_1 : decode cX10_status 1 = .ok (.bipush 12, 2) := by decide +kernel
theorem dX10_status_3 : decode cX10_status 3 = .ok (.if_icmp .lt 19, 3) := by decide +kernel
theorem dX10_status_6 : decode cX10_status 6 = .ok (.iload_n 1, 1) := by decide +kernel
theorem dX10_status_7 : decode cX10_status 7 = .ok (.bipush 17, 2) := by decide +kernel
theorem dX10_status_9 : decode cX10_status 9 = .ok (.if_icmp .ge 13, 3) := by decide +kernel
theorem dX10_status_12 : decode cX10_status 12 = .ok (.aload_n 0, 1) := by decide +kernel
theorem dX10_status_13 : decode cX10_status 13 = .ok (.getfield 36, 3) := by decide +kernel
theorem dX10_status_16 : decode cX10_status 16 = .ok (.iload_n 1, 1) := by decide +kernel
theorem dX10_status_17 : decode cX10_status 17 = .ok (.bipush 12, 2) := by decide +kernel
theorem dX10_status_19 : decode cX10_status 19 = .ok (.isub, 1) := by decide +kernel
theorem dX10_status_20 : decode cX10_status 20 = .ok (.iaload, 1) := by decide +kernel
theorem dX10_status_21 : decode cX10_status 21 = .ok (.ireturn, 1) := by decide +kernel
theorem dX10_status_22 : decode cX10_status 22 = .ok (.iload_n 1, 1) := by decide +kernel
theorem dX10_status_23 : decode cX10_status 23 = .ok (.tableswitch 130 0 9 #[53, 61, 69, 77, 85, 93, 101, 106, 114, 122], 53) := by decide +kernel
theorem dX10_status_76 : decode cX10_status 76 = .ok (.aload_n 0, 1) := by decide +kernel
theorem dX10_status_77 : decode cX10_status 77 = .ok (.getfield 12, 3) := by decide +kernel
theorem dX10_status_80 : decode cX10_status 80 = .ok (.getfield 156, 3) := by decide +kernel
theorem dX10_status_83 : decode cX10_status 83 = .ok (.ireturn, 1) := by decide +kernel
theorem dX10_status_84 : decode cX10_status 84 = .ok (.aload_n 0, 1) := by decide +kernel
theorem dX10_status_85 : decode cX10_status 85 = .ok (.getfield 12, 3) := by decide +kernel
theorem dX10_status_88 : decode cX10_status 88 = .ok (.getfield 174, 3) := by decide +kernel
theorem dX10_status_91 : decode cX10_status 91 = .ok (.ireturn, 1) := by decide +kernel
theorem dX10_status_92 : decode cX10_status 92 = .ok (.aload_n 0, 1) := by decide +kernel
theorem dX10_status_93 : decode cX10_status 93 = .ok (.getfield 12, 3) := by decide +kernel
theorem dX10_status_96 : decode cX10_status 96 = .ok (.getfield 200, 3) := by decide +kernel
theorem dX10_status_99 : decode cX10_status 99 = .ok (.ireturn, 1) := by decide +kernel
theorem dX10_status_100 : decode cX10_status 100 = .ok (.aload_n 0, 1) := by decide +kernel
theorem dX10_status_101 : decode cX10_status 101 = .ok (.getfield 12, 3) := by decide +kernel
theorem dX10_status_104 : decode cX10_status 104 = .ok (.getfield 209, 3) := by decide +kernel
theorem dX10_status_107 : decode cX10_status 107 = .ok (.ireturn, 1) := by decide +kernel
theorem dX10_status_108 : decode cX10_status 108 = .ok (.aload_n 0, 1) := by decide +kernel
theorem dX10_status_109 : decode cX10_status 109 = .ok (.getfield 12, 3) := by decide +kernel
theorem dX10_status_112 : decode cX10_status 112 = .ok (.getfield 212, 3) := by decide +kernel
theorem dX10_status_115 : decode cX10_status 115 = .ok (.ireturn, 1) := by decide +kernel
theorem dX10_status_116 : decode cX10_status 116 = .ok (.aload_n 0, 1) := by decide +kernel
theorem dX10_status_117 : decode cX10_status 117 = .ok (.getfield 12, 3) := by decide +kernel
theorem dX10_status_120 : decode cX10_status 120 = .ok (.invokevirtual 407, 3) := by decide +kernel
theorem dX10_status_123 : decode cX10_status 123 = .ok (.ireturn, 1) := by decide +kernel
theorem dX10_status_124 : decode cX10_status 124 = .ok (.aload_n 0, 1) := by decide +kernel
theorem dX10_status_125 : decode cX10_status 125 = .ok (.invokevirtual 410, 3) := by decide +kernel
theorem dX10_status_128 : decode cX10_status 128 = .ok (.ireturn, 1) := by decide +kernel
theorem dX10_status_129 : decode cX10_status 129 = .ok (.aload_n 0, 1) := by decide +kernel
theorem dX10_status_130 : decode cX10_status 130 = .ok (.getfield 25, 3) := by decide +kernel
theorem dX10_status_133 : decode cX10_status 133 = .ok (.invokevirtual 413, 3) := by decide +kernel
theorem dX10_status_136 : decode cX10_status 136 = .ok (.ireturn, 1) := by decide +kernel
theorem dX10_status_137 : decode cX10_status 137 = .ok (.aload_n 0, 1) := by decide +kernel
theorem dX10_status_138 : decode cX10_status 138 = .ok (.getfield 12, 3) := by decide +kernel
theorem dX10_status_141 : decode cX10_status 141 = .ok (.getfield 397, 3) := by decide +kernel
theorem dX10_status_144 : decode cX10_status 144 = .ok (.ireturn, 1) := by decide +kernel
theorem dX10_status_145 : decode cX10_status 145 = .ok (.aload_n 0, 1) := by decide +kernel
theorem dX10_status_146 : decode cX10_status 146 = .ok (.getfield 32, 3) := by decide +kernel
theorem dX10_status_149 : decode cX10_status 149 = .ok (.invokevirtual 416, 3) := by decide +kernel
theorem dX10_status_152 : decode cX10_status 152 = .ok (.ireturn, 1) := by decide +kernel
theorem dX10_status_153 : decode cX10_status 153 = .ok (.iconst (-1), 1) := by decide +kernel
theorem dX10_status_154 : decode cX10_status 154 = .ok (.ireturn, 1) := by decide +kernel
theorem dX10_refuse_0 : decode cX10_refuse 0 = .ok (.bipush (-52), 2) := by decide +kernel
theorem dX10_refuse_2 : decode cX10_refuse 2 = .ok (.iload_n 1, 1) := by decide +kernel
theorem dX10_refuse_3 : decode cX10_refuse 3 = .ok (.isub, 1) := by decide +kernel
theorem dX10_refuse_4 : decode cX10_refuse 4 = .ok (.istore_n 2, 1) := by decide +kernel
theorem dX10_refuse_5 : decode cX10_refuse 5 = .ok (.iload_n 2, 1) := by decide +kernel
theorem dX10_refuse_6 : decode cX10_refuse 6 = .ok (.ifCond .lt 18, 3) := by decide +kernel
theorem dX10_refuse_9 : decode cX10_refuse 9 = .ok (.iload_n 2, 1) := by decide +kernel
theorem dX10_refuse_10 : decode cX10_refuse 10 = .ok (.iconst 5, 1) := by decide +kernel
theorem dX10_refuse_11 : decode cX10_refuse 11 = .ok (.if_icmp .ge 13, 3) := by decide +kernel
theorem dX10_refuse_14 : decode cX10_refuse 14 = .ok (.aload_n 0, 1) := by decide +kernel
theorem dX10_refuse_15 : decode cX10_refuse 15 = .ok (.getfield 36, 3) := by decide +kernel
theorem dX10_refuse_18 : decode cX10_refuse 18 = .ok (.iload_n 2, 1) := by decide +kernel
theorem dX10_refuse_19 : decode cX10_refuse 19 = .ok (.dup2, 1) := by decide +kernel
theorem dX10_refuse_20 : decode cX10_refuse 20 = .ok (.iaload, 1) := by decide +kernel
theorem dX10_refuse_21 : decode cX10_refuse 21 = .ok (.iconst 1, 1) := by decide +kernel
theorem dX10_refuse_22 : decode cX10_refuse 22 = .ok (.iadd, 1) := by decide +kernel
theorem dX10_refuse_23 : decode cX10_refuse 23 = .ok (.iastore, 1) := by decide +kernel
theorem dX10_refuse_24 : decode cX10_refuse 24 = .ok (.iload_n 1, 1) := by decide +kernel
theorem dX10_refuse_25 : decode cX10_refuse 25 = .ok (.ireturn, 1) := by decide +kernel
theorem dX10_isDay_0 : decode cX10_isDay 0 = .ok (.iload_n 0, 1) := by decide +kernel
theorem dX10_isDay_1 : decode cX10_isDay 1 = .ok (.ifCond .lt 12, 3) := by decide +kernel
theorem dX10_isDay_4 : decode cX10_isDay 4 = .ok (.iload_n 0, 1) := by decide +kernel
theorem dX10_isDay_5 : decode cX10_isDay 5 = .ok (.iconst 5, 1) := by decide +kernel
theorem dX10_isDay_6 : decode cX10_isDay 6 = .ok (.if_icmp .ge 7, 3) := by decide +kernel
theorem dX10_isDay_9 : decode cX10_isDay 9 = .ok (.iconst 1, 1) := by decide +kernel
theorem dX10_isDay_10 : decode cX10_isDay 10 = .ok (.goto 4, 3) := by decide +kernel
theorem dX10_isDay_13 : decode cX10_isDay 13 = .ok (.iconst 0, 1) := by decide +kernel
theorem dX10_isDay_14 : decode cX10_isDay 14 = .ok (.ireturn, 1) := by decide +kernel
theorem dX10_isSlot_0 : decode cX10_isSlot 0 = .ok (.iload_n 0, 1) := by decide +kernel
theorem dX10_isSlot_1 : decode cX10_isSlot 1 = .ok (.ifCond .lt 13, 3) := by decide +kernel
theorem dX10_isSlot_4 : decode cX10_isSlot 4 = .ok (.iload_n 0, 1) := by decide +kernel
theorem dX10_isSlot_5 : decode cX10_isSlot 5 = .ok (.bipush 48, 2) := by decide +kernel
theorem dX10_isSlot_7 : decode cX10_isSlot 7 = .ok (.if_icmp .ge 7, 3) := by decide +kernel
theorem dX10_isSlot_10 : decode cX10_isSlot 10 = .ok (.iconst 1, 1) := by decide +kernel
theorem dX10_isSlot_11 : decode cX10_isSlot 11 = .ok (.goto 4, 3) := by decide +kernel
theorem dX10_isSlot_14 : decode cX10_isSlot 14 = .ok (.iconst 0, 1) := by decide +kernel
theorem dX10_isSlot_15 : decode cX10_isSlot 15 = .ok (.ireturn, 1) := by decide +kernel
theorem dX10_isYesOrNo_0 : decode cX10_isYesOrNo 0 = .ok (.iload_n 0, 1) := by decide +kernel
theorem dX10_isYesOrNo_1 : decode cX10_isYesOrNo 1 = .ok (.ifCond .eq 8, 3) := by decide +kernel
theorem dX10_isYesOrNo_4 : decode cX10_isYesOrNo 4 = .ok (.iload_n 0, 1) := by decide +kernel
theorem dX10_isYesOrNo_5 : decode cX10_isYesOrNo 5 = .ok (.iconst 1, 1) := by decide +kernel
theorem dX10_isYesOrNo_6 : decode cX10_isYesOrNo 6 = .ok (.if_icmp .ne 7, 3) := by decide +kernel
theorem dX10_isYesOrNo_9 : decode cX10_isYesOrNo 9 = .ok (.iconst 1, 1) := by decide +kernel
theorem dX10_isYesOrNo_10 : decode cX10_isYesOrNo 10 = .ok (.goto 4, 3) := by decide +kernel
theorem dX10_isYesOrNo_13 : decode cX10_isYesOrNo 13 = .ok (.iconst 0, 1) := by decide +kernel
theorem dX10_isYesOrNo_14 : decode cX10_isYesOrNo 14 = .ok (.ireturn, 1) := by decide +kernel
theorem dX10_isMeasure_0 : decode cX10_isMeasure 0 = .ok (.iload_n 0, 1) := by decide +kernel
theorem dX10_isMeasure_1 : decode cX10_isMeasure 1 = .ok (.ifCond .lt 12, 3) := by decide +kernel
theorem dX10_isMeasure_4 : decode cX10_isMeasure 4 = .ok (.iload_n 0, 1) := by decide +kernel
theorem dX10_isMeasure_5 : decode cX10_isMeasure 5 = .ok (.iconst 5, 1) := by decide +kernel
theorem dX10_isMeasure_6 : decode cX10_isMeasure 6 = .ok (.if_icmp .ge 7, 3) := by decide +kernel
theorem dX10_isMeasure_9 : decode cX10_isMeasure 9 = .ok (.iconst 1, 1) := by decide +kernel
theorem dX10_isMeasure_10 : decode cX10_isMeasure 10 = .ok (.goto 4, 3) := by decide +kernel
theorem dX10_isMeasure_13 : decode cX10_isMeasure 13 = .ok (.iconst 0, 1) := by decide +kernel
theorem dX10_isMeasure_14 : decode cX10_isMeasure 14 = .ok (.ireturn, 1) := by decide +kernel
theorem dX10_span_0 : decode cX10_span 0 = .ok (.lconst 1, 1) := by decide +kernel
theorem dX10_span_1 : decode cX10_span 1 = .ok (.iload_n 1, 1) := by decide +kernel
theorem dX10_span_2 : decode cX10_span 2 = .ok (.lshl, 1) := by decide +kernel
theorem dX10_span_3 : decode cX10_span 3 = .ok (.lconst 1, 1) := by decide +kernel
theorem dX10_span_4 : decode cX10_span 4 = .ok (.lsub, 1) := by decide +kernel
theorem dX10_span_5 : decode cX10_span 5 = .ok (.lconst 1, 1) := by decide +kernel
theorem dX10_span_6 : decode cX10_span 6 = .ok (.iload_n 0, 1) := by decide +kernel
theorem dX10_span_7 : decode cX10_span 7 = .ok (.lshl, 1) := by decide +kernel
theorem dX10_span_8 : decode cX10_span 8 = .ok (.lconst 1, 1) := by decide +kernel
theorem dX10_span_9 : decode cX10_span 9 = .ok (.lsub, 1) := by decide +kernel
theorem dX10_span_10 : decode cX10_span 10 = .ok (.ldc2_w 419, 3) := by decide +kernel
theorem dX10_span_13 : decode cX10_span 13 = .ok (.lxor, 1) := by decide +kernel
theorem dX10_span_14 : decode cX10_span 14 = .ok (.land, 1) := by decide +kernel
theorem dX10_span_15 : decode cX10_span 15 = .ok (.lreturn, 1) := by decide +kernel
theorem dX10_hasBit_0 : decode cX10_hasBit 0 = .ok (.iload_n 0, 1) := by decide +kernel
theorem dX10_hasBit_1 : decode cX10_hasBit 1 = .ok (.iload_n 1, 1) := by decide +kernel
theorem dX10_hasBit_2 : decode cX10_hasBit 2 = .ok (.ishr, 1) := by decide +kernel
theorem dX10_hasBit_3 : decode cX10_hasBit 3 = .ok (.iconst 1, 1) := by decide +kernel
theorem dX10_hasBit_4 : decode cX10_hasBit 4 = .ok (.iand, 1) := by decide +kernel
theorem dX10_hasBit_5 : decode cX10_hasBit 5 = .ok (.ifCond .eq 7, 3) := by decide +kernel
theorem dX10_hasBit_8 : decode cX10_hasBit 8 = .ok (.iconst 1, 1) := by decide +kernel
theorem dX10_hasBit_9 : decode cX10_hasBit 9 = .ok (.goto 4, 3) := by decide +kernel
theorem dX10_hasBit_12 : decode cX10_hasBit 12 = .ok (.iconst 0, 1) := by decide +kernel
theorem dX10_hasBit_13 : decode cX10_hasBit 13 = .ok (.ireturn, 1) := by decide +kernel
theorem dX10_hasSlot_0 : decode cX10_hasSlot 0 = .ok (.lload_n 0, 1) := by decide +kernel
theorem dX10_hasSlot_1 : decode cX10_hasSlot 1 = .ok (.iload_n 2, 1) := by decide +kernel
theorem dX10_hasSlot_2 : decode cX10_hasSlot 2 = .ok (.lshr, 1) := by decide +kernel
theorem dX10_hasSlot_3 : decode cX10_hasSlot 3 = .ok (.lconst 1, 1) := by decide +kernel
theorem dX10_hasSlot_4 : decode cX10_hasSlot 4 = .ok (.land, 1) := by decide +kernel
theorem dX10_hasSlot_5 : decode cX10_hasSlot 5 = .ok (.lconst 0, 1) := by decide +kernel
theorem dX10_hasSlot_6 : decode cX10_hasSlot 6 = .ok (.lcmp, 1) := by decide +kernel
theorem dX10_hasSlot_7 : decode cX10_hasSlot 7 = .ok (.ifCond .eq 7, 3) := by decide +kernel
theorem dX10_hasSlot_10 : decode cX10_hasSlot 10 = .ok (.iconst 1, 1) := by decide +kernel
theorem dX10_hasSlot_11 : decode cX10_hasSlot 11 = .ok (.goto 4, 3) := by decide +kernel
theorem dX10_hasSlot_14 : decode cX10_hasSlot 14 = .ok (.iconst 0, 1) := by decide +kernel
theorem dX10_hasSlot_15 : decode cX10_hasSlot 15 = .ok (.ireturn, 1) := by decide +kernel
theorem dX10_takersOf_0 : decode cX10_takersOf 0 = .ok (.iconst 0, 1) := by decide +kernel
theorem dX10_takersOf_1 : decode cX10_takersOf 1 = .ok (.istore_n 2, 1) := by decide +kernel
theorem dX10_takersOf_2 : decode cX10_takersOf 2 = .ok (.iconst 0, 1) := by decide +kernel
theorem dX10_takersOf_3 : decode cX10_takersOf 3 = .ok (.istore_n 3, 1) := by decide +kernel
theorem dX10_takersOf_4 : decode cX10_takersOf 4 = .ok (.iload_n 3, 1) := by decide +kernel
theorem dX10_takersOf_5 : decode cX10_takersOf 5 = .ok (.aload_n 0, 1) := by decide +kernel
theorem dX10_takersOf_6 : decode cX10_takersOf 6 = .ok (.getfield 12, 3) := by decide +kernel
theorem dX10_takersOf_9 : decode cX10_takersOf 9 = .ok (.getfield 174, 3) := by decide +kernel
theorem dX10_takersOf_12 : decode cX10_takersOf 12 = .ok (.if_icmp .ge 24, 3) := by decide +kernel
theorem dX10_takersOf_15 : decode cX10_takersOf 15 = .ok (.aload_n 0, 1) := by decide +kernel
theorem dX10_takersOf_16 : decode cX10_takersOf 16 = .ok (.getfield 12, 3) := by decide +kernel
theorem dX10_takersOf_19 : decode cX10_takersOf 19 = .ok (.iload_n 3, 1) := by decide +kernel
theorem dX10_takersOf_20 : decode cX10_takersOf 20 = .ok (.iload_n 1, 1) := by decide +kernel
theorem dX10_takersOf_21 : decode cX10_takersOf 21 = .ok (.invokevirtual 188, 3) := by decide +kernel
theorem dX10_takersOf_24 : decode cX10_takersOf 24 = .ok (.ifCond .eq 6, 3) := by decide +kernel
theorem dX10_takersOf_27 : decode cX10_takersOf 27 = .ok (.iinc 2 1, 3) := by decide +kernel
theorem dX10_takersOf_30 : decode cX10_takersOf 30 = .ok (.iinc 3 1, 3) := by decide +kernel
theorem dX10_takersOf_33 : decode cX10_takersOf 33 = .ok (.goto (-29), 3) := by decide +kernel
theorem dX10_takersOf_36 : decode cX10_takersOf 36 = .ok (.iload_n 2, 1) := by decide +kernel
theorem dX10_takersOf_37 : decode cX10_takersOf 37 = .ok (.ireturn, 1) := by decide +kernel
theorem dX10_lateOnesOf_0 : decode cX10_lateOnesOf 0 = .ok (.iconst 0, 1) := by decide +kernel
theorem dX10_lateOnesOf_1 : decode cX10_lateOnesOf 1 = .ok (.istore_n 2, 1) := by decide +kernel
theorem dX10_lateOnesOf_2 : decode cX10_lateOnesOf 2 = .ok (.iconst 0, 1) := by decide +kernel
theorem dX10_lateOnesOf_3 : decode cX10_lateOnesOf 3 = .ok (.istore_n 3, 1) := by decide +kernel
theorem dX10_lateOnesOf_4 : decode cX10_lateOnesOf 4 = .ok (.iload_n 3, 1) := by decide +kernel
theorem dX10_lateOnesOf_5 : decode cX10_lateOnesOf 5 = .ok (.aload_n 0, 1) := by decide +kernel
theorem dX10_lateOnesOf_6 : decode cX10_lateOnesOf 6 = .ok (.getfield 12, 3) := by decide +kernel
theorem dX10_lateOnesOf_9 : decode cX10_lateOnesOf 9 = .ok (.getfield 174, 3) := by decide +kernel
theorem dX10_lateOnesOf_12 : decode cX10_lateOnesOf 12 = .ok (.if_icmp .ge 35, 3) := by decide +kernel
theorem dX10_lateOnesOf_15 : decode cX10_lateOnesOf 15 = .ok (.aload_n 0, 1) := by decide +kernel
theorem dX10_lateOnesOf_16 : decode cX10_lateOnesOf 16 = .ok (.getfield 50, 3) := by decide +kernel
theorem dX10_lateOnesOf_19 : decode cX10_lateOnesOf 19 = .ok (.aload_n 0, 1) := by decide +kernel
theorem dX10_lateOnesOf_20 : decode cX10_lateOnesOf 20 = .ok (.getfield 12, 3) := by decide +kernel
theorem dX10_lateOnesOf_23 : decode cX10_lateOnesOf 23 = .ok (.iload_n 3, 1) := by decide +kernel
theorem dX10_lateOnesOf_24 : decode cX10_lateOnesOf 24 = .ok (.invokevirtual 243, 3) := by decide +kernel
theorem dX10_lateOnesOf_27 : decode cX10_lateOnesOf 27 = .ok (.aload_n 0, 1) := by decide +kernel
theorem dX10_lateOnesOf_28 : decode cX10_lateOnesOf 28 = .ok (.getfield 12, 3) := by decide +kernel
theorem dX10_lateOnesOf_31 : decode cX10_lateOnesOf 31 = .ok (.iload_n 1, 1) := by decide +kernel
theorem dX10_lateOnesOf_32 : decode cX10_lateOnesOf 32 = .ok (.invokevirtual 421, 3) := by decide +kernel
theorem dX10_lateOnesOf_35 : decode cX10_lateOnesOf 35 = .ok (.ifCond .eq 6, 3) := by decide +kernel
theorem dX10_lateOnesOf_38 : decode cX10_lateOnesOf 38 = .ok (.iinc 2 1, 3) := by decide +kernel
theorem dX10_lateOnesOf_41 : decode cX10_lateOnesOf 41 = .ok (.iinc 3 1, 3) := by decide +kernel
theorem dX10_lateOnesOf_44 : decode cX10_lateOnesOf 44 = .ok (.goto (-40), 3) := by decide +kernel
theorem dX10_lateOnesOf_47 : decode cX10_lateOnesOf 47 = .ok (.iload_n 2, 1) := by decide +kernel
theorem dX10_lateOnesOf_48 : decode cX10_lateOnesOf 48 = .ok (.ireturn, 1) := by decide +kernel
theorem dX10_daysSomebodyCant_0 : decode cX10_daysSomebodyCant 0 = .ok (.iconst 0, 1) := by decide +kernel
theorem dX10_daysSomebodyCant_1 : decode cX10_daysSomebodyCant 1 = .ok (.istore_n 1, 1) := by decide +kernel
theorem dX10_daysSomebodyCant_2 : decode cX10_daysSomebodyCant 2 = .ok (.iconst 0, 1) := by decide +kernel
theorem dX10_daysSomebodyCant_3 : decode cX10_daysSomebodyCant 3 = .ok (.istore_n 2, 1) := by decide +kernel
theorem dX10_daysSomebodyCant_4 : decode cX10_daysSomebodyCant 4 = .ok (.iload_n 2, 1) := by decide +kernel
theorem dX10_daysSomebodyCant_5 : decode cX10_daysSomebodyCant 5 = .ok (.iconst 5, 1) := by decide +kernel
theorem dX10_daysSomebodyCant_6 : decode cX10_daysSomebodyCant 6 = .ok (.if_icmp .ge 70, 3) := by decide +kernel
theorem dX10_daysSomebodyCant_9 : decode cX10_daysSomebodyCant 9 = .ok (.iconst 0, 1) := by decide +kernel
theorem dX10_daysSomebodyCant_10 : decode cX10_daysSomebodyCant 10 = .ok (.istore_n 3, 1) := by decide +kernel
theorem dX10_daysSomebodyCant_11 : decode cX10_daysSomebodyCant 11 = .ok (.iconst 0, 1) := by decide +kernel
theorem dX10_daysSomebodyCant_12 : decode cX10_daysSomebodyCant 12 = .ok (.istore 4, 2) := by decide +kernel
theorem dX10_daysSomebodyCant_14 : decode cX10_daysSomebodyCant 14 = .ok (.iload 4, 2) := by decide +kernel
theorem dX10_daysSomebodyCant_16 : decode cX10_daysSomebodyCant 16 = .ok (.aload_n 0, 1) := by decide +kernel
theorem dX10_daysSomebodyCant_17 : decode cX10_daysSomebodyCant 17 = .ok (.getfield 12, 3) := by decide +kernel
theorem dX10_daysSomebodyCant_20 : decode cX10_daysSomebodyCant 20 = .ok (.getfield 174, 3) := by decide +kernel
theorem dX10_daysSomebodyCant_23 : decode cX10_daysSomebodyCant 23 = .ok (.if_icmp .ge 40, 3) := by decide +kernel
theorem dX10_daysSomebodyCant_26 : decode cX10_daysSomebodyCant 26 = .ok (.iload_n 3, 1) := by decide +kernel
theorem dX10_daysSomebodyCant_27 : decode cX10_daysSomebodyCant 27 = .ok (.ifCond .ne 36, 3) := by decide +kernel
theorem dX10_daysSomebodyCant_30 : decode cX10_daysSomebodyCant 30 = .ok (.aload_n 0, 1) := by decide +kernel
theorem dX10_daysSomebodyCant_31 : decode cX10_daysSomebodyCant 31 = .ok (.getfield 50, 3) := by decide +kernel
theorem dX10_daysSomebodyCant_34 : decode cX10_daysSomebodyCant 34 = .ok (.aload_n 0, 1) := by decide +kernel
theorem dX10_daysSomebodyCant_35 : decode cX10_daysSomebodyCant 35 = .ok (.getfield 12, 3) := by decide +kernel
theorem dX10_daysSomebodyCant_38 : decode cX10_daysSomebodyCant 38 = .ok (.iload 4, 2) := by decide +kernel
theorem dX10_daysSomebodyCant_40 : decode cX10_daysSomebodyCant 40 = .ok (.invokevirtual 243, 3) := by decide +kernel
theorem dX10_daysSomebodyCant_43 : decode cX10_daysSomebodyCant 43 = .ok (.getfield 265, 3) := by decide +kernel
theorem dX10_daysSomebodyCant_46 : decode cX10_daysSomebodyCant 46 = .ok (.iload_n 2, 1) := by decide +kernel
theorem dX10_daysSomebodyCant_47 : decode cX10_daysSomebodyCant 47 = .ok (.baload, 1) := by decide +kernel
theorem dX10_daysSomebodyCant_48 : decode cX10_daysSomebodyCant 48 = .ok (.ifCond .ne 7, 3) := by decide +kernel
theorem dX10_daysSomebodyCant_51 : decode cX10_daysSomebodyCant 51 = .ok (.iconst 1, 1) := by decide +kernel
theorem dX10_daysSomebodyCant_52 : decode cX10_daysSomebodyCant 52 = .ok (.goto 4, 3) := by decide +kernel
theorem dX10_daysSomebodyCant_55 : decode cX10_daysSomebodyCant 55 = .ok (.iconst 0, 1) := by decide +kernel
theorem dX10_daysSomebodyCant_56 : decode cX10_daysSomebodyCant 56 = .ok (.istore_n 3, 1) := by decide +kernel
theorem dX10_daysSomebodyCant_57 : decode cX10_daysSomebodyCant 57 = .ok (.iinc 4 1, 3) := by decide +kernel
theorem dX10_daysSomebodyCant_60 : decode cX10_daysSomebodyCant 60 = .ok (.goto (-46), 3) := by decide +kernel
theorem dX10_daysSomebodyCant_63 : decode cX10_daysSomebodyCant 63 = .ok (.iload_n 3, 1) := by decide +kernel
theorem dX10_daysSomebodyCant_64 : decode cX10_daysSomebodyCant 64 = .ok (.ifCond .eq 6, 3) := by decide +kernel
theorem dX10_daysSomebodyCant_67 : decode cX10_daysSomebodyCant 67 = .ok (.iinc 1 1, 3) := by decide +kernel
theorem dX10_daysSomebodyCant_70 : decode cX10_daysSomebodyCant 70 = .ok (.iinc 2 1, 3) := by decide +kernel
theorem dX10_daysSomebodyCant_73 : decode cX10_daysSomebodyCant 73 = .ok (.goto (-69), 3) := by decide +kernel
theorem dX10_daysSomebodyCant_76 : decode cX10_daysSomebodyCant 76 = .ok (.iload_n 1, 1) := by decide +kernel
theorem dX10_daysSomebodyCant_77 : decode cX10_daysSomebodyCant 77 = .ok (.ireturn, 1) := by decide +kernel
theorem dX10_cantsFlipped_0 : decode cX10_cantsFlipped 0 = .ok (.aload_n 0, 1) := by decide +kernel
theorem dX10_cantsFlipped_1 : decode cX10_cantsFlipped 1 = .ok (.getfield 16, 3) := by decide +kernel
theorem dX10_cantsFlipped_4 : decode cX10_cantsFlipped 4 = .ok (.iload_n 1, 1) := by decide +kernel
theorem dX10_cantsFlipped_5 : decode cX10_cantsFlipped 5 = .ok (.iload_n 2, 1) := by decide +kernel
theorem dX10_cantsFlipped_6 : decode cX10_cantsFlipped 6 = .ok (.invokevirtual 194, 3) := by decide +kernel
theorem dX10_cantsFlipped_9 : decode cX10_cantsFlipped 9 = .ok (.aload_n 0, 1) := by decide +kernel
theorem dX10_cantsFlipped_10 : decode cX10_cantsFlipped 10 = .ok (.getfield 57, 3) := by decide +kernel
theorem dX10_cantsFlipped_13 : decode cX10_cantsFlipped 13 = .ok (.aload_n 0, 1) := by decide +kernel
theorem dX10_cantsFlipped_14 : decode cX10_cantsFlipped 14 = .ok (.getfield 50, 3) := by decide +kernel
theorem dX10_cantsFlipped_17 : decode cX10_cantsFlipped 17 = .ok (.aload_n 0, 1) := by decide +kernel
theorem dX10_cantsFlipped_18 : decode cX10_cantsFlipped 18 = .ok (.getfield 12, 3) := by decide +kernel
theorem dX10_cantsFlipped_21 : decode cX10_cantsFlipped 21 = .ok (.iload_n 1, 1) := by decide +kernel
theorem dX10_cantsFlipped_22 : decode cX10_cantsFlipped 22 = .ok (.invokevirtual 243, 3) := by decide +kernel
theorem dX10_cantsFlipped_25 : decode cX10_cantsFlipped 25 = .ok (.invokevirtual 425, 3) := by decide +kernel
theorem dX10_cantsFlipped_28 : decode cX10_cantsFlipped 28 = .ok (.aload_n 0, 1) := by decide +kernel
theorem dX10_cantsFlipped_29 : decode cX10_cantsFlipped 29 = .ok (.getfield 43, 3) := by decide +kernel
theorem dX10_cantsFlipped_32 : decode cX10_cantsFlipped 32 = .ok (.aload_n 0, 1) := by decide +kernel
theorem dX10_cantsFlipped_33 : decode cX10_cantsFlipped 33 = .ok (.getfield 16, 3) := by decide +kernel
theorem dX10_cantsFlipped_36 : decode cX10_cantsFlipped 36 = .ok (.iload_n 1, 1) := by decide +kernel
theorem dX10_cantsFlipped_37 : decode cX10_cantsFlipped 37 = .ok (.aload_n 0, 1) := by decide +kernel
theorem dX10_cantsFlipped_38 : decode cX10_cantsFlipped 38 = .ok (.getfield 16, 3) := by decide +kernel
theorem dX10_cantsFlipped_41 : decode cX10_cantsFlipped 41 = .ok (.getfield 250, 3) := by decide +kernel
theorem dX10_cantsFlipped_44 : decode cX10_cantsFlipped 44 = .ok (.iload_n 2, 1) := by decide +kernel
theorem dX10_cantsFlipped_45 : decode cX10_cantsFlipped 45 = .ok (.iaload, 1) := by decide +kernel
theorem dX10_cantsFlipped_46 : decode cX10_cantsFlipped 46 = .ok (.aload_n 0, 1) := by decide +kernel
theorem dX10_cantsFlipped_47 : decode cX10_cantsFlipped 47 = .ok (.getfield 57, 3) := by decide +kernel
theorem dX10_cantsFlipped_50 : decode cX10_cantsFlipped 50 = .ok (.invokevirtual 428, 3) := by decide +kernel
theorem dX10_cantsFlipped_53 : decode cX10_cantsFlipped 53 = .ok (.aload_n 0, 1) := by decide +kernel
theorem dX10_cantsFlipped_54 : decode cX10_cantsFlipped 54 = .ok (.getfield 16, 3) := by decide +kernel
theorem dX10_cantsFlipped_57 : decode cX10_cantsFlipped 57 = .ok (.iload_n 1, 1) := by decide +kernel
theorem dX10_cantsFlipped_58 : decode cX10_cantsFlipped 58 = .ok (.iload_n 2, 1) := by decide +kernel
theorem dX10_cantsFlipped_59 : decode cX10_cantsFlipped 59 = .ok (.invokevirtual 194, 3) := by decide +kernel
theorem dX10_cantsFlipped_62 : decode cX10_cantsFlipped 62 = .ok (.aload_n 0, 1) := by decide +kernel
theorem dX10_cantsFlipped_63 : decode cX10_cantsFlipped 63 = .ok (.getfield 57, 3) := by decide +kernel
theorem dX10_cantsFlipped_66 : decode cX10_cantsFlipped 66 = .ok (.invokevirtual 247, 3) := by decide +kernel
theorem dX10_cantsFlipped_69 : decode cX10_cantsFlipped 69 = .ok (.ireturn, 1) := by decide +kernel
theorem dJ6_bitCount_0f7a4_0 : decode cJ6_bitCount_0f7a4 0 = .ok (.iload_n 0, 1) := by decide +kernel
theorem dJ6_bitCount_0f7a4_1 : decode cJ6_bitCount_0f7a4 1 = .ok (.iload_n 0, 1) := by decide +kernel
theorem dJ6_bitCount_0f7a4_2 : decode cJ6_bitCount_0f7a4 2 = .ok (.iconst 1, 1) := by decide +kernel
theorem dJ6_bitCount_0f7a4_3 : decode cJ6_bitCount_0f7a4 3 = .ok (.iushr, 1) := by decide +kernel
theorem dJ6_bitCount_0f7a4_4 : decode cJ6_bitCount_0f7a4 4 = .ok (.ldc_w 265, 3) := by decide +kernel
theorem dJ6_bitCount_0f7a4_7 : decode cJ6_bitCount_0f7a4 7 = .ok (.iand, 1) := by decide +kernel
theorem dJ6_bitCount_0f7a4_8 : decode cJ6_bitCount_0f7a4 8 = .ok (.isub, 1) := by decide +kernel
theorem dJ6_bitCount_0f7a4_9 : decode cJ6_bitCount_0f7a4 9 = .ok (.istore_n 0, 1) := by decide +kernel
theorem dJ6_bitCount_0f7a4_10 : decode cJ6_bitCount_0f7a4 10 = .ok (.iload_n 0, 1) := by decide +kernel
theorem dJ6_bitCount_0f7a4_11 : decode cJ6_bitCount_0f7a4 11 = .ok (.ldc_w 266, 3) := by decide +kernel
theorem dJ6_bitCount_0f7a4_14 : decode cJ6_bitCount_0f7a4 14 = .ok (.iand, 1) := by decide +kernel
theorem dJ6_bitCount_0f7a4_15 : decode cJ6_bitCount_0f7a4 15 = .ok (.iload_n 0, 1) := by decide +kernel
theorem dJ6_bitCount_0f7a4_16 : decode cJ6_bitCount_0f7a4 16 = .ok (.iconst 2, 1) := by decide +kernel
theorem dJ6_bitCount_0f7a4_17 : decode cJ6_bitCount_0f7a4 17 = .ok (.iushr, 1) := by decide +kernel
theorem dJ6_bitCount_0f7a4_18 : decode cJ6_bitCount_0f7a4 18 = .ok (.ldc_w 266, 3) := by decide +kernel
theorem dJ6_bitCount_0f7a4_21 : decode cJ6_bitCount_0f7a4 21 = .ok (.iand, 1) := by decide +kernel
theorem dJ6_bitCount_0f7a4_22 : decode cJ6_bitCount_0f7a4 22 = .ok (.iadd, 1) := by decide +kernel
theorem dJ6_bitCount_0f7a4_23 : decode cJ6_bitCount_0f7a4 23 = .ok (.istore_n 0, 1) := by decide +kernel
theorem dJ6_bitCount_0f7a4_24 : decode cJ6_bitCount_0f7a4 24 = .ok (.iload_n 0, 1) := by decide +kernel
theorem dJ6_bitCount_0f7a4_25 : decode cJ6_bitCount_0f7a4 25 = .ok (.iload_n 0, 1) := by decide +kernel
theorem dJ6_bitCount_0f7a4_26 : decode cJ6_bitCount_0f7a4 26 = .ok (.iconst 4, 1) := by decide +kernel
theorem dJ6_bitCount_0f7a4_27 : decode cJ6_bitCount_0f7a4 27 = .ok (.iushr, 1) := by decide +kernel
theorem dJ6_bitCount_0f7a4_28 : decode cJ6_bitCount_0f7a4 28 = .ok (.iadd, 1) := by decide +kernel
theorem dJ6_bitCount_0f7a4_29 : decode cJ6_bitCount_0f7a4 29 = .ok (.ldc_w 267, 3) := by decide +kernel
theorem dJ6_bitCount_0f7a4_32 : decode cJ6_bitCount_0f7a4 32 = .ok (.iand, 1) := by decide +kernel
theorem dJ6_bitCount_0f7a4_33 : decode cJ6_bitCount_0f7a4 33 = .ok (.istore_n 0, 1) := by decide +kernel
theorem dJ6_bitCount_0f7a4_34 : decode cJ6_bitCount_0f7a4 34 = .ok (.iload_n 0, 1) := by decide +kernel
theorem dJ6_bitCount_0f7a4_35 : decode cJ6_bitCount_0f7a4 35 = .ok (.iload_n 0, 1) := by decide +kernel
theorem dJ6_bitCount_0f7a4_36 : decode cJ6_bitCount_0f7a4 36 = .ok (.bipush 8, 2) := by decide +kernel
theorem dJ6_bitCount_0f7a4_38 : decode cJ6_bitCount_0f7a4 38 = .ok (.iushr, 1) := by decide +kernel
theorem dJ6_bitCount_0f7a4_39 : decode cJ6_bitCount_0f7a4 39 = .ok (.iadd, 1) := by decide +kernel
theorem dJ6_bitCount_0f7a4_40 : decode cJ6_bitCount_0f7a4 40 = .ok (.istore_n 0, 1) := by decide +kernel
theorem dJ6_bitCount_0f7a4_41 : decode cJ6_bitCount_0f7a4 41 = .ok (.iload_n 0, 1) := by decide +kernel
theorem dJ6_bitCount_0f7a4_42 : decode cJ6_bitCount_0f7a4 42 = .ok (.iload_n 0, 1) := by decide +kernel
theorem dJ6_bitCount_0f7a4_43 : decode cJ6_bitCount_0f7a4 43 = .ok (.bipush 16, 2) := by decide +kernel
theorem dJ6_bitCount_0f7a4_45 : decode cJ6_bitCount_0f7a4 45 = .ok (.iushr, 1) := by decide +kernel
theorem dJ6_bitCount_0f7a4_46 : decode cJ6_bitCount_0f7a4 46 = .ok (.iadd, 1) := by decide +kernel
theorem dJ6_bitCount_0f7a4_47 : decode cJ6_bitCount_0f7a4 47 = .ok (.istore_n 0, 1) := by decide +kernel
theorem dJ6_bitCount_0f7a4_48 : decode cJ6_bitCount_0f7a4 48 = .ok (.iload_n 0, 1) := by decide +kernel
theorem dJ6_bitCount_0f7a4_49 : decode cJ6_bitCount_0f7a4 49 = .ok (.bipush 63, 2) := by decide +kernel
theorem dJ6_bitCount_0f7a4_51 : decode cJ6_bitCount_0f7a4 51 = .ok (.iand, 1) := by decide +kernel
theorem dJ6_bitCount_0f7a4_52 : decode cJ6_bitCount_0f7a4 52 = .ok (.ireturn, 1) := by decide +kernel
theorem dJ13_bitCount_95d88_0 : decode cJ13_bitCount_95d88 0 = .ok (.lload_n 0, 1) := by decide +kernel
theorem dJ13_bitCount_95d88_1 : decode cJ13_bitCount_95d88 1 = .ok (.lload_n 0, 1) := by decide +kernel
theorem dJ13_bitCount_95d88_2 : decode cJ13_bitCount_95d88 2 = .ok (.iconst 1, 1) := by decide +kernel
theorem dJ13_bitCount_95d88_3 : decode cJ13_bitCount_95d88 3 = .ok (.lushr, 1) := by decide +kernel
theorem dJ13_bitCount_95d88_4 : decode cJ13_bitCount_95d88 4 = .ok (.ldc2_w 314, 3) := by decide +kernel
theorem dJ13_bitCount_95d88_7 : decode cJ13_bitCount_95d88 7 = .ok (.land, 1) := by decide +kernel
theorem dJ13_bitCount_95d88_8 : decode cJ13_bitCount_95d88 8 = .ok (.lsub, 1) := by decide +kernel
theorem dJ13_bitCount_95d88_9 : decode cJ13_bitCount_95d88 9 = .ok (.lstore_n 0, 1) := by decide +kernel
theorem dJ13_bitCount_95d88_10 : decode cJ13_bitCount_95d88 10 = .ok (.lload_n 0, 1) := by decide +kernel
theorem dJ13_bitCount_95d88_11 : decode cJ13_bitCount_95d88 11 = .ok (.ldc2_w 316, 3) := by decide +kernel
theorem dJ13_bitCount_95d88_14 : decode cJ13_bitCount_95d88 14 = .ok (.land, 1) := by decide +kernel
theorem dJ13_bitCount_95d88_15 : decode cJ13_bitCount_95d88 15 = .ok (.lload_n 0, 1) := by decide +kernel
theorem dJ13_bitCount_95d88_16 : decode cJ13_bitCount_95d88 16 = .ok (.iconst 2, 1) := by decide +kernel
theorem dJ13_bitCount_95d88_17 : decode cJ13_bitCount_95d88 17 = .ok (.lushr, 1) := by decide +kernel
theorem dJ13_bitCount_95d88_18 : decode cJ13_bitCount_95d88 18 = .ok (.ldc2_w 316, 3) := by decide +kernel
theorem dJ13_bitCount_95d88_21 : decode cJ13_bitCount_95d88 21 = .ok (.land, 1) := by decide +kernel
theorem dJ13_bitCount_95d88_22 : decode cJ13_bitCount_95d88 22 = .ok (.ladd, 1) := by decide +kernel
theorem dJ13_bitCount_95d88_23 : decode cJ13_bitCount_95d88 23 = .ok (.lstore_n 0, 1) := by decide +kernel
theorem dJ13_bitCount_95d88_24 : decode cJ13_bitCount_95d88 24 = .ok (.lload_n 0, 1) := by decide +kernel
theorem dJ13_bitCount_95d88_25 : decode cJ13_bitCount_95d88 25 = .ok (.lload_n 0, 1) := by decide +kernel
theorem dJ13_bitCount_95d88_26 : decode cJ13_bitCount_95d88 26 = .ok (.iconst 4, 1) := by decide +kernel
theorem dJ13_bitCount_95d88_27 : decode cJ13_bitCount_95d88 27 = .ok (.lushr, 1) := by decide +kernel
theorem dJ13_bitCount_95d88_28 : decode cJ13_bitCount_95d88 28 = .ok (.ladd, 1) := by decide +kernel
theorem dJ13_bitCount_95d88_29 : decode cJ13_bitCount_95d88 29 = .ok (.ldc2_w 318, 3) := by decide +kernel
theorem dJ13_bitCount_95d88_32 : decode cJ13_bitCount_95d88 32 = .ok (.land, 1) := by decide +kernel
theorem dJ13_bitCount_95d88_33 : decode cJ13_bitCount_95d88 33 = .ok (.lstore_n 0, 1) := by decide +kernel
theorem dJ13_bitCount_95d88_34 : decode cJ13_bitCount_95d88 34 = .ok (.lload_n 0, 1) := by decide +kernel
theorem dJ13_bitCount_95d88_35 : decode cJ13_bitCount_95d88 35 = .ok (.lload_n 0, 1) := by decide +kernel
theorem dJ13_bitCount_95d88_36 : decode cJ13_bitCount_95d88 36 = .ok (.bipush 8, 2) := by decide +kernel
theorem dJ13_bitCount_95d88_38 : decode cJ13_bitCount_95d88 38 = .ok (.lushr, 1) := by decide +kernel
theorem dJ13_bitCount_95d88_39 : decode cJ13_bitCount_95d88 39 = .ok (.ladd, 1) := by decide +kernel
theorem dJ13_bitCount_95d88_40 : decode cJ13_bitCount_95d88 40 = .ok (.lstore_n 0, 1) := by decide +kernel
theorem dJ13_bitCount_95d88_41 : decode cJ13_bitCount_95d88 41 = .ok (.lload_n 0, 1) := by decide +kernel
theorem dJ13_bitCount_95d88_42 : decode cJ13_bitCount_95d88 42 = .ok (.lload_n 0, 1) := by decide +kernel
theorem dJ13_bitCount_95d88_43 : decode cJ13_bitCount_95d88 43 = .ok (.bipush 16, 2) := by decide +kernel
theorem dJ13_bitCount_95d88_45 : decode cJ13_bitCount_95d88 45 = .ok (.lushr, 1) := by decide +kernel
theorem dJ13_bitCount_95d88_46 : decode cJ13_bitCount_95d88 46 = .ok (.ladd, 1) := by decide +kernel
theorem dJ13_bitCount_95d88_47 : decode cJ13_bitCount_95d88 47 = .ok (.lstore_n 0, 1) := by decide +kernel
theorem dJ13_bitCount_95d88_48 : decode cJ13_bitCount_95d88 48 = .ok (.lload_n 0, 1) := by decide +kernel
theorem dJ13_bitCount_95d88_49 : decode cJ13_bitCount_95d88 49 = .ok (.lload_n 0, 1) := by decide +kernel
theorem dJ13_bitCount_95d88_50 : decode cJ13_bitCount_95d88 50 = .ok (.bipush 32, 2) := by decide +kernel
theorem dJ13_bitCount_95d88_52 : decode cJ13_bitCount_95d88 52 = .ok (.lushr, 1) := by decide +kernel
theorem dJ13_bitCount_95d88_53 : decode cJ13_bitCount_95d88 53 = .ok (.ladd, 1) := by decide +kernel
theorem dJ13_bitCount_95d88_54 : decode cJ13_bitCount_95d88 54 = .ok (.lstore_n 0, 1) := by decide +kernel
theorem dJ13_bitCount_95d88_55 : decode cJ13_bitCount_95d88 55 = .ok (.lload_n 0, 1) := by decide +kernel
theorem dJ13_bitCount_95d88_56 : decode cJ13_bitCount_95d88 56 = .ok (.l2i, 1) := by decide +kernel
theorem dJ13_bitCount_95d88_57 : decode cJ13_bitCount_95d88 57 = .ok (.bipush 127, 2) := by decide +kernel
theorem dJ13_bitCount_95d88_59 : decode cJ13_bitCount_95d88 59 = .ok (.iand, 1) := by decide +kernel
theorem dJ13_bitCount_95d88_60 : decode cJ13_bitCount_95d88 60 = .ok (.ireturn, 1) := by decide +kernel
theorem dJ9_max_7cf53_0 : decode cJ9_max_7cf53 0 = .ok (.iload_n 0, 1) := by decide +kernel
theorem dJ9_max_7cf53_1 : decode cJ9_max_7cf53 1 = .ok (.iload_n 1, 1) := by decide +kernel
theorem dJ9_max_7cf53_2 : decode cJ9_max_7cf53 2 = .ok (.if_icmp .lt 7, 3) := by decide +kernel
theorem dJ9_max_7cf53_5 : decode cJ9_max_7cf53 5 = .ok (.iload_n 0, 1) := by decide +kernel
theorem dJ9_max_7cf53_6 : decode cJ9_max_7cf53 6 = .ok (.goto 4, 3) := by decide +kernel
theorem dJ9_max_7cf53_9 : decode cJ9_max_7cf53 9 = .ok (.iload_n 1, 1) := by decide +kernel
theorem dJ9_max_7cf53_10 : decode cJ9_max_7cf53 10 = .ok (.ireturn, 1) := by decide +kernel
theorem dJ9_min_7cf53_0 : decode cJ9_min_7cf53 0 = .ok (.iload_n 0, 1) := by decide +kernel
theorem dJ9_min_7cf53_1 : decode cJ9_min_7cf53 1 = .ok (.iload_n 1, 1) := by decide +kernel
theorem dJ9_min_7cf53_2 : decode cJ9_min_7cf53 2 = .ok (.if_icmp .gt 7, 3) := by decide +kernel
theorem dJ9_min_7cf53_5 : decode cJ9_min_7cf53 5 = .ok (.iload_n 0, 1) := by decide +kernel
theorem dJ9_min_7cf53_6 : decode cJ9_min_7cf53 6 = .ok (.goto 4, 3) := by decide +kernel
theorem dJ9_min_7cf53_9 : decode cJ9_min_7cf53 9 = .ok (.iload_n 1, 1) := by decide +kernel
theorem dJ9_min_7cf53_10 : decode cJ9_min_7cf53 10 = .ok (.ireturn, 1) := by decide +kernel
theorem dL_cell_0 : decode cL_cell 0 = .ok (.ldc 7, 2) := by decide +kernel
theorem dL_cell_2 : decode cL_cell 2 = .ok (.iload_n 1, 1) := by decide +kernel
theorem dL_cell_3 : decode cL_cell 3 = .ok (.aload_n 0, 1) := by decide +kernel
theorem dL_cell_4 : decode cL_cell 4 = .ok (.arraylength, 1) := by decide +kernel
theorem dL_cell_5 : decode cL_cell 5 = .ok (.if_icmp .ge 9, 3) := by decide +kernel
theorem dL_cell_8 : decode cL_cell 8 = .ok (.aload_n 0, 1) := by decide +kernel
theorem dL_cell_9 : decode cL_cell 9 = .ok (.iload_n 1, 1) := by decide +kernel
theorem dL_cell_10 : decode cL_cell 10 = .ok (.iaload, 1) := by decide +kernel
theorem dL_cell_11 : decode cL_cell 11 = .ok (.goto 4, 3) := by decide +kernel
theorem dL_cell_14 : decode cL_cell 14 = .ok (.iconst 0, 1) := by decide +kernel
theorem dL_cell_15 : decode cL_cell 15 = .ok (.sipush 1009, 3) := by decide +kernel
theorem dL_cell_18 : decode cL_cell 18 = .ok (.iload_n 1, 1) := by decide +kernel
theorem dL_cell_19 : decode cL_cell 19 = .ok (.imul, 1) := by decide +kernel
theorem dL_cell_20 : decode cL_cell 20 = .ok (.iadd, 1) := by decide +kernel
theorem dL_cell_21 : decode cL_cell 21 = .ok (.imul, 1) := by decide +kernel
theorem dL_cell_22 : decode cL_cell 22 = .ok (.sipush 12345, 3) := by decide +kernel
theorem dL_cell_25 : decode cL_cell 25 = .ok (.iadd, 1) := by decide +kernel
theorem dL_cell_26 : decode cL_cell 26 = .ok (.istore_n 2, 1) := by decide +kernel
theorem dL_cell_27 : decode cL_cell 27 = .ok (.iload_n 2, 1) := by decide +kernel
theorem dL_cell_28 : decode cL_cell 28 = .ok (.iload_n 2, 1) := by decide +kernel
theorem dL_cell_29 : decode cL_cell 29 = .ok (.bipush 13, 2) := by decide +kernel
theorem dL_cell_31 : decode cL_cell 31 = .ok (.iushr, 1) := by decide +kernel
theorem dL_cell_32 : decode cL_cell 32 = .ok (.ixor, 1) := by decide +kernel
theorem dL_cell_33 : decode cL_cell 33 = .ok (.ldc 8, 2) := by decide +kernel
theorem dL_cell_35 : decode cL_cell 35 = .ok (.imul, 1) := by decide +kernel
theorem dL_cell_36 : decode cL_cell 36 = .ok (.istore_n 2, 1) := by decide +kernel
theorem dL_cell_37 : decode cL_cell 37 = .ok (.iload_n 2, 1) := by decide +kernel
theorem dL_cell_38 : decode cL_cell 38 = .ok (.iload_n 2, 1) := by decide +kernel
theorem dL_cell_39 : decode cL_cell 39 = .ok (.bipush 16, 2) := by decide +kernel
theorem dL_cell_41 : decode cL_cell 41 = .ok (.iushr, 1) := by decide +kernel
theorem dL_cell_42 : decode cL_cell 42 = .ok (.ixor, 1) := by decide +kernel
theorem dL_cell_43 : decode cL_cell 43 = .ok (.ireturn, 1) := by decide +kernel
theorem dL_pick_0 : decode cL_pick 0 = .ok (.aload_n 0, 1) := by decide +kernel
theorem dL_pick_1 : decode cL_pick 1 = .ok (.iload_n 1, 1) := by decide +kernel
theorem dL_pick_2 : decode cL_pick 2 = .ok (.invokestatic 9, 3) := by decide +kernel
theorem dL_pick_5 : decode cL_pick 5 = .ok (.bipush 8, 2) := by decide +kernel
theorem dL_pick_7 : decode cL_pick 7 = .ok (.iushr, 1) := by decide +kernel
theorem dL_pick_8 : decode cL_pick 8 = .ok (.iload_n 2, 1) := by decide +kernel
theorem dL_pick_9 : decode cL_pick 9 = .ok (.irem, 1) := by decide +kernel
theorem dL_pick_10 : decode cL_pick 10 = .ok (.ireturn, 1) := by decide +kernel
theorem dL_papers_0 : decode cL_papers 0 = .ok (.iload_n 2, 1) := by decide +kernel
theorem dL_papers_1 : decode cL_papers 1 = .ok (.anewarray 15, 3) := by decide +kernel
theorem dL_papers_4 : decode cL_papers 4 = .ok (.astore_n 3, 1) := by decide +kernel
theorem dL_papers_5 : decode cL_papers 5 = .ok (.iconst 0, 1) := by decide +kernel
theorem dL_papers_6 : decode cL_papers 6 = .ok (.istore 4, 2) := by decide +kernel
theorem dL_papers_8 : decode cL_papers 8 = .ok (.iload 4, 2) := by decide +kernel
theorem dL_papers_10 : decode cL_papers 10 = .ok (.iload_n 2, 1) := by decide +kernel
theorem dL_papers_11 : decode cL_papers 11 = .ok (.if_icmp .ge 111, 3) := by decide +kernel
theorem dL_papers_14 : decode cL_papers 14 = .ok (.iload_n 1, 1) := by decide +kernel
theorem dL_papers_15 : decode cL_papers 15 = .ok (.iconst 4, 1) := by decide +kernel
theorem dL_papers_16 : decode cL_papers 16 = .ok (.iload 4, 2) := by decide +kernel
theorem dL_papers_18 : decode cL_papers 18 = .ok (.imul, 1) := by decide +kernel
theorem dL_papers_19 : decode cL_papers 19 = .ok (.iadd, 1) := by decide +kernel
theorem dL_papers_20 : decode cL_papers 20 = .ok (.istore 5, 2) := by decide +kernel
theorem dL_papers_22 : decode cL_papers 22 = .ok (.aload_n 3, 1) := by decide +kernel
theorem dL_papers_23 : decode cL_papers 23 = .ok (.iload 4, 2) := by decide +kernel
theorem dL_papers_25 : decode cL_papers 25 = .ok (.iconst 3, 1) := by decide +kernel
theorem dL_papers_26 : decode cL_papers 26 = .ok (.newarray .int, 2) := by decide +kernel
theorem dL_papers_28 : decode cL_papers 28 = .ok (.dup, 1) := by decide +kernel
theorem dL_papers_29 : decode cL_papers 29 = .ok (.iconst 0, 1) := by decide +kernel
theorem dL_papers_30 : decode cL_papers 30 = .ok (.aload_n 0, 1) := by decide +kernel
theorem dL_papers_31 : decode cL_papers 31 = .ok (.iload 5, 2) := by decide +kernel
theorem dL_papers_33 : decode cL_papers 33 = .ok (.iconst 3, 1) := by decide +kernel
theorem dL_papers_34 : decode cL_papers 34 = .ok (.invokestatic 17, 3) := by decide +kernel
theorem dL_papers_37 : decode cL_papers 37 = .ok (.ifCond .ne 15, 3) := by decide +kernel
theorem dL_papers_40 : decode cL_papers 40 = .ok (.aload_n 0, 1) := by decide +kernel
theorem dL_papers_41 : decode cL_papers 41 = .ok (.iload 5, 2) := by decide +kernel
theorem dL_papers_43 : decode cL_papers 43 = .ok (.iconst 1, 1) := by decide +kernel
theorem dL_papers_44 : decode cL_papers 44 = .ok (.iadd, 1) := by decide +kernel
theorem dL_papers_45 : decode cL_papers 45 = .ok (.iconst 5, 1) := by decide +kernel
theorem dL_papers_46 : decode cL_papers 46 = .ok (.invokestatic 17, 3) := by decide +kernel
theorem dL_papers_49 : decode cL_papers 49 = .ok (.goto 12, 3) := by decide +kernel
theorem dL_papers_52 : decode cL_papers 52 = .ok (.aload_n 0, 1) := by decide +kernel
theorem dL_papers_53 : decode cL_papers 53 = .ok (.iload 5, 2) := by decide +kernel
theorem dL_papers_55 : decode cL_papers 55 = .ok (.iconst 1, 1) := by decide +kernel
theorem dL_papers_56 : decode cL_papers 56 = .ok (.iadd, 1) := by decide +kernel
theorem dL_papers_57 : decode cL_papers 57 = .ok (.iconst 2, 1) := by decide +kernel
theorem dL_papers_58 : decode cL_papers 58 = .ok (.invokestatic 17, 3) := by decide +kernel
theorem dL_papers_61 : decode cL_papers 61 = .ok (.iastore, 1) := by decide +kernel
theorem dL_papers_62 : decode cL_papers 62 = .ok (.dup, 1) := by decide +kernel
theorem dL_papers_63 : decode cL_papers 63 = .ok (.iconst 1, 1) := by decide +kernel
theorem dL_papers_64 : decode cL_papers 64 = .ok (.aload_n 0, 1) := by decide +kernel
theorem dL_papers_65 : decode cL_papers 65 = .ok (.iload 5, 2) := by decide +kernel
theorem dL_papers_67 : decode cL_papers 67 = .ok (.iconst 2, 1) := by decide +kernel
theorem dL_papers_68 : decode cL_papers 68 = .ok (.iadd, 1) := by decide +kernel
theorem dL_papers_69 : decode cL_papers 69 = .ok (.iconst 4, 1) := by decide +kernel
theorem dL_papers_70 : decode cL_papers 70 = .ok (.invokestatic 17, 3) := by decide +kernel
theorem dL_papers_73 : decode cL_papers 73 = .ok (.ifCond .ne 16, 3) := by decide +kernel
theorem dL_papers_76 : decode cL_papers 76 = .ok (.aload_n 0, 1) := by decide +kernel
theorem dL_papers_77 : decode cL_papers 77 = .ok (.iload 5, 2) := by decide +kernel
theorem dL_papers_79 : decode cL_papers 79 = .ok (.iconst 3, 1) := by decide +kernel
theorem dL_papers_80 : decode cL_papers 80 = .ok (.iadd, 1) := by decide +kernel
theorem dL_papers_81 : decode cL_papers 81 = .ok (.bipush 48, 2) := by decide +kernel
theorem dL_papers_83 : decode cL_papers 83 = .ok (.invokestatic 17, 3) := by decide +kernel
theorem dL_papers_86 : decode cL_papers 86 = .ok (.goto 13, 3) := by decide +kernel
theorem dL_papers_89 : decode cL_papers 89 = .ok (.aload_n 0, 1) := by decide +kernel
theorem dL_papers_90 : decode cL_papers 90 = .ok (.iload 5, 2) := by decide +kernel
theorem dL_papers_92 : decode cL_papers 92 = .ok (.iconst 3, 1) := by decide +kernel
theorem dL_papers_93 : decode cL_papers 93 = .ok (.iadd, 1) := by decide +kernel
theorem dL_papers_94 : decode cL_papers 94 = .ok (.bipush 30, 2) := by decide +kernel
theorem dL_papers_96 : decode cL_papers 96 = .ok (.invokestatic 17, 3) := by decide +kernel
theorem dL_papers_99 : decode cL_papers 99 = .ok (.iastore, 1) := by decide +kernel
theorem dL_papers_100 : decode cL_papers 100 = .ok (.dup, 1) := by decide +kernel
theorem dL_papers_101 : decode cL_papers 101 = .ok (.iconst 2, 1) := by decide +kernel
theorem dL_papers_102 : decode cL_papers 102 = .ok (.iconst 1, 1) := by decide +kernel
theorem dL_papers_103 : decode cL_papers 103 = .ok (.aload_n 0, 1) := by decide +kernel
theorem dL_papers_104 : decode cL_papers 104 = .ok (.iload 5, 2) := by decide +kernel
theorem dL_papers_106 : decode cL_papers 106 = .ok (.iconst 2, 1) := by decide +kernel
theorem dL_papers_107 : decode cL_papers 107 = .ok (.iadd, 1) := by decide +kernel
theorem dL_papers_108 : decode cL_papers 108 = .ok (.bipush 12, 2) := by decide +kernel
theorem dL_papers_110 : decode cL_papers 110 = .ok (.invokestatic 17, 3) := by decide +kernel
theorem dL_papers_113 : decode cL_papers 113 = .ok (.iadd, 1) := by decide +kernel
theorem dL_papers_114 : decode cL_papers 114 = .ok (.iastore, 1) := by decide +kernel
theorem dL_papers_115 : decode cL_papers 115 = .ok (.aastore, 1) := by decide +kernel
theorem dL_papers_116 : decode cL_papers 116 = .ok (.iinc 4 1, 3) := by decide +kernel
theorem dL_papers_119 : decode cL_papers 119 = .ok (.goto (-111), 3) := by decide +kernel
theorem dL_papers_122 : decode cL_papers 122 = .ok (.aload_n 3, 1) := by decide +kernel
theorem dL_papers_123 : decode cL_papers 123 = .ok (.areturn, 1) := by decide +kernel
theorem dL_cands_0 : decode cL_cands 0 = .ok (.iload_n 2, 1) := by decide +kernel
theorem dL_cands_1 : decode cL_cands 1 = .ok (.anewarray 15, 3) := by decide +kernel
theorem dL_cands_4 : decode cL_cands 4 = .ok (.astore_n 3, 1) := by decide +kernel
theorem dL_cands_5 : decode cL_cands 5 = .ok (.iconst 0, 1) := by decide +kernel
theorem dL_cands_6 : decode cL_cands 6 = .ok (.istore 4, 2) := by decide +kernel
theorem dL_cands_8 : decode cL_cands 8 = .ok (.iload 4, 2) := by decide +kernel
theorem dL_cands_10 : decode cL_cands 10 = .ok (.iload_n 2, 1) := by decide +kernel
theorem dL_cands_11 : decode cL_cands 11 = .ok (.if_icmp .ge 64, 3) := by decide +kernel
theorem dL_cands_14 : decode cL_cands 14 = .ok (.iload_n 1, 1) := by decide +kernel
theorem dL_cands_15 : decode cL_cands 15 = .ok (.iconst 3, 1) := by decide +kernel
theorem dL_cands_16 : decode cL_cands 16 = .ok (.iload 4, 2) := by decide +kernel
theorem dL_cands_18 : decode cL_cands 18 = .ok (.imul, 1) := by decide +kernel
theorem dL_cands_19 : decode cL_cands 19 = .ok (.iadd, 1) := by decide +kernel
theorem dL_cands_20 : decode cL_cands 20 = .ok (.istore 5, 2) := by decide +kernel
theorem dL_cands_22 : decode cL_cands 22 = .ok (.aload_n 3, 1) := by decide +kernel
theorem dL_cands_23 : decode cL_cands 23 = .ok (.iload 4, 2) := by decide +kernel
theorem dL_cands_25 : decode cL_cands 25 = .ok (.iconst 4, 1) := by decide +kernel
theorem dL_cands_26 : decode cL_cands 26 = .ok (.newarray .int, 2) := by decide +kernel
theorem dL_cands_28 : decode cL_cands 28 = .ok (.dup, 1) := by decide +kernel
theorem dL_cands_29 : decode cL_cands 29 = .ok (.iconst 0, 1) := by decide +kernel
theorem dL_cands_30 : decode cL_cands 30 = .ok (.aload_n 0, 1) := by decide +kernel
theorem dL_cands_31 : decode cL_cands 31 = .ok (.iload 5, 2) := by decide +kernel
theorem dL_cands_33 : decode cL_cands 33 = .ok (.bipush 6, 2) := by decide +kernel
theorem dL_cands_35 : decode cL_cands 35 = .ok (.invokestatic 17, 3) := by decide +kernel
theorem dL_cands_38 : decode cL_cands 38 = .ok (.iastore, 1) := by decide +kernel
theorem dL_cands_39 : decode cL_cands 39 = .ok (.dup, 1) := by decide +kernel
theorem dL_cands_40 : decode cL_cands 40 = .ok (.iconst 1, 1) := by decide +kernel
theorem dL_cands_41 : decode cL_cands 41 = .ok (.aload_n 0, 1) := by decide +kernel
theorem dL_cands_42 : decode cL_cands 42 = .ok (.iload 5, 2) := by decide +kernel
theorem dL_cands_44 : decode cL_cands 44 = .ok (.iconst 1, 1) := by decide +kernel
theorem dL_cands_45 : decode cL_cands 45 = .ok (.iadd, 1) := by decide +kernel
theorem dL_cands_46 : decode cL_cands 46 = .ok (.bipush 10, 2) := by decide +kernel
theorem dL_cands_48 : decode cL_cands 48 = .ok (.invokestatic 17, 3) := by decide +kernel
theorem dL_cands_51 : decode cL_cands 51 = .ok (.iastore, 1) := by decide +kernel
theorem dL_cands_52 : decode cL_cands 52 = .ok (.dup, 1) := by decide +kernel
theorem dL_cands_53 : decode cL_cands 53 = .ok (.iconst 2, 1) := by decide +kernel
theorem dL_cands_54 : decode cL_cands 54 = .ok (.aload_n 0, 1) := by decide +kernel
theorem dL_cands_55 : decode cL_cands 55 = .ok (.iload 5, 2) := by decide +kernel
theorem dL_cands_57 : decode cL_cands 57 = .ok (.iconst 2, 1) := by decide +kernel
theorem dL_cands_58 : decode cL_cands 58 = .ok (.iadd, 1) := by decide +kernel
theorem dL_cands_59 : decode cL_cands 59 = .ok (.iconst 2, 1) := by decide +kernel
theorem dL_cands_60 : decode cL_cands 60 = .ok (.invokestatic 17, 3) := by decide +kernel
theorem dL_cands_63 : decode cL_cands 63 = .ok (.iastore, 1) := by decide +kernel
theorem dL_cands_64 : decode cL_cands 64 = .ok (.dup, 1) := by decide +kernel
theorem dL_cands_65 : decode cL_cands 65 = .ok (.iconst 3, 1) := by decide +kernel
theorem dL_cands_66 : decode cL_cands 66 = .ok (.iconst 0, 1) := by decide +kernel
theorem dL_cands_67 : decode cL_cands 67 = .ok (.iastore, 1) := by decide +kernel
theorem dL_cands_68 : decode cL_cands 68 = .ok (.aastore, 1) := by decide +kernel
theorem dL_cands_69 : decode cL_cands 69 = .ok (.iinc 4 1, 3) := by decide +kernel
theorem dL_cands_72 : decode cL_cands 72 = .ok (.goto (-64), 3) := by decide +kernel
theorem dL_cands_75 : decode cL_cands 75 = .ok (.aload_n 3, 1) := by decide +kernel
theorem dL_cands_76 : decode cL_cands 76 = .ok (.areturn, 1) := by decide +kernel
theorem dL_isFifth_0 : decode cL_isFifth 0 = .ok (.iconst 0, 1) := by decide +kernel
theorem dL_isFifth_1 : decode cL_isFifth 1 = .ok (.istore_n 3, 1) := by decide +kernel
theorem dL_isFifth_2 : decode cL_isFifth 2 = .ok (.iconst 0, 1) := by decide +kernel
theorem dL_isFifth_3 : decode cL_isFifth 3 = .ok (.istore 4, 2) := by decide +kernel
theorem dL_isFifth_5 : decode cL_isFifth 5 = .ok (.iload 4, 2) := by decide +kernel
theorem dL_isFifth_7 : decode cL_isFifth 7 = .ok (.aload_n 0, 1) := by decide +kernel
theorem dL_isFifth_8 : decode cL_isFifth 8 = .ok (.arraylength, 1) := by decide +kernel
theorem dL_isFifth_9 : decode cL_isFifth 9 = .ok (.if_icmp .ge 42, 3) := by decide +kernel
theorem dL_isFifth_12 : decode cL_isFifth 12 = .ok (.iload_n 3, 1) := by decide +kernel
theorem dL_isFifth_13 : decode cL_isFifth 13 = .ok (.aload_n 1, 1) := by decide +kernel
theorem dL_isFifth_14 : decode cL_isFifth 14 = .ok (.iconst 3, 1) := by decide +kernel
theorem dL_isFifth_15 : decode cL_isFifth 15 = .ok (.iaload, 1) := by decide +kernel
theorem dL_isFifth_16 : decode cL_isFifth 16 = .ok (.iconst 1, 1) := by decide +kernel
theorem dL_isFifth_17 : decode cL_isFifth 17 = .ok (.iload 4, 2) := by decide +kernel
theorem dL_isFifth_19 : decode cL_isFifth 19 = .ok (.ishl, 1) := by decide +kernel
theorem dL_isFifth_20 : decode cL_isFifth 20 = .ok (.iand, 1) := by decide +kernel
theorem dL_isFifth_21 : decode cL_isFifth 21 = .ok (.ifCond .eq 21, 3) := by decide +kernel
theorem dL_isFifth_24 : decode cL_isFifth 24 = .ok (.aload_n 0, 1) := by decide +kernel
theorem dL_isFifth_25 : decode cL_isFifth 25 = .ok (.iload 4, 2) := by decide +kernel
theorem dL_isFifth_27 : decode cL_isFifth 27 = .ok (.aaload, 1) := by decide +kernel
theorem dL_isFifth_28 : decode cL_isFifth 28 = .ok (.iconst 0, 1) := by decide +kernel
theorem dL_isFifth_29 : decode cL_isFifth 29 = .ok (.iaload, 1) := by decide +kernel
theorem dL_isFifth_30 : decode cL_isFifth 30 = .ok (.aload_n 0, 1) := by decide +kernel
theorem dL_isFifth_31 : decode cL_isFifth 31 = .ok (.iload_n 2, 1) := by decide +kernel
theorem dL_isFifth_32 : decode cL_isFifth 32 = .ok (.aaload, 1) := by decide +kernel
theorem dL_isFifth_33 : decode cL_isFifth 33 = .ok (.iconst 0, 1) := by decide +kernel
theorem dL_isFifth_34 : decode cL_isFifth 34 = .ok (.iaload, 1) := by decide +kernel
theorem dL_isFifth_35 : decode cL_isFifth 35 = .ok (.if_icmp .ne 7, 3) := by decide +kernel
theorem dL_isFifth_38 : decode cL_isFifth 38 = .ok (.iconst 1, 1) := by decide +kernel
theorem dL_isFifth_39 : decode cL_isFifth 39 = .ok (.goto 4, 3) := by decide +kernel
theorem dL_isFifth_42 : decode cL_isFifth 42 = .ok (.iconst 0, 1) := by decide +kernel
theorem dL_isFifth_43 : decode cL_isFifth 43 = .ok (.iadd, 1) := by decide +kernel
theorem dL_isFifth_44 : decode cL_isFifth 44 = .ok (.istore_n 3, 1) := by decide +kernel
theorem dL_isFifth_45 : decode cL_isFifth 45 = .ok (.iinc 4 1, 3) := by decide +kernel
theorem dL_isFifth_48 : decode cL_isFifth 48 = .ok (.goto (-43), 3) := by decide +kernel
theorem dL_isFifth_51 : decode cL_isFifth 51 = .ok (.iload_n 3, 1) := by decide +kernel
theorem dL_isFifth_52 : decode cL_isFifth 52 = .ok (.iconst 4, 1) := by decide +kernel
theorem dL_isFifth_53 : decode cL_isFifth 53 = .ok (.if_icmp .ne 17, 3) := by decide +kernel
theorem dL_isFifth_56 : decode cL_isFifth 56 = .ok (.aload_n 1, 1) := by decide +kernel
theorem dL_isFifth_57 : decode cL_isFifth 57 = .ok (.iconst 3, 1) := by decide +kernel
theorem dL_isFifth_58 : decode cL_isFifth 58 = .ok (.iaload, 1) := by decide +kernel
theorem dL_isFifth_59 : decode cL_isFifth 59 = .ok (.iconst 1, 1) := by decide +kernel
theorem dL_isFifth_60 : decode cL_isFifth 60 = .ok (.iload_n 2, 1) := by decide +kernel
theorem dL_isFifth_61 : decode cL_isFifth 61 = .ok (.ishl, 1) := by decide +kernel
theorem dL_isFifth_62 : decode cL_isFifth 62 = .ok (.iand, 1) := by decide +kernel
theorem dL_isFifth_63 : decode cL_isFifth 63 = .ok (.ifCond .ne 7, 3) := by decide +kernel
theorem dL_isFifth_66 : decode cL_isFifth 66 = .ok (.iconst 1, 1) := by decide +kernel
theorem dL_isFifth_67 : decode cL_isFifth 67 = .ok (.goto 4, 3) := by decide +kernel
theorem dL_isFifth_70 : decode cL_isFifth 70 = .ok (.iconst 0, 1) := by decide +kernel
theorem dL_isFifth_71 : decode cL_isFifth 71 = .ok (.ireturn, 1) := by decide +kernel
theorem dL_tell_0 : decode cL_tell 0 = .ok (.aload_n 0, 1) := by decide +kernel
theorem dL_tell_1 : decode cL_tell 1 = .ok (.aload_n 3, 1) := by decide +kernel
theorem dL_tell_2 : decode cL_tell 2 = .ok (.iconst 0, 1) := by decide +kernel
theorem dL_tell_3 : decode cL_tell 3 = .ok (.iaload, 1) := by decide +kernel
theorem dL_tell_4 : decode cL_tell 4 = .ok (.invokevirtual 21, 3) := by decide +kernel
theorem dL_tell_7 : decode cL_tell 7 = .ok (.bipush 24, 2) := by decide +kernel
theorem dL_tell_9 : decode cL_tell 9 = .ok (.if_icmp .ne 18, 3) := by decide +kernel
theorem dL_tell_12 : decode cL_tell 12 = .ok (.aload_n 0, 1) := by decide +kernel
theorem dL_tell_13 : decode cL_tell 13 = .ok (.aload_n 3, 1) := by decide +kernel
theorem dL_tell_14 : decode cL_tell 14 = .ok (.iconst 1, 1) := by decide +kernel
theorem dL_tell_15 : decode cL_tell 15 = .ok (.iaload, 1) := by decide +kernel
theorem dL_tell_16 : decode cL_tell 16 = .ok (.invokevirtual 27, 3) := by decide +kernel
theorem dL_tell_19 : decode cL_tell 19 = .ok (.iconst 1, 1) := by decide +kernel
theorem dL_tell_20 : decode cL_tell 20 = .ok (.if_icmp .ne 7, 3) := by decide +kernel
theorem dL_tell_23 : decode cL_tell 23 = .ok (.iconst 1, 1) := by decide +kernel
theorem dL_tell_24 : decode cL_tell 24 = .ok (.goto 4, 3) := by decide +kernel
theorem dL_tell_27 : decode cL_tell 27 = .ok (.iconst 0, 1) := by decide +kernel
theorem dL_tell_28 : decode cL_tell 28 = .ok (.istore 6, 2) := by decide +kernel
theorem dL_tell_30 : decode cL_tell 30 = .ok (.iconst 0, 1) := by decide +kernel
theorem dL_tell_31 : decode cL_tell 31 = .ok (.istore 7, 2) := by decide +kernel
theorem dL_tell_33 : decode cL_tell 33 = .ok (.iload 7, 2) := by decide +kernel
theorem dL_tell_35 : decode cL_tell 35 = .ok (.aload 4, 2) := by decide +kernel
theorem dL_tell_37 : decode cL_tell 37 = .ok (.arraylength, 1) := by decide +kernel
theorem dL_tell_38 : decode cL_tell 38 = .ok (.if_icmp .ge 51, 3) := by decide +kernel
theorem dL_tell_41 : decode cL_tell 41 = .ok (.iload 6, 2) := by decide +kernel
theorem dL_tell_43 : decode cL_tell 43 = .ok (.ifCond .eq 37, 3) := by decide +kernel
theorem dL_tell_46 : decode cL_tell 46 = .ok (.aload_n 0, 1) := by decide +kernel
theorem dL_tell_47 : decode cL_tell 47 = .ok (.aload 4, 2) := by decide +kernel
theorem dL_tell_49 : decode cL_tell 49 = .ok (.iload 7, 2) := by decide +kernel
theorem dL_tell_51 : decode cL_tell 51 = .ok (.aaload, 1) := by decide +kernel
theorem dL_tell_52 : decode cL_tell 52 = .ok (.iconst 0, 1) := by decide +kernel
theorem dL_tell_53 : decode cL_tell 53 = .ok (.iaload, 1) := by decide +kernel
theorem dL_tell_54 : decode cL_tell 54 = .ok (.aload 4, 2) := by decide +kernel
theorem dL_tell_56 : decode cL_tell 56 = .ok (.iload 7, 2) := by decide +kernel
theorem dL_tell_58 : decode cL_tell 58 = .ok (.aaload, 1) := by decide +kernel
theorem dL_tell_59 : decode cL_tell 59 = .ok (.iconst 1, 1) := by decide +kernel
theorem dL_tell_60 : decode cL_tell 60 = .ok (.iaload, 1) := by decide +kernel
theorem dL_tell_61 : decode cL_tell 61 = .ok (.aload 4, 2) := by decide +kernel
theorem dL_tell_63 : decode cL_tell 63 = .ok (.iload 7, 2) := by decide +kernel
theorem dL_tell_65 : decode cL_tell 65 = .ok (.aaload, 1) := by decide +kernel
theorem dL_tell_66 : decode cL_tell 66 = .ok (.iconst 2, 1) := by decide +kernel
theorem dL_tell_67 : decode cL_tell 67 = .ok (.iaload, 1) := by decide +kernel
theorem dL_tell_68 : decode cL_tell 68 = .ok (.invokevirtual 30, 3) := by decide +kernel
theorem dL_tell_71 : decode cL_tell 71 = .ok (.iload 7, 2) := by decide +kernel
theorem dL_tell_73 : decode cL_tell 73 = .ok (.if_icmp .ne 7, 3) := by decide +kernel
theorem dL_tell_76 : decode cL_tell 76 = .ok (.iconst 1, 1) := by decide +kernel
theorem dL_tell_77 : decode cL_tell 77 = .ok (.goto 4, 3) := by decide +kernel
theorem dL_tell_80 : decode cL_tell 80 = .ok (.iconst 0, 1) := by decide +kernel
theorem dL_tell_81 : decode cL_tell 81 = .ok (.istore 6, 2) := by decide +kernel
theorem dL_tell_83 : decode cL_tell 83 = .ok (.iinc 7 1, 3) := by decide +kernel
theorem dL_tell_86 : decode cL_tell 86 = .ok (.goto (-53), 3) := by decide +kernel
theorem dL_tell_89 : decode cL_tell 89 = .ok (.iconst 0, 1) := by decide +kernel
theorem dL_tell_90 : decode cL_tell 90 = .ok (.istore 7, 2) := by decide +kernel
theorem dL_tell_92 : decode cL_tell 92 = .ok (.iload 7, 2) := by decide +kernel
theorem dL_tell_94 : decode cL_tell 94 = .ok (.aload 5, 2) := by decide +kernel
theorem dL_tell_96 : decode cL_tell 96 = .ok (.arraylength, 1) := by decide +kernel
theorem dL_tell_97 : decode cL_tell 97 = .ok (.if_icmp .ge 168, 3) := by decide +kernel
theorem dL_tell_100 : decode cL_tell 100 = .ok (.iload 6, 2) := by decide +kernel
theorem dL_tell_102 : decode cL_tell 102 = .ok (.ifCond .eq 46, 3) := by decide +kernel
theorem dL_tell_105 : decode cL_tell 105 = .ok (.aload_n 0, 1) := by decide +kernel
theorem dL_tell_106 : decode cL_tell 106 = .ok (.aload 5, 2) := by decide +kernel
theorem dL_tell_108 : decode cL_tell 108 = .ok (.iload 7, 2) := by decide +kernel
theorem dL_tell_110 : decode cL_tell 110 = .ok (.aaload, 1) := by decide +kernel
theorem dL_tell_111 : decode cL_tell 111 = .ok (.iconst 0, 1) := by decide +kernel
theorem dL_tell_112 : decode cL_tell 112 = .ok (.iaload, 1) := by decide +kernel
theorem dL_tell_113 : decode cL_tell 113 = .ok (.aload 5, 2) := by decide +kernel
theorem dL_tell_115 : decode cL_tell 115 = .ok (.iload 7, 2) := by decide +kernel
theorem dL_tell_117 : decode cL_tell 117 = .ok (.aaload, 1) := by decide +kernel
theorem dL_tell_118 : decode cL_tell 118 = .ok (.iconst 1, 1) := by decide +kernel
theorem dL_tell_119 : decode cL_tell 119 = .ok (.iaload, 1) := by decide +kernel
theorem dL_tell_120 : decode cL_tell 120 = .ok (.invokevirtual 34, 3) := by decide +kernel
theorem dL_tell_123 : decode cL_tell 123 = .ok (.iload 7, 2) := by decide +kernel
theorem dL_tell_125 : decode cL_tell 125 = .ok (.if_icmp .ne 23, 3) := by decide +kernel
theorem dL_tell_128 : decode cL_tell 128 = .ok (.aload_n 0, 1) := by decide +kernel
theorem dL_tell_129 : decode cL_tell 129 = .ok (.iload 7, 2) := by decide +kernel
theorem dL_tell_131 : decode cL_tell 131 = .ok (.aload 5, 2) := by decide +kernel
theorem dL_tell_133 : decode cL_tell 133 = .ok (.iload 7, 2) := by decide +kernel
theorem dL_tell_135 : decode cL_tell 135 = .ok (.aaload, 1) := by decide +kernel
theorem dL_tell_136 : decode cL_tell 136 = .ok (.iconst 2, 1) := by decide +kernel
theorem dL_tell_137 : decode cL_tell 137 = .ok (.iaload, 1) := by decide +kernel
theorem dL_tell_138 : decode cL_tell 138 = .ok (.invokevirtual 38, 3) := by decide +kernel
theorem dL_tell_141 : decode cL_tell 141 = .ok (.ifCond .ne 7, 3) := by decide +kernel
theorem dL_tell_144 : decode cL_tell 144 = .ok (.iconst 1, 1) := by decide +kernel
theorem dL_tell_145 : decode cL_tell 145 = .ok (.goto 4, 3) := by decide +kernel
theorem dL_tell_148 : decode cL_tell 148 = .ok (.iconst 0, 1) := by decide +kernel
theorem dL_tell_149 : decode cL_tell 149 = .ok (.istore 6, 2) := by decide +kernel
theorem dL_tell_151 : decode cL_tell 151 = .ok (.iconst 0, 1) := by decide +kernel
theorem dL_tell_152 : decode cL_tell 152 = .ok (.istore 8, 2) := by decide +kernel
theorem dL_tell_154 : decode cL_tell 154 = .ok (.iload 8, 2) := by decide +kernel
theorem dL_tell_156 : decode cL_tell 156 = .ok (.aload 4, 2) := by decide +kernel
theorem dL_tell_158 : decode cL_tell 158 = .ok (.arraylength, 1) := by decide +kernel
theorem dL_tell_159 : decode cL_tell 159 = .ok (.if_icmp .ge 100, 3) := by decide +kernel
theorem dL_tell_162 : decode cL_tell 162 = .ok (.aload_n 1, 1) := by decide +kernel
theorem dL_tell_163 : decode cL_tell 163 = .ok (.iload_n 2, 1) := by decide +kernel
theorem dL_tell_164 : decode cL_tell 164 = .ok (.bipush 12, 2) := by decide +kernel
theorem dL_tell_166 : decode cL_tell 166 = .ok (.iload 7, 2) := by decide +kernel
theorem dL_tell_168 : decode cL_tell 168 = .ok (.imul, 1) := by decide +kernel
theorem dL_tell_169 : decode cL_tell 169 = .ok (.iadd, 1) := by decide +kernel
theorem dL_tell_170 : decode cL_tell 170 = .ok (.iload 8, 2) := by decide +kernel
theorem dL_tell_172 : decode cL_tell 172 = .ok (.iadd, 1) := by decide +kernel
theorem dL_tell_173 : decode cL_tell 173 = .ok (.iconst 5, 1) := by decide +kernel
theorem dL_tell_174 : decode cL_tell 174 = .ok (.invokestatic 17, 3) := by decide +kernel
theorem dL_tell_177 : decode cL_tell 177 = .ok (.iconst 3, 1) := by decide +kernel
theorem dL_tell_178 : decode cL_tell 178 = .ok (.if_icmp .ge 75, 3) := by decide +kernel
theorem dL_tell_181 : decode cL_tell 181 = .ok (.aload 4, 2) := by decide +kernel
theorem dL_tell_183 : decode cL_tell 183 = .ok (.aload 5, 2) := by decide +kernel
theorem dL_tell_185 : decode cL_tell 185 = .ok (.iload 7, 2) := by decide +kernel
theorem dL_tell_187 : decode cL_tell 187 = .ok (.aaload, 1) := by decide +kernel
theorem dL_tell_188 : decode cL_tell 188 = .ok (.iload 8, 2) := by decide +kernel
theorem dL_tell_190 : decode cL_tell 190 = .ok (.invokestatic 41, 3) := by decide +kernel
theorem dL_tell_193 : decode cL_tell 193 = .ok (.istore 9, 2) := by decide +kernel
theorem dL_tell_195 : decode cL_tell 195 = .ok (.aload 5, 2) := by decide +kernel
theorem dL_tell_197 : decode cL_tell 197 = .ok (.iload 7, 2) := by decide +kernel
theorem dL_tell_199 : decode cL_tell 199 = .ok (.aaload, 1) := by decide +kernel
theorem dL_tell_200 : decode cL_tell 200 = .ok (.iconst 3, 1) := by decide +kernel
theorem dL_tell_201 : decode cL_tell 201 = .ok (.dup2, 1) := by decide +kernel
theorem dL_tell_202 : decode cL_tell 202 = .ok (.iaload, 1) := by decide +kernel
theorem dL_tell_203 : decode cL_tell 203 = .ok (.iload 9, 2) := by decide +kernel
theorem dL_tell_205 : decode cL_tell 205 = .ok (.ifCond .eq 7, 3) := by decide +kernel
theorem dL_tell_208 : decode cL_tell 208 = .ok (.iconst 0, 1) := by decide +kernel
theorem dL_tell_209 : decode cL_tell 209 = .ok (.goto 7, 3) := by decide +kernel
theorem dL_tell_212 : decode cL_tell 212 = .ok (.iconst 1, 1) := by decide +kernel
theorem dL_tell_213 : decode cL_tell 213 = .ok (.iload 8, 2) := by decide +kernel
theorem dL_tell_215 : decode cL_tell 215 = .ok (.ishl, 1) := by decide +kernel
theorem dL_tell_216 : decode cL_tell 216 = .ok (.ior, 1) := by decide +kernel
theorem dL_tell_217 : decode cL_tell 217 = .ok (.iastore, 1) := by decide +kernel
theorem dL_tell_218 : decode cL_tell 218 = .ok (.iload 6, 2) := by decide +kernel
theorem dL_tell_220 : decode cL_tell 220 = .ok (.ifCond .eq 30, 3) := by decide +kernel
theorem dL_tell_223 : decode cL_tell 223 = .ok (.aload_n 0, 1) := by decide +kernel
theorem dL_tell_224 : decode cL_tell 224 = .ok (.iload 7, 2) := by decide +kernel
theorem dL_tell_226 : decode cL_tell 226 = .ok (.iload 8, 2) := by decide +kernel
theorem dL_tell_228 : decode cL_tell 228 = .ok (.iconst 1, 1) := by decide +kernel
theorem dL_tell_229 : decode cL_tell 229 = .ok (.invokevirtual 45, 3) := by decide +kernel
theorem dL_tell_232 : decode cL_tell 232 = .ok (.iload 9, 2) := by decide +kernel
theorem dL_tell_234 : decode cL_tell 234 = .ok (.ifCond .eq 8, 3) := by decide +kernel
theorem dL_tell_237 : decode cL_tell 237 = .ok (.bipush (-55), 2) := by decide +kernel
theorem dL_tell_239 : decode cL_tell 239 = .ok (.goto 4, 3) := by decide +kernel
theorem dL_tell_242 : decode cL_tell 242 = .ok (.iconst 0, 1) := by decide +kernel
theorem dL_tell_243 : decode cL_tell 243 = .ok (.if_icmp .ne 7, 3) := by decide +kernel
theorem dL_tell_246 : decode cL_tell 246 = .ok (.iconst 1, 1) := by decide +kernel
theorem dL_tell_247 : decode cL_tell 247 = .ok (.goto 4, 3) := by decide +kernel
theorem dL_tell_250 : decode cL_tell 250 = .ok (.iconst 0, 1) := by decide +kernel
theorem dL_tell_251 : decode cL_tell 251 = .ok (.istore 6, 2) := by decide +kernel
theorem dL_tell_253 : decode cL_tell 253 = .ok (.iinc 8 1, 3) := by decide +kernel
theorem dL_tell_256 : decode cL_tell 256 = .ok (.goto (-102), 3) := by decide +kernel
theorem dL_tell_259 : decode cL_tell 259 = .ok (.iinc 7 1, 3) := by decide +kernel
theorem dL_tell_262 : decode cL_tell 262 = .ok (.goto (-170), 3) := by decide +kernel
theorem dL_tell_265 : decode cL_tell 265 = .ok (.iload 6, 2) := by decide +kernel
theorem dL_tell_267 : decode cL_tell 267 = .ok (.ireturn, 1) := by decide +kernel
theorem dL_looks_0 : decode cL_looks 0 = .ok (.ldc2_w 48, 3) := by decide +kernel
theorem dL_looks_3 : decode cL_looks 3 = .ok (.lstore_n 1, 1) := by decide +kernel
theorem dL_looks_4 : decode cL_looks 4 = .ok (.iconst 0, 1) := by decide +kernel
theorem dL_looks_5 : decode cL_looks 5 = .ok (.istore_n 3, 1) := by decide +kernel
theorem dL_looks_6 : decode cL_looks 6 = .ok (.iload_n 3, 1) := by decide +kernel
theorem dL_looks_7 : decode cL_looks 7 = .ok (.aload_n 0, 1) := by decide +kernel
theorem dL_looks_8 : decode cL_looks 8 = .ok (.iconst 1, 1) := by decide +kernel
theorem dL_looks_9 : decode cL_looks 9 = .ok (.invokevirtual 50, 3) := by decide +kernel
theorem dL_looks_12 : decode cL_looks 12 = .ok (.if_icmp .ge 85, 3) := by decide +kernel
theorem dL_looks_15 : decode cL_looks 15 = .ok (.iconst 0, 1) := by decide +kernel
theorem dL_looks_16 : decode cL_looks 16 = .ok (.istore 4, 2) := by decide +kernel
theorem dL_looks_18 : decode cL_looks 18 = .ok (.iload 4, 2) := by decide +kernel
theorem dL_looks_20 : decode cL_looks 20 = .ok (.bipush 6, 2) := by decide +kernel
theorem dL_looks_22 : decode cL_looks 22 = .ok (.if_icmp .ge 24, 3) := by decide +kernel
theorem dL_looks_25 : decode cL_looks 25 = .ok (.ldc2_w 53, 3) := by decide +kernel
theorem dL_looks_28 : decode cL_looks 28 = .ok (.lload_n 1, 1) := by decide +kernel
theorem dL_looks_29 : decode cL_looks 29 = .ok (.lmul, 1) := by decide +kernel
theorem dL_looks_30 : decode cL_looks 30 = .ok (.aload_n 0, 1) := by decide +kernel
theorem dL_looks_31 : decode cL_looks 31 = .ok (.iload_n 3, 1) := by decide +kernel
theorem dL_looks_32 : decode cL_looks 32 = .ok (.iload 4, 2) := by decide +kernel
theorem dL_looks_34 : decode cL_looks 34 = .ok (.invokevirtual 55, 3) := by decide +kernel
theorem dL_looks_37 : decode cL_looks 37 = .ok (.i2l, 1) := by decide +kernel
theorem dL_looks_38 : decode cL_looks 38 = .ok (.ladd, 1) := by decide +kernel
theorem dL_looks_39 : decode cL_looks 39 = .ok (.lstore_n 1, 1) := by decide +kernel
theorem dL_looks_40 : decode cL_looks 40 = .ok (.iinc 4 1, 3) := by decide +kernel
theorem dL_looks_43 : decode cL_looks 43 = .ok (.goto (-25), 3) := by decide +kernel
theorem dL_looks_46 : decode cL_looks 46 = .ok (.iconst 0, 1) := by decide +kernel
theorem dL_looks_47 : decode cL_looks 47 = .ok (.istore 4, 2) := by decide +kernel
theorem dL_looks_49 : decode cL_looks 49 = .ok (.iload 4, 2) := by decide +kernel
theorem dL_looks_51 : decode cL_looks 51 = .ok (.iconst 5, 1) := by decide +kernel
theorem dL_looks_52 : decode cL_looks 52 = .ok (.if_icmp .ge 39, 3) := by decide +kernel
theorem dL_looks_55 : decode cL_looks 55 = .ok (.ldc2_w 53, 3) := by decide +kernel
theorem dL_looks_58 : decode cL_looks 58 = .ok (.ldc2_w 53, 3) := by decide +kernel
theorem dL_looks_61 : decode cL_looks 61 = .ok (.lload_n 1, 1) := by decide +kernel
theorem dL_looks_62 : decode cL_looks 62 = .ok (.lmul, 1) := by decide +kernel
theorem dL_looks_63 : decode cL_looks 63 = .ok (.aload_n 0, 1) := by decide +kernel
theorem dL_looks_64 : decode cL_looks 64 = .ok (.iload_n 3, 1) := by decide +kernel
theorem dL_looks_65 : decode cL_looks 65 = .ok (.iload 4, 2) := by decide +kernel
theorem dL_looks_67 : decode cL_looks 67 = .ok (.iconst 1, 1) := by decide +kernel
theorem dL_looks_68 : decode cL_looks 68 = .ok (.invokevirtual 58, 3) := by decide +kernel
theorem dL_looks_71 : decode cL_looks 71 = .ok (.i2l, 1) := by decide +kernel
theorem dL_looks_72 : decode cL_looks 72 = .ok (.ladd, 1) := by decide +kernel
theorem dL_looks_73 : decode cL_looks 73 = .ok (.lmul, 1) := by decide +kernel
theorem dL_looks_74 : decode cL_looks 74 = .ok (.aload_n 0, 1) := by decide +kernel
theorem dL_looks_75 : decode cL_looks 75 = .ok (.iload_n 3, 1) := by decide +kernel
theorem dL_looks_76 : decode cL_looks 76 = .ok (.iload 4, 2) := by decide +kernel
theorem dL_looks_78 : decode cL_looks 78 = .ok (.iconst 2, 1) := by decide +kernel
theorem dL_looks_79 : decode cL_looks 79 = .ok (.invokevirtual 58, 3) := by decide +kernel
theorem dL_looks_82 : decode cL_looks 82 = .ok (.i2l, 1) := by decide +kernel
theorem dL_looks_83 : decode cL_looks 83 = .ok (.ladd, 1) := by decide +kernel
theorem dL_looks_84 : decode cL_looks 84 = .ok (.lstore_n 1, 1) := by decide +kernel
theorem dL_looks_85 : decode cL_looks 85 = .ok (.iinc 4 1, 3) := by decide +kernel
theorem dL_looks_88 : decode cL_looks 88 = .ok (.goto (-39), 3) := by decide +kernel
theorem dL_looks_91 : decode cL_looks 91 = .ok (.iinc 3 1, 3) := by decide +kernel
theorem dL_looks_94 : decode cL_looks 94 = .ok (.goto (-88), 3) := by decide +kernel
theorem dL_looks_97 : decode cL_looks 97 = .ok (.iconst 0, 1) := by decide +kernel
theorem dL_looks_98 : decode cL_looks 98 = .ok (.istore_n 3, 1) := by decide +kernel
theorem dL_looks_99 : decode cL_looks 99 = .ok (.iload_n 3, 1) := by decide +kernel
theorem dL_looks_100 : decode cL_looks 100 = .ok (.aload_n 0, 1) := by decide +kernel
theorem dL_looks_101 : decode cL_looks 101 = .ok (.iconst 0, 1) := by decide +kernel
theorem dL_looks_102 : decode cL_looks 102 = .ok (.invokevirtual 50, 3) := by decide +kernel
theorem dL_looks_105 : decode cL_looks 105 = .ok (.if_icmp .ge 39, 3) := by decide +kernel
theorem dL_looks_108 : decode cL_looks 108 = .ok (.iconst 0, 1) := by decide +kernel
theorem dL_looks_109 : decode cL_looks 109 = .ok (.istore 4, 2) := by decide +kernel
theorem dL_looks_111 : decode cL_looks 111 = .ok (.iload 4, 2) := by decide +kernel
theorem dL_looks_113 : decode cL_looks 113 = .ok (.iconst 5, 1) := by decide +kernel
theorem dL_looks_114 : decode cL_looks 114 = .ok (.if_icmp .ge 24, 3) := by decide +kernel
theorem dL_looks_117 : decode cL_looks 117 = .ok (.ldc2_w 53, 3) := by decide +kernel
theorem dL_looks_120 : decode cL_looks 120 = .ok (.lload_n 1, 1) := by decide +kernel
theorem dL_looks_121 : decode cL_looks 121 = .ok (.lmul, 1) := by decide +kernel
theorem dL_looks_122 : decode cL_looks 122 = .ok (.aload_n 0, 1) := by decide +kernel
theorem dL_looks_123 : decode cL_looks 123 = .ok (.iload_n 3, 1) := by decide +kernel
theorem dL_looks_124 : decode cL_looks 124 = .ok (.iload 4, 2) := by decide +kernel
theorem dL_looks_126 : decode cL_looks 126 = .ok (.invokevirtual 61, 3) := by decide +kernel
theorem dL_looks_129 : decode cL_looks 129 = .ok (.i2l, 1) := by decide +kernel
theorem dL_looks_130 : decode cL_looks 130 = .ok (.ladd, 1) := by decide +kernel
theorem dL_looks_131 : decode cL_looks 131 = .ok (.lstore_n 1, 1) := by decide +kernel
theorem dL_looks_132 : decode cL_looks 132 = .ok (.iinc 4 1, 3) := by decide +kernel
theorem dL_looks_135 : decode cL_looks 135 = .ok (.goto (-24), 3) := by decide +kernel
theorem dL_looks_138 : decode cL_looks 138 = .ok (.iinc 3 1, 3) := by decide +kernel
theorem dL_looks_141 : decode cL_looks 141 = .ok (.goto (-42), 3) := by decide +kernel
theorem dL_looks_144 : decode cL_looks 144 = .ok (.iconst 0, 1) := by decide +kernel
theorem dL_looks_145 : decode cL_looks 145 = .ok (.istore_n 3, 1) := by decide +kernel
theorem dL_looks_146 : decode cL_looks 146 = .ok (.iload_n 3, 1) := by decide +kernel
theorem dL_looks_147 : decode cL_looks 147 = .ok (.bipush 9, 2) := by decide +kernel
theorem dL_looks_149 : decode cL_looks 149 = .ok (.if_icmp .ge 22, 3) := by decide +kernel
theorem dL_looks_152 : decode cL_looks 152 = .ok (.ldc2_w 53, 3) := by decide +kernel
theorem dL_looks_155 : decode cL_looks 155 = .ok (.lload_n 1, 1) := by decide +kernel
theorem dL_looks_156 : decode cL_looks 156 = .ok (.lmul, 1) := by decide +kernel
theorem dL_looks_157 : decode cL_looks 157 = .ok (.aload_n 0, 1) := by decide +kernel
theorem dL_looks_158 : decode cL_looks 158 = .ok (.iload_n 3, 1) := by decide +kernel
theorem dL_looks_159 : decode cL_looks 159 = .ok (.invokevirtual 50, 3) := by decide +kernel
theorem dL_looks_162 : decode cL_looks 162 = .ok (.i2l, 1) := by decide +kernel
theorem dL_looks_163 : decode cL_looks 163 = .ok (.ladd, 1) := by decide +kernel
theorem dL_looks_164 : decode cL_looks 164 = .ok (.lstore_n 1, 1) := by decide +kernel
theorem dL_looks_165 : decode cL_looks 165 = .ok (.iinc 3 1, 3) := by decide +kernel
theorem dL_looks_168 : decode cL_looks 168 = .ok (.goto (-22), 3) := by decide +kernel
theorem dL_looks_171 : decode cL_looks 171 = .ok (.lload_n 1, 1) := by decide +kernel
theorem dL_looks_172 : decode cL_looks 172 = .ok (.lreturn, 1) := by decide +kernel
theorem dL_isPlanned_0 : decode cL_isPlanned 0 = .ok (.iload 4, 2) := by decide +kernel
theorem dL_isPlanned_2 : decode cL_isPlanned 2 = .ok (.ifCond .ne 7, 3) := by decide +kernel
theorem dL_isPlanned_5 : decode cL_isPlanned 5 = .ok (.iconst (-1), 1) := by decide +kernel
theorem dL_isPlanned_6 : decode cL_isPlanned 6 = .ok (.goto 13, 3) := by decide +kernel
theorem dL_isPlanned_9 : decode cL_isPlanned 9 = .ok (.aload_n 0, 1) := by decide +kernel
theorem dL_isPlanned_10 : decode cL_isPlanned 10 = .ok (.iload_n 3, 1) := by decide +kernel
theorem dL_isPlanned_11 : decode cL_isPlanned 11 = .ok (.iload 4, 2) := by decide +kernel
theorem dL_isPlanned_13 : decode cL_isPlanned 13 = .ok (.iconst 1, 1) := by decide +kernel
theorem dL_isPlanned_14 : decode cL_isPlanned 14 = .ok (.isub, 1) := by decide +kernel
theorem dL_isPlanned_15 : decode cL_isPlanned 15 = .ok (.iconst 2, 1) := by decide +kernel
theorem dL_isPlanned_16 : decode cL_isPlanned 16 = .ok (.invokevirtual 58, 3) := by decide +kernel
theorem dL_isPlanned_19 : decode cL_isPlanned 19 = .ok (.istore 5, 2) := by decide +kernel
theorem dL_isPlanned_21 : decode cL_isPlanned 21 = .ok (.iload 5, 2) := by decide +kernel
theorem dL_isPlanned_23 : decode cL_isPlanned 23 = .ok (.ifCond .ge 7, 3) := by decide +kernel
theorem dL_isPlanned_26 : decode cL_isPlanned 26 = .ok (.iconst 0, 1) := by decide +kernel
theorem dL_isPlanned_27 : decode cL_isPlanned 27 = .ok (.goto 10, 3) := by decide +kernel
theorem dL_isPlanned_30 : decode cL_isPlanned 30 = .ok (.aload_n 0, 1) := by decide +kernel
theorem dL_isPlanned_31 : decode cL_isPlanned 31 = .ok (.iload_n 3, 1) := by decide +kernel
theorem dL_isPlanned_32 : decode cL_isPlanned 32 = .ok (.iload 5, 2) := by decide +kernel
theorem dL_isPlanned_34 : decode cL_isPlanned 34 = .ok (.invokevirtual 64, 3) := by decide +kernel
theorem dL_isPlanned_37 : decode cL_isPlanned 37 = .ok (.istore 6, 2) := by decide +kernel
theorem dL_isPlanned_39 : decode cL_isPlanned 39 = .ok (.aload_n 0, 1) := by decide +kernel
theorem dL_isPlanned_40 : decode cL_isPlanned 40 = .ok (.iload_n 3, 1) := by decide +kernel
theorem dL_isPlanned_41 : decode cL_isPlanned 41 = .ok (.iconst 4, 1) := by decide +kernel
theorem dL_isPlanned_42 : decode cL_isPlanned 42 = .ok (.invokevirtual 55, 3) := by decide +kernel
theorem dL_isPlanned_45 : decode cL_isPlanned 45 = .ok (.istore 7, 2) := by decide +kernel
theorem dL_isPlanned_47 : decode cL_isPlanned 47 = .ok (.aload_n 0, 1) := by decide +kernel
theorem dL_isPlanned_48 : decode cL_isPlanned 48 = .ok (.iload_n 3, 1) := by decide +kernel
theorem dL_isPlanned_49 : decode cL_isPlanned 49 = .ok (.iload 4, 2) := by decide +kernel
theorem dL_isPlanned_51 : decode cL_isPlanned 51 = .ok (.iconst 5, 1) := by decide +kernel
theorem dL_isPlanned_52 : decode cL_isPlanned 52 = .ok (.invokevirtual 58, 3) := by decide +kernel
theorem dL_isPlanned_55 : decode cL_isPlanned 55 = .ok (.istore 8, 2) := by decide +kernel
theorem dL_isPlanned_57 : decode cL_isPlanned 57 = .ok (.aload_n 0, 1) := by decide +kernel
theorem dL_isPlanned_58 : decode cL_isPlanned 58 = .ok (.iload_n 3, 1) := by decide +kernel
theorem dL_isPlanned_59 : decode cL_isPlanned 59 = .ok (.iload 4, 2) := by decide +kernel
theorem dL_isPlanned_61 : decode cL_isPlanned 61 = .ok (.iconst 2, 1) := by decide +kernel
theorem dL_isPlanned_62 : decode cL_isPlanned 62 = .ok (.invokevirtual 58, 3) := by decide +kernel
theorem dL_isPlanned_65 : decode cL_isPlanned 65 = .ok (.istore 9, 2) := by decide +kernel
theorem dL_isPlanned_67 : decode cL_isPlanned 67 = .ok (.aload_n 0, 1) := by decide +kernel
theorem dL_isPlanned_68 : decode cL_isPlanned 68 = .ok (.iload_n 3, 1) := by decide +kernel
theorem dL_isPlanned_69 : decode cL_isPlanned 69 = .ok (.iload 4, 2) := by decide +kernel
theorem dL_isPlanned_71 : decode cL_isPlanned 71 = .ok (.iconst 4, 1) := by decide +kernel
theorem dL_isPlanned_72 : decode cL_isPlanned 72 = .ok (.invokevirtual 58, 3) := by decide +kernel
theorem dL_isPlanned_75 : decode cL_isPlanned 75 = .ok (.iload 6, 2) := by decide +kernel
theorem dL_isPlanned_77 : decode cL_isPlanned 77 = .ok (.if_icmp .ne 32, 3) := by decide +kernel
theorem dL_isPlanned_80 : decode cL_isPlanned 80 = .ok (.aload_n 0, 1) := by decide +kernel
theorem dL_isPlanned_81 : decode cL_isPlanned 81 = .ok (.iload_n 3, 1) := by decide +kernel
theorem dL_isPlanned_82 : decode cL_isPlanned 82 = .ok (.iload 4, 2) := by decide +kernel
theorem dL_isPlanned_84 : decode cL_isPlanned 84 = .ok (.iconst 3, 1) := by decide +kernel
theorem dL_isPlanned_85 : decode cL_isPlanned 85 = .ok (.invokevirtual 58, 3) := by decide +kernel
theorem dL_isPlanned_88 : decode cL_isPlanned 88 = .ok (.iload 5, 2) := by decide +kernel
theorem dL_isPlanned_90 : decode cL_isPlanned 90 = .ok (.ifCond .ge 7, 3) := by decide +kernel
theorem dL_isPlanned_93 : decode cL_isPlanned 93 = .ok (.iconst 0, 1) := by decide +kernel
theorem dL_isPlanned_94 : decode cL_isPlanned 94 = .ok (.goto 8, 3) := by decide +kernel
theorem dL_isPlanned_97 : decode cL_isPlanned 97 = .ok (.iload 6, 2) := by decide +kernel
theorem dL_isPlanned_99 : decode cL_isPlanned 99 = .ok (.iload 7, 2) := by decide +kernel
theorem dL_isPlanned_101 : decode cL_isPlanned 101 = .ok (.iadd, 1) := by decide +kernel
theorem dL_isPlanned_102 : decode cL_isPlanned 102 = .ok (.if_icmp .ne 7, 3) := by decide +kernel
theorem dL_isPlanned_105 : decode cL_isPlanned 105 = .ok (.iconst 1, 1) := by decide +kernel
theorem dL_isPlanned_106 : decode cL_isPlanned 106 = .ok (.goto 4, 3) := by decide +kernel
theorem dL_isPlanned_109 : decode cL_isPlanned 109 = .ok (.iconst 0, 1) := by decide +kernel
theorem dL_isPlanned_110 : decode cL_isPlanned 110 = .ok (.istore 10, 2) := by decide +kernel
theorem dL_isPlanned_112 : decode cL_isPlanned 112 = .ok (.iload 5, 2) := by decide +kernel
theorem dL_isPlanned_114 : decode cL_isPlanned 114 = .ok (.ifCond .ge 7, 3) := by decide +kernel
theorem dL_isPlanned_117 : decode cL_isPlanned 117 = .ok (.iconst 0, 1) := by decide +kernel
theorem dL_isPlanned_118 : decode cL_isPlanned 118 = .ok (.goto 8, 3) := by decide +kernel
theorem dL_isPlanned_121 : decode cL_isPlanned 121 = .ok (.iload 6, 2) := by decide +kernel
theorem dL_isPlanned_123 : decode cL_isPlanned 123 = .ok (.iload 7, 2) := by decide +kernel
theorem dL_isPlanned_125 : decode cL_isPlanned 125 = .ok (.iadd, 1) := by decide +kernel
theorem dL_isPlanned_126 : decode cL_isPlanned 126 = .ok (.istore 11, 2) := by decide +kernel
theorem dL_isPlanned_128 : decode cL_isPlanned 128 = .ok (.iload 6, 2) := by decide +kernel
theorem dL_isPlanned_130 : decode cL_isPlanned 130 = .ok (.istore 12, 2) := by decide +kernel
theorem dL_isPlanned_132 : decode cL_isPlanned 132 = .ok (.iconst 0, 1) := by decide +kernel
theorem dL_isPlanned_133 : decode cL_isPlanned 133 = .ok (.istore 13, 2) := by decide +kernel
theorem dL_isPlanned_135 : decode cL_isPlanned 135 = .ok (.iconst 0, 1) := by decide +kernel
theorem dL_isPlanned_136 : decode cL_isPlanned 136 = .ok (.istore 14, 2) := by decide +kernel
theorem dL_isPlanned_138 : decode cL_isPlanned 138 = .ok (.iload 14, 2) := by decide +kernel
theorem dL_isPlanned_140 : decode cL_isPlanned 140 = .ok (.aload_n 1, 1) := by decide +kernel
theorem dL_isPlanned_141 : decode cL_isPlanned 141 = .ok (.arraylength, 1) := by decide +kernel
theorem dL_isPlanned_142 : decode cL_isPlanned 142 = .ok (.if_icmp .ge 37, 3) := by decide +kernel
theorem dL_isPlanned_145 : decode cL_isPlanned 145 = .ok (.iload 13, 2) := by decide +kernel
theorem dL_isPlanned_147 : decode cL_isPlanned 147 = .ok (.aload_n 1, 1) := by decide +kernel
theorem dL_isPlanned_148 : decode cL_isPlanned 148 = .ok (.iload 14, 2) := by decide +kernel
theorem dL_isPlanned_150 : decode cL_isPlanned 150 = .ok (.aaload, 1) := by decide +kernel
theorem dL_isPlanned_151 : decode cL_isPlanned 151 = .ok (.iconst 0, 1) := by decide +kernel
theorem dL_isPlanned_152 : decode cL_isPlanned 152 = .ok (.iaload, 1) := by decide +kernel
theorem dL_isPlanned_153 : decode cL_isPlanned 153 = .ok (.iload 4, 2) := by decide +kernel
theorem dL_isPlanned_155 : decode cL_isPlanned 155 = .ok (.if_icmp .ne 14, 3) := by decide +kernel
theorem dL_isPlanned_158 : decode cL_isPlanned 158 = .ok (.aload_n 2, 1) := by decide +kernel
theorem dL_isPlanned_159 : decode cL_isPlanned 159 = .ok (.iconst 3, 1) := by decide +kernel
theorem dL_isPlanned_160 : decode cL_isPlanned 160 = .ok (.iaload, 1) := by decide +kernel
theorem dL_isPlanned_161 : decode cL_isPlanned 161 = .ok (.iconst 1, 1) := by decide +kernel
theorem dL_isPlanned_162 : decode cL_isPlanned 162 = .ok (.iload 14, 2) := by decide +kernel
theorem dL_isPlanned_164 : decode cL_isPlanned 164 = .ok (.ishl, 1) := by decide +kernel
theorem dL_isPlanned_165 : decode cL_isPlanned 165 = .ok (.iand, 1) := by decide +kernel
theorem dL_isPlanned_166 : decode cL_isPlanned 166 = .ok (.goto 4, 3) := by decide +kernel
theorem dL_isPlanned_169 : decode cL_isPlanned 169 = .ok (.iconst 0, 1) := by decide +kernel
theorem dL_isPlanned_170 : decode cL_isPlanned 170 = .ok (.ior, 1) := by decide +kernel
theorem dL_isPlanned_171 : decode cL_isPlanned 171 = .ok (.istore 13, 2) := by decide +kernel
theorem dL_isPlanned_173 : decode cL_isPlanned 173 = .ok (.iinc 14 1, 3) := by decide +kernel
theorem dL_isPlanned_176 : decode cL_isPlanned 176 = .ok (.goto (-38), 3) := by decide +kernel
theorem dL_isPlanned_179 : decode cL_isPlanned 179 = .ok (.iload 13, 2) := by decide +kernel
theorem dL_isPlanned_181 : decode cL_isPlanned 181 = .ok (.istore 14, 2) := by decide +kernel
theorem dL_isPlanned_183 : decode cL_isPlanned 183 = .ok (.iconst 0, 1) := by decide +kernel
theorem dL_isPlanned_184 : decode cL_isPlanned 184 = .ok (.istore 15, 2) := by decide +kernel
theorem dL_isPlanned_186 : decode cL_isPlanned 186 = .ok (.iload 15, 2) := by decide +kernel
theorem dL_isPlanned_188 : decode cL_isPlanned 188 = .ok (.iload 8, 2) := by decide +kernel
theorem dL_isPlanned_190 : decode cL_isPlanned 190 = .ok (.if_icmp .ge 144, 3) := by decide +kernel
theorem dL_isPlanned_193 : decode cL_isPlanned 193 = .ok (.aload_n 0, 1) := by decide +kernel
theorem dL_isPlanned_194 : decode cL_isPlanned 194 = .ok (.iload_n 3, 1) := by decide +kernel
theorem dL_isPlanned_195 : decode cL_isPlanned 195 = .ok (.iload 4, 2) := by decide +kernel
theorem dL_isPlanned_197 : decode cL_isPlanned 197 = .ok (.iload 15, 2) := by decide +kernel
theorem dL_isPlanned_199 : decode cL_isPlanned 199 = .ok (.iconst 0, 1) := by decide +kernel
theorem dL_isPlanned_200 : decode cL_isPlanned 200 = .ok (.invokevirtual 67, 3) := by decide +kernel
theorem dL_isPlanned_203 : decode cL_isPlanned 203 = .ok (.istore 16, 2) := by decide +kernel
theorem dL_isPlanned_205 : decode cL_isPlanned 205 = .ok (.aload_n 0, 1) := by decide +kernel
theorem dL_isPlanned_206 : decode cL_isPlanned 206 = .ok (.iload_n 3, 1) := by decide +kernel
theorem dL_isPlanned_207 : decode cL_isPlanned 207 = .ok (.iload 4, 2) := by decide +kernel
theorem dL_isPlanned_209 : decode cL_isPlanned 209 = .ok (.iload 15, 2) := by decide +kernel
theorem dL_isPlanned_211 : decode cL_isPlanned 211 = .ok (.iconst 1, 1) := by decide +kernel
theorem dL_isPlanned_212 : decode cL_isPlanned 212 = .ok (.invokevirtual 67, 3) := by decide +kernel
theorem dL_isPlanned_215 : decode cL_isPlanned 215 = .ok (.istore 17, 2) := by decide +kernel
theorem dL_isPlanned_217 : decode cL_isPlanned 217 = .ok (.aload_n 0, 1) := by decide +kernel
theorem dL_isPlanned_218 : decode cL_isPlanned 218 = .ok (.iload_n 3, 1) := by decide +kernel
theorem dL_isPlanned_219 : decode cL_isPlanned 219 = .ok (.iload 4, 2) := by decide +kernel
theorem dL_isPlanned_221 : decode cL_isPlanned 221 = .ok (.iload 15, 2) := by decide +kernel
theorem dL_isPlanned_223 : decode cL_isPlanned 223 = .ok (.iconst 2, 1) := by decide +kernel
theorem dL_isPlanned_224 : decode cL_isPlanned 224 = .ok (.invokevirtual 67, 3) := by decide +kernel
theorem dL_isPlanned_227 : decode cL_isPlanned 227 = .ok (.istore 18, 2) := by decide +kernel
theorem dL_isPlanned_229 : decode cL_isPlanned 229 = .ok (.iload 10, 2) := by decide +kernel
theorem dL_isPlanned_231 : decode cL_isPlanned 231 = .ok (.ifCond .eq 66, 3) := by decide +kernel
theorem dL_isPlanned_234 : decode cL_isPlanned 234 = .ok (.iload 13, 2) := by decide +kernel
theorem dL_isPlanned_236 : decode cL_isPlanned 236 = .ok (.iconst 1, 1) := by decide +kernel
theorem dL_isPlanned_237 : decode cL_isPlanned 237 = .ok (.iload 16, 2) := by decide +kernel
theorem dL_isPlanned_239 : decode cL_isPlanned 239 = .ok (.ishl, 1) := by decide +kernel
theorem dL_isPlanned_240 : decode cL_isPlanned 240 = .ok (.iand, 1) := by decide +kernel
theorem dL_isPlanned_241 : decode cL_isPlanned 241 = .ok (.ifCond .eq 56, 3) := by decide +kernel
theorem dL_isPlanned_244 : decode cL_isPlanned 244 = .ok (.iload 17, 2) := by decide +kernel
theorem dL_isPlanned_246 : decode cL_isPlanned 246 = .ok (.iload 11, 2) := by decide +kernel
theorem dL_isPlanned_248 : decode cL_isPlanned 248 = .ok (.aload_n 1, 1) := by decide +kernel
theorem dL_isPlanned_249 : decode cL_isPlanned 249 = .ok (.iload 16, 2) := by decide +kernel
theorem dL_isPlanned_251 : decode cL_isPlanned 251 = .ok (.aaload, 1) := by decide +kernel
theorem dL_isPlanned_252 : decode cL_isPlanned 252 = .ok (.iconst 1, 1) := by decide +kernel
theorem dL_isPlanned_253 : decode cL_isPlanned 253 = .ok (.iaload, 1) := by decide +kernel
theorem dL_isPlanned_254 : decode cL_isPlanned 254 = .ok (.if_icmp .le 8, 3) := by decide +kernel
theorem dL_isPlanned_257 : decode cL_isPlanned 257 = .ok (.iload 11, 2) := by decide +kernel
theorem dL_isPlanned_259 : decode cL_isPlanned 259 = .ok (.goto 9, 3) := by decide +kernel
theorem dL_isPlanned_262 : decode cL_isPlanned 262 = .ok (.aload_n 1, 1) := by decide +kernel
theorem dL_isPlanned_263 : decode cL_isPlanned 263 = .ok (.iload 16, 2) := by decide +kernel
theorem dL_isPlanned_265 : decode cL_isPlanned 265 = .ok (.aaload, 1) := by decide +kernel
theorem dL_isPlanned_266 : decode cL_isPlanned 266 = .ok (.iconst 1, 1) := by decide +kernel
theorem dL_isPlanned_267 : decode cL_isPlanned 267 = .ok (.iaload, 1) := by decide +kernel
theorem dL_isPlanned_268 : decode cL_isPlanned 268 = .ok (.if_icmp .ne 29, 3) := by decide +kernel
theorem dL_isPlanned_271 : decode cL_isPlanned 271 = .ok (.iload 18, 2) := by decide +kernel
theorem dL_isPlanned_273 : decode cL_isPlanned 273 = .ok (.iload 17, 2) := by decide +kernel
theorem dL_isPlanned_275 : decode cL_isPlanned 275 = .ok (.aload_n 0, 1) := by decide +kernel
theorem dL_isPlanned_276 : decode cL_isPlanned 276 = .ok (.iload_n 3, 1) := by decide +kernel
theorem dL_isPlanned_277 : decode cL_isPlanned 277 = .ok (.iload 16, 2) := by decide +kernel
theorem dL_isPlanned_279 : decode cL_isPlanned 279 = .ok (.invokevirtual 64, 3) := by decide +kernel
theorem dL_isPlanned_282 : decode cL_isPlanned 282 = .ok (.iadd, 1) := by decide +kernel
theorem dL_isPlanned_283 : decode cL_isPlanned 283 = .ok (.if_icmp .ne 14, 3) := by decide +kernel
theorem dL_isPlanned_286 : decode cL_isPlanned 286 = .ok (.iload 18, 2) := by decide +kernel
theorem dL_isPlanned_288 : decode cL_isPlanned 288 = .ok (.bipush 48, 2) := by decide +kernel
theorem dL_isPlanned_290 : decode cL_isPlanned 290 = .ok (.if_icmp .gt 7, 3) := by decide +kernel
theorem dL_isPlanned_293 : decode cL_isPlanned 293 = .ok (.iconst 1, 1) := by decide +kernel
theorem dL_isPlanned_294 : decode cL_isPlanned 294 = .ok (.goto 4, 3) := by decide +kernel
theorem dL_isPlanned_297 : decode cL_isPlanned 297 = .ok (.iconst 0, 1) := by decide +kernel
theorem dL_isPlanned_298 : decode cL_isPlanned 298 = .ok (.istore 10, 2) := by decide +kernel
theorem dL_isPlanned_300 : decode cL_isPlanned 300 = .ok (.iload 13, 2) := by decide +kernel
theorem dL_isPlanned_302 : decode cL_isPlanned 302 = .ok (.iconst 1, 1) := by decide +kernel
theorem dL_isPlanned_303 : decode cL_isPlanned 303 = .ok (.iload 16, 2) := by decide +kernel
theorem dL_isPlanned_305 : decode cL_isPlanned 305 = .ok (.ishl, 1) := by decide +kernel
theorem dL_isPlanned_306 : decode cL_isPlanned 306 = .ok (.iconst (-1), 1) := by decide +kernel
theorem dL_isPlanned_307 : decode cL_isPlanned 307 = .ok (.ixor, 1) := by decide +kernel
theorem dL_isPlanned_308 : decode cL_isPlanned 308 = .ok (.iand, 1) := by decide +kernel
theorem dL_isPlanned_309 : decode cL_isPlanned 309 = .ok (.istore 13, 2) := by decide +kernel
theorem dL_isPlanned_311 : decode cL_isPlanned 311 = .ok (.iload 18, 2) := by decide +kernel
theorem dL_isPlanned_313 : decode cL_isPlanned 313 = .ok (.iload 7, 2) := by decide +kernel
theorem dL_isPlanned_315 : decode cL_isPlanned 315 = .ok (.iadd, 1) := by decide +kernel
theorem dL_isPlanned_316 : decode cL_isPlanned 316 = .ok (.istore 11, 2) := by decide +kernel
theorem dL_isPlanned_318 : decode cL_isPlanned 318 = .ok (.iload 12, 2) := by decide +kernel
theorem dL_isPlanned_320 : decode cL_isPlanned 320 = .ok (.iload 18, 2) := by decide +kernel
theorem dL_isPlanned_322 : decode cL_isPlanned 322 = .ok (.iload 17, 2) := by decide +kernel
theorem dL_isPlanned_324 : decode cL_isPlanned 324 = .ok (.isub, 1) := by decide +kernel
theorem dL_isPlanned_325 : decode cL_isPlanned 325 = .ok (.iadd, 1) := by decide +kernel
theorem dL_isPlanned_326 : decode cL_isPlanned 326 = .ok (.istore 12, 2) := by decide +kernel
theorem dL_isPlanned_328 : decode cL_isPlanned 328 = .ok (.iinc 15 1, 3) := by decide +kernel
theorem dL_isPlanned_331 : decode cL_isPlanned 331 = .ok (.goto (-145), 3) := by decide +kernel
theorem dL_isPlanned_334 : decode cL_isPlanned 334 = .ok (.iload 10, 2) := by decide +kernel
theorem dL_isPlanned_336 : decode cL_isPlanned 336 = .ok (.ifCond .eq 60, 3) := by decide +kernel
theorem dL_isPlanned_339 : decode cL_isPlanned 339 = .ok (.iload 12, 2) := by decide +kernel
theorem dL_isPlanned_341 : decode cL_isPlanned 341 = .ok (.aload_n 0, 1) := by decide +kernel
theorem dL_isPlanned_342 : decode cL_isPlanned 342 = .ok (.iconst 3, 1) := by decide +kernel
theorem dL_isPlanned_343 : decode cL_isPlanned 343 = .ok (.invokevirtual 50, 3) := by decide +kernel
theorem dL_isPlanned_346 : decode cL_isPlanned 346 = .ok (.if_icmp .gt 50, 3) := by decide +kernel
theorem dL_isPlanned_349 : decode cL_isPlanned 349 = .ok (.aload_n 0, 1) := by decide +kernel
theorem dL_isPlanned_350 : decode cL_isPlanned 350 = .ok (.iload_n 3, 1) := by decide +kernel
theorem dL_isPlanned_351 : decode cL_isPlanned 351 = .ok (.iload 4, 2) := by decide +kernel
theorem dL_isPlanned_353 : decode cL_isPlanned 353 = .ok (.iconst 0, 1) := by decide +kernel
theorem dL_isPlanned_354 : decode cL_isPlanned 354 = .ok (.invokevirtual 58, 3) := by decide +kernel
theorem dL_isPlanned_357 : decode cL_isPlanned 357 = .ok (.iconst 1, 1) := by decide +kernel
theorem dL_isPlanned_358 : decode cL_isPlanned 358 = .ok (.if_icmp .ne 24, 3) := by decide +kernel
theorem dL_isPlanned_361 : decode cL_isPlanned 361 = .ok (.iload 13, 2) := by decide +kernel
theorem dL_isPlanned_363 : decode cL_isPlanned 363 = .ok (.iload 9, 2) := by decide +kernel
theorem dL_isPlanned_365 : decode cL_isPlanned 365 = .ok (.ifCond .ge 7, 3) := by decide +kernel
theorem dL_isPlanned_368 : decode cL_isPlanned 368 = .ok (.iconst 0, 1) := by decide +kernel
theorem dL_isPlanned_369 : decode cL_isPlanned 369 = .ok (.goto 7, 3) := by decide +kernel
theorem dL_isPlanned_372 : decode cL_isPlanned 372 = .ok (.iconst 1, 1) := by decide +kernel
theorem dL_isPlanned_373 : decode cL_isPlanned 373 = .ok (.iload 9, 2) := by decide +kernel
theorem dL_isPlanned_375 : decode cL_isPlanned 375 = .ok (.ishl, 1) := by decide +kernel
theorem dL_isPlanned_376 : decode cL_isPlanned 376 = .ok (.if_icmp .ne 20, 3) := by decide +kernel
theorem dL_isPlanned_379 : decode cL_isPlanned 379 = .ok (.goto 13, 3) := by decide +kernel
theorem dL_isPlanned_382 : decode cL_isPlanned 382 = .ok (.iload 8, 2) := by decide +kernel
theorem dL_isPlanned_384 : decode cL_isPlanned 384 = .ok (.ifCond .ne 12, 3) := by decide +kernel
theorem dL_isPlanned_387 : decode cL_isPlanned 387 = .ok (.iload 9, 2) := by decide +kernel
theorem dL_isPlanned_389 : decode cL_isPlanned 389 = .ok (.ifCond .ge 7, 3) := by decide +kernel
theorem dL_isPlanned_392 : decode cL_isPlanned 392 = .ok (.iconst 1, 1) := by decide +kernel
theorem dL_isPlanned_393 : decode cL_isPlanned 393 = .ok (.goto 4, 3) := by decide +kernel
theorem dL_isPlanned_396 : decode cL_isPlanned 396 = .ok (.iconst 0, 1) := by decide +kernel
theorem dL_isPlanned_397 : decode cL_isPlanned 397 = .ok (.istore 10, 2) := by decide +kernel
theorem dL_isPlanned_399 : decode cL_isPlanned 399 = .ok (.iconst 0, 1) := by decide +kernel
theorem dL_isPlanned_400 : decode cL_isPlanned 400 = .ok (.istore 15, 2) := by decide +kernel
theorem dL_isPlanned_402 : decode cL_isPlanned 402 = .ok (.iconst 0, 1) := by decide +kernel
theorem dL_isPlanned_403 : decode cL_isPlanned 403 = .ok (.istore 16, 2) := by decide +kernel
theorem dL_isPlanned_405 : decode cL_isPlanned 405 = .ok (.iload 16, 2) := by decide +kernel
theorem dL_isPlanned_407 : decode cL_isPlanned 407 = .ok (.bipush 48, 2) := by decide +kernel
theorem dL_isPlanned_409 : decode cL_isPlanned 409 = .ok (.if_icmp .ge 218, 3) := by decide +kernel
theorem dL_isPlanned_412 : decode cL_isPlanned 412 = .ok (.aload_n 0, 1) := by decide +kernel
theorem dL_isPlanned_413 : decode cL_isPlanned 413 = .ok (.iload_n 3, 1) := by decide +kernel
theorem dL_isPlanned_414 : decode cL_isPlanned 414 = .ok (.iload 4, 2) := by decide +kernel
theorem dL_isPlanned_416 : decode cL_isPlanned 416 = .ok (.iload 16, 2) := by decide +kernel
theorem dL_isPlanned_418 : decode cL_isPlanned 418 = .ok (.invokevirtual 71, 3) := by decide +kernel
theorem dL_isPlanned_421 : decode cL_isPlanned 421 = .ok (.istore 17, 2) := by decide +kernel
theorem dL_isPlanned_423 : decode cL_isPlanned 423 = .ok (.iload 15, 2) := by decide +kernel
theorem dL_isPlanned_425 : decode cL_isPlanned 425 = .ok (.iload 17, 2) := by decide +kernel
theorem dL_isPlanned_427 : decode cL_isPlanned 427 = .ok (.bipush 20, 2) := by decide +kernel
theorem dL_isPlanned_429 : decode cL_isPlanned 429 = .ok (.if_icmp .ne 7, 3) := by decide +kernel
theorem dL_isPlanned_432 : decode cL_isPlanned 432 = .ok (.iconst 1, 1) := by decide +kernel
theorem dL_isPlanned_433 : decode cL_isPlanned 433 = .ok (.goto 4, 3) := by decide +kernel
theorem dL_isPlanned_436 : decode cL_isPlanned 436 = .ok (.iconst 0, 1) := by decide +kernel
theorem dL_isPlanned_437 : decode cL_isPlanned 437 = .ok (.iadd, 1) := by decide +kernel
theorem dL_isPlanned_438 : decode cL_isPlanned 438 = .ok (.istore 15, 2) := by decide +kernel
theorem dL_isPlanned_440 : decode cL_isPlanned 440 = .ok (.iload 9, 2) := by decide +kernel
theorem dL_isPlanned_442 : decode cL_isPlanned 442 = .ok (.ifCond .lt 18, 3) := by decide +kernel
theorem dL_isPlanned_445 : decode cL_isPlanned 445 = .ok (.iload 16, 2) := by decide +kernel
theorem dL_isPlanned_447 : decode cL_isPlanned 447 = .ok (.aload_n 1, 1) := by decide +kernel
theorem dL_isPlanned_448 : decode cL_isPlanned 448 = .ok (.iload 9, 2) := by decide +kernel
theorem dL_isPlanned_450 : decode cL_isPlanned 450 = .ok (.aaload, 1) := by decide +kernel
theorem dL_isPlanned_451 : decode cL_isPlanned 451 = .ok (.iconst 1, 1) := by decide +kernel
theorem dL_isPlanned_452 : decode cL_isPlanned 452 = .ok (.iaload, 1) := by decide +kernel
theorem dL_isPlanned_453 : decode cL_isPlanned 453 = .ok (.if_icmp .lt 7, 3) := by decide +kernel
theorem dL_isPlanned_456 : decode cL_isPlanned 456 = .ok (.iconst 1, 1) := by decide +kernel
theorem dL_isPlanned_457 : decode cL_isPlanned 457 = .ok (.goto 4, 3) := by decide +kernel
theorem dL_isPlanned_460 : decode cL_isPlanned 460 = .ok (.iconst 0, 1) := by decide +kernel
theorem dL_isPlanned_461 : decode cL_isPlanned 461 = .ok (.istore 18, 2) := by decide +kernel
theorem dL_isPlanned_463 : decode cL_isPlanned 463 = .ok (.iload 16, 2) := by decide +kernel
theorem dL_isPlanned_465 : decode cL_isPlanned 465 = .ok (.iload 6, 2) := by decide +kernel
theorem dL_isPlanned_467 : decode cL_isPlanned 467 = .ok (.if_icmp .ge 8, 3) := by decide +kernel
theorem dL_isPlanned_470 : decode cL_isPlanned 470 = .ok (.iload 5, 2) := by decide +kernel
theorem dL_isPlanned_472 : decode cL_isPlanned 472 = .ok (.goto 4, 3) := by decide +kernel
theorem dL_isPlanned_475 : decode cL_isPlanned 475 = .ok (.iconst (-1), 1) := by decide +kernel
theorem dL_isPlanned_476 : decode cL_isPlanned 476 = .ok (.istore 19, 2) := by decide +kernel
theorem dL_isPlanned_478 : decode cL_isPlanned 478 = .ok (.iconst 0, 1) := by decide +kernel
theorem dL_isPlanned_479 : decode cL_isPlanned 479 = .ok (.istore 20, 2) := by decide +kernel
theorem dL_isPlanned_481 : decode cL_isPlanned 481 = .ok (.iload 20, 2) := by decide +kernel
theorem dL_isPlanned_483 : decode cL_isPlanned 483 = .ok (.iload 8, 2) := by decide +kernel
theorem dL_isPlanned_485 : decode cL_isPlanned 485 = .ok (.if_icmp .ge 98, 3) := by decide +kernel
theorem dL_isPlanned_488 : decode cL_isPlanned 488 = .ok (.aload_n 0, 1) := by decide +kernel
theorem dL_isPlanned_489 : decode cL_isPlanned 489 = .ok (.iload_n 3, 1) := by decide +kernel
theorem dL_isPlanned_490 : decode cL_isPlanned 490 = .ok (.iload 4, 2) := by decide +kernel
theorem dL_isPlanned_492 : decode cL_isPlanned 492 = .ok (.iload 20, 2) := by decide +kernel
theorem dL_isPlanned_494 : decode cL_isPlanned 494 = .ok (.iconst 0, 1) := by decide +kernel
theorem dL_isPlanned_495 : decode cL_isPlanned 495 = .ok (.invokevirtual 67, 3) := by decide +kernel
theorem dL_isPlanned_498 : decode cL_isPlanned 498 = .ok (.istore 21, 2) := by decide +kernel
theorem dL_isPlanned_500 : decode cL_isPlanned 500 = .ok (.iload 18, 2) := by decide +kernel
theorem dL_isPlanned_502 : decode cL_isPlanned 502 = .ok (.ifCond .ne 29, 3) := by decide +kernel
theorem dL_isPlanned_505 : decode cL_isPlanned 505 = .ok (.iload 16, 2) := by decide +kernel
theorem dL_isPlanned_507 : decode cL_isPlanned 507 = .ok (.aload_n 1, 1) := by decide +kernel
theorem dL_isPlanned_508 : decode cL_isPlanned 508 = .ok (.iload 21, 2) := by decide +kernel
theorem dL_isPlanned_510 : decode cL_isPlanned 510 = .ok (.aaload, 1) := by decide +kernel
theorem dL_isPlanned_511 : decode cL_isPlanned 511 = .ok (.iconst 1, 1) := by decide +kernel
theorem dL_isPlanned_512 : decode cL_isPlanned 512 = .ok (.iaload, 1) := by decide +kernel
theorem dL_isPlanned_513 : decode cL_isPlanned 513 = .ok (.if_icmp .lt 22, 3) := by decide +kernel
theorem dL_isPlanned_516 : decode cL_isPlanned 516 = .ok (.iload 16, 2) := by decide +kernel
theorem dL_isPlanned_518 : decode cL_isPlanned 518 = .ok (.aload_n 0, 1) := by decide +kernel
theorem dL_isPlanned_519 : decode cL_isPlanned 519 = .ok (.iload_n 3, 1) := by decide +kernel
theorem dL_isPlanned_520 : decode cL_isPlanned 520 = .ok (.iload 4, 2) := by decide +kernel
theorem dL_isPlanned_522 : decode cL_isPlanned 522 = .ok (.iload 20, 2) := by decide +kernel
theorem dL_isPlanned_524 : decode cL_isPlanned 524 = .ok (.iconst 1, 1) := by decide +kernel
theorem dL_isPlanned_525 : decode cL_isPlanned 525 = .ok (.invokevirtual 67, 3) := by decide +kernel
theorem dL_isPlanned_528 : decode cL_isPlanned 528 = .ok (.if_icmp .ge 7, 3) := by decide +kernel
theorem dL_isPlanned_531 : decode cL_isPlanned 531 = .ok (.iconst 1, 1) := by decide +kernel
theorem dL_isPlanned_532 : decode cL_isPlanned 532 = .ok (.goto 4, 3) := by decide +kernel
theorem dL_isPlanned_535 : decode cL_isPlanned 535 = .ok (.iconst 0, 1) := by decide +kernel
theorem dL_isPlanned_536 : decode cL_isPlanned 536 = .ok (.istore 18, 2) := by decide +kernel
theorem dL_isPlanned_538 : decode cL_isPlanned 538 = .ok (.iload 16, 2) := by decide +kernel
theorem dL_isPlanned_540 : decode cL_isPlanned 540 = .ok (.aload_n 0, 1) := by decide +kernel
theorem dL_isPlanned_541 : decode cL_isPlanned 541 = .ok (.iload_n 3, 1) := by decide +kernel
theorem dL_isPlanned_542 : decode cL_isPlanned 542 = .ok (.iload 4, 2) := by decide +kernel
theorem dL_isPlanned_544 : decode cL_isPlanned 544 = .ok (.iload 20, 2) := by decide +kernel
theorem dL_isPlanned_546 : decode cL_isPlanned 546 = .ok (.iconst 1, 1) := by decide +kernel
theorem dL_isPlanned_547 : decode cL_isPlanned 547 = .ok (.invokevirtual 67, 3) := by decide +kernel
theorem dL_isPlanned_550 : decode cL_isPlanned 550 = .ok (.if_icmp .lt 23, 3) := by decide +kernel
theorem dL_isPlanned_553 : decode cL_isPlanned 553 = .ok (.iload 16, 2) := by decide +kernel
theorem dL_isPlanned_555 : decode cL_isPlanned 555 = .ok (.aload_n 0, 1) := by decide +kernel
theorem dL_isPlanned_556 : decode cL_isPlanned 556 = .ok (.iload_n 3, 1) := by decide +kernel
theorem dL_isPlanned_557 : decode cL_isPlanned 557 = .ok (.iload 4, 2) := by decide +kernel
theorem dL_isPlanned_559 : decode cL_isPlanned 559 = .ok (.iload 20, 2) := by decide +kernel
theorem dL_isPlanned_561 : decode cL_isPlanned 561 = .ok (.iconst 2, 1) := by decide +kernel
theorem dL_isPlanned_562 : decode cL_isPlanned 562 = .ok (.invokevirtual 67, 3) := by decide +kernel
theorem dL_isPlanned_565 : decode cL_isPlanned 565 = .ok (.if_icmp .ge 8, 3) := by decide +kernel
theorem dL_isPlanned_568 : decode cL_isPlanned 568 = .ok (.iload 21, 2) := by decide +kernel
theorem dL_isPlanned_570 : decode cL_isPlanned 570 = .ok (.goto 5, 3) := by decide +kernel
theorem dL_isPlanned_573 : decode cL_isPlanned 573 = .ok (.iload 19, 2) := by decide +kernel
theorem dL_isPlanned_575 : decode cL_isPlanned 575 = .ok (.istore 19, 2) := by decide +kernel
theorem dL_isPlanned_577 : decode cL_isPlanned 577 = .ok (.iinc 20 1, 3) := by decide +kernel
theorem dL_isPlanned_580 : decode cL_isPlanned 580 = .ok (.goto (-99), 3) := by decide +kernel
theorem dL_isPlanned_583 : decode cL_isPlanned 583 = .ok (.iload 10, 2) := by decide +kernel
theorem dL_isPlanned_585 : decode cL_isPlanned 585 = .ok (.ifCond .eq 33, 3) := by decide +kernel
theorem dL_isPlanned_588 : decode cL_isPlanned 588 = .ok (.iload 17, 2) := by decide +kernel
theorem dL_isPlanned_590 : decode cL_isPlanned 590 = .ok (.iload 19, 2) := by decide +kernel
theorem dL_isPlanned_592 : decode cL_isPlanned 592 = .ok (.ifCond .lt 8, 3) := by decide +kernel
theorem dL_isPlanned_595 : decode cL_isPlanned 595 = .ok (.iload 19, 2) := by decide +kernel
theorem dL_isPlanned_597 : decode cL_isPlanned 597 = .ok (.goto 14, 3) := by decide +kernel
theorem dL_isPlanned_600 : decode cL_isPlanned 600 = .ok (.iload 18, 2) := by decide +kernel
theorem dL_isPlanned_602 : decode cL_isPlanned 602 = .ok (.ifCond .eq 8, 3) := by decide +kernel
theorem dL_isPlanned_605 : decode cL_isPlanned 605 = .ok (.bipush 20, 2) := by decide +kernel
theorem dL_isPlanned_607 : decode cL_isPlanned 607 = .ok (.goto 4, 3) := by decide +kernel
theorem dL_isPlanned_610 : decode cL_isPlanned 610 = .ok (.iconst (-1), 1) := by decide +kernel
theorem dL_isPlanned_611 : decode cL_isPlanned 611 = .ok (.if_icmp .ne 7, 3) := by decide +kernel
theorem dL_isPlanned_614 : decode cL_isPlanned 614 = .ok (.iconst 1, 1) := by decide +kernel
theorem dL_isPlanned_615 : decode cL_isPlanned 615 = .ok (.goto 4, 3) := by decide +kernel
theorem dL_isPlanned_618 : decode cL_isPlanned 618 = .ok (.iconst 0, 1) := by decide +kernel
theorem dL_isPlanned_619 : decode cL_isPlanned 619 = .ok (.istore 10, 2) := by decide +kernel
theorem dL_isPlanned_621 : decode cL_isPlanned 621 = .ok (.iinc 16 1, 3) := by decide +kernel
theorem dL_isPlanned_624 : decode cL_isPlanned 624 = .ok (.goto (-219), 3) := by decide +kernel
theorem dL_isPlanned_627 : decode cL_isPlanned 627 = .ok (.iload 10, 2) := by decide +kernel
theorem dL_isPlanned_629 : decode cL_isPlanned 629 = .ok (.ifCond .eq 20, 3) := by decide +kernel
theorem dL_isPlanned_632 : decode cL_isPlanned 632 = .ok (.iload 15, 2) := by decide +kernel
theorem dL_isPlanned_634 : decode cL_isPlanned 634 = .ok (.aload_n 0, 1) := by decide +kernel
theorem dL_isPlanned_635 : decode cL_isPlanned 635 = .ok (.iload_n 3, 1) := by decide +kernel
theorem dL_isPlanned_636 : decode cL_isPlanned 636 = .ok (.iload 4, 2) := by decide +kernel
theorem dL_isPlanned_638 : decode cL_isPlanned 638 = .ok (.iconst 1, 1) := by decide +kernel
theorem dL_isPlanned_639 : decode cL_isPlanned 639 = .ok (.invokevirtual 58, 3) := by decide +kernel
theorem dL_isPlanned_642 : decode cL_isPlanned 642 = .ok (.if_icmp .ne 7, 3) := by decide +kernel
theorem dL_isPlanned_645 : decode cL_isPlanned 645 = .ok (.iconst 1, 1) := by decide +kernel
theorem dL_isPlanned_646 : decode cL_isPlanned 646 = .ok (.goto 4, 3) := by decide +kernel
theorem dL_isPlanned_649 : decode cL_isPlanned 649 = .ok (.iconst 0, 1) := by decide +kernel
theorem dL_isPlanned_650 : decode cL_isPlanned 650 = .ok (.istore 10, 2) := by decide +kernel
theorem dL_isPlanned_652 : decode cL_isPlanned 652 = .ok (.iload 9, 2) := by decide +kernel
theorem dL_isPlanned_654 : decode cL_isPlanned 654 = .ok (.ifCond .ge 92, 3) := by decide +kernel
theorem dL_isPlanned_657 : decode cL_isPlanned 657 = .ok (.aload_n 0, 1) := by decide +kernel
theorem dL_isPlanned_658 : decode cL_isPlanned 658 = .ok (.iload_n 3, 1) := by decide +kernel
theorem dL_isPlanned_659 : decode cL_isPlanned 659 = .ok (.iload 4, 2) := by decide +kernel
theorem dL_isPlanned_661 : decode cL_isPlanned 661 = .ok (.iconst 0, 1) := by decide +kernel
theorem dL_isPlanned_662 : decode cL_isPlanned 662 = .ok (.invokevirtual 58, 3) := by decide +kernel
theorem dL_isPlanned_665 : decode cL_isPlanned 665 = .ok (.iconst 1, 1) := by decide +kernel
theorem dL_isPlanned_666 : decode cL_isPlanned 666 = .ok (.if_icmp .ne 80, 3) := by decide +kernel
theorem dL_isPlanned_669 : decode cL_isPlanned 669 = .ok (.iload 8, 2) := by decide +kernel
theorem dL_isPlanned_671 : decode cL_isPlanned 671 = .ok (.ifCond .le 75, 3) := by decide +kernel
theorem dL_isPlanned_674 : decode cL_isPlanned 674 = .ok (.iload 10, 2) := by decide +kernel
theorem dL_isPlanned_676 : decode cL_isPlanned 676 = .ok (.ifCond .eq 67, 3) := by decide +kernel
theorem dL_isPlanned_679 : decode cL_isPlanned 679 = .ok (.aload_n 0, 1) := by decide +kernel
theorem dL_isPlanned_680 : decode cL_isPlanned 680 = .ok (.iload_n 3, 1) := by decide +kernel
theorem dL_isPlanned_681 : decode cL_isPlanned 681 = .ok (.iload 4, 2) := by decide +kernel
theorem dL_isPlanned_683 : decode cL_isPlanned 683 = .ok (.invokevirtual 74, 3) := by decide +kernel
theorem dL_isPlanned_686 : decode cL_isPlanned 686 = .ok (.ifCond .le 57, 3) := by decide +kernel
theorem dL_isPlanned_689 : decode cL_isPlanned 689 = .ok (.aload_n 0, 1) := by decide +kernel
theorem dL_isPlanned_690 : decode cL_isPlanned 690 = .ok (.iload_n 3, 1) := by decide +kernel
theorem dL_isPlanned_691 : decode cL_isPlanned 691 = .ok (.iload 4, 2) := by decide +kernel
theorem dL_isPlanned_693 : decode cL_isPlanned 693 = .ok (.iconst 0, 1) := by decide +kernel
theorem dL_isPlanned_694 : decode cL_isPlanned 694 = .ok (.invokevirtual 77, 3) := by decide +kernel
theorem dL_isPlanned_697 : decode cL_isPlanned 697 = .ok (.iload 15, 2) := by decide +kernel
theorem dL_isPlanned_699 : decode cL_isPlanned 699 = .ok (.if_icmp .ne 44, 3) := by decide +kernel
theorem dL_isPlanned_702 : decode cL_isPlanned 702 = .ok (.aload_n 0, 1) := by decide +kernel
theorem dL_isPlanned_703 : decode cL_isPlanned 703 = .ok (.iload_n 3, 1) := by decide +kernel
theorem dL_isPlanned_704 : decode cL_isPlanned 704 = .ok (.iload 4, 2) := by decide +kernel
theorem dL_isPlanned_706 : decode cL_isPlanned 706 = .ok (.iconst 0, 1) := by decide +kernel
theorem dL_isPlanned_707 : decode cL_isPlanned 707 = .ok (.iconst (-1), 1) := by decide +kernel
theorem dL_isPlanned_708 : decode cL_isPlanned 708 = .ok (.invokevirtual 80, 3) := by decide +kernel
theorem dL_isPlanned_711 : decode cL_isPlanned 711 = .ok (.iload 15, 2) := by decide +kernel
theorem dL_isPlanned_713 : decode cL_isPlanned 713 = .ok (.if_icmp .ne 30, 3) := by decide +kernel
theorem dL_isPlanned_716 : decode cL_isPlanned 716 = .ok (.aload_n 0, 1) := by decide +kernel
theorem dL_isPlanned_717 : decode cL_isPlanned 717 = .ok (.iload_n 3, 1) := by decide +kernel
theorem dL_isPlanned_718 : decode cL_isPlanned 718 = .ok (.iload 4, 2) := by decide +kernel
theorem dL_isPlanned_720 : decode cL_isPlanned 720 = .ok (.iconst 1, 1) := by decide +kernel
theorem dL_isPlanned_721 : decode cL_isPlanned 721 = .ok (.invokevirtual 77, 3) := by decide +kernel
theorem dL_isPlanned_724 : decode cL_isPlanned 724 = .ok (.aload_n 0, 1) := by decide +kernel
theorem dL_isPlanned_725 : decode cL_isPlanned 725 = .ok (.iload_n 3, 1) := by decide +kernel
theorem dL_isPlanned_726 : decode cL_isPlanned 726 = .ok (.iload 4, 2) := by decide +kernel
theorem dL_isPlanned_728 : decode cL_isPlanned 728 = .ok (.iload 8, 2) := by decide +kernel
theorem dL_isPlanned_730 : decode cL_isPlanned 730 = .ok (.iconst 1, 1) := by decide +kernel
theorem dL_isPlanned_731 : decode cL_isPlanned 731 = .ok (.isub, 1) := by decide +kernel
theorem dL_isPlanned_732 : decode cL_isPlanned 732 = .ok (.iconst 2, 1) := by decide +kernel
theorem dL_isPlanned_733 : decode cL_isPlanned 733 = .ok (.invokevirtual 67, 3) := by decide +kernel
theorem dL_isPlanned_736 : decode cL_isPlanned 736 = .ok (.if_icmp .ne 7, 3) := by decide +kernel
theorem dL_isPlanned_739 : decode cL_isPlanned 739 = .ok (.iconst 1, 1) := by decide +kernel
theorem dL_isPlanned_740 : decode cL_isPlanned 740 = .ok (.goto 4, 3) := by decide +kernel
theorem dL_isPlanned_743 : decode cL_isPlanned 743 = .ok (.iconst 0, 1) := by decide +kernel
theorem dL_isPlanned_744 : decode cL_isPlanned 744 = .ok (.istore 10, 2) := by decide +kernel
theorem dL_isPlanned_746 : decode cL_isPlanned 746 = .ok (.iload 10, 2) := by decide +kernel
theorem dL_isPlanned_748 : decode cL_isPlanned 748 = .ok (.ifCond .eq 95, 3) := by decide +kernel
theorem dL_isPlanned_751 : decode cL_isPlanned 751 = .ok (.iload 9, 2) := by decide +kernel
theorem dL_isPlanned_753 : decode cL_isPlanned 753 = .ok (.ifCond .lt 13, 3) := by decide +kernel
theorem dL_isPlanned_756 : decode cL_isPlanned 756 = .ok (.aload_n 0, 1) := by decide +kernel
theorem dL_isPlanned_757 : decode cL_isPlanned 757 = .ok (.iload_n 3, 1) := by decide +kernel
theorem dL_isPlanned_758 : decode cL_isPlanned 758 = .ok (.iload 4, 2) := by decide +kernel
theorem dL_isPlanned_760 : decode cL_isPlanned 760 = .ok (.invokevirtual 74, 3) := by decide +kernel
theorem dL_isPlanned_763 : decode cL_isPlanned 763 = .ok (.ifCond .ne 80, 3) := by decide +kernel
theorem dL_isPlanned_766 : decode cL_isPlanned 766 = .ok (.aload_n 0, 1) := by decide +kernel
theorem dL_isPlanned_767 : decode cL_isPlanned 767 = .ok (.iload_n 3, 1) := by decide +kernel
theorem dL_isPlanned_768 : decode cL_isPlanned 768 = .ok (.iload 4, 2) := by decide +kernel
theorem dL_isPlanned_770 : decode cL_isPlanned 770 = .ok (.iconst 0, 1) := by decide +kernel
theorem dL_isPlanned_771 : decode cL_isPlanned 771 = .ok (.invokevirtual 58, 3) := by decide +kernel
theorem dL_isPlanned_774 : decode cL_isPlanned 774 = .ok (.iconst 1, 1) := by decide +kernel
theorem dL_isPlanned_775 : decode cL_isPlanned 775 = .ok (.if_icmp .ne 18, 3) := by decide +kernel
theorem dL_isPlanned_778 : decode cL_isPlanned 778 = .ok (.aload_n 0, 1) := by decide +kernel
theorem dL_isPlanned_779 : decode cL_isPlanned 779 = .ok (.iload_n 3, 1) := by decide +kernel
theorem dL_isPlanned_780 : decode cL_isPlanned 780 = .ok (.iload 4, 2) := by decide +kernel
theorem dL_isPlanned_782 : decode cL_isPlanned 782 = .ok (.bipush 6, 2) := by decide +kernel
theorem dL_isPlanned_784 : decode cL_isPlanned 784 = .ok (.invokevirtual 58, 3) := by decide +kernel
theorem dL_isPlanned_787 : decode cL_isPlanned 787 = .ok (.ifCond .ne 56, 3) := by decide +kernel
theorem dL_isPlanned_790 : decode cL_isPlanned 790 = .ok (.goto 49, 3) := by decide +kernel
theorem dL_isPlanned_793 : decode cL_isPlanned 793 = .ok (.aload_n 0, 1) := by decide +kernel
theorem dL_isPlanned_794 : decode cL_isPlanned 794 = .ok (.iload_n 3, 1) := by decide +kernel
theorem dL_isPlanned_795 : decode cL_isPlanned 795 = .ok (.iload 4, 2) := by decide +kernel
theorem dL_isPlanned_797 : decode cL_isPlanned 797 = .ok (.invokevirtual 74, 3) := by decide +kernel
theorem dL_isPlanned_800 : decode cL_isPlanned 800 = .ok (.ifCond .ne 43, 3) := by decide +kernel
theorem dL_isPlanned_803 : decode cL_isPlanned 803 = .ok (.aload_n 0, 1) := by decide +kernel
theorem dL_isPlanned_804 : decode cL_isPlanned 804 = .ok (.iload_n 3, 1) := by decide +kernel
theorem dL_isPlanned_805 : decode cL_isPlanned 805 = .ok (.iload 4, 2) := by decide +kernel
theorem dL_isPlanned_807 : decode cL_isPlanned 807 = .ok (.bipush 6, 2) := by decide +kernel
theorem dL_isPlanned_809 : decode cL_isPlanned 809 = .ok (.invokevirtual 58, 3) := by decide +kernel
theorem dL_isPlanned_812 : decode cL_isPlanned 812 = .ok (.iload 14, 2) := by decide +kernel
theorem dL_isPlanned_814 : decode cL_isPlanned 814 = .ok (.iand, 1) := by decide +kernel
theorem dL_isPlanned_815 : decode cL_isPlanned 815 = .ok (.aload_n 0, 1) := by decide +kernel
theorem dL_isPlanned_816 : decode cL_isPlanned 816 = .ok (.iload_n 3, 1) := by decide +kernel
theorem dL_isPlanned_817 : decode cL_isPlanned 817 = .ok (.iload 4, 2) := by decide +kernel
theorem dL_isPlanned_819 : decode cL_isPlanned 819 = .ok (.bipush 6, 2) := by decide +kernel
theorem dL_isPlanned_821 : decode cL_isPlanned 821 = .ok (.invokevirtual 58, 3) := by decide +kernel
theorem dL_isPlanned_824 : decode cL_isPlanned 824 = .ok (.if_icmp .ne 19, 3) := by decide +kernel
theorem dL_isPlanned_827 : decode cL_isPlanned 827 = .ok (.aload_n 0, 1) := by decide +kernel
theorem dL_isPlanned_828 : decode cL_isPlanned 828 = .ok (.iload_n 3, 1) := by decide +kernel
theorem dL_isPlanned_829 : decode cL_isPlanned 829 = .ok (.iload 4, 2) := by decide +kernel
theorem dL_isPlanned_831 : decode cL_isPlanned 831 = .ok (.bipush 6, 2) := by decide +kernel
theorem dL_isPlanned_833 : decode cL_isPlanned 833 = .ok (.invokevirtual 58, 3) := by decide +kernel
theorem dL_isPlanned_836 : decode cL_isPlanned 836 = .ok (.ifCond .eq 7, 3) := by decide +kernel
theorem dL_isPlanned_839 : decode cL_isPlanned 839 = .ok (.iconst 1, 1) := by decide +kernel
theorem dL_isPlanned_840 : decode cL_isPlanned 840 = .ok (.goto 4, 3) := by decide +kernel
theorem dL_isPlanned_843 : decode cL_isPlanned 843 = .ok (.iconst 0, 1) := by decide +kernel
theorem dL_isPlanned_844 : decode cL_isPlanned 844 = .ok (.ireturn, 1) := by decide +kernel
theorem dL_isClash_0 : decode cL_isClash 0 = .ok (.aload_n 0, 1) := by decide +kernel
theorem dL_isClash_1 : decode cL_isClash 1 = .ok (.iload_n 3, 1) := by decide +kernel
theorem dL_isClash_2 : decode cL_isClash 2 = .ok (.iload 4, 2) := by decide +kernel
theorem dL_isClash_4 : decode cL_isClash 4 = .ok (.bipush 6, 2) := by decide +kernel
theorem dL_isClash_6 : decode cL_isClash 6 = .ok (.invokevirtual 58, 3) := by decide +kernel
theorem dL_isClash_9 : decode cL_isClash 9 = .ok (.istore 5, 2) := by decide +kernel
theorem dL_isClash_11 : decode cL_isClash 11 = .ok (.iconst 1, 1) := by decide +kernel
theorem dL_isClash_12 : decode cL_isClash 12 = .ok (.istore 6, 2) := by decide +kernel
theorem dL_isClash_14 : decode cL_isClash 14 = .ok (.iconst 0, 1) := by decide +kernel
theorem dL_isClash_15 : decode cL_isClash 15 = .ok (.istore 7, 2) := by decide +kernel
theorem dL_isClash_17 : decode cL_isClash 17 = .ok (.iload 7, 2) := by decide +kernel
theorem dL_isClash_19 : decode cL_isClash 19 = .ok (.aload_n 1, 1) := by decide +kernel
theorem dL_isClash_20 : decode cL_isClash 20 = .ok (.arraylength, 1) := by decide +kernel
theorem dL_isClash_21 : decode cL_isClash 21 = .ok (.if_icmp .ge 50, 3) := by decide +kernel
theorem dL_isClash_24 : decode cL_isClash 24 = .ok (.aload_n 1, 1) := by decide +kernel
theorem dL_isClash_25 : decode cL_isClash 25 = .ok (.iload 7, 2) := by decide +kernel
theorem dL_isClash_27 : decode cL_isClash 27 = .ok (.aaload, 1) := by decide +kernel
theorem dL_isClash_28 : decode cL_isClash 28 = .ok (.iconst 0, 1) := by decide +kernel
theorem dL_isClash_29 : decode cL_isClash 29 = .ok (.iaload, 1) := by decide +kernel
theorem dL_isClash_30 : decode cL_isClash 30 = .ok (.iload 4, 2) := by decide +kernel
theorem dL_isClash_32 : decode cL_isClash 32 = .ok (.if_icmp .ne 33, 3) := by decide +kernel
theorem dL_isClash_35 : decode cL_isClash 35 = .ok (.aload_n 2, 1) := by decide +kernel
theorem dL_isClash_36 : decode cL_isClash 36 = .ok (.iconst 3, 1) := by decide +kernel
theorem dL_isClash_37 : decode cL_isClash 37 = .ok (.iaload, 1) := by decide +kernel
theorem dL_isClash_38 : decode cL_isClash 38 = .ok (.iconst 1, 1) := by decide +kernel
theorem dL_isClash_39 : decode cL_isClash 39 = .ok (.iload 7, 2) := by decide +kernel
theorem dL_isClash_41 : decode cL_isClash 41 = .ok (.ishl, 1) := by decide +kernel
theorem dL_isClash_42 : decode cL_isClash 42 = .ok (.iand, 1) := by decide +kernel
theorem dL_isClash_43 : decode cL_isClash 43 = .ok (.ifCond .eq 22, 3) := by decide +kernel
theorem dL_isClash_46 : decode cL_isClash 46 = .ok (.iload 5, 2) := by decide +kernel
theorem dL_isClash_48 : decode cL_isClash 48 = .ok (.iconst 1, 1) := by decide +kernel
theorem dL_isClash_49 : decode cL_isClash 49 = .ok (.iload 7, 2) := by decide +kernel
theorem dL_isClash_51 : decode cL_isClash 51 = .ok (.ishl, 1) := by decide +kernel
theorem dL_isClash_52 : decode cL_isClash 52 = .ok (.iand, 1) := by decide +kernel
theorem dL_isClash_53 : decode cL_isClash 53 = .ok (.ifCond .ne 12, 3) := by decide +kernel
theorem dL_isClash_56 : decode cL_isClash 56 = .ok (.aload_n 0, 1) := by decide +kernel
theorem dL_isClash_57 : decode cL_isClash 57 = .ok (.iload_n 3, 1) := by decide +kernel
theorem dL_isClash_58 : decode cL_isClash 58 = .ok (.iload 7, 2) := by decide +kernel
theorem dL_isClash_60 : decode cL_isClash 60 = .ok (.iconst 0, 1) := by decide +kernel
theorem dL_isClash_61 : decode cL_isClash 61 = .ok (.invokevirtual 45, 3) := by decide +kernel
theorem dL_isClash_64 : decode cL_isClash 64 = .ok (.pop, 1) := by decide +kernel
theorem dL_isClash_65 : decode cL_isClash 65 = .ok (.iinc 7 1, 3) := by decide +kernel
theorem dL_isClash_68 : decode cL_isClash 68 = .ok (.goto (-51), 3) := by decide +kernel
theorem dL_isClash_71 : decode cL_isClash 71 = .ok (.aload_n 0, 1) := by decide +kernel
theorem dL_isClash_72 : decode cL_isClash 72 = .ok (.iload_n 3, 1) := by decide +kernel
theorem dL_isClash_73 : decode cL_isClash 73 = .ok (.iload 4, 2) := by decide +kernel
theorem dL_isClash_75 : decode cL_isClash 75 = .ok (.invokevirtual 74, 3) := by decide +kernel
theorem dL_isClash_78 : decode cL_isClash 78 = .ok (.ifCond .ne 7, 3) := by decide +kernel
theorem dL_isClash_81 : decode cL_isClash 81 = .ok (.iconst 1, 1) := by decide +kernel
theorem dL_isClash_82 : decode cL_isClash 82 = .ok (.goto 4, 3) := by decide +kernel
theorem dL_isClash_85 : decode cL_isClash 85 = .ok (.iconst 0, 1) := by decide +kernel
theorem dL_isClash_86 : decode cL_isClash 86 = .ok (.istore 6, 2) := by decide +kernel
theorem dL_isClash_88 : decode cL_isClash 88 = .ok (.iconst 0, 1) := by decide +kernel
theorem dL_isClash_89 : decode cL_isClash 89 = .ok (.istore 7, 2) := by decide +kernel
theorem dL_isClash_91 : decode cL_isClash 91 = .ok (.iload 7, 2) := by decide +kernel
theorem dL_isClash_93 : decode cL_isClash 93 = .ok (.aload_n 1, 1) := by decide +kernel
theorem dL_isClash_94 : decode cL_isClash 94 = .ok (.arraylength, 1) := by decide +kernel
theorem dL_isClash_95 : decode cL_isClash 95 = .ok (.if_icmp .ge 59, 3) := by decide +kernel
theorem dL_isClash_98 : decode cL_isClash 98 = .ok (.iload 5, 2) := by decide +kernel
theorem dL_isClash_100 : decode cL_isClash 100 = .ok (.iconst 1, 1) := by decide +kernel
theorem dL_isClash_101 : decode cL_isClash 101 = .ok (.iload 7, 2) := by decide +kernel
theorem dL_isClash_103 : decode cL_isClash 103 = .ok (.ishl, 1) := by decide +kernel
theorem dL_isClash_104 : decode cL_isClash 104 = .ok (.iand, 1) := by decide +kernel
theorem dL_isClash_105 : decode cL_isClash 105 = .ok (.ifCond .eq 43, 3) := by decide +kernel
theorem dL_isClash_108 : decode cL_isClash 108 = .ok (.aload_n 0, 1) := by decide +kernel
theorem dL_isClash_109 : decode cL_isClash 109 = .ok (.iload_n 3, 1) := by decide +kernel
theorem dL_isClash_110 : decode cL_isClash 110 = .ok (.iload 7, 2) := by decide +kernel
theorem dL_isClash_112 : decode cL_isClash 112 = .ok (.iconst 0, 1) := by decide +kernel
theorem dL_isClash_113 : decode cL_isClash 113 = .ok (.invokevirtual 45, 3) := by decide +kernel
theorem dL_isClash_116 : decode cL_isClash 116 = .ok (.pop, 1) := by decide +kernel
theorem dL_isClash_117 : decode cL_isClash 117 = .ok (.iload 6, 2) := by decide +kernel
theorem dL_isClash_119 : decode cL_isClash 119 = .ok (.ifCond .eq 17, 3) := by decide +kernel
theorem dL_isClash_122 : decode cL_isClash 122 = .ok (.aload_n 0, 1) := by decide +kernel
theorem dL_isClash_123 : decode cL_isClash 123 = .ok (.iload_n 3, 1) := by decide +kernel
theorem dL_isClash_124 : decode cL_isClash 124 = .ok (.iload 4, 2) := by decide +kernel
theorem dL_isClash_126 : decode cL_isClash 126 = .ok (.invokevirtual 74, 3) := by decide +kernel
theorem dL_isClash_129 : decode cL_isClash 129 = .ok (.ifCond .le 7, 3) := by decide +kernel
theorem dL_isClash_132 : decode cL_isClash 132 = .ok (.iconst 1, 1) := by decide +kernel
theorem dL_isClash_133 : decode cL_isClash 133 = .ok (.goto 4, 3) := by decide +kernel
theorem dL_isClash_136 : decode cL_isClash 136 = .ok (.iconst 0, 1) := by decide +kernel
theorem dL_isClash_137 : decode cL_isClash 137 = .ok (.istore 6, 2) := by decide +kernel
theorem dL_isClash_139 : decode cL_isClash 139 = .ok (.aload_n 0, 1) := by decide +kernel
theorem dL_isClash_140 : decode cL_isClash 140 = .ok (.iload_n 3, 1) := by decide +kernel
theorem dL_isClash_141 : decode cL_isClash 141 = .ok (.iload 7, 2) := by decide +kernel
theorem dL_isClash_143 : decode cL_isClash 143 = .ok (.iconst 1, 1) := by decide +kernel
theorem dL_isClash_144 : decode cL_isClash 144 = .ok (.invokevirtual 45, 3) := by decide +kernel
theorem dL_isClash_147 : decode cL_isClash 147 = .ok (.pop, 1) := by decide +kernel
theorem dL_isClash_148 : decode cL_isClash 148 = .ok (.iinc 7 1, 3) := by decide +kernel
theorem dL_isClash_151 : decode cL_isClash 151 = .ok (.goto (-60), 3) := by decide +kernel
theorem dL_isClash_154 : decode cL_isClash 154 = .ok (.aload_n 0, 1) := by decide +kernel
theorem dL_isClash_155 : decode cL_isClash 155 = .ok (.invokevirtual 83, 3) := by decide +kernel
theorem dL_isClash_158 : decode cL_isClash 158 = .ok (.pop, 1) := by decide +kernel
theorem dL_isClash_159 : decode cL_isClash 159 = .ok (.iload 6, 2) := by decide +kernel
theorem dL_isClash_161 : decode cL_isClash 161 = .ok (.ireturn, 1) := by decide +kernel
theorem dL_law_0 : decode cL_law 0 = .ok (.iconst 2, 1) := by decide +kernel
theorem dL_law_1 : decode cL_law 1 = .ok (.newarray .int, 2) := by decide +kernel
theorem dL_law_3 : decode cL_law 3 = .ok (.dup, 1) := by decide +kernel
theorem dL_law_4 : decode cL_law 4 = .ok (.iconst 0, 1) := by decide +kernel
theorem dL_law_5 : decode cL_law 5 = .ok (.bipush 8, 2) := by decide +kernel
theorem dL_law_7 : decode cL_law 7 = .ok (.aload_n 0, 1) := by decide +kernel
theorem dL_law_8 : decode cL_law 8 = .ok (.iconst 0, 1) := by decide +kernel
theorem dL_law_9 : decode cL_law 9 = .ok (.bipush 33, 2) := by decide +kernel
theorem dL_law_11 : decode cL_law 11 = .ok (.invokestatic 17, 3) := by decide +kernel
theorem dL_law_14 : decode cL_law 14 = .ok (.iadd, 1) := by decide +kernel
theorem dL_law_15 : decode cL_law 15 = .ok (.iastore, 1) := by decide +kernel
theorem dL_law_16 : decode cL_law 16 = .ok (.dup, 1) := by decide +kernel
theorem dL_law_17 : decode cL_law 17 = .ok (.iconst 1, 1) := by decide +kernel
theorem dL_law_18 : decode cL_law 18 = .ok (.aload_n 0, 1) := by decide +kernel
theorem dL_law_19 : decode cL_law 19 = .ok (.iconst 1, 1) := by decide +kernel
theorem dL_law_20 : decode cL_law 20 = .ok (.bipush 9, 2) := by decide +kernel
theorem dL_law_22 : decode cL_law 22 = .ok (.invokestatic 17, 3) := by decide +kernel
theorem dL_law_25 : decode cL_law 25 = .ok (.iastore, 1) := by decide +kernel
theorem dL_law_26 : decode cL_law 26 = .ok (.astore_n 1, 1) := by decide +kernel
theorem dL_law_27 : decode cL_law 27 = .ok (.aload_n 0, 1) := by decide +kernel
theorem dL_law_28 : decode cL_law 28 = .ok (.iconst 2, 1) := by decide +kernel
theorem dL_law_29 : decode cL_law 29 = .ok (.iconst 5, 1) := by decide +kernel
theorem dL_law_30 : decode cL_law 30 = .ok (.invokestatic 17, 3) := by decide +kernel
theorem dL_law_33 : decode cL_law 33 = .ok (.istore_n 2, 1) := by decide +kernel
theorem dL_law_34 : decode cL_law 34 = .ok (.aload_n 0, 1) := by decide +kernel
theorem dL_law_35 : decode cL_law 35 = .ok (.iconst 3, 1) := by decide +kernel
theorem dL_law_36 : decode cL_law 36 = .ok (.bipush 11, 2) := by decide +kernel
theorem dL_law_38 : decode cL_law 38 = .ok (.invokestatic 17, 3) := by decide +kernel
theorem dL_law_41 : decode cL_law 41 = .ok (.istore_n 3, 1) := by decide +kernel
theorem dL_law_42 : decode cL_law 42 = .ok (.aload_n 0, 1) := by decide +kernel
theorem dL_law_43 : decode cL_law 43 = .ok (.bipush 10, 2) := by decide +kernel
theorem dL_law_45 : decode cL_law 45 = .ok (.iload_n 3, 1) := by decide +kernel
theorem dL_law_46 : decode cL_law 46 = .ok (.invokestatic 87, 3) := by decide +kernel
theorem dL_law_49 : decode cL_law 49 = .ok (.astore 4, 2) := by decide +kernel
theorem dL_law_51 : decode cL_law 51 = .ok (.aload_n 0, 1) := by decide +kernel
theorem dL_law_52 : decode cL_law 52 = .ok (.bipush 70, 2) := by decide +kernel
theorem dL_law_54 : decode cL_law 54 = .ok (.iload_n 2, 1) := by decide +kernel
theorem dL_law_55 : decode cL_law 55 = .ok (.invokestatic 91, 3) := by decide +kernel
theorem dL_law_58 : decode cL_law 58 = .ok (.astore 5, 2) := by decide +kernel
theorem dL_law_60 : decode cL_law 60 = .ok (.new 22, 3) := by decide +kernel
theorem dL_law_63 : decode cL_law 63 = .ok (.dup, 1) := by decide +kernel
theorem dL_law_64 : decode cL_law 64 = .ok (.invokespecial 94, 3) := by decide +kernel
theorem dL_law_67 : decode cL_law 67 = .ok (.astore 6, 2) := by decide +kernel
theorem dL_law_69 : decode cL_law 69 = .ok (.aload 6, 2) := by decide +kernel
theorem dL_law_71 : decode cL_law 71 = .ok (.aload_n 0, 1) := by decide +kernel
theorem dL_law_72 : decode cL_law 72 = .ok (.bipush 110, 2) := by decide +kernel
theorem dL_law_74 : decode cL_law 74 = .ok (.aload_n 1, 1) := by decide +kernel
theorem dL_law_75 : decode cL_law 75 = .ok (.aload 4, 2) := by decide +kernel
theorem dL_law_77 : decode cL_law 77 = .ok (.aload 5, 2) := by decide +kernel
theorem dL_law_79 : decode cL_law 79 = .ok (.invokestatic 95, 3) := by decide +kernel
theorem dL_law_82 : decode cL_law 82 = .ok (.ifCond .ne 5, 3) := by decide +kernel
theorem dL_law_85 : decode cL_law 85 = .ok (.iconst 0, 1) := by decide +kernel
theorem dL_law_86 : decode cL_law 86 = .ok (.ireturn, 1) := by decide +kernel
theorem dL_law_87 : decode cL_law 87 = .ok (.iconst 0, 1) := by decide +kernel
theorem dL_law_88 : decode cL_law 88 = .ok (.istore 7, 2) := by decide +kernel
theorem dL_law_90 : decode cL_law 90 = .ok (.iload 7, 2) := by decide +kernel
theorem dL_law_92 : decode cL_law 92 = .ok (.iconst 2, 1) := by decide +kernel
theorem dL_law_93 : decode cL_law 93 = .ok (.if_icmp .ge 28, 3) := by decide +kernel
theorem dL_law_96 : decode cL_law 96 = .ok (.aload 6, 2) := by decide +kernel
theorem dL_law_98 : decode cL_law 98 = .ok (.iconst 1, 1) := by decide +kernel
theorem dL_law_99 : decode cL_law 99 = .ok (.aload_n 0, 1) := by decide +kernel
theorem dL_law_100 : decode cL_law 100 = .ok (.sipush 240, 3) := by decide +kernel
theorem dL_law_103 : decode cL_law 103 = .ok (.iload 7, 2) := by decide +kernel
theorem dL_law_105 : decode cL_law 105 = .ok (.iadd, 1) := by decide +kernel
theorem dL_law_106 : decode cL_law 106 = .ok (.iconst 3, 1) := by decide +kernel
theorem dL_law_107 : decode cL_law 107 = .ok (.invokestatic 17, 3) := by decide +kernel
theorem dL_law_110 : decode cL_law 110 = .ok (.iadd, 1) := by decide +kernel
theorem dL_law_111 : decode cL_law 111 = .ok (.invokevirtual 99, 3) := by decide +kernel
theorem dL_law_114 : decode cL_law 114 = .ok (.pop, 1) := by decide +kernel
theorem dL_law_115 : decode cL_law 115 = .ok (.iinc 7 1, 3) := by decide +kernel
theorem dL_law_118 : decode cL_law 118 = .ok (.goto (-28), 3) := by decide +kernel
theorem dL_law_121 : decode cL_law 121 = .ok (.aload 6, 2) := by decide +kernel
theorem dL_law_123 : decode cL_law 123 = .ok (.invokestatic 102, 3) := by decide +kernel
theorem dL_law_126 : decode cL_law 126 = .ok (.lstore 7, 2) := by decide +kernel
theorem dL_law_128 : decode cL_law 128 = .ok (.aload 6, 2) := by decide +kernel
theorem dL_law_130 : decode cL_law 130 = .ok (.invokevirtual 106, 3) := by decide +kernel
theorem dL_law_133 : decode cL_law 133 = .ok (.pop, 1) := by decide +kernel
theorem dL_law_134 : decode cL_law 134 = .ok (.iconst 0, 1) := by decide +kernel
theorem dL_law_135 : decode cL_law 135 = .ok (.istore 9, 2) := by decide +kernel
theorem dL_law_137 : decode cL_law 137 = .ok (.iconst 0, 1) := by decide +kernel
theorem dL_law_138 : decode cL_law 138 = .ok (.istore 10, 2) := by decide +kernel
theorem dL_law_140 : decode cL_law 140 = .ok (.iload 10, 2) := by decide +kernel
theorem dL_law_142 : decode cL_law 142 = .ok (.iload_n 2, 1) := by decide +kernel
theorem dL_law_143 : decode cL_law 143 = .ok (.if_icmp .ge 424, 3) := by decide +kernel
theorem dL_law_146 : decode cL_law 146 = .ok (.iconst 0, 1) := by decide +kernel
theorem dL_law_147 : decode cL_law 147 = .ok (.istore 11, 2) := by decide +kernel
theorem dL_law_149 : decode cL_law 149 = .ok (.iconst 0, 1) := by decide +kernel
theorem dL_law_150 : decode cL_law 150 = .ok (.istore 12, 2) := by decide +kernel
theorem dL_law_152 : decode cL_law 152 = .ok (.iload 12, 2) := by decide +kernel
theorem dL_law_154 : decode cL_law 154 = .ok (.iconst 5, 1) := by decide +kernel
theorem dL_law_155 : decode cL_law 155 = .ok (.if_icmp .ge 77, 3) := by decide +kernel
theorem dL_law_158 : decode cL_law 158 = .ok (.aload 6, 2) := by decide +kernel
theorem dL_law_160 : decode cL_law 160 = .ok (.aload 4, 2) := by decide +kernel
theorem dL_law_162 : decode cL_law 162 = .ok (.aload 5, 2) := by decide +kernel
theorem dL_law_164 : decode cL_law 164 = .ok (.iload 10, 2) := by decide +kernel
theorem dL_law_166 : decode cL_law 166 = .ok (.aaload, 1) := by decide +kernel
theorem dL_law_167 : decode cL_law 167 = .ok (.iload 10, 2) := by decide +kernel
theorem dL_law_169 : decode cL_law 169 = .ok (.iload 12, 2) := by decide +kernel
theorem dL_law_171 : decode cL_law 171 = .ok (.invokestatic 109, 3) := by decide +kernel
theorem dL_law_174 : decode cL_law 174 = .ok (.ifCond .eq 35, 3) := by decide +kernel
theorem dL_law_177 : decode cL_law 177 = .ok (.aload 6, 2) := by decide +kernel
theorem dL_law_179 : decode cL_law 179 = .ok (.iload 10, 2) := by decide +kernel
theorem dL_law_181 : decode cL_law 181 = .ok (.iload 12, 2) := by decide +kernel
theorem dL_law_183 : decode cL_law 183 = .ok (.iconst 0, 1) := by decide +kernel
theorem dL_law_184 : decode cL_law 184 = .ok (.invokevirtual 58, 3) := by decide +kernel
theorem dL_law_187 : decode cL_law 187 = .ok (.ifCond .ne 24, 3) := by decide +kernel
theorem dL_law_190 : decode cL_law 190 = .ok (.aload 6, 2) := by decide +kernel
theorem dL_law_192 : decode cL_law 192 = .ok (.aload 4, 2) := by decide +kernel
theorem dL_law_194 : decode cL_law 194 = .ok (.aload 5, 2) := by decide +kernel
theorem dL_law_196 : decode cL_law 196 = .ok (.iload 10, 2) := by decide +kernel
theorem dL_law_198 : decode cL_law 198 = .ok (.aaload, 1) := by decide +kernel
theorem dL_law_199 : decode cL_law 199 = .ok (.iload 10, 2) := by decide +kernel
theorem dL_law_201 : decode cL_law 201 = .ok (.iload 12, 2) := by decide +kernel
theorem dL_law_203 : decode cL_law 203 = .ok (.invokestatic 113, 3) := by decide +kernel
theorem dL_law_206 : decode cL_law 206 = .ok (.ifCond .ne 5, 3) := by decide +kernel
theorem dL_law_209 : decode cL_law 209 = .ok (.iconst 0, 1) := by decide +kernel
theorem dL_law_210 : decode cL_law 210 = .ok (.ireturn, 1) := by decide +kernel
theorem dL_law_211 : decode cL_law 211 = .ok (.iload 11, 2) := by decide +kernel
theorem dL_law_213 : decode cL_law 213 = .ok (.aload 6, 2) := by decide +kernel
theorem dL_law_215 : decode cL_law 215 = .ok (.iload 10, 2) := by decide +kernel
theorem dL_law_217 : decode cL_law 217 = .ok (.iload 12, 2) := by decide +kernel
theorem dL_law_219 : decode cL_law 219 = .ok (.iconst 1, 1) := by decide +kernel
theorem dL_law_220 : decode cL_law 220 = .ok (.invokevirtual 58, 3) := by decide +kernel
theorem dL_law_223 : decode cL_law 223 = .ok (.iadd, 1) := by decide +kernel
theorem dL_law_224 : decode cL_law 224 = .ok (.istore 11, 2) := by decide +kernel
theorem dL_law_226 : decode cL_law 226 = .ok (.iinc 12 1, 3) := by decide +kernel
theorem dL_law_229 : decode cL_law 229 = .ok (.goto (-77), 3) := by decide +kernel
theorem dL_law_232 : decode cL_law 232 = .ok (.iload 9, 2) := by decide +kernel
theorem dL_law_234 : decode cL_law 234 = .ok (.iload 11, 2) := by decide +kernel
theorem dL_law_236 : decode cL_law 236 = .ok (.iadd, 1) := by decide +kernel
theorem dL_law_237 : decode cL_law 237 = .ok (.istore 9, 2) := by decide +kernel
theorem dL_law_239 : decode cL_law 239 = .ok (.iconst 0, 1) := by decide +kernel
theorem dL_law_240 : decode cL_law 240 = .ok (.istore 12, 2) := by decide +kernel
theorem dL_law_242 : decode cL_law 242 = .ok (.iload 12, 2) := by decide +kernel
theorem dL_law_244 : decode cL_law 244 = .ok (.iload_n 3, 1) := by decide +kernel
theorem dL_law_245 : decode cL_law 245 = .ok (.if_icmp .ge 140, 3) := by decide +kernel
theorem dL_law_248 : decode cL_law 248 = .ok (.aload 6, 2) := by decide +kernel
theorem dL_law_250 : decode cL_law 250 = .ok (.iload 10, 2) := by decide +kernel
theorem dL_law_252 : decode cL_law 252 = .ok (.iload 12, 2) := by decide +kernel
theorem dL_law_254 : decode cL_law 254 = .ok (.invokevirtual 116, 3) := by decide +kernel
theorem dL_law_257 : decode cL_law 257 = .ok (.istore 13, 2) := by decide +kernel
theorem dL_law_259 : decode cL_law 259 = .ok (.aload 6, 2) := by decide +kernel
theorem dL_law_261 : decode cL_law 261 = .ok (.iload 10, 2) := by decide +kernel
theorem dL_law_263 : decode cL_law 263 = .ok (.iconst 3, 1) := by decide +kernel
theorem dL_law_264 : decode cL_law 264 = .ok (.invokevirtual 55, 3) := by decide +kernel
theorem dL_law_267 : decode cL_law 267 = .ok (.iload 12, 2) := by decide +kernel
theorem dL_law_269 : decode cL_law 269 = .ok (.ishr, 1) := by decide +kernel
theorem dL_law_270 : decode cL_law 270 = .ok (.iconst 1, 1) := by decide +kernel
theorem dL_law_271 : decode cL_law 271 = .ok (.iand, 1) := by decide +kernel
theorem dL_law_272 : decode cL_law 272 = .ok (.istore 14, 2) := by decide +kernel
theorem dL_law_274 : decode cL_law 274 = .ok (.aload 6, 2) := by decide +kernel
theorem dL_law_276 : decode cL_law 276 = .ok (.iload 10, 2) := by decide +kernel
theorem dL_law_278 : decode cL_law 278 = .ok (.iload 12, 2) := by decide +kernel
theorem dL_law_280 : decode cL_law 280 = .ok (.iconst 1, 1) := by decide +kernel
theorem dL_law_281 : decode cL_law 281 = .ok (.iload 14, 2) := by decide +kernel
theorem dL_law_283 : decode cL_law 283 = .ok (.isub, 1) := by decide +kernel
theorem dL_law_284 : decode cL_law 284 = .ok (.invokevirtual 45, 3) := by decide +kernel
theorem dL_law_287 : decode cL_law 287 = .ok (.istore 15, 2) := by decide +kernel
theorem dL_law_289 : decode cL_law 289 = .ok (.iload 13, 2) := by decide +kernel
theorem dL_law_291 : decode cL_law 291 = .ok (.ifCond .ge 7, 3) := by decide +kernel
theorem dL_law_294 : decode cL_law 294 = .ok (.iconst 1, 1) := by decide +kernel
theorem dL_law_295 : decode cL_law 295 = .ok (.goto 4, 3) := by decide +kernel
theorem dL_law_298 : decode cL_law 298 = .ok (.iconst 0, 1) := by decide +kernel
theorem dL_law_299 : decode cL_law 299 = .ok (.iload 15, 2) := by decide +kernel
theorem dL_law_301 : decode cL_law 301 = .ok (.ifCond .ge 7, 3) := by decide +kernel
theorem dL_law_304 : decode cL_law 304 = .ok (.iconst 1, 1) := by decide +kernel
theorem dL_law_305 : decode cL_law 305 = .ok (.goto 4, 3) := by decide +kernel
theorem dL_law_308 : decode cL_law 308 = .ok (.iconst 0, 1) := by decide +kernel
theorem dL_law_309 : decode cL_law 309 = .ok (.if_icmp .ne 39, 3) := by decide +kernel
theorem dL_law_312 : decode cL_law 312 = .ok (.iload 13, 2) := by decide +kernel
theorem dL_law_314 : decode cL_law 314 = .ok (.ifCond .lt 36, 3) := by decide +kernel
theorem dL_law_317 : decode cL_law 317 = .ok (.aload 6, 2) := by decide +kernel
theorem dL_law_319 : decode cL_law 319 = .ok (.iload 10, 2) := by decide +kernel
theorem dL_law_321 : decode cL_law 321 = .ok (.iconst 5, 1) := by decide +kernel
theorem dL_law_322 : decode cL_law 322 = .ok (.invokevirtual 55, 3) := by decide +kernel
theorem dL_law_325 : decode cL_law 325 = .ok (.iload 13, 2) := by decide +kernel
theorem dL_law_327 : decode cL_law 327 = .ok (.if_icmp .ne 21, 3) := by decide +kernel
theorem dL_law_330 : decode cL_law 330 = .ok (.aload 6, 2) := by decide +kernel
theorem dL_law_332 : decode cL_law 332 = .ok (.iload 10, 2) := by decide +kernel
theorem dL_law_334 : decode cL_law 334 = .ok (.iconst 3, 1) := by decide +kernel
theorem dL_law_335 : decode cL_law 335 = .ok (.invokevirtual 55, 3) := by decide +kernel
theorem dL_law_338 : decode cL_law 338 = .ok (.aload 5, 2) := by decide +kernel
theorem dL_law_340 : decode cL_law 340 = .ok (.iload 10, 2) := by decide +kernel
theorem dL_law_342 : decode cL_law 342 = .ok (.aaload, 1) := by decide +kernel
theorem dL_law_343 : decode cL_law 343 = .ok (.iconst 3, 1) := by decide +kernel
theorem dL_law_344 : decode cL_law 344 = .ok (.iaload, 1) := by decide +kernel
theorem dL_law_345 : decode cL_law 345 = .ok (.if_icmp .ne 5, 3) := by decide +kernel
theorem dL_law_348 : decode cL_law 348 = .ok (.iconst 0, 1) := by decide +kernel
theorem dL_law_349 : decode cL_law 349 = .ok (.ireturn, 1) := by decide +kernel
theorem dL_law_350 : decode cL_law 350 = .ok (.aload 6, 2) := by decide +kernel
theorem dL_law_352 : decode cL_law 352 = .ok (.invokevirtual 83, 3) := by decide +kernel
theorem dL_law_355 : decode cL_law 355 = .ok (.pop, 1) := by decide +kernel
theorem dL_law_356 : decode cL_law 356 = .ok (.iload 13, 2) := by decide +kernel
theorem dL_law_358 : decode cL_law 358 = .ok (.ifCond .lt 21, 3) := by decide +kernel
theorem dL_law_361 : decode cL_law 361 = .ok (.aload 6, 2) := by decide +kernel
theorem dL_law_363 : decode cL_law 363 = .ok (.iload 10, 2) := by decide +kernel
theorem dL_law_365 : decode cL_law 365 = .ok (.iload 12, 2) := by decide +kernel
theorem dL_law_367 : decode cL_law 367 = .ok (.iload 12, 2) := by decide +kernel
theorem dL_law_369 : decode cL_law 369 = .ok (.invokevirtual 119, 3) := by decide +kernel
theorem dL_law_372 : decode cL_law 372 = .ok (.iload 11, 2) := by decide +kernel
theorem dL_law_374 : decode cL_law 374 = .ok (.if_icmp .eq 5, 3) := by decide +kernel
theorem dL_law_377 : decode cL_law 377 = .ok (.iconst 0, 1) := by decide +kernel
theorem dL_law_378 : decode cL_law 378 = .ok (.ireturn, 1) := by decide +kernel
theorem dL_law_379 : decode cL_law 379 = .ok (.iinc 12 1, 3) := by decide +kernel
theorem dL_law_382 : decode cL_law 382 = .ok (.goto (-140), 3) := by decide +kernel
theorem dL_law_385 : decode cL_law 385 = .ok (.aload 6, 2) := by decide +kernel
theorem dL_law_387 : decode cL_law 387 = .ok (.iload 10, 2) := by decide +kernel
theorem dL_law_389 : decode cL_law 389 = .ok (.invokevirtual 122, 3) := by decide +kernel
theorem dL_law_392 : decode cL_law 392 = .ok (.istore 12, 2) := by decide +kernel
theorem dL_law_394 : decode cL_law 394 = .ok (.iconst 0, 1) := by decide +kernel
theorem dL_law_395 : decode cL_law 395 = .ok (.istore 13, 2) := by decide +kernel
theorem dL_law_397 : decode cL_law 397 = .ok (.iload 13, 2) := by decide +kernel
theorem dL_law_399 : decode cL_law 399 = .ok (.iload_n 3, 1) := by decide +kernel
theorem dL_law_400 : decode cL_law 400 = .ok (.if_icmp .ge 67, 3) := by decide +kernel
theorem dL_law_403 : decode cL_law 403 = .ok (.aload 6, 2) := by decide +kernel
theorem dL_law_405 : decode cL_law 405 = .ok (.iload 10, 2) := by decide +kernel
theorem dL_law_407 : decode cL_law 407 = .ok (.iload 13, 2) := by decide +kernel
theorem dL_law_409 : decode cL_law 409 = .ok (.invokevirtual 116, 3) := by decide +kernel
theorem dL_law_412 : decode cL_law 412 = .ok (.istore 14, 2) := by decide +kernel
theorem dL_law_414 : decode cL_law 414 = .ok (.iload 14, 2) := by decide +kernel
theorem dL_law_416 : decode cL_law 416 = .ok (.ifCond .lt 45, 3) := by decide +kernel
theorem dL_law_419 : decode cL_law 419 = .ok (.iload 12, 2) := by decide +kernel
theorem dL_law_421 : decode cL_law 421 = .ok (.ifCond .lt 38, 3) := by decide +kernel
theorem dL_law_424 : decode cL_law 424 = .ok (.iload 14, 2) := by decide +kernel
theorem dL_law_426 : decode cL_law 426 = .ok (.aload 6, 2) := by decide +kernel
theorem dL_law_428 : decode cL_law 428 = .ok (.iload 10, 2) := by decide +kernel
theorem dL_law_430 : decode cL_law 430 = .ok (.iload 12, 2) := by decide +kernel
theorem dL_law_432 : decode cL_law 432 = .ok (.invokevirtual 116, 3) := by decide +kernel
theorem dL_law_435 : decode cL_law 435 = .ok (.if_icmp .lt 24, 3) := by decide +kernel
theorem dL_law_438 : decode cL_law 438 = .ok (.iload 14, 2) := by decide +kernel
theorem dL_law_440 : decode cL_law 440 = .ok (.aload 6, 2) := by decide +kernel
theorem dL_law_442 : decode cL_law 442 = .ok (.iload 10, 2) := by decide +kernel
theorem dL_law_444 : decode cL_law 444 = .ok (.iload 12, 2) := by decide +kernel
theorem dL_law_446 : decode cL_law 446 = .ok (.invokevirtual 116, 3) := by decide +kernel
theorem dL_law_449 : decode cL_law 449 = .ok (.if_icmp .ne 12, 3) := by decide +kernel
theorem dL_law_452 : decode cL_law 452 = .ok (.iload 13, 2) := by decide +kernel
theorem dL_law_454 : decode cL_law 454 = .ok (.iload 12, 2) := by decide +kernel
theorem dL_law_456 : decode cL_law 456 = .ok (.if_icmp .ge 5, 3) := by decide +kernel
theorem dL_law_459 : decode cL_law 459 = .ok (.iconst 0, 1) := by decide +kernel
theorem dL_law_460 : decode cL_law 460 = .ok (.ireturn, 1) := by decide +kernel
theorem dL_law_461 : decode cL_law 461 = .ok (.iinc 13 1, 3) := by decide +kernel
theorem dL_law_464 : decode cL_law 464 = .ok (.goto (-67), 3) := by decide +kernel
theorem dL_law_467 : decode cL_law 467 = .ok (.aload 6, 2) := by decide +kernel
theorem dL_law_469 : decode cL_law 469 = .ok (.iload 10, 2) := by decide +kernel
theorem dL_law_471 : decode cL_law 471 = .ok (.invokevirtual 125, 3) := by decide +kernel
theorem dL_law_474 : decode cL_law 474 = .ok (.istore 13, 2) := by decide +kernel
theorem dL_law_476 : decode cL_law 476 = .ok (.aload 6, 2) := by decide +kernel
theorem dL_law_478 : decode cL_law 478 = .ok (.iload 13, 2) := by decide +kernel
theorem dL_law_480 : decode cL_law 480 = .ok (.ifCond .ge 8, 3) := by decide +kernel
theorem dL_law_483 : decode cL_law 483 = .ok (.bipush 40, 2) := by decide +kernel
theorem dL_law_485 : decode cL_law 485 = .ok (.goto 5, 3) := by decide +kernel
theorem dL_law_488 : decode cL_law 488 = .ok (.iload 13, 2) := by decide +kernel
theorem dL_law_490 : decode cL_law 490 = .ok (.invokevirtual 21, 3) := by decide +kernel
theorem dL_law_493 : decode cL_law 493 = .ok (.pop, 1) := by decide +kernel
theorem dL_law_494 : decode cL_law 494 = .ok (.aload 6, 2) := by decide +kernel
theorem dL_law_496 : decode cL_law 496 = .ok (.iload 10, 2) := by decide +kernel
theorem dL_law_498 : decode cL_law 498 = .ok (.iconst 5, 1) := by decide +kernel
theorem dL_law_499 : decode cL_law 499 = .ok (.invokevirtual 55, 3) := by decide +kernel
theorem dL_law_502 : decode cL_law 502 = .ok (.ifCond .ne 7, 3) := by decide +kernel
theorem dL_law_505 : decode cL_law 505 = .ok (.iconst 1, 1) := by decide +kernel
theorem dL_law_506 : decode cL_law 506 = .ok (.goto 4, 3) := by decide +kernel
theorem dL_law_509 : decode cL_law 509 = .ok (.iconst 0, 1) := by decide +kernel
theorem dL_law_510 : decode cL_law 510 = .ok (.iload 13, 2) := by decide +kernel
theorem dL_law_512 : decode cL_law 512 = .ok (.ifCond .lt 7, 3) := by decide +kernel
theorem dL_law_515 : decode cL_law 515 = .ok (.iconst 1, 1) := by decide +kernel
theorem dL_law_516 : decode cL_law 516 = .ok (.goto 4, 3) := by decide +kernel
theorem dL_law_519 : decode cL_law 519 = .ok (.iconst 0, 1) := by decide +kernel
theorem dL_law_520 : decode cL_law 520 = .ok (.if_icmp .eq 5, 3) := by decide +kernel
theorem dL_law_523 : decode cL_law 523 = .ok (.iconst 0, 1) := by decide +kernel
theorem dL_law_524 : decode cL_law 524 = .ok (.ireturn, 1) := by decide +kernel
theorem dL_law_525 : decode cL_law 525 = .ok (.iload 13, 2) := by decide +kernel
theorem dL_law_527 : decode cL_law 527 = .ok (.bipush 8, 2) := by decide +kernel
theorem dL_law_529 : decode cL_law 529 = .ok (.if_icmp .le 26, 3) := by decide +kernel
theorem dL_law_532 : decode cL_law 532 = .ok (.aload 6, 2) := by decide +kernel
theorem dL_law_534 : decode cL_law 534 = .ok (.iload 13, 2) := by decide +kernel
theorem dL_law_536 : decode cL_law 536 = .ok (.iconst 1, 1) := by decide +kernel
theorem dL_law_537 : decode cL_law 537 = .ok (.isub, 1) := by decide +kernel
theorem dL_law_538 : decode cL_law 538 = .ok (.invokevirtual 21, 3) := by decide +kernel
theorem dL_law_541 : decode cL_law 541 = .ok (.pop, 1) := by decide +kernel
theorem dL_law_542 : decode cL_law 542 = .ok (.aload 6, 2) := by decide +kernel
theorem dL_law_544 : decode cL_law 544 = .ok (.iload 10, 2) := by decide +kernel
theorem dL_law_546 : decode cL_law 546 = .ok (.iconst 5, 1) := by decide +kernel
theorem dL_law_547 : decode cL_law 547 = .ok (.invokevirtual 55, 3) := by decide +kernel
theorem dL_law_550 : decode cL_law 550 = .ok (.ifCond .ne 5, 3) := by decide +kernel
theorem dL_law_553 : decode cL_law 553 = .ok (.iconst 0, 1) := by decide +kernel
theorem dL_law_554 : decode cL_law 554 = .ok (.ireturn, 1) := by decide +kernel
theorem dL_law_555 : decode cL_law 555 = .ok (.aload 6, 2) := by decide +kernel
theorem dL_law_557 : decode cL_law 557 = .ok (.invokevirtual 83, 3) := by decide +kernel
theorem dL_law_560 : decode cL_law 560 = .ok (.pop, 1) := by decide +kernel
theorem dL_law_561 : decode cL_law 561 = .ok (.iinc 10 1, 3) := by decide +kernel
theorem dL_law_564 : decode cL_law 564 = .ok (.goto (-424), 3) := by decide +kernel
theorem dL_law_567 : decode cL_law 567 = .ok (.aload 6, 2) := by decide +kernel
theorem dL_law_569 : decode cL_law 569 = .ok (.iconst 0, 1) := by decide +kernel
theorem dL_law_570 : decode cL_law 570 = .ok (.invokevirtual 128, 3) := by decide +kernel
theorem dL_law_573 : decode cL_law 573 = .ok (.istore 10, 2) := by decide +kernel
theorem dL_law_575 : decode cL_law 575 = .ok (.iconst 0, 1) := by decide +kernel
theorem dL_law_576 : decode cL_law 576 = .ok (.istore 11, 2) := by decide +kernel
theorem dL_law_578 : decode cL_law 578 = .ok (.iconst 0, 1) := by decide +kernel
theorem dL_law_579 : decode cL_law 579 = .ok (.istore 12, 2) := by decide +kernel
theorem dL_law_581 : decode cL_law 581 = .ok (.iload 12, 2) := by decide +kernel
theorem dL_law_583 : decode cL_law 583 = .ok (.iload 10, 2) := by decide +kernel
theorem dL_law_585 : decode cL_law 585 = .ok (.if_icmp .ge 119, 3) := by decide +kernel
theorem dL_law_588 : decode cL_law 588 = .ok (.iload 11, 2) := by decide +kernel
theorem dL_law_590 : decode cL_law 590 = .ok (.aload 6, 2) := by decide +kernel
theorem dL_law_592 : decode cL_law 592 = .ok (.iload 12, 2) := by decide +kernel
theorem dL_law_594 : decode cL_law 594 = .ok (.iconst 3, 1) := by decide +kernel
theorem dL_law_595 : decode cL_law 595 = .ok (.invokevirtual 131, 3) := by decide +kernel
theorem dL_law_598 : decode cL_law 598 = .ok (.iadd, 1) := by decide +kernel
theorem dL_law_599 : decode cL_law 599 = .ok (.istore 11, 2) := by decide +kernel
theorem dL_law_601 : decode cL_law 601 = .ok (.iconst 0, 1) := by decide +kernel
theorem dL_law_602 : decode cL_law 602 = .ok (.istore 13, 2) := by decide +kernel
theorem dL_law_604 : decode cL_law 604 = .ok (.iload 13, 2) := by decide +kernel
theorem dL_law_606 : decode cL_law 606 = .ok (.iload 12, 2) := by decide +kernel
theorem dL_law_608 : decode cL_law 608 = .ok (.if_icmp .ge 90, 3) := by decide +kernel
theorem dL_law_611 : decode cL_law 611 = .ok (.bipush 48, 2) := by decide +kernel
theorem dL_law_613 : decode cL_law 613 = .ok (.aload 6, 2) := by decide +kernel
theorem dL_law_615 : decode cL_law 615 = .ok (.iload 13, 2) := by decide +kernel
theorem dL_law_617 : decode cL_law 617 = .ok (.iconst 1, 1) := by decide +kernel
theorem dL_law_618 : decode cL_law 618 = .ok (.invokevirtual 131, 3) := by decide +kernel
theorem dL_law_621 : decode cL_law 621 = .ok (.imul, 1) := by decide +kernel
theorem dL_law_622 : decode cL_law 622 = .ok (.aload 6, 2) := by decide +kernel
theorem dL_law_624 : decode cL_law 624 = .ok (.iload 13, 2) := by decide +kernel
theorem dL_law_626 : decode cL_law 626 = .ok (.iconst 2, 1) := by decide +kernel
theorem dL_law_627 : decode cL_law 627 = .ok (.invokevirtual 131, 3) := by decide +kernel
theorem dL_law_630 : decode cL_law 630 = .ok (.iadd, 1) := by decide +kernel
theorem dL_law_631 : decode cL_law 631 = .ok (.aload 6, 2) := by decide +kernel
theorem dL_law_633 : decode cL_law 633 = .ok (.iload 13, 2) := by decide +kernel
theorem dL_law_635 : decode cL_law 635 = .ok (.iconst 3, 1) := by decide +kernel
theorem dL_law_636 : decode cL_law 636 = .ok (.invokevirtual 131, 3) := by decide +kernel
theorem dL_law_639 : decode cL_law 639 = .ok (.iadd, 1) := by decide +kernel
theorem dL_law_640 : decode cL_law 640 = .ok (.istore 14, 2) := by decide +kernel
theorem dL_law_642 : decode cL_law 642 = .ok (.aload 6, 2) := by decide +kernel
theorem dL_law_644 : decode cL_law 644 = .ok (.iload 12, 2) := by decide +kernel
theorem dL_law_646 : decode cL_law 646 = .ok (.iconst 4, 1) := by decide +kernel
theorem dL_law_647 : decode cL_law 647 = .ok (.invokevirtual 131, 3) := by decide +kernel
theorem dL_law_650 : decode cL_law 650 = .ok (.aload 6, 2) := by decide +kernel
theorem dL_law_652 : decode cL_law 652 = .ok (.iload 13, 2) := by decide +kernel
theorem dL_law_654 : decode cL_law 654 = .ok (.iconst 4, 1) := by decide +kernel
theorem dL_law_655 : decode cL_law 655 = .ok (.invokevirtual 131, 3) := by decide +kernel
theorem dL_law_658 : decode cL_law 658 = .ok (.if_icmp .ne 34, 3) := by decide +kernel
theorem dL_law_661 : decode cL_law 661 = .ok (.bipush 48, 2) := by decide +kernel
theorem dL_law_663 : decode cL_law 663 = .ok (.aload 6, 2) := by decide +kernel
theorem dL_law_665 : decode cL_law 665 = .ok (.iload 12, 2) := by decide +kernel
theorem dL_law_667 : decode cL_law 667 = .ok (.iconst 1, 1) := by decide +kernel
theorem dL_law_668 : decode cL_law 668 = .ok (.invokevirtual 131, 3) := by decide +kernel
theorem dL_law_671 : decode cL_law 671 = .ok (.imul, 1) := by decide +kernel
theorem dL_law_672 : decode cL_law 672 = .ok (.aload 6, 2) := by decide +kernel
theorem dL_law_674 : decode cL_law 674 = .ok (.iload 12, 2) := by decide +kernel
theorem dL_law_676 : decode cL_law 676 = .ok (.iconst 2, 1) := by decide +kernel
theorem dL_law_677 : decode cL_law 677 = .ok (.invokevirtual 131, 3) := by decide +kernel
theorem dL_law_680 : decode cL_law 680 = .ok (.iadd, 1) := by decide +kernel
theorem dL_law_681 : decode cL_law 681 = .ok (.iload 14, 2) := by decide +kernel
theorem dL_law_683 : decode cL_law 683 = .ok (.aload_n 1, 1) := by decide +kernel
theorem dL_law_684 : decode cL_law 684 = .ok (.iconst 1, 1) := by decide +kernel
theorem dL_law_685 : decode cL_law 685 = .ok (.iaload, 1) := by decide +kernel
theorem dL_law_686 : decode cL_law 686 = .ok (.iadd, 1) := by decide +kernel
theorem dL_law_687 : decode cL_law 687 = .ok (.if_icmp .ge 5, 3) := by decide +kernel
theorem dL_law_690 : decode cL_law 690 = .ok (.iconst 0, 1) := by decide +kernel
theorem dL_law_691 : decode cL_law 691 = .ok (.ireturn, 1) := by decide +kernel
theorem dL_law_692 : decode cL_law 692 = .ok (.iinc 13 1, 3) := by decide +kernel
theorem dL_law_695 : decode cL_law 695 = .ok (.goto (-91), 3) := by decide +kernel
theorem dL_law_698 : decode cL_law 698 = .ok (.iinc 12 1, 3) := by decide +kernel
theorem dL_law_701 : decode cL_law 701 = .ok (.goto (-120), 3) := by decide +kernel
theorem dL_law_704 : decode cL_law 704 = .ok (.iload 11, 2) := by decide +kernel
theorem dL_law_706 : decode cL_law 706 = .ok (.iload 9, 2) := by decide +kernel
theorem dL_law_708 : decode cL_law 708 = .ok (.if_icmp .ne 18, 3) := by decide +kernel
theorem dL_law_711 : decode cL_law 711 = .ok (.aload 6, 2) := by decide +kernel
theorem dL_law_713 : decode cL_law 713 = .ok (.iconst 1, 1) := by decide +kernel
theorem dL_law_714 : decode cL_law 714 = .ok (.invokevirtual 128, 3) := by decide +kernel
theorem dL_law_717 : decode cL_law 717 = .ok (.aload 6, 2) := by decide +kernel
theorem dL_law_719 : decode cL_law 719 = .ok (.iconst 2, 1) := by decide +kernel
theorem dL_law_720 : decode cL_law 720 = .ok (.invokevirtual 128, 3) := by decide +kernel
theorem dL_law_723 : decode cL_law 723 = .ok (.if_icmp .eq 5, 3) := by decide +kernel
theorem dL_law_726 : decode cL_law 726 = .ok (.iconst 0, 1) := by decide +kernel
theorem dL_law_727 : decode cL_law 727 = .ok (.ireturn, 1) := by decide +kernel
theorem dL_law_728 : decode cL_law 728 = .ok (.iconst 0, 1) := by decide +kernel
theorem dL_law_729 : decode cL_law 729 = .ok (.istore 12, 2) := by decide +kernel
theorem dL_law_731 : decode cL_law 731 = .ok (.iload 12, 2) := by decide +kernel
theorem dL_law_733 : decode cL_law 733 = .ok (.iload_n 2, 1) := by decide +kernel
theorem dL_law_734 : decode cL_law 734 = .ok (.if_icmp .ge 120, 3) := by decide +kernel
theorem dL_law_737 : decode cL_law 737 = .ok (.aload_n 0, 1) := by decide +kernel
theorem dL_law_738 : decode cL_law 738 = .ok (.sipush 250, 3) := by decide +kernel
theorem dL_law_741 : decode cL_law 741 = .ok (.iload 12, 2) := by decide +kernel
theorem dL_law_743 : decode cL_law 743 = .ok (.iadd, 1) := by decide +kernel
theorem dL_law_744 : decode cL_law 744 = .ok (.iconst 2, 1) := by decide +kernel
theorem dL_law_745 : decode cL_law 745 = .ok (.invokestatic 17, 3) := by decide +kernel
theorem dL_law_748 : decode cL_law 748 = .ok (.istore 13, 2) := by decide +kernel
theorem dL_law_750 : decode cL_law 750 = .ok (.aload 6, 2) := by decide +kernel
theorem dL_law_752 : decode cL_law 752 = .ok (.iload 12, 2) := by decide +kernel
theorem dL_law_754 : decode cL_law 754 = .ok (.iload 13, 2) := by decide +kernel
theorem dL_law_756 : decode cL_law 756 = .ok (.iconst 0, 1) := by decide +kernel
theorem dL_law_757 : decode cL_law 757 = .ok (.invokevirtual 134, 3) := by decide +kernel
theorem dL_law_760 : decode cL_law 760 = .ok (.istore 14, 2) := by decide +kernel
theorem dL_law_762 : decode cL_law 762 = .ok (.iconst 0, 1) := by decide +kernel
theorem dL_law_763 : decode cL_law 763 = .ok (.istore 15, 2) := by decide +kernel
theorem dL_law_765 : decode cL_law 765 = .ok (.iconst 1, 1) := by decide +kernel
theorem dL_law_766 : decode cL_law 766 = .ok (.istore 16, 2) := by decide +kernel
theorem dL_law_768 : decode cL_law 768 = .ok (.iload 16, 2) := by decide +kernel
theorem dL_law_770 : decode cL_law 770 = .ok (.iload 14, 2) := by decide +kernel
theorem dL_law_772 : decode cL_law 772 = .ok (.if_icmp .ge 46, 3) := by decide +kernel
theorem dL_law_775 : decode cL_law 775 = .ok (.iload 15, 2) := by decide +kernel
theorem dL_law_777 : decode cL_law 777 = .ok (.aload 6, 2) := by decide +kernel
theorem dL_law_779 : decode cL_law 779 = .ok (.iload 12, 2) := by decide +kernel
theorem dL_law_781 : decode cL_law 781 = .ok (.iload 13, 2) := by decide +kernel
theorem dL_law_783 : decode cL_law 783 = .ok (.iload 16, 2) := by decide +kernel
theorem dL_law_785 : decode cL_law 785 = .ok (.invokevirtual 137, 3) := by decide +kernel
theorem dL_law_788 : decode cL_law 788 = .ok (.aload 6, 2) := by decide +kernel
theorem dL_law_790 : decode cL_law 790 = .ok (.iload 12, 2) := by decide +kernel
theorem dL_law_792 : decode cL_law 792 = .ok (.iload 13, 2) := by decide +kernel
theorem dL_law_794 : decode cL_law 794 = .ok (.iload 16, 2) := by decide +kernel
theorem dL_law_796 : decode cL_law 796 = .ok (.iconst 1, 1) := by decide +kernel
theorem dL_law_797 : decode cL_law 797 = .ok (.isub, 1) := by decide +kernel
theorem dL_law_798 : decode cL_law 798 = .ok (.invokevirtual 137, 3) := by decide +kernel
theorem dL_law_801 : decode cL_law 801 = .ok (.if_icmp .eq 7, 3) := by decide +kernel
theorem dL_law_804 : decode cL_law 804 = .ok (.iconst 1, 1) := by decide +kernel
theorem dL_law_805 : decode cL_law 805 = .ok (.goto 4, 3) := by decide +kernel
theorem dL_law_808 : decode cL_law 808 = .ok (.iconst 0, 1) := by decide +kernel
theorem dL_law_809 : decode cL_law 809 = .ok (.iadd, 1) := by decide +kernel
theorem dL_law_810 : decode cL_law 810 = .ok (.istore 15, 2) := by decide +kernel
theorem dL_law_812 : decode cL_law 812 = .ok (.iinc 16 1, 3) := by decide +kernel
theorem dL_law_815 : decode cL_law 815 = .ok (.goto (-47), 3) := by decide +kernel
theorem dL_law_818 : decode cL_law 818 = .ok (.aload 6, 2) := by decide +kernel
theorem dL_law_820 : decode cL_law 820 = .ok (.iload 12, 2) := by decide +kernel
theorem dL_law_822 : decode cL_law 822 = .ok (.iload 13, 2) := by decide +kernel
theorem dL_law_824 : decode cL_law 824 = .ok (.iconst 1, 1) := by decide +kernel
theorem dL_law_825 : decode cL_law 825 = .ok (.invokevirtual 134, 3) := by decide +kernel
theorem dL_law_828 : decode cL_law 828 = .ok (.ifCond .lt 20, 3) := by decide +kernel
theorem dL_law_831 : decode cL_law 831 = .ok (.aload 6, 2) := by decide +kernel
theorem dL_law_833 : decode cL_law 833 = .ok (.iload 12, 2) := by decide +kernel
theorem dL_law_835 : decode cL_law 835 = .ok (.iload 13, 2) := by decide +kernel
theorem dL_law_837 : decode cL_law 837 = .ok (.iconst 1, 1) := by decide +kernel
theorem dL_law_838 : decode cL_law 838 = .ok (.invokevirtual 134, 3) := by decide +kernel
theorem dL_law_841 : decode cL_law 841 = .ok (.iload 15, 2) := by decide +kernel
theorem dL_law_843 : decode cL_law 843 = .ok (.if_icmp .eq 5, 3) := by decide +kernel
theorem dL_law_846 : decode cL_law 846 = .ok (.iconst 0, 1) := by decide +kernel
theorem dL_law_847 : decode cL_law 847 = .ok (.ireturn, 1) := by decide +kernel
theorem dL_law_848 : decode cL_law 848 = .ok (.iinc 12 1, 3) := by decide +kernel
theorem dL_law_851 : decode cL_law 851 = .ok (.goto (-120), 3) := by decide +kernel
theorem dL_law_854 : decode cL_law 854 = .ok (.iconst 0, 1) := by decide +kernel
theorem dL_law_855 : decode cL_law 855 = .ok (.istore 12, 2) := by decide +kernel
theorem dL_law_857 : decode cL_law 857 = .ok (.iload 12, 2) := by decide +kernel
theorem dL_law_859 : decode cL_law 859 = .ok (.bipush 48, 2) := by decide +kernel
theorem dL_law_861 : decode cL_law 861 = .ok (.if_icmp .ge 39, 3) := by decide +kernel
theorem dL_law_864 : decode cL_law 864 = .ok (.iconst 0, 1) := by decide +kernel
theorem dL_law_865 : decode cL_law 865 = .ok (.istore 13, 2) := by decide +kernel
theorem dL_law_867 : decode cL_law 867 = .ok (.iload 13, 2) := by decide +kernel
theorem dL_law_869 : decode cL_law 869 = .ok (.iconst 2, 1) := by decide +kernel
theorem dL_law_870 : decode cL_law 870 = .ok (.if_icmp .ge 24, 3) := by decide +kernel
theorem dL_law_873 : decode cL_law 873 = .ok (.aload 6, 2) := by decide +kernel
theorem dL_law_875 : decode cL_law 875 = .ok (.iload 13, 2) := by decide +kernel
theorem dL_law_877 : decode cL_law 877 = .ok (.iconst 0, 1) := by decide +kernel
theorem dL_law_878 : decode cL_law 878 = .ok (.iload 12, 2) := by decide +kernel
theorem dL_law_880 : decode cL_law 880 = .ok (.invokevirtual 140, 3) := by decide +kernel
theorem dL_law_883 : decode cL_law 883 = .ok (.ifCond .ge 5, 3) := by decide +kernel
theorem dL_law_886 : decode cL_law 886 = .ok (.iconst 0, 1) := by decide +kernel
theorem dL_law_887 : decode cL_law 887 = .ok (.ireturn, 1) := by decide +kernel
theorem dL_law_888 : decode cL_law 888 = .ok (.iinc 13 1, 3) := by decide +kernel
theorem dL_law_891 : decode cL_law 891 = .ok (.goto (-24), 3) := by decide +kernel
theorem dL_law_894 : decode cL_law 894 = .ok (.iinc 12 5, 3) := by decide +kernel
theorem dL_law_897 : decode cL_law 897 = .ok (.goto (-40), 3) := by decide +kernel
theorem dL_law_900 : decode cL_law 900 = .ok (.aload 6, 2) := by decide +kernel
theorem dL_law_902 : decode cL_law 902 = .ok (.invokestatic 102, 3) := by decide +kernel
theorem dL_law_905 : decode cL_law 905 = .ok (.lload 7, 2) := by decide +kernel
theorem dL_law_907 : decode cL_law 907 = .ok (.lcmp, 1) := by decide +kernel
theorem dL_law_908 : decode cL_law 908 = .ok (.ifCond .ne 7, 3) := by decide +kernel
theorem dL_law_911 : decode cL_law 911 = .ok (.iconst 1, 1) := by decide +kernel
theorem dL_law_912 : decode cL_law 912 = .ok (.goto 4, 3) := by decide +kernel
theorem dL_law_915 : decode cL_law 915 = .ok (.iconst 0, 1) := by decide +kernel
theorem dL_law_916 : decode cL_law 916 = .ok (.ireturn, 1) := by decide +kernel
abbrev vwCl : List vw_C := [(RX0, TX0, 14), (RX1, TX1, 10), (RX3, TX3, 14), (RX4, TX4, 1), (RX5, TX5, 9), (RX6, TX6, 3), (RX7, TX7, 5), (RX8, TX8, 9), (RX9, TX9, 4), (RX10, TX10, 14)]
