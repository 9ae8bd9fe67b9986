/-! ===== BEGIN words of one list among another's, by their places ===== -/
theorem goodIn_r {big : List Cond} (ws : List Cond) (ps : List Nat) (hp : ws = ps.filterMap (fun i => big[i]?)) (h : ws.all goodWord = true) : GoodIn big ws := by
  intro w hw
  have h1 := List.all_eq_true.mp h w hw
  rw [hp] at hw
  obtain ⟨i, -, hi⟩ := List.mem_filterMap.mp hw
  have hm : w ∈ big := by first | exact List.mem_of_getElem? hi | exact List.getElem?_mem hi
  exact ⟨hm, good_of_word h1⟩
theorem goodIn_app {big a b : List Cond} (ha : GoodIn big a) (hb : GoodIn big b) : GoodIn big (a ++ b) := fun w h => (List.mem_append.mp h).elim (ha w) (hb w)
theorem goodIn_ca {big a b : List Cond} {c : Cond} (ha : GoodIn big (c :: a)) (hb : GoodIn big b) : GoodIn big (c :: (a ++ b)) := fun w h => (List.mem_cons.mp h).elim (fun e => ha w (List.mem_cons.mpr (Or.inl e))) (fun h => (List.mem_append.mp h).elim (fun h => ha w (List.mem_cons.mpr (Or.inr h))) (hb w))
theorem goodIn_sub {big ws : List Cond} (hm : ∀ w ∈ ws, w ∈ big) (h : ws.all goodWord = true) : GoodIn big ws := fun w hw => ⟨hm w hw, good_of_word (List.all_eq_true.mp h w hw)⟩
/-! ===== END ===== -/

/-! ===== BEGIN printed: names, fields, word lists, decode rows ===== -/
def RX0 : String := "PaperBodies$Board"
def TX0 : u_T := fun k => match k with
  | _ => ("", "", "", false)
def tyX0 : Nat → FieldType := fun k => match k with
  | _ => .int
abbrev wsX00 : List Cond := u_ws RX0 TX0 0
theorem nmX0 : ∀ a, a < 0 → ∀ b, b < 0 → a ≠ b → (TX0 a).2.1 ≠ (TX0 b).2.1 := by decide +kernel
theorem tyX0_ok : ∀ k, k < 0 → parseFieldDescriptor (TX0 k).2.2.1 = some (tyX0 k) := by decide +kernel
abbrev cX0_has : ByteArray := prog_2_method_2_code
def yX0_has : MethodName := ⟨RX0, "has", "(JI)Z"⟩
abbrev cX0_least : ByteArray := prog_2_method_3_code
def yX0_least : MethodName := ⟨RX0, "least", "(J)I"⟩
abbrev cX0_beside : ByteArray := prog_2_method_4_code
def yX0_beside : MethodName := ⟨RX0, "beside", "(II)I"⟩
abbrev cX0_moved : ByteArray := prog_2_method_5_code
def yX0_moved : MethodName := ⟨RX0, "moved", "(JI)J"⟩
abbrev cX0_hangsTogether : ByteArray := prog_2_method_6_code
def yX0_hangsTogether : MethodName := ⟨RX0, "hangsTogether", "(J)Z"⟩
abbrev cX0_openEdges : ByteArray := prog_2_method_7_code
def yX0_openEdges : MethodName := ⟨RX0, "openEdges", "(J)I"⟩
abbrev cX0_isLying : ByteArray := prog_2_method_8_code
def yX0_isLying : MethodName := ⟨RX0, "isLying", "(J)Z"⟩
abbrev cX0_isStanding : ByteArray := prog_2_method_9_code
def yX0_isStanding : MethodName := ⟨RX0, "isStanding", "(J)Z"⟩
abbrev cX0_putDown : ByteArray := prog_2_method_10_code
def yX0_putDown : MethodName := ⟨RX0, "putDown", "(J)J"⟩
abbrev cX0_turned : ByteArray := prog_2_method_11_code
def yX0_turned : MethodName := ⟨RX0, "turned", "(JZ)J"⟩
abbrev cX0_areAlike : ByteArray := prog_2_method_12_code
def yX0_areAlike : MethodName := ⟨RX0, "areAlike", "(JJ)Z"⟩
def RX1 : String := "PaperBodies$Box"
def TX1 : u_T := fun k => match k with
  | 0 => ("PaperBodies$Box", "lengths", "[I", true)
  | 1 => ("PaperBodies$Box", "firstCells", "[I", true)
  | 2 => ("PaperBodies$Box", "sides", "[I", true)
  | 3 => ("PaperBodies$Box", "middles", "[I", true)
  | 4 => ("PaperBodies$Box", "leads", "[I", true)
  | 5 => ("PaperBodies$Box", "spot", "[I", true)
  | _ => ("PaperBodies$Box", "cells", "I", false)
def tyX1 : Nat → FieldType := fun k => match k with
  | 0 => .array .int
  | 1 => .array .int
  | 2 => .array .int
  | 3 => .array .int
  | 4 => .array .int
  | 5 => .array .int
  | _ => .int
abbrev wsX10 : List Cond := u_ws RX1 TX1 7
theorem nmX1 : ∀ a, a < 7 → ∀ b, b < 7 → a ≠ b → (TX1 a).2.1 ≠ (TX1 b).2.1 := by decide +kernel
theorem tyX1_ok : ∀ k, k < 7 → parseFieldDescriptor (TX1 k).2.2.1 = some (tyX1 k) := by decide +kernel
abbrev cX1_init : ByteArray := prog_3_method_1_code
def yX1_init : MethodName := ⟨RX1, "<init>", "()V"⟩
abbrev cX1_isThere : ByteArray := prog_3_method_2_code
def yX1_isThere : MethodName := ⟨RX1, "isThere", "()Z"⟩
abbrev cX1_isCube : ByteArray := prog_3_method_3_code
def yX1_isCube : MethodName := ⟨RX1, "isCube", "()Z"⟩
abbrev cX1_hasCell : ByteArray := prog_3_method_4_code
def yX1_hasCell : MethodName := ⟨RX1, "hasCell", "(I)Z"⟩
abbrev cX1_length : ByteArray := prog_3_method_5_code
def yX1_length : MethodName := ⟨RX1, "length", "(I)I"⟩
abbrev cX1_sideOf : ByteArray := prog_3_method_6_code
def yX1_sideOf : MethodName := ⟨RX1, "sideOf", "(I)I"⟩
abbrev cX1_middleOf : ByteArray := prog_3_method_7_code
def yX1_middleOf : MethodName := ⟨RX1, "middleOf", "(II)I"⟩
abbrev cX1_leadsTo : ByteArray := prog_3_method_8_code
def yX1_leadsTo : MethodName := ⟨RX1, "leadsTo", "(II)I"⟩
abbrev cX1_build : ByteArray := prog_3_method_9_code
def yX1_build : MethodName := ⟨RX1, "build", "(III)V"⟩
abbrev cX1_numberSide : ByteArray := prog_3_method_10_code
def yX1_numberSide : MethodName := ⟨RX1, "numberSide", "(I)V"⟩
abbrev cX1_endAt : ByteArray := prog_3_method_11_code
def yX1_endAt : MethodName := ⟨RX1, "endAt", "(I)I"⟩
abbrev cX1_arrivalFrom : ByteArray := prog_3_method_12_code
def yX1_arrivalFrom : MethodName := ⟨RX1, "arrivalFrom", "(II)I"⟩
abbrev cX1_cellAtSpot : ByteArray := prog_3_method_13_code
def yX1_cellAtSpot : MethodName := ⟨RX1, "cellAtSpot", "(I)I"⟩
abbrev cX1_signOf : ByteArray := prog_3_method_14_code
def yX1_signOf : MethodName := ⟨RX1, "signOf", "(I)I"⟩
abbrev cX1_directionOf : ByteArray := prog_3_method_15_code
def yX1_directionOf : MethodName := ⟨RX1, "directionOf", "(II)I"⟩
abbrev cX1_roundEdge : ByteArray := prog_3_method_16_code
def yX1_roundEdge : MethodName := ⟨RX1, "roundEdge", "(III)I"⟩
abbrev cX1_turnWithRight : ByteArray := prog_3_method_17_code
def yX1_turnWithRight : MethodName := ⟨RX1, "turnWithRight", "(II)I"⟩
abbrev cX1_digestInto : ByteArray := prog_3_method_18_code
def yX1_digestInto : MethodName := ⟨RX1, "digestInto", "(J)J"⟩
def RX2 : String := "PaperBodies$Figure"
def TX2 : u_T := fun k => match k with
  | 0 => ("PaperBodies$Figure", "kind", "I", false)
  | 1 => ("PaperBodies$Figure", "set", "J", false)
  | 2 => ("PaperBodies$Figure", "leastCell", "I", false)
  | _ => ("PaperBodies$Figure", "boxLength", "I", false)
def tyX2 : Nat → FieldType := fun k => match k with
  | 0 => .int
  | 1 => .long
  | 2 => .int
  | _ => .int
abbrev wsX20 : List Cond := u_ws RX2 TX2 4
theorem nmX2 : ∀ a, a < 4 → ∀ b, b < 4 → a ≠ b → (TX2 a).2.1 ≠ (TX2 b).2.1 := by decide +kernel
theorem tyX2_ok : ∀ k, k < 4 → parseFieldDescriptor (TX2 k).2.2.1 = some (tyX2 k) := by decide +kernel
abbrev cX2_init : ByteArray := prog_4_method_1_code
def yX2_init : MethodName := ⟨RX2, "<init>", "()V"⟩
abbrev cX2_isThere : ByteArray := prog_4_method_2_code
def yX2_isThere : MethodName := ⟨RX2, "isThere", "()Z"⟩
abbrev cX2_isOf : ByteArray := prog_4_method_3_code
def yX2_isOf : MethodName := ⟨RX2, "isOf", "(I)Z"⟩
abbrev cX2_putPlain : ByteArray := prog_4_method_4_code
def yX2_putPlain : MethodName := ⟨RX2, "putPlain", "(J)V"⟩
abbrev cX2_putNet : ByteArray := prog_4_method_5_code
def yX2_putNet : MethodName := ⟨RX2, "putNet", "(JILPaperBodies$Box;)V"⟩
abbrev cX2_takeAway : ByteArray := prog_4_method_6_code
def yX2_takeAway : MethodName := ⟨RX2, "takeAway", "()V"⟩
abbrev cX2_digestInto : ByteArray := prog_4_method_7_code
def yX2_digestInto : MethodName := ⟨RX2, "digestInto", "(J)J"⟩
def RX3 : String := "PaperBodies$Gluer"
def TX3 : u_T := fun k => match k with
  | 0 => ("PaperBodies$Gluer", "partners", "[I", true)
  | 1 => ("PaperBodies$Gluer", "together", "[I", true)
  | 2 => ("PaperBodies$Gluer", "quarters", "[I", true)
  | 3 => ("PaperBodies$Gluer", "firstPartners", "[I", true)
  | 4 => ("PaperBodies$Gluer", "firstCorners", "[I", true)
  | 5 => ("PaperBodies$Gluer", "keptPartners", "[I", true)
  | 6 => ("PaperBodies$Gluer", "keptCorners", "[I", true)
  | 7 => ("PaperBodies$Gluer", "edges", "I", false)
  | 8 => ("PaperBodies$Gluer", "keptEdges", "I", false)
  | 9 => ("PaperBodies$Gluer", "legalOnes", "I", false)
  | 10 => ("PaperBodies$Gluer", "triesMade", "I", false)
  | 11 => ("PaperBodies$Gluer", "mostTries", "I", false)
  | _ => ("PaperBodies$Gluer", "spent", "Z", false)
def tyX3 : Nat → FieldType := fun k => match k with
  | 0 => .array .int
  | 1 => .array .int
  | 2 => .array .int
  | 3 => .array .int
  | 4 => .array .int
  | 5 => .array .int
  | 6 => .array .int
  | 7 => .int
  | 8 => .int
  | 9 => .int
  | 10 => .int
  | 11 => .int
  | _ => .boolean
abbrev wsX30 : List Cond := u_ws RX3 TX3 13
theorem nmX3 : ∀ a, a < 13 → ∀ b, b < 13 → a ≠ b → (TX3 a).2.1 ≠ (TX3 b).2.1 := by decide +kernel
theorem tyX3_ok : ∀ k, k < 13 → parseFieldDescriptor (TX3 k).2.2.1 = some (tyX3 k) := by decide +kernel
abbrev cX3_init : ByteArray := prog_5_method_1_code
def yX3_init : MethodName := ⟨RX3, "<init>", "()V"⟩
abbrev cX3_toldPartner : ByteArray := prog_5_method_2_code
def yX3_toldPartner : MethodName := ⟨RX3, "toldPartner", "(I)I"⟩
abbrev cX3_toldCorners : ByteArray := prog_5_method_3_code
def yX3_toldCorners : MethodName := ⟨RX3, "toldCorners", "(I)I"⟩
abbrev cX3_seek : ByteArray := prog_5_method_4_code
def yX3_seek : MethodName := ⟨RX3, "seek", "(LPaperBodies$Rim;I)Z"⟩
abbrev cX3_keepFirst : ByteArray := prog_5_method_5_code
def yX3_keepFirst : MethodName := ⟨RX3, "keepFirst", "()V"⟩
abbrev cX3_pairFrom : ByteArray := prog_5_method_6_code
def yX3_pairFrom : MethodName := ⟨RX3, "pairFrom", "(LPaperBodies$Gluer;LPaperBodies$Rim;II)V"⟩
abbrev cX3_isFree : ByteArray := prog_5_method_7_code
def yX3_isFree : MethodName := ⟨RX3, "isFree", "(I)Z"⟩
abbrev cX3_countTry : ByteArray := prog_5_method_8_code
def yX3_countTry : MethodName := ⟨RX3, "countTry", "()Z"⟩
abbrev cX3_judge : ByteArray := prog_5_method_9_code
def yX3_judge : MethodName := ⟨RX3, "judge", "(LPaperBodies$Rim;)V"⟩
abbrev cX3_gatherCorners : ByteArray := prog_5_method_10_code
def yX3_gatherCorners : MethodName := ⟨RX3, "gatherCorners", "(LPaperBodies$Rim;)V"⟩
abbrev cX3_isLegal : ByteArray := prog_5_method_11_code
def yX3_isLegal : MethodName := ⟨RX3, "isLegal", "()Z"⟩
abbrev cX3_cornersInAll : ByteArray := prog_5_method_12_code
def yX3_cornersInAll : MethodName := ⟨RX3, "cornersInAll", "()I"⟩
abbrev cX3_cornersWith : ByteArray := prog_5_method_13_code
def yX3_cornersWith : MethodName := ⟨RX3, "cornersWith", "(I)I"⟩
abbrev cX3_take : ByteArray := prog_5_method_14_code
def yX3_take : MethodName := ⟨RX3, "take", "(LPaperBodies$Row;I)Z"⟩
abbrev cX3_isPaired : ByteArray := prog_5_method_15_code
def yX3_isPaired : MethodName := ⟨RX3, "isPaired", "(I)Z"⟩
abbrev cX3_holdsItsOwn : ByteArray := prog_5_method_16_code
def yX3_holdsItsOwn : MethodName := ⟨RX3, "holdsItsOwn", "(I)Z"⟩
def RX4 : String := "PaperBodies$Rim"
def TX4 : u_T := fun k => match k with
  | 0 => ("PaperBodies$Rim", "ways", "[I", true)
  | 1 => ("PaperBodies$Rim", "angles", "[I", true)
  | 2 => ("PaperBodies$Rim", "beside", "[I", true)
  | _ => ("PaperBodies$Rim", "length", "I", false)
def tyX4 : Nat → FieldType := fun k => match k with
  | 0 => .array .int
  | 1 => .array .int
  | 2 => .array .int
  | _ => .int
abbrev wsX40 : List Cond := u_ws RX4 TX4 4
theorem nmX4 : ∀ a, a < 4 → ∀ b, b < 4 → a ≠ b → (TX4 a).2.1 ≠ (TX4 b).2.1 := by decide +kernel
theorem tyX4_ok : ∀ k, k < 4 → parseFieldDescriptor (TX4 k).2.2.1 = some (tyX4 k) := by decide +kernel
abbrev cX4_init : ByteArray := prog_6_method_1_code
def yX4_init : MethodName := ⟨RX4, "<init>", "()V"⟩
abbrev cX4_walk : ByteArray := prog_6_method_2_code
def yX4_walk : MethodName := ⟨RX4, "walk", "(J)Z"⟩
abbrev cX4_hasEdge : ByteArray := prog_6_method_3_code
def yX4_hasEdge : MethodName := ⟨RX4, "hasEdge", "(I)Z"⟩
abbrev cX4_tellEdge : ByteArray := prog_6_method_4_code
def yX4_tellEdge : MethodName := ⟨RX4, "tellEdge", "(II)I"⟩
abbrev cX4_angleAt : ByteArray := prog_6_method_5_code
def yX4_angleAt : MethodName := ⟨RX4, "angleAt", "(I)I"⟩
abbrev cX4_sumOfAngles : ByteArray := prog_6_method_6_code
def yX4_sumOfAngles : MethodName := ⟨RX4, "sumOfAngles", "()I"⟩
def RX5 : String := "PaperBodies$Row"
def TX5 : u_T := fun k => match k with
  | 0 => ("PaperBodies$Row", "places", "[I", true)
  | _ => ("PaperBodies$Row", "size", "I", false)
def tyX5 : Nat → FieldType := fun k => match k with
  | 0 => .array .int
  | _ => .int
abbrev wsX50 : List Cond := u_ws RX5 TX5 2
theorem nmX5 : ∀ a, a < 2 → ∀ b, b < 2 → a ≠ b → (TX5 a).2.1 ≠ (TX5 b).2.1 := by decide +kernel
theorem tyX5_ok : ∀ k, k < 2 → parseFieldDescriptor (TX5 k).2.2.1 = some (tyX5 k) := by decide +kernel
abbrev cX5_init : ByteArray := prog_7_method_1_code
def yX5_init : MethodName := ⟨RX5, "<init>", "()V"⟩
abbrev cX5_isThere : ByteArray := prog_7_method_2_code
def yX5_isThere : MethodName := ⟨RX5, "isThere", "()Z"⟩
abbrev cX5_hasPlace : ByteArray := prog_7_method_3_code
def yX5_hasPlace : MethodName := ⟨RX5, "hasPlace", "(I)Z"⟩
abbrev cX5_hasPlaces : ByteArray := prog_7_method_4_code
def yX5_hasPlaces : MethodName := ⟨RX5, "hasPlaces", "(II)Z"⟩
abbrev cX5_begin : ByteArray := prog_7_method_5_code
def yX5_begin : MethodName := ⟨RX5, "begin", "(I)V"⟩
abbrev cX5_takeAway : ByteArray := prog_7_method_6_code
def yX5_takeAway : MethodName := ⟨RX5, "takeAway", "()V"⟩
abbrev cX5_sum : ByteArray := prog_7_method_7_code
def yX5_sum : MethodName := ⟨RX5, "sum", "()J"⟩
abbrev cX5_digestInto : ByteArray := prog_7_method_8_code
def yX5_digestInto : MethodName := ⟨RX5, "digestInto", "(J)J"⟩
def RX6 : String := "PaperBodies$Sheet"
def TX6 : u_T := fun k => match k with
  | 0 => ("PaperBodies$Sheet", "frames", "[I", true)
  | 1 => ("PaperBodies$Sheet", "order", "[I", true)
  | 2 => ("PaperBodies$Sheet", "laid", "I", false)
  | 3 => ("PaperBodies$Sheet", "coveredCells", "I", false)
  | _ => ("PaperBodies$Sheet", "set", "J", false)
def tyX6 : Nat → FieldType := fun k => match k with
  | 0 => .array .int
  | 1 => .array .int
  | 2 => .int
  | 3 => .int
  | _ => .long
abbrev wsX60 : List Cond := u_ws RX6 TX6 5
theorem nmX6 : ∀ a, a < 5 → ∀ b, b < 5 → a ≠ b → (TX6 a).2.1 ≠ (TX6 b).2.1 := by decide +kernel
theorem tyX6_ok : ∀ k, k < 5 → parseFieldDescriptor (TX6 k).2.2.1 = some (tyX6 k) := by decide +kernel
abbrev cX6_init : ByteArray := prog_8_method_1_code
def yX6_init : MethodName := ⟨RX6, "<init>", "()V"⟩
abbrev cX6_frameAt : ByteArray := prog_8_method_2_code
def yX6_frameAt : MethodName := ⟨RX6, "frameAt", "(I)I"⟩
abbrev cX6_isWhole : ByteArray := prog_8_method_3_code
def yX6_isWhole : MethodName := ⟨RX6, "isWhole", "(LPaperBodies$Box;JI)Z"⟩
abbrev cX6_fold : ByteArray := prog_8_method_4_code
def yX6_fold : MethodName := ⟨RX6, "fold", "(LPaperBodies$Box;JI)Z"⟩
abbrev cX6_foldRound : ByteArray := prog_8_method_5_code
def yX6_foldRound : MethodName := ⟨RX6, "foldRound", "(LPaperBodies$Box;JI)Z"⟩
abbrev cX6_layOutFrom : ByteArray := prog_8_method_6_code
def yX6_layOutFrom : MethodName := ⟨RX6, "layOutFrom", "(LPaperBodies$Box;IILPaperBodies$Row;)Z"⟩
abbrev cX6_layRound : ByteArray := prog_8_method_7_code
def yX6_layRound : MethodName := ⟨RX6, "layRound", "(LPaperBodies$Box;ILPaperBodies$Row;)Z"⟩
abbrev cX6_clear : ByteArray := prog_8_method_8_code
def yX6_clear : MethodName := ⟨RX6, "clear", "()V"⟩
abbrev cX6_covers : ByteArray := prog_8_method_9_code
def yX6_covers : MethodName := ⟨RX6, "covers", "(I)Z"⟩
abbrev cX6_put : ByteArray := prog_8_method_10_code
def yX6_put : MethodName := ⟨RX6, "put", "(II)Z"⟩
def RX7 : String := "PaperBodies$Unfolding"
def TX7 : u_T := fun k => match k with
  | _ => ("PaperBodies$Unfolding", "spots", "[I", true)
def tyX7 : Nat → FieldType := fun k => match k with
  | _ => .array .int
abbrev wsX70 : List Cond := u_ws RX7 TX7 1
theorem nmX7 : ∀ a, a < 1 → ∀ b, b < 1 → a ≠ b → (TX7 a).2.1 ≠ (TX7 b).2.1 := by decide +kernel
theorem tyX7_ok : ∀ k, k < 1 → parseFieldDescriptor (TX7 k).2.2.1 = some (tyX7 k) := by decide +kernel
abbrev cX7_init : ByteArray := prog_9_method_1_code
def yX7_init : MethodName := ⟨RX7, "<init>", "()V"⟩
abbrev cX7_shortest : ByteArray := prog_9_method_2_code
def yX7_shortest : MethodName := ⟨RX7, "shortest", "(LPaperBodies$Box;II)I"⟩
abbrev cX7_shortestFrom : ByteArray := prog_9_method_3_code
def yX7_shortestFrom : MethodName := ⟨RX7, "shortestFrom", "(LPaperBodies$Box;[IIIII)I"⟩
abbrev cX7_unfold : ByteArray := prog_9_method_4_code
def yX7_unfold : MethodName := ⟨RX7, "unfold", "(LPaperBodies$Box;[IIII)V"⟩
abbrev cX7_lengthTo : ByteArray := prog_9_method_5_code
def yX7_lengthTo : MethodName := ⟨RX7, "lengthTo", "(LPaperBodies$Box;[III)I"⟩
def RX8 : String := "PaperBodies"
def TX8 : u_T := fun k => match k with
  | 0 => ("PaperBodies", "figures", "[LPaperBodies$Figure;", true)
  | 1 => ("PaperBodies", "boxes", "[LPaperBodies$Box;", true)
  | 2 => ("PaperBodies", "rows", "[LPaperBodies$Row;", true)
  | 3 => ("PaperBodies", "allWays", "LPaperBodies$Row;", true)
  | 4 => ("PaperBodies", "folded", "LPaperBodies$Sheet;", true)
  | 5 => ("PaperBodies", "laidOut", "LPaperBodies$Sheet;", true)
  | 6 => ("PaperBodies", "unfolding", "LPaperBodies$Unfolding;", true)
  | 7 => ("PaperBodies", "walked", "LPaperBodies$Rim;", true)
  | 8 => ("PaperBodies", "gluer", "LPaperBodies$Gluer;", true)
  | 9 => ("PaperBodies", "timesFound", "[I", true)
  | 10 => ("PaperBodies", "latestFinding", "I", false)
  | _ => ("PaperBodies", "latestTold", "J", false)
def tyX8 : Nat → FieldType := fun k => match k with
  | 0 => .array (.object "PaperBodies$Figure")
  | 1 => .array (.object "PaperBodies$Box")
  | 2 => .array (.object "PaperBodies$Row")
  | 3 => .object "PaperBodies$Row"
  | 4 => .object "PaperBodies$Sheet"
  | 5 => .object "PaperBodies$Sheet"
  | 6 => .object "PaperBodies$Unfolding"
  | 7 => .object "PaperBodies$Rim"
  | 8 => .object "PaperBodies$Gluer"
  | 9 => .array .int
  | 10 => .int
  | _ => .long
abbrev wsX80 : List Cond := u_ws RX8 TX8 12
theorem nmX8 : ∀ a, a < 12 → ∀ b, b < 12 → a ≠ b → (TX8 a).2.1 ≠ (TX8 b).2.1 := by decide +kernel
theorem tyX8_ok : ∀ k, k < 12 → parseFieldDescriptor (TX8 k).2.2.1 = some (tyX8 k) := by decide +kernel
abbrev cX8_init : ByteArray := prog_1_method_1_code
def yX8_init : MethodName := ⟨RX8, "<init>", "()V"⟩
abbrev cX8_figure : ByteArray := prog_1_method_2_code
def yX8_figure : MethodName := ⟨RX8, "figure", "(IJ)I"⟩
abbrev cX8_drop : ByteArray := prog_1_method_3_code
def yX8_drop : MethodName := ⟨RX8, "drop", "(I)I"⟩
abbrev cX8_box : ByteArray := prog_1_method_4_code
def yX8_box : MethodName := ⟨RX8, "box", "(IIII)I"⟩
abbrev cX8_told : ByteArray := prog_1_method_5_code
def yX8_told : MethodName := ⟨RX8, "told", "(II)I"⟩
abbrev cX8_mark : ByteArray := prog_1_method_6_code
def yX8_mark : MethodName := ⟨RX8, "mark", "(II)I"⟩
abbrev cX8_squares : ByteArray := prog_1_method_7_code
def yX8_squares : MethodName := ⟨RX8, "squares", "(I)I"⟩
abbrev cX8_turn : ByteArray := prog_1_method_8_code
def yX8_turn : MethodName := ⟨RX8, "turn", "(IZI)I"⟩
abbrev cX8_alike : ByteArray := prog_1_method_9_code
def yX8_alike : MethodName := ⟨RX8, "alike", "(II)I"⟩
abbrev cX8_cell : ByteArray := prog_1_method_10_code
def yX8_cell : MethodName := ⟨RX8, "cell", "(III)I"⟩
abbrev cX8_next : ByteArray := prog_1_method_11_code
def yX8_next : MethodName := ⟨RX8, "next", "(IIII)I"⟩
abbrev cX8_folds : ByteArray := prog_1_method_12_code
def yX8_folds : MethodName := ⟨RX8, "folds", "(IIII)I"⟩
abbrev cX8_lies : ByteArray := prog_1_method_13_code
def yX8_lies : MethodName := ⟨RX8, "lies", "(IIIII)I"⟩
abbrev cX8_wholes : ByteArray := prog_1_method_14_code
def yX8_wholes : MethodName := ⟨RX8, "wholes", "(II)I"⟩
abbrev cX8_layOut : ByteArray := prog_1_method_15_code
def yX8_layOut : MethodName := ⟨RX8, "layOut", "(IIII)I"⟩
abbrev cX8_layOutBy : ByteArray := prog_1_method_16_code
def yX8_layOutBy : MethodName := ⟨RX8, "layOutBy", "(IIIII)I"⟩
abbrev cX8_way : ByteArray := prog_1_method_17_code
def yX8_way : MethodName := ⟨RX8, "way", "(III)I"⟩
abbrev cX8_farthest : ByteArray := prog_1_method_18_code
def yX8_farthest : MethodName := ⟨RX8, "farthest", "(II)I"⟩
abbrev cX8_mean : ByteArray := prog_1_method_19_code
def yX8_mean : MethodName := ⟨RX8, "mean", "(II)I"⟩
abbrev cX8_rim : ByteArray := prog_1_method_20_code
def yX8_rim : MethodName := ⟨RX8, "rim", "(I)I"⟩
abbrev cX8_edge : ByteArray := prog_1_method_21_code
def yX8_edge : MethodName := ⟨RX8, "edge", "(III)I"⟩
abbrev cX8_gluings : ByteArray := prog_1_method_22_code
def yX8_gluings : MethodName := ⟨RX8, "gluings", "(II)I"⟩
abbrev cX8_glued : ByteArray := prog_1_method_23_code
def yX8_glued : MethodName := ⟨RX8, "glued", "(I)I"⟩
abbrev cX8_corners : ByteArray := prog_1_method_24_code
def yX8_corners : MethodName := ⟨RX8, "corners", "(I)I"⟩
abbrev cX8_glue : ByteArray := prog_1_method_25_code
def yX8_glue : MethodName := ⟨RX8, "glue", "(II)I"⟩
abbrev cX8_tries : ByteArray := prog_1_method_26_code
def yX8_tries : MethodName := ⟨RX8, "tries", "()I"⟩
abbrev cX8_meanAngle : ByteArray := prog_1_method_27_code
def yX8_meanAngle : MethodName := ⟨RX8, "meanAngle", "(I)I"⟩
abbrev cX8_row : ByteArray := prog_1_method_28_code
def yX8_row : MethodName := ⟨RX8, "row", "(II)I"⟩
abbrev cX8_lay : ByteArray := prog_1_method_29_code
def yX8_lay : MethodName := ⟨RX8, "lay", "(III)I"⟩
abbrev cX8_tear : ByteArray := prog_1_method_30_code
def yX8_tear : MethodName := ⟨RX8, "tear", "(I)I"⟩
abbrev cX8_copy : ByteArray := prog_1_method_31_code
def yX8_copy : MethodName := ⟨RX8, "copy", "(IIIII)I"⟩
abbrev cX8_meanRow : ByteArray := prog_1_method_32_code
def yX8_meanRow : MethodName := ⟨RX8, "meanRow", "(I)I"⟩
abbrev cX8_asked : ByteArray := prog_1_method_33_code
def yX8_asked : MethodName := ⟨RX8, "asked", "()J"⟩
abbrev cX8_count : ByteArray := prog_1_method_34_code
def yX8_count : MethodName := ⟨RX8, "count", "(I)I"⟩
abbrev cX8_finding : ByteArray := prog_1_method_35_code
def yX8_finding : MethodName := ⟨RX8, "finding", "()I"⟩
abbrev cX8_findings : ByteArray := prog_1_method_36_code
def yX8_findings : MethodName := ⟨RX8, "findings", "(I)I"⟩
abbrev cX8_digest : ByteArray := prog_1_method_37_code
def yX8_digest : MethodName := ⟨RX8, "digest", "()J"⟩
abbrev cX8_within : ByteArray := prog_1_method_38_code
def yX8_within : MethodName := ⟨RX8, "within", "(III)Z"⟩
abbrev cX8_isFigure : ByteArray := prog_1_method_39_code
def yX8_isFigure : MethodName := ⟨RX8, "isFigure", "(I)Z"⟩
abbrev cX8_isBox : ByteArray := prog_1_method_40_code
def yX8_isBox : MethodName := ⟨RX8, "isBox", "(I)Z"⟩
abbrev cX8_isRow : ByteArray := prog_1_method_41_code
def yX8_isRow : MethodName := ⟨RX8, "isRow", "(I)Z"⟩
abbrev cX8_isLength : ByteArray := prog_1_method_42_code
def yX8_isLength : MethodName := ⟨RX8, "isLength", "(I)Z"⟩
abbrev cX8_isQuarter : ByteArray := prog_1_method_43_code
def yX8_isQuarter : MethodName := ⟨RX8, "isQuarter", "(I)Z"⟩
abbrev cX8_isSquare : ByteArray := prog_1_method_44_code
def yX8_isSquare : MethodName := ⟨RX8, "isSquare", "(I)Z"⟩
abbrev cX8_frameOf : ByteArray := prog_1_method_45_code
def yX8_frameOf : MethodName := ⟨RX8, "frameOf", "(II)I"⟩
abbrev cX8_refuse : ByteArray := prog_1_method_46_code
def yX8_refuse : MethodName := ⟨RX8, "refuse", "(I)I"⟩
abbrev cX8_missingCell : ByteArray := prog_1_method_47_code
def yX8_missingCell : MethodName := ⟨RX8, "missingCell", "(LPaperBodies$Box;I)I"⟩
abbrev cX8_missingToFold : ByteArray := prog_1_method_48_code
def yX8_missingToFold : MethodName := ⟨RX8, "missingToFold", "(III)I"⟩
abbrev cX8_layOutTo : ByteArray := prog_1_method_49_code
def yX8_layOutTo : MethodName := ⟨RX8, "layOutTo", "(LPaperBodies$Figure;LPaperBodies$Box;IILPaperBodies$Row;)I"⟩
abbrev cX8_figuresThere : ByteArray := prog_1_method_50_code
def yX8_figuresThere : MethodName := ⟨RX8, "figuresThere", "()I"⟩
abbrev cX8_squaresInAll : ByteArray := prog_1_method_51_code
def yX8_squaresInAll : MethodName := ⟨RX8, "squaresInAll", "()I"⟩
abbrev cX8_boxesThere : ByteArray := prog_1_method_52_code
def yX8_boxesThere : MethodName := ⟨RX8, "boxesThere", "()I"⟩
abbrev cX8_cellsInAll : ByteArray := prog_1_method_53_code
def yX8_cellsInAll : MethodName := ⟨RX8, "cellsInAll", "()I"⟩
abbrev cX8_rowsThere : ByteArray := prog_1_method_54_code
def yX8_rowsThere : MethodName := ⟨RX8, "rowsThere", "()I"⟩
def RX9 : String := "PaperBodiesModel"
def TX9 : u_T := fun k => match k with
  | 0 => ("PaperBodiesModel", "finding", "I", false)
  | 1 => ("PaperBodiesModel", "findings", "[I", true)
  | 2 => ("PaperBodiesModel", "asked", "J", false)
  | 3 => ("PaperBodiesModel", "figures", "[J", true)
  | 4 => ("PaperBodiesModel", "kinds", "[I", true)
  | 5 => ("PaperBodiesModel", "marks", "[I", true)
  | 6 => ("PaperBodiesModel", "ends", "[I", true)
  | 7 => ("PaperBodiesModel", "dims", "[I", true)
  | 8 => ("PaperBodiesModel", "side", "I", false)
  | 9 => ("PaperBodiesModel", "at", "[I", true)
  | 10 => ("PaperBodiesModel", "right", "I", false)
  | 11 => ("PaperBodiesModel", "up", "I", false)
  | 12 => ("PaperBodiesModel", "onCell", "[I", true)
  | 13 => ("PaperBodiesModel", "onTurn", "[I", true)
  | 14 => ("PaperBodiesModel", "queue", "[I", true)
  | 15 => ("PaperBodiesModel", "laidAt", "[I", true)
  | 16 => ("PaperBodiesModel", "laidTurn", "[I", true)
  | 17 => ("PaperBodiesModel", "sideRow", "[I", true)
  | 18 => ("PaperBodiesModel", "rightRow", "[I", true)
  | 19 => ("PaperBodiesModel", "upRow", "[I", true)
  | 20 => ("PaperBodiesModel", "pointRow", "[I", true)
  | 21 => ("PaperBodiesModel", "planeX", "[I", true)
  | 22 => ("PaperBodiesModel", "planeY", "[I", true)
  | 23 => ("PaperBodiesModel", "wayRow", "[I", true)
  | 24 => ("PaperBodiesModel", "goal", "[I", true)
  | 25 => ("PaperBodiesModel", "edges", "I", false)
  | 26 => ("PaperBodiesModel", "edgeWay", "[I", true)
  | 27 => ("PaperBodiesModel", "edgeSquare", "[I", true)
  | 28 => ("PaperBodiesModel", "angles", "[I", true)
  | 29 => ("PaperBodiesModel", "partner", "[I", true)
  | 30 => ("PaperBodiesModel", "together", "[I", true)
  | 31 => ("PaperBodiesModel", "corner", "[I", true)
  | 32 => ("PaperBodiesModel", "cornerCount", "I", false)
  | 33 => ("PaperBodiesModel", "tries", "I", false)
  | 34 => ("PaperBodiesModel", "firstGlued", "[I", true)
  | 35 => ("PaperBodiesModel", "firstCorner", "[I", true)
  | 36 => ("PaperBodiesModel", "isFirst", "Z", false)
  | 37 => ("PaperBodiesModel", "glued", "[I", true)
  | 38 => ("PaperBodiesModel", "heldGlued", "[I", true)
  | 39 => ("PaperBodiesModel", "heldCorner", "[I", true)
  | 40 => ("PaperBodiesModel", "sizes", "[I", true)
  | 41 => ("PaperBodiesModel", "rows", "[I", true)
  | _ => ("PaperBodiesModel", "moving", "[I", true)
def tyX9 : Nat → FieldType := fun k => match k with
  | 0 => .int
  | 1 => .array .int
  | 2 => .long
  | 3 => .array .long
  | 4 => .array .int
  | 5 => .array .int
  | 6 => .array .int
  | 7 => .array .int
  | 8 => .int
  | 9 => .array .int
  | 10 => .int
  | 11 => .int
  | 12 => .array .int
  | 13 => .array .int
  | 14 => .array .int
  | 15 => .array .int
  | 16 => .array .int
  | 17 => .array .int
  | 18 => .array .int
  | 19 => .array .int
  | 20 => .array .int
  | 21 => .array .int
  | 22 => .array .int
  | 23 => .array .int
  | 24 => .array .int
  | 25 => .int
  | 26 => .array .int
  | 27 => .array .int
  | 28 => .array .int
  | 29 => .array .int
  | 30 => .array .int
  | 31 => .array .int
  | 32 => .int
  | 33 => .int
  | 34 => .array .int
  | 35 => .array .int
  | 36 => .boolean
  | 37 => .array .int
  | 38 => .array .int
  | 39 => .array .int
  | 40 => .array .int
  | 41 => .array .int
  | _ => .array .int
abbrev wsX90 : List Cond := u_ws RX9 TX9 43
theorem nmX9 : ∀ a, a < 43 → ∀ b, b < 43 → a ≠ b → (TX9 a).2.1 ≠ (TX9 b).2.1 := by decide +kernel
theorem tyX9_ok : ∀ k, k < 43 → parseFieldDescriptor (TX9 k).2.2.1 = some (tyX9 k) := by decide +kernel
abbrev cX9_init : ByteArray := prog_11_method_1_code
def yX9_init : MethodName := ⟨RX9, "<init>", "()V"⟩
abbrev cX9_in : ByteArray := prog_11_method_3_code
def yX9_in : MethodName := ⟨RX9, "in", "(III)Z"⟩
abbrev cX9_meets : ByteArray := prog_11_method_4_code
def yX9_meets : MethodName := ⟨RX9, "meets", "(I)I"⟩
abbrev cX9_ask : ByteArray := prog_11_method_5_code
def yX9_ask : MethodName := ⟨RX9, "ask", "(JI)I"⟩
abbrev cX9_isFigure : ByteArray := prog_11_method_6_code
def yX9_isFigure : MethodName := ⟨RX9, "isFigure", "(I)Z"⟩
abbrev cX9_isBox : ByteArray := prog_11_method_7_code
def yX9_isBox : MethodName := ⟨RX9, "isBox", "(I)Z"⟩
abbrev cX9_looked : ByteArray := prog_11_method_8_code
def yX9_looked : MethodName := ⟨RX9, "looked", "(I)I"⟩
abbrev cX9_bits : ByteArray := prog_11_method_9_code
def yX9_bits : MethodName := ⟨RX9, "bits", "(J)I"⟩
abbrev cX9_has : ByteArray := prog_11_method_10_code
def yX9_has : MethodName := ⟨RX9, "has", "(JI)Z"⟩
abbrev cX9_beside : ByteArray := prog_11_method_11_code
def yX9_beside : MethodName := ⟨RX9, "beside", "(II)I"⟩
abbrev cX9_leastOf : ByteArray := prog_11_method_12_code
def yX9_leastOf : MethodName := ⟨RX9, "leastOf", "(J)I"⟩
abbrev cX9_hangs : ByteArray := prog_11_method_13_code
def yX9_hangs : MethodName := ⟨RX9, "hangs", "(J)Z"⟩
abbrev cX9_setEnds : ByteArray := prog_11_method_14_code
def yX9_setEnds : MethodName := ⟨RX9, "setEnds", "(J)V"⟩
abbrev cX9_keep : ByteArray := prog_11_method_15_code
def yX9_keep : MethodName := ⟨RX9, "keep", "(IJ)V"⟩
abbrev cX9_figure : ByteArray := prog_11_method_16_code
def yX9_figure : MethodName := ⟨RX9, "figure", "(IJ)I"⟩
abbrev cX9_drop : ByteArray := prog_11_method_17_code
def yX9_drop : MethodName := ⟨RX9, "drop", "(I)I"⟩
abbrev cX9_rimOf : ByteArray := prog_11_method_18_code
def yX9_rimOf : MethodName := ⟨RX9, "rimOf", "(J)I"⟩
abbrev cX9_told : ByteArray := prog_11_method_19_code
def yX9_told : MethodName := ⟨RX9, "told", "(II)I"⟩
abbrev cX9_mark : ByteArray := prog_11_method_20_code
def yX9_mark : MethodName := ⟨RX9, "mark", "(II)I"⟩
abbrev cX9_squares : ByteArray := prog_11_method_21_code
def yX9_squares : MethodName := ⟨RX9, "squares", "(I)I"⟩
abbrev cX9_putDown : ByteArray := prog_11_method_22_code
def yX9_putDown : MethodName := ⟨RX9, "putDown", "(JZI)J"⟩
abbrev cX9_turn : ByteArray := prog_11_method_23_code
def yX9_turn : MethodName := ⟨RX9, "turn", "(IZI)I"⟩
abbrev cX9_alike : ByteArray := prog_11_method_24_code
def yX9_alike : MethodName := ⟨RX9, "alike", "(II)I"⟩
abbrev cX9_lookedBox : ByteArray := prog_11_method_25_code
def yX9_lookedBox : MethodName := ⟨RX9, "lookedBox", "(I)I"⟩
abbrev cX9_cellsOf : ByteArray := prog_11_method_26_code
def yX9_cellsOf : MethodName := ⟨RX9, "cellsOf", "(III)I"⟩
abbrev cX9_cells : ByteArray := prog_11_method_27_code
def yX9_cells : MethodName := ⟨RX9, "cells", "(I)I"⟩
abbrev cX9_box : ByteArray := prog_11_method_28_code
def yX9_box : MethodName := ⟨RX9, "box", "(IIII)I"⟩
abbrev cX9_sign : ByteArray := prog_11_method_29_code
def yX9_sign : MethodName := ⟨RX9, "sign", "(I)I"⟩
abbrev cX9_cross : ByteArray := prog_11_method_30_code
def yX9_cross : MethodName := ⟨RX9, "cross", "(II)I"⟩
abbrev cX9_baseUp : ByteArray := prog_11_method_31_code
def yX9_baseUp : MethodName := ⟨RX9, "baseUp", "(I)I"⟩
abbrev cX9_baseRight : ByteArray := prog_11_method_32_code
def yX9_baseRight : MethodName := ⟨RX9, "baseRight", "(I)I"⟩
abbrev cX9_setFrame : ByteArray := prog_11_method_33_code
def yX9_setFrame : MethodName := ⟨RX9, "setFrame", "(I)V"⟩
abbrev cX9_turnNow : ByteArray := prog_11_method_34_code
def yX9_turnNow : MethodName := ⟨RX9, "turnNow", "()I"⟩
abbrev cX9_goTo : ByteArray := prog_11_method_35_code
def yX9_goTo : MethodName := ⟨RX9, "goTo", "(II)V"⟩
abbrev cX9_sideSize : ByteArray := prog_11_method_36_code
def yX9_sideSize : MethodName := ⟨RX9, "sideSize", "(II)I"⟩
abbrev cX9_cellNow : ByteArray := prog_11_method_37_code
def yX9_cellNow : MethodName := ⟨RX9, "cellNow", "(I)I"⟩
abbrev cX9_wayNow : ByteArray := prog_11_method_38_code
def yX9_wayNow : MethodName := ⟨RX9, "wayNow", "(I)I"⟩
abbrev cX9_go : ByteArray := prog_11_method_39_code
def yX9_go : MethodName := ⟨RX9, "go", "(II)V"⟩
abbrev cX9_bend : ByteArray := prog_11_method_40_code
def yX9_bend : MethodName := ⟨RX9, "bend", "(III)V"⟩
abbrev cX9_isCell : ByteArray := prog_11_method_41_code
def yX9_isCell : MethodName := ⟨RX9, "isCell", "(II)Z"⟩
abbrev cX9_cell : ByteArray := prog_11_method_42_code
def yX9_cell : MethodName := ⟨RX9, "cell", "(III)I"⟩
abbrev cX9_next : ByteArray := prog_11_method_43_code
def yX9_next : MethodName := ⟨RX9, "next", "(IIII)I"⟩
abbrev cX9_isFolded : ByteArray := prog_11_method_44_code
def yX9_isFolded : MethodName := ⟨RX9, "isFolded", "(JIII)Z"⟩
abbrev cX9_askedBoth : ByteArray := prog_11_method_45_code
def yX9_askedBoth : MethodName := ⟨RX9, "askedBoth", "(II)I"⟩
abbrev cX9_foldsTo : ByteArray := prog_11_method_46_code
def yX9_foldsTo : MethodName := ⟨RX9, "foldsTo", "(IIII)I"⟩
abbrev cX9_folds : ByteArray := prog_11_method_47_code
def yX9_folds : MethodName := ⟨RX9, "folds", "(IIII)I"⟩
abbrev cX9_lies : ByteArray := prog_11_method_48_code
def yX9_lies : MethodName := ⟨RX9, "lies", "(IIIII)I"⟩
abbrev cX9_wholes : ByteArray := prog_11_method_49_code
def yX9_wholes : MethodName := ⟨RX9, "wholes", "(II)I"⟩
abbrev cX9_lays : ByteArray := prog_11_method_50_code
def yX9_lays : MethodName := ⟨RX9, "lays", "(IIIII)I"⟩
abbrev cX9_layOut : ByteArray := prog_11_method_51_code
def yX9_layOut : MethodName := ⟨RX9, "layOut", "(IIII)I"⟩
abbrev cX9_layOutBy : ByteArray := prog_11_method_52_code
def yX9_layOutBy : MethodName := ⟨RX9, "layOutBy", "(IIIII)I"⟩
abbrev cX9_along : ByteArray := prog_11_method_53_code
def yX9_along : MethodName := ⟨RX9, "along", "(II)I"⟩
abbrev cX9_farNow : ByteArray := prog_11_method_54_code
def yX9_farNow : MethodName := ⟨RX9, "farNow", "(I)I"⟩
abbrev cX9_unfolds : ByteArray := prog_11_method_55_code
def yX9_unfolds : MethodName := ⟨RX9, "unfolds", "(III)Z"⟩
abbrev cX9_shortOf : ByteArray := prog_11_method_56_code
def yX9_shortOf : MethodName := ⟨RX9, "shortOf", "(III)I"⟩
abbrev cX9_askedCells : ByteArray := prog_11_method_57_code
def yX9_askedCells : MethodName := ⟨RX9, "askedCells", "(III)I"⟩
abbrev cX9_way : ByteArray := prog_11_method_58_code
def yX9_way : MethodName := ⟨RX9, "way", "(III)I"⟩
abbrev cX9_farthest : ByteArray := prog_11_method_59_code
def yX9_farthest : MethodName := ⟨RX9, "farthest", "(II)I"⟩
abbrev cX9_mean : ByteArray := prog_11_method_60_code
def yX9_mean : MethodName := ⟨RX9, "mean", "(II)I"⟩
abbrev cX9_isWalked : ByteArray := prog_11_method_61_code
def yX9_isWalked : MethodName := ⟨RX9, "isWalked", "(J)Z"⟩
abbrev cX9_askedRim : ByteArray := prog_11_method_62_code
def yX9_askedRim : MethodName := ⟨RX9, "askedRim", "(I)I"⟩
abbrev cX9_rim : ByteArray := prog_11_method_63_code
def yX9_rim : MethodName := ⟨RX9, "rim", "(I)I"⟩
abbrev cX9_edge : ByteArray := prog_11_method_64_code
def yX9_edge : MethodName := ⟨RX9, "edge", "(III)I"⟩
abbrev cX9_meanAngle : ByteArray := prog_11_method_65_code
def yX9_meanAngle : MethodName := ⟨RX9, "meanAngle", "(I)I"⟩
abbrev cX9_isLegal : ByteArray := prog_11_method_66_code
def yX9_isLegal : MethodName := ⟨RX9, "isLegal", "()Z"⟩
abbrev cX9_joins : ByteArray := prog_11_method_67_code
def yX9_joins : MethodName := ⟨RX9, "joins", "(II)Z"⟩
abbrev cX9_firstFree : ByteArray := prog_11_method_68_code
def yX9_firstFree : MethodName := ⟨RX9, "firstFree", "()I"⟩
abbrev cX9_gluings : ByteArray := prog_11_method_69_code
def yX9_gluings : MethodName := ⟨RX9, "gluings", "(II)I"⟩
abbrev cX9_keepFirst : ByteArray := prog_11_method_70_code
def yX9_keepFirst : MethodName := ⟨RX9, "keepFirst", "()V"⟩
abbrev cX9_glued : ByteArray := prog_11_method_71_code
def yX9_glued : MethodName := ⟨RX9, "glued", "(I)I"⟩
abbrev cX9_corners : ByteArray := prog_11_method_72_code
def yX9_corners : MethodName := ⟨RX9, "corners", "(I)I"⟩
abbrev cX9_isGluing : ByteArray := prog_11_method_73_code
def yX9_isGluing : MethodName := ⟨RX9, "isGluing", "(I)Z"⟩
abbrev cX9_glue : ByteArray := prog_11_method_74_code
def yX9_glue : MethodName := ⟨RX9, "glue", "(II)I"⟩
abbrev cX9_tries : ByteArray := prog_11_method_75_code
def yX9_tries : MethodName := ⟨RX9, "tries", "()I"⟩
abbrev cX9_isRow : ByteArray := prog_11_method_76_code
def yX9_isRow : MethodName := ⟨RX9, "isRow", "(I)Z"⟩
abbrev cX9_askedRow : ByteArray := prog_11_method_77_code
def yX9_askedRow : MethodName := ⟨RX9, "askedRow", "(I)I"⟩
abbrev cX9_row : ByteArray := prog_11_method_78_code
def yX9_row : MethodName := ⟨RX9, "row", "(II)I"⟩
abbrev cX9_lay : ByteArray := prog_11_method_79_code
def yX9_lay : MethodName := ⟨RX9, "lay", "(III)I"⟩
abbrev cX9_tear : ByteArray := prog_11_method_80_code
def yX9_tear : MethodName := ⟨RX9, "tear", "(I)I"⟩
abbrev cX9_copy : ByteArray := prog_11_method_81_code
def yX9_copy : MethodName := ⟨RX9, "copy", "(IIIII)I"⟩
abbrev cX9_meanRow : ByteArray := prog_11_method_82_code
def yX9_meanRow : MethodName := ⟨RX9, "meanRow", "(I)I"⟩
abbrev cX9_asked : ByteArray := prog_11_method_83_code
def yX9_asked : MethodName := ⟨RX9, "asked", "()J"⟩
abbrev cX9_count : ByteArray := prog_11_method_84_code
def yX9_count : MethodName := ⟨RX9, "count", "(I)I"⟩
abbrev cX9_finding : ByteArray := prog_11_method_85_code
def yX9_finding : MethodName := ⟨RX9, "finding", "()I"⟩
abbrev cX9_findings : ByteArray := prog_11_method_86_code
def yX9_findings : MethodName := ⟨RX9, "findings", "(I)I"⟩
abbrev cX9_digest : ByteArray := prog_11_method_87_code
def yX9_digest : MethodName := ⟨RX9, "digest", "()J"⟩
def RJ13 : String := "java/lang/Long"
def TJ13 : u_T := fun k => match k with
  | _ => ("", "", "", false)
def tyJ13 : Nat → FieldType := fun k => match k with
  | _ => .int
abbrev wsJ130 : List Cond := u_ws RJ13 TJ13 0
theorem nmJ13 : ∀ a, a < 0 → ∀ b, b < 0 → a ≠ b → (TJ13 a).2.1 ≠ (TJ13 b).2.1 := by decide +kernel
theorem tyJ13_ok : ∀ k, k < 0 → parseFieldDescriptor (TJ13 k).2.2.1 = some (tyJ13 k) := by decide +kernel
abbrev cJ13_bitCount_95d88 : ByteArray := prog_12_method_50_code
def yJ13_bitCount_95d88 : MethodName := ⟨RJ13, "bitCount", "(J)I"⟩
def RJ9 : String := "java/lang/Math"
def TJ9 : u_T := fun k => match k with
  | _ => ("", "", "", false)
def tyJ9 : Nat → FieldType := fun k => match k with
  | _ => .int
abbrev wsJ90 : List Cond := u_ws RJ9 TJ9 0
theorem nmJ9 : ∀ a, a < 0 → ∀ b, b < 0 → a ≠ b → (TJ9 a).2.1 ≠ (TJ9 b).2.1 := by decide +kernel
theorem tyJ9_ok : ∀ k, k < 0 → parseFieldDescriptor (TJ9 k).2.2.1 = some (tyJ9 k) := by decide +kernel
abbrev cJ9_max_7cf53 : ByteArray := prog_13_method_65_code
def yJ9_max_7cf53 : MethodName := ⟨RJ9, "max", "(II)I"⟩
abbrev cJ9_min_7cf53 : ByteArray := prog_13_method_69_code
def yJ9_min_7cf53 : MethodName := ⟨RJ9, "min", "(II)I"⟩
def RJ10 : String := "java/lang/System"
def TJ10 : u_T := fun k => match k with
  | _ => ("", "", "", false)
def tyJ10 : Nat → FieldType := fun k => match k with
  | _ => .int
abbrev wsJ100 : List Cond := u_ws RJ10 TJ10 0
theorem nmJ10 : ∀ a, a < 0 → ∀ b, b < 0 → a ≠ b → (TJ10 a).2.1 ≠ (TJ10 b).2.1 := by decide +kernel
theorem tyJ10_ok : ∀ k, k < 0 → parseFieldDescriptor (TJ10 k).2.2.1 = some (tyJ10 k) := by decide +kernel
def RJ7 : String := "java/util/Arrays"
def TJ7 : u_T := fun k => match k with
  | _ => ("", "", "", false)
def tyJ7 : Nat → FieldType := fun k => match k with
  | _ => .int
abbrev wsJ70 : List Cond := u_ws RJ7 TJ7 0
theorem nmJ7 : ∀ a, a < 0 → ∀ b, b < 0 → a ≠ b → (TJ7 a).2.1 ≠ (TJ7 b).2.1 := by decide +kernel
theorem tyJ7_ok : ∀ k, k < 0 → parseFieldDescriptor (TJ7 k).2.2.1 = some (tyJ7 k) := by decide +kernel
abbrev cJ7_fill_53178 : ByteArray := prog_15_method_103_code
def yJ7_fill_53178 : MethodName := ⟨RJ7, "fill", "([II)V"⟩
def RL : String := "PaperBodiesLaw"
abbrev cL_law : ByteArray := code
def yL_law : MethodName := ⟨RL, "law", "([I)Z"⟩
def GL : List Cond := lw_tbl.filter goodWord
theorem GLi {w : Cond} (h : w ∈ lw_tbl) (g : goodWord w = true) : w ∈ GL := List.mem_filter.mpr ⟨h, g⟩
theorem gAll {B : List Cond} (hB : ∀ w ∈ GL, w ∈ B) {ws : List Cond} (h : ∀ w ∈ ws, w ∈ GL) : GoodIn B ws := fun w hw => ⟨hB w (h w hw), good_of_word (List.mem_filter.mp (h w hw)).2⟩
theorem gl_cons {c : Cond} {ws : List Cond} (h1 : c ∈ GL) (h2 : ∀ w ∈ ws, w ∈ GL) : ∀ w ∈ c :: ws, w ∈ GL := fun w h => (List.mem_cons.mp h).elim (fun e => e ▸ h1) (h2 w)
theorem mw_0 : (Cond.code yX0_has cX0_has 3 (some .boolean)) ∈ GL := GLi (List.mem_of_getElem? (i := 452) (by decide +kernel)) (by decide +kernel)
theorem mw_1 : (Cond.code yJ13_bitCount_95d88 cJ13_bitCount_95d88 2 (some .int)) ∈ GL := GLi (List.mem_of_getElem? (i := 314) (by decide +kernel)) (by decide +kernel)
theorem mw_2 : (Cond.constantLong RJ13 314 (6148914691236517205)) ∈ GL := GLi (List.mem_of_getElem? (i := 315) (by decide +kernel)) (by decide +kernel)
theorem mw_3 : (Cond.constantLong RJ13 316 (3689348814741910323)) ∈ GL := GLi (List.mem_of_getElem? (i := 316) (by decide +kernel)) (by decide +kernel)
theorem mw_4 : (Cond.constantLong RJ13 318 (1085102592571150095)) ∈ GL := GLi (List.mem_of_getElem? (i := 317) (by decide +kernel)) (by decide +kernel)
theorem mw_5 : (Cond.code yX0_least cX0_least 2 (some .int)) ∈ GL := GLi (List.mem_of_getElem? (i := 340) (by decide +kernel)) (by decide +kernel)
theorem mw_6 : (Cond.methodLink RX0 9 yJ13_bitCount_95d88) ∈ GL := GLi (List.mem_of_getElem? (i := 341) (by decide +kernel)) (by decide +kernel)
theorem mw_7 : (Cond.static yJ13_bitCount_95d88) ∈ GL := GLi (List.mem_of_getElem? (i := 313) (by decide +kernel)) (by decide +kernel)
theorem mw_8 : (Cond.initialized RJ13) ∈ GL := GLi (List.mem_of_getElem? (i := 69) (by decide +kernel)) (by decide +kernel)
theorem mw_9 : (Cond.code yX8_isSquare cX8_isSquare 1 (some .boolean)) ∈ GL := GLi (List.mem_of_getElem? (i := 523) (by decide +kernel)) (by decide +kernel)
theorem mw_10 : (Cond.code yX8_within cX8_within 3 (some .boolean)) ∈ GL := GLi (List.mem_of_getElem? (i := 323) (by decide +kernel)) (by decide +kernel)
theorem mw_11 : (Cond.code yX0_beside cX0_beside 4 (some .int)) ∈ GL := GLi (List.mem_of_getElem? (i := 540) (by decide +kernel)) (by decide +kernel)
theorem mw_12 : (Cond.static yX8_isSquare) ∈ GL := GLi (List.mem_of_getElem? (i := 522) (by decide +kernel)) (by decide +kernel)
theorem mw_13 : (Cond.initialized RX8) ∈ GL := GLi (List.mem_of_getElem? (i := 58) (by decide +kernel)) (by decide +kernel)
theorem mw_14 : (Cond.static yX8_within) ∈ GL := GLi (List.mem_of_getElem? (i := 322) (by decide +kernel)) (by decide +kernel)
theorem mw_15 : (Cond.code yX0_moved cX0_moved 3 (some .long)) ∈ GL := GLi (List.mem_of_getElem? (i := 329) (by decide +kernel)) (by decide +kernel)
theorem mw_16 : (Cond.constantLong RX0 25 (-72340172838076674)) ∈ GL := GLi (List.mem_of_getElem? (i := 330) (by decide +kernel)) (by decide +kernel)
theorem mw_17 : (Cond.code yX0_hangsTogether cX0_hangsTogether 8 (some .boolean)) ∈ GL := GLi (List.mem_of_getElem? (i := 326) (by decide +kernel)) (by decide +kernel)
theorem mw_18 : (Cond.methodLink RX0 27 yX0_moved) ∈ GL := GLi (List.mem_of_getElem? (i := 327) (by decide +kernel)) (by decide +kernel)
theorem mw_19 : (Cond.static yX0_moved) ∈ GL := GLi (List.mem_of_getElem? (i := 328) (by decide +kernel)) (by decide +kernel)
theorem mw_20 : (Cond.initialized RX0) ∈ GL := GLi (List.mem_of_getElem? (i := 70) (by decide +kernel)) (by decide +kernel)
theorem mw_21 : (Cond.code yX0_openEdges cX0_openEdges 4 (some .int)) ∈ GL := GLi (List.mem_of_getElem? (i := 428) (by decide +kernel)) (by decide +kernel)
theorem mw_22 : (Cond.constantLong RX0 31 (-1)) ∈ GL := GLi (List.mem_of_getElem? (i := 343) (by decide +kernel)) (by decide +kernel)
theorem mw_23 : (Cond.code yX0_isLying cX0_isLying 3 (some .boolean)) ∈ GL := GLi (List.mem_of_getElem? (i := 337) (by decide +kernel)) (by decide +kernel)
theorem mw_24 : (Cond.constantLong RX0 36 (255)) ∈ GL := GLi (List.mem_of_getElem? (i := 342) (by decide +kernel)) (by decide +kernel)
theorem mw_25 : (Cond.methodLink RX0 33 yX0_least) ∈ GL := GLi (List.mem_of_getElem? (i := 338) (by decide +kernel)) (by decide +kernel)
theorem mw_26 : (Cond.static yX0_least) ∈ GL := GLi (List.mem_of_getElem? (i := 339) (by decide +kernel)) (by decide +kernel)
theorem mw_27 : (Cond.code yX0_isStanding cX0_isStanding 3 (some .boolean)) ∈ GL := GLi (List.mem_of_getElem? (i := 346) (by decide +kernel)) (by decide +kernel)
theorem mw_28 : (Cond.constantLong RX0 38 (72340172838076673)) ∈ GL := GLi (List.mem_of_getElem? (i := 347) (by decide +kernel)) (by decide +kernel)
theorem mw_29 : (Cond.code yX0_putDown cX0_putDown 5 (some .long)) ∈ GL := GLi (List.mem_of_getElem? (i := 455) (by decide +kernel)) (by decide +kernel)
theorem mw_30 : (Cond.code yX0_turned cX0_turned 9 (some .long)) ∈ GL := GLi (List.mem_of_getElem? (i := 449) (by decide +kernel)) (by decide +kernel)
theorem mw_31 : (Cond.methodLink RX0 40 yX0_has) ∈ GL := GLi (List.mem_of_getElem? (i := 450) (by decide +kernel)) (by decide +kernel)
theorem mw_32 : (Cond.static yX0_has) ∈ GL := GLi (List.mem_of_getElem? (i := 451) (by decide +kernel)) (by decide +kernel)
theorem mw_33 : (Cond.methodLink RX0 44 yX0_putDown) ∈ GL := GLi (List.mem_of_getElem? (i := 453) (by decide +kernel)) (by decide +kernel)
theorem mw_34 : (Cond.static yX0_putDown) ∈ GL := GLi (List.mem_of_getElem? (i := 454) (by decide +kernel)) (by decide +kernel)
theorem mw_35 : (Cond.code yX0_areAlike cX0_areAlike 9 (some .boolean)) ∈ GL := GLi (List.mem_of_getElem? (i := 462) (by decide +kernel)) (by decide +kernel)
theorem mw_36 : (Cond.methodLink RX0 48 yX0_turned) ∈ GL := GLi (List.mem_of_getElem? (i := 463) (by decide +kernel)) (by decide +kernel)
theorem mw_37 : (Cond.static yX0_turned) ∈ GL := GLi (List.mem_of_getElem? (i := 448) (by decide +kernel)) (by decide +kernel)
theorem mw_38 : (Cond.code yX1_init cX1_init 1 none) ∈ GL := GLi (List.mem_of_getElem? (i := 232) (by decide +kernel)) (by decide +kernel)
theorem mw_39 : (Cond.methodLink RX1 3 objectInit) ∈ GL := GLi (List.mem_of_getElem? (i := 233) (by decide +kernel)) (by decide +kernel)
theorem mw_40 : (Cond.instanceMethod objectInit) ∈ GL := GLi (List.mem_of_getElem? (i := 78) (by decide +kernel)) (by decide +kernel)
theorem mw_41 : (Cond.code objectInit ⟨#[0xb1]⟩ 1 none) ∈ GL := GLi (List.mem_of_getElem? (i := 79) (by decide +kernel)) (by decide +kernel)
theorem mw_42 : (Cond.arrayClass .int) ∈ GL := GLi (List.mem_of_getElem? (i := 103) (by decide +kernel)) (by decide +kernel)
theorem mw_43 : (Cond.fieldLink RX1 11 "PaperBodies$Box" "lengths" "[I") ∈ GL := GLi (List.mem_of_getElem? (i := 234) (by decide +kernel)) (by decide +kernel)
theorem mw_44 : (Cond.fieldLink RX1 15 "PaperBodies$Box" "firstCells" "[I") ∈ GL := GLi (List.mem_of_getElem? (i := 235) (by decide +kernel)) (by decide +kernel)
theorem mw_45 : (Cond.fieldLink RX1 18 "PaperBodies$Box" "sides" "[I") ∈ GL := GLi (List.mem_of_getElem? (i := 236) (by decide +kernel)) (by decide +kernel)
theorem mw_46 : (Cond.fieldLink RX1 21 "PaperBodies$Box" "middles" "[I") ∈ GL := GLi (List.mem_of_getElem? (i := 237) (by decide +kernel)) (by decide +kernel)
theorem mw_47 : (Cond.fieldLink RX1 24 "PaperBodies$Box" "leads" "[I") ∈ GL := GLi (List.mem_of_getElem? (i := 238) (by decide +kernel)) (by decide +kernel)
theorem mw_48 : (Cond.fieldLink RX1 27 "PaperBodies$Box" "spot" "[I") ∈ GL := GLi (List.mem_of_getElem? (i := 239) (by decide +kernel)) (by decide +kernel)
theorem mw_49 : (Cond.code yX1_isThere cX1_isThere 1 (some .boolean)) ∈ GL := GLi (List.mem_of_getElem? (i := 474) (by decide +kernel)) (by decide +kernel)
theorem mw_50 : (Cond.fieldLink RX1 30 "PaperBodies$Box" "cells" "I") ∈ GL := GLi (List.mem_of_getElem? (i := 240) (by decide +kernel)) (by decide +kernel)
theorem mw_51 : (Cond.code yX1_isCube cX1_isCube 1 (some .boolean)) ∈ GL := GLi (List.mem_of_getElem? (i := 588) (by decide +kernel)) (by decide +kernel)
theorem mw_52 : (Cond.code yX1_hasCell cX1_hasCell 2 (some .boolean)) ∈ GL := GLi (List.mem_of_getElem? (i := 478) (by decide +kernel)) (by decide +kernel)
theorem mw_53 : (Cond.code yX1_length cX1_length 2 (some .int)) ∈ GL := GLi (List.mem_of_getElem? (i := 393) (by decide +kernel)) (by decide +kernel)
theorem mw_54 : (Cond.code yX1_sideOf cX1_sideOf 2 (some .int)) ∈ GL := GLi (List.mem_of_getElem? (i := 482) (by decide +kernel)) (by decide +kernel)
theorem mw_55 : (Cond.methodLink RX1 38 yX1_hasCell) ∈ GL := GLi (List.mem_of_getElem? (i := 483) (by decide +kernel)) (by decide +kernel)
theorem mw_56 : (Cond.instanceMethod yX1_hasCell) ∈ GL := GLi (List.mem_of_getElem? (i := 476) (by decide +kernel)) (by decide +kernel)
theorem mw_57 : (Cond.selects RX1 yX1_hasCell yX1_hasCell) ∈ GL := GLi (List.mem_of_getElem? (i := 477) (by decide +kernel)) (by decide +kernel)
theorem mw_58 : (Cond.initialized RX1) ∈ GL := GLi (List.mem_of_getElem? (i := 65) (by decide +kernel)) (by decide +kernel)
theorem mw_59 : (Cond.code yX1_middleOf cX1_middleOf 3 (some .int)) ∈ GL := GLi (List.mem_of_getElem? (i := 487) (by decide +kernel)) (by decide +kernel)
theorem mw_60 : (Cond.code yX8_frameOf cX8_frameOf 2 (some .int)) ∈ GL := GLi (List.mem_of_getElem? (i := 415) (by decide +kernel)) (by decide +kernel)
theorem mw_61 : (Cond.code yX1_leadsTo cX1_leadsTo 6 (some .int)) ∈ GL := GLi (List.mem_of_getElem? (i := 499) (by decide +kernel)) (by decide +kernel)
theorem mw_62 : (Cond.static yX8_frameOf) ∈ GL := GLi (List.mem_of_getElem? (i := 414) (by decide +kernel)) (by decide +kernel)
theorem mw_63 : (Cond.code yX1_endAt cX1_endAt 2 (some .int)) ∈ GL := GLi (List.mem_of_getElem? (i := 389) (by decide +kernel)) (by decide +kernel)
theorem mw_64 : (Cond.methodLink RX1 63 yX1_length) ∈ GL := GLi (List.mem_of_getElem? (i := 390) (by decide +kernel)) (by decide +kernel)
theorem mw_65 : (Cond.instanceMethod yX1_length) ∈ GL := GLi (List.mem_of_getElem? (i := 391) (by decide +kernel)) (by decide +kernel)
theorem mw_66 : (Cond.selects RX1 yX1_length yX1_length) ∈ GL := GLi (List.mem_of_getElem? (i := 392) (by decide +kernel)) (by decide +kernel)
theorem mw_67 : (Cond.code yX1_numberSide cX1_numberSide 6 none) ∈ GL := GLi (List.mem_of_getElem? (i := 381) (by decide +kernel)) (by decide +kernel)
theorem mw_68 : (Cond.fieldLink RX1 53 "PaperBodies$Box" "FIRST_LETTER" "[I") ∈ GL := GLi (List.mem_of_getElem? (i := 382) (by decide +kernel)) (by decide +kernel)
theorem mw_69 : (Cond.fieldLink RX1 56 "PaperBodies$Box" "OTHER_LETTER" "[I") ∈ GL := GLi (List.mem_of_getElem? (i := 384) (by decide +kernel)) (by decide +kernel)
theorem mw_70 : (Cond.methodLink RX1 59 yX1_endAt) ∈ GL := GLi (List.mem_of_getElem? (i := 386) (by decide +kernel)) (by decide +kernel)
theorem mw_71 : (Cond.instanceMethod yX1_endAt) ∈ GL := GLi (List.mem_of_getElem? (i := 387) (by decide +kernel)) (by decide +kernel)
theorem mw_72 : (Cond.selects RX1 yX1_endAt yX1_endAt) ∈ GL := GLi (List.mem_of_getElem? (i := 388) (by decide +kernel)) (by decide +kernel)
theorem mw_73 : (Cond.code yX1_directionOf cX1_directionOf 3 (some .int)) ∈ GL := GLi (List.mem_of_getElem? (i := 401) (by decide +kernel)) (by decide +kernel)
theorem mw_74 : (Cond.fieldLink RX1 82 "PaperBodies$Box" "RIGHT" "[I") ∈ GL := GLi (List.mem_of_getElem? (i := 402) (by decide +kernel)) (by decide +kernel)
theorem mw_75 : (Cond.fieldLink RX1 85 "PaperBodies$Box" "UP" "[I") ∈ GL := GLi (List.mem_of_getElem? (i := 404) (by decide +kernel)) (by decide +kernel)
theorem mw_76 : (Cond.code yX1_signOf cX1_signOf 1 (some .int)) ∈ GL := GLi (List.mem_of_getElem? (i := 408) (by decide +kernel)) (by decide +kernel)
theorem mw_77 : (Cond.code yX1_cellAtSpot cX1_cellAtSpot 4 (some .int)) ∈ GL := GLi (List.mem_of_getElem? (i := 412) (by decide +kernel)) (by decide +kernel)
theorem mw_78 : (Cond.code yX1_roundEdge cX1_roundEdge 3 (some .int)) ∈ GL := GLi (List.mem_of_getElem? (i := 418) (by decide +kernel)) (by decide +kernel)
theorem mw_79 : (Cond.code yX1_turnWithRight cX1_turnWithRight 3 (some .int)) ∈ GL := GLi (List.mem_of_getElem? (i := 421) (by decide +kernel)) (by decide +kernel)
theorem mw_80 : (Cond.methodLink RX1 66 yX1_directionOf) ∈ GL := GLi (List.mem_of_getElem? (i := 399) (by decide +kernel)) (by decide +kernel)
theorem mw_81 : (Cond.static yX1_directionOf) ∈ GL := GLi (List.mem_of_getElem? (i := 400) (by decide +kernel)) (by decide +kernel)
theorem mw_82 : (Cond.methodLink RX1 69 yX1_signOf) ∈ GL := GLi (List.mem_of_getElem? (i := 406) (by decide +kernel)) (by decide +kernel)
theorem mw_83 : (Cond.static yX1_signOf) ∈ GL := GLi (List.mem_of_getElem? (i := 407) (by decide +kernel)) (by decide +kernel)
theorem mw_84 : (Cond.methodLink RX1 72 yX1_cellAtSpot) ∈ GL := GLi (List.mem_of_getElem? (i := 409) (by decide +kernel)) (by decide +kernel)
theorem mw_85 : (Cond.instanceMethod yX1_cellAtSpot) ∈ GL := GLi (List.mem_of_getElem? (i := 411) (by decide +kernel)) (by decide +kernel)
theorem mw_86 : (Cond.selects RX1 yX1_cellAtSpot yX1_cellAtSpot) ∈ GL := GLi (List.mem_of_getElem? (i := 3) (by decide +kernel)) (by decide +kernel)
theorem mw_87 : (Cond.methodLink RX1 75 yX1_roundEdge) ∈ GL := GLi (List.mem_of_getElem? (i := 416) (by decide +kernel)) (by decide +kernel)
theorem mw_88 : (Cond.static yX1_roundEdge) ∈ GL := GLi (List.mem_of_getElem? (i := 417) (by decide +kernel)) (by decide +kernel)
theorem mw_89 : (Cond.methodLink RX1 79 yX1_turnWithRight) ∈ GL := GLi (List.mem_of_getElem? (i := 419) (by decide +kernel)) (by decide +kernel)
theorem mw_90 : (Cond.static yX1_turnWithRight) ∈ GL := GLi (List.mem_of_getElem? (i := 420) (by decide +kernel)) (by decide +kernel)
theorem mw_91 : (Cond.code yX1_arrivalFrom cX1_arrivalFrom 7 (some .int)) ∈ GL := GLi (List.mem_of_getElem? (i := 398) (by decide +kernel)) (by decide +kernel)
theorem mw_92 : (Cond.methodLink RX1 46 yX1_numberSide) ∈ GL := GLi (List.mem_of_getElem? (i := 378) (by decide +kernel)) (by decide +kernel)
theorem mw_93 : (Cond.instanceMethod yX1_numberSide) ∈ GL := GLi (List.mem_of_getElem? (i := 380) (by decide +kernel)) (by decide +kernel)
theorem mw_94 : (Cond.selects RX1 yX1_numberSide yX1_numberSide) ∈ GL := GLi (List.mem_of_getElem? (i := 1) (by decide +kernel)) (by decide +kernel)
theorem mw_95 : (Cond.methodLink RX1 50 yX1_arrivalFrom) ∈ GL := GLi (List.mem_of_getElem? (i := 395) (by decide +kernel)) (by decide +kernel)
theorem mw_96 : (Cond.instanceMethod yX1_arrivalFrom) ∈ GL := GLi (List.mem_of_getElem? (i := 397) (by decide +kernel)) (by decide +kernel)
theorem mw_97 : (Cond.selects RX1 yX1_arrivalFrom yX1_arrivalFrom) ∈ GL := GLi (List.mem_of_getElem? (i := 2) (by decide +kernel)) (by decide +kernel)
theorem mw_98 : (Cond.code yX1_build cX1_build 6 none) ∈ GL := GLi (List.mem_of_getElem? (i := 377) (by decide +kernel)) (by decide +kernel)
theorem mw_99 : (Cond.code yX1_digestInto cX1_digestInto 6 (some .long)) ∈ GL := GLi (List.mem_of_getElem? (i := 840) (by decide +kernel)) (by decide +kernel)
theorem mw_100 : (Cond.constantLong RX1 92 (31)) ∈ GL := GLi (List.mem_of_getElem? (i := 842) (by decide +kernel)) (by decide +kernel)
theorem mw_101 : (Cond.methodLink RX1 88 yX1_isThere) ∈ GL := GLi (List.mem_of_getElem? (i := 841) (by decide +kernel)) (by decide +kernel)
theorem mw_102 : (Cond.instanceMethod yX1_isThere) ∈ GL := GLi (List.mem_of_getElem? (i := 472) (by decide +kernel)) (by decide +kernel)
theorem mw_103 : (Cond.selects RX1 yX1_isThere yX1_isThere) ∈ GL := GLi (List.mem_of_getElem? (i := 473) (by decide +kernel)) (by decide +kernel)
theorem mw_104 : (Cond.code yX2_init cX2_init 1 none) ∈ GL := GLi (List.mem_of_getElem? (i := 210) (by decide +kernel)) (by decide +kernel)
theorem mw_105 : (Cond.methodLink RX2 3 objectInit) ∈ GL := GLi (List.mem_of_getElem? (i := 211) (by decide +kernel)) (by decide +kernel)
theorem mw_106 : (Cond.fieldLink RX2 11 "PaperBodies$Figure" "kind" "I") ∈ GL := GLi (List.mem_of_getElem? (i := 212) (by decide +kernel)) (by decide +kernel)
theorem mw_107 : (Cond.code yX2_isThere cX2_isThere 1 (some .boolean)) ∈ GL := GLi (List.mem_of_getElem? (i := 355) (by decide +kernel)) (by decide +kernel)
theorem mw_108 : (Cond.code yX2_isOf cX2_isOf 2 (some .boolean)) ∈ GL := GLi (List.mem_of_getElem? (i := 437) (by decide +kernel)) (by decide +kernel)
theorem mw_109 : (Cond.code yX2_putPlain cX2_putPlain 3 none) ∈ GL := GLi (List.mem_of_getElem? (i := 334) (by decide +kernel)) (by decide +kernel)
theorem mw_110 : (Cond.fieldLink RX2 15 "PaperBodies$Figure" "set" "J") ∈ GL := GLi (List.mem_of_getElem? (i := 214) (by decide +kernel)) (by decide +kernel)
theorem mw_111 : (Cond.methodLink RX2 19 yX0_isLying) ∈ GL := GLi (List.mem_of_getElem? (i := 335) (by decide +kernel)) (by decide +kernel)
theorem mw_112 : (Cond.static yX0_isLying) ∈ GL := GLi (List.mem_of_getElem? (i := 336) (by decide +kernel)) (by decide +kernel)
theorem mw_113 : (Cond.methodLink RX2 25 yX0_isStanding) ∈ GL := GLi (List.mem_of_getElem? (i := 344) (by decide +kernel)) (by decide +kernel)
theorem mw_114 : (Cond.static yX0_isStanding) ∈ GL := GLi (List.mem_of_getElem? (i := 345) (by decide +kernel)) (by decide +kernel)
theorem mw_115 : (Cond.code yX2_putNet cX2_putNet 5 none) ∈ GL := GLi (List.mem_of_getElem? (i := 584) (by decide +kernel)) (by decide +kernel)
theorem mw_116 : (Cond.fieldLink RX2 34 "PaperBodies$Figure" "leastCell" "I") ∈ GL := GLi (List.mem_of_getElem? (i := 216) (by decide +kernel)) (by decide +kernel)
theorem mw_117 : (Cond.fieldLink RX2 41 "PaperBodies$Figure" "boxLength" "I") ∈ GL := GLi (List.mem_of_getElem? (i := 218) (by decide +kernel)) (by decide +kernel)
theorem mw_118 : (Cond.methodLink RX2 28 yX1_isCube) ∈ GL := GLi (List.mem_of_getElem? (i := 585) (by decide +kernel)) (by decide +kernel)
theorem mw_119 : (Cond.instanceMethod yX1_isCube) ∈ GL := GLi (List.mem_of_getElem? (i := 586) (by decide +kernel)) (by decide +kernel)
theorem mw_120 : (Cond.selects RX1 yX1_isCube yX1_isCube) ∈ GL := GLi (List.mem_of_getElem? (i := 587) (by decide +kernel)) (by decide +kernel)
theorem mw_121 : (Cond.methodLink RX2 37 yX1_length) ∈ GL := GLi (List.mem_of_getElem? (i := 589) (by decide +kernel)) (by decide +kernel)
theorem mw_122 : (Cond.code yX2_takeAway cX2_takeAway 1 none) ∈ GL := GLi (List.mem_of_getElem? (i := 363) (by decide +kernel)) (by decide +kernel)
theorem mw_123 : (Cond.code yX2_digestInto cX2_digestInto 5 (some .long)) ∈ GL := GLi (List.mem_of_getElem? (i := 834) (by decide +kernel)) (by decide +kernel)
theorem mw_124 : (Cond.constantLong RX2 44 (31)) ∈ GL := GLi (List.mem_of_getElem? (i := 835) (by decide +kernel)) (by decide +kernel)
theorem mw_125 : (Cond.methodLink RX2 46 yX2_isThere) ∈ GL := GLi (List.mem_of_getElem? (i := 836) (by decide +kernel)) (by decide +kernel)
theorem mw_126 : (Cond.instanceMethod yX2_isThere) ∈ GL := GLi (List.mem_of_getElem? (i := 353) (by decide +kernel)) (by decide +kernel)
theorem mw_127 : (Cond.selects RX2 yX2_isThere yX2_isThere) ∈ GL := GLi (List.mem_of_getElem? (i := 354) (by decide +kernel)) (by decide +kernel)
theorem mw_128 : (Cond.initialized RX2) ∈ GL := GLi (List.mem_of_getElem? (i := 64) (by decide +kernel)) (by decide +kernel)
theorem mw_129 : (Cond.code yX3_init cX3_init 1 none) ∈ GL := GLi (List.mem_of_getElem? (i := 163) (by decide +kernel)) (by decide +kernel)
theorem mw_130 : (Cond.methodLink RX3 3 objectInit) ∈ GL := GLi (List.mem_of_getElem? (i := 164) (by decide +kernel)) (by decide +kernel)
theorem mw_131 : (Cond.fieldLink RX3 9 "PaperBodies$Gluer" "partners" "[I") ∈ GL := GLi (List.mem_of_getElem? (i := 165) (by decide +kernel)) (by decide +kernel)
theorem mw_132 : (Cond.fieldLink RX3 15 "PaperBodies$Gluer" "together" "[I") ∈ GL := GLi (List.mem_of_getElem? (i := 166) (by decide +kernel)) (by decide +kernel)
theorem mw_133 : (Cond.fieldLink RX3 18 "PaperBodies$Gluer" "quarters" "[I") ∈ GL := GLi (List.mem_of_getElem? (i := 167) (by decide +kernel)) (by decide +kernel)
theorem mw_134 : (Cond.fieldLink RX3 21 "PaperBodies$Gluer" "firstPartners" "[I") ∈ GL := GLi (List.mem_of_getElem? (i := 168) (by decide +kernel)) (by decide +kernel)
theorem mw_135 : (Cond.fieldLink RX3 24 "PaperBodies$Gluer" "firstCorners" "[I") ∈ GL := GLi (List.mem_of_getElem? (i := 169) (by decide +kernel)) (by decide +kernel)
theorem mw_136 : (Cond.fieldLink RX3 27 "PaperBodies$Gluer" "keptPartners" "[I") ∈ GL := GLi (List.mem_of_getElem? (i := 170) (by decide +kernel)) (by decide +kernel)
theorem mw_137 : (Cond.fieldLink RX3 30 "PaperBodies$Gluer" "keptCorners" "[I") ∈ GL := GLi (List.mem_of_getElem? (i := 171) (by decide +kernel)) (by decide +kernel)
theorem mw_138 : (Cond.code yX3_toldPartner cX3_toldPartner 2 (some .int)) ∈ GL := GLi (List.mem_of_getElem? (i := 712) (by decide +kernel)) (by decide +kernel)
theorem mw_139 : (Cond.fieldLink RX3 33 "PaperBodies$Gluer" "keptEdges" "I") ∈ GL := GLi (List.mem_of_getElem? (i := 173) (by decide +kernel)) (by decide +kernel)
theorem mw_140 : (Cond.code yX3_toldCorners cX3_toldCorners 2 (some .int)) ∈ GL := GLi (List.mem_of_getElem? (i := 720) (by decide +kernel)) (by decide +kernel)
theorem mw_141 : (Cond.code yJ7_fill_53178 cJ7_fill_53178 4 none) ∈ GL := GLi (List.mem_of_getElem? (i := 264) (by decide +kernel)) (by decide +kernel)
theorem mw_142 : (Cond.code yX3_isFree cX3_isFree 2 (some .boolean)) ∈ GL := GLi (List.mem_of_getElem? (i := 675) (by decide +kernel)) (by decide +kernel)
theorem mw_143 : (Cond.code yX4_hasEdge cX4_hasEdge 2 (some .boolean)) ∈ GL := GLi (List.mem_of_getElem? (i := 654) (by decide +kernel)) (by decide +kernel)
theorem mw_144 : (Cond.fieldLink RX4 27 "PaperBodies$Rim" "length" "I") ∈ GL := GLi (List.mem_of_getElem? (i := 147) (by decide +kernel)) (by decide +kernel)
theorem mw_145 : (Cond.code yX4_angleAt cX4_angleAt 2 (some .int)) ∈ GL := GLi (List.mem_of_getElem? (i := 687) (by decide +kernel)) (by decide +kernel)
theorem mw_146 : (Cond.fieldLink RX4 15 "PaperBodies$Rim" "angles" "[I") ∈ GL := GLi (List.mem_of_getElem? (i := 145) (by decide +kernel)) (by decide +kernel)
theorem mw_147 : (Cond.methodLink RX4 41 yX4_hasEdge) ∈ GL := GLi (List.mem_of_getElem? (i := 659) (by decide +kernel)) (by decide +kernel)
theorem mw_148 : (Cond.instanceMethod yX4_hasEdge) ∈ GL := GLi (List.mem_of_getElem? (i := 652) (by decide +kernel)) (by decide +kernel)
theorem mw_149 : (Cond.selects RX4 yX4_hasEdge yX4_hasEdge) ∈ GL := GLi (List.mem_of_getElem? (i := 653) (by decide +kernel)) (by decide +kernel)
theorem mw_150 : (Cond.initialized RX4) ∈ GL := GLi (List.mem_of_getElem? (i := 62) (by decide +kernel)) (by decide +kernel)
theorem mw_151 : (Cond.code yX3_gatherCorners cX3_gatherCorners 4 none) ∈ GL := GLi (List.mem_of_getElem? (i := 683) (by decide +kernel)) (by decide +kernel)
theorem mw_152 : (Cond.fieldLink RX3 52 "PaperBodies$Gluer" "edges" "I") ∈ GL := GLi (List.mem_of_getElem? (i := 172) (by decide +kernel)) (by decide +kernel)
theorem mw_153 : (Cond.methodLink RX3 103 yX4_angleAt) ∈ GL := GLi (List.mem_of_getElem? (i := 684) (by decide +kernel)) (by decide +kernel)
theorem mw_154 : (Cond.instanceMethod yX4_angleAt) ∈ GL := GLi (List.mem_of_getElem? (i := 685) (by decide +kernel)) (by decide +kernel)
theorem mw_155 : (Cond.selects RX4 yX4_angleAt yX4_angleAt) ∈ GL := GLi (List.mem_of_getElem? (i := 686) (by decide +kernel)) (by decide +kernel)
theorem mw_156 : (Cond.code yX3_isLegal cX3_isLegal 2 (some .boolean)) ∈ GL := GLi (List.mem_of_getElem? (i := 691) (by decide +kernel)) (by decide +kernel)
theorem mw_157 : (Cond.code yX3_cornersWith cX3_cornersWith 4 (some .int)) ∈ GL := GLi (List.mem_of_getElem? (i := 696) (by decide +kernel)) (by decide +kernel)
theorem mw_158 : (Cond.fieldLink RX3 55 "PaperBodies$Gluer" "legalOnes" "I") ∈ GL := GLi (List.mem_of_getElem? (i := 174) (by decide +kernel)) (by decide +kernel)
theorem mw_159 : (Cond.methodLink RX3 75 arraycopyName) ∈ GL := GLi (List.mem_of_getElem? (i := 692) (by decide +kernel)) (by decide +kernel)
theorem mw_160 : (Cond.native arraycopyName) ∈ GL := GLi (List.mem_of_getElem? (i := 623) (by decide +kernel)) (by decide +kernel)
theorem mw_161 : (Cond.static arraycopyName) ∈ GL := GLi (List.mem_of_getElem? (i := 622) (by decide +kernel)) (by decide +kernel)
theorem mw_162 : (Cond.initialized "java/lang/System") ∈ GL := GLi (List.mem_of_getElem? (i := 71) (by decide +kernel)) (by decide +kernel)
theorem mw_163 : (Cond.methodLink RX3 93 yX3_gatherCorners) ∈ GL := GLi (List.mem_of_getElem? (i := 680) (by decide +kernel)) (by decide +kernel)
theorem mw_164 : (Cond.instanceMethod yX3_gatherCorners) ∈ GL := GLi (List.mem_of_getElem? (i := 681) (by decide +kernel)) (by decide +kernel)
theorem mw_165 : (Cond.selects RX3 yX3_gatherCorners yX3_gatherCorners) ∈ GL := GLi (List.mem_of_getElem? (i := 682) (by decide +kernel)) (by decide +kernel)
theorem mw_166 : (Cond.initialized RX3) ∈ GL := GLi (List.mem_of_getElem? (i := 63) (by decide +kernel)) (by decide +kernel)
theorem mw_167 : (Cond.methodLink RX3 96 yX3_isLegal) ∈ GL := GLi (List.mem_of_getElem? (i := 688) (by decide +kernel)) (by decide +kernel)
theorem mw_168 : (Cond.instanceMethod yX3_isLegal) ∈ GL := GLi (List.mem_of_getElem? (i := 689) (by decide +kernel)) (by decide +kernel)
theorem mw_169 : (Cond.selects RX3 yX3_isLegal yX3_isLegal) ∈ GL := GLi (List.mem_of_getElem? (i := 690) (by decide +kernel)) (by decide +kernel)
theorem mw_170 : (Cond.methodLink RX3 99 yX3_cornersWith) ∈ GL := GLi (List.mem_of_getElem? (i := 693) (by decide +kernel)) (by decide +kernel)
theorem mw_171 : (Cond.instanceMethod yX3_cornersWith) ∈ GL := GLi (List.mem_of_getElem? (i := 695) (by decide +kernel)) (by decide +kernel)
theorem mw_172 : (Cond.selects RX3 yX3_cornersWith yX3_cornersWith) ∈ GL := GLi (List.mem_of_getElem? (i := 13) (by decide +kernel)) (by decide +kernel)
theorem mw_173 : (Cond.code yX3_judge cX3_judge 3 none) ∈ GL := GLi (List.mem_of_getElem? (i := 679) (by decide +kernel)) (by decide +kernel)
theorem mw_174 : (Cond.code yX3_countTry cX3_countTry 1 (some .boolean)) ∈ GL := GLi (List.mem_of_getElem? (i := 700) (by decide +kernel)) (by decide +kernel)
theorem mw_175 : (Cond.fieldLink RX3 58 "PaperBodies$Gluer" "triesMade" "I") ∈ GL := GLi (List.mem_of_getElem? (i := 176) (by decide +kernel)) (by decide +kernel)
theorem mw_176 : (Cond.fieldLink RX3 61 "PaperBodies$Gluer" "mostTries" "I") ∈ GL := GLi (List.mem_of_getElem? (i := 178) (by decide +kernel)) (by decide +kernel)
theorem mw_177 : (Cond.fieldLink RX3 64 "PaperBodies$Gluer" "spent" "Z") ∈ GL := GLi (List.mem_of_getElem? (i := 179) (by decide +kernel)) (by decide +kernel)
theorem mw_178 : (Cond.methodLink RX3 81 yX3_isFree) ∈ GL := GLi (List.mem_of_getElem? (i := 672) (by decide +kernel)) (by decide +kernel)
theorem mw_179 : (Cond.instanceMethod yX3_isFree) ∈ GL := GLi (List.mem_of_getElem? (i := 674) (by decide +kernel)) (by decide +kernel)
theorem mw_180 : (Cond.selects RX3 yX3_isFree yX3_isFree) ∈ GL := GLi (List.mem_of_getElem? (i := 11) (by decide +kernel)) (by decide +kernel)
theorem mw_181 : (Cond.methodLink RX3 85 yX3_judge) ∈ GL := GLi (List.mem_of_getElem? (i := 676) (by decide +kernel)) (by decide +kernel)
theorem mw_182 : (Cond.instanceMethod yX3_judge) ∈ GL := GLi (List.mem_of_getElem? (i := 678) (by decide +kernel)) (by decide +kernel)
theorem mw_183 : (Cond.selects RX3 yX3_judge yX3_judge) ∈ GL := GLi (List.mem_of_getElem? (i := 12) (by decide +kernel)) (by decide +kernel)
theorem mw_184 : (Cond.methodLink RX3 89 yX3_countTry) ∈ GL := GLi (List.mem_of_getElem? (i := 697) (by decide +kernel)) (by decide +kernel)
theorem mw_185 : (Cond.instanceMethod yX3_countTry) ∈ GL := GLi (List.mem_of_getElem? (i := 699) (by decide +kernel)) (by decide +kernel)
theorem mw_186 : (Cond.selects RX3 yX3_countTry yX3_countTry) ∈ GL := GLi (List.mem_of_getElem? (i := 14) (by decide +kernel)) (by decide +kernel)
theorem mw_187 : (Cond.methodLink RX3 68 yX3_pairFrom) ∈ GL := GLi (List.mem_of_getElem? (i := 669) (by decide +kernel)) (by decide +kernel)
theorem mw_188 : (Cond.static yX3_pairFrom) ∈ GL := GLi (List.mem_of_getElem? (i := 670) (by decide +kernel)) (by decide +kernel)
theorem mw_189 : (Cond.code yX3_pairFrom cX3_pairFrom 7 none) ∈ GL := GLi (List.mem_of_getElem? (i := 671) (by decide +kernel)) (by decide +kernel)
theorem mw_190 : (Cond.code yX3_keepFirst cX3_keepFirst 1 none) ∈ GL := GLi (List.mem_of_getElem? (i := 704) (by decide +kernel)) (by decide +kernel)
theorem mw_191 : (Cond.methodLink RX3 41 yJ7_fill_53178) ∈ GL := GLi (List.mem_of_getElem? (i := 668) (by decide +kernel)) (by decide +kernel)
theorem mw_192 : (Cond.static yJ7_fill_53178) ∈ GL := GLi (List.mem_of_getElem? (i := 263) (by decide +kernel)) (by decide +kernel)
theorem mw_193 : (Cond.initialized RJ7) ∈ GL := GLi (List.mem_of_getElem? (i := 66) (by decide +kernel)) (by decide +kernel)
theorem mw_194 : (Cond.methodLink RX3 72 yX3_keepFirst) ∈ GL := GLi (List.mem_of_getElem? (i := 701) (by decide +kernel)) (by decide +kernel)
theorem mw_195 : (Cond.instanceMethod yX3_keepFirst) ∈ GL := GLi (List.mem_of_getElem? (i := 703) (by decide +kernel)) (by decide +kernel)
theorem mw_196 : (Cond.selects RX3 yX3_keepFirst yX3_keepFirst) ∈ GL := GLi (List.mem_of_getElem? (i := 15) (by decide +kernel)) (by decide +kernel)
theorem mw_197 : (Cond.code yX3_seek cX3_seek 3 (some .boolean)) ∈ GL := GLi (List.mem_of_getElem? (i := 667) (by decide +kernel)) (by decide +kernel)
theorem mw_198 : (Cond.code yX3_cornersInAll cX3_cornersInAll 3 (some .int)) ∈ GL := GLi (List.mem_of_getElem? (i := 743) (by decide +kernel)) (by decide +kernel)
theorem mw_199 : (Cond.code yX3_isPaired cX3_isPaired 3 (some .boolean)) ∈ GL := GLi (List.mem_of_getElem? (i := 733) (by decide +kernel)) (by decide +kernel)
theorem mw_200 : (Cond.code yX3_holdsItsOwn cX3_holdsItsOwn 3 (some .boolean)) ∈ GL := GLi (List.mem_of_getElem? (i := 737) (by decide +kernel)) (by decide +kernel)
theorem mw_201 : (Cond.code yX3_take cX3_take 4 (some .boolean)) ∈ GL := GLi (List.mem_of_getElem? (i := 729) (by decide +kernel)) (by decide +kernel)
theorem mw_202 : (Cond.methodLink RX3 114 yX3_isPaired) ∈ GL := GLi (List.mem_of_getElem? (i := 730) (by decide +kernel)) (by decide +kernel)
theorem mw_203 : (Cond.instanceMethod yX3_isPaired) ∈ GL := GLi (List.mem_of_getElem? (i := 732) (by decide +kernel)) (by decide +kernel)
theorem mw_204 : (Cond.selects RX3 yX3_isPaired yX3_isPaired) ∈ GL := GLi (List.mem_of_getElem? (i := 16) (by decide +kernel)) (by decide +kernel)
theorem mw_205 : (Cond.methodLink RX3 117 yX3_holdsItsOwn) ∈ GL := GLi (List.mem_of_getElem? (i := 734) (by decide +kernel)) (by decide +kernel)
theorem mw_206 : (Cond.instanceMethod yX3_holdsItsOwn) ∈ GL := GLi (List.mem_of_getElem? (i := 736) (by decide +kernel)) (by decide +kernel)
theorem mw_207 : (Cond.selects RX3 yX3_holdsItsOwn yX3_holdsItsOwn) ∈ GL := GLi (List.mem_of_getElem? (i := 17) (by decide +kernel)) (by decide +kernel)
theorem mw_208 : (Cond.code yX4_init cX4_init 1 none) ∈ GL := GLi (List.mem_of_getElem? (i := 142) (by decide +kernel)) (by decide +kernel)
theorem mw_209 : (Cond.methodLink RX4 3 objectInit) ∈ GL := GLi (List.mem_of_getElem? (i := 143) (by decide +kernel)) (by decide +kernel)
theorem mw_210 : (Cond.fieldLink RX4 9 "PaperBodies$Rim" "ways" "[I") ∈ GL := GLi (List.mem_of_getElem? (i := 144) (by decide +kernel)) (by decide +kernel)
theorem mw_211 : (Cond.fieldLink RX4 18 "PaperBodies$Rim" "beside" "[I") ∈ GL := GLi (List.mem_of_getElem? (i := 146) (by decide +kernel)) (by decide +kernel)
theorem mw_212 : (Cond.methodLink RX4 21 yX0_least) ∈ GL := GLi (List.mem_of_getElem? (i := 643) (by decide +kernel)) (by decide +kernel)
theorem mw_213 : (Cond.methodLink RX4 31 yX0_beside) ∈ GL := GLi (List.mem_of_getElem? (i := 644) (by decide +kernel)) (by decide +kernel)
theorem mw_214 : (Cond.static yX0_beside) ∈ GL := GLi (List.mem_of_getElem? (i := 539) (by decide +kernel)) (by decide +kernel)
theorem mw_215 : (Cond.methodLink RX4 34 yX0_has) ∈ GL := GLi (List.mem_of_getElem? (i := 645) (by decide +kernel)) (by decide +kernel)
theorem mw_216 : (Cond.methodLink RX4 38 yX0_openEdges) ∈ GL := GLi (List.mem_of_getElem? (i := 646) (by decide +kernel)) (by decide +kernel)
theorem mw_217 : (Cond.static yX0_openEdges) ∈ GL := GLi (List.mem_of_getElem? (i := 427) (by decide +kernel)) (by decide +kernel)
theorem mw_218 : (Cond.code yX4_walk cX4_walk 10 (some .boolean)) ∈ GL := GLi (List.mem_of_getElem? (i := 642) (by decide +kernel)) (by decide +kernel)
theorem mw_219 : (Cond.code yX4_tellEdge cX4_tellEdge 3 (some .int)) ∈ GL := GLi (List.mem_of_getElem? (i := 658) (by decide +kernel)) (by decide +kernel)
theorem mw_220 : (Cond.code yX4_sumOfAngles cX4_sumOfAngles 3 (some .int)) ∈ GL := GLi (List.mem_of_getElem? (i := 755) (by decide +kernel)) (by decide +kernel)
theorem mw_221 : (Cond.code yX5_init cX5_init 1 none) ∈ GL := GLi (List.mem_of_getElem? (i := 89) (by decide +kernel)) (by decide +kernel)
theorem mw_222 : (Cond.methodLink RX5 3 objectInit) ∈ GL := GLi (List.mem_of_getElem? (i := 90) (by decide +kernel)) (by decide +kernel)
theorem mw_223 : (Cond.fieldLink RX5 9 "PaperBodies$Row" "places" "[I") ∈ GL := GLi (List.mem_of_getElem? (i := 91) (by decide +kernel)) (by decide +kernel)
theorem mw_224 : (Cond.fieldLink RX5 15 "PaperBodies$Row" "size" "I") ∈ GL := GLi (List.mem_of_getElem? (i := 95) (by decide +kernel)) (by decide +kernel)
theorem mw_225 : (Cond.code yX5_isThere cX5_isThere 1 (some .boolean)) ∈ GL := GLi (List.mem_of_getElem? (i := 600) (by decide +kernel)) (by decide +kernel)
theorem mw_226 : (Cond.code yX5_hasPlace cX5_hasPlace 2 (some .boolean)) ∈ GL := GLi (List.mem_of_getElem? (i := 580) (by decide +kernel)) (by decide +kernel)
theorem mw_227 : (Cond.code yX5_hasPlaces cX5_hasPlaces 3 (some .boolean)) ∈ GL := GLi (List.mem_of_getElem? (i := 780) (by decide +kernel)) (by decide +kernel)
theorem mw_228 : (Cond.code yX5_begin cX5_begin 2 none) ∈ GL := GLi (List.mem_of_getElem? (i := 261) (by decide +kernel)) (by decide +kernel)
theorem mw_229 : (Cond.methodLink RX5 25 Lib.Math.min.name) ∈ GL := GLi (List.mem_of_getElem? (i := 265) (by decide +kernel)) (by decide +kernel)
theorem mw_230 : (Cond.static Lib.Math.min.name) ∈ GL := GLi (List.mem_of_getElem? (i := 266) (by decide +kernel)) (by decide +kernel)
theorem mw_231 : (Cond.initialized "java/lang/Math") ∈ GL := GLi (List.mem_of_getElem? (i := 67) (by decide +kernel)) (by decide +kernel)
theorem mw_232 : (Cond.code Lib.Math.min.name Lib.Math.min.code 2 (some .int)) ∈ GL := GLi (List.mem_of_getElem? (i := 267) (by decide +kernel)) (by decide +kernel)
theorem mw_233 : (Cond.methodLink RX5 31 Lib.Math.max.name) ∈ GL := GLi (List.mem_of_getElem? (i := 268) (by decide +kernel)) (by decide +kernel)
theorem mw_234 : (Cond.static Lib.Math.max.name) ∈ GL := GLi (List.mem_of_getElem? (i := 269) (by decide +kernel)) (by decide +kernel)
theorem mw_235 : (Cond.code Lib.Math.max.name Lib.Math.max.code 2 (some .int)) ∈ GL := GLi (List.mem_of_getElem? (i := 270) (by decide +kernel)) (by decide +kernel)
theorem mw_236 : (Cond.methodLink RX5 19 yJ7_fill_53178) ∈ GL := GLi (List.mem_of_getElem? (i := 262) (by decide +kernel)) (by decide +kernel)
theorem mw_237 : (Cond.code yX5_takeAway cX5_takeAway 1 none) ∈ GL := GLi (List.mem_of_getElem? (i := 772) (by decide +kernel)) (by decide +kernel)
theorem mw_238 : (Cond.code yX5_sum cX5_sum 4 (some .long)) ∈ GL := GLi (List.mem_of_getElem? (i := 789) (by decide +kernel)) (by decide +kernel)
theorem mw_239 : (Cond.code yX5_digestInto cX5_digestInto 6 (some .long)) ∈ GL := GLi (List.mem_of_getElem? (i := 846) (by decide +kernel)) (by decide +kernel)
theorem mw_240 : (Cond.constantLong RX5 34 (31)) ∈ GL := GLi (List.mem_of_getElem? (i := 847) (by decide +kernel)) (by decide +kernel)
theorem mw_241 : (Cond.code yX6_init cX6_init 1 none) ∈ GL := GLi (List.mem_of_getElem? (i := 108) (by decide +kernel)) (by decide +kernel)
theorem mw_242 : (Cond.methodLink RX6 3 objectInit) ∈ GL := GLi (List.mem_of_getElem? (i := 109) (by decide +kernel)) (by decide +kernel)
theorem mw_243 : (Cond.fieldLink RX6 9 "PaperBodies$Sheet" "frames" "[I") ∈ GL := GLi (List.mem_of_getElem? (i := 110) (by decide +kernel)) (by decide +kernel)
theorem mw_244 : (Cond.fieldLink RX6 15 "PaperBodies$Sheet" "order" "[I") ∈ GL := GLi (List.mem_of_getElem? (i := 111) (by decide +kernel)) (by decide +kernel)
theorem mw_245 : (Cond.code yX6_frameAt cX6_frameAt 2 (some .int)) ∈ GL := GLi (List.mem_of_getElem? (i := 537) (by decide +kernel)) (by decide +kernel)
theorem mw_246 : (Cond.fieldLink RX6 18 "PaperBodies$Sheet" "set" "J") ∈ GL := GLi (List.mem_of_getElem? (i := 115) (by decide +kernel)) (by decide +kernel)
theorem mw_247 : (Cond.methodLink RX6 22 yX0_has) ∈ GL := GLi (List.mem_of_getElem? (i := 524) (by decide +kernel)) (by decide +kernel)
theorem mw_248 : (Cond.code yX6_clear cX6_clear 1 none) ∈ GL := GLi (List.mem_of_getElem? (i := 515) (by decide +kernel)) (by decide +kernel)
theorem mw_249 : (Cond.fieldLink RX6 54 "PaperBodies$Sheet" "laid" "I") ∈ GL := GLi (List.mem_of_getElem? (i := 112) (by decide +kernel)) (by decide +kernel)
theorem mw_250 : (Cond.fieldLink RX6 87 "PaperBodies$Sheet" "coveredCells" "I") ∈ GL := GLi (List.mem_of_getElem? (i := 114) (by decide +kernel)) (by decide +kernel)
theorem mw_251 : (Cond.code yX6_covers cX6_covers 2 (some .boolean)) ∈ GL := GLi (List.mem_of_getElem? (i := 529) (by decide +kernel)) (by decide +kernel)
theorem mw_252 : (Cond.code yX6_put cX6_put 4 (some .boolean)) ∈ GL := GLi (List.mem_of_getElem? (i := 520) (by decide +kernel)) (by decide +kernel)
theorem mw_253 : (Cond.methodLink RX6 84 yX6_covers) ∈ GL := GLi (List.mem_of_getElem? (i := 526) (by decide +kernel)) (by decide +kernel)
theorem mw_254 : (Cond.instanceMethod yX6_covers) ∈ GL := GLi (List.mem_of_getElem? (i := 528) (by decide +kernel)) (by decide +kernel)
theorem mw_255 : (Cond.selects RX6 yX6_covers yX6_covers) ∈ GL := GLi (List.mem_of_getElem? (i := 7) (by decide +kernel)) (by decide +kernel)
theorem mw_256 : (Cond.initialized RX6) ∈ GL := GLi (List.mem_of_getElem? (i := 60) (by decide +kernel)) (by decide +kernel)
theorem mw_257 : (Cond.methodLink RX6 60 yX6_frameAt) ∈ GL := GLi (List.mem_of_getElem? (i := 534) (by decide +kernel)) (by decide +kernel)
theorem mw_258 : (Cond.instanceMethod yX6_frameAt) ∈ GL := GLi (List.mem_of_getElem? (i := 535) (by decide +kernel)) (by decide +kernel)
theorem mw_259 : (Cond.selects RX6 yX6_frameAt yX6_frameAt) ∈ GL := GLi (List.mem_of_getElem? (i := 536) (by decide +kernel)) (by decide +kernel)
theorem mw_260 : (Cond.methodLink RX6 64 yX0_beside) ∈ GL := GLi (List.mem_of_getElem? (i := 538) (by decide +kernel)) (by decide +kernel)
theorem mw_261 : (Cond.methodLink RX6 68 yX1_leadsTo) ∈ GL := GLi (List.mem_of_getElem? (i := 543) (by decide +kernel)) (by decide +kernel)
theorem mw_262 : (Cond.instanceMethod yX1_leadsTo) ∈ GL := GLi (List.mem_of_getElem? (i := 497) (by decide +kernel)) (by decide +kernel)
theorem mw_263 : (Cond.selects RX1 yX1_leadsTo yX1_leadsTo) ∈ GL := GLi (List.mem_of_getElem? (i := 498) (by decide +kernel)) (by decide +kernel)
theorem mw_264 : (Cond.methodLink RX6 50 yX6_put) ∈ GL := GLi (List.mem_of_getElem? (i := 517) (by decide +kernel)) (by decide +kernel)
theorem mw_265 : (Cond.instanceMethod yX6_put) ∈ GL := GLi (List.mem_of_getElem? (i := 519) (by decide +kernel)) (by decide +kernel)
theorem mw_266 : (Cond.selects RX6 yX6_put yX6_put) ∈ GL := GLi (List.mem_of_getElem? (i := 6) (by decide +kernel)) (by decide +kernel)
theorem mw_267 : (Cond.code yX6_foldRound cX6_foldRound 10 (some .boolean)) ∈ GL := GLi (List.mem_of_getElem? (i := 533) (by decide +kernel)) (by decide +kernel)
theorem mw_268 : (Cond.methodLink RX6 44 yX6_clear) ∈ GL := GLi (List.mem_of_getElem? (i := 512) (by decide +kernel)) (by decide +kernel)
theorem mw_269 : (Cond.instanceMethod yX6_clear) ∈ GL := GLi (List.mem_of_getElem? (i := 514) (by decide +kernel)) (by decide +kernel)
theorem mw_270 : (Cond.selects RX6 yX6_clear yX6_clear) ∈ GL := GLi (List.mem_of_getElem? (i := 5) (by decide +kernel)) (by decide +kernel)
theorem mw_271 : (Cond.methodLink RX6 47 yX0_least) ∈ GL := GLi (List.mem_of_getElem? (i := 516) (by decide +kernel)) (by decide +kernel)
theorem mw_272 : (Cond.methodLink RX6 57 yX6_foldRound) ∈ GL := GLi (List.mem_of_getElem? (i := 530) (by decide +kernel)) (by decide +kernel)
theorem mw_273 : (Cond.instanceMethod yX6_foldRound) ∈ GL := GLi (List.mem_of_getElem? (i := 532) (by decide +kernel)) (by decide +kernel)
theorem mw_274 : (Cond.selects RX6 yX6_foldRound yX6_foldRound) ∈ GL := GLi (List.mem_of_getElem? (i := 8) (by decide +kernel)) (by decide +kernel)
theorem mw_275 : (Cond.code yX6_fold cX6_fold 6 (some .boolean)) ∈ GL := GLi (List.mem_of_getElem? (i := 511) (by decide +kernel)) (by decide +kernel)
theorem mw_276 : (Cond.methodLink RX6 28 yJ13_bitCount_95d88) ∈ GL := GLi (List.mem_of_getElem? (i := 559) (by decide +kernel)) (by decide +kernel)
theorem mw_277 : (Cond.methodLink RX6 40 yX6_fold) ∈ GL := GLi (List.mem_of_getElem? (i := 560) (by decide +kernel)) (by decide +kernel)
theorem mw_278 : (Cond.instanceMethod yX6_fold) ∈ GL := GLi (List.mem_of_getElem? (i := 509) (by decide +kernel)) (by decide +kernel)
theorem mw_279 : (Cond.selects RX6 yX6_fold yX6_fold) ∈ GL := GLi (List.mem_of_getElem? (i := 510) (by decide +kernel)) (by decide +kernel)
theorem mw_280 : (Cond.code yX6_isWhole cX6_isWhole 5 (some .boolean)) ∈ GL := GLi (List.mem_of_getElem? (i := 558) (by decide +kernel)) (by decide +kernel)
theorem mw_281 : (Cond.methodLink RX6 75 yX5_hasPlace) ∈ GL := GLi (List.mem_of_getElem? (i := 577) (by decide +kernel)) (by decide +kernel)
theorem mw_282 : (Cond.instanceMethod yX5_hasPlace) ∈ GL := GLi (List.mem_of_getElem? (i := 578) (by decide +kernel)) (by decide +kernel)
theorem mw_283 : (Cond.selects RX5 yX5_hasPlace yX5_hasPlace) ∈ GL := GLi (List.mem_of_getElem? (i := 579) (by decide +kernel)) (by decide +kernel)
theorem mw_284 : (Cond.initialized RX5) ∈ GL := GLi (List.mem_of_getElem? (i := 59) (by decide +kernel)) (by decide +kernel)
theorem mw_285 : (Cond.code yX6_layRound cX6_layRound 9 (some .boolean)) ∈ GL := GLi (List.mem_of_getElem? (i := 576) (by decide +kernel)) (by decide +kernel)
theorem mw_286 : (Cond.methodLink RX6 71 yX6_layRound) ∈ GL := GLi (List.mem_of_getElem? (i := 573) (by decide +kernel)) (by decide +kernel)
theorem mw_287 : (Cond.instanceMethod yX6_layRound) ∈ GL := GLi (List.mem_of_getElem? (i := 575) (by decide +kernel)) (by decide +kernel)
theorem mw_288 : (Cond.selects RX6 yX6_layRound yX6_layRound) ∈ GL := GLi (List.mem_of_getElem? (i := 10) (by decide +kernel)) (by decide +kernel)
theorem mw_289 : (Cond.code yX6_layOutFrom cX6_layOutFrom 6 (some .boolean)) ∈ GL := GLi (List.mem_of_getElem? (i := 572) (by decide +kernel)) (by decide +kernel)
theorem mw_290 : (Cond.code yX7_init cX7_init 1 none) ∈ GL := GLi (List.mem_of_getElem? (i := 132) (by decide +kernel)) (by decide +kernel)
theorem mw_291 : (Cond.methodLink RX7 3 objectInit) ∈ GL := GLi (List.mem_of_getElem? (i := 133) (by decide +kernel)) (by decide +kernel)
theorem mw_292 : (Cond.fieldLink RX7 11 "PaperBodies$Unfolding" "spots" "[I") ∈ GL := GLi (List.mem_of_getElem? (i := 134) (by decide +kernel)) (by decide +kernel)
theorem mw_293 : (Cond.code yX7_lengthTo cX7_lengthTo 8 (some .int)) ∈ GL := GLi (List.mem_of_getElem? (i := 616) (by decide +kernel)) (by decide +kernel)
theorem mw_294 : (Cond.constant RX7 33 (1073741824)) ∈ GL := GLi (List.mem_of_getElem? (i := 617) (by decide +kernel)) (by decide +kernel)
theorem mw_295 : (Cond.methodLink RX7 21 yX1_middleOf) ∈ GL := GLi (List.mem_of_getElem? (i := 610) (by decide +kernel)) (by decide +kernel)
theorem mw_296 : (Cond.instanceMethod yX1_middleOf) ∈ GL := GLi (List.mem_of_getElem? (i := 485) (by decide +kernel)) (by decide +kernel)
theorem mw_297 : (Cond.selects RX1 yX1_middleOf yX1_middleOf) ∈ GL := GLi (List.mem_of_getElem? (i := 486) (by decide +kernel)) (by decide +kernel)
theorem mw_298 : (Cond.code yX7_unfold cX7_unfold 8 none) ∈ GL := GLi (List.mem_of_getElem? (i := 620) (by decide +kernel)) (by decide +kernel)
theorem mw_299 : (Cond.methodLink RX7 43 arraycopyName) ∈ GL := GLi (List.mem_of_getElem? (i := 621) (by decide +kernel)) (by decide +kernel)
theorem mw_300 : (Cond.methodLink RX7 49 yX1_signOf) ∈ GL := GLi (List.mem_of_getElem? (i := 624) (by decide +kernel)) (by decide +kernel)
theorem mw_301 : (Cond.methodLink RX7 52 yX1_endAt) ∈ GL := GLi (List.mem_of_getElem? (i := 625) (by decide +kernel)) (by decide +kernel)
theorem mw_302 : (Cond.methodLink RX7 38 Lib.Math.min.name) ∈ GL := GLi (List.mem_of_getElem? (i := 626) (by decide +kernel)) (by decide +kernel)
theorem mw_303 : (Cond.methodLink RX7 17 yX1_sideOf) ∈ GL := GLi (List.mem_of_getElem? (i := 609) (by decide +kernel)) (by decide +kernel)
theorem mw_304 : (Cond.instanceMethod yX1_sideOf) ∈ GL := GLi (List.mem_of_getElem? (i := 480) (by decide +kernel)) (by decide +kernel)
theorem mw_305 : (Cond.selects RX1 yX1_sideOf yX1_sideOf) ∈ GL := GLi (List.mem_of_getElem? (i := 481) (by decide +kernel)) (by decide +kernel)
theorem mw_306 : (Cond.methodLink RX7 29 yX7_lengthTo) ∈ GL := GLi (List.mem_of_getElem? (i := 614) (by decide +kernel)) (by decide +kernel)
theorem mw_307 : (Cond.static yX7_lengthTo) ∈ GL := GLi (List.mem_of_getElem? (i := 615) (by decide +kernel)) (by decide +kernel)
theorem mw_308 : (Cond.initialized RX7) ∈ GL := GLi (List.mem_of_getElem? (i := 61) (by decide +kernel)) (by decide +kernel)
theorem mw_309 : (Cond.methodLink RX7 34 yX7_unfold) ∈ GL := GLi (List.mem_of_getElem? (i := 618) (by decide +kernel)) (by decide +kernel)
theorem mw_310 : (Cond.static yX7_unfold) ∈ GL := GLi (List.mem_of_getElem? (i := 619) (by decide +kernel)) (by decide +kernel)
theorem mw_311 : (Cond.methodLink RX7 25 yX7_shortestFrom) ∈ GL := GLi (List.mem_of_getElem? (i := 611) (by decide +kernel)) (by decide +kernel)
theorem mw_312 : (Cond.static yX7_shortestFrom) ∈ GL := GLi (List.mem_of_getElem? (i := 612) (by decide +kernel)) (by decide +kernel)
theorem mw_313 : (Cond.code yX7_shortestFrom cX7_shortestFrom 9 (some .int)) ∈ GL := GLi (List.mem_of_getElem? (i := 613) (by decide +kernel)) (by decide +kernel)
theorem mw_314 : (Cond.code yX7_shortest cX7_shortest 6 (some .int)) ∈ GL := GLi (List.mem_of_getElem? (i := 608) (by decide +kernel)) (by decide +kernel)
theorem mw_315 : (Cond.methodLink RX8 3 objectInit) ∈ GL := GLi (List.mem_of_getElem? (i := 77) (by decide +kernel)) (by decide +kernel)
theorem mw_316 : (Cond.classLink RX8 9 RX2) ∈ GL := GLi (List.mem_of_getElem? (i := 80) (by decide +kernel)) (by decide +kernel)
theorem mw_317 : (Cond.fieldLink RX8 11 "PaperBodies" "figures" "[LPaperBodies$Figure;") ∈ GL := GLi (List.mem_of_getElem? (i := 271) (by decide +kernel)) (by decide +kernel)
theorem mw_318 : (Cond.classLink RX8 15 RX1) ∈ GL := GLi (List.mem_of_getElem? (i := 82) (by decide +kernel)) (by decide +kernel)
theorem mw_319 : (Cond.fieldLink RX8 17 "PaperBodies" "boxes" "[LPaperBodies$Box;") ∈ GL := GLi (List.mem_of_getElem? (i := 272) (by decide +kernel)) (by decide +kernel)
theorem mw_320 : (Cond.classLink RX8 21 RX5) ∈ GL := GLi (List.mem_of_getElem? (i := 84) (by decide +kernel)) (by decide +kernel)
theorem mw_321 : (Cond.fieldLink RX8 23 "PaperBodies" "rows" "[LPaperBodies$Row;") ∈ GL := GLi (List.mem_of_getElem? (i := 273) (by decide +kernel)) (by decide +kernel)
theorem mw_322 : (Cond.instantiable RX5 2) ∈ GL := GLi (List.mem_of_getElem? (i := 86) (by decide +kernel)) (by decide +kernel)
theorem mw_323 : (Cond.fieldLink RX8 28 "PaperBodies" "allWays" "LPaperBodies$Row;") ∈ GL := GLi (List.mem_of_getElem? (i := 274) (by decide +kernel)) (by decide +kernel)
theorem mw_324 : (Cond.classLink RX8 32 RX6) ∈ GL := GLi (List.mem_of_getElem? (i := 104) (by decide +kernel)) (by decide +kernel)
theorem mw_325 : (Cond.instantiable RX6 5) ∈ GL := GLi (List.mem_of_getElem? (i := 105) (by decide +kernel)) (by decide +kernel)
theorem mw_326 : (Cond.fieldLink RX8 35 "PaperBodies" "folded" "LPaperBodies$Sheet;") ∈ GL := GLi (List.mem_of_getElem? (i := 275) (by decide +kernel)) (by decide +kernel)
theorem mw_327 : (Cond.fieldLink RX8 39 "PaperBodies" "laidOut" "LPaperBodies$Sheet;") ∈ GL := GLi (List.mem_of_getElem? (i := 276) (by decide +kernel)) (by decide +kernel)
theorem mw_328 : (Cond.classLink RX8 42 RX7) ∈ GL := GLi (List.mem_of_getElem? (i := 128) (by decide +kernel)) (by decide +kernel)
theorem mw_329 : (Cond.instantiable RX7 1) ∈ GL := GLi (List.mem_of_getElem? (i := 129) (by decide +kernel)) (by decide +kernel)
theorem mw_330 : (Cond.fieldLink RX8 45 "PaperBodies" "unfolding" "LPaperBodies$Unfolding;") ∈ GL := GLi (List.mem_of_getElem? (i := 277) (by decide +kernel)) (by decide +kernel)
theorem mw_331 : (Cond.classLink RX8 49 RX4) ∈ GL := GLi (List.mem_of_getElem? (i := 138) (by decide +kernel)) (by decide +kernel)
theorem mw_332 : (Cond.instantiable RX4 4) ∈ GL := GLi (List.mem_of_getElem? (i := 139) (by decide +kernel)) (by decide +kernel)
theorem mw_333 : (Cond.fieldLink RX8 52 "PaperBodies" "walked" "LPaperBodies$Rim;") ∈ GL := GLi (List.mem_of_getElem? (i := 278) (by decide +kernel)) (by decide +kernel)
theorem mw_334 : (Cond.classLink RX8 56 RX3) ∈ GL := GLi (List.mem_of_getElem? (i := 159) (by decide +kernel)) (by decide +kernel)
theorem mw_335 : (Cond.instantiable RX3 13) ∈ GL := GLi (List.mem_of_getElem? (i := 160) (by decide +kernel)) (by decide +kernel)
theorem mw_336 : (Cond.fieldLink RX8 59 "PaperBodies" "gluer" "LPaperBodies$Gluer;") ∈ GL := GLi (List.mem_of_getElem? (i := 279) (by decide +kernel)) (by decide +kernel)
theorem mw_337 : (Cond.fieldLink RX8 63 "PaperBodies" "timesFound" "[I") ∈ GL := GLi (List.mem_of_getElem? (i := 280) (by decide +kernel)) (by decide +kernel)
theorem mw_338 : (Cond.instantiable RX2 4) ∈ GL := GLi (List.mem_of_getElem? (i := 207) (by decide +kernel)) (by decide +kernel)
theorem mw_339 : (Cond.instantiable RX1 7) ∈ GL := GLi (List.mem_of_getElem? (i := 229) (by decide +kernel)) (by decide +kernel)
theorem mw_340 : (Cond.instanceMethod yX5_init) ∈ GL := GLi (List.mem_of_getElem? (i := 88) (by decide +kernel)) (by decide +kernel)
theorem mw_341 : (Cond.instanceMethod yX6_init) ∈ GL := GLi (List.mem_of_getElem? (i := 107) (by decide +kernel)) (by decide +kernel)
theorem mw_342 : (Cond.instanceMethod yX7_init) ∈ GL := GLi (List.mem_of_getElem? (i := 131) (by decide +kernel)) (by decide +kernel)
theorem mw_343 : (Cond.instanceMethod yX4_init) ∈ GL := GLi (List.mem_of_getElem? (i := 141) (by decide +kernel)) (by decide +kernel)
theorem mw_344 : (Cond.instanceMethod yX3_init) ∈ GL := GLi (List.mem_of_getElem? (i := 162) (by decide +kernel)) (by decide +kernel)
theorem mw_345 : (Cond.instanceMethod yX2_init) ∈ GL := GLi (List.mem_of_getElem? (i := 209) (by decide +kernel)) (by decide +kernel)
theorem mw_346 : (Cond.instanceMethod yX1_init) ∈ GL := GLi (List.mem_of_getElem? (i := 231) (by decide +kernel)) (by decide +kernel)
theorem mw_347 : (Cond.methodLink RX8 69 yX5_begin) ∈ GL := GLi (List.mem_of_getElem? (i := 258) (by decide +kernel)) (by decide +kernel)
theorem mw_348 : (Cond.instanceMethod yX5_begin) ∈ GL := GLi (List.mem_of_getElem? (i := 259) (by decide +kernel)) (by decide +kernel)
theorem mw_349 : (Cond.selects RX5 yX5_begin yX5_begin) ∈ GL := GLi (List.mem_of_getElem? (i := 260) (by decide +kernel)) (by decide +kernel)
theorem mw_350 : (Cond.code yX8_init cX8_init 2 none) ∈ GL := GLi (List.mem_of_getElem? (i := 76) (by decide +kernel)) (by decide +kernel)
theorem mw_351 : (Cond.code yX8_isFigure cX8_isFigure 1 (some .boolean)) ∈ GL := GLi (List.mem_of_getElem? (i := 320) (by decide +kernel)) (by decide +kernel)
theorem mw_352 : (Cond.methodLink RX8 83 yX8_within) ∈ GL := GLi (List.mem_of_getElem? (i := 321) (by decide +kernel)) (by decide +kernel)
theorem mw_353 : (Cond.methodLink RX8 73 yJ13_bitCount_95d88) ∈ GL := GLi (List.mem_of_getElem? (i := 312) (by decide +kernel)) (by decide +kernel)
theorem mw_354 : (Cond.methodLink RX8 79 yX8_isFigure) ∈ GL := GLi (List.mem_of_getElem? (i := 318) (by decide +kernel)) (by decide +kernel)
theorem mw_355 : (Cond.static yX8_isFigure) ∈ GL := GLi (List.mem_of_getElem? (i := 319) (by decide +kernel)) (by decide +kernel)
theorem mw_356 : (Cond.methodLink RX8 87 yX0_hangsTogether) ∈ GL := GLi (List.mem_of_getElem? (i := 324) (by decide +kernel)) (by decide +kernel)
theorem mw_357 : (Cond.static yX0_hangsTogether) ∈ GL := GLi (List.mem_of_getElem? (i := 325) (by decide +kernel)) (by decide +kernel)
theorem mw_358 : (Cond.methodLink RX8 93 yX2_putPlain) ∈ GL := GLi (List.mem_of_getElem? (i := 331) (by decide +kernel)) (by decide +kernel)
theorem mw_359 : (Cond.instanceMethod yX2_putPlain) ∈ GL := GLi (List.mem_of_getElem? (i := 332) (by decide +kernel)) (by decide +kernel)
theorem mw_360 : (Cond.selects RX2 yX2_putPlain yX2_putPlain) ∈ GL := GLi (List.mem_of_getElem? (i := 333) (by decide +kernel)) (by decide +kernel)
theorem mw_361 : (Cond.code yX8_figure cX8_figure 5 (some .int)) ∈ GL := GLi (List.mem_of_getElem? (i := 311) (by decide +kernel)) (by decide +kernel)
theorem mw_362 : (Cond.code yX8_refuse cX8_refuse 2 (some .int)) ∈ GL := GLi (List.mem_of_getElem? (i := 359) (by decide +kernel)) (by decide +kernel)
theorem mw_363 : (Cond.fieldLink RX8 300 "PaperBodies" "latestFinding" "I") ∈ GL := GLi (List.mem_of_getElem? (i := 281) (by decide +kernel)) (by decide +kernel)
theorem mw_364 : (Cond.methodLink RX8 97 yX2_isThere) ∈ GL := GLi (List.mem_of_getElem? (i := 352) (by decide +kernel)) (by decide +kernel)
theorem mw_365 : (Cond.methodLink RX8 101 yX8_refuse) ∈ GL := GLi (List.mem_of_getElem? (i := 356) (by decide +kernel)) (by decide +kernel)
theorem mw_366 : (Cond.instanceMethod yX8_refuse) ∈ GL := GLi (List.mem_of_getElem? (i := 358) (by decide +kernel)) (by decide +kernel)
theorem mw_367 : (Cond.selects RX8 yX8_refuse yX8_refuse) ∈ GL := GLi (List.mem_of_getElem? (i := 0) (by decide +kernel)) (by decide +kernel)
theorem mw_368 : (Cond.methodLink RX8 105 yX2_takeAway) ∈ GL := GLi (List.mem_of_getElem? (i := 360) (by decide +kernel)) (by decide +kernel)
theorem mw_369 : (Cond.instanceMethod yX2_takeAway) ∈ GL := GLi (List.mem_of_getElem? (i := 361) (by decide +kernel)) (by decide +kernel)
theorem mw_370 : (Cond.selects RX2 yX2_takeAway yX2_takeAway) ∈ GL := GLi (List.mem_of_getElem? (i := 362) (by decide +kernel)) (by decide +kernel)
theorem mw_371 : (Cond.code yX8_drop cX8_drop 2 (some .int)) ∈ GL := GLi (List.mem_of_getElem? (i := 351) (by decide +kernel)) (by decide +kernel)
theorem mw_372 : (Cond.code yX8_isBox cX8_isBox 1 (some .boolean)) ∈ GL := GLi (List.mem_of_getElem? (i := 370) (by decide +kernel)) (by decide +kernel)
theorem mw_373 : (Cond.code yX8_isLength cX8_isLength 1 (some .boolean)) ∈ GL := GLi (List.mem_of_getElem? (i := 373) (by decide +kernel)) (by decide +kernel)
theorem mw_374 : (Cond.methodLink RX8 108 yX8_isBox) ∈ GL := GLi (List.mem_of_getElem? (i := 368) (by decide +kernel)) (by decide +kernel)
theorem mw_375 : (Cond.static yX8_isBox) ∈ GL := GLi (List.mem_of_getElem? (i := 369) (by decide +kernel)) (by decide +kernel)
theorem mw_376 : (Cond.methodLink RX8 111 yX8_isLength) ∈ GL := GLi (List.mem_of_getElem? (i := 371) (by decide +kernel)) (by decide +kernel)
theorem mw_377 : (Cond.static yX8_isLength) ∈ GL := GLi (List.mem_of_getElem? (i := 372) (by decide +kernel)) (by decide +kernel)
theorem mw_378 : (Cond.methodLink RX8 114 yX1_build) ∈ GL := GLi (List.mem_of_getElem? (i := 374) (by decide +kernel)) (by decide +kernel)
theorem mw_379 : (Cond.instanceMethod yX1_build) ∈ GL := GLi (List.mem_of_getElem? (i := 375) (by decide +kernel)) (by decide +kernel)
theorem mw_380 : (Cond.selects RX1 yX1_build yX1_build) ∈ GL := GLi (List.mem_of_getElem? (i := 376) (by decide +kernel)) (by decide +kernel)
theorem mw_381 : (Cond.code yX8_box cX8_box 5 (some .int)) ∈ GL := GLi (List.mem_of_getElem? (i := 367) (by decide +kernel)) (by decide +kernel)
theorem mw_382 : (Cond.methodLink RX8 129 yX0_openEdges) ∈ GL := GLi (List.mem_of_getElem? (i := 426) (by decide +kernel)) (by decide +kernel)
theorem mw_383 : (Cond.methodLink RX8 132 yX0_least) ∈ GL := GLi (List.mem_of_getElem? (i := 429) (by decide +kernel)) (by decide +kernel)
theorem mw_384 : (Cond.code yX8_told cX8_told 4 (some .int)) ∈ GL := GLi (List.mem_of_getElem? (i := 425) (by decide +kernel)) (by decide +kernel)
theorem mw_385 : (Cond.methodLink RX8 135 yX2_isOf) ∈ GL := GLi (List.mem_of_getElem? (i := 434) (by decide +kernel)) (by decide +kernel)
theorem mw_386 : (Cond.instanceMethod yX2_isOf) ∈ GL := GLi (List.mem_of_getElem? (i := 435) (by decide +kernel)) (by decide +kernel)
theorem mw_387 : (Cond.selects RX2 yX2_isOf yX2_isOf) ∈ GL := GLi (List.mem_of_getElem? (i := 436) (by decide +kernel)) (by decide +kernel)
theorem mw_388 : (Cond.methodLink RX8 138 yX0_isLying) ∈ GL := GLi (List.mem_of_getElem? (i := 438) (by decide +kernel)) (by decide +kernel)
theorem mw_389 : (Cond.code yX8_mark cX8_mark 4 (some .int)) ∈ GL := GLi (List.mem_of_getElem? (i := 433) (by decide +kernel)) (by decide +kernel)
theorem mw_390 : (Cond.fieldLink RX8 147 "PaperBodies" "latestTold" "J") ∈ GL := GLi (List.mem_of_getElem? (i := 282) (by decide +kernel)) (by decide +kernel)
theorem mw_391 : (Cond.code yX8_squares cX8_squares 2 (some .int)) ∈ GL := GLi (List.mem_of_getElem? (i := 442) (by decide +kernel)) (by decide +kernel)
theorem mw_392 : (Cond.methodLink RX8 150 yX0_turned) ∈ GL := GLi (List.mem_of_getElem? (i := 447) (by decide +kernel)) (by decide +kernel)
theorem mw_393 : (Cond.code yX8_turn cX8_turn 4 (some .int)) ∈ GL := GLi (List.mem_of_getElem? (i := 446) (by decide +kernel)) (by decide +kernel)
theorem mw_394 : (Cond.methodLink RX8 154 yX0_areAlike) ∈ GL := GLi (List.mem_of_getElem? (i := 460) (by decide +kernel)) (by decide +kernel)
theorem mw_395 : (Cond.static yX0_areAlike) ∈ GL := GLi (List.mem_of_getElem? (i := 461) (by decide +kernel)) (by decide +kernel)
theorem mw_396 : (Cond.code yX8_alike cX8_alike 3 (some .int)) ∈ GL := GLi (List.mem_of_getElem? (i := 459) (by decide +kernel)) (by decide +kernel)
theorem mw_397 : (Cond.code yX8_missingCell cX8_missingCell 2 (some .int)) ∈ GL := GLi (List.mem_of_getElem? (i := 470) (by decide +kernel)) (by decide +kernel)
theorem mw_398 : (Cond.methodLink RX8 199 yX1_isThere) ∈ GL := GLi (List.mem_of_getElem? (i := 471) (by decide +kernel)) (by decide +kernel)
theorem mw_399 : (Cond.methodLink RX8 311 yX1_hasCell) ∈ GL := GLi (List.mem_of_getElem? (i := 475) (by decide +kernel)) (by decide +kernel)
theorem mw_400 : (Cond.methodLink RX8 158 yX8_missingCell) ∈ GL := GLi (List.mem_of_getElem? (i := 468) (by decide +kernel)) (by decide +kernel)
theorem mw_401 : (Cond.static yX8_missingCell) ∈ GL := GLi (List.mem_of_getElem? (i := 469) (by decide +kernel)) (by decide +kernel)
theorem mw_402 : (Cond.methodLink RX8 162 yX1_sideOf) ∈ GL := GLi (List.mem_of_getElem? (i := 479) (by decide +kernel)) (by decide +kernel)
theorem mw_403 : (Cond.methodLink RX8 165 yX1_middleOf) ∈ GL := GLi (List.mem_of_getElem? (i := 484) (by decide +kernel)) (by decide +kernel)
theorem mw_404 : (Cond.code yX8_cell cX8_cell 5 (some .int)) ∈ GL := GLi (List.mem_of_getElem? (i := 467) (by decide +kernel)) (by decide +kernel)
theorem mw_405 : (Cond.code yX8_isQuarter cX8_isQuarter 1 (some .boolean)) ∈ GL := GLi (List.mem_of_getElem? (i := 494) (by decide +kernel)) (by decide +kernel)
theorem mw_406 : (Cond.methodLink RX8 169 yX8_isQuarter) ∈ GL := GLi (List.mem_of_getElem? (i := 492) (by decide +kernel)) (by decide +kernel)
theorem mw_407 : (Cond.static yX8_isQuarter) ∈ GL := GLi (List.mem_of_getElem? (i := 493) (by decide +kernel)) (by decide +kernel)
theorem mw_408 : (Cond.methodLink RX8 172 yX8_frameOf) ∈ GL := GLi (List.mem_of_getElem? (i := 495) (by decide +kernel)) (by decide +kernel)
theorem mw_409 : (Cond.methodLink RX8 175 yX1_leadsTo) ∈ GL := GLi (List.mem_of_getElem? (i := 496) (by decide +kernel)) (by decide +kernel)
theorem mw_410 : (Cond.code yX8_next cX8_next 7 (some .int)) ∈ GL := GLi (List.mem_of_getElem? (i := 491) (by decide +kernel)) (by decide +kernel)
theorem mw_411 : (Cond.code yX8_missingToFold cX8_missingToFold 4 (some .int)) ∈ GL := GLi (List.mem_of_getElem? (i := 507) (by decide +kernel)) (by decide +kernel)
theorem mw_412 : (Cond.methodLink RX8 178 yX8_missingToFold) ∈ GL := GLi (List.mem_of_getElem? (i := 504) (by decide +kernel)) (by decide +kernel)
theorem mw_413 : (Cond.instanceMethod yX8_missingToFold) ∈ GL := GLi (List.mem_of_getElem? (i := 506) (by decide +kernel)) (by decide +kernel)
theorem mw_414 : (Cond.selects RX8 yX8_missingToFold yX8_missingToFold) ∈ GL := GLi (List.mem_of_getElem? (i := 4) (by decide +kernel)) (by decide +kernel)
theorem mw_415 : (Cond.methodLink RX8 182 yX6_fold) ∈ GL := GLi (List.mem_of_getElem? (i := 508) (by decide +kernel)) (by decide +kernel)
theorem mw_416 : (Cond.code yX8_folds cX8_folds 6 (some .int)) ∈ GL := GLi (List.mem_of_getElem? (i := 503) (by decide +kernel)) (by decide +kernel)
theorem mw_417 : (Cond.methodLink RX8 189 yX8_isSquare) ∈ GL := GLi (List.mem_of_getElem? (i := 548) (by decide +kernel)) (by decide +kernel)
theorem mw_418 : (Cond.methodLink RX8 192 yX0_has) ∈ GL := GLi (List.mem_of_getElem? (i := 549) (by decide +kernel)) (by decide +kernel)
theorem mw_419 : (Cond.methodLink RX8 196 yX6_frameAt) ∈ GL := GLi (List.mem_of_getElem? (i := 550) (by decide +kernel)) (by decide +kernel)
theorem mw_420 : (Cond.code yX8_lies cX8_lies 7 (some .int)) ∈ GL := GLi (List.mem_of_getElem? (i := 547) (by decide +kernel)) (by decide +kernel)
theorem mw_421 : (Cond.methodLink RX8 200 yX6_isWhole) ∈ GL := GLi (List.mem_of_getElem? (i := 555) (by decide +kernel)) (by decide +kernel)
theorem mw_422 : (Cond.instanceMethod yX6_isWhole) ∈ GL := GLi (List.mem_of_getElem? (i := 556) (by decide +kernel)) (by decide +kernel)
theorem mw_423 : (Cond.selects RX6 yX6_isWhole yX6_isWhole) ∈ GL := GLi (List.mem_of_getElem? (i := 557) (by decide +kernel)) (by decide +kernel)
theorem mw_424 : (Cond.code yX8_wholes cX8_wholes 6 (some .int)) ∈ GL := GLi (List.mem_of_getElem? (i := 554) (by decide +kernel)) (by decide +kernel)
theorem mw_425 : (Cond.methodLink RX8 314 yX6_layOutFrom) ∈ GL := GLi (List.mem_of_getElem? (i := 569) (by decide +kernel)) (by decide +kernel)
theorem mw_426 : (Cond.instanceMethod yX6_layOutFrom) ∈ GL := GLi (List.mem_of_getElem? (i := 570) (by decide +kernel)) (by decide +kernel)
theorem mw_427 : (Cond.selects RX6 yX6_layOutFrom yX6_layOutFrom) ∈ GL := GLi (List.mem_of_getElem? (i := 571) (by decide +kernel)) (by decide +kernel)
theorem mw_428 : (Cond.methodLink RX8 319 yX2_putNet) ∈ GL := GLi (List.mem_of_getElem? (i := 581) (by decide +kernel)) (by decide +kernel)
theorem mw_429 : (Cond.instanceMethod yX2_putNet) ∈ GL := GLi (List.mem_of_getElem? (i := 582) (by decide +kernel)) (by decide +kernel)
theorem mw_430 : (Cond.selects RX2 yX2_putNet yX2_putNet) ∈ GL := GLi (List.mem_of_getElem? (i := 583) (by decide +kernel)) (by decide +kernel)
theorem mw_431 : (Cond.code yX8_layOutTo cX8_layOutTo 7 (some .int)) ∈ GL := GLi (List.mem_of_getElem? (i := 568) (by decide +kernel)) (by decide +kernel)
theorem mw_432 : (Cond.methodLink RX8 203 yX8_layOutTo) ∈ GL := GLi (List.mem_of_getElem? (i := 565) (by decide +kernel)) (by decide +kernel)
theorem mw_433 : (Cond.instanceMethod yX8_layOutTo) ∈ GL := GLi (List.mem_of_getElem? (i := 567) (by decide +kernel)) (by decide +kernel)
theorem mw_434 : (Cond.selects RX8 yX8_layOutTo yX8_layOutTo) ∈ GL := GLi (List.mem_of_getElem? (i := 9) (by decide +kernel)) (by decide +kernel)
theorem mw_435 : (Cond.code yX8_layOut cX8_layOut 6 (some .int)) ∈ GL := GLi (List.mem_of_getElem? (i := 564) (by decide +kernel)) (by decide +kernel)
theorem mw_436 : (Cond.code yX8_isRow cX8_isRow 1 (some .boolean)) ∈ GL := GLi (List.mem_of_getElem? (i := 596) (by decide +kernel)) (by decide +kernel)
theorem mw_437 : (Cond.methodLink RX8 207 yX8_isRow) ∈ GL := GLi (List.mem_of_getElem? (i := 594) (by decide +kernel)) (by decide +kernel)
theorem mw_438 : (Cond.static yX8_isRow) ∈ GL := GLi (List.mem_of_getElem? (i := 595) (by decide +kernel)) (by decide +kernel)
theorem mw_439 : (Cond.methodLink RX8 210 yX5_isThere) ∈ GL := GLi (List.mem_of_getElem? (i := 597) (by decide +kernel)) (by decide +kernel)
theorem mw_440 : (Cond.instanceMethod yX5_isThere) ∈ GL := GLi (List.mem_of_getElem? (i := 598) (by decide +kernel)) (by decide +kernel)
theorem mw_441 : (Cond.selects RX5 yX5_isThere yX5_isThere) ∈ GL := GLi (List.mem_of_getElem? (i := 599) (by decide +kernel)) (by decide +kernel)
theorem mw_442 : (Cond.code yX8_layOutBy cX8_layOutBy 7 (some .int)) ∈ GL := GLi (List.mem_of_getElem? (i := 593) (by decide +kernel)) (by decide +kernel)
theorem mw_443 : (Cond.methodLink RX8 211 yX7_shortest) ∈ GL := GLi (List.mem_of_getElem? (i := 605) (by decide +kernel)) (by decide +kernel)
theorem mw_444 : (Cond.instanceMethod yX7_shortest) ∈ GL := GLi (List.mem_of_getElem? (i := 606) (by decide +kernel)) (by decide +kernel)
theorem mw_445 : (Cond.selects RX7 yX7_shortest yX7_shortest) ∈ GL := GLi (List.mem_of_getElem? (i := 607) (by decide +kernel)) (by decide +kernel)
theorem mw_446 : (Cond.code yX8_way cX8_way 5 (some .int)) ∈ GL := GLi (List.mem_of_getElem? (i := 604) (by decide +kernel)) (by decide +kernel)
theorem mw_447 : (Cond.code yX8_farthest cX8_farthest 8 (some .int)) ∈ GL := GLi (List.mem_of_getElem? (i := 630) (by decide +kernel)) (by decide +kernel)
theorem mw_448 : (Cond.code yX8_mean cX8_mean 6 (some .int)) ∈ GL := GLi (List.mem_of_getElem? (i := 634) (by decide +kernel)) (by decide +kernel)
theorem mw_449 : (Cond.methodLink RX8 215 yX4_walk) ∈ GL := GLi (List.mem_of_getElem? (i := 639) (by decide +kernel)) (by decide +kernel)
theorem mw_450 : (Cond.instanceMethod yX4_walk) ∈ GL := GLi (List.mem_of_getElem? (i := 640) (by decide +kernel)) (by decide +kernel)
theorem mw_451 : (Cond.selects RX4 yX4_walk yX4_walk) ∈ GL := GLi (List.mem_of_getElem? (i := 641) (by decide +kernel)) (by decide +kernel)
theorem mw_452 : (Cond.code yX8_rim cX8_rim 2 (some .int)) ∈ GL := GLi (List.mem_of_getElem? (i := 638) (by decide +kernel)) (by decide +kernel)
theorem mw_453 : (Cond.methodLink RX8 221 yX4_hasEdge) ∈ GL := GLi (List.mem_of_getElem? (i := 651) (by decide +kernel)) (by decide +kernel)
theorem mw_454 : (Cond.methodLink RX8 224 yX4_tellEdge) ∈ GL := GLi (List.mem_of_getElem? (i := 655) (by decide +kernel)) (by decide +kernel)
theorem mw_455 : (Cond.instanceMethod yX4_tellEdge) ∈ GL := GLi (List.mem_of_getElem? (i := 656) (by decide +kernel)) (by decide +kernel)
theorem mw_456 : (Cond.selects RX4 yX4_tellEdge yX4_tellEdge) ∈ GL := GLi (List.mem_of_getElem? (i := 657) (by decide +kernel)) (by decide +kernel)
theorem mw_457 : (Cond.code yX8_edge cX8_edge 4 (some .int)) ∈ GL := GLi (List.mem_of_getElem? (i := 650) (by decide +kernel)) (by decide +kernel)
theorem mw_458 : (Cond.methodLink RX8 227 yX3_seek) ∈ GL := GLi (List.mem_of_getElem? (i := 664) (by decide +kernel)) (by decide +kernel)
theorem mw_459 : (Cond.instanceMethod yX3_seek) ∈ GL := GLi (List.mem_of_getElem? (i := 665) (by decide +kernel)) (by decide +kernel)
theorem mw_460 : (Cond.selects RX3 yX3_seek yX3_seek) ∈ GL := GLi (List.mem_of_getElem? (i := 666) (by decide +kernel)) (by decide +kernel)
theorem mw_461 : (Cond.code yX8_gluings cX8_gluings 3 (some .int)) ∈ GL := GLi (List.mem_of_getElem? (i := 663) (by decide +kernel)) (by decide +kernel)
theorem mw_462 : (Cond.code yX8_glued cX8_glued 2 (some .int)) ∈ GL := GLi (List.mem_of_getElem? (i := 708) (by decide +kernel)) (by decide +kernel)
theorem mw_463 : (Cond.methodLink RX8 234 yX3_toldPartner) ∈ GL := GLi (List.mem_of_getElem? (i := 709) (by decide +kernel)) (by decide +kernel)
theorem mw_464 : (Cond.instanceMethod yX3_toldPartner) ∈ GL := GLi (List.mem_of_getElem? (i := 710) (by decide +kernel)) (by decide +kernel)
theorem mw_465 : (Cond.selects RX3 yX3_toldPartner yX3_toldPartner) ∈ GL := GLi (List.mem_of_getElem? (i := 711) (by decide +kernel)) (by decide +kernel)
theorem mw_466 : (Cond.code yX8_corners cX8_corners 2 (some .int)) ∈ GL := GLi (List.mem_of_getElem? (i := 716) (by decide +kernel)) (by decide +kernel)
theorem mw_467 : (Cond.methodLink RX8 237 yX3_toldCorners) ∈ GL := GLi (List.mem_of_getElem? (i := 717) (by decide +kernel)) (by decide +kernel)
theorem mw_468 : (Cond.instanceMethod yX3_toldCorners) ∈ GL := GLi (List.mem_of_getElem? (i := 718) (by decide +kernel)) (by decide +kernel)
theorem mw_469 : (Cond.selects RX3 yX3_toldCorners yX3_toldCorners) ∈ GL := GLi (List.mem_of_getElem? (i := 719) (by decide +kernel)) (by decide +kernel)
theorem mw_470 : (Cond.methodLink RX8 240 yX3_take) ∈ GL := GLi (List.mem_of_getElem? (i := 726) (by decide +kernel)) (by decide +kernel)
theorem mw_471 : (Cond.instanceMethod yX3_take) ∈ GL := GLi (List.mem_of_getElem? (i := 727) (by decide +kernel)) (by decide +kernel)
theorem mw_472 : (Cond.selects RX3 yX3_take yX3_take) ∈ GL := GLi (List.mem_of_getElem? (i := 728) (by decide +kernel)) (by decide +kernel)
theorem mw_473 : (Cond.methodLink RX8 244 yX3_gatherCorners) ∈ GL := GLi (List.mem_of_getElem? (i := 738) (by decide +kernel)) (by decide +kernel)
theorem mw_474 : (Cond.methodLink RX8 248 yX3_isLegal) ∈ GL := GLi (List.mem_of_getElem? (i := 739) (by decide +kernel)) (by decide +kernel)
theorem mw_475 : (Cond.methodLink RX8 251 yX3_cornersInAll) ∈ GL := GLi (List.mem_of_getElem? (i := 740) (by decide +kernel)) (by decide +kernel)
theorem mw_476 : (Cond.instanceMethod yX3_cornersInAll) ∈ GL := GLi (List.mem_of_getElem? (i := 741) (by decide +kernel)) (by decide +kernel)
theorem mw_477 : (Cond.selects RX3 yX3_cornersInAll yX3_cornersInAll) ∈ GL := GLi (List.mem_of_getElem? (i := 742) (by decide +kernel)) (by decide +kernel)
theorem mw_478 : (Cond.code yX8_glue cX8_glue 3 (some .int)) ∈ GL := GLi (List.mem_of_getElem? (i := 725) (by decide +kernel)) (by decide +kernel)
theorem mw_479 : (Cond.code yX8_tries cX8_tries 1 (some .int)) ∈ GL := GLi (List.mem_of_getElem? (i := 747) (by decide +kernel)) (by decide +kernel)
theorem mw_480 : (Cond.methodLink RX8 258 yX4_sumOfAngles) ∈ GL := GLi (List.mem_of_getElem? (i := 752) (by decide +kernel)) (by decide +kernel)
theorem mw_481 : (Cond.instanceMethod yX4_sumOfAngles) ∈ GL := GLi (List.mem_of_getElem? (i := 753) (by decide +kernel)) (by decide +kernel)
theorem mw_482 : (Cond.selects RX4 yX4_sumOfAngles yX4_sumOfAngles) ∈ GL := GLi (List.mem_of_getElem? (i := 754) (by decide +kernel)) (by decide +kernel)
theorem mw_483 : (Cond.code yX8_meanAngle cX8_meanAngle 2 (some .int)) ∈ GL := GLi (List.mem_of_getElem? (i := 751) (by decide +kernel)) (by decide +kernel)
theorem mw_484 : (Cond.code yX8_row cX8_row 3 (some .int)) ∈ GL := GLi (List.mem_of_getElem? (i := 759) (by decide +kernel)) (by decide +kernel)
theorem mw_485 : (Cond.methodLink RX8 261 yX5_hasPlace) ∈ GL := GLi (List.mem_of_getElem? (i := 764) (by decide +kernel)) (by decide +kernel)
theorem mw_486 : (Cond.code yX8_lay cX8_lay 4 (some .int)) ∈ GL := GLi (List.mem_of_getElem? (i := 763) (by decide +kernel)) (by decide +kernel)
theorem mw_487 : (Cond.code yX8_tear cX8_tear 2 (some .int)) ∈ GL := GLi (List.mem_of_getElem? (i := 768) (by decide +kernel)) (by decide +kernel)
theorem mw_488 : (Cond.methodLink RX8 267 yX5_takeAway) ∈ GL := GLi (List.mem_of_getElem? (i := 769) (by decide +kernel)) (by decide +kernel)
theorem mw_489 : (Cond.instanceMethod yX5_takeAway) ∈ GL := GLi (List.mem_of_getElem? (i := 770) (by decide +kernel)) (by decide +kernel)
theorem mw_490 : (Cond.selects RX5 yX5_takeAway yX5_takeAway) ∈ GL := GLi (List.mem_of_getElem? (i := 771) (by decide +kernel)) (by decide +kernel)
theorem mw_491 : (Cond.methodLink RX8 272 arraycopyName) ∈ GL := GLi (List.mem_of_getElem? (i := 781) (by decide +kernel)) (by decide +kernel)
theorem mw_492 : (Cond.methodLink RX8 268 yX5_hasPlaces) ∈ GL := GLi (List.mem_of_getElem? (i := 777) (by decide +kernel)) (by decide +kernel)
theorem mw_493 : (Cond.instanceMethod yX5_hasPlaces) ∈ GL := GLi (List.mem_of_getElem? (i := 778) (by decide +kernel)) (by decide +kernel)
theorem mw_494 : (Cond.selects RX5 yX5_hasPlaces yX5_hasPlaces) ∈ GL := GLi (List.mem_of_getElem? (i := 779) (by decide +kernel)) (by decide +kernel)
theorem mw_495 : (Cond.code yX8_copy cX8_copy 6 (some .int)) ∈ GL := GLi (List.mem_of_getElem? (i := 776) (by decide +kernel)) (by decide +kernel)
theorem mw_496 : (Cond.methodLink RX8 281 yX5_sum) ∈ GL := GLi (List.mem_of_getElem? (i := 786) (by decide +kernel)) (by decide +kernel)
theorem mw_497 : (Cond.instanceMethod yX5_sum) ∈ GL := GLi (List.mem_of_getElem? (i := 787) (by decide +kernel)) (by decide +kernel)
theorem mw_498 : (Cond.selects RX5 yX5_sum yX5_sum) ∈ GL := GLi (List.mem_of_getElem? (i := 788) (by decide +kernel)) (by decide +kernel)
theorem mw_499 : (Cond.code yX8_meanRow cX8_meanRow 3 (some .int)) ∈ GL := GLi (List.mem_of_getElem? (i := 785) (by decide +kernel)) (by decide +kernel)
theorem mw_500 : (Cond.code yX8_asked cX8_asked 1 (some .long)) ∈ GL := GLi (List.mem_of_getElem? (i := 793) (by decide +kernel)) (by decide +kernel)
theorem mw_501 : (Cond.code yX8_figuresThere cX8_figuresThere 3 (some .int)) ∈ GL := GLi (List.mem_of_getElem? (i := 801) (by decide +kernel)) (by decide +kernel)
theorem mw_502 : (Cond.code yX8_squaresInAll cX8_squaresInAll 3 (some .int)) ∈ GL := GLi (List.mem_of_getElem? (i := 805) (by decide +kernel)) (by decide +kernel)
theorem mw_503 : (Cond.code yX8_boxesThere cX8_boxesThere 3 (some .int)) ∈ GL := GLi (List.mem_of_getElem? (i := 809) (by decide +kernel)) (by decide +kernel)
theorem mw_504 : (Cond.code yX8_cellsInAll cX8_cellsInAll 3 (some .int)) ∈ GL := GLi (List.mem_of_getElem? (i := 813) (by decide +kernel)) (by decide +kernel)
theorem mw_505 : (Cond.code yX8_rowsThere cX8_rowsThere 3 (some .int)) ∈ GL := GLi (List.mem_of_getElem? (i := 817) (by decide +kernel)) (by decide +kernel)
theorem mw_506 : (Cond.methodLink RX8 285 yX8_figuresThere) ∈ GL := GLi (List.mem_of_getElem? (i := 798) (by decide +kernel)) (by decide +kernel)
theorem mw_507 : (Cond.instanceMethod yX8_figuresThere) ∈ GL := GLi (List.mem_of_getElem? (i := 800) (by decide +kernel)) (by decide +kernel)
theorem mw_508 : (Cond.selects RX8 yX8_figuresThere yX8_figuresThere) ∈ GL := GLi (List.mem_of_getElem? (i := 18) (by decide +kernel)) (by decide +kernel)
theorem mw_509 : (Cond.methodLink RX8 288 yX8_squaresInAll) ∈ GL := GLi (List.mem_of_getElem? (i := 802) (by decide +kernel)) (by decide +kernel)
theorem mw_510 : (Cond.instanceMethod yX8_squaresInAll) ∈ GL := GLi (List.mem_of_getElem? (i := 804) (by decide +kernel)) (by decide +kernel)
theorem mw_511 : (Cond.selects RX8 yX8_squaresInAll yX8_squaresInAll) ∈ GL := GLi (List.mem_of_getElem? (i := 19) (by decide +kernel)) (by decide +kernel)
theorem mw_512 : (Cond.methodLink RX8 291 yX8_boxesThere) ∈ GL := GLi (List.mem_of_getElem? (i := 806) (by decide +kernel)) (by decide +kernel)
theorem mw_513 : (Cond.instanceMethod yX8_boxesThere) ∈ GL := GLi (List.mem_of_getElem? (i := 808) (by decide +kernel)) (by decide +kernel)
theorem mw_514 : (Cond.selects RX8 yX8_boxesThere yX8_boxesThere) ∈ GL := GLi (List.mem_of_getElem? (i := 20) (by decide +kernel)) (by decide +kernel)
theorem mw_515 : (Cond.methodLink RX8 294 yX8_cellsInAll) ∈ GL := GLi (List.mem_of_getElem? (i := 810) (by decide +kernel)) (by decide +kernel)
theorem mw_516 : (Cond.instanceMethod yX8_cellsInAll) ∈ GL := GLi (List.mem_of_getElem? (i := 812) (by decide +kernel)) (by decide +kernel)
theorem mw_517 : (Cond.selects RX8 yX8_cellsInAll yX8_cellsInAll) ∈ GL := GLi (List.mem_of_getElem? (i := 21) (by decide +kernel)) (by decide +kernel)
theorem mw_518 : (Cond.methodLink RX8 297 yX8_rowsThere) ∈ GL := GLi (List.mem_of_getElem? (i := 814) (by decide +kernel)) (by decide +kernel)
theorem mw_519 : (Cond.instanceMethod yX8_rowsThere) ∈ GL := GLi (List.mem_of_getElem? (i := 816) (by decide +kernel)) (by decide +kernel)
theorem mw_520 : (Cond.selects RX8 yX8_rowsThere yX8_rowsThere) ∈ GL := GLi (List.mem_of_getElem? (i := 22) (by decide +kernel)) (by decide +kernel)
theorem mw_521 : (Cond.code yX8_count cX8_count 2 (some .int)) ∈ GL := GLi (List.mem_of_getElem? (i := 797) (by decide +kernel)) (by decide +kernel)
theorem mw_522 : (Cond.code yX8_finding cX8_finding 1 (some .int)) ∈ GL := GLi (List.mem_of_getElem? (i := 821) (by decide +kernel)) (by decide +kernel)
theorem mw_523 : (Cond.code yX8_findings cX8_findings 2 (some .int)) ∈ GL := GLi (List.mem_of_getElem? (i := 825) (by decide +kernel)) (by decide +kernel)
theorem mw_524 : (Cond.constantLong RX8 303 (17)) ∈ GL := GLi (List.mem_of_getElem? (i := 830) (by decide +kernel)) (by decide +kernel)
theorem mw_525 : (Cond.methodLink RX8 305 yX2_digestInto) ∈ GL := GLi (List.mem_of_getElem? (i := 831) (by decide +kernel)) (by decide +kernel)
theorem mw_526 : (Cond.instanceMethod yX2_digestInto) ∈ GL := GLi (List.mem_of_getElem? (i := 832) (by decide +kernel)) (by decide +kernel)
theorem mw_527 : (Cond.selects RX2 yX2_digestInto yX2_digestInto) ∈ GL := GLi (List.mem_of_getElem? (i := 833) (by decide +kernel)) (by decide +kernel)
theorem mw_528 : (Cond.methodLink RX8 309 yX1_digestInto) ∈ GL := GLi (List.mem_of_getElem? (i := 837) (by decide +kernel)) (by decide +kernel)
theorem mw_529 : (Cond.instanceMethod yX1_digestInto) ∈ GL := GLi (List.mem_of_getElem? (i := 838) (by decide +kernel)) (by decide +kernel)
theorem mw_530 : (Cond.selects RX1 yX1_digestInto yX1_digestInto) ∈ GL := GLi (List.mem_of_getElem? (i := 839) (by decide +kernel)) (by decide +kernel)
theorem mw_531 : (Cond.methodLink RX8 310 yX5_digestInto) ∈ GL := GLi (List.mem_of_getElem? (i := 843) (by decide +kernel)) (by decide +kernel)
theorem mw_532 : (Cond.instanceMethod yX5_digestInto) ∈ GL := GLi (List.mem_of_getElem? (i := 844) (by decide +kernel)) (by decide +kernel)
theorem mw_533 : (Cond.selects RX5 yX5_digestInto yX5_digestInto) ∈ GL := GLi (List.mem_of_getElem? (i := 845) (by decide +kernel)) (by decide +kernel)
theorem mw_534 : (Cond.code yX8_digest cX8_digest 4 (some .long)) ∈ GL := GLi (List.mem_of_getElem? (i := 829) (by decide +kernel)) (by decide +kernel)
theorem mw_535 : (Cond.methodLink RX9 1 objectInit) ∈ GL := GLi (List.mem_of_getElem? (i := 853) (by decide +kernel)) (by decide +kernel)
theorem mw_536 : (Cond.fieldLink RX9 7 "PaperBodiesModel" "findings" "[I") ∈ GL := GLi (List.mem_of_getElem? (i := 855) (by decide +kernel)) (by decide +kernel)
theorem mw_537 : (Cond.arrayClass .long) ∈ GL := GLi (List.mem_of_getElem? (i := 984) (by decide +kernel)) (by decide +kernel)
theorem mw_538 : (Cond.fieldLink RX9 13 "PaperBodiesModel" "figures" "[J") ∈ GL := GLi (List.mem_of_getElem? (i := 857) (by decide +kernel)) (by decide +kernel)
theorem mw_539 : (Cond.fieldLink RX9 17 "PaperBodiesModel" "kinds" "[I") ∈ GL := GLi (List.mem_of_getElem? (i := 858) (by decide +kernel)) (by decide +kernel)
theorem mw_540 : (Cond.fieldLink RX9 20 "PaperBodiesModel" "marks" "[I") ∈ GL := GLi (List.mem_of_getElem? (i := 859) (by decide +kernel)) (by decide +kernel)
theorem mw_541 : (Cond.fieldLink RX9 23 "PaperBodiesModel" "ends" "[I") ∈ GL := GLi (List.mem_of_getElem? (i := 860) (by decide +kernel)) (by decide +kernel)
theorem mw_542 : (Cond.fieldLink RX9 26 "PaperBodiesModel" "dims" "[I") ∈ GL := GLi (List.mem_of_getElem? (i := 861) (by decide +kernel)) (by decide +kernel)
theorem mw_543 : (Cond.fieldLink RX9 29 "PaperBodiesModel" "at" "[I") ∈ GL := GLi (List.mem_of_getElem? (i := 863) (by decide +kernel)) (by decide +kernel)
theorem mw_544 : (Cond.fieldLink RX9 32 "PaperBodiesModel" "onCell" "[I") ∈ GL := GLi (List.mem_of_getElem? (i := 866) (by decide +kernel)) (by decide +kernel)
theorem mw_545 : (Cond.fieldLink RX9 35 "PaperBodiesModel" "onTurn" "[I") ∈ GL := GLi (List.mem_of_getElem? (i := 867) (by decide +kernel)) (by decide +kernel)
theorem mw_546 : (Cond.fieldLink RX9 38 "PaperBodiesModel" "queue" "[I") ∈ GL := GLi (List.mem_of_getElem? (i := 868) (by decide +kernel)) (by decide +kernel)
theorem mw_547 : (Cond.fieldLink RX9 41 "PaperBodiesModel" "laidAt" "[I") ∈ GL := GLi (List.mem_of_getElem? (i := 869) (by decide +kernel)) (by decide +kernel)
theorem mw_548 : (Cond.fieldLink RX9 44 "PaperBodiesModel" "laidTurn" "[I") ∈ GL := GLi (List.mem_of_getElem? (i := 870) (by decide +kernel)) (by decide +kernel)
theorem mw_549 : (Cond.fieldLink RX9 47 "PaperBodiesModel" "sideRow" "[I") ∈ GL := GLi (List.mem_of_getElem? (i := 871) (by decide +kernel)) (by decide +kernel)
theorem mw_550 : (Cond.fieldLink RX9 50 "PaperBodiesModel" "rightRow" "[I") ∈ GL := GLi (List.mem_of_getElem? (i := 872) (by decide +kernel)) (by decide +kernel)
theorem mw_551 : (Cond.fieldLink RX9 53 "PaperBodiesModel" "upRow" "[I") ∈ GL := GLi (List.mem_of_getElem? (i := 873) (by decide +kernel)) (by decide +kernel)
theorem mw_552 : (Cond.fieldLink RX9 56 "PaperBodiesModel" "pointRow" "[I") ∈ GL := GLi (List.mem_of_getElem? (i := 874) (by decide +kernel)) (by decide +kernel)
theorem mw_553 : (Cond.fieldLink RX9 59 "PaperBodiesModel" "planeX" "[I") ∈ GL := GLi (List.mem_of_getElem? (i := 875) (by decide +kernel)) (by decide +kernel)
theorem mw_554 : (Cond.fieldLink RX9 62 "PaperBodiesModel" "planeY" "[I") ∈ GL := GLi (List.mem_of_getElem? (i := 876) (by decide +kernel)) (by decide +kernel)
theorem mw_555 : (Cond.fieldLink RX9 65 "PaperBodiesModel" "wayRow" "[I") ∈ GL := GLi (List.mem_of_getElem? (i := 877) (by decide +kernel)) (by decide +kernel)
theorem mw_556 : (Cond.fieldLink RX9 68 "PaperBodiesModel" "goal" "[I") ∈ GL := GLi (List.mem_of_getElem? (i := 878) (by decide +kernel)) (by decide +kernel)
theorem mw_557 : (Cond.fieldLink RX9 71 "PaperBodiesModel" "edgeWay" "[I") ∈ GL := GLi (List.mem_of_getElem? (i := 880) (by decide +kernel)) (by decide +kernel)
theorem mw_558 : (Cond.fieldLink RX9 74 "PaperBodiesModel" "edgeSquare" "[I") ∈ GL := GLi (List.mem_of_getElem? (i := 881) (by decide +kernel)) (by decide +kernel)
theorem mw_559 : (Cond.fieldLink RX9 77 "PaperBodiesModel" "angles" "[I") ∈ GL := GLi (List.mem_of_getElem? (i := 882) (by decide +kernel)) (by decide +kernel)
theorem mw_560 : (Cond.fieldLink RX9 80 "PaperBodiesModel" "partner" "[I") ∈ GL := GLi (List.mem_of_getElem? (i := 883) (by decide +kernel)) (by decide +kernel)
theorem mw_561 : (Cond.fieldLink RX9 83 "PaperBodiesModel" "together" "[I") ∈ GL := GLi (List.mem_of_getElem? (i := 884) (by decide +kernel)) (by decide +kernel)
theorem mw_562 : (Cond.fieldLink RX9 86 "PaperBodiesModel" "corner" "[I") ∈ GL := GLi (List.mem_of_getElem? (i := 885) (by decide +kernel)) (by decide +kernel)
theorem mw_563 : (Cond.fieldLink RX9 89 "PaperBodiesModel" "firstGlued" "[I") ∈ GL := GLi (List.mem_of_getElem? (i := 888) (by decide +kernel)) (by decide +kernel)
theorem mw_564 : (Cond.fieldLink RX9 92 "PaperBodiesModel" "firstCorner" "[I") ∈ GL := GLi (List.mem_of_getElem? (i := 889) (by decide +kernel)) (by decide +kernel)
theorem mw_565 : (Cond.fieldLink RX9 95 "PaperBodiesModel" "glued" "[I") ∈ GL := GLi (List.mem_of_getElem? (i := 891) (by decide +kernel)) (by decide +kernel)
theorem mw_566 : (Cond.fieldLink RX9 98 "PaperBodiesModel" "heldGlued" "[I") ∈ GL := GLi (List.mem_of_getElem? (i := 892) (by decide +kernel)) (by decide +kernel)
theorem mw_567 : (Cond.fieldLink RX9 101 "PaperBodiesModel" "heldCorner" "[I") ∈ GL := GLi (List.mem_of_getElem? (i := 893) (by decide +kernel)) (by decide +kernel)
theorem mw_568 : (Cond.fieldLink RX9 104 "PaperBodiesModel" "sizes" "[I") ∈ GL := GLi (List.mem_of_getElem? (i := 894) (by decide +kernel)) (by decide +kernel)
theorem mw_569 : (Cond.fieldLink RX9 107 "PaperBodiesModel" "rows" "[I") ∈ GL := GLi (List.mem_of_getElem? (i := 895) (by decide +kernel)) (by decide +kernel)
theorem mw_570 : (Cond.fieldLink RX9 110 "PaperBodiesModel" "moving" "[I") ∈ GL := GLi (List.mem_of_getElem? (i := 896) (by decide +kernel)) (by decide +kernel)
theorem mw_571 : (Cond.code yX9_init cX9_init 2 none) ∈ GL := GLi (List.mem_of_getElem? (i := 852) (by decide +kernel)) (by decide +kernel)
theorem mw_572 : (Cond.code yX9_in cX9_in 3 (some .boolean)) ∈ GL := GLi (List.mem_of_getElem? (i := 997) (by decide +kernel)) (by decide +kernel)
theorem mw_573 : (Cond.code yX9_meets cX9_meets 2 (some .int)) ∈ GL := GLi (List.mem_of_getElem? (i := 1029) (by decide +kernel)) (by decide +kernel)
theorem mw_574 : (Cond.fieldLink RX9 113 "PaperBodiesModel" "finding" "I") ∈ GL := GLi (List.mem_of_getElem? (i := 854) (by decide +kernel)) (by decide +kernel)
theorem mw_575 : (Cond.code yX9_ask cX9_ask 4 (some .int)) ∈ GL := GLi (List.mem_of_getElem? (i := 1048) (by decide +kernel)) (by decide +kernel)
theorem mw_576 : (Cond.fieldLink RX9 117 "PaperBodiesModel" "asked" "J") ∈ GL := GLi (List.mem_of_getElem? (i := 856) (by decide +kernel)) (by decide +kernel)
theorem mw_577 : (Cond.code yX9_isFigure cX9_isFigure 1 (some .boolean)) ∈ GL := GLi (List.mem_of_getElem? (i := 994) (by decide +kernel)) (by decide +kernel)
theorem mw_578 : (Cond.methodLink RX9 121 yX9_in) ∈ GL := GLi (List.mem_of_getElem? (i := 995) (by decide +kernel)) (by decide +kernel)
theorem mw_579 : (Cond.static yX9_in) ∈ GL := GLi (List.mem_of_getElem? (i := 996) (by decide +kernel)) (by decide +kernel)
theorem mw_580 : (Cond.initialized RX9) ∈ GL := GLi (List.mem_of_getElem? (i := 68) (by decide +kernel)) (by decide +kernel)
theorem mw_581 : (Cond.code yX9_isBox cX9_isBox 1 (some .boolean)) ∈ GL := GLi (List.mem_of_getElem? (i := 1067) (by decide +kernel)) (by decide +kernel)
theorem mw_582 : (Cond.code yX9_looked cX9_looked 2 (some .int)) ∈ GL := GLi (List.mem_of_getElem? (i := 1025) (by decide +kernel)) (by decide +kernel)
theorem mw_583 : (Cond.methodLink RX9 125 yX9_isFigure) ∈ GL := GLi (List.mem_of_getElem? (i := 992) (by decide +kernel)) (by decide +kernel)
theorem mw_584 : (Cond.static yX9_isFigure) ∈ GL := GLi (List.mem_of_getElem? (i := 993) (by decide +kernel)) (by decide +kernel)
theorem mw_585 : (Cond.methodLink RX9 129 yX9_meets) ∈ GL := GLi (List.mem_of_getElem? (i := 1026) (by decide +kernel)) (by decide +kernel)
theorem mw_586 : (Cond.instanceMethod yX9_meets) ∈ GL := GLi (List.mem_of_getElem? (i := 1028) (by decide +kernel)) (by decide +kernel)
theorem mw_587 : (Cond.selects RX9 yX9_meets yX9_meets) ∈ GL := GLi (List.mem_of_getElem? (i := 26) (by decide +kernel)) (by decide +kernel)
theorem mw_588 : (Cond.code yX9_bits cX9_bits 4 (some .int)) ∈ GL := GLi (List.mem_of_getElem? (i := 991) (by decide +kernel)) (by decide +kernel)
theorem mw_589 : (Cond.code yX9_has cX9_has 3 (some .boolean)) ∈ GL := GLi (List.mem_of_getElem? (i := 1006) (by decide +kernel)) (by decide +kernel)
theorem mw_590 : (Cond.code yX9_beside cX9_beside 4 (some .int)) ∈ GL := GLi (List.mem_of_getElem? (i := 1009) (by decide +kernel)) (by decide +kernel)
theorem mw_591 : (Cond.code yX9_leastOf cX9_leastOf 3 (some .int)) ∈ GL := GLi (List.mem_of_getElem? (i := 1003) (by decide +kernel)) (by decide +kernel)
theorem mw_592 : (Cond.methodLink RX9 133 yX9_has) ∈ GL := GLi (List.mem_of_getElem? (i := 1004) (by decide +kernel)) (by decide +kernel)
theorem mw_593 : (Cond.static yX9_has) ∈ GL := GLi (List.mem_of_getElem? (i := 1005) (by decide +kernel)) (by decide +kernel)
theorem mw_594 : (Cond.code yX9_hangs cX9_hangs 10 (some .boolean)) ∈ GL := GLi (List.mem_of_getElem? (i := 1000) (by decide +kernel)) (by decide +kernel)
theorem mw_595 : (Cond.methodLink RX9 137 yX9_leastOf) ∈ GL := GLi (List.mem_of_getElem? (i := 1001) (by decide +kernel)) (by decide +kernel)
theorem mw_596 : (Cond.static yX9_leastOf) ∈ GL := GLi (List.mem_of_getElem? (i := 1002) (by decide +kernel)) (by decide +kernel)
theorem mw_597 : (Cond.methodLink RX9 141 yX9_beside) ∈ GL := GLi (List.mem_of_getElem? (i := 1007) (by decide +kernel)) (by decide +kernel)
theorem mw_598 : (Cond.static yX9_beside) ∈ GL := GLi (List.mem_of_getElem? (i := 1008) (by decide +kernel)) (by decide +kernel)
theorem mw_599 : (Cond.code yX9_setEnds cX9_setEnds 4 none) ∈ GL := GLi (List.mem_of_getElem? (i := 1017) (by decide +kernel)) (by decide +kernel)
theorem mw_600 : (Cond.code yX9_keep cX9_keep 4 none) ∈ GL := GLi (List.mem_of_getElem? (i := 1013) (by decide +kernel)) (by decide +kernel)
theorem mw_601 : (Cond.methodLink RX9 145 yX9_setEnds) ∈ GL := GLi (List.mem_of_getElem? (i := 1014) (by decide +kernel)) (by decide +kernel)
theorem mw_602 : (Cond.instanceMethod yX9_setEnds) ∈ GL := GLi (List.mem_of_getElem? (i := 1016) (by decide +kernel)) (by decide +kernel)
theorem mw_603 : (Cond.selects RX9 yX9_setEnds yX9_setEnds) ∈ GL := GLi (List.mem_of_getElem? (i := 24) (by decide +kernel)) (by decide +kernel)
theorem mw_604 : (Cond.methodLink RX9 149 yX9_bits) ∈ GL := GLi (List.mem_of_getElem? (i := 989) (by decide +kernel)) (by decide +kernel)
theorem mw_605 : (Cond.static yX9_bits) ∈ GL := GLi (List.mem_of_getElem? (i := 990) (by decide +kernel)) (by decide +kernel)
theorem mw_606 : (Cond.methodLink RX9 152 yX9_hangs) ∈ GL := GLi (List.mem_of_getElem? (i := 998) (by decide +kernel)) (by decide +kernel)
theorem mw_607 : (Cond.static yX9_hangs) ∈ GL := GLi (List.mem_of_getElem? (i := 999) (by decide +kernel)) (by decide +kernel)
theorem mw_608 : (Cond.methodLink RX9 156 yX9_keep) ∈ GL := GLi (List.mem_of_getElem? (i := 1010) (by decide +kernel)) (by decide +kernel)
theorem mw_609 : (Cond.instanceMethod yX9_keep) ∈ GL := GLi (List.mem_of_getElem? (i := 1012) (by decide +kernel)) (by decide +kernel)
theorem mw_610 : (Cond.selects RX9 yX9_keep yX9_keep) ∈ GL := GLi (List.mem_of_getElem? (i := 23) (by decide +kernel)) (by decide +kernel)
theorem mw_611 : (Cond.code yX9_figure cX9_figure 5 (some .int)) ∈ GL := GLi (List.mem_of_getElem? (i := 988) (by decide +kernel)) (by decide +kernel)
theorem mw_612 : (Cond.code yX9_drop cX9_drop 3 (some .int)) ∈ GL := GLi (List.mem_of_getElem? (i := 1021) (by decide +kernel)) (by decide +kernel)
theorem mw_613 : (Cond.methodLink RX9 160 yX9_looked) ∈ GL := GLi (List.mem_of_getElem? (i := 1022) (by decide +kernel)) (by decide +kernel)
theorem mw_614 : (Cond.instanceMethod yX9_looked) ∈ GL := GLi (List.mem_of_getElem? (i := 1024) (by decide +kernel)) (by decide +kernel)
theorem mw_615 : (Cond.selects RX9 yX9_looked yX9_looked) ∈ GL := GLi (List.mem_of_getElem? (i := 25) (by decide +kernel)) (by decide +kernel)
theorem mw_616 : (Cond.code yX9_rimOf cX9_rimOf 5 (some .int)) ∈ GL := GLi (List.mem_of_getElem? (i := 1036) (by decide +kernel)) (by decide +kernel)
theorem mw_617 : (Cond.methodLink RX9 163 yX9_rimOf) ∈ GL := GLi (List.mem_of_getElem? (i := 1034) (by decide +kernel)) (by decide +kernel)
theorem mw_618 : (Cond.static yX9_rimOf) ∈ GL := GLi (List.mem_of_getElem? (i := 1035) (by decide +kernel)) (by decide +kernel)
theorem mw_619 : (Cond.code yX9_told cX9_told 4 (some .int)) ∈ GL := GLi (List.mem_of_getElem? (i := 1033) (by decide +kernel)) (by decide +kernel)
theorem mw_620 : (Cond.code yX9_mark cX9_mark 4 (some .int)) ∈ GL := GLi (List.mem_of_getElem? (i := 1040) (by decide +kernel)) (by decide +kernel)
theorem mw_621 : (Cond.methodLink RX9 166 yX9_ask) ∈ GL := GLi (List.mem_of_getElem? (i := 1045) (by decide +kernel)) (by decide +kernel)
theorem mw_622 : (Cond.instanceMethod yX9_ask) ∈ GL := GLi (List.mem_of_getElem? (i := 1047) (by decide +kernel)) (by decide +kernel)
theorem mw_623 : (Cond.selects RX9 yX9_ask yX9_ask) ∈ GL := GLi (List.mem_of_getElem? (i := 27) (by decide +kernel)) (by decide +kernel)
theorem mw_624 : (Cond.code yX9_squares cX9_squares 3 (some .int)) ∈ GL := GLi (List.mem_of_getElem? (i := 1044) (by decide +kernel)) (by decide +kernel)
theorem mw_625 : (Cond.code yX9_putDown cX9_putDown 13 (some .long)) ∈ GL := GLi (List.mem_of_getElem? (i := 1056) (by decide +kernel)) (by decide +kernel)
theorem mw_626 : (Cond.methodLink RX9 170 yX9_putDown) ∈ GL := GLi (List.mem_of_getElem? (i := 1053) (by decide +kernel)) (by decide +kernel)
theorem mw_627 : (Cond.instanceMethod yX9_putDown) ∈ GL := GLi (List.mem_of_getElem? (i := 1055) (by decide +kernel)) (by decide +kernel)
theorem mw_628 : (Cond.selects RX9 yX9_putDown yX9_putDown) ∈ GL := GLi (List.mem_of_getElem? (i := 28) (by decide +kernel)) (by decide +kernel)
theorem mw_629 : (Cond.code yX9_turn cX9_turn 5 (some .int)) ∈ GL := GLi (List.mem_of_getElem? (i := 1052) (by decide +kernel)) (by decide +kernel)
theorem mw_630 : (Cond.code yX9_alike cX9_alike 7 (some .int)) ∈ GL := GLi (List.mem_of_getElem? (i := 1060) (by decide +kernel)) (by decide +kernel)
theorem mw_631 : (Cond.code yX9_lookedBox cX9_lookedBox 2 (some .int)) ∈ GL := GLi (List.mem_of_getElem? (i := 1082) (by decide +kernel)) (by decide +kernel)
theorem mw_632 : (Cond.methodLink RX9 174 yX9_isBox) ∈ GL := GLi (List.mem_of_getElem? (i := 1065) (by decide +kernel)) (by decide +kernel)
theorem mw_633 : (Cond.static yX9_isBox) ∈ GL := GLi (List.mem_of_getElem? (i := 1066) (by decide +kernel)) (by decide +kernel)
theorem mw_634 : (Cond.code yX9_cellsOf cX9_cellsOf 3 (some .int)) ∈ GL := GLi (List.mem_of_getElem? (i := 1070) (by decide +kernel)) (by decide +kernel)
theorem mw_635 : (Cond.code yX9_cells cX9_cells 2 (some .int)) ∈ GL := GLi (List.mem_of_getElem? (i := 1074) (by decide +kernel)) (by decide +kernel)
theorem mw_636 : (Cond.methodLink RX9 177 yX9_cellsOf) ∈ GL := GLi (List.mem_of_getElem? (i := 1068) (by decide +kernel)) (by decide +kernel)
theorem mw_637 : (Cond.static yX9_cellsOf) ∈ GL := GLi (List.mem_of_getElem? (i := 1069) (by decide +kernel)) (by decide +kernel)
theorem mw_638 : (Cond.code yX9_box cX9_box 5 (some .int)) ∈ GL := GLi (List.mem_of_getElem? (i := 1064) (by decide +kernel)) (by decide +kernel)
theorem mw_639 : (Cond.methodLink RX9 181 yX9_cells) ∈ GL := GLi (List.mem_of_getElem? (i := 1071) (by decide +kernel)) (by decide +kernel)
theorem mw_640 : (Cond.instanceMethod yX9_cells) ∈ GL := GLi (List.mem_of_getElem? (i := 1073) (by decide +kernel)) (by decide +kernel)
theorem mw_641 : (Cond.selects RX9 yX9_cells yX9_cells) ∈ GL := GLi (List.mem_of_getElem? (i := 29) (by decide +kernel)) (by decide +kernel)
theorem mw_642 : (Cond.code yX9_sign cX9_sign 1 (some .int)) ∈ GL := GLi (List.mem_of_getElem? (i := 1114) (by decide +kernel)) (by decide +kernel)
theorem mw_643 : (Cond.code yX9_cross cX9_cross 4 (some .int)) ∈ GL := GLi (List.mem_of_getElem? (i := 1111) (by decide +kernel)) (by decide +kernel)
theorem mw_644 : (Cond.methodLink RX9 184 yX9_sign) ∈ GL := GLi (List.mem_of_getElem? (i := 1112) (by decide +kernel)) (by decide +kernel)
theorem mw_645 : (Cond.static yX9_sign) ∈ GL := GLi (List.mem_of_getElem? (i := 1113) (by decide +kernel)) (by decide +kernel)
theorem mw_646 : (Cond.code yX9_baseUp cX9_baseUp 1 (some .int)) ∈ GL := GLi (List.mem_of_getElem? (i := 1108) (by decide +kernel)) (by decide +kernel)
theorem mw_647 : (Cond.code yX9_baseRight cX9_baseRight 1 (some .int)) ∈ GL := GLi (List.mem_of_getElem? (i := 1105) (by decide +kernel)) (by decide +kernel)
theorem mw_648 : (Cond.methodLink RX9 187 yX9_baseUp) ∈ GL := GLi (List.mem_of_getElem? (i := 1106) (by decide +kernel)) (by decide +kernel)
theorem mw_649 : (Cond.static yX9_baseUp) ∈ GL := GLi (List.mem_of_getElem? (i := 1107) (by decide +kernel)) (by decide +kernel)
theorem mw_650 : (Cond.methodLink RX9 190 yX9_cross) ∈ GL := GLi (List.mem_of_getElem? (i := 1109) (by decide +kernel)) (by decide +kernel)
theorem mw_651 : (Cond.static yX9_cross) ∈ GL := GLi (List.mem_of_getElem? (i := 1110) (by decide +kernel)) (by decide +kernel)
theorem mw_652 : (Cond.code yX9_setFrame cX9_setFrame 4 none) ∈ GL := GLi (List.mem_of_getElem? (i := 1102) (by decide +kernel)) (by decide +kernel)
theorem mw_653 : (Cond.fieldLink RX9 193 "PaperBodiesModel" "side" "I") ∈ GL := GLi (List.mem_of_getElem? (i := 862) (by decide +kernel)) (by decide +kernel)
theorem mw_654 : (Cond.fieldLink RX9 199 "PaperBodiesModel" "right" "I") ∈ GL := GLi (List.mem_of_getElem? (i := 864) (by decide +kernel)) (by decide +kernel)
theorem mw_655 : (Cond.fieldLink RX9 202 "PaperBodiesModel" "up" "I") ∈ GL := GLi (List.mem_of_getElem? (i := 865) (by decide +kernel)) (by decide +kernel)
theorem mw_656 : (Cond.methodLink RX9 196 yX9_baseRight) ∈ GL := GLi (List.mem_of_getElem? (i := 1103) (by decide +kernel)) (by decide +kernel)
theorem mw_657 : (Cond.static yX9_baseRight) ∈ GL := GLi (List.mem_of_getElem? (i := 1104) (by decide +kernel)) (by decide +kernel)
theorem mw_658 : (Cond.code yX9_turnNow cX9_turnNow 3 (some .int)) ∈ GL := GLi (List.mem_of_getElem? (i := 1130) (by decide +kernel)) (by decide +kernel)
theorem mw_659 : (Cond.code yX9_sideSize cX9_sideSize 4 (some .int)) ∈ GL := GLi (List.mem_of_getElem? (i := 1094) (by decide +kernel)) (by decide +kernel)
theorem mw_660 : (Cond.code yX9_goTo cX9_goTo 7 none) ∈ GL := GLi (List.mem_of_getElem? (i := 1090) (by decide +kernel)) (by decide +kernel)
theorem mw_661 : (Cond.methodLink RX9 205 yX9_sideSize) ∈ GL := GLi (List.mem_of_getElem? (i := 1091) (by decide +kernel)) (by decide +kernel)
theorem mw_662 : (Cond.instanceMethod yX9_sideSize) ∈ GL := GLi (List.mem_of_getElem? (i := 1093) (by decide +kernel)) (by decide +kernel)
theorem mw_663 : (Cond.selects RX9 yX9_sideSize yX9_sideSize) ∈ GL := GLi (List.mem_of_getElem? (i := 33) (by decide +kernel)) (by decide +kernel)
theorem mw_664 : (Cond.code yX9_cellNow cX9_cellNow 6 (some .int)) ∈ GL := GLi (List.mem_of_getElem? (i := 1134) (by decide +kernel)) (by decide +kernel)
theorem mw_665 : (Cond.code yX9_wayNow cX9_wayNow 2 (some .int)) ∈ GL := GLi (List.mem_of_getElem? (i := 1122) (by decide +kernel)) (by decide +kernel)
theorem mw_666 : (Cond.code yX9_bend cX9_bend 4 none) ∈ GL := GLi (List.mem_of_getElem? (i := 1126) (by decide +kernel)) (by decide +kernel)
theorem mw_667 : (Cond.code yX9_go cX9_go 6 none) ∈ GL := GLi (List.mem_of_getElem? (i := 1118) (by decide +kernel)) (by decide +kernel)
theorem mw_668 : (Cond.methodLink RX9 208 yX9_wayNow) ∈ GL := GLi (List.mem_of_getElem? (i := 1119) (by decide +kernel)) (by decide +kernel)
theorem mw_669 : (Cond.instanceMethod yX9_wayNow) ∈ GL := GLi (List.mem_of_getElem? (i := 1121) (by decide +kernel)) (by decide +kernel)
theorem mw_670 : (Cond.selects RX9 yX9_wayNow yX9_wayNow) ∈ GL := GLi (List.mem_of_getElem? (i := 36) (by decide +kernel)) (by decide +kernel)
theorem mw_671 : (Cond.methodLink RX9 211 yX9_bend) ∈ GL := GLi (List.mem_of_getElem? (i := 1123) (by decide +kernel)) (by decide +kernel)
theorem mw_672 : (Cond.instanceMethod yX9_bend) ∈ GL := GLi (List.mem_of_getElem? (i := 1125) (by decide +kernel)) (by decide +kernel)
theorem mw_673 : (Cond.selects RX9 yX9_bend yX9_bend) ∈ GL := GLi (List.mem_of_getElem? (i := 37) (by decide +kernel)) (by decide +kernel)
theorem mw_674 : (Cond.code yX9_isCell cX9_isCell 3 (some .boolean)) ∈ GL := GLi (List.mem_of_getElem? (i := 1086) (by decide +kernel)) (by decide +kernel)
theorem mw_675 : (Cond.methodLink RX9 215 yX9_lookedBox) ∈ GL := GLi (List.mem_of_getElem? (i := 1079) (by decide +kernel)) (by decide +kernel)
theorem mw_676 : (Cond.instanceMethod yX9_lookedBox) ∈ GL := GLi (List.mem_of_getElem? (i := 1081) (by decide +kernel)) (by decide +kernel)
theorem mw_677 : (Cond.selects RX9 yX9_lookedBox yX9_lookedBox) ∈ GL := GLi (List.mem_of_getElem? (i := 30) (by decide +kernel)) (by decide +kernel)
theorem mw_678 : (Cond.methodLink RX9 218 yX9_isCell) ∈ GL := GLi (List.mem_of_getElem? (i := 1083) (by decide +kernel)) (by decide +kernel)
theorem mw_679 : (Cond.instanceMethod yX9_isCell) ∈ GL := GLi (List.mem_of_getElem? (i := 1085) (by decide +kernel)) (by decide +kernel)
theorem mw_680 : (Cond.selects RX9 yX9_isCell yX9_isCell) ∈ GL := GLi (List.mem_of_getElem? (i := 31) (by decide +kernel)) (by decide +kernel)
theorem mw_681 : (Cond.methodLink RX9 222 yX9_goTo) ∈ GL := GLi (List.mem_of_getElem? (i := 1087) (by decide +kernel)) (by decide +kernel)
theorem mw_682 : (Cond.instanceMethod yX9_goTo) ∈ GL := GLi (List.mem_of_getElem? (i := 1089) (by decide +kernel)) (by decide +kernel)
theorem mw_683 : (Cond.selects RX9 yX9_goTo yX9_goTo) ∈ GL := GLi (List.mem_of_getElem? (i := 32) (by decide +kernel)) (by decide +kernel)
theorem mw_684 : (Cond.code yX9_cell cX9_cell 5 (some .int)) ∈ GL := GLi (List.mem_of_getElem? (i := 1078) (by decide +kernel)) (by decide +kernel)
theorem mw_685 : (Cond.methodLink RX9 226 yX9_setFrame) ∈ GL := GLi (List.mem_of_getElem? (i := 1099) (by decide +kernel)) (by decide +kernel)
theorem mw_686 : (Cond.instanceMethod yX9_setFrame) ∈ GL := GLi (List.mem_of_getElem? (i := 1101) (by decide +kernel)) (by decide +kernel)
theorem mw_687 : (Cond.selects RX9 yX9_setFrame yX9_setFrame) ∈ GL := GLi (List.mem_of_getElem? (i := 34) (by decide +kernel)) (by decide +kernel)
theorem mw_688 : (Cond.methodLink RX9 230 yX9_go) ∈ GL := GLi (List.mem_of_getElem? (i := 1115) (by decide +kernel)) (by decide +kernel)
theorem mw_689 : (Cond.instanceMethod yX9_go) ∈ GL := GLi (List.mem_of_getElem? (i := 1117) (by decide +kernel)) (by decide +kernel)
theorem mw_690 : (Cond.selects RX9 yX9_go yX9_go) ∈ GL := GLi (List.mem_of_getElem? (i := 35) (by decide +kernel)) (by decide +kernel)
theorem mw_691 : (Cond.methodLink RX9 233 yX9_turnNow) ∈ GL := GLi (List.mem_of_getElem? (i := 1127) (by decide +kernel)) (by decide +kernel)
theorem mw_692 : (Cond.instanceMethod yX9_turnNow) ∈ GL := GLi (List.mem_of_getElem? (i := 1129) (by decide +kernel)) (by decide +kernel)
theorem mw_693 : (Cond.selects RX9 yX9_turnNow yX9_turnNow) ∈ GL := GLi (List.mem_of_getElem? (i := 38) (by decide +kernel)) (by decide +kernel)
theorem mw_694 : (Cond.methodLink RX9 237 yX9_cellNow) ∈ GL := GLi (List.mem_of_getElem? (i := 1131) (by decide +kernel)) (by decide +kernel)
theorem mw_695 : (Cond.instanceMethod yX9_cellNow) ∈ GL := GLi (List.mem_of_getElem? (i := 1133) (by decide +kernel)) (by decide +kernel)
theorem mw_696 : (Cond.selects RX9 yX9_cellNow yX9_cellNow) ∈ GL := GLi (List.mem_of_getElem? (i := 39) (by decide +kernel)) (by decide +kernel)
theorem mw_697 : (Cond.code yX9_next cX9_next 6 (some .int)) ∈ GL := GLi (List.mem_of_getElem? (i := 1098) (by decide +kernel)) (by decide +kernel)
theorem mw_698 : (Cond.code yX9_isFolded cX9_isFolded 13 (some .boolean)) ∈ GL := GLi (List.mem_of_getElem? (i := 1150) (by decide +kernel)) (by decide +kernel)
theorem mw_699 : (Cond.code yX9_askedBoth cX9_askedBoth 3 (some .int)) ∈ GL := GLi (List.mem_of_getElem? (i := 1142) (by decide +kernel)) (by decide +kernel)
theorem mw_700 : (Cond.methodLink RX9 240 yX9_isFolded) ∈ GL := GLi (List.mem_of_getElem? (i := 1147) (by decide +kernel)) (by decide +kernel)
theorem mw_701 : (Cond.instanceMethod yX9_isFolded) ∈ GL := GLi (List.mem_of_getElem? (i := 1149) (by decide +kernel)) (by decide +kernel)
theorem mw_702 : (Cond.selects RX9 yX9_isFolded yX9_isFolded) ∈ GL := GLi (List.mem_of_getElem? (i := 42) (by decide +kernel)) (by decide +kernel)
theorem mw_703 : (Cond.code yX9_foldsTo cX9_foldsTo 5 (some .int)) ∈ GL := GLi (List.mem_of_getElem? (i := 1146) (by decide +kernel)) (by decide +kernel)
theorem mw_704 : (Cond.methodLink RX9 244 yX9_askedBoth) ∈ GL := GLi (List.mem_of_getElem? (i := 1139) (by decide +kernel)) (by decide +kernel)
theorem mw_705 : (Cond.instanceMethod yX9_askedBoth) ∈ GL := GLi (List.mem_of_getElem? (i := 1141) (by decide +kernel)) (by decide +kernel)
theorem mw_706 : (Cond.selects RX9 yX9_askedBoth yX9_askedBoth) ∈ GL := GLi (List.mem_of_getElem? (i := 40) (by decide +kernel)) (by decide +kernel)
theorem mw_707 : (Cond.methodLink RX9 247 yX9_foldsTo) ∈ GL := GLi (List.mem_of_getElem? (i := 1143) (by decide +kernel)) (by decide +kernel)
theorem mw_708 : (Cond.instanceMethod yX9_foldsTo) ∈ GL := GLi (List.mem_of_getElem? (i := 1145) (by decide +kernel)) (by decide +kernel)
theorem mw_709 : (Cond.selects RX9 yX9_foldsTo yX9_foldsTo) ∈ GL := GLi (List.mem_of_getElem? (i := 41) (by decide +kernel)) (by decide +kernel)
theorem mw_710 : (Cond.code yX9_folds cX9_folds 6 (some .int)) ∈ GL := GLi (List.mem_of_getElem? (i := 1138) (by decide +kernel)) (by decide +kernel)
theorem mw_711 : (Cond.code yX9_lies cX9_lies 7 (some .int)) ∈ GL := GLi (List.mem_of_getElem? (i := 1154) (by decide +kernel)) (by decide +kernel)
theorem mw_712 : (Cond.code yX9_wholes cX9_wholes 6 (some .int)) ∈ GL := GLi (List.mem_of_getElem? (i := 1158) (by decide +kernel)) (by decide +kernel)
theorem mw_713 : (Cond.code yX9_lays cX9_lays 15 (some .int)) ∈ GL := GLi (List.mem_of_getElem? (i := 1166) (by decide +kernel)) (by decide +kernel)
theorem mw_714 : (Cond.methodLink RX9 251 yX9_lays) ∈ GL := GLi (List.mem_of_getElem? (i := 1163) (by decide +kernel)) (by decide +kernel)
theorem mw_715 : (Cond.instanceMethod yX9_lays) ∈ GL := GLi (List.mem_of_getElem? (i := 1165) (by decide +kernel)) (by decide +kernel)
theorem mw_716 : (Cond.selects RX9 yX9_lays yX9_lays) ∈ GL := GLi (List.mem_of_getElem? (i := 43) (by decide +kernel)) (by decide +kernel)
theorem mw_717 : (Cond.code yX9_layOut cX9_layOut 6 (some .int)) ∈ GL := GLi (List.mem_of_getElem? (i := 1162) (by decide +kernel)) (by decide +kernel)
theorem mw_718 : (Cond.code yX9_isRow cX9_isRow 1 (some .boolean)) ∈ GL := GLi (List.mem_of_getElem? (i := 1173) (by decide +kernel)) (by decide +kernel)
theorem mw_719 : (Cond.methodLink RX9 255 yX9_isRow) ∈ GL := GLi (List.mem_of_getElem? (i := 1171) (by decide +kernel)) (by decide +kernel)
theorem mw_720 : (Cond.static yX9_isRow) ∈ GL := GLi (List.mem_of_getElem? (i := 1172) (by decide +kernel)) (by decide +kernel)
theorem mw_721 : (Cond.code yX9_layOutBy cX9_layOutBy 6 (some .int)) ∈ GL := GLi (List.mem_of_getElem? (i := 1170) (by decide +kernel)) (by decide +kernel)
theorem mw_722 : (Cond.code yX9_along cX9_along 3 (some .int)) ∈ GL := GLi (List.mem_of_getElem? (i := 1193) (by decide +kernel)) (by decide +kernel)
theorem mw_723 : (Cond.code yX9_farNow cX9_farNow 4 (some .int)) ∈ GL := GLi (List.mem_of_getElem? (i := 1189) (by decide +kernel)) (by decide +kernel)
theorem mw_724 : (Cond.methodLink RX9 258 yX9_along) ∈ GL := GLi (List.mem_of_getElem? (i := 1190) (by decide +kernel)) (by decide +kernel)
theorem mw_725 : (Cond.instanceMethod yX9_along) ∈ GL := GLi (List.mem_of_getElem? (i := 1192) (by decide +kernel)) (by decide +kernel)
theorem mw_726 : (Cond.selects RX9 yX9_along yX9_along) ∈ GL := GLi (List.mem_of_getElem? (i := 47) (by decide +kernel)) (by decide +kernel)
theorem mw_727 : (Cond.code yX9_unfolds cX9_unfolds 10 (some .boolean)) ∈ GL := GLi (List.mem_of_getElem? (i := 1197) (by decide +kernel)) (by decide +kernel)
theorem mw_728 : (Cond.methodLink RX9 261 yX9_farNow) ∈ GL := GLi (List.mem_of_getElem? (i := 1186) (by decide +kernel)) (by decide +kernel)
theorem mw_729 : (Cond.instanceMethod yX9_farNow) ∈ GL := GLi (List.mem_of_getElem? (i := 1188) (by decide +kernel)) (by decide +kernel)
theorem mw_730 : (Cond.selects RX9 yX9_farNow yX9_farNow) ∈ GL := GLi (List.mem_of_getElem? (i := 46) (by decide +kernel)) (by decide +kernel)
theorem mw_731 : (Cond.methodLink RX9 264 yX9_unfolds) ∈ GL := GLi (List.mem_of_getElem? (i := 1194) (by decide +kernel)) (by decide +kernel)
theorem mw_732 : (Cond.instanceMethod yX9_unfolds) ∈ GL := GLi (List.mem_of_getElem? (i := 1196) (by decide +kernel)) (by decide +kernel)
theorem mw_733 : (Cond.selects RX9 yX9_unfolds yX9_unfolds) ∈ GL := GLi (List.mem_of_getElem? (i := 48) (by decide +kernel)) (by decide +kernel)
theorem mw_734 : (Cond.code yX9_shortOf cX9_shortOf 8 (some .int)) ∈ GL := GLi (List.mem_of_getElem? (i := 1185) (by decide +kernel)) (by decide +kernel)
theorem mw_735 : (Cond.code yX9_askedCells cX9_askedCells 5 (some .int)) ∈ GL := GLi (List.mem_of_getElem? (i := 1181) (by decide +kernel)) (by decide +kernel)
theorem mw_736 : (Cond.methodLink RX9 267 yX9_askedCells) ∈ GL := GLi (List.mem_of_getElem? (i := 1178) (by decide +kernel)) (by decide +kernel)
theorem mw_737 : (Cond.instanceMethod yX9_askedCells) ∈ GL := GLi (List.mem_of_getElem? (i := 1180) (by decide +kernel)) (by decide +kernel)
theorem mw_738 : (Cond.selects RX9 yX9_askedCells yX9_askedCells) ∈ GL := GLi (List.mem_of_getElem? (i := 44) (by decide +kernel)) (by decide +kernel)
theorem mw_739 : (Cond.methodLink RX9 270 yX9_shortOf) ∈ GL := GLi (List.mem_of_getElem? (i := 1182) (by decide +kernel)) (by decide +kernel)
theorem mw_740 : (Cond.instanceMethod yX9_shortOf) ∈ GL := GLi (List.mem_of_getElem? (i := 1184) (by decide +kernel)) (by decide +kernel)
theorem mw_741 : (Cond.selects RX9 yX9_shortOf yX9_shortOf) ∈ GL := GLi (List.mem_of_getElem? (i := 45) (by decide +kernel)) (by decide +kernel)
theorem mw_742 : (Cond.code yX9_way cX9_way 5 (some .int)) ∈ GL := GLi (List.mem_of_getElem? (i := 1177) (by decide +kernel)) (by decide +kernel)
theorem mw_743 : (Cond.code yX9_farthest cX9_farthest 8 (some .int)) ∈ GL := GLi (List.mem_of_getElem? (i := 1201) (by decide +kernel)) (by decide +kernel)
theorem mw_744 : (Cond.code yX9_mean cX9_mean 6 (some .int)) ∈ GL := GLi (List.mem_of_getElem? (i := 1205) (by decide +kernel)) (by decide +kernel)
theorem mw_745 : (Cond.code yX9_isWalked cX9_isWalked 9 (some .boolean)) ∈ GL := GLi (List.mem_of_getElem? (i := 1217) (by decide +kernel)) (by decide +kernel)
theorem mw_746 : (Cond.fieldLink RX9 273 "PaperBodiesModel" "edges" "I") ∈ GL := GLi (List.mem_of_getElem? (i := 879) (by decide +kernel)) (by decide +kernel)
theorem mw_747 : (Cond.methodLink RX9 276 yX9_isWalked) ∈ GL := GLi (List.mem_of_getElem? (i := 1214) (by decide +kernel)) (by decide +kernel)
theorem mw_748 : (Cond.instanceMethod yX9_isWalked) ∈ GL := GLi (List.mem_of_getElem? (i := 1216) (by decide +kernel)) (by decide +kernel)
theorem mw_749 : (Cond.selects RX9 yX9_isWalked yX9_isWalked) ∈ GL := GLi (List.mem_of_getElem? (i := 50) (by decide +kernel)) (by decide +kernel)
theorem mw_750 : (Cond.code yX9_askedRim cX9_askedRim 3 (some .int)) ∈ GL := GLi (List.mem_of_getElem? (i := 1213) (by decide +kernel)) (by decide +kernel)
theorem mw_751 : (Cond.methodLink RX9 279 yX9_askedRim) ∈ GL := GLi (List.mem_of_getElem? (i := 1210) (by decide +kernel)) (by decide +kernel)
theorem mw_752 : (Cond.instanceMethod yX9_askedRim) ∈ GL := GLi (List.mem_of_getElem? (i := 1212) (by decide +kernel)) (by decide +kernel)
theorem mw_753 : (Cond.selects RX9 yX9_askedRim yX9_askedRim) ∈ GL := GLi (List.mem_of_getElem? (i := 49) (by decide +kernel)) (by decide +kernel)
theorem mw_754 : (Cond.code yX9_rim cX9_rim 3 (some .int)) ∈ GL := GLi (List.mem_of_getElem? (i := 1209) (by decide +kernel)) (by decide +kernel)
theorem mw_755 : (Cond.code yX9_edge cX9_edge 5 (some .int)) ∈ GL := GLi (List.mem_of_getElem? (i := 1221) (by decide +kernel)) (by decide +kernel)
theorem mw_756 : (Cond.code yX9_meanAngle cX9_meanAngle 5 (some .int)) ∈ GL := GLi (List.mem_of_getElem? (i := 1225) (by decide +kernel)) (by decide +kernel)
theorem mw_757 : (Cond.code yX9_joins cX9_joins 5 (some .boolean)) ∈ GL := GLi (List.mem_of_getElem? (i := 1241) (by decide +kernel)) (by decide +kernel)
theorem mw_758 : (Cond.code yX9_isLegal cX9_isLegal 6 (some .boolean)) ∈ GL := GLi (List.mem_of_getElem? (i := 1237) (by decide +kernel)) (by decide +kernel)
theorem mw_759 : (Cond.fieldLink RX9 285 "PaperBodiesModel" "cornerCount" "I") ∈ GL := GLi (List.mem_of_getElem? (i := 886) (by decide +kernel)) (by decide +kernel)
theorem mw_760 : (Cond.methodLink RX9 282 yX9_joins) ∈ GL := GLi (List.mem_of_getElem? (i := 1238) (by decide +kernel)) (by decide +kernel)
theorem mw_761 : (Cond.instanceMethod yX9_joins) ∈ GL := GLi (List.mem_of_getElem? (i := 1240) (by decide +kernel)) (by decide +kernel)
theorem mw_762 : (Cond.selects RX9 yX9_joins yX9_joins) ∈ GL := GLi (List.mem_of_getElem? (i := 53) (by decide +kernel)) (by decide +kernel)
theorem mw_763 : (Cond.code yX9_firstFree cX9_firstFree 2 (some .int)) ∈ GL := GLi (List.mem_of_getElem? (i := 1233) (by decide +kernel)) (by decide +kernel)
theorem mw_764 : (Cond.code yX9_keepFirst cX9_keepFirst 2 none) ∈ GL := GLi (List.mem_of_getElem? (i := 1245) (by decide +kernel)) (by decide +kernel)
theorem mw_765 : (Cond.fieldLink RX9 288 "PaperBodiesModel" "tries" "I") ∈ GL := GLi (List.mem_of_getElem? (i := 887) (by decide +kernel)) (by decide +kernel)
theorem mw_766 : (Cond.fieldLink RX9 301 "PaperBodiesModel" "isFirst" "Z") ∈ GL := GLi (List.mem_of_getElem? (i := 890) (by decide +kernel)) (by decide +kernel)
theorem mw_767 : (Cond.methodLink RX9 291 yX9_firstFree) ∈ GL := GLi (List.mem_of_getElem? (i := 1230) (by decide +kernel)) (by decide +kernel)
theorem mw_768 : (Cond.instanceMethod yX9_firstFree) ∈ GL := GLi (List.mem_of_getElem? (i := 1232) (by decide +kernel)) (by decide +kernel)
theorem mw_769 : (Cond.selects RX9 yX9_firstFree yX9_firstFree) ∈ GL := GLi (List.mem_of_getElem? (i := 51) (by decide +kernel)) (by decide +kernel)
theorem mw_770 : (Cond.methodLink RX9 294 yX9_isLegal) ∈ GL := GLi (List.mem_of_getElem? (i := 1234) (by decide +kernel)) (by decide +kernel)
theorem mw_771 : (Cond.instanceMethod yX9_isLegal) ∈ GL := GLi (List.mem_of_getElem? (i := 1236) (by decide +kernel)) (by decide +kernel)
theorem mw_772 : (Cond.selects RX9 yX9_isLegal yX9_isLegal) ∈ GL := GLi (List.mem_of_getElem? (i := 52) (by decide +kernel)) (by decide +kernel)
theorem mw_773 : (Cond.methodLink RX9 298 yX9_keepFirst) ∈ GL := GLi (List.mem_of_getElem? (i := 1242) (by decide +kernel)) (by decide +kernel)
theorem mw_774 : (Cond.instanceMethod yX9_keepFirst) ∈ GL := GLi (List.mem_of_getElem? (i := 1244) (by decide +kernel)) (by decide +kernel)
theorem mw_775 : (Cond.selects RX9 yX9_keepFirst yX9_keepFirst) ∈ GL := GLi (List.mem_of_getElem? (i := 54) (by decide +kernel)) (by decide +kernel)
theorem mw_776 : (Cond.code yX9_gluings cX9_gluings 10 (some .int)) ∈ GL := GLi (List.mem_of_getElem? (i := 1229) (by decide +kernel)) (by decide +kernel)
theorem mw_777 : (Cond.code yX9_glued cX9_glued 2 (some .int)) ∈ GL := GLi (List.mem_of_getElem? (i := 1249) (by decide +kernel)) (by decide +kernel)
theorem mw_778 : (Cond.code yX9_corners cX9_corners 2 (some .int)) ∈ GL := GLi (List.mem_of_getElem? (i := 1253) (by decide +kernel)) (by decide +kernel)
theorem mw_779 : (Cond.code yX9_isGluing cX9_isGluing 7 (some .boolean)) ∈ GL := GLi (List.mem_of_getElem? (i := 1261) (by decide +kernel)) (by decide +kernel)
theorem mw_780 : (Cond.methodLink RX9 305 yX9_isGluing) ∈ GL := GLi (List.mem_of_getElem? (i := 1258) (by decide +kernel)) (by decide +kernel)
theorem mw_781 : (Cond.instanceMethod yX9_isGluing) ∈ GL := GLi (List.mem_of_getElem? (i := 1260) (by decide +kernel)) (by decide +kernel)
theorem mw_782 : (Cond.selects RX9 yX9_isGluing yX9_isGluing) ∈ GL := GLi (List.mem_of_getElem? (i := 55) (by decide +kernel)) (by decide +kernel)
theorem mw_783 : (Cond.code yX9_glue cX9_glue 4 (some .int)) ∈ GL := GLi (List.mem_of_getElem? (i := 1257) (by decide +kernel)) (by decide +kernel)
theorem mw_784 : (Cond.code yX9_tries cX9_tries 1 (some .int)) ∈ GL := GLi (List.mem_of_getElem? (i := 1265) (by decide +kernel)) (by decide +kernel)
theorem mw_785 : (Cond.code yX9_askedRow cX9_askedRow 2 (some .int)) ∈ GL := GLi (List.mem_of_getElem? (i := 1277) (by decide +kernel)) (by decide +kernel)
theorem mw_786 : (Cond.code yX9_row cX9_row 4 (some .int)) ∈ GL := GLi (List.mem_of_getElem? (i := 1269) (by decide +kernel)) (by decide +kernel)
theorem mw_787 : (Cond.code yX9_lay cX9_lay 5 (some .int)) ∈ GL := GLi (List.mem_of_getElem? (i := 1273) (by decide +kernel)) (by decide +kernel)
theorem mw_788 : (Cond.methodLink RX9 308 yX9_askedRow) ∈ GL := GLi (List.mem_of_getElem? (i := 1274) (by decide +kernel)) (by decide +kernel)
theorem mw_789 : (Cond.instanceMethod yX9_askedRow) ∈ GL := GLi (List.mem_of_getElem? (i := 1276) (by decide +kernel)) (by decide +kernel)
theorem mw_790 : (Cond.selects RX9 yX9_askedRow yX9_askedRow) ∈ GL := GLi (List.mem_of_getElem? (i := 56) (by decide +kernel)) (by decide +kernel)
theorem mw_791 : (Cond.code yX9_tear cX9_tear 3 (some .int)) ∈ GL := GLi (List.mem_of_getElem? (i := 1281) (by decide +kernel)) (by decide +kernel)
theorem mw_792 : (Cond.code yX9_copy cX9_copy 7 (some .int)) ∈ GL := GLi (List.mem_of_getElem? (i := 1285) (by decide +kernel)) (by decide +kernel)
theorem mw_793 : (Cond.code yX9_meanRow cX9_meanRow 6 (some .int)) ∈ GL := GLi (List.mem_of_getElem? (i := 1289) (by decide +kernel)) (by decide +kernel)
theorem mw_794 : (Cond.code yX9_asked cX9_asked 1 (some .long)) ∈ GL := GLi (List.mem_of_getElem? (i := 1293) (by decide +kernel)) (by decide +kernel)
theorem mw_795 : (Cond.code yX9_count cX9_count 4 (some .int)) ∈ GL := GLi (List.mem_of_getElem? (i := 1297) (by decide +kernel)) (by decide +kernel)
theorem mw_796 : (Cond.code yX9_finding cX9_finding 1 (some .int)) ∈ GL := GLi (List.mem_of_getElem? (i := 1301) (by decide +kernel)) (by decide +kernel)
theorem mw_797 : (Cond.code yX9_findings cX9_findings 2 (some .int)) ∈ GL := GLi (List.mem_of_getElem? (i := 1305) (by decide +kernel)) (by decide +kernel)
theorem mw_798 : (Cond.code yX9_digest cX9_digest 5 (some .long)) ∈ GL := GLi (List.mem_of_getElem? (i := 1309) (by decide +kernel)) (by decide +kernel)
theorem mw_799 : (Cond.constantLong RX9 311 (17)) ∈ GL := GLi (List.mem_of_getElem? (i := 1310) (by decide +kernel)) (by decide +kernel)
theorem mw_800 : (Cond.constantLong RX9 313 (31)) ∈ GL := GLi (List.mem_of_getElem? (i := 1311) (by decide +kernel)) (by decide +kernel)
theorem mw_801 : (Cond.classLink RL 7 RX8) ∈ GL := GLi (List.mem_of_getElem? (i := 72) (by decide +kernel)) (by decide +kernel)
theorem mw_802 : (Cond.instantiable RX8 12) ∈ GL := GLi (List.mem_of_getElem? (i := 73) (by decide +kernel)) (by decide +kernel)
theorem mw_803 : (Cond.classLink RL 10 RX9) ∈ GL := GLi (List.mem_of_getElem? (i := 848) (by decide +kernel)) (by decide +kernel)
theorem mw_804 : (Cond.instantiable RX9 43) ∈ GL := GLi (List.mem_of_getElem? (i := 849) (by decide +kernel)) (by decide +kernel)
theorem mw_805 : (Cond.constantLong RL 13 (4294967295)) ∈ GL := GLi (List.mem_of_getElem? (i := 1312) (by decide +kernel)) (by decide +kernel)
theorem mw_806 : (Cond.methodLink RL 9 yX8_init) ∈ GL := GLi (List.mem_of_getElem? (i := 74) (by decide +kernel)) (by decide +kernel)
theorem mw_807 : (Cond.instanceMethod yX8_init) ∈ GL := GLi (List.mem_of_getElem? (i := 75) (by decide +kernel)) (by decide +kernel)
theorem mw_808 : (Cond.methodLink RL 12 yX9_init) ∈ GL := GLi (List.mem_of_getElem? (i := 850) (by decide +kernel)) (by decide +kernel)
theorem mw_809 : (Cond.instanceMethod yX9_init) ∈ GL := GLi (List.mem_of_getElem? (i := 851) (by decide +kernel)) (by decide +kernel)
theorem mw_810 : (Cond.methodLink RL 15 yX8_figure) ∈ GL := GLi (List.mem_of_getElem? (i := 308) (by decide +kernel)) (by decide +kernel)
theorem mw_811 : (Cond.instanceMethod yX8_figure) ∈ GL := GLi (List.mem_of_getElem? (i := 309) (by decide +kernel)) (by decide +kernel)
theorem mw_812 : (Cond.selects RX8 yX8_figure yX8_figure) ∈ GL := GLi (List.mem_of_getElem? (i := 310) (by decide +kernel)) (by decide +kernel)
theorem mw_813 : (Cond.methodLink RL 19 yX9_figure) ∈ GL := GLi (List.mem_of_getElem? (i := 985) (by decide +kernel)) (by decide +kernel)
theorem mw_814 : (Cond.instanceMethod yX9_figure) ∈ GL := GLi (List.mem_of_getElem? (i := 986) (by decide +kernel)) (by decide +kernel)
theorem mw_815 : (Cond.selects RX9 yX9_figure yX9_figure) ∈ GL := GLi (List.mem_of_getElem? (i := 987) (by decide +kernel)) (by decide +kernel)
theorem mw_816 : (Cond.methodLink RL 20 yX8_drop) ∈ GL := GLi (List.mem_of_getElem? (i := 348) (by decide +kernel)) (by decide +kernel)
theorem mw_817 : (Cond.instanceMethod yX8_drop) ∈ GL := GLi (List.mem_of_getElem? (i := 349) (by decide +kernel)) (by decide +kernel)
theorem mw_818 : (Cond.selects RX8 yX8_drop yX8_drop) ∈ GL := GLi (List.mem_of_getElem? (i := 350) (by decide +kernel)) (by decide +kernel)
theorem mw_819 : (Cond.methodLink RL 24 yX9_drop) ∈ GL := GLi (List.mem_of_getElem? (i := 1018) (by decide +kernel)) (by decide +kernel)
theorem mw_820 : (Cond.instanceMethod yX9_drop) ∈ GL := GLi (List.mem_of_getElem? (i := 1019) (by decide +kernel)) (by decide +kernel)
theorem mw_821 : (Cond.selects RX9 yX9_drop yX9_drop) ∈ GL := GLi (List.mem_of_getElem? (i := 1020) (by decide +kernel)) (by decide +kernel)
theorem mw_822 : (Cond.methodLink RL 25 yX8_box) ∈ GL := GLi (List.mem_of_getElem? (i := 364) (by decide +kernel)) (by decide +kernel)
theorem mw_823 : (Cond.instanceMethod yX8_box) ∈ GL := GLi (List.mem_of_getElem? (i := 365) (by decide +kernel)) (by decide +kernel)
theorem mw_824 : (Cond.selects RX8 yX8_box yX8_box) ∈ GL := GLi (List.mem_of_getElem? (i := 366) (by decide +kernel)) (by decide +kernel)
theorem mw_825 : (Cond.methodLink RL 29 yX9_box) ∈ GL := GLi (List.mem_of_getElem? (i := 1061) (by decide +kernel)) (by decide +kernel)
theorem mw_826 : (Cond.instanceMethod yX9_box) ∈ GL := GLi (List.mem_of_getElem? (i := 1062) (by decide +kernel)) (by decide +kernel)
theorem mw_827 : (Cond.selects RX9 yX9_box yX9_box) ∈ GL := GLi (List.mem_of_getElem? (i := 1063) (by decide +kernel)) (by decide +kernel)
theorem mw_828 : (Cond.methodLink RL 30 yX8_told) ∈ GL := GLi (List.mem_of_getElem? (i := 422) (by decide +kernel)) (by decide +kernel)
theorem mw_829 : (Cond.instanceMethod yX8_told) ∈ GL := GLi (List.mem_of_getElem? (i := 423) (by decide +kernel)) (by decide +kernel)
theorem mw_830 : (Cond.selects RX8 yX8_told yX8_told) ∈ GL := GLi (List.mem_of_getElem? (i := 424) (by decide +kernel)) (by decide +kernel)
theorem mw_831 : (Cond.methodLink RL 34 yX9_told) ∈ GL := GLi (List.mem_of_getElem? (i := 1030) (by decide +kernel)) (by decide +kernel)
theorem mw_832 : (Cond.instanceMethod yX9_told) ∈ GL := GLi (List.mem_of_getElem? (i := 1031) (by decide +kernel)) (by decide +kernel)
theorem mw_833 : (Cond.selects RX9 yX9_told yX9_told) ∈ GL := GLi (List.mem_of_getElem? (i := 1032) (by decide +kernel)) (by decide +kernel)
theorem mw_834 : (Cond.methodLink RL 35 yX8_mark) ∈ GL := GLi (List.mem_of_getElem? (i := 430) (by decide +kernel)) (by decide +kernel)
theorem mw_835 : (Cond.instanceMethod yX8_mark) ∈ GL := GLi (List.mem_of_getElem? (i := 431) (by decide +kernel)) (by decide +kernel)
theorem mw_836 : (Cond.selects RX8 yX8_mark yX8_mark) ∈ GL := GLi (List.mem_of_getElem? (i := 432) (by decide +kernel)) (by decide +kernel)
theorem mw_837 : (Cond.methodLink RL 38 yX9_mark) ∈ GL := GLi (List.mem_of_getElem? (i := 1037) (by decide +kernel)) (by decide +kernel)
theorem mw_838 : (Cond.instanceMethod yX9_mark) ∈ GL := GLi (List.mem_of_getElem? (i := 1038) (by decide +kernel)) (by decide +kernel)
theorem mw_839 : (Cond.selects RX9 yX9_mark yX9_mark) ∈ GL := GLi (List.mem_of_getElem? (i := 1039) (by decide +kernel)) (by decide +kernel)
theorem mw_840 : (Cond.methodLink RL 39 yX8_squares) ∈ GL := GLi (List.mem_of_getElem? (i := 439) (by decide +kernel)) (by decide +kernel)
theorem mw_841 : (Cond.instanceMethod yX8_squares) ∈ GL := GLi (List.mem_of_getElem? (i := 440) (by decide +kernel)) (by decide +kernel)
theorem mw_842 : (Cond.selects RX8 yX8_squares yX8_squares) ∈ GL := GLi (List.mem_of_getElem? (i := 441) (by decide +kernel)) (by decide +kernel)
theorem mw_843 : (Cond.methodLink RL 42 yX9_squares) ∈ GL := GLi (List.mem_of_getElem? (i := 1041) (by decide +kernel)) (by decide +kernel)
theorem mw_844 : (Cond.instanceMethod yX9_squares) ∈ GL := GLi (List.mem_of_getElem? (i := 1042) (by decide +kernel)) (by decide +kernel)
theorem mw_845 : (Cond.selects RX9 yX9_squares yX9_squares) ∈ GL := GLi (List.mem_of_getElem? (i := 1043) (by decide +kernel)) (by decide +kernel)
theorem mw_846 : (Cond.methodLink RL 43 yX8_turn) ∈ GL := GLi (List.mem_of_getElem? (i := 443) (by decide +kernel)) (by decide +kernel)
theorem mw_847 : (Cond.instanceMethod yX8_turn) ∈ GL := GLi (List.mem_of_getElem? (i := 444) (by decide +kernel)) (by decide +kernel)
theorem mw_848 : (Cond.selects RX8 yX8_turn yX8_turn) ∈ GL := GLi (List.mem_of_getElem? (i := 445) (by decide +kernel)) (by decide +kernel)
theorem mw_849 : (Cond.methodLink RL 47 yX9_turn) ∈ GL := GLi (List.mem_of_getElem? (i := 1049) (by decide +kernel)) (by decide +kernel)
theorem mw_850 : (Cond.instanceMethod yX9_turn) ∈ GL := GLi (List.mem_of_getElem? (i := 1050) (by decide +kernel)) (by decide +kernel)
theorem mw_851 : (Cond.selects RX9 yX9_turn yX9_turn) ∈ GL := GLi (List.mem_of_getElem? (i := 1051) (by decide +kernel)) (by decide +kernel)
theorem mw_852 : (Cond.methodLink RL 48 yX8_alike) ∈ GL := GLi (List.mem_of_getElem? (i := 456) (by decide +kernel)) (by decide +kernel)
theorem mw_853 : (Cond.instanceMethod yX8_alike) ∈ GL := GLi (List.mem_of_getElem? (i := 457) (by decide +kernel)) (by decide +kernel)
theorem mw_854 : (Cond.selects RX8 yX8_alike yX8_alike) ∈ GL := GLi (List.mem_of_getElem? (i := 458) (by decide +kernel)) (by decide +kernel)
theorem mw_855 : (Cond.methodLink RL 51 yX9_alike) ∈ GL := GLi (List.mem_of_getElem? (i := 1057) (by decide +kernel)) (by decide +kernel)
theorem mw_856 : (Cond.instanceMethod yX9_alike) ∈ GL := GLi (List.mem_of_getElem? (i := 1058) (by decide +kernel)) (by decide +kernel)
theorem mw_857 : (Cond.selects RX9 yX9_alike yX9_alike) ∈ GL := GLi (List.mem_of_getElem? (i := 1059) (by decide +kernel)) (by decide +kernel)
theorem mw_858 : (Cond.methodLink RL 52 yX8_cell) ∈ GL := GLi (List.mem_of_getElem? (i := 464) (by decide +kernel)) (by decide +kernel)
theorem mw_859 : (Cond.instanceMethod yX8_cell) ∈ GL := GLi (List.mem_of_getElem? (i := 465) (by decide +kernel)) (by decide +kernel)
theorem mw_860 : (Cond.selects RX8 yX8_cell yX8_cell) ∈ GL := GLi (List.mem_of_getElem? (i := 466) (by decide +kernel)) (by decide +kernel)
theorem mw_861 : (Cond.methodLink RL 56 yX9_cell) ∈ GL := GLi (List.mem_of_getElem? (i := 1075) (by decide +kernel)) (by decide +kernel)
theorem mw_862 : (Cond.instanceMethod yX9_cell) ∈ GL := GLi (List.mem_of_getElem? (i := 1076) (by decide +kernel)) (by decide +kernel)
theorem mw_863 : (Cond.selects RX9 yX9_cell yX9_cell) ∈ GL := GLi (List.mem_of_getElem? (i := 1077) (by decide +kernel)) (by decide +kernel)
theorem mw_864 : (Cond.methodLink RL 57 yX8_next) ∈ GL := GLi (List.mem_of_getElem? (i := 488) (by decide +kernel)) (by decide +kernel)
theorem mw_865 : (Cond.instanceMethod yX8_next) ∈ GL := GLi (List.mem_of_getElem? (i := 489) (by decide +kernel)) (by decide +kernel)
theorem mw_866 : (Cond.selects RX8 yX8_next yX8_next) ∈ GL := GLi (List.mem_of_getElem? (i := 490) (by decide +kernel)) (by decide +kernel)
theorem mw_867 : (Cond.methodLink RL 60 yX9_next) ∈ GL := GLi (List.mem_of_getElem? (i := 1095) (by decide +kernel)) (by decide +kernel)
theorem mw_868 : (Cond.instanceMethod yX9_next) ∈ GL := GLi (List.mem_of_getElem? (i := 1096) (by decide +kernel)) (by decide +kernel)
theorem mw_869 : (Cond.selects RX9 yX9_next yX9_next) ∈ GL := GLi (List.mem_of_getElem? (i := 1097) (by decide +kernel)) (by decide +kernel)
theorem mw_870 : (Cond.methodLink RL 61 yX8_folds) ∈ GL := GLi (List.mem_of_getElem? (i := 500) (by decide +kernel)) (by decide +kernel)
theorem mw_871 : (Cond.instanceMethod yX8_folds) ∈ GL := GLi (List.mem_of_getElem? (i := 501) (by decide +kernel)) (by decide +kernel)
theorem mw_872 : (Cond.selects RX8 yX8_folds yX8_folds) ∈ GL := GLi (List.mem_of_getElem? (i := 502) (by decide +kernel)) (by decide +kernel)
theorem mw_873 : (Cond.methodLink RL 64 yX9_folds) ∈ GL := GLi (List.mem_of_getElem? (i := 1135) (by decide +kernel)) (by decide +kernel)
theorem mw_874 : (Cond.instanceMethod yX9_folds) ∈ GL := GLi (List.mem_of_getElem? (i := 1136) (by decide +kernel)) (by decide +kernel)
theorem mw_875 : (Cond.selects RX9 yX9_folds yX9_folds) ∈ GL := GLi (List.mem_of_getElem? (i := 1137) (by decide +kernel)) (by decide +kernel)
theorem mw_876 : (Cond.methodLink RL 65 yX8_lies) ∈ GL := GLi (List.mem_of_getElem? (i := 544) (by decide +kernel)) (by decide +kernel)
theorem mw_877 : (Cond.instanceMethod yX8_lies) ∈ GL := GLi (List.mem_of_getElem? (i := 545) (by decide +kernel)) (by decide +kernel)
theorem mw_878 : (Cond.selects RX8 yX8_lies yX8_lies) ∈ GL := GLi (List.mem_of_getElem? (i := 546) (by decide +kernel)) (by decide +kernel)
theorem mw_879 : (Cond.methodLink RL 69 yX9_lies) ∈ GL := GLi (List.mem_of_getElem? (i := 1151) (by decide +kernel)) (by decide +kernel)
theorem mw_880 : (Cond.instanceMethod yX9_lies) ∈ GL := GLi (List.mem_of_getElem? (i := 1152) (by decide +kernel)) (by decide +kernel)
theorem mw_881 : (Cond.selects RX9 yX9_lies yX9_lies) ∈ GL := GLi (List.mem_of_getElem? (i := 1153) (by decide +kernel)) (by decide +kernel)
theorem mw_882 : (Cond.methodLink RL 70 yX8_wholes) ∈ GL := GLi (List.mem_of_getElem? (i := 551) (by decide +kernel)) (by decide +kernel)
theorem mw_883 : (Cond.instanceMethod yX8_wholes) ∈ GL := GLi (List.mem_of_getElem? (i := 552) (by decide +kernel)) (by decide +kernel)
theorem mw_884 : (Cond.selects RX8 yX8_wholes yX8_wholes) ∈ GL := GLi (List.mem_of_getElem? (i := 553) (by decide +kernel)) (by decide +kernel)
theorem mw_885 : (Cond.methodLink RL 73 yX9_wholes) ∈ GL := GLi (List.mem_of_getElem? (i := 1155) (by decide +kernel)) (by decide +kernel)
theorem mw_886 : (Cond.instanceMethod yX9_wholes) ∈ GL := GLi (List.mem_of_getElem? (i := 1156) (by decide +kernel)) (by decide +kernel)
theorem mw_887 : (Cond.selects RX9 yX9_wholes yX9_wholes) ∈ GL := GLi (List.mem_of_getElem? (i := 1157) (by decide +kernel)) (by decide +kernel)
theorem mw_888 : (Cond.methodLink RL 74 yX8_layOut) ∈ GL := GLi (List.mem_of_getElem? (i := 561) (by decide +kernel)) (by decide +kernel)
theorem mw_889 : (Cond.instanceMethod yX8_layOut) ∈ GL := GLi (List.mem_of_getElem? (i := 562) (by decide +kernel)) (by decide +kernel)
theorem mw_890 : (Cond.selects RX8 yX8_layOut yX8_layOut) ∈ GL := GLi (List.mem_of_getElem? (i := 563) (by decide +kernel)) (by decide +kernel)
theorem mw_891 : (Cond.methodLink RL 77 yX9_layOut) ∈ GL := GLi (List.mem_of_getElem? (i := 1159) (by decide +kernel)) (by decide +kernel)
theorem mw_892 : (Cond.instanceMethod yX9_layOut) ∈ GL := GLi (List.mem_of_getElem? (i := 1160) (by decide +kernel)) (by decide +kernel)
theorem mw_893 : (Cond.selects RX9 yX9_layOut yX9_layOut) ∈ GL := GLi (List.mem_of_getElem? (i := 1161) (by decide +kernel)) (by decide +kernel)
theorem mw_894 : (Cond.methodLink RL 78 yX8_layOutBy) ∈ GL := GLi (List.mem_of_getElem? (i := 590) (by decide +kernel)) (by decide +kernel)
theorem mw_895 : (Cond.instanceMethod yX8_layOutBy) ∈ GL := GLi (List.mem_of_getElem? (i := 591) (by decide +kernel)) (by decide +kernel)
theorem mw_896 : (Cond.selects RX8 yX8_layOutBy yX8_layOutBy) ∈ GL := GLi (List.mem_of_getElem? (i := 592) (by decide +kernel)) (by decide +kernel)
theorem mw_897 : (Cond.methodLink RL 81 yX9_layOutBy) ∈ GL := GLi (List.mem_of_getElem? (i := 1167) (by decide +kernel)) (by decide +kernel)
theorem mw_898 : (Cond.instanceMethod yX9_layOutBy) ∈ GL := GLi (List.mem_of_getElem? (i := 1168) (by decide +kernel)) (by decide +kernel)
theorem mw_899 : (Cond.selects RX9 yX9_layOutBy yX9_layOutBy) ∈ GL := GLi (List.mem_of_getElem? (i := 1169) (by decide +kernel)) (by decide +kernel)
theorem mw_900 : (Cond.methodLink RL 82 yX8_way) ∈ GL := GLi (List.mem_of_getElem? (i := 601) (by decide +kernel)) (by decide +kernel)
theorem mw_901 : (Cond.instanceMethod yX8_way) ∈ GL := GLi (List.mem_of_getElem? (i := 602) (by decide +kernel)) (by decide +kernel)
theorem mw_902 : (Cond.selects RX8 yX8_way yX8_way) ∈ GL := GLi (List.mem_of_getElem? (i := 603) (by decide +kernel)) (by decide +kernel)
theorem mw_903 : (Cond.methodLink RL 85 yX9_way) ∈ GL := GLi (List.mem_of_getElem? (i := 1174) (by decide +kernel)) (by decide +kernel)
theorem mw_904 : (Cond.instanceMethod yX9_way) ∈ GL := GLi (List.mem_of_getElem? (i := 1175) (by decide +kernel)) (by decide +kernel)
theorem mw_905 : (Cond.selects RX9 yX9_way yX9_way) ∈ GL := GLi (List.mem_of_getElem? (i := 1176) (by decide +kernel)) (by decide +kernel)
theorem mw_906 : (Cond.methodLink RL 86 yX8_farthest) ∈ GL := GLi (List.mem_of_getElem? (i := 627) (by decide +kernel)) (by decide +kernel)
theorem mw_907 : (Cond.instanceMethod yX8_farthest) ∈ GL := GLi (List.mem_of_getElem? (i := 628) (by decide +kernel)) (by decide +kernel)
theorem mw_908 : (Cond.selects RX8 yX8_farthest yX8_farthest) ∈ GL := GLi (List.mem_of_getElem? (i := 629) (by decide +kernel)) (by decide +kernel)
theorem mw_909 : (Cond.methodLink RL 89 yX9_farthest) ∈ GL := GLi (List.mem_of_getElem? (i := 1198) (by decide +kernel)) (by decide +kernel)
theorem mw_910 : (Cond.instanceMethod yX9_farthest) ∈ GL := GLi (List.mem_of_getElem? (i := 1199) (by decide +kernel)) (by decide +kernel)
theorem mw_911 : (Cond.selects RX9 yX9_farthest yX9_farthest) ∈ GL := GLi (List.mem_of_getElem? (i := 1200) (by decide +kernel)) (by decide +kernel)
theorem mw_912 : (Cond.methodLink RL 90 yX8_mean) ∈ GL := GLi (List.mem_of_getElem? (i := 631) (by decide +kernel)) (by decide +kernel)
theorem mw_913 : (Cond.instanceMethod yX8_mean) ∈ GL := GLi (List.mem_of_getElem? (i := 632) (by decide +kernel)) (by decide +kernel)
theorem mw_914 : (Cond.selects RX8 yX8_mean yX8_mean) ∈ GL := GLi (List.mem_of_getElem? (i := 633) (by decide +kernel)) (by decide +kernel)
theorem mw_915 : (Cond.methodLink RL 93 yX9_mean) ∈ GL := GLi (List.mem_of_getElem? (i := 1202) (by decide +kernel)) (by decide +kernel)
theorem mw_916 : (Cond.instanceMethod yX9_mean) ∈ GL := GLi (List.mem_of_getElem? (i := 1203) (by decide +kernel)) (by decide +kernel)
theorem mw_917 : (Cond.selects RX9 yX9_mean yX9_mean) ∈ GL := GLi (List.mem_of_getElem? (i := 1204) (by decide +kernel)) (by decide +kernel)
theorem mw_918 : (Cond.methodLink RL 94 yX8_rim) ∈ GL := GLi (List.mem_of_getElem? (i := 635) (by decide +kernel)) (by decide +kernel)
theorem mw_919 : (Cond.instanceMethod yX8_rim) ∈ GL := GLi (List.mem_of_getElem? (i := 636) (by decide +kernel)) (by decide +kernel)
theorem mw_920 : (Cond.selects RX8 yX8_rim yX8_rim) ∈ GL := GLi (List.mem_of_getElem? (i := 637) (by decide +kernel)) (by decide +kernel)
theorem mw_921 : (Cond.methodLink RL 97 yX9_rim) ∈ GL := GLi (List.mem_of_getElem? (i := 1206) (by decide +kernel)) (by decide +kernel)
theorem mw_922 : (Cond.instanceMethod yX9_rim) ∈ GL := GLi (List.mem_of_getElem? (i := 1207) (by decide +kernel)) (by decide +kernel)
theorem mw_923 : (Cond.selects RX9 yX9_rim yX9_rim) ∈ GL := GLi (List.mem_of_getElem? (i := 1208) (by decide +kernel)) (by decide +kernel)
theorem mw_924 : (Cond.methodLink RL 98 yX8_edge) ∈ GL := GLi (List.mem_of_getElem? (i := 647) (by decide +kernel)) (by decide +kernel)
theorem mw_925 : (Cond.instanceMethod yX8_edge) ∈ GL := GLi (List.mem_of_getElem? (i := 648) (by decide +kernel)) (by decide +kernel)
theorem mw_926 : (Cond.selects RX8 yX8_edge yX8_edge) ∈ GL := GLi (List.mem_of_getElem? (i := 649) (by decide +kernel)) (by decide +kernel)
theorem mw_927 : (Cond.methodLink RL 101 yX9_edge) ∈ GL := GLi (List.mem_of_getElem? (i := 1218) (by decide +kernel)) (by decide +kernel)
theorem mw_928 : (Cond.instanceMethod yX9_edge) ∈ GL := GLi (List.mem_of_getElem? (i := 1219) (by decide +kernel)) (by decide +kernel)
theorem mw_929 : (Cond.selects RX9 yX9_edge yX9_edge) ∈ GL := GLi (List.mem_of_getElem? (i := 1220) (by decide +kernel)) (by decide +kernel)
theorem mw_930 : (Cond.methodLink RL 102 yX8_gluings) ∈ GL := GLi (List.mem_of_getElem? (i := 660) (by decide +kernel)) (by decide +kernel)
theorem mw_931 : (Cond.instanceMethod yX8_gluings) ∈ GL := GLi (List.mem_of_getElem? (i := 661) (by decide +kernel)) (by decide +kernel)
theorem mw_932 : (Cond.selects RX8 yX8_gluings yX8_gluings) ∈ GL := GLi (List.mem_of_getElem? (i := 662) (by decide +kernel)) (by decide +kernel)
theorem mw_933 : (Cond.methodLink RL 105 yX9_gluings) ∈ GL := GLi (List.mem_of_getElem? (i := 1226) (by decide +kernel)) (by decide +kernel)
theorem mw_934 : (Cond.instanceMethod yX9_gluings) ∈ GL := GLi (List.mem_of_getElem? (i := 1227) (by decide +kernel)) (by decide +kernel)
theorem mw_935 : (Cond.selects RX9 yX9_gluings yX9_gluings) ∈ GL := GLi (List.mem_of_getElem? (i := 1228) (by decide +kernel)) (by decide +kernel)
theorem mw_936 : (Cond.methodLink RL 106 yX8_glued) ∈ GL := GLi (List.mem_of_getElem? (i := 705) (by decide +kernel)) (by decide +kernel)
theorem mw_937 : (Cond.instanceMethod yX8_glued) ∈ GL := GLi (List.mem_of_getElem? (i := 706) (by decide +kernel)) (by decide +kernel)
theorem mw_938 : (Cond.selects RX8 yX8_glued yX8_glued) ∈ GL := GLi (List.mem_of_getElem? (i := 707) (by decide +kernel)) (by decide +kernel)
theorem mw_939 : (Cond.methodLink RL 109 yX9_glued) ∈ GL := GLi (List.mem_of_getElem? (i := 1246) (by decide +kernel)) (by decide +kernel)
theorem mw_940 : (Cond.instanceMethod yX9_glued) ∈ GL := GLi (List.mem_of_getElem? (i := 1247) (by decide +kernel)) (by decide +kernel)
theorem mw_941 : (Cond.selects RX9 yX9_glued yX9_glued) ∈ GL := GLi (List.mem_of_getElem? (i := 1248) (by decide +kernel)) (by decide +kernel)
theorem mw_942 : (Cond.methodLink RL 110 yX8_corners) ∈ GL := GLi (List.mem_of_getElem? (i := 713) (by decide +kernel)) (by decide +kernel)
theorem mw_943 : (Cond.instanceMethod yX8_corners) ∈ GL := GLi (List.mem_of_getElem? (i := 714) (by decide +kernel)) (by decide +kernel)
theorem mw_944 : (Cond.selects RX8 yX8_corners yX8_corners) ∈ GL := GLi (List.mem_of_getElem? (i := 715) (by decide +kernel)) (by decide +kernel)
theorem mw_945 : (Cond.methodLink RL 113 yX9_corners) ∈ GL := GLi (List.mem_of_getElem? (i := 1250) (by decide +kernel)) (by decide +kernel)
theorem mw_946 : (Cond.instanceMethod yX9_corners) ∈ GL := GLi (List.mem_of_getElem? (i := 1251) (by decide +kernel)) (by decide +kernel)
theorem mw_947 : (Cond.selects RX9 yX9_corners yX9_corners) ∈ GL := GLi (List.mem_of_getElem? (i := 1252) (by decide +kernel)) (by decide +kernel)
theorem mw_948 : (Cond.methodLink RL 114 yX8_glue) ∈ GL := GLi (List.mem_of_getElem? (i := 722) (by decide +kernel)) (by decide +kernel)
theorem mw_949 : (Cond.instanceMethod yX8_glue) ∈ GL := GLi (List.mem_of_getElem? (i := 723) (by decide +kernel)) (by decide +kernel)
theorem mw_950 : (Cond.selects RX8 yX8_glue yX8_glue) ∈ GL := GLi (List.mem_of_getElem? (i := 724) (by decide +kernel)) (by decide +kernel)
theorem mw_951 : (Cond.methodLink RL 117 yX9_glue) ∈ GL := GLi (List.mem_of_getElem? (i := 1254) (by decide +kernel)) (by decide +kernel)
theorem mw_952 : (Cond.instanceMethod yX9_glue) ∈ GL := GLi (List.mem_of_getElem? (i := 1255) (by decide +kernel)) (by decide +kernel)
theorem mw_953 : (Cond.selects RX9 yX9_glue yX9_glue) ∈ GL := GLi (List.mem_of_getElem? (i := 1256) (by decide +kernel)) (by decide +kernel)
theorem mw_954 : (Cond.methodLink RL 118 yX8_tries) ∈ GL := GLi (List.mem_of_getElem? (i := 744) (by decide +kernel)) (by decide +kernel)
theorem mw_955 : (Cond.instanceMethod yX8_tries) ∈ GL := GLi (List.mem_of_getElem? (i := 745) (by decide +kernel)) (by decide +kernel)
theorem mw_956 : (Cond.selects RX8 yX8_tries yX8_tries) ∈ GL := GLi (List.mem_of_getElem? (i := 746) (by decide +kernel)) (by decide +kernel)
theorem mw_957 : (Cond.methodLink RL 122 yX9_tries) ∈ GL := GLi (List.mem_of_getElem? (i := 1262) (by decide +kernel)) (by decide +kernel)
theorem mw_958 : (Cond.instanceMethod yX9_tries) ∈ GL := GLi (List.mem_of_getElem? (i := 1263) (by decide +kernel)) (by decide +kernel)
theorem mw_959 : (Cond.selects RX9 yX9_tries yX9_tries) ∈ GL := GLi (List.mem_of_getElem? (i := 1264) (by decide +kernel)) (by decide +kernel)
theorem mw_960 : (Cond.methodLink RL 123 yX8_meanAngle) ∈ GL := GLi (List.mem_of_getElem? (i := 748) (by decide +kernel)) (by decide +kernel)
theorem mw_961 : (Cond.instanceMethod yX8_meanAngle) ∈ GL := GLi (List.mem_of_getElem? (i := 749) (by decide +kernel)) (by decide +kernel)
theorem mw_962 : (Cond.selects RX8 yX8_meanAngle yX8_meanAngle) ∈ GL := GLi (List.mem_of_getElem? (i := 750) (by decide +kernel)) (by decide +kernel)
theorem mw_963 : (Cond.methodLink RL 126 yX9_meanAngle) ∈ GL := GLi (List.mem_of_getElem? (i := 1222) (by decide +kernel)) (by decide +kernel)
theorem mw_964 : (Cond.instanceMethod yX9_meanAngle) ∈ GL := GLi (List.mem_of_getElem? (i := 1223) (by decide +kernel)) (by decide +kernel)
theorem mw_965 : (Cond.selects RX9 yX9_meanAngle yX9_meanAngle) ∈ GL := GLi (List.mem_of_getElem? (i := 1224) (by decide +kernel)) (by decide +kernel)
theorem mw_966 : (Cond.methodLink RL 127 yX8_row) ∈ GL := GLi (List.mem_of_getElem? (i := 756) (by decide +kernel)) (by decide +kernel)
theorem mw_967 : (Cond.instanceMethod yX8_row) ∈ GL := GLi (List.mem_of_getElem? (i := 757) (by decide +kernel)) (by decide +kernel)
theorem mw_968 : (Cond.selects RX8 yX8_row yX8_row) ∈ GL := GLi (List.mem_of_getElem? (i := 758) (by decide +kernel)) (by decide +kernel)
theorem mw_969 : (Cond.methodLink RL 130 yX9_row) ∈ GL := GLi (List.mem_of_getElem? (i := 1266) (by decide +kernel)) (by decide +kernel)
theorem mw_970 : (Cond.instanceMethod yX9_row) ∈ GL := GLi (List.mem_of_getElem? (i := 1267) (by decide +kernel)) (by decide +kernel)
theorem mw_971 : (Cond.selects RX9 yX9_row yX9_row) ∈ GL := GLi (List.mem_of_getElem? (i := 1268) (by decide +kernel)) (by decide +kernel)
theorem mw_972 : (Cond.methodLink RL 131 yX8_lay) ∈ GL := GLi (List.mem_of_getElem? (i := 760) (by decide +kernel)) (by decide +kernel)
theorem mw_973 : (Cond.instanceMethod yX8_lay) ∈ GL := GLi (List.mem_of_getElem? (i := 761) (by decide +kernel)) (by decide +kernel)
theorem mw_974 : (Cond.selects RX8 yX8_lay yX8_lay) ∈ GL := GLi (List.mem_of_getElem? (i := 762) (by decide +kernel)) (by decide +kernel)
theorem mw_975 : (Cond.methodLink RL 134 yX9_lay) ∈ GL := GLi (List.mem_of_getElem? (i := 1270) (by decide +kernel)) (by decide +kernel)
theorem mw_976 : (Cond.instanceMethod yX9_lay) ∈ GL := GLi (List.mem_of_getElem? (i := 1271) (by decide +kernel)) (by decide +kernel)
theorem mw_977 : (Cond.selects RX9 yX9_lay yX9_lay) ∈ GL := GLi (List.mem_of_getElem? (i := 1272) (by decide +kernel)) (by decide +kernel)
theorem mw_978 : (Cond.methodLink RL 135 yX8_tear) ∈ GL := GLi (List.mem_of_getElem? (i := 765) (by decide +kernel)) (by decide +kernel)
theorem mw_979 : (Cond.instanceMethod yX8_tear) ∈ GL := GLi (List.mem_of_getElem? (i := 766) (by decide +kernel)) (by decide +kernel)
theorem mw_980 : (Cond.selects RX8 yX8_tear yX8_tear) ∈ GL := GLi (List.mem_of_getElem? (i := 767) (by decide +kernel)) (by decide +kernel)
theorem mw_981 : (Cond.methodLink RL 138 yX9_tear) ∈ GL := GLi (List.mem_of_getElem? (i := 1278) (by decide +kernel)) (by decide +kernel)
theorem mw_982 : (Cond.instanceMethod yX9_tear) ∈ GL := GLi (List.mem_of_getElem? (i := 1279) (by decide +kernel)) (by decide +kernel)
theorem mw_983 : (Cond.selects RX9 yX9_tear yX9_tear) ∈ GL := GLi (List.mem_of_getElem? (i := 1280) (by decide +kernel)) (by decide +kernel)
theorem mw_984 : (Cond.methodLink RL 139 yX8_copy) ∈ GL := GLi (List.mem_of_getElem? (i := 773) (by decide +kernel)) (by decide +kernel)
theorem mw_985 : (Cond.instanceMethod yX8_copy) ∈ GL := GLi (List.mem_of_getElem? (i := 774) (by decide +kernel)) (by decide +kernel)
theorem mw_986 : (Cond.selects RX8 yX8_copy yX8_copy) ∈ GL := GLi (List.mem_of_getElem? (i := 775) (by decide +kernel)) (by decide +kernel)
theorem mw_987 : (Cond.methodLink RL 142 yX9_copy) ∈ GL := GLi (List.mem_of_getElem? (i := 1282) (by decide +kernel)) (by decide +kernel)
theorem mw_988 : (Cond.instanceMethod yX9_copy) ∈ GL := GLi (List.mem_of_getElem? (i := 1283) (by decide +kernel)) (by decide +kernel)
theorem mw_989 : (Cond.selects RX9 yX9_copy yX9_copy) ∈ GL := GLi (List.mem_of_getElem? (i := 1284) (by decide +kernel)) (by decide +kernel)
theorem mw_990 : (Cond.methodLink RL 143 yX8_meanRow) ∈ GL := GLi (List.mem_of_getElem? (i := 782) (by decide +kernel)) (by decide +kernel)
theorem mw_991 : (Cond.instanceMethod yX8_meanRow) ∈ GL := GLi (List.mem_of_getElem? (i := 783) (by decide +kernel)) (by decide +kernel)
theorem mw_992 : (Cond.selects RX8 yX8_meanRow yX8_meanRow) ∈ GL := GLi (List.mem_of_getElem? (i := 784) (by decide +kernel)) (by decide +kernel)
theorem mw_993 : (Cond.methodLink RL 146 yX9_meanRow) ∈ GL := GLi (List.mem_of_getElem? (i := 1286) (by decide +kernel)) (by decide +kernel)
theorem mw_994 : (Cond.instanceMethod yX9_meanRow) ∈ GL := GLi (List.mem_of_getElem? (i := 1287) (by decide +kernel)) (by decide +kernel)
theorem mw_995 : (Cond.selects RX9 yX9_meanRow yX9_meanRow) ∈ GL := GLi (List.mem_of_getElem? (i := 1288) (by decide +kernel)) (by decide +kernel)
theorem mw_996 : (Cond.methodLink RL 147 yX8_asked) ∈ GL := GLi (List.mem_of_getElem? (i := 790) (by decide +kernel)) (by decide +kernel)
theorem mw_997 : (Cond.instanceMethod yX8_asked) ∈ GL := GLi (List.mem_of_getElem? (i := 791) (by decide +kernel)) (by decide +kernel)
theorem mw_998 : (Cond.selects RX8 yX8_asked yX8_asked) ∈ GL := GLi (List.mem_of_getElem? (i := 792) (by decide +kernel)) (by decide +kernel)
theorem mw_999 : (Cond.methodLink RL 151 yX9_asked) ∈ GL := GLi (List.mem_of_getElem? (i := 1290) (by decide +kernel)) (by decide +kernel)
theorem mw_1000 : (Cond.instanceMethod yX9_asked) ∈ GL := GLi (List.mem_of_getElem? (i := 1291) (by decide +kernel)) (by decide +kernel)
theorem mw_1001 : (Cond.selects RX9 yX9_asked yX9_asked) ∈ GL := GLi (List.mem_of_getElem? (i := 1292) (by decide +kernel)) (by decide +kernel)
theorem mw_1002 : (Cond.methodLink RL 152 yX8_count) ∈ GL := GLi (List.mem_of_getElem? (i := 794) (by decide +kernel)) (by decide +kernel)
theorem mw_1003 : (Cond.instanceMethod yX8_count) ∈ GL := GLi (List.mem_of_getElem? (i := 795) (by decide +kernel)) (by decide +kernel)
theorem mw_1004 : (Cond.selects RX8 yX8_count yX8_count) ∈ GL := GLi (List.mem_of_getElem? (i := 796) (by decide +kernel)) (by decide +kernel)
theorem mw_1005 : (Cond.methodLink RL 155 yX9_count) ∈ GL := GLi (List.mem_of_getElem? (i := 1294) (by decide +kernel)) (by decide +kernel)
theorem mw_1006 : (Cond.instanceMethod yX9_count) ∈ GL := GLi (List.mem_of_getElem? (i := 1295) (by decide +kernel)) (by decide +kernel)
theorem mw_1007 : (Cond.selects RX9 yX9_count yX9_count) ∈ GL := GLi (List.mem_of_getElem? (i := 1296) (by decide +kernel)) (by decide +kernel)
theorem mw_1008 : (Cond.methodLink RL 156 yX8_finding) ∈ GL := GLi (List.mem_of_getElem? (i := 818) (by decide +kernel)) (by decide +kernel)
theorem mw_1009 : (Cond.instanceMethod yX8_finding) ∈ GL := GLi (List.mem_of_getElem? (i := 819) (by decide +kernel)) (by decide +kernel)
theorem mw_1010 : (Cond.selects RX8 yX8_finding yX8_finding) ∈ GL := GLi (List.mem_of_getElem? (i := 820) (by decide +kernel)) (by decide +kernel)
theorem mw_1011 : (Cond.methodLink RL 159 yX9_finding) ∈ GL := GLi (List.mem_of_getElem? (i := 1298) (by decide +kernel)) (by decide +kernel)
theorem mw_1012 : (Cond.instanceMethod yX9_finding) ∈ GL := GLi (List.mem_of_getElem? (i := 1299) (by decide +kernel)) (by decide +kernel)
theorem mw_1013 : (Cond.selects RX9 yX9_finding yX9_finding) ∈ GL := GLi (List.mem_of_getElem? (i := 1300) (by decide +kernel)) (by decide +kernel)
theorem mw_1014 : (Cond.methodLink RL 160 yX8_findings) ∈ GL := GLi (List.mem_of_getElem? (i := 822) (by decide +kernel)) (by decide +kernel)
theorem mw_1015 : (Cond.instanceMethod yX8_findings) ∈ GL := GLi (List.mem_of_getElem? (i := 823) (by decide +kernel)) (by decide +kernel)
theorem mw_1016 : (Cond.selects RX8 yX8_findings yX8_findings) ∈ GL := GLi (List.mem_of_getElem? (i := 824) (by decide +kernel)) (by decide +kernel)
theorem mw_1017 : (Cond.methodLink RL 163 yX9_findings) ∈ GL := GLi (List.mem_of_getElem? (i := 1302) (by decide +kernel)) (by decide +kernel)
theorem mw_1018 : (Cond.instanceMethod yX9_findings) ∈ GL := GLi (List.mem_of_getElem? (i := 1303) (by decide +kernel)) (by decide +kernel)
theorem mw_1019 : (Cond.selects RX9 yX9_findings yX9_findings) ∈ GL := GLi (List.mem_of_getElem? (i := 1304) (by decide +kernel)) (by decide +kernel)
theorem mw_1020 : (Cond.methodLink RL 164 yX8_digest) ∈ GL := GLi (List.mem_of_getElem? (i := 826) (by decide +kernel)) (by decide +kernel)
theorem mw_1021 : (Cond.instanceMethod yX8_digest) ∈ GL := GLi (List.mem_of_getElem? (i := 827) (by decide +kernel)) (by decide +kernel)
theorem mw_1022 : (Cond.selects RX8 yX8_digest yX8_digest) ∈ GL := GLi (List.mem_of_getElem? (i := 828) (by decide +kernel)) (by decide +kernel)
theorem mw_1023 : (Cond.methodLink RL 167 yX9_digest) ∈ GL := GLi (List.mem_of_getElem? (i := 1306) (by decide +kernel)) (by decide +kernel)
theorem mw_1024 : (Cond.instanceMethod yX9_digest) ∈ GL := GLi (List.mem_of_getElem? (i := 1307) (by decide +kernel)) (by decide +kernel)
theorem mw_1025 : (Cond.selects RX9 yX9_digest yX9_digest) ∈ GL := GLi (List.mem_of_getElem? (i := 1308) (by decide +kernel)) (by decide +kernel)
theorem inG_X0 : ∀ w ∈ wsX00, w ∈ GL := by
  intro w h
  obtain ⟨k, hk, rfl⟩ := List.mem_map.mp h
  have hk := List.mem_range.mp hk
  exact absurd hk (Nat.not_lt_zero _)
theorem inG_X1 : ∀ w ∈ wsX10, w ∈ GL := by
  intro w h
  obtain ⟨k, hk, rfl⟩ := List.mem_map.mp h
  have hk := List.mem_range.mp hk
  match k, hk with
  | 0, _ => exact GLi (List.mem_of_getElem? (i := 243) (by decide +kernel)) (by decide +kernel)
  | 1, _ => exact GLi (List.mem_of_getElem? (i := 245) (by decide +kernel)) (by decide +kernel)
  | 2, _ => exact GLi (List.mem_of_getElem? (i := 247) (by decide +kernel)) (by decide +kernel)
  | 3, _ => exact GLi (List.mem_of_getElem? (i := 249) (by decide +kernel)) (by decide +kernel)
  | 4, _ => exact GLi (List.mem_of_getElem? (i := 251) (by decide +kernel)) (by decide +kernel)
  | 5, _ => exact GLi (List.mem_of_getElem? (i := 253) (by decide +kernel)) (by decide +kernel)
  | 6, _ => exact GLi (List.mem_of_getElem? (i := 255) (by decide +kernel)) (by decide +kernel)
  | k + 7, hk => exact absurd hk (by omega)
theorem inG_X2 : ∀ w ∈ wsX20, w ∈ GL := by
  intro w h
  obtain ⟨k, hk, rfl⟩ := List.mem_map.mp h
  have hk := List.mem_range.mp hk
  match k, hk with
  | 0, _ => exact GLi (List.mem_of_getElem? (i := 220) (by decide +kernel)) (by decide +kernel)
  | 1, _ => exact GLi (List.mem_of_getElem? (i := 222) (by decide +kernel)) (by decide +kernel)
  | 2, _ => exact GLi (List.mem_of_getElem? (i := 224) (by decide +kernel)) (by decide +kernel)
  | 3, _ => exact GLi (List.mem_of_getElem? (i := 226) (by decide +kernel)) (by decide +kernel)
  | k + 4, hk => exact absurd hk (by omega)
theorem inG_X3 : ∀ w ∈ wsX30, w ∈ GL := by
  intro w h
  obtain ⟨k, hk, rfl⟩ := List.mem_map.mp h
  have hk := List.mem_range.mp hk
  match k, hk with
  | 0, _ => exact GLi (List.mem_of_getElem? (i := 180) (by decide +kernel)) (by decide +kernel)
  | 1, _ => exact GLi (List.mem_of_getElem? (i := 182) (by decide +kernel)) (by decide +kernel)
  | 2, _ => exact GLi (List.mem_of_getElem? (i := 184) (by decide +kernel)) (by decide +kernel)
  | 3, _ => exact GLi (List.mem_of_getElem? (i := 186) (by decide +kernel)) (by decide +kernel)
  | 4, _ => exact GLi (List.mem_of_getElem? (i := 188) (by decide +kernel)) (by decide +kernel)
  | 5, _ => exact GLi (List.mem_of_getElem? (i := 190) (by decide +kernel)) (by decide +kernel)
  | 6, _ => exact GLi (List.mem_of_getElem? (i := 192) (by decide +kernel)) (by decide +kernel)
  | 7, _ => exact GLi (List.mem_of_getElem? (i := 194) (by decide +kernel)) (by decide +kernel)
  | 8, _ => exact GLi (List.mem_of_getElem? (i := 196) (by decide +kernel)) (by decide +kernel)
  | 9, _ => exact GLi (List.mem_of_getElem? (i := 198) (by decide +kernel)) (by decide +kernel)
  | 10, _ => exact GLi (List.mem_of_getElem? (i := 200) (by decide +kernel)) (by decide +kernel)
  | 11, _ => exact GLi (List.mem_of_getElem? (i := 202) (by decide +kernel)) (by decide +kernel)
  | 12, _ => exact GLi (List.mem_of_getElem? (i := 204) (by decide +kernel)) (by decide +kernel)
  | k + 13, hk => exact absurd hk (by omega)
theorem inG_X4 : ∀ w ∈ wsX40, w ∈ GL := by
  intro w h
  obtain ⟨k, hk, rfl⟩ := List.mem_map.mp h
  have hk := List.mem_range.mp hk
  match k, hk with
  | 0, _ => exact GLi (List.mem_of_getElem? (i := 150) (by decide +kernel)) (by decide +kernel)
  | 1, _ => exact GLi (List.mem_of_getElem? (i := 152) (by decide +kernel)) (by decide +kernel)
  | 2, _ => exact GLi (List.mem_of_getElem? (i := 154) (by decide +kernel)) (by decide +kernel)
  | 3, _ => exact GLi (List.mem_of_getElem? (i := 156) (by decide +kernel)) (by decide +kernel)
  | k + 4, hk => exact absurd hk (by omega)
theorem inG_X5 : ∀ w ∈ wsX50, w ∈ GL := by
  intro w h
  obtain ⟨k, hk, rfl⟩ := List.mem_map.mp h
  have hk := List.mem_range.mp hk
  match k, hk with
  | 0, _ => exact GLi (List.mem_of_getElem? (i := 98) (by decide +kernel)) (by decide +kernel)
  | 1, _ => exact GLi (List.mem_of_getElem? (i := 100) (by decide +kernel)) (by decide +kernel)
  | k + 2, hk => exact absurd hk (by omega)
theorem inG_X6 : ∀ w ∈ wsX60, w ∈ GL := by
  intro w h
  obtain ⟨k, hk, rfl⟩ := List.mem_map.mp h
  have hk := List.mem_range.mp hk
  match k, hk with
  | 0, _ => exact GLi (List.mem_of_getElem? (i := 117) (by decide +kernel)) (by decide +kernel)
  | 1, _ => exact GLi (List.mem_of_getElem? (i := 119) (by decide +kernel)) (by decide +kernel)
  | 2, _ => exact GLi (List.mem_of_getElem? (i := 121) (by decide +kernel)) (by decide +kernel)
  | 3, _ => exact GLi (List.mem_of_getElem? (i := 123) (by decide +kernel)) (by decide +kernel)
  | 4, _ => exact GLi (List.mem_of_getElem? (i := 125) (by decide +kernel)) (by decide +kernel)
  | k + 5, hk => exact absurd hk (by omega)
theorem inG_X7 : ∀ w ∈ wsX70, w ∈ GL := by
  intro w h
  obtain ⟨k, hk, rfl⟩ := List.mem_map.mp h
  have hk := List.mem_range.mp hk
  match k, hk with
  | 0, _ => exact GLi (List.mem_of_getElem? (i := 135) (by decide +kernel)) (by decide +kernel)
  | k + 1, hk => exact absurd hk (by omega)
theorem inG_X8 : ∀ w ∈ wsX80, w ∈ GL := by
  intro w h
  obtain ⟨k, hk, rfl⟩ := List.mem_map.mp h
  have hk := List.mem_range.mp hk
  match k, hk with
  | 0, _ => exact GLi (List.mem_of_getElem? (i := 283) (by decide +kernel)) (by decide +kernel)
  | 1, _ => exact GLi (List.mem_of_getElem? (i := 285) (by decide +kernel)) (by decide +kernel)
  | 2, _ => exact GLi (List.mem_of_getElem? (i := 287) (by decide +kernel)) (by decide +kernel)
  | 3, _ => exact GLi (List.mem_of_getElem? (i := 289) (by decide +kernel)) (by decide +kernel)
  | 4, _ => exact GLi (List.mem_of_getElem? (i := 291) (by decide +kernel)) (by decide +kernel)
  | 5, _ => exact GLi (List.mem_of_getElem? (i := 293) (by decide +kernel)) (by decide +kernel)
  | 6, _ => exact GLi (List.mem_of_getElem? (i := 295) (by decide +kernel)) (by decide +kernel)
  | 7, _ => exact GLi (List.mem_of_getElem? (i := 297) (by decide +kernel)) (by decide +kernel)
  | 8, _ => exact GLi (List.mem_of_getElem? (i := 299) (by decide +kernel)) (by decide +kernel)
  | 9, _ => exact GLi (List.mem_of_getElem? (i := 301) (by decide +kernel)) (by decide +kernel)
  | 10, _ => exact GLi (List.mem_of_getElem? (i := 303) (by decide +kernel)) (by decide +kernel)
  | 11, _ => exact GLi (List.mem_of_getElem? (i := 305) (by decide +kernel)) (by decide +kernel)
  | k + 12, hk => exact absurd hk (by omega)
theorem inG_X9 : ∀ w ∈ wsX90, w ∈ GL := by
  intro w h
  obtain ⟨k, hk, rfl⟩ := List.mem_map.mp h
  have hk := List.mem_range.mp hk
  match k, hk with
  | 0, _ => exact GLi (List.mem_of_getElem? (i := 897) (by decide +kernel)) (by decide +kernel)
  | 1, _ => exact GLi (List.mem_of_getElem? (i := 899) (by decide +kernel)) (by decide +kernel)
  | 2, _ => exact GLi (List.mem_of_getElem? (i := 901) (by decide +kernel)) (by decide +kernel)
  | 3, _ => exact GLi (List.mem_of_getElem? (i := 903) (by decide +kernel)) (by decide +kernel)
  | 4, _ => exact GLi (List.mem_of_getElem? (i := 905) (by decide +kernel)) (by decide +kernel)
  | 5, _ => exact GLi (List.mem_of_getElem? (i := 907) (by decide +kernel)) (by decide +kernel)
  | 6, _ => exact GLi (List.mem_of_getElem? (i := 909) (by decide +kernel)) (by decide +kernel)
  | 7, _ => exact GLi (List.mem_of_getElem? (i := 911) (by decide +kernel)) (by decide +kernel)
  | 8, _ => exact GLi (List.mem_of_getElem? (i := 913) (by decide +kernel)) (by decide +kernel)
  | 9, _ => exact GLi (List.mem_of_getElem? (i := 915) (by decide +kernel)) (by decide +kernel)
  | 10, _ => exact GLi (List.mem_of_getElem? (i := 917) (by decide +kernel)) (by decide +kernel)
  | 11, _ => exact GLi (List.mem_of_getElem? (i := 919) (by decide +kernel)) (by decide +kernel)
  | 12, _ => exact GLi (List.mem_of_getElem? (i := 921) (by decide +kernel)) (by decide +kernel)
  | 13, _ => exact GLi (List.mem_of_getElem? (i := 923) (by decide +kernel)) (by decide +kernel)
  | 14, _ => exact GLi (List.mem_of_getElem? (i := 925) (by decide +kernel)) (by decide +kernel)
  | 15, _ => exact GLi (List.mem_of_getElem? (i := 927) (by decide +kernel)) (by decide +kernel)
  | 16, _ => exact GLi (List.mem_of_getElem? (i := 929) (by decide +kernel)) (by decide +kernel)
  | 17, _ => exact GLi (List.mem_of_getElem? (i := 931) (by decide +kernel)) (by decide +kernel)
  | 18, _ => exact GLi (List.mem_of_getElem? (i := 933) (by decide +kernel)) (by decide +kernel)
  | 19, _ => exact GLi (List.mem_of_getElem? (i := 935) (by decide +kernel)) (by decide +kernel)
  | 20, _ => exact GLi (List.mem_of_getElem? (i := 937) (by decide +kernel)) (by decide +kernel)
  | 21, _ => exact GLi (List.mem_of_getElem? (i := 939) (by decide +kernel)) (by decide +kernel)
  | 22, _ => exact GLi (List.mem_of_getElem? (i := 941) (by decide +kernel)) (by decide +kernel)
  | 23, _ => exact GLi (List.mem_of_getElem? (i := 943) (by decide +kernel)) (by decide +kernel)
  | 24, _ => exact GLi (List.mem_of_getElem? (i := 945) (by decide +kernel)) (by decide +kernel)
  | 25, _ => exact GLi (List.mem_of_getElem? (i := 947) (by decide +kernel)) (by decide +kernel)
  | 26, _ => exact GLi (List.mem_of_getElem? (i := 949) (by decide +kernel)) (by decide +kernel)
  | 27, _ => exact GLi (List.mem_of_getElem? (i := 951) (by decide +kernel)) (by decide +kernel)
  | 28, _ => exact GLi (List.mem_of_getElem? (i := 953) (by decide +kernel)) (by decide +kernel)
  | 29, _ => exact GLi (List.mem_of_getElem? (i := 955) (by decide +kernel)) (by decide +kernel)
  | 30, _ => exact GLi (List.mem_of_getElem? (i := 957) (by decide +kernel)) (by decide +kernel)
  | 31, _ => exact GLi (List.mem_of_getElem? (i := 959) (by decide +kernel)) (by decide +kernel)
  | 32, _ => exact GLi (List.mem_of_getElem? (i := 961) (by decide +kernel)) (by decide +kernel)
  | 33, _ => exact GLi (List.mem_of_getElem? (i := 963) (by decide +kernel)) (by decide +kernel)
  | 34, _ => exact GLi (List.mem_of_getElem? (i := 965) (by decide +kernel)) (by decide +kernel)
  | 35, _ => exact GLi (List.mem_of_getElem? (i := 967) (by decide +kernel)) (by decide +kernel)
  | 36, _ => exact GLi (List.mem_of_getElem? (i := 969) (by decide +kernel)) (by decide +kernel)
  | 37, _ => exact GLi (List.mem_of_getElem? (i := 971) (by decide +kernel)) (by decide +kernel)
  | 38, _ => exact GLi (List.mem_of_getElem? (i := 973) (by decide +kernel)) (by decide +kernel)
  | 39, _ => exact GLi (List.mem_of_getElem? (i := 975) (by decide +kernel)) (by decide +kernel)
  | 40, _ => exact GLi (List.mem_of_getElem? (i := 977) (by decide +kernel)) (by decide +kernel)
  | 41, _ => exact GLi (List.mem_of_getElem? (i := 979) (by decide +kernel)) (by decide +kernel)
  | 42, _ => exact GLi (List.mem_of_getElem? (i := 981) (by decide +kernel)) (by decide +kernel)
  | k + 43, hk => exact absurd hk (by omega)
def wsX0_has : List Cond := .code yX0_has cX0_has 3 (some .boolean) :: GL
def wsJ13_bitCount_95d88 : List Cond := .code yJ13_bitCount_95d88 cJ13_bitCount_95d88 2 (some .int) :: GL
def wsX0_least : List Cond := .code yX0_least cX0_least 2 (some .int) :: GL
def wsX8_isSquare : List Cond := .code yX8_isSquare cX8_isSquare 1 (some .boolean) :: GL
def wsX8_within : List Cond := .code yX8_within cX8_within 3 (some .boolean) :: GL
def wsX0_beside : List Cond := .code yX0_beside cX0_beside 4 (some .int) :: GL
def wsX0_moved : List Cond := .code yX0_moved cX0_moved 3 (some .long) :: GL
def wsX0_hangsTogether : List Cond := .code yX0_hangsTogether cX0_hangsTogether 8 (some .boolean) :: GL
def wsX0_openEdges : List Cond := .code yX0_openEdges cX0_openEdges 4 (some .int) :: GL
def wsX0_isLying : List Cond := .code yX0_isLying cX0_isLying 3 (some .boolean) :: GL
def wsX0_isStanding : List Cond := .code yX0_isStanding cX0_isStanding 3 (some .boolean) :: GL
def wsX0_putDown : List Cond := .code yX0_putDown cX0_putDown 5 (some .long) :: GL
def wsX0_turned : List Cond := .code yX0_turned cX0_turned 9 (some .long) :: GL
def wsX0_areAlike : List Cond := .code yX0_areAlike cX0_areAlike 9 (some .boolean) :: GL
def wsX1_init : List Cond := .code yX1_init cX1_init 1 none :: GL
def wsX1_isThere : List Cond := .code yX1_isThere cX1_isThere 1 (some .boolean) :: GL
def wsX1_isCube : List Cond := .code yX1_isCube cX1_isCube 1 (some .boolean) :: GL
def wsX1_hasCell : List Cond := .code yX1_hasCell cX1_hasCell 2 (some .boolean) :: GL
def wsX1_length : List Cond := .code yX1_length cX1_length 2 (some .int) :: GL
def wsX1_sideOf : List Cond := .code yX1_sideOf cX1_sideOf 2 (some .int) :: GL
def wsX1_middleOf : List Cond := .code yX1_middleOf cX1_middleOf 3 (some .int) :: GL
def wsX8_frameOf : List Cond := .code yX8_frameOf cX8_frameOf 2 (some .int) :: GL
def wsX1_leadsTo : List Cond := .code yX1_leadsTo cX1_leadsTo 6 (some .int) :: GL
def wsX1_endAt : List Cond := .code yX1_endAt cX1_endAt 2 (some .int) :: GL
def wsX1_numberSide : List Cond := .code yX1_numberSide cX1_numberSide 6 none :: GL
def wsX1_directionOf : List Cond := .code yX1_directionOf cX1_directionOf 3 (some .int) :: GL
def wsX1_signOf : List Cond := .code yX1_signOf cX1_signOf 1 (some .int) :: GL
def wsX1_cellAtSpot : List Cond := .code yX1_cellAtSpot cX1_cellAtSpot 4 (some .int) :: GL
def wsX1_roundEdge : List Cond := .code yX1_roundEdge cX1_roundEdge 3 (some .int) :: GL
def wsX1_turnWithRight : List Cond := .code yX1_turnWithRight cX1_turnWithRight 3 (some .int) :: GL
def wsX1_arrivalFrom : List Cond := .code yX1_arrivalFrom cX1_arrivalFrom 7 (some .int) :: GL
def wsX1_build : List Cond := .code yX1_build cX1_build 6 none :: GL
def wsX1_digestInto : List Cond := .code yX1_digestInto cX1_digestInto 6 (some .long) :: GL
def wsX2_init : List Cond := .code yX2_init cX2_init 1 none :: GL
def wsX2_isThere : List Cond := .code yX2_isThere cX2_isThere 1 (some .boolean) :: GL
def wsX2_isOf : List Cond := .code yX2_isOf cX2_isOf 2 (some .boolean) :: GL
def wsX2_putPlain : List Cond := .code yX2_putPlain cX2_putPlain 3 none :: GL
def wsX2_putNet : List Cond := .code yX2_putNet cX2_putNet 5 none :: GL
def wsX2_takeAway : List Cond := .code yX2_takeAway cX2_takeAway 1 none :: GL
def wsX2_digestInto : List Cond := .code yX2_digestInto cX2_digestInto 5 (some .long) :: GL
def wsX3_init : List Cond := .code yX3_init cX3_init 1 none :: GL
def wsX3_toldPartner : List Cond := .code yX3_toldPartner cX3_toldPartner 2 (some .int) :: GL
def wsX3_toldCorners : List Cond := .code yX3_toldCorners cX3_toldCorners 2 (some .int) :: GL
def wsJ7_fill_53178 : List Cond := .code yJ7_fill_53178 cJ7_fill_53178 4 none :: GL
def wsX3_isFree : List Cond := .code yX3_isFree cX3_isFree 2 (some .boolean) :: GL
def wsX4_hasEdge : List Cond := .code yX4_hasEdge cX4_hasEdge 2 (some .boolean) :: GL
def wsX4_angleAt : List Cond := .code yX4_angleAt cX4_angleAt 2 (some .int) :: GL
def wsX3_gatherCorners : List Cond := .code yX3_gatherCorners cX3_gatherCorners 4 none :: GL
def wsX3_isLegal : List Cond := .code yX3_isLegal cX3_isLegal 2 (some .boolean) :: GL
def wsX3_cornersWith : List Cond := .code yX3_cornersWith cX3_cornersWith 4 (some .int) :: GL
def wsX3_judge : List Cond := .code yX3_judge cX3_judge 3 none :: GL
def wsX3_countTry : List Cond := .code yX3_countTry cX3_countTry 1 (some .boolean) :: GL
def wsX3_pairFrom : List Cond := .code yX3_pairFrom cX3_pairFrom 7 none :: GL
def wsX3_keepFirst : List Cond := .code yX3_keepFirst cX3_keepFirst 1 none :: GL
def wsX3_seek : List Cond := .code yX3_seek cX3_seek 3 (some .boolean) :: GL
def wsX3_cornersInAll : List Cond := .code yX3_cornersInAll cX3_cornersInAll 3 (some .int) :: GL
def wsX3_isPaired : List Cond := .code yX3_isPaired cX3_isPaired 3 (some .boolean) :: GL
def wsX3_holdsItsOwn : List Cond := .code yX3_holdsItsOwn cX3_holdsItsOwn 3 (some .boolean) :: GL
def wsX3_take : List Cond := .code yX3_take cX3_take 4 (some .boolean) :: GL
def wsX4_init : List Cond := .code yX4_init cX4_init 1 none :: GL
def wsX4_walk : List Cond := .code yX4_walk cX4_walk 10 (some .boolean) :: GL
def wsX4_tellEdge : List Cond := .code yX4_tellEdge cX4_tellEdge 3 (some .int) :: GL
def wsX4_sumOfAngles : List Cond := .code yX4_sumOfAngles cX4_sumOfAngles 3 (some .int) :: GL
def wsX5_init : List Cond := .code yX5_init cX5_init 1 none :: GL
def wsX5_isThere : List Cond := .code yX5_isThere cX5_isThere 1 (some .boolean) :: GL
def wsX5_hasPlace : List Cond := .code yX5_hasPlace cX5_hasPlace 2 (some .boolean) :: GL
def wsX5_hasPlaces : List Cond := .code yX5_hasPlaces cX5_hasPlaces 3 (some .boolean) :: GL
def wsX5_begin : List Cond := .code yX5_begin cX5_begin 2 none :: GL
def wsX5_takeAway : List Cond := .code yX5_takeAway cX5_takeAway 1 none :: GL
def wsX5_sum : List Cond := .code yX5_sum cX5_sum 4 (some .long) :: GL
def wsX5_digestInto : List Cond := .code yX5_digestInto cX5_digestInto 6 (some .long) :: GL
def wsX6_init : List Cond := .code yX6_init cX6_init 1 none :: GL
def wsX6_frameAt : List Cond := .code yX6_frameAt cX6_frameAt 2 (some .int) :: GL
def wsX6_clear : List Cond := .code yX6_clear cX6_clear 1 none :: GL
def wsX6_covers : List Cond := .code yX6_covers cX6_covers 2 (some .boolean) :: GL
def wsX6_put : List Cond := .code yX6_put cX6_put 4 (some .boolean) :: GL
def wsX6_foldRound : List Cond := .code yX6_foldRound cX6_foldRound 10 (some .boolean) :: GL
def wsX6_fold : List Cond := .code yX6_fold cX6_fold 6 (some .boolean) :: GL
def wsX6_isWhole : List Cond := .code yX6_isWhole cX6_isWhole 5 (some .boolean) :: GL
def wsX6_layRound : List Cond := .code yX6_layRound cX6_layRound 9 (some .boolean) :: GL
def wsX6_layOutFrom : List Cond := .code yX6_layOutFrom cX6_layOutFrom 6 (some .boolean) :: GL
def wsX7_init : List Cond := .code yX7_init cX7_init 1 none :: GL
def wsX7_lengthTo : List Cond := .code yX7_lengthTo cX7_lengthTo 8 (some .int) :: GL
def wsX7_unfold : List Cond := .code yX7_unfold cX7_unfold 8 none :: GL
def wsX7_shortestFrom : List Cond := .code yX7_shortestFrom cX7_shortestFrom 9 (some .int) :: GL
def wsX7_shortest : List Cond := .code yX7_shortest cX7_shortest 6 (some .int) :: GL
def wsX8_init : List Cond := .code yX8_init cX8_init 2 none :: GL
def wsX8_isFigure : List Cond := .code yX8_isFigure cX8_isFigure 1 (some .boolean) :: GL
def wsX8_figure : List Cond := .code yX8_figure cX8_figure 5 (some .int) :: GL
def wsX8_refuse : List Cond := .code yX8_refuse cX8_refuse 2 (some .int) :: GL
def wsX8_drop : List Cond := .code yX8_drop cX8_drop 2 (some .int) :: GL
def wsX8_isBox : List Cond := .code yX8_isBox cX8_isBox 1 (some .boolean) :: GL
def wsX8_isLength : List Cond := .code yX8_isLength cX8_isLength 1 (some .boolean) :: GL
def wsX8_box : List Cond := .code yX8_box cX8_box 5 (some .int) :: GL
def wsX8_told : List Cond := .code yX8_told cX8_told 4 (some .int) :: GL
def wsX8_mark : List Cond := .code yX8_mark cX8_mark 4 (some .int) :: GL
def wsX8_squares : List Cond := .code yX8_squares cX8_squares 2 (some .int) :: GL
def wsX8_turn : List Cond := .code yX8_turn cX8_turn 4 (some .int) :: GL
def wsX8_alike : List Cond := .code yX8_alike cX8_alike 3 (some .int) :: GL
def wsX8_missingCell : List Cond := .code yX8_missingCell cX8_missingCell 2 (some .int) :: GL
def wsX8_cell : List Cond := .code yX8_cell cX8_cell 5 (some .int) :: GL
def wsX8_isQuarter : List Cond := .code yX8_isQuarter cX8_isQuarter 1 (some .boolean) :: GL
def wsX8_next : List Cond := .code yX8_next cX8_next 7 (some .int) :: GL
def wsX8_missingToFold : List Cond := .code yX8_missingToFold cX8_missingToFold 4 (some .int) :: GL
def wsX8_folds : List Cond := .code yX8_folds cX8_folds 6 (some .int) :: GL
def wsX8_lies : List Cond := .code yX8_lies cX8_lies 7 (some .int) :: GL
def wsX8_wholes : List Cond := .code yX8_wholes cX8_wholes 6 (some .int) :: GL
def wsX8_layOutTo : List Cond := .code yX8_layOutTo cX8_layOutTo 7 (some .int) :: GL
def wsX8_layOut : List Cond := .code yX8_layOut cX8_layOut 6 (some .int) :: GL
def wsX8_isRow : List Cond := .code yX8_isRow cX8_isRow 1 (some .boolean) :: GL
def wsX8_layOutBy : List Cond := .code yX8_layOutBy cX8_layOutBy 7 (some .int) :: GL
def wsX8_way : List Cond := .code yX8_way cX8_way 5 (some .int) :: GL
def wsX8_farthest : List Cond := .code yX8_farthest cX8_farthest 8 (some .int) :: GL
def wsX8_mean : List Cond := .code yX8_mean cX8_mean 6 (some .int) :: GL
def wsX8_rim : List Cond := .code yX8_rim cX8_rim 2 (some .int) :: GL
def wsX8_edge : List Cond := .code yX8_edge cX8_edge 4 (some .int) :: GL
def wsX8_gluings : List Cond := .code yX8_gluings cX8_gluings 3 (some .int) :: GL
def wsX8_glued : List Cond := .code yX8_glued cX8_glued 2 (some .int) :: GL
def wsX8_corners : List Cond := .code yX8_corners cX8_corners 2 (some .int) :: GL
def wsX8_glue : List Cond := .code yX8_glue cX8_glue 3 (some .int) :: GL
def wsX8_tries : List Cond := .code yX8_tries cX8_tries 1 (some .int) :: GL
def wsX8_meanAngle : List Cond := .code yX8_meanAngle cX8_meanAngle 2 (some .int) :: GL
def wsX8_row : List Cond := .code yX8_row cX8_row 3 (some .int) :: GL
def wsX8_lay : List Cond := .code yX8_lay cX8_lay 4 (some .int) :: GL
def wsX8_tear : List Cond := .code yX8_tear cX8_tear 2 (some .int) :: GL
def wsX8_copy : List Cond := .code yX8_copy cX8_copy 6 (some .int) :: GL
def wsX8_meanRow : List Cond := .code yX8_meanRow cX8_meanRow 3 (some .int) :: GL
def wsX8_asked : List Cond := .code yX8_asked cX8_asked 1 (some .long) :: GL
def wsX8_figuresThere : List Cond := .code yX8_figuresThere cX8_figuresThere 3 (some .int) :: GL
def wsX8_squaresInAll : List Cond := .code yX8_squaresInAll cX8_squaresInAll 3 (some .int) :: GL
def wsX8_boxesThere : List Cond := .code yX8_boxesThere cX8_boxesThere 3 (some .int) :: GL
def wsX8_cellsInAll : List Cond := .code yX8_cellsInAll cX8_cellsInAll 3 (some .int) :: GL
def wsX8_rowsThere : List Cond := .code yX8_rowsThere cX8_rowsThere 3 (some .int) :: GL
def wsX8_count : List Cond := .code yX8_count cX8_count 2 (some .int) :: GL
def wsX8_finding : List Cond := .code yX8_finding cX8_finding 1 (some .int) :: GL
def wsX8_findings : List Cond := .code yX8_findings cX8_findings 2 (some .int) :: GL
def wsX8_digest : List Cond := .code yX8_digest cX8_digest 4 (some .long) :: GL
def wsX9_init : List Cond := .code yX9_init cX9_init 2 none :: GL
def wsX9_in : List Cond := .code yX9_in cX9_in 3 (some .boolean) :: GL
def wsX9_meets : List Cond := .code yX9_meets cX9_meets 2 (some .int) :: GL
def wsX9_ask : List Cond := .code yX9_ask cX9_ask 4 (some .int) :: GL
def wsX9_isFigure : List Cond := .code yX9_isFigure cX9_isFigure 1 (some .boolean) :: GL
def wsX9_isBox : List Cond := .code yX9_isBox cX9_isBox 1 (some .boolean) :: GL
def wsX9_looked : List Cond := .code yX9_looked cX9_looked 2 (some .int) :: GL
def wsX9_bits : List Cond := .code yX9_bits cX9_bits 4 (some .int) :: GL
def wsX9_has : List Cond := .code yX9_has cX9_has 3 (some .boolean) :: GL
def wsX9_beside : List Cond := .code yX9_beside cX9_beside 4 (some .int) :: GL
def wsX9_leastOf : List Cond := .code yX9_leastOf cX9_leastOf 3 (some .int) :: GL
def wsX9_hangs : List Cond := .code yX9_hangs cX9_hangs 10 (some .boolean) :: GL
def wsX9_setEnds : List Cond := .code yX9_setEnds cX9_setEnds 4 none :: GL
def wsX9_keep : List Cond := .code yX9_keep cX9_keep 4 none :: GL
def wsX9_figure : List Cond := .code yX9_figure cX9_figure 5 (some .int) :: GL
def wsX9_drop : List Cond := .code yX9_drop cX9_drop 3 (some .int) :: GL
def wsX9_rimOf : List Cond := .code yX9_rimOf cX9_rimOf 5 (some .int) :: GL
def wsX9_told : List Cond := .code yX9_told cX9_told 4 (some .int) :: GL
def wsX9_mark : List Cond := .code yX9_mark cX9_mark 4 (some .int) :: GL
def wsX9_squares : List Cond := .code yX9_squares cX9_squares 3 (some .int) :: GL
def wsX9_putDown : List Cond := .code yX9_putDown cX9_putDown 13 (some .long) :: GL
def wsX9_turn : List Cond := .code yX9_turn cX9_turn 5 (some .int) :: GL
def wsX9_alike : List Cond := .code yX9_alike cX9_alike 7 (some .int) :: GL
def wsX9_lookedBox : List Cond := .code yX9_lookedBox cX9_lookedBox 2 (some .int) :: GL
def wsX9_cellsOf : List Cond := .code yX9_cellsOf cX9_cellsOf 3 (some .int) :: GL
def wsX9_cells : List Cond := .code yX9_cells cX9_cells 2 (some .int) :: GL
def wsX9_box : List Cond := .code yX9_box cX9_box 5 (some .int) :: GL
def wsX9_sign : List Cond := .code yX9_sign cX9_sign 1 (some .int) :: GL
def wsX9_cross : List Cond := .code yX9_cross cX9_cross 4 (some .int) :: GL
def wsX9_baseUp : List Cond := .code yX9_baseUp cX9_baseUp 1 (some .int) :: GL
def wsX9_baseRight : List Cond := .code yX9_baseRight cX9_baseRight 1 (some .int) :: GL
def wsX9_setFrame : List Cond := .code yX9_setFrame cX9_setFrame 4 none :: GL
def wsX9_turnNow : List Cond := .code yX9_turnNow cX9_turnNow 3 (some .int) :: GL
def wsX9_sideSize : List Cond := .code yX9_sideSize cX9_sideSize 4 (some .int) :: GL
def wsX9_goTo : List Cond := .code yX9_goTo cX9_goTo 7 none :: GL
def wsX9_cellNow : List Cond := .code yX9_cellNow cX9_cellNow 6 (some .int) :: GL
def wsX9_wayNow : List Cond := .code yX9_wayNow cX9_wayNow 2 (some .int) :: GL
def wsX9_bend : List Cond := .code yX9_bend cX9_bend 4 none :: GL
def wsX9_go : List Cond := .code yX9_go cX9_go 6 none :: GL
def wsX9_isCell : List Cond := .code yX9_isCell cX9_isCell 3 (some .boolean) :: GL
def wsX9_cell : List Cond := .code yX9_cell cX9_cell 5 (some .int) :: GL
def wsX9_next : List Cond := .code yX9_next cX9_next 6 (some .int) :: GL
def wsX9_isFolded : List Cond := .code yX9_isFolded cX9_isFolded 13 (some .boolean) :: GL
def wsX9_askedBoth : List Cond := .code yX9_askedBoth cX9_askedBoth 3 (some .int) :: GL
def wsX9_foldsTo : List Cond := .code yX9_foldsTo cX9_foldsTo 5 (some .int) :: GL
def wsX9_folds : List Cond := .code yX9_folds cX9_folds 6 (some .int) :: GL
def wsX9_lies : List Cond := .code yX9_lies cX9_lies 7 (some .int) :: GL
def wsX9_wholes : List Cond := .code yX9_wholes cX9_wholes 6 (some .int) :: GL
def wsX9_lays : List Cond := .code yX9_lays cX9_lays 15 (some .int) :: GL
def wsX9_layOut : List Cond := .code yX9_layOut cX9_layOut 6 (some .int) :: GL
def wsX9_isRow : List Cond := .code yX9_isRow cX9_isRow 1 (some .boolean) :: GL
def wsX9_layOutBy : List Cond := .code yX9_layOutBy cX9_layOutBy 6 (some .int) :: GL
def wsX9_along : List Cond := .code yX9_along cX9_along 3 (some .int) :: GL
def wsX9_farNow : List Cond := .code yX9_farNow cX9_farNow 4 (some .int) :: GL
def wsX9_unfolds : List Cond := .code yX9_unfolds cX9_unfolds 10 (some .boolean) :: GL
def wsX9_shortOf : List Cond := .code yX9_shortOf cX9_shortOf 8 (some .int) :: GL
def wsX9_askedCells : List Cond := .code yX9_askedCells cX9_askedCells 5 (some .int) :: GL
def wsX9_way : List Cond := .code yX9_way cX9_way 5 (some .int) :: GL
def wsX9_farthest : List Cond := .code yX9_farthest cX9_farthest 8 (some .int) :: GL
def wsX9_mean : List Cond := .code yX9_mean cX9_mean 6 (some .int) :: GL
def wsX9_isWalked : List Cond := .code yX9_isWalked cX9_isWalked 9 (some .boolean) :: GL
def wsX9_askedRim : List Cond := .code yX9_askedRim cX9_askedRim 3 (some .int) :: GL
def wsX9_rim : List Cond := .code yX9_rim cX9_rim 3 (some .int) :: GL
def wsX9_edge : List Cond := .code yX9_edge cX9_edge 5 (some .int) :: GL
def wsX9_meanAngle : List Cond := .code yX9_meanAngle cX9_meanAngle 5 (some .int) :: GL
def wsX9_joins : List Cond := .code yX9_joins cX9_joins 5 (some .boolean) :: GL
def wsX9_isLegal : List Cond := .code yX9_isLegal cX9_isLegal 6 (some .boolean) :: GL
def wsX9_firstFree : List Cond := .code yX9_firstFree cX9_firstFree 2 (some .int) :: GL
def wsX9_keepFirst : List Cond := .code yX9_keepFirst cX9_keepFirst 2 none :: GL
def wsX9_gluings : List Cond := .code yX9_gluings cX9_gluings 10 (some .int) :: GL
def wsX9_glued : List Cond := .code yX9_glued cX9_glued 2 (some .int) :: GL
def wsX9_corners : List Cond := .code yX9_corners cX9_corners 2 (some .int) :: GL
def wsX9_isGluing : List Cond := .code yX9_isGluing cX9_isGluing 7 (some .boolean) :: GL
def wsX9_glue : List Cond := .code yX9_glue cX9_glue 4 (some .int) :: GL
def wsX9_tries : List Cond := .code yX9_tries cX9_tries 1 (some .int) :: GL
def wsX9_askedRow : List Cond := .code yX9_askedRow cX9_askedRow 2 (some .int) :: GL
def wsX9_row : List Cond := .code yX9_row cX9_row 4 (some .int) :: GL
def wsX9_lay : List Cond := .code yX9_lay cX9_lay 5 (some .int) :: GL
def wsX9_tear : List Cond := .code yX9_tear cX9_tear 3 (some .int) :: GL
def wsX9_copy : List Cond := .code yX9_copy cX9_copy 7 (some .int) :: GL
def wsX9_meanRow : List Cond := .code yX9_meanRow cX9_meanRow 6 (some .int) :: GL
def wsX9_asked : List Cond := .code yX9_asked cX9_asked 1 (some .long) :: GL
def wsX9_count : List Cond := .code yX9_count cX9_count 4 (some .int) :: GL
def wsX9_finding : List Cond := .code yX9_finding cX9_finding 1 (some .int) :: GL
def wsX9_findings : List Cond := .code yX9_findings cX9_findings 2 (some .int) :: GL
def wsX9_digest : List Cond := .code yX9_digest cX9_digest 5 (some .long) :: GL
def wsJ9_max_7cf53 : List Cond := .code yJ9_max_7cf53 cJ9_max_7cf53 2 (some .int) :: GL
def wsJ9_min_7cf53 : List Cond := .code yJ9_min_7cf53 cJ9_min_7cf53 2 (some .int) :: GL
def wsL_law : List Cond := GL
theorem wsL_law_in : ∀ w ∈ wsL_law, w ∈ lw_tbl := fun w h => (List.mem_filter.mp h).1
theorem inlX0 : ∀ w ∈ wsX00, w ∈ wsL_law := inG_X0
theorem inX0 : ∀ w ∈ wsX00, w ∈ lw_tbl := fun w h => wsL_law_in w (inlX0 w h)
theorem inlX1 : ∀ w ∈ wsX10, w ∈ wsL_law := inG_X1
theorem inX1 : ∀ w ∈ wsX10, w ∈ lw_tbl := fun w h => wsL_law_in w (inlX1 w h)
theorem inlX2 : ∀ w ∈ wsX20, w ∈ wsL_law := inG_X2
theorem inX2 : ∀ w ∈ wsX20, w ∈ lw_tbl := fun w h => wsL_law_in w (inlX2 w h)
theorem inlX3 : ∀ w ∈ wsX30, w ∈ wsL_law := inG_X3
theorem inX3 : ∀ w ∈ wsX30, w ∈ lw_tbl := fun w h => wsL_law_in w (inlX3 w h)
theorem inlX4 : ∀ w ∈ wsX40, w ∈ wsL_law := inG_X4
theorem inX4 : ∀ w ∈ wsX40, w ∈ lw_tbl := fun w h => wsL_law_in w (inlX4 w h)
theorem inlX5 : ∀ w ∈ wsX50, w ∈ wsL_law := inG_X5
theorem inX5 : ∀ w ∈ wsX50, w ∈ lw_tbl := fun w h => wsL_law_in w (inlX5 w h)
theorem inlX6 : ∀ w ∈ wsX60, w ∈ wsL_law := inG_X6
theorem inX6 : ∀ w ∈ wsX60, w ∈ lw_tbl := fun w h => wsL_law_in w (inlX6 w h)
theorem inlX7 : ∀ w ∈ wsX70, w ∈ wsL_law := inG_X7
theorem inX7 : ∀ w ∈ wsX70, w ∈ lw_tbl := fun w h => wsL_law_in w (inlX7 w h)
theorem inlX8 : ∀ w ∈ wsX80, w ∈ wsL_law := inG_X8
theorem inX8 : ∀ w ∈ wsX80, w ∈ lw_tbl := fun w h => wsL_law_in w (inlX8 w h)
theorem inlX9 : ∀ w ∈ wsX90, w ∈ wsL_law := inG_X9
theorem inX9 : ∀ w ∈ wsX90, w ∈ lw_tbl := fun w h => wsL_law_in w (inlX9 w h)
