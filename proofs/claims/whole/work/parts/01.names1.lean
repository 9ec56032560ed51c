def RX0 : String := "LikeNets$Likeness"
def TX0 : u_T := fun k => match k with
  | 0 => ("LikeNets$Likeness", "c", "[I", true)
  | 1 => ("LikeNets$Likeness", "a", "[I", true)
  | 2 => ("LikeNets$Likeness", "b", "[I", true)
  | 3 => ("LikeNets$Likeness", "ready", "Z", false)
  | 4 => ("LikeNets$Likeness", "holds", "Z", false)
  | 5 => ("LikeNets$Likeness", "clashFrom", "I", false)
  | _ => ("LikeNets$Likeness", "clashTo", "I", false)
def tyX0 : Nat → FieldType := fun k => match k with
  | 0 => .array .int
  | 1 => .array .int
  | 2 => .array .int
  | 3 => .boolean
  | 4 => .boolean
  | 5 => .int
  | _ => .int
abbrev wsX00 : List Cond := u_ws RX0 TX0 7
theorem nmX0 : ∀ a, a < 7 → ∀ b, b < 7 → a ≠ b → (TX0 a).2.1 ≠ (TX0 b).2.1 := by decide +kernel
theorem tyX0_ok : ∀ k, k < 7 → parseFieldDescriptor (TX0 k).2.2.1 = some (tyX0 k) := by decide +kernel
abbrev cX0_init : ByteArray := prog_2_method_1_code
def yX0_init : MethodName := ⟨RX0, "<init>", "()V"⟩
abbrev cX0_look : ByteArray := prog_2_method_2_code
def yX0_look : MethodName := ⟨RX0, "look", "(LLikeNets$Net;LLikeNets$Ways;)V"⟩
abbrev cX0_fits : ByteArray := prog_2_method_3_code
def yX0_fits : MethodName := ⟨RX0, "fits", "(LLikeNets$Net;LLikeNets$Ways;II)Z"⟩
abbrev cX0_isAtMost : ByteArray := prog_2_method_4_code
def yX0_isAtMost : MethodName := ⟨RX0, "isAtMost", "(II)Z"⟩
def RX1 : String := "LikeNets$Makings"
def TX1 : u_T := fun k => match k with
  | _ => ("LikeNets$Makings", "sets", "[I", true)
def tyX1 : Nat → FieldType := fun k => match k with
  | _ => .array .int
abbrev wsX10 : List Cond := u_ws RX1 TX1 1
theorem nmX1 : ∀ a, a < 1 → ∀ b, b < 1 → a ≠ b → (TX1 a).2.1 ≠ (TX1 b).2.1 := by decide +kernel
theorem tyX1_ok : ∀ k, k < 1 → parseFieldDescriptor (TX1 k).2.2.1 = some (tyX1 k) := by decide +kernel
abbrev cX1_init : ByteArray := prog_3_method_1_code
def yX1_init : MethodName := ⟨RX1, "<init>", "()V"⟩
abbrev cX1_mayBe : ByteArray := prog_3_method_2_code
def yX1_mayBe : MethodName := ⟨RX1, "mayBe", "(III)Z"⟩
abbrev cX1_size : ByteArray := prog_3_method_3_code
def yX1_size : MethodName := ⟨RX1, "size", "(III)J"⟩
abbrev cX1_countWords : ByteArray := prog_3_method_4_code
def yX1_countWords : MethodName := ⟨RX1, "countWords", "(II)J"⟩
abbrev cX1_countSets : ByteArray := prog_3_method_5_code
def yX1_countSets : MethodName := ⟨RX1, "countSets", "(II)J"⟩
abbrev cX1_lay : ByteArray := prog_3_method_6_code
def yX1_lay : MethodName := ⟨RX1, "lay", "(LLikeNets$Net;III)V"⟩
abbrev cX1_layWords : ByteArray := prog_3_method_7_code
def yX1_layWords : MethodName := ⟨RX1, "layWords", "(LLikeNets$Net;I)V"⟩
abbrev cX1_unlikeLetters : ByteArray := prog_3_method_8_code
def yX1_unlikeLetters : MethodName := ⟨RX1, "unlikeLetters", "(III)I"⟩
abbrev cX1_listSets : ByteArray := prog_3_method_9_code
def yX1_listSets : MethodName := ⟨RX1, "listSets", "(II)V"⟩
abbrev cX1_nextSet : ByteArray := prog_3_method_10_code
def yX1_nextSet : MethodName := ⟨RX1, "nextSet", "(J)J"⟩
abbrev cX1_layPairs : ByteArray := prog_3_method_11_code
def yX1_layPairs : MethodName := ⟨RX1, "layPairs", "(LLikeNets$Net;II)V"⟩
abbrev cX1_isRoad : ByteArray := prog_3_method_12_code
def yX1_isRoad : MethodName := ⟨RX1, "isRoad", "(IIIII)Z"⟩
def RX2 : String := "LikeNets$Net"
def TX2 : u_T := fun k => match k with
  | 0 => ("LikeNets$Net", "near", "[I", true)
  | _ => ("LikeNets$Net", "size", "I", false)
def tyX2 : Nat → FieldType := fun k => match k with
  | 0 => .array .int
  | _ => .int
abbrev wsX20 : List Cond := u_ws RX2 TX2 2
theorem nmX2 : ∀ a, a < 2 → ∀ b, b < 2 → a ≠ b → (TX2 a).2.1 ≠ (TX2 b).2.1 := by decide +kernel
theorem tyX2_ok : ∀ k, k < 2 → parseFieldDescriptor (TX2 k).2.2.1 = some (tyX2 k) := by decide +kernel
abbrev cX2_init : ByteArray := prog_4_method_1_code
def yX2_init : MethodName := ⟨RX2, "<init>", "()V"⟩
abbrev cX2_empty : ByteArray := prog_4_method_2_code
def yX2_empty : MethodName := ⟨RX2, "empty", "(I)V"⟩
abbrev cX2_copyFrom : ByteArray := prog_4_method_3_code
def yX2_copyFrom : MethodName := ⟨RX2, "copyFrom", "(LLikeNets$Net;)V"⟩
abbrev cX2_has : ByteArray := prog_4_method_4_code
def yX2_has : MethodName := ⟨RX2, "has", "(I)Z"⟩
abbrev cX2_mayJoin : ByteArray := prog_4_method_5_code
def yX2_mayJoin : MethodName := ⟨RX2, "mayJoin", "(II)Z"⟩
abbrev cX2_areJoined : ByteArray := prog_4_method_6_code
def yX2_areJoined : MethodName := ⟨RX2, "areJoined", "(II)Z"⟩
abbrev cX2_join : ByteArray := prog_4_method_7_code
def yX2_join : MethodName := ⟨RX2, "join", "(II)V"⟩
abbrev cX2_part : ByteArray := prog_4_method_8_code
def yX2_part : MethodName := ⟨RX2, "part", "(II)V"⟩
abbrev cX2_fullness : ByteArray := prog_4_method_9_code
def yX2_fullness : MethodName := ⟨RX2, "fullness", "(I)I"⟩
abbrev cX2_roads : ByteArray := prog_4_method_10_code
def yX2_roads : MethodName := ⟨RX2, "roads", "()I"⟩
abbrev cX2_isEven : ByteArray := prog_4_method_11_code
def yX2_isEven : MethodName := ⟨RX2, "isEven", "()Z"⟩
abbrev cX2_around : ByteArray := prog_4_method_12_code
def yX2_around : MethodName := ⟨RX2, "around", "(I)I"⟩
def RX3 : String := "LikeNets$Pairs"
def TX3 : u_T := fun k => match k with
  | 0 => ("LikeNets$Pairs", "sorts", "[I", true)
  | 1 => ("LikeNets$Pairs", "parted", "[I", true)
  | 2 => ("LikeNets$Pairs", "firsts", "[I", true)
  | 3 => ("LikeNets$Pairs", "heads", "[I", true)
  | 4 => ("LikeNets$Pairs", "nexts", "[I", true)
  | 5 => ("LikeNets$Pairs", "sums", "[J", true)
  | 6 => ("LikeNets$Pairs", "keys", "[I", true)
  | 7 => ("LikeNets$Pairs", "otherKeys", "[I", true)
  | 8 => ("LikeNets$Pairs", "ready", "Z", false)
  | 9 => ("LikeNets$Pairs", "size", "I", false)
  | _ => ("LikeNets$Pairs", "count", "I", false)
def tyX3 : Nat → FieldType := fun k => match k with
  | 0 => .array .int
  | 1 => .array .int
  | 2 => .array .int
  | 3 => .array .int
  | 4 => .array .int
  | 5 => .array .long
  | 6 => .array .int
  | 7 => .array .int
  | 8 => .boolean
  | 9 => .int
  | _ => .int
abbrev wsX30 : List Cond := u_ws RX3 TX3 11
theorem nmX3 : ∀ a, a < 11 → ∀ b, b < 11 → a ≠ b → (TX3 a).2.1 ≠ (TX3 b).2.1 := by decide +kernel
theorem tyX3_ok : ∀ k, k < 11 → parseFieldDescriptor (TX3 k).2.2.1 = some (tyX3 k) := by decide +kernel
abbrev cX3_init : ByteArray := prog_5_method_1_code
def yX3_init : MethodName := ⟨RX3, "<init>", "()V"⟩
abbrev cX3_of : ByteArray := prog_5_method_2_code
def yX3_of : MethodName := ⟨RX3, "of", "(II)I"⟩
abbrev cX3_tellApart : ByteArray := prog_5_method_3_code
def yX3_tellApart : MethodName := ⟨RX3, "tellApart", "(LLikeNets$Net;)V"⟩
abbrev cX3_begin : ByteArray := prog_5_method_4_code
def yX3_begin : MethodName := ⟨RX3, "begin", "(LLikeNets$Net;)V"⟩
abbrev cX3_refine : ByteArray := prog_5_method_5_code
def yX3_refine : MethodName := ⟨RX3, "refine", "(Z)V"⟩
abbrev cX3_match : ByteArray := prog_5_method_6_code
def yX3_match : MethodName := ⟨RX3, "match", "(IJZ)I"⟩
abbrev cX3_open : ByteArray := prog_5_method_7_code
def yX3_open : MethodName := ⟨RX3, "open", "(IJ)I"⟩
abbrev cX3_keyOf : ByteArray := prog_5_method_8_code
def yX3_keyOf : MethodName := ⟨RX3, "keyOf", "(III)I"⟩
abbrev cX3_sumOf : ByteArray := prog_5_method_9_code
def yX3_sumOf : MethodName := ⟨RX3, "sumOf", "(II)J"⟩
abbrev cX3_stir : ByteArray := prog_5_method_10_code
def yX3_stir : MethodName := ⟨RX3, "stir", "(I)J"⟩
abbrev cX3_isAlike : ByteArray := prog_5_method_11_code
def yX3_isAlike : MethodName := ⟨RX3, "isAlike", "(II)Z"⟩
abbrev cX3_gather : ByteArray := prog_5_method_12_code
def yX3_gather : MethodName := ⟨RX3, "gather", "([II)V"⟩
def RX4 : String := "LikeNets$Search"
def TX4 : u_T := fun k => match k with
  | 0 => ("LikeNets$Search", "balls", "[I", true)
  | 1 => ("LikeNets$Search", "taken", "[I", true)
  | 2 => ("LikeNets$Search", "untried", "[I", true)
  | 3 => ("LikeNets$Search", "size", "I", false)
  | 4 => ("LikeNets$Search", "reach", "I", false)
  | _ => ("LikeNets$Search", "found", "I", false)
def tyX4 : Nat → FieldType := fun k => match k with
  | 0 => .array .int
  | 1 => .array .int
  | 2 => .array .int
  | 3 => .int
  | 4 => .int
  | _ => .int
abbrev wsX40 : List Cond := u_ws RX4 TX4 6
theorem nmX4 : ∀ a, a < 6 → ∀ b, b < 6 → a ≠ b → (TX4 a).2.1 ≠ (TX4 b).2.1 := by decide +kernel
theorem tyX4_ok : ∀ k, k < 6 → parseFieldDescriptor (TX4 k).2.2.1 = some (tyX4 k) := by decide +kernel
abbrev cX4_init : ByteArray := prog_6_method_1_code
def yX4_init : MethodName := ⟨RX4, "<init>", "()V"⟩
abbrev cX4_run : ByteArray := prog_6_method_2_code
def yX4_run : MethodName := ⟨RX4, "run", "(LLikeNets$Ways;II)V"⟩
abbrev cX4_climb : ByteArray := prog_6_method_3_code
def yX4_climb : MethodName := ⟨RX4, "climb", "()I"⟩
abbrev cX4_candidates : ByteArray := prog_6_method_4_code
def yX4_candidates : MethodName := ⟨RX4, "candidates", "(I)I"⟩
def RX5 : String := "LikeNets$Sheet"
def TX5 : u_T := fun k => match k with
  | 0 => ("LikeNets$Sheet", "cells", "[I", true)
  | 1 => ("LikeNets$Sheet", "there", "Z", false)
  | 2 => ("LikeNets$Sheet", "sort", "I", false)
  | _ => ("LikeNets$Sheet", "size", "I", false)
def tyX5 : Nat → FieldType := fun k => match k with
  | 0 => .array .int
  | 1 => .boolean
  | 2 => .int
  | _ => .int
abbrev wsX50 : List Cond := u_ws RX5 TX5 4
theorem nmX5 : ∀ a, a < 4 → ∀ b, b < 4 → a ≠ b → (TX5 a).2.1 ≠ (TX5 b).2.1 := by decide +kernel
theorem tyX5_ok : ∀ k, k < 4 → parseFieldDescriptor (TX5 k).2.2.1 = some (tyX5 k) := by decide +kernel
abbrev cX5_init : ByteArray := prog_7_method_1_code
def yX5_init : MethodName := ⟨RX5, "<init>", "()V"⟩
abbrev cX5_lay : ByteArray := prog_7_method_2_code
def yX5_lay : MethodName := ⟨RX5, "lay", "(II)V"⟩
abbrev cX5_has : ByteArray := prog_7_method_3_code
def yX5_has : MethodName := ⟨RX5, "has", "(I)Z"⟩
abbrev cX5_read : ByteArray := prog_7_method_4_code
def yX5_read : MethodName := ⟨RX5, "read", "(I)I"⟩
abbrev cX5_write : ByteArray := prog_7_method_5_code
def yX5_write : MethodName := ⟨RX5, "write", "(II)V"⟩
def RX6 : String := "LikeNets$Told"
def TX6 : u_T := fun k => match k with
  | 0 => ("LikeNets$Told", "b", "[I", true)
  | 1 => ("LikeNets$Told", "c", "[I", true)
  | 2 => ("LikeNets$Told", "k", "[J", true)
  | 3 => ("LikeNets$Told", "t", "[J", true)
  | 4 => ("LikeNets$Told", "scaled", "[J", true)
  | 5 => ("LikeNets$Told", "walkRow", "[J", true)
  | 6 => ("LikeNets$Told", "roots", "[I", true)
  | 7 => ("LikeNets$Told", "times", "[I", true)
  | 8 => ("LikeNets$Told", "length", "I", false)
  | 9 => ("LikeNets$Told", "rootCount", "I", false)
  | 10 => ("LikeNets$Told", "broken", "I", false)
  | 11 => ("LikeNets$Told", "total", "J", false)
  | _ => ("LikeNets$Told", "judged", "Z", false)
def tyX6 : Nat → FieldType := fun k => match k with
  | 0 => .array .int
  | 1 => .array .int
  | 2 => .array .long
  | 3 => .array .long
  | 4 => .array .long
  | 5 => .array .long
  | 6 => .array .int
  | 7 => .array .int
  | 8 => .int
  | 9 => .int
  | 10 => .int
  | 11 => .long
  | _ => .boolean
abbrev wsX60 : List Cond := u_ws RX6 TX6 13
theorem nmX6 : ∀ a, a < 13 → ∀ b, b < 13 → a ≠ b → (TX6 a).2.1 ≠ (TX6 b).2.1 := by decide +kernel
theorem tyX6_ok : ∀ k, k < 13 → parseFieldDescriptor (TX6 k).2.2.1 = some (tyX6 k) := by decide +kernel
abbrev cX6_init : ByteArray := prog_8_method_1_code
def yX6_init : MethodName := ⟨RX6, "<init>", "()V"⟩
abbrev cX6_place : ByteArray := prog_8_method_2_code
def yX6_place : MethodName := ⟨RX6, "place", "(III)I"⟩
abbrev cX6_lay : ByteArray := prog_8_method_3_code
def yX6_lay : MethodName := ⟨RX6, "lay", "(I)V"⟩
abbrev cX6_putOnward : ByteArray := prog_8_method_4_code
def yX6_putOnward : MethodName := ⟨RX6, "putOnward", "(II)I"⟩
abbrev cX6_putBackward : ByteArray := prog_8_method_5_code
def yX6_putBackward : MethodName := ⟨RX6, "putBackward", "(II)I"⟩
abbrev cX6_hasRow : ByteArray := prog_8_method_6_code
def yX6_hasRow : MethodName := ⟨RX6, "hasRow", "(I)Z"⟩
abbrev cX6_level : ByteArray := prog_8_method_7_code
def yX6_level : MethodName := ⟨RX6, "level", "(I)I"⟩
abbrev cX6_keepsLawsTo : ByteArray := prog_8_method_8_code
def yX6_keepsLawsTo : MethodName := ⟨RX6, "keepsLawsTo", "(I)Z"⟩
abbrev cX6_firstBroken : ByteArray := prog_8_method_9_code
def yX6_firstBroken : MethodName := ⟨RX6, "firstBroken", "()I"⟩
abbrev cX6_judge : ByteArray := prog_8_method_10_code
def yX6_judge : MethodName := ⟨RX6, "judge", "()I"⟩
abbrev cX6_isPositive : ByteArray := prog_8_method_11_code
def yX6_isPositive : MethodName := ⟨RX6, "isPositive", "()Z"⟩
abbrev cX6_hasRoom : ByteArray := prog_8_method_12_code
def yX6_hasRoom : MethodName := ⟨RX6, "hasRoom", "()Z"⟩
abbrev cX6_isInOrder : ByteArray := prog_8_method_13_code
def yX6_isInOrder : MethodName := ⟨RX6, "isInOrder", "()Z"⟩
abbrev cX6_countLayers : ByteArray := prog_8_method_14_code
def yX6_countLayers : MethodName := ⟨RX6, "countLayers", "()Z"⟩
abbrev cX6_isPaired : ByteArray := prog_8_method_15_code
def yX6_isPaired : MethodName := ⟨RX6, "isPaired", "()Z"⟩
abbrev cX6_layFirstThirds : ByteArray := prog_8_method_16_code
def yX6_layFirstThirds : MethodName := ⟨RX6, "layFirstThirds", "()V"⟩
abbrev cX6_firstThird : ByteArray := prog_8_method_17_code
def yX6_firstThird : MethodName := ⟨RX6, "firstThird", "(II)I"⟩
abbrev cX6_layOtherThirds : ByteArray := prog_8_method_18_code
def yX6_layOtherThirds : MethodName := ⟨RX6, "layOtherThirds", "()Z"⟩
abbrev cX6_thirdTimes : ByteArray := prog_8_method_19_code
def yX6_thirdTimes : MethodName := ⟨RX6, "thirdTimes", "(III)J"⟩
abbrev cX6_findRoots : ByteArray := prog_8_method_20_code
def yX6_findRoots : MethodName := ⟨RX6, "findRoots", "()Z"⟩
abbrev cX6_isRoot : ByteArray := prog_8_method_21_code
def yX6_isRoot : MethodName := ⟨RX6, "isRoot", "(I)Z"⟩
abbrev cX6_timesOfScaled : ByteArray := prog_8_method_22_code
def yX6_timesOfScaled : MethodName := ⟨RX6, "timesOfScaled", "()I"⟩
abbrev cX6_countWalks : ByteArray := prog_8_method_23_code
def yX6_countWalks : MethodName := ⟨RX6, "countWalks", "(II)J"⟩
def RX7 : String := "LikeNets$Ways"
def TX7 : u_T := fun k => match k with
  | 0 => ("LikeNets$Ways", "steps", "[I", true)
  | 1 => ("LikeNets$Ways", "layers", "[I", true)
  | 2 => ("LikeNets$Ways", "reached", "[I", true)
  | 3 => ("LikeNets$Ways", "ready", "Z", false)
  | 4 => ("LikeNets$Ways", "whole", "Z", false)
  | 5 => ("LikeNets$Ways", "size", "I", false)
  | _ => ("LikeNets$Ways", "far", "I", false)
def tyX7 : Nat → FieldType := fun k => match k with
  | 0 => .array .int
  | 1 => .array .int
  | 2 => .array .int
  | 3 => .boolean
  | 4 => .boolean
  | 5 => .int
  | _ => .int
abbrev wsX70 : List Cond := u_ws RX7 TX7 7
theorem nmX7 : ∀ a, a < 7 → ∀ b, b < 7 → a ≠ b → (TX7 a).2.1 ≠ (TX7 b).2.1 := by decide +kernel
theorem tyX7_ok : ∀ k, k < 7 → parseFieldDescriptor (TX7 k).2.2.1 = some (tyX7 k) := by decide +kernel
abbrev cX7_init : ByteArray := prog_9_method_1_code
def yX7_init : MethodName := ⟨RX7, "<init>", "()V"⟩
abbrev cX7_measure : ByteArray := prog_9_method_2_code
def yX7_measure : MethodName := ⟨RX7, "measure", "(LLikeNets$Net;)V"⟩
abbrev cX7_spread : ByteArray := prog_9_method_3_code
def yX7_spread : MethodName := ⟨RX7, "spread", "(LLikeNets$Net;I)I"⟩
abbrev cX7_noteSteps : ByteArray := prog_9_method_4_code
def yX7_noteSteps : MethodName := ⟨RX7, "noteSteps", "(III)V"⟩
abbrev cX7_between : ByteArray := prog_9_method_5_code
def yX7_between : MethodName := ⟨RX7, "between", "(II)I"⟩
abbrev cX7_postsAt : ByteArray := prog_9_method_6_code
def yX7_postsAt : MethodName := ⟨RX7, "postsAt", "(II)I"⟩
abbrev cX7_postsWithin : ByteArray := prog_9_method_7_code
def yX7_postsWithin : MethodName := ⟨RX7, "postsWithin", "(II)I"⟩
abbrev cX7_pieces : ByteArray := prog_9_method_8_code
def yX7_pieces : MethodName := ⟨RX7, "pieces", "()I"⟩
abbrev cX7_shortestRing : ByteArray := prog_9_method_9_code
def yX7_shortestRing : MethodName := ⟨RX7, "shortestRing", "(LLikeNets$Net;)I"⟩
abbrev cX7_ringSeen : ByteArray := prog_9_method_10_code
def yX7_ringSeen : MethodName := ⟨RX7, "ringSeen", "(LLikeNets$Net;II)I"⟩
abbrev cX7_isOfSides : ByteArray := prog_9_method_11_code
def yX7_isOfSides : MethodName := ⟨RX7, "isOfSides", "(LLikeNets$Net;)Z"⟩
abbrev cX7_farGroup : ByteArray := prog_9_method_12_code
def yX7_farGroup : MethodName := ⟨RX7, "farGroup", "(I)I"⟩
abbrev cX7_isFolded : ByteArray := prog_9_method_13_code
def yX7_isFolded : MethodName := ⟨RX7, "isFolded", "()Z"⟩
def RX8 : String := "LikeNets"
def TX8 : u_T := fun k => match k with
  | 0 => ("LikeNets", "sheets", "[LLikeNets$Sheet;", true)
  | 1 => ("LikeNets", "now", "LLikeNets$Net;", true)
  | 2 => ("LikeNets", "made", "LLikeNets$Net;", true)
  | 3 => ("LikeNets", "stored", "LLikeNets$Net;", true)
  | 4 => ("LikeNets", "list", "[I", true)
  | 5 => ("LikeNets", "partner", "[I", true)
  | 6 => ("LikeNets", "makings", "LLikeNets$Makings;", true)
  | 7 => ("LikeNets", "ways", "LLikeNets$Ways;", true)
  | 8 => ("LikeNets", "likeness", "LLikeNets$Likeness;", true)
  | 9 => ("LikeNets", "told", "LLikeNets$Told;", true)
  | 10 => ("LikeNets", "search", "LLikeNets$Search;", true)
  | 11 => ("LikeNets", "pairs", "LLikeNets$Pairs;", true)
  | _ => ("LikeNets", "isStored", "Z", false)
def tyX8 : Nat → FieldType := fun k => match k with
  | 0 => .array (.object "LikeNets$Sheet")
  | 1 => .object "LikeNets$Net"
  | 2 => .object "LikeNets$Net"
  | 3 => .object "LikeNets$Net"
  | 4 => .array .int
  | 5 => .array .int
  | 6 => .object "LikeNets$Makings"
  | 7 => .object "LikeNets$Ways"
  | 8 => .object "LikeNets$Likeness"
  | 9 => .object "LikeNets$Told"
  | 10 => .object "LikeNets$Search"
  | 11 => .object "LikeNets$Pairs"
  | _ => .boolean
abbrev wsX80 : List Cond := u_ws RX8 TX8 13
theorem nmX8 : ∀ a, a < 13 → ∀ b, b < 13 → a ≠ b → (TX8 a).2.1 ≠ (TX8 b).2.1 := by decide +kernel
theorem tyX8_ok : ∀ k, k < 13 → parseFieldDescriptor (TX8 k).2.2.1 = some (tyX8 k) := by decide +kernel
abbrev cX8_init : ByteArray := prog_1_method_1_code
def yX8_init : MethodName := ⟨RX8, "<init>", "()V"⟩
abbrev cX8_sheet : ByteArray := prog_1_method_2_code
def yX8_sheet : MethodName := ⟨RX8, "sheet", "(III)I"⟩
abbrev cX8_cell : ByteArray := prog_1_method_3_code
def yX8_cell : MethodName := ⟨RX8, "cell", "(III)I"⟩
abbrev cX8_lose : ByteArray := prog_1_method_4_code
def yX8_lose : MethodName := ⟨RX8, "lose", "(I)I"⟩
abbrev cX8_net : ByteArray := prog_1_method_5_code
def yX8_net : MethodName := ⟨RX8, "net", "(I)I"⟩
abbrev cX8_road : ByteArray := prog_1_method_6_code
def yX8_road : MethodName := ⟨RX8, "road", "(IIZ)I"⟩
abbrev cX8_load : ByteArray := prog_1_method_7_code
def yX8_load : MethodName := ⟨RX8, "load", "(III)I"⟩
abbrev cX8_joined : ByteArray := prog_1_method_8_code
def yX8_joined : MethodName := ⟨RX8, "joined", "(II)Z"⟩
abbrev cX8_build : ByteArray := prog_1_method_9_code
def yX8_build : MethodName := ⟨RX8, "build", "(III)I"⟩
abbrev cX8_way : ByteArray := prog_1_method_10_code
def yX8_way : MethodName := ⟨RX8, "way", "(II)I"⟩
abbrev cX8_many : ByteArray := prog_1_method_11_code
def yX8_many : MethodName := ⟨RX8, "many", "(I)I"⟩
abbrev cX8_clash : ByteArray := prog_1_method_12_code
def yX8_clash : MethodName := ⟨RX8, "clash", "(I)I"⟩
abbrev cX8_table : ByteArray := prog_1_method_13_code
def yX8_table : MethodName := ⟨RX8, "table", "(II)I"⟩
abbrev cX8_thirds : ByteArray := prog_1_method_14_code
def yX8_thirds : MethodName := ⟨RX8, "thirds", "(IIII)I"⟩
abbrev cX8_tell : ByteArray := prog_1_method_15_code
def yX8_tell : MethodName := ⟨RX8, "tell", "(I)I"⟩
abbrev cX8_put : ByteArray := prog_1_method_16_code
def yX8_put : MethodName := ⟨RX8, "put", "(III)I"⟩
abbrev cX8_take : ByteArray := prog_1_method_17_code
def yX8_take : MethodName := ⟨RX8, "take", "()I"⟩
abbrev cX8_can : ByteArray := prog_1_method_18_code
def yX8_can : MethodName := ⟨RX8, "can", "()I"⟩
abbrev cX8_entry : ByteArray := prog_1_method_19_code
def yX8_entry : MethodName := ⟨RX8, "entry", "(II)I"⟩
abbrev cX8_posts : ByteArray := prog_1_method_20_code
def yX8_posts : MethodName := ⟨RX8, "posts", "()I"⟩
abbrev cX8_third : ByteArray := prog_1_method_21_code
def yX8_third : MethodName := ⟨RX8, "third", "(III)I"⟩
abbrev cX8_root : ByteArray := prog_1_method_22_code
def yX8_root : MethodName := ⟨RX8, "root", "(II)I"⟩
abbrev cX8_walks : ByteArray := prog_1_method_23_code
def yX8_walks : MethodName := ⟨RX8, "walks", "(II)J"⟩
abbrev cX8_bound : ByteArray := prog_1_method_24_code
def yX8_bound : MethodName := ⟨RX8, "bound", "(II)J"⟩
abbrev cX8_fold : ByteArray := prog_1_method_25_code
def yX8_fold : MethodName := ⟨RX8, "fold", "()I"⟩
abbrev cX8_half : ByteArray := prog_1_method_26_code
def yX8_half : MethodName := ⟨RX8, "half", "()I"⟩
abbrev cX8_twice : ByteArray := prog_1_method_27_code
def yX8_twice : MethodName := ⟨RX8, "twice", "()I"⟩
abbrev cX8_power : ByteArray := prog_1_method_28_code
def yX8_power : MethodName := ⟨RX8, "power", "(I)I"⟩
abbrev cX8_other : ByteArray := prog_1_method_29_code
def yX8_other : MethodName := ⟨RX8, "other", "()I"⟩
abbrev cX8_lines : ByteArray := prog_1_method_30_code
def yX8_lines : MethodName := ⟨RX8, "lines", "()I"⟩
abbrev cX8_keep : ByteArray := prog_1_method_31_code
def yX8_keep : MethodName := ⟨RX8, "keep", "()I"⟩
abbrev cX8_back : ByteArray := prog_1_method_32_code
def yX8_back : MethodName := ⟨RX8, "back", "()I"⟩
abbrev cX8_perfect : ByteArray := prog_1_method_33_code
def yX8_perfect : MethodName := ⟨RX8, "perfect", "(I)I"⟩
abbrev cX8_heap : ByteArray := prog_1_method_34_code
def yX8_heap : MethodName := ⟨RX8, "heap", "(II)I"⟩
abbrev cX8_kinds : ByteArray := prog_1_method_35_code
def yX8_kinds : MethodName := ⟨RX8, "kinds", "()I"⟩
abbrev cX8_kind : ByteArray := prog_1_method_36_code
def yX8_kind : MethodName := ⟨RX8, "kind", "(II)I"⟩
abbrev cX8_isSheet : ByteArray := prog_1_method_37_code
def yX8_isSheet : MethodName := ⟨RX8, "isSheet", "(I)Z"⟩
abbrev cX8_mayLoad : ByteArray := prog_1_method_38_code
def yX8_mayLoad : MethodName := ⟨RX8, "mayLoad", "(LLikeNets$Sheet;II)Z"⟩
abbrev cX8_listRoads : ByteArray := prog_1_method_39_code
def yX8_listRoads : MethodName := ⟨RX8, "listRoads", "()V"⟩
abbrev cX8_adopt : ByteArray := prog_1_method_40_code
def yX8_adopt : MethodName := ⟨RX8, "adopt", "()I"⟩
abbrev cX8_forget : ByteArray := prog_1_method_41_code
def yX8_forget : MethodName := ⟨RX8, "forget", "()V"⟩
abbrev cX8_measure : ByteArray := prog_1_method_42_code
def yX8_measure : MethodName := ⟨RX8, "measure", "()V"⟩
abbrev cX8_isLike : ByteArray := prog_1_method_43_code
def yX8_isLike : MethodName := ⟨RX8, "isLike", "()Z"⟩
abbrev cX8_oneIf : ByteArray := prog_1_method_44_code
def yX8_oneIf : MethodName := ⟨RX8, "oneIf", "(Z)I"⟩
abbrev cX8_allOf : ByteArray := prog_1_method_45_code
def yX8_allOf : MethodName := ⟨RX8, "allOf", "(I)I"⟩
abbrev cX8_lowestBit : ByteArray := prog_1_method_46_code
def yX8_lowestBit : MethodName := ⟨RX8, "lowestBit", "(I)I"⟩
abbrev cX8_isIn : ByteArray := prog_1_method_47_code
def yX8_isIn : MethodName := ⟨RX8, "isIn", "(II)Z"⟩
def RX9 : String := "LikeNetsModel"
def TX9 : u_T := fun k => match k with
  | 0 => ("LikeNetsModel", "sheetKind", "[I", true)
  | 1 => ("LikeNetsModel", "sheetSize", "[I", true)
  | 2 => ("LikeNetsModel", "cellOf", "[I", true)
  | 3 => ("LikeNetsModel", "posts", "I", false)
  | 4 => ("LikeNetsModel", "road", "[Z", true)
  | 5 => ("LikeNetsModel", "isKept", "Z", false)
  | 6 => ("LikeNetsModel", "keptPosts", "I", false)
  | 7 => ("LikeNetsModel", "keptRoad", "[Z", true)
  | 8 => ("LikeNetsModel", "length", "I", false)
  | 9 => ("LikeNetsModel", "toldB", "[I", true)
  | 10 => ("LikeNetsModel", "toldC", "[I", true)
  | 11 => ("LikeNetsModel", "sets", "[I", true)
  | 12 => ("LikeNetsModel", "isMeasured", "Z", false)
  | 13 => ("LikeNetsModel", "wayOf", "[I", true)
  | 14 => ("LikeNetsModel", "far", "I", false)
  | 15 => ("LikeNetsModel", "heaps", "I", false)
  | 16 => ("LikeNetsModel", "layer", "[I", true)
  | 17 => ("LikeNetsModel", "tableC", "[I", true)
  | 18 => ("LikeNetsModel", "tableA", "[I", true)
  | 19 => ("LikeNetsModel", "tableB", "[I", true)
  | 20 => ("LikeNetsModel", "isTold", "[Z", true)
  | 21 => ("LikeNetsModel", "clashP", "I", false)
  | 22 => ("LikeNetsModel", "clashQ", "I", false)
  | 23 => ("LikeNetsModel", "sizes", "[J", true)
  | 24 => ("LikeNetsModel", "all", "J", false)
  | 25 => ("LikeNetsModel", "third", "[J", true)
  | 26 => ("LikeNetsModel", "u", "[J", true)
  | 27 => ("LikeNetsModel", "walk", "[J", true)
  | 28 => ("LikeNetsModel", "next", "[J", true)
  | 29 => ("LikeNetsModel", "newRoad", "[Z", true)
  | 30 => ("LikeNetsModel", "numberOf", "[I", true)
  | 31 => ("LikeNetsModel", "lineP", "[I", true)
  | 32 => ("LikeNetsModel", "lineQ", "[I", true)
  | 33 => ("LikeNetsModel", "taken", "[I", true)
  | 34 => ("LikeNetsModel", "tried", "[I", true)
  | 35 => ("LikeNetsModel", "takenMany", "I", false)
  | 36 => ("LikeNetsModel", "nearTo", "[I", true)
  | 37 => ("LikeNetsModel", "coveredAt", "[I", true)
  | 38 => ("LikeNetsModel", "areKindsFound", "Z", false)
  | 39 => ("LikeNetsModel", "kindOf", "[I", true)
  | 40 => ("LikeNetsModel", "newKind", "[I", true)
  | 41 => ("LikeNetsModel", "signs", "[I", true)
  | 42 => ("LikeNetsModel", "kindMany", "I", false)
  | _ => ("LikeNetsModel", "firstPair", "[I", true)
def tyX9 : Nat → FieldType := fun k => match k with
  | 0 => .array .int
  | 1 => .array .int
  | 2 => .array .int
  | 3 => .int
  | 4 => .array .boolean
  | 5 => .boolean
  | 6 => .int
  | 7 => .array .boolean
  | 8 => .int
  | 9 => .array .int
  | 10 => .array .int
  | 11 => .array .int
  | 12 => .boolean
  | 13 => .array .int
  | 14 => .int
  | 15 => .int
  | 16 => .array .int
  | 17 => .array .int
  | 18 => .array .int
  | 19 => .array .int
  | 20 => .array .boolean
  | 21 => .int
  | 22 => .int
  | 23 => .array .long
  | 24 => .long
  | 25 => .array .long
  | 26 => .array .long
  | 27 => .array .long
  | 28 => .array .long
  | 29 => .array .boolean
  | 30 => .array .int
  | 31 => .array .int
  | 32 => .array .int
  | 33 => .array .int
  | 34 => .array .int
  | 35 => .int
  | 36 => .array .int
  | 37 => .array .int
  | 38 => .boolean
  | 39 => .array .int
  | 40 => .array .int
  | 41 => .array .int
  | 42 => .int
  | _ => .array .int
abbrev wsX90 : List Cond := u_ws RX9 TX9 44
theorem nmX9 : ∀ a, a < 44 → ∀ b, b < 44 → a ≠ b → (TX9 a).2.1 ≠ (TX9 b).2.1 := by decide +kernel
theorem tyX9_ok : ∀ k, k < 44 → parseFieldDescriptor (TX9 k).2.2.1 = some (tyX9 k) := by decide +kernel
abbrev cX9_init : ByteArray := prog_11_method_1_code
def yX9_init : MethodName := ⟨RX9, "<init>", "()V"⟩
abbrev cX9_in : ByteArray := prog_11_method_2_code
def yX9_in : MethodName := ⟨RX9, "in", "(JJJ)Z"⟩
abbrev cX9_isSheet : ByteArray := prog_11_method_3_code
def yX9_isSheet : MethodName := ⟨RX9, "isSheet", "(I)Z"⟩
abbrev cX9_isPost : ByteArray := prog_11_method_4_code
def yX9_isPost : MethodName := ⟨RX9, "isPost", "(I)Z"⟩
abbrev cX9_sheet : ByteArray := prog_11_method_5_code
def yX9_sheet : MethodName := ⟨RX9, "sheet", "(III)I"⟩
abbrev cX9_cell : ByteArray := prog_11_method_6_code
def yX9_cell : MethodName := ⟨RX9, "cell", "(III)I"⟩
abbrev cX9_lose : ByteArray := prog_11_method_7_code
def yX9_lose : MethodName := ⟨RX9, "lose", "(I)I"⟩
abbrev cX9_fresh : ByteArray := prog_11_method_8_code
def yX9_fresh : MethodName := ⟨RX9, "fresh", "(I)V"⟩
abbrev cX9_net : ByteArray := prog_11_method_9_code
def yX9_net : MethodName := ⟨RX9, "net", "(I)I"⟩
abbrev cX9_lay : ByteArray := prog_11_method_10_code
def yX9_lay : MethodName := ⟨RX9, "lay", "(IIZ)Z"⟩
abbrev cX9_road : ByteArray := prog_11_method_11_code
def yX9_road : MethodName := ⟨RX9, "road", "(IIZ)I"⟩
abbrev cX9_load : ByteArray := prog_11_method_12_code
def yX9_load : MethodName := ⟨RX9, "load", "(III)I"⟩
abbrev cX9_joined : ByteArray := prog_11_method_13_code
def yX9_joined : MethodName := ⟨RX9, "joined", "(II)Z"⟩
abbrev cX9_ones : ByteArray := prog_11_method_14_code
def yX9_ones : MethodName := ⟨RX9, "ones", "(I)I"⟩
abbrev cX9_findSets : ByteArray := prog_11_method_15_code
def yX9_findSets : MethodName := ⟨RX9, "findSets", "(II)I"⟩
abbrev cX9_choose : ByteArray := prog_11_method_16_code
def yX9_choose : MethodName := ⟨RX9, "choose", "(II)I"⟩
abbrev cX9_power : ByteArray := prog_11_method_17_code
def yX9_power : MethodName := ⟨RX9, "power", "(II)I"⟩
abbrev cX9_unlikeLetters : ByteArray := prog_11_method_18_code
def yX9_unlikeLetters : MethodName := ⟨RX9, "unlikeLetters", "(IIII)I"⟩
abbrev cX9_may : ByteArray := prog_11_method_19_code
def yX9_may : MethodName := ⟨RX9, "may", "(III)Z"⟩
abbrev cX9_sizeOf : ByteArray := prog_11_method_20_code
def yX9_sizeOf : MethodName := ⟨RX9, "sizeOf", "(III)J"⟩
abbrev cX9_isMade : ByteArray := prog_11_method_21_code
def yX9_isMade : MethodName := ⟨RX9, "isMade", "(IIIII)Z"⟩
abbrev cX9_build : ByteArray := prog_11_method_22_code
def yX9_build : MethodName := ⟨RX9, "build", "(III)I"⟩
abbrev cX9_measureFrom : ByteArray := prog_11_method_23_code
def yX9_measureFrom : MethodName := ⟨RX9, "measureFrom", "(I)V"⟩
abbrev cX9_measure : ByteArray := prog_11_method_24_code
def yX9_measure : MethodName := ⟨RX9, "measure", "()V"⟩
abbrev cX9_isWhole : ByteArray := prog_11_method_25_code
def yX9_isWhole : MethodName := ⟨RX9, "isWhole", "()Z"⟩
abbrev cX9_way : ByteArray := prog_11_method_26_code
def yX9_way : MethodName := ⟨RX9, "way", "(II)I"⟩
abbrev cX9_fullness : ByteArray := prog_11_method_27_code
def yX9_fullness : MethodName := ⟨RX9, "fullness", "(I)I"⟩
abbrev cX9_roads : ByteArray := prog_11_method_28_code
def yX9_roads : MethodName := ⟨RX9, "roads", "()I"⟩
abbrev cX9_wayRound : ByteArray := prog_11_method_29_code
def yX9_wayRound : MethodName := ⟨RX9, "wayRound", "(II)I"⟩
abbrev cX9_round : ByteArray := prog_11_method_30_code
def yX9_round : MethodName := ⟨RX9, "round", "()I"⟩
abbrev cX9_isEven : ByteArray := prog_11_method_31_code
def yX9_isEven : MethodName := ⟨RX9, "isEven", "()Z"⟩
abbrev cX9_isOfSides : ByteArray := prog_11_method_32_code
def yX9_isOfSides : MethodName := ⟨RX9, "isOfSides", "()Z"⟩
abbrev cX9_isFar : ByteArray := prog_11_method_33_code
def yX9_isFar : MethodName := ⟨RX9, "isFar", "(II)Z"⟩
abbrev cX9_isFolded : ByteArray := prog_11_method_34_code
def yX9_isFolded : MethodName := ⟨RX9, "isFolded", "()Z"⟩
abbrev cX9_beside : ByteArray := prog_11_method_35_code
def yX9_beside : MethodName := ⟨RX9, "beside", "(III)I"⟩
abbrev cX9_isLike : ByteArray := prog_11_method_36_code
def yX9_isLike : MethodName := ⟨RX9, "isLike", "()Z"⟩
abbrev cX9_many : ByteArray := prog_11_method_37_code
def yX9_many : MethodName := ⟨RX9, "many", "(I)I"⟩
abbrev cX9_clash : ByteArray := prog_11_method_38_code
def yX9_clash : MethodName := ⟨RX9, "clash", "(I)I"⟩
abbrev cX9_atWay : ByteArray := prog_11_method_39_code
def yX9_atWay : MethodName := ⟨RX9, "atWay", "(II)I"⟩
abbrev cX9_table : ByteArray := prog_11_method_40_code
def yX9_table : MethodName := ⟨RX9, "table", "(II)I"⟩
abbrev cX9_thirds : ByteArray := prog_11_method_41_code
def yX9_thirds : MethodName := ⟨RX9, "thirds", "(IIII)I"⟩
abbrev cX9_tell : ByteArray := prog_11_method_42_code
def yX9_tell : MethodName := ⟨RX9, "tell", "(I)I"⟩
abbrev cX9_put : ByteArray := prog_11_method_43_code
def yX9_put : MethodName := ⟨RX9, "put", "(III)I"⟩
abbrev cX9_take : ByteArray := prog_11_method_44_code
def yX9_take : MethodName := ⟨RX9, "take", "()I"⟩
abbrev cX9_a : ByteArray := prog_11_method_45_code
def yX9_a : MethodName := ⟨RX9, "a", "(I)I"⟩
abbrev cX9_firstLaws : ByteArray := prog_11_method_46_code
def yX9_firstLaws : MethodName := ⟨RX9, "firstLaws", "()I"⟩
abbrev cX9_areHalves : ByteArray := prog_11_method_47_code
def yX9_areHalves : MethodName := ⟨RX9, "areHalves", "()Z"⟩
abbrev cX9_thirdAt : ByteArray := prog_11_method_48_code
def yX9_thirdAt : MethodName := ⟨RX9, "thirdAt", "(III)J"⟩
abbrev cX9_findThirds : ByteArray := prog_11_method_49_code
def yX9_findThirds : MethodName := ⟨RX9, "findThirds", "()Z"⟩
abbrev cX9_isRoot : ByteArray := prog_11_method_50_code
def yX9_isRoot : MethodName := ⟨RX9, "isRoot", "(I)Z"⟩
abbrev cX9_times : ByteArray := prog_11_method_51_code
def yX9_times : MethodName := ⟨RX9, "times", "()I"⟩
abbrev cX9_areTimesWhole : ByteArray := prog_11_method_52_code
def yX9_areTimesWhole : MethodName := ⟨RX9, "areTimesWhole", "()Z"⟩
abbrev cX9_laws : ByteArray := prog_11_method_53_code
def yX9_laws : MethodName := ⟨RX9, "laws", "()I"⟩
abbrev cX9_can : ByteArray := prog_11_method_54_code
def yX9_can : MethodName := ⟨RX9, "can", "()I"⟩
abbrev cX9_entry : ByteArray := prog_11_method_55_code
def yX9_entry : MethodName := ⟨RX9, "entry", "(II)I"⟩
abbrev cX9_posts : ByteArray := prog_11_method_56_code
def yX9_posts : MethodName := ⟨RX9, "posts", "()I"⟩
abbrev cX9_third : ByteArray := prog_11_method_57_code
def yX9_third : MethodName := ⟨RX9, "third", "(III)I"⟩
abbrev cX9_root : ByteArray := prog_11_method_58_code
def yX9_root : MethodName := ⟨RX9, "root", "(II)I"⟩
abbrev cX9_walks : ByteArray := prog_11_method_59_code
def yX9_walks : MethodName := ⟨RX9, "walks", "(II)J"⟩
abbrev cX9_bound : ByteArray := prog_11_method_60_code
def yX9_bound : MethodName := ⟨RX9, "bound", "(II)J"⟩
abbrev cX9_become : ByteArray := prog_11_method_61_code
def yX9_become : MethodName := ⟨RX9, "become", "(I)V"⟩
abbrev cX9_clearNew : ByteArray := prog_11_method_62_code
def yX9_clearNew : MethodName := ⟨RX9, "clearNew", "()V"⟩
abbrev cX9_fold : ByteArray := prog_11_method_63_code
def yX9_fold : MethodName := ⟨RX9, "fold", "()I"⟩
abbrev cX9_half : ByteArray := prog_11_method_64_code
def yX9_half : MethodName := ⟨RX9, "half", "()I"⟩
abbrev cX9_twice : ByteArray := prog_11_method_65_code
def yX9_twice : MethodName := ⟨RX9, "twice", "()I"⟩
abbrev cX9_power_ : ByteArray := prog_11_method_66_code
def yX9_power_ : MethodName := ⟨RX9, "power", "(I)I"⟩
abbrev cX9_other : ByteArray := prog_11_method_67_code
def yX9_other : MethodName := ⟨RX9, "other", "()I"⟩
abbrev cX9_lines : ByteArray := prog_11_method_68_code
def yX9_lines : MethodName := ⟨RX9, "lines", "()I"⟩
abbrev cX9_keep : ByteArray := prog_11_method_69_code
def yX9_keep : MethodName := ⟨RX9, "keep", "()I"⟩
abbrev cX9_back : ByteArray := prog_11_method_70_code
def yX9_back : MethodName := ⟨RX9, "back", "()I"⟩
abbrev cX9_findNear : ByteArray := prog_11_method_71_code
def yX9_findNear : MethodName := ⟨RX9, "findNear", "(I)V"⟩
abbrev cX9_uncovered : ByteArray := prog_11_method_72_code
def yX9_uncovered : MethodName := ⟨RX9, "uncovered", "()I"⟩
abbrev cX9_find : ByteArray := prog_11_method_73_code
def yX9_find : MethodName := ⟨RX9, "find", "(I)I"⟩
abbrev cX9_perfect : ByteArray := prog_11_method_74_code
def yX9_perfect : MethodName := ⟨RX9, "perfect", "(I)I"⟩
abbrev cX9_heap : ByteArray := prog_11_method_75_code
def yX9_heap : MethodName := ⟨RX9, "heap", "(II)I"⟩
abbrev cX9_sign : ByteArray := prog_11_method_76_code
def yX9_sign : MethodName := ⟨RX9, "sign", "(II)V"⟩
abbrev cX9_areAlike : ByteArray := prog_11_method_77_code
def yX9_areAlike : MethodName := ⟨RX9, "areAlike", "(II)Z"⟩
abbrev cX9_partOnce : ByteArray := prog_11_method_78_code
def yX9_partOnce : MethodName := ⟨RX9, "partOnce", "()I"⟩
abbrev cX9_findKinds : ByteArray := prog_11_method_79_code
def yX9_findKinds : MethodName := ⟨RX9, "findKinds", "()V"⟩
abbrev cX9_kinds : ByteArray := prog_11_method_80_code
def yX9_kinds : MethodName := ⟨RX9, "kinds", "()I"⟩
abbrev cX9_kind : ByteArray := prog_11_method_81_code
def yX9_kind : MethodName := ⟨RX9, "kind", "(II)I"⟩
def RJ6 : String := "java/lang/Integer"
def TJ6 : u_T := fun k => match k with
  | _ => ("", "", "", false)
def tyJ6 : Nat → FieldType := fun k => match k with
  | _ => .int
abbrev cJ6_bitCount_0f7a4 : ByteArray := prog_12_method_49_code
def yJ6_bitCount_0f7a4 : MethodName := ⟨RJ6, "bitCount", "(I)I"⟩
def RJ13 : String := "java/lang/Long"
def TJ13 : u_T := fun k => match k with
  | _ => ("", "", "", false)
def tyJ13 : Nat → FieldType := fun k => match k with
  | _ => .int
abbrev cJ13_bitCount_95d88 : ByteArray := prog_13_method_50_code
def yJ13_bitCount_95d88 : MethodName := ⟨RJ13, "bitCount", "(J)I"⟩
def RJ9 : String := "java/lang/Math"
def TJ9 : u_T := fun k => match k with
  | _ => ("", "", "", false)
def tyJ9 : Nat → FieldType := fun k => match k with
  | _ => .int
abbrev cJ9_max_7cf53 : ByteArray := prog_14_method_65_code
def yJ9_max_7cf53 : MethodName := ⟨RJ9, "max", "(II)I"⟩
def RJ10 : String := "java/lang/System"
def TJ10 : u_T := fun k => match k with
  | _ => ("", "", "", false)
def tyJ10 : Nat → FieldType := fun k => match k with
  | _ => .int
def RJ7 : String := "java/util/Arrays"
def TJ7 : u_T := fun k => match k with
  | _ => ("", "", "", false)
def tyJ7 : Nat → FieldType := fun k => match k with
  | _ => .int
abbrev cJ7_fill_d0a16 : ByteArray := prog_16_method_101_code
def yJ7_fill_d0a16 : MethodName := ⟨RJ7, "fill", "([JJ)V"⟩
abbrev cJ7_fill_53178 : ByteArray := prog_16_method_103_code
def yJ7_fill_53178 : MethodName := ⟨RJ7, "fill", "([II)V"⟩
def RL : String := "LikeNetsLaw"
abbrev cL_law : ByteArray := code
def yL_law : MethodName := ⟨RL, "law", "([I)Z"⟩
theorem dX0_init_0 : decode cX0_init 0 = .ok (.aload_n 0, 1) := by decide +kernel
theorem dX0_init_1 : decode cX0_init 1 = .ok (.invokespecial 3, 3) := by decide +kernel
theorem dX0_init_4 : decode cX0_init 4 = .ok (.aload_n 0, 1) := by decide +kernel
theorem dX0_init_5 : decode cX0_init 5 = .ok (.bipush 32, 2) := by decide +kernel
theorem dX0_init_7 : decode cX0_init 7 = .ok (.newarray .int, 2) := by decide +kernel
theorem dX0_init_9 : decode cX0_init 9 = .ok (.putfield 9, 3) := by decide +kernel
theorem dX0_init_12 : decode cX0_init 12 = .ok (.aload_n 0, 1) := by decide +kernel
theorem dX0_init_13 : decode cX0_init 13 = .ok (.bipush 32, 2) := by decide +kernel
theorem dX0_init_15 : decode cX0_init 15 = .ok (.newarray .int, 2) := by decide +kernel
theorem dX0_init_17 : decode cX0_init 17 = .ok (.putfield 15, 3) := by decide +kernel
theorem dX0_init_20 : decode cX0_init 20 = .ok (.aload_n 0, 1) := by decide +kernel
theorem dX0_init_21 : decode cX0_init 21 = .ok (.bipush 32, 2) := by decide +kernel
theorem dX0_init_23 : decode cX0_init 23 = .ok (.newarray .int, 2) := by decide +kernel
theorem dX0_init_25 : decode cX0_init 25 = .ok (.putfield 18, 3) := by decide +kernel
theorem dX0_init_28 : decode cX0_init 28 = .ok (.return_, 1) := by decide +kernel
theorem dX0_look_0 : decode cX0_look 0 = .ok (.aload_n 0, 1) := by decide +kernel
theorem dX0_look_1 : decode cX0_look 1 = .ok (.iconst 1, 1) := by decide +kernel
theorem dX0_look_2 : decode cX0_look 2 = .ok (.putfield 21, 3) := by decide +kernel
theorem dX0_look_5 : decode cX0_look 5 = .ok (.aload_n 0, 1) := by decide +kernel
theorem dX0_look_6 : decode cX0_look 6 = .ok (.aload_n 2, 1) := by decide +kernel
theorem dX0_look_7 : decode cX0_look 7 = .ok (.getfield 25, 3) := by decide +kernel
theorem dX0_look_10 : decode cX0_look 10 = .ok (.putfield 30, 3) := by decide +kernel
theorem dX0_look_13 : decode cX0_look 13 = .ok (.aload_n 0, 1) := by decide +kernel
theorem dX0_look_14 : decode cX0_look 14 = .ok (.getfield 9, 3) := by decide +kernel
theorem dX0_look_17 : decode cX0_look 17 = .ok (.iconst (-1), 1) := by decide +kernel
theorem dX0_look_18 : decode cX0_look 18 = .ok (.invokestatic 33, 3) := by decide +kernel
theorem dX0_look_21 : decode cX0_look 21 = .ok (.iconst 0, 1) := by decide +kernel
theorem dX0_look_22 : decode cX0_look 22 = .ok (.istore_n 3, 1) := by decide +kernel
theorem dX0_look_23 : decode cX0_look 23 = .ok (.iload_n 3, 1) := by decide +kernel
theorem dX0_look_24 : decode cX0_look 24 = .ok (.aload_n 1, 1) := by decide +kernel
theorem dX0_look_25 : decode cX0_look 25 = .ok (.getfield 39, 3) := by decide +kernel
theorem dX0_look_28 : decode cX0_look 28 = .ok (.if_icmp .ge 69, 3) := by decide +kernel
theorem dX0_look_31 : decode cX0_look 31 = .ok (.aload_n 0, 1) := by decide +kernel
theorem dX0_look_32 : decode cX0_look 32 = .ok (.getfield 30, 3) := by decide +kernel
theorem dX0_look_35 : decode cX0_look 35 = .ok (.ifCond .eq 62, 3) := by decide +kernel
theorem dX0_look_38 : decode cX0_look 38 = .ok (.iconst 0, 1) := by decide +kernel
theorem dX0_look_39 : decode cX0_look 39 = .ok (.istore 4, 2) := by decide +kernel
theorem dX0_look_41 : decode cX0_look 41 = .ok (.iload 4, 2) := by decide +kernel
theorem dX0_look_43 : decode cX0_look 43 = .ok (.aload_n 1, 1) := by decide +kernel
theorem dX0_look_44 : decode cX0_look 44 = .ok (.getfield 39, 3) := by decide +kernel
theorem dX0_look_47 : decode cX0_look 47 = .ok (.if_icmp .ge 44, 3) := by decide +kernel
theorem dX0_look_50 : decode cX0_look 50 = .ok (.aload_n 0, 1) := by decide +kernel
theorem dX0_look_51 : decode cX0_look 51 = .ok (.getfield 30, 3) := by decide +kernel
theorem dX0_look_54 : decode cX0_look 54 = .ok (.ifCond .eq 37, 3) := by decide +kernel
theorem dX0_look_57 : decode cX0_look 57 = .ok (.aload_n 0, 1) := by decide +kernel
theorem dX0_look_58 : decode cX0_look 58 = .ok (.aload_n 1, 1) := by decide +kernel
theorem dX0_look_59 : decode cX0_look 59 = .ok (.aload_n 2, 1) := by decide +kernel
theorem dX0_look_60 : decode cX0_look 60 = .ok (.iload_n 3, 1) := by decide +kernel
theorem dX0_look_61 : decode cX0_look 61 = .ok (.iload 4, 2) := by decide +kernel
theorem dX0_look_63 : decode cX0_look 63 = .ok (.invokevirtual 45, 3) := by decide +kernel
theorem dX0_look_66 : decode cX0_look 66 = .ok (.ifCond .ne 19, 3) := by decide +kernel
theorem dX0_look_69 : decode cX0_look 69 = .ok (.aload_n 0, 1) := by decide +kernel
theorem dX0_look_70 : decode cX0_look 70 = .ok (.iconst 0, 1) := by decide +kernel
theorem dX0_look_71 : decode cX0_look 71 = .ok (.putfield 30, 3) := by decide +kernel
theorem dX0_look_74 : decode cX0_look 74 = .ok (.aload_n 0, 1) := by decide +kernel
theorem dX0_look_75 : decode cX0_look 75 = .ok (.iload_n 3, 1) := by decide +kernel
theorem dX0_look_76 : decode cX0_look 76 = .ok (.putfield 49, 3) := by decide +kernel
theorem dX0_look_79 : decode cX0_look 79 = .ok (.aload_n 0, 1) := by decide +kernel
theorem dX0_look_80 : decode cX0_look 80 = .ok (.iload 4, 2) := by decide +kernel
theorem dX0_look_82 : decode cX0_look 82 = .ok (.putfield 52, 3) := by decide +kernel
theorem dX0_look_85 : decode cX0_look 85 = .ok (.iinc 4 1, 3) := by decide +kernel
theorem dX0_look_88 : decode cX0_look 88 = .ok (.goto (-47), 3) := by decide +kernel
theorem dX0_look_91 : decode cX0_look 91 = .ok (.iinc 3 1, 3) := by decide +kernel
theorem dX0_look_94 : decode cX0_look 94 = .ok (.goto (-71), 3) := by decide +kernel
theorem dX0_look_97 : decode cX0_look 97 = .ok (.return_, 1) := by decide +kernel
theorem dX0_fits_0 : decode cX0_fits 0 = .ok (.aload_n 2, 1) := by decide +kernel
theorem dX0_fits_1 : decode cX0_fits 1 = .ok (.iload_n 3, 1) := by decide +kernel
theorem dX0_fits_2 : decode cX0_fits 2 = .ok (.iload 4, 2) := by decide +kernel
theorem dX0_fits_4 : decode cX0_fits 4 = .ok (.invokevirtual 55, 3) := by decide +kernel
theorem dX0_fits_7 : decode cX0_fits 7 = .ok (.istore 5, 2) := by decide +kernel
theorem dX0_fits_9 : decode cX0_fits 9 = .ok (.iload 5, 2) := by decide +kernel
theorem dX0_fits_11 : decode cX0_fits 11 = .ok (.ifCond .ge 5, 3) := by decide +kernel
theorem dX0_fits_14 : decode cX0_fits 14 = .ok (.iconst 0, 1) := by decide +kernel
theorem dX0_fits_15 : decode cX0_fits 15 = .ok (.ireturn, 1) := by decide +kernel
theorem dX0_fits_16 : decode cX0_fits 16 = .ok (.aload_n 1, 1) := by decide +kernel
theorem dX0_fits_17 : decode cX0_fits 17 = .ok (.getfield 59, 3) := by decide +kernel
theorem dX0_fits_20 : decode cX0_fits 20 = .ok (.iload 4, 2) := by decide +kernel
theorem dX0_fits_22 : decode cX0_fits 22 = .ok (.iaload, 1) := by decide +kernel
theorem dX0_fits_23 : decode cX0_fits 23 = .ok (.aload_n 2, 1) := by decide +kernel
theorem dX0_fits_24 : decode cX0_fits 24 = .ok (.iload_n 3, 1) := by decide +kernel
theorem dX0_fits_25 : decode cX0_fits 25 = .ok (.iload 5, 2) := by decide +kernel
theorem dX0_fits_27 : decode cX0_fits 27 = .ok (.iconst 1, 1) := by decide +kernel
theorem dX0_fits_28 : decode cX0_fits 28 = .ok (.isub, 1) := by decide +kernel
theorem dX0_fits_29 : decode cX0_fits 29 = .ok (.invokevirtual 62, 3) := by decide +kernel
theorem dX0_fits_32 : decode cX0_fits 32 = .ok (.iand, 1) := by decide +kernel
theorem dX0_fits_33 : decode cX0_fits 33 = .ok (.invokestatic 65, 3) := by decide +kernel
theorem dX0_fits_36 : decode cX0_fits 36 = .ok (.istore 6, 2) := by decide +kernel
theorem dX0_fits_38 : decode cX0_fits 38 = .ok (.aload_n 1, 1) := by decide +kernel
theorem dX0_fits_39 : decode cX0_fits 39 = .ok (.getfield 59, 3) := by decide +kernel
theorem dX0_fits_42 : decode cX0_fits 42 = .ok (.iload 4, 2) := by decide +kernel
theorem dX0_fits_44 : decode cX0_fits 44 = .ok (.iaload, 1) := by decide +kernel
theorem dX0_fits_45 : decode cX0_fits 45 = .ok (.aload_n 2, 1) := by decide +kernel
theorem dX0_fits_46 : decode cX0_fits 46 = .ok (.iload_n 3, 1) := by decide +kernel
theorem dX0_fits_47 : decode cX0_fits 47 = .ok (.iload 5, 2) := by decide +kernel
theorem dX0_fits_49 : decode cX0_fits 49 = .ok (.invokevirtual 62, 3) := by decide +kernel
theorem dX0_fits_52 : decode cX0_fits 52 = .ok (.iand, 1) := by decide +kernel
theorem dX0_fits_53 : decode cX0_fits 53 = .ok (.invokestatic 65, 3) := by decide +kernel
theorem dX0_fits_56 : decode cX0_fits 56 = .ok (.istore 7, 2) := by decide +kernel
theorem dX0_fits_58 : decode cX0_fits 58 = .ok (.aload_n 1, 1) := by decide +kernel
theorem dX0_fits_59 : decode cX0_fits 59 = .ok (.getfield 59, 3) := by decide +kernel
theorem dX0_fits_62 : decode cX0_fits 62 = .ok (.iload 4, 2) := by decide +kernel
theorem dX0_fits_64 : decode cX0_fits 64 = .ok (.iaload, 1) := by decide +kernel
theorem dX0_fits_65 : decode cX0_fits 65 = .ok (.aload_n 2, 1) := by decide +kernel
theorem dX0_fits_66 : decode cX0_fits 66 = .ok (.iload_n 3, 1) := by decide +kernel
theorem dX0_fits_67 : decode cX0_fits 67 = .ok (.iload 5, 2) := by decide +kernel
theorem dX0_fits_69 : decode cX0_fits 69 = .ok (.iconst 1, 1) := by decide +kernel
theorem dX0_fits_70 : decode cX0_fits 70 = .ok (.iadd, 1) := by decide +kernel
theorem dX0_fits_71 : decode cX0_fits 71 = .ok (.invokevirtual 62, 3) := by decide +kernel
theorem dX0_fits_74 : decode cX0_fits 74 = .ok (.iand, 1) := by decide +kernel
theorem dX0_fits_75 : decode cX0_fits 75 = .ok (.invokestatic 65, 3) := by decide +kernel
theorem dX0_fits_78 : decode cX0_fits 78 = .ok (.istore 8, 2) := by decide +kernel
theorem dX0_fits_80 : decode cX0_fits 80 = .ok (.aload_n 0, 1) := by decide +kernel
theorem dX0_fits_81 : decode cX0_fits 81 = .ok (.getfield 9, 3) := by decide +kernel
theorem dX0_fits_84 : decode cX0_fits 84 = .ok (.iload 5, 2) := by decide +kernel
theorem dX0_fits_86 : decode cX0_fits 86 = .ok (.iaload, 1) := by decide +kernel
theorem dX0_fits_87 : decode cX0_fits 87 = .ok (.ifCond .ge 32, 3) := by decide +kernel
theorem dX0_fits_90 : decode cX0_fits 90 = .ok (.aload_n 0, 1) := by decide +kernel
theorem dX0_fits_91 : decode cX0_fits 91 = .ok (.getfield 9, 3) := by decide +kernel
theorem dX0_fits_94 : decode cX0_fits 94 = .ok (.iload 5, 2) := by decide +kernel
theorem dX0_fits_96 : decode cX0_fits 96 = .ok (.iload 6, 2) := by decide +kernel
theorem dX0_fits_98 : decode cX0_fits 98 = .ok (.iastore, 1) := by decide +kernel
theorem dX0_fits_99 : decode cX0_fits 99 = .ok (.aload_n 0, 1) := by decide +kernel
theorem dX0_fits_100 : decode cX0_fits 100 = .ok (.getfield 15, 3) := by decide +kernel
theorem dX0_fits_103 : decode cX0_fits 103 = .ok (.iload 5, 2) := by decide +kernel
theorem dX0_fits_105 : decode cX0_fits 105 = .ok (.iload 7, 2) := by decide +kernel
theorem dX0_fits_107 : decode cX0_fits 107 = .ok (.iastore, 1) := by decide +kernel
theorem dX0_fits_108 : decode cX0_fits 108 = .ok (.aload_n 0, 1) := by decide +kernel
theorem dX0_fits_109 : decode cX0_fits 109 = .ok (.getfield 18, 3) := by decide +kernel
theorem dX0_fits_112 : decode cX0_fits 112 = .ok (.iload 5, 2) := by decide +kernel
theorem dX0_fits_114 : decode cX0_fits 114 = .ok (.iload 8, 2) := by decide +kernel
theorem dX0_fits_116 : decode cX0_fits 116 = .ok (.iastore, 1) := by decide +kernel
theorem dX0_fits_117 : decode cX0_fits 117 = .ok (.iconst 1, 1) := by decide +kernel
theorem dX0_fits_118 : decode cX0_fits 118 = .ok (.ireturn, 1) := by decide +kernel
theorem dX0_fits_119 : decode cX0_fits 119 = .ok (.aload_n 0, 1) := by decide +kernel
theorem dX0_fits_120 : decode cX0_fits 120 = .ok (.getfield 9, 3) := by decide +kernel
theorem dX0_fits_123 : decode cX0_fits 123 = .ok (.iload 5, 2) := by decide +kernel
theorem dX0_fits_125 : decode cX0_fits 125 = .ok (.iaload, 1) := by decide +kernel
theorem dX0_fits_126 : decode cX0_fits 126 = .ok (.iload 6, 2) := by decide +kernel
theorem dX0_fits_128 : decode cX0_fits 128 = .ok (.if_icmp .ne 31, 3) := by decide +kernel
theorem dX0_fits_131 : decode cX0_fits 131 = .ok (.aload_n 0, 1) := by decide +kernel
theorem dX0_fits_132 : decode cX0_fits 132 = .ok (.getfield 15, 3) := by decide +kernel
theorem dX0_fits_135 : decode cX0_fits 135 = .ok (.iload 5, 2) := by decide +kernel
theorem dX0_fits_137 : decode cX0_fits 137 = .ok (.iaload, 1) := by decide +kernel
theorem dX0_fits_138 : decode cX0_fits 138 = .ok (.iload 7, 2) := by decide +kernel
theorem dX0_fits_140 : decode cX0_fits 140 = .ok (.if_icmp .ne 19, 3) := by decide +kernel
theorem dX0_fits_143 : decode cX0_fits 143 = .ok (.aload_n 0, 1) := by decide +kernel
theorem dX0_fits_144 : decode cX0_fits 144 = .ok (.getfield 18, 3) := by decide +kernel
theorem dX0_fits_147 : decode cX0_fits 147 = .ok (.iload 5, 2) := by decide +kernel
theorem dX0_fits_149 : decode cX0_fits 149 = .ok (.iaload, 1) := by decide +kernel
theorem dX0_fits_150 : decode cX0_fits 150 = .ok (.iload 8, 2) := by decide +kernel
theorem dX0_fits_152 : decode cX0_fits 152 = .ok (.if_icmp .ne 7, 3) := by decide +kernel
theorem dX0_fits_155 : decode cX0_fits 155 = .ok (.iconst 1, 1) := by decide +kernel
theorem dX0_fits_156 : decode cX0_fits 156 = .ok (.goto 4, 3) := by decide +kernel
theorem dX0_fits_159 : decode cX0_fits 159 = .ok (.iconst 0, 1) := by decide +kernel
theorem dX0_fits_160 : decode cX0_fits 160 = .ok (.ireturn, 1) := by decide +kernel
theorem dX0_isAtMost_0 : decode cX0_isAtMost 0 = .ok (.iconst 0, 1) := by decide +kernel
theorem dX0_isAtMost_1 : decode cX0_isAtMost 1 = .ok (.istore_n 3, 1) := by decide +kernel
theorem dX0_isAtMost_2 : decode cX0_isAtMost 2 = .ok (.iload_n 3, 1) := by decide +kernel
theorem dX0_isAtMost_3 : decode cX0_isAtMost 3 = .ok (.iload_n 1, 1) := by decide +kernel
theorem dX0_isAtMost_4 : decode cX0_isAtMost 4 = .ok (.if_icmp .gt 31, 3) := by decide +kernel
theorem dX0_isAtMost_7 : decode cX0_isAtMost 7 = .ok (.aload_n 0, 1) := by decide +kernel
theorem dX0_isAtMost_8 : decode cX0_isAtMost 8 = .ok (.getfield 18, 3) := by decide +kernel
theorem dX0_isAtMost_11 : decode cX0_isAtMost 11 = .ok (.iload_n 3, 1) := by decide +kernel
theorem dX0_isAtMost_12 : decode cX0_isAtMost 12 = .ok (.iaload, 1) := by decide +kernel
theorem dX0_isAtMost_13 : decode cX0_isAtMost 13 = .ok (.iload_n 2, 1) := by decide +kernel
theorem dX0_isAtMost_14 : decode cX0_isAtMost 14 = .ok (.if_icmp .gt 13, 3) := by decide +kernel
theorem dX0_isAtMost_17 : decode cX0_isAtMost 17 = .ok (.aload_n 0, 1) := by decide +kernel
theorem dX0_isAtMost_18 : decode cX0_isAtMost 18 = .ok (.getfield 9, 3) := by decide +kernel
theorem dX0_isAtMost_21 : decode cX0_isAtMost 21 = .ok (.iload_n 3, 1) := by decide +kernel
theorem dX0_isAtMost_22 : decode cX0_isAtMost 22 = .ok (.iaload, 1) := by decide +kernel
theorem dX0_isAtMost_23 : decode cX0_isAtMost 23 = .ok (.iload_n 2, 1) := by decide +kernel
theorem dX0_isAtMost_24 : decode cX0_isAtMost 24 = .ok (.if_icmp .le 5, 3) := by decide +kernel
theorem dX0_isAtMost_27 : decode cX0_isAtMost 27 = .ok (.iconst 0, 1) := by decide +kernel
theorem dX0_isAtMost_28 : decode cX0_isAtMost 28 = .ok (.ireturn, 1) := by decide +kernel
theorem dX0_isAtMost_29 : decode cX0_isAtMost 29 = .ok (.iinc 3 1, 3) := by decide +kernel
theorem dX0_isAtMost_32 : decode cX0_isAtMost 32 = .ok (.goto (-30), 3) := by decide +kernel
theorem dX0_isAtMost_35 : decode cX0_isAtMost 35 = .ok (.iconst 1, 1) := by decide +kernel
theorem dX0_isAtMost_36 : decode cX0_isAtMost 36 = .ok (.ireturn, 1) := by decide +kernel
theorem dX1_init_0 : decode cX1_init 0 = .ok (.aload_n 0, 1) := by decide +kernel
theorem dX1_init_1 : decode cX1_init 1 = .ok (.invokespecial 3, 3) := by decide +kernel
theorem dX1_init_4 : decode cX1_init 4 = .ok (.aload_n 0, 1) := by decide +kernel
theorem dX1_init_5 : decode cX1_init 5 = .ok (.bipush 32, 2) := by decide +kernel
theorem dX1_init_7 : decode cX1_init 7 = .ok (.newarray .int, 2) := by decide +kernel
theorem dX1_init_9 : decode cX1_init 9 = .ok (.putfield 9, 3) := by decide +kernel
theorem dX1_init_12 : decode cX1_init 12 = .ok (.return_, 1) := by decide +kernel
theorem dX1_mayBe_0 : decode cX1_mayBe 0 = .ok (.iload_n 0, 1) := by decide +kernel
theorem dX1_mayBe_1 : decode cX1_mayBe 1 = .ok (.tableswitch 109 0 5 #[39, 50, 61, 77, 77, 93], 39) := by decide +kernel
theorem dX1_mayBe_40 : decode cX1_mayBe 40 = .ok (.iload_n 1, 1) := by decide +kernel
theorem dX1_mayBe_41 : decode cX1_mayBe 41 = .ok (.iconst 3, 1) := by decide +kernel
theorem dX1_mayBe_42 : decode cX1_mayBe 42 = .ok (.if_icmp .lt 7, 3) := by decide +kernel
theorem dX1_mayBe_45 : decode cX1_mayBe 45 = .ok (.iconst 1, 1) := by decide +kernel
theorem dX1_mayBe_46 : decode cX1_mayBe 46 = .ok (.goto 4, 3) := by decide +kernel
theorem dX1_mayBe_49 : decode cX1_mayBe 49 = .ok (.iconst 0, 1) := by decide +kernel
theorem dX1_mayBe_50 : decode cX1_mayBe 50 = .ok (.ireturn, 1) := by decide +kernel
theorem dX1_mayBe_51 : decode cX1_mayBe 51 = .ok (.iload_n 1, 1) := by decide +kernel
theorem dX1_mayBe_52 : decode cX1_mayBe 52 = .ok (.iconst 1, 1) := by decide +kernel
theorem dX1_mayBe_53 : decode cX1_mayBe 53 = .ok (.if_icmp .lt 7, 3) := by decide +kernel
theorem dX1_mayBe_56 : decode cX1_mayBe 56 = .ok (.iconst 1, 1) := by decide +kernel
theorem dX1_mayBe_57 : decode cX1_mayBe 57 = .ok (.goto 4, 3) := by decide +kernel
theorem dX1_mayBe_60 : decode cX1_mayBe 60 = .ok (.iconst 0, 1) := by decide +kernel
theorem dX1_mayBe_61 : decode cX1_mayBe 61 = .ok (.ireturn, 1) := by decide +kernel
theorem dX1_mayBe_62 : decode cX1_mayBe 62 = .ok (.iload_n 1, 1) := by decide +kernel
theorem dX1_mayBe_63 : decode cX1_mayBe 63 = .ok (.iconst 2, 1) := by decide +kernel
theorem dX1_mayBe_64 : decode cX1_mayBe 64 = .ok (.if_icmp .lt 12, 3) := by decide +kernel
theorem dX1_mayBe_67 : decode cX1_mayBe 67 = .ok (.iload_n 2, 1) := by decide +kernel
theorem dX1_mayBe_68 : decode cX1_mayBe 68 = .ok (.iconst 1, 1) := by decide +kernel
theorem dX1_mayBe_69 : decode cX1_mayBe 69 = .ok (.if_icmp .lt 7, 3) := by decide +kernel
theorem dX1_mayBe_72 : decode cX1_mayBe 72 = .ok (.iconst 1, 1) := by decide +kernel
theorem dX1_mayBe_73 : decode cX1_mayBe 73 = .ok (.goto 4, 3) := by decide +kernel
theorem dX1_mayBe_76 : decode cX1_mayBe 76 = .ok (.iconst 0, 1) := by decide +kernel
theorem dX1_mayBe_77 : decode cX1_mayBe 77 = .ok (.ireturn, 1) := by decide +kernel
theorem dX1_mayBe_78 : decode cX1_mayBe 78 = .ok (.iload_n 2, 1) := by decide +kernel
theorem dX1_mayBe_79 : decode cX1_mayBe 79 = .ok (.iconst 1, 1) := by decide +kernel
theorem dX1_mayBe_80 : decode cX1_mayBe 80 = .ok (.if_icmp .lt 12, 3) := by decide +kernel
theorem dX1_mayBe_83 : decode cX1_mayBe 83 = .ok (.iload_n 2, 1) := by decide +kernel
theorem dX1_mayBe_84 : decode cX1_mayBe 84 = .ok (.iload_n 1, 1) := by decide +kernel
theorem dX1_mayBe_85 : decode cX1_mayBe 85 = .ok (.if_icmp .ge 7, 3) := by decide +kernel
theorem dX1_mayBe_88 : decode cX1_mayBe 88 = .ok (.iconst 1, 1) := by decide +kernel
theorem dX1_mayBe_89 : decode cX1_mayBe 89 = .ok (.goto 4, 3) := by decide +kernel
theorem dX1_mayBe_92 : decode cX1_mayBe 92 = .ok (.iconst 0, 1) := by decide +kernel
theorem dX1_mayBe_93 : decode cX1_mayBe 93 = .ok (.ireturn, 1) := by decide +kernel
theorem dX1_mayBe_94 : decode cX1_mayBe 94 = .ok (.iload_n 1, 1) := by decide +kernel
theorem dX1_mayBe_95 : decode cX1_mayBe 95 = .ok (.iconst 1, 1) := by decide +kernel
theorem dX1_mayBe_96 : decode cX1_mayBe 96 = .ok (.if_icmp .lt 12, 3) := by decide +kernel
theorem dX1_mayBe_99 : decode cX1_mayBe 99 = .ok (.iload_n 2, 1) := by decide +kernel
theorem dX1_mayBe_100 : decode cX1_mayBe 100 = .ok (.iconst 1, 1) := by decide +kernel
theorem dX1_mayBe_101 : decode cX1_mayBe 101 = .ok (.if_icmp .lt 7, 3) := by decide +kernel
theorem dX1_mayBe_104 : decode cX1_mayBe 104 = .ok (.iconst 1, 1) := by decide +kernel
theorem dX1_mayBe_105 : decode cX1_mayBe 105 = .ok (.goto 4, 3) := by decide +kernel
theorem dX1_mayBe_108 : decode cX1_mayBe 108 = .ok (.iconst 0, 1) := by decide +kernel
theorem dX1_mayBe_109 : decode cX1_mayBe 109 = .ok (.ireturn, 1) := by decide +kernel
theorem dX1_mayBe_110 : decode cX1_mayBe 110 = .ok (.iconst 0, 1) := by decide +kernel
theorem dX1_mayBe_111 : decode cX1_mayBe 111 = .ok (.ireturn, 1) := by decide +kernel
theorem dX1_size_0 : decode cX1_size 0 = .ok (.iload_n 0, 1) := by decide +kernel
theorem dX1_size_1 : decode cX1_size 1 = .ok (.tableswitch 49 2 5 #[31, 37, 37, 43], 31) := by decide +kernel
theorem dX1_size_32 : decode cX1_size 32 = .ok (.iload_n 1, 1) := by decide +kernel
theorem dX1_size_33 : decode cX1_size 33 = .ok (.iload_n 2, 1) := by decide +kernel
theorem dX1_size_34 : decode cX1_size 34 = .ok (.invokestatic 15, 3) := by decide +kernel
theorem dX1_size_37 : decode cX1_size 37 = .ok (.lreturn, 1) := by decide +kernel
theorem dX1_size_38 : decode cX1_size 38 = .ok (.iload_n 1, 1) := by decide +kernel
theorem dX1_size_39 : decode cX1_size 39 = .ok (.iload_n 2, 1) := by decide +kernel
theorem dX1_size_40 : decode cX1_size 40 = .ok (.invokestatic 19, 3) := by decide +kernel
theorem dX1_size_43 : decode cX1_size 43 = .ok (.lreturn, 1) := by decide +kernel
theorem dX1_size_44 : decode cX1_size 44 = .ok (.iload_n 1, 1) := by decide +kernel
theorem dX1_size_45 : decode cX1_size 45 = .ok (.i2l, 1) := by decide +kernel
theorem dX1_size_46 : decode cX1_size 46 = .ok (.iload_n 2, 1) := by decide +kernel
theorem dX1_size_47 : decode cX1_size 47 = .ok (.i2l, 1) := by decide +kernel
theorem dX1_size_48 : decode cX1_size 48 = .ok (.ladd, 1) := by decide +kernel
theorem dX1_size_49 : decode cX1_size 49 = .ok (.lreturn, 1) := by decide +kernel
theorem dX1_size_50 : decode cX1_size 50 = .ok (.iload_n 1, 1) := by decide +kernel
theorem dX1_size_51 : decode cX1_size 51 = .ok (.i2l, 1) := by decide +kernel
theorem dX1_size_52 : decode cX1_size 52 = .ok (.lreturn, 1) := by decide +kernel
theorem dX1_countWords_0 : decode cX1_countWords 0 = .ok (.lconst 1, 1) := by decide +kernel
theorem dX1_countWords_1 : decode cX1_countWords 1 = .ok (.lstore_n 2, 1) := by decide +kernel
theorem dX1_countWords_2 : decode cX1_countWords 2 = .ok (.iconst 0, 1) := by decide +kernel
theorem dX1_countWords_3 : decode cX1_countWords 3 = .ok (.istore 4, 2) := by decide +kernel
theorem dX1_countWords_5 : decode cX1_countWords 5 = .ok (.iload 4, 2) := by decide +kernel
theorem dX1_countWords_7 : decode cX1_countWords 7 = .ok (.iload_n 1, 1) := by decide +kernel
theorem dX1_countWords_8 : decode cX1_countWords 8 = .ok (.if_icmp .ge 22, 3) := by decide +kernel
theorem dX1_countWords_11 : decode cX1_countWords 11 = .ok (.lload_n 2, 1) := by decide +kernel
theorem dX1_countWords_12 : decode cX1_countWords 12 = .ok (.ldc2_w 22, 3) := by decide +kernel
theorem dX1_countWords_15 : decode cX1_countWords 15 = .ok (.lcmp, 1) := by decide +kernel
theorem dX1_countWords_16 : decode cX1_countWords 16 = .ok (.ifCond .gt 14, 3) := by decide +kernel
theorem dX1_countWords_19 : decode cX1_countWords 19 = .ok (.lload_n 2, 1) := by decide +kernel
theorem dX1_countWords_20 : decode cX1_countWords 20 = .ok (.iload_n 0, 1) := by decide +kernel
theorem dX1_countWords_21 : decode cX1_countWords 21 = .ok (.i2l, 1) := by decide +kernel
theorem dX1_countWords_22 : decode cX1_countWords 22 = .ok (.lmul, 1) := by decide +kernel
theorem dX1_countWords_23 : decode cX1_countWords 23 = .ok (.lstore_n 2, 1) := by decide +kernel
theorem dX1_countWords_24 : decode cX1_countWords 24 = .ok (.iinc 4 1, 3) := by decide +kernel
theorem dX1_countWords_27 : decode cX1_countWords 27 = .ok (.goto (-22), 3) := by decide +kernel
theorem dX1_countWords_30 : decode cX1_countWords 30 = .ok (.lload_n 2, 1) := by decide +kernel
theorem dX1_countWords_31 : decode cX1_countWords 31 = .ok (.lreturn, 1) := by decide +kernel
theorem dX1_countSets_0 : decode cX1_countSets 0 = .ok (.iload_n 0, 1) := by decide +kernel
theorem dX1_countSets_1 : decode cX1_countSets 1 = .ok (.bipush 32, 2) := by decide +kernel
theorem dX1_countSets_3 : decode cX1_countSets 3 = .ok (.if_icmp .le 6, 3) := by decide +kernel
theorem dX1_countSets_6 : decode cX1_countSets 6 = .ok (.iload_n 0, 1) := by decide +kernel
theorem dX1_countSets_7 : decode cX1_countSets 7 = .ok (.i2l, 1) := by decide +kernel
theorem dX1_countSets_8 : decode cX1_countSets 8 = .ok (.lreturn, 1) := by decide +kernel
theorem dX1_countSets_9 : decode cX1_countSets 9 = .ok (.lconst 1, 1) := by decide +kernel
theorem dX1_countSets_10 : decode cX1_countSets 10 = .ok (.lstore_n 2, 1) := by decide +kernel
theorem dX1_countSets_11 : decode cX1_countSets 11 = .ok (.iconst 1, 1) := by decide +kernel
theorem dX1_countSets_12 : decode cX1_countSets 12 = .ok (.istore 4, 2) := by decide +kernel
theorem dX1_countSets_14 : decode cX1_countSets 14 = .ok (.iload 4, 2) := by decide +kernel
theorem dX1_countSets_16 : decode cX1_countSets 16 = .ok (.iload_n 1, 1) := by decide +kernel
theorem dX1_countSets_17 : decode cX1_countSets 17 = .ok (.if_icmp .gt 23, 3) := by decide +kernel
theorem dX1_countSets_20 : decode cX1_countSets 20 = .ok (.lload_n 2, 1) := by decide +kernel
theorem dX1_countSets_21 : decode cX1_countSets 21 = .ok (.iload_n 0, 1) := by decide +kernel
theorem dX1_countSets_22 : decode cX1_countSets 22 = .ok (.iload_n 1, 1) := by decide +kernel
theorem dX1_countSets_23 : decode cX1_countSets 23 = .ok (.isub, 1) := by decide +kernel
theorem dX1_countSets_24 : decode cX1_countSets 24 = .ok (.iload 4, 2) := by decide +kernel
theorem dX1_countSets_26 : decode cX1_countSets 26 = .ok (.iadd, 1) := by decide +kernel
theorem dX1_countSets_27 : decode cX1_countSets 27 = .ok (.i2l, 1) := by decide +kernel
theorem dX1_countSets_28 : decode cX1_countSets 28 = .ok (.lmul, 1) := by decide +kernel
theorem dX1_countSets_29 : decode cX1_countSets 29 = .ok (.iload 4, 2) := by decide +kernel
theorem dX1_countSets_31 : decode cX1_countSets 31 = .ok (.i2l, 1) := by decide +kernel
theorem dX1_countSets_32 : decode cX1_countSets 32 = .ok (.ldiv, 1) := by decide +kernel
theorem dX1_countSets_33 : decode cX1_countSets 33 = .ok (.lstore_n 2, 1) := by decide +kernel
theorem dX1_countSets_34 : decode cX1_countSets 34 = .ok (.iinc 4 1, 3) := by decide +kernel
theorem dX1_countSets_37 : decode cX1_countSets 37 = .ok (.goto (-23), 3) := by decide +kernel
theorem dX1_countSets_40 : decode cX1_countSets 40 = .ok (.lload_n 2, 1) := by decide +kernel
theorem dX1_countSets_41 : decode cX1_countSets 41 = .ok (.lreturn, 1) := by decide +kernel
theorem dX1_lay_0 : decode cX1_lay 0 = .ok (.iload_n 2, 1) := by decide +kernel
theorem dX1_lay_1 : decode cX1_lay 1 = .ok (.iconst 2, 1) := by decide +kernel
theorem dX1_lay_2 : decode cX1_lay 2 = .ok (.if_icmp .ne 11, 3) := by decide +kernel
theorem dX1_lay_5 : decode cX1_lay 5 = .ok (.aload_n 1, 1) := by decide +kernel
theorem dX1_lay_6 : decode cX1_lay 6 = .ok (.iload_n 3, 1) := by decide +kernel
theorem dX1_lay_7 : decode cX1_lay 7 = .ok (.invokestatic 24, 3) := by decide +kernel
theorem dX1_lay_10 : decode cX1_lay 10 = .ok (.goto 41, 3) := by decide +kernel
theorem dX1_lay_13 : decode cX1_lay 13 = .ok (.iload_n 2, 1) := by decide +kernel
theorem dX1_lay_14 : decode cX1_lay 14 = .ok (.iconst 3, 1) := by decide +kernel
theorem dX1_lay_15 : decode cX1_lay 15 = .ok (.if_icmp .eq 8, 3) := by decide +kernel
theorem dX1_lay_18 : decode cX1_lay 18 = .ok (.iload_n 2, 1) := by decide +kernel
theorem dX1_lay_19 : decode cX1_lay 19 = .ok (.iconst 4, 1) := by decide +kernel
theorem dX1_lay_20 : decode cX1_lay 20 = .ok (.if_icmp .ne 24, 3) := by decide +kernel
theorem dX1_lay_23 : decode cX1_lay 23 = .ok (.aload_n 0, 1) := by decide +kernel
theorem dX1_lay_24 : decode cX1_lay 24 = .ok (.aload_n 1, 1) := by decide +kernel
theorem dX1_lay_25 : decode cX1_lay 25 = .ok (.getfield 28, 3) := by decide +kernel
theorem dX1_lay_28 : decode cX1_lay 28 = .ok (.iload 4, 2) := by decide +kernel
theorem dX1_lay_30 : decode cX1_lay 30 = .ok (.invokevirtual 34, 3) := by decide +kernel
theorem dX1_lay_33 : decode cX1_lay 33 = .ok (.aload_n 0, 1) := by decide +kernel
theorem dX1_lay_34 : decode cX1_lay 34 = .ok (.aload_n 1, 1) := by decide +kernel
theorem dX1_lay_35 : decode cX1_lay 35 = .ok (.iload_n 2, 1) := by decide +kernel
theorem dX1_lay_36 : decode cX1_lay 36 = .ok (.iload 4, 2) := by decide +kernel
theorem dX1_lay_38 : decode cX1_lay 38 = .ok (.invokevirtual 38, 3) := by decide +kernel
theorem dX1_lay_41 : decode cX1_lay 41 = .ok (.goto 10, 3) := by decide +kernel
theorem dX1_lay_44 : decode cX1_lay 44 = .ok (.aload_n 0, 1) := by decide +kernel
theorem dX1_lay_45 : decode cX1_lay 45 = .ok (.aload_n 1, 1) := by decide +kernel
theorem dX1_lay_46 : decode cX1_lay 46 = .ok (.iload_n 2, 1) := by decide +kernel
theorem dX1_lay_47 : decode cX1_lay 47 = .ok (.iload_n 3, 1) := by decide +kernel
theorem dX1_lay_48 : decode cX1_lay 48 = .ok (.invokevirtual 38, 3) := by decide +kernel
theorem dX1_lay_51 : decode cX1_lay 51 = .ok (.return_, 1) := by decide +kernel
theorem dX1_layWords_0 : decode cX1_layWords 0 = .ok (.iconst 0, 1) := by decide +kernel
theorem dX1_layWords_1 : decode cX1_layWords 1 = .ok (.istore_n 2, 1) := by decide +kernel
theorem dX1_layWords_2 : decode cX1_layWords 2 = .ok (.iload_n 2, 1) := by decide +kernel
theorem dX1_layWords_3 : decode cX1_layWords 3 = .ok (.aload_n 0, 1) := by decide +kernel
theorem dX1_layWords_4 : decode cX1_layWords 4 = .ok (.getfield 28, 3) := by decide +kernel
theorem dX1_layWords_7 : decode cX1_layWords 7 = .ok (.if_icmp .ge 43, 3) := by decide +kernel
theorem dX1_layWords_10 : decode cX1_layWords 10 = .ok (.iload_n 2, 1) := by decide +kernel
theorem dX1_layWords_11 : decode cX1_layWords 11 = .ok (.iconst 1, 1) := by decide +kernel
theorem dX1_layWords_12 : decode cX1_layWords 12 = .ok (.iadd, 1) := by decide +kernel
theorem dX1_layWords_13 : decode cX1_layWords 13 = .ok (.istore_n 3, 1) := by decide +kernel
theorem dX1_layWords_14 : decode cX1_layWords 14 = .ok (.iload_n 3, 1) := by decide +kernel
theorem dX1_layWords_15 : decode cX1_layWords 15 = .ok (.aload_n 0, 1) := by decide +kernel
theorem dX1_layWords_16 : decode cX1_layWords 16 = .ok (.getfield 28, 3) := by decide +kernel
theorem dX1_layWords_19 : decode cX1_layWords 19 = .ok (.if_icmp .ge 25, 3) := by decide +kernel
theorem dX1_layWords_22 : decode cX1_layWords 22 = .ok (.iload_n 2, 1) := by decide +kernel
theorem dX1_layWords_23 : decode cX1_layWords 23 = .ok (.iload_n 3, 1) := by decide +kernel
theorem dX1_layWords_24 : decode cX1_layWords 24 = .ok (.iload_n 1, 1) := by decide +kernel
theorem dX1_layWords_25 : decode cX1_layWords 25 = .ok (.invokestatic 42, 3) := by decide +kernel
theorem dX1_layWords_28 : decode cX1_layWords 28 = .ok (.iconst 1, 1) := by decide +kernel
theorem dX1_layWords_29 : decode cX1_layWords 29 = .ok (.if_icmp .ne 9, 3) := by decide +kernel
theorem dX1_layWords_32 : decode cX1_layWords 32 = .ok (.aload_n 0, 1) := by decide +kernel
theorem dX1_layWords_33 : decode cX1_layWords 33 = .ok (.iload_n 2, 1) := by decide +kernel
theorem dX1_layWords_34 : decode cX1_layWords 34 = .ok (.iload_n 3, 1) := by decide +kernel
theorem dX1_layWords_35 : decode cX1_layWords 35 = .ok (.invokevirtual 46, 3) := by decide +kernel
theorem dX1_layWords_38 : decode cX1_layWords 38 = .ok (.iinc 3 1, 3) := by decide +kernel
theorem dX1_layWords_41 : decode cX1_layWords 41 = .ok (.goto (-27), 3) := by decide +kernel
theorem dX1_layWords_44 : decode cX1_layWords 44 = .ok (.iinc 2 1, 3) := by decide +kernel
theorem dX1_layWords_47 : decode cX1_layWords 47 = .ok (.goto (-45), 3) := by decide +kernel
theorem dX1_layWords_50 : decode cX1_layWords 50 = .ok (.return_, 1) := by decide +kernel
theorem dX1_unlikeLetters_0 : decode cX1_unlikeLetters 0 = .ok (.iload_n 2, 1) := by decide +kernel
theorem dX1_unlikeLetters_1 : decode cX1_unlikeLetters 1 = .ok (.iconst 2, 1) := by decide +kernel
theorem dX1_unlikeLetters_2 : decode cX1_unlikeLetters 2 = .ok (.if_icmp .ge 5, 3) := by decide +kernel
theorem dX1_unlikeLetters_5 : decode cX1_unlikeLetters 5 = .ok (.iconst 0, 1) := by decide +kernel
theorem dX1_unlikeLetters_6 : decode cX1_unlikeLetters 6 = .ok (.ireturn, 1) := by decide +kernel
theorem dX1_unlikeLetters_7 : decode cX1_unlikeLetters 7 = .ok (.iconst 0, 1) := by decide +kernel
theorem dX1_unlikeLetters_8 : decode cX1_unlikeLetters 8 = .ok (.istore_n 3, 1) := by decide +kernel
theorem dX1_unlikeLetters_9 : decode cX1_unlikeLetters 9 = .ok (.iload_n 0, 1) := by decide +kernel
theorem dX1_unlikeLetters_10 : decode cX1_unlikeLetters 10 = .ok (.istore 4, 2) := by decide +kernel
theorem dX1_unlikeLetters_12 : decode cX1_unlikeLetters 12 = .ok (.iload_n 1, 1) := by decide +kernel
theorem dX1_unlikeLetters_13 : decode cX1_unlikeLetters 13 = .ok (.istore 5, 2) := by decide +kernel
theorem dX1_unlikeLetters_15 : decode cX1_unlikeLetters 15 = .ok (.iconst 0, 1) := by decide +kernel
theorem dX1_unlikeLetters_16 : decode cX1_unlikeLetters 16 = .ok (.istore 6, 2) := by decide +kernel
theorem dX1_unlikeLetters_18 : decode cX1_unlikeLetters 18 = .ok (.iload 6, 2) := by decide +kernel
theorem dX1_unlikeLetters_20 : decode cX1_unlikeLetters 20 = .ok (.bipush 32, 2) := by decide +kernel
theorem dX1_unlikeLetters_22 : decode cX1_unlikeLetters 22 = .ok (.if_icmp .ge 42, 3) := by decide +kernel
theorem dX1_unlikeLetters_25 : decode cX1_unlikeLetters 25 = .ok (.iload 4, 2) := by decide +kernel
theorem dX1_unlikeLetters_27 : decode cX1_unlikeLetters 27 = .ok (.iload 5, 2) := by decide +kernel
theorem dX1_unlikeLetters_29 : decode cX1_unlikeLetters 29 = .ok (.if_icmp .eq 35, 3) := by decide +kernel
theorem dX1_unlikeLetters_32 : decode cX1_unlikeLetters 32 = .ok (.iload 4, 2) := by decide +kernel
theorem dX1_unlikeLetters_34 : decode cX1_unlikeLetters 34 = .ok (.iload_n 2, 1) := by decide +kernel
theorem dX1_unlikeLetters_35 : decode cX1_unlikeLetters 35 = .ok (.irem, 1) := by decide +kernel
theorem dX1_unlikeLetters_36 : decode cX1_unlikeLetters 36 = .ok (.iload 5, 2) := by decide +kernel
theorem dX1_unlikeLetters_38 : decode cX1_unlikeLetters 38 = .ok (.iload_n 2, 1) := by decide +kernel
theorem dX1_unlikeLetters_39 : decode cX1_unlikeLetters 39 = .ok (.irem, 1) := by decide +kernel
theorem dX1_unlikeLetters_40 : decode cX1_unlikeLetters 40 = .ok (.if_icmp .eq 6, 3) := by decide +kernel
theorem dX1_unlikeLetters_43 : decode cX1_unlikeLetters 43 = .ok (.iinc 3 1, 3) := by decide +kernel
theorem dX1_unlikeLetters_46 : decode cX1_unlikeLetters 46 = .ok (.iload 4, 2) := by decide +kernel
theorem dX1_unlikeLetters_48 : decode cX1_unlikeLetters 48 = .ok (.iload_n 2, 1) := by decide +kernel
theorem dX1_unlikeLetters_49 : decode cX1_unlikeLetters 49 = .ok (.idiv, 1) := by decide +kernel
theorem dX1_unlikeLetters_50 : decode cX1_unlikeLetters 50 = .ok (.istore 4, 2) := by decide +kernel
theorem dX1_unlikeLetters_52 : decode cX1_unlikeLetters 52 = .ok (.iload 5, 2) := by decide +kernel
theorem dX1_unlikeLetters_54 : decode cX1_unlikeLetters 54 = .ok (.iload_n 2, 1) := by decide +kernel
theorem dX1_unlikeLetters_55 : decode cX1_unlikeLetters 55 = .ok (.idiv, 1) := by decide +kernel
theorem dX1_unlikeLetters_56 : decode cX1_unlikeLetters 56 = .ok (.istore 5, 2) := by decide +kernel
theorem dX1_unlikeLetters_58 : decode cX1_unlikeLetters 58 = .ok (.iinc 6 1, 3) := by decide +kernel
theorem dX1_unlikeLetters_61 : decode cX1_unlikeLetters 61 = .ok (.goto (-43), 3) := by decide +kernel
theorem dX1_unlikeLetters_64 : decode cX1_unlikeLetters 64 = .ok (.iload_n 3, 1) := by decide +kernel
theorem dX1_unlikeLetters_65 : decode cX1_unlikeLetters 65 = .ok (.ireturn, 1) := by decide +kernel
theorem dX1_listSets_0 : decode cX1_listSets 0 = .ok (.lconst 1, 1) := by decide +kernel
theorem dX1_listSets_1 : decode cX1_listSets 1 = .ok (.iload_n 2, 1) := by decide +kernel
theorem dX1_listSets_2 : decode cX1_listSets 2 = .ok (.lshl, 1) := by decide +kernel
theorem dX1_listSets_3 : decode cX1_listSets 3 = .ok (.lconst 1, 1) := by decide +kernel
theorem dX1_listSets_4 : decode cX1_listSets 4 = .ok (.lsub, 1) := by decide +kernel
theorem dX1_listSets_5 : decode cX1_listSets 5 = .ok (.lstore_n 3, 1) := by decide +kernel
theorem dX1_listSets_6 : decode cX1_listSets 6 = .ok (.iconst 0, 1) := by decide +kernel
theorem dX1_listSets_7 : decode cX1_listSets 7 = .ok (.istore 5, 2) := by decide +kernel
theorem dX1_listSets_9 : decode cX1_listSets 9 = .ok (.iload 5, 2) := by decide +kernel
theorem dX1_listSets_11 : decode cX1_listSets 11 = .ok (.iload_n 1, 1) := by decide +kernel
theorem dX1_listSets_12 : decode cX1_listSets 12 = .ok (.if_icmp .ge 23, 3) := by decide +kernel
theorem dX1_listSets_15 : decode cX1_listSets 15 = .ok (.aload_n 0, 1) := by decide +kernel
theorem dX1_listSets_16 : decode cX1_listSets 16 = .ok (.getfield 9, 3) := by decide +kernel
theorem dX1_listSets_19 : decode cX1_listSets 19 = .ok (.iload 5, 2) := by decide +kernel
theorem dX1_listSets_21 : decode cX1_listSets 21 = .ok (.lload_n 3, 1) := by decide +kernel
theorem dX1_listSets_22 : decode cX1_listSets 22 = .ok (.l2i, 1) := by decide +kernel
theorem dX1_listSets_23 : decode cX1_listSets 23 = .ok (.iastore, 1) := by decide +kernel
theorem dX1_listSets_24 : decode cX1_listSets 24 = .ok (.lload_n 3, 1) := by decide +kernel
theorem dX1_listSets_25 : decode cX1_listSets 25 = .ok (.invokestatic 49, 3) := by decide +kernel
theorem dX1_listSets_28 : decode cX1_listSets 28 = .ok (.lstore_n 3, 1) := by decide +kernel
theorem dX1_listSets_29 : decode cX1_listSets 29 = .ok (.iinc 5 1, 3) := by decide +kernel
theorem dX1_listSets_32 : decode cX1_listSets 32 = .ok (.goto (-23), 3) := by decide +kernel
theorem dX1_listSets_35 : decode cX1_listSets 35 = .ok (.return_, 1) := by decide +kernel
theorem dX1_nextSet_0 : decode cX1_nextSet 0 = .ok (.lload_n 0, 1) := by decide +kernel
theorem dX1_nextSet_1 : decode cX1_nextSet 1 = .ok (.lload_n 0, 1) := by decide +kernel
theorem dX1_nextSet_2 : decode cX1_nextSet 2 = .ok (.lneg, 1) := by decide +kernel
theorem dX1_nextSet_3 : decode cX1_nextSet 3 = .ok (.land, 1) := by decide +kernel
theorem dX1_nextSet_4 : decode cX1_nextSet 4 = .ok (.lstore_n 2, 1) := by decide +kernel
theorem dX1_nextSet_5 : decode cX1_nextSet 5 = .ok (.lload_n 0, 1) := by decide +kernel
theorem dX1_nextSet_6 : decode cX1_nextSet 6 = .ok (.lload_n 2, 1) := by decide +kernel
theorem dX1_nextSet_7 : decode cX1_nextSet 7 = .ok (.ladd, 1) := by decide +kernel
theorem dX1_nextSet_8 : decode cX1_nextSet 8 = .ok (.lstore 4, 2) := by decide +kernel
theorem dX1_nextSet_10 : decode cX1_nextSet 10 = .ok (.lload 4, 2) := by decide +kernel
theorem dX1_nextSet_12 : decode cX1_nextSet 12 = .ok (.lload_n 0, 1) := by decide +kernel
theorem dX1_nextSet_13 : decode cX1_nextSet 13 = .ok (.lload 4, 2) := by decide +kernel
theorem dX1_nextSet_15 : decode cX1_nextSet 15 = .ok (.lxor, 1) := by decide +kernel
theorem dX1_nextSet_16 : decode cX1_nextSet 16 = .ok (.iconst 2, 1) := by decide +kernel
theorem dX1_nextSet_17 : decode cX1_nextSet 17 = .ok (.lload_n 2, 1) := by decide +kernel
theorem dX1_nextSet_18 : decode cX1_nextSet 18 = .ok (.lconst 1, 1) := by decide +kernel
theorem dX1_nextSet_19 : decode cX1_nextSet 19 = .ok (.lsub, 1) := by decide +kernel
theorem dX1_nextSet_20 : decode cX1_nextSet 20 = .ok (.invokestatic 53, 3) := by decide +kernel
theorem dX1_nextSet_23 : decode cX1_nextSet 23 = .ok (.iadd, 1) := by decide +kernel
theorem dX1_nextSet_24 : decode cX1_nextSet 24 = .ok (.lushr, 1) := by decide +kernel
theorem dX1_nextSet_25 : decode cX1_nextSet 25 = .ok (.lor, 1) := by decide +kernel
theorem dX1_nextSet_26 : decode cX1_nextSet 26 = .ok (.lreturn, 1) := by decide +kernel
theorem dX1_layPairs_0 : decode cX1_layPairs 0 = .ok (.iconst 0, 1) := by decide +kernel
theorem dX1_layPairs_1 : decode cX1_layPairs 1 = .ok (.istore 4, 2) := by decide +kernel
theorem dX1_layPairs_3 : decode cX1_layPairs 3 = .ok (.iload 4, 2) := by decide +kernel
theorem dX1_layPairs_5 : decode cX1_layPairs 5 = .ok (.aload_n 1, 1) := by decide +kernel
theorem dX1_layPairs_6 : decode cX1_layPairs 6 = .ok (.getfield 28, 3) := by decide +kernel
theorem dX1_layPairs_9 : decode cX1_layPairs 9 = .ok (.if_icmp .ge 55, 3) := by decide +kernel
theorem dX1_layPairs_12 : decode cX1_layPairs 12 = .ok (.iload 4, 2) := by decide +kernel
theorem dX1_layPairs_14 : decode cX1_layPairs 14 = .ok (.iconst 1, 1) := by decide +kernel
theorem dX1_layPairs_15 : decode cX1_layPairs 15 = .ok (.iadd, 1) := by decide +kernel
theorem dX1_layPairs_16 : decode cX1_layPairs 16 = .ok (.istore 5, 2) := by decide +kernel
theorem dX1_layPairs_18 : decode cX1_layPairs 18 = .ok (.iload 5, 2) := by decide +kernel
theorem dX1_layPairs_20 : decode cX1_layPairs 20 = .ok (.aload_n 1, 1) := by decide +kernel
theorem dX1_layPairs_21 : decode cX1_layPairs 21 = .ok (.getfield 28, 3) := by decide +kernel
theorem dX1_layPairs_24 : decode cX1_layPairs 24 = .ok (.if_icmp .ge 34, 3) := by decide +kernel
theorem dX1_layPairs_27 : decode cX1_layPairs 27 = .ok (.aload_n 0, 1) := by decide +kernel
theorem dX1_layPairs_28 : decode cX1_layPairs 28 = .ok (.iload_n 2, 1) := by decide +kernel
theorem dX1_layPairs_29 : decode cX1_layPairs 29 = .ok (.iload 4, 2) := by decide +kernel
theorem dX1_layPairs_31 : decode cX1_layPairs 31 = .ok (.iload 5, 2) := by decide +kernel
theorem dX1_layPairs_33 : decode cX1_layPairs 33 = .ok (.iload_n 3, 1) := by decide +kernel
theorem dX1_layPairs_34 : decode cX1_layPairs 34 = .ok (.aload_n 1, 1) := by decide +kernel
theorem dX1_layPairs_35 : decode cX1_layPairs 35 = .ok (.getfield 28, 3) := by decide +kernel
theorem dX1_layPairs_38 : decode cX1_layPairs 38 = .ok (.invokevirtual 59, 3) := by decide +kernel
theorem dX1_layPairs_41 : decode cX1_layPairs 41 = .ok (.ifCond .eq 11, 3) := by decide +kernel
theorem dX1_layPairs_44 : decode cX1_layPairs 44 = .ok (.aload_n 1, 1) := by decide +kernel
theorem dX1_layPairs_45 : decode cX1_layPairs 45 = .ok (.iload 4, 2) := by decide +kernel
theorem dX1_layPairs_47 : decode cX1_layPairs 47 = .ok (.iload 5, 2) := by decide +kernel
theorem dX1_layPairs_49 : decode cX1_layPairs 49 = .ok (.invokevirtual 46, 3) := by decide +kernel
theorem dX1_layPairs_52 : decode cX1_layPairs 52 = .ok (.iinc 5 1, 3) := by decide +kernel
theorem dX1_layPairs_55 : decode cX1_layPairs 55 = .ok (.goto (-37), 3) := by decide +kernel
theorem dX1_layPairs_58 : decode cX1_layPairs 58 = .ok (.iinc 4 1, 3) := by decide +kernel
theorem dX1_layPairs_61 : decode cX1_layPairs 61 = .ok (.goto (-58), 3) := by decide +kernel
theorem dX1_layPairs_64 : decode cX1_layPairs 64 = .ok (.return_, 1) := by decide +kernel
theorem dX1_isRoad_0 : decode cX1_isRoad 0 = .ok (.iload_n 1, 1) := by decide +kernel
theorem dX1_isRoad_1 : decode cX1_isRoad 1 = .ok (.tableswitch 135 0 5 #[39, 64, 135, 66, 95, 117], 39) := by decide +kernel
theorem dX1_isRoad_40 : decode cX1_isRoad 40 = .ok (.iload_n 3, 1) := by decide +kernel
theorem dX1_isRoad_41 : decode cX1_isRoad 41 = .ok (.iload_n 2, 1) := by decide +kernel
theorem dX1_isRoad_42 : decode cX1_isRoad 42 = .ok (.iconst 1, 1) := by decide +kernel
theorem dX1_isRoad_43 : decode cX1_isRoad 43 = .ok (.iadd, 1) := by decide +kernel
theorem dX1_isRoad_44 : decode cX1_isRoad 44 = .ok (.if_icmp .eq 15, 3) := by decide +kernel
theorem dX1_isRoad_47 : decode cX1_isRoad 47 = .ok (.iload_n 2, 1) := by decide +kernel
theorem dX1_isRoad_48 : decode cX1_isRoad 48 = .ok (.ifCond .ne 15, 3) := by decide +kernel
theorem dX1_isRoad_51 : decode cX1_isRoad 51 = .ok (.iload_n 3, 1) := by decide +kernel
theorem dX1_isRoad_52 : decode cX1_isRoad 52 = .ok (.iload 5, 2) := by decide +kernel
theorem dX1_isRoad_54 : decode cX1_isRoad 54 = .ok (.iconst 1, 1) := by decide +kernel
theorem dX1_isRoad_55 : decode cX1_isRoad 55 = .ok (.isub, 1) := by decide +kernel
theorem dX1_isRoad_56 : decode cX1_isRoad 56 = .ok (.if_icmp .ne 7, 3) := by decide +kernel
theorem dX1_isRoad_59 : decode cX1_isRoad 59 = .ok (.iconst 1, 1) := by decide +kernel
theorem dX1_isRoad_60 : decode cX1_isRoad 60 = .ok (.goto 4, 3) := by decide +kernel
theorem dX1_isRoad_63 : decode cX1_isRoad 63 = .ok (.iconst 0, 1) := by decide +kernel
theorem dX1_isRoad_64 : decode cX1_isRoad 64 = .ok (.ireturn, 1) := by decide +kernel
theorem dX1_isRoad_65 : decode cX1_isRoad 65 = .ok (.iconst 1, 1) := by decide +kernel
theorem dX1_isRoad_66 : decode cX1_isRoad 66 = .ok (.ireturn, 1) := by decide +kernel
theorem dX1_isRoad_67 : decode cX1_isRoad 67 = .ok (.aload_n 0, 1) := by decide +kernel
theorem dX1_isRoad_68 : decode cX1_isRoad 68 = .ok (.getfield 9, 3) := by decide +kernel
theorem dX1_isRoad_71 : decode cX1_isRoad 71 = .ok (.iload_n 2, 1) := by decide +kernel
theorem dX1_isRoad_72 : decode cX1_isRoad 72 = .ok (.iaload, 1) := by decide +kernel
theorem dX1_isRoad_73 : decode cX1_isRoad 73 = .ok (.aload_n 0, 1) := by decide +kernel
theorem dX1_isRoad_74 : decode cX1_isRoad 74 = .ok (.getfield 9, 3) := by decide +kernel
theorem dX1_isRoad_77 : decode cX1_isRoad 77 = .ok (.iload_n 3, 1) := by decide +kernel
theorem dX1_isRoad_78 : decode cX1_isRoad 78 = .ok (.iaload, 1) := by decide +kernel
theorem dX1_isRoad_79 : decode cX1_isRoad 79 = .ok (.iand, 1) := by decide +kernel
theorem dX1_isRoad_80 : decode cX1_isRoad 80 = .ok (.invokestatic 63, 3) := by decide +kernel
theorem dX1_isRoad_83 : decode cX1_isRoad 83 = .ok (.iload 4, 2) := by decide +kernel
theorem dX1_isRoad_85 : decode cX1_isRoad 85 = .ok (.iconst 1, 1) := by decide +kernel
theorem dX1_isRoad_86 : decode cX1_isRoad 86 = .ok (.isub, 1) := by decide +kernel
theorem dX1_isRoad_87 : decode cX1_isRoad 87 = .ok (.if_icmp .ne 7, 3) := by decide +kernel
theorem dX1_isRoad_90 : decode cX1_isRoad 90 = .ok (.iconst 1, 1) := by decide +kernel
theorem dX1_isRoad_91 : decode cX1_isRoad 91 = .ok (.goto 4, 3) := by decide +kernel
theorem dX1_isRoad_94 : decode cX1_isRoad 94 = .ok (.iconst 0, 1) := by decide +kernel
theorem dX1_isRoad_95 : decode cX1_isRoad 95 = .ok (.ireturn, 1) := by decide +kernel
theorem dX1_isRoad_96 : decode cX1_isRoad 96 = .ok (.aload_n 0, 1) := by decide +kernel
theorem dX1_isRoad_97 : decode cX1_isRoad 97 = .ok (.getfield 9, 3) := by decide +kernel
theorem dX1_isRoad_100 : decode cX1_isRoad 100 = .ok (.iload_n 2, 1) := by decide +kernel
theorem dX1_isRoad_101 : decode cX1_isRoad 101 = .ok (.iaload, 1) := by decide +kernel
theorem dX1_isRoad_102 : decode cX1_isRoad 102 = .ok (.aload_n 0, 1) := by decide +kernel
theorem dX1_isRoad_103 : decode cX1_isRoad 103 = .ok (.getfield 9, 3) := by decide +kernel
theorem dX1_isRoad_106 : decode cX1_isRoad 106 = .ok (.iload_n 3, 1) := by decide +kernel
theorem dX1_isRoad_107 : decode cX1_isRoad 107 = .ok (.iaload, 1) := by decide +kernel
theorem dX1_isRoad_108 : decode cX1_isRoad 108 = .ok (.iand, 1) := by decide +kernel
theorem dX1_isRoad_109 : decode cX1_isRoad 109 = .ok (.ifCond .ne 7, 3) := by decide +kernel
theorem dX1_isRoad_112 : decode cX1_isRoad 112 = .ok (.iconst 1, 1) := by decide +kernel
theorem dX1_isRoad_113 : decode cX1_isRoad 113 = .ok (.goto 4, 3) := by decide +kernel
theorem dX1_isRoad_116 : decode cX1_isRoad 116 = .ok (.iconst 0, 1) := by decide +kernel
theorem dX1_isRoad_117 : decode cX1_isRoad 117 = .ok (.ireturn, 1) := by decide +kernel
theorem dX1_isRoad_118 : decode cX1_isRoad 118 = .ok (.iload_n 2, 1) := by decide +kernel
theorem dX1_isRoad_119 : decode cX1_isRoad 119 = .ok (.iload 4, 2) := by decide +kernel
theorem dX1_isRoad_121 : decode cX1_isRoad 121 = .ok (.if_icmp .ge 13, 3) := by decide +kernel
theorem dX1_isRoad_124 : decode cX1_isRoad 124 = .ok (.iload_n 3, 1) := by decide +kernel
theorem dX1_isRoad_125 : decode cX1_isRoad 125 = .ok (.iload 4, 2) := by decide +kernel
theorem dX1_isRoad_127 : decode cX1_isRoad 127 = .ok (.if_icmp .lt 7, 3) := by decide +kernel
theorem dX1_isRoad_130 : decode cX1_isRoad 130 = .ok (.iconst 1, 1) := by decide +kernel
theorem dX1_isRoad_131 : decode cX1_isRoad 131 = .ok (.goto 4, 3) := by decide +kernel
theorem dX1_isRoad_134 : decode cX1_isRoad 134 = .ok (.iconst 0, 1) := by decide +kernel
theorem dX1_isRoad_135 : decode cX1_isRoad 135 = .ok (.ireturn, 1) := by decide +kernel
theorem dX1_isRoad_136 : decode cX1_isRoad 136 = .ok (.iconst 0, 1) := by decide +kernel
theorem dX1_isRoad_137 : decode cX1_isRoad 137 = .ok (.ireturn, 1) := by decide +kernel
theorem dX2_init_0 : decode cX2_init 0 = .ok (.aload_n 0, 1) := by decide +kernel
theorem dX2_init_1 : decode cX2_init 1 = .ok (.invokespecial 3, 3) := by decide +kernel
theorem dX2_init_4 : decode cX2_init 4 = .ok (.aload_n 0, 1) := by decide +kernel
theorem dX2_init_5 : decode cX2_init 5 = .ok (.bipush 32, 2) := by decide +kernel
theorem dX2_init_7 : decode cX2_init 7 = .ok (.newarray .int, 2) := by decide +kernel
theorem dX2_init_9 : decode cX2_init 9 = .ok (.putfield 9, 3) := by decide +kernel
theorem dX2_init_12 : decode cX2_init 12 = .ok (.return_, 1) := by decide +kernel
theorem dX2_empty_0 : decode cX2_empty 0 = .ok (.aload_n 0, 1) := by decide +kernel
theorem dX2_empty_1 : decode cX2_empty 1 = .ok (.iload_n 1, 1) := by decide +kernel
theorem dX2_empty_2 : decode cX2_empty 2 = .ok (.putfield 15, 3) := by decide +kernel
theorem dX2_empty_5 : decode cX2_empty 5 = .ok (.aload_n 0, 1) := by decide +kernel
theorem dX2_empty_6 : decode cX2_empty 6 = .ok (.getfield 9, 3) := by decide +kernel
theorem dX2_empty_9 : decode cX2_empty 9 = .ok (.iconst 0, 1) := by decide +kernel
theorem dX2_empty_10 : decode cX2_empty 10 = .ok (.invokestatic 19, 3) := by decide +kernel
theorem dX2_empty_13 : decode cX2_empty 13 = .ok (.return_, 1) := by decide +kernel
theorem dX2_copyFrom_0 : decode cX2_copyFrom 0 = .ok (.aload_n 0, 1) := by decide +kernel
theorem dX2_copyFrom_1 : decode cX2_copyFrom 1 = .ok (.aload_n 1, 1) := by decide +kernel
theorem dX2_copyFrom_2 : decode cX2_copyFrom 2 = .ok (.getfield 15, 3) := by decide +kernel
theorem dX2_copyFrom_5 : decode cX2_copyFrom 5 = .ok (.putfield 15, 3) := by decide +kernel
theorem dX2_copyFrom_8 : decode cX2_copyFrom 8 = .ok (.aload_n 1, 1) := by decide +kernel
theorem dX2_copyFrom_9 : decode cX2_copyFrom 9 = .ok (.getfield 9, 3) := by decide +kernel
theorem dX2_copyFrom_12 : decode cX2_copyFrom 12 = .ok (.iconst 0, 1) := by decide +kernel
theorem dX2_copyFrom_13 : decode cX2_copyFrom 13 = .ok (.aload_n 0, 1) := by decide +kernel
theorem dX2_copyFrom_14 : decode cX2_copyFrom 14 = .ok (.getfield 9, 3) := by decide +kernel
theorem dX2_copyFrom_17 : decode cX2_copyFrom 17 = .ok (.iconst 0, 1) := by decide +kernel
theorem dX2_copyFrom_18 : decode cX2_copyFrom 18 = .ok (.bipush 32, 2) := by decide +kernel
theorem dX2_copyFrom_20 : decode cX2_copyFrom 20 = .ok (.invokestatic 25, 3) := by decide +kernel
theorem dX2_copyFrom_23 : decode cX2_copyFrom 23 = .ok (.return_, 1) := by decide +kernel
theorem dX2_has_0 : decode cX2_has 0 = .ok (.iload_n 1, 1) := by decide +kernel
theorem dX2_has_1 : decode cX2_has 1 = .ok (.ifCond .lt 15, 3) := by decide +kernel
theorem dX2_has_4 : decode cX2_has 4 = .ok (.iload_n 1, 1) := by decide +kernel
theorem dX2_has_5 : decode cX2_has 5 = .ok (.aload_n 0, 1) := by decide +kernel
theorem dX2_has_6 : decode cX2_has 6 = .ok (.getfield 15, 3) := by decide +kernel
theorem dX2_has_9 : decode cX2_has 9 = .ok (.if_icmp .ge 7, 3) := by decide +kernel
theorem dX2_has_12 : decode cX2_has 12 = .ok (.iconst 1, 1) := by decide +kernel
theorem dX2_has_13 : decode cX2_has 13 = .ok (.goto 4, 3) := by decide +kernel
theorem dX2_has_16 : decode cX2_has 16 = .ok (.iconst 0, 1) := by decide +kernel
theorem dX2_has_17 : decode cX2_has 17 = .ok (.ireturn, 1) := by decide +kernel
theorem dX2_mayJoin_0 : decode cX2_mayJoin 0 = .ok (.aload_n 0, 1) := by decide +kernel
theorem dX2_mayJoin_1 : decode cX2_mayJoin 1 = .ok (.iload_n 1, 1) := by decide +kernel
theorem dX2_mayJoin_2 : decode cX2_mayJoin 2 = .ok (.invokevirtual 31, 3) := by decide +kernel
theorem dX2_mayJoin_5 : decode cX2_mayJoin 5 = .ok (.ifCond .eq 20, 3) := by decide +kernel
theorem dX2_mayJoin_8 : decode cX2_mayJoin 8 = .ok (.aload_n 0, 1) := by decide +kernel
theorem dX2_mayJoin_9 : decode cX2_mayJoin 9 = .ok (.iload_n 2, 1) := by decide +kernel
theorem dX2_mayJoin_10 : decode cX2_mayJoin 10 = .ok (.invokevirtual 31, 3) := by decide +kernel
theorem dX2_mayJoin_13 : decode cX2_mayJoin 13 = .ok (.ifCond .eq 12, 3) := by decide +kernel
theorem dX2_mayJoin_16 : decode cX2_mayJoin 16 = .ok (.iload_n 1, 1) := by decide +kernel
theorem dX2_mayJoin_17 : decode cX2_mayJoin 17 = .ok (.iload_n 2, 1) := by decide +kernel
theorem dX2_mayJoin_18 : decode cX2_mayJoin 18 = .ok (.if_icmp .eq 7, 3) := by decide +kernel
theorem dX2_mayJoin_21 : decode cX2_mayJoin 21 = .ok (.iconst 1, 1) := by decide +kernel
theorem dX2_mayJoin_22 : decode cX2_mayJoin 22 = .ok (.goto 4, 3) := by decide +kernel
theorem dX2_mayJoin_25 : decode cX2_mayJoin 25 = .ok (.iconst 0, 1) := by decide +kernel
theorem dX2_mayJoin_26 : decode cX2_mayJoin 26 = .ok (.ireturn, 1) := by decide +kernel
theorem dX2_areJoined_0 : decode cX2_areJoined 0 = .ok (.aload_n 0, 1) := by decide +kernel
theorem dX2_areJoined_1 : decode cX2_areJoined 1 = .ok (.iload_n 1, 1) := by decide +kernel
theorem dX2_areJoined_2 : decode cX2_areJoined 2 = .ok (.invokevirtual 31, 3) := by decide +kernel
theorem dX2_areJoined_5 : decode cX2_areJoined 5 = .ok (.ifCond .eq 28, 3) := by decide +kernel
theorem dX2_areJoined_8 : decode cX2_areJoined 8 = .ok (.aload_n 0, 1) := by decide +kernel
theorem dX2_areJoined_9 : decode cX2_areJoined 9 = .ok (.iload_n 2, 1) := by decide +kernel
theorem dX2_areJoined_10 : decode cX2_areJoined 10 = .ok (.invokevirtual 31, 3) := by decide +kernel
theorem dX2_areJoined_13 : decode cX2_areJoined 13 = .ok (.ifCond .eq 20, 3) := by decide +kernel
theorem dX2_areJoined_16 : decode cX2_areJoined 16 = .ok (.aload_n 0, 1) := by decide +kernel
theorem dX2_areJoined_17 : decode cX2_areJoined 17 = .ok (.getfield 9, 3) := by decide +kernel
theorem dX2_areJoined_20 : decode cX2_areJoined 20 = .ok (.iload_n 1, 1) := by decide +kernel
theorem dX2_areJoined_21 : decode cX2_areJoined 21 = .ok (.iaload, 1) := by decide +kernel
theorem dX2_areJoined_22 : decode cX2_areJoined 22 = .ok (.iload_n 2, 1) := by decide +kernel
theorem dX2_areJoined_23 : decode cX2_areJoined 23 = .ok (.invokestatic 35, 3) := by decide +kernel
theorem dX2_areJoined_26 : decode cX2_areJoined 26 = .ok (.ifCond .eq 7, 3) := by decide +kernel
theorem dX2_areJoined_29 : decode cX2_areJoined 29 = .ok (.iconst 1, 1) := by decide +kernel
theorem dX2_areJoined_30 : decode cX2_areJoined 30 = .ok (.goto 4, 3) := by decide +kernel
theorem dX2_areJoined_33 : decode cX2_areJoined 33 = .ok (.iconst 0, 1) := by decide +kernel
theorem dX2_areJoined_34 : decode cX2_areJoined 34 = .ok (.ireturn, 1) := by decide +kernel
theorem dX2_join_0 : decode cX2_join 0 = .ok (.aload_n 0, 1) := by decide +kernel
theorem dX2_join_1 : decode cX2_join 1 = .ok (.iload_n 1, 1) := by decide +kernel
theorem dX2_join_2 : decode cX2_join 2 = .ok (.iload_n 2, 1) := by decide +kernel
theorem dX2_join_3 : decode cX2_join 3 = .ok (.invokevirtual 39, 3) := by decide +kernel
theorem dX2_join_6 : decode cX2_join 6 = .ok (.ifCond .eq 27, 3) := by decide +kernel
theorem dX2_join_9 : decode cX2_join 9 = .ok (.aload_n 0, 1) := by decide +kernel
theorem dX2_join_10 : decode cX2_join 10 = .ok (.getfield 9, 3) := by decide +kernel
theorem dX2_join_13 : decode cX2_join 13 = .ok (.iload_n 1, 1) := by decide +kernel
theorem dX2_join_14 : decode cX2_join 14 = .ok (.dup2, 1) := by decide +kernel
theorem dX2_join_15 : decode cX2_join 15 = .ok (.iaload, 1) := by decide +kernel
theorem dX2_join_16 : decode cX2_join 16 = .ok (.iconst 1, 1) := by decide +kernel
theorem dX2_join_17 : decode cX2_join 17 = .ok (.iload_n 2, 1) := by decide +kernel
theorem dX2_join_18 : decode cX2_join 18 = .ok (.ishl, 1) := by decide +kernel
theorem dX2_join_19 : decode cX2_join 19 = .ok (.ior, 1) := by decide +kernel
theorem dX2_join_20 : decode cX2_join 20 = .ok (.iastore, 1) := by decide +kernel
theorem dX2_join_21 : decode cX2_join 21 = .ok (.aload_n 0, 1) := by decide +kernel
theorem dX2_join_22 : decode cX2_join 22 = .ok (.getfield 9, 3) := by decide +kernel
theorem dX2_join_25 : decode cX2_join 25 = .ok (.iload_n 2, 1) := by decide +kernel
theorem dX2_join_26 : decode cX2_join 26 = .ok (.dup2, 1) := by decide +kernel
theorem dX2_join_27 : decode cX2_join 27 = .ok (.iaload, 1) := by decide +kernel
theorem dX2_join_28 : decode cX2_join 28 = .ok (.iconst 1, 1) := by decide +kernel
theorem dX2_join_29 : decode cX2_join 29 = .ok (.iload_n 1, 1) := by decide +kernel
theorem dX2_join_30 : decode cX2_join 30 = .ok (.ishl, 1) := by decide +kernel
theorem dX2_join_31 : decode cX2_join 31 = .ok (.ior, 1) := by decide +kernel
theorem dX2_join_32 : decode cX2_join 32 = .ok (.iastore, 1) := by decide +kernel
theorem dX2_join_33 : decode cX2_join 33 = .ok (.return_, 1) := by decide +kernel
theorem dX2_part_0 : decode cX2_part 0 = .ok (.aload_n 0, 1) := by decide +kernel
theorem dX2_part_1 : decode cX2_part 1 = .ok (.iload_n 1, 1) := by decide +kernel
theorem dX2_part_2 : decode cX2_part 2 = .ok (.iload_n 2, 1) := by decide +kernel
theorem dX2_part_3 : decode cX2_part 3 = .ok (.invokevirtual 39, 3) := by decide +kernel
theorem dX2_part_6 : decode cX2_part 6 = .ok (.ifCond .eq 31, 3) := by decide +kernel
theorem dX2_part_9 : decode cX2_part 9 = .ok (.aload_n 0, 1) := by decide +kernel
theorem dX2_part_10 : decode cX2_part 10 = .ok (.getfield 9, 3) := by decide +kernel
theorem dX2_part_13 : decode cX2_part 13 = .ok (.iload_n 1, 1) := by decide +kernel
theorem dX2_part_14 : decode cX2_part 14 = .ok (.dup2, 1) := by decide +kernel
theorem dX2_part_15 : decode cX2_part 15 = .ok (.iaload, 1) := by decide +kernel
theorem dX2_part_16 : decode cX2_part 16 = .ok (.iconst 1, 1) := by decide +kernel
theorem dX2_part_17 : decode cX2_part 17 = .ok (.iload_n 2, 1) := by decide +kernel
theorem dX2_part_18 : decode cX2_part 18 = .ok (.ishl, 1) := by decide +kernel
theorem dX2_part_19 : decode cX2_part 19 = .ok (.iconst (-1), 1) := by decide +kernel
theorem dX2_part_20 : decode cX2_part 20 = .ok (.ixor, 1) := by decide +kernel
theorem dX2_part_21 : decode cX2_part 21 = .ok (.iand, 1) := by decide +kernel
theorem dX2_part_22 : decode cX2_part 22 = .ok (.iastore, 1) := by decide +kernel
theorem dX2_part_23 : decode cX2_part 23 = .ok (.aload_n 0, 1) := by decide +kernel
theorem dX2_part_24 : decode cX2_part 24 = .ok (.getfield 9, 3) := by decide +kernel
theorem dX2_part_27 : decode cX2_part 27 = .ok (.iload_n 2, 1) := by decide +kernel
theorem dX2_part_28 : decode cX2_part 28 = .ok (.dup2, 1) := by decide +kernel
theorem dX2_part_29 : decode cX2_part 29 = .ok (.iaload, 1) := by decide +kernel
theorem dX2_part_30 : decode cX2_part 30 = .ok (.iconst 1, 1) := by decide +kernel
theorem dX2_part_31 : decode cX2_part 31 = .ok (.iload_n 1, 1) := by decide +kernel
theorem dX2_part_32 : decode cX2_part 32 = .ok (.ishl, 1) := by decide +kernel
theorem dX2_part_33 : decode cX2_part 33 = .ok (.iconst (-1), 1) := by decide +kernel
theorem dX2_part_34 : decode cX2_part 34 = .ok (.ixor, 1) := by decide +kernel
theorem dX2_part_35 : decode cX2_part 35 = .ok (.iand, 1) := by decide +kernel
theorem dX2_part_36 : decode cX2_part 36 = .ok (.iastore, 1) := by decide +kernel
theorem dX2_part_37 : decode cX2_part 37 = .ok (.return_, 1) := by decide +kernel
theorem dX2_fullness_0 : decode cX2_fullness 0 = .ok (.aload_n 0, 1) := by decide +kernel
theorem dX2_fullness_1 : decode cX2_fullness 1 = .ok (.getfield 9, 3) := by decide +kernel
theorem dX2_fullness_4 : decode cX2_fullness 4 = .ok (.iload_n 1, 1) := by decide +kernel
theorem dX2_fullness_5 : decode cX2_fullness 5 = .ok (.iaload, 1) := by decide +kernel
theorem dX2_fullness_6 : decode cX2_fullness 6 = .ok (.invokestatic 42, 3) := by decide +kernel
theorem dX2_fullness_9 : decode cX2_fullness 9 = .ok (.ireturn, 1) := by decide +kernel
theorem dX2_roads_0 : decode cX2_roads 0 = .ok (.iconst 0, 1) := by decide +kernel
theorem dX2_roads_1 : decode cX2_roads 1 = .ok (.istore_n 1, 1) := by decide +kernel
theorem dX2_roads_2 : decode cX2_roads 2 = .ok (.iconst 0, 1) := by decide +kernel
theorem dX2_roads_3 : decode cX2_roads 3 = .ok (.istore_n 2, 1) := by decide +kernel
theorem dX2_roads_4 : decode cX2_roads 4 = .ok (.iload_n 2, 1) := by decide +kernel
theorem dX2_roads_5 : decode cX2_roads 5 = .ok (.aload_n 0, 1) := by decide +kernel
theorem dX2_roads_6 : decode cX2_roads 6 = .ok (.getfield 15, 3) := by decide +kernel
theorem dX2_roads_9 : decode cX2_roads 9 = .ok (.if_icmp .ge 17, 3) := by decide +kernel
theorem dX2_roads_12 : decode cX2_roads 12 = .ok (.iload_n 1, 1) := by decide +kernel
theorem dX2_roads_13 : decode cX2_roads 13 = .ok (.aload_n 0, 1) := by decide +kernel
theorem dX2_roads_14 : decode cX2_roads 14 = .ok (.iload_n 2, 1) := by decide +kernel
theorem dX2_roads_15 : decode cX2_roads 15 = .ok (.invokevirtual 48, 3) := by decide +kernel
theorem dX2_roads_18 : decode cX2_roads 18 = .ok (.iadd, 1) := by decide +kernel
theorem dX2_roads_19 : decode cX2_roads 19 = .ok (.istore_n 1, 1) := by decide +kernel
theorem dX2_roads_20 : decode cX2_roads 20 = .ok (.iinc 2 1, 3) := by decide +kernel
theorem dX2_roads_23 : decode cX2_roads 23 = .ok (.goto (-19), 3) := by decide +kernel
theorem dX2_roads_26 : decode cX2_roads 26 = .ok (.iload_n 1, 1) := by decide +kernel
theorem dX2_roads_27 : decode cX2_roads 27 = .ok (.iconst 2, 1) := by decide +kernel
theorem dX2_roads_28 : decode cX2_roads 28 = .ok (.idiv, 1) := by decide +kernel
theorem dX2_roads_29 : decode cX2_roads 29 = .ok (.ireturn, 1) := by decide +kernel
theorem dX2_isEven_0 : decode cX2_isEven 0 = .ok (.iconst 1, 1) := by decide +kernel
theorem dX2_isEven_1 : decode cX2_isEven 1 = .ok (.istore_n 1, 1) := by decide +kernel
theorem dX2_isEven_2 : decode cX2_isEven 2 = .ok (.iload_n 1, 1) := by decide +kernel
theorem dX2_isEven_3 : decode cX2_isEven 3 = .ok (.aload_n 0, 1) := by decide +kernel
theorem dX2_isEven_4 : decode cX2_isEven 4 = .ok (.getfield 15, 3) := by decide +kernel
theorem dX2_isEven_7 : decode cX2_isEven 7 = .ok (.if_icmp .ge 24, 3) := by decide +kernel
theorem dX2_isEven_10 : decode cX2_isEven 10 = .ok (.aload_n 0, 1) := by decide +kernel
theorem dX2_isEven_11 : decode cX2_isEven 11 = .ok (.iload_n 1, 1) := by decide +kernel
theorem dX2_isEven_12 : decode cX2_isEven 12 = .ok (.invokevirtual 48, 3) := by decide +kernel
theorem dX2_isEven_15 : decode cX2_isEven 15 = .ok (.aload_n 0, 1) := by decide +kernel
theorem dX2_isEven_16 : decode cX2_isEven 16 = .ok (.iconst 0, 1) := by decide +kernel
theorem dX2_isEven_17 : decode cX2_isEven 17 = .ok (.invokevirtual 48, 3) := by decide +kernel
theorem dX2_isEven_20 : decode cX2_isEven 20 = .ok (.if_icmp .eq 5, 3) := by decide +kernel
theorem dX2_isEven_23 : decode cX2_isEven 23 = .ok (.iconst 0, 1) := by decide +kernel
theorem dX2_isEven_24 : decode cX2_isEven 24 = .ok (.ireturn, 1) := by decide +kernel
theorem dX2_isEven_25 : decode cX2_isEven 25 = .ok (.iinc 1 1, 3) := by decide +kernel
theorem dX2_isEven_28 : decode cX2_isEven 28 = .ok (.goto (-26), 3) := by decide +kernel
theorem dX2_isEven_31 : decode cX2_isEven 31 = .ok (.iconst 1, 1) := by decide +kernel
theorem dX2_isEven_32 : decode cX2_isEven 32 = .ok (.ireturn, 1) := by decide +kernel
theorem dX2_around_0 : decode cX2_around 0 = .ok (.iconst 0, 1) := by decide +kernel
theorem dX2_around_1 : decode cX2_around 1 = .ok (.istore_n 2, 1) := by decide +kernel
theorem dX2_around_2 : decode cX2_around 2 = .ok (.iconst 0, 1) := by decide +kernel
theorem dX2_around_3 : decode cX2_around 3 = .ok (.istore_n 3, 1) := by decide +kernel
theorem dX2_around_4 : decode cX2_around 4 = .ok (.iload_n 3, 1) := by decide +kernel
theorem dX2_around_5 : decode cX2_around 5 = .ok (.aload_n 0, 1) := by decide +kernel
theorem dX2_around_6 : decode cX2_around 6 = .ok (.getfield 15, 3) := by decide +kernel
theorem dX2_around_9 : decode cX2_around 9 = .ok (.if_icmp .ge 26, 3) := by decide +kernel
theorem dX2_around_12 : decode cX2_around 12 = .ok (.iload_n 1, 1) := by decide +kernel
theorem dX2_around_13 : decode cX2_around 13 = .ok (.iload_n 3, 1) := by decide +kernel
theorem dX2_around_14 : decode cX2_around 14 = .ok (.invokestatic 35, 3) := by decide +kernel
theorem dX2_around_17 : decode cX2_around 17 = .ok (.ifCond .eq 12, 3) := by decide +kernel
theorem dX2_around_20 : decode cX2_around 20 = .ok (.iload_n 2, 1) := by decide +kernel
theorem dX2_around_21 : decode cX2_around 21 = .ok (.aload_n 0, 1) := by decide +kernel
theorem dX2_around_22 : decode cX2_around 22 = .ok (.getfield 9, 3) := by decide +kernel
theorem dX2_around_25 : decode cX2_around 25 = .ok (.iload_n 3, 1) := by decide +kernel
theorem dX2_around_26 : decode cX2_around 26 = .ok (.iaload, 1) := by decide +kernel
theorem dX2_around_27 : decode cX2_around 27 = .ok (.ior, 1) := by decide +kernel
theorem dX2_around_28 : decode cX2_around 28 = .ok (.istore_n 2, 1) := by decide +kernel
theorem dX2_around_29 : decode cX2_around 29 = .ok (.iinc 3 1, 3) := by decide +kernel
theorem dX2_around_32 : decode cX2_around 32 = .ok (.goto (-28), 3) := by decide +kernel
theorem dX2_around_35 : decode cX2_around 35 = .ok (.iload_n 2, 1) := by decide +kernel
theorem dX2_around_36 : decode cX2_around 36 = .ok (.ireturn, 1) := by decide +kernel
theorem dX3_init_0 : decode cX3_init 0 = .ok (.aload_n 0, 1) := by decide +kernel
theorem dX3_init_1 : decode cX3_init 1 = .ok (.invokespecial 3, 3) := by decide +kernel
theorem dX3_init_4 : decode cX3_init 4 = .ok (.aload_n 0, 1) := by decide +kernel
theorem dX3_init_5 : decode cX3_init 5 = .ok (.sipush 1024, 3) := by decide +kernel
theorem dX3_init_8 : decode cX3_init 8 = .ok (.newarray .int, 2) := by decide +kernel
theorem dX3_init_10 : decode cX3_init 10 = .ok (.putfield 9, 3) := by decide +kernel
theorem dX3_init_13 : decode cX3_init 13 = .ok (.aload_n 0, 1) := by decide +kernel
theorem dX3_init_14 : decode cX3_init 14 = .ok (.sipush 1024, 3) := by decide +kernel
theorem dX3_init_17 : decode cX3_init 17 = .ok (.newarray .int, 2) := by decide +kernel
theorem dX3_init_19 : decode cX3_init 19 = .ok (.putfield 15, 3) := by decide +kernel
theorem dX3_init_22 : decode cX3_init 22 = .ok (.aload_n 0, 1) := by decide +kernel
theorem dX3_init_23 : decode cX3_init 23 = .ok (.sipush 1024, 3) := by decide +kernel
theorem dX3_init_26 : decode cX3_init 26 = .ok (.newarray .int, 2) := by decide +kernel
theorem dX3_init_28 : decode cX3_init 28 = .ok (.putfield 18, 3) := by decide +kernel
theorem dX3_init_31 : decode cX3_init 31 = .ok (.aload_n 0, 1) := by decide +kernel
theorem dX3_init_32 : decode cX3_init 32 = .ok (.sipush 1024, 3) := by decide +kernel
theorem dX3_init_35 : decode cX3_init 35 = .ok (.newarray .int, 2) := by decide +kernel
theorem dX3_init_37 : decode cX3_init 37 = .ok (.putfield 21, 3) := by decide +kernel
theorem dX3_init_40 : decode cX3_init 40 = .ok (.aload_n 0, 1) := by decide +kernel
theorem dX3_init_41 : decode cX3_init 41 = .ok (.sipush 1024, 3) := by decide +kernel
theorem dX3_init_44 : decode cX3_init 44 = .ok (.newarray .int, 2) := by decide +kernel
theorem dX3_init_46 : decode cX3_init 46 = .ok (.putfield 24, 3) := by decide +kernel
theorem dX3_init_49 : decode cX3_init 49 = .ok (.aload_n 0, 1) := by decide +kernel
theorem dX3_init_50 : decode cX3_init 50 = .ok (.sipush 1024, 3) := by decide +kernel
theorem dX3_init_53 : decode cX3_init 53 = .ok (.newarray .long, 2) := by decide +kernel
theorem dX3_init_55 : decode cX3_init 55 = .ok (.putfield 27, 3) := by decide +kernel
theorem dX3_init_58 : decode cX3_init 58 = .ok (.aload_n 0, 1) := by decide +kernel
theorem dX3_init_59 : decode cX3_init 59 = .ok (.bipush 32, 2) := by decide +kernel
theorem dX3_init_61 : decode cX3_init 61 = .ok (.newarray .int, 2) := by decide +kernel
theorem dX3_init_63 : decode cX3_init 63 = .ok (.putfield 31, 3) := by decide +kernel
theorem dX3_init_66 : decode cX3_init 66 = .ok (.aload_n 0, 1) := by decide +kernel
theorem dX3_init_67 : decode cX3_init 67 = .ok (.bipush 32, 2) := by decide +kernel
theorem dX3_init_69 : decode cX3_init 69 = .ok (.newarray .int, 2) := by decide +kernel
theorem dX3_init_71 : decode cX3_init 71 = .ok (.putfield 34, 3) := by decide +kernel
theorem dX3_init_74 : decode cX3_init 74 = .ok (.return_, 1) := by decide +kernel
theorem dX3_of_0 : decode cX3_of 0 = .ok (.aload_n 0, 1) := by decide +kernel
theorem dX3_of_1 : decode cX3_of 1 = .ok (.getfield 9, 3) := by decide +kernel
theorem dX3_of_4 : decode cX3_of 4 = .ok (.iload_n 1, 1) := by decide +kernel
theorem dX3_of_5 : decode cX3_of 5 = .ok (.bipush 32, 2) := by decide +kernel
theorem dX3_of_7 : decode cX3_of 7 = .ok (.imul, 1) := by decide +kernel
theorem dX3_of_8 : decode cX3_of 8 = .ok (.iload_n 2, 1) := by decide +kernel
theorem dX3_of_9 : decode cX3_of 9 = .ok (.iadd, 1) := by decide +kernel
theorem dX3_of_10 : decode cX3_of 10 = .ok (.iaload, 1) := by decide +kernel
theorem dX3_of_11 : decode cX3_of 11 = .ok (.ireturn, 1) := by decide +kernel
theorem dX3_tellApart_0 : decode cX3_tellApart 0 = .ok (.aload_n 0, 1) := by decide +kernel
theorem dX3_tellApart_1 : decode cX3_tellApart 1 = .ok (.getfield 37, 3) := by decide +kernel
theorem dX3_tellApart_4 : decode cX3_tellApart 4 = .ok (.ifCond .eq 4, 3) := by decide +kernel
theorem dX3_tellApart_7 : decode cX3_tellApart 7 = .ok (.return_, 1) := by decide +kernel
theorem dX3_tellApart_8 : decode cX3_tellApart 8 = .ok (.aload_n 0, 1) := by decide +kernel
theorem dX3_tellApart_9 : decode cX3_tellApart 9 = .ok (.aload_n 1, 1) := by decide +kernel
theorem dX3_tellApart_10 : decode cX3_tellApart 10 = .ok (.getfield 41, 3) := by decide +kernel
theorem dX3_tellApart_13 : decode cX3_tellApart 13 = .ok (.putfield 47, 3) := by decide +kernel
theorem dX3_tellApart_16 : decode cX3_tellApart 16 = .ok (.aload_n 0, 1) := by decide +kernel
theorem dX3_tellApart_17 : decode cX3_tellApart 17 = .ok (.aload_n 1, 1) := by decide +kernel
theorem dX3_tellApart_18 : decode cX3_tellApart 18 = .ok (.invokevirtual 48, 3) := by decide +kernel
theorem dX3_tellApart_21 : decode cX3_tellApart 21 = .ok (.iconst 1, 1) := by decide +kernel
theorem dX3_tellApart_22 : decode cX3_tellApart 22 = .ok (.istore_n 2, 1) := by decide +kernel
theorem dX3_tellApart_23 : decode cX3_tellApart 23 = .ok (.iconst 0, 1) := by decide +kernel
theorem dX3_tellApart_24 : decode cX3_tellApart 24 = .ok (.istore_n 3, 1) := by decide +kernel
theorem dX3_tellApart_25 : decode cX3_tellApart 25 = .ok (.iload_n 3, 1) := by decide +kernel
theorem dX3_tellApart_26 : decode cX3_tellApart 26 = .ok (.sipush 1024, 3) := by decide +kernel
theorem dX3_tellApart_29 : decode cX3_tellApart 29 = .ok (.if_icmp .gt 53, 3) := by decide +kernel
theorem dX3_tellApart_32 : decode cX3_tellApart 32 = .ok (.iload_n 2, 1) := by decide +kernel
theorem dX3_tellApart_33 : decode cX3_tellApart 33 = .ok (.ifCond .eq 49, 3) := by decide +kernel
theorem dX3_tellApart_36 : decode cX3_tellApart 36 = .ok (.aload_n 0, 1) := by decide +kernel
theorem dX3_tellApart_37 : decode cX3_tellApart 37 = .ok (.getfield 52, 3) := by decide +kernel
theorem dX3_tellApart_40 : decode cX3_tellApart 40 = .ok (.istore 4, 2) := by decide +kernel
theorem dX3_tellApart_42 : decode cX3_tellApart 42 = .ok (.aload_n 0, 1) := by decide +kernel
theorem dX3_tellApart_43 : decode cX3_tellApart 43 = .ok (.iconst 0, 1) := by decide +kernel
theorem dX3_tellApart_44 : decode cX3_tellApart 44 = .ok (.invokevirtual 55, 3) := by decide +kernel
theorem dX3_tellApart_47 : decode cX3_tellApart 47 = .ok (.aload_n 0, 1) := by decide +kernel
theorem dX3_tellApart_48 : decode cX3_tellApart 48 = .ok (.getfield 52, 3) := by decide +kernel
theorem dX3_tellApart_51 : decode cX3_tellApart 51 = .ok (.iload 4, 2) := by decide +kernel
theorem dX3_tellApart_53 : decode cX3_tellApart 53 = .ok (.if_icmp .ne 8, 3) := by decide +kernel
theorem dX3_tellApart_56 : decode cX3_tellApart 56 = .ok (.aload_n 0, 1) := by decide +kernel
theorem dX3_tellApart_57 : decode cX3_tellApart 57 = .ok (.iconst 1, 1) := by decide +kernel
theorem dX3_tellApart_58 : decode cX3_tellApart 58 = .ok (.invokevirtual 55, 3) := by decide +kernel
theorem dX3_tellApart_61 : decode cX3_tellApart 61 = .ok (.aload_n 0, 1) := by decide +kernel
theorem dX3_tellApart_62 : decode cX3_tellApart 62 = .ok (.getfield 52, 3) := by decide +kernel
theorem dX3_tellApart_65 : decode cX3_tellApart 65 = .ok (.iload 4, 2) := by decide +kernel
theorem dX3_tellApart_67 : decode cX3_tellApart 67 = .ok (.if_icmp .le 7, 3) := by decide +kernel
theorem dX3_tellApart_70 : decode cX3_tellApart 70 = .ok (.iconst 1, 1) := by decide +kernel
theorem dX3_tellApart_71 : decode cX3_tellApart 71 = .ok (.goto 4, 3) := by decide +kernel
theorem dX3_tellApart_74 : decode cX3_tellApart 74 = .ok (.iconst 0, 1) := by decide +kernel
theorem dX3_tellApart_75 : decode cX3_tellApart 75 = .ok (.istore_n 2, 1) := by decide +kernel
theorem dX3_tellApart_76 : decode cX3_tellApart 76 = .ok (.iinc 3 1, 3) := by decide +kernel
theorem dX3_tellApart_79 : decode cX3_tellApart 79 = .ok (.goto (-54), 3) := by decide +kernel
theorem dX3_tellApart_82 : decode cX3_tellApart 82 = .ok (.aload_n 0, 1) := by decide +kernel
theorem dX3_tellApart_83 : decode cX3_tellApart 83 = .ok (.iconst 1, 1) := by decide +kernel
theorem dX3_tellApart_84 : decode cX3_tellApart 84 = .ok (.putfield 37, 3) := by decide +kernel
theorem dX3_tellApart_87 : decode cX3_tellApart 87 = .ok (.return_, 1) := by decide +kernel
theorem dX3_begin_0 : decode cX3_begin 0 = .ok (.iconst (-1), 1) := by decide +kernel
theorem dX3_begin_1 : decode cX3_begin 1 = .ok (.istore_n 2, 1) := by decide +kernel
theorem dX3_begin_2 : decode cX3_begin 2 = .ok (.iconst (-1), 1) := by decide +kernel
theorem dX3_begin_3 : decode cX3_begin 3 = .ok (.istore_n 3, 1) := by decide +kernel
theorem dX3_begin_4 : decode cX3_begin 4 = .ok (.iconst (-1), 1) := by decide +kernel
theorem dX3_begin_5 : decode cX3_begin 5 = .ok (.istore 4, 2) := by decide +kernel
theorem dX3_begin_7 : decode cX3_begin 7 = .ok (.aload_n 0, 1) := by decide +kernel
theorem dX3_begin_8 : decode cX3_begin 8 = .ok (.iconst 0, 1) := by decide +kernel
theorem dX3_begin_9 : decode cX3_begin 9 = .ok (.putfield 52, 3) := by decide +kernel
theorem dX3_begin_12 : decode cX3_begin 12 = .ok (.iconst 0, 1) := by decide +kernel
theorem dX3_begin_13 : decode cX3_begin 13 = .ok (.istore 5, 2) := by decide +kernel
theorem dX3_begin_15 : decode cX3_begin 15 = .ok (.iload 5, 2) := by decide +kernel
theorem dX3_begin_17 : decode cX3_begin 17 = .ok (.aload_n 0, 1) := by decide +kernel
theorem dX3_begin_18 : decode cX3_begin 18 = .ok (.getfield 47, 3) := by decide +kernel
theorem dX3_begin_21 : decode cX3_begin 21 = .ok (.if_icmp .ge 149, 3) := by decide +kernel
theorem dX3_begin_24 : decode cX3_begin 24 = .ok (.iconst 0, 1) := by decide +kernel
theorem dX3_begin_25 : decode cX3_begin 25 = .ok (.istore 6, 2) := by decide +kernel
theorem dX3_begin_27 : decode cX3_begin 27 = .ok (.iload 6, 2) := by decide +kernel
theorem dX3_begin_29 : decode cX3_begin 29 = .ok (.aload_n 0, 1) := by decide +kernel
theorem dX3_begin_30 : decode cX3_begin 30 = .ok (.getfield 47, 3) := by decide +kernel
theorem dX3_begin_33 : decode cX3_begin 33 = .ok (.if_icmp .ge 131, 3) := by decide +kernel
theorem dX3_begin_36 : decode cX3_begin 36 = .ok (.iload 5, 2) := by decide +kernel
theorem dX3_begin_38 : decode cX3_begin 38 = .ok (.bipush 32, 2) := by decide +kernel
theorem dX3_begin_40 : decode cX3_begin 40 = .ok (.imul, 1) := by decide +kernel
theorem dX3_begin_41 : decode cX3_begin 41 = .ok (.iload 6, 2) := by decide +kernel
theorem dX3_begin_43 : decode cX3_begin 43 = .ok (.iadd, 1) := by decide +kernel
theorem dX3_begin_44 : decode cX3_begin 44 = .ok (.istore 7, 2) := by decide +kernel
theorem dX3_begin_46 : decode cX3_begin 46 = .ok (.iload 5, 2) := by decide +kernel
theorem dX3_begin_48 : decode cX3_begin 48 = .ok (.iload 6, 2) := by decide +kernel
theorem dX3_begin_50 : decode cX3_begin 50 = .ok (.if_icmp .ne 34, 3) := by decide +kernel
theorem dX3_begin_53 : decode cX3_begin 53 = .ok (.iload_n 2, 1) := by decide +kernel
theorem dX3_begin_54 : decode cX3_begin 54 = .ok (.ifCond .ge 17, 3) := by decide +kernel
theorem dX3_begin_57 : decode cX3_begin 57 = .ok (.aload_n 0, 1) := by decide +kernel
theorem dX3_begin_58 : decode cX3_begin 58 = .ok (.dup, 1) := by decide +kernel
theorem dX3_begin_59 : decode cX3_begin 59 = .ok (.getfield 52, 3) := by decide +kernel
theorem dX3_begin_62 : decode cX3_begin 62 = .ok (.dup_x1, 1) := by decide +kernel
theorem dX3_begin_63 : decode cX3_begin 63 = .ok (.iconst 1, 1) := by decide +kernel
theorem dX3_begin_64 : decode cX3_begin 64 = .ok (.iadd, 1) := by decide +kernel
theorem dX3_begin_65 : decode cX3_begin 65 = .ok (.putfield 52, 3) := by decide +kernel
theorem dX3_begin_68 : decode cX3_begin 68 = .ok (.goto 4, 3) := by decide +kernel
theorem dX3_begin_71 : decode cX3_begin 71 = .ok (.iload_n 2, 1) := by decide +kernel
theorem dX3_begin_72 : decode cX3_begin 72 = .ok (.istore_n 2, 1) := by decide +kernel
theorem dX3_begin_73 : decode cX3_begin 73 = .ok (.aload_n 0, 1) := by decide +kernel
theorem dX3_begin_74 : decode cX3_begin 74 = .ok (.getfield 9, 3) := by decide +kernel
theorem dX3_begin_77 : decode cX3_begin 77 = .ok (.iload 7, 2) := by decide +kernel
theorem dX3_begin_79 : decode cX3_begin 79 = .ok (.iload_n 2, 1) := by decide +kernel
theorem dX3_begin_80 : decode cX3_begin 80 = .ok (.iastore, 1) := by decide +kernel
theorem dX3_begin_81 : decode cX3_begin 81 = .ok (.goto 77, 3) := by decide +kernel
theorem dX3_begin_84 : decode cX3_begin 84 = .ok (.aload_n 1, 1) := by decide +kernel
theorem dX3_begin_85 : decode cX3_begin 85 = .ok (.iload 5, 2) := by decide +kernel
theorem dX3_begin_87 : decode cX3_begin 87 = .ok (.iload 6, 2) := by decide +kernel
theorem dX3_begin_89 : decode cX3_begin 89 = .ok (.invokevirtual 59, 3) := by decide +kernel
theorem dX3_begin_92 : decode cX3_begin 92 = .ok (.ifCond .eq 34, 3) := by decide +kernel
theorem dX3_begin_95 : decode cX3_begin 95 = .ok (.iload_n 3, 1) := by decide +kernel
theorem dX3_begin_96 : decode cX3_begin 96 = .ok (.ifCond .ge 17, 3) := by decide +kernel
theorem dX3_begin_99 : decode cX3_begin 99 = .ok (.aload_n 0, 1) := by decide +kernel
theorem dX3_begin_100 : decode cX3_begin 100 = .ok (.dup, 1) := by decide +kernel
theorem dX3_begin_101 : decode cX3_begin 101 = .ok (.getfield 52, 3) := by decide +kernel
theorem dX3_begin_104 : decode cX3_begin 104 = .ok (.dup_x1, 1) := by decide +kernel
theorem dX3_begin_105 : decode cX3_begin 105 = .ok (.iconst 1, 1) := by decide +kernel
theorem dX3_begin_106 : decode cX3_begin 106 = .ok (.iadd, 1) := by decide +kernel
theorem dX3_begin_107 : decode cX3_begin 107 = .ok (.putfield 52, 3) := by decide +kernel
theorem dX3_begin_110 : decode cX3_begin 110 = .ok (.goto 4, 3) := by decide +kernel
theorem dX3_begin_113 : decode cX3_begin 113 = .ok (.iload_n 3, 1) := by decide +kernel
theorem dX3_begin_114 : decode cX3_begin 114 = .ok (.istore_n 3, 1) := by decide +kernel
theorem dX3_begin_115 : decode cX3_begin 115 = .ok (.aload_n 0, 1) := by decide +kernel
theorem dX3_begin_116 : decode cX3_begin 116 = .ok (.getfield 9, 3) := by decide +kernel
theorem dX3_begin_119 : decode cX3_begin 119 = .ok (.iload 7, 2) := by decide +kernel
theorem dX3_begin_121 : decode cX3_begin 121 = .ok (.iload_n 3, 1) := by decide +kernel
theorem dX3_begin_122 : decode cX3_begin 122 = .ok (.iastore, 1) := by decide +kernel
theorem dX3_begin_123 : decode cX3_begin 123 = .ok (.goto 35, 3) := by decide +kernel
theorem dX3_begin_126 : decode cX3_begin 126 = .ok (.iload 4, 2) := by decide +kernel
theorem dX3_begin_128 : decode cX3_begin 128 = .ok (.ifCond .ge 17, 3) := by decide +kernel
theorem dX3_begin_131 : decode cX3_begin 131 = .ok (.aload_n 0, 1) := by decide +kernel
theorem dX3_begin_132 : decode cX3_begin 132 = .ok (.dup, 1) := by decide +kernel
theorem dX3_begin_133 : decode cX3_begin 133 = .ok (.getfield 52, 3) := by decide +kernel
theorem dX3_begin_136 : decode cX3_begin 136 = .ok (.dup_x1, 1) := by decide +kernel
theorem dX3_begin_137 : decode cX3_begin 137 = .ok (.iconst 1, 1) := by decide +kernel
theorem dX3_begin_138 : decode cX3_begin 138 = .ok (.iadd, 1) := by decide +kernel
theorem dX3_begin_139 : decode cX3_begin 139 = .ok (.putfield 52, 3) := by decide +kernel
theorem dX3_begin_142 : decode cX3_begin 142 = .ok (.goto 5, 3) := by decide +kernel
theorem dX3_begin_145 : decode cX3_begin 145 = .ok (.iload 4, 2) := by decide +kernel
theorem dX3_begin_147 : decode cX3_begin 147 = .ok (.istore 4, 2) := by decide +kernel
theorem dX3_begin_149 : decode cX3_begin 149 = .ok (.aload_n 0, 1) := by decide +kernel
theorem dX3_begin_150 : decode cX3_begin 150 = .ok (.getfield 9, 3) := by decide +kernel
theorem dX3_begin_153 : decode cX3_begin 153 = .ok (.iload 7, 2) := by decide +kernel
theorem dX3_begin_155 : decode cX3_begin 155 = .ok (.iload 4, 2) := by decide +kernel
theorem dX3_begin_157 : decode cX3_begin 157 = .ok (.iastore, 1) := by decide +kernel
theorem dX3_begin_158 : decode cX3_begin 158 = .ok (.iinc 6 1, 3) := by decide +kernel
theorem dX3_begin_161 : decode cX3_begin 161 = .ok (.goto (-134), 3) := by decide +kernel
theorem dX3_begin_164 : decode cX3_begin 164 = .ok (.iinc 5 1, 3) := by decide +kernel
theorem dX3_begin_167 : decode cX3_begin 167 = .ok (.goto (-152), 3) := by decide +kernel
theorem dX3_begin_170 : decode cX3_begin 170 = .ok (.return_, 1) := by decide +kernel
theorem dX3_refine_0 : decode cX3_refine 0 = .ok (.aload_n 0, 1) := by decide +kernel
theorem dX3_refine_1 : decode cX3_refine 1 = .ok (.getfield 21, 3) := by decide +kernel
theorem dX3_refine_4 : decode cX3_refine 4 = .ok (.iconst (-1), 1) := by decide +kernel
theorem dX3_refine_5 : decode cX3_refine 5 = .ok (.invokestatic 63, 3) := by decide +kernel
theorem dX3_refine_8 : decode cX3_refine 8 = .ok (.aload_n 0, 1) := by decide +kernel
theorem dX3_refine_9 : decode cX3_refine 9 = .ok (.iconst 0, 1) := by decide +kernel
theorem dX3_refine_10 : decode cX3_refine 10 = .ok (.putfield 52, 3) := by decide +kernel
theorem dX3_refine_13 : decode cX3_refine 13 = .ok (.iconst 0, 1) := by decide +kernel
theorem dX3_refine_14 : decode cX3_refine 14 = .ok (.istore_n 2, 1) := by decide +kernel
theorem dX3_refine_15 : decode cX3_refine 15 = .ok (.iload_n 2, 1) := by decide +kernel
theorem dX3_refine_16 : decode cX3_refine 16 = .ok (.aload_n 0, 1) := by decide +kernel
theorem dX3_refine_17 : decode cX3_refine 17 = .ok (.getfield 47, 3) := by decide +kernel
theorem dX3_refine_20 : decode cX3_refine 20 = .ok (.if_icmp .ge 77, 3) := by decide +kernel
theorem dX3_refine_23 : decode cX3_refine 23 = .ok (.iconst 0, 1) := by decide +kernel
theorem dX3_refine_24 : decode cX3_refine 24 = .ok (.istore_n 3, 1) := by decide +kernel
theorem dX3_refine_25 : decode cX3_refine 25 = .ok (.iload_n 3, 1) := by decide +kernel
theorem dX3_refine_26 : decode cX3_refine 26 = .ok (.aload_n 0, 1) := by decide +kernel
theorem dX3_refine_27 : decode cX3_refine 27 = .ok (.getfield 47, 3) := by decide +kernel
theorem dX3_refine_30 : decode cX3_refine 30 = .ok (.if_icmp .ge 61, 3) := by decide +kernel
theorem dX3_refine_33 : decode cX3_refine 33 = .ok (.iload_n 2, 1) := by decide +kernel
theorem dX3_refine_34 : decode cX3_refine 34 = .ok (.bipush 32, 2) := by decide +kernel
theorem dX3_refine_36 : decode cX3_refine 36 = .ok (.imul, 1) := by decide +kernel
theorem dX3_refine_37 : decode cX3_refine 37 = .ok (.iload_n 3, 1) := by decide +kernel
theorem dX3_refine_38 : decode cX3_refine 38 = .ok (.iadd, 1) := by decide +kernel
theorem dX3_refine_39 : decode cX3_refine 39 = .ok (.istore 4, 2) := by decide +kernel
theorem dX3_refine_41 : decode cX3_refine 41 = .ok (.aload_n 0, 1) := by decide +kernel
theorem dX3_refine_42 : decode cX3_refine 42 = .ok (.iload_n 2, 1) := by decide +kernel
theorem dX3_refine_43 : decode cX3_refine 43 = .ok (.iload_n 3, 1) := by decide +kernel
theorem dX3_refine_44 : decode cX3_refine 44 = .ok (.invokevirtual 69, 3) := by decide +kernel
theorem dX3_refine_47 : decode cX3_refine 47 = .ok (.lstore 5, 2) := by decide +kernel
theorem dX3_refine_49 : decode cX3_refine 49 = .ok (.aload_n 0, 1) := by decide +kernel
theorem dX3_refine_50 : decode cX3_refine 50 = .ok (.iload 4, 2) := by decide +kernel
theorem dX3_refine_52 : decode cX3_refine 52 = .ok (.lload 5, 2) := by decide +kernel
theorem dX3_refine_54 : decode cX3_refine 54 = .ok (.iload_n 1, 1) := by decide +kernel
theorem dX3_refine_55 : decode cX3_refine 55 = .ok (.invokevirtual 73, 3) := by decide +kernel
theorem dX3_refine_58 : decode cX3_refine 58 = .ok (.istore 7, 2) := by decide +kernel
theorem dX3_refine_60 : decode cX3_refine 60 = .ok (.aload_n 0, 1) := by decide +kernel
theorem dX3_refine_61 : decode cX3_refine 61 = .ok (.getfield 15, 3) := by decide +kernel
theorem dX3_refine_64 : decode cX3_refine 64 = .ok (.iload 4, 2) := by decide +kernel
theorem dX3_refine_66 : decode cX3_refine 66 = .ok (.iload 7, 2) := by decide +kernel
theorem dX3_refine_68 : decode cX3_refine 68 = .ok (.ifCond .ge 14, 3) := by decide +kernel
theorem dX3_refine_71 : decode cX3_refine 71 = .ok (.aload_n 0, 1) := by decide +kernel
theorem dX3_refine_72 : decode cX3_refine 72 = .ok (.iload 4, 2) := by decide +kernel
theorem dX3_refine_74 : decode cX3_refine 74 = .ok (.lload 5, 2) := by decide +kernel
theorem dX3_refine_76 : decode cX3_refine 76 = .ok (.invokevirtual 77, 3) := by decide +kernel
theorem dX3_refine_79 : decode cX3_refine 79 = .ok (.goto 5, 3) := by decide +kernel
theorem dX3_refine_82 : decode cX3_refine 82 = .ok (.iload 7, 2) := by decide +kernel
theorem dX3_refine_84 : decode cX3_refine 84 = .ok (.iastore, 1) := by decide +kernel
theorem dX3_refine_85 : decode cX3_refine 85 = .ok (.iinc 3 1, 3) := by decide +kernel
theorem dX3_refine_88 : decode cX3_refine 88 = .ok (.goto (-63), 3) := by decide +kernel
theorem dX3_refine_91 : decode cX3_refine 91 = .ok (.iinc 2 1, 3) := by decide +kernel
theorem dX3_refine_94 : decode cX3_refine 94 = .ok (.goto (-79), 3) := by decide +kernel
theorem dX3_refine_97 : decode cX3_refine 97 = .ok (.aload_n 0, 1) := by decide +kernel
theorem dX3_refine_98 : decode cX3_refine 98 = .ok (.getfield 15, 3) := by decide +kernel
theorem dX3_refine_101 : decode cX3_refine 101 = .ok (.iconst 0, 1) := by decide +kernel
theorem dX3_refine_102 : decode cX3_refine 102 = .ok (.aload_n 0, 1) := by decide +kernel
theorem dX3_refine_103 : decode cX3_refine 103 = .ok (.getfield 9, 3) := by decide +kernel
theorem dX3_refine_106 : decode cX3_refine 106 = .ok (.iconst 0, 1) := by decide +kernel
theorem dX3_refine_107 : decode cX3_refine 107 = .ok (.sipush 1024, 3) := by decide +kernel
theorem dX3_refine_110 : decode cX3_refine 110 = .ok (.invokestatic 81, 3) := by decide +kernel
theorem dX3_refine_113 : decode cX3_refine 113 = .ok (.return_, 1) := by decide +kernel
theorem dX3_match_0 : decode cX3_match 0 = .ok (.aload_n 0, 1) := by decide +kernel
theorem dX3_match_1 : decode cX3_match 1 = .ok (.getfield 21, 3) := by decide +kernel
theorem dX3_match_4 : decode cX3_match 4 = .ok (.aload_n 0, 1) := by decide +kernel
theorem dX3_match_5 : decode cX3_match 5 = .ok (.getfield 9, 3) := by decide +kernel
theorem dX3_match_8 : decode cX3_match 8 = .ok (.iload_n 1, 1) := by decide +kernel
theorem dX3_match_9 : decode cX3_match 9 = .ok (.iaload, 1) := by decide +kernel
theorem dX3_match_10 : decode cX3_match 10 = .ok (.iaload, 1) := by decide +kernel
theorem dX3_match_11 : decode cX3_match 11 = .ok (.istore 5, 2) := by decide +kernel
theorem dX3_match_13 : decode cX3_match 13 = .ok (.iconst 0, 1) := by decide +kernel
theorem dX3_match_14 : decode cX3_match 14 = .ok (.istore 6, 2) := by decide +kernel
theorem dX3_match_16 : decode cX3_match 16 = .ok (.iload 6, 2) := by decide +kernel
theorem dX3_match_18 : decode cX3_match 18 = .ok (.sipush 1024, 3) := by decide +kernel
theorem dX3_match_21 : decode cX3_match 21 = .ok (.if_icmp .ge 58, 3) := by decide +kernel
theorem dX3_match_24 : decode cX3_match 24 = .ok (.iload 5, 2) := by decide +kernel
theorem dX3_match_26 : decode cX3_match 26 = .ok (.ifCond .lt 53, 3) := by decide +kernel
theorem dX3_match_29 : decode cX3_match 29 = .ok (.aload_n 0, 1) := by decide +kernel
theorem dX3_match_30 : decode cX3_match 30 = .ok (.getfield 27, 3) := by decide +kernel
theorem dX3_match_33 : decode cX3_match 33 = .ok (.iload 5, 2) := by decide +kernel
theorem dX3_match_35 : decode cX3_match 35 = .ok (.laload, 1) := by decide +kernel
theorem dX3_match_36 : decode cX3_match 36 = .ok (.lload_n 2, 1) := by decide +kernel
theorem dX3_match_37 : decode cX3_match 37 = .ok (.lcmp, 1) := by decide +kernel
theorem dX3_match_38 : decode cX3_match 38 = .ok (.ifCond .ne 26, 3) := by decide +kernel
theorem dX3_match_41 : decode cX3_match 41 = .ok (.iload 4, 2) := by decide +kernel
theorem dX3_match_43 : decode cX3_match 43 = .ok (.ifCond .eq 18, 3) := by decide +kernel
theorem dX3_match_46 : decode cX3_match 46 = .ok (.aload_n 0, 1) := by decide +kernel
theorem dX3_match_47 : decode cX3_match 47 = .ok (.iload_n 1, 1) := by decide +kernel
theorem dX3_match_48 : decode cX3_match 48 = .ok (.aload_n 0, 1) := by decide +kernel
theorem dX3_match_49 : decode cX3_match 49 = .ok (.getfield 18, 3) := by decide +kernel
theorem dX3_match_52 : decode cX3_match 52 = .ok (.iload 5, 2) := by decide +kernel
theorem dX3_match_54 : decode cX3_match 54 = .ok (.iaload, 1) := by decide +kernel
theorem dX3_match_55 : decode cX3_match 55 = .ok (.invokevirtual 87, 3) := by decide +kernel
theorem dX3_match_58 : decode cX3_match 58 = .ok (.ifCond .eq 6, 3) := by decide +kernel
theorem dX3_match_61 : decode cX3_match 61 = .ok (.iload 5, 2) := by decide +kernel
theorem dX3_match_63 : decode cX3_match 63 = .ok (.ireturn, 1) := by decide +kernel
theorem dX3_match_64 : decode cX3_match 64 = .ok (.aload_n 0, 1) := by decide +kernel
theorem dX3_match_65 : decode cX3_match 65 = .ok (.getfield 24, 3) := by decide +kernel
theorem dX3_match_68 : decode cX3_match 68 = .ok (.iload 5, 2) := by decide +kernel
theorem dX3_match_70 : decode cX3_match 70 = .ok (.iaload, 1) := by decide +kernel
theorem dX3_match_71 : decode cX3_match 71 = .ok (.istore 5, 2) := by decide +kernel
theorem dX3_match_73 : decode cX3_match 73 = .ok (.iinc 6 1, 3) := by decide +kernel
theorem dX3_match_76 : decode cX3_match 76 = .ok (.goto (-60), 3) := by decide +kernel
theorem dX3_match_79 : decode cX3_match 79 = .ok (.iconst (-1), 1) := by decide +kernel
theorem dX3_match_80 : decode cX3_match 80 = .ok (.ireturn, 1) := by decide +kernel
theorem dX3_open_0 : decode cX3_open 0 = .ok (.aload_n 0, 1) := by decide +kernel
theorem dX3_open_1 : decode cX3_open 1 = .ok (.getfield 52, 3) := by decide +kernel
theorem dX3_open_4 : decode cX3_open 4 = .ok (.istore 4, 2) := by decide +kernel
theorem dX3_open_6 : decode cX3_open 6 = .ok (.aload_n 0, 1) := by decide +kernel
theorem dX3_open_7 : decode cX3_open 7 = .ok (.getfield 18, 3) := by decide +kernel
theorem dX3_open_10 : decode cX3_open 10 = .ok (.iload 4, 2) := by decide +kernel
theorem dX3_open_12 : decode cX3_open 12 = .ok (.iload_n 1, 1) := by decide +kernel
theorem dX3_open_13 : decode cX3_open 13 = .ok (.iastore, 1) := by decide +kernel
theorem dX3_open_14 : decode cX3_open 14 = .ok (.aload_n 0, 1) := by decide +kernel
theorem dX3_open_15 : decode cX3_open 15 = .ok (.getfield 27, 3) := by decide +kernel
theorem dX3_open_18 : decode cX3_open 18 = .ok (.iload 4, 2) := by decide +kernel
theorem dX3_open_20 : decode cX3_open 20 = .ok (.lload_n 2, 1) := by decide +kernel
theorem dX3_open_21 : decode cX3_open 21 = .ok (.lastore, 1) := by decide +kernel
theorem dX3_open_22 : decode cX3_open 22 = .ok (.aload_n 0, 1) := by decide +kernel
theorem dX3_open_23 : decode cX3_open 23 = .ok (.getfield 24, 3) := by decide +kernel
theorem dX3_open_26 : decode cX3_open 26 = .ok (.iload 4, 2) := by decide +kernel
theorem dX3_open_28 : decode cX3_open 28 = .ok (.aload_n 0, 1) := by decide +kernel
theorem dX3_open_29 : decode cX3_open 29 = .ok (.getfield 21, 3) := by decide +kernel
theorem dX3_open_32 : decode cX3_open 32 = .ok (.aload_n 0, 1) := by decide +kernel
theorem dX3_open_33 : decode cX3_open 33 = .ok (.getfield 9, 3) := by decide +kernel
theorem dX3_open_36 : decode cX3_open 36 = .ok (.iload_n 1, 1) := by decide +kernel
theorem dX3_open_37 : decode cX3_open 37 = .ok (.iaload, 1) := by decide +kernel
theorem dX3_open_38 : decode cX3_open 38 = .ok (.iaload, 1) := by decide +kernel
theorem dX3_open_39 : decode cX3_open 39 = .ok (.iastore, 1) := by decide +kernel
theorem dX3_open_40 : decode cX3_open 40 = .ok (.aload_n 0, 1) := by decide +kernel
theorem dX3_open_41 : decode cX3_open 41 = .ok (.getfield 21, 3) := by decide +kernel
theorem dX3_open_44 : decode cX3_open 44 = .ok (.aload_n 0, 1) := by decide +kernel
theorem dX3_open_45 : decode cX3_open 45 = .ok (.getfield 9, 3) := by decide +kernel
theorem dX3_open_48 : decode cX3_open 48 = .ok (.iload_n 1, 1) := by decide +kernel
theorem dX3_open_49 : decode cX3_open 49 = .ok (.iaload, 1) := by decide +kernel
theorem dX3_open_50 : decode cX3_open 50 = .ok (.iload 4, 2) := by decide +kernel
theorem dX3_open_52 : decode cX3_open 52 = .ok (.iastore, 1) := by decide +kernel
theorem dX3_open_53 : decode cX3_open 53 = .ok (.aload_n 0, 1) := by decide +kernel
theorem dX3_open_54 : decode cX3_open 54 = .ok (.dup, 1) := by decide +kernel
theorem dX3_open_55 : decode cX3_open 55 = .ok (.getfield 52, 3) := by decide +kernel
theorem dX3_open_58 : decode cX3_open 58 = .ok (.iconst 1, 1) := by decide +kernel
theorem dX3_open_59 : decode cX3_open 59 = .ok (.iadd, 1) := by decide +kernel
theorem dX3_open_60 : decode cX3_open 60 = .ok (.putfield 52, 3) := by decide +kernel
theorem dX3_open_63 : decode cX3_open 63 = .ok (.iload 4, 2) := by decide +kernel
theorem dX3_open_65 : decode cX3_open 65 = .ok (.ireturn, 1) := by decide +kernel
theorem dX3_keyOf_0 : decode cX3_keyOf 0 = .ok (.aload_n 0, 1) := by decide +kernel
theorem dX3_keyOf_1 : decode cX3_keyOf 1 = .ok (.getfield 9, 3) := by decide +kernel
theorem dX3_keyOf_4 : decode cX3_keyOf 4 = .ok (.iload_n 1, 1) := by decide +kernel
theorem dX3_keyOf_5 : decode cX3_keyOf 5 = .ok (.bipush 32, 2) := by decide +kernel
theorem dX3_keyOf_7 : decode cX3_keyOf 7 = .ok (.imul, 1) := by decide +kernel
theorem dX3_keyOf_8 : decode cX3_keyOf 8 = .ok (.iload_n 2, 1) := by decide +kernel
theorem dX3_keyOf_9 : decode cX3_keyOf 9 = .ok (.iadd, 1) := by decide +kernel
theorem dX3_keyOf_10 : decode cX3_keyOf 10 = .ok (.iaload, 1) := by decide +kernel
theorem dX3_keyOf_11 : decode cX3_keyOf 11 = .ok (.sipush 1024, 3) := by decide +kernel
theorem dX3_keyOf_14 : decode cX3_keyOf 14 = .ok (.imul, 1) := by decide +kernel
theorem dX3_keyOf_15 : decode cX3_keyOf 15 = .ok (.aload_n 0, 1) := by decide +kernel
theorem dX3_keyOf_16 : decode cX3_keyOf 16 = .ok (.getfield 9, 3) := by decide +kernel
theorem dX3_keyOf_19 : decode cX3_keyOf 19 = .ok (.iload_n 2, 1) := by decide +kernel
theorem dX3_keyOf_20 : decode cX3_keyOf 20 = .ok (.bipush 32, 2) := by decide +kernel
theorem dX3_keyOf_22 : decode cX3_keyOf 22 = .ok (.imul, 1) := by decide +kernel
theorem dX3_keyOf_23 : decode cX3_keyOf 23 = .ok (.iload_n 3, 1) := by decide +kernel
theorem dX3_keyOf_24 : decode cX3_keyOf 24 = .ok (.iadd, 1) := by decide +kernel
theorem dX3_keyOf_25 : decode cX3_keyOf 25 = .ok (.iaload, 1) := by decide +kernel
theorem dX3_keyOf_26 : decode cX3_keyOf 26 = .ok (.iadd, 1) := by decide +kernel
theorem dX3_keyOf_27 : decode cX3_keyOf 27 = .ok (.ireturn, 1) := by decide +kernel
theorem dX3_sumOf_0 : decode cX3_sumOf 0 = .ok (.lconst 0, 1) := by decide +kernel
theorem dX3_sumOf_1 : decode cX3_sumOf 1 = .ok (.lstore_n 3, 1) := by decide +kernel
theorem dX3_sumOf_2 : decode cX3_sumOf 2 = .ok (.iconst 0, 1) := by decide +kernel
theorem dX3_sumOf_3 : decode cX3_sumOf 3 = .ok (.istore 5, 2) := by decide +kernel
theorem dX3_sumOf_5 : decode cX3_sumOf 5 = .ok (.iload 5, 2) := by decide +kernel
theorem dX3_sumOf_7 : decode cX3_sumOf 7 = .ok (.aload_n 0, 1) := by decide +kernel
theorem dX3_sumOf_8 : decode cX3_sumOf 8 = .ok (.getfield 47, 3) := by decide +kernel
theorem dX3_sumOf_11 : decode cX3_sumOf 11 = .ok (.if_icmp .ge 23, 3) := by decide +kernel
theorem dX3_sumOf_14 : decode cX3_sumOf 14 = .ok (.lload_n 3, 1) := by decide +kernel
theorem dX3_sumOf_15 : decode cX3_sumOf 15 = .ok (.aload_n 0, 1) := by decide +kernel
theorem dX3_sumOf_16 : decode cX3_sumOf 16 = .ok (.iload_n 1, 1) := by decide +kernel
theorem dX3_sumOf_17 : decode cX3_sumOf 17 = .ok (.iload 5, 2) := by decide +kernel
theorem dX3_sumOf_19 : decode cX3_sumOf 19 = .ok (.iload_n 2, 1) := by decide +kernel
theorem dX3_sumOf_20 : decode cX3_sumOf 20 = .ok (.invokevirtual 90, 3) := by decide +kernel
theorem dX3_sumOf_23 : decode cX3_sumOf 23 = .ok (.invokestatic 94, 3) := by decide +kernel
theorem dX3_sumOf_26 : decode cX3_sumOf 26 = .ok (.ladd, 1) := by decide +kernel
theorem dX3_sumOf_27 : decode cX3_sumOf 27 = .ok (.lstore_n 3, 1) := by decide +kernel
theorem dX3_sumOf_28 : decode cX3_sumOf 28 = .ok (.iinc 5 1, 3) := by decide +kernel
theorem dX3_sumOf_31 : decode cX3_sumOf 31 = .ok (.goto (-26), 3) := by decide +kernel
theorem dX3_sumOf_34 : decode cX3_sumOf 34 = .ok (.lload_n 3, 1) := by decide +kernel
theorem dX3_sumOf_35 : decode cX3_sumOf 35 = .ok (.lreturn, 1) := by decide +kernel
theorem dX3_stir_0 : decode cX3_stir 0 = .ok (.iload_n 0, 1) := by decide +kernel
theorem dX3_stir_1 : decode cX3_stir 1 = .ok (.iconst 1, 1) := by decide +kernel
theorem dX3_stir_2 : decode cX3_stir 2 = .ok (.iadd, 1) := by decide +kernel
theorem dX3_stir_3 : decode cX3_stir 3 = .ok (.i2l, 1) := by decide +kernel
theorem dX3_stir_4 : decode cX3_stir 4 = .ok (.ldc2_w 98, 3) := by decide +kernel
theorem dX3_stir_7 : decode cX3_stir 7 = .ok (.lmul, 1) := by decide +kernel
theorem dX3_stir_8 : decode cX3_stir 8 = .ok (.lstore_n 1, 1) := by decide +kernel
theorem dX3_stir_9 : decode cX3_stir 9 = .ok (.lload_n 1, 1) := by decide +kernel
theorem dX3_stir_10 : decode cX3_stir 10 = .ok (.lload_n 1, 1) := by decide +kernel
theorem dX3_stir_11 : decode cX3_stir 11 = .ok (.bipush 32, 2) := by decide +kernel
theorem dX3_stir_13 : decode cX3_stir 13 = .ok (.lushr, 1) := by decide +kernel
theorem dX3_stir_14 : decode cX3_stir 14 = .ok (.lxor, 1) := by decide +kernel
theorem dX3_stir_15 : decode cX3_stir 15 = .ok (.lstore_n 1, 1) := by decide +kernel
theorem dX3_stir_16 : decode cX3_stir 16 = .ok (.lload_n 1, 1) := by decide +kernel
theorem dX3_stir_17 : decode cX3_stir 17 = .ok (.lload_n 1, 1) := by decide +kernel
theorem dX3_stir_18 : decode cX3_stir 18 = .ok (.lmul, 1) := by decide +kernel
theorem dX3_stir_19 : decode cX3_stir 19 = .ok (.lreturn, 1) := by decide +kernel
theorem dX3_isAlike_0 : decode cX3_isAlike 0 = .ok (.aload_n 0, 1) := by decide +kernel
theorem dX3_isAlike_1 : decode cX3_isAlike 1 = .ok (.aload_n 0, 1) := by decide +kernel
theorem dX3_isAlike_2 : decode cX3_isAlike 2 = .ok (.getfield 31, 3) := by decide +kernel
theorem dX3_isAlike_5 : decode cX3_isAlike 5 = .ok (.iload_n 1, 1) := by decide +kernel
theorem dX3_isAlike_6 : decode cX3_isAlike 6 = .ok (.invokevirtual 100, 3) := by decide +kernel
theorem dX3_isAlike_9 : decode cX3_isAlike 9 = .ok (.aload_n 0, 1) := by decide +kernel
theorem dX3_isAlike_10 : decode cX3_isAlike 10 = .ok (.aload_n 0, 1) := by decide +kernel
theorem dX3_isAlike_11 : decode cX3_isAlike 11 = .ok (.getfield 34, 3) := by decide +kernel
theorem dX3_isAlike_14 : decode cX3_isAlike 14 = .ok (.iload_n 2, 1) := by decide +kernel
theorem dX3_isAlike_15 : decode cX3_isAlike 15 = .ok (.invokevirtual 100, 3) := by decide +kernel
theorem dX3_isAlike_18 : decode cX3_isAlike 18 = .ok (.iconst 0, 1) := by decide +kernel
theorem dX3_isAlike_19 : decode cX3_isAlike 19 = .ok (.istore_n 3, 1) := by decide +kernel
theorem dX3_isAlike_20 : decode cX3_isAlike 20 = .ok (.iload_n 3, 1) := by decide +kernel
theorem dX3_isAlike_21 : decode cX3_isAlike 21 = .ok (.aload_n 0, 1) := by decide +kernel
theorem dX3_isAlike_22 : decode cX3_isAlike 22 = .ok (.getfield 47, 3) := by decide +kernel
theorem dX3_isAlike_25 : decode cX3_isAlike 25 = .ok (.if_icmp .ge 26, 3) := by decide +kernel
theorem dX3_isAlike_28 : decode cX3_isAlike 28 = .ok (.aload_n 0, 1) := by decide +kernel
theorem dX3_isAlike_29 : decode cX3_isAlike 29 = .ok (.getfield 31, 3) := by decide +kernel
theorem dX3_isAlike_32 : decode cX3_isAlike 32 = .ok (.iload_n 3, 1) := by decide +kernel
theorem dX3_isAlike_33 : decode cX3_isAlike 33 = .ok (.iaload, 1) := by decide +kernel
theorem dX3_isAlike_34 : decode cX3_isAlike 34 = .ok (.aload_n 0, 1) := by decide +kernel
theorem dX3_isAlike_35 : decode cX3_isAlike 35 = .ok (.getfield 34, 3) := by decide +kernel
theorem dX3_isAlike_38 : decode cX3_isAlike 38 = .ok (.iload_n 3, 1) := by decide +kernel
theorem dX3_isAlike_39 : decode cX3_isAlike 39 = .ok (.iaload, 1) := by decide +kernel
theorem dX3_isAlike_40 : decode cX3_isAlike 40 = .ok (.if_icmp .eq 5, 3) := by decide +kernel
theorem dX3_isAlike_43 : decode cX3_isAlike 43 = .ok (.iconst 0, 1) := by decide +kernel
theorem dX3_isAlike_44 : decode cX3_isAlike 44 = .ok (.ireturn, 1) := by decide +kernel
theorem dX3_isAlike_45 : decode cX3_isAlike 45 = .ok (.iinc 3 1, 3) := by decide +kernel
theorem dX3_isAlike_48 : decode cX3_isAlike 48 = .ok (.goto (-28), 3) := by decide +kernel
theorem dX3_isAlike_51 : decode cX3_isAlike 51 = .ok (.iconst 1, 1) := by decide +kernel
theorem dX3_isAlike_52 : decode cX3_isAlike 52 = .ok (.ireturn, 1) := by decide +kernel
theorem dX3_gather_0 : decode cX3_gather 0 = .ok (.iload_n 2, 1) := by decide +kernel
theorem dX3_gather_1 : decode cX3_gather 1 = .ok (.bipush 32, 2) := by decide +kernel
theorem dX3_gather_3 : decode cX3_gather 3 = .ok (.idiv, 1) := by decide +kernel
theorem dX3_gather_4 : decode cX3_gather 4 = .ok (.istore_n 3, 1) := by decide +kernel
theorem dX3_gather_5 : decode cX3_gather 5 = .ok (.iload_n 2, 1) := by decide +kernel
theorem dX3_gather_6 : decode cX3_gather 6 = .ok (.bipush 32, 2) := by decide +kernel
theorem dX3_gather_8 : decode cX3_gather 8 = .ok (.irem, 1) := by decide +kernel
theorem dX3_gather_9 : decode cX3_gather 9 = .ok (.istore 4, 2) := by decide +kernel
theorem dX3_gather_11 : decode cX3_gather 11 = .ok (.iconst 0, 1) := by decide +kernel
theorem dX3_gather_12 : decode cX3_gather 12 = .ok (.istore 5, 2) := by decide +kernel
theorem dX3_gather_14 : decode cX3_gather 14 = .ok (.iload 5, 2) := by decide +kernel
theorem dX3_gather_16 : decode cX3_gather 16 = .ok (.aload_n 0, 1) := by decide +kernel
theorem dX3_gather_17 : decode cX3_gather 17 = .ok (.getfield 47, 3) := by decide +kernel
theorem dX3_gather_20 : decode cX3_gather 20 = .ok (.if_icmp .ge 62, 3) := by decide +kernel
theorem dX3_gather_23 : decode cX3_gather 23 = .ok (.aload_n 0, 1) := by decide +kernel
theorem dX3_gather_24 : decode cX3_gather 24 = .ok (.iload_n 3, 1) := by decide +kernel
theorem dX3_gather_25 : decode cX3_gather 25 = .ok (.iload 5, 2) := by decide +kernel
theorem dX3_gather_27 : decode cX3_gather 27 = .ok (.iload 4, 2) := by decide +kernel
theorem dX3_gather_29 : decode cX3_gather 29 = .ok (.invokevirtual 90, 3) := by decide +kernel
theorem dX3_gather_32 : decode cX3_gather 32 = .ok (.istore 6, 2) := by decide +kernel
theorem dX3_gather_34 : decode cX3_gather 34 = .ok (.iload 5, 2) := by decide +kernel
theorem dX3_gather_36 : decode cX3_gather 36 = .ok (.istore 7, 2) := by decide +kernel
theorem dX3_gather_38 : decode cX3_gather 38 = .ok (.iload 7, 2) := by decide +kernel
theorem dX3_gather_40 : decode cX3_gather 40 = .ok (.ifCond .le 30, 3) := by decide +kernel
theorem dX3_gather_43 : decode cX3_gather 43 = .ok (.aload_n 1, 1) := by decide +kernel
theorem dX3_gather_44 : decode cX3_gather 44 = .ok (.iload 7, 2) := by decide +kernel
theorem dX3_gather_46 : decode cX3_gather 46 = .ok (.iconst 1, 1) := by decide +kernel
theorem dX3_gather_47 : decode cX3_gather 47 = .ok (.isub, 1) := by decide +kernel
theorem dX3_gather_48 : decode cX3_gather 48 = .ok (.iaload, 1) := by decide +kernel
theorem dX3_gather_49 : decode cX3_gather 49 = .ok (.iload 6, 2) := by decide +kernel
theorem dX3_gather_51 : decode cX3_gather 51 = .ok (.if_icmp .le 19, 3) := by decide +kernel
theorem dX3_gather_54 : decode cX3_gather 54 = .ok (.aload_n 1, 1) := by decide +kernel
theorem dX3_gather_55 : decode cX3_gather 55 = .ok (.iload 7, 2) := by decide +kernel
theorem dX3_gather_57 : decode cX3_gather 57 = .ok (.aload_n 1, 1) := by decide +kernel
theorem dX3_gather_58 : decode cX3_gather 58 = .ok (.iload 7, 2) := by decide +kernel
theorem dX3_gather_60 : decode cX3_gather 60 = .ok (.iconst 1, 1) := by decide +kernel
theorem dX3_gather_61 : decode cX3_gather 61 = .ok (.isub, 1) := by decide +kernel
theorem dX3_gather_62 : decode cX3_gather 62 = .ok (.iaload, 1) := by decide +kernel
theorem dX3_gather_63 : decode cX3_gather 63 = .ok (.iastore, 1) := by decide +kernel
theorem dX3_gather_64 : decode cX3_gather 64 = .ok (.iinc 7 (-1), 3) := by decide +kernel
theorem dX3_gather_67 : decode cX3_gather 67 = .ok (.goto (-29), 3) := by decide +kernel
theorem dX3_gather_70 : decode cX3_gather 70 = .ok (.aload_n 1, 1) := by decide +kernel
theorem dX3_gather_71 : decode cX3_gather 71 = .ok (.iload 7, 2) := by decide +kernel
theorem dX3_gather_73 : decode cX3_gather 73 = .ok (.iload 6, 2) := by decide +kernel
theorem dX3_gather_75 : decode cX3_gather 75 = .ok (.iastore, 1) := by decide +kernel
theorem dX3_gather_76 : decode cX3_gather 76 = .ok (.iinc 5 1, 3) := by decide +kernel
theorem dX3_gather_79 : decode cX3_gather 79 = .ok (.goto (-65), 3) := by decide +kernel
theorem dX3_gather_82 : decode cX3_gather 82 = .ok (.return_, 1) := by decide +kernel
theorem dX4_init_0 : decode cX4_init 0 = .ok (.aload_n 0, 1) := by decide +kernel
theorem dX4_init_1 : decode cX4_init 1 = .ok (.invokespecial 3, 3) := by decide +kernel
theorem dX4_init_4 : decode cX4_init 4 = .ok (.aload_n 0, 1) := by decide +kernel
theorem dX4_init_5 : decode cX4_init 5 = .ok (.bipush 32, 2) := by decide +kernel
theorem dX4_init_7 : decode cX4_init 7 = .ok (.newarray .int, 2) := by decide +kernel
theorem dX4_init_9 : decode cX4_init 9 = .ok (.putfield 9, 3) := by decide +kernel
theorem dX4_init_12 : decode cX4_init 12 = .ok (.aload_n 0, 1) := by decide +kernel
theorem dX4_init_13 : decode cX4_init 13 = .ok (.bipush 32, 2) := by decide +kernel
theorem dX4_init_15 : decode cX4_init 15 = .ok (.newarray .int, 2) := by decide +kernel
theorem dX4_init_17 : decode cX4_init 17 = .ok (.putfield 15, 3) := by decide +kernel
theorem dX4_init_20 : decode cX4_init 20 = .ok (.aload_n 0, 1) := by decide +kernel
theorem dX4_init_21 : decode cX4_init 21 = .ok (.bipush 32, 2) := by decide +kernel
theorem dX4_init_23 : decode cX4_init 23 = .ok (.newarray .int, 2) := by decide +kernel
theorem dX4_init_25 : decode cX4_init 25 = .ok (.putfield 18, 3) := by decide +kernel
theorem dX4_init_28 : decode cX4_init 28 = .ok (.aload_n 0, 1) := by decide +kernel
theorem dX4_init_29 : decode cX4_init 29 = .ok (.iconst (-1), 1) := by decide +kernel
theorem dX4_init_30 : decode cX4_init 30 = .ok (.putfield 21, 3) := by decide +kernel
theorem dX4_init_33 : decode cX4_init 33 = .ok (.return_, 1) := by decide +kernel
theorem dX4_run_0 : decode cX4_run 0 = .ok (.aload_n 0, 1) := by decide +kernel
theorem dX4_run_1 : decode cX4_run 1 = .ok (.iload_n 2, 1) := by decide +kernel
theorem dX4_run_2 : decode cX4_run 2 = .ok (.putfield 25, 3) := by decide +kernel
theorem dX4_run_5 : decode cX4_run 5 = .ok (.iconst 0, 1) := by decide +kernel
theorem dX4_run_6 : decode cX4_run 6 = .ok (.istore 4, 2) := by decide +kernel
theorem dX4_run_8 : decode cX4_run 8 = .ok (.iload 4, 2) := by decide +kernel
theorem dX4_run_10 : decode cX4_run 10 = .ok (.aload_n 0, 1) := by decide +kernel
theorem dX4_run_11 : decode cX4_run 11 = .ok (.getfield 25, 3) := by decide +kernel
theorem dX4_run_14 : decode cX4_run 14 = .ok (.if_icmp .ge 23, 3) := by decide +kernel
theorem dX4_run_17 : decode cX4_run 17 = .ok (.aload_n 0, 1) := by decide +kernel
theorem dX4_run_18 : decode cX4_run 18 = .ok (.getfield 9, 3) := by decide +kernel
theorem dX4_run_21 : decode cX4_run 21 = .ok (.iload 4, 2) := by decide +kernel
theorem dX4_run_23 : decode cX4_run 23 = .ok (.aload_n 1, 1) := by decide +kernel
theorem dX4_run_24 : decode cX4_run 24 = .ok (.iload 4, 2) := by decide +kernel
theorem dX4_run_26 : decode cX4_run 26 = .ok (.iload_n 3, 1) := by decide +kernel
theorem dX4_run_27 : decode cX4_run 27 = .ok (.invokevirtual 28, 3) := by decide +kernel
theorem dX4_run_30 : decode cX4_run 30 = .ok (.iastore, 1) := by decide +kernel
theorem dX4_run_31 : decode cX4_run 31 = .ok (.iinc 4 1, 3) := by decide +kernel
theorem dX4_run_34 : decode cX4_run 34 = .ok (.goto (-26), 3) := by decide +kernel
theorem dX4_run_37 : decode cX4_run 37 = .ok (.aload_n 0, 1) := by decide +kernel
theorem dX4_run_38 : decode cX4_run 38 = .ok (.aload_n 0, 1) := by decide +kernel
theorem dX4_run_39 : decode cX4_run 39 = .ok (.invokevirtual 34, 3) := by decide +kernel
theorem dX4_run_42 : decode cX4_run 42 = .ok (.putfield 38, 3) := by decide +kernel
theorem dX4_run_45 : decode cX4_run 45 = .ok (.aload_n 0, 1) := by decide +kernel
theorem dX4_run_46 : decode cX4_run 46 = .ok (.iload_n 3, 1) := by decide +kernel
theorem dX4_run_47 : decode cX4_run 47 = .ok (.putfield 21, 3) := by decide +kernel
theorem dX4_run_50 : decode cX4_run 50 = .ok (.return_, 1) := by decide +kernel
theorem dX4_climb_0 : decode cX4_climb 0 = .ok (.aload_n 0, 1) := by decide +kernel
theorem dX4_climb_1 : decode cX4_climb 1 = .ok (.getfield 25, 3) := by decide +kernel
theorem dX4_climb_4 : decode cX4_climb 4 = .ok (.invokestatic 41, 3) := by decide +kernel
theorem dX4_climb_7 : decode cX4_climb 7 = .ok (.istore_n 1, 1) := by decide +kernel
theorem dX4_climb_8 : decode cX4_climb 8 = .ok (.iconst 0, 1) := by decide +kernel
theorem dX4_climb_9 : decode cX4_climb 9 = .ok (.istore_n 2, 1) := by decide +kernel
theorem dX4_climb_10 : decode cX4_climb 10 = .ok (.iconst 0, 1) := by decide +kernel
theorem dX4_climb_11 : decode cX4_climb 11 = .ok (.istore_n 3, 1) := by decide +kernel
theorem dX4_climb_12 : decode cX4_climb 12 = .ok (.iconst 0, 1) := by decide +kernel
theorem dX4_climb_13 : decode cX4_climb 13 = .ok (.istore 4, 2) := by decide +kernel
theorem dX4_climb_15 : decode cX4_climb 15 = .ok (.aload_n 0, 1) := by decide +kernel
theorem dX4_climb_16 : decode cX4_climb 16 = .ok (.getfield 18, 3) := by decide +kernel
theorem dX4_climb_19 : decode cX4_climb 19 = .ok (.iconst 0, 1) := by decide +kernel
theorem dX4_climb_20 : decode cX4_climb 20 = .ok (.aload_n 0, 1) := by decide +kernel
theorem dX4_climb_21 : decode cX4_climb 21 = .ok (.iload_n 2, 1) := by decide +kernel
theorem dX4_climb_22 : decode cX4_climb 22 = .ok (.invokevirtual 45, 3) := by decide +kernel
theorem dX4_climb_25 : decode cX4_climb 25 = .ok (.iastore, 1) := by decide +kernel
theorem dX4_climb_26 : decode cX4_climb 26 = .ok (.iconst 0, 1) := by decide +kernel
theorem dX4_climb_27 : decode cX4_climb 27 = .ok (.istore 5, 2) := by decide +kernel
theorem dX4_climb_29 : decode cX4_climb 29 = .ok (.iload 5, 2) := by decide +kernel
theorem dX4_climb_31 : decode cX4_climb 31 = .ok (.ldc 48, 2) := by decide +kernel
theorem dX4_climb_33 : decode cX4_climb 33 = .ok (.if_icmp .gt 134, 3) := by decide +kernel
theorem dX4_climb_36 : decode cX4_climb 36 = .ok (.aload_n 0, 1) := by decide +kernel
theorem dX4_climb_37 : decode cX4_climb 37 = .ok (.getfield 18, 3) := by decide +kernel
theorem dX4_climb_40 : decode cX4_climb 40 = .ok (.iload_n 3, 1) := by decide +kernel
theorem dX4_climb_41 : decode cX4_climb 41 = .ok (.iaload, 1) := by decide +kernel
theorem dX4_climb_42 : decode cX4_climb 42 = .ok (.ifCond .ne 32, 3) := by decide +kernel
theorem dX4_climb_45 : decode cX4_climb 45 = .ok (.iload_n 3, 1) := by decide +kernel
theorem dX4_climb_46 : decode cX4_climb 46 = .ok (.ifCond .ne 6, 3) := by decide +kernel
theorem dX4_climb_49 : decode cX4_climb 49 = .ok (.bipush (-8), 2) := by decide +kernel
theorem dX4_climb_51 : decode cX4_climb 51 = .ok (.ireturn, 1) := by decide +kernel
theorem dX4_climb_52 : decode cX4_climb 52 = .ok (.iinc 3 (-1), 3) := by decide +kernel
theorem dX4_climb_55 : decode cX4_climb 55 = .ok (.iload_n 2, 1) := by decide +kernel
theorem dX4_climb_56 : decode cX4_climb 56 = .ok (.aload_n 0, 1) := by decide +kernel
theorem dX4_climb_57 : decode cX4_climb 57 = .ok (.getfield 9, 3) := by decide +kernel
theorem dX4_climb_60 : decode cX4_climb 60 = .ok (.aload_n 0, 1) := by decide +kernel
theorem dX4_climb_61 : decode cX4_climb 61 = .ok (.getfield 15, 3) := by decide +kernel
theorem dX4_climb_64 : decode cX4_climb 64 = .ok (.iload_n 3, 1) := by decide +kernel
theorem dX4_climb_65 : decode cX4_climb 65 = .ok (.iaload, 1) := by decide +kernel
theorem dX4_climb_66 : decode cX4_climb 66 = .ok (.iaload, 1) := by decide +kernel
theorem dX4_climb_67 : decode cX4_climb 67 = .ok (.iconst (-1), 1) := by decide +kernel
theorem dX4_climb_68 : decode cX4_climb 68 = .ok (.ixor, 1) := by decide +kernel
theorem dX4_climb_69 : decode cX4_climb 69 = .ok (.iand, 1) := by decide +kernel
theorem dX4_climb_70 : decode cX4_climb 70 = .ok (.istore_n 2, 1) := by decide +kernel
theorem dX4_climb_71 : decode cX4_climb 71 = .ok (.goto 90, 3) := by decide +kernel
theorem dX4_climb_74 : decode cX4_climb 74 = .ok (.iload 4, 2) := by decide +kernel
theorem dX4_climb_76 : decode cX4_climb 76 = .ok (.sipush 20000, 3) := by decide +kernel
theorem dX4_climb_79 : decode cX4_climb 79 = .ok (.if_icmp .ne 6, 3) := by decide +kernel
theorem dX4_climb_82 : decode cX4_climb 82 = .ok (.bipush (-7), 2) := by decide +kernel
theorem dX4_climb_84 : decode cX4_climb 84 = .ok (.ireturn, 1) := by decide +kernel
theorem dX4_climb_85 : decode cX4_climb 85 = .ok (.iinc 4 1, 3) := by decide +kernel
theorem dX4_climb_88 : decode cX4_climb 88 = .ok (.aload_n 0, 1) := by decide +kernel
theorem dX4_climb_89 : decode cX4_climb 89 = .ok (.getfield 18, 3) := by decide +kernel
theorem dX4_climb_92 : decode cX4_climb 92 = .ok (.iload_n 3, 1) := by decide +kernel
theorem dX4_climb_93 : decode cX4_climb 93 = .ok (.iaload, 1) := by decide +kernel
theorem dX4_climb_94 : decode cX4_climb 94 = .ok (.invokestatic 49, 3) := by decide +kernel
theorem dX4_climb_97 : decode cX4_climb 97 = .ok (.istore 6, 2) := by decide +kernel
theorem dX4_climb_99 : decode cX4_climb 99 = .ok (.aload_n 0, 1) := by decide +kernel
theorem dX4_climb_100 : decode cX4_climb 100 = .ok (.getfield 18, 3) := by decide +kernel
theorem dX4_climb_103 : decode cX4_climb 103 = .ok (.iload_n 3, 1) := by decide +kernel
theorem dX4_climb_104 : decode cX4_climb 104 = .ok (.dup2, 1) := by decide +kernel
theorem dX4_climb_105 : decode cX4_climb 105 = .ok (.iaload, 1) := by decide +kernel
theorem dX4_climb_106 : decode cX4_climb 106 = .ok (.aload_n 0, 1) := by decide +kernel
theorem dX4_climb_107 : decode cX4_climb 107 = .ok (.getfield 18, 3) := by decide +kernel
theorem dX4_climb_110 : decode cX4_climb 110 = .ok (.iload_n 3, 1) := by decide +kernel
theorem dX4_climb_111 : decode cX4_climb 111 = .ok (.iaload, 1) := by decide +kernel
theorem dX4_climb_112 : decode cX4_climb 112 = .ok (.iconst 1, 1) := by decide +kernel
theorem dX4_climb_113 : decode cX4_climb 113 = .ok (.isub, 1) := by decide +kernel
theorem dX4_climb_114 : decode cX4_climb 114 = .ok (.iand, 1) := by decide +kernel
theorem dX4_climb_115 : decode cX4_climb 115 = .ok (.iastore, 1) := by decide +kernel
theorem dX4_climb_116 : decode cX4_climb 116 = .ok (.aload_n 0, 1) := by decide +kernel
theorem dX4_climb_117 : decode cX4_climb 117 = .ok (.getfield 15, 3) := by decide +kernel
theorem dX4_climb_120 : decode cX4_climb 120 = .ok (.iload_n 3, 1) := by decide +kernel
theorem dX4_climb_121 : decode cX4_climb 121 = .ok (.iload 6, 2) := by decide +kernel
theorem dX4_climb_123 : decode cX4_climb 123 = .ok (.iastore, 1) := by decide +kernel
theorem dX4_climb_124 : decode cX4_climb 124 = .ok (.iload_n 2, 1) := by decide +kernel
theorem dX4_climb_125 : decode cX4_climb 125 = .ok (.aload_n 0, 1) := by decide +kernel
theorem dX4_climb_126 : decode cX4_climb 126 = .ok (.getfield 9, 3) := by decide +kernel
theorem dX4_climb_129 : decode cX4_climb 129 = .ok (.iload 6, 2) := by decide +kernel
theorem dX4_climb_131 : decode cX4_climb 131 = .ok (.iaload, 1) := by decide +kernel
theorem dX4_climb_132 : decode cX4_climb 132 = .ok (.ior, 1) := by decide +kernel
theorem dX4_climb_133 : decode cX4_climb 133 = .ok (.istore_n 2, 1) := by decide +kernel
theorem dX4_climb_134 : decode cX4_climb 134 = .ok (.iinc 3 1, 3) := by decide +kernel
theorem dX4_climb_137 : decode cX4_climb 137 = .ok (.iload_n 2, 1) := by decide +kernel
theorem dX4_climb_138 : decode cX4_climb 138 = .ok (.iload_n 1, 1) := by decide +kernel
theorem dX4_climb_139 : decode cX4_climb 139 = .ok (.if_icmp .eq 9, 3) := by decide +kernel
theorem dX4_climb_142 : decode cX4_climb 142 = .ok (.iload_n 3, 1) := by decide +kernel
theorem dX4_climb_143 : decode cX4_climb 143 = .ok (.bipush 32, 2) := by decide +kernel
theorem dX4_climb_145 : decode cX4_climb 145 = .ok (.if_icmp .ne 5, 3) := by decide +kernel
theorem dX4_climb_148 : decode cX4_climb 148 = .ok (.iload_n 3, 1) := by decide +kernel
theorem dX4_climb_149 : decode cX4_climb 149 = .ok (.ireturn, 1) := by decide +kernel
theorem dX4_climb_150 : decode cX4_climb 150 = .ok (.aload_n 0, 1) := by decide +kernel
theorem dX4_climb_151 : decode cX4_climb 151 = .ok (.getfield 18, 3) := by decide +kernel
theorem dX4_climb_154 : decode cX4_climb 154 = .ok (.iload_n 3, 1) := by decide +kernel
theorem dX4_climb_155 : decode cX4_climb 155 = .ok (.aload_n 0, 1) := by decide +kernel
theorem dX4_climb_156 : decode cX4_climb 156 = .ok (.iload_n 2, 1) := by decide +kernel
theorem dX4_climb_157 : decode cX4_climb 157 = .ok (.invokevirtual 45, 3) := by decide +kernel
theorem dX4_climb_160 : decode cX4_climb 160 = .ok (.iastore, 1) := by decide +kernel
theorem dX4_climb_161 : decode cX4_climb 161 = .ok (.iinc 5 1, 3) := by decide +kernel
theorem dX4_climb_164 : decode cX4_climb 164 = .ok (.goto (-135), 3) := by decide +kernel
theorem dX4_climb_167 : decode cX4_climb 167 = .ok (.bipush (-7), 2) := by decide +kernel
theorem dX4_climb_169 : decode cX4_climb 169 = .ok (.ireturn, 1) := by decide +kernel
theorem dX4_candidates_0 : decode cX4_candidates 0 = .ok (.iload_n 1, 1) := by decide +kernel
theorem dX4_candidates_1 : decode cX4_candidates 1 = .ok (.iconst (-1), 1) := by decide +kernel
theorem dX4_candidates_2 : decode cX4_candidates 2 = .ok (.ixor, 1) := by decide +kernel
theorem dX4_candidates_3 : decode cX4_candidates 3 = .ok (.invokestatic 49, 3) := by decide +kernel
theorem dX4_candidates_6 : decode cX4_candidates 6 = .ok (.istore_n 2, 1) := by decide +kernel
theorem dX4_candidates_7 : decode cX4_candidates 7 = .ok (.iload_n 2, 1) := by decide +kernel
theorem dX4_candidates_8 : decode cX4_candidates 8 = .ok (.aload_n 0, 1) := by decide +kernel
theorem dX4_candidates_9 : decode cX4_candidates 9 = .ok (.getfield 25, 3) := by decide +kernel
theorem dX4_candidates_12 : decode cX4_candidates 12 = .ok (.if_icmp .lt 5, 3) := by decide +kernel
theorem dX4_candidates_15 : decode cX4_candidates 15 = .ok (.iconst 0, 1) := by decide +kernel
theorem dX4_candidates_16 : decode cX4_candidates 16 = .ok (.ireturn, 1) := by decide +kernel
theorem dX4_candidates_17 : decode cX4_candidates 17 = .ok (.iconst 0, 1) := by decide +kernel
theorem dX4_candidates_18 : decode cX4_candidates 18 = .ok (.istore_n 3, 1) := by decide +kernel
theorem dX4_candidates_19 : decode cX4_candidates 19 = .ok (.iconst 0, 1) := by decide +kernel
theorem dX4_candidates_20 : decode cX4_candidates 20 = .ok (.istore 4, 2) := by decide +kernel
theorem dX4_candidates_22 : decode cX4_candidates 22 = .ok (.iload 4, 2) := by decide +kernel
theorem dX4_candidates_24 : decode cX4_candidates 24 = .ok (.aload_n 0, 1) := by decide +kernel
theorem dX4_candidates_25 : decode cX4_candidates 25 = .ok (.getfield 25, 3) := by decide +kernel
theorem dX4_candidates_28 : decode cX4_candidates 28 = .ok (.if_icmp .ge 42, 3) := by decide +kernel
theorem dX4_candidates_31 : decode cX4_candidates 31 = .ok (.aload_n 0, 1) := by decide +kernel
theorem dX4_candidates_32 : decode cX4_candidates 32 = .ok (.getfield 9, 3) := by decide +kernel
theorem dX4_candidates_35 : decode cX4_candidates 35 = .ok (.iload_n 2, 1) := by decide +kernel
theorem dX4_candidates_36 : decode cX4_candidates 36 = .ok (.iaload, 1) := by decide +kernel
theorem dX4_candidates_37 : decode cX4_candidates 37 = .ok (.iload 4, 2) := by decide +kernel
theorem dX4_candidates_39 : decode cX4_candidates 39 = .ok (.invokestatic 52, 3) := by decide +kernel
theorem dX4_candidates_42 : decode cX4_candidates 42 = .ok (.ifCond .eq 22, 3) := by decide +kernel
theorem dX4_candidates_45 : decode cX4_candidates 45 = .ok (.aload_n 0, 1) := by decide +kernel
theorem dX4_candidates_46 : decode cX4_candidates 46 = .ok (.getfield 9, 3) := by decide +kernel
theorem dX4_candidates_49 : decode cX4_candidates 49 = .ok (.iload 4, 2) := by decide +kernel
theorem dX4_candidates_51 : decode cX4_candidates 51 = .ok (.iaload, 1) := by decide +kernel
theorem dX4_candidates_52 : decode cX4_candidates 52 = .ok (.iload_n 1, 1) := by decide +kernel
theorem dX4_candidates_53 : decode cX4_candidates 53 = .ok (.iand, 1) := by decide +kernel
theorem dX4_candidates_54 : decode cX4_candidates 54 = .ok (.ifCond .ne 10, 3) := by decide +kernel
theorem dX4_candidates_57 : decode cX4_candidates 57 = .ok (.iload_n 3, 1) := by decide +kernel
theorem dX4_candidates_58 : decode cX4_candidates 58 = .ok (.iconst 1, 1) := by decide +kernel
theorem dX4_candidates_59 : decode cX4_candidates 59 = .ok (.iload 4, 2) := by decide +kernel
theorem dX4_candidates_61 : decode cX4_candidates 61 = .ok (.ishl, 1) := by decide +kernel
theorem dX4_candidates_62 : decode cX4_candidates 62 = .ok (.ior, 1) := by decide +kernel
theorem dX4_candidates_63 : decode cX4_candidates 63 = .ok (.istore_n 3, 1) := by decide +kernel
theorem dX4_candidates_64 : decode cX4_candidates 64 = .ok (.iinc 4 1, 3) := by decide +kernel
theorem dX4_candidates_67 : decode cX4_candidates 67 = .ok (.goto (-45), 3) := by decide +kernel
theorem dX4_candidates_70 : decode cX4_candidates 70 = .ok (.iload_n 3, 1) := by decide +kernel
theorem dX4_candidates_71 : decode cX4_candidates 71 = .ok (.ireturn, 1) := by decide +kernel
theorem dX5_init_0 : decode cX5_init 0 = .ok (.aload_n 0, 1) := by decide +kernel
theorem dX5_init_1 : decode cX5_init 1 = .ok (.invokespecial 3, 3) := by decide +kernel
theorem dX5_init_4 : decode cX5_init 4 = .ok (.aload_n 0, 1) := by decide +kernel
theorem dX5_init_5 : decode cX5_init 5 = .ok (.bipush 60, 2) := by decide +kernel
theorem dX5_init_7 : decode cX5_init 7 = .ok (.newarray .int, 2) := by decide +kernel
theorem dX5_init_9 : decode cX5_init 9 = .ok (.putfield 9, 3) := by decide +kernel
theorem dX5_init_12 : decode cX5_init 12 = .ok (.return_, 1) := by decide +kernel
theorem dX5_lay_0 : decode cX5_lay 0 = .ok (.aload_n 0, 1) := by decide +kernel
theorem dX5_lay_1 : decode cX5_lay 1 = .ok (.iconst 1, 1) := by decide +kernel
theorem dX5_lay_2 : decode cX5_lay 2 = .ok (.putfield 15, 3) := by decide +kernel
theorem dX5_lay_5 : decode cX5_lay 5 = .ok (.aload_n 0, 1) := by decide +kernel
theorem dX5_lay_6 : decode cX5_lay 6 = .ok (.iload_n 1, 1) := by decide +kernel
theorem dX5_lay_7 : decode cX5_lay 7 = .ok (.putfield 19, 3) := by decide +kernel
theorem dX5_lay_10 : decode cX5_lay 10 = .ok (.aload_n 0, 1) := by decide +kernel
theorem dX5_lay_11 : decode cX5_lay 11 = .ok (.iload_n 2, 1) := by decide +kernel
theorem dX5_lay_12 : decode cX5_lay 12 = .ok (.putfield 23, 3) := by decide +kernel
theorem dX5_lay_15 : decode cX5_lay 15 = .ok (.aload_n 0, 1) := by decide +kernel
theorem dX5_lay_16 : decode cX5_lay 16 = .ok (.getfield 9, 3) := by decide +kernel
theorem dX5_lay_19 : decode cX5_lay 19 = .ok (.iconst 0, 1) := by decide +kernel
theorem dX5_lay_20 : decode cX5_lay 20 = .ok (.invokestatic 26, 3) := by decide +kernel
theorem dX5_lay_23 : decode cX5_lay 23 = .ok (.return_, 1) := by decide +kernel
theorem dX5_has_0 : decode cX5_has 0 = .ok (.iload_n 1, 1) := by decide +kernel
theorem dX5_has_1 : decode cX5_has 1 = .ok (.ifCond .lt 15, 3) := by decide +kernel
theorem dX5_has_4 : decode cX5_has 4 = .ok (.iload_n 1, 1) := by decide +kernel
theorem dX5_has_5 : decode cX5_has 5 = .ok (.aload_n 0, 1) := by decide +kernel
theorem dX5_has_6 : decode cX5_has 6 = .ok (.getfield 23, 3) := by decide +kernel
theorem dX5_has_9 : decode cX5_has 9 = .ok (.if_icmp .ge 7, 3) := by decide +kernel
theorem dX5_has_12 : decode cX5_has 12 = .ok (.iconst 1, 1) := by decide +kernel
theorem dX5_has_13 : decode cX5_has 13 = .ok (.goto 4, 3) := by decide +kernel
theorem dX5_has_16 : decode cX5_has 16 = .ok (.iconst 0, 1) := by decide +kernel
theorem dX5_has_17 : decode cX5_has 17 = .ok (.ireturn, 1) := by decide +kernel
theorem dX5_read_0 : decode cX5_read 0 = .ok (.aload_n 0, 1) := by decide +kernel
theorem dX5_read_1 : decode cX5_read 1 = .ok (.iload_n 1, 1) := by decide +kernel
theorem dX5_read_2 : decode cX5_read 2 = .ok (.invokevirtual 32, 3) := by decide +kernel
theorem dX5_read_5 : decode cX5_read 5 = .ok (.ifCond .eq 12, 3) := by decide +kernel
theorem dX5_read_8 : decode cX5_read 8 = .ok (.aload_n 0, 1) := by decide +kernel
theorem dX5_read_9 : decode cX5_read 9 = .ok (.getfield 9, 3) := by decide +kernel
theorem dX5_read_12 : decode cX5_read 12 = .ok (.iload_n 1, 1) := by decide +kernel
theorem dX5_read_13 : decode cX5_read 13 = .ok (.iaload, 1) := by decide +kernel
theorem dX5_read_14 : decode cX5_read 14 = .ok (.goto 4, 3) := by decide +kernel
theorem dX5_read_17 : decode cX5_read 17 = .ok (.iconst (-1), 1) := by decide +kernel
theorem dX5_read_18 : decode cX5_read 18 = .ok (.ireturn, 1) := by decide +kernel
theorem dX5_write_0 : decode cX5_write 0 = .ok (.aload_n 0, 1) := by decide +kernel
theorem dX5_write_1 : decode cX5_write 1 = .ok (.getfield 19, 3) := by decide +kernel
theorem dX5_write_4 : decode cX5_write 4 = .ok (.ifCond .ne 14, 3) := by decide +kernel
theorem dX5_write_7 : decode cX5_write 7 = .ok (.aload_n 0, 1) := by decide +kernel
theorem dX5_write_8 : decode cX5_write 8 = .ok (.getfield 9, 3) := by decide +kernel
theorem dX5_write_11 : decode cX5_write 11 = .ok (.iload_n 1, 1) := by decide +kernel
theorem dX5_write_12 : decode cX5_write 12 = .ok (.iload_n 2, 1) := by decide +kernel
theorem dX5_write_13 : decode cX5_write 13 = .ok (.i2b, 1) := by decide +kernel
theorem dX5_write_14 : decode cX5_write 14 = .ok (.iastore, 1) := by decide +kernel
theorem dX5_write_15 : decode cX5_write 15 = .ok (.goto 29, 3) := by decide +kernel
theorem dX5_write_18 : decode cX5_write 18 = .ok (.aload_n 0, 1) := by decide +kernel
theorem dX5_write_19 : decode cX5_write 19 = .ok (.getfield 19, 3) := by decide +kernel
theorem dX5_write_22 : decode cX5_write 22 = .ok (.iconst 1, 1) := by decide +kernel
theorem dX5_write_23 : decode cX5_write 23 = .ok (.if_icmp .ne 14, 3) := by decide +kernel
theorem dX5_write_26 : decode cX5_write 26 = .ok (.aload_n 0, 1) := by decide +kernel
theorem dX5_write_27 : decode cX5_write 27 = .ok (.getfield 9, 3) := by decide +kernel
theorem dX5_write_30 : decode cX5_write 30 = .ok (.iload_n 1, 1) := by decide +kernel
theorem dX5_write_31 : decode cX5_write 31 = .ok (.iload_n 2, 1) := by decide +kernel
theorem dX5_write_32 : decode cX5_write 32 = .ok (.i2s, 1) := by decide +kernel
theorem dX5_write_33 : decode cX5_write 33 = .ok (.iastore, 1) := by decide +kernel
theorem dX5_write_34 : decode cX5_write 34 = .ok (.goto 10, 3) := by decide +kernel
theorem dX5_write_37 : decode cX5_write 37 = .ok (.aload_n 0, 1) := by decide +kernel
theorem dX5_write_38 : decode cX5_write 38 = .ok (.getfield 9, 3) := by decide +kernel
theorem dX5_write_41 : decode cX5_write 41 = .ok (.iload_n 1, 1) := by decide +kernel
theorem dX5_write_42 : decode cX5_write 42 = .ok (.iload_n 2, 1) := by decide +kernel
theorem dX5_write_43 : decode cX5_write 43 = .ok (.iastore, 1) := by decide +kernel
theorem dX5_write_44 : decode cX5_write 44 = .ok (.return_, 1) := by decide +kernel
theorem dX6_init_0 : decode cX6_init 0 = .ok (.aload_n 0, 1) := by decide +kernel
theorem dX6_init_1 : decode cX6_init 1 = .ok (.invokespecial 3, 3) := by decide +kernel
theorem dX6_init_4 : decode cX6_init 4 = .ok (.aload_n 0, 1) := by decide +kernel
theorem dX6_init_5 : decode cX6_init 5 = .ok (.bipush 6, 2) := by decide +kernel
theorem dX6_init_7 : decode cX6_init 7 = .ok (.newarray .int, 2) := by decide +kernel
theorem dX6_init_9 : decode cX6_init 9 = .ok (.putfield 9, 3) := by decide +kernel
theorem dX6_init_12 : decode cX6_init 12 = .ok (.aload_n 0, 1) := by decide +kernel
theorem dX6_init_13 : decode cX6_init 13 = .ok (.bipush 6, 2) := by decide +kernel
theorem dX6_init_15 : decode cX6_init 15 = .ok (.newarray .int, 2) := by decide +kernel
theorem dX6_init_17 : decode cX6_init 17 = .ok (.putfield 15, 3) := by decide +kernel
theorem dX6_init_20 : decode cX6_init 20 = .ok (.aload_n 0, 1) := by decide +kernel
theorem dX6_init_21 : decode cX6_init 21 = .ok (.bipush 6, 2) := by decide +kernel
theorem dX6_init_23 : decode cX6_init 23 = .ok (.newarray .long, 2) := by decide +kernel
theorem dX6_init_25 : decode cX6_init 25 = .ok (.putfield 18, 3) := by decide +kernel
theorem dX6_init_28 : decode cX6_init 28 = .ok (.aload_n 0, 1) := by decide +kernel
theorem dX6_init_29 : decode cX6_init 29 = .ok (.sipush 216, 3) := by decide +kernel
theorem dX6_init_32 : decode cX6_init 32 = .ok (.newarray .long, 2) := by decide +kernel
theorem dX6_init_34 : decode cX6_init 34 = .ok (.putfield 22, 3) := by decide +kernel
theorem dX6_init_37 : decode cX6_init 37 = .ok (.aload_n 0, 1) := by decide +kernel
theorem dX6_init_38 : decode cX6_init 38 = .ok (.bipush 7, 2) := by decide +kernel
theorem dX6_init_40 : decode cX6_init 40 = .ok (.newarray .long, 2) := by decide +kernel
theorem dX6_init_42 : decode cX6_init 42 = .ok (.putfield 25, 3) := by decide +kernel
theorem dX6_init_45 : decode cX6_init 45 = .ok (.aload_n 0, 1) := by decide +kernel
theorem dX6_init_46 : decode cX6_init 46 = .ok (.bipush 6, 2) := by decide +kernel
theorem dX6_init_48 : decode cX6_init 48 = .ok (.newarray .long, 2) := by decide +kernel
theorem dX6_init_50 : decode cX6_init 50 = .ok (.putfield 28, 3) := by decide +kernel
theorem dX6_init_53 : decode cX6_init 53 = .ok (.aload_n 0, 1) := by decide +kernel
theorem dX6_init_54 : decode cX6_init 54 = .ok (.bipush 6, 2) := by decide +kernel
theorem dX6_init_56 : decode cX6_init 56 = .ok (.newarray .int, 2) := by decide +kernel
theorem dX6_init_58 : decode cX6_init 58 = .ok (.putfield 31, 3) := by decide +kernel
theorem dX6_init_61 : decode cX6_init 61 = .ok (.aload_n 0, 1) := by decide +kernel
theorem dX6_init_62 : decode cX6_init 62 = .ok (.bipush 6, 2) := by decide +kernel
theorem dX6_init_64 : decode cX6_init 64 = .ok (.newarray .int, 2) := by decide +kernel
theorem dX6_init_66 : decode cX6_init 66 = .ok (.putfield 34, 3) := by decide +kernel
theorem dX6_init_69 : decode cX6_init 69 = .ok (.aload_n 0, 1) := by decide +kernel
theorem dX6_init_70 : decode cX6_init 70 = .ok (.iconst 1, 1) := by decide +kernel
theorem dX6_init_71 : decode cX6_init 71 = .ok (.invokevirtual 37, 3) := by decide +kernel
theorem dX6_init_74 : decode cX6_init 74 = .ok (.return_, 1) := by decide +kernel
theorem dX6_place_0 : decode cX6_place 0 = .ok (.iload_n 0, 1) := by decide +kernel
theorem dX6_place_1 : decode cX6_place 1 = .ok (.bipush 6, 2) := by decide +kernel
theorem dX6_place_3 : decode cX6_place 3 = .ok (.imul, 1) := by decide +kernel
theorem dX6_place_4 : decode cX6_place 4 = .ok (.iload_n 1, 1) := by decide +kernel
theorem dX6_place_5 : decode cX6_place 5 = .ok (.iadd, 1) := by decide +kernel
theorem dX6_place_6 : decode cX6_place 6 = .ok (.bipush 6, 2) := by decide +kernel
theorem dX6_place_8 : decode cX6_place 8 = .ok (.imul, 1) := by decide +kernel
theorem dX6_place_9 : decode cX6_place 9 = .ok (.iload_n 2, 1) := by decide +kernel
theorem dX6_place_10 : decode cX6_place 10 = .ok (.iadd, 1) := by decide +kernel
theorem dX6_place_11 : decode cX6_place 11 = .ok (.ireturn, 1) := by decide +kernel
theorem dX6_lay_0 : decode cX6_lay 0 = .ok (.aload_n 0, 1) := by decide +kernel
theorem dX6_lay_1 : decode cX6_lay 1 = .ok (.iload_n 1, 1) := by decide +kernel
theorem dX6_lay_2 : decode cX6_lay 2 = .ok (.putfield 41, 3) := by decide +kernel
theorem dX6_lay_5 : decode cX6_lay 5 = .ok (.aload_n 0, 1) := by decide +kernel
theorem dX6_lay_6 : decode cX6_lay 6 = .ok (.getfield 9, 3) := by decide +kernel
theorem dX6_lay_9 : decode cX6_lay 9 = .ok (.iconst 0, 1) := by decide +kernel
theorem dX6_lay_10 : decode cX6_lay 10 = .ok (.invokestatic 45, 3) := by decide +kernel
theorem dX6_lay_13 : decode cX6_lay 13 = .ok (.aload_n 0, 1) := by decide +kernel
theorem dX6_lay_14 : decode cX6_lay 14 = .ok (.getfield 15, 3) := by decide +kernel
theorem dX6_lay_17 : decode cX6_lay 17 = .ok (.iconst 0, 1) := by decide +kernel
theorem dX6_lay_18 : decode cX6_lay 18 = .ok (.invokestatic 45, 3) := by decide +kernel
theorem dX6_lay_21 : decode cX6_lay 21 = .ok (.iconst 0, 1) := by decide +kernel
theorem dX6_lay_22 : decode cX6_lay 22 = .ok (.istore_n 2, 1) := by decide +kernel
theorem dX6_lay_23 : decode cX6_lay 23 = .ok (.iload_n 2, 1) := by decide +kernel
theorem dX6_lay_24 : decode cX6_lay 24 = .ok (.iload_n 1, 1) := by decide +kernel
theorem dX6_lay_25 : decode cX6_lay 25 = .ok (.if_icmp .ge 25, 3) := by decide +kernel
theorem dX6_lay_28 : decode cX6_lay 28 = .ok (.aload_n 0, 1) := by decide +kernel
theorem dX6_lay_29 : decode cX6_lay 29 = .ok (.getfield 9, 3) := by decide +kernel
theorem dX6_lay_32 : decode cX6_lay 32 = .ok (.iload_n 2, 1) := by decide +kernel
theorem dX6_lay_33 : decode cX6_lay 33 = .ok (.iconst 1, 1) := by decide +kernel
theorem dX6_lay_34 : decode cX6_lay 34 = .ok (.iastore, 1) := by decide +kernel
theorem dX6_lay_35 : decode cX6_lay 35 = .ok (.aload_n 0, 1) := by decide +kernel
theorem dX6_lay_36 : decode cX6_lay 36 = .ok (.getfield 15, 3) := by decide +kernel
theorem dX6_lay_39 : decode cX6_lay 39 = .ok (.iload_n 2, 1) := by decide +kernel
theorem dX6_lay_40 : decode cX6_lay 40 = .ok (.iconst 1, 1) := by decide +kernel
theorem dX6_lay_41 : decode cX6_lay 41 = .ok (.iadd, 1) := by decide +kernel
theorem dX6_lay_42 : decode cX6_lay 42 = .ok (.iconst 1, 1) := by decide +kernel
theorem dX6_lay_43 : decode cX6_lay 43 = .ok (.iastore, 1) := by decide +kernel
theorem dX6_lay_44 : decode cX6_lay 44 = .ok (.iinc 2 1, 3) := by decide +kernel
theorem dX6_lay_47 : decode cX6_lay 47 = .ok (.goto (-24), 3) := by decide +kernel
theorem dX6_lay_50 : decode cX6_lay 50 = .ok (.aload_n 0, 1) := by decide +kernel
theorem dX6_lay_51 : decode cX6_lay 51 = .ok (.iconst 0, 1) := by decide +kernel
theorem dX6_lay_52 : decode cX6_lay 52 = .ok (.putfield 51, 3) := by decide +kernel
theorem dX6_lay_55 : decode cX6_lay 55 = .ok (.return_, 1) := by decide +kernel
theorem dX6_putOnward_0 : decode cX6_putOnward 0 = .ok (.aload_n 0, 1) := by decide +kernel
theorem dX6_putOnward_1 : decode cX6_putOnward 1 = .ok (.getfield 9, 3) := by decide +kernel
theorem dX6_putOnward_4 : decode cX6_putOnward 4 = .ok (.iload_n 1, 1) := by decide +kernel
theorem dX6_putOnward_5 : decode cX6_putOnward 5 = .ok (.iload_n 2, 1) := by decide +kernel
theorem dX6_putOnward_6 : decode cX6_putOnward 6 = .ok (.iastore, 1) := by decide +kernel
theorem dX6_putOnward_7 : decode cX6_putOnward 7 = .ok (.aload_n 0, 1) := by decide +kernel
theorem dX6_putOnward_8 : decode cX6_putOnward 8 = .ok (.iconst 0, 1) := by decide +kernel
theorem dX6_putOnward_9 : decode cX6_putOnward 9 = .ok (.putfield 51, 3) := by decide +kernel
theorem dX6_putOnward_12 : decode cX6_putOnward 12 = .ok (.iconst 1, 1) := by decide +kernel
theorem dX6_putOnward_13 : decode cX6_putOnward 13 = .ok (.ireturn, 1) := by decide +kernel
theorem dX6_putBackward_0 : decode cX6_putBackward 0 = .ok (.aload_n 0, 1) := by decide +kernel
theorem dX6_putBackward_1 : decode cX6_putBackward 1 = .ok (.getfield 15, 3) := by decide +kernel
theorem dX6_putBackward_4 : decode cX6_putBackward 4 = .ok (.iload_n 1, 1) := by decide +kernel
theorem dX6_putBackward_5 : decode cX6_putBackward 5 = .ok (.iload_n 2, 1) := by decide +kernel
theorem dX6_putBackward_6 : decode cX6_putBackward 6 = .ok (.iastore, 1) := by decide +kernel
theorem dX6_putBackward_7 : decode cX6_putBackward 7 = .ok (.aload_n 0, 1) := by decide +kernel
theorem dX6_putBackward_8 : decode cX6_putBackward 8 = .ok (.iconst 0, 1) := by decide +kernel
theorem dX6_putBackward_9 : decode cX6_putBackward 9 = .ok (.putfield 51, 3) := by decide +kernel
theorem dX6_putBackward_12 : decode cX6_putBackward 12 = .ok (.iconst 1, 1) := by decide +kernel
theorem dX6_putBackward_13 : decode cX6_putBackward 13 = .ok (.ireturn, 1) := by decide +kernel
theorem dX6_hasRow_0 : decode cX6_hasRow 0 = .ok (.iload_n 1, 1) := by decide +kernel
theorem dX6_hasRow_1 : decode cX6_hasRow 1 = .ok (.ifCond .lt 15, 3) := by decide +kernel
theorem dX6_hasRow_4 : decode cX6_hasRow 4 = .ok (.iload_n 1, 1) := by decide +kernel
theorem dX6_hasRow_5 : decode cX6_hasRow 5 = .ok (.aload_n 0, 1) := by decide +kernel
theorem dX6_hasRow_6 : decode cX6_hasRow 6 = .ok (.getfield 41, 3) := by decide +kernel
theorem dX6_hasRow_9 : decode cX6_hasRow 9 = .ok (.if_icmp .gt 7, 3) := by decide +kernel
theorem dX6_hasRow_12 : decode cX6_hasRow 12 = .ok (.iconst 1, 1) := by decide +kernel
theorem dX6_hasRow_13 : decode cX6_hasRow 13 = .ok (.goto 4, 3) := by decide +kernel
theorem dX6_hasRow_16 : decode cX6_hasRow 16 = .ok (.iconst 0, 1) := by decide +kernel
theorem dX6_hasRow_17 : decode cX6_hasRow 17 = .ok (.ireturn, 1) := by decide +kernel
theorem dX6_level_0 : decode cX6_level 0 = .ok (.aload_n 0, 1) := by decide +kernel
theorem dX6_level_1 : decode cX6_level 1 = .ok (.getfield 9, 3) := by decide +kernel
theorem dX6_level_4 : decode cX6_level 4 = .ok (.iconst 0, 1) := by decide +kernel
theorem dX6_level_5 : decode cX6_level 5 = .ok (.iaload, 1) := by decide +kernel
theorem dX6_level_6 : decode cX6_level 6 = .ok (.aload_n 0, 1) := by decide +kernel
theorem dX6_level_7 : decode cX6_level 7 = .ok (.getfield 9, 3) := by decide +kernel
theorem dX6_level_10 : decode cX6_level 10 = .ok (.iload_n 1, 1) := by decide +kernel
theorem dX6_level_11 : decode cX6_level 11 = .ok (.iaload, 1) := by decide +kernel
theorem dX6_level_12 : decode cX6_level 12 = .ok (.isub, 1) := by decide +kernel
theorem dX6_level_13 : decode cX6_level 13 = .ok (.aload_n 0, 1) := by decide +kernel
theorem dX6_level_14 : decode cX6_level 14 = .ok (.getfield 15, 3) := by decide +kernel
theorem dX6_level_17 : decode cX6_level 17 = .ok (.iload_n 1, 1) := by decide +kernel
theorem dX6_level_18 : decode cX6_level 18 = .ok (.iaload, 1) := by decide +kernel
theorem dX6_level_19 : decode cX6_level 19 = .ok (.isub, 1) := by decide +kernel
theorem dX6_level_20 : decode cX6_level 20 = .ok (.ireturn, 1) := by decide +kernel
theorem dX6_keepsLawsTo_0 : decode cX6_keepsLawsTo 0 = .ok (.aload_n 0, 1) := by decide +kernel
theorem dX6_keepsLawsTo_1 : decode cX6_keepsLawsTo 1 = .ok (.invokevirtual 55, 3) := by decide +kernel
theorem dX6_keepsLawsTo_4 : decode cX6_keepsLawsTo 4 = .ok (.istore_n 2, 1) := by decide +kernel
theorem dX6_keepsLawsTo_5 : decode cX6_keepsLawsTo 5 = .ok (.iload_n 2, 1) := by decide +kernel
theorem dX6_keepsLawsTo_6 : decode cX6_keepsLawsTo 6 = .ok (.ifCond .eq 8, 3) := by decide +kernel
theorem dX6_keepsLawsTo_9 : decode cX6_keepsLawsTo 9 = .ok (.iload_n 2, 1) := by decide +kernel
theorem dX6_keepsLawsTo_10 : decode cX6_keepsLawsTo 10 = .ok (.iload_n 1, 1) := by decide +kernel
theorem dX6_keepsLawsTo_11 : decode cX6_keepsLawsTo 11 = .ok (.if_icmp .le 7, 3) := by decide +kernel
theorem dX6_keepsLawsTo_14 : decode cX6_keepsLawsTo 14 = .ok (.iconst 1, 1) := by decide +kernel
theorem dX6_keepsLawsTo_15 : decode cX6_keepsLawsTo 15 = .ok (.goto 4, 3) := by decide +kernel
theorem dX6_keepsLawsTo_18 : decode cX6_keepsLawsTo 18 = .ok (.iconst 0, 1) := by decide +kernel
theorem dX6_keepsLawsTo_19 : decode cX6_keepsLawsTo 19 = .ok (.ireturn, 1) := by decide +kernel
theorem dX6_firstBroken_0 : decode cX6_firstBroken 0 = .ok (.aload_n 0, 1) := by decide +kernel
theorem dX6_firstBroken_1 : decode cX6_firstBroken 1 = .ok (.getfield 51, 3) := by decide +kernel
theorem dX6_firstBroken_4 : decode cX6_firstBroken 4 = .ok (.ifCond .ne 16, 3) := by decide +kernel
theorem dX6_firstBroken_7 : decode cX6_firstBroken 7 = .ok (.aload_n 0, 1) := by decide +kernel
theorem dX6_firstBroken_8 : decode cX6_firstBroken 8 = .ok (.aload_n 0, 1) := by decide +kernel
theorem dX6_firstBroken_9 : decode cX6_firstBroken 9 = .ok (.invokevirtual 59, 3) := by decide +kernel
theorem dX6_firstBroken_12 : decode cX6_firstBroken 12 = .ok (.putfield 62, 3) := by decide +kernel
theorem dX6_firstBroken_15 : decode cX6_firstBroken 15 = .ok (.aload_n 0, 1) := by decide +kernel
theorem dX6_firstBroken_16 : decode cX6_firstBroken 16 = .ok (.iconst 1, 1) := by decide +kernel
theorem dX6_firstBroken_17 : decode cX6_firstBroken 17 = .ok (.putfield 51, 3) := by decide +kernel
theorem dX6_firstBroken_20 : decode cX6_firstBroken 20 = .ok (.aload_n 0, 1) := by decide +kernel
theorem dX6_firstBroken_21 : decode cX6_firstBroken 21 = .ok (.getfield 62, 3) := by decide +kernel
theorem dX6_firstBroken_24 : decode cX6_firstBroken 24 = .ok (.ireturn, 1) := by decide +kernel
theorem dX6_judge_0 : decode cX6_judge 0 = .ok (.aload_n 0, 1) := by decide +kernel
theorem dX6_judge_1 : decode cX6_judge 1 = .ok (.invokevirtual 65, 3) := by decide +kernel
theorem dX6_judge_4 : decode cX6_judge 4 = .ok (.ifCond .ne 5, 3) := by decide +kernel
theorem dX6_judge_7 : decode cX6_judge 7 = .ok (.iconst 1, 1) := by decide +kernel
theorem dX6_judge_8 : decode cX6_judge 8 = .ok (.ireturn, 1) := by decide +kernel
theorem dX6_judge_9 : decode cX6_judge 9 = .ok (.aload_n 0, 1) := by decide +kernel
theorem dX6_judge_10 : decode cX6_judge 10 = .ok (.invokevirtual 69, 3) := by decide +kernel
theorem dX6_judge_13 : decode cX6_judge 13 = .ok (.ifCond .ne 5, 3) := by decide +kernel
theorem dX6_judge_16 : decode cX6_judge 16 = .ok (.iconst 2, 1) := by decide +kernel
theorem dX6_judge_17 : decode cX6_judge 17 = .ok (.ireturn, 1) := by decide +kernel
theorem dX6_judge_18 : decode cX6_judge 18 = .ok (.aload_n 0, 1) := by decide +kernel
theorem dX6_judge_19 : decode cX6_judge 19 = .ok (.invokevirtual 72, 3) := by decide +kernel
theorem dX6_judge_22 : decode cX6_judge 22 = .ok (.ifCond .ne 5, 3) := by decide +kernel
theorem dX6_judge_25 : decode cX6_judge 25 = .ok (.iconst 3, 1) := by decide +kernel
theorem dX6_judge_26 : decode cX6_judge 26 = .ok (.ireturn, 1) := by decide +kernel
theorem dX6_judge_27 : decode cX6_judge 27 = .ok (.aload_n 0, 1) := by decide +kernel
theorem dX6_judge_28 : decode cX6_judge 28 = .ok (.invokevirtual 75, 3) := by decide +kernel
theorem dX6_judge_31 : decode cX6_judge 31 = .ok (.ifCond .ne 5, 3) := by decide +kernel
theorem dX6_judge_34 : decode cX6_judge 34 = .ok (.iconst 4, 1) := by decide +kernel
theorem dX6_judge_35 : decode cX6_judge 35 = .ok (.ireturn, 1) := by decide +kernel
theorem dX6_judge_36 : decode cX6_judge 36 = .ok (.aload_n 0, 1) := by decide +kernel
theorem dX6_judge_37 : decode cX6_judge 37 = .ok (.invokevirtual 78, 3) := by decide +kernel
theorem dX6_judge_40 : decode cX6_judge 40 = .ok (.ifCond .ne 5, 3) := by decide +kernel
theorem dX6_judge_43 : decode cX6_judge 43 = .ok (.iconst 5, 1) := by decide +kernel
theorem dX6_judge_44 : decode cX6_judge 44 = .ok (.ireturn, 1) := by decide +kernel
theorem dX6_judge_45 : decode cX6_judge 45 = .ok (.aload_n 0, 1) := by decide +kernel
theorem dX6_judge_46 : decode cX6_judge 46 = .ok (.invokevirtual 81, 3) := by decide +kernel
theorem dX6_judge_49 : decode cX6_judge 49 = .ok (.aload_n 0, 1) := by decide +kernel
theorem dX6_judge_50 : decode cX6_judge 50 = .ok (.invokevirtual 84, 3) := by decide +kernel
theorem dX6_judge_53 : decode cX6_judge 53 = .ok (.ifCond .ne 6, 3) := by decide +kernel
theorem dX6_judge_56 : decode cX6_judge 56 = .ok (.bipush 6, 2) := by decide +kernel
theorem dX6_judge_58 : decode cX6_judge 58 = .ok (.ireturn, 1) := by decide +kernel
theorem dX6_judge_59 : decode cX6_judge 59 = .ok (.aload_n 0, 1) := by decide +kernel
theorem dX6_judge_60 : decode cX6_judge 60 = .ok (.invokevirtual 87, 3) := by decide +kernel
theorem dX6_judge_63 : decode cX6_judge 63 = .ok (.ifCond .eq 7, 3) := by decide +kernel
theorem dX6_judge_66 : decode cX6_judge 66 = .ok (.iconst 0, 1) := by decide +kernel
theorem dX6_judge_67 : decode cX6_judge 67 = .ok (.goto 5, 3) := by decide +kernel
theorem dX6_judge_70 : decode cX6_judge 70 = .ok (.bipush 7, 2) := by decide +kernel
theorem dX6_judge_72 : decode cX6_judge 72 = .ok (.ireturn, 1) := by decide +kernel
theorem dX6_isPositive_0 : decode cX6_isPositive 0 = .ok (.iconst 0, 1) := by decide +kernel
theorem dX6_isPositive_1 : decode cX6_isPositive 1 = .ok (.istore_n 1, 1) := by decide +kernel
theorem dX6_isPositive_2 : decode cX6_isPositive 2 = .ok (.iload_n 1, 1) := by decide +kernel
theorem dX6_isPositive_3 : decode cX6_isPositive 3 = .ok (.aload_n 0, 1) := by decide +kernel
theorem dX6_isPositive_4 : decode cX6_isPositive 4 = .ok (.getfield 41, 3) := by decide +kernel
theorem dX6_isPositive_7 : decode cX6_isPositive 7 = .ok (.if_icmp .ge 33, 3) := by decide +kernel
theorem dX6_isPositive_10 : decode cX6_isPositive 10 = .ok (.aload_n 0, 1) := by decide +kernel
theorem dX6_isPositive_11 : decode cX6_isPositive 11 = .ok (.getfield 9, 3) := by decide +kernel
theorem dX6_isPositive_14 : decode cX6_isPositive 14 = .ok (.iload_n 1, 1) := by decide +kernel
theorem dX6_isPositive_15 : decode cX6_isPositive 15 = .ok (.iaload, 1) := by decide +kernel
theorem dX6_isPositive_16 : decode cX6_isPositive 16 = .ok (.iconst 1, 1) := by decide +kernel
theorem dX6_isPositive_17 : decode cX6_isPositive 17 = .ok (.if_icmp .lt 15, 3) := by decide +kernel
theorem dX6_isPositive_20 : decode cX6_isPositive 20 = .ok (.aload_n 0, 1) := by decide +kernel
theorem dX6_isPositive_21 : decode cX6_isPositive 21 = .ok (.getfield 15, 3) := by decide +kernel
theorem dX6_isPositive_24 : decode cX6_isPositive 24 = .ok (.iload_n 1, 1) := by decide +kernel
theorem dX6_isPositive_25 : decode cX6_isPositive 25 = .ok (.iconst 1, 1) := by decide +kernel
theorem dX6_isPositive_26 : decode cX6_isPositive 26 = .ok (.iadd, 1) := by decide +kernel
theorem dX6_isPositive_27 : decode cX6_isPositive 27 = .ok (.iaload, 1) := by decide +kernel
theorem dX6_isPositive_28 : decode cX6_isPositive 28 = .ok (.iconst 1, 1) := by decide +kernel
theorem dX6_isPositive_29 : decode cX6_isPositive 29 = .ok (.if_icmp .ge 5, 3) := by decide +kernel
theorem dX6_isPositive_32 : decode cX6_isPositive 32 = .ok (.iconst 0, 1) := by decide +kernel
theorem dX6_isPositive_33 : decode cX6_isPositive 33 = .ok (.ireturn, 1) := by decide +kernel
theorem dX6_isPositive_34 : decode cX6_isPositive 34 = .ok (.iinc 1 1, 3) := by decide +kernel
theorem dX6_isPositive_37 : decode cX6_isPositive 37 = .ok (.goto (-35), 3) := by decide +kernel
theorem dX6_isPositive_40 : decode cX6_isPositive 40 = .ok (.aload_n 0, 1) := by decide +kernel
theorem dX6_isPositive_41 : decode cX6_isPositive 41 = .ok (.getfield 15, 3) := by decide +kernel
theorem dX6_isPositive_44 : decode cX6_isPositive 44 = .ok (.iconst 1, 1) := by decide +kernel
theorem dX6_isPositive_45 : decode cX6_isPositive 45 = .ok (.iaload, 1) := by decide +kernel
theorem dX6_isPositive_46 : decode cX6_isPositive 46 = .ok (.iconst 1, 1) := by decide +kernel
theorem dX6_isPositive_47 : decode cX6_isPositive 47 = .ok (.if_icmp .ne 7, 3) := by decide +kernel
theorem dX6_isPositive_50 : decode cX6_isPositive 50 = .ok (.iconst 1, 1) := by decide +kernel
theorem dX6_isPositive_51 : decode cX6_isPositive 51 = .ok (.goto 4, 3) := by decide +kernel
theorem dX6_isPositive_54 : decode cX6_isPositive 54 = .ok (.iconst 0, 1) := by decide +kernel
theorem dX6_isPositive_55 : decode cX6_isPositive 55 = .ok (.ireturn, 1) := by decide +kernel
theorem dX6_hasRoom_0 : decode cX6_hasRoom 0 = .ok (.iconst 0, 1) := by decide +kernel
theorem dX6_hasRoom_1 : decode cX6_hasRoom 1 = .ok (.istore_n 1, 1) := by decide +kernel
theorem dX6_hasRoom_2 : decode cX6_hasRoom 2 = .ok (.iload_n 1, 1) := by decide +kernel
theorem dX6_hasRoom_3 : decode cX6_hasRoom 3 = .ok (.aload_n 0, 1) := by decide +kernel
theorem dX6_hasRoom_4 : decode cX6_hasRoom 4 = .ok (.getfield 41, 3) := by decide +kernel
theorem dX6_hasRoom_7 : decode cX6_hasRoom 7 = .ok (.if_icmp .gt 19, 3) := by decide +kernel
theorem dX6_hasRoom_10 : decode cX6_hasRoom 10 = .ok (.aload_n 0, 1) := by decide +kernel
theorem dX6_hasRoom_11 : decode cX6_hasRoom 11 = .ok (.iload_n 1, 1) := by decide +kernel
theorem dX6_hasRoom_12 : decode cX6_hasRoom 12 = .ok (.invokevirtual 90, 3) := by decide +kernel
theorem dX6_hasRoom_15 : decode cX6_hasRoom 15 = .ok (.ifCond .ge 5, 3) := by decide +kernel
theorem dX6_hasRoom_18 : decode cX6_hasRoom 18 = .ok (.iconst 0, 1) := by decide +kernel
theorem dX6_hasRoom_19 : decode cX6_hasRoom 19 = .ok (.ireturn, 1) := by decide +kernel
theorem dX6_hasRoom_20 : decode cX6_hasRoom 20 = .ok (.iinc 1 1, 3) := by decide +kernel
theorem dX6_hasRoom_23 : decode cX6_hasRoom 23 = .ok (.goto (-21), 3) := by decide +kernel
theorem dX6_hasRoom_26 : decode cX6_hasRoom 26 = .ok (.aload_n 0, 1) := by decide +kernel
theorem dX6_hasRoom_27 : decode cX6_hasRoom 27 = .ok (.iconst 0, 1) := by decide +kernel
theorem dX6_hasRoom_28 : decode cX6_hasRoom 28 = .ok (.invokevirtual 90, 3) := by decide +kernel
theorem dX6_hasRoom_31 : decode cX6_hasRoom 31 = .ok (.ifCond .ne 7, 3) := by decide +kernel
theorem dX6_hasRoom_34 : decode cX6_hasRoom 34 = .ok (.iconst 1, 1) := by decide +kernel
theorem dX6_hasRoom_35 : decode cX6_hasRoom 35 = .ok (.goto 4, 3) := by decide +kernel
theorem dX6_hasRoom_38 : decode cX6_hasRoom 38 = .ok (.iconst 0, 1) := by decide +kernel
theorem dX6_hasRoom_39 : decode cX6_hasRoom 39 = .ok (.ireturn, 1) := by decide +kernel
theorem dX6_isInOrder_0 : decode cX6_isInOrder 0 = .ok (.iconst 0, 1) := by decide +kernel
theorem dX6_isInOrder_1 : decode cX6_isInOrder 1 = .ok (.istore_n 1, 1) := by decide +kernel
theorem dX6_isInOrder_2 : decode cX6_isInOrder 2 = .ok (.iload_n 1, 1) := by decide +kernel
theorem dX6_isInOrder_3 : decode cX6_isInOrder 3 = .ok (.aload_n 0, 1) := by decide +kernel
theorem dX6_isInOrder_4 : decode cX6_isInOrder 4 = .ok (.getfield 41, 3) := by decide +kernel
theorem dX6_isInOrder_7 : decode cX6_isInOrder 7 = .ok (.if_icmp .ge 55, 3) := by decide +kernel
theorem dX6_isInOrder_10 : decode cX6_isInOrder 10 = .ok (.aload_n 0, 1) := by decide +kernel
theorem dX6_isInOrder_11 : decode cX6_isInOrder 11 = .ok (.getfield 15, 3) := by decide +kernel
theorem dX6_isInOrder_14 : decode cX6_isInOrder 14 = .ok (.iload_n 1, 1) := by decide +kernel
theorem dX6_isInOrder_15 : decode cX6_isInOrder 15 = .ok (.iaload, 1) := by decide +kernel
theorem dX6_isInOrder_16 : decode cX6_isInOrder 16 = .ok (.aload_n 0, 1) := by decide +kernel
theorem dX6_isInOrder_17 : decode cX6_isInOrder 17 = .ok (.getfield 15, 3) := by decide +kernel
theorem dX6_isInOrder_20 : decode cX6_isInOrder 20 = .ok (.iload_n 1, 1) := by decide +kernel
theorem dX6_isInOrder_21 : decode cX6_isInOrder 21 = .ok (.iconst 1, 1) := by decide +kernel
theorem dX6_isInOrder_22 : decode cX6_isInOrder 22 = .ok (.iadd, 1) := by decide +kernel
theorem dX6_isInOrder_23 : decode cX6_isInOrder 23 = .ok (.iaload, 1) := by decide +kernel
theorem dX6_isInOrder_24 : decode cX6_isInOrder 24 = .ok (.if_icmp .gt 30, 3) := by decide +kernel
theorem dX6_isInOrder_27 : decode cX6_isInOrder 27 = .ok (.iload_n 1, 1) := by decide +kernel
theorem dX6_isInOrder_28 : decode cX6_isInOrder 28 = .ok (.iconst 1, 1) := by decide +kernel
theorem dX6_isInOrder_29 : decode cX6_isInOrder 29 = .ok (.iadd, 1) := by decide +kernel
theorem dX6_isInOrder_30 : decode cX6_isInOrder 30 = .ok (.aload_n 0, 1) := by decide +kernel
theorem dX6_isInOrder_31 : decode cX6_isInOrder 31 = .ok (.getfield 41, 3) := by decide +kernel
theorem dX6_isInOrder_34 : decode cX6_isInOrder 34 = .ok (.if_icmp .ge 22, 3) := by decide +kernel
theorem dX6_isInOrder_37 : decode cX6_isInOrder 37 = .ok (.aload_n 0, 1) := by decide +kernel
theorem dX6_isInOrder_38 : decode cX6_isInOrder 38 = .ok (.getfield 9, 3) := by decide +kernel
theorem dX6_isInOrder_41 : decode cX6_isInOrder 41 = .ok (.iload_n 1, 1) := by decide +kernel
theorem dX6_isInOrder_42 : decode cX6_isInOrder 42 = .ok (.iaload, 1) := by decide +kernel
theorem dX6_isInOrder_43 : decode cX6_isInOrder 43 = .ok (.aload_n 0, 1) := by decide +kernel
theorem dX6_isInOrder_44 : decode cX6_isInOrder 44 = .ok (.getfield 9, 3) := by decide +kernel
theorem dX6_isInOrder_47 : decode cX6_isInOrder 47 = .ok (.iload_n 1, 1) := by decide +kernel
theorem dX6_isInOrder_48 : decode cX6_isInOrder 48 = .ok (.iconst 1, 1) := by decide +kernel
theorem dX6_isInOrder_49 : decode cX6_isInOrder 49 = .ok (.iadd, 1) := by decide +kernel
theorem dX6_isInOrder_50 : decode cX6_isInOrder 50 = .ok (.iaload, 1) := by decide +kernel
theorem dX6_isInOrder_51 : decode cX6_isInOrder 51 = .ok (.if_icmp .ge 5, 3) := by decide +kernel
theorem dX6_isInOrder_54 : decode cX6_isInOrder 54 = .ok (.iconst 0, 1) := by decide +kernel
theorem dX6_isInOrder_55 : decode cX6_isInOrder 55 = .ok (.ireturn, 1) := by decide +kernel
theorem dX6_isInOrder_56 : decode cX6_isInOrder 56 = .ok (.iinc 1 1, 3) := by decide +kernel
theorem dX6_isInOrder_59 : decode cX6_isInOrder 59 = .ok (.goto (-57), 3) := by decide +kernel
theorem dX6_isInOrder_62 : decode cX6_isInOrder 62 = .ok (.iconst 1, 1) := by decide +kernel
theorem dX6_isInOrder_63 : decode cX6_isInOrder 63 = .ok (.ireturn, 1) := by decide +kernel
theorem dX6_countLayers_0 : decode cX6_countLayers 0 = .ok (.aload_n 0, 1) := by decide +kernel
theorem dX6_countLayers_1 : decode cX6_countLayers 1 = .ok (.getfield 18, 3) := by decide +kernel
theorem dX6_countLayers_4 : decode cX6_countLayers 4 = .ok (.iconst 0, 1) := by decide +kernel
theorem dX6_countLayers_5 : decode cX6_countLayers 5 = .ok (.lconst 1, 1) := by decide +kernel
theorem dX6_countLayers_6 : decode cX6_countLayers 6 = .ok (.lastore, 1) := by decide +kernel
theorem dX6_countLayers_7 : decode cX6_countLayers 7 = .ok (.aload_n 0, 1) := by decide +kernel
theorem dX6_countLayers_8 : decode cX6_countLayers 8 = .ok (.lconst 1, 1) := by decide +kernel
theorem dX6_countLayers_9 : decode cX6_countLayers 9 = .ok (.putfield 94, 3) := by decide +kernel
theorem dX6_countLayers_12 : decode cX6_countLayers 12 = .ok (.iconst 1, 1) := by decide +kernel
theorem dX6_countLayers_13 : decode cX6_countLayers 13 = .ok (.istore_n 1, 1) := by decide +kernel
theorem dX6_countLayers_14 : decode cX6_countLayers 14 = .ok (.iload_n 1, 1) := by decide +kernel
theorem dX6_countLayers_15 : decode cX6_countLayers 15 = .ok (.aload_n 0, 1) := by decide +kernel
theorem dX6_countLayers_16 : decode cX6_countLayers 16 = .ok (.getfield 41, 3) := by decide +kernel
theorem dX6_countLayers_19 : decode cX6_countLayers 19 = .ok (.if_icmp .gt 83, 3) := by decide +kernel
theorem dX6_countLayers_22 : decode cX6_countLayers 22 = .ok (.aload_n 0, 1) := by decide +kernel
theorem dX6_countLayers_23 : decode cX6_countLayers 23 = .ok (.getfield 18, 3) := by decide +kernel
theorem dX6_countLayers_26 : decode cX6_countLayers 26 = .ok (.iload_n 1, 1) := by decide +kernel
theorem dX6_countLayers_27 : decode cX6_countLayers 27 = .ok (.iconst 1, 1) := by decide +kernel
theorem dX6_countLayers_28 : decode cX6_countLayers 28 = .ok (.isub, 1) := by decide +kernel
theorem dX6_countLayers_29 : decode cX6_countLayers 29 = .ok (.laload, 1) := by decide +kernel
theorem dX6_countLayers_30 : decode cX6_countLayers 30 = .ok (.aload_n 0, 1) := by decide +kernel
theorem dX6_countLayers_31 : decode cX6_countLayers 31 = .ok (.getfield 9, 3) := by decide +kernel
theorem dX6_countLayers_34 : decode cX6_countLayers 34 = .ok (.iload_n 1, 1) := by decide +kernel
theorem dX6_countLayers_35 : decode cX6_countLayers 35 = .ok (.iconst 1, 1) := by decide +kernel
theorem dX6_countLayers_36 : decode cX6_countLayers 36 = .ok (.isub, 1) := by decide +kernel
theorem dX6_countLayers_37 : decode cX6_countLayers 37 = .ok (.iaload, 1) := by decide +kernel
theorem dX6_countLayers_38 : decode cX6_countLayers 38 = .ok (.i2l, 1) := by decide +kernel
theorem dX6_countLayers_39 : decode cX6_countLayers 39 = .ok (.lmul, 1) := by decide +kernel
theorem dX6_countLayers_40 : decode cX6_countLayers 40 = .ok (.lstore_n 2, 1) := by decide +kernel
theorem dX6_countLayers_41 : decode cX6_countLayers 41 = .ok (.aload_n 0, 1) := by decide +kernel
theorem dX6_countLayers_42 : decode cX6_countLayers 42 = .ok (.getfield 15, 3) := by decide +kernel
theorem dX6_countLayers_45 : decode cX6_countLayers 45 = .ok (.iload_n 1, 1) := by decide +kernel
theorem dX6_countLayers_46 : decode cX6_countLayers 46 = .ok (.iaload, 1) := by decide +kernel
theorem dX6_countLayers_47 : decode cX6_countLayers 47 = .ok (.ifCond .eq 17, 3) := by decide +kernel
theorem dX6_countLayers_50 : decode cX6_countLayers 50 = .ok (.lload_n 2, 1) := by decide +kernel
theorem dX6_countLayers_51 : decode cX6_countLayers 51 = .ok (.aload_n 0, 1) := by decide +kernel
theorem dX6_countLayers_52 : decode cX6_countLayers 52 = .ok (.getfield 15, 3) := by decide +kernel
theorem dX6_countLayers_55 : decode cX6_countLayers 55 = .ok (.iload_n 1, 1) := by decide +kernel
theorem dX6_countLayers_56 : decode cX6_countLayers 56 = .ok (.iaload, 1) := by decide +kernel
theorem dX6_countLayers_57 : decode cX6_countLayers 57 = .ok (.i2l, 1) := by decide +kernel
theorem dX6_countLayers_58 : decode cX6_countLayers 58 = .ok (.lrem, 1) := by decide +kernel
theorem dX6_countLayers_59 : decode cX6_countLayers 59 = .ok (.lconst 0, 1) := by decide +kernel
theorem dX6_countLayers_60 : decode cX6_countLayers 60 = .ok (.lcmp, 1) := by decide +kernel
theorem dX6_countLayers_61 : decode cX6_countLayers 61 = .ok (.ifCond .eq 5, 3) := by decide +kernel
theorem dX6_countLayers_64 : decode cX6_countLayers 64 = .ok (.iconst 0, 1) := by decide +kernel
theorem dX6_countLayers_65 : decode cX6_countLayers 65 = .ok (.ireturn, 1) := by decide +kernel
theorem dX6_countLayers_66 : decode cX6_countLayers 66 = .ok (.aload_n 0, 1) := by decide +kernel
theorem dX6_countLayers_67 : decode cX6_countLayers 67 = .ok (.getfield 18, 3) := by decide +kernel
theorem dX6_countLayers_70 : decode cX6_countLayers 70 = .ok (.iload_n 1, 1) := by decide +kernel
theorem dX6_countLayers_71 : decode cX6_countLayers 71 = .ok (.lload_n 2, 1) := by decide +kernel
theorem dX6_countLayers_72 : decode cX6_countLayers 72 = .ok (.aload_n 0, 1) := by decide +kernel
theorem dX6_countLayers_73 : decode cX6_countLayers 73 = .ok (.getfield 15, 3) := by decide +kernel
theorem dX6_countLayers_76 : decode cX6_countLayers 76 = .ok (.iload_n 1, 1) := by decide +kernel
theorem dX6_countLayers_77 : decode cX6_countLayers 77 = .ok (.iaload, 1) := by decide +kernel
theorem dX6_countLayers_78 : decode cX6_countLayers 78 = .ok (.i2l, 1) := by decide +kernel
theorem dX6_countLayers_79 : decode cX6_countLayers 79 = .ok (.ldiv, 1) := by decide +kernel
theorem dX6_countLayers_80 : decode cX6_countLayers 80 = .ok (.lastore, 1) := by decide +kernel
theorem dX6_countLayers_81 : decode cX6_countLayers 81 = .ok (.aload_n 0, 1) := by decide +kernel
theorem dX6_countLayers_82 : decode cX6_countLayers 82 = .ok (.dup, 1) := by decide +kernel
theorem dX6_countLayers_83 : decode cX6_countLayers 83 = .ok (.getfield 94, 3) := by decide +kernel
theorem dX6_countLayers_86 : decode cX6_countLayers 86 = .ok (.aload_n 0, 1) := by decide +kernel
theorem dX6_countLayers_87 : decode cX6_countLayers 87 = .ok (.getfield 18, 3) := by decide +kernel
theorem dX6_countLayers_90 : decode cX6_countLayers 90 = .ok (.iload_n 1, 1) := by decide +kernel
theorem dX6_countLayers_91 : decode cX6_countLayers 91 = .ok (.laload, 1) := by decide +kernel
theorem dX6_countLayers_92 : decode cX6_countLayers 92 = .ok (.ladd, 1) := by decide +kernel
theorem dX6_countLayers_93 : decode cX6_countLayers 93 = .ok (.putfield 94, 3) := by decide +kernel
theorem dX6_countLayers_96 : decode cX6_countLayers 96 = .ok (.iinc 1 1, 3) := by decide +kernel
theorem dX6_countLayers_99 : decode cX6_countLayers 99 = .ok (.goto (-85), 3) := by decide +kernel
theorem dX6_countLayers_102 : decode cX6_countLayers 102 = .ok (.aload_n 0, 1) := by decide +kernel
theorem dX6_countLayers_103 : decode cX6_countLayers 103 = .ok (.getfield 94, 3) := by decide +kernel
theorem dX6_countLayers_106 : decode cX6_countLayers 106 = .ok (.ldc2_w 98, 3) := by decide +kernel
theorem dX6_countLayers_109 : decode cX6_countLayers 109 = .ok (.lcmp, 1) := by decide +kernel
theorem dX6_countLayers_110 : decode cX6_countLayers 110 = .ok (.ifCond .gt 7, 3) := by decide +kernel
theorem dX6_countLayers_113 : decode cX6_countLayers 113 = .ok (.iconst 1, 1) := by decide +kernel
theorem dX6_countLayers_114 : decode cX6_countLayers 114 = .ok (.goto 4, 3) := by decide +kernel
theorem dX6_countLayers_117 : decode cX6_countLayers 117 = .ok (.iconst 0, 1) := by decide +kernel
theorem dX6_countLayers_118 : decode cX6_countLayers 118 = .ok (.ireturn, 1) := by decide +kernel
theorem dX6_isPaired_0 : decode cX6_isPaired 0 = .ok (.iconst 0, 1) := by decide +kernel
theorem dX6_isPaired_1 : decode cX6_isPaired 1 = .ok (.istore_n 1, 1) := by decide +kernel
theorem dX6_isPaired_2 : decode cX6_isPaired 2 = .ok (.iload_n 1, 1) := by decide +kernel
theorem dX6_isPaired_3 : decode cX6_isPaired 3 = .ok (.aload_n 0, 1) := by decide +kernel
theorem dX6_isPaired_4 : decode cX6_isPaired 4 = .ok (.getfield 41, 3) := by decide +kernel
theorem dX6_isPaired_7 : decode cX6_isPaired 7 = .ok (.if_icmp .gt 33, 3) := by decide +kernel
theorem dX6_isPaired_10 : decode cX6_isPaired 10 = .ok (.aload_n 0, 1) := by decide +kernel
theorem dX6_isPaired_11 : decode cX6_isPaired 11 = .ok (.getfield 18, 3) := by decide +kernel
theorem dX6_isPaired_14 : decode cX6_isPaired 14 = .ok (.iload_n 1, 1) := by decide +kernel
theorem dX6_isPaired_15 : decode cX6_isPaired 15 = .ok (.laload, 1) := by decide +kernel
theorem dX6_isPaired_16 : decode cX6_isPaired 16 = .ok (.aload_n 0, 1) := by decide +kernel
theorem dX6_isPaired_17 : decode cX6_isPaired 17 = .ok (.iload_n 1, 1) := by decide +kernel
theorem dX6_isPaired_18 : decode cX6_isPaired 18 = .ok (.invokevirtual 90, 3) := by decide +kernel
theorem dX6_isPaired_21 : decode cX6_isPaired 21 = .ok (.i2l, 1) := by decide +kernel
theorem dX6_isPaired_22 : decode cX6_isPaired 22 = .ok (.lmul, 1) := by decide +kernel
theorem dX6_isPaired_23 : decode cX6_isPaired 23 = .ok (.ldc2_w 100, 3) := by decide +kernel
theorem dX6_isPaired_26 : decode cX6_isPaired 26 = .ok (.lrem, 1) := by decide +kernel
theorem dX6_isPaired_27 : decode cX6_isPaired 27 = .ok (.lconst 0, 1) := by decide +kernel
theorem dX6_isPaired_28 : decode cX6_isPaired 28 = .ok (.lcmp, 1) := by decide +kernel
theorem dX6_isPaired_29 : decode cX6_isPaired 29 = .ok (.ifCond .eq 5, 3) := by decide +kernel
theorem dX6_isPaired_32 : decode cX6_isPaired 32 = .ok (.iconst 0, 1) := by decide +kernel
theorem dX6_isPaired_33 : decode cX6_isPaired 33 = .ok (.ireturn, 1) := by decide +kernel
theorem dX6_isPaired_34 : decode cX6_isPaired 34 = .ok (.iinc 1 1, 3) := by decide +kernel
theorem dX6_isPaired_37 : decode cX6_isPaired 37 = .ok (.goto (-35), 3) := by decide +kernel
theorem dX6_isPaired_40 : decode cX6_isPaired 40 = .ok (.aload_n 0, 1) := by decide +kernel
theorem dX6_isPaired_41 : decode cX6_isPaired 41 = .ok (.getfield 9, 3) := by decide +kernel
theorem dX6_isPaired_44 : decode cX6_isPaired 44 = .ok (.iconst 0, 1) := by decide +kernel
theorem dX6_isPaired_45 : decode cX6_isPaired 45 = .ok (.iaload, 1) := by decide +kernel
theorem dX6_isPaired_46 : decode cX6_isPaired 46 = .ok (.i2l, 1) := by decide +kernel
theorem dX6_isPaired_47 : decode cX6_isPaired 47 = .ok (.aload_n 0, 1) := by decide +kernel
theorem dX6_isPaired_48 : decode cX6_isPaired 48 = .ok (.getfield 94, 3) := by decide +kernel
theorem dX6_isPaired_51 : decode cX6_isPaired 51 = .ok (.lmul, 1) := by decide +kernel
theorem dX6_isPaired_52 : decode cX6_isPaired 52 = .ok (.ldc2_w 100, 3) := by decide +kernel
theorem dX6_isPaired_55 : decode cX6_isPaired 55 = .ok (.lrem, 1) := by decide +kernel
theorem dX6_isPaired_56 : decode cX6_isPaired 56 = .ok (.lconst 0, 1) := by decide +kernel
theorem dX6_isPaired_57 : decode cX6_isPaired 57 = .ok (.lcmp, 1) := by decide +kernel
theorem dX6_isPaired_58 : decode cX6_isPaired 58 = .ok (.ifCond .ne 7, 3) := by decide +kernel
theorem dX6_isPaired_61 : decode cX6_isPaired 61 = .ok (.iconst 1, 1) := by decide +kernel
theorem dX6_isPaired_62 : decode cX6_isPaired 62 = .ok (.goto 4, 3) := by decide +kernel
theorem dX6_isPaired_65 : decode cX6_isPaired 65 = .ok (.iconst 0, 1) := by decide +kernel
theorem dX6_isPaired_66 : decode cX6_isPaired 66 = .ok (.ireturn, 1) := by decide +kernel
theorem dX6_layFirstThirds_0 : decode cX6_layFirstThirds 0 = .ok (.iconst 0, 1) := by decide +kernel
theorem dX6_layFirstThirds_1 : decode cX6_layFirstThirds 1 = .ok (.istore_n 1, 1) := by decide +kernel
theorem dX6_layFirstThirds_2 : decode cX6_layFirstThirds 2 = .ok (.iload_n 1, 1) := by decide +kernel
theorem dX6_layFirstThirds_3 : decode cX6_layFirstThirds 3 = .ok (.aload_n 0, 1) := by decide +kernel
theorem dX6_layFirstThirds_4 : decode cX6_layFirstThirds 4 = .ok (.getfield 41, 3) := by decide +kernel
theorem dX6_layFirstThirds_7 : decode cX6_layFirstThirds 7 = .ok (.if_icmp .gt 64, 3) := by decide +kernel
theorem dX6_layFirstThirds_10 : decode cX6_layFirstThirds 10 = .ok (.iconst 0, 1) := by decide +kernel
theorem dX6_layFirstThirds_11 : decode cX6_layFirstThirds 11 = .ok (.istore_n 2, 1) := by decide +kernel
theorem dX6_layFirstThirds_12 : decode cX6_layFirstThirds 12 = .ok (.iload_n 2, 1) := by decide +kernel
theorem dX6_layFirstThirds_13 : decode cX6_layFirstThirds 13 = .ok (.aload_n 0, 1) := by decide +kernel
theorem dX6_layFirstThirds_14 : decode cX6_layFirstThirds 14 = .ok (.getfield 41, 3) := by decide +kernel
theorem dX6_layFirstThirds_17 : decode cX6_layFirstThirds 17 = .ok (.if_icmp .gt 48, 3) := by decide +kernel
theorem dX6_layFirstThirds_20 : decode cX6_layFirstThirds 20 = .ok (.aload_n 0, 1) := by decide +kernel
theorem dX6_layFirstThirds_21 : decode cX6_layFirstThirds 21 = .ok (.getfield 22, 3) := by decide +kernel
theorem dX6_layFirstThirds_24 : decode cX6_layFirstThirds 24 = .ok (.iload_n 1, 1) := by decide +kernel
theorem dX6_layFirstThirds_25 : decode cX6_layFirstThirds 25 = .ok (.iconst 0, 1) := by decide +kernel
theorem dX6_layFirstThirds_26 : decode cX6_layFirstThirds 26 = .ok (.iload_n 2, 1) := by decide +kernel
theorem dX6_layFirstThirds_27 : decode cX6_layFirstThirds 27 = .ok (.invokestatic 102, 3) := by decide +kernel
theorem dX6_layFirstThirds_30 : decode cX6_layFirstThirds 30 = .ok (.iload_n 2, 1) := by decide +kernel
theorem dX6_layFirstThirds_31 : decode cX6_layFirstThirds 31 = .ok (.iload_n 1, 1) := by decide +kernel
theorem dX6_layFirstThirds_32 : decode cX6_layFirstThirds 32 = .ok (.if_icmp .ne 7, 3) := by decide +kernel
theorem dX6_layFirstThirds_35 : decode cX6_layFirstThirds 35 = .ok (.lconst 1, 1) := by decide +kernel
theorem dX6_layFirstThirds_36 : decode cX6_layFirstThirds 36 = .ok (.goto 4, 3) := by decide +kernel
theorem dX6_layFirstThirds_39 : decode cX6_layFirstThirds 39 = .ok (.lconst 0, 1) := by decide +kernel
theorem dX6_layFirstThirds_40 : decode cX6_layFirstThirds 40 = .ok (.lastore, 1) := by decide +kernel
theorem dX6_layFirstThirds_41 : decode cX6_layFirstThirds 41 = .ok (.aload_n 0, 1) := by decide +kernel
theorem dX6_layFirstThirds_42 : decode cX6_layFirstThirds 42 = .ok (.getfield 22, 3) := by decide +kernel
theorem dX6_layFirstThirds_45 : decode cX6_layFirstThirds 45 = .ok (.iload_n 1, 1) := by decide +kernel
theorem dX6_layFirstThirds_46 : decode cX6_layFirstThirds 46 = .ok (.iconst 1, 1) := by decide +kernel
theorem dX6_layFirstThirds_47 : decode cX6_layFirstThirds 47 = .ok (.iload_n 2, 1) := by decide +kernel
theorem dX6_layFirstThirds_48 : decode cX6_layFirstThirds 48 = .ok (.invokestatic 102, 3) := by decide +kernel
theorem dX6_layFirstThirds_51 : decode cX6_layFirstThirds 51 = .ok (.aload_n 0, 1) := by decide +kernel
theorem dX6_layFirstThirds_52 : decode cX6_layFirstThirds 52 = .ok (.iload_n 1, 1) := by decide +kernel
theorem dX6_layFirstThirds_53 : decode cX6_layFirstThirds 53 = .ok (.iload_n 2, 1) := by decide +kernel
theorem dX6_layFirstThirds_54 : decode cX6_layFirstThirds 54 = .ok (.invokevirtual 106, 3) := by decide +kernel
theorem dX6_layFirstThirds_57 : decode cX6_layFirstThirds 57 = .ok (.i2l, 1) := by decide +kernel
theorem dX6_layFirstThirds_58 : decode cX6_layFirstThirds 58 = .ok (.lastore, 1) := by decide +kernel
theorem dX6_layFirstThirds_59 : decode cX6_layFirstThirds 59 = .ok (.iinc 2 1, 3) := by decide +kernel
theorem dX6_layFirstThirds_62 : decode cX6_layFirstThirds 62 = .ok (.goto (-50), 3) := by decide +kernel
theorem dX6_layFirstThirds_65 : decode cX6_layFirstThirds 65 = .ok (.iinc 1 1, 3) := by decide +kernel
theorem dX6_layFirstThirds_68 : decode cX6_layFirstThirds 68 = .ok (.goto (-66), 3) := by decide +kernel
theorem dX6_layFirstThirds_71 : decode cX6_layFirstThirds 71 = .ok (.return_, 1) := by decide +kernel
theorem dX6_firstThird_0 : decode cX6_firstThird 0 = .ok (.iload_n 2, 1) := by decide +kernel
theorem dX6_firstThird_1 : decode cX6_firstThird 1 = .ok (.iload_n 1, 1) := by decide +kernel
theorem dX6_firstThird_2 : decode cX6_firstThird 2 = .ok (.iconst 1, 1) := by decide +kernel
theorem dX6_firstThird_3 : decode cX6_firstThird 3 = .ok (.isub, 1) := by decide +kernel
theorem dX6_firstThird_4 : decode cX6_firstThird 4 = .ok (.if_icmp .ne 10, 3) := by decide +kernel
theorem dX6_firstThird_7 : decode cX6_firstThird 7 = .ok (.aload_n 0, 1) := by decide +kernel
theorem dX6_firstThird_8 : decode cX6_firstThird 8 = .ok (.getfield 15, 3) := by decide +kernel
theorem dX6_firstThird_11 : decode cX6_firstThird 11 = .ok (.iload_n 1, 1) := by decide +kernel
theorem dX6_firstThird_12 : decode cX6_firstThird 12 = .ok (.iaload, 1) := by decide +kernel
theorem dX6_firstThird_13 : decode cX6_firstThird 13 = .ok (.ireturn, 1) := by decide +kernel
theorem dX6_firstThird_14 : decode cX6_firstThird 14 = .ok (.iload_n 2, 1) := by decide +kernel
theorem dX6_firstThird_15 : decode cX6_firstThird 15 = .ok (.iload_n 1, 1) := by decide +kernel
theorem dX6_firstThird_16 : decode cX6_firstThird 16 = .ok (.if_icmp .ne 9, 3) := by decide +kernel
theorem dX6_firstThird_19 : decode cX6_firstThird 19 = .ok (.aload_n 0, 1) := by decide +kernel
theorem dX6_firstThird_20 : decode cX6_firstThird 20 = .ok (.iload_n 1, 1) := by decide +kernel
theorem dX6_firstThird_21 : decode cX6_firstThird 21 = .ok (.invokevirtual 90, 3) := by decide +kernel
theorem dX6_firstThird_24 : decode cX6_firstThird 24 = .ok (.ireturn, 1) := by decide +kernel
theorem dX6_firstThird_25 : decode cX6_firstThird 25 = .ok (.iload_n 2, 1) := by decide +kernel
theorem dX6_firstThird_26 : decode cX6_firstThird 26 = .ok (.iload_n 1, 1) := by decide +kernel
theorem dX6_firstThird_27 : decode cX6_firstThird 27 = .ok (.iconst 1, 1) := by decide +kernel
theorem dX6_firstThird_28 : decode cX6_firstThird 28 = .ok (.iadd, 1) := by decide +kernel
theorem dX6_firstThird_29 : decode cX6_firstThird 29 = .ok (.if_icmp .ne 12, 3) := by decide +kernel
theorem dX6_firstThird_32 : decode cX6_firstThird 32 = .ok (.aload_n 0, 1) := by decide +kernel
theorem dX6_firstThird_33 : decode cX6_firstThird 33 = .ok (.getfield 9, 3) := by decide +kernel
theorem dX6_firstThird_36 : decode cX6_firstThird 36 = .ok (.iload_n 1, 1) := by decide +kernel
theorem dX6_firstThird_37 : decode cX6_firstThird 37 = .ok (.iaload, 1) := by decide +kernel
theorem dX6_firstThird_38 : decode cX6_firstThird 38 = .ok (.goto 4, 3) := by decide +kernel
theorem dX6_firstThird_41 : decode cX6_firstThird 41 = .ok (.iconst 0, 1) := by decide +kernel
theorem dX6_firstThird_42 : decode cX6_firstThird 42 = .ok (.ireturn, 1) := by decide +kernel
theorem dX6_layOtherThirds_0 : decode cX6_layOtherThirds 0 = .ok (.iconst 1, 1) := by decide +kernel
theorem dX6_layOtherThirds_1 : decode cX6_layOtherThirds 1 = .ok (.istore_n 1, 1) := by decide +kernel
theorem dX6_layOtherThirds_2 : decode cX6_layOtherThirds 2 = .ok (.iload_n 1, 1) := by decide +kernel
theorem dX6_layOtherThirds_3 : decode cX6_layOtherThirds 3 = .ok (.aload_n 0, 1) := by decide +kernel
theorem dX6_layOtherThirds_4 : decode cX6_layOtherThirds 4 = .ok (.getfield 41, 3) := by decide +kernel
theorem dX6_layOtherThirds_7 : decode cX6_layOtherThirds 7 = .ok (.if_icmp .ge 112, 3) := by decide +kernel
theorem dX6_layOtherThirds_10 : decode cX6_layOtherThirds 10 = .ok (.iconst 0, 1) := by decide +kernel
theorem dX6_layOtherThirds_11 : decode cX6_layOtherThirds 11 = .ok (.istore_n 2, 1) := by decide +kernel
theorem dX6_layOtherThirds_12 : decode cX6_layOtherThirds 12 = .ok (.iload_n 2, 1) := by decide +kernel
theorem dX6_layOtherThirds_13 : decode cX6_layOtherThirds 13 = .ok (.aload_n 0, 1) := by decide +kernel
theorem dX6_layOtherThirds_14 : decode cX6_layOtherThirds 14 = .ok (.getfield 41, 3) := by decide +kernel
theorem dX6_layOtherThirds_17 : decode cX6_layOtherThirds 17 = .ok (.if_icmp .gt 96, 3) := by decide +kernel
theorem dX6_layOtherThirds_20 : decode cX6_layOtherThirds 20 = .ok (.iconst 0, 1) := by decide +kernel
theorem dX6_layOtherThirds_21 : decode cX6_layOtherThirds 21 = .ok (.istore_n 3, 1) := by decide +kernel
theorem dX6_layOtherThirds_22 : decode cX6_layOtherThirds 22 = .ok (.iload_n 3, 1) := by decide +kernel
theorem dX6_layOtherThirds_23 : decode cX6_layOtherThirds 23 = .ok (.aload_n 0, 1) := by decide +kernel
theorem dX6_layOtherThirds_24 : decode cX6_layOtherThirds 24 = .ok (.getfield 41, 3) := by decide +kernel
theorem dX6_layOtherThirds_27 : decode cX6_layOtherThirds 27 = .ok (.if_icmp .gt 80, 3) := by decide +kernel
theorem dX6_layOtherThirds_30 : decode cX6_layOtherThirds 30 = .ok (.aload_n 0, 1) := by decide +kernel
theorem dX6_layOtherThirds_31 : decode cX6_layOtherThirds 31 = .ok (.iload_n 2, 1) := by decide +kernel
theorem dX6_layOtherThirds_32 : decode cX6_layOtherThirds 32 = .ok (.iload_n 1, 1) := by decide +kernel
theorem dX6_layOtherThirds_33 : decode cX6_layOtherThirds 33 = .ok (.iload_n 3, 1) := by decide +kernel
theorem dX6_layOtherThirds_34 : decode cX6_layOtherThirds 34 = .ok (.invokevirtual 110, 3) := by decide +kernel
theorem dX6_layOtherThirds_37 : decode cX6_layOtherThirds 37 = .ok (.lstore 4, 2) := by decide +kernel
theorem dX6_layOtherThirds_39 : decode cX6_layOtherThirds 39 = .ok (.lload 4, 2) := by decide +kernel
theorem dX6_layOtherThirds_41 : decode cX6_layOtherThirds 41 = .ok (.lconst 0, 1) := by decide +kernel
theorem dX6_layOtherThirds_42 : decode cX6_layOtherThirds 42 = .ok (.lcmp, 1) := by decide +kernel
theorem dX6_layOtherThirds_43 : decode cX6_layOtherThirds 43 = .ok (.ifCond .lt 31, 3) := by decide +kernel
theorem dX6_layOtherThirds_46 : decode cX6_layOtherThirds 46 = .ok (.aload_n 0, 1) := by decide +kernel
theorem dX6_layOtherThirds_47 : decode cX6_layOtherThirds 47 = .ok (.getfield 15, 3) := by decide +kernel
theorem dX6_layOtherThirds_50 : decode cX6_layOtherThirds 50 = .ok (.iload_n 1, 1) := by decide +kernel
theorem dX6_layOtherThirds_51 : decode cX6_layOtherThirds 51 = .ok (.iconst 1, 1) := by decide +kernel
theorem dX6_layOtherThirds_52 : decode cX6_layOtherThirds 52 = .ok (.iadd, 1) := by decide +kernel
theorem dX6_layOtherThirds_53 : decode cX6_layOtherThirds 53 = .ok (.iaload, 1) := by decide +kernel
theorem dX6_layOtherThirds_54 : decode cX6_layOtherThirds 54 = .ok (.ifCond .eq 20, 3) := by decide +kernel
theorem dX6_layOtherThirds_57 : decode cX6_layOtherThirds 57 = .ok (.lload 4, 2) := by decide +kernel
theorem dX6_layOtherThirds_59 : decode cX6_layOtherThirds 59 = .ok (.aload_n 0, 1) := by decide +kernel
theorem dX6_layOtherThirds_60 : decode cX6_layOtherThirds 60 = .ok (.getfield 15, 3) := by decide +kernel
theorem dX6_layOtherThirds_63 : decode cX6_layOtherThirds 63 = .ok (.iload_n 1, 1) := by decide +kernel
theorem dX6_layOtherThirds_64 : decode cX6_layOtherThirds 64 = .ok (.iconst 1, 1) := by decide +kernel
theorem dX6_layOtherThirds_65 : decode cX6_layOtherThirds 65 = .ok (.iadd, 1) := by decide +kernel
theorem dX6_layOtherThirds_66 : decode cX6_layOtherThirds 66 = .ok (.iaload, 1) := by decide +kernel
theorem dX6_layOtherThirds_67 : decode cX6_layOtherThirds 67 = .ok (.i2l, 1) := by decide +kernel
theorem dX6_layOtherThirds_68 : decode cX6_layOtherThirds 68 = .ok (.lrem, 1) := by decide +kernel
theorem dX6_layOtherThirds_69 : decode cX6_layOtherThirds 69 = .ok (.lconst 0, 1) := by decide +kernel
theorem dX6_layOtherThirds_70 : decode cX6_layOtherThirds 70 = .ok (.lcmp, 1) := by decide +kernel
theorem dX6_layOtherThirds_71 : decode cX6_layOtherThirds 71 = .ok (.ifCond .eq 5, 3) := by decide +kernel
theorem dX6_layOtherThirds_74 : decode cX6_layOtherThirds 74 = .ok (.iconst 0, 1) := by decide +kernel
theorem dX6_layOtherThirds_75 : decode cX6_layOtherThirds 75 = .ok (.ireturn, 1) := by decide +kernel
theorem dX6_layOtherThirds_76 : decode cX6_layOtherThirds 76 = .ok (.aload_n 0, 1) := by decide +kernel
theorem dX6_layOtherThirds_77 : decode cX6_layOtherThirds 77 = .ok (.getfield 22, 3) := by decide +kernel
theorem dX6_layOtherThirds_80 : decode cX6_layOtherThirds 80 = .ok (.iload_n 2, 1) := by decide +kernel
theorem dX6_layOtherThirds_81 : decode cX6_layOtherThirds 81 = .ok (.iload_n 1, 1) := by decide +kernel
theorem dX6_layOtherThirds_82 : decode cX6_layOtherThirds 82 = .ok (.iconst 1, 1) := by decide +kernel
theorem dX6_layOtherThirds_83 : decode cX6_layOtherThirds 83 = .ok (.iadd, 1) := by decide +kernel
theorem dX6_layOtherThirds_84 : decode cX6_layOtherThirds 84 = .ok (.iload_n 3, 1) := by decide +kernel
theorem dX6_layOtherThirds_85 : decode cX6_layOtherThirds 85 = .ok (.invokestatic 102, 3) := by decide +kernel
theorem dX6_layOtherThirds_88 : decode cX6_layOtherThirds 88 = .ok (.lload 4, 2) := by decide +kernel
theorem dX6_layOtherThirds_90 : decode cX6_layOtherThirds 90 = .ok (.aload_n 0, 1) := by decide +kernel
theorem dX6_layOtherThirds_91 : decode cX6_layOtherThirds 91 = .ok (.getfield 15, 3) := by decide +kernel
theorem dX6_layOtherThirds_94 : decode cX6_layOtherThirds 94 = .ok (.iload_n 1, 1) := by decide +kernel
theorem dX6_layOtherThirds_95 : decode cX6_layOtherThirds 95 = .ok (.iconst 1, 1) := by decide +kernel
theorem dX6_layOtherThirds_96 : decode cX6_layOtherThirds 96 = .ok (.iadd, 1) := by decide +kernel
theorem dX6_layOtherThirds_97 : decode cX6_layOtherThirds 97 = .ok (.iaload, 1) := by decide +kernel
theorem dX6_layOtherThirds_98 : decode cX6_layOtherThirds 98 = .ok (.i2l, 1) := by decide +kernel
theorem dX6_layOtherThirds_99 : decode cX6_layOtherThirds 99 = .ok (.ldiv, 1) := by decide +kernel
theorem dX6_layOtherThirds_100 : decode cX6_layOtherThirds 100 = .ok (.lastore, 1) := by decide +kernel
theorem dX6_layOtherThirds_101 : decode cX6_layOtherThirds 101 = .ok (.iinc 3 1, 3) := by decide +kernel
theorem dX6_layOtherThirds_104 : decode cX6_layOtherThirds 104 = .ok (.goto (-82), 3) := by decide +kernel
theorem dX6_layOtherThirds_107 : decode cX6_layOtherThirds 107 = .ok (.iinc 2 1, 3) := by decide +kernel
theorem dX6_layOtherThirds_110 : decode cX6_layOtherThirds 110 = .ok (.goto (-98), 3) := by decide +kernel
theorem dX6_layOtherThirds_113 : decode cX6_layOtherThirds 113 = .ok (.iinc 1 1, 3) := by decide +kernel
theorem dX6_layOtherThirds_116 : decode cX6_layOtherThirds 116 = .ok (.goto (-114), 3) := by decide +kernel
theorem dX6_layOtherThirds_119 : decode cX6_layOtherThirds 119 = .ok (.iconst 1, 1) := by decide +kernel
theorem dX6_layOtherThirds_120 : decode cX6_layOtherThirds 120 = .ok (.ireturn, 1) := by decide +kernel
theorem dX6_thirdTimes_0 : decode cX6_thirdTimes 0 = .ok (.aload_n 0, 1) := by decide +kernel
theorem dX6_thirdTimes_1 : decode cX6_thirdTimes 1 = .ok (.iload_n 3, 1) := by decide +kernel
theorem dX6_thirdTimes_2 : decode cX6_thirdTimes 2 = .ok (.invokevirtual 90, 3) := by decide +kernel
theorem dX6_thirdTimes_5 : decode cX6_thirdTimes 5 = .ok (.aload_n 0, 1) := by decide +kernel
theorem dX6_thirdTimes_6 : decode cX6_thirdTimes 6 = .ok (.iload_n 2, 1) := by decide +kernel
theorem dX6_thirdTimes_7 : decode cX6_thirdTimes 7 = .ok (.invokevirtual 90, 3) := by decide +kernel
theorem dX6_thirdTimes_10 : decode cX6_thirdTimes 10 = .ok (.isub, 1) := by decide +kernel
theorem dX6_thirdTimes_11 : decode cX6_thirdTimes 11 = .ok (.i2l, 1) := by decide +kernel
theorem dX6_thirdTimes_12 : decode cX6_thirdTimes 12 = .ok (.aload_n 0, 1) := by decide +kernel
theorem dX6_thirdTimes_13 : decode cX6_thirdTimes 13 = .ok (.getfield 22, 3) := by decide +kernel
theorem dX6_thirdTimes_16 : decode cX6_thirdTimes 16 = .ok (.iload_n 1, 1) := by decide +kernel
theorem dX6_thirdTimes_17 : decode cX6_thirdTimes 17 = .ok (.iload_n 2, 1) := by decide +kernel
theorem dX6_thirdTimes_18 : decode cX6_thirdTimes 18 = .ok (.iload_n 3, 1) := by decide +kernel
theorem dX6_thirdTimes_19 : decode cX6_thirdTimes 19 = .ok (.invokestatic 102, 3) := by decide +kernel
theorem dX6_thirdTimes_22 : decode cX6_thirdTimes 22 = .ok (.laload, 1) := by decide +kernel
theorem dX6_thirdTimes_23 : decode cX6_thirdTimes 23 = .ok (.lmul, 1) := by decide +kernel
theorem dX6_thirdTimes_24 : decode cX6_thirdTimes 24 = .ok (.aload_n 0, 1) := by decide +kernel
theorem dX6_thirdTimes_25 : decode cX6_thirdTimes 25 = .ok (.getfield 9, 3) := by decide +kernel
theorem dX6_thirdTimes_28 : decode cX6_thirdTimes 28 = .ok (.iload_n 2, 1) := by decide +kernel
theorem dX6_thirdTimes_29 : decode cX6_thirdTimes 29 = .ok (.iconst 1, 1) := by decide +kernel
theorem dX6_thirdTimes_30 : decode cX6_thirdTimes 30 = .ok (.isub, 1) := by decide +kernel
theorem dX6_thirdTimes_31 : decode cX6_thirdTimes 31 = .ok (.iaload, 1) := by decide +kernel
theorem dX6_thirdTimes_32 : decode cX6_thirdTimes 32 = .ok (.i2l, 1) := by decide +kernel
theorem dX6_thirdTimes_33 : decode cX6_thirdTimes 33 = .ok (.aload_n 0, 1) := by decide +kernel
theorem dX6_thirdTimes_34 : decode cX6_thirdTimes 34 = .ok (.getfield 22, 3) := by decide +kernel
theorem dX6_thirdTimes_37 : decode cX6_thirdTimes 37 = .ok (.iload_n 1, 1) := by decide +kernel
theorem dX6_thirdTimes_38 : decode cX6_thirdTimes 38 = .ok (.iload_n 2, 1) := by decide +kernel
theorem dX6_thirdTimes_39 : decode cX6_thirdTimes 39 = .ok (.iconst 1, 1) := by decide +kernel
theorem dX6_thirdTimes_40 : decode cX6_thirdTimes 40 = .ok (.isub, 1) := by decide +kernel
theorem dX6_thirdTimes_41 : decode cX6_thirdTimes 41 = .ok (.iload_n 3, 1) := by decide +kernel
theorem dX6_thirdTimes_42 : decode cX6_thirdTimes 42 = .ok (.invokestatic 102, 3) := by decide +kernel
theorem dX6_thirdTimes_45 : decode cX6_thirdTimes 45 = .ok (.laload, 1) := by decide +kernel
theorem dX6_thirdTimes_46 : decode cX6_thirdTimes 46 = .ok (.lmul, 1) := by decide +kernel
theorem dX6_thirdTimes_47 : decode cX6_thirdTimes 47 = .ok (.lsub, 1) := by decide +kernel
theorem dX6_thirdTimes_48 : decode cX6_thirdTimes 48 = .ok (.lstore 4, 2) := by decide +kernel
theorem dX6_thirdTimes_50 : decode cX6_thirdTimes 50 = .ok (.iload_n 3, 1) := by decide +kernel
theorem dX6_thirdTimes_51 : decode cX6_thirdTimes 51 = .ok (.ifCond .le 31, 3) := by decide +kernel
theorem dX6_thirdTimes_54 : decode cX6_thirdTimes 54 = .ok (.lload 4, 2) := by decide +kernel
theorem dX6_thirdTimes_56 : decode cX6_thirdTimes 56 = .ok (.aload_n 0, 1) := by decide +kernel
theorem dX6_thirdTimes_57 : decode cX6_thirdTimes 57 = .ok (.getfield 9, 3) := by decide +kernel
theorem dX6_thirdTimes_60 : decode cX6_thirdTimes 60 = .ok (.iload_n 3, 1) := by decide +kernel
theorem dX6_thirdTimes_61 : decode cX6_thirdTimes 61 = .ok (.iconst 1, 1) := by decide +kernel
theorem dX6_thirdTimes_62 : decode cX6_thirdTimes 62 = .ok (.isub, 1) := by decide +kernel
theorem dX6_thirdTimes_63 : decode cX6_thirdTimes 63 = .ok (.iaload, 1) := by decide +kernel
theorem dX6_thirdTimes_64 : decode cX6_thirdTimes 64 = .ok (.i2l, 1) := by decide +kernel
theorem dX6_thirdTimes_65 : decode cX6_thirdTimes 65 = .ok (.aload_n 0, 1) := by decide +kernel
theorem dX6_thirdTimes_66 : decode cX6_thirdTimes 66 = .ok (.getfield 22, 3) := by decide +kernel
theorem dX6_thirdTimes_69 : decode cX6_thirdTimes 69 = .ok (.iload_n 1, 1) := by decide +kernel
theorem dX6_thirdTimes_70 : decode cX6_thirdTimes 70 = .ok (.iload_n 2, 1) := by decide +kernel
theorem dX6_thirdTimes_71 : decode cX6_thirdTimes 71 = .ok (.iload_n 3, 1) := by decide +kernel
theorem dX6_thirdTimes_72 : decode cX6_thirdTimes 72 = .ok (.iconst 1, 1) := by decide +kernel
theorem dX6_thirdTimes_73 : decode cX6_thirdTimes 73 = .ok (.isub, 1) := by decide +kernel
theorem dX6_thirdTimes_74 : decode cX6_thirdTimes 74 = .ok (.invokestatic 102, 3) := by decide +kernel
theorem dX6_thirdTimes_77 : decode cX6_thirdTimes 77 = .ok (.laload, 1) := by decide +kernel
theorem dX6_thirdTimes_78 : decode cX6_thirdTimes 78 = .ok (.lmul, 1) := by decide +kernel
theorem dX6_thirdTimes_79 : decode cX6_thirdTimes 79 = .ok (.ladd, 1) := by decide +kernel
theorem dX6_thirdTimes_80 : decode cX6_thirdTimes 80 = .ok (.lstore 4, 2) := by decide +kernel
theorem dX6_thirdTimes_82 : decode cX6_thirdTimes 82 = .ok (.iload_n 3, 1) := by decide +kernel
theorem dX6_thirdTimes_83 : decode cX6_thirdTimes 83 = .ok (.aload_n 0, 1) := by decide +kernel
theorem dX6_thirdTimes_84 : decode cX6_thirdTimes 84 = .ok (.getfield 41, 3) := by decide +kernel
theorem dX6_thirdTimes_87 : decode cX6_thirdTimes 87 = .ok (.if_icmp .ge 31, 3) := by decide +kernel
theorem dX6_thirdTimes_90 : decode cX6_thirdTimes 90 = .ok (.lload 4, 2) := by decide +kernel
theorem dX6_thirdTimes_92 : decode cX6_thirdTimes 92 = .ok (.aload_n 0, 1) := by decide +kernel
theorem dX6_thirdTimes_93 : decode cX6_thirdTimes 93 = .ok (.getfield 15, 3) := by decide +kernel
theorem dX6_thirdTimes_96 : decode cX6_thirdTimes 96 = .ok (.iload_n 3, 1) := by decide +kernel
theorem dX6_thirdTimes_97 : decode cX6_thirdTimes 97 = .ok (.iconst 1, 1) := by decide +kernel
theorem dX6_thirdTimes_98 : decode cX6_thirdTimes 98 = .ok (.iadd, 1) := by decide +kernel
theorem dX6_thirdTimes_99 : decode cX6_thirdTimes 99 = .ok (.iaload, 1) := by decide +kernel
theorem dX6_thirdTimes_100 : decode cX6_thirdTimes 100 = .ok (.i2l, 1) := by decide +kernel
theorem dX6_thirdTimes_101 : decode cX6_thirdTimes 101 = .ok (.aload_n 0, 1) := by decide +kernel
theorem dX6_thirdTimes_102 : decode cX6_thirdTimes 102 = .ok (.getfield 22, 3) := by decide +kernel
theorem dX6_thirdTimes_105 : decode cX6_thirdTimes 105 = .ok (.iload_n 1, 1) := by decide +kernel
theorem dX6_thirdTimes_106 : decode cX6_thirdTimes 106 = .ok (.iload_n 2, 1) := by decide +kernel
theorem dX6_thirdTimes_107 : decode cX6_thirdTimes 107 = .ok (.iload_n 3, 1) := by decide +kernel
theorem dX6_thirdTimes_108 : decode cX6_thirdTimes 108 = .ok (.iconst 1, 1) := by decide +kernel
theorem dX6_thirdTimes_109 : decode cX6_thirdTimes 109 = .ok (.iadd, 1) := by decide +kernel
theorem dX6_thirdTimes_110 : decode cX6_thirdTimes 110 = .ok (.invokestatic 102, 3) := by decide +kernel
theorem dX6_thirdTimes_113 : decode cX6_thirdTimes 113 = .ok (.laload, 1) := by decide +kernel
theorem dX6_thirdTimes_114 : decode cX6_thirdTimes 114 = .ok (.lmul, 1) := by decide +kernel
theorem dX6_thirdTimes_115 : decode cX6_thirdTimes 115 = .ok (.ladd, 1) := by decide +kernel
theorem dX6_thirdTimes_116 : decode cX6_thirdTimes 116 = .ok (.lstore 4, 2) := by decide +kernel
theorem dX6_thirdTimes_118 : decode cX6_thirdTimes 118 = .ok (.lload 4, 2) := by decide +kernel
theorem dX6_thirdTimes_120 : decode cX6_thirdTimes 120 = .ok (.lreturn, 1) := by decide +kernel
theorem dX6_findRoots_0 : decode cX6_findRoots 0 = .ok (.aload_n 0, 1) := by decide +kernel
theorem dX6_findRoots_1 : decode cX6_findRoots 1 = .ok (.iconst 0, 1) := by decide +kernel
theorem dX6_findRoots_2 : decode cX6_findRoots 2 = .ok (.putfield 114, 3) := by decide +kernel
theorem dX6_findRoots_5 : decode cX6_findRoots 5 = .ok (.iconst 1, 1) := by decide +kernel
theorem dX6_findRoots_6 : decode cX6_findRoots 6 = .ok (.istore_n 1, 1) := by decide +kernel
theorem dX6_findRoots_7 : decode cX6_findRoots 7 = .ok (.aload_n 0, 1) := by decide +kernel
theorem dX6_findRoots_8 : decode cX6_findRoots 8 = .ok (.getfield 9, 3) := by decide +kernel
theorem dX6_findRoots_11 : decode cX6_findRoots 11 = .ok (.iconst 0, 1) := by decide +kernel
theorem dX6_findRoots_12 : decode cX6_findRoots 12 = .ok (.iaload, 1) := by decide +kernel
theorem dX6_findRoots_13 : decode cX6_findRoots 13 = .ok (.istore_n 2, 1) := by decide +kernel
theorem dX6_findRoots_14 : decode cX6_findRoots 14 = .ok (.iload_n 2, 1) := by decide +kernel
theorem dX6_findRoots_15 : decode cX6_findRoots 15 = .ok (.aload_n 0, 1) := by decide +kernel
theorem dX6_findRoots_16 : decode cX6_findRoots 16 = .ok (.getfield 9, 3) := by decide +kernel
theorem dX6_findRoots_19 : decode cX6_findRoots 19 = .ok (.iconst 0, 1) := by decide +kernel
theorem dX6_findRoots_20 : decode cX6_findRoots 20 = .ok (.iaload, 1) := by decide +kernel
theorem dX6_findRoots_21 : decode cX6_findRoots 21 = .ok (.ineg, 1) := by decide +kernel
theorem dX6_findRoots_22 : decode cX6_findRoots 22 = .ok (.if_icmp .lt 81, 3) := by decide +kernel
theorem dX6_findRoots_25 : decode cX6_findRoots 25 = .ok (.aload_n 0, 1) := by decide +kernel
theorem dX6_findRoots_26 : decode cX6_findRoots 26 = .ok (.iload_n 2, 1) := by decide +kernel
theorem dX6_findRoots_27 : decode cX6_findRoots 27 = .ok (.invokevirtual 117, 3) := by decide +kernel
theorem dX6_findRoots_30 : decode cX6_findRoots 30 = .ok (.ifCond .eq 67, 3) := by decide +kernel
theorem dX6_findRoots_33 : decode cX6_findRoots 33 = .ok (.aload_n 0, 1) := by decide +kernel
theorem dX6_findRoots_34 : decode cX6_findRoots 34 = .ok (.getfield 114, 3) := by decide +kernel
theorem dX6_findRoots_37 : decode cX6_findRoots 37 = .ok (.bipush 6, 2) := by decide +kernel
theorem dX6_findRoots_39 : decode cX6_findRoots 39 = .ok (.if_icmp .ge 58, 3) := by decide +kernel
theorem dX6_findRoots_42 : decode cX6_findRoots 42 = .ok (.aload_n 0, 1) := by decide +kernel
theorem dX6_findRoots_43 : decode cX6_findRoots 43 = .ok (.getfield 31, 3) := by decide +kernel
theorem dX6_findRoots_46 : decode cX6_findRoots 46 = .ok (.aload_n 0, 1) := by decide +kernel
theorem dX6_findRoots_47 : decode cX6_findRoots 47 = .ok (.getfield 114, 3) := by decide +kernel
theorem dX6_findRoots_50 : decode cX6_findRoots 50 = .ok (.iload_n 2, 1) := by decide +kernel
theorem dX6_findRoots_51 : decode cX6_findRoots 51 = .ok (.iastore, 1) := by decide +kernel
theorem dX6_findRoots_52 : decode cX6_findRoots 52 = .ok (.aload_n 0, 1) := by decide +kernel
theorem dX6_findRoots_53 : decode cX6_findRoots 53 = .ok (.getfield 34, 3) := by decide +kernel
theorem dX6_findRoots_56 : decode cX6_findRoots 56 = .ok (.aload_n 0, 1) := by decide +kernel
theorem dX6_findRoots_57 : decode cX6_findRoots 57 = .ok (.getfield 114, 3) := by decide +kernel
theorem dX6_findRoots_60 : decode cX6_findRoots 60 = .ok (.aload_n 0, 1) := by decide +kernel
theorem dX6_findRoots_61 : decode cX6_findRoots 61 = .ok (.invokevirtual 121, 3) := by decide +kernel
theorem dX6_findRoots_64 : decode cX6_findRoots 64 = .ok (.iastore, 1) := by decide +kernel
theorem dX6_findRoots_65 : decode cX6_findRoots 65 = .ok (.iload_n 1, 1) := by decide +kernel
theorem dX6_findRoots_66 : decode cX6_findRoots 66 = .ok (.ifCond .eq 19, 3) := by decide +kernel
theorem dX6_findRoots_69 : decode cX6_findRoots 69 = .ok (.aload_n 0, 1) := by decide +kernel
theorem dX6_findRoots_70 : decode cX6_findRoots 70 = .ok (.getfield 34, 3) := by decide +kernel
theorem dX6_findRoots_73 : decode cX6_findRoots 73 = .ok (.aload_n 0, 1) := by decide +kernel
theorem dX6_findRoots_74 : decode cX6_findRoots 74 = .ok (.getfield 114, 3) := by decide +kernel
theorem dX6_findRoots_77 : decode cX6_findRoots 77 = .ok (.iaload, 1) := by decide +kernel
theorem dX6_findRoots_78 : decode cX6_findRoots 78 = .ok (.ifCond .lt 7, 3) := by decide +kernel
theorem dX6_findRoots_81 : decode cX6_findRoots 81 = .ok (.iconst 1, 1) := by decide +kernel
theorem dX6_findRoots_82 : decode cX6_findRoots 82 = .ok (.goto 4, 3) := by decide +kernel
theorem dX6_findRoots_85 : decode cX6_findRoots 85 = .ok (.iconst 0, 1) := by decide +kernel
theorem dX6_findRoots_86 : decode cX6_findRoots 86 = .ok (.istore_n 1, 1) := by decide +kernel
theorem dX6_findRoots_87 : decode cX6_findRoots 87 = .ok (.aload_n 0, 1) := by decide +kernel
theorem dX6_findRoots_88 : decode cX6_findRoots 88 = .ok (.dup, 1) := by decide +kernel
theorem dX6_findRoots_89 : decode cX6_findRoots 89 = .ok (.getfield 114, 3) := by decide +kernel
theorem dX6_findRoots_92 : decode cX6_findRoots 92 = .ok (.iconst 1, 1) := by decide +kernel
theorem dX6_findRoots_93 : decode cX6_findRoots 93 = .ok (.iadd, 1) := by decide +kernel
theorem dX6_findRoots_94 : decode cX6_findRoots 94 = .ok (.putfield 114, 3) := by decide +kernel
theorem dX6_findRoots_97 : decode cX6_findRoots 97 = .ok (.iinc 2 (-1), 3) := by decide +kernel
theorem dX6_findRoots_100 : decode cX6_findRoots 100 = .ok (.goto (-86), 3) := by decide +kernel
theorem dX6_findRoots_103 : decode cX6_findRoots 103 = .ok (.iload_n 1, 1) := by decide +kernel
theorem dX6_findRoots_104 : decode cX6_findRoots 104 = .ok (.ireturn, 1) := by decide +kernel
theorem dX6_isRoot_0 : decode cX6_isRoot 0 = .ok (.aload_n 0, 1) := by decide +kernel
theorem dX6_isRoot_1 : decode cX6_isRoot 1 = .ok (.getfield 25, 3) := by decide +kernel
theorem dX6_isRoot_4 : decode cX6_isRoot 4 = .ok (.iconst 0, 1) := by decide +kernel
theorem dX6_isRoot_5 : decode cX6_isRoot 5 = .ok (.lconst 1, 1) := by decide +kernel
theorem dX6_isRoot_6 : decode cX6_isRoot 6 = .ok (.lastore, 1) := by decide +kernel
theorem dX6_isRoot_7 : decode cX6_isRoot 7 = .ok (.aload_n 0, 1) := by decide +kernel
theorem dX6_isRoot_8 : decode cX6_isRoot 8 = .ok (.getfield 25, 3) := by decide +kernel
theorem dX6_isRoot_11 : decode cX6_isRoot 11 = .ok (.iconst 1, 1) := by decide +kernel
theorem dX6_isRoot_12 : decode cX6_isRoot 12 = .ok (.iload_n 1, 1) := by decide +kernel
theorem dX6_isRoot_13 : decode cX6_isRoot 13 = .ok (.i2l, 1) := by decide +kernel
theorem dX6_isRoot_14 : decode cX6_isRoot 14 = .ok (.lastore, 1) := by decide +kernel
theorem dX6_isRoot_15 : decode cX6_isRoot 15 = .ok (.iconst 1, 1) := by decide +kernel
theorem dX6_isRoot_16 : decode cX6_isRoot 16 = .ok (.istore_n 2, 1) := by decide +kernel
theorem dX6_isRoot_17 : decode cX6_isRoot 17 = .ok (.iload_n 2, 1) := by decide +kernel
theorem dX6_isRoot_18 : decode cX6_isRoot 18 = .ok (.aload_n 0, 1) := by decide +kernel
theorem dX6_isRoot_19 : decode cX6_isRoot 19 = .ok (.getfield 41, 3) := by decide +kernel
theorem dX6_isRoot_22 : decode cX6_isRoot 22 = .ok (.if_icmp .gt 59, 3) := by decide +kernel
theorem dX6_isRoot_25 : decode cX6_isRoot 25 = .ok (.aload_n 0, 1) := by decide +kernel
theorem dX6_isRoot_26 : decode cX6_isRoot 26 = .ok (.getfield 25, 3) := by decide +kernel
theorem dX6_isRoot_29 : decode cX6_isRoot 29 = .ok (.iload_n 2, 1) := by decide +kernel
theorem dX6_isRoot_30 : decode cX6_isRoot 30 = .ok (.iconst 1, 1) := by decide +kernel
theorem dX6_isRoot_31 : decode cX6_isRoot 31 = .ok (.iadd, 1) := by decide +kernel
theorem dX6_isRoot_32 : decode cX6_isRoot 32 = .ok (.iload_n 1, 1) := by decide +kernel
theorem dX6_isRoot_33 : decode cX6_isRoot 33 = .ok (.aload_n 0, 1) := by decide +kernel
theorem dX6_isRoot_34 : decode cX6_isRoot 34 = .ok (.iload_n 2, 1) := by decide +kernel
theorem dX6_isRoot_35 : decode cX6_isRoot 35 = .ok (.invokevirtual 90, 3) := by decide +kernel
theorem dX6_isRoot_38 : decode cX6_isRoot 38 = .ok (.isub, 1) := by decide +kernel
theorem dX6_isRoot_39 : decode cX6_isRoot 39 = .ok (.i2l, 1) := by decide +kernel
theorem dX6_isRoot_40 : decode cX6_isRoot 40 = .ok (.aload_n 0, 1) := by decide +kernel
theorem dX6_isRoot_41 : decode cX6_isRoot 41 = .ok (.getfield 25, 3) := by decide +kernel
theorem dX6_isRoot_44 : decode cX6_isRoot 44 = .ok (.iload_n 2, 1) := by decide +kernel
theorem dX6_isRoot_45 : decode cX6_isRoot 45 = .ok (.laload, 1) := by decide +kernel
theorem dX6_isRoot_46 : decode cX6_isRoot 46 = .ok (.lmul, 1) := by decide +kernel
theorem dX6_isRoot_47 : decode cX6_isRoot 47 = .ok (.aload_n 0, 1) := by decide +kernel
theorem dX6_isRoot_48 : decode cX6_isRoot 48 = .ok (.getfield 15, 3) := by decide +kernel
theorem dX6_isRoot_51 : decode cX6_isRoot 51 = .ok (.iload_n 2, 1) := by decide +kernel
theorem dX6_isRoot_52 : decode cX6_isRoot 52 = .ok (.iaload, 1) := by decide +kernel
theorem dX6_isRoot_53 : decode cX6_isRoot 53 = .ok (.i2l, 1) := by decide +kernel
theorem dX6_isRoot_54 : decode cX6_isRoot 54 = .ok (.aload_n 0, 1) := by decide +kernel
theorem dX6_isRoot_55 : decode cX6_isRoot 55 = .ok (.getfield 9, 3) := by decide +kernel
theorem dX6_isRoot_58 : decode cX6_isRoot 58 = .ok (.iload_n 2, 1) := by decide +kernel
theorem dX6_isRoot_59 : decode cX6_isRoot 59 = .ok (.iconst 1, 1) := by decide +kernel
theorem dX6_isRoot_60 : decode cX6_isRoot 60 = .ok (.isub, 1) := by decide +kernel
theorem dX6_isRoot_61 : decode cX6_isRoot 61 = .ok (.iaload, 1) := by decide +kernel
theorem dX6_isRoot_62 : decode cX6_isRoot 62 = .ok (.i2l, 1) := by decide +kernel
theorem dX6_isRoot_63 : decode cX6_isRoot 63 = .ok (.lmul, 1) := by decide +kernel
theorem dX6_isRoot_64 : decode cX6_isRoot 64 = .ok (.aload_n 0, 1) := by decide +kernel
theorem dX6_isRoot_65 : decode cX6_isRoot 65 = .ok (.getfield 25, 3) := by decide +kernel
theorem dX6_isRoot_68 : decode cX6_isRoot 68 = .ok (.iload_n 2, 1) := by decide +kernel
theorem dX6_isRoot_69 : decode cX6_isRoot 69 = .ok (.iconst 1, 1) := by decide +kernel
theorem dX6_isRoot_70 : decode cX6_isRoot 70 = .ok (.isub, 1) := by decide +kernel
theorem dX6_isRoot_71 : decode cX6_isRoot 71 = .ok (.laload, 1) := by decide +kernel
theorem dX6_isRoot_72 : decode cX6_isRoot 72 = .ok (.lmul, 1) := by decide +kernel
theorem dX6_isRoot_73 : decode cX6_isRoot 73 = .ok (.lsub, 1) := by decide +kernel
theorem dX6_isRoot_74 : decode cX6_isRoot 74 = .ok (.lastore, 1) := by decide +kernel
theorem dX6_isRoot_75 : decode cX6_isRoot 75 = .ok (.iinc 2 1, 3) := by decide +kernel
theorem dX6_isRoot_78 : decode cX6_isRoot 78 = .ok (.goto (-61), 3) := by decide +kernel
theorem dX6_isRoot_81 : decode cX6_isRoot 81 = .ok (.aload_n 0, 1) := by decide +kernel
theorem dX6_isRoot_82 : decode cX6_isRoot 82 = .ok (.getfield 25, 3) := by decide +kernel
theorem dX6_isRoot_85 : decode cX6_isRoot 85 = .ok (.aload_n 0, 1) := by decide +kernel
theorem dX6_isRoot_86 : decode cX6_isRoot 86 = .ok (.getfield 41, 3) := by decide +kernel
theorem dX6_isRoot_89 : decode cX6_isRoot 89 = .ok (.iconst 1, 1) := by decide +kernel
theorem dX6_isRoot_90 : decode cX6_isRoot 90 = .ok (.iadd, 1) := by decide +kernel
theorem dX6_isRoot_91 : decode cX6_isRoot 91 = .ok (.laload, 1) := by decide +kernel
theorem dX6_isRoot_92 : decode cX6_isRoot 92 = .ok (.lconst 0, 1) := by decide +kernel
theorem dX6_isRoot_93 : decode cX6_isRoot 93 = .ok (.lcmp, 1) := by decide +kernel
theorem dX6_isRoot_94 : decode cX6_isRoot 94 = .ok (.ifCond .ne 7, 3) := by decide +kernel
theorem dX6_isRoot_97 : decode cX6_isRoot 97 = .ok (.iconst 1, 1) := by decide +kernel
theorem dX6_isRoot_98 : decode cX6_isRoot 98 = .ok (.goto 4, 3) := by decide +kernel
theorem dX6_isRoot_101 : decode cX6_isRoot 101 = .ok (.iconst 0, 1) := by decide +kernel
theorem dX6_isRoot_102 : decode cX6_isRoot 102 = .ok (.ireturn, 1) := by decide +kernel
theorem dX6_timesOfScaled_0 : decode cX6_timesOfScaled 0 = .ok (.lconst 1, 1) := by decide +kernel
theorem dX6_timesOfScaled_1 : decode cX6_timesOfScaled 1 = .ok (.lstore_n 1, 1) := by decide +kernel
theorem dX6_timesOfScaled_2 : decode cX6_timesOfScaled 2 = .ok (.iconst 1, 1) := by decide +kernel
theorem dX6_timesOfScaled_3 : decode cX6_timesOfScaled 3 = .ok (.istore_n 3, 1) := by decide +kernel
theorem dX6_timesOfScaled_4 : decode cX6_timesOfScaled 4 = .ok (.iload_n 3, 1) := by decide +kernel
theorem dX6_timesOfScaled_5 : decode cX6_timesOfScaled 5 = .ok (.aload_n 0, 1) := by decide +kernel
theorem dX6_timesOfScaled_6 : decode cX6_timesOfScaled 6 = .ok (.getfield 41, 3) := by decide +kernel
theorem dX6_timesOfScaled_9 : decode cX6_timesOfScaled 9 = .ok (.if_icmp .gt 28, 3) := by decide +kernel
theorem dX6_timesOfScaled_12 : decode cX6_timesOfScaled 12 = .ok (.lload_n 1, 1) := by decide +kernel
theorem dX6_timesOfScaled_13 : decode cX6_timesOfScaled 13 = .ok (.aload_n 0, 1) := by decide +kernel
theorem dX6_timesOfScaled_14 : decode cX6_timesOfScaled 14 = .ok (.getfield 9, 3) := by decide +kernel
theorem dX6_timesOfScaled_17 : decode cX6_timesOfScaled 17 = .ok (.iload_n 3, 1) := by decide +kernel
theorem dX6_timesOfScaled_18 : decode cX6_timesOfScaled 18 = .ok (.iconst 1, 1) := by decide +kernel
theorem dX6_timesOfScaled_19 : decode cX6_timesOfScaled 19 = .ok (.isub, 1) := by decide +kernel
theorem dX6_timesOfScaled_20 : decode cX6_timesOfScaled 20 = .ok (.iaload, 1) := by decide +kernel
theorem dX6_timesOfScaled_21 : decode cX6_timesOfScaled 21 = .ok (.aload_n 0, 1) := by decide +kernel
theorem dX6_timesOfScaled_22 : decode cX6_timesOfScaled 22 = .ok (.getfield 15, 3) := by decide +kernel
theorem dX6_timesOfScaled_25 : decode cX6_timesOfScaled 25 = .ok (.iload_n 3, 1) := by decide +kernel
theorem dX6_timesOfScaled_26 : decode cX6_timesOfScaled 26 = .ok (.iaload, 1) := by decide +kernel
theorem dX6_timesOfScaled_27 : decode cX6_timesOfScaled 27 = .ok (.imul, 1) := by decide +kernel
theorem dX6_timesOfScaled_28 : decode cX6_timesOfScaled 28 = .ok (.i2l, 1) := by decide +kernel
theorem dX6_timesOfScaled_29 : decode cX6_timesOfScaled 29 = .ok (.lmul, 1) := by decide +kernel
theorem dX6_timesOfScaled_30 : decode cX6_timesOfScaled 30 = .ok (.lstore_n 1, 1) := by decide +kernel
theorem dX6_timesOfScaled_31 : decode cX6_timesOfScaled 31 = .ok (.iinc 3 1, 3) := by decide +kernel
theorem dX6_timesOfScaled_34 : decode cX6_timesOfScaled 34 = .ok (.goto (-30), 3) := by decide +kernel
theorem dX6_timesOfScaled_37 : decode cX6_timesOfScaled 37 = .ok (.lload_n 1, 1) := by decide +kernel
theorem dX6_timesOfScaled_38 : decode cX6_timesOfScaled 38 = .ok (.lstore_n 3, 1) := by decide +kernel
theorem dX6_timesOfScaled_39 : decode cX6_timesOfScaled 39 = .ok (.lload_n 1, 1) := by decide +kernel
theorem dX6_timesOfScaled_40 : decode cX6_timesOfScaled 40 = .ok (.lstore 5, 2) := by decide +kernel
theorem dX6_timesOfScaled_42 : decode cX6_timesOfScaled 42 = .ok (.iconst 1, 1) := by decide +kernel
theorem dX6_timesOfScaled_43 : decode cX6_timesOfScaled 43 = .ok (.istore 7, 2) := by decide +kernel
theorem dX6_timesOfScaled_45 : decode cX6_timesOfScaled 45 = .ok (.iload 7, 2) := by decide +kernel
theorem dX6_timesOfScaled_47 : decode cX6_timesOfScaled 47 = .ok (.aload_n 0, 1) := by decide +kernel
theorem dX6_timesOfScaled_48 : decode cX6_timesOfScaled 48 = .ok (.getfield 41, 3) := by decide +kernel
theorem dX6_timesOfScaled_51 : decode cX6_timesOfScaled 51 = .ok (.if_icmp .gt 63, 3) := by decide +kernel
theorem dX6_timesOfScaled_54 : decode cX6_timesOfScaled 54 = .ok (.aload_n 0, 1) := by decide +kernel
theorem dX6_timesOfScaled_55 : decode cX6_timesOfScaled 55 = .ok (.getfield 9, 3) := by decide +kernel
theorem dX6_timesOfScaled_58 : decode cX6_timesOfScaled 58 = .ok (.iload 7, 2) := by decide +kernel
theorem dX6_timesOfScaled_60 : decode cX6_timesOfScaled 60 = .ok (.iconst 1, 1) := by decide +kernel
theorem dX6_timesOfScaled_61 : decode cX6_timesOfScaled 61 = .ok (.isub, 1) := by decide +kernel
theorem dX6_timesOfScaled_62 : decode cX6_timesOfScaled 62 = .ok (.iaload, 1) := by decide +kernel
theorem dX6_timesOfScaled_63 : decode cX6_timesOfScaled 63 = .ok (.aload_n 0, 1) := by decide +kernel
theorem dX6_timesOfScaled_64 : decode cX6_timesOfScaled 64 = .ok (.getfield 15, 3) := by decide +kernel
theorem dX6_timesOfScaled_67 : decode cX6_timesOfScaled 67 = .ok (.iload 7, 2) := by decide +kernel
theorem dX6_timesOfScaled_69 : decode cX6_timesOfScaled 69 = .ok (.iaload, 1) := by decide +kernel
theorem dX6_timesOfScaled_70 : decode cX6_timesOfScaled 70 = .ok (.imul, 1) := by decide +kernel
theorem dX6_timesOfScaled_71 : decode cX6_timesOfScaled 71 = .ok (.istore 8, 2) := by decide +kernel
theorem dX6_timesOfScaled_73 : decode cX6_timesOfScaled 73 = .ok (.iload 8, 2) := by decide +kernel
theorem dX6_timesOfScaled_75 : decode cX6_timesOfScaled 75 = .ok (.ifCond .ne 5, 3) := by decide +kernel
theorem dX6_timesOfScaled_78 : decode cX6_timesOfScaled 78 = .ok (.iconst (-1), 1) := by decide +kernel
theorem dX6_timesOfScaled_79 : decode cX6_timesOfScaled 79 = .ok (.ireturn, 1) := by decide +kernel
theorem dX6_timesOfScaled_80 : decode cX6_timesOfScaled 80 = .ok (.lload_n 3, 1) := by decide +kernel
theorem dX6_timesOfScaled_81 : decode cX6_timesOfScaled 81 = .ok (.iload 8, 2) := by decide +kernel
theorem dX6_timesOfScaled_83 : decode cX6_timesOfScaled 83 = .ok (.i2l, 1) := by decide +kernel
theorem dX6_timesOfScaled_84 : decode cX6_timesOfScaled 84 = .ok (.ldiv, 1) := by decide +kernel
theorem dX6_timesOfScaled_85 : decode cX6_timesOfScaled 85 = .ok (.lstore_n 3, 1) := by decide +kernel
theorem dX6_timesOfScaled_86 : decode cX6_timesOfScaled 86 = .ok (.lload 5, 2) := by decide +kernel
theorem dX6_timesOfScaled_88 : decode cX6_timesOfScaled 88 = .ok (.aload_n 0, 1) := by decide +kernel
theorem dX6_timesOfScaled_89 : decode cX6_timesOfScaled 89 = .ok (.getfield 25, 3) := by decide +kernel
theorem dX6_timesOfScaled_92 : decode cX6_timesOfScaled 92 = .ok (.iload 7, 2) := by decide +kernel
theorem dX6_timesOfScaled_94 : decode cX6_timesOfScaled 94 = .ok (.laload, 1) := by decide +kernel
theorem dX6_timesOfScaled_95 : decode cX6_timesOfScaled 95 = .ok (.aload_n 0, 1) := by decide +kernel
theorem dX6_timesOfScaled_96 : decode cX6_timesOfScaled 96 = .ok (.getfield 25, 3) := by decide +kernel
theorem dX6_timesOfScaled_99 : decode cX6_timesOfScaled 99 = .ok (.iload 7, 2) := by decide +kernel
theorem dX6_timesOfScaled_101 : decode cX6_timesOfScaled 101 = .ok (.laload, 1) := by decide +kernel
theorem dX6_timesOfScaled_102 : decode cX6_timesOfScaled 102 = .ok (.lmul, 1) := by decide +kernel
theorem dX6_timesOfScaled_103 : decode cX6_timesOfScaled 103 = .ok (.lload_n 3, 1) := by decide +kernel
theorem dX6_timesOfScaled_104 : decode cX6_timesOfScaled 104 = .ok (.lmul, 1) := by decide +kernel
theorem dX6_timesOfScaled_105 : decode cX6_timesOfScaled 105 = .ok (.ladd, 1) := by decide +kernel
theorem dX6_timesOfScaled_106 : decode cX6_timesOfScaled 106 = .ok (.lstore 5, 2) := by decide +kernel
theorem dX6_timesOfScaled_108 : decode cX6_timesOfScaled 108 = .ok (.iinc 7 1, 3) := by decide +kernel
theorem dX6_timesOfScaled_111 : decode cX6_timesOfScaled 111 = .ok (.goto (-66), 3) := by decide +kernel
theorem dX6_timesOfScaled_114 : decode cX6_timesOfScaled 114 = .ok (.aload_n 0, 1) := by decide +kernel
theorem dX6_timesOfScaled_115 : decode cX6_timesOfScaled 115 = .ok (.getfield 94, 3) := by decide +kernel
theorem dX6_timesOfScaled_118 : decode cX6_timesOfScaled 118 = .ok (.lload_n 1, 1) := by decide +kernel
theorem dX6_timesOfScaled_119 : decode cX6_timesOfScaled 119 = .ok (.lmul, 1) := by decide +kernel
theorem dX6_timesOfScaled_120 : decode cX6_timesOfScaled 120 = .ok (.lstore 7, 2) := by decide +kernel
theorem dX6_timesOfScaled_122 : decode cX6_timesOfScaled 122 = .ok (.lload 5, 2) := by decide +kernel
theorem dX6_timesOfScaled_124 : decode cX6_timesOfScaled 124 = .ok (.lconst 0, 1) := by decide +kernel
theorem dX6_timesOfScaled_125 : decode cX6_timesOfScaled 125 = .ok (.lcmp, 1) := by decide +kernel
theorem dX6_timesOfScaled_126 : decode cX6_timesOfScaled 126 = .ok (.ifCond .eq 13, 3) := by decide +kernel
theorem dX6_timesOfScaled_129 : decode cX6_timesOfScaled 129 = .ok (.lload 7, 2) := by decide +kernel
theorem dX6_timesOfScaled_131 : decode cX6_timesOfScaled 131 = .ok (.lload 5, 2) := by decide +kernel
theorem dX6_timesOfScaled_133 : decode cX6_timesOfScaled 133 = .ok (.lrem, 1) := by decide +kernel
theorem dX6_timesOfScaled_134 : decode cX6_timesOfScaled 134 = .ok (.lconst 0, 1) := by decide +kernel
theorem dX6_timesOfScaled_135 : decode cX6_timesOfScaled 135 = .ok (.lcmp, 1) := by decide +kernel
theorem dX6_timesOfScaled_136 : decode cX6_timesOfScaled 136 = .ok (.ifCond .eq 7, 3) := by decide +kernel
theorem dX6_timesOfScaled_139 : decode cX6_timesOfScaled 139 = .ok (.iconst (-1), 1) := by decide +kernel
theorem dX6_timesOfScaled_140 : decode cX6_timesOfScaled 140 = .ok (.goto 9, 3) := by decide +kernel
theorem dX6_timesOfScaled_143 : decode cX6_timesOfScaled 143 = .ok (.lload 7, 2) := by decide +kernel
theorem dX6_timesOfScaled_145 : decode cX6_timesOfScaled 145 = .ok (.lload 5, 2) := by decide +kernel
theorem dX6_timesOfScaled_147 : decode cX6_timesOfScaled 147 = .ok (.ldiv, 1) := by decide +kernel
theorem dX6_timesOfScaled_148 : decode cX6_timesOfScaled 148 = .ok (.l2i, 1) := by decide +kernel
theorem dX6_timesOfScaled_149 : decode cX6_timesOfScaled 149 = .ok (.ireturn, 1) := by decide +kernel
theorem dX6_countWalks_0 : decode cX6_countWalks 0 = .ok (.aload_n 0, 1) := by decide +kernel
theorem dX6_countWalks_1 : decode cX6_countWalks 1 = .ok (.getfield 28, 3) := by decide +kernel
theorem dX6_countWalks_4 : decode cX6_countWalks 4 = .ok (.lconst 0, 1) := by decide +kernel
theorem dX6_countWalks_5 : decode cX6_countWalks 5 = .ok (.invokestatic 124, 3) := by decide +kernel
theorem dX6_countWalks_8 : decode cX6_countWalks 8 = .ok (.aload_n 0, 1) := by decide +kernel
theorem dX6_countWalks_9 : decode cX6_countWalks 9 = .ok (.getfield 28, 3) := by decide +kernel
theorem dX6_countWalks_12 : decode cX6_countWalks 12 = .ok (.iconst 0, 1) := by decide +kernel
theorem dX6_countWalks_13 : decode cX6_countWalks 13 = .ok (.lconst 1, 1) := by decide +kernel
theorem dX6_countWalks_14 : decode cX6_countWalks 14 = .ok (.lastore, 1) := by decide +kernel
theorem dX6_countWalks_15 : decode cX6_countWalks 15 = .ok (.iconst 0, 1) := by decide +kernel
theorem dX6_countWalks_16 : decode cX6_countWalks 16 = .ok (.istore_n 3, 1) := by decide +kernel
theorem dX6_countWalks_17 : decode cX6_countWalks 17 = .ok (.iload_n 3, 1) := by decide +kernel
theorem dX6_countWalks_18 : decode cX6_countWalks 18 = .ok (.iload_n 2, 1) := by decide +kernel
theorem dX6_countWalks_19 : decode cX6_countWalks 19 = .ok (.if_icmp .ge 108, 3) := by decide +kernel
theorem dX6_countWalks_22 : decode cX6_countWalks 22 = .ok (.lconst 0, 1) := by decide +kernel
theorem dX6_countWalks_23 : decode cX6_countWalks 23 = .ok (.lstore 4, 2) := by decide +kernel
theorem dX6_countWalks_25 : decode cX6_countWalks 25 = .ok (.iconst 0, 1) := by decide +kernel
theorem dX6_countWalks_26 : decode cX6_countWalks 26 = .ok (.istore 6, 2) := by decide +kernel
theorem dX6_countWalks_28 : decode cX6_countWalks 28 = .ok (.iload 6, 2) := by decide +kernel
theorem dX6_countWalks_30 : decode cX6_countWalks 30 = .ok (.aload_n 0, 1) := by decide +kernel
theorem dX6_countWalks_31 : decode cX6_countWalks 31 = .ok (.getfield 41, 3) := by decide +kernel
theorem dX6_countWalks_34 : decode cX6_countWalks 34 = .ok (.if_icmp .gt 87, 3) := by decide +kernel
theorem dX6_countWalks_37 : decode cX6_countWalks 37 = .ok (.aload_n 0, 1) := by decide +kernel
theorem dX6_countWalks_38 : decode cX6_countWalks 38 = .ok (.getfield 28, 3) := by decide +kernel
theorem dX6_countWalks_41 : decode cX6_countWalks 41 = .ok (.iload 6, 2) := by decide +kernel
theorem dX6_countWalks_43 : decode cX6_countWalks 43 = .ok (.laload, 1) := by decide +kernel
theorem dX6_countWalks_44 : decode cX6_countWalks 44 = .ok (.lstore 7, 2) := by decide +kernel
theorem dX6_countWalks_46 : decode cX6_countWalks 46 = .ok (.iload 6, 2) := by decide +kernel
theorem dX6_countWalks_48 : decode cX6_countWalks 48 = .ok (.aload_n 0, 1) := by decide +kernel
theorem dX6_countWalks_49 : decode cX6_countWalks 49 = .ok (.getfield 41, 3) := by decide +kernel
theorem dX6_countWalks_52 : decode cX6_countWalks 52 = .ok (.if_icmp .ge 15, 3) := by decide +kernel
theorem dX6_countWalks_55 : decode cX6_countWalks 55 = .ok (.aload_n 0, 1) := by decide +kernel
theorem dX6_countWalks_56 : decode cX6_countWalks 56 = .ok (.getfield 28, 3) := by decide +kernel
theorem dX6_countWalks_59 : decode cX6_countWalks 59 = .ok (.iload 6, 2) := by decide +kernel
theorem dX6_countWalks_61 : decode cX6_countWalks 61 = .ok (.iconst 1, 1) := by decide +kernel
theorem dX6_countWalks_62 : decode cX6_countWalks 62 = .ok (.iadd, 1) := by decide +kernel
theorem dX6_countWalks_63 : decode cX6_countWalks 63 = .ok (.laload, 1) := by decide +kernel
theorem dX6_countWalks_64 : decode cX6_countWalks 64 = .ok (.goto 4, 3) := by decide +kernel
theorem dX6_countWalks_67 : decode cX6_countWalks 67 = .ok (.lconst 0, 1) := by decide +kernel
theorem dX6_countWalks_68 : decode cX6_countWalks 68 = .ok (.lstore 9, 2) := by decide +kernel
theorem dX6_countWalks_70 : decode cX6_countWalks 70 = .ok (.aload_n 0, 1) := by decide +kernel
theorem dX6_countWalks_71 : decode cX6_countWalks 71 = .ok (.getfield 28, 3) := by decide +kernel
theorem dX6_countWalks_74 : decode cX6_countWalks 74 = .ok (.iload 6, 2) := by decide +kernel
theorem dX6_countWalks_76 : decode cX6_countWalks 76 = .ok (.aload_n 0, 1) := by decide +kernel
theorem dX6_countWalks_77 : decode cX6_countWalks 77 = .ok (.getfield 15, 3) := by decide +kernel
theorem dX6_countWalks_80 : decode cX6_countWalks 80 = .ok (.iload 6, 2) := by decide +kernel
theorem dX6_countWalks_82 : decode cX6_countWalks 82 = .ok (.iaload, 1) := by decide +kernel
theorem dX6_countWalks_83 : decode cX6_countWalks 83 = .ok (.i2l, 1) := by decide +kernel
theorem dX6_countWalks_84 : decode cX6_countWalks 84 = .ok (.lload 4, 2) := by decide +kernel
theorem dX6_countWalks_86 : decode cX6_countWalks 86 = .ok (.lmul, 1) := by decide +kernel
theorem dX6_countWalks_87 : decode cX6_countWalks 87 = .ok (.aload_n 0, 1) := by decide +kernel
theorem dX6_countWalks_88 : decode cX6_countWalks 88 = .ok (.iload 6, 2) := by decide +kernel
theorem dX6_countWalks_90 : decode cX6_countWalks 90 = .ok (.invokevirtual 90, 3) := by decide +kernel
theorem dX6_countWalks_93 : decode cX6_countWalks 93 = .ok (.i2l, 1) := by decide +kernel
theorem dX6_countWalks_94 : decode cX6_countWalks 94 = .ok (.lload 7, 2) := by decide +kernel
theorem dX6_countWalks_96 : decode cX6_countWalks 96 = .ok (.lmul, 1) := by decide +kernel
theorem dX6_countWalks_97 : decode cX6_countWalks 97 = .ok (.ladd, 1) := by decide +kernel
theorem dX6_countWalks_98 : decode cX6_countWalks 98 = .ok (.aload_n 0, 1) := by decide +kernel
theorem dX6_countWalks_99 : decode cX6_countWalks 99 = .ok (.getfield 9, 3) := by decide +kernel
theorem dX6_countWalks_102 : decode cX6_countWalks 102 = .ok (.iload 6, 2) := by decide +kernel
theorem dX6_countWalks_104 : decode cX6_countWalks 104 = .ok (.iaload, 1) := by decide +kernel
theorem dX6_countWalks_105 : decode cX6_countWalks 105 = .ok (.i2l, 1) := by decide +kernel
theorem dX6_countWalks_106 : decode cX6_countWalks 106 = .ok (.lload 9, 2) := by decide +kernel
theorem dX6_countWalks_108 : decode cX6_countWalks 108 = .ok (.lmul, 1) := by decide +kernel
theorem dX6_countWalks_109 : decode cX6_countWalks 109 = .ok (.ladd, 1) := by decide +kernel
theorem dX6_countWalks_110 : decode cX6_countWalks 110 = .ok (.lastore, 1) := by decide +kernel
theorem dX6_countWalks_111 : decode cX6_countWalks 111 = .ok (.lload 7, 2) := by decide +kernel
theorem dX6_countWalks_113 : decode cX6_countWalks 113 = .ok (.lstore 4, 2) := by decide +kernel
theorem dX6_countWalks_115 : decode cX6_countWalks 115 = .ok (.iinc 6 1, 3) := by decide +kernel
theorem dX6_countWalks_118 : decode cX6_countWalks 118 = .ok (.goto (-90), 3) := by decide +kernel
theorem dX6_countWalks_121 : decode cX6_countWalks 121 = .ok (.iinc 3 1, 3) := by decide +kernel
theorem dX6_countWalks_124 : decode cX6_countWalks 124 = .ok (.goto (-107), 3) := by decide +kernel
theorem dX6_countWalks_127 : decode cX6_countWalks 127 = .ok (.aload_n 0, 1) := by decide +kernel
theorem dX6_countWalks_128 : decode cX6_countWalks 128 = .ok (.getfield 28, 3) := by decide +kernel
theorem dX6_countWalks_131 : decode cX6_countWalks 131 = .ok (.iload_n 1, 1) := by decide +kernel
theorem dX6_countWalks_132 : decode cX6_countWalks 132 = .ok (.laload, 1) := by decide +kernel
theorem dX6_countWalks_133 : decode cX6_countWalks 133 = .ok (.lreturn, 1) := by decide +kernel
theorem dX7_init_0 : decode cX7_init 0 = .ok (.aload_n 0, 1) := by decide +kernel
theorem dX7_init_1 : decode cX7_init 1 = .ok (.invokespecial 3, 3) := by decide +kernel
theorem dX7_init_4 : decode cX7_init 4 = .ok (.aload_n 0, 1) := by decide +kernel
theorem dX7_init_5 : decode cX7_init 5 = .ok (.sipush 1024, 3) := by decide +kernel
theorem dX7_init_8 : decode cX7_init 8 = .ok (.newarray .int, 2) := by decide +kernel
theorem dX7_init_10 : decode cX7_init 10 = .ok (.putfield 9, 3) := by decide +kernel
theorem dX7_init_13 : decode cX7_init 13 = .ok (.aload_n 0, 1) := by decide +kernel
theorem dX7_init_14 : decode cX7_init 14 = .ok (.sipush 1024, 3) := by decide +kernel
theorem dX7_init_17 : decode cX7_init 17 = .ok (.newarray .int, 2) := by decide +kernel
theorem dX7_init_19 : decode cX7_init 19 = .ok (.putfield 15, 3) := by decide +kernel
theorem dX7_init_22 : decode cX7_init 22 = .ok (.aload_n 0, 1) := by decide +kernel
theorem dX7_init_23 : decode cX7_init 23 = .ok (.bipush 32, 2) := by decide +kernel
theorem dX7_init_25 : decode cX7_init 25 = .ok (.newarray .int, 2) := by decide +kernel
theorem dX7_init_27 : decode cX7_init 27 = .ok (.putfield 18, 3) := by decide +kernel
theorem dX7_init_30 : decode cX7_init 30 = .ok (.return_, 1) := by decide +kernel
theorem dX7_measure_0 : decode cX7_measure 0 = .ok (.aload_n 0, 1) := by decide +kernel
theorem dX7_measure_1 : decode cX7_measure 1 = .ok (.aload_n 1, 1) := by decide +kernel
theorem dX7_measure_2 : decode cX7_measure 2 = .ok (.getfield 21, 3) := by decide +kernel
theorem dX7_measure_5 : decode cX7_measure 5 = .ok (.putfield 27, 3) := by decide +kernel
theorem dX7_measure_8 : decode cX7_measure 8 = .ok (.aload_n 0, 1) := by decide +kernel
theorem dX7_measure_9 : decode cX7_measure 9 = .ok (.getfield 9, 3) := by decide +kernel
theorem dX7_measure_12 : decode cX7_measure 12 = .ok (.iconst (-1), 1) := by decide +kernel
theorem dX7_measure_13 : decode cX7_measure 13 = .ok (.invokestatic 28, 3) := by decide +kernel
theorem dX7_measure_16 : decode cX7_measure 16 = .ok (.aload_n 0, 1) := by decide +kernel
theorem dX7_measure_17 : decode cX7_measure 17 = .ok (.getfield 15, 3) := by decide +kernel
theorem dX7_measure_20 : decode cX7_measure 20 = .ok (.iconst 0, 1) := by decide +kernel
theorem dX7_measure_21 : decode cX7_measure 21 = .ok (.invokestatic 28, 3) := by decide +kernel
theorem dX7_measure_24 : decode cX7_measure 24 = .ok (.iconst 0, 1) := by decide +kernel
theorem dX7_measure_25 : decode cX7_measure 25 = .ok (.istore_n 2, 1) := by decide +kernel
theorem dX7_measure_26 : decode cX7_measure 26 = .ok (.iconst 0, 1) := by decide +kernel
theorem dX7_measure_27 : decode cX7_measure 27 = .ok (.istore_n 3, 1) := by decide +kernel
theorem dX7_measure_28 : decode cX7_measure 28 = .ok (.iload_n 3, 1) := by decide +kernel
theorem dX7_measure_29 : decode cX7_measure 29 = .ok (.aload_n 0, 1) := by decide +kernel
theorem dX7_measure_30 : decode cX7_measure 30 = .ok (.getfield 27, 3) := by decide +kernel
theorem dX7_measure_33 : decode cX7_measure 33 = .ok (.if_icmp .ge 20, 3) := by decide +kernel
theorem dX7_measure_36 : decode cX7_measure 36 = .ok (.iload_n 2, 1) := by decide +kernel
theorem dX7_measure_37 : decode cX7_measure 37 = .ok (.aload_n 0, 1) := by decide +kernel
theorem dX7_measure_38 : decode cX7_measure 38 = .ok (.aload_n 1, 1) := by decide +kernel
theorem dX7_measure_39 : decode cX7_measure 39 = .ok (.iload_n 3, 1) := by decide +kernel
theorem dX7_measure_40 : decode cX7_measure 40 = .ok (.invokevirtual 34, 3) := by decide +kernel
theorem dX7_measure_43 : decode cX7_measure 43 = .ok (.invokestatic 38, 3) := by decide +kernel
theorem dX7_measure_46 : decode cX7_measure 46 = .ok (.istore_n 2, 1) := by decide +kernel
theorem dX7_measure_47 : decode cX7_measure 47 = .ok (.iinc 3 1, 3) := by decide +kernel
theorem dX7_measure_50 : decode cX7_measure 50 = .ok (.goto (-22), 3) := by decide +kernel
theorem dX7_measure_53 : decode cX7_measure 53 = .ok (.aload_n 0, 1) := by decide +kernel
theorem dX7_measure_54 : decode cX7_measure 54 = .ok (.aload_n 0, 1) := by decide +kernel
theorem dX7_measure_55 : decode cX7_measure 55 = .ok (.getfield 27, 3) := by decide +kernel
theorem dX7_measure_58 : decode cX7_measure 58 = .ok (.ifCond .le 23, 3) := by decide +kernel
theorem dX7_measure_61 : decode cX7_measure 61 = .ok (.aload_n 0, 1) := by decide +kernel
theorem dX7_measure_62 : decode cX7_measure 62 = .ok (.getfield 18, 3) := by decide +kernel
theorem dX7_measure_65 : decode cX7_measure 65 = .ok (.iconst 0, 1) := by decide +kernel
theorem dX7_measure_66 : decode cX7_measure 66 = .ok (.iaload, 1) := by decide +kernel
theorem dX7_measure_67 : decode cX7_measure 67 = .ok (.aload_n 0, 1) := by decide +kernel
theorem dX7_measure_68 : decode cX7_measure 68 = .ok (.getfield 27, 3) := by decide +kernel
theorem dX7_measure_71 : decode cX7_measure 71 = .ok (.invokestatic 44, 3) := by decide +kernel
theorem dX7_measure_74 : decode cX7_measure 74 = .ok (.if_icmp .ne 7, 3) := by decide +kernel
theorem dX7_measure_77 : decode cX7_measure 77 = .ok (.iconst 1, 1) := by decide +kernel
theorem dX7_measure_78 : decode cX7_measure 78 = .ok (.goto 4, 3) := by decide +kernel
theorem dX7_measure_81 : decode cX7_measure 81 = .ok (.iconst 0, 1) := by decide +kernel
theorem dX7_measure_82 : decode cX7_measure 82 = .ok (.putfield 48, 3) := by decide +kernel
theorem dX7_measure_85 : decode cX7_measure 85 = .ok (.aload_n 0, 1) := by decide +kernel
theorem dX7_measure_86 : decode cX7_measure 86 = .ok (.aload_n 0, 1) := by decide +kernel
theorem dX7_measure_87 : decode cX7_measure 87 = .ok (.getfield 48, 3) := by decide +kernel
theorem dX7_measure_90 : decode cX7_measure 90 = .ok (.ifCond .eq 7, 3) := by decide +kernel
theorem dX7_measure_93 : decode cX7_measure 93 = .ok (.iload_n 2, 1) := by decide +kernel
theorem dX7_measure_94 : decode cX7_measure 94 = .ok (.goto 4, 3) := by decide +kernel
theorem dX7_measure_97 : decode cX7_measure 97 = .ok (.iconst (-1), 1) := by decide +kernel
theorem dX7_measure_98 : decode cX7_measure 98 = .ok (.putfield 52, 3) := by decide +kernel
theorem dX7_measure_101 : decode cX7_measure 101 = .ok (.aload_n 0, 1) := by decide +kernel
theorem dX7_measure_102 : decode cX7_measure 102 = .ok (.iconst 1, 1) := by decide +kernel
theorem dX7_measure_103 : decode cX7_measure 103 = .ok (.putfield 55, 3) := by decide +kernel
theorem dX7_measure_106 : decode cX7_measure 106 = .ok (.return_, 1) := by decide +kernel
theorem dX7_spread_0 : decode cX7_spread 0 = .ok (.iconst 1, 1) := by decide +kernel
theorem dX7_spread_1 : decode cX7_spread 1 = .ok (.iload_n 2, 1) := by decide +kernel
theorem dX7_spread_2 : decode cX7_spread 2 = .ok (.ishl, 1) := by decide +kernel
theorem dX7_spread_3 : decode cX7_spread 3 = .ok (.istore_n 3, 1) := by decide +kernel
theorem dX7_spread_4 : decode cX7_spread 4 = .ok (.iload_n 3, 1) := by decide +kernel
theorem dX7_spread_5 : decode cX7_spread 5 = .ok (.istore 4, 2) := by decide +kernel
theorem dX7_spread_7 : decode cX7_spread 7 = .ok (.iconst 0, 1) := by decide +kernel
theorem dX7_spread_8 : decode cX7_spread 8 = .ok (.istore 5, 2) := by decide +kernel
theorem dX7_spread_10 : decode cX7_spread 10 = .ok (.iconst 0, 1) := by decide +kernel
theorem dX7_spread_11 : decode cX7_spread 11 = .ok (.istore 6, 2) := by decide +kernel
theorem dX7_spread_13 : decode cX7_spread 13 = .ok (.iload 6, 2) := by decide +kernel
theorem dX7_spread_15 : decode cX7_spread 15 = .ok (.bipush 32, 2) := by decide +kernel
theorem dX7_spread_17 : decode cX7_spread 17 = .ok (.if_icmp .ge 55, 3) := by decide +kernel
theorem dX7_spread_20 : decode cX7_spread 20 = .ok (.iload_n 3, 1) := by decide +kernel
theorem dX7_spread_21 : decode cX7_spread 21 = .ok (.ifCond .eq 51, 3) := by decide +kernel
theorem dX7_spread_24 : decode cX7_spread 24 = .ok (.aload_n 0, 1) := by decide +kernel
theorem dX7_spread_25 : decode cX7_spread 25 = .ok (.getfield 15, 3) := by decide +kernel
theorem dX7_spread_28 : decode cX7_spread 28 = .ok (.iload_n 2, 1) := by decide +kernel
theorem dX7_spread_29 : decode cX7_spread 29 = .ok (.bipush 32, 2) := by decide +kernel
theorem dX7_spread_31 : decode cX7_spread 31 = .ok (.imul, 1) := by decide +kernel
theorem dX7_spread_32 : decode cX7_spread 32 = .ok (.iload 6, 2) := by decide +kernel
theorem dX7_spread_34 : decode cX7_spread 34 = .ok (.iadd, 1) := by decide +kernel
theorem dX7_spread_35 : decode cX7_spread 35 = .ok (.iload_n 3, 1) := by decide +kernel
theorem dX7_spread_36 : decode cX7_spread 36 = .ok (.iastore, 1) := by decide +kernel
theorem dX7_spread_37 : decode cX7_spread 37 = .ok (.aload_n 0, 1) := by decide +kernel
theorem dX7_spread_38 : decode cX7_spread 38 = .ok (.iload_n 2, 1) := by decide +kernel
theorem dX7_spread_39 : decode cX7_spread 39 = .ok (.iload_n 3, 1) := by decide +kernel
theorem dX7_spread_40 : decode cX7_spread 40 = .ok (.iload 6, 2) := by decide +kernel
theorem dX7_spread_42 : decode cX7_spread 42 = .ok (.invokevirtual 58, 3) := by decide +kernel
theorem dX7_spread_45 : decode cX7_spread 45 = .ok (.iload 6, 2) := by decide +kernel
theorem dX7_spread_47 : decode cX7_spread 47 = .ok (.istore 5, 2) := by decide +kernel
theorem dX7_spread_49 : decode cX7_spread 49 = .ok (.aload_n 1, 1) := by decide +kernel
theorem dX7_spread_50 : decode cX7_spread 50 = .ok (.iload_n 3, 1) := by decide +kernel
theorem dX7_spread_51 : decode cX7_spread 51 = .ok (.invokevirtual 62, 3) := by decide +kernel
theorem dX7_spread_54 : decode cX7_spread 54 = .ok (.iload 4, 2) := by decide +kernel
theorem dX7_spread_56 : decode cX7_spread 56 = .ok (.iconst (-1), 1) := by decide +kernel
theorem dX7_spread_57 : decode cX7_spread 57 = .ok (.ixor, 1) := by decide +kernel
theorem dX7_spread_58 : decode cX7_spread 58 = .ok (.iand, 1) := by decide +kernel
theorem dX7_spread_59 : decode cX7_spread 59 = .ok (.istore_n 3, 1) := by decide +kernel
theorem dX7_spread_60 : decode cX7_spread 60 = .ok (.iload 4, 2) := by decide +kernel
theorem dX7_spread_62 : decode cX7_spread 62 = .ok (.iload_n 3, 1) := by decide +kernel
theorem dX7_spread_63 : decode cX7_spread 63 = .ok (.ior, 1) := by decide +kernel
theorem dX7_spread_64 : decode cX7_spread 64 = .ok (.istore 4, 2) := by decide +kernel
theorem dX7_spread_66 : decode cX7_spread 66 = .ok (.iinc 6 1, 3) := by decide +kernel
theorem dX7_spread_69 : decode cX7_spread 69 = .ok (.goto (-56), 3) := by decide +kernel
theorem dX7_spread_72 : decode cX7_spread 72 = .ok (.aload_n 0, 1) := by decide +kernel
theorem dX7_spread_73 : decode cX7_spread 73 = .ok (.getfield 18, 3) := by decide +kernel
theorem dX7_spread_76 : decode cX7_spread 76 = .ok (.iload_n 2, 1) := by decide +kernel
theorem dX7_spread_77 : decode cX7_spread 77 = .ok (.iload 4, 2) := by decide +kernel
theorem dX7_spread_79 : decode cX7_spread 79 = .ok (.iastore, 1) := by decide +kernel
theorem dX7_spread_80 : decode cX7_spread 80 = .ok (.iload 5, 2) := by decide +kernel
theorem dX7_spread_82 : decode cX7_spread 82 = .ok (.ireturn, 1) := by decide +kernel
theorem dX7_noteSteps_0 : decode cX7_noteSteps 0 = .ok (.iconst 0, 1) := by decide +kernel
theorem dX7_noteSteps_1 : decode cX7_noteSteps 1 = .ok (.istore 4, 2) := by decide +kernel
theorem dX7_noteSteps_3 : decode cX7_noteSteps 3 = .ok (.iload 4, 2) := by decide +kernel
theorem dX7_noteSteps_5 : decode cX7_noteSteps 5 = .ok (.aload_n 0, 1) := by decide +kernel
theorem dX7_noteSteps_6 : decode cX7_noteSteps 6 = .ok (.getfield 27, 3) := by decide +kernel
theorem dX7_noteSteps_9 : decode cX7_noteSteps 9 = .ok (.if_icmp .ge 31, 3) := by decide +kernel
theorem dX7_noteSteps_12 : decode cX7_noteSteps 12 = .ok (.iload_n 2, 1) := by decide +kernel
theorem dX7_noteSteps_13 : decode cX7_noteSteps 13 = .ok (.iload 4, 2) := by decide +kernel
theorem dX7_noteSteps_15 : decode cX7_noteSteps 15 = .ok (.invokestatic 65, 3) := by decide +kernel
theorem dX7_noteSteps_18 : decode cX7_noteSteps 18 = .ok (.ifCond .eq 16, 3) := by decide +kernel
theorem dX7_noteSteps_21 : decode cX7_noteSteps 21 = .ok (.aload_n 0, 1) := by decide +kernel
theorem dX7_noteSteps_22 : decode cX7_noteSteps 22 = .ok (.getfield 9, 3) := by decide +kernel
theorem dX7_noteSteps_25 : decode cX7_noteSteps 25 = .ok (.iload_n 1, 1) := by decide +kernel
theorem dX7_noteSteps_26 : decode cX7_noteSteps 26 = .ok (.bipush 32, 2) := by decide +kernel
theorem dX7_noteSteps_28 : decode cX7_noteSteps 28 = .ok (.imul, 1) := by decide +kernel
theorem dX7_noteSteps_29 : decode cX7_noteSteps 29 = .ok (.iload 4, 2) := by decide +kernel
theorem dX7_noteSteps_31 : decode cX7_noteSteps 31 = .ok (.iadd, 1) := by decide +kernel
theorem dX7_noteSteps_32 : decode cX7_noteSteps 32 = .ok (.iload_n 3, 1) := by decide +kernel
theorem dX7_noteSteps_33 : decode cX7_noteSteps 33 = .ok (.iastore, 1) := by decide +kernel
theorem dX7_noteSteps_34 : decode cX7_noteSteps 34 = .ok (.iinc 4 1, 3) := by decide +kernel
theorem dX7_noteSteps_37 : decode cX7_noteSteps 37 = .ok (.goto (-34), 3) := by decide +kernel
theorem dX7_noteSteps_40 : decode cX7_noteSteps 40 = .ok (.return_, 1) := by decide +kernel
theorem dX7_between_0 : decode cX7_between 0 = .ok (.aload_n 0, 1) := by decide +kernel
theorem dX7_between_1 : decode cX7_between 1 = .ok (.getfield 9, 3) := by decide +kernel
theorem dX7_between_4 : decode cX7_between 4 = .ok (.iload_n 1, 1) := by decide +kernel
theorem dX7_between_5 : decode cX7_between 5 = .ok (.bipush 32, 2) := by decide +kernel
theorem dX7_between_7 : decode cX7_between 7 = .ok (.imul, 1) := by decide +kernel
theorem dX7_between_8 : decode cX7_between 8 = .ok (.iload_n 2, 1) := by decide +kernel
theorem dX7_between_9 : decode cX7_between 9 = .ok (.iadd, 1) := by decide +kernel
theorem dX7_between_10 : decode cX7_between 10 = .ok (.iaload, 1) := by decide +kernel
theorem dX7_between_11 : decode cX7_between 11 = .ok (.ireturn, 1) := by decide +kernel
theorem dX7_postsAt_0 : decode cX7_postsAt 0 = .ok (.iload_n 2, 1) := by decide +kernel
theorem dX7_postsAt_1 : decode cX7_postsAt 1 = .ok (.ifCond .lt 9, 3) := by decide +kernel
theorem dX7_postsAt_4 : decode cX7_postsAt 4 = .ok (.iload_n 2, 1) := by decide +kernel
theorem dX7_postsAt_5 : decode cX7_postsAt 5 = .ok (.bipush 32, 2) := by decide +kernel
theorem dX7_postsAt_7 : decode cX7_postsAt 7 = .ok (.if_icmp .lt 7, 3) := by decide +kernel
theorem dX7_postsAt_10 : decode cX7_postsAt 10 = .ok (.iconst 0, 1) := by decide +kernel
theorem dX7_postsAt_11 : decode cX7_postsAt 11 = .ok (.goto 14, 3) := by decide +kernel
theorem dX7_postsAt_14 : decode cX7_postsAt 14 = .ok (.aload_n 0, 1) := by decide +kernel
theorem dX7_postsAt_15 : decode cX7_postsAt 15 = .ok (.getfield 15, 3) := by decide +kernel
theorem dX7_postsAt_18 : decode cX7_postsAt 18 = .ok (.iload_n 1, 1) := by decide +kernel
theorem dX7_postsAt_19 : decode cX7_postsAt 19 = .ok (.bipush 32, 2) := by decide +kernel
theorem dX7_postsAt_21 : decode cX7_postsAt 21 = .ok (.imul, 1) := by decide +kernel
theorem dX7_postsAt_22 : decode cX7_postsAt 22 = .ok (.iload_n 2, 1) := by decide +kernel
theorem dX7_postsAt_23 : decode cX7_postsAt 23 = .ok (.iadd, 1) := by decide +kernel
theorem dX7_postsAt_24 : decode cX7_postsAt 24 = .ok (.iaload, 1) := by decide +kernel
theorem dX7_postsAt_25 : decode cX7_postsAt 25 = .ok (.ireturn, 1) := by decide +kernel
theorem dX7_postsWithin_0 : decode cX7_postsWithin 0 = .ok (.iconst 0, 1) := by decide +kernel
theorem dX7_postsWithin_1 : decode cX7_postsWithin 1 = .ok (.istore_n 3, 1) := by decide +kernel
theorem dX7_postsWithin_2 : decode cX7_postsWithin 2 = .ok (.iconst 0, 1) := by decide +kernel
theorem dX7_postsWithin_3 : decode cX7_postsWithin 3 = .ok (.istore 4, 2) := by decide +kernel
theorem dX7_postsWithin_5 : decode cX7_postsWithin 5 = .ok (.iload 4, 2) := by decide +kernel
theorem dX7_postsWithin_7 : decode cX7_postsWithin 7 = .ok (.iload_n 2, 1) := by decide +kernel
theorem dX7_postsWithin_8 : decode cX7_postsWithin 8 = .ok (.if_icmp .gt 26, 3) := by decide +kernel
theorem dX7_postsWithin_11 : decode cX7_postsWithin 11 = .ok (.iload 4, 2) := by decide +kernel
theorem dX7_postsWithin_13 : decode cX7_postsWithin 13 = .ok (.bipush 32, 2) := by decide +kernel
theorem dX7_postsWithin_15 : decode cX7_postsWithin 15 = .ok (.if_icmp .ge 19, 3) := by decide +kernel
theorem dX7_postsWithin_18 : decode cX7_postsWithin 18 = .ok (.iload_n 3, 1) := by decide +kernel
theorem dX7_postsWithin_19 : decode cX7_postsWithin 19 = .ok (.aload_n 0, 1) := by decide +kernel
theorem dX7_postsWithin_20 : decode cX7_postsWithin 20 = .ok (.iload_n 1, 1) := by decide +kernel
theorem dX7_postsWithin_21 : decode cX7_postsWithin 21 = .ok (.iload 4, 2) := by decide +kernel
theorem dX7_postsWithin_23 : decode cX7_postsWithin 23 = .ok (.invokevirtual 69, 3) := by decide +kernel
theorem dX7_postsWithin_26 : decode cX7_postsWithin 26 = .ok (.ior, 1) := by decide +kernel
theorem dX7_postsWithin_27 : decode cX7_postsWithin 27 = .ok (.istore_n 3, 1) := by decide +kernel
theorem dX7_postsWithin_28 : decode cX7_postsWithin 28 = .ok (.iinc 4 1, 3) := by decide +kernel
theorem dX7_postsWithin_31 : decode cX7_postsWithin 31 = .ok (.goto (-26), 3) := by decide +kernel
theorem dX7_postsWithin_34 : decode cX7_postsWithin 34 = .ok (.iload_n 3, 1) := by decide +kernel
theorem dX7_postsWithin_35 : decode cX7_postsWithin 35 = .ok (.ireturn, 1) := by decide +kernel
theorem dX7_pieces_0 : decode cX7_pieces 0 = .ok (.iconst 0, 1) := by decide +kernel
theorem dX7_pieces_1 : decode cX7_pieces 1 = .ok (.istore_n 1, 1) := by decide +kernel
theorem dX7_pieces_2 : decode cX7_pieces 2 = .ok (.iconst 0, 1) := by decide +kernel
theorem dX7_pieces_3 : decode cX7_pieces 3 = .ok (.istore_n 2, 1) := by decide +kernel
theorem dX7_pieces_4 : decode cX7_pieces 4 = .ok (.iload_n 2, 1) := by decide +kernel
theorem dX7_pieces_5 : decode cX7_pieces 5 = .ok (.aload_n 0, 1) := by decide +kernel
theorem dX7_pieces_6 : decode cX7_pieces 6 = .ok (.getfield 27, 3) := by decide +kernel
theorem dX7_pieces_9 : decode cX7_pieces 9 = .ok (.if_icmp .ge 25, 3) := by decide +kernel
theorem dX7_pieces_12 : decode cX7_pieces 12 = .ok (.aload_n 0, 1) := by decide +kernel
theorem dX7_pieces_13 : decode cX7_pieces 13 = .ok (.getfield 18, 3) := by decide +kernel
theorem dX7_pieces_16 : decode cX7_pieces 16 = .ok (.iload_n 2, 1) := by decide +kernel
theorem dX7_pieces_17 : decode cX7_pieces 17 = .ok (.iaload, 1) := by decide +kernel
theorem dX7_pieces_18 : decode cX7_pieces 18 = .ok (.invokestatic 72, 3) := by decide +kernel
theorem dX7_pieces_21 : decode cX7_pieces 21 = .ok (.iload_n 2, 1) := by decide +kernel
theorem dX7_pieces_22 : decode cX7_pieces 22 = .ok (.if_icmp .ne 6, 3) := by decide +kernel
theorem dX7_pieces_25 : decode cX7_pieces 25 = .ok (.iinc 1 1, 3) := by decide +kernel
theorem dX7_pieces_28 : decode cX7_pieces 28 = .ok (.iinc 2 1, 3) := by decide +kernel
theorem dX7_pieces_31 : decode cX7_pieces 31 = .ok (.goto (-27), 3) := by decide +kernel
theorem dX7_pieces_34 : decode cX7_pieces 34 = .ok (.iload_n 1, 1) := by decide +kernel
theorem dX7_pieces_35 : decode cX7_pieces 35 = .ok (.ireturn, 1) := by decide +kernel
theorem dX7_shortestRing_0 : decode cX7_shortestRing 0 = .ok (.iconst 0, 1) := by decide +kernel
theorem dX7_shortestRing_1 : decode cX7_shortestRing 1 = .ok (.istore_n 2, 1) := by decide +kernel
theorem dX7_shortestRing_2 : decode cX7_shortestRing 2 = .ok (.iconst 0, 1) := by decide +kernel
theorem dX7_shortestRing_3 : decode cX7_shortestRing 3 = .ok (.istore_n 3, 1) := by decide +kernel
theorem dX7_shortestRing_4 : decode cX7_shortestRing 4 = .ok (.iload_n 3, 1) := by decide +kernel
theorem dX7_shortestRing_5 : decode cX7_shortestRing 5 = .ok (.aload_n 0, 1) := by decide +kernel
theorem dX7_shortestRing_6 : decode cX7_shortestRing 6 = .ok (.getfield 27, 3) := by decide +kernel
theorem dX7_shortestRing_9 : decode cX7_shortestRing 9 = .ok (.if_icmp .ge 55, 3) := by decide +kernel
theorem dX7_shortestRing_12 : decode cX7_shortestRing 12 = .ok (.iconst 0, 1) := by decide +kernel
theorem dX7_shortestRing_13 : decode cX7_shortestRing 13 = .ok (.istore 4, 2) := by decide +kernel
theorem dX7_shortestRing_15 : decode cX7_shortestRing 15 = .ok (.iload 4, 2) := by decide +kernel
theorem dX7_shortestRing_17 : decode cX7_shortestRing 17 = .ok (.aload_n 0, 1) := by decide +kernel
theorem dX7_shortestRing_18 : decode cX7_shortestRing 18 = .ok (.getfield 27, 3) := by decide +kernel
theorem dX7_shortestRing_21 : decode cX7_shortestRing 21 = .ok (.if_icmp .ge 37, 3) := by decide +kernel
theorem dX7_shortestRing_24 : decode cX7_shortestRing 24 = .ok (.aload_n 0, 1) := by decide +kernel
theorem dX7_shortestRing_25 : decode cX7_shortestRing 25 = .ok (.aload_n 1, 1) := by decide +kernel
theorem dX7_shortestRing_26 : decode cX7_shortestRing 26 = .ok (.iload_n 3, 1) := by decide +kernel
theorem dX7_shortestRing_27 : decode cX7_shortestRing 27 = .ok (.iload 4, 2) := by decide +kernel
theorem dX7_shortestRing_29 : decode cX7_shortestRing 29 = .ok (.invokevirtual 75, 3) := by decide +kernel
theorem dX7_shortestRing_32 : decode cX7_shortestRing 32 = .ok (.istore 5, 2) := by decide +kernel
theorem dX7_shortestRing_34 : decode cX7_shortestRing 34 = .ok (.iload 5, 2) := by decide +kernel
theorem dX7_shortestRing_36 : decode cX7_shortestRing 36 = .ok (.ifCond .le 16, 3) := by decide +kernel
theorem dX7_shortestRing_39 : decode cX7_shortestRing 39 = .ok (.iload_n 2, 1) := by decide +kernel
theorem dX7_shortestRing_40 : decode cX7_shortestRing 40 = .ok (.ifCond .eq 9, 3) := by decide +kernel
theorem dX7_shortestRing_43 : decode cX7_shortestRing 43 = .ok (.iload 5, 2) := by decide +kernel
theorem dX7_shortestRing_45 : decode cX7_shortestRing 45 = .ok (.iload_n 2, 1) := by decide +kernel
theorem dX7_shortestRing_46 : decode cX7_shortestRing 46 = .ok (.if_icmp .ge 6, 3) := by decide +kernel
theorem dX7_shortestRing_49 : decode cX7_shortestRing 49 = .ok (.iload 5, 2) := by decide +kernel
theorem dX7_shortestRing_51 : decode cX7_shortestRing 51 = .ok (.istore_n 2, 1) := by decide +kernel
theorem dX7_shortestRing_52 : decode cX7_shortestRing 52 = .ok (.iinc 4 1, 3) := by decide +kernel
theorem dX7_shortestRing_55 : decode cX7_shortestRing 55 = .ok (.goto (-40), 3) := by decide +kernel
theorem dX7_shortestRing_58 : decode cX7_shortestRing 58 = .ok (.iinc 3 1, 3) := by decide +kernel
theorem dX7_shortestRing_61 : decode cX7_shortestRing 61 = .ok (.goto (-57), 3) := by decide +kernel
theorem dX7_shortestRing_64 : decode cX7_shortestRing 64 = .ok (.iload_n 2, 1) := by decide +kernel
theorem dX7_shortestRing_65 : decode cX7_shortestRing 65 = .ok (.ireturn, 1) := by decide +kernel
theorem dX7_ringSeen_0 : decode cX7_ringSeen 0 = .ok (.aload_n 0, 1) := by decide +kernel
theorem dX7_ringSeen_1 : decode cX7_ringSeen 1 = .ok (.iload_n 2, 1) := by decide +kernel
theorem dX7_ringSeen_2 : decode cX7_ringSeen 2 = .ok (.iload_n 3, 1) := by decide +kernel
theorem dX7_ringSeen_3 : decode cX7_ringSeen 3 = .ok (.invokevirtual 79, 3) := by decide +kernel
theorem dX7_ringSeen_6 : decode cX7_ringSeen 6 = .ok (.istore 4, 2) := by decide +kernel
theorem dX7_ringSeen_8 : decode cX7_ringSeen 8 = .ok (.iload 4, 2) := by decide +kernel
theorem dX7_ringSeen_10 : decode cX7_ringSeen 10 = .ok (.iconst 1, 1) := by decide +kernel
theorem dX7_ringSeen_11 : decode cX7_ringSeen 11 = .ok (.if_icmp .ge 5, 3) := by decide +kernel
theorem dX7_ringSeen_14 : decode cX7_ringSeen 14 = .ok (.iconst 0, 1) := by decide +kernel
theorem dX7_ringSeen_15 : decode cX7_ringSeen 15 = .ok (.ireturn, 1) := by decide +kernel
theorem dX7_ringSeen_16 : decode cX7_ringSeen 16 = .ok (.aload_n 1, 1) := by decide +kernel
theorem dX7_ringSeen_17 : decode cX7_ringSeen 17 = .ok (.getfield 82, 3) := by decide +kernel
theorem dX7_ringSeen_20 : decode cX7_ringSeen 20 = .ok (.iload_n 3, 1) := by decide +kernel
theorem dX7_ringSeen_21 : decode cX7_ringSeen 21 = .ok (.iaload, 1) := by decide +kernel
theorem dX7_ringSeen_22 : decode cX7_ringSeen 22 = .ok (.aload_n 0, 1) := by decide +kernel
theorem dX7_ringSeen_23 : decode cX7_ringSeen 23 = .ok (.iload_n 2, 1) := by decide +kernel
theorem dX7_ringSeen_24 : decode cX7_ringSeen 24 = .ok (.iload 4, 2) := by decide +kernel
theorem dX7_ringSeen_26 : decode cX7_ringSeen 26 = .ok (.iconst 1, 1) := by decide +kernel
theorem dX7_ringSeen_27 : decode cX7_ringSeen 27 = .ok (.isub, 1) := by decide +kernel
theorem dX7_ringSeen_28 : decode cX7_ringSeen 28 = .ok (.invokevirtual 69, 3) := by decide +kernel
theorem dX7_ringSeen_31 : decode cX7_ringSeen 31 = .ok (.iand, 1) := by decide +kernel
theorem dX7_ringSeen_32 : decode cX7_ringSeen 32 = .ok (.invokestatic 85, 3) := by decide +kernel
theorem dX7_ringSeen_35 : decode cX7_ringSeen 35 = .ok (.iconst 1, 1) := by decide +kernel
theorem dX7_ringSeen_36 : decode cX7_ringSeen 36 = .ok (.if_icmp .le 8, 3) := by decide +kernel
theorem dX7_ringSeen_39 : decode cX7_ringSeen 39 = .ok (.iconst 2, 1) := by decide +kernel
theorem dX7_ringSeen_40 : decode cX7_ringSeen 40 = .ok (.iload 4, 2) := by decide +kernel
theorem dX7_ringSeen_42 : decode cX7_ringSeen 42 = .ok (.imul, 1) := by decide +kernel
theorem dX7_ringSeen_43 : decode cX7_ringSeen 43 = .ok (.ireturn, 1) := by decide +kernel
theorem dX7_ringSeen_44 : decode cX7_ringSeen 44 = .ok (.aload_n 1, 1) := by decide +kernel
theorem dX7_ringSeen_45 : decode cX7_ringSeen 45 = .ok (.getfield 82, 3) := by decide +kernel
theorem dX7_ringSeen_48 : decode cX7_ringSeen 48 = .ok (.iload_n 3, 1) := by decide +kernel
theorem dX7_ringSeen_49 : decode cX7_ringSeen 49 = .ok (.iaload, 1) := by decide +kernel
theorem dX7_ringSeen_50 : decode cX7_ringSeen 50 = .ok (.aload_n 0, 1) := by decide +kernel
theorem dX7_ringSeen_51 : decode cX7_ringSeen 51 = .ok (.iload_n 2, 1) := by decide +kernel
theorem dX7_ringSeen_52 : decode cX7_ringSeen 52 = .ok (.iload 4, 2) := by decide +kernel
theorem dX7_ringSeen_54 : decode cX7_ringSeen 54 = .ok (.invokevirtual 69, 3) := by decide +kernel
theorem dX7_ringSeen_57 : decode cX7_ringSeen 57 = .ok (.iand, 1) := by decide +kernel
theorem dX7_ringSeen_58 : decode cX7_ringSeen 58 = .ok (.ifCond .eq 12, 3) := by decide +kernel
theorem dX7_ringSeen_61 : decode cX7_ringSeen 61 = .ok (.iconst 2, 1) := by decide +kernel
theorem dX7_ringSeen_62 : decode cX7_ringSeen 62 = .ok (.iload 4, 2) := by decide +kernel
theorem dX7_ringSeen_64 : decode cX7_ringSeen 64 = .ok (.imul, 1) := by decide +kernel
theorem dX7_ringSeen_65 : decode cX7_ringSeen 65 = .ok (.iconst 1, 1) := by decide +kernel
theorem dX7_ringSeen_66 : decode cX7_ringSeen 66 = .ok (.iadd, 1) := by decide +kernel
theorem dX7_ringSeen_67 : decode cX7_ringSeen 67 = .ok (.goto 4, 3) := by decide +kernel
theorem dX7_ringSeen_70 : decode cX7_ringSeen 70 = .ok (.iconst 0, 1) := by decide +kernel
theorem dX7_ringSeen_71 : decode cX7_ringSeen 71 = .ok (.ireturn, 1) := by decide +kernel
theorem dX7_isOfSides_0 : decode cX7_isOfSides 0 = .ok (.iconst 0, 1) := by decide +kernel
theorem dX7_isOfSides_1 : decode cX7_isOfSides 1 = .ok (.istore_n 2, 1) := by decide +kernel
theorem dX7_isOfSides_2 : decode cX7_isOfSides 2 = .ok (.iload_n 2, 1) := by decide +kernel
theorem dX7_isOfSides_3 : decode cX7_isOfSides 3 = .ok (.aload_n 0, 1) := by decide +kernel
theorem dX7_isOfSides_4 : decode cX7_isOfSides 4 = .ok (.getfield 27, 3) := by decide +kernel
theorem dX7_isOfSides_7 : decode cX7_isOfSides 7 = .ok (.if_icmp .ge 52, 3) := by decide +kernel
theorem dX7_isOfSides_10 : decode cX7_isOfSides 10 = .ok (.iconst 0, 1) := by decide +kernel
theorem dX7_isOfSides_11 : decode cX7_isOfSides 11 = .ok (.istore_n 3, 1) := by decide +kernel
theorem dX7_isOfSides_12 : decode cX7_isOfSides 12 = .ok (.iload_n 3, 1) := by decide +kernel
theorem dX7_isOfSides_13 : decode cX7_isOfSides 13 = .ok (.aload_n 0, 1) := by decide +kernel
theorem dX7_isOfSides_14 : decode cX7_isOfSides 14 = .ok (.getfield 27, 3) := by decide +kernel
theorem dX7_isOfSides_17 : decode cX7_isOfSides 17 = .ok (.if_icmp .ge 36, 3) := by decide +kernel
theorem dX7_isOfSides_20 : decode cX7_isOfSides 20 = .ok (.aload_n 0, 1) := by decide +kernel
theorem dX7_isOfSides_21 : decode cX7_isOfSides 21 = .ok (.iload_n 2, 1) := by decide +kernel
theorem dX7_isOfSides_22 : decode cX7_isOfSides 22 = .ok (.iload_n 3, 1) := by decide +kernel
theorem dX7_isOfSides_23 : decode cX7_isOfSides 23 = .ok (.invokevirtual 79, 3) := by decide +kernel
theorem dX7_isOfSides_26 : decode cX7_isOfSides 26 = .ok (.istore 4, 2) := by decide +kernel
theorem dX7_isOfSides_28 : decode cX7_isOfSides 28 = .ok (.aload_n 1, 1) := by decide +kernel
theorem dX7_isOfSides_29 : decode cX7_isOfSides 29 = .ok (.getfield 82, 3) := by decide +kernel
theorem dX7_isOfSides_32 : decode cX7_isOfSides 32 = .ok (.iload_n 3, 1) := by decide +kernel
theorem dX7_isOfSides_33 : decode cX7_isOfSides 33 = .ok (.iaload, 1) := by decide +kernel
theorem dX7_isOfSides_34 : decode cX7_isOfSides 34 = .ok (.aload_n 0, 1) := by decide +kernel
theorem dX7_isOfSides_35 : decode cX7_isOfSides 35 = .ok (.iload_n 2, 1) := by decide +kernel
theorem dX7_isOfSides_36 : decode cX7_isOfSides 36 = .ok (.iload 4, 2) := by decide +kernel
theorem dX7_isOfSides_38 : decode cX7_isOfSides 38 = .ok (.invokevirtual 69, 3) := by decide +kernel
theorem dX7_isOfSides_41 : decode cX7_isOfSides 41 = .ok (.iand, 1) := by decide +kernel
theorem dX7_isOfSides_42 : decode cX7_isOfSides 42 = .ok (.ifCond .eq 5, 3) := by decide +kernel
theorem dX7_isOfSides_45 : decode cX7_isOfSides 45 = .ok (.iconst 0, 1) := by decide +kernel
theorem dX7_isOfSides_46 : decode cX7_isOfSides 46 = .ok (.ireturn, 1) := by decide +kernel
theorem dX7_isOfSides_47 : decode cX7_isOfSides 47 = .ok (.iinc 3 1, 3) := by decide +kernel
theorem dX7_isOfSides_50 : decode cX7_isOfSides 50 = .ok (.goto (-38), 3) := by decide +kernel
theorem dX7_isOfSides_53 : decode cX7_isOfSides 53 = .ok (.iinc 2 1, 3) := by decide +kernel
theorem dX7_isOfSides_56 : decode cX7_isOfSides 56 = .ok (.goto (-54), 3) := by decide +kernel
theorem dX7_isOfSides_59 : decode cX7_isOfSides 59 = .ok (.iconst 1, 1) := by decide +kernel
theorem dX7_isOfSides_60 : decode cX7_isOfSides 60 = .ok (.ireturn, 1) := by decide +kernel
theorem dX7_farGroup_0 : decode cX7_farGroup 0 = .ok (.iconst 1, 1) := by decide +kernel
theorem dX7_farGroup_1 : decode cX7_farGroup 1 = .ok (.iload_n 1, 1) := by decide +kernel
theorem dX7_farGroup_2 : decode cX7_farGroup 2 = .ok (.ishl, 1) := by decide +kernel
theorem dX7_farGroup_3 : decode cX7_farGroup 3 = .ok (.aload_n 0, 1) := by decide +kernel
theorem dX7_farGroup_4 : decode cX7_farGroup 4 = .ok (.iload_n 1, 1) := by decide +kernel
theorem dX7_farGroup_5 : decode cX7_farGroup 5 = .ok (.aload_n 0, 1) := by decide +kernel
theorem dX7_farGroup_6 : decode cX7_farGroup 6 = .ok (.getfield 52, 3) := by decide +kernel
theorem dX7_farGroup_9 : decode cX7_farGroup 9 = .ok (.invokevirtual 69, 3) := by decide +kernel
theorem dX7_farGroup_12 : decode cX7_farGroup 12 = .ok (.ior, 1) := by decide +kernel
theorem dX7_farGroup_13 : decode cX7_farGroup 13 = .ok (.ireturn, 1) := by decide +kernel
theorem dX7_isFolded_0 : decode cX7_isFolded 0 = .ok (.aload_n 0, 1) := by decide +kernel
theorem dX7_isFolded_1 : decode cX7_isFolded 1 = .ok (.getfield 52, 3) := by decide +kernel
theorem dX7_isFolded_4 : decode cX7_isFolded 4 = .ok (.iconst 1, 1) := by decide +kernel
theorem dX7_isFolded_5 : decode cX7_isFolded 5 = .ok (.if_icmp .ge 5, 3) := by decide +kernel
theorem dX7_isFolded_8 : decode cX7_isFolded 8 = .ok (.iconst 0, 1) := by decide +kernel
theorem dX7_isFolded_9 : decode cX7_isFolded 9 = .ok (.ireturn, 1) := by decide +kernel
theorem dX7_isFolded_10 : decode cX7_isFolded 10 = .ok (.iconst 0, 1) := by decide +kernel
theorem dX7_isFolded_11 : decode cX7_isFolded 11 = .ok (.istore_n 1, 1) := by decide +kernel
theorem dX7_isFolded_12 : decode cX7_isFolded 12 = .ok (.iload_n 1, 1) := by decide +kernel
theorem dX7_isFolded_13 : decode cX7_isFolded 13 = .ok (.aload_n 0, 1) := by decide +kernel
theorem dX7_isFolded_14 : decode cX7_isFolded 14 = .ok (.getfield 27, 3) := by decide +kernel
theorem dX7_isFolded_17 : decode cX7_isFolded 17 = .ok (.if_icmp .ge 55, 3) := by decide +kernel
theorem dX7_isFolded_20 : decode cX7_isFolded 20 = .ok (.iload_n 1, 1) := by decide +kernel
theorem dX7_isFolded_21 : decode cX7_isFolded 21 = .ok (.iconst 1, 1) := by decide +kernel
theorem dX7_isFolded_22 : decode cX7_isFolded 22 = .ok (.iadd, 1) := by decide +kernel
theorem dX7_isFolded_23 : decode cX7_isFolded 23 = .ok (.istore_n 2, 1) := by decide +kernel
theorem dX7_isFolded_24 : decode cX7_isFolded 24 = .ok (.iload_n 2, 1) := by decide +kernel
theorem dX7_isFolded_25 : decode cX7_isFolded 25 = .ok (.aload_n 0, 1) := by decide +kernel
theorem dX7_isFolded_26 : decode cX7_isFolded 26 = .ok (.getfield 27, 3) := by decide +kernel
theorem dX7_isFolded_29 : decode cX7_isFolded 29 = .ok (.if_icmp .ge 37, 3) := by decide +kernel
theorem dX7_isFolded_32 : decode cX7_isFolded 32 = .ok (.aload_n 0, 1) := by decide +kernel
theorem dX7_isFolded_33 : decode cX7_isFolded 33 = .ok (.iload_n 1, 1) := by decide +kernel
theorem dX7_isFolded_34 : decode cX7_isFolded 34 = .ok (.iload_n 2, 1) := by decide +kernel
theorem dX7_isFolded_35 : decode cX7_isFolded 35 = .ok (.invokevirtual 79, 3) := by decide +kernel
theorem dX7_isFolded_38 : decode cX7_isFolded 38 = .ok (.aload_n 0, 1) := by decide +kernel
theorem dX7_isFolded_39 : decode cX7_isFolded 39 = .ok (.getfield 52, 3) := by decide +kernel
theorem dX7_isFolded_42 : decode cX7_isFolded 42 = .ok (.if_icmp .ne 18, 3) := by decide +kernel
theorem dX7_isFolded_45 : decode cX7_isFolded 45 = .ok (.aload_n 0, 1) := by decide +kernel
theorem dX7_isFolded_46 : decode cX7_isFolded 46 = .ok (.iload_n 1, 1) := by decide +kernel
theorem dX7_isFolded_47 : decode cX7_isFolded 47 = .ok (.invokevirtual 90, 3) := by decide +kernel
theorem dX7_isFolded_50 : decode cX7_isFolded 50 = .ok (.aload_n 0, 1) := by decide +kernel
theorem dX7_isFolded_51 : decode cX7_isFolded 51 = .ok (.iload_n 2, 1) := by decide +kernel
theorem dX7_isFolded_52 : decode cX7_isFolded 52 = .ok (.invokevirtual 90, 3) := by decide +kernel
theorem dX7_isFolded_55 : decode cX7_isFolded 55 = .ok (.if_icmp .eq 5, 3) := by decide +kernel
theorem dX7_isFolded_58 : decode cX7_isFolded 58 = .ok (.iconst 0, 1) := by decide +kernel
theorem dX7_isFolded_59 : decode cX7_isFolded 59 = .ok (.ireturn, 1) := by decide +kernel
theorem dX7_isFolded_60 : decode cX7_isFolded 60 = .ok (.iinc 2 1, 3) := by decide +kernel
theorem dX7_isFolded_63 : decode cX7_isFolded 63 = .ok (.goto (-39), 3) := by decide +kernel
theorem dX7_isFolded_66 : decode cX7_isFolded 66 = .ok (.iinc 1 1, 3) := by decide +kernel
theorem dX7_isFolded_69 : decode cX7_isFolded 69 = .ok (.goto (-57), 3) := by decide +kernel
theorem dX7_isFolded_72 : decode cX7_isFolded 72 = .ok (.iconst 1, 1) := by decide +kernel
theorem dX7_isFolded_73 : decode cX7_isFolded 73 = .ok (.ireturn, 1) := by decide +kernel
theorem dX8_init_0 : decode cX8_init 0 = .ok (.aload_n 0, 1) := by decide +kernel
theorem dX8_init_1 : decode cX8_init 1 = .ok (.invokespecial 3, 3) := by decide +kernel
theorem dX8_init_4 : decode cX8_init 4 = .ok (.aload_n 0, 1) := by decide +kernel
theorem dX8_init_5 : decode cX8_init 5 = .ok (.iconst 4, 1) := by decide +kernel
theorem dX8_init_6 : decode cX8_init 6 = .ok (.anewarray 9, 3) := by decide +kernel
theorem dX8_init_9 : decode cX8_init 9 = .ok (.putfield 11, 3) := by decide +kernel
theorem dX8_init_12 : decode cX8_init 12 = .ok (.iconst 0, 1) := by decide +kernel
theorem dX8_init_13 : decode cX8_init 13 = .ok (.istore_n 1, 1) := by decide +kernel
theorem dX8_init_14 : decode cX8_init 14 = .ok (.iload_n 1, 1) := by decide +kernel
theorem dX8_init_15 : decode cX8_init 15 = .ok (.iconst 4, 1) := by decide +kernel
theorem dX8_init_16 : decode cX8_init 16 = .ok (.if_icmp .ge 22, 3) := by decide +kernel
theorem dX8_init_19 : decode cX8_init 19 = .ok (.aload_n 0, 1) := by decide +kernel
theorem dX8_init_20 : decode cX8_init 20 = .ok (.getfield 11, 3) := by decide +kernel
theorem dX8_init_23 : decode cX8_init 23 = .ok (.iload_n 1, 1) := by decide +kernel
theorem dX8_init_24 : decode cX8_init 24 = .ok (.new 9, 3) := by decide +kernel
theorem dX8_init_27 : decode cX8_init 27 = .ok (.dup, 1) := by decide +kernel
theorem dX8_init_28 : decode cX8_init 28 = .ok (.invokespecial 15, 3) := by decide +kernel
theorem dX8_init_31 : decode cX8_init 31 = .ok (.aastore, 1) := by decide +kernel
theorem dX8_init_32 : decode cX8_init 32 = .ok (.iinc 1 1, 3) := by decide +kernel
theorem dX8_init_35 : decode cX8_init 35 = .ok (.goto (-21), 3) := by decide +kernel
theorem dX8_init_38 : decode cX8_init 38 = .ok (.aload_n 0, 1) := by decide +kernel
theorem dX8_init_39 : decode cX8_init 39 = .ok (.new 16, 3) := by decide +kernel
theorem dX8_init_42 : decode cX8_init 42 = .ok (.dup, 1) := by decide +kernel
theorem dX8_init_43 : decode cX8_init 43 = .ok (.invokespecial 18, 3) := by decide +kernel
theorem dX8_init_46 : decode cX8_init 46 = .ok (.putfield 19, 3) := by decide +kernel
theorem dX8_init_49 : decode cX8_init 49 = .ok (.aload_n 0, 1) := by decide +kernel
theorem dX8_init_50 : decode cX8_init 50 = .ok (.new 16, 3) := by decide +kernel
theorem dX8_init_53 : decode cX8_init 53 = .ok (.dup, 1) := by decide +kernel
theorem dX8_init_54 : decode cX8_init 54 = .ok (.invokespecial 18, 3) := by decide +kernel
theorem dX8_init_57 : decode cX8_init 57 = .ok (.putfield 23, 3) := by decide +kernel
theorem dX8_init_60 : decode cX8_init 60 = .ok (.aload_n 0, 1) := by decide +kernel
theorem dX8_init_61 : decode cX8_init 61 = .ok (.new 16, 3) := by decide +kernel
theorem dX8_init_64 : decode cX8_init 64 = .ok (.dup, 1) := by decide +kernel
theorem dX8_init_65 : decode cX8_init 65 = .ok (.invokespecial 18, 3) := by decide +kernel
theorem dX8_init_68 : decode cX8_init 68 = .ok (.putfield 26, 3) := by decide +kernel
theorem dX8_init_71 : decode cX8_init 71 = .ok (.aload_n 0, 1) := by decide +kernel
theorem dX8_init_72 : decode cX8_init 72 = .ok (.bipush 32, 2) := by decide +kernel
theorem dX8_init_74 : decode cX8_init 74 = .ok (.newarray .int, 2) := by decide +kernel
theorem dX8_init_76 : decode cX8_init 76 = .ok (.putfield 29, 3) := by decide +kernel
theorem dX8_init_79 : decode cX8_init 79 = .ok (.aload_n 0, 1) := by decide +kernel
theorem dX8_init_80 : decode cX8_init 80 = .ok (.bipush 32, 2) := by decide +kernel
theorem dX8_init_82 : decode cX8_init 82 = .ok (.newarray .int, 2) := by decide +kernel
theorem dX8_init_84 : decode cX8_init 84 = .ok (.putfield 33, 3) := by decide +kernel
theorem dX8_init_87 : decode cX8_init 87 = .ok (.aload_n 0, 1) := by decide +kernel
theorem dX8_init_88 : decode cX8_init 88 = .ok (.new 36, 3) := by decide +kernel
theorem dX8_init_91 : decode cX8_init 91 = .ok (.dup, 1) := by decide +kernel
theorem dX8_init_92 : decode cX8_init 92 = .ok (.invokespecial 38, 3) := by decide +kernel
theorem dX8_init_95 : decode cX8_init 95 = .ok (.putfield 39, 3) := by decide +kernel
theorem dX8_init_98 : decode cX8_init 98 = .ok (.aload_n 0, 1) := by decide +kernel
theorem dX8_init_99 : decode cX8_init 99 = .ok (.new 43, 3) := by decide +kernel
theorem dX8_init_102 : decode cX8_init 102 = .ok (.dup, 1) := by decide +kernel
theorem dX8_init_103 : decode cX8_init 103 = .ok (.invokespecial 45, 3) := by decide +kernel
theorem dX8_init_106 : decode cX8_init 106 = .ok (.putfield 46, 3) := by decide +kernel
theorem dX8_init_109 : decode cX8_init 109 = .ok (.aload_n 0, 1) := by decide +kernel
theorem dX8_init_110 : decode cX8_init 110 = .ok (.new 50, 3) := by decide +kernel
theorem dX8_init_113 : decode cX8_init 113 = .ok (.dup, 1) := by decide +kernel
theorem dX8_init_114 : decode cX8_init 114 = .ok (.invokespecial 52, 3) := by decide +kernel
theorem dX8_init_117 : decode cX8_init 117 = .ok (.putfield 53, 3) := by decide +kernel
theorem dX8_init_120 : decode cX8_init 120 = .ok (.aload_n 0, 1) := by decide +kernel
theorem dX8_init_121 : decode cX8_init 121 = .ok (.new 57, 3) := by decide +kernel
theorem dX8_init_124 : decode cX8_init 124 = .ok (.dup, 1) := by decide +kernel
theorem dX8_init_125 : decode cX8_init 125 = .ok (.invokespecial 59, 3) := by decide +kernel
theorem dX8_init_128 : decode cX8_init 128 = .ok (.putfield 60, 3) := by decide +kernel
theorem dX8_init_131 : decode cX8_init 131 = .ok (.aload_n 0, 1) := by decide +kernel
theorem dX8_init_132 : decode cX8_init 132 = .ok (.new 64, 3) := by decide +kernel
theorem dX8_init_135 : decode cX8_init 135 = .ok (.dup, 1) := by decide +kernel
theorem dX8_init_136 : decode cX8_init 136 = .ok (.invokespecial 66, 3) := by decide +kernel
theorem dX8_init_139 : decode cX8_init 139 = .ok (.putfield 67, 3) := by decide +kernel
theorem dX8_init_142 : decode cX8_init 142 = .ok (.aload_n 0, 1) := by decide +kernel
theorem dX8_init_143 : decode cX8_init 143 = .ok (.new 71, 3) := by decide +kernel
theorem dX8_init_146 : decode cX8_init 146 = .ok (.dup, 1) := by decide +kernel
theorem dX8_init_147 : decode cX8_init 147 = .ok (.invokespecial 73, 3) := by decide +kernel
theorem dX8_init_150 : decode cX8_init 150 = .ok (.putfield 74, 3) := by decide +kernel
theorem dX8_init_153 : decode cX8_init 153 = .ok (.return_, 1) := by decide +kernel
theorem dX8_sheet_0 : decode cX8_sheet 0 = .ok (.iload_n 1, 1) := by decide +kernel
theorem dX8_sheet_1 : decode cX8_sheet 1 = .ok (.invokestatic 78, 3) := by decide +kernel
theorem dX8_sheet_4 : decode cX8_sheet 4 = .ok (.ifCond .eq 12, 3) := by decide +kernel
theorem dX8_sheet_7 : decode cX8_sheet 7 = .ok (.iload_n 2, 1) := by decide +kernel
theorem dX8_sheet_8 : decode cX8_sheet 8 = .ok (.ifCond .lt 8, 3) := by decide +kernel
theorem dX8_sheet_11 : decode cX8_sheet 11 = .ok (.iload_n 2, 1) := by decide +kernel
theorem dX8_sheet_12 : decode cX8_sheet 12 = .ok (.iconst 2, 1) := by decide +kernel
theorem dX8_sheet_13 : decode cX8_sheet 13 = .ok (.if_icmp .le 5, 3) := by decide +kernel
theorem dX8_sheet_16 : decode cX8_sheet 16 = .ok (.iconst (-1), 1) := by decide +kernel
theorem dX8_sheet_17 : decode cX8_sheet 17 = .ok (.ireturn, 1) := by decide +kernel
theorem dX8_sheet_18 : decode cX8_sheet 18 = .ok (.iload_n 3, 1) := by decide +kernel
theorem dX8_sheet_19 : decode cX8_sheet 19 = .ok (.ifCond .ge 6, 3) := by decide +kernel
theorem dX8_sheet_22 : decode cX8_sheet 22 = .ok (.bipush (-4), 2) := by decide +kernel
theorem dX8_sheet_24 : decode cX8_sheet 24 = .ok (.ireturn, 1) := by decide +kernel
theorem dX8_sheet_25 : decode cX8_sheet 25 = .ok (.iload_n 3, 1) := by decide +kernel
theorem dX8_sheet_26 : decode cX8_sheet 26 = .ok (.bipush 60, 2) := by decide +kernel
theorem dX8_sheet_28 : decode cX8_sheet 28 = .ok (.if_icmp .le 5, 3) := by decide +kernel
theorem dX8_sheet_31 : decode cX8_sheet 31 = .ok (.iconst (-1), 1) := by decide +kernel
theorem dX8_sheet_32 : decode cX8_sheet 32 = .ok (.ireturn, 1) := by decide +kernel
theorem dX8_sheet_33 : decode cX8_sheet 33 = .ok (.aload_n 0, 1) := by decide +kernel
theorem dX8_sheet_34 : decode cX8_sheet 34 = .ok (.getfield 11, 3) := by decide +kernel
theorem dX8_sheet_37 : decode cX8_sheet 37 = .ok (.iload_n 1, 1) := by decide +kernel
theorem dX8_sheet_38 : decode cX8_sheet 38 = .ok (.aaload, 1) := by decide +kernel
theorem dX8_sheet_39 : decode cX8_sheet 39 = .ok (.iload_n 2, 1) := by decide +kernel
theorem dX8_sheet_40 : decode cX8_sheet 40 = .ok (.iload_n 3, 1) := by decide +kernel
theorem dX8_sheet_41 : decode cX8_sheet 41 = .ok (.invokevirtual 82, 3) := by decide +kernel
theorem dX8_sheet_44 : decode cX8_sheet 44 = .ok (.iconst 1, 1) := by decide +kernel
theorem dX8_sheet_45 : decode cX8_sheet 45 = .ok (.ireturn, 1) := by decide +kernel
theorem dX8_cell_0 : decode cX8_cell 0 = .ok (.iload_n 1, 1) := by decide +kernel
theorem dX8_cell_1 : decode cX8_cell 1 = .ok (.invokestatic 78, 3) := by decide +kernel
theorem dX8_cell_4 : decode cX8_cell 4 = .ok (.ifCond .ne 5, 3) := by decide +kernel
theorem dX8_cell_7 : decode cX8_cell 7 = .ok (.iconst (-1), 1) := by decide +kernel
theorem dX8_cell_8 : decode cX8_cell 8 = .ok (.ireturn, 1) := by decide +kernel
theorem dX8_cell_9 : decode cX8_cell 9 = .ok (.aload_n 0, 1) := by decide +kernel
theorem dX8_cell_10 : decode cX8_cell 10 = .ok (.getfield 11, 3) := by decide +kernel
theorem dX8_cell_13 : decode cX8_cell 13 = .ok (.iload_n 1, 1) := by decide +kernel
theorem dX8_cell_14 : decode cX8_cell 14 = .ok (.aaload, 1) := by decide +kernel
theorem dX8_cell_15 : decode cX8_cell 15 = .ok (.getfield 86, 3) := by decide +kernel
theorem dX8_cell_18 : decode cX8_cell 18 = .ok (.ifCond .ne 6, 3) := by decide +kernel
theorem dX8_cell_21 : decode cX8_cell 21 = .ok (.bipush (-3), 2) := by decide +kernel
theorem dX8_cell_23 : decode cX8_cell 23 = .ok (.ireturn, 1) := by decide +kernel
theorem dX8_cell_24 : decode cX8_cell 24 = .ok (.aload_n 0, 1) := by decide +kernel
theorem dX8_cell_25 : decode cX8_cell 25 = .ok (.getfield 11, 3) := by decide +kernel
theorem dX8_cell_28 : decode cX8_cell 28 = .ok (.iload_n 1, 1) := by decide +kernel
theorem dX8_cell_29 : decode cX8_cell 29 = .ok (.aaload, 1) := by decide +kernel
theorem dX8_cell_30 : decode cX8_cell 30 = .ok (.iload_n 2, 1) := by decide +kernel
theorem dX8_cell_31 : decode cX8_cell 31 = .ok (.invokevirtual 90, 3) := by decide +kernel
theorem dX8_cell_34 : decode cX8_cell 34 = .ok (.ifCond .ne 5, 3) := by decide +kernel
theorem dX8_cell_37 : decode cX8_cell 37 = .ok (.iconst (-1), 1) := by decide +kernel
theorem dX8_cell_38 : decode cX8_cell 38 = .ok (.ireturn, 1) := by decide +kernel
theorem dX8_cell_39 : decode cX8_cell 39 = .ok (.aload_n 0, 1) := by decide +kernel
theorem dX8_cell_40 : decode cX8_cell 40 = .ok (.getfield 11, 3) := by decide +kernel
theorem dX8_cell_43 : decode cX8_cell 43 = .ok (.iload_n 1, 1) := by decide +kernel
theorem dX8_cell_44 : decode cX8_cell 44 = .ok (.aaload, 1) := by decide +kernel
theorem dX8_cell_45 : decode cX8_cell 45 = .ok (.iload_n 2, 1) := by decide +kernel
theorem dX8_cell_46 : decode cX8_cell 46 = .ok (.iload_n 3, 1) := by decide +kernel
theorem dX8_cell_47 : decode cX8_cell 47 = .ok (.invokevirtual 93, 3) := by decide +kernel
theorem dX8_cell_50 : decode cX8_cell 50 = .ok (.iconst 1, 1) := by decide +kernel
theorem dX8_cell_51 : decode cX8_cell 51 = .ok (.ireturn, 1) := by decide +kernel
theorem dX8_lose_0 : decode cX8_lose 0 = .ok (.iload_n 1, 1) := by decide +kernel
theorem dX8_lose_1 : decode cX8_lose 1 = .ok (.invokestatic 78, 3) := by decide +kernel
theorem dX8_lose_4 : decode cX8_lose 4 = .ok (.ifCond .ne 5, 3) := by decide +kernel
theorem dX8_lose_7 : decode cX8_lose 7 = .ok (.iconst (-1), 1) := by decide +kernel
theorem dX8_lose_8 : decode cX8_lose 8 = .ok (.ireturn, 1) := by decide +kernel
theorem dX8_lose_9 : decode cX8_lose 9 = .ok (.aload_n 0, 1) := by decide +kernel
theorem dX8_lose_10 : decode cX8_lose 10 = .ok (.getfield 11, 3) := by decide +kernel
theorem dX8_lose_13 : decode cX8_lose 13 = .ok (.iload_n 1, 1) := by decide +kernel
theorem dX8_lose_14 : decode cX8_lose 14 = .ok (.aaload, 1) := by decide +kernel
theorem dX8_lose_15 : decode cX8_lose 15 = .ok (.getfield 86, 3) := by decide +kernel
theorem dX8_lose_18 : decode cX8_lose 18 = .ok (.ifCond .ne 6, 3) := by decide +kernel
theorem dX8_lose_21 : decode cX8_lose 21 = .ok (.bipush (-3), 2) := by decide +kernel
theorem dX8_lose_23 : decode cX8_lose 23 = .ok (.ireturn, 1) := by decide +kernel
theorem dX8_lose_24 : decode cX8_lose 24 = .ok (.aload_n 0, 1) := by decide +kernel
theorem dX8_lose_25 : decode cX8_lose 25 = .ok (.getfield 11, 3) := by decide +kernel
theorem dX8_lose_28 : decode cX8_lose 28 = .ok (.iload_n 1, 1) := by decide +kernel
theorem dX8_lose_29 : decode cX8_lose 29 = .ok (.aaload, 1) := by decide +kernel
theorem dX8_lose_30 : decode cX8_lose 30 = .ok (.iconst 0, 1) := by decide +kernel
theorem dX8_lose_31 : decode cX8_lose 31 = .ok (.putfield 86, 3) := by decide +kernel
theorem dX8_lose_34 : decode cX8_lose 34 = .ok (.iconst 1, 1) := by decide +kernel
theorem dX8_lose_35 : decode cX8_lose 35 = .ok (.ireturn, 1) := by decide +kernel
theorem dX8_net_0 : decode cX8_net 0 = .ok (.iload_n 1, 1) := by decide +kernel
theorem dX8_net_1 : decode cX8_net 1 = .ok (.ifCond .lt 9, 3) := by decide +kernel
theorem dX8_net_4 : decode cX8_net 4 = .ok (.iload_n 1, 1) := by decide +kernel
theorem dX8_net_5 : decode cX8_net 5 = .ok (.bipush 32, 2) := by decide +kernel
theorem dX8_net_7 : decode cX8_net 7 = .ok (.if_icmp .le 5, 3) := by decide +kernel
theorem dX8_net_10 : decode cX8_net 10 = .ok (.iconst (-1), 1) := by decide +kernel
theorem dX8_net_11 : decode cX8_net 11 = .ok (.ireturn, 1) := by decide +kernel
theorem dX8_net_12 : decode cX8_net 12 = .ok (.aload_n 0, 1) := by decide +kernel
theorem dX8_net_13 : decode cX8_net 13 = .ok (.getfield 19, 3) := by decide +kernel
theorem dX8_net_16 : decode cX8_net 16 = .ok (.iload_n 1, 1) := by decide +kernel
theorem dX8_net_17 : decode cX8_net 17 = .ok (.invokevirtual 96, 3) := by decide +kernel
theorem dX8_net_20 : decode cX8_net 20 = .ok (.aload_n 0, 1) := by decide +kernel
theorem dX8_net_21 : decode cX8_net 21 = .ok (.invokevirtual 100, 3) := by decide +kernel
theorem dX8_net_24 : decode cX8_net 24 = .ok (.iconst 1, 1) := by decide +kernel
theorem dX8_net_25 : decode cX8_net 25 = .ok (.ireturn, 1) := by decide +kernel
theorem dX8_road_0 : decode cX8_road 0 = .ok (.aload_n 0, 1) := by decide +kernel
theorem dX8_road_1 : decode cX8_road 1 = .ok (.getfield 19, 3) := by decide +kernel
theorem dX8_road_4 : decode cX8_road 4 = .ok (.iload_n 1, 1) := by decide +kernel
theorem dX8_road_5 : decode cX8_road 5 = .ok (.iload_n 2, 1) := by decide +kernel
theorem dX8_road_6 : decode cX8_road 6 = .ok (.invokevirtual 103, 3) := by decide +kernel
theorem dX8_road_9 : decode cX8_road 9 = .ok (.ifCond .ne 5, 3) := by decide +kernel
theorem dX8_road_12 : decode cX8_road 12 = .ok (.iconst (-1), 1) := by decide +kernel
theorem dX8_road_13 : decode cX8_road 13 = .ok (.ireturn, 1) := by decide +kernel
theorem dX8_road_14 : decode cX8_road 14 = .ok (.aload_n 0, 1) := by decide +kernel
theorem dX8_road_15 : decode cX8_road 15 = .ok (.getfield 19, 3) := by decide +kernel
theorem dX8_road_18 : decode cX8_road 18 = .ok (.iload_n 1, 1) := by decide +kernel
theorem dX8_road_19 : decode cX8_road 19 = .ok (.iload_n 2, 1) := by decide +kernel
theorem dX8_road_20 : decode cX8_road 20 = .ok (.invokevirtual 107, 3) := by decide +kernel
theorem dX8_road_23 : decode cX8_road 23 = .ok (.iload_n 3, 1) := by decide +kernel
theorem dX8_road_24 : decode cX8_road 24 = .ok (.if_icmp .ne 5, 3) := by decide +kernel
theorem dX8_road_27 : decode cX8_road 27 = .ok (.iconst 0, 1) := by decide +kernel
theorem dX8_road_28 : decode cX8_road 28 = .ok (.ireturn, 1) := by decide +kernel
theorem dX8_road_29 : decode cX8_road 29 = .ok (.iload_n 3, 1) := by decide +kernel
theorem dX8_road_30 : decode cX8_road 30 = .ok (.ifCond .eq 15, 3) := by decide +kernel
theorem dX8_road_33 : decode cX8_road 33 = .ok (.aload_n 0, 1) := by decide +kernel
theorem dX8_road_34 : decode cX8_road 34 = .ok (.getfield 19, 3) := by decide +kernel
theorem dX8_road_37 : decode cX8_road 37 = .ok (.iload_n 1, 1) := by decide +kernel
theorem dX8_road_38 : decode cX8_road 38 = .ok (.iload_n 2, 1) := by decide +kernel
theorem dX8_road_39 : decode cX8_road 39 = .ok (.invokevirtual 110, 3) := by decide +kernel
theorem dX8_road_42 : decode cX8_road 42 = .ok (.goto 12, 3) := by decide +kernel
theorem dX8_road_45 : decode cX8_road 45 = .ok (.aload_n 0, 1) := by decide +kernel
theorem dX8_road_46 : decode cX8_road 46 = .ok (.getfield 19, 3) := by decide +kernel
theorem dX8_road_49 : decode cX8_road 49 = .ok (.iload_n 1, 1) := by decide +kernel
theorem dX8_road_50 : decode cX8_road 50 = .ok (.iload_n 2, 1) := by decide +kernel
theorem dX8_road_51 : decode cX8_road 51 = .ok (.invokevirtual 113, 3) := by decide +kernel
theorem dX8_road_54 : decode cX8_road 54 = .ok (.aload_n 0, 1) := by decide +kernel
theorem dX8_road_55 : decode cX8_road 55 = .ok (.invokevirtual 100, 3) := by decide +kernel
theorem dX8_road_58 : decode cX8_road 58 = .ok (.iconst 1, 1) := by decide +kernel
theorem dX8_road_59 : decode cX8_road 59 = .ok (.ireturn, 1) := by decide +kernel
theorem dX8_load_0 : decode cX8_load 0 = .ok (.iload_n 1, 1) := by decide +kernel
theorem dX8_load_1 : decode cX8_load 1 = .ok (.invokestatic 78, 3) := by decide +kernel
theorem dX8_load_4 : decode cX8_load 4 = .ok (.ifCond .ne 5, 3) := by decide +kernel
theorem dX8_load_7 : decode cX8_load 7 = .ok (.iconst (-1), 1) := by decide +kernel
theorem dX8_load_8 : decode cX8_load 8 = .ok (.ireturn, 1) := by decide +kernel
theorem dX8_load_9 : decode cX8_load 9 = .ok (.aload_n 0, 1) := by decide +kernel
theorem dX8_load_10 : decode cX8_load 10 = .ok (.getfield 11, 3) := by decide +kernel
theorem dX8_load_13 : decode cX8_load 13 = .ok (.iload_n 1, 1) := by decide +kernel
theorem dX8_load_14 : decode cX8_load 14 = .ok (.aaload, 1) := by decide +kernel
theorem dX8_load_15 : decode cX8_load 15 = .ok (.getfield 86, 3) := by decide +kernel
theorem dX8_load_18 : decode cX8_load 18 = .ok (.ifCond .ne 6, 3) := by decide +kernel
theorem dX8_load_21 : decode cX8_load 21 = .ok (.bipush (-3), 2) := by decide +kernel
theorem dX8_load_23 : decode cX8_load 23 = .ok (.ireturn, 1) := by decide +kernel
theorem dX8_load_24 : decode cX8_load 24 = .ok (.aload_n 0, 1) := by decide +kernel
theorem dX8_load_25 : decode cX8_load 25 = .ok (.aload_n 0, 1) := by decide +kernel
theorem dX8_load_26 : decode cX8_load 26 = .ok (.getfield 11, 3) := by decide +kernel
theorem dX8_load_29 : decode cX8_load 29 = .ok (.iload_n 1, 1) := by decide +kernel
theorem dX8_load_30 : decode cX8_load 30 = .ok (.aaload, 1) := by decide +kernel
theorem dX8_load_31 : decode cX8_load 31 = .ok (.iload_n 2, 1) := by decide +kernel
theorem dX8_load_32 : decode cX8_load 32 = .ok (.iload_n 3, 1) := by decide +kernel
theorem dX8_load_33 : decode cX8_load 33 = .ok (.invokevirtual 116, 3) := by decide +kernel
theorem dX8_load_36 : decode cX8_load 36 = .ok (.ifCond .ne 5, 3) := by decide +kernel
theorem dX8_load_39 : decode cX8_load 39 = .ok (.iconst (-1), 1) := by decide +kernel
theorem dX8_load_40 : decode cX8_load 40 = .ok (.ireturn, 1) := by decide +kernel
theorem dX8_load_41 : decode cX8_load 41 = .ok (.aload_n 0, 1) := by decide +kernel
theorem dX8_load_42 : decode cX8_load 42 = .ok (.getfield 19, 3) := by decide +kernel
theorem dX8_load_45 : decode cX8_load 45 = .ok (.invokevirtual 120, 3) := by decide +kernel
theorem dX8_load_48 : decode cX8_load 48 = .ok (.istore 4, 2) := by decide +kernel
theorem dX8_load_50 : decode cX8_load 50 = .ok (.iconst 0, 1) := by decide +kernel
theorem dX8_load_51 : decode cX8_load 51 = .ok (.istore 5, 2) := by decide +kernel
theorem dX8_load_53 : decode cX8_load 53 = .ok (.iload 5, 2) := by decide +kernel
theorem dX8_load_55 : decode cX8_load 55 = .ok (.iload_n 3, 1) := by decide +kernel
theorem dX8_load_56 : decode cX8_load 56 = .ok (.if_icmp .ge 48, 3) := by decide +kernel
theorem dX8_load_59 : decode cX8_load 59 = .ok (.iload_n 2, 1) := by decide +kernel
theorem dX8_load_60 : decode cX8_load 60 = .ok (.iconst 2, 1) := by decide +kernel
theorem dX8_load_61 : decode cX8_load 61 = .ok (.iload 5, 2) := by decide +kernel
theorem dX8_load_63 : decode cX8_load 63 = .ok (.imul, 1) := by decide +kernel
theorem dX8_load_64 : decode cX8_load 64 = .ok (.iadd, 1) := by decide +kernel
theorem dX8_load_65 : decode cX8_load 65 = .ok (.istore 6, 2) := by decide +kernel
theorem dX8_load_67 : decode cX8_load 67 = .ok (.aload_n 0, 1) := by decide +kernel
theorem dX8_load_68 : decode cX8_load 68 = .ok (.getfield 19, 3) := by decide +kernel
theorem dX8_load_71 : decode cX8_load 71 = .ok (.aload_n 0, 1) := by decide +kernel
theorem dX8_load_72 : decode cX8_load 72 = .ok (.getfield 11, 3) := by decide +kernel
theorem dX8_load_75 : decode cX8_load 75 = .ok (.iload_n 1, 1) := by decide +kernel
theorem dX8_load_76 : decode cX8_load 76 = .ok (.aaload, 1) := by decide +kernel
theorem dX8_load_77 : decode cX8_load 77 = .ok (.iload 6, 2) := by decide +kernel
theorem dX8_load_79 : decode cX8_load 79 = .ok (.invokevirtual 124, 3) := by decide +kernel
theorem dX8_load_82 : decode cX8_load 82 = .ok (.aload_n 0, 1) := by decide +kernel
theorem dX8_load_83 : decode cX8_load 83 = .ok (.getfield 11, 3) := by decide +kernel
theorem dX8_load_86 : decode cX8_load 86 = .ok (.iload_n 1, 1) := by decide +kernel
theorem dX8_load_87 : decode cX8_load 87 = .ok (.aaload, 1) := by decide +kernel
theorem dX8_load_88 : decode cX8_load 88 = .ok (.iload 6, 2) := by decide +kernel
theorem dX8_load_90 : decode cX8_load 90 = .ok (.iconst 1, 1) := by decide +kernel
theorem dX8_load_91 : decode cX8_load 91 = .ok (.iadd, 1) := by decide +kernel
theorem dX8_load_92 : decode cX8_load 92 = .ok (.invokevirtual 124, 3) := by decide +kernel
theorem dX8_load_95 : decode cX8_load 95 = .ok (.invokevirtual 110, 3) := by decide +kernel
theorem dX8_load_98 : decode cX8_load 98 = .ok (.iinc 5 1, 3) := by decide +kernel
theorem dX8_load_101 : decode cX8_load 101 = .ok (.goto (-48), 3) := by decide +kernel
theorem dX8_load_104 : decode cX8_load 104 = .ok (.aload_n 0, 1) := by decide +kernel
theorem dX8_load_105 : decode cX8_load 105 = .ok (.invokevirtual 100, 3) := by decide +kernel
theorem dX8_load_108 : decode cX8_load 108 = .ok (.aload_n 0, 1) := by decide +kernel
theorem dX8_load_109 : decode cX8_load 109 = .ok (.getfield 19, 3) := by decide +kernel
theorem dX8_load_112 : decode cX8_load 112 = .ok (.invokevirtual 120, 3) := by decide +kernel
theorem dX8_load_115 : decode cX8_load 115 = .ok (.iload 4, 2) := by decide +kernel
theorem dX8_load_117 : decode cX8_load 117 = .ok (.isub, 1) := by decide +kernel
theorem dX8_load_118 : decode cX8_load 118 = .ok (.ireturn, 1) := by decide +kernel
theorem dX8_joined_0 : decode cX8_joined 0 = .ok (.aload_n 0, 1) := by decide +kernel
theorem dX8_joined_1 : decode cX8_joined 1 = .ok (.getfield 19, 3) := by decide +kernel
theorem dX8_joined_4 : decode cX8_joined 4 = .ok (.iload_n 1, 1) := by decide +kernel
theorem dX8_joined_5 : decode cX8_joined 5 = .ok (.iload_n 2, 1) := by decide +kernel
theorem dX8_joined_6 : decode cX8_joined 6 = .ok (.invokevirtual 107, 3) := by decide +kernel
theorem dX8_joined_9 : decode cX8_joined 9 = .ok (.ireturn, 1) := by decide +kernel
theorem dX8_build_0 : decode cX8_build 0 = .ok (.iload_n 1, 1) := by decide +kernel
theorem dX8_build_1 : decode cX8_build 1 = .ok (.iload_n 2, 1) := by decide +kernel
theorem dX8_build_2 : decode cX8_build 2 = .ok (.iload_n 3, 1) := by decide +kernel
theorem dX8_build_3 : decode cX8_build 3 = .ok (.invokestatic 128, 3) := by decide +kernel
theorem dX8_build_6 : decode cX8_build 6 = .ok (.ifCond .ne 5, 3) := by decide +kernel
theorem dX8_build_9 : decode cX8_build 9 = .ok (.iconst (-1), 1) := by decide +kernel
theorem dX8_build_10 : decode cX8_build 10 = .ok (.ireturn, 1) := by decide +kernel
theorem dX8_build_11 : decode cX8_build 11 = .ok (.iload_n 1, 1) := by decide +kernel
theorem dX8_build_12 : decode cX8_build 12 = .ok (.iload_n 2, 1) := by decide +kernel
theorem dX8_build_13 : decode cX8_build 13 = .ok (.iload_n 3, 1) := by decide +kernel
theorem dX8_build_14 : decode cX8_build 14 = .ok (.invokestatic 132, 3) := by decide +kernel
theorem dX8_build_17 : decode cX8_build 17 = .ok (.lstore 4, 2) := by decide +kernel
theorem dX8_build_19 : decode cX8_build 19 = .ok (.lload 4, 2) := by decide +kernel
theorem dX8_build_21 : decode cX8_build 21 = .ok (.ldc2_w 136, 3) := by decide +kernel
theorem dX8_build_24 : decode cX8_build 24 = .ok (.lcmp, 1) := by decide +kernel
theorem dX8_build_25 : decode cX8_build 25 = .ok (.ifCond .le 6, 3) := by decide +kernel
theorem dX8_build_28 : decode cX8_build 28 = .ok (.bipush (-2), 2) := by decide +kernel
theorem dX8_build_30 : decode cX8_build 30 = .ok (.ireturn, 1) := by decide +kernel
theorem dX8_build_31 : decode cX8_build 31 = .ok (.aload_n 0, 1) := by decide +kernel
theorem dX8_build_32 : decode cX8_build 32 = .ok (.getfield 23, 3) := by decide +kernel
theorem dX8_build_35 : decode cX8_build 35 = .ok (.lload 4, 2) := by decide +kernel
theorem dX8_build_37 : decode cX8_build 37 = .ok (.l2i, 1) := by decide +kernel
theorem dX8_build_38 : decode cX8_build 38 = .ok (.invokevirtual 96, 3) := by decide +kernel
theorem dX8_build_41 : decode cX8_build 41 = .ok (.aload_n 0, 1) := by decide +kernel
theorem dX8_build_42 : decode cX8_build 42 = .ok (.getfield 39, 3) := by decide +kernel
theorem dX8_build_45 : decode cX8_build 45 = .ok (.aload_n 0, 1) := by decide +kernel
theorem dX8_build_46 : decode cX8_build 46 = .ok (.getfield 23, 3) := by decide +kernel
theorem dX8_build_49 : decode cX8_build 49 = .ok (.iload_n 1, 1) := by decide +kernel
theorem dX8_build_50 : decode cX8_build 50 = .ok (.iload_n 2, 1) := by decide +kernel
theorem dX8_build_51 : decode cX8_build 51 = .ok (.iload_n 3, 1) := by decide +kernel
theorem dX8_build_52 : decode cX8_build 52 = .ok (.invokevirtual 138, 3) := by decide +kernel
theorem dX8_build_55 : decode cX8_build 55 = .ok (.aload_n 0, 1) := by decide +kernel
theorem dX8_build_56 : decode cX8_build 56 = .ok (.invokevirtual 141, 3) := by decide +kernel
theorem dX8_build_59 : decode cX8_build 59 = .ok (.ireturn, 1) := by decide +kernel
theorem dX8_way_0 : decode cX8_way 0 = .ok (.aload_n 0, 1) := by decide +kernel
theorem dX8_way_1 : decode cX8_way 1 = .ok (.getfield 19, 3) := by decide +kernel
theorem dX8_way_4 : decode cX8_way 4 = .ok (.iload_n 1, 1) := by decide +kernel
theorem dX8_way_5 : decode cX8_way 5 = .ok (.invokevirtual 144, 3) := by decide +kernel
theorem dX8_way_8 : decode cX8_way 8 = .ok (.ifCond .eq 14, 3) := by decide +kernel
theorem dX8_way_11 : decode cX8_way 11 = .ok (.aload_n 0, 1) := by decide +kernel
theorem dX8_way_12 : decode cX8_way 12 = .ok (.getfield 19, 3) := by decide +kernel
theorem dX8_way_15 : decode cX8_way 15 = .ok (.iload_n 2, 1) := by decide +kernel
theorem dX8_way_16 : decode cX8_way 16 = .ok (.invokevirtual 144, 3) := by decide +kernel
theorem dX8_way_19 : decode cX8_way 19 = .ok (.ifCond .ne 5, 3) := by decide +kernel
theorem dX8_way_22 : decode cX8_way 22 = .ok (.iconst (-1), 1) := by decide +kernel
theorem dX8_way_23 : decode cX8_way 23 = .ok (.ireturn, 1) := by decide +kernel
theorem dX8_way_24 : decode cX8_way 24 = .ok (.aload_n 0, 1) := by decide +kernel
theorem dX8_way_25 : decode cX8_way 25 = .ok (.invokevirtual 145, 3) := by decide +kernel
theorem dX8_way_28 : decode cX8_way 28 = .ok (.aload_n 0, 1) := by decide +kernel
theorem dX8_way_29 : decode cX8_way 29 = .ok (.getfield 46, 3) := by decide +kernel
theorem dX8_way_32 : decode cX8_way 32 = .ok (.iload_n 1, 1) := by decide +kernel
theorem dX8_way_33 : decode cX8_way 33 = .ok (.iload_n 2, 1) := by decide +kernel
theorem dX8_way_34 : decode cX8_way 34 = .ok (.invokevirtual 148, 3) := by decide +kernel
theorem dX8_way_37 : decode cX8_way 37 = .ok (.istore_n 3, 1) := by decide +kernel
theorem dX8_way_38 : decode cX8_way 38 = .ok (.iload_n 3, 1) := by decide +kernel
theorem dX8_way_39 : decode cX8_way 39 = .ok (.ifCond .ge 8, 3) := by decide +kernel
theorem dX8_way_42 : decode cX8_way 42 = .ok (.bipush (-8), 2) := by decide +kernel
theorem dX8_way_44 : decode cX8_way 44 = .ok (.goto 4, 3) := by decide +kernel
theorem dX8_way_47 : decode cX8_way 47 = .ok (.iload_n 3, 1) := by decide +kernel
theorem dX8_way_48 : decode cX8_way 48 = .ok (.ireturn, 1) := by decide +kernel
theorem dX8_many_0 : decode cX8_many 0 = .ok (.aload_n 0, 1) := by decide +kernel
theorem dX8_many_1 : decode cX8_many 1 = .ok (.invokevirtual 145, 3) := by decide +kernel
theorem dX8_many_4 : decode cX8_many 4 = .ok (.iload_n 1, 1) := by decide +kernel
theorem dX8_many_5 : decode cX8_many 5 = .ok (.tableswitch 155 0 9 #[55, 63, 71, 79, 90, 98, 110, 121, 136, 147], 55) := by decide +kernel
theorem dX8_many_60 : decode cX8_many 60 = .ok (.aload_n 0, 1) := by decide +kernel
theorem dX8_many_61 : decode cX8_many 61 = .ok (.getfield 19, 3) := by decide +kernel
theorem dX8_many_64 : decode cX8_many 64 = .ok (.getfield 152, 3) := by decide +kernel
theorem dX8_many_67 : decode cX8_many 67 = .ok (.ireturn, 1) := by decide +kernel
theorem dX8_many_68 : decode cX8_many 68 = .ok (.aload_n 0, 1) := by decide +kernel
theorem dX8_many_69 : decode cX8_many 69 = .ok (.getfield 19, 3) := by decide +kernel
theorem dX8_many_72 : decode cX8_many 72 = .ok (.invokevirtual 120, 3) := by decide +kernel
theorem dX8_many_75 : decode cX8_many 75 = .ok (.ireturn, 1) := by decide +kernel
theorem dX8_many_76 : decode cX8_many 76 = .ok (.aload_n 0, 1) := by decide +kernel
theorem dX8_many_77 : decode cX8_many 77 = .ok (.getfield 46, 3) := by decide +kernel
theorem dX8_many_80 : decode cX8_many 80 = .ok (.invokevirtual 155, 3) := by decide +kernel
theorem dX8_many_83 : decode cX8_many 83 = .ok (.ireturn, 1) := by decide +kernel
theorem dX8_many_84 : decode cX8_many 84 = .ok (.aload_n 0, 1) := by decide +kernel
theorem dX8_many_85 : decode cX8_many 85 = .ok (.getfield 46, 3) := by decide +kernel
theorem dX8_many_88 : decode cX8_many 88 = .ok (.getfield 158, 3) := by decide +kernel
theorem dX8_many_91 : decode cX8_many 91 = .ok (.invokestatic 161, 3) := by decide +kernel
theorem dX8_many_94 : decode cX8_many 94 = .ok (.ireturn, 1) := by decide +kernel
theorem dX8_many_95 : decode cX8_many 95 = .ok (.aload_n 0, 1) := by decide +kernel
theorem dX8_many_96 : decode cX8_many 96 = .ok (.getfield 46, 3) := by decide +kernel
theorem dX8_many_99 : decode cX8_many 99 = .ok (.getfield 165, 3) := by decide +kernel
theorem dX8_many_102 : decode cX8_many 102 = .ok (.ireturn, 1) := by decide +kernel
theorem dX8_many_103 : decode cX8_many 103 = .ok (.aload_n 0, 1) := by decide +kernel
theorem dX8_many_104 : decode cX8_many 104 = .ok (.getfield 46, 3) := by decide +kernel
theorem dX8_many_107 : decode cX8_many 107 = .ok (.aload_n 0, 1) := by decide +kernel
theorem dX8_many_108 : decode cX8_many 108 = .ok (.getfield 19, 3) := by decide +kernel
theorem dX8_many_111 : decode cX8_many 111 = .ok (.invokevirtual 168, 3) := by decide +kernel
theorem dX8_many_114 : decode cX8_many 114 = .ok (.ireturn, 1) := by decide +kernel
theorem dX8_many_115 : decode cX8_many 115 = .ok (.aload_n 0, 1) := by decide +kernel
theorem dX8_many_116 : decode cX8_many 116 = .ok (.getfield 19, 3) := by decide +kernel
theorem dX8_many_119 : decode cX8_many 119 = .ok (.invokevirtual 172, 3) := by decide +kernel
theorem dX8_many_122 : decode cX8_many 122 = .ok (.invokestatic 161, 3) := by decide +kernel
theorem dX8_many_125 : decode cX8_many 125 = .ok (.ireturn, 1) := by decide +kernel
theorem dX8_many_126 : decode cX8_many 126 = .ok (.aload_n 0, 1) := by decide +kernel
theorem dX8_many_127 : decode cX8_many 127 = .ok (.getfield 46, 3) := by decide +kernel
theorem dX8_many_130 : decode cX8_many 130 = .ok (.aload_n 0, 1) := by decide +kernel
theorem dX8_many_131 : decode cX8_many 131 = .ok (.getfield 19, 3) := by decide +kernel
theorem dX8_many_134 : decode cX8_many 134 = .ok (.invokevirtual 176, 3) := by decide +kernel
theorem dX8_many_137 : decode cX8_many 137 = .ok (.invokestatic 161, 3) := by decide +kernel
theorem dX8_many_140 : decode cX8_many 140 = .ok (.ireturn, 1) := by decide +kernel
theorem dX8_many_141 : decode cX8_many 141 = .ok (.aload_n 0, 1) := by decide +kernel
theorem dX8_many_142 : decode cX8_many 142 = .ok (.getfield 46, 3) := by decide +kernel
theorem dX8_many_145 : decode cX8_many 145 = .ok (.invokevirtual 180, 3) := by decide +kernel
theorem dX8_many_148 : decode cX8_many 148 = .ok (.invokestatic 161, 3) := by decide +kernel
theorem dX8_many_151 : decode cX8_many 151 = .ok (.ireturn, 1) := by decide +kernel
theorem dX8_many_152 : decode cX8_many 152 = .ok (.aload_n 0, 1) := by decide +kernel
theorem dX8_many_153 : decode cX8_many 153 = .ok (.invokevirtual 183, 3) := by decide +kernel
theorem dX8_many_156 : decode cX8_many 156 = .ok (.invokestatic 161, 3) := by decide +kernel
theorem dX8_many_159 : decode cX8_many 159 = .ok (.ireturn, 1) := by decide +kernel
theorem dX8_many_160 : decode cX8_many 160 = .ok (.iconst (-1), 1) := by decide +kernel
theorem dX8_many_161 : decode cX8_many 161 = .ok (.ireturn, 1) := by decide +kernel
theorem dX8_clash_0 : decode cX8_clash 0 = .ok (.iload_n 1, 1) := by decide +kernel
theorem dX8_clash_1 : decode cX8_clash 1 = .ok (.ifCond .eq 10, 3) := by decide +kernel
theorem dX8_clash_4 : decode cX8_clash 4 = .ok (.iload_n 1, 1) := by decide +kernel
theorem dX8_clash_5 : decode cX8_clash 5 = .ok (.iconst 1, 1) := by decide +kernel
theorem dX8_clash_6 : decode cX8_clash 6 = .ok (.if_icmp .eq 5, 3) := by decide +kernel
theorem dX8_clash_9 : decode cX8_clash 9 = .ok (.iconst (-1), 1) := by decide +kernel
theorem dX8_clash_10 : decode cX8_clash 10 = .ok (.ireturn, 1) := by decide +kernel
theorem dX8_clash_11 : decode cX8_clash 11 = .ok (.aload_n 0, 1) := by decide +kernel
theorem dX8_clash_12 : decode cX8_clash 12 = .ok (.invokevirtual 145, 3) := by decide +kernel
theorem dX8_clash_15 : decode cX8_clash 15 = .ok (.aload_n 0, 1) := by decide +kernel
theorem dX8_clash_16 : decode cX8_clash 16 = .ok (.getfield 46, 3) := by decide +kernel
theorem dX8_clash_19 : decode cX8_clash 19 = .ok (.getfield 158, 3) := by decide +kernel
theorem dX8_clash_22 : decode cX8_clash 22 = .ok (.ifCond .ne 6, 3) := by decide +kernel
theorem dX8_clash_25 : decode cX8_clash 25 = .ok (.bipush (-5), 2) := by decide +kernel
theorem dX8_clash_27 : decode cX8_clash 27 = .ok (.ireturn, 1) := by decide +kernel
theorem dX8_clash_28 : decode cX8_clash 28 = .ok (.aload_n 0, 1) := by decide +kernel
theorem dX8_clash_29 : decode cX8_clash 29 = .ok (.invokevirtual 183, 3) := by decide +kernel
theorem dX8_clash_32 : decode cX8_clash 32 = .ok (.ifCond .eq 6, 3) := by decide +kernel
theorem dX8_clash_35 : decode cX8_clash 35 = .ok (.bipush (-8), 2) := by decide +kernel
theorem dX8_clash_37 : decode cX8_clash 37 = .ok (.ireturn, 1) := by decide +kernel
theorem dX8_clash_38 : decode cX8_clash 38 = .ok (.iload_n 1, 1) := by decide +kernel
theorem dX8_clash_39 : decode cX8_clash 39 = .ok (.ifCond .ne 13, 3) := by decide +kernel
theorem dX8_clash_42 : decode cX8_clash 42 = .ok (.aload_n 0, 1) := by decide +kernel
theorem dX8_clash_43 : decode cX8_clash 43 = .ok (.getfield 53, 3) := by decide +kernel
theorem dX8_clash_46 : decode cX8_clash 46 = .ok (.getfield 186, 3) := by decide +kernel
theorem dX8_clash_49 : decode cX8_clash 49 = .ok (.goto 10, 3) := by decide +kernel
theorem dX8_clash_52 : decode cX8_clash 52 = .ok (.aload_n 0, 1) := by decide +kernel
theorem dX8_clash_53 : decode cX8_clash 53 = .ok (.getfield 53, 3) := by decide +kernel
theorem dX8_clash_56 : decode cX8_clash 56 = .ok (.getfield 189, 3) := by decide +kernel
theorem dX8_clash_59 : decode cX8_clash 59 = .ok (.ireturn, 1) := by decide +kernel
theorem dX8_table_0 : decode cX8_table 0 = .ok (.iload_n 2, 1) := by decide +kernel
theorem dX8_table_1 : decode cX8_table 1 = .ok (.ifCond .lt 8, 3) := by decide +kernel
theorem dX8_table_4 : decode cX8_table 4 = .ok (.iload_n 2, 1) := by decide +kernel
theorem dX8_table_5 : decode cX8_table 5 = .ok (.iconst 3, 1) := by decide +kernel
theorem dX8_table_6 : decode cX8_table 6 = .ok (.if_icmp .le 5, 3) := by decide +kernel
theorem dX8_table_9 : decode cX8_table 9 = .ok (.iconst (-1), 1) := by decide +kernel
theorem dX8_table_10 : decode cX8_table 10 = .ok (.ireturn, 1) := by decide +kernel
theorem dX8_table_11 : decode cX8_table 11 = .ok (.aload_n 0, 1) := by decide +kernel
theorem dX8_table_12 : decode cX8_table 12 = .ok (.invokevirtual 183, 3) := by decide +kernel
theorem dX8_table_15 : decode cX8_table 15 = .ok (.ifCond .ne 6, 3) := by decide +kernel
theorem dX8_table_18 : decode cX8_table 18 = .ok (.bipush (-5), 2) := by decide +kernel
theorem dX8_table_20 : decode cX8_table 20 = .ok (.ireturn, 1) := by decide +kernel
theorem dX8_table_21 : decode cX8_table 21 = .ok (.iload_n 1, 1) := by decide +kernel
theorem dX8_table_22 : decode cX8_table 22 = .ok (.ifCond .lt 14, 3) := by decide +kernel
theorem dX8_table_25 : decode cX8_table 25 = .ok (.iload_n 1, 1) := by decide +kernel
theorem dX8_table_26 : decode cX8_table 26 = .ok (.aload_n 0, 1) := by decide +kernel
theorem dX8_table_27 : decode cX8_table 27 = .ok (.getfield 46, 3) := by decide +kernel
theorem dX8_table_30 : decode cX8_table 30 = .ok (.getfield 165, 3) := by decide +kernel
theorem dX8_table_33 : decode cX8_table 33 = .ok (.if_icmp .le 5, 3) := by decide +kernel
theorem dX8_table_36 : decode cX8_table 36 = .ok (.iconst (-1), 1) := by decide +kernel
theorem dX8_table_37 : decode cX8_table 37 = .ok (.ireturn, 1) := by decide +kernel
theorem dX8_table_38 : decode cX8_table 38 = .ok (.iload_n 2, 1) := by decide +kernel
theorem dX8_table_39 : decode cX8_table 39 = .ok (.tableswitch 55 0 2 #[25, 35, 45], 25) := by decide +kernel
theorem dX8_table_64 : decode cX8_table 64 = .ok (.aload_n 0, 1) := by decide +kernel
theorem dX8_table_65 : decode cX8_table 65 = .ok (.getfield 53, 3) := by decide +kernel
theorem dX8_table_68 : decode cX8_table 68 = .ok (.getfield 192, 3) := by decide +kernel
theorem dX8_table_71 : decode cX8_table 71 = .ok (.iload_n 1, 1) := by decide +kernel
theorem dX8_table_72 : decode cX8_table 72 = .ok (.iaload, 1) := by decide +kernel
theorem dX8_table_73 : decode cX8_table 73 = .ok (.ireturn, 1) := by decide +kernel
theorem dX8_table_74 : decode cX8_table 74 = .ok (.aload_n 0, 1) := by decide +kernel
theorem dX8_table_75 : decode cX8_table 75 = .ok (.getfield 53, 3) := by decide +kernel
theorem dX8_table_78 : decode cX8_table 78 = .ok (.getfield 195, 3) := by decide +kernel
theorem dX8_table_81 : decode cX8_table 81 = .ok (.iload_n 1, 1) := by decide +kernel
theorem dX8_table_82 : decode cX8_table 82 = .ok (.iaload, 1) := by decide +kernel
theorem dX8_table_83 : decode cX8_table 83 = .ok (.ireturn, 1) := by decide +kernel
theorem dX8_table_84 : decode cX8_table 84 = .ok (.aload_n 0, 1) := by decide +kernel
theorem dX8_table_85 : decode cX8_table 85 = .ok (.getfield 53, 3) := by decide +kernel
theorem dX8_table_88 : decode cX8_table 88 = .ok (.getfield 198, 3) := by decide +kernel
theorem dX8_table_91 : decode cX8_table 91 = .ok (.iload_n 1, 1) := by decide +kernel
theorem dX8_table_92 : decode cX8_table 92 = .ok (.iaload, 1) := by decide +kernel
theorem dX8_table_93 : decode cX8_table 93 = .ok (.ireturn, 1) := by decide +kernel
theorem dX8_table_94 : decode cX8_table 94 = .ok (.aload_n 0, 1) := by decide +kernel
theorem dX8_table_95 : decode cX8_table 95 = .ok (.getfield 46, 3) := by decide +kernel
theorem dX8_table_98 : decode cX8_table 98 = .ok (.iconst 0, 1) := by decide +kernel
theorem dX8_table_99 : decode cX8_table 99 = .ok (.iload_n 1, 1) := by decide +kernel
theorem dX8_table_100 : decode cX8_table 100 = .ok (.invokevirtual 201, 3) := by decide +kernel
theorem dX8_table_103 : decode cX8_table 103 = .ok (.invokestatic 204, 3) := by decide +kernel
theorem dX8_table_106 : decode cX8_table 106 = .ok (.ireturn, 1) := by decide +kernel
theorem dX8_thirds_0 : decode cX8_thirds 0 = .ok (.aload_n 0, 1) := by decide +kernel
theorem dX8_thirds_1 : decode cX8_thirds 1 = .ok (.getfield 19, 3) := by decide +kernel
theorem dX8_thirds_4 : decode cX8_thirds 4 = .ok (.iload_n 1, 1) := by decide +kernel
theorem dX8_thirds_5 : decode cX8_thirds 5 = .ok (.invokevirtual 144, 3) := by decide +kernel
theorem dX8_thirds_8 : decode cX8_thirds 8 = .ok (.ifCond .eq 23, 3) := by decide +kernel
theorem dX8_thirds_11 : decode cX8_thirds 11 = .ok (.aload_n 0, 1) := by decide +kernel
theorem dX8_thirds_12 : decode cX8_thirds 12 = .ok (.getfield 19, 3) := by decide +kernel
theorem dX8_thirds_15 : decode cX8_thirds 15 = .ok (.iload_n 2, 1) := by decide +kernel
theorem dX8_thirds_16 : decode cX8_thirds 16 = .ok (.invokevirtual 144, 3) := by decide +kernel
theorem dX8_thirds_19 : decode cX8_thirds 19 = .ok (.ifCond .eq 12, 3) := by decide +kernel
theorem dX8_thirds_22 : decode cX8_thirds 22 = .ok (.iload_n 3, 1) := by decide +kernel
theorem dX8_thirds_23 : decode cX8_thirds 23 = .ok (.ifCond .lt 8, 3) := by decide +kernel
theorem dX8_thirds_26 : decode cX8_thirds 26 = .ok (.iload 4, 2) := by decide +kernel
theorem dX8_thirds_28 : decode cX8_thirds 28 = .ok (.ifCond .ge 5, 3) := by decide +kernel
theorem dX8_thirds_31 : decode cX8_thirds 31 = .ok (.iconst (-1), 1) := by decide +kernel
theorem dX8_thirds_32 : decode cX8_thirds 32 = .ok (.ireturn, 1) := by decide +kernel
theorem dX8_thirds_33 : decode cX8_thirds 33 = .ok (.aload_n 0, 1) := by decide +kernel
theorem dX8_thirds_34 : decode cX8_thirds 34 = .ok (.invokevirtual 145, 3) := by decide +kernel
theorem dX8_thirds_37 : decode cX8_thirds 37 = .ok (.aload_n 0, 1) := by decide +kernel
theorem dX8_thirds_38 : decode cX8_thirds 38 = .ok (.getfield 46, 3) := by decide +kernel
theorem dX8_thirds_41 : decode cX8_thirds 41 = .ok (.iload_n 1, 1) := by decide +kernel
theorem dX8_thirds_42 : decode cX8_thirds 42 = .ok (.iload_n 3, 1) := by decide +kernel
theorem dX8_thirds_43 : decode cX8_thirds 43 = .ok (.invokevirtual 201, 3) := by decide +kernel
theorem dX8_thirds_46 : decode cX8_thirds 46 = .ok (.aload_n 0, 1) := by decide +kernel
theorem dX8_thirds_47 : decode cX8_thirds 47 = .ok (.getfield 46, 3) := by decide +kernel
theorem dX8_thirds_50 : decode cX8_thirds 50 = .ok (.iload_n 2, 1) := by decide +kernel
theorem dX8_thirds_51 : decode cX8_thirds 51 = .ok (.iload 4, 2) := by decide +kernel
theorem dX8_thirds_53 : decode cX8_thirds 53 = .ok (.invokevirtual 201, 3) := by decide +kernel
theorem dX8_thirds_56 : decode cX8_thirds 56 = .ok (.iand, 1) := by decide +kernel
theorem dX8_thirds_57 : decode cX8_thirds 57 = .ok (.invokestatic 204, 3) := by decide +kernel
theorem dX8_thirds_60 : decode cX8_thirds 60 = .ok (.ireturn, 1) := by decide +kernel
theorem dX8_tell_0 : decode cX8_tell 0 = .ok (.iload_n 1, 1) := by decide +kernel
theorem dX8_tell_1 : decode cX8_tell 1 = .ok (.iconst 1, 1) := by decide +kernel
theorem dX8_tell_2 : decode cX8_tell 2 = .ok (.if_icmp .lt 8, 3) := by decide +kernel
theorem dX8_tell_5 : decode cX8_tell 5 = .ok (.iload_n 1, 1) := by decide +kernel
theorem dX8_tell_6 : decode cX8_tell 6 = .ok (.iconst 5, 1) := by decide +kernel
theorem dX8_tell_7 : decode cX8_tell 7 = .ok (.if_icmp .le 5, 3) := by decide +kernel
theorem dX8_tell_10 : decode cX8_tell 10 = .ok (.iconst (-1), 1) := by decide +kernel
theorem dX8_tell_11 : decode cX8_tell 11 = .ok (.ireturn, 1) := by decide +kernel
theorem dX8_tell_12 : decode cX8_tell 12 = .ok (.aload_n 0, 1) := by decide +kernel
theorem dX8_tell_13 : decode cX8_tell 13 = .ok (.getfield 60, 3) := by decide +kernel
theorem dX8_tell_16 : decode cX8_tell 16 = .ok (.iload_n 1, 1) := by decide +kernel
theorem dX8_tell_17 : decode cX8_tell 17 = .ok (.invokevirtual 209, 3) := by decide +kernel
theorem dX8_tell_20 : decode cX8_tell 20 = .ok (.iconst 1, 1) := by decide +kernel
theorem dX8_tell_21 : decode cX8_tell 21 = .ok (.ireturn, 1) := by decide +kernel
theorem dX8_put_0 : decode cX8_put 0 = .ok (.iload_n 1, 1) := by decide +kernel
theorem dX8_put_1 : decode cX8_put 1 = .ok (.ifCond .lt 18, 3) := by decide +kernel
theorem dX8_put_4 : decode cX8_put 4 = .ok (.iload_n 1, 1) := by decide +kernel
theorem dX8_put_5 : decode cX8_put 5 = .ok (.iconst 1, 1) := by decide +kernel
theorem dX8_put_6 : decode cX8_put 6 = .ok (.if_icmp .gt 13, 3) := by decide +kernel
theorem dX8_put_9 : decode cX8_put 9 = .ok (.iload_n 3, 1) := by decide +kernel
theorem dX8_put_10 : decode cX8_put 10 = .ok (.ifCond .lt 9, 3) := by decide +kernel
theorem dX8_put_13 : decode cX8_put 13 = .ok (.iload_n 3, 1) := by decide +kernel
theorem dX8_put_14 : decode cX8_put 14 = .ok (.bipush 20, 2) := by decide +kernel
theorem dX8_put_16 : decode cX8_put 16 = .ok (.if_icmp .le 5, 3) := by decide +kernel
theorem dX8_put_19 : decode cX8_put 19 = .ok (.iconst (-1), 1) := by decide +kernel
theorem dX8_put_20 : decode cX8_put 20 = .ok (.ireturn, 1) := by decide +kernel
theorem dX8_put_21 : decode cX8_put 21 = .ok (.iload_n 1, 1) := by decide +kernel
theorem dX8_put_22 : decode cX8_put 22 = .ok (.ifCond .ne 32, 3) := by decide +kernel
theorem dX8_put_25 : decode cX8_put 25 = .ok (.iload_n 2, 1) := by decide +kernel
theorem dX8_put_26 : decode cX8_put 26 = .ok (.ifCond .lt 14, 3) := by decide +kernel
theorem dX8_put_29 : decode cX8_put 29 = .ok (.iload_n 2, 1) := by decide +kernel
theorem dX8_put_30 : decode cX8_put 30 = .ok (.aload_n 0, 1) := by decide +kernel
theorem dX8_put_31 : decode cX8_put 31 = .ok (.getfield 60, 3) := by decide +kernel
theorem dX8_put_34 : decode cX8_put 34 = .ok (.getfield 211, 3) := by decide +kernel
theorem dX8_put_37 : decode cX8_put 37 = .ok (.if_icmp .lt 7, 3) := by decide +kernel
theorem dX8_put_40 : decode cX8_put 40 = .ok (.iconst (-1), 1) := by decide +kernel
theorem dX8_put_41 : decode cX8_put 41 = .ok (.goto 12, 3) := by decide +kernel
theorem dX8_put_44 : decode cX8_put 44 = .ok (.aload_n 0, 1) := by decide +kernel
theorem dX8_put_45 : decode cX8_put 45 = .ok (.getfield 60, 3) := by decide +kernel
theorem dX8_put_48 : decode cX8_put 48 = .ok (.iload_n 2, 1) := by decide +kernel
theorem dX8_put_49 : decode cX8_put 49 = .ok (.iload_n 3, 1) := by decide +kernel
theorem dX8_put_50 : decode cX8_put 50 = .ok (.invokevirtual 214, 3) := by decide +kernel
theorem dX8_put_53 : decode cX8_put 53 = .ok (.ireturn, 1) := by decide +kernel
theorem dX8_put_54 : decode cX8_put 54 = .ok (.iload_n 2, 1) := by decide +kernel
theorem dX8_put_55 : decode cX8_put 55 = .ok (.iconst 1, 1) := by decide +kernel
theorem dX8_put_56 : decode cX8_put 56 = .ok (.if_icmp .lt 14, 3) := by decide +kernel
theorem dX8_put_59 : decode cX8_put 59 = .ok (.iload_n 2, 1) := by decide +kernel
theorem dX8_put_60 : decode cX8_put 60 = .ok (.aload_n 0, 1) := by decide +kernel
theorem dX8_put_61 : decode cX8_put 61 = .ok (.getfield 60, 3) := by decide +kernel
theorem dX8_put_64 : decode cX8_put 64 = .ok (.getfield 211, 3) := by decide +kernel
theorem dX8_put_67 : decode cX8_put 67 = .ok (.if_icmp .le 7, 3) := by decide +kernel
theorem dX8_put_70 : decode cX8_put 70 = .ok (.iconst (-1), 1) := by decide +kernel
theorem dX8_put_71 : decode cX8_put 71 = .ok (.goto 12, 3) := by decide +kernel
theorem dX8_put_74 : decode cX8_put 74 = .ok (.aload_n 0, 1) := by decide +kernel
theorem dX8_put_75 : decode cX8_put 75 = .ok (.getfield 60, 3) := by decide +kernel
theorem dX8_put_78 : decode cX8_put 78 = .ok (.iload_n 2, 1) := by decide +kernel
theorem dX8_put_79 : decode cX8_put 79 = .ok (.iload_n 3, 1) := by decide +kernel
theorem dX8_put_80 : decode cX8_put 80 = .ok (.invokevirtual 217, 3) := by decide +kernel
theorem dX8_put_83 : decode cX8_put 83 = .ok (.ireturn, 1) := by decide +kernel
theorem dX8_take_0 : decode cX8_take 0 = .ok (.aload_n 0, 1) := by decide +kernel
theorem dX8_take_1 : decode cX8_take 1 = .ok (.invokevirtual 183, 3) := by decide +kernel
theorem dX8_take_4 : decode cX8_take 4 = .ok (.ifCond .eq 44, 3) := by decide +kernel
theorem dX8_take_7 : decode cX8_take 7 = .ok (.aload_n 0, 1) := by decide +kernel
theorem dX8_take_8 : decode cX8_take 8 = .ok (.getfield 46, 3) := by decide +kernel
theorem dX8_take_11 : decode cX8_take 11 = .ok (.getfield 165, 3) := by decide +kernel
theorem dX8_take_14 : decode cX8_take 14 = .ok (.iconst 1, 1) := by decide +kernel
theorem dX8_take_15 : decode cX8_take 15 = .ok (.if_icmp .lt 33, 3) := by decide +kernel
theorem dX8_take_18 : decode cX8_take 18 = .ok (.aload_n 0, 1) := by decide +kernel
theorem dX8_take_19 : decode cX8_take 19 = .ok (.getfield 46, 3) := by decide +kernel
theorem dX8_take_22 : decode cX8_take 22 = .ok (.getfield 165, 3) := by decide +kernel
theorem dX8_take_25 : decode cX8_take 25 = .ok (.iconst 5, 1) := by decide +kernel
theorem dX8_take_26 : decode cX8_take 26 = .ok (.if_icmp .gt 22, 3) := by decide +kernel
theorem dX8_take_29 : decode cX8_take 29 = .ok (.aload_n 0, 1) := by decide +kernel
theorem dX8_take_30 : decode cX8_take 30 = .ok (.getfield 53, 3) := by decide +kernel
theorem dX8_take_33 : decode cX8_take 33 = .ok (.aload_n 0, 1) := by decide +kernel
theorem dX8_take_34 : decode cX8_take 34 = .ok (.getfield 46, 3) := by decide +kernel
theorem dX8_take_37 : decode cX8_take 37 = .ok (.getfield 165, 3) := by decide +kernel
theorem dX8_take_40 : decode cX8_take 40 = .ok (.bipush 20, 2) := by decide +kernel
theorem dX8_take_42 : decode cX8_take 42 = .ok (.invokevirtual 220, 3) := by decide +kernel
theorem dX8_take_45 : decode cX8_take 45 = .ok (.ifCond .ne 6, 3) := by decide +kernel
theorem dX8_take_48 : decode cX8_take 48 = .ok (.bipush (-5), 2) := by decide +kernel
theorem dX8_take_50 : decode cX8_take 50 = .ok (.ireturn, 1) := by decide +kernel
theorem dX8_take_51 : decode cX8_take 51 = .ok (.aload_n 0, 1) := by decide +kernel
theorem dX8_take_52 : decode cX8_take 52 = .ok (.getfield 60, 3) := by decide +kernel
theorem dX8_take_55 : decode cX8_take 55 = .ok (.aload_n 0, 1) := by decide +kernel
theorem dX8_take_56 : decode cX8_take 56 = .ok (.getfield 46, 3) := by decide +kernel
theorem dX8_take_59 : decode cX8_take 59 = .ok (.getfield 165, 3) := by decide +kernel
theorem dX8_take_62 : decode cX8_take 62 = .ok (.invokevirtual 209, 3) := by decide +kernel
theorem dX8_take_65 : decode cX8_take 65 = .ok (.iconst 0, 1) := by decide +kernel
theorem dX8_take_66 : decode cX8_take 66 = .ok (.istore_n 1, 1) := by decide +kernel
theorem dX8_take_67 : decode cX8_take 67 = .ok (.iload_n 1, 1) := by decide +kernel
theorem dX8_take_68 : decode cX8_take 68 = .ok (.aload_n 0, 1) := by decide +kernel
theorem dX8_take_69 : decode cX8_take 69 = .ok (.getfield 46, 3) := by decide +kernel
theorem dX8_take_72 : decode cX8_take 72 = .ok (.getfield 165, 3) := by decide +kernel
theorem dX8_take_75 : decode cX8_take 75 = .ok (.if_icmp .ge 49, 3) := by decide +kernel
theorem dX8_take_78 : decode cX8_take 78 = .ok (.aload_n 0, 1) := by decide +kernel
theorem dX8_take_79 : decode cX8_take 79 = .ok (.getfield 60, 3) := by decide +kernel
theorem dX8_take_82 : decode cX8_take 82 = .ok (.iload_n 1, 1) := by decide +kernel
theorem dX8_take_83 : decode cX8_take 83 = .ok (.aload_n 0, 1) := by decide +kernel
theorem dX8_take_84 : decode cX8_take 84 = .ok (.getfield 53, 3) := by decide +kernel
theorem dX8_take_87 : decode cX8_take 87 = .ok (.getfield 198, 3) := by decide +kernel
theorem dX8_take_90 : decode cX8_take 90 = .ok (.iload_n 1, 1) := by decide +kernel
theorem dX8_take_91 : decode cX8_take 91 = .ok (.iaload, 1) := by decide +kernel
theorem dX8_take_92 : decode cX8_take 92 = .ok (.invokevirtual 214, 3) := by decide +kernel
theorem dX8_take_95 : decode cX8_take 95 = .ok (.pop, 1) := by decide +kernel
theorem dX8_take_96 : decode cX8_take 96 = .ok (.aload_n 0, 1) := by decide +kernel
theorem dX8_take_97 : decode cX8_take 97 = .ok (.getfield 60, 3) := by decide +kernel
theorem dX8_take_100 : decode cX8_take 100 = .ok (.iload_n 1, 1) := by decide +kernel
theorem dX8_take_101 : decode cX8_take 101 = .ok (.iconst 1, 1) := by decide +kernel
theorem dX8_take_102 : decode cX8_take 102 = .ok (.iadd, 1) := by decide +kernel
theorem dX8_take_103 : decode cX8_take 103 = .ok (.aload_n 0, 1) := by decide +kernel
theorem dX8_take_104 : decode cX8_take 104 = .ok (.getfield 53, 3) := by decide +kernel
theorem dX8_take_107 : decode cX8_take 107 = .ok (.getfield 192, 3) := by decide +kernel
theorem dX8_take_110 : decode cX8_take 110 = .ok (.iload_n 1, 1) := by decide +kernel
theorem dX8_take_111 : decode cX8_take 111 = .ok (.iconst 1, 1) := by decide +kernel
theorem dX8_take_112 : decode cX8_take 112 = .ok (.iadd, 1) := by decide +kernel
theorem dX8_take_113 : decode cX8_take 113 = .ok (.iaload, 1) := by decide +kernel
theorem dX8_take_114 : decode cX8_take 114 = .ok (.invokevirtual 217, 3) := by decide +kernel
theorem dX8_take_117 : decode cX8_take 117 = .ok (.pop, 1) := by decide +kernel
theorem dX8_take_118 : decode cX8_take 118 = .ok (.iinc 1 1, 3) := by decide +kernel
theorem dX8_take_121 : decode cX8_take 121 = .ok (.goto (-54), 3) := by decide +kernel
theorem dX8_take_124 : decode cX8_take 124 = .ok (.aload_n 0, 1) := by decide +kernel
theorem dX8_take_125 : decode cX8_take 125 = .ok (.getfield 60, 3) := by decide +kernel
theorem dX8_take_128 : decode cX8_take 128 = .ok (.getfield 211, 3) := by decide +kernel
theorem dX8_take_131 : decode cX8_take 131 = .ok (.ireturn, 1) := by decide +kernel
theorem dX8_can_0 : decode cX8_can 0 = .ok (.aload_n 0, 1) := by decide +kernel
theorem dX8_can_1 : decode cX8_can 1 = .ok (.getfield 60, 3) := by decide +kernel
theorem dX8_can_4 : decode cX8_can 4 = .ok (.invokevirtual 223, 3) := by decide +kernel
theorem dX8_can_7 : decode cX8_can 7 = .ok (.ireturn, 1) := by decide +kernel
theorem dX8_entry_0 : decode cX8_entry 0 = .ok (.iload_n 2, 1) := by decide +kernel
theorem dX8_entry_1 : decode cX8_entry 1 = .ok (.ifCond .lt 19, 3) := by decide +kernel
theorem dX8_entry_4 : decode cX8_entry 4 = .ok (.iload_n 2, 1) := by decide +kernel
theorem dX8_entry_5 : decode cX8_entry 5 = .ok (.iconst 3, 1) := by decide +kernel
theorem dX8_entry_6 : decode cX8_entry 6 = .ok (.if_icmp .gt 14, 3) := by decide +kernel
theorem dX8_entry_9 : decode cX8_entry 9 = .ok (.aload_n 0, 1) := by decide +kernel
theorem dX8_entry_10 : decode cX8_entry 10 = .ok (.getfield 60, 3) := by decide +kernel
theorem dX8_entry_13 : decode cX8_entry 13 = .ok (.iload_n 1, 1) := by decide +kernel
theorem dX8_entry_14 : decode cX8_entry 14 = .ok (.invokevirtual 226, 3) := by decide +kernel
theorem dX8_entry_17 : decode cX8_entry 17 = .ok (.ifCond .ne 5, 3) := by decide +kernel
theorem dX8_entry_20 : decode cX8_entry 20 = .ok (.iconst (-1), 1) := by decide +kernel
theorem dX8_entry_21 : decode cX8_entry 21 = .ok (.ireturn, 1) := by decide +kernel
theorem dX8_entry_22 : decode cX8_entry 22 = .ok (.aload_n 0, 1) := by decide +kernel
theorem dX8_entry_23 : decode cX8_entry 23 = .ok (.getfield 60, 3) := by decide +kernel
theorem dX8_entry_26 : decode cX8_entry 26 = .ok (.iconst 4, 1) := by decide +kernel
theorem dX8_entry_27 : decode cX8_entry 27 = .ok (.invokevirtual 229, 3) := by decide +kernel
theorem dX8_entry_30 : decode cX8_entry 30 = .ok (.ifCond .ne 6, 3) := by decide +kernel
theorem dX8_entry_33 : decode cX8_entry 33 = .ok (.bipush (-6), 2) := by decide +kernel
theorem dX8_entry_35 : decode cX8_entry 35 = .ok (.ireturn, 1) := by decide +kernel
theorem dX8_entry_36 : decode cX8_entry 36 = .ok (.iload_n 2, 1) := by decide +kernel
theorem dX8_entry_37 : decode cX8_entry 37 = .ok (.tableswitch 56 0 2 #[27, 37, 46], 27) := by decide +kernel
theorem dX8_entry_64 : decode cX8_entry 64 = .ok (.aload_n 0, 1) := by decide +kernel
theorem dX8_entry_65 : decode cX8_entry 65 = .ok (.getfield 60, 3) := by decide +kernel
theorem dX8_entry_68 : decode cX8_entry 68 = .ok (.getfield 232, 3) := by decide +kernel
theorem dX8_entry_71 : decode cX8_entry 71 = .ok (.iload_n 1, 1) := by decide +kernel
theorem dX8_entry_72 : decode cX8_entry 72 = .ok (.iaload, 1) := by decide +kernel
theorem dX8_entry_73 : decode cX8_entry 73 = .ok (.ireturn, 1) := by decide +kernel
theorem dX8_entry_74 : decode cX8_entry 74 = .ok (.aload_n 0, 1) := by decide +kernel
theorem dX8_entry_75 : decode cX8_entry 75 = .ok (.getfield 60, 3) := by decide +kernel
theorem dX8_entry_78 : decode cX8_entry 78 = .ok (.iload_n 1, 1) := by decide +kernel
theorem dX8_entry_79 : decode cX8_entry 79 = .ok (.invokevirtual 233, 3) := by decide +kernel
theorem dX8_entry_82 : decode cX8_entry 82 = .ok (.ireturn, 1) := by decide +kernel
theorem dX8_entry_83 : decode cX8_entry 83 = .ok (.aload_n 0, 1) := by decide +kernel
theorem dX8_entry_84 : decode cX8_entry 84 = .ok (.getfield 60, 3) := by decide +kernel
theorem dX8_entry_87 : decode cX8_entry 87 = .ok (.getfield 236, 3) := by decide +kernel
theorem dX8_entry_90 : decode cX8_entry 90 = .ok (.iload_n 1, 1) := by decide +kernel
theorem dX8_entry_91 : decode cX8_entry 91 = .ok (.iaload, 1) := by decide +kernel
theorem dX8_entry_92 : decode cX8_entry 92 = .ok (.ireturn, 1) := by decide +kernel
theorem dX8_entry_93 : decode cX8_entry 93 = .ok (.aload_n 0, 1) := by decide +kernel
theorem dX8_entry_94 : decode cX8_entry 94 = .ok (.getfield 60, 3) := by decide +kernel
theorem dX8_entry_97 : decode cX8_entry 97 = .ok (.getfield 237, 3) := by decide +kernel
theorem dX8_entry_100 : decode cX8_entry 100 = .ok (.iload_n 1, 1) := by decide +kernel
theorem dX8_entry_101 : decode cX8_entry 101 = .ok (.laload, 1) := by decide +kernel
theorem dX8_entry_102 : decode cX8_entry 102 = .ok (.l2i, 1) := by decide +kernel
theorem dX8_entry_103 : decode cX8_entry 103 = .ok (.ireturn, 1) := by decide +kernel
theorem dX8_posts_0 : decode cX8_posts 0 = .ok (.aload_n 0, 1) := by decide +kernel
theorem dX8_posts_1 : decode cX8_posts 1 = .ok (.getfield 60, 3) := by decide +kernel
theorem dX8_posts_4 : decode cX8_posts 4 = .ok (.iconst 4, 1) := by decide +kernel
theorem dX8_posts_5 : decode cX8_posts 5 = .ok (.invokevirtual 229, 3) := by decide +kernel
theorem dX8_posts_8 : decode cX8_posts 8 = .ok (.ifCond .eq 14, 3) := by decide +kernel
theorem dX8_posts_11 : decode cX8_posts 11 = .ok (.aload_n 0, 1) := by decide +kernel
theorem dX8_posts_12 : decode cX8_posts 12 = .ok (.getfield 60, 3) := by decide +kernel
theorem dX8_posts_15 : decode cX8_posts 15 = .ok (.getfield 241, 3) := by decide +kernel
theorem dX8_posts_18 : decode cX8_posts 18 = .ok (.l2i, 1) := by decide +kernel
theorem dX8_posts_19 : decode cX8_posts 19 = .ok (.goto 5, 3) := by decide +kernel
theorem dX8_posts_22 : decode cX8_posts 22 = .ok (.bipush (-6), 2) := by decide +kernel
theorem dX8_posts_24 : decode cX8_posts 24 = .ok (.ireturn, 1) := by decide +kernel
theorem dX8_third_0 : decode cX8_third 0 = .ok (.aload_n 0, 1) := by decide +kernel
theorem dX8_third_1 : decode cX8_third 1 = .ok (.getfield 60, 3) := by decide +kernel
theorem dX8_third_4 : decode cX8_third 4 = .ok (.iload_n 1, 1) := by decide +kernel
theorem dX8_third_5 : decode cX8_third 5 = .ok (.invokevirtual 226, 3) := by decide +kernel
theorem dX8_third_8 : decode cX8_third 8 = .ok (.ifCond .eq 25, 3) := by decide +kernel
theorem dX8_third_11 : decode cX8_third 11 = .ok (.aload_n 0, 1) := by decide +kernel
theorem dX8_third_12 : decode cX8_third 12 = .ok (.getfield 60, 3) := by decide +kernel
theorem dX8_third_15 : decode cX8_third 15 = .ok (.iload_n 2, 1) := by decide +kernel
theorem dX8_third_16 : decode cX8_third 16 = .ok (.invokevirtual 226, 3) := by decide +kernel
theorem dX8_third_19 : decode cX8_third 19 = .ok (.ifCond .eq 14, 3) := by decide +kernel
theorem dX8_third_22 : decode cX8_third 22 = .ok (.aload_n 0, 1) := by decide +kernel
theorem dX8_third_23 : decode cX8_third 23 = .ok (.getfield 60, 3) := by decide +kernel
theorem dX8_third_26 : decode cX8_third 26 = .ok (.iload_n 3, 1) := by decide +kernel
theorem dX8_third_27 : decode cX8_third 27 = .ok (.invokevirtual 226, 3) := by decide +kernel
theorem dX8_third_30 : decode cX8_third 30 = .ok (.ifCond .ne 5, 3) := by decide +kernel
theorem dX8_third_33 : decode cX8_third 33 = .ok (.iconst (-1), 1) := by decide +kernel
theorem dX8_third_34 : decode cX8_third 34 = .ok (.ireturn, 1) := by decide +kernel
theorem dX8_third_35 : decode cX8_third 35 = .ok (.aload_n 0, 1) := by decide +kernel
theorem dX8_third_36 : decode cX8_third 36 = .ok (.getfield 60, 3) := by decide +kernel
theorem dX8_third_39 : decode cX8_third 39 = .ok (.bipush 6, 2) := by decide +kernel
theorem dX8_third_41 : decode cX8_third 41 = .ok (.invokevirtual 229, 3) := by decide +kernel
theorem dX8_third_44 : decode cX8_third 44 = .ok (.ifCond .eq 21, 3) := by decide +kernel
theorem dX8_third_47 : decode cX8_third 47 = .ok (.aload_n 0, 1) := by decide +kernel
theorem dX8_third_48 : decode cX8_third 48 = .ok (.getfield 60, 3) := by decide +kernel
theorem dX8_third_51 : decode cX8_third 51 = .ok (.getfield 245, 3) := by decide +kernel
theorem dX8_third_54 : decode cX8_third 54 = .ok (.iload_n 1, 1) := by decide +kernel
theorem dX8_third_55 : decode cX8_third 55 = .ok (.iload_n 2, 1) := by decide +kernel
theorem dX8_third_56 : decode cX8_third 56 = .ok (.iload_n 3, 1) := by decide +kernel
theorem dX8_third_57 : decode cX8_third 57 = .ok (.invokestatic 248, 3) := by decide +kernel
theorem dX8_third_60 : decode cX8_third 60 = .ok (.laload, 1) := by decide +kernel
theorem dX8_third_61 : decode cX8_third 61 = .ok (.l2i, 1) := by decide +kernel
theorem dX8_third_62 : decode cX8_third 62 = .ok (.goto 5, 3) := by decide +kernel
theorem dX8_third_65 : decode cX8_third 65 = .ok (.bipush (-6), 2) := by decide +kernel
theorem dX8_third_67 : decode cX8_third 67 = .ok (.ireturn, 1) := by decide +kernel
theorem dX8_root_0 : decode cX8_root 0 = .ok (.iload_n 2, 1) := by decide +kernel
theorem dX8_root_1 : decode cX8_root 1 = .ok (.ifCond .eq 12, 3) := by decide +kernel
theorem dX8_root_4 : decode cX8_root 4 = .ok (.iload_n 2, 1) := by decide +kernel
theorem dX8_root_5 : decode cX8_root 5 = .ok (.iconst 1, 1) := by decide +kernel
theorem dX8_root_6 : decode cX8_root 6 = .ok (.if_icmp .eq 7, 3) := by decide +kernel
theorem dX8_root_9 : decode cX8_root 9 = .ok (.sipush (-1000), 3) := by decide +kernel
theorem dX8_root_12 : decode cX8_root 12 = .ok (.ireturn, 1) := by decide +kernel
theorem dX8_root_13 : decode cX8_root 13 = .ok (.aload_n 0, 1) := by decide +kernel
theorem dX8_root_14 : decode cX8_root 14 = .ok (.getfield 60, 3) := by decide +kernel
theorem dX8_root_17 : decode cX8_root 17 = .ok (.bipush 6, 2) := by decide +kernel
theorem dX8_root_19 : decode cX8_root 19 = .ok (.invokevirtual 229, 3) := by decide +kernel
theorem dX8_root_22 : decode cX8_root 22 = .ok (.ifCond .ne 7, 3) := by decide +kernel
theorem dX8_root_25 : decode cX8_root 25 = .ok (.sipush (-1001), 3) := by decide +kernel
theorem dX8_root_28 : decode cX8_root 28 = .ok (.ireturn, 1) := by decide +kernel
theorem dX8_root_29 : decode cX8_root 29 = .ok (.iload_n 1, 1) := by decide +kernel
theorem dX8_root_30 : decode cX8_root 30 = .ok (.ifCond .lt 14, 3) := by decide +kernel
theorem dX8_root_33 : decode cX8_root 33 = .ok (.iload_n 1, 1) := by decide +kernel
theorem dX8_root_34 : decode cX8_root 34 = .ok (.aload_n 0, 1) := by decide +kernel
theorem dX8_root_35 : decode cX8_root 35 = .ok (.getfield 60, 3) := by decide +kernel
theorem dX8_root_38 : decode cX8_root 38 = .ok (.getfield 252, 3) := by decide +kernel
theorem dX8_root_41 : decode cX8_root 41 = .ok (.if_icmp .lt 7, 3) := by decide +kernel
theorem dX8_root_44 : decode cX8_root 44 = .ok (.sipush (-1002), 3) := by decide +kernel
theorem dX8_root_47 : decode cX8_root 47 = .ok (.ireturn, 1) := by decide +kernel
theorem dX8_root_48 : decode cX8_root 48 = .ok (.iload_n 2, 1) := by decide +kernel
theorem dX8_root_49 : decode cX8_root 49 = .ok (.ifCond .ne 15, 3) := by decide +kernel
theorem dX8_root_52 : decode cX8_root 52 = .ok (.aload_n 0, 1) := by decide +kernel
theorem dX8_root_53 : decode cX8_root 53 = .ok (.getfield 60, 3) := by decide +kernel
theorem dX8_root_56 : decode cX8_root 56 = .ok (.getfield 255, 3) := by decide +kernel
theorem dX8_root_59 : decode cX8_root 59 = .ok (.iload_n 1, 1) := by decide +kernel
theorem dX8_root_60 : decode cX8_root 60 = .ok (.iaload, 1) := by decide +kernel
theorem dX8_root_61 : decode cX8_root 61 = .ok (.goto 12, 3) := by decide +kernel
theorem dX8_root_64 : decode cX8_root 64 = .ok (.aload_n 0, 1) := by decide +kernel
theorem dX8_root_65 : decode cX8_root 65 = .ok (.getfield 60, 3) := by decide +kernel
theorem dX8_root_68 : decode cX8_root 68 = .ok (.getfield 258, 3) := by decide +kernel
theorem dX8_root_71 : decode cX8_root 71 = .ok (.iload_n 1, 1) := by decide +kernel
theorem dX8_root_72 : decode cX8_root 72 = .ok (.iaload, 1) := by decide +kernel
theorem dX8_root_73 : decode cX8_root 73 = .ok (.ireturn, 1) := by decide +kernel
theorem dX8_walks_0 : decode cX8_walks 0 = .ok (.aload_n 0, 1) := by decide +kernel
theorem dX8_walks_1 : decode cX8_walks 1 = .ok (.getfield 60, 3) := by decide +kernel
theorem dX8_walks_4 : decode cX8_walks 4 = .ok (.iload_n 1, 1) := by decide +kernel
theorem dX8_walks_5 : decode cX8_walks 5 = .ok (.invokevirtual 226, 3) := by decide +kernel
theorem dX8_walks_8 : decode cX8_walks 8 = .ok (.ifCond .eq 13, 3) := by decide +kernel
theorem dX8_walks_11 : decode cX8_walks 11 = .ok (.iload_n 2, 1) := by decide +kernel
theorem dX8_walks_12 : decode cX8_walks 12 = .ok (.ifCond .lt 9, 3) := by decide +kernel
theorem dX8_walks_15 : decode cX8_walks 15 = .ok (.iload_n 2, 1) := by decide +kernel
theorem dX8_walks_16 : decode cX8_walks 16 = .ok (.bipush 8, 2) := by decide +kernel
theorem dX8_walks_18 : decode cX8_walks 18 = .ok (.if_icmp .le 7, 3) := by decide +kernel
theorem dX8_walks_21 : decode cX8_walks 21 = .ok (.ldc2_w 261, 3) := by decide +kernel
theorem dX8_walks_24 : decode cX8_walks 24 = .ok (.lreturn, 1) := by decide +kernel
theorem dX8_walks_25 : decode cX8_walks 25 = .ok (.aload_n 0, 1) := by decide +kernel
theorem dX8_walks_26 : decode cX8_walks 26 = .ok (.getfield 60, 3) := by decide +kernel
theorem dX8_walks_29 : decode cX8_walks 29 = .ok (.iconst 4, 1) := by decide +kernel
theorem dX8_walks_30 : decode cX8_walks 30 = .ok (.invokevirtual 229, 3) := by decide +kernel
theorem dX8_walks_33 : decode cX8_walks 33 = .ok (.ifCond .eq 15, 3) := by decide +kernel
theorem dX8_walks_36 : decode cX8_walks 36 = .ok (.aload_n 0, 1) := by decide +kernel
theorem dX8_walks_37 : decode cX8_walks 37 = .ok (.getfield 60, 3) := by decide +kernel
theorem dX8_walks_40 : decode cX8_walks 40 = .ok (.iload_n 1, 1) := by decide +kernel
theorem dX8_walks_41 : decode cX8_walks 41 = .ok (.iload_n 2, 1) := by decide +kernel
theorem dX8_walks_42 : decode cX8_walks 42 = .ok (.invokevirtual 263, 3) := by decide +kernel
theorem dX8_walks_45 : decode cX8_walks 45 = .ok (.goto 6, 3) := by decide +kernel
theorem dX8_walks_48 : decode cX8_walks 48 = .ok (.ldc2_w 267, 3) := by decide +kernel
theorem dX8_walks_51 : decode cX8_walks 51 = .ok (.lreturn, 1) := by decide +kernel
theorem dX8_bound_0 : decode cX8_bound 0 = .ok (.iload_n 1, 1) := by decide +kernel
theorem dX8_bound_1 : decode cX8_bound 1 = .ok (.iconst 1, 1) := by decide +kernel
theorem dX8_bound_2 : decode cX8_bound 2 = .ok (.if_icmp .lt 20, 3) := by decide +kernel
theorem dX8_bound_5 : decode cX8_bound 5 = .ok (.iload_n 1, 1) := by decide +kernel
theorem dX8_bound_6 : decode cX8_bound 6 = .ok (.bipush 60, 2) := by decide +kernel
theorem dX8_bound_8 : decode cX8_bound 8 = .ok (.if_icmp .gt 14, 3) := by decide +kernel
theorem dX8_bound_11 : decode cX8_bound 11 = .ok (.iload_n 2, 1) := by decide +kernel
theorem dX8_bound_12 : decode cX8_bound 12 = .ok (.iconst 1, 1) := by decide +kernel
theorem dX8_bound_13 : decode cX8_bound 13 = .ok (.if_icmp .lt 9, 3) := by decide +kernel
theorem dX8_bound_16 : decode cX8_bound 16 = .ok (.iload_n 2, 1) := by decide +kernel
theorem dX8_bound_17 : decode cX8_bound 17 = .ok (.bipush 6, 2) := by decide +kernel
theorem dX8_bound_19 : decode cX8_bound 19 = .ok (.if_icmp .le 7, 3) := by decide +kernel
theorem dX8_bound_22 : decode cX8_bound 22 = .ok (.ldc2_w 261, 3) := by decide +kernel
theorem dX8_bound_25 : decode cX8_bound 25 = .ok (.lreturn, 1) := by decide +kernel
theorem dX8_bound_26 : decode cX8_bound 26 = .ok (.lconst 1, 1) := by decide +kernel
theorem dX8_bound_27 : decode cX8_bound 27 = .ok (.lstore_n 3, 1) := by decide +kernel
theorem dX8_bound_28 : decode cX8_bound 28 = .ok (.iload_n 1, 1) := by decide +kernel
theorem dX8_bound_29 : decode cX8_bound 29 = .ok (.i2l, 1) := by decide +kernel
theorem dX8_bound_30 : decode cX8_bound 30 = .ok (.lstore 5, 2) := by decide +kernel
theorem dX8_bound_32 : decode cX8_bound 32 = .ok (.iconst 1, 1) := by decide +kernel
theorem dX8_bound_33 : decode cX8_bound 33 = .ok (.istore 7, 2) := by decide +kernel
theorem dX8_bound_35 : decode cX8_bound 35 = .ok (.iload 7, 2) := by decide +kernel
theorem dX8_bound_37 : decode cX8_bound 37 = .ok (.iload_n 2, 1) := by decide +kernel
theorem dX8_bound_38 : decode cX8_bound 38 = .ok (.if_icmp .gt 23, 3) := by decide +kernel
theorem dX8_bound_41 : decode cX8_bound 41 = .ok (.lload_n 3, 1) := by decide +kernel
theorem dX8_bound_42 : decode cX8_bound 42 = .ok (.lload 5, 2) := by decide +kernel
theorem dX8_bound_44 : decode cX8_bound 44 = .ok (.ladd, 1) := by decide +kernel
theorem dX8_bound_45 : decode cX8_bound 45 = .ok (.lstore_n 3, 1) := by decide +kernel
theorem dX8_bound_46 : decode cX8_bound 46 = .ok (.lload 5, 2) := by decide +kernel
theorem dX8_bound_48 : decode cX8_bound 48 = .ok (.iload_n 1, 1) := by decide +kernel
theorem dX8_bound_49 : decode cX8_bound 49 = .ok (.iconst 1, 1) := by decide +kernel
theorem dX8_bound_50 : decode cX8_bound 50 = .ok (.isub, 1) := by decide +kernel
theorem dX8_bound_51 : decode cX8_bound 51 = .ok (.i2l, 1) := by decide +kernel
theorem dX8_bound_52 : decode cX8_bound 52 = .ok (.lmul, 1) := by decide +kernel
theorem dX8_bound_53 : decode cX8_bound 53 = .ok (.lstore 5, 2) := by decide +kernel
theorem dX8_bound_55 : decode cX8_bound 55 = .ok (.iinc 7 1, 3) := by decide +kernel
theorem dX8_bound_58 : decode cX8_bound 58 = .ok (.goto (-23), 3) := by decide +kernel
theorem dX8_bound_61 : decode cX8_bound 61 = .ok (.lload_n 3, 1) := by decide +kernel
theorem dX8_bound_62 : decode cX8_bound 62 = .ok (.lreturn, 1) := by decide +kernel
theorem dX8_fold_0 : decode cX8_fold 0 = .ok (.aload_n 0, 1) := by decide +kernel
theorem dX8_fold_1 : decode cX8_fold 1 = .ok (.invokevirtual 145, 3) := by decide +kernel
theorem dX8_fold_4 : decode cX8_fold 4 = .ok (.aload_n 0, 1) := by decide +kernel
theorem dX8_fold_5 : decode cX8_fold 5 = .ok (.getfield 46, 3) := by decide +kernel
theorem dX8_fold_8 : decode cX8_fold 8 = .ok (.invokevirtual 180, 3) := by decide +kernel
theorem dX8_fold_11 : decode cX8_fold 11 = .ok (.ifCond .ne 6, 3) := by decide +kernel
theorem dX8_fold_14 : decode cX8_fold 14 = .ok (.bipush (-5), 2) := by decide +kernel
theorem dX8_fold_16 : decode cX8_fold 16 = .ok (.ireturn, 1) := by decide +kernel
theorem dX8_fold_17 : decode cX8_fold 17 = .ok (.iconst 0, 1) := by decide +kernel
theorem dX8_fold_18 : decode cX8_fold 18 = .ok (.istore_n 1, 1) := by decide +kernel
theorem dX8_fold_19 : decode cX8_fold 19 = .ok (.iconst 0, 1) := by decide +kernel
theorem dX8_fold_20 : decode cX8_fold 20 = .ok (.istore_n 2, 1) := by decide +kernel
theorem dX8_fold_21 : decode cX8_fold 21 = .ok (.iload_n 2, 1) := by decide +kernel
theorem dX8_fold_22 : decode cX8_fold 22 = .ok (.aload_n 0, 1) := by decide +kernel
theorem dX8_fold_23 : decode cX8_fold 23 = .ok (.getfield 19, 3) := by decide +kernel
theorem dX8_fold_26 : decode cX8_fold 26 = .ok (.getfield 152, 3) := by decide +kernel
theorem dX8_fold_29 : decode cX8_fold 29 = .ok (.if_icmp .ge 36, 3) := by decide +kernel
theorem dX8_fold_32 : decode cX8_fold 32 = .ok (.aload_n 0, 1) := by decide +kernel
theorem dX8_fold_33 : decode cX8_fold 33 = .ok (.getfield 46, 3) := by decide +kernel
theorem dX8_fold_36 : decode cX8_fold 36 = .ok (.iload_n 2, 1) := by decide +kernel
theorem dX8_fold_37 : decode cX8_fold 37 = .ok (.invokevirtual 269, 3) := by decide +kernel
theorem dX8_fold_40 : decode cX8_fold 40 = .ok (.istore_n 3, 1) := by decide +kernel
theorem dX8_fold_41 : decode cX8_fold 41 = .ok (.iload_n 3, 1) := by decide +kernel
theorem dX8_fold_42 : decode cX8_fold 42 = .ok (.invokestatic 272, 3) := by decide +kernel
theorem dX8_fold_45 : decode cX8_fold 45 = .ok (.iload_n 2, 1) := by decide +kernel
theorem dX8_fold_46 : decode cX8_fold 46 = .ok (.if_icmp .ne 13, 3) := by decide +kernel
theorem dX8_fold_49 : decode cX8_fold 49 = .ok (.aload_n 0, 1) := by decide +kernel
theorem dX8_fold_50 : decode cX8_fold 50 = .ok (.getfield 29, 3) := by decide +kernel
theorem dX8_fold_53 : decode cX8_fold 53 = .ok (.iload_n 1, 1) := by decide +kernel
theorem dX8_fold_54 : decode cX8_fold 54 = .ok (.iload_n 3, 1) := by decide +kernel
theorem dX8_fold_55 : decode cX8_fold 55 = .ok (.iastore, 1) := by decide +kernel
theorem dX8_fold_56 : decode cX8_fold 56 = .ok (.iinc 1 1, 3) := by decide +kernel
theorem dX8_fold_59 : decode cX8_fold 59 = .ok (.iinc 2 1, 3) := by decide +kernel
theorem dX8_fold_62 : decode cX8_fold 62 = .ok (.goto (-41), 3) := by decide +kernel
theorem dX8_fold_65 : decode cX8_fold 65 = .ok (.aload_n 0, 1) := by decide +kernel
theorem dX8_fold_66 : decode cX8_fold 66 = .ok (.getfield 23, 3) := by decide +kernel
theorem dX8_fold_69 : decode cX8_fold 69 = .ok (.iload_n 1, 1) := by decide +kernel
theorem dX8_fold_70 : decode cX8_fold 70 = .ok (.invokevirtual 96, 3) := by decide +kernel
theorem dX8_fold_73 : decode cX8_fold 73 = .ok (.iconst 0, 1) := by decide +kernel
theorem dX8_fold_74 : decode cX8_fold 74 = .ok (.istore_n 2, 1) := by decide +kernel
theorem dX8_fold_75 : decode cX8_fold 75 = .ok (.iload_n 2, 1) := by decide +kernel
theorem dX8_fold_76 : decode cX8_fold 76 = .ok (.iload_n 1, 1) := by decide +kernel
theorem dX8_fold_77 : decode cX8_fold 77 = .ok (.if_icmp .ge 62, 3) := by decide +kernel
theorem dX8_fold_80 : decode cX8_fold 80 = .ok (.aload_n 0, 1) := by decide +kernel
theorem dX8_fold_81 : decode cX8_fold 81 = .ok (.getfield 19, 3) := by decide +kernel
theorem dX8_fold_84 : decode cX8_fold 84 = .ok (.aload_n 0, 1) := by decide +kernel
theorem dX8_fold_85 : decode cX8_fold 85 = .ok (.getfield 29, 3) := by decide +kernel
theorem dX8_fold_88 : decode cX8_fold 88 = .ok (.iload_n 2, 1) := by decide +kernel
theorem dX8_fold_89 : decode cX8_fold 89 = .ok (.iaload, 1) := by decide +kernel
theorem dX8_fold_90 : decode cX8_fold 90 = .ok (.invokevirtual 275, 3) := by decide +kernel
theorem dX8_fold_93 : decode cX8_fold 93 = .ok (.istore_n 3, 1) := by decide +kernel
theorem dX8_fold_94 : decode cX8_fold 94 = .ok (.iload_n 2, 1) := by decide +kernel
theorem dX8_fold_95 : decode cX8_fold 95 = .ok (.iconst 1, 1) := by decide +kernel
theorem dX8_fold_96 : decode cX8_fold 96 = .ok (.iadd, 1) := by decide +kernel
theorem dX8_fold_97 : decode cX8_fold 97 = .ok (.istore 4, 2) := by decide +kernel
theorem dX8_fold_99 : decode cX8_fold 99 = .ok (.iload 4, 2) := by decide +kernel
theorem dX8_fold_101 : decode cX8_fold 101 = .ok (.iload_n 1, 1) := by decide +kernel
theorem dX8_fold_102 : decode cX8_fold 102 = .ok (.if_icmp .ge 31, 3) := by decide +kernel
theorem dX8_fold_105 : decode cX8_fold 105 = .ok (.iload_n 3, 1) := by decide +kernel
theorem dX8_fold_106 : decode cX8_fold 106 = .ok (.aload_n 0, 1) := by decide +kernel
theorem dX8_fold_107 : decode cX8_fold 107 = .ok (.getfield 29, 3) := by decide +kernel
theorem dX8_fold_110 : decode cX8_fold 110 = .ok (.iload 4, 2) := by decide +kernel
theorem dX8_fold_112 : decode cX8_fold 112 = .ok (.iaload, 1) := by decide +kernel
theorem dX8_fold_113 : decode cX8_fold 113 = .ok (.iand, 1) := by decide +kernel
theorem dX8_fold_114 : decode cX8_fold 114 = .ok (.ifCond .eq 13, 3) := by decide +kernel
theorem dX8_fold_117 : decode cX8_fold 117 = .ok (.aload_n 0, 1) := by decide +kernel
theorem dX8_fold_118 : decode cX8_fold 118 = .ok (.getfield 23, 3) := by decide +kernel
theorem dX8_fold_121 : decode cX8_fold 121 = .ok (.iload_n 2, 1) := by decide +kernel
theorem dX8_fold_122 : decode cX8_fold 122 = .ok (.iload 4, 2) := by decide +kernel
theorem dX8_fold_124 : decode cX8_fold 124 = .ok (.invokevirtual 110, 3) := by decide +kernel
theorem dX8_fold_127 : decode cX8_fold 127 = .ok (.iinc 4 1, 3) := by decide +kernel
theorem dX8_fold_130 : decode cX8_fold 130 = .ok (.goto (-31), 3) := by decide +kernel
theorem dX8_fold_133 : decode cX8_fold 133 = .ok (.iinc 2 1, 3) := by decide +kernel
theorem dX8_fold_136 : decode cX8_fold 136 = .ok (.goto (-61), 3) := by decide +kernel
theorem dX8_fold_139 : decode cX8_fold 139 = .ok (.aload_n 0, 1) := by decide +kernel
theorem dX8_fold_140 : decode cX8_fold 140 = .ok (.invokevirtual 141, 3) := by decide +kernel
theorem dX8_fold_143 : decode cX8_fold 143 = .ok (.ireturn, 1) := by decide +kernel
theorem dX8_half_0 : decode cX8_half 0 = .ok (.aload_n 0, 1) := by decide +kernel
theorem dX8_half_1 : decode cX8_half 1 = .ok (.invokevirtual 145, 3) := by decide +kernel
theorem dX8_half_4 : decode cX8_half 4 = .ok (.aload_n 0, 1) := by decide +kernel
theorem dX8_half_5 : decode cX8_half 5 = .ok (.getfield 46, 3) := by decide +kernel
theorem dX8_half_8 : decode cX8_half 8 = .ok (.getfield 158, 3) := by decide +kernel
theorem dX8_half_11 : decode cX8_half 11 = .ok (.ifCond .eq 17, 3) := by decide +kernel
theorem dX8_half_14 : decode cX8_half 14 = .ok (.aload_n 0, 1) := by decide +kernel
theorem dX8_half_15 : decode cX8_half 15 = .ok (.getfield 46, 3) := by decide +kernel
theorem dX8_half_18 : decode cX8_half 18 = .ok (.aload_n 0, 1) := by decide +kernel
theorem dX8_half_19 : decode cX8_half 19 = .ok (.getfield 19, 3) := by decide +kernel
theorem dX8_half_22 : decode cX8_half 22 = .ok (.invokevirtual 176, 3) := by decide +kernel
theorem dX8_half_25 : decode cX8_half 25 = .ok (.ifCond .ne 6, 3) := by decide +kernel
theorem dX8_half_28 : decode cX8_half 28 = .ok (.bipush (-5), 2) := by decide +kernel
theorem dX8_half_30 : decode cX8_half 30 = .ok (.ireturn, 1) := by decide +kernel
theorem dX8_half_31 : decode cX8_half 31 = .ok (.iconst 0, 1) := by decide +kernel
theorem dX8_half_32 : decode cX8_half 32 = .ok (.istore_n 1, 1) := by decide +kernel
theorem dX8_half_33 : decode cX8_half 33 = .ok (.iconst 0, 1) := by decide +kernel
theorem dX8_half_34 : decode cX8_half 34 = .ok (.istore_n 2, 1) := by decide +kernel
theorem dX8_half_35 : decode cX8_half 35 = .ok (.iload_n 2, 1) := by decide +kernel
theorem dX8_half_36 : decode cX8_half 36 = .ok (.aload_n 0, 1) := by decide +kernel
theorem dX8_half_37 : decode cX8_half 37 = .ok (.getfield 19, 3) := by decide +kernel
theorem dX8_half_40 : decode cX8_half 40 = .ok (.getfield 152, 3) := by decide +kernel
theorem dX8_half_43 : decode cX8_half 43 = .ok (.if_icmp .ge 33, 3) := by decide +kernel
theorem dX8_half_46 : decode cX8_half 46 = .ok (.aload_n 0, 1) := by decide +kernel
theorem dX8_half_47 : decode cX8_half 47 = .ok (.getfield 46, 3) := by decide +kernel
theorem dX8_half_50 : decode cX8_half 50 = .ok (.iconst 0, 1) := by decide +kernel
theorem dX8_half_51 : decode cX8_half 51 = .ok (.iload_n 2, 1) := by decide +kernel
theorem dX8_half_52 : decode cX8_half 52 = .ok (.invokevirtual 148, 3) := by decide +kernel
theorem dX8_half_55 : decode cX8_half 55 = .ok (.iconst 2, 1) := by decide +kernel
theorem dX8_half_56 : decode cX8_half 56 = .ok (.irem, 1) := by decide +kernel
theorem dX8_half_57 : decode cX8_half 57 = .ok (.ifCond .ne 13, 3) := by decide +kernel
theorem dX8_half_60 : decode cX8_half 60 = .ok (.aload_n 0, 1) := by decide +kernel
theorem dX8_half_61 : decode cX8_half 61 = .ok (.getfield 29, 3) := by decide +kernel
theorem dX8_half_64 : decode cX8_half 64 = .ok (.iload_n 1, 1) := by decide +kernel
theorem dX8_half_65 : decode cX8_half 65 = .ok (.iload_n 2, 1) := by decide +kernel
theorem dX8_half_66 : decode cX8_half 66 = .ok (.iastore, 1) := by decide +kernel
theorem dX8_half_67 : decode cX8_half 67 = .ok (.iinc 1 1, 3) := by decide +kernel
theorem dX8_half_70 : decode cX8_half 70 = .ok (.iinc 2 1, 3) := by decide +kernel
theorem dX8_half_73 : decode cX8_half 73 = .ok (.goto (-38), 3) := by decide +kernel
theorem dX8_half_76 : decode cX8_half 76 = .ok (.aload_n 0, 1) := by decide +kernel
theorem dX8_half_77 : decode cX8_half 77 = .ok (.getfield 23, 3) := by decide +kernel
theorem dX8_half_80 : decode cX8_half 80 = .ok (.iload_n 1, 1) := by decide +kernel
theorem dX8_half_81 : decode cX8_half 81 = .ok (.invokevirtual 96, 3) := by decide +kernel
theorem dX8_half_84 : decode cX8_half 84 = .ok (.iconst 0, 1) := by decide +kernel
theorem dX8_half_85 : decode cX8_half 85 = .ok (.istore_n 2, 1) := by decide +kernel
theorem dX8_half_86 : decode cX8_half 86 = .ok (.iload_n 2, 1) := by decide +kernel
theorem dX8_half_87 : decode cX8_half 87 = .ok (.iload_n 1, 1) := by decide +kernel
theorem dX8_half_88 : decode cX8_half 88 = .ok (.if_icmp .ge 56, 3) := by decide +kernel
theorem dX8_half_91 : decode cX8_half 91 = .ok (.iload_n 2, 1) := by decide +kernel
theorem dX8_half_92 : decode cX8_half 92 = .ok (.iconst 1, 1) := by decide +kernel
theorem dX8_half_93 : decode cX8_half 93 = .ok (.iadd, 1) := by decide +kernel
theorem dX8_half_94 : decode cX8_half 94 = .ok (.istore_n 3, 1) := by decide +kernel
theorem dX8_half_95 : decode cX8_half 95 = .ok (.iload_n 3, 1) := by decide +kernel
theorem dX8_half_96 : decode cX8_half 96 = .ok (.iload_n 1, 1) := by decide +kernel
theorem dX8_half_97 : decode cX8_half 97 = .ok (.if_icmp .ge 41, 3) := by decide +kernel
theorem dX8_half_100 : decode cX8_half 100 = .ok (.aload_n 0, 1) := by decide +kernel
theorem dX8_half_101 : decode cX8_half 101 = .ok (.getfield 46, 3) := by decide +kernel
theorem dX8_half_104 : decode cX8_half 104 = .ok (.aload_n 0, 1) := by decide +kernel
theorem dX8_half_105 : decode cX8_half 105 = .ok (.getfield 29, 3) := by decide +kernel
theorem dX8_half_108 : decode cX8_half 108 = .ok (.iload_n 2, 1) := by decide +kernel
theorem dX8_half_109 : decode cX8_half 109 = .ok (.iaload, 1) := by decide +kernel
theorem dX8_half_110 : decode cX8_half 110 = .ok (.aload_n 0, 1) := by decide +kernel
theorem dX8_half_111 : decode cX8_half 111 = .ok (.getfield 29, 3) := by decide +kernel
theorem dX8_half_114 : decode cX8_half 114 = .ok (.iload_n 3, 1) := by decide +kernel
theorem dX8_half_115 : decode cX8_half 115 = .ok (.iaload, 1) := by decide +kernel
theorem dX8_half_116 : decode cX8_half 116 = .ok (.invokevirtual 148, 3) := by decide +kernel
theorem dX8_half_119 : decode cX8_half 119 = .ok (.iconst 2, 1) := by decide +kernel
theorem dX8_half_120 : decode cX8_half 120 = .ok (.if_icmp .ne 12, 3) := by decide +kernel
theorem dX8_half_123 : decode cX8_half 123 = .ok (.aload_n 0, 1) := by decide +kernel
theorem dX8_half_124 : decode cX8_half 124 = .ok (.getfield 23, 3) := by decide +kernel
theorem dX8_half_127 : decode cX8_half 127 = .ok (.iload_n 2, 1) := by decide +kernel
theorem dX8_half_128 : decode cX8_half 128 = .ok (.iload_n 3, 1) := by decide +kernel
theorem dX8_half_129 : decode cX8_half 129 = .ok (.invokevirtual 110, 3) := by decide +kernel
theorem dX8_half_132 : decode cX8_half 132 = .ok (.iinc 3 1, 3) := by decide +kernel
theorem dX8_half_135 : decode cX8_half 135 = .ok (.goto (-40), 3) := by decide +kernel
theorem dX8_half_138 : decode cX8_half 138 = .ok (.iinc 2 1, 3) := by decide +kernel
theorem dX8_half_141 : decode cX8_half 141 = .ok (.goto (-55), 3) := by decide +kernel
theorem dX8_half_144 : decode cX8_half 144 = .ok (.aload_n 0, 1) := by decide +kernel
theorem dX8_half_145 : decode cX8_half 145 = .ok (.invokevirtual 141, 3) := by decide +kernel
theorem dX8_half_148 : decode cX8_half 148 = .ok (.ireturn, 1) := by decide +kernel
theorem dX8_twice_0 : decode cX8_twice 0 = .ok (.aload_n 0, 1) := by decide +kernel
theorem dX8_twice_1 : decode cX8_twice 1 = .ok (.getfield 19, 3) := by decide +kernel
theorem dX8_twice_4 : decode cX8_twice 4 = .ok (.getfield 152, 3) := by decide +kernel
theorem dX8_twice_7 : decode cX8_twice 7 = .ok (.istore_n 1, 1) := by decide +kernel
theorem dX8_twice_8 : decode cX8_twice 8 = .ok (.iconst 2, 1) := by decide +kernel
theorem dX8_twice_9 : decode cX8_twice 9 = .ok (.iload_n 1, 1) := by decide +kernel
theorem dX8_twice_10 : decode cX8_twice 10 = .ok (.imul, 1) := by decide +kernel
theorem dX8_twice_11 : decode cX8_twice 11 = .ok (.bipush 32, 2) := by decide +kernel
