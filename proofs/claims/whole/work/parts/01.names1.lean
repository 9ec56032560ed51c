/-! ===== BEGIN words of one list among another's, by their places ===== -/
theorem goodIn_r {big : List Cond} (ws : List Cond) (ps : List Nat) (hp : ws = ps.filterMap (fun i => big[i]?)) (h : ws.all goodWord = true) : GoodIn big ws := by
  intro w hw
  have h1 := List.all_eq_true.mp h w hw
  rw [hp] at hw
  obtain ⟨i, -, hi⟩ := List.mem_filterMap.mp hw
  have hm : w ∈ big := by first | exact List.mem_of_getElem? hi | exact List.getElem?_mem hi
  exact ⟨hm, good_of_word h1⟩
theorem goodIn_app {big a b : List Cond} (ha : GoodIn big a) (hb : GoodIn big b) : GoodIn big (a ++ b) := fun w h => (List.mem_append.mp h).elim (ha w) (hb w)
theorem goodIn_ca {big a b : List Cond} {c : Cond} (ha : GoodIn big (c :: a)) (hb : GoodIn big b) : GoodIn big (c :: (a ++ b)) := fun w h => (List.mem_cons.mp h).elim (fun e => ha w (List.mem_cons.mpr (Or.inl e))) (fun h => (List.mem_append.mp h).elim (fun h => ha w (List.mem_cons.mpr (Or.inr h))) (hb w))
theorem goodIn_sub {big ws : List Cond} (hm : ∀ w ∈ ws, w ∈ big) (h : ws.all goodWord = true) : GoodIn big ws := fun w hw => ⟨hm w hw, good_of_word (List.all_eq_true.mp h w hw)⟩
/-! ===== END ===== -/

/-! ===== BEGIN printed: names, fields, word lists, decode rows ===== -/
def RX0 : String := "LikeNets$Likeness"
def TX0 : u_T := fun k => match k with
  | 0 => ("LikeNets$Likeness", "c", "[I", true)
  | 1 => ("LikeNets$Likeness", "a", "[I", true)
  | 2 => ("LikeNets$Likeness", "b", "[I", true)
  | 3 => ("LikeNets$Likeness", "ready", "Z", false)
  | 4 => ("LikeNets$Likeness", "holds", "Z", false)
  | 5 => ("LikeNets$Likeness", "clashFrom", "I", false)
  | _ => ("LikeNets$Likeness", "clashTo", "I", false)
def tyX0 : Nat → FieldType := fun k => match k with
  | 0 => .array .int
  | 1 => .array .int
  | 2 => .array .int
  | 3 => .boolean
  | 4 => .boolean
  | 5 => .int
  | _ => .int
abbrev wsX00 : List Cond := u_ws RX0 TX0 7
theorem nmX0 : ∀ a, a < 7 → ∀ b, b < 7 → a ≠ b → (TX0 a).2.1 ≠ (TX0 b).2.1 := by decide +kernel
theorem tyX0_ok : ∀ k, k < 7 → parseFieldDescriptor (TX0 k).2.2.1 = some (tyX0 k) := by decide +kernel
abbrev cX0_init : ByteArray := prog_2_method_1_code
def yX0_init : MethodName := ⟨RX0, "<init>", "()V"⟩
abbrev cX0_look : ByteArray := prog_2_method_2_code
def yX0_look : MethodName := ⟨RX0, "look", "(LLikeNets$Net;LLikeNets$Ways;)V"⟩
abbrev cX0_fits : ByteArray := prog_2_method_3_code
def yX0_fits : MethodName := ⟨RX0, "fits", "(LLikeNets$Net;LLikeNets$Ways;II)Z"⟩
abbrev cX0_isAtMost : ByteArray := prog_2_method_4_code
def yX0_isAtMost : MethodName := ⟨RX0, "isAtMost", "(II)Z"⟩
def RX1 : String := "LikeNets$Makings"
def TX1 : u_T := fun k => match k with
  | _ => ("LikeNets$Makings", "sets", "[I", true)
def tyX1 : Nat → FieldType := fun k => match k with
  | _ => .array .int
abbrev wsX10 : List Cond := u_ws RX1 TX1 1
theorem nmX1 : ∀ a, a < 1 → ∀ b, b < 1 → a ≠ b → (TX1 a).2.1 ≠ (TX1 b).2.1 := by decide +kernel
theorem tyX1_ok : ∀ k, k < 1 → parseFieldDescriptor (TX1 k).2.2.1 = some (tyX1 k) := by decide +kernel
abbrev cX1_init : ByteArray := prog_3_method_1_code
def yX1_init : MethodName := ⟨RX1, "<init>", "()V"⟩
abbrev cX1_mayBe : ByteArray := prog_3_method_2_code
def yX1_mayBe : MethodName := ⟨RX1, "mayBe", "(III)Z"⟩
abbrev cX1_size : ByteArray := prog_3_method_3_code
def yX1_size : MethodName := ⟨RX1, "size", "(III)J"⟩
abbrev cX1_countWords : ByteArray := prog_3_method_4_code
def yX1_countWords : MethodName := ⟨RX1, "countWords", "(II)J"⟩
abbrev cX1_countSets : ByteArray := prog_3_method_5_code
def yX1_countSets : MethodName := ⟨RX1, "countSets", "(II)J"⟩
abbrev cX1_lay : ByteArray := prog_3_method_6_code
def yX1_lay : MethodName := ⟨RX1, "lay", "(LLikeNets$Net;III)V"⟩
abbrev cX1_layWords : ByteArray := prog_3_method_7_code
def yX1_layWords : MethodName := ⟨RX1, "layWords", "(LLikeNets$Net;I)V"⟩
abbrev cX1_unlikeLetters : ByteArray := prog_3_method_8_code
def yX1_unlikeLetters : MethodName := ⟨RX1, "unlikeLetters", "(III)I"⟩
abbrev cX1_listSets : ByteArray := prog_3_method_9_code
def yX1_listSets : MethodName := ⟨RX1, "listSets", "(II)V"⟩
abbrev cX1_nextSet : ByteArray := prog_3_method_10_code
def yX1_nextSet : MethodName := ⟨RX1, "nextSet", "(J)J"⟩
abbrev cX1_layPairs : ByteArray := prog_3_method_11_code
def yX1_layPairs : MethodName := ⟨RX1, "layPairs", "(LLikeNets$Net;II)V"⟩
abbrev cX1_isRoad : ByteArray := prog_3_method_12_code
def yX1_isRoad : MethodName := ⟨RX1, "isRoad", "(IIIII)Z"⟩
def RX2 : String := "LikeNets$Net"
def TX2 : u_T := fun k => match k with
  | 0 => ("LikeNets$Net", "near", "[I", true)
  | _ => ("LikeNets$Net", "size", "I", false)
def tyX2 : Nat → FieldType := fun k => match k with
  | 0 => .array .int
  | _ => .int
abbrev wsX20 : List Cond := u_ws RX2 TX2 2
theorem nmX2 : ∀ a, a < 2 → ∀ b, b < 2 → a ≠ b → (TX2 a).2.1 ≠ (TX2 b).2.1 := by decide +kernel
theorem tyX2_ok : ∀ k, k < 2 → parseFieldDescriptor (TX2 k).2.2.1 = some (tyX2 k) := by decide +kernel
abbrev cX2_init : ByteArray := prog_4_method_1_code
def yX2_init : MethodName := ⟨RX2, "<init>", "()V"⟩
abbrev cX2_empty : ByteArray := prog_4_method_2_code
def yX2_empty : MethodName := ⟨RX2, "empty", "(I)V"⟩
abbrev cX2_copyFrom : ByteArray := prog_4_method_3_code
def yX2_copyFrom : MethodName := ⟨RX2, "copyFrom", "(LLikeNets$Net;)V"⟩
abbrev cX2_has : ByteArray := prog_4_method_4_code
def yX2_has : MethodName := ⟨RX2, "has", "(I)Z"⟩
abbrev cX2_mayJoin : ByteArray := prog_4_method_5_code
def yX2_mayJoin : MethodName := ⟨RX2, "mayJoin", "(II)Z"⟩
abbrev cX2_areJoined : ByteArray := prog_4_method_6_code
def yX2_areJoined : MethodName := ⟨RX2, "areJoined", "(II)Z"⟩
abbrev cX2_join : ByteArray := prog_4_method_7_code
def yX2_join : MethodName := ⟨RX2, "join", "(II)V"⟩
abbrev cX2_part : ByteArray := prog_4_method_8_code
def yX2_part : MethodName := ⟨RX2, "part", "(II)V"⟩
abbrev cX2_fullness : ByteArray := prog_4_method_9_code
def yX2_fullness : MethodName := ⟨RX2, "fullness", "(I)I"⟩
abbrev cX2_roads : ByteArray := prog_4_method_10_code
def yX2_roads : MethodName := ⟨RX2, "roads", "()I"⟩
abbrev cX2_isEven : ByteArray := prog_4_method_11_code
def yX2_isEven : MethodName := ⟨RX2, "isEven", "()Z"⟩
abbrev cX2_around : ByteArray := prog_4_method_12_code
def yX2_around : MethodName := ⟨RX2, "around", "(I)I"⟩
def RX3 : String := "LikeNets$Pairs"
def TX3 : u_T := fun k => match k with
  | 0 => ("LikeNets$Pairs", "sorts", "[I", true)
  | 1 => ("LikeNets$Pairs", "parted", "[I", true)
  | 2 => ("LikeNets$Pairs", "firsts", "[I", true)
  | 3 => ("LikeNets$Pairs", "heads", "[I", true)
  | 4 => ("LikeNets$Pairs", "nexts", "[I", true)
  | 5 => ("LikeNets$Pairs", "sums", "[J", true)
  | 6 => ("LikeNets$Pairs", "keys", "[I", true)
  | 7 => ("LikeNets$Pairs", "otherKeys", "[I", true)
  | 8 => ("LikeNets$Pairs", "ready", "Z", false)
  | 9 => ("LikeNets$Pairs", "size", "I", false)
  | _ => ("LikeNets$Pairs", "count", "I", false)
def tyX3 : Nat → FieldType := fun k => match k with
  | 0 => .array .int
  | 1 => .array .int
  | 2 => .array .int
  | 3 => .array .int
  | 4 => .array .int
  | 5 => .array .long
  | 6 => .array .int
  | 7 => .array .int
  | 8 => .boolean
  | 9 => .int
  | _ => .int
abbrev wsX30 : List Cond := u_ws RX3 TX3 11
theorem nmX3 : ∀ a, a < 11 → ∀ b, b < 11 → a ≠ b → (TX3 a).2.1 ≠ (TX3 b).2.1 := by decide +kernel
theorem tyX3_ok : ∀ k, k < 11 → parseFieldDescriptor (TX3 k).2.2.1 = some (tyX3 k) := by decide +kernel
abbrev cX3_init : ByteArray := prog_5_method_1_code
def yX3_init : MethodName := ⟨RX3, "<init>", "()V"⟩
abbrev cX3_of : ByteArray := prog_5_method_2_code
def yX3_of : MethodName := ⟨RX3, "of", "(II)I"⟩
abbrev cX3_tellApart : ByteArray := prog_5_method_3_code
def yX3_tellApart : MethodName := ⟨RX3, "tellApart", "(LLikeNets$Net;)V"⟩
abbrev cX3_begin : ByteArray := prog_5_method_4_code
def yX3_begin : MethodName := ⟨RX3, "begin", "(LLikeNets$Net;)V"⟩
abbrev cX3_refine : ByteArray := prog_5_method_5_code
def yX3_refine : MethodName := ⟨RX3, "refine", "(Z)V"⟩
abbrev cX3_match : ByteArray := prog_5_method_6_code
def yX3_match : MethodName := ⟨RX3, "match", "(IJZ)I"⟩
abbrev cX3_open : ByteArray := prog_5_method_7_code
def yX3_open : MethodName := ⟨RX3, "open", "(IJ)I"⟩
abbrev cX3_keyOf : ByteArray := prog_5_method_8_code
def yX3_keyOf : MethodName := ⟨RX3, "keyOf", "(III)I"⟩
abbrev cX3_sumOf : ByteArray := prog_5_method_9_code
def yX3_sumOf : MethodName := ⟨RX3, "sumOf", "(II)J"⟩
abbrev cX3_stir : ByteArray := prog_5_method_10_code
def yX3_stir : MethodName := ⟨RX3, "stir", "(I)J"⟩
abbrev cX3_isAlike : ByteArray := prog_5_method_11_code
def yX3_isAlike : MethodName := ⟨RX3, "isAlike", "(II)Z"⟩
abbrev cX3_gather : ByteArray := prog_5_method_12_code
def yX3_gather : MethodName := ⟨RX3, "gather", "([II)V"⟩
def RX4 : String := "LikeNets$Search"
def TX4 : u_T := fun k => match k with
  | 0 => ("LikeNets$Search", "balls", "[I", true)
  | 1 => ("LikeNets$Search", "taken", "[I", true)
  | 2 => ("LikeNets$Search", "untried", "[I", true)
  | 3 => ("LikeNets$Search", "size", "I", false)
  | 4 => ("LikeNets$Search", "reach", "I", false)
  | _ => ("LikeNets$Search", "found", "I", false)
def tyX4 : Nat → FieldType := fun k => match k with
  | 0 => .array .int
  | 1 => .array .int
  | 2 => .array .int
  | 3 => .int
  | 4 => .int
  | _ => .int
abbrev wsX40 : List Cond := u_ws RX4 TX4 6
theorem nmX4 : ∀ a, a < 6 → ∀ b, b < 6 → a ≠ b → (TX4 a).2.1 ≠ (TX4 b).2.1 := by decide +kernel
theorem tyX4_ok : ∀ k, k < 6 → parseFieldDescriptor (TX4 k).2.2.1 = some (tyX4 k) := by decide +kernel
abbrev cX4_init : ByteArray := prog_6_method_1_code
def yX4_init : MethodName := ⟨RX4, "<init>", "()V"⟩
abbrev cX4_run : ByteArray := prog_6_method_2_code
def yX4_run : MethodName := ⟨RX4, "run", "(LLikeNets$Ways;II)V"⟩
abbrev cX4_climb : ByteArray := prog_6_method_3_code
def yX4_climb : MethodName := ⟨RX4, "climb", "()I"⟩
abbrev cX4_candidates : ByteArray := prog_6_method_4_code
def yX4_candidates : MethodName := ⟨RX4, "candidates", "(I)I"⟩
def RX5 : String := "LikeNets$Sheet"
def TX5 : u_T := fun k => match k with
  | 0 => ("LikeNets$Sheet", "cells", "[I", true)
  | 1 => ("LikeNets$Sheet", "there", "Z", false)
  | 2 => ("LikeNets$Sheet", "sort", "I", false)
  | _ => ("LikeNets$Sheet", "size", "I", false)
def tyX5 : Nat → FieldType := fun k => match k with
  | 0 => .array .int
  | 1 => .boolean
  | 2 => .int
  | _ => .int
abbrev wsX50 : List Cond := u_ws RX5 TX5 4
theorem nmX5 : ∀ a, a < 4 → ∀ b, b < 4 → a ≠ b → (TX5 a).2.1 ≠ (TX5 b).2.1 := by decide +kernel
theorem tyX5_ok : ∀ k, k < 4 → parseFieldDescriptor (TX5 k).2.2.1 = some (tyX5 k) := by decide +kernel
abbrev cX5_init : ByteArray := prog_7_method_1_code
def yX5_init : MethodName := ⟨RX5, "<init>", "()V"⟩
abbrev cX5_lay : ByteArray := prog_7_method_2_code
def yX5_lay : MethodName := ⟨RX5, "lay", "(II)V"⟩
abbrev cX5_has : ByteArray := prog_7_method_3_code
def yX5_has : MethodName := ⟨RX5, "has", "(I)Z"⟩
abbrev cX5_read : ByteArray := prog_7_method_4_code
def yX5_read : MethodName := ⟨RX5, "read", "(I)I"⟩
abbrev cX5_write : ByteArray := prog_7_method_5_code
def yX5_write : MethodName := ⟨RX5, "write", "(II)V"⟩
def RX6 : String := "LikeNets$Told"
def TX6 : u_T := fun k => match k with
  | 0 => ("LikeNets$Told", "b", "[I", true)
  | 1 => ("LikeNets$Told", "c", "[I", true)
  | 2 => ("LikeNets$Told", "k", "[J", true)
  | 3 => ("LikeNets$Told", "t", "[J", true)
  | 4 => ("LikeNets$Told", "scaled", "[J", true)
  | 5 => ("LikeNets$Told", "walkRow", "[J", true)
  | 6 => ("LikeNets$Told", "roots", "[I", true)
  | 7 => ("LikeNets$Told", "times", "[I", true)
  | 8 => ("LikeNets$Told", "length", "I", false)
  | 9 => ("LikeNets$Told", "rootCount", "I", false)
  | 10 => ("LikeNets$Told", "broken", "I", false)
  | 11 => ("LikeNets$Told", "total", "J", false)
  | _ => ("LikeNets$Told", "judged", "Z", false)
def tyX6 : Nat → FieldType := fun k => match k with
  | 0 => .array .int
  | 1 => .array .int
  | 2 => .array .long
  | 3 => .array .long
  | 4 => .array .long
  | 5 => .array .long
  | 6 => .array .int
  | 7 => .array .int
  | 8 => .int
  | 9 => .int
  | 10 => .int
  | 11 => .long
  | _ => .boolean
abbrev wsX60 : List Cond := u_ws RX6 TX6 13
theorem nmX6 : ∀ a, a < 13 → ∀ b, b < 13 → a ≠ b → (TX6 a).2.1 ≠ (TX6 b).2.1 := by decide +kernel
theorem tyX6_ok : ∀ k, k < 13 → parseFieldDescriptor (TX6 k).2.2.1 = some (tyX6 k) := by decide +kernel
abbrev cX6_init : ByteArray := prog_8_method_1_code
def yX6_init : MethodName := ⟨RX6, "<init>", "()V"⟩
abbrev cX6_place : ByteArray := prog_8_method_2_code
def yX6_place : MethodName := ⟨RX6, "place", "(III)I"⟩
abbrev cX6_lay : ByteArray := prog_8_method_3_code
def yX6_lay : MethodName := ⟨RX6, "lay", "(I)V"⟩
abbrev cX6_putOnward : ByteArray := prog_8_method_4_code
def yX6_putOnward : MethodName := ⟨RX6, "putOnward", "(II)I"⟩
abbrev cX6_putBackward : ByteArray := prog_8_method_5_code
def yX6_putBackward : MethodName := ⟨RX6, "putBackward", "(II)I"⟩
abbrev cX6_hasRow : ByteArray := prog_8_method_6_code
def yX6_hasRow : MethodName := ⟨RX6, "hasRow", "(I)Z"⟩
abbrev cX6_level : ByteArray := prog_8_method_7_code
def yX6_level : MethodName := ⟨RX6, "level", "(I)I"⟩
abbrev cX6_keepsLawsTo : ByteArray := prog_8_method_8_code
def yX6_keepsLawsTo : MethodName := ⟨RX6, "keepsLawsTo", "(I)Z"⟩
abbrev cX6_firstBroken : ByteArray := prog_8_method_9_code
def yX6_firstBroken : MethodName := ⟨RX6, "firstBroken", "()I"⟩
abbrev cX6_judge : ByteArray := prog_8_method_10_code
def yX6_judge : MethodName := ⟨RX6, "judge", "()I"⟩
abbrev cX6_isPositive : ByteArray := prog_8_method_11_code
def yX6_isPositive : MethodName := ⟨RX6, "isPositive", "()Z"⟩
abbrev cX6_hasRoom : ByteArray := prog_8_method_12_code
def yX6_hasRoom : MethodName := ⟨RX6, "hasRoom", "()Z"⟩
abbrev cX6_isInOrder : ByteArray := prog_8_method_13_code
def yX6_isInOrder : MethodName := ⟨RX6, "isInOrder", "()Z"⟩
abbrev cX6_countLayers : ByteArray := prog_8_method_14_code
def yX6_countLayers : MethodName := ⟨RX6, "countLayers", "()Z"⟩
abbrev cX6_isPaired : ByteArray := prog_8_method_15_code
def yX6_isPaired : MethodName := ⟨RX6, "isPaired", "()Z"⟩
abbrev cX6_layFirstThirds : ByteArray := prog_8_method_16_code
def yX6_layFirstThirds : MethodName := ⟨RX6, "layFirstThirds", "()V"⟩
abbrev cX6_firstThird : ByteArray := prog_8_method_17_code
def yX6_firstThird : MethodName := ⟨RX6, "firstThird", "(II)I"⟩
abbrev cX6_layOtherThirds : ByteArray := prog_8_method_18_code
def yX6_layOtherThirds : MethodName := ⟨RX6, "layOtherThirds", "()Z"⟩
abbrev cX6_thirdTimes : ByteArray := prog_8_method_19_code
def yX6_thirdTimes : MethodName := ⟨RX6, "thirdTimes", "(III)J"⟩
abbrev cX6_findRoots : ByteArray := prog_8_method_20_code
def yX6_findRoots : MethodName := ⟨RX6, "findRoots", "()Z"⟩
abbrev cX6_isRoot : ByteArray := prog_8_method_21_code
def yX6_isRoot : MethodName := ⟨RX6, "isRoot", "(I)Z"⟩
abbrev cX6_timesOfScaled : ByteArray := prog_8_method_22_code
def yX6_timesOfScaled : MethodName := ⟨RX6, "timesOfScaled", "()I"⟩
abbrev cX6_countWalks : ByteArray := prog_8_method_23_code
def yX6_countWalks : MethodName := ⟨RX6, "countWalks", "(II)J"⟩
def RX7 : String := "LikeNets$Ways"
def TX7 : u_T := fun k => match k with
  | 0 => ("LikeNets$Ways", "steps", "[I", true)
  | 1 => ("LikeNets$Ways", "layers", "[I", true)
  | 2 => ("LikeNets$Ways", "reached", "[I", true)
  | 3 => ("LikeNets$Ways", "ready", "Z", false)
  | 4 => ("LikeNets$Ways", "whole", "Z", false)
  | 5 => ("LikeNets$Ways", "size", "I", false)
  | _ => ("LikeNets$Ways", "far", "I", false)
def tyX7 : Nat → FieldType := fun k => match k with
  | 0 => .array .int
  | 1 => .array .int
  | 2 => .array .int
  | 3 => .boolean
  | 4 => .boolean
  | 5 => .int
  | _ => .int
abbrev wsX70 : List Cond := u_ws RX7 TX7 7
theorem nmX7 : ∀ a, a < 7 → ∀ b, b < 7 → a ≠ b → (TX7 a).2.1 ≠ (TX7 b).2.1 := by decide +kernel
theorem tyX7_ok : ∀ k, k < 7 → parseFieldDescriptor (TX7 k).2.2.1 = some (tyX7 k) := by decide +kernel
abbrev cX7_init : ByteArray := prog_9_method_1_code
def yX7_init : MethodName := ⟨RX7, "<init>", "()V"⟩
abbrev cX7_measure : ByteArray := prog_9_method_2_code
def yX7_measure : MethodName := ⟨RX7, "measure", "(LLikeNets$Net;)V"⟩
abbrev cX7_spread : ByteArray := prog_9_method_3_code
def yX7_spread : MethodName := ⟨RX7, "spread", "(LLikeNets$Net;I)I"⟩
abbrev cX7_noteSteps : ByteArray := prog_9_method_4_code
def yX7_noteSteps : MethodName := ⟨RX7, "noteSteps", "(III)V"⟩
abbrev cX7_between : ByteArray := prog_9_method_5_code
def yX7_between : MethodName := ⟨RX7, "between", "(II)I"⟩
abbrev cX7_postsAt : ByteArray := prog_9_method_6_code
def yX7_postsAt : MethodName := ⟨RX7, "postsAt", "(II)I"⟩
abbrev cX7_postsWithin : ByteArray := prog_9_method_7_code
def yX7_postsWithin : MethodName := ⟨RX7, "postsWithin", "(II)I"⟩
abbrev cX7_pieces : ByteArray := prog_9_method_8_code
def yX7_pieces : MethodName := ⟨RX7, "pieces", "()I"⟩
abbrev cX7_shortestRing : ByteArray := prog_9_method_9_code
def yX7_shortestRing : MethodName := ⟨RX7, "shortestRing", "(LLikeNets$Net;)I"⟩
abbrev cX7_ringSeen : ByteArray := prog_9_method_10_code
def yX7_ringSeen : MethodName := ⟨RX7, "ringSeen", "(LLikeNets$Net;II)I"⟩
abbrev cX7_isOfSides : ByteArray := prog_9_method_11_code
def yX7_isOfSides : MethodName := ⟨RX7, "isOfSides", "(LLikeNets$Net;)Z"⟩
abbrev cX7_farGroup : ByteArray := prog_9_method_12_code
def yX7_farGroup : MethodName := ⟨RX7, "farGroup", "(I)I"⟩
abbrev cX7_isFolded : ByteArray := prog_9_method_13_code
def yX7_isFolded : MethodName := ⟨RX7, "isFolded", "()Z"⟩
def RX8 : String := "LikeNets"
def TX8 : u_T := fun k => match k with
  | 0 => ("LikeNets", "sheets", "[LLikeNets$Sheet;", true)
  | 1 => ("LikeNets", "now", "LLikeNets$Net;", true)
  | 2 => ("LikeNets", "made", "LLikeNets$Net;", true)
  | 3 => ("LikeNets", "stored", "LLikeNets$Net;", true)
  | 4 => ("LikeNets", "list", "[I", true)
  | 5 => ("LikeNets", "partner", "[I", true)
  | 6 => ("LikeNets", "makings", "LLikeNets$Makings;", true)
  | 7 => ("LikeNets", "ways", "LLikeNets$Ways;", true)
  | 8 => ("LikeNets", "likeness", "LLikeNets$Likeness;", true)
  | 9 => ("LikeNets", "told", "LLikeNets$Told;", true)
  | 10 => ("LikeNets", "search", "LLikeNets$Search;", true)
  | 11 => ("LikeNets", "pairs", "LLikeNets$Pairs;", true)
  | _ => ("LikeNets", "isStored", "Z", false)
def tyX8 : Nat → FieldType := fun k => match k with
  | 0 => .array (.object "LikeNets$Sheet")
  | 1 => .object "LikeNets$Net"
  | 2 => .object "LikeNets$Net"
  | 3 => .object "LikeNets$Net"
  | 4 => .array .int
  | 5 => .array .int
  | 6 => .object "LikeNets$Makings"
  | 7 => .object "LikeNets$Ways"
  | 8 => .object "LikeNets$Likeness"
  | 9 => .object "LikeNets$Told"
  | 10 => .object "LikeNets$Search"
  | 11 => .object "LikeNets$Pairs"
  | _ => .boolean
abbrev wsX80 : List Cond := u_ws RX8 TX8 13
theorem nmX8 : ∀ a, a < 13 → ∀ b, b < 13 → a ≠ b → (TX8 a).2.1 ≠ (TX8 b).2.1 := by decide +kernel
theorem tyX8_ok : ∀ k, k < 13 → parseFieldDescriptor (TX8 k).2.2.1 = some (tyX8 k) := by decide +kernel
abbrev cX8_init : ByteArray := prog_1_method_1_code
def yX8_init : MethodName := ⟨RX8, "<init>", "()V"⟩
abbrev cX8_sheet : ByteArray := prog_1_method_2_code
def yX8_sheet : MethodName := ⟨RX8, "sheet", "(III)I"⟩
abbrev cX8_cell : ByteArray := prog_1_method_3_code
def yX8_cell : MethodName := ⟨RX8, "cell", "(III)I"⟩
abbrev cX8_lose : ByteArray := prog_1_method_4_code
def yX8_lose : MethodName := ⟨RX8, "lose", "(I)I"⟩
abbrev cX8_net : ByteArray := prog_1_method_5_code
def yX8_net : MethodName := ⟨RX8, "net", "(I)I"⟩
abbrev cX8_road : ByteArray := prog_1_method_6_code
def yX8_road : MethodName := ⟨RX8, "road", "(IIZ)I"⟩
abbrev cX8_load : ByteArray := prog_1_method_7_code
def yX8_load : MethodName := ⟨RX8, "load", "(III)I"⟩
abbrev cX8_joined : ByteArray := prog_1_method_8_code
def yX8_joined : MethodName := ⟨RX8, "joined", "(II)Z"⟩
abbrev cX8_build : ByteArray := prog_1_method_9_code
def yX8_build : MethodName := ⟨RX8, "build", "(III)I"⟩
abbrev cX8_way : ByteArray := prog_1_method_10_code
def yX8_way : MethodName := ⟨RX8, "way", "(II)I"⟩
abbrev cX8_many : ByteArray := prog_1_method_11_code
def yX8_many : MethodName := ⟨RX8, "many", "(I)I"⟩
abbrev cX8_clash : ByteArray := prog_1_method_12_code
def yX8_clash : MethodName := ⟨RX8, "clash", "(I)I"⟩
abbrev cX8_table : ByteArray := prog_1_method_13_code
def yX8_table : MethodName := ⟨RX8, "table", "(II)I"⟩
abbrev cX8_thirds : ByteArray := prog_1_method_14_code
def yX8_thirds : MethodName := ⟨RX8, "thirds", "(IIII)I"⟩
abbrev cX8_tell : ByteArray := prog_1_method_15_code
def yX8_tell : MethodName := ⟨RX8, "tell", "(I)I"⟩
abbrev cX8_put : ByteArray := prog_1_method_16_code
def yX8_put : MethodName := ⟨RX8, "put", "(III)I"⟩
abbrev cX8_take : ByteArray := prog_1_method_17_code
def yX8_take : MethodName := ⟨RX8, "take", "()I"⟩
abbrev cX8_can : ByteArray := prog_1_method_18_code
def yX8_can : MethodName := ⟨RX8, "can", "()I"⟩
abbrev cX8_entry : ByteArray := prog_1_method_19_code
def yX8_entry : MethodName := ⟨RX8, "entry", "(II)I"⟩
abbrev cX8_posts : ByteArray := prog_1_method_20_code
def yX8_posts : MethodName := ⟨RX8, "posts", "()I"⟩
abbrev cX8_third : ByteArray := prog_1_method_21_code
def yX8_third : MethodName := ⟨RX8, "third", "(III)I"⟩
abbrev cX8_root : ByteArray := prog_1_method_22_code
def yX8_root : MethodName := ⟨RX8, "root", "(II)I"⟩
abbrev cX8_walks : ByteArray := prog_1_method_23_code
def yX8_walks : MethodName := ⟨RX8, "walks", "(II)J"⟩
abbrev cX8_bound : ByteArray := prog_1_method_24_code
def yX8_bound : MethodName := ⟨RX8, "bound", "(II)J"⟩
abbrev cX8_fold : ByteArray := prog_1_method_25_code
def yX8_fold : MethodName := ⟨RX8, "fold", "()I"⟩
abbrev cX8_half : ByteArray := prog_1_method_26_code
def yX8_half : MethodName := ⟨RX8, "half", "()I"⟩
abbrev cX8_twice : ByteArray := prog_1_method_27_code
def yX8_twice : MethodName := ⟨RX8, "twice", "()I"⟩
abbrev cX8_power : ByteArray := prog_1_method_28_code
def yX8_power : MethodName := ⟨RX8, "power", "(I)I"⟩
abbrev cX8_other : ByteArray := prog_1_method_29_code
def yX8_other : MethodName := ⟨RX8, "other", "()I"⟩
abbrev cX8_lines : ByteArray := prog_1_method_30_code
def yX8_lines : MethodName := ⟨RX8, "lines", "()I"⟩
abbrev cX8_keep : ByteArray := prog_1_method_31_code
def yX8_keep : MethodName := ⟨RX8, "keep", "()I"⟩
abbrev cX8_back : ByteArray := prog_1_method_32_code
def yX8_back : MethodName := ⟨RX8, "back", "()I"⟩
abbrev cX8_perfect : ByteArray := prog_1_method_33_code
def yX8_perfect : MethodName := ⟨RX8, "perfect", "(I)I"⟩
abbrev cX8_heap : ByteArray := prog_1_method_34_code
def yX8_heap : MethodName := ⟨RX8, "heap", "(II)I"⟩
abbrev cX8_kinds : ByteArray := prog_1_method_35_code
def yX8_kinds : MethodName := ⟨RX8, "kinds", "()I"⟩
abbrev cX8_kind : ByteArray := prog_1_method_36_code
def yX8_kind : MethodName := ⟨RX8, "kind", "(II)I"⟩
abbrev cX8_isSheet : ByteArray := prog_1_method_37_code
def yX8_isSheet : MethodName := ⟨RX8, "isSheet", "(I)Z"⟩
abbrev cX8_mayLoad : ByteArray := prog_1_method_38_code
def yX8_mayLoad : MethodName := ⟨RX8, "mayLoad", "(LLikeNets$Sheet;II)Z"⟩
abbrev cX8_listRoads : ByteArray := prog_1_method_39_code
def yX8_listRoads : MethodName := ⟨RX8, "listRoads", "()V"⟩
abbrev cX8_adopt : ByteArray := prog_1_method_40_code
def yX8_adopt : MethodName := ⟨RX8, "adopt", "()I"⟩
abbrev cX8_forget : ByteArray := prog_1_method_41_code
def yX8_forget : MethodName := ⟨RX8, "forget", "()V"⟩
abbrev cX8_measure : ByteArray := prog_1_method_42_code
def yX8_measure : MethodName := ⟨RX8, "measure", "()V"⟩
abbrev cX8_isLike : ByteArray := prog_1_method_43_code
def yX8_isLike : MethodName := ⟨RX8, "isLike", "()Z"⟩
abbrev cX8_oneIf : ByteArray := prog_1_method_44_code
def yX8_oneIf : MethodName := ⟨RX8, "oneIf", "(Z)I"⟩
abbrev cX8_allOf : ByteArray := prog_1_method_45_code
def yX8_allOf : MethodName := ⟨RX8, "allOf", "(I)I"⟩
abbrev cX8_lowestBit : ByteArray := prog_1_method_46_code
def yX8_lowestBit : MethodName := ⟨RX8, "lowestBit", "(I)I"⟩
abbrev cX8_isIn : ByteArray := prog_1_method_47_code
def yX8_isIn : MethodName := ⟨RX8, "isIn", "(II)Z"⟩
def RX9 : String := "LikeNetsModel"
def TX9 : u_T := fun k => match k with
  | 0 => ("LikeNetsModel", "sheetKind", "[I", true)
  | 1 => ("LikeNetsModel", "sheetSize", "[I", true)
  | 2 => ("LikeNetsModel", "cellOf", "[I", true)
  | 3 => ("LikeNetsModel", "posts", "I", false)
  | 4 => ("LikeNetsModel", "road", "[Z", true)
  | 5 => ("LikeNetsModel", "isKept", "Z", false)
  | 6 => ("LikeNetsModel", "keptPosts", "I", false)
  | 7 => ("LikeNetsModel", "keptRoad", "[Z", true)
  | 8 => ("LikeNetsModel", "length", "I", false)
  | 9 => ("LikeNetsModel", "toldB", "[I", true)
  | 10 => ("LikeNetsModel", "toldC", "[I", true)
  | 11 => ("LikeNetsModel", "sets", "[I", true)
  | 12 => ("LikeNetsModel", "isMeasured", "Z", false)
  | 13 => ("LikeNetsModel", "wayOf", "[I", true)
  | 14 => ("LikeNetsModel", "far", "I", false)
  | 15 => ("LikeNetsModel", "heaps", "I", false)
  | 16 => ("LikeNetsModel", "layer", "[I", true)
  | 17 => ("LikeNetsModel", "tableC", "[I", true)
  | 18 => ("LikeNetsModel", "tableA", "[I", true)
  | 19 => ("LikeNetsModel", "tableB", "[I", true)
  | 20 => ("LikeNetsModel", "isTold", "[Z", true)
  | 21 => ("LikeNetsModel", "clashP", "I", false)
  | 22 => ("LikeNetsModel", "clashQ", "I", false)
  | 23 => ("LikeNetsModel", "sizes", "[J", true)
  | 24 => ("LikeNetsModel", "all", "J", false)
  | 25 => ("LikeNetsModel", "third", "[J", true)
  | 26 => ("LikeNetsModel", "u", "[J", true)
  | 27 => ("LikeNetsModel", "walk", "[J", true)
  | 28 => ("LikeNetsModel", "next", "[J", true)
  | 29 => ("LikeNetsModel", "newRoad", "[Z", true)
  | 30 => ("LikeNetsModel", "numberOf", "[I", true)
  | 31 => ("LikeNetsModel", "lineP", "[I", true)
  | 32 => ("LikeNetsModel", "lineQ", "[I", true)
  | 33 => ("LikeNetsModel", "taken", "[I", true)
  | 34 => ("LikeNetsModel", "tried", "[I", true)
  | 35 => ("LikeNetsModel", "takenMany", "I", false)
  | 36 => ("LikeNetsModel", "nearTo", "[I", true)
  | 37 => ("LikeNetsModel", "coveredAt", "[I", true)
  | 38 => ("LikeNetsModel", "areKindsFound", "Z", false)
  | 39 => ("LikeNetsModel", "kindOf", "[I", true)
  | 40 => ("LikeNetsModel", "newKind", "[I", true)
  | 41 => ("LikeNetsModel", "signs", "[I", true)
  | 42 => ("LikeNetsModel", "kindMany", "I", false)
  | _ => ("LikeNetsModel", "firstPair", "[I", true)
def tyX9 : Nat → FieldType := fun k => match k with
  | 0 => .array .int
  | 1 => .array .int
  | 2 => .array .int
  | 3 => .int
  | 4 => .array .boolean
  | 5 => .boolean
  | 6 => .int
  | 7 => .array .boolean
  | 8 => .int
  | 9 => .array .int
  | 10 => .array .int
  | 11 => .array .int
  | 12 => .boolean
  | 13 => .array .int
  | 14 => .int
  | 15 => .int
  | 16 => .array .int
  | 17 => .array .int
  | 18 => .array .int
  | 19 => .array .int
  | 20 => .array .boolean
  | 21 => .int
  | 22 => .int
  | 23 => .array .long
  | 24 => .long
  | 25 => .array .long
  | 26 => .array .long
  | 27 => .array .long
  | 28 => .array .long
  | 29 => .array .boolean
  | 30 => .array .int
  | 31 => .array .int
  | 32 => .array .int
  | 33 => .array .int
  | 34 => .array .int
  | 35 => .int
  | 36 => .array .int
  | 37 => .array .int
  | 38 => .boolean
  | 39 => .array .int
  | 40 => .array .int
  | 41 => .array .int
  | 42 => .int
  | _ => .array .int
abbrev wsX90 : List Cond := u_ws RX9 TX9 44
theorem nmX9 : ∀ a, a < 44 → ∀ b, b < 44 → a ≠ b → (TX9 a).2.1 ≠ (TX9 b).2.1 := by decide +kernel
theorem tyX9_ok : ∀ k, k < 44 → parseFieldDescriptor (TX9 k).2.2.1 = some (tyX9 k) := by decide +kernel
abbrev cX9_init : ByteArray := prog_11_method_1_code
def yX9_init : MethodName := ⟨RX9, "<init>", "()V"⟩
abbrev cX9_in : ByteArray := prog_11_method_2_code
def yX9_in : MethodName := ⟨RX9, "in", "(JJJ)Z"⟩
abbrev cX9_isSheet : ByteArray := prog_11_method_3_code
def yX9_isSheet : MethodName := ⟨RX9, "isSheet", "(I)Z"⟩
abbrev cX9_isPost : ByteArray := prog_11_method_4_code
def yX9_isPost : MethodName := ⟨RX9, "isPost", "(I)Z"⟩
abbrev cX9_sheet : ByteArray := prog_11_method_5_code
def yX9_sheet : MethodName := ⟨RX9, "sheet", "(III)I"⟩
abbrev cX9_cell : ByteArray := prog_11_method_6_code
def yX9_cell : MethodName := ⟨RX9, "cell", "(III)I"⟩
abbrev cX9_lose : ByteArray := prog_11_method_7_code
def yX9_lose : MethodName := ⟨RX9, "lose", "(I)I"⟩
abbrev cX9_fresh : ByteArray := prog_11_method_8_code
def yX9_fresh : MethodName := ⟨RX9, "fresh", "(I)V"⟩
abbrev cX9_net : ByteArray := prog_11_method_9_code
def yX9_net : MethodName := ⟨RX9, "net", "(I)I"⟩
abbrev cX9_lay : ByteArray := prog_11_method_10_code
def yX9_lay : MethodName := ⟨RX9, "lay", "(IIZ)Z"⟩
abbrev cX9_road : ByteArray := prog_11_method_11_code
def yX9_road : MethodName := ⟨RX9, "road", "(IIZ)I"⟩
abbrev cX9_load : ByteArray := prog_11_method_12_code
def yX9_load : MethodName := ⟨RX9, "load", "(III)I"⟩
abbrev cX9_joined : ByteArray := prog_11_method_13_code
def yX9_joined : MethodName := ⟨RX9, "joined", "(II)Z"⟩
abbrev cX9_ones : ByteArray := prog_11_method_14_code
def yX9_ones : MethodName := ⟨RX9, "ones", "(I)I"⟩
abbrev cX9_findSets : ByteArray := prog_11_method_15_code
def yX9_findSets : MethodName := ⟨RX9, "findSets", "(II)I"⟩
abbrev cX9_choose : ByteArray := prog_11_method_16_code
def yX9_choose : MethodName := ⟨RX9, "choose", "(II)I"⟩
abbrev cX9_power : ByteArray := prog_11_method_17_code
def yX9_power : MethodName := ⟨RX9, "power", "(II)I"⟩
abbrev cX9_unlikeLetters : ByteArray := prog_11_method_18_code
def yX9_unlikeLetters : MethodName := ⟨RX9, "unlikeLetters", "(IIII)I"⟩
abbrev cX9_may : ByteArray := prog_11_method_19_code
def yX9_may : MethodName := ⟨RX9, "may", "(III)Z"⟩
abbrev cX9_sizeOf : ByteArray := prog_11_method_20_code
def yX9_sizeOf : MethodName := ⟨RX9, "sizeOf", "(III)J"⟩
abbrev cX9_isMade : ByteArray := prog_11_method_21_code
def yX9_isMade : MethodName := ⟨RX9, "isMade", "(IIIII)Z"⟩
abbrev cX9_build : ByteArray := prog_11_method_22_code
def yX9_build : MethodName := ⟨RX9, "build", "(III)I"⟩
abbrev cX9_measureFrom : ByteArray := prog_11_method_23_code
def yX9_measureFrom : MethodName := ⟨RX9, "measureFrom", "(I)V"⟩
abbrev cX9_measure : ByteArray := prog_11_method_24_code
def yX9_measure : MethodName := ⟨RX9, "measure", "()V"⟩
abbrev cX9_isWhole : ByteArray := prog_11_method_25_code
def yX9_isWhole : MethodName := ⟨RX9, "isWhole", "()Z"⟩
abbrev cX9_way : ByteArray := prog_11_method_26_code
def yX9_way : MethodName := ⟨RX9, "way", "(II)I"⟩
abbrev cX9_fullness : ByteArray := prog_11_method_27_code
def yX9_fullness : MethodName := ⟨RX9, "fullness", "(I)I"⟩
abbrev cX9_roads : ByteArray := prog_11_method_28_code
def yX9_roads : MethodName := ⟨RX9, "roads", "()I"⟩
abbrev cX9_wayRound : ByteArray := prog_11_method_29_code
def yX9_wayRound : MethodName := ⟨RX9, "wayRound", "(II)I"⟩
abbrev cX9_round : ByteArray := prog_11_method_30_code
def yX9_round : MethodName := ⟨RX9, "round", "()I"⟩
abbrev cX9_isEven : ByteArray := prog_11_method_31_code
def yX9_isEven : MethodName := ⟨RX9, "isEven", "()Z"⟩
abbrev cX9_isOfSides : ByteArray := prog_11_method_32_code
def yX9_isOfSides : MethodName := ⟨RX9, "isOfSides", "()Z"⟩
abbrev cX9_isFar : ByteArray := prog_11_method_33_code
def yX9_isFar : MethodName := ⟨RX9, "isFar", "(II)Z"⟩
abbrev cX9_isFolded : ByteArray := prog_11_method_34_code
def yX9_isFolded : MethodName := ⟨RX9, "isFolded", "()Z"⟩
abbrev cX9_beside : ByteArray := prog_11_method_35_code
def yX9_beside : MethodName := ⟨RX9, "beside", "(III)I"⟩
abbrev cX9_isLike : ByteArray := prog_11_method_36_code
def yX9_isLike : MethodName := ⟨RX9, "isLike", "()Z"⟩
abbrev cX9_many : ByteArray := prog_11_method_37_code
def yX9_many : MethodName := ⟨RX9, "many", "(I)I"⟩
abbrev cX9_clash : ByteArray := prog_11_method_38_code
def yX9_clash : MethodName := ⟨RX9, "clash", "(I)I"⟩
abbrev cX9_atWay : ByteArray := prog_11_method_39_code
def yX9_atWay : MethodName := ⟨RX9, "atWay", "(II)I"⟩
abbrev cX9_table : ByteArray := prog_11_method_40_code
def yX9_table : MethodName := ⟨RX9, "table", "(II)I"⟩
abbrev cX9_thirds : ByteArray := prog_11_method_41_code
def yX9_thirds : MethodName := ⟨RX9, "thirds", "(IIII)I"⟩
abbrev cX9_tell : ByteArray := prog_11_method_42_code
def yX9_tell : MethodName := ⟨RX9, "tell", "(I)I"⟩
abbrev cX9_put : ByteArray := prog_11_method_43_code
def yX9_put : MethodName := ⟨RX9, "put", "(III)I"⟩
abbrev cX9_take : ByteArray := prog_11_method_44_code
def yX9_take : MethodName := ⟨RX9, "take", "()I"⟩
abbrev cX9_a : ByteArray := prog_11_method_45_code
def yX9_a : MethodName := ⟨RX9, "a", "(I)I"⟩
abbrev cX9_firstLaws : ByteArray := prog_11_method_46_code
def yX9_firstLaws : MethodName := ⟨RX9, "firstLaws", "()I"⟩
abbrev cX9_areHalves : ByteArray := prog_11_method_47_code
def yX9_areHalves : MethodName := ⟨RX9, "areHalves", "()Z"⟩
abbrev cX9_thirdAt : ByteArray := prog_11_method_48_code
def yX9_thirdAt : MethodName := ⟨RX9, "thirdAt", "(III)J"⟩
abbrev cX9_findThirds : ByteArray := prog_11_method_49_code
def yX9_findThirds : MethodName := ⟨RX9, "findThirds", "()Z"⟩
abbrev cX9_isRoot : ByteArray := prog_11_method_50_code
def yX9_isRoot : MethodName := ⟨RX9, "isRoot", "(I)Z"⟩
abbrev cX9_times : ByteArray := prog_11_method_51_code
def yX9_times : MethodName := ⟨RX9, "times", "()I"⟩
abbrev cX9_areTimesWhole : ByteArray := prog_11_method_52_code
def yX9_areTimesWhole : MethodName := ⟨RX9, "areTimesWhole", "()Z"⟩
abbrev cX9_laws : ByteArray := prog_11_method_53_code
def yX9_laws : MethodName := ⟨RX9, "laws", "()I"⟩
abbrev cX9_can : ByteArray := prog_11_method_54_code
def yX9_can : MethodName := ⟨RX9, "can", "()I"⟩
abbrev cX9_entry : ByteArray := prog_11_method_55_code
def yX9_entry : MethodName := ⟨RX9, "entry", "(II)I"⟩
abbrev cX9_posts : ByteArray := prog_11_method_56_code
def yX9_posts : MethodName := ⟨RX9, "posts", "()I"⟩
abbrev cX9_third : ByteArray := prog_11_method_57_code
def yX9_third : MethodName := ⟨RX9, "third", "(III)I"⟩
abbrev cX9_root : ByteArray := prog_11_method_58_code
def yX9_root : MethodName := ⟨RX9, "root", "(II)I"⟩
abbrev cX9_walks : ByteArray := prog_11_method_59_code
def yX9_walks : MethodName := ⟨RX9, "walks", "(II)J"⟩
abbrev cX9_bound : ByteArray := prog_11_method_60_code
def yX9_bound : MethodName := ⟨RX9, "bound", "(II)J"⟩
abbrev cX9_become : ByteArray := prog_11_method_61_code
def yX9_become : MethodName := ⟨RX9, "become", "(I)V"⟩
abbrev cX9_clearNew : ByteArray := prog_11_method_62_code
def yX9_clearNew : MethodName := ⟨RX9, "clearNew", "()V"⟩
abbrev cX9_fold : ByteArray := prog_11_method_63_code
def yX9_fold : MethodName := ⟨RX9, "fold", "()I"⟩
abbrev cX9_half : ByteArray := prog_11_method_64_code
def yX9_half : MethodName := ⟨RX9, "half", "()I"⟩
abbrev cX9_twice : ByteArray := prog_11_method_65_code
def yX9_twice : MethodName := ⟨RX9, "twice", "()I"⟩
abbrev cX9_power_ : ByteArray := prog_11_method_66_code
def yX9_power_ : MethodName := ⟨RX9, "power", "(I)I"⟩
abbrev cX9_other : ByteArray := prog_11_method_67_code
def yX9_other : MethodName := ⟨RX9, "other", "()I"⟩
abbrev cX9_lines : ByteArray := prog_11_method_68_code
def yX9_lines : MethodName := ⟨RX9, "lines", "()I"⟩
abbrev cX9_keep : ByteArray := prog_11_method_69_code
def yX9_keep : MethodName := ⟨RX9, "keep", "()I"⟩
abbrev cX9_back : ByteArray := prog_11_method_70_code
def yX9_back : MethodName := ⟨RX9, "back", "()I"⟩
abbrev cX9_findNear : ByteArray := prog_11_method_71_code
def yX9_findNear : MethodName := ⟨RX9, "findNear", "(I)V"⟩
abbrev cX9_uncovered : ByteArray := prog_11_method_72_code
def yX9_uncovered : MethodName := ⟨RX9, "uncovered", "()I"⟩
abbrev cX9_find : ByteArray := prog_11_method_73_code
def yX9_find : MethodName := ⟨RX9, "find", "(I)I"⟩
abbrev cX9_perfect : ByteArray := prog_11_method_74_code
def yX9_perfect : MethodName := ⟨RX9, "perfect", "(I)I"⟩
abbrev cX9_heap : ByteArray := prog_11_method_75_code
def yX9_heap : MethodName := ⟨RX9, "heap", "(II)I"⟩
abbrev cX9_sign : ByteArray := prog_11_method_76_code
def yX9_sign : MethodName := ⟨RX9, "sign", "(II)V"⟩
abbrev cX9_areAlike : ByteArray := prog_11_method_77_code
def yX9_areAlike : MethodName := ⟨RX9, "areAlike", "(II)Z"⟩
abbrev cX9_partOnce : ByteArray := prog_11_method_78_code
def yX9_partOnce : MethodName := ⟨RX9, "partOnce", "()I"⟩
abbrev cX9_findKinds : ByteArray := prog_11_method_79_code
def yX9_findKinds : MethodName := ⟨RX9, "findKinds", "()V"⟩
abbrev cX9_kinds : ByteArray := prog_11_method_80_code
def yX9_kinds : MethodName := ⟨RX9, "kinds", "()I"⟩
abbrev cX9_kind : ByteArray := prog_11_method_81_code
def yX9_kind : MethodName := ⟨RX9, "kind", "(II)I"⟩
def RJ6 : String := "java/lang/Integer"
def TJ6 : u_T := fun k => match k with
  | _ => ("", "", "", false)
def tyJ6 : Nat → FieldType := fun k => match k with
  | _ => .int
abbrev wsJ60 : List Cond := u_ws RJ6 TJ6 0
theorem nmJ6 : ∀ a, a < 0 → ∀ b, b < 0 → a ≠ b → (TJ6 a).2.1 ≠ (TJ6 b).2.1 := by decide +kernel
theorem tyJ6_ok : ∀ k, k < 0 → parseFieldDescriptor (TJ6 k).2.2.1 = some (tyJ6 k) := by decide +kernel
abbrev cJ6_bitCount_0f7a4 : ByteArray := prog_12_method_49_code
def yJ6_bitCount_0f7a4 : MethodName := ⟨RJ6, "bitCount", "(I)I"⟩
def RJ13 : String := "java/lang/Long"
def TJ13 : u_T := fun k => match k with
  | _ => ("", "", "", false)
def tyJ13 : Nat → FieldType := fun k => match k with
  | _ => .int
abbrev wsJ130 : List Cond := u_ws RJ13 TJ13 0
theorem nmJ13 : ∀ a, a < 0 → ∀ b, b < 0 → a ≠ b → (TJ13 a).2.1 ≠ (TJ13 b).2.1 := by decide +kernel
theorem tyJ13_ok : ∀ k, k < 0 → parseFieldDescriptor (TJ13 k).2.2.1 = some (tyJ13 k) := by decide +kernel
abbrev cJ13_bitCount_95d88 : ByteArray := prog_13_method_50_code
def yJ13_bitCount_95d88 : MethodName := ⟨RJ13, "bitCount", "(J)I"⟩
def RJ9 : String := "java/lang/Math"
def TJ9 : u_T := fun k => match k with
  | _ => ("", "", "", false)
def tyJ9 : Nat → FieldType := fun k => match k with
  | _ => .int
abbrev wsJ90 : List Cond := u_ws RJ9 TJ9 0
theorem nmJ9 : ∀ a, a < 0 → ∀ b, b < 0 → a ≠ b → (TJ9 a).2.1 ≠ (TJ9 b).2.1 := by decide +kernel
theorem tyJ9_ok : ∀ k, k < 0 → parseFieldDescriptor (TJ9 k).2.2.1 = some (tyJ9 k) := by decide +kernel
abbrev cJ9_max_7cf53 : ByteArray := prog_14_method_65_code
def yJ9_max_7cf53 : MethodName := ⟨RJ9, "max", "(II)I"⟩
def RJ10 : String := "java/lang/System"
def TJ10 : u_T := fun k => match k with
  | _ => ("", "", "", false)
def tyJ10 : Nat → FieldType := fun k => match k with
  | _ => .int
abbrev wsJ100 : List Cond := u_ws RJ10 TJ10 0
theorem nmJ10 : ∀ a, a < 0 → ∀ b, b < 0 → a ≠ b → (TJ10 a).2.1 ≠ (TJ10 b).2.1 := by decide +kernel
theorem tyJ10_ok : ∀ k, k < 0 → parseFieldDescriptor (TJ10 k).2.2.1 = some (tyJ10 k) := by decide +kernel
def RJ7 : String := "java/util/Arrays"
def TJ7 : u_T := fun k => match k with
  | _ => ("", "", "", false)
def tyJ7 : Nat → FieldType := fun k => match k with
  | _ => .int
abbrev wsJ70 : List Cond := u_ws RJ7 TJ7 0
theorem nmJ7 : ∀ a, a < 0 → ∀ b, b < 0 → a ≠ b → (TJ7 a).2.1 ≠ (TJ7 b).2.1 := by decide +kernel
theorem tyJ7_ok : ∀ k, k < 0 → parseFieldDescriptor (TJ7 k).2.2.1 = some (tyJ7 k) := by decide +kernel
abbrev cJ7_fill_d0a16 : ByteArray := prog_16_method_101_code
def yJ7_fill_d0a16 : MethodName := ⟨RJ7, "fill", "([JJ)V"⟩
abbrev cJ7_fill_53178 : ByteArray := prog_16_method_103_code
def yJ7_fill_53178 : MethodName := ⟨RJ7, "fill", "([II)V"⟩
def RL : String := "LikeNetsLaw"
abbrev cL_law : ByteArray := code
def yL_law : MethodName := ⟨RL, "law", "([I)Z"⟩
def wsX0_init : List Cond := .code yX0_init cX0_init 1 none :: ([.methodLink RX0 3 objectInit, .instanceMethod objectInit, .code objectInit ⟨#[0xb1]⟩ 1 none, .arrayClass .int, .fieldLink RX0 9 "LikeNets$Likeness" "c" "[I", .fieldLink RX0 15 "LikeNets$Likeness" "a" "[I", .fieldLink RX0 18 "LikeNets$Likeness" "b" "[I"] ++ wsX00)
def wsJ7_fill_53178 : List Cond := .code yJ7_fill_53178 cJ7_fill_53178 4 none :: ([])
def wsX7_between : List Cond := .code yX7_between cX7_between 3 (some .int) :: ([.fieldLink RX7 9 "LikeNets$Ways" "steps" "[I"] ++ wsX70)
def wsX7_postsAt : List Cond := .code yX7_postsAt cX7_postsAt 3 (some .int) :: ([.fieldLink RX7 15 "LikeNets$Ways" "layers" "[I"] ++ wsX70)
def wsJ6_bitCount_0f7a4 : List Cond := .code yJ6_bitCount_0f7a4 cJ6_bitCount_0f7a4 1 (some .int) :: ([.constant RJ6 265 (1431655765), .constant RJ6 266 (858993459), .constant RJ6 267 (252645135)])
def wsX0_fits : List Cond := .code yX0_fits cX0_fits 9 (some .boolean) :: ([.fieldLink RX0 59 "LikeNets$Net" "near" "[I", .fieldLink RX0 9 "LikeNets$Likeness" "c" "[I", .fieldLink RX0 15 "LikeNets$Likeness" "a" "[I", .fieldLink RX0 18 "LikeNets$Likeness" "b" "[I", .methodLink RX0 55 yX7_between, .instanceMethod yX7_between, .selects RX7 yX7_between yX7_between, .initialized RX7, .code yX7_between cX7_between 3 (some .int), .fieldLink RX7 9 "LikeNets$Ways" "steps" "[I", .methodLink RX0 62 yX7_postsAt, .instanceMethod yX7_postsAt, .selects RX7 yX7_postsAt yX7_postsAt, .code yX7_postsAt cX7_postsAt 3 (some .int), .fieldLink RX7 15 "LikeNets$Ways" "layers" "[I", .methodLink RX0 65 yJ6_bitCount_0f7a4, .static yJ6_bitCount_0f7a4, .initialized RJ6, .code yJ6_bitCount_0f7a4 cJ6_bitCount_0f7a4 1 (some .int), .constant RJ6 265 (1431655765), .constant RJ6 266 (858993459), .constant RJ6 267 (252645135)] ++ wsX20 ++ wsX00 ++ wsX70)
def wsX0_look_r1 : List Cond := [Cond.fieldLink RX0 21 "LikeNets$Likeness" "ready" "Z", Cond.fieldLink RX0 25 "LikeNets$Ways" "whole" "Z", Cond.fieldLink RX0 30 "LikeNets$Likeness" "holds" "Z", Cond.fieldLink RX0 9 "LikeNets$Likeness" "c" "[I", Cond.fieldLink RX0 39 "LikeNets$Net" "size" "I", Cond.fieldLink RX0 49 "LikeNets$Likeness" "clashFrom" "I", Cond.fieldLink RX0 52 "LikeNets$Likeness" "clashTo" "I", Cond.methodLink RX0 33 yJ7_fill_53178, Cond.static yJ7_fill_53178, Cond.initialized RJ7, Cond.code yJ7_fill_53178 cJ7_fill_53178 4 none, Cond.methodLink RX0 45 yX0_fits, Cond.instanceMethod yX0_fits, Cond.selects RX0 yX0_fits yX0_fits, Cond.initialized RX0, Cond.code yX0_fits cX0_fits 9 (some .boolean), Cond.fieldLink RX0 59 "LikeNets$Net" "near" "[I", Cond.fieldLink RX0 15 "LikeNets$Likeness" "a" "[I", Cond.fieldLink RX0 18 "LikeNets$Likeness" "b" "[I", Cond.methodLink RX0 55 yX7_between, Cond.instanceMethod yX7_between, Cond.selects RX7 yX7_between yX7_between, Cond.initialized RX7, Cond.code yX7_between cX7_between 3 (some .int)]
def wsX0_look_r2 : List Cond := [Cond.fieldLink RX7 9 "LikeNets$Ways" "steps" "[I", Cond.methodLink RX0 62 yX7_postsAt, Cond.instanceMethod yX7_postsAt, Cond.selects RX7 yX7_postsAt yX7_postsAt, Cond.code yX7_postsAt cX7_postsAt 3 (some .int), Cond.fieldLink RX7 15 "LikeNets$Ways" "layers" "[I", Cond.methodLink RX0 65 yJ6_bitCount_0f7a4, Cond.static yJ6_bitCount_0f7a4, Cond.initialized RJ6, Cond.code yJ6_bitCount_0f7a4 cJ6_bitCount_0f7a4 1 (some .int), Cond.constant RJ6 265 (1431655765), Cond.constant RJ6 266 (858993459), Cond.constant RJ6 267 (252645135)]
def wsX0_look : List Cond := .code yX0_look cX0_look 5 none :: ((wsX0_look_r1 ++ wsX0_look_r2) ++ wsX00 ++ wsX70 ++ wsX20)
def wsX0_isAtMost : List Cond := .code yX0_isAtMost cX0_isAtMost 4 (some .boolean) :: ([.fieldLink RX0 18 "LikeNets$Likeness" "b" "[I", .fieldLink RX0 9 "LikeNets$Likeness" "c" "[I"] ++ wsX00)
def wsX1_init : List Cond := .code yX1_init cX1_init 1 none :: ([.methodLink RX1 3 objectInit, .instanceMethod objectInit, .code objectInit ⟨#[0xb1]⟩ 1 none, .arrayClass .int, .fieldLink RX1 9 "LikeNets$Makings" "sets" "[I"] ++ wsX10)
def wsX1_mayBe : List Cond := .code yX1_mayBe cX1_mayBe 3 (some .boolean) :: ([])
def wsX1_countWords : List Cond := .code yX1_countWords cX1_countWords 5 (some .long) :: ([.constantLong RX1 22 (32)])
def wsX1_countSets : List Cond := .code yX1_countSets cX1_countSets 5 (some .long) :: ([])
def wsX1_size : List Cond := .code yX1_size cX1_size 3 (some .long) :: ([.methodLink RX1 15 yX1_countWords, .static yX1_countWords, .initialized RX1, .code yX1_countWords cX1_countWords 5 (some .long), .constantLong RX1 22 (32), .methodLink RX1 19 yX1_countSets, .static yX1_countSets, .code yX1_countSets cX1_countSets 5 (some .long)])
def wsX1_unlikeLetters : List Cond := .code yX1_unlikeLetters cX1_unlikeLetters 7 (some .int) :: ([])
def wsX2_has : List Cond := .code yX2_has cX2_has 2 (some .boolean) :: ([.fieldLink RX2 15 "LikeNets$Net" "size" "I"] ++ wsX20)
def wsX2_mayJoin : List Cond := .code yX2_mayJoin cX2_mayJoin 3 (some .boolean) :: ([.methodLink RX2 31 yX2_has, .instanceMethod yX2_has, .selects RX2 yX2_has yX2_has, .initialized RX2, .code yX2_has cX2_has 2 (some .boolean), .fieldLink RX2 15 "LikeNets$Net" "size" "I"] ++ wsX20)
def wsX2_join : List Cond := .code yX2_join cX2_join 3 none :: ([.fieldLink RX2 9 "LikeNets$Net" "near" "[I", .methodLink RX2 39 yX2_mayJoin, .instanceMethod yX2_mayJoin, .selects RX2 yX2_mayJoin yX2_mayJoin, .initialized RX2, .code yX2_mayJoin cX2_mayJoin 3 (some .boolean), .methodLink RX2 31 yX2_has, .instanceMethod yX2_has, .selects RX2 yX2_has yX2_has, .code yX2_has cX2_has 2 (some .boolean), .fieldLink RX2 15 "LikeNets$Net" "size" "I"] ++ wsX20)
def wsX1_layWords : List Cond := .code yX1_layWords cX1_layWords 4 none :: ([.fieldLink RX1 28 "LikeNets$Net" "size" "I", .methodLink RX1 42 yX1_unlikeLetters, .static yX1_unlikeLetters, .initialized RX1, .code yX1_unlikeLetters cX1_unlikeLetters 7 (some .int), .methodLink RX1 46 yX2_join, .instanceMethod yX2_join, .selects RX2 yX2_join yX2_join, .initialized RX2, .code yX2_join cX2_join 3 none, .fieldLink RX2 9 "LikeNets$Net" "near" "[I", .methodLink RX2 39 yX2_mayJoin, .instanceMethod yX2_mayJoin, .selects RX2 yX2_mayJoin yX2_mayJoin, .code yX2_mayJoin cX2_mayJoin 3 (some .boolean), .methodLink RX2 31 yX2_has, .instanceMethod yX2_has, .selects RX2 yX2_has yX2_has, .code yX2_has cX2_has 2 (some .boolean), .fieldLink RX2 15 "LikeNets$Net" "size" "I"] ++ wsX20)
def wsJ13_bitCount_95d88 : List Cond := .code yJ13_bitCount_95d88 cJ13_bitCount_95d88 2 (some .int) :: ([.constantLong RJ13 314 (6148914691236517205), .constantLong RJ13 316 (3689348814741910323), .constantLong RJ13 318 (1085102592571150095)])
def wsX1_nextSet : List Cond := .code yX1_nextSet cX1_nextSet 6 (some .long) :: ([.methodLink RX1 53 yJ13_bitCount_95d88, .static yJ13_bitCount_95d88, .initialized RJ13, .code yJ13_bitCount_95d88 cJ13_bitCount_95d88 2 (some .int), .constantLong RJ13 314 (6148914691236517205), .constantLong RJ13 316 (3689348814741910323), .constantLong RJ13 318 (1085102592571150095)])
def wsX1_listSets : List Cond := .code yX1_listSets cX1_listSets 6 none :: ([.fieldLink RX1 9 "LikeNets$Makings" "sets" "[I", .methodLink RX1 49 yX1_nextSet, .static yX1_nextSet, .initialized RX1, .code yX1_nextSet cX1_nextSet 6 (some .long), .methodLink RX1 53 yJ13_bitCount_95d88, .static yJ13_bitCount_95d88, .initialized RJ13, .code yJ13_bitCount_95d88 cJ13_bitCount_95d88 2 (some .int), .constantLong RJ13 314 (6148914691236517205), .constantLong RJ13 316 (3689348814741910323), .constantLong RJ13 318 (1085102592571150095)] ++ wsX10)
def wsX1_isRoad : List Cond := .code yX1_isRoad cX1_isRoad 6 (some .boolean) :: ([.fieldLink RX1 9 "LikeNets$Makings" "sets" "[I", .methodLink RX1 63 yJ6_bitCount_0f7a4, .static yJ6_bitCount_0f7a4, .initialized RJ6, .code yJ6_bitCount_0f7a4 cJ6_bitCount_0f7a4 1 (some .int), .constant RJ6 265 (1431655765), .constant RJ6 266 (858993459), .constant RJ6 267 (252645135)] ++ wsX10)
def wsX1_layPairs_r1 : List Cond := [Cond.fieldLink RX1 28 "LikeNets$Net" "size" "I", Cond.methodLink RX1 59 yX1_isRoad, Cond.instanceMethod yX1_isRoad, Cond.selects RX1 yX1_isRoad yX1_isRoad, Cond.initialized RX1, Cond.code yX1_isRoad cX1_isRoad 6 (some .boolean), Cond.fieldLink RX1 9 "LikeNets$Makings" "sets" "[I", Cond.methodLink RX1 63 yJ6_bitCount_0f7a4, Cond.static yJ6_bitCount_0f7a4, Cond.initialized RJ6, Cond.code yJ6_bitCount_0f7a4 cJ6_bitCount_0f7a4 1 (some .int), Cond.constant RJ6 265 (1431655765), Cond.constant RJ6 266 (858993459), Cond.constant RJ6 267 (252645135), Cond.methodLink RX1 46 yX2_join, Cond.instanceMethod yX2_join, Cond.selects RX2 yX2_join yX2_join, Cond.initialized RX2, Cond.code yX2_join cX2_join 3 none, Cond.fieldLink RX2 9 "LikeNets$Net" "near" "[I", Cond.methodLink RX2 39 yX2_mayJoin, Cond.instanceMethod yX2_mayJoin, Cond.selects RX2 yX2_mayJoin yX2_mayJoin, Cond.code yX2_mayJoin cX2_mayJoin 3 (some .boolean)]
def wsX1_layPairs_r2 : List Cond := [Cond.methodLink RX2 31 yX2_has, Cond.instanceMethod yX2_has, Cond.selects RX2 yX2_has yX2_has, Cond.code yX2_has cX2_has 2 (some .boolean), Cond.fieldLink RX2 15 "LikeNets$Net" "size" "I"]
def wsX1_layPairs : List Cond := .code yX1_layPairs cX1_layPairs 6 none :: ((wsX1_layPairs_r1 ++ wsX1_layPairs_r2) ++ wsX20 ++ wsX10)
def wsX1_lay_r1 : List Cond := [Cond.fieldLink RX1 28 "LikeNets$Net" "size" "I", Cond.methodLink RX1 24 yX1_layWords, Cond.static yX1_layWords, Cond.initialized RX1, Cond.code yX1_layWords cX1_layWords 4 none, Cond.methodLink RX1 42 yX1_unlikeLetters, Cond.static yX1_unlikeLetters, Cond.code yX1_unlikeLetters cX1_unlikeLetters 7 (some .int), Cond.methodLink RX1 46 yX2_join, Cond.instanceMethod yX2_join, Cond.selects RX2 yX2_join yX2_join, Cond.initialized RX2, Cond.code yX2_join cX2_join 3 none, Cond.fieldLink RX2 9 "LikeNets$Net" "near" "[I", Cond.methodLink RX2 39 yX2_mayJoin, Cond.instanceMethod yX2_mayJoin, Cond.selects RX2 yX2_mayJoin yX2_mayJoin, Cond.code yX2_mayJoin cX2_mayJoin 3 (some .boolean), Cond.methodLink RX2 31 yX2_has, Cond.instanceMethod yX2_has, Cond.selects RX2 yX2_has yX2_has, Cond.code yX2_has cX2_has 2 (some .boolean), Cond.fieldLink RX2 15 "LikeNets$Net" "size" "I", Cond.methodLink RX1 34 yX1_listSets]
def wsX1_lay_r2 : List Cond := [Cond.instanceMethod yX1_listSets, Cond.selects RX1 yX1_listSets yX1_listSets, Cond.code yX1_listSets cX1_listSets 6 none, Cond.fieldLink RX1 9 "LikeNets$Makings" "sets" "[I", Cond.methodLink RX1 49 yX1_nextSet, Cond.static yX1_nextSet, Cond.code yX1_nextSet cX1_nextSet 6 (some .long), Cond.methodLink RX1 53 yJ13_bitCount_95d88, Cond.static yJ13_bitCount_95d88, Cond.initialized RJ13, Cond.code yJ13_bitCount_95d88 cJ13_bitCount_95d88 2 (some .int), Cond.constantLong RJ13 314 (6148914691236517205), Cond.constantLong RJ13 316 (3689348814741910323), Cond.constantLong RJ13 318 (1085102592571150095), Cond.methodLink RX1 38 yX1_layPairs, Cond.instanceMethod yX1_layPairs, Cond.selects RX1 yX1_layPairs yX1_layPairs, Cond.code yX1_layPairs cX1_layPairs 6 none, Cond.methodLink RX1 59 yX1_isRoad, Cond.instanceMethod yX1_isRoad, Cond.selects RX1 yX1_isRoad yX1_isRoad, Cond.code yX1_isRoad cX1_isRoad 6 (some .boolean), Cond.methodLink RX1 63 yJ6_bitCount_0f7a4, Cond.static yJ6_bitCount_0f7a4]
def wsX1_lay_r3 : List Cond := [Cond.initialized RJ6, Cond.code yJ6_bitCount_0f7a4 cJ6_bitCount_0f7a4 1 (some .int), Cond.constant RJ6 265 (1431655765), Cond.constant RJ6 266 (858993459), Cond.constant RJ6 267 (252645135)]
def wsX1_lay : List Cond := .code yX1_lay cX1_lay 5 none :: ((wsX1_lay_r1 ++ (wsX1_lay_r2 ++ wsX1_lay_r3)) ++ wsX20 ++ wsX10)
def wsX2_init : List Cond := .code yX2_init cX2_init 1 none :: ([.methodLink RX2 3 objectInit, .instanceMethod objectInit, .code objectInit ⟨#[0xb1]⟩ 1 none, .arrayClass .int, .fieldLink RX2 9 "LikeNets$Net" "near" "[I"] ++ wsX20)
def wsX2_empty : List Cond := .code yX2_empty cX2_empty 2 none :: ([.fieldLink RX2 15 "LikeNets$Net" "size" "I", .fieldLink RX2 9 "LikeNets$Net" "near" "[I", .methodLink RX2 19 yJ7_fill_53178, .static yJ7_fill_53178, .initialized RJ7, .code yJ7_fill_53178 cJ7_fill_53178 4 none] ++ wsX20)
def wsX2_copyFrom : List Cond := .code yX2_copyFrom cX2_copyFrom 2 none :: ([.fieldLink RX2 15 "LikeNets$Net" "size" "I", .fieldLink RX2 9 "LikeNets$Net" "near" "[I", .methodLink RX2 25 arraycopyName, .native arraycopyName, .static arraycopyName, .initialized "java/lang/System"] ++ wsX20)
def wsX8_isIn : List Cond := .code yX8_isIn cX8_isIn 2 (some .boolean) :: ([])
def wsX2_areJoined : List Cond := .code yX2_areJoined cX2_areJoined 3 (some .boolean) :: ([.fieldLink RX2 9 "LikeNets$Net" "near" "[I", .methodLink RX2 31 yX2_has, .instanceMethod yX2_has, .selects RX2 yX2_has yX2_has, .initialized RX2, .code yX2_has cX2_has 2 (some .boolean), .fieldLink RX2 15 "LikeNets$Net" "size" "I", .static yX8_isIn, .initialized RX8, .code yX8_isIn cX8_isIn 2 (some .boolean)] ++ wsX20)
def wsX2_part : List Cond := .code yX2_part cX2_part 3 none :: ([.fieldLink RX2 9 "LikeNets$Net" "near" "[I", .methodLink RX2 39 yX2_mayJoin, .instanceMethod yX2_mayJoin, .selects RX2 yX2_mayJoin yX2_mayJoin, .initialized RX2, .code yX2_mayJoin cX2_mayJoin 3 (some .boolean), .methodLink RX2 31 yX2_has, .instanceMethod yX2_has, .selects RX2 yX2_has yX2_has, .code yX2_has cX2_has 2 (some .boolean), .fieldLink RX2 15 "LikeNets$Net" "size" "I"] ++ wsX20)
def wsX2_fullness : List Cond := .code yX2_fullness cX2_fullness 2 (some .int) :: ([.fieldLink RX2 9 "LikeNets$Net" "near" "[I", .methodLink RX2 42 yJ6_bitCount_0f7a4, .static yJ6_bitCount_0f7a4, .initialized RJ6, .code yJ6_bitCount_0f7a4 cJ6_bitCount_0f7a4 1 (some .int), .constant RJ6 265 (1431655765), .constant RJ6 266 (858993459), .constant RJ6 267 (252645135)] ++ wsX20)
def wsX2_roads : List Cond := .code yX2_roads cX2_roads 3 (some .int) :: ([.fieldLink RX2 15 "LikeNets$Net" "size" "I", .methodLink RX2 48 yX2_fullness, .instanceMethod yX2_fullness, .selects RX2 yX2_fullness yX2_fullness, .initialized RX2, .code yX2_fullness cX2_fullness 2 (some .int), .fieldLink RX2 9 "LikeNets$Net" "near" "[I", .methodLink RX2 42 yJ6_bitCount_0f7a4, .static yJ6_bitCount_0f7a4, .initialized RJ6, .code yJ6_bitCount_0f7a4 cJ6_bitCount_0f7a4 1 (some .int), .constant RJ6 265 (1431655765), .constant RJ6 266 (858993459), .constant RJ6 267 (252645135)] ++ wsX20)
def wsX2_isEven : List Cond := .code yX2_isEven cX2_isEven 2 (some .boolean) :: ([.fieldLink RX2 15 "LikeNets$Net" "size" "I", .methodLink RX2 48 yX2_fullness, .instanceMethod yX2_fullness, .selects RX2 yX2_fullness yX2_fullness, .initialized RX2, .code yX2_fullness cX2_fullness 2 (some .int), .fieldLink RX2 9 "LikeNets$Net" "near" "[I", .methodLink RX2 42 yJ6_bitCount_0f7a4, .static yJ6_bitCount_0f7a4, .initialized RJ6, .code yJ6_bitCount_0f7a4 cJ6_bitCount_0f7a4 1 (some .int), .constant RJ6 265 (1431655765), .constant RJ6 266 (858993459), .constant RJ6 267 (252645135)] ++ wsX20)
def wsX2_around : List Cond := .code yX2_around cX2_around 4 (some .int) :: ([.fieldLink RX2 15 "LikeNets$Net" "size" "I", .fieldLink RX2 9 "LikeNets$Net" "near" "[I", .static yX8_isIn, .initialized RX8, .code yX8_isIn cX8_isIn 2 (some .boolean)] ++ wsX20)
def wsX3_init : List Cond := .code yX3_init cX3_init 1 none :: ([.methodLink RX3 3 objectInit, .instanceMethod objectInit, .code objectInit ⟨#[0xb1]⟩ 1 none, .arrayClass .int, .fieldLink RX3 9 "LikeNets$Pairs" "sorts" "[I", .fieldLink RX3 15 "LikeNets$Pairs" "parted" "[I", .fieldLink RX3 18 "LikeNets$Pairs" "firsts" "[I", .fieldLink RX3 21 "LikeNets$Pairs" "heads" "[I", .fieldLink RX3 24 "LikeNets$Pairs" "nexts" "[I", .arrayClass .long, .fieldLink RX3 27 "LikeNets$Pairs" "sums" "[J", .fieldLink RX3 31 "LikeNets$Pairs" "keys" "[I", .fieldLink RX3 34 "LikeNets$Pairs" "otherKeys" "[I"] ++ wsX30)
def wsX3_of : List Cond := .code yX3_of cX3_of 3 (some .int) :: ([.fieldLink RX3 9 "LikeNets$Pairs" "sorts" "[I"] ++ wsX30)
def wsX3_begin : List Cond := .code yX3_begin cX3_begin 8 none :: ([.fieldLink RX3 52 "LikeNets$Pairs" "count" "I", .fieldLink RX3 47 "LikeNets$Pairs" "size" "I", .fieldLink RX3 9 "LikeNets$Pairs" "sorts" "[I", .methodLink RX3 59 yX2_areJoined, .instanceMethod yX2_areJoined, .selects RX2 yX2_areJoined yX2_areJoined, .initialized RX2, .code yX2_areJoined cX2_areJoined 3 (some .boolean), .fieldLink RX2 9 "LikeNets$Net" "near" "[I", .methodLink RX2 31 yX2_has, .instanceMethod yX2_has, .selects RX2 yX2_has yX2_has, .code yX2_has cX2_has 2 (some .boolean), .fieldLink RX2 15 "LikeNets$Net" "size" "I", .static yX8_isIn, .initialized RX8, .code yX8_isIn cX8_isIn 2 (some .boolean)] ++ wsX30 ++ wsX20)
def wsX3_keyOf : List Cond := .code yX3_keyOf cX3_keyOf 4 (some .int) :: ([.fieldLink RX3 9 "LikeNets$Pairs" "sorts" "[I"] ++ wsX30)
def wsX3_stir : List Cond := .code yX3_stir cX3_stir 3 (some .long) :: ([.constantLong RX3 98 (-7046029254386353131)])
def wsX3_sumOf : List Cond := .code yX3_sumOf cX3_sumOf 6 (some .long) :: ([.fieldLink RX3 47 "LikeNets$Pairs" "size" "I", .methodLink RX3 90 yX3_keyOf, .instanceMethod yX3_keyOf, .selects RX3 yX3_keyOf yX3_keyOf, .initialized RX3, .code yX3_keyOf cX3_keyOf 4 (some .int), .fieldLink RX3 9 "LikeNets$Pairs" "sorts" "[I", .methodLink RX3 94 yX3_stir, .static yX3_stir, .code yX3_stir cX3_stir 3 (some .long), .constantLong RX3 98 (-7046029254386353131)] ++ wsX30)
def wsX3_gather : List Cond := .code yX3_gather cX3_gather 8 none :: ([.fieldLink RX3 47 "LikeNets$Pairs" "size" "I", .methodLink RX3 90 yX3_keyOf, .instanceMethod yX3_keyOf, .selects RX3 yX3_keyOf yX3_keyOf, .initialized RX3, .code yX3_keyOf cX3_keyOf 4 (some .int), .fieldLink RX3 9 "LikeNets$Pairs" "sorts" "[I"] ++ wsX30)
def wsX3_isAlike : List Cond := .code yX3_isAlike cX3_isAlike 4 (some .boolean) :: ([.fieldLink RX3 31 "LikeNets$Pairs" "keys" "[I", .fieldLink RX3 34 "LikeNets$Pairs" "otherKeys" "[I", .fieldLink RX3 47 "LikeNets$Pairs" "size" "I", .methodLink RX3 100 yX3_gather, .instanceMethod yX3_gather, .selects RX3 yX3_gather yX3_gather, .initialized RX3, .code yX3_gather cX3_gather 8 none, .methodLink RX3 90 yX3_keyOf, .instanceMethod yX3_keyOf, .selects RX3 yX3_keyOf yX3_keyOf, .code yX3_keyOf cX3_keyOf 4 (some .int), .fieldLink RX3 9 "LikeNets$Pairs" "sorts" "[I"] ++ wsX30)
def wsX3_match : List Cond := .code yX3_match cX3_match 7 (some .int) :: ([.fieldLink RX3 21 "LikeNets$Pairs" "heads" "[I", .fieldLink RX3 9 "LikeNets$Pairs" "sorts" "[I", .fieldLink RX3 27 "LikeNets$Pairs" "sums" "[J", .fieldLink RX3 18 "LikeNets$Pairs" "firsts" "[I", .fieldLink RX3 24 "LikeNets$Pairs" "nexts" "[I", .methodLink RX3 87 yX3_isAlike, .instanceMethod yX3_isAlike, .selects RX3 yX3_isAlike yX3_isAlike, .initialized RX3, .code yX3_isAlike cX3_isAlike 4 (some .boolean), .fieldLink RX3 31 "LikeNets$Pairs" "keys" "[I", .fieldLink RX3 34 "LikeNets$Pairs" "otherKeys" "[I", .fieldLink RX3 47 "LikeNets$Pairs" "size" "I", .methodLink RX3 100 yX3_gather, .instanceMethod yX3_gather, .selects RX3 yX3_gather yX3_gather, .code yX3_gather cX3_gather 8 none, .methodLink RX3 90 yX3_keyOf, .instanceMethod yX3_keyOf, .selects RX3 yX3_keyOf yX3_keyOf, .code yX3_keyOf cX3_keyOf 4 (some .int)] ++ wsX30)
def wsX3_open : List Cond := .code yX3_open cX3_open 5 (some .int) :: ([.fieldLink RX3 52 "LikeNets$Pairs" "count" "I", .fieldLink RX3 18 "LikeNets$Pairs" "firsts" "[I", .fieldLink RX3 27 "LikeNets$Pairs" "sums" "[J", .fieldLink RX3 24 "LikeNets$Pairs" "nexts" "[I", .fieldLink RX3 21 "LikeNets$Pairs" "heads" "[I", .fieldLink RX3 9 "LikeNets$Pairs" "sorts" "[I"] ++ wsX30)
def wsX3_refine_r1 : List Cond := [Cond.fieldLink RX3 21 "LikeNets$Pairs" "heads" "[I", Cond.fieldLink RX3 52 "LikeNets$Pairs" "count" "I", Cond.fieldLink RX3 47 "LikeNets$Pairs" "size" "I", Cond.fieldLink RX3 15 "LikeNets$Pairs" "parted" "[I", Cond.fieldLink RX3 9 "LikeNets$Pairs" "sorts" "[I", Cond.methodLink RX3 81 arraycopyName, Cond.native arraycopyName, Cond.static arraycopyName, Cond.initialized "java/lang/System", Cond.methodLink RX3 63 yJ7_fill_53178, Cond.static yJ7_fill_53178, Cond.initialized RJ7, Cond.code yJ7_fill_53178 cJ7_fill_53178 4 none, Cond.methodLink RX3 69 yX3_sumOf, Cond.instanceMethod yX3_sumOf, Cond.selects RX3 yX3_sumOf yX3_sumOf, Cond.initialized RX3, Cond.code yX3_sumOf cX3_sumOf 6 (some .long), Cond.methodLink RX3 90 yX3_keyOf, Cond.instanceMethod yX3_keyOf, Cond.selects RX3 yX3_keyOf yX3_keyOf, Cond.code yX3_keyOf cX3_keyOf 4 (some .int), Cond.methodLink RX3 94 yX3_stir, Cond.static yX3_stir]
def wsX3_refine_r2 : List Cond := [Cond.code yX3_stir cX3_stir 3 (some .long), Cond.constantLong RX3 98 (-7046029254386353131), Cond.methodLink RX3 73 yX3_match, Cond.instanceMethod yX3_match, Cond.selects RX3 yX3_match yX3_match, Cond.code yX3_match cX3_match 7 (some .int), Cond.fieldLink RX3 27 "LikeNets$Pairs" "sums" "[J", Cond.fieldLink RX3 18 "LikeNets$Pairs" "firsts" "[I", Cond.fieldLink RX3 24 "LikeNets$Pairs" "nexts" "[I", Cond.methodLink RX3 87 yX3_isAlike, Cond.instanceMethod yX3_isAlike, Cond.selects RX3 yX3_isAlike yX3_isAlike, Cond.code yX3_isAlike cX3_isAlike 4 (some .boolean), Cond.fieldLink RX3 31 "LikeNets$Pairs" "keys" "[I", Cond.fieldLink RX3 34 "LikeNets$Pairs" "otherKeys" "[I", Cond.methodLink RX3 100 yX3_gather, Cond.instanceMethod yX3_gather, Cond.selects RX3 yX3_gather yX3_gather, Cond.code yX3_gather cX3_gather 8 none, Cond.methodLink RX3 77 yX3_open, Cond.instanceMethod yX3_open, Cond.selects RX3 yX3_open yX3_open, Cond.code yX3_open cX3_open 5 (some .int)]
def wsX3_refine : List Cond := .code yX3_refine cX3_refine 8 none :: ((wsX3_refine_r1 ++ wsX3_refine_r2) ++ wsX30)
def wsX3_tellApart_r1 : List Cond := [Cond.fieldLink RX3 37 "LikeNets$Pairs" "ready" "Z", Cond.fieldLink RX3 41 "LikeNets$Net" "size" "I", Cond.fieldLink RX3 47 "LikeNets$Pairs" "size" "I", Cond.fieldLink RX3 52 "LikeNets$Pairs" "count" "I", Cond.methodLink RX3 48 yX3_begin, Cond.instanceMethod yX3_begin, Cond.selects RX3 yX3_begin yX3_begin, Cond.initialized RX3, Cond.code yX3_begin cX3_begin 8 none, Cond.fieldLink RX3 9 "LikeNets$Pairs" "sorts" "[I", Cond.methodLink RX3 59 yX2_areJoined, Cond.instanceMethod yX2_areJoined, Cond.selects RX2 yX2_areJoined yX2_areJoined, Cond.initialized RX2, Cond.code yX2_areJoined cX2_areJoined 3 (some .boolean), Cond.fieldLink RX2 9 "LikeNets$Net" "near" "[I", Cond.methodLink RX2 31 yX2_has, Cond.instanceMethod yX2_has, Cond.selects RX2 yX2_has yX2_has, Cond.code yX2_has cX2_has 2 (some .boolean), Cond.fieldLink RX2 15 "LikeNets$Net" "size" "I", Cond.static yX8_isIn, Cond.initialized RX8, Cond.code yX8_isIn cX8_isIn 2 (some .boolean)]
def wsX3_tellApart_r2 : List Cond := [Cond.methodLink RX3 55 yX3_refine, Cond.instanceMethod yX3_refine, Cond.selects RX3 yX3_refine yX3_refine, Cond.code yX3_refine cX3_refine 8 none, Cond.fieldLink RX3 21 "LikeNets$Pairs" "heads" "[I", Cond.fieldLink RX3 15 "LikeNets$Pairs" "parted" "[I", Cond.methodLink RX3 81 arraycopyName, Cond.native arraycopyName, Cond.static arraycopyName, Cond.initialized "java/lang/System", Cond.methodLink RX3 63 yJ7_fill_53178, Cond.static yJ7_fill_53178, Cond.initialized RJ7, Cond.code yJ7_fill_53178 cJ7_fill_53178 4 none, Cond.methodLink RX3 69 yX3_sumOf, Cond.instanceMethod yX3_sumOf, Cond.selects RX3 yX3_sumOf yX3_sumOf, Cond.code yX3_sumOf cX3_sumOf 6 (some .long), Cond.methodLink RX3 90 yX3_keyOf, Cond.instanceMethod yX3_keyOf, Cond.selects RX3 yX3_keyOf yX3_keyOf, Cond.code yX3_keyOf cX3_keyOf 4 (some .int), Cond.methodLink RX3 94 yX3_stir, Cond.static yX3_stir]
def wsX3_tellApart_r3 : List Cond := [Cond.code yX3_stir cX3_stir 3 (some .long), Cond.constantLong RX3 98 (-7046029254386353131), Cond.methodLink RX3 73 yX3_match, Cond.instanceMethod yX3_match, Cond.selects RX3 yX3_match yX3_match, Cond.code yX3_match cX3_match 7 (some .int), Cond.fieldLink RX3 27 "LikeNets$Pairs" "sums" "[J", Cond.fieldLink RX3 18 "LikeNets$Pairs" "firsts" "[I", Cond.fieldLink RX3 24 "LikeNets$Pairs" "nexts" "[I", Cond.methodLink RX3 87 yX3_isAlike, Cond.instanceMethod yX3_isAlike, Cond.selects RX3 yX3_isAlike yX3_isAlike, Cond.code yX3_isAlike cX3_isAlike 4 (some .boolean), Cond.fieldLink RX3 31 "LikeNets$Pairs" "keys" "[I", Cond.fieldLink RX3 34 "LikeNets$Pairs" "otherKeys" "[I", Cond.methodLink RX3 100 yX3_gather, Cond.instanceMethod yX3_gather, Cond.selects RX3 yX3_gather yX3_gather, Cond.code yX3_gather cX3_gather 8 none, Cond.methodLink RX3 77 yX3_open, Cond.instanceMethod yX3_open, Cond.selects RX3 yX3_open yX3_open, Cond.code yX3_open cX3_open 5 (some .int)]
def wsX3_tellApart : List Cond := .code yX3_tellApart cX3_tellApart 5 none :: ((wsX3_tellApart_r1 ++ (wsX3_tellApart_r2 ++ wsX3_tellApart_r3)) ++ wsX30 ++ wsX20)
def wsX4_init : List Cond := .code yX4_init cX4_init 1 none :: ([.methodLink RX4 3 objectInit, .instanceMethod objectInit, .code objectInit ⟨#[0xb1]⟩ 1 none, .arrayClass .int, .fieldLink RX4 9 "LikeNets$Search" "balls" "[I", .fieldLink RX4 15 "LikeNets$Search" "taken" "[I", .fieldLink RX4 18 "LikeNets$Search" "untried" "[I", .fieldLink RX4 21 "LikeNets$Search" "reach" "I"] ++ wsX40)
def wsX7_postsWithin : List Cond := .code yX7_postsWithin cX7_postsWithin 5 (some .int) :: ([.methodLink RX7 69 yX7_postsAt, .instanceMethod yX7_postsAt, .selects RX7 yX7_postsAt yX7_postsAt, .initialized RX7, .code yX7_postsAt cX7_postsAt 3 (some .int), .fieldLink RX7 15 "LikeNets$Ways" "layers" "[I"] ++ wsX70)
def wsX8_allOf : List Cond := .code yX8_allOf cX8_allOf 1 (some .int) :: ([])
def wsX8_lowestBit : List Cond := .code yX8_lowestBit cX8_lowestBit 1 (some .int) :: ([.methodLink RX8 204 yJ6_bitCount_0f7a4, .static yJ6_bitCount_0f7a4, .initialized RJ6, .code yJ6_bitCount_0f7a4 cJ6_bitCount_0f7a4 1 (some .int), .constant RJ6 265 (1431655765), .constant RJ6 266 (858993459), .constant RJ6 267 (252645135)])
def wsX4_candidates : List Cond := .code yX4_candidates cX4_candidates 5 (some .int) :: ([.fieldLink RX4 25 "LikeNets$Search" "size" "I", .fieldLink RX4 9 "LikeNets$Search" "balls" "[I", .static yX8_lowestBit, .initialized RX8, .code yX8_lowestBit cX8_lowestBit 1 (some .int), .methodLink RX8 204 yJ6_bitCount_0f7a4, .static yJ6_bitCount_0f7a4, .initialized RJ6, .code yJ6_bitCount_0f7a4 cJ6_bitCount_0f7a4 1 (some .int), .constant RJ6 265 (1431655765), .constant RJ6 266 (858993459), .constant RJ6 267 (252645135), .static yX8_isIn, .code yX8_isIn cX8_isIn 2 (some .boolean)] ++ wsX40)
def wsX4_climb : List Cond := .code yX4_climb cX4_climb 7 (some .int) :: ([.fieldLink RX4 25 "LikeNets$Search" "size" "I", .fieldLink RX4 18 "LikeNets$Search" "untried" "[I", .constant RX4 48 (40002), .fieldLink RX4 9 "LikeNets$Search" "balls" "[I", .fieldLink RX4 15 "LikeNets$Search" "taken" "[I", .static yX8_allOf, .initialized RX8, .code yX8_allOf cX8_allOf 1 (some .int), .methodLink RX4 45 yX4_candidates, .instanceMethod yX4_candidates, .selects RX4 yX4_candidates yX4_candidates, .initialized RX4, .code yX4_candidates cX4_candidates 5 (some .int), .static yX8_lowestBit, .code yX8_lowestBit cX8_lowestBit 1 (some .int), .methodLink RX8 204 yJ6_bitCount_0f7a4, .static yJ6_bitCount_0f7a4, .initialized RJ6, .code yJ6_bitCount_0f7a4 cJ6_bitCount_0f7a4 1 (some .int), .constant RJ6 265 (1431655765), .constant RJ6 266 (858993459), .constant RJ6 267 (252645135), .static yX8_isIn, .code yX8_isIn cX8_isIn 2 (some .boolean)] ++ wsX40)
def wsX4_run_r1 : List Cond := [Cond.fieldLink RX4 25 "LikeNets$Search" "size" "I", Cond.fieldLink RX4 9 "LikeNets$Search" "balls" "[I", Cond.fieldLink RX4 38 "LikeNets$Search" "found" "I", Cond.fieldLink RX4 21 "LikeNets$Search" "reach" "I", Cond.methodLink RX4 28 yX7_postsWithin, Cond.instanceMethod yX7_postsWithin, Cond.selects RX7 yX7_postsWithin yX7_postsWithin, Cond.initialized RX7, Cond.code yX7_postsWithin cX7_postsWithin 5 (some .int), Cond.methodLink RX7 69 yX7_postsAt, Cond.instanceMethod yX7_postsAt, Cond.selects RX7 yX7_postsAt yX7_postsAt, Cond.code yX7_postsAt cX7_postsAt 3 (some .int), Cond.fieldLink RX7 15 "LikeNets$Ways" "layers" "[I", Cond.methodLink RX4 34 yX4_climb, Cond.instanceMethod yX4_climb, Cond.selects RX4 yX4_climb yX4_climb, Cond.initialized RX4, Cond.code yX4_climb cX4_climb 7 (some .int), Cond.fieldLink RX4 18 "LikeNets$Search" "untried" "[I", Cond.constant RX4 48 (40002), Cond.fieldLink RX4 15 "LikeNets$Search" "taken" "[I", Cond.static yX8_allOf, Cond.initialized RX8]
def wsX4_run_r2 : List Cond := [Cond.code yX8_allOf cX8_allOf 1 (some .int), Cond.methodLink RX4 45 yX4_candidates, Cond.instanceMethod yX4_candidates, Cond.selects RX4 yX4_candidates yX4_candidates, Cond.code yX4_candidates cX4_candidates 5 (some .int), Cond.static yX8_lowestBit, Cond.code yX8_lowestBit cX8_lowestBit 1 (some .int), Cond.methodLink RX8 204 yJ6_bitCount_0f7a4, Cond.static yJ6_bitCount_0f7a4, Cond.initialized RJ6, Cond.code yJ6_bitCount_0f7a4 cJ6_bitCount_0f7a4 1 (some .int), Cond.constant RJ6 265 (1431655765), Cond.constant RJ6 266 (858993459), Cond.constant RJ6 267 (252645135), Cond.static yX8_isIn, Cond.code yX8_isIn cX8_isIn 2 (some .boolean)]
def wsX4_run : List Cond := .code yX4_run cX4_run 5 none :: ((wsX4_run_r1 ++ wsX4_run_r2) ++ wsX40 ++ wsX70)
def wsX5_init : List Cond := .code yX5_init cX5_init 1 none :: ([.methodLink RX5 3 objectInit, .instanceMethod objectInit, .code objectInit ⟨#[0xb1]⟩ 1 none, .arrayClass .int, .fieldLink RX5 9 "LikeNets$Sheet" "cells" "[I"] ++ wsX50)
def wsX5_lay : List Cond := .code yX5_lay cX5_lay 3 none :: ([.fieldLink RX5 15 "LikeNets$Sheet" "there" "Z", .fieldLink RX5 19 "LikeNets$Sheet" "sort" "I", .fieldLink RX5 23 "LikeNets$Sheet" "size" "I", .fieldLink RX5 9 "LikeNets$Sheet" "cells" "[I", .methodLink RX5 26 yJ7_fill_53178, .static yJ7_fill_53178, .initialized RJ7, .code yJ7_fill_53178 cJ7_fill_53178 4 none] ++ wsX50)
def wsX5_has : List Cond := .code yX5_has cX5_has 2 (some .boolean) :: ([.fieldLink RX5 23 "LikeNets$Sheet" "size" "I"] ++ wsX50)
def wsX5_read : List Cond := .code yX5_read cX5_read 2 (some .int) :: ([.fieldLink RX5 9 "LikeNets$Sheet" "cells" "[I", .methodLink RX5 32 yX5_has, .instanceMethod yX5_has, .selects RX5 yX5_has yX5_has, .initialized RX5, .code yX5_has cX5_has 2 (some .boolean), .fieldLink RX5 23 "LikeNets$Sheet" "size" "I"] ++ wsX50)
def wsX5_write : List Cond := .code yX5_write cX5_write 3 none :: ([.fieldLink RX5 19 "LikeNets$Sheet" "sort" "I", .fieldLink RX5 9 "LikeNets$Sheet" "cells" "[I"] ++ wsX50)
def wsX6_lay : List Cond := .code yX6_lay cX6_lay 3 none :: ([.fieldLink RX6 41 "LikeNets$Told" "length" "I", .fieldLink RX6 9 "LikeNets$Told" "b" "[I", .fieldLink RX6 15 "LikeNets$Told" "c" "[I", .fieldLink RX6 51 "LikeNets$Told" "judged" "Z", .methodLink RX6 45 yJ7_fill_53178, .static yJ7_fill_53178, .initialized RJ7, .code yJ7_fill_53178 cJ7_fill_53178 4 none] ++ wsX60)
def wsX6_init : List Cond := .code yX6_init cX6_init 1 none :: ([.methodLink RX6 3 objectInit, .instanceMethod objectInit, .code objectInit ⟨#[0xb1]⟩ 1 none, .arrayClass .int, .fieldLink RX6 9 "LikeNets$Told" "b" "[I", .fieldLink RX6 15 "LikeNets$Told" "c" "[I", .arrayClass .long, .fieldLink RX6 18 "LikeNets$Told" "k" "[J", .fieldLink RX6 22 "LikeNets$Told" "t" "[J", .fieldLink RX6 25 "LikeNets$Told" "scaled" "[J", .fieldLink RX6 28 "LikeNets$Told" "walkRow" "[J", .fieldLink RX6 31 "LikeNets$Told" "roots" "[I", .fieldLink RX6 34 "LikeNets$Told" "times" "[I", .methodLink RX6 37 yX6_lay, .instanceMethod yX6_lay, .selects RX6 yX6_lay yX6_lay, .initialized RX6, .code yX6_lay cX6_lay 3 none, .fieldLink RX6 41 "LikeNets$Told" "length" "I", .fieldLink RX6 51 "LikeNets$Told" "judged" "Z", .methodLink RX6 45 yJ7_fill_53178, .static yJ7_fill_53178, .initialized RJ7, .code yJ7_fill_53178 cJ7_fill_53178 4 none] ++ wsX60)
def wsX6_place : List Cond := .code yX6_place cX6_place 3 (some .int) :: ([])
def wsX6_putOnward : List Cond := .code yX6_putOnward cX6_putOnward 3 (some .int) :: ([.fieldLink RX6 9 "LikeNets$Told" "b" "[I", .fieldLink RX6 51 "LikeNets$Told" "judged" "Z"] ++ wsX60)
def wsX6_putBackward : List Cond := .code yX6_putBackward cX6_putBackward 3 (some .int) :: ([.fieldLink RX6 15 "LikeNets$Told" "c" "[I", .fieldLink RX6 51 "LikeNets$Told" "judged" "Z"] ++ wsX60)
def wsX6_hasRow : List Cond := .code yX6_hasRow cX6_hasRow 2 (some .boolean) :: ([.fieldLink RX6 41 "LikeNets$Told" "length" "I"] ++ wsX60)
def wsX6_level : List Cond := .code yX6_level cX6_level 2 (some .int) :: ([.fieldLink RX6 9 "LikeNets$Told" "b" "[I", .fieldLink RX6 15 "LikeNets$Told" "c" "[I"] ++ wsX60)
def wsX6_isPositive : List Cond := .code yX6_isPositive cX6_isPositive 2 (some .boolean) :: ([.fieldLink RX6 41 "LikeNets$Told" "length" "I", .fieldLink RX6 9 "LikeNets$Told" "b" "[I", .fieldLink RX6 15 "LikeNets$Told" "c" "[I"] ++ wsX60)
def wsX6_hasRoom : List Cond := .code yX6_hasRoom cX6_hasRoom 2 (some .boolean) :: ([.fieldLink RX6 41 "LikeNets$Told" "length" "I", .methodLink RX6 90 yX6_level, .instanceMethod yX6_level, .selects RX6 yX6_level yX6_level, .initialized RX6, .code yX6_level cX6_level 2 (some .int), .fieldLink RX6 9 "LikeNets$Told" "b" "[I", .fieldLink RX6 15 "LikeNets$Told" "c" "[I"] ++ wsX60)
def wsX6_isInOrder : List Cond := .code yX6_isInOrder cX6_isInOrder 2 (some .boolean) :: ([.fieldLink RX6 41 "LikeNets$Told" "length" "I", .fieldLink RX6 15 "LikeNets$Told" "c" "[I", .fieldLink RX6 9 "LikeNets$Told" "b" "[I"] ++ wsX60)
def wsX6_countLayers : List Cond := .code yX6_countLayers cX6_countLayers 4 (some .boolean) :: ([.fieldLink RX6 18 "LikeNets$Told" "k" "[J", .fieldLink RX6 94 "LikeNets$Told" "total" "J", .fieldLink RX6 41 "LikeNets$Told" "length" "I", .fieldLink RX6 9 "LikeNets$Told" "b" "[I", .fieldLink RX6 15 "LikeNets$Told" "c" "[I", .constantLong RX6 98 (100000)] ++ wsX60)
def wsX6_isPaired : List Cond := .code yX6_isPaired cX6_isPaired 2 (some .boolean) :: ([.fieldLink RX6 41 "LikeNets$Told" "length" "I", .fieldLink RX6 18 "LikeNets$Told" "k" "[J", .constantLong RX6 100 (2), .fieldLink RX6 9 "LikeNets$Told" "b" "[I", .fieldLink RX6 94 "LikeNets$Told" "total" "J", .methodLink RX6 90 yX6_level, .instanceMethod yX6_level, .selects RX6 yX6_level yX6_level, .initialized RX6, .code yX6_level cX6_level 2 (some .int), .fieldLink RX6 15 "LikeNets$Told" "c" "[I"] ++ wsX60)
def wsX6_firstThird : List Cond := .code yX6_firstThird cX6_firstThird 3 (some .int) :: ([.fieldLink RX6 15 "LikeNets$Told" "c" "[I", .fieldLink RX6 9 "LikeNets$Told" "b" "[I", .methodLink RX6 90 yX6_level, .instanceMethod yX6_level, .selects RX6 yX6_level yX6_level, .initialized RX6, .code yX6_level cX6_level 2 (some .int)] ++ wsX60)
def wsX6_layFirstThirds : List Cond := .code yX6_layFirstThirds cX6_layFirstThirds 3 none :: ([.fieldLink RX6 41 "LikeNets$Told" "length" "I", .fieldLink RX6 22 "LikeNets$Told" "t" "[J", .methodLink RX6 102 yX6_place, .static yX6_place, .initialized RX6, .code yX6_place cX6_place 3 (some .int), .methodLink RX6 106 yX6_firstThird, .instanceMethod yX6_firstThird, .selects RX6 yX6_firstThird yX6_firstThird, .code yX6_firstThird cX6_firstThird 3 (some .int), .fieldLink RX6 15 "LikeNets$Told" "c" "[I", .fieldLink RX6 9 "LikeNets$Told" "b" "[I", .methodLink RX6 90 yX6_level, .instanceMethod yX6_level, .selects RX6 yX6_level yX6_level, .code yX6_level cX6_level 2 (some .int)] ++ wsX60)
def wsX6_thirdTimes : List Cond := .code yX6_thirdTimes cX6_thirdTimes 6 (some .long) :: ([.fieldLink RX6 22 "LikeNets$Told" "t" "[J", .fieldLink RX6 9 "LikeNets$Told" "b" "[I", .fieldLink RX6 41 "LikeNets$Told" "length" "I", .fieldLink RX6 15 "LikeNets$Told" "c" "[I", .methodLink RX6 90 yX6_level, .instanceMethod yX6_level, .selects RX6 yX6_level yX6_level, .initialized RX6, .code yX6_level cX6_level 2 (some .int), .methodLink RX6 102 yX6_place, .static yX6_place, .code yX6_place cX6_place 3 (some .int)] ++ wsX60)
def wsX6_layOtherThirds : List Cond := .code yX6_layOtherThirds cX6_layOtherThirds 6 (some .boolean) :: ([.fieldLink RX6 41 "LikeNets$Told" "length" "I", .fieldLink RX6 15 "LikeNets$Told" "c" "[I", .fieldLink RX6 22 "LikeNets$Told" "t" "[J", .methodLink RX6 110 yX6_thirdTimes, .instanceMethod yX6_thirdTimes, .selects RX6 yX6_thirdTimes yX6_thirdTimes, .initialized RX6, .code yX6_thirdTimes cX6_thirdTimes 6 (some .long), .fieldLink RX6 9 "LikeNets$Told" "b" "[I", .methodLink RX6 90 yX6_level, .instanceMethod yX6_level, .selects RX6 yX6_level yX6_level, .code yX6_level cX6_level 2 (some .int), .methodLink RX6 102 yX6_place, .static yX6_place, .code yX6_place cX6_place 3 (some .int)] ++ wsX60)
def wsX6_isRoot : List Cond := .code yX6_isRoot cX6_isRoot 3 (some .boolean) :: ([.fieldLink RX6 25 "LikeNets$Told" "scaled" "[J", .fieldLink RX6 41 "LikeNets$Told" "length" "I", .fieldLink RX6 15 "LikeNets$Told" "c" "[I", .fieldLink RX6 9 "LikeNets$Told" "b" "[I", .methodLink RX6 90 yX6_level, .instanceMethod yX6_level, .selects RX6 yX6_level yX6_level, .initialized RX6, .code yX6_level cX6_level 2 (some .int)] ++ wsX60)
def wsX6_timesOfScaled : List Cond := .code yX6_timesOfScaled cX6_timesOfScaled 9 (some .int) :: ([.fieldLink RX6 41 "LikeNets$Told" "length" "I", .fieldLink RX6 9 "LikeNets$Told" "b" "[I", .fieldLink RX6 15 "LikeNets$Told" "c" "[I", .fieldLink RX6 25 "LikeNets$Told" "scaled" "[J", .fieldLink RX6 94 "LikeNets$Told" "total" "J"] ++ wsX60)
def wsX6_findRoots : List Cond := .code yX6_findRoots cX6_findRoots 3 (some .boolean) :: ([.fieldLink RX6 114 "LikeNets$Told" "rootCount" "I", .fieldLink RX6 9 "LikeNets$Told" "b" "[I", .fieldLink RX6 31 "LikeNets$Told" "roots" "[I", .fieldLink RX6 34 "LikeNets$Told" "times" "[I", .methodLink RX6 117 yX6_isRoot, .instanceMethod yX6_isRoot, .selects RX6 yX6_isRoot yX6_isRoot, .initialized RX6, .code yX6_isRoot cX6_isRoot 3 (some .boolean), .fieldLink RX6 25 "LikeNets$Told" "scaled" "[J", .fieldLink RX6 41 "LikeNets$Told" "length" "I", .fieldLink RX6 15 "LikeNets$Told" "c" "[I", .methodLink RX6 90 yX6_level, .instanceMethod yX6_level, .selects RX6 yX6_level yX6_level, .code yX6_level cX6_level 2 (some .int), .methodLink RX6 121 yX6_timesOfScaled, .instanceMethod yX6_timesOfScaled, .selects RX6 yX6_timesOfScaled yX6_timesOfScaled, .code yX6_timesOfScaled cX6_timesOfScaled 9 (some .int), .fieldLink RX6 94 "LikeNets$Told" "total" "J"] ++ wsX60)
def wsX6_judge_r1 : List Cond := [Cond.methodLink RX6 65 yX6_isPositive, Cond.instanceMethod yX6_isPositive, Cond.selects RX6 yX6_isPositive yX6_isPositive, Cond.initialized RX6, Cond.code yX6_isPositive cX6_isPositive 2 (some .boolean), Cond.fieldLink RX6 41 "LikeNets$Told" "length" "I", Cond.fieldLink RX6 9 "LikeNets$Told" "b" "[I", Cond.fieldLink RX6 15 "LikeNets$Told" "c" "[I", Cond.methodLink RX6 69 yX6_hasRoom, Cond.instanceMethod yX6_hasRoom, Cond.selects RX6 yX6_hasRoom yX6_hasRoom, Cond.code yX6_hasRoom cX6_hasRoom 2 (some .boolean), Cond.methodLink RX6 90 yX6_level, Cond.instanceMethod yX6_level, Cond.selects RX6 yX6_level yX6_level, Cond.code yX6_level cX6_level 2 (some .int), Cond.methodLink RX6 72 yX6_isInOrder, Cond.instanceMethod yX6_isInOrder, Cond.selects RX6 yX6_isInOrder yX6_isInOrder, Cond.code yX6_isInOrder cX6_isInOrder 2 (some .boolean), Cond.methodLink RX6 75 yX6_countLayers, Cond.instanceMethod yX6_countLayers, Cond.selects RX6 yX6_countLayers yX6_countLayers, Cond.code yX6_countLayers cX6_countLayers 4 (some .boolean)]
def wsX6_judge_r2 : List Cond := [Cond.fieldLink RX6 18 "LikeNets$Told" "k" "[J", Cond.fieldLink RX6 94 "LikeNets$Told" "total" "J", Cond.constantLong RX6 98 (100000), Cond.methodLink RX6 78 yX6_isPaired, Cond.instanceMethod yX6_isPaired, Cond.selects RX6 yX6_isPaired yX6_isPaired, Cond.code yX6_isPaired cX6_isPaired 2 (some .boolean), Cond.constantLong RX6 100 (2), Cond.methodLink RX6 81 yX6_layFirstThirds, Cond.instanceMethod yX6_layFirstThirds, Cond.selects RX6 yX6_layFirstThirds yX6_layFirstThirds, Cond.code yX6_layFirstThirds cX6_layFirstThirds 3 none, Cond.fieldLink RX6 22 "LikeNets$Told" "t" "[J", Cond.methodLink RX6 102 yX6_place, Cond.static yX6_place, Cond.code yX6_place cX6_place 3 (some .int), Cond.methodLink RX6 106 yX6_firstThird, Cond.instanceMethod yX6_firstThird, Cond.selects RX6 yX6_firstThird yX6_firstThird, Cond.code yX6_firstThird cX6_firstThird 3 (some .int), Cond.methodLink RX6 84 yX6_layOtherThirds, Cond.instanceMethod yX6_layOtherThirds, Cond.selects RX6 yX6_layOtherThirds yX6_layOtherThirds, Cond.code yX6_layOtherThirds cX6_layOtherThirds 6 (some .boolean)]
def wsX6_judge_r3 : List Cond := [Cond.methodLink RX6 110 yX6_thirdTimes, Cond.instanceMethod yX6_thirdTimes, Cond.selects RX6 yX6_thirdTimes yX6_thirdTimes, Cond.code yX6_thirdTimes cX6_thirdTimes 6 (some .long), Cond.methodLink RX6 87 yX6_findRoots, Cond.instanceMethod yX6_findRoots, Cond.selects RX6 yX6_findRoots yX6_findRoots, Cond.code yX6_findRoots cX6_findRoots 3 (some .boolean), Cond.fieldLink RX6 114 "LikeNets$Told" "rootCount" "I", Cond.fieldLink RX6 31 "LikeNets$Told" "roots" "[I", Cond.fieldLink RX6 34 "LikeNets$Told" "times" "[I", Cond.methodLink RX6 117 yX6_isRoot, Cond.instanceMethod yX6_isRoot, Cond.selects RX6 yX6_isRoot yX6_isRoot, Cond.code yX6_isRoot cX6_isRoot 3 (some .boolean), Cond.fieldLink RX6 25 "LikeNets$Told" "scaled" "[J", Cond.methodLink RX6 121 yX6_timesOfScaled, Cond.instanceMethod yX6_timesOfScaled, Cond.selects RX6 yX6_timesOfScaled yX6_timesOfScaled, Cond.code yX6_timesOfScaled cX6_timesOfScaled 9 (some .int)]
def wsX6_judge : List Cond := .code yX6_judge cX6_judge 1 (some .int) :: ((wsX6_judge_r1 ++ (wsX6_judge_r2 ++ wsX6_judge_r3)) ++ wsX60)
def wsX6_firstBroken_r1 : List Cond := [Cond.fieldLink RX6 51 "LikeNets$Told" "judged" "Z", Cond.fieldLink RX6 62 "LikeNets$Told" "broken" "I", Cond.methodLink RX6 59 yX6_judge, Cond.instanceMethod yX6_judge, Cond.selects RX6 yX6_judge yX6_judge, Cond.initialized RX6, Cond.code yX6_judge cX6_judge 1 (some .int), Cond.methodLink RX6 65 yX6_isPositive, Cond.instanceMethod yX6_isPositive, Cond.selects RX6 yX6_isPositive yX6_isPositive, Cond.code yX6_isPositive cX6_isPositive 2 (some .boolean), Cond.fieldLink RX6 41 "LikeNets$Told" "length" "I", Cond.fieldLink RX6 9 "LikeNets$Told" "b" "[I", Cond.fieldLink RX6 15 "LikeNets$Told" "c" "[I", Cond.methodLink RX6 69 yX6_hasRoom, Cond.instanceMethod yX6_hasRoom, Cond.selects RX6 yX6_hasRoom yX6_hasRoom, Cond.code yX6_hasRoom cX6_hasRoom 2 (some .boolean), Cond.methodLink RX6 90 yX6_level, Cond.instanceMethod yX6_level, Cond.selects RX6 yX6_level yX6_level, Cond.code yX6_level cX6_level 2 (some .int), Cond.methodLink RX6 72 yX6_isInOrder, Cond.instanceMethod yX6_isInOrder]
def wsX6_firstBroken_r2 : List Cond := [Cond.selects RX6 yX6_isInOrder yX6_isInOrder, Cond.code yX6_isInOrder cX6_isInOrder 2 (some .boolean), Cond.methodLink RX6 75 yX6_countLayers, Cond.instanceMethod yX6_countLayers, Cond.selects RX6 yX6_countLayers yX6_countLayers, Cond.code yX6_countLayers cX6_countLayers 4 (some .boolean), Cond.fieldLink RX6 18 "LikeNets$Told" "k" "[J", Cond.fieldLink RX6 94 "LikeNets$Told" "total" "J", Cond.constantLong RX6 98 (100000), Cond.methodLink RX6 78 yX6_isPaired, Cond.instanceMethod yX6_isPaired, Cond.selects RX6 yX6_isPaired yX6_isPaired, Cond.code yX6_isPaired cX6_isPaired 2 (some .boolean), Cond.constantLong RX6 100 (2), Cond.methodLink RX6 81 yX6_layFirstThirds, Cond.instanceMethod yX6_layFirstThirds, Cond.selects RX6 yX6_layFirstThirds yX6_layFirstThirds, Cond.code yX6_layFirstThirds cX6_layFirstThirds 3 none, Cond.fieldLink RX6 22 "LikeNets$Told" "t" "[J", Cond.methodLink RX6 102 yX6_place, Cond.static yX6_place, Cond.code yX6_place cX6_place 3 (some .int), Cond.methodLink RX6 106 yX6_firstThird, Cond.instanceMethod yX6_firstThird]
def wsX6_firstBroken_r3 : List Cond := [Cond.selects RX6 yX6_firstThird yX6_firstThird, Cond.code yX6_firstThird cX6_firstThird 3 (some .int), Cond.methodLink RX6 84 yX6_layOtherThirds, Cond.instanceMethod yX6_layOtherThirds, Cond.selects RX6 yX6_layOtherThirds yX6_layOtherThirds, Cond.code yX6_layOtherThirds cX6_layOtherThirds 6 (some .boolean), Cond.methodLink RX6 110 yX6_thirdTimes, Cond.instanceMethod yX6_thirdTimes, Cond.selects RX6 yX6_thirdTimes yX6_thirdTimes, Cond.code yX6_thirdTimes cX6_thirdTimes 6 (some .long), Cond.methodLink RX6 87 yX6_findRoots, Cond.instanceMethod yX6_findRoots, Cond.selects RX6 yX6_findRoots yX6_findRoots, Cond.code yX6_findRoots cX6_findRoots 3 (some .boolean), Cond.fieldLink RX6 114 "LikeNets$Told" "rootCount" "I", Cond.fieldLink RX6 31 "LikeNets$Told" "roots" "[I", Cond.fieldLink RX6 34 "LikeNets$Told" "times" "[I", Cond.methodLink RX6 117 yX6_isRoot, Cond.instanceMethod yX6_isRoot, Cond.selects RX6 yX6_isRoot yX6_isRoot, Cond.code yX6_isRoot cX6_isRoot 3 (some .boolean), Cond.fieldLink RX6 25 "LikeNets$Told" "scaled" "[J", Cond.methodLink RX6 121 yX6_timesOfScaled, Cond.instanceMethod yX6_timesOfScaled]
def wsX6_firstBroken_r4 : List Cond := [Cond.selects RX6 yX6_timesOfScaled yX6_timesOfScaled, Cond.code yX6_timesOfScaled cX6_timesOfScaled 9 (some .int)]
def wsX6_firstBroken : List Cond := .code yX6_firstBroken cX6_firstBroken 1 (some .int) :: ((wsX6_firstBroken_r1 ++ (wsX6_firstBroken_r2 ++ (wsX6_firstBroken_r3 ++ wsX6_firstBroken_r4))) ++ wsX60)
def wsX6_keepsLawsTo_r1 : List Cond := [Cond.methodLink RX6 55 yX6_firstBroken, Cond.instanceMethod yX6_firstBroken, Cond.selects RX6 yX6_firstBroken yX6_firstBroken, Cond.initialized RX6, Cond.code yX6_firstBroken cX6_firstBroken 1 (some .int), Cond.fieldLink RX6 51 "LikeNets$Told" "judged" "Z", Cond.fieldLink RX6 62 "LikeNets$Told" "broken" "I", Cond.methodLink RX6 59 yX6_judge, Cond.instanceMethod yX6_judge, Cond.selects RX6 yX6_judge yX6_judge, Cond.code yX6_judge cX6_judge 1 (some .int), Cond.methodLink RX6 65 yX6_isPositive, Cond.instanceMethod yX6_isPositive, Cond.selects RX6 yX6_isPositive yX6_isPositive, Cond.code yX6_isPositive cX6_isPositive 2 (some .boolean), Cond.fieldLink RX6 41 "LikeNets$Told" "length" "I", Cond.fieldLink RX6 9 "LikeNets$Told" "b" "[I", Cond.fieldLink RX6 15 "LikeNets$Told" "c" "[I", Cond.methodLink RX6 69 yX6_hasRoom, Cond.instanceMethod yX6_hasRoom, Cond.selects RX6 yX6_hasRoom yX6_hasRoom, Cond.code yX6_hasRoom cX6_hasRoom 2 (some .boolean), Cond.methodLink RX6 90 yX6_level, Cond.instanceMethod yX6_level]
def wsX6_keepsLawsTo_r2 : List Cond := [Cond.selects RX6 yX6_level yX6_level, Cond.code yX6_level cX6_level 2 (some .int), Cond.methodLink RX6 72 yX6_isInOrder, Cond.instanceMethod yX6_isInOrder, Cond.selects RX6 yX6_isInOrder yX6_isInOrder, Cond.code yX6_isInOrder cX6_isInOrder 2 (some .boolean), Cond.methodLink RX6 75 yX6_countLayers, Cond.instanceMethod yX6_countLayers, Cond.selects RX6 yX6_countLayers yX6_countLayers, Cond.code yX6_countLayers cX6_countLayers 4 (some .boolean), Cond.fieldLink RX6 18 "LikeNets$Told" "k" "[J", Cond.fieldLink RX6 94 "LikeNets$Told" "total" "J", Cond.constantLong RX6 98 (100000), Cond.methodLink RX6 78 yX6_isPaired, Cond.instanceMethod yX6_isPaired, Cond.selects RX6 yX6_isPaired yX6_isPaired, Cond.code yX6_isPaired cX6_isPaired 2 (some .boolean), Cond.constantLong RX6 100 (2), Cond.methodLink RX6 81 yX6_layFirstThirds, Cond.instanceMethod yX6_layFirstThirds, Cond.selects RX6 yX6_layFirstThirds yX6_layFirstThirds, Cond.code yX6_layFirstThirds cX6_layFirstThirds 3 none, Cond.fieldLink RX6 22 "LikeNets$Told" "t" "[J", Cond.methodLink RX6 102 yX6_place]
def wsX6_keepsLawsTo_r3 : List Cond := [Cond.static yX6_place, Cond.code yX6_place cX6_place 3 (some .int), Cond.methodLink RX6 106 yX6_firstThird, Cond.instanceMethod yX6_firstThird, Cond.selects RX6 yX6_firstThird yX6_firstThird, Cond.code yX6_firstThird cX6_firstThird 3 (some .int), Cond.methodLink RX6 84 yX6_layOtherThirds, Cond.instanceMethod yX6_layOtherThirds, Cond.selects RX6 yX6_layOtherThirds yX6_layOtherThirds, Cond.code yX6_layOtherThirds cX6_layOtherThirds 6 (some .boolean), Cond.methodLink RX6 110 yX6_thirdTimes, Cond.instanceMethod yX6_thirdTimes, Cond.selects RX6 yX6_thirdTimes yX6_thirdTimes, Cond.code yX6_thirdTimes cX6_thirdTimes 6 (some .long), Cond.methodLink RX6 87 yX6_findRoots, Cond.instanceMethod yX6_findRoots, Cond.selects RX6 yX6_findRoots yX6_findRoots, Cond.code yX6_findRoots cX6_findRoots 3 (some .boolean), Cond.fieldLink RX6 114 "LikeNets$Told" "rootCount" "I", Cond.fieldLink RX6 31 "LikeNets$Told" "roots" "[I", Cond.fieldLink RX6 34 "LikeNets$Told" "times" "[I", Cond.methodLink RX6 117 yX6_isRoot, Cond.instanceMethod yX6_isRoot, Cond.selects RX6 yX6_isRoot yX6_isRoot]
def wsX6_keepsLawsTo_r4 : List Cond := [Cond.code yX6_isRoot cX6_isRoot 3 (some .boolean), Cond.fieldLink RX6 25 "LikeNets$Told" "scaled" "[J", Cond.methodLink RX6 121 yX6_timesOfScaled, Cond.instanceMethod yX6_timesOfScaled, Cond.selects RX6 yX6_timesOfScaled yX6_timesOfScaled, Cond.code yX6_timesOfScaled cX6_timesOfScaled 9 (some .int)]
def wsX6_keepsLawsTo : List Cond := .code yX6_keepsLawsTo cX6_keepsLawsTo 3 (some .boolean) :: ((wsX6_keepsLawsTo_r1 ++ (wsX6_keepsLawsTo_r2 ++ (wsX6_keepsLawsTo_r3 ++ wsX6_keepsLawsTo_r4))) ++ wsX60)
def wsJ7_fill_d0a16 : List Cond := .code yJ7_fill_d0a16 cJ7_fill_d0a16 5 none :: ([])
def wsX6_countWalks : List Cond := .code yX6_countWalks cX6_countWalks 11 (some .long) :: ([.fieldLink RX6 28 "LikeNets$Told" "walkRow" "[J", .fieldLink RX6 41 "LikeNets$Told" "length" "I", .fieldLink RX6 15 "LikeNets$Told" "c" "[I", .fieldLink RX6 9 "LikeNets$Told" "b" "[I", .methodLink RX6 124 yJ7_fill_d0a16, .static yJ7_fill_d0a16, .initialized RJ7, .code yJ7_fill_d0a16 cJ7_fill_d0a16 5 none, .methodLink RX6 90 yX6_level, .instanceMethod yX6_level, .selects RX6 yX6_level yX6_level, .initialized RX6, .code yX6_level cX6_level 2 (some .int)] ++ wsX60)
def wsX7_init : List Cond := .code yX7_init cX7_init 1 none :: ([.methodLink RX7 3 objectInit, .instanceMethod objectInit, .code objectInit ⟨#[0xb1]⟩ 1 none, .arrayClass .int, .fieldLink RX7 9 "LikeNets$Ways" "steps" "[I", .fieldLink RX7 15 "LikeNets$Ways" "layers" "[I", .fieldLink RX7 18 "LikeNets$Ways" "reached" "[I"] ++ wsX70)
def wsX7_noteSteps : List Cond := .code yX7_noteSteps cX7_noteSteps 5 none :: ([.fieldLink RX7 27 "LikeNets$Ways" "size" "I", .fieldLink RX7 9 "LikeNets$Ways" "steps" "[I", .static yX8_isIn, .initialized RX8, .code yX8_isIn cX8_isIn 2 (some .boolean)] ++ wsX70)
def wsX7_spread : List Cond := .code yX7_spread cX7_spread 7 (some .int) :: ([.fieldLink RX7 15 "LikeNets$Ways" "layers" "[I", .fieldLink RX7 18 "LikeNets$Ways" "reached" "[I", .methodLink RX7 58 yX7_noteSteps, .instanceMethod yX7_noteSteps, .selects RX7 yX7_noteSteps yX7_noteSteps, .initialized RX7, .code yX7_noteSteps cX7_noteSteps 5 none, .fieldLink RX7 27 "LikeNets$Ways" "size" "I", .fieldLink RX7 9 "LikeNets$Ways" "steps" "[I", .static yX8_isIn, .initialized RX8, .code yX8_isIn cX8_isIn 2 (some .boolean), .methodLink RX7 62 yX2_around, .instanceMethod yX2_around, .selects RX2 yX2_around yX2_around, .initialized RX2, .code yX2_around cX2_around 4 (some .int), .fieldLink RX2 15 "LikeNets$Net" "size" "I", .fieldLink RX2 9 "LikeNets$Net" "near" "[I"] ++ wsX70 ++ wsX20)
def wsX7_measure_r1 : List Cond := [Cond.fieldLink RX7 21 "LikeNets$Net" "size" "I", Cond.fieldLink RX7 27 "LikeNets$Ways" "size" "I", Cond.fieldLink RX7 9 "LikeNets$Ways" "steps" "[I", Cond.fieldLink RX7 15 "LikeNets$Ways" "layers" "[I", Cond.methodLink RX7 38 Lib.Math.max.name, Cond.static Lib.Math.max.name, Cond.initialized "java/lang/Math", Cond.code Lib.Math.max.name Lib.Math.max.code 2 (some .int), Cond.fieldLink RX7 18 "LikeNets$Ways" "reached" "[I", Cond.fieldLink RX7 48 "LikeNets$Ways" "whole" "Z", Cond.fieldLink RX7 52 "LikeNets$Ways" "far" "I", Cond.fieldLink RX7 55 "LikeNets$Ways" "ready" "Z", Cond.methodLink RX7 28 yJ7_fill_53178, Cond.static yJ7_fill_53178, Cond.initialized RJ7, Cond.code yJ7_fill_53178 cJ7_fill_53178 4 none, Cond.methodLink RX7 34 yX7_spread, Cond.instanceMethod yX7_spread, Cond.selects RX7 yX7_spread yX7_spread, Cond.initialized RX7, Cond.code yX7_spread cX7_spread 7 (some .int), Cond.methodLink RX7 58 yX7_noteSteps, Cond.instanceMethod yX7_noteSteps, Cond.selects RX7 yX7_noteSteps yX7_noteSteps]
def wsX7_measure_r2 : List Cond := [Cond.code yX7_noteSteps cX7_noteSteps 5 none, Cond.static yX8_isIn, Cond.initialized RX8, Cond.code yX8_isIn cX8_isIn 2 (some .boolean), Cond.methodLink RX7 62 yX2_around, Cond.instanceMethod yX2_around, Cond.selects RX2 yX2_around yX2_around, Cond.initialized RX2, Cond.code yX2_around cX2_around 4 (some .int), Cond.fieldLink RX2 15 "LikeNets$Net" "size" "I", Cond.fieldLink RX2 9 "LikeNets$Net" "near" "[I", Cond.static yX8_allOf, Cond.code yX8_allOf cX8_allOf 1 (some .int)]
def wsX7_measure : List Cond := .code yX7_measure cX7_measure 4 none :: ((wsX7_measure_r1 ++ wsX7_measure_r2) ++ wsX20 ++ wsX70)
def wsX7_pieces : List Cond := .code yX7_pieces cX7_pieces 3 (some .int) :: ([.fieldLink RX7 27 "LikeNets$Ways" "size" "I", .fieldLink RX7 18 "LikeNets$Ways" "reached" "[I", .static yX8_lowestBit, .initialized RX8, .code yX8_lowestBit cX8_lowestBit 1 (some .int), .methodLink RX8 204 yJ6_bitCount_0f7a4, .static yJ6_bitCount_0f7a4, .initialized RJ6, .code yJ6_bitCount_0f7a4 cJ6_bitCount_0f7a4 1 (some .int), .constant RJ6 265 (1431655765), .constant RJ6 266 (858993459), .constant RJ6 267 (252645135)] ++ wsX70)
def wsX7_ringSeen : List Cond := .code yX7_ringSeen cX7_ringSeen 5 (some .int) :: ([.fieldLink RX7 82 "LikeNets$Net" "near" "[I", .methodLink RX7 79 yX7_between, .instanceMethod yX7_between, .selects RX7 yX7_between yX7_between, .initialized RX7, .code yX7_between cX7_between 3 (some .int), .fieldLink RX7 9 "LikeNets$Ways" "steps" "[I", .methodLink RX7 69 yX7_postsAt, .instanceMethod yX7_postsAt, .selects RX7 yX7_postsAt yX7_postsAt, .code yX7_postsAt cX7_postsAt 3 (some .int), .fieldLink RX7 15 "LikeNets$Ways" "layers" "[I", .methodLink RX7 85 yJ6_bitCount_0f7a4, .static yJ6_bitCount_0f7a4, .initialized RJ6, .code yJ6_bitCount_0f7a4 cJ6_bitCount_0f7a4 1 (some .int), .constant RJ6 265 (1431655765), .constant RJ6 266 (858993459), .constant RJ6 267 (252645135)] ++ wsX20 ++ wsX70)
def wsX7_shortestRing : List Cond := .code yX7_shortestRing cX7_shortestRing 6 (some .int) :: ([.fieldLink RX7 27 "LikeNets$Ways" "size" "I", .methodLink RX7 75 yX7_ringSeen, .instanceMethod yX7_ringSeen, .selects RX7 yX7_ringSeen yX7_ringSeen, .initialized RX7, .code yX7_ringSeen cX7_ringSeen 5 (some .int), .fieldLink RX7 82 "LikeNets$Net" "near" "[I", .methodLink RX7 79 yX7_between, .instanceMethod yX7_between, .selects RX7 yX7_between yX7_between, .code yX7_between cX7_between 3 (some .int), .fieldLink RX7 9 "LikeNets$Ways" "steps" "[I", .methodLink RX7 69 yX7_postsAt, .instanceMethod yX7_postsAt, .selects RX7 yX7_postsAt yX7_postsAt, .code yX7_postsAt cX7_postsAt 3 (some .int), .fieldLink RX7 15 "LikeNets$Ways" "layers" "[I", .methodLink RX7 85 yJ6_bitCount_0f7a4, .static yJ6_bitCount_0f7a4, .initialized RJ6, .code yJ6_bitCount_0f7a4 cJ6_bitCount_0f7a4 1 (some .int), .constant RJ6 265 (1431655765), .constant RJ6 266 (858993459), .constant RJ6 267 (252645135)] ++ wsX70 ++ wsX20)
def wsX7_isOfSides : List Cond := .code yX7_isOfSides cX7_isOfSides 5 (some .boolean) :: ([.fieldLink RX7 27 "LikeNets$Ways" "size" "I", .fieldLink RX7 82 "LikeNets$Net" "near" "[I", .methodLink RX7 79 yX7_between, .instanceMethod yX7_between, .selects RX7 yX7_between yX7_between, .initialized RX7, .code yX7_between cX7_between 3 (some .int), .fieldLink RX7 9 "LikeNets$Ways" "steps" "[I", .methodLink RX7 69 yX7_postsAt, .instanceMethod yX7_postsAt, .selects RX7 yX7_postsAt yX7_postsAt, .code yX7_postsAt cX7_postsAt 3 (some .int), .fieldLink RX7 15 "LikeNets$Ways" "layers" "[I"] ++ wsX70 ++ wsX20)
def wsX7_farGroup : List Cond := .code yX7_farGroup cX7_farGroup 2 (some .int) :: ([.fieldLink RX7 52 "LikeNets$Ways" "far" "I", .methodLink RX7 69 yX7_postsAt, .instanceMethod yX7_postsAt, .selects RX7 yX7_postsAt yX7_postsAt, .initialized RX7, .code yX7_postsAt cX7_postsAt 3 (some .int), .fieldLink RX7 15 "LikeNets$Ways" "layers" "[I"] ++ wsX70)
def wsX7_isFolded : List Cond := .code yX7_isFolded cX7_isFolded 3 (some .boolean) :: ([.fieldLink RX7 52 "LikeNets$Ways" "far" "I", .fieldLink RX7 27 "LikeNets$Ways" "size" "I", .methodLink RX7 79 yX7_between, .instanceMethod yX7_between, .selects RX7 yX7_between yX7_between, .initialized RX7, .code yX7_between cX7_between 3 (some .int), .fieldLink RX7 9 "LikeNets$Ways" "steps" "[I", .methodLink RX7 90 yX7_farGroup, .instanceMethod yX7_farGroup, .selects RX7 yX7_farGroup yX7_farGroup, .code yX7_farGroup cX7_farGroup 2 (some .int), .methodLink RX7 69 yX7_postsAt, .instanceMethod yX7_postsAt, .selects RX7 yX7_postsAt yX7_postsAt, .code yX7_postsAt cX7_postsAt 3 (some .int), .fieldLink RX7 15 "LikeNets$Ways" "layers" "[I"] ++ wsX70)
def wsX8_init_r1 : List Cond := [Cond.methodLink RX8 3 objectInit, Cond.instanceMethod objectInit, Cond.code objectInit ⟨#[0xb1]⟩ 1 none, Cond.classLink RX8 9 RX5, Cond.fieldLink RX8 11 "LikeNets" "sheets" "[LLikeNets$Sheet;", Cond.instantiable RX5 4, Cond.initialized RX5, Cond.classLink RX8 16 RX2, Cond.instantiable RX2 2, Cond.initialized RX2, Cond.fieldLink RX8 19 "LikeNets" "now" "LLikeNets$Net;", Cond.fieldLink RX8 23 "LikeNets" "made" "LLikeNets$Net;", Cond.fieldLink RX8 26 "LikeNets" "stored" "LLikeNets$Net;", Cond.arrayClass .int, Cond.fieldLink RX8 29 "LikeNets" "list" "[I", Cond.fieldLink RX8 33 "LikeNets" "partner" "[I", Cond.classLink RX8 36 RX1, Cond.instantiable RX1 1, Cond.initialized RX1, Cond.fieldLink RX8 39 "LikeNets" "makings" "LLikeNets$Makings;", Cond.classLink RX8 43 RX7, Cond.instantiable RX7 7, Cond.initialized RX7, Cond.fieldLink RX8 46 "LikeNets" "ways" "LLikeNets$Ways;"]
def wsX8_init_r2 : List Cond := [Cond.classLink RX8 50 RX0, Cond.instantiable RX0 7, Cond.initialized RX0, Cond.fieldLink RX8 53 "LikeNets" "likeness" "LLikeNets$Likeness;", Cond.classLink RX8 57 RX6, Cond.instantiable RX6 13, Cond.initialized RX6, Cond.fieldLink RX8 60 "LikeNets" "told" "LLikeNets$Told;", Cond.classLink RX8 64 RX4, Cond.instantiable RX4 6, Cond.initialized RX4, Cond.fieldLink RX8 67 "LikeNets" "search" "LLikeNets$Search;", Cond.classLink RX8 71 RX3, Cond.instantiable RX3 11, Cond.initialized RX3, Cond.fieldLink RX8 74 "LikeNets" "pairs" "LLikeNets$Pairs;", Cond.methodLink RX8 15 yX5_init, Cond.instanceMethod yX5_init, Cond.code yX5_init cX5_init 1 none, Cond.methodLink RX5 3 objectInit, Cond.fieldLink RX5 9 "LikeNets$Sheet" "cells" "[I", Cond.methodLink RX8 18 yX2_init, Cond.instanceMethod yX2_init, Cond.code yX2_init cX2_init 1 none]
def wsX8_init_r3 : List Cond := [Cond.methodLink RX2 3 objectInit, Cond.fieldLink RX2 9 "LikeNets$Net" "near" "[I", Cond.methodLink RX8 38 yX1_init, Cond.instanceMethod yX1_init, Cond.code yX1_init cX1_init 1 none, Cond.methodLink RX1 3 objectInit, Cond.fieldLink RX1 9 "LikeNets$Makings" "sets" "[I", Cond.methodLink RX8 45 yX7_init, Cond.instanceMethod yX7_init, Cond.code yX7_init cX7_init 1 none, Cond.methodLink RX7 3 objectInit, Cond.fieldLink RX7 9 "LikeNets$Ways" "steps" "[I", Cond.fieldLink RX7 15 "LikeNets$Ways" "layers" "[I", Cond.fieldLink RX7 18 "LikeNets$Ways" "reached" "[I", Cond.methodLink RX8 52 yX0_init, Cond.instanceMethod yX0_init, Cond.code yX0_init cX0_init 1 none, Cond.methodLink RX0 3 objectInit, Cond.fieldLink RX0 9 "LikeNets$Likeness" "c" "[I", Cond.fieldLink RX0 15 "LikeNets$Likeness" "a" "[I", Cond.fieldLink RX0 18 "LikeNets$Likeness" "b" "[I", Cond.methodLink RX8 59 yX6_init, Cond.instanceMethod yX6_init, Cond.code yX6_init cX6_init 1 none]
def wsX8_init_r4 : List Cond := [Cond.methodLink RX6 3 objectInit, Cond.fieldLink RX6 9 "LikeNets$Told" "b" "[I", Cond.fieldLink RX6 15 "LikeNets$Told" "c" "[I", Cond.arrayClass .long, Cond.fieldLink RX6 18 "LikeNets$Told" "k" "[J", Cond.fieldLink RX6 22 "LikeNets$Told" "t" "[J", Cond.fieldLink RX6 25 "LikeNets$Told" "scaled" "[J", Cond.fieldLink RX6 28 "LikeNets$Told" "walkRow" "[J", Cond.fieldLink RX6 31 "LikeNets$Told" "roots" "[I", Cond.fieldLink RX6 34 "LikeNets$Told" "times" "[I", Cond.methodLink RX6 37 yX6_lay, Cond.instanceMethod yX6_lay, Cond.selects RX6 yX6_lay yX6_lay, Cond.code yX6_lay cX6_lay 3 none, Cond.fieldLink RX6 41 "LikeNets$Told" "length" "I", Cond.fieldLink RX6 51 "LikeNets$Told" "judged" "Z", Cond.methodLink RX6 45 yJ7_fill_53178, Cond.static yJ7_fill_53178, Cond.initialized RJ7, Cond.code yJ7_fill_53178 cJ7_fill_53178 4 none, Cond.methodLink RX8 66 yX4_init, Cond.instanceMethod yX4_init, Cond.code yX4_init cX4_init 1 none, Cond.methodLink RX4 3 objectInit]
def wsX8_init_r5 : List Cond := [Cond.fieldLink RX4 9 "LikeNets$Search" "balls" "[I", Cond.fieldLink RX4 15 "LikeNets$Search" "taken" "[I", Cond.fieldLink RX4 18 "LikeNets$Search" "untried" "[I", Cond.fieldLink RX4 21 "LikeNets$Search" "reach" "I", Cond.methodLink RX8 73 yX3_init, Cond.instanceMethod yX3_init, Cond.code yX3_init cX3_init 1 none, Cond.methodLink RX3 3 objectInit, Cond.fieldLink RX3 9 "LikeNets$Pairs" "sorts" "[I", Cond.fieldLink RX3 15 "LikeNets$Pairs" "parted" "[I", Cond.fieldLink RX3 18 "LikeNets$Pairs" "firsts" "[I", Cond.fieldLink RX3 21 "LikeNets$Pairs" "heads" "[I", Cond.fieldLink RX3 24 "LikeNets$Pairs" "nexts" "[I", Cond.fieldLink RX3 27 "LikeNets$Pairs" "sums" "[J", Cond.fieldLink RX3 31 "LikeNets$Pairs" "keys" "[I", Cond.fieldLink RX3 34 "LikeNets$Pairs" "otherKeys" "[I"]
def wsX8_init : List Cond := .code yX8_init cX8_init 2 none :: ((wsX8_init_r1 ++ (wsX8_init_r2 ++ (wsX8_init_r3 ++ (wsX8_init_r4 ++ wsX8_init_r5)))) ++ wsX80 ++ wsX50 ++ wsX20 ++ wsX10 ++ wsX70 ++ wsX00 ++ wsX60 ++ wsX40 ++ wsX30)
def wsX8_isSheet : List Cond := .code yX8_isSheet cX8_isSheet 1 (some .boolean) :: ([])
def wsX8_sheet : List Cond := .code yX8_sheet cX8_sheet 4 (some .int) :: ([.fieldLink RX8 11 "LikeNets" "sheets" "[LLikeNets$Sheet;", .methodLink RX8 78 yX8_isSheet, .static yX8_isSheet, .initialized RX8, .code yX8_isSheet cX8_isSheet 1 (some .boolean), .methodLink RX8 82 yX5_lay, .instanceMethod yX5_lay, .selects RX5 yX5_lay yX5_lay, .initialized RX5, .code yX5_lay cX5_lay 3 none, .fieldLink RX5 15 "LikeNets$Sheet" "there" "Z", .fieldLink RX5 19 "LikeNets$Sheet" "sort" "I", .fieldLink RX5 23 "LikeNets$Sheet" "size" "I", .fieldLink RX5 9 "LikeNets$Sheet" "cells" "[I", .methodLink RX5 26 yJ7_fill_53178, .static yJ7_fill_53178, .initialized RJ7, .code yJ7_fill_53178 cJ7_fill_53178 4 none] ++ wsX80 ++ wsX50)
def wsX8_cell : List Cond := .code yX8_cell cX8_cell 4 (some .int) :: ([.fieldLink RX8 11 "LikeNets" "sheets" "[LLikeNets$Sheet;", .fieldLink RX8 86 "LikeNets$Sheet" "there" "Z", .methodLink RX8 78 yX8_isSheet, .static yX8_isSheet, .initialized RX8, .code yX8_isSheet cX8_isSheet 1 (some .boolean), .methodLink RX8 90 yX5_has, .instanceMethod yX5_has, .selects RX5 yX5_has yX5_has, .initialized RX5, .code yX5_has cX5_has 2 (some .boolean), .fieldLink RX5 23 "LikeNets$Sheet" "size" "I", .methodLink RX8 93 yX5_write, .instanceMethod yX5_write, .selects RX5 yX5_write yX5_write, .code yX5_write cX5_write 3 none, .fieldLink RX5 19 "LikeNets$Sheet" "sort" "I", .fieldLink RX5 9 "LikeNets$Sheet" "cells" "[I"] ++ wsX80 ++ wsX50)
def wsX8_lose : List Cond := .code yX8_lose cX8_lose 2 (some .int) :: ([.fieldLink RX8 11 "LikeNets" "sheets" "[LLikeNets$Sheet;", .fieldLink RX8 86 "LikeNets$Sheet" "there" "Z", .methodLink RX8 78 yX8_isSheet, .static yX8_isSheet, .initialized RX8, .code yX8_isSheet cX8_isSheet 1 (some .boolean)] ++ wsX80 ++ wsX50)
def wsX8_forget : List Cond := .code yX8_forget cX8_forget 1 none :: ([.fieldLink RX8 46 "LikeNets" "ways" "LLikeNets$Ways;", .fieldLink RX8 316 "LikeNets$Ways" "ready" "Z", .fieldLink RX8 53 "LikeNets" "likeness" "LLikeNets$Likeness;", .fieldLink RX8 319 "LikeNets$Likeness" "ready" "Z", .fieldLink RX8 74 "LikeNets" "pairs" "LLikeNets$Pairs;", .fieldLink RX8 320 "LikeNets$Pairs" "ready" "Z", .fieldLink RX8 67 "LikeNets" "search" "LLikeNets$Search;", .fieldLink RX8 288 "LikeNets$Search" "reach" "I"] ++ wsX80 ++ wsX70 ++ wsX00 ++ wsX30 ++ wsX40)
def wsX8_net_r1 : List Cond := [Cond.fieldLink RX8 19 "LikeNets" "now" "LLikeNets$Net;", Cond.methodLink RX8 96 yX2_empty, Cond.instanceMethod yX2_empty, Cond.selects RX2 yX2_empty yX2_empty, Cond.initialized RX2, Cond.code yX2_empty cX2_empty 2 none, Cond.fieldLink RX2 15 "LikeNets$Net" "size" "I", Cond.fieldLink RX2 9 "LikeNets$Net" "near" "[I", Cond.methodLink RX2 19 yJ7_fill_53178, Cond.static yJ7_fill_53178, Cond.initialized RJ7, Cond.code yJ7_fill_53178 cJ7_fill_53178 4 none, Cond.methodLink RX8 100 yX8_forget, Cond.instanceMethod yX8_forget, Cond.selects RX8 yX8_forget yX8_forget, Cond.initialized RX8, Cond.code yX8_forget cX8_forget 1 none, Cond.fieldLink RX8 46 "LikeNets" "ways" "LLikeNets$Ways;", Cond.fieldLink RX8 316 "LikeNets$Ways" "ready" "Z", Cond.fieldLink RX8 53 "LikeNets" "likeness" "LLikeNets$Likeness;", Cond.fieldLink RX8 319 "LikeNets$Likeness" "ready" "Z", Cond.fieldLink RX8 74 "LikeNets" "pairs" "LLikeNets$Pairs;", Cond.fieldLink RX8 320 "LikeNets$Pairs" "ready" "Z", Cond.fieldLink RX8 67 "LikeNets" "search" "LLikeNets$Search;"]
def wsX8_net_r2 : List Cond := [Cond.fieldLink RX8 288 "LikeNets$Search" "reach" "I"]
def wsX8_net : List Cond := .code yX8_net cX8_net 2 (some .int) :: ((wsX8_net_r1 ++ wsX8_net_r2) ++ wsX80 ++ wsX20 ++ wsX70 ++ wsX00 ++ wsX30 ++ wsX40)
def wsX8_road_r1 : List Cond := [Cond.fieldLink RX8 19 "LikeNets" "now" "LLikeNets$Net;", Cond.methodLink RX8 103 yX2_mayJoin, Cond.instanceMethod yX2_mayJoin, Cond.selects RX2 yX2_mayJoin yX2_mayJoin, Cond.initialized RX2, Cond.code yX2_mayJoin cX2_mayJoin 3 (some .boolean), Cond.methodLink RX2 31 yX2_has, Cond.instanceMethod yX2_has, Cond.selects RX2 yX2_has yX2_has, Cond.code yX2_has cX2_has 2 (some .boolean), Cond.fieldLink RX2 15 "LikeNets$Net" "size" "I", Cond.methodLink RX8 107 yX2_areJoined, Cond.instanceMethod yX2_areJoined, Cond.selects RX2 yX2_areJoined yX2_areJoined, Cond.code yX2_areJoined cX2_areJoined 3 (some .boolean), Cond.fieldLink RX2 9 "LikeNets$Net" "near" "[I", Cond.static yX8_isIn, Cond.initialized RX8, Cond.code yX8_isIn cX8_isIn 2 (some .boolean), Cond.methodLink RX8 110 yX2_join, Cond.instanceMethod yX2_join, Cond.selects RX2 yX2_join yX2_join, Cond.code yX2_join cX2_join 3 none, Cond.methodLink RX2 39 yX2_mayJoin]
def wsX8_road_r2 : List Cond := [Cond.methodLink RX8 113 yX2_part, Cond.instanceMethod yX2_part, Cond.selects RX2 yX2_part yX2_part, Cond.code yX2_part cX2_part 3 none, Cond.methodLink RX8 100 yX8_forget, Cond.instanceMethod yX8_forget, Cond.selects RX8 yX8_forget yX8_forget, Cond.code yX8_forget cX8_forget 1 none, Cond.fieldLink RX8 46 "LikeNets" "ways" "LLikeNets$Ways;", Cond.fieldLink RX8 316 "LikeNets$Ways" "ready" "Z", Cond.fieldLink RX8 53 "LikeNets" "likeness" "LLikeNets$Likeness;", Cond.fieldLink RX8 319 "LikeNets$Likeness" "ready" "Z", Cond.fieldLink RX8 74 "LikeNets" "pairs" "LLikeNets$Pairs;", Cond.fieldLink RX8 320 "LikeNets$Pairs" "ready" "Z", Cond.fieldLink RX8 67 "LikeNets" "search" "LLikeNets$Search;", Cond.fieldLink RX8 288 "LikeNets$Search" "reach" "I"]
def wsX8_road : List Cond := .code yX8_road cX8_road 4 (some .int) :: ((wsX8_road_r1 ++ wsX8_road_r2) ++ wsX80 ++ wsX20 ++ wsX70 ++ wsX00 ++ wsX30 ++ wsX40)
def wsX8_mayLoad : List Cond := .code yX8_mayLoad cX8_mayLoad 6 (some .boolean) :: ([.constantLong RX8 313 (2), .fieldLink RX8 315 "LikeNets$Sheet" "size" "I", .fieldLink RX8 19 "LikeNets" "now" "LLikeNets$Net;", .methodLink RX8 124 yX5_read, .instanceMethod yX5_read, .selects RX5 yX5_read yX5_read, .initialized RX5, .code yX5_read cX5_read 2 (some .int), .fieldLink RX5 9 "LikeNets$Sheet" "cells" "[I", .methodLink RX5 32 yX5_has, .instanceMethod yX5_has, .selects RX5 yX5_has yX5_has, .code yX5_has cX5_has 2 (some .boolean), .fieldLink RX5 23 "LikeNets$Sheet" "size" "I", .methodLink RX8 103 yX2_mayJoin, .instanceMethod yX2_mayJoin, .selects RX2 yX2_mayJoin yX2_mayJoin, .initialized RX2, .code yX2_mayJoin cX2_mayJoin 3 (some .boolean), .methodLink RX2 31 yX2_has, .instanceMethod yX2_has, .selects RX2 yX2_has yX2_has, .code yX2_has cX2_has 2 (some .boolean), .fieldLink RX2 15 "LikeNets$Net" "size" "I"] ++ wsX50 ++ wsX80 ++ wsX20)
def wsX8_load_r1 : List Cond := [Cond.fieldLink RX8 11 "LikeNets" "sheets" "[LLikeNets$Sheet;", Cond.fieldLink RX8 86 "LikeNets$Sheet" "there" "Z", Cond.fieldLink RX8 19 "LikeNets" "now" "LLikeNets$Net;", Cond.methodLink RX8 78 yX8_isSheet, Cond.static yX8_isSheet, Cond.initialized RX8, Cond.code yX8_isSheet cX8_isSheet 1 (some .boolean), Cond.methodLink RX8 116 yX8_mayLoad, Cond.instanceMethod yX8_mayLoad, Cond.selects RX8 yX8_mayLoad yX8_mayLoad, Cond.code yX8_mayLoad cX8_mayLoad 6 (some .boolean), Cond.constantLong RX8 313 (2), Cond.fieldLink RX8 315 "LikeNets$Sheet" "size" "I", Cond.methodLink RX8 124 yX5_read, Cond.instanceMethod yX5_read, Cond.selects RX5 yX5_read yX5_read, Cond.initialized RX5, Cond.code yX5_read cX5_read 2 (some .int), Cond.fieldLink RX5 9 "LikeNets$Sheet" "cells" "[I", Cond.methodLink RX5 32 yX5_has, Cond.instanceMethod yX5_has, Cond.selects RX5 yX5_has yX5_has, Cond.code yX5_has cX5_has 2 (some .boolean), Cond.fieldLink RX5 23 "LikeNets$Sheet" "size" "I"]
def wsX8_load_r2 : List Cond := [Cond.methodLink RX8 103 yX2_mayJoin, Cond.instanceMethod yX2_mayJoin, Cond.selects RX2 yX2_mayJoin yX2_mayJoin, Cond.initialized RX2, Cond.code yX2_mayJoin cX2_mayJoin 3 (some .boolean), Cond.methodLink RX2 31 yX2_has, Cond.instanceMethod yX2_has, Cond.selects RX2 yX2_has yX2_has, Cond.code yX2_has cX2_has 2 (some .boolean), Cond.fieldLink RX2 15 "LikeNets$Net" "size" "I", Cond.methodLink RX8 120 yX2_roads, Cond.instanceMethod yX2_roads, Cond.selects RX2 yX2_roads yX2_roads, Cond.code yX2_roads cX2_roads 3 (some .int), Cond.methodLink RX2 48 yX2_fullness, Cond.instanceMethod yX2_fullness, Cond.selects RX2 yX2_fullness yX2_fullness, Cond.code yX2_fullness cX2_fullness 2 (some .int), Cond.fieldLink RX2 9 "LikeNets$Net" "near" "[I", Cond.methodLink RX2 42 yJ6_bitCount_0f7a4, Cond.static yJ6_bitCount_0f7a4, Cond.initialized RJ6, Cond.code yJ6_bitCount_0f7a4 cJ6_bitCount_0f7a4 1 (some .int), Cond.constant RJ6 265 (1431655765)]
def wsX8_load_r3 : List Cond := [Cond.constant RJ6 266 (858993459), Cond.constant RJ6 267 (252645135), Cond.methodLink RX8 110 yX2_join, Cond.instanceMethod yX2_join, Cond.selects RX2 yX2_join yX2_join, Cond.code yX2_join cX2_join 3 none, Cond.methodLink RX2 39 yX2_mayJoin, Cond.methodLink RX8 100 yX8_forget, Cond.instanceMethod yX8_forget, Cond.selects RX8 yX8_forget yX8_forget, Cond.code yX8_forget cX8_forget 1 none, Cond.fieldLink RX8 46 "LikeNets" "ways" "LLikeNets$Ways;", Cond.fieldLink RX8 316 "LikeNets$Ways" "ready" "Z", Cond.fieldLink RX8 53 "LikeNets" "likeness" "LLikeNets$Likeness;", Cond.fieldLink RX8 319 "LikeNets$Likeness" "ready" "Z", Cond.fieldLink RX8 74 "LikeNets" "pairs" "LLikeNets$Pairs;", Cond.fieldLink RX8 320 "LikeNets$Pairs" "ready" "Z", Cond.fieldLink RX8 67 "LikeNets" "search" "LLikeNets$Search;", Cond.fieldLink RX8 288 "LikeNets$Search" "reach" "I"]
def wsX8_load : List Cond := .code yX8_load cX8_load 7 (some .int) :: ((wsX8_load_r1 ++ (wsX8_load_r2 ++ wsX8_load_r3)) ++ wsX80 ++ wsX50 ++ wsX20 ++ wsX70 ++ wsX00 ++ wsX30 ++ wsX40)
def wsX8_joined : List Cond := .code yX8_joined cX8_joined 3 (some .boolean) :: ([.fieldLink RX8 19 "LikeNets" "now" "LLikeNets$Net;", .methodLink RX8 107 yX2_areJoined, .instanceMethod yX2_areJoined, .selects RX2 yX2_areJoined yX2_areJoined, .initialized RX2, .code yX2_areJoined cX2_areJoined 3 (some .boolean), .fieldLink RX2 9 "LikeNets$Net" "near" "[I", .methodLink RX2 31 yX2_has, .instanceMethod yX2_has, .selects RX2 yX2_has yX2_has, .code yX2_has cX2_has 2 (some .boolean), .fieldLink RX2 15 "LikeNets$Net" "size" "I", .static yX8_isIn, .initialized RX8, .code yX8_isIn cX8_isIn 2 (some .boolean)] ++ wsX80 ++ wsX20)
def wsX8_adopt_r1 : List Cond := [Cond.fieldLink RX8 19 "LikeNets" "now" "LLikeNets$Net;", Cond.fieldLink RX8 23 "LikeNets" "made" "LLikeNets$Net;", Cond.fieldLink RX8 152 "LikeNets$Net" "size" "I", Cond.methodLink RX8 281 yX2_copyFrom, Cond.instanceMethod yX2_copyFrom, Cond.selects RX2 yX2_copyFrom yX2_copyFrom, Cond.initialized RX2, Cond.code yX2_copyFrom cX2_copyFrom 2 none, Cond.fieldLink RX2 15 "LikeNets$Net" "size" "I", Cond.fieldLink RX2 9 "LikeNets$Net" "near" "[I", Cond.methodLink RX2 25 arraycopyName, Cond.native arraycopyName, Cond.static arraycopyName, Cond.initialized "java/lang/System", Cond.methodLink RX8 100 yX8_forget, Cond.instanceMethod yX8_forget, Cond.selects RX8 yX8_forget yX8_forget, Cond.initialized RX8, Cond.code yX8_forget cX8_forget 1 none, Cond.fieldLink RX8 46 "LikeNets" "ways" "LLikeNets$Ways;", Cond.fieldLink RX8 316 "LikeNets$Ways" "ready" "Z", Cond.fieldLink RX8 53 "LikeNets" "likeness" "LLikeNets$Likeness;", Cond.fieldLink RX8 319 "LikeNets$Likeness" "ready" "Z", Cond.fieldLink RX8 74 "LikeNets" "pairs" "LLikeNets$Pairs;"]
def wsX8_adopt_r2 : List Cond := [Cond.fieldLink RX8 320 "LikeNets$Pairs" "ready" "Z", Cond.fieldLink RX8 67 "LikeNets" "search" "LLikeNets$Search;", Cond.fieldLink RX8 288 "LikeNets$Search" "reach" "I"]
def wsX8_adopt : List Cond := .code yX8_adopt cX8_adopt 1 (some .int) :: ((wsX8_adopt_r1 ++ wsX8_adopt_r2) ++ wsX80 ++ wsX20 ++ wsX70 ++ wsX00 ++ wsX30 ++ wsX40)
def wsX8_build_r1 : List Cond := [Cond.constantLong RX8 136 (32), Cond.fieldLink RX8 23 "LikeNets" "made" "LLikeNets$Net;", Cond.fieldLink RX8 39 "LikeNets" "makings" "LLikeNets$Makings;", Cond.methodLink RX8 128 yX1_mayBe, Cond.static yX1_mayBe, Cond.initialized RX1, Cond.code yX1_mayBe cX1_mayBe 3 (some .boolean), Cond.methodLink RX8 132 yX1_size, Cond.static yX1_size, Cond.code yX1_size cX1_size 3 (some .long), Cond.methodLink RX1 15 yX1_countWords, Cond.static yX1_countWords, Cond.code yX1_countWords cX1_countWords 5 (some .long), Cond.constantLong RX1 22 (32), Cond.methodLink RX1 19 yX1_countSets, Cond.static yX1_countSets, Cond.code yX1_countSets cX1_countSets 5 (some .long), Cond.methodLink RX8 96 yX2_empty, Cond.instanceMethod yX2_empty, Cond.selects RX2 yX2_empty yX2_empty, Cond.initialized RX2, Cond.code yX2_empty cX2_empty 2 none, Cond.fieldLink RX2 15 "LikeNets$Net" "size" "I", Cond.fieldLink RX2 9 "LikeNets$Net" "near" "[I"]
def wsX8_build_r2 : List Cond := [Cond.methodLink RX2 19 yJ7_fill_53178, Cond.static yJ7_fill_53178, Cond.initialized RJ7, Cond.code yJ7_fill_53178 cJ7_fill_53178 4 none, Cond.methodLink RX8 138 yX1_lay, Cond.instanceMethod yX1_lay, Cond.selects RX1 yX1_lay yX1_lay, Cond.code yX1_lay cX1_lay 5 none, Cond.fieldLink RX1 28 "LikeNets$Net" "size" "I", Cond.methodLink RX1 24 yX1_layWords, Cond.static yX1_layWords, Cond.code yX1_layWords cX1_layWords 4 none, Cond.methodLink RX1 42 yX1_unlikeLetters, Cond.static yX1_unlikeLetters, Cond.code yX1_unlikeLetters cX1_unlikeLetters 7 (some .int), Cond.methodLink RX1 46 yX2_join, Cond.instanceMethod yX2_join, Cond.selects RX2 yX2_join yX2_join, Cond.code yX2_join cX2_join 3 none, Cond.methodLink RX2 39 yX2_mayJoin, Cond.instanceMethod yX2_mayJoin, Cond.selects RX2 yX2_mayJoin yX2_mayJoin, Cond.code yX2_mayJoin cX2_mayJoin 3 (some .boolean), Cond.methodLink RX2 31 yX2_has]
def wsX8_build_r3 : List Cond := [Cond.instanceMethod yX2_has, Cond.selects RX2 yX2_has yX2_has, Cond.code yX2_has cX2_has 2 (some .boolean), Cond.methodLink RX1 34 yX1_listSets, Cond.instanceMethod yX1_listSets, Cond.selects RX1 yX1_listSets yX1_listSets, Cond.code yX1_listSets cX1_listSets 6 none, Cond.fieldLink RX1 9 "LikeNets$Makings" "sets" "[I", Cond.methodLink RX1 49 yX1_nextSet, Cond.static yX1_nextSet, Cond.code yX1_nextSet cX1_nextSet 6 (some .long), Cond.methodLink RX1 53 yJ13_bitCount_95d88, Cond.static yJ13_bitCount_95d88, Cond.initialized RJ13, Cond.code yJ13_bitCount_95d88 cJ13_bitCount_95d88 2 (some .int), Cond.constantLong RJ13 314 (6148914691236517205), Cond.constantLong RJ13 316 (3689348814741910323), Cond.constantLong RJ13 318 (1085102592571150095), Cond.methodLink RX1 38 yX1_layPairs, Cond.instanceMethod yX1_layPairs, Cond.selects RX1 yX1_layPairs yX1_layPairs, Cond.code yX1_layPairs cX1_layPairs 6 none, Cond.methodLink RX1 59 yX1_isRoad, Cond.instanceMethod yX1_isRoad]
def wsX8_build_r4 : List Cond := [Cond.selects RX1 yX1_isRoad yX1_isRoad, Cond.code yX1_isRoad cX1_isRoad 6 (some .boolean), Cond.methodLink RX1 63 yJ6_bitCount_0f7a4, Cond.static yJ6_bitCount_0f7a4, Cond.initialized RJ6, Cond.code yJ6_bitCount_0f7a4 cJ6_bitCount_0f7a4 1 (some .int), Cond.constant RJ6 265 (1431655765), Cond.constant RJ6 266 (858993459), Cond.constant RJ6 267 (252645135), Cond.methodLink RX8 141 yX8_adopt, Cond.instanceMethod yX8_adopt, Cond.selects RX8 yX8_adopt yX8_adopt, Cond.initialized RX8, Cond.code yX8_adopt cX8_adopt 1 (some .int), Cond.fieldLink RX8 19 "LikeNets" "now" "LLikeNets$Net;", Cond.fieldLink RX8 152 "LikeNets$Net" "size" "I", Cond.methodLink RX8 281 yX2_copyFrom, Cond.instanceMethod yX2_copyFrom, Cond.selects RX2 yX2_copyFrom yX2_copyFrom, Cond.code yX2_copyFrom cX2_copyFrom 2 none, Cond.methodLink RX2 25 arraycopyName, Cond.native arraycopyName, Cond.static arraycopyName, Cond.initialized "java/lang/System"]
def wsX8_build_r5 : List Cond := [Cond.methodLink RX8 100 yX8_forget, Cond.instanceMethod yX8_forget, Cond.selects RX8 yX8_forget yX8_forget, Cond.code yX8_forget cX8_forget 1 none, Cond.fieldLink RX8 46 "LikeNets" "ways" "LLikeNets$Ways;", Cond.fieldLink RX8 316 "LikeNets$Ways" "ready" "Z", Cond.fieldLink RX8 53 "LikeNets" "likeness" "LLikeNets$Likeness;", Cond.fieldLink RX8 319 "LikeNets$Likeness" "ready" "Z", Cond.fieldLink RX8 74 "LikeNets" "pairs" "LLikeNets$Pairs;", Cond.fieldLink RX8 320 "LikeNets$Pairs" "ready" "Z", Cond.fieldLink RX8 67 "LikeNets" "search" "LLikeNets$Search;", Cond.fieldLink RX8 288 "LikeNets$Search" "reach" "I"]
def wsX8_build : List Cond := .code yX8_build cX8_build 6 (some .int) :: ((wsX8_build_r1 ++ (wsX8_build_r2 ++ (wsX8_build_r3 ++ (wsX8_build_r4 ++ wsX8_build_r5)))) ++ wsX80 ++ wsX20 ++ wsX10 ++ wsX70 ++ wsX00 ++ wsX30 ++ wsX40)
def wsX8_measure_r1 : List Cond := [Cond.fieldLink RX8 46 "LikeNets" "ways" "LLikeNets$Ways;", Cond.fieldLink RX8 316 "LikeNets$Ways" "ready" "Z", Cond.fieldLink RX8 19 "LikeNets" "now" "LLikeNets$Net;", Cond.methodLink RX8 321 yX7_measure, Cond.instanceMethod yX7_measure, Cond.selects RX7 yX7_measure yX7_measure, Cond.initialized RX7, Cond.code yX7_measure cX7_measure 4 none, Cond.fieldLink RX7 21 "LikeNets$Net" "size" "I", Cond.fieldLink RX7 27 "LikeNets$Ways" "size" "I", Cond.fieldLink RX7 9 "LikeNets$Ways" "steps" "[I", Cond.fieldLink RX7 15 "LikeNets$Ways" "layers" "[I", Cond.methodLink RX7 38 Lib.Math.max.name, Cond.static Lib.Math.max.name, Cond.initialized "java/lang/Math", Cond.code Lib.Math.max.name Lib.Math.max.code 2 (some .int), Cond.fieldLink RX7 18 "LikeNets$Ways" "reached" "[I", Cond.fieldLink RX7 48 "LikeNets$Ways" "whole" "Z", Cond.fieldLink RX7 52 "LikeNets$Ways" "far" "I", Cond.fieldLink RX7 55 "LikeNets$Ways" "ready" "Z", Cond.methodLink RX7 28 yJ7_fill_53178, Cond.static yJ7_fill_53178, Cond.initialized RJ7, Cond.code yJ7_fill_53178 cJ7_fill_53178 4 none]
def wsX8_measure_r2 : List Cond := [Cond.methodLink RX7 34 yX7_spread, Cond.instanceMethod yX7_spread, Cond.selects RX7 yX7_spread yX7_spread, Cond.code yX7_spread cX7_spread 7 (some .int), Cond.methodLink RX7 58 yX7_noteSteps, Cond.instanceMethod yX7_noteSteps, Cond.selects RX7 yX7_noteSteps yX7_noteSteps, Cond.code yX7_noteSteps cX7_noteSteps 5 none, Cond.static yX8_isIn, Cond.initialized RX8, Cond.code yX8_isIn cX8_isIn 2 (some .boolean), Cond.methodLink RX7 62 yX2_around, Cond.instanceMethod yX2_around, Cond.selects RX2 yX2_around yX2_around, Cond.initialized RX2, Cond.code yX2_around cX2_around 4 (some .int), Cond.fieldLink RX2 15 "LikeNets$Net" "size" "I", Cond.fieldLink RX2 9 "LikeNets$Net" "near" "[I", Cond.static yX8_allOf, Cond.code yX8_allOf cX8_allOf 1 (some .int)]
def wsX8_measure : List Cond := .code yX8_measure cX8_measure 1 none :: ((wsX8_measure_r1 ++ wsX8_measure_r2) ++ wsX80 ++ wsX70 ++ wsX20)
def wsX8_way_r1 : List Cond := [Cond.fieldLink RX8 19 "LikeNets" "now" "LLikeNets$Net;", Cond.fieldLink RX8 46 "LikeNets" "ways" "LLikeNets$Ways;", Cond.methodLink RX8 144 yX2_has, Cond.instanceMethod yX2_has, Cond.selects RX2 yX2_has yX2_has, Cond.initialized RX2, Cond.code yX2_has cX2_has 2 (some .boolean), Cond.fieldLink RX2 15 "LikeNets$Net" "size" "I", Cond.methodLink RX8 145 yX8_measure, Cond.instanceMethod yX8_measure, Cond.selects RX8 yX8_measure yX8_measure, Cond.initialized RX8, Cond.code yX8_measure cX8_measure 1 none, Cond.fieldLink RX8 316 "LikeNets$Ways" "ready" "Z", Cond.methodLink RX8 321 yX7_measure, Cond.instanceMethod yX7_measure, Cond.selects RX7 yX7_measure yX7_measure, Cond.initialized RX7, Cond.code yX7_measure cX7_measure 4 none, Cond.fieldLink RX7 21 "LikeNets$Net" "size" "I", Cond.fieldLink RX7 27 "LikeNets$Ways" "size" "I", Cond.fieldLink RX7 9 "LikeNets$Ways" "steps" "[I", Cond.fieldLink RX7 15 "LikeNets$Ways" "layers" "[I", Cond.methodLink RX7 38 Lib.Math.max.name]
def wsX8_way_r2 : List Cond := [Cond.static Lib.Math.max.name, Cond.initialized "java/lang/Math", Cond.code Lib.Math.max.name Lib.Math.max.code 2 (some .int), Cond.fieldLink RX7 18 "LikeNets$Ways" "reached" "[I", Cond.fieldLink RX7 48 "LikeNets$Ways" "whole" "Z", Cond.fieldLink RX7 52 "LikeNets$Ways" "far" "I", Cond.fieldLink RX7 55 "LikeNets$Ways" "ready" "Z", Cond.methodLink RX7 28 yJ7_fill_53178, Cond.static yJ7_fill_53178, Cond.initialized RJ7, Cond.code yJ7_fill_53178 cJ7_fill_53178 4 none, Cond.methodLink RX7 34 yX7_spread, Cond.instanceMethod yX7_spread, Cond.selects RX7 yX7_spread yX7_spread, Cond.code yX7_spread cX7_spread 7 (some .int), Cond.methodLink RX7 58 yX7_noteSteps, Cond.instanceMethod yX7_noteSteps, Cond.selects RX7 yX7_noteSteps yX7_noteSteps, Cond.code yX7_noteSteps cX7_noteSteps 5 none, Cond.static yX8_isIn, Cond.code yX8_isIn cX8_isIn 2 (some .boolean), Cond.methodLink RX7 62 yX2_around, Cond.instanceMethod yX2_around, Cond.selects RX2 yX2_around yX2_around]
def wsX8_way_r3 : List Cond := [Cond.code yX2_around cX2_around 4 (some .int), Cond.fieldLink RX2 9 "LikeNets$Net" "near" "[I", Cond.static yX8_allOf, Cond.code yX8_allOf cX8_allOf 1 (some .int), Cond.methodLink RX8 148 yX7_between, Cond.instanceMethod yX7_between, Cond.selects RX7 yX7_between yX7_between, Cond.code yX7_between cX7_between 3 (some .int)]
def wsX8_way : List Cond := .code yX8_way cX8_way 4 (some .int) :: ((wsX8_way_r1 ++ (wsX8_way_r2 ++ wsX8_way_r3)) ++ wsX80 ++ wsX20 ++ wsX70)
def wsX8_oneIf : List Cond := .code yX8_oneIf cX8_oneIf 1 (some .int) :: ([])
def wsX8_isLike_r1 : List Cond := [Cond.fieldLink RX8 53 "LikeNets" "likeness" "LLikeNets$Likeness;", Cond.fieldLink RX8 319 "LikeNets$Likeness" "ready" "Z", Cond.fieldLink RX8 19 "LikeNets" "now" "LLikeNets$Net;", Cond.fieldLink RX8 46 "LikeNets" "ways" "LLikeNets$Ways;", Cond.fieldLink RX8 327 "LikeNets$Likeness" "holds" "Z", Cond.methodLink RX8 145 yX8_measure, Cond.instanceMethod yX8_measure, Cond.selects RX8 yX8_measure yX8_measure, Cond.initialized RX8, Cond.code yX8_measure cX8_measure 1 none, Cond.fieldLink RX8 316 "LikeNets$Ways" "ready" "Z", Cond.methodLink RX8 321 yX7_measure, Cond.instanceMethod yX7_measure, Cond.selects RX7 yX7_measure yX7_measure, Cond.initialized RX7, Cond.code yX7_measure cX7_measure 4 none, Cond.fieldLink RX7 21 "LikeNets$Net" "size" "I", Cond.fieldLink RX7 27 "LikeNets$Ways" "size" "I", Cond.fieldLink RX7 9 "LikeNets$Ways" "steps" "[I", Cond.fieldLink RX7 15 "LikeNets$Ways" "layers" "[I", Cond.methodLink RX7 38 Lib.Math.max.name, Cond.static Lib.Math.max.name, Cond.initialized "java/lang/Math", Cond.code Lib.Math.max.name Lib.Math.max.code 2 (some .int)]
def wsX8_isLike_r2 : List Cond := [Cond.fieldLink RX7 18 "LikeNets$Ways" "reached" "[I", Cond.fieldLink RX7 48 "LikeNets$Ways" "whole" "Z", Cond.fieldLink RX7 52 "LikeNets$Ways" "far" "I", Cond.fieldLink RX7 55 "LikeNets$Ways" "ready" "Z", Cond.methodLink RX7 28 yJ7_fill_53178, Cond.static yJ7_fill_53178, Cond.initialized RJ7, Cond.code yJ7_fill_53178 cJ7_fill_53178 4 none, Cond.methodLink RX7 34 yX7_spread, Cond.instanceMethod yX7_spread, Cond.selects RX7 yX7_spread yX7_spread, Cond.code yX7_spread cX7_spread 7 (some .int), Cond.methodLink RX7 58 yX7_noteSteps, Cond.instanceMethod yX7_noteSteps, Cond.selects RX7 yX7_noteSteps yX7_noteSteps, Cond.code yX7_noteSteps cX7_noteSteps 5 none, Cond.static yX8_isIn, Cond.code yX8_isIn cX8_isIn 2 (some .boolean), Cond.methodLink RX7 62 yX2_around, Cond.instanceMethod yX2_around, Cond.selects RX2 yX2_around yX2_around, Cond.initialized RX2, Cond.code yX2_around cX2_around 4 (some .int), Cond.fieldLink RX2 15 "LikeNets$Net" "size" "I"]
def wsX8_isLike_r3 : List Cond := [Cond.fieldLink RX2 9 "LikeNets$Net" "near" "[I", Cond.static yX8_allOf, Cond.code yX8_allOf cX8_allOf 1 (some .int), Cond.methodLink RX8 323 yX0_look, Cond.instanceMethod yX0_look, Cond.selects RX0 yX0_look yX0_look, Cond.initialized RX0, Cond.code yX0_look cX0_look 5 none, Cond.fieldLink RX0 21 "LikeNets$Likeness" "ready" "Z", Cond.fieldLink RX0 25 "LikeNets$Ways" "whole" "Z", Cond.fieldLink RX0 30 "LikeNets$Likeness" "holds" "Z", Cond.fieldLink RX0 9 "LikeNets$Likeness" "c" "[I", Cond.fieldLink RX0 39 "LikeNets$Net" "size" "I", Cond.fieldLink RX0 49 "LikeNets$Likeness" "clashFrom" "I", Cond.fieldLink RX0 52 "LikeNets$Likeness" "clashTo" "I", Cond.methodLink RX0 33 yJ7_fill_53178, Cond.methodLink RX0 45 yX0_fits, Cond.instanceMethod yX0_fits, Cond.selects RX0 yX0_fits yX0_fits, Cond.code yX0_fits cX0_fits 9 (some .boolean), Cond.fieldLink RX0 59 "LikeNets$Net" "near" "[I", Cond.fieldLink RX0 15 "LikeNets$Likeness" "a" "[I", Cond.fieldLink RX0 18 "LikeNets$Likeness" "b" "[I", Cond.methodLink RX0 55 yX7_between]
def wsX8_isLike_r4 : List Cond := [Cond.instanceMethod yX7_between, Cond.selects RX7 yX7_between yX7_between, Cond.code yX7_between cX7_between 3 (some .int), Cond.methodLink RX0 62 yX7_postsAt, Cond.instanceMethod yX7_postsAt, Cond.selects RX7 yX7_postsAt yX7_postsAt, Cond.code yX7_postsAt cX7_postsAt 3 (some .int), Cond.methodLink RX0 65 yJ6_bitCount_0f7a4, Cond.static yJ6_bitCount_0f7a4, Cond.initialized RJ6, Cond.code yJ6_bitCount_0f7a4 cJ6_bitCount_0f7a4 1 (some .int), Cond.constant RJ6 265 (1431655765), Cond.constant RJ6 266 (858993459), Cond.constant RJ6 267 (252645135)]
def wsX8_isLike : List Cond := .code yX8_isLike cX8_isLike 1 (some .boolean) :: ((wsX8_isLike_r1 ++ (wsX8_isLike_r2 ++ (wsX8_isLike_r3 ++ wsX8_isLike_r4))) ++ wsX80 ++ wsX00 ++ wsX70 ++ wsX20)
def wsX8_many_r1 : List Cond := [Cond.fieldLink RX8 19 "LikeNets" "now" "LLikeNets$Net;", Cond.fieldLink RX8 152 "LikeNets$Net" "size" "I", Cond.fieldLink RX8 46 "LikeNets" "ways" "LLikeNets$Ways;", Cond.fieldLink RX8 158 "LikeNets$Ways" "whole" "Z", Cond.fieldLink RX8 165 "LikeNets$Ways" "far" "I", Cond.methodLink RX8 145 yX8_measure, Cond.instanceMethod yX8_measure, Cond.selects RX8 yX8_measure yX8_measure, Cond.initialized RX8, Cond.code yX8_measure cX8_measure 1 none, Cond.fieldLink RX8 316 "LikeNets$Ways" "ready" "Z", Cond.methodLink RX8 321 yX7_measure, Cond.instanceMethod yX7_measure, Cond.selects RX7 yX7_measure yX7_measure, Cond.initialized RX7, Cond.code yX7_measure cX7_measure 4 none, Cond.fieldLink RX7 21 "LikeNets$Net" "size" "I", Cond.fieldLink RX7 27 "LikeNets$Ways" "size" "I", Cond.fieldLink RX7 9 "LikeNets$Ways" "steps" "[I", Cond.fieldLink RX7 15 "LikeNets$Ways" "layers" "[I", Cond.methodLink RX7 38 Lib.Math.max.name, Cond.static Lib.Math.max.name, Cond.initialized "java/lang/Math", Cond.code Lib.Math.max.name Lib.Math.max.code 2 (some .int)]
def wsX8_many_r2 : List Cond := [Cond.fieldLink RX7 18 "LikeNets$Ways" "reached" "[I", Cond.fieldLink RX7 48 "LikeNets$Ways" "whole" "Z", Cond.fieldLink RX7 52 "LikeNets$Ways" "far" "I", Cond.fieldLink RX7 55 "LikeNets$Ways" "ready" "Z", Cond.methodLink RX7 28 yJ7_fill_53178, Cond.static yJ7_fill_53178, Cond.initialized RJ7, Cond.code yJ7_fill_53178 cJ7_fill_53178 4 none, Cond.methodLink RX7 34 yX7_spread, Cond.instanceMethod yX7_spread, Cond.selects RX7 yX7_spread yX7_spread, Cond.code yX7_spread cX7_spread 7 (some .int), Cond.methodLink RX7 58 yX7_noteSteps, Cond.instanceMethod yX7_noteSteps, Cond.selects RX7 yX7_noteSteps yX7_noteSteps, Cond.code yX7_noteSteps cX7_noteSteps 5 none, Cond.static yX8_isIn, Cond.code yX8_isIn cX8_isIn 2 (some .boolean), Cond.methodLink RX7 62 yX2_around, Cond.instanceMethod yX2_around, Cond.selects RX2 yX2_around yX2_around, Cond.initialized RX2, Cond.code yX2_around cX2_around 4 (some .int), Cond.fieldLink RX2 15 "LikeNets$Net" "size" "I"]
def wsX8_many_r3 : List Cond := [Cond.fieldLink RX2 9 "LikeNets$Net" "near" "[I", Cond.static yX8_allOf, Cond.code yX8_allOf cX8_allOf 1 (some .int), Cond.methodLink RX8 120 yX2_roads, Cond.instanceMethod yX2_roads, Cond.selects RX2 yX2_roads yX2_roads, Cond.code yX2_roads cX2_roads 3 (some .int), Cond.methodLink RX2 48 yX2_fullness, Cond.instanceMethod yX2_fullness, Cond.selects RX2 yX2_fullness yX2_fullness, Cond.code yX2_fullness cX2_fullness 2 (some .int), Cond.methodLink RX2 42 yJ6_bitCount_0f7a4, Cond.static yJ6_bitCount_0f7a4, Cond.initialized RJ6, Cond.code yJ6_bitCount_0f7a4 cJ6_bitCount_0f7a4 1 (some .int), Cond.constant RJ6 265 (1431655765), Cond.constant RJ6 266 (858993459), Cond.constant RJ6 267 (252645135), Cond.methodLink RX8 155 yX7_pieces, Cond.instanceMethod yX7_pieces, Cond.selects RX7 yX7_pieces yX7_pieces, Cond.code yX7_pieces cX7_pieces 3 (some .int), Cond.static yX8_lowestBit, Cond.code yX8_lowestBit cX8_lowestBit 1 (some .int)]
def wsX8_many_r4 : List Cond := [Cond.methodLink RX8 204 yJ6_bitCount_0f7a4, Cond.methodLink RX8 161 yX8_oneIf, Cond.static yX8_oneIf, Cond.code yX8_oneIf cX8_oneIf 1 (some .int), Cond.methodLink RX8 168 yX7_shortestRing, Cond.instanceMethod yX7_shortestRing, Cond.selects RX7 yX7_shortestRing yX7_shortestRing, Cond.code yX7_shortestRing cX7_shortestRing 6 (some .int), Cond.methodLink RX7 75 yX7_ringSeen, Cond.instanceMethod yX7_ringSeen, Cond.selects RX7 yX7_ringSeen yX7_ringSeen, Cond.code yX7_ringSeen cX7_ringSeen 5 (some .int), Cond.fieldLink RX7 82 "LikeNets$Net" "near" "[I", Cond.methodLink RX7 79 yX7_between, Cond.instanceMethod yX7_between, Cond.selects RX7 yX7_between yX7_between, Cond.code yX7_between cX7_between 3 (some .int), Cond.methodLink RX7 69 yX7_postsAt, Cond.instanceMethod yX7_postsAt, Cond.selects RX7 yX7_postsAt yX7_postsAt, Cond.code yX7_postsAt cX7_postsAt 3 (some .int), Cond.methodLink RX7 85 yJ6_bitCount_0f7a4, Cond.methodLink RX8 172 yX2_isEven, Cond.instanceMethod yX2_isEven]
def wsX8_many_r5 : List Cond := [Cond.selects RX2 yX2_isEven yX2_isEven, Cond.code yX2_isEven cX2_isEven 2 (some .boolean), Cond.methodLink RX8 176 yX7_isOfSides, Cond.instanceMethod yX7_isOfSides, Cond.selects RX7 yX7_isOfSides yX7_isOfSides, Cond.code yX7_isOfSides cX7_isOfSides 5 (some .boolean), Cond.methodLink RX8 180 yX7_isFolded, Cond.instanceMethod yX7_isFolded, Cond.selects RX7 yX7_isFolded yX7_isFolded, Cond.code yX7_isFolded cX7_isFolded 3 (some .boolean), Cond.methodLink RX7 90 yX7_farGroup, Cond.instanceMethod yX7_farGroup, Cond.selects RX7 yX7_farGroup yX7_farGroup, Cond.code yX7_farGroup cX7_farGroup 2 (some .int), Cond.methodLink RX8 183 yX8_isLike, Cond.instanceMethod yX8_isLike, Cond.selects RX8 yX8_isLike yX8_isLike, Cond.code yX8_isLike cX8_isLike 1 (some .boolean), Cond.fieldLink RX8 53 "LikeNets" "likeness" "LLikeNets$Likeness;", Cond.fieldLink RX8 319 "LikeNets$Likeness" "ready" "Z", Cond.fieldLink RX8 327 "LikeNets$Likeness" "holds" "Z", Cond.methodLink RX8 323 yX0_look, Cond.instanceMethod yX0_look, Cond.selects RX0 yX0_look yX0_look]
def wsX8_many_r6 : List Cond := [Cond.initialized RX0, Cond.code yX0_look cX0_look 5 none, Cond.fieldLink RX0 21 "LikeNets$Likeness" "ready" "Z", Cond.fieldLink RX0 25 "LikeNets$Ways" "whole" "Z", Cond.fieldLink RX0 30 "LikeNets$Likeness" "holds" "Z", Cond.fieldLink RX0 9 "LikeNets$Likeness" "c" "[I", Cond.fieldLink RX0 39 "LikeNets$Net" "size" "I", Cond.fieldLink RX0 49 "LikeNets$Likeness" "clashFrom" "I", Cond.fieldLink RX0 52 "LikeNets$Likeness" "clashTo" "I", Cond.methodLink RX0 33 yJ7_fill_53178, Cond.methodLink RX0 45 yX0_fits, Cond.instanceMethod yX0_fits, Cond.selects RX0 yX0_fits yX0_fits, Cond.code yX0_fits cX0_fits 9 (some .boolean), Cond.fieldLink RX0 59 "LikeNets$Net" "near" "[I", Cond.fieldLink RX0 15 "LikeNets$Likeness" "a" "[I", Cond.fieldLink RX0 18 "LikeNets$Likeness" "b" "[I", Cond.methodLink RX0 55 yX7_between, Cond.methodLink RX0 62 yX7_postsAt, Cond.methodLink RX0 65 yJ6_bitCount_0f7a4]
def wsX8_many : List Cond := .code yX8_many cX8_many 2 (some .int) :: ((wsX8_many_r1 ++ (wsX8_many_r2 ++ (wsX8_many_r3 ++ (wsX8_many_r4 ++ (wsX8_many_r5 ++ wsX8_many_r6))))) ++ wsX80 ++ wsX20 ++ wsX70 ++ wsX00)
def wsX8_clash_r1 : List Cond := [Cond.fieldLink RX8 46 "LikeNets" "ways" "LLikeNets$Ways;", Cond.fieldLink RX8 158 "LikeNets$Ways" "whole" "Z", Cond.fieldLink RX8 53 "LikeNets" "likeness" "LLikeNets$Likeness;", Cond.fieldLink RX8 186 "LikeNets$Likeness" "clashFrom" "I", Cond.fieldLink RX8 189 "LikeNets$Likeness" "clashTo" "I", Cond.methodLink RX8 145 yX8_measure, Cond.instanceMethod yX8_measure, Cond.selects RX8 yX8_measure yX8_measure, Cond.initialized RX8, Cond.code yX8_measure cX8_measure 1 none, Cond.fieldLink RX8 316 "LikeNets$Ways" "ready" "Z", Cond.fieldLink RX8 19 "LikeNets" "now" "LLikeNets$Net;", Cond.methodLink RX8 321 yX7_measure, Cond.instanceMethod yX7_measure, Cond.selects RX7 yX7_measure yX7_measure, Cond.initialized RX7, Cond.code yX7_measure cX7_measure 4 none, Cond.fieldLink RX7 21 "LikeNets$Net" "size" "I", Cond.fieldLink RX7 27 "LikeNets$Ways" "size" "I", Cond.fieldLink RX7 9 "LikeNets$Ways" "steps" "[I", Cond.fieldLink RX7 15 "LikeNets$Ways" "layers" "[I", Cond.methodLink RX7 38 Lib.Math.max.name, Cond.static Lib.Math.max.name, Cond.initialized "java/lang/Math"]
def wsX8_clash_r2 : List Cond := [Cond.code Lib.Math.max.name Lib.Math.max.code 2 (some .int), Cond.fieldLink RX7 18 "LikeNets$Ways" "reached" "[I", Cond.fieldLink RX7 48 "LikeNets$Ways" "whole" "Z", Cond.fieldLink RX7 52 "LikeNets$Ways" "far" "I", Cond.fieldLink RX7 55 "LikeNets$Ways" "ready" "Z", Cond.methodLink RX7 28 yJ7_fill_53178, Cond.static yJ7_fill_53178, Cond.initialized RJ7, Cond.code yJ7_fill_53178 cJ7_fill_53178 4 none, Cond.methodLink RX7 34 yX7_spread, Cond.instanceMethod yX7_spread, Cond.selects RX7 yX7_spread yX7_spread, Cond.code yX7_spread cX7_spread 7 (some .int), Cond.methodLink RX7 58 yX7_noteSteps, Cond.instanceMethod yX7_noteSteps, Cond.selects RX7 yX7_noteSteps yX7_noteSteps, Cond.code yX7_noteSteps cX7_noteSteps 5 none, Cond.static yX8_isIn, Cond.code yX8_isIn cX8_isIn 2 (some .boolean), Cond.methodLink RX7 62 yX2_around, Cond.instanceMethod yX2_around, Cond.selects RX2 yX2_around yX2_around, Cond.initialized RX2, Cond.code yX2_around cX2_around 4 (some .int)]
def wsX8_clash_r3 : List Cond := [Cond.fieldLink RX2 15 "LikeNets$Net" "size" "I", Cond.fieldLink RX2 9 "LikeNets$Net" "near" "[I", Cond.static yX8_allOf, Cond.code yX8_allOf cX8_allOf 1 (some .int), Cond.methodLink RX8 183 yX8_isLike, Cond.instanceMethod yX8_isLike, Cond.selects RX8 yX8_isLike yX8_isLike, Cond.code yX8_isLike cX8_isLike 1 (some .boolean), Cond.fieldLink RX8 319 "LikeNets$Likeness" "ready" "Z", Cond.fieldLink RX8 327 "LikeNets$Likeness" "holds" "Z", Cond.methodLink RX8 323 yX0_look, Cond.instanceMethod yX0_look, Cond.selects RX0 yX0_look yX0_look, Cond.initialized RX0, Cond.code yX0_look cX0_look 5 none, Cond.fieldLink RX0 21 "LikeNets$Likeness" "ready" "Z", Cond.fieldLink RX0 25 "LikeNets$Ways" "whole" "Z", Cond.fieldLink RX0 30 "LikeNets$Likeness" "holds" "Z", Cond.fieldLink RX0 9 "LikeNets$Likeness" "c" "[I", Cond.fieldLink RX0 39 "LikeNets$Net" "size" "I", Cond.fieldLink RX0 49 "LikeNets$Likeness" "clashFrom" "I", Cond.fieldLink RX0 52 "LikeNets$Likeness" "clashTo" "I", Cond.methodLink RX0 33 yJ7_fill_53178, Cond.methodLink RX0 45 yX0_fits]
def wsX8_clash_r4 : List Cond := [Cond.instanceMethod yX0_fits, Cond.selects RX0 yX0_fits yX0_fits, Cond.code yX0_fits cX0_fits 9 (some .boolean), Cond.fieldLink RX0 59 "LikeNets$Net" "near" "[I", Cond.fieldLink RX0 15 "LikeNets$Likeness" "a" "[I", Cond.fieldLink RX0 18 "LikeNets$Likeness" "b" "[I", Cond.methodLink RX0 55 yX7_between, Cond.instanceMethod yX7_between, Cond.selects RX7 yX7_between yX7_between, Cond.code yX7_between cX7_between 3 (some .int), Cond.methodLink RX0 62 yX7_postsAt, Cond.instanceMethod yX7_postsAt, Cond.selects RX7 yX7_postsAt yX7_postsAt, Cond.code yX7_postsAt cX7_postsAt 3 (some .int), Cond.methodLink RX0 65 yJ6_bitCount_0f7a4, Cond.static yJ6_bitCount_0f7a4, Cond.initialized RJ6, Cond.code yJ6_bitCount_0f7a4 cJ6_bitCount_0f7a4 1 (some .int), Cond.constant RJ6 265 (1431655765), Cond.constant RJ6 266 (858993459), Cond.constant RJ6 267 (252645135)]
def wsX8_clash : List Cond := .code yX8_clash cX8_clash 2 (some .int) :: ((wsX8_clash_r1 ++ (wsX8_clash_r2 ++ (wsX8_clash_r3 ++ wsX8_clash_r4))) ++ wsX80 ++ wsX70 ++ wsX00 ++ wsX20)
def wsX8_table_r1 : List Cond := [Cond.fieldLink RX8 46 "LikeNets" "ways" "LLikeNets$Ways;", Cond.fieldLink RX8 165 "LikeNets$Ways" "far" "I", Cond.fieldLink RX8 53 "LikeNets" "likeness" "LLikeNets$Likeness;", Cond.fieldLink RX8 192 "LikeNets$Likeness" "c" "[I", Cond.fieldLink RX8 195 "LikeNets$Likeness" "a" "[I", Cond.fieldLink RX8 198 "LikeNets$Likeness" "b" "[I", Cond.methodLink RX8 183 yX8_isLike, Cond.instanceMethod yX8_isLike, Cond.selects RX8 yX8_isLike yX8_isLike, Cond.initialized RX8, Cond.code yX8_isLike cX8_isLike 1 (some .boolean), Cond.fieldLink RX8 319 "LikeNets$Likeness" "ready" "Z", Cond.fieldLink RX8 19 "LikeNets" "now" "LLikeNets$Net;", Cond.fieldLink RX8 327 "LikeNets$Likeness" "holds" "Z", Cond.methodLink RX8 145 yX8_measure, Cond.instanceMethod yX8_measure, Cond.selects RX8 yX8_measure yX8_measure, Cond.code yX8_measure cX8_measure 1 none, Cond.fieldLink RX8 316 "LikeNets$Ways" "ready" "Z", Cond.methodLink RX8 321 yX7_measure, Cond.instanceMethod yX7_measure, Cond.selects RX7 yX7_measure yX7_measure, Cond.initialized RX7, Cond.code yX7_measure cX7_measure 4 none]
def wsX8_table_r2 : List Cond := [Cond.fieldLink RX7 21 "LikeNets$Net" "size" "I", Cond.fieldLink RX7 27 "LikeNets$Ways" "size" "I", Cond.fieldLink RX7 9 "LikeNets$Ways" "steps" "[I", Cond.fieldLink RX7 15 "LikeNets$Ways" "layers" "[I", Cond.methodLink RX7 38 Lib.Math.max.name, Cond.static Lib.Math.max.name, Cond.initialized "java/lang/Math", Cond.code Lib.Math.max.name Lib.Math.max.code 2 (some .int), Cond.fieldLink RX7 18 "LikeNets$Ways" "reached" "[I", Cond.fieldLink RX7 48 "LikeNets$Ways" "whole" "Z", Cond.fieldLink RX7 52 "LikeNets$Ways" "far" "I", Cond.fieldLink RX7 55 "LikeNets$Ways" "ready" "Z", Cond.methodLink RX7 28 yJ7_fill_53178, Cond.static yJ7_fill_53178, Cond.initialized RJ7, Cond.code yJ7_fill_53178 cJ7_fill_53178 4 none, Cond.methodLink RX7 34 yX7_spread, Cond.instanceMethod yX7_spread, Cond.selects RX7 yX7_spread yX7_spread, Cond.code yX7_spread cX7_spread 7 (some .int), Cond.methodLink RX7 58 yX7_noteSteps, Cond.instanceMethod yX7_noteSteps, Cond.selects RX7 yX7_noteSteps yX7_noteSteps, Cond.code yX7_noteSteps cX7_noteSteps 5 none]
def wsX8_table_r3 : List Cond := [Cond.static yX8_isIn, Cond.code yX8_isIn cX8_isIn 2 (some .boolean), Cond.methodLink RX7 62 yX2_around, Cond.instanceMethod yX2_around, Cond.selects RX2 yX2_around yX2_around, Cond.initialized RX2, Cond.code yX2_around cX2_around 4 (some .int), Cond.fieldLink RX2 15 "LikeNets$Net" "size" "I", Cond.fieldLink RX2 9 "LikeNets$Net" "near" "[I", Cond.static yX8_allOf, Cond.code yX8_allOf cX8_allOf 1 (some .int), Cond.methodLink RX8 323 yX0_look, Cond.instanceMethod yX0_look, Cond.selects RX0 yX0_look yX0_look, Cond.initialized RX0, Cond.code yX0_look cX0_look 5 none, Cond.fieldLink RX0 21 "LikeNets$Likeness" "ready" "Z", Cond.fieldLink RX0 25 "LikeNets$Ways" "whole" "Z", Cond.fieldLink RX0 30 "LikeNets$Likeness" "holds" "Z", Cond.fieldLink RX0 9 "LikeNets$Likeness" "c" "[I", Cond.fieldLink RX0 39 "LikeNets$Net" "size" "I", Cond.fieldLink RX0 49 "LikeNets$Likeness" "clashFrom" "I", Cond.fieldLink RX0 52 "LikeNets$Likeness" "clashTo" "I", Cond.methodLink RX0 33 yJ7_fill_53178]
def wsX8_table_r4 : List Cond := [Cond.methodLink RX0 45 yX0_fits, Cond.instanceMethod yX0_fits, Cond.selects RX0 yX0_fits yX0_fits, Cond.code yX0_fits cX0_fits 9 (some .boolean), Cond.fieldLink RX0 59 "LikeNets$Net" "near" "[I", Cond.fieldLink RX0 15 "LikeNets$Likeness" "a" "[I", Cond.fieldLink RX0 18 "LikeNets$Likeness" "b" "[I", Cond.methodLink RX0 55 yX7_between, Cond.instanceMethod yX7_between, Cond.selects RX7 yX7_between yX7_between, Cond.code yX7_between cX7_between 3 (some .int), Cond.methodLink RX0 62 yX7_postsAt, Cond.instanceMethod yX7_postsAt, Cond.selects RX7 yX7_postsAt yX7_postsAt, Cond.code yX7_postsAt cX7_postsAt 3 (some .int), Cond.methodLink RX0 65 yJ6_bitCount_0f7a4, Cond.static yJ6_bitCount_0f7a4, Cond.initialized RJ6, Cond.code yJ6_bitCount_0f7a4 cJ6_bitCount_0f7a4 1 (some .int), Cond.constant RJ6 265 (1431655765), Cond.constant RJ6 266 (858993459), Cond.constant RJ6 267 (252645135), Cond.methodLink RX8 201 yX7_postsAt, Cond.methodLink RX8 204 yJ6_bitCount_0f7a4]
def wsX8_table : List Cond := .code yX8_table cX8_table 3 (some .int) :: ((wsX8_table_r1 ++ (wsX8_table_r2 ++ (wsX8_table_r3 ++ wsX8_table_r4))) ++ wsX80 ++ wsX70 ++ wsX00 ++ wsX20)
def wsX8_thirds_r1 : List Cond := [Cond.fieldLink RX8 19 "LikeNets" "now" "LLikeNets$Net;", Cond.fieldLink RX8 46 "LikeNets" "ways" "LLikeNets$Ways;", Cond.methodLink RX8 144 yX2_has, Cond.instanceMethod yX2_has, Cond.selects RX2 yX2_has yX2_has, Cond.initialized RX2, Cond.code yX2_has cX2_has 2 (some .boolean), Cond.fieldLink RX2 15 "LikeNets$Net" "size" "I", Cond.methodLink RX8 145 yX8_measure, Cond.instanceMethod yX8_measure, Cond.selects RX8 yX8_measure yX8_measure, Cond.initialized RX8, Cond.code yX8_measure cX8_measure 1 none, Cond.fieldLink RX8 316 "LikeNets$Ways" "ready" "Z", Cond.methodLink RX8 321 yX7_measure, Cond.instanceMethod yX7_measure, Cond.selects RX7 yX7_measure yX7_measure, Cond.initialized RX7, Cond.code yX7_measure cX7_measure 4 none, Cond.fieldLink RX7 21 "LikeNets$Net" "size" "I", Cond.fieldLink RX7 27 "LikeNets$Ways" "size" "I", Cond.fieldLink RX7 9 "LikeNets$Ways" "steps" "[I", Cond.fieldLink RX7 15 "LikeNets$Ways" "layers" "[I", Cond.methodLink RX7 38 Lib.Math.max.name]
def wsX8_thirds_r2 : List Cond := [Cond.static Lib.Math.max.name, Cond.initialized "java/lang/Math", Cond.code Lib.Math.max.name Lib.Math.max.code 2 (some .int), Cond.fieldLink RX7 18 "LikeNets$Ways" "reached" "[I", Cond.fieldLink RX7 48 "LikeNets$Ways" "whole" "Z", Cond.fieldLink RX7 52 "LikeNets$Ways" "far" "I", Cond.fieldLink RX7 55 "LikeNets$Ways" "ready" "Z", Cond.methodLink RX7 28 yJ7_fill_53178, Cond.static yJ7_fill_53178, Cond.initialized RJ7, Cond.code yJ7_fill_53178 cJ7_fill_53178 4 none, Cond.methodLink RX7 34 yX7_spread, Cond.instanceMethod yX7_spread, Cond.selects RX7 yX7_spread yX7_spread, Cond.code yX7_spread cX7_spread 7 (some .int), Cond.methodLink RX7 58 yX7_noteSteps, Cond.instanceMethod yX7_noteSteps, Cond.selects RX7 yX7_noteSteps yX7_noteSteps, Cond.code yX7_noteSteps cX7_noteSteps 5 none, Cond.static yX8_isIn, Cond.code yX8_isIn cX8_isIn 2 (some .boolean), Cond.methodLink RX7 62 yX2_around, Cond.instanceMethod yX2_around, Cond.selects RX2 yX2_around yX2_around]
def wsX8_thirds_r3 : List Cond := [Cond.code yX2_around cX2_around 4 (some .int), Cond.fieldLink RX2 9 "LikeNets$Net" "near" "[I", Cond.static yX8_allOf, Cond.code yX8_allOf cX8_allOf 1 (some .int), Cond.methodLink RX8 201 yX7_postsAt, Cond.instanceMethod yX7_postsAt, Cond.selects RX7 yX7_postsAt yX7_postsAt, Cond.code yX7_postsAt cX7_postsAt 3 (some .int), Cond.methodLink RX8 204 yJ6_bitCount_0f7a4, Cond.static yJ6_bitCount_0f7a4, Cond.initialized RJ6, Cond.code yJ6_bitCount_0f7a4 cJ6_bitCount_0f7a4 1 (some .int), Cond.constant RJ6 265 (1431655765), Cond.constant RJ6 266 (858993459), Cond.constant RJ6 267 (252645135)]
def wsX8_thirds : List Cond := .code yX8_thirds cX8_thirds 5 (some .int) :: ((wsX8_thirds_r1 ++ (wsX8_thirds_r2 ++ wsX8_thirds_r3)) ++ wsX80 ++ wsX20 ++ wsX70)
def wsX8_tell : List Cond := .code yX8_tell cX8_tell 2 (some .int) :: ([.fieldLink RX8 60 "LikeNets" "told" "LLikeNets$Told;", .methodLink RX8 209 yX6_lay, .instanceMethod yX6_lay, .selects RX6 yX6_lay yX6_lay, .initialized RX6, .code yX6_lay cX6_lay 3 none, .fieldLink RX6 41 "LikeNets$Told" "length" "I", .fieldLink RX6 9 "LikeNets$Told" "b" "[I", .fieldLink RX6 15 "LikeNets$Told" "c" "[I", .fieldLink RX6 51 "LikeNets$Told" "judged" "Z", .methodLink RX6 45 yJ7_fill_53178, .static yJ7_fill_53178, .initialized RJ7, .code yJ7_fill_53178 cJ7_fill_53178 4 none] ++ wsX80 ++ wsX60)
def wsX8_put : List Cond := .code yX8_put cX8_put 4 (some .int) :: ([.fieldLink RX8 60 "LikeNets" "told" "LLikeNets$Told;", .fieldLink RX8 211 "LikeNets$Told" "length" "I", .methodLink RX8 214 yX6_putOnward, .instanceMethod yX6_putOnward, .selects RX6 yX6_putOnward yX6_putOnward, .initialized RX6, .code yX6_putOnward cX6_putOnward 3 (some .int), .fieldLink RX6 9 "LikeNets$Told" "b" "[I", .fieldLink RX6 51 "LikeNets$Told" "judged" "Z", .methodLink RX8 217 yX6_putBackward, .instanceMethod yX6_putBackward, .selects RX6 yX6_putBackward yX6_putBackward, .code yX6_putBackward cX6_putBackward 3 (some .int), .fieldLink RX6 15 "LikeNets$Told" "c" "[I"] ++ wsX80 ++ wsX60)
def wsX8_take_r1 : List Cond := [Cond.fieldLink RX8 46 "LikeNets" "ways" "LLikeNets$Ways;", Cond.fieldLink RX8 165 "LikeNets$Ways" "far" "I", Cond.fieldLink RX8 53 "LikeNets" "likeness" "LLikeNets$Likeness;", Cond.fieldLink RX8 60 "LikeNets" "told" "LLikeNets$Told;", Cond.fieldLink RX8 198 "LikeNets$Likeness" "b" "[I", Cond.fieldLink RX8 192 "LikeNets$Likeness" "c" "[I", Cond.fieldLink RX8 211 "LikeNets$Told" "length" "I", Cond.methodLink RX8 183 yX8_isLike, Cond.instanceMethod yX8_isLike, Cond.selects RX8 yX8_isLike yX8_isLike, Cond.initialized RX8, Cond.code yX8_isLike cX8_isLike 1 (some .boolean), Cond.fieldLink RX8 319 "LikeNets$Likeness" "ready" "Z", Cond.fieldLink RX8 19 "LikeNets" "now" "LLikeNets$Net;", Cond.fieldLink RX8 327 "LikeNets$Likeness" "holds" "Z", Cond.methodLink RX8 145 yX8_measure, Cond.instanceMethod yX8_measure, Cond.selects RX8 yX8_measure yX8_measure, Cond.code yX8_measure cX8_measure 1 none, Cond.fieldLink RX8 316 "LikeNets$Ways" "ready" "Z", Cond.methodLink RX8 321 yX7_measure, Cond.instanceMethod yX7_measure, Cond.selects RX7 yX7_measure yX7_measure, Cond.initialized RX7]
def wsX8_take_r2 : List Cond := [Cond.code yX7_measure cX7_measure 4 none, Cond.fieldLink RX7 21 "LikeNets$Net" "size" "I", Cond.fieldLink RX7 27 "LikeNets$Ways" "size" "I", Cond.fieldLink RX7 9 "LikeNets$Ways" "steps" "[I", Cond.fieldLink RX7 15 "LikeNets$Ways" "layers" "[I", Cond.methodLink RX7 38 Lib.Math.max.name, Cond.static Lib.Math.max.name, Cond.initialized "java/lang/Math", Cond.code Lib.Math.max.name Lib.Math.max.code 2 (some .int), Cond.fieldLink RX7 18 "LikeNets$Ways" "reached" "[I", Cond.fieldLink RX7 48 "LikeNets$Ways" "whole" "Z", Cond.fieldLink RX7 52 "LikeNets$Ways" "far" "I", Cond.fieldLink RX7 55 "LikeNets$Ways" "ready" "Z", Cond.methodLink RX7 28 yJ7_fill_53178, Cond.static yJ7_fill_53178, Cond.initialized RJ7, Cond.code yJ7_fill_53178 cJ7_fill_53178 4 none, Cond.methodLink RX7 34 yX7_spread, Cond.instanceMethod yX7_spread, Cond.selects RX7 yX7_spread yX7_spread, Cond.code yX7_spread cX7_spread 7 (some .int), Cond.methodLink RX7 58 yX7_noteSteps, Cond.instanceMethod yX7_noteSteps, Cond.selects RX7 yX7_noteSteps yX7_noteSteps]
def wsX8_take_r3 : List Cond := [Cond.code yX7_noteSteps cX7_noteSteps 5 none, Cond.static yX8_isIn, Cond.code yX8_isIn cX8_isIn 2 (some .boolean), Cond.methodLink RX7 62 yX2_around, Cond.instanceMethod yX2_around, Cond.selects RX2 yX2_around yX2_around, Cond.initialized RX2, Cond.code yX2_around cX2_around 4 (some .int), Cond.fieldLink RX2 15 "LikeNets$Net" "size" "I", Cond.fieldLink RX2 9 "LikeNets$Net" "near" "[I", Cond.static yX8_allOf, Cond.code yX8_allOf cX8_allOf 1 (some .int), Cond.methodLink RX8 323 yX0_look, Cond.instanceMethod yX0_look, Cond.selects RX0 yX0_look yX0_look, Cond.initialized RX0, Cond.code yX0_look cX0_look 5 none, Cond.fieldLink RX0 21 "LikeNets$Likeness" "ready" "Z", Cond.fieldLink RX0 25 "LikeNets$Ways" "whole" "Z", Cond.fieldLink RX0 30 "LikeNets$Likeness" "holds" "Z", Cond.fieldLink RX0 9 "LikeNets$Likeness" "c" "[I", Cond.fieldLink RX0 39 "LikeNets$Net" "size" "I", Cond.fieldLink RX0 49 "LikeNets$Likeness" "clashFrom" "I", Cond.fieldLink RX0 52 "LikeNets$Likeness" "clashTo" "I"]
def wsX8_take_r4 : List Cond := [Cond.methodLink RX0 33 yJ7_fill_53178, Cond.methodLink RX0 45 yX0_fits, Cond.instanceMethod yX0_fits, Cond.selects RX0 yX0_fits yX0_fits, Cond.code yX0_fits cX0_fits 9 (some .boolean), Cond.fieldLink RX0 59 "LikeNets$Net" "near" "[I", Cond.fieldLink RX0 15 "LikeNets$Likeness" "a" "[I", Cond.fieldLink RX0 18 "LikeNets$Likeness" "b" "[I", Cond.methodLink RX0 55 yX7_between, Cond.instanceMethod yX7_between, Cond.selects RX7 yX7_between yX7_between, Cond.code yX7_between cX7_between 3 (some .int), Cond.methodLink RX0 62 yX7_postsAt, Cond.instanceMethod yX7_postsAt, Cond.selects RX7 yX7_postsAt yX7_postsAt, Cond.code yX7_postsAt cX7_postsAt 3 (some .int), Cond.methodLink RX0 65 yJ6_bitCount_0f7a4, Cond.static yJ6_bitCount_0f7a4, Cond.initialized RJ6, Cond.code yJ6_bitCount_0f7a4 cJ6_bitCount_0f7a4 1 (some .int), Cond.constant RJ6 265 (1431655765), Cond.constant RJ6 266 (858993459), Cond.constant RJ6 267 (252645135), Cond.methodLink RX8 220 yX0_isAtMost]
def wsX8_take_r5 : List Cond := [Cond.instanceMethod yX0_isAtMost, Cond.selects RX0 yX0_isAtMost yX0_isAtMost, Cond.code yX0_isAtMost cX0_isAtMost 4 (some .boolean), Cond.methodLink RX8 209 yX6_lay, Cond.instanceMethod yX6_lay, Cond.selects RX6 yX6_lay yX6_lay, Cond.initialized RX6, Cond.code yX6_lay cX6_lay 3 none, Cond.fieldLink RX6 41 "LikeNets$Told" "length" "I", Cond.fieldLink RX6 9 "LikeNets$Told" "b" "[I", Cond.fieldLink RX6 15 "LikeNets$Told" "c" "[I", Cond.fieldLink RX6 51 "LikeNets$Told" "judged" "Z", Cond.methodLink RX6 45 yJ7_fill_53178, Cond.methodLink RX8 214 yX6_putOnward, Cond.instanceMethod yX6_putOnward, Cond.selects RX6 yX6_putOnward yX6_putOnward, Cond.code yX6_putOnward cX6_putOnward 3 (some .int), Cond.methodLink RX8 217 yX6_putBackward, Cond.instanceMethod yX6_putBackward, Cond.selects RX6 yX6_putBackward yX6_putBackward, Cond.code yX6_putBackward cX6_putBackward 3 (some .int)]
def wsX8_take : List Cond := .code yX8_take cX8_take 2 (some .int) :: ((wsX8_take_r1 ++ (wsX8_take_r2 ++ (wsX8_take_r3 ++ (wsX8_take_r4 ++ wsX8_take_r5)))) ++ wsX80 ++ wsX70 ++ wsX00 ++ wsX60 ++ wsX20)
def wsX8_can_r1 : List Cond := [Cond.fieldLink RX8 60 "LikeNets" "told" "LLikeNets$Told;", Cond.methodLink RX8 223 yX6_firstBroken, Cond.instanceMethod yX6_firstBroken, Cond.selects RX6 yX6_firstBroken yX6_firstBroken, Cond.initialized RX6, Cond.code yX6_firstBroken cX6_firstBroken 1 (some .int), Cond.fieldLink RX6 51 "LikeNets$Told" "judged" "Z", Cond.fieldLink RX6 62 "LikeNets$Told" "broken" "I", Cond.methodLink RX6 59 yX6_judge, Cond.instanceMethod yX6_judge, Cond.selects RX6 yX6_judge yX6_judge, Cond.code yX6_judge cX6_judge 1 (some .int), Cond.methodLink RX6 65 yX6_isPositive, Cond.instanceMethod yX6_isPositive, Cond.selects RX6 yX6_isPositive yX6_isPositive, Cond.code yX6_isPositive cX6_isPositive 2 (some .boolean), Cond.fieldLink RX6 41 "LikeNets$Told" "length" "I", Cond.fieldLink RX6 9 "LikeNets$Told" "b" "[I", Cond.fieldLink RX6 15 "LikeNets$Told" "c" "[I", Cond.methodLink RX6 69 yX6_hasRoom, Cond.instanceMethod yX6_hasRoom, Cond.selects RX6 yX6_hasRoom yX6_hasRoom, Cond.code yX6_hasRoom cX6_hasRoom 2 (some .boolean), Cond.methodLink RX6 90 yX6_level]
def wsX8_can_r2 : List Cond := [Cond.instanceMethod yX6_level, Cond.selects RX6 yX6_level yX6_level, Cond.code yX6_level cX6_level 2 (some .int), Cond.methodLink RX6 72 yX6_isInOrder, Cond.instanceMethod yX6_isInOrder, Cond.selects RX6 yX6_isInOrder yX6_isInOrder, Cond.code yX6_isInOrder cX6_isInOrder 2 (some .boolean), Cond.methodLink RX6 75 yX6_countLayers, Cond.instanceMethod yX6_countLayers, Cond.selects RX6 yX6_countLayers yX6_countLayers, Cond.code yX6_countLayers cX6_countLayers 4 (some .boolean), Cond.fieldLink RX6 18 "LikeNets$Told" "k" "[J", Cond.fieldLink RX6 94 "LikeNets$Told" "total" "J", Cond.constantLong RX6 98 (100000), Cond.methodLink RX6 78 yX6_isPaired, Cond.instanceMethod yX6_isPaired, Cond.selects RX6 yX6_isPaired yX6_isPaired, Cond.code yX6_isPaired cX6_isPaired 2 (some .boolean), Cond.constantLong RX6 100 (2), Cond.methodLink RX6 81 yX6_layFirstThirds, Cond.instanceMethod yX6_layFirstThirds, Cond.selects RX6 yX6_layFirstThirds yX6_layFirstThirds, Cond.code yX6_layFirstThirds cX6_layFirstThirds 3 none, Cond.fieldLink RX6 22 "LikeNets$Told" "t" "[J"]
def wsX8_can_r3 : List Cond := [Cond.methodLink RX6 102 yX6_place, Cond.static yX6_place, Cond.code yX6_place cX6_place 3 (some .int), Cond.methodLink RX6 106 yX6_firstThird, Cond.instanceMethod yX6_firstThird, Cond.selects RX6 yX6_firstThird yX6_firstThird, Cond.code yX6_firstThird cX6_firstThird 3 (some .int), Cond.methodLink RX6 84 yX6_layOtherThirds, Cond.instanceMethod yX6_layOtherThirds, Cond.selects RX6 yX6_layOtherThirds yX6_layOtherThirds, Cond.code yX6_layOtherThirds cX6_layOtherThirds 6 (some .boolean), Cond.methodLink RX6 110 yX6_thirdTimes, Cond.instanceMethod yX6_thirdTimes, Cond.selects RX6 yX6_thirdTimes yX6_thirdTimes, Cond.code yX6_thirdTimes cX6_thirdTimes 6 (some .long), Cond.methodLink RX6 87 yX6_findRoots, Cond.instanceMethod yX6_findRoots, Cond.selects RX6 yX6_findRoots yX6_findRoots, Cond.code yX6_findRoots cX6_findRoots 3 (some .boolean), Cond.fieldLink RX6 114 "LikeNets$Told" "rootCount" "I", Cond.fieldLink RX6 31 "LikeNets$Told" "roots" "[I", Cond.fieldLink RX6 34 "LikeNets$Told" "times" "[I", Cond.methodLink RX6 117 yX6_isRoot, Cond.instanceMethod yX6_isRoot]
def wsX8_can_r4 : List Cond := [Cond.selects RX6 yX6_isRoot yX6_isRoot, Cond.code yX6_isRoot cX6_isRoot 3 (some .boolean), Cond.fieldLink RX6 25 "LikeNets$Told" "scaled" "[J", Cond.methodLink RX6 121 yX6_timesOfScaled, Cond.instanceMethod yX6_timesOfScaled, Cond.selects RX6 yX6_timesOfScaled yX6_timesOfScaled, Cond.code yX6_timesOfScaled cX6_timesOfScaled 9 (some .int)]
def wsX8_can : List Cond := .code yX8_can cX8_can 1 (some .int) :: ((wsX8_can_r1 ++ (wsX8_can_r2 ++ (wsX8_can_r3 ++ wsX8_can_r4))) ++ wsX80 ++ wsX60)
def wsX8_entry_r1 : List Cond := [Cond.fieldLink RX8 60 "LikeNets" "told" "LLikeNets$Told;", Cond.fieldLink RX8 232 "LikeNets$Told" "c" "[I", Cond.fieldLink RX8 236 "LikeNets$Told" "b" "[I", Cond.fieldLink RX8 237 "LikeNets$Told" "k" "[J", Cond.methodLink RX8 226 yX6_hasRow, Cond.instanceMethod yX6_hasRow, Cond.selects RX6 yX6_hasRow yX6_hasRow, Cond.initialized RX6, Cond.code yX6_hasRow cX6_hasRow 2 (some .boolean), Cond.fieldLink RX6 41 "LikeNets$Told" "length" "I", Cond.methodLink RX8 229 yX6_keepsLawsTo, Cond.instanceMethod yX6_keepsLawsTo, Cond.selects RX6 yX6_keepsLawsTo yX6_keepsLawsTo, Cond.code yX6_keepsLawsTo cX6_keepsLawsTo 3 (some .boolean), Cond.methodLink RX6 55 yX6_firstBroken, Cond.instanceMethod yX6_firstBroken, Cond.selects RX6 yX6_firstBroken yX6_firstBroken, Cond.code yX6_firstBroken cX6_firstBroken 1 (some .int), Cond.fieldLink RX6 51 "LikeNets$Told" "judged" "Z", Cond.fieldLink RX6 62 "LikeNets$Told" "broken" "I", Cond.methodLink RX6 59 yX6_judge, Cond.instanceMethod yX6_judge, Cond.selects RX6 yX6_judge yX6_judge, Cond.code yX6_judge cX6_judge 1 (some .int)]
def wsX8_entry_r2 : List Cond := [Cond.methodLink RX6 65 yX6_isPositive, Cond.instanceMethod yX6_isPositive, Cond.selects RX6 yX6_isPositive yX6_isPositive, Cond.code yX6_isPositive cX6_isPositive 2 (some .boolean), Cond.fieldLink RX6 9 "LikeNets$Told" "b" "[I", Cond.fieldLink RX6 15 "LikeNets$Told" "c" "[I", Cond.methodLink RX6 69 yX6_hasRoom, Cond.instanceMethod yX6_hasRoom, Cond.selects RX6 yX6_hasRoom yX6_hasRoom, Cond.code yX6_hasRoom cX6_hasRoom 2 (some .boolean), Cond.methodLink RX6 90 yX6_level, Cond.instanceMethod yX6_level, Cond.selects RX6 yX6_level yX6_level, Cond.code yX6_level cX6_level 2 (some .int), Cond.methodLink RX6 72 yX6_isInOrder, Cond.instanceMethod yX6_isInOrder, Cond.selects RX6 yX6_isInOrder yX6_isInOrder, Cond.code yX6_isInOrder cX6_isInOrder 2 (some .boolean), Cond.methodLink RX6 75 yX6_countLayers, Cond.instanceMethod yX6_countLayers, Cond.selects RX6 yX6_countLayers yX6_countLayers, Cond.code yX6_countLayers cX6_countLayers 4 (some .boolean), Cond.fieldLink RX6 18 "LikeNets$Told" "k" "[J", Cond.fieldLink RX6 94 "LikeNets$Told" "total" "J"]
def wsX8_entry_r3 : List Cond := [Cond.constantLong RX6 98 (100000), Cond.methodLink RX6 78 yX6_isPaired, Cond.instanceMethod yX6_isPaired, Cond.selects RX6 yX6_isPaired yX6_isPaired, Cond.code yX6_isPaired cX6_isPaired 2 (some .boolean), Cond.constantLong RX6 100 (2), Cond.methodLink RX6 81 yX6_layFirstThirds, Cond.instanceMethod yX6_layFirstThirds, Cond.selects RX6 yX6_layFirstThirds yX6_layFirstThirds, Cond.code yX6_layFirstThirds cX6_layFirstThirds 3 none, Cond.fieldLink RX6 22 "LikeNets$Told" "t" "[J", Cond.methodLink RX6 102 yX6_place, Cond.static yX6_place, Cond.code yX6_place cX6_place 3 (some .int), Cond.methodLink RX6 106 yX6_firstThird, Cond.instanceMethod yX6_firstThird, Cond.selects RX6 yX6_firstThird yX6_firstThird, Cond.code yX6_firstThird cX6_firstThird 3 (some .int), Cond.methodLink RX6 84 yX6_layOtherThirds, Cond.instanceMethod yX6_layOtherThirds, Cond.selects RX6 yX6_layOtherThirds yX6_layOtherThirds, Cond.code yX6_layOtherThirds cX6_layOtherThirds 6 (some .boolean), Cond.methodLink RX6 110 yX6_thirdTimes, Cond.instanceMethod yX6_thirdTimes]
def wsX8_entry_r4 : List Cond := [Cond.selects RX6 yX6_thirdTimes yX6_thirdTimes, Cond.code yX6_thirdTimes cX6_thirdTimes 6 (some .long), Cond.methodLink RX6 87 yX6_findRoots, Cond.instanceMethod yX6_findRoots, Cond.selects RX6 yX6_findRoots yX6_findRoots, Cond.code yX6_findRoots cX6_findRoots 3 (some .boolean), Cond.fieldLink RX6 114 "LikeNets$Told" "rootCount" "I", Cond.fieldLink RX6 31 "LikeNets$Told" "roots" "[I", Cond.fieldLink RX6 34 "LikeNets$Told" "times" "[I", Cond.methodLink RX6 117 yX6_isRoot, Cond.instanceMethod yX6_isRoot, Cond.selects RX6 yX6_isRoot yX6_isRoot, Cond.code yX6_isRoot cX6_isRoot 3 (some .boolean), Cond.fieldLink RX6 25 "LikeNets$Told" "scaled" "[J", Cond.methodLink RX6 121 yX6_timesOfScaled, Cond.instanceMethod yX6_timesOfScaled, Cond.selects RX6 yX6_timesOfScaled yX6_timesOfScaled, Cond.code yX6_timesOfScaled cX6_timesOfScaled 9 (some .int), Cond.methodLink RX8 233 yX6_level]
def wsX8_entry : List Cond := .code yX8_entry cX8_entry 3 (some .int) :: ((wsX8_entry_r1 ++ (wsX8_entry_r2 ++ (wsX8_entry_r3 ++ wsX8_entry_r4))) ++ wsX80 ++ wsX60)
def wsX8_posts_r1 : List Cond := [Cond.fieldLink RX8 60 "LikeNets" "told" "LLikeNets$Told;", Cond.fieldLink RX8 241 "LikeNets$Told" "total" "J", Cond.methodLink RX8 229 yX6_keepsLawsTo, Cond.instanceMethod yX6_keepsLawsTo, Cond.selects RX6 yX6_keepsLawsTo yX6_keepsLawsTo, Cond.initialized RX6, Cond.code yX6_keepsLawsTo cX6_keepsLawsTo 3 (some .boolean), Cond.methodLink RX6 55 yX6_firstBroken, Cond.instanceMethod yX6_firstBroken, Cond.selects RX6 yX6_firstBroken yX6_firstBroken, Cond.code yX6_firstBroken cX6_firstBroken 1 (some .int), Cond.fieldLink RX6 51 "LikeNets$Told" "judged" "Z", Cond.fieldLink RX6 62 "LikeNets$Told" "broken" "I", Cond.methodLink RX6 59 yX6_judge, Cond.instanceMethod yX6_judge, Cond.selects RX6 yX6_judge yX6_judge, Cond.code yX6_judge cX6_judge 1 (some .int), Cond.methodLink RX6 65 yX6_isPositive, Cond.instanceMethod yX6_isPositive, Cond.selects RX6 yX6_isPositive yX6_isPositive, Cond.code yX6_isPositive cX6_isPositive 2 (some .boolean), Cond.fieldLink RX6 41 "LikeNets$Told" "length" "I", Cond.fieldLink RX6 9 "LikeNets$Told" "b" "[I", Cond.fieldLink RX6 15 "LikeNets$Told" "c" "[I"]
def wsX8_posts_r2 : List Cond := [Cond.methodLink RX6 69 yX6_hasRoom, Cond.instanceMethod yX6_hasRoom, Cond.selects RX6 yX6_hasRoom yX6_hasRoom, Cond.code yX6_hasRoom cX6_hasRoom 2 (some .boolean), Cond.methodLink RX6 90 yX6_level, Cond.instanceMethod yX6_level, Cond.selects RX6 yX6_level yX6_level, Cond.code yX6_level cX6_level 2 (some .int), Cond.methodLink RX6 72 yX6_isInOrder, Cond.instanceMethod yX6_isInOrder, Cond.selects RX6 yX6_isInOrder yX6_isInOrder, Cond.code yX6_isInOrder cX6_isInOrder 2 (some .boolean), Cond.methodLink RX6 75 yX6_countLayers, Cond.instanceMethod yX6_countLayers, Cond.selects RX6 yX6_countLayers yX6_countLayers, Cond.code yX6_countLayers cX6_countLayers 4 (some .boolean), Cond.fieldLink RX6 18 "LikeNets$Told" "k" "[J", Cond.fieldLink RX6 94 "LikeNets$Told" "total" "J", Cond.constantLong RX6 98 (100000), Cond.methodLink RX6 78 yX6_isPaired, Cond.instanceMethod yX6_isPaired, Cond.selects RX6 yX6_isPaired yX6_isPaired, Cond.code yX6_isPaired cX6_isPaired 2 (some .boolean), Cond.constantLong RX6 100 (2)]
def wsX8_posts_r3 : List Cond := [Cond.methodLink RX6 81 yX6_layFirstThirds, Cond.instanceMethod yX6_layFirstThirds, Cond.selects RX6 yX6_layFirstThirds yX6_layFirstThirds, Cond.code yX6_layFirstThirds cX6_layFirstThirds 3 none, Cond.fieldLink RX6 22 "LikeNets$Told" "t" "[J", Cond.methodLink RX6 102 yX6_place, Cond.static yX6_place, Cond.code yX6_place cX6_place 3 (some .int), Cond.methodLink RX6 106 yX6_firstThird, Cond.instanceMethod yX6_firstThird, Cond.selects RX6 yX6_firstThird yX6_firstThird, Cond.code yX6_firstThird cX6_firstThird 3 (some .int), Cond.methodLink RX6 84 yX6_layOtherThirds, Cond.instanceMethod yX6_layOtherThirds, Cond.selects RX6 yX6_layOtherThirds yX6_layOtherThirds, Cond.code yX6_layOtherThirds cX6_layOtherThirds 6 (some .boolean), Cond.methodLink RX6 110 yX6_thirdTimes, Cond.instanceMethod yX6_thirdTimes, Cond.selects RX6 yX6_thirdTimes yX6_thirdTimes, Cond.code yX6_thirdTimes cX6_thirdTimes 6 (some .long), Cond.methodLink RX6 87 yX6_findRoots, Cond.instanceMethod yX6_findRoots, Cond.selects RX6 yX6_findRoots yX6_findRoots, Cond.code yX6_findRoots cX6_findRoots 3 (some .boolean)]
def wsX8_posts_r4 : List Cond := [Cond.fieldLink RX6 114 "LikeNets$Told" "rootCount" "I", Cond.fieldLink RX6 31 "LikeNets$Told" "roots" "[I", Cond.fieldLink RX6 34 "LikeNets$Told" "times" "[I", Cond.methodLink RX6 117 yX6_isRoot, Cond.instanceMethod yX6_isRoot, Cond.selects RX6 yX6_isRoot yX6_isRoot, Cond.code yX6_isRoot cX6_isRoot 3 (some .boolean), Cond.fieldLink RX6 25 "LikeNets$Told" "scaled" "[J", Cond.methodLink RX6 121 yX6_timesOfScaled, Cond.instanceMethod yX6_timesOfScaled, Cond.selects RX6 yX6_timesOfScaled yX6_timesOfScaled, Cond.code yX6_timesOfScaled cX6_timesOfScaled 9 (some .int)]
def wsX8_posts : List Cond := .code yX8_posts cX8_posts 1 (some .int) :: ((wsX8_posts_r1 ++ (wsX8_posts_r2 ++ (wsX8_posts_r3 ++ wsX8_posts_r4))) ++ wsX80 ++ wsX60)
def wsX8_third_r1 : List Cond := [Cond.fieldLink RX8 60 "LikeNets" "told" "LLikeNets$Told;", Cond.fieldLink RX8 245 "LikeNets$Told" "t" "[J", Cond.methodLink RX8 226 yX6_hasRow, Cond.instanceMethod yX6_hasRow, Cond.selects RX6 yX6_hasRow yX6_hasRow, Cond.initialized RX6, Cond.code yX6_hasRow cX6_hasRow 2 (some .boolean), Cond.fieldLink RX6 41 "LikeNets$Told" "length" "I", Cond.methodLink RX8 229 yX6_keepsLawsTo, Cond.instanceMethod yX6_keepsLawsTo, Cond.selects RX6 yX6_keepsLawsTo yX6_keepsLawsTo, Cond.code yX6_keepsLawsTo cX6_keepsLawsTo 3 (some .boolean), Cond.methodLink RX6 55 yX6_firstBroken, Cond.instanceMethod yX6_firstBroken, Cond.selects RX6 yX6_firstBroken yX6_firstBroken, Cond.code yX6_firstBroken cX6_firstBroken 1 (some .int), Cond.fieldLink RX6 51 "LikeNets$Told" "judged" "Z", Cond.fieldLink RX6 62 "LikeNets$Told" "broken" "I", Cond.methodLink RX6 59 yX6_judge, Cond.instanceMethod yX6_judge, Cond.selects RX6 yX6_judge yX6_judge, Cond.code yX6_judge cX6_judge 1 (some .int), Cond.methodLink RX6 65 yX6_isPositive, Cond.instanceMethod yX6_isPositive]
def wsX8_third_r2 : List Cond := [Cond.selects RX6 yX6_isPositive yX6_isPositive, Cond.code yX6_isPositive cX6_isPositive 2 (some .boolean), Cond.fieldLink RX6 9 "LikeNets$Told" "b" "[I", Cond.fieldLink RX6 15 "LikeNets$Told" "c" "[I", Cond.methodLink RX6 69 yX6_hasRoom, Cond.instanceMethod yX6_hasRoom, Cond.selects RX6 yX6_hasRoom yX6_hasRoom, Cond.code yX6_hasRoom cX6_hasRoom 2 (some .boolean), Cond.methodLink RX6 90 yX6_level, Cond.instanceMethod yX6_level, Cond.selects RX6 yX6_level yX6_level, Cond.code yX6_level cX6_level 2 (some .int), Cond.methodLink RX6 72 yX6_isInOrder, Cond.instanceMethod yX6_isInOrder, Cond.selects RX6 yX6_isInOrder yX6_isInOrder, Cond.code yX6_isInOrder cX6_isInOrder 2 (some .boolean), Cond.methodLink RX6 75 yX6_countLayers, Cond.instanceMethod yX6_countLayers, Cond.selects RX6 yX6_countLayers yX6_countLayers, Cond.code yX6_countLayers cX6_countLayers 4 (some .boolean), Cond.fieldLink RX6 18 "LikeNets$Told" "k" "[J", Cond.fieldLink RX6 94 "LikeNets$Told" "total" "J", Cond.constantLong RX6 98 (100000), Cond.methodLink RX6 78 yX6_isPaired]
def wsX8_third_r3 : List Cond := [Cond.instanceMethod yX6_isPaired, Cond.selects RX6 yX6_isPaired yX6_isPaired, Cond.code yX6_isPaired cX6_isPaired 2 (some .boolean), Cond.constantLong RX6 100 (2), Cond.methodLink RX6 81 yX6_layFirstThirds, Cond.instanceMethod yX6_layFirstThirds, Cond.selects RX6 yX6_layFirstThirds yX6_layFirstThirds, Cond.code yX6_layFirstThirds cX6_layFirstThirds 3 none, Cond.fieldLink RX6 22 "LikeNets$Told" "t" "[J", Cond.methodLink RX6 102 yX6_place, Cond.static yX6_place, Cond.code yX6_place cX6_place 3 (some .int), Cond.methodLink RX6 106 yX6_firstThird, Cond.instanceMethod yX6_firstThird, Cond.selects RX6 yX6_firstThird yX6_firstThird, Cond.code yX6_firstThird cX6_firstThird 3 (some .int), Cond.methodLink RX6 84 yX6_layOtherThirds, Cond.instanceMethod yX6_layOtherThirds, Cond.selects RX6 yX6_layOtherThirds yX6_layOtherThirds, Cond.code yX6_layOtherThirds cX6_layOtherThirds 6 (some .boolean), Cond.methodLink RX6 110 yX6_thirdTimes, Cond.instanceMethod yX6_thirdTimes, Cond.selects RX6 yX6_thirdTimes yX6_thirdTimes, Cond.code yX6_thirdTimes cX6_thirdTimes 6 (some .long)]
def wsX8_third_r4 : List Cond := [Cond.methodLink RX6 87 yX6_findRoots, Cond.instanceMethod yX6_findRoots, Cond.selects RX6 yX6_findRoots yX6_findRoots, Cond.code yX6_findRoots cX6_findRoots 3 (some .boolean), Cond.fieldLink RX6 114 "LikeNets$Told" "rootCount" "I", Cond.fieldLink RX6 31 "LikeNets$Told" "roots" "[I", Cond.fieldLink RX6 34 "LikeNets$Told" "times" "[I", Cond.methodLink RX6 117 yX6_isRoot, Cond.instanceMethod yX6_isRoot, Cond.selects RX6 yX6_isRoot yX6_isRoot, Cond.code yX6_isRoot cX6_isRoot 3 (some .boolean), Cond.fieldLink RX6 25 "LikeNets$Told" "scaled" "[J", Cond.methodLink RX6 121 yX6_timesOfScaled, Cond.instanceMethod yX6_timesOfScaled, Cond.selects RX6 yX6_timesOfScaled yX6_timesOfScaled, Cond.code yX6_timesOfScaled cX6_timesOfScaled 9 (some .int), Cond.methodLink RX8 248 yX6_place]
def wsX8_third : List Cond := .code yX8_third cX8_third 4 (some .int) :: ((wsX8_third_r1 ++ (wsX8_third_r2 ++ (wsX8_third_r3 ++ wsX8_third_r4))) ++ wsX80 ++ wsX60)
def wsX8_root_r1 : List Cond := [Cond.fieldLink RX8 60 "LikeNets" "told" "LLikeNets$Told;", Cond.fieldLink RX8 252 "LikeNets$Told" "rootCount" "I", Cond.fieldLink RX8 255 "LikeNets$Told" "roots" "[I", Cond.fieldLink RX8 258 "LikeNets$Told" "times" "[I", Cond.methodLink RX8 229 yX6_keepsLawsTo, Cond.instanceMethod yX6_keepsLawsTo, Cond.selects RX6 yX6_keepsLawsTo yX6_keepsLawsTo, Cond.initialized RX6, Cond.code yX6_keepsLawsTo cX6_keepsLawsTo 3 (some .boolean), Cond.methodLink RX6 55 yX6_firstBroken, Cond.instanceMethod yX6_firstBroken, Cond.selects RX6 yX6_firstBroken yX6_firstBroken, Cond.code yX6_firstBroken cX6_firstBroken 1 (some .int), Cond.fieldLink RX6 51 "LikeNets$Told" "judged" "Z", Cond.fieldLink RX6 62 "LikeNets$Told" "broken" "I", Cond.methodLink RX6 59 yX6_judge, Cond.instanceMethod yX6_judge, Cond.selects RX6 yX6_judge yX6_judge, Cond.code yX6_judge cX6_judge 1 (some .int), Cond.methodLink RX6 65 yX6_isPositive, Cond.instanceMethod yX6_isPositive, Cond.selects RX6 yX6_isPositive yX6_isPositive, Cond.code yX6_isPositive cX6_isPositive 2 (some .boolean), Cond.fieldLink RX6 41 "LikeNets$Told" "length" "I"]
def wsX8_root_r2 : List Cond := [Cond.fieldLink RX6 9 "LikeNets$Told" "b" "[I", Cond.fieldLink RX6 15 "LikeNets$Told" "c" "[I", Cond.methodLink RX6 69 yX6_hasRoom, Cond.instanceMethod yX6_hasRoom, Cond.selects RX6 yX6_hasRoom yX6_hasRoom, Cond.code yX6_hasRoom cX6_hasRoom 2 (some .boolean), Cond.methodLink RX6 90 yX6_level, Cond.instanceMethod yX6_level, Cond.selects RX6 yX6_level yX6_level, Cond.code yX6_level cX6_level 2 (some .int), Cond.methodLink RX6 72 yX6_isInOrder, Cond.instanceMethod yX6_isInOrder, Cond.selects RX6 yX6_isInOrder yX6_isInOrder, Cond.code yX6_isInOrder cX6_isInOrder 2 (some .boolean), Cond.methodLink RX6 75 yX6_countLayers, Cond.instanceMethod yX6_countLayers, Cond.selects RX6 yX6_countLayers yX6_countLayers, Cond.code yX6_countLayers cX6_countLayers 4 (some .boolean), Cond.fieldLink RX6 18 "LikeNets$Told" "k" "[J", Cond.fieldLink RX6 94 "LikeNets$Told" "total" "J", Cond.constantLong RX6 98 (100000), Cond.methodLink RX6 78 yX6_isPaired, Cond.instanceMethod yX6_isPaired, Cond.selects RX6 yX6_isPaired yX6_isPaired]
def wsX8_root_r3 : List Cond := [Cond.code yX6_isPaired cX6_isPaired 2 (some .boolean), Cond.constantLong RX6 100 (2), Cond.methodLink RX6 81 yX6_layFirstThirds, Cond.instanceMethod yX6_layFirstThirds, Cond.selects RX6 yX6_layFirstThirds yX6_layFirstThirds, Cond.code yX6_layFirstThirds cX6_layFirstThirds 3 none, Cond.fieldLink RX6 22 "LikeNets$Told" "t" "[J", Cond.methodLink RX6 102 yX6_place, Cond.static yX6_place, Cond.code yX6_place cX6_place 3 (some .int), Cond.methodLink RX6 106 yX6_firstThird, Cond.instanceMethod yX6_firstThird, Cond.selects RX6 yX6_firstThird yX6_firstThird, Cond.code yX6_firstThird cX6_firstThird 3 (some .int), Cond.methodLink RX6 84 yX6_layOtherThirds, Cond.instanceMethod yX6_layOtherThirds, Cond.selects RX6 yX6_layOtherThirds yX6_layOtherThirds, Cond.code yX6_layOtherThirds cX6_layOtherThirds 6 (some .boolean), Cond.methodLink RX6 110 yX6_thirdTimes, Cond.instanceMethod yX6_thirdTimes, Cond.selects RX6 yX6_thirdTimes yX6_thirdTimes, Cond.code yX6_thirdTimes cX6_thirdTimes 6 (some .long), Cond.methodLink RX6 87 yX6_findRoots, Cond.instanceMethod yX6_findRoots]
def wsX8_root_r4 : List Cond := [Cond.selects RX6 yX6_findRoots yX6_findRoots, Cond.code yX6_findRoots cX6_findRoots 3 (some .boolean), Cond.fieldLink RX6 114 "LikeNets$Told" "rootCount" "I", Cond.fieldLink RX6 31 "LikeNets$Told" "roots" "[I", Cond.fieldLink RX6 34 "LikeNets$Told" "times" "[I", Cond.methodLink RX6 117 yX6_isRoot, Cond.instanceMethod yX6_isRoot, Cond.selects RX6 yX6_isRoot yX6_isRoot, Cond.code yX6_isRoot cX6_isRoot 3 (some .boolean), Cond.fieldLink RX6 25 "LikeNets$Told" "scaled" "[J", Cond.methodLink RX6 121 yX6_timesOfScaled, Cond.instanceMethod yX6_timesOfScaled, Cond.selects RX6 yX6_timesOfScaled yX6_timesOfScaled, Cond.code yX6_timesOfScaled cX6_timesOfScaled 9 (some .int)]
def wsX8_root : List Cond := .code yX8_root cX8_root 3 (some .int) :: ((wsX8_root_r1 ++ (wsX8_root_r2 ++ (wsX8_root_r3 ++ wsX8_root_r4))) ++ wsX80 ++ wsX60)
def wsX8_walks_r1 : List Cond := [Cond.fieldLink RX8 60 "LikeNets" "told" "LLikeNets$Told;", Cond.constantLong RX8 261 (-1), Cond.constantLong RX8 267 (-6), Cond.methodLink RX8 226 yX6_hasRow, Cond.instanceMethod yX6_hasRow, Cond.selects RX6 yX6_hasRow yX6_hasRow, Cond.initialized RX6, Cond.code yX6_hasRow cX6_hasRow 2 (some .boolean), Cond.fieldLink RX6 41 "LikeNets$Told" "length" "I", Cond.methodLink RX8 229 yX6_keepsLawsTo, Cond.instanceMethod yX6_keepsLawsTo, Cond.selects RX6 yX6_keepsLawsTo yX6_keepsLawsTo, Cond.code yX6_keepsLawsTo cX6_keepsLawsTo 3 (some .boolean), Cond.methodLink RX6 55 yX6_firstBroken, Cond.instanceMethod yX6_firstBroken, Cond.selects RX6 yX6_firstBroken yX6_firstBroken, Cond.code yX6_firstBroken cX6_firstBroken 1 (some .int), Cond.fieldLink RX6 51 "LikeNets$Told" "judged" "Z", Cond.fieldLink RX6 62 "LikeNets$Told" "broken" "I", Cond.methodLink RX6 59 yX6_judge, Cond.instanceMethod yX6_judge, Cond.selects RX6 yX6_judge yX6_judge, Cond.code yX6_judge cX6_judge 1 (some .int), Cond.methodLink RX6 65 yX6_isPositive]
def wsX8_walks_r2 : List Cond := [Cond.instanceMethod yX6_isPositive, Cond.selects RX6 yX6_isPositive yX6_isPositive, Cond.code yX6_isPositive cX6_isPositive 2 (some .boolean), Cond.fieldLink RX6 9 "LikeNets$Told" "b" "[I", Cond.fieldLink RX6 15 "LikeNets$Told" "c" "[I", Cond.methodLink RX6 69 yX6_hasRoom, Cond.instanceMethod yX6_hasRoom, Cond.selects RX6 yX6_hasRoom yX6_hasRoom, Cond.code yX6_hasRoom cX6_hasRoom 2 (some .boolean), Cond.methodLink RX6 90 yX6_level, Cond.instanceMethod yX6_level, Cond.selects RX6 yX6_level yX6_level, Cond.code yX6_level cX6_level 2 (some .int), Cond.methodLink RX6 72 yX6_isInOrder, Cond.instanceMethod yX6_isInOrder, Cond.selects RX6 yX6_isInOrder yX6_isInOrder, Cond.code yX6_isInOrder cX6_isInOrder 2 (some .boolean), Cond.methodLink RX6 75 yX6_countLayers, Cond.instanceMethod yX6_countLayers, Cond.selects RX6 yX6_countLayers yX6_countLayers, Cond.code yX6_countLayers cX6_countLayers 4 (some .boolean), Cond.fieldLink RX6 18 "LikeNets$Told" "k" "[J", Cond.fieldLink RX6 94 "LikeNets$Told" "total" "J", Cond.constantLong RX6 98 (100000)]
def wsX8_walks_r3 : List Cond := [Cond.methodLink RX6 78 yX6_isPaired, Cond.instanceMethod yX6_isPaired, Cond.selects RX6 yX6_isPaired yX6_isPaired, Cond.code yX6_isPaired cX6_isPaired 2 (some .boolean), Cond.constantLong RX6 100 (2), Cond.methodLink RX6 81 yX6_layFirstThirds, Cond.instanceMethod yX6_layFirstThirds, Cond.selects RX6 yX6_layFirstThirds yX6_layFirstThirds, Cond.code yX6_layFirstThirds cX6_layFirstThirds 3 none, Cond.fieldLink RX6 22 "LikeNets$Told" "t" "[J", Cond.methodLink RX6 102 yX6_place, Cond.static yX6_place, Cond.code yX6_place cX6_place 3 (some .int), Cond.methodLink RX6 106 yX6_firstThird, Cond.instanceMethod yX6_firstThird, Cond.selects RX6 yX6_firstThird yX6_firstThird, Cond.code yX6_firstThird cX6_firstThird 3 (some .int), Cond.methodLink RX6 84 yX6_layOtherThirds, Cond.instanceMethod yX6_layOtherThirds, Cond.selects RX6 yX6_layOtherThirds yX6_layOtherThirds, Cond.code yX6_layOtherThirds cX6_layOtherThirds 6 (some .boolean), Cond.methodLink RX6 110 yX6_thirdTimes, Cond.instanceMethod yX6_thirdTimes, Cond.selects RX6 yX6_thirdTimes yX6_thirdTimes]
def wsX8_walks_r4 : List Cond := [Cond.code yX6_thirdTimes cX6_thirdTimes 6 (some .long), Cond.methodLink RX6 87 yX6_findRoots, Cond.instanceMethod yX6_findRoots, Cond.selects RX6 yX6_findRoots yX6_findRoots, Cond.code yX6_findRoots cX6_findRoots 3 (some .boolean), Cond.fieldLink RX6 114 "LikeNets$Told" "rootCount" "I", Cond.fieldLink RX6 31 "LikeNets$Told" "roots" "[I", Cond.fieldLink RX6 34 "LikeNets$Told" "times" "[I", Cond.methodLink RX6 117 yX6_isRoot, Cond.instanceMethod yX6_isRoot, Cond.selects RX6 yX6_isRoot yX6_isRoot, Cond.code yX6_isRoot cX6_isRoot 3 (some .boolean), Cond.fieldLink RX6 25 "LikeNets$Told" "scaled" "[J", Cond.methodLink RX6 121 yX6_timesOfScaled, Cond.instanceMethod yX6_timesOfScaled, Cond.selects RX6 yX6_timesOfScaled yX6_timesOfScaled, Cond.code yX6_timesOfScaled cX6_timesOfScaled 9 (some .int), Cond.methodLink RX8 263 yX6_countWalks, Cond.instanceMethod yX6_countWalks, Cond.selects RX6 yX6_countWalks yX6_countWalks, Cond.code yX6_countWalks cX6_countWalks 11 (some .long), Cond.fieldLink RX6 28 "LikeNets$Told" "walkRow" "[J", Cond.methodLink RX6 124 yJ7_fill_d0a16, Cond.static yJ7_fill_d0a16]
def wsX8_walks_r5 : List Cond := [Cond.initialized RJ7, Cond.code yJ7_fill_d0a16 cJ7_fill_d0a16 5 none]
def wsX8_walks : List Cond := .code yX8_walks cX8_walks 3 (some .long) :: ((wsX8_walks_r1 ++ (wsX8_walks_r2 ++ (wsX8_walks_r3 ++ (wsX8_walks_r4 ++ wsX8_walks_r5)))) ++ wsX80 ++ wsX60)
def wsX8_bound : List Cond := .code yX8_bound cX8_bound 8 (some .long) :: ([.constantLong RX8 261 (-1)])
def wsX8_fold_r1 : List Cond := [Cond.fieldLink RX8 46 "LikeNets" "ways" "LLikeNets$Ways;", Cond.fieldLink RX8 19 "LikeNets" "now" "LLikeNets$Net;", Cond.fieldLink RX8 152 "LikeNets$Net" "size" "I", Cond.fieldLink RX8 29 "LikeNets" "list" "[I", Cond.fieldLink RX8 23 "LikeNets" "made" "LLikeNets$Net;", Cond.methodLink RX8 145 yX8_measure, Cond.instanceMethod yX8_measure, Cond.selects RX8 yX8_measure yX8_measure, Cond.initialized RX8, Cond.code yX8_measure cX8_measure 1 none, Cond.fieldLink RX8 316 "LikeNets$Ways" "ready" "Z", Cond.methodLink RX8 321 yX7_measure, Cond.instanceMethod yX7_measure, Cond.selects RX7 yX7_measure yX7_measure, Cond.initialized RX7, Cond.code yX7_measure cX7_measure 4 none, Cond.fieldLink RX7 21 "LikeNets$Net" "size" "I", Cond.fieldLink RX7 27 "LikeNets$Ways" "size" "I", Cond.fieldLink RX7 9 "LikeNets$Ways" "steps" "[I", Cond.fieldLink RX7 15 "LikeNets$Ways" "layers" "[I", Cond.methodLink RX7 38 Lib.Math.max.name, Cond.static Lib.Math.max.name, Cond.initialized "java/lang/Math", Cond.code Lib.Math.max.name Lib.Math.max.code 2 (some .int)]
def wsX8_fold_r2 : List Cond := [Cond.fieldLink RX7 18 "LikeNets$Ways" "reached" "[I", Cond.fieldLink RX7 48 "LikeNets$Ways" "whole" "Z", Cond.fieldLink RX7 52 "LikeNets$Ways" "far" "I", Cond.fieldLink RX7 55 "LikeNets$Ways" "ready" "Z", Cond.methodLink RX7 28 yJ7_fill_53178, Cond.static yJ7_fill_53178, Cond.initialized RJ7, Cond.code yJ7_fill_53178 cJ7_fill_53178 4 none, Cond.methodLink RX7 34 yX7_spread, Cond.instanceMethod yX7_spread, Cond.selects RX7 yX7_spread yX7_spread, Cond.code yX7_spread cX7_spread 7 (some .int), Cond.methodLink RX7 58 yX7_noteSteps, Cond.instanceMethod yX7_noteSteps, Cond.selects RX7 yX7_noteSteps yX7_noteSteps, Cond.code yX7_noteSteps cX7_noteSteps 5 none, Cond.static yX8_isIn, Cond.code yX8_isIn cX8_isIn 2 (some .boolean), Cond.methodLink RX7 62 yX2_around, Cond.instanceMethod yX2_around, Cond.selects RX2 yX2_around yX2_around, Cond.initialized RX2, Cond.code yX2_around cX2_around 4 (some .int), Cond.fieldLink RX2 15 "LikeNets$Net" "size" "I"]
def wsX8_fold_r3 : List Cond := [Cond.fieldLink RX2 9 "LikeNets$Net" "near" "[I", Cond.static yX8_allOf, Cond.code yX8_allOf cX8_allOf 1 (some .int), Cond.methodLink RX8 180 yX7_isFolded, Cond.instanceMethod yX7_isFolded, Cond.selects RX7 yX7_isFolded yX7_isFolded, Cond.code yX7_isFolded cX7_isFolded 3 (some .boolean), Cond.methodLink RX7 79 yX7_between, Cond.instanceMethod yX7_between, Cond.selects RX7 yX7_between yX7_between, Cond.code yX7_between cX7_between 3 (some .int), Cond.methodLink RX7 90 yX7_farGroup, Cond.instanceMethod yX7_farGroup, Cond.selects RX7 yX7_farGroup yX7_farGroup, Cond.code yX7_farGroup cX7_farGroup 2 (some .int), Cond.methodLink RX7 69 yX7_postsAt, Cond.instanceMethod yX7_postsAt, Cond.selects RX7 yX7_postsAt yX7_postsAt, Cond.code yX7_postsAt cX7_postsAt 3 (some .int), Cond.methodLink RX8 269 yX7_farGroup, Cond.methodLink RX8 272 yX8_lowestBit, Cond.static yX8_lowestBit, Cond.code yX8_lowestBit cX8_lowestBit 1 (some .int), Cond.methodLink RX8 204 yJ6_bitCount_0f7a4]
def wsX8_fold_r4 : List Cond := [Cond.static yJ6_bitCount_0f7a4, Cond.initialized RJ6, Cond.code yJ6_bitCount_0f7a4 cJ6_bitCount_0f7a4 1 (some .int), Cond.constant RJ6 265 (1431655765), Cond.constant RJ6 266 (858993459), Cond.constant RJ6 267 (252645135), Cond.methodLink RX8 96 yX2_empty, Cond.instanceMethod yX2_empty, Cond.selects RX2 yX2_empty yX2_empty, Cond.code yX2_empty cX2_empty 2 none, Cond.methodLink RX2 19 yJ7_fill_53178, Cond.methodLink RX8 275 yX2_around, Cond.methodLink RX8 110 yX2_join, Cond.instanceMethod yX2_join, Cond.selects RX2 yX2_join yX2_join, Cond.code yX2_join cX2_join 3 none, Cond.methodLink RX2 39 yX2_mayJoin, Cond.instanceMethod yX2_mayJoin, Cond.selects RX2 yX2_mayJoin yX2_mayJoin, Cond.code yX2_mayJoin cX2_mayJoin 3 (some .boolean), Cond.methodLink RX2 31 yX2_has, Cond.instanceMethod yX2_has, Cond.selects RX2 yX2_has yX2_has, Cond.code yX2_has cX2_has 2 (some .boolean)]
def wsX8_fold_r5 : List Cond := [Cond.methodLink RX8 141 yX8_adopt, Cond.instanceMethod yX8_adopt, Cond.selects RX8 yX8_adopt yX8_adopt, Cond.code yX8_adopt cX8_adopt 1 (some .int), Cond.methodLink RX8 281 yX2_copyFrom, Cond.instanceMethod yX2_copyFrom, Cond.selects RX2 yX2_copyFrom yX2_copyFrom, Cond.code yX2_copyFrom cX2_copyFrom 2 none, Cond.methodLink RX2 25 arraycopyName, Cond.native arraycopyName, Cond.static arraycopyName, Cond.initialized "java/lang/System", Cond.methodLink RX8 100 yX8_forget, Cond.instanceMethod yX8_forget, Cond.selects RX8 yX8_forget yX8_forget, Cond.code yX8_forget cX8_forget 1 none, Cond.fieldLink RX8 53 "LikeNets" "likeness" "LLikeNets$Likeness;", Cond.fieldLink RX8 319 "LikeNets$Likeness" "ready" "Z", Cond.fieldLink RX8 74 "LikeNets" "pairs" "LLikeNets$Pairs;", Cond.fieldLink RX8 320 "LikeNets$Pairs" "ready" "Z", Cond.fieldLink RX8 67 "LikeNets" "search" "LLikeNets$Search;", Cond.fieldLink RX8 288 "LikeNets$Search" "reach" "I"]
def wsX8_fold : List Cond := .code yX8_fold cX8_fold 5 (some .int) :: ((wsX8_fold_r1 ++ (wsX8_fold_r2 ++ (wsX8_fold_r3 ++ (wsX8_fold_r4 ++ wsX8_fold_r5)))) ++ wsX80 ++ wsX20 ++ wsX70 ++ wsX00 ++ wsX30 ++ wsX40)
def wsX8_half_r1 : List Cond := [Cond.fieldLink RX8 46 "LikeNets" "ways" "LLikeNets$Ways;", Cond.fieldLink RX8 158 "LikeNets$Ways" "whole" "Z", Cond.fieldLink RX8 19 "LikeNets" "now" "LLikeNets$Net;", Cond.fieldLink RX8 152 "LikeNets$Net" "size" "I", Cond.fieldLink RX8 29 "LikeNets" "list" "[I", Cond.fieldLink RX8 23 "LikeNets" "made" "LLikeNets$Net;", Cond.methodLink RX8 145 yX8_measure, Cond.instanceMethod yX8_measure, Cond.selects RX8 yX8_measure yX8_measure, Cond.initialized RX8, Cond.code yX8_measure cX8_measure 1 none, Cond.fieldLink RX8 316 "LikeNets$Ways" "ready" "Z", Cond.methodLink RX8 321 yX7_measure, Cond.instanceMethod yX7_measure, Cond.selects RX7 yX7_measure yX7_measure, Cond.initialized RX7, Cond.code yX7_measure cX7_measure 4 none, Cond.fieldLink RX7 21 "LikeNets$Net" "size" "I", Cond.fieldLink RX7 27 "LikeNets$Ways" "size" "I", Cond.fieldLink RX7 9 "LikeNets$Ways" "steps" "[I", Cond.fieldLink RX7 15 "LikeNets$Ways" "layers" "[I", Cond.methodLink RX7 38 Lib.Math.max.name, Cond.static Lib.Math.max.name, Cond.initialized "java/lang/Math"]
def wsX8_half_r2 : List Cond := [Cond.code Lib.Math.max.name Lib.Math.max.code 2 (some .int), Cond.fieldLink RX7 18 "LikeNets$Ways" "reached" "[I", Cond.fieldLink RX7 48 "LikeNets$Ways" "whole" "Z", Cond.fieldLink RX7 52 "LikeNets$Ways" "far" "I", Cond.fieldLink RX7 55 "LikeNets$Ways" "ready" "Z", Cond.methodLink RX7 28 yJ7_fill_53178, Cond.static yJ7_fill_53178, Cond.initialized RJ7, Cond.code yJ7_fill_53178 cJ7_fill_53178 4 none, Cond.methodLink RX7 34 yX7_spread, Cond.instanceMethod yX7_spread, Cond.selects RX7 yX7_spread yX7_spread, Cond.code yX7_spread cX7_spread 7 (some .int), Cond.methodLink RX7 58 yX7_noteSteps, Cond.instanceMethod yX7_noteSteps, Cond.selects RX7 yX7_noteSteps yX7_noteSteps, Cond.code yX7_noteSteps cX7_noteSteps 5 none, Cond.static yX8_isIn, Cond.code yX8_isIn cX8_isIn 2 (some .boolean), Cond.methodLink RX7 62 yX2_around, Cond.instanceMethod yX2_around, Cond.selects RX2 yX2_around yX2_around, Cond.initialized RX2, Cond.code yX2_around cX2_around 4 (some .int)]
def wsX8_half_r3 : List Cond := [Cond.fieldLink RX2 15 "LikeNets$Net" "size" "I", Cond.fieldLink RX2 9 "LikeNets$Net" "near" "[I", Cond.static yX8_allOf, Cond.code yX8_allOf cX8_allOf 1 (some .int), Cond.methodLink RX8 176 yX7_isOfSides, Cond.instanceMethod yX7_isOfSides, Cond.selects RX7 yX7_isOfSides yX7_isOfSides, Cond.code yX7_isOfSides cX7_isOfSides 5 (some .boolean), Cond.fieldLink RX7 82 "LikeNets$Net" "near" "[I", Cond.methodLink RX7 79 yX7_between, Cond.instanceMethod yX7_between, Cond.selects RX7 yX7_between yX7_between, Cond.code yX7_between cX7_between 3 (some .int), Cond.methodLink RX7 69 yX7_postsAt, Cond.instanceMethod yX7_postsAt, Cond.selects RX7 yX7_postsAt yX7_postsAt, Cond.code yX7_postsAt cX7_postsAt 3 (some .int), Cond.methodLink RX8 148 yX7_between, Cond.methodLink RX8 96 yX2_empty, Cond.instanceMethod yX2_empty, Cond.selects RX2 yX2_empty yX2_empty, Cond.code yX2_empty cX2_empty 2 none, Cond.methodLink RX2 19 yJ7_fill_53178, Cond.methodLink RX8 110 yX2_join]
def wsX8_half_r4 : List Cond := [Cond.instanceMethod yX2_join, Cond.selects RX2 yX2_join yX2_join, Cond.code yX2_join cX2_join 3 none, Cond.methodLink RX2 39 yX2_mayJoin, Cond.instanceMethod yX2_mayJoin, Cond.selects RX2 yX2_mayJoin yX2_mayJoin, Cond.code yX2_mayJoin cX2_mayJoin 3 (some .boolean), Cond.methodLink RX2 31 yX2_has, Cond.instanceMethod yX2_has, Cond.selects RX2 yX2_has yX2_has, Cond.code yX2_has cX2_has 2 (some .boolean), Cond.methodLink RX8 141 yX8_adopt, Cond.instanceMethod yX8_adopt, Cond.selects RX8 yX8_adopt yX8_adopt, Cond.code yX8_adopt cX8_adopt 1 (some .int), Cond.methodLink RX8 281 yX2_copyFrom, Cond.instanceMethod yX2_copyFrom, Cond.selects RX2 yX2_copyFrom yX2_copyFrom, Cond.code yX2_copyFrom cX2_copyFrom 2 none, Cond.methodLink RX2 25 arraycopyName, Cond.native arraycopyName, Cond.static arraycopyName, Cond.initialized "java/lang/System", Cond.methodLink RX8 100 yX8_forget]
def wsX8_half_r5 : List Cond := [Cond.instanceMethod yX8_forget, Cond.selects RX8 yX8_forget yX8_forget, Cond.code yX8_forget cX8_forget 1 none, Cond.fieldLink RX8 53 "LikeNets" "likeness" "LLikeNets$Likeness;", Cond.fieldLink RX8 319 "LikeNets$Likeness" "ready" "Z", Cond.fieldLink RX8 74 "LikeNets" "pairs" "LLikeNets$Pairs;", Cond.fieldLink RX8 320 "LikeNets$Pairs" "ready" "Z", Cond.fieldLink RX8 67 "LikeNets" "search" "LLikeNets$Search;", Cond.fieldLink RX8 288 "LikeNets$Search" "reach" "I"]
def wsX8_half : List Cond := .code yX8_half cX8_half 4 (some .int) :: ((wsX8_half_r1 ++ (wsX8_half_r2 ++ (wsX8_half_r3 ++ (wsX8_half_r4 ++ wsX8_half_r5)))) ++ wsX80 ++ wsX70 ++ wsX20 ++ wsX00 ++ wsX30 ++ wsX40)
def wsX8_twice_r1 : List Cond := [Cond.fieldLink RX8 19 "LikeNets" "now" "LLikeNets$Net;", Cond.fieldLink RX8 152 "LikeNets$Net" "size" "I", Cond.fieldLink RX8 23 "LikeNets" "made" "LLikeNets$Net;", Cond.methodLink RX8 96 yX2_empty, Cond.instanceMethod yX2_empty, Cond.selects RX2 yX2_empty yX2_empty, Cond.initialized RX2, Cond.code yX2_empty cX2_empty 2 none, Cond.fieldLink RX2 15 "LikeNets$Net" "size" "I", Cond.fieldLink RX2 9 "LikeNets$Net" "near" "[I", Cond.methodLink RX2 19 yJ7_fill_53178, Cond.static yJ7_fill_53178, Cond.initialized RJ7, Cond.code yJ7_fill_53178 cJ7_fill_53178 4 none, Cond.methodLink RX8 107 yX2_areJoined, Cond.instanceMethod yX2_areJoined, Cond.selects RX2 yX2_areJoined yX2_areJoined, Cond.code yX2_areJoined cX2_areJoined 3 (some .boolean), Cond.methodLink RX2 31 yX2_has, Cond.instanceMethod yX2_has, Cond.selects RX2 yX2_has yX2_has, Cond.code yX2_has cX2_has 2 (some .boolean), Cond.static yX8_isIn, Cond.initialized RX8]
def wsX8_twice_r2 : List Cond := [Cond.code yX8_isIn cX8_isIn 2 (some .boolean), Cond.methodLink RX8 110 yX2_join, Cond.instanceMethod yX2_join, Cond.selects RX2 yX2_join yX2_join, Cond.code yX2_join cX2_join 3 none, Cond.methodLink RX2 39 yX2_mayJoin, Cond.instanceMethod yX2_mayJoin, Cond.selects RX2 yX2_mayJoin yX2_mayJoin, Cond.code yX2_mayJoin cX2_mayJoin 3 (some .boolean), Cond.methodLink RX8 141 yX8_adopt, Cond.instanceMethod yX8_adopt, Cond.selects RX8 yX8_adopt yX8_adopt, Cond.code yX8_adopt cX8_adopt 1 (some .int), Cond.methodLink RX8 281 yX2_copyFrom, Cond.instanceMethod yX2_copyFrom, Cond.selects RX2 yX2_copyFrom yX2_copyFrom, Cond.code yX2_copyFrom cX2_copyFrom 2 none, Cond.methodLink RX2 25 arraycopyName, Cond.native arraycopyName, Cond.static arraycopyName, Cond.initialized "java/lang/System", Cond.methodLink RX8 100 yX8_forget, Cond.instanceMethod yX8_forget, Cond.selects RX8 yX8_forget yX8_forget]
def wsX8_twice_r3 : List Cond := [Cond.code yX8_forget cX8_forget 1 none, Cond.fieldLink RX8 46 "LikeNets" "ways" "LLikeNets$Ways;", Cond.fieldLink RX8 316 "LikeNets$Ways" "ready" "Z", Cond.fieldLink RX8 53 "LikeNets" "likeness" "LLikeNets$Likeness;", Cond.fieldLink RX8 319 "LikeNets$Likeness" "ready" "Z", Cond.fieldLink RX8 74 "LikeNets" "pairs" "LLikeNets$Pairs;", Cond.fieldLink RX8 320 "LikeNets$Pairs" "ready" "Z", Cond.fieldLink RX8 67 "LikeNets" "search" "LLikeNets$Search;", Cond.fieldLink RX8 288 "LikeNets$Search" "reach" "I"]
def wsX8_twice : List Cond := .code yX8_twice cX8_twice 4 (some .int) :: ((wsX8_twice_r1 ++ (wsX8_twice_r2 ++ wsX8_twice_r3)) ++ wsX80 ++ wsX20 ++ wsX70 ++ wsX00 ++ wsX30 ++ wsX40)
def wsX8_power_r1 : List Cond := [Cond.fieldLink RX8 23 "LikeNets" "made" "LLikeNets$Net;", Cond.fieldLink RX8 19 "LikeNets" "now" "LLikeNets$Net;", Cond.fieldLink RX8 152 "LikeNets$Net" "size" "I", Cond.fieldLink RX8 46 "LikeNets" "ways" "LLikeNets$Ways;", Cond.methodLink RX8 145 yX8_measure, Cond.instanceMethod yX8_measure, Cond.selects RX8 yX8_measure yX8_measure, Cond.initialized RX8, Cond.code yX8_measure cX8_measure 1 none, Cond.fieldLink RX8 316 "LikeNets$Ways" "ready" "Z", Cond.methodLink RX8 321 yX7_measure, Cond.instanceMethod yX7_measure, Cond.selects RX7 yX7_measure yX7_measure, Cond.initialized RX7, Cond.code yX7_measure cX7_measure 4 none, Cond.fieldLink RX7 21 "LikeNets$Net" "size" "I", Cond.fieldLink RX7 27 "LikeNets$Ways" "size" "I", Cond.fieldLink RX7 9 "LikeNets$Ways" "steps" "[I", Cond.fieldLink RX7 15 "LikeNets$Ways" "layers" "[I", Cond.methodLink RX7 38 Lib.Math.max.name, Cond.static Lib.Math.max.name, Cond.initialized "java/lang/Math", Cond.code Lib.Math.max.name Lib.Math.max.code 2 (some .int), Cond.fieldLink RX7 18 "LikeNets$Ways" "reached" "[I"]
def wsX8_power_r2 : List Cond := [Cond.fieldLink RX7 48 "LikeNets$Ways" "whole" "Z", Cond.fieldLink RX7 52 "LikeNets$Ways" "far" "I", Cond.fieldLink RX7 55 "LikeNets$Ways" "ready" "Z", Cond.methodLink RX7 28 yJ7_fill_53178, Cond.static yJ7_fill_53178, Cond.initialized RJ7, Cond.code yJ7_fill_53178 cJ7_fill_53178 4 none, Cond.methodLink RX7 34 yX7_spread, Cond.instanceMethod yX7_spread, Cond.selects RX7 yX7_spread yX7_spread, Cond.code yX7_spread cX7_spread 7 (some .int), Cond.methodLink RX7 58 yX7_noteSteps, Cond.instanceMethod yX7_noteSteps, Cond.selects RX7 yX7_noteSteps yX7_noteSteps, Cond.code yX7_noteSteps cX7_noteSteps 5 none, Cond.static yX8_isIn, Cond.code yX8_isIn cX8_isIn 2 (some .boolean), Cond.methodLink RX7 62 yX2_around, Cond.instanceMethod yX2_around, Cond.selects RX2 yX2_around yX2_around, Cond.initialized RX2, Cond.code yX2_around cX2_around 4 (some .int), Cond.fieldLink RX2 15 "LikeNets$Net" "size" "I", Cond.fieldLink RX2 9 "LikeNets$Net" "near" "[I"]
def wsX8_power_r3 : List Cond := [Cond.static yX8_allOf, Cond.code yX8_allOf cX8_allOf 1 (some .int), Cond.methodLink RX8 96 yX2_empty, Cond.instanceMethod yX2_empty, Cond.selects RX2 yX2_empty yX2_empty, Cond.code yX2_empty cX2_empty 2 none, Cond.methodLink RX2 19 yJ7_fill_53178, Cond.methodLink RX8 148 yX7_between, Cond.instanceMethod yX7_between, Cond.selects RX7 yX7_between yX7_between, Cond.code yX7_between cX7_between 3 (some .int), Cond.methodLink RX8 110 yX2_join, Cond.instanceMethod yX2_join, Cond.selects RX2 yX2_join yX2_join, Cond.code yX2_join cX2_join 3 none, Cond.methodLink RX2 39 yX2_mayJoin, Cond.instanceMethod yX2_mayJoin, Cond.selects RX2 yX2_mayJoin yX2_mayJoin, Cond.code yX2_mayJoin cX2_mayJoin 3 (some .boolean), Cond.methodLink RX2 31 yX2_has, Cond.instanceMethod yX2_has, Cond.selects RX2 yX2_has yX2_has, Cond.code yX2_has cX2_has 2 (some .boolean), Cond.methodLink RX8 141 yX8_adopt]
def wsX8_power_r4 : List Cond := [Cond.instanceMethod yX8_adopt, Cond.selects RX8 yX8_adopt yX8_adopt, Cond.code yX8_adopt cX8_adopt 1 (some .int), Cond.methodLink RX8 281 yX2_copyFrom, Cond.instanceMethod yX2_copyFrom, Cond.selects RX2 yX2_copyFrom yX2_copyFrom, Cond.code yX2_copyFrom cX2_copyFrom 2 none, Cond.methodLink RX2 25 arraycopyName, Cond.native arraycopyName, Cond.static arraycopyName, Cond.initialized "java/lang/System", Cond.methodLink RX8 100 yX8_forget, Cond.instanceMethod yX8_forget, Cond.selects RX8 yX8_forget yX8_forget, Cond.code yX8_forget cX8_forget 1 none, Cond.fieldLink RX8 53 "LikeNets" "likeness" "LLikeNets$Likeness;", Cond.fieldLink RX8 319 "LikeNets$Likeness" "ready" "Z", Cond.fieldLink RX8 74 "LikeNets" "pairs" "LLikeNets$Pairs;", Cond.fieldLink RX8 320 "LikeNets$Pairs" "ready" "Z", Cond.fieldLink RX8 67 "LikeNets" "search" "LLikeNets$Search;", Cond.fieldLink RX8 288 "LikeNets$Search" "reach" "I", Cond.methodLink RX8 120 yX2_roads, Cond.instanceMethod yX2_roads, Cond.selects RX2 yX2_roads yX2_roads]
def wsX8_power_r5 : List Cond := [Cond.code yX2_roads cX2_roads 3 (some .int), Cond.methodLink RX2 48 yX2_fullness, Cond.instanceMethod yX2_fullness, Cond.selects RX2 yX2_fullness yX2_fullness, Cond.code yX2_fullness cX2_fullness 2 (some .int), Cond.methodLink RX2 42 yJ6_bitCount_0f7a4, Cond.static yJ6_bitCount_0f7a4, Cond.initialized RJ6, Cond.code yJ6_bitCount_0f7a4 cJ6_bitCount_0f7a4 1 (some .int), Cond.constant RJ6 265 (1431655765), Cond.constant RJ6 266 (858993459), Cond.constant RJ6 267 (252645135)]
def wsX8_power : List Cond := .code yX8_power cX8_power 4 (some .int) :: ((wsX8_power_r1 ++ (wsX8_power_r2 ++ (wsX8_power_r3 ++ (wsX8_power_r4 ++ wsX8_power_r5)))) ++ wsX80 ++ wsX20 ++ wsX70 ++ wsX00 ++ wsX30 ++ wsX40)
def wsX8_other_r1 : List Cond := [Cond.fieldLink RX8 23 "LikeNets" "made" "LLikeNets$Net;", Cond.fieldLink RX8 19 "LikeNets" "now" "LLikeNets$Net;", Cond.fieldLink RX8 152 "LikeNets$Net" "size" "I", Cond.methodLink RX8 96 yX2_empty, Cond.instanceMethod yX2_empty, Cond.selects RX2 yX2_empty yX2_empty, Cond.initialized RX2, Cond.code yX2_empty cX2_empty 2 none, Cond.fieldLink RX2 15 "LikeNets$Net" "size" "I", Cond.fieldLink RX2 9 "LikeNets$Net" "near" "[I", Cond.methodLink RX2 19 yJ7_fill_53178, Cond.static yJ7_fill_53178, Cond.initialized RJ7, Cond.code yJ7_fill_53178 cJ7_fill_53178 4 none, Cond.methodLink RX8 107 yX2_areJoined, Cond.instanceMethod yX2_areJoined, Cond.selects RX2 yX2_areJoined yX2_areJoined, Cond.code yX2_areJoined cX2_areJoined 3 (some .boolean), Cond.methodLink RX2 31 yX2_has, Cond.instanceMethod yX2_has, Cond.selects RX2 yX2_has yX2_has, Cond.code yX2_has cX2_has 2 (some .boolean), Cond.static yX8_isIn, Cond.initialized RX8]
def wsX8_other_r2 : List Cond := [Cond.code yX8_isIn cX8_isIn 2 (some .boolean), Cond.methodLink RX8 110 yX2_join, Cond.instanceMethod yX2_join, Cond.selects RX2 yX2_join yX2_join, Cond.code yX2_join cX2_join 3 none, Cond.methodLink RX2 39 yX2_mayJoin, Cond.instanceMethod yX2_mayJoin, Cond.selects RX2 yX2_mayJoin yX2_mayJoin, Cond.code yX2_mayJoin cX2_mayJoin 3 (some .boolean), Cond.methodLink RX8 141 yX8_adopt, Cond.instanceMethod yX8_adopt, Cond.selects RX8 yX8_adopt yX8_adopt, Cond.code yX8_adopt cX8_adopt 1 (some .int), Cond.methodLink RX8 281 yX2_copyFrom, Cond.instanceMethod yX2_copyFrom, Cond.selects RX2 yX2_copyFrom yX2_copyFrom, Cond.code yX2_copyFrom cX2_copyFrom 2 none, Cond.methodLink RX2 25 arraycopyName, Cond.native arraycopyName, Cond.static arraycopyName, Cond.initialized "java/lang/System", Cond.methodLink RX8 100 yX8_forget, Cond.instanceMethod yX8_forget, Cond.selects RX8 yX8_forget yX8_forget]
def wsX8_other_r3 : List Cond := [Cond.code yX8_forget cX8_forget 1 none, Cond.fieldLink RX8 46 "LikeNets" "ways" "LLikeNets$Ways;", Cond.fieldLink RX8 316 "LikeNets$Ways" "ready" "Z", Cond.fieldLink RX8 53 "LikeNets" "likeness" "LLikeNets$Likeness;", Cond.fieldLink RX8 319 "LikeNets$Likeness" "ready" "Z", Cond.fieldLink RX8 74 "LikeNets" "pairs" "LLikeNets$Pairs;", Cond.fieldLink RX8 320 "LikeNets$Pairs" "ready" "Z", Cond.fieldLink RX8 67 "LikeNets" "search" "LLikeNets$Search;", Cond.fieldLink RX8 288 "LikeNets$Search" "reach" "I", Cond.methodLink RX8 120 yX2_roads, Cond.instanceMethod yX2_roads, Cond.selects RX2 yX2_roads yX2_roads, Cond.code yX2_roads cX2_roads 3 (some .int), Cond.methodLink RX2 48 yX2_fullness, Cond.instanceMethod yX2_fullness, Cond.selects RX2 yX2_fullness yX2_fullness, Cond.code yX2_fullness cX2_fullness 2 (some .int), Cond.methodLink RX2 42 yJ6_bitCount_0f7a4, Cond.static yJ6_bitCount_0f7a4, Cond.initialized RJ6, Cond.code yJ6_bitCount_0f7a4 cJ6_bitCount_0f7a4 1 (some .int), Cond.constant RJ6 265 (1431655765), Cond.constant RJ6 266 (858993459), Cond.constant RJ6 267 (252645135)]
def wsX8_other : List Cond := .code yX8_other cX8_other 3 (some .int) :: ((wsX8_other_r1 ++ (wsX8_other_r2 ++ wsX8_other_r3)) ++ wsX80 ++ wsX20 ++ wsX70 ++ wsX00 ++ wsX30 ++ wsX40)
def wsX8_listRoads : List Cond := .code yX8_listRoads cX8_listRoads 4 none :: ([.fieldLink RX8 19 "LikeNets" "now" "LLikeNets$Net;", .fieldLink RX8 152 "LikeNets$Net" "size" "I", .fieldLink RX8 29 "LikeNets" "list" "[I", .fieldLink RX8 33 "LikeNets" "partner" "[I", .methodLink RX8 107 yX2_areJoined, .instanceMethod yX2_areJoined, .selects RX2 yX2_areJoined yX2_areJoined, .initialized RX2, .code yX2_areJoined cX2_areJoined 3 (some .boolean), .fieldLink RX2 9 "LikeNets$Net" "near" "[I", .methodLink RX2 31 yX2_has, .instanceMethod yX2_has, .selects RX2 yX2_has yX2_has, .code yX2_has cX2_has 2 (some .boolean), .fieldLink RX2 15 "LikeNets$Net" "size" "I", .static yX8_isIn, .initialized RX8, .code yX8_isIn cX8_isIn 2 (some .boolean)] ++ wsX80 ++ wsX20)
def wsX8_lines_r1 : List Cond := [Cond.fieldLink RX8 19 "LikeNets" "now" "LLikeNets$Net;", Cond.fieldLink RX8 23 "LikeNets" "made" "LLikeNets$Net;", Cond.fieldLink RX8 29 "LikeNets" "list" "[I", Cond.fieldLink RX8 33 "LikeNets" "partner" "[I", Cond.methodLink RX8 120 yX2_roads, Cond.instanceMethod yX2_roads, Cond.selects RX2 yX2_roads yX2_roads, Cond.initialized RX2, Cond.code yX2_roads cX2_roads 3 (some .int), Cond.fieldLink RX2 15 "LikeNets$Net" "size" "I", Cond.methodLink RX2 48 yX2_fullness, Cond.instanceMethod yX2_fullness, Cond.selects RX2 yX2_fullness yX2_fullness, Cond.code yX2_fullness cX2_fullness 2 (some .int), Cond.fieldLink RX2 9 "LikeNets$Net" "near" "[I", Cond.methodLink RX2 42 yJ6_bitCount_0f7a4, Cond.static yJ6_bitCount_0f7a4, Cond.initialized RJ6, Cond.code yJ6_bitCount_0f7a4 cJ6_bitCount_0f7a4 1 (some .int), Cond.constant RJ6 265 (1431655765), Cond.constant RJ6 266 (858993459), Cond.constant RJ6 267 (252645135), Cond.methodLink RX8 278 yX8_listRoads, Cond.instanceMethod yX8_listRoads]
def wsX8_lines_r2 : List Cond := [Cond.selects RX8 yX8_listRoads yX8_listRoads, Cond.initialized RX8, Cond.code yX8_listRoads cX8_listRoads 4 none, Cond.fieldLink RX8 152 "LikeNets$Net" "size" "I", Cond.methodLink RX8 107 yX2_areJoined, Cond.instanceMethod yX2_areJoined, Cond.selects RX2 yX2_areJoined yX2_areJoined, Cond.code yX2_areJoined cX2_areJoined 3 (some .boolean), Cond.methodLink RX2 31 yX2_has, Cond.instanceMethod yX2_has, Cond.selects RX2 yX2_has yX2_has, Cond.code yX2_has cX2_has 2 (some .boolean), Cond.static yX8_isIn, Cond.code yX8_isIn cX8_isIn 2 (some .boolean), Cond.methodLink RX8 96 yX2_empty, Cond.instanceMethod yX2_empty, Cond.selects RX2 yX2_empty yX2_empty, Cond.code yX2_empty cX2_empty 2 none, Cond.methodLink RX2 19 yJ7_fill_53178, Cond.static yJ7_fill_53178, Cond.initialized RJ7, Cond.code yJ7_fill_53178 cJ7_fill_53178 4 none, Cond.methodLink RX8 110 yX2_join, Cond.instanceMethod yX2_join]
def wsX8_lines_r3 : List Cond := [Cond.selects RX2 yX2_join yX2_join, Cond.code yX2_join cX2_join 3 none, Cond.methodLink RX2 39 yX2_mayJoin, Cond.instanceMethod yX2_mayJoin, Cond.selects RX2 yX2_mayJoin yX2_mayJoin, Cond.code yX2_mayJoin cX2_mayJoin 3 (some .boolean), Cond.methodLink RX8 141 yX8_adopt, Cond.instanceMethod yX8_adopt, Cond.selects RX8 yX8_adopt yX8_adopt, Cond.code yX8_adopt cX8_adopt 1 (some .int), Cond.methodLink RX8 281 yX2_copyFrom, Cond.instanceMethod yX2_copyFrom, Cond.selects RX2 yX2_copyFrom yX2_copyFrom, Cond.code yX2_copyFrom cX2_copyFrom 2 none, Cond.methodLink RX2 25 arraycopyName, Cond.native arraycopyName, Cond.static arraycopyName, Cond.initialized "java/lang/System", Cond.methodLink RX8 100 yX8_forget, Cond.instanceMethod yX8_forget, Cond.selects RX8 yX8_forget yX8_forget, Cond.code yX8_forget cX8_forget 1 none, Cond.fieldLink RX8 46 "LikeNets" "ways" "LLikeNets$Ways;", Cond.fieldLink RX8 316 "LikeNets$Ways" "ready" "Z"]
def wsX8_lines_r4 : List Cond := [Cond.fieldLink RX8 53 "LikeNets" "likeness" "LLikeNets$Likeness;", Cond.fieldLink RX8 319 "LikeNets$Likeness" "ready" "Z", Cond.fieldLink RX8 74 "LikeNets" "pairs" "LLikeNets$Pairs;", Cond.fieldLink RX8 320 "LikeNets$Pairs" "ready" "Z", Cond.fieldLink RX8 67 "LikeNets" "search" "LLikeNets$Search;", Cond.fieldLink RX8 288 "LikeNets$Search" "reach" "I"]
def wsX8_lines : List Cond := .code yX8_lines cX8_lines 4 (some .int) :: ((wsX8_lines_r1 ++ (wsX8_lines_r2 ++ (wsX8_lines_r3 ++ wsX8_lines_r4))) ++ wsX80 ++ wsX20 ++ wsX70 ++ wsX00 ++ wsX30 ++ wsX40)
def wsX8_keep : List Cond := .code yX8_keep cX8_keep 1 (some .int) :: ([.fieldLink RX8 26 "LikeNets" "stored" "LLikeNets$Net;", .fieldLink RX8 19 "LikeNets" "now" "LLikeNets$Net;", .fieldLink RX8 285 "LikeNets" "isStored" "Z", .methodLink RX8 281 yX2_copyFrom, .instanceMethod yX2_copyFrom, .selects RX2 yX2_copyFrom yX2_copyFrom, .initialized RX2, .code yX2_copyFrom cX2_copyFrom 2 none, .fieldLink RX2 15 "LikeNets$Net" "size" "I", .fieldLink RX2 9 "LikeNets$Net" "near" "[I", .methodLink RX2 25 arraycopyName, .native arraycopyName, .static arraycopyName, .initialized "java/lang/System"] ++ wsX80 ++ wsX20)
def wsX8_back_r1 : List Cond := [Cond.fieldLink RX8 285 "LikeNets" "isStored" "Z", Cond.fieldLink RX8 19 "LikeNets" "now" "LLikeNets$Net;", Cond.fieldLink RX8 26 "LikeNets" "stored" "LLikeNets$Net;", Cond.methodLink RX8 281 yX2_copyFrom, Cond.instanceMethod yX2_copyFrom, Cond.selects RX2 yX2_copyFrom yX2_copyFrom, Cond.initialized RX2, Cond.code yX2_copyFrom cX2_copyFrom 2 none, Cond.fieldLink RX2 15 "LikeNets$Net" "size" "I", Cond.fieldLink RX2 9 "LikeNets$Net" "near" "[I", Cond.methodLink RX2 25 arraycopyName, Cond.native arraycopyName, Cond.static arraycopyName, Cond.initialized "java/lang/System", Cond.methodLink RX8 100 yX8_forget, Cond.instanceMethod yX8_forget, Cond.selects RX8 yX8_forget yX8_forget, Cond.initialized RX8, Cond.code yX8_forget cX8_forget 1 none, Cond.fieldLink RX8 46 "LikeNets" "ways" "LLikeNets$Ways;", Cond.fieldLink RX8 316 "LikeNets$Ways" "ready" "Z", Cond.fieldLink RX8 53 "LikeNets" "likeness" "LLikeNets$Likeness;", Cond.fieldLink RX8 319 "LikeNets$Likeness" "ready" "Z", Cond.fieldLink RX8 74 "LikeNets" "pairs" "LLikeNets$Pairs;"]
def wsX8_back_r2 : List Cond := [Cond.fieldLink RX8 320 "LikeNets$Pairs" "ready" "Z", Cond.fieldLink RX8 67 "LikeNets" "search" "LLikeNets$Search;", Cond.fieldLink RX8 288 "LikeNets$Search" "reach" "I"]
def wsX8_back : List Cond := .code yX8_back cX8_back 1 (some .int) :: ((wsX8_back_r1 ++ wsX8_back_r2) ++ wsX80 ++ wsX20 ++ wsX70 ++ wsX00 ++ wsX30 ++ wsX40)
def wsX8_perfect_r1 : List Cond := [Cond.fieldLink RX8 19 "LikeNets" "now" "LLikeNets$Net;", Cond.fieldLink RX8 152 "LikeNets$Net" "size" "I", Cond.fieldLink RX8 67 "LikeNets" "search" "LLikeNets$Search;", Cond.fieldLink RX8 288 "LikeNets$Search" "reach" "I", Cond.fieldLink RX8 46 "LikeNets" "ways" "LLikeNets$Ways;", Cond.fieldLink RX8 295 "LikeNets$Search" "found" "I", Cond.methodLink RX8 145 yX8_measure, Cond.instanceMethod yX8_measure, Cond.selects RX8 yX8_measure yX8_measure, Cond.initialized RX8, Cond.code yX8_measure cX8_measure 1 none, Cond.fieldLink RX8 316 "LikeNets$Ways" "ready" "Z", Cond.methodLink RX8 321 yX7_measure, Cond.instanceMethod yX7_measure, Cond.selects RX7 yX7_measure yX7_measure, Cond.initialized RX7, Cond.code yX7_measure cX7_measure 4 none, Cond.fieldLink RX7 21 "LikeNets$Net" "size" "I", Cond.fieldLink RX7 27 "LikeNets$Ways" "size" "I", Cond.fieldLink RX7 9 "LikeNets$Ways" "steps" "[I", Cond.fieldLink RX7 15 "LikeNets$Ways" "layers" "[I", Cond.methodLink RX7 38 Lib.Math.max.name, Cond.static Lib.Math.max.name, Cond.initialized "java/lang/Math"]
def wsX8_perfect_r2 : List Cond := [Cond.code Lib.Math.max.name Lib.Math.max.code 2 (some .int), Cond.fieldLink RX7 18 "LikeNets$Ways" "reached" "[I", Cond.fieldLink RX7 48 "LikeNets$Ways" "whole" "Z", Cond.fieldLink RX7 52 "LikeNets$Ways" "far" "I", Cond.fieldLink RX7 55 "LikeNets$Ways" "ready" "Z", Cond.methodLink RX7 28 yJ7_fill_53178, Cond.static yJ7_fill_53178, Cond.initialized RJ7, Cond.code yJ7_fill_53178 cJ7_fill_53178 4 none, Cond.methodLink RX7 34 yX7_spread, Cond.instanceMethod yX7_spread, Cond.selects RX7 yX7_spread yX7_spread, Cond.code yX7_spread cX7_spread 7 (some .int), Cond.methodLink RX7 58 yX7_noteSteps, Cond.instanceMethod yX7_noteSteps, Cond.selects RX7 yX7_noteSteps yX7_noteSteps, Cond.code yX7_noteSteps cX7_noteSteps 5 none, Cond.static yX8_isIn, Cond.code yX8_isIn cX8_isIn 2 (some .boolean), Cond.methodLink RX7 62 yX2_around, Cond.instanceMethod yX2_around, Cond.selects RX2 yX2_around yX2_around, Cond.initialized RX2, Cond.code yX2_around cX2_around 4 (some .int)]
def wsX8_perfect_r3 : List Cond := [Cond.fieldLink RX2 15 "LikeNets$Net" "size" "I", Cond.fieldLink RX2 9 "LikeNets$Net" "near" "[I", Cond.static yX8_allOf, Cond.code yX8_allOf cX8_allOf 1 (some .int), Cond.methodLink RX8 291 yX4_run, Cond.instanceMethod yX4_run, Cond.selects RX4 yX4_run yX4_run, Cond.initialized RX4, Cond.code yX4_run cX4_run 5 none, Cond.fieldLink RX4 25 "LikeNets$Search" "size" "I", Cond.fieldLink RX4 9 "LikeNets$Search" "balls" "[I", Cond.fieldLink RX4 38 "LikeNets$Search" "found" "I", Cond.fieldLink RX4 21 "LikeNets$Search" "reach" "I", Cond.methodLink RX4 28 yX7_postsWithin, Cond.instanceMethod yX7_postsWithin, Cond.selects RX7 yX7_postsWithin yX7_postsWithin, Cond.code yX7_postsWithin cX7_postsWithin 5 (some .int), Cond.methodLink RX7 69 yX7_postsAt, Cond.instanceMethod yX7_postsAt, Cond.selects RX7 yX7_postsAt yX7_postsAt, Cond.code yX7_postsAt cX7_postsAt 3 (some .int), Cond.methodLink RX4 34 yX4_climb, Cond.instanceMethod yX4_climb, Cond.selects RX4 yX4_climb yX4_climb]
def wsX8_perfect_r4 : List Cond := [Cond.code yX4_climb cX4_climb 7 (some .int), Cond.fieldLink RX4 18 "LikeNets$Search" "untried" "[I", Cond.constant RX4 48 (40002), Cond.fieldLink RX4 15 "LikeNets$Search" "taken" "[I", Cond.methodLink RX4 45 yX4_candidates, Cond.instanceMethod yX4_candidates, Cond.selects RX4 yX4_candidates yX4_candidates, Cond.code yX4_candidates cX4_candidates 5 (some .int), Cond.static yX8_lowestBit, Cond.code yX8_lowestBit cX8_lowestBit 1 (some .int), Cond.methodLink RX8 204 yJ6_bitCount_0f7a4, Cond.static yJ6_bitCount_0f7a4, Cond.initialized RJ6, Cond.code yJ6_bitCount_0f7a4 cJ6_bitCount_0f7a4 1 (some .int), Cond.constant RJ6 265 (1431655765), Cond.constant RJ6 266 (858993459), Cond.constant RJ6 267 (252645135)]
def wsX8_perfect : List Cond := .code yX8_perfect cX8_perfect 2 (some .int) :: ((wsX8_perfect_r1 ++ (wsX8_perfect_r2 ++ (wsX8_perfect_r3 ++ wsX8_perfect_r4))) ++ wsX80 ++ wsX20 ++ wsX40 ++ wsX70)
def wsX8_heap_r1 : List Cond := [Cond.fieldLink RX8 67 "LikeNets" "search" "LLikeNets$Search;", Cond.fieldLink RX8 301 "LikeNets$Search" "taken" "[I", Cond.methodLink RX8 298 yX8_perfect, Cond.instanceMethod yX8_perfect, Cond.selects RX8 yX8_perfect yX8_perfect, Cond.initialized RX8, Cond.code yX8_perfect cX8_perfect 2 (some .int), Cond.fieldLink RX8 19 "LikeNets" "now" "LLikeNets$Net;", Cond.fieldLink RX8 152 "LikeNets$Net" "size" "I", Cond.fieldLink RX8 288 "LikeNets$Search" "reach" "I", Cond.fieldLink RX8 46 "LikeNets" "ways" "LLikeNets$Ways;", Cond.fieldLink RX8 295 "LikeNets$Search" "found" "I", Cond.methodLink RX8 145 yX8_measure, Cond.instanceMethod yX8_measure, Cond.selects RX8 yX8_measure yX8_measure, Cond.code yX8_measure cX8_measure 1 none, Cond.fieldLink RX8 316 "LikeNets$Ways" "ready" "Z", Cond.methodLink RX8 321 yX7_measure, Cond.instanceMethod yX7_measure, Cond.selects RX7 yX7_measure yX7_measure, Cond.initialized RX7, Cond.code yX7_measure cX7_measure 4 none, Cond.fieldLink RX7 21 "LikeNets$Net" "size" "I", Cond.fieldLink RX7 27 "LikeNets$Ways" "size" "I"]
def wsX8_heap_r2 : List Cond := [Cond.fieldLink RX7 9 "LikeNets$Ways" "steps" "[I", Cond.fieldLink RX7 15 "LikeNets$Ways" "layers" "[I", Cond.methodLink RX7 38 Lib.Math.max.name, Cond.static Lib.Math.max.name, Cond.initialized "java/lang/Math", Cond.code Lib.Math.max.name Lib.Math.max.code 2 (some .int), Cond.fieldLink RX7 18 "LikeNets$Ways" "reached" "[I", Cond.fieldLink RX7 48 "LikeNets$Ways" "whole" "Z", Cond.fieldLink RX7 52 "LikeNets$Ways" "far" "I", Cond.fieldLink RX7 55 "LikeNets$Ways" "ready" "Z", Cond.methodLink RX7 28 yJ7_fill_53178, Cond.static yJ7_fill_53178, Cond.initialized RJ7, Cond.code yJ7_fill_53178 cJ7_fill_53178 4 none, Cond.methodLink RX7 34 yX7_spread, Cond.instanceMethod yX7_spread, Cond.selects RX7 yX7_spread yX7_spread, Cond.code yX7_spread cX7_spread 7 (some .int), Cond.methodLink RX7 58 yX7_noteSteps, Cond.instanceMethod yX7_noteSteps, Cond.selects RX7 yX7_noteSteps yX7_noteSteps, Cond.code yX7_noteSteps cX7_noteSteps 5 none, Cond.static yX8_isIn, Cond.code yX8_isIn cX8_isIn 2 (some .boolean)]
def wsX8_heap_r3 : List Cond := [Cond.methodLink RX7 62 yX2_around, Cond.instanceMethod yX2_around, Cond.selects RX2 yX2_around yX2_around, Cond.initialized RX2, Cond.code yX2_around cX2_around 4 (some .int), Cond.fieldLink RX2 15 "LikeNets$Net" "size" "I", Cond.fieldLink RX2 9 "LikeNets$Net" "near" "[I", Cond.static yX8_allOf, Cond.code yX8_allOf cX8_allOf 1 (some .int), Cond.methodLink RX8 291 yX4_run, Cond.instanceMethod yX4_run, Cond.selects RX4 yX4_run yX4_run, Cond.initialized RX4, Cond.code yX4_run cX4_run 5 none, Cond.fieldLink RX4 25 "LikeNets$Search" "size" "I", Cond.fieldLink RX4 9 "LikeNets$Search" "balls" "[I", Cond.fieldLink RX4 38 "LikeNets$Search" "found" "I", Cond.fieldLink RX4 21 "LikeNets$Search" "reach" "I", Cond.methodLink RX4 28 yX7_postsWithin, Cond.instanceMethod yX7_postsWithin, Cond.selects RX7 yX7_postsWithin yX7_postsWithin, Cond.code yX7_postsWithin cX7_postsWithin 5 (some .int), Cond.methodLink RX7 69 yX7_postsAt, Cond.instanceMethod yX7_postsAt]
def wsX8_heap_r4 : List Cond := [Cond.selects RX7 yX7_postsAt yX7_postsAt, Cond.code yX7_postsAt cX7_postsAt 3 (some .int), Cond.methodLink RX4 34 yX4_climb, Cond.instanceMethod yX4_climb, Cond.selects RX4 yX4_climb yX4_climb, Cond.code yX4_climb cX4_climb 7 (some .int), Cond.fieldLink RX4 18 "LikeNets$Search" "untried" "[I", Cond.constant RX4 48 (40002), Cond.fieldLink RX4 15 "LikeNets$Search" "taken" "[I", Cond.methodLink RX4 45 yX4_candidates, Cond.instanceMethod yX4_candidates, Cond.selects RX4 yX4_candidates yX4_candidates, Cond.code yX4_candidates cX4_candidates 5 (some .int), Cond.static yX8_lowestBit, Cond.code yX8_lowestBit cX8_lowestBit 1 (some .int), Cond.methodLink RX8 204 yJ6_bitCount_0f7a4, Cond.static yJ6_bitCount_0f7a4, Cond.initialized RJ6, Cond.code yJ6_bitCount_0f7a4 cJ6_bitCount_0f7a4 1 (some .int), Cond.constant RJ6 265 (1431655765), Cond.constant RJ6 266 (858993459), Cond.constant RJ6 267 (252645135)]
def wsX8_heap : List Cond := .code yX8_heap cX8_heap 4 (some .int) :: ((wsX8_heap_r1 ++ (wsX8_heap_r2 ++ (wsX8_heap_r3 ++ wsX8_heap_r4))) ++ wsX80 ++ wsX40 ++ wsX20 ++ wsX70)
def wsX8_kinds_r1 : List Cond := [Cond.fieldLink RX8 74 "LikeNets" "pairs" "LLikeNets$Pairs;", Cond.fieldLink RX8 19 "LikeNets" "now" "LLikeNets$Net;", Cond.fieldLink RX8 307 "LikeNets$Pairs" "count" "I", Cond.methodLink RX8 304 yX3_tellApart, Cond.instanceMethod yX3_tellApart, Cond.selects RX3 yX3_tellApart yX3_tellApart, Cond.initialized RX3, Cond.code yX3_tellApart cX3_tellApart 5 none, Cond.fieldLink RX3 37 "LikeNets$Pairs" "ready" "Z", Cond.fieldLink RX3 41 "LikeNets$Net" "size" "I", Cond.fieldLink RX3 47 "LikeNets$Pairs" "size" "I", Cond.fieldLink RX3 52 "LikeNets$Pairs" "count" "I", Cond.methodLink RX3 48 yX3_begin, Cond.instanceMethod yX3_begin, Cond.selects RX3 yX3_begin yX3_begin, Cond.code yX3_begin cX3_begin 8 none, Cond.fieldLink RX3 9 "LikeNets$Pairs" "sorts" "[I", Cond.methodLink RX3 59 yX2_areJoined, Cond.instanceMethod yX2_areJoined, Cond.selects RX2 yX2_areJoined yX2_areJoined, Cond.initialized RX2, Cond.code yX2_areJoined cX2_areJoined 3 (some .boolean), Cond.fieldLink RX2 9 "LikeNets$Net" "near" "[I", Cond.methodLink RX2 31 yX2_has]
def wsX8_kinds_r2 : List Cond := [Cond.instanceMethod yX2_has, Cond.selects RX2 yX2_has yX2_has, Cond.code yX2_has cX2_has 2 (some .boolean), Cond.fieldLink RX2 15 "LikeNets$Net" "size" "I", Cond.static yX8_isIn, Cond.initialized RX8, Cond.code yX8_isIn cX8_isIn 2 (some .boolean), Cond.methodLink RX3 55 yX3_refine, Cond.instanceMethod yX3_refine, Cond.selects RX3 yX3_refine yX3_refine, Cond.code yX3_refine cX3_refine 8 none, Cond.fieldLink RX3 21 "LikeNets$Pairs" "heads" "[I", Cond.fieldLink RX3 15 "LikeNets$Pairs" "parted" "[I", Cond.methodLink RX3 81 arraycopyName, Cond.native arraycopyName, Cond.static arraycopyName, Cond.initialized "java/lang/System", Cond.methodLink RX3 63 yJ7_fill_53178, Cond.static yJ7_fill_53178, Cond.initialized RJ7, Cond.code yJ7_fill_53178 cJ7_fill_53178 4 none, Cond.methodLink RX3 69 yX3_sumOf, Cond.instanceMethod yX3_sumOf, Cond.selects RX3 yX3_sumOf yX3_sumOf]
def wsX8_kinds_r3 : List Cond := [Cond.code yX3_sumOf cX3_sumOf 6 (some .long), Cond.methodLink RX3 90 yX3_keyOf, Cond.instanceMethod yX3_keyOf, Cond.selects RX3 yX3_keyOf yX3_keyOf, Cond.code yX3_keyOf cX3_keyOf 4 (some .int), Cond.methodLink RX3 94 yX3_stir, Cond.static yX3_stir, Cond.code yX3_stir cX3_stir 3 (some .long), Cond.constantLong RX3 98 (-7046029254386353131), Cond.methodLink RX3 73 yX3_match, Cond.instanceMethod yX3_match, Cond.selects RX3 yX3_match yX3_match, Cond.code yX3_match cX3_match 7 (some .int), Cond.fieldLink RX3 27 "LikeNets$Pairs" "sums" "[J", Cond.fieldLink RX3 18 "LikeNets$Pairs" "firsts" "[I", Cond.fieldLink RX3 24 "LikeNets$Pairs" "nexts" "[I", Cond.methodLink RX3 87 yX3_isAlike, Cond.instanceMethod yX3_isAlike, Cond.selects RX3 yX3_isAlike yX3_isAlike, Cond.code yX3_isAlike cX3_isAlike 4 (some .boolean), Cond.fieldLink RX3 31 "LikeNets$Pairs" "keys" "[I", Cond.fieldLink RX3 34 "LikeNets$Pairs" "otherKeys" "[I", Cond.methodLink RX3 100 yX3_gather, Cond.instanceMethod yX3_gather]
def wsX8_kinds_r4 : List Cond := [Cond.selects RX3 yX3_gather yX3_gather, Cond.code yX3_gather cX3_gather 8 none, Cond.methodLink RX3 77 yX3_open, Cond.instanceMethod yX3_open, Cond.selects RX3 yX3_open yX3_open, Cond.code yX3_open cX3_open 5 (some .int)]
def wsX8_kinds : List Cond := .code yX8_kinds cX8_kinds 1 (some .int) :: ((wsX8_kinds_r1 ++ (wsX8_kinds_r2 ++ (wsX8_kinds_r3 ++ wsX8_kinds_r4))) ++ wsX80 ++ wsX30 ++ wsX20)
def wsX8_kind_r1 : List Cond := [Cond.fieldLink RX8 19 "LikeNets" "now" "LLikeNets$Net;", Cond.fieldLink RX8 74 "LikeNets" "pairs" "LLikeNets$Pairs;", Cond.methodLink RX8 144 yX2_has, Cond.instanceMethod yX2_has, Cond.selects RX2 yX2_has yX2_has, Cond.initialized RX2, Cond.code yX2_has cX2_has 2 (some .boolean), Cond.fieldLink RX2 15 "LikeNets$Net" "size" "I", Cond.methodLink RX8 304 yX3_tellApart, Cond.instanceMethod yX3_tellApart, Cond.selects RX3 yX3_tellApart yX3_tellApart, Cond.initialized RX3, Cond.code yX3_tellApart cX3_tellApart 5 none, Cond.fieldLink RX3 37 "LikeNets$Pairs" "ready" "Z", Cond.fieldLink RX3 41 "LikeNets$Net" "size" "I", Cond.fieldLink RX3 47 "LikeNets$Pairs" "size" "I", Cond.fieldLink RX3 52 "LikeNets$Pairs" "count" "I", Cond.methodLink RX3 48 yX3_begin, Cond.instanceMethod yX3_begin, Cond.selects RX3 yX3_begin yX3_begin, Cond.code yX3_begin cX3_begin 8 none, Cond.fieldLink RX3 9 "LikeNets$Pairs" "sorts" "[I", Cond.methodLink RX3 59 yX2_areJoined, Cond.instanceMethod yX2_areJoined]
def wsX8_kind_r2 : List Cond := [Cond.selects RX2 yX2_areJoined yX2_areJoined, Cond.code yX2_areJoined cX2_areJoined 3 (some .boolean), Cond.fieldLink RX2 9 "LikeNets$Net" "near" "[I", Cond.methodLink RX2 31 yX2_has, Cond.static yX8_isIn, Cond.initialized RX8, Cond.code yX8_isIn cX8_isIn 2 (some .boolean), Cond.methodLink RX3 55 yX3_refine, Cond.instanceMethod yX3_refine, Cond.selects RX3 yX3_refine yX3_refine, Cond.code yX3_refine cX3_refine 8 none, Cond.fieldLink RX3 21 "LikeNets$Pairs" "heads" "[I", Cond.fieldLink RX3 15 "LikeNets$Pairs" "parted" "[I", Cond.methodLink RX3 81 arraycopyName, Cond.native arraycopyName, Cond.static arraycopyName, Cond.initialized "java/lang/System", Cond.methodLink RX3 63 yJ7_fill_53178, Cond.static yJ7_fill_53178, Cond.initialized RJ7, Cond.code yJ7_fill_53178 cJ7_fill_53178 4 none, Cond.methodLink RX3 69 yX3_sumOf, Cond.instanceMethod yX3_sumOf, Cond.selects RX3 yX3_sumOf yX3_sumOf]
def wsX8_kind_r3 : List Cond := [Cond.code yX3_sumOf cX3_sumOf 6 (some .long), Cond.methodLink RX3 90 yX3_keyOf, Cond.instanceMethod yX3_keyOf, Cond.selects RX3 yX3_keyOf yX3_keyOf, Cond.code yX3_keyOf cX3_keyOf 4 (some .int), Cond.methodLink RX3 94 yX3_stir, Cond.static yX3_stir, Cond.code yX3_stir cX3_stir 3 (some .long), Cond.constantLong RX3 98 (-7046029254386353131), Cond.methodLink RX3 73 yX3_match, Cond.instanceMethod yX3_match, Cond.selects RX3 yX3_match yX3_match, Cond.code yX3_match cX3_match 7 (some .int), Cond.fieldLink RX3 27 "LikeNets$Pairs" "sums" "[J", Cond.fieldLink RX3 18 "LikeNets$Pairs" "firsts" "[I", Cond.fieldLink RX3 24 "LikeNets$Pairs" "nexts" "[I", Cond.methodLink RX3 87 yX3_isAlike, Cond.instanceMethod yX3_isAlike, Cond.selects RX3 yX3_isAlike yX3_isAlike, Cond.code yX3_isAlike cX3_isAlike 4 (some .boolean), Cond.fieldLink RX3 31 "LikeNets$Pairs" "keys" "[I", Cond.fieldLink RX3 34 "LikeNets$Pairs" "otherKeys" "[I", Cond.methodLink RX3 100 yX3_gather, Cond.instanceMethod yX3_gather]
def wsX8_kind_r4 : List Cond := [Cond.selects RX3 yX3_gather yX3_gather, Cond.code yX3_gather cX3_gather 8 none, Cond.methodLink RX3 77 yX3_open, Cond.instanceMethod yX3_open, Cond.selects RX3 yX3_open yX3_open, Cond.code yX3_open cX3_open 5 (some .int), Cond.methodLink RX8 310 yX3_of, Cond.instanceMethod yX3_of, Cond.selects RX3 yX3_of yX3_of, Cond.code yX3_of cX3_of 3 (some .int)]
def wsX8_kind : List Cond := .code yX8_kind cX8_kind 3 (some .int) :: ((wsX8_kind_r1 ++ (wsX8_kind_r2 ++ (wsX8_kind_r3 ++ wsX8_kind_r4))) ++ wsX80 ++ wsX20 ++ wsX30)
def wsX9_init_r1 : List Cond := [Cond.methodLink RX9 1 objectInit, Cond.instanceMethod objectInit, Cond.code objectInit ⟨#[0xb1]⟩ 1 none, Cond.arrayClass .int, Cond.fieldLink RX9 7 "LikeNetsModel" "sheetKind" "[I", Cond.fieldLink RX9 13 "LikeNetsModel" "sheetSize" "[I", Cond.fieldLink RX9 16 "LikeNetsModel" "cellOf" "[I", Cond.arrayClass .boolean, Cond.fieldLink RX9 19 "LikeNetsModel" "road" "[Z", Cond.fieldLink RX9 23 "LikeNetsModel" "keptRoad" "[Z", Cond.fieldLink RX9 26 "LikeNetsModel" "length" "I", Cond.fieldLink RX9 30 "LikeNetsModel" "toldB" "[I", Cond.fieldLink RX9 33 "LikeNetsModel" "toldC" "[I", Cond.fieldLink RX9 36 "LikeNetsModel" "sets" "[I", Cond.fieldLink RX9 39 "LikeNetsModel" "wayOf" "[I", Cond.fieldLink RX9 42 "LikeNetsModel" "layer" "[I", Cond.fieldLink RX9 45 "LikeNetsModel" "tableC" "[I", Cond.fieldLink RX9 48 "LikeNetsModel" "tableA" "[I", Cond.fieldLink RX9 51 "LikeNetsModel" "tableB" "[I", Cond.fieldLink RX9 54 "LikeNetsModel" "isTold" "[Z", Cond.arrayClass .long, Cond.fieldLink RX9 57 "LikeNetsModel" "sizes" "[J", Cond.fieldLink RX9 61 "LikeNetsModel" "third" "[J", Cond.fieldLink RX9 64 "LikeNetsModel" "u" "[J"]
def wsX9_init_r2 : List Cond := [Cond.fieldLink RX9 67 "LikeNetsModel" "walk" "[J", Cond.fieldLink RX9 70 "LikeNetsModel" "next" "[J", Cond.fieldLink RX9 73 "LikeNetsModel" "newRoad" "[Z", Cond.fieldLink RX9 76 "LikeNetsModel" "numberOf" "[I", Cond.fieldLink RX9 79 "LikeNetsModel" "lineP" "[I", Cond.fieldLink RX9 82 "LikeNetsModel" "lineQ" "[I", Cond.fieldLink RX9 85 "LikeNetsModel" "taken" "[I", Cond.fieldLink RX9 88 "LikeNetsModel" "tried" "[I", Cond.fieldLink RX9 91 "LikeNetsModel" "nearTo" "[I", Cond.fieldLink RX9 94 "LikeNetsModel" "coveredAt" "[I", Cond.fieldLink RX9 97 "LikeNetsModel" "kindOf" "[I", Cond.fieldLink RX9 100 "LikeNetsModel" "newKind" "[I", Cond.constant RX9 103 (32768), Cond.fieldLink RX9 104 "LikeNetsModel" "signs" "[I", Cond.fieldLink RX9 107 "LikeNetsModel" "firstPair" "[I"]
def wsX9_init : List Cond := .code yX9_init cX9_init 2 none :: ((wsX9_init_r1 ++ wsX9_init_r2) ++ wsX90)
def wsX9_in : List Cond := .code yX9_in cX9_in 6 (some .boolean) :: ([])
def wsX9_isSheet : List Cond := .code yX9_isSheet cX9_isSheet 1 (some .boolean) :: ([.constantLong RX9 110 (3), .methodLink RX9 112 yX9_in, .static yX9_in, .initialized RX9, .code yX9_in cX9_in 6 (some .boolean)])
def wsX9_isPost : List Cond := .code yX9_isPost cX9_isPost 2 (some .boolean) :: ([.fieldLink RX9 116 "LikeNetsModel" "posts" "I", .methodLink RX9 112 yX9_in, .static yX9_in, .initialized RX9, .code yX9_in cX9_in 6 (some .boolean)] ++ wsX90)
def wsX9_sheet : List Cond := .code yX9_sheet cX9_sheet 5 (some .int) :: ([.constantLong RX9 123 (2), .fieldLink RX9 7 "LikeNetsModel" "sheetKind" "[I", .fieldLink RX9 13 "LikeNetsModel" "sheetSize" "[I", .fieldLink RX9 16 "LikeNetsModel" "cellOf" "[I", .methodLink RX9 119 yX9_isSheet, .static yX9_isSheet, .initialized RX9, .code yX9_isSheet cX9_isSheet 1 (some .boolean), .constantLong RX9 110 (3), .methodLink RX9 112 yX9_in, .static yX9_in, .code yX9_in cX9_in 6 (some .boolean)] ++ wsX90)
def wsX9_cell : List Cond := .code yX9_cell cX9_cell 4 (some .int) :: ([.fieldLink RX9 13 "LikeNetsModel" "sheetSize" "[I", .fieldLink RX9 16 "LikeNetsModel" "cellOf" "[I", .fieldLink RX9 7 "LikeNetsModel" "sheetKind" "[I", .methodLink RX9 119 yX9_isSheet, .static yX9_isSheet, .initialized RX9, .code yX9_isSheet cX9_isSheet 1 (some .boolean), .constantLong RX9 110 (3), .methodLink RX9 112 yX9_in, .static yX9_in, .code yX9_in cX9_in 6 (some .boolean)] ++ wsX90)
def wsX9_lose : List Cond := .code yX9_lose cX9_lose 2 (some .int) :: ([.fieldLink RX9 13 "LikeNetsModel" "sheetSize" "[I", .methodLink RX9 119 yX9_isSheet, .static yX9_isSheet, .initialized RX9, .code yX9_isSheet cX9_isSheet 1 (some .boolean), .constantLong RX9 110 (3), .methodLink RX9 112 yX9_in, .static yX9_in, .code yX9_in cX9_in 6 (some .boolean)] ++ wsX90)
def wsX9_fresh : List Cond := .code yX9_fresh cX9_fresh 3 none :: ([.fieldLink RX9 116 "LikeNetsModel" "posts" "I", .fieldLink RX9 19 "LikeNetsModel" "road" "[Z", .fieldLink RX9 125 "LikeNetsModel" "isMeasured" "Z", .fieldLink RX9 129 "LikeNetsModel" "areKindsFound" "Z"] ++ wsX90)
def wsX9_net : List Cond := .code yX9_net cX9_net 2 (some .int) :: ([.constantLong RX9 132 (32), .methodLink RX9 112 yX9_in, .static yX9_in, .initialized RX9, .code yX9_in cX9_in 6 (some .boolean), .methodLink RX9 134 yX9_fresh, .instanceMethod yX9_fresh, .selects RX9 yX9_fresh yX9_fresh, .code yX9_fresh cX9_fresh 3 none, .fieldLink RX9 116 "LikeNetsModel" "posts" "I", .fieldLink RX9 19 "LikeNetsModel" "road" "[Z", .fieldLink RX9 125 "LikeNetsModel" "isMeasured" "Z", .fieldLink RX9 129 "LikeNetsModel" "areKindsFound" "Z"] ++ wsX90)
def wsX9_lay : List Cond := .code yX9_lay cX9_lay 5 (some .boolean) :: ([.fieldLink RX9 19 "LikeNetsModel" "road" "[Z", .fieldLink RX9 125 "LikeNetsModel" "isMeasured" "Z", .fieldLink RX9 129 "LikeNetsModel" "areKindsFound" "Z"] ++ wsX90)
def wsX9_road : List Cond := .code yX9_road cX9_road 4 (some .int) :: ([.methodLink RX9 138 yX9_isPost, .instanceMethod yX9_isPost, .selects RX9 yX9_isPost yX9_isPost, .initialized RX9, .code yX9_isPost cX9_isPost 2 (some .boolean), .fieldLink RX9 116 "LikeNetsModel" "posts" "I", .methodLink RX9 112 yX9_in, .static yX9_in, .code yX9_in cX9_in 6 (some .boolean), .methodLink RX9 141 yX9_lay, .instanceMethod yX9_lay, .selects RX9 yX9_lay yX9_lay, .code yX9_lay cX9_lay 5 (some .boolean), .fieldLink RX9 19 "LikeNetsModel" "road" "[Z", .fieldLink RX9 125 "LikeNetsModel" "isMeasured" "Z", .fieldLink RX9 129 "LikeNetsModel" "areKindsFound" "Z"] ++ wsX90)
def wsX9_load : List Cond := .code yX9_load cX9_load 7 (some .int) :: ([.fieldLink RX9 13 "LikeNetsModel" "sheetSize" "[I", .constantLong RX9 123 (2), .fieldLink RX9 16 "LikeNetsModel" "cellOf" "[I", .methodLink RX9 119 yX9_isSheet, .static yX9_isSheet, .initialized RX9, .code yX9_isSheet cX9_isSheet 1 (some .boolean), .constantLong RX9 110 (3), .methodLink RX9 112 yX9_in, .static yX9_in, .code yX9_in cX9_in 6 (some .boolean), .methodLink RX9 138 yX9_isPost, .instanceMethod yX9_isPost, .selects RX9 yX9_isPost yX9_isPost, .code yX9_isPost cX9_isPost 2 (some .boolean), .fieldLink RX9 116 "LikeNetsModel" "posts" "I", .methodLink RX9 141 yX9_lay, .instanceMethod yX9_lay, .selects RX9 yX9_lay yX9_lay, .code yX9_lay cX9_lay 5 (some .boolean), .fieldLink RX9 19 "LikeNetsModel" "road" "[Z", .fieldLink RX9 125 "LikeNetsModel" "isMeasured" "Z", .fieldLink RX9 129 "LikeNetsModel" "areKindsFound" "Z"] ++ wsX90)
def wsX9_joined : List Cond := .code yX9_joined cX9_joined 3 (some .boolean) :: ([.fieldLink RX9 19 "LikeNetsModel" "road" "[Z", .methodLink RX9 138 yX9_isPost, .instanceMethod yX9_isPost, .selects RX9 yX9_isPost yX9_isPost, .initialized RX9, .code yX9_isPost cX9_isPost 2 (some .boolean), .fieldLink RX9 116 "LikeNetsModel" "posts" "I", .methodLink RX9 112 yX9_in, .static yX9_in, .code yX9_in cX9_in 6 (some .boolean)] ++ wsX90)
def wsX9_ones : List Cond := .code yX9_ones cX9_ones 3 (some .int) :: ([])
def wsX9_findSets : List Cond := .code yX9_findSets cX9_findSets 10 (some .int) :: ([.fieldLink RX9 36 "LikeNetsModel" "sets" "[I"] ++ wsX90)
def wsX9_choose : List Cond := .code yX9_choose cX9_choose 6 (some .int) :: ([.constantLong RX9 145 (64), .constantLong RX9 132 (32)])
def wsX9_power : List Cond := .code yX9_power cX9_power 5 (some .int) :: ([.constantLong RX9 132 (32)])
def wsX9_unlikeLetters : List Cond := .code yX9_unlikeLetters cX9_unlikeLetters 8 (some .int) :: ([])
def wsX9_may : List Cond := .code yX9_may cX9_may 3 (some .boolean) :: ([])
def wsX9_sizeOf : List Cond := .code yX9_sizeOf cX9_sizeOf 3 (some .long) :: ([.methodLink RX9 147 yX9_power, .static yX9_power, .initialized RX9, .code yX9_power cX9_power 5 (some .int), .constantLong RX9 132 (32), .methodLink RX9 151 yX9_choose, .static yX9_choose, .code yX9_choose cX9_choose 6 (some .int), .constantLong RX9 145 (64)])
def wsX9_isMade : List Cond := .code yX9_isMade cX9_isMade 6 (some .boolean) :: ([.fieldLink RX9 36 "LikeNetsModel" "sets" "[I", .methodLink RX9 154 yX9_unlikeLetters, .static yX9_unlikeLetters, .initialized RX9, .code yX9_unlikeLetters cX9_unlikeLetters 8 (some .int), .methodLink RX9 158 yX9_ones, .static yX9_ones, .code yX9_ones cX9_ones 3 (some .int)] ++ wsX90)
def wsX9_build_r1 : List Cond := [Cond.constantLong RX9 132 (32), Cond.fieldLink RX9 116 "LikeNetsModel" "posts" "I", Cond.methodLink RX9 162 yX9_may, Cond.static yX9_may, Cond.initialized RX9, Cond.code yX9_may cX9_may 3 (some .boolean), Cond.methodLink RX9 166 yX9_sizeOf, Cond.static yX9_sizeOf, Cond.code yX9_sizeOf cX9_sizeOf 3 (some .long), Cond.methodLink RX9 147 yX9_power, Cond.static yX9_power, Cond.code yX9_power cX9_power 5 (some .int), Cond.methodLink RX9 151 yX9_choose, Cond.static yX9_choose, Cond.code yX9_choose cX9_choose 6 (some .int), Cond.constantLong RX9 145 (64), Cond.methodLink RX9 170 yX9_findSets, Cond.instanceMethod yX9_findSets, Cond.selects RX9 yX9_findSets yX9_findSets, Cond.code yX9_findSets cX9_findSets 10 (some .int), Cond.fieldLink RX9 36 "LikeNetsModel" "sets" "[I", Cond.methodLink RX9 134 yX9_fresh, Cond.instanceMethod yX9_fresh, Cond.selects RX9 yX9_fresh yX9_fresh]
def wsX9_build_r2 : List Cond := [Cond.code yX9_fresh cX9_fresh 3 none, Cond.fieldLink RX9 19 "LikeNetsModel" "road" "[Z", Cond.fieldLink RX9 125 "LikeNetsModel" "isMeasured" "Z", Cond.fieldLink RX9 129 "LikeNetsModel" "areKindsFound" "Z", Cond.methodLink RX9 173 yX9_isMade, Cond.instanceMethod yX9_isMade, Cond.selects RX9 yX9_isMade yX9_isMade, Cond.code yX9_isMade cX9_isMade 6 (some .boolean), Cond.methodLink RX9 154 yX9_unlikeLetters, Cond.static yX9_unlikeLetters, Cond.code yX9_unlikeLetters cX9_unlikeLetters 8 (some .int), Cond.methodLink RX9 158 yX9_ones, Cond.static yX9_ones, Cond.code yX9_ones cX9_ones 3 (some .int), Cond.methodLink RX9 141 yX9_lay, Cond.instanceMethod yX9_lay, Cond.selects RX9 yX9_lay yX9_lay, Cond.code yX9_lay cX9_lay 5 (some .boolean)]
def wsX9_build : List Cond := .code yX9_build cX9_build 9 (some .int) :: ((wsX9_build_r1 ++ wsX9_build_r2) ++ wsX90)
def wsX9_measureFrom : List Cond := .code yX9_measureFrom cX9_measureFrom 5 none :: ([.fieldLink RX9 39 "LikeNetsModel" "wayOf" "[I", .fieldLink RX9 116 "LikeNetsModel" "posts" "I", .fieldLink RX9 19 "LikeNetsModel" "road" "[Z"] ++ wsX90)
def wsX9_measure : List Cond := .code yX9_measure cX9_measure 4 none :: ([.fieldLink RX9 125 "LikeNetsModel" "isMeasured" "Z", .fieldLink RX9 177 "LikeNetsModel" "far" "I", .fieldLink RX9 180 "LikeNetsModel" "heaps" "I", .fieldLink RX9 116 "LikeNetsModel" "posts" "I", .fieldLink RX9 39 "LikeNetsModel" "wayOf" "[I", .methodLink RX9 183 yX9_measureFrom, .instanceMethod yX9_measureFrom, .selects RX9 yX9_measureFrom yX9_measureFrom, .initialized RX9, .code yX9_measureFrom cX9_measureFrom 5 none, .fieldLink RX9 19 "LikeNetsModel" "road" "[Z"] ++ wsX90)
def wsX9_isWhole : List Cond := .code yX9_isWhole cX9_isWhole 1 (some .boolean) :: ([.fieldLink RX9 180 "LikeNetsModel" "heaps" "I", .methodLink RX9 186 yX9_measure, .instanceMethod yX9_measure, .selects RX9 yX9_measure yX9_measure, .initialized RX9, .code yX9_measure cX9_measure 4 none, .fieldLink RX9 125 "LikeNetsModel" "isMeasured" "Z", .fieldLink RX9 177 "LikeNetsModel" "far" "I", .fieldLink RX9 116 "LikeNetsModel" "posts" "I", .fieldLink RX9 39 "LikeNetsModel" "wayOf" "[I", .methodLink RX9 183 yX9_measureFrom, .instanceMethod yX9_measureFrom, .selects RX9 yX9_measureFrom yX9_measureFrom, .code yX9_measureFrom cX9_measureFrom 5 none, .fieldLink RX9 19 "LikeNetsModel" "road" "[Z"] ++ wsX90)
def wsX9_way : List Cond := .code yX9_way cX9_way 3 (some .int) :: ([.fieldLink RX9 39 "LikeNetsModel" "wayOf" "[I", .methodLink RX9 138 yX9_isPost, .instanceMethod yX9_isPost, .selects RX9 yX9_isPost yX9_isPost, .initialized RX9, .code yX9_isPost cX9_isPost 2 (some .boolean), .fieldLink RX9 116 "LikeNetsModel" "posts" "I", .methodLink RX9 112 yX9_in, .static yX9_in, .code yX9_in cX9_in 6 (some .boolean), .methodLink RX9 186 yX9_measure, .instanceMethod yX9_measure, .selects RX9 yX9_measure yX9_measure, .code yX9_measure cX9_measure 4 none, .fieldLink RX9 125 "LikeNetsModel" "isMeasured" "Z", .fieldLink RX9 177 "LikeNetsModel" "far" "I", .fieldLink RX9 180 "LikeNetsModel" "heaps" "I", .methodLink RX9 183 yX9_measureFrom, .instanceMethod yX9_measureFrom, .selects RX9 yX9_measureFrom yX9_measureFrom, .code yX9_measureFrom cX9_measureFrom 5 none, .fieldLink RX9 19 "LikeNetsModel" "road" "[Z"] ++ wsX90)
def wsX9_fullness : List Cond := .code yX9_fullness cX9_fullness 4 (some .int) :: ([.fieldLink RX9 116 "LikeNetsModel" "posts" "I", .fieldLink RX9 19 "LikeNetsModel" "road" "[Z"] ++ wsX90)
def wsX9_roads : List Cond := .code yX9_roads cX9_roads 3 (some .int) :: ([.fieldLink RX9 116 "LikeNetsModel" "posts" "I", .methodLink RX9 189 yX9_fullness, .instanceMethod yX9_fullness, .selects RX9 yX9_fullness yX9_fullness, .initialized RX9, .code yX9_fullness cX9_fullness 4 (some .int), .fieldLink RX9 19 "LikeNetsModel" "road" "[Z"] ++ wsX90)
def wsX9_wayRound : List Cond := .code yX9_wayRound cX9_wayRound 7 (some .int) :: ([.fieldLink RX9 116 "LikeNetsModel" "posts" "I", .fieldLink RX9 42 "LikeNetsModel" "layer" "[I", .fieldLink RX9 19 "LikeNetsModel" "road" "[Z"] ++ wsX90)
def wsX9_round : List Cond := .code yX9_round cX9_round 5 (some .int) :: ([.fieldLink RX9 116 "LikeNetsModel" "posts" "I", .fieldLink RX9 19 "LikeNetsModel" "road" "[Z", .methodLink RX9 192 yX9_wayRound, .instanceMethod yX9_wayRound, .selects RX9 yX9_wayRound yX9_wayRound, .initialized RX9, .code yX9_wayRound cX9_wayRound 7 (some .int), .fieldLink RX9 42 "LikeNetsModel" "layer" "[I"] ++ wsX90)
def wsX9_isEven : List Cond := .code yX9_isEven cX9_isEven 3 (some .boolean) :: ([.fieldLink RX9 116 "LikeNetsModel" "posts" "I", .methodLink RX9 189 yX9_fullness, .instanceMethod yX9_fullness, .selects RX9 yX9_fullness yX9_fullness, .initialized RX9, .code yX9_fullness cX9_fullness 4 (some .int), .fieldLink RX9 19 "LikeNetsModel" "road" "[Z"] ++ wsX90)
def wsX9_isOfSides : List Cond := .code yX9_isOfSides cX9_isOfSides 6 (some .boolean) :: ([.fieldLink RX9 116 "LikeNetsModel" "posts" "I", .fieldLink RX9 19 "LikeNetsModel" "road" "[Z", .fieldLink RX9 39 "LikeNetsModel" "wayOf" "[I", .methodLink RX9 186 yX9_measure, .instanceMethod yX9_measure, .selects RX9 yX9_measure yX9_measure, .initialized RX9, .code yX9_measure cX9_measure 4 none, .fieldLink RX9 125 "LikeNetsModel" "isMeasured" "Z", .fieldLink RX9 177 "LikeNetsModel" "far" "I", .fieldLink RX9 180 "LikeNetsModel" "heaps" "I", .methodLink RX9 183 yX9_measureFrom, .instanceMethod yX9_measureFrom, .selects RX9 yX9_measureFrom yX9_measureFrom, .code yX9_measureFrom cX9_measureFrom 5 none] ++ wsX90)
def wsX9_isFar : List Cond := .code yX9_isFar cX9_isFar 3 (some .boolean) :: ([.fieldLink RX9 39 "LikeNetsModel" "wayOf" "[I", .fieldLink RX9 177 "LikeNetsModel" "far" "I"] ++ wsX90)
def wsX9_isFolded : List Cond := .code yX9_isFolded cX9_isFolded 5 (some .boolean) :: ([.fieldLink RX9 177 "LikeNetsModel" "far" "I", .fieldLink RX9 116 "LikeNetsModel" "posts" "I", .methodLink RX9 195 yX9_isWhole, .instanceMethod yX9_isWhole, .selects RX9 yX9_isWhole yX9_isWhole, .initialized RX9, .code yX9_isWhole cX9_isWhole 1 (some .boolean), .fieldLink RX9 180 "LikeNetsModel" "heaps" "I", .methodLink RX9 186 yX9_measure, .instanceMethod yX9_measure, .selects RX9 yX9_measure yX9_measure, .code yX9_measure cX9_measure 4 none, .fieldLink RX9 125 "LikeNetsModel" "isMeasured" "Z", .fieldLink RX9 39 "LikeNetsModel" "wayOf" "[I", .methodLink RX9 183 yX9_measureFrom, .instanceMethod yX9_measureFrom, .selects RX9 yX9_measureFrom yX9_measureFrom, .code yX9_measureFrom cX9_measureFrom 5 none, .fieldLink RX9 19 "LikeNetsModel" "road" "[Z", .methodLink RX9 199 yX9_isFar, .instanceMethod yX9_isFar, .selects RX9 yX9_isFar yX9_isFar, .code yX9_isFar cX9_isFar 3 (some .boolean)] ++ wsX90)
def wsX9_beside : List Cond := .code yX9_beside cX9_beside 6 (some .int) :: ([.fieldLink RX9 116 "LikeNetsModel" "posts" "I", .fieldLink RX9 19 "LikeNetsModel" "road" "[Z", .fieldLink RX9 39 "LikeNetsModel" "wayOf" "[I"] ++ wsX90)
def wsX9_isLike_r1 : List Cond := [Cond.fieldLink RX9 54 "LikeNetsModel" "isTold" "[Z", Cond.fieldLink RX9 116 "LikeNetsModel" "posts" "I", Cond.fieldLink RX9 39 "LikeNetsModel" "wayOf" "[I", Cond.fieldLink RX9 45 "LikeNetsModel" "tableC" "[I", Cond.fieldLink RX9 48 "LikeNetsModel" "tableA" "[I", Cond.fieldLink RX9 51 "LikeNetsModel" "tableB" "[I", Cond.fieldLink RX9 207 "LikeNetsModel" "clashP" "I", Cond.fieldLink RX9 210 "LikeNetsModel" "clashQ" "I", Cond.methodLink RX9 195 yX9_isWhole, Cond.instanceMethod yX9_isWhole, Cond.selects RX9 yX9_isWhole yX9_isWhole, Cond.initialized RX9, Cond.code yX9_isWhole cX9_isWhole 1 (some .boolean), Cond.fieldLink RX9 180 "LikeNetsModel" "heaps" "I", Cond.methodLink RX9 186 yX9_measure, Cond.instanceMethod yX9_measure, Cond.selects RX9 yX9_measure yX9_measure, Cond.code yX9_measure cX9_measure 4 none, Cond.fieldLink RX9 125 "LikeNetsModel" "isMeasured" "Z", Cond.fieldLink RX9 177 "LikeNetsModel" "far" "I", Cond.methodLink RX9 183 yX9_measureFrom, Cond.instanceMethod yX9_measureFrom, Cond.selects RX9 yX9_measureFrom yX9_measureFrom, Cond.code yX9_measureFrom cX9_measureFrom 5 none]
def wsX9_isLike_r2 : List Cond := [Cond.fieldLink RX9 19 "LikeNetsModel" "road" "[Z", Cond.methodLink RX9 203 yX9_beside, Cond.instanceMethod yX9_beside, Cond.selects RX9 yX9_beside yX9_beside, Cond.code yX9_beside cX9_beside 6 (some .int)]
def wsX9_isLike : List Cond := .code yX9_isLike cX9_isLike 7 (some .boolean) :: ((wsX9_isLike_r1 ++ wsX9_isLike_r2) ++ wsX90)
def wsX9_many_r1 : List Cond := [Cond.fieldLink RX9 116 "LikeNetsModel" "posts" "I", Cond.fieldLink RX9 180 "LikeNetsModel" "heaps" "I", Cond.fieldLink RX9 177 "LikeNetsModel" "far" "I", Cond.methodLink RX9 186 yX9_measure, Cond.instanceMethod yX9_measure, Cond.selects RX9 yX9_measure yX9_measure, Cond.initialized RX9, Cond.code yX9_measure cX9_measure 4 none, Cond.fieldLink RX9 125 "LikeNetsModel" "isMeasured" "Z", Cond.fieldLink RX9 39 "LikeNetsModel" "wayOf" "[I", Cond.methodLink RX9 183 yX9_measureFrom, Cond.instanceMethod yX9_measureFrom, Cond.selects RX9 yX9_measureFrom yX9_measureFrom, Cond.code yX9_measureFrom cX9_measureFrom 5 none, Cond.fieldLink RX9 19 "LikeNetsModel" "road" "[Z", Cond.methodLink RX9 213 yX9_roads, Cond.instanceMethod yX9_roads, Cond.selects RX9 yX9_roads yX9_roads, Cond.code yX9_roads cX9_roads 3 (some .int), Cond.methodLink RX9 189 yX9_fullness, Cond.instanceMethod yX9_fullness, Cond.selects RX9 yX9_fullness yX9_fullness, Cond.code yX9_fullness cX9_fullness 4 (some .int), Cond.methodLink RX9 217 yX9_round]
def wsX9_many_r2 : List Cond := [Cond.instanceMethod yX9_round, Cond.selects RX9 yX9_round yX9_round, Cond.code yX9_round cX9_round 5 (some .int), Cond.methodLink RX9 192 yX9_wayRound, Cond.instanceMethod yX9_wayRound, Cond.selects RX9 yX9_wayRound yX9_wayRound, Cond.code yX9_wayRound cX9_wayRound 7 (some .int), Cond.fieldLink RX9 42 "LikeNetsModel" "layer" "[I", Cond.methodLink RX9 220 yX9_isEven, Cond.instanceMethod yX9_isEven, Cond.selects RX9 yX9_isEven yX9_isEven, Cond.code yX9_isEven cX9_isEven 3 (some .boolean), Cond.methodLink RX9 223 yX9_isOfSides, Cond.instanceMethod yX9_isOfSides, Cond.selects RX9 yX9_isOfSides yX9_isOfSides, Cond.code yX9_isOfSides cX9_isOfSides 6 (some .boolean), Cond.methodLink RX9 226 yX9_isFolded, Cond.instanceMethod yX9_isFolded, Cond.selects RX9 yX9_isFolded yX9_isFolded, Cond.code yX9_isFolded cX9_isFolded 5 (some .boolean), Cond.methodLink RX9 195 yX9_isWhole, Cond.instanceMethod yX9_isWhole, Cond.selects RX9 yX9_isWhole yX9_isWhole, Cond.code yX9_isWhole cX9_isWhole 1 (some .boolean)]
def wsX9_many_r3 : List Cond := [Cond.methodLink RX9 199 yX9_isFar, Cond.instanceMethod yX9_isFar, Cond.selects RX9 yX9_isFar yX9_isFar, Cond.code yX9_isFar cX9_isFar 3 (some .boolean), Cond.methodLink RX9 229 yX9_isLike, Cond.instanceMethod yX9_isLike, Cond.selects RX9 yX9_isLike yX9_isLike, Cond.code yX9_isLike cX9_isLike 7 (some .boolean), Cond.fieldLink RX9 54 "LikeNetsModel" "isTold" "[Z", Cond.fieldLink RX9 45 "LikeNetsModel" "tableC" "[I", Cond.fieldLink RX9 48 "LikeNetsModel" "tableA" "[I", Cond.fieldLink RX9 51 "LikeNetsModel" "tableB" "[I", Cond.fieldLink RX9 207 "LikeNetsModel" "clashP" "I", Cond.fieldLink RX9 210 "LikeNetsModel" "clashQ" "I", Cond.methodLink RX9 203 yX9_beside, Cond.instanceMethod yX9_beside, Cond.selects RX9 yX9_beside yX9_beside, Cond.code yX9_beside cX9_beside 6 (some .int)]
def wsX9_many : List Cond := .code yX9_many cX9_many 2 (some .int) :: ((wsX9_many_r1 ++ (wsX9_many_r2 ++ wsX9_many_r3)) ++ wsX90)
def wsX9_clash_r1 : List Cond := [Cond.fieldLink RX9 207 "LikeNetsModel" "clashP" "I", Cond.fieldLink RX9 210 "LikeNetsModel" "clashQ" "I", Cond.methodLink RX9 112 yX9_in, Cond.static yX9_in, Cond.initialized RX9, Cond.code yX9_in cX9_in 6 (some .boolean), Cond.methodLink RX9 195 yX9_isWhole, Cond.instanceMethod yX9_isWhole, Cond.selects RX9 yX9_isWhole yX9_isWhole, Cond.code yX9_isWhole cX9_isWhole 1 (some .boolean), Cond.fieldLink RX9 180 "LikeNetsModel" "heaps" "I", Cond.methodLink RX9 186 yX9_measure, Cond.instanceMethod yX9_measure, Cond.selects RX9 yX9_measure yX9_measure, Cond.code yX9_measure cX9_measure 4 none, Cond.fieldLink RX9 125 "LikeNetsModel" "isMeasured" "Z", Cond.fieldLink RX9 177 "LikeNetsModel" "far" "I", Cond.fieldLink RX9 116 "LikeNetsModel" "posts" "I", Cond.fieldLink RX9 39 "LikeNetsModel" "wayOf" "[I", Cond.methodLink RX9 183 yX9_measureFrom, Cond.instanceMethod yX9_measureFrom, Cond.selects RX9 yX9_measureFrom yX9_measureFrom, Cond.code yX9_measureFrom cX9_measureFrom 5 none, Cond.fieldLink RX9 19 "LikeNetsModel" "road" "[Z"]
def wsX9_clash_r2 : List Cond := [Cond.methodLink RX9 229 yX9_isLike, Cond.instanceMethod yX9_isLike, Cond.selects RX9 yX9_isLike yX9_isLike, Cond.code yX9_isLike cX9_isLike 7 (some .boolean), Cond.fieldLink RX9 54 "LikeNetsModel" "isTold" "[Z", Cond.fieldLink RX9 45 "LikeNetsModel" "tableC" "[I", Cond.fieldLink RX9 48 "LikeNetsModel" "tableA" "[I", Cond.fieldLink RX9 51 "LikeNetsModel" "tableB" "[I", Cond.methodLink RX9 203 yX9_beside, Cond.instanceMethod yX9_beside, Cond.selects RX9 yX9_beside yX9_beside, Cond.code yX9_beside cX9_beside 6 (some .int)]
def wsX9_clash : List Cond := .code yX9_clash cX9_clash 2 (some .int) :: ((wsX9_clash_r1 ++ wsX9_clash_r2) ++ wsX90)
def wsX9_atWay : List Cond := .code yX9_atWay cX9_atWay 5 (some .int) :: ([.fieldLink RX9 116 "LikeNetsModel" "posts" "I", .fieldLink RX9 39 "LikeNetsModel" "wayOf" "[I"] ++ wsX90)
def wsX9_table_r1 : List Cond := [Cond.constantLong RX9 110 (3), Cond.fieldLink RX9 177 "LikeNetsModel" "far" "I", Cond.fieldLink RX9 45 "LikeNetsModel" "tableC" "[I", Cond.fieldLink RX9 48 "LikeNetsModel" "tableA" "[I", Cond.fieldLink RX9 51 "LikeNetsModel" "tableB" "[I", Cond.methodLink RX9 112 yX9_in, Cond.static yX9_in, Cond.initialized RX9, Cond.code yX9_in cX9_in 6 (some .boolean), Cond.methodLink RX9 229 yX9_isLike, Cond.instanceMethod yX9_isLike, Cond.selects RX9 yX9_isLike yX9_isLike, Cond.code yX9_isLike cX9_isLike 7 (some .boolean), Cond.fieldLink RX9 54 "LikeNetsModel" "isTold" "[Z", Cond.fieldLink RX9 116 "LikeNetsModel" "posts" "I", Cond.fieldLink RX9 39 "LikeNetsModel" "wayOf" "[I", Cond.fieldLink RX9 207 "LikeNetsModel" "clashP" "I", Cond.fieldLink RX9 210 "LikeNetsModel" "clashQ" "I", Cond.methodLink RX9 195 yX9_isWhole, Cond.instanceMethod yX9_isWhole, Cond.selects RX9 yX9_isWhole yX9_isWhole, Cond.code yX9_isWhole cX9_isWhole 1 (some .boolean), Cond.fieldLink RX9 180 "LikeNetsModel" "heaps" "I", Cond.methodLink RX9 186 yX9_measure]
def wsX9_table_r2 : List Cond := [Cond.instanceMethod yX9_measure, Cond.selects RX9 yX9_measure yX9_measure, Cond.code yX9_measure cX9_measure 4 none, Cond.fieldLink RX9 125 "LikeNetsModel" "isMeasured" "Z", Cond.methodLink RX9 183 yX9_measureFrom, Cond.instanceMethod yX9_measureFrom, Cond.selects RX9 yX9_measureFrom yX9_measureFrom, Cond.code yX9_measureFrom cX9_measureFrom 5 none, Cond.fieldLink RX9 19 "LikeNetsModel" "road" "[Z", Cond.methodLink RX9 203 yX9_beside, Cond.instanceMethod yX9_beside, Cond.selects RX9 yX9_beside yX9_beside, Cond.code yX9_beside cX9_beside 6 (some .int), Cond.methodLink RX9 232 yX9_atWay, Cond.instanceMethod yX9_atWay, Cond.selects RX9 yX9_atWay yX9_atWay, Cond.code yX9_atWay cX9_atWay 5 (some .int)]
def wsX9_table : List Cond := .code yX9_table cX9_table 3 (some .int) :: ((wsX9_table_r1 ++ wsX9_table_r2) ++ wsX90)
def wsX9_thirds : List Cond := .code yX9_thirds cX9_thirds 8 (some .int) :: ([.fieldLink RX9 116 "LikeNetsModel" "posts" "I", .fieldLink RX9 39 "LikeNetsModel" "wayOf" "[I", .methodLink RX9 138 yX9_isPost, .instanceMethod yX9_isPost, .selects RX9 yX9_isPost yX9_isPost, .initialized RX9, .code yX9_isPost cX9_isPost 2 (some .boolean), .methodLink RX9 112 yX9_in, .static yX9_in, .code yX9_in cX9_in 6 (some .boolean), .methodLink RX9 186 yX9_measure, .instanceMethod yX9_measure, .selects RX9 yX9_measure yX9_measure, .code yX9_measure cX9_measure 4 none, .fieldLink RX9 125 "LikeNetsModel" "isMeasured" "Z", .fieldLink RX9 177 "LikeNetsModel" "far" "I", .fieldLink RX9 180 "LikeNetsModel" "heaps" "I", .methodLink RX9 183 yX9_measureFrom, .instanceMethod yX9_measureFrom, .selects RX9 yX9_measureFrom yX9_measureFrom, .code yX9_measureFrom cX9_measureFrom 5 none, .fieldLink RX9 19 "LikeNetsModel" "road" "[Z"] ++ wsX90)
def wsX9_tell : List Cond := .code yX9_tell cX9_tell 3 (some .int) :: ([.constantLong RX9 235 (5), .fieldLink RX9 26 "LikeNetsModel" "length" "I", .fieldLink RX9 30 "LikeNetsModel" "toldB" "[I", .fieldLink RX9 33 "LikeNetsModel" "toldC" "[I", .methodLink RX9 112 yX9_in, .static yX9_in, .initialized RX9, .code yX9_in cX9_in 6 (some .boolean)] ++ wsX90)
def wsX9_put : List Cond := .code yX9_put cX9_put 4 (some .int) :: ([.constantLong RX9 237 (20), .fieldLink RX9 26 "LikeNetsModel" "length" "I", .fieldLink RX9 30 "LikeNetsModel" "toldB" "[I", .fieldLink RX9 33 "LikeNetsModel" "toldC" "[I", .methodLink RX9 112 yX9_in, .static yX9_in, .initialized RX9, .code yX9_in cX9_in 6 (some .boolean)] ++ wsX90)
def wsX9_take_r1 : List Cond := [Cond.fieldLink RX9 177 "LikeNetsModel" "far" "I", Cond.constantLong RX9 235 (5), Cond.fieldLink RX9 51 "LikeNetsModel" "tableB" "[I", Cond.fieldLink RX9 45 "LikeNetsModel" "tableC" "[I", Cond.fieldLink RX9 30 "LikeNetsModel" "toldB" "[I", Cond.fieldLink RX9 33 "LikeNetsModel" "toldC" "[I", Cond.methodLink RX9 229 yX9_isLike, Cond.instanceMethod yX9_isLike, Cond.selects RX9 yX9_isLike yX9_isLike, Cond.initialized RX9, Cond.code yX9_isLike cX9_isLike 7 (some .boolean), Cond.fieldLink RX9 54 "LikeNetsModel" "isTold" "[Z", Cond.fieldLink RX9 116 "LikeNetsModel" "posts" "I", Cond.fieldLink RX9 39 "LikeNetsModel" "wayOf" "[I", Cond.fieldLink RX9 48 "LikeNetsModel" "tableA" "[I", Cond.fieldLink RX9 207 "LikeNetsModel" "clashP" "I", Cond.fieldLink RX9 210 "LikeNetsModel" "clashQ" "I", Cond.methodLink RX9 195 yX9_isWhole, Cond.instanceMethod yX9_isWhole, Cond.selects RX9 yX9_isWhole yX9_isWhole, Cond.code yX9_isWhole cX9_isWhole 1 (some .boolean), Cond.fieldLink RX9 180 "LikeNetsModel" "heaps" "I", Cond.methodLink RX9 186 yX9_measure, Cond.instanceMethod yX9_measure]
def wsX9_take_r2 : List Cond := [Cond.selects RX9 yX9_measure yX9_measure, Cond.code yX9_measure cX9_measure 4 none, Cond.fieldLink RX9 125 "LikeNetsModel" "isMeasured" "Z", Cond.methodLink RX9 183 yX9_measureFrom, Cond.instanceMethod yX9_measureFrom, Cond.selects RX9 yX9_measureFrom yX9_measureFrom, Cond.code yX9_measureFrom cX9_measureFrom 5 none, Cond.fieldLink RX9 19 "LikeNetsModel" "road" "[Z", Cond.methodLink RX9 203 yX9_beside, Cond.instanceMethod yX9_beside, Cond.selects RX9 yX9_beside yX9_beside, Cond.code yX9_beside cX9_beside 6 (some .int), Cond.methodLink RX9 112 yX9_in, Cond.static yX9_in, Cond.code yX9_in cX9_in 6 (some .boolean), Cond.methodLink RX9 239 yX9_tell, Cond.instanceMethod yX9_tell, Cond.selects RX9 yX9_tell yX9_tell, Cond.code yX9_tell cX9_tell 3 (some .int), Cond.fieldLink RX9 26 "LikeNetsModel" "length" "I"]
def wsX9_take : List Cond := .code yX9_take cX9_take 4 (some .int) :: ((wsX9_take_r1 ++ wsX9_take_r2) ++ wsX90)
def wsX9_a : List Cond := .code yX9_a cX9_a 2 (some .int) :: ([.fieldLink RX9 30 "LikeNetsModel" "toldB" "[I", .fieldLink RX9 33 "LikeNetsModel" "toldC" "[I"] ++ wsX90)
def wsX9_firstLaws : List Cond := .code yX9_firstLaws cX9_firstLaws 7 (some .int) :: ([.fieldLink RX9 33 "LikeNetsModel" "toldC" "[I", .fieldLink RX9 26 "LikeNetsModel" "length" "I", .fieldLink RX9 30 "LikeNetsModel" "toldB" "[I", .fieldLink RX9 57 "LikeNetsModel" "sizes" "[J", .fieldLink RX9 245 "LikeNetsModel" "all" "J", .constantLong RX9 249 (100000), .methodLink RX9 242 yX9_a, .instanceMethod yX9_a, .selects RX9 yX9_a yX9_a, .initialized RX9, .code yX9_a cX9_a 2 (some .int)] ++ wsX90)
def wsX9_areHalves : List Cond := .code yX9_areHalves cX9_areHalves 3 (some .boolean) :: ([.fieldLink RX9 30 "LikeNetsModel" "toldB" "[I", .fieldLink RX9 245 "LikeNetsModel" "all" "J", .constantLong RX9 123 (2), .fieldLink RX9 26 "LikeNetsModel" "length" "I", .fieldLink RX9 57 "LikeNetsModel" "sizes" "[J", .methodLink RX9 242 yX9_a, .instanceMethod yX9_a, .selects RX9 yX9_a yX9_a, .initialized RX9, .code yX9_a cX9_a 2 (some .int), .fieldLink RX9 33 "LikeNetsModel" "toldC" "[I"] ++ wsX90)
def wsX9_thirdAt : List Cond := .code yX9_thirdAt cX9_thirdAt 4 (some .long) :: ([.fieldLink RX9 26 "LikeNetsModel" "length" "I", .fieldLink RX9 61 "LikeNetsModel" "third" "[J"] ++ wsX90)
def wsX9_findThirds : List Cond := .code yX9_findThirds cX9_findThirds 6 (some .boolean) :: ([.fieldLink RX9 26 "LikeNetsModel" "length" "I", .fieldLink RX9 61 "LikeNetsModel" "third" "[J", .fieldLink RX9 33 "LikeNetsModel" "toldC" "[I", .fieldLink RX9 30 "LikeNetsModel" "toldB" "[I", .methodLink RX9 242 yX9_a, .instanceMethod yX9_a, .selects RX9 yX9_a yX9_a, .initialized RX9, .code yX9_a cX9_a 2 (some .int), .methodLink RX9 251 yX9_thirdAt, .instanceMethod yX9_thirdAt, .selects RX9 yX9_thirdAt yX9_thirdAt, .code yX9_thirdAt cX9_thirdAt 4 (some .long)] ++ wsX90)
def wsX9_isRoot : List Cond := .code yX9_isRoot cX9_isRoot 3 (some .boolean) :: ([.fieldLink RX9 64 "LikeNetsModel" "u" "[J", .fieldLink RX9 26 "LikeNetsModel" "length" "I", .fieldLink RX9 33 "LikeNetsModel" "toldC" "[I", .fieldLink RX9 30 "LikeNetsModel" "toldB" "[I", .methodLink RX9 242 yX9_a, .instanceMethod yX9_a, .selects RX9 yX9_a yX9_a, .initialized RX9, .code yX9_a cX9_a 2 (some .int)] ++ wsX90)
def wsX9_times : List Cond := .code yX9_times cX9_times 8 (some .int) :: ([.fieldLink RX9 26 "LikeNetsModel" "length" "I", .fieldLink RX9 64 "LikeNetsModel" "u" "[J", .fieldLink RX9 57 "LikeNetsModel" "sizes" "[J", .fieldLink RX9 30 "LikeNetsModel" "toldB" "[I", .fieldLink RX9 245 "LikeNetsModel" "all" "J"] ++ wsX90)
def wsX9_areTimesWhole : List Cond := .code yX9_areTimesWhole cX9_areTimesWhole 3 (some .boolean) :: ([.fieldLink RX9 30 "LikeNetsModel" "toldB" "[I", .methodLink RX9 254 yX9_isRoot, .instanceMethod yX9_isRoot, .selects RX9 yX9_isRoot yX9_isRoot, .initialized RX9, .code yX9_isRoot cX9_isRoot 3 (some .boolean), .fieldLink RX9 64 "LikeNetsModel" "u" "[J", .fieldLink RX9 26 "LikeNetsModel" "length" "I", .fieldLink RX9 33 "LikeNetsModel" "toldC" "[I", .methodLink RX9 242 yX9_a, .instanceMethod yX9_a, .selects RX9 yX9_a yX9_a, .code yX9_a cX9_a 2 (some .int), .methodLink RX9 257 yX9_times, .instanceMethod yX9_times, .selects RX9 yX9_times yX9_times, .code yX9_times cX9_times 8 (some .int), .fieldLink RX9 57 "LikeNetsModel" "sizes" "[J", .fieldLink RX9 245 "LikeNetsModel" "all" "J"] ++ wsX90)
def wsX9_laws_r1 : List Cond := [Cond.methodLink RX9 260 yX9_firstLaws, Cond.instanceMethod yX9_firstLaws, Cond.selects RX9 yX9_firstLaws yX9_firstLaws, Cond.initialized RX9, Cond.code yX9_firstLaws cX9_firstLaws 7 (some .int), Cond.fieldLink RX9 33 "LikeNetsModel" "toldC" "[I", Cond.fieldLink RX9 26 "LikeNetsModel" "length" "I", Cond.fieldLink RX9 30 "LikeNetsModel" "toldB" "[I", Cond.fieldLink RX9 57 "LikeNetsModel" "sizes" "[J", Cond.fieldLink RX9 245 "LikeNetsModel" "all" "J", Cond.constantLong RX9 249 (100000), Cond.methodLink RX9 242 yX9_a, Cond.instanceMethod yX9_a, Cond.selects RX9 yX9_a yX9_a, Cond.code yX9_a cX9_a 2 (some .int), Cond.methodLink RX9 263 yX9_areHalves, Cond.instanceMethod yX9_areHalves, Cond.selects RX9 yX9_areHalves yX9_areHalves, Cond.code yX9_areHalves cX9_areHalves 3 (some .boolean), Cond.constantLong RX9 123 (2), Cond.methodLink RX9 266 yX9_findThirds, Cond.instanceMethod yX9_findThirds, Cond.selects RX9 yX9_findThirds yX9_findThirds, Cond.code yX9_findThirds cX9_findThirds 6 (some .boolean)]
def wsX9_laws_r2 : List Cond := [Cond.fieldLink RX9 61 "LikeNetsModel" "third" "[J", Cond.methodLink RX9 251 yX9_thirdAt, Cond.instanceMethod yX9_thirdAt, Cond.selects RX9 yX9_thirdAt yX9_thirdAt, Cond.code yX9_thirdAt cX9_thirdAt 4 (some .long)]
def wsX9_laws : List Cond := .code yX9_laws cX9_laws 2 (some .int) :: ((wsX9_laws_r1 ++ wsX9_laws_r2) ++ wsX90)
def wsX9_can_r1 : List Cond := [Cond.methodLink RX9 269 yX9_laws, Cond.instanceMethod yX9_laws, Cond.selects RX9 yX9_laws yX9_laws, Cond.initialized RX9, Cond.code yX9_laws cX9_laws 2 (some .int), Cond.methodLink RX9 260 yX9_firstLaws, Cond.instanceMethod yX9_firstLaws, Cond.selects RX9 yX9_firstLaws yX9_firstLaws, Cond.code yX9_firstLaws cX9_firstLaws 7 (some .int), Cond.fieldLink RX9 33 "LikeNetsModel" "toldC" "[I", Cond.fieldLink RX9 26 "LikeNetsModel" "length" "I", Cond.fieldLink RX9 30 "LikeNetsModel" "toldB" "[I", Cond.fieldLink RX9 57 "LikeNetsModel" "sizes" "[J", Cond.fieldLink RX9 245 "LikeNetsModel" "all" "J", Cond.constantLong RX9 249 (100000), Cond.methodLink RX9 242 yX9_a, Cond.instanceMethod yX9_a, Cond.selects RX9 yX9_a yX9_a, Cond.code yX9_a cX9_a 2 (some .int), Cond.methodLink RX9 263 yX9_areHalves, Cond.instanceMethod yX9_areHalves, Cond.selects RX9 yX9_areHalves yX9_areHalves, Cond.code yX9_areHalves cX9_areHalves 3 (some .boolean), Cond.constantLong RX9 123 (2)]
def wsX9_can_r2 : List Cond := [Cond.methodLink RX9 266 yX9_findThirds, Cond.instanceMethod yX9_findThirds, Cond.selects RX9 yX9_findThirds yX9_findThirds, Cond.code yX9_findThirds cX9_findThirds 6 (some .boolean), Cond.fieldLink RX9 61 "LikeNetsModel" "third" "[J", Cond.methodLink RX9 251 yX9_thirdAt, Cond.instanceMethod yX9_thirdAt, Cond.selects RX9 yX9_thirdAt yX9_thirdAt, Cond.code yX9_thirdAt cX9_thirdAt 4 (some .long), Cond.methodLink RX9 272 yX9_areTimesWhole, Cond.instanceMethod yX9_areTimesWhole, Cond.selects RX9 yX9_areTimesWhole yX9_areTimesWhole, Cond.code yX9_areTimesWhole cX9_areTimesWhole 3 (some .boolean), Cond.methodLink RX9 254 yX9_isRoot, Cond.instanceMethod yX9_isRoot, Cond.selects RX9 yX9_isRoot yX9_isRoot, Cond.code yX9_isRoot cX9_isRoot 3 (some .boolean), Cond.fieldLink RX9 64 "LikeNetsModel" "u" "[J", Cond.methodLink RX9 257 yX9_times, Cond.instanceMethod yX9_times, Cond.selects RX9 yX9_times yX9_times, Cond.code yX9_times cX9_times 8 (some .int)]
def wsX9_can : List Cond := .code yX9_can cX9_can 2 (some .int) :: ((wsX9_can_r1 ++ wsX9_can_r2) ++ wsX90)
def wsX9_entry : List Cond := .code yX9_entry cX9_entry 3 (some .int) :: ([.constantLong RX9 110 (3), .fieldLink RX9 26 "LikeNetsModel" "length" "I", .fieldLink RX9 33 "LikeNetsModel" "toldC" "[I", .fieldLink RX9 30 "LikeNetsModel" "toldB" "[I", .fieldLink RX9 57 "LikeNetsModel" "sizes" "[J", .methodLink RX9 112 yX9_in, .static yX9_in, .initialized RX9, .code yX9_in cX9_in 6 (some .boolean), .methodLink RX9 260 yX9_firstLaws, .instanceMethod yX9_firstLaws, .selects RX9 yX9_firstLaws yX9_firstLaws, .code yX9_firstLaws cX9_firstLaws 7 (some .int), .fieldLink RX9 245 "LikeNetsModel" "all" "J", .constantLong RX9 249 (100000), .methodLink RX9 242 yX9_a, .instanceMethod yX9_a, .selects RX9 yX9_a yX9_a, .code yX9_a cX9_a 2 (some .int)] ++ wsX90)
def wsX9_posts : List Cond := .code yX9_posts cX9_posts 1 (some .int) :: ([.fieldLink RX9 245 "LikeNetsModel" "all" "J", .methodLink RX9 260 yX9_firstLaws, .instanceMethod yX9_firstLaws, .selects RX9 yX9_firstLaws yX9_firstLaws, .initialized RX9, .code yX9_firstLaws cX9_firstLaws 7 (some .int), .fieldLink RX9 33 "LikeNetsModel" "toldC" "[I", .fieldLink RX9 26 "LikeNetsModel" "length" "I", .fieldLink RX9 30 "LikeNetsModel" "toldB" "[I", .fieldLink RX9 57 "LikeNetsModel" "sizes" "[J", .constantLong RX9 249 (100000), .methodLink RX9 242 yX9_a, .instanceMethod yX9_a, .selects RX9 yX9_a yX9_a, .code yX9_a cX9_a 2 (some .int)] ++ wsX90)
def wsX9_third_r1 : List Cond := [Cond.fieldLink RX9 26 "LikeNetsModel" "length" "I", Cond.fieldLink RX9 61 "LikeNetsModel" "third" "[J", Cond.methodLink RX9 112 yX9_in, Cond.static yX9_in, Cond.initialized RX9, Cond.code yX9_in cX9_in 6 (some .boolean), Cond.methodLink RX9 269 yX9_laws, Cond.instanceMethod yX9_laws, Cond.selects RX9 yX9_laws yX9_laws, Cond.code yX9_laws cX9_laws 2 (some .int), Cond.methodLink RX9 260 yX9_firstLaws, Cond.instanceMethod yX9_firstLaws, Cond.selects RX9 yX9_firstLaws yX9_firstLaws, Cond.code yX9_firstLaws cX9_firstLaws 7 (some .int), Cond.fieldLink RX9 33 "LikeNetsModel" "toldC" "[I", Cond.fieldLink RX9 30 "LikeNetsModel" "toldB" "[I", Cond.fieldLink RX9 57 "LikeNetsModel" "sizes" "[J", Cond.fieldLink RX9 245 "LikeNetsModel" "all" "J", Cond.constantLong RX9 249 (100000), Cond.methodLink RX9 242 yX9_a, Cond.instanceMethod yX9_a, Cond.selects RX9 yX9_a yX9_a, Cond.code yX9_a cX9_a 2 (some .int), Cond.methodLink RX9 263 yX9_areHalves]
def wsX9_third_r2 : List Cond := [Cond.instanceMethod yX9_areHalves, Cond.selects RX9 yX9_areHalves yX9_areHalves, Cond.code yX9_areHalves cX9_areHalves 3 (some .boolean), Cond.constantLong RX9 123 (2), Cond.methodLink RX9 266 yX9_findThirds, Cond.instanceMethod yX9_findThirds, Cond.selects RX9 yX9_findThirds yX9_findThirds, Cond.code yX9_findThirds cX9_findThirds 6 (some .boolean), Cond.methodLink RX9 251 yX9_thirdAt, Cond.instanceMethod yX9_thirdAt, Cond.selects RX9 yX9_thirdAt yX9_thirdAt, Cond.code yX9_thirdAt cX9_thirdAt 4 (some .long)]
def wsX9_third : List Cond := .code yX9_third cX9_third 4 (some .int) :: ((wsX9_third_r1 ++ wsX9_third_r2) ++ wsX90)
def wsX9_root_r1 : List Cond := [Cond.fieldLink RX9 30 "LikeNetsModel" "toldB" "[I", Cond.methodLink RX9 112 yX9_in, Cond.static yX9_in, Cond.initialized RX9, Cond.code yX9_in cX9_in 6 (some .boolean), Cond.methodLink RX9 269 yX9_laws, Cond.instanceMethod yX9_laws, Cond.selects RX9 yX9_laws yX9_laws, Cond.code yX9_laws cX9_laws 2 (some .int), Cond.methodLink RX9 260 yX9_firstLaws, Cond.instanceMethod yX9_firstLaws, Cond.selects RX9 yX9_firstLaws yX9_firstLaws, Cond.code yX9_firstLaws cX9_firstLaws 7 (some .int), Cond.fieldLink RX9 33 "LikeNetsModel" "toldC" "[I", Cond.fieldLink RX9 26 "LikeNetsModel" "length" "I", Cond.fieldLink RX9 57 "LikeNetsModel" "sizes" "[J", Cond.fieldLink RX9 245 "LikeNetsModel" "all" "J", Cond.constantLong RX9 249 (100000), Cond.methodLink RX9 242 yX9_a, Cond.instanceMethod yX9_a, Cond.selects RX9 yX9_a yX9_a, Cond.code yX9_a cX9_a 2 (some .int), Cond.methodLink RX9 263 yX9_areHalves, Cond.instanceMethod yX9_areHalves]
def wsX9_root_r2 : List Cond := [Cond.selects RX9 yX9_areHalves yX9_areHalves, Cond.code yX9_areHalves cX9_areHalves 3 (some .boolean), Cond.constantLong RX9 123 (2), Cond.methodLink RX9 266 yX9_findThirds, Cond.instanceMethod yX9_findThirds, Cond.selects RX9 yX9_findThirds yX9_findThirds, Cond.code yX9_findThirds cX9_findThirds 6 (some .boolean), Cond.fieldLink RX9 61 "LikeNetsModel" "third" "[J", Cond.methodLink RX9 251 yX9_thirdAt, Cond.instanceMethod yX9_thirdAt, Cond.selects RX9 yX9_thirdAt yX9_thirdAt, Cond.code yX9_thirdAt cX9_thirdAt 4 (some .long), Cond.methodLink RX9 254 yX9_isRoot, Cond.instanceMethod yX9_isRoot, Cond.selects RX9 yX9_isRoot yX9_isRoot, Cond.code yX9_isRoot cX9_isRoot 3 (some .boolean), Cond.fieldLink RX9 64 "LikeNetsModel" "u" "[J", Cond.methodLink RX9 257 yX9_times, Cond.instanceMethod yX9_times, Cond.selects RX9 yX9_times yX9_times, Cond.code yX9_times cX9_times 8 (some .int)]
def wsX9_root : List Cond := .code yX9_root cX9_root 5 (some .int) :: ((wsX9_root_r1 ++ wsX9_root_r2) ++ wsX90)
def wsX9_walks : List Cond := .code yX9_walks cX9_walks 7 (some .long) :: ([.fieldLink RX9 26 "LikeNetsModel" "length" "I", .constantLong RX9 275 (8), .constantLong RX9 277 (-1), .constantLong RX9 279 (-6), .fieldLink RX9 67 "LikeNetsModel" "walk" "[J", .fieldLink RX9 33 "LikeNetsModel" "toldC" "[I", .fieldLink RX9 30 "LikeNetsModel" "toldB" "[I", .fieldLink RX9 70 "LikeNetsModel" "next" "[J", .methodLink RX9 112 yX9_in, .static yX9_in, .initialized RX9, .code yX9_in cX9_in 6 (some .boolean), .methodLink RX9 260 yX9_firstLaws, .instanceMethod yX9_firstLaws, .selects RX9 yX9_firstLaws yX9_firstLaws, .code yX9_firstLaws cX9_firstLaws 7 (some .int), .fieldLink RX9 57 "LikeNetsModel" "sizes" "[J", .fieldLink RX9 245 "LikeNetsModel" "all" "J", .constantLong RX9 249 (100000), .methodLink RX9 242 yX9_a, .instanceMethod yX9_a, .selects RX9 yX9_a yX9_a, .code yX9_a cX9_a 2 (some .int)] ++ wsX90)
def wsX9_bound : List Cond := .code yX9_bound cX9_bound 8 (some .long) :: ([.constantLong RX9 281 (60), .constantLong RX9 283 (6), .constantLong RX9 277 (-1), .methodLink RX9 112 yX9_in, .static yX9_in, .initialized RX9, .code yX9_in cX9_in 6 (some .boolean)])
def wsX9_become : List Cond := .code yX9_become cX9_become 3 none :: ([.fieldLink RX9 116 "LikeNetsModel" "posts" "I", .fieldLink RX9 19 "LikeNetsModel" "road" "[Z", .fieldLink RX9 73 "LikeNetsModel" "newRoad" "[Z", .fieldLink RX9 125 "LikeNetsModel" "isMeasured" "Z", .fieldLink RX9 129 "LikeNetsModel" "areKindsFound" "Z"] ++ wsX90)
def wsX9_clearNew : List Cond := .code yX9_clearNew cX9_clearNew 2 none :: ([.fieldLink RX9 73 "LikeNetsModel" "newRoad" "[Z"] ++ wsX90)
def wsX9_fold_r1 : List Cond := [Cond.fieldLink RX9 116 "LikeNetsModel" "posts" "I", Cond.fieldLink RX9 76 "LikeNetsModel" "numberOf" "[I", Cond.fieldLink RX9 19 "LikeNetsModel" "road" "[Z", Cond.fieldLink RX9 73 "LikeNetsModel" "newRoad" "[Z", Cond.methodLink RX9 226 yX9_isFolded, Cond.instanceMethod yX9_isFolded, Cond.selects RX9 yX9_isFolded yX9_isFolded, Cond.initialized RX9, Cond.code yX9_isFolded cX9_isFolded 5 (some .boolean), Cond.fieldLink RX9 177 "LikeNetsModel" "far" "I", Cond.methodLink RX9 195 yX9_isWhole, Cond.instanceMethod yX9_isWhole, Cond.selects RX9 yX9_isWhole yX9_isWhole, Cond.code yX9_isWhole cX9_isWhole 1 (some .boolean), Cond.fieldLink RX9 180 "LikeNetsModel" "heaps" "I", Cond.methodLink RX9 186 yX9_measure, Cond.instanceMethod yX9_measure, Cond.selects RX9 yX9_measure yX9_measure, Cond.code yX9_measure cX9_measure 4 none, Cond.fieldLink RX9 125 "LikeNetsModel" "isMeasured" "Z", Cond.fieldLink RX9 39 "LikeNetsModel" "wayOf" "[I", Cond.methodLink RX9 183 yX9_measureFrom, Cond.instanceMethod yX9_measureFrom, Cond.selects RX9 yX9_measureFrom yX9_measureFrom]
def wsX9_fold_r2 : List Cond := [Cond.code yX9_measureFrom cX9_measureFrom 5 none, Cond.methodLink RX9 199 yX9_isFar, Cond.instanceMethod yX9_isFar, Cond.selects RX9 yX9_isFar yX9_isFar, Cond.code yX9_isFar cX9_isFar 3 (some .boolean), Cond.methodLink RX9 285 yX9_clearNew, Cond.instanceMethod yX9_clearNew, Cond.selects RX9 yX9_clearNew yX9_clearNew, Cond.code yX9_clearNew cX9_clearNew 2 none, Cond.methodLink RX9 288 yX9_become, Cond.instanceMethod yX9_become, Cond.selects RX9 yX9_become yX9_become, Cond.code yX9_become cX9_become 3 none, Cond.fieldLink RX9 129 "LikeNetsModel" "areKindsFound" "Z"]
def wsX9_fold : List Cond := .code yX9_fold cX9_fold 4 (some .int) :: ((wsX9_fold_r1 ++ wsX9_fold_r2) ++ wsX90)
def wsX9_half_r1 : List Cond := [Cond.fieldLink RX9 116 "LikeNetsModel" "posts" "I", Cond.fieldLink RX9 76 "LikeNetsModel" "numberOf" "[I", Cond.fieldLink RX9 39 "LikeNetsModel" "wayOf" "[I", Cond.fieldLink RX9 73 "LikeNetsModel" "newRoad" "[Z", Cond.methodLink RX9 195 yX9_isWhole, Cond.instanceMethod yX9_isWhole, Cond.selects RX9 yX9_isWhole yX9_isWhole, Cond.initialized RX9, Cond.code yX9_isWhole cX9_isWhole 1 (some .boolean), Cond.fieldLink RX9 180 "LikeNetsModel" "heaps" "I", Cond.methodLink RX9 186 yX9_measure, Cond.instanceMethod yX9_measure, Cond.selects RX9 yX9_measure yX9_measure, Cond.code yX9_measure cX9_measure 4 none, Cond.fieldLink RX9 125 "LikeNetsModel" "isMeasured" "Z", Cond.fieldLink RX9 177 "LikeNetsModel" "far" "I", Cond.methodLink RX9 183 yX9_measureFrom, Cond.instanceMethod yX9_measureFrom, Cond.selects RX9 yX9_measureFrom yX9_measureFrom, Cond.code yX9_measureFrom cX9_measureFrom 5 none, Cond.fieldLink RX9 19 "LikeNetsModel" "road" "[Z", Cond.methodLink RX9 223 yX9_isOfSides, Cond.instanceMethod yX9_isOfSides, Cond.selects RX9 yX9_isOfSides yX9_isOfSides]
def wsX9_half_r2 : List Cond := [Cond.code yX9_isOfSides cX9_isOfSides 6 (some .boolean), Cond.methodLink RX9 285 yX9_clearNew, Cond.instanceMethod yX9_clearNew, Cond.selects RX9 yX9_clearNew yX9_clearNew, Cond.code yX9_clearNew cX9_clearNew 2 none, Cond.methodLink RX9 288 yX9_become, Cond.instanceMethod yX9_become, Cond.selects RX9 yX9_become yX9_become, Cond.code yX9_become cX9_become 3 none, Cond.fieldLink RX9 129 "LikeNetsModel" "areKindsFound" "Z"]
def wsX9_half : List Cond := .code yX9_half cX9_half 4 (some .int) :: ((wsX9_half_r1 ++ wsX9_half_r2) ++ wsX90)
def wsX9_twice : List Cond := .code yX9_twice cX9_twice 3 (some .int) :: ([.fieldLink RX9 116 "LikeNetsModel" "posts" "I", .fieldLink RX9 19 "LikeNetsModel" "road" "[Z", .fieldLink RX9 73 "LikeNetsModel" "newRoad" "[Z", .methodLink RX9 285 yX9_clearNew, .instanceMethod yX9_clearNew, .selects RX9 yX9_clearNew yX9_clearNew, .initialized RX9, .code yX9_clearNew cX9_clearNew 2 none, .methodLink RX9 288 yX9_become, .instanceMethod yX9_become, .selects RX9 yX9_become yX9_become, .code yX9_become cX9_become 3 none, .fieldLink RX9 125 "LikeNetsModel" "isMeasured" "Z", .fieldLink RX9 129 "LikeNetsModel" "areKindsFound" "Z"] ++ wsX90)
def wsX9_power__r1 : List Cond := [Cond.fieldLink RX9 116 "LikeNetsModel" "posts" "I", Cond.fieldLink RX9 73 "LikeNetsModel" "newRoad" "[Z", Cond.fieldLink RX9 39 "LikeNetsModel" "wayOf" "[I", Cond.methodLink RX9 186 yX9_measure, Cond.instanceMethod yX9_measure, Cond.selects RX9 yX9_measure yX9_measure, Cond.initialized RX9, Cond.code yX9_measure cX9_measure 4 none, Cond.fieldLink RX9 125 "LikeNetsModel" "isMeasured" "Z", Cond.fieldLink RX9 177 "LikeNetsModel" "far" "I", Cond.fieldLink RX9 180 "LikeNetsModel" "heaps" "I", Cond.methodLink RX9 183 yX9_measureFrom, Cond.instanceMethod yX9_measureFrom, Cond.selects RX9 yX9_measureFrom yX9_measureFrom, Cond.code yX9_measureFrom cX9_measureFrom 5 none, Cond.fieldLink RX9 19 "LikeNetsModel" "road" "[Z", Cond.methodLink RX9 285 yX9_clearNew, Cond.instanceMethod yX9_clearNew, Cond.selects RX9 yX9_clearNew yX9_clearNew, Cond.code yX9_clearNew cX9_clearNew 2 none, Cond.methodLink RX9 288 yX9_become, Cond.instanceMethod yX9_become, Cond.selects RX9 yX9_become yX9_become, Cond.code yX9_become cX9_become 3 none]
def wsX9_power__r2 : List Cond := [Cond.fieldLink RX9 129 "LikeNetsModel" "areKindsFound" "Z", Cond.methodLink RX9 213 yX9_roads, Cond.instanceMethod yX9_roads, Cond.selects RX9 yX9_roads yX9_roads, Cond.code yX9_roads cX9_roads 3 (some .int), Cond.methodLink RX9 189 yX9_fullness, Cond.instanceMethod yX9_fullness, Cond.selects RX9 yX9_fullness yX9_fullness, Cond.code yX9_fullness cX9_fullness 4 (some .int)]
def wsX9_power_ : List Cond := .code yX9_power_ cX9_power_ 4 (some .int) :: ((wsX9_power__r1 ++ wsX9_power__r2) ++ wsX90)
def wsX9_other : List Cond := .code yX9_other cX9_other 3 (some .int) :: ([.fieldLink RX9 116 "LikeNetsModel" "posts" "I", .fieldLink RX9 73 "LikeNetsModel" "newRoad" "[Z", .fieldLink RX9 19 "LikeNetsModel" "road" "[Z", .methodLink RX9 285 yX9_clearNew, .instanceMethod yX9_clearNew, .selects RX9 yX9_clearNew yX9_clearNew, .initialized RX9, .code yX9_clearNew cX9_clearNew 2 none, .methodLink RX9 288 yX9_become, .instanceMethod yX9_become, .selects RX9 yX9_become yX9_become, .code yX9_become cX9_become 3 none, .fieldLink RX9 125 "LikeNetsModel" "isMeasured" "Z", .fieldLink RX9 129 "LikeNetsModel" "areKindsFound" "Z", .methodLink RX9 213 yX9_roads, .instanceMethod yX9_roads, .selects RX9 yX9_roads yX9_roads, .code yX9_roads cX9_roads 3 (some .int), .methodLink RX9 189 yX9_fullness, .instanceMethod yX9_fullness, .selects RX9 yX9_fullness yX9_fullness, .code yX9_fullness cX9_fullness 4 (some .int)] ++ wsX90)
def wsX9_lines : List Cond := .code yX9_lines cX9_lines 5 (some .int) :: ([.fieldLink RX9 116 "LikeNetsModel" "posts" "I", .fieldLink RX9 19 "LikeNetsModel" "road" "[Z", .fieldLink RX9 79 "LikeNetsModel" "lineP" "[I", .fieldLink RX9 82 "LikeNetsModel" "lineQ" "[I", .fieldLink RX9 73 "LikeNetsModel" "newRoad" "[Z", .methodLink RX9 213 yX9_roads, .instanceMethod yX9_roads, .selects RX9 yX9_roads yX9_roads, .initialized RX9, .code yX9_roads cX9_roads 3 (some .int), .methodLink RX9 189 yX9_fullness, .instanceMethod yX9_fullness, .selects RX9 yX9_fullness yX9_fullness, .code yX9_fullness cX9_fullness 4 (some .int), .methodLink RX9 285 yX9_clearNew, .instanceMethod yX9_clearNew, .selects RX9 yX9_clearNew yX9_clearNew, .code yX9_clearNew cX9_clearNew 2 none, .methodLink RX9 288 yX9_become, .instanceMethod yX9_become, .selects RX9 yX9_become yX9_become, .code yX9_become cX9_become 3 none, .fieldLink RX9 125 "LikeNetsModel" "isMeasured" "Z", .fieldLink RX9 129 "LikeNetsModel" "areKindsFound" "Z"] ++ wsX90)
def wsX9_keep : List Cond := .code yX9_keep cX9_keep 2 (some .int) :: ([.fieldLink RX9 291 "LikeNetsModel" "isKept" "Z", .fieldLink RX9 116 "LikeNetsModel" "posts" "I", .fieldLink RX9 294 "LikeNetsModel" "keptPosts" "I", .fieldLink RX9 23 "LikeNetsModel" "keptRoad" "[Z", .fieldLink RX9 19 "LikeNetsModel" "road" "[Z"] ++ wsX90)
def wsX9_back : List Cond := .code yX9_back cX9_back 2 (some .int) :: ([.fieldLink RX9 291 "LikeNetsModel" "isKept" "Z", .fieldLink RX9 73 "LikeNetsModel" "newRoad" "[Z", .fieldLink RX9 23 "LikeNetsModel" "keptRoad" "[Z", .fieldLink RX9 294 "LikeNetsModel" "keptPosts" "I", .methodLink RX9 288 yX9_become, .instanceMethod yX9_become, .selects RX9 yX9_become yX9_become, .initialized RX9, .code yX9_become cX9_become 3 none, .fieldLink RX9 116 "LikeNetsModel" "posts" "I", .fieldLink RX9 19 "LikeNetsModel" "road" "[Z", .fieldLink RX9 125 "LikeNetsModel" "isMeasured" "Z", .fieldLink RX9 129 "LikeNetsModel" "areKindsFound" "Z"] ++ wsX90)
def wsX9_findNear : List Cond := .code yX9_findNear cX9_findNear 4 none :: ([.fieldLink RX9 116 "LikeNetsModel" "posts" "I", .fieldLink RX9 91 "LikeNetsModel" "nearTo" "[I", .fieldLink RX9 39 "LikeNetsModel" "wayOf" "[I"] ++ wsX90)
def wsX9_uncovered : List Cond := .code yX9_uncovered cX9_uncovered 2 (some .int) :: ([.fieldLink RX9 116 "LikeNetsModel" "posts" "I", .fieldLink RX9 94 "LikeNetsModel" "coveredAt" "[I", .fieldLink RX9 297 "LikeNetsModel" "takenMany" "I"] ++ wsX90)
def wsX9_find_r1 : List Cond := [Cond.constantLong RX9 283 (6), Cond.fieldLink RX9 116 "LikeNetsModel" "posts" "I", Cond.fieldLink RX9 297 "LikeNetsModel" "takenMany" "I", Cond.fieldLink RX9 88 "LikeNetsModel" "tried" "[I", Cond.fieldLink RX9 94 "LikeNetsModel" "coveredAt" "[I", Cond.fieldLink RX9 91 "LikeNetsModel" "nearTo" "[I", Cond.fieldLink RX9 85 "LikeNetsModel" "taken" "[I", Cond.methodLink RX9 112 yX9_in, Cond.static yX9_in, Cond.initialized RX9, Cond.code yX9_in cX9_in 6 (some .boolean), Cond.methodLink RX9 186 yX9_measure, Cond.instanceMethod yX9_measure, Cond.selects RX9 yX9_measure yX9_measure, Cond.code yX9_measure cX9_measure 4 none, Cond.fieldLink RX9 125 "LikeNetsModel" "isMeasured" "Z", Cond.fieldLink RX9 177 "LikeNetsModel" "far" "I", Cond.fieldLink RX9 180 "LikeNetsModel" "heaps" "I", Cond.fieldLink RX9 39 "LikeNetsModel" "wayOf" "[I", Cond.methodLink RX9 183 yX9_measureFrom, Cond.instanceMethod yX9_measureFrom, Cond.selects RX9 yX9_measureFrom yX9_measureFrom, Cond.code yX9_measureFrom cX9_measureFrom 5 none, Cond.fieldLink RX9 19 "LikeNetsModel" "road" "[Z"]
def wsX9_find_r2 : List Cond := [Cond.methodLink RX9 300 yX9_findNear, Cond.instanceMethod yX9_findNear, Cond.selects RX9 yX9_findNear yX9_findNear, Cond.code yX9_findNear cX9_findNear 4 none, Cond.methodLink RX9 303 yX9_uncovered, Cond.instanceMethod yX9_uncovered, Cond.selects RX9 yX9_uncovered yX9_uncovered, Cond.code yX9_uncovered cX9_uncovered 2 (some .int)]
def wsX9_find : List Cond := .code yX9_find cX9_find 5 (some .int) :: ((wsX9_find_r1 ++ wsX9_find_r2) ++ wsX90)
def wsX9_perfect_r1 : List Cond := [Cond.fieldLink RX9 297 "LikeNetsModel" "takenMany" "I", Cond.methodLink RX9 306 yX9_find, Cond.instanceMethod yX9_find, Cond.selects RX9 yX9_find yX9_find, Cond.initialized RX9, Cond.code yX9_find cX9_find 5 (some .int), Cond.constantLong RX9 283 (6), Cond.fieldLink RX9 116 "LikeNetsModel" "posts" "I", Cond.fieldLink RX9 88 "LikeNetsModel" "tried" "[I", Cond.fieldLink RX9 94 "LikeNetsModel" "coveredAt" "[I", Cond.fieldLink RX9 91 "LikeNetsModel" "nearTo" "[I", Cond.fieldLink RX9 85 "LikeNetsModel" "taken" "[I", Cond.methodLink RX9 112 yX9_in, Cond.static yX9_in, Cond.code yX9_in cX9_in 6 (some .boolean), Cond.methodLink RX9 186 yX9_measure, Cond.instanceMethod yX9_measure, Cond.selects RX9 yX9_measure yX9_measure, Cond.code yX9_measure cX9_measure 4 none, Cond.fieldLink RX9 125 "LikeNetsModel" "isMeasured" "Z", Cond.fieldLink RX9 177 "LikeNetsModel" "far" "I", Cond.fieldLink RX9 180 "LikeNetsModel" "heaps" "I", Cond.fieldLink RX9 39 "LikeNetsModel" "wayOf" "[I", Cond.methodLink RX9 183 yX9_measureFrom]
def wsX9_perfect_r2 : List Cond := [Cond.instanceMethod yX9_measureFrom, Cond.selects RX9 yX9_measureFrom yX9_measureFrom, Cond.code yX9_measureFrom cX9_measureFrom 5 none, Cond.fieldLink RX9 19 "LikeNetsModel" "road" "[Z", Cond.methodLink RX9 300 yX9_findNear, Cond.instanceMethod yX9_findNear, Cond.selects RX9 yX9_findNear yX9_findNear, Cond.code yX9_findNear cX9_findNear 4 none, Cond.methodLink RX9 303 yX9_uncovered, Cond.instanceMethod yX9_uncovered, Cond.selects RX9 yX9_uncovered yX9_uncovered, Cond.code yX9_uncovered cX9_uncovered 2 (some .int)]
def wsX9_perfect : List Cond := .code yX9_perfect cX9_perfect 3 (some .int) :: ((wsX9_perfect_r1 ++ wsX9_perfect_r2) ++ wsX90)
def wsX9_heap_r1 : List Cond := [Cond.fieldLink RX9 297 "LikeNetsModel" "takenMany" "I", Cond.fieldLink RX9 85 "LikeNetsModel" "taken" "[I", Cond.methodLink RX9 306 yX9_find, Cond.instanceMethod yX9_find, Cond.selects RX9 yX9_find yX9_find, Cond.initialized RX9, Cond.code yX9_find cX9_find 5 (some .int), Cond.constantLong RX9 283 (6), Cond.fieldLink RX9 116 "LikeNetsModel" "posts" "I", Cond.fieldLink RX9 88 "LikeNetsModel" "tried" "[I", Cond.fieldLink RX9 94 "LikeNetsModel" "coveredAt" "[I", Cond.fieldLink RX9 91 "LikeNetsModel" "nearTo" "[I", Cond.methodLink RX9 112 yX9_in, Cond.static yX9_in, Cond.code yX9_in cX9_in 6 (some .boolean), Cond.methodLink RX9 186 yX9_measure, Cond.instanceMethod yX9_measure, Cond.selects RX9 yX9_measure yX9_measure, Cond.code yX9_measure cX9_measure 4 none, Cond.fieldLink RX9 125 "LikeNetsModel" "isMeasured" "Z", Cond.fieldLink RX9 177 "LikeNetsModel" "far" "I", Cond.fieldLink RX9 180 "LikeNetsModel" "heaps" "I", Cond.fieldLink RX9 39 "LikeNetsModel" "wayOf" "[I", Cond.methodLink RX9 183 yX9_measureFrom]
def wsX9_heap_r2 : List Cond := [Cond.instanceMethod yX9_measureFrom, Cond.selects RX9 yX9_measureFrom yX9_measureFrom, Cond.code yX9_measureFrom cX9_measureFrom 5 none, Cond.fieldLink RX9 19 "LikeNetsModel" "road" "[Z", Cond.methodLink RX9 300 yX9_findNear, Cond.instanceMethod yX9_findNear, Cond.selects RX9 yX9_findNear yX9_findNear, Cond.code yX9_findNear cX9_findNear 4 none, Cond.methodLink RX9 303 yX9_uncovered, Cond.instanceMethod yX9_uncovered, Cond.selects RX9 yX9_uncovered yX9_uncovered, Cond.code yX9_uncovered cX9_uncovered 2 (some .int)]
def wsX9_heap : List Cond := .code yX9_heap cX9_heap 4 (some .int) :: ((wsX9_heap_r1 ++ wsX9_heap_r2) ++ wsX90)
def wsX9_sign : List Cond := .code yX9_sign cX9_sign 7 none :: ([.fieldLink RX9 116 "LikeNetsModel" "posts" "I", .fieldLink RX9 97 "LikeNetsModel" "kindOf" "[I", .fieldLink RX9 104 "LikeNetsModel" "signs" "[I"] ++ wsX90)
def wsX9_areAlike : List Cond := .code yX9_areAlike cX9_areAlike 5 (some .boolean) :: ([.fieldLink RX9 97 "LikeNetsModel" "kindOf" "[I", .fieldLink RX9 116 "LikeNetsModel" "posts" "I", .fieldLink RX9 104 "LikeNetsModel" "signs" "[I"] ++ wsX90)
def wsX9_partOnce : List Cond := .code yX9_partOnce cX9_partOnce 6 (some .int) :: ([.fieldLink RX9 116 "LikeNetsModel" "posts" "I", .fieldLink RX9 107 "LikeNetsModel" "firstPair" "[I", .fieldLink RX9 100 "LikeNetsModel" "newKind" "[I", .fieldLink RX9 97 "LikeNetsModel" "kindOf" "[I", .methodLink RX9 309 yX9_sign, .instanceMethod yX9_sign, .selects RX9 yX9_sign yX9_sign, .initialized RX9, .code yX9_sign cX9_sign 7 none, .fieldLink RX9 104 "LikeNetsModel" "signs" "[I", .methodLink RX9 313 yX9_areAlike, .instanceMethod yX9_areAlike, .selects RX9 yX9_areAlike yX9_areAlike, .code yX9_areAlike cX9_areAlike 5 (some .boolean)] ++ wsX90)
def wsX9_findKinds : List Cond := .code yX9_findKinds cX9_findKinds 2 none :: ([.fieldLink RX9 129 "LikeNetsModel" "areKindsFound" "Z", .fieldLink RX9 97 "LikeNetsModel" "kindOf" "[I", .fieldLink RX9 19 "LikeNetsModel" "road" "[Z", .fieldLink RX9 316 "LikeNetsModel" "kindMany" "I", .methodLink RX9 319 yX9_partOnce, .instanceMethod yX9_partOnce, .selects RX9 yX9_partOnce yX9_partOnce, .initialized RX9, .code yX9_partOnce cX9_partOnce 6 (some .int), .fieldLink RX9 116 "LikeNetsModel" "posts" "I", .fieldLink RX9 107 "LikeNetsModel" "firstPair" "[I", .fieldLink RX9 100 "LikeNetsModel" "newKind" "[I", .methodLink RX9 309 yX9_sign, .instanceMethod yX9_sign, .selects RX9 yX9_sign yX9_sign, .code yX9_sign cX9_sign 7 none, .fieldLink RX9 104 "LikeNetsModel" "signs" "[I", .methodLink RX9 313 yX9_areAlike, .instanceMethod yX9_areAlike, .selects RX9 yX9_areAlike yX9_areAlike, .code yX9_areAlike cX9_areAlike 5 (some .boolean)] ++ wsX90)
def wsX9_kinds_r1 : List Cond := [Cond.fieldLink RX9 316 "LikeNetsModel" "kindMany" "I", Cond.methodLink RX9 322 yX9_findKinds, Cond.instanceMethod yX9_findKinds, Cond.selects RX9 yX9_findKinds yX9_findKinds, Cond.initialized RX9, Cond.code yX9_findKinds cX9_findKinds 2 none, Cond.fieldLink RX9 129 "LikeNetsModel" "areKindsFound" "Z", Cond.fieldLink RX9 97 "LikeNetsModel" "kindOf" "[I", Cond.fieldLink RX9 19 "LikeNetsModel" "road" "[Z", Cond.methodLink RX9 319 yX9_partOnce, Cond.instanceMethod yX9_partOnce, Cond.selects RX9 yX9_partOnce yX9_partOnce, Cond.code yX9_partOnce cX9_partOnce 6 (some .int), Cond.fieldLink RX9 116 "LikeNetsModel" "posts" "I", Cond.fieldLink RX9 107 "LikeNetsModel" "firstPair" "[I", Cond.fieldLink RX9 100 "LikeNetsModel" "newKind" "[I", Cond.methodLink RX9 309 yX9_sign, Cond.instanceMethod yX9_sign, Cond.selects RX9 yX9_sign yX9_sign, Cond.code yX9_sign cX9_sign 7 none, Cond.fieldLink RX9 104 "LikeNetsModel" "signs" "[I", Cond.methodLink RX9 313 yX9_areAlike, Cond.instanceMethod yX9_areAlike, Cond.selects RX9 yX9_areAlike yX9_areAlike]
def wsX9_kinds_r2 : List Cond := [Cond.code yX9_areAlike cX9_areAlike 5 (some .boolean)]
def wsX9_kinds : List Cond := .code yX9_kinds cX9_kinds 1 (some .int) :: ((wsX9_kinds_r1 ++ wsX9_kinds_r2) ++ wsX90)
def wsX9_kind_r1 : List Cond := [Cond.fieldLink RX9 97 "LikeNetsModel" "kindOf" "[I", Cond.methodLink RX9 138 yX9_isPost, Cond.instanceMethod yX9_isPost, Cond.selects RX9 yX9_isPost yX9_isPost, Cond.initialized RX9, Cond.code yX9_isPost cX9_isPost 2 (some .boolean), Cond.fieldLink RX9 116 "LikeNetsModel" "posts" "I", Cond.methodLink RX9 112 yX9_in, Cond.static yX9_in, Cond.code yX9_in cX9_in 6 (some .boolean), Cond.methodLink RX9 322 yX9_findKinds, Cond.instanceMethod yX9_findKinds, Cond.selects RX9 yX9_findKinds yX9_findKinds, Cond.code yX9_findKinds cX9_findKinds 2 none, Cond.fieldLink RX9 129 "LikeNetsModel" "areKindsFound" "Z", Cond.fieldLink RX9 19 "LikeNetsModel" "road" "[Z", Cond.fieldLink RX9 316 "LikeNetsModel" "kindMany" "I", Cond.methodLink RX9 319 yX9_partOnce, Cond.instanceMethod yX9_partOnce, Cond.selects RX9 yX9_partOnce yX9_partOnce, Cond.code yX9_partOnce cX9_partOnce 6 (some .int), Cond.fieldLink RX9 107 "LikeNetsModel" "firstPair" "[I", Cond.fieldLink RX9 100 "LikeNetsModel" "newKind" "[I", Cond.methodLink RX9 309 yX9_sign]
def wsX9_kind_r2 : List Cond := [Cond.instanceMethod yX9_sign, Cond.selects RX9 yX9_sign yX9_sign, Cond.code yX9_sign cX9_sign 7 none, Cond.fieldLink RX9 104 "LikeNetsModel" "signs" "[I", Cond.methodLink RX9 313 yX9_areAlike, Cond.instanceMethod yX9_areAlike, Cond.selects RX9 yX9_areAlike yX9_areAlike, Cond.code yX9_areAlike cX9_areAlike 5 (some .boolean)]
def wsX9_kind : List Cond := .code yX9_kind cX9_kind 3 (some .int) :: ((wsX9_kind_r1 ++ wsX9_kind_r2) ++ wsX90)
def wsJ9_max_7cf53 : List Cond := .code yJ9_max_7cf53 cJ9_max_7cf53 2 (some .int) :: ([])
def wsL_law_r1 : List Cond := [Cond.classLink RL 7 RX8, Cond.instantiable RX8 13, Cond.initialized RX8, Cond.classLink RL 10 RX9, Cond.instantiable RX9 44, Cond.initialized RX9, Cond.methodLink RL 9 yX8_init, Cond.instanceMethod yX8_init, Cond.code yX8_init cX8_init 2 none, Cond.methodLink RX8 3 objectInit, Cond.instanceMethod objectInit, Cond.code objectInit ⟨#[0xb1]⟩ 1 none, Cond.classLink RX8 9 RX5, Cond.fieldLink RX8 11 "LikeNets" "sheets" "[LLikeNets$Sheet;", Cond.instantiable RX5 4, Cond.initialized RX5, Cond.classLink RX8 16 RX2, Cond.instantiable RX2 2, Cond.initialized RX2, Cond.fieldLink RX8 19 "LikeNets" "now" "LLikeNets$Net;", Cond.fieldLink RX8 23 "LikeNets" "made" "LLikeNets$Net;", Cond.fieldLink RX8 26 "LikeNets" "stored" "LLikeNets$Net;", Cond.arrayClass .int, Cond.fieldLink RX8 29 "LikeNets" "list" "[I"]
def wsL_law_r2 : List Cond := [Cond.fieldLink RX8 33 "LikeNets" "partner" "[I", Cond.classLink RX8 36 RX1, Cond.instantiable RX1 1, Cond.initialized RX1, Cond.fieldLink RX8 39 "LikeNets" "makings" "LLikeNets$Makings;", Cond.classLink RX8 43 RX7, Cond.instantiable RX7 7, Cond.initialized RX7, Cond.fieldLink RX8 46 "LikeNets" "ways" "LLikeNets$Ways;", Cond.classLink RX8 50 RX0, Cond.instantiable RX0 7, Cond.initialized RX0, Cond.fieldLink RX8 53 "LikeNets" "likeness" "LLikeNets$Likeness;", Cond.classLink RX8 57 RX6, Cond.instantiable RX6 13, Cond.initialized RX6, Cond.fieldLink RX8 60 "LikeNets" "told" "LLikeNets$Told;", Cond.classLink RX8 64 RX4, Cond.instantiable RX4 6, Cond.initialized RX4, Cond.fieldLink RX8 67 "LikeNets" "search" "LLikeNets$Search;", Cond.classLink RX8 71 RX3, Cond.instantiable RX3 11, Cond.initialized RX3]
def wsL_law_r3 : List Cond := [Cond.fieldLink RX8 74 "LikeNets" "pairs" "LLikeNets$Pairs;", Cond.methodLink RX8 15 yX5_init, Cond.instanceMethod yX5_init, Cond.code yX5_init cX5_init 1 none, Cond.methodLink RX5 3 objectInit, Cond.fieldLink RX5 9 "LikeNets$Sheet" "cells" "[I", Cond.methodLink RX8 18 yX2_init, Cond.instanceMethod yX2_init, Cond.code yX2_init cX2_init 1 none, Cond.methodLink RX2 3 objectInit, Cond.fieldLink RX2 9 "LikeNets$Net" "near" "[I", Cond.methodLink RX8 38 yX1_init, Cond.instanceMethod yX1_init, Cond.code yX1_init cX1_init 1 none, Cond.methodLink RX1 3 objectInit, Cond.fieldLink RX1 9 "LikeNets$Makings" "sets" "[I", Cond.methodLink RX8 45 yX7_init, Cond.instanceMethod yX7_init, Cond.code yX7_init cX7_init 1 none, Cond.methodLink RX7 3 objectInit, Cond.fieldLink RX7 9 "LikeNets$Ways" "steps" "[I", Cond.fieldLink RX7 15 "LikeNets$Ways" "layers" "[I", Cond.fieldLink RX7 18 "LikeNets$Ways" "reached" "[I", Cond.methodLink RX8 52 yX0_init]
def wsL_law_r4 : List Cond := [Cond.instanceMethod yX0_init, Cond.code yX0_init cX0_init 1 none, Cond.methodLink RX0 3 objectInit, Cond.fieldLink RX0 9 "LikeNets$Likeness" "c" "[I", Cond.fieldLink RX0 15 "LikeNets$Likeness" "a" "[I", Cond.fieldLink RX0 18 "LikeNets$Likeness" "b" "[I", Cond.methodLink RX8 59 yX6_init, Cond.instanceMethod yX6_init, Cond.code yX6_init cX6_init 1 none, Cond.methodLink RX6 3 objectInit, Cond.fieldLink RX6 9 "LikeNets$Told" "b" "[I", Cond.fieldLink RX6 15 "LikeNets$Told" "c" "[I", Cond.arrayClass .long, Cond.fieldLink RX6 18 "LikeNets$Told" "k" "[J", Cond.fieldLink RX6 22 "LikeNets$Told" "t" "[J", Cond.fieldLink RX6 25 "LikeNets$Told" "scaled" "[J", Cond.fieldLink RX6 28 "LikeNets$Told" "walkRow" "[J", Cond.fieldLink RX6 31 "LikeNets$Told" "roots" "[I", Cond.fieldLink RX6 34 "LikeNets$Told" "times" "[I", Cond.methodLink RX6 37 yX6_lay, Cond.instanceMethod yX6_lay, Cond.selects RX6 yX6_lay yX6_lay, Cond.code yX6_lay cX6_lay 3 none, Cond.fieldLink RX6 41 "LikeNets$Told" "length" "I"]
def wsL_law_r5 : List Cond := [Cond.fieldLink RX6 51 "LikeNets$Told" "judged" "Z", Cond.methodLink RX6 45 yJ7_fill_53178, Cond.static yJ7_fill_53178, Cond.initialized RJ7, Cond.code yJ7_fill_53178 cJ7_fill_53178 4 none, Cond.methodLink RX8 66 yX4_init, Cond.instanceMethod yX4_init, Cond.code yX4_init cX4_init 1 none, Cond.methodLink RX4 3 objectInit, Cond.fieldLink RX4 9 "LikeNets$Search" "balls" "[I", Cond.fieldLink RX4 15 "LikeNets$Search" "taken" "[I", Cond.fieldLink RX4 18 "LikeNets$Search" "untried" "[I", Cond.fieldLink RX4 21 "LikeNets$Search" "reach" "I", Cond.methodLink RX8 73 yX3_init, Cond.instanceMethod yX3_init, Cond.code yX3_init cX3_init 1 none, Cond.methodLink RX3 3 objectInit, Cond.fieldLink RX3 9 "LikeNets$Pairs" "sorts" "[I", Cond.fieldLink RX3 15 "LikeNets$Pairs" "parted" "[I", Cond.fieldLink RX3 18 "LikeNets$Pairs" "firsts" "[I", Cond.fieldLink RX3 21 "LikeNets$Pairs" "heads" "[I", Cond.fieldLink RX3 24 "LikeNets$Pairs" "nexts" "[I", Cond.fieldLink RX3 27 "LikeNets$Pairs" "sums" "[J", Cond.fieldLink RX3 31 "LikeNets$Pairs" "keys" "[I"]
def wsL_law_r6 : List Cond := [Cond.fieldLink RX3 34 "LikeNets$Pairs" "otherKeys" "[I", Cond.methodLink RL 12 yX9_init, Cond.instanceMethod yX9_init, Cond.code yX9_init cX9_init 2 none, Cond.methodLink RX9 1 objectInit, Cond.fieldLink RX9 7 "LikeNetsModel" "sheetKind" "[I", Cond.fieldLink RX9 13 "LikeNetsModel" "sheetSize" "[I", Cond.fieldLink RX9 16 "LikeNetsModel" "cellOf" "[I", Cond.arrayClass .boolean, Cond.fieldLink RX9 19 "LikeNetsModel" "road" "[Z", Cond.fieldLink RX9 23 "LikeNetsModel" "keptRoad" "[Z", Cond.fieldLink RX9 26 "LikeNetsModel" "length" "I", Cond.fieldLink RX9 30 "LikeNetsModel" "toldB" "[I", Cond.fieldLink RX9 33 "LikeNetsModel" "toldC" "[I", Cond.fieldLink RX9 36 "LikeNetsModel" "sets" "[I", Cond.fieldLink RX9 39 "LikeNetsModel" "wayOf" "[I", Cond.fieldLink RX9 42 "LikeNetsModel" "layer" "[I", Cond.fieldLink RX9 45 "LikeNetsModel" "tableC" "[I", Cond.fieldLink RX9 48 "LikeNetsModel" "tableA" "[I", Cond.fieldLink RX9 51 "LikeNetsModel" "tableB" "[I", Cond.fieldLink RX9 54 "LikeNetsModel" "isTold" "[Z", Cond.fieldLink RX9 57 "LikeNetsModel" "sizes" "[J", Cond.fieldLink RX9 61 "LikeNetsModel" "third" "[J", Cond.fieldLink RX9 64 "LikeNetsModel" "u" "[J"]
def wsL_law_r7 : List Cond := [Cond.fieldLink RX9 67 "LikeNetsModel" "walk" "[J", Cond.fieldLink RX9 70 "LikeNetsModel" "next" "[J", Cond.fieldLink RX9 73 "LikeNetsModel" "newRoad" "[Z", Cond.fieldLink RX9 76 "LikeNetsModel" "numberOf" "[I", Cond.fieldLink RX9 79 "LikeNetsModel" "lineP" "[I", Cond.fieldLink RX9 82 "LikeNetsModel" "lineQ" "[I", Cond.fieldLink RX9 85 "LikeNetsModel" "taken" "[I", Cond.fieldLink RX9 88 "LikeNetsModel" "tried" "[I", Cond.fieldLink RX9 91 "LikeNetsModel" "nearTo" "[I", Cond.fieldLink RX9 94 "LikeNetsModel" "coveredAt" "[I", Cond.fieldLink RX9 97 "LikeNetsModel" "kindOf" "[I", Cond.fieldLink RX9 100 "LikeNetsModel" "newKind" "[I", Cond.constant RX9 103 (32768), Cond.fieldLink RX9 104 "LikeNetsModel" "signs" "[I", Cond.fieldLink RX9 107 "LikeNetsModel" "firstPair" "[I", Cond.methodLink RL 13 yX8_sheet, Cond.instanceMethod yX8_sheet, Cond.selects RX8 yX8_sheet yX8_sheet, Cond.code yX8_sheet cX8_sheet 4 (some .int), Cond.methodLink RX8 78 yX8_isSheet, Cond.static yX8_isSheet, Cond.code yX8_isSheet cX8_isSheet 1 (some .boolean), Cond.methodLink RX8 82 yX5_lay, Cond.instanceMethod yX5_lay]
def wsL_law_r8 : List Cond := [Cond.selects RX5 yX5_lay yX5_lay, Cond.code yX5_lay cX5_lay 3 none, Cond.fieldLink RX5 15 "LikeNets$Sheet" "there" "Z", Cond.fieldLink RX5 19 "LikeNets$Sheet" "sort" "I", Cond.fieldLink RX5 23 "LikeNets$Sheet" "size" "I", Cond.methodLink RX5 26 yJ7_fill_53178, Cond.methodLink RL 17 yX9_sheet, Cond.instanceMethod yX9_sheet, Cond.selects RX9 yX9_sheet yX9_sheet, Cond.code yX9_sheet cX9_sheet 5 (some .int), Cond.constantLong RX9 123 (2), Cond.methodLink RX9 119 yX9_isSheet, Cond.static yX9_isSheet, Cond.code yX9_isSheet cX9_isSheet 1 (some .boolean), Cond.constantLong RX9 110 (3), Cond.methodLink RX9 112 yX9_in, Cond.static yX9_in, Cond.code yX9_in cX9_in 6 (some .boolean), Cond.methodLink RL 18 yX8_cell, Cond.instanceMethod yX8_cell, Cond.selects RX8 yX8_cell yX8_cell, Cond.code yX8_cell cX8_cell 4 (some .int), Cond.fieldLink RX8 86 "LikeNets$Sheet" "there" "Z", Cond.methodLink RX8 90 yX5_has]
def wsL_law_r9 : List Cond := [Cond.instanceMethod yX5_has, Cond.selects RX5 yX5_has yX5_has, Cond.code yX5_has cX5_has 2 (some .boolean), Cond.methodLink RX8 93 yX5_write, Cond.instanceMethod yX5_write, Cond.selects RX5 yX5_write yX5_write, Cond.code yX5_write cX5_write 3 none, Cond.methodLink RL 21 yX9_cell, Cond.instanceMethod yX9_cell, Cond.selects RX9 yX9_cell yX9_cell, Cond.code yX9_cell cX9_cell 4 (some .int), Cond.methodLink RL 22 yX8_lose, Cond.instanceMethod yX8_lose, Cond.selects RX8 yX8_lose yX8_lose, Cond.code yX8_lose cX8_lose 2 (some .int), Cond.methodLink RL 26 yX9_lose, Cond.instanceMethod yX9_lose, Cond.selects RX9 yX9_lose yX9_lose, Cond.code yX9_lose cX9_lose 2 (some .int), Cond.methodLink RL 27 yX8_net, Cond.instanceMethod yX8_net, Cond.selects RX8 yX8_net yX8_net, Cond.code yX8_net cX8_net 2 (some .int), Cond.methodLink RX8 96 yX2_empty]
def wsL_law_r10 : List Cond := [Cond.instanceMethod yX2_empty, Cond.selects RX2 yX2_empty yX2_empty, Cond.code yX2_empty cX2_empty 2 none, Cond.fieldLink RX2 15 "LikeNets$Net" "size" "I", Cond.methodLink RX2 19 yJ7_fill_53178, Cond.methodLink RX8 100 yX8_forget, Cond.instanceMethod yX8_forget, Cond.selects RX8 yX8_forget yX8_forget, Cond.code yX8_forget cX8_forget 1 none, Cond.fieldLink RX8 316 "LikeNets$Ways" "ready" "Z", Cond.fieldLink RX8 319 "LikeNets$Likeness" "ready" "Z", Cond.fieldLink RX8 320 "LikeNets$Pairs" "ready" "Z", Cond.fieldLink RX8 288 "LikeNets$Search" "reach" "I", Cond.methodLink RL 30 yX9_net, Cond.instanceMethod yX9_net, Cond.selects RX9 yX9_net yX9_net, Cond.code yX9_net cX9_net 2 (some .int), Cond.constantLong RX9 132 (32), Cond.methodLink RX9 134 yX9_fresh, Cond.instanceMethod yX9_fresh, Cond.selects RX9 yX9_fresh yX9_fresh, Cond.code yX9_fresh cX9_fresh 3 none, Cond.fieldLink RX9 116 "LikeNetsModel" "posts" "I", Cond.fieldLink RX9 125 "LikeNetsModel" "isMeasured" "Z"]
def wsL_law_r11 : List Cond := [Cond.fieldLink RX9 129 "LikeNetsModel" "areKindsFound" "Z", Cond.methodLink RL 31 yX8_road, Cond.instanceMethod yX8_road, Cond.selects RX8 yX8_road yX8_road, Cond.code yX8_road cX8_road 4 (some .int), Cond.methodLink RX8 103 yX2_mayJoin, Cond.instanceMethod yX2_mayJoin, Cond.selects RX2 yX2_mayJoin yX2_mayJoin, Cond.code yX2_mayJoin cX2_mayJoin 3 (some .boolean), Cond.methodLink RX2 31 yX2_has, Cond.instanceMethod yX2_has, Cond.selects RX2 yX2_has yX2_has, Cond.code yX2_has cX2_has 2 (some .boolean), Cond.methodLink RX8 107 yX2_areJoined, Cond.instanceMethod yX2_areJoined, Cond.selects RX2 yX2_areJoined yX2_areJoined, Cond.code yX2_areJoined cX2_areJoined 3 (some .boolean), Cond.static yX8_isIn, Cond.code yX8_isIn cX8_isIn 2 (some .boolean), Cond.methodLink RX8 110 yX2_join, Cond.instanceMethod yX2_join, Cond.selects RX2 yX2_join yX2_join, Cond.code yX2_join cX2_join 3 none, Cond.methodLink RX2 39 yX2_mayJoin]
def wsL_law_r12 : List Cond := [Cond.methodLink RX8 113 yX2_part, Cond.instanceMethod yX2_part, Cond.selects RX2 yX2_part yX2_part, Cond.code yX2_part cX2_part 3 none, Cond.methodLink RL 35 yX9_road, Cond.instanceMethod yX9_road, Cond.selects RX9 yX9_road yX9_road, Cond.code yX9_road cX9_road 4 (some .int), Cond.methodLink RX9 138 yX9_isPost, Cond.instanceMethod yX9_isPost, Cond.selects RX9 yX9_isPost yX9_isPost, Cond.code yX9_isPost cX9_isPost 2 (some .boolean), Cond.methodLink RX9 141 yX9_lay, Cond.instanceMethod yX9_lay, Cond.selects RX9 yX9_lay yX9_lay, Cond.code yX9_lay cX9_lay 5 (some .boolean), Cond.methodLink RL 36 yX8_load, Cond.instanceMethod yX8_load, Cond.selects RX8 yX8_load yX8_load, Cond.code yX8_load cX8_load 7 (some .int), Cond.methodLink RX8 116 yX8_mayLoad, Cond.instanceMethod yX8_mayLoad, Cond.selects RX8 yX8_mayLoad yX8_mayLoad, Cond.code yX8_mayLoad cX8_mayLoad 6 (some .boolean)]
def wsL_law_r13 : List Cond := [Cond.constantLong RX8 313 (2), Cond.fieldLink RX8 315 "LikeNets$Sheet" "size" "I", Cond.methodLink RX8 124 yX5_read, Cond.instanceMethod yX5_read, Cond.selects RX5 yX5_read yX5_read, Cond.code yX5_read cX5_read 2 (some .int), Cond.methodLink RX5 32 yX5_has, Cond.methodLink RX8 120 yX2_roads, Cond.instanceMethod yX2_roads, Cond.selects RX2 yX2_roads yX2_roads, Cond.code yX2_roads cX2_roads 3 (some .int), Cond.methodLink RX2 48 yX2_fullness, Cond.instanceMethod yX2_fullness, Cond.selects RX2 yX2_fullness yX2_fullness, Cond.code yX2_fullness cX2_fullness 2 (some .int), Cond.methodLink RX2 42 yJ6_bitCount_0f7a4, Cond.static yJ6_bitCount_0f7a4, Cond.initialized RJ6, Cond.code yJ6_bitCount_0f7a4 cJ6_bitCount_0f7a4 1 (some .int), Cond.constant RJ6 265 (1431655765), Cond.constant RJ6 266 (858993459), Cond.constant RJ6 267 (252645135), Cond.methodLink RL 39 yX9_load, Cond.instanceMethod yX9_load]
def wsL_law_r14 : List Cond := [Cond.selects RX9 yX9_load yX9_load, Cond.code yX9_load cX9_load 7 (some .int), Cond.methodLink RL 40 yX8_joined, Cond.instanceMethod yX8_joined, Cond.selects RX8 yX8_joined yX8_joined, Cond.code yX8_joined cX8_joined 3 (some .boolean), Cond.methodLink RL 44 yX9_joined, Cond.instanceMethod yX9_joined, Cond.selects RX9 yX9_joined yX9_joined, Cond.code yX9_joined cX9_joined 3 (some .boolean), Cond.methodLink RL 45 yX8_build, Cond.instanceMethod yX8_build, Cond.selects RX8 yX8_build yX8_build, Cond.code yX8_build cX8_build 6 (some .int), Cond.constantLong RX8 136 (32), Cond.methodLink RX8 128 yX1_mayBe, Cond.static yX1_mayBe, Cond.code yX1_mayBe cX1_mayBe 3 (some .boolean), Cond.methodLink RX8 132 yX1_size, Cond.static yX1_size, Cond.code yX1_size cX1_size 3 (some .long), Cond.methodLink RX1 15 yX1_countWords, Cond.static yX1_countWords, Cond.code yX1_countWords cX1_countWords 5 (some .long)]
def wsL_law_r15 : List Cond := [Cond.constantLong RX1 22 (32), Cond.methodLink RX1 19 yX1_countSets, Cond.static yX1_countSets, Cond.code yX1_countSets cX1_countSets 5 (some .long), Cond.methodLink RX8 138 yX1_lay, Cond.instanceMethod yX1_lay, Cond.selects RX1 yX1_lay yX1_lay, Cond.code yX1_lay cX1_lay 5 none, Cond.fieldLink RX1 28 "LikeNets$Net" "size" "I", Cond.methodLink RX1 24 yX1_layWords, Cond.static yX1_layWords, Cond.code yX1_layWords cX1_layWords 4 none, Cond.methodLink RX1 42 yX1_unlikeLetters, Cond.static yX1_unlikeLetters, Cond.code yX1_unlikeLetters cX1_unlikeLetters 7 (some .int), Cond.methodLink RX1 46 yX2_join, Cond.methodLink RX1 34 yX1_listSets, Cond.instanceMethod yX1_listSets, Cond.selects RX1 yX1_listSets yX1_listSets, Cond.code yX1_listSets cX1_listSets 6 none, Cond.methodLink RX1 49 yX1_nextSet, Cond.static yX1_nextSet, Cond.code yX1_nextSet cX1_nextSet 6 (some .long), Cond.methodLink RX1 53 yJ13_bitCount_95d88]
def wsL_law_r16 : List Cond := [Cond.static yJ13_bitCount_95d88, Cond.initialized RJ13, Cond.code yJ13_bitCount_95d88 cJ13_bitCount_95d88 2 (some .int), Cond.constantLong RJ13 314 (6148914691236517205), Cond.constantLong RJ13 316 (3689348814741910323), Cond.constantLong RJ13 318 (1085102592571150095), Cond.methodLink RX1 38 yX1_layPairs, Cond.instanceMethod yX1_layPairs, Cond.selects RX1 yX1_layPairs yX1_layPairs, Cond.code yX1_layPairs cX1_layPairs 6 none, Cond.methodLink RX1 59 yX1_isRoad, Cond.instanceMethod yX1_isRoad, Cond.selects RX1 yX1_isRoad yX1_isRoad, Cond.code yX1_isRoad cX1_isRoad 6 (some .boolean), Cond.methodLink RX1 63 yJ6_bitCount_0f7a4, Cond.methodLink RX8 141 yX8_adopt, Cond.instanceMethod yX8_adopt, Cond.selects RX8 yX8_adopt yX8_adopt, Cond.code yX8_adopt cX8_adopt 1 (some .int), Cond.fieldLink RX8 152 "LikeNets$Net" "size" "I", Cond.methodLink RX8 281 yX2_copyFrom, Cond.instanceMethod yX2_copyFrom, Cond.selects RX2 yX2_copyFrom yX2_copyFrom, Cond.code yX2_copyFrom cX2_copyFrom 2 none]
def wsL_law_r17 : List Cond := [Cond.methodLink RX2 25 arraycopyName, Cond.native arraycopyName, Cond.static arraycopyName, Cond.initialized "java/lang/System", Cond.methodLink RL 48 yX9_build, Cond.instanceMethod yX9_build, Cond.selects RX9 yX9_build yX9_build, Cond.code yX9_build cX9_build 9 (some .int), Cond.methodLink RX9 162 yX9_may, Cond.static yX9_may, Cond.code yX9_may cX9_may 3 (some .boolean), Cond.methodLink RX9 166 yX9_sizeOf, Cond.static yX9_sizeOf, Cond.code yX9_sizeOf cX9_sizeOf 3 (some .long), Cond.methodLink RX9 147 yX9_power, Cond.static yX9_power, Cond.code yX9_power cX9_power 5 (some .int), Cond.methodLink RX9 151 yX9_choose, Cond.static yX9_choose, Cond.code yX9_choose cX9_choose 6 (some .int), Cond.constantLong RX9 145 (64), Cond.methodLink RX9 170 yX9_findSets, Cond.instanceMethod yX9_findSets, Cond.selects RX9 yX9_findSets yX9_findSets]
def wsL_law_r18 : List Cond := [Cond.code yX9_findSets cX9_findSets 10 (some .int), Cond.methodLink RX9 173 yX9_isMade, Cond.instanceMethod yX9_isMade, Cond.selects RX9 yX9_isMade yX9_isMade, Cond.code yX9_isMade cX9_isMade 6 (some .boolean), Cond.methodLink RX9 154 yX9_unlikeLetters, Cond.static yX9_unlikeLetters, Cond.code yX9_unlikeLetters cX9_unlikeLetters 8 (some .int), Cond.methodLink RX9 158 yX9_ones, Cond.static yX9_ones, Cond.code yX9_ones cX9_ones 3 (some .int), Cond.methodLink RL 49 yX8_way, Cond.instanceMethod yX8_way, Cond.selects RX8 yX8_way yX8_way, Cond.code yX8_way cX8_way 4 (some .int), Cond.methodLink RX8 144 yX2_has, Cond.methodLink RX8 145 yX8_measure, Cond.instanceMethod yX8_measure, Cond.selects RX8 yX8_measure yX8_measure, Cond.code yX8_measure cX8_measure 1 none, Cond.methodLink RX8 321 yX7_measure, Cond.instanceMethod yX7_measure, Cond.selects RX7 yX7_measure yX7_measure, Cond.code yX7_measure cX7_measure 4 none]
def wsL_law_r19 : List Cond := [Cond.fieldLink RX7 21 "LikeNets$Net" "size" "I", Cond.fieldLink RX7 27 "LikeNets$Ways" "size" "I", Cond.methodLink RX7 38 Lib.Math.max.name, Cond.static Lib.Math.max.name, Cond.initialized "java/lang/Math", Cond.code Lib.Math.max.name Lib.Math.max.code 2 (some .int), Cond.fieldLink RX7 48 "LikeNets$Ways" "whole" "Z", Cond.fieldLink RX7 52 "LikeNets$Ways" "far" "I", Cond.fieldLink RX7 55 "LikeNets$Ways" "ready" "Z", Cond.methodLink RX7 28 yJ7_fill_53178, Cond.methodLink RX7 34 yX7_spread, Cond.instanceMethod yX7_spread, Cond.selects RX7 yX7_spread yX7_spread, Cond.code yX7_spread cX7_spread 7 (some .int), Cond.methodLink RX7 58 yX7_noteSteps, Cond.instanceMethod yX7_noteSteps, Cond.selects RX7 yX7_noteSteps yX7_noteSteps, Cond.code yX7_noteSteps cX7_noteSteps 5 none, Cond.methodLink RX7 62 yX2_around, Cond.instanceMethod yX2_around, Cond.selects RX2 yX2_around yX2_around, Cond.code yX2_around cX2_around 4 (some .int), Cond.static yX8_allOf, Cond.code yX8_allOf cX8_allOf 1 (some .int)]
def wsL_law_r20 : List Cond := [Cond.methodLink RX8 148 yX7_between, Cond.instanceMethod yX7_between, Cond.selects RX7 yX7_between yX7_between, Cond.code yX7_between cX7_between 3 (some .int), Cond.methodLink RL 53 yX9_way, Cond.instanceMethod yX9_way, Cond.selects RX9 yX9_way yX9_way, Cond.code yX9_way cX9_way 3 (some .int), Cond.methodLink RX9 186 yX9_measure, Cond.instanceMethod yX9_measure, Cond.selects RX9 yX9_measure yX9_measure, Cond.code yX9_measure cX9_measure 4 none, Cond.fieldLink RX9 177 "LikeNetsModel" "far" "I", Cond.fieldLink RX9 180 "LikeNetsModel" "heaps" "I", Cond.methodLink RX9 183 yX9_measureFrom, Cond.instanceMethod yX9_measureFrom, Cond.selects RX9 yX9_measureFrom yX9_measureFrom, Cond.code yX9_measureFrom cX9_measureFrom 5 none, Cond.methodLink RL 54 yX8_many, Cond.instanceMethod yX8_many, Cond.selects RX8 yX8_many yX8_many, Cond.code yX8_many cX8_many 2 (some .int), Cond.fieldLink RX8 158 "LikeNets$Ways" "whole" "Z", Cond.fieldLink RX8 165 "LikeNets$Ways" "far" "I"]
def wsL_law_r21 : List Cond := [Cond.methodLink RX8 155 yX7_pieces, Cond.instanceMethod yX7_pieces, Cond.selects RX7 yX7_pieces yX7_pieces, Cond.code yX7_pieces cX7_pieces 3 (some .int), Cond.static yX8_lowestBit, Cond.code yX8_lowestBit cX8_lowestBit 1 (some .int), Cond.methodLink RX8 204 yJ6_bitCount_0f7a4, Cond.methodLink RX8 161 yX8_oneIf, Cond.static yX8_oneIf, Cond.code yX8_oneIf cX8_oneIf 1 (some .int), Cond.methodLink RX8 168 yX7_shortestRing, Cond.instanceMethod yX7_shortestRing, Cond.selects RX7 yX7_shortestRing yX7_shortestRing, Cond.code yX7_shortestRing cX7_shortestRing 6 (some .int), Cond.methodLink RX7 75 yX7_ringSeen, Cond.instanceMethod yX7_ringSeen, Cond.selects RX7 yX7_ringSeen yX7_ringSeen, Cond.code yX7_ringSeen cX7_ringSeen 5 (some .int), Cond.fieldLink RX7 82 "LikeNets$Net" "near" "[I", Cond.methodLink RX7 79 yX7_between, Cond.methodLink RX7 69 yX7_postsAt, Cond.instanceMethod yX7_postsAt, Cond.selects RX7 yX7_postsAt yX7_postsAt, Cond.code yX7_postsAt cX7_postsAt 3 (some .int)]
def wsL_law_r22 : List Cond := [Cond.methodLink RX7 85 yJ6_bitCount_0f7a4, Cond.methodLink RX8 172 yX2_isEven, Cond.instanceMethod yX2_isEven, Cond.selects RX2 yX2_isEven yX2_isEven, Cond.code yX2_isEven cX2_isEven 2 (some .boolean), Cond.methodLink RX8 176 yX7_isOfSides, Cond.instanceMethod yX7_isOfSides, Cond.selects RX7 yX7_isOfSides yX7_isOfSides, Cond.code yX7_isOfSides cX7_isOfSides 5 (some .boolean), Cond.methodLink RX8 180 yX7_isFolded, Cond.instanceMethod yX7_isFolded, Cond.selects RX7 yX7_isFolded yX7_isFolded, Cond.code yX7_isFolded cX7_isFolded 3 (some .boolean), Cond.methodLink RX7 90 yX7_farGroup, Cond.instanceMethod yX7_farGroup, Cond.selects RX7 yX7_farGroup yX7_farGroup, Cond.code yX7_farGroup cX7_farGroup 2 (some .int), Cond.methodLink RX8 183 yX8_isLike, Cond.instanceMethod yX8_isLike, Cond.selects RX8 yX8_isLike yX8_isLike, Cond.code yX8_isLike cX8_isLike 1 (some .boolean), Cond.fieldLink RX8 327 "LikeNets$Likeness" "holds" "Z", Cond.methodLink RX8 323 yX0_look, Cond.instanceMethod yX0_look]
def wsL_law_r23 : List Cond := [Cond.selects RX0 yX0_look yX0_look, Cond.code yX0_look cX0_look 5 none, Cond.fieldLink RX0 21 "LikeNets$Likeness" "ready" "Z", Cond.fieldLink RX0 25 "LikeNets$Ways" "whole" "Z", Cond.fieldLink RX0 30 "LikeNets$Likeness" "holds" "Z", Cond.fieldLink RX0 39 "LikeNets$Net" "size" "I", Cond.fieldLink RX0 49 "LikeNets$Likeness" "clashFrom" "I", Cond.fieldLink RX0 52 "LikeNets$Likeness" "clashTo" "I", Cond.methodLink RX0 33 yJ7_fill_53178, Cond.methodLink RX0 45 yX0_fits, Cond.instanceMethod yX0_fits, Cond.selects RX0 yX0_fits yX0_fits, Cond.code yX0_fits cX0_fits 9 (some .boolean), Cond.fieldLink RX0 59 "LikeNets$Net" "near" "[I", Cond.methodLink RX0 55 yX7_between, Cond.methodLink RX0 62 yX7_postsAt, Cond.methodLink RX0 65 yJ6_bitCount_0f7a4, Cond.methodLink RL 57 yX9_many, Cond.instanceMethod yX9_many, Cond.selects RX9 yX9_many yX9_many, Cond.code yX9_many cX9_many 2 (some .int), Cond.methodLink RX9 213 yX9_roads, Cond.instanceMethod yX9_roads, Cond.selects RX9 yX9_roads yX9_roads]
def wsL_law_r24 : List Cond := [Cond.code yX9_roads cX9_roads 3 (some .int), Cond.methodLink RX9 189 yX9_fullness, Cond.instanceMethod yX9_fullness, Cond.selects RX9 yX9_fullness yX9_fullness, Cond.code yX9_fullness cX9_fullness 4 (some .int), Cond.methodLink RX9 217 yX9_round, Cond.instanceMethod yX9_round, Cond.selects RX9 yX9_round yX9_round, Cond.code yX9_round cX9_round 5 (some .int), Cond.methodLink RX9 192 yX9_wayRound, Cond.instanceMethod yX9_wayRound, Cond.selects RX9 yX9_wayRound yX9_wayRound, Cond.code yX9_wayRound cX9_wayRound 7 (some .int), Cond.methodLink RX9 220 yX9_isEven, Cond.instanceMethod yX9_isEven, Cond.selects RX9 yX9_isEven yX9_isEven, Cond.code yX9_isEven cX9_isEven 3 (some .boolean), Cond.methodLink RX9 223 yX9_isOfSides, Cond.instanceMethod yX9_isOfSides, Cond.selects RX9 yX9_isOfSides yX9_isOfSides, Cond.code yX9_isOfSides cX9_isOfSides 6 (some .boolean), Cond.methodLink RX9 226 yX9_isFolded, Cond.instanceMethod yX9_isFolded, Cond.selects RX9 yX9_isFolded yX9_isFolded]
def wsL_law_r25 : List Cond := [Cond.code yX9_isFolded cX9_isFolded 5 (some .boolean), Cond.methodLink RX9 195 yX9_isWhole, Cond.instanceMethod yX9_isWhole, Cond.selects RX9 yX9_isWhole yX9_isWhole, Cond.code yX9_isWhole cX9_isWhole 1 (some .boolean), Cond.methodLink RX9 199 yX9_isFar, Cond.instanceMethod yX9_isFar, Cond.selects RX9 yX9_isFar yX9_isFar, Cond.code yX9_isFar cX9_isFar 3 (some .boolean), Cond.methodLink RX9 229 yX9_isLike, Cond.instanceMethod yX9_isLike, Cond.selects RX9 yX9_isLike yX9_isLike, Cond.code yX9_isLike cX9_isLike 7 (some .boolean), Cond.fieldLink RX9 207 "LikeNetsModel" "clashP" "I", Cond.fieldLink RX9 210 "LikeNetsModel" "clashQ" "I", Cond.methodLink RX9 203 yX9_beside, Cond.instanceMethod yX9_beside, Cond.selects RX9 yX9_beside yX9_beside, Cond.code yX9_beside cX9_beside 6 (some .int), Cond.methodLink RL 58 yX8_clash, Cond.instanceMethod yX8_clash, Cond.selects RX8 yX8_clash yX8_clash, Cond.code yX8_clash cX8_clash 2 (some .int), Cond.fieldLink RX8 186 "LikeNets$Likeness" "clashFrom" "I"]
def wsL_law_r26 : List Cond := [Cond.fieldLink RX8 189 "LikeNets$Likeness" "clashTo" "I", Cond.methodLink RL 61 yX9_clash, Cond.instanceMethod yX9_clash, Cond.selects RX9 yX9_clash yX9_clash, Cond.code yX9_clash cX9_clash 2 (some .int), Cond.methodLink RL 62 yX8_table, Cond.instanceMethod yX8_table, Cond.selects RX8 yX8_table yX8_table, Cond.code yX8_table cX8_table 3 (some .int), Cond.fieldLink RX8 192 "LikeNets$Likeness" "c" "[I", Cond.fieldLink RX8 195 "LikeNets$Likeness" "a" "[I", Cond.fieldLink RX8 198 "LikeNets$Likeness" "b" "[I", Cond.methodLink RX8 201 yX7_postsAt, Cond.methodLink RL 65 yX9_table, Cond.instanceMethod yX9_table, Cond.selects RX9 yX9_table yX9_table, Cond.code yX9_table cX9_table 3 (some .int), Cond.methodLink RX9 232 yX9_atWay, Cond.instanceMethod yX9_atWay, Cond.selects RX9 yX9_atWay yX9_atWay, Cond.code yX9_atWay cX9_atWay 5 (some .int), Cond.methodLink RL 66 yX8_thirds, Cond.instanceMethod yX8_thirds, Cond.selects RX8 yX8_thirds yX8_thirds]
def wsL_law_r27 : List Cond := [Cond.code yX8_thirds cX8_thirds 5 (some .int), Cond.methodLink RL 70 yX9_thirds, Cond.instanceMethod yX9_thirds, Cond.selects RX9 yX9_thirds yX9_thirds, Cond.code yX9_thirds cX9_thirds 8 (some .int), Cond.methodLink RL 71 yX8_tell, Cond.instanceMethod yX8_tell, Cond.selects RX8 yX8_tell yX8_tell, Cond.code yX8_tell cX8_tell 2 (some .int), Cond.methodLink RX8 209 yX6_lay, Cond.methodLink RL 74 yX9_tell, Cond.instanceMethod yX9_tell, Cond.selects RX9 yX9_tell yX9_tell, Cond.code yX9_tell cX9_tell 3 (some .int), Cond.constantLong RX9 235 (5), Cond.methodLink RL 75 yX8_put, Cond.instanceMethod yX8_put, Cond.selects RX8 yX8_put yX8_put, Cond.code yX8_put cX8_put 4 (some .int), Cond.fieldLink RX8 211 "LikeNets$Told" "length" "I", Cond.methodLink RX8 214 yX6_putOnward, Cond.instanceMethod yX6_putOnward, Cond.selects RX6 yX6_putOnward yX6_putOnward, Cond.code yX6_putOnward cX6_putOnward 3 (some .int)]
def wsL_law_r28 : List Cond := [Cond.methodLink RX8 217 yX6_putBackward, Cond.instanceMethod yX6_putBackward, Cond.selects RX6 yX6_putBackward yX6_putBackward, Cond.code yX6_putBackward cX6_putBackward 3 (some .int), Cond.methodLink RL 78 yX9_put, Cond.instanceMethod yX9_put, Cond.selects RX9 yX9_put yX9_put, Cond.code yX9_put cX9_put 4 (some .int), Cond.constantLong RX9 237 (20), Cond.methodLink RL 79 yX8_take, Cond.instanceMethod yX8_take, Cond.selects RX8 yX8_take yX8_take, Cond.code yX8_take cX8_take 2 (some .int), Cond.methodLink RX8 220 yX0_isAtMost, Cond.instanceMethod yX0_isAtMost, Cond.selects RX0 yX0_isAtMost yX0_isAtMost, Cond.code yX0_isAtMost cX0_isAtMost 4 (some .boolean), Cond.methodLink RL 83 yX9_take, Cond.instanceMethod yX9_take, Cond.selects RX9 yX9_take yX9_take, Cond.code yX9_take cX9_take 4 (some .int), Cond.methodLink RX9 239 yX9_tell, Cond.methodLink RL 84 yX8_can, Cond.instanceMethod yX8_can]
def wsL_law_r29 : List Cond := [Cond.selects RX8 yX8_can yX8_can, Cond.code yX8_can cX8_can 1 (some .int), Cond.methodLink RX8 223 yX6_firstBroken, Cond.instanceMethod yX6_firstBroken, Cond.selects RX6 yX6_firstBroken yX6_firstBroken, Cond.code yX6_firstBroken cX6_firstBroken 1 (some .int), Cond.fieldLink RX6 62 "LikeNets$Told" "broken" "I", Cond.methodLink RX6 59 yX6_judge, Cond.instanceMethod yX6_judge, Cond.selects RX6 yX6_judge yX6_judge, Cond.code yX6_judge cX6_judge 1 (some .int), Cond.methodLink RX6 65 yX6_isPositive, Cond.instanceMethod yX6_isPositive, Cond.selects RX6 yX6_isPositive yX6_isPositive, Cond.code yX6_isPositive cX6_isPositive 2 (some .boolean), Cond.methodLink RX6 69 yX6_hasRoom, Cond.instanceMethod yX6_hasRoom, Cond.selects RX6 yX6_hasRoom yX6_hasRoom, Cond.code yX6_hasRoom cX6_hasRoom 2 (some .boolean), Cond.methodLink RX6 90 yX6_level, Cond.instanceMethod yX6_level, Cond.selects RX6 yX6_level yX6_level, Cond.code yX6_level cX6_level 2 (some .int), Cond.methodLink RX6 72 yX6_isInOrder]
def wsL_law_r30 : List Cond := [Cond.instanceMethod yX6_isInOrder, Cond.selects RX6 yX6_isInOrder yX6_isInOrder, Cond.code yX6_isInOrder cX6_isInOrder 2 (some .boolean), Cond.methodLink RX6 75 yX6_countLayers, Cond.instanceMethod yX6_countLayers, Cond.selects RX6 yX6_countLayers yX6_countLayers, Cond.code yX6_countLayers cX6_countLayers 4 (some .boolean), Cond.fieldLink RX6 94 "LikeNets$Told" "total" "J", Cond.constantLong RX6 98 (100000), Cond.methodLink RX6 78 yX6_isPaired, Cond.instanceMethod yX6_isPaired, Cond.selects RX6 yX6_isPaired yX6_isPaired, Cond.code yX6_isPaired cX6_isPaired 2 (some .boolean), Cond.constantLong RX6 100 (2), Cond.methodLink RX6 81 yX6_layFirstThirds, Cond.instanceMethod yX6_layFirstThirds, Cond.selects RX6 yX6_layFirstThirds yX6_layFirstThirds, Cond.code yX6_layFirstThirds cX6_layFirstThirds 3 none, Cond.methodLink RX6 102 yX6_place, Cond.static yX6_place, Cond.code yX6_place cX6_place 3 (some .int), Cond.methodLink RX6 106 yX6_firstThird, Cond.instanceMethod yX6_firstThird, Cond.selects RX6 yX6_firstThird yX6_firstThird]
def wsL_law_r31 : List Cond := [Cond.code yX6_firstThird cX6_firstThird 3 (some .int), Cond.methodLink RX6 84 yX6_layOtherThirds, Cond.instanceMethod yX6_layOtherThirds, Cond.selects RX6 yX6_layOtherThirds yX6_layOtherThirds, Cond.code yX6_layOtherThirds cX6_layOtherThirds 6 (some .boolean), Cond.methodLink RX6 110 yX6_thirdTimes, Cond.instanceMethod yX6_thirdTimes, Cond.selects RX6 yX6_thirdTimes yX6_thirdTimes, Cond.code yX6_thirdTimes cX6_thirdTimes 6 (some .long), Cond.methodLink RX6 87 yX6_findRoots, Cond.instanceMethod yX6_findRoots, Cond.selects RX6 yX6_findRoots yX6_findRoots, Cond.code yX6_findRoots cX6_findRoots 3 (some .boolean), Cond.fieldLink RX6 114 "LikeNets$Told" "rootCount" "I", Cond.methodLink RX6 117 yX6_isRoot, Cond.instanceMethod yX6_isRoot, Cond.selects RX6 yX6_isRoot yX6_isRoot, Cond.code yX6_isRoot cX6_isRoot 3 (some .boolean), Cond.methodLink RX6 121 yX6_timesOfScaled, Cond.instanceMethod yX6_timesOfScaled, Cond.selects RX6 yX6_timesOfScaled yX6_timesOfScaled, Cond.code yX6_timesOfScaled cX6_timesOfScaled 9 (some .int), Cond.methodLink RL 87 yX9_can, Cond.instanceMethod yX9_can]
def wsL_law_r32 : List Cond := [Cond.selects RX9 yX9_can yX9_can, Cond.code yX9_can cX9_can 2 (some .int), Cond.methodLink RX9 269 yX9_laws, Cond.instanceMethod yX9_laws, Cond.selects RX9 yX9_laws yX9_laws, Cond.code yX9_laws cX9_laws 2 (some .int), Cond.methodLink RX9 260 yX9_firstLaws, Cond.instanceMethod yX9_firstLaws, Cond.selects RX9 yX9_firstLaws yX9_firstLaws, Cond.code yX9_firstLaws cX9_firstLaws 7 (some .int), Cond.fieldLink RX9 245 "LikeNetsModel" "all" "J", Cond.constantLong RX9 249 (100000), Cond.methodLink RX9 242 yX9_a, Cond.instanceMethod yX9_a, Cond.selects RX9 yX9_a yX9_a, Cond.code yX9_a cX9_a 2 (some .int), Cond.methodLink RX9 263 yX9_areHalves, Cond.instanceMethod yX9_areHalves, Cond.selects RX9 yX9_areHalves yX9_areHalves, Cond.code yX9_areHalves cX9_areHalves 3 (some .boolean), Cond.methodLink RX9 266 yX9_findThirds, Cond.instanceMethod yX9_findThirds, Cond.selects RX9 yX9_findThirds yX9_findThirds, Cond.code yX9_findThirds cX9_findThirds 6 (some .boolean)]
def wsL_law_r33 : List Cond := [Cond.methodLink RX9 251 yX9_thirdAt, Cond.instanceMethod yX9_thirdAt, Cond.selects RX9 yX9_thirdAt yX9_thirdAt, Cond.code yX9_thirdAt cX9_thirdAt 4 (some .long), Cond.methodLink RX9 272 yX9_areTimesWhole, Cond.instanceMethod yX9_areTimesWhole, Cond.selects RX9 yX9_areTimesWhole yX9_areTimesWhole, Cond.code yX9_areTimesWhole cX9_areTimesWhole 3 (some .boolean), Cond.methodLink RX9 254 yX9_isRoot, Cond.instanceMethod yX9_isRoot, Cond.selects RX9 yX9_isRoot yX9_isRoot, Cond.code yX9_isRoot cX9_isRoot 3 (some .boolean), Cond.methodLink RX9 257 yX9_times, Cond.instanceMethod yX9_times, Cond.selects RX9 yX9_times yX9_times, Cond.code yX9_times cX9_times 8 (some .int), Cond.methodLink RL 88 yX8_entry, Cond.instanceMethod yX8_entry, Cond.selects RX8 yX8_entry yX8_entry, Cond.code yX8_entry cX8_entry 3 (some .int), Cond.fieldLink RX8 232 "LikeNets$Told" "c" "[I", Cond.fieldLink RX8 236 "LikeNets$Told" "b" "[I", Cond.fieldLink RX8 237 "LikeNets$Told" "k" "[J", Cond.methodLink RX8 226 yX6_hasRow]
def wsL_law_r34 : List Cond := [Cond.instanceMethod yX6_hasRow, Cond.selects RX6 yX6_hasRow yX6_hasRow, Cond.code yX6_hasRow cX6_hasRow 2 (some .boolean), Cond.methodLink RX8 229 yX6_keepsLawsTo, Cond.instanceMethod yX6_keepsLawsTo, Cond.selects RX6 yX6_keepsLawsTo yX6_keepsLawsTo, Cond.code yX6_keepsLawsTo cX6_keepsLawsTo 3 (some .boolean), Cond.methodLink RX6 55 yX6_firstBroken, Cond.methodLink RX8 233 yX6_level, Cond.methodLink RL 91 yX9_entry, Cond.instanceMethod yX9_entry, Cond.selects RX9 yX9_entry yX9_entry, Cond.code yX9_entry cX9_entry 3 (some .int), Cond.methodLink RL 92 yX8_posts, Cond.instanceMethod yX8_posts, Cond.selects RX8 yX8_posts yX8_posts, Cond.code yX8_posts cX8_posts 1 (some .int), Cond.fieldLink RX8 241 "LikeNets$Told" "total" "J", Cond.methodLink RL 95 yX9_posts, Cond.instanceMethod yX9_posts, Cond.selects RX9 yX9_posts yX9_posts, Cond.code yX9_posts cX9_posts 1 (some .int), Cond.methodLink RL 96 yX8_third, Cond.instanceMethod yX8_third]
def wsL_law_r35 : List Cond := [Cond.selects RX8 yX8_third yX8_third, Cond.code yX8_third cX8_third 4 (some .int), Cond.fieldLink RX8 245 "LikeNets$Told" "t" "[J", Cond.methodLink RX8 248 yX6_place, Cond.methodLink RL 99 yX9_third, Cond.instanceMethod yX9_third, Cond.selects RX9 yX9_third yX9_third, Cond.code yX9_third cX9_third 4 (some .int), Cond.methodLink RL 100 yX8_root, Cond.instanceMethod yX8_root, Cond.selects RX8 yX8_root yX8_root, Cond.code yX8_root cX8_root 3 (some .int), Cond.fieldLink RX8 252 "LikeNets$Told" "rootCount" "I", Cond.fieldLink RX8 255 "LikeNets$Told" "roots" "[I", Cond.fieldLink RX8 258 "LikeNets$Told" "times" "[I", Cond.methodLink RL 103 yX9_root, Cond.instanceMethod yX9_root, Cond.selects RX9 yX9_root yX9_root, Cond.code yX9_root cX9_root 5 (some .int), Cond.methodLink RL 104 yX8_walks, Cond.instanceMethod yX8_walks, Cond.selects RX8 yX8_walks yX8_walks, Cond.code yX8_walks cX8_walks 3 (some .long), Cond.constantLong RX8 261 (-1)]
def wsL_law_r36 : List Cond := [Cond.constantLong RX8 267 (-6), Cond.methodLink RX8 263 yX6_countWalks, Cond.instanceMethod yX6_countWalks, Cond.selects RX6 yX6_countWalks yX6_countWalks, Cond.code yX6_countWalks cX6_countWalks 11 (some .long), Cond.methodLink RX6 124 yJ7_fill_d0a16, Cond.static yJ7_fill_d0a16, Cond.code yJ7_fill_d0a16 cJ7_fill_d0a16 5 none, Cond.methodLink RL 108 yX9_walks, Cond.instanceMethod yX9_walks, Cond.selects RX9 yX9_walks yX9_walks, Cond.code yX9_walks cX9_walks 7 (some .long), Cond.constantLong RX9 275 (8), Cond.constantLong RX9 277 (-1), Cond.constantLong RX9 279 (-6), Cond.methodLink RL 109 yX8_bound, Cond.instanceMethod yX8_bound, Cond.selects RX8 yX8_bound yX8_bound, Cond.code yX8_bound cX8_bound 8 (some .long), Cond.methodLink RL 112 yX9_bound, Cond.instanceMethod yX9_bound, Cond.selects RX9 yX9_bound yX9_bound, Cond.code yX9_bound cX9_bound 8 (some .long), Cond.constantLong RX9 281 (60)]
def wsL_law_r37 : List Cond := [Cond.constantLong RX9 283 (6), Cond.methodLink RL 113 yX8_fold, Cond.instanceMethod yX8_fold, Cond.selects RX8 yX8_fold yX8_fold, Cond.code yX8_fold cX8_fold 5 (some .int), Cond.methodLink RX8 269 yX7_farGroup, Cond.methodLink RX8 272 yX8_lowestBit, Cond.methodLink RX8 275 yX2_around, Cond.methodLink RL 116 yX9_fold, Cond.instanceMethod yX9_fold, Cond.selects RX9 yX9_fold yX9_fold, Cond.code yX9_fold cX9_fold 4 (some .int), Cond.methodLink RX9 285 yX9_clearNew, Cond.instanceMethod yX9_clearNew, Cond.selects RX9 yX9_clearNew yX9_clearNew, Cond.code yX9_clearNew cX9_clearNew 2 none, Cond.methodLink RX9 288 yX9_become, Cond.instanceMethod yX9_become, Cond.selects RX9 yX9_become yX9_become, Cond.code yX9_become cX9_become 3 none, Cond.methodLink RL 117 yX8_half, Cond.instanceMethod yX8_half, Cond.selects RX8 yX8_half yX8_half, Cond.code yX8_half cX8_half 4 (some .int)]
def wsL_law_r38 : List Cond := [Cond.methodLink RL 120 yX9_half, Cond.instanceMethod yX9_half, Cond.selects RX9 yX9_half yX9_half, Cond.code yX9_half cX9_half 4 (some .int), Cond.methodLink RL 121 yX8_twice, Cond.instanceMethod yX8_twice, Cond.selects RX8 yX8_twice yX8_twice, Cond.code yX8_twice cX8_twice 4 (some .int), Cond.methodLink RL 124 yX9_twice, Cond.instanceMethod yX9_twice, Cond.selects RX9 yX9_twice yX9_twice, Cond.code yX9_twice cX9_twice 3 (some .int), Cond.methodLink RL 125 yX8_power, Cond.instanceMethod yX8_power, Cond.selects RX8 yX8_power yX8_power, Cond.code yX8_power cX8_power 4 (some .int), Cond.methodLink RL 128 yX9_power_, Cond.instanceMethod yX9_power_, Cond.selects RX9 yX9_power_ yX9_power_, Cond.code yX9_power_ cX9_power_ 4 (some .int), Cond.methodLink RL 129 yX8_other, Cond.instanceMethod yX8_other, Cond.selects RX8 yX8_other yX8_other, Cond.code yX8_other cX8_other 3 (some .int)]
def wsL_law_r39 : List Cond := [Cond.methodLink RL 132 yX9_other, Cond.instanceMethod yX9_other, Cond.selects RX9 yX9_other yX9_other, Cond.code yX9_other cX9_other 3 (some .int), Cond.methodLink RL 133 yX8_lines, Cond.instanceMethod yX8_lines, Cond.selects RX8 yX8_lines yX8_lines, Cond.code yX8_lines cX8_lines 4 (some .int), Cond.methodLink RX8 278 yX8_listRoads, Cond.instanceMethod yX8_listRoads, Cond.selects RX8 yX8_listRoads yX8_listRoads, Cond.code yX8_listRoads cX8_listRoads 4 none, Cond.methodLink RL 136 yX9_lines, Cond.instanceMethod yX9_lines, Cond.selects RX9 yX9_lines yX9_lines, Cond.code yX9_lines cX9_lines 5 (some .int), Cond.methodLink RL 137 yX8_keep, Cond.instanceMethod yX8_keep, Cond.selects RX8 yX8_keep yX8_keep, Cond.code yX8_keep cX8_keep 1 (some .int), Cond.fieldLink RX8 285 "LikeNets" "isStored" "Z", Cond.methodLink RL 140 yX9_keep, Cond.instanceMethod yX9_keep, Cond.selects RX9 yX9_keep yX9_keep]
def wsL_law_r40 : List Cond := [Cond.code yX9_keep cX9_keep 2 (some .int), Cond.fieldLink RX9 291 "LikeNetsModel" "isKept" "Z", Cond.fieldLink RX9 294 "LikeNetsModel" "keptPosts" "I", Cond.methodLink RL 141 yX8_back, Cond.instanceMethod yX8_back, Cond.selects RX8 yX8_back yX8_back, Cond.code yX8_back cX8_back 1 (some .int), Cond.methodLink RL 144 yX9_back, Cond.instanceMethod yX9_back, Cond.selects RX9 yX9_back yX9_back, Cond.code yX9_back cX9_back 2 (some .int), Cond.methodLink RL 145 yX8_perfect, Cond.instanceMethod yX8_perfect, Cond.selects RX8 yX8_perfect yX8_perfect, Cond.code yX8_perfect cX8_perfect 2 (some .int), Cond.fieldLink RX8 295 "LikeNets$Search" "found" "I", Cond.methodLink RX8 291 yX4_run, Cond.instanceMethod yX4_run, Cond.selects RX4 yX4_run yX4_run, Cond.code yX4_run cX4_run 5 none, Cond.fieldLink RX4 25 "LikeNets$Search" "size" "I", Cond.fieldLink RX4 38 "LikeNets$Search" "found" "I", Cond.methodLink RX4 28 yX7_postsWithin, Cond.instanceMethod yX7_postsWithin]
def wsL_law_r41 : List Cond := [Cond.selects RX7 yX7_postsWithin yX7_postsWithin, Cond.code yX7_postsWithin cX7_postsWithin 5 (some .int), Cond.methodLink RX4 34 yX4_climb, Cond.instanceMethod yX4_climb, Cond.selects RX4 yX4_climb yX4_climb, Cond.code yX4_climb cX4_climb 7 (some .int), Cond.constant RX4 48 (40002), Cond.methodLink RX4 45 yX4_candidates, Cond.instanceMethod yX4_candidates, Cond.selects RX4 yX4_candidates yX4_candidates, Cond.code yX4_candidates cX4_candidates 5 (some .int), Cond.methodLink RL 148 yX9_perfect, Cond.instanceMethod yX9_perfect, Cond.selects RX9 yX9_perfect yX9_perfect, Cond.code yX9_perfect cX9_perfect 3 (some .int), Cond.fieldLink RX9 297 "LikeNetsModel" "takenMany" "I", Cond.methodLink RX9 306 yX9_find, Cond.instanceMethod yX9_find, Cond.selects RX9 yX9_find yX9_find, Cond.code yX9_find cX9_find 5 (some .int), Cond.methodLink RX9 300 yX9_findNear, Cond.instanceMethod yX9_findNear, Cond.selects RX9 yX9_findNear yX9_findNear, Cond.code yX9_findNear cX9_findNear 4 none]
def wsL_law_r42 : List Cond := [Cond.methodLink RX9 303 yX9_uncovered, Cond.instanceMethod yX9_uncovered, Cond.selects RX9 yX9_uncovered yX9_uncovered, Cond.code yX9_uncovered cX9_uncovered 2 (some .int), Cond.methodLink RL 149 yX8_heap, Cond.instanceMethod yX8_heap, Cond.selects RX8 yX8_heap yX8_heap, Cond.code yX8_heap cX8_heap 4 (some .int), Cond.fieldLink RX8 301 "LikeNets$Search" "taken" "[I", Cond.methodLink RX8 298 yX8_perfect, Cond.methodLink RL 152 yX9_heap, Cond.instanceMethod yX9_heap, Cond.selects RX9 yX9_heap yX9_heap, Cond.code yX9_heap cX9_heap 4 (some .int), Cond.methodLink RL 153 yX8_kinds, Cond.instanceMethod yX8_kinds, Cond.selects RX8 yX8_kinds yX8_kinds, Cond.code yX8_kinds cX8_kinds 1 (some .int), Cond.fieldLink RX8 307 "LikeNets$Pairs" "count" "I", Cond.methodLink RX8 304 yX3_tellApart, Cond.instanceMethod yX3_tellApart, Cond.selects RX3 yX3_tellApart yX3_tellApart, Cond.code yX3_tellApart cX3_tellApart 5 none, Cond.fieldLink RX3 37 "LikeNets$Pairs" "ready" "Z"]
def wsL_law_r43 : List Cond := [Cond.fieldLink RX3 41 "LikeNets$Net" "size" "I", Cond.fieldLink RX3 47 "LikeNets$Pairs" "size" "I", Cond.fieldLink RX3 52 "LikeNets$Pairs" "count" "I", Cond.methodLink RX3 48 yX3_begin, Cond.instanceMethod yX3_begin, Cond.selects RX3 yX3_begin yX3_begin, Cond.code yX3_begin cX3_begin 8 none, Cond.methodLink RX3 59 yX2_areJoined, Cond.methodLink RX3 55 yX3_refine, Cond.instanceMethod yX3_refine, Cond.selects RX3 yX3_refine yX3_refine, Cond.code yX3_refine cX3_refine 8 none, Cond.methodLink RX3 81 arraycopyName, Cond.methodLink RX3 63 yJ7_fill_53178, Cond.methodLink RX3 69 yX3_sumOf, Cond.instanceMethod yX3_sumOf, Cond.selects RX3 yX3_sumOf yX3_sumOf, Cond.code yX3_sumOf cX3_sumOf 6 (some .long), Cond.methodLink RX3 90 yX3_keyOf, Cond.instanceMethod yX3_keyOf, Cond.selects RX3 yX3_keyOf yX3_keyOf, Cond.code yX3_keyOf cX3_keyOf 4 (some .int), Cond.methodLink RX3 94 yX3_stir, Cond.static yX3_stir]
def wsL_law_r44 : List Cond := [Cond.code yX3_stir cX3_stir 3 (some .long), Cond.constantLong RX3 98 (-7046029254386353131), Cond.methodLink RX3 73 yX3_match, Cond.instanceMethod yX3_match, Cond.selects RX3 yX3_match yX3_match, Cond.code yX3_match cX3_match 7 (some .int), Cond.methodLink RX3 87 yX3_isAlike, Cond.instanceMethod yX3_isAlike, Cond.selects RX3 yX3_isAlike yX3_isAlike, Cond.code yX3_isAlike cX3_isAlike 4 (some .boolean), Cond.methodLink RX3 100 yX3_gather, Cond.instanceMethod yX3_gather, Cond.selects RX3 yX3_gather yX3_gather, Cond.code yX3_gather cX3_gather 8 none, Cond.methodLink RX3 77 yX3_open, Cond.instanceMethod yX3_open, Cond.selects RX3 yX3_open yX3_open, Cond.code yX3_open cX3_open 5 (some .int), Cond.methodLink RL 156 yX9_kinds, Cond.instanceMethod yX9_kinds, Cond.selects RX9 yX9_kinds yX9_kinds, Cond.code yX9_kinds cX9_kinds 1 (some .int), Cond.fieldLink RX9 316 "LikeNetsModel" "kindMany" "I", Cond.methodLink RX9 322 yX9_findKinds]
def wsL_law_r45 : List Cond := [Cond.instanceMethod yX9_findKinds, Cond.selects RX9 yX9_findKinds yX9_findKinds, Cond.code yX9_findKinds cX9_findKinds 2 none, Cond.methodLink RX9 319 yX9_partOnce, Cond.instanceMethod yX9_partOnce, Cond.selects RX9 yX9_partOnce yX9_partOnce, Cond.code yX9_partOnce cX9_partOnce 6 (some .int), Cond.methodLink RX9 309 yX9_sign, Cond.instanceMethod yX9_sign, Cond.selects RX9 yX9_sign yX9_sign, Cond.code yX9_sign cX9_sign 7 none, Cond.methodLink RX9 313 yX9_areAlike, Cond.instanceMethod yX9_areAlike, Cond.selects RX9 yX9_areAlike yX9_areAlike, Cond.code yX9_areAlike cX9_areAlike 5 (some .boolean), Cond.methodLink RL 157 yX8_kind, Cond.instanceMethod yX8_kind, Cond.selects RX8 yX8_kind yX8_kind, Cond.code yX8_kind cX8_kind 3 (some .int), Cond.methodLink RX8 310 yX3_of, Cond.instanceMethod yX3_of, Cond.selects RX3 yX3_of yX3_of, Cond.code yX3_of cX3_of 3 (some .int), Cond.methodLink RL 160 yX9_kind]
def wsL_law_r46 : List Cond := [Cond.instanceMethod yX9_kind, Cond.selects RX9 yX9_kind yX9_kind, Cond.code yX9_kind cX9_kind 3 (some .int)]
def wsL_law : List Cond := (wsL_law_r1 ++ (wsL_law_r2 ++ (wsL_law_r3 ++ (wsL_law_r4 ++ (wsL_law_r5 ++ (wsL_law_r6 ++ (wsL_law_r7 ++ (wsL_law_r8 ++ (wsL_law_r9 ++ (wsL_law_r10 ++ (wsL_law_r11 ++ (wsL_law_r12 ++ (wsL_law_r13 ++ (wsL_law_r14 ++ (wsL_law_r15 ++ (wsL_law_r16 ++ (wsL_law_r17 ++ (wsL_law_r18 ++ (wsL_law_r19 ++ (wsL_law_r20 ++ (wsL_law_r21 ++ (wsL_law_r22 ++ (wsL_law_r23 ++ (wsL_law_r24 ++ (wsL_law_r25 ++ (wsL_law_r26 ++ (wsL_law_r27 ++ (wsL_law_r28 ++ (wsL_law_r29 ++ (wsL_law_r30 ++ (wsL_law_r31 ++ (wsL_law_r32 ++ (wsL_law_r33 ++ (wsL_law_r34 ++ (wsL_law_r35 ++ (wsL_law_r36 ++ (wsL_law_r37 ++ (wsL_law_r38 ++ (wsL_law_r39 ++ (wsL_law_r40 ++ (wsL_law_r41 ++ (wsL_law_r42 ++ (wsL_law_r43 ++ (wsL_law_r44 ++ (wsL_law_r45 ++ wsL_law_r46))))))))))))))))))))))))))))))))))))))))))))) ++ wsX80 ++ wsX90 ++ wsX50 ++ wsX20 ++ wsX10 ++ wsX70 ++ wsX00 ++ wsX60 ++ wsX40 ++ wsX30 ++ ([] : List Cond)
theorem inlX0 : ∀ w ∈ wsX00, w ∈ wsL_law := fun _ h => List.mem_append_left _ (List.mem_append_left _ (List.mem_append_left _ (List.mem_append_left _ (List.mem_append_right _ h))))
theorem inlX1 : ∀ w ∈ wsX10, w ∈ wsL_law := fun _ h => List.mem_append_left _ (List.mem_append_left _ (List.mem_append_left _ (List.mem_append_left _ (List.mem_append_left _ (List.mem_append_left _ (List.mem_append_right _ h))))))
theorem inlX2 : ∀ w ∈ wsX20, w ∈ wsL_law := fun _ h => List.mem_append_left _ (List.mem_append_left _ (List.mem_append_left _ (List.mem_append_left _ (List.mem_append_left _ (List.mem_append_left _ (List.mem_append_left _ (List.mem_append_right _ h)))))))
theorem inlX3 : ∀ w ∈ wsX30, w ∈ wsL_law := fun _ h => List.mem_append_left _ (List.mem_append_right _ h)
theorem inlX4 : ∀ w ∈ wsX40, w ∈ wsL_law := fun _ h => List.mem_append_left _ (List.mem_append_left _ (List.mem_append_right _ h))
theorem inlX5 : ∀ w ∈ wsX50, w ∈ wsL_law := fun _ h => List.mem_append_left _ (List.mem_append_left _ (List.mem_append_left _ (List.mem_append_left _ (List.mem_append_left _ (List.mem_append_left _ (List.mem_append_left _ (List.mem_append_left _ (List.mem_append_right _ h))))))))
theorem inlX6 : ∀ w ∈ wsX60, w ∈ wsL_law := fun _ h => List.mem_append_left _ (List.mem_append_left _ (List.mem_append_left _ (List.mem_append_right _ h)))
theorem inlX7 : ∀ w ∈ wsX70, w ∈ wsL_law := fun _ h => List.mem_append_left _ (List.mem_append_left _ (List.mem_append_left _ (List.mem_append_left _ (List.mem_append_left _ (List.mem_append_right _ h)))))
theorem inlX8 : ∀ w ∈ wsX80, w ∈ wsL_law := fun _ h => List.mem_append_left _ (List.mem_append_left _ (List.mem_append_left _ (List.mem_append_left _ (List.mem_append_left _ (List.mem_append_left _ (List.mem_append_left _ (List.mem_append_left _ (List.mem_append_left _ (List.mem_append_left _ (List.mem_append_right _ h))))))))))
theorem inlX9 : ∀ w ∈ wsX90, w ∈ wsL_law := fun _ h => List.mem_append_left _ (List.mem_append_left _ (List.mem_append_left _ (List.mem_append_left _ (List.mem_append_left _ (List.mem_append_left _ (List.mem_append_left _ (List.mem_append_left _ (List.mem_append_left _ (List.mem_append_right _ h)))))))))
theorem inJ6 : ∀ w ∈ wsJ60, w ∈ lw_tbl := by decide +kernel
theorem inJ13 : ∀ w ∈ wsJ130, w ∈ lw_tbl := by decide +kernel
theorem inJ9 : ∀ w ∈ wsJ90, w ∈ lw_tbl := by decide +kernel
theorem inJ10 : ∀ w ∈ wsJ100, w ∈ lw_tbl := by decide +kernel
theorem inJ7 : ∀ w ∈ wsJ70, w ∈ lw_tbl := by decide +kernel
theorem dX0_init_0 : decode cX0_init 0 = .ok (.aload_n 0, 1) := by decide +kernel
theorem dX0_init_1 : decode cX0_init 1 = .ok (.invokespecial 3, 3) := by decide +kernel
theorem dX0_init_4 : decode cX0_init 4 = .ok (.aload_n 0, 1) := by decide +kernel
theorem dX0_init_5 : decode cX0_init 5 = .ok (.bipush 32, 2) := by decide +kernel
theorem dX0_init_7 : decode cX0_init 7 = .ok (.newarray .int, 2) := by decide +kernel
theorem dX0_init_9 : decode cX0_init 9 = .ok (.putfield 9, 3) := by decide +kernel
theorem dX0_init_12 : decode cX0_init 12 = .ok (.aload_n 0, 1) := by decide +kernel
theorem dX0_init_13 : decode cX0_init 13 = .ok (.bipush 32, 2) := by decide +kernel
theorem dX0_init_15 : decode cX0_init 15 = .ok (.newarray .int, 2) := by decide +kernel
theorem dX0_init_17 : decode cX0_init 17 = .ok (.putfield 15, 3) := by decide +kernel
theorem dX0_init_20 : decode cX0_init 20 = .ok (.aload_n 0, 1) := by decide +kernel
theorem dX0_init_21 : decode cX0_init 21 = .ok (.bipush 32, 2) := by decide +kernel
theorem dX0_init_23 : decode cX0_init 23 = .ok (.newarray .int, 2) := by decide +kernel
theorem dX0_init_25 : decode cX0_init 25 = .ok (.putfield 18, 3) := by decide +kernel
theorem dX0_init_28 : decode cX0_init 28 = .ok (.return_, 1) := by decide +kernel
set_option maxRecDepth 20000 in
theorem ggX0_look_J7_fill_53178 : GoodIn wsX0_look wsJ7_fill_53178 := goodIn_r _ [11] (by decide +kernel) (by decide +kernel)
set_option maxRecDepth 20000 in
theorem gX0_look_J7_fill_53178 : GoodIn wsX0_look (va_wsS RX0 33 yJ7_fill_53178 wsJ7_fill_53178) := goodIn_app (goodIn_of _ (by decide +kernel)) ggX0_look_J7_fill_53178
set_option maxRecDepth 20000 in
theorem ggX0_look_X0_fits : GoodIn wsX0_look wsX0_fits := goodIn_r _ [16, 17, 4, 18, 19, 20, 21, 22, 23, 24, 25, 26, 27, 28, 29, 30, 31, 32, 33, 34, 35, 36, 37, 52, 53, 38, 39, 40, 41, 42, 43, 44, 45, 46, 47, 48, 49, 50, 51] (by decide +kernel) (by decide +kernel)
set_option maxRecDepth 20000 in
theorem gX0_look_X0_fits : GoodIn wsX0_look (wsV RX0 45 RX0 yX0_fits wsX0_fits) := goodIn_app (goodIn_of _ (by decide +kernel)) ggX0_look_X0_fits
theorem dX0_look_0 : decode cX0_look 0 = .ok (.aload_n 0, 1) := by decide +kernel
theorem dX0_look_1 : decode cX0_look 1 = .ok (.iconst 1, 1) := by decide +kernel
theorem dX0_look_2 : decode cX0_look 2 = .ok (.putfield 21, 3) := by decide +kernel
theorem dX0_look_5 : decode cX0_look 5 = .ok (.aload_n 0, 1) := by decide +kernel
theorem dX0_look_6 : decode cX0_look 6 = .ok (.aload_n 2, 1) := by decide +kernel
theorem dX0_look_7 : decode cX0_look 7 = .ok (.getfield 25, 3) := by decide +kernel
theorem dX0_look_10 : decode cX0_look 10 = .ok (.putfield 30, 3) := by decide +kernel
theorem dX0_look_13 : decode cX0_look 13 = .ok (.aload_n 0, 1) := by decide +kernel
theorem dX0_look_14 : decode cX0_look 14 = .ok (.getfield 9, 3) := by decide +kernel
theorem dX0_look_17 : decode cX0_look 17 = .ok (.iconst (-1), 1) := by decide +kernel
theorem dX0_look_18 : decode cX0_look 18 = .ok (.invokestatic 33, 3) := by decide +kernel
theorem dX0_look_21 : decode cX0_look 21 = .ok (.iconst 0, 1) := by decide +kernel
theorem dX0_look_22 : decode cX0_look 22 = .ok (.istore_n 3, 1) := by decide +kernel
theorem dX0_look_23 : decode cX0_look 23 = .ok (.iload_n 3, 1) := by decide +kernel
theorem dX0_look_24 : decode cX0_look 24 = .ok (.aload_n 1, 1) := by decide +kernel
theorem dX0_look_25 : decode cX0_look 25 = .ok (.getfield 39, 3) := by decide +kernel
theorem dX0_look_28 : decode cX0_look 28 = .ok (.if_icmp .ge 69, 3) := by decide +kernel
theorem dX0_look_31 : decode cX0_look 31 = .ok (.aload_n 0, 1) := by decide +kernel
theorem dX0_look_32 : decode cX0_look 32 = .ok (.getfield 30, 3) := by decide +kernel
theorem dX0_look_35 : decode cX0_look 35 = .ok (.ifCond .eq 62, 3) := by decide +kernel
theorem dX0_look_38 : decode cX0_look 38 = .ok (.iconst 0, 1) := by decide +kernel
theorem dX0_look_39 : decode cX0_look 39 = .ok (.istore 4, 2) := by decide +kernel
theorem dX0_look_41 : decode cX0_look 41 = .ok (.iload 4, 2) := by decide +kernel
theorem dX0_look_43 : decode cX0_look 43 = .ok (.aload_n 1, 1) := by decide +kernel
theorem dX0_look_44 : decode cX0_look 44 = .ok (.getfield 39, 3) := by decide +kernel
theorem dX0_look_47 : decode cX0_look 47 = .ok (.if_icmp .ge 44, 3) := by decide +kernel
theorem dX0_look_50 : decode cX0_look 50 = .ok (.aload_n 0, 1) := by decide +kernel
theorem dX0_look_51 : decode cX0_look 51 = .ok (.getfield 30, 3) := by decide +kernel
theorem dX0_look_54 : decode cX0_look 54 = .ok (.ifCond .eq 37, 3) := by decide +kernel
theorem dX0_look_57 : decode cX0_look 57 = .ok (.aload_n 0, 1) := by decide +kernel
theorem dX0_look_58 : decode cX0_look 58 = .ok (.aload_n 1, 1) := by decide +kernel
theorem dX0_look_59 : decode cX0_look 59 = .ok (.aload_n 2, 1) := by decide +kernel
theorem dX0_look_60 : decode cX0_look 60 = .ok (.iload_n 3, 1) := by decide +kernel
theorem dX0_look_61 : decode cX0_look 61 = .ok (.iload 4, 2) := by decide +kernel
theorem dX0_look_63 : decode cX0_look 63 = .ok (.invokevirtual 45, 3) := by decide +kernel
theorem dX0_look_66 : decode cX0_look 66 = .ok (.ifCond .ne 19, 3) := by decide +kernel
theorem dX0_look_69 : decode cX0_look 69 = .ok (.aload_n 0, 1) := by decide +kernel
theorem dX0_look_70 : decode cX0_look 70 = .ok (.iconst 0, 1) := by decide +kernel
theorem dX0_look_71 : decode cX0_look 71 = .ok (.putfield 30, 3) := by decide +kernel
theorem dX0_look_74 : decode cX0_look 74 = .ok (.aload_n 0, 1) := by decide +kernel
theorem dX0_look_75 : decode cX0_look 75 = .ok (.iload_n 3, 1) := by decide +kernel
theorem dX0_look_76 : decode cX0_look 76 = .ok (.putfield 49, 3) := by decide +kernel
theorem dX0_look_79 : decode cX0_look 79 = .ok (.aload_n 0, 1) := by decide +kernel
theorem dX0_look_80 : decode cX0_look 80 = .ok (.iload 4, 2) := by decide +kernel
theorem dX0_look_82 : decode cX0_look 82 = .ok (.putfield 52, 3) := by decide +kernel
theorem dX0_look_85 : decode cX0_look 85 = .ok (.iinc 4 1, 3) := by decide +kernel
theorem dX0_look_88 : decode cX0_look 88 = .ok (.goto (-47), 3) := by decide +kernel
theorem dX0_look_91 : decode cX0_look 91 = .ok (.iinc 3 1, 3) := by decide +kernel
theorem dX0_look_94 : decode cX0_look 94 = .ok (.goto (-71), 3) := by decide +kernel
theorem dX0_look_97 : decode cX0_look 97 = .ok (.return_, 1) := by decide +kernel
set_option maxRecDepth 20000 in
theorem ggX0_fits_X7_between : GoodIn wsX0_fits wsX7_between := goodIn_r _ [9, 10, 32, 33, 34, 35, 36, 37, 38] (by decide +kernel) (by decide +kernel)
set_option maxRecDepth 20000 in
theorem gX0_fits_X7_between : GoodIn wsX0_fits (wsV RX0 55 RX7 yX7_between wsX7_between) := goodIn_app (goodIn_of _ (by decide +kernel)) ggX0_fits_X7_between
set_option maxRecDepth 20000 in
theorem ggX0_fits_X7_postsAt : GoodIn wsX0_fits wsX7_postsAt := goodIn_r _ [14, 15, 32, 33, 34, 35, 36, 37, 38] (by decide +kernel) (by decide +kernel)
set_option maxRecDepth 20000 in
theorem gX0_fits_X7_postsAt : GoodIn wsX0_fits (wsV RX0 62 RX7 yX7_postsAt wsX7_postsAt) := goodIn_app (goodIn_of _ (by decide +kernel)) ggX0_fits_X7_postsAt
set_option maxRecDepth 20000 in
theorem ggX0_fits_J6_bitCount_0f7a4 : GoodIn wsX0_fits wsJ6_bitCount_0f7a4 := goodIn_r _ [19, 20, 21, 22] (by decide +kernel) (by decide +kernel)
set_option maxRecDepth 20000 in
theorem gX0_fits_J6_bitCount_0f7a4 : GoodIn wsX0_fits (va_wsS RX0 65 yJ6_bitCount_0f7a4 wsJ6_bitCount_0f7a4) := goodIn_app (goodIn_of _ (by decide +kernel)) ggX0_fits_J6_bitCount_0f7a4
theorem dX0_fits_0 : decode cX0_fits 0 = .ok (.aload_n 2, 1) := by decide +kernel
theorem dX0_fits_1 : decode cX0_fits 1 = .ok (.iload_n 3, 1) := by decide +kernel
theorem dX0_fits_2 : decode cX0_fits 2 = .ok (.iload 4, 2) := by decide +kernel
theorem dX0_fits_4 : decode cX0_fits 4 = .ok (.invokevirtual 55, 3) := by decide +kernel
theorem dX0_fits_7 : decode cX0_fits 7 = .ok (.istore 5, 2) := by decide +kernel
theorem dX0_fits_9 : decode cX0_fits 9 = .ok (.iload 5, 2) := by decide +kernel
theorem dX0_fits_11 : decode cX0_fits 11 = .ok (.ifCond .ge 5, 3) := by decide +kernel
theorem dX0_fits_14 : decode cX0_fits 14 = .ok (.iconst 0, 1) := by decide +kernel
theorem dX0_fits_15 : decode cX0_fits 15 = .ok (.ireturn, 1) := by decide +kernel
theorem dX0_fits_16 : decode cX0_fits 16 = .ok (.aload_n 1, 1) := by decide +kernel
theorem dX0_fits_17 : decode cX0_fits 17 = .ok (.getfield 59, 3) := by decide +kernel
theorem dX0_fits_20 : decode cX0_fits 20 = .ok (.iload 4, 2) := by decide +kernel
theorem dX0_fits_22 : decode cX0_fits 22 = .ok (.iaload, 1) := by decide +kernel
theorem dX0_fits_23 : decode cX0_fits 23 = .ok (.aload_n 2, 1) := by decide +kernel
theorem dX0_fits_24 : decode cX0_fits 24 = .ok (.iload_n 3, 1) := by decide +kernel
theorem dX0_fits_25 : decode cX0_fits 25 = .ok (.iload 5, 2) := by decide +kernel
theorem dX0_fits_27 : decode cX0_fits 27 = .ok (.iconst 1, 1) := by decide +kernel
theorem dX0_fits_28 : decode cX0_fits 28 = .ok (.isub, 1) := by decide +kernel
theorem dX0_fits_29 : decode cX0_fits 29 = .ok (.invokevirtual 62, 3) := by decide +kernel
theorem dX0_fits_32 : decode cX0_fits 32 = .ok (.iand, 1) := by decide +kernel
theorem dX0_fits_33 : decode cX0_fits 33 = .ok (.invokestatic 65, 3) := by decide +kernel
theorem dX0_fits_36 : decode cX0_fits 36 = .ok (.istore 6, 2) := by decide +kernel
theorem dX0_fits_38 : decode cX0_fits 38 = .ok (.aload_n 1, 1) := by decide +kernel
theorem dX0_fits_39 : decode cX0_fits 39 = .ok (.getfield 59, 3) := by decide +kernel
theorem dX0_fits_42 : decode cX0_fits 42 = .ok (.iload 4, 2) := by decide +kernel
theorem dX0_fits_44 : decode cX0_fits 44 = .ok (.iaload, 1) := by decide +kernel
theorem dX0_fits_45 : decode cX0_fits 45 = .ok (.aload_n 2, 1) := by decide +kernel
theorem dX0_fits_46 : decode cX0_fits 46 = .ok (.iload_n 3, 1) := by decide +kernel
theorem dX0_fits_47 : decode cX0_fits 47 = .ok (.iload 5, 2) := by decide +kernel
theorem dX0_fits_49 : decode cX0_fits 49 = .ok (.invokevirtual 62, 3) := by decide +kernel
theorem dX0_fits_52 : decode cX0_fits 52 = .ok (.iand, 1) := by decide +kernel
theorem dX0_fits_53 : decode cX0_fits 53 = .ok (.invokestatic 65, 3) := by decide +kernel
theorem dX0_fits_56 : decode cX0_fits 56 = .ok (.istore 7, 2) := by decide +kernel
theorem dX0_fits_58 : decode cX0_fits 58 = .ok (.aload_n 1, 1) := by decide +kernel
theorem dX0_fits_59 : decode cX0_fits 59 = .ok (.getfield 59, 3) := by decide +kernel
theorem dX0_fits_62 : decode cX0_fits 62 = .ok (.iload 4, 2) := by decide +kernel
theorem dX0_fits_64 : decode cX0_fits 64 = .ok (.iaload, 1) := by decide +kernel
theorem dX0_fits_65 : decode cX0_fits 65 = .ok (.aload_n 2, 1) := by decide +kernel
theorem dX0_fits_66 : decode cX0_fits 66 = .ok (.iload_n 3, 1) := by decide +kernel
theorem dX0_fits_67 : decode cX0_fits 67 = .ok (.iload 5, 2) := by decide +kernel
theorem dX0_fits_69 : decode cX0_fits 69 = .ok (.iconst 1, 1) := by decide +kernel
theorem dX0_fits_70 : decode cX0_fits 70 = .ok (.iadd, 1) := by decide +kernel
theorem dX0_fits_71 : decode cX0_fits 71 = .ok (.invokevirtual 62, 3) := by decide +kernel
theorem dX0_fits_74 : decode cX0_fits 74 = .ok (.iand, 1) := by decide +kernel
theorem dX0_fits_75 : decode cX0_fits 75 = .ok (.invokestatic 65, 3) := by decide +kernel
theorem dX0_fits_78 : decode cX0_fits 78 = .ok (.istore 8, 2) := by decide +kernel
theorem dX0_fits_80 : decode cX0_fits 80 = .ok (.aload_n 0, 1) := by decide +kernel
theorem dX0_fits_81 : decode cX0_fits 81 = .ok (.getfield 9, 3) := by decide +kernel
theorem dX0_fits_84 : decode cX0_fits 84 = .ok (.iload 5, 2) := by decide +kernel
theorem dX0_fits_86 : decode cX0_fits 86 = .ok (.iaload, 1) := by decide +kernel
theorem dX0_fits_87 : decode cX0_fits 87 = .ok (.ifCond .ge 32, 3) := by decide +kernel
theorem dX0_fits_90 : decode cX0_fits 90 = .ok (.aload_n 0, 1) := by decide +kernel
theorem dX0_fits_91 : decode cX0_fits 91 = .ok (.getfield 9, 3) := by decide +kernel
theorem dX0_fits_94 : decode cX0_fits 94 = .ok (.iload 5, 2) := by decide +kernel
theorem dX0_fits_96 : decode cX0_fits 96 = .ok (.iload 6, 2) := by decide +kernel
theorem dX0_fits_98 : decode cX0_fits 98 = .ok (.iastore, 1) := by decide +kernel
theorem dX0_fits_99 : decode cX0_fits 99 = .ok (.aload_n 0, 1) := by decide +kernel
theorem dX0_fits_100 : decode cX0_fits 100 = .ok (.getfield 15, 3) := by decide +kernel
theorem dX0_fits_103 : decode cX0_fits 103 = .ok (.iload 5, 2) := by decide +kernel
theorem dX0_fits_105 : decode cX0_fits 105 = .ok (.iload 7, 2) := by decide +kernel
theorem dX0_fits_107 : decode cX0_fits 107 = .ok (.iastore, 1) := by decide +kernel
theorem dX0_fits_108 : decode cX0_fits 108 = .ok (.aload_n 0, 1) := by decide +kernel
theorem dX0_fits_109 : decode cX0_fits 109 = .ok (.getfield 18, 3) := by decide +kernel
theorem dX0_fits_112 : decode cX0_fits 112 = .ok (.iload 5, 2) := by decide +kernel
theorem dX0_fits_114 : decode cX0_fits 114 = .ok (.iload 8, 2) := by decide +kernel
theorem dX0_fits_116 : decode cX0_fits 116 = .ok (.iastore, 1) := by decide +kernel
theorem dX0_fits_117 : decode cX0_fits 117 = .ok (.iconst 1, 1) := by decide +kernel
theorem dX0_fits_118 : decode cX0_fits 118 = .ok (.ireturn, 1) := by decide +kernel
theorem dX0_fits_119 : decode cX0_fits 119 = .ok (.aload_n 0, 1) := by decide +kernel
theorem dX0_fits_120 : decode cX0_fits 120 = .ok (.getfield 9, 3) := by decide +kernel
theorem dX0_fits_123 : decode cX0_fits 123 = .ok (.iload 5, 2) := by decide +kernel
theorem dX0_fits_125 : decode cX0_fits 125 = .ok (.iaload, 1) := by decide +kernel
theorem dX0_fits_126 : decode cX0_fits 126 = .ok (.iload 6, 2) := by decide +kernel
theorem dX0_fits_128 : decode cX0_fits 128 = .ok (.if_icmp .ne 31, 3) := by decide +kernel
theorem dX0_fits_131 : decode cX0_fits 131 = .ok (.aload_n 0, 1) := by decide +kernel
theorem dX0_fits_132 : decode cX0_fits 132 = .ok (.getfield 15, 3) := by decide +kernel
theorem dX0_fits_135 : decode cX0_fits 135 = .ok (.iload 5, 2) := by decide +kernel
theorem dX0_fits_137 : decode cX0_fits 137 = .ok (.iaload, 1) := by decide +kernel
theorem dX0_fits_138 : decode cX0_fits 138 = .ok (.iload 7, 2) := by decide +kernel
theorem dX0_fits_140 : decode cX0_fits 140 = .ok (.if_icmp .ne 19, 3) := by decide +kernel
theorem dX0_fits_143 : decode cX0_fits 143 = .ok (.aload_n 0, 1) := by decide +kernel
theorem dX0_fits_144 : decode cX0_fits 144 = .ok (.getfield 18, 3) := by decide +kernel
theorem dX0_fits_147 : decode cX0_fits 147 = .ok (.iload 5, 2) := by decide +kernel
theorem dX0_fits_149 : decode cX0_fits 149 = .ok (.iaload, 1) := by decide +kernel
theorem dX0_fits_150 : decode cX0_fits 150 = .ok (.iload 8, 2) := by decide +kernel
theorem dX0_fits_152 : decode cX0_fits 152 = .ok (.if_icmp .ne 7, 3) := by decide +kernel
theorem dX0_fits_155 : decode cX0_fits 155 = .ok (.iconst 1, 1) := by decide +kernel
theorem dX0_fits_156 : decode cX0_fits 156 = .ok (.goto 4, 3) := by decide +kernel
theorem dX0_fits_159 : decode cX0_fits 159 = .ok (.iconst 0, 1) := by decide +kernel
theorem dX0_fits_160 : decode cX0_fits 160 = .ok (.ireturn, 1) := by decide +kernel
theorem dX0_isAtMost_0 : decode cX0_isAtMost 0 = .ok (.iconst 0, 1) := by decide +kernel
theorem dX0_isAtMost_1 : decode cX0_isAtMost 1 = .ok (.istore_n 3, 1) := by decide +kernel
theorem dX0_isAtMost_2 : decode cX0_isAtMost 2 = .ok (.iload_n 3, 1) := by decide +kernel
theorem dX0_isAtMost_3 : decode cX0_isAtMost 3 = .ok (.iload_n 1, 1) := by decide +kernel
theorem dX0_isAtMost_4 : decode cX0_isAtMost 4 = .ok (.if_icmp .gt 31, 3) := by decide +kernel
theorem dX0_isAtMost_7 : decode cX0_isAtMost 7 = .ok (.aload_n 0, 1) := by decide +kernel
theorem dX0_isAtMost_8 : decode cX0_isAtMost 8 = .ok (.getfield 18, 3) := by decide +kernel
theorem dX0_isAtMost_11 : decode cX0_isAtMost 11 = .ok (.iload_n 3, 1) := by decide +kernel
theorem dX0_isAtMost_12 : decode cX0_isAtMost 12 = .ok (.iaload, 1) := by decide +kernel
theorem dX0_isAtMost_13 : decode cX0_isAtMost 13 = .ok (.iload_n 2, 1) := by decide +kernel
theorem dX0_isAtMost_14 : decode cX0_isAtMost 14 = .ok (.if_icmp .gt 13, 3) := by decide +kernel
theorem dX0_isAtMost_17 : decode cX0_isAtMost 17 = .ok (.aload_n 0, 1) := by decide +kernel
theorem dX0_isAtMost_18 : decode cX0_isAtMost 18 = .ok (.getfield 9, 3) := by decide +kernel
theorem dX0_isAtMost_21 : decode cX0_isAtMost 21 = .ok (.iload_n 3, 1) := by decide +kernel
theorem dX0_isAtMost_22 : decode cX0_isAtMost 22 = .ok (.iaload, 1) := by decide +kernel
theorem dX0_isAtMost_23 : decode cX0_isAtMost 23 = .ok (.iload_n 2, 1) := by decide +kernel
theorem dX0_isAtMost_24 : decode cX0_isAtMost 24 = .ok (.if_icmp .le 5, 3) := by decide +kernel
theorem dX0_isAtMost_27 : decode cX0_isAtMost 27 = .ok (.iconst 0, 1) := by decide +kernel
theorem dX0_isAtMost_28 : decode cX0_isAtMost 28 = .ok (.ireturn, 1) := by decide +kernel
theorem dX0_isAtMost_29 : decode cX0_isAtMost 29 = .ok (.iinc 3 1, 3) := by decide +kernel
theorem dX0_isAtMost_32 : decode cX0_isAtMost 32 = .ok (.goto (-30), 3) := by decide +kernel
theorem dX0_isAtMost_35 : decode cX0_isAtMost 35 = .ok (.iconst 1, 1) := by decide +kernel
theorem dX0_isAtMost_36 : decode cX0_isAtMost 36 = .ok (.ireturn, 1) := by decide +kernel
theorem dX1_init_0 : decode cX1_init 0 = .ok (.aload_n 0, 1) := by decide +kernel
theorem dX1_init_1 : decode cX1_init 1 = .ok (.invokespecial 3, 3) := by decide +kernel
theorem dX1_init_4 : decode cX1_init 4 = .ok (.aload_n 0, 1) := by decide +kernel
theorem dX1_init_5 : decode cX1_init 5 = .ok (.bipush 32, 2) := by decide +kernel
theorem dX1_init_7 : decode cX1_init 7 = .ok (.newarray .int, 2) := by decide +kernel
theorem dX1_init_9 : decode cX1_init 9 = .ok (.putfield 9, 3) := by decide +kernel
theorem dX1_init_12 : decode cX1_init 12 = .ok (.return_, 1) := by decide +kernel
theorem dX1_mayBe_0 : decode cX1_mayBe 0 = .ok (.iload_n 0, 1) := by decide +kernel
theorem dX1_mayBe_1 : decode cX1_mayBe 1 = .ok (.tableswitch 109 0 5 #[39, 50, 61, 77, 77, 93], 39) := by decide +kernel
theorem dX1_mayBe_40 : decode cX1_mayBe 40 = .ok (.iload_n 1, 1) := by decide +kernel
theorem dX1_mayBe_41 : decode cX1_mayBe 41 = .ok (.iconst 3, 1) := by decide +kernel
theorem dX1_mayBe_42 : decode cX1_mayBe 42 = .ok (.if_icmp .lt 7, 3) := by decide +kernel
theorem dX1_mayBe_45 : decode cX1_mayBe 45 = .ok (.iconst 1, 1) := by decide +kernel
theorem dX1_mayBe_46 : decode cX1_mayBe 46 = .ok (.goto 4, 3) := by decide +kernel
theorem dX1_mayBe_49 : decode cX1_mayBe 49 = .ok (.iconst 0, 1) := by decide +kernel
theorem dX1_mayBe_50 : decode cX1_mayBe 50 = .ok (.ireturn, 1) := by decide +kernel
theorem dX1_mayBe_51 : decode cX1_mayBe 51 = .ok (.iload_n 1, 1) := by decide +kernel
theorem dX1_mayBe_52 : decode cX1_mayBe 52 = .ok (.iconst 1, 1) := by decide +kernel
theorem dX1_mayBe_53 : decode cX1_mayBe 53 = .ok (.if_icmp .lt 7, 3) := by decide +kernel
theorem dX1_mayBe_56 : decode cX1_mayBe 56 = .ok (.iconst 1, 1) := by decide +kernel
theorem dX1_mayBe_57 : decode cX1_mayBe 57 = .ok (.goto 4, 3) := by decide +kernel
theorem dX1_mayBe_60 : decode cX1_mayBe 60 = .ok (.iconst 0, 1) := by decide +kernel
theorem dX1_mayBe_61 : decode cX1_mayBe 61 = .ok (.ireturn, 1) := by decide +kernel
theorem dX1_mayBe_62 : decode cX1_mayBe 62 = .ok (.iload_n 1, 1) := by decide +kernel
theorem dX1_mayBe_63 : decode cX1_mayBe 63 = .ok (.iconst 2, 1) := by decide +kernel
theorem dX1_mayBe_64 : decode cX1_mayBe 64 = .ok (.if_icmp .lt 12, 3) := by decide +kernel
theorem dX1_mayBe_67 : decode cX1_mayBe 67 = .ok (.iload_n 2, 1) := by decide +kernel
theorem dX1_mayBe_68 : decode cX1_mayBe 68 = .ok (.iconst 1, 1) := by decide +kernel
theorem dX1_mayBe_69 : decode cX1_mayBe 69 = .ok (.if_icmp .lt 7, 3) := by decide +kernel
theorem dX1_mayBe_72 : decode cX1_mayBe 72 = .ok (.iconst 1, 1) := by decide +kernel
theorem dX1_mayBe_73 : decode cX1_mayBe 73 = .ok (.goto 4, 3) := by decide +kernel
theorem dX1_mayBe_76 : decode cX1_mayBe 76 = .ok (.iconst 0, 1) := by decide +kernel
theorem dX1_mayBe_77 : decode cX1_mayBe 77 = .ok (.ireturn, 1) := by decide +kernel
theorem dX1_mayBe_78 : decode cX1_mayBe 78 = .ok (.iload_n 2, 1) := by decide +kernel
theorem dX1_mayBe_79 : decode cX1_mayBe 79 = .ok (.iconst 1, 1) := by decide +kernel
theorem dX1_mayBe_80 : decode cX1_mayBe 80 = .ok (.if_icmp .lt 12, 3) := by decide +kernel
theorem dX1_mayBe_83 : decode cX1_mayBe 83 = .ok (.iload_n 2, 1) := by decide +kernel
theorem dX1_mayBe_84 : decode cX1_mayBe 84 = .ok (.iload_n 1, 1) := by decide +kernel
theorem dX1_mayBe_85 : decode cX1_mayBe 85 = .ok (.if_icmp .ge 7, 3) := by decide +kernel
theorem dX1_mayBe_88 : decode cX1_mayBe 88 = .ok (.iconst 1, 1) := by decide +kernel
theorem dX1_mayBe_89 : decode cX1_mayBe 89 = .ok (.goto 4, 3) := by decide +kernel
theorem dX1_mayBe_92 : decode cX1_mayBe 92 = .ok (.iconst 0, 1) := by decide +kernel
theorem dX1_mayBe_93 : decode cX1_mayBe 93 = .ok (.ireturn, 1) := by decide +kernel
theorem dX1_mayBe_94 : decode cX1_mayBe 94 = .ok (.iload_n 1, 1) := by decide +kernel
theorem dX1_mayBe_95 : decode cX1_mayBe 95 = .ok (.iconst 1, 1) := by decide +kernel
theorem dX1_mayBe_96 : decode cX1_mayBe 96 = .ok (.if_icmp .lt 12, 3) := by decide +kernel
theorem dX1_mayBe_99 : decode cX1_mayBe 99 = .ok (.iload_n 2, 1) := by decide +kernel
theorem dX1_mayBe_100 : decode cX1_mayBe 100 = .ok (.iconst 1, 1) := by decide +kernel
theorem dX1_mayBe_101 : decode cX1_mayBe 101 = .ok (.if_icmp .lt 7, 3) := by decide +kernel
theorem dX1_mayBe_104 : decode cX1_mayBe 104 = .ok (.iconst 1, 1) := by decide +kernel
theorem dX1_mayBe_105 : decode cX1_mayBe 105 = .ok (.goto 4, 3) := by decide +kernel
theorem dX1_mayBe_108 : decode cX1_mayBe 108 = .ok (.iconst 0, 1) := by decide +kernel
theorem dX1_mayBe_109 : decode cX1_mayBe 109 = .ok (.ireturn, 1) := by decide +kernel
theorem dX1_mayBe_110 : decode cX1_mayBe 110 = .ok (.iconst 0, 1) := by decide +kernel
theorem dX1_mayBe_111 : decode cX1_mayBe 111 = .ok (.ireturn, 1) := by decide +kernel
set_option maxRecDepth 20000 in
theorem ggX1_size_X1_countWords : GoodIn wsX1_size wsX1_countWords := goodIn_r _ [4, 5] (by decide +kernel) (by decide +kernel)
set_option maxRecDepth 20000 in
theorem gX1_size_X1_countWords : GoodIn wsX1_size (va_wsS RX1 15 yX1_countWords wsX1_countWords) := goodIn_app (goodIn_of _ (by decide +kernel)) ggX1_size_X1_countWords
set_option maxRecDepth 20000 in
theorem ggX1_size_X1_countSets : GoodIn wsX1_size wsX1_countSets := goodIn_r _ [8] (by decide +kernel) (by decide +kernel)
set_option maxRecDepth 20000 in
theorem gX1_size_X1_countSets : GoodIn wsX1_size (va_wsS RX1 19 yX1_countSets wsX1_countSets) := goodIn_app (goodIn_of _ (by decide +kernel)) ggX1_size_X1_countSets
theorem dX1_size_0 : decode cX1_size 0 = .ok (.iload_n 0, 1) := by decide +kernel
theorem dX1_size_1 : decode cX1_size 1 = .ok (.tableswitch 49 2 5 #[31, 37, 37, 43], 31) := by decide +kernel
theorem dX1_size_32 : decode cX1_size 32 = .ok (.iload_n 1, 1) := by decide +kernel
theorem dX1_size_33 : decode cX1_size 33 = .ok (.iload_n 2, 1) := by decide +kernel
theorem dX1_size_34 : decode cX1_size 34 = .ok (.invokestatic 15, 3) := by decide +kernel
theorem dX1_size_37 : decode cX1_size 37 = .ok (.lreturn, 1) := by decide +kernel
theorem dX1_size_38 : decode cX1_size 38 = .ok (.iload_n 1, 1) := by decide +kernel
theorem dX1_size_39 : decode cX1_size 39 = .ok (.iload_n 2, 1) := by decide +kernel
theorem dX1_size_40 : decode cX1_size 40 = .ok (.invokestatic 19, 3) := by decide +kernel
theorem dX1_size_43 : decode cX1_size 43 = .ok (.lreturn, 1) := by decide +kernel
theorem dX1_size_44 : decode cX1_size 44 = .ok (.iload_n 1, 1) := by decide +kernel
theorem dX1_size_45 : decode cX1_size 45 = .ok (.i2l, 1) := by decide +kernel
theorem dX1_size_46 : decode cX1_size 46 = .ok (.iload_n 2, 1) := by decide +kernel
theorem dX1_size_47 : decode cX1_size 47 = .ok (.i2l, 1) := by decide +kernel
theorem dX1_size_48 : decode cX1_size 48 = .ok (.ladd, 1) := by decide +kernel
theorem dX1_size_49 : decode cX1_size 49 = .ok (.lreturn, 1) := by decide +kernel
theorem dX1_size_50 : decode cX1_size 50 = .ok (.iload_n 1, 1) := by decide +kernel
theorem dX1_size_51 : decode cX1_size 51 = .ok (.i2l, 1) := by decide +kernel
theorem dX1_size_52 : decode cX1_size 52 = .ok (.lreturn, 1) := by decide +kernel
theorem dX1_countWords_0 : decode cX1_countWords 0 = .ok (.lconst 1, 1) := by decide +kernel
theorem dX1_countWords_1 : decode cX1_countWords 1 = .ok (.lstore_n 2, 1) := by decide +kernel
theorem dX1_countWords_2 : decode cX1_countWords 2 = .ok (.iconst 0, 1) := by decide +kernel
theorem dX1_countWords_3 : decode cX1_countWords 3 = .ok (.istore 4, 2) := by decide +kernel
theorem dX1_countWords_5 : decode cX1_countWords 5 = .ok (.iload 4, 2) := by decide +kernel
theorem dX1_countWords_7 : decode cX1_countWords 7 = .ok (.iload_n 1, 1) := by decide +kernel
theorem dX1_countWords_8 : decode cX1_countWords 8 = .ok (.if_icmp .ge 22, 3) := by decide +kernel
theorem dX1_countWords_11 : decode cX1_countWords 11 = .ok (.lload_n 2, 1) := by decide +kernel
theorem dX1_countWords_12 : decode cX1_countWords 12 = .ok (.ldc2_w 22, 3) := by decide +kernel
theorem dX1_countWords_15 : decode cX1_countWords 15 = .ok (.lcmp, 1) := by decide +kernel
theorem dX1_countWords_16 : decode cX1_countWords 16 = .ok (.ifCond .gt 14, 3) := by decide +kernel
theorem dX1_countWords_19 : decode cX1_countWords 19 = .ok (.lload_n 2, 1) := by decide +kernel
theorem dX1_countWords_20 : decode cX1_countWords 20 = .ok (.iload_n 0, 1) := by decide +kernel
theorem dX1_countWords_21 : decode cX1_countWords 21 = .ok (.i2l, 1) := by decide +kernel
theorem dX1_countWords_22 : decode cX1_countWords 22 = .ok (.lmul, 1) := by decide +kernel
theorem dX1_countWords_23 : decode cX1_countWords 23 = .ok (.lstore_n 2, 1) := by decide +kernel
theorem dX1_countWords_24 : decode cX1_countWords 24 = .ok (.iinc 4 1, 3) := by decide +kernel
theorem dX1_countWords_27 : decode cX1_countWords 27 = .ok (.goto (-22), 3) := by decide +kernel
theorem dX1_countWords_30 : decode cX1_countWords 30 = .ok (.lload_n 2, 1) := by decide +kernel
theorem dX1_countWords_31 : decode cX1_countWords 31 = .ok (.lreturn, 1) := by decide +kernel
theorem dX1_countSets_0 : decode cX1_countSets 0 = .ok (.iload_n 0, 1) := by decide +kernel
theorem dX1_countSets_1 : decode cX1_countSets 1 = .ok (.bipush 32, 2) := by decide +kernel
theorem dX1_countSets_3 : decode cX1_countSets 3 = .ok (.if_icmp .le 6, 3) := by decide +kernel
theorem dX1_countSets_6 : decode cX1_countSets 6 = .ok (.iload_n 0, 1) := by decide +kernel
theorem dX1_countSets_7 : decode cX1_countSets 7 = .ok (.i2l, 1) := by decide +kernel
theorem dX1_countSets_8 : decode cX1_countSets 8 = .ok (.lreturn, 1) := by decide +kernel
theorem dX1_countSets_9 : decode cX1_countSets 9 = .ok (.lconst 1, 1) := by decide +kernel
theorem dX1_countSets_10 : decode cX1_countSets 10 = .ok (.lstore_n 2, 1) := by decide +kernel
theorem dX1_countSets_11 : decode cX1_countSets 11 = .ok (.iconst 1, 1) := by decide +kernel
theorem dX1_countSets_12 : decode cX1_countSets 12 = .ok (.istore 4, 2) := by decide +kernel
theorem dX1_countSets_14 : decode cX1_countSets 14 = .ok (.iload 4, 2) := by decide +kernel
theorem dX1_countSets_16 : decode cX1_countSets 16 = .ok (.iload_n 1, 1) := by decide +kernel
theorem dX1_countSets_17 : decode cX1_countSets 17 = .ok (.if_icmp .gt 23, 3) := by decide +kernel
theorem dX1_countSets_20 : decode cX1_countSets 20 = .ok (.lload_n 2, 1) := by decide +kernel
theorem dX1_countSets_21 : decode cX1_countSets 21 = .ok (.iload_n 0, 1) := by decide +kernel
theorem dX1_countSets_22 : decode cX1_countSets 22 = .ok (.iload_n 1, 1) := by decide +kernel
theorem dX1_countSets_23 : decode cX1_countSets 23 = .ok (.isub, 1) := by decide +kernel
theorem dX1_countSets_24 : decode cX1_countSets 24 = .ok (.iload 4, 2) := by decide +kernel
theorem dX1_countSets_26 : decode cX1_countSets 26 = .ok (.iadd, 1) := by decide +kernel
theorem dX1_countSets_27 : decode cX1_countSets 27 = .ok (.i2l, 1) := by decide +kernel
theorem dX1_countSets_28 : decode cX1_countSets 28 = .ok (.lmul, 1) := by decide +kernel
theorem dX1_countSets_29 : decode cX1_countSets 29 = .ok (.iload 4, 2) := by decide +kernel
theorem dX1_countSets_31 : decode cX1_countSets 31 = .ok (.i2l, 1) := by decide +kernel
theorem dX1_countSets_32 : decode cX1_countSets 32 = .ok (.ldiv, 1) := by decide +kernel
theorem dX1_countSets_33 : decode cX1_countSets 33 = .ok (.lstore_n 2, 1) := by decide +kernel
theorem dX1_countSets_34 : decode cX1_countSets 34 = .ok (.iinc 4 1, 3) := by decide +kernel
theorem dX1_countSets_37 : decode cX1_countSets 37 = .ok (.goto (-23), 3) := by decide +kernel
theorem dX1_countSets_40 : decode cX1_countSets 40 = .ok (.lload_n 2, 1) := by decide +kernel
theorem dX1_countSets_41 : decode cX1_countSets 41 = .ok (.lreturn, 1) := by decide +kernel
set_option maxRecDepth 20000 in
theorem ggX1_lay_X1_layWords : GoodIn wsX1_lay wsX1_layWords := goodIn_r _ [5, 1, 6, 7, 4, 8, 9, 10, 11, 12, 13, 14, 15, 16, 17, 18, 19, 20, 21, 22, 23, 54, 55] (by decide +kernel) (by decide +kernel)
set_option maxRecDepth 20000 in
theorem gX1_lay_X1_layWords : GoodIn wsX1_lay (va_wsS RX1 24 yX1_layWords wsX1_layWords) := goodIn_app (goodIn_of _ (by decide +kernel)) ggX1_lay_X1_layWords
set_option maxRecDepth 20000 in
theorem ggX1_lay_X1_listSets : GoodIn wsX1_lay wsX1_listSets := goodIn_r _ [27, 28, 29, 30, 4, 31, 32, 33, 34, 35, 36, 37, 38, 56] (by decide +kernel) (by decide +kernel)
set_option maxRecDepth 20000 in
theorem gX1_lay_X1_listSets : GoodIn wsX1_lay (wsV RX1 34 RX1 yX1_listSets wsX1_listSets) := goodIn_app (goodIn_of _ (by decide +kernel)) ggX1_lay_X1_listSets
set_option maxRecDepth 20000 in
theorem ggX1_lay_X1_layPairs : GoodIn wsX1_lay wsX1_layPairs := goodIn_r _ [42, 1, 43, 44, 45, 4, 46, 28, 47, 48, 49, 50, 51, 52, 53, 9, 10, 11, 12, 13, 14, 15, 16, 17, 18, 19, 20, 21, 22, 23, 54, 55, 56] (by decide +kernel) (by decide +kernel)
set_option maxRecDepth 20000 in
theorem gX1_lay_X1_layPairs : GoodIn wsX1_lay (wsV RX1 38 RX1 yX1_layPairs wsX1_layPairs) := goodIn_app (goodIn_of _ (by decide +kernel)) ggX1_lay_X1_layPairs
theorem dX1_lay_0 : decode cX1_lay 0 = .ok (.iload_n 2, 1) := by decide +kernel
theorem dX1_lay_1 : decode cX1_lay 1 = .ok (.iconst 2, 1) := by decide +kernel
theorem dX1_lay_2 : decode cX1_lay 2 = .ok (.if_icmp .ne 11, 3) := by decide +kernel
theorem dX1_lay_5 : decode cX1_lay 5 = .ok (.aload_n 1, 1) := by decide +kernel
theorem dX1_lay_6 : decode cX1_lay 6 = .ok (.iload_n 3, 1) := by decide +kernel
theorem dX1_lay_7 : decode cX1_lay 7 = .ok (.invokestatic 24, 3) := by decide +kernel
theorem dX1_lay_10 : decode cX1_lay 10 = .ok (.goto 41, 3) := by decide +kernel
theorem dX1_lay_13 : decode cX1_lay 13 = .ok (.iload_n 2, 1) := by decide +kernel
theorem dX1_lay_14 : decode cX1_lay 14 = .ok (.iconst 3, 1) := by decide +kernel
theorem dX1_lay_15 : decode cX1_lay 15 = .ok (.if_icmp .eq 8, 3) := by decide +kernel
theorem dX1_lay_18 : decode cX1_lay 18 = .ok (.iload_n 2, 1) := by decide +kernel
theorem dX1_lay_19 : decode cX1_lay 19 = .ok (.iconst 4, 1) := by decide +kernel
theorem dX1_lay_20 : decode cX1_lay 20 = .ok (.if_icmp .ne 24, 3) := by decide +kernel
theorem dX1_lay_23 : decode cX1_lay 23 = .ok (.aload_n 0, 1) := by decide +kernel
theorem dX1_lay_24 : decode cX1_lay 24 = .ok (.aload_n 1, 1) := by decide +kernel
theorem dX1_lay_25 : decode cX1_lay 25 = .ok (.getfield 28, 3) := by decide +kernel
theorem dX1_lay_28 : decode cX1_lay 28 = .ok (.iload 4, 2) := by decide +kernel
theorem dX1_lay_30 : decode cX1_lay 30 = .ok (.invokevirtual 34, 3) := by decide +kernel
theorem dX1_lay_33 : decode cX1_lay 33 = .ok (.aload_n 0, 1) := by decide +kernel
theorem dX1_lay_34 : decode cX1_lay 34 = .ok (.aload_n 1, 1) := by decide +kernel
theorem dX1_lay_35 : decode cX1_lay 35 = .ok (.iload_n 2, 1) := by decide +kernel
theorem dX1_lay_36 : decode cX1_lay 36 = .ok (.iload 4, 2) := by decide +kernel
theorem dX1_lay_38 : decode cX1_lay 38 = .ok (.invokevirtual 38, 3) := by decide +kernel
theorem dX1_lay_41 : decode cX1_lay 41 = .ok (.goto 10, 3) := by decide +kernel
theorem dX1_lay_44 : decode cX1_lay 44 = .ok (.aload_n 0, 1) := by decide +kernel
theorem dX1_lay_45 : decode cX1_lay 45 = .ok (.aload_n 1, 1) := by decide +kernel
theorem dX1_lay_46 : decode cX1_lay 46 = .ok (.iload_n 2, 1) := by decide +kernel
theorem dX1_lay_47 : decode cX1_lay 47 = .ok (.iload_n 3, 1) := by decide +kernel
theorem dX1_lay_48 : decode cX1_lay 48 = .ok (.invokevirtual 38, 3) := by decide +kernel
theorem dX1_lay_51 : decode cX1_lay 51 = .ok (.return_, 1) := by decide +kernel
set_option maxRecDepth 20000 in
theorem ggX1_layWords_X1_unlikeLetters : GoodIn wsX1_layWords wsX1_unlikeLetters := goodIn_r _ [5] (by decide +kernel) (by decide +kernel)
set_option maxRecDepth 20000 in
theorem gX1_layWords_X1_unlikeLetters : GoodIn wsX1_layWords (va_wsS RX1 42 yX1_unlikeLetters wsX1_unlikeLetters) := goodIn_app (goodIn_of _ (by decide +kernel)) ggX1_layWords_X1_unlikeLetters
set_option maxRecDepth 20000 in
theorem ggX1_layWords_X2_join : GoodIn wsX1_layWords wsX2_join := goodIn_r _ [10, 11, 12, 13, 14, 9, 15, 16, 17, 18, 19, 20, 21, 22] (by decide +kernel) (by decide +kernel)
set_option maxRecDepth 20000 in
theorem gX1_layWords_X2_join : GoodIn wsX1_layWords (wsV RX1 46 RX2 yX2_join wsX2_join) := goodIn_app (goodIn_of _ (by decide +kernel)) ggX1_layWords_X2_join
theorem dX1_layWords_0 : decode cX1_layWords 0 = .ok (.iconst 0, 1) := by decide +kernel
theorem dX1_layWords_1 : decode cX1_layWords 1 = .ok (.istore_n 2, 1) := by decide +kernel
theorem dX1_layWords_2 : decode cX1_layWords 2 = .ok (.iload_n 2, 1) := by decide +kernel
theorem dX1_layWords_3 : decode cX1_layWords 3 = .ok (.aload_n 0, 1) := by decide +kernel
theorem dX1_layWords_4 : decode cX1_layWords 4 = .ok (.getfield 28, 3) := by decide +kernel
theorem dX1_layWords_7 : decode cX1_layWords 7 = .ok (.if_icmp .ge 43, 3) := by decide +kernel
theorem dX1_layWords_10 : decode cX1_layWords 10 = .ok (.iload_n 2, 1) := by decide +kernel
theorem dX1_layWords_11 : decode cX1_layWords 11 = .ok (.iconst 1, 1) := by decide +kernel
theorem dX1_layWords_12 : decode cX1_layWords 12 = .ok (.iadd, 1) := by decide +kernel
theorem dX1_layWords_13 : decode cX1_layWords 13 = .ok (.istore_n 3, 1) := by decide +kernel
theorem dX1_layWords_14 : decode cX1_layWords 14 = .ok (.iload_n 3, 1) := by decide +kernel
theorem dX1_layWords_15 : decode cX1_layWords 15 = .ok (.aload_n 0, 1) := by decide +kernel
theorem dX1_layWords_16 : decode cX1_layWords 16 = .ok (.getfield 28, 3) := by decide +kernel
theorem dX1_layWords_19 : decode cX1_layWords 19 = .ok (.if_icmp .ge 25, 3) := by decide +kernel
theorem dX1_layWords_22 : decode cX1_layWords 22 = .ok (.iload_n 2, 1) := by decide +kernel
theorem dX1_layWords_23 : decode cX1_layWords 23 = .ok (.iload_n 3, 1) := by decide +kernel
theorem dX1_layWords_24 : decode cX1_layWords 24 = .ok (.iload_n 1, 1) := by decide +kernel
theorem dX1_layWords_25 : decode cX1_layWords 25 = .ok (.invokestatic 42, 3) := by decide +kernel
theorem dX1_layWords_28 : decode cX1_layWords 28 = .ok (.iconst 1, 1) := by decide +kernel
theorem dX1_layWords_29 : decode cX1_layWords 29 = .ok (.if_icmp .ne 9, 3) := by decide +kernel
theorem dX1_layWords_32 : decode cX1_layWords 32 = .ok (.aload_n 0, 1) := by decide +kernel
theorem dX1_layWords_33 : decode cX1_layWords 33 = .ok (.iload_n 2, 1) := by decide +kernel
theorem dX1_layWords_34 : decode cX1_layWords 34 = .ok (.iload_n 3, 1) := by decide +kernel
theorem dX1_layWords_35 : decode cX1_layWords 35 = .ok (.invokevirtual 46, 3) := by decide +kernel
theorem dX1_layWords_38 : decode cX1_layWords 38 = .ok (.iinc 3 1, 3) := by decide +kernel
theorem dX1_layWords_41 : decode cX1_layWords 41 = .ok (.goto (-27), 3) := by decide +kernel
theorem dX1_layWords_44 : decode cX1_layWords 44 = .ok (.iinc 2 1, 3) := by decide +kernel
theorem dX1_layWords_47 : decode cX1_layWords 47 = .ok (.goto (-45), 3) := by decide +kernel
theorem dX1_layWords_50 : decode cX1_layWords 50 = .ok (.return_, 1) := by decide +kernel
theorem dX1_unlikeLetters_0 : decode cX1_unlikeLetters 0 = .ok (.iload_n 2, 1) := by decide +kernel
theorem dX1_unlikeLetters_1 : decode cX1_unlikeLetters 1 = .ok (.iconst 2, 1) := by decide +kernel
theorem dX1_unlikeLetters_2 : decode cX1_unlikeLetters 2 = .ok (.if_icmp .ge 5, 3) := by decide +kernel
theorem dX1_unlikeLetters_5 : decode cX1_unlikeLetters 5 = .ok (.iconst 0, 1) := by decide +kernel
theorem dX1_unlikeLetters_6 : decode cX1_unlikeLetters 6 = .ok (.ireturn, 1) := by decide +kernel
theorem dX1_unlikeLetters_7 : decode cX1_unlikeLetters 7 = .ok (.iconst 0, 1) := by decide +kernel
theorem dX1_unlikeLetters_8 : decode cX1_unlikeLetters 8 = .ok (.istore_n 3, 1) := by decide +kernel
theorem dX1_unlikeLetters_9 : decode cX1_unlikeLetters 9 = .ok (.iload_n 0, 1) := by decide +kernel
theorem dX1_unlikeLetters_10 : decode cX1_unlikeLetters 10 = .ok (.istore 4, 2) := by decide +kernel
theorem dX1_unlikeLetters_12 : decode cX1_unlikeLetters 12 = .ok (.iload_n 1, 1) := by decide +kernel
theorem dX1_unlikeLetters_13 : decode cX1_unlikeLetters 13 = .ok (.istore 5, 2) := by decide +kernel
theorem dX1_unlikeLetters_15 : decode cX1_unlikeLetters 15 = .ok (.iconst 0, 1) := by decide +kernel
theorem dX1_unlikeLetters_16 : decode cX1_unlikeLetters 16 = .ok (.istore 6, 2) := by decide +kernel
theorem dX1_unlikeLetters_18 : decode cX1_unlikeLetters 18 = .ok (.iload 6, 2) := by decide +kernel
theorem dX1_unlikeLetters_20 : decode cX1_unlikeLetters 20 = .ok (.bipush 32, 2) := by decide +kernel
theorem dX1_unlikeLetters_22 : decode cX1_unlikeLetters 22 = .ok (.if_icmp .ge 42, 3) := by decide +kernel
theorem dX1_unlikeLetters_25 : decode cX1_unlikeLetters 25 = .ok (.iload 4, 2) := by decide +kernel
theorem dX1_unlikeLetters_27 : decode cX1_unlikeLetters 27 = .ok (.iload 5, 2) := by decide +kernel
theorem dX1_unlikeLetters_29 : decode cX1_unlikeLetters 29 = .ok (.if_icmp .eq 35, 3) := by decide +kernel
theorem dX1_unlikeLetters_32 : decode cX1_unlikeLetters 32 = .ok (.iload 4, 2) := by decide +kernel
theorem dX1_unlikeLetters_34 : decode cX1_unlikeLetters 34 = .ok (.iload_n 2, 1) := by decide +kernel
theorem dX1_unlikeLetters_35 : decode cX1_unlikeLetters 35 = .ok (.irem, 1) := by decide +kernel
theorem dX1_unlikeLetters_36 : decode cX1_unlikeLetters 36 = .ok (.iload 5, 2) := by decide +kernel
theorem dX1_unlikeLetters_38 : decode cX1_unlikeLetters 38 = .ok (.iload_n 2, 1) := by decide +kernel
theorem dX1_unlikeLetters_39 : decode cX1_unlikeLetters 39 = .ok (.irem, 1) := by decide +kernel
theorem dX1_unlikeLetters_40 : decode cX1_unlikeLetters 40 = .ok (.if_icmp .eq 6, 3) := by decide +kernel
theorem dX1_unlikeLetters_43 : decode cX1_unlikeLetters 43 = .ok (.iinc 3 1, 3) := by decide +kernel
theorem dX1_unlikeLetters_46 : decode cX1_unlikeLetters 46 = .ok (.iload 4, 2) := by decide +kernel
theorem dX1_unlikeLetters_48 : decode cX1_unlikeLetters 48 = .ok (.iload_n 2, 1) := by decide +kernel
theorem dX1_unlikeLetters_49 : decode cX1_unlikeLetters 49 = .ok (.idiv, 1) := by decide +kernel
theorem dX1_unlikeLetters_50 : decode cX1_unlikeLetters 50 = .ok (.istore 4, 2) := by decide +kernel
theorem dX1_unlikeLetters_52 : decode cX1_unlikeLetters 52 = .ok (.iload 5, 2) := by decide +kernel
theorem dX1_unlikeLetters_54 : decode cX1_unlikeLetters 54 = .ok (.iload_n 2, 1) := by decide +kernel
theorem dX1_unlikeLetters_55 : decode cX1_unlikeLetters 55 = .ok (.idiv, 1) := by decide +kernel
theorem dX1_unlikeLetters_56 : decode cX1_unlikeLetters 56 = .ok (.istore 5, 2) := by decide +kernel
theorem dX1_unlikeLetters_58 : decode cX1_unlikeLetters 58 = .ok (.iinc 6 1, 3) := by decide +kernel
theorem dX1_unlikeLetters_61 : decode cX1_unlikeLetters 61 = .ok (.goto (-43), 3) := by decide +kernel
theorem dX1_unlikeLetters_64 : decode cX1_unlikeLetters 64 = .ok (.iload_n 3, 1) := by decide +kernel
theorem dX1_unlikeLetters_65 : decode cX1_unlikeLetters 65 = .ok (.ireturn, 1) := by decide +kernel
set_option maxRecDepth 20000 in
theorem ggX1_listSets_X1_nextSet : GoodIn wsX1_listSets wsX1_nextSet := goodIn_r _ [5, 6, 7, 8, 9, 10, 11, 12] (by decide +kernel) (by decide +kernel)
set_option maxRecDepth 20000 in
theorem gX1_listSets_X1_nextSet : GoodIn wsX1_listSets (va_wsS RX1 49 yX1_nextSet wsX1_nextSet) := goodIn_app (goodIn_of _ (by decide +kernel)) ggX1_listSets_X1_nextSet
theorem dX1_listSets_0 : decode cX1_listSets 0 = .ok (.lconst 1, 1) := by decide +kernel
theorem dX1_listSets_1 : decode cX1_listSets 1 = .ok (.iload_n 2, 1) := by decide +kernel
theorem dX1_listSets_2 : decode cX1_listSets 2 = .ok (.lshl, 1) := by decide +kernel
theorem dX1_listSets_3 : decode cX1_listSets 3 = .ok (.lconst 1, 1) := by decide +kernel
theorem dX1_listSets_4 : decode cX1_listSets 4 = .ok (.lsub, 1) := by decide +kernel
theorem dX1_listSets_5 : decode cX1_listSets 5 = .ok (.lstore_n 3, 1) := by decide +kernel
theorem dX1_listSets_6 : decode cX1_listSets 6 = .ok (.iconst 0, 1) := by decide +kernel
theorem dX1_listSets_7 : decode cX1_listSets 7 = .ok (.istore 5, 2) := by decide +kernel
theorem dX1_listSets_9 : decode cX1_listSets 9 = .ok (.iload 5, 2) := by decide +kernel
theorem dX1_listSets_11 : decode cX1_listSets 11 = .ok (.iload_n 1, 1) := by decide +kernel
theorem dX1_listSets_12 : decode cX1_listSets 12 = .ok (.if_icmp .ge 23, 3) := by decide +kernel
theorem dX1_listSets_15 : decode cX1_listSets 15 = .ok (.aload_n 0, 1) := by decide +kernel
theorem dX1_listSets_16 : decode cX1_listSets 16 = .ok (.getfield 9, 3) := by decide +kernel
theorem dX1_listSets_19 : decode cX1_listSets 19 = .ok (.iload 5, 2) := by decide +kernel
theorem dX1_listSets_21 : decode cX1_listSets 21 = .ok (.lload_n 3, 1) := by decide +kernel
theorem dX1_listSets_22 : decode cX1_listSets 22 = .ok (.l2i, 1) := by decide +kernel
theorem dX1_listSets_23 : decode cX1_listSets 23 = .ok (.iastore, 1) := by decide +kernel
theorem dX1_listSets_24 : decode cX1_listSets 24 = .ok (.lload_n 3, 1) := by decide +kernel
theorem dX1_listSets_25 : decode cX1_listSets 25 = .ok (.invokestatic 49, 3) := by decide +kernel
theorem dX1_listSets_28 : decode cX1_listSets 28 = .ok (.lstore_n 3, 1) := by decide +kernel
theorem dX1_listSets_29 : decode cX1_listSets 29 = .ok (.iinc 5 1, 3) := by decide +kernel
theorem dX1_listSets_32 : decode cX1_listSets 32 = .ok (.goto (-23), 3) := by decide +kernel
theorem dX1_listSets_35 : decode cX1_listSets 35 = .ok (.return_, 1) := by decide +kernel
set_option maxRecDepth 20000 in
theorem ggX1_nextSet_J13_bitCount_95d88 : GoodIn wsX1_nextSet wsJ13_bitCount_95d88 := goodIn_r _ [4, 5, 6, 7] (by decide +kernel) (by decide +kernel)
set_option maxRecDepth 20000 in
theorem gX1_nextSet_J13_bitCount_95d88 : GoodIn wsX1_nextSet (va_wsS RX1 53 yJ13_bitCount_95d88 wsJ13_bitCount_95d88) := goodIn_app (goodIn_of _ (by decide +kernel)) ggX1_nextSet_J13_bitCount_95d88
theorem dX1_nextSet_0 : decode cX1_nextSet 0 = .ok (.lload_n 0, 1) := by decide +kernel
theorem dX1_nextSet_1 : decode cX1_nextSet 1 = .ok (.lload_n 0, 1) := by decide +kernel
theorem dX1_nextSet_2 : decode cX1_nextSet 2 = .ok (.lneg, 1) := by decide +kernel
theorem dX1_nextSet_3 : decode cX1_nextSet 3 = .ok (.land, 1) := by decide +kernel
theorem dX1_nextSet_4 : decode cX1_nextSet 4 = .ok (.lstore_n 2, 1) := by decide +kernel
theorem dX1_nextSet_5 : decode cX1_nextSet 5 = .ok (.lload_n 0, 1) := by decide +kernel
theorem dX1_nextSet_6 : decode cX1_nextSet 6 = .ok (.lload_n 2, 1) := by decide +kernel
theorem dX1_nextSet_7 : decode cX1_nextSet 7 = .ok (.ladd, 1) := by decide +kernel
theorem dX1_nextSet_8 : decode cX1_nextSet 8 = .ok (.lstore 4, 2) := by decide +kernel
theorem dX1_nextSet_10 : decode cX1_nextSet 10 = .ok (.lload 4, 2) := by decide +kernel
theorem dX1_nextSet_12 : decode cX1_nextSet 12 = .ok (.lload_n 0, 1) := by decide +kernel
theorem dX1_nextSet_13 : decode cX1_nextSet 13 = .ok (.lload 4, 2) := by decide +kernel
theorem dX1_nextSet_15 : decode cX1_nextSet 15 = .ok (.lxor, 1) := by decide +kernel
theorem dX1_nextSet_16 : decode cX1_nextSet 16 = .ok (.iconst 2, 1) := by decide +kernel
theorem dX1_nextSet_17 : decode cX1_nextSet 17 = .ok (.lload_n 2, 1) := by decide +kernel
theorem dX1_nextSet_18 : decode cX1_nextSet 18 = .ok (.lconst 1, 1) := by decide +kernel
theorem dX1_nextSet_19 : decode cX1_nextSet 19 = .ok (.lsub, 1) := by decide +kernel
theorem dX1_nextSet_20 : decode cX1_nextSet 20 = .ok (.invokestatic 53, 3) := by decide +kernel
theorem dX1_nextSet_23 : decode cX1_nextSet 23 = .ok (.iadd, 1) := by decide +kernel
theorem dX1_nextSet_24 : decode cX1_nextSet 24 = .ok (.lushr, 1) := by decide +kernel
theorem dX1_nextSet_25 : decode cX1_nextSet 25 = .ok (.lor, 1) := by decide +kernel
theorem dX1_nextSet_26 : decode cX1_nextSet 26 = .ok (.lreturn, 1) := by decide +kernel
set_option maxRecDepth 20000 in
theorem ggX1_layPairs_X1_isRoad : GoodIn wsX1_layPairs wsX1_isRoad := goodIn_r _ [6, 7, 8, 9, 10, 11, 12, 13, 14, 32] (by decide +kernel) (by decide +kernel)
set_option maxRecDepth 20000 in
theorem gX1_layPairs_X1_isRoad : GoodIn wsX1_layPairs (wsV RX1 59 RX1 yX1_isRoad wsX1_isRoad) := goodIn_app (goodIn_of _ (by decide +kernel)) ggX1_layPairs_X1_isRoad
set_option maxRecDepth 20000 in
theorem ggX1_layPairs_X2_join : GoodIn wsX1_layPairs wsX2_join := goodIn_r _ [19, 20, 21, 22, 23, 18, 24, 25, 26, 27, 28, 29, 30, 31] (by decide +kernel) (by decide +kernel)
set_option maxRecDepth 20000 in
theorem gX1_layPairs_X2_join : GoodIn wsX1_layPairs (wsV RX1 46 RX2 yX2_join wsX2_join) := goodIn_app (goodIn_of _ (by decide +kernel)) ggX1_layPairs_X2_join
theorem dX1_layPairs_0 : decode cX1_layPairs 0 = .ok (.iconst 0, 1) := by decide +kernel
theorem dX1_layPairs_1 : decode cX1_layPairs 1 = .ok (.istore 4, 2) := by decide +kernel
theorem dX1_layPairs_3 : decode cX1_layPairs 3 = .ok (.iload 4, 2) := by decide +kernel
theorem dX1_layPairs_5 : decode cX1_layPairs 5 = .ok (.aload_n 1, 1) := by decide +kernel
theorem dX1_layPairs_6 : decode cX1_layPairs 6 = .ok (.getfield 28, 3) := by decide +kernel
theorem dX1_layPairs_9 : decode cX1_layPairs 9 = .ok (.if_icmp .ge 55, 3) := by decide +kernel
theorem dX1_layPairs_12 : decode cX1_layPairs 12 = .ok (.iload 4, 2) := by decide +kernel
theorem dX1_layPairs_14 : decode cX1_layPairs 14 = .ok (.iconst 1, 1) := by decide +kernel
theorem dX1_layPairs_15 : decode cX1_layPairs 15 = .ok (.iadd, 1) := by decide +kernel
theorem dX1_layPairs_16 : decode cX1_layPairs 16 = .ok (.istore 5, 2) := by decide +kernel
theorem dX1_layPairs_18 : decode cX1_layPairs 18 = .ok (.iload 5, 2) := by decide +kernel
theorem dX1_layPairs_20 : decode cX1_layPairs 20 = .ok (.aload_n 1, 1) := by decide +kernel
theorem dX1_layPairs_21 : decode cX1_layPairs 21 = .ok (.getfield 28, 3) := by decide +kernel
theorem dX1_layPairs_24 : decode cX1_layPairs 24 = .ok (.if_icmp .ge 34, 3) := by decide +kernel
theorem dX1_layPairs_27 : decode cX1_layPairs 27 = .ok (.aload_n 0, 1) := by decide +kernel
theorem dX1_layPairs_28 : decode cX1_layPairs 28 = .ok (.iload_n 2, 1) := by decide +kernel
theorem dX1_layPairs_29 : decode cX1_layPairs 29 = .ok (.iload 4, 2) := by decide +kernel
theorem dX1_layPairs_31 : decode cX1_layPairs 31 = .ok (.iload 5, 2) := by decide +kernel
theorem dX1_layPairs_33 : decode cX1_layPairs 33 = .ok (.iload_n 3, 1) := by decide +kernel
theorem dX1_layPairs_34 : decode cX1_layPairs 34 = .ok (.aload_n 1, 1) := by decide +kernel
theorem dX1_layPairs_35 : decode cX1_layPairs 35 = .ok (.getfield 28, 3) := by decide +kernel
theorem dX1_layPairs_38 : decode cX1_layPairs 38 = .ok (.invokevirtual 59, 3) := by decide +kernel
theorem dX1_layPairs_41 : decode cX1_layPairs 41 = .ok (.ifCond .eq 11, 3) := by decide +kernel
theorem dX1_layPairs_44 : decode cX1_layPairs 44 = .ok (.aload_n 1, 1) := by decide +kernel
theorem dX1_layPairs_45 : decode cX1_layPairs 45 = .ok (.iload 4, 2) := by decide +kernel
theorem dX1_layPairs_47 : decode cX1_layPairs 47 = .ok (.iload 5, 2) := by decide +kernel
theorem dX1_layPairs_49 : decode cX1_layPairs 49 = .ok (.invokevirtual 46, 3) := by decide +kernel
theorem dX1_layPairs_52 : decode cX1_layPairs 52 = .ok (.iinc 5 1, 3) := by decide +kernel
theorem dX1_layPairs_55 : decode cX1_layPairs 55 = .ok (.goto (-37), 3) := by decide +kernel
theorem dX1_layPairs_58 : decode cX1_layPairs 58 = .ok (.iinc 4 1, 3) := by decide +kernel
theorem dX1_layPairs_61 : decode cX1_layPairs 61 = .ok (.goto (-58), 3) := by decide +kernel
theorem dX1_layPairs_64 : decode cX1_layPairs 64 = .ok (.return_, 1) := by decide +kernel
set_option maxRecDepth 20000 in
theorem ggX1_isRoad_J6_bitCount_0f7a4 : GoodIn wsX1_isRoad wsJ6_bitCount_0f7a4 := goodIn_r _ [5, 6, 7, 8] (by decide +kernel) (by decide +kernel)
set_option maxRecDepth 20000 in
theorem gX1_isRoad_J6_bitCount_0f7a4 : GoodIn wsX1_isRoad (va_wsS RX1 63 yJ6_bitCount_0f7a4 wsJ6_bitCount_0f7a4) := goodIn_app (goodIn_of _ (by decide +kernel)) ggX1_isRoad_J6_bitCount_0f7a4
theorem dX1_isRoad_0 : decode cX1_isRoad 0 = .ok (.iload_n 1, 1) := by decide +kernel
theorem dX1_isRoad_1 : decode cX1_isRoad 1 = .ok (.tableswitch 135 0 5 #[39, 64, 135, 66, 95, 117], 39) := by decide +kernel
theorem dX1_isRoad_40 : decode cX1_isRoad 40 = .ok (.iload_n 3, 1) := by decide +kernel
theorem dX1_isRoad_41 : decode cX1_isRoad 41 = .ok (.iload_n 2, 1) := by decide +kernel
theorem dX1_isRoad_42 : decode cX1_isRoad 42 = .ok (.iconst 1, 1) := by decide +kernel
theorem dX1_isRoad_43 : decode cX1_isRoad 43 = .ok (.iadd, 1) := by decide +kernel
theorem dX1_isRoad_44 : decode cX1_isRoad 44 = .ok (.if_icmp .eq 15, 3) := by decide +kernel
theorem dX1_isRoad_47 : decode cX1_isRoad 47 = .ok (.iload_n 2, 1) := by decide +kernel
theorem dX1_isRoad_48 : decode cX1_isRoad 48 = .ok (.ifCond .ne 15, 3) := by decide +kernel
theorem dX1_isRoad_51 : decode cX1_isRoad 51 = .ok (.iload_n 3, 1) := by decide +kernel
theorem dX1_isRoad_52 : decode cX1_isRoad 52 = .ok (.iload 5, 2) := by decide +kernel
theorem dX1_isRoad_54 : decode cX1_isRoad 54 = .ok (.iconst 1, 1) := by decide +kernel
theorem dX1_isRoad_55 : decode cX1_isRoad 55 = .ok (.isub, 1) := by decide +kernel
theorem dX1_isRoad_56 : decode cX1_isRoad 56 = .ok (.if_icmp .ne 7, 3) := by decide +kernel
theorem dX1_isRoad_59 : decode cX1_isRoad 59 = .ok (.iconst 1, 1) := by decide +kernel
theorem dX1_isRoad_60 : decode cX1_isRoad 60 = .ok (.goto 4, 3) := by decide +kernel
theorem dX1_isRoad_63 : decode cX1_isRoad 63 = .ok (.iconst 0, 1) := by decide +kernel
theorem dX1_isRoad_64 : decode cX1_isRoad 64 = .ok (.ireturn, 1) := by decide +kernel
theorem dX1_isRoad_65 : decode cX1_isRoad 65 = .ok (.iconst 1, 1) := by decide +kernel
theorem dX1_isRoad_66 : decode cX1_isRoad 66 = .ok (.ireturn, 1) := by decide +kernel
theorem dX1_isRoad_67 : decode cX1_isRoad 67 = .ok (.aload_n 0, 1) := by decide +kernel
theorem dX1_isRoad_68 : decode cX1_isRoad 68 = .ok (.getfield 9, 3) := by decide +kernel
theorem dX1_isRoad_71 : decode cX1_isRoad 71 = .ok (.iload_n 2, 1) := by decide +kernel
theorem dX1_isRoad_72 : decode cX1_isRoad 72 = .ok (.iaload, 1) := by decide +kernel
theorem dX1_isRoad_73 : decode cX1_isRoad 73 = .ok (.aload_n 0, 1) := by decide +kernel
theorem dX1_isRoad_74 : decode cX1_isRoad 74 = .ok (.getfield 9, 3) := by decide +kernel
theorem dX1_isRoad_77 : decode cX1_isRoad 77 = .ok (.iload_n 3, 1) := by decide +kernel
theorem dX1_isRoad_78 : decode cX1_isRoad 78 = .ok (.iaload, 1) := by decide +kernel
theorem dX1_isRoad_79 : decode cX1_isRoad 79 = .ok (.iand, 1) := by decide +kernel
theorem dX1_isRoad_80 : decode cX1_isRoad 80 = .ok (.invokestatic 63, 3) := by decide +kernel
theorem dX1_isRoad_83 : decode cX1_isRoad 83 = .ok (.iload 4, 2) := by decide +kernel
theorem dX1_isRoad_85 : decode cX1_isRoad 85 = .ok (.iconst 1, 1) := by decide +kernel
theorem dX1_isRoad_86 : decode cX1_isRoad 86 = .ok (.isub, 1) := by decide +kernel
theorem dX1_isRoad_87 : decode cX1_isRoad 87 = .ok (.if_icmp .ne 7, 3) := by decide +kernel
theorem dX1_isRoad_90 : decode cX1_isRoad 90 = .ok (.iconst 1, 1) := by decide +kernel
theorem dX1_isRoad_91 : decode cX1_isRoad 91 = .ok (.goto 4, 3) := by decide +kernel
theorem dX1_isRoad_94 : decode cX1_isRoad 94 = .ok (.iconst 0, 1) := by decide +kernel
theorem dX1_isRoad_95 : decode cX1_isRoad 95 = .ok (.ireturn, 1) := by decide +kernel
theorem dX1_isRoad_96 : decode cX1_isRoad 96 = .ok (.aload_n 0, 1) := by decide +kernel
theorem dX1_isRoad_97 : decode cX1_isRoad 97 = .ok (.getfield 9, 3) := by decide +kernel
theorem dX1_isRoad_100 : decode cX1_isRoad 100 = .ok (.iload_n 2, 1) := by decide +kernel
theorem dX1_isRoad_101 : decode cX1_isRoad 101 = .ok (.iaload, 1) := by decide +kernel
theorem dX1_isRoad_102 : decode cX1_isRoad 102 = .ok (.aload_n 0, 1) := by decide +kernel
theorem dX1_isRoad_103 : decode cX1_isRoad 103 = .ok (.getfield 9, 3) := by decide +kernel
theorem dX1_isRoad_106 : decode cX1_isRoad 106 = .ok (.iload_n 3, 1) := by decide +kernel
theorem dX1_isRoad_107 : decode cX1_isRoad 107 = .ok (.iaload, 1) := by decide +kernel
theorem dX1_isRoad_108 : decode cX1_isRoad 108 = .ok (.iand, 1) := by decide +kernel
theorem dX1_isRoad_109 : decode cX1_isRoad 109 = .ok (.ifCond .ne 7, 3) := by decide +kernel
theorem dX1_isRoad_112 : decode cX1_isRoad 112 = .ok (.iconst 1, 1) := by decide +kernel
theorem dX1_isRoad_113 : decode cX1_isRoad 113 = .ok (.goto 4, 3) := by decide +kernel
theorem dX1_isRoad_116 : decode cX1_isRoad 116 = .ok (.iconst 0, 1) := by decide +kernel
theorem dX1_isRoad_117 : decode cX1_isRoad 117 = .ok (.ireturn, 1) := by decide +kernel
theorem dX1_isRoad_118 : decode cX1_isRoad 118 = .ok (.iload_n 2, 1) := by decide +kernel
theorem dX1_isRoad_119 : decode cX1_isRoad 119 = .ok (.iload 4, 2) := by decide +kernel
theorem dX1_isRoad_121 : decode cX1_isRoad 121 = .ok (.if_icmp .ge 13, 3) := by decide +kernel
theorem dX1_isRoad_124 : decode cX1_isRoad 124 = .ok (.iload_n 3, 1) := by decide +kernel
theorem dX1_isRoad_125 : decode cX1_isRoad 125 = .ok (.iload 4, 2) := by decide +kernel
theorem dX1_isRoad_127 : decode cX1_isRoad 127 = .ok (.if_icmp .lt 7, 3) := by decide +kernel
theorem dX1_isRoad_130 : decode cX1_isRoad 130 = .ok (.iconst 1, 1) := by decide +kernel
theorem dX1_isRoad_131 : decode cX1_isRoad 131 = .ok (.goto 4, 3) := by decide +kernel
theorem dX1_isRoad_134 : decode cX1_isRoad 134 = .ok (.iconst 0, 1) := by decide +kernel
theorem dX1_isRoad_135 : decode cX1_isRoad 135 = .ok (.ireturn, 1) := by decide +kernel
theorem dX1_isRoad_136 : decode cX1_isRoad 136 = .ok (.iconst 0, 1) := by decide +kernel
theorem dX1_isRoad_137 : decode cX1_isRoad 137 = .ok (.ireturn, 1) := by decide +kernel
theorem dX2_init_0 : decode cX2_init 0 = .ok (.aload_n 0, 1) := by decide +kernel
theorem dX2_init_1 : decode cX2_init 1 = .ok (.invokespecial 3, 3) := by decide +kernel
theorem dX2_init_4 : decode cX2_init 4 = .ok (.aload_n 0, 1) := by decide +kernel
theorem dX2_init_5 : decode cX2_init 5 = .ok (.bipush 32, 2) := by decide +kernel
theorem dX2_init_7 : decode cX2_init 7 = .ok (.newarray .int, 2) := by decide +kernel
theorem dX2_init_9 : decode cX2_init 9 = .ok (.putfield 9, 3) := by decide +kernel
theorem dX2_init_12 : decode cX2_init 12 = .ok (.return_, 1) := by decide +kernel
set_option maxRecDepth 20000 in
theorem ggX2_empty_J7_fill_53178 : GoodIn wsX2_empty wsJ7_fill_53178 := goodIn_r _ [6] (by decide +kernel) (by decide +kernel)
set_option maxRecDepth 20000 in
theorem gX2_empty_J7_fill_53178 : GoodIn wsX2_empty (va_wsS RX2 19 yJ7_fill_53178 wsJ7_fill_53178) := goodIn_app (goodIn_of _ (by decide +kernel)) ggX2_empty_J7_fill_53178
theorem dX2_empty_0 : decode cX2_empty 0 = .ok (.aload_n 0, 1) := by decide +kernel
theorem dX2_empty_1 : decode cX2_empty 1 = .ok (.iload_n 1, 1) := by decide +kernel
theorem dX2_empty_2 : decode cX2_empty 2 = .ok (.putfield 15, 3) := by decide +kernel
theorem dX2_empty_5 : decode cX2_empty 5 = .ok (.aload_n 0, 1) := by decide +kernel
theorem dX2_empty_6 : decode cX2_empty 6 = .ok (.getfield 9, 3) := by decide +kernel
theorem dX2_empty_9 : decode cX2_empty 9 = .ok (.iconst 0, 1) := by decide +kernel
theorem dX2_empty_10 : decode cX2_empty 10 = .ok (.invokestatic 19, 3) := by decide +kernel
theorem dX2_empty_13 : decode cX2_empty 13 = .ok (.return_, 1) := by decide +kernel
theorem dX2_copyFrom_0 : decode cX2_copyFrom 0 = .ok (.aload_n 0, 1) := by decide +kernel
theorem dX2_copyFrom_1 : decode cX2_copyFrom 1 = .ok (.aload_n 1, 1) := by decide +kernel
theorem dX2_copyFrom_2 : decode cX2_copyFrom 2 = .ok (.getfield 15, 3) := by decide +kernel
theorem dX2_copyFrom_5 : decode cX2_copyFrom 5 = .ok (.putfield 15, 3) := by decide +kernel
theorem dX2_copyFrom_8 : decode cX2_copyFrom 8 = .ok (.aload_n 1, 1) := by decide +kernel
theorem dX2_copyFrom_9 : decode cX2_copyFrom 9 = .ok (.getfield 9, 3) := by decide +kernel
theorem dX2_copyFrom_12 : decode cX2_copyFrom 12 = .ok (.iconst 0, 1) := by decide +kernel
theorem dX2_copyFrom_13 : decode cX2_copyFrom 13 = .ok (.aload_n 0, 1) := by decide +kernel
theorem dX2_copyFrom_14 : decode cX2_copyFrom 14 = .ok (.getfield 9, 3) := by decide +kernel
theorem dX2_copyFrom_17 : decode cX2_copyFrom 17 = .ok (.iconst 0, 1) := by decide +kernel
theorem dX2_copyFrom_18 : decode cX2_copyFrom 18 = .ok (.bipush 32, 2) := by decide +kernel
theorem dX2_copyFrom_20 : decode cX2_copyFrom 20 = .ok (.invokestatic 25, 3) := by decide +kernel
theorem dX2_copyFrom_23 : decode cX2_copyFrom 23 = .ok (.return_, 1) := by decide +kernel
theorem dX2_has_0 : decode cX2_has 0 = .ok (.iload_n 1, 1) := by decide +kernel
theorem dX2_has_1 : decode cX2_has 1 = .ok (.ifCond .lt 15, 3) := by decide +kernel
theorem dX2_has_4 : decode cX2_has 4 = .ok (.iload_n 1, 1) := by decide +kernel
theorem dX2_has_5 : decode cX2_has 5 = .ok (.aload_n 0, 1) := by decide +kernel
theorem dX2_has_6 : decode cX2_has 6 = .ok (.getfield 15, 3) := by decide +kernel
theorem dX2_has_9 : decode cX2_has 9 = .ok (.if_icmp .ge 7, 3) := by decide +kernel
theorem dX2_has_12 : decode cX2_has 12 = .ok (.iconst 1, 1) := by decide +kernel
theorem dX2_has_13 : decode cX2_has 13 = .ok (.goto 4, 3) := by decide +kernel
theorem dX2_has_16 : decode cX2_has 16 = .ok (.iconst 0, 1) := by decide +kernel
theorem dX2_has_17 : decode cX2_has 17 = .ok (.ireturn, 1) := by decide +kernel
set_option maxRecDepth 20000 in
theorem ggX2_mayJoin_X2_has : GoodIn wsX2_mayJoin wsX2_has := goodIn_r _ [5, 6, 7, 8] (by decide +kernel) (by decide +kernel)
set_option maxRecDepth 20000 in
theorem gX2_mayJoin_X2_has : GoodIn wsX2_mayJoin (wsV RX2 31 RX2 yX2_has wsX2_has) := goodIn_app (goodIn_of _ (by decide +kernel)) ggX2_mayJoin_X2_has
theorem dX2_mayJoin_0 : decode cX2_mayJoin 0 = .ok (.aload_n 0, 1) := by decide +kernel
theorem dX2_mayJoin_1 : decode cX2_mayJoin 1 = .ok (.iload_n 1, 1) := by decide +kernel
theorem dX2_mayJoin_2 : decode cX2_mayJoin 2 = .ok (.invokevirtual 31, 3) := by decide +kernel
theorem dX2_mayJoin_5 : decode cX2_mayJoin 5 = .ok (.ifCond .eq 20, 3) := by decide +kernel
theorem dX2_mayJoin_8 : decode cX2_mayJoin 8 = .ok (.aload_n 0, 1) := by decide +kernel
theorem dX2_mayJoin_9 : decode cX2_mayJoin 9 = .ok (.iload_n 2, 1) := by decide +kernel
theorem dX2_mayJoin_10 : decode cX2_mayJoin 10 = .ok (.invokevirtual 31, 3) := by decide +kernel
theorem dX2_mayJoin_13 : decode cX2_mayJoin 13 = .ok (.ifCond .eq 12, 3) := by decide +kernel
theorem dX2_mayJoin_16 : decode cX2_mayJoin 16 = .ok (.iload_n 1, 1) := by decide +kernel
theorem dX2_mayJoin_17 : decode cX2_mayJoin 17 = .ok (.iload_n 2, 1) := by decide +kernel
theorem dX2_mayJoin_18 : decode cX2_mayJoin 18 = .ok (.if_icmp .eq 7, 3) := by decide +kernel
theorem dX2_mayJoin_21 : decode cX2_mayJoin 21 = .ok (.iconst 1, 1) := by decide +kernel
theorem dX2_mayJoin_22 : decode cX2_mayJoin 22 = .ok (.goto 4, 3) := by decide +kernel
theorem dX2_mayJoin_25 : decode cX2_mayJoin 25 = .ok (.iconst 0, 1) := by decide +kernel
theorem dX2_mayJoin_26 : decode cX2_mayJoin 26 = .ok (.ireturn, 1) := by decide +kernel
set_option maxRecDepth 20000 in
theorem ggX2_areJoined_X2_has : GoodIn wsX2_areJoined wsX2_has := goodIn_r _ [6, 7, 11, 12] (by decide +kernel) (by decide +kernel)
set_option maxRecDepth 20000 in
theorem gX2_areJoined_X2_has : GoodIn wsX2_areJoined (wsV RX2 31 RX2 yX2_has wsX2_has) := goodIn_app (goodIn_of _ (by decide +kernel)) ggX2_areJoined_X2_has
set_option maxRecDepth 20000 in
theorem ggX2_areJoined_X8_isIn : GoodIn wsX2_areJoined wsX8_isIn := goodIn_r _ [10] (by decide +kernel) (by decide +kernel)
set_option maxRecDepth 20000 in
theorem gX2_areJoined_X8_isIn_n35 : GoodIn wsX2_areJoined (wsX8_isIn) := ggX2_areJoined_X8_isIn
theorem dX2_areJoined_0 : decode cX2_areJoined 0 = .ok (.aload_n 0, 1) := by decide +kernel
theorem dX2_areJoined_1 : decode cX2_areJoined 1 = .ok (.iload_n 1, 1) := by decide +kernel
theorem dX2_areJoined_2 : decode cX2_areJoined 2 = .ok (.invokevirtual 31, 3) := by decide +kernel
theorem dX2_areJoined_5 : decode cX2_areJoined 5 = .ok (.ifCond .eq 28, 3) := by decide +kernel
theorem dX2_areJoined_8 : decode cX2_areJoined 8 = .ok (.aload_n 0, 1) := by decide +kernel
theorem dX2_areJoined_9 : decode cX2_areJoined 9 = .ok (.iload_n 2, 1) := by decide +kernel
theorem dX2_areJoined_10 : decode cX2_areJoined 10 = .ok (.invokevirtual 31, 3) := by decide +kernel
theorem dX2_areJoined_13 : decode cX2_areJoined 13 = .ok (.ifCond .eq 20, 3) := by decide +kernel
theorem dX2_areJoined_16 : decode cX2_areJoined 16 = .ok (.aload_n 0, 1) := by decide +kernel
theorem dX2_areJoined_17 : decode cX2_areJoined 17 = .ok (.getfield 9, 3) := by decide +kernel
theorem dX2_areJoined_20 : decode cX2_areJoined 20 = .ok (.iload_n 1, 1) := by decide +kernel
theorem dX2_areJoined_21 : decode cX2_areJoined 21 = .ok (.iaload, 1) := by decide +kernel
theorem dX2_areJoined_22 : decode cX2_areJoined 22 = .ok (.iload_n 2, 1) := by decide +kernel
theorem dX2_areJoined_23 : decode cX2_areJoined 23 = .ok (.invokestatic 35, 3) := by decide +kernel
theorem dX2_areJoined_26 : decode cX2_areJoined 26 = .ok (.ifCond .eq 7, 3) := by decide +kernel
theorem dX2_areJoined_29 : decode cX2_areJoined 29 = .ok (.iconst 1, 1) := by decide +kernel
theorem dX2_areJoined_30 : decode cX2_areJoined 30 = .ok (.goto 4, 3) := by decide +kernel
theorem dX2_areJoined_33 : decode cX2_areJoined 33 = .ok (.iconst 0, 1) := by decide +kernel
theorem dX2_areJoined_34 : decode cX2_areJoined 34 = .ok (.ireturn, 1) := by decide +kernel
set_option maxRecDepth 20000 in
theorem ggX2_join_X2_mayJoin : GoodIn wsX2_join wsX2_mayJoin := goodIn_r _ [6, 7, 8, 9, 5, 10, 11, 12, 13] (by decide +kernel) (by decide +kernel)
set_option maxRecDepth 20000 in
theorem gX2_join_X2_mayJoin : GoodIn wsX2_join (wsV RX2 39 RX2 yX2_mayJoin wsX2_mayJoin) := goodIn_app (goodIn_of _ (by decide +kernel)) ggX2_join_X2_mayJoin
theorem dX2_join_0 : decode cX2_join 0 = .ok (.aload_n 0, 1) := by decide +kernel
theorem dX2_join_1 : decode cX2_join 1 = .ok (.iload_n 1, 1) := by decide +kernel
theorem dX2_join_2 : decode cX2_join 2 = .ok (.iload_n 2, 1) := by decide +kernel
theorem dX2_join_3 : decode cX2_join 3 = .ok (.invokevirtual 39, 3) := by decide +kernel
theorem dX2_join_6 : decode cX2_join 6 = .ok (.ifCond .eq 27, 3) := by decide +kernel
theorem dX2_join_9 : decode cX2_join 9 = .ok (.aload_n 0, 1) := by decide +kernel
theorem dX2_join_10 : decode cX2_join 10 = .ok (.getfield 9, 3) := by decide +kernel
theorem dX2_join_13 : decode cX2_join 13 = .ok (.iload_n 1, 1) := by decide +kernel
theorem dX2_join_14 : decode cX2_join 14 = .ok (.dup2, 1) := by decide +kernel
theorem dX2_join_15 : decode cX2_join 15 = .ok (.iaload, 1) := by decide +kernel
theorem dX2_join_16 : decode cX2_join 16 = .ok (.iconst 1, 1) := by decide +kernel
theorem dX2_join_17 : decode cX2_join 17 = .ok (.iload_n 2, 1) := by decide +kernel
theorem dX2_join_18 : decode cX2_join 18 = .ok (.ishl, 1) := by decide +kernel
theorem dX2_join_19 : decode cX2_join 19 = .ok (.ior, 1) := by decide +kernel
theorem dX2_join_20 : decode cX2_join 20 = .ok (.iastore, 1) := by decide +kernel
theorem dX2_join_21 : decode cX2_join 21 = .ok (.aload_n 0, 1) := by decide +kernel
theorem dX2_join_22 : decode cX2_join 22 = .ok (.getfield 9, 3) := by decide +kernel
theorem dX2_join_25 : decode cX2_join 25 = .ok (.iload_n 2, 1) := by decide +kernel
theorem dX2_join_26 : decode cX2_join 26 = .ok (.dup2, 1) := by decide +kernel
theorem dX2_join_27 : decode cX2_join 27 = .ok (.iaload, 1) := by decide +kernel
theorem dX2_join_28 : decode cX2_join 28 = .ok (.iconst 1, 1) := by decide +kernel
theorem dX2_join_29 : decode cX2_join 29 = .ok (.iload_n 1, 1) := by decide +kernel
theorem dX2_join_30 : decode cX2_join 30 = .ok (.ishl, 1) := by decide +kernel
theorem dX2_join_31 : decode cX2_join 31 = .ok (.ior, 1) := by decide +kernel
theorem dX2_join_32 : decode cX2_join 32 = .ok (.iastore, 1) := by decide +kernel
theorem dX2_join_33 : decode cX2_join 33 = .ok (.return_, 1) := by decide +kernel
set_option maxRecDepth 20000 in
theorem ggX2_part_X2_mayJoin : GoodIn wsX2_part wsX2_mayJoin := goodIn_r _ [6, 7, 8, 9, 5, 10, 11, 12, 13] (by decide +kernel) (by decide +kernel)
set_option maxRecDepth 20000 in
theorem gX2_part_X2_mayJoin : GoodIn wsX2_part (wsV RX2 39 RX2 yX2_mayJoin wsX2_mayJoin) := goodIn_app (goodIn_of _ (by decide +kernel)) ggX2_part_X2_mayJoin
theorem dX2_part_0 : decode cX2_part 0 = .ok (.aload_n 0, 1) := by decide +kernel
theorem dX2_part_1 : decode cX2_part 1 = .ok (.iload_n 1, 1) := by decide +kernel
theorem dX2_part_2 : decode cX2_part 2 = .ok (.iload_n 2, 1) := by decide +kernel
theorem dX2_part_3 : decode cX2_part 3 = .ok (.invokevirtual 39, 3) := by decide +kernel
theorem dX2_part_6 : decode cX2_part 6 = .ok (.ifCond .eq 31, 3) := by decide +kernel
theorem dX2_part_9 : decode cX2_part 9 = .ok (.aload_n 0, 1) := by decide +kernel
theorem dX2_part_10 : decode cX2_part 10 = .ok (.getfield 9, 3) := by decide +kernel
theorem dX2_part_13 : decode cX2_part 13 = .ok (.iload_n 1, 1) := by decide +kernel
theorem dX2_part_14 : decode cX2_part 14 = .ok (.dup2, 1) := by decide +kernel
theorem dX2_part_15 : decode cX2_part 15 = .ok (.iaload, 1) := by decide +kernel
theorem dX2_part_16 : decode cX2_part 16 = .ok (.iconst 1, 1) := by decide +kernel
theorem dX2_part_17 : decode cX2_part 17 = .ok (.iload_n 2, 1) := by decide +kernel
theorem dX2_part_18 : decode cX2_part 18 = .ok (.ishl, 1) := by decide +kernel
theorem dX2_part_19 : decode cX2_part 19 = .ok (.iconst (-1), 1) := by decide +kernel
theorem dX2_part_20 : decode cX2_part 20 = .ok (.ixor, 1) := by decide +kernel
theorem dX2_part_21 : decode cX2_part 21 = .ok (.iand, 1) := by decide +kernel
theorem dX2_part_22 : decode cX2_part 22 = .ok (.iastore, 1) := by decide +kernel
theorem dX2_part_23 : decode cX2_part 23 = .ok (.aload_n 0, 1) := by decide +kernel
theorem dX2_part_24 : decode cX2_part 24 = .ok (.getfield 9, 3) := by decide +kernel
theorem dX2_part_27 : decode cX2_part 27 = .ok (.iload_n 2, 1) := by decide +kernel
theorem dX2_part_28 : decode cX2_part 28 = .ok (.dup2, 1) := by decide +kernel
theorem dX2_part_29 : decode cX2_part 29 = .ok (.iaload, 1) := by decide +kernel
theorem dX2_part_30 : decode cX2_part 30 = .ok (.iconst 1, 1) := by decide +kernel
theorem dX2_part_31 : decode cX2_part 31 = .ok (.iload_n 1, 1) := by decide +kernel
theorem dX2_part_32 : decode cX2_part 32 = .ok (.ishl, 1) := by decide +kernel
theorem dX2_part_33 : decode cX2_part 33 = .ok (.iconst (-1), 1) := by decide +kernel
theorem dX2_part_34 : decode cX2_part 34 = .ok (.ixor, 1) := by decide +kernel
theorem dX2_part_35 : decode cX2_part 35 = .ok (.iand, 1) := by decide +kernel
theorem dX2_part_36 : decode cX2_part 36 = .ok (.iastore, 1) := by decide +kernel
theorem dX2_part_37 : decode cX2_part 37 = .ok (.return_, 1) := by decide +kernel
set_option maxRecDepth 20000 in
theorem ggX2_fullness_J6_bitCount_0f7a4 : GoodIn wsX2_fullness wsJ6_bitCount_0f7a4 := goodIn_r _ [5, 6, 7, 8] (by decide +kernel) (by decide +kernel)
set_option maxRecDepth 20000 in
theorem gX2_fullness_J6_bitCount_0f7a4 : GoodIn wsX2_fullness (va_wsS RX2 42 yJ6_bitCount_0f7a4 wsJ6_bitCount_0f7a4) := goodIn_app (goodIn_of _ (by decide +kernel)) ggX2_fullness_J6_bitCount_0f7a4
theorem dX2_fullness_0 : decode cX2_fullness 0 = .ok (.aload_n 0, 1) := by decide +kernel
theorem dX2_fullness_1 : decode cX2_fullness 1 = .ok (.getfield 9, 3) := by decide +kernel
theorem dX2_fullness_4 : decode cX2_fullness 4 = .ok (.iload_n 1, 1) := by decide +kernel
theorem dX2_fullness_5 : decode cX2_fullness 5 = .ok (.iaload, 1) := by decide +kernel
theorem dX2_fullness_6 : decode cX2_fullness 6 = .ok (.invokestatic 42, 3) := by decide +kernel
theorem dX2_fullness_9 : decode cX2_fullness 9 = .ok (.ireturn, 1) := by decide +kernel
set_option maxRecDepth 20000 in
theorem ggX2_roads_X2_fullness : GoodIn wsX2_roads wsX2_fullness := goodIn_r _ [6, 7, 8, 9, 10, 11, 12, 13, 14, 15, 16] (by decide +kernel) (by decide +kernel)
set_option maxRecDepth 20000 in
theorem gX2_roads_X2_fullness : GoodIn wsX2_roads (wsV RX2 48 RX2 yX2_fullness wsX2_fullness) := goodIn_app (goodIn_of _ (by decide +kernel)) ggX2_roads_X2_fullness
theorem dX2_roads_0 : decode cX2_roads 0 = .ok (.iconst 0, 1) := by decide +kernel
theorem dX2_roads_1 : decode cX2_roads 1 = .ok (.istore_n 1, 1) := by decide +kernel
theorem dX2_roads_2 : decode cX2_roads 2 = .ok (.iconst 0, 1) := by decide +kernel
theorem dX2_roads_3 : decode cX2_roads 3 = .ok (.istore_n 2, 1) := by decide +kernel
theorem dX2_roads_4 : decode cX2_roads 4 = .ok (.iload_n 2, 1) := by decide +kernel
theorem dX2_roads_5 : decode cX2_roads 5 = .ok (.aload_n 0, 1) := by decide +kernel
theorem dX2_roads_6 : decode cX2_roads 6 = .ok (.getfield 15, 3) := by decide +kernel
theorem dX2_roads_9 : decode cX2_roads 9 = .ok (.if_icmp .ge 17, 3) := by decide +kernel
theorem dX2_roads_12 : decode cX2_roads 12 = .ok (.iload_n 1, 1) := by decide +kernel
theorem dX2_roads_13 : decode cX2_roads 13 = .ok (.aload_n 0, 1) := by decide +kernel
theorem dX2_roads_14 : decode cX2_roads 14 = .ok (.iload_n 2, 1) := by decide +kernel
theorem dX2_roads_15 : decode cX2_roads 15 = .ok (.invokevirtual 48, 3) := by decide +kernel
theorem dX2_roads_18 : decode cX2_roads 18 = .ok (.iadd, 1) := by decide +kernel
theorem dX2_roads_19 : decode cX2_roads 19 = .ok (.istore_n 1, 1) := by decide +kernel
theorem dX2_roads_20 : decode cX2_roads 20 = .ok (.iinc 2 1, 3) := by decide +kernel
theorem dX2_roads_23 : decode cX2_roads 23 = .ok (.goto (-19), 3) := by decide +kernel
theorem dX2_roads_26 : decode cX2_roads 26 = .ok (.iload_n 1, 1) := by decide +kernel
theorem dX2_roads_27 : decode cX2_roads 27 = .ok (.iconst 2, 1) := by decide +kernel
theorem dX2_roads_28 : decode cX2_roads 28 = .ok (.idiv, 1) := by decide +kernel
theorem dX2_roads_29 : decode cX2_roads 29 = .ok (.ireturn, 1) := by decide +kernel
set_option maxRecDepth 20000 in
theorem ggX2_isEven_X2_fullness : GoodIn wsX2_isEven wsX2_fullness := goodIn_r _ [6, 7, 8, 9, 10, 11, 12, 13, 14, 15, 16] (by decide +kernel) (by decide +kernel)
set_option maxRecDepth 20000 in
theorem gX2_isEven_X2_fullness : GoodIn wsX2_isEven (wsV RX2 48 RX2 yX2_fullness wsX2_fullness) := goodIn_app (goodIn_of _ (by decide +kernel)) ggX2_isEven_X2_fullness
theorem dX2_isEven_0 : decode cX2_isEven 0 = .ok (.iconst 1, 1) := by decide +kernel
theorem dX2_isEven_1 : decode cX2_isEven 1 = .ok (.istore_n 1, 1) := by decide +kernel
theorem dX2_isEven_2 : decode cX2_isEven 2 = .ok (.iload_n 1, 1) := by decide +kernel
theorem dX2_isEven_3 : decode cX2_isEven 3 = .ok (.aload_n 0, 1) := by decide +kernel
theorem dX2_isEven_4 : decode cX2_isEven 4 = .ok (.getfield 15, 3) := by decide +kernel
theorem dX2_isEven_7 : decode cX2_isEven 7 = .ok (.if_icmp .ge 24, 3) := by decide +kernel
theorem dX2_isEven_10 : decode cX2_isEven 10 = .ok (.aload_n 0, 1) := by decide +kernel
theorem dX2_isEven_11 : decode cX2_isEven 11 = .ok (.iload_n 1, 1) := by decide +kernel
theorem dX2_isEven_12 : decode cX2_isEven 12 = .ok (.invokevirtual 48, 3) := by decide +kernel
theorem dX2_isEven_15 : decode cX2_isEven 15 = .ok (.aload_n 0, 1) := by decide +kernel
theorem dX2_isEven_16 : decode cX2_isEven 16 = .ok (.iconst 0, 1) := by decide +kernel
theorem dX2_isEven_17 : decode cX2_isEven 17 = .ok (.invokevirtual 48, 3) := by decide +kernel
theorem dX2_isEven_20 : decode cX2_isEven 20 = .ok (.if_icmp .eq 5, 3) := by decide +kernel
theorem dX2_isEven_23 : decode cX2_isEven 23 = .ok (.iconst 0, 1) := by decide +kernel
theorem dX2_isEven_24 : decode cX2_isEven 24 = .ok (.ireturn, 1) := by decide +kernel
theorem dX2_isEven_25 : decode cX2_isEven 25 = .ok (.iinc 1 1, 3) := by decide +kernel
theorem dX2_isEven_28 : decode cX2_isEven 28 = .ok (.goto (-26), 3) := by decide +kernel
theorem dX2_isEven_31 : decode cX2_isEven 31 = .ok (.iconst 1, 1) := by decide +kernel
theorem dX2_isEven_32 : decode cX2_isEven 32 = .ok (.ireturn, 1) := by decide +kernel
set_option maxRecDepth 20000 in
theorem ggX2_around_X8_isIn : GoodIn wsX2_around wsX8_isIn := goodIn_r _ [5] (by decide +kernel) (by decide +kernel)
set_option maxRecDepth 20000 in
theorem gX2_around_X8_isIn_n35 : GoodIn wsX2_around (wsX8_isIn) := ggX2_around_X8_isIn
theorem dX2_around_0 : decode cX2_around 0 = .ok (.iconst 0, 1) := by decide +kernel
theorem dX2_around_1 : decode cX2_around 1 = .ok (.istore_n 2, 1) := by decide +kernel
theorem dX2_around_2 : decode cX2_around 2 = .ok (.iconst 0, 1) := by decide +kernel
theorem dX2_around_3 : decode cX2_around 3 = .ok (.istore_n 3, 1) := by decide +kernel
theorem dX2_around_4 : decode cX2_around 4 = .ok (.iload_n 3, 1) := by decide +kernel
theorem dX2_around_5 : decode cX2_around 5 = .ok (.aload_n 0, 1) := by decide +kernel
theorem dX2_around_6 : decode cX2_around 6 = .ok (.getfield 15, 3) := by decide +kernel
theorem dX2_around_9 : decode cX2_around 9 = .ok (.if_icmp .ge 26, 3) := by decide +kernel
theorem dX2_around_12 : decode cX2_around 12 = .ok (.iload_n 1, 1) := by decide +kernel
theorem dX2_around_13 : decode cX2_around 13 = .ok (.iload_n 3, 1) := by decide +kernel
theorem dX2_around_14 : decode cX2_around 14 = .ok (.invokestatic 35, 3) := by decide +kernel
theorem dX2_around_17 : decode cX2_around 17 = .ok (.ifCond .eq 12, 3) := by decide +kernel
theorem dX2_around_20 : decode cX2_around 20 = .ok (.iload_n 2, 1) := by decide +kernel
theorem dX2_around_21 : decode cX2_around 21 = .ok (.aload_n 0, 1) := by decide +kernel
theorem dX2_around_22 : decode cX2_around 22 = .ok (.getfield 9, 3) := by decide +kernel
theorem dX2_around_25 : decode cX2_around 25 = .ok (.iload_n 3, 1) := by decide +kernel
theorem dX2_around_26 : decode cX2_around 26 = .ok (.iaload, 1) := by decide +kernel
theorem dX2_around_27 : decode cX2_around 27 = .ok (.ior, 1) := by decide +kernel
theorem dX2_around_28 : decode cX2_around 28 = .ok (.istore_n 2, 1) := by decide +kernel
theorem dX2_around_29 : decode cX2_around 29 = .ok (.iinc 3 1, 3) := by decide +kernel
theorem dX2_around_32 : decode cX2_around 32 = .ok (.goto (-28), 3) := by decide +kernel
theorem dX2_around_35 : decode cX2_around 35 = .ok (.iload_n 2, 1) := by decide +kernel
theorem dX2_around_36 : decode cX2_around 36 = .ok (.ireturn, 1) := by decide +kernel
theorem dX3_init_0 : decode cX3_init 0 = .ok (.aload_n 0, 1) := by decide +kernel
theorem dX3_init_1 : decode cX3_init 1 = .ok (.invokespecial 3, 3) := by decide +kernel
theorem dX3_init_4 : decode cX3_init 4 = .ok (.aload_n 0, 1) := by decide +kernel
theorem dX3_init_5 : decode cX3_init 5 = .ok (.sipush 1024, 3) := by decide +kernel
theorem dX3_init_8 : decode cX3_init 8 = .ok (.newarray .int, 2) := by decide +kernel
theorem dX3_init_10 : decode cX3_init 10 = .ok (.putfield 9, 3) := by decide +kernel
theorem dX3_init_13 : decode cX3_init 13 = .ok (.aload_n 0, 1) := by decide +kernel
theorem dX3_init_14 : decode cX3_init 14 = .ok (.sipush 1024, 3) := by decide +kernel
theorem dX3_init_17 : decode cX3_init 17 = .ok (.newarray .int, 2) := by decide +kernel
theorem dX3_init_19 : decode cX3_init 19 = .ok (.putfield 15, 3) := by decide +kernel
theorem dX3_init_22 : decode cX3_init 22 = .ok (.aload_n 0, 1) := by decide +kernel
theorem dX3_init_23 : decode cX3_init 23 = .ok (.sipush 1024, 3) := by decide +kernel
theorem dX3_init_26 : decode cX3_init 26 = .ok (.newarray .int, 2) := by decide +kernel
theorem dX3_init_28 : decode cX3_init 28 = .ok (.putfield 18, 3) := by decide +kernel
theorem dX3_init_31 : decode cX3_init 31 = .ok (.aload_n 0, 1) := by decide +kernel
theorem dX3_init_32 : decode cX3_init 32 = .ok (.sipush 1024, 3) := by decide +kernel
theorem dX3_init_35 : decode cX3_init 35 = .ok (.newarray .int, 2) := by decide +kernel
theorem dX3_init_37 : decode cX3_init 37 = .ok (.putfield 21, 3) := by decide +kernel
theorem dX3_init_40 : decode cX3_init 40 = .ok (.aload_n 0, 1) := by decide +kernel
theorem dX3_init_41 : decode cX3_init 41 = .ok (.sipush 1024, 3) := by decide +kernel
theorem dX3_init_44 : decode cX3_init 44 = .ok (.newarray .int, 2) := by decide +kernel
theorem dX3_init_46 : decode cX3_init 46 = .ok (.putfield 24, 3) := by decide +kernel
theorem dX3_init_49 : decode cX3_init 49 = .ok (.aload_n 0, 1) := by decide +kernel
theorem dX3_init_50 : decode cX3_init 50 = .ok (.sipush 1024, 3) := by decide +kernel
theorem dX3_init_53 : decode cX3_init 53 = .ok (.newarray .long, 2) := by decide +kernel
theorem dX3_init_55 : decode cX3_init 55 = .ok (.putfield 27, 3) := by decide +kernel
theorem dX3_init_58 : decode cX3_init 58 = .ok (.aload_n 0, 1) := by decide +kernel
theorem dX3_init_59 : decode cX3_init 59 = .ok (.bipush 32, 2) := by decide +kernel
theorem dX3_init_61 : decode cX3_init 61 = .ok (.newarray .int, 2) := by decide +kernel
theorem dX3_init_63 : decode cX3_init 63 = .ok (.putfield 31, 3) := by decide +kernel
theorem dX3_init_66 : decode cX3_init 66 = .ok (.aload_n 0, 1) := by decide +kernel
theorem dX3_init_67 : decode cX3_init 67 = .ok (.bipush 32, 2) := by decide +kernel
theorem dX3_init_69 : decode cX3_init 69 = .ok (.newarray .int, 2) := by decide +kernel
theorem dX3_init_71 : decode cX3_init 71 = .ok (.putfield 34, 3) := by decide +kernel
theorem dX3_init_74 : decode cX3_init 74 = .ok (.return_, 1) := by decide +kernel
theorem dX3_of_0 : decode cX3_of 0 = .ok (.aload_n 0, 1) := by decide +kernel
theorem dX3_of_1 : decode cX3_of 1 = .ok (.getfield 9, 3) := by decide +kernel
theorem dX3_of_4 : decode cX3_of 4 = .ok (.iload_n 1, 1) := by decide +kernel
theorem dX3_of_5 : decode cX3_of 5 = .ok (.bipush 32, 2) := by decide +kernel
theorem dX3_of_7 : decode cX3_of 7 = .ok (.imul, 1) := by decide +kernel
theorem dX3_of_8 : decode cX3_of 8 = .ok (.iload_n 2, 1) := by decide +kernel
theorem dX3_of_9 : decode cX3_of 9 = .ok (.iadd, 1) := by decide +kernel
theorem dX3_of_10 : decode cX3_of 10 = .ok (.iaload, 1) := by decide +kernel
theorem dX3_of_11 : decode cX3_of 11 = .ok (.ireturn, 1) := by decide +kernel
set_option maxRecDepth 20000 in
theorem ggX3_tellApart_X3_begin : GoodIn wsX3_tellApart wsX3_begin := goodIn_r _ [9, 4, 3, 10, 11, 12, 13, 14, 15, 16, 17, 18, 19, 20, 21, 22, 23, 24, 72, 73, 74, 75, 76, 77, 78, 79, 80, 81, 82, 83, 84] (by decide +kernel) (by decide +kernel)
set_option maxRecDepth 20000 in
theorem gX3_tellApart_X3_begin : GoodIn wsX3_tellApart (wsV RX3 48 RX3 yX3_begin wsX3_begin) := goodIn_app (goodIn_of _ (by decide +kernel)) ggX3_tellApart_X3_begin
set_option maxRecDepth 20000 in
theorem ggX3_tellApart_X3_refine : GoodIn wsX3_tellApart wsX3_refine := goodIn_r _ [28, 29, 4, 3, 30, 10, 31, 32, 33, 34, 35, 36, 37, 38, 39, 40, 41, 8, 42, 43, 44, 45, 46, 47, 48, 49, 50, 51, 52, 53, 54, 55, 56, 57, 58, 59, 60, 61, 62, 63, 64, 65, 66, 67, 68, 69, 70, 71, 72, 73, 74, 75, 76, 77, 78, 79, 80, 81, 82] (by decide +kernel) (by decide +kernel)
set_option maxRecDepth 20000 in
theorem gX3_tellApart_X3_refine : GoodIn wsX3_tellApart (wsV RX3 55 RX3 yX3_refine wsX3_refine) := goodIn_app (goodIn_of _ (by decide +kernel)) ggX3_tellApart_X3_refine
theorem dX3_tellApart_0 : decode cX3_tellApart 0 = .ok (.aload_n 0, 1) := by decide +kernel
theorem dX3_tellApart_1 : decode cX3_tellApart 1 = .ok (.getfield 37, 3) := by decide +kernel
theorem dX3_tellApart_4 : decode cX3_tellApart 4 = .ok (.ifCond .eq 4, 3) := by decide +kernel
theorem dX3_tellApart_7 : decode cX3_tellApart 7 = .ok (.return_, 1) := by decide +kernel
theorem dX3_tellApart_8 : decode cX3_tellApart 8 = .ok (.aload_n 0, 1) := by decide +kernel
theorem dX3_tellApart_9 : decode cX3_tellApart 9 = .ok (.aload_n 1, 1) := by decide +kernel
theorem dX3_tellApart_10 : decode cX3_tellApart 10 = .ok (.getfield 41, 3) := by decide +kernel
theorem dX3_tellApart_13 : decode cX3_tellApart 13 = .ok (.putfield 47, 3) := by decide +kernel
theorem dX3_tellApart_16 : decode cX3_tellApart 16 = .ok (.aload_n 0, 1) := by decide +kernel
theorem dX3_tellApart_17 : decode cX3_tellApart 17 = .ok (.aload_n 1, 1) := by decide +kernel
theorem dX3_tellApart_18 : decode cX3_tellApart 18 = .ok (.invokevirtual 48, 3) := by decide +kernel
theorem dX3_tellApart_21 : decode cX3_tellApart 21 = .ok (.iconst 1, 1) := by decide +kernel
theorem dX3_tellApart_22 : decode cX3_tellApart 22 = .ok (.istore_n 2, 1) := by decide +kernel
theorem dX3_tellApart_23 : decode cX3_tellApart 23 = .ok (.iconst 0, 1) := by decide +kernel
theorem dX3_tellApart_24 : decode cX3_tellApart 24 = .ok (.istore_n 3, 1) := by decide +kernel
theorem dX3_tellApart_25 : decode cX3_tellApart 25 = .ok (.iload_n 3, 1) := by decide +kernel
theorem dX3_tellApart_26 : decode cX3_tellApart 26 = .ok (.sipush 1024, 3) := by decide +kernel
theorem dX3_tellApart_29 : decode cX3_tellApart 29 = .ok (.if_icmp .gt 53, 3) := by decide +kernel
theorem dX3_tellApart_32 : decode cX3_tellApart 32 = .ok (.iload_n 2, 1) := by decide +kernel
theorem dX3_tellApart_33 : decode cX3_tellApart 33 = .ok (.ifCond .eq 49, 3) := by decide +kernel
theorem dX3_tellApart_36 : decode cX3_tellApart 36 = .ok (.aload_n 0, 1) := by decide +kernel
theorem dX3_tellApart_37 : decode cX3_tellApart 37 = .ok (.getfield 52, 3) := by decide +kernel
theorem dX3_tellApart_40 : decode cX3_tellApart 40 = .ok (.istore 4, 2) := by decide +kernel
theorem dX3_tellApart_42 : decode cX3_tellApart 42 = .ok (.aload_n 0, 1) := by decide +kernel
theorem dX3_tellApart_43 : decode cX3_tellApart 43 = .ok (.iconst 0, 1) := by decide +kernel
theorem dX3_tellApart_44 : decode cX3_tellApart 44 = .ok (.invokevirtual 55, 3) := by decide +kernel
theorem dX3_tellApart_47 : decode cX3_tellApart 47 = .ok (.aload_n 0, 1) := by decide +kernel
theorem dX3_tellApart_48 : decode cX3_tellApart 48 = .ok (.getfield 52, 3) := by decide +kernel
theorem dX3_tellApart_51 : decode cX3_tellApart 51 = .ok (.iload 4, 2) := by decide +kernel
theorem dX3_tellApart_53 : decode cX3_tellApart 53 = .ok (.if_icmp .ne 8, 3) := by decide +kernel
theorem dX3_tellApart_56 : decode cX3_tellApart 56 = .ok (.aload_n 0, 1) := by decide +kernel
theorem dX3_tellApart_57 : decode cX3_tellApart 57 = .ok (.iconst 1, 1) := by decide +kernel
theorem dX3_tellApart_58 : decode cX3_tellApart 58 = .ok (.invokevirtual 55, 3) := by decide +kernel
theorem dX3_tellApart_61 : decode cX3_tellApart 61 = .ok (.aload_n 0, 1) := by decide +kernel
theorem dX3_tellApart_62 : decode cX3_tellApart 62 = .ok (.getfield 52, 3) := by decide +kernel
theorem dX3_tellApart_65 : decode cX3_tellApart 65 = .ok (.iload 4, 2) := by decide +kernel
theorem dX3_tellApart_67 : decode cX3_tellApart 67 = .ok (.if_icmp .le 7, 3) := by decide +kernel
theorem dX3_tellApart_70 : decode cX3_tellApart 70 = .ok (.iconst 1, 1) := by decide +kernel
theorem dX3_tellApart_71 : decode cX3_tellApart 71 = .ok (.goto 4, 3) := by decide +kernel
theorem dX3_tellApart_74 : decode cX3_tellApart 74 = .ok (.iconst 0, 1) := by decide +kernel
theorem dX3_tellApart_75 : decode cX3_tellApart 75 = .ok (.istore_n 2, 1) := by decide +kernel
theorem dX3_tellApart_76 : decode cX3_tellApart 76 = .ok (.iinc 3 1, 3) := by decide +kernel
theorem dX3_tellApart_79 : decode cX3_tellApart 79 = .ok (.goto (-54), 3) := by decide +kernel
theorem dX3_tellApart_82 : decode cX3_tellApart 82 = .ok (.aload_n 0, 1) := by decide +kernel
theorem dX3_tellApart_83 : decode cX3_tellApart 83 = .ok (.iconst 1, 1) := by decide +kernel
theorem dX3_tellApart_84 : decode cX3_tellApart 84 = .ok (.putfield 37, 3) := by decide +kernel
theorem dX3_tellApart_87 : decode cX3_tellApart 87 = .ok (.return_, 1) := by decide +kernel
set_option maxRecDepth 20000 in
theorem ggX3_begin_X2_areJoined : GoodIn wsX3_begin wsX2_areJoined := goodIn_r _ [8, 9, 10, 11, 12, 7, 13, 14, 15, 16, 17, 29, 30] (by decide +kernel) (by decide +kernel)
set_option maxRecDepth 20000 in
theorem gX3_begin_X2_areJoined : GoodIn wsX3_begin (wsV RX3 59 RX2 yX2_areJoined wsX2_areJoined) := goodIn_app (goodIn_of _ (by decide +kernel)) ggX3_begin_X2_areJoined
theorem dX3_begin_0 : decode cX3_begin 0 = .ok (.iconst (-1), 1) := by decide +kernel
theorem dX3_begin_1 : decode cX3_begin 1 = .ok (.istore_n 2, 1) := by decide +kernel
theorem dX3_begin_2 : decode cX3_begin 2 = .ok (.iconst (-1), 1) := by decide +kernel
theorem dX3_begin_3 : decode cX3_begin 3 = .ok (.istore_n 3, 1) := by decide +kernel
theorem dX3_begin_4 : decode cX3_begin 4 = .ok (.iconst (-1), 1) := by decide +kernel
theorem dX3_begin_5 : decode cX3_begin 5 = .ok (.istore 4, 2) := by decide +kernel
theorem dX3_begin_7 : decode cX3_begin 7 = .ok (.aload_n 0, 1) := by decide +kernel
theorem dX3_begin_8 : decode cX3_begin 8 = .ok (.iconst 0, 1) := by decide +kernel
theorem dX3_begin_9 : decode cX3_begin 9 = .ok (.putfield 52, 3) := by decide +kernel
theorem dX3_begin_12 : decode cX3_begin 12 = .ok (.iconst 0, 1) := by decide +kernel
theorem dX3_begin_13 : decode cX3_begin 13 = .ok (.istore 5, 2) := by decide +kernel
theorem dX3_begin_15 : decode cX3_begin 15 = .ok (.iload 5, 2) := by decide +kernel
theorem dX3_begin_17 : decode cX3_begin 17 = .ok (.aload_n 0, 1) := by decide +kernel
theorem dX3_begin_18 : decode cX3_begin 18 = .ok (.getfield 47, 3) := by decide +kernel
theorem dX3_begin_21 : decode cX3_begin 21 = .ok (.if_icmp .ge 149, 3) := by decide +kernel
theorem dX3_begin_24 : decode cX3_begin 24 = .ok (.iconst 0, 1) := by decide +kernel
theorem dX3_begin_25 : decode cX3_begin 25 = .ok (.istore 6, 2) := by decide +kernel
theorem dX3_begin_27 : decode cX3_begin 27 = .ok (.iload 6, 2) := by decide +kernel
theorem dX3_begin_29 : decode cX3_begin 29 = .ok (.aload_n 0, 1) := by decide +kernel
theorem dX3_begin_30 : decode cX3_begin 30 = .ok (.getfield 47, 3) := by decide +kernel
theorem dX3_begin_33 : decode cX3_begin 33 = .ok (.if_icmp .ge 131, 3) := by decide +kernel
theorem dX3_begin_36 : decode cX3_begin 36 = .ok (.iload 5, 2) := by decide +kernel
theorem dX3_begin_38 : decode cX3_begin 38 = .ok (.bipush 32, 2) := by decide +kernel
theorem dX3_begin_40 : decode cX3_begin 40 = .ok (.imul, 1) := by decide +kernel
theorem dX3_begin_41 : decode cX3_begin 41 = .ok (.iload 6, 2) := by decide +kernel
theorem dX3_begin_43 : decode cX3_begin 43 = .ok (.iadd, 1) := by decide +kernel
theorem dX3_begin_44 : decode cX3_begin 44 = .ok (.istore 7, 2) := by decide +kernel
theorem dX3_begin_46 : decode cX3_begin 46 = .ok (.iload 5, 2) := by decide +kernel
theorem dX3_begin_48 : decode cX3_begin 48 = .ok (.iload 6, 2) := by decide +kernel
theorem dX3_begin_50 : decode cX3_begin 50 = .ok (.if_icmp .ne 34, 3) := by decide +kernel
theorem dX3_begin_53 : decode cX3_begin 53 = .ok (.iload_n 2, 1) := by decide +kernel
theorem dX3_begin_54 : decode cX3_begin 54 = .ok (.ifCond .ge 17, 3) := by decide +kernel
theorem dX3_begin_57 : decode cX3_begin 57 = .ok (.aload_n 0, 1) := by decide +kernel
theorem dX3_begin_58 : decode cX3_begin 58 = .ok (.dup, 1) := by decide +kernel
theorem dX3_begin_59 : decode cX3_begin 59 = .ok (.getfield 52, 3) := by decide +kernel
theorem dX3_begin_62 : decode cX3_begin 62 = .ok (.dup_x1, 1) := by decide +kernel
theorem dX3_begin_63 : decode cX3_begin 63 = .ok (.iconst 1, 1) := by decide +kernel
theorem dX3_begin_64 : decode cX3_begin 64 = .ok (.iadd, 1) := by decide +kernel
theorem dX3_begin_65 : decode cX3_begin 65 = .ok (.putfield 52, 3) := by decide +kernel
theorem dX3_begin_68 : decode cX3_begin 68 = .ok (.goto 4, 3) := by decide +kernel
theorem dX3_begin_71 : decode cX3_begin 71 = .ok (.iload_n 2, 1) := by decide +kernel
theorem dX3_begin_72 : decode cX3_begin 72 = .ok (.istore_n 2, 1) := by decide +kernel
theorem dX3_begin_73 : decode cX3_begin 73 = .ok (.aload_n 0, 1) := by decide +kernel
theorem dX3_begin_74 : decode cX3_begin 74 = .ok (.getfield 9, 3) := by decide +kernel
theorem dX3_begin_77 : decode cX3_begin 77 = .ok (.iload 7, 2) := by decide +kernel
theorem dX3_begin_79 : decode cX3_begin 79 = .ok (.iload_n 2, 1) := by decide +kernel
theorem dX3_begin_80 : decode cX3_begin 80 = .ok (.iastore, 1) := by decide +kernel
theorem dX3_begin_81 : decode cX3_begin 81 = .ok (.goto 77, 3) := by decide +kernel
theorem dX3_begin_84 : decode cX3_begin 84 = .ok (.aload_n 1, 1) := by decide +kernel
theorem dX3_begin_85 : decode cX3_begin 85 = .ok (.iload 5, 2) := by decide +kernel
theorem dX3_begin_87 : decode cX3_begin 87 = .ok (.iload 6, 2) := by decide +kernel
theorem dX3_begin_89 : decode cX3_begin 89 = .ok (.invokevirtual 59, 3) := by decide +kernel
theorem dX3_begin_92 : decode cX3_begin 92 = .ok (.ifCond .eq 34, 3) := by decide +kernel
theorem dX3_begin_95 : decode cX3_begin 95 = .ok (.iload_n 3, 1) := by decide +kernel
theorem dX3_begin_96 : decode cX3_begin 96 = .ok (.ifCond .ge 17, 3) := by decide +kernel
theorem dX3_begin_99 : decode cX3_begin 99 = .ok (.aload_n 0, 1) := by decide +kernel
theorem dX3_begin_100 : decode cX3_begin 100 = .ok (.dup, 1) := by decide +kernel
theorem dX3_begin_101 : decode cX3_begin 101 = .ok (.getfield 52, 3) := by decide +kernel
theorem dX3_begin_104 : decode cX3_begin 104 = .ok (.dup_x1, 1) := by decide +kernel
theorem dX3_begin_105 : decode cX3_begin 105 = .ok (.iconst 1, 1) := by decide +kernel
theorem dX3_begin_106 : decode cX3_begin 106 = .ok (.iadd, 1) := by decide +kernel
theorem dX3_begin_107 : decode cX3_begin 107 = .ok (.putfield 52, 3) := by decide +kernel
theorem dX3_begin_110 : decode cX3_begin 110 = .ok (.goto 4, 3) := by decide +kernel
theorem dX3_begin_113 : decode cX3_begin 113 = .ok (.iload_n 3, 1) := by decide +kernel
theorem dX3_begin_114 : decode cX3_begin 114 = .ok (.istore_n 3, 1) := by decide +kernel
theorem dX3_begin_115 : decode cX3_begin 115 = .ok (.aload_n 0, 1) := by decide +kernel
theorem dX3_begin_116 : decode cX3_begin 116 = .ok (.getfield 9, 3) := by decide +kernel
theorem dX3_begin_119 : decode cX3_begin 119 = .ok (.iload 7, 2) := by decide +kernel
theorem dX3_begin_121 : decode cX3_begin 121 = .ok (.iload_n 3, 1) := by decide +kernel
theorem dX3_begin_122 : decode cX3_begin 122 = .ok (.iastore, 1) := by decide +kernel
theorem dX3_begin_123 : decode cX3_begin 123 = .ok (.goto 35, 3) := by decide +kernel
theorem dX3_begin_126 : decode cX3_begin 126 = .ok (.iload 4, 2) := by decide +kernel
theorem dX3_begin_128 : decode cX3_begin 128 = .ok (.ifCond .ge 17, 3) := by decide +kernel
theorem dX3_begin_131 : decode cX3_begin 131 = .ok (.aload_n 0, 1) := by decide +kernel
theorem dX3_begin_132 : decode cX3_begin 132 = .ok (.dup, 1) := by decide +kernel
theorem dX3_begin_133 : decode cX3_begin 133 = .ok (.getfield 52, 3) := by decide +kernel
theorem dX3_begin_136 : decode cX3_begin 136 = .ok (.dup_x1, 1) := by decide +kernel
theorem dX3_begin_137 : decode cX3_begin 137 = .ok (.iconst 1, 1) := by decide +kernel
theorem dX3_begin_138 : decode cX3_begin 138 = .ok (.iadd, 1) := by decide +kernel
theorem dX3_begin_139 : decode cX3_begin 139 = .ok (.putfield 52, 3) := by decide +kernel
theorem dX3_begin_142 : decode cX3_begin 142 = .ok (.goto 5, 3) := by decide +kernel
theorem dX3_begin_145 : decode cX3_begin 145 = .ok (.iload 4, 2) := by decide +kernel
theorem dX3_begin_147 : decode cX3_begin 147 = .ok (.istore 4, 2) := by decide +kernel
theorem dX3_begin_149 : decode cX3_begin 149 = .ok (.aload_n 0, 1) := by decide +kernel
theorem dX3_begin_150 : decode cX3_begin 150 = .ok (.getfield 9, 3) := by decide +kernel
theorem dX3_begin_153 : decode cX3_begin 153 = .ok (.iload 7, 2) := by decide +kernel
theorem dX3_begin_155 : decode cX3_begin 155 = .ok (.iload 4, 2) := by decide +kernel
theorem dX3_begin_157 : decode cX3_begin 157 = .ok (.iastore, 1) := by decide +kernel
theorem dX3_begin_158 : decode cX3_begin 158 = .ok (.iinc 6 1, 3) := by decide +kernel
theorem dX3_begin_161 : decode cX3_begin 161 = .ok (.goto (-134), 3) := by decide +kernel
theorem dX3_begin_164 : decode cX3_begin 164 = .ok (.iinc 5 1, 3) := by decide +kernel
theorem dX3_begin_167 : decode cX3_begin 167 = .ok (.goto (-152), 3) := by decide +kernel
theorem dX3_begin_170 : decode cX3_begin 170 = .ok (.return_, 1) := by decide +kernel
set_option maxRecDepth 20000 in
theorem ggX3_refine_J7_fill_53178 : GoodIn wsX3_refine wsJ7_fill_53178 := goodIn_r _ [13] (by decide +kernel) (by decide +kernel)
set_option maxRecDepth 20000 in
theorem gX3_refine_J7_fill_53178 : GoodIn wsX3_refine (va_wsS RX3 63 yJ7_fill_53178 wsJ7_fill_53178) := goodIn_app (goodIn_of _ (by decide +kernel)) ggX3_refine_J7_fill_53178
set_option maxRecDepth 20000 in
theorem ggX3_refine_X3_sumOf : GoodIn wsX3_refine wsX3_sumOf := goodIn_r _ [18, 3, 19, 20, 21, 17, 22, 5, 23, 24, 25, 26, 48, 49, 50, 51, 52, 53, 54, 55, 56, 57, 58] (by decide +kernel) (by decide +kernel)
set_option maxRecDepth 20000 in
theorem gX3_refine_X3_sumOf : GoodIn wsX3_refine (wsV RX3 69 RX3 yX3_sumOf wsX3_sumOf) := goodIn_app (goodIn_of _ (by decide +kernel)) ggX3_refine_X3_sumOf
set_option maxRecDepth 20000 in
theorem ggX3_refine_X3_match : GoodIn wsX3_refine wsX3_match := goodIn_r _ [30, 1, 5, 31, 32, 33, 34, 35, 36, 17, 37, 38, 39, 3, 40, 41, 42, 43, 19, 20, 21, 22, 48, 49, 50, 51, 52, 53, 54, 55, 56, 57, 58] (by decide +kernel) (by decide +kernel)
set_option maxRecDepth 20000 in
theorem gX3_refine_X3_match : GoodIn wsX3_refine (wsV RX3 73 RX3 yX3_match wsX3_match) := goodIn_app (goodIn_of _ (by decide +kernel)) ggX3_refine_X3_match
set_option maxRecDepth 20000 in
theorem ggX3_refine_X3_open : GoodIn wsX3_refine wsX3_open := goodIn_r _ [47, 2, 32, 31, 33, 1, 5, 48, 49, 50, 51, 52, 53, 54, 55, 56, 57, 58] (by decide +kernel) (by decide +kernel)
set_option maxRecDepth 20000 in
theorem gX3_refine_X3_open : GoodIn wsX3_refine (wsV RX3 77 RX3 yX3_open wsX3_open) := goodIn_app (goodIn_of _ (by decide +kernel)) ggX3_refine_X3_open
theorem dX3_refine_0 : decode cX3_refine 0 = .ok (.aload_n 0, 1) := by decide +kernel
theorem dX3_refine_1 : decode cX3_refine 1 = .ok (.getfield 21, 3) := by decide +kernel
theorem dX3_refine_4 : decode cX3_refine 4 = .ok (.iconst (-1), 1) := by decide +kernel
theorem dX3_refine_5 : decode cX3_refine 5 = .ok (.invokestatic 63, 3) := by decide +kernel
theorem dX3_refine_8 : decode cX3_refine 8 = .ok (.aload_n 0, 1) := by decide +kernel
theorem dX3_refine_9 : decode cX3_refine 9 = .ok (.iconst 0, 1) := by decide +kernel
theorem dX3_refine_10 : decode cX3_refine 10 = .ok (.putfield 52, 3) := by decide +kernel
theorem dX3_refine_13 : decode cX3_refine 13 = .ok (.iconst 0, 1) := by decide +kernel
theorem dX3_refine_14 : decode cX3_refine 14 = .ok (.istore_n 2, 1) := by decide +kernel
theorem dX3_refine_15 : decode cX3_refine 15 = .ok (.iload_n 2, 1) := by decide +kernel
theorem dX3_refine_16 : decode cX3_refine 16 = .ok (.aload_n 0, 1) := by decide +kernel
theorem dX3_refine_17 : decode cX3_refine 17 = .ok (.getfield 47, 3) := by decide +kernel
theorem dX3_refine_20 : decode cX3_refine 20 = .ok (.if_icmp .ge 77, 3) := by decide +kernel
theorem dX3_refine_23 : decode cX3_refine 23 = .ok (.iconst 0, 1) := by decide +kernel
theorem dX3_refine_24 : decode cX3_refine 24 = .ok (.istore_n 3, 1) := by decide +kernel
theorem dX3_refine_25 : decode cX3_refine 25 = .ok (.iload_n 3, 1) := by decide +kernel
theorem dX3_refine_26 : decode cX3_refine 26 = .ok (.aload_n 0, 1) := by decide +kernel
theorem dX3_refine_27 : decode cX3_refine 27 = .ok (.getfield 47, 3) := by decide +kernel
theorem dX3_refine_30 : decode cX3_refine 30 = .ok (.if_icmp .ge 61, 3) := by decide +kernel
theorem dX3_refine_33 : decode cX3_refine 33 = .ok (.iload_n 2, 1) := by decide +kernel
theorem dX3_refine_34 : decode cX3_refine 34 = .ok (.bipush 32, 2) := by decide +kernel
theorem dX3_refine_36 : decode cX3_refine 36 = .ok (.imul, 1) := by decide +kernel
theorem dX3_refine_37 : decode cX3_refine 37 = .ok (.iload_n 3, 1) := by decide +kernel
theorem dX3_refine_38 : decode cX3_refine 38 = .ok (.iadd, 1) := by decide +kernel
theorem dX3_refine_39 : decode cX3_refine 39 = .ok (.istore 4, 2) := by decide +kernel
theorem dX3_refine_41 : decode cX3_refine 41 = .ok (.aload_n 0, 1) := by decide +kernel
theorem dX3_refine_42 : decode cX3_refine 42 = .ok (.iload_n 2, 1) := by decide +kernel
theorem dX3_refine_43 : decode cX3_refine 43 = .ok (.iload_n 3, 1) := by decide +kernel
theorem dX3_refine_44 : decode cX3_refine 44 = .ok (.invokevirtual 69, 3) := by decide +kernel
theorem dX3_refine_47 : decode cX3_refine 47 = .ok (.lstore 5, 2) := by decide +kernel
theorem dX3_refine_49 : decode cX3_refine 49 = .ok (.aload_n 0, 1) := by decide +kernel
theorem dX3_refine_50 : decode cX3_refine 50 = .ok (.iload 4, 2) := by decide +kernel
theorem dX3_refine_52 : decode cX3_refine 52 = .ok (.lload 5, 2) := by decide +kernel
theorem dX3_refine_54 : decode cX3_refine 54 = .ok (.iload_n 1, 1) := by decide +kernel
theorem dX3_refine_55 : decode cX3_refine 55 = .ok (.invokevirtual 73, 3) := by decide +kernel
theorem dX3_refine_58 : decode cX3_refine 58 = .ok (.istore 7, 2) := by decide +kernel
theorem dX3_refine_60 : decode cX3_refine 60 = .ok (.aload_n 0, 1) := by decide +kernel
theorem dX3_refine_61 : decode cX3_refine 61 = .ok (.getfield 15, 3) := by decide +kernel
theorem dX3_refine_64 : decode cX3_refine 64 = .ok (.iload 4, 2) := by decide +kernel
theorem dX3_refine_66 : decode cX3_refine 66 = .ok (.iload 7, 2) := by decide +kernel
theorem dX3_refine_68 : decode cX3_refine 68 = .ok (.ifCond .ge 14, 3) := by decide +kernel
theorem dX3_refine_71 : decode cX3_refine 71 = .ok (.aload_n 0, 1) := by decide +kernel
theorem dX3_refine_72 : decode cX3_refine 72 = .ok (.iload 4, 2) := by decide +kernel
theorem dX3_refine_74 : decode cX3_refine 74 = .ok (.lload 5, 2) := by decide +kernel
theorem dX3_refine_76 : decode cX3_refine 76 = .ok (.invokevirtual 77, 3) := by decide +kernel
theorem dX3_refine_79 : decode cX3_refine 79 = .ok (.goto 5, 3) := by decide +kernel
theorem dX3_refine_82 : decode cX3_refine 82 = .ok (.iload 7, 2) := by decide +kernel
theorem dX3_refine_84 : decode cX3_refine 84 = .ok (.iastore, 1) := by decide +kernel
theorem dX3_refine_85 : decode cX3_refine 85 = .ok (.iinc 3 1, 3) := by decide +kernel
theorem dX3_refine_88 : decode cX3_refine 88 = .ok (.goto (-63), 3) := by decide +kernel
theorem dX3_refine_91 : decode cX3_refine 91 = .ok (.iinc 2 1, 3) := by decide +kernel
theorem dX3_refine_94 : decode cX3_refine 94 = .ok (.goto (-79), 3) := by decide +kernel
theorem dX3_refine_97 : decode cX3_refine 97 = .ok (.aload_n 0, 1) := by decide +kernel
theorem dX3_refine_98 : decode cX3_refine 98 = .ok (.getfield 15, 3) := by decide +kernel
theorem dX3_refine_101 : decode cX3_refine 101 = .ok (.iconst 0, 1) := by decide +kernel
theorem dX3_refine_102 : decode cX3_refine 102 = .ok (.aload_n 0, 1) := by decide +kernel
theorem dX3_refine_103 : decode cX3_refine 103 = .ok (.getfield 9, 3) := by decide +kernel
theorem dX3_refine_106 : decode cX3_refine 106 = .ok (.iconst 0, 1) := by decide +kernel
theorem dX3_refine_107 : decode cX3_refine 107 = .ok (.sipush 1024, 3) := by decide +kernel
theorem dX3_refine_110 : decode cX3_refine 110 = .ok (.invokestatic 81, 3) := by decide +kernel
theorem dX3_refine_113 : decode cX3_refine 113 = .ok (.return_, 1) := by decide +kernel
set_option maxRecDepth 20000 in
theorem ggX3_match_X3_isAlike : GoodIn wsX3_match wsX3_isAlike := goodIn_r _ [10, 11, 12, 13, 14, 15, 16, 9, 17, 18, 19, 20, 21, 2, 22, 23, 24, 25, 26, 27, 28, 29, 30, 31, 32] (by decide +kernel) (by decide +kernel)
set_option maxRecDepth 20000 in
theorem gX3_match_X3_isAlike : GoodIn wsX3_match (wsV RX3 87 RX3 yX3_isAlike wsX3_isAlike) := goodIn_app (goodIn_of _ (by decide +kernel)) ggX3_match_X3_isAlike
theorem dX3_match_0 : decode cX3_match 0 = .ok (.aload_n 0, 1) := by decide +kernel
theorem dX3_match_1 : decode cX3_match 1 = .ok (.getfield 21, 3) := by decide +kernel
theorem dX3_match_4 : decode cX3_match 4 = .ok (.aload_n 0, 1) := by decide +kernel
theorem dX3_match_5 : decode cX3_match 5 = .ok (.getfield 9, 3) := by decide +kernel
theorem dX3_match_8 : decode cX3_match 8 = .ok (.iload_n 1, 1) := by decide +kernel
theorem dX3_match_9 : decode cX3_match 9 = .ok (.iaload, 1) := by decide +kernel
theorem dX3_match_10 : decode cX3_match 10 = .ok (.iaload, 1) := by decide +kernel
theorem dX3_match_11 : decode cX3_match 11 = .ok (.istore 5, 2) := by decide +kernel
theorem dX3_match_13 : decode cX3_match 13 = .ok (.iconst 0, 1) := by decide +kernel
theorem dX3_match_14 : decode cX3_match 14 = .ok (.istore 6, 2) := by decide +kernel
theorem dX3_match_16 : decode cX3_match 16 = .ok (.iload 6, 2) := by decide +kernel
theorem dX3_match_18 : decode cX3_match 18 = .ok (.sipush 1024, 3) := by decide +kernel
theorem dX3_match_21 : decode cX3_match 21 = .ok (.if_icmp .ge 58, 3) := by decide +kernel
theorem dX3_match_24 : decode cX3_match 24 = .ok (.iload 5, 2) := by decide +kernel
theorem dX3_match_26 : decode cX3_match 26 = .ok (.ifCond .lt 53, 3) := by decide +kernel
theorem dX3_match_29 : decode cX3_match 29 = .ok (.aload_n 0, 1) := by decide +kernel
theorem dX3_match_30 : decode cX3_match 30 = .ok (.getfield 27, 3) := by decide +kernel
theorem dX3_match_33 : decode cX3_match 33 = .ok (.iload 5, 2) := by decide +kernel
theorem dX3_match_35 : decode cX3_match 35 = .ok (.laload, 1) := by decide +kernel
theorem dX3_match_36 : decode cX3_match 36 = .ok (.lload_n 2, 1) := by decide +kernel
theorem dX3_match_37 : decode cX3_match 37 = .ok (.lcmp, 1) := by decide +kernel
theorem dX3_match_38 : decode cX3_match 38 = .ok (.ifCond .ne 26, 3) := by decide +kernel
theorem dX3_match_41 : decode cX3_match 41 = .ok (.iload 4, 2) := by decide +kernel
theorem dX3_match_43 : decode cX3_match 43 = .ok (.ifCond .eq 18, 3) := by decide +kernel
theorem dX3_match_46 : decode cX3_match 46 = .ok (.aload_n 0, 1) := by decide +kernel
theorem dX3_match_47 : decode cX3_match 47 = .ok (.iload_n 1, 1) := by decide +kernel
theorem dX3_match_48 : decode cX3_match 48 = .ok (.aload_n 0, 1) := by decide +kernel
theorem dX3_match_49 : decode cX3_match 49 = .ok (.getfield 18, 3) := by decide +kernel
theorem dX3_match_52 : decode cX3_match 52 = .ok (.iload 5, 2) := by decide +kernel
theorem dX3_match_54 : decode cX3_match 54 = .ok (.iaload, 1) := by decide +kernel
theorem dX3_match_55 : decode cX3_match 55 = .ok (.invokevirtual 87, 3) := by decide +kernel
theorem dX3_match_58 : decode cX3_match 58 = .ok (.ifCond .eq 6, 3) := by decide +kernel
theorem dX3_match_61 : decode cX3_match 61 = .ok (.iload 5, 2) := by decide +kernel
theorem dX3_match_63 : decode cX3_match 63 = .ok (.ireturn, 1) := by decide +kernel
theorem dX3_match_64 : decode cX3_match 64 = .ok (.aload_n 0, 1) := by decide +kernel
theorem dX3_match_65 : decode cX3_match 65 = .ok (.getfield 24, 3) := by decide +kernel
theorem dX3_match_68 : decode cX3_match 68 = .ok (.iload 5, 2) := by decide +kernel
theorem dX3_match_70 : decode cX3_match 70 = .ok (.iaload, 1) := by decide +kernel
theorem dX3_match_71 : decode cX3_match 71 = .ok (.istore 5, 2) := by decide +kernel
theorem dX3_match_73 : decode cX3_match 73 = .ok (.iinc 6 1, 3) := by decide +kernel
theorem dX3_match_76 : decode cX3_match 76 = .ok (.goto (-60), 3) := by decide +kernel
theorem dX3_match_79 : decode cX3_match 79 = .ok (.iconst (-1), 1) := by decide +kernel
theorem dX3_match_80 : decode cX3_match 80 = .ok (.ireturn, 1) := by decide +kernel
theorem dX3_open_0 : decode cX3_open 0 = .ok (.aload_n 0, 1) := by decide +kernel
theorem dX3_open_1 : decode cX3_open 1 = .ok (.getfield 52, 3) := by decide +kernel
theorem dX3_open_4 : decode cX3_open 4 = .ok (.istore 4, 2) := by decide +kernel
theorem dX3_open_6 : decode cX3_open 6 = .ok (.aload_n 0, 1) := by decide +kernel
theorem dX3_open_7 : decode cX3_open 7 = .ok (.getfield 18, 3) := by decide +kernel
theorem dX3_open_10 : decode cX3_open 10 = .ok (.iload 4, 2) := by decide +kernel
theorem dX3_open_12 : decode cX3_open 12 = .ok (.iload_n 1, 1) := by decide +kernel
theorem dX3_open_13 : decode cX3_open 13 = .ok (.iastore, 1) := by decide +kernel
theorem dX3_open_14 : decode cX3_open 14 = .ok (.aload_n 0, 1) := by decide +kernel
theorem dX3_open_15 : decode cX3_open 15 = .ok (.getfield 27, 3) := by decide +kernel
theorem dX3_open_18 : decode cX3_open 18 = .ok (.iload 4, 2) := by decide +kernel
theorem dX3_open_20 : decode cX3_open 20 = .ok (.lload_n 2, 1) := by decide +kernel
theorem dX3_open_21 : decode cX3_open 21 = .ok (.lastore, 1) := by decide +kernel
theorem dX3_open_22 : decode cX3_open 22 = .ok (.aload_n 0, 1) := by decide +kernel
theorem dX3_open_23 : decode cX3_open 23 = .ok (.getfield 24, 3) := by decide +kernel
theorem dX3_open_26 : decode cX3_open 26 = .ok (.iload 4, 2) := by decide +kernel
theorem dX3_open_28 : decode cX3_open 28 = .ok (.aload_n 0, 1) := by decide +kernel
theorem dX3_open_29 : decode cX3_open 29 = .ok (.getfield 21, 3) := by decide +kernel
theorem dX3_open_32 : decode cX3_open 32 = .ok (.aload_n 0, 1) := by decide +kernel
theorem dX3_open_33 : decode cX3_open 33 = .ok (.getfield 9, 3) := by decide +kernel
theorem dX3_open_36 : decode cX3_open 36 = .ok (.iload_n 1, 1) := by decide +kernel
theorem dX3_open_37 : decode cX3_open 37 = .ok (.iaload, 1) := by decide +kernel
theorem dX3_open_38 : decode cX3_open 38 = .ok (.iaload, 1) := by decide +kernel
theorem dX3_open_39 : decode cX3_open 39 = .ok (.iastore, 1) := by decide +kernel
theorem dX3_open_40 : decode cX3_open 40 = .ok (.aload_n 0, 1) := by decide +kernel
theorem dX3_open_41 : decode cX3_open 41 = .ok (.getfield 21, 3) := by decide +kernel
theorem dX3_open_44 : decode cX3_open 44 = .ok (.aload_n 0, 1) := by decide +kernel
theorem dX3_open_45 : decode cX3_open 45 = .ok (.getfield 9, 3) := by decide +kernel
theorem dX3_open_48 : decode cX3_open 48 = .ok (.iload_n 1, 1) := by decide +kernel
theorem dX3_open_49 : decode cX3_open 49 = .ok (.iaload, 1) := by decide +kernel
theorem dX3_open_50 : decode cX3_open 50 = .ok (.iload 4, 2) := by decide +kernel
theorem dX3_open_52 : decode cX3_open 52 = .ok (.iastore, 1) := by decide +kernel
theorem dX3_open_53 : decode cX3_open 53 = .ok (.aload_n 0, 1) := by decide +kernel
theorem dX3_open_54 : decode cX3_open 54 = .ok (.dup, 1) := by decide +kernel
theorem dX3_open_55 : decode cX3_open 55 = .ok (.getfield 52, 3) := by decide +kernel
theorem dX3_open_58 : decode cX3_open 58 = .ok (.iconst 1, 1) := by decide +kernel
theorem dX3_open_59 : decode cX3_open 59 = .ok (.iadd, 1) := by decide +kernel
theorem dX3_open_60 : decode cX3_open 60 = .ok (.putfield 52, 3) := by decide +kernel
theorem dX3_open_63 : decode cX3_open 63 = .ok (.iload 4, 2) := by decide +kernel
theorem dX3_open_65 : decode cX3_open 65 = .ok (.ireturn, 1) := by decide +kernel
theorem dX3_keyOf_0 : decode cX3_keyOf 0 = .ok (.aload_n 0, 1) := by decide +kernel
theorem dX3_keyOf_1 : decode cX3_keyOf 1 = .ok (.getfield 9, 3) := by decide +kernel
theorem dX3_keyOf_4 : decode cX3_keyOf 4 = .ok (.iload_n 1, 1) := by decide +kernel
theorem dX3_keyOf_5 : decode cX3_keyOf 5 = .ok (.bipush 32, 2) := by decide +kernel
theorem dX3_keyOf_7 : decode cX3_keyOf 7 = .ok (.imul, 1) := by decide +kernel
theorem dX3_keyOf_8 : decode cX3_keyOf 8 = .ok (.iload_n 2, 1) := by decide +kernel
theorem dX3_keyOf_9 : decode cX3_keyOf 9 = .ok (.iadd, 1) := by decide +kernel
theorem dX3_keyOf_10 : decode cX3_keyOf 10 = .ok (.iaload, 1) := by decide +kernel
theorem dX3_keyOf_11 : decode cX3_keyOf 11 = .ok (.sipush 1024, 3) := by decide +kernel
theorem dX3_keyOf_14 : decode cX3_keyOf 14 = .ok (.imul, 1) := by decide +kernel
