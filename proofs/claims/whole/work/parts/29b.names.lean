/-! Printed: classes, fields, methods. -/
def kR0 : String := "BoardDesk"
def kT0 : u_T := fun k => match k with
  | 0 => ("BoardDesk", "board", "LBoardDesk$Board;", true)
  | 1 => ("BoardDesk", "history", "LBoardDesk$History;", true)
  | 2 => ("BoardDesk", "router", "LBoardDesk$Router;", true)
  | 3 => ("BoardDesk", "tape", "LBoardDesk$Tape;", true)
  | _ => ("BoardDesk", "perNet", "[I", true)
def kY0 : Nat → FieldType := fun k => match k with
  | 0 => .object "BoardDesk$Board"
  | 1 => .object "BoardDesk$History"
  | 2 => .object "BoardDesk$Router"
  | 3 => .object "BoardDesk$Tape"
  | _ => .array .int
theorem knm0 : ∀ a, a < 5 → ∀ b, b < 5 → a ≠ b → (kT0 a).2.1 ≠ (kT0 b).2.1 := by decide +kernel
theorem kty0 : ∀ k, k < 5 → parseFieldDescriptor (kT0 k).2.2.1 = some (kY0 k) := by decide +kernel
def kR1 : String := "BoardDesk$Board"
def kT1 : u_T := fun k => match k with
  | 0 => ("BoardDesk$Board", "sheet", "LBoardDesk$Sheet;", true)
  | _ => ("BoardDesk$Board", "netNames", "[I", true)
def kY1 : Nat → FieldType := fun k => match k with
  | 0 => .object "BoardDesk$Sheet"
  | _ => .array .int
theorem knm1 : ∀ a, a < 2 → ∀ b, b < 2 → a ≠ b → (kT1 a).2.1 ≠ (kT1 b).2.1 := by decide +kernel
theorem kty1 : ∀ k, k < 2 → parseFieldDescriptor (kT1 k).2.2.1 = some (kY1 k) := by decide +kernel
def kR2 : String := "BoardDesk$Sheet"
def kT2 : u_T := fun k => match k with
  | 0 => ("BoardDesk$Sheet", "kinds", "[I", true)
  | 1 => ("BoardDesk$Sheet", "firstEnds", "[I", true)
  | 2 => ("BoardDesk$Sheet", "secondEnds", "[I", true)
  | 3 => ("BoardDesk$Sheet", "spots", "[I", true)
  | 4 => ("BoardDesk$Sheet", "padLayers", "[I", true)
  | 5 => ("BoardDesk$Sheet", "holders", "[I", true)
  | 6 => ("BoardDesk$Sheet", "pins", "I", false)
  | 7 => ("BoardDesk$Sheet", "joints", "I", false)
  | _ => ("BoardDesk$Sheet", "clearance", "I", false)
def kY2 : Nat → FieldType := fun k => match k with
  | 0 => .array .int
  | 1 => .array .int
  | 2 => .array .int
  | 3 => .array .int
  | 4 => .array .int
  | 5 => .array .int
  | 6 => .int
  | 7 => .int
  | _ => .int
theorem knm2 : ∀ a, a < 9 → ∀ b, b < 9 → a ≠ b → (kT2 a).2.1 ≠ (kT2 b).2.1 := by decide +kernel
theorem kty2 : ∀ k, k < 9 → parseFieldDescriptor (kT2 k).2.2.1 = some (kY2 k) := by decide +kernel
def kR3 : String := "BoardDesk$History"
def kT3 : u_T := fun k => match k with
  | 0 => ("BoardDesk$History", "befores", "[LBoardDesk$Sheet;", true)
  | 1 => ("BoardDesk$History", "next", "I", false)
  | _ => ("BoardDesk$History", "count", "I", false)
def kY3 : Nat → FieldType := fun k => match k with
  | 0 => .array (.object "BoardDesk$Sheet")
  | 1 => .int
  | _ => .int
theorem knm3 : ∀ a, a < 3 → ∀ b, b < 3 → a ≠ b → (kT3 a).2.1 ≠ (kT3 b).2.1 := by decide +kernel
theorem kty3 : ∀ k, k < 3 → parseFieldDescriptor (kT3 k).2.2.1 = some (kY3 k) := by decide +kernel
def kR4 : String := "BoardDesk$Router"
def kT4 : u_T := fun k => match k with
  | 0 => ("BoardDesk$Router", "inPiece", "[Z", true)
  | 1 => ("BoardDesk$Router", "pieceCells", "[I", true)
  | 2 => ("BoardDesk$Router", "pieceSize", "I", false)
  | 3 => ("BoardDesk$Router", "free", "[Z", true)
  | 4 => ("BoardDesk$Router", "costs", "[I", true)
  | _ => ("BoardDesk$Router", "lanes", "LBoardDesk$Lanes;", true)
def kY4 : Nat → FieldType := fun k => match k with
  | 0 => .array .boolean
  | 1 => .array .int
  | 2 => .int
  | 3 => .array .boolean
  | 4 => .array .int
  | _ => .object "BoardDesk$Lanes"
theorem knm4 : ∀ a, a < 6 → ∀ b, b < 6 → a ≠ b → (kT4 a).2.1 ≠ (kT4 b).2.1 := by decide +kernel
theorem kty4 : ∀ k, k < 6 → parseFieldDescriptor (kT4 k).2.2.1 = some (kY4 k) := by decide +kernel
def kR5 : String := "BoardDesk$Lanes"
def kT5 : u_T := fun k => match k with
  | 0 => ("BoardDesk$Lanes", "cells", "[[I", true)
  | 1 => ("BoardDesk$Lanes", "heads", "[I", true)
  | 2 => ("BoardDesk$Lanes", "tails", "[I", true)
  | _ => ("BoardDesk$Lanes", "taken", "[Z", true)
def kY5 : Nat → FieldType := fun k => match k with
  | 0 => .array (.array .int)
  | 1 => .array .int
  | 2 => .array .int
  | _ => .array .boolean
theorem knm5 : ∀ a, a < 4 → ∀ b, b < 4 → a ≠ b → (kT5 a).2.1 ≠ (kT5 b).2.1 := by decide +kernel
theorem kty5 : ∀ k, k < 4 → parseFieldDescriptor (kT5 k).2.2.1 = some (kY5 k) := by decide +kernel
def kR6 : String := "BoardDesk$Tape"
def kT6 : u_T := fun k => match k with
  | 0 => ("BoardDesk$Tape", "bytes", "[I", true)
  | 1 => ("BoardDesk$Tape", "count", "I", false)
  | _ => ("BoardDesk$Tape", "picture", "[I", true)
def kY6 : Nat → FieldType := fun k => match k with
  | 0 => .array .int
  | 1 => .int
  | _ => .array .int
theorem knm6 : ∀ a, a < 3 → ∀ b, b < 3 → a ≠ b → (kT6 a).2.1 ≠ (kT6 b).2.1 := by decide +kernel
theorem kty6 : ∀ k, k < 3 → parseFieldDescriptor (kT6 k).2.2.1 = some (kY6 k) := by decide +kernel
def kR7 : String := "BoardDeskModel"
def kT7 : u_T := fun k => match k with
  | 0 => ("BoardDeskModel", "now", "[I", true)
  | 1 => ("BoardDeskModel", "was", "[I", true)
  | 2 => ("BoardDeskModel", "kept", "[I", true)
  | 3 => ("BoardDeskModel", "undos", "I", false)
  | 4 => ("BoardDeskModel", "nets", "[I", true)
  | 5 => ("BoardDeskModel", "pads", "[I", true)
  | 6 => ("BoardDeskModel", "owners", "[I", true)
  | 7 => ("BoardDeskModel", "pieces", "[I", true)
  | 8 => ("BoardDeskModel", "frees", "[Z", true)
  | 9 => ("BoardDeskModel", "costs", "[I", true)
  | 10 => ("BoardDeskModel", "bytes", "[I", true)
  | 11 => ("BoardDeskModel", "many", "I", false)
  | 12 => ("BoardDeskModel", "image", "[I", true)
  | _ => ("BoardDeskModel", "order", "[I", true)
def kY7 : Nat → FieldType := fun k => match k with
  | 0 => .array .int
  | 1 => .array .int
  | 2 => .array .int
  | 3 => .int
  | 4 => .array .int
  | 5 => .array .int
  | 6 => .array .int
  | 7 => .array .int
  | 8 => .array .boolean
  | 9 => .array .int
  | 10 => .array .int
  | 11 => .int
  | 12 => .array .int
  | _ => .array .int
theorem knm7 : ∀ a, a < 14 → ∀ b, b < 14 → a ≠ b → (kT7 a).2.1 ≠ (kT7 b).2.1 := by decide +kernel
theorem kty7 : ∀ k, k < 14 → parseFieldDescriptor (kT7 k).2.2.1 = some (kY7 k) := by decide +kernel
def kCl : List vw_C := [(kR0, kT0, 5), (kR1, kT1, 2), (kR2, kT2, 9), (kR3, kT3, 3), (kR4, kT4, 6), (kR5, kT5, 4), (kR6, kT6, 3), (kR7, kT7, 14)]
def gTs : List Cond := lw_tbl.filter goodWord
theorem gG : ∀ w ∈ gTs, (w.onTables && w.keeps) = true ∨ ∃ ty, w = .arrayClass ty := fun w h => good_of_word (List.mem_filter.mp h).2
theorem gTs_of {w : Cond} {i : Nat} (h : lw_tbl[i]? = some w) (g : goodWord w = true) : w ∈ gTs := List.mem_filter.mpr ⟨List.mem_of_getElem? h, g⟩
theorem gTs_in {w : Cond} (h : w ∈ gTs) : w ∈ lw_tbl := (List.mem_filter.mp h).1
theorem kin0 : ∀ w ∈ u_ws kR0 kT0 5, w ∈ gTs := by decide +kernel
theorem kin1 : ∀ w ∈ u_ws kR1 kT1 2, w ∈ gTs := by decide +kernel
theorem kin2 : ∀ w ∈ u_ws kR2 kT2 9, w ∈ gTs := by decide +kernel
theorem kin3 : ∀ w ∈ u_ws kR3 kT3 3, w ∈ gTs := by decide +kernel
theorem kin4 : ∀ w ∈ u_ws kR4 kT4 6, w ∈ gTs := by decide +kernel
theorem kin5 : ∀ w ∈ u_ws kR5 kT5 4, w ∈ gTs := by decide +kernel
theorem kin6 : ∀ w ∈ u_ws kR6 kT6 3, w ∈ gTs := by decide +kernel
theorem kin7 : ∀ w ∈ u_ws kR7 kT7 14, w ∈ gTs := by decide +kernel
def ym_0 : MethodName := ⟨"BoardDesk", "pin", "(I)I"⟩
def ym_1 : MethodName := ⟨"BoardDesk", "join", "(II)I"⟩
def ym_2 : MethodName := ⟨"BoardDesk", "part", "(I)I"⟩
def ym_3 : MethodName := ⟨"BoardDesk", "net", "(I)I"⟩
def ym_4 : MethodName := ⟨"BoardDesk", "fault", "(II)I"⟩
def ym_5 : MethodName := ⟨"BoardDesk", "place", "(IIII)Z"⟩
def ym_6 : MethodName := ⟨"BoardDesk", "lift", "(I)Z"⟩
def ym_7 : MethodName := ⟨"BoardDesk", "rule", "(I)I"⟩
def ym_8 : MethodName := ⟨"BoardDesk", "bar", "(IZ)Z"⟩
def ym_9 : MethodName := ⟨"BoardDesk", "track", "(IIII)I"⟩
def ym_10 : MethodName := ⟨"BoardDesk", "erase", "(I)Z"⟩
def ym_11 : MethodName := ⟨"BoardDesk", "route", "(I)I"⟩
def ym_12 : MethodName := ⟨"BoardDesk", "rip", "(I)I"⟩
def ym_13 : MethodName := ⟨"BoardDesk", "auto", "()I"⟩
def ym_14 : MethodName := ⟨"BoardDesk", "copper", "(I)I"⟩
def ym_15 : MethodName := ⟨"BoardDesk", "check", "(II)I"⟩
def ym_16 : MethodName := ⟨"BoardDesk", "plot", "(II)I"⟩
def ym_17 : MethodName := ⟨"BoardDesk", "read", "(I)I"⟩
def ym_18 : MethodName := ⟨"BoardDesk", "replay", "(I)I"⟩
def ym_19 : MethodName := ⟨"BoardDesk", "undo", "()I"⟩
def ym_20 : MethodName := ⟨"BoardDesk", "leastNet", "()I"⟩
def ym_21 : MethodName := ⟨"BoardDesk", "nearFault", "(II)I"⟩
def ym_22 : MethodName := ⟨"BoardDesk", "told", "(IIIII)I"⟩
def ym_23 : MethodName := ⟨"BoardDesk", "isLayer", "(I)Z"⟩
def ym_24 : MethodName := ⟨"BoardDesk", "isCell", "(I)Z"⟩
def ym_25 : MethodName := ⟨"BoardDesk", "rowOf", "(I)I"⟩
def ym_26 : MethodName := ⟨"BoardDesk", "columnOf", "(I)I"⟩
def ym_27 : MethodName := ⟨"BoardDesk", "shifted", "(III)I"⟩
def ym_28 : MethodName := ⟨"BoardDesk", "neighbour", "(II)I"⟩
def ym_29 : MethodName := ⟨"BoardDesk$Board", "isPin", "(I)Z"⟩
def ym_30 : MethodName := ⟨"BoardDesk$Board", "isPlaced", "(I)Z"⟩
def ym_31 : MethodName := ⟨"BoardDesk$Board", "netOf", "(I)I"⟩
def ym_32 : MethodName := ⟨"BoardDesk$Board", "netAt", "(I)I"⟩
def ym_33 : MethodName := ⟨"BoardDesk$Board", "isPadOf", "(II)Z"⟩
def ym_34 : MethodName := ⟨"BoardDesk$Board", "isCopper", "(I)Z"⟩
def ym_35 : MethodName := ⟨"BoardDesk$Board", "firstPad", "(I)I"⟩
def ym_36 : MethodName := ⟨"BoardDesk$Board", "isFree", "(II)Z"⟩
def ym_37 : MethodName := ⟨"BoardDesk$Board", "addPin", "(I)I"⟩
def ym_38 : MethodName := ⟨"BoardDesk$Board", "addJoint", "(II)I"⟩
def ym_39 : MethodName := ⟨"BoardDesk$Board", "dropJoint", "(I)V"⟩
def ym_40 : MethodName := ⟨"BoardDesk$Board", "nameNets", "()V"⟩
def ym_41 : MethodName := ⟨"BoardDesk$Board", "rename", "(II)V"⟩
def ym_42 : MethodName := ⟨"BoardDesk$Board", "netFault", "(I)I"⟩
def ym_43 : MethodName := ⟨"BoardDesk$Board", "kindCount", "(II)I"⟩
def ym_44 : MethodName := ⟨"BoardDesk$Board", "takesPads", "(III)Z"⟩
def ym_45 : MethodName := ⟨"BoardDesk$Board", "addPads", "(III)V"⟩
def ym_46 : MethodName := ⟨"BoardDesk$Board", "dropPads", "(I)V"⟩
def ym_47 : MethodName := ⟨"BoardDesk$Board", "holdPads", "(II)V"⟩
def ym_48 : MethodName := ⟨"BoardDesk$Board", "takesTrack", "(IIII)Z"⟩
def ym_49 : MethodName := ⟨"BoardDesk$Board", "layTrack", "(IIII)I"⟩
def ym_50 : MethodName := ⟨"BoardDesk$Board", "layCopper", "(II)V"⟩
def ym_51 : MethodName := ⟨"BoardDesk$Board", "dropCopper", "(I)I"⟩
def ym_52 : MethodName := ⟨"BoardDesk$Board", "spanOf", "(I)I"⟩
def ym_53 : MethodName := ⟨"BoardDesk$Board", "findNear", "(I[I)V"⟩
def ym_54 : MethodName := ⟨"BoardDesk$Board", "noteNear", "(II[I)V"⟩
def ym_55 : MethodName := ⟨"BoardDesk$Board", "runLength", "(I)I"⟩
def ym_56 : MethodName := ⟨"BoardDesk$Sheet", "copyFrom", "(LBoardDesk$Sheet;)V"⟩
def ym_57 : MethodName := ⟨"BoardDesk$Sheet", "agreesWith", "(LBoardDesk$Sheet;)Z"⟩
def ym_58 : MethodName := ⟨"BoardDesk$Sheet", "sameNumbers", "([I[I)Z"⟩
def ym_59 : MethodName := ⟨"BoardDesk$History", "begin", "(LBoardDesk$Sheet;)V"⟩
def ym_60 : MethodName := ⟨"BoardDesk$History", "finish", "(LBoardDesk$Sheet;)V"⟩
def ym_61 : MethodName := ⟨"BoardDesk$History", "takeBack", "(LBoardDesk$Sheet;)V"⟩
def ym_62 : MethodName := ⟨"BoardDesk$Router", "connectWhole", "(LBoardDesk$Board;I)Z"⟩
def ym_63 : MethodName := ⟨"BoardDesk$Router", "connect", "(LBoardDesk$Board;I)I"⟩
def ym_64 : MethodName := ⟨"BoardDesk$Router", "missingPin", "(LBoardDesk$Board;I)I"⟩
def ym_65 : MethodName := ⟨"BoardDesk$Router", "gatherPiece", "(LBoardDesk$Board;II)V"⟩
def ym_66 : MethodName := ⟨"BoardDesk$Router", "addToPiece", "(I)V"⟩
def ym_67 : MethodName := ⟨"BoardDesk$Router", "measure", "(LBoardDesk$Board;II)V"⟩
def ym_68 : MethodName := ⟨"BoardDesk$Router", "isPassable", "(I)Z"⟩
def ym_69 : MethodName := ⟨"BoardDesk$Router", "spread", "(LBoardDesk$Board;II)V"⟩
def ym_70 : MethodName := ⟨"BoardDesk$Router", "cheapestPad", "(LBoardDesk$Board;I)I"⟩
def ym_71 : MethodName := ⟨"BoardDesk$Router", "layWay", "(LBoardDesk$Board;II)V"⟩
def ym_72 : MethodName := ⟨"BoardDesk$Router", "nextOfWay", "(I)I"⟩
def ym_73 : MethodName := ⟨"BoardDesk$Lanes", "empty", "()V"⟩
def ym_74 : MethodName := ⟨"BoardDesk$Lanes", "add", "(II)V"⟩
def ym_75 : MethodName := ⟨"BoardDesk$Lanes", "takeNearest", "([I)I"⟩
def ym_76 : MethodName := ⟨"BoardDesk$Lanes", "head", "(I)I"⟩
def ym_77 : MethodName := ⟨"BoardDesk$Tape", "add", "(I)Z"⟩
def ym_78 : MethodName := ⟨"BoardDesk$Tape", "paint", "()V"⟩
def ym_79 : MethodName := ⟨"BoardDesk$Tape", "paintRun", "(IIII)V"⟩
def ym_80 : MethodName := ⟨"BoardDeskModel", "refresh", "()V"⟩
def ym_81 : MethodName := ⟨"BoardDeskModel", "begin", "()V"⟩
def ym_82 : MethodName := ⟨"BoardDeskModel", "end", "()V"⟩
def ym_83 : MethodName := ⟨"BoardDeskModel", "undo", "()I"⟩
def ym_84 : MethodName := ⟨"BoardDeskModel", "isPin", "(I)Z"⟩
def ym_85 : MethodName := ⟨"BoardDeskModel", "isCell", "(I)Z"⟩
def ym_86 : MethodName := ⟨"BoardDeskModel", "pin", "(I)I"⟩
def ym_87 : MethodName := ⟨"BoardDeskModel", "join", "(II)I"⟩
def ym_88 : MethodName := ⟨"BoardDeskModel", "part", "(I)I"⟩
def ym_89 : MethodName := ⟨"BoardDeskModel", "net", "(I)I"⟩
def ym_90 : MethodName := ⟨"BoardDeskModel", "count", "(II)I"⟩
def ym_91 : MethodName := ⟨"BoardDeskModel", "fault", "(II)I"⟩
def ym_92 : MethodName := ⟨"BoardDeskModel", "isNear", "(IIZ)Z"⟩
def ym_93 : MethodName := ⟨"BoardDeskModel", "isFree", "(II)Z"⟩
def ym_94 : MethodName := ⟨"BoardDeskModel", "place", "(IIII)Z"⟩
def ym_95 : MethodName := ⟨"BoardDeskModel", "lift", "(I)Z"⟩
def ym_96 : MethodName := ⟨"BoardDeskModel", "rule", "(I)I"⟩
def ym_97 : MethodName := ⟨"BoardDeskModel", "bar", "(IZ)Z"⟩
def ym_98 : MethodName := ⟨"BoardDeskModel", "across", "(I)I"⟩
def ym_99 : MethodName := ⟨"BoardDeskModel", "down", "(I)I"⟩
def ym_100 : MethodName := ⟨"BoardDeskModel", "next", "(II)I"⟩
def ym_101 : MethodName := ⟨"BoardDeskModel", "track", "(IIII)I"⟩
def ym_102 : MethodName := ⟨"BoardDeskModel", "erase", "(I)Z"⟩
def ym_103 : MethodName := ⟨"BoardDeskModel", "copper", "(I)I"⟩
def ym_104 : MethodName := ⟨"BoardDeskModel", "rip", "(I)I"⟩
def ym_105 : MethodName := ⟨"BoardDeskModel", "layPieces", "(I)V"⟩
def ym_106 : MethodName := ⟨"BoardDeskModel", "padOf", "(I)I"⟩
def ym_107 : MethodName := ⟨"BoardDeskModel", "firstOf", "(I)I"⟩
def ym_108 : MethodName := ⟨"BoardDeskModel", "missing", "(I)I"⟩
def ym_109 : MethodName := ⟨"BoardDeskModel", "price", "(I)I"⟩
def ym_110 : MethodName := ⟨"BoardDeskModel", "reach", "(I)I"⟩
def ym_111 : MethodName := ⟨"BoardDeskModel", "layCosts", "(II)V"⟩
def ym_112 : MethodName := ⟨"BoardDeskModel", "walk", "(III)V"⟩
def ym_113 : MethodName := ⟨"BoardDeskModel", "routeNet", "(I)I"⟩
def ym_114 : MethodName := ⟨"BoardDeskModel", "route", "(I)I"⟩
def ym_115 : MethodName := ⟨"BoardDeskModel", "span", "(I)I"⟩
def ym_116 : MethodName := ⟨"BoardDeskModel", "auto", "()I"⟩
def ym_117 : MethodName := ⟨"BoardDeskModel", "nearCell", "(II)I"⟩
def ym_118 : MethodName := ⟨"BoardDeskModel", "check", "(II)I"⟩
def ym_119 : MethodName := ⟨"BoardDeskModel", "plot", "(II)I"⟩
def ym_120 : MethodName := ⟨"BoardDeskModel", "read", "(I)I"⟩
def ym_121 : MethodName := ⟨"BoardDeskModel", "replay", "(I)I"⟩
def ym_122 : MethodName := ⟨"java/util/Arrays", "fill", "([II)V"⟩
def ym_123 : MethodName := ⟨"BoardDeskLaw", "law", "([I)Z"⟩
def gYl : List MethodName := [ym_0, ym_1, ym_2, ym_3, ym_4, ym_5, ym_6, ym_7, ym_8, ym_9, ym_10, ym_11, ym_12, ym_13, ym_14, ym_15, ym_16, ym_17, ym_18, ym_19, ym_20, ym_21, ym_22, ym_23, ym_24, ym_25, ym_26, ym_27, ym_28, ym_29, ym_30, ym_31, ym_32, ym_33, ym_34, ym_35, ym_36, ym_37, ym_38, ym_39, ym_40, ym_41, ym_42, ym_43, ym_44, ym_45, ym_46, ym_47, ym_48, ym_49, ym_50, ym_51, ym_52, ym_53, ym_54, ym_55, ym_56, ym_57, ym_58, ym_59, ym_60, ym_61, ym_62, ym_63, ym_64, ym_65, ym_66, ym_67, ym_68, ym_69, ym_70, ym_71, ym_72, ym_73, ym_74, ym_75, ym_76, ym_77, ym_78, ym_79, ym_80, ym_81, ym_82, ym_83, ym_84, ym_85, ym_86, ym_87, ym_88, ym_89, ym_90, ym_91, ym_92, ym_93, ym_94, ym_95, ym_96, ym_97, ym_98, ym_99, ym_100, ym_101, ym_102, ym_103, ym_104, ym_105, ym_106, ym_107, ym_108, ym_109, ym_110, ym_111, ym_112, ym_113, ym_114, ym_115, ym_116, ym_117, ym_118, ym_119, ym_120, ym_121, ym_122, ym_123]
def gY (mi : Nat) : MethodName := gYl.getD mi ym_0
theorem gY_plain (mi : Nat) : plainName (gY mi).cls = true := by
  have h : gYl.all (fun y => plainName y.cls) = true := by decide +kernel
  unfold gY
  rw [List.getD_eq_getElem?_getD]
  cases e : gYl[mi]? with
  | none => decide +kernel
  | some y => exact List.all_eq_true.mp h y (List.mem_of_getElem? e)
def gB (mi : Nat) : ByteArray := [prog_1_method_2_code, prog_1_method_3_code, prog_1_method_4_code, prog_1_method_5_code, prog_1_method_6_code, prog_1_method_7_code, prog_1_method_8_code, prog_1_method_9_code, prog_1_method_10_code, prog_1_method_11_code, prog_1_method_12_code, prog_1_method_13_code, prog_1_method_14_code, prog_1_method_15_code, prog_1_method_16_code, prog_1_method_17_code, prog_1_method_18_code, prog_1_method_19_code, prog_1_method_20_code, prog_1_method_21_code, prog_1_method_22_code, prog_1_method_23_code, prog_1_method_24_code, prog_1_method_25_code, prog_1_method_26_code, prog_1_method_27_code, prog_1_method_28_code, prog_1_method_29_code, prog_1_method_30_code, prog_2_method_2_code, prog_2_method_3_code, prog_2_method_4_code, prog_2_method_5_code, prog_2_method_6_code, prog_2_method_7_code, prog_2_method_8_code, prog_2_method_9_code, prog_2_method_10_code, prog_2_method_11_code, prog_2_method_12_code, prog_2_method_13_code, prog_2_method_14_code, prog_2_method_15_code, prog_2_method_16_code, prog_2_method_17_code, prog_2_method_18_code, prog_2_method_19_code, prog_2_method_20_code, prog_2_method_21_code, prog_2_method_22_code, prog_2_method_23_code, prog_2_method_24_code, prog_2_method_25_code, prog_2_method_26_code, prog_2_method_27_code, prog_2_method_28_code, prog_6_method_2_code, prog_6_method_3_code, prog_6_method_4_code, prog_3_method_2_code, prog_3_method_3_code, prog_3_method_4_code, prog_5_method_2_code, prog_5_method_3_code, prog_5_method_4_code, prog_5_method_5_code, prog_5_method_6_code, prog_5_method_7_code, prog_5_method_8_code, prog_5_method_9_code, prog_5_method_10_code, prog_5_method_11_code, prog_5_method_12_code, prog_4_method_2_code, prog_4_method_3_code, prog_4_method_4_code, prog_4_method_5_code, prog_7_method_2_code, prog_7_method_3_code, prog_7_method_4_code, prog_9_method_2_code, prog_9_method_3_code, prog_9_method_4_code, prog_9_method_5_code, prog_9_method_6_code, prog_9_method_7_code, prog_9_method_8_code, prog_9_method_9_code, prog_9_method_10_code, prog_9_method_11_code, prog_9_method_12_code, prog_9_method_13_code, prog_9_method_14_code, prog_9_method_15_code, prog_9_method_16_code, prog_9_method_17_code, prog_9_method_18_code, prog_9_method_19_code, prog_9_method_20_code, prog_9_method_21_code, prog_9_method_22_code, prog_9_method_23_code, prog_9_method_24_code, prog_9_method_25_code, prog_9_method_26_code, prog_9_method_27_code, prog_9_method_28_code, prog_9_method_29_code, prog_9_method_30_code, prog_9_method_31_code, prog_9_method_32_code, prog_9_method_33_code, prog_9_method_34_code, prog_9_method_35_code, prog_9_method_36_code, prog_9_method_37_code, prog_9_method_38_code, prog_9_method_39_code, prog_9_method_40_code, prog_9_method_41_code, prog_9_method_42_code, prog_9_method_43_code, prog_12_method_103_code, code].getD mi code
def gR (mi : Nat) : Option FieldType := [some .int, some .int, some .int, some .int, some .int, some .boolean, some .boolean, some .int, some .boolean, some .int, some .boolean, some .int, some .int, some .int, some .int, some .int, some .int, some .int, some .int, some .int, some .int, some .int, some .int, some .boolean, some .boolean, some .int, some .int, some .int, some .int, some .boolean, some .boolean, some .int, some .int, some .boolean, some .boolean, some .int, some .boolean, some .int, some .int, none, none, none, some .int, some .int, some .boolean, none, none, none, some .boolean, some .int, none, some .int, some .int, none, none, some .int, none, some .boolean, some .boolean, none, none, none, some .boolean, some .int, some .int, none, none, none, some .boolean, none, some .int, none, some .int, none, none, some .int, some .int, some .boolean, none, none, none, none, none, some .int, some .boolean, some .boolean, some .int, some .int, some .int, some .int, some .int, some .int, some .boolean, some .boolean, some .boolean, some .boolean, some .int, some .boolean, some .int, some .int, some .int, some .int, some .boolean, some .int, some .int, none, some .int, some .int, some .int, some .int, some .int, none, none, some .int, some .int, some .int, some .int, some .int, some .int, some .int, some .int, some .int, none, some .boolean].getD mi none
def gF (mi : Nat) : Nat := [3, 3, 3, 1, 2, 3, 3, 3, 3, 4, 3, 5, 3, 6, 1, 4, 2, 1, 3, 3, 0, 3, 0, 0, 0, 0, 0, 0, 1, 0, 0, 0, 0, 0, 1, 0, 1, 2, 2, 2, 1, 0, 1, 0, 2, 1, 1, 0, 2, 3, 2, 2, 1, 2, 1, 1, 1, 1, 0, 2, 2, 2, 5, 4, 3, 2, 0, 3, 0, 2, 2, 3, 2, 1, 0, 1, 0, 0, 2, 1, 0, 0, 1, 1, 0, 0, 2, 2, 2, 1, 0, 1, 0, 1, 2, 2, 2, 2, 0, 0, 1, 2, 2, 1, 2, 2, 0, 0, 3, 0, 2, 3, 2, 4, 5, 0, 5, 1, 4, 0, 0, 0, 0, 9].getD mi 0
def gO (mi : Nat) : Nat := [82, 82, 82, 21, 47, 82, 82, 82, 82, 94, 82, 120, 82, 144, 22, 100, 46, 21, 69, 82, 0, 75, 0, 0, 0, 0, 0, 0, 24, 0, 0, 0, 0, 0, 23, 0, 24, 46, 46, 46, 23, 0, 24, 0, 51, 23, 23, 0, 51, 67, 45, 45, 21, 52, 24, 22, 40, 22, 0, 61, 43, 61, 120, 96, 71, 45, 0, 71, 0, 45, 45, 70, 45, 23, 0, 21, 0, 0, 47, 21, 0, 0, 25, 25, 0, 0, 47, 47, 47, 21, 0, 24, 0, 30, 52, 47, 47, 47, 0, 0, 20, 52, 47, 20, 47, 43, 0, 0, 68, 0, 43, 68, 43, 93, 119, 0, 119, 30, 93, 0, 0, 0, 0, 334].getD mi 0
def gTy (ca : Nat → ClassId) : List (ClassId × FieldType) := [(ca 0, .int), (ca 1, .boolean), (ca 2, .object "BoardDesk$Sheet"), (ca 3, .array .int)]
def gZ (a : Nat → Nat) (ca : Nat → ClassId) (D : va_G) (St : (Nat → Prop) → State → Heap → Prop) (l : Launch) (w : qS) : qZ := (gL w, 161, a, ca, D, kCl, gTy ca, St, gY, gB, gX, gR, gF, gO, gTs, l)
