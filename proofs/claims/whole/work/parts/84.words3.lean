/-! WHAT STAYS, at the law's start -/
theorem nestW_tbl : ∀ w ∈ nestW, w ∈ lw_tbl := by
  intro w hw
  simp only [nestW, List.mem_cons, List.not_mem_nil, or_false] at hw
  rcases hw with rfl | rfl | rfl | rfl | rfl | rfl | rfl | rfl | rfl | rfl | rfl | rfl | rfl | rfl | rfl
  · exact List.mem_of_getElem? (i := 108) (by decide +kernel)
  · exact List.mem_of_getElem? (i := 161) (by decide +kernel)
  · exact List.mem_of_getElem? (i := 185) (by decide +kernel)
  · exact List.mem_of_getElem? (i := 212) (by decide +kernel)
  · exact List.mem_of_getElem? (i := 232) (by decide +kernel)
  · exact List.mem_of_getElem? (i := 420) (by decide +kernel)
  · exact List.mem_of_getElem? (i := 443) (by decide +kernel)
  · exact List.mem_of_getElem? (i := 445) (by decide +kernel)
  · exact List.mem_of_getElem? (i := 494) (by decide +kernel)
  · exact List.mem_of_getElem? (i := 507) (by decide +kernel)
  · exact List.mem_of_getElem? (i := 516) (by decide +kernel)
  · exact List.mem_of_getElem? (i := 565) (by decide +kernel)
  · exact List.mem_of_getElem? (i := 743) (by decide +kernel)
  · exact List.mem_of_getElem? (i := 782) (by decide +kernel)
  · exact List.mem_of_getElem? (i := 837) (by decide +kernel)
theorem lays_0 : Cond.laysStatic "WeatherDisguise" "LAW_AT_FIRST" "[I" ∈ lw_tbl := List.mem_of_getElem? (i := 109) (by decide +kernel)
theorem lays_1 : Cond.laysStatic "WeatherDisguise" "LAW_LEAST" "[I" ∈ lw_tbl := List.mem_of_getElem? (i := 444) (by decide +kernel)
theorem lays_2 : Cond.laysStatic "WeatherDisguise" "LAW_MOST" "[I" ∈ lw_tbl := List.mem_of_getElem? (i := 446) (by decide +kernel)
theorem lays_3 : Cond.laysStatic "WeatherDisguise$Acts" "BODY_OF" "[I" ∈ lw_tbl := List.mem_of_getElem? (i := 836) (by decide +kernel)
theorem lays_cs : Cond.laysStatic "java/lang/String" "COMPACT_STRINGS" "Z" ∈ lw_tbl := List.mem_of_getElem? (i := 355) (by decide +kernel)
theorem lays_fm : Cond.laysStatic "jdk/internal/util/Preconditions" "SIOOBE_FORMATTER" "Ljava/util/function/BiFunction;" ∈ lw_tbl := List.mem_of_getElem? (i := 371) (by decide +kernel)
theorem ini_wd5 : Cond.initialized "WeatherDisguise" ∈ lw_tbl := List.mem_of_getElem? (i := 79) (by decide +kernel)
theorem ini_acts : Cond.initialized "WeatherDisguise$Acts" ∈ lw_tbl := List.mem_of_getElem? (i := 83) (by decide +kernel)
theorem ini_str : Cond.initialized "java/lang/String" ∈ lw_tbl := List.mem_of_getElem? (i := 88) (by decide +kernel)
theorem ini_prec : Cond.initialized "jdk/internal/util/Preconditions" ∈ lw_tbl := List.mem_of_getElem? (i := 90) (by decide +kernel)
theorem sref_0 : Cond.stringRef "WeatherDisguise$Tape" 40 "wet" ∈ lw_tbl := List.mem_of_getElem? (i := 431) (by decide +kernel)
theorem sref_1 : Cond.stringRef "WeatherDisguise$Tape" 49 "wind" ∈ lw_tbl := List.mem_of_getElem? (i := 437) (by decide +kernel)
theorem sref_2 : Cond.stringRef "WeatherDisguise$Tape" 59 "turn" ∈ lw_tbl := List.mem_of_getElem? (i := 438) (by decide +kernel)
theorem sref_3 : Cond.stringRef "WeatherDisguise$Tape" 64 "damp" ∈ lw_tbl := List.mem_of_getElem? (i := 447) (by decide +kernel)
theorem sref_4 : Cond.stringRef "WeatherDisguise$Tape" 66 "shy" ∈ lw_tbl := List.mem_of_getElem? (i := 448) (by decide +kernel)
theorem sref_5 : Cond.stringRef "WeatherDisguise$Tape" 68 "gust" ∈ lw_tbl := List.mem_of_getElem? (i := 449) (by decide +kernel)
theorem sref_6 : Cond.stringRef "WeatherDisguise$Tape" 76 "air" ∈ lw_tbl := List.mem_of_getElem? (i := 337) (by decide +kernel)
theorem sref_7 : Cond.stringRef "WeatherDisguise$Tape" 81 "rain" ∈ lw_tbl := List.mem_of_getElem? (i := 394) (by decide +kernel)
theorem sref_8 : Cond.stringRef "WeatherDisguise$Tape" 83 "fog" ∈ lw_tbl := List.mem_of_getElem? (i := 395) (by decide +kernel)
theorem sref_9 : Cond.stringRef "WeatherDisguise$Tape" 85 "drizzle" ∈ lw_tbl := List.mem_of_getElem? (i := 396) (by decide +kernel)
theorem sref_10 : Cond.stringRef "WeatherDisguise$Tape" 87 "mist" ∈ lw_tbl := List.mem_of_getElem? (i := 397) (by decide +kernel)
theorem sref_11 : Cond.stringRef "WeatherDisguise$Tape" 89 "heat" ∈ lw_tbl := List.mem_of_getElem? (i := 398) (by decide +kernel)
theorem sref_12 : Cond.stringRef "WeatherDisguise$Tape" 97 "at" ∈ lw_tbl := List.mem_of_getElem? (i := 407) (by decide +kernel)
theorem sref_13 : Cond.stringRef "WeatherDisguise$Tape" 103 "force" ∈ lw_tbl := List.mem_of_getElem? (i := 421) (by decide +kernel)
theorem sref_14 : Cond.stringRef "WeatherDisguise$Tape" 105 "errand" ∈ lw_tbl := List.mem_of_getElem? (i := 426) (by decide +kernel)
theorem sref_15 : Cond.stringRef "WeatherDisguise$Tape" 111 "is" ∈ lw_tbl := List.mem_of_getElem? (i := 436) (by decide +kernel)
theorem over_q : Cond.arrayOver (.object "WeatherDisguise$Sheet") ∈ lw_tbl := List.mem_of_getElem? (i := 180) (by decide +kernel)
theorem over_v : Cond.arrayOver (.object "WeatherDisguise$Shelf") ∈ lw_tbl := List.mem_of_getElem? (i := 182) (by decide +kernel)
def NFL : List Cond := flatC (Jvm.Cond.and given_1 narrow_1)
def stTm (i : Nat) : Term := match i with
  | 0 => .static "WeatherDisguise" "LAW_AT_FIRST" "[I"
  | 1 => .static "WeatherDisguise" "LAW_LEAST" "[I"
  | 2 => .static "WeatherDisguise" "LAW_MOST" "[I"
  | _ => .static "WeatherDisguise$Acts" "BODY_OF" "[I"
def stRow (i : Nat) : List Int32 := (stL.getD i (RX5, "", [])).2.2
theorem st_arr : ∀ i, i < 4 → Cond.arrayOf (stTm i) .int ∈ NFL := by decide +kernel
theorem st_len : ∀ i, i < 4 → Cond.eq (.length (stTm i)) (.int (Int32.ofNat (stRow i).length)) ∈ NFL := by decide +kernel
theorem st_el : ∀ i, i < 4 → ∀ j, j < (stRow i).length → Cond.eq (.elem (stTm i) (.int (Int32.ofNat j))) (.int ((stRow i).getD j 0)) ∈ NFL := by decide +kernel
theorem nf_cs : Cond.eq (.static "java/lang/String" "COMPACT_STRINGS" "Z") (.int 1) ∈ NFL := by decide +kernel
theorem nf_fm : Cond.isRef (.static "jdk/internal/util/Preconditions" "SIOOBE_FORMATTER" "Ljava/util/function/BiFunction;") ∈ NFL := by decide +kernel
def txTm (i : Nat) : Term := .string "WeatherDisguise$Tape" (strL.getD i (0, "")).1
theorem tx_ex : ∀ i, i < 16 → Cond.exactly (txTm i) "java/lang/String" ∈ NFL := by decide +kernel
theorem tx_co : ∀ i, i < 16 → Cond.eq (.field (txTm i) "java/lang/String" "coder" "B") (.int 0) ∈ NFL := by decide +kernel
theorem tx_ar : ∀ i, i < 16 → Cond.arrayOf (.field (txTm i) "java/lang/String" "value" "[B") .byte ∈ NFL := by decide +kernel
theorem tx_le : ∀ i, i < 16 → Cond.eq (.length (.field (txTm i) "java/lang/String" "value" "[B")) (.int (Int32.ofNat (strLen.getD i 0))) ∈ NFL := by decide +kernel
theorem tx_el : ∀ i, i < 16 → ∀ j, j < strLen.getD i 0 → Cond.eq (.elem (.field (txTm i) "java/lang/String" "value" "[B") (.int (Int32.ofNat j))) (.int ((strByt.getD i []).getD j 0)) ∈ NFL := by decide +kernel
def txPos : List (List Nat) := [[0, 230, 249, 269, 289, 311, 188, 189, 190, 191, 192, 193, 194, 195, 196, 212], [230, 0, 251, 271, 291, 313, 221, 222, 223, 224, 225, 226, 227, 228, 229, 231], [249, 251, 0, 272, 292, 314, 240, 241, 242, 243, 244, 245, 246, 247, 248, 250], [269, 271, 272, 0, 293, 315, 260, 261, 262, 263, 264, 265, 266, 267, 268, 270], [289, 291, 292, 293, 0, 316, 280, 281, 282, 283, 284, 285, 286, 287, 288, 290], [311, 313, 314, 315, 316, 0, 302, 303, 304, 305, 306, 307, 308, 309, 310, 312], [188, 221, 240, 260, 280, 302, 0, 86, 94, 107, 118, 130, 141, 156, 173, 203], [189, 222, 241, 261, 281, 303, 86, 0, 95, 108, 119, 131, 142, 157, 174, 204], [190, 223, 242, 262, 282, 304, 94, 95, 0, 109, 120, 132, 143, 158, 175, 205], [191, 224, 243, 263, 283, 305, 107, 108, 109, 0, 121, 133, 144, 159, 176, 206], [192, 225, 244, 264, 284, 306, 118, 119, 120, 121, 0, 134, 145, 160, 177, 207], [193, 226, 245, 265, 285, 307, 130, 131, 132, 133, 134, 0, 146, 161, 178, 208], [194, 227, 246, 266, 286, 308, 141, 142, 143, 144, 145, 146, 0, 162, 179, 209], [195, 228, 247, 267, 287, 309, 156, 157, 158, 159, 160, 161, 162, 0, 180, 210], [196, 229, 248, 268, 288, 310, 173, 174, 175, 176, 177, 178, 179, 180, 0, 211], [212, 231, 250, 270, 290, 312, 203, 204, 205, 206, 207, 208, 209, 210, 211, 0]]
theorem tx_neP : ∀ i, i < 16 → ∀ j, j < 16 → i ≠ j → NFL[(txPos.getD i []).getD j 0]? = some (Cond.not (Cond.eq (txTm i) (txTm j))) ∨ NFL[(txPos.getD i []).getD j 0]? = some (Cond.not (Cond.eq (txTm j) (txTm i))) := by decide +kernel
theorem tx_ne (i j : Nat) (hi : i < 16) (hj : j < 16) (h : i ≠ j) : Cond.not (Cond.eq (txTm i) (txTm j)) ∈ NFL ∨ Cond.not (Cond.eq (txTm j) (txTm i)) ∈ NFL := (tx_neP i hi j hj h).imp (fun h => List.mem_of_getElem? h) (fun h => List.mem_of_getElem? h)
