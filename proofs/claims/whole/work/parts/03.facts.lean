theorem mx_good {big : List Cond} (ws : List Cond) (ps : List Nat) (hp : ws = ps.filterMap (fun i => big[i]?)) (h : ws.all goodWord = true) : GoodIn big ws := by
  intro w hw
  have h1 := List.all_eq_true.mp h w hw
  rw [hp] at hw
  obtain ⟨i, -, hi⟩ := List.mem_filterMap.mp hw
  exact ⟨List.mem_of_getElem? hi, good_of_word h1⟩
theorem mx_all {α : Type} {p : α → Bool} {a b : List α} (ha : a.all p = true) (hb : b.all p = true) : (a ++ b).all p = true := by
  rw [List.all_append, ha, hb]
  rfl
theorem mx_app {big a b : List Cond} (ha : GoodIn big a) (hb : GoodIn big b) : GoodIn big (a ++ b) := fun w h => (List.mem_append.mp h).elim (ha w) (hb w)
theorem mWd_0_in : GoodIn lw_tbl mWd_0 := mx_good _ [38, 39, 40, 41, 42, 43, 44, 45, 46, 47, 48, 49, 51, 52, 53, 54, 55, 57, 59, 60, 61, 63, 65, 66, 67, 68, 70, 73, 74, 75, 76, 77, 78, 79, 80, 81, 82, 84, 86, 88, 90, 92, 94, 96, 99, 100, 102, 103, 105, 107, 108, 110, 111, 112, 113, 114, 115, 117, 119, 121] (by decide +kernel) (by decide +kernel)
theorem mWd_1_in : GoodIn lw_tbl mWd_1 := mx_good _ [123, 126, 127, 129, 130, 131, 132, 133, 134, 135, 136, 137, 138, 139, 140, 141, 142, 143, 144, 145, 147, 149, 151, 153, 155, 157, 159, 161, 163, 166, 167, 168, 170, 171, 172, 174, 175, 176, 178, 179, 180, 182, 183, 184, 185, 187, 188, 189, 191, 192, 193, 194, 196, 198, 199, 200, 201, 203, 204, 205] (by decide +kernel) (by decide +kernel)
theorem mWd_2_in : GoodIn lw_tbl mWd_2 := mx_good _ [207, 208, 209, 211, 212, 213, 214, 215, 217, 219, 221, 222, 223, 225, 226, 227, 229, 231, 233, 234, 235, 237, 239, 241, 243, 245, 246, 247, 249, 250, 251, 253, 254, 255, 257, 258, 259, 261, 262, 263, 265, 267, 269, 270, 271, 273, 274, 275, 276, 278, 279, 280, 282, 283, 284, 286, 287, 289, 291, 292] (by decide +kernel) (by decide +kernel)
theorem mWd_3_in : GoodIn lw_tbl mWd_3 := mx_good _ [293, 295, 296, 297, 299, 301, 302, 303, 305, 307, 308, 309, 311, 312, 313, 315, 316, 317, 319, 321, 323, 324, 325, 327, 328, 329, 331, 332, 333, 335, 336, 337, 338, 340, 341, 342, 343, 345, 347, 349, 350, 351, 353, 355, 357, 358, 359, 360, 362, 364, 366, 367, 368, 370, 371, 372, 374, 375, 376, 378] (by decide +kernel) (by decide +kernel)
theorem mWd_4_in : GoodIn lw_tbl mWd_4 := mx_good _ [380, 382, 383, 385, 387, 388, 389, 391, 392, 393, 395, 396, 397, 399, 400, 401, 402, 404, 406, 408, 409, 410, 412, 413, 414, 416, 417, 418, 420, 421, 422, 424, 425, 426, 428, 429, 430, 431, 433, 434, 435, 437, 438, 439, 441, 442, 443, 445, 446, 447, 449, 450, 451, 453, 454, 455, 457, 458, 459, 461] (by decide +kernel) (by decide +kernel)
theorem mWd_5_in : GoodIn lw_tbl mWd_5 := mx_good _ [462, 463, 465, 466, 467, 469, 471, 473, 474, 475, 477, 478, 480, 481, 482, 483, 485, 486, 487, 489, 490, 491, 492, 493, 494, 495, 496, 497, 498, 499, 500, 501, 502, 503, 504, 505, 506, 507, 508, 509, 510, 511, 512, 513, 515, 517, 519, 521, 523, 525, 527, 529, 531, 533, 535, 537, 539, 541, 543, 545] (by decide +kernel) (by decide +kernel)
theorem mWd_6_in : GoodIn lw_tbl mWd_6 := mx_good _ [547, 549, 551, 553, 555, 557, 559, 562, 563, 564, 565, 567, 568, 569, 571, 573, 575, 576, 577, 579, 581, 583, 585, 587, 589, 591, 593, 595, 596, 597, 599, 601, 603, 605, 607, 609, 611, 612, 613, 615, 616, 617, 619, 621, 623, 625, 627, 629, 631, 633, 635, 637, 639, 641, 643, 645, 647, 649, 651, 653] (by decide +kernel) (by decide +kernel)
theorem mWd_7_in : GoodIn lw_tbl mWd_7 := mx_good _ [655, 657, 659, 661, 663, 665, 667, 668, 669, 671, 673, 675, 676, 677, 679, 680, 681, 683, 684, 685, 687, 688, 689, 691, 692, 693, 695, 696, 697, 699, 700, 701, 703, 704, 705, 707, 708, 709] (by decide +kernel) (by decide +kernel)
set_option maxRecDepth 100000 in
theorem mCd_0 : Cond.code ⟨"MergeQueue", "<init>", "(III)V"⟩ prog_1_method_1_code 4 (none) ∈ lw_tbl := List.mem_of_getElem? (i := 50) rfl
set_option maxRecDepth 100000 in
theorem mCd_1 : Cond.code ⟨"MergeQueue$Changes", "<init>", "()V"⟩ prog_2_method_1_code 1 (none) ∈ lw_tbl := List.mem_of_getElem? (i := 58) rfl
set_option maxRecDepth 100000 in
theorem mCd_2 : Cond.code ⟨"MergeQueue$Row", "<init>", "()V"⟩ prog_4_method_1_code 1 (none) ∈ lw_tbl := List.mem_of_getElem? (i := 64) rfl
set_option maxRecDepth 100000 in
theorem mCd_3 : Cond.code ⟨"MergeQueue$Groups", "<init>", "()V"⟩ prog_3_method_1_code 1 (none) ∈ lw_tbl := List.mem_of_getElem? (i := 106) rfl
set_option maxRecDepth 100000 in
theorem mCd_4 : Cond.code ⟨"MergeQueue", "nearest", "(II)I"⟩ prog_1_method_2_code 2 (some .int) ∈ lw_tbl := List.mem_of_getElem? (i := 128) rfl
set_option maxRecDepth 100000 in
theorem mCd_5 : Cond.code ⟨"MergeQueue", "change", "(II)I"⟩ prog_1_method_3_code 4 (some .int) ∈ lw_tbl := List.mem_of_getElem? (i := 169) rfl
set_option maxRecDepth 100000 in
theorem mCd_6 : Cond.code ⟨"MergeQueue$Changes", "count", "()I"⟩ prog_2_method_2_code 1 (some .int) ∈ lw_tbl := List.mem_of_getElem? (i := 173) rfl
set_option maxRecDepth 100000 in
theorem mCd_7 : Cond.code ⟨"MergeQueue$Row", "count", "()I"⟩ prog_4_method_2_code 1 (some .int) ∈ lw_tbl := List.mem_of_getElem? (i := 177) rfl
set_option maxRecDepth 100000 in
theorem mCd_8 : Cond.code ⟨"MergeQueue$Changes", "add", "(II)I"⟩ prog_2_method_3_code 4 (some .int) ∈ lw_tbl := List.mem_of_getElem? (i := 181) rfl
set_option maxRecDepth 100000 in
theorem mCd_9 : Cond.code ⟨"MergeQueue$Row", "append", "(I)V"⟩ prog_4_method_7_code 2 (none) ∈ lw_tbl := List.mem_of_getElem? (i := 186) rfl
set_option maxRecDepth 100000 in
theorem mCd_10 : Cond.code ⟨"MergeQueue$Row", "insert", "(II)V"⟩ prog_4_method_8_code 3 (none) ∈ lw_tbl := List.mem_of_getElem? (i := 190) rfl
set_option maxRecDepth 100000 in
theorem mCd_11 : Cond.code ⟨"MergeQueue", "enqueue", "(I)V"⟩ prog_1_method_19_code 3 (none) ∈ lw_tbl := List.mem_of_getElem? (i := 197) rfl
set_option maxRecDepth 100000 in
theorem mCd_12 : Cond.code ⟨"MergeQueue$Row", "at", "(I)I"⟩ prog_4_method_4_code 2 (some .int) ∈ lw_tbl := List.mem_of_getElem? (i := 202) rfl
set_option maxRecDepth 100000 in
theorem mCd_13 : Cond.code ⟨"MergeQueue$Row", "has", "(I)Z"⟩ prog_4_method_3_code 2 (some .boolean) ∈ lw_tbl := List.mem_of_getElem? (i := 206) rfl
set_option maxRecDepth 100000 in
theorem mCd_14 : Cond.code ⟨"MergeQueue$Changes", "isInFront", "(II)Z"⟩ prog_2_method_13_code 3 (some .boolean) ∈ lw_tbl := List.mem_of_getElem? (i := 210) rfl
set_option maxRecDepth 100000 in
theorem mCd_15 : Cond.code ⟨"MergeQueue", "conflict", "(II)I"⟩ prog_1_method_4_code 3 (some .int) ∈ lw_tbl := List.mem_of_getElem? (i := 216) rfl
set_option maxRecDepth 100000 in
theorem mCd_16 : Cond.code ⟨"MergeQueue", "mayConflict", "(II)Z"⟩ prog_1_method_21_code 5 (some .boolean) ∈ lw_tbl := List.mem_of_getElem? (i := 220) rfl
set_option maxRecDepth 100000 in
theorem mCd_17 : Cond.code ⟨"MergeQueue$Changes", "placeOf", "(I)I"⟩ prog_2_method_5_code 2 (some .int) ∈ lw_tbl := List.mem_of_getElem? (i := 224) rfl
set_option maxRecDepth 100000 in
theorem mCd_18 : Cond.code ⟨"MergeQueue$Changes", "areInConflict", "(II)Z"⟩ prog_2_method_14_code 3 (some .boolean) ∈ lw_tbl := List.mem_of_getElem? (i := 228) rfl
set_option maxRecDepth 100000 in
theorem mCd_19 : Cond.code ⟨"MergeQueue$Changes", "isNumber", "(I)Z"⟩ prog_2_method_16_code 2 (some .boolean) ∈ lw_tbl := List.mem_of_getElem? (i := 232) rfl
set_option maxRecDepth 100000 in
theorem mCd_20 : Cond.code ⟨"MergeQueue$Changes", "putInConflict", "(II)V"⟩ prog_2_method_15_code 3 (none) ∈ lw_tbl := List.mem_of_getElem? (i := 236) rfl
set_option maxRecDepth 100000 in
theorem mCd_21 : Cond.code ⟨"MergeQueue", "sendOutClashing", "()V"⟩ prog_1_method_23_code 3 (none) ∈ lw_tbl := List.mem_of_getElem? (i := 240) rfl
set_option maxRecDepth 100000 in
theorem mCd_22 : Cond.code ⟨"MergeQueue", "firstClashInTree", "(I)I"⟩ prog_1_method_24_code 3 (some .int) ∈ lw_tbl := List.mem_of_getElem? (i := 244) rfl
set_option maxRecDepth 100000 in
theorem mCd_23 : Cond.code ⟨"MergeQueue$Row", "removeAt", "(I)V"⟩ prog_4_method_9_code 2 (none) ∈ lw_tbl := List.mem_of_getElem? (i := 248) rfl
set_option maxRecDepth 100000 in
theorem mCd_24 : Cond.code ⟨"MergeQueue$Changes", "putOut", "(II)V"⟩ prog_2_method_8_code 3 (none) ∈ lw_tbl := List.mem_of_getElem? (i := 252) rfl
set_option maxRecDepth 100000 in
theorem mCd_25 : Cond.code ⟨"MergeQueue$Row", "put", "(II)V"⟩ prog_4_method_6_code 3 (none) ∈ lw_tbl := List.mem_of_getElem? (i := 256) rfl
set_option maxRecDepth 100000 in
theorem mCd_26 : Cond.code ⟨"MergeQueue", "jump", "(I)Z"⟩ prog_1_method_5_code 2 (some .boolean) ∈ lw_tbl := List.mem_of_getElem? (i := 260) rfl
set_option maxRecDepth 100000 in
theorem mCd_27 : Cond.code ⟨"MergeQueue$Changes", "hasJumped", "(I)Z"⟩ prog_2_method_11_code 2 (some .boolean) ∈ lw_tbl := List.mem_of_getElem? (i := 264) rfl
set_option maxRecDepth 100000 in
theorem mCd_28 : Cond.code ⟨"MergeQueue", "dequeue", "(I)V"⟩ prog_1_method_20_code 2 (none) ∈ lw_tbl := List.mem_of_getElem? (i := 268) rfl
set_option maxRecDepth 100000 in
theorem mCd_29 : Cond.code ⟨"MergeQueue$Row", "find", "(I)I"⟩ prog_4_method_5_code 3 (some .int) ∈ lw_tbl := List.mem_of_getElem? (i := 272) rfl
set_option maxRecDepth 100000 in
theorem mCd_30 : Cond.code ⟨"MergeQueue$Changes", "giveTurn", "(I)V"⟩ prog_2_method_12_code 2 (none) ∈ lw_tbl := List.mem_of_getElem? (i := 277) rfl
set_option maxRecDepth 100000 in
theorem mCd_31 : Cond.code ⟨"MergeQueue", "leave", "(I)Z"⟩ prog_1_method_6_code 3 (some .boolean) ∈ lw_tbl := List.mem_of_getElem? (i := 281) rfl
set_option maxRecDepth 100000 in
theorem mCd_32 : Cond.code ⟨"MergeQueue$Groups", "takeOut", "(I)V"⟩ prog_3_method_19_code 4 (none) ∈ lw_tbl := List.mem_of_getElem? (i := 285) rfl
set_option maxRecDepth 100000 in
theorem mCd_33 : Cond.code ⟨"MergeQueue$Groups", "groupOfLine", "(I)I"⟩ prog_3_method_20_code 4 (some .int) ∈ lw_tbl := List.mem_of_getElem? (i := 290) rfl
set_option maxRecDepth 100000 in
theorem mCd_34 : Cond.code ⟨"MergeQueue$Groups", "count", "()I"⟩ prog_3_method_2_code 1 (some .int) ∈ lw_tbl := List.mem_of_getElem? (i := 294) rfl
set_option maxRecDepth 100000 in
theorem mCd_35 : Cond.code ⟨"MergeQueue$Groups", "beginAnewFrom", "(I)V"⟩ prog_3_method_21_code 3 (none) ∈ lw_tbl := List.mem_of_getElem? (i := 300) rfl
set_option maxRecDepth 100000 in
theorem mCd_36 : Cond.code ⟨"MergeQueue$Groups", "removeGroup", "(I)V"⟩ prog_3_method_23_code 2 (none) ∈ lw_tbl := List.mem_of_getElem? (i := 306) rfl
set_option maxRecDepth 100000 in
theorem mCd_37 : Cond.code ⟨"MergeQueue", "pause", "(Z)Z"⟩ prog_1_method_7_code 2 (some .boolean) ∈ lw_tbl := List.mem_of_getElem? (i := 310) rfl
set_option maxRecDepth 100000 in
theorem mCd_38 : Cond.code ⟨"MergeQueue", "step", "()I"⟩ prog_1_method_8_code 2 (some .int) ∈ lw_tbl := List.mem_of_getElem? (i := 314) rfl
set_option maxRecDepth 100000 in
theorem mCd_39 : Cond.code ⟨"MergeQueue$Groups", "stateOf", "(I)I"⟩ prog_3_method_5_code 2 (some .int) ∈ lw_tbl := List.mem_of_getElem? (i := 318) rfl
set_option maxRecDepth 100000 in
theorem mCd_40 : Cond.code ⟨"MergeQueue", "land", "()V"⟩ prog_1_method_22_code 4 (none) ∈ lw_tbl := List.mem_of_getElem? (i := 322) rfl
set_option maxRecDepth 100000 in
theorem mCd_41 : Cond.code ⟨"MergeQueue$Groups", "sizeOf", "(I)I"⟩ prog_3_method_7_code 2 (some .int) ∈ lw_tbl := List.mem_of_getElem? (i := 326) rfl
set_option maxRecDepth 100000 in
theorem mCd_42 : Cond.code ⟨"MergeQueue$Groups", "memberAt", "(II)I"⟩ prog_3_method_10_code 3 (some .int) ∈ lw_tbl := List.mem_of_getElem? (i := 330) rfl
set_option maxRecDepth 100000 in
theorem mCd_43 : Cond.code ⟨"MergeQueue$Groups", "baseOf", "(I)I"⟩ prog_3_method_9_code 4 (some .int) ∈ lw_tbl := List.mem_of_getElem? (i := 334) rfl
set_option maxRecDepth 100000 in
theorem mCd_44 : Cond.code ⟨"MergeQueue$Changes", "putPlace", "(II)V"⟩ prog_2_method_6_code 3 (none) ∈ lw_tbl := List.mem_of_getElem? (i := 339) rfl
set_option maxRecDepth 100000 in
theorem mCd_45 : Cond.code ⟨"MergeQueue$Groups", "removeFirst", "()V"⟩ prog_3_method_17_code 3 (none) ∈ lw_tbl := List.mem_of_getElem? (i := 344) rfl
set_option maxRecDepth 100000 in
theorem mCd_46 : Cond.code ⟨"MergeQueue", "halve", "()V"⟩ prog_1_method_25_code 2 (none) ∈ lw_tbl := List.mem_of_getElem? (i := 348) rfl
set_option maxRecDepth 100000 in
theorem mCd_47 : Cond.code ⟨"MergeQueue$Groups", "splitFirst", "()V"⟩ prog_3_method_18_code 3 (none) ∈ lw_tbl := List.mem_of_getElem? (i := 352) rfl
set_option maxRecDepth 100000 in
theorem mCd_48 : Cond.code ⟨"MergeQueue$Groups", "insertGroup", "(II)V"⟩ prog_3_method_22_code 3 (none) ∈ lw_tbl := List.mem_of_getElem? (i := 356) rfl
set_option maxRecDepth 100000 in
theorem mCd_49 : Cond.code ⟨"MergeQueue$Changes", "putTreeSize", "(II)V"⟩ prog_2_method_10_code 3 (none) ∈ lw_tbl := List.mem_of_getElem? (i := 361) rfl
set_option maxRecDepth 100000 in
theorem mCd_50 : Cond.code ⟨"MergeQueue", "askNext", "()Z"⟩ prog_1_method_26_code 2 (some .boolean) ∈ lw_tbl := List.mem_of_getElem? (i := 365) rfl
set_option maxRecDepth 100000 in
theorem mCd_51 : Cond.code ⟨"MergeQueue$Groups", "nextToAsk", "()I"⟩ prog_3_method_13_code 2 (some .int) ∈ lw_tbl := List.mem_of_getElem? (i := 369) rfl
set_option maxRecDepth 100000 in
theorem mCd_52 : Cond.code ⟨"MergeQueue$Groups", "countAsked", "()I"⟩ prog_3_method_12_code 3 (some .int) ∈ lw_tbl := List.mem_of_getElem? (i := 373) rfl
set_option maxRecDepth 100000 in
theorem mCd_53 : Cond.code ⟨"MergeQueue$Groups", "putState", "(II)V"⟩ prog_3_method_6_code 3 (none) ∈ lw_tbl := List.mem_of_getElem? (i := 377) rfl
set_option maxRecDepth 100000 in
theorem mCd_54 : Cond.code ⟨"MergeQueue", "formNext", "()Z"⟩ prog_1_method_27_code 4 (some .boolean) ∈ lw_tbl := List.mem_of_getElem? (i := 381) rfl
set_option maxRecDepth 100000 in
theorem mCd_55 : Cond.code ⟨"MergeQueue", "clashesWithGroups", "(I)Z"⟩ prog_1_method_28_code 3 (some .boolean) ∈ lw_tbl := List.mem_of_getElem? (i := 386) rfl
set_option maxRecDepth 100000 in
theorem mCd_56 : Cond.code ⟨"MergeQueue$Groups", "lineLength", "()I"⟩ prog_3_method_3_code 1 (some .int) ∈ lw_tbl := List.mem_of_getElem? (i := 390) rfl
set_option maxRecDepth 100000 in
theorem mCd_57 : Cond.code ⟨"MergeQueue$Groups", "inLine", "(I)I"⟩ prog_3_method_4_code 2 (some .int) ∈ lw_tbl := List.mem_of_getElem? (i := 394) rfl
set_option maxRecDepth 100000 in
theorem mCd_58 : Cond.code ⟨"MergeQueue$Groups", "appendToLine", "(I)V"⟩ prog_3_method_15_code 2 (none) ∈ lw_tbl := List.mem_of_getElem? (i := 398) rfl
set_option maxRecDepth 100000 in
theorem mCd_59 : Cond.code ⟨"MergeQueue$Groups", "closeLast", "(I)V"⟩ prog_3_method_16_code 2 (none) ∈ lw_tbl := List.mem_of_getElem? (i := 403) rfl
set_option maxRecDepth 100000 in
theorem mCd_60 : Cond.code ⟨"MergeQueue", "dropGroupedFromQueue", "()V"⟩ prog_1_method_29_code 2 (none) ∈ lw_tbl := List.mem_of_getElem? (i := 407) rfl
set_option maxRecDepth 100000 in
theorem mCd_61 : Cond.code ⟨"MergeQueue", "answer", "(IZ)I"⟩ prog_1_method_9_code 3 (some .int) ∈ lw_tbl := List.mem_of_getElem? (i := 411) rfl
set_option maxRecDepth 100000 in
theorem mCd_62 : Cond.code ⟨"MergeQueue$Groups", "addFailure", "(II)V"⟩ prog_3_method_14_code 3 (none) ∈ lw_tbl := List.mem_of_getElem? (i := 415) rfl
set_option maxRecDepth 100000 in
theorem mCd_63 : Cond.code ⟨"MergeQueue", "groups", "()I"⟩ prog_1_method_10_code 1 (some .int) ∈ lw_tbl := List.mem_of_getElem? (i := 419) rfl
set_option maxRecDepth 100000 in
theorem mCd_64 : Cond.code ⟨"MergeQueue", "group", "(II)I"⟩ prog_1_method_11_code 3 (some .int) ∈ lw_tbl := List.mem_of_getElem? (i := 423) rfl
set_option maxRecDepth 100000 in
theorem mCd_65 : Cond.code ⟨"MergeQueue$Groups", "failuresOf", "(I)I"⟩ prog_3_method_8_code 2 (some .int) ∈ lw_tbl := List.mem_of_getElem? (i := 427) rfl
set_option maxRecDepth 100000 in
theorem mCd_66 : Cond.code ⟨"MergeQueue", "member", "(II)I"⟩ prog_1_method_12_code 3 (some .int) ∈ lw_tbl := List.mem_of_getElem? (i := 432) rfl
set_option maxRecDepth 100000 in
theorem mCd_67 : Cond.code ⟨"MergeQueue", "waiting", "(I)I"⟩ prog_1_method_13_code 2 (some .int) ∈ lw_tbl := List.mem_of_getElem? (i := 436) rfl
set_option maxRecDepth 100000 in
theorem mCd_68 : Cond.code ⟨"MergeQueue", "landed", "(I)I"⟩ prog_1_method_14_code 2 (some .int) ∈ lw_tbl := List.mem_of_getElem? (i := 440) rfl
set_option maxRecDepth 100000 in
theorem mCd_69 : Cond.code ⟨"MergeQueue", "where", "(I)I"⟩ prog_1_method_15_code 2 (some .int) ∈ lw_tbl := List.mem_of_getElem? (i := 444) rfl
set_option maxRecDepth 100000 in
theorem mCd_70 : Cond.code ⟨"MergeQueue", "why", "(I)I"⟩ prog_1_method_16_code 2 (some .int) ∈ lw_tbl := List.mem_of_getElem? (i := 448) rfl
set_option maxRecDepth 100000 in
theorem mCd_71 : Cond.code ⟨"MergeQueue$Changes", "reasonOf", "(I)I"⟩ prog_2_method_7_code 2 (some .int) ∈ lw_tbl := List.mem_of_getElem? (i := 452) rfl
set_option maxRecDepth 100000 in
theorem mCd_72 : Cond.code ⟨"MergeQueue", "by", "(I)I"⟩ prog_1_method_17_code 2 (some .int) ∈ lw_tbl := List.mem_of_getElem? (i := 456) rfl
set_option maxRecDepth 100000 in
theorem mCd_73 : Cond.code ⟨"MergeQueue$Changes", "treeSizeOf", "(I)I"⟩ prog_2_method_9_code 2 (some .int) ∈ lw_tbl := List.mem_of_getElem? (i := 460) rfl
set_option maxRecDepth 100000 in
theorem mCd_74 : Cond.code ⟨"MergeQueue", "counted", "(I)I"⟩ prog_1_method_18_code 2 (some .int) ∈ lw_tbl := List.mem_of_getElem? (i := 464) rfl
set_option maxRecDepth 100000 in
theorem mCd_75 : Cond.code ⟨"MergeQueue$Groups", "countAskedInVain", "()I"⟩ prog_3_method_11_code 1 (some .int) ∈ lw_tbl := List.mem_of_getElem? (i := 468) rfl
set_option maxRecDepth 100000 in
theorem mCd_76 : Cond.code ⟨"MergeQueue", "partsOfTree", "()I"⟩ prog_1_method_30_code 3 (some .int) ∈ lw_tbl := List.mem_of_getElem? (i := 472) rfl
set_option maxRecDepth 100000 in
theorem mCd_77 : Cond.code ⟨"MergeQueue$Changes", "partsOf", "(I)I"⟩ prog_2_method_4_code 2 (some .int) ∈ lw_tbl := List.mem_of_getElem? (i := 476) rfl
set_option maxRecDepth 100000 in
theorem mCd_78 : Cond.code ⟨"MergeQueueLaw", "cell", "([II)I"⟩ method_2_code 2 (some .int) ∈ lw_tbl := List.mem_of_getElem? (i := 479) rfl
set_option maxRecDepth 100000 in
theorem mCd_79 : Cond.code ⟨"MergeQueueModel", "<init>", "(III)V"⟩ prog_6_method_1_code 4 (none) ∈ lw_tbl := List.mem_of_getElem? (i := 484) rfl
set_option maxRecDepth 100000 in
theorem mCd_80 : Cond.code ⟨"MergeQueueModel", "within", "(II)I"⟩ prog_6_method_2_code 2 (some .int) ∈ lw_tbl := List.mem_of_getElem? (i := 488) rfl
set_option maxRecDepth 100000 in
theorem mCd_81 : Cond.code ⟨"MergeQueueModel", "change", "(II)I"⟩ prog_6_method_5_code 3 (some .int) ∈ lw_tbl := List.mem_of_getElem? (i := 566) rfl
set_option maxRecDepth 100000 in
theorem mCd_82 : Cond.code ⟨"MergeQueueModel", "jump", "(I)Z"⟩ prog_6_method_8_code 2 (some .boolean) ∈ lw_tbl := List.mem_of_getElem? (i := 570) rfl
set_option maxRecDepth 100000 in
theorem mCd_83 : Cond.code ⟨"MergeQueueModel", "isChange", "(I)Z"⟩ prog_6_method_4_code 2 (some .boolean) ∈ lw_tbl := List.mem_of_getElem? (i := 574) rfl
set_option maxRecDepth 100000 in
theorem mCd_84 : Cond.code ⟨"MergeQueueModel", "conflict", "(II)I"⟩ prog_6_method_13_code 3 (some .int) ∈ lw_tbl := List.mem_of_getElem? (i := 578) rfl
set_option maxRecDepth 100000 in
theorem mCd_85 : Cond.code ⟨"MergeQueueModel", "isOpen", "(I)Z"⟩ prog_6_method_12_code 2 (some .boolean) ∈ lw_tbl := List.mem_of_getElem? (i := 582) rfl
set_option maxRecDepth 100000 in
theorem mCd_86 : Cond.code ⟨"MergeQueueModel", "isConflict", "(II)Z"⟩ prog_6_method_9_code 3 (some .boolean) ∈ lw_tbl := List.mem_of_getElem? (i := 586) rfl
set_option maxRecDepth 100000 in
theorem mCd_87 : Cond.code ⟨"MergeQueueModel", "clear", "()V"⟩ prog_6_method_11_code 2 (none) ∈ lw_tbl := List.mem_of_getElem? (i := 590) rfl
set_option maxRecDepth 100000 in
theorem mCd_88 : Cond.code ⟨"MergeQueueModel", "inTree", "(I)I"⟩ prog_6_method_10_code 3 (some .int) ∈ lw_tbl := List.mem_of_getElem? (i := 594) rfl
set_option maxRecDepth 100000 in
theorem mCd_89 : Cond.code ⟨"MergeQueueModel", "leave", "(I)Z"⟩ prog_6_method_22_code 4 (some .boolean) ∈ lw_tbl := List.mem_of_getElem? (i := 598) rfl
set_option maxRecDepth 100000 in
theorem mCd_90 : Cond.code ⟨"MergeQueueModel", "inLane", "(I)I"⟩ prog_6_method_21_code 3 (some .int) ∈ lw_tbl := List.mem_of_getElem? (i := 602) rfl
set_option maxRecDepth 100000 in
theorem mCd_91 : Cond.code ⟨"MergeQueueModel", "beginAnew", "(I)V"⟩ prog_6_method_19_code 4 (none) ∈ lw_tbl := List.mem_of_getElem? (i := 606) rfl
set_option maxRecDepth 100000 in
theorem mCd_92 : Cond.code ⟨"MergeQueueModel", "goFrom", "(I)V"⟩ prog_6_method_20_code 5 (none) ∈ lw_tbl := List.mem_of_getElem? (i := 610) rfl
set_option maxRecDepth 100000 in
theorem mCd_93 : Cond.code ⟨"MergeQueueModel", "pause", "(Z)Z"⟩ prog_6_method_23_code 3 (some .boolean) ∈ lw_tbl := List.mem_of_getElem? (i := 614) rfl
set_option maxRecDepth 100000 in
theorem mCd_94 : Cond.code ⟨"MergeQueueModel", "step", "()I"⟩ prog_6_method_30_code 2 (some .int) ∈ lw_tbl := List.mem_of_getElem? (i := 618) rfl
set_option maxRecDepth 100000 in
theorem mCd_95 : Cond.code ⟨"MergeQueueModel", "stateOf", "(I)I"⟩ prog_6_method_18_code 2 (some .int) ∈ lw_tbl := List.mem_of_getElem? (i := 622) rfl
set_option maxRecDepth 100000 in
theorem mCd_96 : Cond.code ⟨"MergeQueueModel", "startOf", "(I)I"⟩ prog_6_method_14_code 4 (some .int) ∈ lw_tbl := List.mem_of_getElem? (i := 626) rfl
set_option maxRecDepth 100000 in
theorem mCd_97 : Cond.code ⟨"MergeQueueModel", "land", "()V"⟩ prog_6_method_24_code 4 (none) ∈ lw_tbl := List.mem_of_getElem? (i := 630) rfl
set_option maxRecDepth 100000 in
theorem mCd_98 : Cond.code ⟨"MergeQueueModel", "sizeOf", "(I)I"⟩ prog_6_method_17_code 2 (some .int) ∈ lw_tbl := List.mem_of_getElem? (i := 634) rfl
set_option maxRecDepth 100000 in
theorem mCd_99 : Cond.code ⟨"MergeQueueModel", "halve", "()V"⟩ prog_6_method_25_code 3 (none) ∈ lw_tbl := List.mem_of_getElem? (i := 638) rfl
set_option maxRecDepth 100000 in
theorem mCd_100 : Cond.code ⟨"MergeQueueModel", "ask", "()Z"⟩ prog_6_method_26_code 4 (some .boolean) ∈ lw_tbl := List.mem_of_getElem? (i := 642) rfl
set_option maxRecDepth 100000 in
theorem mCd_101 : Cond.code ⟨"MergeQueueModel", "groupMany", "()I"⟩ prog_6_method_15_code 3 (some .int) ∈ lw_tbl := List.mem_of_getElem? (i := 646) rfl
set_option maxRecDepth 100000 in
theorem mCd_102 : Cond.code ⟨"MergeQueueModel", "setState", "(II)V"⟩ prog_6_method_27_code 5 (none) ∈ lw_tbl := List.mem_of_getElem? (i := 650) rfl
set_option maxRecDepth 100000 in
theorem mCd_103 : Cond.code ⟨"MergeQueueModel", "form", "()Z"⟩ prog_6_method_29_code 4 (some .boolean) ∈ lw_tbl := List.mem_of_getElem? (i := 654) rfl
set_option maxRecDepth 100000 in
theorem mCd_104 : Cond.code ⟨"MergeQueueModel", "waitingAt", "(I)I"⟩ prog_6_method_7_code 5 (some .int) ∈ lw_tbl := List.mem_of_getElem? (i := 658) rfl
set_option maxRecDepth 100000 in
theorem mCd_105 : Cond.code ⟨"MergeQueueModel", "isBefore", "(II)Z"⟩ prog_6_method_6_code 3 (some .boolean) ∈ lw_tbl := List.mem_of_getElem? (i := 662) rfl
set_option maxRecDepth 100000 in
theorem mCd_106 : Cond.code ⟨"MergeQueueModel", "isBarred", "(I)Z"⟩ prog_6_method_28_code 4 (some .boolean) ∈ lw_tbl := List.mem_of_getElem? (i := 666) rfl
set_option maxRecDepth 100000 in
theorem mCd_107 : Cond.code ⟨"MergeQueueModel", "answer", "(IZ)I"⟩ prog_6_method_31_code 7 (some .int) ∈ lw_tbl := List.mem_of_getElem? (i := 670) rfl
set_option maxRecDepth 100000 in
theorem mCd_108 : Cond.code ⟨"MergeQueueModel", "isGroup", "(I)Z"⟩ prog_6_method_16_code 2 (some .boolean) ∈ lw_tbl := List.mem_of_getElem? (i := 674) rfl
set_option maxRecDepth 100000 in
theorem mCd_109 : Cond.code ⟨"MergeQueueModel", "groups", "()I"⟩ prog_6_method_32_code 1 (some .int) ∈ lw_tbl := List.mem_of_getElem? (i := 678) rfl
set_option maxRecDepth 100000 in
theorem mCd_110 : Cond.code ⟨"MergeQueueModel", "group", "(II)I"⟩ prog_6_method_33_code 3 (some .int) ∈ lw_tbl := List.mem_of_getElem? (i := 682) rfl
set_option maxRecDepth 100000 in
theorem mCd_111 : Cond.code ⟨"MergeQueueModel", "member", "(II)I"⟩ prog_6_method_34_code 3 (some .int) ∈ lw_tbl := List.mem_of_getElem? (i := 686) rfl
set_option maxRecDepth 100000 in
theorem mCd_112 : Cond.code ⟨"MergeQueueModel", "waiting", "(I)I"⟩ prog_6_method_35_code 2 (some .int) ∈ lw_tbl := List.mem_of_getElem? (i := 690) rfl
set_option maxRecDepth 100000 in
theorem mCd_113 : Cond.code ⟨"MergeQueueModel", "landed", "(I)I"⟩ prog_6_method_36_code 2 (some .int) ∈ lw_tbl := List.mem_of_getElem? (i := 694) rfl
set_option maxRecDepth 100000 in
theorem mCd_114 : Cond.code ⟨"MergeQueueModel", "where", "(I)I"⟩ prog_6_method_37_code 2 (some .int) ∈ lw_tbl := List.mem_of_getElem? (i := 698) rfl
set_option maxRecDepth 100000 in
theorem mCd_115 : Cond.code ⟨"MergeQueueModel", "why", "(I)I"⟩ prog_6_method_38_code 2 (some .int) ∈ lw_tbl := List.mem_of_getElem? (i := 702) rfl
set_option maxRecDepth 100000 in
theorem mCd_116 : Cond.code ⟨"MergeQueueModel", "by", "(I)I"⟩ prog_6_method_39_code 2 (some .int) ∈ lw_tbl := List.mem_of_getElem? (i := 706) rfl
set_option maxRecDepth 100000 in
theorem mCd_117 : Cond.code ⟨"MergeQueueModel", "counted", "(I)I"⟩ prog_6_method_40_code 4 (some .int) ∈ lw_tbl := List.mem_of_getElem? (i := 710) rfl
set_option maxRecDepth 100000 in
theorem mCd : ∀ k, k < mRecs.length → Cond.code (m_rec k).1 (m_rec k).2.1 (m_rec k).2.2.1 (m_rec k).2.2.2.1 ∈ lw_tbl
  | 0, _ => mCd_0
  | 1, _ => mCd_1
  | 2, _ => mCd_2
  | 3, _ => mCd_3
  | 4, _ => mCd_4
  | 5, _ => mCd_5
  | 6, _ => mCd_6
  | 7, _ => mCd_7
  | 8, _ => mCd_8
  | 9, _ => mCd_9
  | 10, _ => mCd_10
  | 11, _ => mCd_11
  | 12, _ => mCd_12
  | 13, _ => mCd_13
  | 14, _ => mCd_14
  | 15, _ => mCd_15
  | 16, _ => mCd_16
  | 17, _ => mCd_17
  | 18, _ => mCd_18
  | 19, _ => mCd_19
  | 20, _ => mCd_20
  | 21, _ => mCd_21
  | 22, _ => mCd_22
  | 23, _ => mCd_23
  | 24, _ => mCd_24
  | 25, _ => mCd_25
  | 26, _ => mCd_26
  | 27, _ => mCd_27
  | 28, _ => mCd_28
  | 29, _ => mCd_29
  | 30, _ => mCd_30
  | 31, _ => mCd_31
  | 32, _ => mCd_32
  | 33, _ => mCd_33
  | 34, _ => mCd_34
  | 35, _ => mCd_35
  | 36, _ => mCd_36
  | 37, _ => mCd_37
  | 38, _ => mCd_38
  | 39, _ => mCd_39
  | 40, _ => mCd_40
  | 41, _ => mCd_41
  | 42, _ => mCd_42
  | 43, _ => mCd_43
  | 44, _ => mCd_44
  | 45, _ => mCd_45
  | 46, _ => mCd_46
  | 47, _ => mCd_47
  | 48, _ => mCd_48
  | 49, _ => mCd_49
  | 50, _ => mCd_50
  | 51, _ => mCd_51
  | 52, _ => mCd_52
  | 53, _ => mCd_53
  | 54, _ => mCd_54
  | 55, _ => mCd_55
  | 56, _ => mCd_56
  | 57, _ => mCd_57
  | 58, _ => mCd_58
  | 59, _ => mCd_59
  | 60, _ => mCd_60
  | 61, _ => mCd_61
  | 62, _ => mCd_62
  | 63, _ => mCd_63
  | 64, _ => mCd_64
  | 65, _ => mCd_65
  | 66, _ => mCd_66
  | 67, _ => mCd_67
  | 68, _ => mCd_68
  | 69, _ => mCd_69
  | 70, _ => mCd_70
  | 71, _ => mCd_71
  | 72, _ => mCd_72
  | 73, _ => mCd_73
  | 74, _ => mCd_74
  | 75, _ => mCd_75
  | 76, _ => mCd_76
  | 77, _ => mCd_77
  | 78, _ => mCd_78
  | 79, _ => mCd_79
  | 80, _ => mCd_80
  | 81, _ => mCd_81
  | 82, _ => mCd_82
  | 83, _ => mCd_83
  | 84, _ => mCd_84
  | 85, _ => mCd_85
  | 86, _ => mCd_86
  | 87, _ => mCd_87
  | 88, _ => mCd_88
  | 89, _ => mCd_89
  | 90, _ => mCd_90
  | 91, _ => mCd_91
  | 92, _ => mCd_92
  | 93, _ => mCd_93
  | 94, _ => mCd_94
  | 95, _ => mCd_95
  | 96, _ => mCd_96
  | 97, _ => mCd_97
  | 98, _ => mCd_98
  | 99, _ => mCd_99
  | 100, _ => mCd_100
  | 101, _ => mCd_101
  | 102, _ => mCd_102
  | 103, _ => mCd_103
  | 104, _ => mCd_104
  | 105, _ => mCd_105
  | 106, _ => mCd_106
  | 107, _ => mCd_107
  | 108, _ => mCd_108
  | 109, _ => mCd_109
  | 110, _ => mCd_110
  | 111, _ => mCd_111
  | 112, _ => mCd_112
  | 113, _ => mCd_113
  | 114, _ => mCd_114
  | 115, _ => mCd_115
  | 116, _ => mCd_116
  | 117, _ => mCd_117
  | n + 118, h => absurd h (by have e : mRecs.length = 118 := rfl; omega)
theorem mCodes_in : GoodIn lw_tbl mCodes := by
  intro w hw
  obtain ⟨r, hr, rfl⟩ := List.mem_map.mp hw
  obtain ⟨k, hk⟩ := List.getElem?_of_mem hr
  have hl : k < mRecs.length := (List.getElem?_eq_some_iff.mp hk).1
  have h1 := mCd k hl
  have e : m_rec k = r := by
    unfold m_rec
    rw [List.getD_eq_getElem?_getD, List.getElem?_append_left hl, hk]
    rfl
  rw [e] at h1
  exact ⟨h1, Or.inl rfl⟩
theorem mSel_in : GoodIn lw_tbl mSel := by
  intro w hw
  refine ⟨List.mem_append_left _ hw, ?_⟩
  obtain ⟨q, -, rfl⟩ := List.mem_map.mp hw
  exact Or.inl rfl
theorem mTb_in : GoodIn lw_tbl mTb := mx_app mCodes_in (mx_app mSel_in (mx_app mWd_0_in (mx_app mWd_1_in (mx_app mWd_2_in (mx_app mWd_3_in (mx_app mWd_4_in (mx_app mWd_5_in (mx_app mWd_6_in (mWd_7_in)))))))))
theorem mNw_is : ∀ w ∈ mNw, ∃ a i x y, w = Cond.methodLinkNest a i x y := by
  intro w hw
  simp only [mNw, List.mem_cons, List.not_mem_nil, or_false] at hw
  rcases hw with rfl | rfl | rfl | rfl | rfl <;> exact ⟨_, _, _, _, rfl⟩
theorem mNw_tab : ∀ w ∈ mNw, w.onTables = true := by
  intro w hw
  obtain ⟨a, i, x, y, rfl⟩ := mNw_is w hw
  rfl
theorem mNw_in : ∀ w ∈ mNw, w ∈ lw_tbl := by
  intro w hw
  have h : mNw = ([56, 62, 101, 104, 109] : List Nat).filterMap (fun i => lw_tbl[i]?) := by decide +kernel
  rw [h] at hw
  obtain ⟨i, -, hi⟩ := List.mem_filterMap.mp hw
  exact List.mem_of_getElem? hi
def m_w (k : Nat) : List Cond := Cond.code (m_y k) (m_b k) (m_l k) (m_r k) :: mTb
def m_kd (k : Nat) : Nat := (m_rec k).2.2.2.2.2.1
def m_na (k : Nat) : Nat := (m_rec k).2.2.2.2.2.2
def m_jo : Instr → Option Int
  | .if_icmp _ o => some o
  | .ifCond _ o => some o
  | .goto o => some o
  | .tableswitch o _ _ _ => some o
  | .lookupswitch o _ => some o
  | _ => none
def m_fk (own : String) (idx ci sl : Nat) : Bool := match mCl[ci]? with
  | some r => decide (sl < r.2.2) && decide (Cond.fieldLink own idx (r.2.1 sl).1 (r.2.1 sl).2.1 (r.2.1 sl).2.2.1 ∈ mTb)
  | none => false
def m_pk (y : MethodName) (ci sl : Nat) : Bool := match mCl[ci]? with
  | some r => !(r.2.1 sl).2.2.2 || ((r.2.1 sl).2.2.2 && (y.name == "<init>" && (r.2.1 sl).1 == y.cls))
  | none => false
def m_nk (own : String) (idx ci n : Nat) : Bool := match mCl[ci]? with
  | some r => r.2.2 == n && (decide (Cond.classLink own idx r.1 ∈ mTb) && (decide (Cond.instantiable r.1 r.2.2 ∈ mTb) && decide (Cond.initialized r.1 ∈ mTb)))
  | none => false
def m_ik (k idx a1 a2 : Nat) : Bool := decide (a1 < mRecs.length) && (m_kd a1 == 1 && (a2 == m_na a1 + 1 && (decide (Cond.methodLink (m_y k).cls idx (m_y a1) ∈ mTb) || decide (Cond.methodLinkNest (m_y k).cls idx (m_y a1) "MergeQueue" ∈ mNw))))
def m_sk (k idx a1 a2 : Nat) : Bool := decide (a1 < mRecs.length) && (m_kd a1 == 2 && (a2 == m_na a1 && (decide (Cond.methodLink (m_y k).cls idx (m_y a1) ∈ mTb) && (m_y a1).cls == (m_y k).cls)))
def m_lnk (k : Nat) (ins : Instr) (a1 a2 : Nat) : Bool := match ins with
  | .getfield idx => m_fk (m_y k).cls idx a1 a2
  | .putfield idx => m_fk (m_y k).cls idx a1 a2 && m_pk (m_y k) a1 a2
  | .new idx => m_nk (m_y k).cls idx a1 a2
  | .newarray t => decide (Cond.arrayClass (newarray.typeOf t) ∈ mTb)
  | .invokevirtual idx => decide (a1 < mRecs.length) && (m_kd a1 == 0 && (a2 == m_na a1 + 1 && decide (Cond.methodLink (m_y k).cls idx (m_y a1) ∈ mTb)))
  | .invokespecial idx => if a1 = 999 then decide (Cond.methodLink (m_y k).cls idx objectInit ∈ mTb) else m_ik k idx a1 a2
  | .invokestatic idx => if a1 = 998 then decide (Cond.methodLink (m_y k).cls idx Lib.Math.max.name ∈ mTb) else if a1 = 997 then decide (Cond.methodLink (m_y k).cls idx Lib.Math.min.name ∈ mTb) else if a1 = 996 then decide (Cond.methodLink (m_y k).cls idx arraycopyName ∈ mTb) else m_sk k idx a1 a2
  | _ => true
def m_chk (k : Nat) (q : mRow) : Bool := decide (decode (m_b k) q.1 = .ok (q.2.1, q.2.2.1)) && ((q.2.2.2.1 == q.1 + q.2.2.1) && ((match m_jo q.2.1 with
  | some o => decide ((q.1 : Int) + o = (q.2.2.2.2.1 : Int))
  | none => true) && m_lnk k q.2.1 q.2.2.2.2.1 q.2.2.2.2.2))
def m_mk (r : mRec) : Bool := plainName r.1.cls && (decide (r.2.2.1 ≤ 14) && (decide (r.1.cls ≠ "java/lang/invoke/MethodHandle") && (decide (r.1.cls ≠ "java/lang/invoke/VarHandle") && (decide ((parseMethodDescriptor r.1.desc).map (fun d => d.parameters.length) = some r.2.2.2.2.2.2) && (decide (Cond.initialized r.1.cls ∈ mTb) && (match r.2.2.2.2.2.1 with
  | 0 => decide (Cond.instanceMethod r.1 ∈ mTb) && (decide (Cond.selects r.1.cls r.1 r.1 ∈ mTb) && decide (mCl[r.2.2.2.2.1]?.map (fun q => q.1) = some r.1.cls))
  | 1 => decide (Cond.instanceMethod r.1 ∈ mTb) && (decide (r.1.name = "<init>") && decide (r.2.2.2.1 = none))
  | _ => decide (Cond.static r.1 ∈ mTb)))))))
set_option maxRecDepth 100000 in
theorem m_mk_0 : ((mRecs.drop 0).take 20).all m_mk = true := by decide +kernel
set_option maxRecDepth 100000 in
theorem m_mk_1 : ((mRecs.drop 20).take 20).all m_mk = true := by decide +kernel
set_option maxRecDepth 100000 in
theorem m_mk_2 : ((mRecs.drop 40).take 20).all m_mk = true := by decide +kernel
set_option maxRecDepth 100000 in
theorem m_mk_3 : ((mRecs.drop 60).take 20).all m_mk = true := by decide +kernel
set_option maxRecDepth 100000 in
theorem m_mk_4 : ((mRecs.drop 80).take 20).all m_mk = true := by decide +kernel
set_option maxRecDepth 100000 in
theorem m_mk_5 : ((mRecs.drop 100).take 20).all m_mk = true := by decide +kernel
theorem m_mk_all : ∀ k, k < mRecs.length → m_mk (m_rec k) = true := by
  intro k hk
  have e : m_rec k = mRecs[k] := by
    unfold m_rec
    rw [List.getD_eq_getElem?_getD, List.getElem?_append_left hk, List.getElem?_eq_getElem hk]
    rfl
  rw [e]
  have key : ∀ j n : Nat, ((mRecs.drop j).take n).all m_mk = true → j ≤ k → k < j + n → m_mk mRecs[k] = true := by
    intro j n h h1 h2
    refine List.all_eq_true.mp h _ ?_
    refine List.mem_of_getElem? (i := k - j) ?_
    rw [List.getElem?_take, if_pos (by omega), List.getElem?_drop, show j + (k - j) = k by omega, List.getElem?_eq_getElem hk]
  have hl : mRecs.length = 118 := by decide +kernel
  rw [hl] at hk
  by_cases h0 : k < 20
  · exact key 0 20 m_mk_0 (by omega) (by omega)
  by_cases h1 : k < 40
  · exact key 20 20 m_mk_1 (by omega) (by omega)
  by_cases h2 : k < 60
  · exact key 40 20 m_mk_2 (by omega) (by omega)
  by_cases h3 : k < 80
  · exact key 60 20 m_mk_3 (by omega) (by omega)
  by_cases h4 : k < 100
  · exact key 80 20 m_mk_4 (by omega) (by omega)
  by_cases h5 : k < 120
  · exact key 100 20 m_mk_5 (by omega) (by omega)
  omega
