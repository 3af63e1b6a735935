section
-- ===== PART A: goes FIRST, ahead of the names: the tables' words, and 'selects' of the private methods out of them =====
/-- a private method of a class that the tables say can be made, by its rows of tables_1 -/
def lw_okq (q : MethodName × Nat) : Prop := (q.1.cls ≠ "java/lang/invoke/MethodHandle" ∧ q.1.cls ≠ "java/lang/invoke/VarHandle") ∧ Cond.instantiable q.1.cls q.2 ∈ tables_1 ∧ Cond.privateMethod q.1 ∈ tables_1 ∧ Cond.instanceMethod q.1 ∈ tables_1
theorem lw_p0 : lw_okq (⟨"MergeQueue", "enqueue", "(I)V"⟩, 10) := ⟨⟨by decide +kernel, by decide +kernel⟩, List.mem_of_getElem? (i := 9) (by decide +kernel), List.mem_of_getElem? (i := 157) (by decide +kernel), List.mem_of_getElem? (i := 158) (by decide +kernel)⟩
theorem lw_p1 : lw_okq (⟨"MergeQueue", "mayConflict", "(II)Z"⟩, 10) := ⟨⟨by decide +kernel, by decide +kernel⟩, List.mem_of_getElem? (i := 9) (by decide +kernel), List.mem_of_getElem? (i := 180) (by decide +kernel), List.mem_of_getElem? (i := 181) (by decide +kernel)⟩
theorem lw_p2 : lw_okq (⟨"MergeQueue$Changes", "isNumber", "(I)Z"⟩, 8) := ⟨⟨by decide +kernel, by decide +kernel⟩, List.mem_of_getElem? (i := 17) (by decide +kernel), List.mem_of_getElem? (i := 192) (by decide +kernel), List.mem_of_getElem? (i := 193) (by decide +kernel)⟩
theorem lw_p3 : lw_okq (⟨"MergeQueue", "sendOutClashing", "()V"⟩, 10) := ⟨⟨by decide +kernel, by decide +kernel⟩, List.mem_of_getElem? (i := 9) (by decide +kernel), List.mem_of_getElem? (i := 200) (by decide +kernel), List.mem_of_getElem? (i := 201) (by decide +kernel)⟩
theorem lw_p4 : lw_okq (⟨"MergeQueue", "firstClashInTree", "(I)I"⟩, 10) := ⟨⟨by decide +kernel, by decide +kernel⟩, List.mem_of_getElem? (i := 9) (by decide +kernel), List.mem_of_getElem? (i := 204) (by decide +kernel), List.mem_of_getElem? (i := 205) (by decide +kernel)⟩
theorem lw_p5 : lw_okq (⟨"MergeQueue", "dequeue", "(I)V"⟩, 10) := ⟨⟨by decide +kernel, by decide +kernel⟩, List.mem_of_getElem? (i := 9) (by decide +kernel), List.mem_of_getElem? (i := 228) (by decide +kernel), List.mem_of_getElem? (i := 229) (by decide +kernel)⟩
theorem lw_p6 : lw_okq (⟨"MergeQueue$Groups", "groupOfLine", "(I)I"⟩, 5) := ⟨⟨by decide +kernel, by decide +kernel⟩, List.mem_of_getElem? (i := 65) (by decide +kernel), List.mem_of_getElem? (i := 250) (by decide +kernel), List.mem_of_getElem? (i := 251) (by decide +kernel)⟩
theorem lw_p7 : lw_okq (⟨"MergeQueue$Groups", "beginAnewFrom", "(I)V"⟩, 5) := ⟨⟨by decide +kernel, by decide +kernel⟩, List.mem_of_getElem? (i := 65) (by decide +kernel), List.mem_of_getElem? (i := 260) (by decide +kernel), List.mem_of_getElem? (i := 261) (by decide +kernel)⟩
theorem lw_p8 : lw_okq (⟨"MergeQueue$Groups", "removeGroup", "(I)V"⟩, 5) := ⟨⟨by decide +kernel, by decide +kernel⟩, List.mem_of_getElem? (i := 65) (by decide +kernel), List.mem_of_getElem? (i := 266) (by decide +kernel), List.mem_of_getElem? (i := 267) (by decide +kernel)⟩
theorem lw_p9 : lw_okq (⟨"MergeQueue", "land", "()V"⟩, 10) := ⟨⟨by decide +kernel, by decide +kernel⟩, List.mem_of_getElem? (i := 9) (by decide +kernel), List.mem_of_getElem? (i := 282) (by decide +kernel), List.mem_of_getElem? (i := 283) (by decide +kernel)⟩
theorem lw_p10 : lw_okq (⟨"MergeQueue", "halve", "()V"⟩, 10) := ⟨⟨by decide +kernel, by decide +kernel⟩, List.mem_of_getElem? (i := 9) (by decide +kernel), List.mem_of_getElem? (i := 308) (by decide +kernel), List.mem_of_getElem? (i := 309) (by decide +kernel)⟩
theorem lw_p11 : lw_okq (⟨"MergeQueue$Groups", "insertGroup", "(II)V"⟩, 5) := ⟨⟨by decide +kernel, by decide +kernel⟩, List.mem_of_getElem? (i := 65) (by decide +kernel), List.mem_of_getElem? (i := 316) (by decide +kernel), List.mem_of_getElem? (i := 317) (by decide +kernel)⟩
theorem lw_p12 : lw_okq (⟨"MergeQueue", "askNext", "()Z"⟩, 10) := ⟨⟨by decide +kernel, by decide +kernel⟩, List.mem_of_getElem? (i := 9) (by decide +kernel), List.mem_of_getElem? (i := 325) (by decide +kernel), List.mem_of_getElem? (i := 326) (by decide +kernel)⟩
theorem lw_p13 : lw_okq (⟨"MergeQueue", "formNext", "()Z"⟩, 10) := ⟨⟨by decide +kernel, by decide +kernel⟩, List.mem_of_getElem? (i := 9) (by decide +kernel), List.mem_of_getElem? (i := 341) (by decide +kernel), List.mem_of_getElem? (i := 342) (by decide +kernel)⟩
theorem lw_p14 : lw_okq (⟨"MergeQueue", "clashesWithGroups", "(I)Z"⟩, 10) := ⟨⟨by decide +kernel, by decide +kernel⟩, List.mem_of_getElem? (i := 9) (by decide +kernel), List.mem_of_getElem? (i := 346) (by decide +kernel), List.mem_of_getElem? (i := 347) (by decide +kernel)⟩
theorem lw_p15 : lw_okq (⟨"MergeQueue", "dropGroupedFromQueue", "()V"⟩, 10) := ⟨⟨by decide +kernel, by decide +kernel⟩, List.mem_of_getElem? (i := 9) (by decide +kernel), List.mem_of_getElem? (i := 367) (by decide +kernel), List.mem_of_getElem? (i := 368) (by decide +kernel)⟩
def lw_privs_1 : List (MethodName × Nat) := [(⟨"MergeQueue", "enqueue", "(I)V"⟩, 10), (⟨"MergeQueue", "mayConflict", "(II)Z"⟩, 10), (⟨"MergeQueue$Changes", "isNumber", "(I)Z"⟩, 8), (⟨"MergeQueue", "sendOutClashing", "()V"⟩, 10), (⟨"MergeQueue", "firstClashInTree", "(I)I"⟩, 10), (⟨"MergeQueue", "dequeue", "(I)V"⟩, 10), (⟨"MergeQueue$Groups", "groupOfLine", "(I)I"⟩, 5), (⟨"MergeQueue$Groups", "beginAnewFrom", "(I)V"⟩, 5), (⟨"MergeQueue$Groups", "removeGroup", "(I)V"⟩, 5), (⟨"MergeQueue", "land", "()V"⟩, 10), (⟨"MergeQueue", "halve", "()V"⟩, 10), (⟨"MergeQueue$Groups", "insertGroup", "(II)V"⟩, 5), (⟨"MergeQueue", "askNext", "()Z"⟩, 10), (⟨"MergeQueue", "formNext", "()Z"⟩, 10), (⟨"MergeQueue", "clashesWithGroups", "(I)Z"⟩, 10), (⟨"MergeQueue", "dropGroupedFromQueue", "()V"⟩, 10)]
theorem lw_r1 : ∀ q ∈ lw_privs_1, lw_okq q := List.forall_mem_cons.mpr ⟨lw_p0, List.forall_mem_cons.mpr ⟨lw_p1, List.forall_mem_cons.mpr ⟨lw_p2, List.forall_mem_cons.mpr ⟨lw_p3, List.forall_mem_cons.mpr ⟨lw_p4, List.forall_mem_cons.mpr ⟨lw_p5, List.forall_mem_cons.mpr ⟨lw_p6, List.forall_mem_cons.mpr ⟨lw_p7, List.forall_mem_cons.mpr ⟨lw_p8, List.forall_mem_cons.mpr ⟨lw_p9, List.forall_mem_cons.mpr ⟨lw_p10, List.forall_mem_cons.mpr ⟨lw_p11, List.forall_mem_cons.mpr ⟨lw_p12, List.forall_mem_cons.mpr ⟨lw_p13, List.forall_mem_cons.mpr ⟨lw_p14, List.forall_mem_cons.mpr ⟨lw_p15, fun _ h => absurd h List.not_mem_nil⟩⟩⟩⟩⟩⟩⟩⟩⟩⟩⟩⟩⟩⟩⟩⟩
theorem lw_p16 : lw_okq (⟨"MergeQueue", "partsOfTree", "()I"⟩, 10) := ⟨⟨by decide +kernel, by decide +kernel⟩, List.mem_of_getElem? (i := 9) (by decide +kernel), List.mem_of_getElem? (i := 432) (by decide +kernel), List.mem_of_getElem? (i := 433) (by decide +kernel)⟩
theorem lw_p17 : lw_okq (⟨"MergeQueueModel", "isChange", "(I)Z"⟩, 24) := ⟨⟨by decide +kernel, by decide +kernel⟩, List.mem_of_getElem? (i := 443) (by decide +kernel), List.mem_of_getElem? (i := 534) (by decide +kernel), List.mem_of_getElem? (i := 535) (by decide +kernel)⟩
theorem lw_p18 : lw_okq (⟨"MergeQueueModel", "isOpen", "(I)Z"⟩, 24) := ⟨⟨by decide +kernel, by decide +kernel⟩, List.mem_of_getElem? (i := 443) (by decide +kernel), List.mem_of_getElem? (i := 542) (by decide +kernel), List.mem_of_getElem? (i := 543) (by decide +kernel)⟩
theorem lw_p19 : lw_okq (⟨"MergeQueueModel", "isConflict", "(II)Z"⟩, 24) := ⟨⟨by decide +kernel, by decide +kernel⟩, List.mem_of_getElem? (i := 443) (by decide +kernel), List.mem_of_getElem? (i := 546) (by decide +kernel), List.mem_of_getElem? (i := 547) (by decide +kernel)⟩
theorem lw_p20 : lw_okq (⟨"MergeQueueModel", "clear", "()V"⟩, 24) := ⟨⟨by decide +kernel, by decide +kernel⟩, List.mem_of_getElem? (i := 443) (by decide +kernel), List.mem_of_getElem? (i := 550) (by decide +kernel), List.mem_of_getElem? (i := 551) (by decide +kernel)⟩
theorem lw_p21 : lw_okq (⟨"MergeQueueModel", "inTree", "(I)I"⟩, 24) := ⟨⟨by decide +kernel, by decide +kernel⟩, List.mem_of_getElem? (i := 443) (by decide +kernel), List.mem_of_getElem? (i := 554) (by decide +kernel), List.mem_of_getElem? (i := 555) (by decide +kernel)⟩
theorem lw_p22 : lw_okq (⟨"MergeQueueModel", "inLane", "(I)I"⟩, 24) := ⟨⟨by decide +kernel, by decide +kernel⟩, List.mem_of_getElem? (i := 443) (by decide +kernel), List.mem_of_getElem? (i := 562) (by decide +kernel), List.mem_of_getElem? (i := 563) (by decide +kernel)⟩
theorem lw_p23 : lw_okq (⟨"MergeQueueModel", "beginAnew", "(I)V"⟩, 24) := ⟨⟨by decide +kernel, by decide +kernel⟩, List.mem_of_getElem? (i := 443) (by decide +kernel), List.mem_of_getElem? (i := 566) (by decide +kernel), List.mem_of_getElem? (i := 567) (by decide +kernel)⟩
theorem lw_p24 : lw_okq (⟨"MergeQueueModel", "goFrom", "(I)V"⟩, 24) := ⟨⟨by decide +kernel, by decide +kernel⟩, List.mem_of_getElem? (i := 443) (by decide +kernel), List.mem_of_getElem? (i := 570) (by decide +kernel), List.mem_of_getElem? (i := 571) (by decide +kernel)⟩
theorem lw_p25 : lw_okq (⟨"MergeQueueModel", "stateOf", "(I)I"⟩, 24) := ⟨⟨by decide +kernel, by decide +kernel⟩, List.mem_of_getElem? (i := 443) (by decide +kernel), List.mem_of_getElem? (i := 582) (by decide +kernel), List.mem_of_getElem? (i := 583) (by decide +kernel)⟩
theorem lw_p26 : lw_okq (⟨"MergeQueueModel", "startOf", "(I)I"⟩, 24) := ⟨⟨by decide +kernel, by decide +kernel⟩, List.mem_of_getElem? (i := 443) (by decide +kernel), List.mem_of_getElem? (i := 586) (by decide +kernel), List.mem_of_getElem? (i := 587) (by decide +kernel)⟩
theorem lw_p27 : lw_okq (⟨"MergeQueueModel", "land", "()V"⟩, 24) := ⟨⟨by decide +kernel, by decide +kernel⟩, List.mem_of_getElem? (i := 443) (by decide +kernel), List.mem_of_getElem? (i := 590) (by decide +kernel), List.mem_of_getElem? (i := 591) (by decide +kernel)⟩
theorem lw_p28 : lw_okq (⟨"MergeQueueModel", "sizeOf", "(I)I"⟩, 24) := ⟨⟨by decide +kernel, by decide +kernel⟩, List.mem_of_getElem? (i := 443) (by decide +kernel), List.mem_of_getElem? (i := 594) (by decide +kernel), List.mem_of_getElem? (i := 595) (by decide +kernel)⟩
theorem lw_p29 : lw_okq (⟨"MergeQueueModel", "halve", "()V"⟩, 24) := ⟨⟨by decide +kernel, by decide +kernel⟩, List.mem_of_getElem? (i := 443) (by decide +kernel), List.mem_of_getElem? (i := 598) (by decide +kernel), List.mem_of_getElem? (i := 599) (by decide +kernel)⟩
theorem lw_p30 : lw_okq (⟨"MergeQueueModel", "ask", "()Z"⟩, 24) := ⟨⟨by decide +kernel, by decide +kernel⟩, List.mem_of_getElem? (i := 443) (by decide +kernel), List.mem_of_getElem? (i := 602) (by decide +kernel), List.mem_of_getElem? (i := 603) (by decide +kernel)⟩
theorem lw_p31 : lw_okq (⟨"MergeQueueModel", "groupMany", "()I"⟩, 24) := ⟨⟨by decide +kernel, by decide +kernel⟩, List.mem_of_getElem? (i := 443) (by decide +kernel), List.mem_of_getElem? (i := 606) (by decide +kernel), List.mem_of_getElem? (i := 607) (by decide +kernel)⟩
def lw_privs_2 : List (MethodName × Nat) := [(⟨"MergeQueue", "partsOfTree", "()I"⟩, 10), (⟨"MergeQueueModel", "isChange", "(I)Z"⟩, 24), (⟨"MergeQueueModel", "isOpen", "(I)Z"⟩, 24), (⟨"MergeQueueModel", "isConflict", "(II)Z"⟩, 24), (⟨"MergeQueueModel", "clear", "()V"⟩, 24), (⟨"MergeQueueModel", "inTree", "(I)I"⟩, 24), (⟨"MergeQueueModel", "inLane", "(I)I"⟩, 24), (⟨"MergeQueueModel", "beginAnew", "(I)V"⟩, 24), (⟨"MergeQueueModel", "goFrom", "(I)V"⟩, 24), (⟨"MergeQueueModel", "stateOf", "(I)I"⟩, 24), (⟨"MergeQueueModel", "startOf", "(I)I"⟩, 24), (⟨"MergeQueueModel", "land", "()V"⟩, 24), (⟨"MergeQueueModel", "sizeOf", "(I)I"⟩, 24), (⟨"MergeQueueModel", "halve", "()V"⟩, 24), (⟨"MergeQueueModel", "ask", "()Z"⟩, 24), (⟨"MergeQueueModel", "groupMany", "()I"⟩, 24)]
theorem lw_r2 : ∀ q ∈ lw_privs_2, lw_okq q := List.forall_mem_cons.mpr ⟨lw_p16, List.forall_mem_cons.mpr ⟨lw_p17, List.forall_mem_cons.mpr ⟨lw_p18, List.forall_mem_cons.mpr ⟨lw_p19, List.forall_mem_cons.mpr ⟨lw_p20, List.forall_mem_cons.mpr ⟨lw_p21, List.forall_mem_cons.mpr ⟨lw_p22, List.forall_mem_cons.mpr ⟨lw_p23, List.forall_mem_cons.mpr ⟨lw_p24, List.forall_mem_cons.mpr ⟨lw_p25, List.forall_mem_cons.mpr ⟨lw_p26, List.forall_mem_cons.mpr ⟨lw_p27, List.forall_mem_cons.mpr ⟨lw_p28, List.forall_mem_cons.mpr ⟨lw_p29, List.forall_mem_cons.mpr ⟨lw_p30, List.forall_mem_cons.mpr ⟨lw_p31, fun _ h => absurd h List.not_mem_nil⟩⟩⟩⟩⟩⟩⟩⟩⟩⟩⟩⟩⟩⟩⟩⟩
theorem lw_p32 : lw_okq (⟨"MergeQueueModel", "setState", "(II)V"⟩, 24) := ⟨⟨by decide +kernel, by decide +kernel⟩, List.mem_of_getElem? (i := 443) (by decide +kernel), List.mem_of_getElem? (i := 610) (by decide +kernel), List.mem_of_getElem? (i := 611) (by decide +kernel)⟩
theorem lw_p33 : lw_okq (⟨"MergeQueueModel", "form", "()Z"⟩, 24) := ⟨⟨by decide +kernel, by decide +kernel⟩, List.mem_of_getElem? (i := 443) (by decide +kernel), List.mem_of_getElem? (i := 614) (by decide +kernel), List.mem_of_getElem? (i := 615) (by decide +kernel)⟩
theorem lw_p34 : lw_okq (⟨"MergeQueueModel", "waitingAt", "(I)I"⟩, 24) := ⟨⟨by decide +kernel, by decide +kernel⟩, List.mem_of_getElem? (i := 443) (by decide +kernel), List.mem_of_getElem? (i := 618) (by decide +kernel), List.mem_of_getElem? (i := 619) (by decide +kernel)⟩
theorem lw_p35 : lw_okq (⟨"MergeQueueModel", "isBefore", "(II)Z"⟩, 24) := ⟨⟨by decide +kernel, by decide +kernel⟩, List.mem_of_getElem? (i := 443) (by decide +kernel), List.mem_of_getElem? (i := 622) (by decide +kernel), List.mem_of_getElem? (i := 623) (by decide +kernel)⟩
theorem lw_p36 : lw_okq (⟨"MergeQueueModel", "isBarred", "(I)Z"⟩, 24) := ⟨⟨by decide +kernel, by decide +kernel⟩, List.mem_of_getElem? (i := 443) (by decide +kernel), List.mem_of_getElem? (i := 626) (by decide +kernel), List.mem_of_getElem? (i := 627) (by decide +kernel)⟩
theorem lw_p37 : lw_okq (⟨"MergeQueueModel", "isGroup", "(I)Z"⟩, 24) := ⟨⟨by decide +kernel, by decide +kernel⟩, List.mem_of_getElem? (i := 443) (by decide +kernel), List.mem_of_getElem? (i := 634) (by decide +kernel), List.mem_of_getElem? (i := 635) (by decide +kernel)⟩
def lw_privs_3 : List (MethodName × Nat) := [(⟨"MergeQueueModel", "setState", "(II)V"⟩, 24), (⟨"MergeQueueModel", "form", "()Z"⟩, 24), (⟨"MergeQueueModel", "waitingAt", "(I)I"⟩, 24), (⟨"MergeQueueModel", "isBefore", "(II)Z"⟩, 24), (⟨"MergeQueueModel", "isBarred", "(I)Z"⟩, 24), (⟨"MergeQueueModel", "isGroup", "(I)Z"⟩, 24)]
theorem lw_r3 : ∀ q ∈ lw_privs_3, lw_okq q := List.forall_mem_cons.mpr ⟨lw_p32, List.forall_mem_cons.mpr ⟨lw_p33, List.forall_mem_cons.mpr ⟨lw_p34, List.forall_mem_cons.mpr ⟨lw_p35, List.forall_mem_cons.mpr ⟨lw_p36, List.forall_mem_cons.mpr ⟨lw_p37, fun _ h => absurd h List.not_mem_nil⟩⟩⟩⟩⟩⟩
def lw_privs : List (MethodName × Nat) := lw_privs_1 ++ (lw_privs_2 ++ (lw_privs_3))
def lw_tbl : List Cond := k2_sels lw_privs ++ tables_1
theorem lw_privs_ok : ∀ q ∈ lw_privs, lw_okq q := by
  show ∀ q ∈ lw_privs_1 ++ (lw_privs_2 ++ (lw_privs_3)), lw_okq q
  exact List.forall_mem_append.mpr ⟨lw_r1, List.forall_mem_append.mpr ⟨lw_r2, lw_r3⟩⟩
-- ===== end of PART A; then your names; then what follows =====
end
section
def mF0 : u_T := fun k => match k with
  | 0 => ("MergeQueue$Changes", "ranks", "LMergeQueue$Row;", true)
  | 1 => ("MergeQueue$Changes", "parts", "LMergeQueue$Row;", true)
  | 2 => ("MergeQueue$Changes", "places", "LMergeQueue$Row;", true)
  | 3 => ("MergeQueue$Changes", "reasons", "LMergeQueue$Row;", true)
  | 4 => ("MergeQueue$Changes", "turns", "LMergeQueue$Row;", true)
  | 5 => ("MergeQueue$Changes", "treeSizes", "LMergeQueue$Row;", true)
  | 6 => ("MergeQueue$Changes", "conflicts", "[J", true)
  | _ => ("MergeQueue$Changes", "turnsGiven", "I", false)
def mf0 : Nat → FieldType := fun k => match k with
  | 0 => .object "MergeQueue$Row"
  | 1 => .object "MergeQueue$Row"
  | 2 => .object "MergeQueue$Row"
  | 3 => .object "MergeQueue$Row"
  | 4 => .object "MergeQueue$Row"
  | 5 => .object "MergeQueue$Row"
  | 6 => .array .long
  | _ => .int
def mF1 : u_T := fun k => match k with
  | 0 => ("MergeQueue$Groups", "line", "LMergeQueue$Row;", true)
  | 1 => ("MergeQueue$Groups", "sizes", "LMergeQueue$Row;", true)
  | 2 => ("MergeQueue$Groups", "states", "LMergeQueue$Row;", true)
  | 3 => ("MergeQueue$Groups", "failures", "LMergeQueue$Row;", true)
  | _ => ("MergeQueue$Groups", "askedInVain", "I", false)
def mf1 : Nat → FieldType := fun k => match k with
  | 0 => .object "MergeQueue$Row"
  | 1 => .object "MergeQueue$Row"
  | 2 => .object "MergeQueue$Row"
  | 3 => .object "MergeQueue$Row"
  | _ => .int
def mF2 : u_T := fun k => match k with
  | 0 => ("MergeQueue$Row", "items", "[I", true)
  | _ => ("MergeQueue$Row", "count", "I", false)
def mf2 : Nat → FieldType := fun k => match k with
  | 0 => .array .int
  | _ => .int
def mF3 : u_T := fun k => match k with
  | 0 => ("MergeQueue", "most", "I", true)
  | 1 => ("MergeQueue", "width", "I", true)
  | 2 => ("MergeQueue", "again", "I", true)
  | 3 => ("MergeQueue", "changes", "LMergeQueue$Changes;", true)
  | 4 => ("MergeQueue", "queue", "LMergeQueue$Row;", true)
  | 5 => ("MergeQueue", "tree", "LMergeQueue$Row;", true)
  | 6 => ("MergeQueue", "formed", "LMergeQueue$Groups;", true)
  | 7 => ("MergeQueue", "paused", "Z", false)
  | 8 => ("MergeQueue", "answers", "I", false)
  | _ => ("MergeQueue", "halvings", "I", false)
def mf3 : Nat → FieldType := fun k => match k with
  | 0 => .int
  | 1 => .int
  | 2 => .int
  | 3 => .object "MergeQueue$Changes"
  | 4 => .object "MergeQueue$Row"
  | 5 => .object "MergeQueue$Row"
  | 6 => .object "MergeQueue$Groups"
  | 7 => .boolean
  | 8 => .int
  | _ => .int
def mF4 : u_T := fun k => match k with
  | 0 => ("MergeQueueModel", "most", "I", true)
  | 1 => ("MergeQueueModel", "width", "I", true)
  | 2 => ("MergeQueueModel", "again", "I", true)
  | 3 => ("MergeQueueModel", "code", "I", false)
  | 4 => ("MergeQueueModel", "changes", "I", false)
  | 5 => ("MergeQueueModel", "jumps", "I", false)
  | 6 => ("MergeQueueModel", "laneSize", "I", false)
  | 7 => ("MergeQueueModel", "treeSize", "I", false)
  | 8 => ("MergeQueueModel", "answers", "I", false)
  | 9 => ("MergeQueueModel", "halvings", "I", false)
  | 10 => ("MergeQueueModel", "lost", "I", false)
  | 11 => ("MergeQueueModel", "paused", "Z", false)
  | 12 => ("MergeQueueModel", "rank", "[I", true)
  | 13 => ("MergeQueueModel", "parts", "[I", true)
  | 14 => ("MergeQueueModel", "place", "[I", true)
  | 15 => ("MergeQueueModel", "jumped", "[I", true)
  | 16 => ("MergeQueueModel", "why", "[I", true)
  | 17 => ("MergeQueueModel", "size", "[I", true)
  | 18 => ("MergeQueueModel", "conflict", "[Z", true)
  | 19 => ("MergeQueueModel", "lane", "[I", true)
  | 20 => ("MergeQueueModel", "tree", "[I", true)
  | 21 => ("MergeQueueModel", "begins", "[Z", true)
  | 22 => ("MergeQueueModel", "state", "[I", true)
  | _ => ("MergeQueueModel", "failures", "[I", true)
def mf4 : Nat → FieldType := fun k => match k with
  | 0 => .int
  | 1 => .int
  | 2 => .int
  | 3 => .int
  | 4 => .int
  | 5 => .int
  | 6 => .int
  | 7 => .int
  | 8 => .int
  | 9 => .int
  | 10 => .int
  | 11 => .boolean
  | 12 => .array .int
  | 13 => .array .int
  | 14 => .array .int
  | 15 => .array .int
  | 16 => .array .int
  | 17 => .array .int
  | 18 => .array .boolean
  | 19 => .array .int
  | 20 => .array .int
  | 21 => .array .boolean
  | 22 => .array .int
  | _ => .array .int
def mCl : List vw_C := [("MergeQueue$Changes", mF0, 8), ("MergeQueue$Groups", mF1, 5), ("MergeQueue$Row", mF2, 2), ("MergeQueue", mF3, 10), ("MergeQueueModel", mF4, 24)]
def mTf (ci : Nat) : Nat → FieldType := ([mf0, mf1, mf2, mf3, mf4] : List (Nat → FieldType)).getD ci mf0
def mDf (ci : Nat) : List Value := ([[.null, .null, .null, .null, .null, .null, .null, .int 0], [.null, .null, .null, .null, .int 0], [.null, .int 0], [.int 0, .int 0, .int 0, .null, .null, .null, .null, .int 0, .int 0, .int 0], [.int 0, .int 0, .int 0, .int 0, .int 0, .int 0, .int 0, .int 0, .int 0, .int 0, .int 0, .int 0, .null, .null, .null, .null, .null, .null, .null, .null, .null, .null, .null, .null]] : List (List Value)).getD ci []
def mTy (cid : Nat → ClassId) : List (ClassId × FieldType) := [(cid 0, .int), (cid 1, .long), (cid 2, .boolean)]
abbrev kQ_init : Nat := 0
abbrev kC_init : Nat := 1
abbrev kR_init : Nat := 2
abbrev kG_init : Nat := 3
abbrev kQ_nearest : Nat := 4
abbrev kQ_change : Nat := 5
abbrev kC_count : Nat := 6
abbrev kR_count : Nat := 7
abbrev kC_add : Nat := 8
abbrev kR_append : Nat := 9
abbrev kR_insert : Nat := 10
abbrev kQ_enqueue : Nat := 11
abbrev kR_at : Nat := 12
abbrev kR_has : Nat := 13
abbrev kC_isInFront : Nat := 14
abbrev kQ_conflict : Nat := 15
abbrev kQ_mayConflict : Nat := 16
abbrev kC_placeOf : Nat := 17
abbrev kC_areInConflict : Nat := 18
abbrev kC_isNumber : Nat := 19
abbrev kC_putInConflict : Nat := 20
abbrev kQ_sendOutClashing : Nat := 21
abbrev kQ_firstClashInTree : Nat := 22
abbrev kR_removeAt : Nat := 23
abbrev kC_putOut : Nat := 24
abbrev kR_put : Nat := 25
abbrev kQ_jump : Nat := 26
abbrev kC_hasJumped : Nat := 27
abbrev kQ_dequeue : Nat := 28
abbrev kR_find : Nat := 29
abbrev kC_giveTurn : Nat := 30
abbrev kQ_leave : Nat := 31
abbrev kG_takeOut : Nat := 32
abbrev kG_groupOfLine : Nat := 33
abbrev kG_count : Nat := 34
abbrev kG_beginAnewFrom : Nat := 35
abbrev kG_removeGroup : Nat := 36
abbrev kQ_pause : Nat := 37
abbrev kQ_step : Nat := 38
abbrev kG_stateOf : Nat := 39
abbrev kQ_land : Nat := 40
abbrev kG_sizeOf : Nat := 41
abbrev kG_memberAt : Nat := 42
abbrev kG_baseOf : Nat := 43
abbrev kC_putPlace : Nat := 44
abbrev kG_removeFirst : Nat := 45
abbrev kQ_halve : Nat := 46
abbrev kG_splitFirst : Nat := 47
abbrev kG_insertGroup : Nat := 48
abbrev kC_putTreeSize : Nat := 49
abbrev kQ_askNext : Nat := 50
abbrev kG_nextToAsk : Nat := 51
abbrev kG_countAsked : Nat := 52
abbrev kG_putState : Nat := 53
abbrev kQ_formNext : Nat := 54
abbrev kQ_clashesWithGroups : Nat := 55
abbrev kG_lineLength : Nat := 56
abbrev kG_inLine : Nat := 57
abbrev kG_appendToLine : Nat := 58
abbrev kG_closeLast : Nat := 59
abbrev kQ_dropGroupedFromQueue : Nat := 60
abbrev kQ_answer : Nat := 61
abbrev kG_addFailure : Nat := 62
abbrev kQ_groups : Nat := 63
abbrev kQ_group : Nat := 64
abbrev kG_failuresOf : Nat := 65
abbrev kQ_member : Nat := 66
abbrev kQ_waiting : Nat := 67
abbrev kQ_landed : Nat := 68
abbrev kQ_where : Nat := 69
abbrev kQ_why : Nat := 70
abbrev kC_reasonOf : Nat := 71
abbrev kQ_by : Nat := 72
abbrev kC_treeSizeOf : Nat := 73
abbrev kQ_counted : Nat := 74
abbrev kG_countAskedInVain : Nat := 75
abbrev kQ_partsOfTree : Nat := 76
abbrev kC_partsOf : Nat := 77
abbrev kL_cell : Nat := 78
abbrev kM_init : Nat := 79
abbrev kM_within : Nat := 80
abbrev kM_change : Nat := 81
abbrev kM_jump : Nat := 82
abbrev kM_isChange : Nat := 83
abbrev kM_conflict : Nat := 84
abbrev kM_isOpen : Nat := 85
abbrev kM_isConflict : Nat := 86
abbrev kM_clear : Nat := 87
abbrev kM_inTree : Nat := 88
abbrev kM_leave : Nat := 89
abbrev kM_inLane : Nat := 90
abbrev kM_beginAnew : Nat := 91
abbrev kM_goFrom : Nat := 92
abbrev kM_pause : Nat := 93
abbrev kM_step : Nat := 94
abbrev kM_stateOf : Nat := 95
abbrev kM_startOf : Nat := 96
abbrev kM_land : Nat := 97
abbrev kM_sizeOf : Nat := 98
abbrev kM_halve : Nat := 99
abbrev kM_ask : Nat := 100
abbrev kM_groupMany : Nat := 101
abbrev kM_setState : Nat := 102
abbrev kM_form : Nat := 103
abbrev kM_waitingAt : Nat := 104
abbrev kM_isBefore : Nat := 105
abbrev kM_isBarred : Nat := 106
abbrev kM_answer : Nat := 107
abbrev kM_isGroup : Nat := 108
abbrev kM_groups : Nat := 109
abbrev kM_group : Nat := 110
abbrev kM_member : Nat := 111
abbrev kM_waiting : Nat := 112
abbrev kM_landed : Nat := 113
abbrev kM_where : Nat := 114
abbrev kM_why : Nat := 115
abbrev kM_by : Nat := 116
abbrev kM_counted : Nat := 117
abbrev kL_law : Nat := 118
abbrev mRec : Type := MethodName × ByteArray × Nat × Option FieldType × Nat × Nat × Nat
def mRecs : List mRec := [
  (⟨"MergeQueue", "<init>", "(III)V"⟩, prog_1_method_1_code, 4, none, 3, 1, 3),
  (⟨"MergeQueue$Changes", "<init>", "()V"⟩, prog_2_method_1_code, 1, none, 0, 1, 0),
  (⟨"MergeQueue$Row", "<init>", "()V"⟩, prog_4_method_1_code, 1, none, 2, 1, 0),
  (⟨"MergeQueue$Groups", "<init>", "()V"⟩, prog_3_method_1_code, 1, none, 1, 1, 0),
  (⟨"MergeQueue", "nearest", "(II)I"⟩, prog_1_method_2_code, 2, some .int, 3, 2, 2),
  (⟨"MergeQueue", "change", "(II)I"⟩, prog_1_method_3_code, 4, some .int, 3, 0, 2),
  (⟨"MergeQueue$Changes", "count", "()I"⟩, prog_2_method_2_code, 1, some .int, 0, 0, 0),
  (⟨"MergeQueue$Row", "count", "()I"⟩, prog_4_method_2_code, 1, some .int, 2, 0, 0),
  (⟨"MergeQueue$Changes", "add", "(II)I"⟩, prog_2_method_3_code, 4, some .int, 0, 0, 2),
  (⟨"MergeQueue$Row", "append", "(I)V"⟩, prog_4_method_7_code, 2, none, 2, 0, 1),
  (⟨"MergeQueue$Row", "insert", "(II)V"⟩, prog_4_method_8_code, 3, none, 2, 0, 2),
  (⟨"MergeQueue", "enqueue", "(I)V"⟩, prog_1_method_19_code, 3, none, 3, 0, 1),
  (⟨"MergeQueue$Row", "at", "(I)I"⟩, prog_4_method_4_code, 2, some .int, 2, 0, 1),
  (⟨"MergeQueue$Row", "has", "(I)Z"⟩, prog_4_method_3_code, 2, some .boolean, 2, 0, 1),
  (⟨"MergeQueue$Changes", "isInFront", "(II)Z"⟩, prog_2_method_13_code, 3, some .boolean, 0, 0, 2),
  (⟨"MergeQueue", "conflict", "(II)I"⟩, prog_1_method_4_code, 3, some .int, 3, 0, 2),
  (⟨"MergeQueue", "mayConflict", "(II)Z"⟩, prog_1_method_21_code, 5, some .boolean, 3, 0, 2),
  (⟨"MergeQueue$Changes", "placeOf", "(I)I"⟩, prog_2_method_5_code, 2, some .int, 0, 0, 1),
  (⟨"MergeQueue$Changes", "areInConflict", "(II)Z"⟩, prog_2_method_14_code, 3, some .boolean, 0, 0, 2),
  (⟨"MergeQueue$Changes", "isNumber", "(I)Z"⟩, prog_2_method_16_code, 2, some .boolean, 0, 0, 1),
  (⟨"MergeQueue$Changes", "putInConflict", "(II)V"⟩, prog_2_method_15_code, 3, none, 0, 0, 2),
  (⟨"MergeQueue", "sendOutClashing", "()V"⟩, prog_1_method_23_code, 3, none, 3, 0, 0),
  (⟨"MergeQueue", "firstClashInTree", "(I)I"⟩, prog_1_method_24_code, 3, some .int, 3, 0, 1),
  (⟨"MergeQueue$Row", "removeAt", "(I)V"⟩, prog_4_method_9_code, 2, none, 2, 0, 1),
  (⟨"MergeQueue$Changes", "putOut", "(II)V"⟩, prog_2_method_8_code, 3, none, 0, 0, 2),
  (⟨"MergeQueue$Row", "put", "(II)V"⟩, prog_4_method_6_code, 3, none, 2, 0, 2),
  (⟨"MergeQueue", "jump", "(I)Z"⟩, prog_1_method_5_code, 2, some .boolean, 3, 0, 1),
  (⟨"MergeQueue$Changes", "hasJumped", "(I)Z"⟩, prog_2_method_11_code, 2, some .boolean, 0, 0, 1),
  (⟨"MergeQueue", "dequeue", "(I)V"⟩, prog_1_method_20_code, 2, none, 3, 0, 1),
  (⟨"MergeQueue$Row", "find", "(I)I"⟩, prog_4_method_5_code, 3, some .int, 2, 0, 1),
  (⟨"MergeQueue$Changes", "giveTurn", "(I)V"⟩, prog_2_method_12_code, 2, none, 0, 0, 1),
  (⟨"MergeQueue", "leave", "(I)Z"⟩, prog_1_method_6_code, 3, some .boolean, 3, 0, 1),
  (⟨"MergeQueue$Groups", "takeOut", "(I)V"⟩, prog_3_method_19_code, 4, none, 1, 0, 1),
  (⟨"MergeQueue$Groups", "groupOfLine", "(I)I"⟩, prog_3_method_20_code, 4, some .int, 1, 0, 1),
  (⟨"MergeQueue$Groups", "count", "()I"⟩, prog_3_method_2_code, 1, some .int, 1, 0, 0),
  (⟨"MergeQueue$Groups", "beginAnewFrom", "(I)V"⟩, prog_3_method_21_code, 3, none, 1, 0, 1),
  (⟨"MergeQueue$Groups", "removeGroup", "(I)V"⟩, prog_3_method_23_code, 2, none, 1, 0, 1),
  (⟨"MergeQueue", "pause", "(Z)Z"⟩, prog_1_method_7_code, 2, some .boolean, 3, 0, 1),
  (⟨"MergeQueue", "step", "()I"⟩, prog_1_method_8_code, 2, some .int, 3, 0, 0),
  (⟨"MergeQueue$Groups", "stateOf", "(I)I"⟩, prog_3_method_5_code, 2, some .int, 1, 0, 1),
  (⟨"MergeQueue", "land", "()V"⟩, prog_1_method_22_code, 4, none, 3, 0, 0),
  (⟨"MergeQueue$Groups", "sizeOf", "(I)I"⟩, prog_3_method_7_code, 2, some .int, 1, 0, 1),
  (⟨"MergeQueue$Groups", "memberAt", "(II)I"⟩, prog_3_method_10_code, 3, some .int, 1, 0, 2),
  (⟨"MergeQueue$Groups", "baseOf", "(I)I"⟩, prog_3_method_9_code, 4, some .int, 1, 0, 1),
  (⟨"MergeQueue$Changes", "putPlace", "(II)V"⟩, prog_2_method_6_code, 3, none, 0, 0, 2),
  (⟨"MergeQueue$Groups", "removeFirst", "()V"⟩, prog_3_method_17_code, 3, none, 1, 0, 0),
  (⟨"MergeQueue", "halve", "()V"⟩, prog_1_method_25_code, 2, none, 3, 0, 0),
  (⟨"MergeQueue$Groups", "splitFirst", "()V"⟩, prog_3_method_18_code, 3, none, 1, 0, 0),
  (⟨"MergeQueue$Groups", "insertGroup", "(II)V"⟩, prog_3_method_22_code, 3, none, 1, 0, 2),
  (⟨"MergeQueue$Changes", "putTreeSize", "(II)V"⟩, prog_2_method_10_code, 3, none, 0, 0, 2),
  (⟨"MergeQueue", "askNext", "()Z"⟩, prog_1_method_26_code, 2, some .boolean, 3, 0, 0),
  (⟨"MergeQueue$Groups", "nextToAsk", "()I"⟩, prog_3_method_13_code, 2, some .int, 1, 0, 0),
  (⟨"MergeQueue$Groups", "countAsked", "()I"⟩, prog_3_method_12_code, 3, some .int, 1, 0, 0),
  (⟨"MergeQueue$Groups", "putState", "(II)V"⟩, prog_3_method_6_code, 3, none, 1, 0, 2),
  (⟨"MergeQueue", "formNext", "()Z"⟩, prog_1_method_27_code, 4, some .boolean, 3, 0, 0),
  (⟨"MergeQueue", "clashesWithGroups", "(I)Z"⟩, prog_1_method_28_code, 3, some .boolean, 3, 0, 1),
  (⟨"MergeQueue$Groups", "lineLength", "()I"⟩, prog_3_method_3_code, 1, some .int, 1, 0, 0),
  (⟨"MergeQueue$Groups", "inLine", "(I)I"⟩, prog_3_method_4_code, 2, some .int, 1, 0, 1),
  (⟨"MergeQueue$Groups", "appendToLine", "(I)V"⟩, prog_3_method_15_code, 2, none, 1, 0, 1),
  (⟨"MergeQueue$Groups", "closeLast", "(I)V"⟩, prog_3_method_16_code, 2, none, 1, 0, 1),
  (⟨"MergeQueue", "dropGroupedFromQueue", "()V"⟩, prog_1_method_29_code, 2, none, 3, 0, 0),
  (⟨"MergeQueue", "answer", "(IZ)I"⟩, prog_1_method_9_code, 3, some .int, 3, 0, 2),
  (⟨"MergeQueue$Groups", "addFailure", "(II)V"⟩, prog_3_method_14_code, 3, none, 1, 0, 2),
  (⟨"MergeQueue", "groups", "()I"⟩, prog_1_method_10_code, 1, some .int, 3, 0, 0),
  (⟨"MergeQueue", "group", "(II)I"⟩, prog_1_method_11_code, 3, some .int, 3, 0, 2),
  (⟨"MergeQueue$Groups", "failuresOf", "(I)I"⟩, prog_3_method_8_code, 2, some .int, 1, 0, 1),
  (⟨"MergeQueue", "member", "(II)I"⟩, prog_1_method_12_code, 3, some .int, 3, 0, 2),
  (⟨"MergeQueue", "waiting", "(I)I"⟩, prog_1_method_13_code, 2, some .int, 3, 0, 1),
  (⟨"MergeQueue", "landed", "(I)I"⟩, prog_1_method_14_code, 2, some .int, 3, 0, 1),
  (⟨"MergeQueue", "where", "(I)I"⟩, prog_1_method_15_code, 2, some .int, 3, 0, 1),
  (⟨"MergeQueue", "why", "(I)I"⟩, prog_1_method_16_code, 2, some .int, 3, 0, 1),
  (⟨"MergeQueue$Changes", "reasonOf", "(I)I"⟩, prog_2_method_7_code, 2, some .int, 0, 0, 1),
  (⟨"MergeQueue", "by", "(I)I"⟩, prog_1_method_17_code, 2, some .int, 3, 0, 1),
  (⟨"MergeQueue$Changes", "treeSizeOf", "(I)I"⟩, prog_2_method_9_code, 2, some .int, 0, 0, 1),
  (⟨"MergeQueue", "counted", "(I)I"⟩, prog_1_method_18_code, 2, some .int, 3, 0, 1),
  (⟨"MergeQueue$Groups", "countAskedInVain", "()I"⟩, prog_3_method_11_code, 1, some .int, 1, 0, 0),
  (⟨"MergeQueue", "partsOfTree", "()I"⟩, prog_1_method_30_code, 3, some .int, 3, 0, 0),
  (⟨"MergeQueue$Changes", "partsOf", "(I)I"⟩, prog_2_method_4_code, 2, some .int, 0, 0, 1),
  (⟨"MergeQueueLaw", "cell", "([II)I"⟩, method_2_code, 2, some .int, 99, 2, 2),
  (⟨"MergeQueueModel", "<init>", "(III)V"⟩, prog_6_method_1_code, 4, none, 4, 1, 3),
  (⟨"MergeQueueModel", "within", "(II)I"⟩, prog_6_method_2_code, 2, some .int, 4, 2, 2),
  (⟨"MergeQueueModel", "change", "(II)I"⟩, prog_6_method_5_code, 3, some .int, 4, 0, 2),
  (⟨"MergeQueueModel", "jump", "(I)Z"⟩, prog_6_method_8_code, 2, some .boolean, 4, 0, 1),
  (⟨"MergeQueueModel", "isChange", "(I)Z"⟩, prog_6_method_4_code, 2, some .boolean, 4, 0, 1),
  (⟨"MergeQueueModel", "conflict", "(II)I"⟩, prog_6_method_13_code, 3, some .int, 4, 0, 2),
  (⟨"MergeQueueModel", "isOpen", "(I)Z"⟩, prog_6_method_12_code, 2, some .boolean, 4, 0, 1),
  (⟨"MergeQueueModel", "isConflict", "(II)Z"⟩, prog_6_method_9_code, 3, some .boolean, 4, 0, 2),
  (⟨"MergeQueueModel", "clear", "()V"⟩, prog_6_method_11_code, 2, none, 4, 0, 0),
  (⟨"MergeQueueModel", "inTree", "(I)I"⟩, prog_6_method_10_code, 3, some .int, 4, 0, 1),
  (⟨"MergeQueueModel", "leave", "(I)Z"⟩, prog_6_method_22_code, 4, some .boolean, 4, 0, 1),
  (⟨"MergeQueueModel", "inLane", "(I)I"⟩, prog_6_method_21_code, 3, some .int, 4, 0, 1),
  (⟨"MergeQueueModel", "beginAnew", "(I)V"⟩, prog_6_method_19_code, 4, none, 4, 0, 1),
  (⟨"MergeQueueModel", "goFrom", "(I)V"⟩, prog_6_method_20_code, 5, none, 4, 0, 1),
  (⟨"MergeQueueModel", "pause", "(Z)Z"⟩, prog_6_method_23_code, 3, some .boolean, 4, 0, 1),
  (⟨"MergeQueueModel", "step", "()I"⟩, prog_6_method_30_code, 2, some .int, 4, 0, 0),
  (⟨"MergeQueueModel", "stateOf", "(I)I"⟩, prog_6_method_18_code, 2, some .int, 4, 0, 1),
  (⟨"MergeQueueModel", "startOf", "(I)I"⟩, prog_6_method_14_code, 4, some .int, 4, 0, 1),
  (⟨"MergeQueueModel", "land", "()V"⟩, prog_6_method_24_code, 4, none, 4, 0, 0),
  (⟨"MergeQueueModel", "sizeOf", "(I)I"⟩, prog_6_method_17_code, 2, some .int, 4, 0, 1),
  (⟨"MergeQueueModel", "halve", "()V"⟩, prog_6_method_25_code, 3, none, 4, 0, 0),
  (⟨"MergeQueueModel", "ask", "()Z"⟩, prog_6_method_26_code, 4, some .boolean, 4, 0, 0),
  (⟨"MergeQueueModel", "groupMany", "()I"⟩, prog_6_method_15_code, 3, some .int, 4, 0, 0),
  (⟨"MergeQueueModel", "setState", "(II)V"⟩, prog_6_method_27_code, 5, none, 4, 0, 2),
  (⟨"MergeQueueModel", "form", "()Z"⟩, prog_6_method_29_code, 4, some .boolean, 4, 0, 0),
  (⟨"MergeQueueModel", "waitingAt", "(I)I"⟩, prog_6_method_7_code, 5, some .int, 4, 0, 1),
  (⟨"MergeQueueModel", "isBefore", "(II)Z"⟩, prog_6_method_6_code, 3, some .boolean, 4, 0, 2),
  (⟨"MergeQueueModel", "isBarred", "(I)Z"⟩, prog_6_method_28_code, 4, some .boolean, 4, 0, 1),
  (⟨"MergeQueueModel", "answer", "(IZ)I"⟩, prog_6_method_31_code, 7, some .int, 4, 0, 2),
  (⟨"MergeQueueModel", "isGroup", "(I)Z"⟩, prog_6_method_16_code, 2, some .boolean, 4, 0, 1),
  (⟨"MergeQueueModel", "groups", "()I"⟩, prog_6_method_32_code, 1, some .int, 4, 0, 0),
  (⟨"MergeQueueModel", "group", "(II)I"⟩, prog_6_method_33_code, 3, some .int, 4, 0, 2),
  (⟨"MergeQueueModel", "member", "(II)I"⟩, prog_6_method_34_code, 3, some .int, 4, 0, 2),
  (⟨"MergeQueueModel", "waiting", "(I)I"⟩, prog_6_method_35_code, 2, some .int, 4, 0, 1),
  (⟨"MergeQueueModel", "landed", "(I)I"⟩, prog_6_method_36_code, 2, some .int, 4, 0, 1),
  (⟨"MergeQueueModel", "where", "(I)I"⟩, prog_6_method_37_code, 2, some .int, 4, 0, 1),
  (⟨"MergeQueueModel", "why", "(I)I"⟩, prog_6_method_38_code, 2, some .int, 4, 0, 1),
  (⟨"MergeQueueModel", "by", "(I)I"⟩, prog_6_method_39_code, 2, some .int, 4, 0, 1),
  (⟨"MergeQueueModel", "counted", "(I)I"⟩, prog_6_method_40_code, 4, some .int, 4, 0, 1)]
def mLaw : mRec := (⟨"MergeQueueLaw", "law", "([I)Z"⟩, code, 4, some .boolean, 99, 2, 1)
def m_rec (k : Nat) : mRec := (mRecs ++ [mLaw]).getD k mLaw
def m_y (k : Nat) : MethodName := (m_rec k).1
def m_b (k : Nat) : ByteArray := (m_rec k).2.1
def m_l (k : Nat) : Nat := (m_rec k).2.2.1
def m_r (k : Nat) : Option FieldType := (m_rec k).2.2.2.1
def m_ci (k : Nat) : Nat := (m_rec k).2.2.2.2.1
abbrev mRow : Type := Nat × Instr × Nat × Nat × Nat × Nat
def mI_0_0 : List mRow := [(0, .aload_n 0, 1, 1, 0, 0), (1, .invokespecial 1, 3, 4, 999, 1), (4, .aload_n 0, 1, 5, 0, 0), (5, .new 7, 3, 8, 0, 8), (8, .dup, 1, 9, 0, 0), (9, .invokespecial 9, 3, 12, 1, 1), (12, .putfield 10, 3, 15, 3, 3), (15, .aload_n 0, 1, 16, 0, 0), (16, .new 16, 3, 19, 2, 2), (19, .dup, 1, 20, 0, 0), (20, .invokespecial 18, 3, 23, 2, 1), (23, .putfield 19, 3, 26, 3, 4), (26, .aload_n 0, 1, 27, 0, 0), (27, .new 16, 3, 30, 2, 2), (30, .dup, 1, 31, 0, 0), (31, .invokespecial 18, 3, 34, 2, 1), (34, .putfield 23, 3, 37, 3, 5), (37, .aload_n 0, 1, 38, 0, 0), (38, .new 26, 3, 41, 1, 5), (41, .dup, 1, 42, 0, 0), (42, .invokespecial 28, 3, 45, 3, 1), (45, .putfield 29, 3, 48, 3, 6), (48, .aload_n 0, 1, 49, 0, 0), (49, .iload_n 1, 1, 50, 0, 0), (50, .bipush 8, 2, 52, 0, 0), (52, .invokestatic 33, 3, 55, 4, 2), (55, .putfield 37, 3, 58, 3, 0), (58, .aload_n 0, 1, 59, 0, 0), (59, .iload_n 2, 1, 60, 0, 0), (60, .iconst 4, 1, 61, 0, 0), (61, .invokestatic 33, 3, 64, 4, 2), (64, .putfield 41, 3, 67, 3, 1), (67, .aload_n 0, 1, 68, 0, 0), (68, .iload_n 3, 1, 69, 0, 0), (69, .iconst 3, 1, 70, 0, 0), (70, .invokestatic 33, 3, 73, 4, 2), (73, .putfield 44, 3, 76, 3, 2), (76, .return_, 1, 77, 0, 0)]
def mI_1_0 : List mRow := [(0, .aload_n 0, 1, 1, 0, 0), (1, .invokespecial 3, 3, 4, 999, 1), (4, .aload_n 0, 1, 5, 0, 0), (5, .new 9, 3, 8, 2, 2), (8, .dup, 1, 9, 0, 0), (9, .invokespecial 11, 3, 12, 2, 1), (12, .putfield 12, 3, 15, 0, 0), (15, .aload_n 0, 1, 16, 0, 0), (16, .new 9, 3, 19, 2, 2), (19, .dup, 1, 20, 0, 0), (20, .invokespecial 11, 3, 23, 2, 1), (23, .putfield 18, 3, 26, 0, 1), (26, .aload_n 0, 1, 27, 0, 0), (27, .new 9, 3, 30, 2, 2), (30, .dup, 1, 31, 0, 0), (31, .invokespecial 11, 3, 34, 2, 1), (34, .putfield 21, 3, 37, 0, 2), (37, .aload_n 0, 1, 38, 0, 0), (38, .new 9, 3, 41, 2, 2), (41, .dup, 1, 42, 0, 0), (42, .invokespecial 11, 3, 45, 2, 1), (45, .putfield 24, 3, 48, 0, 3), (48, .aload_n 0, 1, 49, 0, 0), (49, .new 9, 3, 52, 2, 2), (52, .dup, 1, 53, 0, 0), (53, .invokespecial 11, 3, 56, 2, 1), (56, .putfield 27, 3, 59, 0, 4), (59, .aload_n 0, 1, 60, 0, 0), (60, .new 9, 3, 63, 2, 2), (63, .dup, 1, 64, 0, 0), (64, .invokespecial 11, 3, 67, 2, 1), (67, .putfield 30, 3, 70, 0, 5), (70, .aload_n 0, 1, 71, 0, 0), (71, .bipush 40, 2, 73, 0, 0), (73, .newarray .long, 2, 75, 0, 0), (75, .putfield 33, 3, 78, 0, 6), (78, .return_, 1, 79, 0, 0)]
def mI_2_0 : List mRow := [(0, .aload_n 0, 1, 1, 0, 0), (1, .invokespecial 3, 3, 4, 999, 1), (4, .aload_n 0, 1, 5, 0, 0), (5, .bipush 40, 2, 7, 0, 0), (7, .newarray .int, 2, 9, 0, 0), (9, .putfield 9, 3, 12, 2, 0), (12, .return_, 1, 13, 0, 0)]
def mI_3_0 : List mRow := [(0, .aload_n 0, 1, 1, 0, 0), (1, .invokespecial 3, 3, 4, 999, 1), (4, .aload_n 0, 1, 5, 0, 0), (5, .new 9, 3, 8, 2, 2), (8, .dup, 1, 9, 0, 0), (9, .invokespecial 11, 3, 12, 2, 1), (12, .putfield 12, 3, 15, 1, 0), (15, .aload_n 0, 1, 16, 0, 0), (16, .new 9, 3, 19, 2, 2), (19, .dup, 1, 20, 0, 0), (20, .invokespecial 11, 3, 23, 2, 1), (23, .putfield 18, 3, 26, 1, 1), (26, .aload_n 0, 1, 27, 0, 0), (27, .new 9, 3, 30, 2, 2), (30, .dup, 1, 31, 0, 0), (31, .invokespecial 11, 3, 34, 2, 1), (34, .putfield 21, 3, 37, 1, 2), (37, .aload_n 0, 1, 38, 0, 0), (38, .new 9, 3, 41, 2, 2), (41, .dup, 1, 42, 0, 0), (42, .invokespecial 11, 3, 45, 2, 1), (45, .putfield 24, 3, 48, 1, 3), (48, .return_, 1, 49, 0, 0)]
def mI_4_0 : List mRow := [(0, .iconst 1, 1, 1, 0, 0), (1, .iload_n 0, 1, 2, 0, 0), (2, .iload_n 1, 1, 3, 0, 0), (3, .invokestatic 47, 3, 6, 997, 2), (6, .invokestatic 52, 3, 9, 998, 2), (9, .ireturn, 1, 10, 0, 0)]
def mI_5_0 : List mRow := [(0, .iload_n 1, 1, 1, 0, 0), (1, .ifCond .lt 21, 3, 4, 22, 0), (4, .iload_n 1, 1, 5, 0, 0), (5, .bipush 9, 2, 7, 0, 0), (7, .if_icmp .gt 15, 3, 10, 22, 0), (10, .aload_n 0, 1, 11, 0, 0), (11, .getfield 10, 3, 14, 3, 3), (14, .invokevirtual 55, 3, 17, 6, 1), (17, .bipush 40, 2, 19, 0, 0), (19, .if_icmp .lt 5, 3, 22, 24, 0), (22, .iconst (-1), 1, 23, 0, 0), (23, .ireturn, 1, 24, 0, 0), (24, .aload_n 0, 1, 25, 0, 0), (25, .getfield 10, 3, 28, 3, 3), (28, .iload_n 1, 1, 29, 0, 0), (29, .iload_n 2, 1, 30, 0, 0), (30, .invokevirtual 59, 3, 33, 8, 3), (33, .istore_n 3, 1, 34, 0, 0), (34, .aload_n 0, 1, 35, 0, 0), (35, .iload_n 3, 1, 36, 0, 0), (36, .invokevirtual 62, 3, 39, 11, 2), (39, .iload_n 3, 1, 40, 0, 0), (40, .ireturn, 1, 41, 0, 0)]
def mI_6_0 : List mRow := [(0, .aload_n 0, 1, 1, 0, 0), (1, .getfield 21, 3, 4, 0, 2), (4, .invokevirtual 37, 3, 7, 7, 1), (7, .ireturn, 1, 8, 0, 0)]
def mI_7_0 : List mRow := [(0, .aload_n 0, 1, 1, 0, 0), (1, .getfield 15, 3, 4, 2, 1), (4, .ireturn, 1, 5, 0, 0)]
def mI_8_0 : List mRow := [(0, .aload_n 0, 1, 1, 0, 0), (1, .invokevirtual 41, 3, 4, 6, 1), (4, .istore_n 3, 1, 5, 0, 0), (5, .aload_n 0, 1, 6, 0, 0), (6, .getfield 12, 3, 9, 0, 0), (9, .iload_n 1, 1, 10, 0, 0), (10, .invokevirtual 42, 3, 13, 9, 2), (13, .aload_n 0, 1, 14, 0, 0), (14, .getfield 18, 3, 17, 0, 1), (17, .iload_n 2, 1, 18, 0, 0), (18, .invokevirtual 42, 3, 21, 9, 2), (21, .aload_n 0, 1, 22, 0, 0), (22, .getfield 21, 3, 25, 0, 2), (25, .iconst 0, 1, 26, 0, 0), (26, .invokevirtual 42, 3, 29, 9, 2), (29, .aload_n 0, 1, 30, 0, 0), (30, .getfield 24, 3, 33, 0, 3), (33, .iconst 0, 1, 34, 0, 0), (34, .invokevirtual 42, 3, 37, 9, 2), (37, .aload_n 0, 1, 38, 0, 0), (38, .getfield 27, 3, 41, 0, 4), (41, .bipush 40, 2, 43, 0, 0), (43, .invokevirtual 42, 3, 46, 9, 2), (46, .aload_n 0, 1, 47, 0, 0), (47, .getfield 30, 3, 50, 0, 5), (50, .iconst 0, 1, 51, 0, 0), (51, .invokevirtual 42, 3, 54, 9, 2), (54, .iload_n 3, 1, 55, 0, 0), (55, .ireturn, 1, 56, 0, 0)]
def mI_9_0 : List mRow := [(0, .aload_n 0, 1, 1, 0, 0), (1, .aload_n 0, 1, 2, 0, 0), (2, .getfield 15, 3, 5, 2, 1), (5, .iload_n 1, 1, 6, 0, 0), (6, .invokevirtual 27, 3, 9, 10, 3), (9, .return_, 1, 10, 0, 0)]
def mI_10_0 : List mRow := [(0, .iload_n 1, 1, 1, 0, 0), (1, .ifCond .lt 23, 3, 4, 24, 0), (4, .iload_n 1, 1, 5, 0, 0), (5, .aload_n 0, 1, 6, 0, 0), (6, .getfield 15, 3, 9, 2, 1), (9, .if_icmp .gt 15, 3, 12, 24, 0), (12, .aload_n 0, 1, 13, 0, 0), (13, .getfield 15, 3, 16, 2, 1), (16, .aload_n 0, 1, 17, 0, 0), (17, .getfield 9, 3, 20, 2, 0), (20, .arraylength, 1, 21, 0, 0), (21, .if_icmp .lt 4, 3, 24, 25, 0), (24, .return_, 1, 25, 0, 0), (25, .aload_n 0, 1, 26, 0, 0), (26, .getfield 9, 3, 29, 2, 0), (29, .iload_n 1, 1, 30, 0, 0), (30, .aload_n 0, 1, 31, 0, 0), (31, .getfield 9, 3, 34, 2, 0), (34, .iload_n 1, 1, 35, 0, 0), (35, .iconst 1, 1, 36, 0, 0), (36, .iadd, 1, 37, 0, 0), (37, .aload_n 0, 1, 38, 0, 0), (38, .getfield 15, 3, 41, 2, 1), (41, .iload_n 1, 1, 42, 0, 0), (42, .isub, 1, 43, 0, 0), (43, .invokestatic 31, 3, 46, 996, 5), (46, .aload_n 0, 1, 47, 0, 0), (47, .getfield 9, 3, 50, 2, 0), (50, .iload_n 1, 1, 51, 0, 0), (51, .iload_n 2, 1, 52, 0, 0), (52, .iastore, 1, 53, 0, 0), (53, .aload_n 0, 1, 54, 0, 0), (54, .dup, 1, 55, 0, 0), (55, .getfield 15, 3, 58, 2, 1), (58, .iconst 1, 1, 59, 0, 0), (59, .iadd, 1, 60, 0, 0), (60, .putfield 15, 3, 63, 2, 1), (63, .return_, 1, 64, 0, 0)]
def mI_11_0 : List mRow := [(0, .iconst 0, 1, 1, 0, 0), (1, .istore_n 2, 1, 2, 0, 0), (2, .iload_n 2, 1, 3, 0, 0), (3, .aload_n 0, 1, 4, 0, 0), (4, .getfield 19, 3, 7, 3, 4), (7, .invokevirtual 163, 3, 10, 7, 1), (10, .if_icmp .ge 28, 3, 13, 38, 0), (13, .aload_n 0, 1, 14, 0, 0), (14, .getfield 10, 3, 17, 3, 3), (17, .aload_n 0, 1, 18, 0, 0), (18, .getfield 19, 3, 21, 3, 4), (21, .iload_n 2, 1, 22, 0, 0), (22, .invokevirtual 142, 3, 25, 12, 2), (25, .iload_n 1, 1, 26, 0, 0), (26, .invokevirtual 164, 3, 29, 14, 3), (29, .ifCond .eq 9, 3, 32, 38, 0), (32, .iinc 2 1, 3, 35, 0, 0), (35, .goto (-33), 3, 38, 2, 0), (38, .aload_n 0, 1, 39, 0, 0), (39, .getfield 19, 3, 42, 3, 4), (42, .iload_n 2, 1, 43, 0, 0), (43, .iload_n 1, 1, 44, 0, 0), (44, .invokevirtual 167, 3, 47, 10, 3), (47, .return_, 1, 48, 0, 0)]
def mI_12_0 : List mRow := [(0, .aload_n 0, 1, 1, 0, 0), (1, .iload_n 1, 1, 2, 0, 0), (2, .invokevirtual 19, 3, 5, 13, 2), (5, .ifCond .eq 12, 3, 8, 17, 0), (8, .aload_n 0, 1, 9, 0, 0), (9, .getfield 9, 3, 12, 2, 0), (12, .iload_n 1, 1, 13, 0, 0), (13, .iaload, 1, 14, 0, 0), (14, .goto 4, 3, 17, 18, 0), (17, .iconst (-1), 1, 18, 0, 0), (18, .ireturn, 1, 19, 0, 0)]
def mI_13_0 : List mRow := [(0, .iload_n 1, 1, 1, 0, 0), (1, .ifCond .lt 24, 3, 4, 25, 0), (4, .iload_n 1, 1, 5, 0, 0), (5, .aload_n 0, 1, 6, 0, 0), (6, .getfield 15, 3, 9, 2, 1), (9, .if_icmp .ge 16, 3, 12, 25, 0), (12, .iload_n 1, 1, 13, 0, 0), (13, .aload_n 0, 1, 14, 0, 0), (14, .getfield 9, 3, 17, 2, 0), (17, .arraylength, 1, 18, 0, 0), (18, .if_icmp .ge 7, 3, 21, 25, 0), (21, .iconst 1, 1, 22, 0, 0), (22, .goto 4, 3, 25, 26, 0), (25, .iconst 0, 1, 26, 0, 0), (26, .ireturn, 1, 27, 0, 0)]
def mI_14_0 : List mRow := [(0, .aload_n 0, 1, 1, 0, 0), (1, .getfield 27, 3, 4, 0, 4), (4, .iload_n 1, 1, 5, 0, 0), (5, .invokevirtual 46, 3, 8, 12, 2), (8, .aload_n 0, 1, 9, 0, 0), (9, .getfield 27, 3, 12, 0, 4), (12, .iload_n 2, 1, 13, 0, 0), (13, .invokevirtual 46, 3, 16, 12, 2), (16, .if_icmp .eq 28, 3, 19, 44, 0), (19, .aload_n 0, 1, 20, 0, 0), (20, .getfield 27, 3, 23, 0, 4), (23, .iload_n 1, 1, 24, 0, 0), (24, .invokevirtual 46, 3, 27, 12, 2), (27, .aload_n 0, 1, 28, 0, 0), (28, .getfield 27, 3, 31, 0, 4), (31, .iload_n 2, 1, 32, 0, 0), (32, .invokevirtual 46, 3, 35, 12, 2), (35, .if_icmp .ge 7, 3, 38, 42, 0), (38, .iconst 1, 1, 39, 0, 0), (39, .goto 4, 3, 42, 43, 0), (42, .iconst 0, 1, 43, 0, 0), (43, .ireturn, 1, 44, 0, 0), (44, .aload_n 0, 1, 45, 0, 0), (45, .getfield 12, 3, 48, 0, 0), (48, .iload_n 1, 1, 49, 0, 0), (49, .invokevirtual 46, 3, 52, 12, 2), (52, .aload_n 0, 1, 53, 0, 0), (53, .getfield 12, 3, 56, 0, 0), (56, .iload_n 2, 1, 57, 0, 0), (57, .invokevirtual 46, 3, 60, 12, 2), (60, .if_icmp .eq 28, 3, 63, 88, 0), (63, .aload_n 0, 1, 64, 0, 0), (64, .getfield 12, 3, 67, 0, 0), (67, .iload_n 1, 1, 68, 0, 0), (68, .invokevirtual 46, 3, 71, 12, 2), (71, .aload_n 0, 1, 72, 0, 0), (72, .getfield 12, 3, 75, 0, 0), (75, .iload_n 2, 1, 76, 0, 0), (76, .invokevirtual 46, 3, 79, 12, 2), (79, .if_icmp .le 7, 3, 82, 86, 0), (82, .iconst 1, 1, 83, 0, 0), (83, .goto 4, 3, 86, 87, 0), (86, .iconst 0, 1, 87, 0, 0), (87, .ireturn, 1, 88, 0, 0), (88, .iload_n 1, 1, 89, 0, 0), (89, .iload_n 2, 1, 90, 0, 0), (90, .if_icmp .ge 7, 3, 93, 97, 0), (93, .iconst 1, 1, 94, 0, 0), (94, .goto 4, 3, 97, 98, 0), (97, .iconst 0, 1, 98, 0, 0)]
def mI_14_1 : List mRow := [(98, .ireturn, 1, 99, 0, 0)]
def mI_15_0 : List mRow := [(0, .iload_n 1, 1, 1, 0, 0), (1, .iload_n 2, 1, 2, 0, 0), (2, .if_icmp .eq 12, 3, 5, 14, 0), (5, .aload_n 0, 1, 6, 0, 0), (6, .iload_n 1, 1, 7, 0, 0), (7, .iload_n 2, 1, 8, 0, 0), (8, .invokevirtual 66, 3, 11, 16, 3), (11, .ifCond .ne 5, 3, 14, 16, 0), (14, .iconst (-1), 1, 15, 0, 0), (15, .ireturn, 1, 16, 0, 0), (16, .aload_n 0, 1, 17, 0, 0), (17, .getfield 10, 3, 20, 3, 3), (20, .iload_n 1, 1, 21, 0, 0), (21, .iload_n 2, 1, 22, 0, 0), (22, .invokevirtual 70, 3, 25, 18, 3), (25, .ifCond .eq 5, 3, 28, 30, 0), (28, .iconst 0, 1, 29, 0, 0), (29, .ireturn, 1, 30, 0, 0), (30, .aload_n 0, 1, 31, 0, 0), (31, .getfield 10, 3, 34, 3, 3), (34, .iload_n 1, 1, 35, 0, 0), (35, .iload_n 2, 1, 36, 0, 0), (36, .invokevirtual 73, 3, 39, 20, 3), (39, .aload_n 0, 1, 40, 0, 0), (40, .invokevirtual 77, 3, 43, 21, 1), (43, .iconst 1, 1, 44, 0, 0), (44, .ireturn, 1, 45, 0, 0)]
def mI_16_0 : List mRow := [(0, .aload_n 0, 1, 1, 0, 0), (1, .getfield 10, 3, 4, 3, 3), (4, .iload_n 1, 1, 5, 0, 0), (5, .invokevirtual 80, 3, 8, 17, 2), (8, .istore_n 3, 1, 9, 0, 0), (9, .aload_n 0, 1, 10, 0, 0), (10, .getfield 10, 3, 13, 3, 3), (13, .iload_n 2, 1, 14, 0, 0), (14, .invokevirtual 80, 3, 17, 17, 2), (17, .istore 4, 2, 19, 0, 0), (19, .iload_n 3, 1, 20, 0, 0), (20, .ifCond .ne 14, 3, 23, 34, 0), (23, .iload 4, 2, 25, 0, 0), (25, .ifCond .eq 19, 3, 28, 44, 0), (28, .iload 4, 2, 30, 0, 0), (30, .iconst 2, 1, 31, 0, 0), (31, .if_icmp .eq 13, 3, 34, 44, 0), (34, .iload_n 3, 1, 35, 0, 0), (35, .iconst 2, 1, 36, 0, 0), (36, .if_icmp .ne 12, 3, 39, 48, 0), (39, .iload 4, 2, 41, 0, 0), (41, .ifCond .ne 7, 3, 44, 48, 0), (44, .iconst 1, 1, 45, 0, 0), (45, .goto 4, 3, 48, 49, 0), (48, .iconst 0, 1, 49, 0, 0), (49, .ireturn, 1, 50, 0, 0)]
def mI_17_0 : List mRow := [(0, .aload_n 0, 1, 1, 0, 0), (1, .getfield 21, 3, 4, 0, 2), (4, .iload_n 1, 1, 5, 0, 0), (5, .invokevirtual 46, 3, 8, 12, 2), (8, .ireturn, 1, 9, 0, 0)]
def mI_18_0 : List mRow := [(0, .aload_n 0, 1, 1, 0, 0), (1, .iload_n 1, 1, 2, 0, 0), (2, .invokevirtual 58, 3, 5, 19, 2), (5, .ifCond .eq 30, 3, 8, 35, 0), (8, .aload_n 0, 1, 9, 0, 0), (9, .iload_n 2, 1, 10, 0, 0), (10, .invokevirtual 58, 3, 13, 19, 2), (13, .ifCond .eq 22, 3, 16, 35, 0), (16, .aload_n 0, 1, 17, 0, 0), (17, .getfield 33, 3, 20, 0, 6), (20, .iload_n 1, 1, 21, 0, 0), (21, .laload, 1, 22, 0, 0), (22, .lconst 1, 1, 23, 0, 0), (23, .iload_n 2, 1, 24, 0, 0), (24, .lshl, 1, 25, 0, 0), (25, .land, 1, 26, 0, 0), (26, .lconst 0, 1, 27, 0, 0), (27, .lcmp, 1, 28, 0, 0), (28, .ifCond .eq 7, 3, 31, 35, 0), (31, .iconst 1, 1, 32, 0, 0), (32, .goto 4, 3, 35, 36, 0), (35, .iconst 0, 1, 36, 0, 0), (36, .ireturn, 1, 37, 0, 0)]
def mI_19_0 : List mRow := [(0, .iload_n 1, 1, 1, 0, 0), (1, .ifCond .lt 16, 3, 4, 17, 0), (4, .iload_n 1, 1, 5, 0, 0), (5, .aload_n 0, 1, 6, 0, 0), (6, .getfield 33, 3, 9, 0, 6), (9, .arraylength, 1, 10, 0, 0), (10, .if_icmp .ge 7, 3, 13, 17, 0), (13, .iconst 1, 1, 14, 0, 0), (14, .goto 4, 3, 17, 18, 0), (17, .iconst 0, 1, 18, 0, 0), (18, .ireturn, 1, 19, 0, 0)]
def mI_20_0 : List mRow := [(0, .aload_n 0, 1, 1, 0, 0), (1, .iload_n 1, 1, 2, 0, 0), (2, .invokevirtual 58, 3, 5, 19, 2), (5, .ifCond .eq 35, 3, 8, 40, 0), (8, .aload_n 0, 1, 9, 0, 0), (9, .iload_n 2, 1, 10, 0, 0), (10, .invokevirtual 58, 3, 13, 19, 2), (13, .ifCond .eq 27, 3, 16, 40, 0), (16, .aload_n 0, 1, 17, 0, 0), (17, .getfield 33, 3, 20, 0, 6), (20, .iload_n 1, 1, 21, 0, 0), (21, .dup2, 1, 22, 0, 0), (22, .laload, 1, 23, 0, 0), (23, .lconst 1, 1, 24, 0, 0), (24, .iload_n 2, 1, 25, 0, 0), (25, .lshl, 1, 26, 0, 0), (26, .lor, 1, 27, 0, 0), (27, .lastore, 1, 28, 0, 0), (28, .aload_n 0, 1, 29, 0, 0), (29, .getfield 33, 3, 32, 0, 6), (32, .iload_n 2, 1, 33, 0, 0), (33, .dup2, 1, 34, 0, 0), (34, .laload, 1, 35, 0, 0), (35, .lconst 1, 1, 36, 0, 0), (36, .iload_n 1, 1, 37, 0, 0), (37, .lshl, 1, 38, 0, 0), (38, .lor, 1, 39, 0, 0), (39, .lastore, 1, 40, 0, 0), (40, .return_, 1, 41, 0, 0)]
def mI_21_0 : List mRow := [(0, .aload_n 0, 1, 1, 0, 0), (1, .getfield 19, 3, 4, 3, 4), (4, .invokevirtual 163, 3, 7, 7, 1), (7, .iconst 1, 1, 8, 0, 0), (8, .isub, 1, 9, 0, 0), (9, .istore_n 1, 1, 10, 0, 0), (10, .iload_n 1, 1, 11, 0, 0), (11, .ifCond .lt 44, 3, 14, 55, 0), (14, .aload_n 0, 1, 15, 0, 0), (15, .getfield 19, 3, 18, 3, 4), (18, .iload_n 1, 1, 19, 0, 0), (19, .invokevirtual 142, 3, 22, 12, 2), (22, .istore_n 2, 1, 23, 0, 0), (23, .aload_n 0, 1, 24, 0, 0), (24, .iload_n 2, 1, 25, 0, 0), (25, .invokevirtual 151, 3, 28, 22, 2), (28, .iconst (-1), 1, 29, 0, 0), (29, .if_icmp .eq 20, 3, 32, 49, 0), (32, .aload_n 0, 1, 33, 0, 0), (33, .getfield 19, 3, 36, 3, 4), (36, .iload_n 1, 1, 37, 0, 0), (37, .invokevirtual 173, 3, 40, 23, 2), (40, .aload_n 0, 1, 41, 0, 0), (41, .getfield 10, 3, 44, 3, 3), (44, .iload_n 2, 1, 45, 0, 0), (45, .iconst 2, 1, 46, 0, 0), (46, .invokevirtual 97, 3, 49, 24, 3), (49, .iinc 1 (-1), 3, 52, 0, 0), (52, .goto (-42), 3, 55, 10, 0), (55, .return_, 1, 56, 0, 0)]
def mI_22_0 : List mRow := [(0, .iconst 0, 1, 1, 0, 0), (1, .istore_n 2, 1, 2, 0, 0), (2, .iload_n 2, 1, 3, 0, 0), (3, .aload_n 0, 1, 4, 0, 0), (4, .getfield 23, 3, 7, 3, 5), (7, .invokevirtual 163, 3, 10, 7, 1), (10, .if_icmp .ge 37, 3, 13, 47, 0), (13, .aload_n 0, 1, 14, 0, 0), (14, .getfield 10, 3, 17, 3, 3), (17, .iload_n 1, 1, 18, 0, 0), (18, .aload_n 0, 1, 19, 0, 0), (19, .getfield 23, 3, 22, 3, 5), (22, .iload_n 2, 1, 23, 0, 0), (23, .invokevirtual 142, 3, 26, 12, 2), (26, .invokevirtual 70, 3, 29, 18, 3), (29, .ifCond .eq 12, 3, 32, 41, 0), (32, .aload_n 0, 1, 33, 0, 0), (33, .getfield 23, 3, 36, 3, 5), (36, .iload_n 2, 1, 37, 0, 0), (37, .invokevirtual 142, 3, 40, 12, 2), (40, .ireturn, 1, 41, 0, 0), (41, .iinc 2 1, 3, 44, 0, 0), (44, .goto (-42), 3, 47, 2, 0), (47, .iconst (-1), 1, 48, 0, 0), (48, .ireturn, 1, 49, 0, 0)]
def mI_23_0 : List mRow := [(0, .aload_n 0, 1, 1, 0, 0), (1, .iload_n 1, 1, 2, 0, 0), (2, .invokevirtual 19, 3, 5, 13, 2), (5, .ifCond .ne 4, 3, 8, 9, 0), (8, .return_, 1, 9, 0, 0), (9, .aload_n 0, 1, 10, 0, 0), (10, .getfield 9, 3, 13, 2, 0), (13, .iload_n 1, 1, 14, 0, 0), (14, .iconst 1, 1, 15, 0, 0), (15, .iadd, 1, 16, 0, 0), (16, .aload_n 0, 1, 17, 0, 0), (17, .getfield 9, 3, 20, 2, 0), (20, .iload_n 1, 1, 21, 0, 0), (21, .aload_n 0, 1, 22, 0, 0), (22, .getfield 15, 3, 25, 2, 1), (25, .iload_n 1, 1, 26, 0, 0), (26, .isub, 1, 27, 0, 0), (27, .iconst 1, 1, 28, 0, 0), (28, .isub, 1, 29, 0, 0), (29, .invokestatic 31, 3, 32, 996, 5), (32, .aload_n 0, 1, 33, 0, 0), (33, .dup, 1, 34, 0, 0), (34, .getfield 15, 3, 37, 2, 1), (37, .iconst 1, 1, 38, 0, 0), (38, .isub, 1, 39, 0, 0), (39, .putfield 15, 3, 42, 2, 1), (42, .return_, 1, 43, 0, 0)]
def mI_24_0 : List mRow := [(0, .aload_n 0, 1, 1, 0, 0), (1, .getfield 21, 3, 4, 0, 2), (4, .iload_n 1, 1, 5, 0, 0), (5, .iconst 3, 1, 6, 0, 0), (6, .invokevirtual 50, 3, 9, 25, 3), (9, .aload_n 0, 1, 10, 0, 0), (10, .getfield 24, 3, 13, 0, 3), (13, .iload_n 1, 1, 14, 0, 0), (14, .iload_n 2, 1, 15, 0, 0), (15, .invokevirtual 50, 3, 18, 25, 3), (18, .return_, 1, 19, 0, 0)]
def mI_25_0 : List mRow := [(0, .aload_n 0, 1, 1, 0, 0), (1, .iload_n 1, 1, 2, 0, 0), (2, .invokevirtual 19, 3, 5, 13, 2), (5, .ifCond .eq 10, 3, 8, 15, 0), (8, .aload_n 0, 1, 9, 0, 0), (9, .getfield 9, 3, 12, 2, 0), (12, .iload_n 1, 1, 13, 0, 0), (13, .iload_n 2, 1, 14, 0, 0), (14, .iastore, 1, 15, 0, 0), (15, .return_, 1, 16, 0, 0)]
def mI_26_0 : List mRow := [(0, .aload_n 0, 1, 1, 0, 0), (1, .getfield 10, 3, 4, 3, 3), (4, .iload_n 1, 1, 5, 0, 0), (5, .invokevirtual 80, 3, 8, 17, 2), (8, .ifCond .ne 14, 3, 11, 22, 0), (11, .aload_n 0, 1, 12, 0, 0), (12, .getfield 10, 3, 15, 3, 3), (15, .iload_n 1, 1, 16, 0, 0), (16, .invokevirtual 84, 3, 19, 27, 2), (19, .ifCond .eq 5, 3, 22, 24, 0), (22, .iconst 0, 1, 23, 0, 0), (23, .ireturn, 1, 24, 0, 0), (24, .aload_n 0, 1, 25, 0, 0), (25, .iload_n 1, 1, 26, 0, 0), (26, .invokevirtual 88, 3, 29, 28, 2), (29, .aload_n 0, 1, 30, 0, 0), (30, .getfield 10, 3, 33, 3, 3), (33, .iload_n 1, 1, 34, 0, 0), (34, .invokevirtual 91, 3, 37, 30, 2), (37, .aload_n 0, 1, 38, 0, 0), (38, .iload_n 1, 1, 39, 0, 0), (39, .invokevirtual 62, 3, 42, 11, 2), (42, .iconst 1, 1, 43, 0, 0), (43, .ireturn, 1, 44, 0, 0)]
def mI_27_0 : List mRow := [(0, .aload_n 0, 1, 1, 0, 0), (1, .getfield 27, 3, 4, 0, 4), (4, .iload_n 1, 1, 5, 0, 0), (5, .invokevirtual 46, 3, 8, 12, 2), (8, .bipush 40, 2, 10, 0, 0), (10, .if_icmp .eq 7, 3, 13, 17, 0), (13, .iconst 1, 1, 14, 0, 0), (14, .goto 4, 3, 17, 18, 0), (17, .iconst 0, 1, 18, 0, 0), (18, .ireturn, 1, 19, 0, 0)]
def mI_28_0 : List mRow := [(0, .aload_n 0, 1, 1, 0, 0), (1, .getfield 19, 3, 4, 3, 4), (4, .aload_n 0, 1, 5, 0, 0), (5, .getfield 19, 3, 8, 3, 4), (8, .iload_n 1, 1, 9, 0, 0), (9, .invokevirtual 170, 3, 12, 29, 2), (12, .invokevirtual 173, 3, 15, 23, 2), (15, .return_, 1, 16, 0, 0)]
def mI_29_0 : List mRow := [(0, .iconst 0, 1, 1, 0, 0), (1, .istore_n 2, 1, 2, 0, 0), (2, .iload_n 2, 1, 3, 0, 0), (3, .aload_n 0, 1, 4, 0, 0), (4, .getfield 15, 3, 7, 2, 1), (7, .if_icmp .ge 20, 3, 10, 27, 0), (10, .aload_n 0, 1, 11, 0, 0), (11, .iload_n 2, 1, 12, 0, 0), (12, .invokevirtual 23, 3, 15, 12, 2), (15, .iload_n 1, 1, 16, 0, 0), (16, .if_icmp .ne 5, 3, 19, 21, 0), (19, .iload_n 2, 1, 20, 0, 0), (20, .ireturn, 1, 21, 0, 0), (21, .iinc 2 1, 3, 24, 0, 0), (24, .goto (-22), 3, 27, 2, 0), (27, .iconst (-1), 1, 28, 0, 0), (28, .ireturn, 1, 29, 0, 0)]
def mI_30_0 : List mRow := [(0, .aload_n 0, 1, 1, 0, 0), (1, .getfield 27, 3, 4, 0, 4), (4, .iload_n 1, 1, 5, 0, 0), (5, .aload_n 0, 1, 6, 0, 0), (6, .getfield 54, 3, 9, 0, 7), (9, .invokevirtual 50, 3, 12, 25, 3), (12, .aload_n 0, 1, 13, 0, 0), (13, .dup, 1, 14, 0, 0), (14, .getfield 54, 3, 17, 0, 7), (17, .iconst 1, 1, 18, 0, 0), (18, .iadd, 1, 19, 0, 0), (19, .putfield 54, 3, 22, 0, 7), (22, .return_, 1, 23, 0, 0)]
def mI_31_0 : List mRow := [(0, .aload_n 0, 1, 1, 0, 0), (1, .getfield 10, 3, 4, 3, 3), (4, .iload_n 1, 1, 5, 0, 0), (5, .invokevirtual 80, 3, 8, 17, 2), (8, .istore_n 2, 1, 9, 0, 0), (9, .iload_n 2, 1, 10, 0, 0), (10, .ifCond .ne 11, 3, 13, 21, 0), (13, .aload_n 0, 1, 14, 0, 0), (14, .iload_n 1, 1, 15, 0, 0), (15, .invokevirtual 88, 3, 18, 28, 2), (18, .goto 21, 3, 21, 39, 0), (21, .iload_n 2, 1, 22, 0, 0), (22, .iconst 1, 1, 23, 0, 0), (23, .if_icmp .ne 14, 3, 26, 37, 0), (26, .aload_n 0, 1, 27, 0, 0), (27, .getfield 29, 3, 30, 3, 6), (30, .iload_n 1, 1, 31, 0, 0), (31, .invokevirtual 94, 3, 34, 32, 2), (34, .goto 5, 3, 37, 39, 0), (37, .iconst 0, 1, 38, 0, 0), (38, .ireturn, 1, 39, 0, 0), (39, .aload_n 0, 1, 40, 0, 0), (40, .getfield 10, 3, 43, 3, 3), (43, .iload_n 1, 1, 44, 0, 0), (44, .iconst 3, 1, 45, 0, 0), (45, .invokevirtual 97, 3, 48, 24, 3), (48, .iconst 1, 1, 49, 0, 0), (49, .ireturn, 1, 50, 0, 0)]
def mI_32_0 : List mRow := [(0, .aload_n 0, 1, 1, 0, 0), (1, .getfield 12, 3, 4, 1, 0), (4, .iload_n 1, 1, 5, 0, 0), (5, .invokevirtual 67, 3, 8, 29, 2), (8, .istore_n 2, 1, 9, 0, 0), (9, .iload_n 2, 1, 10, 0, 0), (10, .iconst (-1), 1, 11, 0, 0), (11, .if_icmp .ne 4, 3, 14, 15, 0), (14, .return_, 1, 15, 0, 0), (15, .aload_n 0, 1, 16, 0, 0), (16, .iload_n 2, 1, 17, 0, 0), (17, .invokevirtual 70, 3, 20, 33, 2), (20, .istore_n 3, 1, 21, 0, 0), (21, .aload_n 0, 1, 22, 0, 0), (22, .iload_n 3, 1, 23, 0, 0), (23, .invokevirtual 64, 3, 26, 35, 2), (26, .aload_n 0, 1, 27, 0, 0), (27, .getfield 12, 3, 30, 1, 0), (30, .iload_n 2, 1, 31, 0, 0), (31, .invokevirtual 58, 3, 34, 23, 2), (34, .aload_n 0, 1, 35, 0, 0), (35, .getfield 18, 3, 38, 1, 1), (38, .iload_n 3, 1, 39, 0, 0), (39, .aload_n 0, 1, 40, 0, 0), (40, .getfield 18, 3, 43, 1, 1), (43, .iload_n 3, 1, 44, 0, 0), (44, .invokevirtual 31, 3, 47, 12, 2), (47, .iconst 1, 1, 48, 0, 0), (48, .isub, 1, 49, 0, 0), (49, .invokevirtual 35, 3, 52, 25, 3), (52, .aload_n 0, 1, 53, 0, 0), (53, .getfield 18, 3, 56, 1, 1), (56, .iload_n 3, 1, 57, 0, 0), (57, .invokevirtual 31, 3, 60, 12, 2), (60, .ifCond .ne 8, 3, 63, 68, 0), (63, .aload_n 0, 1, 64, 0, 0), (64, .iload_n 3, 1, 65, 0, 0), (65, .invokevirtual 61, 3, 68, 36, 2), (68, .return_, 1, 69, 0, 0)]
def mI_33_0 : List mRow := [(0, .iconst 0, 1, 1, 0, 0), (1, .istore_n 2, 1, 2, 0, 0), (2, .iconst 0, 1, 3, 0, 0), (3, .istore_n 3, 1, 4, 0, 0), (4, .iload_n 3, 1, 5, 0, 0), (5, .aload_n 0, 1, 6, 0, 0), (6, .invokevirtual 50, 3, 9, 34, 1), (9, .if_icmp .ge 27, 3, 12, 36, 0), (12, .iload_n 2, 1, 13, 0, 0), (13, .aload_n 0, 1, 14, 0, 0), (14, .getfield 18, 3, 17, 1, 1), (17, .iload_n 3, 1, 18, 0, 0), (18, .invokevirtual 31, 3, 21, 12, 2), (21, .iadd, 1, 22, 0, 0), (22, .istore_n 2, 1, 23, 0, 0), (23, .iload_n 1, 1, 24, 0, 0), (24, .iload_n 2, 1, 25, 0, 0), (25, .if_icmp .ge 5, 3, 28, 30, 0), (28, .iload_n 3, 1, 29, 0, 0), (29, .ireturn, 1, 30, 0, 0), (30, .iinc 3 1, 3, 33, 0, 0), (33, .goto (-29), 3, 36, 4, 0), (36, .aload_n 0, 1, 37, 0, 0), (37, .invokevirtual 50, 3, 40, 34, 1), (40, .ireturn, 1, 41, 0, 0)]
def mI_34_0 : List mRow := [(0, .aload_n 0, 1, 1, 0, 0), (1, .getfield 21, 3, 4, 1, 2), (4, .invokevirtual 27, 3, 7, 7, 1), (7, .ireturn, 1, 8, 0, 0)]
def mI_35_0 : List mRow := [(0, .iload_n 1, 1, 1, 0, 0), (1, .istore_n 2, 1, 2, 0, 0), (2, .iload_n 2, 1, 3, 0, 0), (3, .aload_n 0, 1, 4, 0, 0), (4, .invokevirtual 50, 3, 7, 34, 1), (7, .if_icmp .ge 49, 3, 10, 56, 0), (10, .aload_n 0, 1, 11, 0, 0), (11, .getfield 21, 3, 14, 1, 2), (14, .iload_n 2, 1, 15, 0, 0), (15, .invokevirtual 31, 3, 18, 12, 2), (18, .iconst 1, 1, 19, 0, 0), (19, .if_icmp .ne 13, 3, 22, 32, 0), (22, .aload_n 0, 1, 23, 0, 0), (23, .dup, 1, 24, 0, 0), (24, .getfield 46, 3, 27, 1, 4), (27, .iconst 1, 1, 28, 0, 0), (28, .iadd, 1, 29, 0, 0), (29, .putfield 46, 3, 32, 1, 4), (32, .aload_n 0, 1, 33, 0, 0), (33, .getfield 21, 3, 36, 1, 2), (36, .iload_n 2, 1, 37, 0, 0), (37, .iconst 0, 1, 38, 0, 0), (38, .invokevirtual 35, 3, 41, 25, 3), (41, .aload_n 0, 1, 42, 0, 0), (42, .getfield 24, 3, 45, 1, 3), (45, .iload_n 2, 1, 46, 0, 0), (46, .iconst 0, 1, 47, 0, 0), (47, .invokevirtual 35, 3, 50, 25, 3), (50, .iinc 2 1, 3, 53, 0, 0), (53, .goto (-51), 3, 56, 2, 0), (56, .return_, 1, 57, 0, 0)]
def mI_36_0 : List mRow := [(0, .aload_n 0, 1, 1, 0, 0), (1, .getfield 18, 3, 4, 1, 1), (4, .iload_n 1, 1, 5, 0, 0), (5, .invokevirtual 58, 3, 8, 23, 2), (8, .aload_n 0, 1, 9, 0, 0), (9, .getfield 21, 3, 12, 1, 2), (12, .iload_n 1, 1, 13, 0, 0), (13, .invokevirtual 58, 3, 16, 23, 2), (16, .aload_n 0, 1, 17, 0, 0), (17, .getfield 24, 3, 20, 1, 3), (20, .iload_n 1, 1, 21, 0, 0), (21, .invokevirtual 58, 3, 24, 23, 2), (24, .return_, 1, 25, 0, 0)]
def mI_37_0 : List mRow := [(0, .aload_n 0, 1, 1, 0, 0), (1, .getfield 100, 3, 4, 3, 7), (4, .iload_n 1, 1, 5, 0, 0), (5, .if_icmp .ne 5, 3, 8, 10, 0), (8, .iconst 0, 1, 9, 0, 0), (9, .ireturn, 1, 10, 0, 0), (10, .aload_n 0, 1, 11, 0, 0), (11, .iload_n 1, 1, 12, 0, 0), (12, .putfield 100, 3, 15, 3, 7), (15, .iconst 1, 1, 16, 0, 0), (16, .ireturn, 1, 17, 0, 0)]
def mI_38_0 : List mRow := [(0, .aload_n 0, 1, 1, 0, 0), (1, .getfield 29, 3, 4, 3, 6), (4, .iconst 0, 1, 5, 0, 0), (5, .invokevirtual 104, 3, 8, 39, 2), (8, .istore_n 1, 1, 9, 0, 0), (9, .iload_n 1, 1, 10, 0, 0), (10, .iconst 3, 1, 11, 0, 0), (11, .if_icmp .ne 9, 3, 14, 20, 0), (14, .aload_n 0, 1, 15, 0, 0), (15, .invokevirtual 107, 3, 18, 40, 1), (18, .iconst 1, 1, 19, 0, 0), (19, .ireturn, 1, 20, 0, 0), (20, .iload_n 1, 1, 21, 0, 0), (21, .iconst 2, 1, 22, 0, 0), (22, .if_icmp .ne 9, 3, 25, 31, 0), (25, .aload_n 0, 1, 26, 0, 0), (26, .invokevirtual 110, 3, 29, 46, 1), (29, .iconst 2, 1, 30, 0, 0), (30, .ireturn, 1, 31, 0, 0), (31, .aload_n 0, 1, 32, 0, 0), (32, .getfield 100, 3, 35, 3, 7), (35, .ifCond .eq 5, 3, 38, 40, 0), (38, .iconst 0, 1, 39, 0, 0), (39, .ireturn, 1, 40, 0, 0), (40, .aload_n 0, 1, 41, 0, 0), (41, .invokevirtual 113, 3, 44, 50, 1), (44, .ifCond .eq 5, 3, 47, 49, 0), (47, .iconst 3, 1, 48, 0, 0), (48, .ireturn, 1, 49, 0, 0), (49, .aload_n 0, 1, 50, 0, 0), (50, .invokevirtual 117, 3, 53, 54, 1), (53, .ifCond .eq 7, 3, 56, 60, 0), (56, .iconst 4, 1, 57, 0, 0), (57, .goto 4, 3, 60, 61, 0), (60, .iconst 0, 1, 61, 0, 0), (61, .ireturn, 1, 62, 0, 0)]
def mI_39_0 : List mRow := [(0, .aload_n 0, 1, 1, 0, 0), (1, .getfield 21, 3, 4, 1, 2), (4, .iload_n 1, 1, 5, 0, 0), (5, .invokevirtual 31, 3, 8, 12, 2), (8, .ireturn, 1, 9, 0, 0)]
def mI_40_0 : List mRow := [(0, .aload_n 0, 1, 1, 0, 0), (1, .getfield 29, 3, 4, 3, 6), (4, .iconst 0, 1, 5, 0, 0), (5, .invokevirtual 130, 3, 8, 41, 2), (8, .istore_n 1, 1, 9, 0, 0), (9, .iconst 0, 1, 10, 0, 0), (10, .istore_n 2, 1, 11, 0, 0), (11, .iload_n 2, 1, 12, 0, 0), (12, .iload_n 1, 1, 13, 0, 0), (13, .if_icmp .ge 36, 3, 16, 49, 0), (16, .aload_n 0, 1, 17, 0, 0), (17, .getfield 29, 3, 20, 3, 6), (20, .iconst 0, 1, 21, 0, 0), (21, .iload_n 2, 1, 22, 0, 0), (22, .invokevirtual 139, 3, 25, 42, 3), (25, .istore_n 3, 1, 26, 0, 0), (26, .aload_n 0, 1, 27, 0, 0), (27, .getfield 10, 3, 30, 3, 3), (30, .iload_n 3, 1, 31, 0, 0), (31, .iconst 2, 1, 32, 0, 0), (32, .invokevirtual 176, 3, 35, 44, 3), (35, .aload_n 0, 1, 36, 0, 0), (36, .getfield 23, 3, 39, 3, 5), (39, .iload_n 3, 1, 40, 0, 0), (40, .invokevirtual 179, 3, 43, 9, 2), (43, .iinc 2 1, 3, 46, 0, 0), (46, .goto (-35), 3, 49, 11, 0), (49, .aload_n 0, 1, 50, 0, 0), (50, .getfield 29, 3, 53, 3, 6), (53, .invokevirtual 182, 3, 56, 45, 1), (56, .aload_n 0, 1, 57, 0, 0), (57, .invokevirtual 77, 3, 60, 21, 1), (60, .return_, 1, 61, 0, 0)]
def mI_41_0 : List mRow := [(0, .aload_n 0, 1, 1, 0, 0), (1, .getfield 18, 3, 4, 1, 1), (4, .iload_n 1, 1, 5, 0, 0), (5, .invokevirtual 31, 3, 8, 12, 2), (8, .ireturn, 1, 9, 0, 0)]
def mI_42_0 : List mRow := [(0, .iload_n 2, 1, 1, 0, 0), (1, .ifCond .lt 32, 3, 4, 33, 0), (4, .iload_n 2, 1, 5, 0, 0), (5, .aload_n 0, 1, 6, 0, 0), (6, .getfield 18, 3, 9, 1, 1), (9, .iload_n 1, 1, 10, 0, 0), (10, .invokevirtual 31, 3, 13, 12, 2), (13, .if_icmp .ge 20, 3, 16, 33, 0), (16, .aload_n 0, 1, 17, 0, 0), (17, .getfield 12, 3, 20, 1, 0), (20, .aload_n 0, 1, 21, 0, 0), (21, .iload_n 1, 1, 22, 0, 0), (22, .invokevirtual 43, 3, 25, 43, 2), (25, .iload_n 2, 1, 26, 0, 0), (26, .iadd, 1, 27, 0, 0), (27, .invokevirtual 31, 3, 30, 12, 2), (30, .goto 4, 3, 33, 34, 0), (33, .iconst (-1), 1, 34, 0, 0), (34, .ireturn, 1, 35, 0, 0)]
def mI_43_0 : List mRow := [(0, .aload_n 0, 1, 1, 0, 0), (1, .getfield 21, 3, 4, 1, 2), (4, .iload_n 1, 1, 5, 0, 0), (5, .invokevirtual 39, 3, 8, 13, 2), (8, .ifCond .ne 5, 3, 11, 13, 0), (11, .iconst (-1), 1, 12, 0, 0), (12, .ireturn, 1, 13, 0, 0), (13, .iconst 0, 1, 14, 0, 0), (14, .istore_n 2, 1, 15, 0, 0), (15, .iconst 0, 1, 16, 0, 0), (16, .istore_n 3, 1, 17, 0, 0), (17, .iload_n 3, 1, 18, 0, 0), (18, .iload_n 1, 1, 19, 0, 0), (19, .if_icmp .ge 20, 3, 22, 39, 0), (22, .iload_n 2, 1, 23, 0, 0), (23, .aload_n 0, 1, 24, 0, 0), (24, .getfield 18, 3, 27, 1, 1), (27, .iload_n 3, 1, 28, 0, 0), (28, .invokevirtual 31, 3, 31, 12, 2), (31, .iadd, 1, 32, 0, 0), (32, .istore_n 2, 1, 33, 0, 0), (33, .iinc 3 1, 3, 36, 0, 0), (36, .goto (-19), 3, 39, 17, 0), (39, .iload_n 2, 1, 40, 0, 0), (40, .ireturn, 1, 41, 0, 0)]
def mI_44_0 : List mRow := [(0, .aload_n 0, 1, 1, 0, 0), (1, .getfield 21, 3, 4, 0, 2), (4, .iload_n 1, 1, 5, 0, 0), (5, .iload_n 2, 1, 6, 0, 0), (6, .invokevirtual 50, 3, 9, 25, 3), (9, .return_, 1, 10, 0, 0)]
def mI_45_0 : List mRow := [(0, .aload_n 0, 1, 1, 0, 0), (1, .getfield 18, 3, 4, 1, 1), (4, .iconst 0, 1, 5, 0, 0), (5, .invokevirtual 31, 3, 8, 12, 2), (8, .istore_n 1, 1, 9, 0, 0), (9, .iconst 0, 1, 10, 0, 0), (10, .istore_n 2, 1, 11, 0, 0), (11, .iload_n 2, 1, 12, 0, 0), (12, .iload_n 1, 1, 13, 0, 0), (13, .if_icmp .ge 17, 3, 16, 30, 0), (16, .aload_n 0, 1, 17, 0, 0), (17, .getfield 12, 3, 20, 1, 0), (20, .iconst 0, 1, 21, 0, 0), (21, .invokevirtual 58, 3, 24, 23, 2), (24, .iinc 2 1, 3, 27, 0, 0), (27, .goto (-16), 3, 30, 11, 0), (30, .aload_n 0, 1, 31, 0, 0), (31, .iconst 0, 1, 32, 0, 0), (32, .invokevirtual 61, 3, 35, 36, 2), (35, .return_, 1, 36, 0, 0)]
def mI_46_0 : List mRow := [(0, .aload_n 0, 1, 1, 0, 0), (1, .getfield 29, 3, 4, 3, 6), (4, .iconst 0, 1, 5, 0, 0), (5, .invokevirtual 130, 3, 8, 41, 2), (8, .iconst 1, 1, 9, 0, 0), (9, .if_icmp .le 21, 3, 12, 30, 0), (12, .aload_n 0, 1, 13, 0, 0), (13, .getfield 29, 3, 16, 3, 6), (16, .invokevirtual 185, 3, 19, 47, 1), (19, .aload_n 0, 1, 20, 0, 0), (20, .dup, 1, 21, 0, 0), (21, .getfield 154, 3, 24, 3, 9), (24, .iconst 1, 1, 25, 0, 0), (25, .iadd, 1, 26, 0, 0), (26, .putfield 154, 3, 29, 3, 9), (29, .return_, 1, 30, 0, 0), (30, .aload_n 0, 1, 31, 0, 0), (31, .getfield 29, 3, 34, 3, 6), (34, .iconst 0, 1, 35, 0, 0), (35, .iconst 0, 1, 36, 0, 0), (36, .invokevirtual 139, 3, 39, 42, 3), (39, .istore_n 1, 1, 40, 0, 0), (40, .aload_n 0, 1, 41, 0, 0), (41, .getfield 29, 3, 44, 3, 6), (44, .iload_n 1, 1, 45, 0, 0), (45, .invokevirtual 94, 3, 48, 32, 2), (48, .aload_n 0, 1, 49, 0, 0), (49, .getfield 10, 3, 52, 3, 3), (52, .iload_n 1, 1, 53, 0, 0), (53, .iconst 1, 1, 54, 0, 0), (54, .invokevirtual 97, 3, 57, 24, 3), (57, .aload_n 0, 1, 58, 0, 0), (58, .getfield 10, 3, 61, 3, 3), (61, .iload_n 1, 1, 62, 0, 0), (62, .aload_n 0, 1, 63, 0, 0), (63, .getfield 23, 3, 66, 3, 5), (66, .invokevirtual 163, 3, 69, 7, 1), (69, .invokevirtual 188, 3, 72, 49, 3), (72, .return_, 1, 73, 0, 0)]
def mI_47_0 : List mRow := [(0, .aload_n 0, 1, 1, 0, 0), (1, .getfield 18, 3, 4, 1, 1), (4, .iconst 0, 1, 5, 0, 0), (5, .invokevirtual 31, 3, 8, 12, 2), (8, .istore_n 1, 1, 9, 0, 0), (9, .iload_n 1, 1, 10, 0, 0), (10, .iconst 2, 1, 11, 0, 0), (11, .idiv, 1, 12, 0, 0), (12, .istore_n 2, 1, 13, 0, 0), (13, .aload_n 0, 1, 14, 0, 0), (14, .getfield 18, 3, 17, 1, 1), (17, .iconst 0, 1, 18, 0, 0), (18, .iload_n 1, 1, 19, 0, 0), (19, .iload_n 2, 1, 20, 0, 0), (20, .isub, 1, 21, 0, 0), (21, .invokevirtual 35, 3, 24, 25, 3), (24, .aload_n 0, 1, 25, 0, 0), (25, .iconst 1, 1, 26, 0, 0), (26, .iload_n 2, 1, 27, 0, 0), (27, .invokevirtual 55, 3, 30, 48, 3), (30, .aload_n 0, 1, 31, 0, 0), (31, .iconst 0, 1, 32, 0, 0), (32, .invokevirtual 64, 3, 35, 35, 2), (35, .return_, 1, 36, 0, 0)]
def mI_48_0 : List mRow := [(0, .aload_n 0, 1, 1, 0, 0), (1, .getfield 18, 3, 4, 1, 1), (4, .iload_n 1, 1, 5, 0, 0), (5, .iload_n 2, 1, 6, 0, 0), (6, .invokevirtual 73, 3, 9, 10, 3), (9, .aload_n 0, 1, 10, 0, 0), (10, .getfield 21, 3, 13, 1, 2), (13, .iload_n 1, 1, 14, 0, 0), (14, .iconst 0, 1, 15, 0, 0), (15, .invokevirtual 73, 3, 18, 10, 3), (18, .aload_n 0, 1, 19, 0, 0), (19, .getfield 24, 3, 22, 1, 3), (22, .iload_n 1, 1, 23, 0, 0), (23, .iconst 0, 1, 24, 0, 0), (24, .invokevirtual 73, 3, 27, 10, 3), (27, .return_, 1, 28, 0, 0)]
def mI_49_0 : List mRow := [(0, .aload_n 0, 1, 1, 0, 0), (1, .getfield 30, 3, 4, 0, 5), (4, .iload_n 1, 1, 5, 0, 0), (5, .iload_n 2, 1, 6, 0, 0), (6, .invokevirtual 50, 3, 9, 25, 3), (9, .return_, 1, 10, 0, 0)]
def mI_50_0 : List mRow := [(0, .aload_n 0, 1, 1, 0, 0), (1, .getfield 29, 3, 4, 3, 6), (4, .invokevirtual 191, 3, 7, 51, 1), (7, .istore_n 1, 1, 8, 0, 0), (8, .iload_n 1, 1, 9, 0, 0), (9, .iconst (-1), 1, 10, 0, 0), (10, .if_icmp .eq 17, 3, 13, 27, 0), (13, .aload_n 0, 1, 14, 0, 0), (14, .getfield 29, 3, 17, 3, 6), (17, .invokevirtual 194, 3, 20, 52, 1), (20, .aload_n 0, 1, 21, 0, 0), (21, .getfield 41, 3, 24, 3, 1), (24, .if_icmp .lt 5, 3, 27, 29, 0), (27, .iconst 0, 1, 28, 0, 0), (28, .ireturn, 1, 29, 0, 0), (29, .aload_n 0, 1, 30, 0, 0), (30, .getfield 29, 3, 33, 3, 6), (33, .iload_n 1, 1, 34, 0, 0), (34, .iconst 1, 1, 35, 0, 0), (35, .invokevirtual 123, 3, 38, 53, 3), (38, .iconst 1, 1, 39, 0, 0), (39, .ireturn, 1, 40, 0, 0)]
def mI_51_0 : List mRow := [(0, .iconst 0, 1, 1, 0, 0), (1, .istore_n 1, 1, 2, 0, 0), (2, .iload_n 1, 1, 3, 0, 0), (3, .aload_n 0, 1, 4, 0, 0), (4, .invokevirtual 50, 3, 7, 34, 1), (7, .if_icmp .ge 36, 3, 10, 43, 0), (10, .aload_n 0, 1, 11, 0, 0), (11, .getfield 21, 3, 14, 1, 2), (14, .iload_n 1, 1, 15, 0, 0), (15, .invokevirtual 31, 3, 18, 12, 2), (18, .ifCond .ne 5, 3, 21, 23, 0), (21, .iload_n 1, 1, 22, 0, 0), (22, .ireturn, 1, 23, 0, 0), (23, .aload_n 0, 1, 24, 0, 0), (24, .getfield 21, 3, 27, 1, 2), (27, .iload_n 1, 1, 28, 0, 0), (28, .invokevirtual 31, 3, 31, 12, 2), (31, .iconst 2, 1, 32, 0, 0), (32, .if_icmp .ne 5, 3, 35, 37, 0), (35, .iconst (-1), 1, 36, 0, 0), (36, .ireturn, 1, 37, 0, 0), (37, .iinc 1 1, 3, 40, 0, 0), (40, .goto (-38), 3, 43, 2, 0), (43, .iconst (-1), 1, 44, 0, 0), (44, .ireturn, 1, 45, 0, 0)]
def mI_52_0 : List mRow := [(0, .iconst 0, 1, 1, 0, 0), (1, .istore_n 1, 1, 2, 0, 0), (2, .iconst 0, 1, 3, 0, 0), (3, .istore_n 2, 1, 4, 0, 0), (4, .iload_n 2, 1, 5, 0, 0), (5, .aload_n 0, 1, 6, 0, 0), (6, .invokevirtual 50, 3, 9, 34, 1), (9, .if_icmp .ge 24, 3, 12, 33, 0), (12, .aload_n 0, 1, 13, 0, 0), (13, .getfield 21, 3, 16, 1, 2), (16, .iload_n 2, 1, 17, 0, 0), (17, .invokevirtual 31, 3, 20, 12, 2), (20, .iconst 1, 1, 21, 0, 0), (21, .if_icmp .ne 6, 3, 24, 27, 0), (24, .iinc 1 1, 3, 27, 0, 0), (27, .iinc 2 1, 3, 30, 0, 0), (30, .goto (-26), 3, 33, 4, 0), (33, .iload_n 1, 1, 34, 0, 0), (34, .ireturn, 1, 35, 0, 0)]
def mI_53_0 : List mRow := [(0, .aload_n 0, 1, 1, 0, 0), (1, .getfield 21, 3, 4, 1, 2), (4, .iload_n 1, 1, 5, 0, 0), (5, .iload_n 2, 1, 6, 0, 0), (6, .invokevirtual 35, 3, 9, 25, 3), (9, .return_, 1, 10, 0, 0)]
def mI_54_0 : List mRow := [(0, .aload_n 0, 1, 1, 0, 0), (1, .getfield 29, 3, 4, 3, 6), (4, .invokevirtual 129, 3, 7, 34, 1), (7, .aload_n 0, 1, 8, 0, 0), (8, .getfield 41, 3, 11, 3, 1), (11, .if_icmp .lt 5, 3, 14, 16, 0), (14, .iconst 0, 1, 15, 0, 0), (15, .ireturn, 1, 16, 0, 0), (16, .iconst 0, 1, 17, 0, 0), (17, .istore_n 1, 1, 18, 0, 0), (18, .iconst 0, 1, 19, 0, 0), (19, .istore_n 2, 1, 20, 0, 0), (20, .iload_n 2, 1, 21, 0, 0), (21, .aload_n 0, 1, 22, 0, 0), (22, .getfield 19, 3, 25, 3, 4), (25, .invokevirtual 163, 3, 28, 7, 1), (28, .if_icmp .ge 54, 3, 31, 82, 0), (31, .iload_n 1, 1, 32, 0, 0), (32, .aload_n 0, 1, 33, 0, 0), (33, .getfield 37, 3, 36, 3, 0), (36, .if_icmp .ge 46, 3, 39, 82, 0), (39, .aload_n 0, 1, 40, 0, 0), (40, .getfield 19, 3, 43, 3, 4), (43, .iload_n 2, 1, 44, 0, 0), (44, .invokevirtual 142, 3, 47, 12, 2), (47, .istore_n 3, 1, 48, 0, 0), (48, .aload_n 0, 1, 49, 0, 0), (49, .iload_n 3, 1, 50, 0, 0), (50, .invokevirtual 197, 3, 53, 55, 2), (53, .ifCond .ne 23, 3, 56, 76, 0), (56, .aload_n 0, 1, 57, 0, 0), (57, .getfield 29, 3, 60, 3, 6), (60, .iload_n 3, 1, 61, 0, 0), (61, .invokevirtual 200, 3, 64, 58, 2), (64, .aload_n 0, 1, 65, 0, 0), (65, .getfield 10, 3, 68, 3, 3), (68, .iload_n 3, 1, 69, 0, 0), (69, .iconst 1, 1, 70, 0, 0), (70, .invokevirtual 176, 3, 73, 44, 3), (73, .iinc 1 1, 3, 76, 0, 0), (76, .iinc 2 1, 3, 79, 0, 0), (79, .goto (-59), 3, 82, 20, 0), (82, .iload_n 1, 1, 83, 0, 0), (83, .ifCond .ne 5, 3, 86, 88, 0), (86, .iconst 0, 1, 87, 0, 0), (87, .ireturn, 1, 88, 0, 0), (88, .aload_n 0, 1, 89, 0, 0), (89, .getfield 29, 3, 92, 3, 6), (92, .iload_n 1, 1, 93, 0, 0), (93, .invokevirtual 203, 3, 96, 59, 2)]
def mI_54_1 : List mRow := [(96, .aload_n 0, 1, 97, 0, 0), (97, .invokevirtual 206, 3, 100, 60, 1), (100, .iconst 1, 1, 101, 0, 0), (101, .ireturn, 1, 102, 0, 0)]
def mI_55_0 : List mRow := [(0, .iconst 0, 1, 1, 0, 0), (1, .istore_n 2, 1, 2, 0, 0), (2, .iload_n 2, 1, 3, 0, 0), (3, .aload_n 0, 1, 4, 0, 0), (4, .getfield 29, 3, 7, 3, 6), (7, .invokevirtual 209, 3, 10, 56, 1), (10, .if_icmp .ge 30, 3, 13, 40, 0), (13, .aload_n 0, 1, 14, 0, 0), (14, .getfield 10, 3, 17, 3, 3), (17, .iload_n 1, 1, 18, 0, 0), (18, .aload_n 0, 1, 19, 0, 0), (19, .getfield 29, 3, 22, 3, 6), (22, .iload_n 2, 1, 23, 0, 0), (23, .invokevirtual 212, 3, 26, 57, 2), (26, .invokevirtual 70, 3, 29, 18, 3), (29, .ifCond .eq 5, 3, 32, 34, 0), (32, .iconst 1, 1, 33, 0, 0), (33, .ireturn, 1, 34, 0, 0), (34, .iinc 2 1, 3, 37, 0, 0), (37, .goto (-35), 3, 40, 2, 0), (40, .iconst 0, 1, 41, 0, 0), (41, .ireturn, 1, 42, 0, 0)]
def mI_56_0 : List mRow := [(0, .aload_n 0, 1, 1, 0, 0), (1, .getfield 12, 3, 4, 1, 0), (4, .invokevirtual 27, 3, 7, 7, 1), (7, .ireturn, 1, 8, 0, 0)]
def mI_57_0 : List mRow := [(0, .aload_n 0, 1, 1, 0, 0), (1, .getfield 12, 3, 4, 1, 0), (4, .iload_n 1, 1, 5, 0, 0), (5, .invokevirtual 31, 3, 8, 12, 2), (8, .ireturn, 1, 9, 0, 0)]
def mI_58_0 : List mRow := [(0, .aload_n 0, 1, 1, 0, 0), (1, .getfield 12, 3, 4, 1, 0), (4, .iload_n 1, 1, 5, 0, 0), (5, .invokevirtual 51, 3, 8, 9, 2), (8, .return_, 1, 9, 0, 0)]
def mI_59_0 : List mRow := [(0, .aload_n 0, 1, 1, 0, 0), (1, .aload_n 0, 1, 2, 0, 0), (2, .invokevirtual 50, 3, 5, 34, 1), (5, .iload_n 1, 1, 6, 0, 0), (6, .invokevirtual 55, 3, 9, 48, 3), (9, .return_, 1, 10, 0, 0)]
def mI_60_0 : List mRow := [(0, .aload_n 0, 1, 1, 0, 0), (1, .getfield 19, 3, 4, 3, 4), (4, .invokevirtual 163, 3, 7, 7, 1), (7, .iconst 1, 1, 8, 0, 0), (8, .isub, 1, 9, 0, 0), (9, .istore_n 1, 1, 10, 0, 0), (10, .iload_n 1, 1, 11, 0, 0), (11, .ifCond .lt 36, 3, 14, 47, 0), (14, .aload_n 0, 1, 15, 0, 0), (15, .getfield 10, 3, 18, 3, 3), (18, .aload_n 0, 1, 19, 0, 0), (19, .getfield 19, 3, 22, 3, 4), (22, .iload_n 1, 1, 23, 0, 0), (23, .invokevirtual 142, 3, 26, 12, 2), (26, .invokevirtual 80, 3, 29, 17, 2), (29, .iconst 1, 1, 30, 0, 0), (30, .if_icmp .ne 11, 3, 33, 41, 0), (33, .aload_n 0, 1, 34, 0, 0), (34, .getfield 19, 3, 37, 3, 4), (37, .iload_n 1, 1, 38, 0, 0), (38, .invokevirtual 173, 3, 41, 23, 2), (41, .iinc 1 (-1), 3, 44, 0, 0), (44, .goto (-34), 3, 47, 10, 0), (47, .return_, 1, 48, 0, 0)]
def mI_61_0 : List mRow := [(0, .aload_n 0, 1, 1, 0, 0), (1, .getfield 29, 3, 4, 3, 6), (4, .iload_n 1, 1, 5, 0, 0), (5, .invokevirtual 104, 3, 8, 39, 2), (8, .iconst 1, 1, 9, 0, 0), (9, .if_icmp .eq 5, 3, 12, 14, 0), (12, .iconst (-1), 1, 13, 0, 0), (13, .ireturn, 1, 14, 0, 0), (14, .aload_n 0, 1, 15, 0, 0), (15, .dup, 1, 16, 0, 0), (16, .getfield 120, 3, 19, 3, 8), (19, .iconst 1, 1, 20, 0, 0), (20, .iadd, 1, 21, 0, 0), (21, .putfield 120, 3, 24, 3, 8), (24, .iload_n 2, 1, 25, 0, 0), (25, .ifCond .eq 15, 3, 28, 40, 0), (28, .aload_n 0, 1, 29, 0, 0), (29, .getfield 29, 3, 32, 3, 6), (32, .iload_n 1, 1, 33, 0, 0), (33, .iconst 3, 1, 34, 0, 0), (34, .invokevirtual 123, 3, 37, 53, 3), (37, .goto 15, 3, 40, 52, 0), (40, .aload_n 0, 1, 41, 0, 0), (41, .getfield 29, 3, 44, 3, 6), (44, .iload_n 1, 1, 45, 0, 0), (45, .aload_n 0, 1, 46, 0, 0), (46, .getfield 44, 3, 49, 3, 2), (49, .invokevirtual 126, 3, 52, 62, 3), (52, .aload_n 0, 1, 53, 0, 0), (53, .getfield 29, 3, 56, 3, 6), (56, .iload_n 1, 1, 57, 0, 0), (57, .invokevirtual 104, 3, 60, 39, 2), (60, .ireturn, 1, 61, 0, 0)]
def mI_62_0 : List mRow := [(0, .aload_n 0, 1, 1, 0, 0), (1, .getfield 24, 3, 4, 1, 3), (4, .iload_n 1, 1, 5, 0, 0), (5, .aload_n 0, 1, 6, 0, 0), (6, .getfield 24, 3, 9, 1, 3), (9, .iload_n 1, 1, 10, 0, 0), (10, .invokevirtual 31, 3, 13, 12, 2), (13, .iconst 1, 1, 14, 0, 0), (14, .iadd, 1, 15, 0, 0), (15, .invokevirtual 35, 3, 18, 25, 3), (18, .aload_n 0, 1, 19, 0, 0), (19, .getfield 24, 3, 22, 1, 3), (22, .iload_n 1, 1, 23, 0, 0), (23, .invokevirtual 31, 3, 26, 12, 2), (26, .iload_n 2, 1, 27, 0, 0), (27, .if_icmp .lt 12, 3, 30, 39, 0), (30, .aload_n 0, 1, 31, 0, 0), (31, .getfield 21, 3, 34, 1, 2), (34, .iload_n 1, 1, 35, 0, 0), (35, .iconst 2, 1, 36, 0, 0), (36, .invokevirtual 35, 3, 39, 25, 3), (39, .return_, 1, 40, 0, 0)]
def mI_63_0 : List mRow := [(0, .aload_n 0, 1, 1, 0, 0), (1, .getfield 29, 3, 4, 3, 6), (4, .invokevirtual 129, 3, 7, 34, 1), (7, .ireturn, 1, 8, 0, 0)]
def mI_64_0 : List mRow := [(0, .iload_n 2, 1, 1, 0, 0), (1, .tableswitch 67 0 3 #[31, 40, 49, 58], 31, 32, 68, 0), (32, .aload_n 0, 1, 33, 0, 0), (33, .getfield 29, 3, 36, 3, 6), (36, .iload_n 1, 1, 37, 0, 0), (37, .invokevirtual 104, 3, 40, 39, 2), (40, .ireturn, 1, 41, 0, 0), (41, .aload_n 0, 1, 42, 0, 0), (42, .getfield 29, 3, 45, 3, 6), (45, .iload_n 1, 1, 46, 0, 0), (46, .invokevirtual 130, 3, 49, 41, 2), (49, .ireturn, 1, 50, 0, 0), (50, .aload_n 0, 1, 51, 0, 0), (51, .getfield 29, 3, 54, 3, 6), (54, .iload_n 1, 1, 55, 0, 0), (55, .invokevirtual 133, 3, 58, 65, 2), (58, .ireturn, 1, 59, 0, 0), (59, .aload_n 0, 1, 60, 0, 0), (60, .getfield 29, 3, 63, 3, 6), (63, .iload_n 1, 1, 64, 0, 0), (64, .invokevirtual 136, 3, 67, 43, 2), (67, .ireturn, 1, 68, 0, 0), (68, .iconst (-1), 1, 69, 0, 0), (69, .ireturn, 1, 70, 0, 0)]
def mI_65_0 : List mRow := [(0, .aload_n 0, 1, 1, 0, 0), (1, .getfield 24, 3, 4, 1, 3), (4, .iload_n 1, 1, 5, 0, 0), (5, .invokevirtual 31, 3, 8, 12, 2), (8, .ireturn, 1, 9, 0, 0)]
def mI_66_0 : List mRow := [(0, .aload_n 0, 1, 1, 0, 0), (1, .getfield 29, 3, 4, 3, 6), (4, .iload_n 1, 1, 5, 0, 0), (5, .iload_n 2, 1, 6, 0, 0), (6, .invokevirtual 139, 3, 9, 42, 3), (9, .ireturn, 1, 10, 0, 0)]
def mI_67_0 : List mRow := [(0, .aload_n 0, 1, 1, 0, 0), (1, .getfield 19, 3, 4, 3, 4), (4, .iload_n 1, 1, 5, 0, 0), (5, .invokevirtual 142, 3, 8, 12, 2), (8, .ireturn, 1, 9, 0, 0)]
def mI_68_0 : List mRow := [(0, .aload_n 0, 1, 1, 0, 0), (1, .getfield 23, 3, 4, 3, 5), (4, .iload_n 1, 1, 5, 0, 0), (5, .invokevirtual 142, 3, 8, 12, 2), (8, .ireturn, 1, 9, 0, 0)]
def mI_69_0 : List mRow := [(0, .aload_n 0, 1, 1, 0, 0), (1, .getfield 10, 3, 4, 3, 3), (4, .iload_n 1, 1, 5, 0, 0), (5, .invokevirtual 80, 3, 8, 17, 2), (8, .ireturn, 1, 9, 0, 0)]
def mI_70_0 : List mRow := [(0, .aload_n 0, 1, 1, 0, 0), (1, .getfield 10, 3, 4, 3, 3), (4, .iload_n 1, 1, 5, 0, 0), (5, .invokevirtual 145, 3, 8, 71, 2), (8, .ireturn, 1, 9, 0, 0)]
def mI_71_0 : List mRow := [(0, .aload_n 0, 1, 1, 0, 0), (1, .getfield 24, 3, 4, 0, 3), (4, .iload_n 1, 1, 5, 0, 0), (5, .invokevirtual 46, 3, 8, 12, 2), (8, .ireturn, 1, 9, 0, 0)]
def mI_72_0 : List mRow := [(0, .aload_n 0, 1, 1, 0, 0), (1, .getfield 10, 3, 4, 3, 3), (4, .iload_n 1, 1, 5, 0, 0), (5, .invokevirtual 145, 3, 8, 71, 2), (8, .lookupswitch 43 #[(1, 28), (2, 37)], 28, 36, 51, 0), (36, .aload_n 0, 1, 37, 0, 0), (37, .getfield 10, 3, 40, 3, 3), (40, .iload_n 1, 1, 41, 0, 0), (41, .invokevirtual 148, 3, 44, 73, 2), (44, .ireturn, 1, 45, 0, 0), (45, .aload_n 0, 1, 46, 0, 0), (46, .iload_n 1, 1, 47, 0, 0), (47, .invokevirtual 151, 3, 50, 22, 2), (50, .ireturn, 1, 51, 0, 0), (51, .iconst (-1), 1, 52, 0, 0), (52, .ireturn, 1, 53, 0, 0)]
def mI_73_0 : List mRow := [(0, .aload_n 0, 1, 1, 0, 0), (1, .getfield 30, 3, 4, 0, 5), (4, .iload_n 1, 1, 5, 0, 0), (5, .invokevirtual 46, 3, 8, 12, 2), (8, .ireturn, 1, 9, 0, 0)]
def mI_74_0 : List mRow := [(0, .iload_n 1, 1, 1, 0, 0), (1, .tableswitch 54 0 3 #[31, 36, 41, 49], 31, 32, 55, 0), (32, .aload_n 0, 1, 33, 0, 0), (33, .getfield 120, 3, 36, 3, 8), (36, .ireturn, 1, 37, 0, 0), (37, .aload_n 0, 1, 38, 0, 0), (38, .getfield 154, 3, 41, 3, 9), (41, .ireturn, 1, 42, 0, 0), (42, .aload_n 0, 1, 43, 0, 0), (43, .getfield 29, 3, 46, 3, 6), (46, .invokevirtual 157, 3, 49, 75, 1), (49, .ireturn, 1, 50, 0, 0), (50, .aload_n 0, 1, 51, 0, 0), (51, .invokevirtual 160, 3, 54, 76, 1), (54, .ireturn, 1, 55, 0, 0), (55, .iconst (-1), 1, 56, 0, 0), (56, .ireturn, 1, 57, 0, 0)]
def mI_75_0 : List mRow := [(0, .aload_n 0, 1, 1, 0, 0), (1, .getfield 46, 3, 4, 1, 4), (4, .ireturn, 1, 5, 0, 0)]
def mI_76_0 : List mRow := [(0, .iconst 0, 1, 1, 0, 0), (1, .istore_n 1, 1, 2, 0, 0), (2, .iconst 0, 1, 3, 0, 0), (3, .istore_n 2, 1, 4, 0, 0), (4, .iload_n 2, 1, 5, 0, 0), (5, .aload_n 0, 1, 6, 0, 0), (6, .getfield 23, 3, 9, 3, 5), (9, .invokevirtual 163, 3, 12, 7, 1), (12, .if_icmp .ge 27, 3, 15, 39, 0), (15, .iload_n 1, 1, 16, 0, 0), (16, .aload_n 0, 1, 17, 0, 0), (17, .getfield 10, 3, 20, 3, 3), (20, .aload_n 0, 1, 21, 0, 0), (21, .getfield 23, 3, 24, 3, 5), (24, .iload_n 2, 1, 25, 0, 0), (25, .invokevirtual 142, 3, 28, 12, 2), (28, .invokevirtual 215, 3, 31, 77, 2), (31, .ior, 1, 32, 0, 0), (32, .istore_n 1, 1, 33, 0, 0), (33, .iinc 2 1, 3, 36, 0, 0), (36, .goto (-32), 3, 39, 4, 0), (39, .iload_n 1, 1, 40, 0, 0), (40, .ireturn, 1, 41, 0, 0)]
def mI_77_0 : List mRow := [(0, .aload_n 0, 1, 1, 0, 0), (1, .getfield 18, 3, 4, 0, 1), (4, .iload_n 1, 1, 5, 0, 0), (5, .invokevirtual 46, 3, 8, 12, 2), (8, .ireturn, 1, 9, 0, 0)]
def mI_78_0 : List mRow := [(0, .iload_n 1, 1, 1, 0, 0), (1, .aload_n 0, 1, 2, 0, 0), (2, .arraylength, 1, 3, 0, 0), (3, .if_icmp .ge 9, 3, 6, 12, 0), (6, .aload_n 0, 1, 7, 0, 0), (7, .iload_n 1, 1, 8, 0, 0), (8, .iaload, 1, 9, 0, 0), (9, .goto 4, 3, 12, 13, 0), (12, .iconst 0, 1, 13, 0, 0), (13, .ireturn, 1, 14, 0, 0)]
def mI_79_0 : List mRow := [(0, .aload_n 0, 1, 1, 0, 0), (1, .invokespecial 1, 3, 4, 999, 1), (4, .aload_n 0, 1, 5, 0, 0), (5, .bipush 40, 2, 7, 0, 0), (7, .newarray .int, 2, 9, 0, 0), (9, .putfield 7, 3, 12, 4, 12), (12, .aload_n 0, 1, 13, 0, 0), (13, .bipush 40, 2, 15, 0, 0), (15, .newarray .int, 2, 17, 0, 0), (17, .putfield 13, 3, 20, 4, 13), (20, .aload_n 0, 1, 21, 0, 0), (21, .bipush 40, 2, 23, 0, 0), (23, .newarray .int, 2, 25, 0, 0), (25, .putfield 16, 3, 28, 4, 14), (28, .aload_n 0, 1, 29, 0, 0), (29, .bipush 40, 2, 31, 0, 0), (31, .newarray .int, 2, 33, 0, 0), (33, .putfield 19, 3, 36, 4, 15), (36, .aload_n 0, 1, 37, 0, 0), (37, .bipush 40, 2, 39, 0, 0), (39, .newarray .int, 2, 41, 0, 0), (41, .putfield 22, 3, 44, 4, 16), (44, .aload_n 0, 1, 45, 0, 0), (45, .bipush 40, 2, 47, 0, 0), (47, .newarray .int, 2, 49, 0, 0), (49, .putfield 25, 3, 52, 4, 17), (52, .aload_n 0, 1, 53, 0, 0), (53, .sipush 1600, 3, 56, 0, 0), (56, .newarray .boolean, 2, 58, 0, 0), (58, .putfield 28, 3, 61, 4, 18), (61, .aload_n 0, 1, 62, 0, 0), (62, .bipush 40, 2, 64, 0, 0), (64, .newarray .int, 2, 66, 0, 0), (66, .putfield 32, 3, 69, 4, 19), (69, .aload_n 0, 1, 70, 0, 0), (70, .bipush 40, 2, 72, 0, 0), (72, .newarray .int, 2, 74, 0, 0), (74, .putfield 35, 3, 77, 4, 20), (77, .aload_n 0, 1, 78, 0, 0), (78, .bipush 40, 2, 80, 0, 0), (80, .newarray .boolean, 2, 82, 0, 0), (82, .putfield 38, 3, 85, 4, 21), (85, .aload_n 0, 1, 86, 0, 0), (86, .bipush 40, 2, 88, 0, 0), (88, .newarray .int, 2, 90, 0, 0), (90, .putfield 41, 3, 93, 4, 22), (93, .aload_n 0, 1, 94, 0, 0), (94, .bipush 40, 2, 96, 0, 0), (96, .newarray .int, 2, 98, 0, 0), (98, .putfield 44, 3, 101, 4, 23)]
def mI_79_1 : List mRow := [(101, .aload_n 0, 1, 102, 0, 0), (102, .iload_n 1, 1, 103, 0, 0), (103, .bipush 8, 2, 105, 0, 0), (105, .invokestatic 47, 3, 108, 80, 2), (108, .putfield 51, 3, 111, 4, 0), (111, .aload_n 0, 1, 112, 0, 0), (112, .iload_n 2, 1, 113, 0, 0), (113, .iconst 4, 1, 114, 0, 0), (114, .invokestatic 47, 3, 117, 80, 2), (117, .putfield 55, 3, 120, 4, 1), (120, .aload_n 0, 1, 121, 0, 0), (121, .iload_n 3, 1, 122, 0, 0), (122, .iconst 3, 1, 123, 0, 0), (123, .invokestatic 47, 3, 126, 80, 2), (126, .putfield 58, 3, 129, 4, 2), (129, .return_, 1, 130, 0, 0)]
def mI_80_0 : List mRow := [(0, .iload_n 0, 1, 1, 0, 0), (1, .iconst 1, 1, 2, 0, 0), (2, .if_icmp .ge 7, 3, 5, 9, 0), (5, .iconst 1, 1, 6, 0, 0), (6, .goto 13, 3, 9, 19, 0), (9, .iload_n 0, 1, 10, 0, 0), (10, .iload_n 1, 1, 11, 0, 0), (11, .if_icmp .le 7, 3, 14, 18, 0), (14, .iload_n 1, 1, 15, 0, 0), (15, .goto 4, 3, 18, 19, 0), (18, .iload_n 0, 1, 19, 0, 0), (19, .ireturn, 1, 20, 0, 0)]
def mI_81_0 : List mRow := [(0, .aload_n 0, 1, 1, 0, 0), (1, .iconst 0, 1, 2, 0, 0), (2, .putfield 61, 3, 5, 4, 3), (5, .aload_n 0, 1, 6, 0, 0), (6, .getfield 64, 3, 9, 4, 4), (9, .bipush 40, 2, 11, 0, 0), (11, .if_icmp .eq 13, 3, 14, 24, 0), (14, .iload_n 1, 1, 15, 0, 0), (15, .ifCond .lt 9, 3, 18, 24, 0), (18, .iload_n 1, 1, 19, 0, 0), (19, .bipush 9, 2, 21, 0, 0), (21, .if_icmp .le 5, 3, 24, 26, 0), (24, .iconst (-1), 1, 25, 0, 0), (25, .ireturn, 1, 26, 0, 0), (26, .aload_n 0, 1, 27, 0, 0), (27, .getfield 7, 3, 30, 4, 12), (30, .aload_n 0, 1, 31, 0, 0), (31, .getfield 64, 3, 34, 4, 4), (34, .iload_n 1, 1, 35, 0, 0), (35, .iastore, 1, 36, 0, 0), (36, .aload_n 0, 1, 37, 0, 0), (37, .getfield 13, 3, 40, 4, 13), (40, .aload_n 0, 1, 41, 0, 0), (41, .getfield 64, 3, 44, 4, 4), (44, .iload_n 2, 1, 45, 0, 0), (45, .iastore, 1, 46, 0, 0), (46, .aload_n 0, 1, 47, 0, 0), (47, .getfield 16, 3, 50, 4, 14), (50, .aload_n 0, 1, 51, 0, 0), (51, .getfield 64, 3, 54, 4, 4), (54, .iconst 0, 1, 55, 0, 0), (55, .iastore, 1, 56, 0, 0), (56, .aload_n 0, 1, 57, 0, 0), (57, .dup, 1, 58, 0, 0), (58, .getfield 64, 3, 61, 4, 4), (61, .iconst 1, 1, 62, 0, 0), (62, .iadd, 1, 63, 0, 0), (63, .putfield 64, 3, 66, 4, 4), (66, .aload_n 0, 1, 67, 0, 0), (67, .getfield 64, 3, 70, 4, 4), (70, .iconst 1, 1, 71, 0, 0), (71, .isub, 1, 72, 0, 0), (72, .ireturn, 1, 73, 0, 0)]
def mI_82_0 : List mRow := [(0, .aload_n 0, 1, 1, 0, 0), (1, .iconst 0, 1, 2, 0, 0), (2, .putfield 61, 3, 5, 4, 3), (5, .aload_n 0, 1, 6, 0, 0), (6, .iload_n 1, 1, 7, 0, 0), (7, .invokevirtual 71, 3, 10, 83, 2), (10, .ifCond .eq 21, 3, 13, 31, 0), (13, .aload_n 0, 1, 14, 0, 0), (14, .getfield 16, 3, 17, 4, 14), (17, .iload_n 1, 1, 18, 0, 0), (18, .iaload, 1, 19, 0, 0), (19, .ifCond .ne 12, 3, 22, 31, 0), (22, .aload_n 0, 1, 23, 0, 0), (23, .getfield 19, 3, 26, 4, 15), (26, .iload_n 1, 1, 27, 0, 0), (27, .iaload, 1, 28, 0, 0), (28, .ifCond .le 5, 3, 31, 33, 0), (31, .iconst 0, 1, 32, 0, 0), (32, .ireturn, 1, 33, 0, 0), (33, .aload_n 0, 1, 34, 0, 0), (34, .dup, 1, 35, 0, 0), (35, .getfield 75, 3, 38, 4, 5), (38, .iconst 1, 1, 39, 0, 0), (39, .iadd, 1, 40, 0, 0), (40, .putfield 75, 3, 43, 4, 5), (43, .aload_n 0, 1, 44, 0, 0), (44, .getfield 19, 3, 47, 4, 15), (47, .iload_n 1, 1, 48, 0, 0), (48, .aload_n 0, 1, 49, 0, 0), (49, .getfield 75, 3, 52, 4, 5), (52, .iastore, 1, 53, 0, 0), (53, .iconst 1, 1, 54, 0, 0), (54, .ireturn, 1, 55, 0, 0)]
def mI_83_0 : List mRow := [(0, .iload_n 1, 1, 1, 0, 0), (1, .ifCond .lt 15, 3, 4, 16, 0), (4, .iload_n 1, 1, 5, 0, 0), (5, .aload_n 0, 1, 6, 0, 0), (6, .getfield 64, 3, 9, 4, 4), (9, .if_icmp .ge 7, 3, 12, 16, 0), (12, .iconst 1, 1, 13, 0, 0), (13, .goto 4, 3, 16, 17, 0), (16, .iconst 0, 1, 17, 0, 0), (17, .ireturn, 1, 18, 0, 0)]
def mI_84_0 : List mRow := [(0, .aload_n 0, 1, 1, 0, 0), (1, .iconst 0, 1, 2, 0, 0), (2, .putfield 61, 3, 5, 4, 3), (5, .aload_n 0, 1, 6, 0, 0), (6, .iload_n 1, 1, 7, 0, 0), (7, .invokevirtual 88, 3, 10, 85, 2), (10, .ifCond .eq 36, 3, 13, 46, 0), (13, .aload_n 0, 1, 14, 0, 0), (14, .iload_n 2, 1, 15, 0, 0), (15, .invokevirtual 88, 3, 18, 85, 2), (18, .ifCond .eq 28, 3, 21, 46, 0), (21, .iload_n 1, 1, 22, 0, 0), (22, .iload_n 2, 1, 23, 0, 0), (23, .if_icmp .eq 23, 3, 26, 46, 0), (26, .aload_n 0, 1, 27, 0, 0), (27, .getfield 16, 3, 30, 4, 14), (30, .iload_n 1, 1, 31, 0, 0), (31, .iaload, 1, 32, 0, 0), (32, .iconst 2, 1, 33, 0, 0), (33, .if_icmp .ne 15, 3, 36, 48, 0), (36, .aload_n 0, 1, 37, 0, 0), (37, .getfield 16, 3, 40, 4, 14), (40, .iload_n 2, 1, 41, 0, 0), (41, .iaload, 1, 42, 0, 0), (42, .iconst 2, 1, 43, 0, 0), (43, .if_icmp .ne 5, 3, 46, 48, 0), (46, .iconst (-1), 1, 47, 0, 0), (47, .ireturn, 1, 48, 0, 0), (48, .aload_n 0, 1, 49, 0, 0), (49, .iload_n 1, 1, 50, 0, 0), (50, .iload_n 2, 1, 51, 0, 0), (51, .invokevirtual 81, 3, 54, 86, 3), (54, .ifCond .eq 5, 3, 57, 59, 0), (57, .iconst 0, 1, 58, 0, 0), (58, .ireturn, 1, 59, 0, 0), (59, .aload_n 0, 1, 60, 0, 0), (60, .getfield 28, 3, 63, 4, 18), (63, .bipush 40, 2, 65, 0, 0), (65, .iload_n 1, 1, 66, 0, 0), (66, .imul, 1, 67, 0, 0), (67, .iload_n 2, 1, 68, 0, 0), (68, .iadd, 1, 69, 0, 0), (69, .iconst 1, 1, 70, 0, 0), (70, .bastore, 1, 71, 0, 0), (71, .aload_n 0, 1, 72, 0, 0), (72, .getfield 28, 3, 75, 4, 18), (75, .bipush 40, 2, 77, 0, 0), (77, .iload_n 2, 1, 78, 0, 0), (78, .imul, 1, 79, 0, 0), (79, .iload_n 1, 1, 80, 0, 0)]
def mI_84_1 : List mRow := [(80, .iadd, 1, 81, 0, 0), (81, .iconst 1, 1, 82, 0, 0), (82, .bastore, 1, 83, 0, 0), (83, .aload_n 0, 1, 84, 0, 0), (84, .invokevirtual 91, 3, 87, 87, 1), (87, .iconst 1, 1, 88, 0, 0), (88, .ireturn, 1, 89, 0, 0)]
def mI_85_0 : List mRow := [(0, .aload_n 0, 1, 1, 0, 0), (1, .iload_n 1, 1, 2, 0, 0), (2, .invokevirtual 71, 3, 5, 83, 2), (5, .ifCond .eq 26, 3, 8, 31, 0), (8, .aload_n 0, 1, 9, 0, 0), (9, .getfield 16, 3, 12, 4, 14), (12, .iload_n 1, 1, 13, 0, 0), (13, .iaload, 1, 14, 0, 0), (14, .ifCond .eq 13, 3, 17, 27, 0), (17, .aload_n 0, 1, 18, 0, 0), (18, .getfield 16, 3, 21, 4, 14), (21, .iload_n 1, 1, 22, 0, 0), (22, .iaload, 1, 23, 0, 0), (23, .iconst 2, 1, 24, 0, 0), (24, .if_icmp .ne 7, 3, 27, 31, 0), (27, .iconst 1, 1, 28, 0, 0), (28, .goto 4, 3, 31, 32, 0), (31, .iconst 0, 1, 32, 0, 0), (32, .ireturn, 1, 33, 0, 0)]
def mI_86_0 : List mRow := [(0, .aload_n 0, 1, 1, 0, 0), (1, .getfield 28, 3, 4, 4, 18), (4, .bipush 40, 2, 6, 0, 0), (6, .iload_n 1, 1, 7, 0, 0), (7, .imul, 1, 8, 0, 0), (8, .iload_n 2, 1, 9, 0, 0), (9, .iadd, 1, 10, 0, 0), (10, .baload, 1, 11, 0, 0), (11, .ireturn, 1, 12, 0, 0)]
def mI_87_0 : List mRow := [(0, .iconst 0, 1, 1, 0, 0), (1, .istore_n 1, 1, 2, 0, 0), (2, .iload_n 1, 1, 3, 0, 0), (3, .aload_n 0, 1, 4, 0, 0), (4, .getfield 64, 3, 7, 4, 4), (7, .if_icmp .ge 44, 3, 10, 51, 0), (10, .aload_n 0, 1, 11, 0, 0), (11, .getfield 16, 3, 14, 4, 14), (14, .iload_n 1, 1, 15, 0, 0), (15, .iaload, 1, 16, 0, 0), (16, .ifCond .ne 29, 3, 19, 45, 0), (19, .aload_n 0, 1, 20, 0, 0), (20, .iload_n 1, 1, 21, 0, 0), (21, .invokevirtual 84, 3, 24, 88, 2), (24, .iconst (-1), 1, 25, 0, 0), (25, .if_icmp .ne 6, 3, 28, 31, 0), (28, .goto 17, 3, 31, 45, 0), (31, .aload_n 0, 1, 32, 0, 0), (32, .getfield 16, 3, 35, 4, 14), (35, .iload_n 1, 1, 36, 0, 0), (36, .iconst 3, 1, 37, 0, 0), (37, .iastore, 1, 38, 0, 0), (38, .aload_n 0, 1, 39, 0, 0), (39, .getfield 22, 3, 42, 4, 16), (42, .iload_n 1, 1, 43, 0, 0), (43, .iconst 2, 1, 44, 0, 0), (44, .iastore, 1, 45, 0, 0), (45, .iinc 1 1, 3, 48, 0, 0), (48, .goto (-46), 3, 51, 2, 0), (51, .return_, 1, 52, 0, 0)]
def mI_88_0 : List mRow := [(0, .iconst 0, 1, 1, 0, 0), (1, .istore_n 2, 1, 2, 0, 0), (2, .iload_n 2, 1, 3, 0, 0), (3, .aload_n 0, 1, 4, 0, 0), (4, .getfield 78, 3, 7, 4, 7), (7, .if_icmp .ge 30, 3, 10, 37, 0), (10, .aload_n 0, 1, 11, 0, 0), (11, .aload_n 0, 1, 12, 0, 0), (12, .getfield 35, 3, 15, 4, 20), (15, .iload_n 2, 1, 16, 0, 0), (16, .iaload, 1, 17, 0, 0), (17, .iload_n 1, 1, 18, 0, 0), (18, .invokevirtual 81, 3, 21, 86, 3), (21, .ifCond .eq 10, 3, 24, 31, 0), (24, .aload_n 0, 1, 25, 0, 0), (25, .getfield 35, 3, 28, 4, 20), (28, .iload_n 2, 1, 29, 0, 0), (29, .iaload, 1, 30, 0, 0), (30, .ireturn, 1, 31, 0, 0), (31, .iinc 2 1, 3, 34, 0, 0), (34, .goto (-32), 3, 37, 2, 0), (37, .iconst (-1), 1, 38, 0, 0), (38, .ireturn, 1, 39, 0, 0)]
def mI_89_0 : List mRow := [(0, .aload_n 0, 1, 1, 0, 0), (1, .iconst 0, 1, 2, 0, 0), (2, .putfield 61, 3, 5, 4, 3), (5, .aload_n 0, 1, 6, 0, 0), (6, .iload_n 1, 1, 7, 0, 0), (7, .invokevirtual 71, 3, 10, 83, 2), (10, .ifCond .eq 22, 3, 13, 32, 0), (13, .aload_n 0, 1, 14, 0, 0), (14, .getfield 16, 3, 17, 4, 14), (17, .iload_n 1, 1, 18, 0, 0), (18, .iaload, 1, 19, 0, 0), (19, .ifCond .eq 15, 3, 22, 34, 0), (22, .aload_n 0, 1, 23, 0, 0), (23, .getfield 16, 3, 26, 4, 14), (26, .iload_n 1, 1, 27, 0, 0), (27, .iaload, 1, 28, 0, 0), (28, .iconst 1, 1, 29, 0, 0), (29, .if_icmp .eq 5, 3, 32, 34, 0), (32, .iconst 0, 1, 33, 0, 0), (33, .ireturn, 1, 34, 0, 0), (34, .aload_n 0, 1, 35, 0, 0), (35, .getfield 16, 3, 38, 4, 14), (38, .iload_n 1, 1, 39, 0, 0), (39, .iaload, 1, 40, 0, 0), (40, .iconst 1, 1, 41, 0, 0), (41, .if_icmp .ne 41, 3, 44, 82, 0), (44, .aload_n 0, 1, 45, 0, 0), (45, .iload_n 1, 1, 46, 0, 0), (46, .invokevirtual 107, 3, 49, 90, 2), (49, .istore_n 2, 1, 50, 0, 0), (50, .iload_n 2, 1, 51, 0, 0), (51, .istore_n 3, 1, 52, 0, 0), (52, .aload_n 0, 1, 53, 0, 0), (53, .getfield 38, 3, 56, 4, 21), (56, .aload_n 0, 1, 57, 0, 0), (57, .getfield 32, 3, 60, 4, 19), (60, .iload_n 3, 1, 61, 0, 0), (61, .iaload, 1, 62, 0, 0), (62, .baload, 1, 63, 0, 0), (63, .ifCond .ne 9, 3, 66, 72, 0), (66, .iinc 3 (-1), 3, 69, 0, 0), (69, .goto (-17), 3, 72, 52, 0), (72, .aload_n 0, 1, 73, 0, 0), (73, .iload_n 3, 1, 74, 0, 0), (74, .invokevirtual 110, 3, 77, 91, 2), (77, .aload_n 0, 1, 78, 0, 0), (78, .iload_n 2, 1, 79, 0, 0), (79, .invokevirtual 114, 3, 82, 92, 2), (82, .aload_n 0, 1, 83, 0, 0), (83, .getfield 16, 3, 86, 4, 14)]
def mI_89_1 : List mRow := [(86, .iload_n 1, 1, 87, 0, 0), (87, .iconst 3, 1, 88, 0, 0), (88, .iastore, 1, 89, 0, 0), (89, .aload_n 0, 1, 90, 0, 0), (90, .getfield 22, 3, 93, 4, 16), (93, .iload_n 1, 1, 94, 0, 0), (94, .iconst 3, 1, 95, 0, 0), (95, .iastore, 1, 96, 0, 0), (96, .iconst 1, 1, 97, 0, 0), (97, .ireturn, 1, 98, 0, 0)]
def mI_90_0 : List mRow := [(0, .iconst 0, 1, 1, 0, 0), (1, .istore_n 2, 1, 2, 0, 0), (2, .aload_n 0, 1, 3, 0, 0), (3, .getfield 32, 3, 6, 4, 19), (6, .iload_n 2, 1, 7, 0, 0), (7, .iaload, 1, 8, 0, 0), (8, .iload_n 1, 1, 9, 0, 0), (9, .if_icmp .eq 9, 3, 12, 18, 0), (12, .iinc 2 1, 3, 15, 0, 0), (15, .goto (-13), 3, 18, 2, 0), (18, .iload_n 2, 1, 19, 0, 0), (19, .ireturn, 1, 20, 0, 0)]
def mI_91_0 : List mRow := [(0, .iload_n 1, 1, 1, 0, 0), (1, .istore_n 2, 1, 2, 0, 0), (2, .iload_n 2, 1, 3, 0, 0), (3, .aload_n 0, 1, 4, 0, 0), (4, .getfield 94, 3, 7, 4, 6), (7, .if_icmp .ge 63, 3, 10, 70, 0), (10, .aload_n 0, 1, 11, 0, 0), (11, .getfield 32, 3, 14, 4, 19), (14, .iload_n 2, 1, 15, 0, 0), (15, .iaload, 1, 16, 0, 0), (16, .istore_n 3, 1, 17, 0, 0), (17, .aload_n 0, 1, 18, 0, 0), (18, .dup, 1, 19, 0, 0), (19, .getfield 104, 3, 22, 4, 10), (22, .aload_n 0, 1, 23, 0, 0), (23, .getfield 38, 3, 26, 4, 21), (26, .iload_n 3, 1, 27, 0, 0), (27, .baload, 1, 28, 0, 0), (28, .ifCond .eq 17, 3, 31, 45, 0), (31, .aload_n 0, 1, 32, 0, 0), (32, .getfield 41, 3, 35, 4, 22), (35, .iload_n 3, 1, 36, 0, 0), (36, .iaload, 1, 37, 0, 0), (37, .iconst 1, 1, 38, 0, 0), (38, .if_icmp .ne 7, 3, 41, 45, 0), (41, .iconst 1, 1, 42, 0, 0), (42, .goto 4, 3, 45, 46, 0), (45, .iconst 0, 1, 46, 0, 0), (46, .iadd, 1, 47, 0, 0), (47, .putfield 104, 3, 50, 4, 10), (50, .aload_n 0, 1, 51, 0, 0), (51, .getfield 41, 3, 54, 4, 22), (54, .iload_n 3, 1, 55, 0, 0), (55, .iconst 0, 1, 56, 0, 0), (56, .iastore, 1, 57, 0, 0), (57, .aload_n 0, 1, 58, 0, 0), (58, .getfield 44, 3, 61, 4, 23), (61, .iload_n 3, 1, 62, 0, 0), (62, .iconst 0, 1, 63, 0, 0), (63, .iastore, 1, 64, 0, 0), (64, .iinc 2 1, 3, 67, 0, 0), (67, .goto (-65), 3, 70, 2, 0), (70, .return_, 1, 71, 0, 0)]
def mI_92_0 : List mRow := [(0, .aload_n 0, 1, 1, 0, 0), (1, .getfield 32, 3, 4, 4, 19), (4, .iload_n 1, 1, 5, 0, 0), (5, .iaload, 1, 6, 0, 0), (6, .istore_n 2, 1, 7, 0, 0), (7, .iload_n 1, 1, 8, 0, 0), (8, .iconst 1, 1, 9, 0, 0), (9, .iadd, 1, 10, 0, 0), (10, .aload_n 0, 1, 11, 0, 0), (11, .getfield 94, 3, 14, 4, 6), (14, .if_icmp .ge 23, 3, 17, 37, 0), (17, .aload_n 0, 1, 18, 0, 0), (18, .getfield 38, 3, 21, 4, 21), (21, .aload_n 0, 1, 22, 0, 0), (22, .getfield 32, 3, 25, 4, 19), (25, .iload_n 1, 1, 26, 0, 0), (26, .iconst 1, 1, 27, 0, 0), (27, .iadd, 1, 28, 0, 0), (28, .iaload, 1, 29, 0, 0), (29, .baload, 1, 30, 0, 0), (30, .ifCond .ne 7, 3, 33, 37, 0), (33, .iconst 1, 1, 34, 0, 0), (34, .goto 4, 3, 37, 38, 0), (37, .iconst 0, 1, 38, 0, 0), (38, .istore_n 3, 1, 39, 0, 0), (39, .aload_n 0, 1, 40, 0, 0), (40, .getfield 38, 3, 43, 4, 21), (43, .iload_n 2, 1, 44, 0, 0), (44, .baload, 1, 45, 0, 0), (45, .ifCond .eq 21, 3, 48, 66, 0), (48, .iload_n 3, 1, 49, 0, 0), (49, .ifCond .eq 17, 3, 52, 66, 0), (52, .aload_n 0, 1, 53, 0, 0), (53, .getfield 38, 3, 56, 4, 21), (56, .aload_n 0, 1, 57, 0, 0), (57, .getfield 32, 3, 60, 4, 19), (60, .iload_n 1, 1, 61, 0, 0), (61, .iconst 1, 1, 62, 0, 0), (62, .iadd, 1, 63, 0, 0), (63, .iaload, 1, 64, 0, 0), (64, .iconst 1, 1, 65, 0, 0), (65, .bastore, 1, 66, 0, 0), (66, .iload_n 1, 1, 67, 0, 0), (67, .istore 4, 2, 69, 0, 0), (69, .iload 4, 2, 71, 0, 0), (71, .iconst 1, 1, 72, 0, 0), (72, .iadd, 1, 73, 0, 0), (73, .aload_n 0, 1, 74, 0, 0), (74, .getfield 94, 3, 77, 4, 6), (77, .if_icmp .ge 25, 3, 80, 102, 0)]
def mI_92_1 : List mRow := [(80, .aload_n 0, 1, 81, 0, 0), (81, .getfield 32, 3, 84, 4, 19), (84, .iload 4, 2, 86, 0, 0), (86, .aload_n 0, 1, 87, 0, 0), (87, .getfield 32, 3, 90, 4, 19), (90, .iload 4, 2, 92, 0, 0), (92, .iconst 1, 1, 93, 0, 0), (93, .iadd, 1, 94, 0, 0), (94, .iaload, 1, 95, 0, 0), (95, .iastore, 1, 96, 0, 0), (96, .iinc 4 1, 3, 99, 0, 0), (99, .goto (-30), 3, 102, 69, 0), (102, .aload_n 0, 1, 103, 0, 0), (103, .dup, 1, 104, 0, 0), (104, .getfield 94, 3, 107, 4, 6), (107, .iconst 1, 1, 108, 0, 0), (108, .isub, 1, 109, 0, 0), (109, .putfield 94, 3, 112, 4, 6), (112, .return_, 1, 113, 0, 0)]
def mI_93_0 : List mRow := [(0, .aload_n 0, 1, 1, 0, 0), (1, .iconst 0, 1, 2, 0, 0), (2, .putfield 61, 3, 5, 4, 3), (5, .aload_n 0, 1, 6, 0, 0), (6, .getfield 117, 3, 9, 4, 11), (9, .iload_n 1, 1, 10, 0, 0), (10, .if_icmp .eq 7, 3, 13, 17, 0), (13, .iconst 1, 1, 14, 0, 0), (14, .goto 4, 3, 17, 18, 0), (17, .iconst 0, 1, 18, 0, 0), (18, .istore_n 2, 1, 19, 0, 0), (19, .aload_n 0, 1, 20, 0, 0), (20, .iload_n 1, 1, 21, 0, 0), (21, .putfield 117, 3, 24, 4, 11), (24, .iload_n 2, 1, 25, 0, 0), (25, .ireturn, 1, 26, 0, 0)]
def mI_94_0 : List mRow := [(0, .aload_n 0, 1, 1, 0, 0), (1, .iconst 0, 1, 2, 0, 0), (2, .putfield 61, 3, 5, 4, 3), (5, .aload_n 0, 1, 6, 0, 0), (6, .getfield 94, 3, 9, 4, 6), (9, .ifCond .le 7, 3, 12, 16, 0), (12, .iconst 1, 1, 13, 0, 0), (13, .goto 4, 3, 16, 17, 0), (16, .iconst 0, 1, 17, 0, 0), (17, .istore_n 1, 1, 18, 0, 0), (18, .iload_n 1, 1, 19, 0, 0), (19, .ifCond .eq 18, 3, 22, 37, 0), (22, .aload_n 0, 1, 23, 0, 0), (23, .iconst 0, 1, 24, 0, 0), (24, .invokevirtual 127, 3, 27, 95, 2), (27, .iconst 3, 1, 28, 0, 0), (28, .if_icmp .ne 9, 3, 31, 37, 0), (31, .aload_n 0, 1, 32, 0, 0), (32, .invokevirtual 140, 3, 35, 97, 1), (35, .iconst 1, 1, 36, 0, 0), (36, .ireturn, 1, 37, 0, 0), (37, .iload_n 1, 1, 38, 0, 0), (38, .ifCond .eq 18, 3, 41, 56, 0), (41, .aload_n 0, 1, 42, 0, 0), (42, .iconst 0, 1, 43, 0, 0), (43, .invokevirtual 127, 3, 46, 95, 2), (46, .iconst 2, 1, 47, 0, 0), (47, .if_icmp .ne 9, 3, 50, 56, 0), (50, .aload_n 0, 1, 51, 0, 0), (51, .invokevirtual 143, 3, 54, 99, 1), (54, .iconst 2, 1, 55, 0, 0), (55, .ireturn, 1, 56, 0, 0), (56, .aload_n 0, 1, 57, 0, 0), (57, .getfield 117, 3, 60, 4, 11), (60, .ifCond .eq 7, 3, 63, 67, 0), (63, .iconst 0, 1, 64, 0, 0), (64, .goto 26, 3, 67, 90, 0), (67, .aload_n 0, 1, 68, 0, 0), (68, .invokevirtual 146, 3, 71, 100, 1), (71, .ifCond .eq 7, 3, 74, 78, 0), (74, .iconst 3, 1, 75, 0, 0), (75, .goto 15, 3, 78, 90, 0), (78, .aload_n 0, 1, 79, 0, 0), (79, .invokevirtual 150, 3, 82, 103, 1), (82, .ifCond .eq 7, 3, 85, 89, 0), (85, .iconst 4, 1, 86, 0, 0), (86, .goto 4, 3, 89, 90, 0), (89, .iconst 0, 1, 90, 0, 0), (90, .ireturn, 1, 91, 0, 0)]
def mI_95_0 : List mRow := [(0, .aload_n 0, 1, 1, 0, 0), (1, .getfield 41, 3, 4, 4, 22), (4, .aload_n 0, 1, 5, 0, 0), (5, .getfield 32, 3, 8, 4, 19), (8, .aload_n 0, 1, 9, 0, 0), (9, .iload_n 1, 1, 10, 0, 0), (10, .invokevirtual 101, 3, 13, 96, 2), (13, .iaload, 1, 14, 0, 0), (14, .iaload, 1, 15, 0, 0), (15, .ireturn, 1, 16, 0, 0)]
def mI_96_0 : List mRow := [(0, .iconst (-1), 1, 1, 0, 0), (1, .istore_n 2, 1, 2, 0, 0), (2, .iconst 0, 1, 3, 0, 0), (3, .istore_n 3, 1, 4, 0, 0), (4, .iload_n 3, 1, 5, 0, 0), (5, .aload_n 0, 1, 6, 0, 0), (6, .getfield 94, 3, 9, 4, 6), (9, .if_icmp .ge 38, 3, 12, 47, 0), (12, .iload_n 2, 1, 13, 0, 0), (13, .aload_n 0, 1, 14, 0, 0), (14, .getfield 38, 3, 17, 4, 21), (17, .aload_n 0, 1, 18, 0, 0), (18, .getfield 32, 3, 21, 4, 19), (21, .iload_n 3, 1, 22, 0, 0), (22, .iaload, 1, 23, 0, 0), (23, .baload, 1, 24, 0, 0), (24, .ifCond .eq 7, 3, 27, 31, 0), (27, .iconst 1, 1, 28, 0, 0), (28, .goto 4, 3, 31, 32, 0), (31, .iconst 0, 1, 32, 0, 0), (32, .iadd, 1, 33, 0, 0), (33, .istore_n 2, 1, 34, 0, 0), (34, .iload_n 2, 1, 35, 0, 0), (35, .iload_n 1, 1, 36, 0, 0), (36, .if_icmp .ne 5, 3, 39, 41, 0), (39, .iload_n 3, 1, 40, 0, 0), (40, .ireturn, 1, 41, 0, 0), (41, .iinc 3 1, 3, 44, 0, 0), (44, .goto (-40), 3, 47, 4, 0), (47, .aload_n 0, 1, 48, 0, 0), (48, .getfield 94, 3, 51, 4, 6), (51, .ireturn, 1, 52, 0, 0)]
def mI_97_0 : List mRow := [(0, .aload_n 0, 1, 1, 0, 0), (1, .iconst 0, 1, 2, 0, 0), (2, .invokevirtual 121, 3, 5, 98, 2), (5, .istore_n 1, 1, 6, 0, 0), (6, .iconst 0, 1, 7, 0, 0), (7, .istore_n 2, 1, 8, 0, 0), (8, .iload_n 2, 1, 9, 0, 0), (9, .iload_n 1, 1, 10, 0, 0), (10, .if_icmp .ge 48, 3, 13, 58, 0), (13, .aload_n 0, 1, 14, 0, 0), (14, .getfield 32, 3, 17, 4, 19), (17, .iconst 0, 1, 18, 0, 0), (18, .iaload, 1, 19, 0, 0), (19, .istore_n 3, 1, 20, 0, 0), (20, .aload_n 0, 1, 21, 0, 0), (21, .getfield 16, 3, 24, 4, 14), (24, .iload_n 3, 1, 25, 0, 0), (25, .iconst 2, 1, 26, 0, 0), (26, .iastore, 1, 27, 0, 0), (27, .aload_n 0, 1, 28, 0, 0), (28, .getfield 35, 3, 31, 4, 20), (31, .aload_n 0, 1, 32, 0, 0), (32, .getfield 78, 3, 35, 4, 7), (35, .iload_n 3, 1, 36, 0, 0), (36, .iastore, 1, 37, 0, 0), (37, .aload_n 0, 1, 38, 0, 0), (38, .dup, 1, 39, 0, 0), (39, .getfield 78, 3, 42, 4, 7), (42, .iconst 1, 1, 43, 0, 0), (43, .iadd, 1, 44, 0, 0), (44, .putfield 78, 3, 47, 4, 7), (47, .aload_n 0, 1, 48, 0, 0), (48, .iconst 0, 1, 49, 0, 0), (49, .invokevirtual 114, 3, 52, 92, 2), (52, .iinc 2 1, 3, 55, 0, 0), (55, .goto (-47), 3, 58, 8, 0), (58, .aload_n 0, 1, 59, 0, 0), (59, .invokevirtual 91, 3, 62, 87, 1), (62, .return_, 1, 63, 0, 0)]
def mI_98_0 : List mRow := [(0, .aload_n 0, 1, 1, 0, 0), (1, .iload_n 1, 1, 2, 0, 0), (2, .iconst 1, 1, 3, 0, 0), (3, .iadd, 1, 4, 0, 0), (4, .invokevirtual 101, 3, 7, 96, 2), (7, .aload_n 0, 1, 8, 0, 0), (8, .iload_n 1, 1, 9, 0, 0), (9, .invokevirtual 101, 3, 12, 96, 2), (12, .isub, 1, 13, 0, 0), (13, .ireturn, 1, 14, 0, 0)]
def mI_99_0 : List mRow := [(0, .aload_n 0, 1, 1, 0, 0), (1, .iconst 0, 1, 2, 0, 0), (2, .invokevirtual 121, 3, 5, 98, 2), (5, .istore_n 1, 1, 6, 0, 0), (6, .aload_n 0, 1, 7, 0, 0), (7, .iconst 0, 1, 8, 0, 0), (8, .invokevirtual 110, 3, 11, 91, 2), (11, .iload_n 1, 1, 12, 0, 0), (12, .iconst 1, 1, 13, 0, 0), (13, .if_icmp .le 30, 3, 16, 43, 0), (16, .aload_n 0, 1, 17, 0, 0), (17, .getfield 38, 3, 20, 4, 21), (20, .aload_n 0, 1, 21, 0, 0), (21, .getfield 32, 3, 24, 4, 19), (24, .iload_n 1, 1, 25, 0, 0), (25, .iconst 1, 1, 26, 0, 0), (26, .iadd, 1, 27, 0, 0), (27, .iconst 2, 1, 28, 0, 0), (28, .idiv, 1, 29, 0, 0), (29, .iaload, 1, 30, 0, 0), (30, .iconst 1, 1, 31, 0, 0), (31, .bastore, 1, 32, 0, 0), (32, .aload_n 0, 1, 33, 0, 0), (33, .dup, 1, 34, 0, 0), (34, .getfield 124, 3, 37, 4, 9), (37, .iconst 1, 1, 38, 0, 0), (38, .iadd, 1, 39, 0, 0), (39, .putfield 124, 3, 42, 4, 9), (42, .return_, 1, 43, 0, 0), (43, .aload_n 0, 1, 44, 0, 0), (44, .getfield 32, 3, 47, 4, 19), (47, .iconst 0, 1, 48, 0, 0), (48, .iaload, 1, 49, 0, 0), (49, .istore_n 2, 1, 50, 0, 0), (50, .aload_n 0, 1, 51, 0, 0), (51, .iconst 0, 1, 52, 0, 0), (52, .invokevirtual 114, 3, 55, 92, 2), (55, .aload_n 0, 1, 56, 0, 0), (56, .getfield 16, 3, 59, 4, 14), (59, .iload_n 2, 1, 60, 0, 0), (60, .iconst 3, 1, 61, 0, 0), (61, .iastore, 1, 62, 0, 0), (62, .aload_n 0, 1, 63, 0, 0), (63, .getfield 22, 3, 66, 4, 16), (66, .iload_n 2, 1, 67, 0, 0), (67, .iconst 1, 1, 68, 0, 0), (68, .iastore, 1, 69, 0, 0), (69, .aload_n 0, 1, 70, 0, 0), (70, .getfield 25, 3, 73, 4, 17), (73, .iload_n 2, 1, 74, 0, 0)]
def mI_99_1 : List mRow := [(74, .aload_n 0, 1, 75, 0, 0), (75, .getfield 78, 3, 78, 4, 7), (78, .iastore, 1, 79, 0, 0), (79, .return_, 1, 80, 0, 0)]
def mI_100_0 : List mRow := [(0, .aload_n 0, 1, 1, 0, 0), (1, .invokevirtual 97, 3, 4, 101, 1), (4, .istore_n 1, 1, 5, 0, 0), (5, .iconst 0, 1, 6, 0, 0), (6, .istore_n 2, 1, 7, 0, 0), (7, .iconst 0, 1, 8, 0, 0), (8, .istore_n 3, 1, 9, 0, 0), (9, .iload_n 3, 1, 10, 0, 0), (10, .iload_n 1, 1, 11, 0, 0), (11, .if_icmp .ge 26, 3, 14, 37, 0), (14, .iload_n 2, 1, 15, 0, 0), (15, .aload_n 0, 1, 16, 0, 0), (16, .iload_n 3, 1, 17, 0, 0), (17, .invokevirtual 127, 3, 20, 95, 2), (20, .iconst 1, 1, 21, 0, 0), (21, .if_icmp .ne 7, 3, 24, 28, 0), (24, .iconst 1, 1, 25, 0, 0), (25, .goto 4, 3, 28, 29, 0), (28, .iconst 0, 1, 29, 0, 0), (29, .iadd, 1, 30, 0, 0), (30, .istore_n 2, 1, 31, 0, 0), (31, .iinc 3 1, 3, 34, 0, 0), (34, .goto (-25), 3, 37, 9, 0), (37, .iconst 0, 1, 38, 0, 0), (38, .istore_n 3, 1, 39, 0, 0), (39, .iload_n 3, 1, 40, 0, 0), (40, .iload_n 1, 1, 41, 0, 0), (41, .if_icmp .ge 27, 3, 44, 68, 0), (44, .aload_n 0, 1, 45, 0, 0), (45, .iload_n 3, 1, 46, 0, 0), (46, .invokevirtual 127, 3, 49, 95, 2), (49, .iconst 1, 1, 50, 0, 0), (50, .if_icmp .eq 12, 3, 53, 62, 0), (53, .aload_n 0, 1, 54, 0, 0), (54, .iload_n 3, 1, 55, 0, 0), (55, .invokevirtual 127, 3, 58, 95, 2), (58, .iconst 3, 1, 59, 0, 0), (59, .if_icmp .ne 9, 3, 62, 68, 0), (62, .iinc 3 1, 3, 65, 0, 0), (65, .goto (-26), 3, 68, 39, 0), (68, .iload_n 2, 1, 69, 0, 0), (69, .aload_n 0, 1, 70, 0, 0), (70, .getfield 55, 3, 73, 4, 1), (73, .if_icmp .ge 16, 3, 76, 89, 0), (76, .iload_n 3, 1, 77, 0, 0), (77, .iload_n 1, 1, 78, 0, 0), (78, .if_icmp .eq 11, 3, 81, 89, 0), (81, .aload_n 0, 1, 82, 0, 0), (82, .iload_n 3, 1, 83, 0, 0), (83, .invokevirtual 127, 3, 86, 95, 2)]
def mI_100_1 : List mRow := [(86, .ifCond .eq 5, 3, 89, 91, 0), (89, .iconst 0, 1, 90, 0, 0), (90, .ireturn, 1, 91, 0, 0), (91, .aload_n 0, 1, 92, 0, 0), (92, .iload_n 3, 1, 93, 0, 0), (93, .iconst 1, 1, 94, 0, 0), (94, .invokevirtual 130, 3, 97, 102, 3), (97, .iconst 1, 1, 98, 0, 0), (98, .ireturn, 1, 99, 0, 0)]
def mI_101_0 : List mRow := [(0, .iconst 0, 1, 1, 0, 0), (1, .istore_n 1, 1, 2, 0, 0), (2, .iconst 0, 1, 3, 0, 0), (3, .istore_n 2, 1, 4, 0, 0), (4, .iload_n 2, 1, 5, 0, 0), (5, .aload_n 0, 1, 6, 0, 0), (6, .getfield 94, 3, 9, 4, 6), (9, .if_icmp .ge 31, 3, 12, 40, 0), (12, .iload_n 1, 1, 13, 0, 0), (13, .aload_n 0, 1, 14, 0, 0), (14, .getfield 38, 3, 17, 4, 21), (17, .aload_n 0, 1, 18, 0, 0), (18, .getfield 32, 3, 21, 4, 19), (21, .iload_n 2, 1, 22, 0, 0), (22, .iaload, 1, 23, 0, 0), (23, .baload, 1, 24, 0, 0), (24, .ifCond .eq 7, 3, 27, 31, 0), (27, .iconst 1, 1, 28, 0, 0), (28, .goto 4, 3, 31, 32, 0), (31, .iconst 0, 1, 32, 0, 0), (32, .iadd, 1, 33, 0, 0), (33, .istore_n 1, 1, 34, 0, 0), (34, .iinc 2 1, 3, 37, 0, 0), (37, .goto (-33), 3, 40, 4, 0), (40, .iload_n 1, 1, 41, 0, 0), (41, .ireturn, 1, 42, 0, 0)]
def mI_102_0 : List mRow := [(0, .aload_n 0, 1, 1, 0, 0), (1, .iload_n 1, 1, 2, 0, 0), (2, .iconst 1, 1, 3, 0, 0), (3, .iadd, 1, 4, 0, 0), (4, .invokevirtual 101, 3, 7, 96, 2), (7, .istore_n 3, 1, 8, 0, 0), (8, .aload_n 0, 1, 9, 0, 0), (9, .iload_n 1, 1, 10, 0, 0), (10, .invokevirtual 101, 3, 13, 96, 2), (13, .istore 4, 2, 15, 0, 0), (15, .iload 4, 2, 17, 0, 0), (17, .iload_n 3, 1, 18, 0, 0), (18, .if_icmp .ge 22, 3, 21, 40, 0), (21, .aload_n 0, 1, 22, 0, 0), (22, .getfield 41, 3, 25, 4, 22), (25, .aload_n 0, 1, 26, 0, 0), (26, .getfield 32, 3, 29, 4, 19), (29, .iload 4, 2, 31, 0, 0), (31, .iaload, 1, 32, 0, 0), (32, .iload_n 2, 1, 33, 0, 0), (33, .iastore, 1, 34, 0, 0), (34, .iinc 4 1, 3, 37, 0, 0), (37, .goto (-22), 3, 40, 15, 0), (40, .return_, 1, 41, 0, 0)]
def mI_103_0 : List mRow := [(0, .aload_n 0, 1, 1, 0, 0), (1, .invokevirtual 97, 3, 4, 101, 1), (4, .aload_n 0, 1, 5, 0, 0), (5, .getfield 55, 3, 8, 4, 1), (8, .if_icmp .lt 5, 3, 11, 13, 0), (11, .iconst 0, 1, 12, 0, 0), (12, .ireturn, 1, 13, 0, 0), (13, .iconst 0, 1, 14, 0, 0), (14, .istore_n 1, 1, 15, 0, 0), (15, .iconst 0, 1, 16, 0, 0), (16, .istore_n 2, 1, 17, 0, 0), (17, .aload_n 0, 1, 18, 0, 0), (18, .iconst 0, 1, 19, 0, 0), (19, .invokevirtual 134, 3, 22, 104, 2), (22, .istore_n 3, 1, 23, 0, 0), (23, .iload_n 3, 1, 24, 0, 0), (24, .iconst (-1), 1, 25, 0, 0), (25, .if_icmp .eq 93, 3, 28, 118, 0), (28, .iload_n 1, 1, 29, 0, 0), (29, .aload_n 0, 1, 30, 0, 0), (30, .getfield 51, 3, 33, 4, 0), (33, .if_icmp .ge 85, 3, 36, 118, 0), (36, .aload_n 0, 1, 37, 0, 0), (37, .iload_n 3, 1, 38, 0, 0), (38, .invokevirtual 137, 3, 41, 106, 2), (41, .ifCond .eq 9, 3, 44, 50, 0), (44, .iinc 2 1, 3, 47, 0, 0), (47, .goto 62, 3, 50, 109, 0), (50, .aload_n 0, 1, 51, 0, 0), (51, .getfield 16, 3, 54, 4, 14), (54, .iload_n 3, 1, 55, 0, 0), (55, .iconst 1, 1, 56, 0, 0), (56, .iastore, 1, 57, 0, 0), (57, .aload_n 0, 1, 58, 0, 0), (58, .getfield 38, 3, 61, 4, 21), (61, .iload_n 3, 1, 62, 0, 0), (62, .iload_n 1, 1, 63, 0, 0), (63, .ifCond .ne 7, 3, 66, 70, 0), (66, .iconst 1, 1, 67, 0, 0), (67, .goto 4, 3, 70, 71, 0), (70, .iconst 0, 1, 71, 0, 0), (71, .bastore, 1, 72, 0, 0), (72, .aload_n 0, 1, 73, 0, 0), (73, .getfield 41, 3, 76, 4, 22), (76, .iload_n 3, 1, 77, 0, 0), (77, .iconst 0, 1, 78, 0, 0), (78, .iastore, 1, 79, 0, 0), (79, .aload_n 0, 1, 80, 0, 0), (80, .getfield 44, 3, 83, 4, 23), (83, .iload_n 3, 1, 84, 0, 0)]
def mI_103_1 : List mRow := [(84, .iconst 0, 1, 85, 0, 0), (85, .iastore, 1, 86, 0, 0), (86, .aload_n 0, 1, 87, 0, 0), (87, .getfield 32, 3, 90, 4, 19), (90, .aload_n 0, 1, 91, 0, 0), (91, .getfield 94, 3, 94, 4, 6), (94, .iload_n 3, 1, 95, 0, 0), (95, .iastore, 1, 96, 0, 0), (96, .aload_n 0, 1, 97, 0, 0), (97, .dup, 1, 98, 0, 0), (98, .getfield 94, 3, 101, 4, 6), (101, .iconst 1, 1, 102, 0, 0), (102, .iadd, 1, 103, 0, 0), (103, .putfield 94, 3, 106, 4, 6), (106, .iinc 1 1, 3, 109, 0, 0), (109, .aload_n 0, 1, 110, 0, 0), (110, .iload_n 2, 1, 111, 0, 0), (111, .invokevirtual 134, 3, 114, 104, 2), (114, .istore_n 3, 1, 115, 0, 0), (115, .goto (-92), 3, 118, 23, 0), (118, .iload_n 1, 1, 119, 0, 0), (119, .ifCond .le 7, 3, 122, 126, 0), (122, .iconst 1, 1, 123, 0, 0), (123, .goto 4, 3, 126, 127, 0), (126, .iconst 0, 1, 127, 0, 0), (127, .ireturn, 1, 128, 0, 0)]
def mI_104_0 : List mRow := [(0, .iconst 0, 1, 1, 0, 0), (1, .istore_n 2, 1, 2, 0, 0), (2, .iload_n 2, 1, 3, 0, 0), (3, .aload_n 0, 1, 4, 0, 0), (4, .getfield 64, 3, 7, 4, 4), (7, .if_icmp .ge 82, 3, 10, 89, 0), (10, .iconst 0, 1, 11, 0, 0), (11, .istore_n 3, 1, 12, 0, 0), (12, .iconst 0, 1, 13, 0, 0), (13, .istore 4, 2, 15, 0, 0), (15, .iload 4, 2, 17, 0, 0), (17, .aload_n 0, 1, 18, 0, 0), (18, .getfield 64, 3, 21, 4, 4), (21, .if_icmp .ge 46, 3, 24, 67, 0), (24, .iload_n 3, 1, 25, 0, 0), (25, .aload_n 0, 1, 26, 0, 0), (26, .getfield 16, 3, 29, 4, 14), (29, .iload_n 2, 1, 30, 0, 0), (30, .iaload, 1, 31, 0, 0), (31, .ifCond .ne 27, 3, 34, 58, 0), (34, .aload_n 0, 1, 35, 0, 0), (35, .getfield 16, 3, 38, 4, 14), (38, .iload 4, 2, 40, 0, 0), (40, .iaload, 1, 41, 0, 0), (41, .ifCond .ne 17, 3, 44, 58, 0), (44, .aload_n 0, 1, 45, 0, 0), (45, .iload 4, 2, 47, 0, 0), (47, .iload_n 2, 1, 48, 0, 0), (48, .invokevirtual 67, 3, 51, 105, 3), (51, .ifCond .eq 7, 3, 54, 58, 0), (54, .iconst 1, 1, 55, 0, 0), (55, .goto 4, 3, 58, 59, 0), (58, .iconst 0, 1, 59, 0, 0), (59, .iadd, 1, 60, 0, 0), (60, .istore_n 3, 1, 61, 0, 0), (61, .iinc 4 1, 3, 64, 0, 0), (64, .goto (-49), 3, 67, 15, 0), (67, .aload_n 0, 1, 68, 0, 0), (68, .getfield 16, 3, 71, 4, 14), (71, .iload_n 2, 1, 72, 0, 0), (72, .iaload, 1, 73, 0, 0), (73, .ifCond .ne 10, 3, 76, 83, 0), (76, .iload_n 3, 1, 77, 0, 0), (77, .iload_n 1, 1, 78, 0, 0), (78, .if_icmp .ne 5, 3, 81, 83, 0), (81, .iload_n 2, 1, 82, 0, 0), (82, .ireturn, 1, 83, 0, 0), (83, .iinc 2 1, 3, 86, 0, 0), (86, .goto (-84), 3, 89, 2, 0), (89, .iconst (-1), 1, 90, 0, 0)]
def mI_104_1 : List mRow := [(90, .ireturn, 1, 91, 0, 0)]
def mI_105_0 : List mRow := [(0, .aload_n 0, 1, 1, 0, 0), (1, .getfield 19, 3, 4, 4, 15), (4, .iload_n 1, 1, 5, 0, 0), (5, .iaload, 1, 6, 0, 0), (6, .aload_n 0, 1, 7, 0, 0), (7, .getfield 19, 3, 10, 4, 15), (10, .iload_n 2, 1, 11, 0, 0), (11, .iaload, 1, 12, 0, 0), (12, .if_icmp .eq 42, 3, 15, 54, 0), (15, .aload_n 0, 1, 16, 0, 0), (16, .getfield 19, 3, 19, 4, 15), (19, .iload_n 2, 1, 20, 0, 0), (20, .iaload, 1, 21, 0, 0), (21, .ifCond .eq 27, 3, 24, 48, 0), (24, .aload_n 0, 1, 25, 0, 0), (25, .getfield 19, 3, 28, 4, 15), (28, .iload_n 1, 1, 29, 0, 0), (29, .iaload, 1, 30, 0, 0), (30, .ifCond .le 22, 3, 33, 52, 0), (33, .aload_n 0, 1, 34, 0, 0), (34, .getfield 19, 3, 37, 4, 15), (37, .iload_n 1, 1, 38, 0, 0), (38, .iaload, 1, 39, 0, 0), (39, .aload_n 0, 1, 40, 0, 0), (40, .getfield 19, 3, 43, 4, 15), (43, .iload_n 2, 1, 44, 0, 0), (44, .iaload, 1, 45, 0, 0), (45, .if_icmp .ge 7, 3, 48, 52, 0), (48, .iconst 1, 1, 49, 0, 0), (49, .goto 4, 3, 52, 53, 0), (52, .iconst 0, 1, 53, 0, 0), (53, .ireturn, 1, 54, 0, 0), (54, .aload_n 0, 1, 55, 0, 0), (55, .getfield 7, 3, 58, 4, 12), (58, .iload_n 1, 1, 59, 0, 0), (59, .iaload, 1, 60, 0, 0), (60, .aload_n 0, 1, 61, 0, 0), (61, .getfield 7, 3, 64, 4, 12), (64, .iload_n 2, 1, 65, 0, 0), (65, .iaload, 1, 66, 0, 0), (66, .if_icmp .eq 26, 3, 69, 92, 0), (69, .aload_n 0, 1, 70, 0, 0), (70, .getfield 7, 3, 73, 4, 12), (73, .iload_n 1, 1, 74, 0, 0), (74, .iaload, 1, 75, 0, 0), (75, .aload_n 0, 1, 76, 0, 0), (76, .getfield 7, 3, 79, 4, 12), (79, .iload_n 2, 1, 80, 0, 0), (80, .iaload, 1, 81, 0, 0), (81, .if_icmp .le 7, 3, 84, 88, 0)]
def mI_105_1 : List mRow := [(84, .iconst 1, 1, 85, 0, 0), (85, .goto 17, 3, 88, 102, 0), (88, .iconst 0, 1, 89, 0, 0), (89, .goto 13, 3, 92, 102, 0), (92, .iload_n 1, 1, 93, 0, 0), (93, .iload_n 2, 1, 94, 0, 0), (94, .if_icmp .ge 7, 3, 97, 101, 0), (97, .iconst 1, 1, 98, 0, 0), (98, .goto 4, 3, 101, 102, 0), (101, .iconst 0, 1, 102, 0, 0), (102, .ireturn, 1, 103, 0, 0)]
def mI_106_0 : List mRow := [(0, .iconst 0, 1, 1, 0, 0), (1, .istore_n 2, 1, 2, 0, 0), (2, .iconst 0, 1, 3, 0, 0), (3, .istore_n 3, 1, 4, 0, 0), (4, .iload_n 3, 1, 5, 0, 0), (5, .aload_n 0, 1, 6, 0, 0), (6, .getfield 94, 3, 9, 4, 6), (9, .if_icmp .ge 33, 3, 12, 42, 0), (12, .iload_n 2, 1, 13, 0, 0), (13, .ifCond .ne 17, 3, 16, 30, 0), (16, .aload_n 0, 1, 17, 0, 0), (17, .aload_n 0, 1, 18, 0, 0), (18, .getfield 32, 3, 21, 4, 19), (21, .iload_n 3, 1, 22, 0, 0), (22, .iaload, 1, 23, 0, 0), (23, .iload_n 1, 1, 24, 0, 0), (24, .invokevirtual 81, 3, 27, 86, 3), (27, .ifCond .eq 7, 3, 30, 34, 0), (30, .iconst 1, 1, 31, 0, 0), (31, .goto 4, 3, 34, 35, 0), (34, .iconst 0, 1, 35, 0, 0), (35, .istore_n 2, 1, 36, 0, 0), (36, .iinc 3 1, 3, 39, 0, 0), (39, .goto (-35), 3, 42, 4, 0), (42, .iload_n 2, 1, 43, 0, 0), (43, .ireturn, 1, 44, 0, 0)]
def mI_107_0 : List mRow := [(0, .aload_n 0, 1, 1, 0, 0), (1, .iconst 0, 1, 2, 0, 0), (2, .putfield 61, 3, 5, 4, 3), (5, .aload_n 0, 1, 6, 0, 0), (6, .iload_n 1, 1, 7, 0, 0), (7, .invokevirtual 153, 3, 10, 108, 2), (10, .ifCond .eq 12, 3, 13, 22, 0), (13, .aload_n 0, 1, 14, 0, 0), (14, .iload_n 1, 1, 15, 0, 0), (15, .invokevirtual 127, 3, 18, 95, 2), (18, .iconst 1, 1, 19, 0, 0), (19, .if_icmp .eq 5, 3, 22, 24, 0), (22, .iconst (-1), 1, 23, 0, 0), (23, .ireturn, 1, 24, 0, 0), (24, .aload_n 0, 1, 25, 0, 0), (25, .dup, 1, 26, 0, 0), (26, .getfield 156, 3, 29, 4, 8), (29, .iconst 1, 1, 30, 0, 0), (30, .iadd, 1, 31, 0, 0), (31, .putfield 156, 3, 34, 4, 8), (34, .aload_n 0, 1, 35, 0, 0), (35, .getfield 44, 3, 38, 4, 23), (38, .aload_n 0, 1, 39, 0, 0), (39, .getfield 32, 3, 42, 4, 19), (42, .aload_n 0, 1, 43, 0, 0), (43, .iload_n 1, 1, 44, 0, 0), (44, .invokevirtual 101, 3, 47, 96, 2), (47, .iaload, 1, 48, 0, 0), (48, .iaload, 1, 49, 0, 0), (49, .iload_n 2, 1, 50, 0, 0), (50, .ifCond .eq 7, 3, 53, 57, 0), (53, .iconst 0, 1, 54, 0, 0), (54, .goto 4, 3, 57, 58, 0), (57, .iconst 1, 1, 58, 0, 0), (58, .iadd, 1, 59, 0, 0), (59, .istore_n 3, 1, 60, 0, 0), (60, .iload_n 2, 1, 61, 0, 0), (61, .ifCond .eq 7, 3, 64, 68, 0), (64, .iconst 3, 1, 65, 0, 0), (65, .goto 16, 3, 68, 81, 0), (68, .iload_n 3, 1, 69, 0, 0), (69, .aload_n 0, 1, 70, 0, 0), (70, .getfield 58, 3, 73, 4, 2), (73, .if_icmp .lt 7, 3, 76, 80, 0), (76, .iconst 2, 1, 77, 0, 0), (77, .goto 4, 3, 80, 81, 0), (80, .iconst 1, 1, 81, 0, 0), (81, .istore 4, 2, 83, 0, 0), (83, .aload_n 0, 1, 84, 0, 0), (84, .iload_n 1, 1, 85, 0, 0)]
def mI_107_1 : List mRow := [(85, .iconst 1, 1, 86, 0, 0), (86, .iadd, 1, 87, 0, 0), (87, .invokevirtual 101, 3, 90, 96, 2), (90, .istore 5, 2, 92, 0, 0), (92, .aload_n 0, 1, 93, 0, 0), (93, .iload_n 1, 1, 94, 0, 0), (94, .invokevirtual 101, 3, 97, 96, 2), (97, .istore 6, 2, 99, 0, 0), (99, .iload 6, 2, 101, 0, 0), (101, .iload 5, 2, 103, 0, 0), (103, .if_icmp .ge 22, 3, 106, 125, 0), (106, .aload_n 0, 1, 107, 0, 0), (107, .getfield 44, 3, 110, 4, 23), (110, .aload_n 0, 1, 111, 0, 0), (111, .getfield 32, 3, 114, 4, 19), (114, .iload 6, 2, 116, 0, 0), (116, .iaload, 1, 117, 0, 0), (117, .iload_n 3, 1, 118, 0, 0), (118, .iastore, 1, 119, 0, 0), (119, .iinc 6 1, 3, 122, 0, 0), (122, .goto (-23), 3, 125, 99, 0), (125, .aload_n 0, 1, 126, 0, 0), (126, .iload_n 1, 1, 127, 0, 0), (127, .iload 4, 2, 129, 0, 0), (129, .invokevirtual 130, 3, 132, 102, 3), (132, .iload 4, 2, 134, 0, 0), (134, .ireturn, 1, 135, 0, 0)]
def mI_108_0 : List mRow := [(0, .iload_n 1, 1, 1, 0, 0), (1, .ifCond .lt 15, 3, 4, 16, 0), (4, .iload_n 1, 1, 5, 0, 0), (5, .aload_n 0, 1, 6, 0, 0), (6, .invokevirtual 97, 3, 9, 101, 1), (9, .if_icmp .ge 7, 3, 12, 16, 0), (12, .iconst 1, 1, 13, 0, 0), (13, .goto 4, 3, 16, 17, 0), (16, .iconst 0, 1, 17, 0, 0), (17, .ireturn, 1, 18, 0, 0)]
def mI_109_0 : List mRow := [(0, .aload_n 0, 1, 1, 0, 0), (1, .iconst 0, 1, 2, 0, 0), (2, .putfield 61, 3, 5, 4, 3), (5, .aload_n 0, 1, 6, 0, 0), (6, .invokevirtual 97, 3, 9, 101, 1), (9, .ireturn, 1, 10, 0, 0)]
def mI_110_0 : List mRow := [(0, .aload_n 0, 1, 1, 0, 0), (1, .iconst 0, 1, 2, 0, 0), (2, .putfield 61, 3, 5, 4, 3), (5, .aload_n 0, 1, 6, 0, 0), (6, .iload_n 1, 1, 7, 0, 0), (7, .invokevirtual 153, 3, 10, 108, 2), (10, .ifCond .ne 5, 3, 13, 15, 0), (13, .iconst (-1), 1, 14, 0, 0), (14, .ireturn, 1, 15, 0, 0), (15, .iload_n 2, 1, 16, 0, 0), (16, .ifCond .ne 11, 3, 19, 27, 0), (19, .aload_n 0, 1, 20, 0, 0), (20, .iload_n 1, 1, 21, 0, 0), (21, .invokevirtual 127, 3, 24, 95, 2), (24, .goto 53, 3, 27, 77, 0), (27, .iload_n 2, 1, 28, 0, 0), (28, .iconst 1, 1, 29, 0, 0), (29, .if_icmp .ne 11, 3, 32, 40, 0), (32, .aload_n 0, 1, 33, 0, 0), (33, .iload_n 1, 1, 34, 0, 0), (34, .invokevirtual 121, 3, 37, 98, 2), (37, .goto 40, 3, 40, 77, 0), (40, .iload_n 2, 1, 41, 0, 0), (41, .iconst 2, 1, 42, 0, 0), (42, .if_icmp .ne 21, 3, 45, 63, 0), (45, .aload_n 0, 1, 46, 0, 0), (46, .getfield 44, 3, 49, 4, 23), (49, .aload_n 0, 1, 50, 0, 0), (50, .getfield 32, 3, 53, 4, 19), (53, .aload_n 0, 1, 54, 0, 0), (54, .iload_n 1, 1, 55, 0, 0), (55, .invokevirtual 101, 3, 58, 96, 2), (58, .iaload, 1, 59, 0, 0), (59, .iaload, 1, 60, 0, 0), (60, .goto 17, 3, 63, 77, 0), (63, .iload_n 2, 1, 64, 0, 0), (64, .iconst 3, 1, 65, 0, 0), (65, .if_icmp .ne 11, 3, 68, 76, 0), (68, .aload_n 0, 1, 69, 0, 0), (69, .iload_n 1, 1, 70, 0, 0), (70, .invokevirtual 101, 3, 73, 96, 2), (73, .goto 4, 3, 76, 77, 0), (76, .iconst (-1), 1, 77, 0, 0), (77, .ireturn, 1, 78, 0, 0)]
def mI_111_0 : List mRow := [(0, .aload_n 0, 1, 1, 0, 0), (1, .iconst 0, 1, 2, 0, 0), (2, .putfield 61, 3, 5, 4, 3), (5, .aload_n 0, 1, 6, 0, 0), (6, .iload_n 1, 1, 7, 0, 0), (7, .invokevirtual 153, 3, 10, 108, 2), (10, .ifCond .eq 16, 3, 13, 26, 0), (13, .iload_n 2, 1, 14, 0, 0), (14, .ifCond .lt 12, 3, 17, 26, 0), (17, .iload_n 2, 1, 18, 0, 0), (18, .aload_n 0, 1, 19, 0, 0), (19, .iload_n 1, 1, 20, 0, 0), (20, .invokevirtual 121, 3, 23, 98, 2), (23, .if_icmp .lt 7, 3, 26, 30, 0), (26, .iconst (-1), 1, 27, 0, 0), (27, .goto 15, 3, 30, 42, 0), (30, .aload_n 0, 1, 31, 0, 0), (31, .getfield 32, 3, 34, 4, 19), (34, .aload_n 0, 1, 35, 0, 0), (35, .iload_n 1, 1, 36, 0, 0), (36, .invokevirtual 101, 3, 39, 96, 2), (39, .iload_n 2, 1, 40, 0, 0), (40, .iadd, 1, 41, 0, 0), (41, .iaload, 1, 42, 0, 0), (42, .ireturn, 1, 43, 0, 0)]
def mI_112_0 : List mRow := [(0, .aload_n 0, 1, 1, 0, 0), (1, .iconst 0, 1, 2, 0, 0), (2, .putfield 61, 3, 5, 4, 3), (5, .iload_n 1, 1, 6, 0, 0), (6, .ifCond .ge 7, 3, 9, 13, 0), (9, .iconst (-1), 1, 10, 0, 0), (10, .goto 8, 3, 13, 18, 0), (13, .aload_n 0, 1, 14, 0, 0), (14, .iload_n 1, 1, 15, 0, 0), (15, .invokevirtual 134, 3, 18, 104, 2), (18, .ireturn, 1, 19, 0, 0)]
def mI_113_0 : List mRow := [(0, .aload_n 0, 1, 1, 0, 0), (1, .iconst 0, 1, 2, 0, 0), (2, .putfield 61, 3, 5, 4, 3), (5, .iload_n 1, 1, 6, 0, 0), (6, .ifCond .lt 11, 3, 9, 17, 0), (9, .iload_n 1, 1, 10, 0, 0), (10, .aload_n 0, 1, 11, 0, 0), (11, .getfield 78, 3, 14, 4, 7), (14, .if_icmp .lt 7, 3, 17, 21, 0), (17, .iconst (-1), 1, 18, 0, 0), (18, .goto 9, 3, 21, 27, 0), (21, .aload_n 0, 1, 22, 0, 0), (22, .getfield 35, 3, 25, 4, 20), (25, .iload_n 1, 1, 26, 0, 0), (26, .iaload, 1, 27, 0, 0), (27, .ireturn, 1, 28, 0, 0)]
def mI_114_0 : List mRow := [(0, .aload_n 0, 1, 1, 0, 0), (1, .iconst 0, 1, 2, 0, 0), (2, .putfield 61, 3, 5, 4, 3), (5, .aload_n 0, 1, 6, 0, 0), (6, .iload_n 1, 1, 7, 0, 0), (7, .invokevirtual 71, 3, 10, 83, 2), (10, .ifCond .eq 12, 3, 13, 22, 0), (13, .aload_n 0, 1, 14, 0, 0), (14, .getfield 16, 3, 17, 4, 14), (17, .iload_n 1, 1, 18, 0, 0), (18, .iaload, 1, 19, 0, 0), (19, .goto 4, 3, 22, 23, 0), (22, .iconst (-1), 1, 23, 0, 0), (23, .ireturn, 1, 24, 0, 0)]
def mI_115_0 : List mRow := [(0, .aload_n 0, 1, 1, 0, 0), (1, .iconst 0, 1, 2, 0, 0), (2, .putfield 61, 3, 5, 4, 3), (5, .aload_n 0, 1, 6, 0, 0), (6, .iload_n 1, 1, 7, 0, 0), (7, .invokevirtual 71, 3, 10, 83, 2), (10, .ifCond .eq 12, 3, 13, 22, 0), (13, .aload_n 0, 1, 14, 0, 0), (14, .getfield 22, 3, 17, 4, 16), (17, .iload_n 1, 1, 18, 0, 0), (18, .iaload, 1, 19, 0, 0), (19, .goto 4, 3, 22, 23, 0), (22, .iconst (-1), 1, 23, 0, 0), (23, .ireturn, 1, 24, 0, 0)]
def mI_116_0 : List mRow := [(0, .aload_n 0, 1, 1, 0, 0), (1, .iconst 0, 1, 2, 0, 0), (2, .putfield 61, 3, 5, 4, 3), (5, .aload_n 0, 1, 6, 0, 0), (6, .iload_n 1, 1, 7, 0, 0), (7, .invokevirtual 71, 3, 10, 83, 2), (10, .ifCond .ne 7, 3, 13, 17, 0), (13, .iconst (-1), 1, 14, 0, 0), (14, .goto 41, 3, 17, 55, 0), (17, .aload_n 0, 1, 18, 0, 0), (18, .getfield 22, 3, 21, 4, 16), (21, .iload_n 1, 1, 22, 0, 0), (22, .iaload, 1, 23, 0, 0), (23, .iconst 1, 1, 24, 0, 0), (24, .if_icmp .ne 12, 3, 27, 36, 0), (27, .aload_n 0, 1, 28, 0, 0), (28, .getfield 25, 3, 31, 4, 17), (31, .iload_n 1, 1, 32, 0, 0), (32, .iaload, 1, 33, 0, 0), (33, .goto 22, 3, 36, 55, 0), (36, .aload_n 0, 1, 37, 0, 0), (37, .getfield 22, 3, 40, 4, 16), (40, .iload_n 1, 1, 41, 0, 0), (41, .iaload, 1, 42, 0, 0), (42, .iconst 2, 1, 43, 0, 0), (43, .if_icmp .ne 11, 3, 46, 54, 0), (46, .aload_n 0, 1, 47, 0, 0), (47, .iload_n 1, 1, 48, 0, 0), (48, .invokevirtual 84, 3, 51, 88, 2), (51, .goto 4, 3, 54, 55, 0), (54, .iconst (-1), 1, 55, 0, 0), (55, .ireturn, 1, 56, 0, 0)]
def mI_117_0 : List mRow := [(0, .aload_n 0, 1, 1, 0, 0), (1, .iconst 0, 1, 2, 0, 0), (2, .putfield 61, 3, 5, 4, 3), (5, .iconst 0, 1, 6, 0, 0), (6, .istore_n 2, 1, 7, 0, 0), (7, .iconst 0, 1, 8, 0, 0), (8, .istore_n 3, 1, 9, 0, 0), (9, .iload_n 3, 1, 10, 0, 0), (10, .aload_n 0, 1, 11, 0, 0), (11, .getfield 78, 3, 14, 4, 7), (14, .if_icmp .ge 23, 3, 17, 37, 0), (17, .iload_n 2, 1, 18, 0, 0), (18, .aload_n 0, 1, 19, 0, 0), (19, .getfield 13, 3, 22, 4, 13), (22, .aload_n 0, 1, 23, 0, 0), (23, .getfield 35, 3, 26, 4, 20), (26, .iload_n 3, 1, 27, 0, 0), (27, .iaload, 1, 28, 0, 0), (28, .iaload, 1, 29, 0, 0), (29, .ior, 1, 30, 0, 0), (30, .istore_n 2, 1, 31, 0, 0), (31, .iinc 3 1, 3, 34, 0, 0), (34, .goto (-25), 3, 37, 9, 0), (37, .iload_n 1, 1, 38, 0, 0), (38, .ifCond .ne 10, 3, 41, 48, 0), (41, .aload_n 0, 1, 42, 0, 0), (42, .getfield 156, 3, 45, 4, 8), (45, .goto 37, 3, 48, 82, 0), (48, .iload_n 1, 1, 49, 0, 0), (49, .iconst 1, 1, 50, 0, 0), (50, .if_icmp .ne 10, 3, 53, 60, 0), (53, .aload_n 0, 1, 54, 0, 0), (54, .getfield 124, 3, 57, 4, 9), (57, .goto 25, 3, 60, 82, 0), (60, .iload_n 1, 1, 61, 0, 0), (61, .iconst 2, 1, 62, 0, 0), (62, .if_icmp .ne 10, 3, 65, 72, 0), (65, .aload_n 0, 1, 66, 0, 0), (66, .getfield 104, 3, 69, 4, 10), (69, .goto 13, 3, 72, 82, 0), (72, .iload_n 1, 1, 73, 0, 0), (73, .iconst 3, 1, 74, 0, 0), (74, .if_icmp .ne 7, 3, 77, 81, 0), (77, .iload_n 2, 1, 78, 0, 0), (78, .goto 4, 3, 81, 82, 0), (81, .iconst (-1), 1, 82, 0, 0), (82, .ireturn, 1, 83, 0, 0)]
def mI_118_0 : List mRow := [(0, .new 7, 3, 3, 3, 10), (3, .dup, 1, 4, 0, 0), (4, .aload_n 0, 1, 5, 0, 0), (5, .iconst 0, 1, 6, 0, 0), (6, .invokestatic 9, 3, 9, 78, 2), (9, .aload_n 0, 1, 10, 0, 0), (10, .iconst 1, 1, 11, 0, 0), (11, .invokestatic 9, 3, 14, 78, 2), (14, .aload_n 0, 1, 15, 0, 0), (15, .iconst 2, 1, 16, 0, 0), (16, .invokestatic 9, 3, 19, 78, 2), (19, .invokespecial 15, 3, 22, 0, 4), (22, .astore_n 1, 1, 23, 0, 0), (23, .new 18, 3, 26, 4, 24), (26, .dup, 1, 27, 0, 0), (27, .aload_n 0, 1, 28, 0, 0), (28, .iconst 0, 1, 29, 0, 0), (29, .invokestatic 9, 3, 32, 78, 2), (32, .aload_n 0, 1, 33, 0, 0), (33, .iconst 1, 1, 34, 0, 0), (34, .invokestatic 9, 3, 37, 78, 2), (37, .aload_n 0, 1, 38, 0, 0), (38, .iconst 2, 1, 39, 0, 0), (39, .invokestatic 9, 3, 42, 78, 2), (42, .invokespecial 20, 3, 45, 79, 4), (45, .astore_n 2, 1, 46, 0, 0), (46, .iconst 3, 1, 47, 0, 0), (47, .istore_n 3, 1, 48, 0, 0), (48, .iload_n 3, 1, 49, 0, 0), (49, .aload_n 0, 1, 50, 0, 0), (50, .arraylength, 1, 51, 0, 0), (51, .iconst 3, 1, 52, 0, 0), (52, .isub, 1, 53, 0, 0), (53, .if_icmp .gt 523, 3, 56, 576, 0), (56, .aload_n 0, 1, 57, 0, 0), (57, .iload_n 3, 1, 58, 0, 0), (58, .iaload, 1, 59, 0, 0), (59, .bipush 15, 2, 61, 0, 0), (61, .iand, 1, 62, 0, 0), (62, .tableswitch 508 0 15 #[78, 111, 144, 167, 190, 229, 242, 291, 304, 337, 370, 393, 416, 439, 462, 485], 78, 140, 570, 0), (140, .aload_n 1, 1, 141, 0, 0), (141, .aload_n 0, 1, 142, 0, 0), (142, .iload_n 3, 1, 143, 0, 0), (143, .iconst 1, 1, 144, 0, 0), (144, .iadd, 1, 145, 0, 0), (145, .iaload, 1, 146, 0, 0), (146, .aload_n 0, 1, 147, 0, 0), (147, .iload_n 3, 1, 148, 0, 0), (148, .iconst 2, 1, 149, 0, 0), (149, .iadd, 1, 150, 0, 0)]
def mI_118_1 : List mRow := [(150, .iaload, 1, 151, 0, 0), (151, .invokevirtual 21, 3, 154, 5, 3), (154, .aload_n 2, 1, 155, 0, 0), (155, .aload_n 0, 1, 156, 0, 0), (156, .iload_n 3, 1, 157, 0, 0), (157, .iconst 1, 1, 158, 0, 0), (158, .iadd, 1, 159, 0, 0), (159, .iaload, 1, 160, 0, 0), (160, .aload_n 0, 1, 161, 0, 0), (161, .iload_n 3, 1, 162, 0, 0), (162, .iconst 2, 1, 163, 0, 0), (163, .iadd, 1, 164, 0, 0), (164, .iaload, 1, 165, 0, 0), (165, .invokevirtual 25, 3, 168, 81, 3), (168, .if_icmp .eq 402, 3, 171, 570, 0), (171, .iconst 0, 1, 172, 0, 0), (172, .ireturn, 1, 173, 0, 0), (173, .aload_n 1, 1, 174, 0, 0), (174, .aload_n 0, 1, 175, 0, 0), (175, .iload_n 3, 1, 176, 0, 0), (176, .iconst 1, 1, 177, 0, 0), (177, .iadd, 1, 178, 0, 0), (178, .iaload, 1, 179, 0, 0), (179, .aload_n 0, 1, 180, 0, 0), (180, .iload_n 3, 1, 181, 0, 0), (181, .iconst 2, 1, 182, 0, 0), (182, .iadd, 1, 183, 0, 0), (183, .iaload, 1, 184, 0, 0), (184, .invokevirtual 26, 3, 187, 15, 3), (187, .aload_n 2, 1, 188, 0, 0), (188, .aload_n 0, 1, 189, 0, 0), (189, .iload_n 3, 1, 190, 0, 0), (190, .iconst 1, 1, 191, 0, 0), (191, .iadd, 1, 192, 0, 0), (192, .iaload, 1, 193, 0, 0), (193, .aload_n 0, 1, 194, 0, 0), (194, .iload_n 3, 1, 195, 0, 0), (195, .iconst 2, 1, 196, 0, 0), (196, .iadd, 1, 197, 0, 0), (197, .iaload, 1, 198, 0, 0), (198, .invokevirtual 29, 3, 201, 84, 3), (201, .if_icmp .eq 369, 3, 204, 570, 0), (204, .iconst 0, 1, 205, 0, 0), (205, .ireturn, 1, 206, 0, 0), (206, .aload_n 1, 1, 207, 0, 0), (207, .aload_n 0, 1, 208, 0, 0), (208, .iload_n 3, 1, 209, 0, 0), (209, .iconst 1, 1, 210, 0, 0), (210, .iadd, 1, 211, 0, 0), (211, .iaload, 1, 212, 0, 0)]
def mI_118_2 : List mRow := [(212, .invokevirtual 30, 3, 215, 26, 2), (215, .aload_n 2, 1, 216, 0, 0), (216, .aload_n 0, 1, 217, 0, 0), (217, .iload_n 3, 1, 218, 0, 0), (218, .iconst 1, 1, 219, 0, 0), (219, .iadd, 1, 220, 0, 0), (220, .iaload, 1, 221, 0, 0), (221, .invokevirtual 34, 3, 224, 82, 2), (224, .if_icmp .eq 346, 3, 227, 570, 0), (227, .iconst 0, 1, 228, 0, 0), (228, .ireturn, 1, 229, 0, 0), (229, .aload_n 1, 1, 230, 0, 0), (230, .aload_n 0, 1, 231, 0, 0), (231, .iload_n 3, 1, 232, 0, 0), (232, .iconst 1, 1, 233, 0, 0), (233, .iadd, 1, 234, 0, 0), (234, .iaload, 1, 235, 0, 0), (235, .invokevirtual 35, 3, 238, 31, 2), (238, .aload_n 2, 1, 239, 0, 0), (239, .aload_n 0, 1, 240, 0, 0), (240, .iload_n 3, 1, 241, 0, 0), (241, .iconst 1, 1, 242, 0, 0), (242, .iadd, 1, 243, 0, 0), (243, .iaload, 1, 244, 0, 0), (244, .invokevirtual 38, 3, 247, 89, 2), (247, .if_icmp .eq 323, 3, 250, 570, 0), (250, .iconst 0, 1, 251, 0, 0), (251, .ireturn, 1, 252, 0, 0), (252, .aload_n 1, 1, 253, 0, 0), (253, .aload_n 0, 1, 254, 0, 0), (254, .iload_n 3, 1, 255, 0, 0), (255, .iconst 1, 1, 256, 0, 0), (256, .iadd, 1, 257, 0, 0), (257, .iaload, 1, 258, 0, 0), (258, .ifCond .eq 7, 3, 261, 265, 0), (261, .iconst 1, 1, 262, 0, 0), (262, .goto 4, 3, 265, 266, 0), (265, .iconst 0, 1, 266, 0, 0), (266, .invokevirtual 39, 3, 269, 37, 2), (269, .aload_n 2, 1, 270, 0, 0), (270, .aload_n 0, 1, 271, 0, 0), (271, .iload_n 3, 1, 272, 0, 0), (272, .iconst 1, 1, 273, 0, 0), (273, .iadd, 1, 274, 0, 0), (274, .iaload, 1, 275, 0, 0), (275, .ifCond .eq 7, 3, 278, 282, 0), (278, .iconst 1, 1, 279, 0, 0), (279, .goto 4, 3, 282, 283, 0), (282, .iconst 0, 1, 283, 0, 0), (283, .invokevirtual 43, 3, 286, 93, 2)]
def mI_118_3 : List mRow := [(286, .if_icmp .eq 284, 3, 289, 570, 0), (289, .iconst 0, 1, 290, 0, 0), (290, .ireturn, 1, 291, 0, 0), (291, .aload_n 1, 1, 292, 0, 0), (292, .invokevirtual 44, 3, 295, 38, 1), (295, .aload_n 2, 1, 296, 0, 0), (296, .invokevirtual 48, 3, 299, 94, 1), (299, .if_icmp .eq 271, 3, 302, 570, 0), (302, .iconst 0, 1, 303, 0, 0), (303, .ireturn, 1, 304, 0, 0), (304, .aload_n 1, 1, 305, 0, 0), (305, .aload_n 0, 1, 306, 0, 0), (306, .iload_n 3, 1, 307, 0, 0), (307, .iconst 1, 1, 308, 0, 0), (308, .iadd, 1, 309, 0, 0), (309, .iaload, 1, 310, 0, 0), (310, .aload_n 0, 1, 311, 0, 0), (311, .iload_n 3, 1, 312, 0, 0), (312, .iconst 2, 1, 313, 0, 0), (313, .iadd, 1, 314, 0, 0), (314, .iaload, 1, 315, 0, 0), (315, .ifCond .eq 7, 3, 318, 322, 0), (318, .iconst 1, 1, 319, 0, 0), (319, .goto 4, 3, 322, 323, 0), (322, .iconst 0, 1, 323, 0, 0), (323, .invokevirtual 49, 3, 326, 61, 3), (326, .aload_n 2, 1, 327, 0, 0), (327, .aload_n 0, 1, 328, 0, 0), (328, .iload_n 3, 1, 329, 0, 0), (329, .iconst 1, 1, 330, 0, 0), (330, .iadd, 1, 331, 0, 0), (331, .iaload, 1, 332, 0, 0), (332, .aload_n 0, 1, 333, 0, 0), (333, .iload_n 3, 1, 334, 0, 0), (334, .iconst 2, 1, 335, 0, 0), (335, .iadd, 1, 336, 0, 0), (336, .iaload, 1, 337, 0, 0), (337, .ifCond .eq 7, 3, 340, 344, 0), (340, .iconst 1, 1, 341, 0, 0), (341, .goto 4, 3, 344, 345, 0), (344, .iconst 0, 1, 345, 0, 0), (345, .invokevirtual 53, 3, 348, 107, 3), (348, .if_icmp .eq 222, 3, 351, 570, 0), (351, .iconst 0, 1, 352, 0, 0), (352, .ireturn, 1, 353, 0, 0), (353, .aload_n 1, 1, 354, 0, 0), (354, .invokevirtual 54, 3, 357, 63, 1), (357, .aload_n 2, 1, 358, 0, 0), (358, .invokevirtual 57, 3, 361, 109, 1), (361, .if_icmp .eq 209, 3, 364, 570, 0)]
def mI_118_4 : List mRow := [(364, .iconst 0, 1, 365, 0, 0), (365, .ireturn, 1, 366, 0, 0), (366, .aload_n 1, 1, 367, 0, 0), (367, .aload_n 0, 1, 368, 0, 0), (368, .iload_n 3, 1, 369, 0, 0), (369, .iconst 1, 1, 370, 0, 0), (370, .iadd, 1, 371, 0, 0), (371, .iaload, 1, 372, 0, 0), (372, .aload_n 0, 1, 373, 0, 0), (373, .iload_n 3, 1, 374, 0, 0), (374, .iconst 2, 1, 375, 0, 0), (375, .iadd, 1, 376, 0, 0), (376, .iaload, 1, 377, 0, 0), (377, .invokevirtual 58, 3, 380, 64, 3), (380, .aload_n 2, 1, 381, 0, 0), (381, .aload_n 0, 1, 382, 0, 0), (382, .iload_n 3, 1, 383, 0, 0), (383, .iconst 1, 1, 384, 0, 0), (384, .iadd, 1, 385, 0, 0), (385, .iaload, 1, 386, 0, 0), (386, .aload_n 0, 1, 387, 0, 0), (387, .iload_n 3, 1, 388, 0, 0), (388, .iconst 2, 1, 389, 0, 0), (389, .iadd, 1, 390, 0, 0), (390, .iaload, 1, 391, 0, 0), (391, .invokevirtual 61, 3, 394, 110, 3), (394, .if_icmp .eq 176, 3, 397, 570, 0), (397, .iconst 0, 1, 398, 0, 0), (398, .ireturn, 1, 399, 0, 0), (399, .aload_n 1, 1, 400, 0, 0), (400, .aload_n 0, 1, 401, 0, 0), (401, .iload_n 3, 1, 402, 0, 0), (402, .iconst 1, 1, 403, 0, 0), (403, .iadd, 1, 404, 0, 0), (404, .iaload, 1, 405, 0, 0), (405, .aload_n 0, 1, 406, 0, 0), (406, .iload_n 3, 1, 407, 0, 0), (407, .iconst 2, 1, 408, 0, 0), (408, .iadd, 1, 409, 0, 0), (409, .iaload, 1, 410, 0, 0), (410, .invokevirtual 62, 3, 413, 66, 3), (413, .aload_n 2, 1, 414, 0, 0), (414, .aload_n 0, 1, 415, 0, 0), (415, .iload_n 3, 1, 416, 0, 0), (416, .iconst 1, 1, 417, 0, 0), (417, .iadd, 1, 418, 0, 0), (418, .iaload, 1, 419, 0, 0), (419, .aload_n 0, 1, 420, 0, 0), (420, .iload_n 3, 1, 421, 0, 0), (421, .iconst 2, 1, 422, 0, 0)]
def mI_118_5 : List mRow := [(422, .iadd, 1, 423, 0, 0), (423, .iaload, 1, 424, 0, 0), (424, .invokevirtual 65, 3, 427, 111, 3), (427, .if_icmp .eq 143, 3, 430, 570, 0), (430, .iconst 0, 1, 431, 0, 0), (431, .ireturn, 1, 432, 0, 0), (432, .aload_n 1, 1, 433, 0, 0), (433, .aload_n 0, 1, 434, 0, 0), (434, .iload_n 3, 1, 435, 0, 0), (435, .iconst 1, 1, 436, 0, 0), (436, .iadd, 1, 437, 0, 0), (437, .iaload, 1, 438, 0, 0), (438, .invokevirtual 66, 3, 441, 67, 2), (441, .aload_n 2, 1, 442, 0, 0), (442, .aload_n 0, 1, 443, 0, 0), (443, .iload_n 3, 1, 444, 0, 0), (444, .iconst 1, 1, 445, 0, 0), (445, .iadd, 1, 446, 0, 0), (446, .iaload, 1, 447, 0, 0), (447, .invokevirtual 70, 3, 450, 112, 2), (450, .if_icmp .eq 120, 3, 453, 570, 0), (453, .iconst 0, 1, 454, 0, 0), (454, .ireturn, 1, 455, 0, 0), (455, .aload_n 1, 1, 456, 0, 0), (456, .aload_n 0, 1, 457, 0, 0), (457, .iload_n 3, 1, 458, 0, 0), (458, .iconst 1, 1, 459, 0, 0), (459, .iadd, 1, 460, 0, 0), (460, .iaload, 1, 461, 0, 0), (461, .invokevirtual 71, 3, 464, 68, 2), (464, .aload_n 2, 1, 465, 0, 0), (465, .aload_n 0, 1, 466, 0, 0), (466, .iload_n 3, 1, 467, 0, 0), (467, .iconst 1, 1, 468, 0, 0), (468, .iadd, 1, 469, 0, 0), (469, .iaload, 1, 470, 0, 0), (470, .invokevirtual 74, 3, 473, 113, 2), (473, .if_icmp .eq 97, 3, 476, 570, 0), (476, .iconst 0, 1, 477, 0, 0), (477, .ireturn, 1, 478, 0, 0), (478, .aload_n 1, 1, 479, 0, 0), (479, .aload_n 0, 1, 480, 0, 0), (480, .iload_n 3, 1, 481, 0, 0), (481, .iconst 1, 1, 482, 0, 0), (482, .iadd, 1, 483, 0, 0), (483, .iaload, 1, 484, 0, 0), (484, .invokevirtual 75, 3, 487, 69, 2), (487, .aload_n 2, 1, 488, 0, 0), (488, .aload_n 0, 1, 489, 0, 0), (489, .iload_n 3, 1, 490, 0, 0)]
def mI_118_6 : List mRow := [(490, .iconst 1, 1, 491, 0, 0), (491, .iadd, 1, 492, 0, 0), (492, .iaload, 1, 493, 0, 0), (493, .invokevirtual 78, 3, 496, 114, 2), (496, .if_icmp .eq 74, 3, 499, 570, 0), (499, .iconst 0, 1, 500, 0, 0), (500, .ireturn, 1, 501, 0, 0), (501, .aload_n 1, 1, 502, 0, 0), (502, .aload_n 0, 1, 503, 0, 0), (503, .iload_n 3, 1, 504, 0, 0), (504, .iconst 1, 1, 505, 0, 0), (505, .iadd, 1, 506, 0, 0), (506, .iaload, 1, 507, 0, 0), (507, .invokevirtual 79, 3, 510, 70, 2), (510, .aload_n 2, 1, 511, 0, 0), (511, .aload_n 0, 1, 512, 0, 0), (512, .iload_n 3, 1, 513, 0, 0), (513, .iconst 1, 1, 514, 0, 0), (514, .iadd, 1, 515, 0, 0), (515, .iaload, 1, 516, 0, 0), (516, .invokevirtual 82, 3, 519, 115, 2), (519, .if_icmp .eq 51, 3, 522, 570, 0), (522, .iconst 0, 1, 523, 0, 0), (523, .ireturn, 1, 524, 0, 0), (524, .aload_n 1, 1, 525, 0, 0), (525, .aload_n 0, 1, 526, 0, 0), (526, .iload_n 3, 1, 527, 0, 0), (527, .iconst 1, 1, 528, 0, 0), (528, .iadd, 1, 529, 0, 0), (529, .iaload, 1, 530, 0, 0), (530, .invokevirtual 83, 3, 533, 72, 2), (533, .aload_n 2, 1, 534, 0, 0), (534, .aload_n 0, 1, 535, 0, 0), (535, .iload_n 3, 1, 536, 0, 0), (536, .iconst 1, 1, 537, 0, 0), (537, .iadd, 1, 538, 0, 0), (538, .iaload, 1, 539, 0, 0), (539, .invokevirtual 86, 3, 542, 116, 2), (542, .if_icmp .eq 28, 3, 545, 570, 0), (545, .iconst 0, 1, 546, 0, 0), (546, .ireturn, 1, 547, 0, 0), (547, .aload_n 1, 1, 548, 0, 0), (548, .aload_n 0, 1, 549, 0, 0), (549, .iload_n 3, 1, 550, 0, 0), (550, .iconst 1, 1, 551, 0, 0), (551, .iadd, 1, 552, 0, 0), (552, .iaload, 1, 553, 0, 0), (553, .invokevirtual 87, 3, 556, 74, 2), (556, .aload_n 2, 1, 557, 0, 0), (557, .aload_n 0, 1, 558, 0, 0)]
def mI_118_7 : List mRow := [(558, .iload_n 3, 1, 559, 0, 0), (559, .iconst 1, 1, 560, 0, 0), (560, .iadd, 1, 561, 0, 0), (561, .iaload, 1, 562, 0, 0), (562, .invokevirtual 90, 3, 565, 117, 2), (565, .if_icmp .eq 5, 3, 568, 570, 0), (568, .iconst 0, 1, 569, 0, 0), (569, .ireturn, 1, 570, 0, 0), (570, .iinc 3 3, 3, 573, 0, 0), (573, .goto (-525), 3, 576, 48, 0), (576, .iconst 1, 1, 577, 0, 0), (577, .ireturn, 1, 578, 0, 0)]
def mTab : List (List mRow) := [mI_0_0, mI_1_0, mI_2_0, mI_3_0, mI_4_0, mI_5_0, mI_6_0, mI_7_0, mI_8_0, mI_9_0, mI_10_0, mI_11_0, mI_12_0, mI_13_0, mI_14_0 ++ mI_14_1, mI_15_0, mI_16_0, mI_17_0, mI_18_0, mI_19_0, mI_20_0, mI_21_0, mI_22_0, mI_23_0, mI_24_0, mI_25_0, mI_26_0, mI_27_0, mI_28_0, mI_29_0, mI_30_0, mI_31_0, mI_32_0, mI_33_0, mI_34_0, mI_35_0, mI_36_0, mI_37_0, mI_38_0, mI_39_0, mI_40_0, mI_41_0, mI_42_0, mI_43_0, mI_44_0, mI_45_0, mI_46_0, mI_47_0, mI_48_0, mI_49_0, mI_50_0, mI_51_0, mI_52_0, mI_53_0, mI_54_0 ++ mI_54_1, mI_55_0, mI_56_0, mI_57_0, mI_58_0, mI_59_0, mI_60_0, mI_61_0, mI_62_0, mI_63_0, mI_64_0, mI_65_0, mI_66_0, mI_67_0, mI_68_0, mI_69_0, mI_70_0, mI_71_0, mI_72_0, mI_73_0, mI_74_0, mI_75_0, mI_76_0, mI_77_0, mI_78_0, mI_79_0 ++ mI_79_1, mI_80_0, mI_81_0, mI_82_0, mI_83_0, mI_84_0 ++ mI_84_1, mI_85_0, mI_86_0, mI_87_0, mI_88_0, mI_89_0 ++ mI_89_1, mI_90_0, mI_91_0, mI_92_0 ++ mI_92_1, mI_93_0, mI_94_0, mI_95_0, mI_96_0, mI_97_0, mI_98_0, mI_99_0 ++ mI_99_1, mI_100_0 ++ mI_100_1, mI_101_0, mI_102_0, mI_103_0 ++ mI_103_1, mI_104_0 ++ mI_104_1, mI_105_0 ++ mI_105_1, mI_106_0, mI_107_0 ++ mI_107_1, mI_108_0, mI_109_0, mI_110_0, mI_111_0, mI_112_0, mI_113_0, mI_114_0, mI_115_0, mI_116_0, mI_117_0, mI_118_0 ++ mI_118_1 ++ mI_118_2 ++ mI_118_3 ++ mI_118_4 ++ mI_118_5 ++ mI_118_6 ++ mI_118_7]
def m_t (k : Nat) : List mRow := mTab.getD k []
def m_i (k pc : Nat) : Option (Instr × Nat × Nat × Nat × Nat) := ((m_t k).find? (fun q => q.1 == pc)).map (fun q => q.2)
def mCodes : List Cond := mRecs.map (fun r => Cond.code r.1 r.2.1 r.2.2.1 r.2.2.2.1)
def mSel : List Cond := k2_sels lw_privs
def mWd_0 : List Cond := [(Cond.initialized "MergeQueueLaw"), (Cond.initialized "MergeQueue"), (Cond.initialized "MergeQueue$Changes"), (Cond.initialized "MergeQueue$Row"), (Cond.initialized "MergeQueue$Groups"), (Cond.initialized "java/lang/Math"), (Cond.initialized "MergeQueueModel"), (Cond.initialized "java/lang/System"), (Cond.classLink "MergeQueueLaw" (7 : Nat) "MergeQueue"), (Cond.instantiable "MergeQueue" (10 : Nat)), (Cond.methodLink "MergeQueueLaw" (15 : Nat) ({ cls := "MergeQueue", name := "<init>", desc := "(III)V" } : MethodName)), (Cond.instanceMethod ({ cls := "MergeQueue", name := "<init>", desc := "(III)V" } : MethodName)), (Cond.methodLink "MergeQueue" (1 : Nat) ({ cls := "java/lang/Object", name := "<init>", desc := "()V" } : MethodName)), (Cond.instanceMethod ({ cls := "java/lang/Object", name := "<init>", desc := "()V" } : MethodName)), (Cond.code ({ cls := "java/lang/Object", name := "<init>", desc := "()V" } : MethodName) object_method_1_code (1 : Nat) (Option.none : Option FieldType)), (Cond.classLink "MergeQueue" (7 : Nat) "MergeQueue$Changes"), (Cond.instantiable "MergeQueue$Changes" (8 : Nat)), (Cond.instanceMethod ({ cls := "MergeQueue$Changes", name := "<init>", desc := "()V" } : MethodName)), (Cond.methodLink "MergeQueue$Changes" (3 : Nat) ({ cls := "java/lang/Object", name := "<init>", desc := "()V" } : MethodName)), (Cond.classLink "MergeQueue$Changes" (9 : Nat) "MergeQueue$Row"), (Cond.instantiable "MergeQueue$Row" (2 : Nat)), (Cond.instanceMethod ({ cls := "MergeQueue$Row", name := "<init>", desc := "()V" } : MethodName)), (Cond.methodLink "MergeQueue$Row" (3 : Nat) ({ cls := "java/lang/Object", name := "<init>", desc := "()V" } : MethodName)), (Cond.fieldLink "MergeQueue$Row" (9 : Nat) "MergeQueue$Row" "items" "[I"), (Cond.fieldLink "MergeQueue$Row" (15 : Nat) "MergeQueue$Row" "count" "I"), (Cond.laysFinal "MergeQueue$Row" "MergeQueue$Row" "items" "[I"), (Cond.lays "MergeQueue$Row" "MergeQueue$Row" "count" "I"), (Cond.arrayClass FieldType.int), (Cond.fieldLink "MergeQueue$Changes" (12 : Nat) "MergeQueue$Changes" "ranks" "LMergeQueue$Row;"), (Cond.fieldLink "MergeQueue$Changes" (18 : Nat) "MergeQueue$Changes" "parts" "LMergeQueue$Row;"), (Cond.fieldLink "MergeQueue$Changes" (21 : Nat) "MergeQueue$Changes" "places" "LMergeQueue$Row;"), (Cond.fieldLink "MergeQueue$Changes" (24 : Nat) "MergeQueue$Changes" "reasons" "LMergeQueue$Row;"), (Cond.fieldLink "MergeQueue$Changes" (27 : Nat) "MergeQueue$Changes" "turns" "LMergeQueue$Row;"), (Cond.fieldLink "MergeQueue$Changes" (30 : Nat) "MergeQueue$Changes" "treeSizes" "LMergeQueue$Row;"), (Cond.fieldLink "MergeQueue$Changes" (33 : Nat) "MergeQueue$Changes" "conflicts" "[J"), (Cond.fieldLink "MergeQueue$Changes" (54 : Nat) "MergeQueue$Changes" "turnsGiven" "I"), (Cond.laysFinal "MergeQueue$Changes" "MergeQueue$Changes" "ranks" "LMergeQueue$Row;"), (Cond.laysFinal "MergeQueue$Changes" "MergeQueue$Changes" "parts" "LMergeQueue$Row;"), (Cond.laysFinal "MergeQueue$Changes" "MergeQueue$Changes" "places" "LMergeQueue$Row;"), (Cond.laysFinal "MergeQueue$Changes" "MergeQueue$Changes" "reasons" "LMergeQueue$Row;"), (Cond.laysFinal "MergeQueue$Changes" "MergeQueue$Changes" "turns" "LMergeQueue$Row;"), (Cond.laysFinal "MergeQueue$Changes" "MergeQueue$Changes" "treeSizes" "LMergeQueue$Row;"), (Cond.laysFinal "MergeQueue$Changes" "MergeQueue$Changes" "conflicts" "[J"), (Cond.lays "MergeQueue$Changes" "MergeQueue$Changes" "turnsGiven" "I"), (Cond.arrayClass FieldType.long), (Cond.classLink "MergeQueue" (16 : Nat) "MergeQueue$Row"), (Cond.classLink "MergeQueue" (26 : Nat) "MergeQueue$Groups"), (Cond.instantiable "MergeQueue$Groups" (5 : Nat)), (Cond.instanceMethod ({ cls := "MergeQueue$Groups", name := "<init>", desc := "()V" } : MethodName)), (Cond.methodLink "MergeQueue$Groups" (3 : Nat) ({ cls := "java/lang/Object", name := "<init>", desc := "()V" } : MethodName)), (Cond.classLink "MergeQueue$Groups" (9 : Nat) "MergeQueue$Row"), (Cond.fieldLink "MergeQueue$Groups" (12 : Nat) "MergeQueue$Groups" "line" "LMergeQueue$Row;"), (Cond.fieldLink "MergeQueue$Groups" (18 : Nat) "MergeQueue$Groups" "sizes" "LMergeQueue$Row;"), (Cond.fieldLink "MergeQueue$Groups" (21 : Nat) "MergeQueue$Groups" "states" "LMergeQueue$Row;"), (Cond.fieldLink "MergeQueue$Groups" (24 : Nat) "MergeQueue$Groups" "failures" "LMergeQueue$Row;"), (Cond.fieldLink "MergeQueue$Groups" (46 : Nat) "MergeQueue$Groups" "askedInVain" "I"), (Cond.laysFinal "MergeQueue$Groups" "MergeQueue$Groups" "line" "LMergeQueue$Row;"), (Cond.laysFinal "MergeQueue$Groups" "MergeQueue$Groups" "sizes" "LMergeQueue$Row;"), (Cond.laysFinal "MergeQueue$Groups" "MergeQueue$Groups" "states" "LMergeQueue$Row;"), (Cond.laysFinal "MergeQueue$Groups" "MergeQueue$Groups" "failures" "LMergeQueue$Row;")]
def mWd_1 : List Cond := [(Cond.lays "MergeQueue$Groups" "MergeQueue$Groups" "askedInVain" "I"), (Cond.methodLink "MergeQueue" (33 : Nat) ({ cls := "MergeQueue", name := "nearest", desc := "(II)I" } : MethodName)), (Cond.static ({ cls := "MergeQueue", name := "nearest", desc := "(II)I" } : MethodName)), (Cond.methodLink "MergeQueue" (47 : Nat) ({ cls := "java/lang/Math", name := "min", desc := "(II)I" } : MethodName)), (Cond.static ({ cls := "java/lang/Math", name := "min", desc := "(II)I" } : MethodName)), (Cond.code ({ cls := "java/lang/Math", name := "min", desc := "(II)I" } : MethodName) prog_7_method_69_code (2 : Nat) (Option.some FieldType.int)), (Cond.methodLink "MergeQueue" (52 : Nat) ({ cls := "java/lang/Math", name := "max", desc := "(II)I" } : MethodName)), (Cond.static ({ cls := "java/lang/Math", name := "max", desc := "(II)I" } : MethodName)), (Cond.code ({ cls := "java/lang/Math", name := "max", desc := "(II)I" } : MethodName) prog_7_method_65_code (2 : Nat) (Option.some FieldType.int)), (Cond.fieldLink "MergeQueue" (37 : Nat) "MergeQueue" "most" "I"), (Cond.fieldLink "MergeQueue" (41 : Nat) "MergeQueue" "width" "I"), (Cond.fieldLink "MergeQueue" (44 : Nat) "MergeQueue" "again" "I"), (Cond.fieldLink "MergeQueue" (10 : Nat) "MergeQueue" "changes" "LMergeQueue$Changes;"), (Cond.fieldLink "MergeQueue" (19 : Nat) "MergeQueue" "queue" "LMergeQueue$Row;"), (Cond.fieldLink "MergeQueue" (23 : Nat) "MergeQueue" "tree" "LMergeQueue$Row;"), (Cond.fieldLink "MergeQueue" (29 : Nat) "MergeQueue" "formed" "LMergeQueue$Groups;"), (Cond.fieldLink "MergeQueue" (100 : Nat) "MergeQueue" "paused" "Z"), (Cond.fieldLink "MergeQueue" (120 : Nat) "MergeQueue" "answers" "I"), (Cond.fieldLink "MergeQueue" (154 : Nat) "MergeQueue" "halvings" "I"), (Cond.laysFinal "MergeQueue" "MergeQueue" "most" "I"), (Cond.laysFinal "MergeQueue" "MergeQueue" "width" "I"), (Cond.laysFinal "MergeQueue" "MergeQueue" "again" "I"), (Cond.laysFinal "MergeQueue" "MergeQueue" "changes" "LMergeQueue$Changes;"), (Cond.laysFinal "MergeQueue" "MergeQueue" "queue" "LMergeQueue$Row;"), (Cond.laysFinal "MergeQueue" "MergeQueue" "tree" "LMergeQueue$Row;"), (Cond.laysFinal "MergeQueue" "MergeQueue" "formed" "LMergeQueue$Groups;"), (Cond.lays "MergeQueue" "MergeQueue" "paused" "Z"), (Cond.lays "MergeQueue" "MergeQueue" "answers" "I"), (Cond.lays "MergeQueue" "MergeQueue" "halvings" "I"), (Cond.methodLink "MergeQueueLaw" (21 : Nat) ({ cls := "MergeQueue", name := "change", desc := "(II)I" } : MethodName)), (Cond.instanceMethod ({ cls := "MergeQueue", name := "change", desc := "(II)I" } : MethodName)), (Cond.selects "MergeQueue" ({ cls := "MergeQueue", name := "change", desc := "(II)I" } : MethodName) ({ cls := "MergeQueue", name := "change", desc := "(II)I" } : MethodName)), (Cond.methodLink "MergeQueue" (55 : Nat) ({ cls := "MergeQueue$Changes", name := "count", desc := "()I" } : MethodName)), (Cond.instanceMethod ({ cls := "MergeQueue$Changes", name := "count", desc := "()I" } : MethodName)), (Cond.selects "MergeQueue$Changes" ({ cls := "MergeQueue$Changes", name := "count", desc := "()I" } : MethodName) ({ cls := "MergeQueue$Changes", name := "count", desc := "()I" } : MethodName)), (Cond.methodLink "MergeQueue$Changes" (37 : Nat) ({ cls := "MergeQueue$Row", name := "count", desc := "()I" } : MethodName)), (Cond.instanceMethod ({ cls := "MergeQueue$Row", name := "count", desc := "()I" } : MethodName)), (Cond.selects "MergeQueue$Row" ({ cls := "MergeQueue$Row", name := "count", desc := "()I" } : MethodName) ({ cls := "MergeQueue$Row", name := "count", desc := "()I" } : MethodName)), (Cond.methodLink "MergeQueue" (59 : Nat) ({ cls := "MergeQueue$Changes", name := "add", desc := "(II)I" } : MethodName)), (Cond.instanceMethod ({ cls := "MergeQueue$Changes", name := "add", desc := "(II)I" } : MethodName)), (Cond.selects "MergeQueue$Changes" ({ cls := "MergeQueue$Changes", name := "add", desc := "(II)I" } : MethodName) ({ cls := "MergeQueue$Changes", name := "add", desc := "(II)I" } : MethodName)), (Cond.methodLink "MergeQueue$Changes" (41 : Nat) ({ cls := "MergeQueue$Changes", name := "count", desc := "()I" } : MethodName)), (Cond.methodLink "MergeQueue$Changes" (42 : Nat) ({ cls := "MergeQueue$Row", name := "append", desc := "(I)V" } : MethodName)), (Cond.instanceMethod ({ cls := "MergeQueue$Row", name := "append", desc := "(I)V" } : MethodName)), (Cond.selects "MergeQueue$Row" ({ cls := "MergeQueue$Row", name := "append", desc := "(I)V" } : MethodName) ({ cls := "MergeQueue$Row", name := "append", desc := "(I)V" } : MethodName)), (Cond.methodLink "MergeQueue$Row" (27 : Nat) ({ cls := "MergeQueue$Row", name := "insert", desc := "(II)V" } : MethodName)), (Cond.instanceMethod ({ cls := "MergeQueue$Row", name := "insert", desc := "(II)V" } : MethodName)), (Cond.selects "MergeQueue$Row" ({ cls := "MergeQueue$Row", name := "insert", desc := "(II)V" } : MethodName) ({ cls := "MergeQueue$Row", name := "insert", desc := "(II)V" } : MethodName)), (Cond.methodLink "MergeQueue$Row" (31 : Nat) ({ cls := "java/lang/System", name := "arraycopy", desc := "(Ljava/lang/Object;ILjava/lang/Object;II)V" } : MethodName)), (Cond.static ({ cls := "java/lang/System", name := "arraycopy", desc := "(Ljava/lang/Object;ILjava/lang/Object;II)V" } : MethodName)), (Cond.native ({ cls := "java/lang/System", name := "arraycopy", desc := "(Ljava/lang/Object;ILjava/lang/Object;II)V" } : MethodName)), (Cond.methodLink "MergeQueue" (62 : Nat) ({ cls := "MergeQueue", name := "enqueue", desc := "(I)V" } : MethodName)), (Cond.instanceMethod ({ cls := "MergeQueue", name := "enqueue", desc := "(I)V" } : MethodName)), (Cond.methodLink "MergeQueue" (163 : Nat) ({ cls := "MergeQueue$Row", name := "count", desc := "()I" } : MethodName)), (Cond.methodLink "MergeQueue" (142 : Nat) ({ cls := "MergeQueue$Row", name := "at", desc := "(I)I" } : MethodName)), (Cond.instanceMethod ({ cls := "MergeQueue$Row", name := "at", desc := "(I)I" } : MethodName)), (Cond.selects "MergeQueue$Row" ({ cls := "MergeQueue$Row", name := "at", desc := "(I)I" } : MethodName) ({ cls := "MergeQueue$Row", name := "at", desc := "(I)I" } : MethodName)), (Cond.methodLink "MergeQueue$Row" (19 : Nat) ({ cls := "MergeQueue$Row", name := "has", desc := "(I)Z" } : MethodName)), (Cond.instanceMethod ({ cls := "MergeQueue$Row", name := "has", desc := "(I)Z" } : MethodName)), (Cond.selects "MergeQueue$Row" ({ cls := "MergeQueue$Row", name := "has", desc := "(I)Z" } : MethodName) ({ cls := "MergeQueue$Row", name := "has", desc := "(I)Z" } : MethodName))]
def mWd_2 : List Cond := [(Cond.methodLink "MergeQueue" (164 : Nat) ({ cls := "MergeQueue$Changes", name := "isInFront", desc := "(II)Z" } : MethodName)), (Cond.instanceMethod ({ cls := "MergeQueue$Changes", name := "isInFront", desc := "(II)Z" } : MethodName)), (Cond.selects "MergeQueue$Changes" ({ cls := "MergeQueue$Changes", name := "isInFront", desc := "(II)Z" } : MethodName) ({ cls := "MergeQueue$Changes", name := "isInFront", desc := "(II)Z" } : MethodName)), (Cond.methodLink "MergeQueue$Changes" (46 : Nat) ({ cls := "MergeQueue$Row", name := "at", desc := "(I)I" } : MethodName)), (Cond.methodLink "MergeQueue" (167 : Nat) ({ cls := "MergeQueue$Row", name := "insert", desc := "(II)V" } : MethodName)), (Cond.methodLink "MergeQueueLaw" (26 : Nat) ({ cls := "MergeQueue", name := "conflict", desc := "(II)I" } : MethodName)), (Cond.instanceMethod ({ cls := "MergeQueue", name := "conflict", desc := "(II)I" } : MethodName)), (Cond.selects "MergeQueue" ({ cls := "MergeQueue", name := "conflict", desc := "(II)I" } : MethodName) ({ cls := "MergeQueue", name := "conflict", desc := "(II)I" } : MethodName)), (Cond.methodLink "MergeQueue" (66 : Nat) ({ cls := "MergeQueue", name := "mayConflict", desc := "(II)Z" } : MethodName)), (Cond.instanceMethod ({ cls := "MergeQueue", name := "mayConflict", desc := "(II)Z" } : MethodName)), (Cond.methodLink "MergeQueue" (80 : Nat) ({ cls := "MergeQueue$Changes", name := "placeOf", desc := "(I)I" } : MethodName)), (Cond.instanceMethod ({ cls := "MergeQueue$Changes", name := "placeOf", desc := "(I)I" } : MethodName)), (Cond.selects "MergeQueue$Changes" ({ cls := "MergeQueue$Changes", name := "placeOf", desc := "(I)I" } : MethodName) ({ cls := "MergeQueue$Changes", name := "placeOf", desc := "(I)I" } : MethodName)), (Cond.methodLink "MergeQueue" (70 : Nat) ({ cls := "MergeQueue$Changes", name := "areInConflict", desc := "(II)Z" } : MethodName)), (Cond.instanceMethod ({ cls := "MergeQueue$Changes", name := "areInConflict", desc := "(II)Z" } : MethodName)), (Cond.selects "MergeQueue$Changes" ({ cls := "MergeQueue$Changes", name := "areInConflict", desc := "(II)Z" } : MethodName) ({ cls := "MergeQueue$Changes", name := "areInConflict", desc := "(II)Z" } : MethodName)), (Cond.methodLink "MergeQueue$Changes" (58 : Nat) ({ cls := "MergeQueue$Changes", name := "isNumber", desc := "(I)Z" } : MethodName)), (Cond.instanceMethod ({ cls := "MergeQueue$Changes", name := "isNumber", desc := "(I)Z" } : MethodName)), (Cond.methodLink "MergeQueue" (73 : Nat) ({ cls := "MergeQueue$Changes", name := "putInConflict", desc := "(II)V" } : MethodName)), (Cond.instanceMethod ({ cls := "MergeQueue$Changes", name := "putInConflict", desc := "(II)V" } : MethodName)), (Cond.selects "MergeQueue$Changes" ({ cls := "MergeQueue$Changes", name := "putInConflict", desc := "(II)V" } : MethodName) ({ cls := "MergeQueue$Changes", name := "putInConflict", desc := "(II)V" } : MethodName)), (Cond.methodLink "MergeQueue" (77 : Nat) ({ cls := "MergeQueue", name := "sendOutClashing", desc := "()V" } : MethodName)), (Cond.instanceMethod ({ cls := "MergeQueue", name := "sendOutClashing", desc := "()V" } : MethodName)), (Cond.methodLink "MergeQueue" (151 : Nat) ({ cls := "MergeQueue", name := "firstClashInTree", desc := "(I)I" } : MethodName)), (Cond.instanceMethod ({ cls := "MergeQueue", name := "firstClashInTree", desc := "(I)I" } : MethodName)), (Cond.methodLink "MergeQueue" (173 : Nat) ({ cls := "MergeQueue$Row", name := "removeAt", desc := "(I)V" } : MethodName)), (Cond.instanceMethod ({ cls := "MergeQueue$Row", name := "removeAt", desc := "(I)V" } : MethodName)), (Cond.selects "MergeQueue$Row" ({ cls := "MergeQueue$Row", name := "removeAt", desc := "(I)V" } : MethodName) ({ cls := "MergeQueue$Row", name := "removeAt", desc := "(I)V" } : MethodName)), (Cond.methodLink "MergeQueue" (97 : Nat) ({ cls := "MergeQueue$Changes", name := "putOut", desc := "(II)V" } : MethodName)), (Cond.instanceMethod ({ cls := "MergeQueue$Changes", name := "putOut", desc := "(II)V" } : MethodName)), (Cond.selects "MergeQueue$Changes" ({ cls := "MergeQueue$Changes", name := "putOut", desc := "(II)V" } : MethodName) ({ cls := "MergeQueue$Changes", name := "putOut", desc := "(II)V" } : MethodName)), (Cond.methodLink "MergeQueue$Changes" (50 : Nat) ({ cls := "MergeQueue$Row", name := "put", desc := "(II)V" } : MethodName)), (Cond.instanceMethod ({ cls := "MergeQueue$Row", name := "put", desc := "(II)V" } : MethodName)), (Cond.selects "MergeQueue$Row" ({ cls := "MergeQueue$Row", name := "put", desc := "(II)V" } : MethodName) ({ cls := "MergeQueue$Row", name := "put", desc := "(II)V" } : MethodName)), (Cond.methodLink "MergeQueueLaw" (30 : Nat) ({ cls := "MergeQueue", name := "jump", desc := "(I)Z" } : MethodName)), (Cond.instanceMethod ({ cls := "MergeQueue", name := "jump", desc := "(I)Z" } : MethodName)), (Cond.selects "MergeQueue" ({ cls := "MergeQueue", name := "jump", desc := "(I)Z" } : MethodName) ({ cls := "MergeQueue", name := "jump", desc := "(I)Z" } : MethodName)), (Cond.methodLink "MergeQueue" (84 : Nat) ({ cls := "MergeQueue$Changes", name := "hasJumped", desc := "(I)Z" } : MethodName)), (Cond.instanceMethod ({ cls := "MergeQueue$Changes", name := "hasJumped", desc := "(I)Z" } : MethodName)), (Cond.selects "MergeQueue$Changes" ({ cls := "MergeQueue$Changes", name := "hasJumped", desc := "(I)Z" } : MethodName) ({ cls := "MergeQueue$Changes", name := "hasJumped", desc := "(I)Z" } : MethodName)), (Cond.methodLink "MergeQueue" (88 : Nat) ({ cls := "MergeQueue", name := "dequeue", desc := "(I)V" } : MethodName)), (Cond.instanceMethod ({ cls := "MergeQueue", name := "dequeue", desc := "(I)V" } : MethodName)), (Cond.methodLink "MergeQueue" (170 : Nat) ({ cls := "MergeQueue$Row", name := "find", desc := "(I)I" } : MethodName)), (Cond.instanceMethod ({ cls := "MergeQueue$Row", name := "find", desc := "(I)I" } : MethodName)), (Cond.selects "MergeQueue$Row" ({ cls := "MergeQueue$Row", name := "find", desc := "(I)I" } : MethodName) ({ cls := "MergeQueue$Row", name := "find", desc := "(I)I" } : MethodName)), (Cond.methodLink "MergeQueue$Row" (23 : Nat) ({ cls := "MergeQueue$Row", name := "at", desc := "(I)I" } : MethodName)), (Cond.methodLink "MergeQueue" (91 : Nat) ({ cls := "MergeQueue$Changes", name := "giveTurn", desc := "(I)V" } : MethodName)), (Cond.instanceMethod ({ cls := "MergeQueue$Changes", name := "giveTurn", desc := "(I)V" } : MethodName)), (Cond.selects "MergeQueue$Changes" ({ cls := "MergeQueue$Changes", name := "giveTurn", desc := "(I)V" } : MethodName) ({ cls := "MergeQueue$Changes", name := "giveTurn", desc := "(I)V" } : MethodName)), (Cond.methodLink "MergeQueueLaw" (35 : Nat) ({ cls := "MergeQueue", name := "leave", desc := "(I)Z" } : MethodName)), (Cond.instanceMethod ({ cls := "MergeQueue", name := "leave", desc := "(I)Z" } : MethodName)), (Cond.selects "MergeQueue" ({ cls := "MergeQueue", name := "leave", desc := "(I)Z" } : MethodName) ({ cls := "MergeQueue", name := "leave", desc := "(I)Z" } : MethodName)), (Cond.methodLink "MergeQueue" (94 : Nat) ({ cls := "MergeQueue$Groups", name := "takeOut", desc := "(I)V" } : MethodName)), (Cond.instanceMethod ({ cls := "MergeQueue$Groups", name := "takeOut", desc := "(I)V" } : MethodName)), (Cond.selects "MergeQueue$Groups" ({ cls := "MergeQueue$Groups", name := "takeOut", desc := "(I)V" } : MethodName) ({ cls := "MergeQueue$Groups", name := "takeOut", desc := "(I)V" } : MethodName)), (Cond.methodLink "MergeQueue$Groups" (67 : Nat) ({ cls := "MergeQueue$Row", name := "find", desc := "(I)I" } : MethodName)), (Cond.methodLink "MergeQueue$Groups" (70 : Nat) ({ cls := "MergeQueue$Groups", name := "groupOfLine", desc := "(I)I" } : MethodName)), (Cond.instanceMethod ({ cls := "MergeQueue$Groups", name := "groupOfLine", desc := "(I)I" } : MethodName)), (Cond.methodLink "MergeQueue$Groups" (50 : Nat) ({ cls := "MergeQueue$Groups", name := "count", desc := "()I" } : MethodName)), (Cond.instanceMethod ({ cls := "MergeQueue$Groups", name := "count", desc := "()I" } : MethodName))]
def mWd_3 : List Cond := [(Cond.selects "MergeQueue$Groups" ({ cls := "MergeQueue$Groups", name := "count", desc := "()I" } : MethodName) ({ cls := "MergeQueue$Groups", name := "count", desc := "()I" } : MethodName)), (Cond.methodLink "MergeQueue$Groups" (27 : Nat) ({ cls := "MergeQueue$Row", name := "count", desc := "()I" } : MethodName)), (Cond.methodLink "MergeQueue$Groups" (31 : Nat) ({ cls := "MergeQueue$Row", name := "at", desc := "(I)I" } : MethodName)), (Cond.methodLink "MergeQueue$Groups" (64 : Nat) ({ cls := "MergeQueue$Groups", name := "beginAnewFrom", desc := "(I)V" } : MethodName)), (Cond.instanceMethod ({ cls := "MergeQueue$Groups", name := "beginAnewFrom", desc := "(I)V" } : MethodName)), (Cond.methodLink "MergeQueue$Groups" (35 : Nat) ({ cls := "MergeQueue$Row", name := "put", desc := "(II)V" } : MethodName)), (Cond.methodLink "MergeQueue$Groups" (58 : Nat) ({ cls := "MergeQueue$Row", name := "removeAt", desc := "(I)V" } : MethodName)), (Cond.methodLink "MergeQueue$Groups" (61 : Nat) ({ cls := "MergeQueue$Groups", name := "removeGroup", desc := "(I)V" } : MethodName)), (Cond.instanceMethod ({ cls := "MergeQueue$Groups", name := "removeGroup", desc := "(I)V" } : MethodName)), (Cond.methodLink "MergeQueueLaw" (39 : Nat) ({ cls := "MergeQueue", name := "pause", desc := "(Z)Z" } : MethodName)), (Cond.instanceMethod ({ cls := "MergeQueue", name := "pause", desc := "(Z)Z" } : MethodName)), (Cond.selects "MergeQueue" ({ cls := "MergeQueue", name := "pause", desc := "(Z)Z" } : MethodName) ({ cls := "MergeQueue", name := "pause", desc := "(Z)Z" } : MethodName)), (Cond.methodLink "MergeQueueLaw" (44 : Nat) ({ cls := "MergeQueue", name := "step", desc := "()I" } : MethodName)), (Cond.instanceMethod ({ cls := "MergeQueue", name := "step", desc := "()I" } : MethodName)), (Cond.selects "MergeQueue" ({ cls := "MergeQueue", name := "step", desc := "()I" } : MethodName) ({ cls := "MergeQueue", name := "step", desc := "()I" } : MethodName)), (Cond.methodLink "MergeQueue" (104 : Nat) ({ cls := "MergeQueue$Groups", name := "stateOf", desc := "(I)I" } : MethodName)), (Cond.instanceMethod ({ cls := "MergeQueue$Groups", name := "stateOf", desc := "(I)I" } : MethodName)), (Cond.selects "MergeQueue$Groups" ({ cls := "MergeQueue$Groups", name := "stateOf", desc := "(I)I" } : MethodName) ({ cls := "MergeQueue$Groups", name := "stateOf", desc := "(I)I" } : MethodName)), (Cond.methodLink "MergeQueue" (107 : Nat) ({ cls := "MergeQueue", name := "land", desc := "()V" } : MethodName)), (Cond.instanceMethod ({ cls := "MergeQueue", name := "land", desc := "()V" } : MethodName)), (Cond.methodLink "MergeQueue" (130 : Nat) ({ cls := "MergeQueue$Groups", name := "sizeOf", desc := "(I)I" } : MethodName)), (Cond.instanceMethod ({ cls := "MergeQueue$Groups", name := "sizeOf", desc := "(I)I" } : MethodName)), (Cond.selects "MergeQueue$Groups" ({ cls := "MergeQueue$Groups", name := "sizeOf", desc := "(I)I" } : MethodName) ({ cls := "MergeQueue$Groups", name := "sizeOf", desc := "(I)I" } : MethodName)), (Cond.methodLink "MergeQueue" (139 : Nat) ({ cls := "MergeQueue$Groups", name := "memberAt", desc := "(II)I" } : MethodName)), (Cond.instanceMethod ({ cls := "MergeQueue$Groups", name := "memberAt", desc := "(II)I" } : MethodName)), (Cond.selects "MergeQueue$Groups" ({ cls := "MergeQueue$Groups", name := "memberAt", desc := "(II)I" } : MethodName) ({ cls := "MergeQueue$Groups", name := "memberAt", desc := "(II)I" } : MethodName)), (Cond.methodLink "MergeQueue$Groups" (43 : Nat) ({ cls := "MergeQueue$Groups", name := "baseOf", desc := "(I)I" } : MethodName)), (Cond.instanceMethod ({ cls := "MergeQueue$Groups", name := "baseOf", desc := "(I)I" } : MethodName)), (Cond.selects "MergeQueue$Groups" ({ cls := "MergeQueue$Groups", name := "baseOf", desc := "(I)I" } : MethodName) ({ cls := "MergeQueue$Groups", name := "baseOf", desc := "(I)I" } : MethodName)), (Cond.methodLink "MergeQueue$Groups" (39 : Nat) ({ cls := "MergeQueue$Row", name := "has", desc := "(I)Z" } : MethodName)), (Cond.methodLink "MergeQueue" (176 : Nat) ({ cls := "MergeQueue$Changes", name := "putPlace", desc := "(II)V" } : MethodName)), (Cond.instanceMethod ({ cls := "MergeQueue$Changes", name := "putPlace", desc := "(II)V" } : MethodName)), (Cond.selects "MergeQueue$Changes" ({ cls := "MergeQueue$Changes", name := "putPlace", desc := "(II)V" } : MethodName) ({ cls := "MergeQueue$Changes", name := "putPlace", desc := "(II)V" } : MethodName)), (Cond.methodLink "MergeQueue" (179 : Nat) ({ cls := "MergeQueue$Row", name := "append", desc := "(I)V" } : MethodName)), (Cond.methodLink "MergeQueue" (182 : Nat) ({ cls := "MergeQueue$Groups", name := "removeFirst", desc := "()V" } : MethodName)), (Cond.instanceMethod ({ cls := "MergeQueue$Groups", name := "removeFirst", desc := "()V" } : MethodName)), (Cond.selects "MergeQueue$Groups" ({ cls := "MergeQueue$Groups", name := "removeFirst", desc := "()V" } : MethodName) ({ cls := "MergeQueue$Groups", name := "removeFirst", desc := "()V" } : MethodName)), (Cond.methodLink "MergeQueue" (110 : Nat) ({ cls := "MergeQueue", name := "halve", desc := "()V" } : MethodName)), (Cond.instanceMethod ({ cls := "MergeQueue", name := "halve", desc := "()V" } : MethodName)), (Cond.methodLink "MergeQueue" (185 : Nat) ({ cls := "MergeQueue$Groups", name := "splitFirst", desc := "()V" } : MethodName)), (Cond.instanceMethod ({ cls := "MergeQueue$Groups", name := "splitFirst", desc := "()V" } : MethodName)), (Cond.selects "MergeQueue$Groups" ({ cls := "MergeQueue$Groups", name := "splitFirst", desc := "()V" } : MethodName) ({ cls := "MergeQueue$Groups", name := "splitFirst", desc := "()V" } : MethodName)), (Cond.methodLink "MergeQueue$Groups" (55 : Nat) ({ cls := "MergeQueue$Groups", name := "insertGroup", desc := "(II)V" } : MethodName)), (Cond.instanceMethod ({ cls := "MergeQueue$Groups", name := "insertGroup", desc := "(II)V" } : MethodName)), (Cond.methodLink "MergeQueue$Groups" (73 : Nat) ({ cls := "MergeQueue$Row", name := "insert", desc := "(II)V" } : MethodName)), (Cond.methodLink "MergeQueue" (188 : Nat) ({ cls := "MergeQueue$Changes", name := "putTreeSize", desc := "(II)V" } : MethodName)), (Cond.instanceMethod ({ cls := "MergeQueue$Changes", name := "putTreeSize", desc := "(II)V" } : MethodName)), (Cond.selects "MergeQueue$Changes" ({ cls := "MergeQueue$Changes", name := "putTreeSize", desc := "(II)V" } : MethodName) ({ cls := "MergeQueue$Changes", name := "putTreeSize", desc := "(II)V" } : MethodName)), (Cond.methodLink "MergeQueue" (113 : Nat) ({ cls := "MergeQueue", name := "askNext", desc := "()Z" } : MethodName)), (Cond.instanceMethod ({ cls := "MergeQueue", name := "askNext", desc := "()Z" } : MethodName)), (Cond.methodLink "MergeQueue" (191 : Nat) ({ cls := "MergeQueue$Groups", name := "nextToAsk", desc := "()I" } : MethodName)), (Cond.instanceMethod ({ cls := "MergeQueue$Groups", name := "nextToAsk", desc := "()I" } : MethodName)), (Cond.selects "MergeQueue$Groups" ({ cls := "MergeQueue$Groups", name := "nextToAsk", desc := "()I" } : MethodName) ({ cls := "MergeQueue$Groups", name := "nextToAsk", desc := "()I" } : MethodName)), (Cond.methodLink "MergeQueue" (194 : Nat) ({ cls := "MergeQueue$Groups", name := "countAsked", desc := "()I" } : MethodName)), (Cond.instanceMethod ({ cls := "MergeQueue$Groups", name := "countAsked", desc := "()I" } : MethodName)), (Cond.selects "MergeQueue$Groups" ({ cls := "MergeQueue$Groups", name := "countAsked", desc := "()I" } : MethodName) ({ cls := "MergeQueue$Groups", name := "countAsked", desc := "()I" } : MethodName)), (Cond.methodLink "MergeQueue" (123 : Nat) ({ cls := "MergeQueue$Groups", name := "putState", desc := "(II)V" } : MethodName)), (Cond.instanceMethod ({ cls := "MergeQueue$Groups", name := "putState", desc := "(II)V" } : MethodName)), (Cond.selects "MergeQueue$Groups" ({ cls := "MergeQueue$Groups", name := "putState", desc := "(II)V" } : MethodName) ({ cls := "MergeQueue$Groups", name := "putState", desc := "(II)V" } : MethodName)), (Cond.methodLink "MergeQueue" (117 : Nat) ({ cls := "MergeQueue", name := "formNext", desc := "()Z" } : MethodName))]
def mWd_4 : List Cond := [(Cond.instanceMethod ({ cls := "MergeQueue", name := "formNext", desc := "()Z" } : MethodName)), (Cond.methodLink "MergeQueue" (129 : Nat) ({ cls := "MergeQueue$Groups", name := "count", desc := "()I" } : MethodName)), (Cond.methodLink "MergeQueue" (197 : Nat) ({ cls := "MergeQueue", name := "clashesWithGroups", desc := "(I)Z" } : MethodName)), (Cond.instanceMethod ({ cls := "MergeQueue", name := "clashesWithGroups", desc := "(I)Z" } : MethodName)), (Cond.methodLink "MergeQueue" (209 : Nat) ({ cls := "MergeQueue$Groups", name := "lineLength", desc := "()I" } : MethodName)), (Cond.instanceMethod ({ cls := "MergeQueue$Groups", name := "lineLength", desc := "()I" } : MethodName)), (Cond.selects "MergeQueue$Groups" ({ cls := "MergeQueue$Groups", name := "lineLength", desc := "()I" } : MethodName) ({ cls := "MergeQueue$Groups", name := "lineLength", desc := "()I" } : MethodName)), (Cond.methodLink "MergeQueue" (212 : Nat) ({ cls := "MergeQueue$Groups", name := "inLine", desc := "(I)I" } : MethodName)), (Cond.instanceMethod ({ cls := "MergeQueue$Groups", name := "inLine", desc := "(I)I" } : MethodName)), (Cond.selects "MergeQueue$Groups" ({ cls := "MergeQueue$Groups", name := "inLine", desc := "(I)I" } : MethodName) ({ cls := "MergeQueue$Groups", name := "inLine", desc := "(I)I" } : MethodName)), (Cond.methodLink "MergeQueue" (200 : Nat) ({ cls := "MergeQueue$Groups", name := "appendToLine", desc := "(I)V" } : MethodName)), (Cond.instanceMethod ({ cls := "MergeQueue$Groups", name := "appendToLine", desc := "(I)V" } : MethodName)), (Cond.selects "MergeQueue$Groups" ({ cls := "MergeQueue$Groups", name := "appendToLine", desc := "(I)V" } : MethodName) ({ cls := "MergeQueue$Groups", name := "appendToLine", desc := "(I)V" } : MethodName)), (Cond.methodLink "MergeQueue$Groups" (51 : Nat) ({ cls := "MergeQueue$Row", name := "append", desc := "(I)V" } : MethodName)), (Cond.methodLink "MergeQueue" (203 : Nat) ({ cls := "MergeQueue$Groups", name := "closeLast", desc := "(I)V" } : MethodName)), (Cond.instanceMethod ({ cls := "MergeQueue$Groups", name := "closeLast", desc := "(I)V" } : MethodName)), (Cond.selects "MergeQueue$Groups" ({ cls := "MergeQueue$Groups", name := "closeLast", desc := "(I)V" } : MethodName) ({ cls := "MergeQueue$Groups", name := "closeLast", desc := "(I)V" } : MethodName)), (Cond.methodLink "MergeQueue" (206 : Nat) ({ cls := "MergeQueue", name := "dropGroupedFromQueue", desc := "()V" } : MethodName)), (Cond.instanceMethod ({ cls := "MergeQueue", name := "dropGroupedFromQueue", desc := "()V" } : MethodName)), (Cond.methodLink "MergeQueueLaw" (49 : Nat) ({ cls := "MergeQueue", name := "answer", desc := "(IZ)I" } : MethodName)), (Cond.instanceMethod ({ cls := "MergeQueue", name := "answer", desc := "(IZ)I" } : MethodName)), (Cond.selects "MergeQueue" ({ cls := "MergeQueue", name := "answer", desc := "(IZ)I" } : MethodName) ({ cls := "MergeQueue", name := "answer", desc := "(IZ)I" } : MethodName)), (Cond.methodLink "MergeQueue" (126 : Nat) ({ cls := "MergeQueue$Groups", name := "addFailure", desc := "(II)V" } : MethodName)), (Cond.instanceMethod ({ cls := "MergeQueue$Groups", name := "addFailure", desc := "(II)V" } : MethodName)), (Cond.selects "MergeQueue$Groups" ({ cls := "MergeQueue$Groups", name := "addFailure", desc := "(II)V" } : MethodName) ({ cls := "MergeQueue$Groups", name := "addFailure", desc := "(II)V" } : MethodName)), (Cond.methodLink "MergeQueueLaw" (54 : Nat) ({ cls := "MergeQueue", name := "groups", desc := "()I" } : MethodName)), (Cond.instanceMethod ({ cls := "MergeQueue", name := "groups", desc := "()I" } : MethodName)), (Cond.selects "MergeQueue" ({ cls := "MergeQueue", name := "groups", desc := "()I" } : MethodName) ({ cls := "MergeQueue", name := "groups", desc := "()I" } : MethodName)), (Cond.methodLink "MergeQueueLaw" (58 : Nat) ({ cls := "MergeQueue", name := "group", desc := "(II)I" } : MethodName)), (Cond.instanceMethod ({ cls := "MergeQueue", name := "group", desc := "(II)I" } : MethodName)), (Cond.selects "MergeQueue" ({ cls := "MergeQueue", name := "group", desc := "(II)I" } : MethodName) ({ cls := "MergeQueue", name := "group", desc := "(II)I" } : MethodName)), (Cond.methodLink "MergeQueue" (133 : Nat) ({ cls := "MergeQueue$Groups", name := "failuresOf", desc := "(I)I" } : MethodName)), (Cond.instanceMethod ({ cls := "MergeQueue$Groups", name := "failuresOf", desc := "(I)I" } : MethodName)), (Cond.selects "MergeQueue$Groups" ({ cls := "MergeQueue$Groups", name := "failuresOf", desc := "(I)I" } : MethodName) ({ cls := "MergeQueue$Groups", name := "failuresOf", desc := "(I)I" } : MethodName)), (Cond.methodLink "MergeQueue" (136 : Nat) ({ cls := "MergeQueue$Groups", name := "baseOf", desc := "(I)I" } : MethodName)), (Cond.methodLink "MergeQueueLaw" (62 : Nat) ({ cls := "MergeQueue", name := "member", desc := "(II)I" } : MethodName)), (Cond.instanceMethod ({ cls := "MergeQueue", name := "member", desc := "(II)I" } : MethodName)), (Cond.selects "MergeQueue" ({ cls := "MergeQueue", name := "member", desc := "(II)I" } : MethodName) ({ cls := "MergeQueue", name := "member", desc := "(II)I" } : MethodName)), (Cond.methodLink "MergeQueueLaw" (66 : Nat) ({ cls := "MergeQueue", name := "waiting", desc := "(I)I" } : MethodName)), (Cond.instanceMethod ({ cls := "MergeQueue", name := "waiting", desc := "(I)I" } : MethodName)), (Cond.selects "MergeQueue" ({ cls := "MergeQueue", name := "waiting", desc := "(I)I" } : MethodName) ({ cls := "MergeQueue", name := "waiting", desc := "(I)I" } : MethodName)), (Cond.methodLink "MergeQueueLaw" (71 : Nat) ({ cls := "MergeQueue", name := "landed", desc := "(I)I" } : MethodName)), (Cond.instanceMethod ({ cls := "MergeQueue", name := "landed", desc := "(I)I" } : MethodName)), (Cond.selects "MergeQueue" ({ cls := "MergeQueue", name := "landed", desc := "(I)I" } : MethodName) ({ cls := "MergeQueue", name := "landed", desc := "(I)I" } : MethodName)), (Cond.methodLink "MergeQueueLaw" (75 : Nat) ({ cls := "MergeQueue", name := "where", desc := "(I)I" } : MethodName)), (Cond.instanceMethod ({ cls := "MergeQueue", name := "where", desc := "(I)I" } : MethodName)), (Cond.selects "MergeQueue" ({ cls := "MergeQueue", name := "where", desc := "(I)I" } : MethodName) ({ cls := "MergeQueue", name := "where", desc := "(I)I" } : MethodName)), (Cond.methodLink "MergeQueueLaw" (79 : Nat) ({ cls := "MergeQueue", name := "why", desc := "(I)I" } : MethodName)), (Cond.instanceMethod ({ cls := "MergeQueue", name := "why", desc := "(I)I" } : MethodName)), (Cond.selects "MergeQueue" ({ cls := "MergeQueue", name := "why", desc := "(I)I" } : MethodName) ({ cls := "MergeQueue", name := "why", desc := "(I)I" } : MethodName)), (Cond.methodLink "MergeQueue" (145 : Nat) ({ cls := "MergeQueue$Changes", name := "reasonOf", desc := "(I)I" } : MethodName)), (Cond.instanceMethod ({ cls := "MergeQueue$Changes", name := "reasonOf", desc := "(I)I" } : MethodName)), (Cond.selects "MergeQueue$Changes" ({ cls := "MergeQueue$Changes", name := "reasonOf", desc := "(I)I" } : MethodName) ({ cls := "MergeQueue$Changes", name := "reasonOf", desc := "(I)I" } : MethodName)), (Cond.methodLink "MergeQueueLaw" (83 : Nat) ({ cls := "MergeQueue", name := "by", desc := "(I)I" } : MethodName)), (Cond.instanceMethod ({ cls := "MergeQueue", name := "by", desc := "(I)I" } : MethodName)), (Cond.selects "MergeQueue" ({ cls := "MergeQueue", name := "by", desc := "(I)I" } : MethodName) ({ cls := "MergeQueue", name := "by", desc := "(I)I" } : MethodName)), (Cond.methodLink "MergeQueue" (148 : Nat) ({ cls := "MergeQueue$Changes", name := "treeSizeOf", desc := "(I)I" } : MethodName)), (Cond.instanceMethod ({ cls := "MergeQueue$Changes", name := "treeSizeOf", desc := "(I)I" } : MethodName)), (Cond.selects "MergeQueue$Changes" ({ cls := "MergeQueue$Changes", name := "treeSizeOf", desc := "(I)I" } : MethodName) ({ cls := "MergeQueue$Changes", name := "treeSizeOf", desc := "(I)I" } : MethodName)), (Cond.methodLink "MergeQueueLaw" (87 : Nat) ({ cls := "MergeQueue", name := "counted", desc := "(I)I" } : MethodName))]
def mWd_5 : List Cond := [(Cond.instanceMethod ({ cls := "MergeQueue", name := "counted", desc := "(I)I" } : MethodName)), (Cond.selects "MergeQueue" ({ cls := "MergeQueue", name := "counted", desc := "(I)I" } : MethodName) ({ cls := "MergeQueue", name := "counted", desc := "(I)I" } : MethodName)), (Cond.methodLink "MergeQueue" (157 : Nat) ({ cls := "MergeQueue$Groups", name := "countAskedInVain", desc := "()I" } : MethodName)), (Cond.instanceMethod ({ cls := "MergeQueue$Groups", name := "countAskedInVain", desc := "()I" } : MethodName)), (Cond.selects "MergeQueue$Groups" ({ cls := "MergeQueue$Groups", name := "countAskedInVain", desc := "()I" } : MethodName) ({ cls := "MergeQueue$Groups", name := "countAskedInVain", desc := "()I" } : MethodName)), (Cond.methodLink "MergeQueue" (160 : Nat) ({ cls := "MergeQueue", name := "partsOfTree", desc := "()I" } : MethodName)), (Cond.instanceMethod ({ cls := "MergeQueue", name := "partsOfTree", desc := "()I" } : MethodName)), (Cond.methodLink "MergeQueue" (215 : Nat) ({ cls := "MergeQueue$Changes", name := "partsOf", desc := "(I)I" } : MethodName)), (Cond.instanceMethod ({ cls := "MergeQueue$Changes", name := "partsOf", desc := "(I)I" } : MethodName)), (Cond.selects "MergeQueue$Changes" ({ cls := "MergeQueue$Changes", name := "partsOf", desc := "(I)I" } : MethodName) ({ cls := "MergeQueue$Changes", name := "partsOf", desc := "(I)I" } : MethodName)), (Cond.methodLink "MergeQueueLaw" (9 : Nat) ({ cls := "MergeQueueLaw", name := "cell", desc := "([II)I" } : MethodName)), (Cond.static ({ cls := "MergeQueueLaw", name := "cell", desc := "([II)I" } : MethodName)), (Cond.classLink "MergeQueueLaw" (18 : Nat) "MergeQueueModel"), (Cond.instantiable "MergeQueueModel" (24 : Nat)), (Cond.methodLink "MergeQueueLaw" (20 : Nat) ({ cls := "MergeQueueModel", name := "<init>", desc := "(III)V" } : MethodName)), (Cond.instanceMethod ({ cls := "MergeQueueModel", name := "<init>", desc := "(III)V" } : MethodName)), (Cond.methodLink "MergeQueueModel" (1 : Nat) ({ cls := "java/lang/Object", name := "<init>", desc := "()V" } : MethodName)), (Cond.methodLink "MergeQueueModel" (47 : Nat) ({ cls := "MergeQueueModel", name := "within", desc := "(II)I" } : MethodName)), (Cond.static ({ cls := "MergeQueueModel", name := "within", desc := "(II)I" } : MethodName)), (Cond.fieldLink "MergeQueueModel" (51 : Nat) "MergeQueueModel" "most" "I"), (Cond.fieldLink "MergeQueueModel" (55 : Nat) "MergeQueueModel" "width" "I"), (Cond.fieldLink "MergeQueueModel" (58 : Nat) "MergeQueueModel" "again" "I"), (Cond.fieldLink "MergeQueueModel" (61 : Nat) "MergeQueueModel" "code" "I"), (Cond.fieldLink "MergeQueueModel" (64 : Nat) "MergeQueueModel" "changes" "I"), (Cond.fieldLink "MergeQueueModel" (75 : Nat) "MergeQueueModel" "jumps" "I"), (Cond.fieldLink "MergeQueueModel" (94 : Nat) "MergeQueueModel" "laneSize" "I"), (Cond.fieldLink "MergeQueueModel" (78 : Nat) "MergeQueueModel" "treeSize" "I"), (Cond.fieldLink "MergeQueueModel" (156 : Nat) "MergeQueueModel" "answers" "I"), (Cond.fieldLink "MergeQueueModel" (124 : Nat) "MergeQueueModel" "halvings" "I"), (Cond.fieldLink "MergeQueueModel" (104 : Nat) "MergeQueueModel" "lost" "I"), (Cond.fieldLink "MergeQueueModel" (117 : Nat) "MergeQueueModel" "paused" "Z"), (Cond.fieldLink "MergeQueueModel" (7 : Nat) "MergeQueueModel" "rank" "[I"), (Cond.fieldLink "MergeQueueModel" (13 : Nat) "MergeQueueModel" "parts" "[I"), (Cond.fieldLink "MergeQueueModel" (16 : Nat) "MergeQueueModel" "place" "[I"), (Cond.fieldLink "MergeQueueModel" (19 : Nat) "MergeQueueModel" "jumped" "[I"), (Cond.fieldLink "MergeQueueModel" (22 : Nat) "MergeQueueModel" "why" "[I"), (Cond.fieldLink "MergeQueueModel" (25 : Nat) "MergeQueueModel" "size" "[I"), (Cond.fieldLink "MergeQueueModel" (28 : Nat) "MergeQueueModel" "conflict" "[Z"), (Cond.fieldLink "MergeQueueModel" (32 : Nat) "MergeQueueModel" "lane" "[I"), (Cond.fieldLink "MergeQueueModel" (35 : Nat) "MergeQueueModel" "tree" "[I"), (Cond.fieldLink "MergeQueueModel" (38 : Nat) "MergeQueueModel" "begins" "[Z"), (Cond.fieldLink "MergeQueueModel" (41 : Nat) "MergeQueueModel" "state" "[I"), (Cond.fieldLink "MergeQueueModel" (44 : Nat) "MergeQueueModel" "failures" "[I"), (Cond.laysFinal "MergeQueueModel" "MergeQueueModel" "most" "I"), (Cond.laysFinal "MergeQueueModel" "MergeQueueModel" "width" "I"), (Cond.laysFinal "MergeQueueModel" "MergeQueueModel" "again" "I"), (Cond.lays "MergeQueueModel" "MergeQueueModel" "code" "I"), (Cond.lays "MergeQueueModel" "MergeQueueModel" "changes" "I"), (Cond.lays "MergeQueueModel" "MergeQueueModel" "jumps" "I"), (Cond.lays "MergeQueueModel" "MergeQueueModel" "laneSize" "I"), (Cond.lays "MergeQueueModel" "MergeQueueModel" "treeSize" "I"), (Cond.lays "MergeQueueModel" "MergeQueueModel" "answers" "I"), (Cond.lays "MergeQueueModel" "MergeQueueModel" "halvings" "I"), (Cond.lays "MergeQueueModel" "MergeQueueModel" "lost" "I"), (Cond.lays "MergeQueueModel" "MergeQueueModel" "paused" "Z"), (Cond.laysFinal "MergeQueueModel" "MergeQueueModel" "rank" "[I"), (Cond.laysFinal "MergeQueueModel" "MergeQueueModel" "parts" "[I"), (Cond.laysFinal "MergeQueueModel" "MergeQueueModel" "place" "[I"), (Cond.laysFinal "MergeQueueModel" "MergeQueueModel" "jumped" "[I"), (Cond.laysFinal "MergeQueueModel" "MergeQueueModel" "why" "[I")]
def mWd_6 : List Cond := [(Cond.laysFinal "MergeQueueModel" "MergeQueueModel" "size" "[I"), (Cond.laysFinal "MergeQueueModel" "MergeQueueModel" "conflict" "[Z"), (Cond.laysFinal "MergeQueueModel" "MergeQueueModel" "lane" "[I"), (Cond.laysFinal "MergeQueueModel" "MergeQueueModel" "tree" "[I"), (Cond.laysFinal "MergeQueueModel" "MergeQueueModel" "begins" "[Z"), (Cond.laysFinal "MergeQueueModel" "MergeQueueModel" "state" "[I"), (Cond.laysFinal "MergeQueueModel" "MergeQueueModel" "failures" "[I"), (Cond.arrayClass FieldType.boolean), (Cond.methodLink "MergeQueueLaw" (25 : Nat) ({ cls := "MergeQueueModel", name := "change", desc := "(II)I" } : MethodName)), (Cond.instanceMethod ({ cls := "MergeQueueModel", name := "change", desc := "(II)I" } : MethodName)), (Cond.selects "MergeQueueModel" ({ cls := "MergeQueueModel", name := "change", desc := "(II)I" } : MethodName) ({ cls := "MergeQueueModel", name := "change", desc := "(II)I" } : MethodName)), (Cond.methodLink "MergeQueueLaw" (34 : Nat) ({ cls := "MergeQueueModel", name := "jump", desc := "(I)Z" } : MethodName)), (Cond.instanceMethod ({ cls := "MergeQueueModel", name := "jump", desc := "(I)Z" } : MethodName)), (Cond.selects "MergeQueueModel" ({ cls := "MergeQueueModel", name := "jump", desc := "(I)Z" } : MethodName) ({ cls := "MergeQueueModel", name := "jump", desc := "(I)Z" } : MethodName)), (Cond.methodLink "MergeQueueModel" (71 : Nat) ({ cls := "MergeQueueModel", name := "isChange", desc := "(I)Z" } : MethodName)), (Cond.instanceMethod ({ cls := "MergeQueueModel", name := "isChange", desc := "(I)Z" } : MethodName)), (Cond.methodLink "MergeQueueLaw" (29 : Nat) ({ cls := "MergeQueueModel", name := "conflict", desc := "(II)I" } : MethodName)), (Cond.instanceMethod ({ cls := "MergeQueueModel", name := "conflict", desc := "(II)I" } : MethodName)), (Cond.selects "MergeQueueModel" ({ cls := "MergeQueueModel", name := "conflict", desc := "(II)I" } : MethodName) ({ cls := "MergeQueueModel", name := "conflict", desc := "(II)I" } : MethodName)), (Cond.methodLink "MergeQueueModel" (88 : Nat) ({ cls := "MergeQueueModel", name := "isOpen", desc := "(I)Z" } : MethodName)), (Cond.instanceMethod ({ cls := "MergeQueueModel", name := "isOpen", desc := "(I)Z" } : MethodName)), (Cond.methodLink "MergeQueueModel" (81 : Nat) ({ cls := "MergeQueueModel", name := "isConflict", desc := "(II)Z" } : MethodName)), (Cond.instanceMethod ({ cls := "MergeQueueModel", name := "isConflict", desc := "(II)Z" } : MethodName)), (Cond.methodLink "MergeQueueModel" (91 : Nat) ({ cls := "MergeQueueModel", name := "clear", desc := "()V" } : MethodName)), (Cond.instanceMethod ({ cls := "MergeQueueModel", name := "clear", desc := "()V" } : MethodName)), (Cond.methodLink "MergeQueueModel" (84 : Nat) ({ cls := "MergeQueueModel", name := "inTree", desc := "(I)I" } : MethodName)), (Cond.instanceMethod ({ cls := "MergeQueueModel", name := "inTree", desc := "(I)I" } : MethodName)), (Cond.methodLink "MergeQueueLaw" (38 : Nat) ({ cls := "MergeQueueModel", name := "leave", desc := "(I)Z" } : MethodName)), (Cond.instanceMethod ({ cls := "MergeQueueModel", name := "leave", desc := "(I)Z" } : MethodName)), (Cond.selects "MergeQueueModel" ({ cls := "MergeQueueModel", name := "leave", desc := "(I)Z" } : MethodName) ({ cls := "MergeQueueModel", name := "leave", desc := "(I)Z" } : MethodName)), (Cond.methodLink "MergeQueueModel" (107 : Nat) ({ cls := "MergeQueueModel", name := "inLane", desc := "(I)I" } : MethodName)), (Cond.instanceMethod ({ cls := "MergeQueueModel", name := "inLane", desc := "(I)I" } : MethodName)), (Cond.methodLink "MergeQueueModel" (110 : Nat) ({ cls := "MergeQueueModel", name := "beginAnew", desc := "(I)V" } : MethodName)), (Cond.instanceMethod ({ cls := "MergeQueueModel", name := "beginAnew", desc := "(I)V" } : MethodName)), (Cond.methodLink "MergeQueueModel" (114 : Nat) ({ cls := "MergeQueueModel", name := "goFrom", desc := "(I)V" } : MethodName)), (Cond.instanceMethod ({ cls := "MergeQueueModel", name := "goFrom", desc := "(I)V" } : MethodName)), (Cond.methodLink "MergeQueueLaw" (43 : Nat) ({ cls := "MergeQueueModel", name := "pause", desc := "(Z)Z" } : MethodName)), (Cond.instanceMethod ({ cls := "MergeQueueModel", name := "pause", desc := "(Z)Z" } : MethodName)), (Cond.selects "MergeQueueModel" ({ cls := "MergeQueueModel", name := "pause", desc := "(Z)Z" } : MethodName) ({ cls := "MergeQueueModel", name := "pause", desc := "(Z)Z" } : MethodName)), (Cond.methodLink "MergeQueueLaw" (48 : Nat) ({ cls := "MergeQueueModel", name := "step", desc := "()I" } : MethodName)), (Cond.instanceMethod ({ cls := "MergeQueueModel", name := "step", desc := "()I" } : MethodName)), (Cond.selects "MergeQueueModel" ({ cls := "MergeQueueModel", name := "step", desc := "()I" } : MethodName) ({ cls := "MergeQueueModel", name := "step", desc := "()I" } : MethodName)), (Cond.methodLink "MergeQueueModel" (127 : Nat) ({ cls := "MergeQueueModel", name := "stateOf", desc := "(I)I" } : MethodName)), (Cond.instanceMethod ({ cls := "MergeQueueModel", name := "stateOf", desc := "(I)I" } : MethodName)), (Cond.methodLink "MergeQueueModel" (101 : Nat) ({ cls := "MergeQueueModel", name := "startOf", desc := "(I)I" } : MethodName)), (Cond.instanceMethod ({ cls := "MergeQueueModel", name := "startOf", desc := "(I)I" } : MethodName)), (Cond.methodLink "MergeQueueModel" (140 : Nat) ({ cls := "MergeQueueModel", name := "land", desc := "()V" } : MethodName)), (Cond.instanceMethod ({ cls := "MergeQueueModel", name := "land", desc := "()V" } : MethodName)), (Cond.methodLink "MergeQueueModel" (121 : Nat) ({ cls := "MergeQueueModel", name := "sizeOf", desc := "(I)I" } : MethodName)), (Cond.instanceMethod ({ cls := "MergeQueueModel", name := "sizeOf", desc := "(I)I" } : MethodName)), (Cond.methodLink "MergeQueueModel" (143 : Nat) ({ cls := "MergeQueueModel", name := "halve", desc := "()V" } : MethodName)), (Cond.instanceMethod ({ cls := "MergeQueueModel", name := "halve", desc := "()V" } : MethodName)), (Cond.methodLink "MergeQueueModel" (146 : Nat) ({ cls := "MergeQueueModel", name := "ask", desc := "()Z" } : MethodName)), (Cond.instanceMethod ({ cls := "MergeQueueModel", name := "ask", desc := "()Z" } : MethodName)), (Cond.methodLink "MergeQueueModel" (97 : Nat) ({ cls := "MergeQueueModel", name := "groupMany", desc := "()I" } : MethodName)), (Cond.instanceMethod ({ cls := "MergeQueueModel", name := "groupMany", desc := "()I" } : MethodName)), (Cond.methodLink "MergeQueueModel" (130 : Nat) ({ cls := "MergeQueueModel", name := "setState", desc := "(II)V" } : MethodName)), (Cond.instanceMethod ({ cls := "MergeQueueModel", name := "setState", desc := "(II)V" } : MethodName)), (Cond.methodLink "MergeQueueModel" (150 : Nat) ({ cls := "MergeQueueModel", name := "form", desc := "()Z" } : MethodName)), (Cond.instanceMethod ({ cls := "MergeQueueModel", name := "form", desc := "()Z" } : MethodName))]
def mWd_7 : List Cond := [(Cond.methodLink "MergeQueueModel" (134 : Nat) ({ cls := "MergeQueueModel", name := "waitingAt", desc := "(I)I" } : MethodName)), (Cond.instanceMethod ({ cls := "MergeQueueModel", name := "waitingAt", desc := "(I)I" } : MethodName)), (Cond.methodLink "MergeQueueModel" (67 : Nat) ({ cls := "MergeQueueModel", name := "isBefore", desc := "(II)Z" } : MethodName)), (Cond.instanceMethod ({ cls := "MergeQueueModel", name := "isBefore", desc := "(II)Z" } : MethodName)), (Cond.methodLink "MergeQueueModel" (137 : Nat) ({ cls := "MergeQueueModel", name := "isBarred", desc := "(I)Z" } : MethodName)), (Cond.instanceMethod ({ cls := "MergeQueueModel", name := "isBarred", desc := "(I)Z" } : MethodName)), (Cond.methodLink "MergeQueueLaw" (53 : Nat) ({ cls := "MergeQueueModel", name := "answer", desc := "(IZ)I" } : MethodName)), (Cond.instanceMethod ({ cls := "MergeQueueModel", name := "answer", desc := "(IZ)I" } : MethodName)), (Cond.selects "MergeQueueModel" ({ cls := "MergeQueueModel", name := "answer", desc := "(IZ)I" } : MethodName) ({ cls := "MergeQueueModel", name := "answer", desc := "(IZ)I" } : MethodName)), (Cond.methodLink "MergeQueueModel" (153 : Nat) ({ cls := "MergeQueueModel", name := "isGroup", desc := "(I)Z" } : MethodName)), (Cond.instanceMethod ({ cls := "MergeQueueModel", name := "isGroup", desc := "(I)Z" } : MethodName)), (Cond.methodLink "MergeQueueLaw" (57 : Nat) ({ cls := "MergeQueueModel", name := "groups", desc := "()I" } : MethodName)), (Cond.instanceMethod ({ cls := "MergeQueueModel", name := "groups", desc := "()I" } : MethodName)), (Cond.selects "MergeQueueModel" ({ cls := "MergeQueueModel", name := "groups", desc := "()I" } : MethodName) ({ cls := "MergeQueueModel", name := "groups", desc := "()I" } : MethodName)), (Cond.methodLink "MergeQueueLaw" (61 : Nat) ({ cls := "MergeQueueModel", name := "group", desc := "(II)I" } : MethodName)), (Cond.instanceMethod ({ cls := "MergeQueueModel", name := "group", desc := "(II)I" } : MethodName)), (Cond.selects "MergeQueueModel" ({ cls := "MergeQueueModel", name := "group", desc := "(II)I" } : MethodName) ({ cls := "MergeQueueModel", name := "group", desc := "(II)I" } : MethodName)), (Cond.methodLink "MergeQueueLaw" (65 : Nat) ({ cls := "MergeQueueModel", name := "member", desc := "(II)I" } : MethodName)), (Cond.instanceMethod ({ cls := "MergeQueueModel", name := "member", desc := "(II)I" } : MethodName)), (Cond.selects "MergeQueueModel" ({ cls := "MergeQueueModel", name := "member", desc := "(II)I" } : MethodName) ({ cls := "MergeQueueModel", name := "member", desc := "(II)I" } : MethodName)), (Cond.methodLink "MergeQueueLaw" (70 : Nat) ({ cls := "MergeQueueModel", name := "waiting", desc := "(I)I" } : MethodName)), (Cond.instanceMethod ({ cls := "MergeQueueModel", name := "waiting", desc := "(I)I" } : MethodName)), (Cond.selects "MergeQueueModel" ({ cls := "MergeQueueModel", name := "waiting", desc := "(I)I" } : MethodName) ({ cls := "MergeQueueModel", name := "waiting", desc := "(I)I" } : MethodName)), (Cond.methodLink "MergeQueueLaw" (74 : Nat) ({ cls := "MergeQueueModel", name := "landed", desc := "(I)I" } : MethodName)), (Cond.instanceMethod ({ cls := "MergeQueueModel", name := "landed", desc := "(I)I" } : MethodName)), (Cond.selects "MergeQueueModel" ({ cls := "MergeQueueModel", name := "landed", desc := "(I)I" } : MethodName) ({ cls := "MergeQueueModel", name := "landed", desc := "(I)I" } : MethodName)), (Cond.methodLink "MergeQueueLaw" (78 : Nat) ({ cls := "MergeQueueModel", name := "where", desc := "(I)I" } : MethodName)), (Cond.instanceMethod ({ cls := "MergeQueueModel", name := "where", desc := "(I)I" } : MethodName)), (Cond.selects "MergeQueueModel" ({ cls := "MergeQueueModel", name := "where", desc := "(I)I" } : MethodName) ({ cls := "MergeQueueModel", name := "where", desc := "(I)I" } : MethodName)), (Cond.methodLink "MergeQueueLaw" (82 : Nat) ({ cls := "MergeQueueModel", name := "why", desc := "(I)I" } : MethodName)), (Cond.instanceMethod ({ cls := "MergeQueueModel", name := "why", desc := "(I)I" } : MethodName)), (Cond.selects "MergeQueueModel" ({ cls := "MergeQueueModel", name := "why", desc := "(I)I" } : MethodName) ({ cls := "MergeQueueModel", name := "why", desc := "(I)I" } : MethodName)), (Cond.methodLink "MergeQueueLaw" (86 : Nat) ({ cls := "MergeQueueModel", name := "by", desc := "(I)I" } : MethodName)), (Cond.instanceMethod ({ cls := "MergeQueueModel", name := "by", desc := "(I)I" } : MethodName)), (Cond.selects "MergeQueueModel" ({ cls := "MergeQueueModel", name := "by", desc := "(I)I" } : MethodName) ({ cls := "MergeQueueModel", name := "by", desc := "(I)I" } : MethodName)), (Cond.methodLink "MergeQueueLaw" (90 : Nat) ({ cls := "MergeQueueModel", name := "counted", desc := "(I)I" } : MethodName)), (Cond.instanceMethod ({ cls := "MergeQueueModel", name := "counted", desc := "(I)I" } : MethodName)), (Cond.selects "MergeQueueModel" ({ cls := "MergeQueueModel", name := "counted", desc := "(I)I" } : MethodName) ({ cls := "MergeQueueModel", name := "counted", desc := "(I)I" } : MethodName))]
def mTb : List Cond := mCodes ++ (mSel ++ (mWd_0 ++ (mWd_1 ++ (mWd_2 ++ (mWd_3 ++ (mWd_4 ++ (mWd_5 ++ (mWd_6 ++ (mWd_7)))))))))
def mNw : List Cond := [(Cond.methodLinkNest "MergeQueue" (9 : Nat) ({ cls := "MergeQueue$Changes", name := "<init>", desc := "()V" } : MethodName) "MergeQueue"), (Cond.methodLinkNest "MergeQueue$Changes" (11 : Nat) ({ cls := "MergeQueue$Row", name := "<init>", desc := "()V" } : MethodName) "MergeQueue"), (Cond.methodLinkNest "MergeQueue" (18 : Nat) ({ cls := "MergeQueue$Row", name := "<init>", desc := "()V" } : MethodName) "MergeQueue"), (Cond.methodLinkNest "MergeQueue" (28 : Nat) ({ cls := "MergeQueue$Groups", name := "<init>", desc := "()V" } : MethodName) "MergeQueue"), (Cond.methodLinkNest "MergeQueue$Groups" (11 : Nat) ({ cls := "MergeQueue$Row", name := "<init>", desc := "()V" } : MethodName) "MergeQueue")]
end
section
theorem mx_good {big : List Cond} (ws : List Cond) (ps : List Nat) (hp : ws = ps.filterMap (fun i => big[i]?)) (h : ws.all goodWord = true) : GoodIn big ws := by
  intro w hw
  have h1 := List.all_eq_true.mp h w hw
  rw [hp] at hw
  obtain ⟨i, -, hi⟩ := List.mem_filterMap.mp hw
  exact ⟨List.mem_of_getElem? hi, good_of_word h1⟩
theorem mx_all {α : Type} {p : α → Bool} {a b : List α} (ha : a.all p = true) (hb : b.all p = true) : (a ++ b).all p = true := by
  rw [List.all_append, ha, hb]
  rfl
theorem mx_app {big a b : List Cond} (ha : GoodIn big a) (hb : GoodIn big b) : GoodIn big (a ++ b) := fun w h => (List.mem_append.mp h).elim (ha w) (hb w)
theorem mWd_0_in : GoodIn lw_tbl mWd_0 := mx_good _ [38, 39, 40, 41, 42, 43, 44, 45, 46, 47, 48, 49, 51, 52, 53, 54, 55, 57, 59, 60, 61, 63, 65, 66, 67, 68, 70, 73, 74, 75, 76, 77, 78, 79, 80, 81, 82, 84, 86, 88, 90, 92, 94, 96, 99, 100, 102, 103, 105, 107, 108, 110, 111, 112, 113, 114, 115, 117, 119, 121] (by decide +kernel) (by decide +kernel)
theorem mWd_1_in : GoodIn lw_tbl mWd_1 := mx_good _ [123, 126, 127, 129, 130, 131, 132, 133, 134, 135, 136, 137, 138, 139, 140, 141, 142, 143, 144, 145, 147, 149, 151, 153, 155, 157, 159, 161, 163, 166, 167, 168, 170, 171, 172, 174, 175, 176, 178, 179, 180, 182, 183, 184, 185, 187, 188, 189, 191, 192, 193, 194, 196, 198, 199, 200, 201, 203, 204, 205] (by decide +kernel) (by decide +kernel)
theorem mWd_2_in : GoodIn lw_tbl mWd_2 := mx_good _ [207, 208, 209, 211, 212, 213, 214, 215, 217, 219, 221, 222, 223, 225, 226, 227, 229, 231, 233, 234, 235, 237, 239, 241, 243, 245, 246, 247, 249, 250, 251, 253, 254, 255, 257, 258, 259, 261, 262, 263, 265, 267, 269, 270, 271, 273, 274, 275, 276, 278, 279, 280, 282, 283, 284, 286, 287, 289, 291, 292] (by decide +kernel) (by decide +kernel)
theorem mWd_3_in : GoodIn lw_tbl mWd_3 := mx_good _ [293, 295, 296, 297, 299, 301, 302, 303, 305, 307, 308, 309, 311, 312, 313, 315, 316, 317, 319, 321, 323, 324, 325, 327, 328, 329, 331, 332, 333, 335, 336, 337, 338, 340, 341, 342, 343, 345, 347, 349, 350, 351, 353, 355, 357, 358, 359, 360, 362, 364, 366, 367, 368, 370, 371, 372, 374, 375, 376, 378] (by decide +kernel) (by decide +kernel)
theorem mWd_4_in : GoodIn lw_tbl mWd_4 := mx_good _ [380, 382, 383, 385, 387, 388, 389, 391, 392, 393, 395, 396, 397, 399, 400, 401, 402, 404, 406, 408, 409, 410, 412, 413, 414, 416, 417, 418, 420, 421, 422, 424, 425, 426, 428, 429, 430, 431, 433, 434, 435, 437, 438, 439, 441, 442, 443, 445, 446, 447, 449, 450, 451, 453, 454, 455, 457, 458, 459, 461] (by decide +kernel) (by decide +kernel)
theorem mWd_5_in : GoodIn lw_tbl mWd_5 := mx_good _ [462, 463, 465, 466, 467, 469, 471, 473, 474, 475, 477, 478, 480, 481, 482, 483, 485, 486, 487, 489, 490, 491, 492, 493, 494, 495, 496, 497, 498, 499, 500, 501, 502, 503, 504, 505, 506, 507, 508, 509, 510, 511, 512, 513, 515, 517, 519, 521, 523, 525, 527, 529, 531, 533, 535, 537, 539, 541, 543, 545] (by decide +kernel) (by decide +kernel)
theorem mWd_6_in : GoodIn lw_tbl mWd_6 := mx_good _ [547, 549, 551, 553, 555, 557, 559, 562, 563, 564, 565, 567, 568, 569, 571, 573, 575, 576, 577, 579, 581, 583, 585, 587, 589, 591, 593, 595, 596, 597, 599, 601, 603, 605, 607, 609, 611, 612, 613, 615, 616, 617, 619, 621, 623, 625, 627, 629, 631, 633, 635, 637, 639, 641, 643, 645, 647, 649, 651, 653] (by decide +kernel) (by decide +kernel)
theorem mWd_7_in : GoodIn lw_tbl mWd_7 := mx_good _ [655, 657, 659, 661, 663, 665, 667, 668, 669, 671, 673, 675, 676, 677, 679, 680, 681, 683, 684, 685, 687, 688, 689, 691, 692, 693, 695, 696, 697, 699, 700, 701, 703, 704, 705, 707, 708, 709] (by decide +kernel) (by decide +kernel)
set_option maxRecDepth 100000 in
theorem mCd_0 : Cond.code ⟨"MergeQueue", "<init>", "(III)V"⟩ prog_1_method_1_code 4 (none) ∈ lw_tbl := List.mem_of_getElem? (i := 50) rfl
set_option maxRecDepth 100000 in
theorem mCd_1 : Cond.code ⟨"MergeQueue$Changes", "<init>", "()V"⟩ prog_2_method_1_code 1 (none) ∈ lw_tbl := List.mem_of_getElem? (i := 58) rfl
set_option maxRecDepth 100000 in
theorem mCd_2 : Cond.code ⟨"MergeQueue$Row", "<init>", "()V"⟩ prog_4_method_1_code 1 (none) ∈ lw_tbl := List.mem_of_getElem? (i := 64) rfl
set_option maxRecDepth 100000 in
theorem mCd_3 : Cond.code ⟨"MergeQueue$Groups", "<init>", "()V"⟩ prog_3_method_1_code 1 (none) ∈ lw_tbl := List.mem_of_getElem? (i := 106) rfl
set_option maxRecDepth 100000 in
theorem mCd_4 : Cond.code ⟨"MergeQueue", "nearest", "(II)I"⟩ prog_1_method_2_code 2 (some .int) ∈ lw_tbl := List.mem_of_getElem? (i := 128) rfl
set_option maxRecDepth 100000 in
theorem mCd_5 : Cond.code ⟨"MergeQueue", "change", "(II)I"⟩ prog_1_method_3_code 4 (some .int) ∈ lw_tbl := List.mem_of_getElem? (i := 169) rfl
set_option maxRecDepth 100000 in
theorem mCd_6 : Cond.code ⟨"MergeQueue$Changes", "count", "()I"⟩ prog_2_method_2_code 1 (some .int) ∈ lw_tbl := List.mem_of_getElem? (i := 173) rfl
set_option maxRecDepth 100000 in
theorem mCd_7 : Cond.code ⟨"MergeQueue$Row", "count", "()I"⟩ prog_4_method_2_code 1 (some .int) ∈ lw_tbl := List.mem_of_getElem? (i := 177) rfl
set_option maxRecDepth 100000 in
theorem mCd_8 : Cond.code ⟨"MergeQueue$Changes", "add", "(II)I"⟩ prog_2_method_3_code 4 (some .int) ∈ lw_tbl := List.mem_of_getElem? (i := 181) rfl
set_option maxRecDepth 100000 in
theorem mCd_9 : Cond.code ⟨"MergeQueue$Row", "append", "(I)V"⟩ prog_4_method_7_code 2 (none) ∈ lw_tbl := List.mem_of_getElem? (i := 186) rfl
set_option maxRecDepth 100000 in
theorem mCd_10 : Cond.code ⟨"MergeQueue$Row", "insert", "(II)V"⟩ prog_4_method_8_code 3 (none) ∈ lw_tbl := List.mem_of_getElem? (i := 190) rfl
set_option maxRecDepth 100000 in
theorem mCd_11 : Cond.code ⟨"MergeQueue", "enqueue", "(I)V"⟩ prog_1_method_19_code 3 (none) ∈ lw_tbl := List.mem_of_getElem? (i := 197) rfl
set_option maxRecDepth 100000 in
theorem mCd_12 : Cond.code ⟨"MergeQueue$Row", "at", "(I)I"⟩ prog_4_method_4_code 2 (some .int) ∈ lw_tbl := List.mem_of_getElem? (i := 202) rfl
set_option maxRecDepth 100000 in
theorem mCd_13 : Cond.code ⟨"MergeQueue$Row", "has", "(I)Z"⟩ prog_4_method_3_code 2 (some .boolean) ∈ lw_tbl := List.mem_of_getElem? (i := 206) rfl
set_option maxRecDepth 100000 in
theorem mCd_14 : Cond.code ⟨"MergeQueue$Changes", "isInFront", "(II)Z"⟩ prog_2_method_13_code 3 (some .boolean) ∈ lw_tbl := List.mem_of_getElem? (i := 210) rfl
set_option maxRecDepth 100000 in
theorem mCd_15 : Cond.code ⟨"MergeQueue", "conflict", "(II)I"⟩ prog_1_method_4_code 3 (some .int) ∈ lw_tbl := List.mem_of_getElem? (i := 216) rfl
set_option maxRecDepth 100000 in
theorem mCd_16 : Cond.code ⟨"MergeQueue", "mayConflict", "(II)Z"⟩ prog_1_method_21_code 5 (some .boolean) ∈ lw_tbl := List.mem_of_getElem? (i := 220) rfl
set_option maxRecDepth 100000 in
theorem mCd_17 : Cond.code ⟨"MergeQueue$Changes", "placeOf", "(I)I"⟩ prog_2_method_5_code 2 (some .int) ∈ lw_tbl := List.mem_of_getElem? (i := 224) rfl
set_option maxRecDepth 100000 in
theorem mCd_18 : Cond.code ⟨"MergeQueue$Changes", "areInConflict", "(II)Z"⟩ prog_2_method_14_code 3 (some .boolean) ∈ lw_tbl := List.mem_of_getElem? (i := 228) rfl
set_option maxRecDepth 100000 in
theorem mCd_19 : Cond.code ⟨"MergeQueue$Changes", "isNumber", "(I)Z"⟩ prog_2_method_16_code 2 (some .boolean) ∈ lw_tbl := List.mem_of_getElem? (i := 232) rfl
set_option maxRecDepth 100000 in
theorem mCd_20 : Cond.code ⟨"MergeQueue$Changes", "putInConflict", "(II)V"⟩ prog_2_method_15_code 3 (none) ∈ lw_tbl := List.mem_of_getElem? (i := 236) rfl
set_option maxRecDepth 100000 in
theorem mCd_21 : Cond.code ⟨"MergeQueue", "sendOutClashing", "()V"⟩ prog_1_method_23_code 3 (none) ∈ lw_tbl := List.mem_of_getElem? (i := 240) rfl
set_option maxRecDepth 100000 in
theorem mCd_22 : Cond.code ⟨"MergeQueue", "firstClashInTree", "(I)I"⟩ prog_1_method_24_code 3 (some .int) ∈ lw_tbl := List.mem_of_getElem? (i := 244) rfl
set_option maxRecDepth 100000 in
theorem mCd_23 : Cond.code ⟨"MergeQueue$Row", "removeAt", "(I)V"⟩ prog_4_method_9_code 2 (none) ∈ lw_tbl := List.mem_of_getElem? (i := 248) rfl
set_option maxRecDepth 100000 in
theorem mCd_24 : Cond.code ⟨"MergeQueue$Changes", "putOut", "(II)V"⟩ prog_2_method_8_code 3 (none) ∈ lw_tbl := List.mem_of_getElem? (i := 252) rfl
set_option maxRecDepth 100000 in
theorem mCd_25 : Cond.code ⟨"MergeQueue$Row", "put", "(II)V"⟩ prog_4_method_6_code 3 (none) ∈ lw_tbl := List.mem_of_getElem? (i := 256) rfl
set_option maxRecDepth 100000 in
theorem mCd_26 : Cond.code ⟨"MergeQueue", "jump", "(I)Z"⟩ prog_1_method_5_code 2 (some .boolean) ∈ lw_tbl := List.mem_of_getElem? (i := 260) rfl
set_option maxRecDepth 100000 in
theorem mCd_27 : Cond.code ⟨"MergeQueue$Changes", "hasJumped", "(I)Z"⟩ prog_2_method_11_code 2 (some .boolean) ∈ lw_tbl := List.mem_of_getElem? (i := 264) rfl
set_option maxRecDepth 100000 in
theorem mCd_28 : Cond.code ⟨"MergeQueue", "dequeue", "(I)V"⟩ prog_1_method_20_code 2 (none) ∈ lw_tbl := List.mem_of_getElem? (i := 268) rfl
set_option maxRecDepth 100000 in
theorem mCd_29 : Cond.code ⟨"MergeQueue$Row", "find", "(I)I"⟩ prog_4_method_5_code 3 (some .int) ∈ lw_tbl := List.mem_of_getElem? (i := 272) rfl
set_option maxRecDepth 100000 in
theorem mCd_30 : Cond.code ⟨"MergeQueue$Changes", "giveTurn", "(I)V"⟩ prog_2_method_12_code 2 (none) ∈ lw_tbl := List.mem_of_getElem? (i := 277) rfl
set_option maxRecDepth 100000 in
theorem mCd_31 : Cond.code ⟨"MergeQueue", "leave", "(I)Z"⟩ prog_1_method_6_code 3 (some .boolean) ∈ lw_tbl := List.mem_of_getElem? (i := 281) rfl
set_option maxRecDepth 100000 in
theorem mCd_32 : Cond.code ⟨"MergeQueue$Groups", "takeOut", "(I)V"⟩ prog_3_method_19_code 4 (none) ∈ lw_tbl := List.mem_of_getElem? (i := 285) rfl
set_option maxRecDepth 100000 in
theorem mCd_33 : Cond.code ⟨"MergeQueue$Groups", "groupOfLine", "(I)I"⟩ prog_3_method_20_code 4 (some .int) ∈ lw_tbl := List.mem_of_getElem? (i := 290) rfl
set_option maxRecDepth 100000 in
theorem mCd_34 : Cond.code ⟨"MergeQueue$Groups", "count", "()I"⟩ prog_3_method_2_code 1 (some .int) ∈ lw_tbl := List.mem_of_getElem? (i := 294) rfl
set_option maxRecDepth 100000 in
theorem mCd_35 : Cond.code ⟨"MergeQueue$Groups", "beginAnewFrom", "(I)V"⟩ prog_3_method_21_code 3 (none) ∈ lw_tbl := List.mem_of_getElem? (i := 300) rfl
set_option maxRecDepth 100000 in
theorem mCd_36 : Cond.code ⟨"MergeQueue$Groups", "removeGroup", "(I)V"⟩ prog_3_method_23_code 2 (none) ∈ lw_tbl := List.mem_of_getElem? (i := 306) rfl
set_option maxRecDepth 100000 in
theorem mCd_37 : Cond.code ⟨"MergeQueue", "pause", "(Z)Z"⟩ prog_1_method_7_code 2 (some .boolean) ∈ lw_tbl := List.mem_of_getElem? (i := 310) rfl
set_option maxRecDepth 100000 in
theorem mCd_38 : Cond.code ⟨"MergeQueue", "step", "()I"⟩ prog_1_method_8_code 2 (some .int) ∈ lw_tbl := List.mem_of_getElem? (i := 314) rfl
set_option maxRecDepth 100000 in
theorem mCd_39 : Cond.code ⟨"MergeQueue$Groups", "stateOf", "(I)I"⟩ prog_3_method_5_code 2 (some .int) ∈ lw_tbl := List.mem_of_getElem? (i := 318) rfl
set_option maxRecDepth 100000 in
theorem mCd_40 : Cond.code ⟨"MergeQueue", "land", "()V"⟩ prog_1_method_22_code 4 (none) ∈ lw_tbl := List.mem_of_getElem? (i := 322) rfl
set_option maxRecDepth 100000 in
theorem mCd_41 : Cond.code ⟨"MergeQueue$Groups", "sizeOf", "(I)I"⟩ prog_3_method_7_code 2 (some .int) ∈ lw_tbl := List.mem_of_getElem? (i := 326) rfl
set_option maxRecDepth 100000 in
theorem mCd_42 : Cond.code ⟨"MergeQueue$Groups", "memberAt", "(II)I"⟩ prog_3_method_10_code 3 (some .int) ∈ lw_tbl := List.mem_of_getElem? (i := 330) rfl
set_option maxRecDepth 100000 in
theorem mCd_43 : Cond.code ⟨"MergeQueue$Groups", "baseOf", "(I)I"⟩ prog_3_method_9_code 4 (some .int) ∈ lw_tbl := List.mem_of_getElem? (i := 334) rfl
set_option maxRecDepth 100000 in
theorem mCd_44 : Cond.code ⟨"MergeQueue$Changes", "putPlace", "(II)V"⟩ prog_2_method_6_code 3 (none) ∈ lw_tbl := List.mem_of_getElem? (i := 339) rfl
set_option maxRecDepth 100000 in
theorem mCd_45 : Cond.code ⟨"MergeQueue$Groups", "removeFirst", "()V"⟩ prog_3_method_17_code 3 (none) ∈ lw_tbl := List.mem_of_getElem? (i := 344) rfl
set_option maxRecDepth 100000 in
theorem mCd_46 : Cond.code ⟨"MergeQueue", "halve", "()V"⟩ prog_1_method_25_code 2 (none) ∈ lw_tbl := List.mem_of_getElem? (i := 348) rfl
set_option maxRecDepth 100000 in
theorem mCd_47 : Cond.code ⟨"MergeQueue$Groups", "splitFirst", "()V"⟩ prog_3_method_18_code 3 (none) ∈ lw_tbl := List.mem_of_getElem? (i := 352) rfl
set_option maxRecDepth 100000 in
theorem mCd_48 : Cond.code ⟨"MergeQueue$Groups", "insertGroup", "(II)V"⟩ prog_3_method_22_code 3 (none) ∈ lw_tbl := List.mem_of_getElem? (i := 356) rfl
set_option maxRecDepth 100000 in
theorem mCd_49 : Cond.code ⟨"MergeQueue$Changes", "putTreeSize", "(II)V"⟩ prog_2_method_10_code 3 (none) ∈ lw_tbl := List.mem_of_getElem? (i := 361) rfl
set_option maxRecDepth 100000 in
theorem mCd_50 : Cond.code ⟨"MergeQueue", "askNext", "()Z"⟩ prog_1_method_26_code 2 (some .boolean) ∈ lw_tbl := List.mem_of_getElem? (i := 365) rfl
set_option maxRecDepth 100000 in
theorem mCd_51 : Cond.code ⟨"MergeQueue$Groups", "nextToAsk", "()I"⟩ prog_3_method_13_code 2 (some .int) ∈ lw_tbl := List.mem_of_getElem? (i := 369) rfl
set_option maxRecDepth 100000 in
theorem mCd_52 : Cond.code ⟨"MergeQueue$Groups", "countAsked", "()I"⟩ prog_3_method_12_code 3 (some .int) ∈ lw_tbl := List.mem_of_getElem? (i := 373) rfl
set_option maxRecDepth 100000 in
theorem mCd_53 : Cond.code ⟨"MergeQueue$Groups", "putState", "(II)V"⟩ prog_3_method_6_code 3 (none) ∈ lw_tbl := List.mem_of_getElem? (i := 377) rfl
set_option maxRecDepth 100000 in
theorem mCd_54 : Cond.code ⟨"MergeQueue", "formNext", "()Z"⟩ prog_1_method_27_code 4 (some .boolean) ∈ lw_tbl := List.mem_of_getElem? (i := 381) rfl
set_option maxRecDepth 100000 in
theorem mCd_55 : Cond.code ⟨"MergeQueue", "clashesWithGroups", "(I)Z"⟩ prog_1_method_28_code 3 (some .boolean) ∈ lw_tbl := List.mem_of_getElem? (i := 386) rfl
set_option maxRecDepth 100000 in
theorem mCd_56 : Cond.code ⟨"MergeQueue$Groups", "lineLength", "()I"⟩ prog_3_method_3_code 1 (some .int) ∈ lw_tbl := List.mem_of_getElem? (i := 390) rfl
set_option maxRecDepth 100000 in
theorem mCd_57 : Cond.code ⟨"MergeQueue$Groups", "inLine", "(I)I"⟩ prog_3_method_4_code 2 (some .int) ∈ lw_tbl := List.mem_of_getElem? (i := 394) rfl
set_option maxRecDepth 100000 in
theorem mCd_58 : Cond.code ⟨"MergeQueue$Groups", "appendToLine", "(I)V"⟩ prog_3_method_15_code 2 (none) ∈ lw_tbl := List.mem_of_getElem? (i := 398) rfl
set_option maxRecDepth 100000 in
theorem mCd_59 : Cond.code ⟨"MergeQueue$Groups", "closeLast", "(I)V"⟩ prog_3_method_16_code 2 (none) ∈ lw_tbl := List.mem_of_getElem? (i := 403) rfl
set_option maxRecDepth 100000 in
theorem mCd_60 : Cond.code ⟨"MergeQueue", "dropGroupedFromQueue", "()V"⟩ prog_1_method_29_code 2 (none) ∈ lw_tbl := List.mem_of_getElem? (i := 407) rfl
set_option maxRecDepth 100000 in
theorem mCd_61 : Cond.code ⟨"MergeQueue", "answer", "(IZ)I"⟩ prog_1_method_9_code 3 (some .int) ∈ lw_tbl := List.mem_of_getElem? (i := 411) rfl
set_option maxRecDepth 100000 in
theorem mCd_62 : Cond.code ⟨"MergeQueue$Groups", "addFailure", "(II)V"⟩ prog_3_method_14_code 3 (none) ∈ lw_tbl := List.mem_of_getElem? (i := 415) rfl
set_option maxRecDepth 100000 in
theorem mCd_63 : Cond.code ⟨"MergeQueue", "groups", "()I"⟩ prog_1_method_10_code 1 (some .int) ∈ lw_tbl := List.mem_of_getElem? (i := 419) rfl
set_option maxRecDepth 100000 in
theorem mCd_64 : Cond.code ⟨"MergeQueue", "group", "(II)I"⟩ prog_1_method_11_code 3 (some .int) ∈ lw_tbl := List.mem_of_getElem? (i := 423) rfl
set_option maxRecDepth 100000 in
theorem mCd_65 : Cond.code ⟨"MergeQueue$Groups", "failuresOf", "(I)I"⟩ prog_3_method_8_code 2 (some .int) ∈ lw_tbl := List.mem_of_getElem? (i := 427) rfl
set_option maxRecDepth 100000 in
theorem mCd_66 : Cond.code ⟨"MergeQueue", "member", "(II)I"⟩ prog_1_method_12_code 3 (some .int) ∈ lw_tbl := List.mem_of_getElem? (i := 432) rfl
set_option maxRecDepth 100000 in
theorem mCd_67 : Cond.code ⟨"MergeQueue", "waiting", "(I)I"⟩ prog_1_method_13_code 2 (some .int) ∈ lw_tbl := List.mem_of_getElem? (i := 436) rfl
set_option maxRecDepth 100000 in
theorem mCd_68 : Cond.code ⟨"MergeQueue", "landed", "(I)I"⟩ prog_1_method_14_code 2 (some .int) ∈ lw_tbl := List.mem_of_getElem? (i := 440) rfl
set_option maxRecDepth 100000 in
theorem mCd_69 : Cond.code ⟨"MergeQueue", "where", "(I)I"⟩ prog_1_method_15_code 2 (some .int) ∈ lw_tbl := List.mem_of_getElem? (i := 444) rfl
set_option maxRecDepth 100000 in
theorem mCd_70 : Cond.code ⟨"MergeQueue", "why", "(I)I"⟩ prog_1_method_16_code 2 (some .int) ∈ lw_tbl := List.mem_of_getElem? (i := 448) rfl
set_option maxRecDepth 100000 in
theorem mCd_71 : Cond.code ⟨"MergeQueue$Changes", "reasonOf", "(I)I"⟩ prog_2_method_7_code 2 (some .int) ∈ lw_tbl := List.mem_of_getElem? (i := 452) rfl
set_option maxRecDepth 100000 in
theorem mCd_72 : Cond.code ⟨"MergeQueue", "by", "(I)I"⟩ prog_1_method_17_code 2 (some .int) ∈ lw_tbl := List.mem_of_getElem? (i := 456) rfl
set_option maxRecDepth 100000 in
theorem mCd_73 : Cond.code ⟨"MergeQueue$Changes", "treeSizeOf", "(I)I"⟩ prog_2_method_9_code 2 (some .int) ∈ lw_tbl := List.mem_of_getElem? (i := 460) rfl
set_option maxRecDepth 100000 in
theorem mCd_74 : Cond.code ⟨"MergeQueue", "counted", "(I)I"⟩ prog_1_method_18_code 2 (some .int) ∈ lw_tbl := List.mem_of_getElem? (i := 464) rfl
set_option maxRecDepth 100000 in
theorem mCd_75 : Cond.code ⟨"MergeQueue$Groups", "countAskedInVain", "()I"⟩ prog_3_method_11_code 1 (some .int) ∈ lw_tbl := List.mem_of_getElem? (i := 468) rfl
set_option maxRecDepth 100000 in
theorem mCd_76 : Cond.code ⟨"MergeQueue", "partsOfTree", "()I"⟩ prog_1_method_30_code 3 (some .int) ∈ lw_tbl := List.mem_of_getElem? (i := 472) rfl
set_option maxRecDepth 100000 in
theorem mCd_77 : Cond.code ⟨"MergeQueue$Changes", "partsOf", "(I)I"⟩ prog_2_method_4_code 2 (some .int) ∈ lw_tbl := List.mem_of_getElem? (i := 476) rfl
set_option maxRecDepth 100000 in
theorem mCd_78 : Cond.code ⟨"MergeQueueLaw", "cell", "([II)I"⟩ method_2_code 2 (some .int) ∈ lw_tbl := List.mem_of_getElem? (i := 479) rfl
set_option maxRecDepth 100000 in
theorem mCd_79 : Cond.code ⟨"MergeQueueModel", "<init>", "(III)V"⟩ prog_6_method_1_code 4 (none) ∈ lw_tbl := List.mem_of_getElem? (i := 484) rfl
set_option maxRecDepth 100000 in
theorem mCd_80 : Cond.code ⟨"MergeQueueModel", "within", "(II)I"⟩ prog_6_method_2_code 2 (some .int) ∈ lw_tbl := List.mem_of_getElem? (i := 488) rfl
set_option maxRecDepth 100000 in
theorem mCd_81 : Cond.code ⟨"MergeQueueModel", "change", "(II)I"⟩ prog_6_method_5_code 3 (some .int) ∈ lw_tbl := List.mem_of_getElem? (i := 566) rfl
set_option maxRecDepth 100000 in
theorem mCd_82 : Cond.code ⟨"MergeQueueModel", "jump", "(I)Z"⟩ prog_6_method_8_code 2 (some .boolean) ∈ lw_tbl := List.mem_of_getElem? (i := 570) rfl
set_option maxRecDepth 100000 in
theorem mCd_83 : Cond.code ⟨"MergeQueueModel", "isChange", "(I)Z"⟩ prog_6_method_4_code 2 (some .boolean) ∈ lw_tbl := List.mem_of_getElem? (i := 574) rfl
set_option maxRecDepth 100000 in
theorem mCd_84 : Cond.code ⟨"MergeQueueModel", "conflict", "(II)I"⟩ prog_6_method_13_code 3 (some .int) ∈ lw_tbl := List.mem_of_getElem? (i := 578) rfl
set_option maxRecDepth 100000 in
theorem mCd_85 : Cond.code ⟨"MergeQueueModel", "isOpen", "(I)Z"⟩ prog_6_method_12_code 2 (some .boolean) ∈ lw_tbl := List.mem_of_getElem? (i := 582) rfl
set_option maxRecDepth 100000 in
theorem mCd_86 : Cond.code ⟨"MergeQueueModel", "isConflict", "(II)Z"⟩ prog_6_method_9_code 3 (some .boolean) ∈ lw_tbl := List.mem_of_getElem? (i := 586) rfl
set_option maxRecDepth 100000 in
theorem mCd_87 : Cond.code ⟨"MergeQueueModel", "clear", "()V"⟩ prog_6_method_11_code 2 (none) ∈ lw_tbl := List.mem_of_getElem? (i := 590) rfl
set_option maxRecDepth 100000 in
theorem mCd_88 : Cond.code ⟨"MergeQueueModel", "inTree", "(I)I"⟩ prog_6_method_10_code 3 (some .int) ∈ lw_tbl := List.mem_of_getElem? (i := 594) rfl
set_option maxRecDepth 100000 in
theorem mCd_89 : Cond.code ⟨"MergeQueueModel", "leave", "(I)Z"⟩ prog_6_method_22_code 4 (some .boolean) ∈ lw_tbl := List.mem_of_getElem? (i := 598) rfl
set_option maxRecDepth 100000 in
theorem mCd_90 : Cond.code ⟨"MergeQueueModel", "inLane", "(I)I"⟩ prog_6_method_21_code 3 (some .int) ∈ lw_tbl := List.mem_of_getElem? (i := 602) rfl
set_option maxRecDepth 100000 in
theorem mCd_91 : Cond.code ⟨"MergeQueueModel", "beginAnew", "(I)V"⟩ prog_6_method_19_code 4 (none) ∈ lw_tbl := List.mem_of_getElem? (i := 606) rfl
set_option maxRecDepth 100000 in
theorem mCd_92 : Cond.code ⟨"MergeQueueModel", "goFrom", "(I)V"⟩ prog_6_method_20_code 5 (none) ∈ lw_tbl := List.mem_of_getElem? (i := 610) rfl
set_option maxRecDepth 100000 in
theorem mCd_93 : Cond.code ⟨"MergeQueueModel", "pause", "(Z)Z"⟩ prog_6_method_23_code 3 (some .boolean) ∈ lw_tbl := List.mem_of_getElem? (i := 614) rfl
set_option maxRecDepth 100000 in
theorem mCd_94 : Cond.code ⟨"MergeQueueModel", "step", "()I"⟩ prog_6_method_30_code 2 (some .int) ∈ lw_tbl := List.mem_of_getElem? (i := 618) rfl
set_option maxRecDepth 100000 in
theorem mCd_95 : Cond.code ⟨"MergeQueueModel", "stateOf", "(I)I"⟩ prog_6_method_18_code 2 (some .int) ∈ lw_tbl := List.mem_of_getElem? (i := 622) rfl
set_option maxRecDepth 100000 in
theorem mCd_96 : Cond.code ⟨"MergeQueueModel", "startOf", "(I)I"⟩ prog_6_method_14_code 4 (some .int) ∈ lw_tbl := List.mem_of_getElem? (i := 626) rfl
set_option maxRecDepth 100000 in
theorem mCd_97 : Cond.code ⟨"MergeQueueModel", "land", "()V"⟩ prog_6_method_24_code 4 (none) ∈ lw_tbl := List.mem_of_getElem? (i := 630) rfl
set_option maxRecDepth 100000 in
theorem mCd_98 : Cond.code ⟨"MergeQueueModel", "sizeOf", "(I)I"⟩ prog_6_method_17_code 2 (some .int) ∈ lw_tbl := List.mem_of_getElem? (i := 634) rfl
set_option maxRecDepth 100000 in
theorem mCd_99 : Cond.code ⟨"MergeQueueModel", "halve", "()V"⟩ prog_6_method_25_code 3 (none) ∈ lw_tbl := List.mem_of_getElem? (i := 638) rfl
set_option maxRecDepth 100000 in
theorem mCd_100 : Cond.code ⟨"MergeQueueModel", "ask", "()Z"⟩ prog_6_method_26_code 4 (some .boolean) ∈ lw_tbl := List.mem_of_getElem? (i := 642) rfl
set_option maxRecDepth 100000 in
theorem mCd_101 : Cond.code ⟨"MergeQueueModel", "groupMany", "()I"⟩ prog_6_method_15_code 3 (some .int) ∈ lw_tbl := List.mem_of_getElem? (i := 646) rfl
set_option maxRecDepth 100000 in
theorem mCd_102 : Cond.code ⟨"MergeQueueModel", "setState", "(II)V"⟩ prog_6_method_27_code 5 (none) ∈ lw_tbl := List.mem_of_getElem? (i := 650) rfl
set_option maxRecDepth 100000 in
theorem mCd_103 : Cond.code ⟨"MergeQueueModel", "form", "()Z"⟩ prog_6_method_29_code 4 (some .boolean) ∈ lw_tbl := List.mem_of_getElem? (i := 654) rfl
set_option maxRecDepth 100000 in
theorem mCd_104 : Cond.code ⟨"MergeQueueModel", "waitingAt", "(I)I"⟩ prog_6_method_7_code 5 (some .int) ∈ lw_tbl := List.mem_of_getElem? (i := 658) rfl
set_option maxRecDepth 100000 in
theorem mCd_105 : Cond.code ⟨"MergeQueueModel", "isBefore", "(II)Z"⟩ prog_6_method_6_code 3 (some .boolean) ∈ lw_tbl := List.mem_of_getElem? (i := 662) rfl
set_option maxRecDepth 100000 in
theorem mCd_106 : Cond.code ⟨"MergeQueueModel", "isBarred", "(I)Z"⟩ prog_6_method_28_code 4 (some .boolean) ∈ lw_tbl := List.mem_of_getElem? (i := 666) rfl
set_option maxRecDepth 100000 in
theorem mCd_107 : Cond.code ⟨"MergeQueueModel", "answer", "(IZ)I"⟩ prog_6_method_31_code 7 (some .int) ∈ lw_tbl := List.mem_of_getElem? (i := 670) rfl
set_option maxRecDepth 100000 in
theorem mCd_108 : Cond.code ⟨"MergeQueueModel", "isGroup", "(I)Z"⟩ prog_6_method_16_code 2 (some .boolean) ∈ lw_tbl := List.mem_of_getElem? (i := 674) rfl
set_option maxRecDepth 100000 in
theorem mCd_109 : Cond.code ⟨"MergeQueueModel", "groups", "()I"⟩ prog_6_method_32_code 1 (some .int) ∈ lw_tbl := List.mem_of_getElem? (i := 678) rfl
set_option maxRecDepth 100000 in
theorem mCd_110 : Cond.code ⟨"MergeQueueModel", "group", "(II)I"⟩ prog_6_method_33_code 3 (some .int) ∈ lw_tbl := List.mem_of_getElem? (i := 682) rfl
set_option maxRecDepth 100000 in
theorem mCd_111 : Cond.code ⟨"MergeQueueModel", "member", "(II)I"⟩ prog_6_method_34_code 3 (some .int) ∈ lw_tbl := List.mem_of_getElem? (i := 686) rfl
set_option maxRecDepth 100000 in
theorem mCd_112 : Cond.code ⟨"MergeQueueModel", "waiting", "(I)I"⟩ prog_6_method_35_code 2 (some .int) ∈ lw_tbl := List.mem_of_getElem? (i := 690) rfl
set_option maxRecDepth 100000 in
theorem mCd_113 : Cond.code ⟨"MergeQueueModel", "landed", "(I)I"⟩ prog_6_method_36_code 2 (some .int) ∈ lw_tbl := List.mem_of_getElem? (i := 694) rfl
set_option maxRecDepth 100000 in
theorem mCd_114 : Cond.code ⟨"MergeQueueModel", "where", "(I)I"⟩ prog_6_method_37_code 2 (some .int) ∈ lw_tbl := List.mem_of_getElem? (i := 698) rfl
set_option maxRecDepth 100000 in
theorem mCd_115 : Cond.code ⟨"MergeQueueModel", "why", "(I)I"⟩ prog_6_method_38_code 2 (some .int) ∈ lw_tbl := List.mem_of_getElem? (i := 702) rfl
set_option maxRecDepth 100000 in
theorem mCd_116 : Cond.code ⟨"MergeQueueModel", "by", "(I)I"⟩ prog_6_method_39_code 2 (some .int) ∈ lw_tbl := List.mem_of_getElem? (i := 706) rfl
set_option maxRecDepth 100000 in
theorem mCd_117 : Cond.code ⟨"MergeQueueModel", "counted", "(I)I"⟩ prog_6_method_40_code 4 (some .int) ∈ lw_tbl := List.mem_of_getElem? (i := 710) rfl
set_option maxRecDepth 100000 in
theorem mCd : ∀ k, k < mRecs.length → Cond.code (m_rec k).1 (m_rec k).2.1 (m_rec k).2.2.1 (m_rec k).2.2.2.1 ∈ lw_tbl
  | 0, _ => mCd_0
  | 1, _ => mCd_1
  | 2, _ => mCd_2
  | 3, _ => mCd_3
  | 4, _ => mCd_4
  | 5, _ => mCd_5
  | 6, _ => mCd_6
  | 7, _ => mCd_7
  | 8, _ => mCd_8
  | 9, _ => mCd_9
  | 10, _ => mCd_10
  | 11, _ => mCd_11
  | 12, _ => mCd_12
  | 13, _ => mCd_13
  | 14, _ => mCd_14
  | 15, _ => mCd_15
  | 16, _ => mCd_16
  | 17, _ => mCd_17
  | 18, _ => mCd_18
  | 19, _ => mCd_19
  | 20, _ => mCd_20
  | 21, _ => mCd_21
  | 22, _ => mCd_22
  | 23, _ => mCd_23
  | 24, _ => mCd_24
  | 25, _ => mCd_25
  | 26, _ => mCd_26
  | 27, _ => mCd_27
  | 28, _ => mCd_28
  | 29, _ => mCd_29
  | 30, _ => mCd_30
  | 31, _ => mCd_31
  | 32, _ => mCd_32
  | 33, _ => mCd_33
  | 34, _ => mCd_34
  | 35, _ => mCd_35
  | 36, _ => mCd_36
  | 37, _ => mCd_37
  | 38, _ => mCd_38
  | 39, _ => mCd_39
  | 40, _ => mCd_40
  | 41, _ => mCd_41
  | 42, _ => mCd_42
  | 43, _ => mCd_43
  | 44, _ => mCd_44
  | 45, _ => mCd_45
  | 46, _ => mCd_46
  | 47, _ => mCd_47
  | 48, _ => mCd_48
  | 49, _ => mCd_49
  | 50, _ => mCd_50
  | 51, _ => mCd_51
  | 52, _ => mCd_52
  | 53, _ => mCd_53
  | 54, _ => mCd_54
  | 55, _ => mCd_55
  | 56, _ => mCd_56
  | 57, _ => mCd_57
  | 58, _ => mCd_58
  | 59, _ => mCd_59
  | 60, _ => mCd_60
  | 61, _ => mCd_61
  | 62, _ => mCd_62
  | 63, _ => mCd_63
  | 64, _ => mCd_64
  | 65, _ => mCd_65
  | 66, _ => mCd_66
  | 67, _ => mCd_67
  | 68, _ => mCd_68
  | 69, _ => mCd_69
  | 70, _ => mCd_70
  | 71, _ => mCd_71
  | 72, _ => mCd_72
  | 73, _ => mCd_73
  | 74, _ => mCd_74
  | 75, _ => mCd_75
  | 76, _ => mCd_76
  | 77, _ => mCd_77
  | 78, _ => mCd_78
  | 79, _ => mCd_79
  | 80, _ => mCd_80
  | 81, _ => mCd_81
  | 82, _ => mCd_82
  | 83, _ => mCd_83
  | 84, _ => mCd_84
  | 85, _ => mCd_85
  | 86, _ => mCd_86
  | 87, _ => mCd_87
  | 88, _ => mCd_88
  | 89, _ => mCd_89
  | 90, _ => mCd_90
  | 91, _ => mCd_91
  | 92, _ => mCd_92
  | 93, _ => mCd_93
  | 94, _ => mCd_94
  | 95, _ => mCd_95
  | 96, _ => mCd_96
  | 97, _ => mCd_97
  | 98, _ => mCd_98
  | 99, _ => mCd_99
  | 100, _ => mCd_100
  | 101, _ => mCd_101
  | 102, _ => mCd_102
  | 103, _ => mCd_103
  | 104, _ => mCd_104
  | 105, _ => mCd_105
  | 106, _ => mCd_106
  | 107, _ => mCd_107
  | 108, _ => mCd_108
  | 109, _ => mCd_109
  | 110, _ => mCd_110
  | 111, _ => mCd_111
  | 112, _ => mCd_112
  | 113, _ => mCd_113
  | 114, _ => mCd_114
  | 115, _ => mCd_115
  | 116, _ => mCd_116
  | 117, _ => mCd_117
  | n + 118, h => absurd h (by have e : mRecs.length = 118 := rfl; omega)
theorem mCodes_in : GoodIn lw_tbl mCodes := by
  intro w hw
  obtain ⟨r, hr, rfl⟩ := List.mem_map.mp hw
  obtain ⟨k, hk⟩ := List.getElem?_of_mem hr
  have hl : k < mRecs.length := (List.getElem?_eq_some_iff.mp hk).1
  have h1 := mCd k hl
  have e : m_rec k = r := by
    unfold m_rec
    rw [List.getD_eq_getElem?_getD, List.getElem?_append_left hl, hk]
    rfl
  rw [e] at h1
  exact ⟨h1, Or.inl rfl⟩
theorem mSel_in : GoodIn lw_tbl mSel := by
  intro w hw
  refine ⟨List.mem_append_left _ hw, ?_⟩
  obtain ⟨q, -, rfl⟩ := List.mem_map.mp hw
  exact Or.inl rfl
theorem mTb_in : GoodIn lw_tbl mTb := mx_app mCodes_in (mx_app mSel_in (mx_app mWd_0_in (mx_app mWd_1_in (mx_app mWd_2_in (mx_app mWd_3_in (mx_app mWd_4_in (mx_app mWd_5_in (mx_app mWd_6_in (mWd_7_in)))))))))
theorem mNw_is : ∀ w ∈ mNw, ∃ a i x y, w = Cond.methodLinkNest a i x y := by
  intro w hw
  simp only [mNw, List.mem_cons, List.not_mem_nil, or_false] at hw
  rcases hw with rfl | rfl | rfl | rfl | rfl <;> exact ⟨_, _, _, _, rfl⟩
theorem mNw_tab : ∀ w ∈ mNw, w.onTables = true := by
  intro w hw
  obtain ⟨a, i, x, y, rfl⟩ := mNw_is w hw
  rfl
theorem mNw_in : ∀ w ∈ mNw, w ∈ lw_tbl := by
  intro w hw
  have h : mNw = ([56, 62, 101, 104, 109] : List Nat).filterMap (fun i => lw_tbl[i]?) := by decide +kernel
  rw [h] at hw
  obtain ⟨i, -, hi⟩ := List.mem_filterMap.mp hw
  exact List.mem_of_getElem? hi
def m_w (k : Nat) : List Cond := Cond.code (m_y k) (m_b k) (m_l k) (m_r k) :: mTb
def m_kd (k : Nat) : Nat := (m_rec k).2.2.2.2.2.1
def m_na (k : Nat) : Nat := (m_rec k).2.2.2.2.2.2
def m_jo : Instr → Option Int
  | .if_icmp _ o => some o
  | .ifCond _ o => some o
  | .goto o => some o
  | .tableswitch o _ _ _ => some o
  | .lookupswitch o _ => some o
  | _ => none
def m_fk (own : String) (idx ci sl : Nat) : Bool := match mCl[ci]? with
  | some r => decide (sl < r.2.2) && decide (Cond.fieldLink own idx (r.2.1 sl).1 (r.2.1 sl).2.1 (r.2.1 sl).2.2.1 ∈ mTb)
  | none => false
def m_pk (y : MethodName) (ci sl : Nat) : Bool := match mCl[ci]? with
  | some r => !(r.2.1 sl).2.2.2 || ((r.2.1 sl).2.2.2 && (y.name == "<init>" && (r.2.1 sl).1 == y.cls))
  | none => false
def m_nk (own : String) (idx ci n : Nat) : Bool := match mCl[ci]? with
  | some r => r.2.2 == n && (decide (Cond.classLink own idx r.1 ∈ mTb) && (decide (Cond.instantiable r.1 r.2.2 ∈ mTb) && decide (Cond.initialized r.1 ∈ mTb)))
  | none => false
def m_ik (k idx a1 a2 : Nat) : Bool := decide (a1 < mRecs.length) && (m_kd a1 == 1 && (a2 == m_na a1 + 1 && (decide (Cond.methodLink (m_y k).cls idx (m_y a1) ∈ mTb) || decide (Cond.methodLinkNest (m_y k).cls idx (m_y a1) "MergeQueue" ∈ mNw))))
def m_sk (k idx a1 a2 : Nat) : Bool := decide (a1 < mRecs.length) && (m_kd a1 == 2 && (a2 == m_na a1 && (decide (Cond.methodLink (m_y k).cls idx (m_y a1) ∈ mTb) && (m_y a1).cls == (m_y k).cls)))
def m_lnk (k : Nat) (ins : Instr) (a1 a2 : Nat) : Bool := match ins with
  | .getfield idx => m_fk (m_y k).cls idx a1 a2
  | .putfield idx => m_fk (m_y k).cls idx a1 a2 && m_pk (m_y k) a1 a2
  | .new idx => m_nk (m_y k).cls idx a1 a2
  | .newarray t => decide (Cond.arrayClass (newarray.typeOf t) ∈ mTb)
  | .invokevirtual idx => decide (a1 < mRecs.length) && (m_kd a1 == 0 && (a2 == m_na a1 + 1 && decide (Cond.methodLink (m_y k).cls idx (m_y a1) ∈ mTb)))
  | .invokespecial idx => if a1 = 999 then decide (Cond.methodLink (m_y k).cls idx objectInit ∈ mTb) else m_ik k idx a1 a2
  | .invokestatic idx => if a1 = 998 then decide (Cond.methodLink (m_y k).cls idx Lib.Math.max.name ∈ mTb) else if a1 = 997 then decide (Cond.methodLink (m_y k).cls idx Lib.Math.min.name ∈ mTb) else if a1 = 996 then decide (Cond.methodLink (m_y k).cls idx arraycopyName ∈ mTb) else m_sk k idx a1 a2
  | _ => true
def m_chk (k : Nat) (q : mRow) : Bool := decide (decode (m_b k) q.1 = .ok (q.2.1, q.2.2.1)) && ((q.2.2.2.1 == q.1 + q.2.2.1) && ((match m_jo q.2.1 with
  | some o => decide ((q.1 : Int) + o = (q.2.2.2.2.1 : Int))
  | none => true) && m_lnk k q.2.1 q.2.2.2.2.1 q.2.2.2.2.2))
def m_mk (r : mRec) : Bool := plainName r.1.cls && (decide (r.2.2.1 ≤ 14) && (decide (r.1.cls ≠ "java/lang/invoke/MethodHandle") && (decide (r.1.cls ≠ "java/lang/invoke/VarHandle") && (decide ((parseMethodDescriptor r.1.desc).map (fun d => d.parameters.length) = some r.2.2.2.2.2.2) && (decide (Cond.initialized r.1.cls ∈ mTb) && (match r.2.2.2.2.2.1 with
  | 0 => decide (Cond.instanceMethod r.1 ∈ mTb) && (decide (Cond.selects r.1.cls r.1 r.1 ∈ mTb) && decide (mCl[r.2.2.2.2.1]?.map (fun q => q.1) = some r.1.cls))
  | 1 => decide (Cond.instanceMethod r.1 ∈ mTb) && (decide (r.1.name = "<init>") && decide (r.2.2.2.1 = none))
  | _ => decide (Cond.static r.1 ∈ mTb)))))))
set_option maxRecDepth 100000 in
theorem m_mk_0 : ((mRecs.drop 0).take 20).all m_mk = true := by decide +kernel
set_option maxRecDepth 100000 in
theorem m_mk_1 : ((mRecs.drop 20).take 20).all m_mk = true := by decide +kernel
set_option maxRecDepth 100000 in
theorem m_mk_2 : ((mRecs.drop 40).take 20).all m_mk = true := by decide +kernel
set_option maxRecDepth 100000 in
theorem m_mk_3 : ((mRecs.drop 60).take 20).all m_mk = true := by decide +kernel
set_option maxRecDepth 100000 in
theorem m_mk_4 : ((mRecs.drop 80).take 20).all m_mk = true := by decide +kernel
set_option maxRecDepth 100000 in
theorem m_mk_5 : ((mRecs.drop 100).take 20).all m_mk = true := by decide +kernel
theorem m_mk_all : ∀ k, k < mRecs.length → m_mk (m_rec k) = true := by
  intro k hk
  have e : m_rec k = mRecs[k] := by
    unfold m_rec
    rw [List.getD_eq_getElem?_getD, List.getElem?_append_left hk, List.getElem?_eq_getElem hk]
    rfl
  rw [e]
  have key : ∀ j n : Nat, ((mRecs.drop j).take n).all m_mk = true → j ≤ k → k < j + n → m_mk mRecs[k] = true := by
    intro j n h h1 h2
    refine List.all_eq_true.mp h _ ?_
    refine List.mem_of_getElem? (i := k - j) ?_
    rw [List.getElem?_take, if_pos (by omega), List.getElem?_drop, show j + (k - j) = k by omega, List.getElem?_eq_getElem hk]
  have hl : mRecs.length = 118 := by decide +kernel
  rw [hl] at hk
  by_cases h0 : k < 20
  · exact key 0 20 m_mk_0 (by omega) (by omega)
  by_cases h1 : k < 40
  · exact key 20 20 m_mk_1 (by omega) (by omega)
  by_cases h2 : k < 60
  · exact key 40 20 m_mk_2 (by omega) (by omega)
  by_cases h3 : k < 80
  · exact key 60 20 m_mk_3 (by omega) (by omega)
  by_cases h4 : k < 100
  · exact key 80 20 m_mk_4 (by omega) (by omega)
  by_cases h5 : k < 120
  · exact key 100 20 m_mk_5 (by omega) (by omega)
  omega
end
section
set_option maxRecDepth 100000 in
theorem m_ck_0_0 : mI_0_0.all (m_chk 0) = true := by decide +kernel
set_option maxRecDepth 100000 in
theorem m_ck_1_0 : mI_1_0.all (m_chk 1) = true := by decide +kernel
set_option maxRecDepth 100000 in
theorem m_ck_2_0 : mI_2_0.all (m_chk 2) = true := by decide +kernel
set_option maxRecDepth 100000 in
theorem m_ck_3_0 : mI_3_0.all (m_chk 3) = true := by decide +kernel
set_option maxRecDepth 100000 in
theorem m_ck_4_0 : mI_4_0.all (m_chk 4) = true := by decide +kernel
set_option maxRecDepth 100000 in
theorem m_ck_5_0 : mI_5_0.all (m_chk 5) = true := by decide +kernel
set_option maxRecDepth 100000 in
theorem m_ck_6_0 : mI_6_0.all (m_chk 6) = true := by decide +kernel
set_option maxRecDepth 100000 in
theorem m_ck_7_0 : mI_7_0.all (m_chk 7) = true := by decide +kernel
set_option maxRecDepth 100000 in
theorem m_ck_8_0 : mI_8_0.all (m_chk 8) = true := by decide +kernel
set_option maxRecDepth 100000 in
theorem m_ck_9_0 : mI_9_0.all (m_chk 9) = true := by decide +kernel
set_option maxRecDepth 100000 in
theorem m_ck_10_0 : mI_10_0.all (m_chk 10) = true := by decide +kernel
set_option maxRecDepth 100000 in
theorem m_ck_11_0 : mI_11_0.all (m_chk 11) = true := by decide +kernel
set_option maxRecDepth 100000 in
theorem m_ck_12_0 : mI_12_0.all (m_chk 12) = true := by decide +kernel
set_option maxRecDepth 100000 in
theorem m_ck_13_0 : mI_13_0.all (m_chk 13) = true := by decide +kernel
set_option maxRecDepth 100000 in
theorem m_ck_14_0 : mI_14_0.all (m_chk 14) = true := by decide +kernel
set_option maxRecDepth 100000 in
theorem m_ck_14_1 : mI_14_1.all (m_chk 14) = true := by decide +kernel
set_option maxRecDepth 100000 in
theorem m_ck_15_0 : mI_15_0.all (m_chk 15) = true := by decide +kernel
set_option maxRecDepth 100000 in
theorem m_ck_16_0 : mI_16_0.all (m_chk 16) = true := by decide +kernel
set_option maxRecDepth 100000 in
theorem m_ck_17_0 : mI_17_0.all (m_chk 17) = true := by decide +kernel
set_option maxRecDepth 100000 in
theorem m_ck_18_0 : mI_18_0.all (m_chk 18) = true := by decide +kernel
set_option maxRecDepth 100000 in
theorem m_ck_19_0 : mI_19_0.all (m_chk 19) = true := by decide +kernel
set_option maxRecDepth 100000 in
theorem m_ck_20_0 : mI_20_0.all (m_chk 20) = true := by decide +kernel
set_option maxRecDepth 100000 in
theorem m_ck_21_0 : mI_21_0.all (m_chk 21) = true := by decide +kernel
set_option maxRecDepth 100000 in
theorem m_ck_22_0 : mI_22_0.all (m_chk 22) = true := by decide +kernel
set_option maxRecDepth 100000 in
theorem m_ck_23_0 : mI_23_0.all (m_chk 23) = true := by decide +kernel
set_option maxRecDepth 100000 in
theorem m_ck_24_0 : mI_24_0.all (m_chk 24) = true := by decide +kernel
set_option maxRecDepth 100000 in
theorem m_ck_25_0 : mI_25_0.all (m_chk 25) = true := by decide +kernel
set_option maxRecDepth 100000 in
theorem m_ck_26_0 : mI_26_0.all (m_chk 26) = true := by decide +kernel
set_option maxRecDepth 100000 in
theorem m_ck_27_0 : mI_27_0.all (m_chk 27) = true := by decide +kernel
set_option maxRecDepth 100000 in
theorem m_ck_28_0 : mI_28_0.all (m_chk 28) = true := by decide +kernel
set_option maxRecDepth 100000 in
theorem m_ck_29_0 : mI_29_0.all (m_chk 29) = true := by decide +kernel
set_option maxRecDepth 100000 in
theorem m_ck_30_0 : mI_30_0.all (m_chk 30) = true := by decide +kernel
set_option maxRecDepth 100000 in
theorem m_ck_31_0 : mI_31_0.all (m_chk 31) = true := by decide +kernel
set_option maxRecDepth 100000 in
theorem m_ck_32_0 : mI_32_0.all (m_chk 32) = true := by decide +kernel
set_option maxRecDepth 100000 in
theorem m_ck_33_0 : mI_33_0.all (m_chk 33) = true := by decide +kernel
set_option maxRecDepth 100000 in
theorem m_ck_34_0 : mI_34_0.all (m_chk 34) = true := by decide +kernel
set_option maxRecDepth 100000 in
theorem m_ck_35_0 : mI_35_0.all (m_chk 35) = true := by decide +kernel
set_option maxRecDepth 100000 in
theorem m_ck_36_0 : mI_36_0.all (m_chk 36) = true := by decide +kernel
set_option maxRecDepth 100000 in
theorem m_ck_37_0 : mI_37_0.all (m_chk 37) = true := by decide +kernel
set_option maxRecDepth 100000 in
theorem m_ck_38_0 : mI_38_0.all (m_chk 38) = true := by decide +kernel
set_option maxRecDepth 100000 in
theorem m_ck_39_0 : mI_39_0.all (m_chk 39) = true := by decide +kernel
set_option maxRecDepth 100000 in
theorem m_ck_40_0 : mI_40_0.all (m_chk 40) = true := by decide +kernel
set_option maxRecDepth 100000 in
theorem m_ck_41_0 : mI_41_0.all (m_chk 41) = true := by decide +kernel
set_option maxRecDepth 100000 in
theorem m_ck_42_0 : mI_42_0.all (m_chk 42) = true := by decide +kernel
set_option maxRecDepth 100000 in
theorem m_ck_43_0 : mI_43_0.all (m_chk 43) = true := by decide +kernel
set_option maxRecDepth 100000 in
theorem m_ck_44_0 : mI_44_0.all (m_chk 44) = true := by decide +kernel
set_option maxRecDepth 100000 in
theorem m_ck_45_0 : mI_45_0.all (m_chk 45) = true := by decide +kernel
set_option maxRecDepth 100000 in
theorem m_ck_46_0 : mI_46_0.all (m_chk 46) = true := by decide +kernel
set_option maxRecDepth 100000 in
theorem m_ck_47_0 : mI_47_0.all (m_chk 47) = true := by decide +kernel
set_option maxRecDepth 100000 in
theorem m_ck_48_0 : mI_48_0.all (m_chk 48) = true := by decide +kernel
set_option maxRecDepth 100000 in
theorem m_ck_49_0 : mI_49_0.all (m_chk 49) = true := by decide +kernel
set_option maxRecDepth 100000 in
theorem m_ck_50_0 : mI_50_0.all (m_chk 50) = true := by decide +kernel
set_option maxRecDepth 100000 in
theorem m_ck_51_0 : mI_51_0.all (m_chk 51) = true := by decide +kernel
set_option maxRecDepth 100000 in
theorem m_ck_52_0 : mI_52_0.all (m_chk 52) = true := by decide +kernel
set_option maxRecDepth 100000 in
theorem m_ck_53_0 : mI_53_0.all (m_chk 53) = true := by decide +kernel
set_option maxRecDepth 100000 in
theorem m_ck_54_0 : mI_54_0.all (m_chk 54) = true := by decide +kernel
set_option maxRecDepth 100000 in
theorem m_ck_54_1 : mI_54_1.all (m_chk 54) = true := by decide +kernel
set_option maxRecDepth 100000 in
theorem m_ck_55_0 : mI_55_0.all (m_chk 55) = true := by decide +kernel
set_option maxRecDepth 100000 in
theorem m_ck_56_0 : mI_56_0.all (m_chk 56) = true := by decide +kernel
set_option maxRecDepth 100000 in
theorem m_ck_57_0 : mI_57_0.all (m_chk 57) = true := by decide +kernel
set_option maxRecDepth 100000 in
theorem m_ck_58_0 : mI_58_0.all (m_chk 58) = true := by decide +kernel
set_option maxRecDepth 100000 in
theorem m_ck_59_0 : mI_59_0.all (m_chk 59) = true := by decide +kernel
set_option maxRecDepth 100000 in
theorem m_ck_60_0 : mI_60_0.all (m_chk 60) = true := by decide +kernel
set_option maxRecDepth 100000 in
theorem m_ck_61_0 : mI_61_0.all (m_chk 61) = true := by decide +kernel
set_option maxRecDepth 100000 in
theorem m_ck_62_0 : mI_62_0.all (m_chk 62) = true := by decide +kernel
set_option maxRecDepth 100000 in
theorem m_ck_63_0 : mI_63_0.all (m_chk 63) = true := by decide +kernel
set_option maxRecDepth 100000 in
theorem m_ck_64_0 : mI_64_0.all (m_chk 64) = true := by decide +kernel
set_option maxRecDepth 100000 in
theorem m_ck_65_0 : mI_65_0.all (m_chk 65) = true := by decide +kernel
set_option maxRecDepth 100000 in
theorem m_ck_66_0 : mI_66_0.all (m_chk 66) = true := by decide +kernel
set_option maxRecDepth 100000 in
theorem m_ck_67_0 : mI_67_0.all (m_chk 67) = true := by decide +kernel
set_option maxRecDepth 100000 in
theorem m_ck_68_0 : mI_68_0.all (m_chk 68) = true := by decide +kernel
set_option maxRecDepth 100000 in
theorem m_ck_69_0 : mI_69_0.all (m_chk 69) = true := by decide +kernel
set_option maxRecDepth 100000 in
theorem m_ck_70_0 : mI_70_0.all (m_chk 70) = true := by decide +kernel
set_option maxRecDepth 100000 in
theorem m_ck_71_0 : mI_71_0.all (m_chk 71) = true := by decide +kernel
set_option maxRecDepth 100000 in
theorem m_ck_72_0 : mI_72_0.all (m_chk 72) = true := by decide +kernel
set_option maxRecDepth 100000 in
theorem m_ck_73_0 : mI_73_0.all (m_chk 73) = true := by decide +kernel
set_option maxRecDepth 100000 in
theorem m_ck_74_0 : mI_74_0.all (m_chk 74) = true := by decide +kernel
set_option maxRecDepth 100000 in
theorem m_ck_75_0 : mI_75_0.all (m_chk 75) = true := by decide +kernel
set_option maxRecDepth 100000 in
theorem m_ck_76_0 : mI_76_0.all (m_chk 76) = true := by decide +kernel
set_option maxRecDepth 100000 in
theorem m_ck_77_0 : mI_77_0.all (m_chk 77) = true := by decide +kernel
set_option maxRecDepth 100000 in
theorem m_ck_78_0 : mI_78_0.all (m_chk 78) = true := by decide +kernel
set_option maxRecDepth 100000 in
theorem m_ck_79_0 : mI_79_0.all (m_chk 79) = true := by decide +kernel
set_option maxRecDepth 100000 in
theorem m_ck_79_1 : mI_79_1.all (m_chk 79) = true := by decide +kernel
set_option maxRecDepth 100000 in
theorem m_ck_80_0 : mI_80_0.all (m_chk 80) = true := by decide +kernel
set_option maxRecDepth 100000 in
theorem m_ck_81_0 : mI_81_0.all (m_chk 81) = true := by decide +kernel
set_option maxRecDepth 100000 in
theorem m_ck_82_0 : mI_82_0.all (m_chk 82) = true := by decide +kernel
set_option maxRecDepth 100000 in
theorem m_ck_83_0 : mI_83_0.all (m_chk 83) = true := by decide +kernel
set_option maxRecDepth 100000 in
theorem m_ck_84_0 : mI_84_0.all (m_chk 84) = true := by decide +kernel
set_option maxRecDepth 100000 in
theorem m_ck_84_1 : mI_84_1.all (m_chk 84) = true := by decide +kernel
set_option maxRecDepth 100000 in
theorem m_ck_85_0 : mI_85_0.all (m_chk 85) = true := by decide +kernel
set_option maxRecDepth 100000 in
theorem m_ck_86_0 : mI_86_0.all (m_chk 86) = true := by decide +kernel
set_option maxRecDepth 100000 in
theorem m_ck_87_0 : mI_87_0.all (m_chk 87) = true := by decide +kernel
set_option maxRecDepth 100000 in
theorem m_ck_88_0 : mI_88_0.all (m_chk 88) = true := by decide +kernel
set_option maxRecDepth 100000 in
theorem m_ck_89_0 : mI_89_0.all (m_chk 89) = true := by decide +kernel
set_option maxRecDepth 100000 in
theorem m_ck_89_1 : mI_89_1.all (m_chk 89) = true := by decide +kernel
set_option maxRecDepth 100000 in
theorem m_ck_90_0 : mI_90_0.all (m_chk 90) = true := by decide +kernel
set_option maxRecDepth 100000 in
theorem m_ck_91_0 : mI_91_0.all (m_chk 91) = true := by decide +kernel
set_option maxRecDepth 100000 in
theorem m_ck_92_0 : mI_92_0.all (m_chk 92) = true := by decide +kernel
set_option maxRecDepth 100000 in
theorem m_ck_92_1 : mI_92_1.all (m_chk 92) = true := by decide +kernel
set_option maxRecDepth 100000 in
theorem m_ck_93_0 : mI_93_0.all (m_chk 93) = true := by decide +kernel
set_option maxRecDepth 100000 in
theorem m_ck_94_0 : mI_94_0.all (m_chk 94) = true := by decide +kernel
set_option maxRecDepth 100000 in
theorem m_ck_95_0 : mI_95_0.all (m_chk 95) = true := by decide +kernel
set_option maxRecDepth 100000 in
theorem m_ck_96_0 : mI_96_0.all (m_chk 96) = true := by decide +kernel
set_option maxRecDepth 100000 in
theorem m_ck_97_0 : mI_97_0.all (m_chk 97) = true := by decide +kernel
set_option maxRecDepth 100000 in
theorem m_ck_98_0 : mI_98_0.all (m_chk 98) = true := by decide +kernel
set_option maxRecDepth 100000 in
theorem m_ck_99_0 : mI_99_0.all (m_chk 99) = true := by decide +kernel
set_option maxRecDepth 100000 in
theorem m_ck_99_1 : mI_99_1.all (m_chk 99) = true := by decide +kernel
set_option maxRecDepth 100000 in
theorem m_ck_100_0 : mI_100_0.all (m_chk 100) = true := by decide +kernel
set_option maxRecDepth 100000 in
theorem m_ck_100_1 : mI_100_1.all (m_chk 100) = true := by decide +kernel
set_option maxRecDepth 100000 in
theorem m_ck_101_0 : mI_101_0.all (m_chk 101) = true := by decide +kernel
set_option maxRecDepth 100000 in
theorem m_ck_102_0 : mI_102_0.all (m_chk 102) = true := by decide +kernel
set_option maxRecDepth 100000 in
theorem m_ck_103_0 : mI_103_0.all (m_chk 103) = true := by decide +kernel
set_option maxRecDepth 100000 in
theorem m_ck_103_1 : mI_103_1.all (m_chk 103) = true := by decide +kernel
set_option maxRecDepth 100000 in
theorem m_ck_104_0 : mI_104_0.all (m_chk 104) = true := by decide +kernel
set_option maxRecDepth 100000 in
theorem m_ck_104_1 : mI_104_1.all (m_chk 104) = true := by decide +kernel
set_option maxRecDepth 100000 in
theorem m_ck_105_0 : mI_105_0.all (m_chk 105) = true := by decide +kernel
set_option maxRecDepth 100000 in
theorem m_ck_105_1 : mI_105_1.all (m_chk 105) = true := by decide +kernel
set_option maxRecDepth 100000 in
theorem m_ck_106_0 : mI_106_0.all (m_chk 106) = true := by decide +kernel
set_option maxRecDepth 100000 in
theorem m_ck_107_0 : mI_107_0.all (m_chk 107) = true := by decide +kernel
set_option maxRecDepth 100000 in
theorem m_ck_107_1 : mI_107_1.all (m_chk 107) = true := by decide +kernel
set_option maxRecDepth 100000 in
theorem m_ck_108_0 : mI_108_0.all (m_chk 108) = true := by decide +kernel
set_option maxRecDepth 100000 in
theorem m_ck_109_0 : mI_109_0.all (m_chk 109) = true := by decide +kernel
set_option maxRecDepth 100000 in
theorem m_ck_110_0 : mI_110_0.all (m_chk 110) = true := by decide +kernel
set_option maxRecDepth 100000 in
theorem m_ck_111_0 : mI_111_0.all (m_chk 111) = true := by decide +kernel
set_option maxRecDepth 100000 in
theorem m_ck_112_0 : mI_112_0.all (m_chk 112) = true := by decide +kernel
set_option maxRecDepth 100000 in
theorem m_ck_113_0 : mI_113_0.all (m_chk 113) = true := by decide +kernel
set_option maxRecDepth 100000 in
theorem m_ck_114_0 : mI_114_0.all (m_chk 114) = true := by decide +kernel
set_option maxRecDepth 100000 in
theorem m_ck_115_0 : mI_115_0.all (m_chk 115) = true := by decide +kernel
set_option maxRecDepth 100000 in
theorem m_ck_116_0 : mI_116_0.all (m_chk 116) = true := by decide +kernel
set_option maxRecDepth 100000 in
theorem m_ck_117_0 : mI_117_0.all (m_chk 117) = true := by decide +kernel
set_option maxRecDepth 100000 in
theorem m_ck_118_0 : mI_118_0.all (m_chk 118) = true := by decide +kernel
set_option maxRecDepth 100000 in
theorem m_ck_118_1 : mI_118_1.all (m_chk 118) = true := by decide +kernel
set_option maxRecDepth 100000 in
theorem m_ck_118_2 : mI_118_2.all (m_chk 118) = true := by decide +kernel
set_option maxRecDepth 100000 in
theorem m_ck_118_3 : mI_118_3.all (m_chk 118) = true := by decide +kernel
set_option maxRecDepth 100000 in
theorem m_ck_118_4 : mI_118_4.all (m_chk 118) = true := by decide +kernel
set_option maxRecDepth 100000 in
theorem m_ck_118_5 : mI_118_5.all (m_chk 118) = true := by decide +kernel
set_option maxRecDepth 100000 in
theorem m_ck_118_6 : mI_118_6.all (m_chk 118) = true := by decide +kernel
set_option maxRecDepth 100000 in
theorem m_ck_118_7 : mI_118_7.all (m_chk 118) = true := by decide +kernel
theorem m_ck : ∀ k, (m_t k).all (m_chk k) = true
  | 0 => m_ck_0_0
  | 1 => m_ck_1_0
  | 2 => m_ck_2_0
  | 3 => m_ck_3_0
  | 4 => m_ck_4_0
  | 5 => m_ck_5_0
  | 6 => m_ck_6_0
  | 7 => m_ck_7_0
  | 8 => m_ck_8_0
  | 9 => m_ck_9_0
  | 10 => m_ck_10_0
  | 11 => m_ck_11_0
  | 12 => m_ck_12_0
  | 13 => m_ck_13_0
  | 14 => mx_all m_ck_14_0 m_ck_14_1
  | 15 => m_ck_15_0
  | 16 => m_ck_16_0
  | 17 => m_ck_17_0
  | 18 => m_ck_18_0
  | 19 => m_ck_19_0
  | 20 => m_ck_20_0
  | 21 => m_ck_21_0
  | 22 => m_ck_22_0
  | 23 => m_ck_23_0
  | 24 => m_ck_24_0
  | 25 => m_ck_25_0
  | 26 => m_ck_26_0
  | 27 => m_ck_27_0
  | 28 => m_ck_28_0
  | 29 => m_ck_29_0
  | 30 => m_ck_30_0
  | 31 => m_ck_31_0
  | 32 => m_ck_32_0
  | 33 => m_ck_33_0
  | 34 => m_ck_34_0
  | 35 => m_ck_35_0
  | 36 => m_ck_36_0
  | 37 => m_ck_37_0
  | 38 => m_ck_38_0
  | 39 => m_ck_39_0
  | 40 => m_ck_40_0
  | 41 => m_ck_41_0
  | 42 => m_ck_42_0
  | 43 => m_ck_43_0
  | 44 => m_ck_44_0
  | 45 => m_ck_45_0
  | 46 => m_ck_46_0
  | 47 => m_ck_47_0
  | 48 => m_ck_48_0
  | 49 => m_ck_49_0
  | 50 => m_ck_50_0
  | 51 => m_ck_51_0
  | 52 => m_ck_52_0
  | 53 => m_ck_53_0
  | 54 => mx_all m_ck_54_0 m_ck_54_1
  | 55 => m_ck_55_0
  | 56 => m_ck_56_0
  | 57 => m_ck_57_0
  | 58 => m_ck_58_0
  | 59 => m_ck_59_0
  | 60 => m_ck_60_0
  | 61 => m_ck_61_0
  | 62 => m_ck_62_0
  | 63 => m_ck_63_0
  | 64 => m_ck_64_0
  | 65 => m_ck_65_0
  | 66 => m_ck_66_0
  | 67 => m_ck_67_0
  | 68 => m_ck_68_0
  | 69 => m_ck_69_0
  | 70 => m_ck_70_0
  | 71 => m_ck_71_0
  | 72 => m_ck_72_0
  | 73 => m_ck_73_0
  | 74 => m_ck_74_0
  | 75 => m_ck_75_0
  | 76 => m_ck_76_0
  | 77 => m_ck_77_0
  | 78 => m_ck_78_0
  | 79 => mx_all m_ck_79_0 m_ck_79_1
  | 80 => m_ck_80_0
  | 81 => m_ck_81_0
  | 82 => m_ck_82_0
  | 83 => m_ck_83_0
  | 84 => mx_all m_ck_84_0 m_ck_84_1
  | 85 => m_ck_85_0
  | 86 => m_ck_86_0
  | 87 => m_ck_87_0
  | 88 => m_ck_88_0
  | 89 => mx_all m_ck_89_0 m_ck_89_1
  | 90 => m_ck_90_0
  | 91 => m_ck_91_0
  | 92 => mx_all m_ck_92_0 m_ck_92_1
  | 93 => m_ck_93_0
  | 94 => m_ck_94_0
  | 95 => m_ck_95_0
  | 96 => m_ck_96_0
  | 97 => m_ck_97_0
  | 98 => m_ck_98_0
  | 99 => mx_all m_ck_99_0 m_ck_99_1
  | 100 => mx_all m_ck_100_0 m_ck_100_1
  | 101 => m_ck_101_0
  | 102 => m_ck_102_0
  | 103 => mx_all m_ck_103_0 m_ck_103_1
  | 104 => mx_all m_ck_104_0 m_ck_104_1
  | 105 => mx_all m_ck_105_0 m_ck_105_1
  | 106 => m_ck_106_0
  | 107 => mx_all m_ck_107_0 m_ck_107_1
  | 108 => m_ck_108_0
  | 109 => m_ck_109_0
  | 110 => m_ck_110_0
  | 111 => m_ck_111_0
  | 112 => m_ck_112_0
  | 113 => m_ck_113_0
  | 114 => m_ck_114_0
  | 115 => m_ck_115_0
  | 116 => m_ck_116_0
  | 117 => m_ck_117_0
  | 118 => mx_all (mx_all (mx_all (mx_all (mx_all (mx_all (mx_all m_ck_118_0 m_ck_118_1) m_ck_118_2) m_ck_118_3) m_ck_118_4) m_ck_118_5) m_ck_118_6) m_ck_118_7
  | n + 119 => rfl
end
section
theorem m_i_mem {k pc : Nat} {e : Instr × Nat × Nat × Nat × Nat} (hi : m_i k pc = some e) : (pc, e) ∈ m_t k := by
  unfold m_i at hi
  cases hq : (m_t k).find? (fun q => q.1 == pc) with
  | none => rw [hq] at hi; cases hi
  | some q =>
    rw [hq] at hi
    simp only [Option.map_some, Option.some.injEq] at hi
    have h1 := List.find?_some hq
    simp only [beq_iff_eq] at h1
    rw [← hi, ← h1]
    exact List.mem_of_find?_eq_some hq
theorem m_get {k pc : Nat} {e : Instr × Nat × Nat × Nat × Nat} (hi : m_i k pc = some e) : m_chk k (pc, e) = true := List.all_eq_true.mp (m_ck k) _ (m_i_mem hi)
theorem m_got {k pc len nx a1 a2 : Nat} {ins : Instr} (hi : m_i k pc = some (ins, len, nx, a1, a2)) : decode (m_b k) pc = .ok (ins, len) ∧ nx = pc + len ∧ (∀ o, m_jo ins = some o → (pc : Int) + o = (a1 : Int)) ∧ m_lnk k ins a1 a2 = true := by
  have h := m_get hi
  unfold m_chk at h
  simp only [Bool.and_eq_true, decide_eq_true_eq, beq_iff_eq] at h
  obtain ⟨h1, h2, h3, h4⟩ := h
  refine ⟨h1, h2, fun o ho => ?_, h4⟩
  rw [ho] at h3
  simpa using h3
theorem m_dec {k pc len nx a1 a2 : Nat} {ins : Instr} (hi : m_i k pc = some (ins, len, nx, a1, a2)) : decode (m_b k) pc = .ok (ins, len) ∧ nx = pc + len := ⟨(m_got hi).1, (m_got hi).2.1⟩
theorem m_jmp {k pc len nx a1 a2 : Nat} {ins : Instr} {off : Int} (hi : m_i k pc = some (ins, len, nx, a1, a2)) (hj : m_jo ins = some off) : (pc : Int) + off = (a1 : Int) := (m_got hi).2.2.1 off hj
theorem m_fk_ok {own : String} {idx ci sl : Nat} (h : m_fk own idx ci sl = true) : ∃ Cn T N, mCl[ci]? = some (Cn, T, N) ∧ sl < N ∧ Cond.fieldLink own idx (T sl).1 (T sl).2.1 (T sl).2.2.1 ∈ mTb := by
  unfold m_fk at h
  cases hc : mCl[ci]? with
  | none => rw [hc] at h; cases h
  | some r =>
    rw [hc] at h
    simp only [Bool.and_eq_true, decide_eq_true_eq] at h
    exact ⟨r.1, r.2.1, r.2.2, rfl, h.1, h.2⟩
theorem m_fld {k pc len nx ci sl idx : Nat} {ins : Instr} (hi : m_i k pc = some (ins, len, nx, ci, sl)) (h : ins = .getfield idx ∨ ins = .putfield idx) : ∃ Cn T N, mCl[ci]? = some (Cn, T, N) ∧ sl < N ∧ Cond.fieldLink (m_y k).cls idx (T sl).1 (T sl).2.1 (T sl).2.2.1 ∈ mTb := by
  have h4 := (m_got hi).2.2.2
  rcases h with rfl | rfl
  · exact m_fk_ok h4
  · simp only [m_lnk, Bool.and_eq_true] at h4
    exact m_fk_ok h4.1
theorem m_fin {k pc len nx ci sl idx : Nat} {Cn : String} {T : u_T} {N : Nat} (hi : m_i k pc = some (.putfield idx, len, nx, ci, sl)) (hc : mCl[ci]? = some (Cn, T, N)) : (T sl).2.2.2 = false ∨ ((T sl).2.2.2 = true ∧ (m_y k).name = "<init>" ∧ (T sl).1 = (m_y k).cls) := by
  have h4 := (m_got hi).2.2.2
  simp only [m_lnk, Bool.and_eq_true] at h4
  have h5 := h4.2
  unfold m_pk at h5
  rw [hc] at h5
  simp only [Bool.or_eq_true, Bool.not_eq_true', Bool.and_eq_true, beq_iff_eq] at h5
  rcases h5 with h5 | ⟨h5, h6, h7⟩
  · exact Or.inl h5
  · exact Or.inr ⟨h5, h6, h7⟩
theorem m_new {k pc len nx ci a2 idx : Nat} (hi : m_i k pc = some (.new idx, len, nx, ci, a2)) : ∃ Cn T N, mCl[ci]? = some (Cn, T, N) ∧ N = a2 ∧ Cond.classLink (m_y k).cls idx Cn ∈ mTb ∧ Cond.instantiable Cn N ∈ mTb ∧ Cond.initialized Cn ∈ mTb := by
  have h := (m_got hi).2.2.2
  simp only [m_lnk] at h
  unfold m_nk at h
  cases hc : mCl[ci]? with
  | none => rw [hc] at h; cases h
  | some r =>
    rw [hc] at h
    simp only [Bool.and_eq_true, decide_eq_true_eq, beq_iff_eq] at h
    exact ⟨r.1, r.2.1, r.2.2, rfl, h.1, h.2.1, h.2.2.1, h.2.2.2⟩
theorem m_arr {k pc len nx a1 a2 : Nat} {t : ArrayType} (hi : m_i k pc = some (.newarray t, len, nx, a1, a2)) : Cond.arrayClass (newarray.typeOf t) ∈ mTb := by
  have h := (m_got hi).2.2.2
  simp only [m_lnk, decide_eq_true_eq] at h
  exact h
theorem m_code_in {k : Nat} (hk : k < mRecs.length) : Cond.code (m_y k) (m_b k) (m_l k) (m_r k) ∈ mTb := by
  have e : m_rec k = mRecs[k] := by
    unfold m_rec
    rw [List.getD_eq_getElem?_getD, List.getElem?_append_left hk, List.getElem?_eq_getElem hk]
    rfl
  refine List.mem_append_left _ (List.mem_map.mpr ⟨mRecs[k], List.getElem_mem hk, ?_⟩)
  unfold m_y m_b m_l m_r
  rw [e]
theorem m_w_in {k : Nat} (hk : k < mRecs.length) : GoodIn mTb (m_w k) := by
  intro w hw
  rcases List.mem_cons.mp hw with rfl | hw
  · exact ⟨m_code_in hk, Or.inl rfl⟩
  · exact ⟨hw, (mTb_in w hw).2⟩
theorem m_meth {k : Nat} (hk : k < mRecs.length) : plainName (m_y k).cls = true ∧ m_l k ≤ 14 ∧ (m_y k).cls ≠ "java/lang/invoke/MethodHandle" ∧ (m_y k).cls ≠ "java/lang/invoke/VarHandle" ∧ (parseMethodDescriptor (m_y k).desc).map (fun d => d.parameters.length) = some (m_na k) ∧ Cond.initialized (m_y k).cls ∈ mTb := by
  have h := m_mk_all k hk
  unfold m_mk at h
  simp only [Bool.and_eq_true, decide_eq_true_eq] at h
  obtain ⟨h1, h2, h3, h4, h5, h6, -⟩ := h
  exact ⟨h1, h2, h3, h4, h5, h6⟩
theorem m_kind0 {k : Nat} (hk : k < mRecs.length) (h0 : m_kd k = 0) : Cond.instanceMethod (m_y k) ∈ mTb ∧ Cond.selects (m_y k).cls (m_y k) (m_y k) ∈ mTb ∧ ∃ T N, mCl[m_ci k]? = some ((m_y k).cls, T, N) := by
  have h := m_mk_all k hk
  unfold m_mk at h
  simp only [Bool.and_eq_true, decide_eq_true_eq] at h
  obtain ⟨-, -, -, -, -, -, h7⟩ := h
  have e : (m_rec k).2.2.2.2.2.1 = 0 := h0
  rw [e] at h7
  simp only [Bool.and_eq_true, decide_eq_true_eq] at h7
  refine ⟨h7.1, h7.2.1, ?_⟩
  have h8 := h7.2.2
  cases hc : mCl[(m_rec k).2.2.2.2.1]? with
  | none => rw [hc] at h8; cases h8
  | some r =>
    rw [hc] at h8
    simp only [Option.map_some, Option.some.injEq] at h8
    refine ⟨r.2.1, r.2.2, ?_⟩
    show mCl[(m_rec k).2.2.2.2.1]? = _
    rw [hc]
    show some r = some ((m_rec k).1.cls, r.2.1, r.2.2)
    rw [← h8]
theorem m_kind1 {k : Nat} (hk : k < mRecs.length) (h0 : m_kd k = 1) : Cond.instanceMethod (m_y k) ∈ mTb ∧ (m_y k).name = "<init>" ∧ m_r k = none := by
  have h := m_mk_all k hk
  unfold m_mk at h
  simp only [Bool.and_eq_true, decide_eq_true_eq] at h
  obtain ⟨-, -, -, -, -, -, h7⟩ := h
  have e : (m_rec k).2.2.2.2.2.1 = 1 := h0
  rw [e] at h7
  simp only [Bool.and_eq_true, decide_eq_true_eq] at h7
  exact h7
theorem m_kind2 {k : Nat} (hk : k < mRecs.length) (h0 : m_kd k = 2) : Cond.static (m_y k) ∈ mTb := by
  have h := m_mk_all k hk
  unfold m_mk at h
  simp only [Bool.and_eq_true, decide_eq_true_eq] at h
  obtain ⟨-, -, -, -, -, -, h7⟩ := h
  have e : (m_rec k).2.2.2.2.2.1 = 2 := h0
  rw [e] at h7
  have h8 : decide (Cond.static (m_y k) ∈ mTb) = true := h7
  exact of_decide_eq_true h8
theorem m_cV {k pc len nx k' na idx : Nat} (hi : m_i k pc = some (.invokevirtual idx, len, nx, k', na)) : na = m_na k' + 1 ∧ GoodIn mTb (wsV (m_y k).cls idx (m_y k').cls (m_y k') (m_w k')) ∧ ((m_y k').cls = (m_y k').cls ∧ (m_y k').cls ≠ "java/lang/invoke/MethodHandle" ∧ (m_y k').cls ≠ "java/lang/invoke/VarHandle" ∧ (parseMethodDescriptor (m_y k').desc).map (fun d => d.parameters.length) = some (m_na k')) ∧ plainName (m_y k').cls = true ∧ m_l k' ≤ 14 ∧ ∃ T N, mCl[m_ci k']? = some ((m_y k').cls, T, N) := by
  have h := (m_got hi).2.2.2
  simp only [m_lnk, Bool.and_eq_true, decide_eq_true_eq, beq_iff_eq] at h
  obtain ⟨hk, h0, hn, hl⟩ := h
  obtain ⟨q1, q2, q3, q4, q5, q6⟩ := m_meth hk
  obtain ⟨r1, r2, r3⟩ := m_kind0 hk h0
  refine ⟨hn, ?_, ⟨rfl, q3, q4, q5⟩, q1, q2, r3⟩
  intro w hw
  unfold wsV at hw
  rcases List.mem_append.mp hw with hw | hw
  · simp only [List.mem_cons, List.not_mem_nil, or_false] at hw
    rcases hw with rfl | rfl | rfl | rfl
    · exact ⟨hl, Or.inl rfl⟩
    · exact ⟨r1, Or.inl rfl⟩
    · exact ⟨r2, Or.inl rfl⟩
    · exact ⟨q6, Or.inl rfl⟩
  · exact m_w_in hk w hw
theorem m_cI {k pc len nx k' na idx : Nat} (hi : m_i k pc = some (.invokespecial idx, len, nx, k', na)) (h9 : k' ≠ 999) : na = m_na k' + 1 ∧ GoodIn mTb (m_w k') ∧ ((m_y k').cls ≠ "java/lang/invoke/MethodHandle" ∧ (m_y k').cls ≠ "java/lang/invoke/VarHandle" ∧ (parseMethodDescriptor (m_y k').desc).map (fun d => d.parameters.length) = some (m_na k')) ∧ plainName (m_y k').cls = true ∧ m_l k' ≤ 14 ∧ (m_y k').name = "<init>" ∧ m_r k' = none ∧ Cond.initialized (m_y k').cls ∈ mTb ∧ Cond.instanceMethod (m_y k') ∈ mTb ∧ (Cond.methodLink (m_y k).cls idx (m_y k') ∈ mTb ∨ ∃ host, Cond.methodLinkNest (m_y k).cls idx (m_y k') host ∈ mNw) := by
  have h := (m_got hi).2.2.2
  simp only [m_lnk, if_neg h9, m_ik, Bool.and_eq_true, Bool.or_eq_true, decide_eq_true_eq, beq_iff_eq] at h
  obtain ⟨hk, h0, hn, hl⟩ := h
  obtain ⟨q1, q2, q3, q4, q5, q6⟩ := m_meth hk
  obtain ⟨r1, r2, r3⟩ := m_kind1 hk h0
  exact ⟨hn, m_w_in hk, ⟨q3, q4, q5⟩, q1, q2, r2, r3, q6, r1, hl.imp id (fun z => ⟨_, z⟩)⟩
theorem m_cS {k pc len nx k' na idx : Nat} (hi : m_i k pc = some (.invokestatic idx, len, nx, k', na)) (h9 : k' ≠ 998 ∧ k' ≠ 997 ∧ k' ≠ 996) : na = m_na k' ∧ GoodIn mTb (wsS (m_y k).cls idx (m_y k') (m_w k')) ∧ ((m_y k').cls = (m_y k).cls ∧ (m_y k').cls ≠ "java/lang/invoke/MethodHandle" ∧ (m_y k').cls ≠ "java/lang/invoke/VarHandle" ∧ (parseMethodDescriptor (m_y k').desc).map (fun d => d.parameters.length) = some (m_na k')) ∧ plainName (m_y k').cls = true ∧ m_l k' ≤ 14 := by
  have h := (m_got hi).2.2.2
  simp only [m_lnk, if_neg h9.1, if_neg h9.2.1, if_neg h9.2.2, m_sk, Bool.and_eq_true, decide_eq_true_eq, beq_iff_eq] at h
  obtain ⟨hk, h0, hn, hl, hc⟩ := h
  obtain ⟨q1, q2, q3, q4, q5, q6⟩ := m_meth hk
  have r1 := m_kind2 hk h0
  refine ⟨hn, ?_, ⟨hc, q3, q4, q5⟩, q1, q2⟩
  intro w hw
  unfold wsS at hw
  rcases List.mem_append.mp hw with hw | hw
  · simp only [List.mem_cons, List.not_mem_nil, or_false] at hw
    rcases hw with rfl | rfl | rfl
    · exact ⟨hl, Or.inl rfl⟩
    · exact ⟨r1, Or.inl rfl⟩
    · exact ⟨by rw [← hc]; exact q6, Or.inl rfl⟩
  · exact m_w_in hk w hw
theorem m_o1 : Cond.instanceMethod objectInit ∈ mTb := by decide +kernel
theorem m_o2 : Cond.code objectInit ⟨#[0xb1]⟩ 1 none ∈ mTb := by decide +kernel
theorem m_obj {k pc len nx idx na : Nat} (hi : m_i k pc = some (.invokespecial idx, len, nx, 999, na)) : Cond.methodLink (m_y k).cls idx objectInit ∈ mTb ∧ Cond.instanceMethod objectInit ∈ mTb ∧ Cond.code objectInit ⟨#[0xb1]⟩ 1 none ∈ mTb := by
  have h := (m_got hi).2.2.2
  simp only [m_lnk, if_true, decide_eq_true_eq] at h
  exact ⟨h, m_o1, m_o2⟩
theorem m_x1 : Cond.static Lib.Math.max.name ∈ mTb := by decide +kernel
theorem m_x2 : Cond.initialized "java/lang/Math" ∈ mTb := by decide +kernel
theorem m_x3 : Cond.code Lib.Math.max.name Lib.Math.max.code 2 (some .int) ∈ mTb := by decide +kernel
theorem m_n1 : Cond.static Lib.Math.min.name ∈ mTb := by decide +kernel
theorem m_n3 : Cond.code Lib.Math.min.name Lib.Math.min.code 2 (some .int) ∈ mTb := by decide +kernel
theorem m_max {k pc len nx idx na : Nat} (hi : m_i k pc = some (.invokestatic idx, len, nx, 998, na)) : Cond.methodLink (m_y k).cls idx Lib.Math.max.name ∈ mTb ∧ Cond.static Lib.Math.max.name ∈ mTb ∧ Cond.initialized "java/lang/Math" ∈ mTb ∧ Cond.code Lib.Math.max.name Lib.Math.max.code 2 (some .int) ∈ mTb := by
  have h := (m_got hi).2.2.2
  simp only [m_lnk, if_true, decide_eq_true_eq] at h
  exact ⟨h, m_x1, m_x2, m_x3⟩
theorem m_min {k pc len nx idx na : Nat} (hi : m_i k pc = some (.invokestatic idx, len, nx, 997, na)) : Cond.methodLink (m_y k).cls idx Lib.Math.min.name ∈ mTb ∧ Cond.static Lib.Math.min.name ∈ mTb ∧ Cond.initialized "java/lang/Math" ∈ mTb ∧ Cond.code Lib.Math.min.name Lib.Math.min.code 2 (some .int) ∈ mTb := by
  have h := (m_got hi).2.2.2
  simp only [m_lnk, if_neg (show ¬ (997 : Nat) = 998 by decide), if_true, decide_eq_true_eq] at h
  exact ⟨h, m_n1, m_x2, m_n3⟩
theorem m_y1 : Cond.native arraycopyName ∈ mTb := by decide +kernel
theorem m_y2 : Cond.static arraycopyName ∈ mTb := by decide +kernel
theorem m_y3 : Cond.initialized "java/lang/System" ∈ mTb := by decide +kernel
theorem m_cpy {k pc len nx idx na : Nat} (hi : m_i k pc = some (.invokestatic idx, len, nx, 996, na)) : Cond.methodLink (m_y k).cls idx arraycopyName ∈ mTb ∧ Cond.native arraycopyName ∈ mTb ∧ Cond.static arraycopyName ∈ mTb ∧ Cond.initialized "java/lang/System" ∈ mTb := by
  have h := (m_got hi).2.2.2
  simp only [m_lnk, if_neg (show ¬ (996 : Nat) = 998 by decide), if_neg (show ¬ (996 : Nat) = 997 by decide), if_true, decide_eq_true_eq] at h
  exact ⟨h, m_y1, m_y2, m_y3⟩
theorem m_cls {ci : Nat} {Cn : String} {T : u_T} {N : Nat} (hc : mCl[ci]? = some (Cn, T, N)) : (∀ w ∈ u_ws Cn T N, w ∈ mTb) ∧ (∀ j, j < N → parseFieldDescriptor (T j).2.2.1 = some (mTf ci j)) ∧ (∀ a, a < N → ∀ b, b < N → a ≠ b → (T a).2.1 ≠ (T b).2.1) := by
  match ci, hc with
  | 0, hc => cases hc; exact ⟨by decide +kernel, by decide +kernel, by decide +kernel⟩
  | 1, hc => cases hc; exact ⟨by decide +kernel, by decide +kernel, by decide +kernel⟩
  | 2, hc => cases hc; exact ⟨by decide +kernel, by decide +kernel, by decide +kernel⟩
  | 3, hc => cases hc; exact ⟨by decide +kernel, by decide +kernel, by decide +kernel⟩
  | 4, hc => cases hc; exact ⟨by decide +kernel, by decide +kernel, by decide +kernel⟩
  | n + 5, hc => simp [mCl] at hc
theorem m_df {ci : Nat} {Cn : String} {T : u_T} {N : Nat} (hc : mCl[ci]? = some (Cn, T, N)) : ∀ j, j < N → defaultValue (mTf ci j) = vp_V (mDf ci) j := by
  match ci, hc with
  | 0, hc => cases hc; decide +kernel
  | 1, hc => cases hc; decide +kernel
  | 2, hc => cases hc; decide +kernel
  | 3, hc => cases hc; decide +kernel
  | 4, hc => cases hc; decide +kernel
  | n + 5, hc => simp [mCl] at hc
end
section
/-! THE SMALL MACHINE. Cells are a list (the heap 'h'); a reference is a place in it; 'ad' says at which address of the real heap the place lies.
 AX d k C S X pc lv st h n1 n2 F: from the method k at pc with locals lv, stack st, cells h (n1 cells of n2 slots made so far, at most C of S; calls at most d deep) the real machine comes to where F says. -/
abbrev ax_L : Type := List (Nat × Value)
abbrev ax_H : Type := List va_E
abbrev ax_F : Type := Nat → ax_L → List Value → ax_H → Nat → Nat → Prop
def ax_v (b : Nat) (ad : Nat → Nat) : Value → Value
  | .ref i => .ref (ad i)
  | .retAddr _ => .ref b
  | v => v
theorem ax_v_cat (b : Nat) (ad : Nat → Nat) (v : Value) : (ax_v b ad v).category = v.category := by cases v <;> rfl
def ax_e (cid : Nat → ClassId) (b : Nat) (ad : Nat → Nat) : va_E → va_E
  | .inl (t, a) => .inl (cid t, a)
  | .inr (c, fs) => .inr (c, fs.map (ax_v b ad))
def ax_w (cid : Nat → ClassId) (b : Nat) (ad : Nat → Nat) (h : ax_H) : va_W := h.mapIdx (fun i e => (ad i, ax_e cid b ad e))
def ax_l (b : Nat) (ad : Nat → Nat) (lv : ax_L) : List (Nat × Value) := lv.map (fun q => (q.1, ax_v b ad q.2))
def ax_ok (n : Nat) : Value → Bool
  | .ref i => decide (i < n)
  | _ => true
def ax_okE (n : Nat) : va_E → Bool
  | .inl _ => true
  | .inr (_, fs) => fs.all (ax_ok n)
def ax_okF (n : Nat) (lv : ax_L) (st : List Value) : Bool := lv.all (fun q => ax_ok n q.2) && st.all (ax_ok n)
def ax_get (lv : ax_L) (i : Nat) : Option Value := (lv.find? (fun q => q.1 == i)).map (fun q => q.2)
def ax_put (lv : ax_L) (i : Nat) (v : Value) : ax_L := (i, v) :: lv.filter (fun q => !(q.1 == i) && !(q.1 + 1 == i && q.2.category == 2))
def ax_putL (lv : ax_L) (i : Nat) (v : Value) : ax_L := (i, v) :: lv.filter (fun q => !(q.1 == i) && (!(q.1 == i + 1) && !(q.1 + 1 == i && q.2.category == 2)))
theorem ax_v_ext {b n : Nat} {ad ad' : Nat → Nat} {v : Value} (h : ax_ok n v = true) (e : ∀ i, i < n → ad' i = ad i) : ax_v b ad' v = ax_v b ad v := by
  cases v <;> simp_all [ax_v, ax_ok]
theorem ax_e_ext {cid : Nat → ClassId} {b n : Nat} {ad ad' : Nat → Nat} {v : va_E} (h : ax_okE n v = true) (e : ∀ i, i < n → ad' i = ad i) : ax_e cid b ad' v = ax_e cid b ad v := by
  rcases v with ⟨t, a⟩ | ⟨c, fs⟩
  · rfl
  · simp only [ax_e]
    congr 2
    apply List.map_congr_left
    intro x hx
    exact ax_v_ext (List.all_eq_true.mp h x hx) e
theorem ax_l_ext {b n : Nat} {ad ad' : Nat → Nat} {lv : ax_L} (h : lv.all (fun q => ax_ok n q.2) = true) (e : ∀ i, i < n → ad' i = ad i) : ax_l b ad' lv = ax_l b ad lv := by
  apply List.map_congr_left
  intro x hx
  rw [ax_v_ext (List.all_eq_true.mp h x hx) e]
theorem ax_s_ext {b n : Nat} {ad ad' : Nat → Nat} {st : List Value} (h : st.all (ax_ok n) = true) (e : ∀ i, i < n → ad' i = ad i) : st.map (ax_v b ad') = st.map (ax_v b ad) := by
  apply List.map_congr_left
  intro x hx
  exact ax_v_ext (List.all_eq_true.mp h x hx) e
theorem ax_w_get (cid : Nat → ClassId) (b : Nat) (ad : Nat → Nat) (h : ax_H) (k : Nat) : (ax_w cid b ad h)[k]? = h[k]?.map (fun e => (ad k, ax_e cid b ad e)) := by
  unfold ax_w
  rw [List.getElem?_mapIdx]
theorem ax_w_at {cid : Nat → ClassId} {b : Nat} {ad : Nat → Nat} {h : ax_H} {k : Nat} {e : va_E} (hk : h[k]? = some e) : (ax_w cid b ad h)[k]? = some (ad k, ax_e cid b ad e) := by
  rw [ax_w_get, hk]; rfl
theorem ax_w_set (cid : Nat → ClassId) (b : Nat) (ad : Nat → Nat) (h : ax_H) (k : Nat) (e : va_E) : (ax_w cid b ad h).set k (ad k, ax_e cid b ad e) = ax_w cid b ad (h.set k e) := by
  apply List.ext_getElem?
  intro i
  rw [ax_w_get, List.getElem?_set, List.getElem?_set, ax_w_get]
  have hl : (ax_w cid b ad h).length = h.length := by unfold ax_w; exact List.length_mapIdx
  by_cases hk : k = i
  · subst hk
    rw [if_pos rfl, if_pos rfl, hl]
    by_cases hh : k < h.length
    · rw [if_pos hh, if_pos hh]; rfl
    · rw [if_neg hh, if_neg hh]; rfl
  · rw [if_neg hk, if_neg hk]
theorem ax_w_len (cid : Nat → ClassId) (b : Nat) (ad : Nat → Nat) (h : ax_H) : (ax_w cid b ad h).length = h.length := by unfold ax_w; exact List.length_mapIdx
theorem ax_w_ext {cid : Nat → ClassId} {b : Nat} {ad ad' : Nat → Nat} {h : ax_H} (hc : h.all (ax_okE h.length) = true) (e : ∀ i, i < h.length → ad' i = ad i) : ax_w cid b ad' h = ax_w cid b ad h := by
  apply List.ext_getElem?
  intro i
  rw [ax_w_get, ax_w_get]
  cases hi : h[i]? with
  | none => rfl
  | some v =>
    have hl : i < h.length := (List.getElem?_eq_some_iff.mp hi).1
    simp only [Option.map_some]
    rw [e i hl, ax_e_ext (List.all_eq_true.mp hc v (List.mem_of_getElem? hi)) e]
def ax_new (ad : Nat → Nat) (n q : Nat) : Nat → Nat := fun i => if i = n then q else ad i
theorem ax_new_lt {ad : Nat → Nat} {n q : Nat} : ∀ i, i < n → ax_new ad n q i = ad i := fun i hi => by unfold ax_new; rw [if_neg (by omega)]
theorem ax_w_push {cid : Nat → ClassId} {b : Nat} {ad : Nat → Nat} {h : ax_H} {q : Nat} {e e' : va_E} (hc : h.all (ax_okE h.length) = true) (he : ax_e cid b (ax_new ad h.length q) e = e') : ax_w cid b ad h ++ [(q, e')] = ax_w cid b (ax_new ad h.length q) (h ++ [e]) := by
  have e1 : ax_w cid b (ax_new ad h.length q) (h ++ [e]) = ax_w cid b (ax_new ad h.length q) h ++ [(q, e')] := by
    unfold ax_w
    rw [List.mapIdx_concat]
    simp only [he]
    simp [ax_new]
  rw [e1, ax_w_ext hc ax_new_lt]
theorem ax_l_at {b nL i : Nat} {ad : Nat → Nat} {ls : Array Slot} {lv : ax_L} {v : Value} (hl : lv_has ls nL (ax_l b ad lv)) (hv : ax_get lv i = some v) : ls[i]? = some (.val (ax_v b ad v)) := by
  unfold ax_get at hv
  cases hq : lv.find? (fun q => q.1 == i) with
  | none => rw [hq] at hv; cases hv
  | some q =>
    rw [hq] at hv
    simp only [Option.map_some, Option.some.injEq] at hv
    have h1 := List.find?_some hq
    have h2 := List.mem_of_find?_eq_some hq
    simp only [beq_iff_eq] at h1
    have h3 := hl.2.2 (q.1, ax_v b ad q.2) (List.mem_map.mpr ⟨q, h2, rfl⟩)
    rw [hv] at h3
    rw [← h1]
    exact h3
theorem ax_l_put (b : Nat) (ad : Nat → Nat) (lv : ax_L) (i : Nat) (v : Value) : (i, ax_v b ad v) :: (ax_l b ad lv).filter (fun q => !(q.1 == i) && !(q.1 + 1 == i && q.2.category == 2)) = ax_l b ad (ax_put lv i v) := by
  unfold ax_l ax_put
  rw [List.filter_map, List.map_cons]
  congr 2
  apply List.filter_congr
  intro q _
  simp only [Function.comp, ax_v_cat]
theorem ax_l_putL (b : Nat) (ad : Nat → Nat) (lv : ax_L) (i : Nat) (v : Value) : (i, ax_v b ad v) :: (ax_l b ad lv).filter (fun q => !(q.1 == i) && (!(q.1 == i + 1) && !(q.1 + 1 == i && q.2.category == 2))) = ax_l b ad (ax_putL lv i v) := by
  unfold ax_l ax_putL
  rw [List.filter_map, List.map_cons]
  congr 2
  apply List.filter_congr
  intro q _
  simp only [Function.comp, ax_v_cat]
def ax_cx (d k C S : Nat) (X : Option (Nat × (Nat → Int32))) (D : va_G) (cid : Nat → ClassId) (b : Nat) (p : Program) (R : Room) (s : State) (m : MethodId) (args : Array Value) (meth : Method) (c : Code) (A : Nat → Prop) : Prop :=
  p.tables.exec = Jvm.exec ∧ c.code = m_b k ∧ meth.sig.returnType = m_r k ∧ c.maxLocals = m_l k ∧ s.vm.findClass (m_y k).cls = some m.cls ∧ (∀ w ∈ mTb, w.before args s = true) ∧ meth.locks = false ∧ ((m_y k).name = "<init>" → meth.name = "<init>") ∧ va_K D mCl (mTy cid) s ∧ (∀ w ∈ mNw, va_Nw w s) ∧ (∀ q : Nat, s.heap.size ≤ q → A q) ∧ d ≤ R.frames ∧ 33 * d ≤ R.locals ∧ R.cells = C ∧ R.slots = S ∧ (∀ L xs, X = some (L, xs) → va_X b L xs s s.heap ∧ b < s.heap.size ∧ ¬ A b)
def ax_rp (D : va_G) (cid : Nat → ClassId) (b : Nat) (A : Nat → Prop) (H0 : Heap) (n0 : Nat) (ad0 : Nat → Nat) (nL : Nat) (ad : Nat → Nat) (n1 : Nat) (lv : ax_L) (h : ax_H) (H : Heap) (locs : List Loc) (ls : Array Slot) : Prop :=
  va_P D mCl (ax_w cid b ad h) H ∧ va_D A (ax_w cid b ad h) ∧ va_S A H0 H locs ∧ lv_has ls nL (ax_l b ad lv) ∧ (∀ i, i < n0 → ad i = ad0 i) ∧ n0 ≤ h.length ∧ (n1 = 0 → ad = ad0)
def AX (d k C S : Nat) (X : Option (Nat × (Nat → Int32))) (pc : Nat) (lv : ax_L) (st : List Value) (h : ax_H) (n1 n2 : Nat) (F : ax_F) : Prop :=
  ∀ (l : Launch) (D : va_G) (cid : Nat → ClassId) (b : Nat) (p : Program) (e : Env) (R : Room) (s : State) (m : MethodId) (args : Array Value) (below : List Frame) (meth : Method) (c : Code) (A : Nat → Prop) (Q : State → Prop) (n0 : Nat) (ad0 : Nat → Nat),
    ax_cx d k C S X D cid b p R s m args meth c A →
    (∀ (pc' : Nat) (lv' : ax_L) (st' : List Value) (h' : ax_H) (n1' n2' : Nat), F pc' lv' st' h' n1' n2' → ∀ (ad' : Nat → Nat) (H' : Heap) (locs' : List Loc) (ls' : Array Slot), ax_rp D cid b A s.heap n0 ad0 (m_l k) ad' n1' lv' h' H' locs' ls' → W p l e R s m args below meth c H' locs' n1' n2' Q (F0 m pc' ls' (st'.map (ax_v b ad')))) →
    ∀ (ad : Nat → Nat) (H : Heap) (locs : List Loc) (ls : Array Slot), ax_rp D cid b A s.heap n0 ad0 (m_l k) ad n1 lv h H locs ls → W p l e R s m args below meth c H locs n1 n2 Q (F0 m pc ls (st.map (ax_v b ad)))
theorem m_dfm {ci : Nat} {Cn : String} {T : u_T} {N b : Nat} {ad : Nat → Nat} (hc : mCl[ci]? = some (Cn, T, N)) : (mDf ci).map (ax_v b ad) = mDf ci := by
  match ci, hc with
  | 0, hc => rfl
  | 1, hc => rfl
  | 2, hc => rfl
  | 3, hc => rfl
  | 4, hc => rfl
  | n + 5, hc => simp [mCl] at hc
def ax_fits : FieldType → Value → Bool
  | .int, .int _ => true
  | .boolean, .int x => x == 0 || x == 1
  | .long, .long _ => true
  | .object _, .ref _ => true
  | .object _, .null => true
  | .array _, .ref _ => true
  | .array _, .null => true
  | _, _ => false
theorem ax_fits_ok (b : Nat) (ad : Nat → Nat) {ty : FieldType} {v : Value} (h : ax_fits ty v = true) : narrow ty (ax_v b ad v) = ax_v b ad v ∧ fits ty (ax_v b ad v) = true := by
  cases ty <;> cases v <;> first
    | exact ⟨rfl, rfl⟩
    | (simp [ax_fits] at h; done)
    | (simp only [ax_fits, Bool.or_eq_true, beq_iff_eq] at h; rcases h with rfl | rfl <;> exact ⟨rfl, rfl⟩)
section AXR
variable {d k C S : Nat} {X : Option (Nat × (Nat → Int32))} {pc nx a1 a2 : Nat} {lv : ax_L} {st : List Value} {h : ax_H} {n1 n2 : Nat} {F : ax_F}
theorem AX.here (hF : F pc lv st h n1 n2) : AX d k C S X pc lv st h n1 n2 F := by
  intro l D cid b p e R s m args below meth c A Q n0 ad0 Cx h0 ad H locs ls hr
  exact h0 pc lv st h n1 n2 hF ad H locs ls hr
theorem AX.mono {G : ax_F} (hG : AX d k C S X pc lv st h n1 n2 G) (hF : ∀ pc' lv' st' h' n1' n2', G pc' lv' st' h' n1' n2' → AX d k C S X pc' lv' st' h' n1' n2' F) : AX d k C S X pc lv st h n1 n2 F := by
  intro l D cid b p e R s m args below meth c A Q n0 ad0 Cx h0 ad H locs ls hr
  exact hG l D cid b p e R s m args below meth c A Q n0 ad0 Cx (fun pc' lv' st' h' n1' n2' g ad' H' locs' ls' hr' => hF pc' lv' st' h' n1' n2' g l D cid b p e R s m args below meth c A Q n0 ad0 Cx h0 ad' H' locs' ls' hr') ad H locs ls hr
theorem AX.eqs {st2 : List Value} {h2 : ax_H} {lv2 : ax_L} (e1 : lv = lv2) (e2 : st = st2) (e3 : h = h2) (kk : AX d k C S X pc lv2 st2 h2 n1 n2 F) : AX d k C S X pc lv st h n1 n2 F := by
  subst e1; subst e2; subst e3; exact kk

theorem AX.iconst {n : Int} (hi : m_i k pc = some (.iconst n, 1, nx, a1, a2)) (kk : AX d k C S X nx lv (.int (Int32.ofInt n) :: st) h n1 n2 F) : AX d k C S X pc lv (st) h n1 n2 F := by
  intro l D cid b p e R s m args below meth c A Q n0 ad0 Cx hF ad H locs ls hr
  obtain ⟨hx, hb, hrt, hml, hown, hts, hlk, hnm, hK, hN, hA, hfr, hlo, hRc, hRs, hX⟩ := id Cx
  obtain ⟨hP, hD, hS, hl, hg, hn, hz⟩ := id hr
  obtain ⟨hd, e9⟩ := m_dec hi
  subst e9
  exact lv_iconst hx hb hd rfl (kk l D cid b p e R s m args below meth c A Q n0 ad0 Cx hF ad H locs ls hr)
theorem AX.bipush {n : Int} (hi : m_i k pc = some (.bipush n, 2, nx, a1, a2)) (kk : AX d k C S X nx lv (.int (Int8.ofInt n).toInt32 :: st) h n1 n2 F) : AX d k C S X pc lv (st) h n1 n2 F := by
  intro l D cid b p e R s m args below meth c A Q n0 ad0 Cx hF ad H locs ls hr
  obtain ⟨hx, hb, hrt, hml, hown, hts, hlk, hnm, hK, hN, hA, hfr, hlo, hRc, hRs, hX⟩ := id Cx
  obtain ⟨hP, hD, hS, hl, hg, hn, hz⟩ := id hr
  obtain ⟨hd, e9⟩ := m_dec hi
  subst e9
  exact lv_bipush hx hb hd rfl (kk l D cid b p e R s m args below meth c A Q n0 ad0 Cx hF ad H locs ls hr)
theorem AX.sipush {n : Int} (hi : m_i k pc = some (.sipush n, 3, nx, a1, a2)) (kk : AX d k C S X nx lv (.int (Int16.ofInt n).toInt32 :: st) h n1 n2 F) : AX d k C S X pc lv (st) h n1 n2 F := by
  intro l D cid b p e R s m args below meth c A Q n0 ad0 Cx hF ad H locs ls hr
  obtain ⟨hx, hb, hrt, hml, hown, hts, hlk, hnm, hK, hN, hA, hfr, hlo, hRc, hRs, hX⟩ := id Cx
  obtain ⟨hP, hD, hS, hl, hg, hn, hz⟩ := id hr
  obtain ⟨hd, e9⟩ := m_dec hi
  subst e9
  exact lv_sipush hx hb hd rfl (kk l D cid b p e R s m args below meth c A Q n0 ad0 Cx hF ad H locs ls hr)
theorem AX.lconst {n : Fin 2} (hi : m_i k pc = some (.lconst n, 1, nx, a1, a2)) (kk : AX d k C S X nx lv (.long (Int64.ofNat (n : Nat)) :: st) h n1 n2 F) : AX d k C S X pc lv (st) h n1 n2 F := by
  intro l D cid b p e R s m args below meth c A Q n0 ad0 Cx hF ad H locs ls hr
  obtain ⟨hx, hb, hrt, hml, hown, hts, hlk, hnm, hK, hN, hA, hfr, hlo, hRc, hRs, hX⟩ := id Cx
  obtain ⟨hP, hD, hS, hl, hg, hn, hz⟩ := id hr
  obtain ⟨hd, e9⟩ := m_dec hi
  subst e9
  exact lv_lconst hx hb hd rfl (kk l D cid b p e R s m args below meth c A Q n0 ad0 Cx hF ad H locs ls hr)
theorem AX.iload_n {i : Fin 4} {x : Int32} (hi : m_i k pc = some (.iload_n i, 1, nx, a1, a2)) (hl0 : ax_get lv i = some (.int x)) (kk : AX d k C S X nx lv (.int x :: st) h n1 n2 F) : AX d k C S X pc lv (st) h n1 n2 F := by
  intro l D cid b p e R s m args below meth c A Q n0 ad0 Cx hF ad H locs ls hr
  obtain ⟨hx, hb, hrt, hml, hown, hts, hlk, hnm, hK, hN, hA, hfr, hlo, hRc, hRs, hX⟩ := id Cx
  obtain ⟨hP, hD, hS, hl, hg, hn, hz⟩ := id hr
  obtain ⟨hd, e9⟩ := m_dec hi
  subst e9
  exact lv_iload_n hx hb hd rfl (ax_l_at hl hl0) (kk l D cid b p e R s m args below meth c A Q n0 ad0 Cx hF ad H locs ls hr)
theorem AX.iload {i : Nat} {x : Int32} (hi : m_i k pc = some (.iload i, 2, nx, a1, a2)) (hl0 : ax_get lv i = some (.int x)) (kk : AX d k C S X nx lv (.int x :: st) h n1 n2 F) : AX d k C S X pc lv (st) h n1 n2 F := by
  intro l D cid b p e R s m args below meth c A Q n0 ad0 Cx hF ad H locs ls hr
  obtain ⟨hx, hb, hrt, hml, hown, hts, hlk, hnm, hK, hN, hA, hfr, hlo, hRc, hRs, hX⟩ := id Cx
  obtain ⟨hP, hD, hS, hl, hg, hn, hz⟩ := id hr
  obtain ⟨hd, e9⟩ := m_dec hi
  subst e9
  exact lv_iload hx hb hd (ax_l_at hl hl0) (kk l D cid b p e R s m args below meth c A Q n0 ad0 Cx hF ad H locs ls hr)
theorem AX.lload_n {i : Fin 4} {x : Int64} (hi : m_i k pc = some (.lload_n i, 1, nx, a1, a2)) (hl0 : ax_get lv i = some (.long x)) (kk : AX d k C S X nx lv (.long x :: st) h n1 n2 F) : AX d k C S X pc lv (st) h n1 n2 F := by
  intro l D cid b p e R s m args below meth c A Q n0 ad0 Cx hF ad H locs ls hr
  obtain ⟨hx, hb, hrt, hml, hown, hts, hlk, hnm, hK, hN, hA, hfr, hlo, hRc, hRs, hX⟩ := id Cx
  obtain ⟨hP, hD, hS, hl, hg, hn, hz⟩ := id hr
  obtain ⟨hd, e9⟩ := m_dec hi
  subst e9
  exact lv_lload_n hx hb hd rfl (ax_l_at hl hl0) (kk l D cid b p e R s m args below meth c A Q n0 ad0 Cx hF ad H locs ls hr)
theorem AX.lload {i : Nat} {x : Int64} (hi : m_i k pc = some (.lload i, 2, nx, a1, a2)) (hl0 : ax_get lv i = some (.long x)) (kk : AX d k C S X nx lv (.long x :: st) h n1 n2 F) : AX d k C S X pc lv (st) h n1 n2 F := by
  intro l D cid b p e R s m args below meth c A Q n0 ad0 Cx hF ad H locs ls hr
  obtain ⟨hx, hb, hrt, hml, hown, hts, hlk, hnm, hK, hN, hA, hfr, hlo, hRc, hRs, hX⟩ := id Cx
  obtain ⟨hP, hD, hS, hl, hg, hn, hz⟩ := id hr
  obtain ⟨hd, e9⟩ := m_dec hi
  subst e9
  exact lv_lload hx hb hd (ax_l_at hl hl0) (kk l D cid b p e R s m args below meth c A Q n0 ad0 Cx hF ad H locs ls hr)
theorem AX.aload_n {i : Fin 4} {x : Nat} (hi : m_i k pc = some (.aload_n i, 1, nx, a1, a2)) (hl0 : ax_get lv i = some (.ref x)) (kk : AX d k C S X nx lv (.ref x :: st) h n1 n2 F) : AX d k C S X pc lv (st) h n1 n2 F := by
  intro l D cid b p e R s m args below meth c A Q n0 ad0 Cx hF ad H locs ls hr
  obtain ⟨hx, hb, hrt, hml, hown, hts, hlk, hnm, hK, hN, hA, hfr, hlo, hRc, hRs, hX⟩ := id Cx
  obtain ⟨hP, hD, hS, hl, hg, hn, hz⟩ := id hr
  obtain ⟨hd, e9⟩ := m_dec hi
  subst e9
  exact lv_aload_n hx hb hd rfl (ax_l_at hl hl0) (kk l D cid b p e R s m args below meth c A Q n0 ad0 Cx hF ad H locs ls hr)
theorem AX.aload {i : Nat} {x : Nat} (hi : m_i k pc = some (.aload i, 2, nx, a1, a2)) (hl0 : ax_get lv i = some (.ref x)) (kk : AX d k C S X nx lv (.ref x :: st) h n1 n2 F) : AX d k C S X pc lv (st) h n1 n2 F := by
  intro l D cid b p e R s m args below meth c A Q n0 ad0 Cx hF ad H locs ls hr
  obtain ⟨hx, hb, hrt, hml, hown, hts, hlk, hnm, hK, hN, hA, hfr, hlo, hRc, hRs, hX⟩ := id Cx
  obtain ⟨hP, hD, hS, hl, hg, hn, hz⟩ := id hr
  obtain ⟨hd, e9⟩ := m_dec hi
  subst e9
  exact lv_aload hx hb hd (ax_l_at hl hl0) (kk l D cid b p e R s m args below meth c A Q n0 ad0 Cx hF ad H locs ls hr)
theorem AX.aload_nS {i : Fin 4} {x : Nat} (hi : m_i k pc = some (.aload_n i, 1, nx, a1, a2)) (hl0 : ax_get lv i = some (.retAddr x)) (kk : AX d k C S X nx lv (.retAddr x :: st) h n1 n2 F) : AX d k C S X pc lv (st) h n1 n2 F := by
  intro l D cid b p e R s m args below meth c A Q n0 ad0 Cx hF ad H locs ls hr
  obtain ⟨hx, hb, hrt, hml, hown, hts, hlk, hnm, hK, hN, hA, hfr, hlo, hRc, hRs, hX⟩ := id Cx
  obtain ⟨hP, hD, hS, hl, hg, hn, hz⟩ := id hr
  obtain ⟨hd, e9⟩ := m_dec hi
  subst e9
  exact lv_aload_n hx hb hd rfl (ax_l_at hl hl0) (kk l D cid b p e R s m args below meth c A Q n0 ad0 Cx hF ad H locs ls hr)
theorem AX.aloadS {i : Nat} {x : Nat} (hi : m_i k pc = some (.aload i, 2, nx, a1, a2)) (hl0 : ax_get lv i = some (.retAddr x)) (kk : AX d k C S X nx lv (.retAddr x :: st) h n1 n2 F) : AX d k C S X pc lv (st) h n1 n2 F := by
  intro l D cid b p e R s m args below meth c A Q n0 ad0 Cx hF ad H locs ls hr
  obtain ⟨hx, hb, hrt, hml, hown, hts, hlk, hnm, hK, hN, hA, hfr, hlo, hRc, hRs, hX⟩ := id Cx
  obtain ⟨hP, hD, hS, hl, hg, hn, hz⟩ := id hr
  obtain ⟨hd, e9⟩ := m_dec hi
  subst e9
  exact lv_aload hx hb hd (ax_l_at hl hl0) (kk l D cid b p e R s m args below meth c A Q n0 ad0 Cx hF ad H locs ls hr)
theorem AX.istore_n {i : Fin 4} {x : Int32} (hi : m_i k pc = some (.istore_n i, 1, nx, a1, a2)) (hs : (i : Nat) < m_l k) (kk : AX d k C S X nx (ax_put lv i (.int x)) (st) h n1 n2 F) : AX d k C S X pc lv (.int x :: st) h n1 n2 F := by
  intro l D cid b p e R s m args below meth c A Q n0 ad0 Cx hF ad H locs ls hr
  obtain ⟨hx, hb, hrt, hml, hown, hts, hlk, hnm, hK, hN, hA, hfr, hlo, hRc, hRs, hX⟩ := id Cx
  obtain ⟨hP, hD, hS, hl, hg, hn, hz⟩ := id hr
  obtain ⟨hd, e9⟩ := m_dec hi
  subst e9
  exact lv_istore_n hx hb hd rfl hl hs rfl (fun ls' hl' => kk l D cid b p e R s m args below meth c A Q n0 ad0 Cx hF ad H locs ls' ⟨hP, hD, hS, by rw [← ax_l_put b ad lv i (.int x)]; exact hl', hg, hn, hz⟩)
theorem AX.istore {i : Nat} {x : Int32} (hi : m_i k pc = some (.istore i, 2, nx, a1, a2)) (hs : (i : Nat) < m_l k) (kk : AX d k C S X nx (ax_put lv i (.int x)) (st) h n1 n2 F) : AX d k C S X pc lv (.int x :: st) h n1 n2 F := by
  intro l D cid b p e R s m args below meth c A Q n0 ad0 Cx hF ad H locs ls hr
  obtain ⟨hx, hb, hrt, hml, hown, hts, hlk, hnm, hK, hN, hA, hfr, hlo, hRc, hRs, hX⟩ := id Cx
  obtain ⟨hP, hD, hS, hl, hg, hn, hz⟩ := id hr
  obtain ⟨hd, e9⟩ := m_dec hi
  subst e9
  exact lv_istore hx hb hd hl hs rfl (fun ls' hl' => kk l D cid b p e R s m args below meth c A Q n0 ad0 Cx hF ad H locs ls' ⟨hP, hD, hS, by rw [← ax_l_put b ad lv i (.int x)]; exact hl', hg, hn, hz⟩)
theorem AX.lstore_n {i : Fin 4} {x : Int64} (hi : m_i k pc = some (.lstore_n i, 1, nx, a1, a2)) (hs : (i : Nat) + 1 < m_l k) (kk : AX d k C S X nx (ax_putL lv i (.long x)) (st) h n1 n2 F) : AX d k C S X pc lv (.long x :: st) h n1 n2 F := by
  intro l D cid b p e R s m args below meth c A Q n0 ad0 Cx hF ad H locs ls hr
  obtain ⟨hx, hb, hrt, hml, hown, hts, hlk, hnm, hK, hN, hA, hfr, hlo, hRc, hRs, hX⟩ := id Cx
  obtain ⟨hP, hD, hS, hl, hg, hn, hz⟩ := id hr
  obtain ⟨hd, e9⟩ := m_dec hi
  subst e9
  exact lv_lstore_n hx hb hd rfl hl hs rfl (fun ls' hl' => kk l D cid b p e R s m args below meth c A Q n0 ad0 Cx hF ad H locs ls' ⟨hP, hD, hS, by rw [← ax_l_putL b ad lv i (.long x)]; exact hl', hg, hn, hz⟩)
theorem AX.lstore {i : Nat} {x : Int64} (hi : m_i k pc = some (.lstore i, 2, nx, a1, a2)) (hs : (i : Nat) + 1 < m_l k) (kk : AX d k C S X nx (ax_putL lv i (.long x)) (st) h n1 n2 F) : AX d k C S X pc lv (.long x :: st) h n1 n2 F := by
  intro l D cid b p e R s m args below meth c A Q n0 ad0 Cx hF ad H locs ls hr
  obtain ⟨hx, hb, hrt, hml, hown, hts, hlk, hnm, hK, hN, hA, hfr, hlo, hRc, hRs, hX⟩ := id Cx
  obtain ⟨hP, hD, hS, hl, hg, hn, hz⟩ := id hr
  obtain ⟨hd, e9⟩ := m_dec hi
  subst e9
  exact lv_lstore hx hb hd hl hs rfl (fun ls' hl' => kk l D cid b p e R s m args below meth c A Q n0 ad0 Cx hF ad H locs ls' ⟨hP, hD, hS, by rw [← ax_l_putL b ad lv i (.long x)]; exact hl', hg, hn, hz⟩)
theorem AX.astore_n {i : Fin 4} {x : Nat} (hi : m_i k pc = some (.astore_n i, 1, nx, a1, a2)) (hs : (i : Nat) < m_l k) (kk : AX d k C S X nx (ax_put lv i (.ref x)) (st) h n1 n2 F) : AX d k C S X pc lv (.ref x :: st) h n1 n2 F := by
  intro l D cid b p e R s m args below meth c A Q n0 ad0 Cx hF ad H locs ls hr
  obtain ⟨hx, hb, hrt, hml, hown, hts, hlk, hnm, hK, hN, hA, hfr, hlo, hRc, hRs, hX⟩ := id Cx
  obtain ⟨hP, hD, hS, hl, hg, hn, hz⟩ := id hr
  obtain ⟨hd, e9⟩ := m_dec hi
  subst e9
  exact lv_astore_n hx hb hd rfl hl hs rfl (fun ls' hl' => kk l D cid b p e R s m args below meth c A Q n0 ad0 Cx hF ad H locs ls' ⟨hP, hD, hS, by rw [← ax_l_put b ad lv i (.ref x)]; exact hl', hg, hn, hz⟩)
theorem AX.astore {i : Nat} {x : Nat} (hi : m_i k pc = some (.astore i, 2, nx, a1, a2)) (hs : (i : Nat) < m_l k) (kk : AX d k C S X nx (ax_put lv i (.ref x)) (st) h n1 n2 F) : AX d k C S X pc lv (.ref x :: st) h n1 n2 F := by
  intro l D cid b p e R s m args below meth c A Q n0 ad0 Cx hF ad H locs ls hr
  obtain ⟨hx, hb, hrt, hml, hown, hts, hlk, hnm, hK, hN, hA, hfr, hlo, hRc, hRs, hX⟩ := id Cx
  obtain ⟨hP, hD, hS, hl, hg, hn, hz⟩ := id hr
  obtain ⟨hd, e9⟩ := m_dec hi
  subst e9
  exact lv_astore hx hb hd hl hs rfl (fun ls' hl' => kk l D cid b p e R s m args below meth c A Q n0 ad0 Cx hF ad H locs ls' ⟨hP, hD, hS, by rw [← ax_l_put b ad lv i (.ref x)]; exact hl', hg, hn, hz⟩)
theorem AX.iinc {i : Nat} {n : Int} {x : Int32} (hi : m_i k pc = some (.iinc i n, 3, nx, a1, a2)) (hl0 : ax_get lv i = some (.int x)) (hs : i < m_l k) (kk : AX d k C S X nx (ax_put lv i (.int (x + Int32.ofInt n))) st h n1 n2 F) : AX d k C S X pc lv st h n1 n2 F := by
  intro l D cid b p e R s m args below meth c A Q n0 ad0 Cx hF ad H locs ls hr
  obtain ⟨hx, hb, hrt, hml, hown, hts, hlk, hnm, hK, hN, hA, hfr, hlo, hRc, hRs, hX⟩ := id Cx
  obtain ⟨hP, hD, hS, hl, hg, hn, hz⟩ := id hr
  obtain ⟨hd, e9⟩ := m_dec hi
  subst e9
  have hm : (i, Value.int x) ∈ ax_l b ad lv := by
    unfold ax_get at hl0
    cases hq : lv.find? (fun q => q.1 == i) with
    | none => rw [hq] at hl0; cases hl0
    | some q =>
      rw [hq] at hl0
      simp only [Option.map_some, Option.some.injEq] at hl0
      have h1 := List.find?_some hq
      have h2 := List.mem_of_find?_eq_some hq
      simp only [beq_iff_eq] at h1
      exact List.mem_map.mpr ⟨q, h2, by rw [h1, hl0]; rfl⟩
  obtain ⟨kx, hkx⟩ := List.getElem?_of_mem hm
  exact lv_iinc hx hb hd hl hkx rfl hs rfl (fun ls' hl' => kk l D cid b p e R s m args below meth c A Q n0 ad0 Cx hF ad H locs ls' ⟨hP, hD, hS, by rw [← ax_l_put b ad lv i (.int (x + Int32.ofInt n))]; exact hl', hg, hn, hz⟩)
theorem AX.iadd {x y : Int32} (hi : m_i k pc = some (.iadd, 1, nx, a1, a2)) (kk : AX d k C S X nx lv (.int (x + y) :: st) h n1 n2 F) : AX d k C S X pc lv (.int y :: .int x :: st) h n1 n2 F := by
  intro l D cid b p e R s m args below meth c A Q n0 ad0 Cx hF ad H locs ls hr
  obtain ⟨hx, hb, hrt, hml, hown, hts, hlk, hnm, hK, hN, hA, hfr, hlo, hRc, hRs, hX⟩ := id Cx
  obtain ⟨hP, hD, hS, hl, hg, hn, hz⟩ := id hr
  obtain ⟨hd, e9⟩ := m_dec hi
  subst e9
  exact lv_iadd hx hb hd (kk l D cid b p e R s m args below meth c A Q n0 ad0 Cx hF ad H locs ls hr)
theorem AX.isub {x y : Int32} (hi : m_i k pc = some (.isub, 1, nx, a1, a2)) (kk : AX d k C S X nx lv (.int (x - y) :: st) h n1 n2 F) : AX d k C S X pc lv (.int y :: .int x :: st) h n1 n2 F := by
  intro l D cid b p e R s m args below meth c A Q n0 ad0 Cx hF ad H locs ls hr
  obtain ⟨hx, hb, hrt, hml, hown, hts, hlk, hnm, hK, hN, hA, hfr, hlo, hRc, hRs, hX⟩ := id Cx
  obtain ⟨hP, hD, hS, hl, hg, hn, hz⟩ := id hr
  obtain ⟨hd, e9⟩ := m_dec hi
  subst e9
  exact lv_isub hx hb hd (kk l D cid b p e R s m args below meth c A Q n0 ad0 Cx hF ad H locs ls hr)
theorem AX.imul {x y : Int32} (hi : m_i k pc = some (.imul, 1, nx, a1, a2)) (kk : AX d k C S X nx lv (.int (x * y) :: st) h n1 n2 F) : AX d k C S X pc lv (.int y :: .int x :: st) h n1 n2 F := by
  intro l D cid b p e R s m args below meth c A Q n0 ad0 Cx hF ad H locs ls hr
  obtain ⟨hx, hb, hrt, hml, hown, hts, hlk, hnm, hK, hN, hA, hfr, hlo, hRc, hRs, hX⟩ := id Cx
  obtain ⟨hP, hD, hS, hl, hg, hn, hz⟩ := id hr
  obtain ⟨hd, e9⟩ := m_dec hi
  subst e9
  exact lv_imul hx hb hd (kk l D cid b p e R s m args below meth c A Q n0 ad0 Cx hF ad H locs ls hr)
theorem AX.iand {x y : Int32} (hi : m_i k pc = some (.iand, 1, nx, a1, a2)) (kk : AX d k C S X nx lv (.int (x &&& y) :: st) h n1 n2 F) : AX d k C S X pc lv (.int y :: .int x :: st) h n1 n2 F := by
  intro l D cid b p e R s m args below meth c A Q n0 ad0 Cx hF ad H locs ls hr
  obtain ⟨hx, hb, hrt, hml, hown, hts, hlk, hnm, hK, hN, hA, hfr, hlo, hRc, hRs, hX⟩ := id Cx
  obtain ⟨hP, hD, hS, hl, hg, hn, hz⟩ := id hr
  obtain ⟨hd, e9⟩ := m_dec hi
  subst e9
  exact lv_iand hx hb hd (kk l D cid b p e R s m args below meth c A Q n0 ad0 Cx hF ad H locs ls hr)
theorem AX.ior {x y : Int32} (hi : m_i k pc = some (.ior, 1, nx, a1, a2)) (kk : AX d k C S X nx lv (.int (x ||| y) :: st) h n1 n2 F) : AX d k C S X pc lv (.int y :: .int x :: st) h n1 n2 F := by
  intro l D cid b p e R s m args below meth c A Q n0 ad0 Cx hF ad H locs ls hr
  obtain ⟨hx, hb, hrt, hml, hown, hts, hlk, hnm, hK, hN, hA, hfr, hlo, hRc, hRs, hX⟩ := id Cx
  obtain ⟨hP, hD, hS, hl, hg, hn, hz⟩ := id hr
  obtain ⟨hd, e9⟩ := m_dec hi
  subst e9
  exact lv_ior hx hb hd (kk l D cid b p e R s m args below meth c A Q n0 ad0 Cx hF ad H locs ls hr)
theorem AX.ixor {x y : Int32} (hi : m_i k pc = some (.ixor, 1, nx, a1, a2)) (kk : AX d k C S X nx lv (.int (x ^^^ y) :: st) h n1 n2 F) : AX d k C S X pc lv (.int y :: .int x :: st) h n1 n2 F := by
  intro l D cid b p e R s m args below meth c A Q n0 ad0 Cx hF ad H locs ls hr
  obtain ⟨hx, hb, hrt, hml, hown, hts, hlk, hnm, hK, hN, hA, hfr, hlo, hRc, hRs, hX⟩ := id Cx
  obtain ⟨hP, hD, hS, hl, hg, hn, hz⟩ := id hr
  obtain ⟨hd, e9⟩ := m_dec hi
  subst e9
  exact lv_ixor hx hb hd (kk l D cid b p e R s m args below meth c A Q n0 ad0 Cx hF ad H locs ls hr)
theorem AX.ishl {x y : Int32} (hi : m_i k pc = some (.ishl, 1, nx, a1, a2)) (kk : AX d k C S X nx lv (.int (x <<< (y &&& 31)) :: st) h n1 n2 F) : AX d k C S X pc lv (.int y :: .int x :: st) h n1 n2 F := by
  intro l D cid b p e R s m args below meth c A Q n0 ad0 Cx hF ad H locs ls hr
  obtain ⟨hx, hb, hrt, hml, hown, hts, hlk, hnm, hK, hN, hA, hfr, hlo, hRc, hRs, hX⟩ := id Cx
  obtain ⟨hP, hD, hS, hl, hg, hn, hz⟩ := id hr
  obtain ⟨hd, e9⟩ := m_dec hi
  subst e9
  exact lv_ishl hx hb hd (kk l D cid b p e R s m args below meth c A Q n0 ad0 Cx hF ad H locs ls hr)
theorem AX.ishr {x y : Int32} (hi : m_i k pc = some (.ishr, 1, nx, a1, a2)) (kk : AX d k C S X nx lv (.int (x >>> (y &&& 31)) :: st) h n1 n2 F) : AX d k C S X pc lv (.int y :: .int x :: st) h n1 n2 F := by
  intro l D cid b p e R s m args below meth c A Q n0 ad0 Cx hF ad H locs ls hr
  obtain ⟨hx, hb, hrt, hml, hown, hts, hlk, hnm, hK, hN, hA, hfr, hlo, hRc, hRs, hX⟩ := id Cx
  obtain ⟨hP, hD, hS, hl, hg, hn, hz⟩ := id hr
  obtain ⟨hd, e9⟩ := m_dec hi
  subst e9
  exact lv_ishr hx hb hd (kk l D cid b p e R s m args below meth c A Q n0 ad0 Cx hF ad H locs ls hr)
theorem AX.idiv {x y : Int32} (hi : m_i k pc = some (.idiv, 1, nx, a1, a2)) (h0 : ¬ y = 0) (kk : AX d k C S X nx lv (.int (x / y) :: st) h n1 n2 F) : AX d k C S X pc lv (.int y :: .int x :: st) h n1 n2 F := by
  intro l D cid b p e R s m args below meth c A Q n0 ad0 Cx hF ad H locs ls hr
  obtain ⟨hx, hb, hrt, hml, hown, hts, hlk, hnm, hK, hN, hA, hfr, hlo, hRc, hRs, hX⟩ := id Cx
  obtain ⟨hP, hD, hS, hl, hg, hn, hz⟩ := id hr
  obtain ⟨hd, e9⟩ := m_dec hi
  subst e9
  exact lv_idiv hx hb hd h0 (kk l D cid b p e R s m args below meth c A Q n0 ad0 Cx hF ad H locs ls hr)
theorem AX.irem {x y : Int32} (hi : m_i k pc = some (.irem, 1, nx, a1, a2)) (h0 : ¬ y = 0) (kk : AX d k C S X nx lv (.int (x - x / y * y) :: st) h n1 n2 F) : AX d k C S X pc lv (.int y :: .int x :: st) h n1 n2 F := by
  intro l D cid b p e R s m args below meth c A Q n0 ad0 Cx hF ad H locs ls hr
  obtain ⟨hx, hb, hrt, hml, hown, hts, hlk, hnm, hK, hN, hA, hfr, hlo, hRc, hRs, hX⟩ := id Cx
  obtain ⟨hP, hD, hS, hl, hg, hn, hz⟩ := id hr
  obtain ⟨hd, e9⟩ := m_dec hi
  subst e9
  exact lv_irem hx hb hd h0 (kk l D cid b p e R s m args below meth c A Q n0 ad0 Cx hF ad H locs ls hr)
theorem AX.ineg {x : Int32} (hi : m_i k pc = some (.ineg, 1, nx, a1, a2)) (kk : AX d k C S X nx lv (.int (-x) :: st) h n1 n2 F) : AX d k C S X pc lv (.int x :: st) h n1 n2 F := by
  intro l D cid b p e R s m args below meth c A Q n0 ad0 Cx hF ad H locs ls hr
  obtain ⟨hx, hb, hrt, hml, hown, hts, hlk, hnm, hK, hN, hA, hfr, hlo, hRc, hRs, hX⟩ := id Cx
  obtain ⟨hP, hD, hS, hl, hg, hn, hz⟩ := id hr
  obtain ⟨hd, e9⟩ := m_dec hi
  subst e9
  exact lv_ineg hx hb hd (kk l D cid b p e R s m args below meth c A Q n0 ad0 Cx hF ad H locs ls hr)
theorem AX.iushr {x y : Int32} (hi : m_i k pc = some (.iushr, 1, nx, a1, a2)) (kk : AX d k C S X nx lv (.int (x.toUInt32 >>> (y.toUInt32 &&& Int32.toUInt32 31)).toInt32 :: st) h n1 n2 F) : AX d k C S X pc lv (.int y :: .int x :: st) h n1 n2 F := by
  intro l D cid b p e R s m args below meth c A Q n0 ad0 Cx hF ad H locs ls hr
  obtain ⟨hx, hb, hrt, hml, hown, hts, hlk, hnm, hK, hN, hA, hfr, hlo, hRc, hRs, hX⟩ := id Cx
  obtain ⟨hP, hD, hS, hl, hg, hn, hz⟩ := id hr
  obtain ⟨hd, e9⟩ := m_dec hi
  subst e9
  exact lv_iushr hx hb hd rfl (kk l D cid b p e R s m args below meth c A Q n0 ad0 Cx hF ad H locs ls hr)
theorem AX.ladd {x y : Int64} (hi : m_i k pc = some (.ladd, 1, nx, a1, a2)) (kk : AX d k C S X nx lv (.long (x + y) :: st) h n1 n2 F) : AX d k C S X pc lv (.long y :: .long x :: st) h n1 n2 F := by
  intro l D cid b p e R s m args below meth c A Q n0 ad0 Cx hF ad H locs ls hr
  obtain ⟨hx, hb, hrt, hml, hown, hts, hlk, hnm, hK, hN, hA, hfr, hlo, hRc, hRs, hX⟩ := id Cx
  obtain ⟨hP, hD, hS, hl, hg, hn, hz⟩ := id hr
  obtain ⟨hd, e9⟩ := m_dec hi
  subst e9
  exact lv_ladd hx hb hd (kk l D cid b p e R s m args below meth c A Q n0 ad0 Cx hF ad H locs ls hr)
theorem AX.lsub {x y : Int64} (hi : m_i k pc = some (.lsub, 1, nx, a1, a2)) (kk : AX d k C S X nx lv (.long (x - y) :: st) h n1 n2 F) : AX d k C S X pc lv (.long y :: .long x :: st) h n1 n2 F := by
  intro l D cid b p e R s m args below meth c A Q n0 ad0 Cx hF ad H locs ls hr
  obtain ⟨hx, hb, hrt, hml, hown, hts, hlk, hnm, hK, hN, hA, hfr, hlo, hRc, hRs, hX⟩ := id Cx
  obtain ⟨hP, hD, hS, hl, hg, hn, hz⟩ := id hr
  obtain ⟨hd, e9⟩ := m_dec hi
  subst e9
  exact lv_lsub hx hb hd (kk l D cid b p e R s m args below meth c A Q n0 ad0 Cx hF ad H locs ls hr)
theorem AX.lmul {x y : Int64} (hi : m_i k pc = some (.lmul, 1, nx, a1, a2)) (kk : AX d k C S X nx lv (.long (x * y) :: st) h n1 n2 F) : AX d k C S X pc lv (.long y :: .long x :: st) h n1 n2 F := by
  intro l D cid b p e R s m args below meth c A Q n0 ad0 Cx hF ad H locs ls hr
  obtain ⟨hx, hb, hrt, hml, hown, hts, hlk, hnm, hK, hN, hA, hfr, hlo, hRc, hRs, hX⟩ := id Cx
  obtain ⟨hP, hD, hS, hl, hg, hn, hz⟩ := id hr
  obtain ⟨hd, e9⟩ := m_dec hi
  subst e9
  exact lv_lmul hx hb hd (kk l D cid b p e R s m args below meth c A Q n0 ad0 Cx hF ad H locs ls hr)
theorem AX.land {x y : Int64} (hi : m_i k pc = some (.land, 1, nx, a1, a2)) (kk : AX d k C S X nx lv (.long (x &&& y) :: st) h n1 n2 F) : AX d k C S X pc lv (.long y :: .long x :: st) h n1 n2 F := by
  intro l D cid b p e R s m args below meth c A Q n0 ad0 Cx hF ad H locs ls hr
  obtain ⟨hx, hb, hrt, hml, hown, hts, hlk, hnm, hK, hN, hA, hfr, hlo, hRc, hRs, hX⟩ := id Cx
  obtain ⟨hP, hD, hS, hl, hg, hn, hz⟩ := id hr
  obtain ⟨hd, e9⟩ := m_dec hi
  subst e9
  exact lv_land hx hb hd (kk l D cid b p e R s m args below meth c A Q n0 ad0 Cx hF ad H locs ls hr)
theorem AX.lor {x y : Int64} (hi : m_i k pc = some (.lor, 1, nx, a1, a2)) (kk : AX d k C S X nx lv (.long (x ||| y) :: st) h n1 n2 F) : AX d k C S X pc lv (.long y :: .long x :: st) h n1 n2 F := by
  intro l D cid b p e R s m args below meth c A Q n0 ad0 Cx hF ad H locs ls hr
  obtain ⟨hx, hb, hrt, hml, hown, hts, hlk, hnm, hK, hN, hA, hfr, hlo, hRc, hRs, hX⟩ := id Cx
  obtain ⟨hP, hD, hS, hl, hg, hn, hz⟩ := id hr
  obtain ⟨hd, e9⟩ := m_dec hi
  subst e9
  exact lv_lor hx hb hd (kk l D cid b p e R s m args below meth c A Q n0 ad0 Cx hF ad H locs ls hr)
theorem AX.lxor {x y : Int64} (hi : m_i k pc = some (.lxor, 1, nx, a1, a2)) (kk : AX d k C S X nx lv (.long (x ^^^ y) :: st) h n1 n2 F) : AX d k C S X pc lv (.long y :: .long x :: st) h n1 n2 F := by
  intro l D cid b p e R s m args below meth c A Q n0 ad0 Cx hF ad H locs ls hr
  obtain ⟨hx, hb, hrt, hml, hown, hts, hlk, hnm, hK, hN, hA, hfr, hlo, hRc, hRs, hX⟩ := id Cx
  obtain ⟨hP, hD, hS, hl, hg, hn, hz⟩ := id hr
  obtain ⟨hd, e9⟩ := m_dec hi
  subst e9
  exact lv_lxor hx hb hd (kk l D cid b p e R s m args below meth c A Q n0 ad0 Cx hF ad H locs ls hr)
theorem AX.lshl {x : Int64} {y : Int32} (hi : m_i k pc = some (.lshl, 1, nx, a1, a2)) (kk : AX d k C S X nx lv (.long (x <<< (y.toInt64 &&& 63)) :: st) h n1 n2 F) : AX d k C S X pc lv (.int y :: .long x :: st) h n1 n2 F := by
  intro l D cid b p e R s m args below meth c A Q n0 ad0 Cx hF ad H locs ls hr
  obtain ⟨hx, hb, hrt, hml, hown, hts, hlk, hnm, hK, hN, hA, hfr, hlo, hRc, hRs, hX⟩ := id Cx
  obtain ⟨hP, hD, hS, hl, hg, hn, hz⟩ := id hr
  obtain ⟨hd, e9⟩ := m_dec hi
  subst e9
  exact lv_lshl hx hb hd rfl (kk l D cid b p e R s m args below meth c A Q n0 ad0 Cx hF ad H locs ls hr)
theorem AX.lshr {x : Int64} {y : Int32} (hi : m_i k pc = some (.lshr, 1, nx, a1, a2)) (kk : AX d k C S X nx lv (.long (x >>> (y.toInt64 &&& 63)) :: st) h n1 n2 F) : AX d k C S X pc lv (.int y :: .long x :: st) h n1 n2 F := by
  intro l D cid b p e R s m args below meth c A Q n0 ad0 Cx hF ad H locs ls hr
  obtain ⟨hx, hb, hrt, hml, hown, hts, hlk, hnm, hK, hN, hA, hfr, hlo, hRc, hRs, hX⟩ := id Cx
  obtain ⟨hP, hD, hS, hl, hg, hn, hz⟩ := id hr
  obtain ⟨hd, e9⟩ := m_dec hi
  subst e9
  exact lv_lshr hx hb hd rfl (kk l D cid b p e R s m args below meth c A Q n0 ad0 Cx hF ad H locs ls hr)
theorem AX.lushr {x : Int64} {y : Int32} (hi : m_i k pc = some (.lushr, 1, nx, a1, a2)) (kk : AX d k C S X nx lv (.long (x.toUInt64 >>> (y.toInt64.toUInt64 &&& Int64.toUInt64 63)).toInt64 :: st) h n1 n2 F) : AX d k C S X pc lv (.int y :: .long x :: st) h n1 n2 F := by
  intro l D cid b p e R s m args below meth c A Q n0 ad0 Cx hF ad H locs ls hr
  obtain ⟨hx, hb, hrt, hml, hown, hts, hlk, hnm, hK, hN, hA, hfr, hlo, hRc, hRs, hX⟩ := id Cx
  obtain ⟨hP, hD, hS, hl, hg, hn, hz⟩ := id hr
  obtain ⟨hd, e9⟩ := m_dec hi
  subst e9
  exact lv_lushr hx hb hd rfl (kk l D cid b p e R s m args below meth c A Q n0 ad0 Cx hF ad H locs ls hr)
theorem AX.i2l {x : Int32} (hi : m_i k pc = some (.i2l, 1, nx, a1, a2)) (kk : AX d k C S X nx lv (.long x.toInt64 :: st) h n1 n2 F) : AX d k C S X pc lv (.int x :: st) h n1 n2 F := by
  intro l D cid b p e R s m args below meth c A Q n0 ad0 Cx hF ad H locs ls hr
  obtain ⟨hx, hb, hrt, hml, hown, hts, hlk, hnm, hK, hN, hA, hfr, hlo, hRc, hRs, hX⟩ := id Cx
  obtain ⟨hP, hD, hS, hl, hg, hn, hz⟩ := id hr
  obtain ⟨hd, e9⟩ := m_dec hi
  subst e9
  exact lv_i2l hx hb hd rfl (kk l D cid b p e R s m args below meth c A Q n0 ad0 Cx hF ad H locs ls hr)
theorem AX.l2i {x : Int64} (hi : m_i k pc = some (.l2i, 1, nx, a1, a2)) (kk : AX d k C S X nx lv (.int x.toInt32 :: st) h n1 n2 F) : AX d k C S X pc lv (.long x :: st) h n1 n2 F := by
  intro l D cid b p e R s m args below meth c A Q n0 ad0 Cx hF ad H locs ls hr
  obtain ⟨hx, hb, hrt, hml, hown, hts, hlk, hnm, hK, hN, hA, hfr, hlo, hRc, hRs, hX⟩ := id Cx
  obtain ⟨hP, hD, hS, hl, hg, hn, hz⟩ := id hr
  obtain ⟨hd, e9⟩ := m_dec hi
  subst e9
  exact lv_l2i hx hb hd rfl (kk l D cid b p e R s m args below meth c A Q n0 ad0 Cx hF ad H locs ls hr)
theorem AX.lcmp {x y : Int64} (hi : m_i k pc = some (.lcmp, 1, nx, a1, a2)) (kk : AX d k C S X nx lv (.int (lg_cmp x y) :: st) h n1 n2 F) : AX d k C S X pc lv (.long y :: .long x :: st) h n1 n2 F := by
  intro l D cid b p e R s m args below meth c A Q n0 ad0 Cx hF ad H locs ls hr
  obtain ⟨hx, hb, hrt, hml, hown, hts, hlk, hnm, hK, hN, hA, hfr, hlo, hRc, hRs, hX⟩ := id Cx
  obtain ⟨hP, hD, hS, hl, hg, hn, hz⟩ := id hr
  obtain ⟨hd, e9⟩ := m_dec hi
  subst e9
  exact W.lcmp hx hb hd (kk l D cid b p e R s m args below meth c A Q n0 ad0 Cx hF ad H locs ls hr)
theorem AX.dup {v : Value} (hi : m_i k pc = some (.dup, 1, nx, a1, a2)) (hc : v.category = 1) (kk : AX d k C S X nx lv (v :: v :: st) h n1 n2 F) : AX d k C S X pc lv (v :: st) h n1 n2 F := by
  intro l D cid b p e R s m args below meth c A Q n0 ad0 Cx hF ad H locs ls hr
  obtain ⟨hx, hb, hrt, hml, hown, hts, hlk, hnm, hK, hN, hA, hfr, hlo, hRc, hRs, hX⟩ := id Cx
  obtain ⟨hP, hD, hS, hl, hg, hn, hz⟩ := id hr
  obtain ⟨hd, e9⟩ := m_dec hi
  subst e9
  exact lv_dup hx hb hd ((ax_v_cat b ad v).trans hc) (kk l D cid b p e R s m args below meth c A Q n0 ad0 Cx hF ad H locs ls hr)
theorem AX.pop {v : Value} (hi : m_i k pc = some (.pop, 1, nx, a1, a2)) (hc : v.category = 1) (kk : AX d k C S X nx lv (st) h n1 n2 F) : AX d k C S X pc lv (v :: st) h n1 n2 F := by
  intro l D cid b p e R s m args below meth c A Q n0 ad0 Cx hF ad H locs ls hr
  obtain ⟨hx, hb, hrt, hml, hown, hts, hlk, hnm, hK, hN, hA, hfr, hlo, hRc, hRs, hX⟩ := id Cx
  obtain ⟨hP, hD, hS, hl, hg, hn, hz⟩ := id hr
  obtain ⟨hd, e9⟩ := m_dec hi
  subst e9
  exact lv_pop hx hb hd ((ax_v_cat b ad v).trans hc) (kk l D cid b p e R s m args below meth c A Q n0 ad0 Cx hF ad H locs ls hr)
theorem AX.dup_x1 {v u : Value} (hi : m_i k pc = some (.dup_x1, 1, nx, a1, a2)) (hc : v.category = 1) (hc2 : u.category = 1) (kk : AX d k C S X nx lv (v :: u :: v :: st) h n1 n2 F) : AX d k C S X pc lv (v :: u :: st) h n1 n2 F := by
  intro l D cid b p e R s m args below meth c A Q n0 ad0 Cx hF ad H locs ls hr
  obtain ⟨hx, hb, hrt, hml, hown, hts, hlk, hnm, hK, hN, hA, hfr, hlo, hRc, hRs, hX⟩ := id Cx
  obtain ⟨hP, hD, hS, hl, hg, hn, hz⟩ := id hr
  obtain ⟨hd, e9⟩ := m_dec hi
  subst e9
  exact lv_dup_x1 hx hb hd ((ax_v_cat b ad v).trans hc) ((ax_v_cat b ad u).trans hc2) (kk l D cid b p e R s m args below meth c A Q n0 ad0 Cx hF ad H locs ls hr)
theorem AX.dup_x2 {v u t : Value} (hi : m_i k pc = some (.dup_x2, 1, nx, a1, a2)) (hc : v.category = 1) (hc2 : u.category = 1) (hc3 : t.category = 1) (kk : AX d k C S X nx lv (v :: u :: t :: v :: st) h n1 n2 F) : AX d k C S X pc lv (v :: u :: t :: st) h n1 n2 F := by
  intro l D cid b p e R s m args below meth c A Q n0 ad0 Cx hF ad H locs ls hr
  obtain ⟨hx, hb, hrt, hml, hown, hts, hlk, hnm, hK, hN, hA, hfr, hlo, hRc, hRs, hX⟩ := id Cx
  obtain ⟨hP, hD, hS, hl, hg, hn, hz⟩ := id hr
  obtain ⟨hd, e9⟩ := m_dec hi
  subst e9
  exact lv_dup_x2 hx hb hd ((ax_v_cat b ad v).trans hc) ((ax_v_cat b ad u).trans hc2) ((ax_v_cat b ad t).trans hc3) (kk l D cid b p e R s m args below meth c A Q n0 ad0 Cx hF ad H locs ls hr)
theorem AX.dup2 {v u : Value} (hi : m_i k pc = some (.dup2, 1, nx, a1, a2)) (hc : v.category = 1) (hc2 : u.category = 1) (kk : AX d k C S X nx lv (v :: u :: v :: u :: st) h n1 n2 F) : AX d k C S X pc lv (v :: u :: st) h n1 n2 F := by
  intro l D cid b p e R s m args below meth c A Q n0 ad0 Cx hF ad H locs ls hr
  obtain ⟨hx, hb, hrt, hml, hown, hts, hlk, hnm, hK, hN, hA, hfr, hlo, hRc, hRs, hX⟩ := id Cx
  obtain ⟨hP, hD, hS, hl, hg, hn, hz⟩ := id hr
  obtain ⟨hd, e9⟩ := m_dec hi
  subst e9
  exact lv_dup2_11 hx hb hd ((ax_v_cat b ad v).trans hc) ((ax_v_cat b ad u).trans hc2) (kk l D cid b p e R s m args below meth c A Q n0 ad0 Cx hF ad H locs ls hr)
theorem AX.if_eq {x : Int32} {off : Int} (hi : m_i k pc = some (.ifCond .eq off, 3, nx, a1, a2)) (kt : x = 0 → AX d k C S X a1 lv st h n1 n2 F) (kf : ¬ x = 0 → AX d k C S X nx lv st h n1 n2 F) : AX d k C S X pc lv (.int x :: st) h n1 n2 F := by
  intro l D cid b p e R s m args below meth c A Q n0 ad0 Cx hF ad H locs ls hr
  obtain ⟨hx, hb, hrt, hml, hown, hts, hlk, hnm, hK, hN, hA, hfr, hlo, hRc, hRs, hX⟩ := id Cx
  obtain ⟨hP, hD, hS, hl, hg, hn, hz⟩ := id hr
  obtain ⟨hd, e9⟩ := m_dec hi
  subst e9
  exact lv_if_eq hx hb hd (m_jmp hi rfl) (fun q => kt q l D cid b p e R s m args below meth c A Q n0 ad0 Cx hF ad H locs ls hr) (fun q => kf q l D cid b p e R s m args below meth c A Q n0 ad0 Cx hF ad H locs ls hr)
theorem AX.icmp_eq {x y : Int32} {off : Int} (hi : m_i k pc = some (.if_icmp .eq off, 3, nx, a1, a2)) (kt : x = y → AX d k C S X a1 lv st h n1 n2 F) (kf : ¬ x = y → AX d k C S X nx lv st h n1 n2 F) : AX d k C S X pc lv (.int y :: .int x :: st) h n1 n2 F := by
  intro l D cid b p e R s m args below meth c A Q n0 ad0 Cx hF ad H locs ls hr
  obtain ⟨hx, hb, hrt, hml, hown, hts, hlk, hnm, hK, hN, hA, hfr, hlo, hRc, hRs, hX⟩ := id Cx
  obtain ⟨hP, hD, hS, hl, hg, hn, hz⟩ := id hr
  obtain ⟨hd, e9⟩ := m_dec hi
  subst e9
  exact lv_icmp_eq hx hb hd (m_jmp hi rfl) (fun q => kt q l D cid b p e R s m args below meth c A Q n0 ad0 Cx hF ad H locs ls hr) (fun q => kf q l D cid b p e R s m args below meth c A Q n0 ad0 Cx hF ad H locs ls hr)
theorem AX.if_ne {x : Int32} {off : Int} (hi : m_i k pc = some (.ifCond .ne off, 3, nx, a1, a2)) (kt : ¬ x = 0 → AX d k C S X a1 lv st h n1 n2 F) (kf : x = 0 → AX d k C S X nx lv st h n1 n2 F) : AX d k C S X pc lv (.int x :: st) h n1 n2 F := by
  intro l D cid b p e R s m args below meth c A Q n0 ad0 Cx hF ad H locs ls hr
  obtain ⟨hx, hb, hrt, hml, hown, hts, hlk, hnm, hK, hN, hA, hfr, hlo, hRc, hRs, hX⟩ := id Cx
  obtain ⟨hP, hD, hS, hl, hg, hn, hz⟩ := id hr
  obtain ⟨hd, e9⟩ := m_dec hi
  subst e9
  exact lv_if_ne hx hb hd (m_jmp hi rfl) (fun q => kt q l D cid b p e R s m args below meth c A Q n0 ad0 Cx hF ad H locs ls hr) (fun q => kf q l D cid b p e R s m args below meth c A Q n0 ad0 Cx hF ad H locs ls hr)
theorem AX.icmp_ne {x y : Int32} {off : Int} (hi : m_i k pc = some (.if_icmp .ne off, 3, nx, a1, a2)) (kt : ¬ x = y → AX d k C S X a1 lv st h n1 n2 F) (kf : x = y → AX d k C S X nx lv st h n1 n2 F) : AX d k C S X pc lv (.int y :: .int x :: st) h n1 n2 F := by
  intro l D cid b p e R s m args below meth c A Q n0 ad0 Cx hF ad H locs ls hr
  obtain ⟨hx, hb, hrt, hml, hown, hts, hlk, hnm, hK, hN, hA, hfr, hlo, hRc, hRs, hX⟩ := id Cx
  obtain ⟨hP, hD, hS, hl, hg, hn, hz⟩ := id hr
  obtain ⟨hd, e9⟩ := m_dec hi
  subst e9
  exact lv_icmp_ne hx hb hd (m_jmp hi rfl) (fun q => kt q l D cid b p e R s m args below meth c A Q n0 ad0 Cx hF ad H locs ls hr) (fun q => kf q l D cid b p e R s m args below meth c A Q n0 ad0 Cx hF ad H locs ls hr)
theorem AX.if_lt {x : Int32} {off : Int} (hi : m_i k pc = some (.ifCond .lt off, 3, nx, a1, a2)) (kt : x < 0 → AX d k C S X a1 lv st h n1 n2 F) (kf : ¬ x < 0 → AX d k C S X nx lv st h n1 n2 F) : AX d k C S X pc lv (.int x :: st) h n1 n2 F := by
  intro l D cid b p e R s m args below meth c A Q n0 ad0 Cx hF ad H locs ls hr
  obtain ⟨hx, hb, hrt, hml, hown, hts, hlk, hnm, hK, hN, hA, hfr, hlo, hRc, hRs, hX⟩ := id Cx
  obtain ⟨hP, hD, hS, hl, hg, hn, hz⟩ := id hr
  obtain ⟨hd, e9⟩ := m_dec hi
  subst e9
  exact lv_if_lt hx hb hd (m_jmp hi rfl) (fun q => kt q l D cid b p e R s m args below meth c A Q n0 ad0 Cx hF ad H locs ls hr) (fun q => kf q l D cid b p e R s m args below meth c A Q n0 ad0 Cx hF ad H locs ls hr)
theorem AX.icmp_lt {x y : Int32} {off : Int} (hi : m_i k pc = some (.if_icmp .lt off, 3, nx, a1, a2)) (kt : x < y → AX d k C S X a1 lv st h n1 n2 F) (kf : ¬ x < y → AX d k C S X nx lv st h n1 n2 F) : AX d k C S X pc lv (.int y :: .int x :: st) h n1 n2 F := by
  intro l D cid b p e R s m args below meth c A Q n0 ad0 Cx hF ad H locs ls hr
  obtain ⟨hx, hb, hrt, hml, hown, hts, hlk, hnm, hK, hN, hA, hfr, hlo, hRc, hRs, hX⟩ := id Cx
  obtain ⟨hP, hD, hS, hl, hg, hn, hz⟩ := id hr
  obtain ⟨hd, e9⟩ := m_dec hi
  subst e9
  exact lv_icmp_lt hx hb hd (m_jmp hi rfl) (fun q => kt q l D cid b p e R s m args below meth c A Q n0 ad0 Cx hF ad H locs ls hr) (fun q => kf q l D cid b p e R s m args below meth c A Q n0 ad0 Cx hF ad H locs ls hr)
theorem AX.if_ge {x : Int32} {off : Int} (hi : m_i k pc = some (.ifCond .ge off, 3, nx, a1, a2)) (kt : 0 ≤ x → AX d k C S X a1 lv st h n1 n2 F) (kf : ¬ 0 ≤ x → AX d k C S X nx lv st h n1 n2 F) : AX d k C S X pc lv (.int x :: st) h n1 n2 F := by
  intro l D cid b p e R s m args below meth c A Q n0 ad0 Cx hF ad H locs ls hr
  obtain ⟨hx, hb, hrt, hml, hown, hts, hlk, hnm, hK, hN, hA, hfr, hlo, hRc, hRs, hX⟩ := id Cx
  obtain ⟨hP, hD, hS, hl, hg, hn, hz⟩ := id hr
  obtain ⟨hd, e9⟩ := m_dec hi
  subst e9
  exact lv_if_ge hx hb hd (m_jmp hi rfl) (fun q => kt q l D cid b p e R s m args below meth c A Q n0 ad0 Cx hF ad H locs ls hr) (fun q => kf q l D cid b p e R s m args below meth c A Q n0 ad0 Cx hF ad H locs ls hr)
theorem AX.icmp_ge {x y : Int32} {off : Int} (hi : m_i k pc = some (.if_icmp .ge off, 3, nx, a1, a2)) (kt : y ≤ x → AX d k C S X a1 lv st h n1 n2 F) (kf : ¬ y ≤ x → AX d k C S X nx lv st h n1 n2 F) : AX d k C S X pc lv (.int y :: .int x :: st) h n1 n2 F := by
  intro l D cid b p e R s m args below meth c A Q n0 ad0 Cx hF ad H locs ls hr
  obtain ⟨hx, hb, hrt, hml, hown, hts, hlk, hnm, hK, hN, hA, hfr, hlo, hRc, hRs, hX⟩ := id Cx
  obtain ⟨hP, hD, hS, hl, hg, hn, hz⟩ := id hr
  obtain ⟨hd, e9⟩ := m_dec hi
  subst e9
  exact lv_icmp_ge hx hb hd (m_jmp hi rfl) (fun q => kt q l D cid b p e R s m args below meth c A Q n0 ad0 Cx hF ad H locs ls hr) (fun q => kf q l D cid b p e R s m args below meth c A Q n0 ad0 Cx hF ad H locs ls hr)
theorem AX.if_gt {x : Int32} {off : Int} (hi : m_i k pc = some (.ifCond .gt off, 3, nx, a1, a2)) (kt : 0 < x → AX d k C S X a1 lv st h n1 n2 F) (kf : ¬ 0 < x → AX d k C S X nx lv st h n1 n2 F) : AX d k C S X pc lv (.int x :: st) h n1 n2 F := by
  intro l D cid b p e R s m args below meth c A Q n0 ad0 Cx hF ad H locs ls hr
  obtain ⟨hx, hb, hrt, hml, hown, hts, hlk, hnm, hK, hN, hA, hfr, hlo, hRc, hRs, hX⟩ := id Cx
  obtain ⟨hP, hD, hS, hl, hg, hn, hz⟩ := id hr
  obtain ⟨hd, e9⟩ := m_dec hi
  subst e9
  exact lv_if_gt hx hb hd (m_jmp hi rfl) (fun q => kt q l D cid b p e R s m args below meth c A Q n0 ad0 Cx hF ad H locs ls hr) (fun q => kf q l D cid b p e R s m args below meth c A Q n0 ad0 Cx hF ad H locs ls hr)
theorem AX.icmp_gt {x y : Int32} {off : Int} (hi : m_i k pc = some (.if_icmp .gt off, 3, nx, a1, a2)) (kt : y < x → AX d k C S X a1 lv st h n1 n2 F) (kf : ¬ y < x → AX d k C S X nx lv st h n1 n2 F) : AX d k C S X pc lv (.int y :: .int x :: st) h n1 n2 F := by
  intro l D cid b p e R s m args below meth c A Q n0 ad0 Cx hF ad H locs ls hr
  obtain ⟨hx, hb, hrt, hml, hown, hts, hlk, hnm, hK, hN, hA, hfr, hlo, hRc, hRs, hX⟩ := id Cx
  obtain ⟨hP, hD, hS, hl, hg, hn, hz⟩ := id hr
  obtain ⟨hd, e9⟩ := m_dec hi
  subst e9
  exact lv_icmp_gt hx hb hd (m_jmp hi rfl) (fun q => kt q l D cid b p e R s m args below meth c A Q n0 ad0 Cx hF ad H locs ls hr) (fun q => kf q l D cid b p e R s m args below meth c A Q n0 ad0 Cx hF ad H locs ls hr)
theorem AX.if_le {x : Int32} {off : Int} (hi : m_i k pc = some (.ifCond .le off, 3, nx, a1, a2)) (kt : x ≤ 0 → AX d k C S X a1 lv st h n1 n2 F) (kf : ¬ x ≤ 0 → AX d k C S X nx lv st h n1 n2 F) : AX d k C S X pc lv (.int x :: st) h n1 n2 F := by
  intro l D cid b p e R s m args below meth c A Q n0 ad0 Cx hF ad H locs ls hr
  obtain ⟨hx, hb, hrt, hml, hown, hts, hlk, hnm, hK, hN, hA, hfr, hlo, hRc, hRs, hX⟩ := id Cx
  obtain ⟨hP, hD, hS, hl, hg, hn, hz⟩ := id hr
  obtain ⟨hd, e9⟩ := m_dec hi
  subst e9
  exact lv_if_le hx hb hd (m_jmp hi rfl) (fun q => kt q l D cid b p e R s m args below meth c A Q n0 ad0 Cx hF ad H locs ls hr) (fun q => kf q l D cid b p e R s m args below meth c A Q n0 ad0 Cx hF ad H locs ls hr)
theorem AX.icmp_le {x y : Int32} {off : Int} (hi : m_i k pc = some (.if_icmp .le off, 3, nx, a1, a2)) (kt : x ≤ y → AX d k C S X a1 lv st h n1 n2 F) (kf : ¬ x ≤ y → AX d k C S X nx lv st h n1 n2 F) : AX d k C S X pc lv (.int y :: .int x :: st) h n1 n2 F := by
  intro l D cid b p e R s m args below meth c A Q n0 ad0 Cx hF ad H locs ls hr
  obtain ⟨hx, hb, hrt, hml, hown, hts, hlk, hnm, hK, hN, hA, hfr, hlo, hRc, hRs, hX⟩ := id Cx
  obtain ⟨hP, hD, hS, hl, hg, hn, hz⟩ := id hr
  obtain ⟨hd, e9⟩ := m_dec hi
  subst e9
  exact lv_icmp_le hx hb hd (m_jmp hi rfl) (fun q => kt q l D cid b p e R s m args below meth c A Q n0 ad0 Cx hF ad H locs ls hr) (fun q => kf q l D cid b p e R s m args below meth c A Q n0 ad0 Cx hF ad H locs ls hr)
theorem AX.goto {off : Int} (hi : m_i k pc = some (.goto off, 3, nx, a1, a2)) (kk : AX d k C S X a1 lv st h n1 n2 F) : AX d k C S X pc lv st h n1 n2 F := by
  intro l D cid b p e R s m args below meth c A Q n0 ad0 Cx hF ad H locs ls hr
  obtain ⟨hx, hb, hrt, hml, hown, hts, hlk, hnm, hK, hN, hA, hfr, hlo, hRc, hRs, hX⟩ := id Cx
  obtain ⟨hP, hD, hS, hl, hg, hn, hz⟩ := id hr
  obtain ⟨hd, e9⟩ := m_dec hi
  subst e9
  exact lv_goto hx hb hd (m_jmp hi rfl) (kk l D cid b p e R s m args below meth c A Q n0 ad0 Cx hF ad H locs ls hr)
theorem AX.tsOut {dflt lo hi' : Int} {offs : Array Int} {len : Nat} {x : Int32} (hi : m_i k pc = some (.tableswitch dflt lo hi' offs, len, nx, a1, a2)) (hq : x.toInt < lo ∨ hi' < x.toInt) (kk : AX d k C S X a1 lv st h n1 n2 F) : AX d k C S X pc lv (.int x :: st) h n1 n2 F := by
  intro l D cid b p e R s m args below meth c A Q n0 ad0 Cx hF ad H locs ls hr
  obtain ⟨hx, hb, hrt, hml, hown, hts, hlk, hnm, hK, hN, hA, hfr, hlo, hRc, hRs, hX⟩ := id Cx
  obtain ⟨hP, hD, hS, hl, hg, hn, hz⟩ := id hr
  obtain ⟨hd, e9⟩ := m_dec hi
  exact lv_tableOut hx hb hd hq (m_jmp hi rfl) (kk l D cid b p e R s m args below meth c A Q n0 ad0 Cx hF ad H locs ls hr)
theorem AX.tsIn {dflt lo hi' off : Int} {offs : Array Int} {len : Nat} {x : Int32} (tgt : Nat) (hi : m_i k pc = some (.tableswitch dflt lo hi' offs, len, nx, a1, a2)) (h1 : ¬ x.toInt < lo) (h2 : ¬ hi' < x.toInt) (ho : offs[(x.toInt - lo).toNat]? = some off) (ht : (pc : Int) + off = (tgt : Int)) (kk : AX d k C S X tgt lv st h n1 n2 F) : AX d k C S X pc lv (.int x :: st) h n1 n2 F := by
  intro l D cid b p e R s m args below meth c A Q n0 ad0 Cx hF ad H locs ls hr
  obtain ⟨hx, hb, hrt, hml, hown, hts, hlk, hnm, hK, hN, hA, hfr, hlo, hRc, hRs, hX⟩ := id Cx
  obtain ⟨hP, hD, hS, hl, hg, hn, hz⟩ := id hr
  obtain ⟨hd, e9⟩ := m_dec hi
  exact lv_tableIn hx hb hd h1 h2 ho ht (kk l D cid b p e R s m args below meth c A Q n0 ad0 Cx hF ad H locs ls hr)
theorem AX.ls {dflt off : Int} {ps : Array (Int × Int)} {len : Nat} {x : Int32} (tgt : Nat) (hi : m_i k pc = some (.lookupswitch dflt ps, len, nx, a1, a2)) (hp : (ps.toList.zip (ps.toList.drop 1)).all (fun (a, next) => a.1 < next.1) = true) (ho : Op.lookupswitch.offset ps.toList dflt x.toInt = off) (ht : (pc : Int) + off = (tgt : Int)) (kk : AX d k C S X tgt lv st h n1 n2 F) : AX d k C S X pc lv (.int x :: st) h n1 n2 F := by
  intro l D cid b p e R s m args below meth c A Q n0 ad0 Cx hF ad H locs ls hr
  obtain ⟨hx, hb, hrt, hml, hown, hts, hlk, hnm, hK, hN, hA, hfr, hlo, hRc, hRs, hX⟩ := id Cx
  obtain ⟨hP, hD, hS, hl, hg, hn, hz⟩ := id hr
  obtain ⟨hd, e9⟩ := m_dec hi
  exact lv_lookup hx hb hd hp ho ht (kk l D cid b p e R s m args below meth c A Q n0 ad0 Cx hF ad H locs ls hr)
theorem AX.getf {idx i sl ci : Nat} {fs : List Value} {v : Value} (hi : m_i k pc = some (.getfield idx, 3, nx, ci, sl)) (hh : h[i]? = some (.inr (ci, fs))) (hv : fs[sl]? = some v) (kk : AX d k C S X nx lv (v :: st) h n1 n2 F) : AX d k C S X pc lv (.ref i :: st) h n1 n2 F := by
  intro l D cid b p e R s m args below meth c A Q n0 ad0 Cx hF ad H locs ls hr
  obtain ⟨hx, hb, hrt, hml, hown, hts, hlk, hnm, hK, hN, hA, hfr, hlo, hRc, hRs, hX⟩ := id Cx
  obtain ⟨hP, hD, hS, hl, hg, hn, hz⟩ := id hr
  obtain ⟨hd, e9⟩ := m_dec hi
  subst e9
  obtain ⟨Cn, T, N, hc, hsl, hlk1⟩ := m_fld hi (Or.inl rfl)
  exact va_get hx hb hts (m_cls hc).1 hown hK hP i (ax_w_at hh) hc sl hsl (hts _ hlk1) (fun _ q => q) (v := ax_v b ad v) (by rw [List.getElem?_map, hv]; rfl) hd (kk l D cid b p e R s m args below meth c A Q n0 ad0 Cx hF ad H locs ls hr)
theorem AX.putf {idx i sl ci : Nat} {fs : List Value} {v : Value} (hi : m_i k pc = some (.putfield idx, 3, nx, ci, sl)) (hh : h[i]? = some (.inr (ci, fs))) (hl0 : sl < fs.length) (hv : ax_fits (mTf ci sl) v = true) (kk : AX d k C S X nx lv st (h.set i (.inr (ci, fs.set sl v))) n1 n2 F) : AX d k C S X pc lv (v :: .ref i :: st) h n1 n2 F := by
  intro l D cid b p e R s m args below meth c A Q n0 ad0 Cx hF ad H locs ls hr
  obtain ⟨hx, hb, hrt, hml, hown, hts, hlk, hnm, hK, hN, hA, hfr, hlo, hRc, hRs, hX⟩ := id Cx
  obtain ⟨hP, hD, hS, hl, hg, hn, hz⟩ := id hr
  obtain ⟨hd, e9⟩ := m_dec hi
  subst e9
  obtain ⟨Cn, T, N, hc, hsl, hlk1⟩ := m_fld hi (Or.inr rfl)
  obtain ⟨q1, q2, q3⟩ := m_cls hc
  obtain ⟨f1, f2⟩ := ax_fits_ok b ad hv
  have hw : (ax_w cid b ad h).set i (ad i, .inr (ci, (fs.map (ax_v b ad)).set sl (ax_v b ad v))) = ax_w cid b ad (h.set i (.inr (ci, fs.set sl v))) := by
    rw [← ax_w_set]
    simp only [ax_e, List.map_set]
  have go : ∀ (H1 : Heap) (locs1 : List Loc), va_P D mCl ((ax_w cid b ad h).set i (ad i, .inr (ci, (fs.map (ax_v b ad)).set sl (ax_v b ad v)))) H1 → va_D A ((ax_w cid b ad h).set i (ad i, .inr (ci, (fs.map (ax_v b ad)).set sl (ax_v b ad v)))) → va_S A s.heap H1 locs1 → W p l e R s m args below meth c H1 locs1 n1 n2 Q (F0 m (pc + 3) ls (st.map (ax_v b ad))) := by
    intro H1 locs1 g1 g2 g3
    rw [hw] at g1 g2
    exact kk l D cid b p e R s m args below meth c A Q n0 ad0 Cx hF ad H1 locs1 ls ⟨g1, g2, g3, hl, hg, by rw [List.length_set]; exact hn, hz⟩
  rcases m_fin hi hc with hf | ⟨hf, hi2, hi3⟩
  · exact va_put hx hb hts q1 (mTf ci) q2 q3 hown hK hP hD hS i (ax_w_at hh) hc sl hsl (hts _ hlk1) (fun _ q => q) hf (q2 sl hsl) f1 f2 (by rw [List.length_map]; exact hl0) hd go
  · exact va_putF hx hb hts q1 (mTf ci) q2 q3 hown hK hP hD hS i (ax_w_at hh) hc sl hsl (hts _ hlk1) (fun _ q => q) hf (hnm hi2) hi3 (q2 sl hsl) f1 f2 (by rw [List.length_map]; exact hl0) hd go
theorem AX.iald {i n : Nat} {f : Nat → Int32} {j : Int32} (hi : m_i k pc = some (.iaload, 1, nx, a1, a2)) (hh : h[i]? = some (.inl (0, n, .inl f))) (hin : vp_in j n) (kk : AX d k C S X nx lv (.int (f j.toNatClampNeg) :: st) h n1 n2 F) : AX d k C S X pc lv (.int j :: .ref i :: st) h n1 n2 F := by
  intro l D cid b p e R s m args below meth c A Q n0 ad0 Cx hF ad H locs ls hr
  obtain ⟨hx, hb, hrt, hml, hown, hts, hlk, hnm, hK, hN, hA, hfr, hlo, hRc, hRs, hX⟩ := id Cx
  obtain ⟨hP, hD, hS, hl, hg, hn, hz⟩ := id hr
  obtain ⟨hd, e9⟩ := m_dec hi
  subst e9
  exact va_iald hx hb hK hP i 0 (ax_w_at hh) rfl hin hd (kk l D cid b p e R s m args below meth c A Q n0 ad0 Cx hF ad H locs ls hr)
theorem AX.lald {i n : Nat} {f : Nat → Int64} {j : Int32} (hi : m_i k pc = some (.laload, 1, nx, a1, a2)) (hh : h[i]? = some (.inl (1, n, .inr (.inl f)))) (hin : vp_in j n) (kk : AX d k C S X nx lv (.long (f j.toNatClampNeg) :: st) h n1 n2 F) : AX d k C S X pc lv (.int j :: .ref i :: st) h n1 n2 F := by
  intro l D cid b p e R s m args below meth c A Q n0 ad0 Cx hF ad H locs ls hr
  obtain ⟨hx, hb, hrt, hml, hown, hts, hlk, hnm, hK, hN, hA, hfr, hlo, hRc, hRs, hX⟩ := id Cx
  obtain ⟨hP, hD, hS, hl, hg, hn, hz⟩ := id hr
  obtain ⟨hd, e9⟩ := m_dec hi
  subst e9
  exact va_lald hx hb hK hP i 1 (ax_w_at hh) rfl hin hd (kk l D cid b p e R s m args below meth c A Q n0 ad0 Cx hF ad H locs ls hr)
theorem AX.zald {i n : Nat} {f : Nat → Int32} {j : Int32} (hi : m_i k pc = some (.baload, 1, nx, a1, a2)) (hh : h[i]? = some (.inl (2, n, .inl f))) (hin : vp_in j n) (kk : AX d k C S X nx lv (.int (f j.toNatClampNeg) :: st) h n1 n2 F) : AX d k C S X pc lv (.int j :: .ref i :: st) h n1 n2 F := by
  intro l D cid b p e R s m args below meth c A Q n0 ad0 Cx hF ad H locs ls hr
  obtain ⟨hx, hb, hrt, hml, hown, hts, hlk, hnm, hK, hN, hA, hfr, hlo, hRc, hRs, hX⟩ := id Cx
  obtain ⟨hP, hD, hS, hl, hg, hn, hz⟩ := id hr
  obtain ⟨hd, e9⟩ := m_dec hi
  subst e9
  exact va_zald hx hb hK hP i 2 (ax_w_at hh) rfl hin hd (kk l D cid b p e R s m args below meth c A Q n0 ad0 Cx hF ad H locs ls hr)
theorem AX.iast {i n : Nat} {f : Nat → Int32} {j : Int32} {x : Int32} (hi : m_i k pc = some (.iastore, 1, nx, a1, a2)) (hh : h[i]? = some (.inl (0, n, .inl (f)))) (hin : vp_in j n) (kk : AX d k C S X nx lv st (h.set i (.inl (0, n, .inl (upd f j.toNatClampNeg x)))) n1 n2 F) : AX d k C S X pc lv (.int x :: .int j :: .ref i :: st) h n1 n2 F := by
  intro l D cid b p e R s m args below meth c A Q n0 ad0 Cx hF ad H locs ls hr
  obtain ⟨hx, hb, hrt, hml, hown, hts, hlk, hnm, hK, hN, hA, hfr, hlo, hRc, hRs, hX⟩ := id Cx
  obtain ⟨hP, hD, hS, hl, hg, hn, hz⟩ := id hr
  obtain ⟨hd, e9⟩ := m_dec hi
  subst e9
  have hw : (ax_w cid b ad h).set i (ad i, .inl (cid 0, n, .inl (upd f j.toNatClampNeg x))) = ax_w cid b ad (h.set i (.inl (0, n, .inl (upd f j.toNatClampNeg x)))) := by
    rw [← ax_w_set]
    rfl
  refine va_iast hx hb hK hP hD hS i 0 (ax_w_at hh) rfl hin hd (fun H1 locs1 g1 g2 g3 => ?_)
  rw [hw] at g1 g2
  exact kk l D cid b p e R s m args below meth c A Q n0 ad0 Cx hF ad H1 locs1 ls ⟨g1, g2, g3, hl, hg, by rw [List.length_set]; exact hn, hz⟩
theorem AX.last {i n : Nat} {f : Nat → Int64} {j : Int32} {x : Int64} (hi : m_i k pc = some (.lastore, 1, nx, a1, a2)) (hh : h[i]? = some (.inl (1, n, .inr (.inl (f))))) (hin : vp_in j n) (kk : AX d k C S X nx lv st (h.set i (.inl (1, n, .inr (.inl (vp_updL f j.toNatClampNeg x))))) n1 n2 F) : AX d k C S X pc lv (.long x :: .int j :: .ref i :: st) h n1 n2 F := by
  intro l D cid b p e R s m args below meth c A Q n0 ad0 Cx hF ad H locs ls hr
  obtain ⟨hx, hb, hrt, hml, hown, hts, hlk, hnm, hK, hN, hA, hfr, hlo, hRc, hRs, hX⟩ := id Cx
  obtain ⟨hP, hD, hS, hl, hg, hn, hz⟩ := id hr
  obtain ⟨hd, e9⟩ := m_dec hi
  subst e9
  have hw : (ax_w cid b ad h).set i (ad i, .inl (cid 1, n, .inr (.inl (vp_updL f j.toNatClampNeg x)))) = ax_w cid b ad (h.set i (.inl (1, n, .inr (.inl (vp_updL f j.toNatClampNeg x))))) := by
    rw [← ax_w_set]
    rfl
  refine va_last hx hb hK hP hD hS i 1 (ax_w_at hh) rfl hin hd (fun H1 locs1 g1 g2 g3 => ?_)
  rw [hw] at g1 g2
  exact kk l D cid b p e R s m args below meth c A Q n0 ad0 Cx hF ad H1 locs1 ls ⟨g1, g2, g3, hl, hg, by rw [List.length_set]; exact hn, hz⟩
theorem AX.zast {i n : Nat} {f : Nat → Int32} {j : Int32} {x : Int32} (hi : m_i k pc = some (.bastore, 1, nx, a1, a2)) (hh : h[i]? = some (.inl (2, n, .inl (f)))) (hin : vp_in j n) (kk : AX d k C S X nx lv st (h.set i (.inl (2, n, .inl (upd f j.toNatClampNeg (vp_nar .boolean x))))) n1 n2 F) : AX d k C S X pc lv (.int x :: .int j :: .ref i :: st) h n1 n2 F := by
  intro l D cid b p e R s m args below meth c A Q n0 ad0 Cx hF ad H locs ls hr
  obtain ⟨hx, hb, hrt, hml, hown, hts, hlk, hnm, hK, hN, hA, hfr, hlo, hRc, hRs, hX⟩ := id Cx
  obtain ⟨hP, hD, hS, hl, hg, hn, hz⟩ := id hr
  obtain ⟨hd, e9⟩ := m_dec hi
  subst e9
  have hw : (ax_w cid b ad h).set i (ad i, .inl (cid 2, n, .inl (upd f j.toNatClampNeg (vp_nar .boolean x)))) = ax_w cid b ad (h.set i (.inl (2, n, .inl (upd f j.toNatClampNeg (vp_nar .boolean x))))) := by
    rw [← ax_w_set]
    rfl
  refine va_zast hx hb hK hP hD hS i 2 (ax_w_at hh) rfl hin hd (fun H1 locs1 g1 g2 g3 => ?_)
  rw [hw] at g1 g2
  exact kk l D cid b p e R s m args below meth c A Q n0 ad0 Cx hF ad H1 locs1 ls ⟨g1, g2, g3, hl, hg, by rw [List.length_set]; exact hn, hz⟩
theorem AX.alen {i t : Nat} {x : vp_A} (hi : m_i k pc = some (.arraylength, 1, nx, a1, a2)) (hh : h[i]? = some (.inl (t, x))) (ht : t < 3) (kk : AX d k C S X nx lv (.int (Int32.ofNat x.1) :: st) h n1 n2 F) : AX d k C S X pc lv (.ref i :: st) h n1 n2 F := by
  intro l D cid b p e R s m args below meth c A Q n0 ad0 Cx hF ad H locs ls hr
  obtain ⟨hx, hb, hrt, hml, hown, hts, hlk, hnm, hK, hN, hA, hfr, hlo, hRc, hRs, hX⟩ := id Cx
  obtain ⟨hP, hD, hS, hl, hg, hn, hz⟩ := id hr
  obtain ⟨hd, e9⟩ := m_dec hi
  subst e9
  obtain ⟨ty, hty⟩ : ∃ ty, (mTy cid)[t]? = some (cid t, ty) := by
    rcases (show t = 0 ∨ t = 1 ∨ t = 2 by omega) with rfl | rfl | rfl <;> exact ⟨_, rfl⟩
  exact va_alen hx hb hK hP i t (ax_w_at hh) hty rfl hd (kk l D cid b p e R s m args below meth c A Q n0 ad0 Cx hF ad H locs ls hr)
theorem AX.sld {L y : Nat} {xs : Nat → Int32} {j : Int32} (hi : m_i k pc = some (.iaload, 1, nx, a1, a2)) (hin : vp_in j L) (kk : AX d k C S (some (L, xs)) nx lv (.int (xs j.toNatClampNeg) :: st) h n1 n2 F) : AX d k C S (some (L, xs)) pc lv (.int j :: .retAddr y :: st) h n1 n2 F := by
  intro l D cid b p e R s m args below meth c A Q n0 ad0 Cx hF ad H locs ls hr
  obtain ⟨hx, hb, hrt, hml, hown, hts, hlk, hnm, hK, hN, hA, hfr, hlo, hRc, hRs, hX⟩ := id Cx
  obtain ⟨hP, hD, hS, hl, hg, hn, hz⟩ := id hr
  obtain ⟨hd, e9⟩ := m_dec hi
  subst e9
  obtain ⟨x1, x2, x3⟩ := hX L xs rfl
  exact va_sld hx hb x1 x2 x3 hS hin hd (kk l D cid b p e R s m args below meth c A Q n0 ad0 Cx hF ad H locs ls hr)
theorem AX.slen {L y : Nat} {xs : Nat → Int32} (hi : m_i k pc = some (.arraylength, 1, nx, a1, a2)) (kk : AX d k C S (some (L, xs)) nx lv (.int (Int32.ofNat L) :: st) h n1 n2 F) : AX d k C S (some (L, xs)) pc lv (.retAddr y :: st) h n1 n2 F := by
  intro l D cid b p e R s m args below meth c A Q n0 ad0 Cx hF ad H locs ls hr
  obtain ⟨hx, hb, hrt, hml, hown, hts, hlk, hnm, hK, hN, hA, hfr, hlo, hRc, hRs, hX⟩ := id Cx
  obtain ⟨hP, hD, hS, hl, hg, hn, hz⟩ := id hr
  obtain ⟨hd, e9⟩ := m_dec hi
  subst e9
  obtain ⟨x1, x2, x3⟩ := hX L xs rfl
  exact va_slen hx hb x1 x2 x3 hS hd (kk l D cid b p e R s m args below meth c A Q n0 ad0 Cx hF ad H locs ls hr)
theorem AX.new {idx ci : Nat} (hi : m_i k pc = some (.new idx, 3, nx, ci, a2)) (hc1 : h.all (ax_okE h.length) = true) (hc2 : ax_okF h.length lv st = true) (hC : n1 + 1 ≤ C) (hS2 : n2 + a2 ≤ S) (kk : AX d k C S X nx lv (.ref h.length :: st) (h ++ [.inr (ci, mDf ci)]) (n1 + 1) (n2 + a2) F) : AX d k C S X pc lv st h n1 n2 F := by
  intro l D cid b p e R s m args below meth c A Q n0 ad0 Cx hF ad H locs ls hr
  obtain ⟨hx, hb, hrt, hml, hown, hts, hlk, hnm, hK, hN, hA, hfr, hlo, hRc, hRs, hX⟩ := id Cx
  obtain ⟨hP, hD, hS, hl, hg, hn, hz⟩ := id hr
  obtain ⟨hd, e9⟩ := m_dec hi
  subst e9
  obtain ⟨Cn, T, N, hc, eN, w1, w2, w3⟩ := m_new hi
  subst eN
  obtain ⟨q1, q2, q3⟩ := m_cls hc
  refine va_new hx hb hts q1 (mTf ci) q2 hown (hts _ w1) (hts _ w2) (hts _ w3) hK hP hD hS hA hc (fs := mDf ci) (m_df hc) (by rw [hRc]; exact hC) (by rw [hRs]; exact hS2) hd (fun q H1 g1 g2 g3 => ?_)
  simp only [ax_okF, Bool.and_eq_true] at hc2
  have he : ax_e cid b (ax_new ad h.length q) (.inr (ci, mDf ci)) = .inr (ci, mDf ci) := by
    simp only [ax_e, m_dfm hc]
  rw [ax_w_push hc1 he] at g1 g2
  have hst : st.map (ax_v b ad) = st.map (ax_v b (ax_new ad h.length q)) := (ax_s_ext hc2.2 ax_new_lt).symm
  have e1 : ax_new ad h.length q h.length = q := by simp [ax_new]
  have hk := kk l D cid b p e R s m args below meth c A Q n0 ad0 Cx hF (ax_new ad h.length q) H1 locs ls ⟨g1, g2, g3, by rw [ax_l_ext hc2.1 ax_new_lt]; exact hl, fun i hi' => (ax_new_lt i (by omega)).trans (hg i hi'), by rw [List.length_append]; omega, fun z => by omega⟩
  rw [List.map_cons] at hk
  simp only [ax_v, e1] at hk
  rw [hst]
  exact hk
theorem AX.newI {n : Int32} (N : Nat) (hi : m_i k pc = some (.newarray .int, 2, nx, a1, a2)) (hn0 : ¬ n < 0) (hN0 : n.toNatClampNeg = N) (hb0 : N * 4 ≤ 536870912) (hc1 : h.all (ax_okE h.length) = true) (hc2 : ax_okF h.length lv st = true) (hC : n1 + 1 ≤ C) (hS2 : n2 + N ≤ S) (kk : AX d k C S X nx lv (.ref h.length :: st) (h ++ [.inl (0, N, .inl (fun _ => 0))]) (n1 + 1) (n2 + N) F) : AX d k C S X pc lv (.int n :: st) h n1 n2 F := by
  intro l D cid b p e R s m args below meth c A Q n0 ad0 Cx hF ad H locs ls hr
  obtain ⟨hx, hb, hrt, hml, hown, hts, hlk, hnm, hK, hN, hA, hfr, hlo, hRc, hRs, hX⟩ := id Cx
  obtain ⟨hP, hD, hS, hl, hg, hn, hz⟩ := id hr
  obtain ⟨hd, e9⟩ := m_dec hi
  subst e9
  refine va_newa hx hb (hts _ (m_arr hi)) (ty := .int) rfl hK hP hD hS hA (a0 := (N, .inl (fun _ => 0))) (fun _ => rfl) hn0 hN0 hb0 (by rw [hRc]; exact hC) (by rw [hRs]; exact hS2) hd (fun q cA H1 g0 g1 g2 g3 => ?_)
  have ec : cA = cid 0 := by
    have z1 := (g0.2 3 (cA, .int) rfl).2
    have z2 := (hK.2 0 (cid 0, .int) rfl).2
    exact Option.some.inj (z1.symm.trans z2)
  subst ec
  simp only [ax_okF, Bool.and_eq_true] at hc2
  rw [ax_w_push hc1 (e := .inl (0, N, .inl (fun _ => 0))) (e' := .inl (cid 0, N, .inl (fun _ => 0))) rfl] at g1 g2
  have hst : st.map (ax_v b ad) = st.map (ax_v b (ax_new ad h.length q)) := (ax_s_ext hc2.2 ax_new_lt).symm
  have e1 : ax_new ad h.length q h.length = q := by simp [ax_new]
  have hk := kk l D cid b p e R s m args below meth c A Q n0 ad0 Cx hF (ax_new ad h.length q) H1 locs ls ⟨g1, g2, g3, by rw [ax_l_ext hc2.1 ax_new_lt]; exact hl, fun i hi' => (ax_new_lt i (by omega)).trans (hg i hi'), by rw [List.length_append]; omega, fun z => by omega⟩
  rw [List.map_cons] at hk
  simp only [ax_v, e1] at hk
  rw [hst]
  exact hk
theorem AX.newJ {n : Int32} (N : Nat) (hi : m_i k pc = some (.newarray .long, 2, nx, a1, a2)) (hn0 : ¬ n < 0) (hN0 : n.toNatClampNeg = N) (hb0 : N * 8 ≤ 536870912) (hc1 : h.all (ax_okE h.length) = true) (hc2 : ax_okF h.length lv st = true) (hC : n1 + 1 ≤ C) (hS2 : n2 + N ≤ S) (kk : AX d k C S X nx lv (.ref h.length :: st) (h ++ [.inl (1, N, .inr (.inl (fun _ => 0)))]) (n1 + 1) (n2 + N) F) : AX d k C S X pc lv (.int n :: st) h n1 n2 F := by
  intro l D cid b p e R s m args below meth c A Q n0 ad0 Cx hF ad H locs ls hr
  obtain ⟨hx, hb, hrt, hml, hown, hts, hlk, hnm, hK, hN, hA, hfr, hlo, hRc, hRs, hX⟩ := id Cx
  obtain ⟨hP, hD, hS, hl, hg, hn, hz⟩ := id hr
  obtain ⟨hd, e9⟩ := m_dec hi
  subst e9
  refine va_newa hx hb (hts _ (m_arr hi)) (ty := .long) rfl hK hP hD hS hA (a0 := (N, .inr (.inl (fun _ => 0)))) (fun _ => rfl) hn0 hN0 hb0 (by rw [hRc]; exact hC) (by rw [hRs]; exact hS2) hd (fun q cA H1 g0 g1 g2 g3 => ?_)
  have ec : cA = cid 1 := by
    have z1 := (g0.2 3 (cA, .long) rfl).2
    have z2 := (hK.2 1 (cid 1, .long) rfl).2
    exact Option.some.inj (z1.symm.trans z2)
  subst ec
  simp only [ax_okF, Bool.and_eq_true] at hc2
  rw [ax_w_push hc1 (e := .inl (1, N, .inr (.inl (fun _ => 0)))) (e' := .inl (cid 1, N, .inr (.inl (fun _ => 0)))) rfl] at g1 g2
  have hst : st.map (ax_v b ad) = st.map (ax_v b (ax_new ad h.length q)) := (ax_s_ext hc2.2 ax_new_lt).symm
  have e1 : ax_new ad h.length q h.length = q := by simp [ax_new]
  have hk := kk l D cid b p e R s m args below meth c A Q n0 ad0 Cx hF (ax_new ad h.length q) H1 locs ls ⟨g1, g2, g3, by rw [ax_l_ext hc2.1 ax_new_lt]; exact hl, fun i hi' => (ax_new_lt i (by omega)).trans (hg i hi'), by rw [List.length_append]; omega, fun z => by omega⟩
  rw [List.map_cons] at hk
  simp only [ax_v, e1] at hk
  rw [hst]
  exact hk
theorem AX.newZ {n : Int32} (N : Nat) (hi : m_i k pc = some (.newarray .boolean, 2, nx, a1, a2)) (hn0 : ¬ n < 0) (hN0 : n.toNatClampNeg = N) (hb0 : N * 1 ≤ 536870912) (hc1 : h.all (ax_okE h.length) = true) (hc2 : ax_okF h.length lv st = true) (hC : n1 + 1 ≤ C) (hS2 : n2 + N ≤ S) (kk : AX d k C S X nx lv (.ref h.length :: st) (h ++ [.inl (2, N, .inl (fun _ => 0))]) (n1 + 1) (n2 + N) F) : AX d k C S X pc lv (.int n :: st) h n1 n2 F := by
  intro l D cid b p e R s m args below meth c A Q n0 ad0 Cx hF ad H locs ls hr
  obtain ⟨hx, hb, hrt, hml, hown, hts, hlk, hnm, hK, hN, hA, hfr, hlo, hRc, hRs, hX⟩ := id Cx
  obtain ⟨hP, hD, hS, hl, hg, hn, hz⟩ := id hr
  obtain ⟨hd, e9⟩ := m_dec hi
  subst e9
  refine va_newa hx hb (hts _ (m_arr hi)) (ty := .boolean) rfl hK hP hD hS hA (a0 := (N, .inl (fun _ => 0))) (fun _ => rfl) hn0 hN0 hb0 (by rw [hRc]; exact hC) (by rw [hRs]; exact hS2) hd (fun q cA H1 g0 g1 g2 g3 => ?_)
  have ec : cA = cid 2 := by
    have z1 := (g0.2 3 (cA, .boolean) rfl).2
    have z2 := (hK.2 2 (cid 2, .boolean) rfl).2
    exact Option.some.inj (z1.symm.trans z2)
  subst ec
  simp only [ax_okF, Bool.and_eq_true] at hc2
  rw [ax_w_push hc1 (e := .inl (2, N, .inl (fun _ => 0))) (e' := .inl (cid 2, N, .inl (fun _ => 0))) rfl] at g1 g2
  have hst : st.map (ax_v b ad) = st.map (ax_v b (ax_new ad h.length q)) := (ax_s_ext hc2.2 ax_new_lt).symm
  have e1 : ax_new ad h.length q h.length = q := by simp [ax_new]
  have hk := kk l D cid b p e R s m args below meth c A Q n0 ad0 Cx hF (ax_new ad h.length q) H1 locs ls ⟨g1, g2, g3, by rw [ax_l_ext hc2.1 ax_new_lt]; exact hl, fun i hi' => (ax_new_lt i (by omega)).trans (hg i hi'), by rw [List.length_append]; omega, fun z => by omega⟩
  rw [List.map_cons] at hk
  simp only [ax_v, e1] at hk
  rw [hst]
  exact hk
end AXR
end
section
/-! CALLS AND ENDS of the small machine -/
def ax_rok : Option FieldType → Option Value → Prop
  | none, none => True
  | some .int, some (.int _) => True
  | some .boolean, some (.int x) => x = 0 ∨ x = 1
  | some .long, some (.long _) => True
  | _, _ => False
def ax_ri : Option FieldType → Instr
  | none => .return_
  | some .long => .lreturn
  | _ => .ireturn
def ax_ret (k C S : Nat) (P : Option Value → ax_H → Prop) : ax_F := fun pc _ st h n1 n2 => n1 ≤ C ∧ n2 ≤ S ∧ ∃ r : Option Value, st = r.toList ∧ ax_rok (m_r k) r ∧ P r h ∧ ∃ nx a1 a2, m_i k pc = some (ax_ri (m_r k), 1, nx, a1, a2)
def AM (d k C S : Nat) (X : Option (Nat × (Nat → Int32))) (as : List Value) (h : ax_H) (P : Option Value → ax_H → Prop) : Prop := AX d k C S X 0 (lv_args 0 as) [] h 0 0 (ax_ret k C S P)
def ax_B (D : va_G) (cid : Nat → ClassId) (b : Nat) (ad : Nat → Nat) (h : ax_H) (sz : Nat) (X : Option (Nat × (Nat → Int32))) : State → Prop := fun U => U.heap.size = sz ∧ va_P D mCl (ax_w cid b ad h) U.heap ∧ va_K D mCl (mTy cid) U ∧ va_D (fun _ => True) (ax_w cid b ad h) ∧ (∀ w ∈ mNw, va_Nw w U) ∧ ∀ L xs, X = some (L, xs) → va_X b L xs U U.heap ∧ b < sz ∧ ¬ va_A (ax_w cid b ad h) sz b
def ax_Q (D : va_G) (cid : Nat → ClassId) (b : Nat) (ad : Nat → Nat) (h : ax_H) (C : Nat) (P : Option Value → ax_H → Prop) (A : Nat → Prop) : Array Value → State → Outcome → State → Prop := fun _ st oc t =>
  (∃ (r : Option Value) (h' : ax_H) (ad' : Nat → Nat), oc = .returned (r.map (ax_v b ad')) ∧ P r h' ∧ va_P D mCl (ax_w cid b ad' h') t.heap ∧ va_D A (ax_w cid b ad' h') ∧ (∀ i, i < h.length → ad' i = ad i) ∧ h.length ≤ h'.length ∧ (C = 0 → ad' = ad)) ∧ va_F A st t
theorem ax_sl_len (b : Nat) (ad : Nat → Nat) : ∀ as : List Value, (lg_sl (as.map (ax_v b ad))).length = (lg_sl as).length := by
  intro as
  induction as with
  | nil => rfl
  | cons v as ih =>
    simp only [lg_sl, List.map_cons, List.flatMap_cons, List.length_append] at ih ⊢
    rw [ih, ax_v_cat]
    by_cases hc : v.category = 2
    · simp [hc]
    · simp [hc]
theorem ax_l_args (b : Nat) (ad : Nat → Nat) : ∀ (as : List Value) (i : Nat), lv_args i (as.map (ax_v b ad)) = ax_l b ad (lv_args i as) := by
  intro as
  induction as with
  | nil => intro i; rfl
  | cons v as ih =>
    intro i
    simp only [List.map_cons, lv_args, ax_v_cat]
    rw [ih]
    rfl
set_option maxHeartbeats 4000000 in
theorem AM.met {d k C S : Nat} {X : Option (Nat × (Nat → Int32))} {as : List Value} {h : ax_H} {P : Option Value → ax_H → Prop} (hA : AM d k C S X as h P) (hpl : plainName (m_y k).cls = true) (hlen : (lg_sl as).length ≤ m_l k) (l : Launch) (D : va_G) (cid : Nat → ClassId) (b : Nat) (ad : Nat → Nat) (sz : Nat) :
    Met l (m_y k) (m_w k) { frames := d, cells := C, slots := S, locals := 33 * d } (va_Pc (as.map (ax_v b ad)) (ax_B D cid b ad h sz X)) (ax_Q D cid b ad h C P (va_A (ax_w cid b ad h) sz)) C S (va_A (ax_w cid b ad h) sz) := by
  refine Met.ofW (cc := m_b k) (maxL := m_l k) (ret := m_r k) hpl rfl ?_
  intro p e s m args below meth c s₁ B hml hv
  obtain ⟨rfl, hsz, hP, hK, hD0, hN, hX⟩ := hv
  subst hsz
  have hts := atoms_spec (ws := m_w k) B.pre
  have Cx : ax_cx d k C S X D cid b p (headSpec (m_w k) { frames := d, cells := C, slots := S, locals := 33 * d }).room s m (as.map (ax_v b ad)).toArray meth c (va_A (ax_w cid b ad h) s.heap.size) :=
    ⟨B.exec, B.bytes, B.returns, hml, findClass_of_methodNamed B.named, fun w hw => hts w (List.mem_cons_of_mem _ hw), B.notSynchronized, fun hi => (name_of_methodNamed B.named B.method).1.trans hi, hK, hN, fun q hq => Or.inr hq, Nat.le_refl _, Nat.le_refl _, rfl, rfl, hX⟩
  rw [lg_entry_eq]
  have hl := lv_entry (as.map (ax_v b ad)) (n := m_l k) (by rw [ax_sl_len]; exact hlen)
  rw [ax_l_args] at hl
  refine hA l D cid b p e _ s m _ below meth c _ _ h.length ad Cx ?_ ad s.heap [] _ ⟨hP, hD0.self, va_S.rf, hl, fun _ _ => rfl, Nat.le_refl _, fun _ => rfl⟩
  intro pc' lv' st' h' n1' n2' hR ad' H' locs' ls' hr'
  obtain ⟨c1, c2, r, e1, hok, hPr, nx, a1, a2, hi⟩ := hR
  obtain ⟨gP, gD, gS, gl, gg, gn, gz⟩ := hr'
  subst e1
  obtain ⟨hd, -⟩ := m_dec hi
  refine W.widen c1 c2 ?_
  have hq : ∀ t : State, t.heap = H' → s.WarmedH t.vm → ax_Q D cid b ad h C P (va_A (ax_w cid b ad h) s.heap.size) (as.map (ax_v b ad)).toArray s (.returned (r.map (ax_v b ad'))) t := fun t ht _ =>
    ⟨⟨r, h', ad', rfl, hPr, by rw [ht]; exact gP, gD, gg, gn, fun z => gz (by omega)⟩, gS.F ht⟩
  have hret := B.returns
  cases hr : m_r k with
  | none =>
    rw [hr] at hok hd hret
    cases r with
    | some v => exact hok.elim
    | none => exact W.vret B.exec B.bytes hret hq gS.2.2 hd B.notSynchronized
  | some ty =>
    rw [hr] at hok hd hret
    cases r with
    | none => cases ty <;> exact hok.elim
    | some v =>
      cases ty with
      | int =>
        cases v with
        | int v => exact W.iret B.exec B.bytes hret hq gS.2.2 hd B.notSynchronized
        | _ => exact hok.elim
      | boolean =>
        cases v with
        | int v =>
          refine W.zret (ty := .boolean) B.exec B.bytes hret ?_ hq gS.2.2 hd B.notSynchronized
          rcases hok with rfl | rfl <;> rfl
        | _ => exact hok.elim
      | long =>
        cases v with
        | long v => exact W.lret B.exec B.bytes hret hq gS.2.2 hd B.notSynchronized
        | _ => exact hok.elim
      | _ => cases v <;> exact hok.elim
theorem ax_go {p : Program} {l : Launch} {e : Env} {R : Room} {s : State} {m : MethodId} {args : Array Value} {below : List Frame} {meth : Method} {c : Code} {H : Heap} {locs : List Loc} {cells slots : Nat} {Q : State → Prop} {pc : Nat} {ls : Array Slot} {st0 rest : List Value} {a : Array Value} {D : va_G} {cid : Nat → ClassId} {b : Nat} {ad : Nat → Nat} {h : ax_H} {C1 S1 : Nat} {P : Option Value → ax_H → Prop} {A : Nat → Prop}
    (hr : va_Run p l e R s m args below meth c H locs cells slots C1 S1 (F0 m pc ls st0) rest (ax_Q D cid b ad h C1 P (va_A (ax_w cid b ad h) H.size) a) (va_A (ax_w cid b ad h) H.size)) (hS : va_S A s.heap H locs) (hF : ∀ q, va_A (ax_w cid b ad h) H.size q → A q)
    (kk : ∀ (r : Option Value) (h' : ax_H) (ad' : Nat → Nat) (H1 : Heap) (locs1 : List Loc), P r h' → va_P D mCl (ax_w cid b ad' h') H1 → va_D A (ax_w cid b ad' h') → va_S A s.heap H1 locs1 → (∀ i, i < h.length → ad' i = ad i) → h.length ≤ h'.length → (C1 = 0 → ad' = ad) → W p l e R s m args below meth c H1 locs1 (cells + C1) (slots + S1) Q (F0 m (pc + 3) ls ((r.map (ax_v b ad')).toList ++ rest))) : W p l e R s m args below meth c H locs cells slots Q (F0 m pc ls st0) := by
  intro T hT X
  obtain ⟨v, st₀, t, T', L, h0, X', hL, e1, e2, ⟨⟨r, h', ad', hv, hp, hP', hD', hg', hn', hz'⟩, hz, hk⟩, st⟩ := hr T hT X
  cases hv
  rw [h0] at hz hk
  obtain ⟨t2, a1, b1⟩ := kk r h' ad' T'.heap (locs ++ L) hp (by rw [e1]; exact hP') (hD'.weaken (fun _ _ _ z => hF _ z))
    ⟨Nat.le_trans hS.1 (by rw [e1]; exact hz), fun q h1 h2 => by rw [e1, hk q (Nat.lt_of_lt_of_le h1 hS.1) (fun z => h2 (hF q z))]; exact hS.2.1 q h1 h2, fun q hq => by
      rcases List.mem_append.mp hq with h | h
      · exact hS.2.2 q h
      · exact hF _ (hL q h)⟩ hg' hn' hz' T' rfl X'
  exact ⟨t2, st t2 a1, b1⟩
def ax_pop (n : Nat) (st : List Value) : Option (Nat × List Value × List Value) := match (st.take n).reverse with
  | .ref i :: as => some (i, as, st.drop n)
  | _ => none
theorem ax_pop_ok {n i : Nat} {st as rest : List Value} (h : ax_pop n st = some (i, as, rest)) : st = as.reverse ++ .ref i :: rest := by
  unfold ax_pop at h
  split at h
  · rename_i i' as' he
    simp only [Option.some.injEq, Prod.mk.injEq] at h
    obtain ⟨rfl, rfl, rfl⟩ := h
    have h1 : st.take n = (Value.ref i' :: as').reverse := by rw [← he, List.reverse_reverse]
    have h2 := List.take_append_drop n st
    rw [h1] at h2
    exact h2.symm.trans (by rw [List.reverse_cons, List.append_assoc]; rfl)
  · cases h
theorem ax_blind {av : List Value} {D : va_G} {cid : Nat → ClassId} {b : Nat} {ad : Nat → Nat} {h : ax_H} {sz : Nat} {X : Option (Nat × (Nat → Int32))} : FrameBlind (va_Pc av (ax_B D cid b ad h sz X)) := by
  intro a U g mk q
  obtain ⟨q0, q1, qP, qK, qD, qN, qX⟩ := q
  exact ⟨q0, q1, qP, va_K.moved (u := U) (U := U.calling g mk a) (Vm.Alike.refl U.vm) qK, qD, fun w hw => va_Nw.same (u := U) (U := U.calling g mk a) (mNw_tab w hw) rfl (qN w hw), fun L xs e => ⟨va_X.moved (u := U) (U := U.calling g mk a) (Vm.Alike.refl U.vm) (qX L xs e).1, (qX L xs e).2⟩⟩
theorem ax_nw {s U : State} (hW : s.WarmedH U.vm) (hN : ∀ w ∈ mNw, va_Nw w s) : ∀ w ∈ mNw, va_Nw w U := by
  intro w hw
  have h1 := hN w hw
  obtain ⟨a, i, x, y, rfl⟩ := mNw_is w hw
  exact va_Nw.warmM hW h1
theorem ax_room (m : MethodId) (pc : Nat) (ls : Array Slot) (st0 : List Value) {st : List Value} {b : Nat} {ad : Nat → Nat} (h : (st.map fun v => v.category).sum ≤ 8) : 2 * (F0 m pc ls st0).monitorRoom + ((st.map (ax_v b ad)).map fun v => v.category).sum ≤ 8 := by
  have e : (st.map (ax_v b ad)).map (fun v => v.category) = st.map fun v => v.category := by
    rw [List.map_map]
    apply List.map_congr_left
    intro v _
    exact ax_v_cat b ad v
  rw [e]
  show 2 * 0 + _ ≤ 8
  omega
section AXC
variable {d k C S : Nat} {X : Option (Nat × (Nat → Int32))} {pc nx a1 a2 : Nat} {lv : ax_L} {st : List Value} {h : ax_H} {n1 n2 : Nat} {F : ax_F}
def ax_popS (n : Nat) (st : List Value) : List Value × List Value := ((st.take n).reverse, st.drop n)
theorem ax_popS_ok {n : Nat} {st as rest : List Value} (h : ax_popS n st = (as, rest)) : st = as.reverse ++ rest := by
  unfold ax_popS at h
  simp only [Prod.mk.injEq] at h
  obtain ⟨rfl, rfl⟩ := h
  simp
set_option maxHeartbeats 1000000 in
theorem AX.callV {idx k' na C1 S1 i : Nat} {as rest fs : List Value} {P : Option Value → ax_H → Prop} {X' : Option (Nat × (Nat → Int32))} (hi : m_i k pc = some (.invokevirtual idx, 3, nx, k', na))  (hs : ax_pop na st = some (i, as, rest)) (hna : as.length + 1 = na) (hh : h[i]? = some (.inr (m_ci k', fs))) (hL : (lg_sl (.ref i :: as)).length ≤ m_l k') (hM : AM d k' C1 S1 X' (.ref i :: as) h P) (hXX : X' = none ∨ X' = X) (hC : n1 + C1 ≤ C) (hS2 : n2 + S1 ≤ S) (hw : (rest.map fun v => v.category).sum ≤ 8) (hcl : C1 = 0 ∨ ax_okF h.length lv rest = true) (kk : ∀ r h', P r h' → AX (d + 1) k C S X nx lv (r.toList ++ rest) h' (n1 + C1) (n2 + S1) F) : AX (d + 1) k C S X pc lv st h n1 n2 F := by
  intro l D cid b p e R s m args below meth c A Q n0 ad0 Cx hF ad H locs ls hr
  obtain ⟨hx, hb, hrt, hml, hown, hts, hlk, hnm, hK, hN, hA, hfr, hlo, hRc, hRs, hX⟩ := id Cx
  obtain ⟨hP, hD, hS, hl, hg, hn, hz⟩ := id hr
  obtain ⟨hd, e9⟩ := m_dec hi
  subst e9
  subst hna
  have est := ax_pop_ok hs
  have hFc : ∀ q, va_A (ax_w cid b ad h) H.size q → A q := by
    rintro q (⟨j, e', hj⟩ | hq)
    · exact hD.2 j _ hj
    · exact hA q (Nat.le_trans hS.1 hq)
  have hB : ∀ U : State, U.heap = H → s.WarmedH U.vm → ax_B D cid b ad h H.size X' U := by
    intro U hU hW
    refine ⟨by rw [hU], by rw [hU]; exact hP, va_K.moved hW.alike hK, hD.weaken (fun _ _ _ _ => trivial), ax_nw hW hN, fun L xs e => ?_⟩
    rcases hXX with z | z
    · rw [z] at e; cases e
    · obtain ⟨x1, x2, x3⟩ := hX L xs (z ▸ e)
      refine ⟨?_, Nat.lt_of_lt_of_le x2 hS.1, fun z2 => x3 (hFc b z2)⟩
      rw [hU]
      exact va_X.moved hW.alike (x1.kept (hS.2.1 b x2 x3))
  have hk : ∀ (r : Option Value) (h' : ax_H) (ad' : Nat → Nat) (H1 : Heap) (locs1 : List Loc), P r h' → va_P D mCl (ax_w cid b ad' h') H1 → va_D A (ax_w cid b ad' h') → va_S A s.heap H1 locs1 → (∀ i, i < h.length → ad' i = ad i) → h.length ≤ h'.length → (C1 = 0 → ad' = ad) → W p l e R s m args below meth c H1 locs1 (n1 + C1) (n2 + S1) Q (F0 m (pc + 3) ls ((r.map (ax_v b ad')).toList ++ rest.map (ax_v b ad))) := by
    intro r h' ad' H1 locs1 hPr gP gD gS gg gn gz
    have ex : ax_l b ad' lv = ax_l b ad lv ∧ rest.map (ax_v b ad') = rest.map (ax_v b ad) := by
      rcases hcl with z | z
      · rw [gz z]; exact ⟨rfl, rfl⟩
      · simp only [ax_okF, Bool.and_eq_true] at z
        exact ⟨ax_l_ext z.1 gg, ax_s_ext z.2 gg⟩
    have h2 := kk r h' hPr l D cid b p e R s m args below meth c A Q n0 ad0 Cx hF ad' H1 locs1 ls ⟨gP, gD, gS, by rw [ex.1]; exact hl, fun i hi' => (gg i (by omega)).trans (hg i hi'), by omega, fun z => (gz (by omega)).trans (hz (by omega))⟩
    rw [List.map_append, ex.2] at h2
    have e1 : r.toList.map (ax_v b ad') = (r.map (ax_v b ad')).toList := by cases r <;> rfl
    rw [e1] at h2
    exact h2
  obtain ⟨hna, hG, hdd, hpl, hm2, T, N, hci⟩ := m_cV hi
  exact ax_go (va_runV (As := as.map (ax_v b ad)) (rest := rest.map (ax_v b ad)) ⟨hx, hb, hml, hown, hts⟩ (AM.met hM hpl hL l D cid b ad H.size) (cwV (m_na k') hts hG rfl rfl rfl hdd ⟨hfr, by show 8 + (m_l k' + 11) + 33 * d ≤ R.locals; omega⟩) ⟨ax_blind, va_recv hK hP hci (ax_w_at hh), fun U hU hW => ⟨rfl, hB U hU hW⟩⟩ rfl (by rw [List.length_map]; omega) hl.1 (by show st.map (ax_v b ad) = _; rw [est]; simp [ax_v]) (ax_room m pc ls _ hw) hd ⟨by rw [hRc]; exact hC, by rw [hRs]; exact hS2⟩) hS hFc hk
set_option maxHeartbeats 1000000 in
theorem AX.callI {idx k' na C1 S1 i : Nat} {as rest : List Value} {P : Option Value → ax_H → Prop} {X' : Option (Nat × (Nat → Int32))} (hi : m_i k pc = some (.invokespecial idx, 3, nx, k', na)) (h9 : k' ≠ 999)  (hs : ax_pop na st = some (i, as, rest)) (hna : as.length + 1 = na) (hL : (lg_sl (.ref i :: as)).length ≤ m_l k') (hM : AM d k' C1 S1 X' (.ref i :: as) h P) (hXX : X' = none ∨ X' = X) (hC : n1 + C1 ≤ C) (hS2 : n2 + S1 ≤ S) (hw : (rest.map fun v => v.category).sum ≤ 8) (hcl : C1 = 0 ∨ ax_okF h.length lv rest = true) (kk : ∀ r h', P r h' → AX (d + 1) k C S X nx lv (r.toList ++ rest) h' (n1 + C1) (n2 + S1) F) : AX (d + 1) k C S X pc lv st h n1 n2 F := by
  intro l D cid b p e R s m args below meth c A Q n0 ad0 Cx hF ad H locs ls hr
  obtain ⟨hx, hb, hrt, hml, hown, hts, hlk, hnm, hK, hN, hA, hfr, hlo, hRc, hRs, hX⟩ := id Cx
  obtain ⟨hP, hD, hS, hl, hg, hn, hz⟩ := id hr
  obtain ⟨hd, e9⟩ := m_dec hi
  subst e9
  subst hna
  have est := ax_pop_ok hs
  have hFc : ∀ q, va_A (ax_w cid b ad h) H.size q → A q := by
    rintro q (⟨j, e', hj⟩ | hq)
    · exact hD.2 j _ hj
    · exact hA q (Nat.le_trans hS.1 hq)
  have hB : ∀ U : State, U.heap = H → s.WarmedH U.vm → ax_B D cid b ad h H.size X' U := by
    intro U hU hW
    refine ⟨by rw [hU], by rw [hU]; exact hP, va_K.moved hW.alike hK, hD.weaken (fun _ _ _ _ => trivial), ax_nw hW hN, fun L xs e => ?_⟩
    rcases hXX with z | z
    · rw [z] at e; cases e
    · obtain ⟨x1, x2, x3⟩ := hX L xs (z ▸ e)
      refine ⟨?_, Nat.lt_of_lt_of_le x2 hS.1, fun z2 => x3 (hFc b z2)⟩
      rw [hU]
      exact va_X.moved hW.alike (x1.kept (hS.2.1 b x2 x3))
  have hk : ∀ (r : Option Value) (h' : ax_H) (ad' : Nat → Nat) (H1 : Heap) (locs1 : List Loc), P r h' → va_P D mCl (ax_w cid b ad' h') H1 → va_D A (ax_w cid b ad' h') → va_S A s.heap H1 locs1 → (∀ i, i < h.length → ad' i = ad i) → h.length ≤ h'.length → (C1 = 0 → ad' = ad) → W p l e R s m args below meth c H1 locs1 (n1 + C1) (n2 + S1) Q (F0 m (pc + 3) ls ((r.map (ax_v b ad')).toList ++ rest.map (ax_v b ad))) := by
    intro r h' ad' H1 locs1 hPr gP gD gS gg gn gz
    have ex : ax_l b ad' lv = ax_l b ad lv ∧ rest.map (ax_v b ad') = rest.map (ax_v b ad) := by
      rcases hcl with z | z
      · rw [gz z]; exact ⟨rfl, rfl⟩
      · simp only [ax_okF, Bool.and_eq_true] at z
        exact ⟨ax_l_ext z.1 gg, ax_s_ext z.2 gg⟩
    have h2 := kk r h' hPr l D cid b p e R s m args below meth c A Q n0 ad0 Cx hF ad' H1 locs1 ls ⟨gP, gD, gS, by rw [ex.1]; exact hl, fun i hi' => (gg i (by omega)).trans (hg i hi'), by omega, fun z => (gz (by omega)).trans (hz (by omega))⟩
    rw [List.map_append, ex.2] at h2
    have e1 : r.toList.map (ax_v b ad') = (r.map (ax_v b ad')).toList := by cases r <;> rfl
    rw [e1] at h2
    exact h2
  obtain ⟨hna, hG, hdd, hpl, hm2, hy1, hr0, w1, w2, hlnk⟩ := m_cI hi h9
  have hG2 : m_w k' = Cond.code (m_y k') (m_b k') (m_l k') none :: mTb := by unfold m_w; rw [hr0]
  rcases hlnk with w3 | ⟨host, w3⟩
  · exact ax_go (va_runI (As := as.map (ax_v b ad)) (rest := rest.map (ax_v b ad)) ⟨hx, hb, hml, hown, hts⟩ (AM.met hM hpl hL l D cid b ad H.size) (cwI (m_na k') hts hG hG2 rfl rfl (hts _ w1) (hts _ w3) (hts _ w2) hy1 hdd ⟨hfr, by show 8 + (m_l k' + 11) + 33 * d ≤ R.locals; omega⟩) ⟨ax_blind, fun U hU hW => ⟨rfl, hB U hU hW⟩⟩ rfl (by rw [List.length_map]; omega) hl.1 (by show st.map (ax_v b ad) = _; rw [est]; simp [ax_v]) (ax_room m pc ls _ hw) hd ⟨by rw [hRc]; exact hC, by rw [hRs]; exact hS2⟩) hS hFc hk
  · exact ax_go (va_runIN (As := as.map (ax_v b ad)) (rest := rest.map (ax_v b ad)) ⟨hx, hb, hml, hown, hts⟩ (AM.met hM hpl hL l D cid b ad H.size) ⟨va_cnB (m_na k') hts hG hG2 rfl rfl (hN _ w3) (hts _ w1) hdd ⟨hfr, by show 8 + (m_l k' + 11) + 33 * d ≤ R.locals; omega⟩, hy1, hts _ w2⟩ ⟨ax_blind, fun U hU hW => ⟨rfl, hB U hU hW⟩⟩ rfl (by rw [List.length_map]; omega) hl.1 (by show st.map (ax_v b ad) = _; rw [est]; simp [ax_v]) (ax_room m pc ls _ hw) hd ⟨by rw [hRc]; exact hC, by rw [hRs]; exact hS2⟩) hS hFc hk
set_option maxHeartbeats 1000000 in
theorem AX.callS {idx k' na C1 S1 : Nat} {as rest : List Value} {P : Option Value → ax_H → Prop} {X' : Option (Nat × (Nat → Int32))} (hi : m_i k pc = some (.invokestatic idx, 3, nx, k', na)) (h9 : k' ≠ 998 ∧ k' ≠ 997 ∧ k' ≠ 996)  (hs : ax_popS na st = (as, rest)) (hna : as.length = na) (hL : (lg_sl as).length ≤ m_l k') (hM : AM d k' C1 S1 X' as h P) (hXX : X' = none ∨ X' = X) (hC : n1 + C1 ≤ C) (hS2 : n2 + S1 ≤ S) (hw : (rest.map fun v => v.category).sum ≤ 8) (hcl : C1 = 0 ∨ ax_okF h.length lv rest = true) (kk : ∀ r h', P r h' → AX (d + 1) k C S X nx lv (r.toList ++ rest) h' (n1 + C1) (n2 + S1) F) : AX (d + 1) k C S X pc lv st h n1 n2 F := by
  intro l D cid b p e R s m args below meth c A Q n0 ad0 Cx hF ad H locs ls hr
  obtain ⟨hx, hb, hrt, hml, hown, hts, hlk, hnm, hK, hN, hA, hfr, hlo, hRc, hRs, hX⟩ := id Cx
  obtain ⟨hP, hD, hS, hl, hg, hn, hz⟩ := id hr
  obtain ⟨hd, e9⟩ := m_dec hi
  subst e9
  subst hna
  have est := ax_popS_ok hs
  have hFc : ∀ q, va_A (ax_w cid b ad h) H.size q → A q := by
    rintro q (⟨j, e', hj⟩ | hq)
    · exact hD.2 j _ hj
    · exact hA q (Nat.le_trans hS.1 hq)
  have hB : ∀ U : State, U.heap = H → s.WarmedH U.vm → ax_B D cid b ad h H.size X' U := by
    intro U hU hW
    refine ⟨by rw [hU], by rw [hU]; exact hP, va_K.moved hW.alike hK, hD.weaken (fun _ _ _ _ => trivial), ax_nw hW hN, fun L xs e => ?_⟩
    rcases hXX with z | z
    · rw [z] at e; cases e
    · obtain ⟨x1, x2, x3⟩ := hX L xs (z ▸ e)
      refine ⟨?_, Nat.lt_of_lt_of_le x2 hS.1, fun z2 => x3 (hFc b z2)⟩
      rw [hU]
      exact va_X.moved hW.alike (x1.kept (hS.2.1 b x2 x3))
  have hk : ∀ (r : Option Value) (h' : ax_H) (ad' : Nat → Nat) (H1 : Heap) (locs1 : List Loc), P r h' → va_P D mCl (ax_w cid b ad' h') H1 → va_D A (ax_w cid b ad' h') → va_S A s.heap H1 locs1 → (∀ i, i < h.length → ad' i = ad i) → h.length ≤ h'.length → (C1 = 0 → ad' = ad) → W p l e R s m args below meth c H1 locs1 (n1 + C1) (n2 + S1) Q (F0 m (pc + 3) ls ((r.map (ax_v b ad')).toList ++ rest.map (ax_v b ad))) := by
    intro r h' ad' H1 locs1 hPr gP gD gS gg gn gz
    have ex : ax_l b ad' lv = ax_l b ad lv ∧ rest.map (ax_v b ad') = rest.map (ax_v b ad) := by
      rcases hcl with z | z
      · rw [gz z]; exact ⟨rfl, rfl⟩
      · simp only [ax_okF, Bool.and_eq_true] at z
        exact ⟨ax_l_ext z.1 gg, ax_s_ext z.2 gg⟩
    have h2 := kk r h' hPr l D cid b p e R s m args below meth c A Q n0 ad0 Cx hF ad' H1 locs1 ls ⟨gP, gD, gS, by rw [ex.1]; exact hl, fun i hi' => (gg i (by omega)).trans (hg i hi'), by omega, fun z => (gz (by omega)).trans (hz (by omega))⟩
    rw [List.map_append, ex.2] at h2
    have e1 : r.toList.map (ax_v b ad') = (r.map (ax_v b ad')).toList := by cases r <;> rfl
    rw [e1] at h2
    exact h2
  obtain ⟨hna, hG, hdd, hpl, hm2⟩ := m_cS hi h9
  exact ax_go (va_runS (As := as.map (ax_v b ad)) (rest := rest.map (ax_v b ad)) ⟨hx, hb, hml, hown, hts⟩ (AM.met hM hpl hL l D cid b ad H.size) (cwS (m_na k') hts hG rfl rfl rfl hdd ⟨hfr, by show 8 + (m_l k' + 11) + 33 * d ≤ R.locals; omega⟩) ⟨ax_blind, fun U hU hW => ⟨rfl, hB U hU hW⟩⟩ rfl (by rw [List.length_map]; omega) hl.1 (by show st.map (ax_v b ad) = _; rw [est]; simp [ax_v]) (ax_room m pc ls _ hw) hd ⟨by rw [hRc]; exact hC, by rw [hRs]; exact hS2⟩) hS hFc hk
theorem AX.objInit {idx i : Nat} (hi : m_i k pc = some (.invokespecial idx, 3, nx, 999, 1)) (hw : (st.map fun v => v.category).sum ≤ 8) (kk : AX (d + 1) k C S X nx lv st h n1 n2 F) : AX (d + 1) k C S X pc lv (.ref i :: st) h n1 n2 F := by
  intro l D cid b p e R s m args below meth c A Q n0 ad0 Cx hF ad H locs ls hr
  obtain ⟨hx, hb, hrt, hml, hown, hts, hlk, hnm, hK, hN, hA, hfr, hlo, hRc, hRs, hX⟩ := id Cx
  obtain ⟨hP, hD, hS, hl, hg, hn, hz⟩ := id hr
  obtain ⟨hd, e9⟩ := m_dec hi
  subst e9
  obtain ⟨w1, w2, w3⟩ := m_obj hi
  have hq := ax_room (b := b) (ad := ad) m pc ls ((Value.ref i :: st).map (ax_v b ad)) hw
  exact W.objInit hx hb hown (hts _ w1) (hts _ w2) (hts _ w3) rfl (by rw [hml]; exact hl.1) rfl hd (by omega) (by omega) (kk l D cid b p e R s m args below meth c A Q n0 ad0 Cx hF ad H locs ls hr)
theorem AX.mmax {idx : Nat} {x y : Int32} (hi : m_i k pc = some (.invokestatic idx, 3, nx, 998, 2)) (hw : (st.map fun v => v.category).sum ≤ 8) (hC : n1 ≤ C) (hS2 : n2 ≤ S) (kk : AX (d + 1) k C S X nx lv (.int (if x < y then y else x) :: st) h n1 n2 F) : AX (d + 1) k C S X pc lv (.int y :: .int x :: st) h n1 n2 F := by
  intro l D cid b p e R s m args below meth c A Q n0 ad0 Cx hF ad H locs ls hr
  obtain ⟨hx, hb, hrt, hml, hown, hts, hlk, hnm, hK, hN, hA, hfr, hlo, hRc, hRs, hX⟩ := id Cx
  obtain ⟨hP, hD, hS, hl, hg, hn, hz⟩ := id hr
  obtain ⟨hd, e9⟩ := m_dec hi
  subst e9
  obtain ⟨w1, w2, w3, w4⟩ := m_max hi
  have hq := ax_room (b := b) (ad := ad) m pc ls [] hw
  exact va_mmax hx hb (by rw [hml]; exact hl.1.symm) hown (hts _ w1) (hts _ w2) (hts _ w3) (hts _ w4) (by omega) (by omega) (by rw [hRc]; exact hC) (by rw [hRs]; exact hS2) hd (kk l D cid b p e R s m args below meth c A Q n0 ad0 Cx hF ad H locs ls hr)
theorem AX.mmin {idx : Nat} {x y : Int32} (hi : m_i k pc = some (.invokestatic idx, 3, nx, 997, 2)) (hw : (st.map fun v => v.category).sum ≤ 8) (hC : n1 ≤ C) (hS2 : n2 ≤ S) (kk : AX (d + 1) k C S X nx lv (.int (if y < x then y else x) :: st) h n1 n2 F) : AX (d + 1) k C S X pc lv (.int y :: .int x :: st) h n1 n2 F := by
  intro l D cid b p e R s m args below meth c A Q n0 ad0 Cx hF ad H locs ls hr
  obtain ⟨hx, hb, hrt, hml, hown, hts, hlk, hnm, hK, hN, hA, hfr, hlo, hRc, hRs, hX⟩ := id Cx
  obtain ⟨hP, hD, hS, hl, hg, hn, hz⟩ := id hr
  obtain ⟨hd, e9⟩ := m_dec hi
  subst e9
  obtain ⟨w1, w2, w3, w4⟩ := m_min hi
  have hq := ax_room (b := b) (ad := ad) m pc ls [] hw
  exact va_mmin hx hb (by rw [hml]; exact hl.1.symm) hown (hts _ w1) (hts _ w2) (hts _ w3) (hts _ w4) (by omega) (by omega) (by rw [hRc]; exact hC) (by rw [hRs]; exact hS2) hd (kk l D cid b p e R s m args below meth c A Q n0 ad0 Cx hF ad H locs ls hr)
theorem AX.acopy {idx i0 i1 c0 c1 : Nat} {f g : Nat → Int32} {sp dp n : Int32} (hi : m_i k pc = some (.invokestatic idx, 3, nx, 996, 5)) (hw : (st.map fun v => v.category).sum ≤ 8) (ha0 : h[i0]? = some (.inl (0, c0, .inl f))) (ha1 : h[i1]? = some (.inl (0, c1, .inl g))) (h1 : ¬ sp < 0) (h2 : ¬ dp < 0) (h3 : ¬ n < 0) (h4 : sp.toNatClampNeg + n.toNatClampNeg ≤ c0) (h5 : dp.toNatClampNeg + n.toNatClampNeg ≤ c1)
    (kk : AX (d + 1) k C S X nx lv st (h.set i1 (.inl (0, c1, .inl (va_cpy f g sp.toNatClampNeg dp.toNatClampNeg n.toNatClampNeg)))) n1 n2 F) : AX (d + 1) k C S X pc lv (.int n :: .int dp :: .ref i1 :: .int sp :: .ref i0 :: st) h n1 n2 F := by
  intro l D cid b p e R s m args below meth c A Q n0 ad0 Cx hF ad H locs ls hr
  obtain ⟨hx, hb, hrt, hml, hown, hts, hlk, hnm, hK, hN, hA, hfr, hlo, hRc, hRs, hX⟩ := id Cx
  obtain ⟨hP, hD, hS, hl, hg, hn, hz⟩ := id hr
  obtain ⟨hd, e9⟩ := m_dec hi
  subst e9
  obtain ⟨w1, w2, w3, w4⟩ := m_cpy hi
  have hq := ax_room (b := b) (ad := ad) m pc ls [] hw
  have hw2 : (ax_w cid b ad h).set i1 (ad i1, .inl (cid 0, c1, .inl (va_cpy f g sp.toNatClampNeg dp.toNatClampNeg n.toNatClampNeg))) = ax_w cid b ad (h.set i1 (.inl (0, c1, .inl (va_cpy f g sp.toNatClampNeg dp.toNatClampNeg n.toNatClampNeg)))) := by
    rw [← ax_w_set]
    rfl
  refine va_copyi hx hb (by rw [hml]; exact hl.1.symm) hown (hts _ w1) (hts _ w2) (hts _ w3) (hts _ w4) hK hP hD hS i0 i1 0 0 (ax_w_at ha0) (ax_w_at ha1) (ty := .int) rfl rfl rfl h1 h2 h3 h4 h5 (fun _ _ => rfl) (by omega) (by show _ + (5 + 2 + 11) ≤ R.locals; omega) hd (fun H1 locs1 g1 g2 g3 => ?_)
  rw [hw2] at g1 g2
  exact kk l D cid b p e R s m args below meth c A Q n0 ad0 Cx hF ad H1 locs1 ls ⟨g1, g2, g3, hl, hg, by rw [List.length_set]; exact hn, hz⟩
theorem AX.ireturn {x : Int32} {P : Option Value → ax_H → Prop} (hi : m_i k pc = some (.ireturn, 1, nx, a1, a2)) (hr : m_r k = some .int) (hP : P (some (.int x)) h) (hC : n1 ≤ C) (hS : n2 ≤ S) : AX d k C S X pc lv [.int x] h n1 n2 (ax_ret k C S P) := by
  refine AX.here ⟨hC, hS, some (.int x), rfl, ?_, hP, nx, a1, a2, ?_⟩
  · rw [hr]; exact trivial
  · rw [hr]; exact hi
theorem AX.lreturn {x : Int64} {P : Option Value → ax_H → Prop} (hi : m_i k pc = some (.lreturn, 1, nx, a1, a2)) (hr : m_r k = some .long) (hP : P (some (.long x)) h) (hC : n1 ≤ C) (hS : n2 ≤ S) : AX d k C S X pc lv [.long x] h n1 n2 (ax_ret k C S P) := by
  refine AX.here ⟨hC, hS, some (.long x), rfl, ?_, hP, nx, a1, a2, ?_⟩
  · rw [hr]; exact trivial
  · rw [hr]; exact hi
theorem AX.zreturn {x : Int32} {P : Option Value → ax_H → Prop} (hi : m_i k pc = some (.ireturn, 1, nx, a1, a2)) (hr : m_r k = some .boolean) (hx : x = 0 ∨ x = 1) (hP : P (some (.int x)) h) (hC : n1 ≤ C) (hS : n2 ≤ S) : AX d k C S X pc lv [.int x] h n1 n2 (ax_ret k C S P) := by
  refine AX.here ⟨hC, hS, some (.int x), rfl, ?_, hP, nx, a1, a2, ?_⟩
  · rw [hr]; exact hx
  · rw [hr]; exact hi
theorem AX.vreturn {P : Option Value → ax_H → Prop} (hi : m_i k pc = some (.return_, 1, nx, a1, a2)) (hr : m_r k = none) (hP : P none h) (hC : n1 ≤ C) (hS : n2 ≤ S) : AX d k C S X pc lv [] h n1 n2 (ax_ret k C S P) := by
  refine AX.here ⟨hC, hS, none, rfl, ?_, hP, nx, a1, a2, ?_⟩
  · rw [hr]; exact trivial
  · rw [hr]; exact hi
end AXC
end
section
section AXM
variable {d k C S : Nat} {X : Option (Nat × (Nat → Int32))} {pc nx a1 a2 : Nat} {lv : ax_L} {st : List Value} {h : ax_H} {n1 n2 : Nat} {F : ax_F}
theorem AX.iconstV {n : Int} {v : Int32} (hi : m_i k pc = some (.iconst n, 1, nx, a1, a2)) (hv : Int32.ofInt n = v) (kk : AX d k C S X nx lv (.int v :: st) h n1 n2 F) : AX d k C S X pc lv st h n1 n2 F := by
  subst hv; exact AX.iconst hi kk
theorem AX.bipushV {n : Int} {v : Int32} (hi : m_i k pc = some (.bipush n, 2, nx, a1, a2)) (hv : (Int8.ofInt n).toInt32 = v) (kk : AX d k C S X nx lv (.int v :: st) h n1 n2 F) : AX d k C S X pc lv st h n1 n2 F := by
  subst hv; exact AX.bipush hi kk
theorem AX.sipushV {n : Int} {v : Int32} (hi : m_i k pc = some (.sipush n, 3, nx, a1, a2)) (hv : (Int16.ofInt n).toInt32 = v) (kk : AX d k C S X nx lv (.int v :: st) h n1 n2 F) : AX d k C S X pc lv st h n1 n2 F := by
  subst hv; exact AX.sipush hi kk
theorem AX.lconstV {n : Fin 2} {v : Int64} (hi : m_i k pc = some (.lconst n, 1, nx, a1, a2)) (hv : Int64.ofNat (n : Nat) = v) (kk : AX d k C S X nx lv (.long v :: st) h n1 n2 F) : AX d k C S X pc lv st h n1 n2 F := by
  subst hv; exact AX.lconst hi kk
theorem AX.iincV {i : Nat} {n : Int} {x dn : Int32} (hi : m_i k pc = some (.iinc i n, 3, nx, a1, a2)) (hl0 : ax_get lv i = some (.int x)) (hs : i < m_l k) (hv : Int32.ofInt n = dn) (kk : AX d k C S X nx (ax_put lv i (.int (x + dn))) st h n1 n2 F) : AX d k C S X pc lv st h n1 n2 F := by
  subst hv; exact AX.iinc hi hl0 hs kk
/-- a virtual call that makes no cell and answers a number -/
theorem AX.cVI {idx k' na i : Nat} {as rest fs : List Value} {v : Int32} {G : ax_H → Prop} (hi : m_i k pc = some (.invokevirtual idx, 3, nx, k', na)) (hs : ax_pop na st = some (i, as, rest)) (hna : as.length + 1 = na) (hh : h[i]? = some (.inr (m_ci k', fs))) (hM : AM d k' 0 0 none (.ref i :: as) h (fun r h' => r = some (.int v) ∧ G h')) (kk : ∀ h', G h' → AX (d + 1) k C S X nx lv (.int v :: rest) h' n1 n2 F) (hL : (lg_sl (.ref i :: as)).length ≤ m_l k' := by exact Nat.le_of_ble_eq_true rfl) (hw : (rest.map fun v => v.category).sum ≤ 8 := by exact Nat.le_of_ble_eq_true rfl) (hC : n1 ≤ C := by exact Nat.le_of_ble_eq_true rfl) (hS : n2 ≤ S := by exact Nat.le_of_ble_eq_true rfl) : AX (d + 1) k C S X pc lv st h n1 n2 F :=
  AX.callV hi hs hna hh hL hM (Or.inl rfl) hC hS hw (Or.inl rfl) (fun _ h' q => by obtain ⟨rfl, q⟩ := q; exact kk h' q)
/-- a virtual call that makes no cell and answers nothing -/
theorem AX.cVV {idx k' na i : Nat} {as rest fs : List Value} {G : ax_H → Prop} (hi : m_i k pc = some (.invokevirtual idx, 3, nx, k', na)) (hs : ax_pop na st = some (i, as, rest)) (hna : as.length + 1 = na) (hh : h[i]? = some (.inr (m_ci k', fs))) (hM : AM d k' 0 0 none (.ref i :: as) h (fun r h' => r = none ∧ G h')) (kk : ∀ h', G h' → AX (d + 1) k C S X nx lv rest h' n1 n2 F) (hL : (lg_sl (.ref i :: as)).length ≤ m_l k' := by exact Nat.le_of_ble_eq_true rfl) (hw : (rest.map fun v => v.category).sum ≤ 8 := by exact Nat.le_of_ble_eq_true rfl) (hC : n1 ≤ C := by exact Nat.le_of_ble_eq_true rfl) (hS : n2 ≤ S := by exact Nat.le_of_ble_eq_true rfl) : AX (d + 1) k C S X pc lv st h n1 n2 F :=
  AX.callV hi hs hna hh hL hM (Or.inl rfl) hC hS hw (Or.inl rfl) (fun _ h' q => by obtain ⟨rfl, q⟩ := q; exact kk h' q)
end AXM
theorem ax_get_put (lv : ax_L) (i : Nat) (v : Value) : ax_get (ax_put lv i v) i = some v := by
  simp [ax_get, ax_put]
theorem ax_get_cons (q : Nat × Value) (lv : ax_L) (j : Nat) : ax_get (q :: lv) j = if q.1 = j then some q.2 else ax_get lv j := by
  unfold ax_get
  rw [List.find?_cons]
  by_cases h : q.1 = j
  · simp [h]
  · have e : (q.1 == j) = false := by simp [h]
    rw [e, if_neg h]
theorem ax_get_put_ne {lv : ax_L} {i j : Nat} {u v : Value} (h : j ≠ i) (hv : ax_get lv j = some v) (hc : v.category = 1) : ax_get (ax_put lv i u) j = some v := by
  unfold ax_put
  rw [ax_get_cons, if_neg (fun e => h e.symm)]
  induction lv with
  | nil => cases hv
  | cons q l ih =>
    rw [ax_get_cons] at hv
    by_cases hq : q.1 = j
    · rw [if_pos hq] at hv
      have hv2 : q.2 = v := Option.some.inj hv
      have hk : (!(q.1 == i) && !(q.1 + 1 == i && q.2.category == 2)) = true := by
        rw [hv2, hc, hq]
        simp [h]
      rw [List.filter_cons, if_pos hk, ax_get_cons, if_pos hq, hv2]
    · rw [if_neg hq] at hv
      by_cases hk : (!(q.1 == i) && !(q.1 + 1 == i && q.2.category == 2)) = true
      · rw [List.filter_cons, if_pos hk, ax_get_cons, if_neg hq]
        exact ih hv
      · rw [List.filter_cons, if_neg hk]
        exact ih hv
theorem AM.imp {d k C S : Nat} {X : Option (Nat × (Nat → Int32))} {as : List Value} {h : ax_H} {P Q : Option Value → ax_H → Prop} (hA : AM d k C S X as h P) (hi : ∀ r h', P r h' → Q r h') : AM d k C S X as h Q := by
  refine AX.mono hA ?_
  intro pc' lv' st' h' n1' n2' g
  obtain ⟨c1, c2, r, e1, hok, hPr, q⟩ := g
  exact AX.here ⟨c1, c2, r, e1, hok, hi _ _ hPr, q⟩
end
section
/-! ROWS: a Row's contents as a list -/
def bI : Bool → Int32
  | true => 1
  | false => 0
theorem bI_0 {b : Bool} : bI b = 0 ↔ b = false := by cases b <;> decide
theorem bI_ok (b : Bool) : bI b = 0 ∨ bI b = 1 := by cases b <;> decide
def rw_ok (f : Nat → Int32) (xs : List Int32) : Prop := xs.length ≤ 40 ∧ ∀ i, i < xs.length → f i = xs.getD i (-1)
def rHas (xs : List Int32) (k : Int32) : Bool := !decide (k < 0) && decide (k.toNatClampNeg < xs.length)
def rAt (xs : List Int32) (k : Int32) : Int32 := if rHas xs k then xs.getD k.toNatClampNeg (-1) else -1
def rPut (xs : List Int32) (k v : Int32) : List Int32 := if rHas xs k then xs.set k.toNatClampNeg v else xs
def rIns (xs : List Int32) (k v : Int32) : List Int32 := if k < 0 ∨ xs.length < k.toNatClampNeg ∨ 40 ≤ xs.length then xs else xs.insertIdx k.toNatClampNeg v
def rRem (xs : List Int32) (k : Int32) : List Int32 := if rHas xs k then xs.eraseIdx k.toNatClampNeg else xs
def rFind (xs : List Int32) (v : Int32) : Int32 := match xs.findIdx? (fun x => x == v) with
  | some i => nI i
  | none => -1
theorem i_pos {k : Int32} (h : ¬ k < 0) : ∃ j : Nat, j < 2 ^ 31 ∧ k = nI j ∧ k.toNatClampNeg = j := by
  obtain ⟨j, h1, h2⟩ := nI_of h
  exact ⟨j, h1, h2, by rw [h2, nI_clamp h1]⟩
theorem rHas_t {xs : List Int32} {k : Int32} (h : rHas xs k = true) (hl : xs.length ≤ 40) : ∃ j : Nat, j < xs.length ∧ k = nI j ∧ k.toNatClampNeg = j ∧ ¬ k < 0 := by
  simp only [rHas, Bool.and_eq_true, Bool.not_eq_true', decide_eq_false_iff_not, decide_eq_true_eq] at h
  obtain ⟨j, h1, h2, h3⟩ := i_pos h.1
  exact ⟨j, by rw [← h3]; exact h.2, h2, h3, h.1⟩
theorem rHas_nI {xs : List Int32} {j : Nat} (hj : j < 2 ^ 31) : rHas xs (nI j) = decide (j < xs.length) := by
  unfold rHas
  rw [nI_clamp hj]
  simp [nI_pos hj]
theorem rAt_nI {xs : List Int32} {j : Nat} (hj : j < 2 ^ 31) : rAt xs (nI j) = xs.getD j (-1) := by
  unfold rAt
  rw [rHas_nI hj, nI_clamp hj]
  by_cases h : j < xs.length
  · simp [h]
  · simp [h]
theorem h_ne {h : ax_H} {i j : Nat} {e x : va_E} (hi : h[i]? = some x) (hne : j ≠ i) : (h.set j e)[i]? = some x := by
  rw [List.getElem?_set_ne hne]; exact hi
theorem h_eq {h : ax_H} {j : Nat} {e x : va_E} (hj : h[j]? = some x) : (h.set j e)[j]? = some e := by
  rw [List.getElem?_set_self (List.getElem?_eq_some_iff.mp hj).1]
theorem h_same {h : ax_H} {j : Nat} {e : va_E} (hj : h[j]? = some e) : h.set j e = h := by
  apply List.ext_getElem?
  intro i
  by_cases hi : j = i
  · subst hi
    rw [h_eq hj, hj]
  · rw [List.getElem?_set_ne hi]
theorem h_dif {h : ax_H} {i j : Nat} {a : Nat × List Value} {b : ClassId × vp_A} (hi : h[i]? = some (.inr a)) (hj : h[j]? = some (.inl b)) : j ≠ i := by
  intro e
  subst e
  rw [hi] at hj
  cases hj
theorem s_count {d i j : Nat} {h : ax_H} {n : Int32} (hi : h[i]? = some (.inr (2, [.ref j, .int n]))) : AM d kR_count 0 0 none [.ref i] h (fun r h' => r = some (.int n) ∧ h' = h) := by
  refine AX.aload_n rfl rfl ?_
  refine AX.getf rfl hi rfl ?_
  exact AX.ireturn rfl rfl ⟨rfl, rfl⟩ (Nat.le_refl _) (Nat.le_refl _)
theorem s_has {d i j : Nat} {h : ax_H} {f : Nat → Int32} {xs : List Int32} (k : Int32) (hi : h[i]? = some (.inr (2, [.ref j, .int (nI xs.length)]))) (hj : h[j]? = some (.inl (0, 40, .inl f))) (ok : rw_ok f xs) : AM d kR_has 0 0 none [.ref i, .int k] h (fun r h' => r = some (.int (bI (rHas xs k))) ∧ h' = h) := by
  obtain ⟨o1, o2⟩ := ok
  refine AX.iload_n rfl rfl ?_
  have no : ∀ q : rHas xs k = false, AX d kR_has 0 0 none 25 (lv_args 0 [.ref i, .int k]) [] h 0 0 (ax_ret kR_has 0 0 (fun r h' => r = some (.int (bI (rHas xs k))) ∧ h' = h)) := by
    intro q
    refine AX.iconstV (v := 0) rfl (by decide) ?_
    exact AX.zreturn rfl rfl (Or.inl rfl) ⟨by rw [q]; rfl, rfl⟩ (Nat.le_refl _) (Nat.le_refl _)
  refine AX.if_lt rfl (fun c => no (by simp [rHas, c])) (fun c => ?_)
  obtain ⟨m, hm1, hm2, hm3⟩ := i_pos c
  refine AX.iload_n rfl rfl ?_
  refine AX.aload_n rfl rfl ?_
  refine AX.getf rfl hi rfl ?_
  refine AX.icmp_ge rfl (fun c2 => no ?_) (fun c2 => ?_)
  · rw [hm2, nI_leI (by omega) hm1] at c2
    simp [rHas, hm3, c2]
  rw [hm2, nI_leI (by omega) hm1] at c2
  refine AX.iload_n rfl rfl ?_
  refine AX.aload_n rfl rfl ?_
  refine AX.getf rfl hi rfl ?_
  refine AX.alen rfl hj (by decide) ?_
  refine AX.icmp_ge rfl (fun c3 => ?_) (fun c3 => ?_)
  · exfalso
    have c4 : nI 40 ≤ k := c3
    rw [hm2, nI_leI (by decide) hm1] at c4
    omega
  refine AX.iconstV (v := 1) rfl (by decide) ?_
  refine AX.goto rfl ?_
  exact AX.zreturn rfl rfl (Or.inr rfl) ⟨by
    have : rHas xs k = true := by simp [rHas, c, hm3]; omega
    rw [this]; rfl, rfl⟩ (Nat.le_refl _) (Nat.le_refl _)
theorem s_at {d i j : Nat} {h : ax_H} {f : Nat → Int32} {xs : List Int32} (k : Int32) (hi : h[i]? = some (.inr (2, [.ref j, .int (nI xs.length)]))) (hj : h[j]? = some (.inl (0, 40, .inl f))) (ok : rw_ok f xs) : AM (d + 1) kR_at 0 0 none [.ref i, .int k] h (fun r h' => r = some (.int (rAt xs k)) ∧ h' = h) := by
  refine AX.aload_n rfl rfl ?_
  refine AX.iload_n rfl rfl ?_
  refine AX.cVI rfl rfl rfl hi (s_has k hi hj ok) (fun h' e => ?_)
  subst e
  refine AX.if_eq rfl (fun c => ?_) (fun c => ?_)
  · rw [bI_0] at c
    refine AX.iconstV (v := (-1)) rfl (by decide) ?_
    exact AX.ireturn rfl rfl ⟨by simp [rAt, c], rfl⟩ (Nat.le_refl _) (Nat.le_refl _)
  · have hh : rHas xs k = true := by
      cases hq : rHas xs k with
      | true => rfl
      | false => exact absurd (bI_0.mpr hq) c
    obtain ⟨m, m1, m2, m3, m4⟩ := rHas_t hh ok.1
    refine AX.aload_n rfl rfl ?_
    refine AX.getf rfl hi rfl ?_
    refine AX.iload_n rfl rfl ?_
    refine AX.iald rfl hj (by rw [m2]; exact vp_in_nI (by have := ok.1; omega) (by decide)) ?_
    refine AX.goto rfl ?_
    exact AX.ireturn rfl rfl ⟨by simp [rAt, hh, m3, ok.2 m m1], rfl⟩ (Nat.le_refl _) (Nat.le_refl _)
theorem rFind_some {xs : List Int32} {v : Int32} {m : Nat} (hm : m < xs.length) (he : xs.getD m (-1) = v) (hb : ∀ i, i < m → xs.getD i (-1) ≠ v) : rFind xs v = nI m := by
  unfold rFind
  have : xs.findIdx? (fun x => x == v) = some m := by
    rw [List.findIdx?_eq_some_iff_getElem]
    refine ⟨hm, ?_, ?_⟩
    · rw [List.getD_eq_getElem?_getD, List.getElem?_eq_getElem hm] at he
      simpa using he
    · intro j hj
      have h1 := hb j hj
      rw [List.getD_eq_getElem?_getD, List.getElem?_eq_getElem (by omega)] at h1
      simpa using h1
  rw [this]
theorem rFind_none {xs : List Int32} {v : Int32} (hb : ∀ i, i < xs.length → xs.getD i (-1) ≠ v) : rFind xs v = -1 := by
  unfold rFind
  have : xs.findIdx? (fun x => x == v) = none := by
    rw [List.findIdx?_eq_none_iff]
    intro x hx
    obtain ⟨i, hi⟩ := List.getElem?_of_mem hx
    have hl := (List.getElem?_eq_some_iff.mp hi).1
    have h1 := hb i hl
    rw [List.getD_eq_getElem?_getD, hi] at h1
    simpa using h1
  rw [this]
theorem s_find_loop {d i j : Nat} {h : ax_H} {f : Nat → Int32} {xs : List Int32} (v : Int32) (hi : h[i]? = some (.inr (2, [.ref j, .int (nI xs.length)]))) (hj : h[j]? = some (.inl (0, 40, .inl f))) (ok : rw_ok f xs) : ∀ (n m : Nat) (lv : ax_L), xs.length = m + n → (∀ i, i < m → xs.getD i (-1) ≠ v) → ax_get lv 0 = some (.ref i) → ax_get lv 1 = some (.int v) → ax_get lv 2 = some (.int (nI m)) →
    AX (d + 2) kR_find 0 0 none 2 lv [] h 0 0 (ax_ret kR_find 0 0 (fun r h' => r = some (.int (rFind xs v)) ∧ h' = h)) := by
  have o1 := ok.1
  intro n
  induction n with
  | zero =>
    intro m lv hn hb l0 l1 l2
    refine AX.iload_n rfl l2 ?_
    refine AX.aload_n rfl l0 ?_
    refine AX.getf rfl hi rfl ?_
    refine AX.icmp_ge rfl (fun _ => ?_) (fun c => ?_)
    · refine AX.iconstV (v := -1) rfl (by decide) ?_
      exact AX.ireturn rfl rfl ⟨by rw [rFind_none (by rw [hn]; exact hb)], rfl⟩ (Nat.le_refl _) (Nat.le_refl _)
    · exact absurd (nI_le (by omega) (by omega)) c
  | succ n ih =>
    intro m lv hn hb l0 l1 l2
    refine AX.iload_n rfl l2 ?_
    refine AX.aload_n rfl l0 ?_
    refine AX.getf rfl hi rfl ?_
    refine AX.icmp_ge rfl (fun c => ?_) (fun _ => ?_)
    · exact absurd c (nI_ge (by omega) (by omega))
    refine AX.aload_n rfl l0 ?_
    refine AX.iload_n rfl l2 ?_
    refine AX.cVI rfl rfl rfl hi (s_at (nI m) hi hj ok) (fun h' e => ?_)
    subst e
    rw [rAt_nI (by omega)]
    refine AX.iload_n rfl l1 ?_
    refine AX.icmp_ne rfl (fun c => ?_) (fun c => ?_)
    · refine AX.iincV (dn := 1) rfl l2 (by decide) (by decide) ?_
      refine AX.goto rfl ?_
      refine ih (m + 1) _ (by omega) ?_ ?_ ?_ ?_
      · intro i hi'
        by_cases e : i = m
        · subst e; exact c
        · exact hb i (by omega)
      · exact ax_get_put_ne (by decide) l0 rfl
      · exact ax_get_put_ne (by decide) l1 rfl
      · rw [ax_get_put, nI_1]
    · refine AX.iload_n rfl l2 ?_
      exact AX.ireturn rfl rfl ⟨by rw [rFind_some (by omega) c hb], rfl⟩ (Nat.le_refl _) (Nat.le_refl _)
theorem s_find {d i j : Nat} {h : ax_H} {f : Nat → Int32} {xs : List Int32} (v : Int32) (hi : h[i]? = some (.inr (2, [.ref j, .int (nI xs.length)]))) (hj : h[j]? = some (.inl (0, 40, .inl f))) (ok : rw_ok f xs) : AM (d + 2) kR_find 0 0 none [.ref i, .int v] h (fun r h' => r = some (.int (rFind xs v)) ∧ h' = h) := by
  refine AX.iconstV (v := 0) rfl (by decide) ?_
  refine AX.istore_n rfl (by decide) ?_
  exact s_find_loop v hi hj ok xs.length 0 _ (by omega) (fun i hi' => by omega) rfl rfl rfl
theorem s_put {d i j : Nat} {h : ax_H} {f : Nat → Int32} {xs : List Int32} (k v : Int32) (hi : h[i]? = some (.inr (2, [.ref j, .int (nI xs.length)]))) (hj : h[j]? = some (.inl (0, 40, .inl f))) (ok : rw_ok f xs) : AM (d + 1) kR_put 0 0 none [.ref i, .int k, .int v] h (fun r h' => r = none ∧ ∃ f', rw_ok f' (rPut xs k v) ∧ h' = (h.set j (.inl (0, 40, .inl f'))).set i (.inr (2, [.ref j, .int (nI (rPut xs k v).length)]))) := by
  have hne := h_dif hi hj
  refine AX.aload_n rfl rfl ?_
  refine AX.iload_n rfl rfl ?_
  refine AX.cVI rfl rfl rfl hi (s_has k hi hj ok) (fun h' e => ?_)
  subst e
  refine AX.if_eq rfl (fun c => ?_) (fun c => ?_)
  · rw [bI_0] at c
    have e : rPut xs k v = xs := by simp [rPut, c]
    refine AX.vreturn rfl rfl ⟨rfl, f, by rw [e]; exact ok, ?_⟩ (Nat.le_refl _) (Nat.le_refl _)
    rw [e, h_same hj, h_same hi]
  · have hh : rHas xs k = true := by
      cases hq : rHas xs k with
      | true => rfl
      | false => exact absurd (bI_0.mpr hq) c
    obtain ⟨m, m1, m2, m3, m4⟩ := rHas_t hh ok.1
    have e : rPut xs k v = xs.set m v := by simp [rPut, hh, m3]
    refine AX.aload_n rfl rfl ?_
    refine AX.getf rfl hi rfl ?_
    refine AX.iload_n rfl rfl ?_
    refine AX.iload_n rfl rfl ?_
    refine AX.iast rfl hj (by rw [m2]; exact vp_in_nI (by have := ok.1; omega) (by decide)) ?_
    refine AX.vreturn rfl rfl ⟨rfl, upd f k.toNatClampNeg v, ?_, ?_⟩ (Nat.le_refl _) (Nat.le_refl _)
    · rw [e, m3]
      refine ⟨by rw [List.length_set]; exact ok.1, fun q hq => ?_⟩
      rw [List.length_set] at hq
      rw [List.getD_eq_getElem?_getD, List.getElem?_set]
      by_cases hqm : m = q
      · subst hqm
        simp [pk_us, m1]
      · rw [pk_un (fun z => hqm z.symm), if_neg hqm, ok.2 q hq, List.getD_eq_getElem?_getD]
    · rw [e, List.length_set]
      rw [h_same (h_ne hi hne)]
theorem ins_ok {f : Nat → Int32} {xs : List Int32} {m : Nat} {v : Int32} (ok : rw_ok f xs) (hm : m ≤ xs.length) (hl : xs.length < 40) : rw_ok (upd (va_cpy f f m (m + 1) (xs.length - m)) m v) (xs.insertIdx m v) := by
  have hlen : (xs.insertIdx m v).length = xs.length + 1 := by rw [List.length_insertIdx, if_pos hm]
  refine ⟨by omega, fun q hq => ?_⟩
  rw [hlen] at hq
  rw [List.getD_eq_getElem?_getD, List.getElem?_insertIdx]
  by_cases h1 : q < m
  · rw [if_pos h1, pk_un (by omega), pk_cpy_out (by omega), ok.2 q (by omega), List.getD_eq_getElem?_getD]
  · rw [if_neg h1]
    by_cases h2 : q = m
    · subst h2
      rw [if_pos rfl, if_pos hm, pk_us]
      rfl
    · rw [if_neg h2, pk_un h2, pk_cpy_in (by omega) (by omega), show m + (q - (m + 1)) = q - 1 by omega, ok.2 (q - 1) (by omega), List.getD_eq_getElem?_getD]
theorem rem_ok {f : Nat → Int32} {xs : List Int32} {m : Nat} (ok : rw_ok f xs) (hm : m < xs.length) : rw_ok (va_cpy f f (m + 1) m (xs.length - m - 1)) (xs.eraseIdx m) := by
  have hlen : (xs.eraseIdx m).length = xs.length - 1 := by rw [List.length_eraseIdx, if_pos hm]
  have := ok.1
  refine ⟨by omega, fun q hq => ?_⟩
  rw [hlen] at hq
  rw [List.getD_eq_getElem?_getD, List.getElem?_eraseIdx]
  by_cases h1 : q < m
  · rw [if_pos h1, pk_cpy_out (by omega), ok.2 q (by omega), List.getD_eq_getElem?_getD]
  · rw [if_neg h1, pk_cpy_in (by omega) (by omega), show m + 1 + (q - m) = q + 1 by omega, ok.2 (q + 1) (by omega), List.getD_eq_getElem?_getD]
theorem s_insert {d i j : Nat} {h : ax_H} {f : Nat → Int32} {xs : List Int32} (k v : Int32) (hi : h[i]? = some (.inr (2, [.ref j, .int (nI xs.length)]))) (hj : h[j]? = some (.inl (0, 40, .inl f))) (ok : rw_ok f xs) : AM (d + 1) kR_insert 0 0 none [.ref i, .int k, .int v] h (fun r h' => r = none ∧ ∃ f', rw_ok f' (rIns xs k v) ∧ h' = (h.set j (.inl (0, 40, .inl f'))).set i (.inr (2, [.ref j, .int (nI (rIns xs k v).length)]))) := by
  have hne := h_dif hi hj
  have o1 := ok.1
  have no : rIns xs k v = xs → AX (d + 1) kR_insert 0 0 none 24 (lv_args 0 [.ref i, .int k, .int v]) [] h 0 0 (ax_ret kR_insert 0 0 (fun r h' => r = none ∧ ∃ f', rw_ok f' (rIns xs k v) ∧ h' = (h.set j (.inl (0, 40, .inl f'))).set i (.inr (2, [.ref j, .int (nI (rIns xs k v).length)])))) := by
    intro e
    refine AX.vreturn rfl rfl ⟨rfl, f, by rw [e]; exact ok, ?_⟩ (Nat.le_refl _) (Nat.le_refl _)
    rw [e, h_same hj, h_same hi]
  refine AX.iload_n rfl rfl ?_
  refine AX.if_lt rfl (fun c => no (by simp [rIns, c])) (fun c => ?_)
  obtain ⟨m, m1, m2, m3⟩ := i_pos c
  refine AX.iload_n rfl rfl ?_
  refine AX.aload_n rfl rfl ?_
  refine AX.getf rfl hi rfl ?_
  refine AX.icmp_gt rfl (fun c2 => no ?_) (fun c2 => ?_)
  · rw [m2, nI_ltI (by omega) m1] at c2
    simp [rIns, m3, c2]
  rw [m2, nI_ltI (by omega) m1] at c2
  refine AX.aload_n rfl rfl ?_
  refine AX.getf rfl hi rfl ?_
  refine AX.aload_n rfl rfl ?_
  refine AX.getf rfl hi rfl ?_
  refine AX.alen rfl hj (by decide) ?_
  refine AX.icmp_lt rfl (fun c3 => ?_) (fun c3 => no ?_)
  · have c4 : nI xs.length < nI 40 := c3
    rw [nI_ltI (by omega) (by decide)] at c4
    refine AX.aload_n rfl rfl ?_
    refine AX.getf rfl hi rfl ?_
    refine AX.iload_n rfl rfl ?_
    refine AX.aload_n rfl rfl ?_
    refine AX.getf rfl hi rfl ?_
    refine AX.iload_n rfl rfl ?_
    refine AX.iconstV (v := 1) rfl (by decide) ?_
    refine AX.iadd rfl ?_
    refine AX.aload_n rfl rfl ?_
    refine AX.getf rfl hi rfl ?_
    refine AX.iload_n rfl rfl ?_
    refine AX.isub rfl ?_
    have e1 : k + 1 = nI (m + 1) := by rw [m2, nI_1]
    have e2 : nI xs.length - k = nI (xs.length - m) := by rw [m2, pk_sub (by omega)]
    rw [e1, e2]
    refine AX.acopy rfl (Nat.le_of_ble_eq_true rfl) hj hj c (nI_pos (by omega)) (nI_pos (by omega)) (by rw [m3, nI_clamp (by omega)]; omega) (by rw [nI_clamp (by omega), nI_clamp (by omega)]; omega) ?_
    rw [m3, nI_clamp (by omega), nI_clamp (by omega)]
    refine AX.aload_n rfl rfl ?_
    refine AX.getf rfl (h_ne hi hne) rfl ?_
    refine AX.iload_n rfl rfl ?_
    refine AX.iload_n rfl rfl ?_
    refine AX.iast rfl (h_eq hj) (by rw [m2]; exact vp_in_nI (by omega) (by decide)) ?_
    rw [m3, List.set_set]
    refine AX.aload_n rfl rfl ?_
    refine AX.dup rfl rfl ?_
    refine AX.getf rfl (h_ne hi hne) rfl ?_
    refine AX.iconstV (v := 1) rfl (by decide) ?_
    refine AX.iadd rfl ?_
    refine AX.putf rfl (h_ne hi hne) (Nat.le_of_ble_eq_true rfl) rfl ?_
    have e3 : rIns xs k v = xs.insertIdx m v := by
      have : ¬ (k < 0 ∨ xs.length < k.toNatClampNeg ∨ 40 ≤ xs.length) := by rw [m3]; intro q; rcases q with q | q | q; exact c q; omega; omega
      rw [rIns, if_neg this, m3]
    refine AX.vreturn rfl rfl ⟨rfl, _, by rw [e3]; exact ins_ok ok (by omega) (by omega), ?_⟩ (Nat.le_refl _) (Nat.le_refl _)
    rw [e3, List.length_insertIdx, if_pos (by omega), ← nI_1]
    rfl
  · have c4 : ¬ nI xs.length < nI 40 := c3
    rw [nI_ltI (by omega) (by decide)] at c4
    have : 40 ≤ xs.length := by omega
    simp [rIns, this]
theorem s_append {d i j : Nat} {h : ax_H} {f : Nat → Int32} {xs : List Int32} (v : Int32) (hi : h[i]? = some (.inr (2, [.ref j, .int (nI xs.length)]))) (hj : h[j]? = some (.inl (0, 40, .inl f))) (ok : rw_ok f xs) : AM (d + 2) kR_append 0 0 none [.ref i, .int v] h (fun r h' => r = none ∧ ∃ f', rw_ok f' (rIns xs (nI xs.length) v) ∧ h' = (h.set j (.inl (0, 40, .inl f'))).set i (.inr (2, [.ref j, .int (nI (rIns xs (nI xs.length) v).length)]))) := by
  refine AX.aload_n rfl rfl ?_
  refine AX.aload_n rfl rfl ?_
  refine AX.getf rfl hi rfl ?_
  refine AX.iload_n rfl rfl ?_
  refine AX.cVV rfl rfl rfl hi (s_insert (nI xs.length) v hi hj ok) (fun h' e => ?_)
  exact AX.vreturn rfl rfl ⟨rfl, e⟩ (Nat.le_refl _) (Nat.le_refl _)
theorem s_removeAt {d i j : Nat} {h : ax_H} {f : Nat → Int32} {xs : List Int32} (k : Int32) (hi : h[i]? = some (.inr (2, [.ref j, .int (nI xs.length)]))) (hj : h[j]? = some (.inl (0, 40, .inl f))) (ok : rw_ok f xs) : AM (d + 1) kR_removeAt 0 0 none [.ref i, .int k] h (fun r h' => r = none ∧ ∃ f', rw_ok f' (rRem xs k) ∧ h' = (h.set j (.inl (0, 40, .inl f'))).set i (.inr (2, [.ref j, .int (nI (rRem xs k).length)]))) := by
  have hne := h_dif hi hj
  have o1 := ok.1
  refine AX.aload_n rfl rfl ?_
  refine AX.iload_n rfl rfl ?_
  refine AX.cVI rfl rfl rfl hi (s_has k hi hj ok) (fun h' e => ?_)
  subst e
  refine AX.if_ne rfl (fun c => ?_) (fun c => ?_)
  · have hh : rHas xs k = true := by
      cases hq : rHas xs k with
      | true => rfl
      | false => exact absurd (bI_0.mpr hq) c
    obtain ⟨m, m1, m2, m3, m4⟩ := rHas_t hh ok.1
    refine AX.aload_n rfl rfl ?_
    refine AX.getf rfl hi rfl ?_
    refine AX.iload_n rfl rfl ?_
    refine AX.iconstV (v := 1) rfl (by decide) ?_
    refine AX.iadd rfl ?_
    refine AX.aload_n rfl rfl ?_
    refine AX.getf rfl hi rfl ?_
    refine AX.iload_n rfl rfl ?_
    refine AX.aload_n rfl rfl ?_
    refine AX.getf rfl hi rfl ?_
    refine AX.iload_n rfl rfl ?_
    refine AX.isub rfl ?_
    refine AX.iconstV (v := 1) rfl (by decide) ?_
    refine AX.isub rfl ?_
    have e1 : k + 1 = nI (m + 1) := by rw [m2, nI_1]
    have e2 : nI xs.length - k - 1 = nI (xs.length - m - 1) := by
      rw [m2, pk_sub (by omega), show (1 : Int32) = nI 1 from rfl, pk_sub (by omega)]
    rw [e1, e2]
    refine AX.acopy rfl (Nat.le_of_ble_eq_true rfl) hj hj (nI_pos (by omega)) m4 (nI_pos (by omega)) (by rw [nI_clamp (by omega), nI_clamp (by omega)]; omega) (by rw [m3, nI_clamp (by omega)]; omega) ?_
    rw [m3, nI_clamp (by omega), nI_clamp (by omega)]
    refine AX.aload_n rfl rfl ?_
    refine AX.dup rfl rfl ?_
    refine AX.getf rfl (h_ne hi hne) rfl ?_
    refine AX.iconstV (v := 1) rfl (by decide) ?_
    refine AX.isub rfl ?_
    refine AX.putf rfl (h_ne hi hne) (Nat.le_of_ble_eq_true rfl) rfl ?_
    have e3 : rRem xs k = xs.eraseIdx m := by simp [rRem, hh, m3]
    refine AX.vreturn rfl rfl ⟨rfl, _, by rw [e3]; exact rem_ok ok m1, ?_⟩ (Nat.le_refl _) (Nat.le_refl _)
    rw [e3, List.length_eraseIdx, if_pos m1, ← pk_sub (show 1 ≤ xs.length by omega)]
    rfl
  · rw [bI_0] at c
    have e : rRem xs k = xs := by simp [rRem, c]
    refine AX.vreturn rfl rfl ⟨rfl, f, by rw [e]; exact ok, ?_⟩ (Nat.le_refl _) (Nat.le_refl _)
    rw [e, h_same hj, h_same hi]
end
section
/-! THE CLASS'S CELLS: the numbers (0 most, 1 width, 2 again, 3 paused, 4 answers, 5 halvings, 6 turnsGiven, 7 askedInVain), the rows (0 ranks, 1 parts, 2 places, 3 reasons, 4 turns, 5 treeSizes, 6 queue, 7 tree, 8 line, 9 sizes, 10 states, 11 failures), the conflicts; behind them other cells T -/
abbrev zS : Type := (Nat → Int32) × (Nat → List Int32) × (Nat → Int64)
def QH (z : zS) (F : Nat → Nat → Int32) (T : ax_H) : ax_H :=
  .inr (3, [.int (z.1 0), .int (z.1 1), .int (z.1 2), .ref 1, .ref 15, .ref 17, .ref 19, .int (z.1 3), .int (z.1 4), .int (z.1 5)]) ::
  .inr (0, [.ref 2, .ref 4, .ref 6, .ref 8, .ref 10, .ref 12, .ref 14, .int (z.1 6)]) ::
  .inr (2, [.ref 3, .int (nI (z.2.1 0).length)]) :: .inl (0, 40, .inl (F 0)) ::
  .inr (2, [.ref 5, .int (nI (z.2.1 1).length)]) :: .inl (0, 40, .inl (F 1)) ::
  .inr (2, [.ref 7, .int (nI (z.2.1 2).length)]) :: .inl (0, 40, .inl (F 2)) ::
  .inr (2, [.ref 9, .int (nI (z.2.1 3).length)]) :: .inl (0, 40, .inl (F 3)) ::
  .inr (2, [.ref 11, .int (nI (z.2.1 4).length)]) :: .inl (0, 40, .inl (F 4)) ::
  .inr (2, [.ref 13, .int (nI (z.2.1 5).length)]) :: .inl (0, 40, .inl (F 5)) ::
  .inl (1, 40, .inr (.inl z.2.2)) ::
  .inr (2, [.ref 16, .int (nI (z.2.1 6).length)]) :: .inl (0, 40, .inl (F 6)) ::
  .inr (2, [.ref 18, .int (nI (z.2.1 7).length)]) :: .inl (0, 40, .inl (F 7)) ::
  .inr (1, [.ref 20, .ref 22, .ref 24, .ref 26, .int (z.1 7)]) ::
  .inr (2, [.ref 21, .int (nI (z.2.1 8).length)]) :: .inl (0, 40, .inl (F 8)) ::
  .inr (2, [.ref 23, .int (nI (z.2.1 9).length)]) :: .inl (0, 40, .inl (F 9)) ::
  .inr (2, [.ref 25, .int (nI (z.2.1 10).length)]) :: .inl (0, 40, .inl (F 10)) ::
  .inr (2, [.ref 27, .int (nI (z.2.1 11).length)]) :: .inl (0, 40, .inl (F 11)) :: T
def rIx (r : Nat) : Nat := ([2, 4, 6, 8, 10, 12, 15, 17, 20, 22, 24, 26] : List Nat).getD r 0
def isQ (z : zS) (T h : ax_H) : Prop := ∃ F : Nat → Nat → Int32, (∀ r, r < 12 → rw_ok (F r) (z.2.1 r)) ∧ h = QH z F T
def zrow (z : zS) (r : Nat) (xs : List Int32) : zS := (z.1, va_up z.2.1 r xs, z.2.2)
def zset (z : zS) (i : Nat) (v : Int32) : zS := (va_up z.1 i v, z.2.1, z.2.2)
def zput (z : zS) (r : Nat) (k v : Int32) : zS := zrow z r (rPut (z.2.1 r) k v)
def zins (z : zS) (r : Nat) (k v : Int32) : zS := zrow z r (rIns (z.2.1 r) k v)
def zapp (z : zS) (r : Nat) (v : Int32) : zS := zrow z r (rIns (z.2.1 r) (nI (z.2.1 r).length) v)
def zrem (z : zS) (r : Nat) (k : Int32) : zS := zrow z r (rRem (z.2.1 r) k)
def zat (z : zS) (r : Nat) (k : Int32) : Int32 := rAt (z.2.1 r) k
section ISQ
variable {z : zS} {T h : ax_H} {d : Nat}
theorem Q0 (hq : isQ z T h) : h[0]? = some (.inr (3, [.int (z.1 0), .int (z.1 1), .int (z.1 2), .ref 1, .ref 15, .ref 17, .ref 19, .int (z.1 3), .int (z.1 4), .int (z.1 5)])) := by
  obtain ⟨F, -, rfl⟩ := hq; rfl
theorem Q1 (hq : isQ z T h) : h[1]? = some (.inr (0, [.ref 2, .ref 4, .ref 6, .ref 8, .ref 10, .ref 12, .ref 14, .int (z.1 6)])) := by
  obtain ⟨F, -, rfl⟩ := hq; rfl
theorem Q19 (hq : isQ z T h) : h[19]? = some (.inr (1, [.ref 20, .ref 22, .ref 24, .ref 26, .int (z.1 7)])) := by
  obtain ⟨F, -, rfl⟩ := hq; rfl
theorem Q14 (hq : isQ z T h) : h[14]? = some (.inl (1, 40, .inr (.inl z.2.2))) := by
  obtain ⟨F, -, rfl⟩ := hq; rfl
theorem QS3 (hq : isQ z T h) (v : Int32) : isQ (zset z 3 v) T (h.set 0 (.inr (3, [.int (z.1 0), .int (z.1 1), .int (z.1 2), .ref 1, .ref 15, .ref 17, .ref 19, .int v, .int (z.1 4), .int (z.1 5)]))) := by
  obtain ⟨F, ok, rfl⟩ := hq; exact ⟨F, ok, rfl⟩
theorem QS4 (hq : isQ z T h) (v : Int32) : isQ (zset z 4 v) T (h.set 0 (.inr (3, [.int (z.1 0), .int (z.1 1), .int (z.1 2), .ref 1, .ref 15, .ref 17, .ref 19, .int (z.1 3), .int v, .int (z.1 5)]))) := by
  obtain ⟨F, ok, rfl⟩ := hq; exact ⟨F, ok, rfl⟩
theorem QS5 (hq : isQ z T h) (v : Int32) : isQ (zset z 5 v) T (h.set 0 (.inr (3, [.int (z.1 0), .int (z.1 1), .int (z.1 2), .ref 1, .ref 15, .ref 17, .ref 19, .int (z.1 3), .int (z.1 4), .int v]))) := by
  obtain ⟨F, ok, rfl⟩ := hq; exact ⟨F, ok, rfl⟩
theorem QS6 (hq : isQ z T h) (v : Int32) : isQ (zset z 6 v) T (h.set 1 (.inr (0, [.ref 2, .ref 4, .ref 6, .ref 8, .ref 10, .ref 12, .ref 14, .int v]))) := by
  obtain ⟨F, ok, rfl⟩ := hq; exact ⟨F, ok, rfl⟩
theorem QS7 (hq : isQ z T h) (v : Int32) : isQ (zset z 7 v) T (h.set 19 (.inr (1, [.ref 20, .ref 22, .ref 24, .ref 26, .int v]))) := by
  obtain ⟨F, ok, rfl⟩ := hq; exact ⟨F, ok, rfl⟩
theorem QC (hq : isQ z T h) (f : Nat → Int64) : isQ (z.1, z.2.1, f) T (h.set 14 (.inl (1, 40, .inr (.inl f)))) := by
  obtain ⟨F, ok, rfl⟩ := hq; exact ⟨F, ok, rfl⟩
theorem QR (hq : isQ z T h) (r : Nat) (hr : r < 12) : ∃ f, h[rIx r]? = some (.inr (2, [.ref (rIx r + 1), .int (nI (z.2.1 r).length)])) ∧ h[rIx r + 1]? = some (.inl (0, 40, .inl f)) ∧ rw_ok f (z.2.1 r) ∧ ∀ xs f', rw_ok f' xs → isQ (zrow z r xs) T ((h.set (rIx r + 1) (.inl (0, 40, .inl f'))).set (rIx r) (.inr (2, [.ref (rIx r + 1), .int (nI xs.length)]))) := by
  obtain ⟨F, ok, rfl⟩ := hq
  refine ⟨F r, ?_, ?_, ok r hr, fun xs f' ok' => ⟨va_up F r f', fun q hq => ?_, ?_⟩⟩
  · rcases (show r = 0 ∨ r = 1 ∨ r = 2 ∨ r = 3 ∨ r = 4 ∨ r = 5 ∨ r = 6 ∨ r = 7 ∨ r = 8 ∨ r = 9 ∨ r = 10 ∨ r = 11 by omega) with rfl | rfl | rfl | rfl | rfl | rfl | rfl | rfl | rfl | rfl | rfl | rfl <;> rfl
  · rcases (show r = 0 ∨ r = 1 ∨ r = 2 ∨ r = 3 ∨ r = 4 ∨ r = 5 ∨ r = 6 ∨ r = 7 ∨ r = 8 ∨ r = 9 ∨ r = 10 ∨ r = 11 by omega) with rfl | rfl | rfl | rfl | rfl | rfl | rfl | rfl | rfl | rfl | rfl | rfl <;> rfl
  · show rw_ok (va_up F r f' q) (va_up z.2.1 r xs q)
    unfold va_up
    by_cases e : q = r
    · rw [if_pos e, if_pos e]; exact ok'
    · rw [if_neg e, if_neg e]; exact ok q hq
  · rcases (show r = 0 ∨ r = 1 ∨ r = 2 ∨ r = 3 ∨ r = 4 ∨ r = 5 ∨ r = 6 ∨ r = 7 ∨ r = 8 ∨ r = 9 ∨ r = 10 ∨ r = 11 by omega) with rfl | rfl | rfl | rfl | rfl | rfl | rfl | rfl | rfl | rfl | rfl | rfl <;> rfl
theorem QRo (hq : isQ z T h) (r : Nat) (hr : r < 12) : h[rIx r]? = some (.inr (2, [.ref (rIx r + 1), .int (nI (z.2.1 r).length)])) := (QR hq r hr).choose_spec.1
theorem AX.gen {k C S : Nat} {X : Option (Nat × (Nat → Int32))} {pc : Nat} {lv : ax_L} {st : List Value} {n1 n2 : Nat} {F : ax_F} {G : ax_H → Prop} (hG : G h) (kk : ∀ h', G h' → AX d k C S X pc lv st h' n1 n2 F) : AX d k C S X pc lv st h n1 n2 F := kk h hG
theorem AX.alenV {k C S : Nat} {X : Option (Nat × (Nat → Int32))} {pc nx a1 a2 : Nat} {lv : ax_L} {st : List Value} {n1 n2 : Nat} {F : ax_F} {i t : Nat} {x : vp_A} {v : Int32} (hi : m_i k pc = some (.arraylength, 1, nx, a1, a2)) (hh : h[i]? = some (.inl (t, x))) (ht : t < 3) (hv : Int32.ofNat x.1 = v) (kk : AX d k C S X nx lv (.int v :: st) h n1 n2 F) : AX d k C S X pc lv (.ref i :: st) h n1 n2 F := by
  subst hv; exact AX.alen hi hh ht kk
theorem AX.if_eqB {k C S : Nat} {X : Option (Nat × (Nat → Int32))} {pc nx a1 a2 : Nat} {lv : ax_L} {st : List Value} {n1 n2 : Nat} {F : ax_F} {b : Bool} {off : Int} (hi : m_i k pc = some (.ifCond .eq off, 3, nx, a1, a2)) (kt : b = false → AX d k C S X a1 lv st h n1 n2 F) (kf : b = true → AX d k C S X nx lv st h n1 n2 F) : AX d k C S X pc lv (.int (bI b) :: st) h n1 n2 F :=
  AX.if_eq hi (fun c => kt (bI_0.mp c)) (fun c => kf (by cases b with | true => rfl | false => exact absurd rfl c))
theorem AX.if_neB {k C S : Nat} {X : Option (Nat × (Nat → Int32))} {pc nx a1 a2 : Nat} {lv : ax_L} {st : List Value} {n1 n2 : Nat} {F : ax_F} {b : Bool} {off : Int} (hi : m_i k pc = some (.ifCond .ne off, 3, nx, a1, a2)) (kt : b = true → AX d k C S X a1 lv st h n1 n2 F) (kf : b = false → AX d k C S X nx lv st h n1 n2 F) : AX d k C S X pc lv (.int (bI b) :: st) h n1 n2 F :=
  AX.if_ne hi (fun c => kt (by cases b with | true => rfl | false => exact absurd rfl c)) (fun c => kf (bI_0.mp c))
theorem AX.sub {k C S : Nat} {X : Option (Nat × (Nat → Int32))} {pc : Nat} {lv lv' : ax_L} {st : List Value} {n1 n2 : Nat} {F : ax_F} (ks : List Nat) (e : lv_pick lv ks = lv') (kk : AX d k C S X pc lv' st h n1 n2 F) : AX d k C S X pc lv st h n1 n2 F := by
  intro l D cid b p e0 R s m args below meth c A Q n0 ad0 Cx hF ad H locs ls hr
  obtain ⟨hP, hD, hS, hl, hg, hn, hz⟩ := hr
  refine kk l D cid b p e0 R s m args below meth c A Q n0 ad0 Cx hF ad H locs ls ⟨hP, hD, hS, lv_sub hl ks ?_, hg, hn, hz⟩
  rw [← e]
  unfold lv_pick ax_l
  rw [List.map_filterMap]
  congr 1
  funext q
  rw [List.getElem?_map]
theorem wCount (hq : isQ z T h) (r : Nat) (hr : r < 12) : AM d kR_count 0 0 none [.ref (rIx r)] h (fun v h' => v = some (.int (nI (z.2.1 r).length)) ∧ isQ z T h') := by
  obtain ⟨f, h1, h2, ok, up⟩ := QR hq r hr
  exact AM.imp (s_count h1) (fun v h' q => ⟨q.1, by rw [q.2]; exact hq⟩)
theorem wHas (hq : isQ z T h) (r : Nat) (hr : r < 12) (k : Int32) : AM d kR_has 0 0 none [.ref (rIx r), .int k] h (fun v h' => v = some (.int (bI (rHas (z.2.1 r) k))) ∧ isQ z T h') := by
  obtain ⟨f, h1, h2, ok, up⟩ := QR hq r hr
  exact AM.imp (s_has k h1 h2 ok) (fun v h' q => ⟨q.1, by rw [q.2]; exact hq⟩)
theorem wAt (hq : isQ z T h) (r : Nat) (hr : r < 12) (k : Int32) : AM (d + 1) kR_at 0 0 none [.ref (rIx r), .int k] h (fun v h' => v = some (.int (zat z r k)) ∧ isQ z T h') := by
  obtain ⟨f, h1, h2, ok, up⟩ := QR hq r hr
  exact AM.imp (s_at k h1 h2 ok) (fun v h' q => ⟨q.1, by rw [q.2]; exact hq⟩)
theorem wFind (hq : isQ z T h) (r : Nat) (hr : r < 12) (v : Int32) : AM (d + 2) kR_find 0 0 none [.ref (rIx r), .int v] h (fun u h' => u = some (.int (rFind (z.2.1 r) v)) ∧ isQ z T h') := by
  obtain ⟨f, h1, h2, ok, up⟩ := QR hq r hr
  exact AM.imp (s_find v h1 h2 ok) (fun v h' q => ⟨q.1, by rw [q.2]; exact hq⟩)
theorem wPut (hq : isQ z T h) (r : Nat) (hr : r < 12) (k v : Int32) : AM (d + 1) kR_put 0 0 none [.ref (rIx r), .int k, .int v] h (fun u h' => u = none ∧ isQ (zput z r k v) T h') := by
  obtain ⟨f, h1, h2, ok, up⟩ := QR hq r hr
  exact AM.imp (s_put k v h1 h2 ok) (fun v h' q => ⟨q.1, by obtain ⟨f', g1, g2⟩ := q.2; rw [g2]; exact up _ f' g1⟩)
theorem wIns (hq : isQ z T h) (r : Nat) (hr : r < 12) (k v : Int32) : AM (d + 1) kR_insert 0 0 none [.ref (rIx r), .int k, .int v] h (fun u h' => u = none ∧ isQ (zins z r k v) T h') := by
  obtain ⟨f, h1, h2, ok, up⟩ := QR hq r hr
  exact AM.imp (s_insert k v h1 h2 ok) (fun v h' q => ⟨q.1, by obtain ⟨f', g1, g2⟩ := q.2; rw [g2]; exact up _ f' g1⟩)
theorem wApp (hq : isQ z T h) (r : Nat) (hr : r < 12) (v : Int32) : AM (d + 2) kR_append 0 0 none [.ref (rIx r), .int v] h (fun u h' => u = none ∧ isQ (zapp z r v) T h') := by
  obtain ⟨f, h1, h2, ok, up⟩ := QR hq r hr
  exact AM.imp (s_append v h1 h2 ok) (fun v h' q => ⟨q.1, by obtain ⟨f', g1, g2⟩ := q.2; rw [g2]; exact up _ f' g1⟩)
theorem wRem (hq : isQ z T h) (r : Nat) (hr : r < 12) (k : Int32) : AM (d + 1) kR_removeAt 0 0 none [.ref (rIx r), .int k] h (fun u h' => u = none ∧ isQ (zrem z r k) T h') := by
  obtain ⟨f, h1, h2, ok, up⟩ := QR hq r hr
  exact AM.imp (s_removeAt k h1 h2 ok) (fun v h' q => ⟨q.1, by obtain ⟨f', g1, g2⟩ := q.2; rw [g2]; exact up _ f' g1⟩)
end ISQ
end
section
section CH
variable {z : zS} {T h : ax_H} {d : Nat}
theorem sC_count (hq : isQ z T h) : AM (d + 1) kC_count 0 0 none [.ref 1] h (fun r h' => r = some (.int (nI (z.2.1 2).length)) ∧ isQ z T h') := by
  refine AX.aload_n rfl rfl ?_
  refine AX.getf rfl (Q1 hq) rfl ?_
  refine AX.cVI rfl rfl rfl (QRo hq 2 (by decide)) (wCount hq 2 (by decide)) (fun h hq => ?_)
  exact AX.ireturn rfl rfl ⟨rfl, hq⟩ (Nat.le_refl _) (Nat.le_refl _)
def zC_add (z : zS) (rank parts : Int32) : zS := zapp (zapp (zapp (zapp (zapp (zapp z 0 rank) 1 parts) 2 0) 3 0) 4 40) 5 0
theorem sC_add (hq : isQ z T h) (rank parts : Int32) : AM (d + 3) kC_add 0 0 none [.ref 1, .int rank, .int parts] h (fun r h' => r = some (.int (nI (z.2.1 2).length)) ∧ isQ (zC_add z rank parts) T h') := by
  refine AX.aload_n rfl rfl ?_
  refine AX.cVI rfl rfl rfl (Q1 hq) (sC_count hq) (fun h hq => ?_)
  refine AX.istore_n rfl (by decide) ?_
  refine AX.aload_n rfl rfl ?_
  refine AX.getf rfl (Q1 hq) rfl ?_
  refine AX.iload_n rfl rfl ?_
  refine AX.cVV rfl rfl rfl (QRo hq 0 (by decide)) (wApp hq 0 (by decide) _) (fun h hq => ?_)
  refine AX.aload_n rfl rfl ?_
  refine AX.getf rfl (Q1 hq) rfl ?_
  refine AX.iload_n rfl rfl ?_
  refine AX.cVV rfl rfl rfl (QRo hq 1 (by decide)) (wApp hq 1 (by decide) _) (fun h hq => ?_)
  refine AX.aload_n rfl rfl ?_
  refine AX.getf rfl (Q1 hq) rfl ?_
  refine AX.iconstV (v := 0) rfl (by decide) ?_
  refine AX.cVV rfl rfl rfl (QRo hq 2 (by decide)) (wApp hq 2 (by decide) _) (fun h hq => ?_)
  refine AX.aload_n rfl rfl ?_
  refine AX.getf rfl (Q1 hq) rfl ?_
  refine AX.iconstV (v := 0) rfl (by decide) ?_
  refine AX.cVV rfl rfl rfl (QRo hq 3 (by decide)) (wApp hq 3 (by decide) _) (fun h hq => ?_)
  refine AX.aload_n rfl rfl ?_
  refine AX.getf rfl (Q1 hq) rfl ?_
  refine AX.bipushV (v := 40) rfl (by decide) ?_
  refine AX.cVV rfl rfl rfl (QRo hq 4 (by decide)) (wApp hq 4 (by decide) _) (fun h hq => ?_)
  refine AX.aload_n rfl rfl ?_
  refine AX.getf rfl (Q1 hq) rfl ?_
  refine AX.iconstV (v := 0) rfl (by decide) ?_
  refine AX.cVV rfl rfl rfl (QRo hq 5 (by decide)) (wApp hq 5 (by decide) _) (fun h hq => ?_)
  refine AX.iload_n rfl rfl ?_
  exact AX.ireturn rfl rfl ⟨rfl, hq⟩ (Nat.le_refl _) (Nat.le_refl _)
theorem sC_partsOf (hq : isQ z T h) (c : Int32) : AM (d + 2) kC_partsOf 0 0 none [.ref 1, .int c] h (fun r h' => r = some (.int (zat z 1 c)) ∧ isQ z T h') := by
  refine AX.aload_n rfl rfl ?_
  refine AX.getf rfl (Q1 hq) rfl ?_
  refine AX.iload_n rfl rfl ?_
  refine AX.cVI rfl rfl rfl (QRo hq 1 (by decide)) (wAt hq 1 (by decide) _) (fun h hq => ?_)
  exact AX.ireturn rfl rfl ⟨rfl, hq⟩ (Nat.le_refl _) (Nat.le_refl _)
theorem sC_placeOf (hq : isQ z T h) (c : Int32) : AM (d + 2) kC_placeOf 0 0 none [.ref 1, .int c] h (fun r h' => r = some (.int (zat z 2 c)) ∧ isQ z T h') := by
  refine AX.aload_n rfl rfl ?_
  refine AX.getf rfl (Q1 hq) rfl ?_
  refine AX.iload_n rfl rfl ?_
  refine AX.cVI rfl rfl rfl (QRo hq 2 (by decide)) (wAt hq 2 (by decide) _) (fun h hq => ?_)
  exact AX.ireturn rfl rfl ⟨rfl, hq⟩ (Nat.le_refl _) (Nat.le_refl _)
theorem sC_putPlace (hq : isQ z T h) (c p : Int32) : AM (d + 2) kC_putPlace 0 0 none [.ref 1, .int c, .int p] h (fun r h' => r = none ∧ isQ (zput z 2 c p) T h') := by
  refine AX.aload_n rfl rfl ?_
  refine AX.getf rfl (Q1 hq) rfl ?_
  refine AX.iload_n rfl rfl ?_
  refine AX.iload_n rfl rfl ?_
  refine AX.cVV rfl rfl rfl (QRo hq 2 (by decide)) (wPut hq 2 (by decide) _ _) (fun h hq => ?_)
  exact AX.vreturn rfl rfl ⟨rfl, hq⟩ (Nat.le_refl _) (Nat.le_refl _)
theorem sC_reasonOf (hq : isQ z T h) (c : Int32) : AM (d + 2) kC_reasonOf 0 0 none [.ref 1, .int c] h (fun r h' => r = some (.int (zat z 3 c)) ∧ isQ z T h') := by
  refine AX.aload_n rfl rfl ?_
  refine AX.getf rfl (Q1 hq) rfl ?_
  refine AX.iload_n rfl rfl ?_
  refine AX.cVI rfl rfl rfl (QRo hq 3 (by decide)) (wAt hq 3 (by decide) _) (fun h hq => ?_)
  exact AX.ireturn rfl rfl ⟨rfl, hq⟩ (Nat.le_refl _) (Nat.le_refl _)
def zC_putOut (z : zS) (c reason : Int32) : zS := zput (zput z 2 c 3) 3 c reason
theorem sC_putOut (hq : isQ z T h) (c reason : Int32) : AM (d + 2) kC_putOut 0 0 none [.ref 1, .int c, .int reason] h (fun r h' => r = none ∧ isQ (zC_putOut z c reason) T h') := by
  refine AX.aload_n rfl rfl ?_
  refine AX.getf rfl (Q1 hq) rfl ?_
  refine AX.iload_n rfl rfl ?_
  refine AX.iconstV (v := 3) rfl (by decide) ?_
  refine AX.cVV rfl rfl rfl (QRo hq 2 (by decide)) (wPut hq 2 (by decide) _ _) (fun h hq => ?_)
  refine AX.aload_n rfl rfl ?_
  refine AX.getf rfl (Q1 hq) rfl ?_
  refine AX.iload_n rfl rfl ?_
  refine AX.iload_n rfl rfl ?_
  refine AX.cVV rfl rfl rfl (QRo hq 3 (by decide)) (wPut hq 3 (by decide) _ _) (fun h hq => ?_)
  exact AX.vreturn rfl rfl ⟨rfl, hq⟩ (Nat.le_refl _) (Nat.le_refl _)
theorem sC_treeSizeOf (hq : isQ z T h) (c : Int32) : AM (d + 2) kC_treeSizeOf 0 0 none [.ref 1, .int c] h (fun r h' => r = some (.int (zat z 5 c)) ∧ isQ z T h') := by
  refine AX.aload_n rfl rfl ?_
  refine AX.getf rfl (Q1 hq) rfl ?_
  refine AX.iload_n rfl rfl ?_
  refine AX.cVI rfl rfl rfl (QRo hq 5 (by decide)) (wAt hq 5 (by decide) _) (fun h hq => ?_)
  exact AX.ireturn rfl rfl ⟨rfl, hq⟩ (Nat.le_refl _) (Nat.le_refl _)
theorem sC_putTreeSize (hq : isQ z T h) (c p : Int32) : AM (d + 2) kC_putTreeSize 0 0 none [.ref 1, .int c, .int p] h (fun r h' => r = none ∧ isQ (zput z 5 c p) T h') := by
  refine AX.aload_n rfl rfl ?_
  refine AX.getf rfl (Q1 hq) rfl ?_
  refine AX.iload_n rfl rfl ?_
  refine AX.iload_n rfl rfl ?_
  refine AX.cVV rfl rfl rfl (QRo hq 5 (by decide)) (wPut hq 5 (by decide) _ _) (fun h hq => ?_)
  exact AX.vreturn rfl rfl ⟨rfl, hq⟩ (Nat.le_refl _) (Nat.le_refl _)
def zC_hasJumped (z : zS) (c : Int32) : Bool := !decide (zat z 4 c = 40)
theorem sC_hasJumped (hq : isQ z T h) (c : Int32) : AM (d + 2) kC_hasJumped 0 0 none [.ref 1, .int c] h (fun r h' => r = some (.int (bI (zC_hasJumped z c))) ∧ isQ z T h') := by
  refine AX.aload_n rfl rfl ?_
  refine AX.getf rfl (Q1 hq) rfl ?_
  refine AX.iload_n rfl rfl ?_
  refine AX.cVI rfl rfl rfl (QRo hq 4 (by decide)) (wAt hq 4 (by decide) _) (fun h hq => ?_)
  refine AX.bipushV (v := 40) rfl (by decide) ?_
  refine AX.icmp_eq rfl (fun c1 => ?_) (fun c1 => ?_)
  · refine AX.iconstV (v := 0) rfl (by decide) ?_
    exact AX.zreturn rfl rfl (by decide) ⟨by simp [zC_hasJumped, c1, bI], hq⟩ (Nat.le_refl _) (Nat.le_refl _)
  · refine AX.iconstV (v := 1) rfl (by decide) ?_
    refine AX.goto rfl ?_
    exact AX.zreturn rfl rfl (by decide) ⟨by simp [zC_hasJumped, c1, bI], hq⟩ (Nat.le_refl _) (Nat.le_refl _)
def zC_giveTurn (z : zS) (c : Int32) : zS := zset (zput z 4 c (z.1 6)) 6 (z.1 6 + 1)
theorem sC_giveTurn (hq : isQ z T h) (c : Int32) : AM (d + 2) kC_giveTurn 0 0 none [.ref 1, .int c] h (fun r h' => r = none ∧ isQ (zC_giveTurn z c) T h') := by
  refine AX.aload_n rfl rfl ?_
  refine AX.getf rfl (Q1 hq) rfl ?_
  refine AX.iload_n rfl rfl ?_
  refine AX.aload_n rfl rfl ?_
  refine AX.getf rfl (Q1 hq) rfl ?_
  refine AX.cVV rfl rfl rfl (QRo hq 4 (by decide)) (wPut hq 4 (by decide) _ _) (fun h hq => ?_)
  refine AX.aload_n rfl rfl ?_
  refine AX.dup rfl rfl ?_
  refine AX.getf rfl (Q1 hq) rfl ?_
  refine AX.iconstV (v := 1) rfl (by decide) ?_
  refine AX.iadd rfl ?_
  refine AX.putf rfl (Q1 hq) (Nat.le_of_ble_eq_true rfl) rfl ?_
  refine AX.gen (G := isQ _ T) (QS6 hq _) (fun h hq => ?_)
  exact AX.vreturn rfl rfl ⟨rfl, hq⟩ (Nat.le_refl _) (Nat.le_refl _)
def zC_isInFront (z : zS) (a b : Int32) : Bool := if zat z 4 a = zat z 4 b then (if zat z 0 a = zat z 0 b then !decide (b ≤ a) else !decide (zat z 0 a ≤ zat z 0 b)) else !decide (zat z 4 b ≤ zat z 4 a)
theorem sC_isInFront (hq : isQ z T h) (a b : Int32) : AM (d + 2) kC_isInFront 0 0 none [.ref 1, .int a, .int b] h (fun r h' => r = some (.int (bI (zC_isInFront z a b))) ∧ isQ z T h') := by
  refine AX.aload_n rfl rfl ?_
  refine AX.getf rfl (Q1 hq) rfl ?_
  refine AX.iload_n rfl rfl ?_
  refine AX.cVI rfl rfl rfl (QRo hq 4 (by decide)) (wAt hq 4 (by decide) _) (fun h hq => ?_)
  refine AX.aload_n rfl rfl ?_
  refine AX.getf rfl (Q1 hq) rfl ?_
  refine AX.iload_n rfl rfl ?_
  refine AX.cVI rfl rfl rfl (QRo hq 4 (by decide)) (wAt hq 4 (by decide) _) (fun h hq => ?_)
  refine AX.icmp_eq rfl (fun c1 => ?_) (fun c1 => ?_)
  · refine AX.aload_n rfl rfl ?_
    refine AX.getf rfl (Q1 hq) rfl ?_
    refine AX.iload_n rfl rfl ?_
    refine AX.cVI rfl rfl rfl (QRo hq 0 (by decide)) (wAt hq 0 (by decide) _) (fun h hq => ?_)
    refine AX.aload_n rfl rfl ?_
    refine AX.getf rfl (Q1 hq) rfl ?_
    refine AX.iload_n rfl rfl ?_
    refine AX.cVI rfl rfl rfl (QRo hq 0 (by decide)) (wAt hq 0 (by decide) _) (fun h hq => ?_)
    refine AX.icmp_eq rfl (fun c2 => ?_) (fun c2 => ?_)
    · refine AX.iload_n rfl rfl ?_
      refine AX.iload_n rfl rfl ?_
      refine AX.icmp_ge rfl (fun c3 => ?_) (fun c3 => ?_)
      · refine AX.iconstV (v := 0) rfl (by decide) ?_
        exact AX.zreturn rfl rfl (by decide) ⟨by simp [zC_isInFront, c1, c2, c3, bI], hq⟩ (Nat.le_refl _) (Nat.le_refl _)
      · refine AX.iconstV (v := 1) rfl (by decide) ?_
        refine AX.goto rfl ?_
        exact AX.zreturn rfl rfl (by decide) ⟨by simp [zC_isInFront, c1, c2, c3, bI], hq⟩ (Nat.le_refl _) (Nat.le_refl _)
    · refine AX.aload_n rfl rfl ?_
      refine AX.getf rfl (Q1 hq) rfl ?_
      refine AX.iload_n rfl rfl ?_
      refine AX.cVI rfl rfl rfl (QRo hq 0 (by decide)) (wAt hq 0 (by decide) _) (fun h hq => ?_)
      refine AX.aload_n rfl rfl ?_
      refine AX.getf rfl (Q1 hq) rfl ?_
      refine AX.iload_n rfl rfl ?_
      refine AX.cVI rfl rfl rfl (QRo hq 0 (by decide)) (wAt hq 0 (by decide) _) (fun h hq => ?_)
      refine AX.icmp_le rfl (fun c3 => ?_) (fun c3 => ?_)
      · refine AX.iconstV (v := 0) rfl (by decide) ?_
        exact AX.zreturn rfl rfl (by decide) ⟨by simp [zC_isInFront, c1, c2, c3, bI], hq⟩ (Nat.le_refl _) (Nat.le_refl _)
      · refine AX.iconstV (v := 1) rfl (by decide) ?_
        refine AX.goto rfl ?_
        exact AX.zreturn rfl rfl (by decide) ⟨by simp [zC_isInFront, c1, c2, c3, bI], hq⟩ (Nat.le_refl _) (Nat.le_refl _)
  · refine AX.aload_n rfl rfl ?_
    refine AX.getf rfl (Q1 hq) rfl ?_
    refine AX.iload_n rfl rfl ?_
    refine AX.cVI rfl rfl rfl (QRo hq 4 (by decide)) (wAt hq 4 (by decide) _) (fun h hq => ?_)
    refine AX.aload_n rfl rfl ?_
    refine AX.getf rfl (Q1 hq) rfl ?_
    refine AX.iload_n rfl rfl ?_
    refine AX.cVI rfl rfl rfl (QRo hq 4 (by decide)) (wAt hq 4 (by decide) _) (fun h hq => ?_)
    refine AX.icmp_ge rfl (fun c2 => ?_) (fun c2 => ?_)
    · refine AX.iconstV (v := 0) rfl (by decide) ?_
      exact AX.zreturn rfl rfl (by decide) ⟨by simp [zC_isInFront, c1, c2, bI], hq⟩ (Nat.le_refl _) (Nat.le_refl _)
    · refine AX.iconstV (v := 1) rfl (by decide) ?_
      refine AX.goto rfl ?_
      exact AX.zreturn rfl rfl (by decide) ⟨by simp [zC_isInFront, c1, c2, bI], hq⟩ (Nat.le_refl _) (Nat.le_refl _)
def zNum (c : Int32) : Bool := !decide (c < 0) && !decide ((40 : Int32) ≤ c)
theorem sC_isNumber (hq : isQ z T h) (c : Int32) : AM d kC_isNumber 0 0 none [.ref 1, .int c] h (fun r h' => r = some (.int (bI (zNum c))) ∧ isQ z T h') := by
  refine AX.iload_n rfl rfl ?_
  refine AX.if_lt rfl (fun c1 => ?_) (fun c1 => ?_)
  · refine AX.iconstV (v := 0) rfl (by decide) ?_
    exact AX.zreturn rfl rfl (by decide) ⟨by simp [zNum, c1, bI], hq⟩ (Nat.le_refl _) (Nat.le_refl _)
  · refine AX.iload_n rfl rfl ?_
    refine AX.aload_n rfl rfl ?_
    refine AX.getf rfl (Q1 hq) rfl ?_
    refine AX.alenV (v := 40) rfl (Q14 hq) (by decide) rfl ?_
    refine AX.icmp_ge rfl (fun c2 => ?_) (fun c2 => ?_)
    · refine AX.iconstV (v := 0) rfl (by decide) ?_
      exact AX.zreturn rfl rfl (by decide) ⟨by simp [zNum, c1, c2, bI], hq⟩ (Nat.le_refl _) (Nat.le_refl _)
    · refine AX.iconstV (v := 1) rfl (by decide) ?_
      refine AX.goto rfl ?_
      exact AX.zreturn rfl rfl (by decide) ⟨by simp [zNum, c1, c2, bI], hq⟩ (Nat.le_refl _) (Nat.le_refl _)
theorem zNum_in {c : Int32} (h : zNum c = true) : vp_in c 40 := by
  simp only [zNum, Bool.and_eq_true, Bool.not_eq_true', decide_eq_false_iff_not] at h
  obtain ⟨j, h1, h2, h3⟩ := i_pos h.1
  rw [h2]
  refine vp_in_nI ?_ (by decide)
  have h4 := h.2
  rw [h2, show (40 : Int32) = nI 40 from rfl, nI_leI (by decide) h1] at h4
  omega
def zBit (f : Nat → Int64) (a b : Int32) : Int64 := f a.toNatClampNeg &&& ((1 : Int64) <<< (b.toInt64 &&& 63))
def zConf (z : zS) (a b : Int32) : Bool := zNum a && (zNum b && !decide (lg_cmp (zBit z.2.2 a b) 0 = 0))
theorem sC_areInConflict (hq : isQ z T h) (a b : Int32) : AM (d + 1) kC_areInConflict 0 0 none [.ref 1, .int a, .int b] h (fun r h' => r = some (.int (bI (zConf z a b))) ∧ isQ z T h') := by
  refine AX.aload_n rfl rfl ?_
  refine AX.iload_n rfl rfl ?_
  refine AX.cVI rfl rfl rfl (Q1 hq) (sC_isNumber hq _) (fun h hq => ?_)
  refine AX.if_eqB rfl (fun c1 => ?_) (fun c1 => ?_)
  · refine AX.iconstV (v := 0) rfl (by decide) ?_
    exact AX.zreturn rfl rfl (by decide) ⟨by simp [zConf, zBit, c1, bI], hq⟩ (Nat.le_refl _) (Nat.le_refl _)
  · refine AX.aload_n rfl rfl ?_
    refine AX.iload_n rfl rfl ?_
    refine AX.cVI rfl rfl rfl (Q1 hq) (sC_isNumber hq _) (fun h hq => ?_)
    refine AX.if_eqB rfl (fun c2 => ?_) (fun c2 => ?_)
    · refine AX.iconstV (v := 0) rfl (by decide) ?_
      exact AX.zreturn rfl rfl (by decide) ⟨by simp [zConf, zBit, c1, c2, bI], hq⟩ (Nat.le_refl _) (Nat.le_refl _)
    · refine AX.aload_n rfl rfl ?_
      refine AX.getf rfl (Q1 hq) rfl ?_
      refine AX.iload_n rfl rfl ?_
      refine AX.lald rfl (Q14 hq) (zNum_in c1) ?_
      refine AX.lconstV (v := 1) rfl (by decide) ?_
      refine AX.iload_n rfl rfl ?_
      refine AX.lshl rfl ?_
      refine AX.land rfl ?_
      refine AX.lconstV (v := 0) rfl (by decide) ?_
      refine AX.lcmp rfl ?_
      refine AX.if_eq rfl (fun c3 => ?_) (fun c3 => ?_)
      · refine AX.iconstV (v := 0) rfl (by decide) ?_
        exact AX.zreturn rfl rfl (by decide) ⟨by simp [zConf, zBit, c1, c2, c3, bI], hq⟩ (Nat.le_refl _) (Nat.le_refl _)
      · refine AX.iconstV (v := 1) rfl (by decide) ?_
        refine AX.goto rfl ?_
        exact AX.zreturn rfl rfl (by decide) ⟨by simp [zConf, zBit, c1, c2, c3, bI], hq⟩ (Nat.le_refl _) (Nat.le_refl _)
def zC_on (f : Nat → Int64) (a b : Int32) : Nat → Int64 := vp_updL f a.toNatClampNeg (f a.toNatClampNeg ||| ((1 : Int64) <<< (b.toInt64 &&& 63)))
def zC_put (z : zS) (a b : Int32) : zS := if zNum a = true ∧ zNum b = true then (z.1, z.2.1, zC_on (zC_on z.2.2 a b) b a) else z
theorem sC_putInConflict (hq : isQ z T h) (a b : Int32) : AM (d + 1) kC_putInConflict 0 0 none [.ref 1, .int a, .int b] h (fun r h' => r = none ∧ isQ (zC_put z a b) T h') := by
  refine AX.aload_n rfl rfl ?_
  refine AX.iload_n rfl rfl ?_
  refine AX.cVI rfl rfl rfl (Q1 hq) (sC_isNumber hq _) (fun h hq => ?_)
  refine AX.if_eqB rfl (fun c1 => ?_) (fun c1 => ?_)
  · exact AX.vreturn rfl rfl ⟨rfl, by simpa [zC_put, zC_on, c1] using hq⟩ (Nat.le_refl _) (Nat.le_refl _)
  · refine AX.aload_n rfl rfl ?_
    refine AX.iload_n rfl rfl ?_
    refine AX.cVI rfl rfl rfl (Q1 hq) (sC_isNumber hq _) (fun h hq => ?_)
    refine AX.if_eqB rfl (fun c2 => ?_) (fun c2 => ?_)
    · exact AX.vreturn rfl rfl ⟨rfl, by simpa [zC_put, zC_on, c1, c2] using hq⟩ (Nat.le_refl _) (Nat.le_refl _)
    · refine AX.aload_n rfl rfl ?_
      refine AX.getf rfl (Q1 hq) rfl ?_
      refine AX.iload_n rfl rfl ?_
      refine AX.dup2 rfl rfl rfl ?_
      refine AX.lald rfl (Q14 hq) (zNum_in c1) ?_
      refine AX.lconstV (v := 1) rfl (by decide) ?_
      refine AX.iload_n rfl rfl ?_
      refine AX.lshl rfl ?_
      refine AX.lor rfl ?_
      refine AX.last rfl (Q14 hq) (zNum_in c1) ?_
      refine AX.gen (G := isQ _ T) (QC hq _) (fun h hq => ?_)
      refine AX.aload_n rfl rfl ?_
      refine AX.getf rfl (Q1 hq) rfl ?_
      refine AX.iload_n rfl rfl ?_
      refine AX.dup2 rfl rfl rfl ?_
      refine AX.lald rfl (Q14 hq) (zNum_in c2) ?_
      refine AX.lconstV (v := 1) rfl (by decide) ?_
      refine AX.iload_n rfl rfl ?_
      refine AX.lshl rfl ?_
      refine AX.lor rfl ?_
      refine AX.last rfl (Q14 hq) (zNum_in c2) ?_
      refine AX.gen (G := isQ _ T) (QC hq _) (fun h hq => ?_)
      exact AX.vreturn rfl rfl ⟨rfl, by simpa [zC_put, zC_on, c1, c2] using hq⟩ (Nat.le_refl _) (Nat.le_refl _)
end CH
end
section
theorem QL {z : zS} {T h : ax_H} (hq : isQ z T h) (r : Nat) (hr : r < 12) : (z.2.1 r).length ≤ 40 := (QR hq r hr).choose_spec.2.2.1.1
theorem rPut_len (xs : List Int32) (k v : Int32) : (rPut xs k v).length = xs.length := by
  unfold rPut
  by_cases h : rHas xs k = true
  · rw [if_pos h, List.length_set]
  · rw [if_neg h]
theorem zrow_same (z : zS) (r : Nat) (xs : List Int32) : (zrow z r xs).2.1 r = xs := by simp [zrow, va_up]
theorem zrow_ne {z : zS} {r q : Nat} {xs : List Int32} (h : q ≠ r) : (zrow z r xs).2.1 q = z.2.1 q := by simp [zrow, va_up, h]
theorem zput_len (z : zS) (r q : Nat) (k v : Int32) : ((zput z r k v).2.1 q).length = (z.2.1 q).length := by
  unfold zput
  by_cases h : q = r
  · subst h; rw [zrow_same, rPut_len]
  · rw [zrow_ne h]
section GR
variable {z : zS} {T h : ax_H} {d : Nat}
theorem sG_count (hq : isQ z T h) : AM (d + 1) kG_count 0 0 none [.ref 19] h (fun r h' => r = some (.int (nI (z.2.1 10).length)) ∧ isQ z T h') := by
  refine AX.aload_n rfl rfl ?_
  refine AX.getf rfl (Q19 hq) rfl ?_
  refine AX.cVI rfl rfl rfl (QRo hq 10 (by decide)) (wCount hq 10 (by decide)) (fun h hq => ?_)
  exact AX.ireturn rfl rfl ⟨rfl, hq⟩ (Nat.le_refl _) (Nat.le_refl _)
theorem sG_lineLength (hq : isQ z T h) : AM (d + 1) kG_lineLength 0 0 none [.ref 19] h (fun r h' => r = some (.int (nI (z.2.1 8).length)) ∧ isQ z T h') := by
  refine AX.aload_n rfl rfl ?_
  refine AX.getf rfl (Q19 hq) rfl ?_
  refine AX.cVI rfl rfl rfl (QRo hq 8 (by decide)) (wCount hq 8 (by decide)) (fun h hq => ?_)
  exact AX.ireturn rfl rfl ⟨rfl, hq⟩ (Nat.le_refl _) (Nat.le_refl _)
theorem sG_inLine (hq : isQ z T h) (k : Int32) : AM (d + 2) kG_inLine 0 0 none [.ref 19, .int k] h (fun r h' => r = some (.int (zat z 8 k)) ∧ isQ z T h') := by
  refine AX.aload_n rfl rfl ?_
  refine AX.getf rfl (Q19 hq) rfl ?_
  refine AX.iload_n rfl rfl ?_
  refine AX.cVI rfl rfl rfl (QRo hq 8 (by decide)) (wAt hq 8 (by decide) _) (fun h hq => ?_)
  exact AX.ireturn rfl rfl ⟨rfl, hq⟩ (Nat.le_refl _) (Nat.le_refl _)
theorem sG_stateOf (hq : isQ z T h) (k : Int32) : AM (d + 2) kG_stateOf 0 0 none [.ref 19, .int k] h (fun r h' => r = some (.int (zat z 10 k)) ∧ isQ z T h') := by
  refine AX.aload_n rfl rfl ?_
  refine AX.getf rfl (Q19 hq) rfl ?_
  refine AX.iload_n rfl rfl ?_
  refine AX.cVI rfl rfl rfl (QRo hq 10 (by decide)) (wAt hq 10 (by decide) _) (fun h hq => ?_)
  exact AX.ireturn rfl rfl ⟨rfl, hq⟩ (Nat.le_refl _) (Nat.le_refl _)
theorem sG_putState (hq : isQ z T h) (k v : Int32) : AM (d + 2) kG_putState 0 0 none [.ref 19, .int k, .int v] h (fun r h' => r = none ∧ isQ (zput z 10 k v) T h') := by
  refine AX.aload_n rfl rfl ?_
  refine AX.getf rfl (Q19 hq) rfl ?_
  refine AX.iload_n rfl rfl ?_
  refine AX.iload_n rfl rfl ?_
  refine AX.cVV rfl rfl rfl (QRo hq 10 (by decide)) (wPut hq 10 (by decide) _ _) (fun h hq => ?_)
  exact AX.vreturn rfl rfl ⟨rfl, hq⟩ (Nat.le_refl _) (Nat.le_refl _)
theorem sG_sizeOf (hq : isQ z T h) (k : Int32) : AM (d + 2) kG_sizeOf 0 0 none [.ref 19, .int k] h (fun r h' => r = some (.int (zat z 9 k)) ∧ isQ z T h') := by
  refine AX.aload_n rfl rfl ?_
  refine AX.getf rfl (Q19 hq) rfl ?_
  refine AX.iload_n rfl rfl ?_
  refine AX.cVI rfl rfl rfl (QRo hq 9 (by decide)) (wAt hq 9 (by decide) _) (fun h hq => ?_)
  exact AX.ireturn rfl rfl ⟨rfl, hq⟩ (Nat.le_refl _) (Nat.le_refl _)
theorem sG_failuresOf (hq : isQ z T h) (k : Int32) : AM (d + 2) kG_failuresOf 0 0 none [.ref 19, .int k] h (fun r h' => r = some (.int (zat z 11 k)) ∧ isQ z T h') := by
  refine AX.aload_n rfl rfl ?_
  refine AX.getf rfl (Q19 hq) rfl ?_
  refine AX.iload_n rfl rfl ?_
  refine AX.cVI rfl rfl rfl (QRo hq 11 (by decide)) (wAt hq 11 (by decide) _) (fun h hq => ?_)
  exact AX.ireturn rfl rfl ⟨rfl, hq⟩ (Nat.le_refl _) (Nat.le_refl _)
def zBase (z : zS) : Nat → Nat → Int32 → Int32
  | 0, _, acc => acc
  | n + 1, m, acc => zBase z n (m + 1) (acc + zat z 9 (nI m))
def zG_base (z : zS) (g : Int32) : Int32 := if rHas (z.2.1 10) g = true then zBase z g.toNatClampNeg 0 0 else -1
theorem sG_baseOf_l : ∀ (n m : Nat) (acc : Int32) (h : ax_H), isQ z T h → m + n < 2 ^ 31 → AX (d + 2) kG_baseOf 0 0 none 17 [(3, .int (nI m)), (2, .int acc), (0, .ref 19), (1, .int (nI (m + n)))] [] h 0 0 (ax_ret kG_baseOf 0 0 (fun r h' => r = some (.int (zBase z n m acc)) ∧ isQ z T h')) := by
  intro n
  induction n with
  | zero =>
    intro m acc h hq hb
    refine AX.iload_n rfl rfl ?_
    refine AX.iload_n rfl rfl ?_
    refine AX.icmp_ge rfl (fun c1 => ?_) (fun c1 => ?_)
    · refine AX.iload_n rfl rfl ?_
      exact AX.ireturn rfl rfl ⟨rfl, hq⟩ (Nat.le_refl _) (Nat.le_refl _)
    · exact absurd (nI_le (Nat.le_refl _) (by omega)) c1
  | succ n ih =>
    intro m acc h hq hb
    refine AX.iload_n rfl rfl ?_
    refine AX.iload_n rfl rfl ?_
    refine AX.icmp_ge rfl (fun c1 => ?_) (fun c1 => ?_)
    · exact absurd c1 (nI_ge (by omega) (by omega))
    · refine AX.iload_n rfl rfl ?_
      refine AX.aload_n rfl rfl ?_
      refine AX.getf rfl (Q19 hq) rfl ?_
      refine AX.iload_n rfl rfl ?_
      refine AX.cVI rfl rfl rfl (QRo hq 9 (by decide)) (wAt hq 9 (by decide) _) (fun h hq => ?_)
      refine AX.iadd rfl ?_
      refine AX.istore_n rfl (by decide) ?_
      refine AX.iincV (dn := 1) rfl rfl (by decide) (by decide) ?_
      refine AX.goto rfl ?_
      rw [nI_1, show m + (n + 1) = (m + 1) + n by omega]
      exact ih (m + 1) _ h hq (by omega)
theorem sG_baseOf (hq : isQ z T h) (g : Int32) : AM (d + 2) kG_baseOf 0 0 none [.ref 19, .int g] h (fun r h' => r = some (.int (zG_base z g)) ∧ isQ z T h') := by
  refine AX.aload_n rfl rfl ?_
  refine AX.getf rfl (Q19 hq) rfl ?_
  refine AX.iload_n rfl rfl ?_
  refine AX.cVI rfl rfl rfl (QRo hq 10 (by decide)) (wHas hq 10 (by decide) _) (fun h hq => ?_)
  refine AX.if_neB rfl (fun c1 => ?_) (fun c1 => ?_)
  · refine AX.iconstV (v := 0) rfl (by decide) ?_
    refine AX.istore_n rfl (by decide) ?_
    refine AX.iconstV (v := 0) rfl (by decide) ?_
    refine AX.istore_n rfl (by decide) ?_
    obtain ⟨j, j1, j2, j3, -⟩ := rHas_t c1 (QL hq 10 (by decide))
    have hl := QL hq 10 (by decide)
    rw [show zG_base z g = zBase z j 0 0 by rw [zG_base, if_pos c1, j3], j2]
    have := sG_baseOf_l (d := d) (z := z) (T := T) j 0 0 h hq (by omega)
    rw [Nat.zero_add] at this
    exact this
  · refine AX.iconstV (v := (-1)) rfl (by decide) ?_
    exact AX.ireturn rfl rfl ⟨by simp [zG_base, c1], hq⟩ (Nat.le_refl _) (Nat.le_refl _)
def zG_member (z : zS) (g k : Int32) : Int32 := if k < 0 then -1 else if zat z 9 g ≤ k then -1 else zat z 8 (zG_base z g + k)
theorem sG_memberAt (hq : isQ z T h) (g k : Int32) : AM (d + 3) kG_memberAt 0 0 none [.ref 19, .int g, .int k] h (fun r h' => r = some (.int (zG_member z g k)) ∧ isQ z T h') := by
  refine AX.iload_n rfl rfl ?_
  refine AX.if_lt rfl (fun c1 => ?_) (fun c1 => ?_)
  · refine AX.iconstV (v := (-1)) rfl (by decide) ?_
    exact AX.ireturn rfl rfl ⟨by simp [zG_member, c1], hq⟩ (Nat.le_refl _) (Nat.le_refl _)
  · refine AX.iload_n rfl rfl ?_
    refine AX.aload_n rfl rfl ?_
    refine AX.getf rfl (Q19 hq) rfl ?_
    refine AX.iload_n rfl rfl ?_
    refine AX.cVI rfl rfl rfl (QRo hq 9 (by decide)) (wAt hq 9 (by decide) _) (fun h hq => ?_)
    refine AX.icmp_ge rfl (fun c2 => ?_) (fun c2 => ?_)
    · refine AX.iconstV (v := (-1)) rfl (by decide) ?_
      exact AX.ireturn rfl rfl ⟨by simp [zG_member, c1, c2], hq⟩ (Nat.le_refl _) (Nat.le_refl _)
    · refine AX.aload_n rfl rfl ?_
      refine AX.getf rfl (Q19 hq) rfl ?_
      refine AX.aload_n rfl rfl ?_
      refine AX.iload_n rfl rfl ?_
      refine AX.cVI rfl rfl rfl (Q19 hq) (sG_baseOf hq _) (fun h hq => ?_)
      refine AX.iload_n rfl rfl ?_
      refine AX.iadd rfl ?_
      refine AX.cVI rfl rfl rfl (QRo hq 8 (by decide)) (wAt hq 8 (by decide) _) (fun h hq => ?_)
      refine AX.goto rfl ?_
      exact AX.ireturn rfl rfl ⟨by simp [zG_member, c1, c2], hq⟩ (Nat.le_refl _) (Nat.le_refl _)
theorem sG_countAskedInVain (hq : isQ z T h) : AM d kG_countAskedInVain 0 0 none [.ref 19] h (fun r h' => r = some (.int (z.1 7)) ∧ isQ z T h') := by
  refine AX.aload_n rfl rfl ?_
  refine AX.getf rfl (Q19 hq) rfl ?_
  exact AX.ireturn rfl rfl ⟨rfl, hq⟩ (Nat.le_refl _) (Nat.le_refl _)
def zAsked (z : zS) : Nat → Nat → Int32 → Int32
  | 0, _, acc => acc
  | n + 1, m, acc => zAsked z n (m + 1) (if zat z 10 (nI m) = 1 then acc + 1 else acc)
theorem sG_countAsked_l : ∀ (n m : Nat) (acc : Int32) (h : ax_H), isQ z T h → (z.2.1 10).length = m + n → AX (d + 2) kG_countAsked 0 0 none 4 [(2, .int (nI m)), (1, .int acc), (0, .ref 19)] [] h 0 0 (ax_ret kG_countAsked 0 0 (fun r h' => r = some (.int (zAsked z n m acc)) ∧ isQ z T h')) := by
  intro n
  induction n with
  | zero =>
    intro m acc h hq hb
    have hl := QL hq 10 (by decide)
    refine AX.iload_n rfl rfl ?_
    refine AX.aload_n rfl rfl ?_
    refine AX.cVI rfl rfl rfl (Q19 hq) (sG_count hq) (fun h hq => ?_)
    refine AX.icmp_ge rfl (fun c1 => ?_) (fun c1 => ?_)
    · refine AX.iload_n rfl rfl ?_
      exact AX.ireturn rfl rfl ⟨rfl, hq⟩ (Nat.le_refl _) (Nat.le_refl _)
    · exact absurd (nI_le (by omega) (by omega)) c1
  | succ n ih =>
    intro m acc h hq hb
    have hl := QL hq 10 (by decide)
    refine AX.iload_n rfl rfl ?_
    refine AX.aload_n rfl rfl ?_
    refine AX.cVI rfl rfl rfl (Q19 hq) (sG_count hq) (fun h hq => ?_)
    refine AX.icmp_ge rfl (fun c1 => ?_) (fun c1 => ?_)
    · exact absurd c1 (nI_ge (by omega) (by omega))
    · refine AX.aload_n rfl rfl ?_
      refine AX.getf rfl (Q19 hq) rfl ?_
      refine AX.iload_n rfl rfl ?_
      refine AX.cVI rfl rfl rfl (QRo hq 10 (by decide)) (wAt hq 10 (by decide) _) (fun h hq => ?_)
      refine AX.iconstV (v := 1) rfl (by decide) ?_
      refine AX.icmp_ne rfl (fun c2 => ?_) (fun c2 => ?_)
      · refine AX.iincV (dn := 1) rfl rfl (by decide) (by decide) ?_
        refine AX.goto rfl ?_
        rw [nI_1]
        simp only [zAsked, c1, c2, if_true, if_false]
        exact ih (m + 1) _ h hq (by omega)
      · refine AX.iincV (dn := 1) rfl rfl (by decide) (by decide) ?_
        refine AX.iincV (dn := 1) rfl rfl (by decide) (by decide) ?_
        refine AX.goto rfl ?_
        rw [nI_1]
        simp only [zAsked, c1, c2, if_true, if_false]
        exact ih (m + 1) _ h hq (by omega)
def zG_asked (z : zS) : Int32 := zAsked z (z.2.1 10).length 0 0
theorem sG_countAsked (hq : isQ z T h) : AM (d + 2) kG_countAsked 0 0 none [.ref 19] h (fun r h' => r = some (.int (zG_asked z)) ∧ isQ z T h') := by
  refine AX.iconstV (v := 0) rfl (by decide) ?_
  refine AX.istore_n rfl (by decide) ?_
  refine AX.iconstV (v := 0) rfl (by decide) ?_
  refine AX.istore_n rfl (by decide) ?_
  exact sG_countAsked_l _ 0 0 h hq (by omega)
def zNext (z : zS) : Nat → Nat → Int32
  | 0, _ => -1
  | n + 1, m => if zat z 10 (nI m) = 0 then nI m else if zat z 10 (nI m) = 2 then -1 else zNext z n (m + 1)
theorem sG_nextToAsk_l : ∀ (n m : Nat) (h : ax_H), isQ z T h → (z.2.1 10).length = m + n → AX (d + 2) kG_nextToAsk 0 0 none 2 [(1, .int (nI m)), (0, .ref 19)] [] h 0 0 (ax_ret kG_nextToAsk 0 0 (fun r h' => r = some (.int (zNext z n m)) ∧ isQ z T h')) := by
  intro n
  induction n with
  | zero =>
    intro m h hq hb
    have hl := QL hq 10 (by decide)
    refine AX.iload_n rfl rfl ?_
    refine AX.aload_n rfl rfl ?_
    refine AX.cVI rfl rfl rfl (Q19 hq) (sG_count hq) (fun h hq => ?_)
    refine AX.icmp_ge rfl (fun c1 => ?_) (fun c1 => ?_)
    · refine AX.iconstV (v := (-1)) rfl (by decide) ?_
      exact AX.ireturn rfl rfl ⟨rfl, hq⟩ (Nat.le_refl _) (Nat.le_refl _)
    · exact absurd (nI_le (by omega) (by omega)) c1
  | succ n ih =>
    intro m h hq hb
    have hl := QL hq 10 (by decide)
    refine AX.iload_n rfl rfl ?_
    refine AX.aload_n rfl rfl ?_
    refine AX.cVI rfl rfl rfl (Q19 hq) (sG_count hq) (fun h hq => ?_)
    refine AX.icmp_ge rfl (fun c1 => ?_) (fun c1 => ?_)
    · exact absurd c1 (nI_ge (by omega) (by omega))
    · refine AX.aload_n rfl rfl ?_
      refine AX.getf rfl (Q19 hq) rfl ?_
      refine AX.iload_n rfl rfl ?_
      refine AX.cVI rfl rfl rfl (QRo hq 10 (by decide)) (wAt hq 10 (by decide) _) (fun h hq => ?_)
      refine AX.if_ne rfl (fun c2 => ?_) (fun c2 => ?_)
      · refine AX.aload_n rfl rfl ?_
        refine AX.getf rfl (Q19 hq) rfl ?_
        refine AX.iload_n rfl rfl ?_
        refine AX.cVI rfl rfl rfl (QRo hq 10 (by decide)) (wAt hq 10 (by decide) _) (fun h hq => ?_)
        refine AX.iconstV (v := 2) rfl (by decide) ?_
        refine AX.icmp_ne rfl (fun c3 => ?_) (fun c3 => ?_)
        · refine AX.iincV (dn := 1) rfl rfl (by decide) (by decide) ?_
          refine AX.goto rfl ?_
          rw [nI_1]
          simp only [zNext, c1, c2, c3, if_true, if_false]
          exact ih (m + 1) h hq (by omega)
        · refine AX.iconstV (v := (-1)) rfl (by decide) ?_
          exact AX.ireturn rfl rfl ⟨by simp [zNext, c1, c2, c3], hq⟩ (Nat.le_refl _) (Nat.le_refl _)
      · refine AX.iload_n rfl rfl ?_
        exact AX.ireturn rfl rfl ⟨by simp [zNext, c1, c2], hq⟩ (Nat.le_refl _) (Nat.le_refl _)
def zG_next (z : zS) : Int32 := zNext z (z.2.1 10).length 0
theorem sG_nextToAsk (hq : isQ z T h) : AM (d + 2) kG_nextToAsk 0 0 none [.ref 19] h (fun r h' => r = some (.int (zG_next z)) ∧ isQ z T h') := by
  refine AX.iconstV (v := 0) rfl (by decide) ?_
  refine AX.istore_n rfl (by decide) ?_
  exact sG_nextToAsk_l _ 0 h hq (by omega)
def zG_addF (z : zS) (g a : Int32) : zS := if zat (zput z 11 g (zat z 11 g + 1)) 11 g < a then zput z 11 g (zat z 11 g + 1) else zput (zput z 11 g (zat z 11 g + 1)) 10 g 2
theorem sG_addFailure (hq : isQ z T h) (g a : Int32) : AM (d + 2) kG_addFailure 0 0 none [.ref 19, .int g, .int a] h (fun r h' => r = none ∧ isQ (zG_addF z g a) T h') := by
  refine AX.aload_n rfl rfl ?_
  refine AX.getf rfl (Q19 hq) rfl ?_
  refine AX.iload_n rfl rfl ?_
  refine AX.aload_n rfl rfl ?_
  refine AX.getf rfl (Q19 hq) rfl ?_
  refine AX.iload_n rfl rfl ?_
  refine AX.cVI rfl rfl rfl (QRo hq 11 (by decide)) (wAt hq 11 (by decide) _) (fun h hq => ?_)
  refine AX.iconstV (v := 1) rfl (by decide) ?_
  refine AX.iadd rfl ?_
  refine AX.cVV rfl rfl rfl (QRo hq 11 (by decide)) (wPut hq 11 (by decide) _ _) (fun h hq => ?_)
  refine AX.aload_n rfl rfl ?_
  refine AX.getf rfl (Q19 hq) rfl ?_
  refine AX.iload_n rfl rfl ?_
  refine AX.cVI rfl rfl rfl (QRo hq 11 (by decide)) (wAt hq 11 (by decide) _) (fun h hq => ?_)
  refine AX.iload_n rfl rfl ?_
  refine AX.icmp_lt rfl (fun c1 => ?_) (fun c1 => ?_)
  · exact AX.vreturn rfl rfl ⟨rfl, by simpa [zG_addF, c1] using hq⟩ (Nat.le_refl _) (Nat.le_refl _)
  · refine AX.aload_n rfl rfl ?_
    refine AX.getf rfl (Q19 hq) rfl ?_
    refine AX.iload_n rfl rfl ?_
    refine AX.iconstV (v := 2) rfl (by decide) ?_
    refine AX.cVV rfl rfl rfl (QRo hq 10 (by decide)) (wPut hq 10 (by decide) _ _) (fun h hq => ?_)
    exact AX.vreturn rfl rfl ⟨rfl, by simpa [zG_addF, c1] using hq⟩ (Nat.le_refl _) (Nat.le_refl _)
theorem sG_appendToLine (hq : isQ z T h) (c : Int32) : AM (d + 3) kG_appendToLine 0 0 none [.ref 19, .int c] h (fun r h' => r = none ∧ isQ (zapp z 8 c) T h') := by
  refine AX.aload_n rfl rfl ?_
  refine AX.getf rfl (Q19 hq) rfl ?_
  refine AX.iload_n rfl rfl ?_
  refine AX.cVV rfl rfl rfl (QRo hq 8 (by decide)) (wApp hq 8 (by decide) _) (fun h hq => ?_)
  exact AX.vreturn rfl rfl ⟨rfl, hq⟩ (Nat.le_refl _) (Nat.le_refl _)
def zG_insG (z : zS) (g s : Int32) : zS := zins (zins (zins z 9 g s) 10 g 0) 11 g 0
theorem sG_insertGroup (hq : isQ z T h) (g s : Int32) : AM (d + 2) kG_insertGroup 0 0 none [.ref 19, .int g, .int s] h (fun r h' => r = none ∧ isQ (zG_insG z g s) T h') := by
  refine AX.aload_n rfl rfl ?_
  refine AX.getf rfl (Q19 hq) rfl ?_
  refine AX.iload_n rfl rfl ?_
  refine AX.iload_n rfl rfl ?_
  refine AX.cVV rfl rfl rfl (QRo hq 9 (by decide)) (wIns hq 9 (by decide) _ _) (fun h hq => ?_)
  refine AX.aload_n rfl rfl ?_
  refine AX.getf rfl (Q19 hq) rfl ?_
  refine AX.iload_n rfl rfl ?_
  refine AX.iconstV (v := 0) rfl (by decide) ?_
  refine AX.cVV rfl rfl rfl (QRo hq 10 (by decide)) (wIns hq 10 (by decide) _ _) (fun h hq => ?_)
  refine AX.aload_n rfl rfl ?_
  refine AX.getf rfl (Q19 hq) rfl ?_
  refine AX.iload_n rfl rfl ?_
  refine AX.iconstV (v := 0) rfl (by decide) ?_
  refine AX.cVV rfl rfl rfl (QRo hq 11 (by decide)) (wIns hq 11 (by decide) _ _) (fun h hq => ?_)
  exact AX.vreturn rfl rfl ⟨rfl, hq⟩ (Nat.le_refl _) (Nat.le_refl _)
theorem sG_closeLast (hq : isQ z T h) (s : Int32) : AM (d + 3) kG_closeLast 0 0 none [.ref 19, .int s] h (fun r h' => r = none ∧ isQ (zG_insG z (nI (z.2.1 10).length) s) T h') := by
  refine AX.aload_n rfl rfl ?_
  refine AX.aload_n rfl rfl ?_
  refine AX.cVI rfl rfl rfl (Q19 hq) (sG_count hq) (fun h hq => ?_)
  refine AX.iload_n rfl rfl ?_
  refine AX.cVV rfl rfl rfl (Q19 hq) (sG_insertGroup hq _ _) (fun h hq => ?_)
  exact AX.vreturn rfl rfl ⟨rfl, hq⟩ (Nat.le_refl _) (Nat.le_refl _)
def zG_remG (z : zS) (g : Int32) : zS := zrem (zrem (zrem z 9 g) 10 g) 11 g
theorem sG_removeGroup (hq : isQ z T h) (g : Int32) : AM (d + 2) kG_removeGroup 0 0 none [.ref 19, .int g] h (fun r h' => r = none ∧ isQ (zG_remG z g) T h') := by
  refine AX.aload_n rfl rfl ?_
  refine AX.getf rfl (Q19 hq) rfl ?_
  refine AX.iload_n rfl rfl ?_
  refine AX.cVV rfl rfl rfl (QRo hq 9 (by decide)) (wRem hq 9 (by decide) _) (fun h hq => ?_)
  refine AX.aload_n rfl rfl ?_
  refine AX.getf rfl (Q19 hq) rfl ?_
  refine AX.iload_n rfl rfl ?_
  refine AX.cVV rfl rfl rfl (QRo hq 10 (by decide)) (wRem hq 10 (by decide) _) (fun h hq => ?_)
  refine AX.aload_n rfl rfl ?_
  refine AX.getf rfl (Q19 hq) rfl ?_
  refine AX.iload_n rfl rfl ?_
  refine AX.cVV rfl rfl rfl (QRo hq 11 (by decide)) (wRem hq 11 (by decide) _) (fun h hq => ?_)
  exact AX.vreturn rfl rfl ⟨rfl, hq⟩ (Nat.le_refl _) (Nat.le_refl _)
def zRemF (z : zS) : Nat → zS
  | 0 => z
  | n + 1 => zRemF (zrem z 8 0) n
theorem sG_removeFirst_l (sz : Int32) : ∀ (n m : Nat) (z : zS) (h : ax_H), isQ z T h → sz = nI (m + n) → m + n < 2 ^ 31 → AX (d + 3) kG_removeFirst 0 0 none 11 [(2, .int (nI m)), (1, .int sz), (0, .ref 19)] [] h 0 0 (ax_ret kG_removeFirst 0 0 (fun r h' => r = none ∧ isQ (zG_remG (zRemF z n) 0) T h')) := by
  intro n
  induction n with
  | zero =>
    intro m z h hq hs hb
    subst hs
    refine AX.iload_n rfl rfl ?_
    refine AX.iload_n rfl rfl ?_
    refine AX.icmp_ge rfl (fun c1 => ?_) (fun c1 => ?_)
    · refine AX.aload_n rfl rfl ?_
      refine AX.iconstV (v := 0) rfl (by decide) ?_
      refine AX.cVV rfl rfl rfl (Q19 hq) (sG_removeGroup hq _) (fun h hq => ?_)
      exact AX.vreturn rfl rfl ⟨rfl, hq⟩ (Nat.le_refl _) (Nat.le_refl _)
    · exact absurd (nI_le (by omega) (by omega)) c1
  | succ n ih =>
    intro m z h hq hs hb
    refine AX.iload_n rfl rfl ?_
    refine AX.iload_n rfl rfl ?_
    refine AX.icmp_ge rfl (fun c1 => ?_) (fun c1 => ?_)
    · exact absurd (hs ▸ c1) (nI_ge (by omega) (by omega))
    · refine AX.aload_n rfl rfl ?_
      refine AX.getf rfl (Q19 hq) rfl ?_
      refine AX.iconstV (v := 0) rfl (by decide) ?_
      refine AX.cVV rfl rfl rfl (QRo hq 8 (by decide)) (wRem hq 8 (by decide) _) (fun h hq => ?_)
      refine AX.iincV (dn := 1) rfl rfl (by decide) (by decide) ?_
      refine AX.goto rfl ?_
      rw [nI_1]
      exact ih (m + 1) _ h hq (by rw [hs]; congr 1; omega) (by omega)
def zG_remF (z : zS) : zS := zG_remG (zRemF z (zat z 9 0).toNatClampNeg) 0
theorem clampNeg {x : Int32} (h : x < 0) : x.toNatClampNeg = 0 := by
  have h1 : x.toInt < 0 := by simpa using Int32.lt_iff_toInt_lt.mp h
  show x.toInt.toNat = 0
  omega
theorem sG_removeFirst (hq : isQ z T h) : AM (d + 3) kG_removeFirst 0 0 none [.ref 19] h (fun r h' => r = none ∧ isQ (zG_remF z) T h') := by
  by_cases hz : zat z 9 0 < 0
  · have e : zG_remF z = zG_remG z 0 := by rw [zG_remF, clampNeg hz]; rfl
    rw [e]
    have hle : zat z 9 0 ≤ 0 := Int32.le_of_lt hz
    refine AX.aload_n rfl rfl ?_
    refine AX.getf rfl (Q19 hq) rfl ?_
    refine AX.iconstV (v := 0) rfl (by decide) ?_
    refine AX.cVI rfl rfl rfl (QRo hq 9 (by decide)) (wAt hq 9 (by decide) _) (fun h hq => ?_)
    refine AX.istore_n rfl (by decide) ?_
    refine AX.iconstV (v := 0) rfl (by decide) ?_
    refine AX.istore_n rfl (by decide) ?_
    refine AX.iload_n rfl rfl ?_
    refine AX.iload_n rfl rfl ?_
    refine AX.icmp_ge rfl (fun c1 => ?_) (fun c1 => ?_)
    · refine AX.aload_n rfl rfl ?_
      refine AX.iconstV (v := 0) rfl (by decide) ?_
      refine AX.cVV rfl rfl rfl (Q19 hq) (sG_removeGroup hq _) (fun h hq => ?_)
      exact AX.vreturn rfl rfl ⟨rfl, hq⟩ (Nat.le_refl _) (Nat.le_refl _)
    · exact absurd hle c1
  · obtain ⟨j, j1, j2, j3⟩ := i_pos hz
    rw [zG_remF, j3]
    refine AX.aload_n rfl rfl ?_
    refine AX.getf rfl (Q19 hq) rfl ?_
    refine AX.iconstV (v := 0) rfl (by decide) ?_
    refine AX.cVI rfl rfl rfl (QRo hq 9 (by decide)) (wAt hq 9 (by decide) _) (fun h hq => ?_)
    refine AX.istore_n rfl (by decide) ?_
    refine AX.iconstV (v := 0) rfl (by decide) ?_
    refine AX.istore_n rfl (by decide) ?_
    exact sG_removeFirst_l _ j 0 z h hq (by rw [Nat.zero_add]; exact j2) (by omega)
def zAnew1 (z : zS) (m : Nat) : zS := zput (zput (if zat z 10 (nI m) = 1 then zset z 7 (z.1 7 + 1) else z) 10 (nI m) 0) 11 (nI m) 0
def zAnew : Nat → Nat → zS → zS
  | 0, _, z => z
  | n + 1, m, z => zAnew n (m + 1) (zAnew1 z m)
theorem zAnew1_len (z : zS) (m q : Nat) : ((zAnew1 z m).2.1 q).length = (z.2.1 q).length := by
  unfold zAnew1
  rw [zput_len, zput_len]
  by_cases h : zat z 10 (nI m) = 1
  · rw [if_pos h]; rfl
  · rw [if_neg h]
theorem sG_beginAnewFrom_l (f : Int32) : ∀ (n m : Nat) (z : zS) (h : ax_H), isQ z T h → m < 2 ^ 31 → (z.2.1 10).length - m = n → AX (d + 2) kG_beginAnewFrom 0 0 none 2 [(2, .int (nI m)), (0, .ref 19), (1, .int f)] [] h 0 0 (ax_ret kG_beginAnewFrom 0 0 (fun r h' => r = none ∧ isQ (zAnew n m z) T h')) := by
  intro n
  induction n with
  | zero =>
    intro m z h hq hm hb
    have hl := QL hq 10 (by decide)
    refine AX.iload_n rfl rfl ?_
    refine AX.aload_n rfl rfl ?_
    refine AX.cVI rfl rfl rfl (Q19 hq) (sG_count hq) (fun h hq => ?_)
    refine AX.icmp_ge rfl (fun c1 => ?_) (fun c1 => ?_)
    · exact AX.vreturn rfl rfl ⟨rfl, hq⟩ (Nat.le_refl _) (Nat.le_refl _)
    · exact absurd (nI_le (by omega) (by omega)) c1
  | succ n ih =>
    intro m z h hq hm hb
    have hl := QL hq 10 (by decide)
    refine AX.iload_n rfl rfl ?_
    refine AX.aload_n rfl rfl ?_
    refine AX.cVI rfl rfl rfl (Q19 hq) (sG_count hq) (fun h hq => ?_)
    refine AX.icmp_ge rfl (fun c1 => ?_) (fun c1 => ?_)
    · exact absurd c1 (nI_ge (by omega) (by omega))
    · refine AX.aload_n rfl rfl ?_
      refine AX.getf rfl (Q19 hq) rfl ?_
      refine AX.iload_n rfl rfl ?_
      refine AX.cVI rfl rfl rfl (QRo hq 10 (by decide)) (wAt hq 10 (by decide) _) (fun h hq => ?_)
      refine AX.iconstV (v := 1) rfl (by decide) ?_
      refine AX.icmp_ne rfl (fun c2 => ?_) (fun c2 => ?_)
      · refine AX.aload_n rfl rfl ?_
        refine AX.getf rfl (Q19 hq) rfl ?_
        refine AX.iload_n rfl rfl ?_
        refine AX.iconstV (v := 0) rfl (by decide) ?_
        refine AX.cVV rfl rfl rfl (QRo hq 10 (by decide)) (wPut hq 10 (by decide) _ _) (fun h hq => ?_)
        refine AX.aload_n rfl rfl ?_
        refine AX.getf rfl (Q19 hq) rfl ?_
        refine AX.iload_n rfl rfl ?_
        refine AX.iconstV (v := 0) rfl (by decide) ?_
        refine AX.cVV rfl rfl rfl (QRo hq 11 (by decide)) (wPut hq 11 (by decide) _ _) (fun h hq => ?_)
        refine AX.iincV (dn := 1) rfl rfl (by decide) (by decide) ?_
        refine AX.goto rfl ?_
        rw [nI_1]
        simp only [zAnew]
        exact ih (m + 1) (zAnew1 z m) h (by simpa [zAnew1, c1, c2] using hq) (by omega) (by rw [zAnew1_len]; omega)
      · refine AX.aload_n rfl rfl ?_
        refine AX.dup rfl rfl ?_
        refine AX.getf rfl (Q19 hq) rfl ?_
        refine AX.iconstV (v := 1) rfl (by decide) ?_
        refine AX.iadd rfl ?_
        refine AX.putf rfl (Q19 hq) (Nat.le_of_ble_eq_true rfl) rfl ?_
        refine AX.gen (G := isQ _ T) (QS7 hq _) (fun h hq => ?_)
        refine AX.aload_n rfl rfl ?_
        refine AX.getf rfl (Q19 hq) rfl ?_
        refine AX.iload_n rfl rfl ?_
        refine AX.iconstV (v := 0) rfl (by decide) ?_
        refine AX.cVV rfl rfl rfl (QRo hq 10 (by decide)) (wPut hq 10 (by decide) _ _) (fun h hq => ?_)
        refine AX.aload_n rfl rfl ?_
        refine AX.getf rfl (Q19 hq) rfl ?_
        refine AX.iload_n rfl rfl ?_
        refine AX.iconstV (v := 0) rfl (by decide) ?_
        refine AX.cVV rfl rfl rfl (QRo hq 11 (by decide)) (wPut hq 11 (by decide) _ _) (fun h hq => ?_)
        refine AX.iincV (dn := 1) rfl rfl (by decide) (by decide) ?_
        refine AX.goto rfl ?_
        rw [nI_1]
        simp only [zAnew]
        exact ih (m + 1) (zAnew1 z m) h (by simpa [zAnew1, c1, c2] using hq) (by omega) (by rw [zAnew1_len]; omega)
def zG_anew (z : zS) (g : Int32) : zS := zAnew ((z.2.1 10).length - g.toNatClampNeg) g.toNatClampNeg z
theorem sG_beginAnewFrom (hq : isQ z T h) (g : Int32) (hg : ¬ g < 0) : AM (d + 2) kG_beginAnewFrom 0 0 none [.ref 19, .int g] h (fun r h' => r = none ∧ isQ (zG_anew z g) T h') := by
  obtain ⟨j, j1, j2, j3⟩ := i_pos hg
  rw [zG_anew, j3]
  refine AX.iload_n rfl rfl ?_
  refine AX.istore_n rfl (by decide) ?_
  have := sG_beginAnewFrom_l (d := d) (T := T) g _ j z h hq j1 rfl
  rw [← j2] at this
  exact this
def zGrp (z : zS) (k : Int32) : Nat → Nat → Int32 → Int32
  | 0, m, _ => nI m
  | n + 1, m, e => if e + zat z 9 (nI m) ≤ k then zGrp z k n (m + 1) (e + zat z 9 (nI m)) else nI m
theorem sG_groupOfLine_l (k : Int32) : ∀ (n m : Nat) (e : Int32) (h : ax_H), isQ z T h → (z.2.1 10).length = m + n → AX (d + 2) kG_groupOfLine 0 0 none 4 [(3, .int (nI m)), (2, .int e), (0, .ref 19), (1, .int k)] [] h 0 0 (ax_ret kG_groupOfLine 0 0 (fun r h' => r = some (.int (zGrp z k n m e)) ∧ isQ z T h')) := by
  intro n
  induction n with
  | zero =>
    intro m e h hq hb
    have hl := QL hq 10 (by decide)
    refine AX.iload_n rfl rfl ?_
    refine AX.aload_n rfl rfl ?_
    refine AX.cVI rfl rfl rfl (Q19 hq) (sG_count hq) (fun h hq => ?_)
    refine AX.icmp_ge rfl (fun c1 => ?_) (fun c1 => ?_)
    · refine AX.aload_n rfl rfl ?_
      refine AX.cVI rfl rfl rfl (Q19 hq) (sG_count hq) (fun h hq => ?_)
      exact AX.ireturn rfl rfl ⟨by rw [hb]; rfl, hq⟩ (Nat.le_refl _) (Nat.le_refl _)
    · exact absurd (nI_le (by omega) (by omega)) c1
  | succ n ih =>
    intro m e h hq hb
    have hl := QL hq 10 (by decide)
    refine AX.iload_n rfl rfl ?_
    refine AX.aload_n rfl rfl ?_
    refine AX.cVI rfl rfl rfl (Q19 hq) (sG_count hq) (fun h hq => ?_)
    refine AX.icmp_ge rfl (fun c1 => ?_) (fun c1 => ?_)
    · exact absurd c1 (nI_ge (by omega) (by omega))
    · refine AX.iload_n rfl rfl ?_
      refine AX.aload_n rfl rfl ?_
      refine AX.getf rfl (Q19 hq) rfl ?_
      refine AX.iload_n rfl rfl ?_
      refine AX.cVI rfl rfl rfl (QRo hq 9 (by decide)) (wAt hq 9 (by decide) _) (fun h hq => ?_)
      refine AX.iadd rfl ?_
      refine AX.istore_n rfl (by decide) ?_
      refine AX.iload_n rfl rfl ?_
      refine AX.iload_n rfl rfl ?_
      refine AX.icmp_ge rfl (fun c2 => ?_) (fun c2 => ?_)
      · refine AX.iincV (dn := 1) rfl rfl (by decide) (by decide) ?_
        refine AX.goto rfl ?_
        rw [nI_1]
        simp only [zGrp, c1, c2, if_true]
        exact ih (m + 1) _ h hq (by omega)
      · refine AX.iload_n rfl rfl ?_
        exact AX.ireturn rfl rfl ⟨by simp [zGrp, c1, c2], hq⟩ (Nat.le_refl _) (Nat.le_refl _)
def zG_grp (z : zS) (k : Int32) : Int32 := zGrp z k (z.2.1 10).length 0 0
theorem sG_groupOfLine (hq : isQ z T h) (k : Int32) : AM (d + 2) kG_groupOfLine 0 0 none [.ref 19, .int k] h (fun r h' => r = some (.int (zG_grp z k)) ∧ isQ z T h') := by
  refine AX.iconstV (v := 0) rfl (by decide) ?_
  refine AX.istore_n rfl (by decide) ?_
  refine AX.iconstV (v := 0) rfl (by decide) ?_
  refine AX.istore_n rfl (by decide) ?_
  exact sG_groupOfLine_l k _ 0 0 h hq (by omega)
theorem zGrp_nI (z : zS) (k : Int32) : ∀ (n m : Nat) (e : Int32), ∃ j, m ≤ j ∧ j ≤ m + n ∧ zGrp z k n m e = nI j := by
  intro n
  induction n with
  | zero => intro m e; exact ⟨m, Nat.le_refl _, Nat.le_refl _, rfl⟩
  | succ n ih =>
    intro m e
    simp only [zGrp]
    by_cases h : e + zat z 9 (nI m) ≤ k
    · rw [if_pos h]
      obtain ⟨j, h1, h2, h3⟩ := ih (m + 1) (e + zat z 9 (nI m))
      exact ⟨j, by omega, by omega, h3⟩
    · rw [if_neg h]
      exact ⟨m, Nat.le_refl _, by omega, rfl⟩
theorem zG_grp_pos (hq : isQ z T h) (k : Int32) : ¬ zG_grp z k < 0 := by
  obtain ⟨j, h1, h2, h3⟩ := zGrp_nI z k (z.2.1 10).length 0 0
  have := QL hq 10 (by decide)
  rw [zG_grp, h3]
  exact nI_pos (by omega)
def zG_split (z : zS) : zS := zG_anew (zG_insG (zput z 9 0 (zat z 9 0 - zat z 9 0 / 2)) 1 (zat z 9 0 / 2)) 0
theorem sG_splitFirst (hq : isQ z T h) : AM (d + 3) kG_splitFirst 0 0 none [.ref 19] h (fun r h' => r = none ∧ isQ (zG_split z) T h') := by
  refine AX.aload_n rfl rfl ?_
  refine AX.getf rfl (Q19 hq) rfl ?_
  refine AX.iconstV (v := 0) rfl (by decide) ?_
  refine AX.cVI rfl rfl rfl (QRo hq 9 (by decide)) (wAt hq 9 (by decide) _) (fun h hq => ?_)
  refine AX.istore_n rfl (by decide) ?_
  refine AX.iload_n rfl rfl ?_
  refine AX.iconstV (v := 2) rfl (by decide) ?_
  refine AX.idiv rfl (by decide) ?_
  refine AX.istore_n rfl (by decide) ?_
  refine AX.aload_n rfl rfl ?_
  refine AX.getf rfl (Q19 hq) rfl ?_
  refine AX.iconstV (v := 0) rfl (by decide) ?_
  refine AX.iload_n rfl rfl ?_
  refine AX.iload_n rfl rfl ?_
  refine AX.isub rfl ?_
  refine AX.cVV rfl rfl rfl (QRo hq 9 (by decide)) (wPut hq 9 (by decide) _ _) (fun h hq => ?_)
  refine AX.aload_n rfl rfl ?_
  refine AX.iconstV (v := 1) rfl (by decide) ?_
  refine AX.iload_n rfl rfl ?_
  refine AX.cVV rfl rfl rfl (Q19 hq) (sG_insertGroup hq _ _) (fun h hq => ?_)
  refine AX.aload_n rfl rfl ?_
  refine AX.iconstV (v := 0) rfl (by decide) ?_
  refine AX.cVV rfl rfl rfl (Q19 hq) (sG_beginAnewFrom hq 0 (by decide)) (fun h hq => ?_)
  exact AX.vreturn rfl rfl ⟨rfl, hq⟩ (Nat.le_refl _) (Nat.le_refl _)
def zG_take (z : zS) (c : Int32) : zS :=
  if rFind (z.2.1 8) c = -1 then z else
  let k := rFind (z.2.1 8) c
  let g := zG_grp z k
  let z2 := zrem (zG_anew z g) 8 k
  let z3 := zput z2 9 g (zat z2 9 g - 1)
  if zat z3 9 g = 0 then zG_remG z3 g else z3
theorem sG_takeOut (hq : isQ z T h) (c : Int32) : AM (d + 3) kG_takeOut 0 0 none [.ref 19, .int c] h (fun r h' => r = none ∧ isQ (zG_take z c) T h') := by
  refine AX.aload_n rfl rfl ?_
  refine AX.getf rfl (Q19 hq) rfl ?_
  refine AX.iload_n rfl rfl ?_
  refine AX.cVI rfl rfl rfl (QRo hq 8 (by decide)) (wFind hq 8 (by decide) _) (fun h hq => ?_)
  refine AX.istore_n rfl (by decide) ?_
  refine AX.iload_n rfl rfl ?_
  refine AX.iconstV (v := (-1)) rfl (by decide) ?_
  refine AX.icmp_ne rfl (fun c1 => ?_) (fun c1 => ?_)
  · refine AX.aload_n rfl rfl ?_
    refine AX.iload_n rfl rfl ?_
    refine AX.cVI rfl rfl rfl (Q19 hq) (sG_groupOfLine hq _) (fun h hq => ?_)
    refine AX.istore_n rfl (by decide) ?_
    refine AX.aload_n rfl rfl ?_
    refine AX.iload_n rfl rfl ?_
    refine AX.cVV rfl rfl rfl (Q19 hq) (sG_beginAnewFrom hq _ (zG_grp_pos hq _)) (fun h hq => ?_)
    refine AX.aload_n rfl rfl ?_
    refine AX.getf rfl (Q19 hq) rfl ?_
    refine AX.iload_n rfl rfl ?_
    refine AX.cVV rfl rfl rfl (QRo hq 8 (by decide)) (wRem hq 8 (by decide) _) (fun h hq => ?_)
    refine AX.aload_n rfl rfl ?_
    refine AX.getf rfl (Q19 hq) rfl ?_
    refine AX.iload_n rfl rfl ?_
    refine AX.aload_n rfl rfl ?_
    refine AX.getf rfl (Q19 hq) rfl ?_
    refine AX.iload_n rfl rfl ?_
    refine AX.cVI rfl rfl rfl (QRo hq 9 (by decide)) (wAt hq 9 (by decide) _) (fun h hq => ?_)
    refine AX.iconstV (v := 1) rfl (by decide) ?_
    refine AX.isub rfl ?_
    refine AX.cVV rfl rfl rfl (QRo hq 9 (by decide)) (wPut hq 9 (by decide) _ _) (fun h hq => ?_)
    refine AX.aload_n rfl rfl ?_
    refine AX.getf rfl (Q19 hq) rfl ?_
    refine AX.iload_n rfl rfl ?_
    refine AX.cVI rfl rfl rfl (QRo hq 9 (by decide)) (wAt hq 9 (by decide) _) (fun h hq => ?_)
    refine AX.if_ne rfl (fun c2 => ?_) (fun c2 => ?_)
    · exact AX.vreturn rfl rfl ⟨rfl, by simpa [zG_take, c1, c2] using hq⟩ (Nat.le_refl _) (Nat.le_refl _)
    · refine AX.aload_n rfl rfl ?_
      refine AX.iload_n rfl rfl ?_
      refine AX.cVV rfl rfl rfl (Q19 hq) (sG_removeGroup hq _) (fun h hq => ?_)
      exact AX.vreturn rfl rfl ⟨rfl, by simpa [zG_take, c1, c2] using hq⟩ (Nat.le_refl _) (Nat.le_refl _)
  · exact AX.vreturn rfl rfl ⟨rfl, by simpa [zG_take, c1] using hq⟩ (Nat.le_refl _) (Nat.le_refl _)
end GR
end
section
theorem nI_dec (n : Nat) : nI n + (-1) = nI n - 1 := by
  rw [Int32.sub_eq_add_neg]
theorem nI_m1 : nI 0 - 1 < 0 := by decide
theorem sw4 {x : Int32} (h0 : ¬ x = 0) (h1 : ¬ x = 1) (h2 : ¬ x = 2) (h3 : ¬ x = 3) : x.toInt < 0 ∨ 3 < x.toInt := by
  have e0 : ¬ x.toInt = 0 := fun e => h0 (Int32.toInt_inj.mp e)
  have e1 : ¬ x.toInt = 1 := fun e => h1 (Int32.toInt_inj.mp e)
  have e2 : ¬ x.toInt = 2 := fun e => h2 (Int32.toInt_inj.mp e)
  have e3 : ¬ x.toInt = 3 := fun e => h3 (Int32.toInt_inj.mp e)
  omega
section MQS
variable {z : zS} {T h : ax_H} {d : Nat}
def zEnq (z : zS) (c : Int32) : Nat → Nat → Int32
  | 0, m => nI m
  | n + 1, m => if zC_isInFront z (zat z 6 (nI m)) c = true then zEnq z c n (m + 1) else nI m
def zQ_enq (z : zS) (c : Int32) : zS := zins z 6 (zEnq z c (z.2.1 6).length 0) c
theorem sQ_enqueue_l (c : Int32) : ∀ (n m : Nat) (h : ax_H), isQ z T h → (z.2.1 6).length = m + n → AX (d + 3) kQ_enqueue 0 0 none 2 [(2, .int (nI m)), (0, .ref 0), (1, .int c)] [] h 0 0 (ax_ret kQ_enqueue 0 0 (fun r h' => r = none ∧ isQ (zins z 6 (zEnq z c n m) c) T h')) := by
  intro n
  induction n with
  | zero =>
    intro m h hq hb
    have hl := QL hq 6 (by decide)
    refine AX.iload_n rfl rfl ?_
    refine AX.aload_n rfl rfl ?_
    refine AX.getf rfl (Q0 hq) rfl ?_
    refine AX.cVI rfl rfl rfl (QRo hq 6 (by decide)) (wCount hq 6 (by decide)) (fun h hq => ?_)
    refine AX.icmp_ge rfl (fun c1 => ?_) (fun c1 => ?_)
    · refine AX.aload_n rfl rfl ?_
      refine AX.getf rfl (Q0 hq) rfl ?_
      refine AX.iload_n rfl rfl ?_
      refine AX.iload_n rfl rfl ?_
      refine AX.cVV rfl rfl rfl (QRo hq 6 (by decide)) (wIns hq 6 (by decide) _ _) (fun h hq => ?_)
      exact AX.vreturn rfl rfl ⟨rfl, hq⟩ (Nat.le_refl _) (Nat.le_refl _)
    · exact absurd (nI_le (by omega) (by omega)) c1
  | succ n ih =>
    intro m h hq hb
    have hl := QL hq 6 (by decide)
    refine AX.iload_n rfl rfl ?_
    refine AX.aload_n rfl rfl ?_
    refine AX.getf rfl (Q0 hq) rfl ?_
    refine AX.cVI rfl rfl rfl (QRo hq 6 (by decide)) (wCount hq 6 (by decide)) (fun h hq => ?_)
    refine AX.icmp_ge rfl (fun c1 => absurd c1 (nI_ge (by omega) (by omega))) (fun _ => ?_)
    refine AX.aload_n rfl rfl ?_
    refine AX.getf rfl (Q0 hq) rfl ?_
    refine AX.aload_n rfl rfl ?_
    refine AX.getf rfl (Q0 hq) rfl ?_
    refine AX.iload_n rfl rfl ?_
    refine AX.cVI rfl rfl rfl (QRo hq 6 (by decide)) (wAt hq 6 (by decide) _) (fun h hq => ?_)
    refine AX.iload_n rfl rfl ?_
    refine AX.cVI rfl rfl rfl (Q1 hq) (sC_isInFront hq _ _) (fun h hq => ?_)
    refine AX.if_eqB rfl (fun c1 => ?_) (fun c1 => ?_)
    · refine AX.aload_n rfl rfl ?_
      refine AX.getf rfl (Q0 hq) rfl ?_
      refine AX.iload_n rfl rfl ?_
      refine AX.iload_n rfl rfl ?_
      refine AX.cVV rfl rfl rfl (QRo hq 6 (by decide)) (wIns hq 6 (by decide) _ _) (fun h hq => ?_)
      exact AX.vreturn rfl rfl ⟨rfl, by simpa [zEnq, c1] using hq⟩ (Nat.le_refl _) (Nat.le_refl _)
    · refine AX.iincV (dn := 1) rfl rfl (by decide) (by decide) ?_
      refine AX.goto rfl ?_
      rw [nI_1]
      simp only [zEnq, c1, if_true]
      exact ih (m + 1) h hq (by omega)
theorem sQ_enqueue (hq : isQ z T h) (c : Int32) : AM (d + 3) kQ_enqueue 0 0 none [.ref 0, .int c] h (fun r h' => r = none ∧ isQ (zQ_enq z c) T h') := by
  refine AX.iconstV (v := 0) rfl (by decide) ?_
  refine AX.istore_n rfl (by decide) ?_
  exact sQ_enqueue_l c _ 0 h hq (by omega)
def zQ_deq (z : zS) (c : Int32) : zS := zrem z 6 (rFind (z.2.1 6) c)
theorem sQ_dequeue (hq : isQ z T h) (c : Int32) : AM (d + 3) kQ_dequeue 0 0 none [.ref 0, .int c] h (fun r h' => r = none ∧ isQ (zQ_deq z c) T h') := by
  refine AX.aload_n rfl rfl ?_
  refine AX.getf rfl (Q0 hq) rfl ?_
  refine AX.aload_n rfl rfl ?_
  refine AX.getf rfl (Q0 hq) rfl ?_
  refine AX.iload_n rfl rfl ?_
  refine AX.cVI rfl rfl rfl (QRo hq 6 (by decide)) (wFind hq 6 (by decide) _) (fun h hq => ?_)
  refine AX.cVV rfl rfl rfl (QRo hq 6 (by decide)) (wRem hq 6 (by decide) _) (fun h hq => ?_)
  exact AX.vreturn rfl rfl ⟨rfl, hq⟩ (Nat.le_refl _) (Nat.le_refl _)
def zQ_may (z : zS) (a b : Int32) : Bool := (decide (zat z 2 a = 0) && (decide (zat z 2 b = 0) || decide (zat z 2 b = 2))) || (decide (zat z 2 a = 2) && decide (zat z 2 b = 0))
theorem sQ_mayConflict (hq : isQ z T h) (a b : Int32) : AM (d + 3) kQ_mayConflict 0 0 none [.ref 0, .int a, .int b] h (fun r h' => r = some (.int (bI (zQ_may z a b))) ∧ isQ z T h') := by
  refine AX.aload_n rfl rfl ?_
  refine AX.getf rfl (Q0 hq) rfl ?_
  refine AX.iload_n rfl rfl ?_
  refine AX.cVI rfl rfl rfl (Q1 hq) (sC_placeOf hq _) (fun h hq => ?_)
  refine AX.istore_n rfl (by decide) ?_
  refine AX.aload_n rfl rfl ?_
  refine AX.getf rfl (Q0 hq) rfl ?_
  refine AX.iload_n rfl rfl ?_
  refine AX.cVI rfl rfl rfl (Q1 hq) (sC_placeOf hq _) (fun h hq => ?_)
  refine AX.istore rfl (by decide) ?_
  refine AX.iload_n rfl rfl ?_
  refine AX.if_ne rfl (fun c1 => ?_) (fun c1 => ?_)
  · refine AX.iload_n rfl rfl ?_
    refine AX.iconstV (v := 2) rfl (by decide) ?_
    refine AX.icmp_ne rfl (fun c2 => ?_) (fun c2 => ?_)
    · refine AX.iconstV (v := 0) rfl (by decide) ?_
      exact AX.zreturn rfl rfl (by decide) ⟨by simp [zQ_may, c1, c2, bI], hq⟩ (Nat.le_refl _) (Nat.le_refl _)
    · refine AX.iload rfl rfl ?_
      refine AX.if_ne rfl (fun c3 => ?_) (fun c3 => ?_)
      · refine AX.iconstV (v := 0) rfl (by decide) ?_
        exact AX.zreturn rfl rfl (by decide) ⟨by simp [zQ_may, c1, c2, c3, bI], hq⟩ (Nat.le_refl _) (Nat.le_refl _)
      · refine AX.iconstV (v := 1) rfl (by decide) ?_
        refine AX.goto rfl ?_
        exact AX.zreturn rfl rfl (by decide) ⟨by simp [zQ_may, c1, c2, c3, bI], hq⟩ (Nat.le_refl _) (Nat.le_refl _)
  · refine AX.iload rfl rfl ?_
    refine AX.if_eq rfl (fun c2 => ?_) (fun c2 => ?_)
    · refine AX.iconstV (v := 1) rfl (by decide) ?_
      refine AX.goto rfl ?_
      exact AX.zreturn rfl rfl (by decide) ⟨by simp [zQ_may, c1, c2, bI], hq⟩ (Nat.le_refl _) (Nat.le_refl _)
    · refine AX.iload rfl rfl ?_
      refine AX.iconstV (v := 2) rfl (by decide) ?_
      refine AX.icmp_eq rfl (fun c3 => ?_) (fun c3 => ?_)
      · refine AX.iconstV (v := 1) rfl (by decide) ?_
        refine AX.goto rfl ?_
        exact AX.zreturn rfl rfl (by decide) ⟨by simp [zQ_may, c1, c2, c3, bI], hq⟩ (Nat.le_refl _) (Nat.le_refl _)
      · refine AX.iload_n rfl rfl ?_
        refine AX.iconstV (v := 2) rfl (by decide) ?_
        refine AX.icmp_ne rfl (fun c4 => ?_) (fun c4 => ?_)
        · refine AX.iconstV (v := 0) rfl (by decide) ?_
          exact AX.zreturn rfl rfl (by decide) ⟨by simp [zQ_may, c1, c2, c3, c4, bI], hq⟩ (Nat.le_refl _) (Nat.le_refl _)
        · refine AX.iload rfl rfl ?_
          refine AX.if_ne rfl (fun c5 => ?_) (fun c5 => ?_)
          · refine AX.iconstV (v := 0) rfl (by decide) ?_
            exact AX.zreturn rfl rfl (by decide) ⟨by simp [zQ_may, c1, c2, c3, c4, c5, bI], hq⟩ (Nat.le_refl _) (Nat.le_refl _)
          · refine AX.iconstV (v := 1) rfl (by decide) ?_
            refine AX.goto rfl ?_
            exact AX.zreturn rfl rfl (by decide) ⟨by simp [zQ_may, c1, c2, c3, c4, c5, bI], hq⟩ (Nat.le_refl _) (Nat.le_refl _)
def zFC (z : zS) (c : Int32) : Nat → Nat → Int32
  | 0, _ => -1
  | n + 1, m => if zConf z c (zat z 7 (nI m)) = true then zat z 7 (nI m) else zFC z c n (m + 1)
def zQ_fc (z : zS) (c : Int32) : Int32 := zFC z c (z.2.1 7).length 0
theorem sQ_firstClashInTree_l (c : Int32) : ∀ (n m : Nat) (h : ax_H), isQ z T h → (z.2.1 7).length = m + n → AX (d + 2) kQ_firstClashInTree 0 0 none 2 [(2, .int (nI m)), (0, .ref 0), (1, .int c)] [] h 0 0 (ax_ret kQ_firstClashInTree 0 0 (fun r h' => r = some (.int (zFC z c n m)) ∧ isQ z T h')) := by
  intro n
  induction n with
  | zero =>
    intro m h hq hb
    have hl := QL hq 7 (by decide)
    refine AX.iload_n rfl rfl ?_
    refine AX.aload_n rfl rfl ?_
    refine AX.getf rfl (Q0 hq) rfl ?_
    refine AX.cVI rfl rfl rfl (QRo hq 7 (by decide)) (wCount hq 7 (by decide)) (fun h hq => ?_)
    refine AX.icmp_ge rfl (fun c1 => ?_) (fun c1 => ?_)
    · refine AX.iconstV (v := (-1)) rfl (by decide) ?_
      exact AX.ireturn rfl rfl ⟨rfl, hq⟩ (Nat.le_refl _) (Nat.le_refl _)
    · exact absurd (nI_le (by omega) (by omega)) c1
  | succ n ih =>
    intro m h hq hb
    have hl := QL hq 7 (by decide)
    refine AX.iload_n rfl rfl ?_
    refine AX.aload_n rfl rfl ?_
    refine AX.getf rfl (Q0 hq) rfl ?_
    refine AX.cVI rfl rfl rfl (QRo hq 7 (by decide)) (wCount hq 7 (by decide)) (fun h hq => ?_)
    refine AX.icmp_ge rfl (fun c1 => ?_) (fun c1 => ?_)
    · exact absurd c1 (nI_ge (by omega) (by omega))
    · refine AX.aload_n rfl rfl ?_
      refine AX.getf rfl (Q0 hq) rfl ?_
      refine AX.iload_n rfl rfl ?_
      refine AX.aload_n rfl rfl ?_
      refine AX.getf rfl (Q0 hq) rfl ?_
      refine AX.iload_n rfl rfl ?_
      refine AX.cVI rfl rfl rfl (QRo hq 7 (by decide)) (wAt hq 7 (by decide) _) (fun h hq => ?_)
      refine AX.cVI rfl rfl rfl (Q1 hq) (sC_areInConflict hq _ _) (fun h hq => ?_)
      refine AX.if_eqB rfl (fun c2 => ?_) (fun c2 => ?_)
      · refine AX.iincV (dn := 1) rfl rfl (by decide) (by decide) ?_
        refine AX.goto rfl ?_
        rw [nI_1]
        simp only [zFC, c1, c2, if_false, Bool.false_eq_true]
        exact ih (m + 1) h hq (by omega)
      · refine AX.aload_n rfl rfl ?_
        refine AX.getf rfl (Q0 hq) rfl ?_
        refine AX.iload_n rfl rfl ?_
        refine AX.cVI rfl rfl rfl (QRo hq 7 (by decide)) (wAt hq 7 (by decide) _) (fun h hq => ?_)
        exact AX.ireturn rfl rfl ⟨by simp [zFC, c1, c2], hq⟩ (Nat.le_refl _) (Nat.le_refl _)
theorem sQ_firstClashInTree (hq : isQ z T h) (c : Int32) : AM (d + 2) kQ_firstClashInTree 0 0 none [.ref 0, .int c] h (fun r h' => r = some (.int (zQ_fc z c)) ∧ isQ z T h') := by
  refine AX.iconstV (v := 0) rfl (by decide) ?_
  refine AX.istore_n rfl (by decide) ?_
  exact sQ_firstClashInTree_l c _ 0 h hq (by omega)
def zSend1 (z : zS) (m : Nat) : zS := if zQ_fc z (zat z 6 (nI m)) = -1 then z else zC_putOut (zrem z 6 (nI m)) (zat z 6 (nI m)) 2
def zSend : Nat → zS → zS
  | 0, z => z
  | n + 1, z => zSend n (zSend1 z n)
theorem sQ_sendOutClashing_l : ∀ (n : Nat) (z : zS) (h : ax_H), isQ z T h → n < 2 ^ 31 → AX (d + 3) kQ_sendOutClashing 0 0 none 10 [(1, .int (nI n - 1)), (0, .ref 0)] [] h 0 0 (ax_ret kQ_sendOutClashing 0 0 (fun r h' => r = none ∧ isQ (zSend n z) T h')) := by
  intro n
  induction n with
  | zero =>
    intro z h hq hb
    refine AX.iload_n rfl rfl ?_
    refine AX.if_lt rfl (fun c1 => ?_) (fun c1 => ?_)
    · exact AX.vreturn rfl rfl ⟨rfl, hq⟩ (Nat.le_refl _) (Nat.le_refl _)
    · exact absurd nI_m1 c1
  | succ n ih =>
    intro z h hq hb
    rw [nI_pred]
    refine AX.iload_n rfl rfl ?_
    refine AX.if_lt rfl (fun c1 => ?_) (fun c1 => ?_)
    · exact absurd c1 (nI_pos (by omega))
    · refine AX.aload_n rfl rfl ?_
      refine AX.getf rfl (Q0 hq) rfl ?_
      refine AX.iload_n rfl rfl ?_
      refine AX.cVI rfl rfl rfl (QRo hq 6 (by decide)) (wAt hq 6 (by decide) _) (fun h hq => ?_)
      refine AX.istore_n rfl (by decide) ?_
      refine AX.aload_n rfl rfl ?_
      refine AX.iload_n rfl rfl ?_
      refine AX.cVI rfl rfl rfl (Q0 hq) (sQ_firstClashInTree hq _) (fun h hq => ?_)
      refine AX.iconstV (v := (-1)) rfl (by decide) ?_
      refine AX.icmp_eq rfl (fun c2 => ?_) (fun c2 => ?_)
      · refine AX.iincV (dn := (-1)) rfl rfl (by decide) (by decide) ?_
        refine AX.goto rfl ?_
        rw [nI_dec]
        refine AX.sub [0, 2] rfl ?_
        exact ih (zSend1 z n) h (by simpa [zSend1, c1, c2] using hq) (by omega)
      · refine AX.aload_n rfl rfl ?_
        refine AX.getf rfl (Q0 hq) rfl ?_
        refine AX.iload_n rfl rfl ?_
        refine AX.cVV rfl rfl rfl (QRo hq 6 (by decide)) (wRem hq 6 (by decide) _) (fun h hq => ?_)
        refine AX.aload_n rfl rfl ?_
        refine AX.getf rfl (Q0 hq) rfl ?_
        refine AX.iload_n rfl rfl ?_
        refine AX.iconstV (v := 2) rfl (by decide) ?_
        refine AX.cVV rfl rfl rfl (Q1 hq) (sC_putOut hq _ _) (fun h hq => ?_)
        refine AX.iincV (dn := (-1)) rfl rfl (by decide) (by decide) ?_
        refine AX.goto rfl ?_
        rw [nI_dec]
        refine AX.sub [0, 2] rfl ?_
        exact ih (zSend1 z n) h (by simpa [zSend1, c1, c2] using hq) (by omega)
def zQ_send (z : zS) : zS := zSend (z.2.1 6).length z
theorem sQ_sendOutClashing (hq : isQ z T h) : AM (d + 3) kQ_sendOutClashing 0 0 none [.ref 0] h (fun r h' => r = none ∧ isQ (zQ_send z) T h') := by
  have hl := QL hq 6 (by decide)
  refine AX.aload_n rfl rfl ?_
  refine AX.getf rfl (Q0 hq) rfl ?_
  refine AX.cVI rfl rfl rfl (QRo hq 6 (by decide)) (wCount hq 6 (by decide)) (fun h hq => ?_)
  refine AX.iconstV (v := 1) rfl (by decide) ?_
  refine AX.isub rfl ?_
  refine AX.istore_n rfl (by decide) ?_
  exact sQ_sendOutClashing_l _ z h hq (by omega)
def zQ_change (z : zS) (rank parts : Int32) : Int32 × zS := if rank < 0 ∨ 9 < rank ∨ ¬ nI (z.2.1 2).length < 40 then (-1, z) else (nI (z.2.1 2).length, zQ_enq (zC_add z rank parts) (nI (z.2.1 2).length))
theorem sQ_change (hq : isQ z T h) (rank parts : Int32) : AM (d + 4) kQ_change 0 0 none [.ref 0, .int rank, .int parts] h (fun r h' => r = some (.int (zQ_change z rank parts).1) ∧ isQ (zQ_change z rank parts).2 T h') := by
  refine AX.iload_n rfl rfl ?_
  refine AX.if_lt rfl (fun c1 => ?_) (fun c1 => ?_)
  · refine AX.iconstV (v := (-1)) rfl (by decide) ?_
    exact AX.ireturn rfl rfl ⟨by simp [zQ_change, c1], by simpa [zQ_change, c1] using hq⟩ (Nat.le_refl _) (Nat.le_refl _)
  · refine AX.iload_n rfl rfl ?_
    refine AX.bipushV (v := 9) rfl (by decide) ?_
    refine AX.icmp_gt rfl (fun c2 => ?_) (fun c2 => ?_)
    · refine AX.iconstV (v := (-1)) rfl (by decide) ?_
      exact AX.ireturn rfl rfl ⟨by simp [zQ_change, c1, c2], by simpa [zQ_change, c1, c2] using hq⟩ (Nat.le_refl _) (Nat.le_refl _)
    · refine AX.aload_n rfl rfl ?_
      refine AX.getf rfl (Q0 hq) rfl ?_
      refine AX.cVI rfl rfl rfl (Q1 hq) (sC_count hq) (fun h hq => ?_)
      refine AX.bipushV (v := 40) rfl (by decide) ?_
      refine AX.icmp_lt rfl (fun c3 => ?_) (fun c3 => ?_)
      · refine AX.aload_n rfl rfl ?_
        refine AX.getf rfl (Q0 hq) rfl ?_
        refine AX.iload_n rfl rfl ?_
        refine AX.iload_n rfl rfl ?_
        refine AX.cVI rfl rfl rfl (Q1 hq) (sC_add hq _ _) (fun h hq => ?_)
        refine AX.istore_n rfl (by decide) ?_
        refine AX.aload_n rfl rfl ?_
        refine AX.iload_n rfl rfl ?_
        refine AX.cVV rfl rfl rfl (Q0 hq) (sQ_enqueue hq _) (fun h hq => ?_)
        refine AX.iload_n rfl rfl ?_
        exact AX.ireturn rfl rfl ⟨by simp [zQ_change, c1, c2, c3], by simpa [zQ_change, c1, c2, c3] using hq⟩ (Nat.le_refl _) (Nat.le_refl _)
      · refine AX.iconstV (v := (-1)) rfl (by decide) ?_
        exact AX.ireturn rfl rfl ⟨by simp [zQ_change, c1, c2, c3], by simpa [zQ_change, c1, c2, c3] using hq⟩ (Nat.le_refl _) (Nat.le_refl _)
def zQ_conflict (z : zS) (a b : Int32) : Int32 × zS := if a = b then (-1, z) else if zQ_may z a b = false then (-1, z) else if zConf z a b = true then (0, z) else (1, zQ_send (zC_put z a b))
theorem sQ_conflict (hq : isQ z T h) (a b : Int32) : AM (d + 4) kQ_conflict 0 0 none [.ref 0, .int a, .int b] h (fun r h' => r = some (.int (zQ_conflict z a b).1) ∧ isQ (zQ_conflict z a b).2 T h') := by
  refine AX.iload_n rfl rfl ?_
  refine AX.iload_n rfl rfl ?_
  refine AX.icmp_eq rfl (fun c1 => ?_) (fun c1 => ?_)
  · refine AX.iconstV (v := (-1)) rfl (by decide) ?_
    exact AX.ireturn rfl rfl ⟨by simp [zQ_conflict, c1], by simpa [zQ_conflict, c1] using hq⟩ (Nat.le_refl _) (Nat.le_refl _)
  · refine AX.aload_n rfl rfl ?_
    refine AX.iload_n rfl rfl ?_
    refine AX.iload_n rfl rfl ?_
    refine AX.cVI rfl rfl rfl (Q0 hq) (sQ_mayConflict hq _ _) (fun h hq => ?_)
    refine AX.if_neB rfl (fun c2 => ?_) (fun c2 => ?_)
    · refine AX.aload_n rfl rfl ?_
      refine AX.getf rfl (Q0 hq) rfl ?_
      refine AX.iload_n rfl rfl ?_
      refine AX.iload_n rfl rfl ?_
      refine AX.cVI rfl rfl rfl (Q1 hq) (sC_areInConflict hq _ _) (fun h hq => ?_)
      refine AX.if_eqB rfl (fun c3 => ?_) (fun c3 => ?_)
      · refine AX.aload_n rfl rfl ?_
        refine AX.getf rfl (Q0 hq) rfl ?_
        refine AX.iload_n rfl rfl ?_
        refine AX.iload_n rfl rfl ?_
        refine AX.cVV rfl rfl rfl (Q1 hq) (sC_putInConflict hq _ _) (fun h hq => ?_)
        refine AX.aload_n rfl rfl ?_
        refine AX.cVV rfl rfl rfl (Q0 hq) (sQ_sendOutClashing hq) (fun h hq => ?_)
        refine AX.iconstV (v := 1) rfl (by decide) ?_
        exact AX.ireturn rfl rfl ⟨by simp [zQ_conflict, c1, c2, c3], by simpa [zQ_conflict, c1, c2, c3] using hq⟩ (Nat.le_refl _) (Nat.le_refl _)
      · refine AX.iconstV (v := 0) rfl (by decide) ?_
        exact AX.ireturn rfl rfl ⟨by simp [zQ_conflict, c1, c2, c3], by simpa [zQ_conflict, c1, c2, c3] using hq⟩ (Nat.le_refl _) (Nat.le_refl _)
    · refine AX.iconstV (v := (-1)) rfl (by decide) ?_
      exact AX.ireturn rfl rfl ⟨by simp [zQ_conflict, c1, c2], by simpa [zQ_conflict, c1, c2] using hq⟩ (Nat.le_refl _) (Nat.le_refl _)
def zQ_jump (z : zS) (c : Int32) : Bool × zS := if ¬ zat z 2 c = 0 then (false, z) else if zC_hasJumped z c = true then (false, z) else (true, zQ_enq (zC_giveTurn (zQ_deq z c) c) c)
theorem sQ_jump (hq : isQ z T h) (c : Int32) : AM (d + 4) kQ_jump 0 0 none [.ref 0, .int c] h (fun r h' => r = some (.int (bI (zQ_jump z c).1)) ∧ isQ (zQ_jump z c).2 T h') := by
  refine AX.aload_n rfl rfl ?_
  refine AX.getf rfl (Q0 hq) rfl ?_
  refine AX.iload_n rfl rfl ?_
  refine AX.cVI rfl rfl rfl (Q1 hq) (sC_placeOf hq _) (fun h hq => ?_)
  refine AX.if_ne rfl (fun c1 => ?_) (fun c1 => ?_)
  · refine AX.iconstV (v := 0) rfl (by decide) ?_
    exact AX.zreturn rfl rfl (by decide) ⟨by simp [zQ_jump, c1, bI], by simpa [zQ_jump, c1] using hq⟩ (Nat.le_refl _) (Nat.le_refl _)
  · refine AX.aload_n rfl rfl ?_
    refine AX.getf rfl (Q0 hq) rfl ?_
    refine AX.iload_n rfl rfl ?_
    refine AX.cVI rfl rfl rfl (Q1 hq) (sC_hasJumped hq _) (fun h hq => ?_)
    refine AX.if_eqB rfl (fun c2 => ?_) (fun c2 => ?_)
    · refine AX.aload_n rfl rfl ?_
      refine AX.iload_n rfl rfl ?_
      refine AX.cVV rfl rfl rfl (Q0 hq) (sQ_dequeue hq _) (fun h hq => ?_)
      refine AX.aload_n rfl rfl ?_
      refine AX.getf rfl (Q0 hq) rfl ?_
      refine AX.iload_n rfl rfl ?_
      refine AX.cVV rfl rfl rfl (Q1 hq) (sC_giveTurn hq _) (fun h hq => ?_)
      refine AX.aload_n rfl rfl ?_
      refine AX.iload_n rfl rfl ?_
      refine AX.cVV rfl rfl rfl (Q0 hq) (sQ_enqueue hq _) (fun h hq => ?_)
      refine AX.iconstV (v := 1) rfl (by decide) ?_
      exact AX.zreturn rfl rfl (by decide) ⟨by simp [zQ_jump, c1, c2, bI], by simpa [zQ_jump, c1, c2] using hq⟩ (Nat.le_refl _) (Nat.le_refl _)
    · refine AX.iconstV (v := 0) rfl (by decide) ?_
      exact AX.zreturn rfl rfl (by decide) ⟨by simp [zQ_jump, c1, c2, bI], by simpa [zQ_jump, c1, c2] using hq⟩ (Nat.le_refl _) (Nat.le_refl _)
def zQ_leave (z : zS) (c : Int32) : Bool × zS := if zat z 2 c = 0 then (true, zC_putOut (zQ_deq z c) c 3) else if zat z 2 c = 1 then (true, zC_putOut (zG_take z c) c 3) else (false, z)
theorem sQ_leave (hq : isQ z T h) (c : Int32) : AM (d + 4) kQ_leave 0 0 none [.ref 0, .int c] h (fun r h' => r = some (.int (bI (zQ_leave z c).1)) ∧ isQ (zQ_leave z c).2 T h') := by
  refine AX.aload_n rfl rfl ?_
  refine AX.getf rfl (Q0 hq) rfl ?_
  refine AX.iload_n rfl rfl ?_
  refine AX.cVI rfl rfl rfl (Q1 hq) (sC_placeOf hq _) (fun h hq => ?_)
  refine AX.istore_n rfl (by decide) ?_
  refine AX.iload_n rfl rfl ?_
  refine AX.if_ne rfl (fun c1 => ?_) (fun c1 => ?_)
  · refine AX.iload_n rfl rfl ?_
    refine AX.iconstV (v := 1) rfl (by decide) ?_
    refine AX.icmp_ne rfl (fun c2 => ?_) (fun c2 => ?_)
    · refine AX.iconstV (v := 0) rfl (by decide) ?_
      exact AX.zreturn rfl rfl (by decide) ⟨by simp [zQ_leave, c1, c2, bI], by simpa [zQ_leave, c1, c2] using hq⟩ (Nat.le_refl _) (Nat.le_refl _)
    · refine AX.aload_n rfl rfl ?_
      refine AX.getf rfl (Q0 hq) rfl ?_
      refine AX.iload_n rfl rfl ?_
      refine AX.cVV rfl rfl rfl (Q19 hq) (sG_takeOut hq _) (fun h hq => ?_)
      refine AX.goto rfl ?_
      refine AX.aload_n rfl rfl ?_
      refine AX.getf rfl (Q0 hq) rfl ?_
      refine AX.iload_n rfl rfl ?_
      refine AX.iconstV (v := 3) rfl (by decide) ?_
      refine AX.cVV rfl rfl rfl (Q1 hq) (sC_putOut hq _ _) (fun h hq => ?_)
      refine AX.iconstV (v := 1) rfl (by decide) ?_
      exact AX.zreturn rfl rfl (by decide) ⟨by simp [zQ_leave, c1, c2, bI], by simpa [zQ_leave, c1, c2] using hq⟩ (Nat.le_refl _) (Nat.le_refl _)
  · refine AX.aload_n rfl rfl ?_
    refine AX.iload_n rfl rfl ?_
    refine AX.cVV rfl rfl rfl (Q0 hq) (sQ_dequeue hq _) (fun h hq => ?_)
    refine AX.goto rfl ?_
    refine AX.aload_n rfl rfl ?_
    refine AX.getf rfl (Q0 hq) rfl ?_
    refine AX.iload_n rfl rfl ?_
    refine AX.iconstV (v := 3) rfl (by decide) ?_
    refine AX.cVV rfl rfl rfl (Q1 hq) (sC_putOut hq _ _) (fun h hq => ?_)
    refine AX.iconstV (v := 1) rfl (by decide) ?_
    exact AX.zreturn rfl rfl (by decide) ⟨by simp [zQ_leave, c1, bI], by simpa [zQ_leave, c1] using hq⟩ (Nat.le_refl _) (Nat.le_refl _)
def zQ_pause (z : zS) (p : Int32) : Bool × zS := if z.1 3 = p then (false, z) else (true, zset z 3 p)
theorem sQ_pause (hq : isQ z T h) (p : Int32) (hp : p = 0 ∨ p = 1) : AM d kQ_pause 0 0 none [.ref 0, .int p] h (fun r h' => r = some (.int (bI (zQ_pause z p).1)) ∧ isQ (zQ_pause z p).2 T h') := by
  rcases hp with rfl | rfl
  · skip
    refine AX.aload_n rfl rfl ?_
    refine AX.getf rfl (Q0 hq) rfl ?_
    refine AX.iload_n rfl rfl ?_
    refine AX.icmp_ne rfl (fun c1 => ?_) (fun c1 => ?_)
    · refine AX.aload_n rfl rfl ?_
      refine AX.iload_n rfl rfl ?_
      refine AX.putf rfl (Q0 hq) (Nat.le_of_ble_eq_true rfl) rfl ?_
      refine AX.gen (G := isQ _ T) (QS3 hq _) (fun h hq => ?_)
      refine AX.iconstV (v := 1) rfl (by decide) ?_
      exact AX.zreturn rfl rfl (by decide) ⟨by simp [zQ_pause, c1, bI], by simpa [zQ_pause, c1] using hq⟩ (Nat.le_refl _) (Nat.le_refl _)
    · refine AX.iconstV (v := 0) rfl (by decide) ?_
      exact AX.zreturn rfl rfl (by decide) ⟨by simp [zQ_pause, c1, bI], by simpa [zQ_pause, c1] using hq⟩ (Nat.le_refl _) (Nat.le_refl _)
  · skip
    refine AX.aload_n rfl rfl ?_
    refine AX.getf rfl (Q0 hq) rfl ?_
    refine AX.iload_n rfl rfl ?_
    refine AX.icmp_ne rfl (fun c1 => ?_) (fun c1 => ?_)
    · refine AX.aload_n rfl rfl ?_
      refine AX.iload_n rfl rfl ?_
      refine AX.putf rfl (Q0 hq) (Nat.le_of_ble_eq_true rfl) rfl ?_
      refine AX.gen (G := isQ _ T) (QS3 hq _) (fun h hq => ?_)
      refine AX.iconstV (v := 1) rfl (by decide) ?_
      exact AX.zreturn rfl rfl (by decide) ⟨by simp [zQ_pause, c1, bI], by simpa [zQ_pause, c1] using hq⟩ (Nat.le_refl _) (Nat.le_refl _)
    · refine AX.iconstV (v := 0) rfl (by decide) ?_
      exact AX.zreturn rfl rfl (by decide) ⟨by simp [zQ_pause, c1, bI], by simpa [zQ_pause, c1] using hq⟩ (Nat.le_refl _) (Nat.le_refl _)
def zLand1 (z : zS) (m : Nat) : zS := zapp (zput z 2 (zG_member z 0 (nI m)) 2) 7 (zG_member z 0 (nI m))
def zLand : Nat → Nat → zS → zS
  | 0, _, z => z
  | n + 1, m, z => zLand n (m + 1) (zLand1 z m)
theorem sQ_land_l (sz : Int32) : ∀ (n m : Nat) (z : zS) (h : ax_H), isQ z T h → sz = nI (m + n) → m + n < 2 ^ 31 → AX (d + 4) kQ_land 0 0 none 11 [(2, .int (nI m)), (1, .int sz), (0, .ref 0)] [] h 0 0 (ax_ret kQ_land 0 0 (fun r h' => r = none ∧ isQ (zQ_send (zG_remF (zLand n m z))) T h')) := by
  intro n
  induction n with
  | zero =>
    intro m z h hq hs hb
    subst hs
    refine AX.iload_n rfl rfl ?_
    refine AX.iload_n rfl rfl ?_
    refine AX.icmp_ge rfl (fun c1 => ?_) (fun c1 => ?_)
    · refine AX.aload_n rfl rfl ?_
      refine AX.getf rfl (Q0 hq) rfl ?_
      refine AX.cVV rfl rfl rfl (Q19 hq) (sG_removeFirst hq) (fun h hq => ?_)
      refine AX.aload_n rfl rfl ?_
      refine AX.cVV rfl rfl rfl (Q0 hq) (sQ_sendOutClashing hq) (fun h hq => ?_)
      exact AX.vreturn rfl rfl ⟨rfl, hq⟩ (Nat.le_refl _) (Nat.le_refl _)
    · exact absurd (nI_le (by omega) (by omega)) c1
  | succ n ih =>
    intro m z h hq hs hb
    refine AX.iload_n rfl rfl ?_
    refine AX.iload_n rfl rfl ?_
    refine AX.icmp_ge rfl (fun c1 => ?_) (fun c1 => ?_)
    · exact absurd (hs ▸ c1) (nI_ge (by omega) (by omega))
    · refine AX.aload_n rfl rfl ?_
      refine AX.getf rfl (Q0 hq) rfl ?_
      refine AX.iconstV (v := 0) rfl (by decide) ?_
      refine AX.iload_n rfl rfl ?_
      refine AX.cVI rfl rfl rfl (Q19 hq) (sG_memberAt hq _ _) (fun h hq => ?_)
      refine AX.istore_n rfl (by decide) ?_
      refine AX.aload_n rfl rfl ?_
      refine AX.getf rfl (Q0 hq) rfl ?_
      refine AX.iload_n rfl rfl ?_
      refine AX.iconstV (v := 2) rfl (by decide) ?_
      refine AX.cVV rfl rfl rfl (Q1 hq) (sC_putPlace hq _ _) (fun h hq => ?_)
      refine AX.aload_n rfl rfl ?_
      refine AX.getf rfl (Q0 hq) rfl ?_
      refine AX.iload_n rfl rfl ?_
      refine AX.cVV rfl rfl rfl (QRo hq 7 (by decide)) (wApp hq 7 (by decide) _) (fun h hq => ?_)
      refine AX.iincV (dn := 1) rfl rfl (by decide) (by decide) ?_
      refine AX.goto rfl ?_
      rw [nI_1]
      refine AX.sub [0, 2, 3] rfl ?_
      exact ih (m + 1) (zLand1 z m) h hq (by rw [hs]; congr 1; omega) (by omega)
def zQ_land (z : zS) : zS := zQ_send (zG_remF (zLand (zat z 9 0).toNatClampNeg 0 z))
theorem sQ_land (hq : isQ z T h) : AM (d + 4) kQ_land 0 0 none [.ref 0] h (fun r h' => r = none ∧ isQ (zQ_land z) T h') := by
  by_cases hz : zat z 9 0 < 0
  · have e : zQ_land z = zQ_send (zG_remF z) := by rw [zQ_land, clampNeg hz]; rfl
    rw [e]
    have hle : zat z 9 0 ≤ 0 := Int32.le_of_lt hz
    refine AX.aload_n rfl rfl ?_
    refine AX.getf rfl (Q0 hq) rfl ?_
    refine AX.iconstV (v := 0) rfl (by decide) ?_
    refine AX.cVI rfl rfl rfl (Q19 hq) (sG_sizeOf hq _) (fun h hq => ?_)
    refine AX.istore_n rfl (by decide) ?_
    refine AX.iconstV (v := 0) rfl (by decide) ?_
    refine AX.istore_n rfl (by decide) ?_
    refine AX.iload_n rfl rfl ?_
    refine AX.iload_n rfl rfl ?_
    refine AX.icmp_ge rfl (fun c1 => ?_) (fun c1 => ?_)
    · refine AX.aload_n rfl rfl ?_
      refine AX.getf rfl (Q0 hq) rfl ?_
      refine AX.cVV rfl rfl rfl (Q19 hq) (sG_removeFirst hq) (fun h hq => ?_)
      refine AX.aload_n rfl rfl ?_
      refine AX.cVV rfl rfl rfl (Q0 hq) (sQ_sendOutClashing hq) (fun h hq => ?_)
      exact AX.vreturn rfl rfl ⟨rfl, hq⟩ (Nat.le_refl _) (Nat.le_refl _)
    · exact absurd hle c1
  · obtain ⟨j, j1, j2, j3⟩ := i_pos hz
    rw [zQ_land, j3]
    refine AX.aload_n rfl rfl ?_
    refine AX.getf rfl (Q0 hq) rfl ?_
    refine AX.iconstV (v := 0) rfl (by decide) ?_
    refine AX.cVI rfl rfl rfl (Q19 hq) (sG_sizeOf hq _) (fun h hq => ?_)
    refine AX.istore_n rfl (by decide) ?_
    refine AX.iconstV (v := 0) rfl (by decide) ?_
    refine AX.istore_n rfl (by decide) ?_
    exact sQ_land_l _ j 0 z h hq (by rw [Nat.zero_add]; exact j2) (by omega)
def zQ_halve (z : zS) : zS := if zat z 9 0 ≤ 1 then
    (let c := zG_member z 0 0
     let z1 := zC_putOut (zG_take z c) c 1
     zput z1 5 c (nI (z1.2.1 7).length))
  else zset (zG_split z) 5 ((zG_split z).1 5 + 1)
theorem sQ_halve (hq : isQ z T h) : AM (d + 4) kQ_halve 0 0 none [.ref 0] h (fun r h' => r = none ∧ isQ (zQ_halve z) T h') := by
  refine AX.aload_n rfl rfl ?_
  refine AX.getf rfl (Q0 hq) rfl ?_
  refine AX.iconstV (v := 0) rfl (by decide) ?_
  refine AX.cVI rfl rfl rfl (Q19 hq) (sG_sizeOf hq _) (fun h hq => ?_)
  refine AX.iconstV (v := 1) rfl (by decide) ?_
  refine AX.icmp_le rfl (fun c1 => ?_) (fun c1 => ?_)
  · refine AX.aload_n rfl rfl ?_
    refine AX.getf rfl (Q0 hq) rfl ?_
    refine AX.iconstV (v := 0) rfl (by decide) ?_
    refine AX.iconstV (v := 0) rfl (by decide) ?_
    refine AX.cVI rfl rfl rfl (Q19 hq) (sG_memberAt hq _ _) (fun h hq => ?_)
    refine AX.istore_n rfl (by decide) ?_
    refine AX.aload_n rfl rfl ?_
    refine AX.getf rfl (Q0 hq) rfl ?_
    refine AX.iload_n rfl rfl ?_
    refine AX.cVV rfl rfl rfl (Q19 hq) (sG_takeOut hq _) (fun h hq => ?_)
    refine AX.aload_n rfl rfl ?_
    refine AX.getf rfl (Q0 hq) rfl ?_
    refine AX.iload_n rfl rfl ?_
    refine AX.iconstV (v := 1) rfl (by decide) ?_
    refine AX.cVV rfl rfl rfl (Q1 hq) (sC_putOut hq _ _) (fun h hq => ?_)
    refine AX.aload_n rfl rfl ?_
    refine AX.getf rfl (Q0 hq) rfl ?_
    refine AX.iload_n rfl rfl ?_
    refine AX.aload_n rfl rfl ?_
    refine AX.getf rfl (Q0 hq) rfl ?_
    refine AX.cVI rfl rfl rfl (QRo hq 7 (by decide)) (wCount hq 7 (by decide)) (fun h hq => ?_)
    refine AX.cVV rfl rfl rfl (Q1 hq) (sC_putTreeSize hq _ _) (fun h hq => ?_)
    exact AX.vreturn rfl rfl ⟨rfl, by simpa [zQ_halve, c1] using hq⟩ (Nat.le_refl _) (Nat.le_refl _)
  · refine AX.aload_n rfl rfl ?_
    refine AX.getf rfl (Q0 hq) rfl ?_
    refine AX.cVV rfl rfl rfl (Q19 hq) (sG_splitFirst hq) (fun h hq => ?_)
    refine AX.aload_n rfl rfl ?_
    refine AX.dup rfl rfl ?_
    refine AX.getf rfl (Q0 hq) rfl ?_
    refine AX.iconstV (v := 1) rfl (by decide) ?_
    refine AX.iadd rfl ?_
    refine AX.putf rfl (Q0 hq) (Nat.le_of_ble_eq_true rfl) rfl ?_
    refine AX.gen (G := isQ _ T) (QS5 hq _) (fun h hq => ?_)
    exact AX.vreturn rfl rfl ⟨rfl, by simpa [zQ_halve, c1] using hq⟩ (Nat.le_refl _) (Nat.le_refl _)
def zQ_ask (z : zS) : Bool × zS := if zG_next z = -1 then (false, z) else if zG_asked z < z.1 1 then (true, zput z 10 (zG_next z) 1) else (false, z)
theorem sQ_askNext (hq : isQ z T h) : AM (d + 3) kQ_askNext 0 0 none [.ref 0] h (fun r h' => r = some (.int (bI (zQ_ask z).1)) ∧ isQ (zQ_ask z).2 T h') := by
  refine AX.aload_n rfl rfl ?_
  refine AX.getf rfl (Q0 hq) rfl ?_
  refine AX.cVI rfl rfl rfl (Q19 hq) (sG_nextToAsk hq) (fun h hq => ?_)
  refine AX.istore_n rfl (by decide) ?_
  refine AX.iload_n rfl rfl ?_
  refine AX.iconstV (v := (-1)) rfl (by decide) ?_
  refine AX.icmp_eq rfl (fun c1 => ?_) (fun c1 => ?_)
  · refine AX.iconstV (v := 0) rfl (by decide) ?_
    exact AX.zreturn rfl rfl (by decide) ⟨by simp [zQ_ask, c1, bI], by simpa [zQ_ask, c1] using hq⟩ (Nat.le_refl _) (Nat.le_refl _)
  · refine AX.aload_n rfl rfl ?_
    refine AX.getf rfl (Q0 hq) rfl ?_
    refine AX.cVI rfl rfl rfl (Q19 hq) (sG_countAsked hq) (fun h hq => ?_)
    refine AX.aload_n rfl rfl ?_
    refine AX.getf rfl (Q0 hq) rfl ?_
    refine AX.icmp_lt rfl (fun c2 => ?_) (fun c2 => ?_)
    · refine AX.aload_n rfl rfl ?_
      refine AX.getf rfl (Q0 hq) rfl ?_
      refine AX.iload_n rfl rfl ?_
      refine AX.iconstV (v := 1) rfl (by decide) ?_
      refine AX.cVV rfl rfl rfl (Q19 hq) (sG_putState hq _ _) (fun h hq => ?_)
      refine AX.iconstV (v := 1) rfl (by decide) ?_
      exact AX.zreturn rfl rfl (by decide) ⟨by simp [zQ_ask, c1, c2, bI], by simpa [zQ_ask, c1, c2] using hq⟩ (Nat.le_refl _) (Nat.le_refl _)
    · refine AX.iconstV (v := 0) rfl (by decide) ?_
      exact AX.zreturn rfl rfl (by decide) ⟨by simp [zQ_ask, c1, c2, bI], by simpa [zQ_ask, c1, c2] using hq⟩ (Nat.le_refl _) (Nat.le_refl _)
def zClash (z : zS) (c : Int32) : Nat → Nat → Bool
  | 0, _ => false
  | n + 1, m => if zConf z c (zat z 8 (nI m)) = true then true else zClash z c n (m + 1)
def zQ_clash (z : zS) (c : Int32) : Bool := zClash z c (z.2.1 8).length 0
theorem sQ_clashesWithGroups_l (c : Int32) : ∀ (n m : Nat) (h : ax_H), isQ z T h → (z.2.1 8).length = m + n → AX (d + 3) kQ_clashesWithGroups 0 0 none 2 [(2, .int (nI m)), (0, .ref 0), (1, .int c)] [] h 0 0 (ax_ret kQ_clashesWithGroups 0 0 (fun r h' => r = some (.int (bI (zClash z c n m))) ∧ isQ z T h')) := by
  intro n
  induction n with
  | zero =>
    intro m h hq hb
    have hl := QL hq 8 (by decide)
    refine AX.iload_n rfl rfl ?_
    refine AX.aload_n rfl rfl ?_
    refine AX.getf rfl (Q0 hq) rfl ?_
    refine AX.cVI rfl rfl rfl (Q19 hq) (sG_lineLength hq) (fun h hq => ?_)
    refine AX.icmp_ge rfl (fun c1 => ?_) (fun c1 => ?_)
    · refine AX.iconstV (v := 0) rfl (by decide) ?_
      exact AX.zreturn rfl rfl (by decide) ⟨rfl, hq⟩ (Nat.le_refl _) (Nat.le_refl _)
    · exact absurd (nI_le (by omega) (by omega)) c1
  | succ n ih =>
    intro m h hq hb
    have hl := QL hq 8 (by decide)
    refine AX.iload_n rfl rfl ?_
    refine AX.aload_n rfl rfl ?_
    refine AX.getf rfl (Q0 hq) rfl ?_
    refine AX.cVI rfl rfl rfl (Q19 hq) (sG_lineLength hq) (fun h hq => ?_)
    refine AX.icmp_ge rfl (fun c1 => ?_) (fun c1 => ?_)
    · exact absurd c1 (nI_ge (by omega) (by omega))
    · refine AX.aload_n rfl rfl ?_
      refine AX.getf rfl (Q0 hq) rfl ?_
      refine AX.iload_n rfl rfl ?_
      refine AX.aload_n rfl rfl ?_
      refine AX.getf rfl (Q0 hq) rfl ?_
      refine AX.iload_n rfl rfl ?_
      refine AX.cVI rfl rfl rfl (Q19 hq) (sG_inLine hq _) (fun h hq => ?_)
      refine AX.cVI rfl rfl rfl (Q1 hq) (sC_areInConflict hq _ _) (fun h hq => ?_)
      refine AX.if_eqB rfl (fun c2 => ?_) (fun c2 => ?_)
      · refine AX.iincV (dn := 1) rfl rfl (by decide) (by decide) ?_
        refine AX.goto rfl ?_
        rw [nI_1]
        simp only [zClash, c1, c2, if_false, Bool.false_eq_true]
        exact ih (m + 1) h hq (by omega)
      · refine AX.iconstV (v := 1) rfl (by decide) ?_
        exact AX.zreturn rfl rfl (by decide) ⟨by simp [zClash, c1, c2, bI], hq⟩ (Nat.le_refl _) (Nat.le_refl _)
theorem sQ_clashesWithGroups (hq : isQ z T h) (c : Int32) : AM (d + 3) kQ_clashesWithGroups 0 0 none [.ref 0, .int c] h (fun r h' => r = some (.int (bI (zQ_clash z c))) ∧ isQ z T h') := by
  refine AX.iconstV (v := 0) rfl (by decide) ?_
  refine AX.istore_n rfl (by decide) ?_
  exact sQ_clashesWithGroups_l c _ 0 h hq (by omega)
def zDrop1 (z : zS) (m : Nat) : zS := if zat z 2 (zat z 6 (nI m)) = 1 then zrem z 6 (nI m) else z
def zDrop : Nat → zS → zS
  | 0, z => z
  | n + 1, z => zDrop n (zDrop1 z n)
theorem sQ_drop_l : ∀ (n : Nat) (z : zS) (h : ax_H), isQ z T h → n < 2 ^ 31 → AX (d + 3) kQ_dropGroupedFromQueue 0 0 none 10 [(1, .int (nI n - 1)), (0, .ref 0)] [] h 0 0 (ax_ret kQ_dropGroupedFromQueue 0 0 (fun r h' => r = none ∧ isQ (zDrop n z) T h')) := by
  intro n
  induction n with
  | zero =>
    intro z h hq hb
    refine AX.iload_n rfl rfl ?_
    refine AX.if_lt rfl (fun c1 => ?_) (fun c1 => ?_)
    · exact AX.vreturn rfl rfl ⟨rfl, hq⟩ (Nat.le_refl _) (Nat.le_refl _)
    · exact absurd nI_m1 c1
  | succ n ih =>
    intro z h hq hb
    rw [nI_pred]
    refine AX.iload_n rfl rfl ?_
    refine AX.if_lt rfl (fun c1 => ?_) (fun c1 => ?_)
    · exact absurd c1 (nI_pos (by omega))
    · refine AX.aload_n rfl rfl ?_
      refine AX.getf rfl (Q0 hq) rfl ?_
      refine AX.aload_n rfl rfl ?_
      refine AX.getf rfl (Q0 hq) rfl ?_
      refine AX.iload_n rfl rfl ?_
      refine AX.cVI rfl rfl rfl (QRo hq 6 (by decide)) (wAt hq 6 (by decide) _) (fun h hq => ?_)
      refine AX.cVI rfl rfl rfl (Q1 hq) (sC_placeOf hq _) (fun h hq => ?_)
      refine AX.iconstV (v := 1) rfl (by decide) ?_
      refine AX.icmp_ne rfl (fun c2 => ?_) (fun c2 => ?_)
      · refine AX.iincV (dn := (-1)) rfl rfl (by decide) (by decide) ?_
        refine AX.goto rfl ?_
        rw [nI_dec]
        exact ih (zDrop1 z n) h (by simpa [zDrop1, c1, c2] using hq) (by omega)
      · refine AX.aload_n rfl rfl ?_
        refine AX.getf rfl (Q0 hq) rfl ?_
        refine AX.iload_n rfl rfl ?_
        refine AX.cVV rfl rfl rfl (QRo hq 6 (by decide)) (wRem hq 6 (by decide) _) (fun h hq => ?_)
        refine AX.iincV (dn := (-1)) rfl rfl (by decide) (by decide) ?_
        refine AX.goto rfl ?_
        rw [nI_dec]
        exact ih (zDrop1 z n) h (by simpa [zDrop1, c1, c2] using hq) (by omega)
def zQ_drop (z : zS) : zS := zDrop (z.2.1 6).length z
theorem sQ_dropGroupedFromQueue (hq : isQ z T h) : AM (d + 3) kQ_dropGroupedFromQueue 0 0 none [.ref 0] h (fun r h' => r = none ∧ isQ (zQ_drop z) T h') := by
  have hl := QL hq 6 (by decide)
  refine AX.aload_n rfl rfl ?_
  refine AX.getf rfl (Q0 hq) rfl ?_
  refine AX.cVI rfl rfl rfl (QRo hq 6 (by decide)) (wCount hq 6 (by decide)) (fun h hq => ?_)
  refine AX.iconstV (v := 1) rfl (by decide) ?_
  refine AX.isub rfl ?_
  refine AX.istore_n rfl (by decide) ?_
  exact sQ_drop_l _ z h hq (by omega)
def zForm1 (z : zS) (m : Nat) : zS := zput (zapp z 8 (zat z 6 (nI m))) 2 (zat z 6 (nI m)) 1
def zForm : Nat → Nat → Int32 → zS → Int32 × zS
  | 0, _, s, z => (s, z)
  | n + 1, m, s, z => if z.1 0 ≤ s then (s, z) else if zQ_clash z (zat z 6 (nI m)) = true then zForm n (m + 1) s z else zForm n (m + 1) (s + 1) (zForm1 z m)
def zFormE (q : Int32 × zS) : Bool × zS := if q.1 = 0 then (false, q.2) else (true, zQ_drop (zG_insG q.2 (nI (q.2.2.1 10).length) q.1))
theorem zForm1_6 (z : zS) (m : Nat) : (zForm1 z m).2.1 6 = z.2.1 6 := by
  simp [zForm1, zput, zapp, zrow, va_up]
theorem sQ_formNext_l : ∀ (n m : Nat) (s : Int32) (z : zS) (h : ax_H), isQ z T h → (z.2.1 6).length = m + n → AX (d + 4) kQ_formNext 0 0 none 20 [(2, .int (nI m)), (1, .int s), (0, .ref 0)] [] h 0 0 (ax_ret kQ_formNext 0 0 (fun r h' => r = some (.int (bI (zFormE (zForm n m s z)).1)) ∧ isQ (zFormE (zForm n m s z)).2 T h')) := by
  intro n
  induction n with
  | zero =>
    intro m s z h hq hb
    have hl := QL hq 6 (by decide)
    refine AX.iload_n rfl rfl ?_
    refine AX.aload_n rfl rfl ?_
    refine AX.getf rfl (Q0 hq) rfl ?_
    refine AX.cVI rfl rfl rfl (QRo hq 6 (by decide)) (wCount hq 6 (by decide)) (fun h hq => ?_)
    refine AX.icmp_ge rfl (fun c1 => ?_) (fun c1 => ?_)
    · refine AX.iload_n rfl rfl ?_
      refine AX.if_ne rfl (fun c2 => ?_) (fun c2 => ?_)
      · refine AX.aload_n rfl rfl ?_
        refine AX.getf rfl (Q0 hq) rfl ?_
        refine AX.iload_n rfl rfl ?_
        refine AX.cVV rfl rfl rfl (Q19 hq) (sG_closeLast hq _) (fun h hq => ?_)
        refine AX.aload_n rfl rfl ?_
        refine AX.cVV rfl rfl rfl (Q0 hq) (sQ_dropGroupedFromQueue hq) (fun h hq => ?_)
        refine AX.iconstV (v := 1) rfl (by decide) ?_
        exact AX.zreturn rfl rfl (by decide) ⟨by simp [zForm, zFormE, c1, c2, bI], by simpa [zForm, zFormE, c1, c2] using hq⟩ (Nat.le_refl _) (Nat.le_refl _)
      · refine AX.iconstV (v := 0) rfl (by decide) ?_
        exact AX.zreturn rfl rfl (by decide) ⟨by simp [zForm, zFormE, c1, c2, bI], by simpa [zForm, zFormE, c1, c2] using hq⟩ (Nat.le_refl _) (Nat.le_refl _)
    · exact absurd (nI_le (by omega) (by omega)) c1
  | succ n ih =>
    intro m s z h hq hb
    have hl := QL hq 6 (by decide)
    refine AX.iload_n rfl rfl ?_
    refine AX.aload_n rfl rfl ?_
    refine AX.getf rfl (Q0 hq) rfl ?_
    refine AX.cVI rfl rfl rfl (QRo hq 6 (by decide)) (wCount hq 6 (by decide)) (fun h hq => ?_)
    refine AX.icmp_ge rfl (fun c1 => absurd c1 (nI_ge (by omega) (by omega))) (fun _ => ?_)
    refine AX.iload_n rfl rfl ?_
    refine AX.aload_n rfl rfl ?_
    refine AX.getf rfl (Q0 hq) rfl ?_
    refine AX.icmp_ge rfl (fun c1 => ?_) (fun c1 => ?_)
    · refine AX.iload_n rfl rfl ?_
      refine AX.if_ne rfl (fun c2 => ?_) (fun c2 => ?_)
      · refine AX.aload_n rfl rfl ?_
        refine AX.getf rfl (Q0 hq) rfl ?_
        refine AX.iload_n rfl rfl ?_
        refine AX.cVV rfl rfl rfl (Q19 hq) (sG_closeLast hq _) (fun h hq => ?_)
        refine AX.aload_n rfl rfl ?_
        refine AX.cVV rfl rfl rfl (Q0 hq) (sQ_dropGroupedFromQueue hq) (fun h hq => ?_)
        refine AX.iconstV (v := 1) rfl (by decide) ?_
        exact AX.zreturn rfl rfl (by decide) ⟨by rw [show zForm (n + 1) m s z = (s, z) by simp [zForm, c1]]; simp [zFormE, c2, bI], by rw [show zForm (n + 1) m s z = (s, z) by simp [zForm, c1]]; simpa [zFormE, c2] using hq⟩ (Nat.le_refl _) (Nat.le_refl _)
      · refine AX.iconstV (v := 0) rfl (by decide) ?_
        exact AX.zreturn rfl rfl (by decide) ⟨by rw [show zForm (n + 1) m s z = (s, z) by simp [zForm, c1]]; simp [zFormE, c2, bI], by rw [show zForm (n + 1) m s z = (s, z) by simp [zForm, c1]]; simpa [zFormE, c2] using hq⟩ (Nat.le_refl _) (Nat.le_refl _)
    · refine AX.aload_n rfl rfl ?_
      refine AX.getf rfl (Q0 hq) rfl ?_
      refine AX.iload_n rfl rfl ?_
      refine AX.cVI rfl rfl rfl (QRo hq 6 (by decide)) (wAt hq 6 (by decide) _) (fun h hq => ?_)
      refine AX.istore_n rfl (by decide) ?_
      refine AX.aload_n rfl rfl ?_
      refine AX.iload_n rfl rfl ?_
      refine AX.cVI rfl rfl rfl (Q0 hq) (sQ_clashesWithGroups hq _) (fun h hq => ?_)
      refine AX.if_neB rfl (fun c2 => ?_) (fun c2 => ?_)
      · refine AX.iincV (dn := 1) rfl rfl (by decide) (by decide) ?_
        refine AX.goto rfl ?_
        rw [nI_1]
        first
          | (rw [show zForm (n + 1) m s z = zForm n (m + 1) (s + 1) (zForm1 z m) by simp [zForm, c1, c2]]; refine AX.sub [0, 1, 3] rfl ?_; exact ih (m + 1) (s + 1) (zForm1 z m) h hq (by show (((zForm1 z m).2.1 6).length = _); rw [zForm1_6]; omega))
          | (rw [show zForm (n + 1) m s z = zForm n (m + 1) s z by simp [zForm, c1, c2]]; refine AX.sub [0, 2, 3] rfl ?_; exact ih (m + 1) s z h hq (by omega))
      · refine AX.aload_n rfl rfl ?_
        refine AX.getf rfl (Q0 hq) rfl ?_
        refine AX.iload_n rfl rfl ?_
        refine AX.cVV rfl rfl rfl (Q19 hq) (sG_appendToLine hq _) (fun h hq => ?_)
        refine AX.aload_n rfl rfl ?_
        refine AX.getf rfl (Q0 hq) rfl ?_
        refine AX.iload_n rfl rfl ?_
        refine AX.iconstV (v := 1) rfl (by decide) ?_
        refine AX.cVV rfl rfl rfl (Q1 hq) (sC_putPlace hq _ _) (fun h hq => ?_)
        refine AX.iincV (dn := 1) rfl rfl (by decide) (by decide) ?_
        refine AX.iincV (dn := 1) rfl rfl (by decide) (by decide) ?_
        refine AX.goto rfl ?_
        rw [nI_1]
        first
          | (rw [show zForm (n + 1) m s z = zForm n (m + 1) (s + 1) (zForm1 z m) by simp [zForm, c1, c2]]; refine AX.sub [0, 1, 3] rfl ?_; exact ih (m + 1) (s + 1) (zForm1 z m) h hq (by show (((zForm1 z m).2.1 6).length = _); rw [zForm1_6]; omega))
          | (rw [show zForm (n + 1) m s z = zForm n (m + 1) s z by simp [zForm, c1, c2]]; refine AX.sub [0, 2, 3] rfl ?_; exact ih (m + 1) s z h hq (by omega))
def zQ_form (z : zS) : Bool × zS := if nI (z.2.1 10).length < z.1 1 then zFormE (zForm (z.2.1 6).length 0 0 z) else (false, z)
theorem sQ_formNext (hq : isQ z T h) : AM (d + 4) kQ_formNext 0 0 none [.ref 0] h (fun r h' => r = some (.int (bI (zQ_form z).1)) ∧ isQ (zQ_form z).2 T h') := by
  refine AX.aload_n rfl rfl ?_
  refine AX.getf rfl (Q0 hq) rfl ?_
  refine AX.cVI rfl rfl rfl (Q19 hq) (sG_count hq) (fun h hq => ?_)
  refine AX.aload_n rfl rfl ?_
  refine AX.getf rfl (Q0 hq) rfl ?_
  refine AX.icmp_lt rfl (fun c1 => ?_) (fun c1 => ?_)
  · refine AX.iconstV (v := 0) rfl (by decide) ?_
    refine AX.istore_n rfl (by decide) ?_
    refine AX.iconstV (v := 0) rfl (by decide) ?_
    refine AX.istore_n rfl (by decide) ?_
    rw [show zQ_form z = zFormE (zForm (z.2.1 6).length 0 0 z) by simp [zQ_form, c1]]
    exact sQ_formNext_l _ 0 0 z h hq (by omega)
  · refine AX.iconstV (v := 0) rfl (by decide) ?_
    exact AX.zreturn rfl rfl (by decide) ⟨by simp [zQ_form, c1, bI], by simpa [zQ_form, c1] using hq⟩ (Nat.le_refl _) (Nat.le_refl _)
def zQ_step (z : zS) : Int32 × zS :=
  if zat z 10 0 = 3 then (1, zQ_land z) else if zat z 10 0 = 2 then (2, zQ_halve z) else if z.1 3 = 0 then
    (if (zQ_ask z).1 = true then (3, (zQ_ask z).2) else if (zQ_form (zQ_ask z).2).1 = true then (4, (zQ_form (zQ_ask z).2).2) else (0, (zQ_form (zQ_ask z).2).2))
  else (0, z)
theorem sQ_step (hq : isQ z T h) : AM (d + 5) kQ_step 0 0 none [.ref 0] h (fun r h' => r = some (.int (zQ_step z).1) ∧ isQ (zQ_step z).2 T h') := by
  refine AX.aload_n rfl rfl ?_
  refine AX.getf rfl (Q0 hq) rfl ?_
  refine AX.iconstV (v := 0) rfl (by decide) ?_
  refine AX.cVI rfl rfl rfl (Q19 hq) (sG_stateOf hq _) (fun h hq => ?_)
  refine AX.istore_n rfl (by decide) ?_
  refine AX.iload_n rfl rfl ?_
  refine AX.iconstV (v := 3) rfl (by decide) ?_
  refine AX.icmp_ne rfl (fun c1 => ?_) (fun c1 => ?_)
  · refine AX.iload_n rfl rfl ?_
    refine AX.iconstV (v := 2) rfl (by decide) ?_
    refine AX.icmp_ne rfl (fun c2 => ?_) (fun c2 => ?_)
    · refine AX.aload_n rfl rfl ?_
      refine AX.getf rfl (Q0 hq) rfl ?_
      refine AX.if_eq rfl (fun c3 => ?_) (fun c3 => ?_)
      · refine AX.aload_n rfl rfl ?_
        refine AX.cVI rfl rfl rfl (Q0 hq) (sQ_askNext hq) (fun h hq => ?_)
        refine AX.if_eqB rfl (fun c4 => ?_) (fun c4 => ?_)
        · refine AX.aload_n rfl rfl ?_
          refine AX.cVI rfl rfl rfl (Q0 hq) (sQ_formNext hq) (fun h hq => ?_)
          refine AX.if_eqB rfl (fun c5 => ?_) (fun c5 => ?_)
          · refine AX.iconstV (v := 0) rfl (by decide) ?_
            exact AX.ireturn rfl rfl ⟨by simp [zQ_step, c1, c2, c3, c4, c5], by simpa [zQ_step, c1, c2, c3, c4, c5] using hq⟩ (Nat.le_refl _) (Nat.le_refl _)
          · refine AX.iconstV (v := 4) rfl (by decide) ?_
            refine AX.goto rfl ?_
            exact AX.ireturn rfl rfl ⟨by simp [zQ_step, c1, c2, c3, c4, c5], by simpa [zQ_step, c1, c2, c3, c4, c5] using hq⟩ (Nat.le_refl _) (Nat.le_refl _)
        · refine AX.iconstV (v := 3) rfl (by decide) ?_
          exact AX.ireturn rfl rfl ⟨by simp [zQ_step, c1, c2, c3, c4], by simpa [zQ_step, c1, c2, c3, c4] using hq⟩ (Nat.le_refl _) (Nat.le_refl _)
      · refine AX.iconstV (v := 0) rfl (by decide) ?_
        exact AX.ireturn rfl rfl ⟨by simp [zQ_step, c1, c2, c3], by simpa [zQ_step, c1, c2, c3] using hq⟩ (Nat.le_refl _) (Nat.le_refl _)
    · refine AX.aload_n rfl rfl ?_
      refine AX.cVV rfl rfl rfl (Q0 hq) (sQ_halve hq) (fun h hq => ?_)
      refine AX.iconstV (v := 2) rfl (by decide) ?_
      exact AX.ireturn rfl rfl ⟨by simp [zQ_step, c1, c2], by simpa [zQ_step, c1, c2] using hq⟩ (Nat.le_refl _) (Nat.le_refl _)
  · refine AX.aload_n rfl rfl ?_
    refine AX.cVV rfl rfl rfl (Q0 hq) (sQ_land hq) (fun h hq => ?_)
    refine AX.iconstV (v := 1) rfl (by decide) ?_
    exact AX.ireturn rfl rfl ⟨by simp [zQ_step, c1], by simpa [zQ_step, c1] using hq⟩ (Nat.le_refl _) (Nat.le_refl _)
def zQ_answer (z : zS) (g p : Int32) : Int32 × zS :=
  if zat z 10 g = 1 then
    (let z1 := zset z 4 (z.1 4 + 1)
     let z2 := if p = 0 then zG_addF z1 g (z1.1 2) else zput z1 10 g 3
     (zat z2 10 g, z2))
  else (-1, z)
theorem sQ_answer (hq : isQ z T h) (g p : Int32) : AM (d + 3) kQ_answer 0 0 none [.ref 0, .int g, .int p] h (fun r h' => r = some (.int (zQ_answer z g p).1) ∧ isQ (zQ_answer z g p).2 T h') := by
  refine AX.aload_n rfl rfl ?_
  refine AX.getf rfl (Q0 hq) rfl ?_
  refine AX.iload_n rfl rfl ?_
  refine AX.cVI rfl rfl rfl (Q19 hq) (sG_stateOf hq _) (fun h hq => ?_)
  refine AX.iconstV (v := 1) rfl (by decide) ?_
  refine AX.icmp_eq rfl (fun c1 => ?_) (fun c1 => ?_)
  · refine AX.aload_n rfl rfl ?_
    refine AX.dup rfl rfl ?_
    refine AX.getf rfl (Q0 hq) rfl ?_
    refine AX.iconstV (v := 1) rfl (by decide) ?_
    refine AX.iadd rfl ?_
    refine AX.putf rfl (Q0 hq) (Nat.le_of_ble_eq_true rfl) rfl ?_
    refine AX.gen (G := isQ _ T) (QS4 hq _) (fun h hq => ?_)
    refine AX.iload_n rfl rfl ?_
    refine AX.if_eq rfl (fun c2 => ?_) (fun c2 => ?_)
    · refine AX.aload_n rfl rfl ?_
      refine AX.getf rfl (Q0 hq) rfl ?_
      refine AX.iload_n rfl rfl ?_
      refine AX.aload_n rfl rfl ?_
      refine AX.getf rfl (Q0 hq) rfl ?_
      refine AX.cVV rfl rfl rfl (Q19 hq) (sG_addFailure hq _ _) (fun h hq => ?_)
      refine AX.aload_n rfl rfl ?_
      refine AX.getf rfl (Q0 hq) rfl ?_
      refine AX.iload_n rfl rfl ?_
      refine AX.cVI rfl rfl rfl (Q19 hq) (sG_stateOf hq _) (fun h hq => ?_)
      exact AX.ireturn rfl rfl ⟨by simp [zQ_answer, c1, c2], by simpa [zQ_answer, c1, c2] using hq⟩ (Nat.le_refl _) (Nat.le_refl _)
    · refine AX.aload_n rfl rfl ?_
      refine AX.getf rfl (Q0 hq) rfl ?_
      refine AX.iload_n rfl rfl ?_
      refine AX.iconstV (v := 3) rfl (by decide) ?_
      refine AX.cVV rfl rfl rfl (Q19 hq) (sG_putState hq _ _) (fun h hq => ?_)
      refine AX.goto rfl ?_
      refine AX.aload_n rfl rfl ?_
      refine AX.getf rfl (Q0 hq) rfl ?_
      refine AX.iload_n rfl rfl ?_
      refine AX.cVI rfl rfl rfl (Q19 hq) (sG_stateOf hq _) (fun h hq => ?_)
      exact AX.ireturn rfl rfl ⟨by simp [zQ_answer, c1, c2], by simpa [zQ_answer, c1, c2] using hq⟩ (Nat.le_refl _) (Nat.le_refl _)
  · refine AX.iconstV (v := (-1)) rfl (by decide) ?_
    exact AX.ireturn rfl rfl ⟨by simp [zQ_answer, c1], by simpa [zQ_answer, c1] using hq⟩ (Nat.le_refl _) (Nat.le_refl _)
theorem sQ_groups (hq : isQ z T h) : AM (d + 2) kQ_groups 0 0 none [.ref 0] h (fun r h' => r = some (.int (nI (z.2.1 10).length)) ∧ isQ z T h') := by
  refine AX.aload_n rfl rfl ?_
  refine AX.getf rfl (Q0 hq) rfl ?_
  refine AX.cVI rfl rfl rfl (Q19 hq) (sG_count hq) (fun h hq => ?_)
  exact AX.ireturn rfl rfl ⟨rfl, hq⟩ (Nat.le_refl _) (Nat.le_refl _)
def zQ_group (z : zS) (i w : Int32) : Int32 := if w = 0 then zat z 10 i else if w = 1 then zat z 9 i else if w = 2 then zat z 11 i else if w = 3 then zG_base z i else -1
theorem sQ_group (hq : isQ z T h) (i w : Int32) : AM (d + 3) kQ_group 0 0 none [.ref 0, .int i, .int w] h (fun r h' => r = some (.int (zQ_group z i w)) ∧ isQ z T h') := by
  refine AX.iload_n rfl rfl ?_
  by_cases w0 : w = 0
  · subst w0
    refine AX.tsIn 32 rfl (by decide) (by decide) rfl (by decide) ?_
    refine AX.aload_n rfl rfl ?_
    refine AX.getf rfl (Q0 hq) rfl ?_
    refine AX.iload_n rfl rfl ?_
    refine AX.cVI rfl rfl rfl (Q19 hq) (sG_stateOf hq _) (fun h hq => ?_)
    exact AX.ireturn rfl rfl ⟨rfl, hq⟩ (Nat.le_refl _) (Nat.le_refl _)
  by_cases w1 : w = 1
  · subst w1
    refine AX.tsIn 41 rfl (by decide) (by decide) rfl (by decide) ?_
    refine AX.aload_n rfl rfl ?_
    refine AX.getf rfl (Q0 hq) rfl ?_
    refine AX.iload_n rfl rfl ?_
    refine AX.cVI rfl rfl rfl (Q19 hq) (sG_sizeOf hq _) (fun h hq => ?_)
    exact AX.ireturn rfl rfl ⟨rfl, hq⟩ (Nat.le_refl _) (Nat.le_refl _)
  by_cases w2 : w = 2
  · subst w2
    refine AX.tsIn 50 rfl (by decide) (by decide) rfl (by decide) ?_
    refine AX.aload_n rfl rfl ?_
    refine AX.getf rfl (Q0 hq) rfl ?_
    refine AX.iload_n rfl rfl ?_
    refine AX.cVI rfl rfl rfl (Q19 hq) (sG_failuresOf hq _) (fun h hq => ?_)
    exact AX.ireturn rfl rfl ⟨rfl, hq⟩ (Nat.le_refl _) (Nat.le_refl _)
  by_cases w3 : w = 3
  · subst w3
    refine AX.tsIn 59 rfl (by decide) (by decide) rfl (by decide) ?_
    refine AX.aload_n rfl rfl ?_
    refine AX.getf rfl (Q0 hq) rfl ?_
    refine AX.iload_n rfl rfl ?_
    refine AX.cVI rfl rfl rfl (Q19 hq) (sG_baseOf hq _) (fun h hq => ?_)
    exact AX.ireturn rfl rfl ⟨rfl, hq⟩ (Nat.le_refl _) (Nat.le_refl _)
  refine AX.tsOut rfl (sw4 w0 w1 w2 w3) ?_
  refine AX.iconstV (v := (-1)) rfl (by decide) ?_
  exact AX.ireturn rfl rfl ⟨by simp [zQ_group, w0, w1, w2, w3], hq⟩ (Nat.le_refl _) (Nat.le_refl _)
theorem sQ_member (hq : isQ z T h) (g k : Int32) : AM (d + 4) kQ_member 0 0 none [.ref 0, .int g, .int k] h (fun r h' => r = some (.int (zG_member z g k)) ∧ isQ z T h') := by
  refine AX.aload_n rfl rfl ?_
  refine AX.getf rfl (Q0 hq) rfl ?_
  refine AX.iload_n rfl rfl ?_
  refine AX.iload_n rfl rfl ?_
  refine AX.cVI rfl rfl rfl (Q19 hq) (sG_memberAt hq _ _) (fun h hq => ?_)
  exact AX.ireturn rfl rfl ⟨rfl, hq⟩ (Nat.le_refl _) (Nat.le_refl _)
theorem sQ_waiting (hq : isQ z T h) (k : Int32) : AM (d + 2) kQ_waiting 0 0 none [.ref 0, .int k] h (fun r h' => r = some (.int (zat z 6 k)) ∧ isQ z T h') := by
  refine AX.aload_n rfl rfl ?_
  refine AX.getf rfl (Q0 hq) rfl ?_
  refine AX.iload_n rfl rfl ?_
  refine AX.cVI rfl rfl rfl (QRo hq 6 (by decide)) (wAt hq 6 (by decide) _) (fun h hq => ?_)
  exact AX.ireturn rfl rfl ⟨rfl, hq⟩ (Nat.le_refl _) (Nat.le_refl _)
theorem sQ_landed (hq : isQ z T h) (k : Int32) : AM (d + 2) kQ_landed 0 0 none [.ref 0, .int k] h (fun r h' => r = some (.int (zat z 7 k)) ∧ isQ z T h') := by
  refine AX.aload_n rfl rfl ?_
  refine AX.getf rfl (Q0 hq) rfl ?_
  refine AX.iload_n rfl rfl ?_
  refine AX.cVI rfl rfl rfl (QRo hq 7 (by decide)) (wAt hq 7 (by decide) _) (fun h hq => ?_)
  exact AX.ireturn rfl rfl ⟨rfl, hq⟩ (Nat.le_refl _) (Nat.le_refl _)
theorem sQ_where (hq : isQ z T h) (k : Int32) : AM (d + 3) kQ_where 0 0 none [.ref 0, .int k] h (fun r h' => r = some (.int (zat z 2 k)) ∧ isQ z T h') := by
  refine AX.aload_n rfl rfl ?_
  refine AX.getf rfl (Q0 hq) rfl ?_
  refine AX.iload_n rfl rfl ?_
  refine AX.cVI rfl rfl rfl (Q1 hq) (sC_placeOf hq _) (fun h hq => ?_)
  exact AX.ireturn rfl rfl ⟨rfl, hq⟩ (Nat.le_refl _) (Nat.le_refl _)
theorem sQ_why (hq : isQ z T h) (k : Int32) : AM (d + 3) kQ_why 0 0 none [.ref 0, .int k] h (fun r h' => r = some (.int (zat z 3 k)) ∧ isQ z T h') := by
  refine AX.aload_n rfl rfl ?_
  refine AX.getf rfl (Q0 hq) rfl ?_
  refine AX.iload_n rfl rfl ?_
  refine AX.cVI rfl rfl rfl (Q1 hq) (sC_reasonOf hq _) (fun h hq => ?_)
  exact AX.ireturn rfl rfl ⟨rfl, hq⟩ (Nat.le_refl _) (Nat.le_refl _)
def zQ_by (z : zS) (c : Int32) : Int32 := if zat z 3 c = 1 then zat z 5 c else if zat z 3 c = 2 then zQ_fc z c else -1
theorem sQ_by (hq : isQ z T h) (c : Int32) : AM (d + 3) kQ_by 0 0 none [.ref 0, .int c] h (fun r h' => r = some (.int (zQ_by z c)) ∧ isQ z T h') := by
  refine AX.aload_n rfl rfl ?_
  refine AX.getf rfl (Q0 hq) rfl ?_
  refine AX.iload_n rfl rfl ?_
  refine AX.cVI rfl rfl rfl (Q1 hq) (sC_reasonOf hq _) (fun h hq => ?_)
  skip
  by_cases r1 : zat z 3 c = 1
  · have e : zQ_by z c = zat z 5 c := by simp [zQ_by, r1]
    rw [r1, e]
    refine AX.ls (off := 28) 36 rfl (by decide) (by decide) (by decide) ?_
    refine AX.aload_n rfl rfl ?_
    refine AX.getf rfl (Q0 hq) rfl ?_
    refine AX.iload_n rfl rfl ?_
    refine AX.cVI rfl rfl rfl (Q1 hq) (sC_treeSizeOf hq _) (fun h hq => ?_)
    exact AX.ireturn rfl rfl ⟨rfl, hq⟩ (Nat.le_refl _) (Nat.le_refl _)
  by_cases r2 : zat z 3 c = 2
  · have e : zQ_by z c = zQ_fc z c := by simp [zQ_by, r2]
    rw [r2, e]
    refine AX.ls (off := 37) 45 rfl (by decide) (by decide) (by decide) ?_
    refine AX.aload_n rfl rfl ?_
    refine AX.iload_n rfl rfl ?_
    refine AX.cVI rfl rfl rfl (Q0 hq) (sQ_firstClashInTree hq _) (fun h hq => ?_)
    exact AX.ireturn rfl rfl ⟨rfl, hq⟩ (Nat.le_refl _) (Nat.le_refl _)
  refine AX.ls (off := 43) 51 rfl (by decide) ((lv_osw r1 (by decide)).trans ((lv_osw r2 (by decide)).trans rfl)) (by decide) ?_
  refine AX.iconstV (v := (-1)) rfl (by decide) ?_
  exact AX.ireturn rfl rfl ⟨by simp [zQ_by, r1, r2], hq⟩ (Nat.le_refl _) (Nat.le_refl _)
def zParts (z : zS) : Nat → Nat → Int32 → Int32
  | 0, _, acc => acc
  | n + 1, m, acc => zParts z n (m + 1) (acc ||| zat z 1 (zat z 7 (nI m)))
def zQ_parts (z : zS) : Int32 := zParts z (z.2.1 7).length 0 0
theorem sQ_partsOfTree_l : ∀ (n m : Nat) (acc : Int32) (h : ax_H), isQ z T h → (z.2.1 7).length = m + n → AX (d + 3) kQ_partsOfTree 0 0 none 4 [(2, .int (nI m)), (1, .int acc), (0, .ref 0)] [] h 0 0 (ax_ret kQ_partsOfTree 0 0 (fun r h' => r = some (.int (zParts z n m acc)) ∧ isQ z T h')) := by
  intro n
  induction n with
  | zero =>
    intro m acc h hq hb
    have hl := QL hq 7 (by decide)
    refine AX.iload_n rfl rfl ?_
    refine AX.aload_n rfl rfl ?_
    refine AX.getf rfl (Q0 hq) rfl ?_
    refine AX.cVI rfl rfl rfl (QRo hq 7 (by decide)) (wCount hq 7 (by decide)) (fun h hq => ?_)
    refine AX.icmp_ge rfl (fun c1 => ?_) (fun c1 => ?_)
    · refine AX.iload_n rfl rfl ?_
      exact AX.ireturn rfl rfl ⟨rfl, hq⟩ (Nat.le_refl _) (Nat.le_refl _)
    · exact absurd (nI_le (by omega) (by omega)) c1
  | succ n ih =>
    intro m acc h hq hb
    have hl := QL hq 7 (by decide)
    refine AX.iload_n rfl rfl ?_
    refine AX.aload_n rfl rfl ?_
    refine AX.getf rfl (Q0 hq) rfl ?_
    refine AX.cVI rfl rfl rfl (QRo hq 7 (by decide)) (wCount hq 7 (by decide)) (fun h hq => ?_)
    refine AX.icmp_ge rfl (fun c1 => ?_) (fun c1 => ?_)
    · exact absurd c1 (nI_ge (by omega) (by omega))
    · refine AX.iload_n rfl rfl ?_
      refine AX.aload_n rfl rfl ?_
      refine AX.getf rfl (Q0 hq) rfl ?_
      refine AX.aload_n rfl rfl ?_
      refine AX.getf rfl (Q0 hq) rfl ?_
      refine AX.iload_n rfl rfl ?_
      refine AX.cVI rfl rfl rfl (QRo hq 7 (by decide)) (wAt hq 7 (by decide) _) (fun h hq => ?_)
      refine AX.cVI rfl rfl rfl (Q1 hq) (sC_partsOf hq _) (fun h hq => ?_)
      refine AX.ior rfl ?_
      refine AX.istore_n rfl (by decide) ?_
      refine AX.iincV (dn := 1) rfl rfl (by decide) (by decide) ?_
      refine AX.goto rfl ?_
      rw [nI_1]
      simp only [zParts]
      exact ih (m + 1) _ h hq (by omega)
theorem sQ_partsOfTree (hq : isQ z T h) : AM (d + 3) kQ_partsOfTree 0 0 none [.ref 0] h (fun r h' => r = some (.int (zQ_parts z)) ∧ isQ z T h') := by
  refine AX.iconstV (v := 0) rfl (by decide) ?_
  refine AX.istore_n rfl (by decide) ?_
  refine AX.iconstV (v := 0) rfl (by decide) ?_
  refine AX.istore_n rfl (by decide) ?_
  exact sQ_partsOfTree_l _ 0 0 h hq (by omega)
def zQ_counted (z : zS) (w : Int32) : Int32 := if w = 0 then z.1 4 else if w = 1 then z.1 5 else if w = 2 then z.1 7 else if w = 3 then zQ_parts z else -1
theorem sQ_counted (hq : isQ z T h) (w : Int32) : AM (d + 4) kQ_counted 0 0 none [.ref 0, .int w] h (fun r h' => r = some (.int (zQ_counted z w)) ∧ isQ z T h') := by
  refine AX.iload_n rfl rfl ?_
  by_cases w0 : w = 0
  · subst w0
    refine AX.tsIn 32 rfl (by decide) (by decide) rfl (by decide) ?_
    refine AX.aload_n rfl rfl ?_
    refine AX.getf rfl (Q0 hq) rfl ?_
    exact AX.ireturn rfl rfl ⟨rfl, hq⟩ (Nat.le_refl _) (Nat.le_refl _)
  by_cases w1 : w = 1
  · subst w1
    refine AX.tsIn 37 rfl (by decide) (by decide) rfl (by decide) ?_
    refine AX.aload_n rfl rfl ?_
    refine AX.getf rfl (Q0 hq) rfl ?_
    exact AX.ireturn rfl rfl ⟨rfl, hq⟩ (Nat.le_refl _) (Nat.le_refl _)
  by_cases w2 : w = 2
  · subst w2
    refine AX.tsIn 42 rfl (by decide) (by decide) rfl (by decide) ?_
    refine AX.aload_n rfl rfl ?_
    refine AX.getf rfl (Q0 hq) rfl ?_
    refine AX.cVI rfl rfl rfl (Q19 hq) (sG_countAskedInVain hq) (fun h hq => ?_)
    exact AX.ireturn rfl rfl ⟨rfl, hq⟩ (Nat.le_refl _) (Nat.le_refl _)
  by_cases w3 : w = 3
  · subst w3
    refine AX.tsIn 50 rfl (by decide) (by decide) rfl (by decide) ?_
    refine AX.aload_n rfl rfl ?_
    refine AX.cVI rfl rfl rfl (Q0 hq) (sQ_partsOfTree hq) (fun h hq => ?_)
    exact AX.ireturn rfl rfl ⟨rfl, hq⟩ (Nat.le_refl _) (Nat.le_refl _)
  refine AX.tsOut rfl (sw4 w0 w1 w2 w3) ?_
  refine AX.iconstV (v := (-1)) rfl (by decide) ?_
  exact AX.ireturn rfl rfl ⟨by simp [zQ_counted, w0, w1, w2, w3], hq⟩ (Nat.le_refl _) (Nat.le_refl _)
end MQS
end
section
/-! THE MODEL'S CELLS (from place 28 on): its numbers (0 most, 1 width, 2 again, 3 code, 4 changes, 5 jumps, 6 laneSize, 7 treeSize, 8 answers, 9 halvings, 10 lost, 11 paused), its arrays (0 rank, 1 parts, 2 place, 3 jumped, 4 why, 5 size, 6 conflict, 7 lane, 8 tree, 9 begins, 10 state, 11 failures); ahead of them 28 other cells p -/
abbrev mS : Type := (Nat → Int32) × (Nat → Nat → Int32)
def MH (t : mS) : ax_H :=
  [.inr (4, [.int (t.1 0), .int (t.1 1), .int (t.1 2), .int (t.1 3), .int (t.1 4), .int (t.1 5), .int (t.1 6), .int (t.1 7), .int (t.1 8), .int (t.1 9), .int (t.1 10), .int (t.1 11), .ref 29, .ref 30, .ref 31, .ref 32, .ref 33, .ref 34, .ref 35, .ref 36, .ref 37, .ref 38, .ref 39, .ref 40]),
   .inl (0, 40, .inl (t.2 0)), .inl (0, 40, .inl (t.2 1)), .inl (0, 40, .inl (t.2 2)), .inl (0, 40, .inl (t.2 3)), .inl (0, 40, .inl (t.2 4)), .inl (0, 40, .inl (t.2 5)),
   .inl (2, 1600, .inl (t.2 6)), .inl (0, 40, .inl (t.2 7)), .inl (0, 40, .inl (t.2 8)), .inl (2, 40, .inl (t.2 9)), .inl (0, 40, .inl (t.2 10)), .inl (0, 40, .inl (t.2 11))]
def isM (p : ax_H) (t : mS) (h : ax_H) : Prop := p.length = 28 ∧ h = p ++ MH t
def mset (t : mS) (i : Nat) (v : Int32) : mS := (va_up t.1 i v, t.2)
def marr (t : mS) (a k : Nat) (v : Int32) : mS := (t.1, va_up t.2 a (upd (t.2 a) k v))
section MOD
variable {p : ax_H} {t : mS} {h : ax_H} {d : Nat}
theorem isM_at (hm : isM p t h) (i : Nat) : h[28 + i]? = (MH t)[i]? := by
  obtain ⟨h1, rfl⟩ := hm
  rw [List.getElem?_append_right (by omega), show 28 + i - p.length = i by omega]
theorem isM_set (hm : isM p t h) {i : Nat} {e : va_E} {t' : mS} (he : (MH t).set i e = MH t') : isM p t' (h.set (28 + i) e) := by
  obtain ⟨h1, rfl⟩ := hm
  refine ⟨h1, ?_⟩
  rw [← he, List.set_append, if_neg (by omega), show 28 + i - p.length = i by omega]
theorem M0 (hm : isM p t h) : h[28]? = some (.inr (4, [.int (t.1 0), .int (t.1 1), .int (t.1 2), .int (t.1 3), .int (t.1 4), .int (t.1 5), .int (t.1 6), .int (t.1 7), .int (t.1 8), .int (t.1 9), .int (t.1 10), .int (t.1 11), .ref 29, .ref 30, .ref 31, .ref 32, .ref 33, .ref 34, .ref 35, .ref 36, .ref 37, .ref 38, .ref 39, .ref 40])) := isM_at hm 0
theorem MA (hm : isM p t h) (a : Nat) (ha : a < 12) (h6 : ¬ a = 6) (h9 : ¬ a = 9) : h[29 + a]? = some (.inl (0, 40, .inl (t.2 a))) := by
  have e := isM_at hm (1 + a)
  rw [← Nat.add_assoc] at e
  rw [e]
  rcases (show a = 0 ∨ a = 1 ∨ a = 2 ∨ a = 3 ∨ a = 4 ∨ a = 5 ∨ a = 7 ∨ a = 8 ∨ a = 10 ∨ a = 11 by omega) with rfl | rfl | rfl | rfl | rfl | rfl | rfl | rfl | rfl | rfl <;> rfl
theorem MA6 (hm : isM p t h) : h[35]? = some (.inl (2, 1600, .inl (t.2 6))) := isM_at hm 7
theorem MA9 (hm : isM p t h) : h[38]? = some (.inl (2, 40, .inl (t.2 9))) := isM_at hm 10
theorem MW (hm : isM p t h) (a k : Nat) (v : Int32) (ha : a < 12) (h6 : ¬ a = 6) (h9 : ¬ a = 9) : isM p (marr t a k v) (h.set (29 + a) (.inl (0, 40, .inl (upd (t.2 a) k v)))) := by
  have e : 29 + a = 28 + (1 + a) := by omega
  rw [e]
  refine isM_set hm ?_
  rcases (show a = 0 ∨ a = 1 ∨ a = 2 ∨ a = 3 ∨ a = 4 ∨ a = 5 ∨ a = 7 ∨ a = 8 ∨ a = 10 ∨ a = 11 by omega) with rfl | rfl | rfl | rfl | rfl | rfl | rfl | rfl | rfl | rfl <;> rfl
theorem MW6 (hm : isM p t h) (k : Nat) (v : Int32) : isM p (marr t 6 k v) (h.set 35 (.inl (2, 1600, .inl (upd (t.2 6) k v)))) := isM_set (i := 7) hm rfl
theorem MW9 (hm : isM p t h) (k : Nat) (v : Int32) : isM p (marr t 9 k v) (h.set 38 (.inl (2, 40, .inl (upd (t.2 9) k v)))) := isM_set (i := 10) hm rfl
theorem MS {fs : List Value} (hm : isM p t h) (i : Nat) (v : Int32) (hi : i < 12) (hf : fs = (([.int (t.1 0), .int (t.1 1), .int (t.1 2), .int (t.1 3), .int (t.1 4), .int (t.1 5), .int (t.1 6), .int (t.1 7), .int (t.1 8), .int (t.1 9), .int (t.1 10), .int (t.1 11), .ref 29, .ref 30, .ref 31, .ref 32, .ref 33, .ref 34, .ref 35, .ref 36, .ref 37, .ref 38, .ref 39, .ref 40] : List Value)).set i (.int v)) : isM p (mset t i v) (h.set 28 (.inr (4, fs))) := by
  refine isM_set (i := 0) hm ?_
  subst hf
  rcases (show i = 0 ∨ i = 1 ∨ i = 2 ∨ i = 3 ∨ i = 4 ∨ i = 5 ∨ i = 6 ∨ i = 7 ∨ i = 8 ∨ i = 9 ∨ i = 10 ∨ i = 11 by omega) with rfl | rfl | rfl | rfl | rfl | rfl | rfl | rfl | rfl | rfl | rfl | rfl <;> rfl
theorem mset_same {t : mS} {i : Nat} {v : Int32} (h : t.1 i = v) : mset t i v = t := by
  unfold mset
  have : va_up t.1 i v = t.1 := by
    funext j
    unfold va_up
    by_cases e : j = i
    · rw [if_pos e, e, h]
    · rw [if_neg e]
  rw [this]
variable {k C S : Nat} {X : Option (Nat × (Nat → Int32))} {pc nx a1 a2 : Nat} {lv : ax_L} {st : List Value} {n1 n2 : Nat} {F : ax_F}
theorem AX.ialdX {i n : Nat} {f : Nat → Int32} {j v : Int32} (hi : m_i k pc = some (.iaload, 1, nx, a1, a2)) (hh : h[i]? = some (.inl (0, n, .inl f))) (hn : n < 2 ^ 31) (hx : ∃ c : Nat, c < n ∧ j = nI c ∧ f c = v) (kk : AX d k C S X nx lv (.int v :: st) h n1 n2 F) : AX d k C S X pc lv (.int j :: .ref i :: st) h n1 n2 F := by
  obtain ⟨c, h1, rfl, rfl⟩ := hx
  refine AX.iald hi hh (vp_in_nI h1 hn) ?_
  rw [nI_clamp (by omega)]
  exact kk
theorem AX.zaldX {i n : Nat} {f : Nat → Int32} {j v : Int32} (hi : m_i k pc = some (.baload, 1, nx, a1, a2)) (hh : h[i]? = some (.inl (2, n, .inl f))) (hn : n < 2 ^ 31) (hx : ∃ c : Nat, c < n ∧ j = nI c ∧ f c = v) (kk : AX d k C S X nx lv (.int v :: st) h n1 n2 F) : AX d k C S X pc lv (.int j :: .ref i :: st) h n1 n2 F := by
  obtain ⟨c, h1, rfl, rfl⟩ := hx
  refine AX.zald hi hh (vp_in_nI h1 hn) ?_
  rw [nI_clamp (by omega)]
  exact kk
theorem AX.iastX {i n : Nat} {f : Nat → Int32} {j x : Int32} (c : Nat) (hi : m_i k pc = some (.iastore, 1, nx, a1, a2)) (hh : h[i]? = some (.inl (0, n, .inl f))) (hn : n < 2 ^ 31) (hc : c < n) (hj : j = nI c) (kk : AX d k C S X nx lv st (h.set i (.inl (0, n, .inl (upd f c x)))) n1 n2 F) : AX d k C S X pc lv (.int x :: .int j :: .ref i :: st) h n1 n2 F := by
  subst hj
  refine AX.iast hi hh (vp_in_nI hc hn) ?_
  rw [nI_clamp (by omega)]
  exact kk
theorem AX.zastX {i n : Nat} {f : Nat → Int32} {j x : Int32} (c : Nat) (hi : m_i k pc = some (.bastore, 1, nx, a1, a2)) (hh : h[i]? = some (.inl (2, n, .inl f))) (hn : n < 2 ^ 31) (hc : c < n) (hj : j = nI c) (hx : vp_nar .boolean x = x) (kk : AX d k C S X nx lv st (h.set i (.inl (2, n, .inl (upd f c x)))) n1 n2 F) : AX d k C S X pc lv (.int x :: .int j :: .ref i :: st) h n1 n2 F := by
  subst hj
  refine AX.zast hi hh (vp_in_nI hc hn) ?_
  rw [nI_clamp (by omega), hx]
  exact kk
end MOD
end
section
/-! THE MODEL'S READS -/
section MR
variable {p : ax_H} {t : mS} {h : ax_H} {d : Nat}
theorem sM_isChange {n : Nat} (hn4 : t.1 4 = nI n) (hn : n ≤ 40) (hm : isM p t h) (c : Int32) : AM d kM_isChange 0 0 none [.ref 28, .int c] h (fun r h' => r = some (.int (bI (!decide (c < 0) && decide (c < nI n)))) ∧ isM p t h') := by
  refine AX.iload_n rfl rfl ?_
  refine AX.if_lt rfl (fun c1 => ?_) (fun c1 => ?_)
  · refine AX.iconstV (v := 0) rfl (by decide) ?_
    exact AX.zreturn rfl rfl (by decide) ⟨by first | (have c3 := Int32.not_le.mp (hn4 ▸ c2); simp [c1, c3, bI]) | (have c3 := Int32.not_lt.mpr (hn4 ▸ c2); simp [c1, c3, bI]) | simp [c1, bI], hm⟩ (Nat.le_refl _) (Nat.le_refl _)
  · refine AX.iload_n rfl rfl ?_
    refine AX.aload_n rfl rfl ?_
    refine AX.getf rfl (M0 hm) rfl ?_
    refine AX.icmp_ge rfl (fun c2 => ?_) (fun c2 => ?_)
    · refine AX.iconstV (v := 0) rfl (by decide) ?_
      exact AX.zreturn rfl rfl (by decide) ⟨by first | (have c3 := Int32.not_le.mp (hn4 ▸ c2); simp [c1, c3, bI]) | (have c3 := Int32.not_lt.mpr (hn4 ▸ c2); simp [c1, c3, bI]) | simp [c1, bI], hm⟩ (Nat.le_refl _) (Nat.le_refl _)
    · refine AX.iconstV (v := 1) rfl (by decide) ?_
      refine AX.goto rfl ?_
      exact AX.zreturn rfl rfl (by decide) ⟨by first | (have c3 := Int32.not_le.mp (hn4 ▸ c2); simp [c1, c3, bI]) | (have c3 := Int32.not_lt.mpr (hn4 ▸ c2); simp [c1, c3, bI]) | simp [c1, bI], hm⟩ (Nat.le_refl _) (Nat.le_refl _)
def mBef (t : mS) (a b : Nat) : Bool := if t.2 3 a = t.2 3 b then (if t.2 0 a = t.2 0 b then !decide (nI b ≤ nI a) else !decide (t.2 0 a ≤ t.2 0 b)) else (decide (t.2 3 b = 0) || (!decide (t.2 3 a ≤ 0) && !decide (t.2 3 b ≤ t.2 3 a)))
theorem sM_isBefore (hm : isM p t h) {a b : Nat} (ha : a < 40) (hb : b < 40) : AM d kM_isBefore 0 0 none [.ref 28, .int (nI a), .int (nI b)] h (fun r h' => r = some (.int (bI (mBef t a b))) ∧ isM p t h') := by
  refine AX.aload_n rfl rfl ?_
  refine AX.getf rfl (M0 hm) rfl ?_
  refine AX.iload_n rfl rfl ?_
  refine AX.ialdX rfl (MA hm 3 (by decide) (by decide) (by decide)) (by decide) (⟨a, ha, rfl, rfl⟩) ?_
  refine AX.aload_n rfl rfl ?_
  refine AX.getf rfl (M0 hm) rfl ?_
  refine AX.iload_n rfl rfl ?_
  refine AX.ialdX rfl (MA hm 3 (by decide) (by decide) (by decide)) (by decide) (⟨b, hb, rfl, rfl⟩) ?_
  refine AX.icmp_eq rfl (fun c1 => ?_) (fun c1 => ?_)
  · refine AX.aload_n rfl rfl ?_
    refine AX.getf rfl (M0 hm) rfl ?_
    refine AX.iload_n rfl rfl ?_
    refine AX.ialdX rfl (MA hm 0 (by decide) (by decide) (by decide)) (by decide) (⟨a, ha, rfl, rfl⟩) ?_
    refine AX.aload_n rfl rfl ?_
    refine AX.getf rfl (M0 hm) rfl ?_
    refine AX.iload_n rfl rfl ?_
    refine AX.ialdX rfl (MA hm 0 (by decide) (by decide) (by decide)) (by decide) (⟨b, hb, rfl, rfl⟩) ?_
    refine AX.icmp_eq rfl (fun c2 => ?_) (fun c2 => ?_)
    · refine AX.iload_n rfl rfl ?_
      refine AX.iload_n rfl rfl ?_
      refine AX.icmp_ge rfl (fun c3 => ?_) (fun c3 => ?_)
      · refine AX.iconstV (v := 0) rfl (by decide) ?_
        exact AX.zreturn rfl rfl (by decide) ⟨by first | (simp [mBef, c1, c2, c3, bI]; done) | (rw [mBef, if_neg c1]; simp [c2, bI]; done), hm⟩ (Nat.le_refl _) (Nat.le_refl _)
      · refine AX.iconstV (v := 1) rfl (by decide) ?_
        refine AX.goto rfl ?_
        exact AX.zreturn rfl rfl (by decide) ⟨by first | (simp [mBef, c1, c2, c3, bI]; done) | (rw [mBef, if_neg c1]; simp [c2, bI]; done), hm⟩ (Nat.le_refl _) (Nat.le_refl _)
    · refine AX.aload_n rfl rfl ?_
      refine AX.getf rfl (M0 hm) rfl ?_
      refine AX.iload_n rfl rfl ?_
      refine AX.ialdX rfl (MA hm 0 (by decide) (by decide) (by decide)) (by decide) (⟨a, ha, rfl, rfl⟩) ?_
      refine AX.aload_n rfl rfl ?_
      refine AX.getf rfl (M0 hm) rfl ?_
      refine AX.iload_n rfl rfl ?_
      refine AX.ialdX rfl (MA hm 0 (by decide) (by decide) (by decide)) (by decide) (⟨b, hb, rfl, rfl⟩) ?_
      refine AX.icmp_le rfl (fun c3 => ?_) (fun c3 => ?_)
      · refine AX.iconstV (v := 0) rfl (by decide) ?_
        refine AX.goto rfl ?_
        exact AX.zreturn rfl rfl (by decide) ⟨by first | (simp [mBef, c1, c2, c3, bI]; done) | (rw [mBef, if_neg c1]; simp [c2, bI]; done), hm⟩ (Nat.le_refl _) (Nat.le_refl _)
      · refine AX.iconstV (v := 1) rfl (by decide) ?_
        refine AX.goto rfl ?_
        exact AX.zreturn rfl rfl (by decide) ⟨by first | (simp [mBef, c1, c2, c3, bI]; done) | (rw [mBef, if_neg c1]; simp [c2, bI]; done), hm⟩ (Nat.le_refl _) (Nat.le_refl _)
  · refine AX.aload_n rfl rfl ?_
    refine AX.getf rfl (M0 hm) rfl ?_
    refine AX.iload_n rfl rfl ?_
    refine AX.ialdX rfl (MA hm 3 (by decide) (by decide) (by decide)) (by decide) (⟨b, hb, rfl, rfl⟩) ?_
    refine AX.if_eq rfl (fun c2 => ?_) (fun c2 => ?_)
    · refine AX.iconstV (v := 1) rfl (by decide) ?_
      refine AX.goto rfl ?_
      exact AX.zreturn rfl rfl (by decide) ⟨by first | (simp [mBef, c1, c2, bI]; done) | (rw [mBef, if_neg c1]; simp [c2, bI]; done), hm⟩ (Nat.le_refl _) (Nat.le_refl _)
    · refine AX.aload_n rfl rfl ?_
      refine AX.getf rfl (M0 hm) rfl ?_
      refine AX.iload_n rfl rfl ?_
      refine AX.ialdX rfl (MA hm 3 (by decide) (by decide) (by decide)) (by decide) (⟨a, ha, rfl, rfl⟩) ?_
      refine AX.if_le rfl (fun c3 => ?_) (fun c3 => ?_)
      · refine AX.iconstV (v := 0) rfl (by decide) ?_
        exact AX.zreturn rfl rfl (by decide) ⟨by first | (simp [mBef, c1, c2, c3, bI]; done) | (rw [mBef, if_neg c1]; simp [c2, bI]; done), hm⟩ (Nat.le_refl _) (Nat.le_refl _)
      · refine AX.aload_n rfl rfl ?_
        refine AX.getf rfl (M0 hm) rfl ?_
        refine AX.iload_n rfl rfl ?_
        refine AX.ialdX rfl (MA hm 3 (by decide) (by decide) (by decide)) (by decide) (⟨a, ha, rfl, rfl⟩) ?_
        refine AX.aload_n rfl rfl ?_
        refine AX.getf rfl (M0 hm) rfl ?_
        refine AX.iload_n rfl rfl ?_
        refine AX.ialdX rfl (MA hm 3 (by decide) (by decide) (by decide)) (by decide) (⟨b, hb, rfl, rfl⟩) ?_
        refine AX.icmp_ge rfl (fun c4 => ?_) (fun c4 => ?_)
        · refine AX.iconstV (v := 0) rfl (by decide) ?_
          exact AX.zreturn rfl rfl (by decide) ⟨by first | (simp [mBef, c1, c2, c3, c4, bI]; done) | (rw [mBef, if_neg c1]; simp [c2, bI]; done), hm⟩ (Nat.le_refl _) (Nat.le_refl _)
        · refine AX.iconstV (v := 1) rfl (by decide) ?_
          refine AX.goto rfl ?_
          exact AX.zreturn rfl rfl (by decide) ⟨by first | (simp [mBef, c1, c2, c3, c4, bI]; done) | (rw [mBef, if_neg c1]; simp [c2, bI]; done), hm⟩ (Nat.le_refl _) (Nat.le_refl _)
theorem ix_ab {a b : Nat} : (40 : Int32) * nI a + nI b = nI (40 * a + b) := by
  rw [show (40 : Int32) = nI 40 from rfl, pk_mul, nI_add]
theorem sM_isConflict {cf : Nat → Nat → Bool} (hcf : ∀ a b, a < 40 → b < 40 → t.2 6 (40 * a + b) = bI (cf a b)) (hm : isM p t h) {a b : Nat} (ha : a < 40) (hb : b < 40) : AM d kM_isConflict 0 0 none [.ref 28, .int (nI a), .int (nI b)] h (fun r h' => r = some (.int (bI (cf a b))) ∧ isM p t h') := by
  refine AX.aload_n rfl rfl ?_
  refine AX.getf rfl (M0 hm) rfl ?_
  refine AX.bipushV (v := 40) rfl (by decide) ?_
  refine AX.iload_n rfl rfl ?_
  refine AX.imul rfl ?_
  refine AX.iload_n rfl rfl ?_
  refine AX.iadd rfl ?_
  refine AX.zaldX rfl (MA6 hm) (by decide) (⟨40 * a + b, by omega, ix_ab, hcf a b ha hb⟩) ?_
  exact AX.zreturn rfl rfl (bI_ok _) ⟨rfl, hm⟩ (Nat.le_refl _) (Nat.le_refl _)
theorem sM_inTree_l {cf : Nat → Nat → Bool} {Tr : List Nat} (hcf : ∀ a b, a < 40 → b < 40 → t.2 6 (40 * a + b) = bI (cf a b)) (h7 : t.1 7 = nI Tr.length) (hT : Tr.length ≤ 40) (hT2 : ∀ i, i < Tr.length → t.2 8 i = nI (Tr.getD i 0) ∧ Tr.getD i 0 < 40) {c : Nat} (hc : c < 40) : ∀ (n m : Nat) (h : ax_H), isM p t h → Tr.length = m + n →
    AX (d + 1) kM_inTree 0 0 none 2 [(2, .int (nI m)), (0, .ref 28), (1, .int (nI c))] [] h 0 0 (ax_ret kM_inTree 0 0 (fun r h' => r = some (.int (match (Tr.drop m).find? (fun a => cf a c) with | some a => nI a | none => -1)) ∧ isM p t h')) := by
  intro n
  induction n with
  | zero =>
    intro m h hm hb
    refine AX.iload_n rfl rfl ?_
    refine AX.aload_n rfl rfl ?_
    refine AX.getf rfl (M0 hm) rfl ?_
    refine AX.icmp_ge rfl (fun c1 => ?_) (fun c1 => ?_)
    · refine AX.iconstV (v := (-1)) rfl (by decide) ?_
      exact AX.ireturn rfl rfl ⟨by rw [List.drop_eq_nil_of_le (by omega)]; rfl, hm⟩ (Nat.le_refl _) (Nat.le_refl _)
    · exact absurd (h7 ▸ nI_le (by omega) (by omega)) c1
  | succ n ih =>
    intro m h hm hb
    have hd : Tr.drop m = Tr.getD m 0 :: Tr.drop (m + 1) := by
      rw [List.drop_eq_getElem_cons (by omega), List.getD_eq_getElem?_getD, List.getElem?_eq_getElem (by omega)]
      rfl
    refine AX.iload_n rfl rfl ?_
    refine AX.aload_n rfl rfl ?_
    refine AX.getf rfl (M0 hm) rfl ?_
    refine AX.icmp_ge rfl (fun c1 => ?_) (fun c1 => ?_)
    · exact absurd (h7 ▸ c1) (nI_ge (by omega) (by omega))
    · refine AX.aload_n rfl rfl ?_
      refine AX.aload_n rfl rfl ?_
      refine AX.getf rfl (M0 hm) rfl ?_
      refine AX.iload_n rfl rfl ?_
      refine AX.ialdX rfl (MA hm 8 (by decide) (by decide) (by decide)) (by decide) (⟨m, by omega, rfl, (hT2 m (by omega)).1⟩) ?_
      refine AX.iload_n rfl rfl ?_
      refine AX.cVI rfl rfl rfl (M0 hm) (sM_isConflict hcf hm (hT2 m (by omega)).2 hc) (fun h hm => ?_)
      refine AX.if_eqB rfl (fun c2 => ?_) (fun c2 => ?_)
      · refine AX.iincV (dn := 1) rfl rfl (by decide) (by decide) ?_
        refine AX.goto rfl ?_
        rw [nI_1, show (Tr.drop m).find? (fun a => cf a c) = (Tr.drop (m + 1)).find? (fun a => cf a c) by rw [hd, List.find?_cons, c2]]
        exact ih (m + 1) h hm (by omega)
      · refine AX.aload_n rfl rfl ?_
        refine AX.getf rfl (M0 hm) rfl ?_
        refine AX.iload_n rfl rfl ?_
        refine AX.ialdX rfl (MA hm 8 (by decide) (by decide) (by decide)) (by decide) (⟨m, by omega, rfl, (hT2 m (by omega)).1⟩) ?_
        exact AX.ireturn rfl rfl ⟨by rw [hd, List.find?_cons, c2], hm⟩ (Nat.le_refl _) (Nat.le_refl _)
def yFC (cf : Nat → Nat → Bool) (Tr : List Nat) (c : Nat) : Int32 := match Tr.find? (fun a => cf a c) with
  | some a => nI a
  | none => -1
theorem sM_inTree {cf : Nat → Nat → Bool} {Tr : List Nat} (hcf : ∀ a b, a < 40 → b < 40 → t.2 6 (40 * a + b) = bI (cf a b)) (h7 : t.1 7 = nI Tr.length) (hT : Tr.length ≤ 40) (hT2 : ∀ i, i < Tr.length → t.2 8 i = nI (Tr.getD i 0) ∧ Tr.getD i 0 < 40) (hm : isM p t h) {c : Nat} (hc : c < 40) : AM (d + 1) kM_inTree 0 0 none [.ref 28, .int (nI c)] h (fun r h' => r = some (.int (yFC cf Tr c)) ∧ isM p t h') := by
  refine AX.iconstV (v := 0) rfl (by decide) ?_
  refine AX.istore_n rfl (by decide) ?_
  exact sM_inTree_l hcf h7 hT hT2 hc Tr.length 0 h hm (by omega)
def LaneOk (t : mS) (L : List Nat) (B : List Bool) : Prop := t.1 6 = nI L.length ∧ L.length ≤ 40 ∧ B.length = L.length ∧ ∀ i, i < L.length → t.2 7 i = nI (L.getD i 0) ∧ L.getD i 0 < 40 ∧ t.2 9 (L.getD i 0) = bI (B.getD i false)
def mAdd (n : Int32) (b : Bool) : Int32 := if b = true then n + 1 else n + 0
def mSt : List Bool → Nat → Int32 → Int32 → Nat
  | [], k, _, _ => k
  | b :: bs, k, n, g => if mAdd n b = g then k else mSt bs (k + 1) (mAdd n b) g
def mCnt : List Bool → Int32 → Int32
  | [], n => n
  | b :: bs, n => mCnt bs (mAdd n b)
theorem drop_getD {α : Type} {l : List α} {m : Nat} {x : α} (h : m < l.length) : l.drop m = l.getD m x :: l.drop (m + 1) := by
  rw [List.drop_eq_getElem_cons h, List.getD_eq_getElem?_getD, List.getElem?_eq_getElem h]
  rfl
theorem sM_startOf_l {L : List Nat} {B : List Bool} (hL : LaneOk t L B) (g : Int32) : ∀ (r m : Nat) (n : Int32) (h : ax_H), isM p t h → L.length = m + r →
    AX d kM_startOf 0 0 none 4 [(3, .int (nI m)), (2, .int n), (0, .ref 28), (1, .int g)] [] h 0 0 (ax_ret kM_startOf 0 0 (fun v h' => v = some (.int (nI (mSt (B.drop m) m n g))) ∧ isM p t h')) := by
  obtain ⟨h6, hL4, hB, hL2⟩ := hL
  intro r
  induction r with
  | zero =>
    intro m n h hm hb
    refine AX.iload_n rfl rfl ?_
    refine AX.aload_n rfl rfl ?_
    refine AX.getf rfl (M0 hm) rfl ?_
    refine AX.icmp_ge rfl (fun c1 => ?_) (fun c1 => ?_)
    · refine AX.aload_n rfl rfl ?_
      refine AX.getf rfl (M0 hm) rfl ?_
      exact AX.ireturn rfl rfl ⟨by rw [List.drop_eq_nil_of_le (by omega), h6, show L.length = m by omega]; rfl, hm⟩ (Nat.le_refl _) (Nat.le_refl _)
    · exact absurd (h6 ▸ nI_le (by omega) (by omega)) c1
  | succ r ih =>
    intro m n h hm hb
    have hd := drop_getD (l := B) (m := m) (x := false) (by omega)
    have h2 := hL2 m (by omega)
    refine AX.iload_n rfl rfl ?_
    refine AX.aload_n rfl rfl ?_
    refine AX.getf rfl (M0 hm) rfl ?_
    refine AX.icmp_ge rfl (fun c1 => ?_) (fun c1 => ?_)
    · exact absurd (h6 ▸ c1) (nI_ge (by omega) (by omega))
    · refine AX.iload_n rfl rfl ?_
      refine AX.aload_n rfl rfl ?_
      refine AX.getf rfl (M0 hm) rfl ?_
      refine AX.aload_n rfl rfl ?_
      refine AX.getf rfl (M0 hm) rfl ?_
      refine AX.iload_n rfl rfl ?_
      refine AX.ialdX rfl (MA hm 7 (by decide) (by decide) (by decide)) (by decide) (⟨m, by omega, rfl, h2.1⟩) ?_
      refine AX.zaldX rfl (MA9 hm) (by decide) (⟨L.getD m 0, h2.2.1, rfl, h2.2.2⟩) ?_
      refine AX.if_eqB rfl (fun c2 => ?_) (fun c2 => ?_)
      · refine AX.iconstV (v := 0) rfl (by decide) ?_
        refine AX.iadd rfl ?_
        refine AX.istore_n rfl (by decide) ?_
        refine AX.iload_n rfl rfl ?_
        refine AX.iload_n rfl rfl ?_
        refine AX.icmp_ne rfl (fun c3 => ?_) (fun c3 => ?_)
        · refine AX.iincV (dn := 1) rfl rfl (by decide) (by decide) ?_
          refine AX.goto rfl ?_
          rw [nI_1, hd, mSt, if_neg (by rw [mAdd, c2]; exact c3)]
          have := ih (m + 1) (mAdd n (B.getD m false)) h hm (by omega)
          rw [show mAdd n (B.getD m false) = _ by rw [mAdd, c2]] at this ⊢
          exact this
        · refine AX.iload_n rfl rfl ?_
          exact AX.ireturn rfl rfl ⟨by rw [hd, mSt, if_pos (by rw [mAdd, c2]; exact c3)], hm⟩ (Nat.le_refl _) (Nat.le_refl _)
      · refine AX.iconstV (v := 1) rfl (by decide) ?_
        refine AX.goto rfl ?_
        refine AX.iadd rfl ?_
        refine AX.istore_n rfl (by decide) ?_
        refine AX.iload_n rfl rfl ?_
        refine AX.iload_n rfl rfl ?_
        refine AX.icmp_ne rfl (fun c3 => ?_) (fun c3 => ?_)
        · refine AX.iincV (dn := 1) rfl rfl (by decide) (by decide) ?_
          refine AX.goto rfl ?_
          rw [nI_1, hd, mSt, if_neg (by rw [mAdd, c2]; exact c3)]
          have := ih (m + 1) (mAdd n (B.getD m false)) h hm (by omega)
          rw [show mAdd n (B.getD m false) = _ by rw [mAdd, c2]] at this ⊢
          exact this
        · refine AX.iload_n rfl rfl ?_
          exact AX.ireturn rfl rfl ⟨by rw [hd, mSt, if_pos (by rw [mAdd, c2]; exact c3)], hm⟩ (Nat.le_refl _) (Nat.le_refl _)
def mS0 (B : List Bool) (g : Int32) : Nat := mSt B 0 (-1) g
theorem sM_startOf {L : List Nat} {B : List Bool} (hL : LaneOk t L B) (hm : isM p t h) (g : Int32) : AM d kM_startOf 0 0 none [.ref 28, .int g] h (fun v h' => v = some (.int (nI (mS0 B g))) ∧ isM p t h') := by
  refine AX.iconstV (v := (-1)) rfl (by decide) ?_
  refine AX.istore_n rfl (by decide) ?_
  refine AX.iconstV (v := 0) rfl (by decide) ?_
  refine AX.istore_n rfl (by decide) ?_
  exact sM_startOf_l hL g L.length 0 (-1) h hm (by omega)
theorem sM_groupMany_l {L : List Nat} {B : List Bool} (hL : LaneOk t L B) : ∀ (r m : Nat) (n : Int32) (h : ax_H), isM p t h → L.length = m + r →
    AX d kM_groupMany 0 0 none 4 [(2, .int (nI m)), (1, .int n), (0, .ref 28)] [] h 0 0 (ax_ret kM_groupMany 0 0 (fun v h' => v = some (.int (mCnt (B.drop m) n)) ∧ isM p t h')) := by
  obtain ⟨h6, hL4, hB, hL2⟩ := hL
  intro r
  induction r with
  | zero =>
    intro m n h hm hb
    refine AX.iload_n rfl rfl ?_
    refine AX.aload_n rfl rfl ?_
    refine AX.getf rfl (M0 hm) rfl ?_
    refine AX.icmp_ge rfl (fun c1 => ?_) (fun c1 => ?_)
    · refine AX.iload_n rfl rfl ?_
      exact AX.ireturn rfl rfl ⟨by rw [List.drop_eq_nil_of_le (by omega)]; rfl, hm⟩ (Nat.le_refl _) (Nat.le_refl _)
    · exact absurd (h6 ▸ nI_le (by omega) (by omega)) c1
  | succ r ih =>
    intro m n h hm hb
    have hd := drop_getD (l := B) (m := m) (x := false) (by omega)
    have h2 := hL2 m (by omega)
    refine AX.iload_n rfl rfl ?_
    refine AX.aload_n rfl rfl ?_
    refine AX.getf rfl (M0 hm) rfl ?_
    refine AX.icmp_ge rfl (fun c1 => ?_) (fun c1 => ?_)
    · exact absurd (h6 ▸ c1) (nI_ge (by omega) (by omega))
    · refine AX.iload_n rfl rfl ?_
      refine AX.aload_n rfl rfl ?_
      refine AX.getf rfl (M0 hm) rfl ?_
      refine AX.aload_n rfl rfl ?_
      refine AX.getf rfl (M0 hm) rfl ?_
      refine AX.iload_n rfl rfl ?_
      refine AX.ialdX rfl (MA hm 7 (by decide) (by decide) (by decide)) (by decide) (⟨m, by omega, rfl, h2.1⟩) ?_
      refine AX.zaldX rfl (MA9 hm) (by decide) (⟨L.getD m 0, h2.2.1, rfl, h2.2.2⟩) ?_
      refine AX.if_eqB rfl (fun c2 => ?_) (fun c2 => ?_)
      · refine AX.iconstV (v := 0) rfl (by decide) ?_
        refine AX.iadd rfl ?_
        refine AX.istore_n rfl (by decide) ?_
        refine AX.iincV (dn := 1) rfl rfl (by decide) (by decide) ?_
        refine AX.goto rfl ?_
        rw [nI_1, hd, mCnt]
        have := ih (m + 1) (mAdd n (B.getD m false)) h hm (by omega)
        rw [show mAdd n (B.getD m false) = _ by rw [mAdd, c2]] at this ⊢
        exact this
      · refine AX.iconstV (v := 1) rfl (by decide) ?_
        refine AX.goto rfl ?_
        refine AX.iadd rfl ?_
        refine AX.istore_n rfl (by decide) ?_
        refine AX.iincV (dn := 1) rfl rfl (by decide) (by decide) ?_
        refine AX.goto rfl ?_
        rw [nI_1, hd, mCnt]
        have := ih (m + 1) (mAdd n (B.getD m false)) h hm (by omega)
        rw [show mAdd n (B.getD m false) = _ by rw [mAdd, c2]] at this ⊢
        exact this
theorem sM_groupMany {L : List Nat} {B : List Bool} (hL : LaneOk t L B) (hm : isM p t h) : AM d kM_groupMany 0 0 none [.ref 28] h (fun v h' => v = some (.int (mCnt B 0)) ∧ isM p t h') := by
  refine AX.iconstV (v := 0) rfl (by decide) ?_
  refine AX.istore_n rfl (by decide) ?_
  refine AX.iconstV (v := 0) rfl (by decide) ?_
  refine AX.istore_n rfl (by decide) ?_
  exact sM_groupMany_l hL L.length 0 0 h hm (by omega)
def mIsG (B : List Bool) (g : Int32) : Bool := !decide (g < 0) && !decide (mCnt B 0 ≤ g)
theorem sM_isGroup {L : List Nat} {B : List Bool} (hL : LaneOk t L B) (hm : isM p t h) (g : Int32) : AM (d + 1) kM_isGroup 0 0 none [.ref 28, .int g] h (fun v h' => v = some (.int (bI (mIsG B g))) ∧ isM p t h') := by
  refine AX.iload_n rfl rfl ?_
  refine AX.if_lt rfl (fun c1 => ?_) (fun c1 => ?_)
  · refine AX.iconstV (v := 0) rfl (by decide) ?_
    exact AX.zreturn rfl rfl (by decide) ⟨by simp [mIsG, c1, bI], hm⟩ (Nat.le_refl _) (Nat.le_refl _)
  · refine AX.iload_n rfl rfl ?_
    refine AX.aload_n rfl rfl ?_
    refine AX.cVI rfl rfl rfl (M0 hm) (sM_groupMany hL hm) (fun h hm => ?_)
    refine AX.icmp_ge rfl (fun c2 => ?_) (fun c2 => ?_)
    · refine AX.iconstV (v := 0) rfl (by decide) ?_
      exact AX.zreturn rfl rfl (by decide) ⟨by simp [mIsG, c1, c2, bI], hm⟩ (Nat.le_refl _) (Nat.le_refl _)
    · refine AX.iconstV (v := 1) rfl (by decide) ?_
      refine AX.goto rfl ?_
      exact AX.zreturn rfl rfl (by decide) ⟨by simp [mIsG, c1, c2, bI], hm⟩ (Nat.le_refl _) (Nat.le_refl _)
theorem sM_sizeOf {L : List Nat} {B : List Bool} (hL : LaneOk t L B) (hm : isM p t h) (g : Int32) : AM (d + 1) kM_sizeOf 0 0 none [.ref 28, .int g] h (fun v h' => v = some (.int (nI (mS0 B (g + 1)) - nI (mS0 B g))) ∧ isM p t h') := by
  refine AX.aload_n rfl rfl ?_
  refine AX.iload_n rfl rfl ?_
  refine AX.iconstV (v := 1) rfl (by decide) ?_
  refine AX.iadd rfl ?_
  refine AX.cVI rfl rfl rfl (M0 hm) (sM_startOf hL hm _) (fun h hm => ?_)
  refine AX.aload_n rfl rfl ?_
  refine AX.iload_n rfl rfl ?_
  refine AX.cVI rfl rfl rfl (M0 hm) (sM_startOf hL hm _) (fun h hm => ?_)
  refine AX.isub rfl ?_
  exact AX.ireturn rfl rfl ⟨rfl, hm⟩ (Nat.le_refl _) (Nat.le_refl _)
theorem sM_stateOf {L : List Nat} {B : List Bool} (hL : LaneOk t L B) (hm : isM p t h) (g : Int32) (hg : mS0 B g < L.length) : AM (d + 1) kM_stateOf 0 0 none [.ref 28, .int g] h (fun v h' => v = some (.int (t.2 10 (L.getD (mS0 B g) 0))) ∧ isM p t h') := by
  have h2 := hL.2.2.2 _ hg
  have h4 := hL.2.1
  refine AX.aload_n rfl rfl ?_
  refine AX.getf rfl (M0 hm) rfl ?_
  refine AX.aload_n rfl rfl ?_
  refine AX.getf rfl (M0 hm) rfl ?_
  refine AX.aload_n rfl rfl ?_
  refine AX.iload_n rfl rfl ?_
  refine AX.cVI rfl rfl rfl (M0 hm) (sM_startOf hL hm _) (fun h hm => ?_)
  refine AX.ialdX rfl (MA hm 7 (by decide) (by decide) (by decide)) (by decide) (⟨mS0 B g, by omega, rfl, h2.1⟩) ?_
  refine AX.ialdX rfl (MA hm 10 (by decide) (by decide) (by decide)) (by decide) (⟨_, h2.2.1, rfl, rfl⟩) ?_
  exact AX.ireturn rfl rfl ⟨rfl, hm⟩ (Nat.le_refl _) (Nat.le_refl _)
theorem sM_inLane_l {L : List Nat} {B : List Bool} (hL : LaneOk t L B) {c i : Nat} (hi : i < L.length) (hc : L.getD i 0 = c) (hc4 : c < 40) (hb : ∀ j, j < i → L.getD j 0 ≠ c) : ∀ (r m : Nat) (h : ax_H), isM p t h → i = m + r →
    AX d kM_inLane 0 0 none 2 [(2, .int (nI m)), (0, .ref 28), (1, .int (nI c))] [] h 0 0 (ax_ret kM_inLane 0 0 (fun v h' => v = some (.int (nI i)) ∧ isM p t h')) := by
  obtain ⟨h6, hL4, hB, hL2⟩ := hL
  intro r
  induction r with
  | zero =>
    intro m h hm hr
    have e : m = i := by omega
    subst e
    refine AX.aload_n rfl rfl ?_
    refine AX.getf rfl (M0 hm) rfl ?_
    refine AX.iload_n rfl rfl ?_
    refine AX.ialdX rfl (MA hm 7 (by decide) (by decide) (by decide)) (by decide) (⟨m, by omega, rfl, (hL2 m (by omega)).1⟩) ?_
    refine AX.iload_n rfl rfl ?_
    refine AX.icmp_eq rfl (fun c1 => ?_) (fun c1 => ?_)
    · refine AX.iload_n rfl rfl ?_
      exact AX.ireturn rfl rfl ⟨rfl, hm⟩ (Nat.le_refl _) (Nat.le_refl _)
    · exact absurd (by rw [hc]) c1
  | succ r ih =>
    intro m h hm hr
    refine AX.aload_n rfl rfl ?_
    refine AX.getf rfl (M0 hm) rfl ?_
    refine AX.iload_n rfl rfl ?_
    refine AX.ialdX rfl (MA hm 7 (by decide) (by decide) (by decide)) (by decide) (⟨m, by omega, rfl, (hL2 m (by omega)).1⟩) ?_
    refine AX.iload_n rfl rfl ?_
    refine AX.icmp_eq rfl (fun c1 => ?_) (fun c1 => ?_)
    · exact absurd ((nI_eq (by have := (hL2 m (by omega)).2.1; omega) (by omega)).mp c1) (hb m (by omega))
    · refine AX.iincV (dn := 1) rfl rfl (by decide) (by decide) ?_
      refine AX.goto rfl ?_
      rw [nI_1]
      exact ih (m + 1) h hm (by omega)
theorem sM_inLane {L : List Nat} {B : List Bool} (hL : LaneOk t L B) {c i : Nat} (hi : i < L.length) (hc : L.getD i 0 = c) (hc4 : c < 40) (hb : ∀ j, j < i → L.getD j 0 ≠ c) (hm : isM p t h) : AM d kM_inLane 0 0 none [.ref 28, .int (nI c)] h (fun v h' => v = some (.int (nI i)) ∧ isM p t h') := by
  refine AX.iconstV (v := 0) rfl (by decide) ?_
  refine AX.istore_n rfl (by decide) ?_
  exact sM_inLane_l hL hi hc hc4 hb i 0 h hm (by omega)
theorem sM_isBarred_l {cf : Nat → Nat → Bool} {L : List Nat} {B : List Bool} (hcf : ∀ a b, a < 40 → b < 40 → t.2 6 (40 * a + b) = bI (cf a b)) (hL : LaneOk t L B) {c : Nat} (hc : c < 40) : ∀ (r m : Nat) (b : Bool) (h : ax_H), isM p t h → L.length = m + r →
    AX (d + 1) kM_isBarred 0 0 none 4 [(3, .int (nI m)), (2, .int (bI b)), (0, .ref 28), (1, .int (nI c))] [] h 0 0 (ax_ret kM_isBarred 0 0 (fun v h' => v = some (.int (bI (b || (L.drop m).any (fun a => cf a c)))) ∧ isM p t h')) := by
  obtain ⟨h6, hL4, hB, hL2⟩ := hL
  intro r
  induction r with
  | zero =>
    intro m b h hm hb
    refine AX.iload_n rfl rfl ?_
    refine AX.aload_n rfl rfl ?_
    refine AX.getf rfl (M0 hm) rfl ?_
    refine AX.icmp_ge rfl (fun c1 => ?_) (fun c1 => ?_)
    · refine AX.iload_n rfl rfl ?_
      exact AX.zreturn rfl rfl (bI_ok _) ⟨by rw [List.drop_eq_nil_of_le (by omega)]; simp, hm⟩ (Nat.le_refl _) (Nat.le_refl _)
    · exact absurd (h6 ▸ nI_le (by omega) (by omega)) c1
  | succ r ih =>
    intro m b h hm hb
    have hd := drop_getD (l := L) (m := m) (x := 0) (by omega)
    have h2 := hL2 m (by omega)
    refine AX.iload_n rfl rfl ?_
    refine AX.aload_n rfl rfl ?_
    refine AX.getf rfl (M0 hm) rfl ?_
    refine AX.icmp_ge rfl (fun c1 => ?_) (fun c1 => ?_)
    · exact absurd (h6 ▸ c1) (nI_ge (by omega) (by omega))
    · refine AX.iload_n rfl rfl ?_
      refine AX.if_neB rfl (fun c2 => ?_) (fun c2 => ?_)
      · refine AX.iconstV (v := 1) rfl (by decide) ?_
        refine AX.goto rfl ?_
        refine AX.istore_n rfl (by decide) ?_
        refine AX.iincV (dn := 1) rfl rfl (by decide) (by decide) ?_
        refine AX.goto rfl ?_
        rw [nI_1]
        first
          | (rw [show (b || (L.drop m).any (fun a => cf a c)) = (true || (L.drop (m + 1)).any (fun a => cf a c)) by rw [hd, List.any_cons]; simp only [c1, c2, Bool.true_or, Bool.or_true, Bool.false_or]]; exact ih (m + 1) true h hm (by omega))
          | (rw [show (b || (L.drop m).any (fun a => cf a c)) = (false || (L.drop (m + 1)).any (fun a => cf a c)) by rw [hd, List.any_cons]; simp only [c1, c2, Bool.true_or, Bool.or_true, Bool.false_or]]; exact ih (m + 1) false h hm (by omega))
      · refine AX.aload_n rfl rfl ?_
        refine AX.aload_n rfl rfl ?_
        refine AX.getf rfl (M0 hm) rfl ?_
        refine AX.iload_n rfl rfl ?_
        refine AX.ialdX rfl (MA hm 7 (by decide) (by decide) (by decide)) (by decide) (⟨m, by omega, rfl, h2.1⟩) ?_
        refine AX.iload_n rfl rfl ?_
        refine AX.cVI rfl rfl rfl (M0 hm) (sM_isConflict hcf hm h2.2.1 hc) (fun h hm => ?_)
        refine AX.if_eqB rfl (fun c3 => ?_) (fun c3 => ?_)
        · refine AX.iconstV (v := 0) rfl (by decide) ?_
          refine AX.istore_n rfl (by decide) ?_
          refine AX.iincV (dn := 1) rfl rfl (by decide) (by decide) ?_
          refine AX.goto rfl ?_
          rw [nI_1]
          first
            | (rw [show (b || (L.drop m).any (fun a => cf a c)) = (true || (L.drop (m + 1)).any (fun a => cf a c)) by rw [hd, List.any_cons]; simp only [c1, c2, c3, Bool.true_or, Bool.or_true, Bool.false_or]]; exact ih (m + 1) true h hm (by omega))
            | (rw [show (b || (L.drop m).any (fun a => cf a c)) = (false || (L.drop (m + 1)).any (fun a => cf a c)) by rw [hd, List.any_cons]; simp only [c1, c2, c3, Bool.true_or, Bool.or_true, Bool.false_or]]; exact ih (m + 1) false h hm (by omega))
        · refine AX.iconstV (v := 1) rfl (by decide) ?_
          refine AX.goto rfl ?_
          refine AX.istore_n rfl (by decide) ?_
          refine AX.iincV (dn := 1) rfl rfl (by decide) (by decide) ?_
          refine AX.goto rfl ?_
          rw [nI_1]
          first
            | (rw [show (b || (L.drop m).any (fun a => cf a c)) = (true || (L.drop (m + 1)).any (fun a => cf a c)) by rw [hd, List.any_cons]; simp only [c1, c2, c3, Bool.true_or, Bool.or_true, Bool.false_or]]; exact ih (m + 1) true h hm (by omega))
            | (rw [show (b || (L.drop m).any (fun a => cf a c)) = (false || (L.drop (m + 1)).any (fun a => cf a c)) by rw [hd, List.any_cons]; simp only [c1, c2, c3, Bool.true_or, Bool.or_true, Bool.false_or]]; exact ih (m + 1) false h hm (by omega))
theorem sM_isBarred {cf : Nat → Nat → Bool} {L : List Nat} {B : List Bool} (hcf : ∀ a b, a < 40 → b < 40 → t.2 6 (40 * a + b) = bI (cf a b)) (hL : LaneOk t L B) (hm : isM p t h) {c : Nat} (hc : c < 40) : AM (d + 1) kM_isBarred 0 0 none [.ref 28, .int (nI c)] h (fun v h' => v = some (.int (bI (L.any (fun a => cf a c)))) ∧ isM p t h') := by
  refine AX.iconstV (v := 0) rfl (by decide) ?_
  refine AX.istore_n rfl (by decide) ?_
  refine AX.iconstV (v := 0) rfl (by decide) ?_
  refine AX.istore_n rfl (by decide) ?_
  have := sM_isBarred_l (d := d) hcf hL hc L.length 0 false h hm (by omega)
  rw [Bool.false_or, List.drop_zero] at this
  exact this
end MR
end
section
/-! THE MODEL's waitingAt, clear, beginAnew, goFrom, setState -/
section MW2
variable {p : ax_H} {t : mS} {h : ax_H} {d : Nat}
def wOne (t : mS) (c e : Nat) : Int32 := if t.2 2 c = 0 ∧ t.2 2 e = 0 ∧ mBef t e c = true then 1 else 0
def wCnt (t : mS) (c : Nat) : Nat → Nat → Int32 → Int32
  | 0, _, x => x
  | r + 1, e, x => wCnt t c r (e + 1) (x + wOne t c e)
theorem sM_waitingAt_i {n : Nat} (hn4 : t.1 4 = nI n) (hn : n ≤ 40) {c : Nat} (hc : c < n) (k : Int32) {F : ax_F} (kk : ∀ (x : Int32) (h : ax_H), x = wCnt t c n 0 0 → isM p t h → AX (d + 1) kM_waitingAt 0 0 none 67 [(4, .int (nI n)), (3, .int x), (2, .int (nI c)), (0, .ref 28), (1, .int k)] [] h 0 0 F) : ∀ (r e : Nat) (x : Int32) (h : ax_H), isM p t h → n = e + r → wCnt t c r e x = wCnt t c n 0 0 →
    AX (d + 1) kM_waitingAt 0 0 none 15 [(4, .int (nI e)), (3, .int x), (2, .int (nI c)), (0, .ref 28), (1, .int k)] [] h 0 0 F := by
  intro r
  induction r with
  | zero =>
    intro e x h hm hb hx
    have e1 : e = n := by omega
    subst e1
    refine AX.iload rfl rfl ?_
    refine AX.aload_n rfl rfl ?_
    refine AX.getf rfl (M0 hm) rfl ?_
    refine AX.icmp_ge rfl (fun c1 => ?_) (fun c1 => ?_)
    · exact kk x h hx hm
    · exact absurd (hn4 ▸ nI_le (by omega) (by omega)) c1
  | succ r ih =>
    intro e x h hm hb hx
    refine AX.iload rfl rfl ?_
    refine AX.aload_n rfl rfl ?_
    refine AX.getf rfl (M0 hm) rfl ?_
    refine AX.icmp_ge rfl (fun c1 => ?_) (fun c1 => ?_)
    · exact absurd (hn4 ▸ c1) (nI_ge (by omega) (by omega))
    · refine AX.iload_n rfl rfl ?_
      refine AX.aload_n rfl rfl ?_
      refine AX.getf rfl (M0 hm) rfl ?_
      refine AX.iload_n rfl rfl ?_
      refine AX.ialdX rfl (MA hm 2 (by decide) (by decide) (by decide)) (by decide) (⟨c, by omega, rfl, rfl⟩) ?_
      refine AX.if_ne rfl (fun c2 => ?_) (fun c2 => ?_)
      · refine AX.iconstV (v := 0) rfl (by decide) ?_
        refine AX.iadd rfl ?_
        refine AX.istore_n rfl (by decide) ?_
        refine AX.iincV (dn := 1) rfl rfl (by decide) (by decide) ?_
        refine AX.goto rfl ?_
        rw [nI_1]
        have hw := ih (e + 1) (x + wOne t c e) h hm (by omega) hx
        first
          | (rw [show wOne t c e = 0 by simp [wOne, c1, c2]] at hw; exact hw)
          | (rw [show wOne t c e = 1 by simp [wOne, c1, c2]] at hw; exact hw)
      · refine AX.aload_n rfl rfl ?_
        refine AX.getf rfl (M0 hm) rfl ?_
        refine AX.iload rfl rfl ?_
        refine AX.ialdX rfl (MA hm 2 (by decide) (by decide) (by decide)) (by decide) (⟨e, by omega, rfl, rfl⟩) ?_
        refine AX.if_ne rfl (fun c3 => ?_) (fun c3 => ?_)
        · refine AX.iconstV (v := 0) rfl (by decide) ?_
          refine AX.iadd rfl ?_
          refine AX.istore_n rfl (by decide) ?_
          refine AX.iincV (dn := 1) rfl rfl (by decide) (by decide) ?_
          refine AX.goto rfl ?_
          rw [nI_1]
          have hw := ih (e + 1) (x + wOne t c e) h hm (by omega) hx
          first
            | (rw [show wOne t c e = 0 by simp [wOne, c1, c2, c3]] at hw; exact hw)
            | (rw [show wOne t c e = 1 by simp [wOne, c1, c2, c3]] at hw; exact hw)
        · refine AX.aload_n rfl rfl ?_
          refine AX.iload rfl rfl ?_
          refine AX.iload_n rfl rfl ?_
          refine AX.cVI rfl rfl rfl (M0 hm) (sM_isBefore hm (by omega) (by omega)) (fun h hm => ?_)
          refine AX.if_eqB rfl (fun c4 => ?_) (fun c4 => ?_)
          · refine AX.iconstV (v := 0) rfl (by decide) ?_
            refine AX.iadd rfl ?_
            refine AX.istore_n rfl (by decide) ?_
            refine AX.iincV (dn := 1) rfl rfl (by decide) (by decide) ?_
            refine AX.goto rfl ?_
            rw [nI_1]
            have hw := ih (e + 1) (x + wOne t c e) h hm (by omega) hx
            first
              | (rw [show wOne t c e = 0 by simp [wOne, c1, c2, c3, c4]] at hw; exact hw)
              | (rw [show wOne t c e = 1 by simp [wOne, c1, c2, c3, c4]] at hw; exact hw)
          · refine AX.iconstV (v := 1) rfl (by decide) ?_
            refine AX.goto rfl ?_
            refine AX.iadd rfl ?_
            refine AX.istore_n rfl (by decide) ?_
            refine AX.iincV (dn := 1) rfl rfl (by decide) (by decide) ?_
            refine AX.goto rfl ?_
            rw [nI_1]
            have hw := ih (e + 1) (x + wOne t c e) h hm (by omega) hx
            first
              | (rw [show wOne t c e = 0 by simp [wOne, c1, c2, c3, c4]] at hw; exact hw)
              | (rw [show wOne t c e = 1 by simp [wOne, c1, c2, c3, c4]] at hw; exact hw)
def wAt2 (t : mS) (n : Nat) (k : Int32) : Nat → Nat → Int32
  | 0, _ => -1
  | r + 1, c => if t.2 2 c = 0 ∧ wCnt t c n 0 0 = k then nI c else wAt2 t n k r (c + 1)
theorem sM_waitingAt_l {n : Nat} (hn4 : t.1 4 = nI n) (hn : n ≤ 40) (k : Int32) : ∀ (r c : Nat) (h : ax_H), isM p t h → n = c + r →
    AX (d + 1) kM_waitingAt 0 0 none 2 [(2, .int (nI c)), (0, .ref 28), (1, .int k)] [] h 0 0 (ax_ret kM_waitingAt 0 0 (fun v h' => v = some (.int (wAt2 t n k r c)) ∧ isM p t h')) := by
  intro r
  induction r with
  | zero =>
    intro c h hm hb
    refine AX.iload_n rfl rfl ?_
    refine AX.aload_n rfl rfl ?_
    refine AX.getf rfl (M0 hm) rfl ?_
    refine AX.icmp_ge rfl (fun c1 => ?_) (fun c1 => ?_)
    · refine AX.iconstV (v := (-1)) rfl (by decide) ?_
      exact AX.ireturn rfl rfl ⟨rfl, hm⟩ (Nat.le_refl _) (Nat.le_refl _)
    · exact absurd (hn4 ▸ nI_le (by omega) (by omega)) c1
  | succ r ih =>
    intro c h hm hb
    have inner := sM_waitingAt_i (p := p) (d := d) hn4 hn (c := c) (by omega) k (F := ax_ret kM_waitingAt 0 0 (fun v h' => v = some (.int (wAt2 t n k (r + 1) c)) ∧ isM p t h')) (fun x h hx hm => by
      refine AX.aload_n rfl rfl ?_
      refine AX.getf rfl (M0 hm) rfl ?_
      refine AX.iload_n rfl rfl ?_
      refine AX.ialdX rfl (MA hm 2 (by decide) (by decide) (by decide)) (by decide) (⟨c, by omega, rfl, rfl⟩) ?_
      refine AX.if_ne rfl (fun c1 => ?_) (fun c1 => ?_)
      · refine AX.iincV (dn := 1) rfl rfl (by decide) (by decide) ?_
        refine AX.goto rfl ?_
        rw [nI_1, wAt2, if_neg (by first | exact fun q => c1 q.1 | exact fun q => c2 (hx ▸ q.2))]
        refine AX.sub [0, 3, 4] rfl ?_
        exact ih (c + 1) h hm (by omega)
      · refine AX.iload_n rfl rfl ?_
        refine AX.iload_n rfl rfl ?_
        refine AX.icmp_ne rfl (fun c2 => ?_) (fun c2 => ?_)
        · refine AX.iincV (dn := 1) rfl rfl (by decide) (by decide) ?_
          refine AX.goto rfl ?_
          rw [nI_1, wAt2, if_neg (by first | exact fun q => c1 q.1 | exact fun q => c2 (hx ▸ q.2))]
          refine AX.sub [0, 3, 4] rfl ?_
          exact ih (c + 1) h hm (by omega)
        · refine AX.iload_n rfl rfl ?_
          exact AX.ireturn rfl rfl ⟨by rw [wAt2, if_pos ⟨c1, hx ▸ c2⟩], hm⟩ (Nat.le_refl _) (Nat.le_refl _))
    refine AX.iload_n rfl rfl ?_
    refine AX.aload_n rfl rfl ?_
    refine AX.getf rfl (M0 hm) rfl ?_
    refine AX.icmp_ge rfl (fun c1 => ?_) (fun c1 => ?_)
    · exact absurd (hn4 ▸ c1) (nI_ge (by omega) (by omega))
    · refine AX.iconstV (v := 0) rfl (by decide) ?_
      refine AX.istore_n rfl (by decide) ?_
      refine AX.iconstV (v := 0) rfl (by decide) ?_
      refine AX.istore rfl (by decide) ?_
      exact inner n 0 0 h hm (by omega) rfl
def mWt (t : mS) (n : Nat) (k : Int32) : Int32 := wAt2 t n k n 0
theorem sM_waitingAt {n : Nat} (hn4 : t.1 4 = nI n) (hn : n ≤ 40) (hm : isM p t h) (k : Int32) : AM (d + 1) kM_waitingAt 0 0 none [.ref 28, .int k] h (fun v h' => v = some (.int (mWt t n k)) ∧ isM p t h') := by
  refine AX.iconstV (v := 0) rfl (by decide) ?_
  refine AX.istore_n rfl (by decide) ?_
  exact sM_waitingAt_l hn4 hn k n 0 h hm (by omega)
def mClr (t : mS) (cl : Nat → Bool) (m : Nat) : mS := (t.1, fun a => if a = 2 then (fun c => if c < m ∧ t.2 2 c = 0 ∧ cl c = true then 3 else t.2 2 c) else if a = 4 then (fun c => if c < m ∧ t.2 2 c = 0 ∧ cl c = true then 2 else t.2 4 c) else t.2 a)
theorem mClr_0 (t : mS) (cl : Nat → Bool) : mClr t cl 0 = t := by
  unfold mClr
  refine Prod.ext rfl ?_
  funext a
  by_cases h2 : a = 2
  · subst h2; simp
  · by_cases h4 : a = 4
    · subst h4; simp
    · simp [h2, h4]
theorem mClr_no {t : mS} {cl : Nat → Bool} {m : Nat} (h : ¬ (t.2 2 m = 0 ∧ cl m = true)) : mClr t cl (m + 1) = mClr t cl m := by
  unfold mClr
  refine Prod.ext rfl ?_
  have key : ∀ c, (c < m + 1 ∧ t.2 2 c = 0 ∧ cl c = true) ↔ (c < m ∧ t.2 2 c = 0 ∧ cl c = true) := by
    intro c
    constructor
    · rintro ⟨h1, h2⟩
      refine ⟨?_, h2⟩
      rcases Nat.lt_or_eq_of_le (Nat.le_of_lt_succ h1) with h3 | h3
      · exact h3
      · subst h3; exact absurd h2 h
    · rintro ⟨h1, h2⟩; exact ⟨by omega, h2⟩
  funext a
  simp only [key]
theorem mClr_yes {t : mS} {cl : Nat → Bool} {m : Nat} (h : t.2 2 m = 0 ∧ cl m = true) : mClr t cl (m + 1) = marr (marr (mClr t cl m) 2 m 3) 4 m 2 := by
  unfold mClr marr
  refine Prod.ext rfl ?_
  funext a c
  by_cases h2 : a = 2
  · subst h2
    by_cases hc : c = m
    · subst hc; simp [va_up, upd, h]
    · have e : (c < m + 1) = (c < m) := by apply propext; omega
      simp [va_up, upd, hc, e]
  · by_cases h4 : a = 4
    · subst h4
      by_cases hc : c = m
      · subst hc; simp [va_up, upd, h]
      · have e : (c < m + 1) = (c < m) := by apply propext; omega
        simp [va_up, upd, hc, e]
    · simp [va_up, h2, h4]
theorem mClr_2 (t : mS) (cl : Nat → Bool) (m c : Nat) (h : m ≤ c) : (mClr t cl m).2 2 c = t.2 2 c := by
  unfold mClr
  simp [Nat.not_lt.mpr h]
theorem mClr_o (t : mS) (cl : Nat → Bool) (m a : Nat) (h2 : a ≠ 2) (h4 : a ≠ 4) : (mClr t cl m).2 a = t.2 a := by
  unfold mClr
  simp [h2, h4]
theorem sM_clear_l {cf : Nat → Nat → Bool} {Tr : List Nat} {n : Nat} (hn4 : t.1 4 = nI n) (hn : n ≤ 40) (hcf : ∀ a b, a < 40 → b < 40 → t.2 6 (40 * a + b) = bI (cf a b)) (h7 : t.1 7 = nI Tr.length) (hT : Tr.length ≤ 40) (hT2 : ∀ i, i < Tr.length → t.2 8 i = nI (Tr.getD i 0) ∧ Tr.getD i 0 < 40) : ∀ (r m : Nat) (h : ax_H), isM p (mClr t (fun c => !decide (yFC cf Tr c = -1)) m) h → n = m + r →
    AX (d + 2) kM_clear 0 0 none 2 [(1, .int (nI m)), (0, .ref 28)] [] h 0 0 (ax_ret kM_clear 0 0 (fun v h' => v = none ∧ isM p (mClr t (fun c => !decide (yFC cf Tr c = -1)) n) h')) := by
  intro r
  induction r with
  | zero =>
    intro m h hm hb
    have e1 : m = n := by omega
    subst e1
    refine AX.iload_n rfl rfl ?_
    refine AX.aload_n rfl rfl ?_
    refine AX.getf rfl (M0 hm) rfl ?_
    refine AX.icmp_ge rfl (fun c1 => ?_) (fun c1 => ?_)
    · exact AX.vreturn rfl rfl ⟨rfl, hm⟩ (Nat.le_refl _) (Nat.le_refl _)
    · exact absurd (hn4 ▸ nI_le (by omega) (by omega)) c1
  | succ r ih =>
    intro m h hm hb
    refine AX.iload_n rfl rfl ?_
    refine AX.aload_n rfl rfl ?_
    refine AX.getf rfl (M0 hm) rfl ?_
    refine AX.icmp_ge rfl (fun c1 => ?_) (fun c1 => ?_)
    · exact absurd (hn4 ▸ c1) (nI_ge (by omega) (by omega))
    · refine AX.aload_n rfl rfl ?_
      refine AX.getf rfl (M0 hm) rfl ?_
      refine AX.iload_n rfl rfl ?_
      refine AX.ialdX rfl (MA hm 2 (by decide) (by decide) (by decide)) (by decide) (⟨m, by omega, rfl, mClr_2 t _ m m (Nat.le_refl _)⟩) ?_
      refine AX.if_ne rfl (fun c2 => ?_) (fun c2 => ?_)
      · refine AX.iincV (dn := 1) rfl rfl (by decide) (by decide) ?_
        refine AX.goto rfl ?_
        rw [nI_1]
        refine ih (m + 1) h ?_ (by omega)
        first
          | (rw [mClr_no (fun q => c2 q.1)]; exact hm)
          | (rw [mClr_no (fun q => by simp [c3] at q)]; exact hm)
          | (rw [mClr_yes ⟨c2, by simp [c3]⟩]; exact hm)
      · refine AX.aload_n rfl rfl ?_
        refine AX.iload_n rfl rfl ?_
        refine AX.cVI rfl rfl rfl (M0 hm) (sM_inTree (t := mClr t (fun c => !decide (yFC cf Tr c = -1)) m) (Tr := Tr) (cf := cf) (fun a b ha hb => by rw [mClr_o _ _ _ _ (by decide) (by decide)]; exact hcf a b ha hb) h7 hT (fun i hi => by rw [mClr_o _ _ _ _ (by decide) (by decide)]; exact hT2 i hi) hm (c := m) (by omega)) (fun h hm => ?_)
        refine AX.iconstV (v := (-1)) rfl (by decide) ?_
        refine AX.icmp_ne rfl (fun c3 => ?_) (fun c3 => ?_)
        · refine AX.aload_n rfl rfl ?_
          refine AX.getf rfl (M0 hm) rfl ?_
          refine AX.iload_n rfl rfl ?_
          refine AX.iconstV (v := 3) rfl (by decide) ?_
          refine AX.iastX (m) rfl (MA hm 2 (by decide) (by decide) (by decide)) (by decide) (by omega) (rfl) ?_
          refine AX.gen (G := isM p _) (MW hm 2 _ _ (by decide) (by decide) (by decide)) (fun h hm => ?_)
          refine AX.aload_n rfl rfl ?_
          refine AX.getf rfl (M0 hm) rfl ?_
          refine AX.iload_n rfl rfl ?_
          refine AX.iconstV (v := 2) rfl (by decide) ?_
          refine AX.iastX (m) rfl (MA hm 4 (by decide) (by decide) (by decide)) (by decide) (by omega) (rfl) ?_
          refine AX.gen (G := isM p _) (MW hm 4 _ _ (by decide) (by decide) (by decide)) (fun h hm => ?_)
          refine AX.iincV (dn := 1) rfl rfl (by decide) (by decide) ?_
          refine AX.goto rfl ?_
          rw [nI_1]
          refine ih (m + 1) h ?_ (by omega)
          first
            | (rw [mClr_no (fun q => c2 q.1)]; exact hm)
            | (rw [mClr_no (fun q => by simp [c3] at q)]; exact hm)
            | (rw [mClr_yes ⟨c2, by simp [c3]⟩]; exact hm)
        · refine AX.goto rfl ?_
          refine AX.iincV (dn := 1) rfl rfl (by decide) (by decide) ?_
          refine AX.goto rfl ?_
          rw [nI_1]
          refine ih (m + 1) h ?_ (by omega)
          first
            | (rw [mClr_no (fun q => c2 q.1)]; exact hm)
            | (rw [mClr_no (fun q => by simp [c3] at q)]; exact hm)
            | (rw [mClr_yes ⟨c2, by simp [c3]⟩]; exact hm)
def mClear (t : mS) (cf : Nat → Nat → Bool) (Tr : List Nat) (n : Nat) : mS := mClr t (fun c => !decide (yFC cf Tr c = -1)) n
theorem sM_clear {cf : Nat → Nat → Bool} {Tr : List Nat} {n : Nat} (hn4 : t.1 4 = nI n) (hn : n ≤ 40) (hcf : ∀ a b, a < 40 → b < 40 → t.2 6 (40 * a + b) = bI (cf a b)) (h7 : t.1 7 = nI Tr.length) (hT : Tr.length ≤ 40) (hT2 : ∀ i, i < Tr.length → t.2 8 i = nI (Tr.getD i 0) ∧ Tr.getD i 0 < 40) (hm : isM p t h) : AM (d + 2) kM_clear 0 0 none [.ref 28] h (fun v h' => v = none ∧ isM p (mClear t cf Tr n) h') := by
  refine AX.iconstV (v := 0) rfl (by decide) ?_
  refine AX.istore_n rfl (by decide) ?_
  exact sM_clear_l hn4 hn hcf h7 hT hT2 n 0 h (by rw [mClr_0]; exact hm) (by omega)
end MW2
end
section
/-! THE MODEL's beginAnew, goFrom, setState -/
section ML
variable {p : ax_H} {t : mS} {h : ax_H} {d : Nat}
theorem LaneOk.cong {t t' : mS} {L : List Nat} {B : List Bool} (hL : LaneOk t L B) (h6 : t'.1 6 = t.1 6) (h7 : t'.2 7 = t.2 7) (h9 : t'.2 9 = t.2 9) : LaneOk t' L B := by
  unfold LaneOk at *
  rw [h6, h7, h9]
  exact hL
def mAn1 (t : mS) (c : Nat) (b : Bool) : mS := marr (marr (mset t 10 (t.1 10 + (if b = true ∧ t.2 10 c = 1 then 1 else 0))) 10 c 0) 11 c 0
def mAnew (L : List Nat) (B : List Bool) : Nat → Nat → mS → mS
  | 0, _, t => t
  | r + 1, m, t => mAnew L B r (m + 1) (mAn1 t (L.getD m 0) (B.getD m false))
theorem sM_beginAnew_l {L : List Nat} {B : List Bool} (f : Int32) : ∀ (r m : Nat) (t : mS) (h : ax_H), LaneOk t L B → isM p t h → L.length - m = r → m < 2 ^ 31 →
    AX d kM_beginAnew 0 0 none 2 [(2, .int (nI m)), (0, .ref 28), (1, .int f)] [] h 0 0 (ax_ret kM_beginAnew 0 0 (fun v h' => v = none ∧ isM p (mAnew L B r m t) h')) := by
  intro r
  induction r with
  | zero =>
    intro m t h hL hm hb hm31
    obtain ⟨h6, hL4, hB, hL2⟩ := hL
    refine AX.iload_n rfl rfl ?_
    refine AX.aload_n rfl rfl ?_
    refine AX.getf rfl (M0 hm) rfl ?_
    refine AX.icmp_ge rfl (fun c1 => ?_) (fun c1 => ?_)
    · exact AX.vreturn rfl rfl ⟨rfl, hm⟩ (Nat.le_refl _) (Nat.le_refl _)
    · exact absurd (h6 ▸ nI_le (by omega) (by omega)) c1
  | succ r ih =>
    intro m t h hL hm hb hm31
    have hLc := hL
    obtain ⟨h6, hL4, hB, hL2⟩ := hL
    have h2 := hL2 m (by omega)
    refine AX.iload_n rfl rfl ?_
    refine AX.aload_n rfl rfl ?_
    refine AX.getf rfl (M0 hm) rfl ?_
    refine AX.icmp_ge rfl (fun c1 => ?_) (fun c1 => ?_)
    · exact absurd (h6 ▸ c1) (nI_ge (by omega) (by omega))
    · refine AX.aload_n rfl rfl ?_
      refine AX.getf rfl (M0 hm) rfl ?_
      refine AX.iload_n rfl rfl ?_
      refine AX.ialdX rfl (MA hm 7 (by decide) (by decide) (by decide)) (by decide) (⟨m, by omega, rfl, h2.1⟩) ?_
      refine AX.istore_n rfl (by decide) ?_
      refine AX.aload_n rfl rfl ?_
      refine AX.dup rfl rfl ?_
      refine AX.getf rfl (M0 hm) rfl ?_
      refine AX.aload_n rfl rfl ?_
      refine AX.getf rfl (M0 hm) rfl ?_
      refine AX.iload_n rfl rfl ?_
      refine AX.zaldX rfl (MA9 hm) (by decide) (⟨_, h2.2.1, rfl, h2.2.2⟩) ?_
      refine AX.if_eqB rfl (fun c2 => ?_) (fun c2 => ?_)
      · refine AX.iconstV (v := 0) rfl (by decide) ?_
        refine AX.iadd rfl ?_
        refine AX.putf rfl (M0 hm) (Nat.le_of_ble_eq_true rfl) rfl ?_
        refine AX.gen (G := isM p _) (MS hm 10 _ (by decide) rfl) (fun h hm => ?_)
        refine AX.aload_n rfl rfl ?_
        refine AX.getf rfl (M0 hm) rfl ?_
        refine AX.iload_n rfl rfl ?_
        refine AX.iconstV (v := 0) rfl (by decide) ?_
        refine AX.iastX (L.getD m 0) rfl (MA hm 10 (by decide) (by decide) (by decide)) (by decide) (h2.2.1) (rfl) ?_
        refine AX.gen (G := isM p _) (MW hm 10 _ _ (by decide) (by decide) (by decide)) (fun h hm => ?_)
        refine AX.aload_n rfl rfl ?_
        refine AX.getf rfl (M0 hm) rfl ?_
        refine AX.iload_n rfl rfl ?_
        refine AX.iconstV (v := 0) rfl (by decide) ?_
        refine AX.iastX (L.getD m 0) rfl (MA hm 11 (by decide) (by decide) (by decide)) (by decide) (h2.2.1) (rfl) ?_
        refine AX.gen (G := isM p _) (MW hm 11 _ _ (by decide) (by decide) (by decide)) (fun h hm => ?_)
        refine AX.iincV (dn := 1) rfl rfl (by decide) (by decide) ?_
        refine AX.goto rfl ?_
        rw [nI_1, mAnew]
        refine AX.sub [0, 2, 3] rfl ?_
        refine ih (m + 1) (mAn1 t (L.getD m 0) (B.getD m false)) h (hLc.cong rfl rfl rfl) ?_ (by omega) (by omega)
        first
          | (rw [mAn1, if_pos ⟨c2, c3⟩]; exact hm)
          | (rw [mAn1, if_neg (fun q => c3 q.2)]; exact hm)
          | (rw [mAn1, if_neg (fun q => by rw [c2] at q; cases q.1)]; exact hm)
      · refine AX.aload_n rfl rfl ?_
        refine AX.getf rfl (M0 hm) rfl ?_
        refine AX.iload_n rfl rfl ?_
        refine AX.ialdX rfl (MA hm 10 (by decide) (by decide) (by decide)) (by decide) (⟨_, h2.2.1, rfl, rfl⟩) ?_
        refine AX.iconstV (v := 1) rfl (by decide) ?_
        refine AX.icmp_ne rfl (fun c3 => ?_) (fun c3 => ?_)
        · refine AX.iconstV (v := 0) rfl (by decide) ?_
          refine AX.iadd rfl ?_
          refine AX.putf rfl (M0 hm) (Nat.le_of_ble_eq_true rfl) rfl ?_
          refine AX.gen (G := isM p _) (MS hm 10 _ (by decide) rfl) (fun h hm => ?_)
          refine AX.aload_n rfl rfl ?_
          refine AX.getf rfl (M0 hm) rfl ?_
          refine AX.iload_n rfl rfl ?_
          refine AX.iconstV (v := 0) rfl (by decide) ?_
          refine AX.iastX (L.getD m 0) rfl (MA hm 10 (by decide) (by decide) (by decide)) (by decide) (h2.2.1) (rfl) ?_
          refine AX.gen (G := isM p _) (MW hm 10 _ _ (by decide) (by decide) (by decide)) (fun h hm => ?_)
          refine AX.aload_n rfl rfl ?_
          refine AX.getf rfl (M0 hm) rfl ?_
          refine AX.iload_n rfl rfl ?_
          refine AX.iconstV (v := 0) rfl (by decide) ?_
          refine AX.iastX (L.getD m 0) rfl (MA hm 11 (by decide) (by decide) (by decide)) (by decide) (h2.2.1) (rfl) ?_
          refine AX.gen (G := isM p _) (MW hm 11 _ _ (by decide) (by decide) (by decide)) (fun h hm => ?_)
          refine AX.iincV (dn := 1) rfl rfl (by decide) (by decide) ?_
          refine AX.goto rfl ?_
          rw [nI_1, mAnew]
          refine AX.sub [0, 2, 3] rfl ?_
          refine ih (m + 1) (mAn1 t (L.getD m 0) (B.getD m false)) h (hLc.cong rfl rfl rfl) ?_ (by omega) (by omega)
          first
            | (rw [mAn1, if_pos ⟨c2, c3⟩]; exact hm)
            | (rw [mAn1, if_neg (fun q => c3 q.2)]; exact hm)
            | (rw [mAn1, if_neg (fun q => by rw [c2] at q; cases q.1)]; exact hm)
        · refine AX.iconstV (v := 1) rfl (by decide) ?_
          refine AX.goto rfl ?_
          refine AX.iadd rfl ?_
          refine AX.putf rfl (M0 hm) (Nat.le_of_ble_eq_true rfl) rfl ?_
          refine AX.gen (G := isM p _) (MS hm 10 _ (by decide) rfl) (fun h hm => ?_)
          refine AX.aload_n rfl rfl ?_
          refine AX.getf rfl (M0 hm) rfl ?_
          refine AX.iload_n rfl rfl ?_
          refine AX.iconstV (v := 0) rfl (by decide) ?_
          refine AX.iastX (L.getD m 0) rfl (MA hm 10 (by decide) (by decide) (by decide)) (by decide) (h2.2.1) (rfl) ?_
          refine AX.gen (G := isM p _) (MW hm 10 _ _ (by decide) (by decide) (by decide)) (fun h hm => ?_)
          refine AX.aload_n rfl rfl ?_
          refine AX.getf rfl (M0 hm) rfl ?_
          refine AX.iload_n rfl rfl ?_
          refine AX.iconstV (v := 0) rfl (by decide) ?_
          refine AX.iastX (L.getD m 0) rfl (MA hm 11 (by decide) (by decide) (by decide)) (by decide) (h2.2.1) (rfl) ?_
          refine AX.gen (G := isM p _) (MW hm 11 _ _ (by decide) (by decide) (by decide)) (fun h hm => ?_)
          refine AX.iincV (dn := 1) rfl rfl (by decide) (by decide) ?_
          refine AX.goto rfl ?_
          rw [nI_1, mAnew]
          refine AX.sub [0, 2, 3] rfl ?_
          refine ih (m + 1) (mAn1 t (L.getD m 0) (B.getD m false)) h (hLc.cong rfl rfl rfl) ?_ (by omega) (by omega)
          first
            | (rw [mAn1, if_pos ⟨c2, c3⟩]; exact hm)
            | (rw [mAn1, if_neg (fun q => c3 q.2)]; exact hm)
            | (rw [mAn1, if_neg (fun q => by rw [c2] at q; cases q.1)]; exact hm)
def mAn (L : List Nat) (B : List Bool) (m : Nat) (t : mS) : mS := mAnew L B (L.length - m) m t
theorem sM_beginAnew {L : List Nat} {B : List Bool} (hL : LaneOk t L B) (hm : isM p t h) {m : Nat} (hm31 : m < 2 ^ 31) : AM d kM_beginAnew 0 0 none [.ref 28, .int (nI m)] h (fun v h' => v = none ∧ isM p (mAn L B m t) h') := by
  refine AX.iload_n rfl rfl ?_
  refine AX.istore_n rfl (by decide) ?_
  exact sM_beginAnew_l (nI m) (L.length - m) m t h hL hm rfl hm31
def mMore (L : List Nat) (B : List Bool) (a : Nat) : Bool := decide (a + 1 < L.length) && !(B.getD (a + 1) false)
def mGo1 (t : mS) (L : List Nat) (B : List Bool) (a : Nat) : mS := if B.getD a false = true ∧ mMore L B a = true then marr t 9 (L.getD (a + 1) 0) 1 else t
def mGo2 (t : mS) (f : Nat → Int32) (a n : Nat) : mS := (t.1, va_up t.2 7 (va_cpy f f (a + 1) a n))
def mGo (t : mS) (L : List Nat) (B : List Bool) (a : Nat) : mS := mset (mGo2 (mGo1 t L B a) (t.2 7) a (L.length - 1 - a)) 6 (t.1 6 - 1)
theorem cpy_0 {f : Nat → Int32} {a : Nat} : va_cpy f f (a + 1) a 0 = f := by
  funext j
  rw [pk_cpy_out (by omega)]
theorem cpy_s {f : Nat → Int32} {a n : Nat} : upd (va_cpy f f (a + 1) a n) (a + n) (f (a + n + 1)) = va_cpy f f (a + 1) a (n + 1) := by
  funext j
  by_cases h1 : j = a + n
  · subst h1
    rw [pk_us, pk_cpy_in (by omega) (by omega)]
    congr 1
    omega
  · rw [pk_un h1]
    by_cases h2 : a ≤ j ∧ j < a + n
    · rw [pk_cpy_in h2.1 h2.2, pk_cpy_in h2.1 (by omega)]
    · rw [pk_cpy_out (by omega), pk_cpy_out (by omega)]
theorem va_up_same {α : Type} (f : Nat → α) (k : Nat) : va_up f k (f k) = f := by
  funext j
  unfold va_up
  by_cases h : j = k
  · rw [if_pos h, h]
  · rw [if_neg h]
theorem sM_goFrom_l {L : List Nat} {t0 : mS} {f : Nat → Int32} (h6 : t0.1 6 = nI L.length) (hL4 : L.length ≤ 40) {a : Nat} (x2 x3 : Int32) : ∀ (r n : Nat) (h : ax_H), isM p (mGo2 t0 f a n) h → L.length = a + n + 1 + r →
    AX d kM_goFrom 0 0 none 69 [(4, .int (nI (a + n))), (3, .int x3), (2, .int x2), (0, .ref 28), (1, .int (nI a))] [] h 0 0 (ax_ret kM_goFrom 0 0 (fun v h' => v = none ∧ isM p (mset (mGo2 t0 f a (n + r)) 6 (t0.1 6 - 1)) h')) := by
  intro r
  induction r with
  | zero =>
    intro n h hm hb
    refine AX.iload rfl rfl ?_
    refine AX.iconstV (v := 1) rfl (by decide) ?_
    refine AX.iadd rfl ?_
    refine AX.aload_n rfl rfl ?_
    refine AX.getf rfl (M0 hm) rfl ?_
    refine AX.icmp_ge rfl (fun c1 => ?_) (fun c1 => ?_)
    · refine AX.aload_n rfl rfl ?_
      refine AX.dup rfl rfl ?_
      refine AX.getf rfl (M0 hm) rfl ?_
      refine AX.iconstV (v := 1) rfl (by decide) ?_
      refine AX.isub rfl ?_
      refine AX.putf rfl (M0 hm) (Nat.le_of_ble_eq_true rfl) rfl ?_
      refine AX.gen (G := isM p _) (MS hm 6 _ (by decide) rfl) (fun h hm => ?_)
      exact AX.vreturn rfl rfl ⟨rfl, hm⟩ (Nat.le_refl _) (Nat.le_refl _)
    · exact absurd (by rw [nI_1]; exact h6 ▸ nI_le (by omega) (by omega)) c1
  | succ r ih =>
    intro n h hm hb
    have e7 : (mGo2 t0 f a n).2 7 (a + n + 1) = f (a + n + 1) := by
      show va_cpy f f (a + 1) a n (a + n + 1) = _
      rw [pk_cpy_out (by omega)]
    refine AX.iload rfl rfl ?_
    refine AX.iconstV (v := 1) rfl (by decide) ?_
    refine AX.iadd rfl ?_
    refine AX.aload_n rfl rfl ?_
    refine AX.getf rfl (M0 hm) rfl ?_
    refine AX.icmp_ge rfl (fun c1 => ?_) (fun c1 => ?_)
    · exact absurd (show nI L.length ≤ nI (a + n) + 1 from h6 ▸ c1) (by rw [nI_1]; exact nI_ge (by omega) (by omega))
    · refine AX.aload_n rfl rfl ?_
      refine AX.getf rfl (M0 hm) rfl ?_
      refine AX.iload rfl rfl ?_
      refine AX.aload_n rfl rfl ?_
      refine AX.getf rfl (M0 hm) rfl ?_
      refine AX.iload rfl rfl ?_
      refine AX.iconstV (v := 1) rfl (by decide) ?_
      refine AX.iadd rfl ?_
      refine AX.ialdX rfl (MA hm 7 (by decide) (by decide) (by decide)) (by decide) (⟨a + n + 1, by omega, by rw [nI_1], e7⟩) ?_
      refine AX.iastX (a + n) rfl (MA hm 7 (by decide) (by decide) (by decide)) (by decide) (by omega) (rfl) ?_
      refine AX.gen (G := isM p _) (MW hm 7 _ _ (by decide) (by decide) (by decide)) (fun h hm => ?_)
      refine AX.iincV (dn := 1) rfl rfl (by decide) (by decide) ?_
      refine AX.goto rfl ?_
      rw [nI_1, show n + (r + 1) = (n + 1) + r by omega]
      refine ih (n + 1) h ?_ (by omega)
      have e : marr (mGo2 t0 f a n) 7 (a + n) (f (a + n + 1)) = mGo2 t0 f a (n + 1) := by
        unfold marr mGo2
        refine Prod.ext rfl ?_
        show va_up (va_up t0.2 7 (va_cpy f f (a + 1) a n)) 7 (upd (va_cpy f f (a + 1) a n) (a + n) (f (a + n + 1))) = va_up t0.2 7 (va_cpy f f (a + 1) a (n + 1))
        rw [bx_uu, cpy_s]
      rw [← e]
      exact hm
theorem sM_goFrom {L : List Nat} {B : List Bool} (hL : LaneOk t L B) (hm : isM p t h) {a : Nat} (ha : a < L.length) : AM d kM_goFrom 0 0 none [.ref 28, .int (nI a)] h (fun v h' => v = none ∧ isM p (mGo t L B a) h') := by
  have hLc := hL
  obtain ⟨h6, hL4, hB, hL2⟩ := hL
  have h2 := hL2 a ha
  have h3 := hL2 (a + 1)
  have fin : ∀ (x2 x3 : Int32) (h : ax_H), isM p (mGo1 t L B a) h → AX d kM_goFrom 0 0 none 69 [(4, .int (nI a)), (3, .int x3), (2, .int x2), (0, .ref 28), (1, .int (nI a))] [] h 0 0 (ax_ret kM_goFrom 0 0 (fun v h' => v = none ∧ isM p (mGo t L B a) h')) := by
    intro x2 x3 h hm
    have e6 : (mGo1 t L B a).1 6 = t.1 6 := by unfold mGo1; split <;> rfl
    have e7 : (mGo1 t L B a).2 7 = t.2 7 := by unfold mGo1; split <;> rfl
    have e0 : mGo2 (mGo1 t L B a) (t.2 7) a 0 = mGo1 t L B a := by
      unfold mGo2
      rw [cpy_0, ← e7, va_up_same]
    have := sM_goFrom_l (p := p) (d := d) (t0 := mGo1 t L B a) (f := t.2 7) (a := a) (e6.trans h6) hL4 x2 x3 (L.length - 1 - a) 0 h (by rw [e0]; exact hm) (by omega)
    rw [Nat.zero_add, e6] at this
    exact this
  by_cases lt1 : a + 1 < L.length
  · skip
    refine AX.aload_n rfl rfl ?_
    refine AX.getf rfl (M0 hm) rfl ?_
    refine AX.iload_n rfl rfl ?_
    refine AX.ialdX rfl (MA hm 7 (by decide) (by decide) (by decide)) (by decide) (⟨a, by omega, rfl, h2.1⟩) ?_
    refine AX.istore_n rfl (by decide) ?_
    refine AX.iload_n rfl rfl ?_
    refine AX.iconstV (v := 1) rfl (by decide) ?_
    refine AX.iadd rfl ?_
    refine AX.aload_n rfl rfl ?_
    refine AX.getf rfl (M0 hm) rfl ?_
    refine AX.icmp_ge rfl (fun c => absurd (show nI L.length ≤ nI a + 1 from h6 ▸ c) (by rw [nI_1]; exact nI_ge lt1 (by omega))) (fun _ => ?_)
    refine AX.aload_n rfl rfl ?_
    refine AX.getf rfl (M0 hm) rfl ?_
    refine AX.aload_n rfl rfl ?_
    refine AX.getf rfl (M0 hm) rfl ?_
    refine AX.iload_n rfl rfl ?_
    refine AX.iconstV (v := 1) rfl (by decide) ?_
    refine AX.iadd rfl ?_
    refine AX.ialdX rfl (MA hm 7 (by decide) (by decide) (by decide)) (by decide) (⟨a + 1, by omega, by rw [nI_1], (h3 lt1).1⟩) ?_
    refine AX.zaldX rfl (MA9 hm) (by decide) (⟨_, (h3 lt1).2.1, rfl, (h3 lt1).2.2⟩) ?_
    refine AX.if_neB rfl (fun c1 => ?_) (fun c1 => ?_)
    · refine AX.iconstV (v := 0) rfl (by decide) ?_
      refine AX.istore_n rfl (by decide) ?_
      refine AX.aload_n rfl rfl ?_
      refine AX.getf rfl (M0 hm) rfl ?_
      refine AX.iload_n rfl rfl ?_
      refine AX.zaldX rfl (MA9 hm) (by decide) (⟨_, h2.2.1, rfl, h2.2.2⟩) ?_
      refine AX.if_eqB rfl (fun c2 => ?_) (fun c2 => ?_)
      · refine AX.iload_n rfl rfl ?_
        refine AX.istore rfl (by decide) ?_
        refine fin _ _ h ?_
        first
          | (rw [mGo1, if_pos ⟨c2, by simp only [mMore, c1, Bool.not_false, Bool.and_true, decide_eq_true_eq]; exact lt1⟩]; exact hm)
          | (rw [mGo1, if_neg (fun q => absurd (q.1.symm.trans c2) (by decide))]; exact hm)
          | (rw [mGo1, if_neg (fun q => by simp only [mMore, c1, Bool.not_true, Bool.and_false] at q; cases q.2)]; exact hm)
      · refine AX.iload_n rfl rfl ?_
        refine AX.if_eq rfl (fun _ => ?_) (fun cx => absurd cx (by decide))
        refine AX.iload_n rfl rfl ?_
        refine AX.istore rfl (by decide) ?_
        refine fin _ _ h ?_
        first
          | (rw [mGo1, if_pos ⟨c2, by simp only [mMore, c1, Bool.not_false, Bool.and_true, decide_eq_true_eq]; exact lt1⟩]; exact hm)
          | (rw [mGo1, if_neg (fun q => absurd (q.1.symm.trans c2) (by decide))]; exact hm)
          | (rw [mGo1, if_neg (fun q => by simp only [mMore, c1, Bool.not_true, Bool.and_false] at q; cases q.2)]; exact hm)
    · refine AX.iconstV (v := 1) rfl (by decide) ?_
      refine AX.goto rfl ?_
      refine AX.istore_n rfl (by decide) ?_
      refine AX.aload_n rfl rfl ?_
      refine AX.getf rfl (M0 hm) rfl ?_
      refine AX.iload_n rfl rfl ?_
      refine AX.zaldX rfl (MA9 hm) (by decide) (⟨_, h2.2.1, rfl, h2.2.2⟩) ?_
      refine AX.if_eqB rfl (fun c2 => ?_) (fun c2 => ?_)
      · refine AX.iload_n rfl rfl ?_
        refine AX.istore rfl (by decide) ?_
        refine fin _ _ h ?_
        first
          | (rw [mGo1, if_pos ⟨c2, by simp only [mMore, c1, Bool.not_false, Bool.and_true, decide_eq_true_eq]; exact lt1⟩]; exact hm)
          | (rw [mGo1, if_neg (fun q => absurd (q.1.symm.trans c2) (by decide))]; exact hm)
          | (rw [mGo1, if_neg (fun q => by simp only [mMore, c1, Bool.not_true, Bool.and_false] at q; cases q.2)]; exact hm)
      · refine AX.iload_n rfl rfl ?_
        refine AX.if_eq rfl (fun cx => absurd cx (by decide)) (fun _ => ?_)
        refine AX.aload_n rfl rfl ?_
        refine AX.getf rfl (M0 hm) rfl ?_
        refine AX.aload_n rfl rfl ?_
        refine AX.getf rfl (M0 hm) rfl ?_
        refine AX.iload_n rfl rfl ?_
        refine AX.iconstV (v := 1) rfl (by decide) ?_
        refine AX.iadd rfl ?_
        refine AX.ialdX rfl (MA hm 7 (by decide) (by decide) (by decide)) (by decide) (⟨a + 1, by omega, by rw [nI_1], (h3 lt1).1⟩) ?_
        refine AX.iconstV (v := 1) rfl (by decide) ?_
        refine AX.zastX (L.getD (a + 1) 0) rfl (MA9 hm) (by decide) ((h3 lt1).2.1) (rfl) (by decide) ?_
        refine AX.gen (G := isM p _) (MW9 hm _ _) (fun h hm => ?_)
        refine AX.iload_n rfl rfl ?_
        refine AX.istore rfl (by decide) ?_
        refine fin _ _ h ?_
        first
          | (rw [mGo1, if_pos ⟨c2, by simp only [mMore, c1, Bool.not_false, Bool.and_true, decide_eq_true_eq]; exact lt1⟩]; exact hm)
          | (rw [mGo1, if_neg (fun q => absurd (q.1.symm.trans c2) (by decide))]; exact hm)
          | (rw [mGo1, if_neg (fun q => by simp only [mMore, c1, Bool.not_true, Bool.and_false] at q; cases q.2)]; exact hm)
  · skip
    refine AX.aload_n rfl rfl ?_
    refine AX.getf rfl (M0 hm) rfl ?_
    refine AX.iload_n rfl rfl ?_
    refine AX.ialdX rfl (MA hm 7 (by decide) (by decide) (by decide)) (by decide) (⟨a, by omega, rfl, h2.1⟩) ?_
    refine AX.istore_n rfl (by decide) ?_
    refine AX.iload_n rfl rfl ?_
    refine AX.iconstV (v := 1) rfl (by decide) ?_
    refine AX.iadd rfl ?_
    refine AX.aload_n rfl rfl ?_
    refine AX.getf rfl (M0 hm) rfl ?_
    refine AX.icmp_ge rfl (fun _ => ?_) (fun c => absurd (by rw [nI_1]; exact h6 ▸ nI_le (by omega) (by omega)) c)
    refine AX.iconstV (v := 0) rfl (by decide) ?_
    refine AX.istore_n rfl (by decide) ?_
    refine AX.aload_n rfl rfl ?_
    refine AX.getf rfl (M0 hm) rfl ?_
    refine AX.iload_n rfl rfl ?_
    refine AX.zaldX rfl (MA9 hm) (by decide) (⟨_, h2.2.1, rfl, h2.2.2⟩) ?_
    refine AX.if_eqB rfl (fun c1 => ?_) (fun c1 => ?_)
    · refine AX.iload_n rfl rfl ?_
      refine AX.istore rfl (by decide) ?_
      refine fin _ _ h ?_
      rw [mGo1, if_neg (fun q => by simp only [mMore, Bool.and_eq_true, decide_eq_true_eq] at q; exact lt1 q.2.1)]
      exact hm
    · refine AX.iload_n rfl rfl ?_
      refine AX.if_eq rfl (fun _ => ?_) (fun cx => absurd cx (by decide))
      refine AX.iload_n rfl rfl ?_
      refine AX.istore rfl (by decide) ?_
      refine fin _ _ h ?_
      rw [mGo1, if_neg (fun q => by simp only [mMore, Bool.and_eq_true, decide_eq_true_eq] at q; exact lt1 q.2.1)]
      exact hm
def mSetL (L : List Nat) (a : Nat) (v : Int32) : Nat → Nat → mS → mS
  | 0, _, t => t
  | r + 1, m, t => mSetL L a v r (m + 1) (marr t a (L.getD m 0) v)
theorem mSt_le : ∀ (B : List Bool) (k : Nat) (n g : Int32), mSt B k n g ≤ k + B.length := by
  intro B
  induction B with
  | nil => intro k n g; simp [mSt]
  | cons b bs ih =>
    intro k n g
    simp only [mSt]
    split
    · omega
    · have := ih (k + 1) (mAdd n b) g
      simp only [List.length_cons]
      omega
theorem mS0_le (B : List Bool) (g : Int32) : mS0 B g ≤ B.length := by
  have := mSt_le B 0 (-1) g
  rw [Nat.zero_add] at this
  exact this
theorem sM_setState_l {L : List Nat} {B : List Bool} (g v : Int32) (e : Nat) (he : e ≤ L.length) : ∀ (r m : Nat) (t : mS) (h : ax_H), LaneOk t L B → isM p t h → e - m = r → m ≤ L.length →
    AX d kM_setState 0 0 none 15 [(4, .int (nI m)), (3, .int (nI e)), (0, .ref 28), (1, .int g), (2, .int v)] [] h 0 0 (ax_ret kM_setState 0 0 (fun u h' => u = none ∧ isM p (mSetL L 10 v r m t) h')) := by
  intro r
  induction r with
  | zero =>
    intro m t h hL hm hb hml
    obtain ⟨h6, hL4, hB, hL2⟩ := hL
    refine AX.iload rfl rfl ?_
    refine AX.iload_n rfl rfl ?_
    refine AX.icmp_ge rfl (fun c1 => ?_) (fun c1 => ?_)
    · exact AX.vreturn rfl rfl ⟨rfl, hm⟩ (Nat.le_refl _) (Nat.le_refl _)
    · exact absurd (nI_le (by omega) (by omega)) c1
  | succ r ih =>
    intro m t h hL hm hb hml
    have hLc := hL
    obtain ⟨h6, hL4, hB, hL2⟩ := hL
    have h2 := hL2 m (by omega)
    refine AX.iload rfl rfl ?_
    refine AX.iload_n rfl rfl ?_
    refine AX.icmp_ge rfl (fun c1 => ?_) (fun c1 => ?_)
    · exact absurd c1 (nI_ge (by omega) (by omega))
    · refine AX.aload_n rfl rfl ?_
      refine AX.getf rfl (M0 hm) rfl ?_
      refine AX.aload_n rfl rfl ?_
      refine AX.getf rfl (M0 hm) rfl ?_
      refine AX.iload rfl rfl ?_
      refine AX.ialdX rfl (MA hm 7 (by decide) (by decide) (by decide)) (by decide) (⟨m, by omega, rfl, h2.1⟩) ?_
      refine AX.iload_n rfl rfl ?_
      refine AX.iastX (L.getD m 0) rfl (MA hm 10 (by decide) (by decide) (by decide)) (by decide) (h2.2.1) (rfl) ?_
      refine AX.gen (G := isM p _) (MW hm 10 _ _ (by decide) (by decide) (by decide)) (fun h hm => ?_)
      refine AX.iincV (dn := 1) rfl rfl (by decide) (by decide) ?_
      refine AX.goto rfl ?_
      rw [nI_1, mSetL]
      exact ih (m + 1) _ h (hLc.cong rfl rfl rfl) hm (by omega) (by omega)
theorem sM_setState {L : List Nat} {B : List Bool} (hL : LaneOk t L B) (hm : isM p t h) (g v : Int32) : AM (d + 1) kM_setState 0 0 none [.ref 28, .int g, .int v] h (fun u h' => u = none ∧ isM p (mSetL L 10 v (mS0 B (g + 1) - mS0 B g) (mS0 B g) t) h') := by
  have hLc := hL
  obtain ⟨h6, hL4, hB, hL2⟩ := hL
  refine AX.aload_n rfl rfl ?_
  refine AX.iload_n rfl rfl ?_
  refine AX.iconstV (v := 1) rfl (by decide) ?_
  refine AX.iadd rfl ?_
  refine AX.cVI rfl rfl rfl (M0 hm) (sM_startOf hLc hm _) (fun h hm => ?_)
  refine AX.istore_n rfl (by decide) ?_
  refine AX.aload_n rfl rfl ?_
  refine AX.iload_n rfl rfl ?_
  refine AX.cVI rfl rfl rfl (M0 hm) (sM_startOf hLc hm _) (fun h hm => ?_)
  refine AX.istore rfl (by decide) ?_
  exact sM_setState_l g v _ (by have := mS0_le B (g + 1); omega) _ _ t h hLc hm rfl (by have := mS0_le B g; omega)
end ML
end
section
/-! GROUPS: a group is its members, its state, its failures; the lane is all members, the flags say where a group begins -/
abbrev gT : Type := List Nat × Nat × Nat
def gL (G : List gT) : List Nat := G.flatMap (fun g => g.1)
def gF1 (ms : List Nat) : List Bool := match ms with
  | [] => []
  | _ :: r => true :: r.map (fun _ => false)
def gF (G : List gT) : List Bool := G.flatMap (fun g => gF1 g.1)
def gB (G : List gT) (i : Nat) : Nat := ((G.take i).map (fun g => g.1.length)).sum
def gNe (G : List gT) : Prop := ∀ g ∈ G, g.1 ≠ []
theorem gF1_len (ms : List Nat) : (gF1 ms).length = ms.length := by cases ms <;> simp [gF1]
theorem gF_len (G : List gT) : (gF G).length = (gL G).length := by
  induction G with
  | nil => rfl
  | cons g G ih => simp only [gF, gL, List.flatMap_cons, List.length_append, gF1_len] at ih ⊢; rw [ih]
theorem mAdd_t (m : Nat) : mAdd (nI m - 1) true = nI m := by
  rw [mAdd, if_pos rfl]
  exact Int32.sub_add_cancel _ _
theorem mAdd_f (x : Int32) : mAdd x false = x := by
  rw [mAdd, if_neg (by decide), Int32.add_zero]
theorem nI_ne {a b : Nat} (ha : a < 2 ^ 31) (hb : b < 2 ^ 31) (h : a ≠ b) : nI a ≠ nI b := fun e => h ((nI_eq ha hb).mp e)
theorem mSt_false : ∀ (r : List Nat) (B : List Bool) (k : Nat) (x g : Int32), x ≠ g → mSt (r.map (fun _ => false) ++ B) k x g = mSt B (k + r.length) x g := by
  intro r
  induction r with
  | nil => intro B k x g _; rfl
  | cons a r ih =>
    intro B k x g h
    simp only [List.map_cons, List.cons_append, mSt, mAdd_f, if_neg h]
    rw [ih B (k + 1) x g h]
    simp only [List.length_cons]
    congr 1
    omega
theorem gB_0 (G : List gT) : gB G 0 = 0 := rfl
theorem gB_s (g : gT) (G : List gT) (i : Nat) : gB (g :: G) (i + 1) = g.1.length + gB G i := by simp [gB]
theorem mSt_gF : ∀ (G : List gT) (k m i : Nat), gNe G → i ≤ G.length → m + i < 2 ^ 31 → mSt (gF G) k (nI m - 1) (nI (m + i)) = k + gB G i := by
  intro G
  induction G with
  | nil =>
    intro k m i _ hi _
    have : i = 0 := by simpa using hi
    subst this
    rfl
  | cons g G ih =>
    intro k m i hn hi hm
    have hne : g.1 ≠ [] := hn g List.mem_cons_self
    obtain ⟨c, r, hr⟩ : ∃ c r, g.1 = c :: r := by
      cases h : g.1 with
      | nil => exact absurd h hne
      | cons c r => exact ⟨c, r, rfl⟩
    have e1 : gF (g :: G) = true :: (r.map (fun _ => false) ++ gF G) := by
      simp only [gF, List.flatMap_cons, hr, gF1, List.cons_append]
    rw [e1, mSt, mAdd_t]
    cases i with
    | zero => rw [if_pos (by rw [Nat.add_zero])]; rfl
    | succ i =>
      rw [if_neg (nI_ne (by omega) (by omega) (by omega)), mSt_false _ _ _ _ _ (nI_ne (by omega) (by omega) (by omega))]
      have h2 := ih (k + 1 + r.length) (m + 1) i (fun q hq => hn q (List.mem_cons_of_mem _ hq)) (by simpa using hi) (by omega)
      rw [nI_pred] at h2
      rw [show m + (i + 1) = m + 1 + i by omega, h2, gB_s, hr]
      simp only [List.length_cons]
      omega
theorem mS0_gF {G : List gT} {i : Nat} (hn : gNe G) (hi : i ≤ G.length) (h31 : i < 2 ^ 31) : mS0 (gF G) (nI i) = gB G i := by
  have := mSt_gF G 0 0 i hn hi (by omega)
  rw [Nat.zero_add, Nat.zero_add] at this
  exact this
theorem mCnt_false : ∀ (r : List Nat) (B : List Bool) (x : Int32), mCnt (r.map (fun _ => false) ++ B) x = mCnt B x := by
  intro r
  induction r with
  | nil => intro B x; rfl
  | cons a r ih =>
    intro B x
    simp only [List.map_cons, List.cons_append, mCnt, mAdd_f]
    exact ih B x
theorem mCnt_gF : ∀ (G : List gT) (m : Nat), gNe G → mCnt (gF G) (nI m) = nI (m + G.length) := by
  intro G
  induction G with
  | nil => intro m _; rfl
  | cons g G ih =>
    intro m hn
    have hne : g.1 ≠ [] := hn g List.mem_cons_self
    obtain ⟨c, r, hr⟩ : ∃ c r, g.1 = c :: r := by
      cases h : g.1 with
      | nil => exact absurd h hne
      | cons c r => exact ⟨c, r, rfl⟩
    have e1 : gF (g :: G) = true :: (r.map (fun _ => false) ++ gF G) := by
      simp only [gF, List.flatMap_cons, hr, gF1, List.cons_append]
    rw [e1, mCnt, mCnt_false, show mAdd (nI m) true = nI (m + 1) by rw [mAdd, if_pos rfl, nI_1], ih (m + 1) (fun q hq => hn q (List.mem_cons_of_mem _ hq))]
    simp only [List.length_cons]
    congr 1
    omega
theorem gL_len (G : List gT) : (gL G).length = gB G G.length := by
  induction G with
  | nil => rfl
  | cons g G ih =>
    simp only [gL, List.flatMap_cons, List.length_append, List.length_cons] at ih ⊢
    rw [gB_s, ih]
theorem gB_le {G : List gT} {i j : Nat} (h : i ≤ j) : gB G i ≤ gB G j := by
  induction G generalizing i j with
  | nil => simp [gB]
  | cons g G ih =>
    cases i with
    | zero => simp [gB_0]
    | succ i =>
      cases j with
      | zero => omega
      | succ j =>
        rw [gB_s, gB_s]
        have := ih (i := i) (j := j) (by omega)
        omega
theorem gB_lt {G : List gT} {i : Nat} (hn : gNe G) (hi : i < G.length) : gB G i < gB G (i + 1) := by
  induction G generalizing i with
  | nil => simp at hi
  | cons g G ih =>
    have hne : 0 < g.1.length := List.length_pos_iff.mpr (hn g List.mem_cons_self)
    cases i with
    | zero => rw [gB_0, gB_s]; omega
    | succ i =>
      rw [gB_s, gB_s]
      have := ih (i := i) (fun q hq => hn q (List.mem_cons_of_mem _ hq)) (by simpa using hi)
      omega
theorem gB_succ {G : List gT} {i : Nat} (hi : i < G.length) : gB G (i + 1) = gB G i + (G.getD i ([], 0, 0)).1.length := by
  induction G generalizing i with
  | nil => simp at hi
  | cons g G ih =>
    cases i with
    | zero => rw [gB_0, gB_s, gB_0]; simp
    | succ i =>
      rw [gB_s, gB_s, ih (by simpa using hi)]
      simp only [List.getD_cons_succ]
      omega
theorem gL_at {G : List gT} {i j : Nat} (hi : i < G.length) (hj : j < (G.getD i ([], 0, 0)).1.length) : (gL G).getD (gB G i + j) 0 = (G.getD i ([], 0, 0)).1.getD j 0 := by
  induction G generalizing i with
  | nil => simp at hi
  | cons g G ih =>
    have e : gL (g :: G) = g.1 ++ gL G := by simp [gL]
    cases i with
    | zero =>
      rw [gB_0, Nat.zero_add, e]
      simp only [List.getD_cons_zero] at hj ⊢
      rw [List.getD_eq_getElem?_getD, List.getElem?_append_left hj, List.getD_eq_getElem?_getD]
    | succ i =>
      rw [gB_s, e]
      simp only [List.getD_cons_succ] at hj ⊢
      rw [List.getD_eq_getElem?_getD, List.getElem?_append_right (by omega), ← List.getD_eq_getElem?_getD, show g.1.length + gB G i + j - g.1.length = gB G i + j by omega]
      exact ih (by simpa using hi) hj
end
section
/-! WHAT BOTH HOLD: numbers (0 changes, 1 jumps), per change (0 rank, 1 place, 2 why, 3 treeSize, 4 turn: 40 if none), conflicts, lists (0 queue, 1 tree), groups -/
abbrev yT : Type := (Nat → Nat) × (Nat → Nat → Nat) × (Nat → Nat → Bool) × (Nat → List Nat) × List gT
abbrev yn (y : yT) : Nat := y.1 0
abbrev ytg (y : yT) : Nat := y.1 1
abbrev yrk (y : yT) (c : Nat) : Nat := y.2.1 0 c
abbrev ypl (y : yT) (c : Nat) : Nat := y.2.1 1 c
abbrev ywy (y : yT) (c : Nat) : Nat := y.2.1 2 c
abbrev yts (y : yT) (c : Nat) : Nat := y.2.1 3 c
abbrev ytn (y : yT) (c : Nat) : Nat := y.2.1 4 c
abbrev ycf (y : yT) : Nat → Nat → Bool := y.2.2.1
abbrev yQ (y : yT) : List Nat := y.2.2.2.1 0
abbrev yTr (y : yT) : List Nat := y.2.2.2.1 1
abbrev yG (y : yT) : List gT := y.2.2.2.2
abbrev g0 : gT := ([], 0, 0)
def jp (u : Nat) : Nat := if u = 40 then 0 else u + 1
/-- who stands in front -/
def yBef (y : yT) (a b : Nat) : Bool := if ytn y a = ytn y b then (if yrk y a = yrk y b then decide (a < b) else decide (yrk y b < yrk y a)) else decide (ytn y a < ytn y b)
def yCount (y : yT) : Nat := ((List.range (yn y)).filter (fun c => !decide (ytn y c = 40))).length
def WF (y : yT) : Prop :=
  yn y ≤ 40 ∧ (∀ c, c < yn y → yrk y c ≤ 9 ∧ ypl y c ≤ 3 ∧ ywy y c ≤ 3 ∧ yts y c ≤ 40 ∧ ytn y c ≤ 40) ∧ (∀ c, c < yn y → ytn y c = 40 ∨ ytn y c < ytg y) ∧ ytg y = yCount y ∧
  (yQ y).Pairwise (fun a b => yBef y a b = true) ∧ (∀ c, c ∈ yQ y ↔ c < yn y ∧ ypl y c = 0) ∧
  (yTr y).Nodup ∧ (∀ c, c ∈ yTr y ↔ c < yn y ∧ ypl y c = 2) ∧
  gNe (yG y) ∧ (gL (yG y)).Nodup ∧ (∀ c, c ∈ gL (yG y) ↔ c < yn y ∧ ypl y c = 1) ∧
  (∀ g ∈ yG y, g.2.1 ≤ 3 ∧ 0 ≤ g.2.2) ∧ (∀ a b, ycf y a b = true → a < yn y ∧ b < yn y) ∧ (∀ a b, ycf y a b = ycf y b a) ∧
  (∀ c, c < yn y → (ywy y c = 0 ↔ ypl y c ≠ 3))
def RM (y : yT) (t : mS) : Prop :=
  (t.1 3 = 0 ∧ t.1 4 = nI (yn y) ∧ t.1 5 = nI (ytg y) ∧ t.1 7 = nI (yTr y).length) ∧ LaneOk t (gL (yG y)) (gF (yG y)) ∧
  (∀ i, i < (yTr y).length → t.2 8 i = nI ((yTr y).getD i 0)) ∧ (∀ a b, a < 40 → b < 40 → t.2 6 (40 * a + b) = bI (ycf y a b)) ∧
  (∀ c, c < yn y → t.2 0 c = nI (yrk y c) ∧ t.2 2 c = nI (ypl y c) ∧ t.2 4 c = nI (ywy y c) ∧ t.2 5 c = nI (yts y c) ∧ t.2 3 c = nI (jp (ytn y c))) ∧
  (∀ c, yn y ≤ c → c < 40 → t.2 3 c = 0 ∧ t.2 4 c = 0 ∧ t.2 5 c = 0) ∧
  (∀ i, i < (yG y).length → ∀ c, c ∈ ((yG y).getD i g0).1 → t.2 10 c = nI ((yG y).getD i g0).2.1 ∧ t.2 11 c = nI ((yG y).getD i g0).2.2)
def RC (y : yT) (z : zS) : Prop :=
  z.2.1 0 = (List.range (yn y)).map (fun c => nI (yrk y c)) ∧ z.2.1 2 = (List.range (yn y)).map (fun c => nI (ypl y c)) ∧ z.2.1 3 = (List.range (yn y)).map (fun c => nI (ywy y c)) ∧
  z.2.1 4 = (List.range (yn y)).map (fun c => nI (ytn y c)) ∧ z.2.1 5 = (List.range (yn y)).map (fun c => nI (yts y c)) ∧ (z.2.1 1).length = yn y ∧
  z.2.1 6 = (yQ y).map nI ∧ z.2.1 7 = (yTr y).map nI ∧ z.2.1 8 = (gL (yG y)).map nI ∧ z.2.1 9 = (yG y).map (fun g => nI g.1.length) ∧ z.2.1 10 = (yG y).map (fun g => nI g.2.1) ∧ z.2.1 11 = (yG y).map (fun g => nI g.2.2) ∧
  z.1 6 = nI (ytg y) ∧ (∀ a b, a < 40 → b < 40 → zConf z (nI a) (nI b) = ycf y a b)
def RS (y : yT) (z : zS) (t : mS) : Prop := z.1 0 = t.1 0 ∧ z.1 1 = t.1 1 ∧ z.1 2 = t.1 2 ∧ z.1 3 = t.1 11 ∧ z.1 4 = t.1 8 ∧ z.1 5 = t.1 9 ∧ z.1 7 = t.1 10 ∧ (∀ c, c < yn y → (z.2.1 1).getD c (-1) = t.2 1 c) ∧ (t.1 11 = 0 ∨ t.1 11 = 1) ∧ (∃ m, t.1 0 = nI m ∧ 1 ≤ m ∧ m ≤ 8) ∧ (∃ m, t.1 1 = nI m ∧ 1 ≤ m ∧ m ≤ 4) ∧ (∃ m, t.1 2 = nI m ∧ 1 ≤ m ∧ m ≤ 3)
/-- a list of different numbers below n has at most n -/
theorem nd_len : ∀ (n : Nat) (l : List Nat), l.Nodup → (∀ x ∈ l, x < n) → l.length ≤ n := by
  intro n
  induction n with
  | zero =>
    intro l _ h
    cases l with
    | nil => simp
    | cons a l => exact absurd (h a List.mem_cons_self) (by omega)
  | succ n ih =>
    intro l hn h
    by_cases hm : n ∈ l
    · have h1 := ih (l.erase n) (hn.erase n) (fun x hx => by
        have h2 := h x (List.mem_of_mem_erase hx)
        have h3 : x ≠ n := fun e => by subst e; exact (hn.not_mem_erase) hx
        omega)
      rw [List.length_erase_of_mem hm] at h1
      omega
    · have h1 := ih l hn (fun x hx => by
        have h2 := h x hx
        have h3 : x ≠ n := fun e => hm (e ▸ hx)
        omega)
      omega
theorem WF.tl {y : yT} (hW : WF y) : (yTr y).length + (gL (yG y)).length ≤ 40 := by
  obtain ⟨w1, w2, w3, w4, w5, w6, w7, w8, w9, w10, w11, w12, w13, w14, w15⟩ := hW
  have : (yTr y ++ gL (yG y)).length ≤ yn y := by
    refine nd_len _ _ ?_ ?_
    · rw [List.nodup_append]
      refine ⟨w7, w10, ?_⟩
      intro a ha b hb e
      subst e
      have h1 := ((w8 a).mp ha).2
      have h2 := ((w11 a).mp hb).2
      omega
    · intro x hx
      rcases List.mem_append.mp hx with hx | hx
      · exact ((w8 x).mp hx).1
      · exact ((w11 x).mp hx).1
  rw [List.length_append] at this
  omega
theorem yBef_irr (y : yT) (a : Nat) : yBef y a a = false := by simp [yBef]
theorem pw_nodup {R : Nat → Nat → Prop} {l : List Nat} (h : l.Pairwise R) (hi : ∀ a, ¬ R a a) : l.Nodup := h.imp (fun {a b} hab e => by subst e; exact hi a hab)
theorem WF.qn {y : yT} (hW : WF y) : (yQ y).Nodup := pw_nodup hW.2.2.2.2.1 (fun a => by rw [yBef_irr]; decide)
theorem WF.ql {y : yT} (hW : WF y) : (yQ y).length ≤ 40 := by
  have := nd_len (yn y) (yQ y) hW.qn (fun x hx => ((hW.2.2.2.2.2.1 x).mp hx).1)
  have := hW.1
  omega
theorem gE_len {G : List gT} (hn : gNe G) : G.length ≤ (gL G).length := by
  induction G with
  | nil => simp
  | cons g G ih =>
    have hne : 0 < g.1.length := List.length_pos_iff.mpr (hn g List.mem_cons_self)
    have := ih (fun q hq => hn q (List.mem_cons_of_mem _ hq))
    simp only [gL, List.flatMap_cons, List.length_append, List.length_cons] at this ⊢
    omega
theorem WF.gl {y : yT} (hW : WF y) : (yG y).length ≤ 40 := by
  have h1 := gE_len hW.2.2.2.2.2.2.2.2.1
  have h2 := hW.tl
  omega
end
section
/-! THE MODEL's QUESTIONS, under the relation -/
def isC (n : Nat) (c : Int32) : Bool := !decide (c < 0) && decide (c < nI n)
theorem isC_k {n : Nat} {c : Int32} (hn : n ≤ 40) (h : isC n c = true) : c.toNatClampNeg < n ∧ c = nI c.toNatClampNeg := by
  simp only [isC, Bool.and_eq_true, Bool.not_eq_true', decide_eq_false_iff_not, decide_eq_true_eq] at h
  obtain ⟨j, h1, h2, h3⟩ := i_pos h.1
  have h4 := h.2
  rw [h2, nI_ltI h1 (by omega)] at h4
  rw [h3]
  exact ⟨h4, h2⟩
theorem isC_nI {n k : Nat} (hn : n ≤ 40) (hk : k < 2 ^ 31) : isC n (nI k) = decide (k < n) := by
  unfold isC
  have h1 : ¬ nI k < 0 := nI_pos hk
  rw [show decide (nI k < nI n) = decide (k < n) from decide_eq_decide.mpr (nI_ltI hk (by omega))]
  simp [h1]
section MP
variable {p : ax_H} {t : mS} {h : ax_H} {d : Nat} {y : yT}
theorem RM.t2 (hR : RM y t) (hW : WF y) : ∀ i, i < (yTr y).length → t.2 8 i = nI ((yTr y).getD i 0) ∧ (yTr y).getD i 0 < 40 := by
  intro i hi
  refine ⟨hR.2.2.1 i hi, ?_⟩
  have : (yTr y).getD i 0 ∈ yTr y := by
    rw [List.getD_eq_getElem?_getD, List.getElem?_eq_getElem hi]
    exact List.getElem_mem hi
  have h1 := ((hW.2.2.2.2.2.2.2.1 _).mp this).1
  have := hW.1
  omega
theorem RM.tr4 (hW : WF y) : (yTr y).length ≤ 40 := by
  have := hW.tl
  omega
def yWhere (y : yT) (c : Int32) : Int32 := if isC (yn y) c = true then nI (ypl y c.toNatClampNeg) else -1
theorem yM_where (hR : RM y t) (hW : WF y) (hm : isM p t h) (c : Int32) : AM (d + 1) kM_where 0 0 none [.ref 28, .int c] h (fun r h' => r = some (.int (yWhere y c)) ∧ isM p t h') := by
  obtain ⟨⟨hcode, hn4, h5, h7⟩, hL, hT2, hcf, hA, hA2, hGr⟩ := id hR
  have hn := hW.1
  refine AX.aload_n rfl rfl ?_
  refine AX.iconstV (v := 0) rfl (by decide) ?_
  refine AX.putf rfl (M0 hm) (Nat.le_of_ble_eq_true rfl) rfl ?_
  refine AX.gen (G := isM p _) (MS hm 3 _ (by decide) rfl) (fun h hm => ?_)
  rw [mset_same hcode] at hm
  refine AX.aload_n rfl rfl ?_
  refine AX.iload_n rfl rfl ?_
  refine AX.cVI rfl rfl rfl (M0 hm) (sM_isChange hn4 hn hm _) (fun h hm => ?_)
  refine AX.if_eqB rfl (fun c1 => ?_) (fun c1 => ?_)
  · refine AX.iconstV (v := (-1)) rfl (by decide) ?_
    exact AX.ireturn rfl rfl ⟨by simp [yWhere, isC, c1], hm⟩ (Nat.le_refl _) (Nat.le_refl _)
  · refine AX.aload_n rfl rfl ?_
    refine AX.getf rfl (M0 hm) rfl ?_
    refine AX.iload_n rfl rfl ?_
    refine AX.ialdX rfl (MA hm 2 (by decide) (by decide) (by decide)) (by decide) (⟨c.toNatClampNeg, by have := (isC_k hn c1).1; omega, (isC_k hn c1).2, (hA _ (isC_k hn c1).1).2.1⟩) ?_
    refine AX.goto rfl ?_
    exact AX.ireturn rfl rfl ⟨by simp [yWhere, isC, c1], hm⟩ (Nat.le_refl _) (Nat.le_refl _)
def yWhy (y : yT) (c : Int32) : Int32 := if isC (yn y) c = true then nI (ywy y c.toNatClampNeg) else -1
theorem yM_why (hR : RM y t) (hW : WF y) (hm : isM p t h) (c : Int32) : AM (d + 1) kM_why 0 0 none [.ref 28, .int c] h (fun r h' => r = some (.int (yWhy y c)) ∧ isM p t h') := by
  obtain ⟨⟨hcode, hn4, h5, h7⟩, hL, hT2, hcf, hA, hA2, hGr⟩ := id hR
  have hn := hW.1
  refine AX.aload_n rfl rfl ?_
  refine AX.iconstV (v := 0) rfl (by decide) ?_
  refine AX.putf rfl (M0 hm) (Nat.le_of_ble_eq_true rfl) rfl ?_
  refine AX.gen (G := isM p _) (MS hm 3 _ (by decide) rfl) (fun h hm => ?_)
  rw [mset_same hcode] at hm
  refine AX.aload_n rfl rfl ?_
  refine AX.iload_n rfl rfl ?_
  refine AX.cVI rfl rfl rfl (M0 hm) (sM_isChange hn4 hn hm _) (fun h hm => ?_)
  refine AX.if_eqB rfl (fun c1 => ?_) (fun c1 => ?_)
  · refine AX.iconstV (v := (-1)) rfl (by decide) ?_
    exact AX.ireturn rfl rfl ⟨by simp [yWhy, isC, c1], hm⟩ (Nat.le_refl _) (Nat.le_refl _)
  · refine AX.aload_n rfl rfl ?_
    refine AX.getf rfl (M0 hm) rfl ?_
    refine AX.iload_n rfl rfl ?_
    refine AX.ialdX rfl (MA hm 4 (by decide) (by decide) (by decide)) (by decide) (⟨c.toNatClampNeg, by have := (isC_k hn c1).1; omega, (isC_k hn c1).2, (hA _ (isC_k hn c1).1).2.2.1⟩) ?_
    refine AX.goto rfl ?_
    exact AX.ireturn rfl rfl ⟨by simp [yWhy, isC, c1], hm⟩ (Nat.le_refl _) (Nat.le_refl _)
def yLanded (y : yT) (k : Int32) : Int32 := if k < 0 then -1 else (if k < nI (yTr y).length then nI ((yTr y).getD k.toNatClampNeg 0) else -1)
theorem yM_landed (hR : RM y t) (hW : WF y) (hm : isM p t h) (k : Int32) : AM d kM_landed 0 0 none [.ref 28, .int k] h (fun r h' => r = some (.int (yLanded y k)) ∧ isM p t h') := by
  obtain ⟨⟨hcode, hn4, h5, h7⟩, hL, hT2, hcf, hA, hA2, hGr⟩ := id hR
  have ht := RM.tr4 hW
  refine AX.aload_n rfl rfl ?_
  refine AX.iconstV (v := 0) rfl (by decide) ?_
  refine AX.putf rfl (M0 hm) (Nat.le_of_ble_eq_true rfl) rfl ?_
  refine AX.gen (G := isM p _) (MS hm 3 _ (by decide) rfl) (fun h hm => ?_)
  rw [mset_same hcode] at hm
  refine AX.iload_n rfl rfl ?_
  refine AX.if_lt rfl (fun c1 => ?_) (fun c1 => ?_)
  · refine AX.iconstV (v := (-1)) rfl (by decide) ?_
    refine AX.goto rfl ?_
    exact AX.ireturn rfl rfl ⟨by first | (simp [yLanded, c1]; done) | (rw [h7] at c2; simp [yLanded, c1]; done), hm⟩ (Nat.le_refl _) (Nat.le_refl _)
  · refine AX.iload_n rfl rfl ?_
    refine AX.aload_n rfl rfl ?_
    refine AX.getf rfl (M0 hm) rfl ?_
    refine AX.icmp_lt rfl (fun c2 => ?_) (fun c2 => ?_)
    · refine AX.aload_n rfl rfl ?_
      refine AX.getf rfl (M0 hm) rfl ?_
      refine AX.iload_n rfl rfl ?_
      refine AX.ialdX rfl (MA hm 8 (by decide) (by decide) (by decide)) (by decide) (by obtain ⟨j, j1, j2, j3⟩ := i_pos c1; rw [h7, j2, nI_ltI j1 (by omega)] at c2; exact ⟨k.toNatClampNeg, by omega, by rw [j3]; exact j2, hT2 _ (by omega)⟩) ?_
      exact AX.ireturn rfl rfl ⟨by first | (simp [yLanded, c1]; done) | (rw [h7] at c2; simp [yLanded, c1, c2]; done), hm⟩ (Nat.le_refl _) (Nat.le_refl _)
    · refine AX.iconstV (v := (-1)) rfl (by decide) ?_
      refine AX.goto rfl ?_
      exact AX.ireturn rfl rfl ⟨by first | (simp [yLanded, c1]; done) | (rw [h7] at c2; simp [yLanded, c1, c2]; done), hm⟩ (Nat.le_refl _) (Nat.le_refl _)
theorem yM_waiting (hR : RM y t) (hW : WF y) (hm : isM p t h) (k : Int32) : AM (d + 2) kM_waiting 0 0 none [.ref 28, .int k] h (fun r h' => r = some (.int (if k < 0 then -1 else mWt t (yn y) k)) ∧ isM p t h') := by
  obtain ⟨⟨hcode, hn4, h5, h7⟩, hL, hT2, hcf, hA, hA2, hGr⟩ := id hR
  have hn := hW.1
  refine AX.aload_n rfl rfl ?_
  refine AX.iconstV (v := 0) rfl (by decide) ?_
  refine AX.putf rfl (M0 hm) (Nat.le_of_ble_eq_true rfl) rfl ?_
  refine AX.gen (G := isM p _) (MS hm 3 _ (by decide) rfl) (fun h hm => ?_)
  rw [mset_same hcode] at hm
  refine AX.iload_n rfl rfl ?_
  refine AX.if_ge rfl (fun c1 => ?_) (fun c1 => ?_)
  · refine AX.aload_n rfl rfl ?_
    refine AX.iload_n rfl rfl ?_
    refine AX.cVI rfl rfl rfl (M0 hm) (sM_waitingAt hn4 hn hm _) (fun h hm => ?_)
    exact AX.ireturn rfl rfl ⟨by first | (rw [if_neg (Int32.not_lt.mpr c1)]; done) | (rw [if_pos (Int32.not_le.mp c1)]; done), hm⟩ (Nat.le_refl _) (Nat.le_refl _)
  · refine AX.iconstV (v := (-1)) rfl (by decide) ?_
    refine AX.goto rfl ?_
    exact AX.ireturn rfl rfl ⟨by first | (rw [if_neg (Int32.not_lt.mpr c1)]; done) | (rw [if_pos (Int32.not_le.mp c1)]; done), hm⟩ (Nat.le_refl _) (Nat.le_refl _)
def yBy (y : yT) (c : Int32) : Int32 := if isC (yn y) c = true then (if ywy y c.toNatClampNeg = 1 then nI (yts y c.toNatClampNeg) else if ywy y c.toNatClampNeg = 2 then yFC (ycf y) (yTr y) c.toNatClampNeg else -1) else -1
theorem nI_is {a : Nat} (k : Nat) (ha : a < 2 ^ 31) (hk : k < 2 ^ 31) : nI a = nI k ↔ a = k := nI_eq ha hk
theorem yM_by (hR : RM y t) (hW : WF y) (hm : isM p t h) (c : Int32) : AM (d + 2) kM_by 0 0 none [.ref 28, .int c] h (fun r h' => r = some (.int (yBy y c)) ∧ isM p t h') := by
  obtain ⟨⟨hcode, hn4, h5, h7⟩, hL, hT2, hcf, hA, hA2, hGr⟩ := id hR
  have hn := hW.1
  have w3 : ∀ c, c < yn y → ywy y c ≤ 3 := fun c hc => (hW.2.1 c hc).2.2.1
  by_cases hc : isC (yn y) c = true
  · obtain ⟨k1, k2⟩ := isC_k hn hc
    generalize c.toNatClampNeg = k at k1 k2
    subst k2
    have e : (nI k).toNatClampNeg = k := nI_clamp (by omega)
    have w := w3 k k1
    refine AX.aload_n rfl rfl ?_
    refine AX.iconstV (v := 0) rfl (by decide) ?_
    refine AX.putf rfl (M0 hm) (Nat.le_of_ble_eq_true rfl) rfl ?_
    refine AX.gen (G := isM p _) (MS hm 3 _ (by decide) rfl) (fun h hm => ?_)
    rw [mset_same hcode] at hm
    refine AX.aload_n rfl rfl ?_
    refine AX.iload_n rfl rfl ?_
    refine AX.cVI rfl rfl rfl (M0 hm) (sM_isChange hn4 hn hm _) (fun h hm => ?_)
    refine AX.if_neB rfl (fun c1 => ?_) (fun c1 => ?_)
    · refine AX.aload_n rfl rfl ?_
      refine AX.getf rfl (M0 hm) rfl ?_
      refine AX.iload_n rfl rfl ?_
      refine AX.ialdX rfl (MA hm 4 (by decide) (by decide) (by decide)) (by decide) (⟨k, by omega, rfl, (hA k k1).2.2.1⟩) ?_
      refine AX.iconstV (v := 1) rfl (by decide) ?_
      refine AX.icmp_ne rfl (fun c2 => ?_) (fun c2 => ?_)
      · refine AX.aload_n rfl rfl ?_
        refine AX.getf rfl (M0 hm) rfl ?_
        refine AX.iload_n rfl rfl ?_
        refine AX.ialdX rfl (MA hm 4 (by decide) (by decide) (by decide)) (by decide) (⟨k, by omega, rfl, (hA k k1).2.2.1⟩) ?_
        refine AX.iconstV (v := 2) rfl (by decide) ?_
        refine AX.icmp_ne rfl (fun c3 => ?_) (fun c3 => ?_)
        · refine AX.iconstV (v := (-1)) rfl (by decide) ?_
          exact AX.ireturn rfl rfl ⟨by first | (exact absurd (c1.symm.trans hc) (by decide)) | (rw [show (2 : Int32) = nI 2 from rfl, nI_eq (by omega) (by decide)] at c3; rw [show (1 : Int32) = nI 1 from rfl, nI_eq (by omega) (by decide)] at c2; simp [yBy, hc, e, c2, c3]; done) | (rw [show (1 : Int32) = nI 1 from rfl, nI_eq (by omega) (by decide)] at c2; simp [yBy, hc, e, c2]; done), hm⟩ (Nat.le_refl _) (Nat.le_refl _)
        · refine AX.aload_n rfl rfl ?_
          refine AX.iload_n rfl rfl ?_
          refine AX.cVI rfl rfl rfl (M0 hm) (sM_inTree hcf h7 (RM.tr4 hW) (hR.t2 hW) hm (c := k) (by omega)) (fun h hm => ?_)
          refine AX.goto rfl ?_
          exact AX.ireturn rfl rfl ⟨by first | (exact absurd (c1.symm.trans hc) (by decide)) | (rw [show (2 : Int32) = nI 2 from rfl, nI_eq (by omega) (by decide)] at c3; rw [show (1 : Int32) = nI 1 from rfl, nI_eq (by omega) (by decide)] at c2; simp [yBy, hc, e, c2, c3]; done) | (rw [show (1 : Int32) = nI 1 from rfl, nI_eq (by omega) (by decide)] at c2; simp [yBy, hc, e, c2]; done), hm⟩ (Nat.le_refl _) (Nat.le_refl _)
      · refine AX.aload_n rfl rfl ?_
        refine AX.getf rfl (M0 hm) rfl ?_
        refine AX.iload_n rfl rfl ?_
        refine AX.ialdX rfl (MA hm 5 (by decide) (by decide) (by decide)) (by decide) (⟨k, by omega, rfl, (hA k k1).2.2.2.1⟩) ?_
        refine AX.goto rfl ?_
        exact AX.ireturn rfl rfl ⟨by first | (exact absurd (c1.symm.trans hc) (by decide)) | (rw [show (2 : Int32) = nI 2 from rfl, nI_eq (by omega) (by decide)] at c3; rw [show (1 : Int32) = nI 1 from rfl, nI_eq (by omega) (by decide)] at c2; simp [yBy, hc, e, c2, c3]; done) | (rw [show (1 : Int32) = nI 1 from rfl, nI_eq (by omega) (by decide)] at c2; simp [yBy, hc, e, c2]; done), hm⟩ (Nat.le_refl _) (Nat.le_refl _)
    · refine AX.iconstV (v := (-1)) rfl (by decide) ?_
      refine AX.goto rfl ?_
      exact AX.ireturn rfl rfl ⟨by first | (exact absurd (c1.symm.trans hc) (by decide)) | (rw [show (2 : Int32) = nI 2 from rfl, nI_eq (by omega) (by decide)] at c3; rw [show (1 : Int32) = nI 1 from rfl, nI_eq (by omega) (by decide)] at c2; simp [yBy, hc, e, c2, c3]; done) | (rw [show (1 : Int32) = nI 1 from rfl, nI_eq (by omega) (by decide)] at c2; simp [yBy, hc, e, c2]; done), hm⟩ (Nat.le_refl _) (Nat.le_refl _)
  · skip
    refine AX.aload_n rfl rfl ?_
    refine AX.iconstV (v := 0) rfl (by decide) ?_
    refine AX.putf rfl (M0 hm) (Nat.le_of_ble_eq_true rfl) rfl ?_
    refine AX.gen (G := isM p _) (MS hm 3 _ (by decide) rfl) (fun h hm => ?_)
    rw [mset_same hcode] at hm
    refine AX.aload_n rfl rfl ?_
    refine AX.iload_n rfl rfl ?_
    refine AX.cVI rfl rfl rfl (M0 hm) (sM_isChange hn4 hn hm _) (fun h hm => ?_)
    refine AX.if_neB rfl (fun c1 => ?_) (fun c1 => ?_)
    · exact absurd c1 hc
    · refine AX.iconstV (v := (-1)) rfl (by decide) ?_
      refine AX.goto rfl ?_
      exact AX.ireturn rfl rfl ⟨by simp [yBy, hc], hm⟩ (Nat.le_refl _) (Nat.le_refl _)
def mPar (t : mS) (Tr : List Nat) : Nat → Nat → Int32 → Int32
  | 0, _, acc => acc
  | r + 1, m, acc => mPar t Tr r (m + 1) (acc ||| t.2 1 (Tr.getD m 0))
def yCounted (y : yT) (t : mS) (w : Int32) : Int32 := if w = 0 then t.1 8 else if w = 1 then t.1 9 else if w = 2 then t.1 10 else if w = 3 then mPar t (yTr y) (yTr y).length 0 0 else -1
theorem yM_counted_l (hR : RM y t) (hW : WF y) (w : Int32) : ∀ (r m : Nat) (acc : Int32) (h : ax_H), isM p t h → (yTr y).length = m + r → mPar t (yTr y) r m acc = mPar t (yTr y) (yTr y).length 0 0 →
    AX d kM_counted 0 0 none 9 [(3, .int (nI m)), (2, .int acc), (0, .ref 28), (1, .int w)] [] h 0 0 (ax_ret kM_counted 0 0 (fun v h' => v = some (.int (yCounted y t w)) ∧ isM p t h')) := by
  obtain ⟨⟨hcode, hn4, h5, h7⟩, hL, hT2, hcf, hA, hA2, hGr⟩ := id hR
  have ht := RM.tr4 hW
  intro r
  induction r with
  | zero =>
    intro m acc h hm hb hx
    refine AX.iload_n rfl rfl ?_
    refine AX.aload_n rfl rfl ?_
    refine AX.getf rfl (M0 hm) rfl ?_
    refine AX.icmp_ge rfl (fun c1 => ?_) (fun c1 => ?_)
    · refine AX.iload_n rfl rfl ?_
      refine AX.if_ne rfl (fun c2 => ?_) (fun c2 => ?_)
      · refine AX.iload_n rfl rfl ?_
        refine AX.iconstV (v := 1) rfl (by decide) ?_
        refine AX.icmp_ne rfl (fun c3 => ?_) (fun c3 => ?_)
        · refine AX.iload_n rfl rfl ?_
          refine AX.iconstV (v := 2) rfl (by decide) ?_
          refine AX.icmp_ne rfl (fun c4 => ?_) (fun c4 => ?_)
          · refine AX.iload_n rfl rfl ?_
            refine AX.iconstV (v := 3) rfl (by decide) ?_
            refine AX.icmp_ne rfl (fun c5 => ?_) (fun c5 => ?_)
            · refine AX.iconstV (v := (-1)) rfl (by decide) ?_
              exact AX.ireturn rfl rfl ⟨by first | (simp [yCounted, c1, c2, c3, c4, c5]; done) | (rw [show acc = mPar t (yTr y) (yTr y).length 0 0 from hx]; simp [yCounted, c1, c2, c3, c4, c5]; done), hm⟩ (Nat.le_refl _) (Nat.le_refl _)
            · refine AX.iload_n rfl rfl ?_
              refine AX.goto rfl ?_
              exact AX.ireturn rfl rfl ⟨by first | (simp [yCounted, c1, c2, c3, c4, c5]; done) | (rw [show acc = mPar t (yTr y) (yTr y).length 0 0 from hx]; simp [yCounted, c1, c2, c3, c4, c5]; done), hm⟩ (Nat.le_refl _) (Nat.le_refl _)
          · refine AX.aload_n rfl rfl ?_
            refine AX.getf rfl (M0 hm) rfl ?_
            refine AX.goto rfl ?_
            exact AX.ireturn rfl rfl ⟨by first | (simp [yCounted, c1, c2, c3, c4]; done) | (rw [show acc = mPar t (yTr y) (yTr y).length 0 0 from hx]; simp [yCounted, c1, c2, c3, c4]; done), hm⟩ (Nat.le_refl _) (Nat.le_refl _)
        · refine AX.aload_n rfl rfl ?_
          refine AX.getf rfl (M0 hm) rfl ?_
          refine AX.goto rfl ?_
          exact AX.ireturn rfl rfl ⟨by first | (simp [yCounted, c1, c2, c3]; done) | (rw [show acc = mPar t (yTr y) (yTr y).length 0 0 from hx]; simp [yCounted, c1, c2, c3]; done), hm⟩ (Nat.le_refl _) (Nat.le_refl _)
      · refine AX.aload_n rfl rfl ?_
        refine AX.getf rfl (M0 hm) rfl ?_
        refine AX.goto rfl ?_
        exact AX.ireturn rfl rfl ⟨by first | (simp [yCounted, c1, c2]; done) | (rw [show acc = mPar t (yTr y) (yTr y).length 0 0 from hx]; simp [yCounted, c1, c2]; done), hm⟩ (Nat.le_refl _) (Nat.le_refl _)
    · exact absurd (h7 ▸ nI_le (by omega) (by omega)) c1
  | succ r ih =>
    intro m acc h hm hb hx
    have h2 := hR.t2 hW m (by omega)
    refine AX.iload_n rfl rfl ?_
    refine AX.aload_n rfl rfl ?_
    refine AX.getf rfl (M0 hm) rfl ?_
    refine AX.icmp_ge rfl (fun c1 => ?_) (fun c1 => ?_)
    · exact absurd (h7 ▸ c1) (nI_ge (by omega) (by omega))
    · refine AX.iload_n rfl rfl ?_
      refine AX.aload_n rfl rfl ?_
      refine AX.getf rfl (M0 hm) rfl ?_
      refine AX.aload_n rfl rfl ?_
      refine AX.getf rfl (M0 hm) rfl ?_
      refine AX.iload_n rfl rfl ?_
      refine AX.ialdX rfl (MA hm 8 (by decide) (by decide) (by decide)) (by decide) (⟨m, by omega, rfl, h2.1⟩) ?_
      refine AX.ialdX rfl (MA hm 1 (by decide) (by decide) (by decide)) (by decide) (⟨_, h2.2, rfl, rfl⟩) ?_
      refine AX.ior rfl ?_
      refine AX.istore_n rfl (by decide) ?_
      refine AX.iincV (dn := 1) rfl rfl (by decide) (by decide) ?_
      refine AX.goto rfl ?_
      rw [nI_1]
      exact ih (m + 1) _ h hm (by omega) hx
theorem yM_counted (hR : RM y t) (hW : WF y) (hm : isM p t h) (w : Int32) : AM d kM_counted 0 0 none [.ref 28, .int w] h (fun v h' => v = some (.int (yCounted y t w)) ∧ isM p t h') := by
  have hcode := hR.1.1
  refine AX.aload_n rfl rfl ?_
  refine AX.iconstV (v := 0) rfl (by decide) ?_
  refine AX.putf rfl (M0 hm) (Nat.le_of_ble_eq_true rfl) rfl ?_
  refine AX.gen (G := isM p _) (MS hm 3 _ (by decide) rfl) (fun h hm => ?_)
  rw [mset_same hcode] at hm
  refine AX.iconstV (v := 0) rfl (by decide) ?_
  refine AX.istore_n rfl (by decide) ?_
  refine AX.iconstV (v := 0) rfl (by decide) ?_
  refine AX.istore_n rfl (by decide) ?_
  exact yM_counted_l hR hW w (yTr y).length 0 0 h hm (by omega) rfl
theorem yM_groupMany (hR : RM y t) (hW : WF y) (hm : isM p t h) : AM d kM_groupMany 0 0 none [.ref 28] h (fun v h' => v = some (.int (nI (yG y).length)) ∧ isM p t h') := by
  have e := mCnt_gF (yG y) 0 hW.2.2.2.2.2.2.2.2.1
  rw [Nat.zero_add] at e
  rw [← e]
  exact sM_groupMany hR.2.1 hm
theorem yM_groups (hR : RM y t) (hW : WF y) (hm : isM p t h) : AM (d + 1) kM_groups 0 0 none [.ref 28] h (fun v h' => v = some (.int (nI (yG y).length)) ∧ isM p t h') := by
  have hcode := hR.1.1
  refine AX.aload_n rfl rfl ?_
  refine AX.iconstV (v := 0) rfl (by decide) ?_
  refine AX.putf rfl (M0 hm) (Nat.le_of_ble_eq_true rfl) rfl ?_
  refine AX.gen (G := isM p _) (MS hm 3 _ (by decide) rfl) (fun h hm => ?_)
  rw [mset_same hcode] at hm
  refine AX.aload_n rfl rfl ?_
  refine AX.cVI rfl rfl rfl (M0 hm) (yM_groupMany hR hW hm) (fun h hm => ?_)
  exact AX.ireturn rfl rfl ⟨rfl, hm⟩ (Nat.le_refl _) (Nat.le_refl _)
def yIsG (y : yT) (g : Int32) : Bool := isC (yG y).length g
theorem yM_isGroup (hR : RM y t) (hW : WF y) (hm : isM p t h) (g : Int32) : AM (d + 1) kM_isGroup 0 0 none [.ref 28, .int g] h (fun v h' => v = some (.int (bI (yIsG y g))) ∧ isM p t h') := by
  refine AX.iload_n rfl rfl ?_
  refine AX.if_lt rfl (fun c1 => ?_) (fun c1 => ?_)
  · refine AX.iconstV (v := 0) rfl (by decide) ?_
    exact AX.zreturn rfl rfl (by decide) ⟨by first | (have c3 := Int32.not_lt.mpr c2; simp [yIsG, isC, c1, c3, bI]; done) | (have c3 := Int32.not_le.mp c2; simp [yIsG, isC, c1, c3, bI]; done) | (simp [yIsG, isC, c1, bI]; done), hm⟩ (Nat.le_refl _) (Nat.le_refl _)
  · refine AX.iload_n rfl rfl ?_
    refine AX.aload_n rfl rfl ?_
    refine AX.cVI rfl rfl rfl (M0 hm) (yM_groupMany hR hW hm) (fun h hm => ?_)
    refine AX.icmp_ge rfl (fun c2 => ?_) (fun c2 => ?_)
    · refine AX.iconstV (v := 0) rfl (by decide) ?_
      exact AX.zreturn rfl rfl (by decide) ⟨by first | (have c3 := Int32.not_lt.mpr c2; simp [yIsG, isC, c1, c3, bI]; done) | (have c3 := Int32.not_le.mp c2; simp [yIsG, isC, c1, c3, bI]; done) | (simp [yIsG, isC, c1, bI]; done), hm⟩ (Nat.le_refl _) (Nat.le_refl _)
    · refine AX.iconstV (v := 1) rfl (by decide) ?_
      refine AX.goto rfl ?_
      exact AX.zreturn rfl rfl (by decide) ⟨by first | (have c3 := Int32.not_lt.mpr c2; simp [yIsG, isC, c1, c3, bI]; done) | (have c3 := Int32.not_le.mp c2; simp [yIsG, isC, c1, c3, bI]; done) | (simp [yIsG, isC, c1, bI]; done), hm⟩ (Nat.le_refl _) (Nat.le_refl _)
theorem yM_startOf (hR : RM y t) (hW : WF y) (hm : isM p t h) {g : Nat} (hg : g ≤ (yG y).length) : AM d kM_startOf 0 0 none [.ref 28, .int (nI g)] h (fun v h' => v = some (.int (nI (gB (yG y) g))) ∧ isM p t h') := by
  have hl := hW.gl
  rw [← mS0_gF hW.2.2.2.2.2.2.2.2.1 hg (by omega)]
  exact sM_startOf hR.2.1 hm (nI g)
theorem gB_lL {G : List gT} {i : Nat} (hn : gNe G) (hi : i < G.length) : gB G i < (gL G).length := by
  rw [gL_len]
  have h1 := gB_lt hn hi
  have h2 : gB G (i + 1) ≤ gB G G.length := gB_le (by omega)
  omega
theorem getD_mem {l : List Nat} {i x : Nat} (h : i < l.length) : l.getD i x ∈ l := by
  rw [List.getD_eq_getElem?_getD, List.getElem?_eq_getElem h]
  exact List.getElem_mem h
theorem gFst {G : List gT} {i : Nat} (hn : gNe G) (hi : i < G.length) : (gL G).getD (gB G i) 0 ∈ (G.getD i g0).1 := by
  have hne : (G.getD i g0).1 ≠ [] := by
    have : G.getD i g0 ∈ G := by
      rw [List.getD_eq_getElem?_getD, List.getElem?_eq_getElem hi]
      exact List.getElem_mem hi
    exact hn _ this
  have hl : 0 < (G.getD i g0).1.length := List.length_pos_iff.mpr hne
  have e := gL_at (G := G) (i := i) (j := 0) hi hl
  rw [Nat.add_zero] at e
  rw [e]
  exact getD_mem hl
theorem yM_stateOf (hR : RM y t) (hW : WF y) (hm : isM p t h) {g : Nat} (hg : g < (yG y).length) : AM (d + 1) kM_stateOf 0 0 none [.ref 28, .int (nI g)] h (fun v h' => v = some (.int (nI ((yG y).getD g g0).2.1)) ∧ isM p t h') := by
  have hl := hW.gl
  have hn := hW.2.2.2.2.2.2.2.2.1
  have e := mS0_gF (G := yG y) (i := g) hn (by omega) (by omega)
  have h1 := sM_stateOf (d := d) (p := p) hR.2.1 hm (nI g) (by rw [e]; exact gB_lL hn hg)
  rw [e, (hR.2.2.2.2.2.2 g hg _ (gFst hn hg)).1] at h1
  exact h1
theorem yM_sizeOf (hR : RM y t) (hW : WF y) (hm : isM p t h) {g : Nat} (hg : g < (yG y).length) : AM (d + 1) kM_sizeOf 0 0 none [.ref 28, .int (nI g)] h (fun v h' => v = some (.int (nI ((yG y).getD g g0).1.length)) ∧ isM p t h') := by
  have hl := hW.gl
  have hn := hW.2.2.2.2.2.2.2.2.1
  have h1 := sM_sizeOf (d := d) (p := p) hR.2.1 hm (nI g)
  rw [nI_1, mS0_gF (G := yG y) (i := g + 1) hn (by omega) (by omega), mS0_gF (G := yG y) (i := g) hn (by omega) (by omega), pk_sub (gB_le (by omega)), gB_succ hg, Nat.add_sub_cancel_left] at h1
  exact h1
def yGroup (y : yT) (g w : Int32) : Int32 := if yIsG y g = true then (if w = 0 then nI ((yG y).getD g.toNatClampNeg g0).2.1 else if w = 1 then nI ((yG y).getD g.toNatClampNeg g0).1.length else if w = 2 then nI ((yG y).getD g.toNatClampNeg g0).2.2 else if w = 3 then nI (gB (yG y) g.toNatClampNeg) else -1) else -1
theorem RM.lane (hR : RM y t) (hW : WF y) {g : Nat} (hg : g < (yG y).length) : gB (yG y) g < 40 ∧ t.2 7 (gB (yG y) g) = nI ((gL (yG y)).getD (gB (yG y) g) 0) ∧ (gL (yG y)).getD (gB (yG y) g) 0 < 40 ∧ t.2 11 ((gL (yG y)).getD (gB (yG y) g) 0) = nI ((yG y).getD g g0).2.2 := by
  have hn := hW.2.2.2.2.2.2.2.2.1
  have h1 := gB_lL hn hg
  have h2 := hR.2.1.2.1
  have h3 := hR.2.1.2.2.2 _ h1
  exact ⟨by omega, h3.1, h3.2.1, (hR.2.2.2.2.2.2 g hg _ (gFst hn hg)).2⟩
theorem yM_group (hR : RM y t) (hW : WF y) (hm : isM p t h) (g w : Int32) : AM (d + 2) kM_group 0 0 none [.ref 28, .int g, .int w] h (fun v h' => v = some (.int (yGroup y g w)) ∧ isM p t h') := by
  have hcode := hR.1.1
  have hl := hW.gl
  by_cases hg : yIsG y g = true
  · obtain ⟨k1, k2⟩ := isC_k hl hg
    generalize hk : g.toNatClampNeg = k at k1 k2
    subst k2
    have h1 := hR.lane hW k1
    refine AX.aload_n rfl rfl ?_
    refine AX.iconstV (v := 0) rfl (by decide) ?_
    refine AX.putf rfl (M0 hm) (Nat.le_of_ble_eq_true rfl) rfl ?_
    refine AX.gen (G := isM p _) (MS hm 3 _ (by decide) rfl) (fun h hm => ?_)
    rw [mset_same hcode] at hm
    refine AX.aload_n rfl rfl ?_
    refine AX.iload_n rfl rfl ?_
    refine AX.cVI rfl rfl rfl (M0 hm) (yM_isGroup hR hW hm _) (fun h hm => ?_)
    refine AX.if_neB rfl (fun c1 => ?_) (fun c1 => ?_)
    · refine AX.iload_n rfl rfl ?_
      refine AX.if_ne rfl (fun c2 => ?_) (fun c2 => ?_)
      · refine AX.iload_n rfl rfl ?_
        refine AX.iconstV (v := 1) rfl (by decide) ?_
        refine AX.icmp_ne rfl (fun c3 => ?_) (fun c3 => ?_)
        · refine AX.iload_n rfl rfl ?_
          refine AX.iconstV (v := 2) rfl (by decide) ?_
          refine AX.icmp_ne rfl (fun c4 => ?_) (fun c4 => ?_)
          · refine AX.iload_n rfl rfl ?_
            refine AX.iconstV (v := 3) rfl (by decide) ?_
            refine AX.icmp_ne rfl (fun c5 => ?_) (fun c5 => ?_)
            · refine AX.iconstV (v := (-1)) rfl (by decide) ?_
              exact AX.ireturn rfl rfl ⟨by simp [yGroup, hg, hk, c1, c2, c3, c4, c5], hm⟩ (Nat.le_refl _) (Nat.le_refl _)
            · refine AX.aload_n rfl rfl ?_
              refine AX.iload_n rfl rfl ?_
              refine AX.cVI rfl rfl rfl (M0 hm) (yM_startOf hR hW hm (Nat.le_of_lt k1)) (fun h hm => ?_)
              refine AX.goto rfl ?_
              exact AX.ireturn rfl rfl ⟨by simp [yGroup, hg, hk, c1, c2, c3, c4, c5], hm⟩ (Nat.le_refl _) (Nat.le_refl _)
          · refine AX.aload_n rfl rfl ?_
            refine AX.getf rfl (M0 hm) rfl ?_
            refine AX.aload_n rfl rfl ?_
            refine AX.getf rfl (M0 hm) rfl ?_
            refine AX.aload_n rfl rfl ?_
            refine AX.iload_n rfl rfl ?_
            refine AX.cVI rfl rfl rfl (M0 hm) (yM_startOf hR hW hm (Nat.le_of_lt k1)) (fun h hm => ?_)
            refine AX.ialdX rfl (MA hm 7 (by decide) (by decide) (by decide)) (by decide) (⟨_, h1.1, rfl, h1.2.1⟩) ?_
            refine AX.ialdX rfl (MA hm 11 (by decide) (by decide) (by decide)) (by decide) (⟨_, h1.2.2.1, rfl, h1.2.2.2⟩) ?_
            refine AX.goto rfl ?_
            exact AX.ireturn rfl rfl ⟨by simp [yGroup, hg, hk, c1, c2, c3, c4], hm⟩ (Nat.le_refl _) (Nat.le_refl _)
        · refine AX.aload_n rfl rfl ?_
          refine AX.iload_n rfl rfl ?_
          refine AX.cVI rfl rfl rfl (M0 hm) (yM_sizeOf hR hW hm k1) (fun h hm => ?_)
          refine AX.goto rfl ?_
          exact AX.ireturn rfl rfl ⟨by simp [yGroup, hg, hk, c1, c2, c3], hm⟩ (Nat.le_refl _) (Nat.le_refl _)
      · refine AX.aload_n rfl rfl ?_
        refine AX.iload_n rfl rfl ?_
        refine AX.cVI rfl rfl rfl (M0 hm) (yM_stateOf hR hW hm k1) (fun h hm => ?_)
        refine AX.goto rfl ?_
        exact AX.ireturn rfl rfl ⟨by simp [yGroup, hg, hk, c1, c2], hm⟩ (Nat.le_refl _) (Nat.le_refl _)
    · exact absurd (c1.symm.trans hg) (by decide)
  · skip
    refine AX.aload_n rfl rfl ?_
    refine AX.iconstV (v := 0) rfl (by decide) ?_
    refine AX.putf rfl (M0 hm) (Nat.le_of_ble_eq_true rfl) rfl ?_
    refine AX.gen (G := isM p _) (MS hm 3 _ (by decide) rfl) (fun h hm => ?_)
    rw [mset_same hcode] at hm
    refine AX.aload_n rfl rfl ?_
    refine AX.iload_n rfl rfl ?_
    refine AX.cVI rfl rfl rfl (M0 hm) (yM_isGroup hR hW hm _) (fun h hm => ?_)
    refine AX.if_neB rfl (fun c1 => ?_) (fun c1 => ?_)
    · exact absurd c1 hg
    · refine AX.iconstV (v := (-1)) rfl (by decide) ?_
      exact AX.ireturn rfl rfl ⟨by simp [yGroup, hg], hm⟩ (Nat.le_refl _) (Nat.le_refl _)
def yMember (y : yT) (g k : Int32) : Int32 := if yIsG y g = true then (if k < 0 then -1 else if k < nI ((yG y).getD g.toNatClampNeg g0).1.length then nI (((yG y).getD g.toNatClampNeg g0).1.getD k.toNatClampNeg 0) else -1) else -1
theorem gLen_le (hW : WF y) {g : Nat} (hg : g < (yG y).length) : gB (yG y) g + ((yG y).getD g g0).1.length ≤ (gL (yG y)).length := by
  rw [gL_len, ← gB_succ hg]
  exact gB_le (by omega)
theorem yM_member (hR : RM y t) (hW : WF y) (hm : isM p t h) (g k : Int32) : AM (d + 2) kM_member 0 0 none [.ref 28, .int g, .int k] h (fun v h' => v = some (.int (yMember y g k)) ∧ isM p t h') := by
  have hcode := hR.1.1
  have hl := hW.gl
  by_cases hg : yIsG y g = true
  · obtain ⟨k1, k2⟩ := isC_k hl hg
    generalize hk : g.toNatClampNeg = q at k1 k2
    subst k2
    have h1 := gLen_le hW k1
    have h40 := hR.2.1.2.1
    refine AX.aload_n rfl rfl ?_
    refine AX.iconstV (v := 0) rfl (by decide) ?_
    refine AX.putf rfl (M0 hm) (Nat.le_of_ble_eq_true rfl) rfl ?_
    refine AX.gen (G := isM p _) (MS hm 3 _ (by decide) rfl) (fun h hm => ?_)
    rw [mset_same hcode] at hm
    refine AX.aload_n rfl rfl ?_
    refine AX.iload_n rfl rfl ?_
    refine AX.cVI rfl rfl rfl (M0 hm) (yM_isGroup hR hW hm _) (fun h hm => ?_)
    refine AX.if_eqB rfl (fun c1 => absurd (c1.symm.trans hg) (by decide)) (fun c1 => ?_)
    refine AX.iload_n rfl rfl ?_
    refine AX.if_lt rfl (fun c1 => ?_) (fun c1 => ?_)
    · refine AX.iconstV (v := (-1)) rfl (by decide) ?_
      refine AX.goto rfl ?_
      exact AX.ireturn rfl rfl ⟨by rw [yMember, if_pos hg, hk]; simp only [c1, if_true, if_false], hm⟩ (Nat.le_refl _) (Nat.le_refl _)
    · refine AX.iload_n rfl rfl ?_
      refine AX.aload_n rfl rfl ?_
      refine AX.iload_n rfl rfl ?_
      refine AX.cVI rfl rfl rfl (M0 hm) (yM_sizeOf hR hW hm k1) (fun h hm => ?_)
      refine AX.icmp_lt rfl (fun c2 => ?_) (fun c2 => ?_)
      · refine AX.aload_n rfl rfl ?_
        refine AX.getf rfl (M0 hm) rfl ?_
        refine AX.aload_n rfl rfl ?_
        refine AX.iload_n rfl rfl ?_
        refine AX.cVI rfl rfl rfl (M0 hm) (yM_startOf hR hW hm (Nat.le_of_lt k1)) (fun h hm => ?_)
        refine AX.iload_n rfl rfl ?_
        refine AX.iadd rfl ?_
        refine AX.ialdX rfl (MA hm 7 (by decide) (by decide) (by decide)) (by decide) (by obtain ⟨j, j1, j2, j3⟩ := i_pos c1; rw [j2, nI_ltI j1 (by omega)] at c2; exact ⟨gB (yG y) q + k.toNatClampNeg, by omega, by rw [j3, j2, nI_add], by rw [(hR.2.1.2.2.2 _ (by omega)).1, gL_at k1 (show k.toNatClampNeg < ((yG y).getD q g0).1.length by omega)]⟩) ?_
        exact AX.ireturn rfl rfl ⟨by rw [yMember, if_pos hg, hk]; simp only [c1, c2, if_true, if_false], hm⟩ (Nat.le_refl _) (Nat.le_refl _)
      · refine AX.iconstV (v := (-1)) rfl (by decide) ?_
        refine AX.goto rfl ?_
        exact AX.ireturn rfl rfl ⟨by rw [yMember, if_pos hg, hk]; simp only [c1, c2, if_true, if_false], hm⟩ (Nat.le_refl _) (Nat.le_refl _)
  · skip
    refine AX.aload_n rfl rfl ?_
    refine AX.iconstV (v := 0) rfl (by decide) ?_
    refine AX.putf rfl (M0 hm) (Nat.le_of_ble_eq_true rfl) rfl ?_
    refine AX.gen (G := isM p _) (MS hm 3 _ (by decide) rfl) (fun h hm => ?_)
    rw [mset_same hcode] at hm
    refine AX.aload_n rfl rfl ?_
    refine AX.iload_n rfl rfl ?_
    refine AX.cVI rfl rfl rfl (M0 hm) (yM_isGroup hR hW hm _) (fun h hm => ?_)
    refine AX.if_eqB rfl (fun c1 => ?_) (fun c1 => ?_)
    · refine AX.iconstV (v := (-1)) rfl (by decide) ?_
      refine AX.goto rfl ?_
      exact AX.ireturn rfl rfl ⟨by simp [yMember, hg], hm⟩ (Nat.le_refl _) (Nat.le_refl _)
    · exact absurd c1 hg
theorem yM_pause (hR : RM y t) (hm : isM p t h) (q : Int32) (hq : q = 0 ∨ q = 1) : AM d kM_pause 0 0 none [.ref 28, .int q] h (fun v h' => v = some (.int (bI (!decide (t.1 11 = q)))) ∧ isM p (mset t 11 q) h') := by
  have hcode := hR.1.1
  rcases hq with rfl | rfl
  · skip
    refine AX.aload_n rfl rfl ?_
    refine AX.iconstV (v := 0) rfl (by decide) ?_
    refine AX.putf rfl (M0 hm) (Nat.le_of_ble_eq_true rfl) rfl ?_
    refine AX.gen (G := isM p _) (MS hm 3 _ (by decide) rfl) (fun h hm => ?_)
    rw [mset_same hcode] at hm
    refine AX.aload_n rfl rfl ?_
    refine AX.getf rfl (M0 hm) rfl ?_
    refine AX.iload_n rfl rfl ?_
    refine AX.icmp_eq rfl (fun c1 => ?_) (fun c1 => ?_)
    · refine AX.iconstV (v := 0) rfl (by decide) ?_
      refine AX.istore_n rfl (by decide) ?_
      refine AX.aload_n rfl rfl ?_
      refine AX.iload_n rfl rfl ?_
      refine AX.putf rfl (M0 hm) (Nat.le_of_ble_eq_true rfl) rfl ?_
      refine AX.gen (G := isM p _) (MS hm 11 _ (by decide) rfl) (fun h hm => ?_)
      refine AX.iload_n rfl rfl ?_
      exact AX.zreturn rfl rfl (by decide) ⟨by simp [c1, bI], hm⟩ (Nat.le_refl _) (Nat.le_refl _)
    · refine AX.iconstV (v := 1) rfl (by decide) ?_
      refine AX.goto rfl ?_
      refine AX.istore_n rfl (by decide) ?_
      refine AX.aload_n rfl rfl ?_
      refine AX.iload_n rfl rfl ?_
      refine AX.putf rfl (M0 hm) (Nat.le_of_ble_eq_true rfl) rfl ?_
      refine AX.gen (G := isM p _) (MS hm 11 _ (by decide) rfl) (fun h hm => ?_)
      refine AX.iload_n rfl rfl ?_
      exact AX.zreturn rfl rfl (by decide) ⟨by simp [c1, bI], hm⟩ (Nat.le_refl _) (Nat.le_refl _)
  · skip
    refine AX.aload_n rfl rfl ?_
    refine AX.iconstV (v := 0) rfl (by decide) ?_
    refine AX.putf rfl (M0 hm) (Nat.le_of_ble_eq_true rfl) rfl ?_
    refine AX.gen (G := isM p _) (MS hm 3 _ (by decide) rfl) (fun h hm => ?_)
    rw [mset_same hcode] at hm
    refine AX.aload_n rfl rfl ?_
    refine AX.getf rfl (M0 hm) rfl ?_
    refine AX.iload_n rfl rfl ?_
    refine AX.icmp_eq rfl (fun c1 => ?_) (fun c1 => ?_)
    · refine AX.iconstV (v := 0) rfl (by decide) ?_
      refine AX.istore_n rfl (by decide) ?_
      refine AX.aload_n rfl rfl ?_
      refine AX.iload_n rfl rfl ?_
      refine AX.putf rfl (M0 hm) (Nat.le_of_ble_eq_true rfl) rfl ?_
      refine AX.gen (G := isM p _) (MS hm 11 _ (by decide) rfl) (fun h hm => ?_)
      refine AX.iload_n rfl rfl ?_
      exact AX.zreturn rfl rfl (by decide) ⟨by simp [c1, bI], hm⟩ (Nat.le_refl _) (Nat.le_refl _)
    · refine AX.iconstV (v := 1) rfl (by decide) ?_
      refine AX.goto rfl ?_
      refine AX.istore_n rfl (by decide) ?_
      refine AX.aload_n rfl rfl ?_
      refine AX.iload_n rfl rfl ?_
      refine AX.putf rfl (M0 hm) (Nat.le_of_ble_eq_true rfl) rfl ?_
      refine AX.gen (G := isM p _) (MS hm 11 _ (by decide) rfl) (fun h hm => ?_)
      refine AX.iload_n rfl rfl ?_
      exact AX.zreturn rfl rfl (by decide) ⟨by simp [c1, bI], hm⟩ (Nat.le_refl _) (Nat.le_refl _)
end MP
end
section
/-! THE CLASS's ANSWERS, under the relation: the same -/
section SM
variable {y : yT} {z : zS} {t : mS}
theorem rHas_isC {xs : List Int32} {c : Int32} (h : xs.length ≤ 40) : rHas xs c = isC xs.length c := by
  unfold rHas isC
  by_cases hc : c < 0
  · simp [hc]
  · obtain ⟨j, j1, j2, j3⟩ := i_pos hc
    rw [j3]
    have : decide (c < nI xs.length) = decide (j < xs.length) := by
      rw [j2]
      exact decide_eq_decide.mpr (nI_ltI j1 (by omega))
    rw [this]
theorem rAt_map {α : Type} {l : List α} {f : α → Int32} {c : Int32} (x : α) (h : l.length ≤ 40) : rAt (l.map f) c = if isC l.length c = true then f (l.getD c.toNatClampNeg x) else -1 := by
  unfold rAt
  rw [rHas_isC (by rw [List.length_map]; exact h), List.length_map]
  by_cases hc : isC l.length c = true
  · rw [if_pos hc, if_pos hc]
    have h1 := (isC_k h hc).1
    rw [List.getD_eq_getElem?_getD, List.getElem?_map, List.getD_eq_getElem?_getD, List.getElem?_eq_getElem h1]
    rfl
  · rw [if_neg hc, if_neg hc]
theorem rAt_range {n : Nat} {f : Nat → Int32} {c : Int32} (h : n ≤ 40) : rAt ((List.range n).map f) c = if isC n c = true then f c.toNatClampNeg else -1 := by
  rw [rAt_map 0 (by rw [List.length_range]; exact h), List.length_range]
  by_cases hc : isC n c = true
  · rw [if_pos hc, if_pos hc]
    have h1 := (isC_k h hc).1
    rw [List.getD_eq_getElem?_getD, List.getElem?_range h1]
    rfl
  · rw [if_neg hc, if_neg hc]
theorem same_where (hC : RC y z) (hW : WF y) (c : Int32) : zat z 2 c = yWhere y c := by
  rw [zat, hC.2.1, rAt_range hW.1]
  rfl
theorem same_why (hC : RC y z) (hW : WF y) (c : Int32) : zat z 3 c = yWhy y c := by
  rw [zat, hC.2.2.1, rAt_range hW.1]
  rfl
theorem same_landed (hC : RC y z) (hW : WF y) (k : Int32) : zat z 7 k = yLanded y k := by
  have hT : z.2.1 7 = (yTr y).map nI := hC.2.2.2.2.2.2.2.1
  rw [zat, hT, rAt_map 0 (RM.tr4 hW)]
  unfold yLanded isC
  by_cases h1 : k < 0
  · simp [h1]
  · by_cases h2 : k < nI (yTr y).length
    · simp [h1, h2]
    · simp [h1, h2]
theorem RC.G9 (hC : RC y z) : z.2.1 9 = (yG y).map (fun g => nI g.1.length) := hC.2.2.2.2.2.2.2.2.2.1
theorem RC.G10 (hC : RC y z) : z.2.1 10 = (yG y).map (fun g => nI g.2.1) := hC.2.2.2.2.2.2.2.2.2.2.1
theorem RC.G11 (hC : RC y z) : z.2.1 11 = (yG y).map (fun g => nI g.2.2) := hC.2.2.2.2.2.2.2.2.2.2.2.1
theorem RC.G8 (hC : RC y z) : z.2.1 8 = (gL (yG y)).map nI := hC.2.2.2.2.2.2.2.2.1
theorem RC.R6 (hC : RC y z) : z.2.1 6 = (yQ y).map nI := hC.2.2.2.2.2.2.1
theorem RC.R7 (hC : RC y z) : z.2.1 7 = (yTr y).map nI := hC.2.2.2.2.2.2.2.1
theorem RC.cf (hC : RC y z) : ∀ a b, a < 40 → b < 40 → zConf z (nI a) (nI b) = ycf y a b := hC.2.2.2.2.2.2.2.2.2.2.2.2.2
theorem RC.tg (hC : RC y z) : z.1 6 = nI (ytg y) := hC.2.2.2.2.2.2.2.2.2.2.2.2.1
theorem same_groups (hC : RC y z) : nI (z.2.1 10).length = nI (yG y).length := by rw [hC.G10, List.length_map]
theorem gat (hC : RC y z) (hW : WF y) (g : Int32) : zat z 10 g = (if yIsG y g = true then nI ((yG y).getD g.toNatClampNeg g0).2.1 else -1) ∧ zat z 9 g = (if yIsG y g = true then nI ((yG y).getD g.toNatClampNeg g0).1.length else -1) ∧ zat z 11 g = (if yIsG y g = true then nI ((yG y).getD g.toNatClampNeg g0).2.2 else -1) := by
  have hl := hW.gl
  refine ⟨?_, ?_, ?_⟩
  · rw [zat, hC.G10, rAt_map g0 hl]; rfl
  · rw [zat, hC.G9, rAt_map g0 hl]; rfl
  · rw [zat, hC.G11, rAt_map g0 hl]; rfl
theorem gatN (hC : RC y z) (hW : WF y) {g : Nat} (hg : g < (yG y).length) : zat z 10 (nI g) = nI ((yG y).getD g g0).2.1 ∧ zat z 9 (nI g) = nI ((yG y).getD g g0).1.length ∧ zat z 11 (nI g) = nI ((yG y).getD g g0).2.2 := by
  have hl := hW.gl
  have e : yIsG y (nI g) = true := by rw [yIsG, isC_nI hl (by omega)]; simpa using hg
  have h := gat hC hW (nI g)
  rw [if_pos e, if_pos e, if_pos e, nI_clamp (by omega)] at h
  exact h
theorem zBase_gB (hC : RC y z) (hW : WF y) : ∀ (n m : Nat) (acc : Nat), m + n ≤ (yG y).length → acc = gB (yG y) m → zBase z n m (nI acc) = nI (gB (yG y) (m + n)) := by
  have hl := hW.gl
  intro n
  induction n with
  | zero => intro m acc _ h; rw [h]; rfl
  | succ n ih =>
    intro m acc hm h
    rw [zBase, (gatN hC hW (show m < (yG y).length by omega)).2.1, nI_add, ih (m + 1) _ (by omega) (by rw [h, gB_succ (by omega)])]
    congr 2
    omega
theorem zG_base_y (hC : RC y z) (hW : WF y) (g : Int32) : zG_base z g = if yIsG y g = true then nI (gB (yG y) g.toNatClampNeg) else -1 := by
  have hl := hW.gl
  unfold zG_base
  rw [rHas_isC (by rw [hC.G10, List.length_map]; exact hl), hC.G10, List.length_map]
  show (if yIsG y g = true then _ else _) = _
  by_cases hg : yIsG y g = true
  · rw [if_pos hg, if_pos hg]
    have h1 := (isC_k hl hg).1
    have := zBase_gB hC hW g.toNatClampNeg 0 0 (by omega) rfl
    rw [Nat.zero_add] at this
    exact this
  · rw [if_neg hg, if_neg hg]
theorem same_group (hC : RC y z) (hW : WF y) (g w : Int32) : zQ_group z g w = yGroup y g w := by
  obtain ⟨h1, h2, h3⟩ := gat hC hW g
  unfold zQ_group yGroup
  rw [h1, h2, h3, zG_base_y hC hW]
  by_cases hg : yIsG y g = true
  · simp [hg]
  · simp [hg]
theorem same_member (hC : RC y z) (hW : WF y) (g k : Int32) : zG_member z g k = yMember y g k := by
  obtain ⟨-, h2, -⟩ := gat hC hW g
  unfold zG_member yMember
  rw [h2, zG_base_y hC hW]
  have htl := hW.tl
  by_cases hg : yIsG y g = true
  · rw [if_pos hg, if_pos hg, if_pos hg]
    have h1 := (isC_k hW.gl hg).1
    generalize g.toNatClampNeg = q at h1 ⊢
    have h3 := gLen_le hW h1
    by_cases hk : k < 0
    · simp [hk]
    · obtain ⟨j, j1, j2, j3⟩ := i_pos hk
      rw [if_neg hk, if_neg hk, j3, j2]
      by_cases hj : j < ((yG y).getD q g0).1.length
      · rw [if_neg (nI_ge hj (by omega)), if_pos (nI_lt hj (by omega)), nI_add, zat, hC.G8, rAt_map 0 (by omega), if_pos (by rw [isC_nI (by omega) (by omega)]; simp; omega), nI_clamp (by omega), gL_at h1 hj]
      · rw [if_pos (nI_le (by omega) (by omega)), if_neg (nI_nlt (by omega) (by omega))]
  · rw [if_neg hg, if_neg hg, if_neg hg]
    by_cases hk : k < 0
    · simp [hk]
    · have : (-1 : Int32) ≤ k := by
        have h5 := Int32.not_lt.mp hk
        exact Int32.le_trans (by decide) h5
      simp [hk, this]
theorem zConf_sym (hC : RC y z) (hW : WF y) {a b : Nat} (ha : a < 40) (hb : b < 40) : zConf z (nI a) (nI b) = ycf y b a := by
  rw [hC.cf a b ha hb]
  exact hW.2.2.2.2.2.2.2.2.2.2.2.2.2.1 a b
theorem tr_lt (hW : WF y) {i : Nat} (hi : i < (yTr y).length) : (yTr y).getD i 0 < 40 := by
  have h1 := ((hW.2.2.2.2.2.2.2.1 _).mp (getD_mem (x := 0) hi)).1
  have := hW.1
  omega
theorem trN (hC : RC y z) (hW : WF y) {i : Nat} (hi : i < (yTr y).length) : zat z 7 (nI i) = nI ((yTr y).getD i 0) := by
  have := RM.tr4 hW
  rw [zat, hC.R7, rAt_map 0 this, if_pos (by rw [isC_nI this (by omega)]; simpa using hi), nI_clamp (by omega)]
theorem zFC_y (hC : RC y z) (hW : WF y) {c : Nat} (hc : c < 40) : ∀ (n m : Nat), (yTr y).length = m + n → zFC z (nI c) n m = yFC (ycf y) ((yTr y).drop m) c := by
  intro n
  induction n with
  | zero => intro m h; rw [List.drop_eq_nil_of_le (by omega)]; rfl
  | succ n ih =>
    intro m h
    rw [zFC, trN hC hW (by omega), zConf_sym hC hW hc (tr_lt hW (by omega)), drop_getD (x := 0) (show m < (yTr y).length by omega), ih (m + 1) (by omega)]
    unfold yFC
    rw [List.find?_cons]
    by_cases hq : ycf y ((yTr y).getD m 0) c = true
    · rw [if_pos hq, hq]
    · rw [if_neg hq]
      have hq2 : ycf y ((yTr y).getD m 0) c = false := by simpa using hq
      rw [hq2]
theorem zQ_fc_y (hC : RC y z) (hW : WF y) {c : Nat} (hc : c < 40) : zQ_fc z (nI c) = yFC (ycf y) (yTr y) c := by
  have h := zFC_y hC hW hc (yTr y).length 0 (by omega)
  rw [zQ_fc, hC.R7, List.length_map]
  exact h
theorem same_by (hC : RC y z) (hW : WF y) (c : Int32) : zQ_by z c = yBy y c := by
  unfold zQ_by yBy
  rw [same_why hC hW]
  unfold yWhy
  by_cases hc : isC (yn y) c = true
  · rw [if_pos hc, if_pos hc]
    obtain ⟨h1, h2⟩ := isC_k hW.1 hc
    have hn := hW.1
    have hw := (hW.2.1 _ h1).2.2.1
    have e1 : (nI (ywy y c.toNatClampNeg) = 1) = (ywy y c.toNatClampNeg = 1) := propext (nI_is 1 (by omega) (by decide))
    have e2 : (nI (ywy y c.toNatClampNeg) = 2) = (ywy y c.toNatClampNeg = 2) := propext (nI_is 2 (by omega) (by decide))
    simp only [e1, e2]
    have e5 : zat z 5 c = nI (yts y c.toNatClampNeg) := by
      rw [zat, hC.2.2.2.2.1, rAt_range hn, if_pos hc]
    have e6 : zQ_fc z c = yFC (ycf y) (yTr y) c.toNatClampNeg := by
      have h3 := zQ_fc_y hC hW (show c.toNatClampNeg < 40 by omega)
      rw [← h2] at h3
      exact h3
    rw [e5, e6]
  · rw [if_neg hc, if_neg hc]
    rfl
theorem same_parts (hC : RC y z) (hW : WF y) (hS : RS y z t) : ∀ (n m : Nat) (acc : Int32), (yTr y).length = m + n → zParts z n m acc = mPar t (yTr y) n m acc := by
  intro n
  induction n with
  | zero => intro m acc _; rfl
  | succ n ih =>
    intro m acc h
    have hi : m < (yTr y).length := by omega
    have h1 := ((hW.2.2.2.2.2.2.2.1 _).mp (getD_mem (x := 0) hi)).1
    have hn := hW.1
    have e : zat z 1 (nI ((yTr y).getD m 0)) = t.2 1 ((yTr y).getD m 0) := by
      rw [zat, rAt_nI (by omega)]
      exact hS.2.2.2.2.2.2.2.1 _ h1
    rw [zParts, mPar, trN hC hW hi, e]
    exact ih (m + 1) _ (by omega)
theorem same_counted (hC : RC y z) (hW : WF y) (hS : RS y z t) (w : Int32) : zQ_counted z w = yCounted y t w := by
  unfold zQ_counted yCounted
  have e : zQ_parts z = mPar t (yTr y) (yTr y).length 0 0 := by
    rw [zQ_parts, hC.R7, List.length_map]
    exact same_parts hC hW hS _ 0 0 (by omega)
  rw [e, hS.2.2.2.2.1, hS.2.2.2.2.2.1, hS.2.2.2.2.2.2.1]
end SM
end
section
/-! THE ORDER OF THOSE THAT WAIT -/
section OR
variable {y : yT} {z : zS} {t : mS}
theorem yBef_iff (y : yT) (a b : Nat) : yBef y a b = true ↔ ytn y a < ytn y b ∨ (ytn y a = ytn y b ∧ (yrk y b < yrk y a ∨ (yrk y a = yrk y b ∧ a < b))) := by
  unfold yBef
  by_cases h1 : ytn y a = ytn y b
  · by_cases h2 : yrk y a = yrk y b
    · simp [h1, h2]
    · simp [h1, h2]
  · simp [h1]
theorem yBef_asym {y : yT} {a b : Nat} (h : yBef y a b = true) : yBef y b a = false := by
  rw [yBef_iff] at h
  have : ¬ yBef y b a = true := by rw [yBef_iff]; omega
  simpa using this
theorem yBef_trans {y : yT} {a b c : Nat} (h1 : yBef y a b = true) (h2 : yBef y b c = true) : yBef y a c = true := by
  rw [yBef_iff] at *
  omega
theorem yBef_tot {y : yT} {a b : Nat} (h : a ≠ b) (h1 : ¬ yBef y a b = true) : yBef y b a = true := by
  rw [yBef_iff] at *
  omega
theorem mBef_y (hR : RM y t) (hW : WF y) {a b : Nat} (ha : a < yn y) (hb : b < yn y) : mBef t a b = yBef y a b := by
  obtain ⟨-, -, -, -, hA, -, -⟩ := hR
  have hn := hW.1
  have wa := hW.2.1 a ha
  have wb := hW.2.1 b hb
  obtain ⟨a1, -, -, -, a5⟩ := hA a ha
  obtain ⟨b1, -, -, -, b5⟩ := hA b hb
  have ja : jp (ytn y a) ≤ 40 := by unfold jp; split <;> omega
  have jb : jp (ytn y b) ≤ 40 := by unfold jp; split <;> omega
  have e1 : (t.2 3 a = t.2 3 b) ↔ ytn y a = ytn y b := by
    rw [a5, b5, nI_eq (by omega) (by omega)]
    unfold jp
    constructor
    · intro h; split at h <;> split at h <;> omega
    · intro h; rw [h]
  have e2 : (t.2 0 a = t.2 0 b) ↔ yrk y a = yrk y b := by rw [a1, b1, nI_eq (by omega) (by omega)]
  have e3 : (nI b ≤ nI a) ↔ b ≤ a := nI_leI (by omega) (by omega)
  have e4 : (t.2 0 a ≤ t.2 0 b) ↔ yrk y a ≤ yrk y b := by rw [a1, b1, nI_leI (by omega) (by omega)]
  have e5 : (t.2 3 b = 0) ↔ ytn y b = 40 := by
    rw [b5, show (0 : Int32) = nI 0 from rfl, nI_eq (by omega) (by decide)]
    unfold jp
    constructor
    · intro h; split at h <;> omega
    · intro h; rw [if_pos h]
  have e6 : (t.2 3 a ≤ 0) ↔ ytn y a = 40 := by
    rw [a5, show (0 : Int32) = nI 0 from rfl, nI_leI (by omega) (by decide)]
    unfold jp
    constructor
    · intro h; split at h <;> omega
    · intro h; rw [if_pos h]; exact Nat.le_refl _
  have e7 : (t.2 3 b ≤ t.2 3 a) ↔ jp (ytn y b) ≤ jp (ytn y a) := by rw [a5, b5, nI_leI (by omega) (by omega)]
  have d3 : decide (nI b ≤ nI a) = decide (b ≤ a) := decide_eq_decide.mpr e3
  have d4 : decide (t.2 0 a ≤ t.2 0 b) = decide (yrk y a ≤ yrk y b) := decide_eq_decide.mpr e4
  have d5 : decide (t.2 3 b = 0) = decide (ytn y b = 40) := decide_eq_decide.mpr e5
  have d6 : decide (t.2 3 a ≤ 0) = decide (ytn y a = 40) := decide_eq_decide.mpr e6
  have d7 : decide (t.2 3 b ≤ t.2 3 a) = decide (jp (ytn y b) ≤ jp (ytn y a)) := decide_eq_decide.mpr e7
  unfold mBef yBef
  by_cases h1 : ytn y a = ytn y b
  · rw [if_pos (e1.mpr h1), if_pos h1]
    by_cases h2 : yrk y a = yrk y b
    · rw [if_pos (e2.mpr h2), if_pos h2, d3]
      by_cases h3 : b ≤ a
      · simp [h3]
      · simp [h3]; omega
    · rw [if_neg (fun q => h2 (e2.mp q)), if_neg h2, d4]
      by_cases h3 : yrk y a ≤ yrk y b
      · simp [h3]
      · simp [h3]; omega
  · rw [if_neg (fun q => h1 (e1.mp q)), if_neg h1, d5, d6, d7]
    by_cases h4 : ytn y b = 40
    · simp [h4]; omega
    · by_cases h5 : ytn y a = 40
      · simp [h4, h5]; omega
      · have : jp (ytn y a) = ytn y a + 1 := by rw [jp, if_neg h5]
        have h6 : jp (ytn y b) = ytn y b + 1 := by rw [jp, if_neg h4]
        rw [this, h6]
        by_cases h7 : ytn y a < ytn y b
        · have : ¬ ytn y b + 1 ≤ ytn y a + 1 := by omega
          simp [h4, h5, h7, this]
        · have : ytn y b + 1 ≤ ytn y a + 1 := by omega
          simp [h4, h5, h7, this]
theorem nd_sub : ∀ (l1 l2 : List Nat), l1.Nodup → (∀ x ∈ l1, x ∈ l2) → l1.length ≤ l2.length := by
  intro l1
  induction l1 with
  | nil => intro l2 _ _; exact Nat.zero_le _
  | cons a l ih =>
    intro l2 hn hs
    have ha : a ∈ l2 := hs a List.mem_cons_self
    have hn2 := List.nodup_cons.mp hn
    have h1 := ih (l2.erase a) hn2.2 (fun x hx => (List.mem_erase_of_ne (fun e => by subst e; exact hn2.1 hx)).mpr (hs x (List.mem_cons_of_mem _ hx)))
    rw [List.length_erase_of_mem ha] at h1
    have : 0 < l2.length := List.length_pos_of_mem ha
    simp only [List.length_cons]
    omega
def yWb (y : yT) (c : Nat) (e : Nat) : Bool := decide (ypl y c = 0) && (decide (ypl y e = 0) && yBef y e c)
theorem wOne_y (hR : RM y t) (hW : WF y) {c e : Nat} (hc : c < yn y) (he : e < yn y) : wOne t c e = bI (yWb y c e) := by
  have hA := hR.2.2.2.2.1
  have hn := hW.1
  have wc := (hW.2.1 c hc).2.1
  have we := (hW.2.1 e he).2.1
  have e1 : (t.2 2 c = 0) ↔ ypl y c = 0 := by rw [(hA c hc).2.1, show (0 : Int32) = nI 0 from rfl, nI_eq (by omega) (by decide)]
  have e2 : (t.2 2 e = 0) ↔ ypl y e = 0 := by rw [(hA e he).2.1, show (0 : Int32) = nI 0 from rfl, nI_eq (by omega) (by decide)]
  unfold wOne yWb
  rw [mBef_y hR hW he hc]
  by_cases h : ypl y c = 0 ∧ ypl y e = 0 ∧ yBef y e c = true
  · rw [if_pos ⟨e1.mpr h.1, e2.mpr h.2.1, h.2.2⟩]
    simp [h.1, h.2.1, h.2.2, bI]
  · rw [if_neg (fun q => h ⟨e1.mp q.1, e2.mp q.2.1, q.2.2⟩)]
    have : (decide (ypl y c = 0) && (decide (ypl y e = 0) && yBef y e c)) = false := by
      cases hq : (decide (ypl y c = 0) && (decide (ypl y e = 0) && yBef y e c)) with
      | false => rfl
      | true =>
        simp only [Bool.and_eq_true, decide_eq_true_eq] at hq
        exact absurd hq h
    rw [this]
    rfl
theorem wCnt_y (hR : RM y t) (hW : WF y) {c : Nat} (hc : c < yn y) : ∀ (r e x : Nat), e + r ≤ yn y → wCnt t c r e (nI x) = nI (x + ((List.range' e r).filter (yWb y c)).length) := by
  intro r
  induction r with
  | zero => intro e x _; rfl
  | succ r ih =>
    intro e x h
    rw [wCnt, wOne_y hR hW hc (by omega), List.range'_succ, List.filter_cons]
    by_cases hq : yWb y c e = true
    · rw [if_pos hq, hq, show bI true = nI 1 from rfl, nI_add, ih (e + 1) (x + 1) (by omega), List.length_cons]
      congr 1
      omega
    · have hq2 : yWb y c e = false := by simpa using hq
      rw [if_neg hq, hq2, show nI x + bI false = nI x from Int32.add_zero _, ih (e + 1) x (by omega)]
theorem wIdx (hW : WF y) {i : Nat} (hi : i < (yQ y).length) : ((List.range' 0 (yn y)).filter (yWb y ((yQ y).getD i 0))).length = i := by
  have hs := hW.2.2.2.2.1
  have hq := hW.2.2.2.2.2.1
  have hcQ : (yQ y).getD i 0 ∈ yQ y := getD_mem hi
  generalize hc : (yQ y).getD i 0 = c at *
  have h0 := ((hq c).mp hcQ).2
  have e1 : ((yQ y).filter (fun e => yBef y e c)).length = i := by
    have hd : yQ y = (yQ y).take i ++ c :: (yQ y).drop (i + 1) := by
      have := List.take_append_drop i (yQ y)
      rw [drop_getD (x := 0) hi, hc] at this
      exact this.symm
    rw [hd] at hs
    rw [List.pairwise_append, List.pairwise_cons] at hs
    obtain ⟨-, ⟨p1, -⟩, p2⟩ := hs
    rw [hd, List.filter_append, List.filter_cons, yBef_irr, if_neg (by decide)]
    have f1 : ((yQ y).take i).filter (fun e => yBef y e c) = (yQ y).take i := List.filter_eq_self.mpr (fun a ha => p2 a ha c List.mem_cons_self)
    have f2 : ((yQ y).drop (i + 1)).filter (fun e => yBef y e c) = [] := List.filter_eq_nil_iff.mpr (fun a ha => by rw [yBef_asym (p1 a ha)]; decide)
    rw [f1, f2, List.append_nil, List.length_take]
    omega
  have n1 : ((List.range' 0 (yn y)).filter (yWb y c)).Nodup := List.Pairwise.filter _ List.nodup_range'
  have n2 : ((yQ y).filter (fun e => yBef y e c)).Nodup := List.Pairwise.filter _ hW.qn
  have m : ∀ x, x ∈ (List.range' 0 (yn y)).filter (yWb y c) ↔ x ∈ (yQ y).filter (fun e => yBef y e c) := by
    intro x
    rw [List.mem_filter, List.mem_filter, hq x, List.mem_range'_1]
    simp only [yWb, h0, Bool.and_eq_true, decide_eq_true_eq]
    constructor
    · rintro ⟨⟨-, h2⟩, -, h3, h4⟩; exact ⟨⟨by omega, h3⟩, h4⟩
    · rintro ⟨⟨h2, h3⟩, h4⟩; exact ⟨⟨Nat.zero_le _, by omega⟩, trivial, h3, h4⟩
  have l1 := nd_sub _ _ n1 (fun x hx => (m x).mp hx)
  have l2 := nd_sub _ _ n2 (fun x hx => (m x).mpr hx)
  omega
theorem wAt2_hit (hR : RM y t) (hW : WF y) {i : Nat} (hi : i < (yQ y).length) : ∀ (r c : Nat), c + r = yn y → c ≤ (yQ y).getD i 0 → wAt2 t (yn y) (nI i) r c = nI ((yQ y).getD i 0) := by
  have hn := hW.1
  have hql := hW.ql
  have hA := hR.2.2.2.2.1
  have hx := (hW.2.2.2.2.2.1 _).mp (getD_mem (x := 0) hi)
  intro r
  induction r with
  | zero => intro c h1 h2; omega
  | succ r ih =>
    intro c h1 h2
    have hcn : c < yn y := by omega
    have e := wCnt_y hR hW hcn (yn y) 0 0 (by omega)
    rw [show nI 0 = (0 : Int32) from rfl] at e
    rw [wAt2, e, Nat.zero_add]
    have e1 : (t.2 2 c = 0) ↔ ypl y c = 0 := by
      have := (hW.2.1 c hcn).2.1
      rw [(hA c hcn).2.1, show (0 : Int32) = nI 0 from rfl, nI_eq (by omega) (by decide)]
    by_cases hc : c = (yQ y).getD i 0
    · rw [if_pos ⟨e1.mpr (hc ▸ hx.2), by rw [hc, wIdx hW hi]⟩, hc]
    · rw [if_neg, ih (c + 1) (by omega) (by omega)]
      rintro ⟨q1, q2⟩
      have hcq : c ∈ yQ y := (hW.2.2.2.2.2.1 c).mpr ⟨hcn, e1.mp q1⟩
      obtain ⟨j, hj⟩ := List.getElem?_of_mem hcq
      have hjl := (List.getElem?_eq_some_iff.mp hj).1
      have hjc : (yQ y).getD j 0 = c := by rw [List.getD_eq_getElem?_getD, hj]; rfl
      have := wIdx hW hjl
      rw [hjc] at this
      rw [this, nI_eq (by omega) (by omega)] at q2
      subst q2
      exact hc hjc.symm
theorem wAt2_miss (hR : RM y t) (hW : WF y) {k : Int32} (hk : ∀ i, i < (yQ y).length → k ≠ nI i) : ∀ (r c : Nat), c + r = yn y → wAt2 t (yn y) k r c = -1 := by
  have hn := hW.1
  have hA := hR.2.2.2.2.1
  intro r
  induction r with
  | zero => intro c _; rfl
  | succ r ih =>
    intro c h1
    have hcn : c < yn y := by omega
    have e := wCnt_y hR hW hcn (yn y) 0 0 (by omega)
    rw [show nI 0 = (0 : Int32) from rfl] at e
    rw [wAt2, e, Nat.zero_add, if_neg, ih (c + 1) (by omega)]
    rintro ⟨q1, q2⟩
    have e1 : ypl y c = 0 := by
      have := (hW.2.1 c hcn).2.1
      rw [(hA c hcn).2.1, show (0 : Int32) = nI 0 from rfl, nI_eq (by omega) (by decide)] at q1
      exact q1
    have hcq : c ∈ yQ y := (hW.2.2.2.2.2.1 c).mpr ⟨hcn, e1⟩
    obtain ⟨j, hj⟩ := List.getElem?_of_mem hcq
    have hjl := (List.getElem?_eq_some_iff.mp hj).1
    have hjc : (yQ y).getD j 0 = c := by rw [List.getD_eq_getElem?_getD, hj]; rfl
    have := wIdx hW hjl
    rw [hjc] at this
    rw [this] at q2
    exact hk j hjl q2.symm
theorem mWt_y (hR : RM y t) (hW : WF y) {k : Int32} (h0 : ¬ k < 0) : mWt t (yn y) k = if k < nI (yQ y).length then nI ((yQ y).getD k.toNatClampNeg 0) else -1 := by
  have hql := hW.ql
  obtain ⟨j, j1, j2, j3⟩ := i_pos h0
  rw [j3]
  by_cases hk : k < nI (yQ y).length
  · rw [if_pos hk]
    rw [j2, nI_ltI j1 (by omega)] at hk
    rw [mWt, j2]
    exact wAt2_hit hR hW hk _ 0 (by omega) (Nat.zero_le _)
  · rw [if_neg hk]
    rw [j2, nI_ltI j1 (by omega)] at hk
    refine wAt2_miss hR hW ?_ _ 0 (by omega)
    intro i hi
    rw [j2]
    exact nI_ne j1 (by omega) (by omega)
theorem same_waiting (hC : RC y z) (hR : RM y t) (hW : WF y) (k : Int32) : zat z 6 k = if k < 0 then -1 else mWt t (yn y) k := by
  rw [zat, hC.R6, rAt_map 0 hW.ql]
  unfold isC
  by_cases h1 : k < 0
  · simp [h1]
  · rw [if_neg h1, mWt_y hR hW h1]
    by_cases h2 : k < nI (yQ y).length
    · simp [h1, h2]
    · simp [h1, h2]
end OR
end
section
/-! CHANGES OF THE COMMON STATE, and what they are in the class's rows -/
section UP
variable {y y' : yT} {z : zS}
def rowY (y : yT) : Nat → List Int32
  | 0 => (List.range (yn y)).map (fun c => nI (yrk y c))
  | 2 => (List.range (yn y)).map (fun c => nI (ypl y c))
  | 3 => (List.range (yn y)).map (fun c => nI (ywy y c))
  | 4 => (List.range (yn y)).map (fun c => nI (ytn y c))
  | 5 => (List.range (yn y)).map (fun c => nI (yts y c))
  | 6 => (yQ y).map nI
  | 7 => (yTr y).map nI
  | 8 => (gL (yG y)).map nI
  | 9 => (yG y).map (fun g => nI g.1.length)
  | 10 => (yG y).map (fun g => nI g.2.1)
  | 11 => (yG y).map (fun g => nI g.2.2)
  | _ => []
theorem RC_iff : RC y z ↔ (∀ r, r < 12 → r ≠ 1 → z.2.1 r = rowY y r) ∧ (z.2.1 1).length = yn y ∧ z.1 6 = nI (ytg y) ∧ ∀ a b, a < 40 → b < 40 → zConf z (nI a) (nI b) = ycf y a b := by
  constructor
  · intro hC
    refine ⟨?_, hC.2.2.2.2.2.1, hC.tg, hC.cf⟩
    obtain ⟨h0, h2, h3, h4, h5, h1, h6, h7, h8, h9, h10, h11, -⟩ := hC
    intro r hr hr1
    rcases (show r = 0 ∨ r = 2 ∨ r = 3 ∨ r = 4 ∨ r = 5 ∨ r = 6 ∨ r = 7 ∨ r = 8 ∨ r = 9 ∨ r = 10 ∨ r = 11 by omega) with rfl | rfl | rfl | rfl | rfl | rfl | rfl | rfl | rfl | rfl | rfl
    · exact h0
    · exact h2
    · exact h3
    · exact h4
    · exact h5
    · exact h6
    · exact h7
    · exact h8
    · exact h9
    · exact h10
    · exact h11
  · rintro ⟨h, h1, ht, hc⟩
    exact ⟨h 0 (by decide) (by decide), h 2 (by decide) (by decide), h 3 (by decide) (by decide), h 4 (by decide) (by decide), h 5 (by decide) (by decide), h1, h 6 (by decide) (by decide), h 7 (by decide) (by decide), h 8 (by decide) (by decide), h 9 (by decide) (by decide), h 10 (by decide) (by decide), h 11 (by decide) (by decide), ht, hc⟩
theorem RC.row (hC : RC y z) (r : Nat) (hr : r < 12) (h1 : r ≠ 1) : z.2.1 r = rowY y r := (RC_iff.mp hC).1 r hr h1
/-- one row changes -/
theorem RC.upd (hC : RC y z) (r0 : Nat) (xs : List Int32) (h1 : r0 ≠ 1) (hr : ∀ r, r < 12 → r ≠ 1 → r ≠ r0 → rowY y' r = rowY y r) (hx : r0 < 12 → rowY y' r0 = xs) (hn : yn y' = yn y) (ht : ytg y' = ytg y) (hcf : ycf y' = ycf y) : RC y' (zrow z r0 xs) := by
  rw [RC_iff] at hC ⊢
  obtain ⟨a, b, c, e⟩ := hC
  refine ⟨fun r q1 q2 => ?_, ?_, ?_, ?_⟩
  · by_cases hq : r = r0
    · subst hq; rw [zrow_same, hx q1]
    · rw [zrow_ne hq, a r q1 q2, hr r q1 q2 hq]
  · rw [zrow_ne (Ne.symm h1), b, hn]
  · rw [ht]; exact c
  · rw [hcf]; exact e
/-- per change: array a at c -/
def yup (y : yT) (a c v : Nat) : yT := (y.1, va_up y.2.1 a (va_up (y.2.1 a) c v), y.2.2)
theorem rPut_range {n c : Nat} {f : Nat → Int32} {v : Int32} (hn : n ≤ 40) (hc : c < n) : rPut ((List.range n).map f) (nI c) v = (List.range n).map (fun j => if j = c then v else f j) := by
  unfold rPut
  rw [rHas_nI (by omega), List.length_map, List.length_range, if_pos (by simpa using hc), nI_clamp (by omega)]
  apply List.ext_getElem?
  intro i
  rw [List.getElem?_set, List.length_map, List.length_range, List.getElem?_map, List.getElem?_map]
  by_cases hi : i < n
  · rw [List.getElem?_range hi]
    by_cases hic : c = i
    · subst hic; simp [hc]
    · simp [hic, Ne.symm hic]
  · rw [List.getElem?_eq_none (by rw [List.length_range]; omega)]
    by_cases hic : c = i
    · omega
    · simp [hic]
theorem yup_row (hC : RC y z) (a r : Nat) {c v : Nat} (hn : yn y ≤ 40) (hc : c < yn y) (hr1 : r ≠ 1) (h1 : rowY y r = (List.range (yn y)).map (fun j => nI (y.2.1 a j))) (h2 : rowY (yup y a c v) r = (List.range (yn y)).map (fun j => nI (va_up (y.2.1 a) c v j))) (hr : ∀ q, q < 12 → q ≠ 1 → q ≠ r → rowY (yup y a c v) q = rowY y q) (hr12 : r < 12) : RC (yup y a c v) (zput z r (nI c) (nI v)) := by
  refine RC.upd hC r _ hr1 hr (fun _ => ?_) rfl rfl rfl
  rw [hC.row r hr12 hr1, h1, h2, rPut_range hn hc]
  apply List.map_congr_left
  intro j _
  unfold va_up
  by_cases e : j = c
  · simp [e]
  · simp [e]
theorem RC.pl (hC : RC y z) {c v : Nat} (hn : yn y ≤ 40) (hc : c < yn y) : RC (yup y 1 c v) (zput z 2 (nI c) (nI v)) :=
  yup_row hC 1 2 hn hc (by decide) rfl rfl (fun q q1 q2 q3 => by rcases (show q = 0 ∨ q = 2 ∨ q = 3 ∨ q = 4 ∨ q = 5 ∨ q = 6 ∨ q = 7 ∨ q = 8 ∨ q = 9 ∨ q = 10 ∨ q = 11 by omega) with rfl | rfl | rfl | rfl | rfl | rfl | rfl | rfl | rfl | rfl | rfl <;> first | rfl | exact absurd rfl q3) (by decide)
theorem RC.wy (hC : RC y z) {c v : Nat} (hn : yn y ≤ 40) (hc : c < yn y) : RC (yup y 2 c v) (zput z 3 (nI c) (nI v)) :=
  yup_row hC 2 3 hn hc (by decide) rfl rfl (fun q q1 q2 q3 => by rcases (show q = 0 ∨ q = 2 ∨ q = 3 ∨ q = 4 ∨ q = 5 ∨ q = 6 ∨ q = 7 ∨ q = 8 ∨ q = 9 ∨ q = 10 ∨ q = 11 by omega) with rfl | rfl | rfl | rfl | rfl | rfl | rfl | rfl | rfl | rfl | rfl <;> first | rfl | exact absurd rfl q3) (by decide)
theorem RC.ts (hC : RC y z) {c v : Nat} (hn : yn y ≤ 40) (hc : c < yn y) : RC (yup y 3 c v) (zput z 5 (nI c) (nI v)) :=
  yup_row hC 3 5 hn hc (by decide) rfl rfl (fun q q1 q2 q3 => by rcases (show q = 0 ∨ q = 2 ∨ q = 3 ∨ q = 4 ∨ q = 5 ∨ q = 6 ∨ q = 7 ∨ q = 8 ∨ q = 9 ∨ q = 10 ∨ q = 11 by omega) with rfl | rfl | rfl | rfl | rfl | rfl | rfl | rfl | rfl | rfl | rfl <;> first | rfl | exact absurd rfl q3) (by decide)
theorem RC.tn (hC : RC y z) {c v : Nat} (hn : yn y ≤ 40) (hc : c < yn y) : RC (yup y 4 c v) (zput z 4 (nI c) (nI v)) :=
  yup_row hC 4 4 hn hc (by decide) rfl rfl (fun q q1 q2 q3 => by rcases (show q = 0 ∨ q = 2 ∨ q = 3 ∨ q = 4 ∨ q = 5 ∨ q = 6 ∨ q = 7 ∨ q = 8 ∨ q = 9 ∨ q = 10 ∨ q = 11 by omega) with rfl | rfl | rfl | rfl | rfl | rfl | rfl | rfl | rfl | rfl | rfl <;> first | rfl | exact absurd rfl q3) (by decide)
/-- the lists -/
def ylst (y : yT) (i : Nat) (l : List Nat) : yT := (y.1, y.2.1, y.2.2.1, va_up y.2.2.2.1 i l, y.2.2.2.2)
theorem RC.Q (hC : RC y z) (l : List Nat) {xs : List Int32} (hx : xs = l.map nI) : RC (ylst y 0 l) (zrow z 6 xs) :=
  RC.upd hC 6 xs (by decide) (fun q q1 q2 q3 => by rcases (show q = 0 ∨ q = 2 ∨ q = 3 ∨ q = 4 ∨ q = 5 ∨ q = 6 ∨ q = 7 ∨ q = 8 ∨ q = 9 ∨ q = 10 ∨ q = 11 by omega) with rfl | rfl | rfl | rfl | rfl | rfl | rfl | rfl | rfl | rfl | rfl <;> first | rfl | exact absurd rfl q3) (fun _ => hx.symm) rfl rfl rfl
theorem RC.T (hC : RC y z) (l : List Nat) {xs : List Int32} (hx : xs = l.map nI) : RC (ylst y 1 l) (zrow z 7 xs) :=
  RC.upd hC 7 xs (by decide) (fun q q1 q2 q3 => by rcases (show q = 0 ∨ q = 2 ∨ q = 3 ∨ q = 4 ∨ q = 5 ∨ q = 6 ∨ q = 7 ∨ q = 8 ∨ q = 9 ∨ q = 10 ∨ q = 11 by omega) with rfl | rfl | rfl | rfl | rfl | rfl | rfl | rfl | rfl | rfl | rfl <;> first | rfl | exact absurd rfl q3) (fun _ => hx.symm) rfl rfl rfl
theorem map_erI {α β : Type} (f : α → β) (l : List α) (k : Nat) : (l.map f).eraseIdx k = (l.eraseIdx k).map f := by
  apply List.ext_getElem?
  intro i
  simp only [List.getElem?_eraseIdx, List.getElem?_map]
  split <;> rfl
theorem map_inI {α β : Type} (f : α → β) (l : List α) (k : Nat) (c : α) : (l.map f).insertIdx k (f c) = (l.insertIdx k c).map f := by
  apply List.ext_getElem?
  intro i
  simp only [List.getElem?_insertIdx, List.getElem?_map, List.length_map]
  split
  · rfl
  · split
    · split <;> rfl
    · rfl
theorem rRem_map {l : List Nat} {k : Nat} (hl : l.length ≤ 40) (hk : k < l.length) : rRem (l.map nI) (nI k) = (l.eraseIdx k).map nI := by
  unfold rRem
  rw [rHas_nI (by omega), List.length_map, if_pos (by simpa using hk), nI_clamp (by omega), map_erI]
theorem rIns_map {l : List Nat} {k c : Nat} (hl : l.length < 40) (hk : k ≤ l.length) : rIns (l.map nI) (nI k) (nI c) = (l.insertIdx k c).map nI := by
  unfold rIns
  rw [nI_clamp (by omega), List.length_map, if_neg (by rintro (h | h | h); exact nI_pos (by omega) h; omega; omega), map_inI]
theorem rFind_map {l : List Nat} {c : Nat} (hl : l.length ≤ 40) (hb : ∀ x ∈ l, x < 40) (hc : c ∈ l) : rFind (l.map nI) (nI c) = nI (l.idxOf c) := by
  have hi : l.idxOf c < l.length := List.idxOf_lt_length_iff.mpr hc
  refine rFind_some (by rw [List.length_map]; exact hi) ?_ ?_
  · rw [List.getD_eq_getElem?_getD, List.getElem?_map, List.getElem?_eq_getElem hi]
    simp
  · intro i h
    rw [List.getD_eq_getElem?_getD, List.getElem?_map, List.getElem?_eq_getElem (by omega)]
    simp only [Option.map_some, Option.getD_some]
    have h1 : l[i] < 40 := hb _ (List.getElem_mem _)
    have h2 : c < 40 := hb _ hc
    refine nI_ne (by omega) (by omega) ?_
    have := List.not_of_lt_findIdx (p := fun x => x == c) h
    simpa using this
end UP
end
section
/-! THE QUEUE: in, out; a new change; a turn; out by a reason; who clashes -/
section QU
variable {y : yT} {z : zS} {t : mS}
def WB (y : yT) : Prop := yn y ≤ 40 ∧ (∀ c, c < yn y → yrk y c ≤ 9 ∧ ypl y c ≤ 3 ∧ ywy y c ≤ 3 ∧ yts y c ≤ 40 ∧ ytn y c ≤ 40) ∧ (∀ c ∈ yQ y, c < yn y)
theorem WF.wb (hW : WF y) : WB y := ⟨hW.1, hW.2.1, fun c hc => ((hW.2.2.2.2.2.1 c).mp hc).1⟩
theorem zfront_y (hC : RC y z) (hB : WB y) {a b : Nat} (ha : a < yn y) (hb : b < yn y) : zC_isInFront z (nI a) (nI b) = yBef y a b := by
  obtain ⟨hn, hb9, -⟩ := hB
  have wa := hb9 a ha
  have wb := hb9 b hb
  have r4 : ∀ c, c < yn y → zat z 4 (nI c) = nI (ytn y c) := fun c hc => by
    rw [zat, hC.2.2.2.1, rAt_range hn, if_pos (by rw [isC_nI hn (by omega)]; simpa using hc), nI_clamp (by omega)]
  have r0 : ∀ c, c < yn y → zat z 0 (nI c) = nI (yrk y c) := fun c hc => by
    rw [zat, hC.1, rAt_range hn, if_pos (by rw [isC_nI hn (by omega)]; simpa using hc), nI_clamp (by omega)]
  unfold zC_isInFront yBef
  rw [r4 a ha, r4 b hb, r0 a ha, r0 b hb]
  have e1 : (nI (ytn y a) = nI (ytn y b)) ↔ ytn y a = ytn y b := nI_eq (by omega) (by omega)
  have e2 : (nI (yrk y a) = nI (yrk y b)) ↔ yrk y a = yrk y b := nI_eq (by omega) (by omega)
  have d3 : decide (nI b ≤ nI a) = decide (b ≤ a) := decide_eq_decide.mpr (nI_leI (by omega) (by omega))
  have d4 : decide (nI (yrk y a) ≤ nI (yrk y b)) = decide (yrk y a ≤ yrk y b) := decide_eq_decide.mpr (nI_leI (by omega) (by omega))
  have d5 : decide (nI (ytn y b) ≤ nI (ytn y a)) = decide (ytn y b ≤ ytn y a) := decide_eq_decide.mpr (nI_leI (by omega) (by omega))
  rw [d3, d4, d5]
  by_cases h1 : ytn y a = ytn y b
  · rw [if_pos (e1.mpr h1), if_pos h1]
    by_cases h2 : yrk y a = yrk y b
    · rw [if_pos (e2.mpr h2), if_pos h2]
      by_cases h3 : b ≤ a
      · simp [h3]
      · simp [h3]; omega
    · rw [if_neg (fun q => h2 (e2.mp q)), if_neg h2]
      by_cases h3 : yrk y a ≤ yrk y b
      · simp [h3]
      · simp [h3]; omega
  · rw [if_neg (fun q => h1 (e1.mp q)), if_neg h1]
    by_cases h3 : ytn y b ≤ ytn y a
    · simp [h3]
    · simp [h3]; omega
def yPos (y : yT) (c : Nat) : Nat := ((yQ y).takeWhile (fun a => yBef y a c)).length
def yEnq (y : yT) (c : Nat) : yT := ylst y 0 ((yQ y).insertIdx (yPos y c) c)
theorem yPos_le (y : yT) (c : Nat) : yPos y c ≤ (yQ y).length := by
  unfold yPos
  exact (List.takeWhile_prefix _).length_le
theorem q_at (hC : RC y z) (hl : (yQ y).length ≤ 40) {m : Nat} (hm : m < (yQ y).length) : zat z 6 (nI m) = nI ((yQ y).getD m 0) := by
  rw [zat, hC.R6, rAt_map 0 hl, if_pos (by rw [isC_nI hl (by omega)]; simpa using hm), nI_clamp (by omega)]
theorem zEnq_y (hC : RC y z) (hB : WB y) (hl : (yQ y).length ≤ 40) {c : Nat} (hc : c < yn y) : ∀ (n m : Nat), (yQ y).length = m + n → zEnq z (nI c) n m = nI (m + (((yQ y).drop m).takeWhile (fun a => yBef y a c)).length) := by
  intro n
  induction n with
  | zero => intro m h; rw [List.drop_eq_nil_of_le (by omega)]; rfl
  | succ n ih =>
    intro m h
    have hm : m < (yQ y).length := by omega
    rw [zEnq, q_at hC hl hm, zfront_y hC hB (hB.2.2 _ (getD_mem hm)) hc, drop_getD (x := 0) hm, List.takeWhile_cons, ih (m + 1) (by omega)]
    by_cases hq : yBef y ((yQ y).getD m 0) c = true
    · rw [if_pos hq, if_pos hq, List.length_cons]
      congr 1
      omega
    · rw [if_neg hq, if_neg hq]
      rfl
theorem RC.enq (hC : RC y z) (hB : WB y) (hl : (yQ y).length < 40) {c : Nat} (hc : c < yn y) : RC (yEnq y c) (zQ_enq z (nI c)) := by
  have h := zEnq_y hC hB (by omega) hc (yQ y).length 0 (by omega)
  rw [Nat.zero_add, List.drop_zero] at h
  refine RC.Q hC _ ?_
  rw [hC.R6, List.length_map, h]
  exact rIns_map hl (yPos_le y c)
theorem ins_eq {l : List Nat} {q : Nat → Bool} {c : Nat} : l.insertIdx (l.takeWhile q).length c = l.takeWhile q ++ c :: l.dropWhile q := by
  induction l with
  | nil => rfl
  | cons a l ih =>
    rw [List.takeWhile_cons, List.dropWhile_cons]
    by_cases h : q a = true
    · rw [if_pos h, if_pos h, List.length_cons, List.insertIdx_succ_cons, ih]
      rfl
    · rw [if_neg h, if_neg h]
      rfl
theorem enq_sorted {y : yT} {l : List Nat} {c : Nat} (hs : l.Pairwise (fun a b => yBef y a b = true)) (hc : c ∉ l) : (l.insertIdx (l.takeWhile (fun a => yBef y a c)).length c).Pairwise (fun a b => yBef y a b = true) := by
  rw [ins_eq]
  induction l with
  | nil => simp
  | cons a l ih =>
    have hs2 := List.pairwise_cons.mp hs
    rw [List.takeWhile_cons, List.dropWhile_cons]
    by_cases h : yBef y a c = true
    · rw [if_pos h, if_pos h, List.cons_append]
      refine List.pairwise_cons.mpr ⟨?_, ih hs2.2 (fun q => hc (List.mem_cons_of_mem _ q))⟩
      intro b hb
      rcases List.mem_append.mp hb with hb | hb
      · exact hs2.1 b ((List.takeWhile_prefix _).subset hb)
      · rcases List.mem_cons.mp hb with rfl | hb
        · exact h
        · exact hs2.1 b ((List.dropWhile_suffix _).subset hb)
    · rw [if_neg h, if_neg h, List.nil_append]
      have hca : yBef y c a = true := yBef_tot (fun e => hc (by rw [e]; exact List.mem_cons_self)) h
      refine List.pairwise_cons.mpr ⟨?_, hs⟩
      intro b hb
      rcases List.mem_cons.mp hb with rfl | hb
      · exact hca
      · exact yBef_trans hca (hs2.1 b hb)
theorem enq_mem {l : List Nat} {k c x : Nat} (hk : k ≤ l.length) : x ∈ l.insertIdx k c ↔ x = c ∨ x ∈ l := List.mem_insertIdx hk
def yDeq (y : yT) (c : Nat) : yT := ylst y 0 ((yQ y).erase c)
theorem RC.deq (hC : RC y z) (hl : (yQ y).length ≤ 40) (hb : ∀ x ∈ yQ y, x < 40) {c : Nat} (hc : c ∈ yQ y) : RC (yDeq y c) (zQ_deq z (nI c)) := by
  have hi : (yQ y).idxOf c < (yQ y).length := List.idxOf_lt_length_iff.mpr hc
  refine RC.Q hC _ ?_
  rw [hC.R6, rFind_map hl hb hc, rRem_map hl hi, List.erase_eq_eraseIdx_of_idxOf rfl]
/-- out, by a reason -/
def yOut (y : yT) (c r : Nat) : yT := yup (yup y 1 c 3) 2 c r
theorem RC.out (hC : RC y z) {c r : Nat} (hn : yn y ≤ 40) (hc : c < yn y) : RC (yOut y c r) (zC_putOut z (nI c) (nI r)) := RC.wy (RC.pl hC hn hc) hn hc
/-- a turn -/
def yTurn (y : yT) (c : Nat) : yT := (va_up y.1 1 (ytg y + 1), (yup y 4 c (ytg y)).2)
theorem RC.turn (hC : RC y z) {c : Nat} (hn : yn y ≤ 40) (hc : c < yn y) : RC (yTurn y c) (zC_giveTurn z (nI c)) := by
  have h := RC.tn hC (v := ytg y) hn hc
  rw [← hC.tg] at h
  rw [RC_iff] at h ⊢
  obtain ⟨a, b, e, f⟩ := h
  refine ⟨fun r h1 h2 => (a r h1 h2).trans ?_, b, ?_, f⟩
  · rcases (show r = 0 ∨ r = 2 ∨ r = 3 ∨ r = 4 ∨ r = 5 ∨ r = 6 ∨ r = 7 ∨ r = 8 ∨ r = 9 ∨ r = 10 ∨ r = 11 by omega) with rfl | rfl | rfl | rfl | rfl | rfl | rfl | rfl | rfl | rfl | rfl <;> rfl
  · show z.1 6 + 1 = nI (ytg y + 1)
    rw [hC.tg, nI_1]
/-- who clashes with the tree -/
def yCl (y : yT) (c : Nat) : Bool := (yTr y).any (fun a => ycf y a c)
theorem yFC_cl (hW : WF y) (c : Nat) : yFC (ycf y) (yTr y) c = -1 ↔ yCl y c = false := by
  unfold yFC yCl
  cases hq : (yTr y).find? (fun a => ycf y a c) with
  | none =>
    rw [List.find?_eq_none] at hq
    constructor
    · intro _
      rw [List.any_eq_false]
      exact hq
    · intro _; rfl
  | some a =>
    have h1 := List.mem_of_find?_eq_some hq
    have h2 := List.find?_some hq
    have h3 := ((hW.2.2.2.2.2.2.2.1 a).mp h1).1
    have hn := hW.1
    constructor
    · intro e
      exfalso
      have h4 := nI_pos' (show a < 2 ^ 31 by omega)
      have e2 : nI a = -1 := e
      rw [e2] at h4
      exact absurd h4 (by decide)
    · intro e
      rw [List.any_eq_false] at e
      exact absurd h2 (e a h1)
def ySend (y : yT) : yT := (y.1, va_up (va_up y.2.1 1 (fun c => if c ∈ yQ y ∧ yCl y c = true then 3 else ypl y c)) 2 (fun c => if c ∈ yQ y ∧ yCl y c = true then 2 else ywy y c), y.2.2.1, va_up y.2.2.2.1 0 ((yQ y).filter (fun c => !yCl y c)), y.2.2.2.2)
end QU
end
section
/-! THOSE THAT CLASH GO OUT -/
section SE
variable {y : yT} {z : zS} {t : mS}
theorem RC.cong {y y' : yT} {z : zS} (hC : RC y z) (hr : ∀ r, r < 12 → r ≠ 1 → rowY y' r = rowY y r) (hn : yn y' = yn y) (ht : ytg y' = ytg y) (hcf : ycf y' = ycf y) : RC y' z := by
  rw [RC_iff] at hC ⊢
  obtain ⟨a, b, c, e⟩ := hC
  exact ⟨fun r q1 q2 => (a r q1 q2).trans (hr r q1 q2).symm, by rw [b, hn], by rw [ht]; exact c, by rw [hcf]; exact e⟩
def ySendN (y : yT) (m : Nat) : yT := (y.1, va_up (va_up y.2.1 1 (fun c => if c ∈ (yQ y).drop m ∧ yCl y c = true then 3 else ypl y c)) 2 (fun c => if c ∈ (yQ y).drop m ∧ yCl y c = true then 2 else ywy y c), y.2.2.1, va_up y.2.2.2.1 0 ((yQ y).take m ++ ((yQ y).drop m).filter (fun c => !yCl y c)), y.2.2.2.2)
theorem zSend_y (hW : WF y) : ∀ (n : Nat) (z : zS), n ≤ (yQ y).length → RC (ySendN y n) z → RC (ySendN y 0) (zSend n z) := by
  have hql := hW.ql
  have hn40 := hW.1
  intro n
  induction n with
  | zero => intro z _ h; exact h
  | succ n ih =>
    intro z hn hC
    have hm : n < (yQ y).length := by omega
    have hd := drop_getD (l := yQ y) (m := n) (x := 0) hm
    have hcQ : (yQ y).getD n 0 ∈ yQ y := getD_mem hm
    generalize hc : (yQ y).getD n 0 = c at hd hcQ
    have hcn := ((hW.2.2.2.2.2.1 c).mp hcQ).1
    have hlen : (yQ (ySendN y (n + 1))).length ≤ 40 := by
      show ((yQ y).take (n + 1) ++ ((yQ y).drop (n + 1)).filter (fun c => !yCl y c)).length ≤ 40
      rw [List.length_append, List.length_take]
      have := List.length_filter_le (fun c => !yCl y c) ((yQ y).drop (n + 1))
      rw [List.length_drop] at this
      omega
    have htake : (yQ y).take (n + 1) = (yQ y).take n ++ [c] := by
      rw [List.take_succ, List.getElem?_eq_getElem hm]
      congr 1
      rw [List.getD_eq_getElem?_getD, List.getElem?_eq_getElem hm] at hc
      simpa using hc
    have hQn : yQ (ySendN y (n + 1)) = (yQ y).take n ++ c :: ((yQ y).drop (n + 1)).filter (fun c => !yCl y c) := by
      show (yQ y).take (n + 1) ++ _ = _
      rw [htake, List.append_assoc]
      rfl
    have hlt : ((yQ y).take n).length = n := by rw [List.length_take]; omega
    have hat : zat z 6 (nI n) = nI c := by
      have h1 : n < (yQ (ySendN y (n + 1))).length := by rw [hQn, List.length_append, hlt, List.length_cons]; omega
      rw [q_at hC hlen h1, hQn, List.getD_eq_getElem?_getD, List.getElem?_append_right (by omega), hlt, Nat.sub_self]
      rfl
    have hfc : zQ_fc z (nI c) = yFC (ycf y) (yTr y) c := by
      have hT7 : z.2.1 7 = (yTr y).map nI := hC.R7
      have h2 : ∀ (k m : Nat), (yTr y).length = m + k → zFC z (nI c) k m = yFC (ycf y) ((yTr y).drop m) c := by
        intro k
        induction k with
        | zero => intro m h; rw [List.drop_eq_nil_of_le (by omega)]; rfl
        | succ k ihk =>
          intro m h
          have hml : m < (yTr y).length := by omega
          have ht4 := RM.tr4 hW
          have e7 : zat z 7 (nI m) = nI ((yTr y).getD m 0) := by
            rw [zat, hT7, rAt_map 0 ht4, if_pos (by rw [isC_nI ht4 (by omega)]; simpa using hml), nI_clamp (by omega)]
          have e8 : zConf z (nI c) (nI ((yTr y).getD m 0)) = ycf y ((yTr y).getD m 0) c := by
            rw [hC.cf c _ (by omega) (tr_lt hW hml)]
            exact hW.2.2.2.2.2.2.2.2.2.2.2.2.2.1 _ _
          rw [zFC, e7, e8, drop_getD (x := 0) hml, ihk (m + 1) (by omega)]
          unfold yFC
          rw [List.find?_cons]
          by_cases hq : ycf y ((yTr y).getD m 0) c = true
          · rw [if_pos hq, hq]
          · rw [if_neg hq]
            have hq2 : ycf y ((yTr y).getD m 0) c = false := by simpa using hq
            rw [hq2]
      rw [zQ_fc, hT7, List.length_map]
      exact h2 _ 0 (by omega)
    rw [zSend]
    refine ih _ (by omega) ?_
    unfold zSend1
    rw [hat, hfc]
    by_cases hcl : yFC (ycf y) (yTr y) c = -1
    · rw [if_pos hcl]
      have hcl2 := (yFC_cl hW c).mp hcl
      refine RC.cong hC ?_ rfl rfl rfl
      have hmem : ∀ j, (j ∈ (yQ y).drop n ∧ yCl y j = true) ↔ (j ∈ (yQ y).drop (n + 1) ∧ yCl y j = true) := by
        intro j
        rw [hd, List.mem_cons]
        constructor
        · rintro ⟨rfl | h1, h2⟩
          · rw [hcl2] at h2; cases h2
          · exact ⟨h1, h2⟩
        · rintro ⟨h1, h2⟩; exact ⟨Or.inr h1, h2⟩
      intro r h1 h2
      rcases (show r = 0 ∨ r = 2 ∨ r = 3 ∨ r = 4 ∨ r = 5 ∨ r = 6 ∨ r = 7 ∨ r = 8 ∨ r = 9 ∨ r = 10 ∨ r = 11 by omega) with rfl | rfl | rfl | rfl | rfl | rfl | rfl | rfl | rfl | rfl | rfl
      · rfl
      · show (List.range (yn y)).map (fun j => nI (if j ∈ (yQ y).drop n ∧ yCl y j = true then 3 else ypl y j)) = (List.range (yn y)).map (fun j => nI (if j ∈ (yQ y).drop (n + 1) ∧ yCl y j = true then 3 else ypl y j))
        simp only [hmem]
      · show (List.range (yn y)).map (fun j => nI (if j ∈ (yQ y).drop n ∧ yCl y j = true then 2 else ywy y j)) = (List.range (yn y)).map (fun j => nI (if j ∈ (yQ y).drop (n + 1) ∧ yCl y j = true then 2 else ywy y j))
        simp only [hmem]
      · rfl
      · rfl
      · show (yQ (ySendN y n)).map nI = (yQ (ySendN y (n + 1))).map nI
        rw [hQn]
        show ((yQ y).take n ++ ((yQ y).drop n).filter (fun c => !yCl y c)).map nI = _
        rw [hd, List.filter_cons, hcl2]
        rfl
      · rfl
      · rfl
      · rfl
      · rfl
      · rfl
    · rw [if_neg hcl]
      have hcl2 : yCl y c = true := by
        cases hq : yCl y c with
        | true => rfl
        | false => exact absurd ((yFC_cl hW c).mpr hq) hcl
      have h1 : RC (ylst (ySendN y (n + 1)) 0 ((yQ (ySendN y (n + 1))).eraseIdx n)) (zrem z 6 (nI n)) := by
        refine RC.Q hC _ ?_
        rw [hC.R6, rRem_map hlen (by rw [hQn, List.length_append, hlt, List.length_cons]; omega)]
      have h2 := RC.out (c := c) (r := 2) h1 hn40 hcn
      refine RC.cong h2 ?_ rfl rfl rfl
      intro r q1 q2
      rcases (show r = 0 ∨ r = 2 ∨ r = 3 ∨ r = 4 ∨ r = 5 ∨ r = 6 ∨ r = 7 ∨ r = 8 ∨ r = 9 ∨ r = 10 ∨ r = 11 by omega) with rfl | rfl | rfl | rfl | rfl | rfl | rfl | rfl | rfl | rfl | rfl
      · rfl
      · show (List.range (yn y)).map (fun j => nI (if j ∈ (yQ y).drop n ∧ yCl y j = true then 3 else ypl y j)) = (List.range (yn y)).map (fun j => nI (va_up (fun j => if j ∈ (yQ y).drop (n + 1) ∧ yCl y j = true then 3 else ypl y j) c 3 j))
        apply List.map_congr_left
        intro j _
        unfold va_up
        by_cases hj : j = c
        · subst hj
          rw [if_pos rfl, if_pos ⟨by rw [hd]; exact List.mem_cons_self, hcl2⟩]
        · rw [if_neg hj, hd]
          simp [hj]
      · show (List.range (yn y)).map (fun j => nI (if j ∈ (yQ y).drop n ∧ yCl y j = true then 2 else ywy y j)) = (List.range (yn y)).map (fun j => nI (va_up (fun j => if j ∈ (yQ y).drop (n + 1) ∧ yCl y j = true then 2 else ywy y j) c 2 j))
        apply List.map_congr_left
        intro j _
        unfold va_up
        by_cases hj : j = c
        · subst hj
          rw [if_pos rfl, if_pos ⟨by rw [hd]; exact List.mem_cons_self, hcl2⟩]
        · rw [if_neg hj, hd]
          simp [hj]
      · rfl
      · rfl
      · show ((yQ y).take n ++ ((yQ y).drop n).filter (fun c => !yCl y c)).map nI = ((yQ (ySendN y (n + 1))).eraseIdx n).map nI
        rw [hQn, List.eraseIdx_append_of_length_le (by omega), hlt, Nat.sub_self, hd, List.filter_cons, hcl2]
        rfl
      · rfl
      · rfl
      · rfl
      · rfl
      · rfl
theorem RC.send (hW : WF y) (hC : RC y z) : RC (ySend y) (zQ_send z) := by
  have h0 : RC (ySendN y (yQ y).length) z := by
    refine RC.cong hC ?_ rfl rfl rfl
    intro r q1 q2
    have e : (yQ y).drop (yQ y).length = [] := List.drop_length
    rcases (show r = 0 ∨ r = 2 ∨ r = 3 ∨ r = 4 ∨ r = 5 ∨ r = 6 ∨ r = 7 ∨ r = 8 ∨ r = 9 ∨ r = 10 ∨ r = 11 by omega) with rfl | rfl | rfl | rfl | rfl | rfl | rfl | rfl | rfl | rfl | rfl
    · rfl
    · show (List.range (yn y)).map (fun j => nI (if j ∈ (yQ y).drop (yQ y).length ∧ yCl y j = true then 3 else ypl y j)) = _
      simp [e, rowY]
    · show (List.range (yn y)).map (fun j => nI (if j ∈ (yQ y).drop (yQ y).length ∧ yCl y j = true then 2 else ywy y j)) = _
      simp [e, rowY]
    · rfl
    · rfl
    · show ((yQ y).take (yQ y).length ++ ((yQ y).drop (yQ y).length).filter (fun c => !yCl y c)).map nI = _
      simp [rowY]
    · rfl
    · rfl
    · rfl
    · rfl
    · rfl
  have h1 := zSend_y hW (yQ y).length z (Nat.le_refl _) h0
  have h2 : (z.2.1 6).length = (yQ y).length := by rw [hC.R6, List.length_map]
  rw [zQ_send, h2]
  exact h1
theorem WF.send (hW : WF y) : WF (ySend y) := by
  have hqn := hW.qn
  obtain ⟨w1, w2, w3, w4, w5, w6, w7, w8, w9, w10, w11, w12, w13, w14, w15⟩ := hW
  have key : ∀ c, c < yn y → (c ∈ yQ y ∧ yCl y c = true → ypl y c = 0) := fun c hc h => ((w6 c).mp h.1).2
  refine ⟨w1, ?_, w3, w4, ?_, ?_, w7, ?_, w9, w10, ?_, w12, w13, w14, ?_⟩
  · intro c hc
    obtain ⟨a, b, e, f, g⟩ := w2 c hc
    refine ⟨a, ?_, ?_, f, g⟩
    · show (if c ∈ yQ y ∧ yCl y c = true then 3 else ypl y c) ≤ 3
      split <;> omega
    · show (if c ∈ yQ y ∧ yCl y c = true then 2 else ywy y c) ≤ 3
      split <;> omega
  · exact List.Pairwise.filter _ w5
  · intro c
    show c ∈ (yQ y).filter (fun c => !yCl y c) ↔ c < yn y ∧ (if c ∈ yQ y ∧ yCl y c = true then 3 else ypl y c) = 0
    rw [List.mem_filter]
    by_cases h : yCl y c = true
    · by_cases hq : c ∈ yQ y
      · rw [if_pos ⟨hq, h⟩]; simp [h]
      · rw [if_neg (fun q => hq q.1)]
        constructor
        · rintro ⟨q, -⟩; exact absurd q hq
        · intro q; exact absurd ((w6 c).mpr q) hq
    · rw [if_neg (fun q => h q.2), w6 c]
      simp [h]
  · intro c
    show c ∈ yTr y ↔ c < yn y ∧ (if c ∈ yQ y ∧ yCl y c = true then 3 else ypl y c) = 2
    rw [w8 c]
    by_cases h : c ∈ yQ y ∧ yCl y c = true
    · rw [if_pos h]
      have := ((w6 c).mp h.1).2
      constructor
      · rintro ⟨-, q⟩; omega
      · rintro ⟨-, q⟩; omega
    · rw [if_neg h]
  · intro c
    show c ∈ gL (yG y) ↔ c < yn y ∧ (if c ∈ yQ y ∧ yCl y c = true then 3 else ypl y c) = 1
    rw [w11 c]
    by_cases h : c ∈ yQ y ∧ yCl y c = true
    · rw [if_pos h]
      have := ((w6 c).mp h.1).2
      constructor
      · rintro ⟨-, q⟩; omega
      · rintro ⟨-, q⟩; omega
    · rw [if_neg h]
  · intro c hc
    show (if c ∈ yQ y ∧ yCl y c = true then 2 else ywy y c) = 0 ↔ (if c ∈ yQ y ∧ yCl y c = true then 3 else ypl y c) ≠ 3
    by_cases h : c ∈ yQ y ∧ yCl y c = true
    · rw [if_pos h, if_pos h]; simp
    · rw [if_neg h, if_neg h]; exact w15 c hc
theorem RM.send (hW : WF y) (hR : RM y t) : RM (ySend y) (mClear t (ycf y) (yTr y) (yn y)) := by
  obtain ⟨r1, r2, r3, r4, r5, r6, r7⟩ := hR
  obtain ⟨w1, w2, w3, w4, w5, w6, w7, w8, w9, w10, w11, w12, w13, w14, w15⟩ := id hW
  have hcl : ∀ c, (!decide (yFC (ycf y) (yTr y) c = -1)) = yCl y c := by
    intro c
    cases hq : yCl y c with
    | true =>
      have : ¬ yFC (ycf y) (yTr y) c = -1 := fun e => by rw [(yFC_cl hW c).mp e] at hq; cases hq
      simp [this]
    | false => simp [(yFC_cl hW c).mpr hq]
  refine ⟨r1, ?_, ?_, ?_, ?_, ?_, ?_⟩
  · exact r2.cong rfl rfl rfl
  · exact r3
  · exact r4
  · intro c hc
    obtain ⟨a, b, e, f, g⟩ := r5 c hc
    have wp := (w2 c hc).2.1
    have e0 : t.2 2 c = 0 ↔ ypl y c = 0 := by rw [b, show (0 : Int32) = nI 0 from rfl, nI_eq (by omega) (by decide)]
    refine ⟨a, ?_, ?_, f, g⟩
    · show (if c < yn y ∧ t.2 2 c = 0 ∧ (!decide (yFC (ycf y) (yTr y) c = -1)) = true then 3 else t.2 2 c) = nI (if c ∈ yQ y ∧ yCl y c = true then 3 else ypl y c)
      rw [hcl c]
      by_cases h : c ∈ yQ y ∧ yCl y c = true
      · rw [if_pos h, if_pos ⟨hc, e0.mpr ((w6 c).mp h.1).2, h.2⟩]; rfl
      · rw [if_neg h, if_neg (fun q => h ⟨(w6 c).mpr ⟨hc, e0.mp q.2.1⟩, q.2.2⟩)]; exact b
    · show (if c < yn y ∧ t.2 2 c = 0 ∧ (!decide (yFC (ycf y) (yTr y) c = -1)) = true then 2 else t.2 4 c) = nI (if c ∈ yQ y ∧ yCl y c = true then 2 else ywy y c)
      rw [hcl c]
      by_cases h : c ∈ yQ y ∧ yCl y c = true
      · rw [if_pos h, if_pos ⟨hc, e0.mpr ((w6 c).mp h.1).2, h.2⟩]; rfl
      · rw [if_neg h, if_neg (fun q => h ⟨(w6 c).mpr ⟨hc, e0.mp q.2.1⟩, q.2.2⟩)]; exact e
  · intro c h1 h2
    obtain ⟨a, b, e⟩ := r6 c h1 h2
    refine ⟨a, ?_, e⟩
    show (if c < yn y ∧ _ then 2 else t.2 4 c) = 0
    rw [if_neg (fun q => by have := q.1; have h3 : yn y ≤ c := h1; omega)]
    exact b
  · exact r7
end SE
end
section
/-! SINGLE CHANGES: pause, change, jump, leaving the queue, conflict -/
section OP
variable {y : yT} {z : zS} {t : mS} {p : ax_H} {h : ax_H} {d : Nat}
def INV (y : yT) (z : zS) (t : mS) : Prop := WF y ∧ RC y z ∧ RM y t ∧ RS y z t
theorem marr_eq (t : mS) (a k : Nat) (v : Int32) : (marr t a k v).2 a k = v := by simp [marr, va_up, upd]
theorem marr_k {t : mS} {a k j : Nat} {v : Int32} (h : j ≠ k) : (marr t a k v).2 a j = t.2 a j := by simp [marr, va_up, upd, h]
theorem marr_o {t : mS} {a b k : Nat} {v : Int32} (h : b ≠ a) : (marr t a k v).2 b = t.2 b := by simp [marr, va_up, h]
theorem RM.pl (hR : RM y t) {c v : Nat} : RM (yup y 1 c v) (marr t 2 c (nI v)) := by
  obtain ⟨r1, r2, r3, r4, r5, r6, r7⟩ := hR
  refine ⟨r1, r2.cong rfl rfl rfl, r3, r4, ?_, r6, r7⟩
  intro j hj
  obtain ⟨a, b, e, f, g⟩ := r5 j hj
  refine ⟨a, ?_, e, f, g⟩
  show (marr t 2 c (nI v)).2 2 j = nI (va_up (y.2.1 1) c v j)
  unfold va_up
  by_cases hjc : j = c
  · subst hjc; rw [marr_eq, if_pos rfl]
  · rw [marr_k hjc, if_neg hjc]; exact b
theorem RM.wy (hR : RM y t) {c v : Nat} (hc : c < yn y) : RM (yup y 2 c v) (marr t 4 c (nI v)) := by
  obtain ⟨r1, r2, r3, r4, r5, r6, r7⟩ := hR
  refine ⟨r1, r2.cong rfl rfl rfl, r3, r4, ?_, ?_, r7⟩
  · intro j hj
    obtain ⟨a, b, e, f, g⟩ := r5 j hj
    refine ⟨a, b, ?_, f, g⟩
    show (marr t 4 c (nI v)).2 4 j = nI (va_up (y.2.1 2) c v j)
    unfold va_up
    by_cases hjc : j = c
    · subst hjc; rw [marr_eq, if_pos rfl]
    · rw [marr_k hjc, if_neg hjc]; exact e
  · intro j h1 h2
    obtain ⟨a, b, e⟩ := r6 j h1 h2
    have h3 : yn y ≤ j := h1
    exact ⟨a, by rw [marr_k (by omega)]; exact b, e⟩
theorem RM.ts (hR : RM y t) {c v : Nat} (hc : c < yn y) : RM (yup y 3 c v) (marr t 5 c (nI v)) := by
  obtain ⟨r1, r2, r3, r4, r5, r6, r7⟩ := hR
  refine ⟨r1, r2.cong rfl rfl rfl, r3, r4, ?_, ?_, r7⟩
  · intro j hj
    obtain ⟨a, b, e, f, g⟩ := r5 j hj
    refine ⟨a, b, e, ?_, g⟩
    show (marr t 5 c (nI v)).2 5 j = nI (va_up (y.2.1 3) c v j)
    unfold va_up
    by_cases hjc : j = c
    · subst hjc; rw [marr_eq, if_pos rfl]
    · rw [marr_k hjc, if_neg hjc]; exact f
  · intro j h1 h2
    obtain ⟨a, b, e⟩ := r6 j h1 h2
    have h3 : yn y ≤ j := h1
    exact ⟨a, b, by rw [marr_k (by omega)]; exact e⟩
theorem RM.lst (hR : RM y t) (l : List Nat) : RM (ylst y 0 l) t := hR
-- pause
theorem op_pause (hI : INV y z t) {q : Int32} (hq : q = 0 ∨ q = 1) : (zQ_pause z q).1 = !decide (t.1 11 = q) ∧ INV y (zQ_pause z q).2 (mset t 11 q) := by
  obtain ⟨hW, hC, hR, hS⟩ := hI
  have e3 : z.1 3 = t.1 11 := hS.2.2.2.1
  unfold zQ_pause
  rw [e3]
  by_cases h : t.1 11 = q
  · rw [if_pos h]
    refine ⟨by simp [h], hW, hC, ?_, ?_⟩
    · rw [mset_same h]; exact hR
    · rw [mset_same h]; exact hS
  · rw [if_neg h]
    refine ⟨by simp [h], hW, hC, hR, ?_⟩
    obtain ⟨s0, s1, s2, s3, s4, s5, s7, s8, s9, s10⟩ := hS
    exact ⟨s0, s1, s2, rfl, s4, s5, s7, s8, hq, s10⟩
-- a new change
def yAdd (y : yT) (r : Nat) : yT := (va_up y.1 0 (yn y + 1), fun a => va_up (y.2.1 a) (yn y) (if a = 0 then r else if a = 4 then 40 else 0), y.2.2)
theorem rIns_end {xs : List Int32} {v : Int32} (h : xs.length < 40) : rIns xs (nI xs.length) v = xs ++ [v] := by
  unfold rIns
  rw [nI_clamp (by omega), if_neg (by rintro (q | q | q); exact nI_pos (by omega) q; omega; omega), List.insertIdx_length_self]
theorem range_up {n v : Nat} {f : Nat → Nat} : (List.range n).map (fun c => nI (f c)) ++ [nI v] = (List.range (n + 1)).map (fun c => nI (va_up f n v c)) := by
  rw [List.range_succ, List.map_append]
  congr 1
  · apply List.map_congr_left
    intro j hj
    have := List.mem_range.mp hj
    simp [va_up, show j ≠ n by omega]
  · simp [va_up]
theorem RC.add (hC : RC y z) (hn : yn y < 40) {r : Nat} {parts : Int32} : RC (yAdd y r) (zC_add z (nI r) parts) ∧ (zC_add z (nI r) parts).2.1 1 = z.2.1 1 ++ [parts] ∧ (zC_add z (nI r) parts).1 = z.1 := by
  rw [RC_iff] at hC
  obtain ⟨a, b, c, e⟩ := hC
  have len : ∀ q, q < 6 → q ≠ 1 → (z.2.1 q).length = yn y := by
    intro q h1 h2
    rw [a q (by omega) h2]
    rcases (show q = 0 ∨ q = 2 ∨ q = 3 ∨ q = 4 ∨ q = 5 by omega) with rfl | rfl | rfl | rfl | rfl <;> simp [rowY]
  have row : ∀ q, (zC_add z (nI r) parts).2.1 q = if q = 0 then z.2.1 0 ++ [nI r] else if q = 1 then z.2.1 1 ++ [parts] else if q = 2 then z.2.1 2 ++ [0] else if q = 3 then z.2.1 3 ++ [0] else if q = 4 then z.2.1 4 ++ [40] else if q = 5 then z.2.1 5 ++ [0] else z.2.1 q := by
    intro q
    have r0 := rIns_end (xs := z.2.1 0) (v := nI r) (by rw [len 0 (by decide) (by decide)]; exact hn)
    have r1 := rIns_end (xs := z.2.1 1) (v := parts) (by rw [b]; exact hn)
    have r2 := rIns_end (xs := z.2.1 2) (v := 0) (by rw [len 2 (by decide) (by decide)]; exact hn)
    have r3 := rIns_end (xs := z.2.1 3) (v := 0) (by rw [len 3 (by decide) (by decide)]; exact hn)
    have r4 := rIns_end (xs := z.2.1 4) (v := 40) (by rw [len 4 (by decide) (by decide)]; exact hn)
    have r5 := rIns_end (xs := z.2.1 5) (v := 0) (by rw [len 5 (by decide) (by decide)]; exact hn)
    by_cases q5 : q = 5
    · subst q5; exact r5
    by_cases q4 : q = 4
    · subst q4; exact r4
    by_cases q3 : q = 3
    · subst q3; exact r3
    by_cases q2 : q = 2
    · subst q2; exact r2
    by_cases q1 : q = 1
    · subst q1; exact r1
    by_cases q0 : q = 0
    · subst q0; exact r0
    simp only [zC_add, zapp]
    rw [zrow_ne q5, zrow_ne q4, zrow_ne q3, zrow_ne q2, zrow_ne q1, zrow_ne q0]
    simp [q0, q1, q2, q3, q4, q5]
  refine ⟨?_, by rw [row 1]; rfl, rfl⟩
  rw [RC_iff]
  refine ⟨fun q h1 h2 => ?_, ?_, c, e⟩
  · rw [row q]
    rcases (show q = 0 ∨ q = 2 ∨ q = 3 ∨ q = 4 ∨ q = 5 ∨ q = 6 ∨ q = 7 ∨ q = 8 ∨ q = 9 ∨ q = 10 ∨ q = 11 by omega) with rfl | rfl | rfl | rfl | rfl | rfl | rfl | rfl | rfl | rfl | rfl
    · show z.2.1 0 ++ [nI r] = _
      rw [a 0 (by decide) (by decide)]; exact range_up
    · show z.2.1 2 ++ [nI 0] = _
      rw [a 2 (by decide) (by decide)]; exact range_up
    · show z.2.1 3 ++ [nI 0] = _
      rw [a 3 (by decide) (by decide)]; exact range_up
    · show z.2.1 4 ++ [nI 40] = _
      rw [a 4 (by decide) (by decide)]; exact range_up
    · show z.2.1 5 ++ [nI 0] = _
      rw [a 5 (by decide) (by decide)]; exact range_up
    · exact a 6 (by decide) (by decide)
    · exact a 7 (by decide) (by decide)
    · exact a 8 (by decide) (by decide)
    · exact a 9 (by decide) (by decide)
    · exact a 10 (by decide) (by decide)
    · exact a 11 (by decide) (by decide)
  · rw [row 1]
    show (z.2.1 1 ++ [parts]).length = yn y + 1
    rw [List.length_append, b]; rfl
theorem yAdd_bef {y : yT} {r a b : Nat} (ha : a < yn y) (hb : b < yn y) : yBef (yAdd y r) a b = yBef y a b := by
  have h : ∀ c q, c < yn y → (yAdd y r).2.1 q c = y.2.1 q c := fun c q hc => by
    show va_up (y.2.1 q) (yn y) _ c = _
    simp [va_up, show c ≠ yn y by omega]
  simp only [yBef, ytn, yrk, h a _ ha, h b _ hb]
def mAdd2 (t : mS) (n : Nat) (its parts : Int32) : mS := mset (marr (marr (marr t 0 n its) 1 n parts) 2 n 0) 4 (nI n + 1)
theorem zQ_enq_1 (z : zS) (c : Int32) : (zQ_enq z c).1 = z.1 := rfl
theorem zQ_enq_r (z : zS) (c : Int32) : (zQ_enq z c).2.1 1 = z.2.1 1 := zrow_ne (by decide)
theorem mAdd2_1 (t : mS) (n : Nat) (a b : Int32) : (mAdd2 t n a b).2 1 = (marr (marr t 0 n a) 1 n b).2 1 := rfl
theorem op_change (hI : INV y z t) {r : Nat} (hr : r ≤ 9) (hn : yn y < 40) (parts : Int32) : INV (yEnq (yAdd y r) (yn y)) (zQ_enq (zC_add z (nI r) parts) (nI (yn y))) (mAdd2 t (yn y) (nI r) parts) := by
  obtain ⟨hW, hC, hR, hS⟩ := hI
  obtain ⟨hC1, hz1, hz2⟩ := RC.add hC hn (r := r) (parts := parts)
  have hqn := hW.qn
  obtain ⟨w1, w2, w3, w4, w5, w6, w7, w8, w9, w10, w11, w12, w13, w14, w15⟩ := id hW
  have yo : ∀ c q, c < yn y → (yAdd y r).2.1 q c = y.2.1 q c := fun c q hc => by
    show va_up (y.2.1 q) (yn y) _ c = _
    simp [va_up, show c ≠ yn y by omega]
  have yN : ∀ q, (yAdd y r).2.1 q (yn y) = if q = 0 then r else if q = 4 then 40 else 0 := fun q => by
    show va_up (y.2.1 q) (yn y) _ (yn y) = _
    simp [va_up]
  have hQn : yn y ∉ yQ y := fun q => by have := ((w6 _).mp q).1; omega
  have hql : (yQ y).length < 40 := by
    have := nd_len (yn y) (yQ y) hqn (fun x hx => ((w6 x).mp hx).1)
    omega
  have hB1 : WB (yAdd y r) := by
    refine ⟨by show yn y + 1 ≤ 40; omega, ?_, ?_⟩
    · intro c hc
      have hc2 : c < yn y + 1 := hc
      by_cases e : c = yn y
      · subst e
        simp only [yrk, ypl, ywy, yts, ytn, yN]
        simp; omega
      · simp only [yrk, ypl, ywy, yts, ytn, yo c _ (show c < yn y by omega)]
        exact w2 c (by omega)
    · intro c hc
      have : c ∈ yQ y := hc
      have := ((w6 c).mp this).1
      show c < yn y + 1
      omega
  have hpos : yPos (yAdd y r) (yn y) ≤ (yQ y).length := yPos_le (yAdd y r) (yn y)
  refine ⟨?_, RC.enq hC1 hB1 hql (by show yn y < yn y + 1; omega), ?_, ?_⟩
  · refine ⟨hB1.1, hB1.2.1, ?_, ?_, ?_, ?_, w7, ?_, w9, w10, ?_, w12, ?_, w14, ?_⟩
    · intro c hc
      have hc2 : c < yn y + 1 := hc
      by_cases e : c = yn y
      · subst e; left; exact yN 4
      · have := w3 c (by omega)
        show (yAdd y r).2.1 4 c = 40 ∨ (yAdd y r).2.1 4 c < ytg y
        rw [yo c 4 (by omega)]
        exact this
    · show ytg y = ((List.range (yn y + 1)).filter (fun c => !decide ((yAdd y r).2.1 4 c = 40))).length
      rw [List.range_succ, List.filter_append, List.length_append]
      have e1 : (List.range (yn y)).filter (fun c => !decide ((yAdd y r).2.1 4 c = 40)) = (List.range (yn y)).filter (fun c => !decide (ytn y c = 40)) := by
        apply List.filter_congr
        intro c hc
        rw [yo c 4 (List.mem_range.mp hc)]
      have e2 : [yn y].filter (fun c => !decide ((yAdd y r).2.1 4 c = 40)) = [] := by
        rw [List.filter_cons, show (!decide ((yAdd y r).2.1 4 (yn y) = 40)) = false by rw [yN 4]; rfl]
        rfl
      rw [e1, e2]
      exact w4
    · show ((yQ y).insertIdx (yPos (yAdd y r) (yn y)) (yn y)).Pairwise (fun a b => yBef (yAdd y r) a b = true)
      refine enq_sorted (y := yAdd y r) ?_ hQn
      refine List.Pairwise.imp_of_mem ?_ w5
      intro a b ha hb hab
      rw [yAdd_bef ((w6 a).mp ha).1 ((w6 b).mp hb).1]
      exact hab
    · intro c
      show c ∈ (yQ y).insertIdx (yPos (yAdd y r) (yn y)) (yn y) ↔ c < yn y + 1 ∧ (yAdd y r).2.1 1 c = 0
      rw [enq_mem hpos, w6 c]
      by_cases e : c = yn y
      · subst e
        have := yN 1
        simp [this]
      · constructor
        · rintro (q | q)
          · exact absurd q e
          · rw [yo c 1 q.1]; exact ⟨by omega, q.2⟩
        · rintro ⟨q1, q2⟩
          rw [yo c 1 (by omega)] at q2
          exact Or.inr ⟨by omega, q2⟩
    · intro c
      show c ∈ yTr y ↔ c < yn y + 1 ∧ (yAdd y r).2.1 1 c = 2
      rw [w8 c]
      by_cases e : c = yn y
      · subst e
        have := yN 1
        simp [this]
      · constructor
        · rintro q; rw [yo c 1 q.1]; exact ⟨by omega, q.2⟩
        · rintro ⟨q1, q2⟩
          rw [yo c 1 (by omega)] at q2
          exact ⟨by omega, q2⟩
    · intro c
      show c ∈ gL (yG y) ↔ c < yn y + 1 ∧ (yAdd y r).2.1 1 c = 1
      rw [w11 c]
      by_cases e : c = yn y
      · subst e
        have := yN 1
        simp [this]
      · constructor
        · rintro q; rw [yo c 1 q.1]; exact ⟨by omega, q.2⟩
        · rintro ⟨q1, q2⟩
          rw [yo c 1 (by omega)] at q2
          exact ⟨by omega, q2⟩
    · intro a b hab
      have := w13 a b hab
      exact ⟨by show a < yn y + 1; omega, by show b < yn y + 1; omega⟩
    · intro c hc
      have hc2 : c < yn y + 1 := hc
      show (yAdd y r).2.1 2 c = 0 ↔ (yAdd y r).2.1 1 c ≠ 3
      by_cases e : c = yn y
      · subst e; rw [yN 1, yN 2]; simp
      · rw [yo c 1 (by omega), yo c 2 (by omega)]; exact w15 c (by omega)
  · obtain ⟨⟨r0, r1, r2, r3⟩, rL, rT, rc, r5, r6, r7⟩ := hR
    refine ⟨⟨r0, ?_, r2, r3⟩, rL.cong rfl rfl rfl, rT, rc, ?_, ?_, r7⟩
    · show nI (yn y) + 1 = nI (yn y + 1)
      rw [nI_1]
    · intro c hc
      have hc2 : c < yn y + 1 := hc
      by_cases e : c = yn y
      · subst e
        obtain ⟨q1, q2, q3⟩ := r6 (yn y) (Nat.le_refl _) hn
        refine ⟨?_, ?_, ?_, ?_, ?_⟩
        · show _ = nI ((yAdd y r).2.1 0 (yn y)); rw [yN 0]; exact marr_eq t 0 (yn y) (nI r)
        · show _ = nI ((yAdd y r).2.1 1 (yn y)); rw [yN 1]; exact marr_eq _ 2 (yn y) 0
        · show _ = nI ((yAdd y r).2.1 2 (yn y)); rw [yN 2]; exact q2
        · show _ = nI ((yAdd y r).2.1 3 (yn y)); rw [yN 3]; exact q3
        · show _ = nI (jp ((yAdd y r).2.1 4 (yn y))); rw [yN 4]; exact q1
      · obtain ⟨q1, q2, q3, q4, q5⟩ := r5 c (by omega)
        simp only [yrk, ypl, ywy, yts, ytn] at q1 q2 q3 q4 q5
        refine ⟨?_, ?_, ?_, ?_, ?_⟩
        · show (marr t 0 (yn y) (nI r)).2 0 c = nI ((yAdd y r).2.1 0 c); rw [yo c 0 (by omega), marr_k e]; exact q1
        · show (marr (marr (marr t 0 (yn y) (nI r)) 1 (yn y) parts) 2 (yn y) 0).2 2 c = nI ((yAdd y r).2.1 1 c); rw [yo c 1 (by omega), marr_k e]; exact q2
        · show _ = nI ((yAdd y r).2.1 2 c); rw [yo c 2 (by omega)]; exact q3
        · show _ = nI ((yAdd y r).2.1 3 c); rw [yo c 3 (by omega)]; exact q4
        · show _ = nI (jp ((yAdd y r).2.1 4 c)); rw [yo c 4 (by omega)]; exact q5
    · intro c h1 h2
      have h3 : yn y + 1 ≤ c := h1
      exact r6 c (by omega) h2
  · obtain ⟨s0, s1, s2, s3, s4, s5, s7, s8, s9, s10⟩ := hS
    have ez : (zQ_enq (zC_add z (nI r) parts) (nI (yn y))).1 = z.1 := (zQ_enq_1 _ _).trans hz2
    have e1 : (zQ_enq (zC_add z (nI r) parts) (nI (yn y))).2.1 1 = z.2.1 1 ++ [parts] := (zQ_enq_r _ _).trans hz1
    have et : (mAdd2 t (yn y) (nI r) parts).2 1 = (marr (marr t 0 (yn y) (nI r)) 1 (yn y) parts).2 1 := mAdd2_1 _ _ _ _
    generalize zQ_enq (zC_add z (nI r) parts) (nI (yn y)) = z2 at ez e1
    unfold RS
    rw [ez, e1, et]
    refine ⟨s0, s1, s2, s3, s4, s5, s7, ?_, s9, s10⟩
    intro c hc
    have hc2 : c < yn y + 1 := hc
    have hl : (z.2.1 1).length = yn y := hC.2.2.2.2.2.1
    rw [List.getD_eq_getElem?_getD]
    by_cases e : c = yn y
    · subst e
      rw [marr_eq, List.getElem?_append_right (by omega), hl, Nat.sub_self]
      rfl
    · rw [marr_k e, marr_o (by decide), List.getElem?_append_left (by omega), ← List.getD_eq_getElem?_getD]
      exact s8 c (by omega)
end OP
end
section
/-! jump; leaving the queue -/
section JU
variable {y : yT} {z : zS} {t : mS}
theorem cnt_up : ∀ (l : List Nat) (P P' : Nat → Bool) (k : Nat), l.Nodup → k ∈ l → P k = false → P' k = true → (∀ x, x ≠ k → P' x = P x) → (l.filter P').length = (l.filter P).length + 1 := by
  intro l
  induction l with
  | nil => intro P P' k _ h; cases h
  | cons a l ih =>
    intro P P' k hn hk h1 h2 h3
    have hn2 := List.nodup_cons.mp hn
    rw [List.filter_cons, List.filter_cons]
    by_cases e : a = k
    · subst e
      rw [h1, h2, if_pos rfl, if_neg (by decide), List.length_cons]
      congr 1
      have : l.filter P' = l.filter P := List.filter_congr (fun x hx => h3 x (fun q => hn2.1 (q ▸ hx)))
      rw [this]
    · have hk2 : k ∈ l := by
        rcases List.mem_cons.mp hk with q | q
        · exact absurd q.symm e
        · exact q
      have := ih P P' k hn2.2 hk2 h1 h2 h3
      rw [h3 a e]
      by_cases hp : P a = true
      · rw [if_pos hp, if_pos hp, List.length_cons, List.length_cons, this]
      · rw [if_neg hp, if_neg hp, this]
theorem cnt_lt : ∀ (l : List Nat) (P : Nat → Bool) (k : Nat), k ∈ l → P k = false → (l.filter P).length < l.length := by
  intro l P k hk hp
  rcases Nat.lt_or_eq_of_le (List.length_filter_le P l) with h | h
  · exact h
  · exfalso
    rw [List.length_filter_eq_length_iff] at h
    rw [h k hk] at hp
    cases hp
theorem RS.cong {y y' : yT} {z z' : zS} {t t' : mS} (hS : RS y z t) (hn : yn y' = yn y) (h1 : ∀ i, i < 8 → i ≠ 6 → z'.1 i = z.1 i) (h2 : z'.2.1 1 = z.2.1 1) (h3 : ∀ i, i = 0 ∨ i = 1 ∨ i = 2 ∨ i = 8 ∨ i = 9 ∨ i = 10 ∨ i = 11 → t'.1 i = t.1 i) (h4 : t'.2 1 = t.2 1) : RS y' z' t' := by
  unfold RS at *
  rw [hn, h1 0 (by decide) (by decide), h1 1 (by decide) (by decide), h1 2 (by decide) (by decide), h1 3 (by decide) (by decide), h1 4 (by decide) (by decide), h1 5 (by decide) (by decide), h1 7 (by decide) (by decide), h2, h3 0 (by omega), h3 1 (by omega), h3 2 (by omega), h3 8 (by omega), h3 9 (by omega), h3 10 (by omega), h3 11 (by omega), h4]
  exact hS
theorem zrow_1 (z : zS) (r : Nat) (xs : List Int32) : (zrow z r xs).1 = z.1 := rfl
def mJmp (t : mS) (k : Nat) : mS := marr (mset t 5 (t.1 5 + 1)) 3 k (t.1 5 + 1)
theorem op_jump (hI : INV y z t) {k : Nat} (hk : k < yn y) (h0 : ypl y k = 0) (h4 : ytn y k = 40) : INV (yEnq (yTurn (yDeq y k) k) k) (zQ_enq (zC_giveTurn (zQ_deq z (nI k)) (nI k)) (nI k)) (mJmp t k) := by
  obtain ⟨hW, hC, hR, hS⟩ := hI
  have hqn := hW.qn
  have hql := hW.ql
  obtain ⟨w1, w2, w3, w4, w5, w6, w7, w8, w9, w10, w11, w12, w13, w14, w15⟩ := id hW
  have hkQ : k ∈ yQ y := (w6 k).mpr ⟨hk, h0⟩
  have htg : ytg y < 40 := by
    have := cnt_lt (List.range (yn y)) (fun c => !decide (ytn y c = 40)) k (List.mem_range.mpr hk) (by simp [h4])
    rw [List.length_range] at this
    have e : ytg y = ((List.range (yn y)).filter (fun c => !decide (ytn y c = 40))).length := w4
    omega
  have hC1 := RC.deq hC hql (fun x hx => by have := ((w6 x).mp hx).1; omega) hkQ
  have hC2 := RC.turn hC1 (c := k) w1 hk
  have hT : ∀ c, ytn (yTurn (yDeq y k) k) c = if c = k then ytg y else ytn y c := fun c => rfl
  have hB : ∀ a b, a ≠ k → b ≠ k → yBef (yTurn (yDeq y k) k) a b = yBef y a b := by
    intro a b ha hb
    unfold yBef
    rw [hT a, hT b, if_neg ha, if_neg hb]
    rfl
  have hQ1 : yQ (yTurn (yDeq y k) k) = (yQ y).erase k := rfl
  have hle : ((yQ y).erase k).length < 40 := by
    rw [List.length_erase_of_mem hkQ]
    have := List.length_pos_of_mem hkQ
    omega
  have hWB : WB (yTurn (yDeq y k) k) := by
    refine ⟨w1, ?_, ?_⟩
    · intro c hc
      obtain ⟨a, b, e, f, g⟩ := w2 c hc
      refine ⟨a, b, e, f, ?_⟩
      rw [hT c]
      split <;> omega
    · intro c hc
      rw [hQ1] at hc
      exact ((w6 c).mp (List.mem_of_mem_erase hc)).1
  have hC3 := RC.enq hC2 hWB (by rw [hQ1]; exact hle) (c := k) hk
  have hkE : k ∉ (yQ y).erase k := fun q => hqn.not_mem_erase q
  refine ⟨?_, hC3, ?_, ?_⟩
  · refine ⟨w1, hWB.2.1, ?_, ?_, ?_, ?_, w7, w8, w9, w10, w11, w12, w13, w14, w15⟩
    · intro c hc
      show ytn (yTurn (yDeq y k) k) c = 40 ∨ ytn (yTurn (yDeq y k) k) c < ytg y + 1
      rw [hT c]
      by_cases e : c = k
      · rw [if_pos e]; right; omega
      · rw [if_neg e]
        rcases w3 c hc with q | q
        · exact Or.inl q
        · right; omega
    · show ytg y + 1 = ((List.range (yn y)).filter (fun c => !decide (ytn (yTurn (yDeq y k) k) c = 40))).length
      rw [cnt_up (List.range (yn y)) (fun c => !decide (ytn y c = 40)) (fun c => !decide (ytn (yTurn (yDeq y k) k) c = 40)) k List.nodup_range (List.mem_range.mpr hk) (by simp [h4]) (by
        show (!decide (ytn (yTurn (yDeq y k) k) k = 40)) = true
        rw [hT k, if_pos rfl]
        have : ¬ ytg y = 40 := by omega
        simp [this]) (fun x hx => by
        show (!decide (ytn (yTurn (yDeq y k) k) x = 40)) = (!decide (ytn y x = 40))
        rw [hT x, if_neg hx])]
      have e : ytg y = ((List.range (yn y)).filter (fun c => !decide (ytn y c = 40))).length := w4
      omega
    · show ((yQ y).erase k |>.insertIdx (yPos (yTurn (yDeq y k) k) k) k).Pairwise (fun a b => yBef (yTurn (yDeq y k) k) a b = true)
      refine enq_sorted (y := yTurn (yDeq y k) k) (l := (yQ y).erase k) ?_ hkE
      refine List.Pairwise.imp_of_mem ?_ (w5.sublist List.erase_sublist)
      intro a b ha hb hab
      rw [hB a b (fun e => hkE (e ▸ ha)) (fun e => hkE (e ▸ hb))]
      exact hab
    · intro c
      show c ∈ ((yQ y).erase k).insertIdx (yPos (yTurn (yDeq y k) k) k) k ↔ c < yn y ∧ ypl y c = 0
      rw [enq_mem (l := (yQ y).erase k) (yPos_le (yTurn (yDeq y k) k) k), ← w6 c]
      constructor
      · rintro (rfl | q)
        · exact hkQ
        · exact List.mem_of_mem_erase q
      · intro q
        by_cases e : c = k
        · exact Or.inl e
        · exact Or.inr ((List.mem_erase_of_ne e).mpr q)
  · obtain ⟨⟨r0, r1, r2, r3⟩, rL, rT, rc, r5, r6, r7⟩ := hR
    have e5 : t.1 5 + 1 = nI (ytg y + 1) := by rw [r2, nI_1]
    refine ⟨⟨r0, r1, ?_, r3⟩, rL.cong rfl rfl rfl, rT, rc, ?_, ?_, r7⟩
    · exact e5
    · intro c hc
      obtain ⟨a, b, e, f, g⟩ := r5 c hc
      refine ⟨a, b, e, f, ?_⟩
      show (marr (mset t 5 (t.1 5 + 1)) 3 k (t.1 5 + 1)).2 3 c = nI (jp (ytn (yTurn (yDeq y k) k) c))
      rw [hT c]
      by_cases hc2 : c = k
      · subst hc2
        rw [marr_eq, if_pos rfl, e5, jp, if_neg (by omega)]
      · rw [marr_k hc2, if_neg hc2]
        exact g
    · intro c h1 h2
      obtain ⟨a, b, e⟩ := r6 c h1 h2
      have h3 : yn y ≤ c := h1
      refine ⟨?_, b, e⟩
      show (marr (mset t 5 (t.1 5 + 1)) 3 k (t.1 5 + 1)).2 3 c = 0
      rw [marr_k (by omega)]
      exact a
  · refine RS.cong hS rfl ?_ ?_ ?_ rfl
    · intro i hi h6
      rw [zQ_enq_1]
      show va_up z.1 6 _ i = z.1 i
      simp [va_up, h6]
    · rw [zQ_enq_r]
      show (zput (zQ_deq z (nI k)) 4 (nI k) _).2.1 1 = _
      rw [zput, zrow_ne (by decide), zQ_deq, zrem, zrow_ne (by decide)]
    · intro i hi
      show va_up t.1 5 _ i = t.1 i
      have : i ≠ 5 := by omega
      simp [va_up, this]
theorem op_leaveQ (hI : INV y z t) {k : Nat} (hk : k < yn y) (h0 : ypl y k = 0) : INV (yOut (yDeq y k) k 3) (zC_putOut (zQ_deq z (nI k)) (nI k) (nI 3)) (marr (marr t 2 k (nI 3)) 4 k (nI 3)) := by
  obtain ⟨hW, hC, hR, hS⟩ := hI
  have hqn := hW.qn
  have hql := hW.ql
  obtain ⟨w1, w2, w3, w4, w5, w6, w7, w8, w9, w10, w11, w12, w13, w14, w15⟩ := id hW
  have hkQ : k ∈ yQ y := (w6 k).mpr ⟨hk, h0⟩
  have hP : ∀ c, ypl (yOut (yDeq y k) k 3) c = if c = k then 3 else ypl y c := fun c => rfl
  have hY : ∀ c, ywy (yOut (yDeq y k) k 3) c = if c = k then 3 else ywy y c := fun c => rfl
  refine ⟨?_, RC.out (RC.deq hC hql (fun x hx => by have := ((w6 x).mp hx).1; omega) hkQ) w1 hk, RM.wy (RM.pl (RM.lst hR _)) hk, ?_⟩
  · refine ⟨w1, ?_, w3, w4, w5.sublist List.erase_sublist, ?_, w7, ?_, w9, w10, ?_, w12, w13, w14, ?_⟩
    · intro c hc
      obtain ⟨a, b, e, f, g⟩ := w2 c hc
      refine ⟨a, ?_, ?_, f, g⟩
      · rw [hP c]; split <;> omega
      · rw [hY c]; split <;> omega
    · intro c
      show c ∈ (yQ y).erase k ↔ c < yn y ∧ ypl (yOut (yDeq y k) k 3) c = 0
      rw [hP c]
      by_cases e : c = k
      · subst e
        rw [if_pos rfl]
        constructor
        · intro q; exact absurd q hqn.not_mem_erase
        · rintro ⟨-, q⟩; cases q
      · rw [if_neg e, List.mem_erase_of_ne e, w6 c]
    · intro c
      show c ∈ yTr y ↔ c < yn y ∧ ypl (yOut (yDeq y k) k 3) c = 2
      rw [hP c, w8 c]
      by_cases e : c = k
      · subst e
        rw [if_pos rfl]
        constructor
        · rintro ⟨-, q⟩; omega
        · rintro ⟨-, q⟩; omega
      · rw [if_neg e]
    · intro c
      show c ∈ gL (yG y) ↔ c < yn y ∧ ypl (yOut (yDeq y k) k 3) c = 1
      rw [hP c, w11 c]
      by_cases e : c = k
      · subst e
        rw [if_pos rfl]
        constructor
        · rintro ⟨-, q⟩; omega
        · rintro ⟨-, q⟩; omega
      · rw [if_neg e]
    · intro c hc
      show ywy (yOut (yDeq y k) k 3) c = 0 ↔ ypl (yOut (yDeq y k) k 3) c ≠ 3
      rw [hP c, hY c]
      by_cases e : c = k
      · rw [if_pos e, if_pos e]; simp
      · rw [if_neg e, if_neg e]; exact w15 c hc
  · refine RS.cong hS rfl (fun _ _ _ => rfl) ?_ (fun _ _ => rfl) rfl
    rw [zC_putOut, zput, zrow_ne (by decide), zput, zrow_ne (by decide), zQ_deq, zrem, zrow_ne (by decide)]
end JU
end
section
/-! conflict -/
section CF
variable {y : yT} {z : zS} {t : mS}
theorem msk : ∀ k, k < 64 → ((1 : Int64) <<< ((nI k).toInt64 &&& 63)).toBitVec = BitVec.twoPow 64 k := by decide +kernel
theorem bit_and (x : Int64) {k : Nat} (hk : k < 64) : (x &&& ((1 : Int64) <<< ((nI k).toInt64 &&& 63))) = 0 ↔ x.toBitVec.getLsbD k = false := by
  rw [← Int64.toBitVec_inj, Int64.toBitVec_and, msk k hk, BitVec.and_twoPow]
  cases x.toBitVec.getLsbD k with
  | false => simp
  | true =>
    simp only [if_true, Bool.true_eq_false, iff_false]
    intro h
    have h1 := congrArg (fun b => b.getLsbD k) h
    simp [BitVec.getLsbD_twoPow, hk] at h1
theorem bit_or (x : Int64) {k i : Nat} (hk : k < 64) (hi : i < 64) : (x ||| ((1 : Int64) <<< ((nI k).toInt64 &&& 63))).toBitVec.getLsbD i = (x.toBitVec.getLsbD i || decide (k = i)) := by
  rw [Int64.toBitVec_or, msk k hk, BitVec.getLsbD_or, BitVec.getLsbD_twoPow]
  simp [hi, hk]
theorem lg_0 (x : Int64) : lg_cmp x 0 = 0 ↔ x = 0 := by
  unfold lg_cmp
  by_cases h1 : x > 0
  · rw [if_pos h1]
    constructor
    · intro h; exact absurd h (by decide)
    · intro h; subst h; exact absurd h1 (by decide)
  · rw [if_neg h1]
    by_cases h2 : x = 0
    · rw [if_pos h2]; simp [h2]
    · rw [if_neg h2]
      constructor
      · intro h; exact absurd h (by decide)
      · intro h; exact absurd h h2
theorem zNum_nI {a : Nat} (h : a < 40) : zNum (nI a) = true := by
  unfold zNum
  have h1 : ¬ nI a < 0 := nI_pos (by omega)
  have h2 : ¬ (40 : Int32) ≤ nI a := by
    rw [show (40 : Int32) = nI 40 from rfl, nI_leI (by decide) (by omega)]
    omega
  simp [h1, h2]
theorem zConf_bit (z : zS) {a b : Nat} (ha : a < 40) (hb : b < 40) : zConf z (nI a) (nI b) = (z.2.2 a).toBitVec.getLsbD b := by
  unfold zConf zBit
  rw [zNum_nI ha, zNum_nI hb, nI_clamp (by omega), Bool.true_and, Bool.true_and]
  have e : (lg_cmp (z.2.2 a &&& ((1 : Int64) <<< ((nI b).toInt64 &&& 63))) 0 = 0) ↔ (z.2.2 a).toBitVec.getLsbD b = false := (lg_0 _).trans (bit_and _ (by omega))
  cases hq : (z.2.2 a).toBitVec.getLsbD b with
  | false =>
    have := e.mpr hq
    simp [this]
  | true =>
    have : ¬ lg_cmp (z.2.2 a &&& ((1 : Int64) <<< ((nI b).toInt64 &&& 63))) 0 = 0 := fun q => by rw [e.mp q] at hq; cases hq
    simp [this]
theorem on_bit (f : Nat → Int64) {a b i j : Nat} (ha : a < 40) (hb : b < 40) (hj : j < 40) : (zC_on f (nI a) (nI b) i).toBitVec.getLsbD j = ((f i).toBitVec.getLsbD j || (decide (i = a) && decide (j = b))) := by
  unfold zC_on vp_updL
  rw [nI_clamp (by omega)]
  by_cases h : i = a
  · subst h
    rw [if_pos rfl, bit_or _ (by omega) (by omega)]
    have : decide (b = j) = decide (j = b) := decide_eq_decide.mpr ⟨Eq.symm, Eq.symm⟩
    simp [this]
  · rw [if_neg h]
    simp [h]
def yCf (y : yT) (a b : Nat) : yT := (y.1, y.2.1, (fun i j => ycf y i j || (decide (i = a) && decide (j = b)) || (decide (i = b) && decide (j = a))), y.2.2.2)
theorem RC.conf (hC : RC y z) {a b : Nat} (ha : a < 40) (hb : b < 40) : RC (yCf y a b) (zC_put z (nI a) (nI b)) := by
  unfold zC_put
  rw [if_pos ⟨zNum_nI ha, zNum_nI hb⟩]
  rw [RC_iff] at hC ⊢
  obtain ⟨q1, q2, q3, q4⟩ := hC
  refine ⟨fun r h1 h2 => (q1 r h1 h2).trans ?_, q2, q3, ?_⟩
  · rcases (show r = 0 ∨ r = 2 ∨ r = 3 ∨ r = 4 ∨ r = 5 ∨ r = 6 ∨ r = 7 ∨ r = 8 ∨ r = 9 ∨ r = 10 ∨ r = 11 by omega) with rfl | rfl | rfl | rfl | rfl | rfl | rfl | rfl | rfl | rfl | rfl <;> rfl
  · intro i j hi hj
    rw [zConf_bit _ hi hj]
    show (zC_on (zC_on z.2.2 (nI a) (nI b)) (nI b) (nI a) i).toBitVec.getLsbD j = _
    rw [on_bit _ hb ha hj, on_bit _ ha hb hj, ← zConf_bit z hi hj, q4 i j hi hj]
    rfl
def mCf (t : mS) (a b : Nat) : mS := marr (marr t 6 (40 * a + b) 1) 6 (40 * b + a) 1
theorem mCf_6 {t : mS} {cf : Nat → Nat → Bool} (hcf : ∀ a b, a < 40 → b < 40 → t.2 6 (40 * a + b) = bI (cf a b)) {a b : Nat} (ha : a < 40) (hb : b < 40) : ∀ i j, i < 40 → j < 40 → (mCf t a b).2 6 (40 * i + j) = bI (cf i j || (decide (i = a) && decide (j = b)) || (decide (i = b) && decide (j = a))) := by
  intro i j hi hj
  unfold mCf
  by_cases h1 : i = b ∧ j = a
  · rw [h1.1, h1.2, marr_eq]; simp; rfl
  · have e1 : ¬ (40 * i + j = 40 * b + a) := by
      intro e
      apply h1
      omega
    rw [marr_k e1]
    by_cases h2 : i = a ∧ j = b
    · rw [h2.1, h2.2, marr_eq]; simp; rfl
    · have e2 : ¬ (40 * i + j = 40 * a + b) := by
        intro e
        apply h2
        omega
      rw [marr_k e2, hcf i j hi hj]
      congr 1
      have g1 : (decide (i = b) && decide (j = a)) = false := by
        cases hq : (decide (i = b) && decide (j = a)) with
        | false => rfl
        | true => simp only [Bool.and_eq_true, decide_eq_true_eq] at hq; exact absurd hq h1
      have g2 : (decide (i = a) && decide (j = b)) = false := by
        cases hq : (decide (i = a) && decide (j = b)) with
        | false => rfl
        | true => simp only [Bool.and_eq_true, decide_eq_true_eq] at hq; exact absurd hq h2
      rw [g1, g2]
      simp
theorem WF.conf (hW : WF y) {a b : Nat} (ha : a < yn y) (hb : b < yn y) : WF (yCf y a b) := by
  obtain ⟨w1, w2, w3, w4, w5, w6, w7, w8, w9, w10, w11, w12, w13, w14, w15⟩ := hW
  refine ⟨w1, w2, w3, w4, w5, w6, w7, w8, w9, w10, w11, w12, ?_, ?_, w15⟩
  · intro i j h
    have h2 : (ycf y i j || (decide (i = a) && decide (j = b)) || (decide (i = b) && decide (j = a))) = true := h
    simp only [Bool.or_eq_true, Bool.and_eq_true, decide_eq_true_eq] at h2
    show i < yn y ∧ j < yn y
    rcases h2 with (h2 | ⟨rfl, rfl⟩) | ⟨rfl, rfl⟩
    · exact w13 i j h2
    · exact ⟨ha, hb⟩
    · exact ⟨hb, ha⟩
  · intro i j
    show (ycf y i j || (decide (i = a) && decide (j = b)) || (decide (i = b) && decide (j = a))) = (ycf y j i || (decide (j = a) && decide (i = b)) || (decide (j = b) && decide (i = a)))
    rw [w14 i j]
    generalize decide (i = a) = p1
    generalize decide (j = b) = p2
    generalize decide (i = b) = p3
    generalize decide (j = a) = p4
    cases ycf y j i <;> cases p1 <;> cases p2 <;> cases p3 <;> cases p4 <;> rfl
theorem RM.conf (hR : RM y t) {a b : Nat} (ha : a < 40) (hb : b < 40) : RM (yCf y a b) (mCf t a b) := by
  obtain ⟨r1, r2, r3, r4, r5, r6, r7⟩ := hR
  exact ⟨r1, r2.cong rfl rfl rfl, r3, mCf_6 r4 ha hb, r5, r6, r7⟩
theorem send_1 : ∀ (n : Nat) (z : zS), (zSend n z).1 = z.1 ∧ (zSend n z).2.1 1 = z.2.1 1 := by
  intro n
  induction n with
  | zero => intro z; exact ⟨rfl, rfl⟩
  | succ n ih =>
    intro z
    rw [zSend]
    have h := ih (zSend1 z n)
    have e : (zSend1 z n).1 = z.1 ∧ (zSend1 z n).2.1 1 = z.2.1 1 := by
      unfold zSend1
      split
      · exact ⟨rfl, rfl⟩
      · refine ⟨rfl, ?_⟩
        rw [zC_putOut, zput, zrow_ne (by decide), zput, zrow_ne (by decide), zrem, zrow_ne (by decide)]
    exact ⟨h.1.trans e.1, h.2.trans e.2⟩
theorem op_send (hI : INV y z t) : INV (ySend y) (zQ_send z) (mClear t (ycf y) (yTr y) (yn y)) := by
  obtain ⟨hW, hC, hR, hS⟩ := hI
  refine ⟨hW.send, RC.send hW hC, RM.send hW hR, ?_⟩
  have h := send_1 (z.2.1 6).length z
  exact RS.cong hS rfl (fun i _ _ => by rw [zQ_send, h.1]) (by rw [zQ_send, h.2]) (fun _ _ => rfl) rfl
theorem op_conf (hI : INV y z t) {a b : Nat} (ha : a < yn y) (hb : b < yn y) : INV (ySend (yCf y a b)) (zQ_send (zC_put z (nI a) (nI b))) (mClear (mCf t a b) (ycf (yCf y a b)) (yTr y) (yn y)) := by
  obtain ⟨hW, hC, hR, hS⟩ := hI
  have hn := hW.1
  have hI2 : INV (yCf y a b) (zC_put z (nI a) (nI b)) (mCf t a b) := by
    refine ⟨hW.conf ha hb, RC.conf hC (by omega) (by omega), RM.conf hR (by omega) (by omega), ?_⟩
    unfold zC_put
    rw [if_pos ⟨zNum_nI (by omega), zNum_nI (by omega)⟩]
    exact hS
  exact op_send hI2
end CF
end
section
/-! GROUPS as lists: where a group's stretch lies, a member goes -/
section GL
variable {t : mS}
theorem gL_cons (g : gT) (G : List gT) : gL (g :: G) = g.1 ++ gL G := by simp [gL]
theorem gF_cons (g : gT) (G : List gT) : gF (g :: G) = gF1 g.1 ++ gF G := by simp [gF]
theorem gNe_tl {g : gT} {G : List gT} (h : gNe (g :: G)) : gNe G := fun q hq => h q (List.mem_cons_of_mem _ hq)
theorem gL_drop : ∀ (G : List gT) (i : Nat), (gL G).drop (gB G i) = gL (G.drop i) := by
  intro G
  induction G with
  | nil => intro i; simp [gL]
  | cons g G ih =>
    intro i
    cases i with
    | zero => rfl
    | succ i =>
      rw [gB_s, gL_cons, List.drop_append, List.drop_eq_nil_of_le (by omega), List.nil_append, show g.1.length + gB G i - g.1.length = gB G i by omega, ih]
      rfl
theorem gF_drop : ∀ (G : List gT) (i : Nat), (gF G).drop (gB G i) = gF (G.drop i) := by
  intro G
  induction G with
  | nil => intro i; simp [gF]
  | cons g G ih =>
    intro i
    cases i with
    | zero => rfl
    | succ i =>
      rw [gB_s, gF_cons, List.drop_append, List.drop_eq_nil_of_le (by rw [gF1_len]; omega), List.nil_append, gF1_len, show g.1.length + gB G i - g.1.length = gB G i by omega, ih]
      rfl
theorem gL_take : ∀ (G : List gT) (i : Nat), (gL G).take (gB G i) = gL (G.take i) := by
  intro G
  induction G with
  | nil => intro i; simp [gL]
  | cons g G ih =>
    intro i
    cases i with
    | zero => rfl
    | succ i =>
      rw [gB_s, gL_cons, List.take_append, List.take_of_length_le (by omega), show g.1.length + gB G i - g.1.length = gB G i by omega, ih]
      simp [gL]
/-- a member goes: its group without it, or no group -/
def gRm (G : List gT) (i j : Nat) : List gT := if ((G.getD i g0).1.eraseIdx j) = [] then G.eraseIdx i else G.set i ((G.getD i g0).1.eraseIdx j, (G.getD i g0).2)
theorem gRm_s (g : gT) (G : List gT) (i j : Nat) : gRm (g :: G) (i + 1) j = g :: gRm G i j := by
  unfold gRm
  simp only [List.getD_cons_succ]
  split <;> simp
theorem gRm_L : ∀ (G : List gT) (i j : Nat), i < G.length → j < (G.getD i g0).1.length → gL (gRm G i j) = (gL G).eraseIdx (gB G i + j) := by
  intro G
  induction G with
  | nil => intro i j h; simp at h
  | cons g G ih =>
    intro i j hi hj
    cases i with
    | zero =>
      simp only [List.getD_cons_zero] at hj
      rw [gB_0, Nat.zero_add, gL_cons, List.eraseIdx_append_of_lt_length hj]
      unfold gRm
      simp only [List.getD_cons_zero]
      split
      · rename_i h; rw [h]; simp
      · simp [gL]
    | succ i =>
      simp only [List.getD_cons_succ] at hj
      rw [gRm_s, gL_cons, ih i j (by simpa using hi) hj, gB_s, gL_cons, Nat.add_assoc, List.eraseIdx_append_of_length_le (by omega), show g.1.length + (gB G i + j) - g.1.length = gB G i + j by omega]
def goB (B : List Bool) (a : Nat) : List Bool := if B.getD a false = true ∧ (a + 1 < B.length ∧ B.getD (a + 1) false = false) then (B.eraseIdx a).set a true else B.eraseIdx a
theorem goB_app (A B : List Bool) (a : Nat) : goB (A ++ B) (A.length + a) = A ++ goB B a := by
  unfold goB
  have e1 : (A ++ B).getD (A.length + a) false = B.getD a false := by
    rw [List.getD_eq_getElem?_getD, List.getElem?_append_right (by omega), Nat.add_sub_cancel_left, ← List.getD_eq_getElem?_getD]
  have e2 : (A ++ B).getD (A.length + a + 1) false = B.getD (a + 1) false := by
    rw [List.getD_eq_getElem?_getD, List.getElem?_append_right (by omega), show A.length + a + 1 - A.length = a + 1 by omega, ← List.getD_eq_getElem?_getD]
  have e3 : (A.length + a + 1 < (A ++ B).length) = (a + 1 < B.length) := by
    rw [List.length_append]; apply propext; omega
  have e4 : (A ++ B).eraseIdx (A.length + a) = A ++ B.eraseIdx a := by
    rw [List.eraseIdx_append_of_length_le (by omega), Nat.add_sub_cancel_left]
  simp only [e1, e2, e3, e4]
  split
  · rw [List.set_append_right _ _ (by omega), Nat.add_sub_cancel_left]
  · rfl
theorem gF_hd {G : List gT} (hn : gNe G) : gF G = [] ∨ (gF G).getD 0 false = true := by
  cases G with
  | nil => exact Or.inl rfl
  | cons g G =>
    right
    have hne : g.1 ≠ [] := hn g List.mem_cons_self
    rw [gF_cons]
    cases h : g.1 with
    | nil => exact absurd h hne
    | cons c r => rfl
theorem gRm_F : ∀ (G : List gT) (i j : Nat), gNe G → i < G.length → j < (G.getD i g0).1.length → gF (gRm G i j) = goB (gF G) (gB G i + j) := by
  intro G
  induction G with
  | nil => intro i j _ h; simp at h
  | cons g G ih =>
    intro i j hn hi hj
    cases i with
    | zero =>
      simp only [List.getD_cons_zero] at hj
      rw [gB_0, Nat.zero_add, gF_cons]
      have hh := gF_hd (gNe_tl hn)
      unfold gRm
      simp only [List.getD_cons_zero, List.eraseIdx_zero, List.tail_cons, List.set_cons_zero]
      obtain ⟨c, r, hr⟩ : ∃ c r, g.1 = c :: r := by
        cases h : g.1 with
        | nil => rw [h] at hj; simp at hj
        | cons c r => exact ⟨c, r, rfl⟩
      rw [hr] at hj ⊢
      cases j with
      | zero =>
        simp only [List.eraseIdx_zero, List.tail_cons]
        cases r with
        | nil =>
          rw [if_pos rfl]
          unfold goB
          rw [if_neg]
          · simp [gF1]
          · rintro ⟨-, h2, h3⟩
            rcases hh with h4 | h4
            · rw [h4] at h2; simp [gF1] at h2
            · have : (gF1 [c] ++ gF G).getD (0 + 1) false = (gF G).getD 0 false := by simp [gF1]
              rw [this, h4] at h3
              cases h3
        | cons c2 r =>
          rw [if_neg (by simp), gF_cons]
          unfold goB
          rw [if_pos]
          · simp [gF1]
          · refine ⟨rfl, ?_, rfl⟩
            simp [gF1]
      | succ j =>
        rw [if_neg (show ¬ (c :: r).eraseIdx (j + 1) = [] by simp), gF_cons]
        unfold goB
        have hjr : j < r.length := by simpa using hj
        rw [if_neg]
        · simp only [List.eraseIdx_cons_succ, gF1, List.cons_append]
          rw [List.eraseIdx_append_of_lt_length (by rw [List.length_map]; exact hjr), map_erI]
        · rintro ⟨h1, -⟩
          simp only [gF1, List.cons_append, List.getD_cons_succ] at h1
          rw [List.getD_eq_getElem?_getD, List.getElem?_append_left (by rw [List.length_map]; exact hjr), List.getElem?_map, List.getElem?_eq_getElem hjr] at h1
          cases h1
    | succ i =>
      simp only [List.getD_cons_succ] at hj
      rw [gRm_s, gF_cons, ih i j (gNe_tl hn) (by simpa using hi) hj, gB_s, gF_cons, ← goB_app, gF1_len, Nat.add_assoc]
theorem nd_inj {l : List Nat} (hn : l.Nodup) {i j : Nat} (hi : i < l.length) (hj : j < l.length) (e : l[i] = l[j]) : i = j := by
  rw [List.nodup_iff_pairwise_ne, List.pairwise_iff_getElem] at hn
  rcases Nat.lt_trichotomy i j with h | h | h
  · exact absurd e (hn i j hi hj h)
  · exact h
  · exact absurd e.symm (hn j i hj hi h)
theorem LaneOk.go {L : List Nat} {B : List Bool} (hL : LaneOk t L B) (hn : L.Nodup) {a : Nat} (ha : a < L.length) : LaneOk (mGo t L B a) (L.eraseIdx a) (goB B a) := by
  obtain ⟨h6, h40, hB, h2⟩ := hL
  have hlen : (L.eraseIdx a).length = L.length - 1 := by rw [List.length_eraseIdx, if_pos ha]
  have hblen : (goB B a).length = L.length - 1 := by
    unfold goB
    split
    · rw [List.length_set, List.length_eraseIdx, if_pos (by omega), hB]
    · rw [List.length_eraseIdx, if_pos (by omega), hB]
  have ndx : ∀ i j, i < L.length → j < L.length → L.getD i 0 = L.getD j 0 → i = j := by
    intro i j hi hj e
    rw [List.getD_eq_getElem?_getD, List.getElem?_eq_getElem hi, List.getD_eq_getElem?_getD, List.getElem?_eq_getElem hj] at e
    exact nd_inj hn hi hj (by simpa using e)
  have m7 : ∀ i, (mGo t L B a).2 7 i = va_cpy (t.2 7) (t.2 7) (a + 1) a (L.length - 1 - a) i := fun i => rfl
  have m9 : (mGo t L B a).2 9 = (mGo1 t L B a).2 9 := rfl
  have cond : (B.getD a false = true ∧ mMore L B a = true) ↔ (B.getD a false = true ∧ (a + 1 < B.length ∧ B.getD (a + 1) false = false)) := by
    unfold mMore
    rw [hB]
    simp
  refine ⟨?_, by omega, by rw [hblen, hlen], ?_⟩
  · show t.1 6 - 1 = _
    rw [h6, hlen, show (1 : Int32) = nI 1 from rfl, pk_sub (by omega)]
  · intro i hi
    rw [hlen] at hi
    have eL : (L.eraseIdx a).getD i 0 = if i < a then L.getD i 0 else L.getD (i + 1) 0 := by
      rw [List.getD_eq_getElem?_getD, List.getElem?_eraseIdx]
      split <;> rw [List.getD_eq_getElem?_getD]
    have eB : (B.eraseIdx a).getD i false = if i < a then B.getD i false else B.getD (i + 1) false := by
      rw [List.getD_eq_getElem?_getD, List.getElem?_eraseIdx]
      split <;> rw [List.getD_eq_getElem?_getD]
    rw [m7, m9, eL]
    by_cases hia : i < a
    · rw [if_pos hia, pk_cpy_out (by omega)]
      obtain ⟨q1, q2, q3⟩ := h2 i (by omega)
      refine ⟨q1, q2, ?_⟩
      unfold mGo1 goB
      by_cases hc : B.getD a false = true ∧ mMore L B a = true
      · rw [if_pos hc, if_pos (cond.mp hc)]
        have hlt := (cond.mp hc).2.1
        rw [marr_k (fun e => by have := ndx i (a + 1) (by omega) (by omega) e; omega), q3]
        rw [List.getD_eq_getElem?_getD (l := (B.eraseIdx a).set a true), List.getElem?_set_ne (by omega), ← List.getD_eq_getElem?_getD, eB, if_pos hia]
      · rw [if_neg hc, if_neg (fun q => hc (cond.mpr q)), q3, eB, if_pos hia]
    · rw [if_neg hia, pk_cpy_in (by omega) (by omega), show a + 1 + (i - a) = i + 1 by omega]
      obtain ⟨q1, q2, q3⟩ := h2 (i + 1) (by omega)
      refine ⟨q1, q2, ?_⟩
      unfold mGo1 goB
      by_cases hc : B.getD a false = true ∧ mMore L B a = true
      · rw [if_pos hc, if_pos (cond.mp hc)]
        by_cases e : i = a
        · subst e
          rw [marr_eq, List.getD_eq_getElem?_getD, List.getElem?_set_self (by rw [List.length_eraseIdx, if_pos (by omega)]; omega)]
          rfl
        · rw [marr_k (fun e2 => by have := ndx (i + 1) (a + 1) (by omega) (by omega) e2; omega), q3]
          rw [List.getD_eq_getElem?_getD (l := (B.eraseIdx a).set a true), List.getElem?_set_ne (fun q => e q.symm), ← List.getD_eq_getElem?_getD, eB, if_neg hia]
      · rw [if_neg hc, if_neg (fun q => hc (cond.mpr q)), q3, eB, if_neg hia]
end GL
end
section
/-! TO BEGIN ANEW, from a group on -/
section AN
variable {y : yT} {z : zS} {t : mS}
theorem rPut_set {xs : List Int32} {m : Nat} {v : Int32} (hm : m < xs.length) (h : xs.length ≤ 40) : rPut xs (nI m) v = xs.set m v := by
  unfold rPut
  rw [rHas_nI (by omega), if_pos (by simpa using hm), nI_clamp (by omega)]
theorem set_take {xs : List Int32} {m : Nat} {v : Int32} (hm : m < xs.length) : (xs.set m v).take (m + 1) = xs.take m ++ [v] := by
  rw [List.take_succ, List.take_set_of_le (Nat.le_refl _), List.getElem?_set_self hm]
  rfl
theorem set_drop {xs : List Int32} {m : Nat} {v : Int32} : (xs.set m v).drop (m + 1) = xs.drop (m + 1) := by
  rw [List.drop_set_of_lt (by omega)]
def nOne (xs : List Int32) : Nat := (xs.filter (fun x => x == 1)).length
theorem zAnew_eff : ∀ (n m : Nat) (z : zS), (z.2.1 10).length = m + n → (z.2.1 11).length = m + n → m + n ≤ 40 →
    (zAnew n m z).2.1 10 = (z.2.1 10).take m ++ List.replicate n 0 ∧ (zAnew n m z).2.1 11 = (z.2.1 11).take m ++ List.replicate n 0 ∧ (∀ r, r ≠ 10 → r ≠ 11 → (zAnew n m z).2.1 r = z.2.1 r) ∧ (zAnew n m z).2.2 = z.2.2 ∧ (∀ i, i ≠ 7 → (zAnew n m z).1 i = z.1 i) ∧ (zAnew n m z).1 7 = z.1 7 + nI (nOne ((z.2.1 10).drop m)) := by
  intro n
  induction n with
  | zero =>
    intro m z h1 h2 _
    refine ⟨?_, ?_, fun _ _ _ => rfl, rfl, fun _ _ => rfl, ?_⟩
    · rw [List.take_of_length_le (by omega)]; simp [zAnew]
    · rw [List.take_of_length_le (by omega)]; simp [zAnew]
    · rw [List.drop_eq_nil_of_le (by omega)]
      show z.1 7 = z.1 7 + 0
      rw [Int32.add_zero]
  | succ n ih =>
    intro m z h1 h2 h3
    have hm10 : m < (z.2.1 10).length := by omega
    have hm11 : m < (z.2.1 11).length := by omega
    have e10 : (zAnew1 z m).2.1 10 = (z.2.1 10).set m 0 := by
      unfold zAnew1
      rw [zput, zrow_ne (by decide), zput, zrow_same]
      have : (if zat z 10 (nI m) = 1 then zset z 7 (z.1 7 + 1) else z).2.1 = z.2.1 := by split <;> rfl
      rw [this, rPut_set hm10 (by omega)]
    have e11 : (zAnew1 z m).2.1 11 = (z.2.1 11).set m 0 := by
      unfold zAnew1
      rw [zput, zrow_same, zput, zrow_ne (by decide)]
      have : (if zat z 10 (nI m) = 1 then zset z 7 (z.1 7 + 1) else z).2.1 = z.2.1 := by split <;> rfl
      rw [this, rPut_set hm11 (by omega)]
    have er : ∀ r, r ≠ 10 → r ≠ 11 → (zAnew1 z m).2.1 r = z.2.1 r := by
      intro r q1 q2
      unfold zAnew1
      rw [zput, zrow_ne q2, zput, zrow_ne q1]
      split <;> rfl
    have ec : (zAnew1 z m).2.2 = z.2.2 := by unfold zAnew1; rw [zput, zput]; show (if _ then _ else _ : zS).2.2 = _; split <;> rfl
    have ei : ∀ i, i ≠ 7 → (zAnew1 z m).1 i = z.1 i := by
      intro i hi
      unfold zAnew1
      show (if _ then _ else _ : zS).1 i = _
      split
      · simp [zset, va_up, hi]
      · rfl
    have hat : zat z 10 (nI m) = (z.2.1 10).getD m (-1) := rAt_nI (by omega)
    have hdr := drop_getD (l := z.2.1 10) (m := m) (x := -1) hm10
    have e7 : (zAnew1 z m).1 7 = z.1 7 + nI (if (z.2.1 10).getD m (-1) = 1 then 1 else 0) := by
      unfold zAnew1
      show (if zat z 10 (nI m) = 1 then zset z 7 (z.1 7 + 1) else z : zS).1 7 = _
      rw [hat]
      split
      · rfl
      · show z.1 7 = z.1 7 + 0
        rw [Int32.add_zero]
    obtain ⟨i1, i2, i3, i4, i5, i6⟩ := ih (m + 1) (zAnew1 z m) (by rw [e10, List.length_set]; omega) (by rw [e11, List.length_set]; omega) (by omega)
    rw [zAnew]
    refine ⟨?_, ?_, fun r q1 q2 => (i3 r q1 q2).trans (er r q1 q2), i4.trans ec, fun i hi => (i5 i hi).trans (ei i hi), ?_⟩
    · rw [i1, e10, set_take hm10, List.append_assoc]; rfl
    · rw [i2, e11, set_take hm11, List.append_assoc]; rfl
    · rw [i6, e7, e10, set_drop, Int32.add_assoc, nI_add, hdr]
      congr 2
      unfold nOne
      rw [List.filter_cons]
      by_cases hq : (z.2.1 10).getD m (-1) = 1
      · rw [if_pos hq, hq]
        simp
        omega
      · rw [if_neg hq]
        have : ((z.2.1 10).getD m (-1) == 1) = false := by simpa using hq
        rw [this]
        simp
def yGs (y : yT) (G : List gT) : yT := (y.1, y.2.1, y.2.2.1, y.2.2.2.1, G)
def gAn (G : List gT) (i : Nat) : List gT := G.take i ++ (G.drop i).map (fun g => (g.1, 0, 0))
def gAsk (G : List gT) (i : Nat) : Nat := ((G.drop i).filter (fun g => decide (g.2.1 = 1))).length
theorem gAn_map {α : Type} (f : List Nat → α) (G : List gT) (i : Nat) : (gAn G i).map (fun g => f g.1) = G.map (fun g => f g.1) := by
  unfold gAn
  conv => rhs; rw [← List.take_append_drop i G]
  rw [List.map_append, List.map_append, List.map_map]
  rfl
theorem gAn_L (G : List gT) (i : Nat) : gL (gAn G i) = gL G := by
  have h := gAn_map id G i
  unfold gL
  rw [List.flatMap_def, List.flatMap_def]
  exact congrArg List.flatten h
theorem gAn_F (G : List gT) (i : Nat) : gF (gAn G i) = gF G := by
  have h := gAn_map gF1 G i
  unfold gF
  rw [List.flatMap_def, List.flatMap_def]
  exact congrArg List.flatten h
theorem gAn_len (G : List gT) (i : Nat) : (gAn G i).length = G.length := by
  have h := congrArg List.length (gAn_map id G i)
  rw [List.length_map, List.length_map] at h
  exact h
theorem gAn_at (G : List gT) (i q : Nat) (hq : q < G.length) : (gAn G i).getD q g0 = if q < i then G.getD q g0 else ((G.getD q g0).1, 0, 0) := by
  unfold gAn
  by_cases h : q < i
  · rw [if_pos h, List.getD_eq_getElem?_getD, List.getElem?_append_left (by rw [List.length_take]; omega), List.getElem?_take, if_pos h, List.getD_eq_getElem?_getD]
  · rw [if_neg h, List.getD_eq_getElem?_getD, List.getElem?_append_right (by rw [List.length_take]; omega), List.getElem?_map, List.length_take, List.getElem?_drop]
    have e : i + (q - min i G.length) = q := by omega
    rw [e, List.getElem?_eq_getElem hq, List.getD_eq_getElem?_getD, List.getElem?_eq_getElem hq]
    rfl
theorem gAn_gB (G : List gT) (i q : Nat) : gB (gAn G i) q = gB G q := by
  unfold gB
  rw [List.map_take, List.map_take, gAn_map List.length G i]
theorem RC.anew (hC : RC y z) (hl : (yG y).length ≤ 40) {i : Nat} (hi : i ≤ (yG y).length) (hs : ∀ g ∈ yG y, g.2.1 ≤ 3) : RC (yGs y (gAn (yG y) i)) (zG_anew z (nI i)) ∧ (zG_anew z (nI i)).1 7 = z.1 7 + nI (gAsk (yG y) i) ∧ (∀ q, q ≠ 7 → (zG_anew z (nI i)).1 q = z.1 q) ∧ (zG_anew z (nI i)).2.1 1 = z.2.1 1 := by
  have l10 : (z.2.1 10).length = (yG y).length := by rw [hC.G10, List.length_map]
  have l11 : (z.2.1 11).length = (yG y).length := by rw [hC.G11, List.length_map]
  have e := zAnew_eff ((z.2.1 10).length - i) i z (by omega) (by omega) (by omega)
  unfold zG_anew
  rw [nI_clamp (by omega)]
  obtain ⟨i1, i2, i3, i4, i5, i6⟩ := e
  refine ⟨?_, ?_, i5, i3 1 (by decide) (by decide)⟩
  · rw [RC_iff] at hC ⊢
    obtain ⟨q1, q2, q3, q4⟩ := hC
    refine ⟨fun r h1 h2 => ?_, by rw [i3 1 (by decide) (by decide)]; exact q2, by rw [i5 6 (by decide)]; exact q3, fun a b ha hb => ?_⟩
    · have hrep : ∀ f : gT → Int32, f = (fun g => nI g.2.1) ∨ f = (fun g => nI g.2.2) → ((yG y).map f).take i ++ List.replicate ((z.2.1 10).length - i) 0 = (gAn (yG y) i).map f := by
        intro f hf
        unfold gAn
        rw [List.map_append, List.map_take, List.map_map]
        congr 1
        rw [l10]
        apply List.ext_getElem?
        intro j
        rw [List.getElem?_replicate, List.getElem?_map, List.getElem?_drop]
        by_cases hj : j < (yG y).length - i
        · rw [if_pos hj, List.getElem?_eq_getElem (by omega)]
          rcases hf with rfl | rfl <;> rfl
        · rw [if_neg hj, List.getElem?_eq_none (by omega)]
          rfl
      rcases (show r = 0 ∨ r = 2 ∨ r = 3 ∨ r = 4 ∨ r = 5 ∨ r = 6 ∨ r = 7 ∨ r = 8 ∨ r = 9 ∨ r = 10 ∨ r = 11 by omega) with rfl | rfl | rfl | rfl | rfl | rfl | rfl | rfl | rfl | rfl | rfl
      · rw [i3 0 (by decide) (by decide)]; exact q1 0 (by decide) (by decide)
      · rw [i3 2 (by decide) (by decide)]; exact q1 2 (by decide) (by decide)
      · rw [i3 3 (by decide) (by decide)]; exact q1 3 (by decide) (by decide)
      · rw [i3 4 (by decide) (by decide)]; exact q1 4 (by decide) (by decide)
      · rw [i3 5 (by decide) (by decide)]; exact q1 5 (by decide) (by decide)
      · rw [i3 6 (by decide) (by decide)]; exact q1 6 (by decide) (by decide)
      · rw [i3 7 (by decide) (by decide)]; exact q1 7 (by decide) (by decide)
      · rw [i3 8 (by decide) (by decide), q1 8 (by decide) (by decide)]
        show (gL (yG y)).map nI = (gL (gAn (yG y) i)).map nI
        rw [gAn_L]
      · rw [i3 9 (by decide) (by decide), q1 9 (by decide) (by decide)]
        exact (gAn_map (fun l => nI l.length) (yG y) i).symm
      · rw [i1, q1 10 (by decide) (by decide)]
        have := hrep (fun g => nI g.2.1) (Or.inl rfl)
        rw [q1 10 (by decide) (by decide)] at this
        exact this
      · rw [i2, q1 11 (by decide) (by decide)]
        exact hrep (fun g => nI g.2.2) (Or.inr rfl)
    · have : zConf (zAnew ((z.2.1 10).length - i) i z) (nI a) (nI b) = zConf z (nI a) (nI b) := by
        unfold zConf
        rw [i4]
      rw [this]
      exact q4 a b ha hb
  · rw [i6, hC.G10]
    congr 2
    unfold nOne gAsk
    rw [← List.map_drop, List.filter_map, List.length_map]
    congr 1
    apply List.filter_congr
    intro g hg
    have := hs g (List.mem_of_mem_drop hg)
    simp only [Function.comp]
    have e : (nI g.2.1 = 1) ↔ g.2.1 = 1 := nI_eq (a := g.2.1) (b := 1) (by omega) (by decide)
    by_cases h : g.2.1 = 1
    · simp [h]; rfl
    · have h2 : ¬ nI g.2.1 = 1 := fun q => h (e.mp q)
      simp [h, h2]
/-- the model's, by pairs -/
def mAnP : List (Nat × Bool) → mS → mS
  | [], t => t
  | q :: ps, t => mAnP ps (mAn1 t q.1 q.2)
theorem mAnew_P {L : List Nat} {B : List Bool} (hB : B.length = L.length) : ∀ (r m : Nat) (t : mS), L.length = m + r → mAnew L B r m t = mAnP ((L.zip B).drop m) t := by
  intro r
  induction r with
  | zero =>
    intro m t h
    rw [List.drop_eq_nil_of_le (by rw [List.length_zip]; omega)]
    rfl
  | succ r ih =>
    intro m t h
    rw [drop_getD (x := (0, false)) (show m < (L.zip B).length by rw [List.length_zip]; omega), mAnew, mAnP, ih (m + 1) _ (by omega)]
    have e : (L.zip B).getD m (0, false) = (L.getD m 0, B.getD m false) := by
      rw [List.getD_eq_getElem?_getD, List.getElem?_eq_getElem (by rw [List.length_zip]; omega), List.getD_eq_getElem?_getD, List.getElem?_eq_getElem (show m < L.length by omega), List.getD_eq_getElem?_getD, List.getElem?_eq_getElem (show m < B.length by omega)]
      simp
    rw [e]
def nPair (s : Nat → Int32) (ps : List (Nat × Bool)) : Nat := (ps.filter (fun q => q.2 && decide (s q.1 = 1))).length
theorem mAnP_eff : ∀ (ps : List (Nat × Bool)) (t : mS), (ps.map (fun q => q.1)).Nodup →
    (∀ a, a ≠ 10 → a ≠ 11 → (mAnP ps t).2 a = t.2 a) ∧ (∀ c, (mAnP ps t).2 10 c = if c ∈ ps.map (fun q => q.1) then 0 else t.2 10 c) ∧ (∀ c, (mAnP ps t).2 11 c = if c ∈ ps.map (fun q => q.1) then 0 else t.2 11 c) ∧ (∀ i, i ≠ 10 → (mAnP ps t).1 i = t.1 i) ∧ (mAnP ps t).1 10 = t.1 10 + nI (nPair (t.2 10) ps) := by
  intro ps
  induction ps with
  | nil =>
    intro t _
    refine ⟨fun _ _ _ => rfl, fun c => ?_, fun c => ?_, fun _ _ => rfl, ?_⟩
    · simp [mAnP]
    · simp [mAnP]
    · show t.1 10 = t.1 10 + 0
      rw [Int32.add_zero]
  | cons q ps ih =>
    intro t hn
    rw [List.map_cons, List.nodup_cons] at hn
    obtain ⟨i1, i2, i3, i4, i5⟩ := ih (mAn1 t q.1 q.2) hn.2
    have a10 : ∀ c, (mAn1 t q.1 q.2).2 10 c = if c = q.1 then 0 else t.2 10 c := by
      intro c
      show (marr (marr (mset t 10 _) 10 q.1 0) 11 q.1 0).2 10 c = _
      rw [marr_o (by decide)]
      by_cases e : c = q.1
      · rw [if_pos e, e, marr_eq]
      · rw [if_neg e, marr_k e]; rfl
    have a11 : ∀ c, (mAn1 t q.1 q.2).2 11 c = if c = q.1 then 0 else t.2 11 c := by
      intro c
      show (marr (marr (mset t 10 _) 10 q.1 0) 11 q.1 0).2 11 c = _
      by_cases e : c = q.1
      · rw [if_pos e, e, marr_eq]
      · rw [if_neg e, marr_k e, marr_o (by decide)]; rfl
    rw [mAnP]
    refine ⟨?_, ?_, ?_, ?_, ?_⟩
    · intro a h1 h2
      rw [i1 a h1 h2]
      show (marr (marr (mset t 10 _) 10 q.1 0) 11 q.1 0).2 a = _
      rw [marr_o h2, marr_o h1]
      rfl
    · intro c
      rw [i2 c, a10 c, List.map_cons]
      by_cases e : c = q.1
      · rw [if_pos e, e]; simp
      · rw [if_neg e]; simp [e]
    · intro c
      rw [i3 c, a11 c, List.map_cons]
      by_cases e : c = q.1
      · rw [if_pos e, e]; simp
      · rw [if_neg e]; simp [e]
    · intro i hi
      rw [i4 i hi]
      show va_up t.1 10 _ i = t.1 i
      simp [va_up, hi]
    · rw [i5]
      have e1 : (mAn1 t q.1 q.2).1 10 = t.1 10 + (if q.2 = true ∧ t.2 10 q.1 = 1 then 1 else 0) := rfl
      have e2 : nPair ((mAn1 t q.1 q.2).2 10) ps = nPair (t.2 10) ps := by
        unfold nPair
        congr 1
        apply List.filter_congr
        intro x hx
        have hne : x.1 ≠ q.1 := fun e => hn.1 (by rw [← e]; exact List.mem_map.mpr ⟨x, hx, rfl⟩)
        rw [a10 x.1, if_neg hne]
      rw [e1, e2, Int32.add_assoc]
      congr 1
      unfold nPair
      rw [List.filter_cons]
      by_cases h : q.2 = true ∧ t.2 10 q.1 = 1
      · rw [if_pos h, h.1, show (1 : Int32) = nI 1 from rfl, nI_add]
        have : decide (t.2 10 q.1 = nI 1) = true := decide_eq_true (show t.2 10 q.1 = nI 1 from h.2)
        rw [this, Bool.true_and, if_pos rfl, List.length_cons]
        congr 1
        omega
      · rw [if_neg h]
        have : (q.2 && decide (t.2 10 q.1 = 1)) = false := by
          cases hq : (q.2 && decide (t.2 10 q.1 = 1)) with
          | false => rfl
          | true => simp only [Bool.and_eq_true, decide_eq_true_eq] at hq; exact absurd hq h
        rw [this, if_neg (by decide), Int32.zero_add]
theorem nPair_gF {s : Nat → Int32} : ∀ (H : List gT), gNe H → (∀ g ∈ H, g.2.1 ≤ 3 ∧ ∀ c ∈ g.1, s c = nI g.2.1) → nPair s ((gL H).zip (gF H)) = (H.filter (fun g => decide (g.2.1 = 1))).length := by
  intro H
  induction H with
  | nil => intro _ _; rfl
  | cons g H ih =>
    intro hn hs
    obtain ⟨c, r, hr⟩ : ∃ c r, g.1 = c :: r := by
      cases h : g.1 with
      | nil => exact absurd h (hn g List.mem_cons_self)
      | cons c r => exact ⟨c, r, rfl⟩
    have h1 := ih (gNe_tl hn) (fun q hq => hs q (List.mem_cons_of_mem _ hq))
    obtain ⟨h3, h4⟩ := hs g List.mem_cons_self
    have hc := h4 c (by rw [hr]; exact List.mem_cons_self)
    unfold nPair at h1 ⊢
    rw [gL_cons, gF_cons, List.zip_append (gF1_len g.1).symm, List.filter_append, List.length_append, h1, List.filter_cons]
    have e2 : (((r.zip (r.map (fun _ => false))).filter (fun q => q.2 && decide (s q.1 = 1)))) = [] := by
      rw [List.filter_eq_nil_iff]
      intro q hq
      have : q.2 = false := by
        have h5 := (List.of_mem_zip hq).2
        obtain ⟨_, -, e⟩ := List.mem_map.mp h5
        exact e.symm
      simp [this]
    have e1 : ((g.1.zip (gF1 g.1)).filter (fun q => q.2 && decide (s q.1 = 1))).length = if g.2.1 = 1 then 1 else 0 := by
      rw [hr]
      simp only [gF1, List.zip_cons_cons, List.filter_cons, Bool.true_and]
      rw [e2, hc]
      have e : (nI g.2.1 = 1) ↔ g.2.1 = 1 := nI_eq (a := g.2.1) (b := 1) (by omega) (by decide)
      by_cases h : g.2.1 = 1
      · have h2 := e.mpr h
        simp [h]
        rfl
      · have h2 : ¬ nI g.2.1 = 1 := fun q => h (e.mp q)
        simp [h, h2]
    rw [e1]
    by_cases h : g.2.1 = 1
    · simp [h]; omega
    · simp [h]
end AN
end
section
/-! A member goes out of its group -/
section TK
variable {y : yT} {z : zS} {t : mS} {p h : ax_H} {d : Nat}
theorem zip_drop {α β : Type} : ∀ (m : Nat) (l : List α) (k : List β), (l.zip k).drop m = (l.drop m).zip (k.drop m) := by
  intro m
  induction m with
  | zero => intro l k; rfl
  | succ m ih =>
    intro l k
    cases l with
    | nil => simp
    | cons a l =>
      cases k with
      | nil => simp
      | cons b k => simpa using ih l k
theorem mAn_eff (hW : WF y) (hR : RM y t) {i : Nat} (hi : i ≤ (yG y).length) :
    (∀ a, a ≠ 10 → a ≠ 11 → (mAn (gL (yG y)) (gF (yG y)) (gB (yG y) i) t).2 a = t.2 a) ∧ (∀ c, (mAn (gL (yG y)) (gF (yG y)) (gB (yG y) i) t).2 10 c = if c ∈ gL ((yG y).drop i) then 0 else t.2 10 c) ∧ (∀ c, (mAn (gL (yG y)) (gF (yG y)) (gB (yG y) i) t).2 11 c = if c ∈ gL ((yG y).drop i) then 0 else t.2 11 c) ∧ (∀ q, q ≠ 10 → (mAn (gL (yG y)) (gF (yG y)) (gB (yG y) i) t).1 q = t.1 q) ∧ (mAn (gL (yG y)) (gF (yG y)) (gB (yG y) i) t).1 10 = t.1 10 + nI (gAsk (yG y) i) := by
  obtain ⟨w1, w2, w3, w4, w5, w6, w7, w8, w9, w10, w11, w12, w13, w14, w15⟩ := id hW
  have hle : gB (yG y) i ≤ (gL (yG y)).length := by rw [gL_len]; exact gB_le hi
  have e0 : ((gL (yG y)).zip (gF (yG y))).drop (gB (yG y) i) = (gL ((yG y).drop i)).zip (gF ((yG y).drop i)) := by
    rw [zip_drop, gL_drop, gF_drop]
  have e1 : ((gL ((yG y).drop i)).zip (gF ((yG y).drop i))).map (fun q => q.1) = gL ((yG y).drop i) := by
    have : (fun q : Nat × Bool => q.1) = Prod.fst := rfl
    rw [this, List.map_fst_zip (by rw [gF_len]; exact Nat.le_refl _)]
  have hnd : (gL ((yG y).drop i)).Nodup := by
    rw [← gL_drop]
    exact w10.sublist (List.drop_sublist _ _)
  have hh := mAnP_eff ((gL ((yG y).drop i)).zip (gF ((yG y).drop i))) t (by rw [e1]; exact hnd)
  have ee : mAn (gL (yG y)) (gF (yG y)) (gB (yG y) i) t = mAnP ((gL ((yG y).drop i)).zip (gF ((yG y).drop i))) t := by
    unfold mAn
    rw [mAnew_P (gF_len _) _ _ t (by omega), e0]
  rw [ee]
  obtain ⟨i1, i2, i3, i4, i5⟩ := hh
  rw [e1] at i2 i3
  refine ⟨i1, i2, i3, i4, ?_⟩
  rw [i5, nPair_gF _ (fun g hg => w9 g (List.mem_of_mem_drop hg))]
  · rfl
  · intro g hg
    have hg2 := List.mem_of_mem_drop hg
    refine ⟨(w12 g hg2).1, fun c hc => ?_⟩
    obtain ⟨q, hq⟩ := List.getElem?_of_mem hg2
    have hql := (List.getElem?_eq_some_iff.mp hq).1
    have e : (yG y).getD q g0 = g := by rw [List.getD_eq_getElem?_getD, hq]; rfl
    have := hR.2.2.2.2.2.2 q hql c (by rw [e]; exact hc)
    rw [e] at this
    exact this.1
theorem mem_gL {G : List gT} {q c : Nat} (hq : q < G.length) (hc : c ∈ (G.getD q g0).1) : c ∈ gL G := by
  unfold gL
  rw [List.mem_flatMap]
  refine ⟨G.getD q g0, ?_, hc⟩
  rw [List.getD_eq_getElem?_getD, List.getElem?_eq_getElem hq]
  exact List.getElem_mem hq
theorem gL_idx {G : List gT} (hn : (gL G).Nodup) {i q c : Nat} (hq : q < G.length) (hc : c ∈ (G.getD q g0).1) : c ∈ gL (G.drop i) ↔ i ≤ q := by
  constructor
  · intro h
    rcases Nat.lt_or_ge q i with hlt | hge
    · exfalso
      have h1 : c ∈ gL (G.take i) := by
        have e : (G.take i).getD q g0 = G.getD q g0 := by
          rw [List.getD_eq_getElem?_getD, List.getElem?_take, if_pos hlt, List.getD_eq_getElem?_getD]
        exact mem_gL (q := q) (by rw [List.length_take]; omega) (by rw [e]; exact hc)
      have e2 : gL G = gL (G.take i) ++ gL (G.drop i) := by
        unfold gL
        rw [← List.flatMap_append, List.take_append_drop]
      rw [e2, List.nodup_append] at hn
      exact hn.2.2 c h1 c h rfl
    · exact hge
  · intro h
    have e : (G.drop i).getD (q - i) g0 = G.getD q g0 := by
      rw [List.getD_eq_getElem?_getD, List.getElem?_drop, show i + (q - i) = q by omega, List.getD_eq_getElem?_getD]
    exact mem_gL (q := q - i) (by rw [List.length_drop]; omega) (by rw [e]; exact hc)
theorem WF.anew (hW : WF y) (i : Nat) : WF (yGs y (gAn (yG y) i)) := by
  obtain ⟨w1, w2, w3, w4, w5, w6, w7, w8, w9, w10, w11, w12, w13, w14, w15⟩ := hW
  refine ⟨w1, w2, w3, w4, w5, w6, w7, w8, ?_, ?_, ?_, ?_, w13, w14, w15⟩
  · intro g hg
    have hg2 : g ∈ (yG y).take i ++ ((yG y).drop i).map (fun g => (g.1, 0, 0)) := hg
    rcases List.mem_append.mp hg2 with h | h
    · exact w9 g (List.mem_of_mem_take h)
    · obtain ⟨q, hq, rfl⟩ := List.mem_map.mp h
      exact w9 q (List.mem_of_mem_drop hq)
  · show (gL (gAn (yG y) i)).Nodup
    rw [gAn_L]; exact w10
  · intro c
    show c ∈ gL (gAn (yG y) i) ↔ _
    rw [gAn_L]; exact w11 c
  · intro g hg
    have hg2 : g ∈ (yG y).take i ++ ((yG y).drop i).map (fun g => (g.1, 0, 0)) := hg
    rcases List.mem_append.mp hg2 with h | h
    · exact w12 g (List.mem_of_mem_take h)
    · obtain ⟨q, hq, rfl⟩ := List.mem_map.mp h
      exact ⟨Nat.zero_le _, Nat.zero_le _⟩
theorem RM.anew (hW : WF y) (hR : RM y t) {i : Nat} (hi : i ≤ (yG y).length) : RM (yGs y (gAn (yG y) i)) (mAn (gL (yG y)) (gF (yG y)) (gB (yG y) i) t) := by
  obtain ⟨e1, e2, e3, e4, e5⟩ := mAn_eff hW hR hi
  have hnd := hW.2.2.2.2.2.2.2.2.2.1
  obtain ⟨⟨r0, r1, r2, r3⟩, rL, rT, rc, r5, r6, r7⟩ := hR
  refine ⟨⟨by rw [e4 3 (by decide)]; exact r0, by rw [e4 4 (by decide)]; exact r1, by rw [e4 5 (by decide)]; exact r2, by rw [e4 7 (by decide)]; exact r3⟩, ?_, ?_, ?_, ?_, ?_, ?_⟩
  · show LaneOk _ (gL (gAn (yG y) i)) (gF (gAn (yG y) i))
    rw [gAn_L, gAn_F]
    exact rL.cong (e4 6 (by decide)) (e1 7 (by decide) (by decide)) (e1 9 (by decide) (by decide))
  · rw [e1 8 (by decide) (by decide)]; exact rT
  · rw [e1 6 (by decide) (by decide)]; exact rc
  · rw [e1 0 (by decide) (by decide), e1 2 (by decide) (by decide), e1 4 (by decide) (by decide), e1 5 (by decide) (by decide), e1 3 (by decide) (by decide)]; exact r5
  · rw [e1 3 (by decide) (by decide), e1 4 (by decide) (by decide), e1 5 (by decide) (by decide)]; exact r6
  · intro q hq c hc
    have hq2 : q < (gAn (yG y) i).length := hq
    rw [gAn_len] at hq2
    have hat := gAn_at (yG y) i q hq2
    have hc2 : c ∈ ((gAn (yG y) i).getD q g0).1 := hc
    show _ = nI ((gAn (yG y) i).getD q g0).2.1 ∧ _ = nI ((gAn (yG y) i).getD q g0).2.2
    rw [hat] at hc2 ⊢
    rw [e2 c, e3 c]
    by_cases hqi : q < i
    · rw [if_pos hqi] at hc2 ⊢
      have : ¬ c ∈ gL ((yG y).drop i) := fun h => by have := (gL_idx hnd hq2 hc2).mp h; omega
      rw [if_neg this, if_neg this]
      exact r7 q hq2 c hc2
    · rw [if_neg hqi] at hc2 ⊢
      have : c ∈ gL ((yG y).drop i) := (gL_idx hnd hq2 hc2).mpr (by omega)
      rw [if_pos this, if_pos this]
      exact ⟨rfl, rfl⟩
theorem op_anew (hI : INV y z t) {i : Nat} (hi : i ≤ (yG y).length) : INV (yGs y (gAn (yG y) i)) (zG_anew z (nI i)) (mAn (gL (yG y)) (gF (yG y)) (gB (yG y) i) t) := by
  obtain ⟨hW, hC, hR, hS⟩ := hI
  obtain ⟨c1, c2, c3, c4⟩ := RC.anew hC hW.gl hi (fun g hg => (hW.2.2.2.2.2.2.2.2.2.2.2.1 g hg).1)
  obtain ⟨e1, e2, e3, e4, e5⟩ := mAn_eff hW hR hi
  refine ⟨hW.anew i, c1, RM.anew hW hR hi, ?_⟩
  unfold RS at hS ⊢
  rw [c3 0 (by decide), c3 1 (by decide), c3 2 (by decide), c3 3 (by decide), c3 4 (by decide), c3 5 (by decide), c2, c4, e4 0 (by decide), e4 1 (by decide), e4 2 (by decide), e4 11 (by decide), e4 8 (by decide), e4 9 (by decide), e5, e1 1 (by decide) (by decide)]
  obtain ⟨s0, s1, s2, s3, s4, s5, s7, s8, s9, s10⟩ := hS
  exact ⟨s0, s1, s2, s3, s4, s5, by rw [s7], s8, s9, s10⟩
/-- the group of a place of the line -/
theorem zGrp_y (hC : RC y z) (hW : WF y) {i k : Nat} (hi : i < (yG y).length) (h1 : gB (yG y) i ≤ k) (h2 : k < gB (yG y) (i + 1)) : ∀ (n m : Nat), (yG y).length = m + n → m ≤ i → zGrp z (nI k) n m (nI (gB (yG y) m)) = nI i := by
  have hl := hW.gl
  have htl := hW.tl
  have hk : k < 40 := by
    have : gB (yG y) (i + 1) ≤ (gL (yG y)).length := by rw [gL_len]; exact gB_le (by omega)
    omega
  intro n
  induction n with
  | zero => intro m h3 h4; omega
  | succ n ih =>
    intro m h3 h4
    have hm : m < (yG y).length := by omega
    have hb : gB (yG y) (m + 1) ≤ 40 := by
      have : gB (yG y) (m + 1) ≤ (gL (yG y)).length := by rw [gL_len]; exact gB_le (by omega)
      omega
    rw [zGrp, (gatN hC hW hm).2.1, nI_add, ← gB_succ hm]
    by_cases e : m = i
    · subst e
      rw [if_neg (nI_ge h2 (by omega))]
    · have : gB (yG y) (m + 1) ≤ gB (yG y) i := gB_le (by omega)
      rw [if_pos (nI_le (by omega) (by omega)), ih (m + 1) (by omega) (by omega)]
theorem gF_at {G : List gT} {i j : Nat} (hi : i < G.length) (hj : j < (G.getD i g0).1.length) : (gF G).getD (gB G i + j) false = decide (j = 0) := by
  induction G generalizing i with
  | nil => simp at hi
  | cons g G ih =>
    cases i with
    | zero =>
      simp only [List.getD_cons_zero] at hj
      rw [gB_0, Nat.zero_add, gF_cons, List.getD_eq_getElem?_getD, List.getElem?_append_left (by rw [gF1_len]; exact hj)]
      cases h : g.1 with
      | nil => rw [h] at hj; simp at hj
      | cons c r =>
        rw [h] at hj
        cases j with
        | zero => rfl
        | succ j =>
          simp only [gF1, List.getElem?_cons_succ, List.getElem?_map]
          rw [List.getElem?_eq_getElem (by simpa using hj)]
          rfl
    | succ i =>
      simp only [List.getD_cons_succ] at hj
      rw [gB_s, gF_cons, List.getD_eq_getElem?_getD, List.getElem?_append_right (by rw [gF1_len]; omega), gF1_len, show g.1.length + gB G i + j - g.1.length = gB G i + j by omega, ← List.getD_eq_getElem?_getD]
      exact ih (by simpa using hi) hj
end TK
end
section
/-! A member goes out of its group: class and model -/
section TO
variable {y : yT} {z : zS} {t : mS} {p h : ax_H} {d : Nat}
theorem RC.gs {z' : zS} {G' : List gT} (hC : RC y z) (h8 : z'.2.1 8 = (gL G').map nI) (h9 : z'.2.1 9 = G'.map (fun g => nI g.1.length)) (h10 : z'.2.1 10 = G'.map (fun g => nI g.2.1)) (h11 : z'.2.1 11 = G'.map (fun g => nI g.2.2)) (hr : ∀ r, r < 8 → z'.2.1 r = z.2.1 r) (h6 : z'.1 6 = z.1 6) (hc : z'.2.2 = z.2.2) : RC (yGs y G') z' := by
  rw [RC_iff] at hC ⊢
  obtain ⟨q1, q2, q3, q4⟩ := hC
  refine ⟨fun r k1 k2 => ?_, by rw [hr 1 (by decide)]; exact q2, by rw [h6]; exact q3, fun a b ha hb => ?_⟩
  · rcases (show r = 0 ∨ r = 2 ∨ r = 3 ∨ r = 4 ∨ r = 5 ∨ r = 6 ∨ r = 7 ∨ r = 8 ∨ r = 9 ∨ r = 10 ∨ r = 11 by omega) with rfl | rfl | rfl | rfl | rfl | rfl | rfl | rfl | rfl | rfl | rfl
    · rw [hr 0 (by decide)]; exact q1 0 (by decide) (by decide)
    · rw [hr 2 (by decide)]; exact q1 2 (by decide) (by decide)
    · rw [hr 3 (by decide)]; exact q1 3 (by decide) (by decide)
    · rw [hr 4 (by decide)]; exact q1 4 (by decide) (by decide)
    · rw [hr 5 (by decide)]; exact q1 5 (by decide) (by decide)
    · rw [hr 6 (by decide)]; exact q1 6 (by decide) (by decide)
    · rw [hr 7 (by decide)]; exact q1 7 (by decide) (by decide)
    · exact h8
    · exact h9
    · exact h10
    · exact h11
  · have : zConf z' (nI a) (nI b) = zConf z (nI a) (nI b) := by
      unfold zConf
      rw [hc]
    rw [this]
    exact q4 a b ha hb
theorem rRem_e {xs : List Int32} {k : Nat} (hk : k < xs.length) (h : xs.length ≤ 40) : rRem xs (nI k) = xs.eraseIdx k := by
  unfold rRem
  rw [rHas_nI (by omega), if_pos (by simpa using hk), nI_clamp (by omega)]
theorem map_set_same {α β : Type} (f : α → β) {l : List α} {i : Nat} {a b : α} (hi : l[i]? = some a) (e : f b = f a) : (l.set i b).map f = l.map f := by
  apply List.ext_getElem?
  intro j
  rw [List.getElem?_map, List.getElem?_map, List.getElem?_set]
  have hl := (List.getElem?_eq_some_iff.mp hi).1
  by_cases h : i = j
  · subst h
    rw [if_pos rfl, if_pos hl, hi]
    exact congrArg some e
  · rw [if_neg h]
theorem RC.take (hC : RC y z) (hW : WF y) {i j v : Nat} (hi : i < (yG y).length) (hj : j < ((yG y).getD i g0).1.length) (hv : ((yG y).getD i g0).1.getD j 0 = v) : RC (yGs y (gRm (gAn (yG y) i) i j)) (zG_take z (nI v)) ∧ (∀ q, q ≠ 7 → (zG_take z (nI v)).1 q = z.1 q) ∧ (zG_take z (nI v)).1 7 = z.1 7 + nI (gAsk (yG y) i) ∧ (zG_take z (nI v)).2.1 1 = z.2.1 1 := by
  obtain ⟨w1, w2, w3, w4, w5, w6, w7, w8, w9, w10, w11, w12, w13, w14, w15⟩ := id hW
  have hl := hW.gl
  have htl := hW.tl
  have hlen := gLen_le hW hi
  obtain ⟨c1, c2, c3, c4⟩ := RC.anew hC hl (Nat.le_of_lt hi) (fun g hg => (w12 g hg).1)
  have hLv : (gL (yG y)).getD (gB (yG y) i + j) 0 = v := by rw [gL_at hi hj]; exact hv
  have hkl : gB (yG y) i + j < (gL (yG y)).length := by omega
  have hvL : v ∈ gL (yG y) := by rw [← hLv]; exact getD_mem hkl
  have hidx : (gL (yG y)).idxOf v = gB (yG y) i + j := by
    have e : (gL (yG y))[gB (yG y) i + j] = v := by
      rw [List.getD_eq_getElem?_getD, List.getElem?_eq_getElem hkl] at hLv
      simpa using hLv
    rw [← e]
    exact List.Nodup.idxOf_getElem w10 _ _
  have hfind : rFind (z.2.1 8) (nI v) = nI (gB (yG y) i + j) := by
    rw [hC.G8, rFind_map (by omega) (fun x hx => by have := ((w11 x).mp hx).1; omega) hvL, hidx]
  have hgrp : zG_grp z (nI (gB (yG y) i + j)) = nI i := by
    have := zGrp_y hC hW hi (show gB (yG y) i ≤ gB (yG y) i + j by omega) (by rw [gB_succ hi]; have : j < ((yG y).getD i ([], 0, 0)).1.length := hj; omega) (yG y).length 0 (by omega) (Nat.zero_le _)
    unfold zG_grp
    rw [hC.G10, List.length_map]
    exact this
  have hne : ¬ rFind (z.2.1 8) (nI v) = -1 := by
    rw [hfind]
    intro e
    have h4 := nI_pos' (show gB (yG y) i + j < 2 ^ 31 by omega)
    rw [e] at h4
    exact absurd h4 (by decide)
  have hA8 : (zG_anew z (nI i)).2.1 8 = (gL (yG y)).map nI := by rw [c1.G8]; show (gL (gAn (yG y) i)).map nI = _; rw [gAn_L]
  have hA9 : (zG_anew z (nI i)).2.1 9 = (gAn (yG y) i).map (fun g => nI g.1.length) := c1.G9
  have hA10 : (zG_anew z (nI i)).2.1 10 = (gAn (yG y) i).map (fun g => nI g.2.1) := c1.G10
  have hA11 : (zG_anew z (nI i)).2.1 11 = (gAn (yG y) i).map (fun g => nI g.2.2) := c1.G11
  have hHl := gAn_len (yG y) i
  have hHi := gAn_at (yG y) i i hi
  rw [if_neg (Nat.lt_irrefl i)] at hHi
  have hHi? : (gAn (yG y) i)[i]? = some ((gAn (yG y) i).getD i g0) := by
    rw [List.getD_eq_getElem?_getD, List.getElem?_eq_getElem (by omega)]; rfl
  have hn1 : nI ((yG y).getD i g0).1.length - 1 = nI (((yG y).getD i g0).1.length - 1) := by
    rw [show (1 : Int32) = nI 1 from rfl, pk_sub (by omega)]
  -- the steps of the class
  have z2_8 : (zrem (zG_anew z (nI i)) 8 (nI (gB (yG y) i + j))).2.1 8 = ((gL (yG y)).eraseIdx (gB (yG y) i + j)).map nI := by
    rw [zrem, zrow_same, hA8, rRem_e (by rw [List.length_map]; exact hkl) (by rw [List.length_map]; omega), map_erI]
  have z2_o : ∀ r, r ≠ 8 → (zrem (zG_anew z (nI i)) 8 (nI (gB (yG y) i + j))).2.1 r = (zG_anew z (nI i)).2.1 r := fun r hr => by rw [zrem, zrow_ne hr]
  have z2_9 : zat (zrem (zG_anew z (nI i)) 8 (nI (gB (yG y) i + j))) 9 (nI i) = nI ((yG y).getD i g0).1.length := by
    rw [zat, z2_o 9 (by decide), hA9, rAt_map g0 (by omega), if_pos (by rw [isC_nI (by omega) (by omega)]; simp; omega), nI_clamp (by omega), hHi]
  generalize hz2 : zrem (zG_anew z (nI i)) 8 (nI (gB (yG y) i + j)) = z2 at z2_8 z2_o z2_9
  have z3_9 : (zput z2 9 (nI i) (nI (((yG y).getD i g0).1.length - 1))).2.1 9 = ((gAn (yG y) i).map (fun g => nI g.1.length)).set i (nI (((yG y).getD i g0).1.length - 1)) := by
    rw [zput, zrow_same, z2_o 9 (by decide), hA9, rPut_set (by rw [List.length_map]; omega) (by rw [List.length_map]; omega)]
  have z3_o : ∀ r, r ≠ 9 → (zput z2 9 (nI i) (nI (((yG y).getD i g0).1.length - 1))).2.1 r = z2.2.1 r := fun r hr => by rw [zput, zrow_ne hr]
  have z3_at : zat (zput z2 9 (nI i) (nI (((yG y).getD i g0).1.length - 1))) 9 (nI i) = nI (((yG y).getD i g0).1.length - 1) := by
    rw [zat, z3_9, rAt_nI (by omega), List.getD_eq_getElem?_getD, List.getElem?_set_self (by rw [List.length_map]; omega)]
    rfl
  have hlen40 : ((yG y).getD i g0).1.length ≤ 40 := by omega
  have z3_i : ∀ q, (zput z2 9 (nI i) (nI (((yG y).getD i g0).1.length - 1))).1 q = (zG_anew z (nI i)).1 q := fun q => by rw [← hz2]; rfl
  have z3_c : (zput z2 9 (nI i) (nI (((yG y).getD i g0).1.length - 1))).2.2 = (zG_anew z (nI i)).2.2 := by rw [← hz2]; rfl
  have heT : zG_take z (nI v) = if nI (((yG y).getD i g0).1.length - 1) = 0 then zG_remG (zput z2 9 (nI i) (nI (((yG y).getD i g0).1.length - 1))) (nI i) else zput z2 9 (nI i) (nI (((yG y).getD i g0).1.length - 1)) := by
    unfold zG_take
    rw [if_neg hne]
    simp only [hfind, hgrp, hz2, z2_9, hn1, z3_at]
  have hcz : (zG_anew z (nI i)).2.2 = z.2.2 := by
    have l10 : (z.2.1 10).length = (yG y).length := by rw [hC.G10, List.length_map]
    have l11 : (z.2.1 11).length = (yG y).length := by rw [hC.G11, List.length_map]
    have e := zAnew_eff ((z.2.1 10).length - i) i z (by omega) (by omega) (by omega)
    unfold zG_anew
    rw [nI_clamp (by omega)]
    exact e.2.2.2.1
  rw [heT]
  generalize hz3 : zput z2 9 (nI i) (nI (((yG y).getD i g0).1.length - 1)) = z3 at *
  have hz3r : ∀ r, r < 8 → z3.2.1 r = (zG_anew z (nI i)).2.1 r := fun r hr => by rw [z3_o r (by omega), z2_o r (by omega)]
  by_cases h1 : ((yG y).getD i g0).1.length = 1
  · have e0 : nI (((yG y).getD i g0).1.length - 1) = 0 := by rw [h1]; rfl
    rw [if_pos e0]
    have hj0 : j = 0 := by omega
    have her : ((yG y).getD i g0).1.eraseIdx j = [] := by
      apply List.eq_nil_of_length_eq_zero
      rw [List.length_eraseIdx, if_pos hj]
      omega
    have hG' : gRm (gAn (yG y) i) i j = (gAn (yG y) i).eraseIdx i := by
      unfold gRm
      rw [hHi]
      simp only
      rw [if_pos her]
    have hl' : ∀ r, r = 9 ∨ r = 10 ∨ r = 11 → (z3.2.1 r).length = (yG y).length := by
      intro r hr
      rcases hr with rfl | rfl | rfl
      · rw [z3_9, List.length_set, List.length_map, hHl]
      · rw [z3_o 10 (by decide), z2_o 10 (by decide), hA10, List.length_map, hHl]
      · rw [z3_o 11 (by decide), z2_o 11 (by decide), hA11, List.length_map, hHl]
    have r9 : (zG_remG z3 (nI i)).2.1 9 = (z3.2.1 9).eraseIdx i := by
      rw [zG_remG, zrem, zrow_ne (by decide), zrem, zrow_ne (by decide), zrem, zrow_same, rRem_e (by rw [hl' 9 (by omega)]; exact hi) (by rw [hl' 9 (by omega)]; exact hl)]
    have r10 : (zG_remG z3 (nI i)).2.1 10 = (z3.2.1 10).eraseIdx i := by
      rw [zG_remG, zrem, zrow_ne (by decide), zrem, zrow_same, zrem, zrow_ne (by decide), rRem_e (by rw [hl' 10 (by omega)]; exact hi) (by rw [hl' 10 (by omega)]; exact hl)]
    have r11 : (zG_remG z3 (nI i)).2.1 11 = (z3.2.1 11).eraseIdx i := by
      rw [zG_remG, zrem, zrow_same, zrem, zrow_ne (by decide), zrem, zrow_ne (by decide), rRem_e (by rw [hl' 11 (by omega)]; exact hi) (by rw [hl' 11 (by omega)]; exact hl)]
    have ro : ∀ r, r ≠ 9 → r ≠ 10 → r ≠ 11 → (zG_remG z3 (nI i)).2.1 r = z3.2.1 r := by
      intro r q1 q2 q3
      rw [zG_remG, zrem, zrow_ne q3, zrem, zrow_ne q2, zrem, zrow_ne q1]
    refine ⟨?_, ?_, ?_, ?_⟩
    · rw [hG']
      refine RC.gs hC ?_ ?_ ?_ ?_ ?_ ?_ ?_
      · rw [ro 8 (by decide) (by decide) (by decide), z3_o 8 (by decide), z2_8, ← hG', gRm_L _ i j (by omega) (by rw [hHi]; exact hj), gAn_L, gAn_gB]
      · rw [r9, z3_9, ← map_erI]
        apply List.ext_getElem?
        intro q
        rw [List.getElem?_eraseIdx, List.getElem?_eraseIdx]
        split
        · rw [List.getElem?_set_ne (by omega)]
        · rw [List.getElem?_set_ne (by omega)]
      · rw [r10, z3_o 10 (by decide), z2_o 10 (by decide), hA10, map_erI]
      · rw [r11, z3_o 11 (by decide), z2_o 11 (by decide), hA11, map_erI]
      · intro r hr
        rw [ro r (by omega) (by omega) (by omega), hz3r r hr]
        rcases (show r = 0 ∨ r = 1 ∨ r = 2 ∨ r = 3 ∨ r = 4 ∨ r = 5 ∨ r = 6 ∨ r = 7 by omega) with rfl | rfl | rfl | rfl | rfl | rfl | rfl | rfl
        · rw [c1.row 0 (by decide) (by decide), hC.row 0 (by decide) (by decide)]; rfl
        · exact c4
        · rw [c1.row 2 (by decide) (by decide), hC.row 2 (by decide) (by decide)]; rfl
        · rw [c1.row 3 (by decide) (by decide), hC.row 3 (by decide) (by decide)]; rfl
        · rw [c1.row 4 (by decide) (by decide), hC.row 4 (by decide) (by decide)]; rfl
        · rw [c1.row 5 (by decide) (by decide), hC.row 5 (by decide) (by decide)]; rfl
        · rw [c1.row 6 (by decide) (by decide), hC.row 6 (by decide) (by decide)]; rfl
        · rw [c1.row 7 (by decide) (by decide), hC.row 7 (by decide) (by decide)]; rfl
      · show z3.1 6 = z.1 6
        rw [z3_i 6, c3 6 (by decide)]
      · show z3.2.2 = z.2.2
        rw [z3_c, hcz]
    · intro q hq
      show z3.1 q = z.1 q
      rw [z3_i q, c3 q hq]
    · show z3.1 7 = _
      rw [z3_i 7, c2]
    · rw [ro 1 (by decide) (by decide) (by decide), hz3r 1 (by decide), c4]
  · have e0 : ¬ nI (((yG y).getD i g0).1.length - 1) = 0 := nI_ne0 (by omega) (by omega)
    rw [if_neg e0]
    have her : ¬ ((yG y).getD i g0).1.eraseIdx j = [] := by
      intro e
      have := congrArg List.length e
      rw [List.length_eraseIdx, if_pos hj, List.length_nil] at this
      omega
    have hG' : gRm (gAn (yG y) i) i j = (gAn (yG y) i).set i (((yG y).getD i g0).1.eraseIdx j, 0, 0) := by
      unfold gRm
      rw [hHi]
      simp only
      rw [if_neg her]
    refine ⟨?_, fun q hq => by rw [z3_i q, c3 q hq], by rw [z3_i 7, c2], by rw [hz3r 1 (by decide), c4]⟩
    rw [hG']
    refine RC.gs hC ?_ ?_ ?_ ?_ ?_ ?_ ?_
    · rw [z3_o 8 (by decide), z2_8, ← hG', gRm_L _ i j (by omega) (by rw [hHi]; exact hj), gAn_L, gAn_gB]
    · rw [z3_9, List.map_set]
      congr 2
      show _ = (((yG y).getD i g0).1.eraseIdx j).length
      rw [List.length_eraseIdx, if_pos hj]
    · rw [z3_o 10 (by decide), z2_o 10 (by decide), hA10, map_set_same _ hHi? (by rw [hHi])]
    · rw [z3_o 11 (by decide), z2_o 11 (by decide), hA11, map_set_same _ hHi? (by rw [hHi])]
    · intro r hr
      rw [hz3r r hr]
      rcases (show r = 0 ∨ r = 1 ∨ r = 2 ∨ r = 3 ∨ r = 4 ∨ r = 5 ∨ r = 6 ∨ r = 7 by omega) with rfl | rfl | rfl | rfl | rfl | rfl | rfl | rfl
      · rw [c1.row 0 (by decide) (by decide), hC.row 0 (by decide) (by decide)]; rfl
      · exact c4
      · rw [c1.row 2 (by decide) (by decide), hC.row 2 (by decide) (by decide)]; rfl
      · rw [c1.row 3 (by decide) (by decide), hC.row 3 (by decide) (by decide)]; rfl
      · rw [c1.row 4 (by decide) (by decide), hC.row 4 (by decide) (by decide)]; rfl
      · rw [c1.row 5 (by decide) (by decide), hC.row 5 (by decide) (by decide)]; rfl
      · rw [c1.row 6 (by decide) (by decide), hC.row 6 (by decide) (by decide)]; rfl
      · rw [c1.row 7 (by decide) (by decide), hC.row 7 (by decide) (by decide)]; rfl
    · rw [z3_i 6, c3 6 (by decide)]
    · rw [z3_c, hcz]
end TO
end
section
/-! A member goes out of its group: the model; both -/
section TL
variable {y : yT} {z : zS} {t : mS} {p h : ax_H} {d : Nat}
def gAll (t : mS) (G : List gT) : Prop := ∀ g ∈ G, ∀ c ∈ g.1, t.2 10 c = nI g.2.1 ∧ t.2 11 c = nI g.2.2
theorem gAll_iff {G : List gT} : (∀ i, i < G.length → ∀ c, c ∈ (G.getD i g0).1 → t.2 10 c = nI (G.getD i g0).2.1 ∧ t.2 11 c = nI (G.getD i g0).2.2) ↔ gAll t G := by
  constructor
  · intro h g hg c hc
    obtain ⟨q, hq⟩ := List.getElem?_of_mem hg
    have hql := (List.getElem?_eq_some_iff.mp hq).1
    have e : G.getD q g0 = g := by rw [List.getD_eq_getElem?_getD, hq]; rfl
    have := h q hql c (by rw [e]; exact hc)
    rw [e] at this
    exact this
  · intro h i hi c hc
    refine h _ ?_ c hc
    rw [List.getD_eq_getElem?_getD, List.getElem?_eq_getElem hi]
    exact List.getElem_mem hi
theorem RM.all (hR : RM y t) : gAll t (yG y) := gAll_iff.mp hR.2.2.2.2.2.2
theorem mGo_1 (t : mS) (L : List Nat) (B : List Bool) (a : Nat) {q : Nat} (hq : q ≠ 6) : (mGo t L B a).1 q = t.1 q := by
  have e : (mGo1 t L B a).1 = t.1 := by unfold mGo1; split <;> rfl
  show va_up (mGo1 t L B a).1 6 (t.1 6 - 1) q = t.1 q
  rw [e]
  simp [va_up, hq]
theorem mGo_2 (t : mS) (L : List Nat) (B : List Bool) (a : Nat) {q : Nat} (h7 : q ≠ 7) (h9 : q ≠ 9) : (mGo t L B a).2 q = t.2 q := by
  have e : (mGo1 t L B a).2 q = t.2 q := by
    unfold mGo1
    split
    · exact marr_o h9
    · rfl
  show va_up (mGo1 t L B a).2 7 _ q = t.2 q
  rw [← e]
  simp [va_up, h7]
theorem gRm_mem {G : List gT} {i j : Nat} (hi : i < G.length) {g : gT} (hg : g ∈ gRm G i j) : ∃ g2 ∈ G, g.2 = g2.2 ∧ ∀ c ∈ g.1, c ∈ g2.1 := by
  unfold gRm at hg
  split at hg
  · exact ⟨g, List.mem_of_mem_eraseIdx hg, rfl, fun c hc => hc⟩
  · rcases List.mem_or_eq_of_mem_set hg with q | q
    · exact ⟨g, q, rfl, fun c hc => hc⟩
    · refine ⟨G.getD i g0, ?_, by rw [q], fun c hc => ?_⟩
      · rw [List.getD_eq_getElem?_getD, List.getElem?_eq_getElem hi]
        exact List.getElem_mem hi
      · rw [q] at hc
        exact List.mem_of_mem_eraseIdx hc
theorem gRm_ne {G : List gT} {i j : Nat} (hn : gNe G) : gNe (gRm G i j) := by
  intro g hg
  unfold gRm at hg
  split at hg
  · exact hn g (List.mem_of_mem_eraseIdx hg)
  · rename_i h
    rcases List.mem_or_eq_of_mem_set hg with q | q
    · exact hn g q
    · rw [q]; exact h
theorem mem_er {l : List Nat} (hn : l.Nodup) {k : Nat} (hk : k < l.length) (c : Nat) : c ∈ l.eraseIdx k ↔ c ∈ l ∧ c ≠ l.getD k 0 := by
  have e : l.getD k 0 = l[k] := by rw [List.getD_eq_getElem?_getD, List.getElem?_eq_getElem hk]; rfl
  rw [List.mem_eraseIdx_iff_getElem, e]
  constructor
  · rintro ⟨i, hi, h3, rfl⟩
    refine ⟨List.getElem_mem hi, fun q => h3 (nd_inj hn hi hk q)⟩
  · rintro ⟨h1, h2⟩
    obtain ⟨i, hi, rfl⟩ := List.getElem_of_mem h1
    exact ⟨i, hi, fun q => h2 (by subst q; rfl), rfl⟩
theorem RM.go (hW : WF y) (hR : RM y t) {i j : Nat} (hi : i < (yG y).length) (hj : j < ((yG y).getD i g0).1.length) : RM (yGs y (gRm (yG y) i j)) (mGo t (gL (yG y)) (gF (yG y)) (gB (yG y) i + j)) := by
  have hall := hR.all
  have hlen := gLen_le hW hi
  obtain ⟨⟨r0, r1, r2, r3⟩, rL, rT, rc, r5, r6, r7⟩ := hR
  have hnd := hW.2.2.2.2.2.2.2.2.2.1
  have hne := hW.2.2.2.2.2.2.2.2.1
  refine ⟨⟨by rw [mGo_1 _ _ _ _ (by decide)]; exact r0, by rw [mGo_1 _ _ _ _ (by decide)]; exact r1, by rw [mGo_1 _ _ _ _ (by decide)]; exact r2, by rw [mGo_1 _ _ _ _ (by decide)]; exact r3⟩, ?_, ?_, ?_, ?_, ?_, ?_⟩
  · show LaneOk _ (gL (gRm (yG y) i j)) (gF (gRm (yG y) i j))
    rw [gRm_L _ i j hi hj, gRm_F _ i j hne hi hj]
    exact rL.go hnd (by omega)
  · rw [mGo_2 _ _ _ _ (by decide) (by decide)]; exact rT
  · rw [mGo_2 _ _ _ _ (by decide) (by decide)]; exact rc
  · rw [mGo_2 _ _ _ _ (by decide) (by decide), mGo_2 _ _ _ _ (by decide) (by decide), mGo_2 _ _ _ _ (by decide) (by decide), mGo_2 _ _ _ _ (by decide) (by decide), mGo_2 _ _ _ _ (by decide) (by decide)]; exact r5
  · rw [mGo_2 _ _ _ _ (by decide) (by decide), mGo_2 _ _ _ _ (by decide) (by decide), mGo_2 _ _ _ _ (by decide) (by decide)]; exact r6
  · refine gAll_iff.mpr ?_
    intro g hg c hc
    rw [mGo_2 _ _ _ _ (by decide) (by decide), mGo_2 _ _ _ _ (by decide) (by decide)]
    obtain ⟨g2, k1, k2, k3⟩ := gRm_mem hi hg
    rw [k2]
    exact hall g2 k1 c (k3 c hc)
/-- a member goes out of its group, by a reason -/
theorem op_take (hI : INV y z t) {i j v r : Nat} (hi : i < (yG y).length) (hj : j < ((yG y).getD i g0).1.length) (hv : ((yG y).getD i g0).1.getD j 0 = v) (hr : r = 1 ∨ r = 3) :
    INV (yOut (yGs y (gRm (gAn (yG y) i) i j)) v r) (zC_putOut (zG_take z (nI v)) (nI v) (nI r)) (marr (marr (mGo (mAn (gL (yG y)) (gF (yG y)) (gB (yG y) i) t) (gL (yG y)) (gF (yG y)) (gB (yG y) i + j)) 2 v (nI 3)) 4 v (nI r)) ∧ v < yn y := by
  obtain ⟨hW, hC, hR, hS⟩ := hI
  obtain ⟨c1, c2, c3, c4⟩ := RC.take hC hW hi hj hv
  obtain ⟨e1, e2, e3, e4, e5⟩ := mAn_eff hW hR (Nat.le_of_lt hi)
  have hR1 := RM.anew hW hR (Nat.le_of_lt hi)
  have hW1 := hW.anew i
  have hlen := gLen_le hW hi
  have hHi := gAn_at (yG y) i i hi
  rw [if_neg (Nat.lt_irrefl i)] at hHi
  have hj1 : j < ((yG (yGs y (gAn (yG y) i))).getD i g0).1.length := by
    show j < ((gAn (yG y) i).getD i g0).1.length
    rw [hHi]; exact hj
  have hi1 : i < (yG (yGs y (gAn (yG y) i))).length := by
    show i < (gAn (yG y) i).length
    rw [gAn_len]; exact hi
  have hR2 := RM.go hW1 hR1 hi1 hj1
  have hR3 : RM (yGs y (gRm (gAn (yG y) i) i j)) (mGo (mAn (gL (yG y)) (gF (yG y)) (gB (yG y) i) t) (gL (yG y)) (gF (yG y)) (gB (yG y) i + j)) := by
    have h2 : RM (yGs y (gRm (gAn (yG y) i) i j)) (mGo (mAn (gL (yG y)) (gF (yG y)) (gB (yG y) i) t) (gL (gAn (yG y) i)) (gF (gAn (yG y) i)) (gB (gAn (yG y) i) i + j)) := hR2
    rw [gAn_L, gAn_F, gAn_gB] at h2
    exact h2
  obtain ⟨w1, w2, w3, w4, w5, w6, w7, w8, w9, w10, w11, w12, w13, w14, w15⟩ := id hW
  have hLv : (gL (yG y)).getD (gB (yG y) i + j) 0 = v := by rw [gL_at hi hj]; exact hv
  have hvL : v ∈ gL (yG y) := by rw [← hLv]; exact getD_mem (by omega)
  have hvn := (w11 v).mp hvL
  have hL' : gL (gRm (gAn (yG y) i) i j) = (gL (yG y)).eraseIdx (gB (yG y) i + j) := by
    rw [gRm_L (gAn (yG y) i) i j hi1 hj1, gAn_L, gAn_gB]
  have hP : ∀ c, ypl (yOut (yGs y (gRm (gAn (yG y) i) i j)) v r) c = if c = v then 3 else ypl y c := fun c => rfl
  have hY : ∀ c, ywy (yOut (yGs y (gRm (gAn (yG y) i) i j)) v r) c = if c = v then r else ywy y c := fun c => rfl
  refine ⟨⟨?_, RC.out c1 w1 hvn.1, RM.wy (RM.pl hR3) hvn.1, ?_⟩, hvn.1⟩
  · refine ⟨w1, ?_, w3, w4, w5, ?_, w7, ?_, gRm_ne hW1.2.2.2.2.2.2.2.2.1, ?_, ?_, ?_, w13, w14, ?_⟩
    · intro c hc
      obtain ⟨a, b, e, f, g⟩ := w2 c hc
      refine ⟨a, ?_, ?_, f, g⟩
      · rw [hP c]; split <;> omega
      · rw [hY c]; split <;> omega
    · intro c
      show c ∈ yQ y ↔ c < yn y ∧ ypl (yOut (yGs y (gRm (gAn (yG y) i) i j)) v r) c = 0
      rw [hP c, w6 c]
      by_cases e : c = v
      · subst e
        rw [if_pos rfl]
        constructor
        · rintro ⟨-, q⟩; omega
        · rintro ⟨-, q⟩; omega
      · rw [if_neg e]
    · intro c
      show c ∈ yTr y ↔ c < yn y ∧ ypl (yOut (yGs y (gRm (gAn (yG y) i) i j)) v r) c = 2
      rw [hP c, w8 c]
      by_cases e : c = v
      · subst e
        rw [if_pos rfl]
        constructor
        · rintro ⟨-, q⟩; omega
        · rintro ⟨-, q⟩; omega
      · rw [if_neg e]
    · show (gL (gRm (gAn (yG y) i) i j)).Nodup
      rw [hL']
      exact w10.sublist (List.eraseIdx_sublist _ _)
    · intro c
      show c ∈ gL (gRm (gAn (yG y) i) i j) ↔ c < yn y ∧ ypl (yOut (yGs y (gRm (gAn (yG y) i) i j)) v r) c = 1
      rw [hP c, hL', mem_er w10 (by omega), hLv, w11 c]
      by_cases e : c = v
      · subst e
        rw [if_pos rfl]
        constructor
        · rintro ⟨-, q⟩; exact absurd rfl q
        · rintro ⟨-, q⟩; cases q
      · rw [if_neg e]
        exact ⟨fun q => q.1, fun q => ⟨q, e⟩⟩
    · intro g hg
      obtain ⟨g2, k1, k2, k3⟩ := gRm_mem hi1 hg
      rw [k2]
      exact hW1.2.2.2.2.2.2.2.2.2.2.2.1 g2 k1
    · intro c hc
      show ywy (yOut (yGs y (gRm (gAn (yG y) i) i j)) v r) c = 0 ↔ ypl (yOut (yGs y (gRm (gAn (yG y) i) i j)) v r) c ≠ 3
      rw [hP c, hY c]
      by_cases e : c = v
      · rw [if_pos e, if_pos e]
        have : r ≠ 0 := by omega
        simp [this]
      · rw [if_neg e, if_neg e]; exact w15 c hc
  · have hS2 : RS y (zG_take z (nI v)) (mGo (mAn (gL (yG y)) (gF (yG y)) (gB (yG y) i) t) (gL (yG y)) (gF (yG y)) (gB (yG y) i + j)) := by
      unfold RS at hS ⊢
      rw [c2 0 (by decide), c2 1 (by decide), c2 2 (by decide), c2 3 (by decide), c2 4 (by decide), c2 5 (by decide), c3, c4, mGo_1 _ _ _ _ (by decide), mGo_1 _ _ _ _ (by decide), mGo_1 _ _ _ _ (by decide), mGo_1 _ _ _ _ (by decide), mGo_1 _ _ _ _ (by decide), mGo_1 _ _ _ _ (by decide), mGo_1 _ _ _ _ (by decide), mGo_2 _ _ _ _ (by decide) (by decide), e4 0 (by decide), e4 1 (by decide), e4 2 (by decide), e4 11 (by decide), e4 8 (by decide), e4 9 (by decide), e5, e1 1 (by decide) (by decide)]
      obtain ⟨s0, s1, s2, s3, s4, s5, s7, s8, s9, s10⟩ := hS
      exact ⟨s0, s1, s2, s3, s4, s5, by rw [s7], s8, s9, s10⟩
    refine RS.cong hS2 rfl (fun _ _ _ => rfl) ?_ (fun _ _ => rfl) rfl
    rw [zC_putOut, zput, zrow_ne (by decide), zput, zrow_ne (by decide)]
end TL
end
section
/-! A group gets a state and a number of failures -/
section GS
variable {y : yT} {z : zS} {t : mS} {p h : ax_H} {d : Nat}
def gSt (G : List gT) (i s f : Nat) : List gT := G.set i ((G.getD i g0).1, s, f)
theorem getD_some {G : List gT} {i : Nat} (hi : i < G.length) : G[i]? = some (G.getD i g0) := by
  rw [List.getD_eq_getElem?_getD, List.getElem?_eq_getElem hi]; rfl
theorem gSt_map {α : Type} (F : List Nat → α) {G : List gT} {i s f : Nat} (hi : i < G.length) : (gSt G i s f).map (fun g => F g.1) = G.map (fun g => F g.1) := map_set_same (fun g : gT => F g.1) (getD_some hi) rfl
theorem gSt_L {G : List gT} {i s f : Nat} (hi : i < G.length) : gL (gSt G i s f) = gL G := by
  have h := gSt_map id (s := s) (f := f) hi
  unfold gL
  rw [List.flatMap_def, List.flatMap_def]
  exact congrArg List.flatten h
theorem gSt_F {G : List gT} {i s f : Nat} (hi : i < G.length) : gF (gSt G i s f) = gF G := by
  have h := gSt_map gF1 (s := s) (f := f) hi
  unfold gF
  rw [List.flatMap_def, List.flatMap_def]
  exact congrArg List.flatten h
theorem gSt_len (G : List gT) (i s f : Nat) : (gSt G i s f).length = G.length := by unfold gSt; rw [List.length_set]
theorem gSt_at {G : List gT} {i s f : Nat} (hi : i < G.length) (q : Nat) : (gSt G i s f).getD q g0 = if q = i then ((G.getD i g0).1, s, f) else G.getD q g0 := by
  unfold gSt
  rw [List.getD_eq_getElem?_getD, List.getElem?_set]
  by_cases e : q = i
  · subst e
    rw [if_pos rfl, if_pos rfl, if_pos hi]
    rfl
  · rw [if_neg e, if_neg (fun q => e q.symm), List.getD_eq_getElem?_getD (i := q)]
theorem WF.gset (hW : WF y) {i s f : Nat} (hi : i < (yG y).length) (hs : s ≤ 3) : WF (yGs y (gSt (yG y) i s f)) := by
  obtain ⟨w1, w2, w3, w4, w5, w6, w7, w8, w9, w10, w11, w12, w13, w14, w15⟩ := hW
  have hm : (yG y).getD i g0 ∈ yG y := List.mem_of_getElem? (getD_some hi)
  refine ⟨w1, w2, w3, w4, w5, w6, w7, w8, ?_, ?_, ?_, ?_, w13, w14, w15⟩
  · intro g hg
    rcases List.mem_or_eq_of_mem_set hg with q | q
    · exact w9 g q
    · rw [q]; exact w9 ((yG y).getD i g0) hm
  · show (gL (gSt (yG y) i s f)).Nodup
    rw [gSt_L hi]; exact w10
  · intro c
    show c ∈ gL (gSt (yG y) i s f) ↔ _
    rw [gSt_L hi]; exact w11 c
  · intro g hg
    rcases List.mem_or_eq_of_mem_set hg with q | q
    · exact w12 g q
    · rw [q]; exact ⟨hs, Nat.zero_le _⟩
theorem RC.gset {z' : zS} (hC : RC y z) {i s f : Nat} (hi : i < (yG y).length) (h10 : z'.2.1 10 = (z.2.1 10).set i (nI s)) (h11 : z'.2.1 11 = (z.2.1 11).set i (nI f)) (hr : ∀ r, r < 10 → z'.2.1 r = z.2.1 r) (h6 : z'.1 6 = z.1 6) (hc : z'.2.2 = z.2.2) : RC (yGs y (gSt (yG y) i s f)) z' := by
  refine RC.gs hC ?_ ?_ ?_ ?_ (fun r q => hr r (by omega)) h6 hc
  · rw [hr 8 (by decide), gSt_L hi]; exact hC.G8
  · rw [hr 9 (by decide), hC.G9]
    exact (gSt_map (fun l => nI l.length) hi).symm
  · rw [h10, hC.G10]; unfold gSt; rw [List.map_set]
  · rw [h11, hC.G11]; unfold gSt; rw [List.map_set]
theorem gMem {G : List gT} (hn : (gL G).Nodup) {i q c : Nat} (hi : i < G.length) (hq : q < G.length) (h1 : c ∈ (G.getD i g0).1) (h2 : c ∈ (G.getD q g0).1) : i = q := by
  have a := (gL_idx hn (i := i) hi h1).mpr (Nat.le_refl _)
  have b := (gL_idx hn (i := i) hq h2).mp a
  have a2 := (gL_idx hn (i := q) hq h2).mpr (Nat.le_refl _)
  have b2 := (gL_idx hn (i := q) hi h1).mp a2
  omega
theorem RM.gset {t' : mS} (hW : WF y) (hR : RM y t) {i s f : Nat} (hi : i < (yG y).length) (h1 : ∀ q, q = 3 ∨ q = 4 ∨ q = 5 ∨ q = 6 ∨ q = 7 → t'.1 q = t.1 q) (h2 : ∀ a, a ≠ 10 → a ≠ 11 → t'.2 a = t.2 a) (h10 : ∀ c, t'.2 10 c = if c ∈ ((yG y).getD i g0).1 then nI s else t.2 10 c) (h11 : ∀ c, t'.2 11 c = if c ∈ ((yG y).getD i g0).1 then nI f else t.2 11 c) : RM (yGs y (gSt (yG y) i s f)) t' := by
  have hnd := hW.2.2.2.2.2.2.2.2.2.1
  obtain ⟨⟨r0, r1, r2, r3⟩, rL, rT, rc, r5, r6, r7⟩ := hR
  refine ⟨⟨by rw [h1 3 (by omega)]; exact r0, by rw [h1 4 (by omega)]; exact r1, by rw [h1 5 (by omega)]; exact r2, by rw [h1 7 (by omega)]; exact r3⟩, ?_, ?_, ?_, ?_, ?_, ?_⟩
  · show LaneOk _ (gL (gSt (yG y) i s f)) (gF (gSt (yG y) i s f))
    rw [gSt_L hi, gSt_F hi]
    exact rL.cong (h1 6 (by omega)) (h2 7 (by decide) (by decide)) (h2 9 (by decide) (by decide))
  · rw [h2 8 (by decide) (by decide)]; exact rT
  · rw [h2 6 (by decide) (by decide)]; exact rc
  · rw [h2 0 (by decide) (by decide), h2 2 (by decide) (by decide), h2 4 (by decide) (by decide), h2 5 (by decide) (by decide), h2 3 (by decide) (by decide)]; exact r5
  · rw [h2 3 (by decide) (by decide), h2 4 (by decide) (by decide), h2 5 (by decide) (by decide)]; exact r6
  · intro q hq c hc
    have hq2 : q < (gSt (yG y) i s f).length := hq
    rw [gSt_len] at hq2
    have hc2 : c ∈ ((gSt (yG y) i s f).getD q g0).1 := hc
    show _ = nI ((gSt (yG y) i s f).getD q g0).2.1 ∧ _ = nI ((gSt (yG y) i s f).getD q g0).2.2
    rw [gSt_at hi] at hc2 ⊢
    rw [h10 c, h11 c]
    by_cases e : q = i
    · rw [if_pos e] at hc2 ⊢
      rw [if_pos hc2, if_pos hc2]
      exact ⟨rfl, rfl⟩
    · rw [if_neg e] at hc2 ⊢
      have : ¬ c ∈ ((yG y).getD i g0).1 := fun h => e (gMem hnd hq2 hi hc2 h)
      rw [if_neg this, if_neg this]
      exact r7 q hq2 c hc2
theorem mSetL_eff {L : List Nat} {a : Nat} {v : Int32} : ∀ (r m : Nat) (t : mS), m + r ≤ L.length → (mSetL L a v r m t).1 = t.1 ∧ (∀ b, b ≠ a → (mSetL L a v r m t).2 b = t.2 b) ∧ ∀ c, (mSetL L a v r m t).2 a c = if c ∈ (L.drop m).take r then v else t.2 a c := by
  intro r
  induction r with
  | zero => intro m t h; exact ⟨rfl, fun _ _ => rfl, fun c => by simp [mSetL]⟩
  | succ r ih =>
    intro m t h
    rw [mSetL]
    obtain ⟨i1, i2, i3⟩ := ih (m + 1) (marr t a (L.getD m 0) v) (by omega)
    refine ⟨i1, fun b hb => by rw [i2 b hb, marr_o hb], fun c => ?_⟩
    have hml : m < L.length := by omega
    have e : (L.drop m).take (r + 1) = L.getD m 0 :: (L.drop (m + 1)).take r := by
      rw [List.drop_eq_getElem_cons hml, List.take_succ_cons, List.getD_eq_getElem?_getD, List.getElem?_eq_getElem hml]
      rfl
    rw [i3 c, e]
    by_cases h1 : c ∈ (L.drop (m + 1)).take r
    · rw [if_pos h1, if_pos (List.mem_cons_of_mem _ h1)]
    · rw [if_neg h1]
      by_cases h2 : c = L.getD m 0
      · subst h2
        rw [marr_eq, if_pos List.mem_cons_self]
      · rw [marr_k h2, if_neg (fun q => by rcases List.mem_cons.mp q with q | q; exact h2 q; exact h1 q)]
theorem gL_seg {G : List gT} {i : Nat} (hi : i < G.length) : ((gL G).drop (gB G i)).take (gB G (i + 1) - gB G i) = (G.getD i g0).1 := by
  rw [gL_drop, List.drop_eq_getElem_cons hi, gL_cons, gB_succ hi]
  have e : G.getD i g0 = G[i] := by rw [List.getD_eq_getElem?_getD, List.getElem?_eq_getElem hi]; rfl
  rw [e, Nat.add_sub_cancel_left, List.take_left]
/-- setState -/
def mSet (y : yT) (a i : Nat) (v : Int32) (t : mS) : mS := mSetL (gL (yG y)) a v (gB (yG y) (i + 1) - gB (yG y) i) (gB (yG y) i) t
theorem mSet_eff (hW : WF y) {i : Nat} (hi : i < (yG y).length) (a : Nat) (v : Int32) (t : mS) : (mSet y a i v t).1 = t.1 ∧ (∀ b, b ≠ a → (mSet y a i v t).2 b = t.2 b) ∧ ∀ c, (mSet y a i v t).2 a c = if c ∈ ((yG y).getD i g0).1 then v else t.2 a c := by
  have h1 : gB (yG y) i ≤ gB (yG y) (i + 1) := gB_le (by omega)
  have h2 : gB (yG y) (i + 1) ≤ (gL (yG y)).length := by rw [gL_len]; exact gB_le (by omega)
  have := mSetL_eff (L := gL (yG y)) (a := a) (v := v) (gB (yG y) (i + 1) - gB (yG y) i) (gB (yG y) i) t (by omega)
  rw [gL_seg hi] at this
  exact this
theorem yM_setState (hR : RM y t) (hW : WF y) (hm : isM p t h) {i : Nat} (hi : i < (yG y).length) (v : Int32) : AM (d + 1) kM_setState 0 0 none [.ref 28, .int (nI i), .int v] h (fun u h' => u = none ∧ isM p (mSet y 10 i v t) h') := by
  have hg := hW.gl
  have hne := hW.2.2.2.2.2.2.2.2.1
  have := sM_setState (d := d) hR.2.1 hm (nI i) v
  rw [nI_1, mS0_gF hne (by omega) (by omega), mS0_gF hne (by omega) (by omega)] at this
  exact this
-- the answer
def ansF (f : Nat) (q : Int32) : Nat := if q = 0 then f + 1 else f
def ansS (f : Nat) (a q : Int32) : Nat := if q = 0 then (if a ≤ nI (ansF f q) then 2 else 1) else 3
def mAns (y : yT) (i : Nat) (q : Int32) (t : mS) : mS := mSet y 10 i (nI (ansS ((yG y).getD i g0).2.2 (t.1 2) q)) (mSet y 11 i (nI (ansF ((yG y).getD i g0).2.2 q)) (mset t 8 (t.1 8 + 1)))
theorem zput_set {z : zS} {r i : Nat} {v : Int32} (h1 : i < (z.2.1 r).length) (h2 : (z.2.1 r).length ≤ 40) : (zput z r (nI i) v).2.1 r = (z.2.1 r).set i v := by
  rw [zput, zrow_same, rPut_set h1 h2]
theorem zat_set {z : zS} {r i : Nat} {v : Int32} (h1 : i < (z.2.1 r).length) (h2 : (z.2.1 r).length ≤ 40) : zat (zput z r (nI i) v) r (nI i) = v := by
  rw [zat, zput_set h1 h2, rAt_nI (by omega), List.getD_eq_getElem?_getD, List.getElem?_set_self h1]
  rfl
theorem set_self {xs : List Int32} {i : Nat} {v : Int32} (h : xs.getD i (-1) = v) : xs.set i v = xs := by
  apply List.ext_getElem?
  intro j
  rw [List.getElem?_set]
  by_cases e : i = j
  · subst e
    rw [if_pos rfl]
    by_cases hl : i < xs.length
    · rw [if_pos hl, ← h, List.getD_eq_getElem?_getD, List.getElem?_eq_getElem hl]
      rfl
    · rw [if_neg hl, List.getElem?_eq_none (by omega)]
  · rw [if_neg e]
theorem op_answer (hI : INV y z t) {i : Nat} (hi : i < (yG y).length) (h1 : ((yG y).getD i g0).2.1 = 1) (q : Int32) :
    (zQ_answer z (nI i) q).1 = nI (ansS ((yG y).getD i g0).2.2 (t.1 2) q) ∧ INV (yGs y (gSt (yG y) i (ansS ((yG y).getD i g0).2.2 (t.1 2) q) (ansF ((yG y).getD i g0).2.2 q))) (zQ_answer z (nI i) q).2 (mAns y i q t) := by
  obtain ⟨hW, hC, hR, hS⟩ := hI
  have hl := hW.gl
  obtain ⟨a10, a9, a11⟩ := gatN hC hW hi
  have l10 : (z.2.1 10).length = (yG y).length := by rw [hC.G10, List.length_map]
  have l11 : (z.2.1 11).length = (yG y).length := by rw [hC.G11, List.length_map]
  obtain ⟨m1, m2, m3⟩ := mSet_eff hW hi 11 (nI (ansF ((yG y).getD i g0).2.2 q)) (mset t 8 (t.1 8 + 1))
  obtain ⟨k1, k2, k3⟩ := mSet_eff hW hi 10 (nI (ansS ((yG y).getD i g0).2.2 (t.1 2) q)) (mSet y 11 i (nI (ansF ((yG y).getD i g0).2.2 q)) (mset t 8 (t.1 8 + 1)))
  have hs3 : ansS ((yG y).getD i g0).2.2 (t.1 2) q ≤ 3 := by
    unfold ansS
    split
    · split <;> omega
    · omega
  have T1 : ∀ b, (mAns y i q t).1 b = if b = 8 then t.1 8 + 1 else t.1 b := by
    intro b
    show (mSet y 10 i _ (mSet y 11 i _ (mset t 8 (t.1 8 + 1)))).1 b = _
    rw [k1, m1]
    rfl
  have T2 : ∀ a, a ≠ 10 → a ≠ 11 → (mAns y i q t).2 a = t.2 a := by
    intro a h10 h11
    show (mSet y 10 i _ (mSet y 11 i _ (mset t 8 (t.1 8 + 1)))).2 a = _
    rw [k2 a h10, m2 a h11]
    rfl
  have hRM : RM (yGs y (gSt (yG y) i (ansS ((yG y).getD i g0).2.2 (t.1 2) q) (ansF ((yG y).getD i g0).2.2 q))) (mAns y i q t) := by
    refine RM.gset hW hR hi ?_ T2 ?_ ?_
    · intro b hb
      rw [T1 b, if_neg (by omega)]
    · intro c
      show (mSet y 10 i _ (mSet y 11 i _ (mset t 8 (t.1 8 + 1)))).2 10 c = _
      rw [k3 c, m2 10 (by decide)]
      rfl
    · intro c
      show (mSet y 10 i _ (mSet y 11 i _ (mset t 8 (t.1 8 + 1)))).2 11 c = _
      rw [k2 11 (by decide), m3 c]
      rfl
  have hz2 : z.1 2 = t.1 2 := hS.2.2.1
  have g11 : (z.2.1 11).getD i (-1) = nI ((yG y).getD i g0).2.2 := by rw [← a11, zat, rAt_nI (by omega)]
  have g10 : (z.2.1 10).getD i (-1) = nI 1 := by rw [← h1, ← a10, zat, rAt_nI (by omega)]
  -- the class
  have key : (zQ_answer z (nI i) q).1 = nI (ansS ((yG y).getD i g0).2.2 (t.1 2) q) ∧ (zQ_answer z (nI i) q).2.2.1 10 = (z.2.1 10).set i (nI (ansS ((yG y).getD i g0).2.2 (t.1 2) q)) ∧ (zQ_answer z (nI i) q).2.2.1 11 = (z.2.1 11).set i (nI (ansF ((yG y).getD i g0).2.2 q)) ∧ (∀ r, r < 10 → (zQ_answer z (nI i) q).2.2.1 r = z.2.1 r) ∧ (∀ b, (zQ_answer z (nI i) q).2.1 b = if b = 4 then z.1 4 + 1 else z.1 b) ∧ (zQ_answer z (nI i) q).2.2.2 = z.2.2 := by
    unfold zQ_answer ansS ansF
    rw [a10, h1, if_pos (show nI 1 = 1 from rfl)]
    simp only
    generalize hz1 : zset z 4 (z.1 4 + 1) = z1
    have e10 : z1.2.1 10 = z.2.1 10 := by rw [← hz1]; rfl
    have e11 : z1.2.1 11 = z.2.1 11 := by rw [← hz1]; rfl
    have er : z1.2.1 = z.2.1 := by rw [← hz1]; rfl
    have ec : z1.2.2 = z.2.2 := by rw [← hz1]; rfl
    have e2 : z1.1 2 = t.1 2 := by rw [← hz2, ← hz1]; rfl
    have e1 : ∀ b, z1.1 b = if b = 4 then z.1 4 + 1 else z.1 b := by intro b; rw [← hz1]; rfl
    have ea11 : zat z1 11 (nI i) = nI ((yG y).getD i g0).2.2 := by rw [zat, er]; exact a11
    by_cases hq : q = 0
    · simp only [if_pos hq]
      unfold zG_addF
      rw [ea11, show nI ((yG y).getD i g0).2.2 + 1 = nI (((yG y).getD i g0).2.2 + 1) from nI_1 _, zat_set (by rw [e11]; omega) (by rw [e11]; omega), e2]
      have b11 : (zput z1 11 (nI i) (nI (((yG y).getD i g0).2.2 + 1))).2.1 11 = (z.2.1 11).set i (nI (((yG y).getD i g0).2.2 + 1)) := by rw [zput_set (by rw [e11]; omega) (by rw [e11]; omega), e11]
      have b10 : (zput z1 11 (nI i) (nI (((yG y).getD i g0).2.2 + 1))).2.1 10 = z.2.1 10 := by rw [zput, zrow_ne (by decide), e10]
      by_cases hc : nI (((yG y).getD i g0).2.2 + 1) < t.1 2
      · rw [if_pos hc, if_neg (Int32.not_le.mpr hc)]
        refine ⟨?_, ?_, b11, ?_, ?_, ec⟩
        · rw [zat, b10, rAt_nI (by omega)]; exact g10
        · rw [b10, set_self g10]
        · intro r hr; rw [zput, zrow_ne (by omega), er]
        · intro b; rw [← e1 b]; rfl
      · rw [if_neg hc, if_pos (Int32.not_lt.mp hc)]
        refine ⟨?_, ?_, ?_, ?_, ?_, ec⟩
        · rw [zat_set (by rw [b10]; omega) (by rw [b10]; omega)]; rfl
        · rw [zput_set (by rw [b10]; omega) (by rw [b10]; omega), b10]; rfl
        · rw [zput, zrow_ne (by decide), b11]
        · intro r hr; rw [zput, zrow_ne (by omega), zput, zrow_ne (by omega), er]
        · intro b; rw [← e1 b]; rfl
    · simp only [if_neg hq]
      refine ⟨?_, ?_, ?_, ?_, ?_, ec⟩
      · rw [zat_set (by rw [e10]; omega) (by rw [e10]; omega)]; rfl
      · rw [zput_set (by rw [e10]; omega) (by rw [e10]; omega), e10]; rfl
      · rw [zput, zrow_ne (by decide), e11, set_self g11]
      · intro r hr; rw [zput, zrow_ne (by omega), er]
      · intro b; rw [← e1 b]; rfl
  obtain ⟨q1, q2, q3, q4, q5, q6⟩ := key
  refine ⟨q1, hW.gset hi hs3, RC.gset hC hi q2 q3 q4 (by rw [q5 6]; rfl) q6, hRM, ?_⟩
  unfold RS at hS ⊢
  rw [q5 0, q5 1, q5 2, q5 3, q5 4, q5 5, q5 7, q4 1 (by decide), T1 0, T1 1, T1 2, T1 11, T1 8, T1 9, T1 10, T2 1 (by decide) (by decide)]
  obtain ⟨s0, s1, s2, s3, s4, s5, s7, s8, s9, s10⟩ := hS
  exact ⟨s0, s1, s2, s3, by rw [if_pos rfl, if_pos rfl, s4], s5, s7, s8, s9, s10⟩
end GS
end
section
/-! The model's answer; asking -/
section AK
variable {y : yT} {z : zS} {t : mS} {p h : ax_H} {d : Nat}
theorem RM.sc (hR : RM y t) {q : Nat} (hq : q = 8 ∨ q = 9 ∨ q = 10) (v : Int32) : RM y (mset t q v) := by
  obtain ⟨⟨r0, r1, r2, r3⟩, rL, r⟩ := hR
  rcases hq with rfl | rfl | rfl
  · exact ⟨⟨r0, r1, r2, r3⟩, rL.cong rfl rfl rfl, r⟩
  · exact ⟨⟨r0, r1, r2, r3⟩, rL.cong rfl rfl rfl, r⟩
  · exact ⟨⟨r0, r1, r2, r3⟩, rL.cong rfl rfl rfl, r⟩
theorem yM_startOf1 (hR : RM y t) (hW : WF y) (hm : isM p t h) {g : Nat} (hg : g < (yG y).length) : AM d kM_startOf 0 0 none [.ref 28, .int (nI g + 1)] h (fun v h' => v = some (.int (nI (gB (yG y) (g + 1)))) ∧ isM p t h') := by
  rw [nI_1]
  exact yM_startOf hR hW hm hg
theorem sM_setG (hL : LaneOk t (gL (yG y)) (gF (yG y))) (hW : WF y) (hm : isM p t h) {i : Nat} (hi : i < (yG y).length) (v : Int32) : AM (d + 1) kM_setState 0 0 none [.ref 28, .int (nI i), .int v] h (fun u h' => u = none ∧ isM p (mSet y 10 i v t) h') := by
  have hg := hW.gl
  have hne := hW.2.2.2.2.2.2.2.2.1
  have := sM_setState (d := d) hL hm (nI i) v
  rw [nI_1, mS0_gF hne (by omega) (by omega), mS0_gF hne (by omega) (by omega)] at this
  exact this
theorem yM_answer_l (hW : WF y) {i : Nat} (hi : i < (yG y).length) (fv its q : Int32) {e : Nat} (he : e ≤ (gL (yG y)).length) : ∀ (r m : Nat) (t : mS) (h : ax_H), LaneOk t (gL (yG y)) (gF (yG y)) → isM p t h → e = m + r →
    AX (d + 2) kM_answer 0 0 none 99 [(6, .int (nI m)), (5, .int (nI e)), (4, .int its), (3, .int fv), (0, .ref 28), (1, .int (nI i)), (2, .int q)] [] h 0 0 (ax_ret kM_answer 0 0 (fun u h' => u = some (.int its) ∧ isM p (mSet y 10 i its (mSetL (gL (yG y)) 11 fv r m t)) h')) := by
  intro r
  induction r with
  | zero =>
    intro m t h hL hm hb
    have hLc := hL
    obtain ⟨h6, hL4, hB, hL2⟩ := hL
    refine AX.iload rfl rfl ?_
    refine AX.iload rfl rfl ?_
    refine AX.icmp_ge rfl (fun c1 => ?_) (fun c1 => ?_)
    · refine AX.aload_n rfl rfl ?_
      refine AX.iload_n rfl rfl ?_
      refine AX.iload rfl rfl ?_
      refine AX.cVV rfl rfl rfl (M0 hm) (sM_setG hLc hW hm hi _) (fun h hm => ?_)
      refine AX.iload rfl rfl ?_
      exact AX.ireturn rfl rfl ⟨rfl, hm⟩ (Nat.le_refl _) (Nat.le_refl _)
    · exact absurd (nI_le (by omega) (by omega)) c1
  | succ r ih =>
    intro m t h hL hm hb
    have hLc := hL
    obtain ⟨h6, hL4, hB, hL2⟩ := hL
    have h2 := hL2 m (by omega)
    refine AX.iload rfl rfl ?_
    refine AX.iload rfl rfl ?_
    refine AX.icmp_ge rfl (fun c1 => ?_) (fun c1 => ?_)
    · exact absurd c1 (nI_ge (by omega) (by omega))
    · refine AX.aload_n rfl rfl ?_
      refine AX.getf rfl (M0 hm) rfl ?_
      refine AX.aload_n rfl rfl ?_
      refine AX.getf rfl (M0 hm) rfl ?_
      refine AX.iload rfl rfl ?_
      refine AX.ialdX rfl (MA hm 7 (by decide) (by decide) (by decide)) (by decide) (⟨m, by omega, rfl, h2.1⟩) ?_
      refine AX.iload_n rfl rfl ?_
      refine AX.iastX ((gL (yG y)).getD m 0) rfl (MA hm 11 (by decide) (by decide) (by decide)) (by decide) (h2.2.1) (rfl) ?_
      refine AX.gen (G := isM p _) (MW hm 11 _ _ (by decide) (by decide) (by decide)) (fun h hm => ?_)
      refine AX.iincV (dn := 1) rfl rfl (by decide) (by decide) ?_
      refine AX.goto rfl ?_
      rw [nI_1, mSetL]
      exact ih (m + 1) _ h (hLc.cong rfl rfl rfl) hm (by omega)
theorem yM_answer1 (hR : RM y t) (hW : WF y) (hm : isM p t h) {i : Nat} (hi : i < (yG y).length) (h1 : ((yG y).getD i g0).2.1 = 1) (q : Int32) : AM (d + 2) kM_answer 0 0 none [.ref 28, .int (nI i), .int q] h (fun v h' => v = some (.int (nI (ansS ((yG y).getD i g0).2.2 (t.1 2) q))) ∧ isM p (mAns y i q t) h') := by
  have hcode := hR.1.1
  have hl := hW.gl
  have hR8 := hR.sc (q := 8) (Or.inl rfl) (t.1 8 + 1)
  have h3 := hR8.lane hW hi
  have hg : yIsG y (nI i) = true := by unfold yIsG; rw [isC_nI hl (by omega)]; simpa using hi
  have hs : nI ((yG y).getD i g0).2.1 = 1 := by rw [h1]; rfl
  have fin : ∀ (fv its : Int32) (h : ax_H), isM p (mset t 8 (t.1 8 + 1)) h → fv = nI (ansF ((yG y).getD i g0).2.2 q) → its = nI (ansS ((yG y).getD i g0).2.2 (t.1 2) q) → AX (d + 2) kM_answer 0 0 none 99 [(6, .int (nI (gB (yG y) i))), (5, .int (nI (gB (yG y) (i + 1)))), (4, .int its), (3, .int fv), (0, .ref 28), (1, .int (nI i)), (2, .int q)] [] h 0 0 (ax_ret kM_answer 0 0 (fun v h' => v = some (.int (nI (ansS ((yG y).getD i g0).2.2 (t.1 2) q))) ∧ isM p (mAns y i q t) h')) := by
    intro fv its h hm e1 e2
    have g1 : gB (yG y) i ≤ gB (yG y) (i + 1) := gB_le (by omega)
    have g2 : gB (yG y) (i + 1) ≤ (gL (yG y)).length := by rw [gL_len]; exact gB_le (by omega)
    rw [← e2]
    have := yM_answer_l (p := p) (d := d) hW hi fv its q g2 (gB (yG y) (i + 1) - gB (yG y) i) (gB (yG y) i) _ h hR8.2.1 hm (by omega)
    unfold mAns
    rw [← e2, ← e1]
    exact this
  by_cases hq : q = 0
  · skip
    refine AX.aload_n rfl rfl ?_
    refine AX.iconstV (v := 0) rfl (by decide) ?_
    refine AX.putf rfl (M0 hm) (Nat.le_of_ble_eq_true rfl) rfl ?_
    refine AX.gen (G := isM p _) (MS hm 3 _ (by decide) rfl) (fun h hm => ?_)
    rw [mset_same hcode] at hm
    refine AX.aload_n rfl rfl ?_
    refine AX.iload_n rfl rfl ?_
    refine AX.cVI rfl rfl rfl (M0 hm) (yM_isGroup hR hW hm _) (fun h hm => ?_)
    refine AX.if_eqB rfl (fun c => absurd (c.symm.trans hg) (by decide)) (fun _ => ?_)
    refine AX.aload_n rfl rfl ?_
    refine AX.iload_n rfl rfl ?_
    refine AX.cVI rfl rfl rfl (M0 hm) (yM_stateOf hR hW hm hi) (fun h hm => ?_)
    refine AX.iconstV (v := 1) rfl (by decide) ?_
    refine AX.icmp_eq rfl (fun _ => ?_) (fun c => absurd hs c)
    refine AX.aload_n rfl rfl ?_
    refine AX.dup rfl rfl ?_
    refine AX.getf rfl (M0 hm) rfl ?_
    refine AX.iconstV (v := 1) rfl (by decide) ?_
    refine AX.iadd rfl ?_
    refine AX.putf rfl (M0 hm) (Nat.le_of_ble_eq_true rfl) rfl ?_
    refine AX.gen (G := isM p _) (MS hm 8 _ (by decide) rfl) (fun h hm => ?_)
    refine AX.aload_n rfl rfl ?_
    refine AX.getf rfl (M0 hm) rfl ?_
    refine AX.aload_n rfl rfl ?_
    refine AX.getf rfl (M0 hm) rfl ?_
    refine AX.aload_n rfl rfl ?_
    refine AX.iload_n rfl rfl ?_
    refine AX.cVI rfl rfl rfl (M0 hm) (yM_startOf hR8 hW hm (Nat.le_of_lt hi)) (fun h hm => ?_)
    refine AX.ialdX rfl (MA hm 7 (by decide) (by decide) (by decide)) (by decide) (⟨_, h3.1, rfl, h3.2.1⟩) ?_
    refine AX.ialdX rfl (MA hm 11 (by decide) (by decide) (by decide)) (by decide) (⟨_, h3.2.2.1, rfl, h3.2.2.2⟩) ?_
    refine AX.iload_n rfl rfl ?_
    refine AX.if_eq rfl (fun _ => ?_) (fun c => absurd hq c)
    refine AX.iconstV (v := 1) rfl (by decide) ?_
    refine AX.iadd rfl ?_
    refine AX.istore_n rfl (by decide) ?_
    refine AX.iload_n rfl rfl ?_
    refine AX.if_eq rfl (fun _ => ?_) (fun c => absurd hq c)
    refine AX.iload_n rfl rfl ?_
    refine AX.aload_n rfl rfl ?_
    refine AX.getf rfl (M0 hm) rfl ?_
    refine AX.icmp_lt rfl (fun c1 => ?_) (fun c1 => ?_)
    · refine AX.iconstV (v := 1) rfl (by decide) ?_
      refine AX.istore rfl (by decide) ?_
      refine AX.aload_n rfl rfl ?_
      refine AX.iload_n rfl rfl ?_
      refine AX.iconstV (v := 1) rfl (by decide) ?_
      refine AX.iadd rfl ?_
      refine AX.cVI rfl rfl rfl (M0 hm) (yM_startOf1 hR8 hW hm hi) (fun h hm => ?_)
      refine AX.istore rfl (by decide) ?_
      refine AX.aload_n rfl rfl ?_
      refine AX.iload_n rfl rfl ?_
      refine AX.cVI rfl rfl rfl (M0 hm) (yM_startOf hR8 hW hm (Nat.le_of_lt hi)) (fun h hm => ?_)
      refine AX.istore rfl (by decide) ?_
      first
        | exact fin _ _ h hm (by rw [ansF, if_pos hq, nI_1]) (by rw [ansS, if_pos hq, ansF, if_pos hq, ← nI_1, if_neg (show ¬ t.1 2 ≤ nI ((yG y).getD i g0).2.2 + 1 from Int32.not_le.mpr c1)]; rfl)
        | exact fin _ _ h hm (by rw [ansF, if_pos hq, nI_1]) (by rw [ansS, if_pos hq, ansF, if_pos hq, ← nI_1, if_pos (show t.1 2 ≤ nI ((yG y).getD i g0).2.2 + 1 from Int32.not_lt.mp c1)]; rfl)
    · refine AX.iconstV (v := 2) rfl (by decide) ?_
      refine AX.goto rfl ?_
      refine AX.istore rfl (by decide) ?_
      refine AX.aload_n rfl rfl ?_
      refine AX.iload_n rfl rfl ?_
      refine AX.iconstV (v := 1) rfl (by decide) ?_
      refine AX.iadd rfl ?_
      refine AX.cVI rfl rfl rfl (M0 hm) (yM_startOf1 hR8 hW hm hi) (fun h hm => ?_)
      refine AX.istore rfl (by decide) ?_
      refine AX.aload_n rfl rfl ?_
      refine AX.iload_n rfl rfl ?_
      refine AX.cVI rfl rfl rfl (M0 hm) (yM_startOf hR8 hW hm (Nat.le_of_lt hi)) (fun h hm => ?_)
      refine AX.istore rfl (by decide) ?_
      first
        | exact fin _ _ h hm (by rw [ansF, if_pos hq, nI_1]) (by rw [ansS, if_pos hq, ansF, if_pos hq, ← nI_1, if_neg (show ¬ t.1 2 ≤ nI ((yG y).getD i g0).2.2 + 1 from Int32.not_le.mpr c1)]; rfl)
        | exact fin _ _ h hm (by rw [ansF, if_pos hq, nI_1]) (by rw [ansS, if_pos hq, ansF, if_pos hq, ← nI_1, if_pos (show t.1 2 ≤ nI ((yG y).getD i g0).2.2 + 1 from Int32.not_lt.mp c1)]; rfl)
  · skip
    refine AX.aload_n rfl rfl ?_
    refine AX.iconstV (v := 0) rfl (by decide) ?_
    refine AX.putf rfl (M0 hm) (Nat.le_of_ble_eq_true rfl) rfl ?_
    refine AX.gen (G := isM p _) (MS hm 3 _ (by decide) rfl) (fun h hm => ?_)
    rw [mset_same hcode] at hm
    refine AX.aload_n rfl rfl ?_
    refine AX.iload_n rfl rfl ?_
    refine AX.cVI rfl rfl rfl (M0 hm) (yM_isGroup hR hW hm _) (fun h hm => ?_)
    refine AX.if_eqB rfl (fun c => absurd (c.symm.trans hg) (by decide)) (fun _ => ?_)
    refine AX.aload_n rfl rfl ?_
    refine AX.iload_n rfl rfl ?_
    refine AX.cVI rfl rfl rfl (M0 hm) (yM_stateOf hR hW hm hi) (fun h hm => ?_)
    refine AX.iconstV (v := 1) rfl (by decide) ?_
    refine AX.icmp_eq rfl (fun _ => ?_) (fun c => absurd hs c)
    refine AX.aload_n rfl rfl ?_
    refine AX.dup rfl rfl ?_
    refine AX.getf rfl (M0 hm) rfl ?_
    refine AX.iconstV (v := 1) rfl (by decide) ?_
    refine AX.iadd rfl ?_
    refine AX.putf rfl (M0 hm) (Nat.le_of_ble_eq_true rfl) rfl ?_
    refine AX.gen (G := isM p _) (MS hm 8 _ (by decide) rfl) (fun h hm => ?_)
    refine AX.aload_n rfl rfl ?_
    refine AX.getf rfl (M0 hm) rfl ?_
    refine AX.aload_n rfl rfl ?_
    refine AX.getf rfl (M0 hm) rfl ?_
    refine AX.aload_n rfl rfl ?_
    refine AX.iload_n rfl rfl ?_
    refine AX.cVI rfl rfl rfl (M0 hm) (yM_startOf hR8 hW hm (Nat.le_of_lt hi)) (fun h hm => ?_)
    refine AX.ialdX rfl (MA hm 7 (by decide) (by decide) (by decide)) (by decide) (⟨_, h3.1, rfl, h3.2.1⟩) ?_
    refine AX.ialdX rfl (MA hm 11 (by decide) (by decide) (by decide)) (by decide) (⟨_, h3.2.2.1, rfl, h3.2.2.2⟩) ?_
    refine AX.iload_n rfl rfl ?_
    refine AX.if_eq rfl (fun c => absurd c hq) (fun _ => ?_)
    refine AX.iconstV (v := 0) rfl (by decide) ?_
    refine AX.goto rfl ?_
    refine AX.iadd rfl ?_
    refine AX.istore_n rfl (by decide) ?_
    refine AX.iload_n rfl rfl ?_
    refine AX.if_eq rfl (fun c => absurd c hq) (fun _ => ?_)
    refine AX.iconstV (v := 3) rfl (by decide) ?_
    refine AX.goto rfl ?_
    refine AX.istore rfl (by decide) ?_
    refine AX.aload_n rfl rfl ?_
    refine AX.iload_n rfl rfl ?_
    refine AX.iconstV (v := 1) rfl (by decide) ?_
    refine AX.iadd rfl ?_
    refine AX.cVI rfl rfl rfl (M0 hm) (yM_startOf1 hR8 hW hm hi) (fun h hm => ?_)
    refine AX.istore rfl (by decide) ?_
    refine AX.aload_n rfl rfl ?_
    refine AX.iload_n rfl rfl ?_
    refine AX.cVI rfl rfl rfl (M0 hm) (yM_startOf hR8 hW hm (Nat.le_of_lt hi)) (fun h hm => ?_)
    refine AX.istore rfl (by decide) ?_
    exact fin _ _ h hm (by rw [ansF, if_neg hq, Int32.add_zero]) (by rw [ansS, if_neg hq]; rfl)
theorem yM_answer0 (hR : RM y t) (hW : WF y) (hm : isM p t h) (g q : Int32) (hn : ¬ (yIsG y g = true ∧ ((yG y).getD g.toNatClampNeg g0).2.1 = 1)) : AM (d + 2) kM_answer 0 0 none [.ref 28, .int g, .int q] h (fun v h' => v = some (.int (-1)) ∧ isM p t h') := by
  have hcode := hR.1.1
  have hl := hW.gl
  by_cases hg : yIsG y g = true
  · obtain ⟨k1, k2⟩ := isC_k hl hg
    generalize hk : g.toNatClampNeg = k at k1 k2 hn
    subst k2
    have w12 := (hW.2.2.2.2.2.2.2.2.2.2.2.1 ((yG y).getD k g0) (List.mem_of_getElem? (getD_some k1))).1
    have hs : ¬ nI ((yG y).getD k g0).2.1 = 1 := fun e => hn ⟨hg, (nI_eq (by omega) (by decide)).mp (show nI ((yG y).getD k g0).2.1 = nI 1 from e)⟩
    refine AX.aload_n rfl rfl ?_
    refine AX.iconstV (v := 0) rfl (by decide) ?_
    refine AX.putf rfl (M0 hm) (Nat.le_of_ble_eq_true rfl) rfl ?_
    refine AX.gen (G := isM p _) (MS hm 3 _ (by decide) rfl) (fun h hm => ?_)
    rw [mset_same hcode] at hm
    refine AX.aload_n rfl rfl ?_
    refine AX.iload_n rfl rfl ?_
    refine AX.cVI rfl rfl rfl (M0 hm) (yM_isGroup hR hW hm _) (fun h hm => ?_)
    refine AX.if_eqB rfl (fun c1 => ?_) (fun c1 => ?_)
    · refine AX.iconstV (v := (-1)) rfl (by decide) ?_
      exact AX.ireturn rfl rfl ⟨rfl, hm⟩ (Nat.le_refl _) (Nat.le_refl _)
    · refine AX.aload_n rfl rfl ?_
      refine AX.iload_n rfl rfl ?_
      refine AX.cVI rfl rfl rfl (M0 hm) (yM_stateOf hR hW hm k1) (fun h hm => ?_)
      refine AX.iconstV (v := 1) rfl (by decide) ?_
      refine AX.icmp_eq rfl (fun c2 => ?_) (fun c2 => ?_)
      · exact absurd c2 hs
      · refine AX.iconstV (v := (-1)) rfl (by decide) ?_
        exact AX.ireturn rfl rfl ⟨rfl, hm⟩ (Nat.le_refl _) (Nat.le_refl _)
  · skip
    refine AX.aload_n rfl rfl ?_
    refine AX.iconstV (v := 0) rfl (by decide) ?_
    refine AX.putf rfl (M0 hm) (Nat.le_of_ble_eq_true rfl) rfl ?_
    refine AX.gen (G := isM p _) (MS hm 3 _ (by decide) rfl) (fun h hm => ?_)
    rw [mset_same hcode] at hm
    refine AX.aload_n rfl rfl ?_
    refine AX.iload_n rfl rfl ?_
    refine AX.cVI rfl rfl rfl (M0 hm) (yM_isGroup hR hW hm _) (fun h hm => ?_)
    refine AX.if_eqB rfl (fun c1 => ?_) (fun c1 => ?_)
    · refine AX.iconstV (v := (-1)) rfl (by decide) ?_
      exact AX.ireturn rfl rfl ⟨rfl, hm⟩ (Nat.le_refl _) (Nat.le_refl _)
    · exact absurd c1 hg
-- the group to ask for
def gAt (G : List gT) : Nat := (G.takeWhile (fun g => decide (g.2.1 = 1) || decide (g.2.1 = 3))).length
def gCnt (G : List gT) : Nat := (G.filter (fun g => decide (g.2.1 = 1))).length
theorem gAt_le (G : List gT) : gAt G ≤ G.length := (List.takeWhile_sublist _).length_le
theorem gAt_cons (g : gT) (G : List gT) : gAt (g :: G) = if g.2.1 = 1 ∨ g.2.1 = 3 then gAt G + 1 else 0 := by
  unfold gAt
  rw [List.takeWhile_cons]
  by_cases h : g.2.1 = 1 ∨ g.2.1 = 3
  · rw [if_pos h, if_pos (by simpa using h)]; rfl
  · rw [if_neg h, if_neg (by simpa using h)]; rfl
theorem gAt_drop {G : List gT} {m : Nat} (hm : m < G.length) : gAt (G.drop m) = if (G.getD m g0).2.1 = 1 ∨ (G.getD m g0).2.1 = 3 then gAt (G.drop (m + 1)) + 1 else 0 := by
  rw [drop_getD (x := g0) hm, gAt_cons]
theorem gCnt_drop {G : List gT} {m : Nat} (hm : m < G.length) : gCnt (G.drop m) = (if (G.getD m g0).2.1 = 1 then 1 else 0) + gCnt (G.drop (m + 1)) := by
  rw [drop_getD (x := g0) hm]
  unfold gCnt
  rw [List.filter_cons]
  by_cases h : (G.getD m g0).2.1 = 1
  · rw [if_pos h, if_pos (by simpa using h), List.length_cons, Nat.add_comm]
  · rw [if_neg h, if_neg (by simpa using h), Nat.zero_add]
theorem gst3 (hW : WF y) {i : Nat} (hi : i < (yG y).length) : ((yG y).getD i g0).2.1 ≤ 3 := (hW.2.2.2.2.2.2.2.2.2.2.2.1 _ (List.mem_of_getElem? (getD_some hi))).1
theorem gis (hW : WF y) {i k : Nat} (hi : i < (yG y).length) (hk : k ≤ 3) : nI ((yG y).getD i g0).2.1 = nI k ↔ ((yG y).getD i g0).2.1 = k := by
  have := gst3 hW hi
  exact nI_eq (by omega) (by omega)
theorem zAsked_y (hC : RC y z) (hW : WF y) : ∀ (n m acc : Nat), (yG y).length = m + n → zAsked z n m (nI acc) = nI (acc + gCnt ((yG y).drop m)) := by
  intro n
  induction n with
  | zero => intro m acc h; rw [List.drop_eq_nil_of_le (by omega)]; rfl
  | succ n ih =>
    intro m acc h
    have hm : m < (yG y).length := by omega
    rw [zAsked, (gatN hC hW hm).1, gCnt_drop hm]
    have e : nI ((yG y).getD m g0).2.1 = 1 ↔ ((yG y).getD m g0).2.1 = 1 := gis hW hm (k := 1) (by decide)
    by_cases hs : ((yG y).getD m g0).2.1 = 1
    · rw [if_pos hs, if_pos (e.mpr hs), nI_1, ih (m + 1) (acc + 1) (by omega)]
      congr 1; omega
    · rw [if_neg hs, if_neg (fun q => hs (e.mp q)), ih (m + 1) acc (by omega)]
      congr 1; omega
def gNx (G : List gT) (m : Nat) : Int32 := if m + gAt (G.drop m) < G.length ∧ (G.getD (m + gAt (G.drop m)) g0).2.1 = 0 then nI (m + gAt (G.drop m)) else -1
theorem zNext_y (hC : RC y z) (hW : WF y) : ∀ (n m : Nat), (yG y).length = m + n → zNext z n m = gNx (yG y) m := by
  intro n
  induction n with
  | zero => intro m h; rw [gNx, if_neg (by omega)]; rfl
  | succ n ih =>
    intro m h
    have hm : m < (yG y).length := by omega
    have h3 := gst3 hW hm
    have e0 : nI ((yG y).getD m g0).2.1 = 0 ↔ ((yG y).getD m g0).2.1 = 0 := gis hW hm (k := 0) (by decide)
    have e2 : nI ((yG y).getD m g0).2.1 = 2 ↔ ((yG y).getD m g0).2.1 = 2 := gis hW hm (k := 2) (by decide)
    rw [zNext, (gatN hC hW hm).1, gNx, gAt_drop hm]
    by_cases c1 : ((yG y).getD m g0).2.1 = 1 ∨ ((yG y).getD m g0).2.1 = 3
    · rw [if_pos c1, if_neg (fun q => by have := e0.mp q; omega), if_neg (fun q => by have := e2.mp q; omega), ih (m + 1) (by omega), gNx, show m + (gAt ((yG y).drop (m + 1)) + 1) = m + 1 + gAt ((yG y).drop (m + 1)) by omega]
    · rw [if_neg c1, Nat.add_zero]
      by_cases c0 : ((yG y).getD m g0).2.1 = 0
      · rw [if_pos (e0.mpr c0), if_pos ⟨hm, c0⟩, Nat.add_zero]
      · rw [if_neg (fun q => c0 (e0.mp q)), if_pos (e2.mpr (by omega)), if_neg (fun q => c0 q.2)]
def yAsk (y : yT) (w : Int32) : Bool := decide (gAt (yG y) < (yG y).length ∧ ((yG y).getD (gAt (yG y)) g0).2.1 = 0) && decide (nI (gCnt (yG y)) < w)
def yAsk2 (y : yT) : yT := yGs y (gSt (yG y) (gAt (yG y)) 1 ((yG y).getD (gAt (yG y)) g0).2.2)
theorem op_ask (hI : INV y z t) : (zQ_ask z).1 = yAsk y (t.1 1) ∧ (yAsk y (t.1 1) = true → INV (yAsk2 y) (zQ_ask z).2 (mSet y 10 (gAt (yG y)) 1 t)) ∧ (yAsk y (t.1 1) = false → (zQ_ask z).2 = z) := by
  obtain ⟨hW, hC, hR, hS⟩ := hI
  have hl := hW.gl
  have hz1 : z.1 1 = t.1 1 := hS.2.1
  have l10 : (z.2.1 10).length = (yG y).length := by rw [hC.G10, List.length_map]
  have l11 : (z.2.1 11).length = (yG y).length := by rw [hC.G11, List.length_map]
  have hA : zG_asked z = nI (gCnt (yG y)) := by
    have := zAsked_y hC hW (yG y).length 0 0 (by omega)
    rw [Nat.zero_add, List.drop_zero] at this
    unfold zG_asked
    rw [l10]
    exact this
  have hN : zG_next z = gNx (yG y) 0 := by
    unfold zG_next
    rw [l10]
    exact zNext_y hC hW (yG y).length 0 (by omega)
  unfold zQ_ask yAsk
  rw [hA, hN, hz1, gNx, Nat.zero_add, List.drop_zero]
  by_cases c1 : gAt (yG y) < (yG y).length ∧ ((yG y).getD (gAt (yG y)) g0).2.1 = 0
  · have hne : ¬ nI (gAt (yG y)) = -1 := by
      intro e
      have h4 := nI_pos' (show gAt (yG y) < 2 ^ 31 by omega)
      rw [e] at h4
      exact absurd h4 (by decide)
    rw [if_pos c1, if_neg hne]
    by_cases c2 : nI (gCnt (yG y)) < t.1 1
    · rw [if_pos c2]
      refine ⟨by rw [decide_eq_true c1, decide_eq_true c2]; rfl, fun _ => ?_, fun h => (by rw [decide_eq_true c1, decide_eq_true c2] at h; cases h)⟩
      obtain ⟨k1, k2, k3⟩ := mSet_eff hW c1.1 10 1 t
      obtain ⟨a10, a9, a11⟩ := gatN hC hW c1.1
      have g11 : (z.2.1 11).getD (gAt (yG y)) (-1) = nI ((yG y).getD (gAt (yG y)) g0).2.2 := by rw [← a11, zat, rAt_nI (by omega)]
      refine ⟨hW.gset c1.1 (by decide), RC.gset hC c1.1 ?_ ?_ ?_ rfl rfl, RM.gset hW hR c1.1 (fun q _ => by rw [k1]) (fun a h1 _ => k2 a h1) k3 ?_, ?_⟩
      · exact zput_set (by omega) (by omega)
      · rw [set_self g11]
        show (zput z 10 (nI (gAt (yG y))) 1).2.1 11 = _
        rw [zput, zrow_ne (by decide)]
      · intro r hr
        show (zput z 10 (nI (gAt (yG y))) 1).2.1 r = _
        rw [zput, zrow_ne (by omega)]
      · intro c
        rw [k2 11 (by decide)]
        by_cases hc : c ∈ ((yG y).getD (gAt (yG y)) g0).1
        · rw [if_pos hc]; exact (hR.2.2.2.2.2.2 _ c1.1 c hc).2
        · rw [if_neg hc]
      · refine RS.cong hS rfl (fun _ _ _ => rfl) ?_ (fun q _ => by rw [k1]) (k2 1 (by decide))
        show (zput z 10 (nI (gAt (yG y))) 1).2.1 1 = _
        rw [zput, zrow_ne (by decide)]
    · rw [if_neg c2]
      exact ⟨by simp [c2], fun h => by simp [c2] at h, fun _ => rfl⟩
  · rw [if_neg c1, if_pos rfl]
    exact ⟨by rw [decide_eq_false c1]; rfl, fun h => (by rw [decide_eq_false c1] at h; cases h), fun _ => rfl⟩
theorem askF1 {w : Int32} (c : w ≤ nI (gCnt (yG y))) : yAsk y w = false := by
  unfold yAsk
  rw [decide_eq_false (Int32.not_lt.mpr c), Bool.and_false]
theorem askF2 {w : Int32} (c : gAt (yG y) = (yG y).length) : yAsk y w = false := by
  unfold yAsk
  rw [decide_eq_false (fun q => by omega), Bool.false_and]
theorem askF3 {w : Int32} {m : Nat} (hat : gAt (yG y) = m) (c : ¬ nI ((yG y).getD m g0).2.1 = 0) : yAsk y w = false := by
  unfold yAsk
  rw [decide_eq_false (fun q => c (by rw [hat] at q; rw [q.2]; rfl)), Bool.false_and]
theorem askT {w : Int32} {m : Nat} (hW : WF y) (hat : gAt (yG y) = m) (hm : m < (yG y).length) (c1 : ¬ w ≤ nI (gCnt (yG y))) (c2 : nI ((yG y).getD m g0).2.1 = 0) : yAsk y w = true := by
  unfold yAsk
  subst hat
  rw [decide_eq_true ⟨hm, (gis hW hm (k := 0) (by decide)).mp c2⟩, decide_eq_true (Int32.not_le.mp c1)]
  rfl
theorem atIs {m : Nat} (hm : m < (yG y).length) (hg : m + gAt ((yG y).drop m) = gAt (yG y)) (c1 : ¬ nI ((yG y).getD m g0).2.1 = 1) (c2 : ¬ nI ((yG y).getD m g0).2.1 = 3) : gAt (yG y) = m := by
  rw [gAt_drop hm, if_neg (fun q => by rcases q with q | q; exact c1 (by rw [q]; rfl); exact c2 (by rw [q]; rfl))] at hg
  omega
theorem atGo {m : Nat} (hW : WF y) (hm : m < (yG y).length) (hg : m + gAt ((yG y).drop m) = gAt (yG y)) (c : nI ((yG y).getD m g0).2.1 = 1 ∨ nI ((yG y).getD m g0).2.1 = 3) : m + 1 + gAt ((yG y).drop (m + 1)) = gAt (yG y) := by
  have h3 : ((yG y).getD m g0).2.1 = 1 ∨ ((yG y).getD m g0).2.1 = 3 := by
    rcases c with c | c
    · exact Or.inl ((gis hW hm (k := 1) (by decide)).mp c)
    · exact Or.inr ((gis hW hm (k := 3) (by decide)).mp c)
  rw [gAt_drop hm, if_pos h3] at hg
  omega
def mAsk (y : yT) (t : mS) : mS := if yAsk y (t.1 1) = true then mSet y 10 (gAt (yG y)) 1 t else t
theorem yM_ask_l2 (hR : RM y t) (hW : WF y) : ∀ (r m : Nat) (h : ax_H), isM p t h → (yG y).length = m + r → m + gAt ((yG y).drop m) = gAt (yG y) →
    AX (d + 2) kM_ask 0 0 none 39 [(3, .int (nI m)), (2, .int (nI (gCnt (yG y)))), (1, .int (nI (yG y).length)), (0, .ref 28)] [] h 0 0 (ax_ret kM_ask 0 0 (fun v h' => v = some (.int (bI (yAsk y (t.1 1)))) ∧ isM p (mAsk y t) h')) := by
  have hl := hW.gl
  intro r
  induction r with
  | zero =>
    intro m h hm hb hg
    have hF : yAsk y (t.1 1) = false := askF2 (by rw [← hg, List.drop_eq_nil_of_le (by omega)]; show m + 0 = _; omega)
    have hmF : mAsk y t = t := by unfold mAsk; rw [hF]; rfl
    refine AX.iload_n rfl rfl ?_
    refine AX.iload_n rfl rfl ?_
    refine AX.icmp_ge rfl (fun c1 => ?_) (fun c1 => ?_)
    · refine AX.iload_n rfl rfl ?_
      refine AX.aload_n rfl rfl ?_
      refine AX.getf rfl (M0 hm) rfl ?_
      refine AX.icmp_ge rfl (fun c2 => ?_) (fun c2 => ?_)
      · refine AX.iconstV (v := 0) rfl (by decide) ?_
        exact AX.zreturn rfl rfl (by decide) ⟨by rw [hF]; rfl, by rw [hmF]; exact hm⟩ (Nat.le_refl _) (Nat.le_refl _)
      · refine AX.iload_n rfl rfl ?_
        refine AX.iload_n rfl rfl ?_
        refine AX.icmp_eq rfl (fun c3 => ?_) (fun c3 => ?_)
        · refine AX.iconstV (v := 0) rfl (by decide) ?_
          exact AX.zreturn rfl rfl (by decide) ⟨by rw [hF]; rfl, by rw [hmF]; exact hm⟩ (Nat.le_refl _) (Nat.le_refl _)
        · exact absurd (by rw [hb]; rfl) c3
    · exact absurd (nI_le (by omega) (by omega)) c1
  | succ r ih =>
    intro m h hm hb hg
    have hlt : m < (yG y).length := by omega
    refine AX.iload_n rfl rfl ?_
    refine AX.iload_n rfl rfl ?_
    refine AX.icmp_ge rfl (fun c1 => absurd c1 (nI_ge (by omega) (by omega))) (fun _ => ?_)
    refine AX.aload_n rfl rfl ?_
    refine AX.iload_n rfl rfl ?_
    refine AX.cVI rfl rfl rfl (M0 hm) (yM_stateOf hR hW hm hlt) (fun h hm => ?_)
    refine AX.iconstV (v := 1) rfl (by decide) ?_
    refine AX.icmp_eq rfl (fun c1 => ?_) (fun c1 => ?_)
    · refine AX.iincV (dn := 1) rfl rfl (by decide) (by decide) ?_
      refine AX.goto rfl ?_
      rw [nI_1]
      exact ih (m + 1) h hm (by omega) (atGo hW hlt hg (by first | exact Or.inl c1 | exact Or.inr c2))
    · refine AX.aload_n rfl rfl ?_
      refine AX.iload_n rfl rfl ?_
      refine AX.cVI rfl rfl rfl (M0 hm) (yM_stateOf hR hW hm hlt) (fun h hm => ?_)
      refine AX.iconstV (v := 3) rfl (by decide) ?_
      refine AX.icmp_ne rfl (fun c2 => ?_) (fun c2 => ?_)
      · refine AX.iload_n rfl rfl ?_
        refine AX.aload_n rfl rfl ?_
        refine AX.getf rfl (M0 hm) rfl ?_
        refine AX.icmp_ge rfl (fun c3 => ?_) (fun c3 => ?_)
        · have hF : yAsk y (t.1 1) = false := by
            first
              | exact askF1 c3
              | exact askF3 (atIs hlt hg c1 c2) c4
          have hmF : mAsk y t = t := by unfold mAsk; rw [hF]; rfl
          refine AX.iconstV (v := 0) rfl (by decide) ?_
          exact AX.zreturn rfl rfl (by decide) ⟨by rw [hF]; rfl, by rw [hmF]; exact hm⟩ (Nat.le_refl _) (Nat.le_refl _)
        · refine AX.iload_n rfl rfl ?_
          refine AX.iload_n rfl rfl ?_
          refine AX.icmp_eq rfl (fun c => absurd ((nI_eq (by omega) (by omega)).mp c) (by omega)) (fun _ => ?_)
          refine AX.aload_n rfl rfl ?_
          refine AX.iload_n rfl rfl ?_
          refine AX.cVI rfl rfl rfl (M0 hm) (yM_stateOf hR hW hm hlt) (fun h hm => ?_)
          refine AX.if_eq rfl (fun c4 => ?_) (fun c4 => ?_)
          · have hat := atIs hlt hg c1 c2
            have hT := askT (w := t.1 1) hW hat hlt c3 c4
            have hmT : mAsk y t = mSet y 10 m 1 t := by unfold mAsk; rw [hT, hat]; rfl
            refine AX.aload_n rfl rfl ?_
            refine AX.iload_n rfl rfl ?_
            refine AX.iconstV (v := 1) rfl (by decide) ?_
            refine AX.cVV rfl rfl rfl (M0 hm) (sM_setG hR.2.1 hW hm hlt _) (fun h hm => ?_)
            refine AX.iconstV (v := 1) rfl (by decide) ?_
            exact AX.zreturn rfl rfl (by decide) ⟨by rw [hT]; rfl, by rw [hmT]; exact hm⟩ (Nat.le_refl _) (Nat.le_refl _)
          · have hF : yAsk y (t.1 1) = false := by
              first
                | exact askF1 c3
                | exact askF3 (atIs hlt hg c1 c2) c4
            have hmF : mAsk y t = t := by unfold mAsk; rw [hF]; rfl
            refine AX.iconstV (v := 0) rfl (by decide) ?_
            exact AX.zreturn rfl rfl (by decide) ⟨by rw [hF]; rfl, by rw [hmF]; exact hm⟩ (Nat.le_refl _) (Nat.le_refl _)
      · refine AX.iincV (dn := 1) rfl rfl (by decide) (by decide) ?_
        refine AX.goto rfl ?_
        rw [nI_1]
        exact ih (m + 1) h hm (by omega) (atGo hW hlt hg (by first | exact Or.inl c1 | exact Or.inr c2))
theorem yM_ask_l1 (hR : RM y t) (hW : WF y) : ∀ (r m acc : Nat) (h : ax_H), isM p t h → (yG y).length = m + r → acc + gCnt ((yG y).drop m) = gCnt (yG y) →
    AX (d + 2) kM_ask 0 0 none 9 [(3, .int (nI m)), (2, .int (nI acc)), (1, .int (nI (yG y).length)), (0, .ref 28)] [] h 0 0 (ax_ret kM_ask 0 0 (fun v h' => v = some (.int (bI (yAsk y (t.1 1)))) ∧ isM p (mAsk y t) h')) := by
  have hl := hW.gl
  intro r
  induction r with
  | zero =>
    intro m acc h hm hb hg
    have hacc : acc = gCnt (yG y) := by
      rw [← hg, List.drop_eq_nil_of_le (by omega)]; rfl
    subst hacc
    refine AX.iload_n rfl rfl ?_
    refine AX.iload_n rfl rfl ?_
    refine AX.icmp_ge rfl (fun c1 => ?_) (fun c1 => ?_)
    · refine AX.iconstV (v := 0) rfl (by decide) ?_
      refine AX.istore_n rfl (by decide) ?_
      exact yM_ask_l2 hR hW (yG y).length 0 h hm (by omega) (by rw [List.drop_zero]; omega)
    · exact absurd (nI_le (by omega) (by omega)) c1
  | succ r ih =>
    intro m acc h hm hb hg
    have hlt : m < (yG y).length := by omega
    rw [gCnt_drop hlt] at hg
    refine AX.iload_n rfl rfl ?_
    refine AX.iload_n rfl rfl ?_
    refine AX.icmp_ge rfl (fun c1 => ?_) (fun c1 => ?_)
    · exact absurd c1 (nI_ge (by omega) (by omega))
    · refine AX.iload_n rfl rfl ?_
      refine AX.aload_n rfl rfl ?_
      refine AX.iload_n rfl rfl ?_
      refine AX.cVI rfl rfl rfl (M0 hm) (yM_stateOf hR hW hm hlt) (fun h hm => ?_)
      refine AX.iconstV (v := 1) rfl (by decide) ?_
      refine AX.icmp_ne rfl (fun c2 => ?_) (fun c2 => ?_)
      · refine AX.iconstV (v := 0) rfl (by decide) ?_
        refine AX.iadd rfl ?_
        refine AX.istore_n rfl (by decide) ?_
        refine AX.iincV (dn := 1) rfl rfl (by decide) (by decide) ?_
        refine AX.goto rfl ?_
        first
          | (rw [if_neg (fun q => c2 (by rw [q]; rfl))] at hg; rw [nI_1, Int32.add_zero]; exact ih (m + 1) acc h hm (by omega) (by omega))
          | (rw [if_pos ((gis hW hlt (k := 1) (by decide)).mp (Classical.not_not.mp c2))] at hg; rw [nI_1, nI_1]; exact ih (m + 1) (acc + 1) h hm (by omega) (by omega))
          | (rw [if_pos ((gis hW hlt (k := 1) (by decide)).mp c2)] at hg; rw [nI_1, nI_1]; exact ih (m + 1) (acc + 1) h hm (by omega) (by omega))
      · refine AX.iconstV (v := 1) rfl (by decide) ?_
        refine AX.goto rfl ?_
        refine AX.iadd rfl ?_
        refine AX.istore_n rfl (by decide) ?_
        refine AX.iincV (dn := 1) rfl rfl (by decide) (by decide) ?_
        refine AX.goto rfl ?_
        first
          | (rw [if_neg (fun q => c2 (by rw [q]; rfl))] at hg; rw [nI_1, Int32.add_zero]; exact ih (m + 1) acc h hm (by omega) (by omega))
          | (rw [if_pos ((gis hW hlt (k := 1) (by decide)).mp (Classical.not_not.mp c2))] at hg; rw [nI_1, nI_1]; exact ih (m + 1) (acc + 1) h hm (by omega) (by omega))
          | (rw [if_pos ((gis hW hlt (k := 1) (by decide)).mp c2)] at hg; rw [nI_1, nI_1]; exact ih (m + 1) (acc + 1) h hm (by omega) (by omega))
theorem yM_ask (hR : RM y t) (hW : WF y) (hm : isM p t h) : AM (d + 2) kM_ask 0 0 none [.ref 28] h (fun v h' => v = some (.int (bI (yAsk y (t.1 1)))) ∧ isM p (mAsk y t) h') := by
  refine AX.aload_n rfl rfl ?_
  refine AX.cVI rfl rfl rfl (M0 hm) (yM_groupMany hR hW hm) (fun h hm => ?_)
  refine AX.istore_n rfl (by decide) ?_
  refine AX.iconstV (v := 0) rfl (by decide) ?_
  refine AX.istore_n rfl (by decide) ?_
  refine AX.iconstV (v := 0) rfl (by decide) ?_
  refine AX.istore_n rfl (by decide) ?_
  exact yM_ask_l1 hR hW (yG y).length 0 0 h hm (by omega) (by rw [List.drop_zero]; omega)
end AK
end
section
/-! The first group failed: one goes out, or two halves -/
section HA
variable {y : yT} {z : zS} {t : mS} {p h : ax_H} {d : Nat}
theorem div2 : ∀ n, n ≤ 40 → nI n / 2 = nI (n / 2) := by decide +kernel
theorem div2b : ∀ n, n ≤ 40 → (nI n + 1) / 2 = nI (n - n / 2) := by decide +kernel
theorem yts_up (hI : INV y z t) {c v : Nat} (hc : c < yn y) (hv : v ≤ 40) : INV (yup y 3 c v) (zput z 5 (nI c) (nI v)) (marr t 5 c (nI v)) := by
  obtain ⟨hW, hC, hR, hS⟩ := hI
  have hn := hW.1
  refine ⟨?_, RC.ts hC hn hc, RM.ts hR hc, ?_⟩
  · obtain ⟨w1, w2, w3, w4, w5, w6, w7, w8, w9, w10, w11, w12, w13, w14, w15⟩ := hW
    refine ⟨w1, ?_, w3, w4, w5, w6, w7, w8, w9, w10, w11, w12, w13, w14, w15⟩
    intro j hj
    obtain ⟨a, b, e, f, g⟩ := w2 j hj
    refine ⟨a, b, e, ?_, g⟩
    show va_up (y.2.1 3) c v j ≤ 40
    unfold va_up
    split
    · exact hv
    · exact f
  · refine RS.cong hS rfl (fun _ _ _ => rfl) ?_ (fun _ _ => rfl) rfl
    rw [zput, zrow_ne (by decide)]
-- one goes out
def yHv1 (y : yT) : yT := yup (yOut (yGs y (gRm (gAn (yG y) 0) 0 0)) ((gL (yG y)).getD 0 0) 1) 3 ((gL (yG y)).getD 0 0) (yTr y).length
def mHv1 (y : yT) (t : mS) : mS := marr (marr (marr (mGo (mAn (gL (yG y)) (gF (yG y)) 0 t) (gL (yG y)) (gF (yG y)) 0) 2 ((gL (yG y)).getD 0 0) 3) 4 ((gL (yG y)).getD 0 0) 1) 5 ((gL (yG y)).getD 0 0) (t.1 7)
theorem op_halve1 (hI : INV y z t) (hi : 0 < (yG y).length) (h1 : ((yG y).getD 0 g0).1.length = 1) : INV (yHv1 y) (zQ_halve z) (mHv1 y t) := by
  have hI0 := hI
  obtain ⟨hW, hC, hR, hS⟩ := hI
  have hl := hW.gl
  have htl := hW.tl
  have a9 : zat z 9 0 = nI 1 := by have := (gatN hC hW hi).2.1; rw [h1] at this; exact this
  have hv : ((yG y).getD 0 g0).1.getD 0 0 = (gL (yG y)).getD 0 0 := (gL_at (i := 0) (j := 0) hi (by show 0 < ((yG y).getD 0 g0).1.length; omega)).symm
  have hmem : zG_member z 0 0 = nI ((gL (yG y)).getD 0 0) := by
    rw [same_member hC hW 0 0, yMember, if_pos (by show isC (yG y).length (nI 0) = true; rw [isC_nI hl (by decide)]; simpa using hi), if_neg (by decide)]
    show (if nI 0 < nI ((yG y).getD 0 g0).1.length then nI (((yG y).getD 0 g0).1.getD 0 0) else -1) = _
    rw [if_pos (by rw [h1]; decide), hv]
  obtain ⟨hI1, hvn⟩ := op_take hI0 (i := 0) (j := 0) (r := 1) hi (by omega) hv (Or.inl rfl)
  have hI2 := yts_up hI1 (c := (gL (yG y)).getD 0 0) (v := (yTr y).length) hvn (by omega)
  have e7 : ((zC_putOut (zG_take z (nI ((gL (yG y)).getD 0 0))) (nI ((gL (yG y)).getD 0 0)) (nI 1)).2.1 7).length = (yTr y).length := by
    rw [hI1.2.1.R7, List.length_map]; rfl
  have ez : zQ_halve z = zput (zC_putOut (zG_take z (nI ((gL (yG y)).getD 0 0))) (nI ((gL (yG y)).getD 0 0)) (nI 1)) 5 (nI ((gL (yG y)).getD 0 0)) (nI (yTr y).length) := by
    unfold zQ_halve
    rw [a9, if_pos (by decide), hmem]
    show zput (zC_putOut _ _ (nI 1)) 5 _ (nI ((zC_putOut (zG_take z (nI ((gL (yG y)).getD 0 0))) (nI ((gL (yG y)).getD 0 0)) (nI 1)).2.1 7).length) = _
    rw [e7]
  have et : mHv1 y t = marr (marr (marr (mGo (mAn (gL (yG y)) (gF (yG y)) (gB (yG y) 0) t) (gL (yG y)) (gF (yG y)) (gB (yG y) 0 + 0)) 2 ((gL (yG y)).getD 0 0) (nI 3)) 4 ((gL (yG y)).getD 0 0) (nI 1)) 5 ((gL (yG y)).getD 0 0) (nI (yTr y).length) := by
    rw [← hR.1.2.2.2]; rfl
  rw [ez, et]
  exact hI2
-- two halves
def gSp (G : List gT) : List gT := match G with
  | [] => []
  | g :: G => (g.1.take (g.1.length - g.1.length / 2), g.2) :: (g.1.drop (g.1.length - g.1.length / 2), 0, 0) :: G
theorem gSp_L (G : List gT) : gL (gSp G) = gL G := by
  cases G with
  | nil => rfl
  | cons g G =>
    show gL ((g.1.take _, g.2) :: (g.1.drop _, 0, 0) :: G) = _
    rw [gL_cons, gL_cons, gL_cons, ← List.append_assoc, List.take_append_drop]
theorem gF1_sp {ms : List Nat} {k : Nat} (h1 : 0 < k) (h2 : k < ms.length) : gF1 (ms.take k) ++ gF1 (ms.drop k) = (gF1 ms).set k true := by
  cases ms with
  | nil => simp at h2
  | cons c r =>
    cases k with
    | zero => omega
    | succ k =>
      simp only [List.take_succ_cons, List.drop_succ_cons, gF1, List.set_cons_succ, List.cons_append]
      congr 1
      have hk : k < r.length := by simpa using h2
      rw [List.drop_eq_getElem_cons hk]
      simp only [gF1]
      apply List.ext_getElem
      · simp; omega
      · intro i a b
        rw [List.getElem_set]
        by_cases e : k = i
        · subst e
          rw [if_pos rfl, List.getElem_append_right (by simp; omega)]
          simp [Nat.min_eq_left (Nat.le_of_lt hk)]
        · rw [if_neg e, List.getElem_map, List.getElem_append]
          split
          · simp
          · rename_i hh
            have : i - (List.map (fun _ => false) (r.take k)).length = (i - k - 1) + 1 := by
              simp at hh ⊢; omega
            simp only [this, List.getElem_cons_succ, List.getElem_map]
theorem gSp_F {G : List gT} (h2 : 2 ≤ (G.getD 0 g0).1.length) : gF (gSp G) = (gF G).set ((G.getD 0 g0).1.length - (G.getD 0 g0).1.length / 2) true := by
  cases G with
  | nil => rfl
  | cons g G =>
    have h2' : 2 ≤ g.1.length := h2
    show gF ((g.1.take (g.1.length - g.1.length / 2), g.2) :: (g.1.drop (g.1.length - g.1.length / 2), 0, 0) :: G) = (gF (g :: G)).set (g.1.length - g.1.length / 2) true
    rw [gF_cons, gF_cons, gF_cons, ← List.append_assoc, gF1_sp (by omega) (by omega), List.set_append_left _ _ (by rw [gF1_len]; omega)]
theorem gSp_an (G : List gT) : gSp (gAn G 0) = gAn (gSp G) 0 := by
  cases G <;> rfl
theorem gSp_ask (G : List gT) : gAsk (gSp G) 0 = gAsk G 0 := by
  cases G with
  | nil => rfl
  | cons g G =>
    unfold gAsk gSp
    simp only [List.drop_zero, List.filter_cons]
    by_cases h : g.2.1 = 1
    · simp [h]
    · simp [h]
theorem gSp_mem {G : List gT} {g : gT} (hg : g ∈ gSp G) : (∃ g2 ∈ G, g.2 = g2.2 ∧ ∀ c ∈ g.1, c ∈ g2.1) ∨ (g.2 = (0, 0) ∧ ∀ c ∈ g.1, c ∈ (G.getD 0 g0).1) := by
  cases G with
  | nil => cases hg
  | cons a G =>
    have hg2 : g ∈ (a.1.take (a.1.length - a.1.length / 2), a.2) :: (a.1.drop (a.1.length - a.1.length / 2), 0, 0) :: G := hg
    rcases List.mem_cons.mp hg2 with q | q
    · left
      refine ⟨a, List.mem_cons_self, by rw [q], fun c hc => ?_⟩
      rw [q] at hc
      exact List.mem_of_mem_take hc
    · rcases List.mem_cons.mp q with q | q
      · right
        refine ⟨by rw [q], fun c hc => ?_⟩
        rw [q] at hc
        exact List.mem_of_mem_drop hc
      · left
        exact ⟨g, List.mem_cons_of_mem _ q, rfl, fun c hc => hc⟩
theorem gSp_ne {G : List gT} (h2 : 2 ≤ (G.getD 0 g0).1.length) (hn : gNe G) : gNe (gSp G) := by
  cases G with
  | nil => exact hn
  | cons a G =>
    have h2' : 2 ≤ a.1.length := h2
    intro g hg
    have hg2 : g ∈ (a.1.take (a.1.length - a.1.length / 2), a.2) :: (a.1.drop (a.1.length - a.1.length / 2), 0, 0) :: G := hg
    rcases List.mem_cons.mp hg2 with q | q
    · rw [q]
      intro e
      have := congrArg List.length e
      rw [List.length_take, List.length_nil] at this
      omega
    · rcases List.mem_cons.mp q with q | q
      · rw [q]
        intro e
        have := congrArg List.length e
        rw [List.length_drop, List.length_nil] at this
        omega
      · exact hn g (List.mem_cons_of_mem _ q)
theorem WF.split (hW : WF y) (h2 : 2 ≤ ((yG y).getD 0 g0).1.length) : WF (yGs y (gSp (yG y))) := by
  obtain ⟨w1, w2, w3, w4, w5, w6, w7, w8, w9, w10, w11, w12, w13, w14, w15⟩ := hW
  refine ⟨w1, w2, w3, w4, w5, w6, w7, w8, gSp_ne h2 w9, ?_, ?_, ?_, w13, w14, w15⟩
  · show (gL (gSp (yG y))).Nodup
    rw [gSp_L]; exact w10
  · intro c
    show c ∈ gL (gSp (yG y)) ↔ _
    rw [gSp_L]; exact w11 c
  · intro g hg
    rcases gSp_mem hg with ⟨g2, k1, k2, k3⟩ | ⟨k2, k3⟩
    · rw [k2]; exact w12 g2 k1
    · rw [k2]; exact ⟨by decide, by decide⟩
theorem LaneOk.beg {L : List Nat} {B : List Bool} (hL : LaneOk t L B) (hn : L.Nodup) {k : Nat} (hk : k < L.length) : LaneOk (marr t 9 (L.getD k 0) 1) L (B.set k true) := by
  obtain ⟨h6, h40, hB, h2⟩ := hL
  refine ⟨h6, h40, by rw [List.length_set]; exact hB, ?_⟩
  intro i hi
  obtain ⟨q1, q2, q3⟩ := h2 i hi
  refine ⟨q1, q2, ?_⟩
  by_cases e : i = k
  · subst e
    rw [marr_eq, List.getD_eq_getElem?_getD, List.getElem?_set_self (by omega)]
    rfl
  · have : L.getD i 0 ≠ L.getD k 0 := by
      intro q
      rw [List.getD_eq_getElem?_getD, List.getElem?_eq_getElem hi, List.getD_eq_getElem?_getD, List.getElem?_eq_getElem hk] at q
      exact e (nd_inj hn hi hk (by simpa using q))
    rw [marr_k this, q3, List.getD_eq_getElem?_getD (l := B.set k true), List.getElem?_set_ne (fun q => e q.symm), ← List.getD_eq_getElem?_getD]
theorem RM.split (hW : WF y) (hR : RM y t) (h0 : 0 < (yG y).length) (h2 : 2 ≤ ((yG y).getD 0 g0).1.length) (hz : ((yG y).getD 0 g0).2 = (0, 0)) : RM (yGs y (gSp (yG y))) (marr t 9 ((gL (yG y)).getD (((yG y).getD 0 g0).1.length - ((yG y).getD 0 g0).1.length / 2) 0) 1) := by
  have hall := hR.all
  have hlen := gLen_le hW h0
  have hnd := hW.2.2.2.2.2.2.2.2.2.1
  obtain ⟨r1, rL, rT, rc, r5, r6, r7⟩ := hR
  refine ⟨r1, ?_, rT, rc, r5, r6, ?_⟩
  · show LaneOk _ (gL (gSp (yG y))) (gF (gSp (yG y)))
    rw [gSp_L, gSp_F h2]
    exact rL.beg hnd (by omega)
  · refine gAll_iff.mpr ?_
    intro g hg c hc
    rcases gSp_mem hg with ⟨g2, k1, k2, k3⟩ | ⟨k2, k3⟩
    · rw [k2]; exact hall g2 k1 c (k3 c hc)
    · have := r7 0 h0 c (k3 c hc)
      rw [hz] at this
      rw [k2]
      exact this
theorem rIns_e {xs : List Int32} {k : Nat} {v : Int32} (hl : xs.length < 40) (hk : k ≤ xs.length) : rIns xs (nI k) v = xs.insertIdx k v := by
  unfold rIns
  rw [nI_clamp (by omega), if_neg (by rintro (q | q | q); exact nI_pos (by omega) q; omega; omega)]
def zSp1 (z : zS) (n : Nat) : zS := zG_insG (zput z 9 (nI 0) (nI (n - n / 2))) (nI 1) (nI (n / 2))
theorem RC.split (hW : WF y) (hC : RC y z) (h0 : 0 < (yG y).length) (h2 : 2 ≤ ((yG y).getD 0 g0).1.length) : RC (yGs y (gSp (yG y))) (zSp1 z ((yG y).getD 0 g0).1.length) := by
  have hl : (gSp (yG y)).length ≤ 40 := by
    have h3 := (hW.split h2).gl
    exact h3
  obtain ⟨g, G, hG⟩ : ∃ g G, yG y = g :: G := by
    cases h : yG y with
    | nil => rw [h] at h0; simp at h0
    | cons g G => exact ⟨g, G, rfl⟩
  have e8 := hC.G8
  have e9 := hC.G9
  have e10 := hC.G10
  have e11 := hC.G11
  have h2' : 2 ≤ g.1.length := by rw [hG] at h2; exact h2
  have hg0 : ((yG y).getD 0 g0).1.length = g.1.length := by rw [hG]; rfl
  have hl2 : (gSp (g :: G)).length ≤ 40 := by rw [← hG]; exact hl
  have hl3 : G.length + 2 ≤ 40 := hl2
  have hsp : gSp (yG y) = (g.1.take (g.1.length - g.1.length / 2), g.2) :: (g.1.drop (g.1.length - g.1.length / 2), 0, 0) :: G := by rw [hG]; rfl
  rw [hG] at e9 e10 e11
  rw [hg0]
  refine RC.gs hC ?_ ?_ ?_ ?_ ?_ rfl rfl
  · rw [gSp_L, ← e8]
    rw [zSp1, zG_insG, zins, zrow_ne (by decide), zins, zrow_ne (by decide), zins, zrow_ne (by decide), zput, zrow_ne (by decide)]
  · rw [zSp1, zG_insG, zins, zrow_ne (by decide), zins, zrow_ne (by decide), zins, zrow_same, zput_set (by rw [e9]; simp) (by rw [e9]; simp; omega), e9, rIns_e (by simp; omega) (by simp), hsp]
    simp only [List.map_cons, List.set_cons_zero, List.insertIdx_succ_cons, List.insertIdx_zero, List.length_take, List.length_drop]
    rw [Nat.min_eq_left (by omega), show g.1.length - (g.1.length - g.1.length / 2) = g.1.length / 2 by omega]
  · rw [zSp1, zG_insG, zins, zrow_ne (by decide), zins, zrow_same, zins, zrow_ne (by decide), zput, zrow_ne (by decide), e10, rIns_e (by simp; omega) (by simp), hsp]
    rfl
  · rw [zSp1, zG_insG, zins, zrow_same, zins, zrow_ne (by decide), zins, zrow_ne (by decide), zput, zrow_ne (by decide), e11, rIns_e (by simp; omega) (by simp), hsp]
    rfl
  · intro r hr
    rw [zSp1, zG_insG, zins, zrow_ne (by omega), zins, zrow_ne (by omega), zins, zrow_ne (by omega), zput, zrow_ne (by omega)]
def yHv2 (y : yT) : yT := yGs y (gAn (gSp (yG y)) 0)
def mHv2 (y : yT) (t : mS) (n : Nat) : mS := mset (marr (mAn (gL (yG y)) (gF (yG y)) 0 t) 9 ((gL (yG y)).getD (n - n / 2) 0) 1) 9 (t.1 9 + 1)
theorem op_halve2 (hI : INV y z t) (h0 : 0 < (yG y).length) (h2 : 2 ≤ ((yG y).getD 0 g0).1.length) : INV (yHv2 y) (zQ_halve z) (mHv2 y t ((yG y).getD 0 g0).1.length) := by
  obtain ⟨hW, hC, hR, hS⟩ := hI
  have hl := hW.gl
  have hlen := gLen_le hW h0
  have htl := hW.tl
  have a9 : zat z 9 0 = nI ((yG y).getD 0 g0).1.length := (gatN hC hW h0).2.1
  have hW1 := hW.split h2
  have hC1 := RC.split hW hC h0 h2
  obtain ⟨c1, c2, c3, c4⟩ := RC.anew hC1 hW1.gl (Nat.zero_le _) (fun g hg => (hW1.2.2.2.2.2.2.2.2.2.2.2.1 g hg).1)
  have ez : zQ_halve z = zset (zG_anew (zSp1 z ((yG y).getD 0 g0).1.length) (nI 0)) 5 ((zG_anew (zSp1 z ((yG y).getD 0 g0).1.length) (nI 0)).1 5 + 1) := by
    have e : zG_split z = zG_anew (zSp1 z ((yG y).getD 0 g0).1.length) (nI 0) := by
      unfold zG_split zSp1
      rw [a9, div2 _ (by omega), pk_sub (by omega)]
      rfl
    unfold zQ_halve
    rw [a9, if_neg (show ¬ nI ((yG y).getD 0 g0).1.length ≤ (1 : Int32) from nI_ge (show 1 < ((yG y).getD 0 g0).1.length by omega) (by omega)), e]
  obtain ⟨e1, e2, e3, e4, e5⟩ := mAn_eff hW hR (Nat.zero_le _)
  have hR1 := RM.anew hW hR (Nat.zero_le _)
  have hat := gAn_at (yG y) 0 0 h0
  rw [if_neg (by omega)] at hat
  have hR2 := RM.split (hW.anew 0) hR1 (by show 0 < (gAn (yG y) 0).length; rw [gAn_len]; exact h0) (by show 2 ≤ ((gAn (yG y) 0).getD 0 g0).1.length; rw [hat]; exact h2) (by show ((gAn (yG y) 0).getD 0 g0).2 = _; rw [hat])
  have hR3 : RM (yHv2 y) (marr (mAn (gL (yG y)) (gF (yG y)) 0 t) 9 ((gL (yG y)).getD (((yG y).getD 0 g0).1.length - ((yG y).getD 0 g0).1.length / 2) 0) 1) := by
    have h3 : RM (yGs y (gSp (gAn (yG y) 0))) (marr (mAn (gL (yG y)) (gF (yG y)) 0 t) 9 ((gL (gAn (yG y) 0)).getD (((gAn (yG y) 0).getD 0 g0).1.length - ((gAn (yG y) 0).getD 0 g0).1.length / 2) 0) 1) := hR2
    rw [gSp_an, gAn_L, hat] at h3
    exact h3
  refine ⟨hW1.anew 0, ?_, hR3.sc (Or.inr (Or.inl rfl)) _, ?_⟩
  · rw [ez]; exact c1
  · rw [ez]
    have h5 : (zG_anew (zSp1 z ((yG y).getD 0 g0).1.length) (nI 0)).1 5 = z.1 5 := c3 5 (by decide)
    have hask : gAsk (yG (yGs y (gSp (yG y)))) 0 = gAsk (yG y) 0 := gSp_ask (yG y)
    have h7 : (zG_anew (zSp1 z ((yG y).getD 0 g0).1.length) (nI 0)).1 7 = z.1 7 + nI (gAsk (yG y) 0) := by rw [c2, hask]; rfl
    have hr1 : (zG_anew (zSp1 z ((yG y).getD 0 g0).1.length) (nI 0)).2.1 1 = z.2.1 1 := by
      rw [c4, zSp1, zG_insG, zins, zrow_ne (by omega), zins, zrow_ne (by omega), zins, zrow_ne (by omega), zput, zrow_ne (by omega)]
    have hi : ∀ q, q ≠ 7 → (zG_anew (zSp1 z ((yG y).getD 0 g0).1.length) (nI 0)).1 q = z.1 q := fun q hq => c3 q hq
    generalize zG_anew (zSp1 z ((yG y).getD 0 g0).1.length) (nI 0) = z' at *
    have m0 : ∀ q, q ≠ 9 → (mHv2 y t ((yG y).getD 0 g0).1.length).1 q = (mAn (gL (yG y)) (gF (yG y)) (gB (yG y) 0) t).1 q := by
      intro q hq
      show va_up _ 9 _ q = _
      simp only [va_up, if_neg hq]
      rfl
    have m9 : (mHv2 y t ((yG y).getD 0 g0).1.length).1 9 = t.1 9 + 1 := rfl
    have m1 : (mHv2 y t ((yG y).getD 0 g0).1.length).2 1 = t.2 1 := by
      rw [← e1 1 (by decide) (by decide)]
      exact marr_o (t := mAn (gL (yG y)) (gF (yG y)) 0 t) (a := 9) (b := 1) (k := (gL (yG y)).getD (((yG y).getD 0 g0).1.length - ((yG y).getD 0 g0).1.length / 2) 0) (v := 1) (by decide)
    have z0 : ∀ q, (zset z' 5 (z'.1 5 + 1)).1 q = if q = 5 then z.1 5 + 1 else z'.1 q := by
      intro q
      show va_up z'.1 5 (z'.1 5 + 1) q = _
      rw [h5]
      rfl
    unfold RS at hS ⊢
    rw [z0 0, z0 1, z0 2, z0 3, z0 4, z0 5, z0 7, m0 0 (by decide), m0 1 (by decide), m0 2 (by decide), m0 11 (by decide), m0 8 (by decide), m9, m0 10 (by decide), m1, e4 0 (by decide), e4 1 (by decide), e4 2 (by decide), e4 11 (by decide), e4 8 (by decide), e5]
    obtain ⟨s0, s1, s2, s3, s4, s5, s7, s8, s9, s10⟩ := hS
    refine ⟨?_, ?_, ?_, ?_, ?_, ?_, ?_, ?_, s9, s10⟩
    · rw [if_neg (by decide), hi 0 (by decide)]; exact s0
    · rw [if_neg (by decide), hi 1 (by decide)]; exact s1
    · rw [if_neg (by decide), hi 2 (by decide)]; exact s2
    · rw [if_neg (by decide), hi 3 (by decide)]; exact s3
    · rw [if_neg (by decide), hi 4 (by decide)]; exact s4
    · rw [if_pos rfl, s5]
    · rw [if_neg (by decide), h7, s7]
    · show ∀ c, c < yn y → (z'.2.1 1).getD c (-1) = t.2 1 c
      rw [hr1]; exact s8
theorem yM_sizeOf0 (hR : RM y t) (hW : WF y) (hm : isM p t h) (h0 : 0 < (yG y).length) : AM (d + 1) kM_sizeOf 0 0 none [.ref 28, .int 0] h (fun v h' => v = some (.int (nI ((yG y).getD 0 g0).1.length)) ∧ isM p t h') := yM_sizeOf hR hW hm h0
theorem yM_stateOf0 (hR : RM y t) (hW : WF y) (hm : isM p t h) (h0 : 0 < (yG y).length) : AM (d + 1) kM_stateOf 0 0 none [.ref 28, .int 0] h (fun v h' => v = some (.int (nI ((yG y).getD 0 g0).2.1)) ∧ isM p t h') := yM_stateOf hR hW hm h0
theorem sM_beginAnew0 {L : List Nat} {B : List Bool} (hL : LaneOk t L B) (hm : isM p t h) : AM d kM_beginAnew 0 0 none [.ref 28, .int 0] h (fun v h' => v = none ∧ isM p (mAn L B 0 t) h') := sM_beginAnew (m := 0) hL hm (by decide)
theorem sM_goFrom0 {L : List Nat} {B : List Bool} (hL : LaneOk t L B) (hm : isM p t h) (ha : 0 < L.length) : AM d kM_goFrom 0 0 none [.ref 28, .int 0] h (fun v h' => v = none ∧ isM p (mGo t L B 0) h') := sM_goFrom (a := 0) hL hm ha
theorem LaneOk.an (hW : WF y) (hR : RM y t) : LaneOk (mAn (gL (yG y)) (gF (yG y)) 0 t) (gL (yG y)) (gF (yG y)) := by
  have h : LaneOk (mAn (gL (yG y)) (gF (yG y)) 0 t) (gL (gAn (yG y) 0)) (gF (gAn (yG y) 0)) := (RM.anew hW hR (Nat.zero_le _)).2.1
  rw [gAn_L, gAn_F] at h
  exact h
theorem yM_halve1 (hR : RM y t) (hW : WF y) (hm : isM p t h) (h0 : 0 < (yG y).length) (h1 : ((yG y).getD 0 g0).1.length = 1) : AM (d + 2) kM_halve 0 0 none [.ref 28] h (fun v h' => v = none ∧ isM p (mHv1 y t) h') := by
  have hL1 := LaneOk.an hW hR
  have hlen := gLen_le hW h0
  have h3 := hL1.2.2.2 0 (by omega)
  have e7 : (mGo (mAn (gL (yG y)) (gF (yG y)) 0 t) (gL (yG y)) (gF (yG y)) 0).1 7 = t.1 7 := by
    rw [mGo_1 _ _ _ _ (by decide)]
    exact (mAn_eff hW hR (Nat.zero_le _)).2.2.2.1 7 (by decide)
  refine AX.aload_n rfl rfl ?_
  refine AX.iconstV (v := 0) rfl (by decide) ?_
  refine AX.cVI rfl rfl rfl (M0 hm) (yM_sizeOf0 hR hW hm h0) (fun h hm => ?_)
  refine AX.istore_n rfl (by decide) ?_
  refine AX.aload_n rfl rfl ?_
  refine AX.iconstV (v := 0) rfl (by decide) ?_
  refine AX.cVV rfl rfl rfl (M0 hm) (sM_beginAnew0 hR.2.1 hm) (fun h hm => ?_)
  refine AX.iload_n rfl rfl ?_
  refine AX.iconstV (v := 1) rfl (by decide) ?_
  refine AX.icmp_le rfl (fun _ => ?_) (fun c => absurd (by rw [h1]; decide) c)
  refine AX.aload_n rfl rfl ?_
  refine AX.getf rfl (M0 hm) rfl ?_
  refine AX.iconstV (v := 0) rfl (by decide) ?_
  refine AX.ialdX rfl (MA hm 7 (by decide) (by decide) (by decide)) (by decide) (⟨0, by decide, rfl, h3.1⟩) ?_
  refine AX.istore_n rfl (by decide) ?_
  refine AX.aload_n rfl rfl ?_
  refine AX.iconstV (v := 0) rfl (by decide) ?_
  refine AX.cVV rfl rfl rfl (M0 hm) (sM_goFrom0 hL1 hm (by omega)) (fun h hm => ?_)
  refine AX.aload_n rfl rfl ?_
  refine AX.getf rfl (M0 hm) rfl ?_
  refine AX.iload_n rfl rfl ?_
  refine AX.iconstV (v := 3) rfl (by decide) ?_
  refine AX.iastX ((gL (yG y)).getD 0 0) rfl (MA hm 2 (by decide) (by decide) (by decide)) (by decide) (h3.2.1) (rfl) ?_
  refine AX.gen (G := isM p _) (MW hm 2 _ _ (by decide) (by decide) (by decide)) (fun h hm => ?_)
  refine AX.aload_n rfl rfl ?_
  refine AX.getf rfl (M0 hm) rfl ?_
  refine AX.iload_n rfl rfl ?_
  refine AX.iconstV (v := 1) rfl (by decide) ?_
  refine AX.iastX ((gL (yG y)).getD 0 0) rfl (MA hm 4 (by decide) (by decide) (by decide)) (by decide) (h3.2.1) (rfl) ?_
  refine AX.gen (G := isM p _) (MW hm 4 _ _ (by decide) (by decide) (by decide)) (fun h hm => ?_)
  refine AX.aload_n rfl rfl ?_
  refine AX.getf rfl (M0 hm) rfl ?_
  refine AX.iload_n rfl rfl ?_
  refine AX.aload_n rfl rfl ?_
  refine AX.getf rfl (M0 hm) rfl ?_
  refine AX.iastX ((gL (yG y)).getD 0 0) rfl (MA hm 5 (by decide) (by decide) (by decide)) (by decide) (h3.2.1) (rfl) ?_
  refine AX.gen (G := isM p _) (MW hm 5 _ _ (by decide) (by decide) (by decide)) (fun h hm => ?_)
  exact AX.vreturn rfl rfl ⟨rfl, by unfold mHv1; rw [← e7]; exact hm⟩ (Nat.le_refl _) (Nat.le_refl _)
theorem yM_halve2 (hR : RM y t) (hW : WF y) (hm : isM p t h) (h0 : 0 < (yG y).length) (h2 : 2 ≤ ((yG y).getD 0 g0).1.length) : AM (d + 2) kM_halve 0 0 none [.ref 28] h (fun v h' => v = none ∧ isM p (mHv2 y t ((yG y).getD 0 g0).1.length) h') := by
  have hL1 := LaneOk.an hW hR
  have hlen := gLen_le hW h0
  have h40 := hL1.2.1
  have h3 := hL1.2.2.2 (((yG y).getD 0 g0).1.length - ((yG y).getD 0 g0).1.length / 2) (by omega)
  have e9 : (mAn (gL (yG y)) (gF (yG y)) 0 t).1 9 = t.1 9 := (mAn_eff hW hR (Nat.zero_le _)).2.2.2.1 9 (by decide)
  refine AX.aload_n rfl rfl ?_
  refine AX.iconstV (v := 0) rfl (by decide) ?_
  refine AX.cVI rfl rfl rfl (M0 hm) (yM_sizeOf0 hR hW hm h0) (fun h hm => ?_)
  refine AX.istore_n rfl (by decide) ?_
  refine AX.aload_n rfl rfl ?_
  refine AX.iconstV (v := 0) rfl (by decide) ?_
  refine AX.cVV rfl rfl rfl (M0 hm) (sM_beginAnew0 hR.2.1 hm) (fun h hm => ?_)
  refine AX.iload_n rfl rfl ?_
  refine AX.iconstV (v := 1) rfl (by decide) ?_
  refine AX.icmp_le rfl (fun c => absurd c (show ¬ nI ((yG y).getD 0 g0).1.length ≤ nI 1 from nI_ge (by omega) (by omega))) (fun _ => ?_)
  refine AX.aload_n rfl rfl ?_
  refine AX.getf rfl (M0 hm) rfl ?_
  refine AX.aload_n rfl rfl ?_
  refine AX.getf rfl (M0 hm) rfl ?_
  refine AX.iload_n rfl rfl ?_
  refine AX.iconstV (v := 1) rfl (by decide) ?_
  refine AX.iadd rfl ?_
  refine AX.iconstV (v := 2) rfl (by decide) ?_
  refine AX.idiv rfl (by decide) ?_
  refine AX.ialdX rfl (MA hm 7 (by decide) (by decide) (by decide)) (by decide) (⟨((yG y).getD 0 g0).1.length - ((yG y).getD 0 g0).1.length / 2, by omega, div2b _ (by omega), h3.1⟩) ?_
  refine AX.iconstV (v := 1) rfl (by decide) ?_
  refine AX.zastX ((gL (yG y)).getD (((yG y).getD 0 g0).1.length - ((yG y).getD 0 g0).1.length / 2) 0) rfl (MA9 hm) (by decide) (h3.2.1) (rfl) (by decide) ?_
  refine AX.gen (G := isM p _) (MW9 hm _ _) (fun h hm => ?_)
  refine AX.aload_n rfl rfl ?_
  refine AX.dup rfl rfl ?_
  refine AX.getf rfl (M0 hm) rfl ?_
  refine AX.iconstV (v := 1) rfl (by decide) ?_
  refine AX.iadd rfl ?_
  refine AX.putf rfl (M0 hm) (Nat.le_of_ble_eq_true rfl) rfl ?_
  refine AX.gen (G := isM p _) (MS hm 9 _ (by decide) rfl) (fun h hm => ?_)
  exact AX.vreturn rfl rfl ⟨rfl, by unfold mHv2; rw [← e9]; exact hm⟩ (Nat.le_refl _) (Nat.le_refl _)
end HA
end
section
/-! The first group lands -/
section LA
variable {y : yT} {z : zS} {t : mS} {p h : ax_H} {d : Nat}
def y1c (y : yT) : Nat := (gL (yG y)).getD 0 0
def yTk1 (y : yT) (c : Nat) : yT := ylst (yup y 1 c 2) 1 (yTr y ++ [c])
def yLd1 (y : yT) : yT := yGs (yTk1 y (y1c y)) (gRm (yG y) 0 0)
def mLd0 (t : mS) (c n : Nat) : mS := mset (marr (marr t 2 c 2) 8 n (nI c)) 7 (nI (n + 1))
def mLd1 (y : yT) (t : mS) : mS := mGo (mLd0 t (y1c y) (yTr y).length) (gL (yG y)) (gF (yG y)) 0
theorem g1 (hW : WF y) (h0 : 0 < (yG y).length) : 0 < ((yG y).getD 0 g0).1.length ∧ ((yG y).getD 0 g0).1.getD 0 0 = y1c y ∧ y1c y ∈ gL (yG y) ∧ y1c y < yn y ∧ ypl y (y1c y) = 1 ∧ 0 < (gL (yG y)).length := by
  have hne : ((yG y).getD 0 g0).1 ≠ [] := hW.2.2.2.2.2.2.2.2.1 _ (List.mem_of_getElem? (getD_some h0))
  have h1 : 0 < ((yG y).getD 0 g0).1.length := List.length_pos_iff.mpr hne
  have h2 := gLen_le hW h0
  have h3 : y1c y ∈ gL (yG y) := getD_mem (by omega)
  have h4 := (hW.2.2.2.2.2.2.2.2.2.2.1 (y1c y)).mp h3
  exact ⟨h1, (gL_at (i := 0) (j := 0) h0 h1).symm, h3, h4.1, h4.2, by omega⟩
theorem WF.land1 (hW : WF y) (h0 : 0 < (yG y).length) : WF (yLd1 y) := by
  obtain ⟨a1, a2, a3, a4, a5, a6⟩ := g1 hW h0
  obtain ⟨w1, w2, w3, w4, w5, w6, w7, w8, w9, w10, w11, w12, w13, w14, w15⟩ := id hW
  have hL' : gL (gRm (yG y) 0 0) = (gL (yG y)).eraseIdx 0 := by
    have := gRm_L (yG y) 0 0 h0 a1
    rw [gB_0] at this
    exact this
  have hP : ∀ c, ypl (yLd1 y) c = if c = y1c y then 2 else ypl y c := fun c => rfl
  refine ⟨w1, ?_, w3, w4, w5, ?_, ?_, ?_, gRm_ne w9, ?_, ?_, ?_, w13, w14, ?_⟩
  · intro c hc
    obtain ⟨a, b, e, f, g⟩ := w2 c hc
    refine ⟨a, ?_, e, f, g⟩
    rw [hP c]; split <;> omega
  · intro c
    show c ∈ yQ y ↔ c < yn y ∧ ypl (yLd1 y) c = 0
    rw [hP c, w6 c]
    by_cases e : c = y1c y
    · rw [if_pos e, e]
      constructor
      · rintro ⟨-, q⟩; omega
      · rintro ⟨-, q⟩; omega
    · rw [if_neg e]
  · show (yTr y ++ [y1c y]).Nodup
    rw [List.nodup_append]
    refine ⟨w7, by simp, ?_⟩
    intro a ha b hb e
    rw [List.mem_singleton] at hb
    subst hb
    have := ((w8 a).mp ha).2
    rw [e] at this
    omega
  · intro c
    show c ∈ yTr y ++ [y1c y] ↔ c < yn y ∧ ypl (yLd1 y) c = 2
    rw [hP c, List.mem_append, w8 c, List.mem_singleton]
    by_cases e : c = y1c y
    · rw [if_pos e, e]
      exact ⟨fun _ => ⟨a4, rfl⟩, fun _ => Or.inr rfl⟩
    · rw [if_neg e]
      exact ⟨fun q => q.resolve_right e, Or.inl⟩
  · show (gL (gRm (yG y) 0 0)).Nodup
    rw [hL']
    exact w10.sublist (List.eraseIdx_sublist _ _)
  · intro c
    show c ∈ gL (gRm (yG y) 0 0) ↔ c < yn y ∧ ypl (yLd1 y) c = 1
    rw [hP c, hL', mem_er w10 a6, w11 c]
    show (c < yn y ∧ ypl y c = 1) ∧ c ≠ y1c y ↔ _
    by_cases e : c = y1c y
    · rw [if_pos e]
      constructor
      · rintro ⟨-, q⟩; exact absurd e q
      · rintro ⟨-, q⟩; cases q
    · rw [if_neg e]
      exact ⟨fun q => q.1, fun q => ⟨q, e⟩⟩
  · intro g hg
    obtain ⟨g2, k1, k2, k3⟩ := gRm_mem h0 hg
    rw [k2]
    exact w12 g2 k1
  · intro c hc
    show ywy y c = 0 ↔ ypl (yLd1 y) c ≠ 3
    rw [hP c]
    by_cases e : c = y1c y
    · rw [if_pos e]
      have := w15 c hc
      rw [e] at this ⊢
      rw [this, a5]
      simp
    · rw [if_neg e]; exact w15 c hc
theorem RM.tk (hW : WF y) (hR : RM y t) (h0 : 0 < (yG y).length) : RM (yTk1 y (y1c y)) (mLd0 t (y1c y) (yTr y).length) := by
  obtain ⟨a1, a2, a3, a4, a5, a6⟩ := g1 hW h0
  have hp := hR.pl (c := y1c y) (v := 2)
  obtain ⟨⟨r0, r1, r2, r3⟩, rL, rT, rc, r5, r6, r7⟩ := hp
  refine ⟨⟨r0, r1, r2, ?_⟩, rL.cong rfl rfl rfl, ?_, rc, r5, r6, r7⟩
  · show nI ((yTr y).length + 1) = nI (yTr y ++ [y1c y]).length
    rw [List.length_append]; rfl
  · intro i hi
    have hi2 : i < (yTr y ++ [y1c y]).length := hi
    rw [List.length_append, List.length_singleton] at hi2
    show (marr (marr t 2 (y1c y) 2) 8 (yTr y).length (nI (y1c y))).2 8 i = nI ((yTr y ++ [y1c y]).getD i 0)
    by_cases e : i = (yTr y).length
    · subst e
      rw [marr_eq, List.getD_eq_getElem?_getD, List.getElem?_concat_length]
      rfl
    · rw [marr_k e, List.getD_eq_getElem?_getD, List.getElem?_append_left (by omega), ← List.getD_eq_getElem?_getD]
      exact rT i (by show i < (yTr y).length; omega)
theorem RM.land1 (hW : WF y) (hR : RM y t) (h0 : 0 < (yG y).length) : RM (yLd1 y) (mLd1 y t) := by
  obtain ⟨a1, a2, a3, a4, a5, a6⟩ := g1 hW h0
  have h1 := hR.tk hW h0
  have hall := h1.all
  have hnd := hW.2.2.2.2.2.2.2.2.2.1
  have hne := hW.2.2.2.2.2.2.2.2.1
  obtain ⟨⟨r0, r1, r2, r3⟩, rL, rT, rc, r5, r6, r7⟩ := h1
  refine ⟨⟨(mGo_1 _ _ _ _ (by decide)).trans r0, (mGo_1 _ _ _ _ (by decide)).trans r1, (mGo_1 _ _ _ _ (by decide)).trans r2, (mGo_1 _ _ _ _ (by decide)).trans r3⟩, ?_, ?_, ?_, ?_, ?_, ?_⟩
  · show LaneOk _ (gL (gRm (yG y) 0 0)) (gF (gRm (yG y) 0 0))
    rw [gRm_L _ 0 0 h0 a1, gRm_F _ 0 0 hne h0 a1]
    exact LaneOk.go (a := 0) rL hnd a6
  · unfold mLd1; rw [mGo_2 _ _ _ _ (by decide) (by decide)]; exact rT
  · unfold mLd1; rw [mGo_2 _ _ _ _ (by decide) (by decide)]; exact rc
  · unfold mLd1; rw [mGo_2 _ _ _ _ (by decide) (by decide), mGo_2 _ _ _ _ (by decide) (by decide), mGo_2 _ _ _ _ (by decide) (by decide), mGo_2 _ _ _ _ (by decide) (by decide), mGo_2 _ _ _ _ (by decide) (by decide)]; exact r5
  · unfold mLd1; rw [mGo_2 _ _ _ _ (by decide) (by decide), mGo_2 _ _ _ _ (by decide) (by decide), mGo_2 _ _ _ _ (by decide) (by decide)]; exact r6
  · refine gAll_iff.mpr ?_
    intro g hg c hc
    unfold mLd1
    rw [mGo_2 _ _ _ _ (by decide) (by decide), mGo_2 _ _ _ _ (by decide) (by decide)]
    obtain ⟨g2, k1, k2, k3⟩ := gRm_mem h0 hg
    rw [k2]
    exact hall g2 k1 c (k3 c hc)
def yLdI : Nat → yT → yT
  | 0, y => y
  | n + 1, y => yLdI n (yLd1 y)
def mLdI : Nat → yT → mS → mS
  | 0, _, t => t
  | n + 1, y, t => mLdI n (yLd1 y) (mLd1 y t)
theorem ld_first {n : Nat} (h0 : 0 < (yG y).length) (h : ((yG y).getD 0 g0).1.length = n + 1) (hn : 0 < n) : 0 < (yG (yLd1 y)).length ∧ ((yG (yLd1 y)).getD 0 g0).1.length = n := by
  have e : ¬ ((yG y).getD 0 g0).1.eraseIdx 0 = [] := by
    intro e
    have := congrArg List.length e
    rw [List.length_eraseIdx, if_pos (by omega), List.length_nil] at this
    omega
  have eG : yG (yLd1 y) = (yG y).set 0 (((yG y).getD 0 g0).1.eraseIdx 0, ((yG y).getD 0 g0).2) := by
    show gRm (yG y) 0 0 = _
    unfold gRm
    rw [if_neg e]
  rw [eG]
  refine ⟨by rw [List.length_set]; exact h0, ?_⟩
  rw [List.getD_eq_getElem?_getD, List.getElem?_set_self h0]
  show (((yG y).getD 0 g0).1.eraseIdx 0).length = n
  rw [List.length_eraseIdx, if_pos (by omega), h]
  rfl
/-- the model's loop -/
theorem land_inv : ∀ (n : Nat) (y : yT) (t : mS), WF y → RM y t → (n = 0 ∨ (0 < (yG y).length ∧ ((yG y).getD 0 g0).1.length = n)) → WF (yLdI n y) ∧ RM (yLdI n y) (mLdI n y t) := by
  intro n
  induction n with
  | zero => intro y t hW hR _; exact ⟨hW, hR⟩
  | succ n ih =>
    intro y t hW hR h
    rcases h with h | ⟨h0, h1⟩
    · cases h
    · refine ih (yLd1 y) (mLd1 y t) (hW.land1 h0) (hR.land1 hW h0) ?_
      cases n with
      | zero => exact Or.inl rfl
      | succ n => exact Or.inr (ld_first h0 h1 (by omega))
theorem yM_land_l : ∀ (n m e : Nat) (y : yT) (t : mS) (h : ax_H), WF y → RM y t → (n = 0 ∨ (0 < (yG y).length ∧ ((yG y).getD 0 g0).1.length = n)) → isM p t h → e = m + n → e ≤ 40 →
    AX (d + 3) kM_land 0 0 none 8 [(2, .int (nI m)), (1, .int (nI e)), (0, .ref 28)] [] h 0 0 (ax_ret kM_land 0 0 (fun v h' => v = none ∧ isM p (mClear (mLdI n y t) (ycf y) (yTr (yLdI n y)) (yn y)) h')) := by
  intro n
  induction n with
  | zero =>
    intro m e y t h hW hR _ hm hb he
    refine AX.iload_n rfl rfl ?_
    refine AX.iload_n rfl rfl ?_
    refine AX.icmp_ge rfl (fun c1 => ?_) (fun c1 => ?_)
    · refine AX.aload_n rfl rfl ?_
      refine AX.cVV rfl rfl rfl (M0 hm) (sM_clear hR.1.2.1 hW.1 hR.2.2.2.1 hR.1.2.2.2 (RM.tr4 hW) (hR.t2 hW) hm) (fun h hm => ?_)
      exact AX.vreturn rfl rfl ⟨rfl, hm⟩ (Nat.le_refl _) (Nat.le_refl _)
    · exact absurd (nI_le (by omega) (by omega)) c1
  | succ n ih =>
    intro m e y t h hW hR hn hm hb he
    rcases hn with hn | ⟨h0, h1⟩
    · cases hn
    · obtain ⟨a1, a2, a3, a4, a5, a6⟩ := g1 hW h0
      have htl := hW.tl
      have hn := hW.1
      have h3 := hR.2.1.2.2.2 0 a6
      have hT := hR.tk hW h0
      have e7 : t.1 7 = nI (yTr y).length := hR.1.2.2.2
      refine AX.iload_n rfl rfl ?_
      refine AX.iload_n rfl rfl ?_
      refine AX.icmp_ge rfl (fun c1 => ?_) (fun c1 => ?_)
      · exact absurd c1 (nI_ge (by omega) (by omega))
      · refine AX.aload_n rfl rfl ?_
        refine AX.getf rfl (M0 hm) rfl ?_
        refine AX.iconstV (v := 0) rfl (by decide) ?_
        refine AX.ialdX rfl (MA hm 7 (by decide) (by decide) (by decide)) (by decide) (⟨0, by decide, rfl, h3.1⟩) ?_
        refine AX.istore_n rfl (by decide) ?_
        refine AX.aload_n rfl rfl ?_
        refine AX.getf rfl (M0 hm) rfl ?_
        refine AX.iload_n rfl rfl ?_
        refine AX.iconstV (v := 2) rfl (by decide) ?_
        refine AX.iastX (y1c y) rfl (MA hm 2 (by decide) (by decide) (by decide)) (by decide) (h3.2.1) (rfl) ?_
        refine AX.gen (G := isM p _) (MW hm 2 _ _ (by decide) (by decide) (by decide)) (fun h hm => ?_)
        refine AX.aload_n rfl rfl ?_
        refine AX.getf rfl (M0 hm) rfl ?_
        refine AX.aload_n rfl rfl ?_
        refine AX.getf rfl (M0 hm) rfl ?_
        refine AX.iload_n rfl rfl ?_
        refine AX.iastX ((yTr y).length) rfl (MA hm 8 (by decide) (by decide) (by decide)) (by decide) (by omega) (e7) ?_
        refine AX.gen (G := isM p _) (MW hm 8 _ _ (by decide) (by decide) (by decide)) (fun h hm => ?_)
        refine AX.aload_n rfl rfl ?_
        refine AX.dup rfl rfl ?_
        refine AX.getf rfl (M0 hm) rfl ?_
        refine AX.iconstV (v := 1) rfl (by decide) ?_
        refine AX.iadd rfl ?_
        refine AX.putf rfl (M0 hm) (Nat.le_of_ble_eq_true rfl) rfl ?_
        refine AX.gen (G := isM p _) (MS hm 7 _ (by decide) rfl) (fun h hm => ?_)
        have hm : isM p (mLd0 t (y1c y) (yTr y).length) h := by unfold mLd0; rw [← nI_1, ← e7]; exact hm
        refine AX.aload_n rfl rfl ?_
        refine AX.iconstV (v := 0) rfl (by decide) ?_
        refine AX.cVV rfl rfl rfl (M0 hm) (sM_goFrom0 hT.2.1 hm a6) (fun h hm => ?_)
        refine AX.iincV (dn := 1) rfl rfl (by decide) (by decide) ?_
        refine AX.goto rfl ?_
        rw [nI_1]
        refine AX.sub [0, 2, 3] rfl ?_
        exact ih (m + 1) e (yLd1 y) (mLd1 y t) h (hW.land1 h0) (hR.land1 hW h0) (by cases n with | zero => exact Or.inl rfl | succ n => exact Or.inr (ld_first h0 h1 (by omega))) hm (by omega) he
theorem yM_land (hR : RM y t) (hW : WF y) (hm : isM p t h) (h0 : 0 < (yG y).length) : AM (d + 3) kM_land 0 0 none [.ref 28] h (fun v h' => v = none ∧ isM p (mClear (mLdI ((yG y).getD 0 g0).1.length y t) (ycf y) (yTr (yLdI ((yG y).getD 0 g0).1.length y)) (yn y)) h') := by
  have hlen := gLen_le hW h0
  have h40 := hR.2.1.2.1
  refine AX.aload_n rfl rfl ?_
  refine AX.iconstV (v := 0) rfl (by decide) ?_
  refine AX.cVI rfl rfl rfl (M0 hm) (yM_sizeOf0 hR hW hm h0) (fun h hm => ?_)
  refine AX.istore_n rfl (by decide) ?_
  refine AX.iconstV (v := 0) rfl (by decide) ?_
  refine AX.istore_n rfl (by decide) ?_
  exact yM_land_l _ 0 _ y t h hW hR (Or.inr ⟨h0, rfl⟩) hm (by omega) (by omega)
-- the class
theorem zBase_cong {z z' : zS} (h9 : z'.2.1 9 = z.2.1 9) : ∀ (n m : Nat) (acc : Int32), zBase z' n m acc = zBase z n m acc := by
  intro n
  induction n with
  | zero => intro m acc; rfl
  | succ n ih => intro m acc; rw [zBase, zBase, ih, zat, zat, h9]
theorem zMem_cong {z z' : zS} (h8 : z'.2.1 8 = z.2.1 8) (h9 : z'.2.1 9 = z.2.1 9) (h10 : z'.2.1 10 = z.2.1 10) (g k : Int32) : zG_member z' g k = zG_member z g k := by
  unfold zG_member zG_base zat
  rw [h8, h9, h10]
  simp only [zBase_cong h9]
def yTk : List Nat → yT → yT
  | [], y => y
  | c :: r, y => yTk r (yTk1 y c)
theorem yTk_gs : ∀ (l : List Nat) (y : yT) (G : List gT), yTk l (yGs y G) = yGs (yTk l y) G := by
  intro l
  induction l with
  | nil => intro y G; rfl
  | cons c l ih => intro y G; exact ih (yTk1 y c) G
theorem yTk_n : ∀ (l : List Nat) (y : yT), yn (yTk l y) = yn y ∧ yG (yTk l y) = yG y ∧ ycf (yTk l y) = ycf y ∧ (yTr (yTk l y)).length = (yTr y).length + l.length := by
  intro l
  induction l with
  | nil => intro y; exact ⟨rfl, rfl, rfl, rfl⟩
  | cons c l ih =>
    intro y
    obtain ⟨a, b, e, f⟩ := ih (yTk1 y c)
    refine ⟨a, b, e, ?_⟩
    show (yTr (yTk l (yTk1 y c))).length = _
    rw [f]
    show (yTr y ++ [c]).length + l.length = _
    rw [List.length_append, List.length_cons, List.length_cons, List.length_nil]
    omega
theorem RC.tk1 (hC : RC y z) {c : Nat} (hn : yn y ≤ 40) (hc : c < yn y) (ht : (yTr y).length < 40) : RC (yTk1 y c) (zapp (zput z 2 (nI c) 2) 7 (nI c)) := by
  have h1 := RC.pl hC (v := 2) hn hc
  refine RC.T h1 _ ?_
  have e : (zput z 2 (nI c) 2).2.1 7 = (yTr y).map nI := h1.R7
  show rIns ((zput z 2 (nI c) 2).2.1 7) (nI ((zput z 2 (nI c) 2).2.1 7).length) (nI c) = _
  rw [rIns_end (by rw [e, List.length_map]; exact ht), e, List.map_append]
  rfl
theorem zLand_eff {y0 : yT} {z0 : zS} (hC0 : RC y0 z0) (hW0 : WF y0) (h0 : 0 < (yG y0).length) : ∀ (n m : Nat) (y : yT) (z : zS), RC y z → yn y = yn y0 → (yTr y).length = (yTr y0).length + m → ((yG y0).getD 0 g0).1.length = m + n → z.2.1 8 = z0.2.1 8 → z.2.1 9 = z0.2.1 9 → z.2.1 10 = z0.2.1 10 → RC (yTk (((yG y0).getD 0 g0).1.drop m) y) (zLand n m z) ∧ (zLand n m z).1 = z.1 ∧ (zLand n m z).2.1 1 = z.2.1 1 := by
  have hl := hW0.gl
  have hlen := gLen_le hW0 h0
  have htl := hW0.tl
  have hn0 := hW0.1
  intro n
  induction n with
  | zero =>
    intro m y z hC _ _ hb _ _ _
    rw [List.drop_eq_nil_of_le (by omega)]
    exact ⟨hC, rfl, rfl⟩
  | succ n ih =>
    intro m y z hC hn ht hb e8 e9 e10
    have hm : m < ((yG y0).getD 0 g0).1.length := by omega
    rw [drop_getD (x := 0) hm, zLand]
    have hmem : zG_member z 0 (nI m) = nI (((yG y0).getD 0 g0).1.getD m 0) := by
      rw [zMem_cong e8 e9 e10, same_member hC0 hW0, yMember, if_pos (by show isC (yG y0).length (nI 0) = true; rw [isC_nI hl (by decide)]; simpa using h0), if_neg (nI_pos (by omega)), nI_clamp (by omega)]
      show (if nI m < nI ((yG y0).getD 0 g0).1.length then nI (((yG y0).getD 0 g0).1.getD m 0) else -1) = _
      rw [if_pos ((nI_ltI (by omega) (by omega)).mpr hm)]
    have hin : ((yG y0).getD 0 g0).1.getD m 0 < yn y := by
      rw [hn]
      exact ((hW0.2.2.2.2.2.2.2.2.2.2.1 _).mp (mem_gL h0 (getD_mem hm))).1
    have h1 : RC (yTk1 y (((yG y0).getD 0 g0).1.getD m 0)) (zLand1 z m) := by
      unfold zLand1
      rw [hmem]
      exact hC.tk1 (by omega) hin (by omega)
    have er : ∀ r, r ≠ 2 → r ≠ 7 → (zLand1 z m).2.1 r = z.2.1 r := by
      intro r h2 h7
      rw [zLand1, zapp, zrow_ne h7, zput, zrow_ne h2]
    obtain ⟨i1, i2, i3⟩ := ih (m + 1) (yTk1 y (((yG y0).getD 0 g0).1.getD m 0)) (zLand1 z m) h1 hn (by show (yTr y ++ [_]).length = _; rw [List.length_append, List.length_singleton, ht]; omega) (by omega) (by rw [er 8 (by decide) (by decide), e8]) (by rw [er 9 (by decide) (by decide), e9]) (by rw [er 10 (by decide) (by decide), e10])
    exact ⟨i1, i2, by rw [i3, er 1 (by decide) (by decide)]⟩
theorem zRemF_eff : ∀ (n : Nat) (z : zS), (z.2.1 8).length ≤ 40 → n ≤ (z.2.1 8).length → (zRemF z n).2.1 8 = (z.2.1 8).drop n ∧ (∀ r, r ≠ 8 → (zRemF z n).2.1 r = z.2.1 r) ∧ (zRemF z n).1 = z.1 ∧ (zRemF z n).2.2 = z.2.2 := by
  intro n
  induction n with
  | zero => intro z _ _; exact ⟨rfl, fun _ _ => rfl, rfl, rfl⟩
  | succ n ih =>
    intro z h1 h2
    have e : (zrem z 8 0).2.1 8 = (z.2.1 8).drop 1 := by
      rw [zrem, zrow_same]
      have := rRem_e (xs := z.2.1 8) (k := 0) (by omega) h1
      rw [List.eraseIdx_zero] at this
      rw [show rRem (z.2.1 8) 0 = (z.2.1 8).tail from this, List.drop_one]
    obtain ⟨i1, i2, i3, i4⟩ := ih (zrem z 8 0) (by rw [e, List.length_drop]; omega) (by rw [e, List.length_drop]; omega)
    rw [zRemF]
    refine ⟨by rw [i1, e, List.drop_drop, Nat.add_comm], fun r hr => by rw [i2 r hr, zrem, zrow_ne hr], i3, i4⟩
theorem yLdI_eq : ∀ (ms : List Nat) (y : yT) (sf : Nat × Nat) (R : List gT), yG y = (ms, sf) :: R → ms ≠ [] → yLdI ms.length y = yGs (yTk ms y) R := by
  intro ms
  induction ms with
  | nil => intro y sf R _ h; exact absurd rfl h
  | cons c r ih =>
    intro y sf R hG _
    have hc : y1c y = c := by unfold y1c; rw [hG]; rfl
    have hy : yLd1 y = yGs (yTk1 y c) (gRm ((c :: r, sf) :: R) 0 0) := by unfold yLd1; rw [hc, hG]
    rw [List.length_cons, yLdI, hy]
    cases r with
    | nil => rfl
    | cons c2 r =>
      have e : gRm ((c :: c2 :: r, sf) :: R) 0 0 = (c2 :: r, sf) :: R := rfl
      rw [e, ih (yGs (yTk1 y c) ((c2 :: r, sf) :: R)) sf R rfl (by simp), yTk_gs]
      rfl
theorem op_land (hI : INV y z t) (h0 : 0 < (yG y).length) : INV (ySend (yLdI ((yG y).getD 0 g0).1.length y)) (zQ_land z) (mClear (mLdI ((yG y).getD 0 g0).1.length y t) (ycf y) (yTr (yLdI ((yG y).getD 0 g0).1.length y)) (yn y)) := by
  obtain ⟨hW, hC, hR, hS⟩ := hI
  have hl := hW.gl
  have hlen := gLen_le hW h0
  have htl := hW.tl
  obtain ⟨hW2, hR2⟩ := land_inv ((yG y).getD 0 g0).1.length y t hW hR (Or.inr ⟨h0, rfl⟩)
  obtain ⟨a1, a2, a3, a4, a5, a6⟩ := g1 hW h0
  obtain ⟨g, R, hG⟩ : ∃ g R, yG y = g :: R := by
    cases h : yG y with
    | nil => rw [h] at h0; simp at h0
    | cons g R => exact ⟨g, R, rfl⟩
  have hg : (yG y).getD 0 g0 = g := by rw [hG]; rfl
  have hne : g.1 ≠ [] := by rw [← hg]; exact List.length_pos_iff.mp a1
  have hy := yLdI_eq g.1 y g.2 R hG hne
  have a9 : zat z 9 0 = nI g.1.length := by have := (gatN hC hW h0).2.1; rw [hg] at this; exact this
  obtain ⟨c1, c2, c3⟩ := zLand_eff hC hW h0 ((yG y).getD 0 g0).1.length 0 y z hC rfl (by omega) (by omega) rfl rfl rfl
  rw [List.drop_zero, hg] at c1
  rw [hg] at c2 c3 hW2 hR2 ⊢
  rw [hg] at hlen
  obtain ⟨k1, k2, k3, k4⟩ := yTk_n g.1 y
  -- the group goes
  generalize hz1 : zLand g.1.length 0 z = z1 at c1 c2 c3
  have z9 : zat z1 9 0 = nI g.1.length := by
    have e1 : z1.2.1 9 = z.2.1 9 := by rw [c1.G9, hC.G9, k2]
    rw [zat, e1]; exact a9
  have z8l : z1.2.1 8 = (gL (yG y)).map nI := by rw [c1.G8, k2]
  obtain ⟨f1, f2, f3, f4⟩ := zRemF_eff g.1.length z1 (by rw [z8l, List.length_map]; omega) (by rw [z8l, List.length_map]; omega)
  have hz2 : zG_remF z1 = zG_remG (zRemF z1 g.1.length) (nI 0) := by
    unfold zG_remF
    rw [z9, nI_clamp (by omega)]
    rfl
  have hGl : R.length + 1 ≤ 40 := by rw [hG] at hl; exact hl
  have r9 : (zRemF z1 g.1.length).2.1 9 = (g :: R).map (fun g => nI g.1.length) := by rw [f2 9 (by decide), c1.G9, k2, hG]
  have r10 : (zRemF z1 g.1.length).2.1 10 = (g :: R).map (fun g => nI g.2.1) := by rw [f2 10 (by decide), c1.G10, k2, hG]
  have r11 : (zRemF z1 g.1.length).2.1 11 = (g :: R).map (fun g => nI g.2.2) := by rw [f2 11 (by decide), c1.G11, k2, hG]
  have hrem : ∀ (F : gT → Int32), rRem ((g :: R).map F) (nI 0) = R.map F := by
    intro F
    rw [rRem_e (by simp) (by rw [List.length_map]; exact hGl)]
    rfl
  have hC2 : RC (yGs (yTk g.1 y) R) (zG_remG (zRemF z1 g.1.length) (nI 0)) := by
    refine RC.gs c1 ?_ ?_ ?_ ?_ ?_ ?_ ?_
    · rw [zG_remG, zrem, zrow_ne (by decide), zrem, zrow_ne (by decide), zrem, zrow_ne (by decide), f1, z8l, ← List.map_drop, hG, gL_cons, List.drop_left]
    · rw [zG_remG, zrem, zrow_ne (by decide), zrem, zrow_ne (by decide), zrem, zrow_same, r9, hrem]
    · rw [zG_remG, zrem, zrow_ne (by decide), zrem, zrow_same, zrem, zrow_ne (by decide), r10, hrem]
    · rw [zG_remG, zrem, zrow_same, zrem, zrow_ne (by decide), zrem, zrow_ne (by decide), r11, hrem]
    · intro r hr
      rw [zG_remG, zrem, zrow_ne (by omega), zrem, zrow_ne (by omega), zrem, zrow_ne (by omega), f2 r (by omega)]
    · show (zRemF z1 g.1.length).1 6 = _
      rw [f3]
    · exact f4
  have hI2 : INV (yLdI g.1.length y) (zG_remF z1) (mLdI g.1.length y t) := by
    refine ⟨hW2, by rw [hy, hz2]; exact hC2, hR2, ?_⟩
    have hm : ∀ (n : Nat) (y : yT) (t : mS), (∀ q, q ≠ 6 → q ≠ 7 → (mLdI n y t).1 q = t.1 q) ∧ (mLdI n y t).2 1 = t.2 1 := by
      intro n
      induction n with
      | zero => intro y t; exact ⟨fun _ _ _ => rfl, rfl⟩
      | succ n ih =>
        intro y t
        obtain ⟨i1, i2⟩ := ih (yLd1 y) (mLd1 y t)
        rw [mLdI]
        refine ⟨fun q h6 h7 => ?_, ?_⟩
        · rw [i1 q h6 h7]
          unfold mLd1
          rw [mGo_1 _ _ _ _ h6]
          show va_up t.1 7 _ q = _
          simp [va_up, h7]
        · rw [i2]
          unfold mLd1
          rw [mGo_2 _ _ _ _ (by decide) (by decide)]
          show (marr (marr t 2 (y1c y) 2) 8 (yTr y).length (nI (y1c y))).2 1 = _
          rw [marr_o (by decide), marr_o (by decide)]
    obtain ⟨m1, m2⟩ := hm g.1.length y t
    refine RS.cong hS (by rw [hy]; exact k1) ?_ ?_ (fun q hq => m1 q (by omega) (by omega)) m2
    · intro q _ _
      rw [hz2]
      show (zRemF z1 g.1.length).1 q = _
      rw [f3, c2]
    · rw [hz2, zG_remG, zrem, zrow_ne (by decide), zrem, zrow_ne (by decide), zrem, zrow_ne (by decide), f2 1 (by decide), c3]
  have hf := op_send hI2
  have ez : zQ_land z = zQ_send (zG_remF z1) := by
    unfold zQ_land
    rw [a9, nI_clamp (by omega), hz1]
  rw [ez]
  have en : yn (yLdI g.1.length y) = yn y := by rw [hy]; exact k1
  have ec : ycf (yLdI g.1.length y) = ycf y := by rw [hy]; exact k3
  rw [en, ec] at hf
  exact hf
end LA
end
section
/-! A new group: who goes into it; the class -/
section FO
variable {y : yT} {z : zS} {t : mS} {p h : ax_H} {d : Nat}
def sel (cf : Nat → Nat → Bool) : List Nat → Nat → List Nat → List Nat
  | [], _, _ => []
  | c :: r, b, L => if b = 0 then [] else if L.any (fun a => cf a c) = true then sel cf r b L else c :: sel cf r (b - 1) (L ++ [c])
theorem sel_0 (cf : Nat → Nat → Bool) (l L : List Nat) : sel cf l 0 L = [] := by
  cases l with
  | nil => rfl
  | cons c r => rw [sel, if_pos rfl]
theorem sel_sub (cf : Nat → Nat → Bool) : ∀ (l : List Nat) (b : Nat) (L : List Nat), (sel cf l b L).Sublist l := by
  intro l
  induction l with
  | nil => intro b L; exact List.Sublist.refl _
  | cons c r ih =>
    intro b L
    rw [sel]
    split
    · exact List.nil_sublist _
    · split
      · exact (ih b L).cons _
      · exact (ih (b - 1) (L ++ [c])).cons₂ _
theorem zat_map {r i : Nat} {l : List Nat} (e : z.2.1 r = l.map nI) (hl : l.length ≤ 40) (hi : i < l.length) : zat z r (nI i) = nI (l.getD i 0) := by
  rw [zat, e, rAt_map 0 hl, if_pos (by rw [isC_nI hl (by omega)]; simpa using hi), nI_clamp (by omega)]
theorem zClash_y {cf : Nat → Nat → Bool} {Lc : List Nat} (e8 : z.2.1 8 = Lc.map nI) (hl : Lc.length ≤ 40) (hL : ∀ x ∈ Lc, x < 40) (hcf : ∀ a b, a < 40 → b < 40 → zConf z (nI a) (nI b) = cf a b) (hsym : ∀ a b, cf a b = cf b a) {c : Nat} (hc : c < 40) : ∀ (n m : Nat), Lc.length = m + n → zClash z (nI c) n m = (Lc.drop m).any (fun a => cf a c) := by
  intro n
  induction n with
  | zero => intro m h; rw [List.drop_eq_nil_of_le (by omega)]; rfl
  | succ n ih =>
    intro m h
    have hm : m < Lc.length := by omega
    rw [zClash, zat_map e8 hl hm, hcf _ _ hc (hL _ (getD_mem hm)), ih (m + 1) (by omega), drop_getD (x := 0) hm, List.any_cons, hsym c]
    cases cf (Lc.getD m 0) c <;> simp
theorem zForm_eff {cf : Nat → Nat → Bool} {n0 mst : Nat} {Q : List Nat} (hn0 : n0 ≤ 40) (hQ : ∀ c ∈ Q, c < n0) (hQl : Q.length ≤ 40) (hsym : ∀ a b, cf a b = cf b a) (hmst : mst ≤ 8) : ∀ (n m k : Nat) (Lc : List Nat) (P : Nat → Nat) (z : zS), z.2.1 6 = Q.map nI → z.2.1 8 = Lc.map nI → (∀ x ∈ Lc, x < 40) → Lc.length + n ≤ 40 → z.2.1 2 = (List.range n0).map (fun c => nI (P c)) → (∀ a b, a < 40 → b < 40 → zConf z (nI a) (nI b) = cf a b) → z.1 0 = nI mst → k ≤ mst → Q.length = m + n →
    (zForm n m (nI k) z).1 = nI (k + (sel cf (Q.drop m) (mst - k) Lc).length) ∧ (zForm n m (nI k) z).2.2.1 8 = (Lc ++ sel cf (Q.drop m) (mst - k) Lc).map nI ∧ (zForm n m (nI k) z).2.2.1 2 = (List.range n0).map (fun c => nI (if c ∈ sel cf (Q.drop m) (mst - k) Lc then 1 else P c)) ∧ (∀ r, r ≠ 8 → r ≠ 2 → (zForm n m (nI k) z).2.2.1 r = z.2.1 r) ∧ (zForm n m (nI k) z).2.1 = z.1 ∧ (zForm n m (nI k) z).2.2.2 = z.2.2 := by
  intro n
  induction n with
  | zero =>
    intro m k Lc P z e6 e8 hL hcap e2 hcf h0 hk hb
    rw [List.drop_eq_nil_of_le (by omega)]
    refine ⟨rfl, ?_, ?_, fun _ _ _ => rfl, rfl, rfl⟩
    · show z.2.1 8 = (Lc ++ []).map nI
      rw [List.append_nil]; exact e8
    · show z.2.1 2 = (List.range n0).map (fun c => nI (if c ∈ [] then 1 else P c))
      rw [e2]; simp
  | succ n ih =>
    intro m k Lc P z e6 e8 hL hcap e2 hcf h0 hk hb
    have hm : m < Q.length := by omega
    have hc := hQ _ (getD_mem (x := 0) hm)
    rw [zForm, h0, drop_getD (x := 0) hm]
    by_cases c1 : mst ≤ k
    · rw [if_pos (nI_le c1 (by omega)), show mst - k = 0 by omega, sel_0]
      refine ⟨rfl, ?_, ?_, fun _ _ _ => rfl, rfl, rfl⟩
      · show z.2.1 8 = (Lc ++ []).map nI
        rw [List.append_nil]; exact e8
      · show z.2.1 2 = (List.range n0).map (fun c => nI (if c ∈ [] then 1 else P c))
        rw [e2]; simp
    · rw [if_neg (nI_ge (by omega) (by omega)), zat_map e6 hQl hm]
      have hcl : zQ_clash z (nI (Q.getD m 0)) = Lc.any (fun a => cf a (Q.getD m 0)) := by
        unfold zQ_clash
        rw [zClash_y e8 (by omega) hL hcf hsym (by omega) _ 0 (by rw [e8, List.length_map]; omega), List.drop_zero]
      rw [hcl, sel, if_neg (show ¬ mst - k = 0 by omega)]
      by_cases c2 : Lc.any (fun a => cf a (Q.getD m 0)) = true
      · rw [if_pos c2, if_pos c2]
        exact ih (m + 1) k Lc P z e6 e8 hL (by omega) e2 hcf h0 hk (by omega)
      · rw [if_neg c2, if_neg c2]
        have hz1 : zForm1 z m = zput (zapp z 8 (nI (Q.getD m 0))) 2 (nI (Q.getD m 0)) 1 := by unfold zForm1; rw [zat_map e6 hQl hm]
        have f8 : (zForm1 z m).2.1 8 = (Lc ++ [Q.getD m 0]).map nI := by
          rw [hz1, zput, zrow_ne (by decide), zapp, zrow_same, rIns_end (by rw [e8, List.length_map]; omega), e8, List.map_append]; rfl
        have f2 : (zForm1 z m).2.1 2 = (List.range n0).map (fun c => nI (if c = Q.getD m 0 then 1 else P c)) := by
          rw [hz1, zput, zrow_same, zapp, zrow_ne (by decide), e2, rPut_range hn0 hc]
          apply List.map_congr_left
          intro j _
          by_cases e : j = Q.getD m 0
          · rw [if_pos e, if_pos e]; rfl
          · rw [if_neg e, if_neg e]
        have fr : ∀ r, r ≠ 8 → r ≠ 2 → (zForm1 z m).2.1 r = z.2.1 r := by
          intro r h8 h2
          rw [hz1, zput, zrow_ne h2, zapp, zrow_ne h8]
        obtain ⟨i1, i2, i3, i4, i5, i6⟩ := ih (m + 1) (k + 1) (Lc ++ [Q.getD m 0]) (fun c => if c = Q.getD m 0 then 1 else P c) (zForm1 z m) (by rw [fr 6 (by decide) (by decide)]; exact e6) f8 (by
          intro x hx
          rcases List.mem_append.mp hx with q | q
          · exact hL x q
          · rw [List.mem_singleton] at q; omega) (by rw [List.length_append, List.length_singleton]; omega) f2 (fun a b ha hb => by
          have : zConf (zForm1 z m) (nI a) (nI b) = zConf z (nI a) (nI b) := by rw [hz1]; rfl
          rw [this]; exact hcf a b ha hb) (by rw [hz1]; exact h0) (by omega) (by omega)
        have eb : mst - (k + 1) = mst - k - 1 := by omega
        rw [eb] at i1 i2 i3
        rw [nI_1]
        refine ⟨?_, ?_, ?_, ?_, i5, i6⟩
        · rw [i1, List.length_cons]; congr 1; omega
        · rw [i2, List.append_assoc]; rfl
        · rw [i3]
          apply List.map_congr_left
          intro j _
          by_cases e1 : j ∈ sel cf (Q.drop (m + 1)) (mst - k - 1) (Lc ++ [Q.getD m 0])
          · rw [if_pos e1, if_pos (List.mem_cons_of_mem _ e1)]
          · rw [if_neg e1]
            by_cases e2 : j = Q.getD m 0
            · rw [if_pos e2, if_pos (by rw [e2]; exact List.mem_cons_self)]
            · rw [if_neg e2, if_neg (fun q => by rcases List.mem_cons.mp q with q | q; exact e2 q; exact e1 q)]
        · intro r h8 h2
          rw [i4 r h8 h2, fr r h8 h2]
theorem zDrop_eff {n0 : Nat} {P : Nat → Nat} (hn0 : n0 ≤ 40) (hP : ∀ c, c < n0 → P c ≤ 3) : ∀ (n : Nat) (l : List Nat) (z : zS), z.2.1 6 = l.map nI → z.2.1 2 = (List.range n0).map (fun c => nI (P c)) → (∀ c ∈ l, c < n0) → l.length ≤ 40 → n ≤ l.length →
    (zDrop n z).2.1 6 = ((l.take n).filter (fun c => !decide (P c = 1)) ++ l.drop n).map nI ∧ (∀ r, r ≠ 6 → (zDrop n z).2.1 r = z.2.1 r) ∧ (zDrop n z).1 = z.1 ∧ (zDrop n z).2.2 = z.2.2 := by
  intro n
  induction n with
  | zero => intro l z e6 e2 hl h40 hn; exact ⟨e6, fun _ _ => rfl, rfl, rfl⟩
  | succ n ih =>
    intro l z e6 e2 hl h40 hn
    have hnl : n < l.length := by omega
    have hc := hl _ (getD_mem (x := 0) hnl)
    have hz : zat z 2 (zat z 6 (nI n)) = nI (P (l.getD n 0)) := by
      rw [zat_map e6 h40 hnl, zat, e2, rAt_range hn0, if_pos (by rw [isC_nI hn0 (by omega)]; simpa using hc), nI_clamp (by omega)]
    have h3 := hP _ hc
    have hi : nI (P (l.getD n 0)) = 1 ↔ P (l.getD n 0) = 1 := nI_eq (by omega) (by decide)
    have ht : l.take (n + 1) = l.take n ++ [l.getD n 0] := by
      rw [List.take_add_one, List.getElem?_eq_getElem hnl, List.getD_eq_getElem?_getD, List.getElem?_eq_getElem hnl]; rfl
    rw [zDrop, zDrop1, hz, ht, List.filter_append]
    by_cases c1 : P (l.getD n 0) = 1
    · rw [if_pos (hi.mpr c1)]
      have e6' : (zrem z 6 (nI n)).2.1 6 = (l.eraseIdx n).map nI := by rw [zrem, zrow_same, e6, rRem_map h40 hnl]
      have hlen : (l.eraseIdx n).length = l.length - 1 := by rw [List.length_eraseIdx, if_pos hnl]
      obtain ⟨i1, i2, i3, i4⟩ := ih (l.eraseIdx n) (zrem z 6 (nI n)) e6' (by rw [zrem, zrow_ne (by decide)]; exact e2) (fun c q => hl c (List.mem_of_mem_eraseIdx q)) (by omega) (by omega)
      refine ⟨?_, fun r hr => by rw [i2 r hr, zrem, zrow_ne hr], i3, i4⟩
      rw [i1]
      have d1 : (l.eraseIdx n).take n = l.take n := by
        rw [List.eraseIdx_eq_take_drop_succ, List.take_left' (by rw [List.length_take]; omega)]
      have d2 : (l.eraseIdx n).drop n = l.drop (n + 1) := by
        rw [List.eraseIdx_eq_take_drop_succ, List.drop_append, List.drop_eq_nil_of_le (by rw [List.length_take]; omega), List.nil_append, List.length_take, Nat.min_eq_left (by omega), Nat.sub_self, List.drop_zero]
      have ef : [l.getD n 0].filter (fun c => !decide (P c = 1)) = [] := by rw [List.filter_cons, if_neg (by rw [decide_eq_true c1]; decide)]; rfl
      rw [d1, d2, ef, List.append_nil]
    · rw [if_neg (fun q => c1 (hi.mp q))]
      obtain ⟨i1, i2, i3, i4⟩ := ih l z e6 e2 hl h40 (by omega)
      refine ⟨?_, i2, i3, i4⟩
      have ef : [l.getD n 0].filter (fun c => !decide (P c = 1)) = [l.getD n 0] := by rw [List.filter_cons, if_pos (by rw [decide_eq_false c1]; rfl)]; rfl
      rw [i1, drop_getD (x := 0) hnl, ef, List.append_assoc]
      rfl
def gO (S : List Nat) : List gT := match S with
  | [] => []
  | c :: r => [(c :: r, 0, 0)]
def yF (y : yT) (S : List Nat) : yT := (y.1, va_up y.2.1 1 (fun c => if c ∈ S then 1 else ypl y c), y.2.2.1, va_up y.2.2.2.1 0 ((yQ y).filter (fun c => !decide (c ∈ S))), yG y ++ gO S)
theorem gO_L (G : List gT) (S : List Nat) : gL (G ++ gO S) = gL G ++ S := by
  cases S with
  | nil => simp [gO, gL]
  | cons c r => simp [gO, gL]
theorem gO_F (G : List gT) (S : List Nat) : gF (G ++ gO S) = gF G ++ gF1 S := by
  cases S with
  | nil => simp [gO, gF, gF1]
  | cons c r => simp [gO, gF]
def ySel (y : yT) (mst : Nat) : List Nat := sel (ycf y) (yQ y) mst (gL (yG y))
theorem yF_nil (y : yT) : yF y [] = y := by
  unfold yF
  have e1 : va_up y.2.1 1 (fun c => if c ∈ ([] : List Nat) then 1 else ypl y c) = y.2.1 := by
    have : (fun c => if c ∈ ([] : List Nat) then 1 else ypl y c) = y.2.1 1 := by funext c; simp
    rw [this, va_up_same]
  have e2 : (yQ y).filter (fun c => !decide (c ∈ ([] : List Nat))) = y.2.2.2.1 0 := by
    rw [List.filter_eq_self]; intro a _; simp
  rw [e1, e2, va_up_same]
  show (y.1, y.2.1, y.2.2.1, y.2.2.2.1, yG y ++ []) = y
  rw [List.append_nil]
theorem WF.lq (hW : WF y) : (gL (yG y)).length + (yQ y).length ≤ 40 := by
  have hqn := hW.qn
  obtain ⟨w1, w2, w3, w4, w5, w6, w7, w8, w9, w10, w11, w12, w13, w14, w15⟩ := hW
  have : (gL (yG y) ++ yQ y).length ≤ yn y := by
    refine nd_len _ _ ?_ ?_
    · rw [List.nodup_append]
      refine ⟨w10, hqn, ?_⟩
      intro a ha b hb e
      subst e
      have h1 := ((w11 a).mp ha).2
      have h2 := ((w6 a).mp hb).2
      omega
    · intro x hx
      rcases List.mem_append.mp hx with hx | hx
      · exact ((w11 x).mp hx).1
      · exact ((w6 x).mp hx).1
  rw [List.length_append] at this
  omega
theorem WF.form (hW : WF y) {S : List Nat} (hn : S.Nodup) (hS : ∀ c ∈ S, c ∈ yQ y) : WF (yF y S) := by
  obtain ⟨w1, w2, w3, w4, w5, w6, w7, w8, w9, w10, w11, w12, w13, w14, w15⟩ := hW
  have hP : ∀ c, ypl (yF y S) c = if c ∈ S then 1 else ypl y c := fun c => rfl
  have h0 : ∀ c ∈ S, c < yn y ∧ ypl y c = 0 := fun c hc => (w6 c).mp (hS c hc)
  refine ⟨w1, ?_, w3, w4, w5.sublist List.filter_sublist, ?_, w7, ?_, ?_, ?_, ?_, ?_, w13, w14, ?_⟩
  · intro c hc
    obtain ⟨a, b, e, f, g⟩ := w2 c hc
    refine ⟨a, ?_, e, f, g⟩
    rw [hP c]; split <;> omega
  · intro c
    show c ∈ (yQ y).filter (fun c => !decide (c ∈ S)) ↔ c < yn y ∧ ypl (yF y S) c = 0
    rw [hP c, List.mem_filter, w6 c]
    by_cases e : c ∈ S
    · simp [e]
    · simp [e]
  · intro c
    show c ∈ yTr y ↔ c < yn y ∧ ypl (yF y S) c = 2
    rw [hP c, w8 c]
    by_cases e : c ∈ S
    · have := h0 c e
      rw [if_pos e]
      constructor
      · rintro ⟨-, q⟩; omega
      · rintro ⟨-, q⟩; omega
    · rw [if_neg e]
  · intro g hg
    rcases List.mem_append.mp hg with q | q
    · exact w9 g q
    · cases S with
      | nil => cases q
      | cons c r =>
        have : g = (c :: r, 0, 0) := List.mem_singleton.mp q
        rw [this]; simp
  · show (gL (yG y ++ gO S)).Nodup
    rw [gO_L, List.nodup_append]
    refine ⟨w10, hn, ?_⟩
    intro a ha b hb e
    subst e
    have h1 := ((w11 a).mp ha).2
    have h2 := (h0 a hb).2
    omega
  · intro c
    show c ∈ gL (yG y ++ gO S) ↔ c < yn y ∧ ypl (yF y S) c = 1
    rw [hP c, gO_L, List.mem_append, w11 c]
    by_cases e : c ∈ S
    · rw [if_pos e]
      exact ⟨fun _ => ⟨(h0 c e).1, rfl⟩, fun _ => Or.inr e⟩
    · rw [if_neg e]
      exact ⟨fun q => q.resolve_right e, Or.inl⟩
  · intro g hg
    rcases List.mem_append.mp hg with q | q
    · exact w12 g q
    · cases S with
      | nil => cases q
      | cons c r =>
        have : g = (c :: r, 0, 0) := List.mem_singleton.mp q
        rw [this]; exact ⟨Nat.zero_le _, Nat.zero_le _⟩
  · intro c hc
    show ywy y c = 0 ↔ ypl (yF y S) c ≠ 3
    rw [hP c]
    by_cases e : c ∈ S
    · have := h0 c e
      have := w15 c hc
      rw [if_pos e, this]
      constructor
      · intro _; decide
      · intro _; omega
    · rw [if_neg e]; exact w15 c hc
theorem op_formC (hW : WF y) (hC : RC y z) {mst : Nat} (h0 : z.1 0 = nI mst) (hmst : mst ≤ 8) : (zFormE (zForm (z.2.1 6).length 0 0 z)).1 = !decide (ySel y mst = []) ∧ RC (yF y (ySel y mst)) (zFormE (zForm (z.2.1 6).length 0 0 z)).2 ∧ (zFormE (zForm (z.2.1 6).length 0 0 z)).2.1 = z.1 ∧ (zFormE (zForm (z.2.1 6).length 0 0 z)).2.2.1 1 = z.2.1 1 := by
  have hlq := hW.lq
  have hql := hW.ql
  have hqn := hW.qn
  have hgl := hW.gl
  obtain ⟨w1, w2, w3, w4, w5, w6, w7, w8, w9, w10, w11, w12, w13, w14, w15⟩ := id hW
  have hl6 : (z.2.1 6).length = (yQ y).length := by rw [hC.R6, List.length_map]
  have e2 : z.2.1 2 = (List.range (yn y)).map (fun c => nI (ypl y c)) := hC.row 2 (by decide) (by decide)
  obtain ⟨f1, f2, f3, f4, f5, f6⟩ := zForm_eff (cf := ycf y) (Q := yQ y) w1 (fun c hc => ((w6 c).mp hc).1) hql w14 hmst (z.2.1 6).length 0 0 (gL (yG y)) (fun c => ypl y c) z hC.R6 hC.G8 (fun x hx => by have := ((w11 x).mp hx).1; omega) (by omega) e2 hC.cf h0 (Nat.zero_le _) (by omega)
  have hS : sel (ycf y) ((yQ y).drop 0) (mst - 0) (gL (yG y)) = ySel y mst := rfl
  rw [hS] at f1 f2 f3
  rw [Nat.zero_add] at f1
  have hsub : (ySel y mst).Sublist (yQ y) := sel_sub _ _ _ _
  have hSl : (ySel y mst).length ≤ (yQ y).length := hsub.length_le
  have hform0 : zForm (z.2.1 6).length 0 (nI 0) z = zForm (z.2.1 6).length 0 0 z := rfl
  rw [hform0] at f1 f2 f3 f4 f5 f6
  generalize zForm (z.2.1 6).length 0 0 z = q at *
  obtain ⟨s, z1⟩ := q
  simp only at f1 f2 f3 f4 f5 f6
  unfold zFormE
  simp only
  rw [f1]
  by_cases hE : ySel y mst = []
  · rw [hE] at f2 f3 ⊢
    rw [if_pos (show nI ([] : List Nat).length = 0 from rfl)]
    have ez : z1 = z := by
      refine Prod.ext f5 (Prod.ext ?_ f6)
      funext r
      by_cases h8 : r = 8
      · subst h8; rw [f2, List.append_nil, hC.G8]
      · by_cases h2 : r = 2
        · subst h2; rw [f3, e2]; simp
        · exact f4 r h8 h2
    rw [ez, yF_nil]
    exact ⟨by simp, hC, rfl, rfl⟩
  · have hpos : 0 < (ySel y mst).length := List.length_pos_iff.mpr hE
    rw [if_neg (nI_ne0 (by omega) (by omega))]
    -- the group's row
    have l10 : (z1.2.1 10).length = (yG y).length := by rw [f4 10 (by decide) (by decide), hC.G10, List.length_map]
    rw [l10]
    have hWF := hW.form (S := ySel y mst) (hqn.sublist hsub) (fun c hc => hsub.subset hc)
    have hgl2 : (yG y).length + 1 ≤ 40 := by
      have h1 := hWF.gl
      have h2 : (yG (yF y (ySel y mst))).length = (yG y).length + 1 := by
        show (yG y ++ gO (ySel y mst)).length = _
        cases hc : ySel y mst with
        | nil => exact absurd hc hE
        | cons c r => rw [List.length_append]; rfl
      omega
    have ins : ∀ (F : gT → Int32) (v : Int32), rIns ((yG y).map F) (nI (yG y).length) v = (yG y).map F ++ [v] := by
      intro F v
      have := rIns_end (xs := (yG y).map F) (v := v) (by rw [List.length_map]; omega)
      rw [List.length_map] at this
      exact this
    generalize hz2 : zG_insG z1 (nI (yG y).length) (nI (ySel y mst).length) = z2
    have r9 : z2.2.1 9 = (yG y).map (fun g => nI g.1.length) ++ [nI (ySel y mst).length] := by
      rw [← hz2, zG_insG, zins, zrow_ne (by decide), zins, zrow_ne (by decide), zins, zrow_same, f4 9 (by decide) (by decide), hC.G9, ins]
    have r10 : z2.2.1 10 = (yG y).map (fun g => nI g.2.1) ++ [nI 0] := by
      rw [← hz2, zG_insG, zins, zrow_ne (by decide), zins, zrow_same, zins, zrow_ne (by decide), f4 10 (by decide) (by decide), hC.G10, ins]; rfl
    have r11 : z2.2.1 11 = (yG y).map (fun g => nI g.2.2) ++ [nI 0] := by
      rw [← hz2, zG_insG, zins, zrow_same, zins, zrow_ne (by decide), zins, zrow_ne (by decide), f4 11 (by decide) (by decide), hC.G11, ins]; rfl
    have rr : ∀ r, r ≠ 9 → r ≠ 10 → r ≠ 11 → z2.2.1 r = z1.2.1 r := by
      intro r h9 h10 h11
      rw [← hz2, zG_insG, zins, zrow_ne h11, zins, zrow_ne h10, zins, zrow_ne h9]
    have i2 : z2.1 = z.1 := by rw [← hz2, ← f5]; rfl
    have c2 : z2.2.2 = z.2.2 := by rw [← hz2, ← f6]; rfl
    have g6 : z2.2.1 6 = (yQ y).map nI := by rw [rr 6 (by decide) (by decide) (by decide), f4 6 (by decide) (by decide), hC.R6]
    have g2 : z2.2.1 2 = (List.range (yn y)).map (fun c => nI (if c ∈ ySel y mst then 1 else ypl y c)) := by rw [rr 2 (by decide) (by decide) (by decide), f3]
    obtain ⟨d1, d2, d3, d4⟩ := zDrop_eff (n0 := yn y) (P := fun c => if c ∈ ySel y mst then 1 else ypl y c) w1 (fun c hc => by
      have := (w2 c hc).2.1
      show (if c ∈ ySel y mst then 1 else ypl y c) ≤ 3
      split <;> omega) (yQ y).length (yQ y) z2 g6 g2 (fun c hc => ((w6 c).mp hc).1) hql (Nat.le_refl _)
    have hdz : zQ_drop z2 = zDrop (yQ y).length z2 := by unfold zQ_drop; rw [g6, List.length_map]
    rw [hdz]
    have hfil : (yQ y).filter (fun c => !decide ((if c ∈ ySel y mst then 1 else ypl y c) = 1)) = (yQ y).filter (fun c => !decide (c ∈ ySel y mst)) := by
      apply List.filter_congr
      intro c hc
      have := ((w6 c).mp hc).2
      by_cases e : c ∈ ySel y mst
      · simp [e]
      · simp [e, this]
    rw [List.take_length, List.drop_length, List.append_nil, hfil] at d1
    have hgO : gO (ySel y mst) = [(ySel y mst, 0, 0)] := by
      cases hc : ySel y mst with
      | nil => exact absurd hc hE
      | cons c r => rfl
    refine ⟨by simp [hE], ?_, by rw [d3, i2], by rw [d2 1 (by decide), rr 1 (by decide) (by decide) (by decide), f4 1 (by decide) (by decide)]⟩
    rw [RC_iff]
    have hq := RC_iff.mp hC
    refine ⟨?_, by rw [d2 1 (by decide), rr 1 (by decide) (by decide) (by decide), f4 1 (by decide) (by decide)]; exact hq.2.1, by rw [d3, i2]; exact hq.2.2.1, ?_⟩
    · intro r k1 k2
      rcases (show r = 0 ∨ r = 2 ∨ r = 3 ∨ r = 4 ∨ r = 5 ∨ r = 6 ∨ r = 7 ∨ r = 8 ∨ r = 9 ∨ r = 10 ∨ r = 11 by omega) with rfl | rfl | rfl | rfl | rfl | rfl | rfl | rfl | rfl | rfl | rfl
      · rw [d2 0 (by decide), rr 0 (by decide) (by decide) (by decide), f4 0 (by decide) (by decide)]; exact hq.1 0 (by decide) (by decide)
      · rw [d2 2 (by decide), g2]; rfl
      · rw [d2 3 (by decide), rr 3 (by decide) (by decide) (by decide), f4 3 (by decide) (by decide)]; exact hq.1 3 (by decide) (by decide)
      · rw [d2 4 (by decide), rr 4 (by decide) (by decide) (by decide), f4 4 (by decide) (by decide)]; exact hq.1 4 (by decide) (by decide)
      · rw [d2 5 (by decide), rr 5 (by decide) (by decide) (by decide), f4 5 (by decide) (by decide)]; exact hq.1 5 (by decide) (by decide)
      · exact d1
      · rw [d2 7 (by decide), rr 7 (by decide) (by decide) (by decide), f4 7 (by decide) (by decide)]; exact hq.1 7 (by decide) (by decide)
      · rw [d2 8 (by decide), rr 8 (by decide) (by decide) (by decide), f2]
        show _ = (gL (yG y ++ gO (ySel y mst))).map nI
        rw [gO_L]
      · rw [d2 9 (by decide), r9]
        show _ = (yG y ++ gO (ySel y mst)).map (fun g => nI g.1.length)
        rw [hgO, List.map_append]; rfl
      · rw [d2 10 (by decide), r10]
        show _ = (yG y ++ gO (ySel y mst)).map (fun g => nI g.2.1)
        rw [hgO, List.map_append]; rfl
      · rw [d2 11 (by decide), r11]
        show _ = (yG y ++ gO (ySel y mst)).map (fun g => nI g.2.2)
        rw [hgO, List.map_append]; rfl
    · intro a b ha hb
      have : zConf (zDrop (yQ y).length z2) (nI a) (nI b) = zConf z (nI a) (nI b) := by
        unfold zConf
        rw [d4, c2]
      rw [this]
      exact hC.cf a b ha hb
end FO
end
section
/-! A new group: the model -/
section MF
variable {y : yT} {z : zS} {t : mS} {p h : ax_H} {d : Nat}
def cvOf (y : yT) (k : Nat) : Int32 := if k < (yQ y).length then nI ((yQ y).getD k 0) else -1
theorem yM_waitingAt (hR : RM y t) (hW : WF y) (hm : isM p t h) {k : Nat} (hk : k < 2 ^ 31) : AM (d + 1) kM_waitingAt 0 0 none [.ref 28, .int (nI k)] h (fun v h' => v = some (.int (cvOf y k)) ∧ isM p t h') := by
  have hql := hW.ql
  have e : mWt t (yn y) (nI k) = cvOf y k := by
    rw [mWt_y hR hW (nI_pos hk), nI_clamp hk]
    unfold cvOf
    by_cases h1 : k < (yQ y).length
    · rw [if_pos h1, if_pos ((nI_ltI hk (by omega)).mpr h1)]
    · rw [if_neg h1, if_neg (fun q => h1 ((nI_ltI hk (by omega)).mp q))]
  rw [← e]
  exact sM_waitingAt hR.1.2.1 hW.1 hm _
theorem yM_waitingAt0 (hR : RM y t) (hW : WF y) (hm : isM p t h) : AM (d + 1) kM_waitingAt 0 0 none [.ref 28, .int 0] h (fun v h' => v = some (.int (cvOf y 0)) ∧ isM p t h') := yM_waitingAt (k := 0) hR hW hm (by decide)
def mFm (t : mS) (c : Nat) (b : Bool) (n : Nat) : mS := mset (marr (marr (marr (marr (marr t 2 c 1) 9 c (bI b)) 10 c 0) 11 c 0) 7 n (nI c)) 6 (nI (n + 1))
theorem gF1_app (S : List Nat) (c : Nat) : gF1 (S ++ [c]) = gF1 S ++ [decide (S = [])] := by
  cases S with
  | nil => rfl
  | cons a r => simp [gF1]
theorem LaneOk.app {L : List Nat} {B : List Bool} (hL : LaneOk t L B) {c : Nat} (hc : c < 40) (hn : c ∉ L) (hl : L.length < 40) (b : Bool) : LaneOk (mFm t c b L.length) (L ++ [c]) (B ++ [b]) := by
  obtain ⟨h6, h40, hB, h2⟩ := hL
  refine ⟨by rw [List.length_append]; rfl, by rw [List.length_append, List.length_singleton]; omega, by rw [List.length_append, List.length_append, hB]; rfl, ?_⟩
  intro i hi
  rw [List.length_append, List.length_singleton] at hi
  have e7 : ∀ j, (mFm t c b L.length).2 7 j = if j = L.length then nI c else t.2 7 j := by
    intro j
    by_cases e : j = L.length
    · rw [if_pos e, e]
      show (marr (marr (marr (marr (marr t 2 c 1) 9 c (bI b)) 10 c 0) 11 c 0) 7 L.length (nI c)).2 7 L.length = _
      rw [marr_eq]
    · rw [if_neg e]
      show (marr (marr (marr (marr (marr t 2 c 1) 9 c (bI b)) 10 c 0) 11 c 0) 7 L.length (nI c)).2 7 j = _
      rw [marr_k e]; rfl
  have e9 : ∀ j, (mFm t c b L.length).2 9 j = if j = c then bI b else t.2 9 j := by
    intro j
    show (marr (marr t 2 c 1) 9 c (bI b)).2 9 j = _
    by_cases e : j = c
    · rw [if_pos e, e]; exact marr_eq _ _ _ _
    · rw [if_neg e, marr_k e]; rfl
  by_cases e : i = L.length
  · subst e
    have eL : (L ++ [c]).getD L.length 0 = c := by rw [List.getD_eq_getElem?_getD, List.getElem?_concat_length]; rfl
    have eB : (B ++ [b]).getD L.length false = b := by rw [← hB, List.getD_eq_getElem?_getD, List.getElem?_concat_length]; rfl
    rw [eL, eB, e7, e9, if_pos rfl, if_pos rfl]
    exact ⟨rfl, hc, rfl⟩
  · have hi2 : i < L.length := by omega
    have eL : (L ++ [c]).getD i 0 = L.getD i 0 := by rw [List.getD_eq_getElem?_getD, List.getElem?_append_left hi2, ← List.getD_eq_getElem?_getD]
    have eB : (B ++ [b]).getD i false = B.getD i false := by rw [List.getD_eq_getElem?_getD, List.getElem?_append_left (by omega), ← List.getD_eq_getElem?_getD]
    have hne : L.getD i 0 ≠ c := fun q => hn (q ▸ getD_mem hi2)
    rw [eL, eB, e7, e9, if_neg e, if_neg hne]
    exact h2 i hi2
theorem RM.form1 (hW : WF y) {S : List Nat} {c : Nat} (hn : (S ++ [c]).Nodup) (hS : ∀ a ∈ S ++ [c], a ∈ yQ y) (hR : RM (yF y S) t) : RM (yF y (S ++ [c])) (mFm t c (decide (S = [])) (gL (yG y) ++ S).length) := by
  have hW1 := hW.form hn hS
  have htl := hW1.tl
  have hlen : (gL (yG (yF y (S ++ [c])))).length = (gL (yG y) ++ S).length + 1 := by
    show (gL (yG y ++ gO (S ++ [c]))).length = _
    rw [gO_L, ← List.append_assoc, List.length_append, List.length_singleton]
  have hcQ := hS c (by simp)
  have hc6 := (hW.2.2.2.2.2.1 c).mp hcQ
  have hn40 := hW.1
  have hcS : c ∉ S := by
    rw [List.nodup_append] at hn
    intro h
    exact hn.2.2 c h c (by simp) rfl
  have hcL : c ∉ gL (yG y) := fun h => by
    have := ((hW.2.2.2.2.2.2.2.2.2.2.1 c).mp h).2
    omega
  have hall := hR.all
  obtain ⟨⟨r0, r1, r2, r3⟩, rL, rT, rc, r5, r6, r7⟩ := hR
  have a2 : ∀ j, (mFm t c (decide (S = [])) (gL (yG y) ++ S).length).2 2 j = if j = c then 1 else t.2 2 j := by
    intro j
    show (marr t 2 c 1).2 2 j = _
    by_cases e : j = c
    · rw [if_pos e, e]; exact marr_eq _ _ _ _
    · rw [if_neg e, marr_k e]
  have a10 : ∀ j, (mFm t c (decide (S = [])) (gL (yG y) ++ S).length).2 10 j = if j = c then 0 else t.2 10 j := by
    intro j
    show (marr (marr (marr t 2 c 1) 9 c _) 10 c 0).2 10 j = _
    by_cases e : j = c
    · rw [if_pos e, e]; exact marr_eq _ _ _ _
    · rw [if_neg e, marr_k e]; rfl
  have a11 : ∀ j, (mFm t c (decide (S = [])) (gL (yG y) ++ S).length).2 11 j = if j = c then 0 else t.2 11 j := by
    intro j
    show (marr (marr (marr (marr t 2 c 1) 9 c _) 10 c 0) 11 c 0).2 11 j = _
    by_cases e : j = c
    · rw [if_pos e, e]; exact marr_eq _ _ _ _
    · rw [if_neg e, marr_k e]; rfl
  refine ⟨⟨r0, r1, r2, r3⟩, ?_, rT, rc, ?_, r6, ?_⟩
  · show LaneOk _ (gL (yG y ++ gO (S ++ [c]))) (gF (yG y ++ gO (S ++ [c])))
    have rL2 : LaneOk t (gL (yG y ++ gO S)) (gF (yG y ++ gO S)) := rL
    rw [gO_L, gO_F] at rL2
    rw [gO_L, gO_F, gF1_app, ← List.append_assoc, ← List.append_assoc]
    refine rL2.app (by omega) (fun h => ?_) (by omega) _
    rcases List.mem_append.mp h with h | h
    · exact hcL h
    · exact hcS h
  · intro j hj
    obtain ⟨b1, b2, b3, b4, b5⟩ := r5 j hj
    refine ⟨b1, ?_, b3, b4, b5⟩
    have b2' : t.2 2 j = nI (if j ∈ S then 1 else ypl y j) := b2
    show _ = nI (if j ∈ S ++ [c] then 1 else ypl y j)
    rw [a2 j]
    by_cases e : j = c
    · rw [if_pos e, if_pos (by rw [e]; simp)]; rfl
    · rw [if_neg e, b2']
      by_cases e2 : j ∈ S
      · rw [if_pos e2, if_pos (by simp [e2])]
      · rw [if_neg e2, if_neg (by simp [e2, e])]
  · refine gAll_iff.mpr ?_
    intro g hg x hx
    rw [a10 x, a11 x]
    have hg2 : g ∈ yG y ++ gO (S ++ [c]) := hg
    rcases List.mem_append.mp hg2 with q | q
    · have hxc : x ≠ c := by
        intro e
        subst e
        exact hcL (List.mem_flatMap.mpr ⟨g, q, hx⟩)
      rw [if_neg hxc, if_neg hxc]
      exact hall g (List.mem_append_left _ q) x hx
    · have hg3 : g = (S ++ [c], 0, 0) := by
        cases S with
        | nil => exact List.mem_singleton.mp q
        | cons a r => exact List.mem_singleton.mp q
      subst hg3
      by_cases e : x = c
      · rw [if_pos e, if_pos e]; exact ⟨rfl, rfl⟩
      · rw [if_neg e, if_neg e]
        have hxS : x ∈ S := by
          rcases List.mem_append.mp hx with q | q
          · exact q
          · exact absurd (List.mem_singleton.mp q) e
        have hgS : (S, 0, 0) ∈ yG (yF y S) := by
          show (S, 0, 0) ∈ yG y ++ gO S
          refine List.mem_append_right _ ?_
          cases S with
          | nil => cases hxS
          | cons a r => exact List.mem_singleton.mpr rfl
        exact hall _ hgS x hxS
theorem fil_drop {l : List Nat} (hn : l.Nodup) {k : Nat} (hk : k < l.length) : (l.filter (fun c => !decide (c = l.getD k 0))).drop k = l.drop (k + 1) ∧ (l.filter (fun c => !decide (c = l.getD k 0))).length = l.length - 1 := by
  have e : l = l.take k ++ l.getD k 0 :: l.drop (k + 1) := by
    rw [← drop_getD (x := 0) hk, List.take_append_drop]
  generalize l.getD k 0 = c at e
  have hA : (l.take k).length = k := by rw [List.length_take]; omega
  generalize l.take k = A at e hA
  generalize l.drop (k + 1) = B at e ⊢
  subst e
  rw [List.nodup_append] at hn
  obtain ⟨n1, n2, n3⟩ := hn
  rw [List.nodup_cons] at n2
  have fA : A.filter (fun x => !decide (x = c)) = A := by
    rw [List.filter_eq_self]
    intro a ha
    have : a ≠ c := n3 a ha c List.mem_cons_self
    simp [this]
  have fB : B.filter (fun x => !decide (x = c)) = B := by
    rw [List.filter_eq_self]
    intro a ha
    have : a ≠ c := fun q => n2.1 (q ▸ ha)
    simp [this]
  rw [List.filter_append, List.filter_cons, if_neg (by simp), fA, fB]
  refine ⟨?_, ?_⟩
  · rw [← hA, List.drop_left]
  · rw [List.length_append, List.length_append, List.length_cons]; omega
theorem yF_Q (y : yT) (S : List Nat) (c : Nat) : yQ (yF y (S ++ [c])) = (yQ (yF y S)).filter (fun x => !decide (x = c)) := by
  show (yQ y).filter (fun x => !decide (x ∈ S ++ [c])) = ((yQ y).filter (fun x => !decide (x ∈ S))).filter (fun x => !decide (x = c))
  rw [List.filter_filter]
  apply List.filter_congr
  intro x _
  by_cases e1 : x ∈ S
  · simp [e1]
  · by_cases e2 : x = c
    · simp [e2]
    · simp [e1, e2]
def fmR (y : yT) (t0 : mS) (Sf : List Nat) (p : ax_H) : Option Value → ax_H → Prop := fun v h' => v = some (.int (bI (!decide (Sf = [])))) ∧ ∃ t', isM p t' h' ∧ RM (yF y Sf) t' ∧ (∀ q, q ≠ 6 → t'.1 q = t0.1 q) ∧ t'.2 1 = t0.2 1
theorem yM_form_n {F : ax_F} (hR : RM y t) (hW : WF y) (hm : isM p t h) {k : Nat} (hk : k < 2 ^ 31) (x n : Int32) (kk : ∀ h, isM p t h → AX (d + 2) kM_form 0 0 none 23 [(3, .int (cvOf y k)), (2, .int (nI k)), (1, .int n), (0, .ref 28)] [] h 0 0 F) : AX (d + 2) kM_form 0 0 none 109 [(3, .int x), (2, .int (nI k)), (1, .int n), (0, .ref 28)] [] h 0 0 F := by
  refine AX.aload_n rfl rfl ?_
  refine AX.iload_n rfl rfl ?_
  refine AX.cVI rfl rfl rfl (M0 hm) (yM_waitingAt hR hW hm hk) (fun h hm => ?_)
  refine AX.istore_n rfl (by decide) ?_
  refine AX.goto rfl ?_
  exact kk h hm
theorem yM_form_e {S : List Nat} {t0 : mS} (hR : RM (yF y S) t) (hm : isM p t h) (hs : S.length < 2 ^ 31) (h1 : ∀ q, q ≠ 6 → t.1 q = t0.1 q) (h2 : t.2 1 = t0.2 1) (x k : Int32) : AX (d + 2) kM_form 0 0 none 118 [(3, .int x), (2, .int k), (1, .int (nI S.length)), (0, .ref 28)] [] h 0 0 (ax_ret kM_form 0 0 (fmR y t0 S p)) := by
  have hp : S = [] ↔ nI S.length ≤ 0 := by
    constructor
    · intro e; rw [e]; decide
    · intro e
      have e2 : nI S.length ≤ nI 0 := e
      rw [nI_leI hs (by decide)] at e2
      exact List.length_eq_zero_iff.mp (by omega)
  refine AX.iload_n rfl rfl ?_
  refine AX.if_le rfl (fun c1 => ?_) (fun c1 => ?_)
  · refine AX.iconstV (v := 0) rfl (by decide) ?_
    exact AX.zreturn rfl rfl (by decide) ⟨by first | rw [decide_eq_true (hp.mpr c1)]; rfl | rw [decide_eq_false (fun q => c1 (hp.mp q))]; rfl, t, hm, hR, h1, h2⟩ (Nat.le_refl _) (Nat.le_refl _)
  · refine AX.iconstV (v := 1) rfl (by decide) ?_
    refine AX.goto rfl ?_
    exact AX.zreturn rfl rfl (by decide) ⟨by first | rw [decide_eq_true (hp.mpr c1)]; rfl | rw [decide_eq_false (fun q => c1 (hp.mp q))]; rfl, t, hm, hR, h1, h2⟩ (Nat.le_refl _) (Nat.le_refl _)
theorem yM_form_l (hW : WF y) {mst : Nat} (hmst : mst ≤ 8) {t0 : mS} (hmo : t0.1 0 = nI mst) : ∀ (r k : Nat) (S : List Nat) (t : mS) (h : ax_H), S.Nodup → (∀ a ∈ S, a ∈ yQ y) → RM (yF y S) t → (∀ q, q ≠ 6 → t.1 q = t0.1 q) → t.2 1 = t0.2 1 → isM p t h → (yQ (yF y S)).length = k + r → S.length ≤ mst →
    AX (d + 2) kM_form 0 0 none 23 [(3, .int (cvOf (yF y S) k)), (2, .int (nI k)), (1, .int (nI S.length)), (0, .ref 28)] [] h 0 0 (ax_ret kM_form 0 0 (fmR y t0 (S ++ sel (ycf y) ((yQ (yF y S)).drop k) (mst - S.length) (gL (yG y) ++ S)) p)) := by
  intro r
  induction r with
  | zero =>
    intro k S t h hSn hSs hR h1 h2 hm hb hk
    have hcv : cvOf (yF y S) k = -1 := by unfold cvOf; rw [if_neg (by omega)]
    rw [List.drop_eq_nil_of_le (by omega), sel, List.append_nil]
    refine AX.iload_n rfl rfl ?_
    refine AX.iconstV (v := (-1)) rfl (by decide) ?_
    refine AX.icmp_eq rfl (fun _ => ?_) (fun c => absurd hcv c)
    exact yM_form_e hR hm (by omega) h1 h2 _ _
  | succ r ih =>
    intro k S t h hSn hSs hR h1 h2 hm hb hk
    have hWS := hW.form hSn hSs
    have hQn := hWS.qn
    have hQl := hWS.ql
    have hlt : k < (yQ (yF y S)).length := by omega
    have hcv : cvOf (yF y S) k = nI ((yQ (yF y S)).getD k 0) := by unfold cvOf; rw [if_pos hlt]
    have hcm := getD_mem (x := 0) hlt
    have hc6 := (hWS.2.2.2.2.2.1 _).mp hcm
    have hfd := fil_drop hQn hlt
    rw [drop_getD (x := 0) hlt, sel]
    generalize hc : (yQ (yF y S)).getD k 0 = c at *
    have hn40 := hW.1
    have hc40 : c < 40 := by have : c < yn y := hc6.1; omega
    have hcne : ¬ nI c = -1 := by
      intro e
      have h4 := nI_pos' (show c < 2 ^ 31 by omega)
      rw [e] at h4
      exact absurd h4 (by decide)
    have hbar : (gL (yG (yF y S))).any (fun a => ycf (yF y S) a c) = (gL (yG y) ++ S).any (fun a => ycf y a c) := by
      show (gL (yG y ++ gO S)).any (fun a => ycf y a c) = _
      rw [gO_L]
    have hmo2 : t.1 0 = nI mst := by rw [h1 0 (by decide)]; exact hmo
    rw [hcv]
    by_cases c1 : mst ≤ S.length
    · rw [if_pos (by omega), List.append_nil]
      refine AX.iload_n rfl rfl ?_
      refine AX.iconstV (v := (-1)) rfl (by decide) ?_
      refine AX.icmp_eq rfl (fun c => absurd c hcne) (fun _ => ?_)
      refine AX.iload_n rfl rfl ?_
      refine AX.aload_n rfl rfl ?_
      refine AX.getf rfl (M0 hm) rfl ?_
      refine AX.icmp_ge rfl (fun _ => ?_) (fun c => absurd (hmo2 ▸ nI_le c1 (by omega)) c)
      exact yM_form_e hR hm (by omega) h1 h2 _ _
    · rw [if_neg (by omega)]
      by_cases c2 : (gL (yG y) ++ S).any (fun a => ycf y a c) = true
      · rw [if_pos c2]
        refine AX.iload_n rfl rfl ?_
        refine AX.iconstV (v := (-1)) rfl (by decide) ?_
        refine AX.icmp_eq rfl (fun c => absurd c hcne) (fun _ => ?_)
        refine AX.iload_n rfl rfl ?_
        refine AX.aload_n rfl rfl ?_
        refine AX.getf rfl (M0 hm) rfl ?_
        refine AX.icmp_ge rfl (fun c => absurd (hmo2 ▸ c) (nI_ge (by omega) (by omega))) (fun _ => ?_)
        refine AX.aload_n rfl rfl ?_
        refine AX.iload_n rfl rfl ?_
        refine AX.cVI rfl rfl rfl (M0 hm) (sM_isBarred hR.2.2.2.1 hR.2.1 hm hc40) (fun h hm => ?_)
        refine AX.if_eqB rfl (fun c => absurd (c.symm.trans (hbar.trans c2)) (by decide)) (fun _ => ?_)
        refine AX.iincV (dn := 1) rfl rfl (by decide) (by decide) ?_
        refine AX.goto rfl ?_
        rw [nI_1]
        refine AX.sub [1, 0, 2, 3] rfl ?_
        refine yM_form_n (k := k + 1) hR hWS hm (by omega) _ _ (fun h hm => ?_)
        exact ih (k + 1) S t h hSn hSs hR h1 h2 hm (by omega) hk
      · rw [if_neg c2]
        have hcS : c ∉ S := by
          intro q
          have : (if c ∈ S then 1 else ypl y c) = 0 := hc6.2
          rw [if_pos q] at this
          cases this
        have hSn2 : (S ++ [c]).Nodup := by
          rw [List.nodup_append]
          refine ⟨hSn, by simp, ?_⟩
          intro a ha b hb e
          rw [List.mem_singleton] at hb
          subst hb
          subst e
          exact hcS ha
        have hSs2 : ∀ a ∈ S ++ [c], a ∈ yQ y := by
          intro a ha
          rcases List.mem_append.mp ha with q | q
          · exact hSs a q
          · rw [List.mem_singleton] at q
            subst q
            exact (List.mem_filter.mp hcm).1
        have hR2 := RM.form1 hW hSn2 hSs2 hR
        have hQ2 : yQ (yF y (S ++ [c])) = (yQ (yF y S)).filter (fun x => !decide (x = c)) := yF_Q y S c
        have e6 : t.1 6 = nI (gL (yG y) ++ S).length := by
          have q : t.1 6 = nI (gL (yG y ++ gO S)).length := hR.2.1.1
          rw [gO_L] at q
          exact q
        have hW2 := hW.form hSn2 hSs2
        have htl := hW2.tl
        have hlen : (gL (yG (yF y (S ++ [c])))).length = (gL (yG y) ++ S).length + 1 := by
          show (gL (yG y ++ gO (S ++ [c]))).length = _
          rw [gO_L, ← List.append_assoc, List.length_append, List.length_singleton]
        have fin : ∀ (x : Int32) (h : ax_H), isM p (mFm t c (decide (S = [])) (gL (yG y) ++ S).length) h → AX (d + 2) kM_form 0 0 none 109 [(3, .int x), (2, .int (nI k)), (1, .int (nI (S ++ [c]).length)), (0, .ref 28)] [] h 0 0 (ax_ret kM_form 0 0 (fmR y t0 (S ++ c :: sel (ycf y) ((yQ (yF y S)).drop (k + 1)) (mst - S.length - 1) (gL (yG y) ++ S ++ [c])) p)) := by
          intro x h hm
          refine yM_form_n hR2 hW2 hm (by omega) _ _ (fun h hm => ?_)
          have := ih k (S ++ [c]) _ h hSn2 hSs2 hR2 (fun q hq => by
            rw [← h1 q hq]
            show va_up t.1 6 _ q = _
            simp [va_up, hq]) (by rw [← h2]; rfl) hm (by rw [hQ2]; omega) (by rw [List.length_append, List.length_singleton]; omega)
          rw [hQ2, hfd.1, List.length_append, List.length_singleton, ← List.append_assoc, List.append_assoc, show mst - (S.length + 1) = mst - S.length - 1 by omega] at this
          rw [List.length_append, List.length_singleton]
          exact this
        rw [show (S ++ [c]).length = S.length + 1 by rw [List.length_append, List.length_singleton]] at fin
        by_cases hS0 : S = []
        · have hk0 : nI S.length = 0 := by rw [hS0]; rfl
          rw [decide_eq_true hS0] at fin
          refine AX.iload_n rfl rfl ?_
          refine AX.iconstV (v := (-1)) rfl (by decide) ?_
          refine AX.icmp_eq rfl (fun c => absurd c hcne) (fun _ => ?_)
          refine AX.iload_n rfl rfl ?_
          refine AX.aload_n rfl rfl ?_
          refine AX.getf rfl (M0 hm) rfl ?_
          refine AX.icmp_ge rfl (fun c => absurd (hmo2 ▸ c) (nI_ge (by omega) (by omega))) (fun _ => ?_)
          refine AX.aload_n rfl rfl ?_
          refine AX.iload_n rfl rfl ?_
          refine AX.cVI rfl rfl rfl (M0 hm) (sM_isBarred hR.2.2.2.1 hR.2.1 hm hc40) (fun h hm => ?_)
          refine AX.if_eqB rfl (fun _ => ?_) (fun c => absurd (hbar.symm.trans c) c2)
          refine AX.aload_n rfl rfl ?_
          refine AX.getf rfl (M0 hm) rfl ?_
          refine AX.iload_n rfl rfl ?_
          refine AX.iconstV (v := 1) rfl (by decide) ?_
          refine AX.iastX (c) rfl (MA hm 2 (by decide) (by decide) (by decide)) (by decide) (hc40) (rfl) ?_
          refine AX.gen (G := isM p _) (MW hm 2 _ _ (by decide) (by decide) (by decide)) (fun h hm => ?_)
          refine AX.aload_n rfl rfl ?_
          refine AX.getf rfl (M0 hm) rfl ?_
          refine AX.iload_n rfl rfl ?_
          refine AX.iload_n rfl rfl ?_
          refine AX.if_ne rfl (fun c => absurd hk0 c) (fun _ => ?_)
          refine AX.iconstV (v := 1) rfl (by decide) ?_
          refine AX.goto rfl ?_
          refine AX.zastX (c) rfl (MA9 hm) (by decide) (hc40) (rfl) (by decide) ?_
          refine AX.gen (G := isM p _) (MW9 hm _ _) (fun h hm => ?_)
          refine AX.aload_n rfl rfl ?_
          refine AX.getf rfl (M0 hm) rfl ?_
          refine AX.iload_n rfl rfl ?_
          refine AX.iconstV (v := 0) rfl (by decide) ?_
          refine AX.iastX (c) rfl (MA hm 10 (by decide) (by decide) (by decide)) (by decide) (hc40) (rfl) ?_
          refine AX.gen (G := isM p _) (MW hm 10 _ _ (by decide) (by decide) (by decide)) (fun h hm => ?_)
          refine AX.aload_n rfl rfl ?_
          refine AX.getf rfl (M0 hm) rfl ?_
          refine AX.iload_n rfl rfl ?_
          refine AX.iconstV (v := 0) rfl (by decide) ?_
          refine AX.iastX (c) rfl (MA hm 11 (by decide) (by decide) (by decide)) (by decide) (hc40) (rfl) ?_
          refine AX.gen (G := isM p _) (MW hm 11 _ _ (by decide) (by decide) (by decide)) (fun h hm => ?_)
          refine AX.aload_n rfl rfl ?_
          refine AX.getf rfl (M0 hm) rfl ?_
          refine AX.aload_n rfl rfl ?_
          refine AX.getf rfl (M0 hm) rfl ?_
          refine AX.iload_n rfl rfl ?_
          refine AX.iastX ((gL (yG y) ++ S).length) rfl (MA hm 7 (by decide) (by decide) (by decide)) (by decide) (by omega) (e6) ?_
          refine AX.gen (G := isM p _) (MW hm 7 _ _ (by decide) (by decide) (by decide)) (fun h hm => ?_)
          refine AX.aload_n rfl rfl ?_
          refine AX.dup rfl rfl ?_
          refine AX.getf rfl (M0 hm) rfl ?_
          refine AX.iconstV (v := 1) rfl (by decide) ?_
          refine AX.iadd rfl ?_
          refine AX.putf rfl (M0 hm) (Nat.le_of_ble_eq_true rfl) rfl ?_
          refine AX.gen (G := isM p _) (MS hm 6 _ (by decide) rfl) (fun h hm => ?_)
          refine AX.iincV (dn := 1) rfl rfl (by decide) (by decide) ?_
          rw [nI_1]
          refine AX.sub [1, 2, 0, 3] rfl ?_
          refine fin (nI c) h ?_
          unfold mFm
          rw [← nI_1, ← e6]
          exact hm
        · have hk0 : ¬ nI S.length = 0 := nI_ne0 (List.length_pos_iff.mpr hS0) (by omega)
          rw [decide_eq_false hS0] at fin
          refine AX.iload_n rfl rfl ?_
          refine AX.iconstV (v := (-1)) rfl (by decide) ?_
          refine AX.icmp_eq rfl (fun c => absurd c hcne) (fun _ => ?_)
          refine AX.iload_n rfl rfl ?_
          refine AX.aload_n rfl rfl ?_
          refine AX.getf rfl (M0 hm) rfl ?_
          refine AX.icmp_ge rfl (fun c => absurd (hmo2 ▸ c) (nI_ge (by omega) (by omega))) (fun _ => ?_)
          refine AX.aload_n rfl rfl ?_
          refine AX.iload_n rfl rfl ?_
          refine AX.cVI rfl rfl rfl (M0 hm) (sM_isBarred hR.2.2.2.1 hR.2.1 hm hc40) (fun h hm => ?_)
          refine AX.if_eqB rfl (fun _ => ?_) (fun c => absurd (hbar.symm.trans c) c2)
          refine AX.aload_n rfl rfl ?_
          refine AX.getf rfl (M0 hm) rfl ?_
          refine AX.iload_n rfl rfl ?_
          refine AX.iconstV (v := 1) rfl (by decide) ?_
          refine AX.iastX (c) rfl (MA hm 2 (by decide) (by decide) (by decide)) (by decide) (hc40) (rfl) ?_
          refine AX.gen (G := isM p _) (MW hm 2 _ _ (by decide) (by decide) (by decide)) (fun h hm => ?_)
          refine AX.aload_n rfl rfl ?_
          refine AX.getf rfl (M0 hm) rfl ?_
          refine AX.iload_n rfl rfl ?_
          refine AX.iload_n rfl rfl ?_
          refine AX.if_ne rfl (fun _ => ?_) (fun c => absurd c hk0)
          refine AX.iconstV (v := 0) rfl (by decide) ?_
          refine AX.zastX (c) rfl (MA9 hm) (by decide) (hc40) (rfl) (by decide) ?_
          refine AX.gen (G := isM p _) (MW9 hm _ _) (fun h hm => ?_)
          refine AX.aload_n rfl rfl ?_
          refine AX.getf rfl (M0 hm) rfl ?_
          refine AX.iload_n rfl rfl ?_
          refine AX.iconstV (v := 0) rfl (by decide) ?_
          refine AX.iastX (c) rfl (MA hm 10 (by decide) (by decide) (by decide)) (by decide) (hc40) (rfl) ?_
          refine AX.gen (G := isM p _) (MW hm 10 _ _ (by decide) (by decide) (by decide)) (fun h hm => ?_)
          refine AX.aload_n rfl rfl ?_
          refine AX.getf rfl (M0 hm) rfl ?_
          refine AX.iload_n rfl rfl ?_
          refine AX.iconstV (v := 0) rfl (by decide) ?_
          refine AX.iastX (c) rfl (MA hm 11 (by decide) (by decide) (by decide)) (by decide) (hc40) (rfl) ?_
          refine AX.gen (G := isM p _) (MW hm 11 _ _ (by decide) (by decide) (by decide)) (fun h hm => ?_)
          refine AX.aload_n rfl rfl ?_
          refine AX.getf rfl (M0 hm) rfl ?_
          refine AX.aload_n rfl rfl ?_
          refine AX.getf rfl (M0 hm) rfl ?_
          refine AX.iload_n rfl rfl ?_
          refine AX.iastX ((gL (yG y) ++ S).length) rfl (MA hm 7 (by decide) (by decide) (by decide)) (by decide) (by omega) (e6) ?_
          refine AX.gen (G := isM p _) (MW hm 7 _ _ (by decide) (by decide) (by decide)) (fun h hm => ?_)
          refine AX.aload_n rfl rfl ?_
          refine AX.dup rfl rfl ?_
          refine AX.getf rfl (M0 hm) rfl ?_
          refine AX.iconstV (v := 1) rfl (by decide) ?_
          refine AX.iadd rfl ?_
          refine AX.putf rfl (M0 hm) (Nat.le_of_ble_eq_true rfl) rfl ?_
          refine AX.gen (G := isM p _) (MS hm 6 _ (by decide) rfl) (fun h hm => ?_)
          refine AX.iincV (dn := 1) rfl rfl (by decide) (by decide) ?_
          rw [nI_1]
          refine AX.sub [1, 2, 0, 3] rfl ?_
          refine fin (nI c) h ?_
          unfold mFm
          rw [← nI_1, ← e6]
          exact hm
theorem yM_form1 (hR : RM y t) (hW : WF y) (hm : isM p t h) {mst : Nat} (hmst : mst ≤ 8) (hmo : t.1 0 = nI mst) (hw : nI (yG y).length < t.1 1) : AM (d + 2) kM_form 0 0 none [.ref 28] h (fmR y t (ySel y mst) p) := by
  refine AX.aload_n rfl rfl ?_
  refine AX.cVI rfl rfl rfl (M0 hm) (yM_groupMany hR hW hm) (fun h hm => ?_)
  refine AX.aload_n rfl rfl ?_
  refine AX.getf rfl (M0 hm) rfl ?_
  refine AX.icmp_lt rfl (fun _ => ?_) (fun c => absurd hw c)
  refine AX.iconstV (v := 0) rfl (by decide) ?_
  refine AX.istore_n rfl (by decide) ?_
  refine AX.iconstV (v := 0) rfl (by decide) ?_
  refine AX.istore_n rfl (by decide) ?_
  refine AX.aload_n rfl rfl ?_
  refine AX.iconstV (v := 0) rfl (by decide) ?_
  refine AX.cVI rfl rfl rfl (M0 hm) (yM_waitingAt0 hR hW hm) (fun h hm => ?_)
  refine AX.istore_n rfl (by decide) ?_
  have := yM_form_l (p := p) (d := d) hW hmst hmo (yQ y).length 0 [] t h List.nodup_nil (fun a ha => by cases ha) (by rw [yF_nil]; exact hR) (fun _ _ => rfl) rfl hm (by rw [yF_nil]; omega) (Nat.zero_le _)
  rw [yF_nil] at this
  rw [List.nil_append, List.append_nil, List.drop_zero] at this
  exact this
theorem yM_form0 (hR : RM y t) (hW : WF y) (hm : isM p t h) (hw : ¬ nI (yG y).length < t.1 1) : AM (d + 2) kM_form 0 0 none [.ref 28] h (fun v h' => v = some (.int 0) ∧ isM p t h') := by
  refine AX.aload_n rfl rfl ?_
  refine AX.cVI rfl rfl rfl (M0 hm) (yM_groupMany hR hW hm) (fun h hm => ?_)
  refine AX.aload_n rfl rfl ?_
  refine AX.getf rfl (M0 hm) rfl ?_
  refine AX.icmp_lt rfl (fun c => absurd c hw) (fun _ => ?_)
  refine AX.iconstV (v := 0) rfl (by decide) ?_
  exact AX.zreturn rfl rfl (by decide) ⟨rfl, hm⟩ (Nat.le_refl _) (Nat.le_refl _)
end MF
end
section
/-! The model's public methods, beside the class's -/
section PU
variable {y : yT} {z : zS} {t : mS} {p h : ax_H} {d : Nat}
def J (p : ax_H) (R : Int32) (z : zS) : Option Value → ax_H → Prop := fun v h' => v = some (.int R) ∧ ∃ y' t', INV y' z t' ∧ isM p t' h'
theorem J.same (hI : INV y z t) {D k : Nat} {as : List Value} {R R' : Int32} (hA : AM D k 0 0 none as h (fun v h' => v = some (.int R) ∧ isM p t h')) (e : R' = R) : AM D k 0 0 none as h (J p R' z) :=
  hA.imp (fun v h' q => ⟨by rw [e]; exact q.1, y, t, hI, q.2⟩)
theorem ok_where (hI : INV y z t) (hm : isM p t h) (c : Int32) : AM (d + 1) kM_where 0 0 none [.ref 28, .int c] h (J p (zat z 2 c) z) := J.same hI (yM_where hI.2.2.1 hI.1 hm c) (same_where hI.2.1 hI.1 c)
theorem ok_why (hI : INV y z t) (hm : isM p t h) (c : Int32) : AM (d + 1) kM_why 0 0 none [.ref 28, .int c] h (J p (zat z 3 c) z) := J.same hI (yM_why hI.2.2.1 hI.1 hm c) (same_why hI.2.1 hI.1 c)
theorem ok_landed (hI : INV y z t) (hm : isM p t h) (c : Int32) : AM d kM_landed 0 0 none [.ref 28, .int c] h (J p (zat z 7 c) z) := J.same hI (yM_landed hI.2.2.1 hI.1 hm c) (same_landed hI.2.1 hI.1 c)
theorem ok_waiting (hI : INV y z t) (hm : isM p t h) (c : Int32) : AM (d + 2) kM_waiting 0 0 none [.ref 28, .int c] h (J p (zat z 6 c) z) := J.same hI (yM_waiting hI.2.2.1 hI.1 hm c) (same_waiting hI.2.1 hI.2.2.1 hI.1 c)
theorem ok_by (hI : INV y z t) (hm : isM p t h) (c : Int32) : AM (d + 2) kM_by 0 0 none [.ref 28, .int c] h (J p (zQ_by z c) z) := J.same hI (yM_by hI.2.2.1 hI.1 hm c) (same_by hI.2.1 hI.1 c)
theorem ok_counted (hI : INV y z t) (hm : isM p t h) (c : Int32) : AM d kM_counted 0 0 none [.ref 28, .int c] h (J p (zQ_counted z c) z) := J.same hI (yM_counted hI.2.2.1 hI.1 hm c) (same_counted hI.2.1 hI.1 hI.2.2.2 c)
theorem ok_groups (hI : INV y z t) (hm : isM p t h) : AM (d + 1) kM_groups 0 0 none [.ref 28] h (J p (nI (z.2.1 10).length) z) := J.same hI (yM_groups hI.2.2.1 hI.1 hm) (same_groups hI.2.1)
theorem ok_group (hI : INV y z t) (hm : isM p t h) (g w : Int32) : AM (d + 2) kM_group 0 0 none [.ref 28, .int g, .int w] h (J p (zQ_group z g w) z) := J.same hI (yM_group hI.2.2.1 hI.1 hm g w) (same_group hI.2.1 hI.1 g w)
theorem ok_member (hI : INV y z t) (hm : isM p t h) (g k : Int32) : AM (d + 2) kM_member 0 0 none [.ref 28, .int g, .int k] h (J p (zG_member z g k) z) := J.same hI (yM_member hI.2.2.1 hI.1 hm g k) (same_member hI.2.1 hI.1 g k)
theorem ok_pause (hI : INV y z t) (hm : isM p t h) (q : Int32) (hq : q = 0 ∨ q = 1) : AM d kM_pause 0 0 none [.ref 28, .int q] h (J p (bI (zQ_pause z q).1) (zQ_pause z q).2) := by
  obtain ⟨e1, e2⟩ := op_pause hI hq
  exact (yM_pause hI.2.2.1 hm q hq).imp (fun v h' r => ⟨by rw [e1]; exact r.1, y, _, e2, r.2⟩)
theorem ok_answer (hI : INV y z t) (hm : isM p t h) (g q : Int32) : AM (d + 2) kM_answer 0 0 none [.ref 28, .int g, .int q] h (J p (zQ_answer z g q).1 (zQ_answer z g q).2) := by
  have hl := hI.1.gl
  by_cases hc : yIsG y g = true ∧ ((yG y).getD g.toNatClampNeg g0).2.1 = 1
  · obtain ⟨hg, h1⟩ := hc
    obtain ⟨k1, k2⟩ := isC_k hl hg
    generalize g.toNatClampNeg = i at *
    subst k2
    obtain ⟨e1, e2⟩ := op_answer hI k1 h1 q
    exact (yM_answer1 hI.2.2.1 hI.1 hm k1 h1 q).imp (fun v h' r => ⟨by rw [e1]; exact r.1, _, _, e2, r.2⟩)
  · have ez : zQ_answer z g q = (-1, z) := by
      unfold zQ_answer
      rw [if_neg]
      rw [(gat hI.2.1 hI.1 g).1]
      by_cases hg : yIsG y g = true
      · rw [if_pos hg]
        obtain ⟨k1, k2⟩ := isC_k hl hg
        intro e
        exact hc ⟨hg, (gis hI.1 k1 (k := 1) (by decide)).mp e⟩
      · rw [if_neg hg]; decide
    rw [ez]
    exact J.same hI (yM_answer0 hI.2.2.1 hI.1 hm g q hc) rfl
theorem ok_change (hI : INV y z t) (hm : isM p t h) (r q : Int32) : AM d kM_change 0 0 none [.ref 28, .int r, .int q] h (J p (zQ_change z r q).1 (zQ_change z r q).2) := by
  have hI0 := hI
  obtain ⟨hW, hC, hR, hS⟩ := hI
  have hcode := hR.1.1
  have hn4 : t.1 4 = nI (yn y) := hR.1.2.1
  have hn := hW.1
  have hlen : (z.2.1 2).length = yn y := by rw [hC.row 2 (by decide) (by decide)]; show ((List.range (yn y)).map _).length = _; rw [List.length_map, List.length_range]
  have bad : (r < 0 ∨ 9 < r ∨ ¬ nI (yn y) < 40) → zQ_change z r q = (-1, z) := by
    intro hb
    unfold zQ_change
    rw [hlen, if_pos hb]
  refine AX.aload_n rfl rfl ?_
  refine AX.iconstV (v := 0) rfl (by decide) ?_
  refine AX.putf rfl (M0 hm) (Nat.le_of_ble_eq_true rfl) rfl ?_
  refine AX.gen (G := isM p _) (MS hm 3 _ (by decide) rfl) (fun h hm => ?_)
  rw [mset_same hcode] at hm
  refine AX.aload_n rfl rfl ?_
  refine AX.getf rfl (M0 hm) rfl ?_
  refine AX.bipushV (v := 40) rfl (by decide) ?_
  refine AX.icmp_eq rfl (fun c1 => ?_) (fun c1 => ?_)
  · have hb := bad (by first | exact Or.inl c2 | exact Or.inr (Or.inl (Int32.not_le.mp c3)) | exact Or.inr (Or.inr (by rw [← hn4, c1]; decide)))
    refine AX.iconstV (v := (-1)) rfl (by decide) ?_
    exact AX.ireturn rfl rfl ⟨by rw [hb], y, t, by rw [hb]; exact hI0, hm⟩ (Nat.le_refl _) (Nat.le_refl _)
  · refine AX.iload_n rfl rfl ?_
    refine AX.if_lt rfl (fun c2 => ?_) (fun c2 => ?_)
    · have hb := bad (by first | exact Or.inl c2 | exact Or.inr (Or.inl (Int32.not_le.mp c3)) | exact Or.inr (Or.inr (by rw [← hn4, c1]; decide)))
      refine AX.iconstV (v := (-1)) rfl (by decide) ?_
      exact AX.ireturn rfl rfl ⟨by rw [hb], y, t, by rw [hb]; exact hI0, hm⟩ (Nat.le_refl _) (Nat.le_refl _)
    · refine AX.iload_n rfl rfl ?_
      refine AX.bipushV (v := 9) rfl (by decide) ?_
      refine AX.icmp_le rfl (fun c3 => ?_) (fun c3 => ?_)
      · have h40 : yn y < 40 := by
          rcases Nat.lt_or_ge (yn y) 40 with q | q
          · exact q
          · exact absurd (by rw [hn4, show yn y = 40 by omega]; rfl) c1
        obtain ⟨k, k1, k2, k3⟩ := i_pos c2
        have k9 : k ≤ 9 := by
          rw [k2] at c3
          exact (nI_leI k1 (by decide)).mp c3
        have hgo : zQ_change z r q = (nI (yn y), zQ_enq (zC_add z r q) (nI (yn y))) := by
          unfold zQ_change
          rw [hlen, if_neg (fun hb => by rcases hb with hb | hb | hb; exact c2 hb; exact absurd c3 (Int32.not_le.mpr hb); exact hb ((nI_ltI (by omega) (by decide)).mpr h40))]
        refine AX.aload_n rfl rfl ?_
        refine AX.getf rfl (M0 hm) rfl ?_
        refine AX.aload_n rfl rfl ?_
        refine AX.getf rfl (M0 hm) rfl ?_
        refine AX.iload_n rfl rfl ?_
        refine AX.iastX (yn y) rfl (MA hm 0 (by decide) (by decide) (by decide)) (by decide) (by omega) (hn4) ?_
        refine AX.gen (G := isM p _) (MW hm 0 _ _ (by decide) (by decide) (by decide)) (fun h hm => ?_)
        refine AX.aload_n rfl rfl ?_
        refine AX.getf rfl (M0 hm) rfl ?_
        refine AX.aload_n rfl rfl ?_
        refine AX.getf rfl (M0 hm) rfl ?_
        refine AX.iload_n rfl rfl ?_
        refine AX.iastX (yn y) rfl (MA hm 1 (by decide) (by decide) (by decide)) (by decide) (by omega) (hn4) ?_
        refine AX.gen (G := isM p _) (MW hm 1 _ _ (by decide) (by decide) (by decide)) (fun h hm => ?_)
        refine AX.aload_n rfl rfl ?_
        refine AX.getf rfl (M0 hm) rfl ?_
        refine AX.aload_n rfl rfl ?_
        refine AX.getf rfl (M0 hm) rfl ?_
        refine AX.iconstV (v := 0) rfl (by decide) ?_
        refine AX.iastX (yn y) rfl (MA hm 2 (by decide) (by decide) (by decide)) (by decide) (by omega) (hn4) ?_
        refine AX.gen (G := isM p _) (MW hm 2 _ _ (by decide) (by decide) (by decide)) (fun h hm => ?_)
        refine AX.aload_n rfl rfl ?_
        refine AX.dup rfl rfl ?_
        refine AX.getf rfl (M0 hm) rfl ?_
        refine AX.iconstV (v := 1) rfl (by decide) ?_
        refine AX.iadd rfl ?_
        refine AX.putf rfl (M0 hm) (Nat.le_of_ble_eq_true rfl) rfl ?_
        refine AX.gen (G := isM p _) (MS hm 4 _ (by decide) rfl) (fun h hm => ?_)
        refine AX.aload_n rfl rfl ?_
        refine AX.getf rfl (M0 hm) rfl ?_
        refine AX.iconstV (v := 1) rfl (by decide) ?_
        refine AX.isub rfl ?_
        exact AX.ireturn rfl rfl ⟨by rw [hgo]; show some (Value.int (t.1 4 + 1 - 1)) = _; rw [hn4, nI_1, show (1 : Int32) = nI 1 from rfl, pk_sub (by omega)]; rfl, _, _, by rw [hgo, k2]; exact op_change hI0 k9 h40 q, by rw [← k2]; unfold mAdd2; rw [← hn4]; exact hm⟩ (Nat.le_refl _) (Nat.le_refl _)
      · have hb := bad (by first | exact Or.inl c2 | exact Or.inr (Or.inl (Int32.not_le.mp c3)) | exact Or.inr (Or.inr (by rw [← hn4, c1]; decide)))
        refine AX.iconstV (v := (-1)) rfl (by decide) ?_
        exact AX.ireturn rfl rfl ⟨by rw [hb], y, t, by rw [hb]; exact hI0, hm⟩ (Nat.le_refl _) (Nat.le_refl _)
theorem ok_jump (hI : INV y z t) (hm : isM p t h) (c : Int32) : AM (d + 1) kM_jump 0 0 none [.ref 28, .int c] h (J p (bI (zQ_jump z c).1) (zQ_jump z c).2) := by
  have hI0 := hI
  obtain ⟨hW, hC, hR, hS⟩ := hI
  have hcode := hR.1.1
  have hn4 : t.1 4 = nI (yn y) := hR.1.2.1
  have hn := hW.1
  have a2 := same_where hC hW c
  by_cases hc : isC (yn y) c = true
  · obtain ⟨k1, k2⟩ := isC_k hn hc
    unfold yWhere at a2
    rw [if_pos hc] at a2
    generalize c.toNatClampNeg = k at *
    subst k2
    have w2 := hW.2.1 k k1
    obtain ⟨b1, b2, b3, b4, b5⟩ := hR.2.2.2.2.1 k k1
    have a4 : zat z 4 (nI k) = nI (ytn y k) := by
      rw [zat, hC.row 4 (by decide) (by decide)]
      show rAt ((List.range (yn y)).map (fun c => nI (ytn y c))) (nI k) = _
      rw [rAt_range hn, if_pos hc, nI_clamp (by omega)]
    have no1 : ¬ nI (ypl y k) = 0 → zQ_jump (z := z) (nI k) = (false, z) := by
      intro e
      unfold zQ_jump
      rw [a2, if_pos e]
    have hj : 0 < jp (ytn y k) ↔ ¬ ytn y k = 40 := by
      unfold jp
      by_cases e : ytn y k = 40
      · rw [if_pos e]; simp [e]
      · rw [if_neg e]; simp [e]
    have hle : nI (jp (ytn y k)) ≤ 0 ↔ ytn y k = 40 := by
      have h1 : nI (jp (ytn y k)) ≤ nI 0 ↔ jp (ytn y k) ≤ 0 := nI_leI (by unfold jp; split <;> omega) (by decide)
      constructor
      · intro e
        have := h1.mp e
        by_cases e2 : ytn y k = 40
        · exact e2
        · have := hj.mpr e2; omega
      · intro e
        rw [e]; decide
    have no2 : ¬ nI (jp (ytn y k)) ≤ 0 → zQ_jump (z := z) (nI k) = (false, z) := by
      intro e
      unfold zQ_jump
      by_cases e0 : ¬ zat z 2 (nI k) = 0
      · rw [if_pos e0]
      · have e4 : ¬ nI (ytn y k) = 40 := fun q => e (hle.mpr ((nI_eq (by omega) (by decide)).mp (show nI (ytn y k) = nI 40 from q)))
        rw [if_neg e0, if_pos]
        unfold zC_hasJumped
        rw [a4, decide_eq_false e4]; rfl
    have yes : nI (ypl y k) = 0 → nI (jp (ytn y k)) ≤ 0 → zQ_jump (z := z) (nI k) = (true, zQ_enq (zC_giveTurn (zQ_deq z (nI k)) (nI k)) (nI k)) := by
      intro e1 e2
      unfold zQ_jump
      rw [a2, if_neg (fun q => q e1), if_neg]
      unfold zC_hasJumped
      rw [a4, decide_eq_true (by rw [hle.mp e2]; rfl)]
      decide
    refine AX.aload_n rfl rfl ?_
    refine AX.iconstV (v := 0) rfl (by decide) ?_
    refine AX.putf rfl (M0 hm) (Nat.le_of_ble_eq_true rfl) rfl ?_
    refine AX.gen (G := isM p _) (MS hm 3 _ (by decide) rfl) (fun h hm => ?_)
    rw [mset_same hcode] at hm
    refine AX.aload_n rfl rfl ?_
    refine AX.iload_n rfl rfl ?_
    refine AX.cVI rfl rfl rfl (M0 hm) (sM_isChange hn4 hn hm _) (fun h hm => ?_)
    refine AX.if_eqB rfl (fun c => absurd (c.symm.trans hc) (by decide)) (fun _ => ?_)
    refine AX.aload_n rfl rfl ?_
    refine AX.getf rfl (M0 hm) rfl ?_
    refine AX.iload_n rfl rfl ?_
    refine AX.ialdX rfl (MA hm 2 (by decide) (by decide) (by decide)) (by decide) (⟨k, by omega, rfl, b2⟩) ?_
    refine AX.if_ne rfl (fun c1 => ?_) (fun c1 => ?_)
    · have hb : zQ_jump (z := z) (nI k) = (false, z) := by
        first
          | exact no1 c1
          | exact no2 c2
      refine AX.iconstV (v := 0) rfl (by decide) ?_
      exact AX.zreturn rfl rfl (by decide) ⟨by rw [hb]; rfl, y, t, by rw [hb]; exact hI0, hm⟩ (Nat.le_refl _) (Nat.le_refl _)
    · refine AX.aload_n rfl rfl ?_
      refine AX.getf rfl (M0 hm) rfl ?_
      refine AX.iload_n rfl rfl ?_
      refine AX.ialdX rfl (MA hm 3 (by decide) (by decide) (by decide)) (by decide) (⟨k, by omega, rfl, b5⟩) ?_
      refine AX.if_le rfl (fun c2 => ?_) (fun c2 => ?_)
      · refine AX.aload_n rfl rfl ?_
        refine AX.dup rfl rfl ?_
        refine AX.getf rfl (M0 hm) rfl ?_
        refine AX.iconstV (v := 1) rfl (by decide) ?_
        refine AX.iadd rfl ?_
        refine AX.putf rfl (M0 hm) (Nat.le_of_ble_eq_true rfl) rfl ?_
        refine AX.gen (G := isM p _) (MS hm 5 _ (by decide) rfl) (fun h hm => ?_)
        refine AX.aload_n rfl rfl ?_
        refine AX.getf rfl (M0 hm) rfl ?_
        refine AX.iload_n rfl rfl ?_
        refine AX.aload_n rfl rfl ?_
        refine AX.getf rfl (M0 hm) rfl ?_
        refine AX.iastX (k) rfl (MA hm 3 (by decide) (by decide) (by decide)) (by decide) (by omega) (rfl) ?_
        refine AX.gen (G := isM p _) (MW hm 3 _ _ (by decide) (by decide) (by decide)) (fun h hm => ?_)
        refine AX.iconstV (v := 1) rfl (by decide) ?_
        exact AX.zreturn rfl rfl (by decide) ⟨by rw [yes c1 c2]; rfl, _, _, by rw [yes c1 c2]; exact op_jump hI0 k1 ((nI_eq (by omega) (by decide)).mp (show nI (ypl y k) = nI 0 from c1)) (hle.mp c2), hm⟩ (Nat.le_refl _) (Nat.le_refl _)
      · have hb : zQ_jump (z := z) (nI k) = (false, z) := by
          first
            | exact no1 c1
            | exact no2 c2
        refine AX.iconstV (v := 0) rfl (by decide) ?_
        exact AX.zreturn rfl rfl (by decide) ⟨by rw [hb]; rfl, y, t, by rw [hb]; exact hI0, hm⟩ (Nat.le_refl _) (Nat.le_refl _)
  · unfold yWhere at a2
    rw [if_neg hc] at a2
    have hb : zQ_jump z c = (false, z) := by
      unfold zQ_jump
      rw [a2, if_pos (by decide)]
    rw [hb]
    refine AX.aload_n rfl rfl ?_
    refine AX.iconstV (v := 0) rfl (by decide) ?_
    refine AX.putf rfl (M0 hm) (Nat.le_of_ble_eq_true rfl) rfl ?_
    refine AX.gen (G := isM p _) (MS hm 3 _ (by decide) rfl) (fun h hm => ?_)
    rw [mset_same hcode] at hm
    refine AX.aload_n rfl rfl ?_
    refine AX.iload_n rfl rfl ?_
    refine AX.cVI rfl rfl rfl (M0 hm) (sM_isChange hn4 hn hm _) (fun h hm => ?_)
    refine AX.if_eqB rfl (fun _ => ?_) (fun c => absurd c hc)
    refine AX.iconstV (v := 0) rfl (by decide) ?_
    exact AX.zreturn rfl rfl (by decide) ⟨rfl, y, t, hI0, hm⟩ (Nat.le_refl _) (Nat.le_refl _)
end PU
end
section
/-! step -/
section ST
variable {y : yT} {z : zS} {t : mS} {p h : ax_H} {d : Nat}
theorem ok_ask (hI : INV y z t) (hm : isM p t h) : AM (d + 2) kM_ask 0 0 none [.ref 28] h (fun v h' => v = some (.int (bI (zQ_ask z).1)) ∧ ∃ y' t', INV y' (zQ_ask z).2 t' ∧ isM p t' h') := by
  obtain ⟨e1, e2, e3⟩ := op_ask hI
  rw [e1]
  refine (yM_ask hI.2.2.1 hI.1 hm).imp (fun v h' r => ⟨r.1, ?_⟩)
  have r2 := r.2
  unfold mAsk at r2
  by_cases ha : yAsk y (t.1 1) = true
  · rw [if_pos ha] at r2
    exact ⟨_, _, e2 ha, r2⟩
  · rw [if_neg ha] at r2
    have hb : yAsk y (t.1 1) = false := by cases hq : yAsk y (t.1 1) with
      | true => exact absurd hq ha
      | false => rfl
    exact ⟨y, t, by rw [e3 hb]; exact hI, r2⟩
theorem ok_form (hI : INV y z t) (hm : isM p t h) : AM (d + 2) kM_form 0 0 none [.ref 28] h (fun v h' => v = some (.int (bI (zQ_form z).1)) ∧ ∃ y' t', INV y' (zQ_form z).2 t' ∧ isM p t' h') := by
  have hI0 := hI
  obtain ⟨hW, hC, hR, hS⟩ := hI
  have hz1 : z.1 1 = t.1 1 := hS.2.1
  have hz0 : z.1 0 = t.1 0 := hS.1
  obtain ⟨mst, m1, m2, m3⟩ := hS.2.2.2.2.2.2.2.2.2.1
  have hl : nI (z.2.1 10).length = nI (yG y).length := same_groups hC
  by_cases hw : nI (yG y).length < t.1 1
  · have ez : zQ_form z = zFormE (zForm (z.2.1 6).length 0 0 z) := by
      unfold zQ_form
      rw [hl, hz1, if_pos hw]
    obtain ⟨f1, f2, f3, f4⟩ := op_formC hW hC (hz0.trans m1) m3
    rw [ez, f1]
    refine (yM_form1 hR hW hm m3 m1 hw).imp (fun v h' r => ⟨r.1, ?_⟩)
    obtain ⟨-, t', r1, r2, r3, r4⟩ := r
    have hsub : (ySel y mst).Sublist (yQ y) := sel_sub _ _ _ _
    refine ⟨yF y (ySel y mst), t', ⟨hW.form (hW.qn.sublist hsub) (fun c hc => hsub.subset hc), f2, r2, ?_⟩, r1⟩
    exact RS.cong hS rfl (fun i _ _ => by rw [f3]) f4 (fun q hq => r3 q (by omega)) r4
  · have ez : zQ_form z = (false, z) := by
      unfold zQ_form
      rw [hl, hz1, if_neg hw]
    rw [ez]
    exact (yM_form0 hR hW hm hw).imp (fun v h' r => ⟨r.1, y, t, hI0, r.2⟩)
theorem ok_land (hI : INV y z t) (hm : isM p t h) (h0 : 0 < (yG y).length) : AM (d + 3) kM_land 0 0 none [.ref 28] h (fun v h' => v = none ∧ ∃ y' t', INV y' (zQ_land z) t' ∧ isM p t' h') :=
  (yM_land hI.2.2.1 hI.1 hm h0).imp (fun v h' r => ⟨r.1, _, _, op_land hI h0, r.2⟩)
theorem ok_halve (hI : INV y z t) (hm : isM p t h) (h0 : 0 < (yG y).length) : AM (d + 2) kM_halve 0 0 none [.ref 28] h (fun v h' => v = none ∧ ∃ y' t', INV y' (zQ_halve z) t' ∧ isM p t' h') := by
  have h1 := (g1 hI.1 h0).1
  by_cases h2 : ((yG y).getD 0 g0).1.length = 1
  · exact (yM_halve1 hI.2.2.1 hI.1 hm h0 h2).imp (fun v h' r => ⟨r.1, _, _, op_halve1 hI h0 h2, r.2⟩)
  · exact (yM_halve2 hI.2.2.1 hI.1 hm h0 (by omega)).imp (fun v h' r => ⟨r.1, _, _, op_halve2 hI h0 (by omega), r.2⟩)
theorem ok_step_t (hI : INV y z t) (hm : isM p t h) (h3 : ¬ zat z 10 0 = 3) (h2 : ¬ zat z 10 0 = 2) (x : Int32) : AX (d + 4) kM_step 0 0 none 56 [(1, .int x), (0, .ref 28)] [] h 0 0 (ax_ret kM_step 0 0 (J p (zQ_step z).1 (zQ_step z).2)) := by
  have hI0 := hI
  have hz3 : z.1 3 = t.1 11 := hI.2.2.2.2.2.2.1
  have e0 : ¬ t.1 11 = 0 → zQ_step z = (0, z) := by
    intro e
    unfold zQ_step
    rw [if_neg h3, if_neg h2, hz3, if_neg e]
  have e1 : t.1 11 = 0 → (zQ_ask z).1 = true → zQ_step z = (3, (zQ_ask z).2) := by
    intro e q
    unfold zQ_step
    rw [if_neg h3, if_neg h2, hz3, if_pos e, if_pos q]
  have e2 : t.1 11 = 0 → (zQ_ask z).1 = false → (zQ_form (zQ_ask z).2).1 = true → zQ_step z = (4, (zQ_form (zQ_ask z).2).2) := by
    intro e q r
    unfold zQ_step
    rw [if_neg h3, if_neg h2, hz3, if_pos e, q, if_neg (by decide), if_pos r]
  have e4 : t.1 11 = 0 → (zQ_ask z).1 = false → (zQ_form (zQ_ask z).2).1 = false → zQ_step z = (0, (zQ_form (zQ_ask z).2).2) := by
    intro e q r
    unfold zQ_step
    rw [if_neg h3, if_neg h2, hz3, if_pos e, q, if_neg (by decide), r, if_neg (by decide)]
  refine AX.aload_n rfl rfl ?_
  refine AX.getf rfl (M0 hm) rfl ?_
  refine AX.if_eq rfl (fun c1 => ?_) (fun c1 => ?_)
  · refine AX.aload_n rfl rfl ?_
    refine AX.cVI rfl rfl rfl (M0 hm) (ok_ask hI0 hm) (fun h hJ => ?_)
    obtain ⟨y2, t2, hI2, hm⟩ := hJ
    refine AX.if_eqB rfl (fun c2 => ?_) (fun c2 => ?_)
    · refine AX.aload_n rfl rfl ?_
      refine AX.cVI rfl rfl rfl (M0 hm) (ok_form hI2 hm) (fun h hJ => ?_)
      obtain ⟨y3, t3, hI3, hm⟩ := hJ
      refine AX.if_eqB rfl (fun c3 => ?_) (fun c3 => ?_)
      · refine AX.iconstV (v := 0) rfl (by decide) ?_
        exact AX.ireturn rfl rfl ⟨by first | rw [e4 c1 c2 c3] | rw [e2 c1 c2 c3] | rw [e1 c1 c2] | rw [e0 c1], by first | (rw [e4 c1 c2 c3]; exact ⟨_, _, hI3, hm⟩) | (rw [e2 c1 c2 c3]; exact ⟨_, _, hI3, hm⟩) | (rw [e1 c1 c2]; exact ⟨_, _, hI2, hm⟩) | (rw [e0 c1]; exact ⟨_, _, hI0, hm⟩)⟩ (Nat.le_refl _) (Nat.le_refl _)
      · refine AX.iconstV (v := 4) rfl (by decide) ?_
        refine AX.goto rfl ?_
        exact AX.ireturn rfl rfl ⟨by first | rw [e4 c1 c2 c3] | rw [e2 c1 c2 c3] | rw [e1 c1 c2] | rw [e0 c1], by first | (rw [e4 c1 c2 c3]; exact ⟨_, _, hI3, hm⟩) | (rw [e2 c1 c2 c3]; exact ⟨_, _, hI3, hm⟩) | (rw [e1 c1 c2]; exact ⟨_, _, hI2, hm⟩) | (rw [e0 c1]; exact ⟨_, _, hI0, hm⟩)⟩ (Nat.le_refl _) (Nat.le_refl _)
    · refine AX.iconstV (v := 3) rfl (by decide) ?_
      refine AX.goto rfl ?_
      exact AX.ireturn rfl rfl ⟨by first | rw [e4 c1 c2 c3] | rw [e2 c1 c2 c3] | rw [e1 c1 c2] | rw [e0 c1], by first | (rw [e4 c1 c2 c3]; exact ⟨_, _, hI3, hm⟩) | (rw [e2 c1 c2 c3]; exact ⟨_, _, hI3, hm⟩) | (rw [e1 c1 c2]; exact ⟨_, _, hI2, hm⟩) | (rw [e0 c1]; exact ⟨_, _, hI0, hm⟩)⟩ (Nat.le_refl _) (Nat.le_refl _)
  · refine AX.iconstV (v := 0) rfl (by decide) ?_
    refine AX.goto rfl ?_
    exact AX.ireturn rfl rfl ⟨by first | rw [e4 c1 c2 c3] | rw [e2 c1 c2 c3] | rw [e1 c1 c2] | rw [e0 c1], by first | (rw [e4 c1 c2 c3]; exact ⟨_, _, hI3, hm⟩) | (rw [e2 c1 c2 c3]; exact ⟨_, _, hI3, hm⟩) | (rw [e1 c1 c2]; exact ⟨_, _, hI2, hm⟩) | (rw [e0 c1]; exact ⟨_, _, hI0, hm⟩)⟩ (Nat.le_refl _) (Nat.le_refl _)
theorem ok_step (hI : INV y z t) (hm : isM p t h) : AM (d + 4) kM_step 0 0 none [.ref 28] h (J p (zQ_step z).1 (zQ_step z).2) := by
  have hI0 := hI
  obtain ⟨hW, hC, hR, hS⟩ := hI
  have hcode := hR.1.1
  have h6 : t.1 6 = nI (gL (yG y)).length := hR.2.1.1
  have h40 := hR.2.1.2.1
  by_cases h0 : 0 < (yG y).length
  · have a10 : zat z 10 0 = nI ((yG y).getD 0 g0).2.1 := (gatN hC hW h0).1
    have hpos : ¬ t.1 6 ≤ 0 := by
      have := (g1 hW h0).2.2.2.2.2
      rw [h6]
      exact nI_ge (a := 0) (by omega) (by omega)
    have e3 : nI ((yG y).getD 0 g0).2.1 = 3 → zQ_step z = (1, zQ_land z) := by
      intro e
      unfold zQ_step
      rw [a10, if_pos e]
    have e2 : ¬ nI ((yG y).getD 0 g0).2.1 = 3 → nI ((yG y).getD 0 g0).2.1 = 2 → zQ_step z = (2, zQ_halve z) := by
      intro q e
      unfold zQ_step
      rw [a10, if_neg q, if_pos e]
    refine AX.aload_n rfl rfl ?_
    refine AX.iconstV (v := 0) rfl (by decide) ?_
    refine AX.putf rfl (M0 hm) (Nat.le_of_ble_eq_true rfl) rfl ?_
    refine AX.gen (G := isM p _) (MS hm 3 _ (by decide) rfl) (fun h hm => ?_)
    rw [mset_same hcode] at hm
    refine AX.aload_n rfl rfl ?_
    refine AX.getf rfl (M0 hm) rfl ?_
    refine AX.if_le rfl (fun c => absurd c hpos) (fun _ => ?_)
    refine AX.iconstV (v := 1) rfl (by decide) ?_
    refine AX.goto rfl ?_
    refine AX.istore_n rfl (by decide) ?_
    refine AX.iload_n rfl rfl ?_
    refine AX.if_eq rfl (fun cx => absurd cx (by decide)) (fun _ => ?_)
    refine AX.aload_n rfl rfl ?_
    refine AX.iconstV (v := 0) rfl (by decide) ?_
    refine AX.cVI rfl rfl rfl (M0 hm) (yM_stateOf0 hR hW hm h0) (fun h hm => ?_)
    refine AX.iconstV (v := 3) rfl (by decide) ?_
    refine AX.icmp_ne rfl (fun c1 => ?_) (fun c1 => ?_)
    · refine AX.iload_n rfl rfl ?_
      refine AX.if_eq rfl (fun cx => absurd cx (by decide)) (fun _ => ?_)
      refine AX.aload_n rfl rfl ?_
      refine AX.iconstV (v := 0) rfl (by decide) ?_
      refine AX.cVI rfl rfl rfl (M0 hm) (yM_stateOf0 hR hW hm h0) (fun h hm => ?_)
      refine AX.iconstV (v := 2) rfl (by decide) ?_
      refine AX.icmp_ne rfl (fun c2 => ?_) (fun c2 => ?_)
      · exact ok_step_t hI0 hm (by rw [a10]; exact c1) (by rw [a10]; exact c2) _
      · refine AX.aload_n rfl rfl ?_
        refine AX.cVV rfl rfl rfl (M0 hm) (ok_halve hI0 hm h0) (fun h hJ => ?_)
        obtain ⟨y2, t2, hI2, hm⟩ := hJ
        refine AX.iconstV (v := 2) rfl (by decide) ?_
        exact AX.ireturn rfl rfl ⟨by rw [e2 c1 c2], by rw [e2 c1 c2]; exact ⟨_, _, hI2, hm⟩⟩ (Nat.le_refl _) (Nat.le_refl _)
    · refine AX.aload_n rfl rfl ?_
      refine AX.cVV rfl rfl rfl (M0 hm) (ok_land hI0 hm h0) (fun h hJ => ?_)
      obtain ⟨y2, t2, hI2, hm⟩ := hJ
      refine AX.iconstV (v := 1) rfl (by decide) ?_
      exact AX.ireturn rfl rfl ⟨by rw [e3 c1], by rw [e3 c1]; exact ⟨_, _, hI2, hm⟩⟩ (Nat.le_refl _) (Nat.le_refl _)
  · have hG : yG y = [] := List.length_eq_zero_iff.mp (by omega)
    have a10 : zat z 10 0 = -1 := by
      rw [(gat hC hW 0).1, if_neg]
      unfold yIsG
      rw [hG]
      decide
    have hle : t.1 6 ≤ 0 := by rw [h6, hG]; decide
    refine AX.aload_n rfl rfl ?_
    refine AX.iconstV (v := 0) rfl (by decide) ?_
    refine AX.putf rfl (M0 hm) (Nat.le_of_ble_eq_true rfl) rfl ?_
    refine AX.gen (G := isM p _) (MS hm 3 _ (by decide) rfl) (fun h hm => ?_)
    rw [mset_same hcode] at hm
    refine AX.aload_n rfl rfl ?_
    refine AX.getf rfl (M0 hm) rfl ?_
    refine AX.if_le rfl (fun _ => ?_) (fun c => absurd hle c)
    refine AX.iconstV (v := 0) rfl (by decide) ?_
    refine AX.istore_n rfl (by decide) ?_
    refine AX.iload_n rfl rfl ?_
    refine AX.if_eq rfl (fun _ => ?_) (fun cx => absurd cx (by decide))
    refine AX.iload_n rfl rfl ?_
    refine AX.if_eq rfl (fun _ => ?_) (fun cx => absurd cx (by decide))
    exact ok_step_t hI0 hm (by rw [a10]; decide) (by rw [a10]; decide) _
end ST
end
section
/-! leave and conflict -/
section LV
variable {y : yT} {z : zS} {t : mS} {p h : ax_H} {d : Nat}
theorem LaneOk.anI (hW : WF y) (hR : RM y t) {i : Nat} (hi : i ≤ (yG y).length) : LaneOk (mAn (gL (yG y)) (gF (yG y)) (gB (yG y) i) t) (gL (yG y)) (gF (yG y)) := by
  have h : LaneOk (mAn (gL (yG y)) (gF (yG y)) (gB (yG y) i) t) (gL (gAn (yG y) i)) (gF (gAn (yG y) i)) := (RM.anew hW hR hi).2.1
  rw [gAn_L, gAn_F] at h
  exact h
theorem g_find {G : List gT} {c : Nat} (h : c ∈ gL G) : ∃ i j, i < G.length ∧ j < (G.getD i g0).1.length ∧ (G.getD i g0).1.getD j 0 = c := by
  obtain ⟨g, hg, hc⟩ := List.mem_flatMap.mp h
  obtain ⟨i, hi⟩ := List.getElem?_of_mem hg
  obtain ⟨j, hj⟩ := List.getElem?_of_mem hc
  have hil := (List.getElem?_eq_some_iff.mp hi).1
  have hjl := (List.getElem?_eq_some_iff.mp hj).1
  have e : G.getD i g0 = g := by rw [List.getD_eq_getElem?_getD, hi]; rfl
  refine ⟨i, j, hil, by rw [e]; exact hjl, ?_⟩
  rw [e, List.getD_eq_getElem?_getD, hj]; rfl
def mLv (y : yT) (t : mS) (i j c : Nat) : mS := marr (marr (mGo (mAn (gL (yG y)) (gF (yG y)) (gB (yG y) i) t) (gL (yG y)) (gF (yG y)) (gB (yG y) i + j)) 2 c 3) 4 c 3
theorem yM_leave_l (hR : RM y t) (hW : WF y) {i j c : Nat} (hi : i < (yG y).length) (hj : j < ((yG y).getD i g0).1.length) (hc : c < 40) : ∀ (m : Nat) (h : ax_H), isM p t h → m ≤ j →
    AX (d + 1) kM_leave 0 0 none 52 [(3, .int (nI (gB (yG y) i + m))), (2, .int (nI (gB (yG y) i + j))), (0, .ref 28), (1, .int (nI c))] [] h 0 0 (ax_ret kM_leave 0 0 (fun v h' => v = some (.int 1) ∧ isM p (mLv y t i j c) h')) := by
  have hlen := gLen_le hW hi
  have h40 := hR.2.1.2.1
  have hLa := LaneOk.anI hW hR (Nat.le_of_lt hi)
  intro m
  induction m with
  | zero =>
    intro h hm hb
    have h2 := hR.2.1.2.2.2 (gB (yG y) i + 0) (by omega)
    have hf : (gF (yG y)).getD (gB (yG y) i + 0) false = true := by rw [gF_at hi (by omega)]; rfl
    refine AX.aload_n rfl rfl ?_
    refine AX.getf rfl (M0 hm) rfl ?_
    refine AX.aload_n rfl rfl ?_
    refine AX.getf rfl (M0 hm) rfl ?_
    refine AX.iload_n rfl rfl ?_
    refine AX.ialdX rfl (MA hm 7 (by decide) (by decide) (by decide)) (by decide) (⟨gB (yG y) i + 0, by omega, rfl, h2.1⟩) ?_
    refine AX.zaldX rfl (MA9 hm) (by decide) (⟨_, h2.2.1, rfl, h2.2.2⟩) ?_
    refine AX.if_neB rfl (fun _ => ?_) (fun c => absurd (c.symm.trans hf) (by decide))
    refine AX.aload_n rfl rfl ?_
    refine AX.iload_n rfl rfl ?_
    refine AX.cVV rfl rfl rfl (M0 hm) (sM_beginAnew hR.2.1 hm (by omega)) (fun h hm => ?_)
    refine AX.aload_n rfl rfl ?_
    refine AX.iload_n rfl rfl ?_
    refine AX.cVV rfl rfl rfl (M0 hm) (sM_goFrom hLa hm (by omega)) (fun h hm => ?_)
    refine AX.aload_n rfl rfl ?_
    refine AX.getf rfl (M0 hm) rfl ?_
    refine AX.iload_n rfl rfl ?_
    refine AX.iconstV (v := 3) rfl (by decide) ?_
    refine AX.iastX (c) rfl (MA hm 2 (by decide) (by decide) (by decide)) (by decide) (hc) (rfl) ?_
    refine AX.gen (G := isM p _) (MW hm 2 _ _ (by decide) (by decide) (by decide)) (fun h hm => ?_)
    refine AX.aload_n rfl rfl ?_
    refine AX.getf rfl (M0 hm) rfl ?_
    refine AX.iload_n rfl rfl ?_
    refine AX.iconstV (v := 3) rfl (by decide) ?_
    refine AX.iastX (c) rfl (MA hm 4 (by decide) (by decide) (by decide)) (by decide) (hc) (rfl) ?_
    refine AX.gen (G := isM p _) (MW hm 4 _ _ (by decide) (by decide) (by decide)) (fun h hm => ?_)
    refine AX.iconstV (v := 1) rfl (by decide) ?_
    exact AX.zreturn rfl rfl (by decide) ⟨rfl, hm⟩ (Nat.le_refl _) (Nat.le_refl _)
  | succ m ih =>
    intro h hm hb
    have h2 := hR.2.1.2.2.2 (gB (yG y) i + (m + 1)) (by omega)
    have hf : (gF (yG y)).getD (gB (yG y) i + (m + 1)) false = false := by rw [gF_at hi (by omega)]; rfl
    refine AX.aload_n rfl rfl ?_
    refine AX.getf rfl (M0 hm) rfl ?_
    refine AX.aload_n rfl rfl ?_
    refine AX.getf rfl (M0 hm) rfl ?_
    refine AX.iload_n rfl rfl ?_
    refine AX.ialdX rfl (MA hm 7 (by decide) (by decide) (by decide)) (by decide) (⟨gB (yG y) i + (m + 1), by omega, rfl, h2.1⟩) ?_
    refine AX.zaldX rfl (MA9 hm) (by decide) (⟨_, h2.2.1, rfl, h2.2.2⟩) ?_
    refine AX.if_neB rfl (fun c => absurd (c.symm.trans hf) (by decide)) (fun _ => ?_)
    refine AX.iincV (dn := (-1)) rfl rfl (by decide) (by decide) ?_
    refine AX.goto rfl ?_
    rw [nI_dec, show (1 : Int32) = nI 1 from rfl, pk_sub (by omega), show gB (yG y) i + (m + 1) - 1 = gB (yG y) i + m by omega]
    exact ih h hm (by omega)
theorem ok_leave (hI : INV y z t) (hm : isM p t h) (c : Int32) : AM (d + 1) kM_leave 0 0 none [.ref 28, .int c] h (J p (bI (zQ_leave z c).1) (zQ_leave z c).2) := by
  have hI0 := hI
  obtain ⟨hW, hC, hR, hS⟩ := hI
  have hcode := hR.1.1
  have hn4 : t.1 4 = nI (yn y) := hR.1.2.1
  have hn := hW.1
  have a2 := same_where hC hW c
  by_cases hc : isC (yn y) c = true
  · obtain ⟨k1, k2⟩ := isC_k hn hc
    unfold yWhere at a2
    rw [if_pos hc] at a2
    generalize c.toNatClampNeg = k at *
    subst k2
    have w2 := hW.2.1 k k1
    obtain ⟨b1, b2, b3, b4, b5⟩ := hR.2.2.2.2.1 k k1
    by_cases p0 : ypl y k = 0
    · have q0 : nI (ypl y k) = 0 := by rw [p0]; rfl
      have ez : zQ_leave z (nI k) = (true, zC_putOut (zQ_deq z (nI k)) (nI k) 3) := by
        unfold zQ_leave
        rw [a2, if_pos q0]
      rw [ez]
      have q1 : ¬ nI (ypl y k) = 1 := by rw [p0]; decide
      refine AX.aload_n rfl rfl ?_
      refine AX.iconstV (v := 0) rfl (by decide) ?_
      refine AX.putf rfl (M0 hm) (Nat.le_of_ble_eq_true rfl) rfl ?_
      refine AX.gen (G := isM p _) (MS hm 3 _ (by decide) rfl) (fun h hm => ?_)
      rw [mset_same hcode] at hm
      refine AX.aload_n rfl rfl ?_
      refine AX.iload_n rfl rfl ?_
      refine AX.cVI rfl rfl rfl (M0 hm) (sM_isChange hn4 hn hm _) (fun h hm => ?_)
      refine AX.if_eqB rfl (fun c => absurd (c.symm.trans hc) (by decide)) (fun _ => ?_)
      refine AX.aload_n rfl rfl ?_
      refine AX.getf rfl (M0 hm) rfl ?_
      refine AX.iload_n rfl rfl ?_
      refine AX.ialdX rfl (MA hm 2 (by decide) (by decide) (by decide)) (by decide) (⟨k, by omega, rfl, b2⟩) ?_
      refine AX.if_eq rfl (fun _ => ?_) (fun c => absurd q0 c)
      refine AX.aload_n rfl rfl ?_
      refine AX.getf rfl (M0 hm) rfl ?_
      refine AX.iload_n rfl rfl ?_
      refine AX.ialdX rfl (MA hm 2 (by decide) (by decide) (by decide)) (by decide) (⟨k, by omega, rfl, b2⟩) ?_
      refine AX.iconstV (v := 1) rfl (by decide) ?_
      refine AX.icmp_ne rfl (fun _ => ?_) (fun c => absurd c q1)
      refine AX.aload_n rfl rfl ?_
      refine AX.getf rfl (M0 hm) rfl ?_
      refine AX.iload_n rfl rfl ?_
      refine AX.iconstV (v := 3) rfl (by decide) ?_
      refine AX.iastX (k) rfl (MA hm 2 (by decide) (by decide) (by decide)) (by decide) (by omega) (rfl) ?_
      refine AX.gen (G := isM p _) (MW hm 2 _ _ (by decide) (by decide) (by decide)) (fun h hm => ?_)
      refine AX.aload_n rfl rfl ?_
      refine AX.getf rfl (M0 hm) rfl ?_
      refine AX.iload_n rfl rfl ?_
      refine AX.iconstV (v := 3) rfl (by decide) ?_
      refine AX.iastX (k) rfl (MA hm 4 (by decide) (by decide) (by decide)) (by decide) (by omega) (rfl) ?_
      refine AX.gen (G := isM p _) (MW hm 4 _ _ (by decide) (by decide) (by decide)) (fun h hm => ?_)
      refine AX.iconstV (v := 1) rfl (by decide) ?_
      exact AX.zreturn rfl rfl (by decide) ⟨rfl, _, _, op_leaveQ hI0 k1 p0, hm⟩ (Nat.le_refl _) (Nat.le_refl _)
    · have q0 : ¬ nI (ypl y k) = 0 := fun e => p0 ((nI_eq (by omega) (by decide)).mp (show nI (ypl y k) = nI 0 from e))
      by_cases p1 : ypl y k = 1
      · have q1 : nI (ypl y k) = 1 := by rw [p1]; rfl
        have ez : zQ_leave z (nI k) = (true, zC_putOut (zG_take z (nI k)) (nI k) 3) := by
          unfold zQ_leave
          rw [a2, if_neg q0, if_pos q1]
        rw [ez]
        have hkL : k ∈ gL (yG y) := (hW.2.2.2.2.2.2.2.2.2.2.1 k).mpr ⟨k1, p1⟩
        obtain ⟨i, j, hi, hj, hv⟩ := g_find hkL
        have hlen := gLen_le hW hi
        have h40 := hR.2.1.2.1
        have hnd := hW.2.2.2.2.2.2.2.2.2.1
        have hLv : (gL (yG y)).getD (gB (yG y) i + j) 0 = k := by rw [gL_at hi hj]; exact hv
        have hun : ∀ q, q < gB (yG y) i + j → (gL (yG y)).getD q 0 ≠ k := by
          intro q hq e
          rw [← hLv, List.getD_eq_getElem?_getD, List.getElem?_eq_getElem (by omega), List.getD_eq_getElem?_getD, List.getElem?_eq_getElem (by omega)] at e
          have := nd_inj (i := q) (j := gB (yG y) i + j) hnd (by omega) (by omega) (by simpa using e)
          omega
        have hop := (op_take hI0 hi hj hv (Or.inr rfl) (r := 3)).1
        have hM : AM (d + 1) kM_leave 0 0 none [.ref 28, .int (nI k)] h (fun v h' => v = some (.int 1) ∧ isM p (mLv y t i j k) h') := by
          refine AX.aload_n rfl rfl ?_
          refine AX.iconstV (v := 0) rfl (by decide) ?_
          refine AX.putf rfl (M0 hm) (Nat.le_of_ble_eq_true rfl) rfl ?_
          refine AX.gen (G := isM p _) (MS hm 3 _ (by decide) rfl) (fun h hm => ?_)
          rw [mset_same hcode] at hm
          refine AX.aload_n rfl rfl ?_
          refine AX.iload_n rfl rfl ?_
          refine AX.cVI rfl rfl rfl (M0 hm) (sM_isChange hn4 hn hm _) (fun h hm => ?_)
          refine AX.if_eqB rfl (fun c => absurd (c.symm.trans hc) (by decide)) (fun _ => ?_)
          refine AX.aload_n rfl rfl ?_
          refine AX.getf rfl (M0 hm) rfl ?_
          refine AX.iload_n rfl rfl ?_
          refine AX.ialdX rfl (MA hm 2 (by decide) (by decide) (by decide)) (by decide) (⟨k, by omega, rfl, b2⟩) ?_
          refine AX.if_eq rfl (fun c => absurd c q0) (fun _ => ?_)
          refine AX.aload_n rfl rfl ?_
          refine AX.getf rfl (M0 hm) rfl ?_
          refine AX.iload_n rfl rfl ?_
          refine AX.ialdX rfl (MA hm 2 (by decide) (by decide) (by decide)) (by decide) (⟨k, by omega, rfl, b2⟩) ?_
          refine AX.iconstV (v := 1) rfl (by decide) ?_
          refine AX.icmp_eq rfl (fun _ => ?_) (fun c => absurd q1 c)
          refine AX.aload_n rfl rfl ?_
          refine AX.getf rfl (M0 hm) rfl ?_
          refine AX.iload_n rfl rfl ?_
          refine AX.ialdX rfl (MA hm 2 (by decide) (by decide) (by decide)) (by decide) (⟨k, by omega, rfl, b2⟩) ?_
          refine AX.iconstV (v := 1) rfl (by decide) ?_
          refine AX.icmp_ne rfl (fun c => absurd q1 c) (fun _ => ?_)
          refine AX.aload_n rfl rfl ?_
          refine AX.iload_n rfl rfl ?_
          refine AX.cVI rfl rfl rfl (M0 hm) (sM_inLane hR.2.1 (by omega) hLv (by omega) hun hm) (fun h hm => ?_)
          refine AX.istore_n rfl (by decide) ?_
          refine AX.iload_n rfl rfl ?_
          refine AX.istore_n rfl (by decide) ?_
          exact yM_leave_l hR hW hi hj (by omega) j h hm (Nat.le_refl _)
        exact hM.imp (fun v h' r => ⟨r.1, _, _, hop, r.2⟩)
      · have q1 : ¬ nI (ypl y k) = 1 := fun e => p1 ((nI_eq (by omega) (by decide)).mp (show nI (ypl y k) = nI 1 from e))
        have ez : zQ_leave z (nI k) = (false, z) := by
          unfold zQ_leave
          rw [a2, if_neg q0, if_neg q1]
        rw [ez]
        refine AX.aload_n rfl rfl ?_
        refine AX.iconstV (v := 0) rfl (by decide) ?_
        refine AX.putf rfl (M0 hm) (Nat.le_of_ble_eq_true rfl) rfl ?_
        refine AX.gen (G := isM p _) (MS hm 3 _ (by decide) rfl) (fun h hm => ?_)
        rw [mset_same hcode] at hm
        refine AX.aload_n rfl rfl ?_
        refine AX.iload_n rfl rfl ?_
        refine AX.cVI rfl rfl rfl (M0 hm) (sM_isChange hn4 hn hm _) (fun h hm => ?_)
        refine AX.if_eqB rfl (fun c => absurd (c.symm.trans hc) (by decide)) (fun _ => ?_)
        refine AX.aload_n rfl rfl ?_
        refine AX.getf rfl (M0 hm) rfl ?_
        refine AX.iload_n rfl rfl ?_
        refine AX.ialdX rfl (MA hm 2 (by decide) (by decide) (by decide)) (by decide) (⟨k, by omega, rfl, b2⟩) ?_
        refine AX.if_eq rfl (fun c => absurd c q0) (fun _ => ?_)
        refine AX.aload_n rfl rfl ?_
        refine AX.getf rfl (M0 hm) rfl ?_
        refine AX.iload_n rfl rfl ?_
        refine AX.ialdX rfl (MA hm 2 (by decide) (by decide) (by decide)) (by decide) (⟨k, by omega, rfl, b2⟩) ?_
        refine AX.iconstV (v := 1) rfl (by decide) ?_
        refine AX.icmp_eq rfl (fun c => absurd c q1) (fun _ => ?_)
        refine AX.iconstV (v := 0) rfl (by decide) ?_
        exact AX.zreturn rfl rfl (by decide) ⟨rfl, _, _, hI0, hm⟩ (Nat.le_refl _) (Nat.le_refl _)
  · unfold yWhere at a2
    rw [if_neg hc] at a2
    have hb : zQ_leave z c = (false, z) := by
      unfold zQ_leave
      rw [a2, if_neg (by decide), if_neg (by decide)]
    rw [hb]
    refine AX.aload_n rfl rfl ?_
    refine AX.iconstV (v := 0) rfl (by decide) ?_
    refine AX.putf rfl (M0 hm) (Nat.le_of_ble_eq_true rfl) rfl ?_
    refine AX.gen (G := isM p _) (MS hm 3 _ (by decide) rfl) (fun h hm => ?_)
    rw [mset_same hcode] at hm
    refine AX.aload_n rfl rfl ?_
    refine AX.iload_n rfl rfl ?_
    refine AX.cVI rfl rfl rfl (M0 hm) (sM_isChange hn4 hn hm _) (fun h hm => ?_)
    refine AX.if_eqB rfl (fun _ => ?_) (fun c => absurd c hc)
    refine AX.iconstV (v := 0) rfl (by decide) ?_
    exact AX.zreturn rfl rfl (by decide) ⟨rfl, y, t, hI0, hm⟩ (Nat.le_refl _) (Nat.le_refl _)
-- conflict
def yOpen (y : yT) (c : Int32) : Bool := decide (yWhere y c = 0) || decide (yWhere y c = 2)
theorem yM_isOpen (hR : RM y t) (hW : WF y) (hm : isM p t h) (c : Int32) : AM (d + 1) kM_isOpen 0 0 none [.ref 28, .int c] h (fun v h' => v = some (.int (bI (yOpen y c))) ∧ isM p t h') := by
  have hn4 : t.1 4 = nI (yn y) := hR.1.2.1
  have hn := hW.1
  by_cases hc : isC (yn y) c = true
  · obtain ⟨k1, k2⟩ := isC_k hn hc
    have e : yWhere y c = nI (ypl y c.toNatClampNeg) := by unfold yWhere; rw [if_pos hc]
    unfold yOpen
    rw [e]
    generalize c.toNatClampNeg = k at *
    subst k2
    obtain ⟨b1, b2, b3, b4, b5⟩ := hR.2.2.2.2.1 k k1
    refine AX.aload_n rfl rfl ?_
    refine AX.iload_n rfl rfl ?_
    refine AX.cVI rfl rfl rfl (M0 hm) (sM_isChange hn4 hn hm _) (fun h hm => ?_)
    refine AX.if_eqB rfl (fun c => absurd (c.symm.trans hc) (by decide)) (fun _ => ?_)
    refine AX.aload_n rfl rfl ?_
    refine AX.getf rfl (M0 hm) rfl ?_
    refine AX.iload_n rfl rfl ?_
    refine AX.ialdX rfl (MA hm 2 (by decide) (by decide) (by decide)) (by decide) (⟨k, by omega, rfl, b2⟩) ?_
    refine AX.if_eq rfl (fun c1 => ?_) (fun c1 => ?_)
    · refine AX.iconstV (v := 1) rfl (by decide) ?_
      refine AX.goto rfl ?_
      exact AX.zreturn rfl rfl (by decide) ⟨by simp [c1, bI], hm⟩ (Nat.le_refl _) (Nat.le_refl _)
    · refine AX.aload_n rfl rfl ?_
      refine AX.getf rfl (M0 hm) rfl ?_
      refine AX.iload_n rfl rfl ?_
      refine AX.ialdX rfl (MA hm 2 (by decide) (by decide) (by decide)) (by decide) (⟨k, by omega, rfl, b2⟩) ?_
      refine AX.iconstV (v := 2) rfl (by decide) ?_
      refine AX.icmp_ne rfl (fun c2 => ?_) (fun c2 => ?_)
      · refine AX.iconstV (v := 0) rfl (by decide) ?_
        exact AX.zreturn rfl rfl (by decide) ⟨by simp [c1, c2, bI], hm⟩ (Nat.le_refl _) (Nat.le_refl _)
      · refine AX.iconstV (v := 1) rfl (by decide) ?_
        refine AX.goto rfl ?_
        exact AX.zreturn rfl rfl (by decide) ⟨by simp [c1, c2, bI], hm⟩ (Nat.le_refl _) (Nat.le_refl _)
  · have e : yWhere y c = -1 := by unfold yWhere; rw [if_neg hc]
    have e2 : yOpen y c = false := by unfold yOpen; rw [e]; decide
    rw [e2]
    refine AX.aload_n rfl rfl ?_
    refine AX.iload_n rfl rfl ?_
    refine AX.cVI rfl rfl rfl (M0 hm) (sM_isChange hn4 hn hm _) (fun h hm => ?_)
    refine AX.if_eqB rfl (fun _ => ?_) (fun c => absurd c hc)
    refine AX.iconstV (v := 0) rfl (by decide) ?_
    exact AX.zreturn rfl rfl (by decide) ⟨rfl, hm⟩ (Nat.le_refl _) (Nat.le_refl _)
theorem mul40 {i j : Nat} : (40 : Int32) * nI i + nI j = nI (40 * i + j) := by
  exact ix_ab
theorem ok_conflict (hI : INV y z t) (hm : isM p t h) (a b : Int32) : AM (d + 3) kM_conflict 0 0 none [.ref 28, .int a, .int b] h (J p (zQ_conflict z a b).1 (zQ_conflict z a b).2) := by
  have hI0 := hI
  obtain ⟨hW, hC, hR, hS⟩ := hI
  have hcode := hR.1.1
  have hn4 : t.1 4 = nI (yn y) := hR.1.2.1
  have hn := hW.1
  have a2 := same_where hC hW a
  have b2 := same_where hC hW b
  have bad : (a = b ∨ zQ_may z a b = false) → zQ_conflict z a b = (-1, z) := by
    intro hb
    unfold zQ_conflict
    by_cases e : a = b
    · rw [if_pos e]
    · rw [if_neg e, if_pos (hb.resolve_left e)]
  have hmay : zQ_may z a b = ((decide (yWhere y a = 0) && (decide (yWhere y b = 0) || decide (yWhere y b = 2))) || (decide (yWhere y a = 2) && decide (yWhere y b = 0))) := by
    unfold zQ_may
    rw [a2, b2]
  by_cases hA : yOpen y a = true
  · by_cases hB : yOpen y b = true
    · by_cases hab : a = b
      · rw [bad (Or.inl hab)]
        refine AX.aload_n rfl rfl ?_
        refine AX.iconstV (v := 0) rfl (by decide) ?_
        refine AX.putf rfl (M0 hm) (Nat.le_of_ble_eq_true rfl) rfl ?_
        refine AX.gen (G := isM p _) (MS hm 3 _ (by decide) rfl) (fun h hm => ?_)
        rw [mset_same hcode] at hm
        refine AX.aload_n rfl rfl ?_
        refine AX.iload_n rfl rfl ?_
        refine AX.cVI rfl rfl rfl (M0 hm) (yM_isOpen hR hW hm _) (fun h hm => ?_)
        refine AX.if_eqB rfl (fun c => absurd (c.symm.trans hA) (by decide)) (fun _ => ?_)
        refine AX.aload_n rfl rfl ?_
        refine AX.iload_n rfl rfl ?_
        refine AX.cVI rfl rfl rfl (M0 hm) (yM_isOpen hR hW hm _) (fun h hm => ?_)
        refine AX.if_eqB rfl (fun c => absurd (c.symm.trans hB) (by decide)) (fun _ => ?_)
        refine AX.iload_n rfl rfl ?_
        refine AX.iload_n rfl rfl ?_
        refine AX.icmp_eq rfl (fun _ => ?_) (fun c => absurd hab c)
        refine AX.iconstV (v := (-1)) rfl (by decide) ?_
        exact AX.ireturn rfl rfl ⟨rfl, y, t, hI0, hm⟩ (Nat.le_refl _) (Nat.le_refl _)
      · have hcA : isC (yn y) a = true := by
          cases hq : isC (yn y) a with
          | true => rfl
          | false =>
            have e : yWhere y a = -1 := by unfold yWhere; rw [hq]; rfl
            unfold yOpen at hA
            rw [e] at hA
            exact absurd hA (by decide)
        have hcB : isC (yn y) b = true := by
          cases hq : isC (yn y) b with
          | true => rfl
          | false =>
            have e : yWhere y b = -1 := by unfold yWhere; rw [hq]; rfl
            unfold yOpen at hB
            rw [e] at hB
            exact absurd hB (by decide)
        obtain ⟨k1, k2⟩ := isC_k hn hcA
        obtain ⟨l1, l2⟩ := isC_k hn hcB
        have eA : yWhere y a = nI (ypl y a.toNatClampNeg) := by unfold yWhere; rw [if_pos hcA]
        have eB : yWhere y b = nI (ypl y b.toNatClampNeg) := by unfold yWhere; rw [if_pos hcB]
        unfold yOpen at hA hB
        have hA0 := hA
        have hB0 := hB
        rw [eA] at hA hmay
        rw [eB] at hB hmay
        generalize a.toNatClampNeg = i at *
        generalize b.toNatClampNeg = j at *
        subst k2
        subst l2
        simp only [Bool.or_eq_true, decide_eq_true_eq] at hA hB
        have oA : yOpen y (nI i) = true := hA0
        have oB : yOpen y (nI j) = true := hB0
        obtain ⟨-, p2, -, -, -⟩ := hR.2.2.2.2.1 i k1
        obtain ⟨-, r2, -, -, -⟩ := hR.2.2.2.2.1 j l1
        have mF : nI (ypl y i) = 2 → nI (ypl y j) = 2 → zQ_may z (nI i) (nI j) = false := by
          intro e1 e2
          rw [hmay, e1, e2]; decide
        have mT1 : ¬ nI (ypl y i) = 2 → zQ_may z (nI i) (nI j) = true := by
          intro e1
          rw [hmay, hA.resolve_right e1]
          rcases hB with e | e
          · rw [e]; decide
          · rw [e]; decide
        have mT2 : ¬ nI (ypl y j) = 2 → zQ_may z (nI i) (nI j) = true := by
          intro e1
          rw [hmay, hB.resolve_right e1]
          rcases hA with e | e
          · rw [e]; decide
          · rw [e]; decide
        have hcf := hC.cf i j (by omega) (by omega)
        have yes0 : zQ_may z (nI i) (nI j) = true → ycf y i j = true → zQ_conflict z (nI i) (nI j) = (0, z) := by
          intro e1 e2
          unfold zQ_conflict
          rw [if_neg hab, e1, if_neg (by decide), hcf, if_pos e2]
        have yes1 : zQ_may z (nI i) (nI j) = true → ycf y i j = false → zQ_conflict z (nI i) (nI j) = (1, zQ_send (zC_put z (nI i) (nI j))) := by
          intro e1 e2
          unfold zQ_conflict
          rw [if_neg hab, e1, if_neg (by decide), hcf, e2, if_neg (by decide)]
        have hop := op_conf hI0 k1 l1
        have hRc := hR.conf (a := i) (b := j) (by omega) (by omega)
        have hWc := hW.conf k1 l1
        refine AX.aload_n rfl rfl ?_
        refine AX.iconstV (v := 0) rfl (by decide) ?_
        refine AX.putf rfl (M0 hm) (Nat.le_of_ble_eq_true rfl) rfl ?_
        refine AX.gen (G := isM p _) (MS hm 3 _ (by decide) rfl) (fun h hm => ?_)
        rw [mset_same hcode] at hm
        refine AX.aload_n rfl rfl ?_
        refine AX.iload_n rfl rfl ?_
        refine AX.cVI rfl rfl rfl (M0 hm) (yM_isOpen hR hW hm _) (fun h hm => ?_)
        refine AX.if_eqB rfl (fun c => absurd (c.symm.trans oA) (by decide)) (fun _ => ?_)
        refine AX.aload_n rfl rfl ?_
        refine AX.iload_n rfl rfl ?_
        refine AX.cVI rfl rfl rfl (M0 hm) (yM_isOpen hR hW hm _) (fun h hm => ?_)
        refine AX.if_eqB rfl (fun c => absurd (c.symm.trans oB) (by decide)) (fun _ => ?_)
        refine AX.iload_n rfl rfl ?_
        refine AX.iload_n rfl rfl ?_
        refine AX.icmp_eq rfl (fun c => absurd c hab) (fun _ => ?_)
        refine AX.aload_n rfl rfl ?_
        refine AX.getf rfl (M0 hm) rfl ?_
        refine AX.iload_n rfl rfl ?_
        refine AX.ialdX rfl (MA hm 2 (by decide) (by decide) (by decide)) (by decide) (⟨i, by omega, rfl, p2⟩) ?_
        refine AX.iconstV (v := 2) rfl (by decide) ?_
        refine AX.icmp_ne rfl (fun c1 => ?_) (fun c1 => ?_)
        · have hmy : zQ_may z (nI i) (nI j) = true := by first | exact mT1 c1 | exact mT2 c2
          refine AX.aload_n rfl rfl ?_
          refine AX.iload_n rfl rfl ?_
          refine AX.iload_n rfl rfl ?_
          refine AX.cVI rfl rfl rfl (M0 hm) (sM_isConflict hR.2.2.2.1 hm (by omega) (by omega)) (fun h hm => ?_)
          refine AX.if_eqB rfl (fun c2 => ?_) (fun c2 => ?_)
          · refine AX.aload_n rfl rfl ?_
            refine AX.getf rfl (M0 hm) rfl ?_
            refine AX.bipushV (v := 40) rfl (by decide) ?_
            refine AX.iload_n rfl rfl ?_
            refine AX.imul rfl ?_
            refine AX.iload_n rfl rfl ?_
            refine AX.iadd rfl ?_
            refine AX.iconstV (v := 1) rfl (by decide) ?_
            refine AX.zastX (40 * i + j) rfl (MA6 hm) (by decide) (by omega) (mul40) (by decide) ?_
            refine AX.gen (G := isM p _) (MW6 hm _ _) (fun h hm => ?_)
            refine AX.aload_n rfl rfl ?_
            refine AX.getf rfl (M0 hm) rfl ?_
            refine AX.bipushV (v := 40) rfl (by decide) ?_
            refine AX.iload_n rfl rfl ?_
            refine AX.imul rfl ?_
            refine AX.iload_n rfl rfl ?_
            refine AX.iadd rfl ?_
            refine AX.iconstV (v := 1) rfl (by decide) ?_
            refine AX.zastX (40 * j + i) rfl (MA6 hm) (by decide) (by omega) (mul40) (by decide) ?_
            refine AX.gen (G := isM p _) (MW6 hm _ _) (fun h hm => ?_)
            refine AX.aload_n rfl rfl ?_
            refine AX.cVV rfl rfl rfl (M0 hm) (sM_clear hRc.1.2.1 hWc.1 hRc.2.2.2.1 hRc.1.2.2.2 (RM.tr4 hWc) (hRc.t2 hWc) hm) (fun h hm => ?_)
            refine AX.iconstV (v := 1) rfl (by decide) ?_
            exact AX.ireturn rfl rfl ⟨by first | rw [yes1 hmy c2] | rw [yes1 hmy c3], _, _, by first | (rw [yes1 hmy c2]; exact hop) | (rw [yes1 hmy c3]; exact hop), hm⟩ (Nat.le_refl _) (Nat.le_refl _)
          · refine AX.iconstV (v := 0) rfl (by decide) ?_
            exact AX.ireturn rfl rfl ⟨by first | rw [yes0 hmy c2] | rw [yes0 hmy c3], y, t, by first | (rw [yes0 hmy c2]; exact hI0) | (rw [yes0 hmy c3]; exact hI0), hm⟩ (Nat.le_refl _) (Nat.le_refl _)
        · refine AX.aload_n rfl rfl ?_
          refine AX.getf rfl (M0 hm) rfl ?_
          refine AX.iload_n rfl rfl ?_
          refine AX.ialdX rfl (MA hm 2 (by decide) (by decide) (by decide)) (by decide) (⟨j, by omega, rfl, r2⟩) ?_
          refine AX.iconstV (v := 2) rfl (by decide) ?_
          refine AX.icmp_ne rfl (fun c2 => ?_) (fun c2 => ?_)
          · have hmy : zQ_may z (nI i) (nI j) = true := by first | exact mT1 c1 | exact mT2 c2
            refine AX.aload_n rfl rfl ?_
            refine AX.iload_n rfl rfl ?_
            refine AX.iload_n rfl rfl ?_
            refine AX.cVI rfl rfl rfl (M0 hm) (sM_isConflict hR.2.2.2.1 hm (by omega) (by omega)) (fun h hm => ?_)
            refine AX.if_eqB rfl (fun c3 => ?_) (fun c3 => ?_)
            · refine AX.aload_n rfl rfl ?_
              refine AX.getf rfl (M0 hm) rfl ?_
              refine AX.bipushV (v := 40) rfl (by decide) ?_
              refine AX.iload_n rfl rfl ?_
              refine AX.imul rfl ?_
              refine AX.iload_n rfl rfl ?_
              refine AX.iadd rfl ?_
              refine AX.iconstV (v := 1) rfl (by decide) ?_
              refine AX.zastX (40 * i + j) rfl (MA6 hm) (by decide) (by omega) (mul40) (by decide) ?_
              refine AX.gen (G := isM p _) (MW6 hm _ _) (fun h hm => ?_)
              refine AX.aload_n rfl rfl ?_
              refine AX.getf rfl (M0 hm) rfl ?_
              refine AX.bipushV (v := 40) rfl (by decide) ?_
              refine AX.iload_n rfl rfl ?_
              refine AX.imul rfl ?_
              refine AX.iload_n rfl rfl ?_
              refine AX.iadd rfl ?_
              refine AX.iconstV (v := 1) rfl (by decide) ?_
              refine AX.zastX (40 * j + i) rfl (MA6 hm) (by decide) (by omega) (mul40) (by decide) ?_
              refine AX.gen (G := isM p _) (MW6 hm _ _) (fun h hm => ?_)
              refine AX.aload_n rfl rfl ?_
              refine AX.cVV rfl rfl rfl (M0 hm) (sM_clear hRc.1.2.1 hWc.1 hRc.2.2.2.1 hRc.1.2.2.2 (RM.tr4 hWc) (hRc.t2 hWc) hm) (fun h hm => ?_)
              refine AX.iconstV (v := 1) rfl (by decide) ?_
              exact AX.ireturn rfl rfl ⟨by first | rw [yes1 hmy c2] | rw [yes1 hmy c3], _, _, by first | (rw [yes1 hmy c2]; exact hop) | (rw [yes1 hmy c3]; exact hop), hm⟩ (Nat.le_refl _) (Nat.le_refl _)
            · refine AX.iconstV (v := 0) rfl (by decide) ?_
              exact AX.ireturn rfl rfl ⟨by first | rw [yes0 hmy c2] | rw [yes0 hmy c3], y, t, by first | (rw [yes0 hmy c2]; exact hI0) | (rw [yes0 hmy c3]; exact hI0), hm⟩ (Nat.le_refl _) (Nat.le_refl _)
          · have hb := bad (Or.inr (mF c1 c2))
            refine AX.iconstV (v := (-1)) rfl (by decide) ?_
            exact AX.ireturn rfl rfl ⟨by rw [hb], y, t, by rw [hb]; exact hI0, hm⟩ (Nat.le_refl _) (Nat.le_refl _)
    · have hB2 : yOpen y b = false := by cases hq : yOpen y b with
        | true => exact absurd hq hB
        | false => rfl
      have hm0 : zQ_may z a b = false := by
        rw [hmay]
        unfold yOpen at hB2
        rw [Bool.or_eq_false_iff] at hB2
        rw [hB2.1, hB2.2]
        simp
      rw [bad (Or.inr hm0)]
      refine AX.aload_n rfl rfl ?_
      refine AX.iconstV (v := 0) rfl (by decide) ?_
      refine AX.putf rfl (M0 hm) (Nat.le_of_ble_eq_true rfl) rfl ?_
      refine AX.gen (G := isM p _) (MS hm 3 _ (by decide) rfl) (fun h hm => ?_)
      rw [mset_same hcode] at hm
      refine AX.aload_n rfl rfl ?_
      refine AX.iload_n rfl rfl ?_
      refine AX.cVI rfl rfl rfl (M0 hm) (yM_isOpen hR hW hm _) (fun h hm => ?_)
      refine AX.if_eqB rfl (fun c => absurd (c.symm.trans hA) (by decide)) (fun _ => ?_)
      refine AX.aload_n rfl rfl ?_
      refine AX.iload_n rfl rfl ?_
      refine AX.cVI rfl rfl rfl (M0 hm) (yM_isOpen hR hW hm _) (fun h hm => ?_)
      refine AX.if_eqB rfl (fun _ => ?_) (fun c => absurd c hB)
      refine AX.iconstV (v := (-1)) rfl (by decide) ?_
      exact AX.ireturn rfl rfl ⟨rfl, y, t, hI0, hm⟩ (Nat.le_refl _) (Nat.le_refl _)
  · have hA2 : yOpen y a = false := by cases hq : yOpen y a with
      | true => exact absurd hq hA
      | false => rfl
    have hm0 : zQ_may z a b = false := by
      rw [hmay]
      unfold yOpen at hA2
      rw [Bool.or_eq_false_iff] at hA2
      rw [hA2.1, hA2.2]
      simp
    rw [bad (Or.inr hm0)]
    refine AX.aload_n rfl rfl ?_
    refine AX.iconstV (v := 0) rfl (by decide) ?_
    refine AX.putf rfl (M0 hm) (Nat.le_of_ble_eq_true rfl) rfl ?_
    refine AX.gen (G := isM p _) (MS hm 3 _ (by decide) rfl) (fun h hm => ?_)
    rw [mset_same hcode] at hm
    refine AX.aload_n rfl rfl ?_
    refine AX.iload_n rfl rfl ?_
    refine AX.cVI rfl rfl rfl (M0 hm) (yM_isOpen hR hW hm _) (fun h hm => ?_)
    refine AX.if_eqB rfl (fun _ => ?_) (fun c => absurd c hA)
    refine AX.iconstV (v := (-1)) rfl (by decide) ?_
    exact AX.ireturn rfl rfl ⟨rfl, y, t, hI0, hm⟩ (Nat.le_refl _) (Nat.le_refl _)
end LV
end
section
/-! The constructors -/
section IN
variable {d : Nat} {h : ax_H}
theorem sR_init {i : Nat} (hi : h[i]? = some (.inr (2, [.null, .int 0]))) (hok : h.all (ax_okE h.length) = true) : AM (d + 1) kR_init 1 40 none [.ref i] h (fun r h' => r = none ∧ h' = (h ++ ([.inl (0, 40, .inl (fun _ => 0))] : ax_H)).set i (.inr (2, [.ref h.length, .int 0]))) := by
  have hl := (List.getElem?_eq_some_iff.mp hi).1
  have hv : decide (i < h.length) = true := by simpa using hl
  refine AX.aload_n rfl rfl ?_
  refine AX.objInit rfl (by decide) ?_
  refine AX.aload_n rfl rfl ?_
  refine AX.bipushV (v := 40) rfl (by decide) ?_
  refine AX.newI 40 rfl (by decide) (by decide) (by decide) hok (by simp [ax_okF, ax_ok, lv_args, hl]) (by decide) (by decide) ?_
  refine AX.putf rfl (by rw [List.getElem?_append_left hl]; exact hi) (by decide) rfl ?_
  exact AX.vreturn rfl rfl ⟨rfl, rfl⟩ (by decide) (by decide)
theorem sC_init : AM (d + 2) kC_init 13 292 none [.ref 1] ([.inr (3, [.int 0, .int 0, .int 0, .null, .null, .null, .null, .int 0, .int 0, .int 0]), .inr (0, [.null, .null, .null, .null, .null, .null, .null, .int 0])] : ax_H) (fun r h' => r = none ∧ h' = [.inr (3, [.int 0, .int 0, .int 0, .null, .null, .null, .null, .int 0, .int 0, .int 0]), .inr (0, [.ref 2, .ref 4, .ref 6, .ref 8, .ref 10, .ref 12, .ref 14, .int 0]), .inr (2, [.ref 3, .int 0]), .inl (0, 40, .inl (fun _ => 0)), .inr (2, [.ref 5, .int 0]), .inl (0, 40, .inl (fun _ => 0)), .inr (2, [.ref 7, .int 0]), .inl (0, 40, .inl (fun _ => 0)), .inr (2, [.ref 9, .int 0]), .inl (0, 40, .inl (fun _ => 0)), .inr (2, [.ref 11, .int 0]), .inl (0, 40, .inl (fun _ => 0)), .inr (2, [.ref 13, .int 0]), .inl (0, 40, .inl (fun _ => 0)), .inl (1, 40, .inr (.inl (fun _ => 0)))]) := by
  refine AX.aload_n rfl rfl ?_
  refine AX.objInit rfl (by decide) ?_
  refine AX.aload_n rfl rfl ?_
  refine AX.new rfl rfl rfl (by decide) (by decide) ?_
  refine AX.dup rfl rfl ?_
  refine AX.callI rfl (by decide) rfl rfl (by decide) (sR_init (d := d) (i := 2) rfl rfl) (Or.inl rfl) (by decide) (by decide) (by decide) (Or.inr rfl) (fun r h' q => ?_)
  obtain ⟨rfl, rfl⟩ := q
  refine AX.putf rfl rfl (Nat.le_of_ble_eq_true rfl) rfl ?_
  refine AX.gen (G := fun h => h = [.inr (3, [.int 0, .int 0, .int 0, .null, .null, .null, .null, .int 0, .int 0, .int 0]), .inr (0, [.ref 2, .null, .null, .null, .null, .null, .null, .int 0]), .inr (2, [.ref 3, .int 0]), .inl (0, 40, .inl (fun _ => 0))]) rfl (fun h e => ?_)
  subst e
  refine AX.aload_n rfl rfl ?_
  refine AX.new rfl rfl rfl (by decide) (by decide) ?_
  refine AX.dup rfl rfl ?_
  refine AX.callI rfl (by decide) rfl rfl (by decide) (sR_init (d := d) (i := 4) rfl rfl) (Or.inl rfl) (by decide) (by decide) (by decide) (Or.inr rfl) (fun r h' q => ?_)
  obtain ⟨rfl, rfl⟩ := q
  refine AX.putf rfl rfl (Nat.le_of_ble_eq_true rfl) rfl ?_
  refine AX.gen (G := fun h => h = [.inr (3, [.int 0, .int 0, .int 0, .null, .null, .null, .null, .int 0, .int 0, .int 0]), .inr (0, [.ref 2, .ref 4, .null, .null, .null, .null, .null, .int 0]), .inr (2, [.ref 3, .int 0]), .inl (0, 40, .inl (fun _ => 0)), .inr (2, [.ref 5, .int 0]), .inl (0, 40, .inl (fun _ => 0))]) rfl (fun h e => ?_)
  subst e
  refine AX.aload_n rfl rfl ?_
  refine AX.new rfl rfl rfl (by decide) (by decide) ?_
  refine AX.dup rfl rfl ?_
  refine AX.callI rfl (by decide) rfl rfl (by decide) (sR_init (d := d) (i := 6) rfl rfl) (Or.inl rfl) (by decide) (by decide) (by decide) (Or.inr rfl) (fun r h' q => ?_)
  obtain ⟨rfl, rfl⟩ := q
  refine AX.putf rfl rfl (Nat.le_of_ble_eq_true rfl) rfl ?_
  refine AX.gen (G := fun h => h = [.inr (3, [.int 0, .int 0, .int 0, .null, .null, .null, .null, .int 0, .int 0, .int 0]), .inr (0, [.ref 2, .ref 4, .ref 6, .null, .null, .null, .null, .int 0]), .inr (2, [.ref 3, .int 0]), .inl (0, 40, .inl (fun _ => 0)), .inr (2, [.ref 5, .int 0]), .inl (0, 40, .inl (fun _ => 0)), .inr (2, [.ref 7, .int 0]), .inl (0, 40, .inl (fun _ => 0))]) rfl (fun h e => ?_)
  subst e
  refine AX.aload_n rfl rfl ?_
  refine AX.new rfl rfl rfl (by decide) (by decide) ?_
  refine AX.dup rfl rfl ?_
  refine AX.callI rfl (by decide) rfl rfl (by decide) (sR_init (d := d) (i := 8) rfl rfl) (Or.inl rfl) (by decide) (by decide) (by decide) (Or.inr rfl) (fun r h' q => ?_)
  obtain ⟨rfl, rfl⟩ := q
  refine AX.putf rfl rfl (Nat.le_of_ble_eq_true rfl) rfl ?_
  refine AX.gen (G := fun h => h = [.inr (3, [.int 0, .int 0, .int 0, .null, .null, .null, .null, .int 0, .int 0, .int 0]), .inr (0, [.ref 2, .ref 4, .ref 6, .ref 8, .null, .null, .null, .int 0]), .inr (2, [.ref 3, .int 0]), .inl (0, 40, .inl (fun _ => 0)), .inr (2, [.ref 5, .int 0]), .inl (0, 40, .inl (fun _ => 0)), .inr (2, [.ref 7, .int 0]), .inl (0, 40, .inl (fun _ => 0)), .inr (2, [.ref 9, .int 0]), .inl (0, 40, .inl (fun _ => 0))]) rfl (fun h e => ?_)
  subst e
  refine AX.aload_n rfl rfl ?_
  refine AX.new rfl rfl rfl (by decide) (by decide) ?_
  refine AX.dup rfl rfl ?_
  refine AX.callI rfl (by decide) rfl rfl (by decide) (sR_init (d := d) (i := 10) rfl rfl) (Or.inl rfl) (by decide) (by decide) (by decide) (Or.inr rfl) (fun r h' q => ?_)
  obtain ⟨rfl, rfl⟩ := q
  refine AX.putf rfl rfl (Nat.le_of_ble_eq_true rfl) rfl ?_
  refine AX.gen (G := fun h => h = [.inr (3, [.int 0, .int 0, .int 0, .null, .null, .null, .null, .int 0, .int 0, .int 0]), .inr (0, [.ref 2, .ref 4, .ref 6, .ref 8, .ref 10, .null, .null, .int 0]), .inr (2, [.ref 3, .int 0]), .inl (0, 40, .inl (fun _ => 0)), .inr (2, [.ref 5, .int 0]), .inl (0, 40, .inl (fun _ => 0)), .inr (2, [.ref 7, .int 0]), .inl (0, 40, .inl (fun _ => 0)), .inr (2, [.ref 9, .int 0]), .inl (0, 40, .inl (fun _ => 0)), .inr (2, [.ref 11, .int 0]), .inl (0, 40, .inl (fun _ => 0))]) rfl (fun h e => ?_)
  subst e
  refine AX.aload_n rfl rfl ?_
  refine AX.new rfl rfl rfl (by decide) (by decide) ?_
  refine AX.dup rfl rfl ?_
  refine AX.callI rfl (by decide) rfl rfl (by decide) (sR_init (d := d) (i := 12) rfl rfl) (Or.inl rfl) (by decide) (by decide) (by decide) (Or.inr rfl) (fun r h' q => ?_)
  obtain ⟨rfl, rfl⟩ := q
  refine AX.putf rfl rfl (Nat.le_of_ble_eq_true rfl) rfl ?_
  refine AX.gen (G := fun h => h = [.inr (3, [.int 0, .int 0, .int 0, .null, .null, .null, .null, .int 0, .int 0, .int 0]), .inr (0, [.ref 2, .ref 4, .ref 6, .ref 8, .ref 10, .ref 12, .null, .int 0]), .inr (2, [.ref 3, .int 0]), .inl (0, 40, .inl (fun _ => 0)), .inr (2, [.ref 5, .int 0]), .inl (0, 40, .inl (fun _ => 0)), .inr (2, [.ref 7, .int 0]), .inl (0, 40, .inl (fun _ => 0)), .inr (2, [.ref 9, .int 0]), .inl (0, 40, .inl (fun _ => 0)), .inr (2, [.ref 11, .int 0]), .inl (0, 40, .inl (fun _ => 0)), .inr (2, [.ref 13, .int 0]), .inl (0, 40, .inl (fun _ => 0))]) rfl (fun h e => ?_)
  subst e
  refine AX.aload_n rfl rfl ?_
  refine AX.bipushV (v := 40) rfl (by decide) ?_
  refine AX.newJ 40 rfl (by decide) (by decide) (by decide) rfl rfl (by decide) (by decide) ?_
  refine AX.putf rfl rfl (Nat.le_of_ble_eq_true rfl) rfl ?_
  exact AX.vreturn rfl rfl ⟨rfl, rfl⟩ (by decide) (by decide)
theorem sG_init : AM (d + 2) kG_init 8 168 none [.ref 19] ([.inr (3, [.int 0, .int 0, .int 0, .ref 1, .ref 15, .ref 17, .null, .int 0, .int 0, .int 0]), .inr (0, [.ref 2, .ref 4, .ref 6, .ref 8, .ref 10, .ref 12, .ref 14, .int 0]), .inr (2, [.ref 3, .int 0]), .inl (0, 40, .inl (fun _ => 0)), .inr (2, [.ref 5, .int 0]), .inl (0, 40, .inl (fun _ => 0)), .inr (2, [.ref 7, .int 0]), .inl (0, 40, .inl (fun _ => 0)), .inr (2, [.ref 9, .int 0]), .inl (0, 40, .inl (fun _ => 0)), .inr (2, [.ref 11, .int 0]), .inl (0, 40, .inl (fun _ => 0)), .inr (2, [.ref 13, .int 0]), .inl (0, 40, .inl (fun _ => 0)), .inl (1, 40, .inr (.inl (fun _ => 0))), .inr (2, [.ref 16, .int 0]), .inl (0, 40, .inl (fun _ => 0)), .inr (2, [.ref 18, .int 0]), .inl (0, 40, .inl (fun _ => 0)), .inr (1, [.null, .null, .null, .null, .int 0])] : ax_H) (fun r h' => r = none ∧ h' = [.inr (3, [.int 0, .int 0, .int 0, .ref 1, .ref 15, .ref 17, .null, .int 0, .int 0, .int 0]), .inr (0, [.ref 2, .ref 4, .ref 6, .ref 8, .ref 10, .ref 12, .ref 14, .int 0]), .inr (2, [.ref 3, .int 0]), .inl (0, 40, .inl (fun _ => 0)), .inr (2, [.ref 5, .int 0]), .inl (0, 40, .inl (fun _ => 0)), .inr (2, [.ref 7, .int 0]), .inl (0, 40, .inl (fun _ => 0)), .inr (2, [.ref 9, .int 0]), .inl (0, 40, .inl (fun _ => 0)), .inr (2, [.ref 11, .int 0]), .inl (0, 40, .inl (fun _ => 0)), .inr (2, [.ref 13, .int 0]), .inl (0, 40, .inl (fun _ => 0)), .inl (1, 40, .inr (.inl (fun _ => 0))), .inr (2, [.ref 16, .int 0]), .inl (0, 40, .inl (fun _ => 0)), .inr (2, [.ref 18, .int 0]), .inl (0, 40, .inl (fun _ => 0)), .inr (1, [.ref 20, .ref 22, .ref 24, .ref 26, .int 0]), .inr (2, [.ref 21, .int 0]), .inl (0, 40, .inl (fun _ => 0)), .inr (2, [.ref 23, .int 0]), .inl (0, 40, .inl (fun _ => 0)), .inr (2, [.ref 25, .int 0]), .inl (0, 40, .inl (fun _ => 0)), .inr (2, [.ref 27, .int 0]), .inl (0, 40, .inl (fun _ => 0))]) := by
  refine AX.aload_n rfl rfl ?_
  refine AX.objInit rfl (by decide) ?_
  refine AX.aload_n rfl rfl ?_
  refine AX.new rfl rfl rfl (by decide) (by decide) ?_
  refine AX.dup rfl rfl ?_
  refine AX.callI rfl (by decide) rfl rfl (by decide) (sR_init (d := d) (i := 20) rfl rfl) (Or.inl rfl) (by decide) (by decide) (by decide) (Or.inr rfl) (fun r h' q => ?_)
  obtain ⟨rfl, rfl⟩ := q
  refine AX.putf rfl rfl (Nat.le_of_ble_eq_true rfl) rfl ?_
  refine AX.gen (G := fun h => h = [.inr (3, [.int 0, .int 0, .int 0, .ref 1, .ref 15, .ref 17, .null, .int 0, .int 0, .int 0]), .inr (0, [.ref 2, .ref 4, .ref 6, .ref 8, .ref 10, .ref 12, .ref 14, .int 0]), .inr (2, [.ref 3, .int 0]), .inl (0, 40, .inl (fun _ => 0)), .inr (2, [.ref 5, .int 0]), .inl (0, 40, .inl (fun _ => 0)), .inr (2, [.ref 7, .int 0]), .inl (0, 40, .inl (fun _ => 0)), .inr (2, [.ref 9, .int 0]), .inl (0, 40, .inl (fun _ => 0)), .inr (2, [.ref 11, .int 0]), .inl (0, 40, .inl (fun _ => 0)), .inr (2, [.ref 13, .int 0]), .inl (0, 40, .inl (fun _ => 0)), .inl (1, 40, .inr (.inl (fun _ => 0))), .inr (2, [.ref 16, .int 0]), .inl (0, 40, .inl (fun _ => 0)), .inr (2, [.ref 18, .int 0]), .inl (0, 40, .inl (fun _ => 0)), .inr (1, [.ref 20, .null, .null, .null, .int 0]), .inr (2, [.ref 21, .int 0]), .inl (0, 40, .inl (fun _ => 0))]) rfl (fun h e => ?_)
  subst e
  refine AX.aload_n rfl rfl ?_
  refine AX.new rfl rfl rfl (by decide) (by decide) ?_
  refine AX.dup rfl rfl ?_
  refine AX.callI rfl (by decide) rfl rfl (by decide) (sR_init (d := d) (i := 22) rfl rfl) (Or.inl rfl) (by decide) (by decide) (by decide) (Or.inr rfl) (fun r h' q => ?_)
  obtain ⟨rfl, rfl⟩ := q
  refine AX.putf rfl rfl (Nat.le_of_ble_eq_true rfl) rfl ?_
  refine AX.gen (G := fun h => h = [.inr (3, [.int 0, .int 0, .int 0, .ref 1, .ref 15, .ref 17, .null, .int 0, .int 0, .int 0]), .inr (0, [.ref 2, .ref 4, .ref 6, .ref 8, .ref 10, .ref 12, .ref 14, .int 0]), .inr (2, [.ref 3, .int 0]), .inl (0, 40, .inl (fun _ => 0)), .inr (2, [.ref 5, .int 0]), .inl (0, 40, .inl (fun _ => 0)), .inr (2, [.ref 7, .int 0]), .inl (0, 40, .inl (fun _ => 0)), .inr (2, [.ref 9, .int 0]), .inl (0, 40, .inl (fun _ => 0)), .inr (2, [.ref 11, .int 0]), .inl (0, 40, .inl (fun _ => 0)), .inr (2, [.ref 13, .int 0]), .inl (0, 40, .inl (fun _ => 0)), .inl (1, 40, .inr (.inl (fun _ => 0))), .inr (2, [.ref 16, .int 0]), .inl (0, 40, .inl (fun _ => 0)), .inr (2, [.ref 18, .int 0]), .inl (0, 40, .inl (fun _ => 0)), .inr (1, [.ref 20, .ref 22, .null, .null, .int 0]), .inr (2, [.ref 21, .int 0]), .inl (0, 40, .inl (fun _ => 0)), .inr (2, [.ref 23, .int 0]), .inl (0, 40, .inl (fun _ => 0))]) rfl (fun h e => ?_)
  subst e
  refine AX.aload_n rfl rfl ?_
  refine AX.new rfl rfl rfl (by decide) (by decide) ?_
  refine AX.dup rfl rfl ?_
  refine AX.callI rfl (by decide) rfl rfl (by decide) (sR_init (d := d) (i := 24) rfl rfl) (Or.inl rfl) (by decide) (by decide) (by decide) (Or.inr rfl) (fun r h' q => ?_)
  obtain ⟨rfl, rfl⟩ := q
  refine AX.putf rfl rfl (Nat.le_of_ble_eq_true rfl) rfl ?_
  refine AX.gen (G := fun h => h = [.inr (3, [.int 0, .int 0, .int 0, .ref 1, .ref 15, .ref 17, .null, .int 0, .int 0, .int 0]), .inr (0, [.ref 2, .ref 4, .ref 6, .ref 8, .ref 10, .ref 12, .ref 14, .int 0]), .inr (2, [.ref 3, .int 0]), .inl (0, 40, .inl (fun _ => 0)), .inr (2, [.ref 5, .int 0]), .inl (0, 40, .inl (fun _ => 0)), .inr (2, [.ref 7, .int 0]), .inl (0, 40, .inl (fun _ => 0)), .inr (2, [.ref 9, .int 0]), .inl (0, 40, .inl (fun _ => 0)), .inr (2, [.ref 11, .int 0]), .inl (0, 40, .inl (fun _ => 0)), .inr (2, [.ref 13, .int 0]), .inl (0, 40, .inl (fun _ => 0)), .inl (1, 40, .inr (.inl (fun _ => 0))), .inr (2, [.ref 16, .int 0]), .inl (0, 40, .inl (fun _ => 0)), .inr (2, [.ref 18, .int 0]), .inl (0, 40, .inl (fun _ => 0)), .inr (1, [.ref 20, .ref 22, .ref 24, .null, .int 0]), .inr (2, [.ref 21, .int 0]), .inl (0, 40, .inl (fun _ => 0)), .inr (2, [.ref 23, .int 0]), .inl (0, 40, .inl (fun _ => 0)), .inr (2, [.ref 25, .int 0]), .inl (0, 40, .inl (fun _ => 0))]) rfl (fun h e => ?_)
  subst e
  refine AX.aload_n rfl rfl ?_
  refine AX.new rfl rfl rfl (by decide) (by decide) ?_
  refine AX.dup rfl rfl ?_
  refine AX.callI rfl (by decide) rfl rfl (by decide) (sR_init (d := d) (i := 26) rfl rfl) (Or.inl rfl) (by decide) (by decide) (by decide) (Or.inr rfl) (fun r h' q => ?_)
  obtain ⟨rfl, rfl⟩ := q
  refine AX.putf rfl rfl (Nat.le_of_ble_eq_true rfl) rfl ?_
  refine AX.gen (G := fun h => h = [.inr (3, [.int 0, .int 0, .int 0, .ref 1, .ref 15, .ref 17, .null, .int 0, .int 0, .int 0]), .inr (0, [.ref 2, .ref 4, .ref 6, .ref 8, .ref 10, .ref 12, .ref 14, .int 0]), .inr (2, [.ref 3, .int 0]), .inl (0, 40, .inl (fun _ => 0)), .inr (2, [.ref 5, .int 0]), .inl (0, 40, .inl (fun _ => 0)), .inr (2, [.ref 7, .int 0]), .inl (0, 40, .inl (fun _ => 0)), .inr (2, [.ref 9, .int 0]), .inl (0, 40, .inl (fun _ => 0)), .inr (2, [.ref 11, .int 0]), .inl (0, 40, .inl (fun _ => 0)), .inr (2, [.ref 13, .int 0]), .inl (0, 40, .inl (fun _ => 0)), .inl (1, 40, .inr (.inl (fun _ => 0))), .inr (2, [.ref 16, .int 0]), .inl (0, 40, .inl (fun _ => 0)), .inr (2, [.ref 18, .int 0]), .inl (0, 40, .inl (fun _ => 0)), .inr (1, [.ref 20, .ref 22, .ref 24, .ref 26, .int 0]), .inr (2, [.ref 21, .int 0]), .inl (0, 40, .inl (fun _ => 0)), .inr (2, [.ref 23, .int 0]), .inl (0, 40, .inl (fun _ => 0)), .inr (2, [.ref 25, .int 0]), .inl (0, 40, .inl (fun _ => 0)), .inr (2, [.ref 27, .int 0]), .inl (0, 40, .inl (fun _ => 0))]) rfl (fun h e => ?_)
  subst e
  exact AX.vreturn rfl rfl ⟨rfl, rfl⟩ (by decide) (by decide)
def near (v top : Int32) : Int32 := if (1 : Int32) < (if top < v then top else v) then (if top < v then top else v) else 1
theorem sQ_nearest (v top : Int32) : AM (d + 1) kQ_nearest 0 0 none [.int v, .int top] h (fun r h' => r = some (.int (near v top)) ∧ h' = h) := by
  refine AX.iconstV (v := 1) rfl (by decide) ?_
  refine AX.iload_n rfl rfl ?_
  refine AX.iload_n rfl rfl ?_
  refine AX.mmin rfl (by decide) (by decide) (by decide) ?_
  refine AX.mmax rfl (by decide) (by decide) (by decide) ?_
  exact AX.ireturn rfl rfl ⟨rfl, rfl⟩ (by decide) (by decide)
def zI (a b c : Int32) : zS := (fun i => if i = 0 then near a 8 else if i = 1 then near b 4 else if i = 2 then near c 3 else 0, fun _ => [], fun _ => 0)
theorem sQ_init (a b c : Int32) : AM (d + 3) kQ_init 27 557 none [.ref 0, .int a, .int b, .int c] ([.inr (3, [.int 0, .int 0, .int 0, .null, .null, .null, .null, .int 0, .int 0, .int 0])] : ax_H) (fun r h' => r = none ∧ h' = QH (zI a b c) (fun _ _ => 0) []) := by
  refine AX.aload_n rfl rfl ?_
  refine AX.objInit rfl (by decide) ?_
  refine AX.aload_n rfl rfl ?_
  refine AX.new rfl rfl rfl (by decide) (by decide) ?_
  refine AX.dup rfl rfl ?_
  refine AX.callI rfl (by decide) rfl rfl (by decide) (sC_init (d := d)) (Or.inl rfl) (by decide) (by decide) (by decide) (Or.inr rfl) (fun r h' q => ?_)
  obtain ⟨rfl, rfl⟩ := q
  refine AX.putf rfl rfl (Nat.le_of_ble_eq_true rfl) rfl ?_
  refine AX.gen (G := fun h => h = [.inr (3, [.int 0, .int 0, .int 0, .ref 1, .null, .null, .null, .int 0, .int 0, .int 0]), .inr (0, [.ref 2, .ref 4, .ref 6, .ref 8, .ref 10, .ref 12, .ref 14, .int 0]), .inr (2, [.ref 3, .int 0]), .inl (0, 40, .inl (fun _ => 0)), .inr (2, [.ref 5, .int 0]), .inl (0, 40, .inl (fun _ => 0)), .inr (2, [.ref 7, .int 0]), .inl (0, 40, .inl (fun _ => 0)), .inr (2, [.ref 9, .int 0]), .inl (0, 40, .inl (fun _ => 0)), .inr (2, [.ref 11, .int 0]), .inl (0, 40, .inl (fun _ => 0)), .inr (2, [.ref 13, .int 0]), .inl (0, 40, .inl (fun _ => 0)), .inl (1, 40, .inr (.inl (fun _ => 0)))]) rfl (fun h e => ?_)
  subst e
  refine AX.aload_n rfl rfl ?_
  refine AX.new rfl rfl rfl (by decide) (by decide) ?_
  refine AX.dup rfl rfl ?_
  refine AX.callI rfl (by decide) rfl rfl (by decide) (sR_init (d := d + 1) (i := 15) rfl rfl) (Or.inl rfl) (by decide) (by decide) (by decide) (Or.inr rfl) (fun r h' q => ?_)
  obtain ⟨rfl, rfl⟩ := q
  refine AX.putf rfl rfl (Nat.le_of_ble_eq_true rfl) rfl ?_
  refine AX.gen (G := fun h => h = [.inr (3, [.int 0, .int 0, .int 0, .ref 1, .ref 15, .null, .null, .int 0, .int 0, .int 0]), .inr (0, [.ref 2, .ref 4, .ref 6, .ref 8, .ref 10, .ref 12, .ref 14, .int 0]), .inr (2, [.ref 3, .int 0]), .inl (0, 40, .inl (fun _ => 0)), .inr (2, [.ref 5, .int 0]), .inl (0, 40, .inl (fun _ => 0)), .inr (2, [.ref 7, .int 0]), .inl (0, 40, .inl (fun _ => 0)), .inr (2, [.ref 9, .int 0]), .inl (0, 40, .inl (fun _ => 0)), .inr (2, [.ref 11, .int 0]), .inl (0, 40, .inl (fun _ => 0)), .inr (2, [.ref 13, .int 0]), .inl (0, 40, .inl (fun _ => 0)), .inl (1, 40, .inr (.inl (fun _ => 0))), .inr (2, [.ref 16, .int 0]), .inl (0, 40, .inl (fun _ => 0))]) rfl (fun h e => ?_)
  subst e
  refine AX.aload_n rfl rfl ?_
  refine AX.new rfl rfl rfl (by decide) (by decide) ?_
  refine AX.dup rfl rfl ?_
  refine AX.callI rfl (by decide) rfl rfl (by decide) (sR_init (d := d + 1) (i := 17) rfl rfl) (Or.inl rfl) (by decide) (by decide) (by decide) (Or.inr rfl) (fun r h' q => ?_)
  obtain ⟨rfl, rfl⟩ := q
  refine AX.putf rfl rfl (Nat.le_of_ble_eq_true rfl) rfl ?_
  refine AX.gen (G := fun h => h = [.inr (3, [.int 0, .int 0, .int 0, .ref 1, .ref 15, .ref 17, .null, .int 0, .int 0, .int 0]), .inr (0, [.ref 2, .ref 4, .ref 6, .ref 8, .ref 10, .ref 12, .ref 14, .int 0]), .inr (2, [.ref 3, .int 0]), .inl (0, 40, .inl (fun _ => 0)), .inr (2, [.ref 5, .int 0]), .inl (0, 40, .inl (fun _ => 0)), .inr (2, [.ref 7, .int 0]), .inl (0, 40, .inl (fun _ => 0)), .inr (2, [.ref 9, .int 0]), .inl (0, 40, .inl (fun _ => 0)), .inr (2, [.ref 11, .int 0]), .inl (0, 40, .inl (fun _ => 0)), .inr (2, [.ref 13, .int 0]), .inl (0, 40, .inl (fun _ => 0)), .inl (1, 40, .inr (.inl (fun _ => 0))), .inr (2, [.ref 16, .int 0]), .inl (0, 40, .inl (fun _ => 0)), .inr (2, [.ref 18, .int 0]), .inl (0, 40, .inl (fun _ => 0))]) rfl (fun h e => ?_)
  subst e
  refine AX.aload_n rfl rfl ?_
  refine AX.new rfl rfl rfl (by decide) (by decide) ?_
  refine AX.dup rfl rfl ?_
  refine AX.callI rfl (by decide) rfl rfl (by decide) (sG_init (d := d)) (Or.inl rfl) (by decide) (by decide) (by decide) (Or.inr rfl) (fun r h' q => ?_)
  obtain ⟨rfl, rfl⟩ := q
  refine AX.putf rfl rfl (Nat.le_of_ble_eq_true rfl) rfl ?_
  refine AX.gen (G := fun h => h = [.inr (3, [.int 0, .int 0, .int 0, .ref 1, .ref 15, .ref 17, .ref 19, .int 0, .int 0, .int 0]), .inr (0, [.ref 2, .ref 4, .ref 6, .ref 8, .ref 10, .ref 12, .ref 14, .int 0]), .inr (2, [.ref 3, .int 0]), .inl (0, 40, .inl (fun _ => 0)), .inr (2, [.ref 5, .int 0]), .inl (0, 40, .inl (fun _ => 0)), .inr (2, [.ref 7, .int 0]), .inl (0, 40, .inl (fun _ => 0)), .inr (2, [.ref 9, .int 0]), .inl (0, 40, .inl (fun _ => 0)), .inr (2, [.ref 11, .int 0]), .inl (0, 40, .inl (fun _ => 0)), .inr (2, [.ref 13, .int 0]), .inl (0, 40, .inl (fun _ => 0)), .inl (1, 40, .inr (.inl (fun _ => 0))), .inr (2, [.ref 16, .int 0]), .inl (0, 40, .inl (fun _ => 0)), .inr (2, [.ref 18, .int 0]), .inl (0, 40, .inl (fun _ => 0)), .inr (1, [.ref 20, .ref 22, .ref 24, .ref 26, .int 0]), .inr (2, [.ref 21, .int 0]), .inl (0, 40, .inl (fun _ => 0)), .inr (2, [.ref 23, .int 0]), .inl (0, 40, .inl (fun _ => 0)), .inr (2, [.ref 25, .int 0]), .inl (0, 40, .inl (fun _ => 0)), .inr (2, [.ref 27, .int 0]), .inl (0, 40, .inl (fun _ => 0))]) rfl (fun h e => ?_)
  subst e
  refine AX.aload_n rfl rfl ?_
  refine AX.iload_n rfl rfl ?_
  refine AX.bipushV (v := 8) rfl (by decide) ?_
  refine AX.callS rfl (by decide) rfl rfl (Nat.le_of_ble_eq_true rfl) (sQ_nearest (d := d + 1) a 8) (Or.inl rfl) (by decide) (by decide) (Nat.le_of_ble_eq_true rfl) (Or.inl rfl) (fun r h' q => ?_)
  obtain ⟨rfl, rfl⟩ := q
  refine AX.putf rfl rfl (Nat.le_of_ble_eq_true rfl) rfl ?_
  refine AX.gen (G := fun h => h = [.inr (3, [.int (near a 8), .int 0, .int 0, .ref 1, .ref 15, .ref 17, .ref 19, .int 0, .int 0, .int 0]), .inr (0, [.ref 2, .ref 4, .ref 6, .ref 8, .ref 10, .ref 12, .ref 14, .int 0]), .inr (2, [.ref 3, .int 0]), .inl (0, 40, .inl (fun _ => 0)), .inr (2, [.ref 5, .int 0]), .inl (0, 40, .inl (fun _ => 0)), .inr (2, [.ref 7, .int 0]), .inl (0, 40, .inl (fun _ => 0)), .inr (2, [.ref 9, .int 0]), .inl (0, 40, .inl (fun _ => 0)), .inr (2, [.ref 11, .int 0]), .inl (0, 40, .inl (fun _ => 0)), .inr (2, [.ref 13, .int 0]), .inl (0, 40, .inl (fun _ => 0)), .inl (1, 40, .inr (.inl (fun _ => 0))), .inr (2, [.ref 16, .int 0]), .inl (0, 40, .inl (fun _ => 0)), .inr (2, [.ref 18, .int 0]), .inl (0, 40, .inl (fun _ => 0)), .inr (1, [.ref 20, .ref 22, .ref 24, .ref 26, .int 0]), .inr (2, [.ref 21, .int 0]), .inl (0, 40, .inl (fun _ => 0)), .inr (2, [.ref 23, .int 0]), .inl (0, 40, .inl (fun _ => 0)), .inr (2, [.ref 25, .int 0]), .inl (0, 40, .inl (fun _ => 0)), .inr (2, [.ref 27, .int 0]), .inl (0, 40, .inl (fun _ => 0))]) rfl (fun h e => ?_)
  subst e
  refine AX.aload_n rfl rfl ?_
  refine AX.iload_n rfl rfl ?_
  refine AX.iconstV (v := 4) rfl (by decide) ?_
  refine AX.callS rfl (by decide) rfl rfl (Nat.le_of_ble_eq_true rfl) (sQ_nearest (d := d + 1) b 4) (Or.inl rfl) (by decide) (by decide) (Nat.le_of_ble_eq_true rfl) (Or.inl rfl) (fun r h' q => ?_)
  obtain ⟨rfl, rfl⟩ := q
  refine AX.putf rfl rfl (Nat.le_of_ble_eq_true rfl) rfl ?_
  refine AX.gen (G := fun h => h = [.inr (3, [.int (near a 8), .int (near b 4), .int 0, .ref 1, .ref 15, .ref 17, .ref 19, .int 0, .int 0, .int 0]), .inr (0, [.ref 2, .ref 4, .ref 6, .ref 8, .ref 10, .ref 12, .ref 14, .int 0]), .inr (2, [.ref 3, .int 0]), .inl (0, 40, .inl (fun _ => 0)), .inr (2, [.ref 5, .int 0]), .inl (0, 40, .inl (fun _ => 0)), .inr (2, [.ref 7, .int 0]), .inl (0, 40, .inl (fun _ => 0)), .inr (2, [.ref 9, .int 0]), .inl (0, 40, .inl (fun _ => 0)), .inr (2, [.ref 11, .int 0]), .inl (0, 40, .inl (fun _ => 0)), .inr (2, [.ref 13, .int 0]), .inl (0, 40, .inl (fun _ => 0)), .inl (1, 40, .inr (.inl (fun _ => 0))), .inr (2, [.ref 16, .int 0]), .inl (0, 40, .inl (fun _ => 0)), .inr (2, [.ref 18, .int 0]), .inl (0, 40, .inl (fun _ => 0)), .inr (1, [.ref 20, .ref 22, .ref 24, .ref 26, .int 0]), .inr (2, [.ref 21, .int 0]), .inl (0, 40, .inl (fun _ => 0)), .inr (2, [.ref 23, .int 0]), .inl (0, 40, .inl (fun _ => 0)), .inr (2, [.ref 25, .int 0]), .inl (0, 40, .inl (fun _ => 0)), .inr (2, [.ref 27, .int 0]), .inl (0, 40, .inl (fun _ => 0))]) rfl (fun h e => ?_)
  subst e
  refine AX.aload_n rfl rfl ?_
  refine AX.iload_n rfl rfl ?_
  refine AX.iconstV (v := 3) rfl (by decide) ?_
  refine AX.callS rfl (by decide) rfl rfl (Nat.le_of_ble_eq_true rfl) (sQ_nearest (d := d + 1) c 3) (Or.inl rfl) (by decide) (by decide) (Nat.le_of_ble_eq_true rfl) (Or.inl rfl) (fun r h' q => ?_)
  obtain ⟨rfl, rfl⟩ := q
  refine AX.putf rfl rfl (Nat.le_of_ble_eq_true rfl) rfl ?_
  refine AX.gen (G := fun h => h = [.inr (3, [.int (near a 8), .int (near b 4), .int (near c 3), .ref 1, .ref 15, .ref 17, .ref 19, .int 0, .int 0, .int 0]), .inr (0, [.ref 2, .ref 4, .ref 6, .ref 8, .ref 10, .ref 12, .ref 14, .int 0]), .inr (2, [.ref 3, .int 0]), .inl (0, 40, .inl (fun _ => 0)), .inr (2, [.ref 5, .int 0]), .inl (0, 40, .inl (fun _ => 0)), .inr (2, [.ref 7, .int 0]), .inl (0, 40, .inl (fun _ => 0)), .inr (2, [.ref 9, .int 0]), .inl (0, 40, .inl (fun _ => 0)), .inr (2, [.ref 11, .int 0]), .inl (0, 40, .inl (fun _ => 0)), .inr (2, [.ref 13, .int 0]), .inl (0, 40, .inl (fun _ => 0)), .inl (1, 40, .inr (.inl (fun _ => 0))), .inr (2, [.ref 16, .int 0]), .inl (0, 40, .inl (fun _ => 0)), .inr (2, [.ref 18, .int 0]), .inl (0, 40, .inl (fun _ => 0)), .inr (1, [.ref 20, .ref 22, .ref 24, .ref 26, .int 0]), .inr (2, [.ref 21, .int 0]), .inl (0, 40, .inl (fun _ => 0)), .inr (2, [.ref 23, .int 0]), .inl (0, 40, .inl (fun _ => 0)), .inr (2, [.ref 25, .int 0]), .inl (0, 40, .inl (fun _ => 0)), .inr (2, [.ref 27, .int 0]), .inl (0, 40, .inl (fun _ => 0))]) rfl (fun h e => ?_)
  subst e
  exact AX.vreturn rfl rfl ⟨rfl, rfl⟩ (by decide) (by decide)
theorem sM_within (v top : Int32) (ht : (1 : Int32) ≤ top) : AM d kM_within 0 0 none [.int v, .int top] h (fun r h' => r = some (.int (near v top)) ∧ h' = h) := by
  have key : near v top = if (1 : Int32) ≤ v then (if v ≤ top then v else top) else 1 := by
    unfold near
    by_cases h1 : (1 : Int32) ≤ v
    · by_cases h2 : v ≤ top
      · have a := Int32.not_lt.mpr h2
        simp only [a, if_false, h1, h2, if_true]
        by_cases h3 : (1 : Int32) < v
        · simp only [h3, if_true]
        · simp only [h3, if_false]; exact Int32.le_antisymm h1 (Int32.not_lt.mp h3)
      · have a := Int32.not_le.mp h2
        simp only [a, if_false, h1, h2, if_true]
        by_cases h3 : (1 : Int32) < top
        · simp only [h3, if_true]
        · simp only [h3, if_false]; exact Int32.le_antisymm ht (Int32.not_lt.mp h3)
    · have a : ¬ top < v := Int32.not_lt.mpr (Int32.le_trans (Int32.le_of_lt (Int32.not_le.mp h1)) ht)
      have b : ¬ (1 : Int32) < v := Int32.not_lt.mpr (Int32.le_of_lt (Int32.not_le.mp h1))
      simp only [a, if_false, h1, b]
  refine AX.iload_n rfl rfl ?_
  refine AX.iconstV (v := 1) rfl (by decide) ?_
  refine AX.icmp_ge rfl (fun c1 => ?_) (fun c1 => ?_)
  · refine AX.iload_n rfl rfl ?_
    refine AX.iload_n rfl rfl ?_
    refine AX.icmp_le rfl (fun c2 => ?_) (fun c2 => ?_)
    · refine AX.iload_n rfl rfl ?_
      exact AX.ireturn rfl rfl ⟨by rw [key, if_pos c1, if_pos c2], rfl⟩ (by decide) (by decide)
    · refine AX.iload_n rfl rfl ?_
      refine AX.goto rfl ?_
      exact AX.ireturn rfl rfl ⟨by rw [key, if_pos c1, if_neg c2], rfl⟩ (by decide) (by decide)
  · refine AX.iconstV (v := 1) rfl (by decide) ?_
    refine AX.goto rfl ?_
    exact AX.ireturn rfl rfl ⟨by rw [key, if_neg c1], rfl⟩ (by decide) (by decide)
def tI (a b c : Int32) : mS := (fun i => if i = 0 then near a 8 else if i = 1 then near b 4 else if i = 2 then near c 3 else 0, fun _ _ => 0)
theorem sM_init (a b c : Int32) : AM (d + 2) kM_init 12 2040 none [.ref 28, .int a, .int b, .int c] (QH (zI a b c) (fun _ _ => 0) [.inr (4, [.int 0, .int 0, .int 0, .int 0, .int 0, .int 0, .int 0, .int 0, .int 0, .int 0, .int 0, .int 0, .null, .null, .null, .null, .null, .null, .null, .null, .null, .null, .null, .null])] : ax_H) (fun r h' => r = none ∧ h' = QH (zI a b c) (fun _ _ => 0) (MH (tI a b c))) := by
  refine AX.aload_n rfl rfl ?_
  refine AX.objInit rfl (by decide) ?_
  refine AX.aload_n rfl rfl ?_
  refine AX.bipushV (v := 40) rfl (by decide) ?_
  refine AX.newI 40 rfl (by decide) (by decide) (by decide) rfl rfl (by decide) (by decide) ?_
  refine AX.putf rfl rfl (Nat.le_of_ble_eq_true rfl) rfl ?_
  refine AX.gen (G := fun h => h = QH (zI a b c) (fun _ _ => 0) [.inr (4, [.int 0, .int 0, .int 0, .int 0, .int 0, .int 0, .int 0, .int 0, .int 0, .int 0, .int 0, .int 0, .ref 29, .null, .null, .null, .null, .null, .null, .null, .null, .null, .null, .null]), .inl (0, 40, .inl (fun _ => 0))]) rfl (fun h e => ?_)
  subst e
  refine AX.aload_n rfl rfl ?_
  refine AX.bipushV (v := 40) rfl (by decide) ?_
  refine AX.newI 40 rfl (by decide) (by decide) (by decide) rfl rfl (by decide) (by decide) ?_
  refine AX.putf rfl rfl (Nat.le_of_ble_eq_true rfl) rfl ?_
  refine AX.gen (G := fun h => h = QH (zI a b c) (fun _ _ => 0) [.inr (4, [.int 0, .int 0, .int 0, .int 0, .int 0, .int 0, .int 0, .int 0, .int 0, .int 0, .int 0, .int 0, .ref 29, .ref 30, .null, .null, .null, .null, .null, .null, .null, .null, .null, .null]), .inl (0, 40, .inl (fun _ => 0)), .inl (0, 40, .inl (fun _ => 0))]) rfl (fun h e => ?_)
  subst e
  refine AX.aload_n rfl rfl ?_
  refine AX.bipushV (v := 40) rfl (by decide) ?_
  refine AX.newI 40 rfl (by decide) (by decide) (by decide) rfl rfl (by decide) (by decide) ?_
  refine AX.putf rfl rfl (Nat.le_of_ble_eq_true rfl) rfl ?_
  refine AX.gen (G := fun h => h = QH (zI a b c) (fun _ _ => 0) [.inr (4, [.int 0, .int 0, .int 0, .int 0, .int 0, .int 0, .int 0, .int 0, .int 0, .int 0, .int 0, .int 0, .ref 29, .ref 30, .ref 31, .null, .null, .null, .null, .null, .null, .null, .null, .null]), .inl (0, 40, .inl (fun _ => 0)), .inl (0, 40, .inl (fun _ => 0)), .inl (0, 40, .inl (fun _ => 0))]) rfl (fun h e => ?_)
  subst e
  refine AX.aload_n rfl rfl ?_
  refine AX.bipushV (v := 40) rfl (by decide) ?_
  refine AX.newI 40 rfl (by decide) (by decide) (by decide) rfl rfl (by decide) (by decide) ?_
  refine AX.putf rfl rfl (Nat.le_of_ble_eq_true rfl) rfl ?_
  refine AX.gen (G := fun h => h = QH (zI a b c) (fun _ _ => 0) [.inr (4, [.int 0, .int 0, .int 0, .int 0, .int 0, .int 0, .int 0, .int 0, .int 0, .int 0, .int 0, .int 0, .ref 29, .ref 30, .ref 31, .ref 32, .null, .null, .null, .null, .null, .null, .null, .null]), .inl (0, 40, .inl (fun _ => 0)), .inl (0, 40, .inl (fun _ => 0)), .inl (0, 40, .inl (fun _ => 0)), .inl (0, 40, .inl (fun _ => 0))]) rfl (fun h e => ?_)
  subst e
  refine AX.aload_n rfl rfl ?_
  refine AX.bipushV (v := 40) rfl (by decide) ?_
  refine AX.newI 40 rfl (by decide) (by decide) (by decide) rfl rfl (by decide) (by decide) ?_
  refine AX.putf rfl rfl (Nat.le_of_ble_eq_true rfl) rfl ?_
  refine AX.gen (G := fun h => h = QH (zI a b c) (fun _ _ => 0) [.inr (4, [.int 0, .int 0, .int 0, .int 0, .int 0, .int 0, .int 0, .int 0, .int 0, .int 0, .int 0, .int 0, .ref 29, .ref 30, .ref 31, .ref 32, .ref 33, .null, .null, .null, .null, .null, .null, .null]), .inl (0, 40, .inl (fun _ => 0)), .inl (0, 40, .inl (fun _ => 0)), .inl (0, 40, .inl (fun _ => 0)), .inl (0, 40, .inl (fun _ => 0)), .inl (0, 40, .inl (fun _ => 0))]) rfl (fun h e => ?_)
  subst e
  refine AX.aload_n rfl rfl ?_
  refine AX.bipushV (v := 40) rfl (by decide) ?_
  refine AX.newI 40 rfl (by decide) (by decide) (by decide) rfl rfl (by decide) (by decide) ?_
  refine AX.putf rfl rfl (Nat.le_of_ble_eq_true rfl) rfl ?_
  refine AX.gen (G := fun h => h = QH (zI a b c) (fun _ _ => 0) [.inr (4, [.int 0, .int 0, .int 0, .int 0, .int 0, .int 0, .int 0, .int 0, .int 0, .int 0, .int 0, .int 0, .ref 29, .ref 30, .ref 31, .ref 32, .ref 33, .ref 34, .null, .null, .null, .null, .null, .null]), .inl (0, 40, .inl (fun _ => 0)), .inl (0, 40, .inl (fun _ => 0)), .inl (0, 40, .inl (fun _ => 0)), .inl (0, 40, .inl (fun _ => 0)), .inl (0, 40, .inl (fun _ => 0)), .inl (0, 40, .inl (fun _ => 0))]) rfl (fun h e => ?_)
  subst e
  refine AX.aload_n rfl rfl ?_
  refine AX.sipushV (v := 1600) rfl (by decide) ?_
  refine AX.newZ 1600 rfl (by decide) (by decide) (by decide) rfl rfl (by decide) (by decide) ?_
  refine AX.putf rfl rfl (Nat.le_of_ble_eq_true rfl) rfl ?_
  refine AX.gen (G := fun h => h = QH (zI a b c) (fun _ _ => 0) [.inr (4, [.int 0, .int 0, .int 0, .int 0, .int 0, .int 0, .int 0, .int 0, .int 0, .int 0, .int 0, .int 0, .ref 29, .ref 30, .ref 31, .ref 32, .ref 33, .ref 34, .ref 35, .null, .null, .null, .null, .null]), .inl (0, 40, .inl (fun _ => 0)), .inl (0, 40, .inl (fun _ => 0)), .inl (0, 40, .inl (fun _ => 0)), .inl (0, 40, .inl (fun _ => 0)), .inl (0, 40, .inl (fun _ => 0)), .inl (0, 40, .inl (fun _ => 0)), .inl (2, 1600, .inl (fun _ => 0))]) rfl (fun h e => ?_)
  subst e
  refine AX.aload_n rfl rfl ?_
  refine AX.bipushV (v := 40) rfl (by decide) ?_
  refine AX.newI 40 rfl (by decide) (by decide) (by decide) rfl rfl (by decide) (by decide) ?_
  refine AX.putf rfl rfl (Nat.le_of_ble_eq_true rfl) rfl ?_
  refine AX.gen (G := fun h => h = QH (zI a b c) (fun _ _ => 0) [.inr (4, [.int 0, .int 0, .int 0, .int 0, .int 0, .int 0, .int 0, .int 0, .int 0, .int 0, .int 0, .int 0, .ref 29, .ref 30, .ref 31, .ref 32, .ref 33, .ref 34, .ref 35, .ref 36, .null, .null, .null, .null]), .inl (0, 40, .inl (fun _ => 0)), .inl (0, 40, .inl (fun _ => 0)), .inl (0, 40, .inl (fun _ => 0)), .inl (0, 40, .inl (fun _ => 0)), .inl (0, 40, .inl (fun _ => 0)), .inl (0, 40, .inl (fun _ => 0)), .inl (2, 1600, .inl (fun _ => 0)), .inl (0, 40, .inl (fun _ => 0))]) rfl (fun h e => ?_)
  subst e
  refine AX.aload_n rfl rfl ?_
  refine AX.bipushV (v := 40) rfl (by decide) ?_
  refine AX.newI 40 rfl (by decide) (by decide) (by decide) rfl rfl (by decide) (by decide) ?_
  refine AX.putf rfl rfl (Nat.le_of_ble_eq_true rfl) rfl ?_
  refine AX.gen (G := fun h => h = QH (zI a b c) (fun _ _ => 0) [.inr (4, [.int 0, .int 0, .int 0, .int 0, .int 0, .int 0, .int 0, .int 0, .int 0, .int 0, .int 0, .int 0, .ref 29, .ref 30, .ref 31, .ref 32, .ref 33, .ref 34, .ref 35, .ref 36, .ref 37, .null, .null, .null]), .inl (0, 40, .inl (fun _ => 0)), .inl (0, 40, .inl (fun _ => 0)), .inl (0, 40, .inl (fun _ => 0)), .inl (0, 40, .inl (fun _ => 0)), .inl (0, 40, .inl (fun _ => 0)), .inl (0, 40, .inl (fun _ => 0)), .inl (2, 1600, .inl (fun _ => 0)), .inl (0, 40, .inl (fun _ => 0)), .inl (0, 40, .inl (fun _ => 0))]) rfl (fun h e => ?_)
  subst e
  refine AX.aload_n rfl rfl ?_
  refine AX.bipushV (v := 40) rfl (by decide) ?_
  refine AX.newZ 40 rfl (by decide) (by decide) (by decide) rfl rfl (by decide) (by decide) ?_
  refine AX.putf rfl rfl (Nat.le_of_ble_eq_true rfl) rfl ?_
  refine AX.gen (G := fun h => h = QH (zI a b c) (fun _ _ => 0) [.inr (4, [.int 0, .int 0, .int 0, .int 0, .int 0, .int 0, .int 0, .int 0, .int 0, .int 0, .int 0, .int 0, .ref 29, .ref 30, .ref 31, .ref 32, .ref 33, .ref 34, .ref 35, .ref 36, .ref 37, .ref 38, .null, .null]), .inl (0, 40, .inl (fun _ => 0)), .inl (0, 40, .inl (fun _ => 0)), .inl (0, 40, .inl (fun _ => 0)), .inl (0, 40, .inl (fun _ => 0)), .inl (0, 40, .inl (fun _ => 0)), .inl (0, 40, .inl (fun _ => 0)), .inl (2, 1600, .inl (fun _ => 0)), .inl (0, 40, .inl (fun _ => 0)), .inl (0, 40, .inl (fun _ => 0)), .inl (2, 40, .inl (fun _ => 0))]) rfl (fun h e => ?_)
  subst e
  refine AX.aload_n rfl rfl ?_
  refine AX.bipushV (v := 40) rfl (by decide) ?_
  refine AX.newI 40 rfl (by decide) (by decide) (by decide) rfl rfl (by decide) (by decide) ?_
  refine AX.putf rfl rfl (Nat.le_of_ble_eq_true rfl) rfl ?_
  refine AX.gen (G := fun h => h = QH (zI a b c) (fun _ _ => 0) [.inr (4, [.int 0, .int 0, .int 0, .int 0, .int 0, .int 0, .int 0, .int 0, .int 0, .int 0, .int 0, .int 0, .ref 29, .ref 30, .ref 31, .ref 32, .ref 33, .ref 34, .ref 35, .ref 36, .ref 37, .ref 38, .ref 39, .null]), .inl (0, 40, .inl (fun _ => 0)), .inl (0, 40, .inl (fun _ => 0)), .inl (0, 40, .inl (fun _ => 0)), .inl (0, 40, .inl (fun _ => 0)), .inl (0, 40, .inl (fun _ => 0)), .inl (0, 40, .inl (fun _ => 0)), .inl (2, 1600, .inl (fun _ => 0)), .inl (0, 40, .inl (fun _ => 0)), .inl (0, 40, .inl (fun _ => 0)), .inl (2, 40, .inl (fun _ => 0)), .inl (0, 40, .inl (fun _ => 0))]) rfl (fun h e => ?_)
  subst e
  refine AX.aload_n rfl rfl ?_
  refine AX.bipushV (v := 40) rfl (by decide) ?_
  refine AX.newI 40 rfl (by decide) (by decide) (by decide) rfl rfl (by decide) (by decide) ?_
  refine AX.putf rfl rfl (Nat.le_of_ble_eq_true rfl) rfl ?_
  refine AX.gen (G := fun h => h = QH (zI a b c) (fun _ _ => 0) [.inr (4, [.int 0, .int 0, .int 0, .int 0, .int 0, .int 0, .int 0, .int 0, .int 0, .int 0, .int 0, .int 0, .ref 29, .ref 30, .ref 31, .ref 32, .ref 33, .ref 34, .ref 35, .ref 36, .ref 37, .ref 38, .ref 39, .ref 40]), .inl (0, 40, .inl (fun _ => 0)), .inl (0, 40, .inl (fun _ => 0)), .inl (0, 40, .inl (fun _ => 0)), .inl (0, 40, .inl (fun _ => 0)), .inl (0, 40, .inl (fun _ => 0)), .inl (0, 40, .inl (fun _ => 0)), .inl (2, 1600, .inl (fun _ => 0)), .inl (0, 40, .inl (fun _ => 0)), .inl (0, 40, .inl (fun _ => 0)), .inl (2, 40, .inl (fun _ => 0)), .inl (0, 40, .inl (fun _ => 0)), .inl (0, 40, .inl (fun _ => 0))]) rfl (fun h e => ?_)
  subst e
  refine AX.aload_n rfl rfl ?_
  refine AX.iload_n rfl rfl ?_
  refine AX.bipushV (v := 8) rfl (by decide) ?_
  refine AX.callS rfl (by decide) rfl rfl (Nat.le_of_ble_eq_true rfl) (sM_within (d := d + 1) a 8 (by decide)) (Or.inl rfl) (by decide) (by decide) (Nat.le_of_ble_eq_true rfl) (Or.inl rfl) (fun r h' q => ?_)
  obtain ⟨rfl, rfl⟩ := q
  refine AX.putf rfl rfl (Nat.le_of_ble_eq_true rfl) rfl ?_
  refine AX.gen (G := fun h => h = QH (zI a b c) (fun _ _ => 0) [.inr (4, [.int (near a 8), .int 0, .int 0, .int 0, .int 0, .int 0, .int 0, .int 0, .int 0, .int 0, .int 0, .int 0, .ref 29, .ref 30, .ref 31, .ref 32, .ref 33, .ref 34, .ref 35, .ref 36, .ref 37, .ref 38, .ref 39, .ref 40]), .inl (0, 40, .inl (fun _ => 0)), .inl (0, 40, .inl (fun _ => 0)), .inl (0, 40, .inl (fun _ => 0)), .inl (0, 40, .inl (fun _ => 0)), .inl (0, 40, .inl (fun _ => 0)), .inl (0, 40, .inl (fun _ => 0)), .inl (2, 1600, .inl (fun _ => 0)), .inl (0, 40, .inl (fun _ => 0)), .inl (0, 40, .inl (fun _ => 0)), .inl (2, 40, .inl (fun _ => 0)), .inl (0, 40, .inl (fun _ => 0)), .inl (0, 40, .inl (fun _ => 0))]) rfl (fun h e => ?_)
  subst e
  refine AX.aload_n rfl rfl ?_
  refine AX.iload_n rfl rfl ?_
  refine AX.iconstV (v := 4) rfl (by decide) ?_
  refine AX.callS rfl (by decide) rfl rfl (Nat.le_of_ble_eq_true rfl) (sM_within (d := d + 1) b 4 (by decide)) (Or.inl rfl) (by decide) (by decide) (Nat.le_of_ble_eq_true rfl) (Or.inl rfl) (fun r h' q => ?_)
  obtain ⟨rfl, rfl⟩ := q
  refine AX.putf rfl rfl (Nat.le_of_ble_eq_true rfl) rfl ?_
  refine AX.gen (G := fun h => h = QH (zI a b c) (fun _ _ => 0) [.inr (4, [.int (near a 8), .int (near b 4), .int 0, .int 0, .int 0, .int 0, .int 0, .int 0, .int 0, .int 0, .int 0, .int 0, .ref 29, .ref 30, .ref 31, .ref 32, .ref 33, .ref 34, .ref 35, .ref 36, .ref 37, .ref 38, .ref 39, .ref 40]), .inl (0, 40, .inl (fun _ => 0)), .inl (0, 40, .inl (fun _ => 0)), .inl (0, 40, .inl (fun _ => 0)), .inl (0, 40, .inl (fun _ => 0)), .inl (0, 40, .inl (fun _ => 0)), .inl (0, 40, .inl (fun _ => 0)), .inl (2, 1600, .inl (fun _ => 0)), .inl (0, 40, .inl (fun _ => 0)), .inl (0, 40, .inl (fun _ => 0)), .inl (2, 40, .inl (fun _ => 0)), .inl (0, 40, .inl (fun _ => 0)), .inl (0, 40, .inl (fun _ => 0))]) rfl (fun h e => ?_)
  subst e
  refine AX.aload_n rfl rfl ?_
  refine AX.iload_n rfl rfl ?_
  refine AX.iconstV (v := 3) rfl (by decide) ?_
  refine AX.callS rfl (by decide) rfl rfl (Nat.le_of_ble_eq_true rfl) (sM_within (d := d + 1) c 3 (by decide)) (Or.inl rfl) (by decide) (by decide) (Nat.le_of_ble_eq_true rfl) (Or.inl rfl) (fun r h' q => ?_)
  obtain ⟨rfl, rfl⟩ := q
  refine AX.putf rfl rfl (Nat.le_of_ble_eq_true rfl) rfl ?_
  refine AX.gen (G := fun h => h = QH (zI a b c) (fun _ _ => 0) [.inr (4, [.int (near a 8), .int (near b 4), .int (near c 3), .int 0, .int 0, .int 0, .int 0, .int 0, .int 0, .int 0, .int 0, .int 0, .ref 29, .ref 30, .ref 31, .ref 32, .ref 33, .ref 34, .ref 35, .ref 36, .ref 37, .ref 38, .ref 39, .ref 40]), .inl (0, 40, .inl (fun _ => 0)), .inl (0, 40, .inl (fun _ => 0)), .inl (0, 40, .inl (fun _ => 0)), .inl (0, 40, .inl (fun _ => 0)), .inl (0, 40, .inl (fun _ => 0)), .inl (0, 40, .inl (fun _ => 0)), .inl (2, 1600, .inl (fun _ => 0)), .inl (0, 40, .inl (fun _ => 0)), .inl (0, 40, .inl (fun _ => 0)), .inl (2, 40, .inl (fun _ => 0)), .inl (0, 40, .inl (fun _ => 0)), .inl (0, 40, .inl (fun _ => 0))]) rfl (fun h e => ?_)
  subst e
  exact AX.vreturn rfl rfl ⟨rfl, rfl⟩ (by decide) (by decide)
end IN
end
section
/-! THE LAW'S LOOP -/
section LW
variable {d : Nat} {h : ax_H}
theorem AX.sldN {k C S : Nat} {pc nx a1 a2 : Nat} {lv : ax_L} {st : List Value} {n1 n2 : Nat} {F : ax_F} {L y c : Nat} {xs : Nat → Int32} {j : Int32} (hi : m_i k pc = some (.iaload, 1, nx, a1, a2)) (hc : c < L) (hL : L < 2 ^ 31) (hj : j = nI c) (kk : AX d k C S (some (L, xs)) nx lv (.int (xs c) :: st) h n1 n2 F) : AX d k C S (some (L, xs)) pc lv (.int j :: .retAddr y :: st) h n1 n2 F := by
  subst hj
  refine AX.sld hi (vp_in_nI hc hL) ?_
  rw [nI_clamp (by omega)]
  exact kk
theorem qm {z : zS} {t : mS} (hq : isQ z (MH t) h) : ∃ p, isM p t h ∧ ∀ t' h', isM p t' h' → isQ z (MH t') h' := by
  obtain ⟨F, ok, rfl⟩ := hq
  refine ⟨QH z F [], ⟨rfl, rfl⟩, fun t' h' hm => ?_⟩
  obtain ⟨-, rfl⟩ := hm
  exact ⟨F, ok, rfl⟩
theorem and15 (x : Int32) : ∃ k, k < 16 ∧ x &&& 15 = nI k := by
  refine ⟨((x &&& 15).toBitVec).toNat, ?_, ?_⟩
  · rw [Int32.toBitVec_and, BitVec.toNat_and]
    exact Nat.lt_of_le_of_lt Nat.and_le_right (by decide)
  · apply Int32.toBitVec_inj.mp
    show _ = BitVec.ofNat 32 _
    rw [BitVec.ofNat_toNat, BitVec.setWidth_eq]
def lawF : ax_F := fun pc _ st _ n1 n2 => pc = 577 ∧ st = [.int 1] ∧ n1 = 41 ∧ n2 = 2631
theorem law_l {L : Nat} {xs : Nat → Int32} (hL : L ≤ 1539) : ∀ (n i : Nat) (y : yT) (z : zS) (t : mS) (h : ax_H), INV y z t → isQ z (MH t) h → L ≤ i + n → 3 ≤ i → i ≤ 1545 → AX (d + 6) kL_law 41 2631 (some (L, xs)) 48 [(3, .int (nI i)), (2, .ref 28), (1, .ref 0), (0, .retAddr 0)] [] h 41 2631 lawF := by
  intro n
  induction n with
  | zero =>
    intro i y z t h hI hq hn h3 hi
    have hx : Int32.ofNat L - 3 < nI i := by
      rcases (show L < 3 ∨ 3 ≤ L by omega) with q | q
      · have e : Int32.ofNat L - 3 < 0 := by
          rcases (show L = 0 ∨ L = 1 ∨ L = 2 by omega) with rfl | rfl | rfl <;> decide
        exact Int32.lt_of_lt_of_le e (nI_pos' (by omega))
      · rw [show Int32.ofNat L = nI L from rfl, show (3 : Int32) = nI 3 from rfl, pk_sub q]
        exact (nI_ltI (by omega) (by omega)).mpr (by omega)
    refine AX.iload_n rfl rfl ?_
    refine AX.aload_nS rfl rfl ?_
    refine AX.slen rfl ?_
    refine AX.iconstV (v := 3) rfl (by decide) ?_
    refine AX.isub rfl ?_
    refine AX.icmp_gt rfl (fun _ => ?_) (fun c => absurd hx c)
    refine AX.iconstV (v := 1) rfl (by decide) ?_
    exact AX.here ⟨rfl, rfl, rfl, rfl⟩
  | succ n ih =>
    intro i y z t h hI hq hn h3 hi
    refine AX.iload_n rfl rfl ?_
    refine AX.aload_nS rfl rfl ?_
    refine AX.slen rfl ?_
    refine AX.iconstV (v := 3) rfl (by decide) ?_
    refine AX.isub rfl ?_
    refine AX.icmp_gt rfl (fun _ => ?_) (fun c => ?_)
    · refine AX.iconstV (v := 1) rfl (by decide) ?_
      exact AX.here ⟨rfl, rfl, rfl, rfl⟩
    have hiL : i + 3 ≤ L := by
      rcases (show L < 3 ∨ 3 ≤ L by omega) with q | q
      · exfalso
        apply c
        have e : Int32.ofNat L - 3 < 0 := by
          rcases (show L = 0 ∨ L = 1 ∨ L = 2 by omega) with rfl | rfl | rfl <;> decide
        exact Int32.lt_of_lt_of_le e (nI_pos' (by omega))
      · rw [show Int32.ofNat L = nI L from rfl, show (3 : Int32) = nI 3 from rfl, pk_sub q, nI_ltI (by omega) (by omega)] at c
        omega
    have i1 : nI i + 1 = nI (i + 1) := nI_1 i
    have i2 : nI i + 2 = nI (i + 2) := by rw [show (2 : Int32) = nI 2 from rfl, nI_add]
    have nxt : ∀ (y : yT) (z : zS) (t : mS) (h : ax_H), INV y z t → isQ z (MH t) h → AX (d + 6) kL_law 41 2631 (some (L, xs)) 570 [(3, .int (nI i)), (2, .ref 28), (1, .ref 0), (0, .retAddr 0)] [] h 41 2631 lawF := by
      intro y z t h hI hq
      refine AX.iincV (dn := 3) rfl rfl (by decide) (by decide) ?_
      refine AX.goto rfl ?_
      rw [show (3 : Int32) = nI 3 from rfl, nI_add]
      exact ih (i + 3) y z t h hI hq (by omega) (by omega) (by omega)
    refine AX.aload_nS rfl rfl ?_
    refine AX.iload_n rfl rfl ?_
    refine AX.sldN (c := i) rfl (by omega) (by omega) rfl ?_
    refine AX.bipushV (v := 15) rfl (by decide) ?_
    refine AX.iand rfl ?_
    obtain ⟨k, k1, k2⟩ := and15 (xs i)
    rw [k2]
    rcases (show k = 0 ∨ k = 1 ∨ k = 2 ∨ k = 3 ∨ k = 4 ∨ k = 5 ∨ k = 6 ∨ k = 7 ∨ k = 8 ∨ k = 9 ∨ k = 10 ∨ k = 11 ∨ k = 12 ∨ k = 13 ∨ k = 14 ∨ k = 15 by omega) with rfl | rfl | rfl | rfl | rfl | rfl | rfl | rfl | rfl | rfl | rfl | rfl | rfl | rfl | rfl | rfl
    · refine AX.tsIn 140 rfl (by decide) (by decide) rfl (by decide) ?_
      refine AX.aload_n rfl rfl ?_
      refine AX.aload_nS rfl rfl ?_
      refine AX.iload_n rfl rfl ?_
      refine AX.iconstV (v := 1) rfl (by decide) ?_
      refine AX.iadd rfl ?_
      refine AX.sldN (c := i + 1) rfl (by omega) (by omega) i1 ?_
      refine AX.aload_nS rfl rfl ?_
      refine AX.iload_n rfl rfl ?_
      refine AX.iconstV (v := 2) rfl (by decide) ?_
      refine AX.iadd rfl ?_
      refine AX.sldN (c := i + 2) rfl (by omega) (by omega) i2 ?_
      refine AX.cVI rfl rfl rfl (Q0 hq) (sQ_change hq _ _) (fun h hq => ?_)
      obtain ⟨p, hm, hback⟩ := qm hq
      refine AX.aload_n rfl rfl ?_
      refine AX.aload_nS rfl rfl ?_
      refine AX.iload_n rfl rfl ?_
      refine AX.iconstV (v := 1) rfl (by decide) ?_
      refine AX.iadd rfl ?_
      refine AX.sldN (c := i + 1) rfl (by omega) (by omega) i1 ?_
      refine AX.aload_nS rfl rfl ?_
      refine AX.iload_n rfl rfl ?_
      refine AX.iconstV (v := 2) rfl (by decide) ?_
      refine AX.iadd rfl ?_
      refine AX.sldN (c := i + 2) rfl (by omega) (by omega) i2 ?_
      refine AX.cVI rfl rfl rfl (M0 hm) (ok_change hI hm _ _) (fun h hJ => ?_)
      refine AX.icmp_eq rfl (fun _ => ?_) (fun c => absurd rfl c)
      obtain ⟨y2, t2, hI2, hm2⟩ := hJ
      exact nxt _ _ _ _ hI2 (hback _ _ hm2)
    · refine AX.tsIn 173 rfl (by decide) (by decide) rfl (by decide) ?_
      refine AX.aload_n rfl rfl ?_
      refine AX.aload_nS rfl rfl ?_
      refine AX.iload_n rfl rfl ?_
      refine AX.iconstV (v := 1) rfl (by decide) ?_
      refine AX.iadd rfl ?_
      refine AX.sldN (c := i + 1) rfl (by omega) (by omega) i1 ?_
      refine AX.aload_nS rfl rfl ?_
      refine AX.iload_n rfl rfl ?_
      refine AX.iconstV (v := 2) rfl (by decide) ?_
      refine AX.iadd rfl ?_
      refine AX.sldN (c := i + 2) rfl (by omega) (by omega) i2 ?_
      refine AX.cVI rfl rfl rfl (Q0 hq) (sQ_conflict hq _ _) (fun h hq => ?_)
      obtain ⟨p, hm, hback⟩ := qm hq
      refine AX.aload_n rfl rfl ?_
      refine AX.aload_nS rfl rfl ?_
      refine AX.iload_n rfl rfl ?_
      refine AX.iconstV (v := 1) rfl (by decide) ?_
      refine AX.iadd rfl ?_
      refine AX.sldN (c := i + 1) rfl (by omega) (by omega) i1 ?_
      refine AX.aload_nS rfl rfl ?_
      refine AX.iload_n rfl rfl ?_
      refine AX.iconstV (v := 2) rfl (by decide) ?_
      refine AX.iadd rfl ?_
      refine AX.sldN (c := i + 2) rfl (by omega) (by omega) i2 ?_
      refine AX.cVI rfl rfl rfl (M0 hm) (ok_conflict hI hm _ _) (fun h hJ => ?_)
      refine AX.icmp_eq rfl (fun _ => ?_) (fun c => absurd rfl c)
      obtain ⟨y2, t2, hI2, hm2⟩ := hJ
      exact nxt _ _ _ _ hI2 (hback _ _ hm2)
    · refine AX.tsIn 206 rfl (by decide) (by decide) rfl (by decide) ?_
      refine AX.aload_n rfl rfl ?_
      refine AX.aload_nS rfl rfl ?_
      refine AX.iload_n rfl rfl ?_
      refine AX.iconstV (v := 1) rfl (by decide) ?_
      refine AX.iadd rfl ?_
      refine AX.sldN (c := i + 1) rfl (by omega) (by omega) i1 ?_
      refine AX.cVI rfl rfl rfl (Q0 hq) (sQ_jump hq _) (fun h hq => ?_)
      obtain ⟨p, hm, hback⟩ := qm hq
      refine AX.aload_n rfl rfl ?_
      refine AX.aload_nS rfl rfl ?_
      refine AX.iload_n rfl rfl ?_
      refine AX.iconstV (v := 1) rfl (by decide) ?_
      refine AX.iadd rfl ?_
      refine AX.sldN (c := i + 1) rfl (by omega) (by omega) i1 ?_
      refine AX.cVI rfl rfl rfl (M0 hm) (ok_jump hI hm _) (fun h hJ => ?_)
      refine AX.icmp_eq rfl (fun _ => ?_) (fun c => absurd rfl c)
      obtain ⟨y2, t2, hI2, hm2⟩ := hJ
      exact nxt _ _ _ _ hI2 (hback _ _ hm2)
    · refine AX.tsIn 229 rfl (by decide) (by decide) rfl (by decide) ?_
      refine AX.aload_n rfl rfl ?_
      refine AX.aload_nS rfl rfl ?_
      refine AX.iload_n rfl rfl ?_
      refine AX.iconstV (v := 1) rfl (by decide) ?_
      refine AX.iadd rfl ?_
      refine AX.sldN (c := i + 1) rfl (by omega) (by omega) i1 ?_
      refine AX.cVI rfl rfl rfl (Q0 hq) (sQ_leave hq _) (fun h hq => ?_)
      obtain ⟨p, hm, hback⟩ := qm hq
      refine AX.aload_n rfl rfl ?_
      refine AX.aload_nS rfl rfl ?_
      refine AX.iload_n rfl rfl ?_
      refine AX.iconstV (v := 1) rfl (by decide) ?_
      refine AX.iadd rfl ?_
      refine AX.sldN (c := i + 1) rfl (by omega) (by omega) i1 ?_
      refine AX.cVI rfl rfl rfl (M0 hm) (ok_leave hI hm _) (fun h hJ => ?_)
      refine AX.icmp_eq rfl (fun _ => ?_) (fun c => absurd rfl c)
      obtain ⟨y2, t2, hI2, hm2⟩ := hJ
      exact nxt _ _ _ _ hI2 (hback _ _ hm2)
    · refine AX.tsIn 252 rfl (by decide) (by decide) rfl (by decide) ?_
      by_cases hz : xs (i + 1) = 0
      · refine AX.aload_n rfl rfl ?_
        refine AX.aload_nS rfl rfl ?_
        refine AX.iload_n rfl rfl ?_
        refine AX.iconstV (v := 1) rfl (by decide) ?_
        refine AX.iadd rfl ?_
        refine AX.sldN (c := i + 1) rfl (by omega) (by omega) i1 ?_
        refine AX.if_eq rfl (fun _ => ?_) (fun c => absurd hz c)
        refine AX.iconstV (v := 0) rfl (by decide) ?_
        refine AX.cVI rfl rfl rfl (Q0 hq) (sQ_pause hq _ (by decide)) (fun h hq => ?_)
        obtain ⟨p, hm, hback⟩ := qm hq
        refine AX.aload_n rfl rfl ?_
        refine AX.aload_nS rfl rfl ?_
        refine AX.iload_n rfl rfl ?_
        refine AX.iconstV (v := 1) rfl (by decide) ?_
        refine AX.iadd rfl ?_
        refine AX.sldN (c := i + 1) rfl (by omega) (by omega) i1 ?_
        refine AX.if_eq rfl (fun _ => ?_) (fun c => absurd hz c)
        refine AX.iconstV (v := 0) rfl (by decide) ?_
        refine AX.cVI rfl rfl rfl (M0 hm) (ok_pause hI hm _ (by decide)) (fun h hJ => ?_)
        refine AX.icmp_eq rfl (fun _ => ?_) (fun c => absurd rfl c)
        obtain ⟨y2, t2, hI2, hm2⟩ := hJ
        exact nxt _ _ _ _ hI2 (hback _ _ hm2)
      · refine AX.aload_n rfl rfl ?_
        refine AX.aload_nS rfl rfl ?_
        refine AX.iload_n rfl rfl ?_
        refine AX.iconstV (v := 1) rfl (by decide) ?_
        refine AX.iadd rfl ?_
        refine AX.sldN (c := i + 1) rfl (by omega) (by omega) i1 ?_
        refine AX.if_eq rfl (fun c => absurd c hz) (fun _ => ?_)
        refine AX.iconstV (v := 1) rfl (by decide) ?_
        refine AX.goto rfl ?_
        refine AX.cVI rfl rfl rfl (Q0 hq) (sQ_pause hq _ (by decide)) (fun h hq => ?_)
        obtain ⟨p, hm, hback⟩ := qm hq
        refine AX.aload_n rfl rfl ?_
        refine AX.aload_nS rfl rfl ?_
        refine AX.iload_n rfl rfl ?_
        refine AX.iconstV (v := 1) rfl (by decide) ?_
        refine AX.iadd rfl ?_
        refine AX.sldN (c := i + 1) rfl (by omega) (by omega) i1 ?_
        refine AX.if_eq rfl (fun c => absurd c hz) (fun _ => ?_)
        refine AX.iconstV (v := 1) rfl (by decide) ?_
        refine AX.goto rfl ?_
        refine AX.cVI rfl rfl rfl (M0 hm) (ok_pause hI hm _ (by decide)) (fun h hJ => ?_)
        refine AX.icmp_eq rfl (fun _ => ?_) (fun c => absurd rfl c)
        obtain ⟨y2, t2, hI2, hm2⟩ := hJ
        exact nxt _ _ _ _ hI2 (hback _ _ hm2)
    · refine AX.tsIn 291 rfl (by decide) (by decide) rfl (by decide) ?_
      refine AX.aload_n rfl rfl ?_
      refine AX.cVI rfl rfl rfl (Q0 hq) (sQ_step hq) (fun h hq => ?_)
      obtain ⟨p, hm, hback⟩ := qm hq
      refine AX.aload_n rfl rfl ?_
      refine AX.cVI rfl rfl rfl (M0 hm) (ok_step hI hm) (fun h hJ => ?_)
      refine AX.icmp_eq rfl (fun _ => ?_) (fun c => absurd rfl c)
      obtain ⟨y2, t2, hI2, hm2⟩ := hJ
      exact nxt _ _ _ _ hI2 (hback _ _ hm2)
    · refine AX.tsIn 304 rfl (by decide) (by decide) rfl (by decide) ?_
      by_cases hz : xs (i + 2) = 0
      · refine AX.aload_n rfl rfl ?_
        refine AX.aload_nS rfl rfl ?_
        refine AX.iload_n rfl rfl ?_
        refine AX.iconstV (v := 1) rfl (by decide) ?_
        refine AX.iadd rfl ?_
        refine AX.sldN (c := i + 1) rfl (by omega) (by omega) i1 ?_
        refine AX.aload_nS rfl rfl ?_
        refine AX.iload_n rfl rfl ?_
        refine AX.iconstV (v := 2) rfl (by decide) ?_
        refine AX.iadd rfl ?_
        refine AX.sldN (c := i + 2) rfl (by omega) (by omega) i2 ?_
        refine AX.if_eq rfl (fun _ => ?_) (fun c => absurd hz c)
        refine AX.iconstV (v := 0) rfl (by decide) ?_
        refine AX.cVI rfl rfl rfl (Q0 hq) (sQ_answer hq _ _) (fun h hq => ?_)
        obtain ⟨p, hm, hback⟩ := qm hq
        refine AX.aload_n rfl rfl ?_
        refine AX.aload_nS rfl rfl ?_
        refine AX.iload_n rfl rfl ?_
        refine AX.iconstV (v := 1) rfl (by decide) ?_
        refine AX.iadd rfl ?_
        refine AX.sldN (c := i + 1) rfl (by omega) (by omega) i1 ?_
        refine AX.aload_nS rfl rfl ?_
        refine AX.iload_n rfl rfl ?_
        refine AX.iconstV (v := 2) rfl (by decide) ?_
        refine AX.iadd rfl ?_
        refine AX.sldN (c := i + 2) rfl (by omega) (by omega) i2 ?_
        refine AX.if_eq rfl (fun _ => ?_) (fun c => absurd hz c)
        refine AX.iconstV (v := 0) rfl (by decide) ?_
        refine AX.cVI rfl rfl rfl (M0 hm) (ok_answer hI hm _ _) (fun h hJ => ?_)
        refine AX.icmp_eq rfl (fun _ => ?_) (fun c => absurd rfl c)
        obtain ⟨y2, t2, hI2, hm2⟩ := hJ
        exact nxt _ _ _ _ hI2 (hback _ _ hm2)
      · refine AX.aload_n rfl rfl ?_
        refine AX.aload_nS rfl rfl ?_
        refine AX.iload_n rfl rfl ?_
        refine AX.iconstV (v := 1) rfl (by decide) ?_
        refine AX.iadd rfl ?_
        refine AX.sldN (c := i + 1) rfl (by omega) (by omega) i1 ?_
        refine AX.aload_nS rfl rfl ?_
        refine AX.iload_n rfl rfl ?_
        refine AX.iconstV (v := 2) rfl (by decide) ?_
        refine AX.iadd rfl ?_
        refine AX.sldN (c := i + 2) rfl (by omega) (by omega) i2 ?_
        refine AX.if_eq rfl (fun c => absurd c hz) (fun _ => ?_)
        refine AX.iconstV (v := 1) rfl (by decide) ?_
        refine AX.goto rfl ?_
        refine AX.cVI rfl rfl rfl (Q0 hq) (sQ_answer hq _ _) (fun h hq => ?_)
        obtain ⟨p, hm, hback⟩ := qm hq
        refine AX.aload_n rfl rfl ?_
        refine AX.aload_nS rfl rfl ?_
        refine AX.iload_n rfl rfl ?_
        refine AX.iconstV (v := 1) rfl (by decide) ?_
        refine AX.iadd rfl ?_
        refine AX.sldN (c := i + 1) rfl (by omega) (by omega) i1 ?_
        refine AX.aload_nS rfl rfl ?_
        refine AX.iload_n rfl rfl ?_
        refine AX.iconstV (v := 2) rfl (by decide) ?_
        refine AX.iadd rfl ?_
        refine AX.sldN (c := i + 2) rfl (by omega) (by omega) i2 ?_
        refine AX.if_eq rfl (fun c => absurd c hz) (fun _ => ?_)
        refine AX.iconstV (v := 1) rfl (by decide) ?_
        refine AX.goto rfl ?_
        refine AX.cVI rfl rfl rfl (M0 hm) (ok_answer hI hm _ _) (fun h hJ => ?_)
        refine AX.icmp_eq rfl (fun _ => ?_) (fun c => absurd rfl c)
        obtain ⟨y2, t2, hI2, hm2⟩ := hJ
        exact nxt _ _ _ _ hI2 (hback _ _ hm2)
    · refine AX.tsIn 353 rfl (by decide) (by decide) rfl (by decide) ?_
      refine AX.aload_n rfl rfl ?_
      refine AX.cVI rfl rfl rfl (Q0 hq) (sQ_groups hq) (fun h hq => ?_)
      obtain ⟨p, hm, hback⟩ := qm hq
      refine AX.aload_n rfl rfl ?_
      refine AX.cVI rfl rfl rfl (M0 hm) (ok_groups hI hm) (fun h hJ => ?_)
      refine AX.icmp_eq rfl (fun _ => ?_) (fun c => absurd rfl c)
      obtain ⟨y2, t2, hI2, hm2⟩ := hJ
      exact nxt _ _ _ _ hI2 (hback _ _ hm2)
    · refine AX.tsIn 366 rfl (by decide) (by decide) rfl (by decide) ?_
      refine AX.aload_n rfl rfl ?_
      refine AX.aload_nS rfl rfl ?_
      refine AX.iload_n rfl rfl ?_
      refine AX.iconstV (v := 1) rfl (by decide) ?_
      refine AX.iadd rfl ?_
      refine AX.sldN (c := i + 1) rfl (by omega) (by omega) i1 ?_
      refine AX.aload_nS rfl rfl ?_
      refine AX.iload_n rfl rfl ?_
      refine AX.iconstV (v := 2) rfl (by decide) ?_
      refine AX.iadd rfl ?_
      refine AX.sldN (c := i + 2) rfl (by omega) (by omega) i2 ?_
      refine AX.cVI rfl rfl rfl (Q0 hq) (sQ_group hq _ _) (fun h hq => ?_)
      obtain ⟨p, hm, hback⟩ := qm hq
      refine AX.aload_n rfl rfl ?_
      refine AX.aload_nS rfl rfl ?_
      refine AX.iload_n rfl rfl ?_
      refine AX.iconstV (v := 1) rfl (by decide) ?_
      refine AX.iadd rfl ?_
      refine AX.sldN (c := i + 1) rfl (by omega) (by omega) i1 ?_
      refine AX.aload_nS rfl rfl ?_
      refine AX.iload_n rfl rfl ?_
      refine AX.iconstV (v := 2) rfl (by decide) ?_
      refine AX.iadd rfl ?_
      refine AX.sldN (c := i + 2) rfl (by omega) (by omega) i2 ?_
      refine AX.cVI rfl rfl rfl (M0 hm) (ok_group hI hm _ _) (fun h hJ => ?_)
      refine AX.icmp_eq rfl (fun _ => ?_) (fun c => absurd rfl c)
      obtain ⟨y2, t2, hI2, hm2⟩ := hJ
      exact nxt _ _ _ _ hI2 (hback _ _ hm2)
    · refine AX.tsIn 399 rfl (by decide) (by decide) rfl (by decide) ?_
      refine AX.aload_n rfl rfl ?_
      refine AX.aload_nS rfl rfl ?_
      refine AX.iload_n rfl rfl ?_
      refine AX.iconstV (v := 1) rfl (by decide) ?_
      refine AX.iadd rfl ?_
      refine AX.sldN (c := i + 1) rfl (by omega) (by omega) i1 ?_
      refine AX.aload_nS rfl rfl ?_
      refine AX.iload_n rfl rfl ?_
      refine AX.iconstV (v := 2) rfl (by decide) ?_
      refine AX.iadd rfl ?_
      refine AX.sldN (c := i + 2) rfl (by omega) (by omega) i2 ?_
      refine AX.cVI rfl rfl rfl (Q0 hq) (sQ_member hq _ _) (fun h hq => ?_)
      obtain ⟨p, hm, hback⟩ := qm hq
      refine AX.aload_n rfl rfl ?_
      refine AX.aload_nS rfl rfl ?_
      refine AX.iload_n rfl rfl ?_
      refine AX.iconstV (v := 1) rfl (by decide) ?_
      refine AX.iadd rfl ?_
      refine AX.sldN (c := i + 1) rfl (by omega) (by omega) i1 ?_
      refine AX.aload_nS rfl rfl ?_
      refine AX.iload_n rfl rfl ?_
      refine AX.iconstV (v := 2) rfl (by decide) ?_
      refine AX.iadd rfl ?_
      refine AX.sldN (c := i + 2) rfl (by omega) (by omega) i2 ?_
      refine AX.cVI rfl rfl rfl (M0 hm) (ok_member hI hm _ _) (fun h hJ => ?_)
      refine AX.icmp_eq rfl (fun _ => ?_) (fun c => absurd rfl c)
      obtain ⟨y2, t2, hI2, hm2⟩ := hJ
      exact nxt _ _ _ _ hI2 (hback _ _ hm2)
    · refine AX.tsIn 432 rfl (by decide) (by decide) rfl (by decide) ?_
      refine AX.aload_n rfl rfl ?_
      refine AX.aload_nS rfl rfl ?_
      refine AX.iload_n rfl rfl ?_
      refine AX.iconstV (v := 1) rfl (by decide) ?_
      refine AX.iadd rfl ?_
      refine AX.sldN (c := i + 1) rfl (by omega) (by omega) i1 ?_
      refine AX.cVI rfl rfl rfl (Q0 hq) (sQ_waiting hq _) (fun h hq => ?_)
      obtain ⟨p, hm, hback⟩ := qm hq
      refine AX.aload_n rfl rfl ?_
      refine AX.aload_nS rfl rfl ?_
      refine AX.iload_n rfl rfl ?_
      refine AX.iconstV (v := 1) rfl (by decide) ?_
      refine AX.iadd rfl ?_
      refine AX.sldN (c := i + 1) rfl (by omega) (by omega) i1 ?_
      refine AX.cVI rfl rfl rfl (M0 hm) (ok_waiting hI hm _) (fun h hJ => ?_)
      refine AX.icmp_eq rfl (fun _ => ?_) (fun c => absurd rfl c)
      obtain ⟨y2, t2, hI2, hm2⟩ := hJ
      exact nxt _ _ _ _ hI2 (hback _ _ hm2)
    · refine AX.tsIn 455 rfl (by decide) (by decide) rfl (by decide) ?_
      refine AX.aload_n rfl rfl ?_
      refine AX.aload_nS rfl rfl ?_
      refine AX.iload_n rfl rfl ?_
      refine AX.iconstV (v := 1) rfl (by decide) ?_
      refine AX.iadd rfl ?_
      refine AX.sldN (c := i + 1) rfl (by omega) (by omega) i1 ?_
      refine AX.cVI rfl rfl rfl (Q0 hq) (sQ_landed hq _) (fun h hq => ?_)
      obtain ⟨p, hm, hback⟩ := qm hq
      refine AX.aload_n rfl rfl ?_
      refine AX.aload_nS rfl rfl ?_
      refine AX.iload_n rfl rfl ?_
      refine AX.iconstV (v := 1) rfl (by decide) ?_
      refine AX.iadd rfl ?_
      refine AX.sldN (c := i + 1) rfl (by omega) (by omega) i1 ?_
      refine AX.cVI rfl rfl rfl (M0 hm) (ok_landed hI hm _) (fun h hJ => ?_)
      refine AX.icmp_eq rfl (fun _ => ?_) (fun c => absurd rfl c)
      obtain ⟨y2, t2, hI2, hm2⟩ := hJ
      exact nxt _ _ _ _ hI2 (hback _ _ hm2)
    · refine AX.tsIn 478 rfl (by decide) (by decide) rfl (by decide) ?_
      refine AX.aload_n rfl rfl ?_
      refine AX.aload_nS rfl rfl ?_
      refine AX.iload_n rfl rfl ?_
      refine AX.iconstV (v := 1) rfl (by decide) ?_
      refine AX.iadd rfl ?_
      refine AX.sldN (c := i + 1) rfl (by omega) (by omega) i1 ?_
      refine AX.cVI rfl rfl rfl (Q0 hq) (sQ_where hq _) (fun h hq => ?_)
      obtain ⟨p, hm, hback⟩ := qm hq
      refine AX.aload_n rfl rfl ?_
      refine AX.aload_nS rfl rfl ?_
      refine AX.iload_n rfl rfl ?_
      refine AX.iconstV (v := 1) rfl (by decide) ?_
      refine AX.iadd rfl ?_
      refine AX.sldN (c := i + 1) rfl (by omega) (by omega) i1 ?_
      refine AX.cVI rfl rfl rfl (M0 hm) (ok_where hI hm _) (fun h hJ => ?_)
      refine AX.icmp_eq rfl (fun _ => ?_) (fun c => absurd rfl c)
      obtain ⟨y2, t2, hI2, hm2⟩ := hJ
      exact nxt _ _ _ _ hI2 (hback _ _ hm2)
    · refine AX.tsIn 501 rfl (by decide) (by decide) rfl (by decide) ?_
      refine AX.aload_n rfl rfl ?_
      refine AX.aload_nS rfl rfl ?_
      refine AX.iload_n rfl rfl ?_
      refine AX.iconstV (v := 1) rfl (by decide) ?_
      refine AX.iadd rfl ?_
      refine AX.sldN (c := i + 1) rfl (by omega) (by omega) i1 ?_
      refine AX.cVI rfl rfl rfl (Q0 hq) (sQ_why hq _) (fun h hq => ?_)
      obtain ⟨p, hm, hback⟩ := qm hq
      refine AX.aload_n rfl rfl ?_
      refine AX.aload_nS rfl rfl ?_
      refine AX.iload_n rfl rfl ?_
      refine AX.iconstV (v := 1) rfl (by decide) ?_
      refine AX.iadd rfl ?_
      refine AX.sldN (c := i + 1) rfl (by omega) (by omega) i1 ?_
      refine AX.cVI rfl rfl rfl (M0 hm) (ok_why hI hm _) (fun h hJ => ?_)
      refine AX.icmp_eq rfl (fun _ => ?_) (fun c => absurd rfl c)
      obtain ⟨y2, t2, hI2, hm2⟩ := hJ
      exact nxt _ _ _ _ hI2 (hback _ _ hm2)
    · refine AX.tsIn 524 rfl (by decide) (by decide) rfl (by decide) ?_
      refine AX.aload_n rfl rfl ?_
      refine AX.aload_nS rfl rfl ?_
      refine AX.iload_n rfl rfl ?_
      refine AX.iconstV (v := 1) rfl (by decide) ?_
      refine AX.iadd rfl ?_
      refine AX.sldN (c := i + 1) rfl (by omega) (by omega) i1 ?_
      refine AX.cVI rfl rfl rfl (Q0 hq) (sQ_by hq _) (fun h hq => ?_)
      obtain ⟨p, hm, hback⟩ := qm hq
      refine AX.aload_n rfl rfl ?_
      refine AX.aload_nS rfl rfl ?_
      refine AX.iload_n rfl rfl ?_
      refine AX.iconstV (v := 1) rfl (by decide) ?_
      refine AX.iadd rfl ?_
      refine AX.sldN (c := i + 1) rfl (by omega) (by omega) i1 ?_
      refine AX.cVI rfl rfl rfl (M0 hm) (ok_by hI hm _) (fun h hJ => ?_)
      refine AX.icmp_eq rfl (fun _ => ?_) (fun c => absurd rfl c)
      obtain ⟨y2, t2, hI2, hm2⟩ := hJ
      exact nxt _ _ _ _ hI2 (hback _ _ hm2)
    · refine AX.tsIn 547 rfl (by decide) (by decide) rfl (by decide) ?_
      refine AX.aload_n rfl rfl ?_
      refine AX.aload_nS rfl rfl ?_
      refine AX.iload_n rfl rfl ?_
      refine AX.iconstV (v := 1) rfl (by decide) ?_
      refine AX.iadd rfl ?_
      refine AX.sldN (c := i + 1) rfl (by omega) (by omega) i1 ?_
      refine AX.cVI rfl rfl rfl (Q0 hq) (sQ_counted hq _) (fun h hq => ?_)
      obtain ⟨p, hm, hback⟩ := qm hq
      refine AX.aload_n rfl rfl ?_
      refine AX.aload_nS rfl rfl ?_
      refine AX.iload_n rfl rfl ?_
      refine AX.iconstV (v := 1) rfl (by decide) ?_
      refine AX.iadd rfl ?_
      refine AX.sldN (c := i + 1) rfl (by omega) (by omega) i1 ?_
      refine AX.cVI rfl rfl rfl (M0 hm) (ok_counted hI hm _) (fun h hJ => ?_)
      refine AX.icmp_eq rfl (fun _ => ?_) (fun c => absurd rfl c)
      obtain ⟨y2, t2, hI2, hm2⟩ := hJ
      exact nxt _ _ _ _ hI2 (hback _ _ hm2)
end LW
end
section
/-! THE LAW FROM ITS BEGINNING -/
section SA
variable {d : Nat} {h : ax_H}
theorem near_nI (v : Int32) {T : Nat} (h1 : 1 ≤ T) (h2 : T ≤ 8) : ∃ m, near v (nI T) = nI m ∧ 1 ≤ m ∧ m ≤ T := by
  unfold near
  by_cases a : nI T < v
  · rw [if_pos a]
    by_cases b : (1 : Int32) < nI T
    · rw [if_pos b]; exact ⟨T, rfl, h1, Nat.le_refl _⟩
    · rw [if_neg b]; exact ⟨1, rfl, Nat.le_refl _, h1⟩
  · rw [if_neg a]
    by_cases b : (1 : Int32) < v
    · rw [if_pos b]
      have hv : ¬ v < 0 := fun q => absurd (Int32.lt_trans b q) (by decide)
      obtain ⟨j, j1, j2, j3⟩ := i_pos hv
      rw [j2] at a b
      rw [nI_ltI (by omega) j1] at a
      have b2 : nI 1 < nI j := b
      rw [nI_ltI (by decide) j1] at b2
      exact ⟨j, j2, by omega, by omega⟩
    · rw [if_neg b]; exact ⟨1, rfl, Nat.le_refl _, h1⟩
def yI : yT := (fun _ => 0, fun _ _ => 0, fun _ _ => false, fun _ => [], [])
theorem INV.start (a b c : Int32) : INV yI (zI a b c) (tI a b c) := by
  refine ⟨?_, ?_, ?_, ?_⟩
  · refine ⟨Nat.zero_le _, fun c hc => absurd hc (Nat.not_lt_zero _), fun c hc => absurd hc (Nat.not_lt_zero _), rfl, List.Pairwise.nil, ?_, List.nodup_nil, ?_, ?_, List.nodup_nil, ?_, ?_, ?_, ?_, ?_⟩
    · intro c; exact ⟨fun h => absurd h List.not_mem_nil, fun h => absurd h.1 (Nat.not_lt_zero _)⟩
    · intro c; exact ⟨fun h => absurd h List.not_mem_nil, fun h => absurd h.1 (Nat.not_lt_zero _)⟩
    · intro g hg; cases hg
    · intro c; exact ⟨fun h => absurd h List.not_mem_nil, fun h => absurd h.1 (Nat.not_lt_zero _)⟩
    · intro g hg; cases hg
    · intro a b h; cases h
    · intro a b; rfl
    · intro c hc; exact absurd hc (Nat.not_lt_zero _)
  · refine ⟨rfl, rfl, rfl, rfl, rfl, rfl, rfl, rfl, rfl, rfl, rfl, rfl, rfl, ?_⟩
    intro i j hi hj
    rw [zConf_bit _ hi hj]
    show ((0 : Int64).toBitVec).getLsbD j = false
    simp
  · refine ⟨⟨rfl, rfl, rfl, rfl⟩, ⟨rfl, Nat.zero_le _, rfl, fun i hi => absurd hi (Nat.not_lt_zero _)⟩, fun i hi => absurd hi (Nat.not_lt_zero _), fun _ _ _ _ => rfl, fun i hi => absurd hi (Nat.not_lt_zero _), fun _ _ _ => ⟨rfl, rfl, rfl⟩, fun i hi => absurd hi (Nat.not_lt_zero _)⟩
  · exact ⟨rfl, rfl, rfl, rfl, rfl, rfl, rfl, fun i hi => absurd hi (Nat.not_lt_zero _), Or.inl rfl, near_nI a (T := 8) (by decide) (by decide), near_nI b (T := 4) (by decide) (by decide), near_nI c (T := 3) (by decide) (by decide)⟩
theorem sL_cell {L : Nat} {xs : Nat → Int32} (hL : L ≤ 1539) (c : Nat) (hc : c < 3) : AM d kL_cell 0 0 (some (L, xs)) [.retAddr 0, .int (nI c)] h (fun r h' => r = some (.int (if c < L then xs c else 0)) ∧ h' = h) := by
  refine AX.iload_n rfl rfl ?_
  refine AX.aload_nS rfl rfl ?_
  refine AX.slen rfl ?_
  refine AX.icmp_ge rfl (fun q => ?_) (fun q => ?_)
  · have hn : ¬ c < L := fun e => absurd q (show ¬ nI L ≤ nI c from nI_ge e (by omega))
    refine AX.iconstV (v := 0) rfl (by decide) ?_
    exact AX.ireturn rfl rfl ⟨by rw [if_neg hn], rfl⟩ (by decide) (by decide)
  · have hn : c < L := by
      rcases Nat.lt_or_ge c L with e | e
      · exact e
      · exact absurd (show nI L ≤ nI c from nI_le e (by omega)) q
    refine AX.aload_nS rfl rfl ?_
    refine AX.iload_n rfl rfl ?_
    refine AX.sldN (c := c) rfl hn (by omega) rfl ?_
    refine AX.goto rfl ?_
    exact AX.ireturn rfl rfl ⟨by rw [if_pos hn], rfl⟩ (by decide) (by decide)
theorem law_start {L : Nat} {xs : Nat → Int32} (hL : L ≤ 1539) : AX (d + 6) kL_law 41 2631 (some (L, xs)) 0 [(0, .retAddr 0)] [] [] 0 0 lawF := by
  refine AX.new rfl rfl rfl (by decide) (by decide) ?_
  refine AX.dup rfl rfl ?_
  refine AX.aload_nS rfl rfl ?_
  refine AX.iconstV (v := 0) rfl (by decide) ?_
  refine AX.callS rfl (by decide) rfl rfl (Nat.le_of_ble_eq_true rfl) (sL_cell (d := d + 5) hL 0 (by decide)) (Or.inr rfl) (by decide) (by decide) (Nat.le_of_ble_eq_true rfl) (Or.inl rfl) (fun r h' q => ?_)
  obtain ⟨rfl, rfl⟩ := q
  refine AX.aload_nS rfl rfl ?_
  refine AX.iconstV (v := 1) rfl (by decide) ?_
  refine AX.callS rfl (by decide) rfl rfl (Nat.le_of_ble_eq_true rfl) (sL_cell (d := d + 5) hL 1 (by decide)) (Or.inr rfl) (by decide) (by decide) (Nat.le_of_ble_eq_true rfl) (Or.inl rfl) (fun r h' q => ?_)
  obtain ⟨rfl, rfl⟩ := q
  refine AX.aload_nS rfl rfl ?_
  refine AX.iconstV (v := 2) rfl (by decide) ?_
  refine AX.callS rfl (by decide) rfl rfl (Nat.le_of_ble_eq_true rfl) (sL_cell (d := d + 5) hL 2 (by decide)) (Or.inr rfl) (by decide) (by decide) (Nat.le_of_ble_eq_true rfl) (Or.inl rfl) (fun r h' q => ?_)
  obtain ⟨rfl, rfl⟩ := q
  refine AX.callI rfl (by decide) rfl rfl (Nat.le_of_ble_eq_true rfl) (sQ_init (d := d + 2) (if 0 < L then xs 0 else 0) (if 1 < L then xs 1 else 0) (if 2 < L then xs 2 else 0)) (Or.inl rfl) (by decide) (by decide) (Nat.le_of_ble_eq_true rfl) (Or.inr rfl) (fun r h' q => ?_)
  obtain ⟨rfl, rfl⟩ := q
  refine AX.astore_n rfl (by decide) ?_
  refine AX.new rfl rfl rfl (by decide) (by decide) ?_
  refine AX.dup rfl rfl ?_
  refine AX.aload_nS rfl rfl ?_
  refine AX.iconstV (v := 0) rfl (by decide) ?_
  refine AX.callS rfl (by decide) rfl rfl (Nat.le_of_ble_eq_true rfl) (sL_cell (d := d + 5) hL 0 (by decide)) (Or.inr rfl) (by decide) (by decide) (Nat.le_of_ble_eq_true rfl) (Or.inl rfl) (fun r h' q => ?_)
  obtain ⟨rfl, rfl⟩ := q
  refine AX.aload_nS rfl rfl ?_
  refine AX.iconstV (v := 1) rfl (by decide) ?_
  refine AX.callS rfl (by decide) rfl rfl (Nat.le_of_ble_eq_true rfl) (sL_cell (d := d + 5) hL 1 (by decide)) (Or.inr rfl) (by decide) (by decide) (Nat.le_of_ble_eq_true rfl) (Or.inl rfl) (fun r h' q => ?_)
  obtain ⟨rfl, rfl⟩ := q
  refine AX.aload_nS rfl rfl ?_
  refine AX.iconstV (v := 2) rfl (by decide) ?_
  refine AX.callS rfl (by decide) rfl rfl (Nat.le_of_ble_eq_true rfl) (sL_cell (d := d + 5) hL 2 (by decide)) (Or.inr rfl) (by decide) (by decide) (Nat.le_of_ble_eq_true rfl) (Or.inl rfl) (fun r h' q => ?_)
  obtain ⟨rfl, rfl⟩ := q
  refine AX.callI rfl (by decide) rfl rfl (Nat.le_of_ble_eq_true rfl) (sM_init (d := d + 3) (if 0 < L then xs 0 else 0) (if 1 < L then xs 1 else 0) (if 2 < L then xs 2 else 0)) (Or.inl rfl) (by decide) (by decide) (Nat.le_of_ble_eq_true rfl) (Or.inr rfl) (fun r h' q => ?_)
  obtain ⟨rfl, rfl⟩ := q
  refine AX.astore_n rfl (by decide) ?_
  refine AX.iconstV (v := 3) rfl (by decide) ?_
  refine AX.istore_n rfl (by decide) ?_
  exact law_l hL L 3 yI _ _ _ (INV.start _ _ _) ⟨fun _ _ => 0, fun r _ => ⟨Nat.zero_le _, fun i hi => absurd hi (Nat.not_lt_zero _)⟩, rfl⟩ (by omega) (by decide) (by decide)
end SA
end
