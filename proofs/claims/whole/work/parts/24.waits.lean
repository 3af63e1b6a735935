/-! THE QUEUE: in, out; a new change; a turn; out by a reason; who clashes -/
section QU
variable {y : yT} {z : zS} {t : mS}
def WB (y : yT) : Prop := yn y ≤ 40 ∧ (∀ c, c < yn y → yrk y c ≤ 9 ∧ ypl y c ≤ 3 ∧ ywy y c ≤ 3 ∧ yts y c ≤ 40 ∧ ytn y c ≤ 40) ∧ (∀ c ∈ yQ y, c < yn y)
theorem WF.wb (hW : WF y) : WB y := ⟨hW.1, hW.2.1, fun c hc => ((hW.2.2.2.2.2.1 c).mp hc).1⟩
theorem zfront_y (hC : RC y z) (hB : WB y) {a b : Nat} (ha : a < yn y) (hb : b < yn y) : zC_isInFront z (nI a) (nI b) = yBef y a b := by
  obtain ⟨hn, hb9, -⟩ := hB
  have wa := hb9 a ha
  have wb := hb9 b hb
  have r4 : ∀ c, c < yn y → zat z 4 (nI c) = nI (ytn y c) := fun c hc => by
    rw [zat, hC.2.2.2.1, rAt_range hn, if_pos (by rw [isC_nI hn (by omega)]; simpa using hc), nI_clamp (by omega)]
  have r0 : ∀ c, c < yn y → zat z 0 (nI c) = nI (yrk y c) := fun c hc => by
    rw [zat, hC.1, rAt_range hn, if_pos (by rw [isC_nI hn (by omega)]; simpa using hc), nI_clamp (by omega)]
  unfold zC_isInFront yBef
  rw [r4 a ha, r4 b hb, r0 a ha, r0 b hb]
  have e1 : (nI (ytn y a) = nI (ytn y b)) ↔ ytn y a = ytn y b := nI_eq (by omega) (by omega)
  have e2 : (nI (yrk y a) = nI (yrk y b)) ↔ yrk y a = yrk y b := nI_eq (by omega) (by omega)
  have d3 : decide (nI b ≤ nI a) = decide (b ≤ a) := decide_eq_decide.mpr (nI_leI (by omega) (by omega))
  have d4 : decide (nI (yrk y a) ≤ nI (yrk y b)) = decide (yrk y a ≤ yrk y b) := decide_eq_decide.mpr (nI_leI (by omega) (by omega))
  have d5 : decide (nI (ytn y b) ≤ nI (ytn y a)) = decide (ytn y b ≤ ytn y a) := decide_eq_decide.mpr (nI_leI (by omega) (by omega))
  rw [d3, d4, d5]
  by_cases h1 : ytn y a = ytn y b
  · rw [if_pos (e1.mpr h1), if_pos h1]
    by_cases h2 : yrk y a = yrk y b
    · rw [if_pos (e2.mpr h2), if_pos h2]
      by_cases h3 : b ≤ a
      · simp [h3]
      · simp [h3]; omega
    · rw [if_neg (fun q => h2 (e2.mp q)), if_neg h2]
      by_cases h3 : yrk y a ≤ yrk y b
      · simp [h3]
      · simp [h3]; omega
  · rw [if_neg (fun q => h1 (e1.mp q)), if_neg h1]
    by_cases h3 : ytn y b ≤ ytn y a
    · simp [h3]
    · simp [h3]; omega
def yPos (y : yT) (c : Nat) : Nat := ((yQ y).takeWhile (fun a => yBef y a c)).length
def yEnq (y : yT) (c : Nat) : yT := ylst y 0 ((yQ y).insertIdx (yPos y c) c)
theorem yPos_le (y : yT) (c : Nat) : yPos y c ≤ (yQ y).length := by
  unfold yPos
  exact (List.takeWhile_prefix _).length_le
theorem q_at (hC : RC y z) (hl : (yQ y).length ≤ 40) {m : Nat} (hm : m < (yQ y).length) : zat z 6 (nI m) = nI ((yQ y).getD m 0) := by
  rw [zat, hC.R6, rAt_map 0 hl, if_pos (by rw [isC_nI hl (by omega)]; simpa using hm), nI_clamp (by omega)]
theorem zEnq_y (hC : RC y z) (hB : WB y) (hl : (yQ y).length ≤ 40) {c : Nat} (hc : c < yn y) : ∀ (n m : Nat), (yQ y).length = m + n → zEnq z (nI c) n m = nI (m + (((yQ y).drop m).takeWhile (fun a => yBef y a c)).length) := by
  intro n
  induction n with
  | zero => intro m h; rw [List.drop_eq_nil_of_le (by omega)]; rfl
  | succ n ih =>
    intro m h
    have hm : m < (yQ y).length := by omega
    rw [zEnq, q_at hC hl hm, zfront_y hC hB (hB.2.2 _ (getD_mem hm)) hc, drop_getD (x := 0) hm, List.takeWhile_cons, ih (m + 1) (by omega)]
    by_cases hq : yBef y ((yQ y).getD m 0) c = true
    · rw [if_pos hq, if_pos hq, List.length_cons]
      congr 1
      omega
    · rw [if_neg hq, if_neg hq]
      rfl
theorem RC.enq (hC : RC y z) (hB : WB y) (hl : (yQ y).length < 40) {c : Nat} (hc : c < yn y) : RC (yEnq y c) (zQ_enq z (nI c)) := by
  have h := zEnq_y hC hB (by omega) hc (yQ y).length 0 (by omega)
  rw [Nat.zero_add, List.drop_zero] at h
  refine RC.Q hC _ ?_
  rw [hC.R6, List.length_map, h]
  exact rIns_map hl (yPos_le y c)
theorem ins_eq {l : List Nat} {q : Nat → Bool} {c : Nat} : l.insertIdx (l.takeWhile q).length c = l.takeWhile q ++ c :: l.dropWhile q := by
  induction l with
  | nil => rfl
  | cons a l ih =>
    rw [List.takeWhile_cons, List.dropWhile_cons]
    by_cases h : q a = true
    · rw [if_pos h, if_pos h, List.length_cons, List.insertIdx_succ_cons, ih]
      rfl
    · rw [if_neg h, if_neg h]
      rfl
theorem enq_sorted {y : yT} {l : List Nat} {c : Nat} (hs : l.Pairwise (fun a b => yBef y a b = true)) (hc : c ∉ l) : (l.insertIdx (l.takeWhile (fun a => yBef y a c)).length c).Pairwise (fun a b => yBef y a b = true) := by
  rw [ins_eq]
  induction l with
  | nil => simp
  | cons a l ih =>
    have hs2 := List.pairwise_cons.mp hs
    rw [List.takeWhile_cons, List.dropWhile_cons]
    by_cases h : yBef y a c = true
    · rw [if_pos h, if_pos h, List.cons_append]
      refine List.pairwise_cons.mpr ⟨?_, ih hs2.2 (fun q => hc (List.mem_cons_of_mem _ q))⟩
      intro b hb
      rcases List.mem_append.mp hb with hb | hb
      · exact hs2.1 b ((List.takeWhile_prefix _).subset hb)
      · rcases List.mem_cons.mp hb with rfl | hb
        · exact h
        · exact hs2.1 b ((List.dropWhile_suffix _).subset hb)
    · rw [if_neg h, if_neg h, List.nil_append]
      have hca : yBef y c a = true := yBef_tot (fun e => hc (by rw [e]; exact List.mem_cons_self)) h
      refine List.pairwise_cons.mpr ⟨?_, hs⟩
      intro b hb
      rcases List.mem_cons.mp hb with rfl | hb
      · exact hca
      · exact yBef_trans hca (hs2.1 b hb)
theorem enq_mem {l : List Nat} {k c x : Nat} (hk : k ≤ l.length) : x ∈ l.insertIdx k c ↔ x = c ∨ x ∈ l := List.mem_insertIdx hk
def yDeq (y : yT) (c : Nat) : yT := ylst y 0 ((yQ y).erase c)
theorem RC.deq (hC : RC y z) (hl : (yQ y).length ≤ 40) (hb : ∀ x ∈ yQ y, x < 40) {c : Nat} (hc : c ∈ yQ y) : RC (yDeq y c) (zQ_deq z (nI c)) := by
  have hi : (yQ y).idxOf c < (yQ y).length := List.idxOf_lt_length_iff.mpr hc
  refine RC.Q hC _ ?_
  rw [hC.R6, rFind_map hl hb hc, rRem_map hl hi, List.erase_eq_eraseIdx_of_idxOf rfl]
/-- out, by a reason -/
def yOut (y : yT) (c r : Nat) : yT := yup (yup y 1 c 3) 2 c r
theorem RC.out (hC : RC y z) {c r : Nat} (hn : yn y ≤ 40) (hc : c < yn y) : RC (yOut y c r) (zC_putOut z (nI c) (nI r)) := RC.wy (RC.pl hC hn hc) hn hc
/-- a turn -/
def yTurn (y : yT) (c : Nat) : yT := (va_up y.1 1 (ytg y + 1), (yup y 4 c (ytg y)).2)
theorem RC.turn (hC : RC y z) {c : Nat} (hn : yn y ≤ 40) (hc : c < yn y) : RC (yTurn y c) (zC_giveTurn z (nI c)) := by
  have h := RC.tn hC (v := ytg y) hn hc
  rw [← hC.tg] at h
  rw [RC_iff] at h ⊢
  obtain ⟨a, b, e, f⟩ := h
  refine ⟨fun r h1 h2 => (a r h1 h2).trans ?_, b, ?_, f⟩
  · rcases (show r = 0 ∨ r = 2 ∨ r = 3 ∨ r = 4 ∨ r = 5 ∨ r = 6 ∨ r = 7 ∨ r = 8 ∨ r = 9 ∨ r = 10 ∨ r = 11 by omega) with rfl | rfl | rfl | rfl | rfl | rfl | rfl | rfl | rfl | rfl | rfl <;> rfl
  · show z.1 6 + 1 = nI (ytg y + 1)
    rw [hC.tg, nI_1]
/-- who clashes with the tree -/
def yCl (y : yT) (c : Nat) : Bool := (yTr y).any (fun a => ycf y a c)
theorem yFC_cl (hW : WF y) (c : Nat) : yFC (ycf y) (yTr y) c = -1 ↔ yCl y c = false := by
  unfold yFC yCl
  cases hq : (yTr y).find? (fun a => ycf y a c) with
  | none =>
    rw [List.find?_eq_none] at hq
    constructor
    · intro _
      rw [List.any_eq_false]
      exact hq
    · intro _; rfl
  | some a =>
    have h1 := List.mem_of_find?_eq_some hq
    have h2 := List.find?_some hq
    have h3 := ((hW.2.2.2.2.2.2.2.1 a).mp h1).1
    have hn := hW.1
    constructor
    · intro e
      exfalso
      have h4 := nI_pos' (show a < 2 ^ 31 by omega)
      have e2 : nI a = -1 := e
      rw [e2] at h4
      exact absurd h4 (by decide)
    · intro e
      rw [List.any_eq_false] at e
      exact absurd h2 (e a h1)
def ySend (y : yT) : yT := (y.1, va_up (va_up y.2.1 1 (fun c => if c ∈ yQ y ∧ yCl y c = true then 3 else ypl y c)) 2 (fun c => if c ∈ yQ y ∧ yCl y c = true then 2 else ywy y c), y.2.2.1, va_up y.2.2.2.1 0 ((yQ y).filter (fun c => !yCl y c)), y.2.2.2.2)
end QU
