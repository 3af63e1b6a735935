/-! THOSE THAT CLASH GO OUT -/
section SE
variable {y : yT} {z : zS} {t : mS}
theorem RC.cong {y y' : yT} {z : zS} (hC : RC y z) (hr : ∀ r, r < 12 → r ≠ 1 → rowY y' r = rowY y r) (hn : yn y' = yn y) (ht : ytg y' = ytg y) (hcf : ycf y' = ycf y) : RC y' z := by
  rw [RC_iff] at hC ⊢
  obtain ⟨a, b, c, e⟩ := hC
  exact ⟨fun r q1 q2 => (a r q1 q2).trans (hr r q1 q2).symm, by rw [b, hn], by rw [ht]; exact c, by rw [hcf]; exact e⟩
def ySendN (y : yT) (m : Nat) : yT := (y.1, va_up (va_up y.2.1 1 (fun c => if c ∈ (yQ y).drop m ∧ yCl y c = true then 3 else ypl y c)) 2 (fun c => if c ∈ (yQ y).drop m ∧ yCl y c = true then 2 else ywy y c), y.2.2.1, va_up y.2.2.2.1 0 ((yQ y).take m ++ ((yQ y).drop m).filter (fun c => !yCl y c)), y.2.2.2.2)
theorem zSend_y (hW : WF y) : ∀ (n : Nat) (z : zS), n ≤ (yQ y).length → RC (ySendN y n) z → RC (ySendN y 0) (zSend n z) := by
  have hql := hW.ql
  have hn40 := hW.1
  intro n
  induction n with
  | zero => intro z _ h; exact h
  | succ n ih =>
    intro z hn hC
    have hm : n < (yQ y).length := by omega
    have hd := drop_getD (l := yQ y) (m := n) (x := 0) hm
    have hcQ : (yQ y).getD n 0 ∈ yQ y := getD_mem hm
    generalize hc : (yQ y).getD n 0 = c at hd hcQ
    have hcn := ((hW.2.2.2.2.2.1 c).mp hcQ).1
    have hlen : (yQ (ySendN y (n + 1))).length ≤ 40 := by
      show ((yQ y).take (n + 1) ++ ((yQ y).drop (n + 1)).filter (fun c => !yCl y c)).length ≤ 40
      rw [List.length_append, List.length_take]
      have := List.length_filter_le (fun c => !yCl y c) ((yQ y).drop (n + 1))
      rw [List.length_drop] at this
      omega
    have htake : (yQ y).take (n + 1) = (yQ y).take n ++ [c] := by
      rw [List.take_succ, List.getElem?_eq_getElem hm]
      congr 1
      rw [List.getD_eq_getElem?_getD, List.getElem?_eq_getElem hm] at hc
      simpa using hc
    have hQn : yQ (ySendN y (n + 1)) = (yQ y).take n ++ c :: ((yQ y).drop (n + 1)).filter (fun c => !yCl y c) := by
      show (yQ y).take (n + 1) ++ _ = _
      rw [htake, List.append_assoc]
      rfl
    have hlt : ((yQ y).take n).length = n := by rw [List.length_take]; omega
    have hat : zat z 6 (nI n) = nI c := by
      have h1 : n < (yQ (ySendN y (n + 1))).length := by rw [hQn, List.length_append, hlt, List.length_cons]; omega
      rw [q_at hC hlen h1, hQn, List.getD_eq_getElem?_getD, List.getElem?_append_right (by omega), hlt, Nat.sub_self]
      rfl
    have hfc : zQ_fc z (nI c) = yFC (ycf y) (yTr y) c := by
      have hT7 : z.2.1 7 = (yTr y).map nI := hC.R7
      have h2 : ∀ (k m : Nat), (yTr y).length = m + k → zFC z (nI c) k m = yFC (ycf y) ((yTr y).drop m) c := by
        intro k
        induction k with
        | zero => intro m h; rw [List.drop_eq_nil_of_le (by omega)]; rfl
        | succ k ihk =>
          intro m h
          have hml : m < (yTr y).length := by omega
          have ht4 := RM.tr4 hW
          have e7 : zat z 7 (nI m) = nI ((yTr y).getD m 0) := by
            rw [zat, hT7, rAt_map 0 ht4, if_pos (by rw [isC_nI ht4 (by omega)]; simpa using hml), nI_clamp (by omega)]
          have e8 : zConf z (nI c) (nI ((yTr y).getD m 0)) = ycf y ((yTr y).getD m 0) c := by
            rw [hC.cf c _ (by omega) (tr_lt hW hml)]
            exact hW.2.2.2.2.2.2.2.2.2.2.2.2.2.1 _ _
          rw [zFC, e7, e8, drop_getD (x := 0) hml, ihk (m + 1) (by omega)]
          unfold yFC
          rw [List.find?_cons]
          by_cases hq : ycf y ((yTr y).getD m 0) c = true
          · rw [if_pos hq, hq]
          · rw [if_neg hq]
            have hq2 : ycf y ((yTr y).getD m 0) c = false := by simpa using hq
            rw [hq2]
      rw [zQ_fc, hT7, List.length_map]
      exact h2 _ 0 (by omega)
    rw [zSend]
    refine ih _ (by omega) ?_
    unfold zSend1
    rw [hat, hfc]
    by_cases hcl : yFC (ycf y) (yTr y) c = -1
    · rw [if_pos hcl]
      have hcl2 := (yFC_cl hW c).mp hcl
      refine RC.cong hC ?_ rfl rfl rfl
      have hmem : ∀ j, (j ∈ (yQ y).drop n ∧ yCl y j = true) ↔ (j ∈ (yQ y).drop (n + 1) ∧ yCl y j = true) := by
        intro j
        rw [hd, List.mem_cons]
        constructor
        · rintro ⟨rfl | h1, h2⟩
          · rw [hcl2] at h2; cases h2
          · exact ⟨h1, h2⟩
        · rintro ⟨h1, h2⟩; exact ⟨Or.inr h1, h2⟩
      intro r h1 h2
      rcases (show r = 0 ∨ r = 2 ∨ r = 3 ∨ r = 4 ∨ r = 5 ∨ r = 6 ∨ r = 7 ∨ r = 8 ∨ r = 9 ∨ r = 10 ∨ r = 11 by omega) with rfl | rfl | rfl | rfl | rfl | rfl | rfl | rfl | rfl | rfl | rfl
      · rfl
      · show (List.range (yn y)).map (fun j => nI (if j ∈ (yQ y).drop n ∧ yCl y j = true then 3 else ypl y j)) = (List.range (yn y)).map (fun j => nI (if j ∈ (yQ y).drop (n + 1) ∧ yCl y j = true then 3 else ypl y j))
        simp only [hmem]
      · show (List.range (yn y)).map (fun j => nI (if j ∈ (yQ y).drop n ∧ yCl y j = true then 2 else ywy y j)) = (List.range (yn y)).map (fun j => nI (if j ∈ (yQ y).drop (n + 1) ∧ yCl y j = true then 2 else ywy y j))
        simp only [hmem]
      · rfl
      · rfl
      · show (yQ (ySendN y n)).map nI = (yQ (ySendN y (n + 1))).map nI
        rw [hQn]
        show ((yQ y).take n ++ ((yQ y).drop n).filter (fun c => !yCl y c)).map nI = _
        rw [hd, List.filter_cons, hcl2]
        rfl
      · rfl
      · rfl
      · rfl
      · rfl
      · rfl
    · rw [if_neg hcl]
      have hcl2 : yCl y c = true := by
        cases hq : yCl y c with
        | true => rfl
        | false => exact absurd ((yFC_cl hW c).mpr hq) hcl
      have h1 : RC (ylst (ySendN y (n + 1)) 0 ((yQ (ySendN y (n + 1))).eraseIdx n)) (zrem z 6 (nI n)) := by
        refine RC.Q hC _ ?_
        rw [hC.R6, rRem_map hlen (by rw [hQn, List.length_append, hlt, List.length_cons]; omega)]
      have h2 := RC.out (c := c) (r := 2) h1 hn40 hcn
      refine RC.cong h2 ?_ rfl rfl rfl
      intro r q1 q2
      rcases (show r = 0 ∨ r = 2 ∨ r = 3 ∨ r = 4 ∨ r = 5 ∨ r = 6 ∨ r = 7 ∨ r = 8 ∨ r = 9 ∨ r = 10 ∨ r = 11 by omega) with rfl | rfl | rfl | rfl | rfl | rfl | rfl | rfl | rfl | rfl | rfl
      · rfl
      · show (List.range (yn y)).map (fun j => nI (if j ∈ (yQ y).drop n ∧ yCl y j = true then 3 else ypl y j)) = (List.range (yn y)).map (fun j => nI (va_up (fun j => if j ∈ (yQ y).drop (n + 1) ∧ yCl y j = true then 3 else ypl y j) c 3 j))
        apply List.map_congr_left
        intro j _
        unfold va_up
        by_cases hj : j = c
        · subst hj
          rw [if_pos rfl, if_pos ⟨by rw [hd]; exact List.mem_cons_self, hcl2⟩]
        · rw [if_neg hj, hd]
          simp [hj]
      · show (List.range (yn y)).map (fun j => nI (if j ∈ (yQ y).drop n ∧ yCl y j = true then 2 else ywy y j)) = (List.range (yn y)).map (fun j => nI (va_up (fun j => if j ∈ (yQ y).drop (n + 1) ∧ yCl y j = true then 2 else ywy y j) c 2 j))
        apply List.map_congr_left
        intro j _
        unfold va_up
        by_cases hj : j = c
        · subst hj
          rw [if_pos rfl, if_pos ⟨by rw [hd]; exact List.mem_cons_self, hcl2⟩]
        · rw [if_neg hj, hd]
          simp [hj]
      · rfl
      · rfl
      · show ((yQ y).take n ++ ((yQ y).drop n).filter (fun c => !yCl y c)).map nI = ((yQ (ySendN y (n + 1))).eraseIdx n).map nI
        rw [hQn, List.eraseIdx_append_of_length_le (by omega), hlt, Nat.sub_self, hd, List.filter_cons, hcl2]
        rfl
      · rfl
      · rfl
      · rfl
      · rfl
      · rfl
theorem RC.send (hW : WF y) (hC : RC y z) : RC (ySend y) (zQ_send z) := by
  have h0 : RC (ySendN y (yQ y).length) z := by
    refine RC.cong hC ?_ rfl rfl rfl
    intro r q1 q2
    have e : (yQ y).drop (yQ y).length = [] := List.drop_length
    rcases (show r = 0 ∨ r = 2 ∨ r = 3 ∨ r = 4 ∨ r = 5 ∨ r = 6 ∨ r = 7 ∨ r = 8 ∨ r = 9 ∨ r = 10 ∨ r = 11 by omega) with rfl | rfl | rfl | rfl | rfl | rfl | rfl | rfl | rfl | rfl | rfl
    · rfl
    · show (List.range (yn y)).map (fun j => nI (if j ∈ (yQ y).drop (yQ y).length ∧ yCl y j = true then 3 else ypl y j)) = _
      simp [e, rowY]
    · show (List.range (yn y)).map (fun j => nI (if j ∈ (yQ y).drop (yQ y).length ∧ yCl y j = true then 2 else ywy y j)) = _
      simp [e, rowY]
    · rfl
    · rfl
    · show ((yQ y).take (yQ y).length ++ ((yQ y).drop (yQ y).length).filter (fun c => !yCl y c)).map nI = _
      simp [rowY]
    · rfl
    · rfl
    · rfl
    · rfl
    · rfl
  have h1 := zSend_y hW (yQ y).length z (Nat.le_refl _) h0
  have h2 : (z.2.1 6).length = (yQ y).length := by rw [hC.R6, List.length_map]
  rw [zQ_send, h2]
  exact h1
theorem WF.send (hW : WF y) : WF (ySend y) := by
  have hqn := hW.qn
  obtain ⟨w1, w2, w3, w4, w5, w6, w7, w8, w9, w10, w11, w12, w13, w14, w15⟩ := hW
  have key : ∀ c, c < yn y → (c ∈ yQ y ∧ yCl y c = true → ypl y c = 0) := fun c hc h => ((w6 c).mp h.1).2
  refine ⟨w1, ?_, w3, w4, ?_, ?_, w7, ?_, w9, w10, ?_, w12, w13, w14, ?_⟩
  · intro c hc
    obtain ⟨a, b, e, f, g⟩ := w2 c hc
    refine ⟨a, ?_, ?_, f, g⟩
    · show (if c ∈ yQ y ∧ yCl y c = true then 3 else ypl y c) ≤ 3
      split <;> omega
    · show (if c ∈ yQ y ∧ yCl y c = true then 2 else ywy y c) ≤ 3
      split <;> omega
  · exact List.Pairwise.filter _ w5
  · intro c
    show c ∈ (yQ y).filter (fun c => !yCl y c) ↔ c < yn y ∧ (if c ∈ yQ y ∧ yCl y c = true then 3 else ypl y c) = 0
    rw [List.mem_filter]
    by_cases h : yCl y c = true
    · by_cases hq : c ∈ yQ y
      · rw [if_pos ⟨hq, h⟩]; simp [h]
      · rw [if_neg (fun q => hq q.1)]
        constructor
        · rintro ⟨q, -⟩; exact absurd q hq
        · intro q; exact absurd ((w6 c).mpr q) hq
    · rw [if_neg (fun q => h q.2), w6 c]
      simp [h]
  · intro c
    show c ∈ yTr y ↔ c < yn y ∧ (if c ∈ yQ y ∧ yCl y c = true then 3 else ypl y c) = 2
    rw [w8 c]
    by_cases h : c ∈ yQ y ∧ yCl y c = true
    · rw [if_pos h]
      have := ((w6 c).mp h.1).2
      constructor
      · rintro ⟨-, q⟩; omega
      · rintro ⟨-, q⟩; omega
    · rw [if_neg h]
  · intro c
    show c ∈ gL (yG y) ↔ c < yn y ∧ (if c ∈ yQ y ∧ yCl y c = true then 3 else ypl y c) = 1
    rw [w11 c]
    by_cases h : c ∈ yQ y ∧ yCl y c = true
    · rw [if_pos h]
      have := ((w6 c).mp h.1).2
      constructor
      · rintro ⟨-, q⟩; omega
      · rintro ⟨-, q⟩; omega
    · rw [if_neg h]
  · intro c hc
    show (if c ∈ yQ y ∧ yCl y c = true then 2 else ywy y c) = 0 ↔ (if c ∈ yQ y ∧ yCl y c = true then 3 else ypl y c) ≠ 3
    by_cases h : c ∈ yQ y ∧ yCl y c = true
    · rw [if_pos h, if_pos h]; simp
    · rw [if_neg h, if_neg h]; exact w15 c hc
theorem RM.send (hW : WF y) (hR : RM y t) : RM (ySend y) (mClear t (ycf y) (yTr y) (yn y)) := by
  obtain ⟨r1, r2, r3, r4, r5, r6, r7⟩ := hR
  obtain ⟨w1, w2, w3, w4, w5, w6, w7, w8, w9, w10, w11, w12, w13, w14, w15⟩ := id hW
  have hcl : ∀ c, (!decide (yFC (ycf y) (yTr y) c = -1)) = yCl y c := by
    intro c
    cases hq : yCl y c with
    | true =>
      have : ¬ yFC (ycf y) (yTr y) c = -1 := fun e => by rw [(yFC_cl hW c).mp e] at hq; cases hq
      simp [this]
    | false => simp [(yFC_cl hW c).mpr hq]
  refine ⟨r1, ?_, ?_, ?_, ?_, ?_, ?_⟩
  · exact r2.cong rfl rfl rfl
  · exact r3
  · exact r4
  · intro c hc
    obtain ⟨a, b, e, f, g⟩ := r5 c hc
    have wp := (w2 c hc).2.1
    have e0 : t.2 2 c = 0 ↔ ypl y c = 0 := by rw [b, show (0 : Int32) = nI 0 from rfl, nI_eq (by omega) (by decide)]
    refine ⟨a, ?_, ?_, f, g⟩
    · show (if c < yn y ∧ t.2 2 c = 0 ∧ (!decide (yFC (ycf y) (yTr y) c = -1)) = true then 3 else t.2 2 c) = nI (if c ∈ yQ y ∧ yCl y c = true then 3 else ypl y c)
      rw [hcl c]
      by_cases h : c ∈ yQ y ∧ yCl y c = true
      · rw [if_pos h, if_pos ⟨hc, e0.mpr ((w6 c).mp h.1).2, h.2⟩]; rfl
      · rw [if_neg h, if_neg (fun q => h ⟨(w6 c).mpr ⟨hc, e0.mp q.2.1⟩, q.2.2⟩)]; exact b
    · show (if c < yn y ∧ t.2 2 c = 0 ∧ (!decide (yFC (ycf y) (yTr y) c = -1)) = true then 2 else t.2 4 c) = nI (if c ∈ yQ y ∧ yCl y c = true then 2 else ywy y c)
      rw [hcl c]
      by_cases h : c ∈ yQ y ∧ yCl y c = true
      · rw [if_pos h, if_pos ⟨hc, e0.mpr ((w6 c).mp h.1).2, h.2⟩]; rfl
      · rw [if_neg h, if_neg (fun q => h ⟨(w6 c).mpr ⟨hc, e0.mp q.2.1⟩, q.2.2⟩)]; exact e
  · intro c h1 h2
    obtain ⟨a, b, e⟩ := r6 c h1 h2
    refine ⟨a, ?_, e⟩
    show (if c < yn y ∧ _ then 2 else t.2 4 c) = 0
    rw [if_neg (fun q => by have := q.1; have h3 : yn y ≤ c := h1; omega)]
    exact b
  · exact r7
end SE
