/-! THE CLASS's ANSWERS, under the relation: the same -/
section SM
variable {y : yT} {z : zS} {t : mS}
theorem rHas_isC {xs : List Int32} {c : Int32} (h : xs.length ≤ 40) : rHas xs c = isC xs.length c := by
  unfold rHas isC
  by_cases hc : c < 0
  · simp [hc]
  · obtain ⟨j, j1, j2, j3⟩ := i_pos hc
    rw [j3]
    have : decide (c < nI xs.length) = decide (j < xs.length) := by
      rw [j2]
      exact decide_eq_decide.mpr (nI_ltI j1 (by omega))
    rw [this]
theorem rAt_map {α : Type} {l : List α} {f : α → Int32} {c : Int32} (x : α) (h : l.length ≤ 40) : rAt (l.map f) c = if isC l.length c = true then f (l.getD c.toNatClampNeg x) else -1 := by
  unfold rAt
  rw [rHas_isC (by rw [List.length_map]; exact h), List.length_map]
  by_cases hc : isC l.length c = true
  · rw [if_pos hc, if_pos hc]
    have h1 := (isC_k h hc).1
    rw [List.getD_eq_getElem?_getD, List.getElem?_map, List.getD_eq_getElem?_getD, List.getElem?_eq_getElem h1]
    rfl
  · rw [if_neg hc, if_neg hc]
theorem rAt_range {n : Nat} {f : Nat → Int32} {c : Int32} (h : n ≤ 40) : rAt ((List.range n).map f) c = if isC n c = true then f c.toNatClampNeg else -1 := by
  rw [rAt_map 0 (by rw [List.length_range]; exact h), List.length_range]
  by_cases hc : isC n c = true
  · rw [if_pos hc, if_pos hc]
    have h1 := (isC_k h hc).1
    rw [List.getD_eq_getElem?_getD, List.getElem?_range h1]
    rfl
  · rw [if_neg hc, if_neg hc]
theorem same_where (hC : RC y z) (hW : WF y) (c : Int32) : zat z 2 c = yWhere y c := by
  rw [zat, hC.2.1, rAt_range hW.1]
  rfl
theorem same_why (hC : RC y z) (hW : WF y) (c : Int32) : zat z 3 c = yWhy y c := by
  rw [zat, hC.2.2.1, rAt_range hW.1]
  rfl
theorem same_landed (hC : RC y z) (hW : WF y) (k : Int32) : zat z 7 k = yLanded y k := by
  have hT : z.2.1 7 = (yTr y).map nI := hC.2.2.2.2.2.2.2.1
  rw [zat, hT, rAt_map 0 (RM.tr4 hW)]
  unfold yLanded isC
  by_cases h1 : k < 0
  · simp [h1]
  · by_cases h2 : k < nI (yTr y).length
    · simp [h1, h2]
    · simp [h1, h2]
theorem RC.G9 (hC : RC y z) : z.2.1 9 = (yG y).map (fun g => nI g.1.length) := hC.2.2.2.2.2.2.2.2.2.1
theorem RC.G10 (hC : RC y z) : z.2.1 10 = (yG y).map (fun g => nI g.2.1) := hC.2.2.2.2.2.2.2.2.2.2.1
theorem RC.G11 (hC : RC y z) : z.2.1 11 = (yG y).map (fun g => nI g.2.2) := hC.2.2.2.2.2.2.2.2.2.2.2.1
theorem RC.G8 (hC : RC y z) : z.2.1 8 = (gL (yG y)).map nI := hC.2.2.2.2.2.2.2.2.1
theorem RC.R6 (hC : RC y z) : z.2.1 6 = (yQ y).map nI := hC.2.2.2.2.2.2.1
theorem RC.R7 (hC : RC y z) : z.2.1 7 = (yTr y).map nI := hC.2.2.2.2.2.2.2.1
theorem RC.cf (hC : RC y z) : ∀ a b, a < 40 → b < 40 → zConf z (nI a) (nI b) = ycf y a b := hC.2.2.2.2.2.2.2.2.2.2.2.2.2
theorem RC.tg (hC : RC y z) : z.1 6 = nI (ytg y) := hC.2.2.2.2.2.2.2.2.2.2.2.2.1
theorem same_groups (hC : RC y z) : nI (z.2.1 10).length = nI (yG y).length := by rw [hC.G10, List.length_map]
theorem gat (hC : RC y z) (hW : WF y) (g : Int32) : zat z 10 g = (if yIsG y g = true then nI ((yG y).getD g.toNatClampNeg g0).2.1 else -1) ∧ zat z 9 g = (if yIsG y g = true then nI ((yG y).getD g.toNatClampNeg g0).1.length else -1) ∧ zat z 11 g = (if yIsG y g = true then nI ((yG y).getD g.toNatClampNeg g0).2.2 else -1) := by
  have hl := hW.gl
  refine ⟨?_, ?_, ?_⟩
  · rw [zat, hC.G10, rAt_map g0 hl]; rfl
  · rw [zat, hC.G9, rAt_map g0 hl]; rfl
  · rw [zat, hC.G11, rAt_map g0 hl]; rfl
theorem gatN (hC : RC y z) (hW : WF y) {g : Nat} (hg : g < (yG y).length) : zat z 10 (nI g) = nI ((yG y).getD g g0).2.1 ∧ zat z 9 (nI g) = nI ((yG y).getD g g0).1.length ∧ zat z 11 (nI g) = nI ((yG y).getD g g0).2.2 := by
  have hl := hW.gl
  have e : yIsG y (nI g) = true := by rw [yIsG, isC_nI hl (by omega)]; simpa using hg
  have h := gat hC hW (nI g)
  rw [if_pos e, if_pos e, if_pos e, nI_clamp (by omega)] at h
  exact h
theorem zBase_gB (hC : RC y z) (hW : WF y) : ∀ (n m : Nat) (acc : Nat), m + n ≤ (yG y).length → acc = gB (yG y) m → zBase z n m (nI acc) = nI (gB (yG y) (m + n)) := by
  have hl := hW.gl
  intro n
  induction n with
  | zero => intro m acc _ h; rw [h]; rfl
  | succ n ih =>
    intro m acc hm h
    rw [zBase, (gatN hC hW (show m < (yG y).length by omega)).2.1, nI_add, ih (m + 1) _ (by omega) (by rw [h, gB_succ (by omega)])]
    congr 2
    omega
theorem zG_base_y (hC : RC y z) (hW : WF y) (g : Int32) : zG_base z g = if yIsG y g = true then nI (gB (yG y) g.toNatClampNeg) else -1 := by
  have hl := hW.gl
  unfold zG_base
  rw [rHas_isC (by rw [hC.G10, List.length_map]; exact hl), hC.G10, List.length_map]
  show (if yIsG y g = true then _ else _) = _
  by_cases hg : yIsG y g = true
  · rw [if_pos hg, if_pos hg]
    have h1 := (isC_k hl hg).1
    have := zBase_gB hC hW g.toNatClampNeg 0 0 (by omega) rfl
    rw [Nat.zero_add] at this
    exact this
  · rw [if_neg hg, if_neg hg]
theorem same_group (hC : RC y z) (hW : WF y) (g w : Int32) : zQ_group z g w = yGroup y g w := by
  obtain ⟨h1, h2, h3⟩ := gat hC hW g
  unfold zQ_group yGroup
  rw [h1, h2, h3, zG_base_y hC hW]
  by_cases hg : yIsG y g = true
  · simp [hg]
  · simp [hg]
theorem same_member (hC : RC y z) (hW : WF y) (g k : Int32) : zG_member z g k = yMember y g k := by
  obtain ⟨-, h2, -⟩ := gat hC hW g
  unfold zG_member yMember
  rw [h2, zG_base_y hC hW]
  have htl := hW.tl
  by_cases hg : yIsG y g = true
  · rw [if_pos hg, if_pos hg, if_pos hg]
    have h1 := (isC_k hW.gl hg).1
    generalize g.toNatClampNeg = q at h1 ⊢
    have h3 := gLen_le hW h1
    by_cases hk : k < 0
    · simp [hk]
    · obtain ⟨j, j1, j2, j3⟩ := i_pos hk
      rw [if_neg hk, if_neg hk, j3, j2]
      by_cases hj : j < ((yG y).getD q g0).1.length
      · rw [if_neg (nI_ge hj (by omega)), if_pos (nI_lt hj (by omega)), nI_add, zat, hC.G8, rAt_map 0 (by omega), if_pos (by rw [isC_nI (by omega) (by omega)]; simp; omega), nI_clamp (by omega), gL_at h1 hj]
      · rw [if_pos (nI_le (by omega) (by omega)), if_neg (nI_nlt (by omega) (by omega))]
  · rw [if_neg hg, if_neg hg, if_neg hg]
    by_cases hk : k < 0
    · simp [hk]
    · have : (-1 : Int32) ≤ k := by
        have h5 := Int32.not_lt.mp hk
        exact Int32.le_trans (by decide) h5
      simp [hk, this]
theorem zConf_sym (hC : RC y z) (hW : WF y) {a b : Nat} (ha : a < 40) (hb : b < 40) : zConf z (nI a) (nI b) = ycf y b a := by
  rw [hC.cf a b ha hb]
  exact hW.2.2.2.2.2.2.2.2.2.2.2.2.2.1 a b
theorem tr_lt (hW : WF y) {i : Nat} (hi : i < (yTr y).length) : (yTr y).getD i 0 < 40 := by
  have h1 := ((hW.2.2.2.2.2.2.2.1 _).mp (getD_mem (x := 0) hi)).1
  have := hW.1
  omega
theorem trN (hC : RC y z) (hW : WF y) {i : Nat} (hi : i < (yTr y).length) : zat z 7 (nI i) = nI ((yTr y).getD i 0) := by
  have := RM.tr4 hW
  rw [zat, hC.R7, rAt_map 0 this, if_pos (by rw [isC_nI this (by omega)]; simpa using hi), nI_clamp (by omega)]
theorem zFC_y (hC : RC y z) (hW : WF y) {c : Nat} (hc : c < 40) : ∀ (n m : Nat), (yTr y).length = m + n → zFC z (nI c) n m = yFC (ycf y) ((yTr y).drop m) c := by
  intro n
  induction n with
  | zero => intro m h; rw [List.drop_eq_nil_of_le (by omega)]; rfl
  | succ n ih =>
    intro m h
    rw [zFC, trN hC hW (by omega), zConf_sym hC hW hc (tr_lt hW (by omega)), drop_getD (x := 0) (show m < (yTr y).length by omega), ih (m + 1) (by omega)]
    unfold yFC
    rw [List.find?_cons]
    by_cases hq : ycf y ((yTr y).getD m 0) c = true
    · rw [if_pos hq, hq]
    · rw [if_neg hq]
      have hq2 : ycf y ((yTr y).getD m 0) c = false := by simpa using hq
      rw [hq2]
theorem zQ_fc_y (hC : RC y z) (hW : WF y) {c : Nat} (hc : c < 40) : zQ_fc z (nI c) = yFC (ycf y) (yTr y) c := by
  have h := zFC_y hC hW hc (yTr y).length 0 (by omega)
  rw [zQ_fc, hC.R7, List.length_map]
  exact h
theorem same_by (hC : RC y z) (hW : WF y) (c : Int32) : zQ_by z c = yBy y c := by
  unfold zQ_by yBy
  rw [same_why hC hW]
  unfold yWhy
  by_cases hc : isC (yn y) c = true
  · rw [if_pos hc, if_pos hc]
    obtain ⟨h1, h2⟩ := isC_k hW.1 hc
    have hn := hW.1
    have hw := (hW.2.1 _ h1).2.2.1
    have e1 : (nI (ywy y c.toNatClampNeg) = 1) = (ywy y c.toNatClampNeg = 1) := propext (nI_is 1 (by omega) (by decide))
    have e2 : (nI (ywy y c.toNatClampNeg) = 2) = (ywy y c.toNatClampNeg = 2) := propext (nI_is 2 (by omega) (by decide))
    simp only [e1, e2]
    have e5 : zat z 5 c = nI (yts y c.toNatClampNeg) := by
      rw [zat, hC.2.2.2.2.1, rAt_range hn, if_pos hc]
    have e6 : zQ_fc z c = yFC (ycf y) (yTr y) c.toNatClampNeg := by
      have h3 := zQ_fc_y hC hW (show c.toNatClampNeg < 40 by omega)
      rw [← h2] at h3
      exact h3
    rw [e5, e6]
  · rw [if_neg hc, if_neg hc]
    rfl
theorem same_parts (hC : RC y z) (hW : WF y) (hS : RS y z t) : ∀ (n m : Nat) (acc : Int32), (yTr y).length = m + n → zParts z n m acc = mPar t (yTr y) n m acc := by
  intro n
  induction n with
  | zero => intro m acc _; rfl
  | succ n ih =>
    intro m acc h
    have hi : m < (yTr y).length := by omega
    have h1 := ((hW.2.2.2.2.2.2.2.1 _).mp (getD_mem (x := 0) hi)).1
    have hn := hW.1
    have e : zat z 1 (nI ((yTr y).getD m 0)) = t.2 1 ((yTr y).getD m 0) := by
      rw [zat, rAt_nI (by omega)]
      exact hS.2.2.2.2.2.2.2.1 _ h1
    rw [zParts, mPar, trN hC hW hi, e]
    exact ih (m + 1) _ (by omega)
theorem same_counted (hC : RC y z) (hW : WF y) (hS : RS y z t) (w : Int32) : zQ_counted z w = yCounted y t w := by
  unfold zQ_counted yCounted
  have e : zQ_parts z = mPar t (yTr y) (yTr y).length 0 0 := by
    rw [zQ_parts, hC.R7, List.length_map]
    exact same_parts hC hW hS _ 0 0 (by omega)
  rw [e, hS.2.2.2.2.1, hS.2.2.2.2.2.1, hS.2.2.2.2.2.2.1]
end SM
