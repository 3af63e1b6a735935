/-! THE MODEL's QUESTIONS, under the relation -/
def isC (n : Nat) (c : Int32) : Bool := !decide (c < 0) && decide (c < nI n)
theorem isC_k {n : Nat} {c : Int32} (hn : n ≤ 40) (h : isC n c = true) : c.toNatClampNeg < n ∧ c = nI c.toNatClampNeg := by
  simp only [isC, Bool.and_eq_true, Bool.not_eq_true', decide_eq_false_iff_not, decide_eq_true_eq] at h
  obtain ⟨j, h1, h2, h3⟩ := i_pos h.1
  have h4 := h.2
  rw [h2, nI_ltI h1 (by omega)] at h4
  rw [h3]
  exact ⟨h4, h2⟩
theorem isC_nI {n k : Nat} (hn : n ≤ 40) (hk : k < 2 ^ 31) : isC n (nI k) = decide (k < n) := by
  unfold isC
  have h1 : ¬ nI k < 0 := nI_pos hk
  rw [show decide (nI k < nI n) = decide (k < n) from decide_eq_decide.mpr (nI_ltI hk (by omega))]
  simp [h1]
section MP
variable {p : ax_H} {t : mS} {h : ax_H} {d : Nat} {y : yT}
theorem RM.t2 (hR : RM y t) (hW : WF y) : ∀ i, i < (yTr y).length → t.2 8 i = nI ((yTr y).getD i 0) ∧ (yTr y).getD i 0 < 40 := by
  intro i hi
  refine ⟨hR.2.2.1 i hi, ?_⟩
  have : (yTr y).getD i 0 ∈ yTr y := by
    rw [List.getD_eq_getElem?_getD, List.getElem?_eq_getElem hi]
    exact List.getElem_mem hi
  have h1 := ((hW.2.2.2.2.2.2.2.1 _).mp this).1
  have := hW.1
  omega
theorem RM.tr4 (hW : WF y) : (yTr y).length ≤ 40 := by
  have := hW.tl
  omega
def yWhere (y : yT) (c : Int32) : Int32 := if isC (yn y) c = true then nI (ypl y c.toNatClampNeg) else -1
theorem yM_where (hR : RM y t) (hW : WF y) (hm : isM p t h) (c : Int32) : AM (d + 1) kM_where 0 0 none [.ref 28, .int c] h (fun r h' => r = some (.int (yWhere y c)) ∧ isM p t h') := by
  obtain ⟨⟨hcode, hn4, h5, h7⟩, hL, hT2, hcf, hA, hA2, hGr⟩ := id hR
  have hn := hW.1
  refine AX.aload_n rfl rfl ?_
  refine AX.iconstV (v := 0) rfl (by decide) ?_
  refine AX.putf rfl (M0 hm) (Nat.le_of_ble_eq_true rfl) rfl ?_
  refine AX.gen (G := isM p _) (MS hm 3 _ (by decide) rfl) (fun h hm => ?_)
  rw [mset_same hcode] at hm
  refine AX.aload_n rfl rfl ?_
  refine AX.iload_n rfl rfl ?_
  refine AX.cVI rfl rfl rfl (M0 hm) (sM_isChange hn4 hn hm _) (fun h hm => ?_)
  refine AX.if_eqB rfl (fun c1 => ?_) (fun c1 => ?_)
  · refine AX.iconstV (v := (-1)) rfl (by decide) ?_
    exact AX.ireturn rfl rfl ⟨by simp [yWhere, isC, c1], hm⟩ (Nat.le_refl _) (Nat.le_refl _)
  · refine AX.aload_n rfl rfl ?_
    refine AX.getf rfl (M0 hm) rfl ?_
    refine AX.iload_n rfl rfl ?_
    refine AX.ialdX rfl (MA hm 2 (by decide) (by decide) (by decide)) (by decide) (⟨c.toNatClampNeg, by have := (isC_k hn c1).1; omega, (isC_k hn c1).2, (hA _ (isC_k hn c1).1).2.1⟩) ?_
    refine AX.goto rfl ?_
    exact AX.ireturn rfl rfl ⟨by simp [yWhere, isC, c1], hm⟩ (Nat.le_refl _) (Nat.le_refl _)
def yWhy (y : yT) (c : Int32) : Int32 := if isC (yn y) c = true then nI (ywy y c.toNatClampNeg) else -1
theorem yM_why (hR : RM y t) (hW : WF y) (hm : isM p t h) (c : Int32) : AM (d + 1) kM_why 0 0 none [.ref 28, .int c] h (fun r h' => r = some (.int (yWhy y c)) ∧ isM p t h') := by
  obtain ⟨⟨hcode, hn4, h5, h7⟩, hL, hT2, hcf, hA, hA2, hGr⟩ := id hR
  have hn := hW.1
  refine AX.aload_n rfl rfl ?_
  refine AX.iconstV (v := 0) rfl (by decide) ?_
  refine AX.putf rfl (M0 hm) (Nat.le_of_ble_eq_true rfl) rfl ?_
  refine AX.gen (G := isM p _) (MS hm 3 _ (by decide) rfl) (fun h hm => ?_)
  rw [mset_same hcode] at hm
  refine AX.aload_n rfl rfl ?_
  refine AX.iload_n rfl rfl ?_
  refine AX.cVI rfl rfl rfl (M0 hm) (sM_isChange hn4 hn hm _) (fun h hm => ?_)
  refine AX.if_eqB rfl (fun c1 => ?_) (fun c1 => ?_)
  · refine AX.iconstV (v := (-1)) rfl (by decide) ?_
    exact AX.ireturn rfl rfl ⟨by simp [yWhy, isC, c1], hm⟩ (Nat.le_refl _) (Nat.le_refl _)
  · refine AX.aload_n rfl rfl ?_
    refine AX.getf rfl (M0 hm) rfl ?_
    refine AX.iload_n rfl rfl ?_
    refine AX.ialdX rfl (MA hm 4 (by decide) (by decide) (by decide)) (by decide) (⟨c.toNatClampNeg, by have := (isC_k hn c1).1; omega, (isC_k hn c1).2, (hA _ (isC_k hn c1).1).2.2.1⟩) ?_
    refine AX.goto rfl ?_
    exact AX.ireturn rfl rfl ⟨by simp [yWhy, isC, c1], hm⟩ (Nat.le_refl _) (Nat.le_refl _)
def yLanded (y : yT) (k : Int32) : Int32 := if k < 0 then -1 else (if k < nI (yTr y).length then nI ((yTr y).getD k.toNatClampNeg 0) else -1)
theorem yM_landed (hR : RM y t) (hW : WF y) (hm : isM p t h) (k : Int32) : AM d kM_landed 0 0 none [.ref 28, .int k] h (fun r h' => r = some (.int (yLanded y k)) ∧ isM p t h') := by
  obtain ⟨⟨hcode, hn4, h5, h7⟩, hL, hT2, hcf, hA, hA2, hGr⟩ := id hR
  have ht := RM.tr4 hW
  refine AX.aload_n rfl rfl ?_
  refine AX.iconstV (v := 0) rfl (by decide) ?_
  refine AX.putf rfl (M0 hm) (Nat.le_of_ble_eq_true rfl) rfl ?_
  refine AX.gen (G := isM p _) (MS hm 3 _ (by decide) rfl) (fun h hm => ?_)
  rw [mset_same hcode] at hm
  refine AX.iload_n rfl rfl ?_
  refine AX.if_lt rfl (fun c1 => ?_) (fun c1 => ?_)
  · refine AX.iconstV (v := (-1)) rfl (by decide) ?_
    refine AX.goto rfl ?_
    exact AX.ireturn rfl rfl ⟨by first | (simp [yLanded, c1]; done) | (rw [h7] at c2; simp [yLanded, c1]; done), hm⟩ (Nat.le_refl _) (Nat.le_refl _)
  · refine AX.iload_n rfl rfl ?_
    refine AX.aload_n rfl rfl ?_
    refine AX.getf rfl (M0 hm) rfl ?_
    refine AX.icmp_lt rfl (fun c2 => ?_) (fun c2 => ?_)
    · refine AX.aload_n rfl rfl ?_
      refine AX.getf rfl (M0 hm) rfl ?_
      refine AX.iload_n rfl rfl ?_
      refine AX.ialdX rfl (MA hm 8 (by decide) (by decide) (by decide)) (by decide) (by obtain ⟨j, j1, j2, j3⟩ := i_pos c1; rw [h7, j2, nI_ltI j1 (by omega)] at c2; exact ⟨k.toNatClampNeg, by omega, by rw [j3]; exact j2, hT2 _ (by omega)⟩) ?_
      exact AX.ireturn rfl rfl ⟨by first | (simp [yLanded, c1]; done) | (rw [h7] at c2; simp [yLanded, c1, c2]; done), hm⟩ (Nat.le_refl _) (Nat.le_refl _)
    · refine AX.iconstV (v := (-1)) rfl (by decide) ?_
      refine AX.goto rfl ?_
      exact AX.ireturn rfl rfl ⟨by first | (simp [yLanded, c1]; done) | (rw [h7] at c2; simp [yLanded, c1, c2]; done), hm⟩ (Nat.le_refl _) (Nat.le_refl _)
theorem yM_waiting (hR : RM y t) (hW : WF y) (hm : isM p t h) (k : Int32) : AM (d + 2) kM_waiting 0 0 none [.ref 28, .int k] h (fun r h' => r = some (.int (if k < 0 then -1 else mWt t (yn y) k)) ∧ isM p t h') := by
  obtain ⟨⟨hcode, hn4, h5, h7⟩, hL, hT2, hcf, hA, hA2, hGr⟩ := id hR
  have hn := hW.1
  refine AX.aload_n rfl rfl ?_
  refine AX.iconstV (v := 0) rfl (by decide) ?_
  refine AX.putf rfl (M0 hm) (Nat.le_of_ble_eq_true rfl) rfl ?_
  refine AX.gen (G := isM p _) (MS hm 3 _ (by decide) rfl) (fun h hm => ?_)
  rw [mset_same hcode] at hm
  refine AX.iload_n rfl rfl ?_
  refine AX.if_ge rfl (fun c1 => ?_) (fun c1 => ?_)
  · refine AX.aload_n rfl rfl ?_
    refine AX.iload_n rfl rfl ?_
    refine AX.cVI rfl rfl rfl (M0 hm) (sM_waitingAt hn4 hn hm _) (fun h hm => ?_)
    exact AX.ireturn rfl rfl ⟨by first | (rw [if_neg (Int32.not_lt.mpr c1)]; done) | (rw [if_pos (Int32.not_le.mp c1)]; done), hm⟩ (Nat.le_refl _) (Nat.le_refl _)
  · refine AX.iconstV (v := (-1)) rfl (by decide) ?_
    refine AX.goto rfl ?_
    exact AX.ireturn rfl rfl ⟨by first | (rw [if_neg (Int32.not_lt.mpr c1)]; done) | (rw [if_pos (Int32.not_le.mp c1)]; done), hm⟩ (Nat.le_refl _) (Nat.le_refl _)
def yBy (y : yT) (c : Int32) : Int32 := if isC (yn y) c = true then (if ywy y c.toNatClampNeg = 1 then nI (yts y c.toNatClampNeg) else if ywy y c.toNatClampNeg = 2 then yFC (ycf y) (yTr y) c.toNatClampNeg else -1) else -1
theorem nI_is {a : Nat} (k : Nat) (ha : a < 2 ^ 31) (hk : k < 2 ^ 31) : nI a = nI k ↔ a = k := nI_eq ha hk
theorem yM_by (hR : RM y t) (hW : WF y) (hm : isM p t h) (c : Int32) : AM (d + 2) kM_by 0 0 none [.ref 28, .int c] h (fun r h' => r = some (.int (yBy y c)) ∧ isM p t h') := by
  obtain ⟨⟨hcode, hn4, h5, h7⟩, hL, hT2, hcf, hA, hA2, hGr⟩ := id hR
  have hn := hW.1
  have w3 : ∀ c, c < yn y → ywy y c ≤ 3 := fun c hc => (hW.2.1 c hc).2.2.1
  by_cases hc : isC (yn y) c = true
  · obtain ⟨k1, k2⟩ := isC_k hn hc
    generalize c.toNatClampNeg = k at k1 k2
    subst k2
    have e : (nI k).toNatClampNeg = k := nI_clamp (by omega)
    have w := w3 k k1
    refine AX.aload_n rfl rfl ?_
    refine AX.iconstV (v := 0) rfl (by decide) ?_
    refine AX.putf rfl (M0 hm) (Nat.le_of_ble_eq_true rfl) rfl ?_
    refine AX.gen (G := isM p _) (MS hm 3 _ (by decide) rfl) (fun h hm => ?_)
    rw [mset_same hcode] at hm
    refine AX.aload_n rfl rfl ?_
    refine AX.iload_n rfl rfl ?_
    refine AX.cVI rfl rfl rfl (M0 hm) (sM_isChange hn4 hn hm _) (fun h hm => ?_)
    refine AX.if_neB rfl (fun c1 => ?_) (fun c1 => ?_)
    · refine AX.aload_n rfl rfl ?_
      refine AX.getf rfl (M0 hm) rfl ?_
      refine AX.iload_n rfl rfl ?_
      refine AX.ialdX rfl (MA hm 4 (by decide) (by decide) (by decide)) (by decide) (⟨k, by omega, rfl, (hA k k1).2.2.1⟩) ?_
      refine AX.iconstV (v := 1) rfl (by decide) ?_
      refine AX.icmp_ne rfl (fun c2 => ?_) (fun c2 => ?_)
      · refine AX.aload_n rfl rfl ?_
        refine AX.getf rfl (M0 hm) rfl ?_
        refine AX.iload_n rfl rfl ?_
        refine AX.ialdX rfl (MA hm 4 (by decide) (by decide) (by decide)) (by decide) (⟨k, by omega, rfl, (hA k k1).2.2.1⟩) ?_
        refine AX.iconstV (v := 2) rfl (by decide) ?_
        refine AX.icmp_ne rfl (fun c3 => ?_) (fun c3 => ?_)
        · refine AX.iconstV (v := (-1)) rfl (by decide) ?_
          exact AX.ireturn rfl rfl ⟨by first | (exact absurd (c1.symm.trans hc) (by decide)) | (rw [show (2 : Int32) = nI 2 from rfl, nI_eq (by omega) (by decide)] at c3; rw [show (1 : Int32) = nI 1 from rfl, nI_eq (by omega) (by decide)] at c2; simp [yBy, hc, e, c2, c3]; done) | (rw [show (1 : Int32) = nI 1 from rfl, nI_eq (by omega) (by decide)] at c2; simp [yBy, hc, e, c2]; done), hm⟩ (Nat.le_refl _) (Nat.le_refl _)
        · refine AX.aload_n rfl rfl ?_
          refine AX.iload_n rfl rfl ?_
          refine AX.cVI rfl rfl rfl (M0 hm) (sM_inTree hcf h7 (RM.tr4 hW) (hR.t2 hW) hm (c := k) (by omega)) (fun h hm => ?_)
          refine AX.goto rfl ?_
          exact AX.ireturn rfl rfl ⟨by first | (exact absurd (c1.symm.trans hc) (by decide)) | (rw [show (2 : Int32) = nI 2 from rfl, nI_eq (by omega) (by decide)] at c3; rw [show (1 : Int32) = nI 1 from rfl, nI_eq (by omega) (by decide)] at c2; simp [yBy, hc, e, c2, c3]; done) | (rw [show (1 : Int32) = nI 1 from rfl, nI_eq (by omega) (by decide)] at c2; simp [yBy, hc, e, c2]; done), hm⟩ (Nat.le_refl _) (Nat.le_refl _)
      · refine AX.aload_n rfl rfl ?_
        refine AX.getf rfl (M0 hm) rfl ?_
        refine AX.iload_n rfl rfl ?_
        refine AX.ialdX rfl (MA hm 5 (by decide) (by decide) (by decide)) (by decide) (⟨k, by omega, rfl, (hA k k1).2.2.2.1⟩) ?_
        refine AX.goto rfl ?_
        exact AX.ireturn rfl rfl ⟨by first | (exact absurd (c1.symm.trans hc) (by decide)) | (rw [show (2 : Int32) = nI 2 from rfl, nI_eq (by omega) (by decide)] at c3; rw [show (1 : Int32) = nI 1 from rfl, nI_eq (by omega) (by decide)] at c2; simp [yBy, hc, e, c2, c3]; done) | (rw [show (1 : Int32) = nI 1 from rfl, nI_eq (by omega) (by decide)] at c2; simp [yBy, hc, e, c2]; done), hm⟩ (Nat.le_refl _) (Nat.le_refl _)
    · refine AX.iconstV (v := (-1)) rfl (by decide) ?_
      refine AX.goto rfl ?_
      exact AX.ireturn rfl rfl ⟨by first | (exact absurd (c1.symm.trans hc) (by decide)) | (rw [show (2 : Int32) = nI 2 from rfl, nI_eq (by omega) (by decide)] at c3; rw [show (1 : Int32) = nI 1 from rfl, nI_eq (by omega) (by decide)] at c2; simp [yBy, hc, e, c2, c3]; done) | (rw [show (1 : Int32) = nI 1 from rfl, nI_eq (by omega) (by decide)] at c2; simp [yBy, hc, e, c2]; done), hm⟩ (Nat.le_refl _) (Nat.le_refl _)
  · skip
    refine AX.aload_n rfl rfl ?_
    refine AX.iconstV (v := 0) rfl (by decide) ?_
    refine AX.putf rfl (M0 hm) (Nat.le_of_ble_eq_true rfl) rfl ?_
    refine AX.gen (G := isM p _) (MS hm 3 _ (by decide) rfl) (fun h hm => ?_)
    rw [mset_same hcode] at hm
    refine AX.aload_n rfl rfl ?_
    refine AX.iload_n rfl rfl ?_
    refine AX.cVI rfl rfl rfl (M0 hm) (sM_isChange hn4 hn hm _) (fun h hm => ?_)
    refine AX.if_neB rfl (fun c1 => ?_) (fun c1 => ?_)
    · exact absurd c1 hc
    · refine AX.iconstV (v := (-1)) rfl (by decide) ?_
      refine AX.goto rfl ?_
      exact AX.ireturn rfl rfl ⟨by simp [yBy, hc], hm⟩ (Nat.le_refl _) (Nat.le_refl _)
def mPar (t : mS) (Tr : List Nat) : Nat → Nat → Int32 → Int32
  | 0, _, acc => acc
  | r + 1, m, acc => mPar t Tr r (m + 1) (acc ||| t.2 1 (Tr.getD m 0))
def yCounted (y : yT) (t : mS) (w : Int32) : Int32 := if w = 0 then t.1 8 else if w = 1 then t.1 9 else if w = 2 then t.1 10 else if w = 3 then mPar t (yTr y) (yTr y).length 0 0 else -1
theorem yM_counted_l (hR : RM y t) (hW : WF y) (w : Int32) : ∀ (r m : Nat) (acc : Int32) (h : ax_H), isM p t h → (yTr y).length = m + r → mPar t (yTr y) r m acc = mPar t (yTr y) (yTr y).length 0 0 →
    AX d kM_counted 0 0 none 9 [(3, .int (nI m)), (2, .int acc), (0, .ref 28), (1, .int w)] [] h 0 0 (ax_ret kM_counted 0 0 (fun v h' => v = some (.int (yCounted y t w)) ∧ isM p t h')) := by
  obtain ⟨⟨hcode, hn4, h5, h7⟩, hL, hT2, hcf, hA, hA2, hGr⟩ := id hR
  have ht := RM.tr4 hW
  intro r
  induction r with
  | zero =>
    intro m acc h hm hb hx
    refine AX.iload_n rfl rfl ?_
    refine AX.aload_n rfl rfl ?_
    refine AX.getf rfl (M0 hm) rfl ?_
    refine AX.icmp_ge rfl (fun c1 => ?_) (fun c1 => ?_)
    · refine AX.iload_n rfl rfl ?_
      refine AX.if_ne rfl (fun c2 => ?_) (fun c2 => ?_)
      · refine AX.iload_n rfl rfl ?_
        refine AX.iconstV (v := 1) rfl (by decide) ?_
        refine AX.icmp_ne rfl (fun c3 => ?_) (fun c3 => ?_)
        · refine AX.iload_n rfl rfl ?_
          refine AX.iconstV (v := 2) rfl (by decide) ?_
          refine AX.icmp_ne rfl (fun c4 => ?_) (fun c4 => ?_)
          · refine AX.iload_n rfl rfl ?_
            refine AX.iconstV (v := 3) rfl (by decide) ?_
            refine AX.icmp_ne rfl (fun c5 => ?_) (fun c5 => ?_)
            · refine AX.iconstV (v := (-1)) rfl (by decide) ?_
              exact AX.ireturn rfl rfl ⟨by first | (simp [yCounted, c1, c2, c3, c4, c5]; done) | (rw [show acc = mPar t (yTr y) (yTr y).length 0 0 from hx]; simp [yCounted, c1, c2, c3, c4, c5]; done), hm⟩ (Nat.le_refl _) (Nat.le_refl _)
            · refine AX.iload_n rfl rfl ?_
              refine AX.goto rfl ?_
              exact AX.ireturn rfl rfl ⟨by first | (simp [yCounted, c1, c2, c3, c4, c5]; done) | (rw [show acc = mPar t (yTr y) (yTr y).length 0 0 from hx]; simp [yCounted, c1, c2, c3, c4, c5]; done), hm⟩ (Nat.le_refl _) (Nat.le_refl _)
          · refine AX.aload_n rfl rfl ?_
            refine AX.getf rfl (M0 hm) rfl ?_
            refine AX.goto rfl ?_
            exact AX.ireturn rfl rfl ⟨by first | (simp [yCounted, c1, c2, c3, c4]; done) | (rw [show acc = mPar t (yTr y) (yTr y).length 0 0 from hx]; simp [yCounted, c1, c2, c3, c4]; done), hm⟩ (Nat.le_refl _) (Nat.le_refl _)
        · refine AX.aload_n rfl rfl ?_
          refine AX.getf rfl (M0 hm) rfl ?_
          refine AX.goto rfl ?_
          exact AX.ireturn rfl rfl ⟨by first | (simp [yCounted, c1, c2, c3]; done) | (rw [show acc = mPar t (yTr y) (yTr y).length 0 0 from hx]; simp [yCounted, c1, c2, c3]; done), hm⟩ (Nat.le_refl _) (Nat.le_refl _)
      · refine AX.aload_n rfl rfl ?_
        refine AX.getf rfl (M0 hm) rfl ?_
        refine AX.goto rfl ?_
        exact AX.ireturn rfl rfl ⟨by first | (simp [yCounted, c1, c2]; done) | (rw [show acc = mPar t (yTr y) (yTr y).length 0 0 from hx]; simp [yCounted, c1, c2]; done), hm⟩ (Nat.le_refl _) (Nat.le_refl _)
    · exact absurd (h7 ▸ nI_le (by omega) (by omega)) c1
  | succ r ih =>
    intro m acc h hm hb hx
    have h2 := hR.t2 hW m (by omega)
    refine AX.iload_n rfl rfl ?_
    refine AX.aload_n rfl rfl ?_
    refine AX.getf rfl (M0 hm) rfl ?_
    refine AX.icmp_ge rfl (fun c1 => ?_) (fun c1 => ?_)
    · exact absurd (h7 ▸ c1) (nI_ge (by omega) (by omega))
    · refine AX.iload_n rfl rfl ?_
      refine AX.aload_n rfl rfl ?_
      refine AX.getf rfl (M0 hm) rfl ?_
      refine AX.aload_n rfl rfl ?_
      refine AX.getf rfl (M0 hm) rfl ?_
      refine AX.iload_n rfl rfl ?_
      refine AX.ialdX rfl (MA hm 8 (by decide) (by decide) (by decide)) (by decide) (⟨m, by omega, rfl, h2.1⟩) ?_
      refine AX.ialdX rfl (MA hm 1 (by decide) (by decide) (by decide)) (by decide) (⟨_, h2.2, rfl, rfl⟩) ?_
      refine AX.ior rfl ?_
      refine AX.istore_n rfl (by decide) ?_
      refine AX.iincV (dn := 1) rfl rfl (by decide) (by decide) ?_
      refine AX.goto rfl ?_
      rw [nI_1]
      exact ih (m + 1) _ h hm (by omega) hx
theorem yM_counted (hR : RM y t) (hW : WF y) (hm : isM p t h) (w : Int32) : AM d kM_counted 0 0 none [.ref 28, .int w] h (fun v h' => v = some (.int (yCounted y t w)) ∧ isM p t h') := by
  have hcode := hR.1.1
  refine AX.aload_n rfl rfl ?_
  refine AX.iconstV (v := 0) rfl (by decide) ?_
  refine AX.putf rfl (M0 hm) (Nat.le_of_ble_eq_true rfl) rfl ?_
  refine AX.gen (G := isM p _) (MS hm 3 _ (by decide) rfl) (fun h hm => ?_)
  rw [mset_same hcode] at hm
  refine AX.iconstV (v := 0) rfl (by decide) ?_
  refine AX.istore_n rfl (by decide) ?_
  refine AX.iconstV (v := 0) rfl (by decide) ?_
  refine AX.istore_n rfl (by decide) ?_
  exact yM_counted_l hR hW w (yTr y).length 0 0 h hm (by omega) rfl
theorem yM_groupMany (hR : RM y t) (hW : WF y) (hm : isM p t h) : AM d kM_groupMany 0 0 none [.ref 28] h (fun v h' => v = some (.int (nI (yG y).length)) ∧ isM p t h') := by
  have e := mCnt_gF (yG y) 0 hW.2.2.2.2.2.2.2.2.1
  rw [Nat.zero_add] at e
  rw [← e]
  exact sM_groupMany hR.2.1 hm
theorem yM_groups (hR : RM y t) (hW : WF y) (hm : isM p t h) : AM (d + 1) kM_groups 0 0 none [.ref 28] h (fun v h' => v = some (.int (nI (yG y).length)) ∧ isM p t h') := by
  have hcode := hR.1.1
  refine AX.aload_n rfl rfl ?_
  refine AX.iconstV (v := 0) rfl (by decide) ?_
  refine AX.putf rfl (M0 hm) (Nat.le_of_ble_eq_true rfl) rfl ?_
  refine AX.gen (G := isM p _) (MS hm 3 _ (by decide) rfl) (fun h hm => ?_)
  rw [mset_same hcode] at hm
  refine AX.aload_n rfl rfl ?_
  refine AX.cVI rfl rfl rfl (M0 hm) (yM_groupMany hR hW hm) (fun h hm => ?_)
  exact AX.ireturn rfl rfl ⟨rfl, hm⟩ (Nat.le_refl _) (Nat.le_refl _)
def yIsG (y : yT) (g : Int32) : Bool := isC (yG y).length g
theorem yM_isGroup (hR : RM y t) (hW : WF y) (hm : isM p t h) (g : Int32) : AM (d + 1) kM_isGroup 0 0 none [.ref 28, .int g] h (fun v h' => v = some (.int (bI (yIsG y g))) ∧ isM p t h') := by
  refine AX.iload_n rfl rfl ?_
  refine AX.if_lt rfl (fun c1 => ?_) (fun c1 => ?_)
  · refine AX.iconstV (v := 0) rfl (by decide) ?_
    exact AX.zreturn rfl rfl (by decide) ⟨by first | (have c3 := Int32.not_lt.mpr c2; simp [yIsG, isC, c1, c3, bI]; done) | (have c3 := Int32.not_le.mp c2; simp [yIsG, isC, c1, c3, bI]; done) | (simp [yIsG, isC, c1, bI]; done), hm⟩ (Nat.le_refl _) (Nat.le_refl _)
  · refine AX.iload_n rfl rfl ?_
    refine AX.aload_n rfl rfl ?_
    refine AX.cVI rfl rfl rfl (M0 hm) (yM_groupMany hR hW hm) (fun h hm => ?_)
    refine AX.icmp_ge rfl (fun c2 => ?_) (fun c2 => ?_)
    · refine AX.iconstV (v := 0) rfl (by decide) ?_
      exact AX.zreturn rfl rfl (by decide) ⟨by first | (have c3 := Int32.not_lt.mpr c2; simp [yIsG, isC, c1, c3, bI]; done) | (have c3 := Int32.not_le.mp c2; simp [yIsG, isC, c1, c3, bI]; done) | (simp [yIsG, isC, c1, bI]; done), hm⟩ (Nat.le_refl _) (Nat.le_refl _)
    · refine AX.iconstV (v := 1) rfl (by decide) ?_
      refine AX.goto rfl ?_
      exact AX.zreturn rfl rfl (by decide) ⟨by first | (have c3 := Int32.not_lt.mpr c2; simp [yIsG, isC, c1, c3, bI]; done) | (have c3 := Int32.not_le.mp c2; simp [yIsG, isC, c1, c3, bI]; done) | (simp [yIsG, isC, c1, bI]; done), hm⟩ (Nat.le_refl _) (Nat.le_refl _)
theorem yM_startOf (hR : RM y t) (hW : WF y) (hm : isM p t h) {g : Nat} (hg : g ≤ (yG y).length) : AM d kM_startOf 0 0 none [.ref 28, .int (nI g)] h (fun v h' => v = some (.int (nI (gB (yG y) g))) ∧ isM p t h') := by
  have hl := hW.gl
  rw [← mS0_gF hW.2.2.2.2.2.2.2.2.1 hg (by omega)]
  exact sM_startOf hR.2.1 hm (nI g)
theorem gB_lL {G : List gT} {i : Nat} (hn : gNe G) (hi : i < G.length) : gB G i < (gL G).length := by
  rw [gL_len]
  have h1 := gB_lt hn hi
  have h2 : gB G (i + 1) ≤ gB G G.length := gB_le (by omega)
  omega
theorem getD_mem {l : List Nat} {i x : Nat} (h : i < l.length) : l.getD i x ∈ l := by
  rw [List.getD_eq_getElem?_getD, List.getElem?_eq_getElem h]
  exact List.getElem_mem h
theorem gFst {G : List gT} {i : Nat} (hn : gNe G) (hi : i < G.length) : (gL G).getD (gB G i) 0 ∈ (G.getD i g0).1 := by
  have hne : (G.getD i g0).1 ≠ [] := by
    have : G.getD i g0 ∈ G := by
      rw [List.getD_eq_getElem?_getD, List.getElem?_eq_getElem hi]
      exact List.getElem_mem hi
    exact hn _ this
  have hl : 0 < (G.getD i g0).1.length := List.length_pos_iff.mpr hne
  have e := gL_at (G := G) (i := i) (j := 0) hi hl
  rw [Nat.add_zero] at e
  rw [e]
  exact getD_mem hl
theorem yM_stateOf (hR : RM y t) (hW : WF y) (hm : isM p t h) {g : Nat} (hg : g < (yG y).length) : AM (d + 1) kM_stateOf 0 0 none [.ref 28, .int (nI g)] h (fun v h' => v = some (.int (nI ((yG y).getD g g0).2.1)) ∧ isM p t h') := by
  have hl := hW.gl
  have hn := hW.2.2.2.2.2.2.2.2.1
  have e := mS0_gF (G := yG y) (i := g) hn (by omega) (by omega)
  have h1 := sM_stateOf (d := d) (p := p) hR.2.1 hm (nI g) (by rw [e]; exact gB_lL hn hg)
  rw [e, (hR.2.2.2.2.2.2 g hg _ (gFst hn hg)).1] at h1
  exact h1
theorem yM_sizeOf (hR : RM y t) (hW : WF y) (hm : isM p t h) {g : Nat} (hg : g < (yG y).length) : AM (d + 1) kM_sizeOf 0 0 none [.ref 28, .int (nI g)] h (fun v h' => v = some (.int (nI ((yG y).getD g g0).1.length)) ∧ isM p t h') := by
  have hl := hW.gl
  have hn := hW.2.2.2.2.2.2.2.2.1
  have h1 := sM_sizeOf (d := d) (p := p) hR.2.1 hm (nI g)
  rw [nI_1, mS0_gF (G := yG y) (i := g + 1) hn (by omega) (by omega), mS0_gF (G := yG y) (i := g) hn (by omega) (by omega), pk_sub (gB_le (by omega)), gB_succ hg, Nat.add_sub_cancel_left] at h1
  exact h1
def yGroup (y : yT) (g w : Int32) : Int32 := if yIsG y g = true then (if w = 0 then nI ((yG y).getD g.toNatClampNeg g0).2.1 else if w = 1 then nI ((yG y).getD g.toNatClampNeg g0).1.length else if w = 2 then nI ((yG y).getD g.toNatClampNeg g0).2.2 else if w = 3 then nI (gB (yG y) g.toNatClampNeg) else -1) else -1
theorem RM.lane (hR : RM y t) (hW : WF y) {g : Nat} (hg : g < (yG y).length) : gB (yG y) g < 40 ∧ t.2 7 (gB (yG y) g) = nI ((gL (yG y)).getD (gB (yG y) g) 0) ∧ (gL (yG y)).getD (gB (yG y) g) 0 < 40 ∧ t.2 11 ((gL (yG y)).getD (gB (yG y) g) 0) = nI ((yG y).getD g g0).2.2 := by
  have hn := hW.2.2.2.2.2.2.2.2.1
  have h1 := gB_lL hn hg
  have h2 := hR.2.1.2.1
  have h3 := hR.2.1.2.2.2 _ h1
  exact ⟨by omega, h3.1, h3.2.1, (hR.2.2.2.2.2.2 g hg _ (gFst hn hg)).2⟩
theorem yM_group (hR : RM y t) (hW : WF y) (hm : isM p t h) (g w : Int32) : AM (d + 2) kM_group 0 0 none [.ref 28, .int g, .int w] h (fun v h' => v = some (.int (yGroup y g w)) ∧ isM p t h') := by
  have hcode := hR.1.1
  have hl := hW.gl
  by_cases hg : yIsG y g = true
  · obtain ⟨k1, k2⟩ := isC_k hl hg
    generalize hk : g.toNatClampNeg = k at k1 k2
    subst k2
    have h1 := hR.lane hW k1
    refine AX.aload_n rfl rfl ?_
    refine AX.iconstV (v := 0) rfl (by decide) ?_
    refine AX.putf rfl (M0 hm) (Nat.le_of_ble_eq_true rfl) rfl ?_
    refine AX.gen (G := isM p _) (MS hm 3 _ (by decide) rfl) (fun h hm => ?_)
    rw [mset_same hcode] at hm
    refine AX.aload_n rfl rfl ?_
    refine AX.iload_n rfl rfl ?_
    refine AX.cVI rfl rfl rfl (M0 hm) (yM_isGroup hR hW hm _) (fun h hm => ?_)
    refine AX.if_neB rfl (fun c1 => ?_) (fun c1 => ?_)
    · refine AX.iload_n rfl rfl ?_
      refine AX.if_ne rfl (fun c2 => ?_) (fun c2 => ?_)
      · refine AX.iload_n rfl rfl ?_
        refine AX.iconstV (v := 1) rfl (by decide) ?_
        refine AX.icmp_ne rfl (fun c3 => ?_) (fun c3 => ?_)
        · refine AX.iload_n rfl rfl ?_
          refine AX.iconstV (v := 2) rfl (by decide) ?_
          refine AX.icmp_ne rfl (fun c4 => ?_) (fun c4 => ?_)
          · refine AX.iload_n rfl rfl ?_
            refine AX.iconstV (v := 3) rfl (by decide) ?_
            refine AX.icmp_ne rfl (fun c5 => ?_) (fun c5 => ?_)
            · refine AX.iconstV (v := (-1)) rfl (by decide) ?_
              exact AX.ireturn rfl rfl ⟨by simp [yGroup, hg, hk, c1, c2, c3, c4, c5], hm⟩ (Nat.le_refl _) (Nat.le_refl _)
            · refine AX.aload_n rfl rfl ?_
              refine AX.iload_n rfl rfl ?_
              refine AX.cVI rfl rfl rfl (M0 hm) (yM_startOf hR hW hm (Nat.le_of_lt k1)) (fun h hm => ?_)
              refine AX.goto rfl ?_
              exact AX.ireturn rfl rfl ⟨by simp [yGroup, hg, hk, c1, c2, c3, c4, c5], hm⟩ (Nat.le_refl _) (Nat.le_refl _)
          · refine AX.aload_n rfl rfl ?_
            refine AX.getf rfl (M0 hm) rfl ?_
            refine AX.aload_n rfl rfl ?_
            refine AX.getf rfl (M0 hm) rfl ?_
            refine AX.aload_n rfl rfl ?_
            refine AX.iload_n rfl rfl ?_
            refine AX.cVI rfl rfl rfl (M0 hm) (yM_startOf hR hW hm (Nat.le_of_lt k1)) (fun h hm => ?_)
            refine AX.ialdX rfl (MA hm 7 (by decide) (by decide) (by decide)) (by decide) (⟨_, h1.1, rfl, h1.2.1⟩) ?_
            refine AX.ialdX rfl (MA hm 11 (by decide) (by decide) (by decide)) (by decide) (⟨_, h1.2.2.1, rfl, h1.2.2.2⟩) ?_
            refine AX.goto rfl ?_
            exact AX.ireturn rfl rfl ⟨by simp [yGroup, hg, hk, c1, c2, c3, c4], hm⟩ (Nat.le_refl _) (Nat.le_refl _)
        · refine AX.aload_n rfl rfl ?_
          refine AX.iload_n rfl rfl ?_
          refine AX.cVI rfl rfl rfl (M0 hm) (yM_sizeOf hR hW hm k1) (fun h hm => ?_)
          refine AX.goto rfl ?_
          exact AX.ireturn rfl rfl ⟨by simp [yGroup, hg, hk, c1, c2, c3], hm⟩ (Nat.le_refl _) (Nat.le_refl _)
      · refine AX.aload_n rfl rfl ?_
        refine AX.iload_n rfl rfl ?_
        refine AX.cVI rfl rfl rfl (M0 hm) (yM_stateOf hR hW hm k1) (fun h hm => ?_)
        refine AX.goto rfl ?_
        exact AX.ireturn rfl rfl ⟨by simp [yGroup, hg, hk, c1, c2], hm⟩ (Nat.le_refl _) (Nat.le_refl _)
    · exact absurd (c1.symm.trans hg) (by decide)
  · skip
    refine AX.aload_n rfl rfl ?_
    refine AX.iconstV (v := 0) rfl (by decide) ?_
    refine AX.putf rfl (M0 hm) (Nat.le_of_ble_eq_true rfl) rfl ?_
    refine AX.gen (G := isM p _) (MS hm 3 _ (by decide) rfl) (fun h hm => ?_)
    rw [mset_same hcode] at hm
    refine AX.aload_n rfl rfl ?_
    refine AX.iload_n rfl rfl ?_
    refine AX.cVI rfl rfl rfl (M0 hm) (yM_isGroup hR hW hm _) (fun h hm => ?_)
    refine AX.if_neB rfl (fun c1 => ?_) (fun c1 => ?_)
    · exact absurd c1 hg
    · refine AX.iconstV (v := (-1)) rfl (by decide) ?_
      exact AX.ireturn rfl rfl ⟨by simp [yGroup, hg], hm⟩ (Nat.le_refl _) (Nat.le_refl _)
def yMember (y : yT) (g k : Int32) : Int32 := if yIsG y g = true then (if k < 0 then -1 else if k < nI ((yG y).getD g.toNatClampNeg g0).1.length then nI (((yG y).getD g.toNatClampNeg g0).1.getD k.toNatClampNeg 0) else -1) else -1
theorem gLen_le (hW : WF y) {g : Nat} (hg : g < (yG y).length) : gB (yG y) g + ((yG y).getD g g0).1.length ≤ (gL (yG y)).length := by
  rw [gL_len, ← gB_succ hg]
  exact gB_le (by omega)
theorem yM_member (hR : RM y t) (hW : WF y) (hm : isM p t h) (g k : Int32) : AM (d + 2) kM_member 0 0 none [.ref 28, .int g, .int k] h (fun v h' => v = some (.int (yMember y g k)) ∧ isM p t h') := by
  have hcode := hR.1.1
  have hl := hW.gl
  by_cases hg : yIsG y g = true
  · obtain ⟨k1, k2⟩ := isC_k hl hg
    generalize hk : g.toNatClampNeg = q at k1 k2
    subst k2
    have h1 := gLen_le hW k1
    have h40 := hR.2.1.2.1
    refine AX.aload_n rfl rfl ?_
    refine AX.iconstV (v := 0) rfl (by decide) ?_
    refine AX.putf rfl (M0 hm) (Nat.le_of_ble_eq_true rfl) rfl ?_
    refine AX.gen (G := isM p _) (MS hm 3 _ (by decide) rfl) (fun h hm => ?_)
    rw [mset_same hcode] at hm
    refine AX.aload_n rfl rfl ?_
    refine AX.iload_n rfl rfl ?_
    refine AX.cVI rfl rfl rfl (M0 hm) (yM_isGroup hR hW hm _) (fun h hm => ?_)
    refine AX.if_eqB rfl (fun c1 => absurd (c1.symm.trans hg) (by decide)) (fun c1 => ?_)
    refine AX.iload_n rfl rfl ?_
    refine AX.if_lt rfl (fun c1 => ?_) (fun c1 => ?_)
    · refine AX.iconstV (v := (-1)) rfl (by decide) ?_
      refine AX.goto rfl ?_
      exact AX.ireturn rfl rfl ⟨by rw [yMember, if_pos hg, hk]; simp only [c1, if_true, if_false], hm⟩ (Nat.le_refl _) (Nat.le_refl _)
    · refine AX.iload_n rfl rfl ?_
      refine AX.aload_n rfl rfl ?_
      refine AX.iload_n rfl rfl ?_
      refine AX.cVI rfl rfl rfl (M0 hm) (yM_sizeOf hR hW hm k1) (fun h hm => ?_)
      refine AX.icmp_lt rfl (fun c2 => ?_) (fun c2 => ?_)
      · refine AX.aload_n rfl rfl ?_
        refine AX.getf rfl (M0 hm) rfl ?_
        refine AX.aload_n rfl rfl ?_
        refine AX.iload_n rfl rfl ?_
        refine AX.cVI rfl rfl rfl (M0 hm) (yM_startOf hR hW hm (Nat.le_of_lt k1)) (fun h hm => ?_)
        refine AX.iload_n rfl rfl ?_
        refine AX.iadd rfl ?_
        refine AX.ialdX rfl (MA hm 7 (by decide) (by decide) (by decide)) (by decide) (by obtain ⟨j, j1, j2, j3⟩ := i_pos c1; rw [j2, nI_ltI j1 (by omega)] at c2; exact ⟨gB (yG y) q + k.toNatClampNeg, by omega, by rw [j3, j2, nI_add], by rw [(hR.2.1.2.2.2 _ (by omega)).1, gL_at k1 (show k.toNatClampNeg < ((yG y).getD q g0).1.length by omega)]⟩) ?_
        exact AX.ireturn rfl rfl ⟨by rw [yMember, if_pos hg, hk]; simp only [c1, c2, if_true, if_false], hm⟩ (Nat.le_refl _) (Nat.le_refl _)
      · refine AX.iconstV (v := (-1)) rfl (by decide) ?_
        refine AX.goto rfl ?_
        exact AX.ireturn rfl rfl ⟨by rw [yMember, if_pos hg, hk]; simp only [c1, c2, if_true, if_false], hm⟩ (Nat.le_refl _) (Nat.le_refl _)
  · skip
    refine AX.aload_n rfl rfl ?_
    refine AX.iconstV (v := 0) rfl (by decide) ?_
    refine AX.putf rfl (M0 hm) (Nat.le_of_ble_eq_true rfl) rfl ?_
    refine AX.gen (G := isM p _) (MS hm 3 _ (by decide) rfl) (fun h hm => ?_)
    rw [mset_same hcode] at hm
    refine AX.aload_n rfl rfl ?_
    refine AX.iload_n rfl rfl ?_
    refine AX.cVI rfl rfl rfl (M0 hm) (yM_isGroup hR hW hm _) (fun h hm => ?_)
    refine AX.if_eqB rfl (fun c1 => ?_) (fun c1 => ?_)
    · refine AX.iconstV (v := (-1)) rfl (by decide) ?_
      refine AX.goto rfl ?_
      exact AX.ireturn rfl rfl ⟨by simp [yMember, hg], hm⟩ (Nat.le_refl _) (Nat.le_refl _)
    · exact absurd c1 hg
theorem yM_pause (hR : RM y t) (hm : isM p t h) (q : Int32) (hq : q = 0 ∨ q = 1) : AM d kM_pause 0 0 none [.ref 28, .int q] h (fun v h' => v = some (.int (bI (!decide (t.1 11 = q)))) ∧ isM p (mset t 11 q) h') := by
  have hcode := hR.1.1
  rcases hq with rfl | rfl
  · skip
    refine AX.aload_n rfl rfl ?_
    refine AX.iconstV (v := 0) rfl (by decide) ?_
    refine AX.putf rfl (M0 hm) (Nat.le_of_ble_eq_true rfl) rfl ?_
    refine AX.gen (G := isM p _) (MS hm 3 _ (by decide) rfl) (fun h hm => ?_)
    rw [mset_same hcode] at hm
    refine AX.aload_n rfl rfl ?_
    refine AX.getf rfl (M0 hm) rfl ?_
    refine AX.iload_n rfl rfl ?_
    refine AX.icmp_eq rfl (fun c1 => ?_) (fun c1 => ?_)
    · refine AX.iconstV (v := 0) rfl (by decide) ?_
      refine AX.istore_n rfl (by decide) ?_
      refine AX.aload_n rfl rfl ?_
      refine AX.iload_n rfl rfl ?_
      refine AX.putf rfl (M0 hm) (Nat.le_of_ble_eq_true rfl) rfl ?_
      refine AX.gen (G := isM p _) (MS hm 11 _ (by decide) rfl) (fun h hm => ?_)
      refine AX.iload_n rfl rfl ?_
      exact AX.zreturn rfl rfl (by decide) ⟨by simp [c1, bI], hm⟩ (Nat.le_refl _) (Nat.le_refl _)
    · refine AX.iconstV (v := 1) rfl (by decide) ?_
      refine AX.goto rfl ?_
      refine AX.istore_n rfl (by decide) ?_
      refine AX.aload_n rfl rfl ?_
      refine AX.iload_n rfl rfl ?_
      refine AX.putf rfl (M0 hm) (Nat.le_of_ble_eq_true rfl) rfl ?_
      refine AX.gen (G := isM p _) (MS hm 11 _ (by decide) rfl) (fun h hm => ?_)
      refine AX.iload_n rfl rfl ?_
      exact AX.zreturn rfl rfl (by decide) ⟨by simp [c1, bI], hm⟩ (Nat.le_refl _) (Nat.le_refl _)
  · skip
    refine AX.aload_n rfl rfl ?_
    refine AX.iconstV (v := 0) rfl (by decide) ?_
    refine AX.putf rfl (M0 hm) (Nat.le_of_ble_eq_true rfl) rfl ?_
    refine AX.gen (G := isM p _) (MS hm 3 _ (by decide) rfl) (fun h hm => ?_)
    rw [mset_same hcode] at hm
    refine AX.aload_n rfl rfl ?_
    refine AX.getf rfl (M0 hm) rfl ?_
    refine AX.iload_n rfl rfl ?_
    refine AX.icmp_eq rfl (fun c1 => ?_) (fun c1 => ?_)
    · refine AX.iconstV (v := 0) rfl (by decide) ?_
      refine AX.istore_n rfl (by decide) ?_
      refine AX.aload_n rfl rfl ?_
      refine AX.iload_n rfl rfl ?_
      refine AX.putf rfl (M0 hm) (Nat.le_of_ble_eq_true rfl) rfl ?_
      refine AX.gen (G := isM p _) (MS hm 11 _ (by decide) rfl) (fun h hm => ?_)
      refine AX.iload_n rfl rfl ?_
      exact AX.zreturn rfl rfl (by decide) ⟨by simp [c1, bI], hm⟩ (Nat.le_refl _) (Nat.le_refl _)
    · refine AX.iconstV (v := 1) rfl (by decide) ?_
      refine AX.goto rfl ?_
      refine AX.istore_n rfl (by decide) ?_
      refine AX.aload_n rfl rfl ?_
      refine AX.iload_n rfl rfl ?_
      refine AX.putf rfl (M0 hm) (Nat.le_of_ble_eq_true rfl) rfl ?_
      refine AX.gen (G := isM p _) (MS hm 11 _ (by decide) rfl) (fun h hm => ?_)
      refine AX.iload_n rfl rfl ?_
      exact AX.zreturn rfl rfl (by decide) ⟨by simp [c1, bI], hm⟩ (Nat.le_refl _) (Nat.le_refl _)
end MP
