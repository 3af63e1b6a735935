/-! The model's public methods, beside the class's -/
section PU
variable {y : yT} {z : zS} {t : mS} {p h : ax_H} {d : Nat}
def J (p : ax_H) (R : Int32) (z : zS) : Option Value → ax_H → Prop := fun v h' => v = some (.int R) ∧ ∃ y' t', INV y' z t' ∧ isM p t' h'
theorem J.same (hI : INV y z t) {D k : Nat} {as : List Value} {R R' : Int32} (hA : AM D k 0 0 none as h (fun v h' => v = some (.int R) ∧ isM p t h')) (e : R' = R) : AM D k 0 0 none as h (J p R' z) :=
  hA.imp (fun v h' q => ⟨by rw [e]; exact q.1, y, t, hI, q.2⟩)
theorem ok_where (hI : INV y z t) (hm : isM p t h) (c : Int32) : AM (d + 1) kM_where 0 0 none [.ref 28, .int c] h (J p (zat z 2 c) z) := J.same hI (yM_where hI.2.2.1 hI.1 hm c) (same_where hI.2.1 hI.1 c)
theorem ok_why (hI : INV y z t) (hm : isM p t h) (c : Int32) : AM (d + 1) kM_why 0 0 none [.ref 28, .int c] h (J p (zat z 3 c) z) := J.same hI (yM_why hI.2.2.1 hI.1 hm c) (same_why hI.2.1 hI.1 c)
theorem ok_landed (hI : INV y z t) (hm : isM p t h) (c : Int32) : AM d kM_landed 0 0 none [.ref 28, .int c] h (J p (zat z 7 c) z) := J.same hI (yM_landed hI.2.2.1 hI.1 hm c) (same_landed hI.2.1 hI.1 c)
theorem ok_waiting (hI : INV y z t) (hm : isM p t h) (c : Int32) : AM (d + 2) kM_waiting 0 0 none [.ref 28, .int c] h (J p (zat z 6 c) z) := J.same hI (yM_waiting hI.2.2.1 hI.1 hm c) (same_waiting hI.2.1 hI.2.2.1 hI.1 c)
theorem ok_by (hI : INV y z t) (hm : isM p t h) (c : Int32) : AM (d + 2) kM_by 0 0 none [.ref 28, .int c] h (J p (zQ_by z c) z) := J.same hI (yM_by hI.2.2.1 hI.1 hm c) (same_by hI.2.1 hI.1 c)
theorem ok_counted (hI : INV y z t) (hm : isM p t h) (c : Int32) : AM d kM_counted 0 0 none [.ref 28, .int c] h (J p (zQ_counted z c) z) := J.same hI (yM_counted hI.2.2.1 hI.1 hm c) (same_counted hI.2.1 hI.1 hI.2.2.2 c)
theorem ok_groups (hI : INV y z t) (hm : isM p t h) : AM (d + 1) kM_groups 0 0 none [.ref 28] h (J p (nI (z.2.1 10).length) z) := J.same hI (yM_groups hI.2.2.1 hI.1 hm) (same_groups hI.2.1)
theorem ok_group (hI : INV y z t) (hm : isM p t h) (g w : Int32) : AM (d + 2) kM_group 0 0 none [.ref 28, .int g, .int w] h (J p (zQ_group z g w) z) := J.same hI (yM_group hI.2.2.1 hI.1 hm g w) (same_group hI.2.1 hI.1 g w)
theorem ok_member (hI : INV y z t) (hm : isM p t h) (g k : Int32) : AM (d + 2) kM_member 0 0 none [.ref 28, .int g, .int k] h (J p (zG_member z g k) z) := J.same hI (yM_member hI.2.2.1 hI.1 hm g k) (same_member hI.2.1 hI.1 g k)
theorem ok_pause (hI : INV y z t) (hm : isM p t h) (q : Int32) (hq : q = 0 ∨ q = 1) : AM d kM_pause 0 0 none [.ref 28, .int q] h (J p (bI (zQ_pause z q).1) (zQ_pause z q).2) := by
  obtain ⟨e1, e2⟩ := op_pause hI hq
  exact (yM_pause hI.2.2.1 hm q hq).imp (fun v h' r => ⟨by rw [e1]; exact r.1, y, _, e2, r.2⟩)
theorem ok_answer (hI : INV y z t) (hm : isM p t h) (g q : Int32) : AM (d + 2) kM_answer 0 0 none [.ref 28, .int g, .int q] h (J p (zQ_answer z g q).1 (zQ_answer z g q).2) := by
  have hl := hI.1.gl
  by_cases hc : yIsG y g = true ∧ ((yG y).getD g.toNatClampNeg g0).2.1 = 1
  · obtain ⟨hg, h1⟩ := hc
    obtain ⟨k1, k2⟩ := isC_k hl hg
    generalize g.toNatClampNeg = i at *
    subst k2
    obtain ⟨e1, e2⟩ := op_answer hI k1 h1 q
    exact (yM_answer1 hI.2.2.1 hI.1 hm k1 h1 q).imp (fun v h' r => ⟨by rw [e1]; exact r.1, _, _, e2, r.2⟩)
  · have ez : zQ_answer z g q = (-1, z) := by
      unfold zQ_answer
      rw [if_neg]
      rw [(gat hI.2.1 hI.1 g).1]
      by_cases hg : yIsG y g = true
      · rw [if_pos hg]
        obtain ⟨k1, k2⟩ := isC_k hl hg
        intro e
        exact hc ⟨hg, (gis hI.1 k1 (k := 1) (by decide)).mp e⟩
      · rw [if_neg hg]; decide
    rw [ez]
    exact J.same hI (yM_answer0 hI.2.2.1 hI.1 hm g q hc) rfl
theorem ok_change (hI : INV y z t) (hm : isM p t h) (r q : Int32) : AM d kM_change 0 0 none [.ref 28, .int r, .int q] h (J p (zQ_change z r q).1 (zQ_change z r q).2) := by
  have hI0 := hI
  obtain ⟨hW, hC, hR, hS⟩ := hI
  have hcode := hR.1.1
  have hn4 : t.1 4 = nI (yn y) := hR.1.2.1
  have hn := hW.1
  have hlen : (z.2.1 2).length = yn y := by rw [hC.row 2 (by decide) (by decide)]; show ((List.range (yn y)).map _).length = _; rw [List.length_map, List.length_range]
  have bad : (r < 0 ∨ 9 < r ∨ ¬ nI (yn y) < 40) → zQ_change z r q = (-1, z) := by
    intro hb
    unfold zQ_change
    rw [hlen, if_pos hb]
  refine AX.aload_n rfl rfl ?_
  refine AX.iconstV (v := 0) rfl (by decide) ?_
  refine AX.putf rfl (M0 hm) (Nat.le_of_ble_eq_true rfl) rfl ?_
  refine AX.gen (G := isM p _) (MS hm 3 _ (by decide) rfl) (fun h hm => ?_)
  rw [mset_same hcode] at hm
  refine AX.aload_n rfl rfl ?_
  refine AX.getf rfl (M0 hm) rfl ?_
  refine AX.bipushV (v := 40) rfl (by decide) ?_
  refine AX.icmp_eq rfl (fun c1 => ?_) (fun c1 => ?_)
  · have hb := bad (by first | exact Or.inl c2 | exact Or.inr (Or.inl (Int32.not_le.mp c3)) | exact Or.inr (Or.inr (by rw [← hn4, c1]; decide)))
    refine AX.iconstV (v := (-1)) rfl (by decide) ?_
    exact AX.ireturn rfl rfl ⟨by rw [hb], y, t, by rw [hb]; exact hI0, hm⟩ (Nat.le_refl _) (Nat.le_refl _)
  · refine AX.iload_n rfl rfl ?_
    refine AX.if_lt rfl (fun c2 => ?_) (fun c2 => ?_)
    · have hb := bad (by first | exact Or.inl c2 | exact Or.inr (Or.inl (Int32.not_le.mp c3)) | exact Or.inr (Or.inr (by rw [← hn4, c1]; decide)))
      refine AX.iconstV (v := (-1)) rfl (by decide) ?_
      exact AX.ireturn rfl rfl ⟨by rw [hb], y, t, by rw [hb]; exact hI0, hm⟩ (Nat.le_refl _) (Nat.le_refl _)
    · refine AX.iload_n rfl rfl ?_
      refine AX.bipushV (v := 9) rfl (by decide) ?_
      refine AX.icmp_le rfl (fun c3 => ?_) (fun c3 => ?_)
      · have h40 : yn y < 40 := by
          rcases Nat.lt_or_ge (yn y) 40 with q | q
          · exact q
          · exact absurd (by rw [hn4, show yn y = 40 by omega]; rfl) c1
        obtain ⟨k, k1, k2, k3⟩ := i_pos c2
        have k9 : k ≤ 9 := by
          rw [k2] at c3
          exact (nI_leI k1 (by decide)).mp c3
        have hgo : zQ_change z r q = (nI (yn y), zQ_enq (zC_add z r q) (nI (yn y))) := by
          unfold zQ_change
          rw [hlen, if_neg (fun hb => by rcases hb with hb | hb | hb; exact c2 hb; exact absurd c3 (Int32.not_le.mpr hb); exact hb ((nI_ltI (by omega) (by decide)).mpr h40))]
        refine AX.aload_n rfl rfl ?_
        refine AX.getf rfl (M0 hm) rfl ?_
        refine AX.aload_n rfl rfl ?_
        refine AX.getf rfl (M0 hm) rfl ?_
        refine AX.iload_n rfl rfl ?_
        refine AX.iastX (yn y) rfl (MA hm 0 (by decide) (by decide) (by decide)) (by decide) (by omega) (hn4) ?_
        refine AX.gen (G := isM p _) (MW hm 0 _ _ (by decide) (by decide) (by decide)) (fun h hm => ?_)
        refine AX.aload_n rfl rfl ?_
        refine AX.getf rfl (M0 hm) rfl ?_
        refine AX.aload_n rfl rfl ?_
        refine AX.getf rfl (M0 hm) rfl ?_
        refine AX.iload_n rfl rfl ?_
        refine AX.iastX (yn y) rfl (MA hm 1 (by decide) (by decide) (by decide)) (by decide) (by omega) (hn4) ?_
        refine AX.gen (G := isM p _) (MW hm 1 _ _ (by decide) (by decide) (by decide)) (fun h hm => ?_)
        refine AX.aload_n rfl rfl ?_
        refine AX.getf rfl (M0 hm) rfl ?_
        refine AX.aload_n rfl rfl ?_
        refine AX.getf rfl (M0 hm) rfl ?_
        refine AX.iconstV (v := 0) rfl (by decide) ?_
        refine AX.iastX (yn y) rfl (MA hm 2 (by decide) (by decide) (by decide)) (by decide) (by omega) (hn4) ?_
        refine AX.gen (G := isM p _) (MW hm 2 _ _ (by decide) (by decide) (by decide)) (fun h hm => ?_)
        refine AX.aload_n rfl rfl ?_
        refine AX.dup rfl rfl ?_
        refine AX.getf rfl (M0 hm) rfl ?_
        refine AX.iconstV (v := 1) rfl (by decide) ?_
        refine AX.iadd rfl ?_
        refine AX.putf rfl (M0 hm) (Nat.le_of_ble_eq_true rfl) rfl ?_
        refine AX.gen (G := isM p _) (MS hm 4 _ (by decide) rfl) (fun h hm => ?_)
        refine AX.aload_n rfl rfl ?_
        refine AX.getf rfl (M0 hm) rfl ?_
        refine AX.iconstV (v := 1) rfl (by decide) ?_
        refine AX.isub rfl ?_
        exact AX.ireturn rfl rfl ⟨by rw [hgo]; show some (Value.int (t.1 4 + 1 - 1)) = _; rw [hn4, nI_1, show (1 : Int32) = nI 1 from rfl, pk_sub (by omega)]; rfl, _, _, by rw [hgo, k2]; exact op_change hI0 k9 h40 q, by rw [← k2]; unfold mAdd2; rw [← hn4]; exact hm⟩ (Nat.le_refl _) (Nat.le_refl _)
      · have hb := bad (by first | exact Or.inl c2 | exact Or.inr (Or.inl (Int32.not_le.mp c3)) | exact Or.inr (Or.inr (by rw [← hn4, c1]; decide)))
        refine AX.iconstV (v := (-1)) rfl (by decide) ?_
        exact AX.ireturn rfl rfl ⟨by rw [hb], y, t, by rw [hb]; exact hI0, hm⟩ (Nat.le_refl _) (Nat.le_refl _)
theorem ok_jump (hI : INV y z t) (hm : isM p t h) (c : Int32) : AM (d + 1) kM_jump 0 0 none [.ref 28, .int c] h (J p (bI (zQ_jump z c).1) (zQ_jump z c).2) := by
  have hI0 := hI
  obtain ⟨hW, hC, hR, hS⟩ := hI
  have hcode := hR.1.1
  have hn4 : t.1 4 = nI (yn y) := hR.1.2.1
  have hn := hW.1
  have a2 := same_where hC hW c
  by_cases hc : isC (yn y) c = true
  · obtain ⟨k1, k2⟩ := isC_k hn hc
    unfold yWhere at a2
    rw [if_pos hc] at a2
    generalize c.toNatClampNeg = k at *
    subst k2
    have w2 := hW.2.1 k k1
    obtain ⟨b1, b2, b3, b4, b5⟩ := hR.2.2.2.2.1 k k1
    have a4 : zat z 4 (nI k) = nI (ytn y k) := by
      rw [zat, hC.row 4 (by decide) (by decide)]
      show rAt ((List.range (yn y)).map (fun c => nI (ytn y c))) (nI k) = _
      rw [rAt_range hn, if_pos hc, nI_clamp (by omega)]
    have no1 : ¬ nI (ypl y k) = 0 → zQ_jump (z := z) (nI k) = (false, z) := by
      intro e
      unfold zQ_jump
      rw [a2, if_pos e]
    have hj : 0 < jp (ytn y k) ↔ ¬ ytn y k = 40 := by
      unfold jp
      by_cases e : ytn y k = 40
      · rw [if_pos e]; simp [e]
      · rw [if_neg e]; simp [e]
    have hle : nI (jp (ytn y k)) ≤ 0 ↔ ytn y k = 40 := by
      have h1 : nI (jp (ytn y k)) ≤ nI 0 ↔ jp (ytn y k) ≤ 0 := nI_leI (by unfold jp; split <;> omega) (by decide)
      constructor
      · intro e
        have := h1.mp e
        by_cases e2 : ytn y k = 40
        · exact e2
        · have := hj.mpr e2; omega
      · intro e
        rw [e]; decide
    have no2 : ¬ nI (jp (ytn y k)) ≤ 0 → zQ_jump (z := z) (nI k) = (false, z) := by
      intro e
      unfold zQ_jump
      by_cases e0 : ¬ zat z 2 (nI k) = 0
      · rw [if_pos e0]
      · have e4 : ¬ nI (ytn y k) = 40 := fun q => e (hle.mpr ((nI_eq (by omega) (by decide)).mp (show nI (ytn y k) = nI 40 from q)))
        rw [if_neg e0, if_pos]
        unfold zC_hasJumped
        rw [a4, decide_eq_false e4]; rfl
    have yes : nI (ypl y k) = 0 → nI (jp (ytn y k)) ≤ 0 → zQ_jump (z := z) (nI k) = (true, zQ_enq (zC_giveTurn (zQ_deq z (nI k)) (nI k)) (nI k)) := by
      intro e1 e2
      unfold zQ_jump
      rw [a2, if_neg (fun q => q e1), if_neg]
      unfold zC_hasJumped
      rw [a4, decide_eq_true (by rw [hle.mp e2]; rfl)]
      decide
    refine AX.aload_n rfl rfl ?_
    refine AX.iconstV (v := 0) rfl (by decide) ?_
    refine AX.putf rfl (M0 hm) (Nat.le_of_ble_eq_true rfl) rfl ?_
    refine AX.gen (G := isM p _) (MS hm 3 _ (by decide) rfl) (fun h hm => ?_)
    rw [mset_same hcode] at hm
    refine AX.aload_n rfl rfl ?_
    refine AX.iload_n rfl rfl ?_
    refine AX.cVI rfl rfl rfl (M0 hm) (sM_isChange hn4 hn hm _) (fun h hm => ?_)
    refine AX.if_eqB rfl (fun c => absurd (c.symm.trans hc) (by decide)) (fun _ => ?_)
    refine AX.aload_n rfl rfl ?_
    refine AX.getf rfl (M0 hm) rfl ?_
    refine AX.iload_n rfl rfl ?_
    refine AX.ialdX rfl (MA hm 2 (by decide) (by decide) (by decide)) (by decide) (⟨k, by omega, rfl, b2⟩) ?_
    refine AX.if_ne rfl (fun c1 => ?_) (fun c1 => ?_)
    · have hb : zQ_jump (z := z) (nI k) = (false, z) := by
        first
          | exact no1 c1
          | exact no2 c2
      refine AX.iconstV (v := 0) rfl (by decide) ?_
      exact AX.zreturn rfl rfl (by decide) ⟨by rw [hb]; rfl, y, t, by rw [hb]; exact hI0, hm⟩ (Nat.le_refl _) (Nat.le_refl _)
    · refine AX.aload_n rfl rfl ?_
      refine AX.getf rfl (M0 hm) rfl ?_
      refine AX.iload_n rfl rfl ?_
      refine AX.ialdX rfl (MA hm 3 (by decide) (by decide) (by decide)) (by decide) (⟨k, by omega, rfl, b5⟩) ?_
      refine AX.if_le rfl (fun c2 => ?_) (fun c2 => ?_)
      · refine AX.aload_n rfl rfl ?_
        refine AX.dup rfl rfl ?_
        refine AX.getf rfl (M0 hm) rfl ?_
        refine AX.iconstV (v := 1) rfl (by decide) ?_
        refine AX.iadd rfl ?_
        refine AX.putf rfl (M0 hm) (Nat.le_of_ble_eq_true rfl) rfl ?_
        refine AX.gen (G := isM p _) (MS hm 5 _ (by decide) rfl) (fun h hm => ?_)
        refine AX.aload_n rfl rfl ?_
        refine AX.getf rfl (M0 hm) rfl ?_
        refine AX.iload_n rfl rfl ?_
        refine AX.aload_n rfl rfl ?_
        refine AX.getf rfl (M0 hm) rfl ?_
        refine AX.iastX (k) rfl (MA hm 3 (by decide) (by decide) (by decide)) (by decide) (by omega) (rfl) ?_
        refine AX.gen (G := isM p _) (MW hm 3 _ _ (by decide) (by decide) (by decide)) (fun h hm => ?_)
        refine AX.iconstV (v := 1) rfl (by decide) ?_
        exact AX.zreturn rfl rfl (by decide) ⟨by rw [yes c1 c2]; rfl, _, _, by rw [yes c1 c2]; exact op_jump hI0 k1 ((nI_eq (by omega) (by decide)).mp (show nI (ypl y k) = nI 0 from c1)) (hle.mp c2), hm⟩ (Nat.le_refl _) (Nat.le_refl _)
      · have hb : zQ_jump (z := z) (nI k) = (false, z) := by
          first
            | exact no1 c1
            | exact no2 c2
        refine AX.iconstV (v := 0) rfl (by decide) ?_
        exact AX.zreturn rfl rfl (by decide) ⟨by rw [hb]; rfl, y, t, by rw [hb]; exact hI0, hm⟩ (Nat.le_refl _) (Nat.le_refl _)
  · unfold yWhere at a2
    rw [if_neg hc] at a2
    have hb : zQ_jump z c = (false, z) := by
      unfold zQ_jump
      rw [a2, if_pos (by decide)]
    rw [hb]
    refine AX.aload_n rfl rfl ?_
    refine AX.iconstV (v := 0) rfl (by decide) ?_
    refine AX.putf rfl (M0 hm) (Nat.le_of_ble_eq_true rfl) rfl ?_
    refine AX.gen (G := isM p _) (MS hm 3 _ (by decide) rfl) (fun h hm => ?_)
    rw [mset_same hcode] at hm
    refine AX.aload_n rfl rfl ?_
    refine AX.iload_n rfl rfl ?_
    refine AX.cVI rfl rfl rfl (M0 hm) (sM_isChange hn4 hn hm _) (fun h hm => ?_)
    refine AX.if_eqB rfl (fun _ => ?_) (fun c => absurd c hc)
    refine AX.iconstV (v := 0) rfl (by decide) ?_
    exact AX.zreturn rfl rfl (by decide) ⟨rfl, y, t, hI0, hm⟩ (Nat.le_refl _) (Nat.le_refl _)
end PU
