/-! step -/
section ST
variable {y : yT} {z : zS} {t : mS} {p h : ax_H} {d : Nat}
theorem ok_ask (hI : INV y z t) (hm : isM p t h) : AM (d + 2) kM_ask 0 0 none [.ref 28] h (fun v h' => v = some (.int (bI (zQ_ask z).1)) ∧ ∃ y' t', INV y' (zQ_ask z).2 t' ∧ isM p t' h') := by
  obtain ⟨e1, e2, e3⟩ := op_ask hI
  rw [e1]
  refine (yM_ask hI.2.2.1 hI.1 hm).imp (fun v h' r => ⟨r.1, ?_⟩)
  have r2 := r.2
  unfold mAsk at r2
  by_cases ha : yAsk y (t.1 1) = true
  · rw [if_pos ha] at r2
    exact ⟨_, _, e2 ha, r2⟩
  · rw [if_neg ha] at r2
    have hb : yAsk y (t.1 1) = false := by cases hq : yAsk y (t.1 1) with
      | true => exact absurd hq ha
      | false => rfl
    exact ⟨y, t, by rw [e3 hb]; exact hI, r2⟩
theorem ok_form (hI : INV y z t) (hm : isM p t h) : AM (d + 2) kM_form 0 0 none [.ref 28] h (fun v h' => v = some (.int (bI (zQ_form z).1)) ∧ ∃ y' t', INV y' (zQ_form z).2 t' ∧ isM p t' h') := by
  have hI0 := hI
  obtain ⟨hW, hC, hR, hS⟩ := hI
  have hz1 : z.1 1 = t.1 1 := hS.2.1
  have hz0 : z.1 0 = t.1 0 := hS.1
  obtain ⟨mst, m1, m2, m3⟩ := hS.2.2.2.2.2.2.2.2.2.1
  have hl : nI (z.2.1 10).length = nI (yG y).length := same_groups hC
  by_cases hw : nI (yG y).length < t.1 1
  · have ez : zQ_form z = zFormE (zForm (z.2.1 6).length 0 0 z) := by
      unfold zQ_form
      rw [hl, hz1, if_pos hw]
    obtain ⟨f1, f2, f3, f4⟩ := op_formC hW hC (hz0.trans m1) m3
    rw [ez, f1]
    refine (yM_form1 hR hW hm m3 m1 hw).imp (fun v h' r => ⟨r.1, ?_⟩)
    obtain ⟨-, t', r1, r2, r3, r4⟩ := r
    have hsub : (ySel y mst).Sublist (yQ y) := sel_sub _ _ _ _
    refine ⟨yF y (ySel y mst), t', ⟨hW.form (hW.qn.sublist hsub) (fun c hc => hsub.subset hc), f2, r2, ?_⟩, r1⟩
    exact RS.cong hS rfl (fun i _ _ => by rw [f3]) f4 (fun q hq => r3 q (by omega)) r4
  · have ez : zQ_form z = (false, z) := by
      unfold zQ_form
      rw [hl, hz1, if_neg hw]
    rw [ez]
    exact (yM_form0 hR hW hm hw).imp (fun v h' r => ⟨r.1, y, t, hI0, r.2⟩)
theorem ok_land (hI : INV y z t) (hm : isM p t h) (h0 : 0 < (yG y).length) : AM (d + 3) kM_land 0 0 none [.ref 28] h (fun v h' => v = none ∧ ∃ y' t', INV y' (zQ_land z) t' ∧ isM p t' h') :=
  (yM_land hI.2.2.1 hI.1 hm h0).imp (fun v h' r => ⟨r.1, _, _, op_land hI h0, r.2⟩)
theorem ok_halve (hI : INV y z t) (hm : isM p t h) (h0 : 0 < (yG y).length) : AM (d + 2) kM_halve 0 0 none [.ref 28] h (fun v h' => v = none ∧ ∃ y' t', INV y' (zQ_halve z) t' ∧ isM p t' h') := by
  have h1 := (g1 hI.1 h0).1
  by_cases h2 : ((yG y).getD 0 g0).1.length = 1
  · exact (yM_halve1 hI.2.2.1 hI.1 hm h0 h2).imp (fun v h' r => ⟨r.1, _, _, op_halve1 hI h0 h2, r.2⟩)
  · exact (yM_halve2 hI.2.2.1 hI.1 hm h0 (by omega)).imp (fun v h' r => ⟨r.1, _, _, op_halve2 hI h0 (by omega), r.2⟩)
theorem ok_step_t (hI : INV y z t) (hm : isM p t h) (h3 : ¬ zat z 10 0 = 3) (h2 : ¬ zat z 10 0 = 2) (x : Int32) : AX (d + 4) kM_step 0 0 none 56 [(1, .int x), (0, .ref 28)] [] h 0 0 (ax_ret kM_step 0 0 (J p (zQ_step z).1 (zQ_step z).2)) := by
  have hI0 := hI
  have hz3 : z.1 3 = t.1 11 := hI.2.2.2.2.2.2.1
  have e0 : ¬ t.1 11 = 0 → zQ_step z = (0, z) := by
    intro e
    unfold zQ_step
    rw [if_neg h3, if_neg h2, hz3, if_neg e]
  have e1 : t.1 11 = 0 → (zQ_ask z).1 = true → zQ_step z = (3, (zQ_ask z).2) := by
    intro e q
    unfold zQ_step
    rw [if_neg h3, if_neg h2, hz3, if_pos e, if_pos q]
  have e2 : t.1 11 = 0 → (zQ_ask z).1 = false → (zQ_form (zQ_ask z).2).1 = true → zQ_step z = (4, (zQ_form (zQ_ask z).2).2) := by
    intro e q r
    unfold zQ_step
    rw [if_neg h3, if_neg h2, hz3, if_pos e, q, if_neg (by decide), if_pos r]
  have e4 : t.1 11 = 0 → (zQ_ask z).1 = false → (zQ_form (zQ_ask z).2).1 = false → zQ_step z = (0, (zQ_form (zQ_ask z).2).2) := by
    intro e q r
    unfold zQ_step
    rw [if_neg h3, if_neg h2, hz3, if_pos e, q, if_neg (by decide), r, if_neg (by decide)]
  refine AX.aload_n rfl rfl ?_
  refine AX.getf rfl (M0 hm) rfl ?_
  refine AX.if_eq rfl (fun c1 => ?_) (fun c1 => ?_)
  · refine AX.aload_n rfl rfl ?_
    refine AX.cVI rfl rfl rfl (M0 hm) (ok_ask hI0 hm) (fun h hJ => ?_)
    obtain ⟨y2, t2, hI2, hm⟩ := hJ
    refine AX.if_eqB rfl (fun c2 => ?_) (fun c2 => ?_)
    · refine AX.aload_n rfl rfl ?_
      refine AX.cVI rfl rfl rfl (M0 hm) (ok_form hI2 hm) (fun h hJ => ?_)
      obtain ⟨y3, t3, hI3, hm⟩ := hJ
      refine AX.if_eqB rfl (fun c3 => ?_) (fun c3 => ?_)
      · refine AX.iconstV (v := 0) rfl (by decide) ?_
        exact AX.ireturn rfl rfl ⟨by first | rw [e4 c1 c2 c3] | rw [e2 c1 c2 c3] | rw [e1 c1 c2] | rw [e0 c1], by first | (rw [e4 c1 c2 c3]; exact ⟨_, _, hI3, hm⟩) | (rw [e2 c1 c2 c3]; exact ⟨_, _, hI3, hm⟩) | (rw [e1 c1 c2]; exact ⟨_, _, hI2, hm⟩) | (rw [e0 c1]; exact ⟨_, _, hI0, hm⟩)⟩ (Nat.le_refl _) (Nat.le_refl _)
      · refine AX.iconstV (v := 4) rfl (by decide) ?_
        refine AX.goto rfl ?_
        exact AX.ireturn rfl rfl ⟨by first | rw [e4 c1 c2 c3] | rw [e2 c1 c2 c3] | rw [e1 c1 c2] | rw [e0 c1], by first | (rw [e4 c1 c2 c3]; exact ⟨_, _, hI3, hm⟩) | (rw [e2 c1 c2 c3]; exact ⟨_, _, hI3, hm⟩) | (rw [e1 c1 c2]; exact ⟨_, _, hI2, hm⟩) | (rw [e0 c1]; exact ⟨_, _, hI0, hm⟩)⟩ (Nat.le_refl _) (Nat.le_refl _)
    · refine AX.iconstV (v := 3) rfl (by decide) ?_
      refine AX.goto rfl ?_
      exact AX.ireturn rfl rfl ⟨by first | rw [e4 c1 c2 c3] | rw [e2 c1 c2 c3] | rw [e1 c1 c2] | rw [e0 c1], by first | (rw [e4 c1 c2 c3]; exact ⟨_, _, hI3, hm⟩) | (rw [e2 c1 c2 c3]; exact ⟨_, _, hI3, hm⟩) | (rw [e1 c1 c2]; exact ⟨_, _, hI2, hm⟩) | (rw [e0 c1]; exact ⟨_, _, hI0, hm⟩)⟩ (Nat.le_refl _) (Nat.le_refl _)
  · refine AX.iconstV (v := 0) rfl (by decide) ?_
    refine AX.goto rfl ?_
    exact AX.ireturn rfl rfl ⟨by first | rw [e4 c1 c2 c3] | rw [e2 c1 c2 c3] | rw [e1 c1 c2] | rw [e0 c1], by first | (rw [e4 c1 c2 c3]; exact ⟨_, _, hI3, hm⟩) | (rw [e2 c1 c2 c3]; exact ⟨_, _, hI3, hm⟩) | (rw [e1 c1 c2]; exact ⟨_, _, hI2, hm⟩) | (rw [e0 c1]; exact ⟨_, _, hI0, hm⟩)⟩ (Nat.le_refl _) (Nat.le_refl _)
theorem ok_step (hI : INV y z t) (hm : isM p t h) : AM (d + 4) kM_step 0 0 none [.ref 28] h (J p (zQ_step z).1 (zQ_step z).2) := by
  have hI0 := hI
  obtain ⟨hW, hC, hR, hS⟩ := hI
  have hcode := hR.1.1
  have h6 : t.1 6 = nI (gL (yG y)).length := hR.2.1.1
  have h40 := hR.2.1.2.1
  by_cases h0 : 0 < (yG y).length
  · have a10 : zat z 10 0 = nI ((yG y).getD 0 g0).2.1 := (gatN hC hW h0).1
    have hpos : ¬ t.1 6 ≤ 0 := by
      have := (g1 hW h0).2.2.2.2.2
      rw [h6]
      exact nI_ge (a := 0) (by omega) (by omega)
    have e3 : nI ((yG y).getD 0 g0).2.1 = 3 → zQ_step z = (1, zQ_land z) := by
      intro e
      unfold zQ_step
      rw [a10, if_pos e]
    have e2 : ¬ nI ((yG y).getD 0 g0).2.1 = 3 → nI ((yG y).getD 0 g0).2.1 = 2 → zQ_step z = (2, zQ_halve z) := by
      intro q e
      unfold zQ_step
      rw [a10, if_neg q, if_pos e]
    refine AX.aload_n rfl rfl ?_
    refine AX.iconstV (v := 0) rfl (by decide) ?_
    refine AX.putf rfl (M0 hm) (Nat.le_of_ble_eq_true rfl) rfl ?_
    refine AX.gen (G := isM p _) (MS hm 3 _ (by decide) rfl) (fun h hm => ?_)
    rw [mset_same hcode] at hm
    refine AX.aload_n rfl rfl ?_
    refine AX.getf rfl (M0 hm) rfl ?_
    refine AX.if_le rfl (fun c => absurd c hpos) (fun _ => ?_)
    refine AX.iconstV (v := 1) rfl (by decide) ?_
    refine AX.goto rfl ?_
    refine AX.istore_n rfl (by decide) ?_
    refine AX.iload_n rfl rfl ?_
    refine AX.if_eq rfl (fun cx => absurd cx (by decide)) (fun _ => ?_)
    refine AX.aload_n rfl rfl ?_
    refine AX.iconstV (v := 0) rfl (by decide) ?_
    refine AX.cVI rfl rfl rfl (M0 hm) (yM_stateOf0 hR hW hm h0) (fun h hm => ?_)
    refine AX.iconstV (v := 3) rfl (by decide) ?_
    refine AX.icmp_ne rfl (fun c1 => ?_) (fun c1 => ?_)
    · refine AX.iload_n rfl rfl ?_
      refine AX.if_eq rfl (fun cx => absurd cx (by decide)) (fun _ => ?_)
      refine AX.aload_n rfl rfl ?_
      refine AX.iconstV (v := 0) rfl (by decide) ?_
      refine AX.cVI rfl rfl rfl (M0 hm) (yM_stateOf0 hR hW hm h0) (fun h hm => ?_)
      refine AX.iconstV (v := 2) rfl (by decide) ?_
      refine AX.icmp_ne rfl (fun c2 => ?_) (fun c2 => ?_)
      · exact ok_step_t hI0 hm (by rw [a10]; exact c1) (by rw [a10]; exact c2) _
      · refine AX.aload_n rfl rfl ?_
        refine AX.cVV rfl rfl rfl (M0 hm) (ok_halve hI0 hm h0) (fun h hJ => ?_)
        obtain ⟨y2, t2, hI2, hm⟩ := hJ
        refine AX.iconstV (v := 2) rfl (by decide) ?_
        exact AX.ireturn rfl rfl ⟨by rw [e2 c1 c2], by rw [e2 c1 c2]; exact ⟨_, _, hI2, hm⟩⟩ (Nat.le_refl _) (Nat.le_refl _)
    · refine AX.aload_n rfl rfl ?_
      refine AX.cVV rfl rfl rfl (M0 hm) (ok_land hI0 hm h0) (fun h hJ => ?_)
      obtain ⟨y2, t2, hI2, hm⟩ := hJ
      refine AX.iconstV (v := 1) rfl (by decide) ?_
      exact AX.ireturn rfl rfl ⟨by rw [e3 c1], by rw [e3 c1]; exact ⟨_, _, hI2, hm⟩⟩ (Nat.le_refl _) (Nat.le_refl _)
  · have hG : yG y = [] := List.length_eq_zero_iff.mp (by omega)
    have a10 : zat z 10 0 = -1 := by
      rw [(gat hC hW 0).1, if_neg]
      unfold yIsG
      rw [hG]
      decide
    have hle : t.1 6 ≤ 0 := by rw [h6, hG]; decide
    refine AX.aload_n rfl rfl ?_
    refine AX.iconstV (v := 0) rfl (by decide) ?_
    refine AX.putf rfl (M0 hm) (Nat.le_of_ble_eq_true rfl) rfl ?_
    refine AX.gen (G := isM p _) (MS hm 3 _ (by decide) rfl) (fun h hm => ?_)
    rw [mset_same hcode] at hm
    refine AX.aload_n rfl rfl ?_
    refine AX.getf rfl (M0 hm) rfl ?_
    refine AX.if_le rfl (fun _ => ?_) (fun c => absurd hle c)
    refine AX.iconstV (v := 0) rfl (by decide) ?_
    refine AX.istore_n rfl (by decide) ?_
    refine AX.iload_n rfl rfl ?_
    refine AX.if_eq rfl (fun _ => ?_) (fun cx => absurd cx (by decide))
    refine AX.iload_n rfl rfl ?_
    refine AX.if_eq rfl (fun _ => ?_) (fun cx => absurd cx (by decide))
    exact ok_step_t hI0 hm (by rw [a10]; decide) (by rw [a10]; decide) _
end ST
