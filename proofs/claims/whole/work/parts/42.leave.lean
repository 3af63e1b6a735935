/-! leave and conflict -/
section LV
variable {y : yT} {z : zS} {t : mS} {p h : ax_H} {d : Nat}
theorem LaneOk.anI (hW : WF y) (hR : RM y t) {i : Nat} (hi : i ≤ (yG y).length) : LaneOk (mAn (gL (yG y)) (gF (yG y)) (gB (yG y) i) t) (gL (yG y)) (gF (yG y)) := by
  have h : LaneOk (mAn (gL (yG y)) (gF (yG y)) (gB (yG y) i) t) (gL (gAn (yG y) i)) (gF (gAn (yG y) i)) := (RM.anew hW hR hi).2.1
  rw [gAn_L, gAn_F] at h
  exact h
theorem g_find {G : List gT} {c : Nat} (h : c ∈ gL G) : ∃ i j, i < G.length ∧ j < (G.getD i g0).1.length ∧ (G.getD i g0).1.getD j 0 = c := by
  obtain ⟨g, hg, hc⟩ := List.mem_flatMap.mp h
  obtain ⟨i, hi⟩ := List.getElem?_of_mem hg
  obtain ⟨j, hj⟩ := List.getElem?_of_mem hc
  have hil := (List.getElem?_eq_some_iff.mp hi).1
  have hjl := (List.getElem?_eq_some_iff.mp hj).1
  have e : G.getD i g0 = g := by rw [List.getD_eq_getElem?_getD, hi]; rfl
  refine ⟨i, j, hil, by rw [e]; exact hjl, ?_⟩
  rw [e, List.getD_eq_getElem?_getD, hj]; rfl
def mLv (y : yT) (t : mS) (i j c : Nat) : mS := marr (marr (mGo (mAn (gL (yG y)) (gF (yG y)) (gB (yG y) i) t) (gL (yG y)) (gF (yG y)) (gB (yG y) i + j)) 2 c 3) 4 c 3
theorem yM_leave_l (hR : RM y t) (hW : WF y) {i j c : Nat} (hi : i < (yG y).length) (hj : j < ((yG y).getD i g0).1.length) (hc : c < 40) : ∀ (m : Nat) (h : ax_H), isM p t h → m ≤ j →
    AX (d + 1) kM_leave 0 0 none 52 [(3, .int (nI (gB (yG y) i + m))), (2, .int (nI (gB (yG y) i + j))), (0, .ref 28), (1, .int (nI c))] [] h 0 0 (ax_ret kM_leave 0 0 (fun v h' => v = some (.int 1) ∧ isM p (mLv y t i j c) h')) := by
  have hlen := gLen_le hW hi
  have h40 := hR.2.1.2.1
  have hLa := LaneOk.anI hW hR (Nat.le_of_lt hi)
  intro m
  induction m with
  | zero =>
    intro h hm hb
    have h2 := hR.2.1.2.2.2 (gB (yG y) i + 0) (by omega)
    have hf : (gF (yG y)).getD (gB (yG y) i + 0) false = true := by rw [gF_at hi (by omega)]; rfl
    refine AX.aload_n rfl rfl ?_
    refine AX.getf rfl (M0 hm) rfl ?_
    refine AX.aload_n rfl rfl ?_
    refine AX.getf rfl (M0 hm) rfl ?_
    refine AX.iload_n rfl rfl ?_
    refine AX.ialdX rfl (MA hm 7 (by decide) (by decide) (by decide)) (by decide) (⟨gB (yG y) i + 0, by omega, rfl, h2.1⟩) ?_
    refine AX.zaldX rfl (MA9 hm) (by decide) (⟨_, h2.2.1, rfl, h2.2.2⟩) ?_
    refine AX.if_neB rfl (fun _ => ?_) (fun c => absurd (c.symm.trans hf) (by decide))
    refine AX.aload_n rfl rfl ?_
    refine AX.iload_n rfl rfl ?_
    refine AX.cVV rfl rfl rfl (M0 hm) (sM_beginAnew hR.2.1 hm (by omega)) (fun h hm => ?_)
    refine AX.aload_n rfl rfl ?_
    refine AX.iload_n rfl rfl ?_
    refine AX.cVV rfl rfl rfl (M0 hm) (sM_goFrom hLa hm (by omega)) (fun h hm => ?_)
    refine AX.aload_n rfl rfl ?_
    refine AX.getf rfl (M0 hm) rfl ?_
    refine AX.iload_n rfl rfl ?_
    refine AX.iconstV (v := 3) rfl (by decide) ?_
    refine AX.iastX (c) rfl (MA hm 2 (by decide) (by decide) (by decide)) (by decide) (hc) (rfl) ?_
    refine AX.gen (G := isM p _) (MW hm 2 _ _ (by decide) (by decide) (by decide)) (fun h hm => ?_)
    refine AX.aload_n rfl rfl ?_
    refine AX.getf rfl (M0 hm) rfl ?_
    refine AX.iload_n rfl rfl ?_
    refine AX.iconstV (v := 3) rfl (by decide) ?_
    refine AX.iastX (c) rfl (MA hm 4 (by decide) (by decide) (by decide)) (by decide) (hc) (rfl) ?_
    refine AX.gen (G := isM p _) (MW hm 4 _ _ (by decide) (by decide) (by decide)) (fun h hm => ?_)
    refine AX.iconstV (v := 1) rfl (by decide) ?_
    exact AX.zreturn rfl rfl (by decide) ⟨rfl, hm⟩ (Nat.le_refl _) (Nat.le_refl _)
  | succ m ih =>
    intro h hm hb
    have h2 := hR.2.1.2.2.2 (gB (yG y) i + (m + 1)) (by omega)
    have hf : (gF (yG y)).getD (gB (yG y) i + (m + 1)) false = false := by rw [gF_at hi (by omega)]; rfl
    refine AX.aload_n rfl rfl ?_
    refine AX.getf rfl (M0 hm) rfl ?_
    refine AX.aload_n rfl rfl ?_
    refine AX.getf rfl (M0 hm) rfl ?_
    refine AX.iload_n rfl rfl ?_
    refine AX.ialdX rfl (MA hm 7 (by decide) (by decide) (by decide)) (by decide) (⟨gB (yG y) i + (m + 1), by omega, rfl, h2.1⟩) ?_
    refine AX.zaldX rfl (MA9 hm) (by decide) (⟨_, h2.2.1, rfl, h2.2.2⟩) ?_
    refine AX.if_neB rfl (fun c => absurd (c.symm.trans hf) (by decide)) (fun _ => ?_)
    refine AX.iincV (dn := (-1)) rfl rfl (by decide) (by decide) ?_
    refine AX.goto rfl ?_
    rw [nI_dec, show (1 : Int32) = nI 1 from rfl, pk_sub (by omega), show gB (yG y) i + (m + 1) - 1 = gB (yG y) i + m by omega]
    exact ih h hm (by omega)
theorem ok_leave (hI : INV y z t) (hm : isM p t h) (c : Int32) : AM (d + 1) kM_leave 0 0 none [.ref 28, .int c] h (J p (bI (zQ_leave z c).1) (zQ_leave z c).2) := by
  have hI0 := hI
  obtain ⟨hW, hC, hR, hS⟩ := hI
  have hcode := hR.1.1
  have hn4 : t.1 4 = nI (yn y) := hR.1.2.1
  have hn := hW.1
  have a2 := same_where hC hW c
  by_cases hc : isC (yn y) c = true
  · obtain ⟨k1, k2⟩ := isC_k hn hc
    unfold yWhere at a2
    rw [if_pos hc] at a2
    generalize c.toNatClampNeg = k at *
    subst k2
    have w2 := hW.2.1 k k1
    obtain ⟨b1, b2, b3, b4, b5⟩ := hR.2.2.2.2.1 k k1
    by_cases p0 : ypl y k = 0
    · have q0 : nI (ypl y k) = 0 := by rw [p0]; rfl
      have ez : zQ_leave z (nI k) = (true, zC_putOut (zQ_deq z (nI k)) (nI k) 3) := by
        unfold zQ_leave
        rw [a2, if_pos q0]
      rw [ez]
      have q1 : ¬ nI (ypl y k) = 1 := by rw [p0]; decide
      refine AX.aload_n rfl rfl ?_
      refine AX.iconstV (v := 0) rfl (by decide) ?_
      refine AX.putf rfl (M0 hm) (Nat.le_of_ble_eq_true rfl) rfl ?_
      refine AX.gen (G := isM p _) (MS hm 3 _ (by decide) rfl) (fun h hm => ?_)
      rw [mset_same hcode] at hm
      refine AX.aload_n rfl rfl ?_
      refine AX.iload_n rfl rfl ?_
      refine AX.cVI rfl rfl rfl (M0 hm) (sM_isChange hn4 hn hm _) (fun h hm => ?_)
      refine AX.if_eqB rfl (fun c => absurd (c.symm.trans hc) (by decide)) (fun _ => ?_)
      refine AX.aload_n rfl rfl ?_
      refine AX.getf rfl (M0 hm) rfl ?_
      refine AX.iload_n rfl rfl ?_
      refine AX.ialdX rfl (MA hm 2 (by decide) (by decide) (by decide)) (by decide) (⟨k, by omega, rfl, b2⟩) ?_
      refine AX.if_eq rfl (fun _ => ?_) (fun c => absurd q0 c)
      refine AX.aload_n rfl rfl ?_
      refine AX.getf rfl (M0 hm) rfl ?_
      refine AX.iload_n rfl rfl ?_
      refine AX.ialdX rfl (MA hm 2 (by decide) (by decide) (by decide)) (by decide) (⟨k, by omega, rfl, b2⟩) ?_
      refine AX.iconstV (v := 1) rfl (by decide) ?_
      refine AX.icmp_ne rfl (fun _ => ?_) (fun c => absurd c q1)
      refine AX.aload_n rfl rfl ?_
      refine AX.getf rfl (M0 hm) rfl ?_
      refine AX.iload_n rfl rfl ?_
      refine AX.iconstV (v := 3) rfl (by decide) ?_
      refine AX.iastX (k) rfl (MA hm 2 (by decide) (by decide) (by decide)) (by decide) (by omega) (rfl) ?_
      refine AX.gen (G := isM p _) (MW hm 2 _ _ (by decide) (by decide) (by decide)) (fun h hm => ?_)
      refine AX.aload_n rfl rfl ?_
      refine AX.getf rfl (M0 hm) rfl ?_
      refine AX.iload_n rfl rfl ?_
      refine AX.iconstV (v := 3) rfl (by decide) ?_
      refine AX.iastX (k) rfl (MA hm 4 (by decide) (by decide) (by decide)) (by decide) (by omega) (rfl) ?_
      refine AX.gen (G := isM p _) (MW hm 4 _ _ (by decide) (by decide) (by decide)) (fun h hm => ?_)
      refine AX.iconstV (v := 1) rfl (by decide) ?_
      exact AX.zreturn rfl rfl (by decide) ⟨rfl, _, _, op_leaveQ hI0 k1 p0, hm⟩ (Nat.le_refl _) (Nat.le_refl _)
    · have q0 : ¬ nI (ypl y k) = 0 := fun e => p0 ((nI_eq (by omega) (by decide)).mp (show nI (ypl y k) = nI 0 from e))
      by_cases p1 : ypl y k = 1
      · have q1 : nI (ypl y k) = 1 := by rw [p1]; rfl
        have ez : zQ_leave z (nI k) = (true, zC_putOut (zG_take z (nI k)) (nI k) 3) := by
          unfold zQ_leave
          rw [a2, if_neg q0, if_pos q1]
        rw [ez]
        have hkL : k ∈ gL (yG y) := (hW.2.2.2.2.2.2.2.2.2.2.1 k).mpr ⟨k1, p1⟩
        obtain ⟨i, j, hi, hj, hv⟩ := g_find hkL
        have hlen := gLen_le hW hi
        have h40 := hR.2.1.2.1
        have hnd := hW.2.2.2.2.2.2.2.2.2.1
        have hLv : (gL (yG y)).getD (gB (yG y) i + j) 0 = k := by rw [gL_at hi hj]; exact hv
        have hun : ∀ q, q < gB (yG y) i + j → (gL (yG y)).getD q 0 ≠ k := by
          intro q hq e
          rw [← hLv, List.getD_eq_getElem?_getD, List.getElem?_eq_getElem (by omega), List.getD_eq_getElem?_getD, List.getElem?_eq_getElem (by omega)] at e
          have := nd_inj (i := q) (j := gB (yG y) i + j) hnd (by omega) (by omega) (by simpa using e)
          omega
        have hop := (op_take hI0 hi hj hv (Or.inr rfl) (r := 3)).1
        have hM : AM (d + 1) kM_leave 0 0 none [.ref 28, .int (nI k)] h (fun v h' => v = some (.int 1) ∧ isM p (mLv y t i j k) h') := by
          refine AX.aload_n rfl rfl ?_
          refine AX.iconstV (v := 0) rfl (by decide) ?_
          refine AX.putf rfl (M0 hm) (Nat.le_of_ble_eq_true rfl) rfl ?_
          refine AX.gen (G := isM p _) (MS hm 3 _ (by decide) rfl) (fun h hm => ?_)
          rw [mset_same hcode] at hm
          refine AX.aload_n rfl rfl ?_
          refine AX.iload_n rfl rfl ?_
          refine AX.cVI rfl rfl rfl (M0 hm) (sM_isChange hn4 hn hm _) (fun h hm => ?_)
          refine AX.if_eqB rfl (fun c => absurd (c.symm.trans hc) (by decide)) (fun _ => ?_)
          refine AX.aload_n rfl rfl ?_
          refine AX.getf rfl (M0 hm) rfl ?_
          refine AX.iload_n rfl rfl ?_
          refine AX.ialdX rfl (MA hm 2 (by decide) (by decide) (by decide)) (by decide) (⟨k, by omega, rfl, b2⟩) ?_
          refine AX.if_eq rfl (fun c => absurd c q0) (fun _ => ?_)
          refine AX.aload_n rfl rfl ?_
          refine AX.getf rfl (M0 hm) rfl ?_
          refine AX.iload_n rfl rfl ?_
          refine AX.ialdX rfl (MA hm 2 (by decide) (by decide) (by decide)) (by decide) (⟨k, by omega, rfl, b2⟩) ?_
          refine AX.iconstV (v := 1) rfl (by decide) ?_
          refine AX.icmp_eq rfl (fun _ => ?_) (fun c => absurd q1 c)
          refine AX.aload_n rfl rfl ?_
          refine AX.getf rfl (M0 hm) rfl ?_
          refine AX.iload_n rfl rfl ?_
          refine AX.ialdX rfl (MA hm 2 (by decide) (by decide) (by decide)) (by decide) (⟨k, by omega, rfl, b2⟩) ?_
          refine AX.iconstV (v := 1) rfl (by decide) ?_
          refine AX.icmp_ne rfl (fun c => absurd q1 c) (fun _ => ?_)
          refine AX.aload_n rfl rfl ?_
          refine AX.iload_n rfl rfl ?_
          refine AX.cVI rfl rfl rfl (M0 hm) (sM_inLane hR.2.1 (by omega) hLv (by omega) hun hm) (fun h hm => ?_)
          refine AX.istore_n rfl (by decide) ?_
          refine AX.iload_n rfl rfl ?_
          refine AX.istore_n rfl (by decide) ?_
          exact yM_leave_l hR hW hi hj (by omega) j h hm (Nat.le_refl _)
        exact hM.imp (fun v h' r => ⟨r.1, _, _, hop, r.2⟩)
      · have q1 : ¬ nI (ypl y k) = 1 := fun e => p1 ((nI_eq (by omega) (by decide)).mp (show nI (ypl y k) = nI 1 from e))
        have ez : zQ_leave z (nI k) = (false, z) := by
          unfold zQ_leave
          rw [a2, if_neg q0, if_neg q1]
        rw [ez]
        refine AX.aload_n rfl rfl ?_
        refine AX.iconstV (v := 0) rfl (by decide) ?_
        refine AX.putf rfl (M0 hm) (Nat.le_of_ble_eq_true rfl) rfl ?_
        refine AX.gen (G := isM p _) (MS hm 3 _ (by decide) rfl) (fun h hm => ?_)
        rw [mset_same hcode] at hm
        refine AX.aload_n rfl rfl ?_
        refine AX.iload_n rfl rfl ?_
        refine AX.cVI rfl rfl rfl (M0 hm) (sM_isChange hn4 hn hm _) (fun h hm => ?_)
        refine AX.if_eqB rfl (fun c => absurd (c.symm.trans hc) (by decide)) (fun _ => ?_)
        refine AX.aload_n rfl rfl ?_
        refine AX.getf rfl (M0 hm) rfl ?_
        refine AX.iload_n rfl rfl ?_
        refine AX.ialdX rfl (MA hm 2 (by decide) (by decide) (by decide)) (by decide) (⟨k, by omega, rfl, b2⟩) ?_
        refine AX.if_eq rfl (fun c => absurd c q0) (fun _ => ?_)
        refine AX.aload_n rfl rfl ?_
        refine AX.getf rfl (M0 hm) rfl ?_
        refine AX.iload_n rfl rfl ?_
        refine AX.ialdX rfl (MA hm 2 (by decide) (by decide) (by decide)) (by decide) (⟨k, by omega, rfl, b2⟩) ?_
        refine AX.iconstV (v := 1) rfl (by decide) ?_
        refine AX.icmp_eq rfl (fun c => absurd c q1) (fun _ => ?_)
        refine AX.iconstV (v := 0) rfl (by decide) ?_
        exact AX.zreturn rfl rfl (by decide) ⟨rfl, _, _, hI0, hm⟩ (Nat.le_refl _) (Nat.le_refl _)
  · unfold yWhere at a2
    rw [if_neg hc] at a2
    have hb : zQ_leave z c = (false, z) := by
      unfold zQ_leave
      rw [a2, if_neg (by decide), if_neg (by decide)]
    rw [hb]
    refine AX.aload_n rfl rfl ?_
    refine AX.iconstV (v := 0) rfl (by decide) ?_
    refine AX.putf rfl (M0 hm) (Nat.le_of_ble_eq_true rfl) rfl ?_
    refine AX.gen (G := isM p _) (MS hm 3 _ (by decide) rfl) (fun h hm => ?_)
    rw [mset_same hcode] at hm
    refine AX.aload_n rfl rfl ?_
    refine AX.iload_n rfl rfl ?_
    refine AX.cVI rfl rfl rfl (M0 hm) (sM_isChange hn4 hn hm _) (fun h hm => ?_)
    refine AX.if_eqB rfl (fun _ => ?_) (fun c => absurd c hc)
    refine AX.iconstV (v := 0) rfl (by decide) ?_
    exact AX.zreturn rfl rfl (by decide) ⟨rfl, y, t, hI0, hm⟩ (Nat.le_refl _) (Nat.le_refl _)
-- conflict
def yOpen (y : yT) (c : Int32) : Bool := decide (yWhere y c = 0) || decide (yWhere y c = 2)
theorem yM_isOpen (hR : RM y t) (hW : WF y) (hm : isM p t h) (c : Int32) : AM (d + 1) kM_isOpen 0 0 none [.ref 28, .int c] h (fun v h' => v = some (.int (bI (yOpen y c))) ∧ isM p t h') := by
  have hn4 : t.1 4 = nI (yn y) := hR.1.2.1
  have hn := hW.1
  by_cases hc : isC (yn y) c = true
  · obtain ⟨k1, k2⟩ := isC_k hn hc
    have e : yWhere y c = nI (ypl y c.toNatClampNeg) := by unfold yWhere; rw [if_pos hc]
    unfold yOpen
    rw [e]
    generalize c.toNatClampNeg = k at *
    subst k2
    obtain ⟨b1, b2, b3, b4, b5⟩ := hR.2.2.2.2.1 k k1
    refine AX.aload_n rfl rfl ?_
    refine AX.iload_n rfl rfl ?_
    refine AX.cVI rfl rfl rfl (M0 hm) (sM_isChange hn4 hn hm _) (fun h hm => ?_)
    refine AX.if_eqB rfl (fun c => absurd (c.symm.trans hc) (by decide)) (fun _ => ?_)
    refine AX.aload_n rfl rfl ?_
    refine AX.getf rfl (M0 hm) rfl ?_
    refine AX.iload_n rfl rfl ?_
    refine AX.ialdX rfl (MA hm 2 (by decide) (by decide) (by decide)) (by decide) (⟨k, by omega, rfl, b2⟩) ?_
    refine AX.if_eq rfl (fun c1 => ?_) (fun c1 => ?_)
    · refine AX.iconstV (v := 1) rfl (by decide) ?_
      refine AX.goto rfl ?_
      exact AX.zreturn rfl rfl (by decide) ⟨by simp [c1, bI], hm⟩ (Nat.le_refl _) (Nat.le_refl _)
    · refine AX.aload_n rfl rfl ?_
      refine AX.getf rfl (M0 hm) rfl ?_
      refine AX.iload_n rfl rfl ?_
      refine AX.ialdX rfl (MA hm 2 (by decide) (by decide) (by decide)) (by decide) (⟨k, by omega, rfl, b2⟩) ?_
      refine AX.iconstV (v := 2) rfl (by decide) ?_
      refine AX.icmp_ne rfl (fun c2 => ?_) (fun c2 => ?_)
      · refine AX.iconstV (v := 0) rfl (by decide) ?_
        exact AX.zreturn rfl rfl (by decide) ⟨by simp [c1, c2, bI], hm⟩ (Nat.le_refl _) (Nat.le_refl _)
      · refine AX.iconstV (v := 1) rfl (by decide) ?_
        refine AX.goto rfl ?_
        exact AX.zreturn rfl rfl (by decide) ⟨by simp [c1, c2, bI], hm⟩ (Nat.le_refl _) (Nat.le_refl _)
  · have e : yWhere y c = -1 := by unfold yWhere; rw [if_neg hc]
    have e2 : yOpen y c = false := by unfold yOpen; rw [e]; decide
    rw [e2]
    refine AX.aload_n rfl rfl ?_
    refine AX.iload_n rfl rfl ?_
    refine AX.cVI rfl rfl rfl (M0 hm) (sM_isChange hn4 hn hm _) (fun h hm => ?_)
    refine AX.if_eqB rfl (fun _ => ?_) (fun c => absurd c hc)
    refine AX.iconstV (v := 0) rfl (by decide) ?_
    exact AX.zreturn rfl rfl (by decide) ⟨rfl, hm⟩ (Nat.le_refl _) (Nat.le_refl _)
theorem mul40 {i j : Nat} : (40 : Int32) * nI i + nI j = nI (40 * i + j) := by
  exact ix_ab
theorem ok_conflict (hI : INV y z t) (hm : isM p t h) (a b : Int32) : AM (d + 3) kM_conflict 0 0 none [.ref 28, .int a, .int b] h (J p (zQ_conflict z a b).1 (zQ_conflict z a b).2) := by
  have hI0 := hI
  obtain ⟨hW, hC, hR, hS⟩ := hI
  have hcode := hR.1.1
  have hn4 : t.1 4 = nI (yn y) := hR.1.2.1
  have hn := hW.1
  have a2 := same_where hC hW a
  have b2 := same_where hC hW b
  have bad : (a = b ∨ zQ_may z a b = false) → zQ_conflict z a b = (-1, z) := by
    intro hb
    unfold zQ_conflict
    by_cases e : a = b
    · rw [if_pos e]
    · rw [if_neg e, if_pos (hb.resolve_left e)]
  have hmay : zQ_may z a b = ((decide (yWhere y a = 0) && (decide (yWhere y b = 0) || decide (yWhere y b = 2))) || (decide (yWhere y a = 2) && decide (yWhere y b = 0))) := by
    unfold zQ_may
    rw [a2, b2]
  by_cases hA : yOpen y a = true
  · by_cases hB : yOpen y b = true
    · by_cases hab : a = b
      · rw [bad (Or.inl hab)]
        refine AX.aload_n rfl rfl ?_
        refine AX.iconstV (v := 0) rfl (by decide) ?_
        refine AX.putf rfl (M0 hm) (Nat.le_of_ble_eq_true rfl) rfl ?_
        refine AX.gen (G := isM p _) (MS hm 3 _ (by decide) rfl) (fun h hm => ?_)
        rw [mset_same hcode] at hm
        refine AX.aload_n rfl rfl ?_
        refine AX.iload_n rfl rfl ?_
        refine AX.cVI rfl rfl rfl (M0 hm) (yM_isOpen hR hW hm _) (fun h hm => ?_)
        refine AX.if_eqB rfl (fun c => absurd (c.symm.trans hA) (by decide)) (fun _ => ?_)
        refine AX.aload_n rfl rfl ?_
        refine AX.iload_n rfl rfl ?_
        refine AX.cVI rfl rfl rfl (M0 hm) (yM_isOpen hR hW hm _) (fun h hm => ?_)
        refine AX.if_eqB rfl (fun c => absurd (c.symm.trans hB) (by decide)) (fun _ => ?_)
        refine AX.iload_n rfl rfl ?_
        refine AX.iload_n rfl rfl ?_
        refine AX.icmp_eq rfl (fun _ => ?_) (fun c => absurd hab c)
        refine AX.iconstV (v := (-1)) rfl (by decide) ?_
        exact AX.ireturn rfl rfl ⟨rfl, y, t, hI0, hm⟩ (Nat.le_refl _) (Nat.le_refl _)
      · have hcA : isC (yn y) a = true := by
          cases hq : isC (yn y) a with
          | true => rfl
          | false =>
            have e : yWhere y a = -1 := by unfold yWhere; rw [hq]; rfl
            unfold yOpen at hA
            rw [e] at hA
            exact absurd hA (by decide)
        have hcB : isC (yn y) b = true := by
          cases hq : isC (yn y) b with
          | true => rfl
          | false =>
            have e : yWhere y b = -1 := by unfold yWhere; rw [hq]; rfl
            unfold yOpen at hB
            rw [e] at hB
            exact absurd hB (by decide)
        obtain ⟨k1, k2⟩ := isC_k hn hcA
        obtain ⟨l1, l2⟩ := isC_k hn hcB
        have eA : yWhere y a = nI (ypl y a.toNatClampNeg) := by unfold yWhere; rw [if_pos hcA]
        have eB : yWhere y b = nI (ypl y b.toNatClampNeg) := by unfold yWhere; rw [if_pos hcB]
        unfold yOpen at hA hB
        have hA0 := hA
        have hB0 := hB
        rw [eA] at hA hmay
        rw [eB] at hB hmay
        generalize a.toNatClampNeg = i at *
        generalize b.toNatClampNeg = j at *
        subst k2
        subst l2
        simp only [Bool.or_eq_true, decide_eq_true_eq] at hA hB
        have oA : yOpen y (nI i) = true := hA0
        have oB : yOpen y (nI j) = true := hB0
        obtain ⟨-, p2, -, -, -⟩ := hR.2.2.2.2.1 i k1
        obtain ⟨-, r2, -, -, -⟩ := hR.2.2.2.2.1 j l1
        have mF : nI (ypl y i) = 2 → nI (ypl y j) = 2 → zQ_may z (nI i) (nI j) = false := by
          intro e1 e2
          rw [hmay, e1, e2]; decide
        have mT1 : ¬ nI (ypl y i) = 2 → zQ_may z (nI i) (nI j) = true := by
          intro e1
          rw [hmay, hA.resolve_right e1]
          rcases hB with e | e
          · rw [e]; decide
          · rw [e]; decide
        have mT2 : ¬ nI (ypl y j) = 2 → zQ_may z (nI i) (nI j) = true := by
          intro e1
          rw [hmay, hB.resolve_right e1]
          rcases hA with e | e
          · rw [e]; decide
          · rw [e]; decide
        have hcf := hC.cf i j (by omega) (by omega)
        have yes0 : zQ_may z (nI i) (nI j) = true → ycf y i j = true → zQ_conflict z (nI i) (nI j) = (0, z) := by
          intro e1 e2
          unfold zQ_conflict
          rw [if_neg hab, e1, if_neg (by decide), hcf, if_pos e2]
        have yes1 : zQ_may z (nI i) (nI j) = true → ycf y i j = false → zQ_conflict z (nI i) (nI j) = (1, zQ_send (zC_put z (nI i) (nI j))) := by
          intro e1 e2
          unfold zQ_conflict
          rw [if_neg hab, e1, if_neg (by decide), hcf, e2, if_neg (by decide)]
        have hop := op_conf hI0 k1 l1
        have hRc := hR.conf (a := i) (b := j) (by omega) (by omega)
        have hWc := hW.conf k1 l1
        refine AX.aload_n rfl rfl ?_
        refine AX.iconstV (v := 0) rfl (by decide) ?_
        refine AX.putf rfl (M0 hm) (Nat.le_of_ble_eq_true rfl) rfl ?_
        refine AX.gen (G := isM p _) (MS hm 3 _ (by decide) rfl) (fun h hm => ?_)
        rw [mset_same hcode] at hm
        refine AX.aload_n rfl rfl ?_
        refine AX.iload_n rfl rfl ?_
        refine AX.cVI rfl rfl rfl (M0 hm) (yM_isOpen hR hW hm _) (fun h hm => ?_)
        refine AX.if_eqB rfl (fun c => absurd (c.symm.trans oA) (by decide)) (fun _ => ?_)
        refine AX.aload_n rfl rfl ?_
        refine AX.iload_n rfl rfl ?_
        refine AX.cVI rfl rfl rfl (M0 hm) (yM_isOpen hR hW hm _) (fun h hm => ?_)
        refine AX.if_eqB rfl (fun c => absurd (c.symm.trans oB) (by decide)) (fun _ => ?_)
        refine AX.iload_n rfl rfl ?_
        refine AX.iload_n rfl rfl ?_
        refine AX.icmp_eq rfl (fun c => absurd c hab) (fun _ => ?_)
        refine AX.aload_n rfl rfl ?_
        refine AX.getf rfl (M0 hm) rfl ?_
        refine AX.iload_n rfl rfl ?_
        refine AX.ialdX rfl (MA hm 2 (by decide) (by decide) (by decide)) (by decide) (⟨i, by omega, rfl, p2⟩) ?_
        refine AX.iconstV (v := 2) rfl (by decide) ?_
        refine AX.icmp_ne rfl (fun c1 => ?_) (fun c1 => ?_)
        · have hmy : zQ_may z (nI i) (nI j) = true := by first | exact mT1 c1 | exact mT2 c2
          refine AX.aload_n rfl rfl ?_
          refine AX.iload_n rfl rfl ?_
          refine AX.iload_n rfl rfl ?_
          refine AX.cVI rfl rfl rfl (M0 hm) (sM_isConflict hR.2.2.2.1 hm (by omega) (by omega)) (fun h hm => ?_)
          refine AX.if_eqB rfl (fun c2 => ?_) (fun c2 => ?_)
          · refine AX.aload_n rfl rfl ?_
            refine AX.getf rfl (M0 hm) rfl ?_
            refine AX.bipushV (v := 40) rfl (by decide) ?_
            refine AX.iload_n rfl rfl ?_
            refine AX.imul rfl ?_
            refine AX.iload_n rfl rfl ?_
            refine AX.iadd rfl ?_
            refine AX.iconstV (v := 1) rfl (by decide) ?_
            refine AX.zastX (40 * i + j) rfl (MA6 hm) (by decide) (by omega) (mul40) (by decide) ?_
            refine AX.gen (G := isM p _) (MW6 hm _ _) (fun h hm => ?_)
            refine AX.aload_n rfl rfl ?_
            refine AX.getf rfl (M0 hm) rfl ?_
            refine AX.bipushV (v := 40) rfl (by decide) ?_
            refine AX.iload_n rfl rfl ?_
            refine AX.imul rfl ?_
            refine AX.iload_n rfl rfl ?_
            refine AX.iadd rfl ?_
            refine AX.iconstV (v := 1) rfl (by decide) ?_
            refine AX.zastX (40 * j + i) rfl (MA6 hm) (by decide) (by omega) (mul40) (by decide) ?_
            refine AX.gen (G := isM p _) (MW6 hm _ _) (fun h hm => ?_)
            refine AX.aload_n rfl rfl ?_
            refine AX.cVV rfl rfl rfl (M0 hm) (sM_clear hRc.1.2.1 hWc.1 hRc.2.2.2.1 hRc.1.2.2.2 (RM.tr4 hWc) (hRc.t2 hWc) hm) (fun h hm => ?_)
            refine AX.iconstV (v := 1) rfl (by decide) ?_
            exact AX.ireturn rfl rfl ⟨by first | rw [yes1 hmy c2] | rw [yes1 hmy c3], _, _, by first | (rw [yes1 hmy c2]; exact hop) | (rw [yes1 hmy c3]; exact hop), hm⟩ (Nat.le_refl _) (Nat.le_refl _)
          · refine AX.iconstV (v := 0) rfl (by decide) ?_
            exact AX.ireturn rfl rfl ⟨by first | rw [yes0 hmy c2] | rw [yes0 hmy c3], y, t, by first | (rw [yes0 hmy c2]; exact hI0) | (rw [yes0 hmy c3]; exact hI0), hm⟩ (Nat.le_refl _) (Nat.le_refl _)
        · refine AX.aload_n rfl rfl ?_
          refine AX.getf rfl (M0 hm) rfl ?_
          refine AX.iload_n rfl rfl ?_
          refine AX.ialdX rfl (MA hm 2 (by decide) (by decide) (by decide)) (by decide) (⟨j, by omega, rfl, r2⟩) ?_
          refine AX.iconstV (v := 2) rfl (by decide) ?_
          refine AX.icmp_ne rfl (fun c2 => ?_) (fun c2 => ?_)
          · have hmy : zQ_may z (nI i) (nI j) = true := by first | exact mT1 c1 | exact mT2 c2
            refine AX.aload_n rfl rfl ?_
            refine AX.iload_n rfl rfl ?_
            refine AX.iload_n rfl rfl ?_
            refine AX.cVI rfl rfl rfl (M0 hm) (sM_isConflict hR.2.2.2.1 hm (by omega) (by omega)) (fun h hm => ?_)
            refine AX.if_eqB rfl (fun c3 => ?_) (fun c3 => ?_)
            · refine AX.aload_n rfl rfl ?_
              refine AX.getf rfl (M0 hm) rfl ?_
              refine AX.bipushV (v := 40) rfl (by decide) ?_
              refine AX.iload_n rfl rfl ?_
              refine AX.imul rfl ?_
              refine AX.iload_n rfl rfl ?_
              refine AX.iadd rfl ?_
              refine AX.iconstV (v := 1) rfl (by decide) ?_
              refine AX.zastX (40 * i + j) rfl (MA6 hm) (by decide) (by omega) (mul40) (by decide) ?_
              refine AX.gen (G := isM p _) (MW6 hm _ _) (fun h hm => ?_)
              refine AX.aload_n rfl rfl ?_
              refine AX.getf rfl (M0 hm) rfl ?_
              refine AX.bipushV (v := 40) rfl (by decide) ?_
              refine AX.iload_n rfl rfl ?_
              refine AX.imul rfl ?_
              refine AX.iload_n rfl rfl ?_
              refine AX.iadd rfl ?_
              refine AX.iconstV (v := 1) rfl (by decide) ?_
              refine AX.zastX (40 * j + i) rfl (MA6 hm) (by decide) (by omega) (mul40) (by decide) ?_
              refine AX.gen (G := isM p _) (MW6 hm _ _) (fun h hm => ?_)
              refine AX.aload_n rfl rfl ?_
              refine AX.cVV rfl rfl rfl (M0 hm) (sM_clear hRc.1.2.1 hWc.1 hRc.2.2.2.1 hRc.1.2.2.2 (RM.tr4 hWc) (hRc.t2 hWc) hm) (fun h hm => ?_)
              refine AX.iconstV (v := 1) rfl (by decide) ?_
              exact AX.ireturn rfl rfl ⟨by first | rw [yes1 hmy c2] | rw [yes1 hmy c3], _, _, by first | (rw [yes1 hmy c2]; exact hop) | (rw [yes1 hmy c3]; exact hop), hm⟩ (Nat.le_refl _) (Nat.le_refl _)
            · refine AX.iconstV (v := 0) rfl (by decide) ?_
              exact AX.ireturn rfl rfl ⟨by first | rw [yes0 hmy c2] | rw [yes0 hmy c3], y, t, by first | (rw [yes0 hmy c2]; exact hI0) | (rw [yes0 hmy c3]; exact hI0), hm⟩ (Nat.le_refl _) (Nat.le_refl _)
          · have hb := bad (Or.inr (mF c1 c2))
            refine AX.iconstV (v := (-1)) rfl (by decide) ?_
            exact AX.ireturn rfl rfl ⟨by rw [hb], y, t, by rw [hb]; exact hI0, hm⟩ (Nat.le_refl _) (Nat.le_refl _)
    · have hB2 : yOpen y b = false := by cases hq : yOpen y b with
        | true => exact absurd hq hB
        | false => rfl
      have hm0 : zQ_may z a b = false := by
        rw [hmay]
        unfold yOpen at hB2
        rw [Bool.or_eq_false_iff] at hB2
        rw [hB2.1, hB2.2]
        simp
      rw [bad (Or.inr hm0)]
      refine AX.aload_n rfl rfl ?_
      refine AX.iconstV (v := 0) rfl (by decide) ?_
      refine AX.putf rfl (M0 hm) (Nat.le_of_ble_eq_true rfl) rfl ?_
      refine AX.gen (G := isM p _) (MS hm 3 _ (by decide) rfl) (fun h hm => ?_)
      rw [mset_same hcode] at hm
      refine AX.aload_n rfl rfl ?_
      refine AX.iload_n rfl rfl ?_
      refine AX.cVI rfl rfl rfl (M0 hm) (yM_isOpen hR hW hm _) (fun h hm => ?_)
      refine AX.if_eqB rfl (fun c => absurd (c.symm.trans hA) (by decide)) (fun _ => ?_)
      refine AX.aload_n rfl rfl ?_
      refine AX.iload_n rfl rfl ?_
      refine AX.cVI rfl rfl rfl (M0 hm) (yM_isOpen hR hW hm _) (fun h hm => ?_)
      refine AX.if_eqB rfl (fun _ => ?_) (fun c => absurd c hB)
      refine AX.iconstV (v := (-1)) rfl (by decide) ?_
      exact AX.ireturn rfl rfl ⟨rfl, y, t, hI0, hm⟩ (Nat.le_refl _) (Nat.le_refl _)
  · have hA2 : yOpen y a = false := by cases hq : yOpen y a with
      | true => exact absurd hq hA
      | false => rfl
    have hm0 : zQ_may z a b = false := by
      rw [hmay]
      unfold yOpen at hA2
      rw [Bool.or_eq_false_iff] at hA2
      rw [hA2.1, hA2.2]
      simp
    rw [bad (Or.inr hm0)]
    refine AX.aload_n rfl rfl ?_
    refine AX.iconstV (v := 0) rfl (by decide) ?_
    refine AX.putf rfl (M0 hm) (Nat.le_of_ble_eq_true rfl) rfl ?_
    refine AX.gen (G := isM p _) (MS hm 3 _ (by decide) rfl) (fun h hm => ?_)
    rw [mset_same hcode] at hm
    refine AX.aload_n rfl rfl ?_
    refine AX.iload_n rfl rfl ?_
    refine AX.cVI rfl rfl rfl (M0 hm) (yM_isOpen hR hW hm _) (fun h hm => ?_)
    refine AX.if_eqB rfl (fun _ => ?_) (fun c => absurd c hA)
    refine AX.iconstV (v := (-1)) rfl (by decide) ?_
    exact AX.ireturn rfl rfl ⟨rfl, y, t, hI0, hm⟩ (Nat.le_refl _) (Nat.le_refl _)
end LV
