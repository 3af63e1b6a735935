/-! The model's answer; asking -/
section AK
variable {y : yT} {z : zS} {t : mS} {p h : ax_H} {d : Nat}
theorem RM.sc (hR : RM y t) {q : Nat} (hq : q = 8 ∨ q = 9 ∨ q = 10) (v : Int32) : RM y (mset t q v) := by
  obtain ⟨⟨r0, r1, r2, r3⟩, rL, r⟩ := hR
  rcases hq with rfl | rfl | rfl
  · exact ⟨⟨r0, r1, r2, r3⟩, rL.cong rfl rfl rfl, r⟩
  · exact ⟨⟨r0, r1, r2, r3⟩, rL.cong rfl rfl rfl, r⟩
  · exact ⟨⟨r0, r1, r2, r3⟩, rL.cong rfl rfl rfl, r⟩
theorem yM_startOf1 (hR : RM y t) (hW : WF y) (hm : isM p t h) {g : Nat} (hg : g < (yG y).length) : AM d kM_startOf 0 0 none [.ref 28, .int (nI g + 1)] h (fun v h' => v = some (.int (nI (gB (yG y) (g + 1)))) ∧ isM p t h') := by
  rw [nI_1]
  exact yM_startOf hR hW hm hg
theorem sM_setG (hL : LaneOk t (gL (yG y)) (gF (yG y))) (hW : WF y) (hm : isM p t h) {i : Nat} (hi : i < (yG y).length) (v : Int32) : AM (d + 1) kM_setState 0 0 none [.ref 28, .int (nI i), .int v] h (fun u h' => u = none ∧ isM p (mSet y 10 i v t) h') := by
  have hg := hW.gl
  have hne := hW.2.2.2.2.2.2.2.2.1
  have := sM_setState (d := d) hL hm (nI i) v
  rw [nI_1, mS0_gF hne (by omega) (by omega), mS0_gF hne (by omega) (by omega)] at this
  exact this
theorem yM_answer_l (hW : WF y) {i : Nat} (hi : i < (yG y).length) (fv its q : Int32) {e : Nat} (he : e ≤ (gL (yG y)).length) : ∀ (r m : Nat) (t : mS) (h : ax_H), LaneOk t (gL (yG y)) (gF (yG y)) → isM p t h → e = m + r →
    AX (d + 2) kM_answer 0 0 none 99 [(6, .int (nI m)), (5, .int (nI e)), (4, .int its), (3, .int fv), (0, .ref 28), (1, .int (nI i)), (2, .int q)] [] h 0 0 (ax_ret kM_answer 0 0 (fun u h' => u = some (.int its) ∧ isM p (mSet y 10 i its (mSetL (gL (yG y)) 11 fv r m t)) h')) := by
  intro r
  induction r with
  | zero =>
    intro m t h hL hm hb
    have hLc := hL
    obtain ⟨h6, hL4, hB, hL2⟩ := hL
    refine AX.iload rfl rfl ?_
    refine AX.iload rfl rfl ?_
    refine AX.icmp_ge rfl (fun c1 => ?_) (fun c1 => ?_)
    · refine AX.aload_n rfl rfl ?_
      refine AX.iload_n rfl rfl ?_
      refine AX.iload rfl rfl ?_
      refine AX.cVV rfl rfl rfl (M0 hm) (sM_setG hLc hW hm hi _) (fun h hm => ?_)
      refine AX.iload rfl rfl ?_
      exact AX.ireturn rfl rfl ⟨rfl, hm⟩ (Nat.le_refl _) (Nat.le_refl _)
    · exact absurd (nI_le (by omega) (by omega)) c1
  | succ r ih =>
    intro m t h hL hm hb
    have hLc := hL
    obtain ⟨h6, hL4, hB, hL2⟩ := hL
    have h2 := hL2 m (by omega)
    refine AX.iload rfl rfl ?_
    refine AX.iload rfl rfl ?_
    refine AX.icmp_ge rfl (fun c1 => ?_) (fun c1 => ?_)
    · exact absurd c1 (nI_ge (by omega) (by omega))
    · refine AX.aload_n rfl rfl ?_
      refine AX.getf rfl (M0 hm) rfl ?_
      refine AX.aload_n rfl rfl ?_
      refine AX.getf rfl (M0 hm) rfl ?_
      refine AX.iload rfl rfl ?_
      refine AX.ialdX rfl (MA hm 7 (by decide) (by decide) (by decide)) (by decide) (⟨m, by omega, rfl, h2.1⟩) ?_
      refine AX.iload_n rfl rfl ?_
      refine AX.iastX ((gL (yG y)).getD m 0) rfl (MA hm 11 (by decide) (by decide) (by decide)) (by decide) (h2.2.1) (rfl) ?_
      refine AX.gen (G := isM p _) (MW hm 11 _ _ (by decide) (by decide) (by decide)) (fun h hm => ?_)
      refine AX.iincV (dn := 1) rfl rfl (by decide) (by decide) ?_
      refine AX.goto rfl ?_
      rw [nI_1, mSetL]
      exact ih (m + 1) _ h (hLc.cong rfl rfl rfl) hm (by omega)
theorem yM_answer1 (hR : RM y t) (hW : WF y) (hm : isM p t h) {i : Nat} (hi : i < (yG y).length) (h1 : ((yG y).getD i g0).2.1 = 1) (q : Int32) : AM (d + 2) kM_answer 0 0 none [.ref 28, .int (nI i), .int q] h (fun v h' => v = some (.int (nI (ansS ((yG y).getD i g0).2.2 (t.1 2) q))) ∧ isM p (mAns y i q t) h') := by
  have hcode := hR.1.1
  have hl := hW.gl
  have hR8 := hR.sc (q := 8) (Or.inl rfl) (t.1 8 + 1)
  have h3 := hR8.lane hW hi
  have hg : yIsG y (nI i) = true := by unfold yIsG; rw [isC_nI hl (by omega)]; simpa using hi
  have hs : nI ((yG y).getD i g0).2.1 = 1 := by rw [h1]; rfl
  have fin : ∀ (fv its : Int32) (h : ax_H), isM p (mset t 8 (t.1 8 + 1)) h → fv = nI (ansF ((yG y).getD i g0).2.2 q) → its = nI (ansS ((yG y).getD i g0).2.2 (t.1 2) q) → AX (d + 2) kM_answer 0 0 none 99 [(6, .int (nI (gB (yG y) i))), (5, .int (nI (gB (yG y) (i + 1)))), (4, .int its), (3, .int fv), (0, .ref 28), (1, .int (nI i)), (2, .int q)] [] h 0 0 (ax_ret kM_answer 0 0 (fun v h' => v = some (.int (nI (ansS ((yG y).getD i g0).2.2 (t.1 2) q))) ∧ isM p (mAns y i q t) h')) := by
    intro fv its h hm e1 e2
    have g1 : gB (yG y) i ≤ gB (yG y) (i + 1) := gB_le (by omega)
    have g2 : gB (yG y) (i + 1) ≤ (gL (yG y)).length := by rw [gL_len]; exact gB_le (by omega)
    rw [← e2]
    have := yM_answer_l (p := p) (d := d) hW hi fv its q g2 (gB (yG y) (i + 1) - gB (yG y) i) (gB (yG y) i) _ h hR8.2.1 hm (by omega)
    unfold mAns
    rw [← e2, ← e1]
    exact this
  by_cases hq : q = 0
  · skip
    refine AX.aload_n rfl rfl ?_
    refine AX.iconstV (v := 0) rfl (by decide) ?_
    refine AX.putf rfl (M0 hm) (Nat.le_of_ble_eq_true rfl) rfl ?_
    refine AX.gen (G := isM p _) (MS hm 3 _ (by decide) rfl) (fun h hm => ?_)
    rw [mset_same hcode] at hm
    refine AX.aload_n rfl rfl ?_
    refine AX.iload_n rfl rfl ?_
    refine AX.cVI rfl rfl rfl (M0 hm) (yM_isGroup hR hW hm _) (fun h hm => ?_)
    refine AX.if_eqB rfl (fun c => absurd (c.symm.trans hg) (by decide)) (fun _ => ?_)
    refine AX.aload_n rfl rfl ?_
    refine AX.iload_n rfl rfl ?_
    refine AX.cVI rfl rfl rfl (M0 hm) (yM_stateOf hR hW hm hi) (fun h hm => ?_)
    refine AX.iconstV (v := 1) rfl (by decide) ?_
    refine AX.icmp_eq rfl (fun _ => ?_) (fun c => absurd hs c)
    refine AX.aload_n rfl rfl ?_
    refine AX.dup rfl rfl ?_
    refine AX.getf rfl (M0 hm) rfl ?_
    refine AX.iconstV (v := 1) rfl (by decide) ?_
    refine AX.iadd rfl ?_
    refine AX.putf rfl (M0 hm) (Nat.le_of_ble_eq_true rfl) rfl ?_
    refine AX.gen (G := isM p _) (MS hm 8 _ (by decide) rfl) (fun h hm => ?_)
    refine AX.aload_n rfl rfl ?_
    refine AX.getf rfl (M0 hm) rfl ?_
    refine AX.aload_n rfl rfl ?_
    refine AX.getf rfl (M0 hm) rfl ?_
    refine AX.aload_n rfl rfl ?_
    refine AX.iload_n rfl rfl ?_
    refine AX.cVI rfl rfl rfl (M0 hm) (yM_startOf hR8 hW hm (Nat.le_of_lt hi)) (fun h hm => ?_)
    refine AX.ialdX rfl (MA hm 7 (by decide) (by decide) (by decide)) (by decide) (⟨_, h3.1, rfl, h3.2.1⟩) ?_
    refine AX.ialdX rfl (MA hm 11 (by decide) (by decide) (by decide)) (by decide) (⟨_, h3.2.2.1, rfl, h3.2.2.2⟩) ?_
    refine AX.iload_n rfl rfl ?_
    refine AX.if_eq rfl (fun _ => ?_) (fun c => absurd hq c)
    refine AX.iconstV (v := 1) rfl (by decide) ?_
    refine AX.iadd rfl ?_
    refine AX.istore_n rfl (by decide) ?_
    refine AX.iload_n rfl rfl ?_
    refine AX.if_eq rfl (fun _ => ?_) (fun c => absurd hq c)
    refine AX.iload_n rfl rfl ?_
    refine AX.aload_n rfl rfl ?_
    refine AX.getf rfl (M0 hm) rfl ?_
    refine AX.icmp_lt rfl (fun c1 => ?_) (fun c1 => ?_)
    · refine AX.iconstV (v := 1) rfl (by decide) ?_
      refine AX.istore rfl (by decide) ?_
      refine AX.aload_n rfl rfl ?_
      refine AX.iload_n rfl rfl ?_
      refine AX.iconstV (v := 1) rfl (by decide) ?_
      refine AX.iadd rfl ?_
      refine AX.cVI rfl rfl rfl (M0 hm) (yM_startOf1 hR8 hW hm hi) (fun h hm => ?_)
      refine AX.istore rfl (by decide) ?_
      refine AX.aload_n rfl rfl ?_
      refine AX.iload_n rfl rfl ?_
      refine AX.cVI rfl rfl rfl (M0 hm) (yM_startOf hR8 hW hm (Nat.le_of_lt hi)) (fun h hm => ?_)
      refine AX.istore rfl (by decide) ?_
      first
        | exact fin _ _ h hm (by rw [ansF, if_pos hq, nI_1]) (by rw [ansS, if_pos hq, ansF, if_pos hq, ← nI_1, if_neg (show ¬ t.1 2 ≤ nI ((yG y).getD i g0).2.2 + 1 from Int32.not_le.mpr c1)]; rfl)
        | exact fin _ _ h hm (by rw [ansF, if_pos hq, nI_1]) (by rw [ansS, if_pos hq, ansF, if_pos hq, ← nI_1, if_pos (show t.1 2 ≤ nI ((yG y).getD i g0).2.2 + 1 from Int32.not_lt.mp c1)]; rfl)
    · refine AX.iconstV (v := 2) rfl (by decide) ?_
      refine AX.goto rfl ?_
      refine AX.istore rfl (by decide) ?_
      refine AX.aload_n rfl rfl ?_
      refine AX.iload_n rfl rfl ?_
      refine AX.iconstV (v := 1) rfl (by decide) ?_
      refine AX.iadd rfl ?_
      refine AX.cVI rfl rfl rfl (M0 hm) (yM_startOf1 hR8 hW hm hi) (fun h hm => ?_)
      refine AX.istore rfl (by decide) ?_
      refine AX.aload_n rfl rfl ?_
      refine AX.iload_n rfl rfl ?_
      refine AX.cVI rfl rfl rfl (M0 hm) (yM_startOf hR8 hW hm (Nat.le_of_lt hi)) (fun h hm => ?_)
      refine AX.istore rfl (by decide) ?_
      first
        | exact fin _ _ h hm (by rw [ansF, if_pos hq, nI_1]) (by rw [ansS, if_pos hq, ansF, if_pos hq, ← nI_1, if_neg (show ¬ t.1 2 ≤ nI ((yG y).getD i g0).2.2 + 1 from Int32.not_le.mpr c1)]; rfl)
        | exact fin _ _ h hm (by rw [ansF, if_pos hq, nI_1]) (by rw [ansS, if_pos hq, ansF, if_pos hq, ← nI_1, if_pos (show t.1 2 ≤ nI ((yG y).getD i g0).2.2 + 1 from Int32.not_lt.mp c1)]; rfl)
  · skip
    refine AX.aload_n rfl rfl ?_
    refine AX.iconstV (v := 0) rfl (by decide) ?_
    refine AX.putf rfl (M0 hm) (Nat.le_of_ble_eq_true rfl) rfl ?_
    refine AX.gen (G := isM p _) (MS hm 3 _ (by decide) rfl) (fun h hm => ?_)
    rw [mset_same hcode] at hm
    refine AX.aload_n rfl rfl ?_
    refine AX.iload_n rfl rfl ?_
    refine AX.cVI rfl rfl rfl (M0 hm) (yM_isGroup hR hW hm _) (fun h hm => ?_)
    refine AX.if_eqB rfl (fun c => absurd (c.symm.trans hg) (by decide)) (fun _ => ?_)
    refine AX.aload_n rfl rfl ?_
    refine AX.iload_n rfl rfl ?_
    refine AX.cVI rfl rfl rfl (M0 hm) (yM_stateOf hR hW hm hi) (fun h hm => ?_)
    refine AX.iconstV (v := 1) rfl (by decide) ?_
    refine AX.icmp_eq rfl (fun _ => ?_) (fun c => absurd hs c)
    refine AX.aload_n rfl rfl ?_
    refine AX.dup rfl rfl ?_
    refine AX.getf rfl (M0 hm) rfl ?_
    refine AX.iconstV (v := 1) rfl (by decide) ?_
    refine AX.iadd rfl ?_
    refine AX.putf rfl (M0 hm) (Nat.le_of_ble_eq_true rfl) rfl ?_
    refine AX.gen (G := isM p _) (MS hm 8 _ (by decide) rfl) (fun h hm => ?_)
    refine AX.aload_n rfl rfl ?_
    refine AX.getf rfl (M0 hm) rfl ?_
    refine AX.aload_n rfl rfl ?_
    refine AX.getf rfl (M0 hm) rfl ?_
    refine AX.aload_n rfl rfl ?_
    refine AX.iload_n rfl rfl ?_
    refine AX.cVI rfl rfl rfl (M0 hm) (yM_startOf hR8 hW hm (Nat.le_of_lt hi)) (fun h hm => ?_)
    refine AX.ialdX rfl (MA hm 7 (by decide) (by decide) (by decide)) (by decide) (⟨_, h3.1, rfl, h3.2.1⟩) ?_
    refine AX.ialdX rfl (MA hm 11 (by decide) (by decide) (by decide)) (by decide) (⟨_, h3.2.2.1, rfl, h3.2.2.2⟩) ?_
    refine AX.iload_n rfl rfl ?_
    refine AX.if_eq rfl (fun c => absurd c hq) (fun _ => ?_)
    refine AX.iconstV (v := 0) rfl (by decide) ?_
    refine AX.goto rfl ?_
    refine AX.iadd rfl ?_
    refine AX.istore_n rfl (by decide) ?_
    refine AX.iload_n rfl rfl ?_
    refine AX.if_eq rfl (fun c => absurd c hq) (fun _ => ?_)
    refine AX.iconstV (v := 3) rfl (by decide) ?_
    refine AX.goto rfl ?_
    refine AX.istore rfl (by decide) ?_
    refine AX.aload_n rfl rfl ?_
    refine AX.iload_n rfl rfl ?_
    refine AX.iconstV (v := 1) rfl (by decide) ?_
    refine AX.iadd rfl ?_
    refine AX.cVI rfl rfl rfl (M0 hm) (yM_startOf1 hR8 hW hm hi) (fun h hm => ?_)
    refine AX.istore rfl (by decide) ?_
    refine AX.aload_n rfl rfl ?_
    refine AX.iload_n rfl rfl ?_
    refine AX.cVI rfl rfl rfl (M0 hm) (yM_startOf hR8 hW hm (Nat.le_of_lt hi)) (fun h hm => ?_)
    refine AX.istore rfl (by decide) ?_
    exact fin _ _ h hm (by rw [ansF, if_neg hq, Int32.add_zero]) (by rw [ansS, if_neg hq]; rfl)
theorem yM_answer0 (hR : RM y t) (hW : WF y) (hm : isM p t h) (g q : Int32) (hn : ¬ (yIsG y g = true ∧ ((yG y).getD g.toNatClampNeg g0).2.1 = 1)) : AM (d + 2) kM_answer 0 0 none [.ref 28, .int g, .int q] h (fun v h' => v = some (.int (-1)) ∧ isM p t h') := by
  have hcode := hR.1.1
  have hl := hW.gl
  by_cases hg : yIsG y g = true
  · obtain ⟨k1, k2⟩ := isC_k hl hg
    generalize hk : g.toNatClampNeg = k at k1 k2 hn
    subst k2
    have w12 := (hW.2.2.2.2.2.2.2.2.2.2.2.1 ((yG y).getD k g0) (List.mem_of_getElem? (getD_some k1))).1
    have hs : ¬ nI ((yG y).getD k g0).2.1 = 1 := fun e => hn ⟨hg, (nI_eq (by omega) (by decide)).mp (show nI ((yG y).getD k g0).2.1 = nI 1 from e)⟩
    refine AX.aload_n rfl rfl ?_
    refine AX.iconstV (v := 0) rfl (by decide) ?_
    refine AX.putf rfl (M0 hm) (Nat.le_of_ble_eq_true rfl) rfl ?_
    refine AX.gen (G := isM p _) (MS hm 3 _ (by decide) rfl) (fun h hm => ?_)
    rw [mset_same hcode] at hm
    refine AX.aload_n rfl rfl ?_
    refine AX.iload_n rfl rfl ?_
    refine AX.cVI rfl rfl rfl (M0 hm) (yM_isGroup hR hW hm _) (fun h hm => ?_)
    refine AX.if_eqB rfl (fun c1 => ?_) (fun c1 => ?_)
    · refine AX.iconstV (v := (-1)) rfl (by decide) ?_
      exact AX.ireturn rfl rfl ⟨rfl, hm⟩ (Nat.le_refl _) (Nat.le_refl _)
    · refine AX.aload_n rfl rfl ?_
      refine AX.iload_n rfl rfl ?_
      refine AX.cVI rfl rfl rfl (M0 hm) (yM_stateOf hR hW hm k1) (fun h hm => ?_)
      refine AX.iconstV (v := 1) rfl (by decide) ?_
      refine AX.icmp_eq rfl (fun c2 => ?_) (fun c2 => ?_)
      · exact absurd c2 hs
      · refine AX.iconstV (v := (-1)) rfl (by decide) ?_
        exact AX.ireturn rfl rfl ⟨rfl, hm⟩ (Nat.le_refl _) (Nat.le_refl _)
  · skip
    refine AX.aload_n rfl rfl ?_
    refine AX.iconstV (v := 0) rfl (by decide) ?_
    refine AX.putf rfl (M0 hm) (Nat.le_of_ble_eq_true rfl) rfl ?_
    refine AX.gen (G := isM p _) (MS hm 3 _ (by decide) rfl) (fun h hm => ?_)
    rw [mset_same hcode] at hm
    refine AX.aload_n rfl rfl ?_
    refine AX.iload_n rfl rfl ?_
    refine AX.cVI rfl rfl rfl (M0 hm) (yM_isGroup hR hW hm _) (fun h hm => ?_)
    refine AX.if_eqB rfl (fun c1 => ?_) (fun c1 => ?_)
    · refine AX.iconstV (v := (-1)) rfl (by decide) ?_
      exact AX.ireturn rfl rfl ⟨rfl, hm⟩ (Nat.le_refl _) (Nat.le_refl _)
    · exact absurd c1 hg
-- the group to ask for
def gAt (G : List gT) : Nat := (G.takeWhile (fun g => decide (g.2.1 = 1) || decide (g.2.1 = 3))).length
def gCnt (G : List gT) : Nat := (G.filter (fun g => decide (g.2.1 = 1))).length
theorem gAt_le (G : List gT) : gAt G ≤ G.length := (List.takeWhile_sublist _).length_le
theorem gAt_cons (g : gT) (G : List gT) : gAt (g :: G) = if g.2.1 = 1 ∨ g.2.1 = 3 then gAt G + 1 else 0 := by
  unfold gAt
  rw [List.takeWhile_cons]
  by_cases h : g.2.1 = 1 ∨ g.2.1 = 3
  · rw [if_pos h, if_pos (by simpa using h)]; rfl
  · rw [if_neg h, if_neg (by simpa using h)]; rfl
theorem gAt_drop {G : List gT} {m : Nat} (hm : m < G.length) : gAt (G.drop m) = if (G.getD m g0).2.1 = 1 ∨ (G.getD m g0).2.1 = 3 then gAt (G.drop (m + 1)) + 1 else 0 := by
  rw [drop_getD (x := g0) hm, gAt_cons]
theorem gCnt_drop {G : List gT} {m : Nat} (hm : m < G.length) : gCnt (G.drop m) = (if (G.getD m g0).2.1 = 1 then 1 else 0) + gCnt (G.drop (m + 1)) := by
  rw [drop_getD (x := g0) hm]
  unfold gCnt
  rw [List.filter_cons]
  by_cases h : (G.getD m g0).2.1 = 1
  · rw [if_pos h, if_pos (by simpa using h), List.length_cons, Nat.add_comm]
  · rw [if_neg h, if_neg (by simpa using h), Nat.zero_add]
theorem gst3 (hW : WF y) {i : Nat} (hi : i < (yG y).length) : ((yG y).getD i g0).2.1 ≤ 3 := (hW.2.2.2.2.2.2.2.2.2.2.2.1 _ (List.mem_of_getElem? (getD_some hi))).1
theorem gis (hW : WF y) {i k : Nat} (hi : i < (yG y).length) (hk : k ≤ 3) : nI ((yG y).getD i g0).2.1 = nI k ↔ ((yG y).getD i g0).2.1 = k := by
  have := gst3 hW hi
  exact nI_eq (by omega) (by omega)
theorem zAsked_y (hC : RC y z) (hW : WF y) : ∀ (n m acc : Nat), (yG y).length = m + n → zAsked z n m (nI acc) = nI (acc + gCnt ((yG y).drop m)) := by
  intro n
  induction n with
  | zero => intro m acc h; rw [List.drop_eq_nil_of_le (by omega)]; rfl
  | succ n ih =>
    intro m acc h
    have hm : m < (yG y).length := by omega
    rw [zAsked, (gatN hC hW hm).1, gCnt_drop hm]
    have e : nI ((yG y).getD m g0).2.1 = 1 ↔ ((yG y).getD m g0).2.1 = 1 := gis hW hm (k := 1) (by decide)
    by_cases hs : ((yG y).getD m g0).2.1 = 1
    · rw [if_pos hs, if_pos (e.mpr hs), nI_1, ih (m + 1) (acc + 1) (by omega)]
      congr 1; omega
    · rw [if_neg hs, if_neg (fun q => hs (e.mp q)), ih (m + 1) acc (by omega)]
      congr 1; omega
def gNx (G : List gT) (m : Nat) : Int32 := if m + gAt (G.drop m) < G.length ∧ (G.getD (m + gAt (G.drop m)) g0).2.1 = 0 then nI (m + gAt (G.drop m)) else -1
theorem zNext_y (hC : RC y z) (hW : WF y) : ∀ (n m : Nat), (yG y).length = m + n → zNext z n m = gNx (yG y) m := by
  intro n
  induction n with
  | zero => intro m h; rw [gNx, if_neg (by omega)]; rfl
  | succ n ih =>
    intro m h
    have hm : m < (yG y).length := by omega
    have h3 := gst3 hW hm
    have e0 : nI ((yG y).getD m g0).2.1 = 0 ↔ ((yG y).getD m g0).2.1 = 0 := gis hW hm (k := 0) (by decide)
    have e2 : nI ((yG y).getD m g0).2.1 = 2 ↔ ((yG y).getD m g0).2.1 = 2 := gis hW hm (k := 2) (by decide)
    rw [zNext, (gatN hC hW hm).1, gNx, gAt_drop hm]
    by_cases c1 : ((yG y).getD m g0).2.1 = 1 ∨ ((yG y).getD m g0).2.1 = 3
    · rw [if_pos c1, if_neg (fun q => by have := e0.mp q; omega), if_neg (fun q => by have := e2.mp q; omega), ih (m + 1) (by omega), gNx, show m + (gAt ((yG y).drop (m + 1)) + 1) = m + 1 + gAt ((yG y).drop (m + 1)) by omega]
    · rw [if_neg c1, Nat.add_zero]
      by_cases c0 : ((yG y).getD m g0).2.1 = 0
      · rw [if_pos (e0.mpr c0), if_pos ⟨hm, c0⟩, Nat.add_zero]
      · rw [if_neg (fun q => c0 (e0.mp q)), if_pos (e2.mpr (by omega)), if_neg (fun q => c0 q.2)]
def yAsk (y : yT) (w : Int32) : Bool := decide (gAt (yG y) < (yG y).length ∧ ((yG y).getD (gAt (yG y)) g0).2.1 = 0) && decide (nI (gCnt (yG y)) < w)
def yAsk2 (y : yT) : yT := yGs y (gSt (yG y) (gAt (yG y)) 1 ((yG y).getD (gAt (yG y)) g0).2.2)
theorem op_ask (hI : INV y z t) : (zQ_ask z).1 = yAsk y (t.1 1) ∧ (yAsk y (t.1 1) = true → INV (yAsk2 y) (zQ_ask z).2 (mSet y 10 (gAt (yG y)) 1 t)) ∧ (yAsk y (t.1 1) = false → (zQ_ask z).2 = z) := by
  obtain ⟨hW, hC, hR, hS⟩ := hI
  have hl := hW.gl
  have hz1 : z.1 1 = t.1 1 := hS.2.1
  have l10 : (z.2.1 10).length = (yG y).length := by rw [hC.G10, List.length_map]
  have l11 : (z.2.1 11).length = (yG y).length := by rw [hC.G11, List.length_map]
  have hA : zG_asked z = nI (gCnt (yG y)) := by
    have := zAsked_y hC hW (yG y).length 0 0 (by omega)
    rw [Nat.zero_add, List.drop_zero] at this
    unfold zG_asked
    rw [l10]
    exact this
  have hN : zG_next z = gNx (yG y) 0 := by
    unfold zG_next
    rw [l10]
    exact zNext_y hC hW (yG y).length 0 (by omega)
  unfold zQ_ask yAsk
  rw [hA, hN, hz1, gNx, Nat.zero_add, List.drop_zero]
  by_cases c1 : gAt (yG y) < (yG y).length ∧ ((yG y).getD (gAt (yG y)) g0).2.1 = 0
  · have hne : ¬ nI (gAt (yG y)) = -1 := by
      intro e
      have h4 := nI_pos' (show gAt (yG y) < 2 ^ 31 by omega)
      rw [e] at h4
      exact absurd h4 (by decide)
    rw [if_pos c1, if_neg hne]
    by_cases c2 : nI (gCnt (yG y)) < t.1 1
    · rw [if_pos c2]
      refine ⟨by rw [decide_eq_true c1, decide_eq_true c2]; rfl, fun _ => ?_, fun h => (by rw [decide_eq_true c1, decide_eq_true c2] at h; cases h)⟩
      obtain ⟨k1, k2, k3⟩ := mSet_eff hW c1.1 10 1 t
      obtain ⟨a10, a9, a11⟩ := gatN hC hW c1.1
      have g11 : (z.2.1 11).getD (gAt (yG y)) (-1) = nI ((yG y).getD (gAt (yG y)) g0).2.2 := by rw [← a11, zat, rAt_nI (by omega)]
      refine ⟨hW.gset c1.1 (by decide), RC.gset hC c1.1 ?_ ?_ ?_ rfl rfl, RM.gset hW hR c1.1 (fun q _ => by rw [k1]) (fun a h1 _ => k2 a h1) k3 ?_, ?_⟩
      · exact zput_set (by omega) (by omega)
      · rw [set_self g11]
        show (zput z 10 (nI (gAt (yG y))) 1).2.1 11 = _
        rw [zput, zrow_ne (by decide)]
      · intro r hr
        show (zput z 10 (nI (gAt (yG y))) 1).2.1 r = _
        rw [zput, zrow_ne (by omega)]
      · intro c
        rw [k2 11 (by decide)]
        by_cases hc : c ∈ ((yG y).getD (gAt (yG y)) g0).1
        · rw [if_pos hc]; exact (hR.2.2.2.2.2.2 _ c1.1 c hc).2
        · rw [if_neg hc]
      · refine RS.cong hS rfl (fun _ _ _ => rfl) ?_ (fun q _ => by rw [k1]) (k2 1 (by decide))
        show (zput z 10 (nI (gAt (yG y))) 1).2.1 1 = _
        rw [zput, zrow_ne (by decide)]
    · rw [if_neg c2]
      exact ⟨by simp [c2], fun h => by simp [c2] at h, fun _ => rfl⟩
  · rw [if_neg c1, if_pos rfl]
    exact ⟨by rw [decide_eq_false c1]; rfl, fun h => (by rw [decide_eq_false c1] at h; cases h), fun _ => rfl⟩
theorem askF1 {w : Int32} (c : w ≤ nI (gCnt (yG y))) : yAsk y w = false := by
  unfold yAsk
  rw [decide_eq_false (Int32.not_lt.mpr c), Bool.and_false]
theorem askF2 {w : Int32} (c : gAt (yG y) = (yG y).length) : yAsk y w = false := by
  unfold yAsk
  rw [decide_eq_false (fun q => by omega), Bool.false_and]
theorem askF3 {w : Int32} {m : Nat} (hat : gAt (yG y) = m) (c : ¬ nI ((yG y).getD m g0).2.1 = 0) : yAsk y w = false := by
  unfold yAsk
  rw [decide_eq_false (fun q => c (by rw [hat] at q; rw [q.2]; rfl)), Bool.false_and]
theorem askT {w : Int32} {m : Nat} (hW : WF y) (hat : gAt (yG y) = m) (hm : m < (yG y).length) (c1 : ¬ w ≤ nI (gCnt (yG y))) (c2 : nI ((yG y).getD m g0).2.1 = 0) : yAsk y w = true := by
  unfold yAsk
  subst hat
  rw [decide_eq_true ⟨hm, (gis hW hm (k := 0) (by decide)).mp c2⟩, decide_eq_true (Int32.not_le.mp c1)]
  rfl
theorem atIs {m : Nat} (hm : m < (yG y).length) (hg : m + gAt ((yG y).drop m) = gAt (yG y)) (c1 : ¬ nI ((yG y).getD m g0).2.1 = 1) (c2 : ¬ nI ((yG y).getD m g0).2.1 = 3) : gAt (yG y) = m := by
  rw [gAt_drop hm, if_neg (fun q => by rcases q with q | q; exact c1 (by rw [q]; rfl); exact c2 (by rw [q]; rfl))] at hg
  omega
theorem atGo {m : Nat} (hW : WF y) (hm : m < (yG y).length) (hg : m + gAt ((yG y).drop m) = gAt (yG y)) (c : nI ((yG y).getD m g0).2.1 = 1 ∨ nI ((yG y).getD m g0).2.1 = 3) : m + 1 + gAt ((yG y).drop (m + 1)) = gAt (yG y) := by
  have h3 : ((yG y).getD m g0).2.1 = 1 ∨ ((yG y).getD m g0).2.1 = 3 := by
    rcases c with c | c
    · exact Or.inl ((gis hW hm (k := 1) (by decide)).mp c)
    · exact Or.inr ((gis hW hm (k := 3) (by decide)).mp c)
  rw [gAt_drop hm, if_pos h3] at hg
  omega
def mAsk (y : yT) (t : mS) : mS := if yAsk y (t.1 1) = true then mSet y 10 (gAt (yG y)) 1 t else t
theorem yM_ask_l2 (hR : RM y t) (hW : WF y) : ∀ (r m : Nat) (h : ax_H), isM p t h → (yG y).length = m + r → m + gAt ((yG y).drop m) = gAt (yG y) →
    AX (d + 2) kM_ask 0 0 none 39 [(3, .int (nI m)), (2, .int (nI (gCnt (yG y)))), (1, .int (nI (yG y).length)), (0, .ref 28)] [] h 0 0 (ax_ret kM_ask 0 0 (fun v h' => v = some (.int (bI (yAsk y (t.1 1)))) ∧ isM p (mAsk y t) h')) := by
  have hl := hW.gl
  intro r
  induction r with
  | zero =>
    intro m h hm hb hg
    have hF : yAsk y (t.1 1) = false := askF2 (by rw [← hg, List.drop_eq_nil_of_le (by omega)]; show m + 0 = _; omega)
    have hmF : mAsk y t = t := by unfold mAsk; rw [hF]; rfl
    refine AX.iload_n rfl rfl ?_
    refine AX.iload_n rfl rfl ?_
    refine AX.icmp_ge rfl (fun c1 => ?_) (fun c1 => ?_)
    · refine AX.iload_n rfl rfl ?_
      refine AX.aload_n rfl rfl ?_
      refine AX.getf rfl (M0 hm) rfl ?_
      refine AX.icmp_ge rfl (fun c2 => ?_) (fun c2 => ?_)
      · refine AX.iconstV (v := 0) rfl (by decide) ?_
        exact AX.zreturn rfl rfl (by decide) ⟨by rw [hF]; rfl, by rw [hmF]; exact hm⟩ (Nat.le_refl _) (Nat.le_refl _)
      · refine AX.iload_n rfl rfl ?_
        refine AX.iload_n rfl rfl ?_
        refine AX.icmp_eq rfl (fun c3 => ?_) (fun c3 => ?_)
        · refine AX.iconstV (v := 0) rfl (by decide) ?_
          exact AX.zreturn rfl rfl (by decide) ⟨by rw [hF]; rfl, by rw [hmF]; exact hm⟩ (Nat.le_refl _) (Nat.le_refl _)
        · exact absurd (by rw [hb]; rfl) c3
    · exact absurd (nI_le (by omega) (by omega)) c1
  | succ r ih =>
    intro m h hm hb hg
    have hlt : m < (yG y).length := by omega
    refine AX.iload_n rfl rfl ?_
    refine AX.iload_n rfl rfl ?_
    refine AX.icmp_ge rfl (fun c1 => absurd c1 (nI_ge (by omega) (by omega))) (fun _ => ?_)
    refine AX.aload_n rfl rfl ?_
    refine AX.iload_n rfl rfl ?_
    refine AX.cVI rfl rfl rfl (M0 hm) (yM_stateOf hR hW hm hlt) (fun h hm => ?_)
    refine AX.iconstV (v := 1) rfl (by decide) ?_
    refine AX.icmp_eq rfl (fun c1 => ?_) (fun c1 => ?_)
    · refine AX.iincV (dn := 1) rfl rfl (by decide) (by decide) ?_
      refine AX.goto rfl ?_
      rw [nI_1]
      exact ih (m + 1) h hm (by omega) (atGo hW hlt hg (by first | exact Or.inl c1 | exact Or.inr c2))
    · refine AX.aload_n rfl rfl ?_
      refine AX.iload_n rfl rfl ?_
      refine AX.cVI rfl rfl rfl (M0 hm) (yM_stateOf hR hW hm hlt) (fun h hm => ?_)
      refine AX.iconstV (v := 3) rfl (by decide) ?_
      refine AX.icmp_ne rfl (fun c2 => ?_) (fun c2 => ?_)
      · refine AX.iload_n rfl rfl ?_
        refine AX.aload_n rfl rfl ?_
        refine AX.getf rfl (M0 hm) rfl ?_
        refine AX.icmp_ge rfl (fun c3 => ?_) (fun c3 => ?_)
        · have hF : yAsk y (t.1 1) = false := by
            first
              | exact askF1 c3
              | exact askF3 (atIs hlt hg c1 c2) c4
          have hmF : mAsk y t = t := by unfold mAsk; rw [hF]; rfl
          refine AX.iconstV (v := 0) rfl (by decide) ?_
          exact AX.zreturn rfl rfl (by decide) ⟨by rw [hF]; rfl, by rw [hmF]; exact hm⟩ (Nat.le_refl _) (Nat.le_refl _)
        · refine AX.iload_n rfl rfl ?_
          refine AX.iload_n rfl rfl ?_
          refine AX.icmp_eq rfl (fun c => absurd ((nI_eq (by omega) (by omega)).mp c) (by omega)) (fun _ => ?_)
          refine AX.aload_n rfl rfl ?_
          refine AX.iload_n rfl rfl ?_
          refine AX.cVI rfl rfl rfl (M0 hm) (yM_stateOf hR hW hm hlt) (fun h hm => ?_)
          refine AX.if_eq rfl (fun c4 => ?_) (fun c4 => ?_)
          · have hat := atIs hlt hg c1 c2
            have hT := askT (w := t.1 1) hW hat hlt c3 c4
            have hmT : mAsk y t = mSet y 10 m 1 t := by unfold mAsk; rw [hT, hat]; rfl
            refine AX.aload_n rfl rfl ?_
            refine AX.iload_n rfl rfl ?_
            refine AX.iconstV (v := 1) rfl (by decide) ?_
            refine AX.cVV rfl rfl rfl (M0 hm) (sM_setG hR.2.1 hW hm hlt _) (fun h hm => ?_)
            refine AX.iconstV (v := 1) rfl (by decide) ?_
            exact AX.zreturn rfl rfl (by decide) ⟨by rw [hT]; rfl, by rw [hmT]; exact hm⟩ (Nat.le_refl _) (Nat.le_refl _)
          · have hF : yAsk y (t.1 1) = false := by
              first
                | exact askF1 c3
                | exact askF3 (atIs hlt hg c1 c2) c4
            have hmF : mAsk y t = t := by unfold mAsk; rw [hF]; rfl
            refine AX.iconstV (v := 0) rfl (by decide) ?_
            exact AX.zreturn rfl rfl (by decide) ⟨by rw [hF]; rfl, by rw [hmF]; exact hm⟩ (Nat.le_refl _) (Nat.le_refl _)
      · refine AX.iincV (dn := 1) rfl rfl (by decide) (by decide) ?_
        refine AX.goto rfl ?_
        rw [nI_1]
        exact ih (m + 1) h hm (by omega) (atGo hW hlt hg (by first | exact Or.inl c1 | exact Or.inr c2))
theorem yM_ask_l1 (hR : RM y t) (hW : WF y) : ∀ (r m acc : Nat) (h : ax_H), isM p t h → (yG y).length = m + r → acc + gCnt ((yG y).drop m) = gCnt (yG y) →
    AX (d + 2) kM_ask 0 0 none 9 [(3, .int (nI m)), (2, .int (nI acc)), (1, .int (nI (yG y).length)), (0, .ref 28)] [] h 0 0 (ax_ret kM_ask 0 0 (fun v h' => v = some (.int (bI (yAsk y (t.1 1)))) ∧ isM p (mAsk y t) h')) := by
  have hl := hW.gl
  intro r
  induction r with
  | zero =>
    intro m acc h hm hb hg
    have hacc : acc = gCnt (yG y) := by
      rw [← hg, List.drop_eq_nil_of_le (by omega)]; rfl
    subst hacc
    refine AX.iload_n rfl rfl ?_
    refine AX.iload_n rfl rfl ?_
    refine AX.icmp_ge rfl (fun c1 => ?_) (fun c1 => ?_)
    · refine AX.iconstV (v := 0) rfl (by decide) ?_
      refine AX.istore_n rfl (by decide) ?_
      exact yM_ask_l2 hR hW (yG y).length 0 h hm (by omega) (by rw [List.drop_zero]; omega)
    · exact absurd (nI_le (by omega) (by omega)) c1
  | succ r ih =>
    intro m acc h hm hb hg
    have hlt : m < (yG y).length := by omega
    rw [gCnt_drop hlt] at hg
    refine AX.iload_n rfl rfl ?_
    refine AX.iload_n rfl rfl ?_
    refine AX.icmp_ge rfl (fun c1 => ?_) (fun c1 => ?_)
    · exact absurd c1 (nI_ge (by omega) (by omega))
    · refine AX.iload_n rfl rfl ?_
      refine AX.aload_n rfl rfl ?_
      refine AX.iload_n rfl rfl ?_
      refine AX.cVI rfl rfl rfl (M0 hm) (yM_stateOf hR hW hm hlt) (fun h hm => ?_)
      refine AX.iconstV (v := 1) rfl (by decide) ?_
      refine AX.icmp_ne rfl (fun c2 => ?_) (fun c2 => ?_)
      · refine AX.iconstV (v := 0) rfl (by decide) ?_
        refine AX.iadd rfl ?_
        refine AX.istore_n rfl (by decide) ?_
        refine AX.iincV (dn := 1) rfl rfl (by decide) (by decide) ?_
        refine AX.goto rfl ?_
        first
          | (rw [if_neg (fun q => c2 (by rw [q]; rfl))] at hg; rw [nI_1, Int32.add_zero]; exact ih (m + 1) acc h hm (by omega) (by omega))
          | (rw [if_pos ((gis hW hlt (k := 1) (by decide)).mp (Classical.not_not.mp c2))] at hg; rw [nI_1, nI_1]; exact ih (m + 1) (acc + 1) h hm (by omega) (by omega))
          | (rw [if_pos ((gis hW hlt (k := 1) (by decide)).mp c2)] at hg; rw [nI_1, nI_1]; exact ih (m + 1) (acc + 1) h hm (by omega) (by omega))
      · refine AX.iconstV (v := 1) rfl (by decide) ?_
        refine AX.goto rfl ?_
        refine AX.iadd rfl ?_
        refine AX.istore_n rfl (by decide) ?_
        refine AX.iincV (dn := 1) rfl rfl (by decide) (by decide) ?_
        refine AX.goto rfl ?_
        first
          | (rw [if_neg (fun q => c2 (by rw [q]; rfl))] at hg; rw [nI_1, Int32.add_zero]; exact ih (m + 1) acc h hm (by omega) (by omega))
          | (rw [if_pos ((gis hW hlt (k := 1) (by decide)).mp (Classical.not_not.mp c2))] at hg; rw [nI_1, nI_1]; exact ih (m + 1) (acc + 1) h hm (by omega) (by omega))
          | (rw [if_pos ((gis hW hlt (k := 1) (by decide)).mp c2)] at hg; rw [nI_1, nI_1]; exact ih (m + 1) (acc + 1) h hm (by omega) (by omega))
theorem yM_ask (hR : RM y t) (hW : WF y) (hm : isM p t h) : AM (d + 2) kM_ask 0 0 none [.ref 28] h (fun v h' => v = some (.int (bI (yAsk y (t.1 1)))) ∧ isM p (mAsk y t) h') := by
  refine AX.aload_n rfl rfl ?_
  refine AX.cVI rfl rfl rfl (M0 hm) (yM_groupMany hR hW hm) (fun h hm => ?_)
  refine AX.istore_n rfl (by decide) ?_
  refine AX.iconstV (v := 0) rfl (by decide) ?_
  refine AX.istore_n rfl (by decide) ?_
  refine AX.iconstV (v := 0) rfl (by decide) ?_
  refine AX.istore_n rfl (by decide) ?_
  exact yM_ask_l1 hR hW (yG y).length 0 0 h hm (by omega) (by rw [List.drop_zero]; omega)
end AK
