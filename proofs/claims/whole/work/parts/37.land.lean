/-! The first group lands -/
section LA
variable {y : yT} {z : zS} {t : mS} {p h : ax_H} {d : Nat}
def y1c (y : yT) : Nat := (gL (yG y)).getD 0 0
def yTk1 (y : yT) (c : Nat) : yT := ylst (yup y 1 c 2) 1 (yTr y ++ [c])
def yLd1 (y : yT) : yT := yGs (yTk1 y (y1c y)) (gRm (yG y) 0 0)
def mLd0 (t : mS) (c n : Nat) : mS := mset (marr (marr t 2 c 2) 8 n (nI c)) 7 (nI (n + 1))
def mLd1 (y : yT) (t : mS) : mS := mGo (mLd0 t (y1c y) (yTr y).length) (gL (yG y)) (gF (yG y)) 0
theorem g1 (hW : WF y) (h0 : 0 < (yG y).length) : 0 < ((yG y).getD 0 g0).1.length ∧ ((yG y).getD 0 g0).1.getD 0 0 = y1c y ∧ y1c y ∈ gL (yG y) ∧ y1c y < yn y ∧ ypl y (y1c y) = 1 ∧ 0 < (gL (yG y)).length := by
  have hne : ((yG y).getD 0 g0).1 ≠ [] := hW.2.2.2.2.2.2.2.2.1 _ (List.mem_of_getElem? (getD_some h0))
  have h1 : 0 < ((yG y).getD 0 g0).1.length := List.length_pos_iff.mpr hne
  have h2 := gLen_le hW h0
  have h3 : y1c y ∈ gL (yG y) := getD_mem (by omega)
  have h4 := (hW.2.2.2.2.2.2.2.2.2.2.1 (y1c y)).mp h3
  exact ⟨h1, (gL_at (i := 0) (j := 0) h0 h1).symm, h3, h4.1, h4.2, by omega⟩
theorem WF.land1 (hW : WF y) (h0 : 0 < (yG y).length) : WF (yLd1 y) := by
  obtain ⟨a1, a2, a3, a4, a5, a6⟩ := g1 hW h0
  obtain ⟨w1, w2, w3, w4, w5, w6, w7, w8, w9, w10, w11, w12, w13, w14, w15⟩ := id hW
  have hL' : gL (gRm (yG y) 0 0) = (gL (yG y)).eraseIdx 0 := by
    have := gRm_L (yG y) 0 0 h0 a1
    rw [gB_0] at this
    exact this
  have hP : ∀ c, ypl (yLd1 y) c = if c = y1c y then 2 else ypl y c := fun c => rfl
  refine ⟨w1, ?_, w3, w4, w5, ?_, ?_, ?_, gRm_ne w9, ?_, ?_, ?_, w13, w14, ?_⟩
  · intro c hc
    obtain ⟨a, b, e, f, g⟩ := w2 c hc
    refine ⟨a, ?_, e, f, g⟩
    rw [hP c]; split <;> omega
  · intro c
    show c ∈ yQ y ↔ c < yn y ∧ ypl (yLd1 y) c = 0
    rw [hP c, w6 c]
    by_cases e : c = y1c y
    · rw [if_pos e, e]
      constructor
      · rintro ⟨-, q⟩; omega
      · rintro ⟨-, q⟩; omega
    · rw [if_neg e]
  · show (yTr y ++ [y1c y]).Nodup
    rw [List.nodup_append]
    refine ⟨w7, by simp, ?_⟩
    intro a ha b hb e
    rw [List.mem_singleton] at hb
    subst hb
    have := ((w8 a).mp ha).2
    rw [e] at this
    omega
  · intro c
    show c ∈ yTr y ++ [y1c y] ↔ c < yn y ∧ ypl (yLd1 y) c = 2
    rw [hP c, List.mem_append, w8 c, List.mem_singleton]
    by_cases e : c = y1c y
    · rw [if_pos e, e]
      exact ⟨fun _ => ⟨a4, rfl⟩, fun _ => Or.inr rfl⟩
    · rw [if_neg e]
      exact ⟨fun q => q.resolve_right e, Or.inl⟩
  · show (gL (gRm (yG y) 0 0)).Nodup
    rw [hL']
    exact w10.sublist (List.eraseIdx_sublist _ _)
  · intro c
    show c ∈ gL (gRm (yG y) 0 0) ↔ c < yn y ∧ ypl (yLd1 y) c = 1
    rw [hP c, hL', mem_er w10 a6, w11 c]
    show (c < yn y ∧ ypl y c = 1) ∧ c ≠ y1c y ↔ _
    by_cases e : c = y1c y
    · rw [if_pos e]
      constructor
      · rintro ⟨-, q⟩; exact absurd e q
      · rintro ⟨-, q⟩; cases q
    · rw [if_neg e]
      exact ⟨fun q => q.1, fun q => ⟨q, e⟩⟩
  · intro g hg
    obtain ⟨g2, k1, k2, k3⟩ := gRm_mem h0 hg
    rw [k2]
    exact w12 g2 k1
  · intro c hc
    show ywy y c = 0 ↔ ypl (yLd1 y) c ≠ 3
    rw [hP c]
    by_cases e : c = y1c y
    · rw [if_pos e]
      have := w15 c hc
      rw [e] at this ⊢
      rw [this, a5]
      simp
    · rw [if_neg e]; exact w15 c hc
theorem RM.tk (hW : WF y) (hR : RM y t) (h0 : 0 < (yG y).length) : RM (yTk1 y (y1c y)) (mLd0 t (y1c y) (yTr y).length) := by
  obtain ⟨a1, a2, a3, a4, a5, a6⟩ := g1 hW h0
  have hp := hR.pl (c := y1c y) (v := 2)
  obtain ⟨⟨r0, r1, r2, r3⟩, rL, rT, rc, r5, r6, r7⟩ := hp
  refine ⟨⟨r0, r1, r2, ?_⟩, rL.cong rfl rfl rfl, ?_, rc, r5, r6, r7⟩
  · show nI ((yTr y).length + 1) = nI (yTr y ++ [y1c y]).length
    rw [List.length_append]; rfl
  · intro i hi
    have hi2 : i < (yTr y ++ [y1c y]).length := hi
    rw [List.length_append, List.length_singleton] at hi2
    show (marr (marr t 2 (y1c y) 2) 8 (yTr y).length (nI (y1c y))).2 8 i = nI ((yTr y ++ [y1c y]).getD i 0)
    by_cases e : i = (yTr y).length
    · subst e
      rw [marr_eq, List.getD_eq_getElem?_getD, List.getElem?_concat_length]
      rfl
    · rw [marr_k e, List.getD_eq_getElem?_getD, List.getElem?_append_left (by omega), ← List.getD_eq_getElem?_getD]
      exact rT i (by show i < (yTr y).length; omega)
theorem RM.land1 (hW : WF y) (hR : RM y t) (h0 : 0 < (yG y).length) : RM (yLd1 y) (mLd1 y t) := by
  obtain ⟨a1, a2, a3, a4, a5, a6⟩ := g1 hW h0
  have h1 := hR.tk hW h0
  have hall := h1.all
  have hnd := hW.2.2.2.2.2.2.2.2.2.1
  have hne := hW.2.2.2.2.2.2.2.2.1
  obtain ⟨⟨r0, r1, r2, r3⟩, rL, rT, rc, r5, r6, r7⟩ := h1
  refine ⟨⟨(mGo_1 _ _ _ _ (by decide)).trans r0, (mGo_1 _ _ _ _ (by decide)).trans r1, (mGo_1 _ _ _ _ (by decide)).trans r2, (mGo_1 _ _ _ _ (by decide)).trans r3⟩, ?_, ?_, ?_, ?_, ?_, ?_⟩
  · show LaneOk _ (gL (gRm (yG y) 0 0)) (gF (gRm (yG y) 0 0))
    rw [gRm_L _ 0 0 h0 a1, gRm_F _ 0 0 hne h0 a1]
    exact LaneOk.go (a := 0) rL hnd a6
  · unfold mLd1; rw [mGo_2 _ _ _ _ (by decide) (by decide)]; exact rT
  · unfold mLd1; rw [mGo_2 _ _ _ _ (by decide) (by decide)]; exact rc
  · unfold mLd1; rw [mGo_2 _ _ _ _ (by decide) (by decide), mGo_2 _ _ _ _ (by decide) (by decide), mGo_2 _ _ _ _ (by decide) (by decide), mGo_2 _ _ _ _ (by decide) (by decide), mGo_2 _ _ _ _ (by decide) (by decide)]; exact r5
  · unfold mLd1; rw [mGo_2 _ _ _ _ (by decide) (by decide), mGo_2 _ _ _ _ (by decide) (by decide), mGo_2 _ _ _ _ (by decide) (by decide)]; exact r6
  · refine gAll_iff.mpr ?_
    intro g hg c hc
    unfold mLd1
    rw [mGo_2 _ _ _ _ (by decide) (by decide), mGo_2 _ _ _ _ (by decide) (by decide)]
    obtain ⟨g2, k1, k2, k3⟩ := gRm_mem h0 hg
    rw [k2]
    exact hall g2 k1 c (k3 c hc)
def yLdI : Nat → yT → yT
  | 0, y => y
  | n + 1, y => yLdI n (yLd1 y)
def mLdI : Nat → yT → mS → mS
  | 0, _, t => t
  | n + 1, y, t => mLdI n (yLd1 y) (mLd1 y t)
theorem ld_first {n : Nat} (h0 : 0 < (yG y).length) (h : ((yG y).getD 0 g0).1.length = n + 1) (hn : 0 < n) : 0 < (yG (yLd1 y)).length ∧ ((yG (yLd1 y)).getD 0 g0).1.length = n := by
  have e : ¬ ((yG y).getD 0 g0).1.eraseIdx 0 = [] := by
    intro e
    have := congrArg List.length e
    rw [List.length_eraseIdx, if_pos (by omega), List.length_nil] at this
    omega
  have eG : yG (yLd1 y) = (yG y).set 0 (((yG y).getD 0 g0).1.eraseIdx 0, ((yG y).getD 0 g0).2) := by
    show gRm (yG y) 0 0 = _
    unfold gRm
    rw [if_neg e]
  rw [eG]
  refine ⟨by rw [List.length_set]; exact h0, ?_⟩
  rw [List.getD_eq_getElem?_getD, List.getElem?_set_self h0]
  show (((yG y).getD 0 g0).1.eraseIdx 0).length = n
  rw [List.length_eraseIdx, if_pos (by omega), h]
  rfl
/-- the model's loop -/
theorem land_inv : ∀ (n : Nat) (y : yT) (t : mS), WF y → RM y t → (n = 0 ∨ (0 < (yG y).length ∧ ((yG y).getD 0 g0).1.length = n)) → WF (yLdI n y) ∧ RM (yLdI n y) (mLdI n y t) := by
  intro n
  induction n with
  | zero => intro y t hW hR _; exact ⟨hW, hR⟩
  | succ n ih =>
    intro y t hW hR h
    rcases h with h | ⟨h0, h1⟩
    · cases h
    · refine ih (yLd1 y) (mLd1 y t) (hW.land1 h0) (hR.land1 hW h0) ?_
      cases n with
      | zero => exact Or.inl rfl
      | succ n => exact Or.inr (ld_first h0 h1 (by omega))
theorem yM_land_l : ∀ (n m e : Nat) (y : yT) (t : mS) (h : ax_H), WF y → RM y t → (n = 0 ∨ (0 < (yG y).length ∧ ((yG y).getD 0 g0).1.length = n)) → isM p t h → e = m + n → e ≤ 40 →
    AX (d + 3) kM_land 0 0 none 8 [(2, .int (nI m)), (1, .int (nI e)), (0, .ref 28)] [] h 0 0 (ax_ret kM_land 0 0 (fun v h' => v = none ∧ isM p (mClear (mLdI n y t) (ycf y) (yTr (yLdI n y)) (yn y)) h')) := by
  intro n
  induction n with
  | zero =>
    intro m e y t h hW hR _ hm hb he
    refine AX.iload_n rfl rfl ?_
    refine AX.iload_n rfl rfl ?_
    refine AX.icmp_ge rfl (fun c1 => ?_) (fun c1 => ?_)
    · refine AX.aload_n rfl rfl ?_
      refine AX.cVV rfl rfl rfl (M0 hm) (sM_clear hR.1.2.1 hW.1 hR.2.2.2.1 hR.1.2.2.2 (RM.tr4 hW) (hR.t2 hW) hm) (fun h hm => ?_)
      exact AX.vreturn rfl rfl ⟨rfl, hm⟩ (Nat.le_refl _) (Nat.le_refl _)
    · exact absurd (nI_le (by omega) (by omega)) c1
  | succ n ih =>
    intro m e y t h hW hR hn hm hb he
    rcases hn with hn | ⟨h0, h1⟩
    · cases hn
    · obtain ⟨a1, a2, a3, a4, a5, a6⟩ := g1 hW h0
      have htl := hW.tl
      have hn := hW.1
      have h3 := hR.2.1.2.2.2 0 a6
      have hT := hR.tk hW h0
      have e7 : t.1 7 = nI (yTr y).length := hR.1.2.2.2
      refine AX.iload_n rfl rfl ?_
      refine AX.iload_n rfl rfl ?_
      refine AX.icmp_ge rfl (fun c1 => ?_) (fun c1 => ?_)
      · exact absurd c1 (nI_ge (by omega) (by omega))
      · refine AX.aload_n rfl rfl ?_
        refine AX.getf rfl (M0 hm) rfl ?_
        refine AX.iconstV (v := 0) rfl (by decide) ?_
        refine AX.ialdX rfl (MA hm 7 (by decide) (by decide) (by decide)) (by decide) (⟨0, by decide, rfl, h3.1⟩) ?_
        refine AX.istore_n rfl (by decide) ?_
        refine AX.aload_n rfl rfl ?_
        refine AX.getf rfl (M0 hm) rfl ?_
        refine AX.iload_n rfl rfl ?_
        refine AX.iconstV (v := 2) rfl (by decide) ?_
        refine AX.iastX (y1c y) rfl (MA hm 2 (by decide) (by decide) (by decide)) (by decide) (h3.2.1) (rfl) ?_
        refine AX.gen (G := isM p _) (MW hm 2 _ _ (by decide) (by decide) (by decide)) (fun h hm => ?_)
        refine AX.aload_n rfl rfl ?_
        refine AX.getf rfl (M0 hm) rfl ?_
        refine AX.aload_n rfl rfl ?_
        refine AX.getf rfl (M0 hm) rfl ?_
        refine AX.iload_n rfl rfl ?_
        refine AX.iastX ((yTr y).length) rfl (MA hm 8 (by decide) (by decide) (by decide)) (by decide) (by omega) (e7) ?_
        refine AX.gen (G := isM p _) (MW hm 8 _ _ (by decide) (by decide) (by decide)) (fun h hm => ?_)
        refine AX.aload_n rfl rfl ?_
        refine AX.dup rfl rfl ?_
        refine AX.getf rfl (M0 hm) rfl ?_
        refine AX.iconstV (v := 1) rfl (by decide) ?_
        refine AX.iadd rfl ?_
        refine AX.putf rfl (M0 hm) (Nat.le_of_ble_eq_true rfl) rfl ?_
        refine AX.gen (G := isM p _) (MS hm 7 _ (by decide) rfl) (fun h hm => ?_)
        have hm : isM p (mLd0 t (y1c y) (yTr y).length) h := by unfold mLd0; rw [← nI_1, ← e7]; exact hm
        refine AX.aload_n rfl rfl ?_
        refine AX.iconstV (v := 0) rfl (by decide) ?_
        refine AX.cVV rfl rfl rfl (M0 hm) (sM_goFrom0 hT.2.1 hm a6) (fun h hm => ?_)
        refine AX.iincV (dn := 1) rfl rfl (by decide) (by decide) ?_
        refine AX.goto rfl ?_
        rw [nI_1]
        refine AX.sub [0, 2, 3] rfl ?_
        exact ih (m + 1) e (yLd1 y) (mLd1 y t) h (hW.land1 h0) (hR.land1 hW h0) (by cases n with | zero => exact Or.inl rfl | succ n => exact Or.inr (ld_first h0 h1 (by omega))) hm (by omega) he
theorem yM_land (hR : RM y t) (hW : WF y) (hm : isM p t h) (h0 : 0 < (yG y).length) : AM (d + 3) kM_land 0 0 none [.ref 28] h (fun v h' => v = none ∧ isM p (mClear (mLdI ((yG y).getD 0 g0).1.length y t) (ycf y) (yTr (yLdI ((yG y).getD 0 g0).1.length y)) (yn y)) h') := by
  have hlen := gLen_le hW h0
  have h40 := hR.2.1.2.1
  refine AX.aload_n rfl rfl ?_
  refine AX.iconstV (v := 0) rfl (by decide) ?_
  refine AX.cVI rfl rfl rfl (M0 hm) (yM_sizeOf0 hR hW hm h0) (fun h hm => ?_)
  refine AX.istore_n rfl (by decide) ?_
  refine AX.iconstV (v := 0) rfl (by decide) ?_
  refine AX.istore_n rfl (by decide) ?_
  exact yM_land_l _ 0 _ y t h hW hR (Or.inr ⟨h0, rfl⟩) hm (by omega) (by omega)
-- the class
theorem zBase_cong {z z' : zS} (h9 : z'.2.1 9 = z.2.1 9) : ∀ (n m : Nat) (acc : Int32), zBase z' n m acc = zBase z n m acc := by
  intro n
  induction n with
  | zero => intro m acc; rfl
  | succ n ih => intro m acc; rw [zBase, zBase, ih, zat, zat, h9]
theorem zMem_cong {z z' : zS} (h8 : z'.2.1 8 = z.2.1 8) (h9 : z'.2.1 9 = z.2.1 9) (h10 : z'.2.1 10 = z.2.1 10) (g k : Int32) : zG_member z' g k = zG_member z g k := by
  unfold zG_member zG_base zat
  rw [h8, h9, h10]
  simp only [zBase_cong h9]
def yTk : List Nat → yT → yT
  | [], y => y
  | c :: r, y => yTk r (yTk1 y c)
theorem yTk_gs : ∀ (l : List Nat) (y : yT) (G : List gT), yTk l (yGs y G) = yGs (yTk l y) G := by
  intro l
  induction l with
  | nil => intro y G; rfl
  | cons c l ih => intro y G; exact ih (yTk1 y c) G
theorem yTk_n : ∀ (l : List Nat) (y : yT), yn (yTk l y) = yn y ∧ yG (yTk l y) = yG y ∧ ycf (yTk l y) = ycf y ∧ (yTr (yTk l y)).length = (yTr y).length + l.length := by
  intro l
  induction l with
  | nil => intro y; exact ⟨rfl, rfl, rfl, rfl⟩
  | cons c l ih =>
    intro y
    obtain ⟨a, b, e, f⟩ := ih (yTk1 y c)
    refine ⟨a, b, e, ?_⟩
    show (yTr (yTk l (yTk1 y c))).length = _
    rw [f]
    show (yTr y ++ [c]).length + l.length = _
    rw [List.length_append, List.length_cons, List.length_cons, List.length_nil]
    omega
theorem RC.tk1 (hC : RC y z) {c : Nat} (hn : yn y ≤ 40) (hc : c < yn y) (ht : (yTr y).length < 40) : RC (yTk1 y c) (zapp (zput z 2 (nI c) 2) 7 (nI c)) := by
  have h1 := RC.pl hC (v := 2) hn hc
  refine RC.T h1 _ ?_
  have e : (zput z 2 (nI c) 2).2.1 7 = (yTr y).map nI := h1.R7
  show rIns ((zput z 2 (nI c) 2).2.1 7) (nI ((zput z 2 (nI c) 2).2.1 7).length) (nI c) = _
  rw [rIns_end (by rw [e, List.length_map]; exact ht), e, List.map_append]
  rfl
theorem zLand_eff {y0 : yT} {z0 : zS} (hC0 : RC y0 z0) (hW0 : WF y0) (h0 : 0 < (yG y0).length) : ∀ (n m : Nat) (y : yT) (z : zS), RC y z → yn y = yn y0 → (yTr y).length = (yTr y0).length + m → ((yG y0).getD 0 g0).1.length = m + n → z.2.1 8 = z0.2.1 8 → z.2.1 9 = z0.2.1 9 → z.2.1 10 = z0.2.1 10 → RC (yTk (((yG y0).getD 0 g0).1.drop m) y) (zLand n m z) ∧ (zLand n m z).1 = z.1 ∧ (zLand n m z).2.1 1 = z.2.1 1 := by
  have hl := hW0.gl
  have hlen := gLen_le hW0 h0
  have htl := hW0.tl
  have hn0 := hW0.1
  intro n
  induction n with
  | zero =>
    intro m y z hC _ _ hb _ _ _
    rw [List.drop_eq_nil_of_le (by omega)]
    exact ⟨hC, rfl, rfl⟩
  | succ n ih =>
    intro m y z hC hn ht hb e8 e9 e10
    have hm : m < ((yG y0).getD 0 g0).1.length := by omega
    rw [drop_getD (x := 0) hm, zLand]
    have hmem : zG_member z 0 (nI m) = nI (((yG y0).getD 0 g0).1.getD m 0) := by
      rw [zMem_cong e8 e9 e10, same_member hC0 hW0, yMember, if_pos (by show isC (yG y0).length (nI 0) = true; rw [isC_nI hl (by decide)]; simpa using h0), if_neg (nI_pos (by omega)), nI_clamp (by omega)]
      show (if nI m < nI ((yG y0).getD 0 g0).1.length then nI (((yG y0).getD 0 g0).1.getD m 0) else -1) = _
      rw [if_pos ((nI_ltI (by omega) (by omega)).mpr hm)]
    have hin : ((yG y0).getD 0 g0).1.getD m 0 < yn y := by
      rw [hn]
      exact ((hW0.2.2.2.2.2.2.2.2.2.2.1 _).mp (mem_gL h0 (getD_mem hm))).1
    have h1 : RC (yTk1 y (((yG y0).getD 0 g0).1.getD m 0)) (zLand1 z m) := by
      unfold zLand1
      rw [hmem]
      exact hC.tk1 (by omega) hin (by omega)
    have er : ∀ r, r ≠ 2 → r ≠ 7 → (zLand1 z m).2.1 r = z.2.1 r := by
      intro r h2 h7
      rw [zLand1, zapp, zrow_ne h7, zput, zrow_ne h2]
    obtain ⟨i1, i2, i3⟩ := ih (m + 1) (yTk1 y (((yG y0).getD 0 g0).1.getD m 0)) (zLand1 z m) h1 hn (by show (yTr y ++ [_]).length = _; rw [List.length_append, List.length_singleton, ht]; omega) (by omega) (by rw [er 8 (by decide) (by decide), e8]) (by rw [er 9 (by decide) (by decide), e9]) (by rw [er 10 (by decide) (by decide), e10])
    exact ⟨i1, i2, by rw [i3, er 1 (by decide) (by decide)]⟩
theorem zRemF_eff : ∀ (n : Nat) (z : zS), (z.2.1 8).length ≤ 40 → n ≤ (z.2.1 8).length → (zRemF z n).2.1 8 = (z.2.1 8).drop n ∧ (∀ r, r ≠ 8 → (zRemF z n).2.1 r = z.2.1 r) ∧ (zRemF z n).1 = z.1 ∧ (zRemF z n).2.2 = z.2.2 := by
  intro n
  induction n with
  | zero => intro z _ _; exact ⟨rfl, fun _ _ => rfl, rfl, rfl⟩
  | succ n ih =>
    intro z h1 h2
    have e : (zrem z 8 0).2.1 8 = (z.2.1 8).drop 1 := by
      rw [zrem, zrow_same]
      have := rRem_e (xs := z.2.1 8) (k := 0) (by omega) h1
      rw [List.eraseIdx_zero] at this
      rw [show rRem (z.2.1 8) 0 = (z.2.1 8).tail from this, List.drop_one]
    obtain ⟨i1, i2, i3, i4⟩ := ih (zrem z 8 0) (by rw [e, List.length_drop]; omega) (by rw [e, List.length_drop]; omega)
    rw [zRemF]
    refine ⟨by rw [i1, e, List.drop_drop, Nat.add_comm], fun r hr => by rw [i2 r hr, zrem, zrow_ne hr], i3, i4⟩
theorem yLdI_eq : ∀ (ms : List Nat) (y : yT) (sf : Nat × Nat) (R : List gT), yG y = (ms, sf) :: R → ms ≠ [] → yLdI ms.length y = yGs (yTk ms y) R := by
  intro ms
  induction ms with
  | nil => intro y sf R _ h; exact absurd rfl h
  | cons c r ih =>
    intro y sf R hG _
    have hc : y1c y = c := by unfold y1c; rw [hG]; rfl
    have hy : yLd1 y = yGs (yTk1 y c) (gRm ((c :: r, sf) :: R) 0 0) := by unfold yLd1; rw [hc, hG]
    rw [List.length_cons, yLdI, hy]
    cases r with
    | nil => rfl
    | cons c2 r =>
      have e : gRm ((c :: c2 :: r, sf) :: R) 0 0 = (c2 :: r, sf) :: R := rfl
      rw [e, ih (yGs (yTk1 y c) ((c2 :: r, sf) :: R)) sf R rfl (by simp), yTk_gs]
      rfl
theorem op_land (hI : INV y z t) (h0 : 0 < (yG y).length) : INV (ySend (yLdI ((yG y).getD 0 g0).1.length y)) (zQ_land z) (mClear (mLdI ((yG y).getD 0 g0).1.length y t) (ycf y) (yTr (yLdI ((yG y).getD 0 g0).1.length y)) (yn y)) := by
  obtain ⟨hW, hC, hR, hS⟩ := hI
  have hl := hW.gl
  have hlen := gLen_le hW h0
  have htl := hW.tl
  obtain ⟨hW2, hR2⟩ := land_inv ((yG y).getD 0 g0).1.length y t hW hR (Or.inr ⟨h0, rfl⟩)
  obtain ⟨a1, a2, a3, a4, a5, a6⟩ := g1 hW h0
  obtain ⟨g, R, hG⟩ : ∃ g R, yG y = g :: R := by
    cases h : yG y with
    | nil => rw [h] at h0; simp at h0
    | cons g R => exact ⟨g, R, rfl⟩
  have hg : (yG y).getD 0 g0 = g := by rw [hG]; rfl
  have hne : g.1 ≠ [] := by rw [← hg]; exact List.length_pos_iff.mp a1
  have hy := yLdI_eq g.1 y g.2 R hG hne
  have a9 : zat z 9 0 = nI g.1.length := by have := (gatN hC hW h0).2.1; rw [hg] at this; exact this
  obtain ⟨c1, c2, c3⟩ := zLand_eff hC hW h0 ((yG y).getD 0 g0).1.length 0 y z hC rfl (by omega) (by omega) rfl rfl rfl
  rw [List.drop_zero, hg] at c1
  rw [hg] at c2 c3 hW2 hR2 ⊢
  rw [hg] at hlen
  obtain ⟨k1, k2, k3, k4⟩ := yTk_n g.1 y
  -- the group goes
  generalize hz1 : zLand g.1.length 0 z = z1 at c1 c2 c3
  have z9 : zat z1 9 0 = nI g.1.length := by
    have e1 : z1.2.1 9 = z.2.1 9 := by rw [c1.G9, hC.G9, k2]
    rw [zat, e1]; exact a9
  have z8l : z1.2.1 8 = (gL (yG y)).map nI := by rw [c1.G8, k2]
  obtain ⟨f1, f2, f3, f4⟩ := zRemF_eff g.1.length z1 (by rw [z8l, List.length_map]; omega) (by rw [z8l, List.length_map]; omega)
  have hz2 : zG_remF z1 = zG_remG (zRemF z1 g.1.length) (nI 0) := by
    unfold zG_remF
    rw [z9, nI_clamp (by omega)]
    rfl
  have hGl : R.length + 1 ≤ 40 := by rw [hG] at hl; exact hl
  have r9 : (zRemF z1 g.1.length).2.1 9 = (g :: R).map (fun g => nI g.1.length) := by rw [f2 9 (by decide), c1.G9, k2, hG]
  have r10 : (zRemF z1 g.1.length).2.1 10 = (g :: R).map (fun g => nI g.2.1) := by rw [f2 10 (by decide), c1.G10, k2, hG]
  have r11 : (zRemF z1 g.1.length).2.1 11 = (g :: R).map (fun g => nI g.2.2) := by rw [f2 11 (by decide), c1.G11, k2, hG]
  have hrem : ∀ (F : gT → Int32), rRem ((g :: R).map F) (nI 0) = R.map F := by
    intro F
    rw [rRem_e (by simp) (by rw [List.length_map]; exact hGl)]
    rfl
  have hC2 : RC (yGs (yTk g.1 y) R) (zG_remG (zRemF z1 g.1.length) (nI 0)) := by
    refine RC.gs c1 ?_ ?_ ?_ ?_ ?_ ?_ ?_
    · rw [zG_remG, zrem, zrow_ne (by decide), zrem, zrow_ne (by decide), zrem, zrow_ne (by decide), f1, z8l, ← List.map_drop, hG, gL_cons, List.drop_left]
    · rw [zG_remG, zrem, zrow_ne (by decide), zrem, zrow_ne (by decide), zrem, zrow_same, r9, hrem]
    · rw [zG_remG, zrem, zrow_ne (by decide), zrem, zrow_same, zrem, zrow_ne (by decide), r10, hrem]
    · rw [zG_remG, zrem, zrow_same, zrem, zrow_ne (by decide), zrem, zrow_ne (by decide), r11, hrem]
    · intro r hr
      rw [zG_remG, zrem, zrow_ne (by omega), zrem, zrow_ne (by omega), zrem, zrow_ne (by omega), f2 r (by omega)]
    · show (zRemF z1 g.1.length).1 6 = _
      rw [f3]
    · exact f4
  have hI2 : INV (yLdI g.1.length y) (zG_remF z1) (mLdI g.1.length y t) := by
    refine ⟨hW2, by rw [hy, hz2]; exact hC2, hR2, ?_⟩
    have hm : ∀ (n : Nat) (y : yT) (t : mS), (∀ q, q ≠ 6 → q ≠ 7 → (mLdI n y t).1 q = t.1 q) ∧ (mLdI n y t).2 1 = t.2 1 := by
      intro n
      induction n with
      | zero => intro y t; exact ⟨fun _ _ _ => rfl, rfl⟩
      | succ n ih =>
        intro y t
        obtain ⟨i1, i2⟩ := ih (yLd1 y) (mLd1 y t)
        rw [mLdI]
        refine ⟨fun q h6 h7 => ?_, ?_⟩
        · rw [i1 q h6 h7]
          unfold mLd1
          rw [mGo_1 _ _ _ _ h6]
          show va_up t.1 7 _ q = _
          simp [va_up, h7]
        · rw [i2]
          unfold mLd1
          rw [mGo_2 _ _ _ _ (by decide) (by decide)]
          show (marr (marr t 2 (y1c y) 2) 8 (yTr y).length (nI (y1c y))).2 1 = _
          rw [marr_o (by decide), marr_o (by decide)]
    obtain ⟨m1, m2⟩ := hm g.1.length y t
    refine RS.cong hS (by rw [hy]; exact k1) ?_ ?_ (fun q hq => m1 q (by omega) (by omega)) m2
    · intro q _ _
      rw [hz2]
      show (zRemF z1 g.1.length).1 q = _
      rw [f3, c2]
    · rw [hz2, zG_remG, zrem, zrow_ne (by decide), zrem, zrow_ne (by decide), zrem, zrow_ne (by decide), f2 1 (by decide), c3]
  have hf := op_send hI2
  have ez : zQ_land z = zQ_send (zG_remF z1) := by
    unfold zQ_land
    rw [a9, nI_clamp (by omega), hz1]
  rw [ez]
  have en : yn (yLdI g.1.length y) = yn y := by rw [hy]; exact k1
  have ec : ycf (yLdI g.1.length y) = ycf y := by rw [hy]; exact k3
  rw [en, ec] at hf
  exact hf
end LA
