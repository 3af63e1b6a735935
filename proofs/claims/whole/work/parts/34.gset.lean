/-! A group gets a state and a number of failures -/
section GS
variable {y : yT} {z : zS} {t : mS} {p h : ax_H} {d : Nat}
def gSt (G : List gT) (i s f : Nat) : List gT := G.set i ((G.getD i g0).1, s, f)
theorem getD_some {G : List gT} {i : Nat} (hi : i < G.length) : G[i]? = some (G.getD i g0) := by
  rw [List.getD_eq_getElem?_getD, List.getElem?_eq_getElem hi]; rfl
theorem gSt_map {α : Type} (F : List Nat → α) {G : List gT} {i s f : Nat} (hi : i < G.length) : (gSt G i s f).map (fun g => F g.1) = G.map (fun g => F g.1) := map_set_same (fun g : gT => F g.1) (getD_some hi) rfl
theorem gSt_L {G : List gT} {i s f : Nat} (hi : i < G.length) : gL (gSt G i s f) = gL G := by
  have h := gSt_map id (s := s) (f := f) hi
  unfold gL
  rw [List.flatMap_def, List.flatMap_def]
  exact congrArg List.flatten h
theorem gSt_F {G : List gT} {i s f : Nat} (hi : i < G.length) : gF (gSt G i s f) = gF G := by
  have h := gSt_map gF1 (s := s) (f := f) hi
  unfold gF
  rw [List.flatMap_def, List.flatMap_def]
  exact congrArg List.flatten h
theorem gSt_len (G : List gT) (i s f : Nat) : (gSt G i s f).length = G.length := by unfold gSt; rw [List.length_set]
theorem gSt_at {G : List gT} {i s f : Nat} (hi : i < G.length) (q : Nat) : (gSt G i s f).getD q g0 = if q = i then ((G.getD i g0).1, s, f) else G.getD q g0 := by
  unfold gSt
  rw [List.getD_eq_getElem?_getD, List.getElem?_set]
  by_cases e : q = i
  · subst e
    rw [if_pos rfl, if_pos rfl, if_pos hi]
    rfl
  · rw [if_neg e, if_neg (fun q => e q.symm), List.getD_eq_getElem?_getD (i := q)]
theorem WF.gset (hW : WF y) {i s f : Nat} (hi : i < (yG y).length) (hs : s ≤ 3) : WF (yGs y (gSt (yG y) i s f)) := by
  obtain ⟨w1, w2, w3, w4, w5, w6, w7, w8, w9, w10, w11, w12, w13, w14, w15⟩ := hW
  have hm : (yG y).getD i g0 ∈ yG y := List.mem_of_getElem? (getD_some hi)
  refine ⟨w1, w2, w3, w4, w5, w6, w7, w8, ?_, ?_, ?_, ?_, w13, w14, w15⟩
  · intro g hg
    rcases List.mem_or_eq_of_mem_set hg with q | q
    · exact w9 g q
    · rw [q]; exact w9 ((yG y).getD i g0) hm
  · show (gL (gSt (yG y) i s f)).Nodup
    rw [gSt_L hi]; exact w10
  · intro c
    show c ∈ gL (gSt (yG y) i s f) ↔ _
    rw [gSt_L hi]; exact w11 c
  · intro g hg
    rcases List.mem_or_eq_of_mem_set hg with q | q
    · exact w12 g q
    · rw [q]; exact ⟨hs, Nat.zero_le _⟩
theorem RC.gset {z' : zS} (hC : RC y z) {i s f : Nat} (hi : i < (yG y).length) (h10 : z'.2.1 10 = (z.2.1 10).set i (nI s)) (h11 : z'.2.1 11 = (z.2.1 11).set i (nI f)) (hr : ∀ r, r < 10 → z'.2.1 r = z.2.1 r) (h6 : z'.1 6 = z.1 6) (hc : z'.2.2 = z.2.2) : RC (yGs y (gSt (yG y) i s f)) z' := by
  refine RC.gs hC ?_ ?_ ?_ ?_ (fun r q => hr r (by omega)) h6 hc
  · rw [hr 8 (by decide), gSt_L hi]; exact hC.G8
  · rw [hr 9 (by decide), hC.G9]
    exact (gSt_map (fun l => nI l.length) hi).symm
  · rw [h10, hC.G10]; unfold gSt; rw [List.map_set]
  · rw [h11, hC.G11]; unfold gSt; rw [List.map_set]
theorem gMem {G : List gT} (hn : (gL G).Nodup) {i q c : Nat} (hi : i < G.length) (hq : q < G.length) (h1 : c ∈ (G.getD i g0).1) (h2 : c ∈ (G.getD q g0).1) : i = q := by
  have a := (gL_idx hn (i := i) hi h1).mpr (Nat.le_refl _)
  have b := (gL_idx hn (i := i) hq h2).mp a
  have a2 := (gL_idx hn (i := q) hq h2).mpr (Nat.le_refl _)
  have b2 := (gL_idx hn (i := q) hi h1).mp a2
  omega
theorem RM.gset {t' : mS} (hW : WF y) (hR : RM y t) {i s f : Nat} (hi : i < (yG y).length) (h1 : ∀ q, q = 3 ∨ q = 4 ∨ q = 5 ∨ q = 6 ∨ q = 7 → t'.1 q = t.1 q) (h2 : ∀ a, a ≠ 10 → a ≠ 11 → t'.2 a = t.2 a) (h10 : ∀ c, t'.2 10 c = if c ∈ ((yG y).getD i g0).1 then nI s else t.2 10 c) (h11 : ∀ c, t'.2 11 c = if c ∈ ((yG y).getD i g0).1 then nI f else t.2 11 c) : RM (yGs y (gSt (yG y) i s f)) t' := by
  have hnd := hW.2.2.2.2.2.2.2.2.2.1
  obtain ⟨⟨r0, r1, r2, r3⟩, rL, rT, rc, r5, r6, r7⟩ := hR
  refine ⟨⟨by rw [h1 3 (by omega)]; exact r0, by rw [h1 4 (by omega)]; exact r1, by rw [h1 5 (by omega)]; exact r2, by rw [h1 7 (by omega)]; exact r3⟩, ?_, ?_, ?_, ?_, ?_, ?_⟩
  · show LaneOk _ (gL (gSt (yG y) i s f)) (gF (gSt (yG y) i s f))
    rw [gSt_L hi, gSt_F hi]
    exact rL.cong (h1 6 (by omega)) (h2 7 (by decide) (by decide)) (h2 9 (by decide) (by decide))
  · rw [h2 8 (by decide) (by decide)]; exact rT
  · rw [h2 6 (by decide) (by decide)]; exact rc
  · rw [h2 0 (by decide) (by decide), h2 2 (by decide) (by decide), h2 4 (by decide) (by decide), h2 5 (by decide) (by decide), h2 3 (by decide) (by decide)]; exact r5
  · rw [h2 3 (by decide) (by decide), h2 4 (by decide) (by decide), h2 5 (by decide) (by decide)]; exact r6
  · intro q hq c hc
    have hq2 : q < (gSt (yG y) i s f).length := hq
    rw [gSt_len] at hq2
    have hc2 : c ∈ ((gSt (yG y) i s f).getD q g0).1 := hc
    show _ = nI ((gSt (yG y) i s f).getD q g0).2.1 ∧ _ = nI ((gSt (yG y) i s f).getD q g0).2.2
    rw [gSt_at hi] at hc2 ⊢
    rw [h10 c, h11 c]
    by_cases e : q = i
    · rw [if_pos e] at hc2 ⊢
      rw [if_pos hc2, if_pos hc2]
      exact ⟨rfl, rfl⟩
    · rw [if_neg e] at hc2 ⊢
      have : ¬ c ∈ ((yG y).getD i g0).1 := fun h => e (gMem hnd hq2 hi hc2 h)
      rw [if_neg this, if_neg this]
      exact r7 q hq2 c hc2
theorem mSetL_eff {L : List Nat} {a : Nat} {v : Int32} : ∀ (r m : Nat) (t : mS), m + r ≤ L.length → (mSetL L a v r m t).1 = t.1 ∧ (∀ b, b ≠ a → (mSetL L a v r m t).2 b = t.2 b) ∧ ∀ c, (mSetL L a v r m t).2 a c = if c ∈ (L.drop m).take r then v else t.2 a c := by
  intro r
  induction r with
  | zero => intro m t h; exact ⟨rfl, fun _ _ => rfl, fun c => by simp [mSetL]⟩
  | succ r ih =>
    intro m t h
    rw [mSetL]
    obtain ⟨i1, i2, i3⟩ := ih (m + 1) (marr t a (L.getD m 0) v) (by omega)
    refine ⟨i1, fun b hb => by rw [i2 b hb, marr_o hb], fun c => ?_⟩
    have hml : m < L.length := by omega
    have e : (L.drop m).take (r + 1) = L.getD m 0 :: (L.drop (m + 1)).take r := by
      rw [List.drop_eq_getElem_cons hml, List.take_succ_cons, List.getD_eq_getElem?_getD, List.getElem?_eq_getElem hml]
      rfl
    rw [i3 c, e]
    by_cases h1 : c ∈ (L.drop (m + 1)).take r
    · rw [if_pos h1, if_pos (List.mem_cons_of_mem _ h1)]
    · rw [if_neg h1]
      by_cases h2 : c = L.getD m 0
      · subst h2
        rw [marr_eq, if_pos List.mem_cons_self]
      · rw [marr_k h2, if_neg (fun q => by rcases List.mem_cons.mp q with q | q; exact h2 q; exact h1 q)]
theorem gL_seg {G : List gT} {i : Nat} (hi : i < G.length) : ((gL G).drop (gB G i)).take (gB G (i + 1) - gB G i) = (G.getD i g0).1 := by
  rw [gL_drop, List.drop_eq_getElem_cons hi, gL_cons, gB_succ hi]
  have e : G.getD i g0 = G[i] := by rw [List.getD_eq_getElem?_getD, List.getElem?_eq_getElem hi]; rfl
  rw [e, Nat.add_sub_cancel_left, List.take_left]
/-- setState -/
def mSet (y : yT) (a i : Nat) (v : Int32) (t : mS) : mS := mSetL (gL (yG y)) a v (gB (yG y) (i + 1) - gB (yG y) i) (gB (yG y) i) t
theorem mSet_eff (hW : WF y) {i : Nat} (hi : i < (yG y).length) (a : Nat) (v : Int32) (t : mS) : (mSet y a i v t).1 = t.1 ∧ (∀ b, b ≠ a → (mSet y a i v t).2 b = t.2 b) ∧ ∀ c, (mSet y a i v t).2 a c = if c ∈ ((yG y).getD i g0).1 then v else t.2 a c := by
  have h1 : gB (yG y) i ≤ gB (yG y) (i + 1) := gB_le (by omega)
  have h2 : gB (yG y) (i + 1) ≤ (gL (yG y)).length := by rw [gL_len]; exact gB_le (by omega)
  have := mSetL_eff (L := gL (yG y)) (a := a) (v := v) (gB (yG y) (i + 1) - gB (yG y) i) (gB (yG y) i) t (by omega)
  rw [gL_seg hi] at this
  exact this
theorem yM_setState (hR : RM y t) (hW : WF y) (hm : isM p t h) {i : Nat} (hi : i < (yG y).length) (v : Int32) : AM (d + 1) kM_setState 0 0 none [.ref 28, .int (nI i), .int v] h (fun u h' => u = none ∧ isM p (mSet y 10 i v t) h') := by
  have hg := hW.gl
  have hne := hW.2.2.2.2.2.2.2.2.1
  have := sM_setState (d := d) hR.2.1 hm (nI i) v
  rw [nI_1, mS0_gF hne (by omega) (by omega), mS0_gF hne (by omega) (by omega)] at this
  exact this
-- the answer
def ansF (f : Nat) (q : Int32) : Nat := if q = 0 then f + 1 else f
def ansS (f : Nat) (a q : Int32) : Nat := if q = 0 then (if a ≤ nI (ansF f q) then 2 else 1) else 3
def mAns (y : yT) (i : Nat) (q : Int32) (t : mS) : mS := mSet y 10 i (nI (ansS ((yG y).getD i g0).2.2 (t.1 2) q)) (mSet y 11 i (nI (ansF ((yG y).getD i g0).2.2 q)) (mset t 8 (t.1 8 + 1)))
theorem zput_set {z : zS} {r i : Nat} {v : Int32} (h1 : i < (z.2.1 r).length) (h2 : (z.2.1 r).length ≤ 40) : (zput z r (nI i) v).2.1 r = (z.2.1 r).set i v := by
  rw [zput, zrow_same, rPut_set h1 h2]
theorem zat_set {z : zS} {r i : Nat} {v : Int32} (h1 : i < (z.2.1 r).length) (h2 : (z.2.1 r).length ≤ 40) : zat (zput z r (nI i) v) r (nI i) = v := by
  rw [zat, zput_set h1 h2, rAt_nI (by omega), List.getD_eq_getElem?_getD, List.getElem?_set_self h1]
  rfl
theorem set_self {xs : List Int32} {i : Nat} {v : Int32} (h : xs.getD i (-1) = v) : xs.set i v = xs := by
  apply List.ext_getElem?
  intro j
  rw [List.getElem?_set]
  by_cases e : i = j
  · subst e
    rw [if_pos rfl]
    by_cases hl : i < xs.length
    · rw [if_pos hl, ← h, List.getD_eq_getElem?_getD, List.getElem?_eq_getElem hl]
      rfl
    · rw [if_neg hl, List.getElem?_eq_none (by omega)]
  · rw [if_neg e]
theorem op_answer (hI : INV y z t) {i : Nat} (hi : i < (yG y).length) (h1 : ((yG y).getD i g0).2.1 = 1) (q : Int32) :
    (zQ_answer z (nI i) q).1 = nI (ansS ((yG y).getD i g0).2.2 (t.1 2) q) ∧ INV (yGs y (gSt (yG y) i (ansS ((yG y).getD i g0).2.2 (t.1 2) q) (ansF ((yG y).getD i g0).2.2 q))) (zQ_answer z (nI i) q).2 (mAns y i q t) := by
  obtain ⟨hW, hC, hR, hS⟩ := hI
  have hl := hW.gl
  obtain ⟨a10, a9, a11⟩ := gatN hC hW hi
  have l10 : (z.2.1 10).length = (yG y).length := by rw [hC.G10, List.length_map]
  have l11 : (z.2.1 11).length = (yG y).length := by rw [hC.G11, List.length_map]
  obtain ⟨m1, m2, m3⟩ := mSet_eff hW hi 11 (nI (ansF ((yG y).getD i g0).2.2 q)) (mset t 8 (t.1 8 + 1))
  obtain ⟨k1, k2, k3⟩ := mSet_eff hW hi 10 (nI (ansS ((yG y).getD i g0).2.2 (t.1 2) q)) (mSet y 11 i (nI (ansF ((yG y).getD i g0).2.2 q)) (mset t 8 (t.1 8 + 1)))
  have hs3 : ansS ((yG y).getD i g0).2.2 (t.1 2) q ≤ 3 := by
    unfold ansS
    split
    · split <;> omega
    · omega
  have T1 : ∀ b, (mAns y i q t).1 b = if b = 8 then t.1 8 + 1 else t.1 b := by
    intro b
    show (mSet y 10 i _ (mSet y 11 i _ (mset t 8 (t.1 8 + 1)))).1 b = _
    rw [k1, m1]
    rfl
  have T2 : ∀ a, a ≠ 10 → a ≠ 11 → (mAns y i q t).2 a = t.2 a := by
    intro a h10 h11
    show (mSet y 10 i _ (mSet y 11 i _ (mset t 8 (t.1 8 + 1)))).2 a = _
    rw [k2 a h10, m2 a h11]
    rfl
  have hRM : RM (yGs y (gSt (yG y) i (ansS ((yG y).getD i g0).2.2 (t.1 2) q) (ansF ((yG y).getD i g0).2.2 q))) (mAns y i q t) := by
    refine RM.gset hW hR hi ?_ T2 ?_ ?_
    · intro b hb
      rw [T1 b, if_neg (by omega)]
    · intro c
      show (mSet y 10 i _ (mSet y 11 i _ (mset t 8 (t.1 8 + 1)))).2 10 c = _
      rw [k3 c, m2 10 (by decide)]
      rfl
    · intro c
      show (mSet y 10 i _ (mSet y 11 i _ (mset t 8 (t.1 8 + 1)))).2 11 c = _
      rw [k2 11 (by decide), m3 c]
      rfl
  have hz2 : z.1 2 = t.1 2 := hS.2.2.1
  have g11 : (z.2.1 11).getD i (-1) = nI ((yG y).getD i g0).2.2 := by rw [← a11, zat, rAt_nI (by omega)]
  have g10 : (z.2.1 10).getD i (-1) = nI 1 := by rw [← h1, ← a10, zat, rAt_nI (by omega)]
  -- the class
  have key : (zQ_answer z (nI i) q).1 = nI (ansS ((yG y).getD i g0).2.2 (t.1 2) q) ∧ (zQ_answer z (nI i) q).2.2.1 10 = (z.2.1 10).set i (nI (ansS ((yG y).getD i g0).2.2 (t.1 2) q)) ∧ (zQ_answer z (nI i) q).2.2.1 11 = (z.2.1 11).set i (nI (ansF ((yG y).getD i g0).2.2 q)) ∧ (∀ r, r < 10 → (zQ_answer z (nI i) q).2.2.1 r = z.2.1 r) ∧ (∀ b, (zQ_answer z (nI i) q).2.1 b = if b = 4 then z.1 4 + 1 else z.1 b) ∧ (zQ_answer z (nI i) q).2.2.2 = z.2.2 := by
    unfold zQ_answer ansS ansF
    rw [a10, h1, if_pos (show nI 1 = 1 from rfl)]
    simp only
    generalize hz1 : zset z 4 (z.1 4 + 1) = z1
    have e10 : z1.2.1 10 = z.2.1 10 := by rw [← hz1]; rfl
    have e11 : z1.2.1 11 = z.2.1 11 := by rw [← hz1]; rfl
    have er : z1.2.1 = z.2.1 := by rw [← hz1]; rfl
    have ec : z1.2.2 = z.2.2 := by rw [← hz1]; rfl
    have e2 : z1.1 2 = t.1 2 := by rw [← hz2, ← hz1]; rfl
    have e1 : ∀ b, z1.1 b = if b = 4 then z.1 4 + 1 else z.1 b := by intro b; rw [← hz1]; rfl
    have ea11 : zat z1 11 (nI i) = nI ((yG y).getD i g0).2.2 := by rw [zat, er]; exact a11
    by_cases hq : q = 0
    · simp only [if_pos hq]
      unfold zG_addF
      rw [ea11, show nI ((yG y).getD i g0).2.2 + 1 = nI (((yG y).getD i g0).2.2 + 1) from nI_1 _, zat_set (by rw [e11]; omega) (by rw [e11]; omega), e2]
      have b11 : (zput z1 11 (nI i) (nI (((yG y).getD i g0).2.2 + 1))).2.1 11 = (z.2.1 11).set i (nI (((yG y).getD i g0).2.2 + 1)) := by rw [zput_set (by rw [e11]; omega) (by rw [e11]; omega), e11]
      have b10 : (zput z1 11 (nI i) (nI (((yG y).getD i g0).2.2 + 1))).2.1 10 = z.2.1 10 := by rw [zput, zrow_ne (by decide), e10]
      by_cases hc : nI (((yG y).getD i g0).2.2 + 1) < t.1 2
      · rw [if_pos hc, if_neg (Int32.not_le.mpr hc)]
        refine ⟨?_, ?_, b11, ?_, ?_, ec⟩
        · rw [zat, b10, rAt_nI (by omega)]; exact g10
        · rw [b10, set_self g10]
        · intro r hr; rw [zput, zrow_ne (by omega), er]
        · intro b; rw [← e1 b]; rfl
      · rw [if_neg hc, if_pos (Int32.not_lt.mp hc)]
        refine ⟨?_, ?_, ?_, ?_, ?_, ec⟩
        · rw [zat_set (by rw [b10]; omega) (by rw [b10]; omega)]; rfl
        · rw [zput_set (by rw [b10]; omega) (by rw [b10]; omega), b10]; rfl
        · rw [zput, zrow_ne (by decide), b11]
        · intro r hr; rw [zput, zrow_ne (by omega), zput, zrow_ne (by omega), er]
        · intro b; rw [← e1 b]; rfl
    · simp only [if_neg hq]
      refine ⟨?_, ?_, ?_, ?_, ?_, ec⟩
      · rw [zat_set (by rw [e10]; omega) (by rw [e10]; omega)]; rfl
      · rw [zput_set (by rw [e10]; omega) (by rw [e10]; omega), e10]; rfl
      · rw [zput, zrow_ne (by decide), e11, set_self g11]
      · intro r hr; rw [zput, zrow_ne (by omega), er]
      · intro b; rw [← e1 b]; rfl
  obtain ⟨q1, q2, q3, q4, q5, q6⟩ := key
  refine ⟨q1, hW.gset hi hs3, RC.gset hC hi q2 q3 q4 (by rw [q5 6]; rfl) q6, hRM, ?_⟩
  unfold RS at hS ⊢
  rw [q5 0, q5 1, q5 2, q5 3, q5 4, q5 5, q5 7, q4 1 (by decide), T1 0, T1 1, T1 2, T1 11, T1 8, T1 9, T1 10, T2 1 (by decide) (by decide)]
  obtain ⟨s0, s1, s2, s3, s4, s5, s7, s8, s9, s10⟩ := hS
  exact ⟨s0, s1, s2, s3, by rw [if_pos rfl, if_pos rfl, s4], s5, s7, s8, s9, s10⟩
end GS
