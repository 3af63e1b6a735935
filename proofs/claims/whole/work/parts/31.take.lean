/-! A member goes out of its group -/
section TK
variable {y : yT} {z : zS} {t : mS} {p h : ax_H} {d : Nat}
theorem zip_drop {α β : Type} : ∀ (m : Nat) (l : List α) (k : List β), (l.zip k).drop m = (l.drop m).zip (k.drop m) := by
  intro m
  induction m with
  | zero => intro l k; rfl
  | succ m ih =>
    intro l k
    cases l with
    | nil => simp
    | cons a l =>
      cases k with
      | nil => simp
      | cons b k => simpa using ih l k
theorem mAn_eff (hW : WF y) (hR : RM y t) {i : Nat} (hi : i ≤ (yG y).length) :
    (∀ a, a ≠ 10 → a ≠ 11 → (mAn (gL (yG y)) (gF (yG y)) (gB (yG y) i) t).2 a = t.2 a) ∧ (∀ c, (mAn (gL (yG y)) (gF (yG y)) (gB (yG y) i) t).2 10 c = if c ∈ gL ((yG y).drop i) then 0 else t.2 10 c) ∧ (∀ c, (mAn (gL (yG y)) (gF (yG y)) (gB (yG y) i) t).2 11 c = if c ∈ gL ((yG y).drop i) then 0 else t.2 11 c) ∧ (∀ q, q ≠ 10 → (mAn (gL (yG y)) (gF (yG y)) (gB (yG y) i) t).1 q = t.1 q) ∧ (mAn (gL (yG y)) (gF (yG y)) (gB (yG y) i) t).1 10 = t.1 10 + nI (gAsk (yG y) i) := by
  obtain ⟨w1, w2, w3, w4, w5, w6, w7, w8, w9, w10, w11, w12, w13, w14, w15⟩ := id hW
  have hle : gB (yG y) i ≤ (gL (yG y)).length := by rw [gL_len]; exact gB_le hi
  have e0 : ((gL (yG y)).zip (gF (yG y))).drop (gB (yG y) i) = (gL ((yG y).drop i)).zip (gF ((yG y).drop i)) := by
    rw [zip_drop, gL_drop, gF_drop]
  have e1 : ((gL ((yG y).drop i)).zip (gF ((yG y).drop i))).map (fun q => q.1) = gL ((yG y).drop i) := by
    have : (fun q : Nat × Bool => q.1) = Prod.fst := rfl
    rw [this, List.map_fst_zip (by rw [gF_len]; exact Nat.le_refl _)]
  have hnd : (gL ((yG y).drop i)).Nodup := by
    rw [← gL_drop]
    exact w10.sublist (List.drop_sublist _ _)
  have hh := mAnP_eff ((gL ((yG y).drop i)).zip (gF ((yG y).drop i))) t (by rw [e1]; exact hnd)
  have ee : mAn (gL (yG y)) (gF (yG y)) (gB (yG y) i) t = mAnP ((gL ((yG y).drop i)).zip (gF ((yG y).drop i))) t := by
    unfold mAn
    rw [mAnew_P (gF_len _) _ _ t (by omega), e0]
  rw [ee]
  obtain ⟨i1, i2, i3, i4, i5⟩ := hh
  rw [e1] at i2 i3
  refine ⟨i1, i2, i3, i4, ?_⟩
  rw [i5, nPair_gF _ (fun g hg => w9 g (List.mem_of_mem_drop hg))]
  · rfl
  · intro g hg
    have hg2 := List.mem_of_mem_drop hg
    refine ⟨(w12 g hg2).1, fun c hc => ?_⟩
    obtain ⟨q, hq⟩ := List.getElem?_of_mem hg2
    have hql := (List.getElem?_eq_some_iff.mp hq).1
    have e : (yG y).getD q g0 = g := by rw [List.getD_eq_getElem?_getD, hq]; rfl
    have := hR.2.2.2.2.2.2 q hql c (by rw [e]; exact hc)
    rw [e] at this
    exact this.1
theorem mem_gL {G : List gT} {q c : Nat} (hq : q < G.length) (hc : c ∈ (G.getD q g0).1) : c ∈ gL G := by
  unfold gL
  rw [List.mem_flatMap]
  refine ⟨G.getD q g0, ?_, hc⟩
  rw [List.getD_eq_getElem?_getD, List.getElem?_eq_getElem hq]
  exact List.getElem_mem hq
theorem gL_idx {G : List gT} (hn : (gL G).Nodup) {i q c : Nat} (hq : q < G.length) (hc : c ∈ (G.getD q g0).1) : c ∈ gL (G.drop i) ↔ i ≤ q := by
  constructor
  · intro h
    rcases Nat.lt_or_ge q i with hlt | hge
    · exfalso
      have h1 : c ∈ gL (G.take i) := by
        have e : (G.take i).getD q g0 = G.getD q g0 := by
          rw [List.getD_eq_getElem?_getD, List.getElem?_take, if_pos hlt, List.getD_eq_getElem?_getD]
        exact mem_gL (q := q) (by rw [List.length_take]; omega) (by rw [e]; exact hc)
      have e2 : gL G = gL (G.take i) ++ gL (G.drop i) := by
        unfold gL
        rw [← List.flatMap_append, List.take_append_drop]
      rw [e2, List.nodup_append] at hn
      exact hn.2.2 c h1 c h rfl
    · exact hge
  · intro h
    have e : (G.drop i).getD (q - i) g0 = G.getD q g0 := by
      rw [List.getD_eq_getElem?_getD, List.getElem?_drop, show i + (q - i) = q by omega, List.getD_eq_getElem?_getD]
    exact mem_gL (q := q - i) (by rw [List.length_drop]; omega) (by rw [e]; exact hc)
theorem WF.anew (hW : WF y) (i : Nat) : WF (yGs y (gAn (yG y) i)) := by
  obtain ⟨w1, w2, w3, w4, w5, w6, w7, w8, w9, w10, w11, w12, w13, w14, w15⟩ := hW
  refine ⟨w1, w2, w3, w4, w5, w6, w7, w8, ?_, ?_, ?_, ?_, w13, w14, w15⟩
  · intro g hg
    have hg2 : g ∈ (yG y).take i ++ ((yG y).drop i).map (fun g => (g.1, 0, 0)) := hg
    rcases List.mem_append.mp hg2 with h | h
    · exact w9 g (List.mem_of_mem_take h)
    · obtain ⟨q, hq, rfl⟩ := List.mem_map.mp h
      exact w9 q (List.mem_of_mem_drop hq)
  · show (gL (gAn (yG y) i)).Nodup
    rw [gAn_L]; exact w10
  · intro c
    show c ∈ gL (gAn (yG y) i) ↔ _
    rw [gAn_L]; exact w11 c
  · intro g hg
    have hg2 : g ∈ (yG y).take i ++ ((yG y).drop i).map (fun g => (g.1, 0, 0)) := hg
    rcases List.mem_append.mp hg2 with h | h
    · exact w12 g (List.mem_of_mem_take h)
    · obtain ⟨q, hq, rfl⟩ := List.mem_map.mp h
      exact ⟨Nat.zero_le _, Nat.zero_le _⟩
theorem RM.anew (hW : WF y) (hR : RM y t) {i : Nat} (hi : i ≤ (yG y).length) : RM (yGs y (gAn (yG y) i)) (mAn (gL (yG y)) (gF (yG y)) (gB (yG y) i) t) := by
  obtain ⟨e1, e2, e3, e4, e5⟩ := mAn_eff hW hR hi
  have hnd := hW.2.2.2.2.2.2.2.2.2.1
  obtain ⟨⟨r0, r1, r2, r3⟩, rL, rT, rc, r5, r6, r7⟩ := hR
  refine ⟨⟨by rw [e4 3 (by decide)]; exact r0, by rw [e4 4 (by decide)]; exact r1, by rw [e4 5 (by decide)]; exact r2, by rw [e4 7 (by decide)]; exact r3⟩, ?_, ?_, ?_, ?_, ?_, ?_⟩
  · show LaneOk _ (gL (gAn (yG y) i)) (gF (gAn (yG y) i))
    rw [gAn_L, gAn_F]
    exact rL.cong (e4 6 (by decide)) (e1 7 (by decide) (by decide)) (e1 9 (by decide) (by decide))
  · rw [e1 8 (by decide) (by decide)]; exact rT
  · rw [e1 6 (by decide) (by decide)]; exact rc
  · rw [e1 0 (by decide) (by decide), e1 2 (by decide) (by decide), e1 4 (by decide) (by decide), e1 5 (by decide) (by decide), e1 3 (by decide) (by decide)]; exact r5
  · rw [e1 3 (by decide) (by decide), e1 4 (by decide) (by decide), e1 5 (by decide) (by decide)]; exact r6
  · intro q hq c hc
    have hq2 : q < (gAn (yG y) i).length := hq
    rw [gAn_len] at hq2
    have hat := gAn_at (yG y) i q hq2
    have hc2 : c ∈ ((gAn (yG y) i).getD q g0).1 := hc
    show _ = nI ((gAn (yG y) i).getD q g0).2.1 ∧ _ = nI ((gAn (yG y) i).getD q g0).2.2
    rw [hat] at hc2 ⊢
    rw [e2 c, e3 c]
    by_cases hqi : q < i
    · rw [if_pos hqi] at hc2 ⊢
      have : ¬ c ∈ gL ((yG y).drop i) := fun h => by have := (gL_idx hnd hq2 hc2).mp h; omega
      rw [if_neg this, if_neg this]
      exact r7 q hq2 c hc2
    · rw [if_neg hqi] at hc2 ⊢
      have : c ∈ gL ((yG y).drop i) := (gL_idx hnd hq2 hc2).mpr (by omega)
      rw [if_pos this, if_pos this]
      exact ⟨rfl, rfl⟩
theorem op_anew (hI : INV y z t) {i : Nat} (hi : i ≤ (yG y).length) : INV (yGs y (gAn (yG y) i)) (zG_anew z (nI i)) (mAn (gL (yG y)) (gF (yG y)) (gB (yG y) i) t) := by
  obtain ⟨hW, hC, hR, hS⟩ := hI
  obtain ⟨c1, c2, c3, c4⟩ := RC.anew hC hW.gl hi (fun g hg => (hW.2.2.2.2.2.2.2.2.2.2.2.1 g hg).1)
  obtain ⟨e1, e2, e3, e4, e5⟩ := mAn_eff hW hR hi
  refine ⟨hW.anew i, c1, RM.anew hW hR hi, ?_⟩
  unfold RS at hS ⊢
  rw [c3 0 (by decide), c3 1 (by decide), c3 2 (by decide), c3 3 (by decide), c3 4 (by decide), c3 5 (by decide), c2, c4, e4 0 (by decide), e4 1 (by decide), e4 2 (by decide), e4 11 (by decide), e4 8 (by decide), e4 9 (by decide), e5, e1 1 (by decide) (by decide)]
  obtain ⟨s0, s1, s2, s3, s4, s5, s7, s8, s9, s10⟩ := hS
  exact ⟨s0, s1, s2, s3, s4, s5, by rw [s7], s8, s9, s10⟩
/-- the group of a place of the line -/
theorem zGrp_y (hC : RC y z) (hW : WF y) {i k : Nat} (hi : i < (yG y).length) (h1 : gB (yG y) i ≤ k) (h2 : k < gB (yG y) (i + 1)) : ∀ (n m : Nat), (yG y).length = m + n → m ≤ i → zGrp z (nI k) n m (nI (gB (yG y) m)) = nI i := by
  have hl := hW.gl
  have htl := hW.tl
  have hk : k < 40 := by
    have : gB (yG y) (i + 1) ≤ (gL (yG y)).length := by rw [gL_len]; exact gB_le (by omega)
    omega
  intro n
  induction n with
  | zero => intro m h3 h4; omega
  | succ n ih =>
    intro m h3 h4
    have hm : m < (yG y).length := by omega
    have hb : gB (yG y) (m + 1) ≤ 40 := by
      have : gB (yG y) (m + 1) ≤ (gL (yG y)).length := by rw [gL_len]; exact gB_le (by omega)
      omega
    rw [zGrp, (gatN hC hW hm).2.1, nI_add, ← gB_succ hm]
    by_cases e : m = i
    · subst e
      rw [if_neg (nI_ge h2 (by omega))]
    · have : gB (yG y) (m + 1) ≤ gB (yG y) i := gB_le (by omega)
      rw [if_pos (nI_le (by omega) (by omega)), ih (m + 1) (by omega) (by omega)]
theorem gF_at {G : List gT} {i j : Nat} (hi : i < G.length) (hj : j < (G.getD i g0).1.length) : (gF G).getD (gB G i + j) false = decide (j = 0) := by
  induction G generalizing i with
  | nil => simp at hi
  | cons g G ih =>
    cases i with
    | zero =>
      simp only [List.getD_cons_zero] at hj
      rw [gB_0, Nat.zero_add, gF_cons, List.getD_eq_getElem?_getD, List.getElem?_append_left (by rw [gF1_len]; exact hj)]
      cases h : g.1 with
      | nil => rw [h] at hj; simp at hj
      | cons c r =>
        rw [h] at hj
        cases j with
        | zero => rfl
        | succ j =>
          simp only [gF1, List.getElem?_cons_succ, List.getElem?_map]
          rw [List.getElem?_eq_getElem (by simpa using hj)]
          rfl
    | succ i =>
      simp only [List.getD_cons_succ] at hj
      rw [gB_s, gF_cons, List.getD_eq_getElem?_getD, List.getElem?_append_right (by rw [gF1_len]; omega), gF1_len, show g.1.length + gB G i + j - g.1.length = gB G i + j by omega, ← List.getD_eq_getElem?_getD]
      exact ih (by simpa using hi) hj
end TK
