/-! A member goes out of its group: the model; both -/
section TL
variable {y : yT} {z : zS} {t : mS} {p h : ax_H} {d : Nat}
def gAll (t : mS) (G : List gT) : Prop := ∀ g ∈ G, ∀ c ∈ g.1, t.2 10 c = nI g.2.1 ∧ t.2 11 c = nI g.2.2
theorem gAll_iff {G : List gT} : (∀ i, i < G.length → ∀ c, c ∈ (G.getD i g0).1 → t.2 10 c = nI (G.getD i g0).2.1 ∧ t.2 11 c = nI (G.getD i g0).2.2) ↔ gAll t G := by
  constructor
  · intro h g hg c hc
    obtain ⟨q, hq⟩ := List.getElem?_of_mem hg
    have hql := (List.getElem?_eq_some_iff.mp hq).1
    have e : G.getD q g0 = g := by rw [List.getD_eq_getElem?_getD, hq]; rfl
    have := h q hql c (by rw [e]; exact hc)
    rw [e] at this
    exact this
  · intro h i hi c hc
    refine h _ ?_ c hc
    rw [List.getD_eq_getElem?_getD, List.getElem?_eq_getElem hi]
    exact List.getElem_mem hi
theorem RM.all (hR : RM y t) : gAll t (yG y) := gAll_iff.mp hR.2.2.2.2.2.2
theorem mGo_1 (t : mS) (L : List Nat) (B : List Bool) (a : Nat) {q : Nat} (hq : q ≠ 6) : (mGo t L B a).1 q = t.1 q := by
  have e : (mGo1 t L B a).1 = t.1 := by unfold mGo1; split <;> rfl
  show va_up (mGo1 t L B a).1 6 (t.1 6 - 1) q = t.1 q
  rw [e]
  simp [va_up, hq]
theorem mGo_2 (t : mS) (L : List Nat) (B : List Bool) (a : Nat) {q : Nat} (h7 : q ≠ 7) (h9 : q ≠ 9) : (mGo t L B a).2 q = t.2 q := by
  have e : (mGo1 t L B a).2 q = t.2 q := by
    unfold mGo1
    split
    · exact marr_o h9
    · rfl
  show va_up (mGo1 t L B a).2 7 _ q = t.2 q
  rw [← e]
  simp [va_up, h7]
theorem gRm_mem {G : List gT} {i j : Nat} (hi : i < G.length) {g : gT} (hg : g ∈ gRm G i j) : ∃ g2 ∈ G, g.2 = g2.2 ∧ ∀ c ∈ g.1, c ∈ g2.1 := by
  unfold gRm at hg
  split at hg
  · exact ⟨g, List.mem_of_mem_eraseIdx hg, rfl, fun c hc => hc⟩
  · rcases List.mem_or_eq_of_mem_set hg with q | q
    · exact ⟨g, q, rfl, fun c hc => hc⟩
    · refine ⟨G.getD i g0, ?_, by rw [q], fun c hc => ?_⟩
      · rw [List.getD_eq_getElem?_getD, List.getElem?_eq_getElem hi]
        exact List.getElem_mem hi
      · rw [q] at hc
        exact List.mem_of_mem_eraseIdx hc
theorem gRm_ne {G : List gT} {i j : Nat} (hn : gNe G) : gNe (gRm G i j) := by
  intro g hg
  unfold gRm at hg
  split at hg
  · exact hn g (List.mem_of_mem_eraseIdx hg)
  · rename_i h
    rcases List.mem_or_eq_of_mem_set hg with q | q
    · exact hn g q
    · rw [q]; exact h
theorem mem_er {l : List Nat} (hn : l.Nodup) {k : Nat} (hk : k < l.length) (c : Nat) : c ∈ l.eraseIdx k ↔ c ∈ l ∧ c ≠ l.getD k 0 := by
  have e : l.getD k 0 = l[k] := by rw [List.getD_eq_getElem?_getD, List.getElem?_eq_getElem hk]; rfl
  rw [List.mem_eraseIdx_iff_getElem, e]
  constructor
  · rintro ⟨i, hi, h3, rfl⟩
    refine ⟨List.getElem_mem hi, fun q => h3 (nd_inj hn hi hk q)⟩
  · rintro ⟨h1, h2⟩
    obtain ⟨i, hi, rfl⟩ := List.getElem_of_mem h1
    exact ⟨i, hi, fun q => h2 (by subst q; rfl), rfl⟩
theorem RM.go (hW : WF y) (hR : RM y t) {i j : Nat} (hi : i < (yG y).length) (hj : j < ((yG y).getD i g0).1.length) : RM (yGs y (gRm (yG y) i j)) (mGo t (gL (yG y)) (gF (yG y)) (gB (yG y) i + j)) := by
  have hall := hR.all
  have hlen := gLen_le hW hi
  obtain ⟨⟨r0, r1, r2, r3⟩, rL, rT, rc, r5, r6, r7⟩ := hR
  have hnd := hW.2.2.2.2.2.2.2.2.2.1
  have hne := hW.2.2.2.2.2.2.2.2.1
  refine ⟨⟨by rw [mGo_1 _ _ _ _ (by decide)]; exact r0, by rw [mGo_1 _ _ _ _ (by decide)]; exact r1, by rw [mGo_1 _ _ _ _ (by decide)]; exact r2, by rw [mGo_1 _ _ _ _ (by decide)]; exact r3⟩, ?_, ?_, ?_, ?_, ?_, ?_⟩
  · show LaneOk _ (gL (gRm (yG y) i j)) (gF (gRm (yG y) i j))
    rw [gRm_L _ i j hi hj, gRm_F _ i j hne hi hj]
    exact rL.go hnd (by omega)
  · rw [mGo_2 _ _ _ _ (by decide) (by decide)]; exact rT
  · rw [mGo_2 _ _ _ _ (by decide) (by decide)]; exact rc
  · rw [mGo_2 _ _ _ _ (by decide) (by decide), mGo_2 _ _ _ _ (by decide) (by decide), mGo_2 _ _ _ _ (by decide) (by decide), mGo_2 _ _ _ _ (by decide) (by decide), mGo_2 _ _ _ _ (by decide) (by decide)]; exact r5
  · rw [mGo_2 _ _ _ _ (by decide) (by decide), mGo_2 _ _ _ _ (by decide) (by decide), mGo_2 _ _ _ _ (by decide) (by decide)]; exact r6
  · refine gAll_iff.mpr ?_
    intro g hg c hc
    rw [mGo_2 _ _ _ _ (by decide) (by decide), mGo_2 _ _ _ _ (by decide) (by decide)]
    obtain ⟨g2, k1, k2, k3⟩ := gRm_mem hi hg
    rw [k2]
    exact hall g2 k1 c (k3 c hc)
/-- a member goes out of its group, by a reason -/
theorem op_take (hI : INV y z t) {i j v r : Nat} (hi : i < (yG y).length) (hj : j < ((yG y).getD i g0).1.length) (hv : ((yG y).getD i g0).1.getD j 0 = v) (hr : r = 1 ∨ r = 3) :
    INV (yOut (yGs y (gRm (gAn (yG y) i) i j)) v r) (zC_putOut (zG_take z (nI v)) (nI v) (nI r)) (marr (marr (mGo (mAn (gL (yG y)) (gF (yG y)) (gB (yG y) i) t) (gL (yG y)) (gF (yG y)) (gB (yG y) i + j)) 2 v (nI 3)) 4 v (nI r)) ∧ v < yn y := by
  obtain ⟨hW, hC, hR, hS⟩ := hI
  obtain ⟨c1, c2, c3, c4⟩ := RC.take hC hW hi hj hv
  obtain ⟨e1, e2, e3, e4, e5⟩ := mAn_eff hW hR (Nat.le_of_lt hi)
  have hR1 := RM.anew hW hR (Nat.le_of_lt hi)
  have hW1 := hW.anew i
  have hlen := gLen_le hW hi
  have hHi := gAn_at (yG y) i i hi
  rw [if_neg (Nat.lt_irrefl i)] at hHi
  have hj1 : j < ((yG (yGs y (gAn (yG y) i))).getD i g0).1.length := by
    show j < ((gAn (yG y) i).getD i g0).1.length
    rw [hHi]; exact hj
  have hi1 : i < (yG (yGs y (gAn (yG y) i))).length := by
    show i < (gAn (yG y) i).length
    rw [gAn_len]; exact hi
  have hR2 := RM.go hW1 hR1 hi1 hj1
  have hR3 : RM (yGs y (gRm (gAn (yG y) i) i j)) (mGo (mAn (gL (yG y)) (gF (yG y)) (gB (yG y) i) t) (gL (yG y)) (gF (yG y)) (gB (yG y) i + j)) := by
    have h2 : RM (yGs y (gRm (gAn (yG y) i) i j)) (mGo (mAn (gL (yG y)) (gF (yG y)) (gB (yG y) i) t) (gL (gAn (yG y) i)) (gF (gAn (yG y) i)) (gB (gAn (yG y) i) i + j)) := hR2
    rw [gAn_L, gAn_F, gAn_gB] at h2
    exact h2
  obtain ⟨w1, w2, w3, w4, w5, w6, w7, w8, w9, w10, w11, w12, w13, w14, w15⟩ := id hW
  have hLv : (gL (yG y)).getD (gB (yG y) i + j) 0 = v := by rw [gL_at hi hj]; exact hv
  have hvL : v ∈ gL (yG y) := by rw [← hLv]; exact getD_mem (by omega)
  have hvn := (w11 v).mp hvL
  have hL' : gL (gRm (gAn (yG y) i) i j) = (gL (yG y)).eraseIdx (gB (yG y) i + j) := by
    rw [gRm_L (gAn (yG y) i) i j hi1 hj1, gAn_L, gAn_gB]
  have hP : ∀ c, ypl (yOut (yGs y (gRm (gAn (yG y) i) i j)) v r) c = if c = v then 3 else ypl y c := fun c => rfl
  have hY : ∀ c, ywy (yOut (yGs y (gRm (gAn (yG y) i) i j)) v r) c = if c = v then r else ywy y c := fun c => rfl
  refine ⟨⟨?_, RC.out c1 w1 hvn.1, RM.wy (RM.pl hR3) hvn.1, ?_⟩, hvn.1⟩
  · refine ⟨w1, ?_, w3, w4, w5, ?_, w7, ?_, gRm_ne hW1.2.2.2.2.2.2.2.2.1, ?_, ?_, ?_, w13, w14, ?_⟩
    · intro c hc
      obtain ⟨a, b, e, f, g⟩ := w2 c hc
      refine ⟨a, ?_, ?_, f, g⟩
      · rw [hP c]; split <;> omega
      · rw [hY c]; split <;> omega
    · intro c
      show c ∈ yQ y ↔ c < yn y ∧ ypl (yOut (yGs y (gRm (gAn (yG y) i) i j)) v r) c = 0
      rw [hP c, w6 c]
      by_cases e : c = v
      · subst e
        rw [if_pos rfl]
        constructor
        · rintro ⟨-, q⟩; omega
        · rintro ⟨-, q⟩; omega
      · rw [if_neg e]
    · intro c
      show c ∈ yTr y ↔ c < yn y ∧ ypl (yOut (yGs y (gRm (gAn (yG y) i) i j)) v r) c = 2
      rw [hP c, w8 c]
      by_cases e : c = v
      · subst e
        rw [if_pos rfl]
        constructor
        · rintro ⟨-, q⟩; omega
        · rintro ⟨-, q⟩; omega
      · rw [if_neg e]
    · show (gL (gRm (gAn (yG y) i) i j)).Nodup
      rw [hL']
      exact w10.sublist (List.eraseIdx_sublist _ _)
    · intro c
      show c ∈ gL (gRm (gAn (yG y) i) i j) ↔ c < yn y ∧ ypl (yOut (yGs y (gRm (gAn (yG y) i) i j)) v r) c = 1
      rw [hP c, hL', mem_er w10 (by omega), hLv, w11 c]
      by_cases e : c = v
      · subst e
        rw [if_pos rfl]
        constructor
        · rintro ⟨-, q⟩; exact absurd rfl q
        · rintro ⟨-, q⟩; cases q
      · rw [if_neg e]
        exact ⟨fun q => q.1, fun q => ⟨q, e⟩⟩
    · intro g hg
      obtain ⟨g2, k1, k2, k3⟩ := gRm_mem hi1 hg
      rw [k2]
      exact hW1.2.2.2.2.2.2.2.2.2.2.2.1 g2 k1
    · intro c hc
      show ywy (yOut (yGs y (gRm (gAn (yG y) i) i j)) v r) c = 0 ↔ ypl (yOut (yGs y (gRm (gAn (yG y) i) i j)) v r) c ≠ 3
      rw [hP c, hY c]
      by_cases e : c = v
      · rw [if_pos e, if_pos e]
        have : r ≠ 0 := by omega
        simp [this]
      · rw [if_neg e, if_neg e]; exact w15 c hc
  · have hS2 : RS y (zG_take z (nI v)) (mGo (mAn (gL (yG y)) (gF (yG y)) (gB (yG y) i) t) (gL (yG y)) (gF (yG y)) (gB (yG y) i + j)) := by
      unfold RS at hS ⊢
      rw [c2 0 (by decide), c2 1 (by decide), c2 2 (by decide), c2 3 (by decide), c2 4 (by decide), c2 5 (by decide), c3, c4, mGo_1 _ _ _ _ (by decide), mGo_1 _ _ _ _ (by decide), mGo_1 _ _ _ _ (by decide), mGo_1 _ _ _ _ (by decide), mGo_1 _ _ _ _ (by decide), mGo_1 _ _ _ _ (by decide), mGo_1 _ _ _ _ (by decide), mGo_2 _ _ _ _ (by decide) (by decide), e4 0 (by decide), e4 1 (by decide), e4 2 (by decide), e4 11 (by decide), e4 8 (by decide), e4 9 (by decide), e5, e1 1 (by decide) (by decide)]
      obtain ⟨s0, s1, s2, s3, s4, s5, s7, s8, s9, s10⟩ := hS
      exact ⟨s0, s1, s2, s3, s4, s5, by rw [s7], s8, s9, s10⟩
    refine RS.cong hS2 rfl (fun _ _ _ => rfl) ?_ (fun _ _ => rfl) rfl
    rw [zC_putOut, zput, zrow_ne (by decide), zput, zrow_ne (by decide)]
end TL
