/-! A new group: who goes into it; the class -/
section FO
variable {y : yT} {z : zS} {t : mS} {p h : ax_H} {d : Nat}
def sel (cf : Nat → Nat → Bool) : List Nat → Nat → List Nat → List Nat
  | [], _, _ => []
  | c :: r, b, L => if b = 0 then [] else if L.any (fun a => cf a c) = true then sel cf r b L else c :: sel cf r (b - 1) (L ++ [c])
theorem sel_0 (cf : Nat → Nat → Bool) (l L : List Nat) : sel cf l 0 L = [] := by
  cases l with
  | nil => rfl
  | cons c r => rw [sel, if_pos rfl]
theorem sel_sub (cf : Nat → Nat → Bool) : ∀ (l : List Nat) (b : Nat) (L : List Nat), (sel cf l b L).Sublist l := by
  intro l
  induction l with
  | nil => intro b L; exact List.Sublist.refl _
  | cons c r ih =>
    intro b L
    rw [sel]
    split
    · exact List.nil_sublist _
    · split
      · exact (ih b L).cons _
      · exact (ih (b - 1) (L ++ [c])).cons₂ _
theorem zat_map {r i : Nat} {l : List Nat} (e : z.2.1 r = l.map nI) (hl : l.length ≤ 40) (hi : i < l.length) : zat z r (nI i) = nI (l.getD i 0) := by
  rw [zat, e, rAt_map 0 hl, if_pos (by rw [isC_nI hl (by omega)]; simpa using hi), nI_clamp (by omega)]
theorem zClash_y {cf : Nat → Nat → Bool} {Lc : List Nat} (e8 : z.2.1 8 = Lc.map nI) (hl : Lc.length ≤ 40) (hL : ∀ x ∈ Lc, x < 40) (hcf : ∀ a b, a < 40 → b < 40 → zConf z (nI a) (nI b) = cf a b) (hsym : ∀ a b, cf a b = cf b a) {c : Nat} (hc : c < 40) : ∀ (n m : Nat), Lc.length = m + n → zClash z (nI c) n m = (Lc.drop m).any (fun a => cf a c) := by
  intro n
  induction n with
  | zero => intro m h; rw [List.drop_eq_nil_of_le (by omega)]; rfl
  | succ n ih =>
    intro m h
    have hm : m < Lc.length := by omega
    rw [zClash, zat_map e8 hl hm, hcf _ _ hc (hL _ (getD_mem hm)), ih (m + 1) (by omega), drop_getD (x := 0) hm, List.any_cons, hsym c]
    cases cf (Lc.getD m 0) c <;> simp
theorem zForm_eff {cf : Nat → Nat → Bool} {n0 mst : Nat} {Q : List Nat} (hn0 : n0 ≤ 40) (hQ : ∀ c ∈ Q, c < n0) (hQl : Q.length ≤ 40) (hsym : ∀ a b, cf a b = cf b a) (hmst : mst ≤ 8) : ∀ (n m k : Nat) (Lc : List Nat) (P : Nat → Nat) (z : zS), z.2.1 6 = Q.map nI → z.2.1 8 = Lc.map nI → (∀ x ∈ Lc, x < 40) → Lc.length + n ≤ 40 → z.2.1 2 = (List.range n0).map (fun c => nI (P c)) → (∀ a b, a < 40 → b < 40 → zConf z (nI a) (nI b) = cf a b) → z.1 0 = nI mst → k ≤ mst → Q.length = m + n →
    (zForm n m (nI k) z).1 = nI (k + (sel cf (Q.drop m) (mst - k) Lc).length) ∧ (zForm n m (nI k) z).2.2.1 8 = (Lc ++ sel cf (Q.drop m) (mst - k) Lc).map nI ∧ (zForm n m (nI k) z).2.2.1 2 = (List.range n0).map (fun c => nI (if c ∈ sel cf (Q.drop m) (mst - k) Lc then 1 else P c)) ∧ (∀ r, r ≠ 8 → r ≠ 2 → (zForm n m (nI k) z).2.2.1 r = z.2.1 r) ∧ (zForm n m (nI k) z).2.1 = z.1 ∧ (zForm n m (nI k) z).2.2.2 = z.2.2 := by
  intro n
  induction n with
  | zero =>
    intro m k Lc P z e6 e8 hL hcap e2 hcf h0 hk hb
    rw [List.drop_eq_nil_of_le (by omega)]
    refine ⟨rfl, ?_, ?_, fun _ _ _ => rfl, rfl, rfl⟩
    · show z.2.1 8 = (Lc ++ []).map nI
      rw [List.append_nil]; exact e8
    · show z.2.1 2 = (List.range n0).map (fun c => nI (if c ∈ [] then 1 else P c))
      rw [e2]; simp
  | succ n ih =>
    intro m k Lc P z e6 e8 hL hcap e2 hcf h0 hk hb
    have hm : m < Q.length := by omega
    have hc := hQ _ (getD_mem (x := 0) hm)
    rw [zForm, h0, drop_getD (x := 0) hm]
    by_cases c1 : mst ≤ k
    · rw [if_pos (nI_le c1 (by omega)), show mst - k = 0 by omega, sel_0]
      refine ⟨rfl, ?_, ?_, fun _ _ _ => rfl, rfl, rfl⟩
      · show z.2.1 8 = (Lc ++ []).map nI
        rw [List.append_nil]; exact e8
      · show z.2.1 2 = (List.range n0).map (fun c => nI (if c ∈ [] then 1 else P c))
        rw [e2]; simp
    · rw [if_neg (nI_ge (by omega) (by omega)), zat_map e6 hQl hm]
      have hcl : zQ_clash z (nI (Q.getD m 0)) = Lc.any (fun a => cf a (Q.getD m 0)) := by
        unfold zQ_clash
        rw [zClash_y e8 (by omega) hL hcf hsym (by omega) _ 0 (by rw [e8, List.length_map]; omega), List.drop_zero]
      rw [hcl, sel, if_neg (show ¬ mst - k = 0 by omega)]
      by_cases c2 : Lc.any (fun a => cf a (Q.getD m 0)) = true
      · rw [if_pos c2, if_pos c2]
        exact ih (m + 1) k Lc P z e6 e8 hL (by omega) e2 hcf h0 hk (by omega)
      · rw [if_neg c2, if_neg c2]
        have hz1 : zForm1 z m = zput (zapp z 8 (nI (Q.getD m 0))) 2 (nI (Q.getD m 0)) 1 := by unfold zForm1; rw [zat_map e6 hQl hm]
        have f8 : (zForm1 z m).2.1 8 = (Lc ++ [Q.getD m 0]).map nI := by
          rw [hz1, zput, zrow_ne (by decide), zapp, zrow_same, rIns_end (by rw [e8, List.length_map]; omega), e8, List.map_append]; rfl
        have f2 : (zForm1 z m).2.1 2 = (List.range n0).map (fun c => nI (if c = Q.getD m 0 then 1 else P c)) := by
          rw [hz1, zput, zrow_same, zapp, zrow_ne (by decide), e2, rPut_range hn0 hc]
          apply List.map_congr_left
          intro j _
          by_cases e : j = Q.getD m 0
          · rw [if_pos e, if_pos e]; rfl
          · rw [if_neg e, if_neg e]
        have fr : ∀ r, r ≠ 8 → r ≠ 2 → (zForm1 z m).2.1 r = z.2.1 r := by
          intro r h8 h2
          rw [hz1, zput, zrow_ne h2, zapp, zrow_ne h8]
        obtain ⟨i1, i2, i3, i4, i5, i6⟩ := ih (m + 1) (k + 1) (Lc ++ [Q.getD m 0]) (fun c => if c = Q.getD m 0 then 1 else P c) (zForm1 z m) (by rw [fr 6 (by decide) (by decide)]; exact e6) f8 (by
          intro x hx
          rcases List.mem_append.mp hx with q | q
          · exact hL x q
          · rw [List.mem_singleton] at q; omega) (by rw [List.length_append, List.length_singleton]; omega) f2 (fun a b ha hb => by
          have : zConf (zForm1 z m) (nI a) (nI b) = zConf z (nI a) (nI b) := by rw [hz1]; rfl
          rw [this]; exact hcf a b ha hb) (by rw [hz1]; exact h0) (by omega) (by omega)
        have eb : mst - (k + 1) = mst - k - 1 := by omega
        rw [eb] at i1 i2 i3
        rw [nI_1]
        refine ⟨?_, ?_, ?_, ?_, i5, i6⟩
        · rw [i1, List.length_cons]; congr 1; omega
        · rw [i2, List.append_assoc]; rfl
        · rw [i3]
          apply List.map_congr_left
          intro j _
          by_cases e1 : j ∈ sel cf (Q.drop (m + 1)) (mst - k - 1) (Lc ++ [Q.getD m 0])
          · rw [if_pos e1, if_pos (List.mem_cons_of_mem _ e1)]
          · rw [if_neg e1]
            by_cases e2 : j = Q.getD m 0
            · rw [if_pos e2, if_pos (by rw [e2]; exact List.mem_cons_self)]
            · rw [if_neg e2, if_neg (fun q => by rcases List.mem_cons.mp q with q | q; exact e2 q; exact e1 q)]
        · intro r h8 h2
          rw [i4 r h8 h2, fr r h8 h2]
theorem zDrop_eff {n0 : Nat} {P : Nat → Nat} (hn0 : n0 ≤ 40) (hP : ∀ c, c < n0 → P c ≤ 3) : ∀ (n : Nat) (l : List Nat) (z : zS), z.2.1 6 = l.map nI → z.2.1 2 = (List.range n0).map (fun c => nI (P c)) → (∀ c ∈ l, c < n0) → l.length ≤ 40 → n ≤ l.length →
    (zDrop n z).2.1 6 = ((l.take n).filter (fun c => !decide (P c = 1)) ++ l.drop n).map nI ∧ (∀ r, r ≠ 6 → (zDrop n z).2.1 r = z.2.1 r) ∧ (zDrop n z).1 = z.1 ∧ (zDrop n z).2.2 = z.2.2 := by
  intro n
  induction n with
  | zero => intro l z e6 e2 hl h40 hn; exact ⟨e6, fun _ _ => rfl, rfl, rfl⟩
  | succ n ih =>
    intro l z e6 e2 hl h40 hn
    have hnl : n < l.length := by omega
    have hc := hl _ (getD_mem (x := 0) hnl)
    have hz : zat z 2 (zat z 6 (nI n)) = nI (P (l.getD n 0)) := by
      rw [zat_map e6 h40 hnl, zat, e2, rAt_range hn0, if_pos (by rw [isC_nI hn0 (by omega)]; simpa using hc), nI_clamp (by omega)]
    have h3 := hP _ hc
    have hi : nI (P (l.getD n 0)) = 1 ↔ P (l.getD n 0) = 1 := nI_eq (by omega) (by decide)
    have ht : l.take (n + 1) = l.take n ++ [l.getD n 0] := by
      rw [List.take_add_one, List.getElem?_eq_getElem hnl, List.getD_eq_getElem?_getD, List.getElem?_eq_getElem hnl]; rfl
    rw [zDrop, zDrop1, hz, ht, List.filter_append]
    by_cases c1 : P (l.getD n 0) = 1
    · rw [if_pos (hi.mpr c1)]
      have e6' : (zrem z 6 (nI n)).2.1 6 = (l.eraseIdx n).map nI := by rw [zrem, zrow_same, e6, rRem_map h40 hnl]
      have hlen : (l.eraseIdx n).length = l.length - 1 := by rw [List.length_eraseIdx, if_pos hnl]
      obtain ⟨i1, i2, i3, i4⟩ := ih (l.eraseIdx n) (zrem z 6 (nI n)) e6' (by rw [zrem, zrow_ne (by decide)]; exact e2) (fun c q => hl c (List.mem_of_mem_eraseIdx q)) (by omega) (by omega)
      refine ⟨?_, fun r hr => by rw [i2 r hr, zrem, zrow_ne hr], i3, i4⟩
      rw [i1]
      have d1 : (l.eraseIdx n).take n = l.take n := by
        rw [List.eraseIdx_eq_take_drop_succ, List.take_left' (by rw [List.length_take]; omega)]
      have d2 : (l.eraseIdx n).drop n = l.drop (n + 1) := by
        rw [List.eraseIdx_eq_take_drop_succ, List.drop_append, List.drop_eq_nil_of_le (by rw [List.length_take]; omega), List.nil_append, List.length_take, Nat.min_eq_left (by omega), Nat.sub_self, List.drop_zero]
      have ef : [l.getD n 0].filter (fun c => !decide (P c = 1)) = [] := by rw [List.filter_cons, if_neg (by rw [decide_eq_true c1]; decide)]; rfl
      rw [d1, d2, ef, List.append_nil]
    · rw [if_neg (fun q => c1 (hi.mp q))]
      obtain ⟨i1, i2, i3, i4⟩ := ih l z e6 e2 hl h40 (by omega)
      refine ⟨?_, i2, i3, i4⟩
      have ef : [l.getD n 0].filter (fun c => !decide (P c = 1)) = [l.getD n 0] := by rw [List.filter_cons, if_pos (by rw [decide_eq_false c1]; rfl)]; rfl
      rw [i1, drop_getD (x := 0) hnl, ef, List.append_assoc]
      rfl
def gO (S : List Nat) : List gT := match S with
  | [] => []
  | c :: r => [(c :: r, 0, 0)]
def yF (y : yT) (S : List Nat) : yT := (y.1, va_up y.2.1 1 (fun c => if c ∈ S then 1 else ypl y c), y.2.2.1, va_up y.2.2.2.1 0 ((yQ y).filter (fun c => !decide (c ∈ S))), yG y ++ gO S)
theorem gO_L (G : List gT) (S : List Nat) : gL (G ++ gO S) = gL G ++ S := by
  cases S with
  | nil => simp [gO, gL]
  | cons c r => simp [gO, gL]
theorem gO_F (G : List gT) (S : List Nat) : gF (G ++ gO S) = gF G ++ gF1 S := by
  cases S with
  | nil => simp [gO, gF, gF1]
  | cons c r => simp [gO, gF]
def ySel (y : yT) (mst : Nat) : List Nat := sel (ycf y) (yQ y) mst (gL (yG y))
theorem yF_nil (y : yT) : yF y [] = y := by
  unfold yF
  have e1 : va_up y.2.1 1 (fun c => if c ∈ ([] : List Nat) then 1 else ypl y c) = y.2.1 := by
    have : (fun c => if c ∈ ([] : List Nat) then 1 else ypl y c) = y.2.1 1 := by funext c; simp
    rw [this, va_up_same]
  have e2 : (yQ y).filter (fun c => !decide (c ∈ ([] : List Nat))) = y.2.2.2.1 0 := by
    rw [List.filter_eq_self]; intro a _; simp
  rw [e1, e2, va_up_same]
  show (y.1, y.2.1, y.2.2.1, y.2.2.2.1, yG y ++ []) = y
  rw [List.append_nil]
theorem WF.lq (hW : WF y) : (gL (yG y)).length + (yQ y).length ≤ 40 := by
  have hqn := hW.qn
  obtain ⟨w1, w2, w3, w4, w5, w6, w7, w8, w9, w10, w11, w12, w13, w14, w15⟩ := hW
  have : (gL (yG y) ++ yQ y).length ≤ yn y := by
    refine nd_len _ _ ?_ ?_
    · rw [List.nodup_append]
      refine ⟨w10, hqn, ?_⟩
      intro a ha b hb e
      subst e
      have h1 := ((w11 a).mp ha).2
      have h2 := ((w6 a).mp hb).2
      omega
    · intro x hx
      rcases List.mem_append.mp hx with hx | hx
      · exact ((w11 x).mp hx).1
      · exact ((w6 x).mp hx).1
  rw [List.length_append] at this
  omega
theorem WF.form (hW : WF y) {S : List Nat} (hn : S.Nodup) (hS : ∀ c ∈ S, c ∈ yQ y) : WF (yF y S) := by
  obtain ⟨w1, w2, w3, w4, w5, w6, w7, w8, w9, w10, w11, w12, w13, w14, w15⟩ := hW
  have hP : ∀ c, ypl (yF y S) c = if c ∈ S then 1 else ypl y c := fun c => rfl
  have h0 : ∀ c ∈ S, c < yn y ∧ ypl y c = 0 := fun c hc => (w6 c).mp (hS c hc)
  refine ⟨w1, ?_, w3, w4, w5.sublist List.filter_sublist, ?_, w7, ?_, ?_, ?_, ?_, ?_, w13, w14, ?_⟩
  · intro c hc
    obtain ⟨a, b, e, f, g⟩ := w2 c hc
    refine ⟨a, ?_, e, f, g⟩
    rw [hP c]; split <;> omega
  · intro c
    show c ∈ (yQ y).filter (fun c => !decide (c ∈ S)) ↔ c < yn y ∧ ypl (yF y S) c = 0
    rw [hP c, List.mem_filter, w6 c]
    by_cases e : c ∈ S
    · simp [e]
    · simp [e]
  · intro c
    show c ∈ yTr y ↔ c < yn y ∧ ypl (yF y S) c = 2
    rw [hP c, w8 c]
    by_cases e : c ∈ S
    · have := h0 c e
      rw [if_pos e]
      constructor
      · rintro ⟨-, q⟩; omega
      · rintro ⟨-, q⟩; omega
    · rw [if_neg e]
  · intro g hg
    rcases List.mem_append.mp hg with q | q
    · exact w9 g q
    · cases S with
      | nil => cases q
      | cons c r =>
        have : g = (c :: r, 0, 0) := List.mem_singleton.mp q
        rw [this]; simp
  · show (gL (yG y ++ gO S)).Nodup
    rw [gO_L, List.nodup_append]
    refine ⟨w10, hn, ?_⟩
    intro a ha b hb e
    subst e
    have h1 := ((w11 a).mp ha).2
    have h2 := (h0 a hb).2
    omega
  · intro c
    show c ∈ gL (yG y ++ gO S) ↔ c < yn y ∧ ypl (yF y S) c = 1
    rw [hP c, gO_L, List.mem_append, w11 c]
    by_cases e : c ∈ S
    · rw [if_pos e]
      exact ⟨fun _ => ⟨(h0 c e).1, rfl⟩, fun _ => Or.inr e⟩
    · rw [if_neg e]
      exact ⟨fun q => q.resolve_right e, Or.inl⟩
  · intro g hg
    rcases List.mem_append.mp hg with q | q
    · exact w12 g q
    · cases S with
      | nil => cases q
      | cons c r =>
        have : g = (c :: r, 0, 0) := List.mem_singleton.mp q
        rw [this]; exact ⟨Nat.zero_le _, Nat.zero_le _⟩
  · intro c hc
    show ywy y c = 0 ↔ ypl (yF y S) c ≠ 3
    rw [hP c]
    by_cases e : c ∈ S
    · have := h0 c e
      have := w15 c hc
      rw [if_pos e, this]
      constructor
      · intro _; decide
      · intro _; omega
    · rw [if_neg e]; exact w15 c hc
theorem op_formC (hW : WF y) (hC : RC y z) {mst : Nat} (h0 : z.1 0 = nI mst) (hmst : mst ≤ 8) : (zFormE (zForm (z.2.1 6).length 0 0 z)).1 = !decide (ySel y mst = []) ∧ RC (yF y (ySel y mst)) (zFormE (zForm (z.2.1 6).length 0 0 z)).2 ∧ (zFormE (zForm (z.2.1 6).length 0 0 z)).2.1 = z.1 ∧ (zFormE (zForm (z.2.1 6).length 0 0 z)).2.2.1 1 = z.2.1 1 := by
  have hlq := hW.lq
  have hql := hW.ql
  have hqn := hW.qn
  have hgl := hW.gl
  obtain ⟨w1, w2, w3, w4, w5, w6, w7, w8, w9, w10, w11, w12, w13, w14, w15⟩ := id hW
  have hl6 : (z.2.1 6).length = (yQ y).length := by rw [hC.R6, List.length_map]
  have e2 : z.2.1 2 = (List.range (yn y)).map (fun c => nI (ypl y c)) := hC.row 2 (by decide) (by decide)
  obtain ⟨f1, f2, f3, f4, f5, f6⟩ := zForm_eff (cf := ycf y) (Q := yQ y) w1 (fun c hc => ((w6 c).mp hc).1) hql w14 hmst (z.2.1 6).length 0 0 (gL (yG y)) (fun c => ypl y c) z hC.R6 hC.G8 (fun x hx => by have := ((w11 x).mp hx).1; omega) (by omega) e2 hC.cf h0 (Nat.zero_le _) (by omega)
  have hS : sel (ycf y) ((yQ y).drop 0) (mst - 0) (gL (yG y)) = ySel y mst := rfl
  rw [hS] at f1 f2 f3
  rw [Nat.zero_add] at f1
  have hsub : (ySel y mst).Sublist (yQ y) := sel_sub _ _ _ _
  have hSl : (ySel y mst).length ≤ (yQ y).length := hsub.length_le
  have hform0 : zForm (z.2.1 6).length 0 (nI 0) z = zForm (z.2.1 6).length 0 0 z := rfl
  rw [hform0] at f1 f2 f3 f4 f5 f6
  generalize zForm (z.2.1 6).length 0 0 z = q at *
  obtain ⟨s, z1⟩ := q
  simp only at f1 f2 f3 f4 f5 f6
  unfold zFormE
  simp only
  rw [f1]
  by_cases hE : ySel y mst = []
  · rw [hE] at f2 f3 ⊢
    rw [if_pos (show nI ([] : List Nat).length = 0 from rfl)]
    have ez : z1 = z := by
      refine Prod.ext f5 (Prod.ext ?_ f6)
      funext r
      by_cases h8 : r = 8
      · subst h8; rw [f2, List.append_nil, hC.G8]
      · by_cases h2 : r = 2
        · subst h2; rw [f3, e2]; simp
        · exact f4 r h8 h2
    rw [ez, yF_nil]
    exact ⟨by simp, hC, rfl, rfl⟩
  · have hpos : 0 < (ySel y mst).length := List.length_pos_iff.mpr hE
    rw [if_neg (nI_ne0 (by omega) (by omega))]
    -- the group's row
    have l10 : (z1.2.1 10).length = (yG y).length := by rw [f4 10 (by decide) (by decide), hC.G10, List.length_map]
    rw [l10]
    have hWF := hW.form (S := ySel y mst) (hqn.sublist hsub) (fun c hc => hsub.subset hc)
    have hgl2 : (yG y).length + 1 ≤ 40 := by
      have h1 := hWF.gl
      have h2 : (yG (yF y (ySel y mst))).length = (yG y).length + 1 := by
        show (yG y ++ gO (ySel y mst)).length = _
        cases hc : ySel y mst with
        | nil => exact absurd hc hE
        | cons c r => rw [List.length_append]; rfl
      omega
    have ins : ∀ (F : gT → Int32) (v : Int32), rIns ((yG y).map F) (nI (yG y).length) v = (yG y).map F ++ [v] := by
      intro F v
      have := rIns_end (xs := (yG y).map F) (v := v) (by rw [List.length_map]; omega)
      rw [List.length_map] at this
      exact this
    generalize hz2 : zG_insG z1 (nI (yG y).length) (nI (ySel y mst).length) = z2
    have r9 : z2.2.1 9 = (yG y).map (fun g => nI g.1.length) ++ [nI (ySel y mst).length] := by
      rw [← hz2, zG_insG, zins, zrow_ne (by decide), zins, zrow_ne (by decide), zins, zrow_same, f4 9 (by decide) (by decide), hC.G9, ins]
    have r10 : z2.2.1 10 = (yG y).map (fun g => nI g.2.1) ++ [nI 0] := by
      rw [← hz2, zG_insG, zins, zrow_ne (by decide), zins, zrow_same, zins, zrow_ne (by decide), f4 10 (by decide) (by decide), hC.G10, ins]; rfl
    have r11 : z2.2.1 11 = (yG y).map (fun g => nI g.2.2) ++ [nI 0] := by
      rw [← hz2, zG_insG, zins, zrow_same, zins, zrow_ne (by decide), zins, zrow_ne (by decide), f4 11 (by decide) (by decide), hC.G11, ins]; rfl
    have rr : ∀ r, r ≠ 9 → r ≠ 10 → r ≠ 11 → z2.2.1 r = z1.2.1 r := by
      intro r h9 h10 h11
      rw [← hz2, zG_insG, zins, zrow_ne h11, zins, zrow_ne h10, zins, zrow_ne h9]
    have i2 : z2.1 = z.1 := by rw [← hz2, ← f5]; rfl
    have c2 : z2.2.2 = z.2.2 := by rw [← hz2, ← f6]; rfl
    have g6 : z2.2.1 6 = (yQ y).map nI := by rw [rr 6 (by decide) (by decide) (by decide), f4 6 (by decide) (by decide), hC.R6]
    have g2 : z2.2.1 2 = (List.range (yn y)).map (fun c => nI (if c ∈ ySel y mst then 1 else ypl y c)) := by rw [rr 2 (by decide) (by decide) (by decide), f3]
    obtain ⟨d1, d2, d3, d4⟩ := zDrop_eff (n0 := yn y) (P := fun c => if c ∈ ySel y mst then 1 else ypl y c) w1 (fun c hc => by
      have := (w2 c hc).2.1
      show (if c ∈ ySel y mst then 1 else ypl y c) ≤ 3
      split <;> omega) (yQ y).length (yQ y) z2 g6 g2 (fun c hc => ((w6 c).mp hc).1) hql (Nat.le_refl _)
    have hdz : zQ_drop z2 = zDrop (yQ y).length z2 := by unfold zQ_drop; rw [g6, List.length_map]
    rw [hdz]
    have hfil : (yQ y).filter (fun c => !decide ((if c ∈ ySel y mst then 1 else ypl y c) = 1)) = (yQ y).filter (fun c => !decide (c ∈ ySel y mst)) := by
      apply List.filter_congr
      intro c hc
      have := ((w6 c).mp hc).2
      by_cases e : c ∈ ySel y mst
      · simp [e]
      · simp [e, this]
    rw [List.take_length, List.drop_length, List.append_nil, hfil] at d1
    have hgO : gO (ySel y mst) = [(ySel y mst, 0, 0)] := by
      cases hc : ySel y mst with
      | nil => exact absurd hc hE
      | cons c r => rfl
    refine ⟨by simp [hE], ?_, by rw [d3, i2], by rw [d2 1 (by decide), rr 1 (by decide) (by decide) (by decide), f4 1 (by decide) (by decide)]⟩
    rw [RC_iff]
    have hq := RC_iff.mp hC
    refine ⟨?_, by rw [d2 1 (by decide), rr 1 (by decide) (by decide) (by decide), f4 1 (by decide) (by decide)]; exact hq.2.1, by rw [d3, i2]; exact hq.2.2.1, ?_⟩
    · intro r k1 k2
      rcases (show r = 0 ∨ r = 2 ∨ r = 3 ∨ r = 4 ∨ r = 5 ∨ r = 6 ∨ r = 7 ∨ r = 8 ∨ r = 9 ∨ r = 10 ∨ r = 11 by omega) with rfl | rfl | rfl | rfl | rfl | rfl | rfl | rfl | rfl | rfl | rfl
      · rw [d2 0 (by decide), rr 0 (by decide) (by decide) (by decide), f4 0 (by decide) (by decide)]; exact hq.1 0 (by decide) (by decide)
      · rw [d2 2 (by decide), g2]; rfl
      · rw [d2 3 (by decide), rr 3 (by decide) (by decide) (by decide), f4 3 (by decide) (by decide)]; exact hq.1 3 (by decide) (by decide)
      · rw [d2 4 (by decide), rr 4 (by decide) (by decide) (by decide), f4 4 (by decide) (by decide)]; exact hq.1 4 (by decide) (by decide)
      · rw [d2 5 (by decide), rr 5 (by decide) (by decide) (by decide), f4 5 (by decide) (by decide)]; exact hq.1 5 (by decide) (by decide)
      · exact d1
      · rw [d2 7 (by decide), rr 7 (by decide) (by decide) (by decide), f4 7 (by decide) (by decide)]; exact hq.1 7 (by decide) (by decide)
      · rw [d2 8 (by decide), rr 8 (by decide) (by decide) (by decide), f2]
        show _ = (gL (yG y ++ gO (ySel y mst))).map nI
        rw [gO_L]
      · rw [d2 9 (by decide), r9]
        show _ = (yG y ++ gO (ySel y mst)).map (fun g => nI g.1.length)
        rw [hgO, List.map_append]; rfl
      · rw [d2 10 (by decide), r10]
        show _ = (yG y ++ gO (ySel y mst)).map (fun g => nI g.2.1)
        rw [hgO, List.map_append]; rfl
      · rw [d2 11 (by decide), r11]
        show _ = (yG y ++ gO (ySel y mst)).map (fun g => nI g.2.2)
        rw [hgO, List.map_append]; rfl
    · intro a b ha hb
      have : zConf (zDrop (yQ y).length z2) (nI a) (nI b) = zConf z (nI a) (nI b) := by
        unfold zConf
        rw [d4, c2]
      rw [this]
      exact hC.cf a b ha hb
end FO
