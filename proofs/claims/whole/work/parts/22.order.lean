/-! THE ORDER OF THOSE THAT WAIT -/
section OR
variable {y : yT} {z : zS} {t : mS}
theorem yBef_iff (y : yT) (a b : Nat) : yBef y a b = true ↔ ytn y a < ytn y b ∨ (ytn y a = ytn y b ∧ (yrk y b < yrk y a ∨ (yrk y a = yrk y b ∧ a < b))) := by
  unfold yBef
  by_cases h1 : ytn y a = ytn y b
  · by_cases h2 : yrk y a = yrk y b
    · simp [h1, h2]
    · simp [h1, h2]
  · simp [h1]
theorem yBef_asym {y : yT} {a b : Nat} (h : yBef y a b = true) : yBef y b a = false := by
  rw [yBef_iff] at h
  have : ¬ yBef y b a = true := by rw [yBef_iff]; omega
  simpa using this
theorem yBef_trans {y : yT} {a b c : Nat} (h1 : yBef y a b = true) (h2 : yBef y b c = true) : yBef y a c = true := by
  rw [yBef_iff] at *
  omega
theorem yBef_tot {y : yT} {a b : Nat} (h : a ≠ b) (h1 : ¬ yBef y a b = true) : yBef y b a = true := by
  rw [yBef_iff] at *
  omega
theorem mBef_y (hR : RM y t) (hW : WF y) {a b : Nat} (ha : a < yn y) (hb : b < yn y) : mBef t a b = yBef y a b := by
  obtain ⟨-, -, -, -, hA, -, -⟩ := hR
  have hn := hW.1
  have wa := hW.2.1 a ha
  have wb := hW.2.1 b hb
  obtain ⟨a1, -, -, -, a5⟩ := hA a ha
  obtain ⟨b1, -, -, -, b5⟩ := hA b hb
  have ja : jp (ytn y a) ≤ 40 := by unfold jp; split <;> omega
  have jb : jp (ytn y b) ≤ 40 := by unfold jp; split <;> omega
  have e1 : (t.2 3 a = t.2 3 b) ↔ ytn y a = ytn y b := by
    rw [a5, b5, nI_eq (by omega) (by omega)]
    unfold jp
    constructor
    · intro h; split at h <;> split at h <;> omega
    · intro h; rw [h]
  have e2 : (t.2 0 a = t.2 0 b) ↔ yrk y a = yrk y b := by rw [a1, b1, nI_eq (by omega) (by omega)]
  have e3 : (nI b ≤ nI a) ↔ b ≤ a := nI_leI (by omega) (by omega)
  have e4 : (t.2 0 a ≤ t.2 0 b) ↔ yrk y a ≤ yrk y b := by rw [a1, b1, nI_leI (by omega) (by omega)]
  have e5 : (t.2 3 b = 0) ↔ ytn y b = 40 := by
    rw [b5, show (0 : Int32) = nI 0 from rfl, nI_eq (by omega) (by decide)]
    unfold jp
    constructor
    · intro h; split at h <;> omega
    · intro h; rw [if_pos h]
  have e6 : (t.2 3 a ≤ 0) ↔ ytn y a = 40 := by
    rw [a5, show (0 : Int32) = nI 0 from rfl, nI_leI (by omega) (by decide)]
    unfold jp
    constructor
    · intro h; split at h <;> omega
    · intro h; rw [if_pos h]; exact Nat.le_refl _
  have e7 : (t.2 3 b ≤ t.2 3 a) ↔ jp (ytn y b) ≤ jp (ytn y a) := by rw [a5, b5, nI_leI (by omega) (by omega)]
  have d3 : decide (nI b ≤ nI a) = decide (b ≤ a) := decide_eq_decide.mpr e3
  have d4 : decide (t.2 0 a ≤ t.2 0 b) = decide (yrk y a ≤ yrk y b) := decide_eq_decide.mpr e4
  have d5 : decide (t.2 3 b = 0) = decide (ytn y b = 40) := decide_eq_decide.mpr e5
  have d6 : decide (t.2 3 a ≤ 0) = decide (ytn y a = 40) := decide_eq_decide.mpr e6
  have d7 : decide (t.2 3 b ≤ t.2 3 a) = decide (jp (ytn y b) ≤ jp (ytn y a)) := decide_eq_decide.mpr e7
  unfold mBef yBef
  by_cases h1 : ytn y a = ytn y b
  · rw [if_pos (e1.mpr h1), if_pos h1]
    by_cases h2 : yrk y a = yrk y b
    · rw [if_pos (e2.mpr h2), if_pos h2, d3]
      by_cases h3 : b ≤ a
      · simp [h3]
      · simp [h3]; omega
    · rw [if_neg (fun q => h2 (e2.mp q)), if_neg h2, d4]
      by_cases h3 : yrk y a ≤ yrk y b
      · simp [h3]
      · simp [h3]; omega
  · rw [if_neg (fun q => h1 (e1.mp q)), if_neg h1, d5, d6, d7]
    by_cases h4 : ytn y b = 40
    · simp [h4]; omega
    · by_cases h5 : ytn y a = 40
      · simp [h4, h5]; omega
      · have : jp (ytn y a) = ytn y a + 1 := by rw [jp, if_neg h5]
        have h6 : jp (ytn y b) = ytn y b + 1 := by rw [jp, if_neg h4]
        rw [this, h6]
        by_cases h7 : ytn y a < ytn y b
        · have : ¬ ytn y b + 1 ≤ ytn y a + 1 := by omega
          simp [h4, h5, h7, this]
        · have : ytn y b + 1 ≤ ytn y a + 1 := by omega
          simp [h4, h5, h7, this]
theorem nd_sub : ∀ (l1 l2 : List Nat), l1.Nodup → (∀ x ∈ l1, x ∈ l2) → l1.length ≤ l2.length := by
  intro l1
  induction l1 with
  | nil => intro l2 _ _; exact Nat.zero_le _
  | cons a l ih =>
    intro l2 hn hs
    have ha : a ∈ l2 := hs a List.mem_cons_self
    have hn2 := List.nodup_cons.mp hn
    have h1 := ih (l2.erase a) hn2.2 (fun x hx => (List.mem_erase_of_ne (fun e => by subst e; exact hn2.1 hx)).mpr (hs x (List.mem_cons_of_mem _ hx)))
    rw [List.length_erase_of_mem ha] at h1
    have : 0 < l2.length := List.length_pos_of_mem ha
    simp only [List.length_cons]
    omega
def yWb (y : yT) (c : Nat) (e : Nat) : Bool := decide (ypl y c = 0) && (decide (ypl y e = 0) && yBef y e c)
theorem wOne_y (hR : RM y t) (hW : WF y) {c e : Nat} (hc : c < yn y) (he : e < yn y) : wOne t c e = bI (yWb y c e) := by
  have hA := hR.2.2.2.2.1
  have hn := hW.1
  have wc := (hW.2.1 c hc).2.1
  have we := (hW.2.1 e he).2.1
  have e1 : (t.2 2 c = 0) ↔ ypl y c = 0 := by rw [(hA c hc).2.1, show (0 : Int32) = nI 0 from rfl, nI_eq (by omega) (by decide)]
  have e2 : (t.2 2 e = 0) ↔ ypl y e = 0 := by rw [(hA e he).2.1, show (0 : Int32) = nI 0 from rfl, nI_eq (by omega) (by decide)]
  unfold wOne yWb
  rw [mBef_y hR hW he hc]
  by_cases h : ypl y c = 0 ∧ ypl y e = 0 ∧ yBef y e c = true
  · rw [if_pos ⟨e1.mpr h.1, e2.mpr h.2.1, h.2.2⟩]
    simp [h.1, h.2.1, h.2.2, bI]
  · rw [if_neg (fun q => h ⟨e1.mp q.1, e2.mp q.2.1, q.2.2⟩)]
    have : (decide (ypl y c = 0) && (decide (ypl y e = 0) && yBef y e c)) = false := by
      cases hq : (decide (ypl y c = 0) && (decide (ypl y e = 0) && yBef y e c)) with
      | false => rfl
      | true =>
        simp only [Bool.and_eq_true, decide_eq_true_eq] at hq
        exact absurd hq h
    rw [this]
    rfl
theorem wCnt_y (hR : RM y t) (hW : WF y) {c : Nat} (hc : c < yn y) : ∀ (r e x : Nat), e + r ≤ yn y → wCnt t c r e (nI x) = nI (x + ((List.range' e r).filter (yWb y c)).length) := by
  intro r
  induction r with
  | zero => intro e x _; rfl
  | succ r ih =>
    intro e x h
    rw [wCnt, wOne_y hR hW hc (by omega), List.range'_succ, List.filter_cons]
    by_cases hq : yWb y c e = true
    · rw [if_pos hq, hq, show bI true = nI 1 from rfl, nI_add, ih (e + 1) (x + 1) (by omega), List.length_cons]
      congr 1
      omega
    · have hq2 : yWb y c e = false := by simpa using hq
      rw [if_neg hq, hq2, show nI x + bI false = nI x from Int32.add_zero _, ih (e + 1) x (by omega)]
theorem wIdx (hW : WF y) {i : Nat} (hi : i < (yQ y).length) : ((List.range' 0 (yn y)).filter (yWb y ((yQ y).getD i 0))).length = i := by
  have hs := hW.2.2.2.2.1
  have hq := hW.2.2.2.2.2.1
  have hcQ : (yQ y).getD i 0 ∈ yQ y := getD_mem hi
  generalize hc : (yQ y).getD i 0 = c at *
  have h0 := ((hq c).mp hcQ).2
  have e1 : ((yQ y).filter (fun e => yBef y e c)).length = i := by
    have hd : yQ y = (yQ y).take i ++ c :: (yQ y).drop (i + 1) := by
      have := List.take_append_drop i (yQ y)
      rw [drop_getD (x := 0) hi, hc] at this
      exact this.symm
    rw [hd] at hs
    rw [List.pairwise_append, List.pairwise_cons] at hs
    obtain ⟨-, ⟨p1, -⟩, p2⟩ := hs
    rw [hd, List.filter_append, List.filter_cons, yBef_irr, if_neg (by decide)]
    have f1 : ((yQ y).take i).filter (fun e => yBef y e c) = (yQ y).take i := List.filter_eq_self.mpr (fun a ha => p2 a ha c List.mem_cons_self)
    have f2 : ((yQ y).drop (i + 1)).filter (fun e => yBef y e c) = [] := List.filter_eq_nil_iff.mpr (fun a ha => by rw [yBef_asym (p1 a ha)]; decide)
    rw [f1, f2, List.append_nil, List.length_take]
    omega
  have n1 : ((List.range' 0 (yn y)).filter (yWb y c)).Nodup := List.Pairwise.filter _ List.nodup_range'
  have n2 : ((yQ y).filter (fun e => yBef y e c)).Nodup := List.Pairwise.filter _ hW.qn
  have m : ∀ x, x ∈ (List.range' 0 (yn y)).filter (yWb y c) ↔ x ∈ (yQ y).filter (fun e => yBef y e c) := by
    intro x
    rw [List.mem_filter, List.mem_filter, hq x, List.mem_range'_1]
    simp only [yWb, h0, Bool.and_eq_true, decide_eq_true_eq]
    constructor
    · rintro ⟨⟨-, h2⟩, -, h3, h4⟩; exact ⟨⟨by omega, h3⟩, h4⟩
    · rintro ⟨⟨h2, h3⟩, h4⟩; exact ⟨⟨Nat.zero_le _, by omega⟩, trivial, h3, h4⟩
  have l1 := nd_sub _ _ n1 (fun x hx => (m x).mp hx)
  have l2 := nd_sub _ _ n2 (fun x hx => (m x).mpr hx)
  omega
theorem wAt2_hit (hR : RM y t) (hW : WF y) {i : Nat} (hi : i < (yQ y).length) : ∀ (r c : Nat), c + r = yn y → c ≤ (yQ y).getD i 0 → wAt2 t (yn y) (nI i) r c = nI ((yQ y).getD i 0) := by
  have hn := hW.1
  have hql := hW.ql
  have hA := hR.2.2.2.2.1
  have hx := (hW.2.2.2.2.2.1 _).mp (getD_mem (x := 0) hi)
  intro r
  induction r with
  | zero => intro c h1 h2; omega
  | succ r ih =>
    intro c h1 h2
    have hcn : c < yn y := by omega
    have e := wCnt_y hR hW hcn (yn y) 0 0 (by omega)
    rw [show nI 0 = (0 : Int32) from rfl] at e
    rw [wAt2, e, Nat.zero_add]
    have e1 : (t.2 2 c = 0) ↔ ypl y c = 0 := by
      have := (hW.2.1 c hcn).2.1
      rw [(hA c hcn).2.1, show (0 : Int32) = nI 0 from rfl, nI_eq (by omega) (by decide)]
    by_cases hc : c = (yQ y).getD i 0
    · rw [if_pos ⟨e1.mpr (hc ▸ hx.2), by rw [hc, wIdx hW hi]⟩, hc]
    · rw [if_neg, ih (c + 1) (by omega) (by omega)]
      rintro ⟨q1, q2⟩
      have hcq : c ∈ yQ y := (hW.2.2.2.2.2.1 c).mpr ⟨hcn, e1.mp q1⟩
      obtain ⟨j, hj⟩ := List.getElem?_of_mem hcq
      have hjl := (List.getElem?_eq_some_iff.mp hj).1
      have hjc : (yQ y).getD j 0 = c := by rw [List.getD_eq_getElem?_getD, hj]; rfl
      have := wIdx hW hjl
      rw [hjc] at this
      rw [this, nI_eq (by omega) (by omega)] at q2
      subst q2
      exact hc hjc.symm
theorem wAt2_miss (hR : RM y t) (hW : WF y) {k : Int32} (hk : ∀ i, i < (yQ y).length → k ≠ nI i) : ∀ (r c : Nat), c + r = yn y → wAt2 t (yn y) k r c = -1 := by
  have hn := hW.1
  have hA := hR.2.2.2.2.1
  intro r
  induction r with
  | zero => intro c _; rfl
  | succ r ih =>
    intro c h1
    have hcn : c < yn y := by omega
    have e := wCnt_y hR hW hcn (yn y) 0 0 (by omega)
    rw [show nI 0 = (0 : Int32) from rfl] at e
    rw [wAt2, e, Nat.zero_add, if_neg, ih (c + 1) (by omega)]
    rintro ⟨q1, q2⟩
    have e1 : ypl y c = 0 := by
      have := (hW.2.1 c hcn).2.1
      rw [(hA c hcn).2.1, show (0 : Int32) = nI 0 from rfl, nI_eq (by omega) (by decide)] at q1
      exact q1
    have hcq : c ∈ yQ y := (hW.2.2.2.2.2.1 c).mpr ⟨hcn, e1⟩
    obtain ⟨j, hj⟩ := List.getElem?_of_mem hcq
    have hjl := (List.getElem?_eq_some_iff.mp hj).1
    have hjc : (yQ y).getD j 0 = c := by rw [List.getD_eq_getElem?_getD, hj]; rfl
    have := wIdx hW hjl
    rw [hjc] at this
    rw [this] at q2
    exact hk j hjl q2.symm
theorem mWt_y (hR : RM y t) (hW : WF y) {k : Int32} (h0 : ¬ k < 0) : mWt t (yn y) k = if k < nI (yQ y).length then nI ((yQ y).getD k.toNatClampNeg 0) else -1 := by
  have hql := hW.ql
  obtain ⟨j, j1, j2, j3⟩ := i_pos h0
  rw [j3]
  by_cases hk : k < nI (yQ y).length
  · rw [if_pos hk]
    rw [j2, nI_ltI j1 (by omega)] at hk
    rw [mWt, j2]
    exact wAt2_hit hR hW hk _ 0 (by omega) (Nat.zero_le _)
  · rw [if_neg hk]
    rw [j2, nI_ltI j1 (by omega)] at hk
    refine wAt2_miss hR hW ?_ _ 0 (by omega)
    intro i hi
    rw [j2]
    exact nI_ne j1 (by omega) (by omega)
theorem same_waiting (hC : RC y z) (hR : RM y t) (hW : WF y) (k : Int32) : zat z 6 k = if k < 0 then -1 else mWt t (yn y) k := by
  rw [zat, hC.R6, rAt_map 0 hW.ql]
  unfold isC
  by_cases h1 : k < 0
  · simp [h1]
  · rw [if_neg h1, mWt_y hR hW h1]
    by_cases h2 : k < nI (yQ y).length
    · simp [h1, h2]
    · simp [h1, h2]
end OR
