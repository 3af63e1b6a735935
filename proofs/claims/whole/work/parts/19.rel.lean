/-! WHAT BOTH HOLD: numbers (0 changes, 1 jumps), per change (0 rank, 1 place, 2 why, 3 treeSize, 4 turn: 40 if none), conflicts, lists (0 queue, 1 tree), groups -/
abbrev yT : Type := (Nat → Nat) × (Nat → Nat → Nat) × (Nat → Nat → Bool) × (Nat → List Nat) × List gT
abbrev yn (y : yT) : Nat := y.1 0
abbrev ytg (y : yT) : Nat := y.1 1
abbrev yrk (y : yT) (c : Nat) : Nat := y.2.1 0 c
abbrev ypl (y : yT) (c : Nat) : Nat := y.2.1 1 c
abbrev ywy (y : yT) (c : Nat) : Nat := y.2.1 2 c
abbrev yts (y : yT) (c : Nat) : Nat := y.2.1 3 c
abbrev ytn (y : yT) (c : Nat) : Nat := y.2.1 4 c
abbrev ycf (y : yT) : Nat → Nat → Bool := y.2.2.1
abbrev yQ (y : yT) : List Nat := y.2.2.2.1 0
abbrev yTr (y : yT) : List Nat := y.2.2.2.1 1
abbrev yG (y : yT) : List gT := y.2.2.2.2
abbrev g0 : gT := ([], 0, 0)
def jp (u : Nat) : Nat := if u = 40 then 0 else u + 1
/-- who stands in front -/
def yBef (y : yT) (a b : Nat) : Bool := if ytn y a = ytn y b then (if yrk y a = yrk y b then decide (a < b) else decide (yrk y b < yrk y a)) else decide (ytn y a < ytn y b)
def yCount (y : yT) : Nat := ((List.range (yn y)).filter (fun c => !decide (ytn y c = 40))).length
def WF (y : yT) : Prop :=
  yn y ≤ 40 ∧ (∀ c, c < yn y → yrk y c ≤ 9 ∧ ypl y c ≤ 3 ∧ ywy y c ≤ 3 ∧ yts y c ≤ 40 ∧ ytn y c ≤ 40) ∧ (∀ c, c < yn y → ytn y c = 40 ∨ ytn y c < ytg y) ∧ ytg y = yCount y ∧
  (yQ y).Pairwise (fun a b => yBef y a b = true) ∧ (∀ c, c ∈ yQ y ↔ c < yn y ∧ ypl y c = 0) ∧
  (yTr y).Nodup ∧ (∀ c, c ∈ yTr y ↔ c < yn y ∧ ypl y c = 2) ∧
  gNe (yG y) ∧ (gL (yG y)).Nodup ∧ (∀ c, c ∈ gL (yG y) ↔ c < yn y ∧ ypl y c = 1) ∧
  (∀ g ∈ yG y, g.2.1 ≤ 3 ∧ 0 ≤ g.2.2) ∧ (∀ a b, ycf y a b = true → a < yn y ∧ b < yn y) ∧ (∀ a b, ycf y a b = ycf y b a) ∧
  (∀ c, c < yn y → (ywy y c = 0 ↔ ypl y c ≠ 3))
def RM (y : yT) (t : mS) : Prop :=
  (t.1 3 = 0 ∧ t.1 4 = nI (yn y) ∧ t.1 5 = nI (ytg y) ∧ t.1 7 = nI (yTr y).length) ∧ LaneOk t (gL (yG y)) (gF (yG y)) ∧
  (∀ i, i < (yTr y).length → t.2 8 i = nI ((yTr y).getD i 0)) ∧ (∀ a b, a < 40 → b < 40 → t.2 6 (40 * a + b) = bI (ycf y a b)) ∧
  (∀ c, c < yn y → t.2 0 c = nI (yrk y c) ∧ t.2 2 c = nI (ypl y c) ∧ t.2 4 c = nI (ywy y c) ∧ t.2 5 c = nI (yts y c) ∧ t.2 3 c = nI (jp (ytn y c))) ∧
  (∀ c, yn y ≤ c → c < 40 → t.2 3 c = 0 ∧ t.2 4 c = 0 ∧ t.2 5 c = 0) ∧
  (∀ i, i < (yG y).length → ∀ c, c ∈ ((yG y).getD i g0).1 → t.2 10 c = nI ((yG y).getD i g0).2.1 ∧ t.2 11 c = nI ((yG y).getD i g0).2.2)
def RC (y : yT) (z : zS) : Prop :=
  z.2.1 0 = (List.range (yn y)).map (fun c => nI (yrk y c)) ∧ z.2.1 2 = (List.range (yn y)).map (fun c => nI (ypl y c)) ∧ z.2.1 3 = (List.range (yn y)).map (fun c => nI (ywy y c)) ∧
  z.2.1 4 = (List.range (yn y)).map (fun c => nI (ytn y c)) ∧ z.2.1 5 = (List.range (yn y)).map (fun c => nI (yts y c)) ∧ (z.2.1 1).length = yn y ∧
  z.2.1 6 = (yQ y).map nI ∧ z.2.1 7 = (yTr y).map nI ∧ z.2.1 8 = (gL (yG y)).map nI ∧ z.2.1 9 = (yG y).map (fun g => nI g.1.length) ∧ z.2.1 10 = (yG y).map (fun g => nI g.2.1) ∧ z.2.1 11 = (yG y).map (fun g => nI g.2.2) ∧
  z.1 6 = nI (ytg y) ∧ (∀ a b, a < 40 → b < 40 → zConf z (nI a) (nI b) = ycf y a b)
def RS (y : yT) (z : zS) (t : mS) : Prop := z.1 0 = t.1 0 ∧ z.1 1 = t.1 1 ∧ z.1 2 = t.1 2 ∧ z.1 3 = t.1 11 ∧ z.1 4 = t.1 8 ∧ z.1 5 = t.1 9 ∧ z.1 7 = t.1 10 ∧ (∀ c, c < yn y → (z.2.1 1).getD c (-1) = t.2 1 c) ∧ (t.1 11 = 0 ∨ t.1 11 = 1) ∧ (∃ m, t.1 0 = nI m ∧ 1 ≤ m ∧ m ≤ 8) ∧ (∃ m, t.1 1 = nI m ∧ 1 ≤ m ∧ m ≤ 4) ∧ (∃ m, t.1 2 = nI m ∧ 1 ≤ m ∧ m ≤ 3)
/-- a list of different numbers below n has at most n -/
theorem nd_len : ∀ (n : Nat) (l : List Nat), l.Nodup → (∀ x ∈ l, x < n) → l.length ≤ n := by
  intro n
  induction n with
  | zero =>
    intro l _ h
    cases l with
    | nil => simp
    | cons a l => exact absurd (h a List.mem_cons_self) (by omega)
  | succ n ih =>
    intro l hn h
    by_cases hm : n ∈ l
    · have h1 := ih (l.erase n) (hn.erase n) (fun x hx => by
        have h2 := h x (List.mem_of_mem_erase hx)
        have h3 : x ≠ n := fun e => by subst e; exact (hn.not_mem_erase) hx
        omega)
      rw [List.length_erase_of_mem hm] at h1
      omega
    · have h1 := ih l hn (fun x hx => by
        have h2 := h x hx
        have h3 : x ≠ n := fun e => hm (e ▸ hx)
        omega)
      omega
theorem WF.tl {y : yT} (hW : WF y) : (yTr y).length + (gL (yG y)).length ≤ 40 := by
  obtain ⟨w1, w2, w3, w4, w5, w6, w7, w8, w9, w10, w11, w12, w13, w14, w15⟩ := hW
  have : (yTr y ++ gL (yG y)).length ≤ yn y := by
    refine nd_len _ _ ?_ ?_
    · rw [List.nodup_append]
      refine ⟨w7, w10, ?_⟩
      intro a ha b hb e
      subst e
      have h1 := ((w8 a).mp ha).2
      have h2 := ((w11 a).mp hb).2
      omega
    · intro x hx
      rcases List.mem_append.mp hx with hx | hx
      · exact ((w8 x).mp hx).1
      · exact ((w11 x).mp hx).1
  rw [List.length_append] at this
  omega
theorem yBef_irr (y : yT) (a : Nat) : yBef y a a = false := by simp [yBef]
theorem pw_nodup {R : Nat → Nat → Prop} {l : List Nat} (h : l.Pairwise R) (hi : ∀ a, ¬ R a a) : l.Nodup := h.imp (fun {a b} hab e => by subst e; exact hi a hab)
theorem WF.qn {y : yT} (hW : WF y) : (yQ y).Nodup := pw_nodup hW.2.2.2.2.1 (fun a => by rw [yBef_irr]; decide)
theorem WF.ql {y : yT} (hW : WF y) : (yQ y).length ≤ 40 := by
  have := nd_len (yn y) (yQ y) hW.qn (fun x hx => ((hW.2.2.2.2.2.1 x).mp hx).1)
  have := hW.1
  omega
theorem gE_len {G : List gT} (hn : gNe G) : G.length ≤ (gL G).length := by
  induction G with
  | nil => simp
  | cons g G ih =>
    have hne : 0 < g.1.length := List.length_pos_iff.mpr (hn g List.mem_cons_self)
    have := ih (fun q hq => hn q (List.mem_cons_of_mem _ hq))
    simp only [gL, List.flatMap_cons, List.length_append, List.length_cons] at this ⊢
    omega
theorem WF.gl {y : yT} (hW : WF y) : (yG y).length ≤ 40 := by
  have h1 := gE_len hW.2.2.2.2.2.2.2.2.1
  have h2 := hW.tl
  omega
