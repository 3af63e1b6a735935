/-! THE MODEL'S CELLS (from place 28 on): its numbers (0 most, 1 width, 2 again, 3 code, 4 changes, 5 jumps, 6 laneSize, 7 treeSize, 8 answers, 9 halvings, 10 lost, 11 paused), its arrays (0 rank, 1 parts, 2 place, 3 jumped, 4 why, 5 size, 6 conflict, 7 lane, 8 tree, 9 begins, 10 state, 11 failures); ahead of them 28 other cells p -/
abbrev mS : Type := (Nat → Int32) × (Nat → Nat → Int32)
def MH (t : mS) : ax_H :=
  [.inr (4, [.int (t.1 0), .int (t.1 1), .int (t.1 2), .int (t.1 3), .int (t.1 4), .int (t.1 5), .int (t.1 6), .int (t.1 7), .int (t.1 8), .int (t.1 9), .int (t.1 10), .int (t.1 11), .ref 29, .ref 30, .ref 31, .ref 32, .ref 33, .ref 34, .ref 35, .ref 36, .ref 37, .ref 38, .ref 39, .ref 40]),
   .inl (0, 40, .inl (t.2 0)), .inl (0, 40, .inl (t.2 1)), .inl (0, 40, .inl (t.2 2)), .inl (0, 40, .inl (t.2 3)), .inl (0, 40, .inl (t.2 4)), .inl (0, 40, .inl (t.2 5)),
   .inl (2, 1600, .inl (t.2 6)), .inl (0, 40, .inl (t.2 7)), .inl (0, 40, .inl (t.2 8)), .inl (2, 40, .inl (t.2 9)), .inl (0, 40, .inl (t.2 10)), .inl (0, 40, .inl (t.2 11))]
def isM (p : ax_H) (t : mS) (h : ax_H) : Prop := p.length = 28 ∧ h = p ++ MH t
def mset (t : mS) (i : Nat) (v : Int32) : mS := (va_up t.1 i v, t.2)
def marr (t : mS) (a k : Nat) (v : Int32) : mS := (t.1, va_up t.2 a (upd (t.2 a) k v))
section MOD
variable {p : ax_H} {t : mS} {h : ax_H} {d : Nat}
theorem isM_at (hm : isM p t h) (i : Nat) : h[28 + i]? = (MH t)[i]? := by
  obtain ⟨h1, rfl⟩ := hm
  rw [List.getElem?_append_right (by omega), show 28 + i - p.length = i by omega]
theorem isM_set (hm : isM p t h) {i : Nat} {e : va_E} {t' : mS} (he : (MH t).set i e = MH t') : isM p t' (h.set (28 + i) e) := by
  obtain ⟨h1, rfl⟩ := hm
  refine ⟨h1, ?_⟩
  rw [← he, List.set_append, if_neg (by omega), show 28 + i - p.length = i by omega]
theorem M0 (hm : isM p t h) : h[28]? = some (.inr (4, [.int (t.1 0), .int (t.1 1), .int (t.1 2), .int (t.1 3), .int (t.1 4), .int (t.1 5), .int (t.1 6), .int (t.1 7), .int (t.1 8), .int (t.1 9), .int (t.1 10), .int (t.1 11), .ref 29, .ref 30, .ref 31, .ref 32, .ref 33, .ref 34, .ref 35, .ref 36, .ref 37, .ref 38, .ref 39, .ref 40])) := isM_at hm 0
theorem MA (hm : isM p t h) (a : Nat) (ha : a < 12) (h6 : ¬ a = 6) (h9 : ¬ a = 9) : h[29 + a]? = some (.inl (0, 40, .inl (t.2 a))) := by
  have e := isM_at hm (1 + a)
  rw [← Nat.add_assoc] at e
  rw [e]
  rcases (show a = 0 ∨ a = 1 ∨ a = 2 ∨ a = 3 ∨ a = 4 ∨ a = 5 ∨ a = 7 ∨ a = 8 ∨ a = 10 ∨ a = 11 by omega) with rfl | rfl | rfl | rfl | rfl | rfl | rfl | rfl | rfl | rfl <;> rfl
theorem MA6 (hm : isM p t h) : h[35]? = some (.inl (2, 1600, .inl (t.2 6))) := isM_at hm 7
theorem MA9 (hm : isM p t h) : h[38]? = some (.inl (2, 40, .inl (t.2 9))) := isM_at hm 10
theorem MW (hm : isM p t h) (a k : Nat) (v : Int32) (ha : a < 12) (h6 : ¬ a = 6) (h9 : ¬ a = 9) : isM p (marr t a k v) (h.set (29 + a) (.inl (0, 40, .inl (upd (t.2 a) k v)))) := by
  have e : 29 + a = 28 + (1 + a) := by omega
  rw [e]
  refine isM_set hm ?_
  rcases (show a = 0 ∨ a = 1 ∨ a = 2 ∨ a = 3 ∨ a = 4 ∨ a = 5 ∨ a = 7 ∨ a = 8 ∨ a = 10 ∨ a = 11 by omega) with rfl | rfl | rfl | rfl | rfl | rfl | rfl | rfl | rfl | rfl <;> rfl
theorem MW6 (hm : isM p t h) (k : Nat) (v : Int32) : isM p (marr t 6 k v) (h.set 35 (.inl (2, 1600, .inl (upd (t.2 6) k v)))) := isM_set (i := 7) hm rfl
theorem MW9 (hm : isM p t h) (k : Nat) (v : Int32) : isM p (marr t 9 k v) (h.set 38 (.inl (2, 40, .inl (upd (t.2 9) k v)))) := isM_set (i := 10) hm rfl
theorem MS {fs : List Value} (hm : isM p t h) (i : Nat) (v : Int32) (hi : i < 12) (hf : fs = (([.int (t.1 0), .int (t.1 1), .int (t.1 2), .int (t.1 3), .int (t.1 4), .int (t.1 5), .int (t.1 6), .int (t.1 7), .int (t.1 8), .int (t.1 9), .int (t.1 10), .int (t.1 11), .ref 29, .ref 30, .ref 31, .ref 32, .ref 33, .ref 34, .ref 35, .ref 36, .ref 37, .ref 38, .ref 39, .ref 40] : List Value)).set i (.int v)) : isM p (mset t i v) (h.set 28 (.inr (4, fs))) := by
  refine isM_set (i := 0) hm ?_
  subst hf
  rcases (show i = 0 ∨ i = 1 ∨ i = 2 ∨ i = 3 ∨ i = 4 ∨ i = 5 ∨ i = 6 ∨ i = 7 ∨ i = 8 ∨ i = 9 ∨ i = 10 ∨ i = 11 by omega) with rfl | rfl | rfl | rfl | rfl | rfl | rfl | rfl | rfl | rfl | rfl | rfl <;> rfl
theorem mset_same {t : mS} {i : Nat} {v : Int32} (h : t.1 i = v) : mset t i v = t := by
  unfold mset
  have : va_up t.1 i v = t.1 := by
    funext j
    unfold va_up
    by_cases e : j = i
    · rw [if_pos e, e, h]
    · rw [if_neg e]
  rw [this]
variable {k C S : Nat} {X : Option (Nat × (Nat → Int32))} {pc nx a1 a2 : Nat} {lv : ax_L} {st : List Value} {n1 n2 : Nat} {F : ax_F}
theorem AX.ialdX {i n : Nat} {f : Nat → Int32} {j v : Int32} (hi : m_i k pc = some (.iaload, 1, nx, a1, a2)) (hh : h[i]? = some (.inl (0, n, .inl f))) (hn : n < 2 ^ 31) (hx : ∃ c : Nat, c < n ∧ j = nI c ∧ f c = v) (kk : AX d k C S X nx lv (.int v :: st) h n1 n2 F) : AX d k C S X pc lv (.int j :: .ref i :: st) h n1 n2 F := by
  obtain ⟨c, h1, rfl, rfl⟩ := hx
  refine AX.iald hi hh (vp_in_nI h1 hn) ?_
  rw [nI_clamp (by omega)]
  exact kk
theorem AX.zaldX {i n : Nat} {f : Nat → Int32} {j v : Int32} (hi : m_i k pc = some (.baload, 1, nx, a1, a2)) (hh : h[i]? = some (.inl (2, n, .inl f))) (hn : n < 2 ^ 31) (hx : ∃ c : Nat, c < n ∧ j = nI c ∧ f c = v) (kk : AX d k C S X nx lv (.int v :: st) h n1 n2 F) : AX d k C S X pc lv (.int j :: .ref i :: st) h n1 n2 F := by
  obtain ⟨c, h1, rfl, rfl⟩ := hx
  refine AX.zald hi hh (vp_in_nI h1 hn) ?_
  rw [nI_clamp (by omega)]
  exact kk
theorem AX.iastX {i n : Nat} {f : Nat → Int32} {j x : Int32} (c : Nat) (hi : m_i k pc = some (.iastore, 1, nx, a1, a2)) (hh : h[i]? = some (.inl (0, n, .inl f))) (hn : n < 2 ^ 31) (hc : c < n) (hj : j = nI c) (kk : AX d k C S X nx lv st (h.set i (.inl (0, n, .inl (upd f c x)))) n1 n2 F) : AX d k C S X pc lv (.int x :: .int j :: .ref i :: st) h n1 n2 F := by
  subst hj
  refine AX.iast hi hh (vp_in_nI hc hn) ?_
  rw [nI_clamp (by omega)]
  exact kk
theorem AX.zastX {i n : Nat} {f : Nat → Int32} {j x : Int32} (c : Nat) (hi : m_i k pc = some (.bastore, 1, nx, a1, a2)) (hh : h[i]? = some (.inl (2, n, .inl f))) (hn : n < 2 ^ 31) (hc : c < n) (hj : j = nI c) (hx : vp_nar .boolean x = x) (kk : AX d k C S X nx lv st (h.set i (.inl (2, n, .inl (upd f c x)))) n1 n2 F) : AX d k C S X pc lv (.int x :: .int j :: .ref i :: st) h n1 n2 F := by
  subst hj
  refine AX.zast hi hh (vp_in_nI hc hn) ?_
  rw [nI_clamp (by omega), hx]
  exact kk
end MOD
