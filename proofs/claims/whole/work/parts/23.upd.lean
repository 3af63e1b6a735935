/-! CHANGES OF THE COMMON STATE, and what they are in the class's rows -/
section UP
variable {y y' : yT} {z : zS}
def rowY (y : yT) : Nat → List Int32
  | 0 => (List.range (yn y)).map (fun c => nI (yrk y c))
  | 2 => (List.range (yn y)).map (fun c => nI (ypl y c))
  | 3 => (List.range (yn y)).map (fun c => nI (ywy y c))
  | 4 => (List.range (yn y)).map (fun c => nI (ytn y c))
  | 5 => (List.range (yn y)).map (fun c => nI (yts y c))
  | 6 => (yQ y).map nI
  | 7 => (yTr y).map nI
  | 8 => (gL (yG y)).map nI
  | 9 => (yG y).map (fun g => nI g.1.length)
  | 10 => (yG y).map (fun g => nI g.2.1)
  | 11 => (yG y).map (fun g => nI g.2.2)
  | _ => []
theorem RC_iff : RC y z ↔ (∀ r, r < 12 → r ≠ 1 → z.2.1 r = rowY y r) ∧ (z.2.1 1).length = yn y ∧ z.1 6 = nI (ytg y) ∧ ∀ a b, a < 40 → b < 40 → zConf z (nI a) (nI b) = ycf y a b := by
  constructor
  · intro hC
    refine ⟨?_, hC.2.2.2.2.2.1, hC.tg, hC.cf⟩
    obtain ⟨h0, h2, h3, h4, h5, h1, h6, h7, h8, h9, h10, h11, -⟩ := hC
    intro r hr hr1
    rcases (show r = 0 ∨ r = 2 ∨ r = 3 ∨ r = 4 ∨ r = 5 ∨ r = 6 ∨ r = 7 ∨ r = 8 ∨ r = 9 ∨ r = 10 ∨ r = 11 by omega) with rfl | rfl | rfl | rfl | rfl | rfl | rfl | rfl | rfl | rfl | rfl
    · exact h0
    · exact h2
    · exact h3
    · exact h4
    · exact h5
    · exact h6
    · exact h7
    · exact h8
    · exact h9
    · exact h10
    · exact h11
  · rintro ⟨h, h1, ht, hc⟩
    exact ⟨h 0 (by decide) (by decide), h 2 (by decide) (by decide), h 3 (by decide) (by decide), h 4 (by decide) (by decide), h 5 (by decide) (by decide), h1, h 6 (by decide) (by decide), h 7 (by decide) (by decide), h 8 (by decide) (by decide), h 9 (by decide) (by decide), h 10 (by decide) (by decide), h 11 (by decide) (by decide), ht, hc⟩
theorem RC.row (hC : RC y z) (r : Nat) (hr : r < 12) (h1 : r ≠ 1) : z.2.1 r = rowY y r := (RC_iff.mp hC).1 r hr h1
/-- one row changes -/
theorem RC.upd (hC : RC y z) (r0 : Nat) (xs : List Int32) (h1 : r0 ≠ 1) (hr : ∀ r, r < 12 → r ≠ 1 → r ≠ r0 → rowY y' r = rowY y r) (hx : r0 < 12 → rowY y' r0 = xs) (hn : yn y' = yn y) (ht : ytg y' = ytg y) (hcf : ycf y' = ycf y) : RC y' (zrow z r0 xs) := by
  rw [RC_iff] at hC ⊢
  obtain ⟨a, b, c, e⟩ := hC
  refine ⟨fun r q1 q2 => ?_, ?_, ?_, ?_⟩
  · by_cases hq : r = r0
    · subst hq; rw [zrow_same, hx q1]
    · rw [zrow_ne hq, a r q1 q2, hr r q1 q2 hq]
  · rw [zrow_ne (Ne.symm h1), b, hn]
  · rw [ht]; exact c
  · rw [hcf]; exact e
/-- per change: array a at c -/
def yup (y : yT) (a c v : Nat) : yT := (y.1, va_up y.2.1 a (va_up (y.2.1 a) c v), y.2.2)
theorem rPut_range {n c : Nat} {f : Nat → Int32} {v : Int32} (hn : n ≤ 40) (hc : c < n) : rPut ((List.range n).map f) (nI c) v = (List.range n).map (fun j => if j = c then v else f j) := by
  unfold rPut
  rw [rHas_nI (by omega), List.length_map, List.length_range, if_pos (by simpa using hc), nI_clamp (by omega)]
  apply List.ext_getElem?
  intro i
  rw [List.getElem?_set, List.length_map, List.length_range, List.getElem?_map, List.getElem?_map]
  by_cases hi : i < n
  · rw [List.getElem?_range hi]
    by_cases hic : c = i
    · subst hic; simp [hc]
    · simp [hic, Ne.symm hic]
  · rw [List.getElem?_eq_none (by rw [List.length_range]; omega)]
    by_cases hic : c = i
    · omega
    · simp [hic]
theorem yup_row (hC : RC y z) (a r : Nat) {c v : Nat} (hn : yn y ≤ 40) (hc : c < yn y) (hr1 : r ≠ 1) (h1 : rowY y r = (List.range (yn y)).map (fun j => nI (y.2.1 a j))) (h2 : rowY (yup y a c v) r = (List.range (yn y)).map (fun j => nI (va_up (y.2.1 a) c v j))) (hr : ∀ q, q < 12 → q ≠ 1 → q ≠ r → rowY (yup y a c v) q = rowY y q) (hr12 : r < 12) : RC (yup y a c v) (zput z r (nI c) (nI v)) := by
  refine RC.upd hC r _ hr1 hr (fun _ => ?_) rfl rfl rfl
  rw [hC.row r hr12 hr1, h1, h2, rPut_range hn hc]
  apply List.map_congr_left
  intro j _
  unfold va_up
  by_cases e : j = c
  · simp [e]
  · simp [e]
theorem RC.pl (hC : RC y z) {c v : Nat} (hn : yn y ≤ 40) (hc : c < yn y) : RC (yup y 1 c v) (zput z 2 (nI c) (nI v)) :=
  yup_row hC 1 2 hn hc (by decide) rfl rfl (fun q q1 q2 q3 => by rcases (show q = 0 ∨ q = 2 ∨ q = 3 ∨ q = 4 ∨ q = 5 ∨ q = 6 ∨ q = 7 ∨ q = 8 ∨ q = 9 ∨ q = 10 ∨ q = 11 by omega) with rfl | rfl | rfl | rfl | rfl | rfl | rfl | rfl | rfl | rfl | rfl <;> first | rfl | exact absurd rfl q3) (by decide)
theorem RC.wy (hC : RC y z) {c v : Nat} (hn : yn y ≤ 40) (hc : c < yn y) : RC (yup y 2 c v) (zput z 3 (nI c) (nI v)) :=
  yup_row hC 2 3 hn hc (by decide) rfl rfl (fun q q1 q2 q3 => by rcases (show q = 0 ∨ q = 2 ∨ q = 3 ∨ q = 4 ∨ q = 5 ∨ q = 6 ∨ q = 7 ∨ q = 8 ∨ q = 9 ∨ q = 10 ∨ q = 11 by omega) with rfl | rfl | rfl | rfl | rfl | rfl | rfl | rfl | rfl | rfl | rfl <;> first | rfl | exact absurd rfl q3) (by decide)
theorem RC.ts (hC : RC y z) {c v : Nat} (hn : yn y ≤ 40) (hc : c < yn y) : RC (yup y 3 c v) (zput z 5 (nI c) (nI v)) :=
  yup_row hC 3 5 hn hc (by decide) rfl rfl (fun q q1 q2 q3 => by rcases (show q = 0 ∨ q = 2 ∨ q = 3 ∨ q = 4 ∨ q = 5 ∨ q = 6 ∨ q = 7 ∨ q = 8 ∨ q = 9 ∨ q = 10 ∨ q = 11 by omega) with rfl | rfl | rfl | rfl | rfl | rfl | rfl | rfl | rfl | rfl | rfl <;> first | rfl | exact absurd rfl q3) (by decide)
theorem RC.tn (hC : RC y z) {c v : Nat} (hn : yn y ≤ 40) (hc : c < yn y) : RC (yup y 4 c v) (zput z 4 (nI c) (nI v)) :=
  yup_row hC 4 4 hn hc (by decide) rfl rfl (fun q q1 q2 q3 => by rcases (show q = 0 ∨ q = 2 ∨ q = 3 ∨ q = 4 ∨ q = 5 ∨ q = 6 ∨ q = 7 ∨ q = 8 ∨ q = 9 ∨ q = 10 ∨ q = 11 by omega) with rfl | rfl | rfl | rfl | rfl | rfl | rfl | rfl | rfl | rfl | rfl <;> first | rfl | exact absurd rfl q3) (by decide)
/-- the lists -/
def ylst (y : yT) (i : Nat) (l : List Nat) : yT := (y.1, y.2.1, y.2.2.1, va_up y.2.2.2.1 i l, y.2.2.2.2)
theorem RC.Q (hC : RC y z) (l : List Nat) {xs : List Int32} (hx : xs = l.map nI) : RC (ylst y 0 l) (zrow z 6 xs) :=
  RC.upd hC 6 xs (by decide) (fun q q1 q2 q3 => by rcases (show q = 0 ∨ q = 2 ∨ q = 3 ∨ q = 4 ∨ q = 5 ∨ q = 6 ∨ q = 7 ∨ q = 8 ∨ q = 9 ∨ q = 10 ∨ q = 11 by omega) with rfl | rfl | rfl | rfl | rfl | rfl | rfl | rfl | rfl | rfl | rfl <;> first | rfl | exact absurd rfl q3) (fun _ => hx.symm) rfl rfl rfl
theorem RC.T (hC : RC y z) (l : List Nat) {xs : List Int32} (hx : xs = l.map nI) : RC (ylst y 1 l) (zrow z 7 xs) :=
  RC.upd hC 7 xs (by decide) (fun q q1 q2 q3 => by rcases (show q = 0 ∨ q = 2 ∨ q = 3 ∨ q = 4 ∨ q = 5 ∨ q = 6 ∨ q = 7 ∨ q = 8 ∨ q = 9 ∨ q = 10 ∨ q = 11 by omega) with rfl | rfl | rfl | rfl | rfl | rfl | rfl | rfl | rfl | rfl | rfl <;> first | rfl | exact absurd rfl q3) (fun _ => hx.symm) rfl rfl rfl
theorem map_erI {α β : Type} (f : α → β) (l : List α) (k : Nat) : (l.map f).eraseIdx k = (l.eraseIdx k).map f := by
  apply List.ext_getElem?
  intro i
  simp only [List.getElem?_eraseIdx, List.getElem?_map]
  split <;> rfl
theorem map_inI {α β : Type} (f : α → β) (l : List α) (k : Nat) (c : α) : (l.map f).insertIdx k (f c) = (l.insertIdx k c).map f := by
  apply List.ext_getElem?
  intro i
  simp only [List.getElem?_insertIdx, List.getElem?_map, List.length_map]
  split
  · rfl
  · split
    · split <;> rfl
    · rfl
theorem rRem_map {l : List Nat} {k : Nat} (hl : l.length ≤ 40) (hk : k < l.length) : rRem (l.map nI) (nI k) = (l.eraseIdx k).map nI := by
  unfold rRem
  rw [rHas_nI (by omega), List.length_map, if_pos (by simpa using hk), nI_clamp (by omega), map_erI]
theorem rIns_map {l : List Nat} {k c : Nat} (hl : l.length < 40) (hk : k ≤ l.length) : rIns (l.map nI) (nI k) (nI c) = (l.insertIdx k c).map nI := by
  unfold rIns
  rw [nI_clamp (by omega), List.length_map, if_neg (by rintro (h | h | h); exact nI_pos (by omega) h; omega; omega), map_inI]
theorem rFind_map {l : List Nat} {c : Nat} (hl : l.length ≤ 40) (hb : ∀ x ∈ l, x < 40) (hc : c ∈ l) : rFind (l.map nI) (nI c) = nI (l.idxOf c) := by
  have hi : l.idxOf c < l.length := List.idxOf_lt_length_iff.mpr hc
  refine rFind_some (by rw [List.length_map]; exact hi) ?_ ?_
  · rw [List.getD_eq_getElem?_getD, List.getElem?_map, List.getElem?_eq_getElem hi]
    simp
  · intro i h
    rw [List.getD_eq_getElem?_getD, List.getElem?_map, List.getElem?_eq_getElem (by omega)]
    simp only [Option.map_some, Option.getD_some]
    have h1 : l[i] < 40 := hb _ (List.getElem_mem _)
    have h2 : c < 40 := hb _ hc
    refine nI_ne (by omega) (by omega) ?_
    have := List.not_of_lt_findIdx (p := fun x => x == c) h
    simpa using this
end UP
