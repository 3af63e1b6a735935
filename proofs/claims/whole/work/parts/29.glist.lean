/-! GROUPS as lists: where a group's stretch lies, a member goes -/
section GL
variable {t : mS}
theorem gL_cons (g : gT) (G : List gT) : gL (g :: G) = g.1 ++ gL G := by simp [gL]
theorem gF_cons (g : gT) (G : List gT) : gF (g :: G) = gF1 g.1 ++ gF G := by simp [gF]
theorem gNe_tl {g : gT} {G : List gT} (h : gNe (g :: G)) : gNe G := fun q hq => h q (List.mem_cons_of_mem _ hq)
theorem gL_drop : ∀ (G : List gT) (i : Nat), (gL G).drop (gB G i) = gL (G.drop i) := by
  intro G
  induction G with
  | nil => intro i; simp [gL]
  | cons g G ih =>
    intro i
    cases i with
    | zero => rfl
    | succ i =>
      rw [gB_s, gL_cons, List.drop_append, List.drop_eq_nil_of_le (by omega), List.nil_append, show g.1.length + gB G i - g.1.length = gB G i by omega, ih]
      rfl
theorem gF_drop : ∀ (G : List gT) (i : Nat), (gF G).drop (gB G i) = gF (G.drop i) := by
  intro G
  induction G with
  | nil => intro i; simp [gF]
  | cons g G ih =>
    intro i
    cases i with
    | zero => rfl
    | succ i =>
      rw [gB_s, gF_cons, List.drop_append, List.drop_eq_nil_of_le (by rw [gF1_len]; omega), List.nil_append, gF1_len, show g.1.length + gB G i - g.1.length = gB G i by omega, ih]
      rfl
theorem gL_take : ∀ (G : List gT) (i : Nat), (gL G).take (gB G i) = gL (G.take i) := by
  intro G
  induction G with
  | nil => intro i; simp [gL]
  | cons g G ih =>
    intro i
    cases i with
    | zero => rfl
    | succ i =>
      rw [gB_s, gL_cons, List.take_append, List.take_of_length_le (by omega), show g.1.length + gB G i - g.1.length = gB G i by omega, ih]
      simp [gL]
/-- a member goes: its group without it, or no group -/
def gRm (G : List gT) (i j : Nat) : List gT := if ((G.getD i g0).1.eraseIdx j) = [] then G.eraseIdx i else G.set i ((G.getD i g0).1.eraseIdx j, (G.getD i g0).2)
theorem gRm_s (g : gT) (G : List gT) (i j : Nat) : gRm (g :: G) (i + 1) j = g :: gRm G i j := by
  unfold gRm
  simp only [List.getD_cons_succ]
  split <;> simp
theorem gRm_L : ∀ (G : List gT) (i j : Nat), i < G.length → j < (G.getD i g0).1.length → gL (gRm G i j) = (gL G).eraseIdx (gB G i + j) := by
  intro G
  induction G with
  | nil => intro i j h; simp at h
  | cons g G ih =>
    intro i j hi hj
    cases i with
    | zero =>
      simp only [List.getD_cons_zero] at hj
      rw [gB_0, Nat.zero_add, gL_cons, List.eraseIdx_append_of_lt_length hj]
      unfold gRm
      simp only [List.getD_cons_zero]
      split
      · rename_i h; rw [h]; simp
      · simp [gL]
    | succ i =>
      simp only [List.getD_cons_succ] at hj
      rw [gRm_s, gL_cons, ih i j (by simpa using hi) hj, gB_s, gL_cons, Nat.add_assoc, List.eraseIdx_append_of_length_le (by omega), show g.1.length + (gB G i + j) - g.1.length = gB G i + j by omega]
def goB (B : List Bool) (a : Nat) : List Bool := if B.getD a false = true ∧ (a + 1 < B.length ∧ B.getD (a + 1) false = false) then (B.eraseIdx a).set a true else B.eraseIdx a
theorem goB_app (A B : List Bool) (a : Nat) : goB (A ++ B) (A.length + a) = A ++ goB B a := by
  unfold goB
  have e1 : (A ++ B).getD (A.length + a) false = B.getD a false := by
    rw [List.getD_eq_getElem?_getD, List.getElem?_append_right (by omega), Nat.add_sub_cancel_left, ← List.getD_eq_getElem?_getD]
  have e2 : (A ++ B).getD (A.length + a + 1) false = B.getD (a + 1) false := by
    rw [List.getD_eq_getElem?_getD, List.getElem?_append_right (by omega), show A.length + a + 1 - A.length = a + 1 by omega, ← List.getD_eq_getElem?_getD]
  have e3 : (A.length + a + 1 < (A ++ B).length) = (a + 1 < B.length) := by
    rw [List.length_append]; apply propext; omega
  have e4 : (A ++ B).eraseIdx (A.length + a) = A ++ B.eraseIdx a := by
    rw [List.eraseIdx_append_of_length_le (by omega), Nat.add_sub_cancel_left]
  simp only [e1, e2, e3, e4]
  split
  · rw [List.set_append_right _ _ (by omega), Nat.add_sub_cancel_left]
  · rfl
theorem gF_hd {G : List gT} (hn : gNe G) : gF G = [] ∨ (gF G).getD 0 false = true := by
  cases G with
  | nil => exact Or.inl rfl
  | cons g G =>
    right
    have hne : g.1 ≠ [] := hn g List.mem_cons_self
    rw [gF_cons]
    cases h : g.1 with
    | nil => exact absurd h hne
    | cons c r => rfl
theorem gRm_F : ∀ (G : List gT) (i j : Nat), gNe G → i < G.length → j < (G.getD i g0).1.length → gF (gRm G i j) = goB (gF G) (gB G i + j) := by
  intro G
  induction G with
  | nil => intro i j _ h; simp at h
  | cons g G ih =>
    intro i j hn hi hj
    cases i with
    | zero =>
      simp only [List.getD_cons_zero] at hj
      rw [gB_0, Nat.zero_add, gF_cons]
      have hh := gF_hd (gNe_tl hn)
      unfold gRm
      simp only [List.getD_cons_zero, List.eraseIdx_zero, List.tail_cons, List.set_cons_zero]
      obtain ⟨c, r, hr⟩ : ∃ c r, g.1 = c :: r := by
        cases h : g.1 with
        | nil => rw [h] at hj; simp at hj
        | cons c r => exact ⟨c, r, rfl⟩
      rw [hr] at hj ⊢
      cases j with
      | zero =>
        simp only [List.eraseIdx_zero, List.tail_cons]
        cases r with
        | nil =>
          rw [if_pos rfl]
          unfold goB
          rw [if_neg]
          · simp [gF1]
          · rintro ⟨-, h2, h3⟩
            rcases hh with h4 | h4
            · rw [h4] at h2; simp [gF1] at h2
            · have : (gF1 [c] ++ gF G).getD (0 + 1) false = (gF G).getD 0 false := by simp [gF1]
              rw [this, h4] at h3
              cases h3
        | cons c2 r =>
          rw [if_neg (by simp), gF_cons]
          unfold goB
          rw [if_pos]
          · simp [gF1]
          · refine ⟨rfl, ?_, rfl⟩
            simp [gF1]
      | succ j =>
        rw [if_neg (show ¬ (c :: r).eraseIdx (j + 1) = [] by simp), gF_cons]
        unfold goB
        have hjr : j < r.length := by simpa using hj
        rw [if_neg]
        · simp only [List.eraseIdx_cons_succ, gF1, List.cons_append]
          rw [List.eraseIdx_append_of_lt_length (by rw [List.length_map]; exact hjr), map_erI]
        · rintro ⟨h1, -⟩
          simp only [gF1, List.cons_append, List.getD_cons_succ] at h1
          rw [List.getD_eq_getElem?_getD, List.getElem?_append_left (by rw [List.length_map]; exact hjr), List.getElem?_map, List.getElem?_eq_getElem hjr] at h1
          cases h1
    | succ i =>
      simp only [List.getD_cons_succ] at hj
      rw [gRm_s, gF_cons, ih i j (gNe_tl hn) (by simpa using hi) hj, gB_s, gF_cons, ← goB_app, gF1_len, Nat.add_assoc]
theorem nd_inj {l : List Nat} (hn : l.Nodup) {i j : Nat} (hi : i < l.length) (hj : j < l.length) (e : l[i] = l[j]) : i = j := by
  rw [List.nodup_iff_pairwise_ne, List.pairwise_iff_getElem] at hn
  rcases Nat.lt_trichotomy i j with h | h | h
  · exact absurd e (hn i j hi hj h)
  · exact h
  · exact absurd e.symm (hn j i hj hi h)
theorem LaneOk.go {L : List Nat} {B : List Bool} (hL : LaneOk t L B) (hn : L.Nodup) {a : Nat} (ha : a < L.length) : LaneOk (mGo t L B a) (L.eraseIdx a) (goB B a) := by
  obtain ⟨h6, h40, hB, h2⟩ := hL
  have hlen : (L.eraseIdx a).length = L.length - 1 := by rw [List.length_eraseIdx, if_pos ha]
  have hblen : (goB B a).length = L.length - 1 := by
    unfold goB
    split
    · rw [List.length_set, List.length_eraseIdx, if_pos (by omega), hB]
    · rw [List.length_eraseIdx, if_pos (by omega), hB]
  have ndx : ∀ i j, i < L.length → j < L.length → L.getD i 0 = L.getD j 0 → i = j := by
    intro i j hi hj e
    rw [List.getD_eq_getElem?_getD, List.getElem?_eq_getElem hi, List.getD_eq_getElem?_getD, List.getElem?_eq_getElem hj] at e
    exact nd_inj hn hi hj (by simpa using e)
  have m7 : ∀ i, (mGo t L B a).2 7 i = va_cpy (t.2 7) (t.2 7) (a + 1) a (L.length - 1 - a) i := fun i => rfl
  have m9 : (mGo t L B a).2 9 = (mGo1 t L B a).2 9 := rfl
  have cond : (B.getD a false = true ∧ mMore L B a = true) ↔ (B.getD a false = true ∧ (a + 1 < B.length ∧ B.getD (a + 1) false = false)) := by
    unfold mMore
    rw [hB]
    simp
  refine ⟨?_, by omega, by rw [hblen, hlen], ?_⟩
  · show t.1 6 - 1 = _
    rw [h6, hlen, show (1 : Int32) = nI 1 from rfl, pk_sub (by omega)]
  · intro i hi
    rw [hlen] at hi
    have eL : (L.eraseIdx a).getD i 0 = if i < a then L.getD i 0 else L.getD (i + 1) 0 := by
      rw [List.getD_eq_getElem?_getD, List.getElem?_eraseIdx]
      split <;> rw [List.getD_eq_getElem?_getD]
    have eB : (B.eraseIdx a).getD i false = if i < a then B.getD i false else B.getD (i + 1) false := by
      rw [List.getD_eq_getElem?_getD, List.getElem?_eraseIdx]
      split <;> rw [List.getD_eq_getElem?_getD]
    rw [m7, m9, eL]
    by_cases hia : i < a
    · rw [if_pos hia, pk_cpy_out (by omega)]
      obtain ⟨q1, q2, q3⟩ := h2 i (by omega)
      refine ⟨q1, q2, ?_⟩
      unfold mGo1 goB
      by_cases hc : B.getD a false = true ∧ mMore L B a = true
      · rw [if_pos hc, if_pos (cond.mp hc)]
        have hlt := (cond.mp hc).2.1
        rw [marr_k (fun e => by have := ndx i (a + 1) (by omega) (by omega) e; omega), q3]
        rw [List.getD_eq_getElem?_getD (l := (B.eraseIdx a).set a true), List.getElem?_set_ne (by omega), ← List.getD_eq_getElem?_getD, eB, if_pos hia]
      · rw [if_neg hc, if_neg (fun q => hc (cond.mpr q)), q3, eB, if_pos hia]
    · rw [if_neg hia, pk_cpy_in (by omega) (by omega), show a + 1 + (i - a) = i + 1 by omega]
      obtain ⟨q1, q2, q3⟩ := h2 (i + 1) (by omega)
      refine ⟨q1, q2, ?_⟩
      unfold mGo1 goB
      by_cases hc : B.getD a false = true ∧ mMore L B a = true
      · rw [if_pos hc, if_pos (cond.mp hc)]
        by_cases e : i = a
        · subst e
          rw [marr_eq, List.getD_eq_getElem?_getD, List.getElem?_set_self (by rw [List.length_eraseIdx, if_pos (by omega)]; omega)]
          rfl
        · rw [marr_k (fun e2 => by have := ndx (i + 1) (a + 1) (by omega) (by omega) e2; omega), q3]
          rw [List.getD_eq_getElem?_getD (l := (B.eraseIdx a).set a true), List.getElem?_set_ne (fun q => e q.symm), ← List.getD_eq_getElem?_getD, eB, if_neg hia]
      · rw [if_neg hc, if_neg (fun q => hc (cond.mpr q)), q3, eB, if_neg hia]
end GL
