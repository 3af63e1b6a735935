/-! ROWS: a Row's contents as a list -/
def bI : Bool → Int32
  | true => 1
  | false => 0
theorem bI_0 {b : Bool} : bI b = 0 ↔ b = false := by cases b <;> decide
theorem bI_ok (b : Bool) : bI b = 0 ∨ bI b = 1 := by cases b <;> decide
def rw_ok (f : Nat → Int32) (xs : List Int32) : Prop := xs.length ≤ 40 ∧ ∀ i, i < xs.length → f i = xs.getD i (-1)
def rHas (xs : List Int32) (k : Int32) : Bool := !decide (k < 0) && decide (k.toNatClampNeg < xs.length)
def rAt (xs : List Int32) (k : Int32) : Int32 := if rHas xs k then xs.getD k.toNatClampNeg (-1) else -1
def rPut (xs : List Int32) (k v : Int32) : List Int32 := if rHas xs k then xs.set k.toNatClampNeg v else xs
def rIns (xs : List Int32) (k v : Int32) : List Int32 := if k < 0 ∨ xs.length < k.toNatClampNeg ∨ 40 ≤ xs.length then xs else xs.insertIdx k.toNatClampNeg v
def rRem (xs : List Int32) (k : Int32) : List Int32 := if rHas xs k then xs.eraseIdx k.toNatClampNeg else xs
def rFind (xs : List Int32) (v : Int32) : Int32 := match xs.findIdx? (fun x => x == v) with
  | some i => nI i
  | none => -1
theorem i_pos {k : Int32} (h : ¬ k < 0) : ∃ j : Nat, j < 2 ^ 31 ∧ k = nI j ∧ k.toNatClampNeg = j := by
  obtain ⟨j, h1, h2⟩ := nI_of h
  exact ⟨j, h1, h2, by rw [h2, nI_clamp h1]⟩
theorem rHas_t {xs : List Int32} {k : Int32} (h : rHas xs k = true) (hl : xs.length ≤ 40) : ∃ j : Nat, j < xs.length ∧ k = nI j ∧ k.toNatClampNeg = j ∧ ¬ k < 0 := by
  simp only [rHas, Bool.and_eq_true, Bool.not_eq_true', decide_eq_false_iff_not, decide_eq_true_eq] at h
  obtain ⟨j, h1, h2, h3⟩ := i_pos h.1
  exact ⟨j, by rw [← h3]; exact h.2, h2, h3, h.1⟩
theorem rHas_nI {xs : List Int32} {j : Nat} (hj : j < 2 ^ 31) : rHas xs (nI j) = decide (j < xs.length) := by
  unfold rHas
  rw [nI_clamp hj]
  simp [nI_pos hj]
theorem rAt_nI {xs : List Int32} {j : Nat} (hj : j < 2 ^ 31) : rAt xs (nI j) = xs.getD j (-1) := by
  unfold rAt
  rw [rHas_nI hj, nI_clamp hj]
  by_cases h : j < xs.length
  · simp [h]
  · simp [h]
theorem h_ne {h : ax_H} {i j : Nat} {e x : va_E} (hi : h[i]? = some x) (hne : j ≠ i) : (h.set j e)[i]? = some x := by
  rw [List.getElem?_set_ne hne]; exact hi
theorem h_eq {h : ax_H} {j : Nat} {e x : va_E} (hj : h[j]? = some x) : (h.set j e)[j]? = some e := by
  rw [List.getElem?_set_self (List.getElem?_eq_some_iff.mp hj).1]
theorem h_same {h : ax_H} {j : Nat} {e : va_E} (hj : h[j]? = some e) : h.set j e = h := by
  apply List.ext_getElem?
  intro i
  by_cases hi : j = i
  · subst hi
    rw [h_eq hj, hj]
  · rw [List.getElem?_set_ne hi]
theorem h_dif {h : ax_H} {i j : Nat} {a : Nat × List Value} {b : ClassId × vp_A} (hi : h[i]? = some (.inr a)) (hj : h[j]? = some (.inl b)) : j ≠ i := by
  intro e
  subst e
  rw [hi] at hj
  cases hj
theorem s_count {d i j : Nat} {h : ax_H} {n : Int32} (hi : h[i]? = some (.inr (2, [.ref j, .int n]))) : AM d kR_count 0 0 none [.ref i] h (fun r h' => r = some (.int n) ∧ h' = h) := by
  refine AX.aload_n rfl rfl ?_
  refine AX.getf rfl hi rfl ?_
  exact AX.ireturn rfl rfl ⟨rfl, rfl⟩ (Nat.le_refl _) (Nat.le_refl _)
theorem s_has {d i j : Nat} {h : ax_H} {f : Nat → Int32} {xs : List Int32} (k : Int32) (hi : h[i]? = some (.inr (2, [.ref j, .int (nI xs.length)]))) (hj : h[j]? = some (.inl (0, 40, .inl f))) (ok : rw_ok f xs) : AM d kR_has 0 0 none [.ref i, .int k] h (fun r h' => r = some (.int (bI (rHas xs k))) ∧ h' = h) := by
  obtain ⟨o1, o2⟩ := ok
  refine AX.iload_n rfl rfl ?_
  have no : ∀ q : rHas xs k = false, AX d kR_has 0 0 none 25 (lv_args 0 [.ref i, .int k]) [] h 0 0 (ax_ret kR_has 0 0 (fun r h' => r = some (.int (bI (rHas xs k))) ∧ h' = h)) := by
    intro q
    refine AX.iconstV (v := 0) rfl (by decide) ?_
    exact AX.zreturn rfl rfl (Or.inl rfl) ⟨by rw [q]; rfl, rfl⟩ (Nat.le_refl _) (Nat.le_refl _)
  refine AX.if_lt rfl (fun c => no (by simp [rHas, c])) (fun c => ?_)
  obtain ⟨m, hm1, hm2, hm3⟩ := i_pos c
  refine AX.iload_n rfl rfl ?_
  refine AX.aload_n rfl rfl ?_
  refine AX.getf rfl hi rfl ?_
  refine AX.icmp_ge rfl (fun c2 => no ?_) (fun c2 => ?_)
  · rw [hm2, nI_leI (by omega) hm1] at c2
    simp [rHas, hm3, c2]
  rw [hm2, nI_leI (by omega) hm1] at c2
  refine AX.iload_n rfl rfl ?_
  refine AX.aload_n rfl rfl ?_
  refine AX.getf rfl hi rfl ?_
  refine AX.alen rfl hj (by decide) ?_
  refine AX.icmp_ge rfl (fun c3 => ?_) (fun c3 => ?_)
  · exfalso
    have c4 : nI 40 ≤ k := c3
    rw [hm2, nI_leI (by decide) hm1] at c4
    omega
  refine AX.iconstV (v := 1) rfl (by decide) ?_
  refine AX.goto rfl ?_
  exact AX.zreturn rfl rfl (Or.inr rfl) ⟨by
    have : rHas xs k = true := by simp [rHas, c, hm3]; omega
    rw [this]; rfl, rfl⟩ (Nat.le_refl _) (Nat.le_refl _)
theorem s_at {d i j : Nat} {h : ax_H} {f : Nat → Int32} {xs : List Int32} (k : Int32) (hi : h[i]? = some (.inr (2, [.ref j, .int (nI xs.length)]))) (hj : h[j]? = some (.inl (0, 40, .inl f))) (ok : rw_ok f xs) : AM (d + 1) kR_at 0 0 none [.ref i, .int k] h (fun r h' => r = some (.int (rAt xs k)) ∧ h' = h) := by
  refine AX.aload_n rfl rfl ?_
  refine AX.iload_n rfl rfl ?_
  refine AX.cVI rfl rfl rfl hi (s_has k hi hj ok) (fun h' e => ?_)
  subst e
  refine AX.if_eq rfl (fun c => ?_) (fun c => ?_)
  · rw [bI_0] at c
    refine AX.iconstV (v := (-1)) rfl (by decide) ?_
    exact AX.ireturn rfl rfl ⟨by simp [rAt, c], rfl⟩ (Nat.le_refl _) (Nat.le_refl _)
  · have hh : rHas xs k = true := by
      cases hq : rHas xs k with
      | true => rfl
      | false => exact absurd (bI_0.mpr hq) c
    obtain ⟨m, m1, m2, m3, m4⟩ := rHas_t hh ok.1
    refine AX.aload_n rfl rfl ?_
    refine AX.getf rfl hi rfl ?_
    refine AX.iload_n rfl rfl ?_
    refine AX.iald rfl hj (by rw [m2]; exact vp_in_nI (by have := ok.1; omega) (by decide)) ?_
    refine AX.goto rfl ?_
    exact AX.ireturn rfl rfl ⟨by simp [rAt, hh, m3, ok.2 m m1], rfl⟩ (Nat.le_refl _) (Nat.le_refl _)
theorem rFind_some {xs : List Int32} {v : Int32} {m : Nat} (hm : m < xs.length) (he : xs.getD m (-1) = v) (hb : ∀ i, i < m → xs.getD i (-1) ≠ v) : rFind xs v = nI m := by
  unfold rFind
  have : xs.findIdx? (fun x => x == v) = some m := by
    rw [List.findIdx?_eq_some_iff_getElem]
    refine ⟨hm, ?_, ?_⟩
    · rw [List.getD_eq_getElem?_getD, List.getElem?_eq_getElem hm] at he
      simpa using he
    · intro j hj
      have h1 := hb j hj
      rw [List.getD_eq_getElem?_getD, List.getElem?_eq_getElem (by omega)] at h1
      simpa using h1
  rw [this]
theorem rFind_none {xs : List Int32} {v : Int32} (hb : ∀ i, i < xs.length → xs.getD i (-1) ≠ v) : rFind xs v = -1 := by
  unfold rFind
  have : xs.findIdx? (fun x => x == v) = none := by
    rw [List.findIdx?_eq_none_iff]
    intro x hx
    obtain ⟨i, hi⟩ := List.getElem?_of_mem hx
    have hl := (List.getElem?_eq_some_iff.mp hi).1
    have h1 := hb i hl
    rw [List.getD_eq_getElem?_getD, hi] at h1
    simpa using h1
  rw [this]
theorem s_find_loop {d i j : Nat} {h : ax_H} {f : Nat → Int32} {xs : List Int32} (v : Int32) (hi : h[i]? = some (.inr (2, [.ref j, .int (nI xs.length)]))) (hj : h[j]? = some (.inl (0, 40, .inl f))) (ok : rw_ok f xs) : ∀ (n m : Nat) (lv : ax_L), xs.length = m + n → (∀ i, i < m → xs.getD i (-1) ≠ v) → ax_get lv 0 = some (.ref i) → ax_get lv 1 = some (.int v) → ax_get lv 2 = some (.int (nI m)) →
    AX (d + 2) kR_find 0 0 none 2 lv [] h 0 0 (ax_ret kR_find 0 0 (fun r h' => r = some (.int (rFind xs v)) ∧ h' = h)) := by
  have o1 := ok.1
  intro n
  induction n with
  | zero =>
    intro m lv hn hb l0 l1 l2
    refine AX.iload_n rfl l2 ?_
    refine AX.aload_n rfl l0 ?_
    refine AX.getf rfl hi rfl ?_
    refine AX.icmp_ge rfl (fun _ => ?_) (fun c => ?_)
    · refine AX.iconstV (v := -1) rfl (by decide) ?_
      exact AX.ireturn rfl rfl ⟨by rw [rFind_none (by rw [hn]; exact hb)], rfl⟩ (Nat.le_refl _) (Nat.le_refl _)
    · exact absurd (nI_le (by omega) (by omega)) c
  | succ n ih =>
    intro m lv hn hb l0 l1 l2
    refine AX.iload_n rfl l2 ?_
    refine AX.aload_n rfl l0 ?_
    refine AX.getf rfl hi rfl ?_
    refine AX.icmp_ge rfl (fun c => ?_) (fun _ => ?_)
    · exact absurd c (nI_ge (by omega) (by omega))
    refine AX.aload_n rfl l0 ?_
    refine AX.iload_n rfl l2 ?_
    refine AX.cVI rfl rfl rfl hi (s_at (nI m) hi hj ok) (fun h' e => ?_)
    subst e
    rw [rAt_nI (by omega)]
    refine AX.iload_n rfl l1 ?_
    refine AX.icmp_ne rfl (fun c => ?_) (fun c => ?_)
    · refine AX.iincV (dn := 1) rfl l2 (by decide) (by decide) ?_
      refine AX.goto rfl ?_
      refine ih (m + 1) _ (by omega) ?_ ?_ ?_ ?_
      · intro i hi'
        by_cases e : i = m
        · subst e; exact c
        · exact hb i (by omega)
      · exact ax_get_put_ne (by decide) l0 rfl
      · exact ax_get_put_ne (by decide) l1 rfl
      · rw [ax_get_put, nI_1]
    · refine AX.iload_n rfl l2 ?_
      exact AX.ireturn rfl rfl ⟨by rw [rFind_some (by omega) c hb], rfl⟩ (Nat.le_refl _) (Nat.le_refl _)
theorem s_find {d i j : Nat} {h : ax_H} {f : Nat → Int32} {xs : List Int32} (v : Int32) (hi : h[i]? = some (.inr (2, [.ref j, .int (nI xs.length)]))) (hj : h[j]? = some (.inl (0, 40, .inl f))) (ok : rw_ok f xs) : AM (d + 2) kR_find 0 0 none [.ref i, .int v] h (fun r h' => r = some (.int (rFind xs v)) ∧ h' = h) := by
  refine AX.iconstV (v := 0) rfl (by decide) ?_
  refine AX.istore_n rfl (by decide) ?_
  exact s_find_loop v hi hj ok xs.length 0 _ (by omega) (fun i hi' => by omega) rfl rfl rfl
theorem s_put {d i j : Nat} {h : ax_H} {f : Nat → Int32} {xs : List Int32} (k v : Int32) (hi : h[i]? = some (.inr (2, [.ref j, .int (nI xs.length)]))) (hj : h[j]? = some (.inl (0, 40, .inl f))) (ok : rw_ok f xs) : AM (d + 1) kR_put 0 0 none [.ref i, .int k, .int v] h (fun r h' => r = none ∧ ∃ f', rw_ok f' (rPut xs k v) ∧ h' = (h.set j (.inl (0, 40, .inl f'))).set i (.inr (2, [.ref j, .int (nI (rPut xs k v).length)]))) := by
  have hne := h_dif hi hj
  refine AX.aload_n rfl rfl ?_
  refine AX.iload_n rfl rfl ?_
  refine AX.cVI rfl rfl rfl hi (s_has k hi hj ok) (fun h' e => ?_)
  subst e
  refine AX.if_eq rfl (fun c => ?_) (fun c => ?_)
  · rw [bI_0] at c
    have e : rPut xs k v = xs := by simp [rPut, c]
    refine AX.vreturn rfl rfl ⟨rfl, f, by rw [e]; exact ok, ?_⟩ (Nat.le_refl _) (Nat.le_refl _)
    rw [e, h_same hj, h_same hi]
  · have hh : rHas xs k = true := by
      cases hq : rHas xs k with
      | true => rfl
      | false => exact absurd (bI_0.mpr hq) c
    obtain ⟨m, m1, m2, m3, m4⟩ := rHas_t hh ok.1
    have e : rPut xs k v = xs.set m v := by simp [rPut, hh, m3]
    refine AX.aload_n rfl rfl ?_
    refine AX.getf rfl hi rfl ?_
    refine AX.iload_n rfl rfl ?_
    refine AX.iload_n rfl rfl ?_
    refine AX.iast rfl hj (by rw [m2]; exact vp_in_nI (by have := ok.1; omega) (by decide)) ?_
    refine AX.vreturn rfl rfl ⟨rfl, upd f k.toNatClampNeg v, ?_, ?_⟩ (Nat.le_refl _) (Nat.le_refl _)
    · rw [e, m3]
      refine ⟨by rw [List.length_set]; exact ok.1, fun q hq => ?_⟩
      rw [List.length_set] at hq
      rw [List.getD_eq_getElem?_getD, List.getElem?_set]
      by_cases hqm : m = q
      · subst hqm
        simp [pk_us, m1]
      · rw [pk_un (fun z => hqm z.symm), if_neg hqm, ok.2 q hq, List.getD_eq_getElem?_getD]
    · rw [e, List.length_set]
      rw [h_same (h_ne hi hne)]
theorem ins_ok {f : Nat → Int32} {xs : List Int32} {m : Nat} {v : Int32} (ok : rw_ok f xs) (hm : m ≤ xs.length) (hl : xs.length < 40) : rw_ok (upd (va_cpy f f m (m + 1) (xs.length - m)) m v) (xs.insertIdx m v) := by
  have hlen : (xs.insertIdx m v).length = xs.length + 1 := by rw [List.length_insertIdx, if_pos hm]
  refine ⟨by omega, fun q hq => ?_⟩
  rw [hlen] at hq
  rw [List.getD_eq_getElem?_getD, List.getElem?_insertIdx]
  by_cases h1 : q < m
  · rw [if_pos h1, pk_un (by omega), pk_cpy_out (by omega), ok.2 q (by omega), List.getD_eq_getElem?_getD]
  · rw [if_neg h1]
    by_cases h2 : q = m
    · subst h2
      rw [if_pos rfl, if_pos hm, pk_us]
      rfl
    · rw [if_neg h2, pk_un h2, pk_cpy_in (by omega) (by omega), show m + (q - (m + 1)) = q - 1 by omega, ok.2 (q - 1) (by omega), List.getD_eq_getElem?_getD]
theorem rem_ok {f : Nat → Int32} {xs : List Int32} {m : Nat} (ok : rw_ok f xs) (hm : m < xs.length) : rw_ok (va_cpy f f (m + 1) m (xs.length - m - 1)) (xs.eraseIdx m) := by
  have hlen : (xs.eraseIdx m).length = xs.length - 1 := by rw [List.length_eraseIdx, if_pos hm]
  have := ok.1
  refine ⟨by omega, fun q hq => ?_⟩
  rw [hlen] at hq
  rw [List.getD_eq_getElem?_getD, List.getElem?_eraseIdx]
  by_cases h1 : q < m
  · rw [if_pos h1, pk_cpy_out (by omega), ok.2 q (by omega), List.getD_eq_getElem?_getD]
  · rw [if_neg h1, pk_cpy_in (by omega) (by omega), show m + 1 + (q - m) = q + 1 by omega, ok.2 (q + 1) (by omega), List.getD_eq_getElem?_getD]
theorem s_insert {d i j : Nat} {h : ax_H} {f : Nat → Int32} {xs : List Int32} (k v : Int32) (hi : h[i]? = some (.inr (2, [.ref j, .int (nI xs.length)]))) (hj : h[j]? = some (.inl (0, 40, .inl f))) (ok : rw_ok f xs) : AM (d + 1) kR_insert 0 0 none [.ref i, .int k, .int v] h (fun r h' => r = none ∧ ∃ f', rw_ok f' (rIns xs k v) ∧ h' = (h.set j (.inl (0, 40, .inl f'))).set i (.inr (2, [.ref j, .int (nI (rIns xs k v).length)]))) := by
  have hne := h_dif hi hj
  have o1 := ok.1
  have no : rIns xs k v = xs → AX (d + 1) kR_insert 0 0 none 24 (lv_args 0 [.ref i, .int k, .int v]) [] h 0 0 (ax_ret kR_insert 0 0 (fun r h' => r = none ∧ ∃ f', rw_ok f' (rIns xs k v) ∧ h' = (h.set j (.inl (0, 40, .inl f'))).set i (.inr (2, [.ref j, .int (nI (rIns xs k v).length)])))) := by
    intro e
    refine AX.vreturn rfl rfl ⟨rfl, f, by rw [e]; exact ok, ?_⟩ (Nat.le_refl _) (Nat.le_refl _)
    rw [e, h_same hj, h_same hi]
  refine AX.iload_n rfl rfl ?_
  refine AX.if_lt rfl (fun c => no (by simp [rIns, c])) (fun c => ?_)
  obtain ⟨m, m1, m2, m3⟩ := i_pos c
  refine AX.iload_n rfl rfl ?_
  refine AX.aload_n rfl rfl ?_
  refine AX.getf rfl hi rfl ?_
  refine AX.icmp_gt rfl (fun c2 => no ?_) (fun c2 => ?_)
  · rw [m2, nI_ltI (by omega) m1] at c2
    simp [rIns, m3, c2]
  rw [m2, nI_ltI (by omega) m1] at c2
  refine AX.aload_n rfl rfl ?_
  refine AX.getf rfl hi rfl ?_
  refine AX.aload_n rfl rfl ?_
  refine AX.getf rfl hi rfl ?_
  refine AX.alen rfl hj (by decide) ?_
  refine AX.icmp_lt rfl (fun c3 => ?_) (fun c3 => no ?_)
  · have c4 : nI xs.length < nI 40 := c3
    rw [nI_ltI (by omega) (by decide)] at c4
    refine AX.aload_n rfl rfl ?_
    refine AX.getf rfl hi rfl ?_
    refine AX.iload_n rfl rfl ?_
    refine AX.aload_n rfl rfl ?_
    refine AX.getf rfl hi rfl ?_
    refine AX.iload_n rfl rfl ?_
    refine AX.iconstV (v := 1) rfl (by decide) ?_
    refine AX.iadd rfl ?_
    refine AX.aload_n rfl rfl ?_
    refine AX.getf rfl hi rfl ?_
    refine AX.iload_n rfl rfl ?_
    refine AX.isub rfl ?_
    have e1 : k + 1 = nI (m + 1) := by rw [m2, nI_1]
    have e2 : nI xs.length - k = nI (xs.length - m) := by rw [m2, pk_sub (by omega)]
    rw [e1, e2]
    refine AX.acopy rfl (Nat.le_of_ble_eq_true rfl) hj hj c (nI_pos (by omega)) (nI_pos (by omega)) (by rw [m3, nI_clamp (by omega)]; omega) (by rw [nI_clamp (by omega), nI_clamp (by omega)]; omega) ?_
    rw [m3, nI_clamp (by omega), nI_clamp (by omega)]
    refine AX.aload_n rfl rfl ?_
    refine AX.getf rfl (h_ne hi hne) rfl ?_
    refine AX.iload_n rfl rfl ?_
    refine AX.iload_n rfl rfl ?_
    refine AX.iast rfl (h_eq hj) (by rw [m2]; exact vp_in_nI (by omega) (by decide)) ?_
    rw [m3, List.set_set]
    refine AX.aload_n rfl rfl ?_
    refine AX.dup rfl rfl ?_
    refine AX.getf rfl (h_ne hi hne) rfl ?_
    refine AX.iconstV (v := 1) rfl (by decide) ?_
    refine AX.iadd rfl ?_
    refine AX.putf rfl (h_ne hi hne) (Nat.le_of_ble_eq_true rfl) rfl ?_
    have e3 : rIns xs k v = xs.insertIdx m v := by
      have : ¬ (k < 0 ∨ xs.length < k.toNatClampNeg ∨ 40 ≤ xs.length) := by rw [m3]; intro q; rcases q with q | q | q; exact c q; omega; omega
      rw [rIns, if_neg this, m3]
    refine AX.vreturn rfl rfl ⟨rfl, _, by rw [e3]; exact ins_ok ok (by omega) (by omega), ?_⟩ (Nat.le_refl _) (Nat.le_refl _)
    rw [e3, List.length_insertIdx, if_pos (by omega), ← nI_1]
    rfl
  · have c4 : ¬ nI xs.length < nI 40 := c3
    rw [nI_ltI (by omega) (by decide)] at c4
    have : 40 ≤ xs.length := by omega
    simp [rIns, this]
theorem s_append {d i j : Nat} {h : ax_H} {f : Nat → Int32} {xs : List Int32} (v : Int32) (hi : h[i]? = some (.inr (2, [.ref j, .int (nI xs.length)]))) (hj : h[j]? = some (.inl (0, 40, .inl f))) (ok : rw_ok f xs) : AM (d + 2) kR_append 0 0 none [.ref i, .int v] h (fun r h' => r = none ∧ ∃ f', rw_ok f' (rIns xs (nI xs.length) v) ∧ h' = (h.set j (.inl (0, 40, .inl f'))).set i (.inr (2, [.ref j, .int (nI (rIns xs (nI xs.length) v).length)]))) := by
  refine AX.aload_n rfl rfl ?_
  refine AX.aload_n rfl rfl ?_
  refine AX.getf rfl hi rfl ?_
  refine AX.iload_n rfl rfl ?_
  refine AX.cVV rfl rfl rfl hi (s_insert (nI xs.length) v hi hj ok) (fun h' e => ?_)
  exact AX.vreturn rfl rfl ⟨rfl, e⟩ (Nat.le_refl _) (Nat.le_refl _)
theorem s_removeAt {d i j : Nat} {h : ax_H} {f : Nat → Int32} {xs : List Int32} (k : Int32) (hi : h[i]? = some (.inr (2, [.ref j, .int (nI xs.length)]))) (hj : h[j]? = some (.inl (0, 40, .inl f))) (ok : rw_ok f xs) : AM (d + 1) kR_removeAt 0 0 none [.ref i, .int k] h (fun r h' => r = none ∧ ∃ f', rw_ok f' (rRem xs k) ∧ h' = (h.set j (.inl (0, 40, .inl f'))).set i (.inr (2, [.ref j, .int (nI (rRem xs k).length)]))) := by
  have hne := h_dif hi hj
  have o1 := ok.1
  refine AX.aload_n rfl rfl ?_
  refine AX.iload_n rfl rfl ?_
  refine AX.cVI rfl rfl rfl hi (s_has k hi hj ok) (fun h' e => ?_)
  subst e
  refine AX.if_ne rfl (fun c => ?_) (fun c => ?_)
  · have hh : rHas xs k = true := by
      cases hq : rHas xs k with
      | true => rfl
      | false => exact absurd (bI_0.mpr hq) c
    obtain ⟨m, m1, m2, m3, m4⟩ := rHas_t hh ok.1
    refine AX.aload_n rfl rfl ?_
    refine AX.getf rfl hi rfl ?_
    refine AX.iload_n rfl rfl ?_
    refine AX.iconstV (v := 1) rfl (by decide) ?_
    refine AX.iadd rfl ?_
    refine AX.aload_n rfl rfl ?_
    refine AX.getf rfl hi rfl ?_
    refine AX.iload_n rfl rfl ?_
    refine AX.aload_n rfl rfl ?_
    refine AX.getf rfl hi rfl ?_
    refine AX.iload_n rfl rfl ?_
    refine AX.isub rfl ?_
    refine AX.iconstV (v := 1) rfl (by decide) ?_
    refine AX.isub rfl ?_
    have e1 : k + 1 = nI (m + 1) := by rw [m2, nI_1]
    have e2 : nI xs.length - k - 1 = nI (xs.length - m - 1) := by
      rw [m2, pk_sub (by omega), show (1 : Int32) = nI 1 from rfl, pk_sub (by omega)]
    rw [e1, e2]
    refine AX.acopy rfl (Nat.le_of_ble_eq_true rfl) hj hj (nI_pos (by omega)) m4 (nI_pos (by omega)) (by rw [nI_clamp (by omega), nI_clamp (by omega)]; omega) (by rw [m3, nI_clamp (by omega)]; omega) ?_
    rw [m3, nI_clamp (by omega), nI_clamp (by omega)]
    refine AX.aload_n rfl rfl ?_
    refine AX.dup rfl rfl ?_
    refine AX.getf rfl (h_ne hi hne) rfl ?_
    refine AX.iconstV (v := 1) rfl (by decide) ?_
    refine AX.isub rfl ?_
    refine AX.putf rfl (h_ne hi hne) (Nat.le_of_ble_eq_true rfl) rfl ?_
    have e3 : rRem xs k = xs.eraseIdx m := by simp [rRem, hh, m3]
    refine AX.vreturn rfl rfl ⟨rfl, _, by rw [e3]; exact rem_ok ok m1, ?_⟩ (Nat.le_refl _) (Nat.le_refl _)
    rw [e3, List.length_eraseIdx, if_pos m1, ← pk_sub (show 1 ≤ xs.length by omega)]
    rfl
  · rw [bI_0] at c
    have e : rRem xs k = xs := by simp [rRem, c]
    refine AX.vreturn rfl rfl ⟨rfl, f, by rw [e]; exact ok, ?_⟩ (Nat.le_refl _) (Nat.le_refl _)
    rw [e, h_same hj, h_same hi]
