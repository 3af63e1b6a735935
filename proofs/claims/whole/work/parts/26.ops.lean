/-! SINGLE CHANGES: pause, change, jump, leaving the queue, conflict -/
section OP
variable {y : yT} {z : zS} {t : mS} {p : ax_H} {h : ax_H} {d : Nat}
def INV (y : yT) (z : zS) (t : mS) : Prop := WF y ∧ RC y z ∧ RM y t ∧ RS y z t
theorem marr_eq (t : mS) (a k : Nat) (v : Int32) : (marr t a k v).2 a k = v := by simp [marr, va_up, upd]
theorem marr_k {t : mS} {a k j : Nat} {v : Int32} (h : j ≠ k) : (marr t a k v).2 a j = t.2 a j := by simp [marr, va_up, upd, h]
theorem marr_o {t : mS} {a b k : Nat} {v : Int32} (h : b ≠ a) : (marr t a k v).2 b = t.2 b := by simp [marr, va_up, h]
theorem RM.pl (hR : RM y t) {c v : Nat} : RM (yup y 1 c v) (marr t 2 c (nI v)) := by
  obtain ⟨r1, r2, r3, r4, r5, r6, r7⟩ := hR
  refine ⟨r1, r2.cong rfl rfl rfl, r3, r4, ?_, r6, r7⟩
  intro j hj
  obtain ⟨a, b, e, f, g⟩ := r5 j hj
  refine ⟨a, ?_, e, f, g⟩
  show (marr t 2 c (nI v)).2 2 j = nI (va_up (y.2.1 1) c v j)
  unfold va_up
  by_cases hjc : j = c
  · subst hjc; rw [marr_eq, if_pos rfl]
  · rw [marr_k hjc, if_neg hjc]; exact b
theorem RM.wy (hR : RM y t) {c v : Nat} (hc : c < yn y) : RM (yup y 2 c v) (marr t 4 c (nI v)) := by
  obtain ⟨r1, r2, r3, r4, r5, r6, r7⟩ := hR
  refine ⟨r1, r2.cong rfl rfl rfl, r3, r4, ?_, ?_, r7⟩
  · intro j hj
    obtain ⟨a, b, e, f, g⟩ := r5 j hj
    refine ⟨a, b, ?_, f, g⟩
    show (marr t 4 c (nI v)).2 4 j = nI (va_up (y.2.1 2) c v j)
    unfold va_up
    by_cases hjc : j = c
    · subst hjc; rw [marr_eq, if_pos rfl]
    · rw [marr_k hjc, if_neg hjc]; exact e
  · intro j h1 h2
    obtain ⟨a, b, e⟩ := r6 j h1 h2
    have h3 : yn y ≤ j := h1
    exact ⟨a, by rw [marr_k (by omega)]; exact b, e⟩
theorem RM.ts (hR : RM y t) {c v : Nat} (hc : c < yn y) : RM (yup y 3 c v) (marr t 5 c (nI v)) := by
  obtain ⟨r1, r2, r3, r4, r5, r6, r7⟩ := hR
  refine ⟨r1, r2.cong rfl rfl rfl, r3, r4, ?_, ?_, r7⟩
  · intro j hj
    obtain ⟨a, b, e, f, g⟩ := r5 j hj
    refine ⟨a, b, e, ?_, g⟩
    show (marr t 5 c (nI v)).2 5 j = nI (va_up (y.2.1 3) c v j)
    unfold va_up
    by_cases hjc : j = c
    · subst hjc; rw [marr_eq, if_pos rfl]
    · rw [marr_k hjc, if_neg hjc]; exact f
  · intro j h1 h2
    obtain ⟨a, b, e⟩ := r6 j h1 h2
    have h3 : yn y ≤ j := h1
    exact ⟨a, b, by rw [marr_k (by omega)]; exact e⟩
theorem RM.lst (hR : RM y t) (l : List Nat) : RM (ylst y 0 l) t := hR
-- pause
theorem op_pause (hI : INV y z t) {q : Int32} (hq : q = 0 ∨ q = 1) : (zQ_pause z q).1 = !decide (t.1 11 = q) ∧ INV y (zQ_pause z q).2 (mset t 11 q) := by
  obtain ⟨hW, hC, hR, hS⟩ := hI
  have e3 : z.1 3 = t.1 11 := hS.2.2.2.1
  unfold zQ_pause
  rw [e3]
  by_cases h : t.1 11 = q
  · rw [if_pos h]
    refine ⟨by simp [h], hW, hC, ?_, ?_⟩
    · rw [mset_same h]; exact hR
    · rw [mset_same h]; exact hS
  · rw [if_neg h]
    refine ⟨by simp [h], hW, hC, hR, ?_⟩
    obtain ⟨s0, s1, s2, s3, s4, s5, s7, s8, s9, s10⟩ := hS
    exact ⟨s0, s1, s2, rfl, s4, s5, s7, s8, hq, s10⟩
-- a new change
def yAdd (y : yT) (r : Nat) : yT := (va_up y.1 0 (yn y + 1), fun a => va_up (y.2.1 a) (yn y) (if a = 0 then r else if a = 4 then 40 else 0), y.2.2)
theorem rIns_end {xs : List Int32} {v : Int32} (h : xs.length < 40) : rIns xs (nI xs.length) v = xs ++ [v] := by
  unfold rIns
  rw [nI_clamp (by omega), if_neg (by rintro (q | q | q); exact nI_pos (by omega) q; omega; omega), List.insertIdx_length_self]
theorem range_up {n v : Nat} {f : Nat → Nat} : (List.range n).map (fun c => nI (f c)) ++ [nI v] = (List.range (n + 1)).map (fun c => nI (va_up f n v c)) := by
  rw [List.range_succ, List.map_append]
  congr 1
  · apply List.map_congr_left
    intro j hj
    have := List.mem_range.mp hj
    simp [va_up, show j ≠ n by omega]
  · simp [va_up]
theorem RC.add (hC : RC y z) (hn : yn y < 40) {r : Nat} {parts : Int32} : RC (yAdd y r) (zC_add z (nI r) parts) ∧ (zC_add z (nI r) parts).2.1 1 = z.2.1 1 ++ [parts] ∧ (zC_add z (nI r) parts).1 = z.1 := by
  rw [RC_iff] at hC
  obtain ⟨a, b, c, e⟩ := hC
  have len : ∀ q, q < 6 → q ≠ 1 → (z.2.1 q).length = yn y := by
    intro q h1 h2
    rw [a q (by omega) h2]
    rcases (show q = 0 ∨ q = 2 ∨ q = 3 ∨ q = 4 ∨ q = 5 by omega) with rfl | rfl | rfl | rfl | rfl <;> simp [rowY]
  have row : ∀ q, (zC_add z (nI r) parts).2.1 q = if q = 0 then z.2.1 0 ++ [nI r] else if q = 1 then z.2.1 1 ++ [parts] else if q = 2 then z.2.1 2 ++ [0] else if q = 3 then z.2.1 3 ++ [0] else if q = 4 then z.2.1 4 ++ [40] else if q = 5 then z.2.1 5 ++ [0] else z.2.1 q := by
    intro q
    have r0 := rIns_end (xs := z.2.1 0) (v := nI r) (by rw [len 0 (by decide) (by decide)]; exact hn)
    have r1 := rIns_end (xs := z.2.1 1) (v := parts) (by rw [b]; exact hn)
    have r2 := rIns_end (xs := z.2.1 2) (v := 0) (by rw [len 2 (by decide) (by decide)]; exact hn)
    have r3 := rIns_end (xs := z.2.1 3) (v := 0) (by rw [len 3 (by decide) (by decide)]; exact hn)
    have r4 := rIns_end (xs := z.2.1 4) (v := 40) (by rw [len 4 (by decide) (by decide)]; exact hn)
    have r5 := rIns_end (xs := z.2.1 5) (v := 0) (by rw [len 5 (by decide) (by decide)]; exact hn)
    by_cases q5 : q = 5
    · subst q5; exact r5
    by_cases q4 : q = 4
    · subst q4; exact r4
    by_cases q3 : q = 3
    · subst q3; exact r3
    by_cases q2 : q = 2
    · subst q2; exact r2
    by_cases q1 : q = 1
    · subst q1; exact r1
    by_cases q0 : q = 0
    · subst q0; exact r0
    simp only [zC_add, zapp]
    rw [zrow_ne q5, zrow_ne q4, zrow_ne q3, zrow_ne q2, zrow_ne q1, zrow_ne q0]
    simp [q0, q1, q2, q3, q4, q5]
  refine ⟨?_, by rw [row 1]; rfl, rfl⟩
  rw [RC_iff]
  refine ⟨fun q h1 h2 => ?_, ?_, c, e⟩
  · rw [row q]
    rcases (show q = 0 ∨ q = 2 ∨ q = 3 ∨ q = 4 ∨ q = 5 ∨ q = 6 ∨ q = 7 ∨ q = 8 ∨ q = 9 ∨ q = 10 ∨ q = 11 by omega) with rfl | rfl | rfl | rfl | rfl | rfl | rfl | rfl | rfl | rfl | rfl
    · show z.2.1 0 ++ [nI r] = _
      rw [a 0 (by decide) (by decide)]; exact range_up
    · show z.2.1 2 ++ [nI 0] = _
      rw [a 2 (by decide) (by decide)]; exact range_up
    · show z.2.1 3 ++ [nI 0] = _
      rw [a 3 (by decide) (by decide)]; exact range_up
    · show z.2.1 4 ++ [nI 40] = _
      rw [a 4 (by decide) (by decide)]; exact range_up
    · show z.2.1 5 ++ [nI 0] = _
      rw [a 5 (by decide) (by decide)]; exact range_up
    · exact a 6 (by decide) (by decide)
    · exact a 7 (by decide) (by decide)
    · exact a 8 (by decide) (by decide)
    · exact a 9 (by decide) (by decide)
    · exact a 10 (by decide) (by decide)
    · exact a 11 (by decide) (by decide)
  · rw [row 1]
    show (z.2.1 1 ++ [parts]).length = yn y + 1
    rw [List.length_append, b]; rfl
theorem yAdd_bef {y : yT} {r a b : Nat} (ha : a < yn y) (hb : b < yn y) : yBef (yAdd y r) a b = yBef y a b := by
  have h : ∀ c q, c < yn y → (yAdd y r).2.1 q c = y.2.1 q c := fun c q hc => by
    show va_up (y.2.1 q) (yn y) _ c = _
    simp [va_up, show c ≠ yn y by omega]
  simp only [yBef, ytn, yrk, h a _ ha, h b _ hb]
def mAdd2 (t : mS) (n : Nat) (its parts : Int32) : mS := mset (marr (marr (marr t 0 n its) 1 n parts) 2 n 0) 4 (nI n + 1)
theorem zQ_enq_1 (z : zS) (c : Int32) : (zQ_enq z c).1 = z.1 := rfl
theorem zQ_enq_r (z : zS) (c : Int32) : (zQ_enq z c).2.1 1 = z.2.1 1 := zrow_ne (by decide)
theorem mAdd2_1 (t : mS) (n : Nat) (a b : Int32) : (mAdd2 t n a b).2 1 = (marr (marr t 0 n a) 1 n b).2 1 := rfl
theorem op_change (hI : INV y z t) {r : Nat} (hr : r ≤ 9) (hn : yn y < 40) (parts : Int32) : INV (yEnq (yAdd y r) (yn y)) (zQ_enq (zC_add z (nI r) parts) (nI (yn y))) (mAdd2 t (yn y) (nI r) parts) := by
  obtain ⟨hW, hC, hR, hS⟩ := hI
  obtain ⟨hC1, hz1, hz2⟩ := RC.add hC hn (r := r) (parts := parts)
  have hqn := hW.qn
  obtain ⟨w1, w2, w3, w4, w5, w6, w7, w8, w9, w10, w11, w12, w13, w14, w15⟩ := id hW
  have yo : ∀ c q, c < yn y → (yAdd y r).2.1 q c = y.2.1 q c := fun c q hc => by
    show va_up (y.2.1 q) (yn y) _ c = _
    simp [va_up, show c ≠ yn y by omega]
  have yN : ∀ q, (yAdd y r).2.1 q (yn y) = if q = 0 then r else if q = 4 then 40 else 0 := fun q => by
    show va_up (y.2.1 q) (yn y) _ (yn y) = _
    simp [va_up]
  have hQn : yn y ∉ yQ y := fun q => by have := ((w6 _).mp q).1; omega
  have hql : (yQ y).length < 40 := by
    have := nd_len (yn y) (yQ y) hqn (fun x hx => ((w6 x).mp hx).1)
    omega
  have hB1 : WB (yAdd y r) := by
    refine ⟨by show yn y + 1 ≤ 40; omega, ?_, ?_⟩
    · intro c hc
      have hc2 : c < yn y + 1 := hc
      by_cases e : c = yn y
      · subst e
        simp only [yrk, ypl, ywy, yts, ytn, yN]
        simp; omega
      · simp only [yrk, ypl, ywy, yts, ytn, yo c _ (show c < yn y by omega)]
        exact w2 c (by omega)
    · intro c hc
      have : c ∈ yQ y := hc
      have := ((w6 c).mp this).1
      show c < yn y + 1
      omega
  have hpos : yPos (yAdd y r) (yn y) ≤ (yQ y).length := yPos_le (yAdd y r) (yn y)
  refine ⟨?_, RC.enq hC1 hB1 hql (by show yn y < yn y + 1; omega), ?_, ?_⟩
  · refine ⟨hB1.1, hB1.2.1, ?_, ?_, ?_, ?_, w7, ?_, w9, w10, ?_, w12, ?_, w14, ?_⟩
    · intro c hc
      have hc2 : c < yn y + 1 := hc
      by_cases e : c = yn y
      · subst e; left; exact yN 4
      · have := w3 c (by omega)
        show (yAdd y r).2.1 4 c = 40 ∨ (yAdd y r).2.1 4 c < ytg y
        rw [yo c 4 (by omega)]
        exact this
    · show ytg y = ((List.range (yn y + 1)).filter (fun c => !decide ((yAdd y r).2.1 4 c = 40))).length
      rw [List.range_succ, List.filter_append, List.length_append]
      have e1 : (List.range (yn y)).filter (fun c => !decide ((yAdd y r).2.1 4 c = 40)) = (List.range (yn y)).filter (fun c => !decide (ytn y c = 40)) := by
        apply List.filter_congr
        intro c hc
        rw [yo c 4 (List.mem_range.mp hc)]
      have e2 : [yn y].filter (fun c => !decide ((yAdd y r).2.1 4 c = 40)) = [] := by
        rw [List.filter_cons, show (!decide ((yAdd y r).2.1 4 (yn y) = 40)) = false by rw [yN 4]; rfl]
        rfl
      rw [e1, e2]
      exact w4
    · show ((yQ y).insertIdx (yPos (yAdd y r) (yn y)) (yn y)).Pairwise (fun a b => yBef (yAdd y r) a b = true)
      refine enq_sorted (y := yAdd y r) ?_ hQn
      refine List.Pairwise.imp_of_mem ?_ w5
      intro a b ha hb hab
      rw [yAdd_bef ((w6 a).mp ha).1 ((w6 b).mp hb).1]
      exact hab
    · intro c
      show c ∈ (yQ y).insertIdx (yPos (yAdd y r) (yn y)) (yn y) ↔ c < yn y + 1 ∧ (yAdd y r).2.1 1 c = 0
      rw [enq_mem hpos, w6 c]
      by_cases e : c = yn y
      · subst e
        have := yN 1
        simp [this]
      · constructor
        · rintro (q | q)
          · exact absurd q e
          · rw [yo c 1 q.1]; exact ⟨by omega, q.2⟩
        · rintro ⟨q1, q2⟩
          rw [yo c 1 (by omega)] at q2
          exact Or.inr ⟨by omega, q2⟩
    · intro c
      show c ∈ yTr y ↔ c < yn y + 1 ∧ (yAdd y r).2.1 1 c = 2
      rw [w8 c]
      by_cases e : c = yn y
      · subst e
        have := yN 1
        simp [this]
      · constructor
        · rintro q; rw [yo c 1 q.1]; exact ⟨by omega, q.2⟩
        · rintro ⟨q1, q2⟩
          rw [yo c 1 (by omega)] at q2
          exact ⟨by omega, q2⟩
    · intro c
      show c ∈ gL (yG y) ↔ c < yn y + 1 ∧ (yAdd y r).2.1 1 c = 1
      rw [w11 c]
      by_cases e : c = yn y
      · subst e
        have := yN 1
        simp [this]
      · constructor
        · rintro q; rw [yo c 1 q.1]; exact ⟨by omega, q.2⟩
        · rintro ⟨q1, q2⟩
          rw [yo c 1 (by omega)] at q2
          exact ⟨by omega, q2⟩
    · intro a b hab
      have := w13 a b hab
      exact ⟨by show a < yn y + 1; omega, by show b < yn y + 1; omega⟩
    · intro c hc
      have hc2 : c < yn y + 1 := hc
      show (yAdd y r).2.1 2 c = 0 ↔ (yAdd y r).2.1 1 c ≠ 3
      by_cases e : c = yn y
      · subst e; rw [yN 1, yN 2]; simp
      · rw [yo c 1 (by omega), yo c 2 (by omega)]; exact w15 c (by omega)
  · obtain ⟨⟨r0, r1, r2, r3⟩, rL, rT, rc, r5, r6, r7⟩ := hR
    refine ⟨⟨r0, ?_, r2, r3⟩, rL.cong rfl rfl rfl, rT, rc, ?_, ?_, r7⟩
    · show nI (yn y) + 1 = nI (yn y + 1)
      rw [nI_1]
    · intro c hc
      have hc2 : c < yn y + 1 := hc
      by_cases e : c = yn y
      · subst e
        obtain ⟨q1, q2, q3⟩ := r6 (yn y) (Nat.le_refl _) hn
        refine ⟨?_, ?_, ?_, ?_, ?_⟩
        · show _ = nI ((yAdd y r).2.1 0 (yn y)); rw [yN 0]; exact marr_eq t 0 (yn y) (nI r)
        · show _ = nI ((yAdd y r).2.1 1 (yn y)); rw [yN 1]; exact marr_eq _ 2 (yn y) 0
        · show _ = nI ((yAdd y r).2.1 2 (yn y)); rw [yN 2]; exact q2
        · show _ = nI ((yAdd y r).2.1 3 (yn y)); rw [yN 3]; exact q3
        · show _ = nI (jp ((yAdd y r).2.1 4 (yn y))); rw [yN 4]; exact q1
      · obtain ⟨q1, q2, q3, q4, q5⟩ := r5 c (by omega)
        simp only [yrk, ypl, ywy, yts, ytn] at q1 q2 q3 q4 q5
        refine ⟨?_, ?_, ?_, ?_, ?_⟩
        · show (marr t 0 (yn y) (nI r)).2 0 c = nI ((yAdd y r).2.1 0 c); rw [yo c 0 (by omega), marr_k e]; exact q1
        · show (marr (marr (marr t 0 (yn y) (nI r)) 1 (yn y) parts) 2 (yn y) 0).2 2 c = nI ((yAdd y r).2.1 1 c); rw [yo c 1 (by omega), marr_k e]; exact q2
        · show _ = nI ((yAdd y r).2.1 2 c); rw [yo c 2 (by omega)]; exact q3
        · show _ = nI ((yAdd y r).2.1 3 c); rw [yo c 3 (by omega)]; exact q4
        · show _ = nI (jp ((yAdd y r).2.1 4 c)); rw [yo c 4 (by omega)]; exact q5
    · intro c h1 h2
      have h3 : yn y + 1 ≤ c := h1
      exact r6 c (by omega) h2
  · obtain ⟨s0, s1, s2, s3, s4, s5, s7, s8, s9, s10⟩ := hS
    have ez : (zQ_enq (zC_add z (nI r) parts) (nI (yn y))).1 = z.1 := (zQ_enq_1 _ _).trans hz2
    have e1 : (zQ_enq (zC_add z (nI r) parts) (nI (yn y))).2.1 1 = z.2.1 1 ++ [parts] := (zQ_enq_r _ _).trans hz1
    have et : (mAdd2 t (yn y) (nI r) parts).2 1 = (marr (marr t 0 (yn y) (nI r)) 1 (yn y) parts).2 1 := mAdd2_1 _ _ _ _
    generalize zQ_enq (zC_add z (nI r) parts) (nI (yn y)) = z2 at ez e1
    unfold RS
    rw [ez, e1, et]
    refine ⟨s0, s1, s2, s3, s4, s5, s7, ?_, s9, s10⟩
    intro c hc
    have hc2 : c < yn y + 1 := hc
    have hl : (z.2.1 1).length = yn y := hC.2.2.2.2.2.1
    rw [List.getD_eq_getElem?_getD]
    by_cases e : c = yn y
    · subst e
      rw [marr_eq, List.getElem?_append_right (by omega), hl, Nat.sub_self]
      rfl
    · rw [marr_k e, marr_o (by decide), List.getElem?_append_left (by omega), ← List.getD_eq_getElem?_getD]
      exact s8 c (by omega)
end OP
