/-! jump; leaving the queue -/
section JU
variable {y : yT} {z : zS} {t : mS}
theorem cnt_up : ∀ (l : List Nat) (P P' : Nat → Bool) (k : Nat), l.Nodup → k ∈ l → P k = false → P' k = true → (∀ x, x ≠ k → P' x = P x) → (l.filter P').length = (l.filter P).length + 1 := by
  intro l
  induction l with
  | nil => intro P P' k _ h; cases h
  | cons a l ih =>
    intro P P' k hn hk h1 h2 h3
    have hn2 := List.nodup_cons.mp hn
    rw [List.filter_cons, List.filter_cons]
    by_cases e : a = k
    · subst e
      rw [h1, h2, if_pos rfl, if_neg (by decide), List.length_cons]
      congr 1
      have : l.filter P' = l.filter P := List.filter_congr (fun x hx => h3 x (fun q => hn2.1 (q ▸ hx)))
      rw [this]
    · have hk2 : k ∈ l := by
        rcases List.mem_cons.mp hk with q | q
        · exact absurd q.symm e
        · exact q
      have := ih P P' k hn2.2 hk2 h1 h2 h3
      rw [h3 a e]
      by_cases hp : P a = true
      · rw [if_pos hp, if_pos hp, List.length_cons, List.length_cons, this]
      · rw [if_neg hp, if_neg hp, this]
theorem cnt_lt : ∀ (l : List Nat) (P : Nat → Bool) (k : Nat), k ∈ l → P k = false → (l.filter P).length < l.length := by
  intro l P k hk hp
  rcases Nat.lt_or_eq_of_le (List.length_filter_le P l) with h | h
  · exact h
  · exfalso
    rw [List.length_filter_eq_length_iff] at h
    rw [h k hk] at hp
    cases hp
theorem RS.cong {y y' : yT} {z z' : zS} {t t' : mS} (hS : RS y z t) (hn : yn y' = yn y) (h1 : ∀ i, i < 8 → i ≠ 6 → z'.1 i = z.1 i) (h2 : z'.2.1 1 = z.2.1 1) (h3 : ∀ i, i = 0 ∨ i = 1 ∨ i = 2 ∨ i = 8 ∨ i = 9 ∨ i = 10 ∨ i = 11 → t'.1 i = t.1 i) (h4 : t'.2 1 = t.2 1) : RS y' z' t' := by
  unfold RS at *
  rw [hn, h1 0 (by decide) (by decide), h1 1 (by decide) (by decide), h1 2 (by decide) (by decide), h1 3 (by decide) (by decide), h1 4 (by decide) (by decide), h1 5 (by decide) (by decide), h1 7 (by decide) (by decide), h2, h3 0 (by omega), h3 1 (by omega), h3 2 (by omega), h3 8 (by omega), h3 9 (by omega), h3 10 (by omega), h3 11 (by omega), h4]
  exact hS
theorem zrow_1 (z : zS) (r : Nat) (xs : List Int32) : (zrow z r xs).1 = z.1 := rfl
def mJmp (t : mS) (k : Nat) : mS := marr (mset t 5 (t.1 5 + 1)) 3 k (t.1 5 + 1)
theorem op_jump (hI : INV y z t) {k : Nat} (hk : k < yn y) (h0 : ypl y k = 0) (h4 : ytn y k = 40) : INV (yEnq (yTurn (yDeq y k) k) k) (zQ_enq (zC_giveTurn (zQ_deq z (nI k)) (nI k)) (nI k)) (mJmp t k) := by
  obtain ⟨hW, hC, hR, hS⟩ := hI
  have hqn := hW.qn
  have hql := hW.ql
  obtain ⟨w1, w2, w3, w4, w5, w6, w7, w8, w9, w10, w11, w12, w13, w14, w15⟩ := id hW
  have hkQ : k ∈ yQ y := (w6 k).mpr ⟨hk, h0⟩
  have htg : ytg y < 40 := by
    have := cnt_lt (List.range (yn y)) (fun c => !decide (ytn y c = 40)) k (List.mem_range.mpr hk) (by simp [h4])
    rw [List.length_range] at this
    have e : ytg y = ((List.range (yn y)).filter (fun c => !decide (ytn y c = 40))).length := w4
    omega
  have hC1 := RC.deq hC hql (fun x hx => by have := ((w6 x).mp hx).1; omega) hkQ
  have hC2 := RC.turn hC1 (c := k) w1 hk
  have hT : ∀ c, ytn (yTurn (yDeq y k) k) c = if c = k then ytg y else ytn y c := fun c => rfl
  have hB : ∀ a b, a ≠ k → b ≠ k → yBef (yTurn (yDeq y k) k) a b = yBef y a b := by
    intro a b ha hb
    unfold yBef
    rw [hT a, hT b, if_neg ha, if_neg hb]
    rfl
  have hQ1 : yQ (yTurn (yDeq y k) k) = (yQ y).erase k := rfl
  have hle : ((yQ y).erase k).length < 40 := by
    rw [List.length_erase_of_mem hkQ]
    have := List.length_pos_of_mem hkQ
    omega
  have hWB : WB (yTurn (yDeq y k) k) := by
    refine ⟨w1, ?_, ?_⟩
    · intro c hc
      obtain ⟨a, b, e, f, g⟩ := w2 c hc
      refine ⟨a, b, e, f, ?_⟩
      rw [hT c]
      split <;> omega
    · intro c hc
      rw [hQ1] at hc
      exact ((w6 c).mp (List.mem_of_mem_erase hc)).1
  have hC3 := RC.enq hC2 hWB (by rw [hQ1]; exact hle) (c := k) hk
  have hkE : k ∉ (yQ y).erase k := fun q => hqn.not_mem_erase q
  refine ⟨?_, hC3, ?_, ?_⟩
  · refine ⟨w1, hWB.2.1, ?_, ?_, ?_, ?_, w7, w8, w9, w10, w11, w12, w13, w14, w15⟩
    · intro c hc
      show ytn (yTurn (yDeq y k) k) c = 40 ∨ ytn (yTurn (yDeq y k) k) c < ytg y + 1
      rw [hT c]
      by_cases e : c = k
      · rw [if_pos e]; right; omega
      · rw [if_neg e]
        rcases w3 c hc with q | q
        · exact Or.inl q
        · right; omega
    · show ytg y + 1 = ((List.range (yn y)).filter (fun c => !decide (ytn (yTurn (yDeq y k) k) c = 40))).length
      rw [cnt_up (List.range (yn y)) (fun c => !decide (ytn y c = 40)) (fun c => !decide (ytn (yTurn (yDeq y k) k) c = 40)) k List.nodup_range (List.mem_range.mpr hk) (by simp [h4]) (by
        show (!decide (ytn (yTurn (yDeq y k) k) k = 40)) = true
        rw [hT k, if_pos rfl]
        have : ¬ ytg y = 40 := by omega
        simp [this]) (fun x hx => by
        show (!decide (ytn (yTurn (yDeq y k) k) x = 40)) = (!decide (ytn y x = 40))
        rw [hT x, if_neg hx])]
      have e : ytg y = ((List.range (yn y)).filter (fun c => !decide (ytn y c = 40))).length := w4
      omega
    · show ((yQ y).erase k |>.insertIdx (yPos (yTurn (yDeq y k) k) k) k).Pairwise (fun a b => yBef (yTurn (yDeq y k) k) a b = true)
      refine enq_sorted (y := yTurn (yDeq y k) k) (l := (yQ y).erase k) ?_ hkE
      refine List.Pairwise.imp_of_mem ?_ (w5.sublist List.erase_sublist)
      intro a b ha hb hab
      rw [hB a b (fun e => hkE (e ▸ ha)) (fun e => hkE (e ▸ hb))]
      exact hab
    · intro c
      show c ∈ ((yQ y).erase k).insertIdx (yPos (yTurn (yDeq y k) k) k) k ↔ c < yn y ∧ ypl y c = 0
      rw [enq_mem (l := (yQ y).erase k) (yPos_le (yTurn (yDeq y k) k) k), ← w6 c]
      constructor
      · rintro (rfl | q)
        · exact hkQ
        · exact List.mem_of_mem_erase q
      · intro q
        by_cases e : c = k
        · exact Or.inl e
        · exact Or.inr ((List.mem_erase_of_ne e).mpr q)
  · obtain ⟨⟨r0, r1, r2, r3⟩, rL, rT, rc, r5, r6, r7⟩ := hR
    have e5 : t.1 5 + 1 = nI (ytg y + 1) := by rw [r2, nI_1]
    refine ⟨⟨r0, r1, ?_, r3⟩, rL.cong rfl rfl rfl, rT, rc, ?_, ?_, r7⟩
    · exact e5
    · intro c hc
      obtain ⟨a, b, e, f, g⟩ := r5 c hc
      refine ⟨a, b, e, f, ?_⟩
      show (marr (mset t 5 (t.1 5 + 1)) 3 k (t.1 5 + 1)).2 3 c = nI (jp (ytn (yTurn (yDeq y k) k) c))
      rw [hT c]
      by_cases hc2 : c = k
      · subst hc2
        rw [marr_eq, if_pos rfl, e5, jp, if_neg (by omega)]
      · rw [marr_k hc2, if_neg hc2]
        exact g
    · intro c h1 h2
      obtain ⟨a, b, e⟩ := r6 c h1 h2
      have h3 : yn y ≤ c := h1
      refine ⟨?_, b, e⟩
      show (marr (mset t 5 (t.1 5 + 1)) 3 k (t.1 5 + 1)).2 3 c = 0
      rw [marr_k (by omega)]
      exact a
  · refine RS.cong hS rfl ?_ ?_ ?_ rfl
    · intro i hi h6
      rw [zQ_enq_1]
      show va_up z.1 6 _ i = z.1 i
      simp [va_up, h6]
    · rw [zQ_enq_r]
      show (zput (zQ_deq z (nI k)) 4 (nI k) _).2.1 1 = _
      rw [zput, zrow_ne (by decide), zQ_deq, zrem, zrow_ne (by decide)]
    · intro i hi
      show va_up t.1 5 _ i = t.1 i
      have : i ≠ 5 := by omega
      simp [va_up, this]
theorem op_leaveQ (hI : INV y z t) {k : Nat} (hk : k < yn y) (h0 : ypl y k = 0) : INV (yOut (yDeq y k) k 3) (zC_putOut (zQ_deq z (nI k)) (nI k) (nI 3)) (marr (marr t 2 k (nI 3)) 4 k (nI 3)) := by
  obtain ⟨hW, hC, hR, hS⟩ := hI
  have hqn := hW.qn
  have hql := hW.ql
  obtain ⟨w1, w2, w3, w4, w5, w6, w7, w8, w9, w10, w11, w12, w13, w14, w15⟩ := id hW
  have hkQ : k ∈ yQ y := (w6 k).mpr ⟨hk, h0⟩
  have hP : ∀ c, ypl (yOut (yDeq y k) k 3) c = if c = k then 3 else ypl y c := fun c => rfl
  have hY : ∀ c, ywy (yOut (yDeq y k) k 3) c = if c = k then 3 else ywy y c := fun c => rfl
  refine ⟨?_, RC.out (RC.deq hC hql (fun x hx => by have := ((w6 x).mp hx).1; omega) hkQ) w1 hk, RM.wy (RM.pl (RM.lst hR _)) hk, ?_⟩
  · refine ⟨w1, ?_, w3, w4, w5.sublist List.erase_sublist, ?_, w7, ?_, w9, w10, ?_, w12, w13, w14, ?_⟩
    · intro c hc
      obtain ⟨a, b, e, f, g⟩ := w2 c hc
      refine ⟨a, ?_, ?_, f, g⟩
      · rw [hP c]; split <;> omega
      · rw [hY c]; split <;> omega
    · intro c
      show c ∈ (yQ y).erase k ↔ c < yn y ∧ ypl (yOut (yDeq y k) k 3) c = 0
      rw [hP c]
      by_cases e : c = k
      · subst e
        rw [if_pos rfl]
        constructor
        · intro q; exact absurd q hqn.not_mem_erase
        · rintro ⟨-, q⟩; cases q
      · rw [if_neg e, List.mem_erase_of_ne e, w6 c]
    · intro c
      show c ∈ yTr y ↔ c < yn y ∧ ypl (yOut (yDeq y k) k 3) c = 2
      rw [hP c, w8 c]
      by_cases e : c = k
      · subst e
        rw [if_pos rfl]
        constructor
        · rintro ⟨-, q⟩; omega
        · rintro ⟨-, q⟩; omega
      · rw [if_neg e]
    · intro c
      show c ∈ gL (yG y) ↔ c < yn y ∧ ypl (yOut (yDeq y k) k 3) c = 1
      rw [hP c, w11 c]
      by_cases e : c = k
      · subst e
        rw [if_pos rfl]
        constructor
        · rintro ⟨-, q⟩; omega
        · rintro ⟨-, q⟩; omega
      · rw [if_neg e]
    · intro c hc
      show ywy (yOut (yDeq y k) k 3) c = 0 ↔ ypl (yOut (yDeq y k) k 3) c ≠ 3
      rw [hP c, hY c]
      by_cases e : c = k
      · rw [if_pos e, if_pos e]; simp
      · rw [if_neg e, if_neg e]; exact w15 c hc
  · refine RS.cong hS rfl (fun _ _ _ => rfl) ?_ (fun _ _ => rfl) rfl
    rw [zC_putOut, zput, zrow_ne (by decide), zput, zrow_ne (by decide), zQ_deq, zrem, zrow_ne (by decide)]
end JU
