/-! A member goes out of its group: class and model -/
section TO
variable {y : yT} {z : zS} {t : mS} {p h : ax_H} {d : Nat}
theorem RC.gs {z' : zS} {G' : List gT} (hC : RC y z) (h8 : z'.2.1 8 = (gL G').map nI) (h9 : z'.2.1 9 = G'.map (fun g => nI g.1.length)) (h10 : z'.2.1 10 = G'.map (fun g => nI g.2.1)) (h11 : z'.2.1 11 = G'.map (fun g => nI g.2.2)) (hr : ∀ r, r < 8 → z'.2.1 r = z.2.1 r) (h6 : z'.1 6 = z.1 6) (hc : z'.2.2 = z.2.2) : RC (yGs y G') z' := by
  rw [RC_iff] at hC ⊢
  obtain ⟨q1, q2, q3, q4⟩ := hC
  refine ⟨fun r k1 k2 => ?_, by rw [hr 1 (by decide)]; exact q2, by rw [h6]; exact q3, fun a b ha hb => ?_⟩
  · rcases (show r = 0 ∨ r = 2 ∨ r = 3 ∨ r = 4 ∨ r = 5 ∨ r = 6 ∨ r = 7 ∨ r = 8 ∨ r = 9 ∨ r = 10 ∨ r = 11 by omega) with rfl | rfl | rfl | rfl | rfl | rfl | rfl | rfl | rfl | rfl | rfl
    · rw [hr 0 (by decide)]; exact q1 0 (by decide) (by decide)
    · rw [hr 2 (by decide)]; exact q1 2 (by decide) (by decide)
    · rw [hr 3 (by decide)]; exact q1 3 (by decide) (by decide)
    · rw [hr 4 (by decide)]; exact q1 4 (by decide) (by decide)
    · rw [hr 5 (by decide)]; exact q1 5 (by decide) (by decide)
    · rw [hr 6 (by decide)]; exact q1 6 (by decide) (by decide)
    · rw [hr 7 (by decide)]; exact q1 7 (by decide) (by decide)
    · exact h8
    · exact h9
    · exact h10
    · exact h11
  · have : zConf z' (nI a) (nI b) = zConf z (nI a) (nI b) := by
      unfold zConf
      rw [hc]
    rw [this]
    exact q4 a b ha hb
theorem rRem_e {xs : List Int32} {k : Nat} (hk : k < xs.length) (h : xs.length ≤ 40) : rRem xs (nI k) = xs.eraseIdx k := by
  unfold rRem
  rw [rHas_nI (by omega), if_pos (by simpa using hk), nI_clamp (by omega)]
theorem map_set_same {α β : Type} (f : α → β) {l : List α} {i : Nat} {a b : α} (hi : l[i]? = some a) (e : f b = f a) : (l.set i b).map f = l.map f := by
  apply List.ext_getElem?
  intro j
  rw [List.getElem?_map, List.getElem?_map, List.getElem?_set]
  have hl := (List.getElem?_eq_some_iff.mp hi).1
  by_cases h : i = j
  · subst h
    rw [if_pos rfl, if_pos hl, hi]
    exact congrArg some e
  · rw [if_neg h]
theorem RC.take (hC : RC y z) (hW : WF y) {i j v : Nat} (hi : i < (yG y).length) (hj : j < ((yG y).getD i g0).1.length) (hv : ((yG y).getD i g0).1.getD j 0 = v) : RC (yGs y (gRm (gAn (yG y) i) i j)) (zG_take z (nI v)) ∧ (∀ q, q ≠ 7 → (zG_take z (nI v)).1 q = z.1 q) ∧ (zG_take z (nI v)).1 7 = z.1 7 + nI (gAsk (yG y) i) ∧ (zG_take z (nI v)).2.1 1 = z.2.1 1 := by
  obtain ⟨w1, w2, w3, w4, w5, w6, w7, w8, w9, w10, w11, w12, w13, w14, w15⟩ := id hW
  have hl := hW.gl
  have htl := hW.tl
  have hlen := gLen_le hW hi
  obtain ⟨c1, c2, c3, c4⟩ := RC.anew hC hl (Nat.le_of_lt hi) (fun g hg => (w12 g hg).1)
  have hLv : (gL (yG y)).getD (gB (yG y) i + j) 0 = v := by rw [gL_at hi hj]; exact hv
  have hkl : gB (yG y) i + j < (gL (yG y)).length := by omega
  have hvL : v ∈ gL (yG y) := by rw [← hLv]; exact getD_mem hkl
  have hidx : (gL (yG y)).idxOf v = gB (yG y) i + j := by
    have e : (gL (yG y))[gB (yG y) i + j] = v := by
      rw [List.getD_eq_getElem?_getD, List.getElem?_eq_getElem hkl] at hLv
      simpa using hLv
    rw [← e]
    exact List.Nodup.idxOf_getElem w10 _ _
  have hfind : rFind (z.2.1 8) (nI v) = nI (gB (yG y) i + j) := by
    rw [hC.G8, rFind_map (by omega) (fun x hx => by have := ((w11 x).mp hx).1; omega) hvL, hidx]
  have hgrp : zG_grp z (nI (gB (yG y) i + j)) = nI i := by
    have := zGrp_y hC hW hi (show gB (yG y) i ≤ gB (yG y) i + j by omega) (by rw [gB_succ hi]; have : j < ((yG y).getD i ([], 0, 0)).1.length := hj; omega) (yG y).length 0 (by omega) (Nat.zero_le _)
    unfold zG_grp
    rw [hC.G10, List.length_map]
    exact this
  have hne : ¬ rFind (z.2.1 8) (nI v) = -1 := by
    rw [hfind]
    intro e
    have h4 := nI_pos' (show gB (yG y) i + j < 2 ^ 31 by omega)
    rw [e] at h4
    exact absurd h4 (by decide)
  have hA8 : (zG_anew z (nI i)).2.1 8 = (gL (yG y)).map nI := by rw [c1.G8]; show (gL (gAn (yG y) i)).map nI = _; rw [gAn_L]
  have hA9 : (zG_anew z (nI i)).2.1 9 = (gAn (yG y) i).map (fun g => nI g.1.length) := c1.G9
  have hA10 : (zG_anew z (nI i)).2.1 10 = (gAn (yG y) i).map (fun g => nI g.2.1) := c1.G10
  have hA11 : (zG_anew z (nI i)).2.1 11 = (gAn (yG y) i).map (fun g => nI g.2.2) := c1.G11
  have hHl := gAn_len (yG y) i
  have hHi := gAn_at (yG y) i i hi
  rw [if_neg (Nat.lt_irrefl i)] at hHi
  have hHi? : (gAn (yG y) i)[i]? = some ((gAn (yG y) i).getD i g0) := by
    rw [List.getD_eq_getElem?_getD, List.getElem?_eq_getElem (by omega)]; rfl
  have hn1 : nI ((yG y).getD i g0).1.length - 1 = nI (((yG y).getD i g0).1.length - 1) := by
    rw [show (1 : Int32) = nI 1 from rfl, pk_sub (by omega)]
  -- the steps of the class
  have z2_8 : (zrem (zG_anew z (nI i)) 8 (nI (gB (yG y) i + j))).2.1 8 = ((gL (yG y)).eraseIdx (gB (yG y) i + j)).map nI := by
    rw [zrem, zrow_same, hA8, rRem_e (by rw [List.length_map]; exact hkl) (by rw [List.length_map]; omega), map_erI]
  have z2_o : ∀ r, r ≠ 8 → (zrem (zG_anew z (nI i)) 8 (nI (gB (yG y) i + j))).2.1 r = (zG_anew z (nI i)).2.1 r := fun r hr => by rw [zrem, zrow_ne hr]
  have z2_9 : zat (zrem (zG_anew z (nI i)) 8 (nI (gB (yG y) i + j))) 9 (nI i) = nI ((yG y).getD i g0).1.length := by
    rw [zat, z2_o 9 (by decide), hA9, rAt_map g0 (by omega), if_pos (by rw [isC_nI (by omega) (by omega)]; simp; omega), nI_clamp (by omega), hHi]
  generalize hz2 : zrem (zG_anew z (nI i)) 8 (nI (gB (yG y) i + j)) = z2 at z2_8 z2_o z2_9
  have z3_9 : (zput z2 9 (nI i) (nI (((yG y).getD i g0).1.length - 1))).2.1 9 = ((gAn (yG y) i).map (fun g => nI g.1.length)).set i (nI (((yG y).getD i g0).1.length - 1)) := by
    rw [zput, zrow_same, z2_o 9 (by decide), hA9, rPut_set (by rw [List.length_map]; omega) (by rw [List.length_map]; omega)]
  have z3_o : ∀ r, r ≠ 9 → (zput z2 9 (nI i) (nI (((yG y).getD i g0).1.length - 1))).2.1 r = z2.2.1 r := fun r hr => by rw [zput, zrow_ne hr]
  have z3_at : zat (zput z2 9 (nI i) (nI (((yG y).getD i g0).1.length - 1))) 9 (nI i) = nI (((yG y).getD i g0).1.length - 1) := by
    rw [zat, z3_9, rAt_nI (by omega), List.getD_eq_getElem?_getD, List.getElem?_set_self (by rw [List.length_map]; omega)]
    rfl
  have hlen40 : ((yG y).getD i g0).1.length ≤ 40 := by omega
  have z3_i : ∀ q, (zput z2 9 (nI i) (nI (((yG y).getD i g0).1.length - 1))).1 q = (zG_anew z (nI i)).1 q := fun q => by rw [← hz2]; rfl
  have z3_c : (zput z2 9 (nI i) (nI (((yG y).getD i g0).1.length - 1))).2.2 = (zG_anew z (nI i)).2.2 := by rw [← hz2]; rfl
  have heT : zG_take z (nI v) = if nI (((yG y).getD i g0).1.length - 1) = 0 then zG_remG (zput z2 9 (nI i) (nI (((yG y).getD i g0).1.length - 1))) (nI i) else zput z2 9 (nI i) (nI (((yG y).getD i g0).1.length - 1)) := by
    unfold zG_take
    rw [if_neg hne]
    simp only [hfind, hgrp, hz2, z2_9, hn1, z3_at]
  have hcz : (zG_anew z (nI i)).2.2 = z.2.2 := by
    have l10 : (z.2.1 10).length = (yG y).length := by rw [hC.G10, List.length_map]
    have l11 : (z.2.1 11).length = (yG y).length := by rw [hC.G11, List.length_map]
    have e := zAnew_eff ((z.2.1 10).length - i) i z (by omega) (by omega) (by omega)
    unfold zG_anew
    rw [nI_clamp (by omega)]
    exact e.2.2.2.1
  rw [heT]
  generalize hz3 : zput z2 9 (nI i) (nI (((yG y).getD i g0).1.length - 1)) = z3 at *
  have hz3r : ∀ r, r < 8 → z3.2.1 r = (zG_anew z (nI i)).2.1 r := fun r hr => by rw [z3_o r (by omega), z2_o r (by omega)]
  by_cases h1 : ((yG y).getD i g0).1.length = 1
  · have e0 : nI (((yG y).getD i g0).1.length - 1) = 0 := by rw [h1]; rfl
    rw [if_pos e0]
    have hj0 : j = 0 := by omega
    have her : ((yG y).getD i g0).1.eraseIdx j = [] := by
      apply List.eq_nil_of_length_eq_zero
      rw [List.length_eraseIdx, if_pos hj]
      omega
    have hG' : gRm (gAn (yG y) i) i j = (gAn (yG y) i).eraseIdx i := by
      unfold gRm
      rw [hHi]
      simp only
      rw [if_pos her]
    have hl' : ∀ r, r = 9 ∨ r = 10 ∨ r = 11 → (z3.2.1 r).length = (yG y).length := by
      intro r hr
      rcases hr with rfl | rfl | rfl
      · rw [z3_9, List.length_set, List.length_map, hHl]
      · rw [z3_o 10 (by decide), z2_o 10 (by decide), hA10, List.length_map, hHl]
      · rw [z3_o 11 (by decide), z2_o 11 (by decide), hA11, List.length_map, hHl]
    have r9 : (zG_remG z3 (nI i)).2.1 9 = (z3.2.1 9).eraseIdx i := by
      rw [zG_remG, zrem, zrow_ne (by decide), zrem, zrow_ne (by decide), zrem, zrow_same, rRem_e (by rw [hl' 9 (by omega)]; exact hi) (by rw [hl' 9 (by omega)]; exact hl)]
    have r10 : (zG_remG z3 (nI i)).2.1 10 = (z3.2.1 10).eraseIdx i := by
      rw [zG_remG, zrem, zrow_ne (by decide), zrem, zrow_same, zrem, zrow_ne (by decide), rRem_e (by rw [hl' 10 (by omega)]; exact hi) (by rw [hl' 10 (by omega)]; exact hl)]
    have r11 : (zG_remG z3 (nI i)).2.1 11 = (z3.2.1 11).eraseIdx i := by
      rw [zG_remG, zrem, zrow_same, zrem, zrow_ne (by decide), zrem, zrow_ne (by decide), rRem_e (by rw [hl' 11 (by omega)]; exact hi) (by rw [hl' 11 (by omega)]; exact hl)]
    have ro : ∀ r, r ≠ 9 → r ≠ 10 → r ≠ 11 → (zG_remG z3 (nI i)).2.1 r = z3.2.1 r := by
      intro r q1 q2 q3
      rw [zG_remG, zrem, zrow_ne q3, zrem, zrow_ne q2, zrem, zrow_ne q1]
    refine ⟨?_, ?_, ?_, ?_⟩
    · rw [hG']
      refine RC.gs hC ?_ ?_ ?_ ?_ ?_ ?_ ?_
      · rw [ro 8 (by decide) (by decide) (by decide), z3_o 8 (by decide), z2_8, ← hG', gRm_L _ i j (by omega) (by rw [hHi]; exact hj), gAn_L, gAn_gB]
      · rw [r9, z3_9, ← map_erI]
        apply List.ext_getElem?
        intro q
        rw [List.getElem?_eraseIdx, List.getElem?_eraseIdx]
        split
        · rw [List.getElem?_set_ne (by omega)]
        · rw [List.getElem?_set_ne (by omega)]
      · rw [r10, z3_o 10 (by decide), z2_o 10 (by decide), hA10, map_erI]
      · rw [r11, z3_o 11 (by decide), z2_o 11 (by decide), hA11, map_erI]
      · intro r hr
        rw [ro r (by omega) (by omega) (by omega), hz3r r hr]
        rcases (show r = 0 ∨ r = 1 ∨ r = 2 ∨ r = 3 ∨ r = 4 ∨ r = 5 ∨ r = 6 ∨ r = 7 by omega) with rfl | rfl | rfl | rfl | rfl | rfl | rfl | rfl
        · rw [c1.row 0 (by decide) (by decide), hC.row 0 (by decide) (by decide)]; rfl
        · exact c4
        · rw [c1.row 2 (by decide) (by decide), hC.row 2 (by decide) (by decide)]; rfl
        · rw [c1.row 3 (by decide) (by decide), hC.row 3 (by decide) (by decide)]; rfl
        · rw [c1.row 4 (by decide) (by decide), hC.row 4 (by decide) (by decide)]; rfl
        · rw [c1.row 5 (by decide) (by decide), hC.row 5 (by decide) (by decide)]; rfl
        · rw [c1.row 6 (by decide) (by decide), hC.row 6 (by decide) (by decide)]; rfl
        · rw [c1.row 7 (by decide) (by decide), hC.row 7 (by decide) (by decide)]; rfl
      · show z3.1 6 = z.1 6
        rw [z3_i 6, c3 6 (by decide)]
      · show z3.2.2 = z.2.2
        rw [z3_c, hcz]
    · intro q hq
      show z3.1 q = z.1 q
      rw [z3_i q, c3 q hq]
    · show z3.1 7 = _
      rw [z3_i 7, c2]
    · rw [ro 1 (by decide) (by decide) (by decide), hz3r 1 (by decide), c4]
  · have e0 : ¬ nI (((yG y).getD i g0).1.length - 1) = 0 := nI_ne0 (by omega) (by omega)
    rw [if_neg e0]
    have her : ¬ ((yG y).getD i g0).1.eraseIdx j = [] := by
      intro e
      have := congrArg List.length e
      rw [List.length_eraseIdx, if_pos hj, List.length_nil] at this
      omega
    have hG' : gRm (gAn (yG y) i) i j = (gAn (yG y) i).set i (((yG y).getD i g0).1.eraseIdx j, 0, 0) := by
      unfold gRm
      rw [hHi]
      simp only
      rw [if_neg her]
    refine ⟨?_, fun q hq => by rw [z3_i q, c3 q hq], by rw [z3_i 7, c2], by rw [hz3r 1 (by decide), c4]⟩
    rw [hG']
    refine RC.gs hC ?_ ?_ ?_ ?_ ?_ ?_ ?_
    · rw [z3_o 8 (by decide), z2_8, ← hG', gRm_L _ i j (by omega) (by rw [hHi]; exact hj), gAn_L, gAn_gB]
    · rw [z3_9, List.map_set]
      congr 2
      show _ = (((yG y).getD i g0).1.eraseIdx j).length
      rw [List.length_eraseIdx, if_pos hj]
    · rw [z3_o 10 (by decide), z2_o 10 (by decide), hA10, map_set_same _ hHi? (by rw [hHi])]
    · rw [z3_o 11 (by decide), z2_o 11 (by decide), hA11, map_set_same _ hHi? (by rw [hHi])]
    · intro r hr
      rw [hz3r r hr]
      rcases (show r = 0 ∨ r = 1 ∨ r = 2 ∨ r = 3 ∨ r = 4 ∨ r = 5 ∨ r = 6 ∨ r = 7 by omega) with rfl | rfl | rfl | rfl | rfl | rfl | rfl | rfl
      · rw [c1.row 0 (by decide) (by decide), hC.row 0 (by decide) (by decide)]; rfl
      · exact c4
      · rw [c1.row 2 (by decide) (by decide), hC.row 2 (by decide) (by decide)]; rfl
      · rw [c1.row 3 (by decide) (by decide), hC.row 3 (by decide) (by decide)]; rfl
      · rw [c1.row 4 (by decide) (by decide), hC.row 4 (by decide) (by decide)]; rfl
      · rw [c1.row 5 (by decide) (by decide), hC.row 5 (by decide) (by decide)]; rfl
      · rw [c1.row 6 (by decide) (by decide), hC.row 6 (by decide) (by decide)]; rfl
      · rw [c1.row 7 (by decide) (by decide), hC.row 7 (by decide) (by decide)]; rfl
    · rw [z3_i 6, c3 6 (by decide)]
    · rw [z3_c, hcz]
end TO
