/-! The first group failed: one goes out, or two halves -/
section HA
variable {y : yT} {z : zS} {t : mS} {p h : ax_H} {d : Nat}
theorem div2 : ∀ n, n ≤ 40 → nI n / 2 = nI (n / 2) := by decide +kernel
theorem div2b : ∀ n, n ≤ 40 → (nI n + 1) / 2 = nI (n - n / 2) := by decide +kernel
theorem yts_up (hI : INV y z t) {c v : Nat} (hc : c < yn y) (hv : v ≤ 40) : INV (yup y 3 c v) (zput z 5 (nI c) (nI v)) (marr t 5 c (nI v)) := by
  obtain ⟨hW, hC, hR, hS⟩ := hI
  have hn := hW.1
  refine ⟨?_, RC.ts hC hn hc, RM.ts hR hc, ?_⟩
  · obtain ⟨w1, w2, w3, w4, w5, w6, w7, w8, w9, w10, w11, w12, w13, w14, w15⟩ := hW
    refine ⟨w1, ?_, w3, w4, w5, w6, w7, w8, w9, w10, w11, w12, w13, w14, w15⟩
    intro j hj
    obtain ⟨a, b, e, f, g⟩ := w2 j hj
    refine ⟨a, b, e, ?_, g⟩
    show va_up (y.2.1 3) c v j ≤ 40
    unfold va_up
    split
    · exact hv
    · exact f
  · refine RS.cong hS rfl (fun _ _ _ => rfl) ?_ (fun _ _ => rfl) rfl
    rw [zput, zrow_ne (by decide)]
-- one goes out
def yHv1 (y : yT) : yT := yup (yOut (yGs y (gRm (gAn (yG y) 0) 0 0)) ((gL (yG y)).getD 0 0) 1) 3 ((gL (yG y)).getD 0 0) (yTr y).length
def mHv1 (y : yT) (t : mS) : mS := marr (marr (marr (mGo (mAn (gL (yG y)) (gF (yG y)) 0 t) (gL (yG y)) (gF (yG y)) 0) 2 ((gL (yG y)).getD 0 0) 3) 4 ((gL (yG y)).getD 0 0) 1) 5 ((gL (yG y)).getD 0 0) (t.1 7)
theorem op_halve1 (hI : INV y z t) (hi : 0 < (yG y).length) (h1 : ((yG y).getD 0 g0).1.length = 1) : INV (yHv1 y) (zQ_halve z) (mHv1 y t) := by
  have hI0 := hI
  obtain ⟨hW, hC, hR, hS⟩ := hI
  have hl := hW.gl
  have htl := hW.tl
  have a9 : zat z 9 0 = nI 1 := by have := (gatN hC hW hi).2.1; rw [h1] at this; exact this
  have hv : ((yG y).getD 0 g0).1.getD 0 0 = (gL (yG y)).getD 0 0 := (gL_at (i := 0) (j := 0) hi (by show 0 < ((yG y).getD 0 g0).1.length; omega)).symm
  have hmem : zG_member z 0 0 = nI ((gL (yG y)).getD 0 0) := by
    rw [same_member hC hW 0 0, yMember, if_pos (by show isC (yG y).length (nI 0) = true; rw [isC_nI hl (by decide)]; simpa using hi), if_neg (by decide)]
    show (if nI 0 < nI ((yG y).getD 0 g0).1.length then nI (((yG y).getD 0 g0).1.getD 0 0) else -1) = _
    rw [if_pos (by rw [h1]; decide), hv]
  obtain ⟨hI1, hvn⟩ := op_take hI0 (i := 0) (j := 0) (r := 1) hi (by omega) hv (Or.inl rfl)
  have hI2 := yts_up hI1 (c := (gL (yG y)).getD 0 0) (v := (yTr y).length) hvn (by omega)
  have e7 : ((zC_putOut (zG_take z (nI ((gL (yG y)).getD 0 0))) (nI ((gL (yG y)).getD 0 0)) (nI 1)).2.1 7).length = (yTr y).length := by
    rw [hI1.2.1.R7, List.length_map]; rfl
  have ez : zQ_halve z = zput (zC_putOut (zG_take z (nI ((gL (yG y)).getD 0 0))) (nI ((gL (yG y)).getD 0 0)) (nI 1)) 5 (nI ((gL (yG y)).getD 0 0)) (nI (yTr y).length) := by
    unfold zQ_halve
    rw [a9, if_pos (by decide), hmem]
    show zput (zC_putOut _ _ (nI 1)) 5 _ (nI ((zC_putOut (zG_take z (nI ((gL (yG y)).getD 0 0))) (nI ((gL (yG y)).getD 0 0)) (nI 1)).2.1 7).length) = _
    rw [e7]
  have et : mHv1 y t = marr (marr (marr (mGo (mAn (gL (yG y)) (gF (yG y)) (gB (yG y) 0) t) (gL (yG y)) (gF (yG y)) (gB (yG y) 0 + 0)) 2 ((gL (yG y)).getD 0 0) (nI 3)) 4 ((gL (yG y)).getD 0 0) (nI 1)) 5 ((gL (yG y)).getD 0 0) (nI (yTr y).length) := by
    rw [← hR.1.2.2.2]; rfl
  rw [ez, et]
  exact hI2
-- two halves
def gSp (G : List gT) : List gT := match G with
  | [] => []
  | g :: G => (g.1.take (g.1.length - g.1.length / 2), g.2) :: (g.1.drop (g.1.length - g.1.length / 2), 0, 0) :: G
theorem gSp_L (G : List gT) : gL (gSp G) = gL G := by
  cases G with
  | nil => rfl
  | cons g G =>
    show gL ((g.1.take _, g.2) :: (g.1.drop _, 0, 0) :: G) = _
    rw [gL_cons, gL_cons, gL_cons, ← List.append_assoc, List.take_append_drop]
theorem gF1_sp {ms : List Nat} {k : Nat} (h1 : 0 < k) (h2 : k < ms.length) : gF1 (ms.take k) ++ gF1 (ms.drop k) = (gF1 ms).set k true := by
  cases ms with
  | nil => simp at h2
  | cons c r =>
    cases k with
    | zero => omega
    | succ k =>
      simp only [List.take_succ_cons, List.drop_succ_cons, gF1, List.set_cons_succ, List.cons_append]
      congr 1
      have hk : k < r.length := by simpa using h2
      rw [List.drop_eq_getElem_cons hk]
      simp only [gF1]
      apply List.ext_getElem
      · simp; omega
      · intro i a b
        rw [List.getElem_set]
        by_cases e : k = i
        · subst e
          rw [if_pos rfl, List.getElem_append_right (by simp; omega)]
          simp [Nat.min_eq_left (Nat.le_of_lt hk)]
        · rw [if_neg e, List.getElem_map, List.getElem_append]
          split
          · simp
          · rename_i hh
            have : i - (List.map (fun _ => false) (r.take k)).length = (i - k - 1) + 1 := by
              simp at hh ⊢; omega
            simp only [this, List.getElem_cons_succ, List.getElem_map]
theorem gSp_F {G : List gT} (h2 : 2 ≤ (G.getD 0 g0).1.length) : gF (gSp G) = (gF G).set ((G.getD 0 g0).1.length - (G.getD 0 g0).1.length / 2) true := by
  cases G with
  | nil => rfl
  | cons g G =>
    have h2' : 2 ≤ g.1.length := h2
    show gF ((g.1.take (g.1.length - g.1.length / 2), g.2) :: (g.1.drop (g.1.length - g.1.length / 2), 0, 0) :: G) = (gF (g :: G)).set (g.1.length - g.1.length / 2) true
    rw [gF_cons, gF_cons, gF_cons, ← List.append_assoc, gF1_sp (by omega) (by omega), List.set_append_left _ _ (by rw [gF1_len]; omega)]
theorem gSp_an (G : List gT) : gSp (gAn G 0) = gAn (gSp G) 0 := by
  cases G <;> rfl
theorem gSp_ask (G : List gT) : gAsk (gSp G) 0 = gAsk G 0 := by
  cases G with
  | nil => rfl
  | cons g G =>
    unfold gAsk gSp
    simp only [List.drop_zero, List.filter_cons]
    by_cases h : g.2.1 = 1
    · simp [h]
    · simp [h]
theorem gSp_mem {G : List gT} {g : gT} (hg : g ∈ gSp G) : (∃ g2 ∈ G, g.2 = g2.2 ∧ ∀ c ∈ g.1, c ∈ g2.1) ∨ (g.2 = (0, 0) ∧ ∀ c ∈ g.1, c ∈ (G.getD 0 g0).1) := by
  cases G with
  | nil => cases hg
  | cons a G =>
    have hg2 : g ∈ (a.1.take (a.1.length - a.1.length / 2), a.2) :: (a.1.drop (a.1.length - a.1.length / 2), 0, 0) :: G := hg
    rcases List.mem_cons.mp hg2 with q | q
    · left
      refine ⟨a, List.mem_cons_self, by rw [q], fun c hc => ?_⟩
      rw [q] at hc
      exact List.mem_of_mem_take hc
    · rcases List.mem_cons.mp q with q | q
      · right
        refine ⟨by rw [q], fun c hc => ?_⟩
        rw [q] at hc
        exact List.mem_of_mem_drop hc
      · left
        exact ⟨g, List.mem_cons_of_mem _ q, rfl, fun c hc => hc⟩
theorem gSp_ne {G : List gT} (h2 : 2 ≤ (G.getD 0 g0).1.length) (hn : gNe G) : gNe (gSp G) := by
  cases G with
  | nil => exact hn
  | cons a G =>
    have h2' : 2 ≤ a.1.length := h2
    intro g hg
    have hg2 : g ∈ (a.1.take (a.1.length - a.1.length / 2), a.2) :: (a.1.drop (a.1.length - a.1.length / 2), 0, 0) :: G := hg
    rcases List.mem_cons.mp hg2 with q | q
    · rw [q]
      intro e
      have := congrArg List.length e
      rw [List.length_take, List.length_nil] at this
      omega
    · rcases List.mem_cons.mp q with q | q
      · rw [q]
        intro e
        have := congrArg List.length e
        rw [List.length_drop, List.length_nil] at this
        omega
      · exact hn g (List.mem_cons_of_mem _ q)
theorem WF.split (hW : WF y) (h2 : 2 ≤ ((yG y).getD 0 g0).1.length) : WF (yGs y (gSp (yG y))) := by
  obtain ⟨w1, w2, w3, w4, w5, w6, w7, w8, w9, w10, w11, w12, w13, w14, w15⟩ := hW
  refine ⟨w1, w2, w3, w4, w5, w6, w7, w8, gSp_ne h2 w9, ?_, ?_, ?_, w13, w14, w15⟩
  · show (gL (gSp (yG y))).Nodup
    rw [gSp_L]; exact w10
  · intro c
    show c ∈ gL (gSp (yG y)) ↔ _
    rw [gSp_L]; exact w11 c
  · intro g hg
    rcases gSp_mem hg with ⟨g2, k1, k2, k3⟩ | ⟨k2, k3⟩
    · rw [k2]; exact w12 g2 k1
    · rw [k2]; exact ⟨by decide, by decide⟩
theorem LaneOk.beg {L : List Nat} {B : List Bool} (hL : LaneOk t L B) (hn : L.Nodup) {k : Nat} (hk : k < L.length) : LaneOk (marr t 9 (L.getD k 0) 1) L (B.set k true) := by
  obtain ⟨h6, h40, hB, h2⟩ := hL
  refine ⟨h6, h40, by rw [List.length_set]; exact hB, ?_⟩
  intro i hi
  obtain ⟨q1, q2, q3⟩ := h2 i hi
  refine ⟨q1, q2, ?_⟩
  by_cases e : i = k
  · subst e
    rw [marr_eq, List.getD_eq_getElem?_getD, List.getElem?_set_self (by omega)]
    rfl
  · have : L.getD i 0 ≠ L.getD k 0 := by
      intro q
      rw [List.getD_eq_getElem?_getD, List.getElem?_eq_getElem hi, List.getD_eq_getElem?_getD, List.getElem?_eq_getElem hk] at q
      exact e (nd_inj hn hi hk (by simpa using q))
    rw [marr_k this, q3, List.getD_eq_getElem?_getD (l := B.set k true), List.getElem?_set_ne (fun q => e q.symm), ← List.getD_eq_getElem?_getD]
theorem RM.split (hW : WF y) (hR : RM y t) (h0 : 0 < (yG y).length) (h2 : 2 ≤ ((yG y).getD 0 g0).1.length) (hz : ((yG y).getD 0 g0).2 = (0, 0)) : RM (yGs y (gSp (yG y))) (marr t 9 ((gL (yG y)).getD (((yG y).getD 0 g0).1.length - ((yG y).getD 0 g0).1.length / 2) 0) 1) := by
  have hall := hR.all
  have hlen := gLen_le hW h0
  have hnd := hW.2.2.2.2.2.2.2.2.2.1
  obtain ⟨r1, rL, rT, rc, r5, r6, r7⟩ := hR
  refine ⟨r1, ?_, rT, rc, r5, r6, ?_⟩
  · show LaneOk _ (gL (gSp (yG y))) (gF (gSp (yG y)))
    rw [gSp_L, gSp_F h2]
    exact rL.beg hnd (by omega)
  · refine gAll_iff.mpr ?_
    intro g hg c hc
    rcases gSp_mem hg with ⟨g2, k1, k2, k3⟩ | ⟨k2, k3⟩
    · rw [k2]; exact hall g2 k1 c (k3 c hc)
    · have := r7 0 h0 c (k3 c hc)
      rw [hz] at this
      rw [k2]
      exact this
theorem rIns_e {xs : List Int32} {k : Nat} {v : Int32} (hl : xs.length < 40) (hk : k ≤ xs.length) : rIns xs (nI k) v = xs.insertIdx k v := by
  unfold rIns
  rw [nI_clamp (by omega), if_neg (by rintro (q | q | q); exact nI_pos (by omega) q; omega; omega)]
def zSp1 (z : zS) (n : Nat) : zS := zG_insG (zput z 9 (nI 0) (nI (n - n / 2))) (nI 1) (nI (n / 2))
theorem RC.split (hW : WF y) (hC : RC y z) (h0 : 0 < (yG y).length) (h2 : 2 ≤ ((yG y).getD 0 g0).1.length) : RC (yGs y (gSp (yG y))) (zSp1 z ((yG y).getD 0 g0).1.length) := by
  have hl : (gSp (yG y)).length ≤ 40 := by
    have h3 := (hW.split h2).gl
    exact h3
  obtain ⟨g, G, hG⟩ : ∃ g G, yG y = g :: G := by
    cases h : yG y with
    | nil => rw [h] at h0; simp at h0
    | cons g G => exact ⟨g, G, rfl⟩
  have e8 := hC.G8
  have e9 := hC.G9
  have e10 := hC.G10
  have e11 := hC.G11
  have h2' : 2 ≤ g.1.length := by rw [hG] at h2; exact h2
  have hg0 : ((yG y).getD 0 g0).1.length = g.1.length := by rw [hG]; rfl
  have hl2 : (gSp (g :: G)).length ≤ 40 := by rw [← hG]; exact hl
  have hl3 : G.length + 2 ≤ 40 := hl2
  have hsp : gSp (yG y) = (g.1.take (g.1.length - g.1.length / 2), g.2) :: (g.1.drop (g.1.length - g.1.length / 2), 0, 0) :: G := by rw [hG]; rfl
  rw [hG] at e9 e10 e11
  rw [hg0]
  refine RC.gs hC ?_ ?_ ?_ ?_ ?_ rfl rfl
  · rw [gSp_L, ← e8]
    rw [zSp1, zG_insG, zins, zrow_ne (by decide), zins, zrow_ne (by decide), zins, zrow_ne (by decide), zput, zrow_ne (by decide)]
  · rw [zSp1, zG_insG, zins, zrow_ne (by decide), zins, zrow_ne (by decide), zins, zrow_same, zput_set (by rw [e9]; simp) (by rw [e9]; simp; omega), e9, rIns_e (by simp; omega) (by simp), hsp]
    simp only [List.map_cons, List.set_cons_zero, List.insertIdx_succ_cons, List.insertIdx_zero, List.length_take, List.length_drop]
    rw [Nat.min_eq_left (by omega), show g.1.length - (g.1.length - g.1.length / 2) = g.1.length / 2 by omega]
  · rw [zSp1, zG_insG, zins, zrow_ne (by decide), zins, zrow_same, zins, zrow_ne (by decide), zput, zrow_ne (by decide), e10, rIns_e (by simp; omega) (by simp), hsp]
    rfl
  · rw [zSp1, zG_insG, zins, zrow_same, zins, zrow_ne (by decide), zins, zrow_ne (by decide), zput, zrow_ne (by decide), e11, rIns_e (by simp; omega) (by simp), hsp]
    rfl
  · intro r hr
    rw [zSp1, zG_insG, zins, zrow_ne (by omega), zins, zrow_ne (by omega), zins, zrow_ne (by omega), zput, zrow_ne (by omega)]
def yHv2 (y : yT) : yT := yGs y (gAn (gSp (yG y)) 0)
def mHv2 (y : yT) (t : mS) (n : Nat) : mS := mset (marr (mAn (gL (yG y)) (gF (yG y)) 0 t) 9 ((gL (yG y)).getD (n - n / 2) 0) 1) 9 (t.1 9 + 1)
theorem op_halve2 (hI : INV y z t) (h0 : 0 < (yG y).length) (h2 : 2 ≤ ((yG y).getD 0 g0).1.length) : INV (yHv2 y) (zQ_halve z) (mHv2 y t ((yG y).getD 0 g0).1.length) := by
  obtain ⟨hW, hC, hR, hS⟩ := hI
  have hl := hW.gl
  have hlen := gLen_le hW h0
  have htl := hW.tl
  have a9 : zat z 9 0 = nI ((yG y).getD 0 g0).1.length := (gatN hC hW h0).2.1
  have hW1 := hW.split h2
  have hC1 := RC.split hW hC h0 h2
  obtain ⟨c1, c2, c3, c4⟩ := RC.anew hC1 hW1.gl (Nat.zero_le _) (fun g hg => (hW1.2.2.2.2.2.2.2.2.2.2.2.1 g hg).1)
  have ez : zQ_halve z = zset (zG_anew (zSp1 z ((yG y).getD 0 g0).1.length) (nI 0)) 5 ((zG_anew (zSp1 z ((yG y).getD 0 g0).1.length) (nI 0)).1 5 + 1) := by
    have e : zG_split z = zG_anew (zSp1 z ((yG y).getD 0 g0).1.length) (nI 0) := by
      unfold zG_split zSp1
      rw [a9, div2 _ (by omega), pk_sub (by omega)]
      rfl
    unfold zQ_halve
    rw [a9, if_neg (show ¬ nI ((yG y).getD 0 g0).1.length ≤ (1 : Int32) from nI_ge (show 1 < ((yG y).getD 0 g0).1.length by omega) (by omega)), e]
  obtain ⟨e1, e2, e3, e4, e5⟩ := mAn_eff hW hR (Nat.zero_le _)
  have hR1 := RM.anew hW hR (Nat.zero_le _)
  have hat := gAn_at (yG y) 0 0 h0
  rw [if_neg (by omega)] at hat
  have hR2 := RM.split (hW.anew 0) hR1 (by show 0 < (gAn (yG y) 0).length; rw [gAn_len]; exact h0) (by show 2 ≤ ((gAn (yG y) 0).getD 0 g0).1.length; rw [hat]; exact h2) (by show ((gAn (yG y) 0).getD 0 g0).2 = _; rw [hat])
  have hR3 : RM (yHv2 y) (marr (mAn (gL (yG y)) (gF (yG y)) 0 t) 9 ((gL (yG y)).getD (((yG y).getD 0 g0).1.length - ((yG y).getD 0 g0).1.length / 2) 0) 1) := by
    have h3 : RM (yGs y (gSp (gAn (yG y) 0))) (marr (mAn (gL (yG y)) (gF (yG y)) 0 t) 9 ((gL (gAn (yG y) 0)).getD (((gAn (yG y) 0).getD 0 g0).1.length - ((gAn (yG y) 0).getD 0 g0).1.length / 2) 0) 1) := hR2
    rw [gSp_an, gAn_L, hat] at h3
    exact h3
  refine ⟨hW1.anew 0, ?_, hR3.sc (Or.inr (Or.inl rfl)) _, ?_⟩
  · rw [ez]; exact c1
  · rw [ez]
    have h5 : (zG_anew (zSp1 z ((yG y).getD 0 g0).1.length) (nI 0)).1 5 = z.1 5 := c3 5 (by decide)
    have hask : gAsk (yG (yGs y (gSp (yG y)))) 0 = gAsk (yG y) 0 := gSp_ask (yG y)
    have h7 : (zG_anew (zSp1 z ((yG y).getD 0 g0).1.length) (nI 0)).1 7 = z.1 7 + nI (gAsk (yG y) 0) := by rw [c2, hask]; rfl
    have hr1 : (zG_anew (zSp1 z ((yG y).getD 0 g0).1.length) (nI 0)).2.1 1 = z.2.1 1 := by
      rw [c4, zSp1, zG_insG, zins, zrow_ne (by omega), zins, zrow_ne (by omega), zins, zrow_ne (by omega), zput, zrow_ne (by omega)]
    have hi : ∀ q, q ≠ 7 → (zG_anew (zSp1 z ((yG y).getD 0 g0).1.length) (nI 0)).1 q = z.1 q := fun q hq => c3 q hq
    generalize zG_anew (zSp1 z ((yG y).getD 0 g0).1.length) (nI 0) = z' at *
    have m0 : ∀ q, q ≠ 9 → (mHv2 y t ((yG y).getD 0 g0).1.length).1 q = (mAn (gL (yG y)) (gF (yG y)) (gB (yG y) 0) t).1 q := by
      intro q hq
      show va_up _ 9 _ q = _
      simp only [va_up, if_neg hq]
      rfl
    have m9 : (mHv2 y t ((yG y).getD 0 g0).1.length).1 9 = t.1 9 + 1 := rfl
    have m1 : (mHv2 y t ((yG y).getD 0 g0).1.length).2 1 = t.2 1 := by
      rw [← e1 1 (by decide) (by decide)]
      exact marr_o (t := mAn (gL (yG y)) (gF (yG y)) 0 t) (a := 9) (b := 1) (k := (gL (yG y)).getD (((yG y).getD 0 g0).1.length - ((yG y).getD 0 g0).1.length / 2) 0) (v := 1) (by decide)
    have z0 : ∀ q, (zset z' 5 (z'.1 5 + 1)).1 q = if q = 5 then z.1 5 + 1 else z'.1 q := by
      intro q
      show va_up z'.1 5 (z'.1 5 + 1) q = _
      rw [h5]
      rfl
    unfold RS at hS ⊢
    rw [z0 0, z0 1, z0 2, z0 3, z0 4, z0 5, z0 7, m0 0 (by decide), m0 1 (by decide), m0 2 (by decide), m0 11 (by decide), m0 8 (by decide), m9, m0 10 (by decide), m1, e4 0 (by decide), e4 1 (by decide), e4 2 (by decide), e4 11 (by decide), e4 8 (by decide), e5]
    obtain ⟨s0, s1, s2, s3, s4, s5, s7, s8, s9, s10⟩ := hS
    refine ⟨?_, ?_, ?_, ?_, ?_, ?_, ?_, ?_, s9, s10⟩
    · rw [if_neg (by decide), hi 0 (by decide)]; exact s0
    · rw [if_neg (by decide), hi 1 (by decide)]; exact s1
    · rw [if_neg (by decide), hi 2 (by decide)]; exact s2
    · rw [if_neg (by decide), hi 3 (by decide)]; exact s3
    · rw [if_neg (by decide), hi 4 (by decide)]; exact s4
    · rw [if_pos rfl, s5]
    · rw [if_neg (by decide), h7, s7]
    · show ∀ c, c < yn y → (z'.2.1 1).getD c (-1) = t.2 1 c
      rw [hr1]; exact s8
theorem yM_sizeOf0 (hR : RM y t) (hW : WF y) (hm : isM p t h) (h0 : 0 < (yG y).length) : AM (d + 1) kM_sizeOf 0 0 none [.ref 28, .int 0] h (fun v h' => v = some (.int (nI ((yG y).getD 0 g0).1.length)) ∧ isM p t h') := yM_sizeOf hR hW hm h0
theorem yM_stateOf0 (hR : RM y t) (hW : WF y) (hm : isM p t h) (h0 : 0 < (yG y).length) : AM (d + 1) kM_stateOf 0 0 none [.ref 28, .int 0] h (fun v h' => v = some (.int (nI ((yG y).getD 0 g0).2.1)) ∧ isM p t h') := yM_stateOf hR hW hm h0
theorem sM_beginAnew0 {L : List Nat} {B : List Bool} (hL : LaneOk t L B) (hm : isM p t h) : AM d kM_beginAnew 0 0 none [.ref 28, .int 0] h (fun v h' => v = none ∧ isM p (mAn L B 0 t) h') := sM_beginAnew (m := 0) hL hm (by decide)
theorem sM_goFrom0 {L : List Nat} {B : List Bool} (hL : LaneOk t L B) (hm : isM p t h) (ha : 0 < L.length) : AM d kM_goFrom 0 0 none [.ref 28, .int 0] h (fun v h' => v = none ∧ isM p (mGo t L B 0) h') := sM_goFrom (a := 0) hL hm ha
theorem LaneOk.an (hW : WF y) (hR : RM y t) : LaneOk (mAn (gL (yG y)) (gF (yG y)) 0 t) (gL (yG y)) (gF (yG y)) := by
  have h : LaneOk (mAn (gL (yG y)) (gF (yG y)) 0 t) (gL (gAn (yG y) 0)) (gF (gAn (yG y) 0)) := (RM.anew hW hR (Nat.zero_le _)).2.1
  rw [gAn_L, gAn_F] at h
  exact h
theorem yM_halve1 (hR : RM y t) (hW : WF y) (hm : isM p t h) (h0 : 0 < (yG y).length) (h1 : ((yG y).getD 0 g0).1.length = 1) : AM (d + 2) kM_halve 0 0 none [.ref 28] h (fun v h' => v = none ∧ isM p (mHv1 y t) h') := by
  have hL1 := LaneOk.an hW hR
  have hlen := gLen_le hW h0
  have h3 := hL1.2.2.2 0 (by omega)
  have e7 : (mGo (mAn (gL (yG y)) (gF (yG y)) 0 t) (gL (yG y)) (gF (yG y)) 0).1 7 = t.1 7 := by
    rw [mGo_1 _ _ _ _ (by decide)]
    exact (mAn_eff hW hR (Nat.zero_le _)).2.2.2.1 7 (by decide)
  refine AX.aload_n rfl rfl ?_
  refine AX.iconstV (v := 0) rfl (by decide) ?_
  refine AX.cVI rfl rfl rfl (M0 hm) (yM_sizeOf0 hR hW hm h0) (fun h hm => ?_)
  refine AX.istore_n rfl (by decide) ?_
  refine AX.aload_n rfl rfl ?_
  refine AX.iconstV (v := 0) rfl (by decide) ?_
  refine AX.cVV rfl rfl rfl (M0 hm) (sM_beginAnew0 hR.2.1 hm) (fun h hm => ?_)
  refine AX.iload_n rfl rfl ?_
  refine AX.iconstV (v := 1) rfl (by decide) ?_
  refine AX.icmp_le rfl (fun _ => ?_) (fun c => absurd (by rw [h1]; decide) c)
  refine AX.aload_n rfl rfl ?_
  refine AX.getf rfl (M0 hm) rfl ?_
  refine AX.iconstV (v := 0) rfl (by decide) ?_
  refine AX.ialdX rfl (MA hm 7 (by decide) (by decide) (by decide)) (by decide) (⟨0, by decide, rfl, h3.1⟩) ?_
  refine AX.istore_n rfl (by decide) ?_
  refine AX.aload_n rfl rfl ?_
  refine AX.iconstV (v := 0) rfl (by decide) ?_
  refine AX.cVV rfl rfl rfl (M0 hm) (sM_goFrom0 hL1 hm (by omega)) (fun h hm => ?_)
  refine AX.aload_n rfl rfl ?_
  refine AX.getf rfl (M0 hm) rfl ?_
  refine AX.iload_n rfl rfl ?_
  refine AX.iconstV (v := 3) rfl (by decide) ?_
  refine AX.iastX ((gL (yG y)).getD 0 0) rfl (MA hm 2 (by decide) (by decide) (by decide)) (by decide) (h3.2.1) (rfl) ?_
  refine AX.gen (G := isM p _) (MW hm 2 _ _ (by decide) (by decide) (by decide)) (fun h hm => ?_)
  refine AX.aload_n rfl rfl ?_
  refine AX.getf rfl (M0 hm) rfl ?_
  refine AX.iload_n rfl rfl ?_
  refine AX.iconstV (v := 1) rfl (by decide) ?_
  refine AX.iastX ((gL (yG y)).getD 0 0) rfl (MA hm 4 (by decide) (by decide) (by decide)) (by decide) (h3.2.1) (rfl) ?_
  refine AX.gen (G := isM p _) (MW hm 4 _ _ (by decide) (by decide) (by decide)) (fun h hm => ?_)
  refine AX.aload_n rfl rfl ?_
  refine AX.getf rfl (M0 hm) rfl ?_
  refine AX.iload_n rfl rfl ?_
  refine AX.aload_n rfl rfl ?_
  refine AX.getf rfl (M0 hm) rfl ?_
  refine AX.iastX ((gL (yG y)).getD 0 0) rfl (MA hm 5 (by decide) (by decide) (by decide)) (by decide) (h3.2.1) (rfl) ?_
  refine AX.gen (G := isM p _) (MW hm 5 _ _ (by decide) (by decide) (by decide)) (fun h hm => ?_)
  exact AX.vreturn rfl rfl ⟨rfl, by unfold mHv1; rw [← e7]; exact hm⟩ (Nat.le_refl _) (Nat.le_refl _)
theorem yM_halve2 (hR : RM y t) (hW : WF y) (hm : isM p t h) (h0 : 0 < (yG y).length) (h2 : 2 ≤ ((yG y).getD 0 g0).1.length) : AM (d + 2) kM_halve 0 0 none [.ref 28] h (fun v h' => v = none ∧ isM p (mHv2 y t ((yG y).getD 0 g0).1.length) h') := by
  have hL1 := LaneOk.an hW hR
  have hlen := gLen_le hW h0
  have h40 := hL1.2.1
  have h3 := hL1.2.2.2 (((yG y).getD 0 g0).1.length - ((yG y).getD 0 g0).1.length / 2) (by omega)
  have e9 : (mAn (gL (yG y)) (gF (yG y)) 0 t).1 9 = t.1 9 := (mAn_eff hW hR (Nat.zero_le _)).2.2.2.1 9 (by decide)
  refine AX.aload_n rfl rfl ?_
  refine AX.iconstV (v := 0) rfl (by decide) ?_
  refine AX.cVI rfl rfl rfl (M0 hm) (yM_sizeOf0 hR hW hm h0) (fun h hm => ?_)
  refine AX.istore_n rfl (by decide) ?_
  refine AX.aload_n rfl rfl ?_
  refine AX.iconstV (v := 0) rfl (by decide) ?_
  refine AX.cVV rfl rfl rfl (M0 hm) (sM_beginAnew0 hR.2.1 hm) (fun h hm => ?_)
  refine AX.iload_n rfl rfl ?_
  refine AX.iconstV (v := 1) rfl (by decide) ?_
  refine AX.icmp_le rfl (fun c => absurd c (show ¬ nI ((yG y).getD 0 g0).1.length ≤ nI 1 from nI_ge (by omega) (by omega))) (fun _ => ?_)
  refine AX.aload_n rfl rfl ?_
  refine AX.getf rfl (M0 hm) rfl ?_
  refine AX.aload_n rfl rfl ?_
  refine AX.getf rfl (M0 hm) rfl ?_
  refine AX.iload_n rfl rfl ?_
  refine AX.iconstV (v := 1) rfl (by decide) ?_
  refine AX.iadd rfl ?_
  refine AX.iconstV (v := 2) rfl (by decide) ?_
  refine AX.idiv rfl (by decide) ?_
  refine AX.ialdX rfl (MA hm 7 (by decide) (by decide) (by decide)) (by decide) (⟨((yG y).getD 0 g0).1.length - ((yG y).getD 0 g0).1.length / 2, by omega, div2b _ (by omega), h3.1⟩) ?_
  refine AX.iconstV (v := 1) rfl (by decide) ?_
  refine AX.zastX ((gL (yG y)).getD (((yG y).getD 0 g0).1.length - ((yG y).getD 0 g0).1.length / 2) 0) rfl (MA9 hm) (by decide) (h3.2.1) (rfl) (by decide) ?_
  refine AX.gen (G := isM p _) (MW9 hm _ _) (fun h hm => ?_)
  refine AX.aload_n rfl rfl ?_
  refine AX.dup rfl rfl ?_
  refine AX.getf rfl (M0 hm) rfl ?_
  refine AX.iconstV (v := 1) rfl (by decide) ?_
  refine AX.iadd rfl ?_
  refine AX.putf rfl (M0 hm) (Nat.le_of_ble_eq_true rfl) rfl ?_
  refine AX.gen (G := isM p _) (MS hm 9 _ (by decide) rfl) (fun h hm => ?_)
  exact AX.vreturn rfl rfl ⟨rfl, by unfold mHv2; rw [← e9]; exact hm⟩ (Nat.le_refl _) (Nat.le_refl _)
end HA
