/-! TO BEGIN ANEW, from a group on -/
section AN
variable {y : yT} {z : zS} {t : mS}
theorem rPut_set {xs : List Int32} {m : Nat} {v : Int32} (hm : m < xs.length) (h : xs.length ≤ 40) : rPut xs (nI m) v = xs.set m v := by
  unfold rPut
  rw [rHas_nI (by omega), if_pos (by simpa using hm), nI_clamp (by omega)]
theorem set_take {xs : List Int32} {m : Nat} {v : Int32} (hm : m < xs.length) : (xs.set m v).take (m + 1) = xs.take m ++ [v] := by
  rw [List.take_succ, List.take_set_of_le (Nat.le_refl _), List.getElem?_set_self hm]
  rfl
theorem set_drop {xs : List Int32} {m : Nat} {v : Int32} : (xs.set m v).drop (m + 1) = xs.drop (m + 1) := by
  rw [List.drop_set_of_lt (by omega)]
def nOne (xs : List Int32) : Nat := (xs.filter (fun x => x == 1)).length
theorem zAnew_eff : ∀ (n m : Nat) (z : zS), (z.2.1 10).length = m + n → (z.2.1 11).length = m + n → m + n ≤ 40 →
    (zAnew n m z).2.1 10 = (z.2.1 10).take m ++ List.replicate n 0 ∧ (zAnew n m z).2.1 11 = (z.2.1 11).take m ++ List.replicate n 0 ∧ (∀ r, r ≠ 10 → r ≠ 11 → (zAnew n m z).2.1 r = z.2.1 r) ∧ (zAnew n m z).2.2 = z.2.2 ∧ (∀ i, i ≠ 7 → (zAnew n m z).1 i = z.1 i) ∧ (zAnew n m z).1 7 = z.1 7 + nI (nOne ((z.2.1 10).drop m)) := by
  intro n
  induction n with
  | zero =>
    intro m z h1 h2 _
    refine ⟨?_, ?_, fun _ _ _ => rfl, rfl, fun _ _ => rfl, ?_⟩
    · rw [List.take_of_length_le (by omega)]; simp [zAnew]
    · rw [List.take_of_length_le (by omega)]; simp [zAnew]
    · rw [List.drop_eq_nil_of_le (by omega)]
      show z.1 7 = z.1 7 + 0
      rw [Int32.add_zero]
  | succ n ih =>
    intro m z h1 h2 h3
    have hm10 : m < (z.2.1 10).length := by omega
    have hm11 : m < (z.2.1 11).length := by omega
    have e10 : (zAnew1 z m).2.1 10 = (z.2.1 10).set m 0 := by
      unfold zAnew1
      rw [zput, zrow_ne (by decide), zput, zrow_same]
      have : (if zat z 10 (nI m) = 1 then zset z 7 (z.1 7 + 1) else z).2.1 = z.2.1 := by split <;> rfl
      rw [this, rPut_set hm10 (by omega)]
    have e11 : (zAnew1 z m).2.1 11 = (z.2.1 11).set m 0 := by
      unfold zAnew1
      rw [zput, zrow_same, zput, zrow_ne (by decide)]
      have : (if zat z 10 (nI m) = 1 then zset z 7 (z.1 7 + 1) else z).2.1 = z.2.1 := by split <;> rfl
      rw [this, rPut_set hm11 (by omega)]
    have er : ∀ r, r ≠ 10 → r ≠ 11 → (zAnew1 z m).2.1 r = z.2.1 r := by
      intro r q1 q2
      unfold zAnew1
      rw [zput, zrow_ne q2, zput, zrow_ne q1]
      split <;> rfl
    have ec : (zAnew1 z m).2.2 = z.2.2 := by unfold zAnew1; rw [zput, zput]; show (if _ then _ else _ : zS).2.2 = _; split <;> rfl
    have ei : ∀ i, i ≠ 7 → (zAnew1 z m).1 i = z.1 i := by
      intro i hi
      unfold zAnew1
      show (if _ then _ else _ : zS).1 i = _
      split
      · simp [zset, va_up, hi]
      · rfl
    have hat : zat z 10 (nI m) = (z.2.1 10).getD m (-1) := rAt_nI (by omega)
    have hdr := drop_getD (l := z.2.1 10) (m := m) (x := -1) hm10
    have e7 : (zAnew1 z m).1 7 = z.1 7 + nI (if (z.2.1 10).getD m (-1) = 1 then 1 else 0) := by
      unfold zAnew1
      show (if zat z 10 (nI m) = 1 then zset z 7 (z.1 7 + 1) else z : zS).1 7 = _
      rw [hat]
      split
      · rfl
      · show z.1 7 = z.1 7 + 0
        rw [Int32.add_zero]
    obtain ⟨i1, i2, i3, i4, i5, i6⟩ := ih (m + 1) (zAnew1 z m) (by rw [e10, List.length_set]; omega) (by rw [e11, List.length_set]; omega) (by omega)
    rw [zAnew]
    refine ⟨?_, ?_, fun r q1 q2 => (i3 r q1 q2).trans (er r q1 q2), i4.trans ec, fun i hi => (i5 i hi).trans (ei i hi), ?_⟩
    · rw [i1, e10, set_take hm10, List.append_assoc]; rfl
    · rw [i2, e11, set_take hm11, List.append_assoc]; rfl
    · rw [i6, e7, e10, set_drop, Int32.add_assoc, nI_add, hdr]
      congr 2
      unfold nOne
      rw [List.filter_cons]
      by_cases hq : (z.2.1 10).getD m (-1) = 1
      · rw [if_pos hq, hq]
        simp
        omega
      · rw [if_neg hq]
        have : ((z.2.1 10).getD m (-1) == 1) = false := by simpa using hq
        rw [this]
        simp
def yGs (y : yT) (G : List gT) : yT := (y.1, y.2.1, y.2.2.1, y.2.2.2.1, G)
def gAn (G : List gT) (i : Nat) : List gT := G.take i ++ (G.drop i).map (fun g => (g.1, 0, 0))
def gAsk (G : List gT) (i : Nat) : Nat := ((G.drop i).filter (fun g => decide (g.2.1 = 1))).length
theorem gAn_map {α : Type} (f : List Nat → α) (G : List gT) (i : Nat) : (gAn G i).map (fun g => f g.1) = G.map (fun g => f g.1) := by
  unfold gAn
  conv => rhs; rw [← List.take_append_drop i G]
  rw [List.map_append, List.map_append, List.map_map]
  rfl
theorem gAn_L (G : List gT) (i : Nat) : gL (gAn G i) = gL G := by
  have h := gAn_map id G i
  unfold gL
  rw [List.flatMap_def, List.flatMap_def]
  exact congrArg List.flatten h
theorem gAn_F (G : List gT) (i : Nat) : gF (gAn G i) = gF G := by
  have h := gAn_map gF1 G i
  unfold gF
  rw [List.flatMap_def, List.flatMap_def]
  exact congrArg List.flatten h
theorem gAn_len (G : List gT) (i : Nat) : (gAn G i).length = G.length := by
  have h := congrArg List.length (gAn_map id G i)
  rw [List.length_map, List.length_map] at h
  exact h
theorem gAn_at (G : List gT) (i q : Nat) (hq : q < G.length) : (gAn G i).getD q g0 = if q < i then G.getD q g0 else ((G.getD q g0).1, 0, 0) := by
  unfold gAn
  by_cases h : q < i
  · rw [if_pos h, List.getD_eq_getElem?_getD, List.getElem?_append_left (by rw [List.length_take]; omega), List.getElem?_take, if_pos h, List.getD_eq_getElem?_getD]
  · rw [if_neg h, List.getD_eq_getElem?_getD, List.getElem?_append_right (by rw [List.length_take]; omega), List.getElem?_map, List.length_take, List.getElem?_drop]
    have e : i + (q - min i G.length) = q := by omega
    rw [e, List.getElem?_eq_getElem hq, List.getD_eq_getElem?_getD, List.getElem?_eq_getElem hq]
    rfl
theorem gAn_gB (G : List gT) (i q : Nat) : gB (gAn G i) q = gB G q := by
  unfold gB
  rw [List.map_take, List.map_take, gAn_map List.length G i]
theorem RC.anew (hC : RC y z) (hl : (yG y).length ≤ 40) {i : Nat} (hi : i ≤ (yG y).length) (hs : ∀ g ∈ yG y, g.2.1 ≤ 3) : RC (yGs y (gAn (yG y) i)) (zG_anew z (nI i)) ∧ (zG_anew z (nI i)).1 7 = z.1 7 + nI (gAsk (yG y) i) ∧ (∀ q, q ≠ 7 → (zG_anew z (nI i)).1 q = z.1 q) ∧ (zG_anew z (nI i)).2.1 1 = z.2.1 1 := by
  have l10 : (z.2.1 10).length = (yG y).length := by rw [hC.G10, List.length_map]
  have l11 : (z.2.1 11).length = (yG y).length := by rw [hC.G11, List.length_map]
  have e := zAnew_eff ((z.2.1 10).length - i) i z (by omega) (by omega) (by omega)
  unfold zG_anew
  rw [nI_clamp (by omega)]
  obtain ⟨i1, i2, i3, i4, i5, i6⟩ := e
  refine ⟨?_, ?_, i5, i3 1 (by decide) (by decide)⟩
  · rw [RC_iff] at hC ⊢
    obtain ⟨q1, q2, q3, q4⟩ := hC
    refine ⟨fun r h1 h2 => ?_, by rw [i3 1 (by decide) (by decide)]; exact q2, by rw [i5 6 (by decide)]; exact q3, fun a b ha hb => ?_⟩
    · have hrep : ∀ f : gT → Int32, f = (fun g => nI g.2.1) ∨ f = (fun g => nI g.2.2) → ((yG y).map f).take i ++ List.replicate ((z.2.1 10).length - i) 0 = (gAn (yG y) i).map f := by
        intro f hf
        unfold gAn
        rw [List.map_append, List.map_take, List.map_map]
        congr 1
        rw [l10]
        apply List.ext_getElem?
        intro j
        rw [List.getElem?_replicate, List.getElem?_map, List.getElem?_drop]
        by_cases hj : j < (yG y).length - i
        · rw [if_pos hj, List.getElem?_eq_getElem (by omega)]
          rcases hf with rfl | rfl <;> rfl
        · rw [if_neg hj, List.getElem?_eq_none (by omega)]
          rfl
      rcases (show r = 0 ∨ r = 2 ∨ r = 3 ∨ r = 4 ∨ r = 5 ∨ r = 6 ∨ r = 7 ∨ r = 8 ∨ r = 9 ∨ r = 10 ∨ r = 11 by omega) with rfl | rfl | rfl | rfl | rfl | rfl | rfl | rfl | rfl | rfl | rfl
      · rw [i3 0 (by decide) (by decide)]; exact q1 0 (by decide) (by decide)
      · rw [i3 2 (by decide) (by decide)]; exact q1 2 (by decide) (by decide)
      · rw [i3 3 (by decide) (by decide)]; exact q1 3 (by decide) (by decide)
      · rw [i3 4 (by decide) (by decide)]; exact q1 4 (by decide) (by decide)
      · rw [i3 5 (by decide) (by decide)]; exact q1 5 (by decide) (by decide)
      · rw [i3 6 (by decide) (by decide)]; exact q1 6 (by decide) (by decide)
      · rw [i3 7 (by decide) (by decide)]; exact q1 7 (by decide) (by decide)
      · rw [i3 8 (by decide) (by decide), q1 8 (by decide) (by decide)]
        show (gL (yG y)).map nI = (gL (gAn (yG y) i)).map nI
        rw [gAn_L]
      · rw [i3 9 (by decide) (by decide), q1 9 (by decide) (by decide)]
        exact (gAn_map (fun l => nI l.length) (yG y) i).symm
      · rw [i1, q1 10 (by decide) (by decide)]
        have := hrep (fun g => nI g.2.1) (Or.inl rfl)
        rw [q1 10 (by decide) (by decide)] at this
        exact this
      · rw [i2, q1 11 (by decide) (by decide)]
        exact hrep (fun g => nI g.2.2) (Or.inr rfl)
    · have : zConf (zAnew ((z.2.1 10).length - i) i z) (nI a) (nI b) = zConf z (nI a) (nI b) := by
        unfold zConf
        rw [i4]
      rw [this]
      exact q4 a b ha hb
  · rw [i6, hC.G10]
    congr 2
    unfold nOne gAsk
    rw [← List.map_drop, List.filter_map, List.length_map]
    congr 1
    apply List.filter_congr
    intro g hg
    have := hs g (List.mem_of_mem_drop hg)
    simp only [Function.comp]
    have e : (nI g.2.1 = 1) ↔ g.2.1 = 1 := nI_eq (a := g.2.1) (b := 1) (by omega) (by decide)
    by_cases h : g.2.1 = 1
    · simp [h]; rfl
    · have h2 : ¬ nI g.2.1 = 1 := fun q => h (e.mp q)
      simp [h, h2]
/-- the model's, by pairs -/
def mAnP : List (Nat × Bool) → mS → mS
  | [], t => t
  | q :: ps, t => mAnP ps (mAn1 t q.1 q.2)
theorem mAnew_P {L : List Nat} {B : List Bool} (hB : B.length = L.length) : ∀ (r m : Nat) (t : mS), L.length = m + r → mAnew L B r m t = mAnP ((L.zip B).drop m) t := by
  intro r
  induction r with
  | zero =>
    intro m t h
    rw [List.drop_eq_nil_of_le (by rw [List.length_zip]; omega)]
    rfl
  | succ r ih =>
    intro m t h
    rw [drop_getD (x := (0, false)) (show m < (L.zip B).length by rw [List.length_zip]; omega), mAnew, mAnP, ih (m + 1) _ (by omega)]
    have e : (L.zip B).getD m (0, false) = (L.getD m 0, B.getD m false) := by
      rw [List.getD_eq_getElem?_getD, List.getElem?_eq_getElem (by rw [List.length_zip]; omega), List.getD_eq_getElem?_getD, List.getElem?_eq_getElem (show m < L.length by omega), List.getD_eq_getElem?_getD, List.getElem?_eq_getElem (show m < B.length by omega)]
      simp
    rw [e]
def nPair (s : Nat → Int32) (ps : List (Nat × Bool)) : Nat := (ps.filter (fun q => q.2 && decide (s q.1 = 1))).length
theorem mAnP_eff : ∀ (ps : List (Nat × Bool)) (t : mS), (ps.map (fun q => q.1)).Nodup →
    (∀ a, a ≠ 10 → a ≠ 11 → (mAnP ps t).2 a = t.2 a) ∧ (∀ c, (mAnP ps t).2 10 c = if c ∈ ps.map (fun q => q.1) then 0 else t.2 10 c) ∧ (∀ c, (mAnP ps t).2 11 c = if c ∈ ps.map (fun q => q.1) then 0 else t.2 11 c) ∧ (∀ i, i ≠ 10 → (mAnP ps t).1 i = t.1 i) ∧ (mAnP ps t).1 10 = t.1 10 + nI (nPair (t.2 10) ps) := by
  intro ps
  induction ps with
  | nil =>
    intro t _
    refine ⟨fun _ _ _ => rfl, fun c => ?_, fun c => ?_, fun _ _ => rfl, ?_⟩
    · simp [mAnP]
    · simp [mAnP]
    · show t.1 10 = t.1 10 + 0
      rw [Int32.add_zero]
  | cons q ps ih =>
    intro t hn
    rw [List.map_cons, List.nodup_cons] at hn
    obtain ⟨i1, i2, i3, i4, i5⟩ := ih (mAn1 t q.1 q.2) hn.2
    have a10 : ∀ c, (mAn1 t q.1 q.2).2 10 c = if c = q.1 then 0 else t.2 10 c := by
      intro c
      show (marr (marr (mset t 10 _) 10 q.1 0) 11 q.1 0).2 10 c = _
      rw [marr_o (by decide)]
      by_cases e : c = q.1
      · rw [if_pos e, e, marr_eq]
      · rw [if_neg e, marr_k e]; rfl
    have a11 : ∀ c, (mAn1 t q.1 q.2).2 11 c = if c = q.1 then 0 else t.2 11 c := by
      intro c
      show (marr (marr (mset t 10 _) 10 q.1 0) 11 q.1 0).2 11 c = _
      by_cases e : c = q.1
      · rw [if_pos e, e, marr_eq]
      · rw [if_neg e, marr_k e, marr_o (by decide)]; rfl
    rw [mAnP]
    refine ⟨?_, ?_, ?_, ?_, ?_⟩
    · intro a h1 h2
      rw [i1 a h1 h2]
      show (marr (marr (mset t 10 _) 10 q.1 0) 11 q.1 0).2 a = _
      rw [marr_o h2, marr_o h1]
      rfl
    · intro c
      rw [i2 c, a10 c, List.map_cons]
      by_cases e : c = q.1
      · rw [if_pos e, e]; simp
      · rw [if_neg e]; simp [e]
    · intro c
      rw [i3 c, a11 c, List.map_cons]
      by_cases e : c = q.1
      · rw [if_pos e, e]; simp
      · rw [if_neg e]; simp [e]
    · intro i hi
      rw [i4 i hi]
      show va_up t.1 10 _ i = t.1 i
      simp [va_up, hi]
    · rw [i5]
      have e1 : (mAn1 t q.1 q.2).1 10 = t.1 10 + (if q.2 = true ∧ t.2 10 q.1 = 1 then 1 else 0) := rfl
      have e2 : nPair ((mAn1 t q.1 q.2).2 10) ps = nPair (t.2 10) ps := by
        unfold nPair
        congr 1
        apply List.filter_congr
        intro x hx
        have hne : x.1 ≠ q.1 := fun e => hn.1 (by rw [← e]; exact List.mem_map.mpr ⟨x, hx, rfl⟩)
        rw [a10 x.1, if_neg hne]
      rw [e1, e2, Int32.add_assoc]
      congr 1
      unfold nPair
      rw [List.filter_cons]
      by_cases h : q.2 = true ∧ t.2 10 q.1 = 1
      · rw [if_pos h, h.1, show (1 : Int32) = nI 1 from rfl, nI_add]
        have : decide (t.2 10 q.1 = nI 1) = true := decide_eq_true (show t.2 10 q.1 = nI 1 from h.2)
        rw [this, Bool.true_and, if_pos rfl, List.length_cons]
        congr 1
        omega
      · rw [if_neg h]
        have : (q.2 && decide (t.2 10 q.1 = 1)) = false := by
          cases hq : (q.2 && decide (t.2 10 q.1 = 1)) with
          | false => rfl
          | true => simp only [Bool.and_eq_true, decide_eq_true_eq] at hq; exact absurd hq h
        rw [this, if_neg (by decide), Int32.zero_add]
theorem nPair_gF {s : Nat → Int32} : ∀ (H : List gT), gNe H → (∀ g ∈ H, g.2.1 ≤ 3 ∧ ∀ c ∈ g.1, s c = nI g.2.1) → nPair s ((gL H).zip (gF H)) = (H.filter (fun g => decide (g.2.1 = 1))).length := by
  intro H
  induction H with
  | nil => intro _ _; rfl
  | cons g H ih =>
    intro hn hs
    obtain ⟨c, r, hr⟩ : ∃ c r, g.1 = c :: r := by
      cases h : g.1 with
      | nil => exact absurd h (hn g List.mem_cons_self)
      | cons c r => exact ⟨c, r, rfl⟩
    have h1 := ih (gNe_tl hn) (fun q hq => hs q (List.mem_cons_of_mem _ hq))
    obtain ⟨h3, h4⟩ := hs g List.mem_cons_self
    have hc := h4 c (by rw [hr]; exact List.mem_cons_self)
    unfold nPair at h1 ⊢
    rw [gL_cons, gF_cons, List.zip_append (gF1_len g.1).symm, List.filter_append, List.length_append, h1, List.filter_cons]
    have e2 : (((r.zip (r.map (fun _ => false))).filter (fun q => q.2 && decide (s q.1 = 1)))) = [] := by
      rw [List.filter_eq_nil_iff]
      intro q hq
      have : q.2 = false := by
        have h5 := (List.of_mem_zip hq).2
        obtain ⟨_, -, e⟩ := List.mem_map.mp h5
        exact e.symm
      simp [this]
    have e1 : ((g.1.zip (gF1 g.1)).filter (fun q => q.2 && decide (s q.1 = 1))).length = if g.2.1 = 1 then 1 else 0 := by
      rw [hr]
      simp only [gF1, List.zip_cons_cons, List.filter_cons, Bool.true_and]
      rw [e2, hc]
      have e : (nI g.2.1 = 1) ↔ g.2.1 = 1 := nI_eq (a := g.2.1) (b := 1) (by omega) (by decide)
      by_cases h : g.2.1 = 1
      · have h2 := e.mpr h
        simp [h]
        rfl
      · have h2 : ¬ nI g.2.1 = 1 := fun q => h (e.mp q)
        simp [h, h2]
    rw [e1]
    by_cases h : g.2.1 = 1
    · simp [h]; omega
    · simp [h]
end AN
