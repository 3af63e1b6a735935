/-! THE CLASS'S CELLS: the numbers (0 most, 1 width, 2 again, 3 paused, 4 answers, 5 halvings, 6 turnsGiven, 7 askedInVain), the rows (0 ranks, 1 parts, 2 places, 3 reasons, 4 turns, 5 treeSizes, 6 queue, 7 tree, 8 line, 9 sizes, 10 states, 11 failures), the conflicts; behind them other cells T -/
abbrev zS : Type := (Nat → Int32) × (Nat → List Int32) × (Nat → Int64)
def QH (z : zS) (F : Nat → Nat → Int32) (T : ax_H) : ax_H :=
  .inr (3, [.int (z.1 0), .int (z.1 1), .int (z.1 2), .ref 1, .ref 15, .ref 17, .ref 19, .int (z.1 3), .int (z.1 4), .int (z.1 5)]) ::
  .inr (0, [.ref 2, .ref 4, .ref 6, .ref 8, .ref 10, .ref 12, .ref 14, .int (z.1 6)]) ::
  .inr (2, [.ref 3, .int (nI (z.2.1 0).length)]) :: .inl (0, 40, .inl (F 0)) ::
  .inr (2, [.ref 5, .int (nI (z.2.1 1).length)]) :: .inl (0, 40, .inl (F 1)) ::
  .inr (2, [.ref 7, .int (nI (z.2.1 2).length)]) :: .inl (0, 40, .inl (F 2)) ::
  .inr (2, [.ref 9, .int (nI (z.2.1 3).length)]) :: .inl (0, 40, .inl (F 3)) ::
  .inr (2, [.ref 11, .int (nI (z.2.1 4).length)]) :: .inl (0, 40, .inl (F 4)) ::
  .inr (2, [.ref 13, .int (nI (z.2.1 5).length)]) :: .inl (0, 40, .inl (F 5)) ::
  .inl (1, 40, .inr (.inl z.2.2)) ::
  .inr (2, [.ref 16, .int (nI (z.2.1 6).length)]) :: .inl (0, 40, .inl (F 6)) ::
  .inr (2, [.ref 18, .int (nI (z.2.1 7).length)]) :: .inl (0, 40, .inl (F 7)) ::
  .inr (1, [.ref 20, .ref 22, .ref 24, .ref 26, .int (z.1 7)]) ::
  .inr (2, [.ref 21, .int (nI (z.2.1 8).length)]) :: .inl (0, 40, .inl (F 8)) ::
  .inr (2, [.ref 23, .int (nI (z.2.1 9).length)]) :: .inl (0, 40, .inl (F 9)) ::
  .inr (2, [.ref 25, .int (nI (z.2.1 10).length)]) :: .inl (0, 40, .inl (F 10)) ::
  .inr (2, [.ref 27, .int (nI (z.2.1 11).length)]) :: .inl (0, 40, .inl (F 11)) :: T
def rIx (r : Nat) : Nat := ([2, 4, 6, 8, 10, 12, 15, 17, 20, 22, 24, 26] : List Nat).getD r 0
def isQ (z : zS) (T h : ax_H) : Prop := ∃ F : Nat → Nat → Int32, (∀ r, r < 12 → rw_ok (F r) (z.2.1 r)) ∧ h = QH z F T
def zrow (z : zS) (r : Nat) (xs : List Int32) : zS := (z.1, va_up z.2.1 r xs, z.2.2)
def zset (z : zS) (i : Nat) (v : Int32) : zS := (va_up z.1 i v, z.2.1, z.2.2)
def zput (z : zS) (r : Nat) (k v : Int32) : zS := zrow z r (rPut (z.2.1 r) k v)
def zins (z : zS) (r : Nat) (k v : Int32) : zS := zrow z r (rIns (z.2.1 r) k v)
def zapp (z : zS) (r : Nat) (v : Int32) : zS := zrow z r (rIns (z.2.1 r) (nI (z.2.1 r).length) v)
def zrem (z : zS) (r : Nat) (k : Int32) : zS := zrow z r (rRem (z.2.1 r) k)
def zat (z : zS) (r : Nat) (k : Int32) : Int32 := rAt (z.2.1 r) k
section ISQ
variable {z : zS} {T h : ax_H} {d : Nat}
theorem Q0 (hq : isQ z T h) : h[0]? = some (.inr (3, [.int (z.1 0), .int (z.1 1), .int (z.1 2), .ref 1, .ref 15, .ref 17, .ref 19, .int (z.1 3), .int (z.1 4), .int (z.1 5)])) := by
  obtain ⟨F, -, rfl⟩ := hq; rfl
theorem Q1 (hq : isQ z T h) : h[1]? = some (.inr (0, [.ref 2, .ref 4, .ref 6, .ref 8, .ref 10, .ref 12, .ref 14, .int (z.1 6)])) := by
  obtain ⟨F, -, rfl⟩ := hq; rfl
theorem Q19 (hq : isQ z T h) : h[19]? = some (.inr (1, [.ref 20, .ref 22, .ref 24, .ref 26, .int (z.1 7)])) := by
  obtain ⟨F, -, rfl⟩ := hq; rfl
theorem Q14 (hq : isQ z T h) : h[14]? = some (.inl (1, 40, .inr (.inl z.2.2))) := by
  obtain ⟨F, -, rfl⟩ := hq; rfl
theorem QS3 (hq : isQ z T h) (v : Int32) : isQ (zset z 3 v) T (h.set 0 (.inr (3, [.int (z.1 0), .int (z.1 1), .int (z.1 2), .ref 1, .ref 15, .ref 17, .ref 19, .int v, .int (z.1 4), .int (z.1 5)]))) := by
  obtain ⟨F, ok, rfl⟩ := hq; exact ⟨F, ok, rfl⟩
theorem QS4 (hq : isQ z T h) (v : Int32) : isQ (zset z 4 v) T (h.set 0 (.inr (3, [.int (z.1 0), .int (z.1 1), .int (z.1 2), .ref 1, .ref 15, .ref 17, .ref 19, .int (z.1 3), .int v, .int (z.1 5)]))) := by
  obtain ⟨F, ok, rfl⟩ := hq; exact ⟨F, ok, rfl⟩
theorem QS5 (hq : isQ z T h) (v : Int32) : isQ (zset z 5 v) T (h.set 0 (.inr (3, [.int (z.1 0), .int (z.1 1), .int (z.1 2), .ref 1, .ref 15, .ref 17, .ref 19, .int (z.1 3), .int (z.1 4), .int v]))) := by
  obtain ⟨F, ok, rfl⟩ := hq; exact ⟨F, ok, rfl⟩
theorem QS6 (hq : isQ z T h) (v : Int32) : isQ (zset z 6 v) T (h.set 1 (.inr (0, [.ref 2, .ref 4, .ref 6, .ref 8, .ref 10, .ref 12, .ref 14, .int v]))) := by
  obtain ⟨F, ok, rfl⟩ := hq; exact ⟨F, ok, rfl⟩
theorem QS7 (hq : isQ z T h) (v : Int32) : isQ (zset z 7 v) T (h.set 19 (.inr (1, [.ref 20, .ref 22, .ref 24, .ref 26, .int v]))) := by
  obtain ⟨F, ok, rfl⟩ := hq; exact ⟨F, ok, rfl⟩
theorem QC (hq : isQ z T h) (f : Nat → Int64) : isQ (z.1, z.2.1, f) T (h.set 14 (.inl (1, 40, .inr (.inl f)))) := by
  obtain ⟨F, ok, rfl⟩ := hq; exact ⟨F, ok, rfl⟩
theorem QR (hq : isQ z T h) (r : Nat) (hr : r < 12) : ∃ f, h[rIx r]? = some (.inr (2, [.ref (rIx r + 1), .int (nI (z.2.1 r).length)])) ∧ h[rIx r + 1]? = some (.inl (0, 40, .inl f)) ∧ rw_ok f (z.2.1 r) ∧ ∀ xs f', rw_ok f' xs → isQ (zrow z r xs) T ((h.set (rIx r + 1) (.inl (0, 40, .inl f'))).set (rIx r) (.inr (2, [.ref (rIx r + 1), .int (nI xs.length)]))) := by
  obtain ⟨F, ok, rfl⟩ := hq
  refine ⟨F r, ?_, ?_, ok r hr, fun xs f' ok' => ⟨va_up F r f', fun q hq => ?_, ?_⟩⟩
  · rcases (show r = 0 ∨ r = 1 ∨ r = 2 ∨ r = 3 ∨ r = 4 ∨ r = 5 ∨ r = 6 ∨ r = 7 ∨ r = 8 ∨ r = 9 ∨ r = 10 ∨ r = 11 by omega) with rfl | rfl | rfl | rfl | rfl | rfl | rfl | rfl | rfl | rfl | rfl | rfl <;> rfl
  · rcases (show r = 0 ∨ r = 1 ∨ r = 2 ∨ r = 3 ∨ r = 4 ∨ r = 5 ∨ r = 6 ∨ r = 7 ∨ r = 8 ∨ r = 9 ∨ r = 10 ∨ r = 11 by omega) with rfl | rfl | rfl | rfl | rfl | rfl | rfl | rfl | rfl | rfl | rfl | rfl <;> rfl
  · show rw_ok (va_up F r f' q) (va_up z.2.1 r xs q)
    unfold va_up
    by_cases e : q = r
    · rw [if_pos e, if_pos e]; exact ok'
    · rw [if_neg e, if_neg e]; exact ok q hq
  · rcases (show r = 0 ∨ r = 1 ∨ r = 2 ∨ r = 3 ∨ r = 4 ∨ r = 5 ∨ r = 6 ∨ r = 7 ∨ r = 8 ∨ r = 9 ∨ r = 10 ∨ r = 11 by omega) with rfl | rfl | rfl | rfl | rfl | rfl | rfl | rfl | rfl | rfl | rfl | rfl <;> rfl
theorem QRo (hq : isQ z T h) (r : Nat) (hr : r < 12) : h[rIx r]? = some (.inr (2, [.ref (rIx r + 1), .int (nI (z.2.1 r).length)])) := (QR hq r hr).choose_spec.1
theorem AX.gen {k C S : Nat} {X : Option (Nat × (Nat → Int32))} {pc : Nat} {lv : ax_L} {st : List Value} {n1 n2 : Nat} {F : ax_F} {G : ax_H → Prop} (hG : G h) (kk : ∀ h', G h' → AX d k C S X pc lv st h' n1 n2 F) : AX d k C S X pc lv st h n1 n2 F := kk h hG
theorem AX.alenV {k C S : Nat} {X : Option (Nat × (Nat → Int32))} {pc nx a1 a2 : Nat} {lv : ax_L} {st : List Value} {n1 n2 : Nat} {F : ax_F} {i t : Nat} {x : vp_A} {v : Int32} (hi : m_i k pc = some (.arraylength, 1, nx, a1, a2)) (hh : h[i]? = some (.inl (t, x))) (ht : t < 3) (hv : Int32.ofNat x.1 = v) (kk : AX d k C S X nx lv (.int v :: st) h n1 n2 F) : AX d k C S X pc lv (.ref i :: st) h n1 n2 F := by
  subst hv; exact AX.alen hi hh ht kk
theorem AX.if_eqB {k C S : Nat} {X : Option (Nat × (Nat → Int32))} {pc nx a1 a2 : Nat} {lv : ax_L} {st : List Value} {n1 n2 : Nat} {F : ax_F} {b : Bool} {off : Int} (hi : m_i k pc = some (.ifCond .eq off, 3, nx, a1, a2)) (kt : b = false → AX d k C S X a1 lv st h n1 n2 F) (kf : b = true → AX d k C S X nx lv st h n1 n2 F) : AX d k C S X pc lv (.int (bI b) :: st) h n1 n2 F :=
  AX.if_eq hi (fun c => kt (bI_0.mp c)) (fun c => kf (by cases b with | true => rfl | false => exact absurd rfl c))
theorem AX.if_neB {k C S : Nat} {X : Option (Nat × (Nat → Int32))} {pc nx a1 a2 : Nat} {lv : ax_L} {st : List Value} {n1 n2 : Nat} {F : ax_F} {b : Bool} {off : Int} (hi : m_i k pc = some (.ifCond .ne off, 3, nx, a1, a2)) (kt : b = true → AX d k C S X a1 lv st h n1 n2 F) (kf : b = false → AX d k C S X nx lv st h n1 n2 F) : AX d k C S X pc lv (.int (bI b) :: st) h n1 n2 F :=
  AX.if_ne hi (fun c => kt (by cases b with | true => rfl | false => exact absurd rfl c)) (fun c => kf (bI_0.mp c))
theorem AX.sub {k C S : Nat} {X : Option (Nat × (Nat → Int32))} {pc : Nat} {lv lv' : ax_L} {st : List Value} {n1 n2 : Nat} {F : ax_F} (ks : List Nat) (e : lv_pick lv ks = lv') (kk : AX d k C S X pc lv' st h n1 n2 F) : AX d k C S X pc lv st h n1 n2 F := by
  intro l D cid b p e0 R s m args below meth c A Q n0 ad0 Cx hF ad H locs ls hr
  obtain ⟨hP, hD, hS, hl, hg, hn, hz⟩ := hr
  refine kk l D cid b p e0 R s m args below meth c A Q n0 ad0 Cx hF ad H locs ls ⟨hP, hD, hS, lv_sub hl ks ?_, hg, hn, hz⟩
  rw [← e]
  unfold lv_pick ax_l
  rw [List.map_filterMap]
  congr 1
  funext q
  rw [List.getElem?_map]
theorem wCount (hq : isQ z T h) (r : Nat) (hr : r < 12) : AM d kR_count 0 0 none [.ref (rIx r)] h (fun v h' => v = some (.int (nI (z.2.1 r).length)) ∧ isQ z T h') := by
  obtain ⟨f, h1, h2, ok, up⟩ := QR hq r hr
  exact AM.imp (s_count h1) (fun v h' q => ⟨q.1, by rw [q.2]; exact hq⟩)
theorem wHas (hq : isQ z T h) (r : Nat) (hr : r < 12) (k : Int32) : AM d kR_has 0 0 none [.ref (rIx r), .int k] h (fun v h' => v = some (.int (bI (rHas (z.2.1 r) k))) ∧ isQ z T h') := by
  obtain ⟨f, h1, h2, ok, up⟩ := QR hq r hr
  exact AM.imp (s_has k h1 h2 ok) (fun v h' q => ⟨q.1, by rw [q.2]; exact hq⟩)
theorem wAt (hq : isQ z T h) (r : Nat) (hr : r < 12) (k : Int32) : AM (d + 1) kR_at 0 0 none [.ref (rIx r), .int k] h (fun v h' => v = some (.int (zat z r k)) ∧ isQ z T h') := by
  obtain ⟨f, h1, h2, ok, up⟩ := QR hq r hr
  exact AM.imp (s_at k h1 h2 ok) (fun v h' q => ⟨q.1, by rw [q.2]; exact hq⟩)
theorem wFind (hq : isQ z T h) (r : Nat) (hr : r < 12) (v : Int32) : AM (d + 2) kR_find 0 0 none [.ref (rIx r), .int v] h (fun u h' => u = some (.int (rFind (z.2.1 r) v)) ∧ isQ z T h') := by
  obtain ⟨f, h1, h2, ok, up⟩ := QR hq r hr
  exact AM.imp (s_find v h1 h2 ok) (fun v h' q => ⟨q.1, by rw [q.2]; exact hq⟩)
theorem wPut (hq : isQ z T h) (r : Nat) (hr : r < 12) (k v : Int32) : AM (d + 1) kR_put 0 0 none [.ref (rIx r), .int k, .int v] h (fun u h' => u = none ∧ isQ (zput z r k v) T h') := by
  obtain ⟨f, h1, h2, ok, up⟩ := QR hq r hr
  exact AM.imp (s_put k v h1 h2 ok) (fun v h' q => ⟨q.1, by obtain ⟨f', g1, g2⟩ := q.2; rw [g2]; exact up _ f' g1⟩)
theorem wIns (hq : isQ z T h) (r : Nat) (hr : r < 12) (k v : Int32) : AM (d + 1) kR_insert 0 0 none [.ref (rIx r), .int k, .int v] h (fun u h' => u = none ∧ isQ (zins z r k v) T h') := by
  obtain ⟨f, h1, h2, ok, up⟩ := QR hq r hr
  exact AM.imp (s_insert k v h1 h2 ok) (fun v h' q => ⟨q.1, by obtain ⟨f', g1, g2⟩ := q.2; rw [g2]; exact up _ f' g1⟩)
theorem wApp (hq : isQ z T h) (r : Nat) (hr : r < 12) (v : Int32) : AM (d + 2) kR_append 0 0 none [.ref (rIx r), .int v] h (fun u h' => u = none ∧ isQ (zapp z r v) T h') := by
  obtain ⟨f, h1, h2, ok, up⟩ := QR hq r hr
  exact AM.imp (s_append v h1 h2 ok) (fun v h' q => ⟨q.1, by obtain ⟨f', g1, g2⟩ := q.2; rw [g2]; exact up _ f' g1⟩)
theorem wRem (hq : isQ z T h) (r : Nat) (hr : r < 12) (k : Int32) : AM (d + 1) kR_removeAt 0 0 none [.ref (rIx r), .int k] h (fun u h' => u = none ∧ isQ (zrem z r k) T h') := by
  obtain ⟨f, h1, h2, ok, up⟩ := QR hq r hr
  exact AM.imp (s_removeAt k h1 h2 ok) (fun v h' q => ⟨q.1, by obtain ⟨f', g1, g2⟩ := q.2; rw [g2]; exact up _ f' g1⟩)
end ISQ
