/-! THE MODEL'S READS -/
section MR
variable {p : ax_H} {t : mS} {h : ax_H} {d : Nat}
theorem sM_isChange {n : Nat} (hn4 : t.1 4 = nI n) (hn : n ≤ 40) (hm : isM p t h) (c : Int32) : AM d kM_isChange 0 0 none [.ref 28, .int c] h (fun r h' => r = some (.int (bI (!decide (c < 0) && decide (c < nI n)))) ∧ isM p t h') := by
  refine AX.iload_n rfl rfl ?_
  refine AX.if_lt rfl (fun c1 => ?_) (fun c1 => ?_)
  · refine AX.iconstV (v := 0) rfl (by decide) ?_
    exact AX.zreturn rfl rfl (by decide) ⟨by first | (have c3 := Int32.not_le.mp (hn4 ▸ c2); simp [c1, c3, bI]) | (have c3 := Int32.not_lt.mpr (hn4 ▸ c2); simp [c1, c3, bI]) | simp [c1, bI], hm⟩ (Nat.le_refl _) (Nat.le_refl _)
  · refine AX.iload_n rfl rfl ?_
    refine AX.aload_n rfl rfl ?_
    refine AX.getf rfl (M0 hm) rfl ?_
    refine AX.icmp_ge rfl (fun c2 => ?_) (fun c2 => ?_)
    · refine AX.iconstV (v := 0) rfl (by decide) ?_
      exact AX.zreturn rfl rfl (by decide) ⟨by first | (have c3 := Int32.not_le.mp (hn4 ▸ c2); simp [c1, c3, bI]) | (have c3 := Int32.not_lt.mpr (hn4 ▸ c2); simp [c1, c3, bI]) | simp [c1, bI], hm⟩ (Nat.le_refl _) (Nat.le_refl _)
    · refine AX.iconstV (v := 1) rfl (by decide) ?_
      refine AX.goto rfl ?_
      exact AX.zreturn rfl rfl (by decide) ⟨by first | (have c3 := Int32.not_le.mp (hn4 ▸ c2); simp [c1, c3, bI]) | (have c3 := Int32.not_lt.mpr (hn4 ▸ c2); simp [c1, c3, bI]) | simp [c1, bI], hm⟩ (Nat.le_refl _) (Nat.le_refl _)
def mBef (t : mS) (a b : Nat) : Bool := if t.2 3 a = t.2 3 b then (if t.2 0 a = t.2 0 b then !decide (nI b ≤ nI a) else !decide (t.2 0 a ≤ t.2 0 b)) else (decide (t.2 3 b = 0) || (!decide (t.2 3 a ≤ 0) && !decide (t.2 3 b ≤ t.2 3 a)))
theorem sM_isBefore (hm : isM p t h) {a b : Nat} (ha : a < 40) (hb : b < 40) : AM d kM_isBefore 0 0 none [.ref 28, .int (nI a), .int (nI b)] h (fun r h' => r = some (.int (bI (mBef t a b))) ∧ isM p t h') := by
  refine AX.aload_n rfl rfl ?_
  refine AX.getf rfl (M0 hm) rfl ?_
  refine AX.iload_n rfl rfl ?_
  refine AX.ialdX rfl (MA hm 3 (by decide) (by decide) (by decide)) (by decide) (⟨a, ha, rfl, rfl⟩) ?_
  refine AX.aload_n rfl rfl ?_
  refine AX.getf rfl (M0 hm) rfl ?_
  refine AX.iload_n rfl rfl ?_
  refine AX.ialdX rfl (MA hm 3 (by decide) (by decide) (by decide)) (by decide) (⟨b, hb, rfl, rfl⟩) ?_
  refine AX.icmp_eq rfl (fun c1 => ?_) (fun c1 => ?_)
  · refine AX.aload_n rfl rfl ?_
    refine AX.getf rfl (M0 hm) rfl ?_
    refine AX.iload_n rfl rfl ?_
    refine AX.ialdX rfl (MA hm 0 (by decide) (by decide) (by decide)) (by decide) (⟨a, ha, rfl, rfl⟩) ?_
    refine AX.aload_n rfl rfl ?_
    refine AX.getf rfl (M0 hm) rfl ?_
    refine AX.iload_n rfl rfl ?_
    refine AX.ialdX rfl (MA hm 0 (by decide) (by decide) (by decide)) (by decide) (⟨b, hb, rfl, rfl⟩) ?_
    refine AX.icmp_eq rfl (fun c2 => ?_) (fun c2 => ?_)
    · refine AX.iload_n rfl rfl ?_
      refine AX.iload_n rfl rfl ?_
      refine AX.icmp_ge rfl (fun c3 => ?_) (fun c3 => ?_)
      · refine AX.iconstV (v := 0) rfl (by decide) ?_
        exact AX.zreturn rfl rfl (by decide) ⟨by first | (simp [mBef, c1, c2, c3, bI]; done) | (rw [mBef, if_neg c1]; simp [c2, bI]; done), hm⟩ (Nat.le_refl _) (Nat.le_refl _)
      · refine AX.iconstV (v := 1) rfl (by decide) ?_
        refine AX.goto rfl ?_
        exact AX.zreturn rfl rfl (by decide) ⟨by first | (simp [mBef, c1, c2, c3, bI]; done) | (rw [mBef, if_neg c1]; simp [c2, bI]; done), hm⟩ (Nat.le_refl _) (Nat.le_refl _)
    · refine AX.aload_n rfl rfl ?_
      refine AX.getf rfl (M0 hm) rfl ?_
      refine AX.iload_n rfl rfl ?_
      refine AX.ialdX rfl (MA hm 0 (by decide) (by decide) (by decide)) (by decide) (⟨a, ha, rfl, rfl⟩) ?_
      refine AX.aload_n rfl rfl ?_
      refine AX.getf rfl (M0 hm) rfl ?_
      refine AX.iload_n rfl rfl ?_
      refine AX.ialdX rfl (MA hm 0 (by decide) (by decide) (by decide)) (by decide) (⟨b, hb, rfl, rfl⟩) ?_
      refine AX.icmp_le rfl (fun c3 => ?_) (fun c3 => ?_)
      · refine AX.iconstV (v := 0) rfl (by decide) ?_
        refine AX.goto rfl ?_
        exact AX.zreturn rfl rfl (by decide) ⟨by first | (simp [mBef, c1, c2, c3, bI]; done) | (rw [mBef, if_neg c1]; simp [c2, bI]; done), hm⟩ (Nat.le_refl _) (Nat.le_refl _)
      · refine AX.iconstV (v := 1) rfl (by decide) ?_
        refine AX.goto rfl ?_
        exact AX.zreturn rfl rfl (by decide) ⟨by first | (simp [mBef, c1, c2, c3, bI]; done) | (rw [mBef, if_neg c1]; simp [c2, bI]; done), hm⟩ (Nat.le_refl _) (Nat.le_refl _)
  · refine AX.aload_n rfl rfl ?_
    refine AX.getf rfl (M0 hm) rfl ?_
    refine AX.iload_n rfl rfl ?_
    refine AX.ialdX rfl (MA hm 3 (by decide) (by decide) (by decide)) (by decide) (⟨b, hb, rfl, rfl⟩) ?_
    refine AX.if_eq rfl (fun c2 => ?_) (fun c2 => ?_)
    · refine AX.iconstV (v := 1) rfl (by decide) ?_
      refine AX.goto rfl ?_
      exact AX.zreturn rfl rfl (by decide) ⟨by first | (simp [mBef, c1, c2, bI]; done) | (rw [mBef, if_neg c1]; simp [c2, bI]; done), hm⟩ (Nat.le_refl _) (Nat.le_refl _)
    · refine AX.aload_n rfl rfl ?_
      refine AX.getf rfl (M0 hm) rfl ?_
      refine AX.iload_n rfl rfl ?_
      refine AX.ialdX rfl (MA hm 3 (by decide) (by decide) (by decide)) (by decide) (⟨a, ha, rfl, rfl⟩) ?_
      refine AX.if_le rfl (fun c3 => ?_) (fun c3 => ?_)
      · refine AX.iconstV (v := 0) rfl (by decide) ?_
        exact AX.zreturn rfl rfl (by decide) ⟨by first | (simp [mBef, c1, c2, c3, bI]; done) | (rw [mBef, if_neg c1]; simp [c2, bI]; done), hm⟩ (Nat.le_refl _) (Nat.le_refl _)
      · refine AX.aload_n rfl rfl ?_
        refine AX.getf rfl (M0 hm) rfl ?_
        refine AX.iload_n rfl rfl ?_
        refine AX.ialdX rfl (MA hm 3 (by decide) (by decide) (by decide)) (by decide) (⟨a, ha, rfl, rfl⟩) ?_
        refine AX.aload_n rfl rfl ?_
        refine AX.getf rfl (M0 hm) rfl ?_
        refine AX.iload_n rfl rfl ?_
        refine AX.ialdX rfl (MA hm 3 (by decide) (by decide) (by decide)) (by decide) (⟨b, hb, rfl, rfl⟩) ?_
        refine AX.icmp_ge rfl (fun c4 => ?_) (fun c4 => ?_)
        · refine AX.iconstV (v := 0) rfl (by decide) ?_
          exact AX.zreturn rfl rfl (by decide) ⟨by first | (simp [mBef, c1, c2, c3, c4, bI]; done) | (rw [mBef, if_neg c1]; simp [c2, bI]; done), hm⟩ (Nat.le_refl _) (Nat.le_refl _)
        · refine AX.iconstV (v := 1) rfl (by decide) ?_
          refine AX.goto rfl ?_
          exact AX.zreturn rfl rfl (by decide) ⟨by first | (simp [mBef, c1, c2, c3, c4, bI]; done) | (rw [mBef, if_neg c1]; simp [c2, bI]; done), hm⟩ (Nat.le_refl _) (Nat.le_refl _)
theorem ix_ab {a b : Nat} : (40 : Int32) * nI a + nI b = nI (40 * a + b) := by
  rw [show (40 : Int32) = nI 40 from rfl, pk_mul, nI_add]
theorem sM_isConflict {cf : Nat → Nat → Bool} (hcf : ∀ a b, a < 40 → b < 40 → t.2 6 (40 * a + b) = bI (cf a b)) (hm : isM p t h) {a b : Nat} (ha : a < 40) (hb : b < 40) : AM d kM_isConflict 0 0 none [.ref 28, .int (nI a), .int (nI b)] h (fun r h' => r = some (.int (bI (cf a b))) ∧ isM p t h') := by
  refine AX.aload_n rfl rfl ?_
  refine AX.getf rfl (M0 hm) rfl ?_
  refine AX.bipushV (v := 40) rfl (by decide) ?_
  refine AX.iload_n rfl rfl ?_
  refine AX.imul rfl ?_
  refine AX.iload_n rfl rfl ?_
  refine AX.iadd rfl ?_
  refine AX.zaldX rfl (MA6 hm) (by decide) (⟨40 * a + b, by omega, ix_ab, hcf a b ha hb⟩) ?_
  exact AX.zreturn rfl rfl (bI_ok _) ⟨rfl, hm⟩ (Nat.le_refl _) (Nat.le_refl _)
theorem sM_inTree_l {cf : Nat → Nat → Bool} {Tr : List Nat} (hcf : ∀ a b, a < 40 → b < 40 → t.2 6 (40 * a + b) = bI (cf a b)) (h7 : t.1 7 = nI Tr.length) (hT : Tr.length ≤ 40) (hT2 : ∀ i, i < Tr.length → t.2 8 i = nI (Tr.getD i 0) ∧ Tr.getD i 0 < 40) {c : Nat} (hc : c < 40) : ∀ (n m : Nat) (h : ax_H), isM p t h → Tr.length = m + n →
    AX (d + 1) kM_inTree 0 0 none 2 [(2, .int (nI m)), (0, .ref 28), (1, .int (nI c))] [] h 0 0 (ax_ret kM_inTree 0 0 (fun r h' => r = some (.int (match (Tr.drop m).find? (fun a => cf a c) with | some a => nI a | none => -1)) ∧ isM p t h')) := by
  intro n
  induction n with
  | zero =>
    intro m h hm hb
    refine AX.iload_n rfl rfl ?_
    refine AX.aload_n rfl rfl ?_
    refine AX.getf rfl (M0 hm) rfl ?_
    refine AX.icmp_ge rfl (fun c1 => ?_) (fun c1 => ?_)
    · refine AX.iconstV (v := (-1)) rfl (by decide) ?_
      exact AX.ireturn rfl rfl ⟨by rw [List.drop_eq_nil_of_le (by omega)]; rfl, hm⟩ (Nat.le_refl _) (Nat.le_refl _)
    · exact absurd (h7 ▸ nI_le (by omega) (by omega)) c1
  | succ n ih =>
    intro m h hm hb
    have hd : Tr.drop m = Tr.getD m 0 :: Tr.drop (m + 1) := by
      rw [List.drop_eq_getElem_cons (by omega), List.getD_eq_getElem?_getD, List.getElem?_eq_getElem (by omega)]
      rfl
    refine AX.iload_n rfl rfl ?_
    refine AX.aload_n rfl rfl ?_
    refine AX.getf rfl (M0 hm) rfl ?_
    refine AX.icmp_ge rfl (fun c1 => ?_) (fun c1 => ?_)
    · exact absurd (h7 ▸ c1) (nI_ge (by omega) (by omega))
    · refine AX.aload_n rfl rfl ?_
      refine AX.aload_n rfl rfl ?_
      refine AX.getf rfl (M0 hm) rfl ?_
      refine AX.iload_n rfl rfl ?_
      refine AX.ialdX rfl (MA hm 8 (by decide) (by decide) (by decide)) (by decide) (⟨m, by omega, rfl, (hT2 m (by omega)).1⟩) ?_
      refine AX.iload_n rfl rfl ?_
      refine AX.cVI rfl rfl rfl (M0 hm) (sM_isConflict hcf hm (hT2 m (by omega)).2 hc) (fun h hm => ?_)
      refine AX.if_eqB rfl (fun c2 => ?_) (fun c2 => ?_)
      · refine AX.iincV (dn := 1) rfl rfl (by decide) (by decide) ?_
        refine AX.goto rfl ?_
        rw [nI_1, show (Tr.drop m).find? (fun a => cf a c) = (Tr.drop (m + 1)).find? (fun a => cf a c) by rw [hd, List.find?_cons, c2]]
        exact ih (m + 1) h hm (by omega)
      · refine AX.aload_n rfl rfl ?_
        refine AX.getf rfl (M0 hm) rfl ?_
        refine AX.iload_n rfl rfl ?_
        refine AX.ialdX rfl (MA hm 8 (by decide) (by decide) (by decide)) (by decide) (⟨m, by omega, rfl, (hT2 m (by omega)).1⟩) ?_
        exact AX.ireturn rfl rfl ⟨by rw [hd, List.find?_cons, c2], hm⟩ (Nat.le_refl _) (Nat.le_refl _)
def yFC (cf : Nat → Nat → Bool) (Tr : List Nat) (c : Nat) : Int32 := match Tr.find? (fun a => cf a c) with
  | some a => nI a
  | none => -1
theorem sM_inTree {cf : Nat → Nat → Bool} {Tr : List Nat} (hcf : ∀ a b, a < 40 → b < 40 → t.2 6 (40 * a + b) = bI (cf a b)) (h7 : t.1 7 = nI Tr.length) (hT : Tr.length ≤ 40) (hT2 : ∀ i, i < Tr.length → t.2 8 i = nI (Tr.getD i 0) ∧ Tr.getD i 0 < 40) (hm : isM p t h) {c : Nat} (hc : c < 40) : AM (d + 1) kM_inTree 0 0 none [.ref 28, .int (nI c)] h (fun r h' => r = some (.int (yFC cf Tr c)) ∧ isM p t h') := by
  refine AX.iconstV (v := 0) rfl (by decide) ?_
  refine AX.istore_n rfl (by decide) ?_
  exact sM_inTree_l hcf h7 hT hT2 hc Tr.length 0 h hm (by omega)
def LaneOk (t : mS) (L : List Nat) (B : List Bool) : Prop := t.1 6 = nI L.length ∧ L.length ≤ 40 ∧ B.length = L.length ∧ ∀ i, i < L.length → t.2 7 i = nI (L.getD i 0) ∧ L.getD i 0 < 40 ∧ t.2 9 (L.getD i 0) = bI (B.getD i false)
def mAdd (n : Int32) (b : Bool) : Int32 := if b = true then n + 1 else n + 0
def mSt : List Bool → Nat → Int32 → Int32 → Nat
  | [], k, _, _ => k
  | b :: bs, k, n, g => if mAdd n b = g then k else mSt bs (k + 1) (mAdd n b) g
def mCnt : List Bool → Int32 → Int32
  | [], n => n
  | b :: bs, n => mCnt bs (mAdd n b)
theorem drop_getD {α : Type} {l : List α} {m : Nat} {x : α} (h : m < l.length) : l.drop m = l.getD m x :: l.drop (m + 1) := by
  rw [List.drop_eq_getElem_cons h, List.getD_eq_getElem?_getD, List.getElem?_eq_getElem h]
  rfl
theorem sM_startOf_l {L : List Nat} {B : List Bool} (hL : LaneOk t L B) (g : Int32) : ∀ (r m : Nat) (n : Int32) (h : ax_H), isM p t h → L.length = m + r →
    AX d kM_startOf 0 0 none 4 [(3, .int (nI m)), (2, .int n), (0, .ref 28), (1, .int g)] [] h 0 0 (ax_ret kM_startOf 0 0 (fun v h' => v = some (.int (nI (mSt (B.drop m) m n g))) ∧ isM p t h')) := by
  obtain ⟨h6, hL4, hB, hL2⟩ := hL
  intro r
  induction r with
  | zero =>
    intro m n h hm hb
    refine AX.iload_n rfl rfl ?_
    refine AX.aload_n rfl rfl ?_
    refine AX.getf rfl (M0 hm) rfl ?_
    refine AX.icmp_ge rfl (fun c1 => ?_) (fun c1 => ?_)
    · refine AX.aload_n rfl rfl ?_
      refine AX.getf rfl (M0 hm) rfl ?_
      exact AX.ireturn rfl rfl ⟨by rw [List.drop_eq_nil_of_le (by omega), h6, show L.length = m by omega]; rfl, hm⟩ (Nat.le_refl _) (Nat.le_refl _)
    · exact absurd (h6 ▸ nI_le (by omega) (by omega)) c1
  | succ r ih =>
    intro m n h hm hb
    have hd := drop_getD (l := B) (m := m) (x := false) (by omega)
    have h2 := hL2 m (by omega)
    refine AX.iload_n rfl rfl ?_
    refine AX.aload_n rfl rfl ?_
    refine AX.getf rfl (M0 hm) rfl ?_
    refine AX.icmp_ge rfl (fun c1 => ?_) (fun c1 => ?_)
    · exact absurd (h6 ▸ c1) (nI_ge (by omega) (by omega))
    · refine AX.iload_n rfl rfl ?_
      refine AX.aload_n rfl rfl ?_
      refine AX.getf rfl (M0 hm) rfl ?_
      refine AX.aload_n rfl rfl ?_
      refine AX.getf rfl (M0 hm) rfl ?_
      refine AX.iload_n rfl rfl ?_
      refine AX.ialdX rfl (MA hm 7 (by decide) (by decide) (by decide)) (by decide) (⟨m, by omega, rfl, h2.1⟩) ?_
      refine AX.zaldX rfl (MA9 hm) (by decide) (⟨L.getD m 0, h2.2.1, rfl, h2.2.2⟩) ?_
      refine AX.if_eqB rfl (fun c2 => ?_) (fun c2 => ?_)
      · refine AX.iconstV (v := 0) rfl (by decide) ?_
        refine AX.iadd rfl ?_
        refine AX.istore_n rfl (by decide) ?_
        refine AX.iload_n rfl rfl ?_
        refine AX.iload_n rfl rfl ?_
        refine AX.icmp_ne rfl (fun c3 => ?_) (fun c3 => ?_)
        · refine AX.iincV (dn := 1) rfl rfl (by decide) (by decide) ?_
          refine AX.goto rfl ?_
          rw [nI_1, hd, mSt, if_neg (by rw [mAdd, c2]; exact c3)]
          have := ih (m + 1) (mAdd n (B.getD m false)) h hm (by omega)
          rw [show mAdd n (B.getD m false) = _ by rw [mAdd, c2]] at this ⊢
          exact this
        · refine AX.iload_n rfl rfl ?_
          exact AX.ireturn rfl rfl ⟨by rw [hd, mSt, if_pos (by rw [mAdd, c2]; exact c3)], hm⟩ (Nat.le_refl _) (Nat.le_refl _)
      · refine AX.iconstV (v := 1) rfl (by decide) ?_
        refine AX.goto rfl ?_
        refine AX.iadd rfl ?_
        refine AX.istore_n rfl (by decide) ?_
        refine AX.iload_n rfl rfl ?_
        refine AX.iload_n rfl rfl ?_
        refine AX.icmp_ne rfl (fun c3 => ?_) (fun c3 => ?_)
        · refine AX.iincV (dn := 1) rfl rfl (by decide) (by decide) ?_
          refine AX.goto rfl ?_
          rw [nI_1, hd, mSt, if_neg (by rw [mAdd, c2]; exact c3)]
          have := ih (m + 1) (mAdd n (B.getD m false)) h hm (by omega)
          rw [show mAdd n (B.getD m false) = _ by rw [mAdd, c2]] at this ⊢
          exact this
        · refine AX.iload_n rfl rfl ?_
          exact AX.ireturn rfl rfl ⟨by rw [hd, mSt, if_pos (by rw [mAdd, c2]; exact c3)], hm⟩ (Nat.le_refl _) (Nat.le_refl _)
def mS0 (B : List Bool) (g : Int32) : Nat := mSt B 0 (-1) g
theorem sM_startOf {L : List Nat} {B : List Bool} (hL : LaneOk t L B) (hm : isM p t h) (g : Int32) : AM d kM_startOf 0 0 none [.ref 28, .int g] h (fun v h' => v = some (.int (nI (mS0 B g))) ∧ isM p t h') := by
  refine AX.iconstV (v := (-1)) rfl (by decide) ?_
  refine AX.istore_n rfl (by decide) ?_
  refine AX.iconstV (v := 0) rfl (by decide) ?_
  refine AX.istore_n rfl (by decide) ?_
  exact sM_startOf_l hL g L.length 0 (-1) h hm (by omega)
theorem sM_groupMany_l {L : List Nat} {B : List Bool} (hL : LaneOk t L B) : ∀ (r m : Nat) (n : Int32) (h : ax_H), isM p t h → L.length = m + r →
    AX d kM_groupMany 0 0 none 4 [(2, .int (nI m)), (1, .int n), (0, .ref 28)] [] h 0 0 (ax_ret kM_groupMany 0 0 (fun v h' => v = some (.int (mCnt (B.drop m) n)) ∧ isM p t h')) := by
  obtain ⟨h6, hL4, hB, hL2⟩ := hL
  intro r
  induction r with
  | zero =>
    intro m n h hm hb
    refine AX.iload_n rfl rfl ?_
    refine AX.aload_n rfl rfl ?_
    refine AX.getf rfl (M0 hm) rfl ?_
    refine AX.icmp_ge rfl (fun c1 => ?_) (fun c1 => ?_)
    · refine AX.iload_n rfl rfl ?_
      exact AX.ireturn rfl rfl ⟨by rw [List.drop_eq_nil_of_le (by omega)]; rfl, hm⟩ (Nat.le_refl _) (Nat.le_refl _)
    · exact absurd (h6 ▸ nI_le (by omega) (by omega)) c1
  | succ r ih =>
    intro m n h hm hb
    have hd := drop_getD (l := B) (m := m) (x := false) (by omega)
    have h2 := hL2 m (by omega)
    refine AX.iload_n rfl rfl ?_
    refine AX.aload_n rfl rfl ?_
    refine AX.getf rfl (M0 hm) rfl ?_
    refine AX.icmp_ge rfl (fun c1 => ?_) (fun c1 => ?_)
    · exact absurd (h6 ▸ c1) (nI_ge (by omega) (by omega))
    · refine AX.iload_n rfl rfl ?_
      refine AX.aload_n rfl rfl ?_
      refine AX.getf rfl (M0 hm) rfl ?_
      refine AX.aload_n rfl rfl ?_
      refine AX.getf rfl (M0 hm) rfl ?_
      refine AX.iload_n rfl rfl ?_
      refine AX.ialdX rfl (MA hm 7 (by decide) (by decide) (by decide)) (by decide) (⟨m, by omega, rfl, h2.1⟩) ?_
      refine AX.zaldX rfl (MA9 hm) (by decide) (⟨L.getD m 0, h2.2.1, rfl, h2.2.2⟩) ?_
      refine AX.if_eqB rfl (fun c2 => ?_) (fun c2 => ?_)
      · refine AX.iconstV (v := 0) rfl (by decide) ?_
        refine AX.iadd rfl ?_
        refine AX.istore_n rfl (by decide) ?_
        refine AX.iincV (dn := 1) rfl rfl (by decide) (by decide) ?_
        refine AX.goto rfl ?_
        rw [nI_1, hd, mCnt]
        have := ih (m + 1) (mAdd n (B.getD m false)) h hm (by omega)
        rw [show mAdd n (B.getD m false) = _ by rw [mAdd, c2]] at this ⊢
        exact this
      · refine AX.iconstV (v := 1) rfl (by decide) ?_
        refine AX.goto rfl ?_
        refine AX.iadd rfl ?_
        refine AX.istore_n rfl (by decide) ?_
        refine AX.iincV (dn := 1) rfl rfl (by decide) (by decide) ?_
        refine AX.goto rfl ?_
        rw [nI_1, hd, mCnt]
        have := ih (m + 1) (mAdd n (B.getD m false)) h hm (by omega)
        rw [show mAdd n (B.getD m false) = _ by rw [mAdd, c2]] at this ⊢
        exact this
theorem sM_groupMany {L : List Nat} {B : List Bool} (hL : LaneOk t L B) (hm : isM p t h) : AM d kM_groupMany 0 0 none [.ref 28] h (fun v h' => v = some (.int (mCnt B 0)) ∧ isM p t h') := by
  refine AX.iconstV (v := 0) rfl (by decide) ?_
  refine AX.istore_n rfl (by decide) ?_
  refine AX.iconstV (v := 0) rfl (by decide) ?_
  refine AX.istore_n rfl (by decide) ?_
  exact sM_groupMany_l hL L.length 0 0 h hm (by omega)
def mIsG (B : List Bool) (g : Int32) : Bool := !decide (g < 0) && !decide (mCnt B 0 ≤ g)
theorem sM_isGroup {L : List Nat} {B : List Bool} (hL : LaneOk t L B) (hm : isM p t h) (g : Int32) : AM (d + 1) kM_isGroup 0 0 none [.ref 28, .int g] h (fun v h' => v = some (.int (bI (mIsG B g))) ∧ isM p t h') := by
  refine AX.iload_n rfl rfl ?_
  refine AX.if_lt rfl (fun c1 => ?_) (fun c1 => ?_)
  · refine AX.iconstV (v := 0) rfl (by decide) ?_
    exact AX.zreturn rfl rfl (by decide) ⟨by simp [mIsG, c1, bI], hm⟩ (Nat.le_refl _) (Nat.le_refl _)
  · refine AX.iload_n rfl rfl ?_
    refine AX.aload_n rfl rfl ?_
    refine AX.cVI rfl rfl rfl (M0 hm) (sM_groupMany hL hm) (fun h hm => ?_)
    refine AX.icmp_ge rfl (fun c2 => ?_) (fun c2 => ?_)
    · refine AX.iconstV (v := 0) rfl (by decide) ?_
      exact AX.zreturn rfl rfl (by decide) ⟨by simp [mIsG, c1, c2, bI], hm⟩ (Nat.le_refl _) (Nat.le_refl _)
    · refine AX.iconstV (v := 1) rfl (by decide) ?_
      refine AX.goto rfl ?_
      exact AX.zreturn rfl rfl (by decide) ⟨by simp [mIsG, c1, c2, bI], hm⟩ (Nat.le_refl _) (Nat.le_refl _)
theorem sM_sizeOf {L : List Nat} {B : List Bool} (hL : LaneOk t L B) (hm : isM p t h) (g : Int32) : AM (d + 1) kM_sizeOf 0 0 none [.ref 28, .int g] h (fun v h' => v = some (.int (nI (mS0 B (g + 1)) - nI (mS0 B g))) ∧ isM p t h') := by
  refine AX.aload_n rfl rfl ?_
  refine AX.iload_n rfl rfl ?_
  refine AX.iconstV (v := 1) rfl (by decide) ?_
  refine AX.iadd rfl ?_
  refine AX.cVI rfl rfl rfl (M0 hm) (sM_startOf hL hm _) (fun h hm => ?_)
  refine AX.aload_n rfl rfl ?_
  refine AX.iload_n rfl rfl ?_
  refine AX.cVI rfl rfl rfl (M0 hm) (sM_startOf hL hm _) (fun h hm => ?_)
  refine AX.isub rfl ?_
  exact AX.ireturn rfl rfl ⟨rfl, hm⟩ (Nat.le_refl _) (Nat.le_refl _)
theorem sM_stateOf {L : List Nat} {B : List Bool} (hL : LaneOk t L B) (hm : isM p t h) (g : Int32) (hg : mS0 B g < L.length) : AM (d + 1) kM_stateOf 0 0 none [.ref 28, .int g] h (fun v h' => v = some (.int (t.2 10 (L.getD (mS0 B g) 0))) ∧ isM p t h') := by
  have h2 := hL.2.2.2 _ hg
  have h4 := hL.2.1
  refine AX.aload_n rfl rfl ?_
  refine AX.getf rfl (M0 hm) rfl ?_
  refine AX.aload_n rfl rfl ?_
  refine AX.getf rfl (M0 hm) rfl ?_
  refine AX.aload_n rfl rfl ?_
  refine AX.iload_n rfl rfl ?_
  refine AX.cVI rfl rfl rfl (M0 hm) (sM_startOf hL hm _) (fun h hm => ?_)
  refine AX.ialdX rfl (MA hm 7 (by decide) (by decide) (by decide)) (by decide) (⟨mS0 B g, by omega, rfl, h2.1⟩) ?_
  refine AX.ialdX rfl (MA hm 10 (by decide) (by decide) (by decide)) (by decide) (⟨_, h2.2.1, rfl, rfl⟩) ?_
  exact AX.ireturn rfl rfl ⟨rfl, hm⟩ (Nat.le_refl _) (Nat.le_refl _)
theorem sM_inLane_l {L : List Nat} {B : List Bool} (hL : LaneOk t L B) {c i : Nat} (hi : i < L.length) (hc : L.getD i 0 = c) (hc4 : c < 40) (hb : ∀ j, j < i → L.getD j 0 ≠ c) : ∀ (r m : Nat) (h : ax_H), isM p t h → i = m + r →
    AX d kM_inLane 0 0 none 2 [(2, .int (nI m)), (0, .ref 28), (1, .int (nI c))] [] h 0 0 (ax_ret kM_inLane 0 0 (fun v h' => v = some (.int (nI i)) ∧ isM p t h')) := by
  obtain ⟨h6, hL4, hB, hL2⟩ := hL
  intro r
  induction r with
  | zero =>
    intro m h hm hr
    have e : m = i := by omega
    subst e
    refine AX.aload_n rfl rfl ?_
    refine AX.getf rfl (M0 hm) rfl ?_
    refine AX.iload_n rfl rfl ?_
    refine AX.ialdX rfl (MA hm 7 (by decide) (by decide) (by decide)) (by decide) (⟨m, by omega, rfl, (hL2 m (by omega)).1⟩) ?_
    refine AX.iload_n rfl rfl ?_
    refine AX.icmp_eq rfl (fun c1 => ?_) (fun c1 => ?_)
    · refine AX.iload_n rfl rfl ?_
      exact AX.ireturn rfl rfl ⟨rfl, hm⟩ (Nat.le_refl _) (Nat.le_refl _)
    · exact absurd (by rw [hc]) c1
  | succ r ih =>
    intro m h hm hr
    refine AX.aload_n rfl rfl ?_
    refine AX.getf rfl (M0 hm) rfl ?_
    refine AX.iload_n rfl rfl ?_
    refine AX.ialdX rfl (MA hm 7 (by decide) (by decide) (by decide)) (by decide) (⟨m, by omega, rfl, (hL2 m (by omega)).1⟩) ?_
    refine AX.iload_n rfl rfl ?_
    refine AX.icmp_eq rfl (fun c1 => ?_) (fun c1 => ?_)
    · exact absurd ((nI_eq (by have := (hL2 m (by omega)).2.1; omega) (by omega)).mp c1) (hb m (by omega))
    · refine AX.iincV (dn := 1) rfl rfl (by decide) (by decide) ?_
      refine AX.goto rfl ?_
      rw [nI_1]
      exact ih (m + 1) h hm (by omega)
theorem sM_inLane {L : List Nat} {B : List Bool} (hL : LaneOk t L B) {c i : Nat} (hi : i < L.length) (hc : L.getD i 0 = c) (hc4 : c < 40) (hb : ∀ j, j < i → L.getD j 0 ≠ c) (hm : isM p t h) : AM d kM_inLane 0 0 none [.ref 28, .int (nI c)] h (fun v h' => v = some (.int (nI i)) ∧ isM p t h') := by
  refine AX.iconstV (v := 0) rfl (by decide) ?_
  refine AX.istore_n rfl (by decide) ?_
  exact sM_inLane_l hL hi hc hc4 hb i 0 h hm (by omega)
theorem sM_isBarred_l {cf : Nat → Nat → Bool} {L : List Nat} {B : List Bool} (hcf : ∀ a b, a < 40 → b < 40 → t.2 6 (40 * a + b) = bI (cf a b)) (hL : LaneOk t L B) {c : Nat} (hc : c < 40) : ∀ (r m : Nat) (b : Bool) (h : ax_H), isM p t h → L.length = m + r →
    AX (d + 1) kM_isBarred 0 0 none 4 [(3, .int (nI m)), (2, .int (bI b)), (0, .ref 28), (1, .int (nI c))] [] h 0 0 (ax_ret kM_isBarred 0 0 (fun v h' => v = some (.int (bI (b || (L.drop m).any (fun a => cf a c)))) ∧ isM p t h')) := by
  obtain ⟨h6, hL4, hB, hL2⟩ := hL
  intro r
  induction r with
  | zero =>
    intro m b h hm hb
    refine AX.iload_n rfl rfl ?_
    refine AX.aload_n rfl rfl ?_
    refine AX.getf rfl (M0 hm) rfl ?_
    refine AX.icmp_ge rfl (fun c1 => ?_) (fun c1 => ?_)
    · refine AX.iload_n rfl rfl ?_
      exact AX.zreturn rfl rfl (bI_ok _) ⟨by rw [List.drop_eq_nil_of_le (by omega)]; simp, hm⟩ (Nat.le_refl _) (Nat.le_refl _)
    · exact absurd (h6 ▸ nI_le (by omega) (by omega)) c1
  | succ r ih =>
    intro m b h hm hb
    have hd := drop_getD (l := L) (m := m) (x := 0) (by omega)
    have h2 := hL2 m (by omega)
    refine AX.iload_n rfl rfl ?_
    refine AX.aload_n rfl rfl ?_
    refine AX.getf rfl (M0 hm) rfl ?_
    refine AX.icmp_ge rfl (fun c1 => ?_) (fun c1 => ?_)
    · exact absurd (h6 ▸ c1) (nI_ge (by omega) (by omega))
    · refine AX.iload_n rfl rfl ?_
      refine AX.if_neB rfl (fun c2 => ?_) (fun c2 => ?_)
      · refine AX.iconstV (v := 1) rfl (by decide) ?_
        refine AX.goto rfl ?_
        refine AX.istore_n rfl (by decide) ?_
        refine AX.iincV (dn := 1) rfl rfl (by decide) (by decide) ?_
        refine AX.goto rfl ?_
        rw [nI_1]
        first
          | (rw [show (b || (L.drop m).any (fun a => cf a c)) = (true || (L.drop (m + 1)).any (fun a => cf a c)) by rw [hd, List.any_cons]; simp only [c1, c2, Bool.true_or, Bool.or_true, Bool.false_or]]; exact ih (m + 1) true h hm (by omega))
          | (rw [show (b || (L.drop m).any (fun a => cf a c)) = (false || (L.drop (m + 1)).any (fun a => cf a c)) by rw [hd, List.any_cons]; simp only [c1, c2, Bool.true_or, Bool.or_true, Bool.false_or]]; exact ih (m + 1) false h hm (by omega))
      · refine AX.aload_n rfl rfl ?_
        refine AX.aload_n rfl rfl ?_
        refine AX.getf rfl (M0 hm) rfl ?_
        refine AX.iload_n rfl rfl ?_
        refine AX.ialdX rfl (MA hm 7 (by decide) (by decide) (by decide)) (by decide) (⟨m, by omega, rfl, h2.1⟩) ?_
        refine AX.iload_n rfl rfl ?_
        refine AX.cVI rfl rfl rfl (M0 hm) (sM_isConflict hcf hm h2.2.1 hc) (fun h hm => ?_)
        refine AX.if_eqB rfl (fun c3 => ?_) (fun c3 => ?_)
        · refine AX.iconstV (v := 0) rfl (by decide) ?_
          refine AX.istore_n rfl (by decide) ?_
          refine AX.iincV (dn := 1) rfl rfl (by decide) (by decide) ?_
          refine AX.goto rfl ?_
          rw [nI_1]
          first
            | (rw [show (b || (L.drop m).any (fun a => cf a c)) = (true || (L.drop (m + 1)).any (fun a => cf a c)) by rw [hd, List.any_cons]; simp only [c1, c2, c3, Bool.true_or, Bool.or_true, Bool.false_or]]; exact ih (m + 1) true h hm (by omega))
            | (rw [show (b || (L.drop m).any (fun a => cf a c)) = (false || (L.drop (m + 1)).any (fun a => cf a c)) by rw [hd, List.any_cons]; simp only [c1, c2, c3, Bool.true_or, Bool.or_true, Bool.false_or]]; exact ih (m + 1) false h hm (by omega))
        · refine AX.iconstV (v := 1) rfl (by decide) ?_
          refine AX.goto rfl ?_
          refine AX.istore_n rfl (by decide) ?_
          refine AX.iincV (dn := 1) rfl rfl (by decide) (by decide) ?_
          refine AX.goto rfl ?_
          rw [nI_1]
          first
            | (rw [show (b || (L.drop m).any (fun a => cf a c)) = (true || (L.drop (m + 1)).any (fun a => cf a c)) by rw [hd, List.any_cons]; simp only [c1, c2, c3, Bool.true_or, Bool.or_true, Bool.false_or]]; exact ih (m + 1) true h hm (by omega))
            | (rw [show (b || (L.drop m).any (fun a => cf a c)) = (false || (L.drop (m + 1)).any (fun a => cf a c)) by rw [hd, List.any_cons]; simp only [c1, c2, c3, Bool.true_or, Bool.or_true, Bool.false_or]]; exact ih (m + 1) false h hm (by omega))
theorem sM_isBarred {cf : Nat → Nat → Bool} {L : List Nat} {B : List Bool} (hcf : ∀ a b, a < 40 → b < 40 → t.2 6 (40 * a + b) = bI (cf a b)) (hL : LaneOk t L B) (hm : isM p t h) {c : Nat} (hc : c < 40) : AM (d + 1) kM_isBarred 0 0 none [.ref 28, .int (nI c)] h (fun v h' => v = some (.int (bI (L.any (fun a => cf a c)))) ∧ isM p t h') := by
  refine AX.iconstV (v := 0) rfl (by decide) ?_
  refine AX.istore_n rfl (by decide) ?_
  refine AX.iconstV (v := 0) rfl (by decide) ?_
  refine AX.istore_n rfl (by decide) ?_
  have := sM_isBarred_l (d := d) hcf hL hc L.length 0 false h hm (by omega)
  rw [Bool.false_or, List.drop_zero] at this
  exact this
end MR
