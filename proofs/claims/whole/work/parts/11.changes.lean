section CH
variable {z : zS} {T h : ax_H} {d : Nat}
theorem sC_count (hq : isQ z T h) : AM (d + 1) kC_count 0 0 none [.ref 1] h (fun r h' => r = some (.int (nI (z.2.1 2).length)) ∧ isQ z T h') := by
  refine AX.aload_n rfl rfl ?_
  refine AX.getf rfl (Q1 hq) rfl ?_
  refine AX.cVI rfl rfl rfl (QRo hq 2 (by decide)) (wCount hq 2 (by decide)) (fun h hq => ?_)
  exact AX.ireturn rfl rfl ⟨rfl, hq⟩ (Nat.le_refl _) (Nat.le_refl _)
def zC_add (z : zS) (rank parts : Int32) : zS := zapp (zapp (zapp (zapp (zapp (zapp z 0 rank) 1 parts) 2 0) 3 0) 4 40) 5 0
theorem sC_add (hq : isQ z T h) (rank parts : Int32) : AM (d + 3) kC_add 0 0 none [.ref 1, .int rank, .int parts] h (fun r h' => r = some (.int (nI (z.2.1 2).length)) ∧ isQ (zC_add z rank parts) T h') := by
  refine AX.aload_n rfl rfl ?_
  refine AX.cVI rfl rfl rfl (Q1 hq) (sC_count hq) (fun h hq => ?_)
  refine AX.istore_n rfl (by decide) ?_
  refine AX.aload_n rfl rfl ?_
  refine AX.getf rfl (Q1 hq) rfl ?_
  refine AX.iload_n rfl rfl ?_
  refine AX.cVV rfl rfl rfl (QRo hq 0 (by decide)) (wApp hq 0 (by decide) _) (fun h hq => ?_)
  refine AX.aload_n rfl rfl ?_
  refine AX.getf rfl (Q1 hq) rfl ?_
  refine AX.iload_n rfl rfl ?_
  refine AX.cVV rfl rfl rfl (QRo hq 1 (by decide)) (wApp hq 1 (by decide) _) (fun h hq => ?_)
  refine AX.aload_n rfl rfl ?_
  refine AX.getf rfl (Q1 hq) rfl ?_
  refine AX.iconstV (v := 0) rfl (by decide) ?_
  refine AX.cVV rfl rfl rfl (QRo hq 2 (by decide)) (wApp hq 2 (by decide) _) (fun h hq => ?_)
  refine AX.aload_n rfl rfl ?_
  refine AX.getf rfl (Q1 hq) rfl ?_
  refine AX.iconstV (v := 0) rfl (by decide) ?_
  refine AX.cVV rfl rfl rfl (QRo hq 3 (by decide)) (wApp hq 3 (by decide) _) (fun h hq => ?_)
  refine AX.aload_n rfl rfl ?_
  refine AX.getf rfl (Q1 hq) rfl ?_
  refine AX.bipushV (v := 40) rfl (by decide) ?_
  refine AX.cVV rfl rfl rfl (QRo hq 4 (by decide)) (wApp hq 4 (by decide) _) (fun h hq => ?_)
  refine AX.aload_n rfl rfl ?_
  refine AX.getf rfl (Q1 hq) rfl ?_
  refine AX.iconstV (v := 0) rfl (by decide) ?_
  refine AX.cVV rfl rfl rfl (QRo hq 5 (by decide)) (wApp hq 5 (by decide) _) (fun h hq => ?_)
  refine AX.iload_n rfl rfl ?_
  exact AX.ireturn rfl rfl ⟨rfl, hq⟩ (Nat.le_refl _) (Nat.le_refl _)
theorem sC_partsOf (hq : isQ z T h) (c : Int32) : AM (d + 2) kC_partsOf 0 0 none [.ref 1, .int c] h (fun r h' => r = some (.int (zat z 1 c)) ∧ isQ z T h') := by
  refine AX.aload_n rfl rfl ?_
  refine AX.getf rfl (Q1 hq) rfl ?_
  refine AX.iload_n rfl rfl ?_
  refine AX.cVI rfl rfl rfl (QRo hq 1 (by decide)) (wAt hq 1 (by decide) _) (fun h hq => ?_)
  exact AX.ireturn rfl rfl ⟨rfl, hq⟩ (Nat.le_refl _) (Nat.le_refl _)
theorem sC_placeOf (hq : isQ z T h) (c : Int32) : AM (d + 2) kC_placeOf 0 0 none [.ref 1, .int c] h (fun r h' => r = some (.int (zat z 2 c)) ∧ isQ z T h') := by
  refine AX.aload_n rfl rfl ?_
  refine AX.getf rfl (Q1 hq) rfl ?_
  refine AX.iload_n rfl rfl ?_
  refine AX.cVI rfl rfl rfl (QRo hq 2 (by decide)) (wAt hq 2 (by decide) _) (fun h hq => ?_)
  exact AX.ireturn rfl rfl ⟨rfl, hq⟩ (Nat.le_refl _) (Nat.le_refl _)
theorem sC_putPlace (hq : isQ z T h) (c p : Int32) : AM (d + 2) kC_putPlace 0 0 none [.ref 1, .int c, .int p] h (fun r h' => r = none ∧ isQ (zput z 2 c p) T h') := by
  refine AX.aload_n rfl rfl ?_
  refine AX.getf rfl (Q1 hq) rfl ?_
  refine AX.iload_n rfl rfl ?_
  refine AX.iload_n rfl rfl ?_
  refine AX.cVV rfl rfl rfl (QRo hq 2 (by decide)) (wPut hq 2 (by decide) _ _) (fun h hq => ?_)
  exact AX.vreturn rfl rfl ⟨rfl, hq⟩ (Nat.le_refl _) (Nat.le_refl _)
theorem sC_reasonOf (hq : isQ z T h) (c : Int32) : AM (d + 2) kC_reasonOf 0 0 none [.ref 1, .int c] h (fun r h' => r = some (.int (zat z 3 c)) ∧ isQ z T h') := by
  refine AX.aload_n rfl rfl ?_
  refine AX.getf rfl (Q1 hq) rfl ?_
  refine AX.iload_n rfl rfl ?_
  refine AX.cVI rfl rfl rfl (QRo hq 3 (by decide)) (wAt hq 3 (by decide) _) (fun h hq => ?_)
  exact AX.ireturn rfl rfl ⟨rfl, hq⟩ (Nat.le_refl _) (Nat.le_refl _)
def zC_putOut (z : zS) (c reason : Int32) : zS := zput (zput z 2 c 3) 3 c reason
theorem sC_putOut (hq : isQ z T h) (c reason : Int32) : AM (d + 2) kC_putOut 0 0 none [.ref 1, .int c, .int reason] h (fun r h' => r = none ∧ isQ (zC_putOut z c reason) T h') := by
  refine AX.aload_n rfl rfl ?_
  refine AX.getf rfl (Q1 hq) rfl ?_
  refine AX.iload_n rfl rfl ?_
  refine AX.iconstV (v := 3) rfl (by decide) ?_
  refine AX.cVV rfl rfl rfl (QRo hq 2 (by decide)) (wPut hq 2 (by decide) _ _) (fun h hq => ?_)
  refine AX.aload_n rfl rfl ?_
  refine AX.getf rfl (Q1 hq) rfl ?_
  refine AX.iload_n rfl rfl ?_
  refine AX.iload_n rfl rfl ?_
  refine AX.cVV rfl rfl rfl (QRo hq 3 (by decide)) (wPut hq 3 (by decide) _ _) (fun h hq => ?_)
  exact AX.vreturn rfl rfl ⟨rfl, hq⟩ (Nat.le_refl _) (Nat.le_refl _)
theorem sC_treeSizeOf (hq : isQ z T h) (c : Int32) : AM (d + 2) kC_treeSizeOf 0 0 none [.ref 1, .int c] h (fun r h' => r = some (.int (zat z 5 c)) ∧ isQ z T h') := by
  refine AX.aload_n rfl rfl ?_
  refine AX.getf rfl (Q1 hq) rfl ?_
  refine AX.iload_n rfl rfl ?_
  refine AX.cVI rfl rfl rfl (QRo hq 5 (by decide)) (wAt hq 5 (by decide) _) (fun h hq => ?_)
  exact AX.ireturn rfl rfl ⟨rfl, hq⟩ (Nat.le_refl _) (Nat.le_refl _)
theorem sC_putTreeSize (hq : isQ z T h) (c p : Int32) : AM (d + 2) kC_putTreeSize 0 0 none [.ref 1, .int c, .int p] h (fun r h' => r = none ∧ isQ (zput z 5 c p) T h') := by
  refine AX.aload_n rfl rfl ?_
  refine AX.getf rfl (Q1 hq) rfl ?_
  refine AX.iload_n rfl rfl ?_
  refine AX.iload_n rfl rfl ?_
  refine AX.cVV rfl rfl rfl (QRo hq 5 (by decide)) (wPut hq 5 (by decide) _ _) (fun h hq => ?_)
  exact AX.vreturn rfl rfl ⟨rfl, hq⟩ (Nat.le_refl _) (Nat.le_refl _)
def zC_hasJumped (z : zS) (c : Int32) : Bool := !decide (zat z 4 c = 40)
theorem sC_hasJumped (hq : isQ z T h) (c : Int32) : AM (d + 2) kC_hasJumped 0 0 none [.ref 1, .int c] h (fun r h' => r = some (.int (bI (zC_hasJumped z c))) ∧ isQ z T h') := by
  refine AX.aload_n rfl rfl ?_
  refine AX.getf rfl (Q1 hq) rfl ?_
  refine AX.iload_n rfl rfl ?_
  refine AX.cVI rfl rfl rfl (QRo hq 4 (by decide)) (wAt hq 4 (by decide) _) (fun h hq => ?_)
  refine AX.bipushV (v := 40) rfl (by decide) ?_
  refine AX.icmp_eq rfl (fun c1 => ?_) (fun c1 => ?_)
  · refine AX.iconstV (v := 0) rfl (by decide) ?_
    exact AX.zreturn rfl rfl (by decide) ⟨by simp [zC_hasJumped, c1, bI], hq⟩ (Nat.le_refl _) (Nat.le_refl _)
  · refine AX.iconstV (v := 1) rfl (by decide) ?_
    refine AX.goto rfl ?_
    exact AX.zreturn rfl rfl (by decide) ⟨by simp [zC_hasJumped, c1, bI], hq⟩ (Nat.le_refl _) (Nat.le_refl _)
def zC_giveTurn (z : zS) (c : Int32) : zS := zset (zput z 4 c (z.1 6)) 6 (z.1 6 + 1)
theorem sC_giveTurn (hq : isQ z T h) (c : Int32) : AM (d + 2) kC_giveTurn 0 0 none [.ref 1, .int c] h (fun r h' => r = none ∧ isQ (zC_giveTurn z c) T h') := by
  refine AX.aload_n rfl rfl ?_
  refine AX.getf rfl (Q1 hq) rfl ?_
  refine AX.iload_n rfl rfl ?_
  refine AX.aload_n rfl rfl ?_
  refine AX.getf rfl (Q1 hq) rfl ?_
  refine AX.cVV rfl rfl rfl (QRo hq 4 (by decide)) (wPut hq 4 (by decide) _ _) (fun h hq => ?_)
  refine AX.aload_n rfl rfl ?_
  refine AX.dup rfl rfl ?_
  refine AX.getf rfl (Q1 hq) rfl ?_
  refine AX.iconstV (v := 1) rfl (by decide) ?_
  refine AX.iadd rfl ?_
  refine AX.putf rfl (Q1 hq) (Nat.le_of_ble_eq_true rfl) rfl ?_
  refine AX.gen (G := isQ _ T) (QS6 hq _) (fun h hq => ?_)
  exact AX.vreturn rfl rfl ⟨rfl, hq⟩ (Nat.le_refl _) (Nat.le_refl _)
def zC_isInFront (z : zS) (a b : Int32) : Bool := if zat z 4 a = zat z 4 b then (if zat z 0 a = zat z 0 b then !decide (b ≤ a) else !decide (zat z 0 a ≤ zat z 0 b)) else !decide (zat z 4 b ≤ zat z 4 a)
theorem sC_isInFront (hq : isQ z T h) (a b : Int32) : AM (d + 2) kC_isInFront 0 0 none [.ref 1, .int a, .int b] h (fun r h' => r = some (.int (bI (zC_isInFront z a b))) ∧ isQ z T h') := by
  refine AX.aload_n rfl rfl ?_
  refine AX.getf rfl (Q1 hq) rfl ?_
  refine AX.iload_n rfl rfl ?_
  refine AX.cVI rfl rfl rfl (QRo hq 4 (by decide)) (wAt hq 4 (by decide) _) (fun h hq => ?_)
  refine AX.aload_n rfl rfl ?_
  refine AX.getf rfl (Q1 hq) rfl ?_
  refine AX.iload_n rfl rfl ?_
  refine AX.cVI rfl rfl rfl (QRo hq 4 (by decide)) (wAt hq 4 (by decide) _) (fun h hq => ?_)
  refine AX.icmp_eq rfl (fun c1 => ?_) (fun c1 => ?_)
  · refine AX.aload_n rfl rfl ?_
    refine AX.getf rfl (Q1 hq) rfl ?_
    refine AX.iload_n rfl rfl ?_
    refine AX.cVI rfl rfl rfl (QRo hq 0 (by decide)) (wAt hq 0 (by decide) _) (fun h hq => ?_)
    refine AX.aload_n rfl rfl ?_
    refine AX.getf rfl (Q1 hq) rfl ?_
    refine AX.iload_n rfl rfl ?_
    refine AX.cVI rfl rfl rfl (QRo hq 0 (by decide)) (wAt hq 0 (by decide) _) (fun h hq => ?_)
    refine AX.icmp_eq rfl (fun c2 => ?_) (fun c2 => ?_)
    · refine AX.iload_n rfl rfl ?_
      refine AX.iload_n rfl rfl ?_
      refine AX.icmp_ge rfl (fun c3 => ?_) (fun c3 => ?_)
      · refine AX.iconstV (v := 0) rfl (by decide) ?_
        exact AX.zreturn rfl rfl (by decide) ⟨by simp [zC_isInFront, c1, c2, c3, bI], hq⟩ (Nat.le_refl _) (Nat.le_refl _)
      · refine AX.iconstV (v := 1) rfl (by decide) ?_
        refine AX.goto rfl ?_
        exact AX.zreturn rfl rfl (by decide) ⟨by simp [zC_isInFront, c1, c2, c3, bI], hq⟩ (Nat.le_refl _) (Nat.le_refl _)
    · refine AX.aload_n rfl rfl ?_
      refine AX.getf rfl (Q1 hq) rfl ?_
      refine AX.iload_n rfl rfl ?_
      refine AX.cVI rfl rfl rfl (QRo hq 0 (by decide)) (wAt hq 0 (by decide) _) (fun h hq => ?_)
      refine AX.aload_n rfl rfl ?_
      refine AX.getf rfl (Q1 hq) rfl ?_
      refine AX.iload_n rfl rfl ?_
      refine AX.cVI rfl rfl rfl (QRo hq 0 (by decide)) (wAt hq 0 (by decide) _) (fun h hq => ?_)
      refine AX.icmp_le rfl (fun c3 => ?_) (fun c3 => ?_)
      · refine AX.iconstV (v := 0) rfl (by decide) ?_
        exact AX.zreturn rfl rfl (by decide) ⟨by simp [zC_isInFront, c1, c2, c3, bI], hq⟩ (Nat.le_refl _) (Nat.le_refl _)
      · refine AX.iconstV (v := 1) rfl (by decide) ?_
        refine AX.goto rfl ?_
        exact AX.zreturn rfl rfl (by decide) ⟨by simp [zC_isInFront, c1, c2, c3, bI], hq⟩ (Nat.le_refl _) (Nat.le_refl _)
  · refine AX.aload_n rfl rfl ?_
    refine AX.getf rfl (Q1 hq) rfl ?_
    refine AX.iload_n rfl rfl ?_
    refine AX.cVI rfl rfl rfl (QRo hq 4 (by decide)) (wAt hq 4 (by decide) _) (fun h hq => ?_)
    refine AX.aload_n rfl rfl ?_
    refine AX.getf rfl (Q1 hq) rfl ?_
    refine AX.iload_n rfl rfl ?_
    refine AX.cVI rfl rfl rfl (QRo hq 4 (by decide)) (wAt hq 4 (by decide) _) (fun h hq => ?_)
    refine AX.icmp_ge rfl (fun c2 => ?_) (fun c2 => ?_)
    · refine AX.iconstV (v := 0) rfl (by decide) ?_
      exact AX.zreturn rfl rfl (by decide) ⟨by simp [zC_isInFront, c1, c2, bI], hq⟩ (Nat.le_refl _) (Nat.le_refl _)
    · refine AX.iconstV (v := 1) rfl (by decide) ?_
      refine AX.goto rfl ?_
      exact AX.zreturn rfl rfl (by decide) ⟨by simp [zC_isInFront, c1, c2, bI], hq⟩ (Nat.le_refl _) (Nat.le_refl _)
def zNum (c : Int32) : Bool := !decide (c < 0) && !decide ((40 : Int32) ≤ c)
theorem sC_isNumber (hq : isQ z T h) (c : Int32) : AM d kC_isNumber 0 0 none [.ref 1, .int c] h (fun r h' => r = some (.int (bI (zNum c))) ∧ isQ z T h') := by
  refine AX.iload_n rfl rfl ?_
  refine AX.if_lt rfl (fun c1 => ?_) (fun c1 => ?_)
  · refine AX.iconstV (v := 0) rfl (by decide) ?_
    exact AX.zreturn rfl rfl (by decide) ⟨by simp [zNum, c1, bI], hq⟩ (Nat.le_refl _) (Nat.le_refl _)
  · refine AX.iload_n rfl rfl ?_
    refine AX.aload_n rfl rfl ?_
    refine AX.getf rfl (Q1 hq) rfl ?_
    refine AX.alenV (v := 40) rfl (Q14 hq) (by decide) rfl ?_
    refine AX.icmp_ge rfl (fun c2 => ?_) (fun c2 => ?_)
    · refine AX.iconstV (v := 0) rfl (by decide) ?_
      exact AX.zreturn rfl rfl (by decide) ⟨by simp [zNum, c1, c2, bI], hq⟩ (Nat.le_refl _) (Nat.le_refl _)
    · refine AX.iconstV (v := 1) rfl (by decide) ?_
      refine AX.goto rfl ?_
      exact AX.zreturn rfl rfl (by decide) ⟨by simp [zNum, c1, c2, bI], hq⟩ (Nat.le_refl _) (Nat.le_refl _)
theorem zNum_in {c : Int32} (h : zNum c = true) : vp_in c 40 := by
  simp only [zNum, Bool.and_eq_true, Bool.not_eq_true', decide_eq_false_iff_not] at h
  obtain ⟨j, h1, h2, h3⟩ := i_pos h.1
  rw [h2]
  refine vp_in_nI ?_ (by decide)
  have h4 := h.2
  rw [h2, show (40 : Int32) = nI 40 from rfl, nI_leI (by decide) h1] at h4
  omega
def zBit (f : Nat → Int64) (a b : Int32) : Int64 := f a.toNatClampNeg &&& ((1 : Int64) <<< (b.toInt64 &&& 63))
def zConf (z : zS) (a b : Int32) : Bool := zNum a && (zNum b && !decide (lg_cmp (zBit z.2.2 a b) 0 = 0))
theorem sC_areInConflict (hq : isQ z T h) (a b : Int32) : AM (d + 1) kC_areInConflict 0 0 none [.ref 1, .int a, .int b] h (fun r h' => r = some (.int (bI (zConf z a b))) ∧ isQ z T h') := by
  refine AX.aload_n rfl rfl ?_
  refine AX.iload_n rfl rfl ?_
  refine AX.cVI rfl rfl rfl (Q1 hq) (sC_isNumber hq _) (fun h hq => ?_)
  refine AX.if_eqB rfl (fun c1 => ?_) (fun c1 => ?_)
  · refine AX.iconstV (v := 0) rfl (by decide) ?_
    exact AX.zreturn rfl rfl (by decide) ⟨by simp [zConf, zBit, c1, bI], hq⟩ (Nat.le_refl _) (Nat.le_refl _)
  · refine AX.aload_n rfl rfl ?_
    refine AX.iload_n rfl rfl ?_
    refine AX.cVI rfl rfl rfl (Q1 hq) (sC_isNumber hq _) (fun h hq => ?_)
    refine AX.if_eqB rfl (fun c2 => ?_) (fun c2 => ?_)
    · refine AX.iconstV (v := 0) rfl (by decide) ?_
      exact AX.zreturn rfl rfl (by decide) ⟨by simp [zConf, zBit, c1, c2, bI], hq⟩ (Nat.le_refl _) (Nat.le_refl _)
    · refine AX.aload_n rfl rfl ?_
      refine AX.getf rfl (Q1 hq) rfl ?_
      refine AX.iload_n rfl rfl ?_
      refine AX.lald rfl (Q14 hq) (zNum_in c1) ?_
      refine AX.lconstV (v := 1) rfl (by decide) ?_
      refine AX.iload_n rfl rfl ?_
      refine AX.lshl rfl ?_
      refine AX.land rfl ?_
      refine AX.lconstV (v := 0) rfl (by decide) ?_
      refine AX.lcmp rfl ?_
      refine AX.if_eq rfl (fun c3 => ?_) (fun c3 => ?_)
      · refine AX.iconstV (v := 0) rfl (by decide) ?_
        exact AX.zreturn rfl rfl (by decide) ⟨by simp [zConf, zBit, c1, c2, c3, bI], hq⟩ (Nat.le_refl _) (Nat.le_refl _)
      · refine AX.iconstV (v := 1) rfl (by decide) ?_
        refine AX.goto rfl ?_
        exact AX.zreturn rfl rfl (by decide) ⟨by simp [zConf, zBit, c1, c2, c3, bI], hq⟩ (Nat.le_refl _) (Nat.le_refl _)
def zC_on (f : Nat → Int64) (a b : Int32) : Nat → Int64 := vp_updL f a.toNatClampNeg (f a.toNatClampNeg ||| ((1 : Int64) <<< (b.toInt64 &&& 63)))
def zC_put (z : zS) (a b : Int32) : zS := if zNum a = true ∧ zNum b = true then (z.1, z.2.1, zC_on (zC_on z.2.2 a b) b a) else z
theorem sC_putInConflict (hq : isQ z T h) (a b : Int32) : AM (d + 1) kC_putInConflict 0 0 none [.ref 1, .int a, .int b] h (fun r h' => r = none ∧ isQ (zC_put z a b) T h') := by
  refine AX.aload_n rfl rfl ?_
  refine AX.iload_n rfl rfl ?_
  refine AX.cVI rfl rfl rfl (Q1 hq) (sC_isNumber hq _) (fun h hq => ?_)
  refine AX.if_eqB rfl (fun c1 => ?_) (fun c1 => ?_)
  · exact AX.vreturn rfl rfl ⟨rfl, by simpa [zC_put, zC_on, c1] using hq⟩ (Nat.le_refl _) (Nat.le_refl _)
  · refine AX.aload_n rfl rfl ?_
    refine AX.iload_n rfl rfl ?_
    refine AX.cVI rfl rfl rfl (Q1 hq) (sC_isNumber hq _) (fun h hq => ?_)
    refine AX.if_eqB rfl (fun c2 => ?_) (fun c2 => ?_)
    · exact AX.vreturn rfl rfl ⟨rfl, by simpa [zC_put, zC_on, c1, c2] using hq⟩ (Nat.le_refl _) (Nat.le_refl _)
    · refine AX.aload_n rfl rfl ?_
      refine AX.getf rfl (Q1 hq) rfl ?_
      refine AX.iload_n rfl rfl ?_
      refine AX.dup2 rfl rfl rfl ?_
      refine AX.lald rfl (Q14 hq) (zNum_in c1) ?_
      refine AX.lconstV (v := 1) rfl (by decide) ?_
      refine AX.iload_n rfl rfl ?_
      refine AX.lshl rfl ?_
      refine AX.lor rfl ?_
      refine AX.last rfl (Q14 hq) (zNum_in c1) ?_
      refine AX.gen (G := isQ _ T) (QC hq _) (fun h hq => ?_)
      refine AX.aload_n rfl rfl ?_
      refine AX.getf rfl (Q1 hq) rfl ?_
      refine AX.iload_n rfl rfl ?_
      refine AX.dup2 rfl rfl rfl ?_
      refine AX.lald rfl (Q14 hq) (zNum_in c2) ?_
      refine AX.lconstV (v := 1) rfl (by decide) ?_
      refine AX.iload_n rfl rfl ?_
      refine AX.lshl rfl ?_
      refine AX.lor rfl ?_
      refine AX.last rfl (Q14 hq) (zNum_in c2) ?_
      refine AX.gen (G := isQ _ T) (QC hq _) (fun h hq => ?_)
      exact AX.vreturn rfl rfl ⟨rfl, by simpa [zC_put, zC_on, c1, c2] using hq⟩ (Nat.le_refl _) (Nat.le_refl _)
end CH
