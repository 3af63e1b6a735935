theorem nI_dec (n : Nat) : nI n + (-1) = nI n - 1 := by
  rw [Int32.sub_eq_add_neg]
theorem nI_m1 : nI 0 - 1 < 0 := by decide
theorem sw4 {x : Int32} (h0 : ¬ x = 0) (h1 : ¬ x = 1) (h2 : ¬ x = 2) (h3 : ¬ x = 3) : x.toInt < 0 ∨ 3 < x.toInt := by
  have e0 : ¬ x.toInt = 0 := fun e => h0 (Int32.toInt_inj.mp e)
  have e1 : ¬ x.toInt = 1 := fun e => h1 (Int32.toInt_inj.mp e)
  have e2 : ¬ x.toInt = 2 := fun e => h2 (Int32.toInt_inj.mp e)
  have e3 : ¬ x.toInt = 3 := fun e => h3 (Int32.toInt_inj.mp e)
  omega
section MQS
variable {z : zS} {T h : ax_H} {d : Nat}
def zEnq (z : zS) (c : Int32) : Nat → Nat → Int32
  | 0, m => nI m
  | n + 1, m => if zC_isInFront z (zat z 6 (nI m)) c = true then zEnq z c n (m + 1) else nI m
def zQ_enq (z : zS) (c : Int32) : zS := zins z 6 (zEnq z c (z.2.1 6).length 0) c
theorem sQ_enqueue_l (c : Int32) : ∀ (n m : Nat) (h : ax_H), isQ z T h → (z.2.1 6).length = m + n → AX (d + 3) kQ_enqueue 0 0 none 2 [(2, .int (nI m)), (0, .ref 0), (1, .int c)] [] h 0 0 (ax_ret kQ_enqueue 0 0 (fun r h' => r = none ∧ isQ (zins z 6 (zEnq z c n m) c) T h')) := by
  intro n
  induction n with
  | zero =>
    intro m h hq hb
    have hl := QL hq 6 (by decide)
    refine AX.iload_n rfl rfl ?_
    refine AX.aload_n rfl rfl ?_
    refine AX.getf rfl (Q0 hq) rfl ?_
    refine AX.cVI rfl rfl rfl (QRo hq 6 (by decide)) (wCount hq 6 (by decide)) (fun h hq => ?_)
    refine AX.icmp_ge rfl (fun c1 => ?_) (fun c1 => ?_)
    · refine AX.aload_n rfl rfl ?_
      refine AX.getf rfl (Q0 hq) rfl ?_
      refine AX.iload_n rfl rfl ?_
      refine AX.iload_n rfl rfl ?_
      refine AX.cVV rfl rfl rfl (QRo hq 6 (by decide)) (wIns hq 6 (by decide) _ _) (fun h hq => ?_)
      exact AX.vreturn rfl rfl ⟨rfl, hq⟩ (Nat.le_refl _) (Nat.le_refl _)
    · exact absurd (nI_le (by omega) (by omega)) c1
  | succ n ih =>
    intro m h hq hb
    have hl := QL hq 6 (by decide)
    refine AX.iload_n rfl rfl ?_
    refine AX.aload_n rfl rfl ?_
    refine AX.getf rfl (Q0 hq) rfl ?_
    refine AX.cVI rfl rfl rfl (QRo hq 6 (by decide)) (wCount hq 6 (by decide)) (fun h hq => ?_)
    refine AX.icmp_ge rfl (fun c1 => absurd c1 (nI_ge (by omega) (by omega))) (fun _ => ?_)
    refine AX.aload_n rfl rfl ?_
    refine AX.getf rfl (Q0 hq) rfl ?_
    refine AX.aload_n rfl rfl ?_
    refine AX.getf rfl (Q0 hq) rfl ?_
    refine AX.iload_n rfl rfl ?_
    refine AX.cVI rfl rfl rfl (QRo hq 6 (by decide)) (wAt hq 6 (by decide) _) (fun h hq => ?_)
    refine AX.iload_n rfl rfl ?_
    refine AX.cVI rfl rfl rfl (Q1 hq) (sC_isInFront hq _ _) (fun h hq => ?_)
    refine AX.if_eqB rfl (fun c1 => ?_) (fun c1 => ?_)
    · refine AX.aload_n rfl rfl ?_
      refine AX.getf rfl (Q0 hq) rfl ?_
      refine AX.iload_n rfl rfl ?_
      refine AX.iload_n rfl rfl ?_
      refine AX.cVV rfl rfl rfl (QRo hq 6 (by decide)) (wIns hq 6 (by decide) _ _) (fun h hq => ?_)
      exact AX.vreturn rfl rfl ⟨rfl, by simpa [zEnq, c1] using hq⟩ (Nat.le_refl _) (Nat.le_refl _)
    · refine AX.iincV (dn := 1) rfl rfl (by decide) (by decide) ?_
      refine AX.goto rfl ?_
      rw [nI_1]
      simp only [zEnq, c1, if_true]
      exact ih (m + 1) h hq (by omega)
theorem sQ_enqueue (hq : isQ z T h) (c : Int32) : AM (d + 3) kQ_enqueue 0 0 none [.ref 0, .int c] h (fun r h' => r = none ∧ isQ (zQ_enq z c) T h') := by
  refine AX.iconstV (v := 0) rfl (by decide) ?_
  refine AX.istore_n rfl (by decide) ?_
  exact sQ_enqueue_l c _ 0 h hq (by omega)
def zQ_deq (z : zS) (c : Int32) : zS := zrem z 6 (rFind (z.2.1 6) c)
theorem sQ_dequeue (hq : isQ z T h) (c : Int32) : AM (d + 3) kQ_dequeue 0 0 none [.ref 0, .int c] h (fun r h' => r = none ∧ isQ (zQ_deq z c) T h') := by
  refine AX.aload_n rfl rfl ?_
  refine AX.getf rfl (Q0 hq) rfl ?_
  refine AX.aload_n rfl rfl ?_
  refine AX.getf rfl (Q0 hq) rfl ?_
  refine AX.iload_n rfl rfl ?_
  refine AX.cVI rfl rfl rfl (QRo hq 6 (by decide)) (wFind hq 6 (by decide) _) (fun h hq => ?_)
  refine AX.cVV rfl rfl rfl (QRo hq 6 (by decide)) (wRem hq 6 (by decide) _) (fun h hq => ?_)
  exact AX.vreturn rfl rfl ⟨rfl, hq⟩ (Nat.le_refl _) (Nat.le_refl _)
def zQ_may (z : zS) (a b : Int32) : Bool := (decide (zat z 2 a = 0) && (decide (zat z 2 b = 0) || decide (zat z 2 b = 2))) || (decide (zat z 2 a = 2) && decide (zat z 2 b = 0))
theorem sQ_mayConflict (hq : isQ z T h) (a b : Int32) : AM (d + 3) kQ_mayConflict 0 0 none [.ref 0, .int a, .int b] h (fun r h' => r = some (.int (bI (zQ_may z a b))) ∧ isQ z T h') := by
  refine AX.aload_n rfl rfl ?_
  refine AX.getf rfl (Q0 hq) rfl ?_
  refine AX.iload_n rfl rfl ?_
  refine AX.cVI rfl rfl rfl (Q1 hq) (sC_placeOf hq _) (fun h hq => ?_)
  refine AX.istore_n rfl (by decide) ?_
  refine AX.aload_n rfl rfl ?_
  refine AX.getf rfl (Q0 hq) rfl ?_
  refine AX.iload_n rfl rfl ?_
  refine AX.cVI rfl rfl rfl (Q1 hq) (sC_placeOf hq _) (fun h hq => ?_)
  refine AX.istore rfl (by decide) ?_
  refine AX.iload_n rfl rfl ?_
  refine AX.if_ne rfl (fun c1 => ?_) (fun c1 => ?_)
  · refine AX.iload_n rfl rfl ?_
    refine AX.iconstV (v := 2) rfl (by decide) ?_
    refine AX.icmp_ne rfl (fun c2 => ?_) (fun c2 => ?_)
    · refine AX.iconstV (v := 0) rfl (by decide) ?_
      exact AX.zreturn rfl rfl (by decide) ⟨by simp [zQ_may, c1, c2, bI], hq⟩ (Nat.le_refl _) (Nat.le_refl _)
    · refine AX.iload rfl rfl ?_
      refine AX.if_ne rfl (fun c3 => ?_) (fun c3 => ?_)
      · refine AX.iconstV (v := 0) rfl (by decide) ?_
        exact AX.zreturn rfl rfl (by decide) ⟨by simp [zQ_may, c1, c2, c3, bI], hq⟩ (Nat.le_refl _) (Nat.le_refl _)
      · refine AX.iconstV (v := 1) rfl (by decide) ?_
        refine AX.goto rfl ?_
        exact AX.zreturn rfl rfl (by decide) ⟨by simp [zQ_may, c1, c2, c3, bI], hq⟩ (Nat.le_refl _) (Nat.le_refl _)
  · refine AX.iload rfl rfl ?_
    refine AX.if_eq rfl (fun c2 => ?_) (fun c2 => ?_)
    · refine AX.iconstV (v := 1) rfl (by decide) ?_
      refine AX.goto rfl ?_
      exact AX.zreturn rfl rfl (by decide) ⟨by simp [zQ_may, c1, c2, bI], hq⟩ (Nat.le_refl _) (Nat.le_refl _)
    · refine AX.iload rfl rfl ?_
      refine AX.iconstV (v := 2) rfl (by decide) ?_
      refine AX.icmp_eq rfl (fun c3 => ?_) (fun c3 => ?_)
      · refine AX.iconstV (v := 1) rfl (by decide) ?_
        refine AX.goto rfl ?_
        exact AX.zreturn rfl rfl (by decide) ⟨by simp [zQ_may, c1, c2, c3, bI], hq⟩ (Nat.le_refl _) (Nat.le_refl _)
      · refine AX.iload_n rfl rfl ?_
        refine AX.iconstV (v := 2) rfl (by decide) ?_
        refine AX.icmp_ne rfl (fun c4 => ?_) (fun c4 => ?_)
        · refine AX.iconstV (v := 0) rfl (by decide) ?_
          exact AX.zreturn rfl rfl (by decide) ⟨by simp [zQ_may, c1, c2, c3, c4, bI], hq⟩ (Nat.le_refl _) (Nat.le_refl _)
        · refine AX.iload rfl rfl ?_
          refine AX.if_ne rfl (fun c5 => ?_) (fun c5 => ?_)
          · refine AX.iconstV (v := 0) rfl (by decide) ?_
            exact AX.zreturn rfl rfl (by decide) ⟨by simp [zQ_may, c1, c2, c3, c4, c5, bI], hq⟩ (Nat.le_refl _) (Nat.le_refl _)
          · refine AX.iconstV (v := 1) rfl (by decide) ?_
            refine AX.goto rfl ?_
            exact AX.zreturn rfl rfl (by decide) ⟨by simp [zQ_may, c1, c2, c3, c4, c5, bI], hq⟩ (Nat.le_refl _) (Nat.le_refl _)
def zFC (z : zS) (c : Int32) : Nat → Nat → Int32
  | 0, _ => -1
  | n + 1, m => if zConf z c (zat z 7 (nI m)) = true then zat z 7 (nI m) else zFC z c n (m + 1)
def zQ_fc (z : zS) (c : Int32) : Int32 := zFC z c (z.2.1 7).length 0
theorem sQ_firstClashInTree_l (c : Int32) : ∀ (n m : Nat) (h : ax_H), isQ z T h → (z.2.1 7).length = m + n → AX (d + 2) kQ_firstClashInTree 0 0 none 2 [(2, .int (nI m)), (0, .ref 0), (1, .int c)] [] h 0 0 (ax_ret kQ_firstClashInTree 0 0 (fun r h' => r = some (.int (zFC z c n m)) ∧ isQ z T h')) := by
  intro n
  induction n with
  | zero =>
    intro m h hq hb
    have hl := QL hq 7 (by decide)
    refine AX.iload_n rfl rfl ?_
    refine AX.aload_n rfl rfl ?_
    refine AX.getf rfl (Q0 hq) rfl ?_
    refine AX.cVI rfl rfl rfl (QRo hq 7 (by decide)) (wCount hq 7 (by decide)) (fun h hq => ?_)
    refine AX.icmp_ge rfl (fun c1 => ?_) (fun c1 => ?_)
    · refine AX.iconstV (v := (-1)) rfl (by decide) ?_
      exact AX.ireturn rfl rfl ⟨rfl, hq⟩ (Nat.le_refl _) (Nat.le_refl _)
    · exact absurd (nI_le (by omega) (by omega)) c1
  | succ n ih =>
    intro m h hq hb
    have hl := QL hq 7 (by decide)
    refine AX.iload_n rfl rfl ?_
    refine AX.aload_n rfl rfl ?_
    refine AX.getf rfl (Q0 hq) rfl ?_
    refine AX.cVI rfl rfl rfl (QRo hq 7 (by decide)) (wCount hq 7 (by decide)) (fun h hq => ?_)
    refine AX.icmp_ge rfl (fun c1 => ?_) (fun c1 => ?_)
    · exact absurd c1 (nI_ge (by omega) (by omega))
    · refine AX.aload_n rfl rfl ?_
      refine AX.getf rfl (Q0 hq) rfl ?_
      refine AX.iload_n rfl rfl ?_
      refine AX.aload_n rfl rfl ?_
      refine AX.getf rfl (Q0 hq) rfl ?_
      refine AX.iload_n rfl rfl ?_
      refine AX.cVI rfl rfl rfl (QRo hq 7 (by decide)) (wAt hq 7 (by decide) _) (fun h hq => ?_)
      refine AX.cVI rfl rfl rfl (Q1 hq) (sC_areInConflict hq _ _) (fun h hq => ?_)
      refine AX.if_eqB rfl (fun c2 => ?_) (fun c2 => ?_)
      · refine AX.iincV (dn := 1) rfl rfl (by decide) (by decide) ?_
        refine AX.goto rfl ?_
        rw [nI_1]
        simp only [zFC, c1, c2, if_false, Bool.false_eq_true]
        exact ih (m + 1) h hq (by omega)
      · refine AX.aload_n rfl rfl ?_
        refine AX.getf rfl (Q0 hq) rfl ?_
        refine AX.iload_n rfl rfl ?_
        refine AX.cVI rfl rfl rfl (QRo hq 7 (by decide)) (wAt hq 7 (by decide) _) (fun h hq => ?_)
        exact AX.ireturn rfl rfl ⟨by simp [zFC, c1, c2], hq⟩ (Nat.le_refl _) (Nat.le_refl _)
theorem sQ_firstClashInTree (hq : isQ z T h) (c : Int32) : AM (d + 2) kQ_firstClashInTree 0 0 none [.ref 0, .int c] h (fun r h' => r = some (.int (zQ_fc z c)) ∧ isQ z T h') := by
  refine AX.iconstV (v := 0) rfl (by decide) ?_
  refine AX.istore_n rfl (by decide) ?_
  exact sQ_firstClashInTree_l c _ 0 h hq (by omega)
def zSend1 (z : zS) (m : Nat) : zS := if zQ_fc z (zat z 6 (nI m)) = -1 then z else zC_putOut (zrem z 6 (nI m)) (zat z 6 (nI m)) 2
def zSend : Nat → zS → zS
  | 0, z => z
  | n + 1, z => zSend n (zSend1 z n)
theorem sQ_sendOutClashing_l : ∀ (n : Nat) (z : zS) (h : ax_H), isQ z T h → n < 2 ^ 31 → AX (d + 3) kQ_sendOutClashing 0 0 none 10 [(1, .int (nI n - 1)), (0, .ref 0)] [] h 0 0 (ax_ret kQ_sendOutClashing 0 0 (fun r h' => r = none ∧ isQ (zSend n z) T h')) := by
  intro n
  induction n with
  | zero =>
    intro z h hq hb
    refine AX.iload_n rfl rfl ?_
    refine AX.if_lt rfl (fun c1 => ?_) (fun c1 => ?_)
    · exact AX.vreturn rfl rfl ⟨rfl, hq⟩ (Nat.le_refl _) (Nat.le_refl _)
    · exact absurd nI_m1 c1
  | succ n ih =>
    intro z h hq hb
    rw [nI_pred]
    refine AX.iload_n rfl rfl ?_
    refine AX.if_lt rfl (fun c1 => ?_) (fun c1 => ?_)
    · exact absurd c1 (nI_pos (by omega))
    · refine AX.aload_n rfl rfl ?_
      refine AX.getf rfl (Q0 hq) rfl ?_
      refine AX.iload_n rfl rfl ?_
      refine AX.cVI rfl rfl rfl (QRo hq 6 (by decide)) (wAt hq 6 (by decide) _) (fun h hq => ?_)
      refine AX.istore_n rfl (by decide) ?_
      refine AX.aload_n rfl rfl ?_
      refine AX.iload_n rfl rfl ?_
      refine AX.cVI rfl rfl rfl (Q0 hq) (sQ_firstClashInTree hq _) (fun h hq => ?_)
      refine AX.iconstV (v := (-1)) rfl (by decide) ?_
      refine AX.icmp_eq rfl (fun c2 => ?_) (fun c2 => ?_)
      · refine AX.iincV (dn := (-1)) rfl rfl (by decide) (by decide) ?_
        refine AX.goto rfl ?_
        rw [nI_dec]
        refine AX.sub [0, 2] rfl ?_
        exact ih (zSend1 z n) h (by simpa [zSend1, c1, c2] using hq) (by omega)
      · refine AX.aload_n rfl rfl ?_
        refine AX.getf rfl (Q0 hq) rfl ?_
        refine AX.iload_n rfl rfl ?_
        refine AX.cVV rfl rfl rfl (QRo hq 6 (by decide)) (wRem hq 6 (by decide) _) (fun h hq => ?_)
        refine AX.aload_n rfl rfl ?_
        refine AX.getf rfl (Q0 hq) rfl ?_
        refine AX.iload_n rfl rfl ?_
        refine AX.iconstV (v := 2) rfl (by decide) ?_
        refine AX.cVV rfl rfl rfl (Q1 hq) (sC_putOut hq _ _) (fun h hq => ?_)
        refine AX.iincV (dn := (-1)) rfl rfl (by decide) (by decide) ?_
        refine AX.goto rfl ?_
        rw [nI_dec]
        refine AX.sub [0, 2] rfl ?_
        exact ih (zSend1 z n) h (by simpa [zSend1, c1, c2] using hq) (by omega)
def zQ_send (z : zS) : zS := zSend (z.2.1 6).length z
theorem sQ_sendOutClashing (hq : isQ z T h) : AM (d + 3) kQ_sendOutClashing 0 0 none [.ref 0] h (fun r h' => r = none ∧ isQ (zQ_send z) T h') := by
  have hl := QL hq 6 (by decide)
  refine AX.aload_n rfl rfl ?_
  refine AX.getf rfl (Q0 hq) rfl ?_
  refine AX.cVI rfl rfl rfl (QRo hq 6 (by decide)) (wCount hq 6 (by decide)) (fun h hq => ?_)
  refine AX.iconstV (v := 1) rfl (by decide) ?_
  refine AX.isub rfl ?_
  refine AX.istore_n rfl (by decide) ?_
  exact sQ_sendOutClashing_l _ z h hq (by omega)
def zQ_change (z : zS) (rank parts : Int32) : Int32 × zS := if rank < 0 ∨ 9 < rank ∨ ¬ nI (z.2.1 2).length < 40 then (-1, z) else (nI (z.2.1 2).length, zQ_enq (zC_add z rank parts) (nI (z.2.1 2).length))
theorem sQ_change (hq : isQ z T h) (rank parts : Int32) : AM (d + 4) kQ_change 0 0 none [.ref 0, .int rank, .int parts] h (fun r h' => r = some (.int (zQ_change z rank parts).1) ∧ isQ (zQ_change z rank parts).2 T h') := by
  refine AX.iload_n rfl rfl ?_
  refine AX.if_lt rfl (fun c1 => ?_) (fun c1 => ?_)
  · refine AX.iconstV (v := (-1)) rfl (by decide) ?_
    exact AX.ireturn rfl rfl ⟨by simp [zQ_change, c1], by simpa [zQ_change, c1] using hq⟩ (Nat.le_refl _) (Nat.le_refl _)
  · refine AX.iload_n rfl rfl ?_
    refine AX.bipushV (v := 9) rfl (by decide) ?_
    refine AX.icmp_gt rfl (fun c2 => ?_) (fun c2 => ?_)
    · refine AX.iconstV (v := (-1)) rfl (by decide) ?_
      exact AX.ireturn rfl rfl ⟨by simp [zQ_change, c1, c2], by simpa [zQ_change, c1, c2] using hq⟩ (Nat.le_refl _) (Nat.le_refl _)
    · refine AX.aload_n rfl rfl ?_
      refine AX.getf rfl (Q0 hq) rfl ?_
      refine AX.cVI rfl rfl rfl (Q1 hq) (sC_count hq) (fun h hq => ?_)
      refine AX.bipushV (v := 40) rfl (by decide) ?_
      refine AX.icmp_lt rfl (fun c3 => ?_) (fun c3 => ?_)
      · refine AX.aload_n rfl rfl ?_
        refine AX.getf rfl (Q0 hq) rfl ?_
        refine AX.iload_n rfl rfl ?_
        refine AX.iload_n rfl rfl ?_
        refine AX.cVI rfl rfl rfl (Q1 hq) (sC_add hq _ _) (fun h hq => ?_)
        refine AX.istore_n rfl (by decide) ?_
        refine AX.aload_n rfl rfl ?_
        refine AX.iload_n rfl rfl ?_
        refine AX.cVV rfl rfl rfl (Q0 hq) (sQ_enqueue hq _) (fun h hq => ?_)
        refine AX.iload_n rfl rfl ?_
        exact AX.ireturn rfl rfl ⟨by simp [zQ_change, c1, c2, c3], by simpa [zQ_change, c1, c2, c3] using hq⟩ (Nat.le_refl _) (Nat.le_refl _)
      · refine AX.iconstV (v := (-1)) rfl (by decide) ?_
        exact AX.ireturn rfl rfl ⟨by simp [zQ_change, c1, c2, c3], by simpa [zQ_change, c1, c2, c3] using hq⟩ (Nat.le_refl _) (Nat.le_refl _)
def zQ_conflict (z : zS) (a b : Int32) : Int32 × zS := if a = b then (-1, z) else if zQ_may z a b = false then (-1, z) else if zConf z a b = true then (0, z) else (1, zQ_send (zC_put z a b))
theorem sQ_conflict (hq : isQ z T h) (a b : Int32) : AM (d + 4) kQ_conflict 0 0 none [.ref 0, .int a, .int b] h (fun r h' => r = some (.int (zQ_conflict z a b).1) ∧ isQ (zQ_conflict z a b).2 T h') := by
  refine AX.iload_n rfl rfl ?_
  refine AX.iload_n rfl rfl ?_
  refine AX.icmp_eq rfl (fun c1 => ?_) (fun c1 => ?_)
  · refine AX.iconstV (v := (-1)) rfl (by decide) ?_
    exact AX.ireturn rfl rfl ⟨by simp [zQ_conflict, c1], by simpa [zQ_conflict, c1] using hq⟩ (Nat.le_refl _) (Nat.le_refl _)
  · refine AX.aload_n rfl rfl ?_
    refine AX.iload_n rfl rfl ?_
    refine AX.iload_n rfl rfl ?_
    refine AX.cVI rfl rfl rfl (Q0 hq) (sQ_mayConflict hq _ _) (fun h hq => ?_)
    refine AX.if_neB rfl (fun c2 => ?_) (fun c2 => ?_)
    · refine AX.aload_n rfl rfl ?_
      refine AX.getf rfl (Q0 hq) rfl ?_
      refine AX.iload_n rfl rfl ?_
      refine AX.iload_n rfl rfl ?_
      refine AX.cVI rfl rfl rfl (Q1 hq) (sC_areInConflict hq _ _) (fun h hq => ?_)
      refine AX.if_eqB rfl (fun c3 => ?_) (fun c3 => ?_)
      · refine AX.aload_n rfl rfl ?_
        refine AX.getf rfl (Q0 hq) rfl ?_
        refine AX.iload_n rfl rfl ?_
        refine AX.iload_n rfl rfl ?_
        refine AX.cVV rfl rfl rfl (Q1 hq) (sC_putInConflict hq _ _) (fun h hq => ?_)
        refine AX.aload_n rfl rfl ?_
        refine AX.cVV rfl rfl rfl (Q0 hq) (sQ_sendOutClashing hq) (fun h hq => ?_)
        refine AX.iconstV (v := 1) rfl (by decide) ?_
        exact AX.ireturn rfl rfl ⟨by simp [zQ_conflict, c1, c2, c3], by simpa [zQ_conflict, c1, c2, c3] using hq⟩ (Nat.le_refl _) (Nat.le_refl _)
      · refine AX.iconstV (v := 0) rfl (by decide) ?_
        exact AX.ireturn rfl rfl ⟨by simp [zQ_conflict, c1, c2, c3], by simpa [zQ_conflict, c1, c2, c3] using hq⟩ (Nat.le_refl _) (Nat.le_refl _)
    · refine AX.iconstV (v := (-1)) rfl (by decide) ?_
      exact AX.ireturn rfl rfl ⟨by simp [zQ_conflict, c1, c2], by simpa [zQ_conflict, c1, c2] using hq⟩ (Nat.le_refl _) (Nat.le_refl _)
def zQ_jump (z : zS) (c : Int32) : Bool × zS := if ¬ zat z 2 c = 0 then (false, z) else if zC_hasJumped z c = true then (false, z) else (true, zQ_enq (zC_giveTurn (zQ_deq z c) c) c)
theorem sQ_jump (hq : isQ z T h) (c : Int32) : AM (d + 4) kQ_jump 0 0 none [.ref 0, .int c] h (fun r h' => r = some (.int (bI (zQ_jump z c).1)) ∧ isQ (zQ_jump z c).2 T h') := by
  refine AX.aload_n rfl rfl ?_
  refine AX.getf rfl (Q0 hq) rfl ?_
  refine AX.iload_n rfl rfl ?_
  refine AX.cVI rfl rfl rfl (Q1 hq) (sC_placeOf hq _) (fun h hq => ?_)
  refine AX.if_ne rfl (fun c1 => ?_) (fun c1 => ?_)
  · refine AX.iconstV (v := 0) rfl (by decide) ?_
    exact AX.zreturn rfl rfl (by decide) ⟨by simp [zQ_jump, c1, bI], by simpa [zQ_jump, c1] using hq⟩ (Nat.le_refl _) (Nat.le_refl _)
  · refine AX.aload_n rfl rfl ?_
    refine AX.getf rfl (Q0 hq) rfl ?_
    refine AX.iload_n rfl rfl ?_
    refine AX.cVI rfl rfl rfl (Q1 hq) (sC_hasJumped hq _) (fun h hq => ?_)
    refine AX.if_eqB rfl (fun c2 => ?_) (fun c2 => ?_)
    · refine AX.aload_n rfl rfl ?_
      refine AX.iload_n rfl rfl ?_
      refine AX.cVV rfl rfl rfl (Q0 hq) (sQ_dequeue hq _) (fun h hq => ?_)
      refine AX.aload_n rfl rfl ?_
      refine AX.getf rfl (Q0 hq) rfl ?_
      refine AX.iload_n rfl rfl ?_
      refine AX.cVV rfl rfl rfl (Q1 hq) (sC_giveTurn hq _) (fun h hq => ?_)
      refine AX.aload_n rfl rfl ?_
      refine AX.iload_n rfl rfl ?_
      refine AX.cVV rfl rfl rfl (Q0 hq) (sQ_enqueue hq _) (fun h hq => ?_)
      refine AX.iconstV (v := 1) rfl (by decide) ?_
      exact AX.zreturn rfl rfl (by decide) ⟨by simp [zQ_jump, c1, c2, bI], by simpa [zQ_jump, c1, c2] using hq⟩ (Nat.le_refl _) (Nat.le_refl _)
    · refine AX.iconstV (v := 0) rfl (by decide) ?_
      exact AX.zreturn rfl rfl (by decide) ⟨by simp [zQ_jump, c1, c2, bI], by simpa [zQ_jump, c1, c2] using hq⟩ (Nat.le_refl _) (Nat.le_refl _)
def zQ_leave (z : zS) (c : Int32) : Bool × zS := if zat z 2 c = 0 then (true, zC_putOut (zQ_deq z c) c 3) else if zat z 2 c = 1 then (true, zC_putOut (zG_take z c) c 3) else (false, z)
theorem sQ_leave (hq : isQ z T h) (c : Int32) : AM (d + 4) kQ_leave 0 0 none [.ref 0, .int c] h (fun r h' => r = some (.int (bI (zQ_leave z c).1)) ∧ isQ (zQ_leave z c).2 T h') := by
  refine AX.aload_n rfl rfl ?_
  refine AX.getf rfl (Q0 hq) rfl ?_
  refine AX.iload_n rfl rfl ?_
  refine AX.cVI rfl rfl rfl (Q1 hq) (sC_placeOf hq _) (fun h hq => ?_)
  refine AX.istore_n rfl (by decide) ?_
  refine AX.iload_n rfl rfl ?_
  refine AX.if_ne rfl (fun c1 => ?_) (fun c1 => ?_)
  · refine AX.iload_n rfl rfl ?_
    refine AX.iconstV (v := 1) rfl (by decide) ?_
    refine AX.icmp_ne rfl (fun c2 => ?_) (fun c2 => ?_)
    · refine AX.iconstV (v := 0) rfl (by decide) ?_
      exact AX.zreturn rfl rfl (by decide) ⟨by simp [zQ_leave, c1, c2, bI], by simpa [zQ_leave, c1, c2] using hq⟩ (Nat.le_refl _) (Nat.le_refl _)
    · refine AX.aload_n rfl rfl ?_
      refine AX.getf rfl (Q0 hq) rfl ?_
      refine AX.iload_n rfl rfl ?_
      refine AX.cVV rfl rfl rfl (Q19 hq) (sG_takeOut hq _) (fun h hq => ?_)
      refine AX.goto rfl ?_
      refine AX.aload_n rfl rfl ?_
      refine AX.getf rfl (Q0 hq) rfl ?_
      refine AX.iload_n rfl rfl ?_
      refine AX.iconstV (v := 3) rfl (by decide) ?_
      refine AX.cVV rfl rfl rfl (Q1 hq) (sC_putOut hq _ _) (fun h hq => ?_)
      refine AX.iconstV (v := 1) rfl (by decide) ?_
      exact AX.zreturn rfl rfl (by decide) ⟨by simp [zQ_leave, c1, c2, bI], by simpa [zQ_leave, c1, c2] using hq⟩ (Nat.le_refl _) (Nat.le_refl _)
  · refine AX.aload_n rfl rfl ?_
    refine AX.iload_n rfl rfl ?_
    refine AX.cVV rfl rfl rfl (Q0 hq) (sQ_dequeue hq _) (fun h hq => ?_)
    refine AX.goto rfl ?_
    refine AX.aload_n rfl rfl ?_
    refine AX.getf rfl (Q0 hq) rfl ?_
    refine AX.iload_n rfl rfl ?_
    refine AX.iconstV (v := 3) rfl (by decide) ?_
    refine AX.cVV rfl rfl rfl (Q1 hq) (sC_putOut hq _ _) (fun h hq => ?_)
    refine AX.iconstV (v := 1) rfl (by decide) ?_
    exact AX.zreturn rfl rfl (by decide) ⟨by simp [zQ_leave, c1, bI], by simpa [zQ_leave, c1] using hq⟩ (Nat.le_refl _) (Nat.le_refl _)
def zQ_pause (z : zS) (p : Int32) : Bool × zS := if z.1 3 = p then (false, z) else (true, zset z 3 p)
theorem sQ_pause (hq : isQ z T h) (p : Int32) (hp : p = 0 ∨ p = 1) : AM d kQ_pause 0 0 none [.ref 0, .int p] h (fun r h' => r = some (.int (bI (zQ_pause z p).1)) ∧ isQ (zQ_pause z p).2 T h') := by
  rcases hp with rfl | rfl
  · skip
    refine AX.aload_n rfl rfl ?_
    refine AX.getf rfl (Q0 hq) rfl ?_
    refine AX.iload_n rfl rfl ?_
    refine AX.icmp_ne rfl (fun c1 => ?_) (fun c1 => ?_)
    · refine AX.aload_n rfl rfl ?_
      refine AX.iload_n rfl rfl ?_
      refine AX.putf rfl (Q0 hq) (Nat.le_of_ble_eq_true rfl) rfl ?_
      refine AX.gen (G := isQ _ T) (QS3 hq _) (fun h hq => ?_)
      refine AX.iconstV (v := 1) rfl (by decide) ?_
      exact AX.zreturn rfl rfl (by decide) ⟨by simp [zQ_pause, c1, bI], by simpa [zQ_pause, c1] using hq⟩ (Nat.le_refl _) (Nat.le_refl _)
    · refine AX.iconstV (v := 0) rfl (by decide) ?_
      exact AX.zreturn rfl rfl (by decide) ⟨by simp [zQ_pause, c1, bI], by simpa [zQ_pause, c1] using hq⟩ (Nat.le_refl _) (Nat.le_refl _)
  · skip
    refine AX.aload_n rfl rfl ?_
    refine AX.getf rfl (Q0 hq) rfl ?_
    refine AX.iload_n rfl rfl ?_
    refine AX.icmp_ne rfl (fun c1 => ?_) (fun c1 => ?_)
    · refine AX.aload_n rfl rfl ?_
      refine AX.iload_n rfl rfl ?_
      refine AX.putf rfl (Q0 hq) (Nat.le_of_ble_eq_true rfl) rfl ?_
      refine AX.gen (G := isQ _ T) (QS3 hq _) (fun h hq => ?_)
      refine AX.iconstV (v := 1) rfl (by decide) ?_
      exact AX.zreturn rfl rfl (by decide) ⟨by simp [zQ_pause, c1, bI], by simpa [zQ_pause, c1] using hq⟩ (Nat.le_refl _) (Nat.le_refl _)
    · refine AX.iconstV (v := 0) rfl (by decide) ?_
      exact AX.zreturn rfl rfl (by decide) ⟨by simp [zQ_pause, c1, bI], by simpa [zQ_pause, c1] using hq⟩ (Nat.le_refl _) (Nat.le_refl _)
def zLand1 (z : zS) (m : Nat) : zS := zapp (zput z 2 (zG_member z 0 (nI m)) 2) 7 (zG_member z 0 (nI m))
def zLand : Nat → Nat → zS → zS
  | 0, _, z => z
  | n + 1, m, z => zLand n (m + 1) (zLand1 z m)
theorem sQ_land_l (sz : Int32) : ∀ (n m : Nat) (z : zS) (h : ax_H), isQ z T h → sz = nI (m + n) → m + n < 2 ^ 31 → AX (d + 4) kQ_land 0 0 none 11 [(2, .int (nI m)), (1, .int sz), (0, .ref 0)] [] h 0 0 (ax_ret kQ_land 0 0 (fun r h' => r = none ∧ isQ (zQ_send (zG_remF (zLand n m z))) T h')) := by
  intro n
  induction n with
  | zero =>
    intro m z h hq hs hb
    subst hs
    refine AX.iload_n rfl rfl ?_
    refine AX.iload_n rfl rfl ?_
    refine AX.icmp_ge rfl (fun c1 => ?_) (fun c1 => ?_)
    · refine AX.aload_n rfl rfl ?_
      refine AX.getf rfl (Q0 hq) rfl ?_
      refine AX.cVV rfl rfl rfl (Q19 hq) (sG_removeFirst hq) (fun h hq => ?_)
      refine AX.aload_n rfl rfl ?_
      refine AX.cVV rfl rfl rfl (Q0 hq) (sQ_sendOutClashing hq) (fun h hq => ?_)
      exact AX.vreturn rfl rfl ⟨rfl, hq⟩ (Nat.le_refl _) (Nat.le_refl _)
    · exact absurd (nI_le (by omega) (by omega)) c1
  | succ n ih =>
    intro m z h hq hs hb
    refine AX.iload_n rfl rfl ?_
    refine AX.iload_n rfl rfl ?_
    refine AX.icmp_ge rfl (fun c1 => ?_) (fun c1 => ?_)
    · exact absurd (hs ▸ c1) (nI_ge (by omega) (by omega))
    · refine AX.aload_n rfl rfl ?_
      refine AX.getf rfl (Q0 hq) rfl ?_
      refine AX.iconstV (v := 0) rfl (by decide) ?_
      refine AX.iload_n rfl rfl ?_
      refine AX.cVI rfl rfl rfl (Q19 hq) (sG_memberAt hq _ _) (fun h hq => ?_)
      refine AX.istore_n rfl (by decide) ?_
      refine AX.aload_n rfl rfl ?_
      refine AX.getf rfl (Q0 hq) rfl ?_
      refine AX.iload_n rfl rfl ?_
      refine AX.iconstV (v := 2) rfl (by decide) ?_
      refine AX.cVV rfl rfl rfl (Q1 hq) (sC_putPlace hq _ _) (fun h hq => ?_)
      refine AX.aload_n rfl rfl ?_
      refine AX.getf rfl (Q0 hq) rfl ?_
      refine AX.iload_n rfl rfl ?_
      refine AX.cVV rfl rfl rfl (QRo hq 7 (by decide)) (wApp hq 7 (by decide) _) (fun h hq => ?_)
      refine AX.iincV (dn := 1) rfl rfl (by decide) (by decide) ?_
      refine AX.goto rfl ?_
      rw [nI_1]
      refine AX.sub [0, 2, 3] rfl ?_
      exact ih (m + 1) (zLand1 z m) h hq (by rw [hs]; congr 1; omega) (by omega)
def zQ_land (z : zS) : zS := zQ_send (zG_remF (zLand (zat z 9 0).toNatClampNeg 0 z))
theorem sQ_land (hq : isQ z T h) : AM (d + 4) kQ_land 0 0 none [.ref 0] h (fun r h' => r = none ∧ isQ (zQ_land z) T h') := by
  by_cases hz : zat z 9 0 < 0
  · have e : zQ_land z = zQ_send (zG_remF z) := by rw [zQ_land, clampNeg hz]; rfl
    rw [e]
    have hle : zat z 9 0 ≤ 0 := Int32.le_of_lt hz
    refine AX.aload_n rfl rfl ?_
    refine AX.getf rfl (Q0 hq) rfl ?_
    refine AX.iconstV (v := 0) rfl (by decide) ?_
    refine AX.cVI rfl rfl rfl (Q19 hq) (sG_sizeOf hq _) (fun h hq => ?_)
    refine AX.istore_n rfl (by decide) ?_
    refine AX.iconstV (v := 0) rfl (by decide) ?_
    refine AX.istore_n rfl (by decide) ?_
    refine AX.iload_n rfl rfl ?_
    refine AX.iload_n rfl rfl ?_
    refine AX.icmp_ge rfl (fun c1 => ?_) (fun c1 => ?_)
    · refine AX.aload_n rfl rfl ?_
      refine AX.getf rfl (Q0 hq) rfl ?_
      refine AX.cVV rfl rfl rfl (Q19 hq) (sG_removeFirst hq) (fun h hq => ?_)
      refine AX.aload_n rfl rfl ?_
      refine AX.cVV rfl rfl rfl (Q0 hq) (sQ_sendOutClashing hq) (fun h hq => ?_)
      exact AX.vreturn rfl rfl ⟨rfl, hq⟩ (Nat.le_refl _) (Nat.le_refl _)
    · exact absurd hle c1
  · obtain ⟨j, j1, j2, j3⟩ := i_pos hz
    rw [zQ_land, j3]
    refine AX.aload_n rfl rfl ?_
    refine AX.getf rfl (Q0 hq) rfl ?_
    refine AX.iconstV (v := 0) rfl (by decide) ?_
    refine AX.cVI rfl rfl rfl (Q19 hq) (sG_sizeOf hq _) (fun h hq => ?_)
    refine AX.istore_n rfl (by decide) ?_
    refine AX.iconstV (v := 0) rfl (by decide) ?_
    refine AX.istore_n rfl (by decide) ?_
    exact sQ_land_l _ j 0 z h hq (by rw [Nat.zero_add]; exact j2) (by omega)
def zQ_halve (z : zS) : zS := if zat z 9 0 ≤ 1 then
    (let c := zG_member z 0 0
     let z1 := zC_putOut (zG_take z c) c 1
     zput z1 5 c (nI (z1.2.1 7).length))
  else zset (zG_split z) 5 ((zG_split z).1 5 + 1)
theorem sQ_halve (hq : isQ z T h) : AM (d + 4) kQ_halve 0 0 none [.ref 0] h (fun r h' => r = none ∧ isQ (zQ_halve z) T h') := by
  refine AX.aload_n rfl rfl ?_
  refine AX.getf rfl (Q0 hq) rfl ?_
  refine AX.iconstV (v := 0) rfl (by decide) ?_
  refine AX.cVI rfl rfl rfl (Q19 hq) (sG_sizeOf hq _) (fun h hq => ?_)
  refine AX.iconstV (v := 1) rfl (by decide) ?_
  refine AX.icmp_le rfl (fun c1 => ?_) (fun c1 => ?_)
  · refine AX.aload_n rfl rfl ?_
    refine AX.getf rfl (Q0 hq) rfl ?_
    refine AX.iconstV (v := 0) rfl (by decide) ?_
    refine AX.iconstV (v := 0) rfl (by decide) ?_
    refine AX.cVI rfl rfl rfl (Q19 hq) (sG_memberAt hq _ _) (fun h hq => ?_)
    refine AX.istore_n rfl (by decide) ?_
    refine AX.aload_n rfl rfl ?_
    refine AX.getf rfl (Q0 hq) rfl ?_
    refine AX.iload_n rfl rfl ?_
    refine AX.cVV rfl rfl rfl (Q19 hq) (sG_takeOut hq _) (fun h hq => ?_)
    refine AX.aload_n rfl rfl ?_
    refine AX.getf rfl (Q0 hq) rfl ?_
    refine AX.iload_n rfl rfl ?_
    refine AX.iconstV (v := 1) rfl (by decide) ?_
    refine AX.cVV rfl rfl rfl (Q1 hq) (sC_putOut hq _ _) (fun h hq => ?_)
    refine AX.aload_n rfl rfl ?_
    refine AX.getf rfl (Q0 hq) rfl ?_
    refine AX.iload_n rfl rfl ?_
    refine AX.aload_n rfl rfl ?_
    refine AX.getf rfl (Q0 hq) rfl ?_
    refine AX.cVI rfl rfl rfl (QRo hq 7 (by decide)) (wCount hq 7 (by decide)) (fun h hq => ?_)
    refine AX.cVV rfl rfl rfl (Q1 hq) (sC_putTreeSize hq _ _) (fun h hq => ?_)
    exact AX.vreturn rfl rfl ⟨rfl, by simpa [zQ_halve, c1] using hq⟩ (Nat.le_refl _) (Nat.le_refl _)
  · refine AX.aload_n rfl rfl ?_
    refine AX.getf rfl (Q0 hq) rfl ?_
    refine AX.cVV rfl rfl rfl (Q19 hq) (sG_splitFirst hq) (fun h hq => ?_)
    refine AX.aload_n rfl rfl ?_
    refine AX.dup rfl rfl ?_
    refine AX.getf rfl (Q0 hq) rfl ?_
    refine AX.iconstV (v := 1) rfl (by decide) ?_
    refine AX.iadd rfl ?_
    refine AX.putf rfl (Q0 hq) (Nat.le_of_ble_eq_true rfl) rfl ?_
    refine AX.gen (G := isQ _ T) (QS5 hq _) (fun h hq => ?_)
    exact AX.vreturn rfl rfl ⟨rfl, by simpa [zQ_halve, c1] using hq⟩ (Nat.le_refl _) (Nat.le_refl _)
def zQ_ask (z : zS) : Bool × zS := if zG_next z = -1 then (false, z) else if zG_asked z < z.1 1 then (true, zput z 10 (zG_next z) 1) else (false, z)
theorem sQ_askNext (hq : isQ z T h) : AM (d + 3) kQ_askNext 0 0 none [.ref 0] h (fun r h' => r = some (.int (bI (zQ_ask z).1)) ∧ isQ (zQ_ask z).2 T h') := by
  refine AX.aload_n rfl rfl ?_
  refine AX.getf rfl (Q0 hq) rfl ?_
  refine AX.cVI rfl rfl rfl (Q19 hq) (sG_nextToAsk hq) (fun h hq => ?_)
  refine AX.istore_n rfl (by decide) ?_
  refine AX.iload_n rfl rfl ?_
  refine AX.iconstV (v := (-1)) rfl (by decide) ?_
  refine AX.icmp_eq rfl (fun c1 => ?_) (fun c1 => ?_)
  · refine AX.iconstV (v := 0) rfl (by decide) ?_
    exact AX.zreturn rfl rfl (by decide) ⟨by simp [zQ_ask, c1, bI], by simpa [zQ_ask, c1] using hq⟩ (Nat.le_refl _) (Nat.le_refl _)
  · refine AX.aload_n rfl rfl ?_
    refine AX.getf rfl (Q0 hq) rfl ?_
    refine AX.cVI rfl rfl rfl (Q19 hq) (sG_countAsked hq) (fun h hq => ?_)
    refine AX.aload_n rfl rfl ?_
    refine AX.getf rfl (Q0 hq) rfl ?_
    refine AX.icmp_lt rfl (fun c2 => ?_) (fun c2 => ?_)
    · refine AX.aload_n rfl rfl ?_
      refine AX.getf rfl (Q0 hq) rfl ?_
      refine AX.iload_n rfl rfl ?_
      refine AX.iconstV (v := 1) rfl (by decide) ?_
      refine AX.cVV rfl rfl rfl (Q19 hq) (sG_putState hq _ _) (fun h hq => ?_)
      refine AX.iconstV (v := 1) rfl (by decide) ?_
      exact AX.zreturn rfl rfl (by decide) ⟨by simp [zQ_ask, c1, c2, bI], by simpa [zQ_ask, c1, c2] using hq⟩ (Nat.le_refl _) (Nat.le_refl _)
    · refine AX.iconstV (v := 0) rfl (by decide) ?_
      exact AX.zreturn rfl rfl (by decide) ⟨by simp [zQ_ask, c1, c2, bI], by simpa [zQ_ask, c1, c2] using hq⟩ (Nat.le_refl _) (Nat.le_refl _)
def zClash (z : zS) (c : Int32) : Nat → Nat → Bool
  | 0, _ => false
  | n + 1, m => if zConf z c (zat z 8 (nI m)) = true then true else zClash z c n (m + 1)
def zQ_clash (z : zS) (c : Int32) : Bool := zClash z c (z.2.1 8).length 0
theorem sQ_clashesWithGroups_l (c : Int32) : ∀ (n m : Nat) (h : ax_H), isQ z T h → (z.2.1 8).length = m + n → AX (d + 3) kQ_clashesWithGroups 0 0 none 2 [(2, .int (nI m)), (0, .ref 0), (1, .int c)] [] h 0 0 (ax_ret kQ_clashesWithGroups 0 0 (fun r h' => r = some (.int (bI (zClash z c n m))) ∧ isQ z T h')) := by
  intro n
  induction n with
  | zero =>
    intro m h hq hb
    have hl := QL hq 8 (by decide)
    refine AX.iload_n rfl rfl ?_
    refine AX.aload_n rfl rfl ?_
    refine AX.getf rfl (Q0 hq) rfl ?_
    refine AX.cVI rfl rfl rfl (Q19 hq) (sG_lineLength hq) (fun h hq => ?_)
    refine AX.icmp_ge rfl (fun c1 => ?_) (fun c1 => ?_)
    · refine AX.iconstV (v := 0) rfl (by decide) ?_
      exact AX.zreturn rfl rfl (by decide) ⟨rfl, hq⟩ (Nat.le_refl _) (Nat.le_refl _)
    · exact absurd (nI_le (by omega) (by omega)) c1
  | succ n ih =>
    intro m h hq hb
    have hl := QL hq 8 (by decide)
    refine AX.iload_n rfl rfl ?_
    refine AX.aload_n rfl rfl ?_
    refine AX.getf rfl (Q0 hq) rfl ?_
    refine AX.cVI rfl rfl rfl (Q19 hq) (sG_lineLength hq) (fun h hq => ?_)
    refine AX.icmp_ge rfl (fun c1 => ?_) (fun c1 => ?_)
    · exact absurd c1 (nI_ge (by omega) (by omega))
    · refine AX.aload_n rfl rfl ?_
      refine AX.getf rfl (Q0 hq) rfl ?_
      refine AX.iload_n rfl rfl ?_
      refine AX.aload_n rfl rfl ?_
      refine AX.getf rfl (Q0 hq) rfl ?_
      refine AX.iload_n rfl rfl ?_
      refine AX.cVI rfl rfl rfl (Q19 hq) (sG_inLine hq _) (fun h hq => ?_)
      refine AX.cVI rfl rfl rfl (Q1 hq) (sC_areInConflict hq _ _) (fun h hq => ?_)
      refine AX.if_eqB rfl (fun c2 => ?_) (fun c2 => ?_)
      · refine AX.iincV (dn := 1) rfl rfl (by decide) (by decide) ?_
        refine AX.goto rfl ?_
        rw [nI_1]
        simp only [zClash, c1, c2, if_false, Bool.false_eq_true]
        exact ih (m + 1) h hq (by omega)
      · refine AX.iconstV (v := 1) rfl (by decide) ?_
        exact AX.zreturn rfl rfl (by decide) ⟨by simp [zClash, c1, c2, bI], hq⟩ (Nat.le_refl _) (Nat.le_refl _)
theorem sQ_clashesWithGroups (hq : isQ z T h) (c : Int32) : AM (d + 3) kQ_clashesWithGroups 0 0 none [.ref 0, .int c] h (fun r h' => r = some (.int (bI (zQ_clash z c))) ∧ isQ z T h') := by
  refine AX.iconstV (v := 0) rfl (by decide) ?_
  refine AX.istore_n rfl (by decide) ?_
  exact sQ_clashesWithGroups_l c _ 0 h hq (by omega)
def zDrop1 (z : zS) (m : Nat) : zS := if zat z 2 (zat z 6 (nI m)) = 1 then zrem z 6 (nI m) else z
def zDrop : Nat → zS → zS
  | 0, z => z
  | n + 1, z => zDrop n (zDrop1 z n)
theorem sQ_drop_l : ∀ (n : Nat) (z : zS) (h : ax_H), isQ z T h → n < 2 ^ 31 → AX (d + 3) kQ_dropGroupedFromQueue 0 0 none 10 [(1, .int (nI n - 1)), (0, .ref 0)] [] h 0 0 (ax_ret kQ_dropGroupedFromQueue 0 0 (fun r h' => r = none ∧ isQ (zDrop n z) T h')) := by
  intro n
  induction n with
  | zero =>
    intro z h hq hb
    refine AX.iload_n rfl rfl ?_
    refine AX.if_lt rfl (fun c1 => ?_) (fun c1 => ?_)
    · exact AX.vreturn rfl rfl ⟨rfl, hq⟩ (Nat.le_refl _) (Nat.le_refl _)
    · exact absurd nI_m1 c1
  | succ n ih =>
    intro z h hq hb
    rw [nI_pred]
    refine AX.iload_n rfl rfl ?_
    refine AX.if_lt rfl (fun c1 => ?_) (fun c1 => ?_)
    · exact absurd c1 (nI_pos (by omega))
    · refine AX.aload_n rfl rfl ?_
      refine AX.getf rfl (Q0 hq) rfl ?_
      refine AX.aload_n rfl rfl ?_
      refine AX.getf rfl (Q0 hq) rfl ?_
      refine AX.iload_n rfl rfl ?_
      refine AX.cVI rfl rfl rfl (QRo hq 6 (by decide)) (wAt hq 6 (by decide) _) (fun h hq => ?_)
      refine AX.cVI rfl rfl rfl (Q1 hq) (sC_placeOf hq _) (fun h hq => ?_)
      refine AX.iconstV (v := 1) rfl (by decide) ?_
      refine AX.icmp_ne rfl (fun c2 => ?_) (fun c2 => ?_)
      · refine AX.iincV (dn := (-1)) rfl rfl (by decide) (by decide) ?_
        refine AX.goto rfl ?_
        rw [nI_dec]
        exact ih (zDrop1 z n) h (by simpa [zDrop1, c1, c2] using hq) (by omega)
      · refine AX.aload_n rfl rfl ?_
        refine AX.getf rfl (Q0 hq) rfl ?_
        refine AX.iload_n rfl rfl ?_
        refine AX.cVV rfl rfl rfl (QRo hq 6 (by decide)) (wRem hq 6 (by decide) _) (fun h hq => ?_)
        refine AX.iincV (dn := (-1)) rfl rfl (by decide) (by decide) ?_
        refine AX.goto rfl ?_
        rw [nI_dec]
        exact ih (zDrop1 z n) h (by simpa [zDrop1, c1, c2] using hq) (by omega)
def zQ_drop (z : zS) : zS := zDrop (z.2.1 6).length z
theorem sQ_dropGroupedFromQueue (hq : isQ z T h) : AM (d + 3) kQ_dropGroupedFromQueue 0 0 none [.ref 0] h (fun r h' => r = none ∧ isQ (zQ_drop z) T h') := by
  have hl := QL hq 6 (by decide)
  refine AX.aload_n rfl rfl ?_
  refine AX.getf rfl (Q0 hq) rfl ?_
  refine AX.cVI rfl rfl rfl (QRo hq 6 (by decide)) (wCount hq 6 (by decide)) (fun h hq => ?_)
  refine AX.iconstV (v := 1) rfl (by decide) ?_
  refine AX.isub rfl ?_
  refine AX.istore_n rfl (by decide) ?_
  exact sQ_drop_l _ z h hq (by omega)
def zForm1 (z : zS) (m : Nat) : zS := zput (zapp z 8 (zat z 6 (nI m))) 2 (zat z 6 (nI m)) 1
def zForm : Nat → Nat → Int32 → zS → Int32 × zS
  | 0, _, s, z => (s, z)
  | n + 1, m, s, z => if z.1 0 ≤ s then (s, z) else if zQ_clash z (zat z 6 (nI m)) = true then zForm n (m + 1) s z else zForm n (m + 1) (s + 1) (zForm1 z m)
def zFormE (q : Int32 × zS) : Bool × zS := if q.1 = 0 then (false, q.2) else (true, zQ_drop (zG_insG q.2 (nI (q.2.2.1 10).length) q.1))
theorem zForm1_6 (z : zS) (m : Nat) : (zForm1 z m).2.1 6 = z.2.1 6 := by
  simp [zForm1, zput, zapp, zrow, va_up]
theorem sQ_formNext_l : ∀ (n m : Nat) (s : Int32) (z : zS) (h : ax_H), isQ z T h → (z.2.1 6).length = m + n → AX (d + 4) kQ_formNext 0 0 none 20 [(2, .int (nI m)), (1, .int s), (0, .ref 0)] [] h 0 0 (ax_ret kQ_formNext 0 0 (fun r h' => r = some (.int (bI (zFormE (zForm n m s z)).1)) ∧ isQ (zFormE (zForm n m s z)).2 T h')) := by
  intro n
  induction n with
  | zero =>
    intro m s z h hq hb
    have hl := QL hq 6 (by decide)
    refine AX.iload_n rfl rfl ?_
    refine AX.aload_n rfl rfl ?_
    refine AX.getf rfl (Q0 hq) rfl ?_
    refine AX.cVI rfl rfl rfl (QRo hq 6 (by decide)) (wCount hq 6 (by decide)) (fun h hq => ?_)
    refine AX.icmp_ge rfl (fun c1 => ?_) (fun c1 => ?_)
    · refine AX.iload_n rfl rfl ?_
      refine AX.if_ne rfl (fun c2 => ?_) (fun c2 => ?_)
      · refine AX.aload_n rfl rfl ?_
        refine AX.getf rfl (Q0 hq) rfl ?_
        refine AX.iload_n rfl rfl ?_
        refine AX.cVV rfl rfl rfl (Q19 hq) (sG_closeLast hq _) (fun h hq => ?_)
        refine AX.aload_n rfl rfl ?_
        refine AX.cVV rfl rfl rfl (Q0 hq) (sQ_dropGroupedFromQueue hq) (fun h hq => ?_)
        refine AX.iconstV (v := 1) rfl (by decide) ?_
        exact AX.zreturn rfl rfl (by decide) ⟨by simp [zForm, zFormE, c1, c2, bI], by simpa [zForm, zFormE, c1, c2] using hq⟩ (Nat.le_refl _) (Nat.le_refl _)
      · refine AX.iconstV (v := 0) rfl (by decide) ?_
        exact AX.zreturn rfl rfl (by decide) ⟨by simp [zForm, zFormE, c1, c2, bI], by simpa [zForm, zFormE, c1, c2] using hq⟩ (Nat.le_refl _) (Nat.le_refl _)
    · exact absurd (nI_le (by omega) (by omega)) c1
  | succ n ih =>
    intro m s z h hq hb
    have hl := QL hq 6 (by decide)
    refine AX.iload_n rfl rfl ?_
    refine AX.aload_n rfl rfl ?_
    refine AX.getf rfl (Q0 hq) rfl ?_
    refine AX.cVI rfl rfl rfl (QRo hq 6 (by decide)) (wCount hq 6 (by decide)) (fun h hq => ?_)
    refine AX.icmp_ge rfl (fun c1 => absurd c1 (nI_ge (by omega) (by omega))) (fun _ => ?_)
    refine AX.iload_n rfl rfl ?_
    refine AX.aload_n rfl rfl ?_
    refine AX.getf rfl (Q0 hq) rfl ?_
    refine AX.icmp_ge rfl (fun c1 => ?_) (fun c1 => ?_)
    · refine AX.iload_n rfl rfl ?_
      refine AX.if_ne rfl (fun c2 => ?_) (fun c2 => ?_)
      · refine AX.aload_n rfl rfl ?_
        refine AX.getf rfl (Q0 hq) rfl ?_
        refine AX.iload_n rfl rfl ?_
        refine AX.cVV rfl rfl rfl (Q19 hq) (sG_closeLast hq _) (fun h hq => ?_)
        refine AX.aload_n rfl rfl ?_
        refine AX.cVV rfl rfl rfl (Q0 hq) (sQ_dropGroupedFromQueue hq) (fun h hq => ?_)
        refine AX.iconstV (v := 1) rfl (by decide) ?_
        exact AX.zreturn rfl rfl (by decide) ⟨by rw [show zForm (n + 1) m s z = (s, z) by simp [zForm, c1]]; simp [zFormE, c2, bI], by rw [show zForm (n + 1) m s z = (s, z) by simp [zForm, c1]]; simpa [zFormE, c2] using hq⟩ (Nat.le_refl _) (Nat.le_refl _)
      · refine AX.iconstV (v := 0) rfl (by decide) ?_
        exact AX.zreturn rfl rfl (by decide) ⟨by rw [show zForm (n + 1) m s z = (s, z) by simp [zForm, c1]]; simp [zFormE, c2, bI], by rw [show zForm (n + 1) m s z = (s, z) by simp [zForm, c1]]; simpa [zFormE, c2] using hq⟩ (Nat.le_refl _) (Nat.le_refl _)
    · refine AX.aload_n rfl rfl ?_
      refine AX.getf rfl (Q0 hq) rfl ?_
      refine AX.iload_n rfl rfl ?_
      refine AX.cVI rfl rfl rfl (QRo hq 6 (by decide)) (wAt hq 6 (by decide) _) (fun h hq => ?_)
      refine AX.istore_n rfl (by decide) ?_
      refine AX.aload_n rfl rfl ?_
      refine AX.iload_n rfl rfl ?_
      refine AX.cVI rfl rfl rfl (Q0 hq) (sQ_clashesWithGroups hq _) (fun h hq => ?_)
      refine AX.if_neB rfl (fun c2 => ?_) (fun c2 => ?_)
      · refine AX.iincV (dn := 1) rfl rfl (by decide) (by decide) ?_
        refine AX.goto rfl ?_
        rw [nI_1]
        first
          | (rw [show zForm (n + 1) m s z = zForm n (m + 1) (s + 1) (zForm1 z m) by simp [zForm, c1, c2]]; refine AX.sub [0, 1, 3] rfl ?_; exact ih (m + 1) (s + 1) (zForm1 z m) h hq (by show (((zForm1 z m).2.1 6).length = _); rw [zForm1_6]; omega))
          | (rw [show zForm (n + 1) m s z = zForm n (m + 1) s z by simp [zForm, c1, c2]]; refine AX.sub [0, 2, 3] rfl ?_; exact ih (m + 1) s z h hq (by omega))
      · refine AX.aload_n rfl rfl ?_
        refine AX.getf rfl (Q0 hq) rfl ?_
        refine AX.iload_n rfl rfl ?_
        refine AX.cVV rfl rfl rfl (Q19 hq) (sG_appendToLine hq _) (fun h hq => ?_)
        refine AX.aload_n rfl rfl ?_
        refine AX.getf rfl (Q0 hq) rfl ?_
        refine AX.iload_n rfl rfl ?_
        refine AX.iconstV (v := 1) rfl (by decide) ?_
        refine AX.cVV rfl rfl rfl (Q1 hq) (sC_putPlace hq _ _) (fun h hq => ?_)
        refine AX.iincV (dn := 1) rfl rfl (by decide) (by decide) ?_
        refine AX.iincV (dn := 1) rfl rfl (by decide) (by decide) ?_
        refine AX.goto rfl ?_
        rw [nI_1]
        first
          | (rw [show zForm (n + 1) m s z = zForm n (m + 1) (s + 1) (zForm1 z m) by simp [zForm, c1, c2]]; refine AX.sub [0, 1, 3] rfl ?_; exact ih (m + 1) (s + 1) (zForm1 z m) h hq (by show (((zForm1 z m).2.1 6).length = _); rw [zForm1_6]; omega))
          | (rw [show zForm (n + 1) m s z = zForm n (m + 1) s z by simp [zForm, c1, c2]]; refine AX.sub [0, 2, 3] rfl ?_; exact ih (m + 1) s z h hq (by omega))
def zQ_form (z : zS) : Bool × zS := if nI (z.2.1 10).length < z.1 1 then zFormE (zForm (z.2.1 6).length 0 0 z) else (false, z)
theorem sQ_formNext (hq : isQ z T h) : AM (d + 4) kQ_formNext 0 0 none [.ref 0] h (fun r h' => r = some (.int (bI (zQ_form z).1)) ∧ isQ (zQ_form z).2 T h') := by
  refine AX.aload_n rfl rfl ?_
  refine AX.getf rfl (Q0 hq) rfl ?_
  refine AX.cVI rfl rfl rfl (Q19 hq) (sG_count hq) (fun h hq => ?_)
  refine AX.aload_n rfl rfl ?_
  refine AX.getf rfl (Q0 hq) rfl ?_
  refine AX.icmp_lt rfl (fun c1 => ?_) (fun c1 => ?_)
  · refine AX.iconstV (v := 0) rfl (by decide) ?_
    refine AX.istore_n rfl (by decide) ?_
    refine AX.iconstV (v := 0) rfl (by decide) ?_
    refine AX.istore_n rfl (by decide) ?_
    rw [show zQ_form z = zFormE (zForm (z.2.1 6).length 0 0 z) by simp [zQ_form, c1]]
    exact sQ_formNext_l _ 0 0 z h hq (by omega)
  · refine AX.iconstV (v := 0) rfl (by decide) ?_
    exact AX.zreturn rfl rfl (by decide) ⟨by simp [zQ_form, c1, bI], by simpa [zQ_form, c1] using hq⟩ (Nat.le_refl _) (Nat.le_refl _)
def zQ_step (z : zS) : Int32 × zS :=
  if zat z 10 0 = 3 then (1, zQ_land z) else if zat z 10 0 = 2 then (2, zQ_halve z) else if z.1 3 = 0 then
    (if (zQ_ask z).1 = true then (3, (zQ_ask z).2) else if (zQ_form (zQ_ask z).2).1 = true then (4, (zQ_form (zQ_ask z).2).2) else (0, (zQ_form (zQ_ask z).2).2))
  else (0, z)
theorem sQ_step (hq : isQ z T h) : AM (d + 5) kQ_step 0 0 none [.ref 0] h (fun r h' => r = some (.int (zQ_step z).1) ∧ isQ (zQ_step z).2 T h') := by
  refine AX.aload_n rfl rfl ?_
  refine AX.getf rfl (Q0 hq) rfl ?_
  refine AX.iconstV (v := 0) rfl (by decide) ?_
  refine AX.cVI rfl rfl rfl (Q19 hq) (sG_stateOf hq _) (fun h hq => ?_)
  refine AX.istore_n rfl (by decide) ?_
  refine AX.iload_n rfl rfl ?_
  refine AX.iconstV (v := 3) rfl (by decide) ?_
  refine AX.icmp_ne rfl (fun c1 => ?_) (fun c1 => ?_)
  · refine AX.iload_n rfl rfl ?_
    refine AX.iconstV (v := 2) rfl (by decide) ?_
    refine AX.icmp_ne rfl (fun c2 => ?_) (fun c2 => ?_)
    · refine AX.aload_n rfl rfl ?_
      refine AX.getf rfl (Q0 hq) rfl ?_
      refine AX.if_eq rfl (fun c3 => ?_) (fun c3 => ?_)
      · refine AX.aload_n rfl rfl ?_
        refine AX.cVI rfl rfl rfl (Q0 hq) (sQ_askNext hq) (fun h hq => ?_)
        refine AX.if_eqB rfl (fun c4 => ?_) (fun c4 => ?_)
        · refine AX.aload_n rfl rfl ?_
          refine AX.cVI rfl rfl rfl (Q0 hq) (sQ_formNext hq) (fun h hq => ?_)
          refine AX.if_eqB rfl (fun c5 => ?_) (fun c5 => ?_)
          · refine AX.iconstV (v := 0) rfl (by decide) ?_
            exact AX.ireturn rfl rfl ⟨by simp [zQ_step, c1, c2, c3, c4, c5], by simpa [zQ_step, c1, c2, c3, c4, c5] using hq⟩ (Nat.le_refl _) (Nat.le_refl _)
          · refine AX.iconstV (v := 4) rfl (by decide) ?_
            refine AX.goto rfl ?_
            exact AX.ireturn rfl rfl ⟨by simp [zQ_step, c1, c2, c3, c4, c5], by simpa [zQ_step, c1, c2, c3, c4, c5] using hq⟩ (Nat.le_refl _) (Nat.le_refl _)
        · refine AX.iconstV (v := 3) rfl (by decide) ?_
          exact AX.ireturn rfl rfl ⟨by simp [zQ_step, c1, c2, c3, c4], by simpa [zQ_step, c1, c2, c3, c4] using hq⟩ (Nat.le_refl _) (Nat.le_refl _)
      · refine AX.iconstV (v := 0) rfl (by decide) ?_
        exact AX.ireturn rfl rfl ⟨by simp [zQ_step, c1, c2, c3], by simpa [zQ_step, c1, c2, c3] using hq⟩ (Nat.le_refl _) (Nat.le_refl _)
    · refine AX.aload_n rfl rfl ?_
      refine AX.cVV rfl rfl rfl (Q0 hq) (sQ_halve hq) (fun h hq => ?_)
      refine AX.iconstV (v := 2) rfl (by decide) ?_
      exact AX.ireturn rfl rfl ⟨by simp [zQ_step, c1, c2], by simpa [zQ_step, c1, c2] using hq⟩ (Nat.le_refl _) (Nat.le_refl _)
  · refine AX.aload_n rfl rfl ?_
    refine AX.cVV rfl rfl rfl (Q0 hq) (sQ_land hq) (fun h hq => ?_)
    refine AX.iconstV (v := 1) rfl (by decide) ?_
    exact AX.ireturn rfl rfl ⟨by simp [zQ_step, c1], by simpa [zQ_step, c1] using hq⟩ (Nat.le_refl _) (Nat.le_refl _)
def zQ_answer (z : zS) (g p : Int32) : Int32 × zS :=
  if zat z 10 g = 1 then
    (let z1 := zset z 4 (z.1 4 + 1)
     let z2 := if p = 0 then zG_addF z1 g (z1.1 2) else zput z1 10 g 3
     (zat z2 10 g, z2))
  else (-1, z)
theorem sQ_answer (hq : isQ z T h) (g p : Int32) : AM (d + 3) kQ_answer 0 0 none [.ref 0, .int g, .int p] h (fun r h' => r = some (.int (zQ_answer z g p).1) ∧ isQ (zQ_answer z g p).2 T h') := by
  refine AX.aload_n rfl rfl ?_
  refine AX.getf rfl (Q0 hq) rfl ?_
  refine AX.iload_n rfl rfl ?_
  refine AX.cVI rfl rfl rfl (Q19 hq) (sG_stateOf hq _) (fun h hq => ?_)
  refine AX.iconstV (v := 1) rfl (by decide) ?_
  refine AX.icmp_eq rfl (fun c1 => ?_) (fun c1 => ?_)
  · refine AX.aload_n rfl rfl ?_
    refine AX.dup rfl rfl ?_
    refine AX.getf rfl (Q0 hq) rfl ?_
    refine AX.iconstV (v := 1) rfl (by decide) ?_
    refine AX.iadd rfl ?_
    refine AX.putf rfl (Q0 hq) (Nat.le_of_ble_eq_true rfl) rfl ?_
    refine AX.gen (G := isQ _ T) (QS4 hq _) (fun h hq => ?_)
    refine AX.iload_n rfl rfl ?_
    refine AX.if_eq rfl (fun c2 => ?_) (fun c2 => ?_)
    · refine AX.aload_n rfl rfl ?_
      refine AX.getf rfl (Q0 hq) rfl ?_
      refine AX.iload_n rfl rfl ?_
      refine AX.aload_n rfl rfl ?_
      refine AX.getf rfl (Q0 hq) rfl ?_
      refine AX.cVV rfl rfl rfl (Q19 hq) (sG_addFailure hq _ _) (fun h hq => ?_)
      refine AX.aload_n rfl rfl ?_
      refine AX.getf rfl (Q0 hq) rfl ?_
      refine AX.iload_n rfl rfl ?_
      refine AX.cVI rfl rfl rfl (Q19 hq) (sG_stateOf hq _) (fun h hq => ?_)
      exact AX.ireturn rfl rfl ⟨by simp [zQ_answer, c1, c2], by simpa [zQ_answer, c1, c2] using hq⟩ (Nat.le_refl _) (Nat.le_refl _)
    · refine AX.aload_n rfl rfl ?_
      refine AX.getf rfl (Q0 hq) rfl ?_
      refine AX.iload_n rfl rfl ?_
      refine AX.iconstV (v := 3) rfl (by decide) ?_
      refine AX.cVV rfl rfl rfl (Q19 hq) (sG_putState hq _ _) (fun h hq => ?_)
      refine AX.goto rfl ?_
      refine AX.aload_n rfl rfl ?_
      refine AX.getf rfl (Q0 hq) rfl ?_
      refine AX.iload_n rfl rfl ?_
      refine AX.cVI rfl rfl rfl (Q19 hq) (sG_stateOf hq _) (fun h hq => ?_)
      exact AX.ireturn rfl rfl ⟨by simp [zQ_answer, c1, c2], by simpa [zQ_answer, c1, c2] using hq⟩ (Nat.le_refl _) (Nat.le_refl _)
  · refine AX.iconstV (v := (-1)) rfl (by decide) ?_
    exact AX.ireturn rfl rfl ⟨by simp [zQ_answer, c1], by simpa [zQ_answer, c1] using hq⟩ (Nat.le_refl _) (Nat.le_refl _)
theorem sQ_groups (hq : isQ z T h) : AM (d + 2) kQ_groups 0 0 none [.ref 0] h (fun r h' => r = some (.int (nI (z.2.1 10).length)) ∧ isQ z T h') := by
  refine AX.aload_n rfl rfl ?_
  refine AX.getf rfl (Q0 hq) rfl ?_
  refine AX.cVI rfl rfl rfl (Q19 hq) (sG_count hq) (fun h hq => ?_)
  exact AX.ireturn rfl rfl ⟨rfl, hq⟩ (Nat.le_refl _) (Nat.le_refl _)
def zQ_group (z : zS) (i w : Int32) : Int32 := if w = 0 then zat z 10 i else if w = 1 then zat z 9 i else if w = 2 then zat z 11 i else if w = 3 then zG_base z i else -1
theorem sQ_group (hq : isQ z T h) (i w : Int32) : AM (d + 3) kQ_group 0 0 none [.ref 0, .int i, .int w] h (fun r h' => r = some (.int (zQ_group z i w)) ∧ isQ z T h') := by
  refine AX.iload_n rfl rfl ?_
  by_cases w0 : w = 0
  · subst w0
    refine AX.tsIn 32 rfl (by decide) (by decide) rfl (by decide) ?_
    refine AX.aload_n rfl rfl ?_
    refine AX.getf rfl (Q0 hq) rfl ?_
    refine AX.iload_n rfl rfl ?_
    refine AX.cVI rfl rfl rfl (Q19 hq) (sG_stateOf hq _) (fun h hq => ?_)
    exact AX.ireturn rfl rfl ⟨rfl, hq⟩ (Nat.le_refl _) (Nat.le_refl _)
  by_cases w1 : w = 1
  · subst w1
    refine AX.tsIn 41 rfl (by decide) (by decide) rfl (by decide) ?_
    refine AX.aload_n rfl rfl ?_
    refine AX.getf rfl (Q0 hq) rfl ?_
    refine AX.iload_n rfl rfl ?_
    refine AX.cVI rfl rfl rfl (Q19 hq) (sG_sizeOf hq _) (fun h hq => ?_)
    exact AX.ireturn rfl rfl ⟨rfl, hq⟩ (Nat.le_refl _) (Nat.le_refl _)
  by_cases w2 : w = 2
  · subst w2
    refine AX.tsIn 50 rfl (by decide) (by decide) rfl (by decide) ?_
    refine AX.aload_n rfl rfl ?_
    refine AX.getf rfl (Q0 hq) rfl ?_
    refine AX.iload_n rfl rfl ?_
    refine AX.cVI rfl rfl rfl (Q19 hq) (sG_failuresOf hq _) (fun h hq => ?_)
    exact AX.ireturn rfl rfl ⟨rfl, hq⟩ (Nat.le_refl _) (Nat.le_refl _)
  by_cases w3 : w = 3
  · subst w3
    refine AX.tsIn 59 rfl (by decide) (by decide) rfl (by decide) ?_
    refine AX.aload_n rfl rfl ?_
    refine AX.getf rfl (Q0 hq) rfl ?_
    refine AX.iload_n rfl rfl ?_
    refine AX.cVI rfl rfl rfl (Q19 hq) (sG_baseOf hq _) (fun h hq => ?_)
    exact AX.ireturn rfl rfl ⟨rfl, hq⟩ (Nat.le_refl _) (Nat.le_refl _)
  refine AX.tsOut rfl (sw4 w0 w1 w2 w3) ?_
  refine AX.iconstV (v := (-1)) rfl (by decide) ?_
  exact AX.ireturn rfl rfl ⟨by simp [zQ_group, w0, w1, w2, w3], hq⟩ (Nat.le_refl _) (Nat.le_refl _)
theorem sQ_member (hq : isQ z T h) (g k : Int32) : AM (d + 4) kQ_member 0 0 none [.ref 0, .int g, .int k] h (fun r h' => r = some (.int (zG_member z g k)) ∧ isQ z T h') := by
  refine AX.aload_n rfl rfl ?_
  refine AX.getf rfl (Q0 hq) rfl ?_
  refine AX.iload_n rfl rfl ?_
  refine AX.iload_n rfl rfl ?_
  refine AX.cVI rfl rfl rfl (Q19 hq) (sG_memberAt hq _ _) (fun h hq => ?_)
  exact AX.ireturn rfl rfl ⟨rfl, hq⟩ (Nat.le_refl _) (Nat.le_refl _)
theorem sQ_waiting (hq : isQ z T h) (k : Int32) : AM (d + 2) kQ_waiting 0 0 none [.ref 0, .int k] h (fun r h' => r = some (.int (zat z 6 k)) ∧ isQ z T h') := by
  refine AX.aload_n rfl rfl ?_
  refine AX.getf rfl (Q0 hq) rfl ?_
  refine AX.iload_n rfl rfl ?_
  refine AX.cVI rfl rfl rfl (QRo hq 6 (by decide)) (wAt hq 6 (by decide) _) (fun h hq => ?_)
  exact AX.ireturn rfl rfl ⟨rfl, hq⟩ (Nat.le_refl _) (Nat.le_refl _)
theorem sQ_landed (hq : isQ z T h) (k : Int32) : AM (d + 2) kQ_landed 0 0 none [.ref 0, .int k] h (fun r h' => r = some (.int (zat z 7 k)) ∧ isQ z T h') := by
  refine AX.aload_n rfl rfl ?_
  refine AX.getf rfl (Q0 hq) rfl ?_
  refine AX.iload_n rfl rfl ?_
  refine AX.cVI rfl rfl rfl (QRo hq 7 (by decide)) (wAt hq 7 (by decide) _) (fun h hq => ?_)
  exact AX.ireturn rfl rfl ⟨rfl, hq⟩ (Nat.le_refl _) (Nat.le_refl _)
theorem sQ_where (hq : isQ z T h) (k : Int32) : AM (d + 3) kQ_where 0 0 none [.ref 0, .int k] h (fun r h' => r = some (.int (zat z 2 k)) ∧ isQ z T h') := by
  refine AX.aload_n rfl rfl ?_
  refine AX.getf rfl (Q0 hq) rfl ?_
  refine AX.iload_n rfl rfl ?_
  refine AX.cVI rfl rfl rfl (Q1 hq) (sC_placeOf hq _) (fun h hq => ?_)
  exact AX.ireturn rfl rfl ⟨rfl, hq⟩ (Nat.le_refl _) (Nat.le_refl _)
theorem sQ_why (hq : isQ z T h) (k : Int32) : AM (d + 3) kQ_why 0 0 none [.ref 0, .int k] h (fun r h' => r = some (.int (zat z 3 k)) ∧ isQ z T h') := by
  refine AX.aload_n rfl rfl ?_
  refine AX.getf rfl (Q0 hq) rfl ?_
  refine AX.iload_n rfl rfl ?_
  refine AX.cVI rfl rfl rfl (Q1 hq) (sC_reasonOf hq _) (fun h hq => ?_)
  exact AX.ireturn rfl rfl ⟨rfl, hq⟩ (Nat.le_refl _) (Nat.le_refl _)
def zQ_by (z : zS) (c : Int32) : Int32 := if zat z 3 c = 1 then zat z 5 c else if zat z 3 c = 2 then zQ_fc z c else -1
theorem sQ_by (hq : isQ z T h) (c : Int32) : AM (d + 3) kQ_by 0 0 none [.ref 0, .int c] h (fun r h' => r = some (.int (zQ_by z c)) ∧ isQ z T h') := by
  refine AX.aload_n rfl rfl ?_
  refine AX.getf rfl (Q0 hq) rfl ?_
  refine AX.iload_n rfl rfl ?_
  refine AX.cVI rfl rfl rfl (Q1 hq) (sC_reasonOf hq _) (fun h hq => ?_)
  skip
  by_cases r1 : zat z 3 c = 1
  · have e : zQ_by z c = zat z 5 c := by simp [zQ_by, r1]
    rw [r1, e]
    refine AX.ls (off := 28) 36 rfl (by decide) (by decide) (by decide) ?_
    refine AX.aload_n rfl rfl ?_
    refine AX.getf rfl (Q0 hq) rfl ?_
    refine AX.iload_n rfl rfl ?_
    refine AX.cVI rfl rfl rfl (Q1 hq) (sC_treeSizeOf hq _) (fun h hq => ?_)
    exact AX.ireturn rfl rfl ⟨rfl, hq⟩ (Nat.le_refl _) (Nat.le_refl _)
  by_cases r2 : zat z 3 c = 2
  · have e : zQ_by z c = zQ_fc z c := by simp [zQ_by, r2]
    rw [r2, e]
    refine AX.ls (off := 37) 45 rfl (by decide) (by decide) (by decide) ?_
    refine AX.aload_n rfl rfl ?_
    refine AX.iload_n rfl rfl ?_
    refine AX.cVI rfl rfl rfl (Q0 hq) (sQ_firstClashInTree hq _) (fun h hq => ?_)
    exact AX.ireturn rfl rfl ⟨rfl, hq⟩ (Nat.le_refl _) (Nat.le_refl _)
  refine AX.ls (off := 43) 51 rfl (by decide) ((lv_osw r1 (by decide)).trans ((lv_osw r2 (by decide)).trans rfl)) (by decide) ?_
  refine AX.iconstV (v := (-1)) rfl (by decide) ?_
  exact AX.ireturn rfl rfl ⟨by simp [zQ_by, r1, r2], hq⟩ (Nat.le_refl _) (Nat.le_refl _)
def zParts (z : zS) : Nat → Nat → Int32 → Int32
  | 0, _, acc => acc
  | n + 1, m, acc => zParts z n (m + 1) (acc ||| zat z 1 (zat z 7 (nI m)))
def zQ_parts (z : zS) : Int32 := zParts z (z.2.1 7).length 0 0
theorem sQ_partsOfTree_l : ∀ (n m : Nat) (acc : Int32) (h : ax_H), isQ z T h → (z.2.1 7).length = m + n → AX (d + 3) kQ_partsOfTree 0 0 none 4 [(2, .int (nI m)), (1, .int acc), (0, .ref 0)] [] h 0 0 (ax_ret kQ_partsOfTree 0 0 (fun r h' => r = some (.int (zParts z n m acc)) ∧ isQ z T h')) := by
  intro n
  induction n with
  | zero =>
    intro m acc h hq hb
    have hl := QL hq 7 (by decide)
    refine AX.iload_n rfl rfl ?_
    refine AX.aload_n rfl rfl ?_
    refine AX.getf rfl (Q0 hq) rfl ?_
    refine AX.cVI rfl rfl rfl (QRo hq 7 (by decide)) (wCount hq 7 (by decide)) (fun h hq => ?_)
    refine AX.icmp_ge rfl (fun c1 => ?_) (fun c1 => ?_)
    · refine AX.iload_n rfl rfl ?_
      exact AX.ireturn rfl rfl ⟨rfl, hq⟩ (Nat.le_refl _) (Nat.le_refl _)
    · exact absurd (nI_le (by omega) (by omega)) c1
  | succ n ih =>
    intro m acc h hq hb
    have hl := QL hq 7 (by decide)
    refine AX.iload_n rfl rfl ?_
    refine AX.aload_n rfl rfl ?_
    refine AX.getf rfl (Q0 hq) rfl ?_
    refine AX.cVI rfl rfl rfl (QRo hq 7 (by decide)) (wCount hq 7 (by decide)) (fun h hq => ?_)
    refine AX.icmp_ge rfl (fun c1 => ?_) (fun c1 => ?_)
    · exact absurd c1 (nI_ge (by omega) (by omega))
    · refine AX.iload_n rfl rfl ?_
      refine AX.aload_n rfl rfl ?_
      refine AX.getf rfl (Q0 hq) rfl ?_
      refine AX.aload_n rfl rfl ?_
      refine AX.getf rfl (Q0 hq) rfl ?_
      refine AX.iload_n rfl rfl ?_
      refine AX.cVI rfl rfl rfl (QRo hq 7 (by decide)) (wAt hq 7 (by decide) _) (fun h hq => ?_)
      refine AX.cVI rfl rfl rfl (Q1 hq) (sC_partsOf hq _) (fun h hq => ?_)
      refine AX.ior rfl ?_
      refine AX.istore_n rfl (by decide) ?_
      refine AX.iincV (dn := 1) rfl rfl (by decide) (by decide) ?_
      refine AX.goto rfl ?_
      rw [nI_1]
      simp only [zParts]
      exact ih (m + 1) _ h hq (by omega)
theorem sQ_partsOfTree (hq : isQ z T h) : AM (d + 3) kQ_partsOfTree 0 0 none [.ref 0] h (fun r h' => r = some (.int (zQ_parts z)) ∧ isQ z T h') := by
  refine AX.iconstV (v := 0) rfl (by decide) ?_
  refine AX.istore_n rfl (by decide) ?_
  refine AX.iconstV (v := 0) rfl (by decide) ?_
  refine AX.istore_n rfl (by decide) ?_
  exact sQ_partsOfTree_l _ 0 0 h hq (by omega)
def zQ_counted (z : zS) (w : Int32) : Int32 := if w = 0 then z.1 4 else if w = 1 then z.1 5 else if w = 2 then z.1 7 else if w = 3 then zQ_parts z else -1
theorem sQ_counted (hq : isQ z T h) (w : Int32) : AM (d + 4) kQ_counted 0 0 none [.ref 0, .int w] h (fun r h' => r = some (.int (zQ_counted z w)) ∧ isQ z T h') := by
  refine AX.iload_n rfl rfl ?_
  by_cases w0 : w = 0
  · subst w0
    refine AX.tsIn 32 rfl (by decide) (by decide) rfl (by decide) ?_
    refine AX.aload_n rfl rfl ?_
    refine AX.getf rfl (Q0 hq) rfl ?_
    exact AX.ireturn rfl rfl ⟨rfl, hq⟩ (Nat.le_refl _) (Nat.le_refl _)
  by_cases w1 : w = 1
  · subst w1
    refine AX.tsIn 37 rfl (by decide) (by decide) rfl (by decide) ?_
    refine AX.aload_n rfl rfl ?_
    refine AX.getf rfl (Q0 hq) rfl ?_
    exact AX.ireturn rfl rfl ⟨rfl, hq⟩ (Nat.le_refl _) (Nat.le_refl _)
  by_cases w2 : w = 2
  · subst w2
    refine AX.tsIn 42 rfl (by decide) (by decide) rfl (by decide) ?_
    refine AX.aload_n rfl rfl ?_
    refine AX.getf rfl (Q0 hq) rfl ?_
    refine AX.cVI rfl rfl rfl (Q19 hq) (sG_countAskedInVain hq) (fun h hq => ?_)
    exact AX.ireturn rfl rfl ⟨rfl, hq⟩ (Nat.le_refl _) (Nat.le_refl _)
  by_cases w3 : w = 3
  · subst w3
    refine AX.tsIn 50 rfl (by decide) (by decide) rfl (by decide) ?_
    refine AX.aload_n rfl rfl ?_
    refine AX.cVI rfl rfl rfl (Q0 hq) (sQ_partsOfTree hq) (fun h hq => ?_)
    exact AX.ireturn rfl rfl ⟨rfl, hq⟩ (Nat.le_refl _) (Nat.le_refl _)
  refine AX.tsOut rfl (sw4 w0 w1 w2 w3) ?_
  refine AX.iconstV (v := (-1)) rfl (by decide) ?_
  exact AX.ireturn rfl rfl ⟨by simp [zQ_counted, w0, w1, w2, w3], hq⟩ (Nat.le_refl _) (Nat.le_refl _)
end MQS
