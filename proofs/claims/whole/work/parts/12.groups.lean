theorem QL {z : zS} {T h : ax_H} (hq : isQ z T h) (r : Nat) (hr : r < 12) : (z.2.1 r).length ≤ 40 := (QR hq r hr).choose_spec.2.2.1.1
theorem rPut_len (xs : List Int32) (k v : Int32) : (rPut xs k v).length = xs.length := by
  unfold rPut
  by_cases h : rHas xs k = true
  · rw [if_pos h, List.length_set]
  · rw [if_neg h]
theorem zrow_same (z : zS) (r : Nat) (xs : List Int32) : (zrow z r xs).2.1 r = xs := by simp [zrow, va_up]
theorem zrow_ne {z : zS} {r q : Nat} {xs : List Int32} (h : q ≠ r) : (zrow z r xs).2.1 q = z.2.1 q := by simp [zrow, va_up, h]
theorem zput_len (z : zS) (r q : Nat) (k v : Int32) : ((zput z r k v).2.1 q).length = (z.2.1 q).length := by
  unfold zput
  by_cases h : q = r
  · subst h; rw [zrow_same, rPut_len]
  · rw [zrow_ne h]
section GR
variable {z : zS} {T h : ax_H} {d : Nat}
theorem sG_count (hq : isQ z T h) : AM (d + 1) kG_count 0 0 none [.ref 19] h (fun r h' => r = some (.int (nI (z.2.1 10).length)) ∧ isQ z T h') := by
  refine AX.aload_n rfl rfl ?_
  refine AX.getf rfl (Q19 hq) rfl ?_
  refine AX.cVI rfl rfl rfl (QRo hq 10 (by decide)) (wCount hq 10 (by decide)) (fun h hq => ?_)
  exact AX.ireturn rfl rfl ⟨rfl, hq⟩ (Nat.le_refl _) (Nat.le_refl _)
theorem sG_lineLength (hq : isQ z T h) : AM (d + 1) kG_lineLength 0 0 none [.ref 19] h (fun r h' => r = some (.int (nI (z.2.1 8).length)) ∧ isQ z T h') := by
  refine AX.aload_n rfl rfl ?_
  refine AX.getf rfl (Q19 hq) rfl ?_
  refine AX.cVI rfl rfl rfl (QRo hq 8 (by decide)) (wCount hq 8 (by decide)) (fun h hq => ?_)
  exact AX.ireturn rfl rfl ⟨rfl, hq⟩ (Nat.le_refl _) (Nat.le_refl _)
theorem sG_inLine (hq : isQ z T h) (k : Int32) : AM (d + 2) kG_inLine 0 0 none [.ref 19, .int k] h (fun r h' => r = some (.int (zat z 8 k)) ∧ isQ z T h') := by
  refine AX.aload_n rfl rfl ?_
  refine AX.getf rfl (Q19 hq) rfl ?_
  refine AX.iload_n rfl rfl ?_
  refine AX.cVI rfl rfl rfl (QRo hq 8 (by decide)) (wAt hq 8 (by decide) _) (fun h hq => ?_)
  exact AX.ireturn rfl rfl ⟨rfl, hq⟩ (Nat.le_refl _) (Nat.le_refl _)
theorem sG_stateOf (hq : isQ z T h) (k : Int32) : AM (d + 2) kG_stateOf 0 0 none [.ref 19, .int k] h (fun r h' => r = some (.int (zat z 10 k)) ∧ isQ z T h') := by
  refine AX.aload_n rfl rfl ?_
  refine AX.getf rfl (Q19 hq) rfl ?_
  refine AX.iload_n rfl rfl ?_
  refine AX.cVI rfl rfl rfl (QRo hq 10 (by decide)) (wAt hq 10 (by decide) _) (fun h hq => ?_)
  exact AX.ireturn rfl rfl ⟨rfl, hq⟩ (Nat.le_refl _) (Nat.le_refl _)
theorem sG_putState (hq : isQ z T h) (k v : Int32) : AM (d + 2) kG_putState 0 0 none [.ref 19, .int k, .int v] h (fun r h' => r = none ∧ isQ (zput z 10 k v) T h') := by
  refine AX.aload_n rfl rfl ?_
  refine AX.getf rfl (Q19 hq) rfl ?_
  refine AX.iload_n rfl rfl ?_
  refine AX.iload_n rfl rfl ?_
  refine AX.cVV rfl rfl rfl (QRo hq 10 (by decide)) (wPut hq 10 (by decide) _ _) (fun h hq => ?_)
  exact AX.vreturn rfl rfl ⟨rfl, hq⟩ (Nat.le_refl _) (Nat.le_refl _)
theorem sG_sizeOf (hq : isQ z T h) (k : Int32) : AM (d + 2) kG_sizeOf 0 0 none [.ref 19, .int k] h (fun r h' => r = some (.int (zat z 9 k)) ∧ isQ z T h') := by
  refine AX.aload_n rfl rfl ?_
  refine AX.getf rfl (Q19 hq) rfl ?_
  refine AX.iload_n rfl rfl ?_
  refine AX.cVI rfl rfl rfl (QRo hq 9 (by decide)) (wAt hq 9 (by decide) _) (fun h hq => ?_)
  exact AX.ireturn rfl rfl ⟨rfl, hq⟩ (Nat.le_refl _) (Nat.le_refl _)
theorem sG_failuresOf (hq : isQ z T h) (k : Int32) : AM (d + 2) kG_failuresOf 0 0 none [.ref 19, .int k] h (fun r h' => r = some (.int (zat z 11 k)) ∧ isQ z T h') := by
  refine AX.aload_n rfl rfl ?_
  refine AX.getf rfl (Q19 hq) rfl ?_
  refine AX.iload_n rfl rfl ?_
  refine AX.cVI rfl rfl rfl (QRo hq 11 (by decide)) (wAt hq 11 (by decide) _) (fun h hq => ?_)
  exact AX.ireturn rfl rfl ⟨rfl, hq⟩ (Nat.le_refl _) (Nat.le_refl _)
def zBase (z : zS) : Nat → Nat → Int32 → Int32
  | 0, _, acc => acc
  | n + 1, m, acc => zBase z n (m + 1) (acc + zat z 9 (nI m))
def zG_base (z : zS) (g : Int32) : Int32 := if rHas (z.2.1 10) g = true then zBase z g.toNatClampNeg 0 0 else -1
theorem sG_baseOf_l : ∀ (n m : Nat) (acc : Int32) (h : ax_H), isQ z T h → m + n < 2 ^ 31 → AX (d + 2) kG_baseOf 0 0 none 17 [(3, .int (nI m)), (2, .int acc), (0, .ref 19), (1, .int (nI (m + n)))] [] h 0 0 (ax_ret kG_baseOf 0 0 (fun r h' => r = some (.int (zBase z n m acc)) ∧ isQ z T h')) := by
  intro n
  induction n with
  | zero =>
    intro m acc h hq hb
    refine AX.iload_n rfl rfl ?_
    refine AX.iload_n rfl rfl ?_
    refine AX.icmp_ge rfl (fun c1 => ?_) (fun c1 => ?_)
    · refine AX.iload_n rfl rfl ?_
      exact AX.ireturn rfl rfl ⟨rfl, hq⟩ (Nat.le_refl _) (Nat.le_refl _)
    · exact absurd (nI_le (Nat.le_refl _) (by omega)) c1
  | succ n ih =>
    intro m acc h hq hb
    refine AX.iload_n rfl rfl ?_
    refine AX.iload_n rfl rfl ?_
    refine AX.icmp_ge rfl (fun c1 => ?_) (fun c1 => ?_)
    · exact absurd c1 (nI_ge (by omega) (by omega))
    · refine AX.iload_n rfl rfl ?_
      refine AX.aload_n rfl rfl ?_
      refine AX.getf rfl (Q19 hq) rfl ?_
      refine AX.iload_n rfl rfl ?_
      refine AX.cVI rfl rfl rfl (QRo hq 9 (by decide)) (wAt hq 9 (by decide) _) (fun h hq => ?_)
      refine AX.iadd rfl ?_
      refine AX.istore_n rfl (by decide) ?_
      refine AX.iincV (dn := 1) rfl rfl (by decide) (by decide) ?_
      refine AX.goto rfl ?_
      rw [nI_1, show m + (n + 1) = (m + 1) + n by omega]
      exact ih (m + 1) _ h hq (by omega)
theorem sG_baseOf (hq : isQ z T h) (g : Int32) : AM (d + 2) kG_baseOf 0 0 none [.ref 19, .int g] h (fun r h' => r = some (.int (zG_base z g)) ∧ isQ z T h') := by
  refine AX.aload_n rfl rfl ?_
  refine AX.getf rfl (Q19 hq) rfl ?_
  refine AX.iload_n rfl rfl ?_
  refine AX.cVI rfl rfl rfl (QRo hq 10 (by decide)) (wHas hq 10 (by decide) _) (fun h hq => ?_)
  refine AX.if_neB rfl (fun c1 => ?_) (fun c1 => ?_)
  · refine AX.iconstV (v := 0) rfl (by decide) ?_
    refine AX.istore_n rfl (by decide) ?_
    refine AX.iconstV (v := 0) rfl (by decide) ?_
    refine AX.istore_n rfl (by decide) ?_
    obtain ⟨j, j1, j2, j3, -⟩ := rHas_t c1 (QL hq 10 (by decide))
    have hl := QL hq 10 (by decide)
    rw [show zG_base z g = zBase z j 0 0 by rw [zG_base, if_pos c1, j3], j2]
    have := sG_baseOf_l (d := d) (z := z) (T := T) j 0 0 h hq (by omega)
    rw [Nat.zero_add] at this
    exact this
  · refine AX.iconstV (v := (-1)) rfl (by decide) ?_
    exact AX.ireturn rfl rfl ⟨by simp [zG_base, c1], hq⟩ (Nat.le_refl _) (Nat.le_refl _)
def zG_member (z : zS) (g k : Int32) : Int32 := if k < 0 then -1 else if zat z 9 g ≤ k then -1 else zat z 8 (zG_base z g + k)
theorem sG_memberAt (hq : isQ z T h) (g k : Int32) : AM (d + 3) kG_memberAt 0 0 none [.ref 19, .int g, .int k] h (fun r h' => r = some (.int (zG_member z g k)) ∧ isQ z T h') := by
  refine AX.iload_n rfl rfl ?_
  refine AX.if_lt rfl (fun c1 => ?_) (fun c1 => ?_)
  · refine AX.iconstV (v := (-1)) rfl (by decide) ?_
    exact AX.ireturn rfl rfl ⟨by simp [zG_member, c1], hq⟩ (Nat.le_refl _) (Nat.le_refl _)
  · refine AX.iload_n rfl rfl ?_
    refine AX.aload_n rfl rfl ?_
    refine AX.getf rfl (Q19 hq) rfl ?_
    refine AX.iload_n rfl rfl ?_
    refine AX.cVI rfl rfl rfl (QRo hq 9 (by decide)) (wAt hq 9 (by decide) _) (fun h hq => ?_)
    refine AX.icmp_ge rfl (fun c2 => ?_) (fun c2 => ?_)
    · refine AX.iconstV (v := (-1)) rfl (by decide) ?_
      exact AX.ireturn rfl rfl ⟨by simp [zG_member, c1, c2], hq⟩ (Nat.le_refl _) (Nat.le_refl _)
    · refine AX.aload_n rfl rfl ?_
      refine AX.getf rfl (Q19 hq) rfl ?_
      refine AX.aload_n rfl rfl ?_
      refine AX.iload_n rfl rfl ?_
      refine AX.cVI rfl rfl rfl (Q19 hq) (sG_baseOf hq _) (fun h hq => ?_)
      refine AX.iload_n rfl rfl ?_
      refine AX.iadd rfl ?_
      refine AX.cVI rfl rfl rfl (QRo hq 8 (by decide)) (wAt hq 8 (by decide) _) (fun h hq => ?_)
      refine AX.goto rfl ?_
      exact AX.ireturn rfl rfl ⟨by simp [zG_member, c1, c2], hq⟩ (Nat.le_refl _) (Nat.le_refl _)
theorem sG_countAskedInVain (hq : isQ z T h) : AM d kG_countAskedInVain 0 0 none [.ref 19] h (fun r h' => r = some (.int (z.1 7)) ∧ isQ z T h') := by
  refine AX.aload_n rfl rfl ?_
  refine AX.getf rfl (Q19 hq) rfl ?_
  exact AX.ireturn rfl rfl ⟨rfl, hq⟩ (Nat.le_refl _) (Nat.le_refl _)
def zAsked (z : zS) : Nat → Nat → Int32 → Int32
  | 0, _, acc => acc
  | n + 1, m, acc => zAsked z n (m + 1) (if zat z 10 (nI m) = 1 then acc + 1 else acc)
theorem sG_countAsked_l : ∀ (n m : Nat) (acc : Int32) (h : ax_H), isQ z T h → (z.2.1 10).length = m + n → AX (d + 2) kG_countAsked 0 0 none 4 [(2, .int (nI m)), (1, .int acc), (0, .ref 19)] [] h 0 0 (ax_ret kG_countAsked 0 0 (fun r h' => r = some (.int (zAsked z n m acc)) ∧ isQ z T h')) := by
  intro n
  induction n with
  | zero =>
    intro m acc h hq hb
    have hl := QL hq 10 (by decide)
    refine AX.iload_n rfl rfl ?_
    refine AX.aload_n rfl rfl ?_
    refine AX.cVI rfl rfl rfl (Q19 hq) (sG_count hq) (fun h hq => ?_)
    refine AX.icmp_ge rfl (fun c1 => ?_) (fun c1 => ?_)
    · refine AX.iload_n rfl rfl ?_
      exact AX.ireturn rfl rfl ⟨rfl, hq⟩ (Nat.le_refl _) (Nat.le_refl _)
    · exact absurd (nI_le (by omega) (by omega)) c1
  | succ n ih =>
    intro m acc h hq hb
    have hl := QL hq 10 (by decide)
    refine AX.iload_n rfl rfl ?_
    refine AX.aload_n rfl rfl ?_
    refine AX.cVI rfl rfl rfl (Q19 hq) (sG_count hq) (fun h hq => ?_)
    refine AX.icmp_ge rfl (fun c1 => ?_) (fun c1 => ?_)
    · exact absurd c1 (nI_ge (by omega) (by omega))
    · refine AX.aload_n rfl rfl ?_
      refine AX.getf rfl (Q19 hq) rfl ?_
      refine AX.iload_n rfl rfl ?_
      refine AX.cVI rfl rfl rfl (QRo hq 10 (by decide)) (wAt hq 10 (by decide) _) (fun h hq => ?_)
      refine AX.iconstV (v := 1) rfl (by decide) ?_
      refine AX.icmp_ne rfl (fun c2 => ?_) (fun c2 => ?_)
      · refine AX.iincV (dn := 1) rfl rfl (by decide) (by decide) ?_
        refine AX.goto rfl ?_
        rw [nI_1]
        simp only [zAsked, c1, c2, if_true, if_false]
        exact ih (m + 1) _ h hq (by omega)
      · refine AX.iincV (dn := 1) rfl rfl (by decide) (by decide) ?_
        refine AX.iincV (dn := 1) rfl rfl (by decide) (by decide) ?_
        refine AX.goto rfl ?_
        rw [nI_1]
        simp only [zAsked, c1, c2, if_true, if_false]
        exact ih (m + 1) _ h hq (by omega)
def zG_asked (z : zS) : Int32 := zAsked z (z.2.1 10).length 0 0
theorem sG_countAsked (hq : isQ z T h) : AM (d + 2) kG_countAsked 0 0 none [.ref 19] h (fun r h' => r = some (.int (zG_asked z)) ∧ isQ z T h') := by
  refine AX.iconstV (v := 0) rfl (by decide) ?_
  refine AX.istore_n rfl (by decide) ?_
  refine AX.iconstV (v := 0) rfl (by decide) ?_
  refine AX.istore_n rfl (by decide) ?_
  exact sG_countAsked_l _ 0 0 h hq (by omega)
def zNext (z : zS) : Nat → Nat → Int32
  | 0, _ => -1
  | n + 1, m => if zat z 10 (nI m) = 0 then nI m else if zat z 10 (nI m) = 2 then -1 else zNext z n (m + 1)
theorem sG_nextToAsk_l : ∀ (n m : Nat) (h : ax_H), isQ z T h → (z.2.1 10).length = m + n → AX (d + 2) kG_nextToAsk 0 0 none 2 [(1, .int (nI m)), (0, .ref 19)] [] h 0 0 (ax_ret kG_nextToAsk 0 0 (fun r h' => r = some (.int (zNext z n m)) ∧ isQ z T h')) := by
  intro n
  induction n with
  | zero =>
    intro m h hq hb
    have hl := QL hq 10 (by decide)
    refine AX.iload_n rfl rfl ?_
    refine AX.aload_n rfl rfl ?_
    refine AX.cVI rfl rfl rfl (Q19 hq) (sG_count hq) (fun h hq => ?_)
    refine AX.icmp_ge rfl (fun c1 => ?_) (fun c1 => ?_)
    · refine AX.iconstV (v := (-1)) rfl (by decide) ?_
      exact AX.ireturn rfl rfl ⟨rfl, hq⟩ (Nat.le_refl _) (Nat.le_refl _)
    · exact absurd (nI_le (by omega) (by omega)) c1
  | succ n ih =>
    intro m h hq hb
    have hl := QL hq 10 (by decide)
    refine AX.iload_n rfl rfl ?_
    refine AX.aload_n rfl rfl ?_
    refine AX.cVI rfl rfl rfl (Q19 hq) (sG_count hq) (fun h hq => ?_)
    refine AX.icmp_ge rfl (fun c1 => ?_) (fun c1 => ?_)
    · exact absurd c1 (nI_ge (by omega) (by omega))
    · refine AX.aload_n rfl rfl ?_
      refine AX.getf rfl (Q19 hq) rfl ?_
      refine AX.iload_n rfl rfl ?_
      refine AX.cVI rfl rfl rfl (QRo hq 10 (by decide)) (wAt hq 10 (by decide) _) (fun h hq => ?_)
      refine AX.if_ne rfl (fun c2 => ?_) (fun c2 => ?_)
      · refine AX.aload_n rfl rfl ?_
        refine AX.getf rfl (Q19 hq) rfl ?_
        refine AX.iload_n rfl rfl ?_
        refine AX.cVI rfl rfl rfl (QRo hq 10 (by decide)) (wAt hq 10 (by decide) _) (fun h hq => ?_)
        refine AX.iconstV (v := 2) rfl (by decide) ?_
        refine AX.icmp_ne rfl (fun c3 => ?_) (fun c3 => ?_)
        · refine AX.iincV (dn := 1) rfl rfl (by decide) (by decide) ?_
          refine AX.goto rfl ?_
          rw [nI_1]
          simp only [zNext, c1, c2, c3, if_true, if_false]
          exact ih (m + 1) h hq (by omega)
        · refine AX.iconstV (v := (-1)) rfl (by decide) ?_
          exact AX.ireturn rfl rfl ⟨by simp [zNext, c1, c2, c3], hq⟩ (Nat.le_refl _) (Nat.le_refl _)
      · refine AX.iload_n rfl rfl ?_
        exact AX.ireturn rfl rfl ⟨by simp [zNext, c1, c2], hq⟩ (Nat.le_refl _) (Nat.le_refl _)
def zG_next (z : zS) : Int32 := zNext z (z.2.1 10).length 0
theorem sG_nextToAsk (hq : isQ z T h) : AM (d + 2) kG_nextToAsk 0 0 none [.ref 19] h (fun r h' => r = some (.int (zG_next z)) ∧ isQ z T h') := by
  refine AX.iconstV (v := 0) rfl (by decide) ?_
  refine AX.istore_n rfl (by decide) ?_
  exact sG_nextToAsk_l _ 0 h hq (by omega)
def zG_addF (z : zS) (g a : Int32) : zS := if zat (zput z 11 g (zat z 11 g + 1)) 11 g < a then zput z 11 g (zat z 11 g + 1) else zput (zput z 11 g (zat z 11 g + 1)) 10 g 2
theorem sG_addFailure (hq : isQ z T h) (g a : Int32) : AM (d + 2) kG_addFailure 0 0 none [.ref 19, .int g, .int a] h (fun r h' => r = none ∧ isQ (zG_addF z g a) T h') := by
  refine AX.aload_n rfl rfl ?_
  refine AX.getf rfl (Q19 hq) rfl ?_
  refine AX.iload_n rfl rfl ?_
  refine AX.aload_n rfl rfl ?_
  refine AX.getf rfl (Q19 hq) rfl ?_
  refine AX.iload_n rfl rfl ?_
  refine AX.cVI rfl rfl rfl (QRo hq 11 (by decide)) (wAt hq 11 (by decide) _) (fun h hq => ?_)
  refine AX.iconstV (v := 1) rfl (by decide) ?_
  refine AX.iadd rfl ?_
  refine AX.cVV rfl rfl rfl (QRo hq 11 (by decide)) (wPut hq 11 (by decide) _ _) (fun h hq => ?_)
  refine AX.aload_n rfl rfl ?_
  refine AX.getf rfl (Q19 hq) rfl ?_
  refine AX.iload_n rfl rfl ?_
  refine AX.cVI rfl rfl rfl (QRo hq 11 (by decide)) (wAt hq 11 (by decide) _) (fun h hq => ?_)
  refine AX.iload_n rfl rfl ?_
  refine AX.icmp_lt rfl (fun c1 => ?_) (fun c1 => ?_)
  · exact AX.vreturn rfl rfl ⟨rfl, by simpa [zG_addF, c1] using hq⟩ (Nat.le_refl _) (Nat.le_refl _)
  · refine AX.aload_n rfl rfl ?_
    refine AX.getf rfl (Q19 hq) rfl ?_
    refine AX.iload_n rfl rfl ?_
    refine AX.iconstV (v := 2) rfl (by decide) ?_
    refine AX.cVV rfl rfl rfl (QRo hq 10 (by decide)) (wPut hq 10 (by decide) _ _) (fun h hq => ?_)
    exact AX.vreturn rfl rfl ⟨rfl, by simpa [zG_addF, c1] using hq⟩ (Nat.le_refl _) (Nat.le_refl _)
theorem sG_appendToLine (hq : isQ z T h) (c : Int32) : AM (d + 3) kG_appendToLine 0 0 none [.ref 19, .int c] h (fun r h' => r = none ∧ isQ (zapp z 8 c) T h') := by
  refine AX.aload_n rfl rfl ?_
  refine AX.getf rfl (Q19 hq) rfl ?_
  refine AX.iload_n rfl rfl ?_
  refine AX.cVV rfl rfl rfl (QRo hq 8 (by decide)) (wApp hq 8 (by decide) _) (fun h hq => ?_)
  exact AX.vreturn rfl rfl ⟨rfl, hq⟩ (Nat.le_refl _) (Nat.le_refl _)
def zG_insG (z : zS) (g s : Int32) : zS := zins (zins (zins z 9 g s) 10 g 0) 11 g 0
theorem sG_insertGroup (hq : isQ z T h) (g s : Int32) : AM (d + 2) kG_insertGroup 0 0 none [.ref 19, .int g, .int s] h (fun r h' => r = none ∧ isQ (zG_insG z g s) T h') := by
  refine AX.aload_n rfl rfl ?_
  refine AX.getf rfl (Q19 hq) rfl ?_
  refine AX.iload_n rfl rfl ?_
  refine AX.iload_n rfl rfl ?_
  refine AX.cVV rfl rfl rfl (QRo hq 9 (by decide)) (wIns hq 9 (by decide) _ _) (fun h hq => ?_)
  refine AX.aload_n rfl rfl ?_
  refine AX.getf rfl (Q19 hq) rfl ?_
  refine AX.iload_n rfl rfl ?_
  refine AX.iconstV (v := 0) rfl (by decide) ?_
  refine AX.cVV rfl rfl rfl (QRo hq 10 (by decide)) (wIns hq 10 (by decide) _ _) (fun h hq => ?_)
  refine AX.aload_n rfl rfl ?_
  refine AX.getf rfl (Q19 hq) rfl ?_
  refine AX.iload_n rfl rfl ?_
  refine AX.iconstV (v := 0) rfl (by decide) ?_
  refine AX.cVV rfl rfl rfl (QRo hq 11 (by decide)) (wIns hq 11 (by decide) _ _) (fun h hq => ?_)
  exact AX.vreturn rfl rfl ⟨rfl, hq⟩ (Nat.le_refl _) (Nat.le_refl _)
theorem sG_closeLast (hq : isQ z T h) (s : Int32) : AM (d + 3) kG_closeLast 0 0 none [.ref 19, .int s] h (fun r h' => r = none ∧ isQ (zG_insG z (nI (z.2.1 10).length) s) T h') := by
  refine AX.aload_n rfl rfl ?_
  refine AX.aload_n rfl rfl ?_
  refine AX.cVI rfl rfl rfl (Q19 hq) (sG_count hq) (fun h hq => ?_)
  refine AX.iload_n rfl rfl ?_
  refine AX.cVV rfl rfl rfl (Q19 hq) (sG_insertGroup hq _ _) (fun h hq => ?_)
  exact AX.vreturn rfl rfl ⟨rfl, hq⟩ (Nat.le_refl _) (Nat.le_refl _)
def zG_remG (z : zS) (g : Int32) : zS := zrem (zrem (zrem z 9 g) 10 g) 11 g
theorem sG_removeGroup (hq : isQ z T h) (g : Int32) : AM (d + 2) kG_removeGroup 0 0 none [.ref 19, .int g] h (fun r h' => r = none ∧ isQ (zG_remG z g) T h') := by
  refine AX.aload_n rfl rfl ?_
  refine AX.getf rfl (Q19 hq) rfl ?_
  refine AX.iload_n rfl rfl ?_
  refine AX.cVV rfl rfl rfl (QRo hq 9 (by decide)) (wRem hq 9 (by decide) _) (fun h hq => ?_)
  refine AX.aload_n rfl rfl ?_
  refine AX.getf rfl (Q19 hq) rfl ?_
  refine AX.iload_n rfl rfl ?_
  refine AX.cVV rfl rfl rfl (QRo hq 10 (by decide)) (wRem hq 10 (by decide) _) (fun h hq => ?_)
  refine AX.aload_n rfl rfl ?_
  refine AX.getf rfl (Q19 hq) rfl ?_
  refine AX.iload_n rfl rfl ?_
  refine AX.cVV rfl rfl rfl (QRo hq 11 (by decide)) (wRem hq 11 (by decide) _) (fun h hq => ?_)
  exact AX.vreturn rfl rfl ⟨rfl, hq⟩ (Nat.le_refl _) (Nat.le_refl _)
def zRemF (z : zS) : Nat → zS
  | 0 => z
  | n + 1 => zRemF (zrem z 8 0) n
theorem sG_removeFirst_l (sz : Int32) : ∀ (n m : Nat) (z : zS) (h : ax_H), isQ z T h → sz = nI (m + n) → m + n < 2 ^ 31 → AX (d + 3) kG_removeFirst 0 0 none 11 [(2, .int (nI m)), (1, .int sz), (0, .ref 19)] [] h 0 0 (ax_ret kG_removeFirst 0 0 (fun r h' => r = none ∧ isQ (zG_remG (zRemF z n) 0) T h')) := by
  intro n
  induction n with
  | zero =>
    intro m z h hq hs hb
    subst hs
    refine AX.iload_n rfl rfl ?_
    refine AX.iload_n rfl rfl ?_
    refine AX.icmp_ge rfl (fun c1 => ?_) (fun c1 => ?_)
    · refine AX.aload_n rfl rfl ?_
      refine AX.iconstV (v := 0) rfl (by decide) ?_
      refine AX.cVV rfl rfl rfl (Q19 hq) (sG_removeGroup hq _) (fun h hq => ?_)
      exact AX.vreturn rfl rfl ⟨rfl, hq⟩ (Nat.le_refl _) (Nat.le_refl _)
    · exact absurd (nI_le (by omega) (by omega)) c1
  | succ n ih =>
    intro m z h hq hs hb
    refine AX.iload_n rfl rfl ?_
    refine AX.iload_n rfl rfl ?_
    refine AX.icmp_ge rfl (fun c1 => ?_) (fun c1 => ?_)
    · exact absurd (hs ▸ c1) (nI_ge (by omega) (by omega))
    · refine AX.aload_n rfl rfl ?_
      refine AX.getf rfl (Q19 hq) rfl ?_
      refine AX.iconstV (v := 0) rfl (by decide) ?_
      refine AX.cVV rfl rfl rfl (QRo hq 8 (by decide)) (wRem hq 8 (by decide) _) (fun h hq => ?_)
      refine AX.iincV (dn := 1) rfl rfl (by decide) (by decide) ?_
      refine AX.goto rfl ?_
      rw [nI_1]
      exact ih (m + 1) _ h hq (by rw [hs]; congr 1; omega) (by omega)
def zG_remF (z : zS) : zS := zG_remG (zRemF z (zat z 9 0).toNatClampNeg) 0
theorem clampNeg {x : Int32} (h : x < 0) : x.toNatClampNeg = 0 := by
  have h1 : x.toInt < 0 := by simpa using Int32.lt_iff_toInt_lt.mp h
  show x.toInt.toNat = 0
  omega
theorem sG_removeFirst (hq : isQ z T h) : AM (d + 3) kG_removeFirst 0 0 none [.ref 19] h (fun r h' => r = none ∧ isQ (zG_remF z) T h') := by
  by_cases hz : zat z 9 0 < 0
  · have e : zG_remF z = zG_remG z 0 := by rw [zG_remF, clampNeg hz]; rfl
    rw [e]
    have hle : zat z 9 0 ≤ 0 := Int32.le_of_lt hz
    refine AX.aload_n rfl rfl ?_
    refine AX.getf rfl (Q19 hq) rfl ?_
    refine AX.iconstV (v := 0) rfl (by decide) ?_
    refine AX.cVI rfl rfl rfl (QRo hq 9 (by decide)) (wAt hq 9 (by decide) _) (fun h hq => ?_)
    refine AX.istore_n rfl (by decide) ?_
    refine AX.iconstV (v := 0) rfl (by decide) ?_
    refine AX.istore_n rfl (by decide) ?_
    refine AX.iload_n rfl rfl ?_
    refine AX.iload_n rfl rfl ?_
    refine AX.icmp_ge rfl (fun c1 => ?_) (fun c1 => ?_)
    · refine AX.aload_n rfl rfl ?_
      refine AX.iconstV (v := 0) rfl (by decide) ?_
      refine AX.cVV rfl rfl rfl (Q19 hq) (sG_removeGroup hq _) (fun h hq => ?_)
      exact AX.vreturn rfl rfl ⟨rfl, hq⟩ (Nat.le_refl _) (Nat.le_refl _)
    · exact absurd hle c1
  · obtain ⟨j, j1, j2, j3⟩ := i_pos hz
    rw [zG_remF, j3]
    refine AX.aload_n rfl rfl ?_
    refine AX.getf rfl (Q19 hq) rfl ?_
    refine AX.iconstV (v := 0) rfl (by decide) ?_
    refine AX.cVI rfl rfl rfl (QRo hq 9 (by decide)) (wAt hq 9 (by decide) _) (fun h hq => ?_)
    refine AX.istore_n rfl (by decide) ?_
    refine AX.iconstV (v := 0) rfl (by decide) ?_
    refine AX.istore_n rfl (by decide) ?_
    exact sG_removeFirst_l _ j 0 z h hq (by rw [Nat.zero_add]; exact j2) (by omega)
def zAnew1 (z : zS) (m : Nat) : zS := zput (zput (if zat z 10 (nI m) = 1 then zset z 7 (z.1 7 + 1) else z) 10 (nI m) 0) 11 (nI m) 0
def zAnew : Nat → Nat → zS → zS
  | 0, _, z => z
  | n + 1, m, z => zAnew n (m + 1) (zAnew1 z m)
theorem zAnew1_len (z : zS) (m q : Nat) : ((zAnew1 z m).2.1 q).length = (z.2.1 q).length := by
  unfold zAnew1
  rw [zput_len, zput_len]
  by_cases h : zat z 10 (nI m) = 1
  · rw [if_pos h]; rfl
  · rw [if_neg h]
theorem sG_beginAnewFrom_l (f : Int32) : ∀ (n m : Nat) (z : zS) (h : ax_H), isQ z T h → m < 2 ^ 31 → (z.2.1 10).length - m = n → AX (d + 2) kG_beginAnewFrom 0 0 none 2 [(2, .int (nI m)), (0, .ref 19), (1, .int f)] [] h 0 0 (ax_ret kG_beginAnewFrom 0 0 (fun r h' => r = none ∧ isQ (zAnew n m z) T h')) := by
  intro n
  induction n with
  | zero =>
    intro m z h hq hm hb
    have hl := QL hq 10 (by decide)
    refine AX.iload_n rfl rfl ?_
    refine AX.aload_n rfl rfl ?_
    refine AX.cVI rfl rfl rfl (Q19 hq) (sG_count hq) (fun h hq => ?_)
    refine AX.icmp_ge rfl (fun c1 => ?_) (fun c1 => ?_)
    · exact AX.vreturn rfl rfl ⟨rfl, hq⟩ (Nat.le_refl _) (Nat.le_refl _)
    · exact absurd (nI_le (by omega) (by omega)) c1
  | succ n ih =>
    intro m z h hq hm hb
    have hl := QL hq 10 (by decide)
    refine AX.iload_n rfl rfl ?_
    refine AX.aload_n rfl rfl ?_
    refine AX.cVI rfl rfl rfl (Q19 hq) (sG_count hq) (fun h hq => ?_)
    refine AX.icmp_ge rfl (fun c1 => ?_) (fun c1 => ?_)
    · exact absurd c1 (nI_ge (by omega) (by omega))
    · refine AX.aload_n rfl rfl ?_
      refine AX.getf rfl (Q19 hq) rfl ?_
      refine AX.iload_n rfl rfl ?_
      refine AX.cVI rfl rfl rfl (QRo hq 10 (by decide)) (wAt hq 10 (by decide) _) (fun h hq => ?_)
      refine AX.iconstV (v := 1) rfl (by decide) ?_
      refine AX.icmp_ne rfl (fun c2 => ?_) (fun c2 => ?_)
      · refine AX.aload_n rfl rfl ?_
        refine AX.getf rfl (Q19 hq) rfl ?_
        refine AX.iload_n rfl rfl ?_
        refine AX.iconstV (v := 0) rfl (by decide) ?_
        refine AX.cVV rfl rfl rfl (QRo hq 10 (by decide)) (wPut hq 10 (by decide) _ _) (fun h hq => ?_)
        refine AX.aload_n rfl rfl ?_
        refine AX.getf rfl (Q19 hq) rfl ?_
        refine AX.iload_n rfl rfl ?_
        refine AX.iconstV (v := 0) rfl (by decide) ?_
        refine AX.cVV rfl rfl rfl (QRo hq 11 (by decide)) (wPut hq 11 (by decide) _ _) (fun h hq => ?_)
        refine AX.iincV (dn := 1) rfl rfl (by decide) (by decide) ?_
        refine AX.goto rfl ?_
        rw [nI_1]
        simp only [zAnew]
        exact ih (m + 1) (zAnew1 z m) h (by simpa [zAnew1, c1, c2] using hq) (by omega) (by rw [zAnew1_len]; omega)
      · refine AX.aload_n rfl rfl ?_
        refine AX.dup rfl rfl ?_
        refine AX.getf rfl (Q19 hq) rfl ?_
        refine AX.iconstV (v := 1) rfl (by decide) ?_
        refine AX.iadd rfl ?_
        refine AX.putf rfl (Q19 hq) (Nat.le_of_ble_eq_true rfl) rfl ?_
        refine AX.gen (G := isQ _ T) (QS7 hq _) (fun h hq => ?_)
        refine AX.aload_n rfl rfl ?_
        refine AX.getf rfl (Q19 hq) rfl ?_
        refine AX.iload_n rfl rfl ?_
        refine AX.iconstV (v := 0) rfl (by decide) ?_
        refine AX.cVV rfl rfl rfl (QRo hq 10 (by decide)) (wPut hq 10 (by decide) _ _) (fun h hq => ?_)
        refine AX.aload_n rfl rfl ?_
        refine AX.getf rfl (Q19 hq) rfl ?_
        refine AX.iload_n rfl rfl ?_
        refine AX.iconstV (v := 0) rfl (by decide) ?_
        refine AX.cVV rfl rfl rfl (QRo hq 11 (by decide)) (wPut hq 11 (by decide) _ _) (fun h hq => ?_)
        refine AX.iincV (dn := 1) rfl rfl (by decide) (by decide) ?_
        refine AX.goto rfl ?_
        rw [nI_1]
        simp only [zAnew]
        exact ih (m + 1) (zAnew1 z m) h (by simpa [zAnew1, c1, c2] using hq) (by omega) (by rw [zAnew1_len]; omega)
def zG_anew (z : zS) (g : Int32) : zS := zAnew ((z.2.1 10).length - g.toNatClampNeg) g.toNatClampNeg z
theorem sG_beginAnewFrom (hq : isQ z T h) (g : Int32) (hg : ¬ g < 0) : AM (d + 2) kG_beginAnewFrom 0 0 none [.ref 19, .int g] h (fun r h' => r = none ∧ isQ (zG_anew z g) T h') := by
  obtain ⟨j, j1, j2, j3⟩ := i_pos hg
  rw [zG_anew, j3]
  refine AX.iload_n rfl rfl ?_
  refine AX.istore_n rfl (by decide) ?_
  have := sG_beginAnewFrom_l (d := d) (T := T) g _ j z h hq j1 rfl
  rw [← j2] at this
  exact this
def zGrp (z : zS) (k : Int32) : Nat → Nat → Int32 → Int32
  | 0, m, _ => nI m
  | n + 1, m, e => if e + zat z 9 (nI m) ≤ k then zGrp z k n (m + 1) (e + zat z 9 (nI m)) else nI m
theorem sG_groupOfLine_l (k : Int32) : ∀ (n m : Nat) (e : Int32) (h : ax_H), isQ z T h → (z.2.1 10).length = m + n → AX (d + 2) kG_groupOfLine 0 0 none 4 [(3, .int (nI m)), (2, .int e), (0, .ref 19), (1, .int k)] [] h 0 0 (ax_ret kG_groupOfLine 0 0 (fun r h' => r = some (.int (zGrp z k n m e)) ∧ isQ z T h')) := by
  intro n
  induction n with
  | zero =>
    intro m e h hq hb
    have hl := QL hq 10 (by decide)
    refine AX.iload_n rfl rfl ?_
    refine AX.aload_n rfl rfl ?_
    refine AX.cVI rfl rfl rfl (Q19 hq) (sG_count hq) (fun h hq => ?_)
    refine AX.icmp_ge rfl (fun c1 => ?_) (fun c1 => ?_)
    · refine AX.aload_n rfl rfl ?_
      refine AX.cVI rfl rfl rfl (Q19 hq) (sG_count hq) (fun h hq => ?_)
      exact AX.ireturn rfl rfl ⟨by rw [hb]; rfl, hq⟩ (Nat.le_refl _) (Nat.le_refl _)
    · exact absurd (nI_le (by omega) (by omega)) c1
  | succ n ih =>
    intro m e h hq hb
    have hl := QL hq 10 (by decide)
    refine AX.iload_n rfl rfl ?_
    refine AX.aload_n rfl rfl ?_
    refine AX.cVI rfl rfl rfl (Q19 hq) (sG_count hq) (fun h hq => ?_)
    refine AX.icmp_ge rfl (fun c1 => ?_) (fun c1 => ?_)
    · exact absurd c1 (nI_ge (by omega) (by omega))
    · refine AX.iload_n rfl rfl ?_
      refine AX.aload_n rfl rfl ?_
      refine AX.getf rfl (Q19 hq) rfl ?_
      refine AX.iload_n rfl rfl ?_
      refine AX.cVI rfl rfl rfl (QRo hq 9 (by decide)) (wAt hq 9 (by decide) _) (fun h hq => ?_)
      refine AX.iadd rfl ?_
      refine AX.istore_n rfl (by decide) ?_
      refine AX.iload_n rfl rfl ?_
      refine AX.iload_n rfl rfl ?_
      refine AX.icmp_ge rfl (fun c2 => ?_) (fun c2 => ?_)
      · refine AX.iincV (dn := 1) rfl rfl (by decide) (by decide) ?_
        refine AX.goto rfl ?_
        rw [nI_1]
        simp only [zGrp, c1, c2, if_true]
        exact ih (m + 1) _ h hq (by omega)
      · refine AX.iload_n rfl rfl ?_
        exact AX.ireturn rfl rfl ⟨by simp [zGrp, c1, c2], hq⟩ (Nat.le_refl _) (Nat.le_refl _)
def zG_grp (z : zS) (k : Int32) : Int32 := zGrp z k (z.2.1 10).length 0 0
theorem sG_groupOfLine (hq : isQ z T h) (k : Int32) : AM (d + 2) kG_groupOfLine 0 0 none [.ref 19, .int k] h (fun r h' => r = some (.int (zG_grp z k)) ∧ isQ z T h') := by
  refine AX.iconstV (v := 0) rfl (by decide) ?_
  refine AX.istore_n rfl (by decide) ?_
  refine AX.iconstV (v := 0) rfl (by decide) ?_
  refine AX.istore_n rfl (by decide) ?_
  exact sG_groupOfLine_l k _ 0 0 h hq (by omega)
theorem zGrp_nI (z : zS) (k : Int32) : ∀ (n m : Nat) (e : Int32), ∃ j, m ≤ j ∧ j ≤ m + n ∧ zGrp z k n m e = nI j := by
  intro n
  induction n with
  | zero => intro m e; exact ⟨m, Nat.le_refl _, Nat.le_refl _, rfl⟩
  | succ n ih =>
    intro m e
    simp only [zGrp]
    by_cases h : e + zat z 9 (nI m) ≤ k
    · rw [if_pos h]
      obtain ⟨j, h1, h2, h3⟩ := ih (m + 1) (e + zat z 9 (nI m))
      exact ⟨j, by omega, by omega, h3⟩
    · rw [if_neg h]
      exact ⟨m, Nat.le_refl _, by omega, rfl⟩
theorem zG_grp_pos (hq : isQ z T h) (k : Int32) : ¬ zG_grp z k < 0 := by
  obtain ⟨j, h1, h2, h3⟩ := zGrp_nI z k (z.2.1 10).length 0 0
  have := QL hq 10 (by decide)
  rw [zG_grp, h3]
  exact nI_pos (by omega)
def zG_split (z : zS) : zS := zG_anew (zG_insG (zput z 9 0 (zat z 9 0 - zat z 9 0 / 2)) 1 (zat z 9 0 / 2)) 0
theorem sG_splitFirst (hq : isQ z T h) : AM (d + 3) kG_splitFirst 0 0 none [.ref 19] h (fun r h' => r = none ∧ isQ (zG_split z) T h') := by
  refine AX.aload_n rfl rfl ?_
  refine AX.getf rfl (Q19 hq) rfl ?_
  refine AX.iconstV (v := 0) rfl (by decide) ?_
  refine AX.cVI rfl rfl rfl (QRo hq 9 (by decide)) (wAt hq 9 (by decide) _) (fun h hq => ?_)
  refine AX.istore_n rfl (by decide) ?_
  refine AX.iload_n rfl rfl ?_
  refine AX.iconstV (v := 2) rfl (by decide) ?_
  refine AX.idiv rfl (by decide) ?_
  refine AX.istore_n rfl (by decide) ?_
  refine AX.aload_n rfl rfl ?_
  refine AX.getf rfl (Q19 hq) rfl ?_
  refine AX.iconstV (v := 0) rfl (by decide) ?_
  refine AX.iload_n rfl rfl ?_
  refine AX.iload_n rfl rfl ?_
  refine AX.isub rfl ?_
  refine AX.cVV rfl rfl rfl (QRo hq 9 (by decide)) (wPut hq 9 (by decide) _ _) (fun h hq => ?_)
  refine AX.aload_n rfl rfl ?_
  refine AX.iconstV (v := 1) rfl (by decide) ?_
  refine AX.iload_n rfl rfl ?_
  refine AX.cVV rfl rfl rfl (Q19 hq) (sG_insertGroup hq _ _) (fun h hq => ?_)
  refine AX.aload_n rfl rfl ?_
  refine AX.iconstV (v := 0) rfl (by decide) ?_
  refine AX.cVV rfl rfl rfl (Q19 hq) (sG_beginAnewFrom hq 0 (by decide)) (fun h hq => ?_)
  exact AX.vreturn rfl rfl ⟨rfl, hq⟩ (Nat.le_refl _) (Nat.le_refl _)
def zG_take (z : zS) (c : Int32) : zS :=
  if rFind (z.2.1 8) c = -1 then z else
  let k := rFind (z.2.1 8) c
  let g := zG_grp z k
  let z2 := zrem (zG_anew z g) 8 k
  let z3 := zput z2 9 g (zat z2 9 g - 1)
  if zat z3 9 g = 0 then zG_remG z3 g else z3
theorem sG_takeOut (hq : isQ z T h) (c : Int32) : AM (d + 3) kG_takeOut 0 0 none [.ref 19, .int c] h (fun r h' => r = none ∧ isQ (zG_take z c) T h') := by
  refine AX.aload_n rfl rfl ?_
  refine AX.getf rfl (Q19 hq) rfl ?_
  refine AX.iload_n rfl rfl ?_
  refine AX.cVI rfl rfl rfl (QRo hq 8 (by decide)) (wFind hq 8 (by decide) _) (fun h hq => ?_)
  refine AX.istore_n rfl (by decide) ?_
  refine AX.iload_n rfl rfl ?_
  refine AX.iconstV (v := (-1)) rfl (by decide) ?_
  refine AX.icmp_ne rfl (fun c1 => ?_) (fun c1 => ?_)
  · refine AX.aload_n rfl rfl ?_
    refine AX.iload_n rfl rfl ?_
    refine AX.cVI rfl rfl rfl (Q19 hq) (sG_groupOfLine hq _) (fun h hq => ?_)
    refine AX.istore_n rfl (by decide) ?_
    refine AX.aload_n rfl rfl ?_
    refine AX.iload_n rfl rfl ?_
    refine AX.cVV rfl rfl rfl (Q19 hq) (sG_beginAnewFrom hq _ (zG_grp_pos hq _)) (fun h hq => ?_)
    refine AX.aload_n rfl rfl ?_
    refine AX.getf rfl (Q19 hq) rfl ?_
    refine AX.iload_n rfl rfl ?_
    refine AX.cVV rfl rfl rfl (QRo hq 8 (by decide)) (wRem hq 8 (by decide) _) (fun h hq => ?_)
    refine AX.aload_n rfl rfl ?_
    refine AX.getf rfl (Q19 hq) rfl ?_
    refine AX.iload_n rfl rfl ?_
    refine AX.aload_n rfl rfl ?_
    refine AX.getf rfl (Q19 hq) rfl ?_
    refine AX.iload_n rfl rfl ?_
    refine AX.cVI rfl rfl rfl (QRo hq 9 (by decide)) (wAt hq 9 (by decide) _) (fun h hq => ?_)
    refine AX.iconstV (v := 1) rfl (by decide) ?_
    refine AX.isub rfl ?_
    refine AX.cVV rfl rfl rfl (QRo hq 9 (by decide)) (wPut hq 9 (by decide) _ _) (fun h hq => ?_)
    refine AX.aload_n rfl rfl ?_
    refine AX.getf rfl (Q19 hq) rfl ?_
    refine AX.iload_n rfl rfl ?_
    refine AX.cVI rfl rfl rfl (QRo hq 9 (by decide)) (wAt hq 9 (by decide) _) (fun h hq => ?_)
    refine AX.if_ne rfl (fun c2 => ?_) (fun c2 => ?_)
    · exact AX.vreturn rfl rfl ⟨rfl, by simpa [zG_take, c1, c2] using hq⟩ (Nat.le_refl _) (Nat.le_refl _)
    · refine AX.aload_n rfl rfl ?_
      refine AX.iload_n rfl rfl ?_
      refine AX.cVV rfl rfl rfl (Q19 hq) (sG_removeGroup hq _) (fun h hq => ?_)
      exact AX.vreturn rfl rfl ⟨rfl, by simpa [zG_take, c1, c2] using hq⟩ (Nat.le_refl _) (Nat.le_refl _)
  · exact AX.vreturn rfl rfl ⟨rfl, by simpa [zG_take, c1] using hq⟩ (Nat.le_refl _) (Nat.le_refl _)
end GR
