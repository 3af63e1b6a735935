/-! THE MODEL's waitingAt, clear, beginAnew, goFrom, setState -/
section MW2
variable {p : ax_H} {t : mS} {h : ax_H} {d : Nat}
def wOne (t : mS) (c e : Nat) : Int32 := if t.2 2 c = 0 ∧ t.2 2 e = 0 ∧ mBef t e c = true then 1 else 0
def wCnt (t : mS) (c : Nat) : Nat → Nat → Int32 → Int32
  | 0, _, x => x
  | r + 1, e, x => wCnt t c r (e + 1) (x + wOne t c e)
theorem sM_waitingAt_i {n : Nat} (hn4 : t.1 4 = nI n) (hn : n ≤ 40) {c : Nat} (hc : c < n) (k : Int32) {F : ax_F} (kk : ∀ (x : Int32) (h : ax_H), x = wCnt t c n 0 0 → isM p t h → AX (d + 1) kM_waitingAt 0 0 none 67 [(4, .int (nI n)), (3, .int x), (2, .int (nI c)), (0, .ref 28), (1, .int k)] [] h 0 0 F) : ∀ (r e : Nat) (x : Int32) (h : ax_H), isM p t h → n = e + r → wCnt t c r e x = wCnt t c n 0 0 →
    AX (d + 1) kM_waitingAt 0 0 none 15 [(4, .int (nI e)), (3, .int x), (2, .int (nI c)), (0, .ref 28), (1, .int k)] [] h 0 0 F := by
  intro r
  induction r with
  | zero =>
    intro e x h hm hb hx
    have e1 : e = n := by omega
    subst e1
    refine AX.iload rfl rfl ?_
    refine AX.aload_n rfl rfl ?_
    refine AX.getf rfl (M0 hm) rfl ?_
    refine AX.icmp_ge rfl (fun c1 => ?_) (fun c1 => ?_)
    · exact kk x h hx hm
    · exact absurd (hn4 ▸ nI_le (by omega) (by omega)) c1
  | succ r ih =>
    intro e x h hm hb hx
    refine AX.iload rfl rfl ?_
    refine AX.aload_n rfl rfl ?_
    refine AX.getf rfl (M0 hm) rfl ?_
    refine AX.icmp_ge rfl (fun c1 => ?_) (fun c1 => ?_)
    · exact absurd (hn4 ▸ c1) (nI_ge (by omega) (by omega))
    · refine AX.iload_n rfl rfl ?_
      refine AX.aload_n rfl rfl ?_
      refine AX.getf rfl (M0 hm) rfl ?_
      refine AX.iload_n rfl rfl ?_
      refine AX.ialdX rfl (MA hm 2 (by decide) (by decide) (by decide)) (by decide) (⟨c, by omega, rfl, rfl⟩) ?_
      refine AX.if_ne rfl (fun c2 => ?_) (fun c2 => ?_)
      · refine AX.iconstV (v := 0) rfl (by decide) ?_
        refine AX.iadd rfl ?_
        refine AX.istore_n rfl (by decide) ?_
        refine AX.iincV (dn := 1) rfl rfl (by decide) (by decide) ?_
        refine AX.goto rfl ?_
        rw [nI_1]
        have hw := ih (e + 1) (x + wOne t c e) h hm (by omega) hx
        first
          | (rw [show wOne t c e = 0 by simp [wOne, c1, c2]] at hw; exact hw)
          | (rw [show wOne t c e = 1 by simp [wOne, c1, c2]] at hw; exact hw)
      · refine AX.aload_n rfl rfl ?_
        refine AX.getf rfl (M0 hm) rfl ?_
        refine AX.iload rfl rfl ?_
        refine AX.ialdX rfl (MA hm 2 (by decide) (by decide) (by decide)) (by decide) (⟨e, by omega, rfl, rfl⟩) ?_
        refine AX.if_ne rfl (fun c3 => ?_) (fun c3 => ?_)
        · refine AX.iconstV (v := 0) rfl (by decide) ?_
          refine AX.iadd rfl ?_
          refine AX.istore_n rfl (by decide) ?_
          refine AX.iincV (dn := 1) rfl rfl (by decide) (by decide) ?_
          refine AX.goto rfl ?_
          rw [nI_1]
          have hw := ih (e + 1) (x + wOne t c e) h hm (by omega) hx
          first
            | (rw [show wOne t c e = 0 by simp [wOne, c1, c2, c3]] at hw; exact hw)
            | (rw [show wOne t c e = 1 by simp [wOne, c1, c2, c3]] at hw; exact hw)
        · refine AX.aload_n rfl rfl ?_
          refine AX.iload rfl rfl ?_
          refine AX.iload_n rfl rfl ?_
          refine AX.cVI rfl rfl rfl (M0 hm) (sM_isBefore hm (by omega) (by omega)) (fun h hm => ?_)
          refine AX.if_eqB rfl (fun c4 => ?_) (fun c4 => ?_)
          · refine AX.iconstV (v := 0) rfl (by decide) ?_
            refine AX.iadd rfl ?_
            refine AX.istore_n rfl (by decide) ?_
            refine AX.iincV (dn := 1) rfl rfl (by decide) (by decide) ?_
            refine AX.goto rfl ?_
            rw [nI_1]
            have hw := ih (e + 1) (x + wOne t c e) h hm (by omega) hx
            first
              | (rw [show wOne t c e = 0 by simp [wOne, c1, c2, c3, c4]] at hw; exact hw)
              | (rw [show wOne t c e = 1 by simp [wOne, c1, c2, c3, c4]] at hw; exact hw)
          · refine AX.iconstV (v := 1) rfl (by decide) ?_
            refine AX.goto rfl ?_
            refine AX.iadd rfl ?_
            refine AX.istore_n rfl (by decide) ?_
            refine AX.iincV (dn := 1) rfl rfl (by decide) (by decide) ?_
            refine AX.goto rfl ?_
            rw [nI_1]
            have hw := ih (e + 1) (x + wOne t c e) h hm (by omega) hx
            first
              | (rw [show wOne t c e = 0 by simp [wOne, c1, c2, c3, c4]] at hw; exact hw)
              | (rw [show wOne t c e = 1 by simp [wOne, c1, c2, c3, c4]] at hw; exact hw)
def wAt2 (t : mS) (n : Nat) (k : Int32) : Nat → Nat → Int32
  | 0, _ => -1
  | r + 1, c => if t.2 2 c = 0 ∧ wCnt t c n 0 0 = k then nI c else wAt2 t n k r (c + 1)
theorem sM_waitingAt_l {n : Nat} (hn4 : t.1 4 = nI n) (hn : n ≤ 40) (k : Int32) : ∀ (r c : Nat) (h : ax_H), isM p t h → n = c + r →
    AX (d + 1) kM_waitingAt 0 0 none 2 [(2, .int (nI c)), (0, .ref 28), (1, .int k)] [] h 0 0 (ax_ret kM_waitingAt 0 0 (fun v h' => v = some (.int (wAt2 t n k r c)) ∧ isM p t h')) := by
  intro r
  induction r with
  | zero =>
    intro c h hm hb
    refine AX.iload_n rfl rfl ?_
    refine AX.aload_n rfl rfl ?_
    refine AX.getf rfl (M0 hm) rfl ?_
    refine AX.icmp_ge rfl (fun c1 => ?_) (fun c1 => ?_)
    · refine AX.iconstV (v := (-1)) rfl (by decide) ?_
      exact AX.ireturn rfl rfl ⟨rfl, hm⟩ (Nat.le_refl _) (Nat.le_refl _)
    · exact absurd (hn4 ▸ nI_le (by omega) (by omega)) c1
  | succ r ih =>
    intro c h hm hb
    have inner := sM_waitingAt_i (p := p) (d := d) hn4 hn (c := c) (by omega) k (F := ax_ret kM_waitingAt 0 0 (fun v h' => v = some (.int (wAt2 t n k (r + 1) c)) ∧ isM p t h')) (fun x h hx hm => by
      refine AX.aload_n rfl rfl ?_
      refine AX.getf rfl (M0 hm) rfl ?_
      refine AX.iload_n rfl rfl ?_
      refine AX.ialdX rfl (MA hm 2 (by decide) (by decide) (by decide)) (by decide) (⟨c, by omega, rfl, rfl⟩) ?_
      refine AX.if_ne rfl (fun c1 => ?_) (fun c1 => ?_)
      · refine AX.iincV (dn := 1) rfl rfl (by decide) (by decide) ?_
        refine AX.goto rfl ?_
        rw [nI_1, wAt2, if_neg (by first | exact fun q => c1 q.1 | exact fun q => c2 (hx ▸ q.2))]
        refine AX.sub [0, 3, 4] rfl ?_
        exact ih (c + 1) h hm (by omega)
      · refine AX.iload_n rfl rfl ?_
        refine AX.iload_n rfl rfl ?_
        refine AX.icmp_ne rfl (fun c2 => ?_) (fun c2 => ?_)
        · refine AX.iincV (dn := 1) rfl rfl (by decide) (by decide) ?_
          refine AX.goto rfl ?_
          rw [nI_1, wAt2, if_neg (by first | exact fun q => c1 q.1 | exact fun q => c2 (hx ▸ q.2))]
          refine AX.sub [0, 3, 4] rfl ?_
          exact ih (c + 1) h hm (by omega)
        · refine AX.iload_n rfl rfl ?_
          exact AX.ireturn rfl rfl ⟨by rw [wAt2, if_pos ⟨c1, hx ▸ c2⟩], hm⟩ (Nat.le_refl _) (Nat.le_refl _))
    refine AX.iload_n rfl rfl ?_
    refine AX.aload_n rfl rfl ?_
    refine AX.getf rfl (M0 hm) rfl ?_
    refine AX.icmp_ge rfl (fun c1 => ?_) (fun c1 => ?_)
    · exact absurd (hn4 ▸ c1) (nI_ge (by omega) (by omega))
    · refine AX.iconstV (v := 0) rfl (by decide) ?_
      refine AX.istore_n rfl (by decide) ?_
      refine AX.iconstV (v := 0) rfl (by decide) ?_
      refine AX.istore rfl (by decide) ?_
      exact inner n 0 0 h hm (by omega) rfl
def mWt (t : mS) (n : Nat) (k : Int32) : Int32 := wAt2 t n k n 0
theorem sM_waitingAt {n : Nat} (hn4 : t.1 4 = nI n) (hn : n ≤ 40) (hm : isM p t h) (k : Int32) : AM (d + 1) kM_waitingAt 0 0 none [.ref 28, .int k] h (fun v h' => v = some (.int (mWt t n k)) ∧ isM p t h') := by
  refine AX.iconstV (v := 0) rfl (by decide) ?_
  refine AX.istore_n rfl (by decide) ?_
  exact sM_waitingAt_l hn4 hn k n 0 h hm (by omega)
def mClr (t : mS) (cl : Nat → Bool) (m : Nat) : mS := (t.1, fun a => if a = 2 then (fun c => if c < m ∧ t.2 2 c = 0 ∧ cl c = true then 3 else t.2 2 c) else if a = 4 then (fun c => if c < m ∧ t.2 2 c = 0 ∧ cl c = true then 2 else t.2 4 c) else t.2 a)
theorem mClr_0 (t : mS) (cl : Nat → Bool) : mClr t cl 0 = t := by
  unfold mClr
  refine Prod.ext rfl ?_
  funext a
  by_cases h2 : a = 2
  · subst h2; simp
  · by_cases h4 : a = 4
    · subst h4; simp
    · simp [h2, h4]
theorem mClr_no {t : mS} {cl : Nat → Bool} {m : Nat} (h : ¬ (t.2 2 m = 0 ∧ cl m = true)) : mClr t cl (m + 1) = mClr t cl m := by
  unfold mClr
  refine Prod.ext rfl ?_
  have key : ∀ c, (c < m + 1 ∧ t.2 2 c = 0 ∧ cl c = true) ↔ (c < m ∧ t.2 2 c = 0 ∧ cl c = true) := by
    intro c
    constructor
    · rintro ⟨h1, h2⟩
      refine ⟨?_, h2⟩
      rcases Nat.lt_or_eq_of_le (Nat.le_of_lt_succ h1) with h3 | h3
      · exact h3
      · subst h3; exact absurd h2 h
    · rintro ⟨h1, h2⟩; exact ⟨by omega, h2⟩
  funext a
  simp only [key]
theorem mClr_yes {t : mS} {cl : Nat → Bool} {m : Nat} (h : t.2 2 m = 0 ∧ cl m = true) : mClr t cl (m + 1) = marr (marr (mClr t cl m) 2 m 3) 4 m 2 := by
  unfold mClr marr
  refine Prod.ext rfl ?_
  funext a c
  by_cases h2 : a = 2
  · subst h2
    by_cases hc : c = m
    · subst hc; simp [va_up, upd, h]
    · have e : (c < m + 1) = (c < m) := by apply propext; omega
      simp [va_up, upd, hc, e]
  · by_cases h4 : a = 4
    · subst h4
      by_cases hc : c = m
      · subst hc; simp [va_up, upd, h]
      · have e : (c < m + 1) = (c < m) := by apply propext; omega
        simp [va_up, upd, hc, e]
    · simp [va_up, h2, h4]
theorem mClr_2 (t : mS) (cl : Nat → Bool) (m c : Nat) (h : m ≤ c) : (mClr t cl m).2 2 c = t.2 2 c := by
  unfold mClr
  simp [Nat.not_lt.mpr h]
theorem mClr_o (t : mS) (cl : Nat → Bool) (m a : Nat) (h2 : a ≠ 2) (h4 : a ≠ 4) : (mClr t cl m).2 a = t.2 a := by
  unfold mClr
  simp [h2, h4]
theorem sM_clear_l {cf : Nat → Nat → Bool} {Tr : List Nat} {n : Nat} (hn4 : t.1 4 = nI n) (hn : n ≤ 40) (hcf : ∀ a b, a < 40 → b < 40 → t.2 6 (40 * a + b) = bI (cf a b)) (h7 : t.1 7 = nI Tr.length) (hT : Tr.length ≤ 40) (hT2 : ∀ i, i < Tr.length → t.2 8 i = nI (Tr.getD i 0) ∧ Tr.getD i 0 < 40) : ∀ (r m : Nat) (h : ax_H), isM p (mClr t (fun c => !decide (yFC cf Tr c = -1)) m) h → n = m + r →
    AX (d + 2) kM_clear 0 0 none 2 [(1, .int (nI m)), (0, .ref 28)] [] h 0 0 (ax_ret kM_clear 0 0 (fun v h' => v = none ∧ isM p (mClr t (fun c => !decide (yFC cf Tr c = -1)) n) h')) := by
  intro r
  induction r with
  | zero =>
    intro m h hm hb
    have e1 : m = n := by omega
    subst e1
    refine AX.iload_n rfl rfl ?_
    refine AX.aload_n rfl rfl ?_
    refine AX.getf rfl (M0 hm) rfl ?_
    refine AX.icmp_ge rfl (fun c1 => ?_) (fun c1 => ?_)
    · exact AX.vreturn rfl rfl ⟨rfl, hm⟩ (Nat.le_refl _) (Nat.le_refl _)
    · exact absurd (hn4 ▸ nI_le (by omega) (by omega)) c1
  | succ r ih =>
    intro m h hm hb
    refine AX.iload_n rfl rfl ?_
    refine AX.aload_n rfl rfl ?_
    refine AX.getf rfl (M0 hm) rfl ?_
    refine AX.icmp_ge rfl (fun c1 => ?_) (fun c1 => ?_)
    · exact absurd (hn4 ▸ c1) (nI_ge (by omega) (by omega))
    · refine AX.aload_n rfl rfl ?_
      refine AX.getf rfl (M0 hm) rfl ?_
      refine AX.iload_n rfl rfl ?_
      refine AX.ialdX rfl (MA hm 2 (by decide) (by decide) (by decide)) (by decide) (⟨m, by omega, rfl, mClr_2 t _ m m (Nat.le_refl _)⟩) ?_
      refine AX.if_ne rfl (fun c2 => ?_) (fun c2 => ?_)
      · refine AX.iincV (dn := 1) rfl rfl (by decide) (by decide) ?_
        refine AX.goto rfl ?_
        rw [nI_1]
        refine ih (m + 1) h ?_ (by omega)
        first
          | (rw [mClr_no (fun q => c2 q.1)]; exact hm)
          | (rw [mClr_no (fun q => by simp [c3] at q)]; exact hm)
          | (rw [mClr_yes ⟨c2, by simp [c3]⟩]; exact hm)
      · refine AX.aload_n rfl rfl ?_
        refine AX.iload_n rfl rfl ?_
        refine AX.cVI rfl rfl rfl (M0 hm) (sM_inTree (t := mClr t (fun c => !decide (yFC cf Tr c = -1)) m) (Tr := Tr) (cf := cf) (fun a b ha hb => by rw [mClr_o _ _ _ _ (by decide) (by decide)]; exact hcf a b ha hb) h7 hT (fun i hi => by rw [mClr_o _ _ _ _ (by decide) (by decide)]; exact hT2 i hi) hm (c := m) (by omega)) (fun h hm => ?_)
        refine AX.iconstV (v := (-1)) rfl (by decide) ?_
        refine AX.icmp_ne rfl (fun c3 => ?_) (fun c3 => ?_)
        · refine AX.aload_n rfl rfl ?_
          refine AX.getf rfl (M0 hm) rfl ?_
          refine AX.iload_n rfl rfl ?_
          refine AX.iconstV (v := 3) rfl (by decide) ?_
          refine AX.iastX (m) rfl (MA hm 2 (by decide) (by decide) (by decide)) (by decide) (by omega) (rfl) ?_
          refine AX.gen (G := isM p _) (MW hm 2 _ _ (by decide) (by decide) (by decide)) (fun h hm => ?_)
          refine AX.aload_n rfl rfl ?_
          refine AX.getf rfl (M0 hm) rfl ?_
          refine AX.iload_n rfl rfl ?_
          refine AX.iconstV (v := 2) rfl (by decide) ?_
          refine AX.iastX (m) rfl (MA hm 4 (by decide) (by decide) (by decide)) (by decide) (by omega) (rfl) ?_
          refine AX.gen (G := isM p _) (MW hm 4 _ _ (by decide) (by decide) (by decide)) (fun h hm => ?_)
          refine AX.iincV (dn := 1) rfl rfl (by decide) (by decide) ?_
          refine AX.goto rfl ?_
          rw [nI_1]
          refine ih (m + 1) h ?_ (by omega)
          first
            | (rw [mClr_no (fun q => c2 q.1)]; exact hm)
            | (rw [mClr_no (fun q => by simp [c3] at q)]; exact hm)
            | (rw [mClr_yes ⟨c2, by simp [c3]⟩]; exact hm)
        · refine AX.goto rfl ?_
          refine AX.iincV (dn := 1) rfl rfl (by decide) (by decide) ?_
          refine AX.goto rfl ?_
          rw [nI_1]
          refine ih (m + 1) h ?_ (by omega)
          first
            | (rw [mClr_no (fun q => c2 q.1)]; exact hm)
            | (rw [mClr_no (fun q => by simp [c3] at q)]; exact hm)
            | (rw [mClr_yes ⟨c2, by simp [c3]⟩]; exact hm)
def mClear (t : mS) (cf : Nat → Nat → Bool) (Tr : List Nat) (n : Nat) : mS := mClr t (fun c => !decide (yFC cf Tr c = -1)) n
theorem sM_clear {cf : Nat → Nat → Bool} {Tr : List Nat} {n : Nat} (hn4 : t.1 4 = nI n) (hn : n ≤ 40) (hcf : ∀ a b, a < 40 → b < 40 → t.2 6 (40 * a + b) = bI (cf a b)) (h7 : t.1 7 = nI Tr.length) (hT : Tr.length ≤ 40) (hT2 : ∀ i, i < Tr.length → t.2 8 i = nI (Tr.getD i 0) ∧ Tr.getD i 0 < 40) (hm : isM p t h) : AM (d + 2) kM_clear 0 0 none [.ref 28] h (fun v h' => v = none ∧ isM p (mClear t cf Tr n) h') := by
  refine AX.iconstV (v := 0) rfl (by decide) ?_
  refine AX.istore_n rfl (by decide) ?_
  exact sM_clear_l hn4 hn hcf h7 hT hT2 n 0 h (by rw [mClr_0]; exact hm) (by omega)
end MW2
