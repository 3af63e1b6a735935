/-! THE MODEL's beginAnew, goFrom, setState -/
section ML
variable {p : ax_H} {t : mS} {h : ax_H} {d : Nat}
theorem LaneOk.cong {t t' : mS} {L : List Nat} {B : List Bool} (hL : LaneOk t L B) (h6 : t'.1 6 = t.1 6) (h7 : t'.2 7 = t.2 7) (h9 : t'.2 9 = t.2 9) : LaneOk t' L B := by
  unfold LaneOk at *
  rw [h6, h7, h9]
  exact hL
def mAn1 (t : mS) (c : Nat) (b : Bool) : mS := marr (marr (mset t 10 (t.1 10 + (if b = true ∧ t.2 10 c = 1 then 1 else 0))) 10 c 0) 11 c 0
def mAnew (L : List Nat) (B : List Bool) : Nat → Nat → mS → mS
  | 0, _, t => t
  | r + 1, m, t => mAnew L B r (m + 1) (mAn1 t (L.getD m 0) (B.getD m false))
theorem sM_beginAnew_l {L : List Nat} {B : List Bool} (f : Int32) : ∀ (r m : Nat) (t : mS) (h : ax_H), LaneOk t L B → isM p t h → L.length - m = r → m < 2 ^ 31 →
    AX d kM_beginAnew 0 0 none 2 [(2, .int (nI m)), (0, .ref 28), (1, .int f)] [] h 0 0 (ax_ret kM_beginAnew 0 0 (fun v h' => v = none ∧ isM p (mAnew L B r m t) h')) := by
  intro r
  induction r with
  | zero =>
    intro m t h hL hm hb hm31
    obtain ⟨h6, hL4, hB, hL2⟩ := hL
    refine AX.iload_n rfl rfl ?_
    refine AX.aload_n rfl rfl ?_
    refine AX.getf rfl (M0 hm) rfl ?_
    refine AX.icmp_ge rfl (fun c1 => ?_) (fun c1 => ?_)
    · exact AX.vreturn rfl rfl ⟨rfl, hm⟩ (Nat.le_refl _) (Nat.le_refl _)
    · exact absurd (h6 ▸ nI_le (by omega) (by omega)) c1
  | succ r ih =>
    intro m t h hL hm hb hm31
    have hLc := hL
    obtain ⟨h6, hL4, hB, hL2⟩ := hL
    have h2 := hL2 m (by omega)
    refine AX.iload_n rfl rfl ?_
    refine AX.aload_n rfl rfl ?_
    refine AX.getf rfl (M0 hm) rfl ?_
    refine AX.icmp_ge rfl (fun c1 => ?_) (fun c1 => ?_)
    · exact absurd (h6 ▸ c1) (nI_ge (by omega) (by omega))
    · refine AX.aload_n rfl rfl ?_
      refine AX.getf rfl (M0 hm) rfl ?_
      refine AX.iload_n rfl rfl ?_
      refine AX.ialdX rfl (MA hm 7 (by decide) (by decide) (by decide)) (by decide) (⟨m, by omega, rfl, h2.1⟩) ?_
      refine AX.istore_n rfl (by decide) ?_
      refine AX.aload_n rfl rfl ?_
      refine AX.dup rfl rfl ?_
      refine AX.getf rfl (M0 hm) rfl ?_
      refine AX.aload_n rfl rfl ?_
      refine AX.getf rfl (M0 hm) rfl ?_
      refine AX.iload_n rfl rfl ?_
      refine AX.zaldX rfl (MA9 hm) (by decide) (⟨_, h2.2.1, rfl, h2.2.2⟩) ?_
      refine AX.if_eqB rfl (fun c2 => ?_) (fun c2 => ?_)
      · refine AX.iconstV (v := 0) rfl (by decide) ?_
        refine AX.iadd rfl ?_
        refine AX.putf rfl (M0 hm) (Nat.le_of_ble_eq_true rfl) rfl ?_
        refine AX.gen (G := isM p _) (MS hm 10 _ (by decide) rfl) (fun h hm => ?_)
        refine AX.aload_n rfl rfl ?_
        refine AX.getf rfl (M0 hm) rfl ?_
        refine AX.iload_n rfl rfl ?_
        refine AX.iconstV (v := 0) rfl (by decide) ?_
        refine AX.iastX (L.getD m 0) rfl (MA hm 10 (by decide) (by decide) (by decide)) (by decide) (h2.2.1) (rfl) ?_
        refine AX.gen (G := isM p _) (MW hm 10 _ _ (by decide) (by decide) (by decide)) (fun h hm => ?_)
        refine AX.aload_n rfl rfl ?_
        refine AX.getf rfl (M0 hm) rfl ?_
        refine AX.iload_n rfl rfl ?_
        refine AX.iconstV (v := 0) rfl (by decide) ?_
        refine AX.iastX (L.getD m 0) rfl (MA hm 11 (by decide) (by decide) (by decide)) (by decide) (h2.2.1) (rfl) ?_
        refine AX.gen (G := isM p _) (MW hm 11 _ _ (by decide) (by decide) (by decide)) (fun h hm => ?_)
        refine AX.iincV (dn := 1) rfl rfl (by decide) (by decide) ?_
        refine AX.goto rfl ?_
        rw [nI_1, mAnew]
        refine AX.sub [0, 2, 3] rfl ?_
        refine ih (m + 1) (mAn1 t (L.getD m 0) (B.getD m false)) h (hLc.cong rfl rfl rfl) ?_ (by omega) (by omega)
        first
          | (rw [mAn1, if_pos ⟨c2, c3⟩]; exact hm)
          | (rw [mAn1, if_neg (fun q => c3 q.2)]; exact hm)
          | (rw [mAn1, if_neg (fun q => by rw [c2] at q; cases q.1)]; exact hm)
      · refine AX.aload_n rfl rfl ?_
        refine AX.getf rfl (M0 hm) rfl ?_
        refine AX.iload_n rfl rfl ?_
        refine AX.ialdX rfl (MA hm 10 (by decide) (by decide) (by decide)) (by decide) (⟨_, h2.2.1, rfl, rfl⟩) ?_
        refine AX.iconstV (v := 1) rfl (by decide) ?_
        refine AX.icmp_ne rfl (fun c3 => ?_) (fun c3 => ?_)
        · refine AX.iconstV (v := 0) rfl (by decide) ?_
          refine AX.iadd rfl ?_
          refine AX.putf rfl (M0 hm) (Nat.le_of_ble_eq_true rfl) rfl ?_
          refine AX.gen (G := isM p _) (MS hm 10 _ (by decide) rfl) (fun h hm => ?_)
          refine AX.aload_n rfl rfl ?_
          refine AX.getf rfl (M0 hm) rfl ?_
          refine AX.iload_n rfl rfl ?_
          refine AX.iconstV (v := 0) rfl (by decide) ?_
          refine AX.iastX (L.getD m 0) rfl (MA hm 10 (by decide) (by decide) (by decide)) (by decide) (h2.2.1) (rfl) ?_
          refine AX.gen (G := isM p _) (MW hm 10 _ _ (by decide) (by decide) (by decide)) (fun h hm => ?_)
          refine AX.aload_n rfl rfl ?_
          refine AX.getf rfl (M0 hm) rfl ?_
          refine AX.iload_n rfl rfl ?_
          refine AX.iconstV (v := 0) rfl (by decide) ?_
          refine AX.iastX (L.getD m 0) rfl (MA hm 11 (by decide) (by decide) (by decide)) (by decide) (h2.2.1) (rfl) ?_
          refine AX.gen (G := isM p _) (MW hm 11 _ _ (by decide) (by decide) (by decide)) (fun h hm => ?_)
          refine AX.iincV (dn := 1) rfl rfl (by decide) (by decide) ?_
          refine AX.goto rfl ?_
          rw [nI_1, mAnew]
          refine AX.sub [0, 2, 3] rfl ?_
          refine ih (m + 1) (mAn1 t (L.getD m 0) (B.getD m false)) h (hLc.cong rfl rfl rfl) ?_ (by omega) (by omega)
          first
            | (rw [mAn1, if_pos ⟨c2, c3⟩]; exact hm)
            | (rw [mAn1, if_neg (fun q => c3 q.2)]; exact hm)
            | (rw [mAn1, if_neg (fun q => by rw [c2] at q; cases q.1)]; exact hm)
        · refine AX.iconstV (v := 1) rfl (by decide) ?_
          refine AX.goto rfl ?_
          refine AX.iadd rfl ?_
          refine AX.putf rfl (M0 hm) (Nat.le_of_ble_eq_true rfl) rfl ?_
          refine AX.gen (G := isM p _) (MS hm 10 _ (by decide) rfl) (fun h hm => ?_)
          refine AX.aload_n rfl rfl ?_
          refine AX.getf rfl (M0 hm) rfl ?_
          refine AX.iload_n rfl rfl ?_
          refine AX.iconstV (v := 0) rfl (by decide) ?_
          refine AX.iastX (L.getD m 0) rfl (MA hm 10 (by decide) (by decide) (by decide)) (by decide) (h2.2.1) (rfl) ?_
          refine AX.gen (G := isM p _) (MW hm 10 _ _ (by decide) (by decide) (by decide)) (fun h hm => ?_)
          refine AX.aload_n rfl rfl ?_
          refine AX.getf rfl (M0 hm) rfl ?_
          refine AX.iload_n rfl rfl ?_
          refine AX.iconstV (v := 0) rfl (by decide) ?_
          refine AX.iastX (L.getD m 0) rfl (MA hm 11 (by decide) (by decide) (by decide)) (by decide) (h2.2.1) (rfl) ?_
          refine AX.gen (G := isM p _) (MW hm 11 _ _ (by decide) (by decide) (by decide)) (fun h hm => ?_)
          refine AX.iincV (dn := 1) rfl rfl (by decide) (by decide) ?_
          refine AX.goto rfl ?_
          rw [nI_1, mAnew]
          refine AX.sub [0, 2, 3] rfl ?_
          refine ih (m + 1) (mAn1 t (L.getD m 0) (B.getD m false)) h (hLc.cong rfl rfl rfl) ?_ (by omega) (by omega)
          first
            | (rw [mAn1, if_pos ⟨c2, c3⟩]; exact hm)
            | (rw [mAn1, if_neg (fun q => c3 q.2)]; exact hm)
            | (rw [mAn1, if_neg (fun q => by rw [c2] at q; cases q.1)]; exact hm)
def mAn (L : List Nat) (B : List Bool) (m : Nat) (t : mS) : mS := mAnew L B (L.length - m) m t
theorem sM_beginAnew {L : List Nat} {B : List Bool} (hL : LaneOk t L B) (hm : isM p t h) {m : Nat} (hm31 : m < 2 ^ 31) : AM d kM_beginAnew 0 0 none [.ref 28, .int (nI m)] h (fun v h' => v = none ∧ isM p (mAn L B m t) h') := by
  refine AX.iload_n rfl rfl ?_
  refine AX.istore_n rfl (by decide) ?_
  exact sM_beginAnew_l (nI m) (L.length - m) m t h hL hm rfl hm31
def mMore (L : List Nat) (B : List Bool) (a : Nat) : Bool := decide (a + 1 < L.length) && !(B.getD (a + 1) false)
def mGo1 (t : mS) (L : List Nat) (B : List Bool) (a : Nat) : mS := if B.getD a false = true ∧ mMore L B a = true then marr t 9 (L.getD (a + 1) 0) 1 else t
def mGo2 (t : mS) (f : Nat → Int32) (a n : Nat) : mS := (t.1, va_up t.2 7 (va_cpy f f (a + 1) a n))
def mGo (t : mS) (L : List Nat) (B : List Bool) (a : Nat) : mS := mset (mGo2 (mGo1 t L B a) (t.2 7) a (L.length - 1 - a)) 6 (t.1 6 - 1)
theorem cpy_0 {f : Nat → Int32} {a : Nat} : va_cpy f f (a + 1) a 0 = f := by
  funext j
  rw [pk_cpy_out (by omega)]
theorem cpy_s {f : Nat → Int32} {a n : Nat} : upd (va_cpy f f (a + 1) a n) (a + n) (f (a + n + 1)) = va_cpy f f (a + 1) a (n + 1) := by
  funext j
  by_cases h1 : j = a + n
  · subst h1
    rw [pk_us, pk_cpy_in (by omega) (by omega)]
    congr 1
    omega
  · rw [pk_un h1]
    by_cases h2 : a ≤ j ∧ j < a + n
    · rw [pk_cpy_in h2.1 h2.2, pk_cpy_in h2.1 (by omega)]
    · rw [pk_cpy_out (by omega), pk_cpy_out (by omega)]
theorem va_up_same {α : Type} (f : Nat → α) (k : Nat) : va_up f k (f k) = f := by
  funext j
  unfold va_up
  by_cases h : j = k
  · rw [if_pos h, h]
  · rw [if_neg h]
theorem sM_goFrom_l {L : List Nat} {t0 : mS} {f : Nat → Int32} (h6 : t0.1 6 = nI L.length) (hL4 : L.length ≤ 40) {a : Nat} (x2 x3 : Int32) : ∀ (r n : Nat) (h : ax_H), isM p (mGo2 t0 f a n) h → L.length = a + n + 1 + r →
    AX d kM_goFrom 0 0 none 69 [(4, .int (nI (a + n))), (3, .int x3), (2, .int x2), (0, .ref 28), (1, .int (nI a))] [] h 0 0 (ax_ret kM_goFrom 0 0 (fun v h' => v = none ∧ isM p (mset (mGo2 t0 f a (n + r)) 6 (t0.1 6 - 1)) h')) := by
  intro r
  induction r with
  | zero =>
    intro n h hm hb
    refine AX.iload rfl rfl ?_
    refine AX.iconstV (v := 1) rfl (by decide) ?_
    refine AX.iadd rfl ?_
    refine AX.aload_n rfl rfl ?_
    refine AX.getf rfl (M0 hm) rfl ?_
    refine AX.icmp_ge rfl (fun c1 => ?_) (fun c1 => ?_)
    · refine AX.aload_n rfl rfl ?_
      refine AX.dup rfl rfl ?_
      refine AX.getf rfl (M0 hm) rfl ?_
      refine AX.iconstV (v := 1) rfl (by decide) ?_
      refine AX.isub rfl ?_
      refine AX.putf rfl (M0 hm) (Nat.le_of_ble_eq_true rfl) rfl ?_
      refine AX.gen (G := isM p _) (MS hm 6 _ (by decide) rfl) (fun h hm => ?_)
      exact AX.vreturn rfl rfl ⟨rfl, hm⟩ (Nat.le_refl _) (Nat.le_refl _)
    · exact absurd (by rw [nI_1]; exact h6 ▸ nI_le (by omega) (by omega)) c1
  | succ r ih =>
    intro n h hm hb
    have e7 : (mGo2 t0 f a n).2 7 (a + n + 1) = f (a + n + 1) := by
      show va_cpy f f (a + 1) a n (a + n + 1) = _
      rw [pk_cpy_out (by omega)]
    refine AX.iload rfl rfl ?_
    refine AX.iconstV (v := 1) rfl (by decide) ?_
    refine AX.iadd rfl ?_
    refine AX.aload_n rfl rfl ?_
    refine AX.getf rfl (M0 hm) rfl ?_
    refine AX.icmp_ge rfl (fun c1 => ?_) (fun c1 => ?_)
    · exact absurd (show nI L.length ≤ nI (a + n) + 1 from h6 ▸ c1) (by rw [nI_1]; exact nI_ge (by omega) (by omega))
    · refine AX.aload_n rfl rfl ?_
      refine AX.getf rfl (M0 hm) rfl ?_
      refine AX.iload rfl rfl ?_
      refine AX.aload_n rfl rfl ?_
      refine AX.getf rfl (M0 hm) rfl ?_
      refine AX.iload rfl rfl ?_
      refine AX.iconstV (v := 1) rfl (by decide) ?_
      refine AX.iadd rfl ?_
      refine AX.ialdX rfl (MA hm 7 (by decide) (by decide) (by decide)) (by decide) (⟨a + n + 1, by omega, by rw [nI_1], e7⟩) ?_
      refine AX.iastX (a + n) rfl (MA hm 7 (by decide) (by decide) (by decide)) (by decide) (by omega) (rfl) ?_
      refine AX.gen (G := isM p _) (MW hm 7 _ _ (by decide) (by decide) (by decide)) (fun h hm => ?_)
      refine AX.iincV (dn := 1) rfl rfl (by decide) (by decide) ?_
      refine AX.goto rfl ?_
      rw [nI_1, show n + (r + 1) = (n + 1) + r by omega]
      refine ih (n + 1) h ?_ (by omega)
      have e : marr (mGo2 t0 f a n) 7 (a + n) (f (a + n + 1)) = mGo2 t0 f a (n + 1) := by
        unfold marr mGo2
        refine Prod.ext rfl ?_
        show va_up (va_up t0.2 7 (va_cpy f f (a + 1) a n)) 7 (upd (va_cpy f f (a + 1) a n) (a + n) (f (a + n + 1))) = va_up t0.2 7 (va_cpy f f (a + 1) a (n + 1))
        rw [bx_uu, cpy_s]
      rw [← e]
      exact hm
theorem sM_goFrom {L : List Nat} {B : List Bool} (hL : LaneOk t L B) (hm : isM p t h) {a : Nat} (ha : a < L.length) : AM d kM_goFrom 0 0 none [.ref 28, .int (nI a)] h (fun v h' => v = none ∧ isM p (mGo t L B a) h') := by
  have hLc := hL
  obtain ⟨h6, hL4, hB, hL2⟩ := hL
  have h2 := hL2 a ha
  have h3 := hL2 (a + 1)
  have fin : ∀ (x2 x3 : Int32) (h : ax_H), isM p (mGo1 t L B a) h → AX d kM_goFrom 0 0 none 69 [(4, .int (nI a)), (3, .int x3), (2, .int x2), (0, .ref 28), (1, .int (nI a))] [] h 0 0 (ax_ret kM_goFrom 0 0 (fun v h' => v = none ∧ isM p (mGo t L B a) h')) := by
    intro x2 x3 h hm
    have e6 : (mGo1 t L B a).1 6 = t.1 6 := by unfold mGo1; split <;> rfl
    have e7 : (mGo1 t L B a).2 7 = t.2 7 := by unfold mGo1; split <;> rfl
    have e0 : mGo2 (mGo1 t L B a) (t.2 7) a 0 = mGo1 t L B a := by
      unfold mGo2
      rw [cpy_0, ← e7, va_up_same]
    have := sM_goFrom_l (p := p) (d := d) (t0 := mGo1 t L B a) (f := t.2 7) (a := a) (e6.trans h6) hL4 x2 x3 (L.length - 1 - a) 0 h (by rw [e0]; exact hm) (by omega)
    rw [Nat.zero_add, e6] at this
    exact this
  by_cases lt1 : a + 1 < L.length
  · skip
    refine AX.aload_n rfl rfl ?_
    refine AX.getf rfl (M0 hm) rfl ?_
    refine AX.iload_n rfl rfl ?_
    refine AX.ialdX rfl (MA hm 7 (by decide) (by decide) (by decide)) (by decide) (⟨a, by omega, rfl, h2.1⟩) ?_
    refine AX.istore_n rfl (by decide) ?_
    refine AX.iload_n rfl rfl ?_
    refine AX.iconstV (v := 1) rfl (by decide) ?_
    refine AX.iadd rfl ?_
    refine AX.aload_n rfl rfl ?_
    refine AX.getf rfl (M0 hm) rfl ?_
    refine AX.icmp_ge rfl (fun c => absurd (show nI L.length ≤ nI a + 1 from h6 ▸ c) (by rw [nI_1]; exact nI_ge lt1 (by omega))) (fun _ => ?_)
    refine AX.aload_n rfl rfl ?_
    refine AX.getf rfl (M0 hm) rfl ?_
    refine AX.aload_n rfl rfl ?_
    refine AX.getf rfl (M0 hm) rfl ?_
    refine AX.iload_n rfl rfl ?_
    refine AX.iconstV (v := 1) rfl (by decide) ?_
    refine AX.iadd rfl ?_
    refine AX.ialdX rfl (MA hm 7 (by decide) (by decide) (by decide)) (by decide) (⟨a + 1, by omega, by rw [nI_1], (h3 lt1).1⟩) ?_
    refine AX.zaldX rfl (MA9 hm) (by decide) (⟨_, (h3 lt1).2.1, rfl, (h3 lt1).2.2⟩) ?_
    refine AX.if_neB rfl (fun c1 => ?_) (fun c1 => ?_)
    · refine AX.iconstV (v := 0) rfl (by decide) ?_
      refine AX.istore_n rfl (by decide) ?_
      refine AX.aload_n rfl rfl ?_
      refine AX.getf rfl (M0 hm) rfl ?_
      refine AX.iload_n rfl rfl ?_
      refine AX.zaldX rfl (MA9 hm) (by decide) (⟨_, h2.2.1, rfl, h2.2.2⟩) ?_
      refine AX.if_eqB rfl (fun c2 => ?_) (fun c2 => ?_)
      · refine AX.iload_n rfl rfl ?_
        refine AX.istore rfl (by decide) ?_
        refine fin _ _ h ?_
        first
          | (rw [mGo1, if_pos ⟨c2, by simp only [mMore, c1, Bool.not_false, Bool.and_true, decide_eq_true_eq]; exact lt1⟩]; exact hm)
          | (rw [mGo1, if_neg (fun q => absurd (q.1.symm.trans c2) (by decide))]; exact hm)
          | (rw [mGo1, if_neg (fun q => by simp only [mMore, c1, Bool.not_true, Bool.and_false] at q; cases q.2)]; exact hm)
      · refine AX.iload_n rfl rfl ?_
        refine AX.if_eq rfl (fun _ => ?_) (fun cx => absurd cx (by decide))
        refine AX.iload_n rfl rfl ?_
        refine AX.istore rfl (by decide) ?_
        refine fin _ _ h ?_
        first
          | (rw [mGo1, if_pos ⟨c2, by simp only [mMore, c1, Bool.not_false, Bool.and_true, decide_eq_true_eq]; exact lt1⟩]; exact hm)
          | (rw [mGo1, if_neg (fun q => absurd (q.1.symm.trans c2) (by decide))]; exact hm)
          | (rw [mGo1, if_neg (fun q => by simp only [mMore, c1, Bool.not_true, Bool.and_false] at q; cases q.2)]; exact hm)
    · refine AX.iconstV (v := 1) rfl (by decide) ?_
      refine AX.goto rfl ?_
      refine AX.istore_n rfl (by decide) ?_
      refine AX.aload_n rfl rfl ?_
      refine AX.getf rfl (M0 hm) rfl ?_
      refine AX.iload_n rfl rfl ?_
      refine AX.zaldX rfl (MA9 hm) (by decide) (⟨_, h2.2.1, rfl, h2.2.2⟩) ?_
      refine AX.if_eqB rfl (fun c2 => ?_) (fun c2 => ?_)
      · refine AX.iload_n rfl rfl ?_
        refine AX.istore rfl (by decide) ?_
        refine fin _ _ h ?_
        first
          | (rw [mGo1, if_pos ⟨c2, by simp only [mMore, c1, Bool.not_false, Bool.and_true, decide_eq_true_eq]; exact lt1⟩]; exact hm)
          | (rw [mGo1, if_neg (fun q => absurd (q.1.symm.trans c2) (by decide))]; exact hm)
          | (rw [mGo1, if_neg (fun q => by simp only [mMore, c1, Bool.not_true, Bool.and_false] at q; cases q.2)]; exact hm)
      · refine AX.iload_n rfl rfl ?_
        refine AX.if_eq rfl (fun cx => absurd cx (by decide)) (fun _ => ?_)
        refine AX.aload_n rfl rfl ?_
        refine AX.getf rfl (M0 hm) rfl ?_
        refine AX.aload_n rfl rfl ?_
        refine AX.getf rfl (M0 hm) rfl ?_
        refine AX.iload_n rfl rfl ?_
        refine AX.iconstV (v := 1) rfl (by decide) ?_
        refine AX.iadd rfl ?_
        refine AX.ialdX rfl (MA hm 7 (by decide) (by decide) (by decide)) (by decide) (⟨a + 1, by omega, by rw [nI_1], (h3 lt1).1⟩) ?_
        refine AX.iconstV (v := 1) rfl (by decide) ?_
        refine AX.zastX (L.getD (a + 1) 0) rfl (MA9 hm) (by decide) ((h3 lt1).2.1) (rfl) (by decide) ?_
        refine AX.gen (G := isM p _) (MW9 hm _ _) (fun h hm => ?_)
        refine AX.iload_n rfl rfl ?_
        refine AX.istore rfl (by decide) ?_
        refine fin _ _ h ?_
        first
          | (rw [mGo1, if_pos ⟨c2, by simp only [mMore, c1, Bool.not_false, Bool.and_true, decide_eq_true_eq]; exact lt1⟩]; exact hm)
          | (rw [mGo1, if_neg (fun q => absurd (q.1.symm.trans c2) (by decide))]; exact hm)
          | (rw [mGo1, if_neg (fun q => by simp only [mMore, c1, Bool.not_true, Bool.and_false] at q; cases q.2)]; exact hm)
  · skip
    refine AX.aload_n rfl rfl ?_
    refine AX.getf rfl (M0 hm) rfl ?_
    refine AX.iload_n rfl rfl ?_
    refine AX.ialdX rfl (MA hm 7 (by decide) (by decide) (by decide)) (by decide) (⟨a, by omega, rfl, h2.1⟩) ?_
    refine AX.istore_n rfl (by decide) ?_
    refine AX.iload_n rfl rfl ?_
    refine AX.iconstV (v := 1) rfl (by decide) ?_
    refine AX.iadd rfl ?_
    refine AX.aload_n rfl rfl ?_
    refine AX.getf rfl (M0 hm) rfl ?_
    refine AX.icmp_ge rfl (fun _ => ?_) (fun c => absurd (by rw [nI_1]; exact h6 ▸ nI_le (by omega) (by omega)) c)
    refine AX.iconstV (v := 0) rfl (by decide) ?_
    refine AX.istore_n rfl (by decide) ?_
    refine AX.aload_n rfl rfl ?_
    refine AX.getf rfl (M0 hm) rfl ?_
    refine AX.iload_n rfl rfl ?_
    refine AX.zaldX rfl (MA9 hm) (by decide) (⟨_, h2.2.1, rfl, h2.2.2⟩) ?_
    refine AX.if_eqB rfl (fun c1 => ?_) (fun c1 => ?_)
    · refine AX.iload_n rfl rfl ?_
      refine AX.istore rfl (by decide) ?_
      refine fin _ _ h ?_
      rw [mGo1, if_neg (fun q => by simp only [mMore, Bool.and_eq_true, decide_eq_true_eq] at q; exact lt1 q.2.1)]
      exact hm
    · refine AX.iload_n rfl rfl ?_
      refine AX.if_eq rfl (fun _ => ?_) (fun cx => absurd cx (by decide))
      refine AX.iload_n rfl rfl ?_
      refine AX.istore rfl (by decide) ?_
      refine fin _ _ h ?_
      rw [mGo1, if_neg (fun q => by simp only [mMore, Bool.and_eq_true, decide_eq_true_eq] at q; exact lt1 q.2.1)]
      exact hm
def mSetL (L : List Nat) (a : Nat) (v : Int32) : Nat → Nat → mS → mS
  | 0, _, t => t
  | r + 1, m, t => mSetL L a v r (m + 1) (marr t a (L.getD m 0) v)
theorem mSt_le : ∀ (B : List Bool) (k : Nat) (n g : Int32), mSt B k n g ≤ k + B.length := by
  intro B
  induction B with
  | nil => intro k n g; simp [mSt]
  | cons b bs ih =>
    intro k n g
    simp only [mSt]
    split
    · omega
    · have := ih (k + 1) (mAdd n b) g
      simp only [List.length_cons]
      omega
theorem mS0_le (B : List Bool) (g : Int32) : mS0 B g ≤ B.length := by
  have := mSt_le B 0 (-1) g
  rw [Nat.zero_add] at this
  exact this
theorem sM_setState_l {L : List Nat} {B : List Bool} (g v : Int32) (e : Nat) (he : e ≤ L.length) : ∀ (r m : Nat) (t : mS) (h : ax_H), LaneOk t L B → isM p t h → e - m = r → m ≤ L.length →
    AX d kM_setState 0 0 none 15 [(4, .int (nI m)), (3, .int (nI e)), (0, .ref 28), (1, .int g), (2, .int v)] [] h 0 0 (ax_ret kM_setState 0 0 (fun u h' => u = none ∧ isM p (mSetL L 10 v r m t) h')) := by
  intro r
  induction r with
  | zero =>
    intro m t h hL hm hb hml
    obtain ⟨h6, hL4, hB, hL2⟩ := hL
    refine AX.iload rfl rfl ?_
    refine AX.iload_n rfl rfl ?_
    refine AX.icmp_ge rfl (fun c1 => ?_) (fun c1 => ?_)
    · exact AX.vreturn rfl rfl ⟨rfl, hm⟩ (Nat.le_refl _) (Nat.le_refl _)
    · exact absurd (nI_le (by omega) (by omega)) c1
  | succ r ih =>
    intro m t h hL hm hb hml
    have hLc := hL
    obtain ⟨h6, hL4, hB, hL2⟩ := hL
    have h2 := hL2 m (by omega)
    refine AX.iload rfl rfl ?_
    refine AX.iload_n rfl rfl ?_
    refine AX.icmp_ge rfl (fun c1 => ?_) (fun c1 => ?_)
    · exact absurd c1 (nI_ge (by omega) (by omega))
    · refine AX.aload_n rfl rfl ?_
      refine AX.getf rfl (M0 hm) rfl ?_
      refine AX.aload_n rfl rfl ?_
      refine AX.getf rfl (M0 hm) rfl ?_
      refine AX.iload rfl rfl ?_
      refine AX.ialdX rfl (MA hm 7 (by decide) (by decide) (by decide)) (by decide) (⟨m, by omega, rfl, h2.1⟩) ?_
      refine AX.iload_n rfl rfl ?_
      refine AX.iastX (L.getD m 0) rfl (MA hm 10 (by decide) (by decide) (by decide)) (by decide) (h2.2.1) (rfl) ?_
      refine AX.gen (G := isM p _) (MW hm 10 _ _ (by decide) (by decide) (by decide)) (fun h hm => ?_)
      refine AX.iincV (dn := 1) rfl rfl (by decide) (by decide) ?_
      refine AX.goto rfl ?_
      rw [nI_1, mSetL]
      exact ih (m + 1) _ h (hLc.cong rfl rfl rfl) hm (by omega) (by omega)
theorem sM_setState {L : List Nat} {B : List Bool} (hL : LaneOk t L B) (hm : isM p t h) (g v : Int32) : AM (d + 1) kM_setState 0 0 none [.ref 28, .int g, .int v] h (fun u h' => u = none ∧ isM p (mSetL L 10 v (mS0 B (g + 1) - mS0 B g) (mS0 B g) t) h') := by
  have hLc := hL
  obtain ⟨h6, hL4, hB, hL2⟩ := hL
  refine AX.aload_n rfl rfl ?_
  refine AX.iload_n rfl rfl ?_
  refine AX.iconstV (v := 1) rfl (by decide) ?_
  refine AX.iadd rfl ?_
  refine AX.cVI rfl rfl rfl (M0 hm) (sM_startOf hLc hm _) (fun h hm => ?_)
  refine AX.istore_n rfl (by decide) ?_
  refine AX.aload_n rfl rfl ?_
  refine AX.iload_n rfl rfl ?_
  refine AX.cVI rfl rfl rfl (M0 hm) (sM_startOf hLc hm _) (fun h hm => ?_)
  refine AX.istore rfl (by decide) ?_
  exact sM_setState_l g v _ (by have := mS0_le B (g + 1); omega) _ _ t h hLc hm rfl (by have := mS0_le B g; omega)
end ML
