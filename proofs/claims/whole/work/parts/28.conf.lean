/-! conflict -/
section CF
variable {y : yT} {z : zS} {t : mS}
theorem msk : ∀ k, k < 64 → ((1 : Int64) <<< ((nI k).toInt64 &&& 63)).toBitVec = BitVec.twoPow 64 k := by decide +kernel
theorem bit_and (x : Int64) {k : Nat} (hk : k < 64) : (x &&& ((1 : Int64) <<< ((nI k).toInt64 &&& 63))) = 0 ↔ x.toBitVec.getLsbD k = false := by
  rw [← Int64.toBitVec_inj, Int64.toBitVec_and, msk k hk, BitVec.and_twoPow]
  cases x.toBitVec.getLsbD k with
  | false => simp
  | true =>
    simp only [if_true, Bool.true_eq_false, iff_false]
    intro h
    have h1 := congrArg (fun b => b.getLsbD k) h
    simp [BitVec.getLsbD_twoPow, hk] at h1
theorem bit_or (x : Int64) {k i : Nat} (hk : k < 64) (hi : i < 64) : (x ||| ((1 : Int64) <<< ((nI k).toInt64 &&& 63))).toBitVec.getLsbD i = (x.toBitVec.getLsbD i || decide (k = i)) := by
  rw [Int64.toBitVec_or, msk k hk, BitVec.getLsbD_or, BitVec.getLsbD_twoPow]
  simp [hi, hk]
theorem lg_0 (x : Int64) : lg_cmp x 0 = 0 ↔ x = 0 := by
  unfold lg_cmp
  by_cases h1 : x > 0
  · rw [if_pos h1]
    constructor
    · intro h; exact absurd h (by decide)
    · intro h; subst h; exact absurd h1 (by decide)
  · rw [if_neg h1]
    by_cases h2 : x = 0
    · rw [if_pos h2]; simp [h2]
    · rw [if_neg h2]
      constructor
      · intro h; exact absurd h (by decide)
      · intro h; exact absurd h h2
theorem zNum_nI {a : Nat} (h : a < 40) : zNum (nI a) = true := by
  unfold zNum
  have h1 : ¬ nI a < 0 := nI_pos (by omega)
  have h2 : ¬ (40 : Int32) ≤ nI a := by
    rw [show (40 : Int32) = nI 40 from rfl, nI_leI (by decide) (by omega)]
    omega
  simp [h1, h2]
theorem zConf_bit (z : zS) {a b : Nat} (ha : a < 40) (hb : b < 40) : zConf z (nI a) (nI b) = (z.2.2 a).toBitVec.getLsbD b := by
  unfold zConf zBit
  rw [zNum_nI ha, zNum_nI hb, nI_clamp (by omega), Bool.true_and, Bool.true_and]
  have e : (lg_cmp (z.2.2 a &&& ((1 : Int64) <<< ((nI b).toInt64 &&& 63))) 0 = 0) ↔ (z.2.2 a).toBitVec.getLsbD b = false := (lg_0 _).trans (bit_and _ (by omega))
  cases hq : (z.2.2 a).toBitVec.getLsbD b with
  | false =>
    have := e.mpr hq
    simp [this]
  | true =>
    have : ¬ lg_cmp (z.2.2 a &&& ((1 : Int64) <<< ((nI b).toInt64 &&& 63))) 0 = 0 := fun q => by rw [e.mp q] at hq; cases hq
    simp [this]
theorem on_bit (f : Nat → Int64) {a b i j : Nat} (ha : a < 40) (hb : b < 40) (hj : j < 40) : (zC_on f (nI a) (nI b) i).toBitVec.getLsbD j = ((f i).toBitVec.getLsbD j || (decide (i = a) && decide (j = b))) := by
  unfold zC_on vp_updL
  rw [nI_clamp (by omega)]
  by_cases h : i = a
  · subst h
    rw [if_pos rfl, bit_or _ (by omega) (by omega)]
    have : decide (b = j) = decide (j = b) := decide_eq_decide.mpr ⟨Eq.symm, Eq.symm⟩
    simp [this]
  · rw [if_neg h]
    simp [h]
def yCf (y : yT) (a b : Nat) : yT := (y.1, y.2.1, (fun i j => ycf y i j || (decide (i = a) && decide (j = b)) || (decide (i = b) && decide (j = a))), y.2.2.2)
theorem RC.conf (hC : RC y z) {a b : Nat} (ha : a < 40) (hb : b < 40) : RC (yCf y a b) (zC_put z (nI a) (nI b)) := by
  unfold zC_put
  rw [if_pos ⟨zNum_nI ha, zNum_nI hb⟩]
  rw [RC_iff] at hC ⊢
  obtain ⟨q1, q2, q3, q4⟩ := hC
  refine ⟨fun r h1 h2 => (q1 r h1 h2).trans ?_, q2, q3, ?_⟩
  · rcases (show r = 0 ∨ r = 2 ∨ r = 3 ∨ r = 4 ∨ r = 5 ∨ r = 6 ∨ r = 7 ∨ r = 8 ∨ r = 9 ∨ r = 10 ∨ r = 11 by omega) with rfl | rfl | rfl | rfl | rfl | rfl | rfl | rfl | rfl | rfl | rfl <;> rfl
  · intro i j hi hj
    rw [zConf_bit _ hi hj]
    show (zC_on (zC_on z.2.2 (nI a) (nI b)) (nI b) (nI a) i).toBitVec.getLsbD j = _
    rw [on_bit _ hb ha hj, on_bit _ ha hb hj, ← zConf_bit z hi hj, q4 i j hi hj]
    rfl
def mCf (t : mS) (a b : Nat) : mS := marr (marr t 6 (40 * a + b) 1) 6 (40 * b + a) 1
theorem mCf_6 {t : mS} {cf : Nat → Nat → Bool} (hcf : ∀ a b, a < 40 → b < 40 → t.2 6 (40 * a + b) = bI (cf a b)) {a b : Nat} (ha : a < 40) (hb : b < 40) : ∀ i j, i < 40 → j < 40 → (mCf t a b).2 6 (40 * i + j) = bI (cf i j || (decide (i = a) && decide (j = b)) || (decide (i = b) && decide (j = a))) := by
  intro i j hi hj
  unfold mCf
  by_cases h1 : i = b ∧ j = a
  · rw [h1.1, h1.2, marr_eq]; simp; rfl
  · have e1 : ¬ (40 * i + j = 40 * b + a) := by
      intro e
      apply h1
      omega
    rw [marr_k e1]
    by_cases h2 : i = a ∧ j = b
    · rw [h2.1, h2.2, marr_eq]; simp; rfl
    · have e2 : ¬ (40 * i + j = 40 * a + b) := by
        intro e
        apply h2
        omega
      rw [marr_k e2, hcf i j hi hj]
      congr 1
      have g1 : (decide (i = b) && decide (j = a)) = false := by
        cases hq : (decide (i = b) && decide (j = a)) with
        | false => rfl
        | true => simp only [Bool.and_eq_true, decide_eq_true_eq] at hq; exact absurd hq h1
      have g2 : (decide (i = a) && decide (j = b)) = false := by
        cases hq : (decide (i = a) && decide (j = b)) with
        | false => rfl
        | true => simp only [Bool.and_eq_true, decide_eq_true_eq] at hq; exact absurd hq h2
      rw [g1, g2]
      simp
theorem WF.conf (hW : WF y) {a b : Nat} (ha : a < yn y) (hb : b < yn y) : WF (yCf y a b) := by
  obtain ⟨w1, w2, w3, w4, w5, w6, w7, w8, w9, w10, w11, w12, w13, w14, w15⟩ := hW
  refine ⟨w1, w2, w3, w4, w5, w6, w7, w8, w9, w10, w11, w12, ?_, ?_, w15⟩
  · intro i j h
    have h2 : (ycf y i j || (decide (i = a) && decide (j = b)) || (decide (i = b) && decide (j = a))) = true := h
    simp only [Bool.or_eq_true, Bool.and_eq_true, decide_eq_true_eq] at h2
    show i < yn y ∧ j < yn y
    rcases h2 with (h2 | ⟨rfl, rfl⟩) | ⟨rfl, rfl⟩
    · exact w13 i j h2
    · exact ⟨ha, hb⟩
    · exact ⟨hb, ha⟩
  · intro i j
    show (ycf y i j || (decide (i = a) && decide (j = b)) || (decide (i = b) && decide (j = a))) = (ycf y j i || (decide (j = a) && decide (i = b)) || (decide (j = b) && decide (i = a)))
    rw [w14 i j]
    generalize decide (i = a) = p1
    generalize decide (j = b) = p2
    generalize decide (i = b) = p3
    generalize decide (j = a) = p4
    cases ycf y j i <;> cases p1 <;> cases p2 <;> cases p3 <;> cases p4 <;> rfl
theorem RM.conf (hR : RM y t) {a b : Nat} (ha : a < 40) (hb : b < 40) : RM (yCf y a b) (mCf t a b) := by
  obtain ⟨r1, r2, r3, r4, r5, r6, r7⟩ := hR
  exact ⟨r1, r2.cong rfl rfl rfl, r3, mCf_6 r4 ha hb, r5, r6, r7⟩
theorem send_1 : ∀ (n : Nat) (z : zS), (zSend n z).1 = z.1 ∧ (zSend n z).2.1 1 = z.2.1 1 := by
  intro n
  induction n with
  | zero => intro z; exact ⟨rfl, rfl⟩
  | succ n ih =>
    intro z
    rw [zSend]
    have h := ih (zSend1 z n)
    have e : (zSend1 z n).1 = z.1 ∧ (zSend1 z n).2.1 1 = z.2.1 1 := by
      unfold zSend1
      split
      · exact ⟨rfl, rfl⟩
      · refine ⟨rfl, ?_⟩
        rw [zC_putOut, zput, zrow_ne (by decide), zput, zrow_ne (by decide), zrem, zrow_ne (by decide)]
    exact ⟨h.1.trans e.1, h.2.trans e.2⟩
theorem op_send (hI : INV y z t) : INV (ySend y) (zQ_send z) (mClear t (ycf y) (yTr y) (yn y)) := by
  obtain ⟨hW, hC, hR, hS⟩ := hI
  refine ⟨hW.send, RC.send hW hC, RM.send hW hR, ?_⟩
  have h := send_1 (z.2.1 6).length z
  exact RS.cong hS rfl (fun i _ _ => by rw [zQ_send, h.1]) (by rw [zQ_send, h.2]) (fun _ _ => rfl) rfl
theorem op_conf (hI : INV y z t) {a b : Nat} (ha : a < yn y) (hb : b < yn y) : INV (ySend (yCf y a b)) (zQ_send (zC_put z (nI a) (nI b))) (mClear (mCf t a b) (ycf (yCf y a b)) (yTr y) (yn y)) := by
  obtain ⟨hW, hC, hR, hS⟩ := hI
  have hn := hW.1
  have hI2 : INV (yCf y a b) (zC_put z (nI a) (nI b)) (mCf t a b) := by
    refine ⟨hW.conf ha hb, RC.conf hC (by omega) (by omega), RM.conf hR (by omega) (by omega), ?_⟩
    unfold zC_put
    rw [if_pos ⟨zNum_nI (by omega), zNum_nI (by omega)⟩]
    exact hS
  exact op_send hI2
end CF
