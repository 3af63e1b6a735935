/-! GROUPS: a group is its members, its state, its failures; the lane is all members, the flags say where a group begins -/
abbrev gT : Type := List Nat × Nat × Nat
def gL (G : List gT) : List Nat := G.flatMap (fun g => g.1)
def gF1 (ms : List Nat) : List Bool := match ms with
  | [] => []
  | _ :: r => true :: r.map (fun _ => false)
def gF (G : List gT) : List Bool := G.flatMap (fun g => gF1 g.1)
def gB (G : List gT) (i : Nat) : Nat := ((G.take i).map (fun g => g.1.length)).sum
def gNe (G : List gT) : Prop := ∀ g ∈ G, g.1 ≠ []
theorem gF1_len (ms : List Nat) : (gF1 ms).length = ms.length := by cases ms <;> simp [gF1]
theorem gF_len (G : List gT) : (gF G).length = (gL G).length := by
  induction G with
  | nil => rfl
  | cons g G ih => simp only [gF, gL, List.flatMap_cons, List.length_append, gF1_len] at ih ⊢; rw [ih]
theorem mAdd_t (m : Nat) : mAdd (nI m - 1) true = nI m := by
  rw [mAdd, if_pos rfl]
  exact Int32.sub_add_cancel _ _
theorem mAdd_f (x : Int32) : mAdd x false = x := by
  rw [mAdd, if_neg (by decide), Int32.add_zero]
theorem nI_ne {a b : Nat} (ha : a < 2 ^ 31) (hb : b < 2 ^ 31) (h : a ≠ b) : nI a ≠ nI b := fun e => h ((nI_eq ha hb).mp e)
theorem mSt_false : ∀ (r : List Nat) (B : List Bool) (k : Nat) (x g : Int32), x ≠ g → mSt (r.map (fun _ => false) ++ B) k x g = mSt B (k + r.length) x g := by
  intro r
  induction r with
  | nil => intro B k x g _; rfl
  | cons a r ih =>
    intro B k x g h
    simp only [List.map_cons, List.cons_append, mSt, mAdd_f, if_neg h]
    rw [ih B (k + 1) x g h]
    simp only [List.length_cons]
    congr 1
    omega
theorem gB_0 (G : List gT) : gB G 0 = 0 := rfl
theorem gB_s (g : gT) (G : List gT) (i : Nat) : gB (g :: G) (i + 1) = g.1.length + gB G i := by simp [gB]
theorem mSt_gF : ∀ (G : List gT) (k m i : Nat), gNe G → i ≤ G.length → m + i < 2 ^ 31 → mSt (gF G) k (nI m - 1) (nI (m + i)) = k + gB G i := by
  intro G
  induction G with
  | nil =>
    intro k m i _ hi _
    have : i = 0 := by simpa using hi
    subst this
    rfl
  | cons g G ih =>
    intro k m i hn hi hm
    have hne : g.1 ≠ [] := hn g List.mem_cons_self
    obtain ⟨c, r, hr⟩ : ∃ c r, g.1 = c :: r := by
      cases h : g.1 with
      | nil => exact absurd h hne
      | cons c r => exact ⟨c, r, rfl⟩
    have e1 : gF (g :: G) = true :: (r.map (fun _ => false) ++ gF G) := by
      simp only [gF, List.flatMap_cons, hr, gF1, List.cons_append]
    rw [e1, mSt, mAdd_t]
    cases i with
    | zero => rw [if_pos (by rw [Nat.add_zero])]; rfl
    | succ i =>
      rw [if_neg (nI_ne (by omega) (by omega) (by omega)), mSt_false _ _ _ _ _ (nI_ne (by omega) (by omega) (by omega))]
      have h2 := ih (k + 1 + r.length) (m + 1) i (fun q hq => hn q (List.mem_cons_of_mem _ hq)) (by simpa using hi) (by omega)
      rw [nI_pred] at h2
      rw [show m + (i + 1) = m + 1 + i by omega, h2, gB_s, hr]
      simp only [List.length_cons]
      omega
theorem mS0_gF {G : List gT} {i : Nat} (hn : gNe G) (hi : i ≤ G.length) (h31 : i < 2 ^ 31) : mS0 (gF G) (nI i) = gB G i := by
  have := mSt_gF G 0 0 i hn hi (by omega)
  rw [Nat.zero_add, Nat.zero_add] at this
  exact this
theorem mCnt_false : ∀ (r : List Nat) (B : List Bool) (x : Int32), mCnt (r.map (fun _ => false) ++ B) x = mCnt B x := by
  intro r
  induction r with
  | nil => intro B x; rfl
  | cons a r ih =>
    intro B x
    simp only [List.map_cons, List.cons_append, mCnt, mAdd_f]
    exact ih B x
theorem mCnt_gF : ∀ (G : List gT) (m : Nat), gNe G → mCnt (gF G) (nI m) = nI (m + G.length) := by
  intro G
  induction G with
  | nil => intro m _; rfl
  | cons g G ih =>
    intro m hn
    have hne : g.1 ≠ [] := hn g List.mem_cons_self
    obtain ⟨c, r, hr⟩ : ∃ c r, g.1 = c :: r := by
      cases h : g.1 with
      | nil => exact absurd h hne
      | cons c r => exact ⟨c, r, rfl⟩
    have e1 : gF (g :: G) = true :: (r.map (fun _ => false) ++ gF G) := by
      simp only [gF, List.flatMap_cons, hr, gF1, List.cons_append]
    rw [e1, mCnt, mCnt_false, show mAdd (nI m) true = nI (m + 1) by rw [mAdd, if_pos rfl, nI_1], ih (m + 1) (fun q hq => hn q (List.mem_cons_of_mem _ hq))]
    simp only [List.length_cons]
    congr 1
    omega
theorem gL_len (G : List gT) : (gL G).length = gB G G.length := by
  induction G with
  | nil => rfl
  | cons g G ih =>
    simp only [gL, List.flatMap_cons, List.length_append, List.length_cons] at ih ⊢
    rw [gB_s, ih]
theorem gB_le {G : List gT} {i j : Nat} (h : i ≤ j) : gB G i ≤ gB G j := by
  induction G generalizing i j with
  | nil => simp [gB]
  | cons g G ih =>
    cases i with
    | zero => simp [gB_0]
    | succ i =>
      cases j with
      | zero => omega
      | succ j =>
        rw [gB_s, gB_s]
        have := ih (i := i) (j := j) (by omega)
        omega
theorem gB_lt {G : List gT} {i : Nat} (hn : gNe G) (hi : i < G.length) : gB G i < gB G (i + 1) := by
  induction G generalizing i with
  | nil => simp at hi
  | cons g G ih =>
    have hne : 0 < g.1.length := List.length_pos_iff.mpr (hn g List.mem_cons_self)
    cases i with
    | zero => rw [gB_0, gB_s]; omega
    | succ i =>
      rw [gB_s, gB_s]
      have := ih (i := i) (fun q hq => hn q (List.mem_cons_of_mem _ hq)) (by simpa using hi)
      omega
theorem gB_succ {G : List gT} {i : Nat} (hi : i < G.length) : gB G (i + 1) = gB G i + (G.getD i ([], 0, 0)).1.length := by
  induction G generalizing i with
  | nil => simp at hi
  | cons g G ih =>
    cases i with
    | zero => rw [gB_0, gB_s, gB_0]; simp
    | succ i =>
      rw [gB_s, gB_s, ih (by simpa using hi)]
      simp only [List.getD_cons_succ]
      omega
theorem gL_at {G : List gT} {i j : Nat} (hi : i < G.length) (hj : j < (G.getD i ([], 0, 0)).1.length) : (gL G).getD (gB G i + j) 0 = (G.getD i ([], 0, 0)).1.getD j 0 := by
  induction G generalizing i with
  | nil => simp at hi
  | cons g G ih =>
    have e : gL (g :: G) = g.1 ++ gL G := by simp [gL]
    cases i with
    | zero =>
      rw [gB_0, Nat.zero_add, e]
      simp only [List.getD_cons_zero] at hj ⊢
      rw [List.getD_eq_getElem?_getD, List.getElem?_append_left hj, List.getD_eq_getElem?_getD]
    | succ i =>
      rw [gB_s, e]
      simp only [List.getD_cons_succ] at hj ⊢
      rw [List.getD_eq_getElem?_getD, List.getElem?_append_right (by omega), ← List.getD_eq_getElem?_getD, show g.1.length + gB G i + j - g.1.length = gB G i + j by omega]
      exact ih (by simpa using hi) hj
