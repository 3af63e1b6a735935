theorem m_i_mem {k pc : Nat} {e : Instr × Nat × Nat × Nat × Nat} (hi : m_i k pc = some e) : (pc, e) ∈ m_t k := by
  unfold m_i at hi
  cases hq : (m_t k).find? (fun q => q.1 == pc) with
  | none => rw [hq] at hi; cases hi
  | some q =>
    rw [hq] at hi
    simp only [Option.map_some, Option.some.injEq] at hi
    have h1 := List.find?_some hq
    simp only [beq_iff_eq] at h1
    rw [← hi, ← h1]
    exact List.mem_of_find?_eq_some hq
theorem m_get {k pc : Nat} {e : Instr × Nat × Nat × Nat × Nat} (hi : m_i k pc = some e) : m_chk k (pc, e) = true := List.all_eq_true.mp (m_ck k) _ (m_i_mem hi)
theorem m_got {k pc len nx a1 a2 : Nat} {ins : Instr} (hi : m_i k pc = some (ins, len, nx, a1, a2)) : decode (m_b k) pc = .ok (ins, len) ∧ nx = pc + len ∧ (∀ o, m_jo ins = some o → (pc : Int) + o = (a1 : Int)) ∧ m_lnk k ins a1 a2 = true := by
  have h := m_get hi
  unfold m_chk at h
  simp only [Bool.and_eq_true, decide_eq_true_eq, beq_iff_eq] at h
  obtain ⟨h1, h2, h3, h4⟩ := h
  refine ⟨h1, h2, fun o ho => ?_, h4⟩
  rw [ho] at h3
  simpa using h3
theorem m_dec {k pc len nx a1 a2 : Nat} {ins : Instr} (hi : m_i k pc = some (ins, len, nx, a1, a2)) : decode (m_b k) pc = .ok (ins, len) ∧ nx = pc + len := ⟨(m_got hi).1, (m_got hi).2.1⟩
theorem m_jmp {k pc len nx a1 a2 : Nat} {ins : Instr} {off : Int} (hi : m_i k pc = some (ins, len, nx, a1, a2)) (hj : m_jo ins = some off) : (pc : Int) + off = (a1 : Int) := (m_got hi).2.2.1 off hj
theorem m_fk_ok {own : String} {idx ci sl : Nat} (h : m_fk own idx ci sl = true) : ∃ Cn T N, mCl[ci]? = some (Cn, T, N) ∧ sl < N ∧ Cond.fieldLink own idx (T sl).1 (T sl).2.1 (T sl).2.2.1 ∈ mTb := by
  unfold m_fk at h
  cases hc : mCl[ci]? with
  | none => rw [hc] at h; cases h
  | some r =>
    rw [hc] at h
    simp only [Bool.and_eq_true, decide_eq_true_eq] at h
    exact ⟨r.1, r.2.1, r.2.2, rfl, h.1, h.2⟩
theorem m_fld {k pc len nx ci sl idx : Nat} {ins : Instr} (hi : m_i k pc = some (ins, len, nx, ci, sl)) (h : ins = .getfield idx ∨ ins = .putfield idx) : ∃ Cn T N, mCl[ci]? = some (Cn, T, N) ∧ sl < N ∧ Cond.fieldLink (m_y k).cls idx (T sl).1 (T sl).2.1 (T sl).2.2.1 ∈ mTb := by
  have h4 := (m_got hi).2.2.2
  rcases h with rfl | rfl
  · exact m_fk_ok h4
  · simp only [m_lnk, Bool.and_eq_true] at h4
    exact m_fk_ok h4.1
theorem m_fin {k pc len nx ci sl idx : Nat} {Cn : String} {T : u_T} {N : Nat} (hi : m_i k pc = some (.putfield idx, len, nx, ci, sl)) (hc : mCl[ci]? = some (Cn, T, N)) : (T sl).2.2.2 = false ∨ ((T sl).2.2.2 = true ∧ (m_y k).name = "<init>" ∧ (T sl).1 = (m_y k).cls) := by
  have h4 := (m_got hi).2.2.2
  simp only [m_lnk, Bool.and_eq_true] at h4
  have h5 := h4.2
  unfold m_pk at h5
  rw [hc] at h5
  simp only [Bool.or_eq_true, Bool.not_eq_true', Bool.and_eq_true, beq_iff_eq] at h5
  rcases h5 with h5 | ⟨h5, h6, h7⟩
  · exact Or.inl h5
  · exact Or.inr ⟨h5, h6, h7⟩
theorem m_new {k pc len nx ci a2 idx : Nat} (hi : m_i k pc = some (.new idx, len, nx, ci, a2)) : ∃ Cn T N, mCl[ci]? = some (Cn, T, N) ∧ N = a2 ∧ Cond.classLink (m_y k).cls idx Cn ∈ mTb ∧ Cond.instantiable Cn N ∈ mTb ∧ Cond.initialized Cn ∈ mTb := by
  have h := (m_got hi).2.2.2
  simp only [m_lnk] at h
  unfold m_nk at h
  cases hc : mCl[ci]? with
  | none => rw [hc] at h; cases h
  | some r =>
    rw [hc] at h
    simp only [Bool.and_eq_true, decide_eq_true_eq, beq_iff_eq] at h
    exact ⟨r.1, r.2.1, r.2.2, rfl, h.1, h.2.1, h.2.2.1, h.2.2.2⟩
theorem m_arr {k pc len nx a1 a2 : Nat} {t : ArrayType} (hi : m_i k pc = some (.newarray t, len, nx, a1, a2)) : Cond.arrayClass (newarray.typeOf t) ∈ mTb := by
  have h := (m_got hi).2.2.2
  simp only [m_lnk, decide_eq_true_eq] at h
  exact h
theorem m_code_in {k : Nat} (hk : k < mRecs.length) : Cond.code (m_y k) (m_b k) (m_l k) (m_r k) ∈ mTb := by
  have e : m_rec k = mRecs[k] := by
    unfold m_rec
    rw [List.getD_eq_getElem?_getD, List.getElem?_append_left hk, List.getElem?_eq_getElem hk]
    rfl
  refine List.mem_append_left _ (List.mem_map.mpr ⟨mRecs[k], List.getElem_mem hk, ?_⟩)
  unfold m_y m_b m_l m_r
  rw [e]
theorem m_w_in {k : Nat} (hk : k < mRecs.length) : GoodIn mTb (m_w k) := by
  intro w hw
  rcases List.mem_cons.mp hw with rfl | hw
  · exact ⟨m_code_in hk, Or.inl rfl⟩
  · exact ⟨hw, (mTb_in w hw).2⟩
theorem m_meth {k : Nat} (hk : k < mRecs.length) : plainName (m_y k).cls = true ∧ m_l k ≤ 14 ∧ (m_y k).cls ≠ "java/lang/invoke/MethodHandle" ∧ (m_y k).cls ≠ "java/lang/invoke/VarHandle" ∧ (parseMethodDescriptor (m_y k).desc).map (fun d => d.parameters.length) = some (m_na k) ∧ Cond.initialized (m_y k).cls ∈ mTb := by
  have h := m_mk_all k hk
  unfold m_mk at h
  simp only [Bool.and_eq_true, decide_eq_true_eq] at h
  obtain ⟨h1, h2, h3, h4, h5, h6, -⟩ := h
  exact ⟨h1, h2, h3, h4, h5, h6⟩
theorem m_kind0 {k : Nat} (hk : k < mRecs.length) (h0 : m_kd k = 0) : Cond.instanceMethod (m_y k) ∈ mTb ∧ Cond.selects (m_y k).cls (m_y k) (m_y k) ∈ mTb ∧ ∃ T N, mCl[m_ci k]? = some ((m_y k).cls, T, N) := by
  have h := m_mk_all k hk
  unfold m_mk at h
  simp only [Bool.and_eq_true, decide_eq_true_eq] at h
  obtain ⟨-, -, -, -, -, -, h7⟩ := h
  have e : (m_rec k).2.2.2.2.2.1 = 0 := h0
  rw [e] at h7
  simp only [Bool.and_eq_true, decide_eq_true_eq] at h7
  refine ⟨h7.1, h7.2.1, ?_⟩
  have h8 := h7.2.2
  cases hc : mCl[(m_rec k).2.2.2.2.1]? with
  | none => rw [hc] at h8; cases h8
  | some r =>
    rw [hc] at h8
    simp only [Option.map_some, Option.some.injEq] at h8
    refine ⟨r.2.1, r.2.2, ?_⟩
    show mCl[(m_rec k).2.2.2.2.1]? = _
    rw [hc]
    show some r = some ((m_rec k).1.cls, r.2.1, r.2.2)
    rw [← h8]
theorem m_kind1 {k : Nat} (hk : k < mRecs.length) (h0 : m_kd k = 1) : Cond.instanceMethod (m_y k) ∈ mTb ∧ (m_y k).name = "<init>" ∧ m_r k = none := by
  have h := m_mk_all k hk
  unfold m_mk at h
  simp only [Bool.and_eq_true, decide_eq_true_eq] at h
  obtain ⟨-, -, -, -, -, -, h7⟩ := h
  have e : (m_rec k).2.2.2.2.2.1 = 1 := h0
  rw [e] at h7
  simp only [Bool.and_eq_true, decide_eq_true_eq] at h7
  exact h7
theorem m_kind2 {k : Nat} (hk : k < mRecs.length) (h0 : m_kd k = 2) : Cond.static (m_y k) ∈ mTb := by
  have h := m_mk_all k hk
  unfold m_mk at h
  simp only [Bool.and_eq_true, decide_eq_true_eq] at h
  obtain ⟨-, -, -, -, -, -, h7⟩ := h
  have e : (m_rec k).2.2.2.2.2.1 = 2 := h0
  rw [e] at h7
  have h8 : decide (Cond.static (m_y k) ∈ mTb) = true := h7
  exact of_decide_eq_true h8
theorem m_cV {k pc len nx k' na idx : Nat} (hi : m_i k pc = some (.invokevirtual idx, len, nx, k', na)) : na = m_na k' + 1 ∧ GoodIn mTb (wsV (m_y k).cls idx (m_y k').cls (m_y k') (m_w k')) ∧ ((m_y k').cls = (m_y k').cls ∧ (m_y k').cls ≠ "java/lang/invoke/MethodHandle" ∧ (m_y k').cls ≠ "java/lang/invoke/VarHandle" ∧ (parseMethodDescriptor (m_y k').desc).map (fun d => d.parameters.length) = some (m_na k')) ∧ plainName (m_y k').cls = true ∧ m_l k' ≤ 14 ∧ ∃ T N, mCl[m_ci k']? = some ((m_y k').cls, T, N) := by
  have h := (m_got hi).2.2.2
  simp only [m_lnk, Bool.and_eq_true, decide_eq_true_eq, beq_iff_eq] at h
  obtain ⟨hk, h0, hn, hl⟩ := h
  obtain ⟨q1, q2, q3, q4, q5, q6⟩ := m_meth hk
  obtain ⟨r1, r2, r3⟩ := m_kind0 hk h0
  refine ⟨hn, ?_, ⟨rfl, q3, q4, q5⟩, q1, q2, r3⟩
  intro w hw
  unfold wsV at hw
  rcases List.mem_append.mp hw with hw | hw
  · simp only [List.mem_cons, List.not_mem_nil, or_false] at hw
    rcases hw with rfl | rfl | rfl | rfl
    · exact ⟨hl, Or.inl rfl⟩
    · exact ⟨r1, Or.inl rfl⟩
    · exact ⟨r2, Or.inl rfl⟩
    · exact ⟨q6, Or.inl rfl⟩
  · exact m_w_in hk w hw
theorem m_cI {k pc len nx k' na idx : Nat} (hi : m_i k pc = some (.invokespecial idx, len, nx, k', na)) (h9 : k' ≠ 999) : na = m_na k' + 1 ∧ GoodIn mTb (m_w k') ∧ ((m_y k').cls ≠ "java/lang/invoke/MethodHandle" ∧ (m_y k').cls ≠ "java/lang/invoke/VarHandle" ∧ (parseMethodDescriptor (m_y k').desc).map (fun d => d.parameters.length) = some (m_na k')) ∧ plainName (m_y k').cls = true ∧ m_l k' ≤ 14 ∧ (m_y k').name = "<init>" ∧ m_r k' = none ∧ Cond.initialized (m_y k').cls ∈ mTb ∧ Cond.instanceMethod (m_y k') ∈ mTb ∧ (Cond.methodLink (m_y k).cls idx (m_y k') ∈ mTb ∨ ∃ host, Cond.methodLinkNest (m_y k).cls idx (m_y k') host ∈ mNw) := by
  have h := (m_got hi).2.2.2
  simp only [m_lnk, if_neg h9, m_ik, Bool.and_eq_true, Bool.or_eq_true, decide_eq_true_eq, beq_iff_eq] at h
  obtain ⟨hk, h0, hn, hl⟩ := h
  obtain ⟨q1, q2, q3, q4, q5, q6⟩ := m_meth hk
  obtain ⟨r1, r2, r3⟩ := m_kind1 hk h0
  exact ⟨hn, m_w_in hk, ⟨q3, q4, q5⟩, q1, q2, r2, r3, q6, r1, hl.imp id (fun z => ⟨_, z⟩)⟩
theorem m_cS {k pc len nx k' na idx : Nat} (hi : m_i k pc = some (.invokestatic idx, len, nx, k', na)) (h9 : k' ≠ 998 ∧ k' ≠ 997 ∧ k' ≠ 996) : na = m_na k' ∧ GoodIn mTb (wsS (m_y k).cls idx (m_y k') (m_w k')) ∧ ((m_y k').cls = (m_y k).cls ∧ (m_y k').cls ≠ "java/lang/invoke/MethodHandle" ∧ (m_y k').cls ≠ "java/lang/invoke/VarHandle" ∧ (parseMethodDescriptor (m_y k').desc).map (fun d => d.parameters.length) = some (m_na k')) ∧ plainName (m_y k').cls = true ∧ m_l k' ≤ 14 := by
  have h := (m_got hi).2.2.2
  simp only [m_lnk, if_neg h9.1, if_neg h9.2.1, if_neg h9.2.2, m_sk, Bool.and_eq_true, decide_eq_true_eq, beq_iff_eq] at h
  obtain ⟨hk, h0, hn, hl, hc⟩ := h
  obtain ⟨q1, q2, q3, q4, q5, q6⟩ := m_meth hk
  have r1 := m_kind2 hk h0
  refine ⟨hn, ?_, ⟨hc, q3, q4, q5⟩, q1, q2⟩
  intro w hw
  unfold wsS at hw
  rcases List.mem_append.mp hw with hw | hw
  · simp only [List.mem_cons, List.not_mem_nil, or_false] at hw
    rcases hw with rfl | rfl | rfl
    · exact ⟨hl, Or.inl rfl⟩
    · exact ⟨r1, Or.inl rfl⟩
    · exact ⟨by rw [← hc]; exact q6, Or.inl rfl⟩
  · exact m_w_in hk w hw
theorem m_o1 : Cond.instanceMethod objectInit ∈ mTb := by decide +kernel
theorem m_o2 : Cond.code objectInit ⟨#[0xb1]⟩ 1 none ∈ mTb := by decide +kernel
theorem m_obj {k pc len nx idx na : Nat} (hi : m_i k pc = some (.invokespecial idx, len, nx, 999, na)) : Cond.methodLink (m_y k).cls idx objectInit ∈ mTb ∧ Cond.instanceMethod objectInit ∈ mTb ∧ Cond.code objectInit ⟨#[0xb1]⟩ 1 none ∈ mTb := by
  have h := (m_got hi).2.2.2
  simp only [m_lnk, if_true, decide_eq_true_eq] at h
  exact ⟨h, m_o1, m_o2⟩
theorem m_x1 : Cond.static Lib.Math.max.name ∈ mTb := by decide +kernel
theorem m_x2 : Cond.initialized "java/lang/Math" ∈ mTb := by decide +kernel
theorem m_x3 : Cond.code Lib.Math.max.name Lib.Math.max.code 2 (some .int) ∈ mTb := by decide +kernel
theorem m_n1 : Cond.static Lib.Math.min.name ∈ mTb := by decide +kernel
theorem m_n3 : Cond.code Lib.Math.min.name Lib.Math.min.code 2 (some .int) ∈ mTb := by decide +kernel
theorem m_max {k pc len nx idx na : Nat} (hi : m_i k pc = some (.invokestatic idx, len, nx, 998, na)) : Cond.methodLink (m_y k).cls idx Lib.Math.max.name ∈ mTb ∧ Cond.static Lib.Math.max.name ∈ mTb ∧ Cond.initialized "java/lang/Math" ∈ mTb ∧ Cond.code Lib.Math.max.name Lib.Math.max.code 2 (some .int) ∈ mTb := by
  have h := (m_got hi).2.2.2
  simp only [m_lnk, if_true, decide_eq_true_eq] at h
  exact ⟨h, m_x1, m_x2, m_x3⟩
theorem m_min {k pc len nx idx na : Nat} (hi : m_i k pc = some (.invokestatic idx, len, nx, 997, na)) : Cond.methodLink (m_y k).cls idx Lib.Math.min.name ∈ mTb ∧ Cond.static Lib.Math.min.name ∈ mTb ∧ Cond.initialized "java/lang/Math" ∈ mTb ∧ Cond.code Lib.Math.min.name Lib.Math.min.code 2 (some .int) ∈ mTb := by
  have h := (m_got hi).2.2.2
  simp only [m_lnk, if_neg (show ¬ (997 : Nat) = 998 by decide), if_true, decide_eq_true_eq] at h
  exact ⟨h, m_n1, m_x2, m_n3⟩
theorem m_y1 : Cond.native arraycopyName ∈ mTb := by decide +kernel
theorem m_y2 : Cond.static arraycopyName ∈ mTb := by decide +kernel
theorem m_y3 : Cond.initialized "java/lang/System" ∈ mTb := by decide +kernel
theorem m_cpy {k pc len nx idx na : Nat} (hi : m_i k pc = some (.invokestatic idx, len, nx, 996, na)) : Cond.methodLink (m_y k).cls idx arraycopyName ∈ mTb ∧ Cond.native arraycopyName ∈ mTb ∧ Cond.static arraycopyName ∈ mTb ∧ Cond.initialized "java/lang/System" ∈ mTb := by
  have h := (m_got hi).2.2.2
  simp only [m_lnk, if_neg (show ¬ (996 : Nat) = 998 by decide), if_neg (show ¬ (996 : Nat) = 997 by decide), if_true, decide_eq_true_eq] at h
  exact ⟨h, m_y1, m_y2, m_y3⟩
theorem m_cls {ci : Nat} {Cn : String} {T : u_T} {N : Nat} (hc : mCl[ci]? = some (Cn, T, N)) : (∀ w ∈ u_ws Cn T N, w ∈ mTb) ∧ (∀ j, j < N → parseFieldDescriptor (T j).2.2.1 = some (mTf ci j)) ∧ (∀ a, a < N → ∀ b, b < N → a ≠ b → (T a).2.1 ≠ (T b).2.1) := by
  match ci, hc with
  | 0, hc => cases hc; exact ⟨by decide +kernel, by decide +kernel, by decide +kernel⟩
  | 1, hc => cases hc; exact ⟨by decide +kernel, by decide +kernel, by decide +kernel⟩
  | 2, hc => cases hc; exact ⟨by decide +kernel, by decide +kernel, by decide +kernel⟩
  | 3, hc => cases hc; exact ⟨by decide +kernel, by decide +kernel, by decide +kernel⟩
  | 4, hc => cases hc; exact ⟨by decide +kernel, by decide +kernel, by decide +kernel⟩
  | n + 5, hc => simp [mCl] at hc
theorem m_df {ci : Nat} {Cn : String} {T : u_T} {N : Nat} (hc : mCl[ci]? = some (Cn, T, N)) : ∀ j, j < N → defaultValue (mTf ci j) = vp_V (mDf ci) j := by
  match ci, hc with
  | 0, hc => cases hc; decide +kernel
  | 1, hc => cases hc; decide +kernel
  | 2, hc => cases hc; decide +kernel
  | 3, hc => cases hc; decide +kernel
  | 4, hc => cases hc; decide +kernel
  | n + 5, hc => simp [mCl] at hc
