/-! THE SMALL MACHINE. Cells are a list (the heap 'h'); a reference is a place in it; 'ad' says at which address of the real heap the place lies.
 AX d k C S X pc lv st h n1 n2 F: from the method k at pc with locals lv, stack st, cells h (n1 cells of n2 slots made so far, at most C of S; calls at most d deep) the real machine comes to where F says. -/
abbrev ax_L : Type := List (Nat × Value)
abbrev ax_H : Type := List va_E
abbrev ax_F : Type := Nat → ax_L → List Value → ax_H → Nat → Nat → Prop
def ax_v (b : Nat) (ad : Nat → Nat) : Value → Value
  | .ref i => .ref (ad i)
  | .retAddr _ => .ref b
  | v => v
theorem ax_v_cat (b : Nat) (ad : Nat → Nat) (v : Value) : (ax_v b ad v).category = v.category := by cases v <;> rfl
def ax_e (cid : Nat → ClassId) (b : Nat) (ad : Nat → Nat) : va_E → va_E
  | .inl (t, a) => .inl (cid t, a)
  | .inr (c, fs) => .inr (c, fs.map (ax_v b ad))
def ax_w (cid : Nat → ClassId) (b : Nat) (ad : Nat → Nat) (h : ax_H) : va_W := h.mapIdx (fun i e => (ad i, ax_e cid b ad e))
def ax_l (b : Nat) (ad : Nat → Nat) (lv : ax_L) : List (Nat × Value) := lv.map (fun q => (q.1, ax_v b ad q.2))
def ax_ok (n : Nat) : Value → Bool
  | .ref i => decide (i < n)
  | _ => true
def ax_okE (n : Nat) : va_E → Bool
  | .inl _ => true
  | .inr (_, fs) => fs.all (ax_ok n)
def ax_okF (n : Nat) (lv : ax_L) (st : List Value) : Bool := lv.all (fun q => ax_ok n q.2) && st.all (ax_ok n)
def ax_get (lv : ax_L) (i : Nat) : Option Value := (lv.find? (fun q => q.1 == i)).map (fun q => q.2)
def ax_put (lv : ax_L) (i : Nat) (v : Value) : ax_L := (i, v) :: lv.filter (fun q => !(q.1 == i) && !(q.1 + 1 == i && q.2.category == 2))
def ax_putL (lv : ax_L) (i : Nat) (v : Value) : ax_L := (i, v) :: lv.filter (fun q => !(q.1 == i) && (!(q.1 == i + 1) && !(q.1 + 1 == i && q.2.category == 2)))
theorem ax_v_ext {b n : Nat} {ad ad' : Nat → Nat} {v : Value} (h : ax_ok n v = true) (e : ∀ i, i < n → ad' i = ad i) : ax_v b ad' v = ax_v b ad v := by
  cases v <;> simp_all [ax_v, ax_ok]
theorem ax_e_ext {cid : Nat → ClassId} {b n : Nat} {ad ad' : Nat → Nat} {v : va_E} (h : ax_okE n v = true) (e : ∀ i, i < n → ad' i = ad i) : ax_e cid b ad' v = ax_e cid b ad v := by
  rcases v with ⟨t, a⟩ | ⟨c, fs⟩
  · rfl
  · simp only [ax_e]
    congr 2
    apply List.map_congr_left
    intro x hx
    exact ax_v_ext (List.all_eq_true.mp h x hx) e
theorem ax_l_ext {b n : Nat} {ad ad' : Nat → Nat} {lv : ax_L} (h : lv.all (fun q => ax_ok n q.2) = true) (e : ∀ i, i < n → ad' i = ad i) : ax_l b ad' lv = ax_l b ad lv := by
  apply List.map_congr_left
  intro x hx
  rw [ax_v_ext (List.all_eq_true.mp h x hx) e]
theorem ax_s_ext {b n : Nat} {ad ad' : Nat → Nat} {st : List Value} (h : st.all (ax_ok n) = true) (e : ∀ i, i < n → ad' i = ad i) : st.map (ax_v b ad') = st.map (ax_v b ad) := by
  apply List.map_congr_left
  intro x hx
  exact ax_v_ext (List.all_eq_true.mp h x hx) e
theorem ax_w_get (cid : Nat → ClassId) (b : Nat) (ad : Nat → Nat) (h : ax_H) (k : Nat) : (ax_w cid b ad h)[k]? = h[k]?.map (fun e => (ad k, ax_e cid b ad e)) := by
  unfold ax_w
  rw [List.getElem?_mapIdx]
theorem ax_w_at {cid : Nat → ClassId} {b : Nat} {ad : Nat → Nat} {h : ax_H} {k : Nat} {e : va_E} (hk : h[k]? = some e) : (ax_w cid b ad h)[k]? = some (ad k, ax_e cid b ad e) := by
  rw [ax_w_get, hk]; rfl
theorem ax_w_set (cid : Nat → ClassId) (b : Nat) (ad : Nat → Nat) (h : ax_H) (k : Nat) (e : va_E) : (ax_w cid b ad h).set k (ad k, ax_e cid b ad e) = ax_w cid b ad (h.set k e) := by
  apply List.ext_getElem?
  intro i
  rw [ax_w_get, List.getElem?_set, List.getElem?_set, ax_w_get]
  have hl : (ax_w cid b ad h).length = h.length := by unfold ax_w; exact List.length_mapIdx
  by_cases hk : k = i
  · subst hk
    rw [if_pos rfl, if_pos rfl, hl]
    by_cases hh : k < h.length
    · rw [if_pos hh, if_pos hh]; rfl
    · rw [if_neg hh, if_neg hh]; rfl
  · rw [if_neg hk, if_neg hk]
theorem ax_w_len (cid : Nat → ClassId) (b : Nat) (ad : Nat → Nat) (h : ax_H) : (ax_w cid b ad h).length = h.length := by unfold ax_w; exact List.length_mapIdx
theorem ax_w_ext {cid : Nat → ClassId} {b : Nat} {ad ad' : Nat → Nat} {h : ax_H} (hc : h.all (ax_okE h.length) = true) (e : ∀ i, i < h.length → ad' i = ad i) : ax_w cid b ad' h = ax_w cid b ad h := by
  apply List.ext_getElem?
  intro i
  rw [ax_w_get, ax_w_get]
  cases hi : h[i]? with
  | none => rfl
  | some v =>
    have hl : i < h.length := (List.getElem?_eq_some_iff.mp hi).1
    simp only [Option.map_some]
    rw [e i hl, ax_e_ext (List.all_eq_true.mp hc v (List.mem_of_getElem? hi)) e]
def ax_new (ad : Nat → Nat) (n q : Nat) : Nat → Nat := fun i => if i = n then q else ad i
theorem ax_new_lt {ad : Nat → Nat} {n q : Nat} : ∀ i, i < n → ax_new ad n q i = ad i := fun i hi => by unfold ax_new; rw [if_neg (by omega)]
theorem ax_w_push {cid : Nat → ClassId} {b : Nat} {ad : Nat → Nat} {h : ax_H} {q : Nat} {e e' : va_E} (hc : h.all (ax_okE h.length) = true) (he : ax_e cid b (ax_new ad h.length q) e = e') : ax_w cid b ad h ++ [(q, e')] = ax_w cid b (ax_new ad h.length q) (h ++ [e]) := by
  have e1 : ax_w cid b (ax_new ad h.length q) (h ++ [e]) = ax_w cid b (ax_new ad h.length q) h ++ [(q, e')] := by
    unfold ax_w
    rw [List.mapIdx_concat]
    simp only [he]
    simp [ax_new]
  rw [e1, ax_w_ext hc ax_new_lt]
theorem ax_l_at {b nL i : Nat} {ad : Nat → Nat} {ls : Array Slot} {lv : ax_L} {v : Value} (hl : lv_has ls nL (ax_l b ad lv)) (hv : ax_get lv i = some v) : ls[i]? = some (.val (ax_v b ad v)) := by
  unfold ax_get at hv
  cases hq : lv.find? (fun q => q.1 == i) with
  | none => rw [hq] at hv; cases hv
  | some q =>
    rw [hq] at hv
    simp only [Option.map_some, Option.some.injEq] at hv
    have h1 := List.find?_some hq
    have h2 := List.mem_of_find?_eq_some hq
    simp only [beq_iff_eq] at h1
    have h3 := hl.2.2 (q.1, ax_v b ad q.2) (List.mem_map.mpr ⟨q, h2, rfl⟩)
    rw [hv] at h3
    rw [← h1]
    exact h3
theorem ax_l_put (b : Nat) (ad : Nat → Nat) (lv : ax_L) (i : Nat) (v : Value) : (i, ax_v b ad v) :: (ax_l b ad lv).filter (fun q => !(q.1 == i) && !(q.1 + 1 == i && q.2.category == 2)) = ax_l b ad (ax_put lv i v) := by
  unfold ax_l ax_put
  rw [List.filter_map, List.map_cons]
  congr 2
  apply List.filter_congr
  intro q _
  simp only [Function.comp, ax_v_cat]
theorem ax_l_putL (b : Nat) (ad : Nat → Nat) (lv : ax_L) (i : Nat) (v : Value) : (i, ax_v b ad v) :: (ax_l b ad lv).filter (fun q => !(q.1 == i) && (!(q.1 == i + 1) && !(q.1 + 1 == i && q.2.category == 2))) = ax_l b ad (ax_putL lv i v) := by
  unfold ax_l ax_putL
  rw [List.filter_map, List.map_cons]
  congr 2
  apply List.filter_congr
  intro q _
  simp only [Function.comp, ax_v_cat]
def ax_cx (d k C S : Nat) (X : Option (Nat × (Nat → Int32))) (D : va_G) (cid : Nat → ClassId) (b : Nat) (p : Program) (R : Room) (s : State) (m : MethodId) (args : Array Value) (meth : Method) (c : Code) (A : Nat → Prop) : Prop :=
  p.tables.exec = Jvm.exec ∧ c.code = m_b k ∧ meth.sig.returnType = m_r k ∧ c.maxLocals = m_l k ∧ s.vm.findClass (m_y k).cls = some m.cls ∧ (∀ w ∈ mTb, w.before args s = true) ∧ meth.locks = false ∧ ((m_y k).name = "<init>" → meth.name = "<init>") ∧ va_K D mCl (mTy cid) s ∧ (∀ w ∈ mNw, va_Nw w s) ∧ (∀ q : Nat, s.heap.size ≤ q → A q) ∧ d ≤ R.frames ∧ 33 * d ≤ R.locals ∧ R.cells = C ∧ R.slots = S ∧ (∀ L xs, X = some (L, xs) → va_X b L xs s s.heap ∧ b < s.heap.size ∧ ¬ A b)
def ax_rp (D : va_G) (cid : Nat → ClassId) (b : Nat) (A : Nat → Prop) (H0 : Heap) (n0 : Nat) (ad0 : Nat → Nat) (nL : Nat) (ad : Nat → Nat) (n1 : Nat) (lv : ax_L) (h : ax_H) (H : Heap) (locs : List Loc) (ls : Array Slot) : Prop :=
  va_P D mCl (ax_w cid b ad h) H ∧ va_D A (ax_w cid b ad h) ∧ va_S A H0 H locs ∧ lv_has ls nL (ax_l b ad lv) ∧ (∀ i, i < n0 → ad i = ad0 i) ∧ n0 ≤ h.length ∧ (n1 = 0 → ad = ad0)
def AX (d k C S : Nat) (X : Option (Nat × (Nat → Int32))) (pc : Nat) (lv : ax_L) (st : List Value) (h : ax_H) (n1 n2 : Nat) (F : ax_F) : Prop :=
  ∀ (l : Launch) (D : va_G) (cid : Nat → ClassId) (b : Nat) (p : Program) (e : Env) (R : Room) (s : State) (m : MethodId) (args : Array Value) (below : List Frame) (meth : Method) (c : Code) (A : Nat → Prop) (Q : State → Prop) (n0 : Nat) (ad0 : Nat → Nat),
    ax_cx d k C S X D cid b p R s m args meth c A →
    (∀ (pc' : Nat) (lv' : ax_L) (st' : List Value) (h' : ax_H) (n1' n2' : Nat), F pc' lv' st' h' n1' n2' → ∀ (ad' : Nat → Nat) (H' : Heap) (locs' : List Loc) (ls' : Array Slot), ax_rp D cid b A s.heap n0 ad0 (m_l k) ad' n1' lv' h' H' locs' ls' → W p l e R s m args below meth c H' locs' n1' n2' Q (F0 m pc' ls' (st'.map (ax_v b ad')))) →
    ∀ (ad : Nat → Nat) (H : Heap) (locs : List Loc) (ls : Array Slot), ax_rp D cid b A s.heap n0 ad0 (m_l k) ad n1 lv h H locs ls → W p l e R s m args below meth c H locs n1 n2 Q (F0 m pc ls (st.map (ax_v b ad)))
theorem m_dfm {ci : Nat} {Cn : String} {T : u_T} {N b : Nat} {ad : Nat → Nat} (hc : mCl[ci]? = some (Cn, T, N)) : (mDf ci).map (ax_v b ad) = mDf ci := by
  match ci, hc with
  | 0, hc => rfl
  | 1, hc => rfl
  | 2, hc => rfl
  | 3, hc => rfl
  | 4, hc => rfl
  | n + 5, hc => simp [mCl] at hc
def ax_fits : FieldType → Value → Bool
  | .int, .int _ => true
  | .boolean, .int x => x == 0 || x == 1
  | .long, .long _ => true
  | .object _, .ref _ => true
  | .object _, .null => true
  | .array _, .ref _ => true
  | .array _, .null => true
  | _, _ => false
theorem ax_fits_ok (b : Nat) (ad : Nat → Nat) {ty : FieldType} {v : Value} (h : ax_fits ty v = true) : narrow ty (ax_v b ad v) = ax_v b ad v ∧ fits ty (ax_v b ad v) = true := by
  cases ty <;> cases v <;> first
    | exact ⟨rfl, rfl⟩
    | (simp [ax_fits] at h; done)
    | (simp only [ax_fits, Bool.or_eq_true, beq_iff_eq] at h; rcases h with rfl | rfl <;> exact ⟨rfl, rfl⟩)
section AXR
variable {d k C S : Nat} {X : Option (Nat × (Nat → Int32))} {pc nx a1 a2 : Nat} {lv : ax_L} {st : List Value} {h : ax_H} {n1 n2 : Nat} {F : ax_F}
theorem AX.here (hF : F pc lv st h n1 n2) : AX d k C S X pc lv st h n1 n2 F := by
  intro l D cid b p e R s m args below meth c A Q n0 ad0 Cx h0 ad H locs ls hr
  exact h0 pc lv st h n1 n2 hF ad H locs ls hr
theorem AX.mono {G : ax_F} (hG : AX d k C S X pc lv st h n1 n2 G) (hF : ∀ pc' lv' st' h' n1' n2', G pc' lv' st' h' n1' n2' → AX d k C S X pc' lv' st' h' n1' n2' F) : AX d k C S X pc lv st h n1 n2 F := by
  intro l D cid b p e R s m args below meth c A Q n0 ad0 Cx h0 ad H locs ls hr
  exact hG l D cid b p e R s m args below meth c A Q n0 ad0 Cx (fun pc' lv' st' h' n1' n2' g ad' H' locs' ls' hr' => hF pc' lv' st' h' n1' n2' g l D cid b p e R s m args below meth c A Q n0 ad0 Cx h0 ad' H' locs' ls' hr') ad H locs ls hr
theorem AX.eqs {st2 : List Value} {h2 : ax_H} {lv2 : ax_L} (e1 : lv = lv2) (e2 : st = st2) (e3 : h = h2) (kk : AX d k C S X pc lv2 st2 h2 n1 n2 F) : AX d k C S X pc lv st h n1 n2 F := by
  subst e1; subst e2; subst e3; exact kk

theorem AX.iconst {n : Int} (hi : m_i k pc = some (.iconst n, 1, nx, a1, a2)) (kk : AX d k C S X nx lv (.int (Int32.ofInt n) :: st) h n1 n2 F) : AX d k C S X pc lv (st) h n1 n2 F := by
  intro l D cid b p e R s m args below meth c A Q n0 ad0 Cx hF ad H locs ls hr
  obtain ⟨hx, hb, hrt, hml, hown, hts, hlk, hnm, hK, hN, hA, hfr, hlo, hRc, hRs, hX⟩ := id Cx
  obtain ⟨hP, hD, hS, hl, hg, hn, hz⟩ := id hr
  obtain ⟨hd, e9⟩ := m_dec hi
  subst e9
  exact lv_iconst hx hb hd rfl (kk l D cid b p e R s m args below meth c A Q n0 ad0 Cx hF ad H locs ls hr)
theorem AX.bipush {n : Int} (hi : m_i k pc = some (.bipush n, 2, nx, a1, a2)) (kk : AX d k C S X nx lv (.int (Int8.ofInt n).toInt32 :: st) h n1 n2 F) : AX d k C S X pc lv (st) h n1 n2 F := by
  intro l D cid b p e R s m args below meth c A Q n0 ad0 Cx hF ad H locs ls hr
  obtain ⟨hx, hb, hrt, hml, hown, hts, hlk, hnm, hK, hN, hA, hfr, hlo, hRc, hRs, hX⟩ := id Cx
  obtain ⟨hP, hD, hS, hl, hg, hn, hz⟩ := id hr
  obtain ⟨hd, e9⟩ := m_dec hi
  subst e9
  exact lv_bipush hx hb hd rfl (kk l D cid b p e R s m args below meth c A Q n0 ad0 Cx hF ad H locs ls hr)
theorem AX.sipush {n : Int} (hi : m_i k pc = some (.sipush n, 3, nx, a1, a2)) (kk : AX d k C S X nx lv (.int (Int16.ofInt n).toInt32 :: st) h n1 n2 F) : AX d k C S X pc lv (st) h n1 n2 F := by
  intro l D cid b p e R s m args below meth c A Q n0 ad0 Cx hF ad H locs ls hr
  obtain ⟨hx, hb, hrt, hml, hown, hts, hlk, hnm, hK, hN, hA, hfr, hlo, hRc, hRs, hX⟩ := id Cx
  obtain ⟨hP, hD, hS, hl, hg, hn, hz⟩ := id hr
  obtain ⟨hd, e9⟩ := m_dec hi
  subst e9
  exact lv_sipush hx hb hd rfl (kk l D cid b p e R s m args below meth c A Q n0 ad0 Cx hF ad H locs ls hr)
theorem AX.lconst {n : Fin 2} (hi : m_i k pc = some (.lconst n, 1, nx, a1, a2)) (kk : AX d k C S X nx lv (.long (Int64.ofNat (n : Nat)) :: st) h n1 n2 F) : AX d k C S X pc lv (st) h n1 n2 F := by
  intro l D cid b p e R s m args below meth c A Q n0 ad0 Cx hF ad H locs ls hr
  obtain ⟨hx, hb, hrt, hml, hown, hts, hlk, hnm, hK, hN, hA, hfr, hlo, hRc, hRs, hX⟩ := id Cx
  obtain ⟨hP, hD, hS, hl, hg, hn, hz⟩ := id hr
  obtain ⟨hd, e9⟩ := m_dec hi
  subst e9
  exact lv_lconst hx hb hd rfl (kk l D cid b p e R s m args below meth c A Q n0 ad0 Cx hF ad H locs ls hr)
theorem AX.iload_n {i : Fin 4} {x : Int32} (hi : m_i k pc = some (.iload_n i, 1, nx, a1, a2)) (hl0 : ax_get lv i = some (.int x)) (kk : AX d k C S X nx lv (.int x :: st) h n1 n2 F) : AX d k C S X pc lv (st) h n1 n2 F := by
  intro l D cid b p e R s m args below meth c A Q n0 ad0 Cx hF ad H locs ls hr
  obtain ⟨hx, hb, hrt, hml, hown, hts, hlk, hnm, hK, hN, hA, hfr, hlo, hRc, hRs, hX⟩ := id Cx
  obtain ⟨hP, hD, hS, hl, hg, hn, hz⟩ := id hr
  obtain ⟨hd, e9⟩ := m_dec hi
  subst e9
  exact lv_iload_n hx hb hd rfl (ax_l_at hl hl0) (kk l D cid b p e R s m args below meth c A Q n0 ad0 Cx hF ad H locs ls hr)
theorem AX.iload {i : Nat} {x : Int32} (hi : m_i k pc = some (.iload i, 2, nx, a1, a2)) (hl0 : ax_get lv i = some (.int x)) (kk : AX d k C S X nx lv (.int x :: st) h n1 n2 F) : AX d k C S X pc lv (st) h n1 n2 F := by
  intro l D cid b p e R s m args below meth c A Q n0 ad0 Cx hF ad H locs ls hr
  obtain ⟨hx, hb, hrt, hml, hown, hts, hlk, hnm, hK, hN, hA, hfr, hlo, hRc, hRs, hX⟩ := id Cx
  obtain ⟨hP, hD, hS, hl, hg, hn, hz⟩ := id hr
  obtain ⟨hd, e9⟩ := m_dec hi
  subst e9
  exact lv_iload hx hb hd (ax_l_at hl hl0) (kk l D cid b p e R s m args below meth c A Q n0 ad0 Cx hF ad H locs ls hr)
theorem AX.lload_n {i : Fin 4} {x : Int64} (hi : m_i k pc = some (.lload_n i, 1, nx, a1, a2)) (hl0 : ax_get lv i = some (.long x)) (kk : AX d k C S X nx lv (.long x :: st) h n1 n2 F) : AX d k C S X pc lv (st) h n1 n2 F := by
  intro l D cid b p e R s m args below meth c A Q n0 ad0 Cx hF ad H locs ls hr
  obtain ⟨hx, hb, hrt, hml, hown, hts, hlk, hnm, hK, hN, hA, hfr, hlo, hRc, hRs, hX⟩ := id Cx
  obtain ⟨hP, hD, hS, hl, hg, hn, hz⟩ := id hr
  obtain ⟨hd, e9⟩ := m_dec hi
  subst e9
  exact lv_lload_n hx hb hd rfl (ax_l_at hl hl0) (kk l D cid b p e R s m args below meth c A Q n0 ad0 Cx hF ad H locs ls hr)
theorem AX.lload {i : Nat} {x : Int64} (hi : m_i k pc = some (.lload i, 2, nx, a1, a2)) (hl0 : ax_get lv i = some (.long x)) (kk : AX d k C S X nx lv (.long x :: st) h n1 n2 F) : AX d k C S X pc lv (st) h n1 n2 F := by
  intro l D cid b p e R s m args below meth c A Q n0 ad0 Cx hF ad H locs ls hr
  obtain ⟨hx, hb, hrt, hml, hown, hts, hlk, hnm, hK, hN, hA, hfr, hlo, hRc, hRs, hX⟩ := id Cx
  obtain ⟨hP, hD, hS, hl, hg, hn, hz⟩ := id hr
  obtain ⟨hd, e9⟩ := m_dec hi
  subst e9
  exact lv_lload hx hb hd (ax_l_at hl hl0) (kk l D cid b p e R s m args below meth c A Q n0 ad0 Cx hF ad H locs ls hr)
theorem AX.aload_n {i : Fin 4} {x : Nat} (hi : m_i k pc = some (.aload_n i, 1, nx, a1, a2)) (hl0 : ax_get lv i = some (.ref x)) (kk : AX d k C S X nx lv (.ref x :: st) h n1 n2 F) : AX d k C S X pc lv (st) h n1 n2 F := by
  intro l D cid b p e R s m args below meth c A Q n0 ad0 Cx hF ad H locs ls hr
  obtain ⟨hx, hb, hrt, hml, hown, hts, hlk, hnm, hK, hN, hA, hfr, hlo, hRc, hRs, hX⟩ := id Cx
  obtain ⟨hP, hD, hS, hl, hg, hn, hz⟩ := id hr
  obtain ⟨hd, e9⟩ := m_dec hi
  subst e9
  exact lv_aload_n hx hb hd rfl (ax_l_at hl hl0) (kk l D cid b p e R s m args below meth c A Q n0 ad0 Cx hF ad H locs ls hr)
theorem AX.aload {i : Nat} {x : Nat} (hi : m_i k pc = some (.aload i, 2, nx, a1, a2)) (hl0 : ax_get lv i = some (.ref x)) (kk : AX d k C S X nx lv (.ref x :: st) h n1 n2 F) : AX d k C S X pc lv (st) h n1 n2 F := by
  intro l D cid b p e R s m args below meth c A Q n0 ad0 Cx hF ad H locs ls hr
  obtain ⟨hx, hb, hrt, hml, hown, hts, hlk, hnm, hK, hN, hA, hfr, hlo, hRc, hRs, hX⟩ := id Cx
  obtain ⟨hP, hD, hS, hl, hg, hn, hz⟩ := id hr
  obtain ⟨hd, e9⟩ := m_dec hi
  subst e9
  exact lv_aload hx hb hd (ax_l_at hl hl0) (kk l D cid b p e R s m args below meth c A Q n0 ad0 Cx hF ad H locs ls hr)
theorem AX.aload_nS {i : Fin 4} {x : Nat} (hi : m_i k pc = some (.aload_n i, 1, nx, a1, a2)) (hl0 : ax_get lv i = some (.retAddr x)) (kk : AX d k C S X nx lv (.retAddr x :: st) h n1 n2 F) : AX d k C S X pc lv (st) h n1 n2 F := by
  intro l D cid b p e R s m args below meth c A Q n0 ad0 Cx hF ad H locs ls hr
  obtain ⟨hx, hb, hrt, hml, hown, hts, hlk, hnm, hK, hN, hA, hfr, hlo, hRc, hRs, hX⟩ := id Cx
  obtain ⟨hP, hD, hS, hl, hg, hn, hz⟩ := id hr
  obtain ⟨hd, e9⟩ := m_dec hi
  subst e9
  exact lv_aload_n hx hb hd rfl (ax_l_at hl hl0) (kk l D cid b p e R s m args below meth c A Q n0 ad0 Cx hF ad H locs ls hr)
theorem AX.aloadS {i : Nat} {x : Nat} (hi : m_i k pc = some (.aload i, 2, nx, a1, a2)) (hl0 : ax_get lv i = some (.retAddr x)) (kk : AX d k C S X nx lv (.retAddr x :: st) h n1 n2 F) : AX d k C S X pc lv (st) h n1 n2 F := by
  intro l D cid b p e R s m args below meth c A Q n0 ad0 Cx hF ad H locs ls hr
  obtain ⟨hx, hb, hrt, hml, hown, hts, hlk, hnm, hK, hN, hA, hfr, hlo, hRc, hRs, hX⟩ := id Cx
  obtain ⟨hP, hD, hS, hl, hg, hn, hz⟩ := id hr
  obtain ⟨hd, e9⟩ := m_dec hi
  subst e9
  exact lv_aload hx hb hd (ax_l_at hl hl0) (kk l D cid b p e R s m args below meth c A Q n0 ad0 Cx hF ad H locs ls hr)
theorem AX.istore_n {i : Fin 4} {x : Int32} (hi : m_i k pc = some (.istore_n i, 1, nx, a1, a2)) (hs : (i : Nat) < m_l k) (kk : AX d k C S X nx (ax_put lv i (.int x)) (st) h n1 n2 F) : AX d k C S X pc lv (.int x :: st) h n1 n2 F := by
  intro l D cid b p e R s m args below meth c A Q n0 ad0 Cx hF ad H locs ls hr
  obtain ⟨hx, hb, hrt, hml, hown, hts, hlk, hnm, hK, hN, hA, hfr, hlo, hRc, hRs, hX⟩ := id Cx
  obtain ⟨hP, hD, hS, hl, hg, hn, hz⟩ := id hr
  obtain ⟨hd, e9⟩ := m_dec hi
  subst e9
  exact lv_istore_n hx hb hd rfl hl hs rfl (fun ls' hl' => kk l D cid b p e R s m args below meth c A Q n0 ad0 Cx hF ad H locs ls' ⟨hP, hD, hS, by rw [← ax_l_put b ad lv i (.int x)]; exact hl', hg, hn, hz⟩)
theorem AX.istore {i : Nat} {x : Int32} (hi : m_i k pc = some (.istore i, 2, nx, a1, a2)) (hs : (i : Nat) < m_l k) (kk : AX d k C S X nx (ax_put lv i (.int x)) (st) h n1 n2 F) : AX d k C S X pc lv (.int x :: st) h n1 n2 F := by
  intro l D cid b p e R s m args below meth c A Q n0 ad0 Cx hF ad H locs ls hr
  obtain ⟨hx, hb, hrt, hml, hown, hts, hlk, hnm, hK, hN, hA, hfr, hlo, hRc, hRs, hX⟩ := id Cx
  obtain ⟨hP, hD, hS, hl, hg, hn, hz⟩ := id hr
  obtain ⟨hd, e9⟩ := m_dec hi
  subst e9
  exact lv_istore hx hb hd hl hs rfl (fun ls' hl' => kk l D cid b p e R s m args below meth c A Q n0 ad0 Cx hF ad H locs ls' ⟨hP, hD, hS, by rw [← ax_l_put b ad lv i (.int x)]; exact hl', hg, hn, hz⟩)
theorem AX.lstore_n {i : Fin 4} {x : Int64} (hi : m_i k pc = some (.lstore_n i, 1, nx, a1, a2)) (hs : (i : Nat) + 1 < m_l k) (kk : AX d k C S X nx (ax_putL lv i (.long x)) (st) h n1 n2 F) : AX d k C S X pc lv (.long x :: st) h n1 n2 F := by
  intro l D cid b p e R s m args below meth c A Q n0 ad0 Cx hF ad H locs ls hr
  obtain ⟨hx, hb, hrt, hml, hown, hts, hlk, hnm, hK, hN, hA, hfr, hlo, hRc, hRs, hX⟩ := id Cx
  obtain ⟨hP, hD, hS, hl, hg, hn, hz⟩ := id hr
  obtain ⟨hd, e9⟩ := m_dec hi
  subst e9
  exact lv_lstore_n hx hb hd rfl hl hs rfl (fun ls' hl' => kk l D cid b p e R s m args below meth c A Q n0 ad0 Cx hF ad H locs ls' ⟨hP, hD, hS, by rw [← ax_l_putL b ad lv i (.long x)]; exact hl', hg, hn, hz⟩)
theorem AX.lstore {i : Nat} {x : Int64} (hi : m_i k pc = some (.lstore i, 2, nx, a1, a2)) (hs : (i : Nat) + 1 < m_l k) (kk : AX d k C S X nx (ax_putL lv i (.long x)) (st) h n1 n2 F) : AX d k C S X pc lv (.long x :: st) h n1 n2 F := by
  intro l D cid b p e R s m args below meth c A Q n0 ad0 Cx hF ad H locs ls hr
  obtain ⟨hx, hb, hrt, hml, hown, hts, hlk, hnm, hK, hN, hA, hfr, hlo, hRc, hRs, hX⟩ := id Cx
  obtain ⟨hP, hD, hS, hl, hg, hn, hz⟩ := id hr
  obtain ⟨hd, e9⟩ := m_dec hi
  subst e9
  exact lv_lstore hx hb hd hl hs rfl (fun ls' hl' => kk l D cid b p e R s m args below meth c A Q n0 ad0 Cx hF ad H locs ls' ⟨hP, hD, hS, by rw [← ax_l_putL b ad lv i (.long x)]; exact hl', hg, hn, hz⟩)
theorem AX.astore_n {i : Fin 4} {x : Nat} (hi : m_i k pc = some (.astore_n i, 1, nx, a1, a2)) (hs : (i : Nat) < m_l k) (kk : AX d k C S X nx (ax_put lv i (.ref x)) (st) h n1 n2 F) : AX d k C S X pc lv (.ref x :: st) h n1 n2 F := by
  intro l D cid b p e R s m args below meth c A Q n0 ad0 Cx hF ad H locs ls hr
  obtain ⟨hx, hb, hrt, hml, hown, hts, hlk, hnm, hK, hN, hA, hfr, hlo, hRc, hRs, hX⟩ := id Cx
  obtain ⟨hP, hD, hS, hl, hg, hn, hz⟩ := id hr
  obtain ⟨hd, e9⟩ := m_dec hi
  subst e9
  exact lv_astore_n hx hb hd rfl hl hs rfl (fun ls' hl' => kk l D cid b p e R s m args below meth c A Q n0 ad0 Cx hF ad H locs ls' ⟨hP, hD, hS, by rw [← ax_l_put b ad lv i (.ref x)]; exact hl', hg, hn, hz⟩)
theorem AX.astore {i : Nat} {x : Nat} (hi : m_i k pc = some (.astore i, 2, nx, a1, a2)) (hs : (i : Nat) < m_l k) (kk : AX d k C S X nx (ax_put lv i (.ref x)) (st) h n1 n2 F) : AX d k C S X pc lv (.ref x :: st) h n1 n2 F := by
  intro l D cid b p e R s m args below meth c A Q n0 ad0 Cx hF ad H locs ls hr
  obtain ⟨hx, hb, hrt, hml, hown, hts, hlk, hnm, hK, hN, hA, hfr, hlo, hRc, hRs, hX⟩ := id Cx
  obtain ⟨hP, hD, hS, hl, hg, hn, hz⟩ := id hr
  obtain ⟨hd, e9⟩ := m_dec hi
  subst e9
  exact lv_astore hx hb hd hl hs rfl (fun ls' hl' => kk l D cid b p e R s m args below meth c A Q n0 ad0 Cx hF ad H locs ls' ⟨hP, hD, hS, by rw [← ax_l_put b ad lv i (.ref x)]; exact hl', hg, hn, hz⟩)
theorem AX.iinc {i : Nat} {n : Int} {x : Int32} (hi : m_i k pc = some (.iinc i n, 3, nx, a1, a2)) (hl0 : ax_get lv i = some (.int x)) (hs : i < m_l k) (kk : AX d k C S X nx (ax_put lv i (.int (x + Int32.ofInt n))) st h n1 n2 F) : AX d k C S X pc lv st h n1 n2 F := by
  intro l D cid b p e R s m args below meth c A Q n0 ad0 Cx hF ad H locs ls hr
  obtain ⟨hx, hb, hrt, hml, hown, hts, hlk, hnm, hK, hN, hA, hfr, hlo, hRc, hRs, hX⟩ := id Cx
  obtain ⟨hP, hD, hS, hl, hg, hn, hz⟩ := id hr
  obtain ⟨hd, e9⟩ := m_dec hi
  subst e9
  have hm : (i, Value.int x) ∈ ax_l b ad lv := by
    unfold ax_get at hl0
    cases hq : lv.find? (fun q => q.1 == i) with
    | none => rw [hq] at hl0; cases hl0
    | some q =>
      rw [hq] at hl0
      simp only [Option.map_some, Option.some.injEq] at hl0
      have h1 := List.find?_some hq
      have h2 := List.mem_of_find?_eq_some hq
      simp only [beq_iff_eq] at h1
      exact List.mem_map.mpr ⟨q, h2, by rw [h1, hl0]; rfl⟩
  obtain ⟨kx, hkx⟩ := List.getElem?_of_mem hm
  exact lv_iinc hx hb hd hl hkx rfl hs rfl (fun ls' hl' => kk l D cid b p e R s m args below meth c A Q n0 ad0 Cx hF ad H locs ls' ⟨hP, hD, hS, by rw [← ax_l_put b ad lv i (.int (x + Int32.ofInt n))]; exact hl', hg, hn, hz⟩)
theorem AX.iadd {x y : Int32} (hi : m_i k pc = some (.iadd, 1, nx, a1, a2)) (kk : AX d k C S X nx lv (.int (x + y) :: st) h n1 n2 F) : AX d k C S X pc lv (.int y :: .int x :: st) h n1 n2 F := by
  intro l D cid b p e R s m args below meth c A Q n0 ad0 Cx hF ad H locs ls hr
  obtain ⟨hx, hb, hrt, hml, hown, hts, hlk, hnm, hK, hN, hA, hfr, hlo, hRc, hRs, hX⟩ := id Cx
  obtain ⟨hP, hD, hS, hl, hg, hn, hz⟩ := id hr
  obtain ⟨hd, e9⟩ := m_dec hi
  subst e9
  exact lv_iadd hx hb hd (kk l D cid b p e R s m args below meth c A Q n0 ad0 Cx hF ad H locs ls hr)
theorem AX.isub {x y : Int32} (hi : m_i k pc = some (.isub, 1, nx, a1, a2)) (kk : AX d k C S X nx lv (.int (x - y) :: st) h n1 n2 F) : AX d k C S X pc lv (.int y :: .int x :: st) h n1 n2 F := by
  intro l D cid b p e R s m args below meth c A Q n0 ad0 Cx hF ad H locs ls hr
  obtain ⟨hx, hb, hrt, hml, hown, hts, hlk, hnm, hK, hN, hA, hfr, hlo, hRc, hRs, hX⟩ := id Cx
  obtain ⟨hP, hD, hS, hl, hg, hn, hz⟩ := id hr
  obtain ⟨hd, e9⟩ := m_dec hi
  subst e9
  exact lv_isub hx hb hd (kk l D cid b p e R s m args below meth c A Q n0 ad0 Cx hF ad H locs ls hr)
theorem AX.imul {x y : Int32} (hi : m_i k pc = some (.imul, 1, nx, a1, a2)) (kk : AX d k C S X nx lv (.int (x * y) :: st) h n1 n2 F) : AX d k C S X pc lv (.int y :: .int x :: st) h n1 n2 F := by
  intro l D cid b p e R s m args below meth c A Q n0 ad0 Cx hF ad H locs ls hr
  obtain ⟨hx, hb, hrt, hml, hown, hts, hlk, hnm, hK, hN, hA, hfr, hlo, hRc, hRs, hX⟩ := id Cx
  obtain ⟨hP, hD, hS, hl, hg, hn, hz⟩ := id hr
  obtain ⟨hd, e9⟩ := m_dec hi
  subst e9
  exact lv_imul hx hb hd (kk l D cid b p e R s m args below meth c A Q n0 ad0 Cx hF ad H locs ls hr)
theorem AX.iand {x y : Int32} (hi : m_i k pc = some (.iand, 1, nx, a1, a2)) (kk : AX d k C S X nx lv (.int (x &&& y) :: st) h n1 n2 F) : AX d k C S X pc lv (.int y :: .int x :: st) h n1 n2 F := by
  intro l D cid b p e R s m args below meth c A Q n0 ad0 Cx hF ad H locs ls hr
  obtain ⟨hx, hb, hrt, hml, hown, hts, hlk, hnm, hK, hN, hA, hfr, hlo, hRc, hRs, hX⟩ := id Cx
  obtain ⟨hP, hD, hS, hl, hg, hn, hz⟩ := id hr
  obtain ⟨hd, e9⟩ := m_dec hi
  subst e9
  exact lv_iand hx hb hd (kk l D cid b p e R s m args below meth c A Q n0 ad0 Cx hF ad H locs ls hr)
theorem AX.ior {x y : Int32} (hi : m_i k pc = some (.ior, 1, nx, a1, a2)) (kk : AX d k C S X nx lv (.int (x ||| y) :: st) h n1 n2 F) : AX d k C S X pc lv (.int y :: .int x :: st) h n1 n2 F := by
  intro l D cid b p e R s m args below meth c A Q n0 ad0 Cx hF ad H locs ls hr
  obtain ⟨hx, hb, hrt, hml, hown, hts, hlk, hnm, hK, hN, hA, hfr, hlo, hRc, hRs, hX⟩ := id Cx
  obtain ⟨hP, hD, hS, hl, hg, hn, hz⟩ := id hr
  obtain ⟨hd, e9⟩ := m_dec hi
  subst e9
  exact lv_ior hx hb hd (kk l D cid b p e R s m args below meth c A Q n0 ad0 Cx hF ad H locs ls hr)
theorem AX.ixor {x y : Int32} (hi : m_i k pc = some (.ixor, 1, nx, a1, a2)) (kk : AX d k C S X nx lv (.int (x ^^^ y) :: st) h n1 n2 F) : AX d k C S X pc lv (.int y :: .int x :: st) h n1 n2 F := by
  intro l D cid b p e R s m args below meth c A Q n0 ad0 Cx hF ad H locs ls hr
  obtain ⟨hx, hb, hrt, hml, hown, hts, hlk, hnm, hK, hN, hA, hfr, hlo, hRc, hRs, hX⟩ := id Cx
  obtain ⟨hP, hD, hS, hl, hg, hn, hz⟩ := id hr
  obtain ⟨hd, e9⟩ := m_dec hi
  subst e9
  exact lv_ixor hx hb hd (kk l D cid b p e R s m args below meth c A Q n0 ad0 Cx hF ad H locs ls hr)
theorem AX.ishl {x y : Int32} (hi : m_i k pc = some (.ishl, 1, nx, a1, a2)) (kk : AX d k C S X nx lv (.int (x <<< (y &&& 31)) :: st) h n1 n2 F) : AX d k C S X pc lv (.int y :: .int x :: st) h n1 n2 F := by
  intro l D cid b p e R s m args below meth c A Q n0 ad0 Cx hF ad H locs ls hr
  obtain ⟨hx, hb, hrt, hml, hown, hts, hlk, hnm, hK, hN, hA, hfr, hlo, hRc, hRs, hX⟩ := id Cx
  obtain ⟨hP, hD, hS, hl, hg, hn, hz⟩ := id hr
  obtain ⟨hd, e9⟩ := m_dec hi
  subst e9
  exact lv_ishl hx hb hd (kk l D cid b p e R s m args below meth c A Q n0 ad0 Cx hF ad H locs ls hr)
theorem AX.ishr {x y : Int32} (hi : m_i k pc = some (.ishr, 1, nx, a1, a2)) (kk : AX d k C S X nx lv (.int (x >>> (y &&& 31)) :: st) h n1 n2 F) : AX d k C S X pc lv (.int y :: .int x :: st) h n1 n2 F := by
  intro l D cid b p e R s m args below meth c A Q n0 ad0 Cx hF ad H locs ls hr
  obtain ⟨hx, hb, hrt, hml, hown, hts, hlk, hnm, hK, hN, hA, hfr, hlo, hRc, hRs, hX⟩ := id Cx
  obtain ⟨hP, hD, hS, hl, hg, hn, hz⟩ := id hr
  obtain ⟨hd, e9⟩ := m_dec hi
  subst e9
  exact lv_ishr hx hb hd (kk l D cid b p e R s m args below meth c A Q n0 ad0 Cx hF ad H locs ls hr)
theorem AX.idiv {x y : Int32} (hi : m_i k pc = some (.idiv, 1, nx, a1, a2)) (h0 : ¬ y = 0) (kk : AX d k C S X nx lv (.int (x / y) :: st) h n1 n2 F) : AX d k C S X pc lv (.int y :: .int x :: st) h n1 n2 F := by
  intro l D cid b p e R s m args below meth c A Q n0 ad0 Cx hF ad H locs ls hr
  obtain ⟨hx, hb, hrt, hml, hown, hts, hlk, hnm, hK, hN, hA, hfr, hlo, hRc, hRs, hX⟩ := id Cx
  obtain ⟨hP, hD, hS, hl, hg, hn, hz⟩ := id hr
  obtain ⟨hd, e9⟩ := m_dec hi
  subst e9
  exact lv_idiv hx hb hd h0 (kk l D cid b p e R s m args below meth c A Q n0 ad0 Cx hF ad H locs ls hr)
theorem AX.irem {x y : Int32} (hi : m_i k pc = some (.irem, 1, nx, a1, a2)) (h0 : ¬ y = 0) (kk : AX d k C S X nx lv (.int (x - x / y * y) :: st) h n1 n2 F) : AX d k C S X pc lv (.int y :: .int x :: st) h n1 n2 F := by
  intro l D cid b p e R s m args below meth c A Q n0 ad0 Cx hF ad H locs ls hr
  obtain ⟨hx, hb, hrt, hml, hown, hts, hlk, hnm, hK, hN, hA, hfr, hlo, hRc, hRs, hX⟩ := id Cx
  obtain ⟨hP, hD, hS, hl, hg, hn, hz⟩ := id hr
  obtain ⟨hd, e9⟩ := m_dec hi
  subst e9
  exact lv_irem hx hb hd h0 (kk l D cid b p e R s m args below meth c A Q n0 ad0 Cx hF ad H locs ls hr)
theorem AX.ineg {x : Int32} (hi : m_i k pc = some (.ineg, 1, nx, a1, a2)) (kk : AX d k C S X nx lv (.int (-x) :: st) h n1 n2 F) : AX d k C S X pc lv (.int x :: st) h n1 n2 F := by
  intro l D cid b p e R s m args below meth c A Q n0 ad0 Cx hF ad H locs ls hr
  obtain ⟨hx, hb, hrt, hml, hown, hts, hlk, hnm, hK, hN, hA, hfr, hlo, hRc, hRs, hX⟩ := id Cx
  obtain ⟨hP, hD, hS, hl, hg, hn, hz⟩ := id hr
  obtain ⟨hd, e9⟩ := m_dec hi
  subst e9
  exact lv_ineg hx hb hd (kk l D cid b p e R s m args below meth c A Q n0 ad0 Cx hF ad H locs ls hr)
theorem AX.iushr {x y : Int32} (hi : m_i k pc = some (.iushr, 1, nx, a1, a2)) (kk : AX d k C S X nx lv (.int (x.toUInt32 >>> (y.toUInt32 &&& Int32.toUInt32 31)).toInt32 :: st) h n1 n2 F) : AX d k C S X pc lv (.int y :: .int x :: st) h n1 n2 F := by
  intro l D cid b p e R s m args below meth c A Q n0 ad0 Cx hF ad H locs ls hr
  obtain ⟨hx, hb, hrt, hml, hown, hts, hlk, hnm, hK, hN, hA, hfr, hlo, hRc, hRs, hX⟩ := id Cx
  obtain ⟨hP, hD, hS, hl, hg, hn, hz⟩ := id hr
  obtain ⟨hd, e9⟩ := m_dec hi
  subst e9
  exact lv_iushr hx hb hd rfl (kk l D cid b p e R s m args below meth c A Q n0 ad0 Cx hF ad H locs ls hr)
theorem AX.ladd {x y : Int64} (hi : m_i k pc = some (.ladd, 1, nx, a1, a2)) (kk : AX d k C S X nx lv (.long (x + y) :: st) h n1 n2 F) : AX d k C S X pc lv (.long y :: .long x :: st) h n1 n2 F := by
  intro l D cid b p e R s m args below meth c A Q n0 ad0 Cx hF ad H locs ls hr
  obtain ⟨hx, hb, hrt, hml, hown, hts, hlk, hnm, hK, hN, hA, hfr, hlo, hRc, hRs, hX⟩ := id Cx
  obtain ⟨hP, hD, hS, hl, hg, hn, hz⟩ := id hr
  obtain ⟨hd, e9⟩ := m_dec hi
  subst e9
  exact lv_ladd hx hb hd (kk l D cid b p e R s m args below meth c A Q n0 ad0 Cx hF ad H locs ls hr)
theorem AX.lsub {x y : Int64} (hi : m_i k pc = some (.lsub, 1, nx, a1, a2)) (kk : AX d k C S X nx lv (.long (x - y) :: st) h n1 n2 F) : AX d k C S X pc lv (.long y :: .long x :: st) h n1 n2 F := by
  intro l D cid b p e R s m args below meth c A Q n0 ad0 Cx hF ad H locs ls hr
  obtain ⟨hx, hb, hrt, hml, hown, hts, hlk, hnm, hK, hN, hA, hfr, hlo, hRc, hRs, hX⟩ := id Cx
  obtain ⟨hP, hD, hS, hl, hg, hn, hz⟩ := id hr
  obtain ⟨hd, e9⟩ := m_dec hi
  subst e9
  exact lv_lsub hx hb hd (kk l D cid b p e R s m args below meth c A Q n0 ad0 Cx hF ad H locs ls hr)
theorem AX.lmul {x y : Int64} (hi : m_i k pc = some (.lmul, 1, nx, a1, a2)) (kk : AX d k C S X nx lv (.long (x * y) :: st) h n1 n2 F) : AX d k C S X pc lv (.long y :: .long x :: st) h n1 n2 F := by
  intro l D cid b p e R s m args below meth c A Q n0 ad0 Cx hF ad H locs ls hr
  obtain ⟨hx, hb, hrt, hml, hown, hts, hlk, hnm, hK, hN, hA, hfr, hlo, hRc, hRs, hX⟩ := id Cx
  obtain ⟨hP, hD, hS, hl, hg, hn, hz⟩ := id hr
  obtain ⟨hd, e9⟩ := m_dec hi
  subst e9
  exact lv_lmul hx hb hd (kk l D cid b p e R s m args below meth c A Q n0 ad0 Cx hF ad H locs ls hr)
theorem AX.land {x y : Int64} (hi : m_i k pc = some (.land, 1, nx, a1, a2)) (kk : AX d k C S X nx lv (.long (x &&& y) :: st) h n1 n2 F) : AX d k C S X pc lv (.long y :: .long x :: st) h n1 n2 F := by
  intro l D cid b p e R s m args below meth c A Q n0 ad0 Cx hF ad H locs ls hr
  obtain ⟨hx, hb, hrt, hml, hown, hts, hlk, hnm, hK, hN, hA, hfr, hlo, hRc, hRs, hX⟩ := id Cx
  obtain ⟨hP, hD, hS, hl, hg, hn, hz⟩ := id hr
  obtain ⟨hd, e9⟩ := m_dec hi
  subst e9
  exact lv_land hx hb hd (kk l D cid b p e R s m args below meth c A Q n0 ad0 Cx hF ad H locs ls hr)
theorem AX.lor {x y : Int64} (hi : m_i k pc = some (.lor, 1, nx, a1, a2)) (kk : AX d k C S X nx lv (.long (x ||| y) :: st) h n1 n2 F) : AX d k C S X pc lv (.long y :: .long x :: st) h n1 n2 F := by
  intro l D cid b p e R s m args below meth c A Q n0 ad0 Cx hF ad H locs ls hr
  obtain ⟨hx, hb, hrt, hml, hown, hts, hlk, hnm, hK, hN, hA, hfr, hlo, hRc, hRs, hX⟩ := id Cx
  obtain ⟨hP, hD, hS, hl, hg, hn, hz⟩ := id hr
  obtain ⟨hd, e9⟩ := m_dec hi
  subst e9
  exact lv_lor hx hb hd (kk l D cid b p e R s m args below meth c A Q n0 ad0 Cx hF ad H locs ls hr)
theorem AX.lxor {x y : Int64} (hi : m_i k pc = some (.lxor, 1, nx, a1, a2)) (kk : AX d k C S X nx lv (.long (x ^^^ y) :: st) h n1 n2 F) : AX d k C S X pc lv (.long y :: .long x :: st) h n1 n2 F := by
  intro l D cid b p e R s m args below meth c A Q n0 ad0 Cx hF ad H locs ls hr
  obtain ⟨hx, hb, hrt, hml, hown, hts, hlk, hnm, hK, hN, hA, hfr, hlo, hRc, hRs, hX⟩ := id Cx
  obtain ⟨hP, hD, hS, hl, hg, hn, hz⟩ := id hr
  obtain ⟨hd, e9⟩ := m_dec hi
  subst e9
  exact lv_lxor hx hb hd (kk l D cid b p e R s m args below meth c A Q n0 ad0 Cx hF ad H locs ls hr)
theorem AX.lshl {x : Int64} {y : Int32} (hi : m_i k pc = some (.lshl, 1, nx, a1, a2)) (kk : AX d k C S X nx lv (.long (x <<< (y.toInt64 &&& 63)) :: st) h n1 n2 F) : AX d k C S X pc lv (.int y :: .long x :: st) h n1 n2 F := by
  intro l D cid b p e R s m args below meth c A Q n0 ad0 Cx hF ad H locs ls hr
  obtain ⟨hx, hb, hrt, hml, hown, hts, hlk, hnm, hK, hN, hA, hfr, hlo, hRc, hRs, hX⟩ := id Cx
  obtain ⟨hP, hD, hS, hl, hg, hn, hz⟩ := id hr
  obtain ⟨hd, e9⟩ := m_dec hi
  subst e9
  exact lv_lshl hx hb hd rfl (kk l D cid b p e R s m args below meth c A Q n0 ad0 Cx hF ad H locs ls hr)
theorem AX.lshr {x : Int64} {y : Int32} (hi : m_i k pc = some (.lshr, 1, nx, a1, a2)) (kk : AX d k C S X nx lv (.long (x >>> (y.toInt64 &&& 63)) :: st) h n1 n2 F) : AX d k C S X pc lv (.int y :: .long x :: st) h n1 n2 F := by
  intro l D cid b p e R s m args below meth c A Q n0 ad0 Cx hF ad H locs ls hr
  obtain ⟨hx, hb, hrt, hml, hown, hts, hlk, hnm, hK, hN, hA, hfr, hlo, hRc, hRs, hX⟩ := id Cx
  obtain ⟨hP, hD, hS, hl, hg, hn, hz⟩ := id hr
  obtain ⟨hd, e9⟩ := m_dec hi
  subst e9
  exact lv_lshr hx hb hd rfl (kk l D cid b p e R s m args below meth c A Q n0 ad0 Cx hF ad H locs ls hr)
theorem AX.lushr {x : Int64} {y : Int32} (hi : m_i k pc = some (.lushr, 1, nx, a1, a2)) (kk : AX d k C S X nx lv (.long (x.toUInt64 >>> (y.toInt64.toUInt64 &&& Int64.toUInt64 63)).toInt64 :: st) h n1 n2 F) : AX d k C S X pc lv (.int y :: .long x :: st) h n1 n2 F := by
  intro l D cid b p e R s m args below meth c A Q n0 ad0 Cx hF ad H locs ls hr
  obtain ⟨hx, hb, hrt, hml, hown, hts, hlk, hnm, hK, hN, hA, hfr, hlo, hRc, hRs, hX⟩ := id Cx
  obtain ⟨hP, hD, hS, hl, hg, hn, hz⟩ := id hr
  obtain ⟨hd, e9⟩ := m_dec hi
  subst e9
  exact lv_lushr hx hb hd rfl (kk l D cid b p e R s m args below meth c A Q n0 ad0 Cx hF ad H locs ls hr)
theorem AX.i2l {x : Int32} (hi : m_i k pc = some (.i2l, 1, nx, a1, a2)) (kk : AX d k C S X nx lv (.long x.toInt64 :: st) h n1 n2 F) : AX d k C S X pc lv (.int x :: st) h n1 n2 F := by
  intro l D cid b p e R s m args below meth c A Q n0 ad0 Cx hF ad H locs ls hr
  obtain ⟨hx, hb, hrt, hml, hown, hts, hlk, hnm, hK, hN, hA, hfr, hlo, hRc, hRs, hX⟩ := id Cx
  obtain ⟨hP, hD, hS, hl, hg, hn, hz⟩ := id hr
  obtain ⟨hd, e9⟩ := m_dec hi
  subst e9
  exact lv_i2l hx hb hd rfl (kk l D cid b p e R s m args below meth c A Q n0 ad0 Cx hF ad H locs ls hr)
theorem AX.l2i {x : Int64} (hi : m_i k pc = some (.l2i, 1, nx, a1, a2)) (kk : AX d k C S X nx lv (.int x.toInt32 :: st) h n1 n2 F) : AX d k C S X pc lv (.long x :: st) h n1 n2 F := by
  intro l D cid b p e R s m args below meth c A Q n0 ad0 Cx hF ad H locs ls hr
  obtain ⟨hx, hb, hrt, hml, hown, hts, hlk, hnm, hK, hN, hA, hfr, hlo, hRc, hRs, hX⟩ := id Cx
  obtain ⟨hP, hD, hS, hl, hg, hn, hz⟩ := id hr
  obtain ⟨hd, e9⟩ := m_dec hi
  subst e9
  exact lv_l2i hx hb hd rfl (kk l D cid b p e R s m args below meth c A Q n0 ad0 Cx hF ad H locs ls hr)
theorem AX.lcmp {x y : Int64} (hi : m_i k pc = some (.lcmp, 1, nx, a1, a2)) (kk : AX d k C S X nx lv (.int (lg_cmp x y) :: st) h n1 n2 F) : AX d k C S X pc lv (.long y :: .long x :: st) h n1 n2 F := by
  intro l D cid b p e R s m args below meth c A Q n0 ad0 Cx hF ad H locs ls hr
  obtain ⟨hx, hb, hrt, hml, hown, hts, hlk, hnm, hK, hN, hA, hfr, hlo, hRc, hRs, hX⟩ := id Cx
  obtain ⟨hP, hD, hS, hl, hg, hn, hz⟩ := id hr
  obtain ⟨hd, e9⟩ := m_dec hi
  subst e9
  exact W.lcmp hx hb hd (kk l D cid b p e R s m args below meth c A Q n0 ad0 Cx hF ad H locs ls hr)
theorem AX.dup {v : Value} (hi : m_i k pc = some (.dup, 1, nx, a1, a2)) (hc : v.category = 1) (kk : AX d k C S X nx lv (v :: v :: st) h n1 n2 F) : AX d k C S X pc lv (v :: st) h n1 n2 F := by
  intro l D cid b p e R s m args below meth c A Q n0 ad0 Cx hF ad H locs ls hr
  obtain ⟨hx, hb, hrt, hml, hown, hts, hlk, hnm, hK, hN, hA, hfr, hlo, hRc, hRs, hX⟩ := id Cx
  obtain ⟨hP, hD, hS, hl, hg, hn, hz⟩ := id hr
  obtain ⟨hd, e9⟩ := m_dec hi
  subst e9
  exact lv_dup hx hb hd ((ax_v_cat b ad v).trans hc) (kk l D cid b p e R s m args below meth c A Q n0 ad0 Cx hF ad H locs ls hr)
theorem AX.pop {v : Value} (hi : m_i k pc = some (.pop, 1, nx, a1, a2)) (hc : v.category = 1) (kk : AX d k C S X nx lv (st) h n1 n2 F) : AX d k C S X pc lv (v :: st) h n1 n2 F := by
  intro l D cid b p e R s m args below meth c A Q n0 ad0 Cx hF ad H locs ls hr
  obtain ⟨hx, hb, hrt, hml, hown, hts, hlk, hnm, hK, hN, hA, hfr, hlo, hRc, hRs, hX⟩ := id Cx
  obtain ⟨hP, hD, hS, hl, hg, hn, hz⟩ := id hr
  obtain ⟨hd, e9⟩ := m_dec hi
  subst e9
  exact lv_pop hx hb hd ((ax_v_cat b ad v).trans hc) (kk l D cid b p e R s m args below meth c A Q n0 ad0 Cx hF ad H locs ls hr)
theorem AX.dup_x1 {v u : Value} (hi : m_i k pc = some (.dup_x1, 1, nx, a1, a2)) (hc : v.category = 1) (hc2 : u.category = 1) (kk : AX d k C S X nx lv (v :: u :: v :: st) h n1 n2 F) : AX d k C S X pc lv (v :: u :: st) h n1 n2 F := by
  intro l D cid b p e R s m args below meth c A Q n0 ad0 Cx hF ad H locs ls hr
  obtain ⟨hx, hb, hrt, hml, hown, hts, hlk, hnm, hK, hN, hA, hfr, hlo, hRc, hRs, hX⟩ := id Cx
  obtain ⟨hP, hD, hS, hl, hg, hn, hz⟩ := id hr
  obtain ⟨hd, e9⟩ := m_dec hi
  subst e9
  exact lv_dup_x1 hx hb hd ((ax_v_cat b ad v).trans hc) ((ax_v_cat b ad u).trans hc2) (kk l D cid b p e R s m args below meth c A Q n0 ad0 Cx hF ad H locs ls hr)
theorem AX.dup_x2 {v u t : Value} (hi : m_i k pc = some (.dup_x2, 1, nx, a1, a2)) (hc : v.category = 1) (hc2 : u.category = 1) (hc3 : t.category = 1) (kk : AX d k C S X nx lv (v :: u :: t :: v :: st) h n1 n2 F) : AX d k C S X pc lv (v :: u :: t :: st) h n1 n2 F := by
  intro l D cid b p e R s m args below meth c A Q n0 ad0 Cx hF ad H locs ls hr
  obtain ⟨hx, hb, hrt, hml, hown, hts, hlk, hnm, hK, hN, hA, hfr, hlo, hRc, hRs, hX⟩ := id Cx
  obtain ⟨hP, hD, hS, hl, hg, hn, hz⟩ := id hr
  obtain ⟨hd, e9⟩ := m_dec hi
  subst e9
  exact lv_dup_x2 hx hb hd ((ax_v_cat b ad v).trans hc) ((ax_v_cat b ad u).trans hc2) ((ax_v_cat b ad t).trans hc3) (kk l D cid b p e R s m args below meth c A Q n0 ad0 Cx hF ad H locs ls hr)
theorem AX.dup2 {v u : Value} (hi : m_i k pc = some (.dup2, 1, nx, a1, a2)) (hc : v.category = 1) (hc2 : u.category = 1) (kk : AX d k C S X nx lv (v :: u :: v :: u :: st) h n1 n2 F) : AX d k C S X pc lv (v :: u :: st) h n1 n2 F := by
  intro l D cid b p e R s m args below meth c A Q n0 ad0 Cx hF ad H locs ls hr
  obtain ⟨hx, hb, hrt, hml, hown, hts, hlk, hnm, hK, hN, hA, hfr, hlo, hRc, hRs, hX⟩ := id Cx
  obtain ⟨hP, hD, hS, hl, hg, hn, hz⟩ := id hr
  obtain ⟨hd, e9⟩ := m_dec hi
  subst e9
  exact lv_dup2_11 hx hb hd ((ax_v_cat b ad v).trans hc) ((ax_v_cat b ad u).trans hc2) (kk l D cid b p e R s m args below meth c A Q n0 ad0 Cx hF ad H locs ls hr)
theorem AX.if_eq {x : Int32} {off : Int} (hi : m_i k pc = some (.ifCond .eq off, 3, nx, a1, a2)) (kt : x = 0 → AX d k C S X a1 lv st h n1 n2 F) (kf : ¬ x = 0 → AX d k C S X nx lv st h n1 n2 F) : AX d k C S X pc lv (.int x :: st) h n1 n2 F := by
  intro l D cid b p e R s m args below meth c A Q n0 ad0 Cx hF ad H locs ls hr
  obtain ⟨hx, hb, hrt, hml, hown, hts, hlk, hnm, hK, hN, hA, hfr, hlo, hRc, hRs, hX⟩ := id Cx
  obtain ⟨hP, hD, hS, hl, hg, hn, hz⟩ := id hr
  obtain ⟨hd, e9⟩ := m_dec hi
  subst e9
  exact lv_if_eq hx hb hd (m_jmp hi rfl) (fun q => kt q l D cid b p e R s m args below meth c A Q n0 ad0 Cx hF ad H locs ls hr) (fun q => kf q l D cid b p e R s m args below meth c A Q n0 ad0 Cx hF ad H locs ls hr)
theorem AX.icmp_eq {x y : Int32} {off : Int} (hi : m_i k pc = some (.if_icmp .eq off, 3, nx, a1, a2)) (kt : x = y → AX d k C S X a1 lv st h n1 n2 F) (kf : ¬ x = y → AX d k C S X nx lv st h n1 n2 F) : AX d k C S X pc lv (.int y :: .int x :: st) h n1 n2 F := by
  intro l D cid b p e R s m args below meth c A Q n0 ad0 Cx hF ad H locs ls hr
  obtain ⟨hx, hb, hrt, hml, hown, hts, hlk, hnm, hK, hN, hA, hfr, hlo, hRc, hRs, hX⟩ := id Cx
  obtain ⟨hP, hD, hS, hl, hg, hn, hz⟩ := id hr
  obtain ⟨hd, e9⟩ := m_dec hi
  subst e9
  exact lv_icmp_eq hx hb hd (m_jmp hi rfl) (fun q => kt q l D cid b p e R s m args below meth c A Q n0 ad0 Cx hF ad H locs ls hr) (fun q => kf q l D cid b p e R s m args below meth c A Q n0 ad0 Cx hF ad H locs ls hr)
theorem AX.if_ne {x : Int32} {off : Int} (hi : m_i k pc = some (.ifCond .ne off, 3, nx, a1, a2)) (kt : ¬ x = 0 → AX d k C S X a1 lv st h n1 n2 F) (kf : x = 0 → AX d k C S X nx lv st h n1 n2 F) : AX d k C S X pc lv (.int x :: st) h n1 n2 F := by
  intro l D cid b p e R s m args below meth c A Q n0 ad0 Cx hF ad H locs ls hr
  obtain ⟨hx, hb, hrt, hml, hown, hts, hlk, hnm, hK, hN, hA, hfr, hlo, hRc, hRs, hX⟩ := id Cx
  obtain ⟨hP, hD, hS, hl, hg, hn, hz⟩ := id hr
  obtain ⟨hd, e9⟩ := m_dec hi
  subst e9
  exact lv_if_ne hx hb hd (m_jmp hi rfl) (fun q => kt q l D cid b p e R s m args below meth c A Q n0 ad0 Cx hF ad H locs ls hr) (fun q => kf q l D cid b p e R s m args below meth c A Q n0 ad0 Cx hF ad H locs ls hr)
theorem AX.icmp_ne {x y : Int32} {off : Int} (hi : m_i k pc = some (.if_icmp .ne off, 3, nx, a1, a2)) (kt : ¬ x = y → AX d k C S X a1 lv st h n1 n2 F) (kf : x = y → AX d k C S X nx lv st h n1 n2 F) : AX d k C S X pc lv (.int y :: .int x :: st) h n1 n2 F := by
  intro l D cid b p e R s m args below meth c A Q n0 ad0 Cx hF ad H locs ls hr
  obtain ⟨hx, hb, hrt, hml, hown, hts, hlk, hnm, hK, hN, hA, hfr, hlo, hRc, hRs, hX⟩ := id Cx
  obtain ⟨hP, hD, hS, hl, hg, hn, hz⟩ := id hr
  obtain ⟨hd, e9⟩ := m_dec hi
  subst e9
  exact lv_icmp_ne hx hb hd (m_jmp hi rfl) (fun q => kt q l D cid b p e R s m args below meth c A Q n0 ad0 Cx hF ad H locs ls hr) (fun q => kf q l D cid b p e R s m args below meth c A Q n0 ad0 Cx hF ad H locs ls hr)
theorem AX.if_lt {x : Int32} {off : Int} (hi : m_i k pc = some (.ifCond .lt off, 3, nx, a1, a2)) (kt : x < 0 → AX d k C S X a1 lv st h n1 n2 F) (kf : ¬ x < 0 → AX d k C S X nx lv st h n1 n2 F) : AX d k C S X pc lv (.int x :: st) h n1 n2 F := by
  intro l D cid b p e R s m args below meth c A Q n0 ad0 Cx hF ad H locs ls hr
  obtain ⟨hx, hb, hrt, hml, hown, hts, hlk, hnm, hK, hN, hA, hfr, hlo, hRc, hRs, hX⟩ := id Cx
  obtain ⟨hP, hD, hS, hl, hg, hn, hz⟩ := id hr
  obtain ⟨hd, e9⟩ := m_dec hi
  subst e9
  exact lv_if_lt hx hb hd (m_jmp hi rfl) (fun q => kt q l D cid b p e R s m args below meth c A Q n0 ad0 Cx hF ad H locs ls hr) (fun q => kf q l D cid b p e R s m args below meth c A Q n0 ad0 Cx hF ad H locs ls hr)
theorem AX.icmp_lt {x y : Int32} {off : Int} (hi : m_i k pc = some (.if_icmp .lt off, 3, nx, a1, a2)) (kt : x < y → AX d k C S X a1 lv st h n1 n2 F) (kf : ¬ x < y → AX d k C S X nx lv st h n1 n2 F) : AX d k C S X pc lv (.int y :: .int x :: st) h n1 n2 F := by
  intro l D cid b p e R s m args below meth c A Q n0 ad0 Cx hF ad H locs ls hr
  obtain ⟨hx, hb, hrt, hml, hown, hts, hlk, hnm, hK, hN, hA, hfr, hlo, hRc, hRs, hX⟩ := id Cx
  obtain ⟨hP, hD, hS, hl, hg, hn, hz⟩ := id hr
  obtain ⟨hd, e9⟩ := m_dec hi
  subst e9
  exact lv_icmp_lt hx hb hd (m_jmp hi rfl) (fun q => kt q l D cid b p e R s m args below meth c A Q n0 ad0 Cx hF ad H locs ls hr) (fun q => kf q l D cid b p e R s m args below meth c A Q n0 ad0 Cx hF ad H locs ls hr)
theorem AX.if_ge {x : Int32} {off : Int} (hi : m_i k pc = some (.ifCond .ge off, 3, nx, a1, a2)) (kt : 0 ≤ x → AX d k C S X a1 lv st h n1 n2 F) (kf : ¬ 0 ≤ x → AX d k C S X nx lv st h n1 n2 F) : AX d k C S X pc lv (.int x :: st) h n1 n2 F := by
  intro l D cid b p e R s m args below meth c A Q n0 ad0 Cx hF ad H locs ls hr
  obtain ⟨hx, hb, hrt, hml, hown, hts, hlk, hnm, hK, hN, hA, hfr, hlo, hRc, hRs, hX⟩ := id Cx
  obtain ⟨hP, hD, hS, hl, hg, hn, hz⟩ := id hr
  obtain ⟨hd, e9⟩ := m_dec hi
  subst e9
  exact lv_if_ge hx hb hd (m_jmp hi rfl) (fun q => kt q l D cid b p e R s m args below meth c A Q n0 ad0 Cx hF ad H locs ls hr) (fun q => kf q l D cid b p e R s m args below meth c A Q n0 ad0 Cx hF ad H locs ls hr)
theorem AX.icmp_ge {x y : Int32} {off : Int} (hi : m_i k pc = some (.if_icmp .ge off, 3, nx, a1, a2)) (kt : y ≤ x → AX d k C S X a1 lv st h n1 n2 F) (kf : ¬ y ≤ x → AX d k C S X nx lv st h n1 n2 F) : AX d k C S X pc lv (.int y :: .int x :: st) h n1 n2 F := by
  intro l D cid b p e R s m args below meth c A Q n0 ad0 Cx hF ad H locs ls hr
  obtain ⟨hx, hb, hrt, hml, hown, hts, hlk, hnm, hK, hN, hA, hfr, hlo, hRc, hRs, hX⟩ := id Cx
  obtain ⟨hP, hD, hS, hl, hg, hn, hz⟩ := id hr
  obtain ⟨hd, e9⟩ := m_dec hi
  subst e9
  exact lv_icmp_ge hx hb hd (m_jmp hi rfl) (fun q => kt q l D cid b p e R s m args below meth c A Q n0 ad0 Cx hF ad H locs ls hr) (fun q => kf q l D cid b p e R s m args below meth c A Q n0 ad0 Cx hF ad H locs ls hr)
theorem AX.if_gt {x : Int32} {off : Int} (hi : m_i k pc = some (.ifCond .gt off, 3, nx, a1, a2)) (kt : 0 < x → AX d k C S X a1 lv st h n1 n2 F) (kf : ¬ 0 < x → AX d k C S X nx lv st h n1 n2 F) : AX d k C S X pc lv (.int x :: st) h n1 n2 F := by
  intro l D cid b p e R s m args below meth c A Q n0 ad0 Cx hF ad H locs ls hr
  obtain ⟨hx, hb, hrt, hml, hown, hts, hlk, hnm, hK, hN, hA, hfr, hlo, hRc, hRs, hX⟩ := id Cx
  obtain ⟨hP, hD, hS, hl, hg, hn, hz⟩ := id hr
  obtain ⟨hd, e9⟩ := m_dec hi
  subst e9
  exact lv_if_gt hx hb hd (m_jmp hi rfl) (fun q => kt q l D cid b p e R s m args below meth c A Q n0 ad0 Cx hF ad H locs ls hr) (fun q => kf q l D cid b p e R s m args below meth c A Q n0 ad0 Cx hF ad H locs ls hr)
theorem AX.icmp_gt {x y : Int32} {off : Int} (hi : m_i k pc = some (.if_icmp .gt off, 3, nx, a1, a2)) (kt : y < x → AX d k C S X a1 lv st h n1 n2 F) (kf : ¬ y < x → AX d k C S X nx lv st h n1 n2 F) : AX d k C S X pc lv (.int y :: .int x :: st) h n1 n2 F := by
  intro l D cid b p e R s m args below meth c A Q n0 ad0 Cx hF ad H locs ls hr
  obtain ⟨hx, hb, hrt, hml, hown, hts, hlk, hnm, hK, hN, hA, hfr, hlo, hRc, hRs, hX⟩ := id Cx
  obtain ⟨hP, hD, hS, hl, hg, hn, hz⟩ := id hr
  obtain ⟨hd, e9⟩ := m_dec hi
  subst e9
  exact lv_icmp_gt hx hb hd (m_jmp hi rfl) (fun q => kt q l D cid b p e R s m args below meth c A Q n0 ad0 Cx hF ad H locs ls hr) (fun q => kf q l D cid b p e R s m args below meth c A Q n0 ad0 Cx hF ad H locs ls hr)
theorem AX.if_le {x : Int32} {off : Int} (hi : m_i k pc = some (.ifCond .le off, 3, nx, a1, a2)) (kt : x ≤ 0 → AX d k C S X a1 lv st h n1 n2 F) (kf : ¬ x ≤ 0 → AX d k C S X nx lv st h n1 n2 F) : AX d k C S X pc lv (.int x :: st) h n1 n2 F := by
  intro l D cid b p e R s m args below meth c A Q n0 ad0 Cx hF ad H locs ls hr
  obtain ⟨hx, hb, hrt, hml, hown, hts, hlk, hnm, hK, hN, hA, hfr, hlo, hRc, hRs, hX⟩ := id Cx
  obtain ⟨hP, hD, hS, hl, hg, hn, hz⟩ := id hr
  obtain ⟨hd, e9⟩ := m_dec hi
  subst e9
  exact lv_if_le hx hb hd (m_jmp hi rfl) (fun q => kt q l D cid b p e R s m args below meth c A Q n0 ad0 Cx hF ad H locs ls hr) (fun q => kf q l D cid b p e R s m args below meth c A Q n0 ad0 Cx hF ad H locs ls hr)
theorem AX.icmp_le {x y : Int32} {off : Int} (hi : m_i k pc = some (.if_icmp .le off, 3, nx, a1, a2)) (kt : x ≤ y → AX d k C S X a1 lv st h n1 n2 F) (kf : ¬ x ≤ y → AX d k C S X nx lv st h n1 n2 F) : AX d k C S X pc lv (.int y :: .int x :: st) h n1 n2 F := by
  intro l D cid b p e R s m args below meth c A Q n0 ad0 Cx hF ad H locs ls hr
  obtain ⟨hx, hb, hrt, hml, hown, hts, hlk, hnm, hK, hN, hA, hfr, hlo, hRc, hRs, hX⟩ := id Cx
  obtain ⟨hP, hD, hS, hl, hg, hn, hz⟩ := id hr
  obtain ⟨hd, e9⟩ := m_dec hi
  subst e9
  exact lv_icmp_le hx hb hd (m_jmp hi rfl) (fun q => kt q l D cid b p e R s m args below meth c A Q n0 ad0 Cx hF ad H locs ls hr) (fun q => kf q l D cid b p e R s m args below meth c A Q n0 ad0 Cx hF ad H locs ls hr)
theorem AX.goto {off : Int} (hi : m_i k pc = some (.goto off, 3, nx, a1, a2)) (kk : AX d k C S X a1 lv st h n1 n2 F) : AX d k C S X pc lv st h n1 n2 F := by
  intro l D cid b p e R s m args below meth c A Q n0 ad0 Cx hF ad H locs ls hr
  obtain ⟨hx, hb, hrt, hml, hown, hts, hlk, hnm, hK, hN, hA, hfr, hlo, hRc, hRs, hX⟩ := id Cx
  obtain ⟨hP, hD, hS, hl, hg, hn, hz⟩ := id hr
  obtain ⟨hd, e9⟩ := m_dec hi
  subst e9
  exact lv_goto hx hb hd (m_jmp hi rfl) (kk l D cid b p e R s m args below meth c A Q n0 ad0 Cx hF ad H locs ls hr)
theorem AX.tsOut {dflt lo hi' : Int} {offs : Array Int} {len : Nat} {x : Int32} (hi : m_i k pc = some (.tableswitch dflt lo hi' offs, len, nx, a1, a2)) (hq : x.toInt < lo ∨ hi' < x.toInt) (kk : AX d k C S X a1 lv st h n1 n2 F) : AX d k C S X pc lv (.int x :: st) h n1 n2 F := by
  intro l D cid b p e R s m args below meth c A Q n0 ad0 Cx hF ad H locs ls hr
  obtain ⟨hx, hb, hrt, hml, hown, hts, hlk, hnm, hK, hN, hA, hfr, hlo, hRc, hRs, hX⟩ := id Cx
  obtain ⟨hP, hD, hS, hl, hg, hn, hz⟩ := id hr
  obtain ⟨hd, e9⟩ := m_dec hi
  exact lv_tableOut hx hb hd hq (m_jmp hi rfl) (kk l D cid b p e R s m args below meth c A Q n0 ad0 Cx hF ad H locs ls hr)
theorem AX.tsIn {dflt lo hi' off : Int} {offs : Array Int} {len : Nat} {x : Int32} (tgt : Nat) (hi : m_i k pc = some (.tableswitch dflt lo hi' offs, len, nx, a1, a2)) (h1 : ¬ x.toInt < lo) (h2 : ¬ hi' < x.toInt) (ho : offs[(x.toInt - lo).toNat]? = some off) (ht : (pc : Int) + off = (tgt : Int)) (kk : AX d k C S X tgt lv st h n1 n2 F) : AX d k C S X pc lv (.int x :: st) h n1 n2 F := by
  intro l D cid b p e R s m args below meth c A Q n0 ad0 Cx hF ad H locs ls hr
  obtain ⟨hx, hb, hrt, hml, hown, hts, hlk, hnm, hK, hN, hA, hfr, hlo, hRc, hRs, hX⟩ := id Cx
  obtain ⟨hP, hD, hS, hl, hg, hn, hz⟩ := id hr
  obtain ⟨hd, e9⟩ := m_dec hi
  exact lv_tableIn hx hb hd h1 h2 ho ht (kk l D cid b p e R s m args below meth c A Q n0 ad0 Cx hF ad H locs ls hr)
theorem AX.ls {dflt off : Int} {ps : Array (Int × Int)} {len : Nat} {x : Int32} (tgt : Nat) (hi : m_i k pc = some (.lookupswitch dflt ps, len, nx, a1, a2)) (hp : (ps.toList.zip (ps.toList.drop 1)).all (fun (a, next) => a.1 < next.1) = true) (ho : Op.lookupswitch.offset ps.toList dflt x.toInt = off) (ht : (pc : Int) + off = (tgt : Int)) (kk : AX d k C S X tgt lv st h n1 n2 F) : AX d k C S X pc lv (.int x :: st) h n1 n2 F := by
  intro l D cid b p e R s m args below meth c A Q n0 ad0 Cx hF ad H locs ls hr
  obtain ⟨hx, hb, hrt, hml, hown, hts, hlk, hnm, hK, hN, hA, hfr, hlo, hRc, hRs, hX⟩ := id Cx
  obtain ⟨hP, hD, hS, hl, hg, hn, hz⟩ := id hr
  obtain ⟨hd, e9⟩ := m_dec hi
  exact lv_lookup hx hb hd hp ho ht (kk l D cid b p e R s m args below meth c A Q n0 ad0 Cx hF ad H locs ls hr)
theorem AX.getf {idx i sl ci : Nat} {fs : List Value} {v : Value} (hi : m_i k pc = some (.getfield idx, 3, nx, ci, sl)) (hh : h[i]? = some (.inr (ci, fs))) (hv : fs[sl]? = some v) (kk : AX d k C S X nx lv (v :: st) h n1 n2 F) : AX d k C S X pc lv (.ref i :: st) h n1 n2 F := by
  intro l D cid b p e R s m args below meth c A Q n0 ad0 Cx hF ad H locs ls hr
  obtain ⟨hx, hb, hrt, hml, hown, hts, hlk, hnm, hK, hN, hA, hfr, hlo, hRc, hRs, hX⟩ := id Cx
  obtain ⟨hP, hD, hS, hl, hg, hn, hz⟩ := id hr
  obtain ⟨hd, e9⟩ := m_dec hi
  subst e9
  obtain ⟨Cn, T, N, hc, hsl, hlk1⟩ := m_fld hi (Or.inl rfl)
  exact va_get hx hb hts (m_cls hc).1 hown hK hP i (ax_w_at hh) hc sl hsl (hts _ hlk1) (fun _ q => q) (v := ax_v b ad v) (by rw [List.getElem?_map, hv]; rfl) hd (kk l D cid b p e R s m args below meth c A Q n0 ad0 Cx hF ad H locs ls hr)
theorem AX.putf {idx i sl ci : Nat} {fs : List Value} {v : Value} (hi : m_i k pc = some (.putfield idx, 3, nx, ci, sl)) (hh : h[i]? = some (.inr (ci, fs))) (hl0 : sl < fs.length) (hv : ax_fits (mTf ci sl) v = true) (kk : AX d k C S X nx lv st (h.set i (.inr (ci, fs.set sl v))) n1 n2 F) : AX d k C S X pc lv (v :: .ref i :: st) h n1 n2 F := by
  intro l D cid b p e R s m args below meth c A Q n0 ad0 Cx hF ad H locs ls hr
  obtain ⟨hx, hb, hrt, hml, hown, hts, hlk, hnm, hK, hN, hA, hfr, hlo, hRc, hRs, hX⟩ := id Cx
  obtain ⟨hP, hD, hS, hl, hg, hn, hz⟩ := id hr
  obtain ⟨hd, e9⟩ := m_dec hi
  subst e9
  obtain ⟨Cn, T, N, hc, hsl, hlk1⟩ := m_fld hi (Or.inr rfl)
  obtain ⟨q1, q2, q3⟩ := m_cls hc
  obtain ⟨f1, f2⟩ := ax_fits_ok b ad hv
  have hw : (ax_w cid b ad h).set i (ad i, .inr (ci, (fs.map (ax_v b ad)).set sl (ax_v b ad v))) = ax_w cid b ad (h.set i (.inr (ci, fs.set sl v))) := by
    rw [← ax_w_set]
    simp only [ax_e, List.map_set]
  have go : ∀ (H1 : Heap) (locs1 : List Loc), va_P D mCl ((ax_w cid b ad h).set i (ad i, .inr (ci, (fs.map (ax_v b ad)).set sl (ax_v b ad v)))) H1 → va_D A ((ax_w cid b ad h).set i (ad i, .inr (ci, (fs.map (ax_v b ad)).set sl (ax_v b ad v)))) → va_S A s.heap H1 locs1 → W p l e R s m args below meth c H1 locs1 n1 n2 Q (F0 m (pc + 3) ls (st.map (ax_v b ad))) := by
    intro H1 locs1 g1 g2 g3
    rw [hw] at g1 g2
    exact kk l D cid b p e R s m args below meth c A Q n0 ad0 Cx hF ad H1 locs1 ls ⟨g1, g2, g3, hl, hg, by rw [List.length_set]; exact hn, hz⟩
  rcases m_fin hi hc with hf | ⟨hf, hi2, hi3⟩
  · exact va_put hx hb hts q1 (mTf ci) q2 q3 hown hK hP hD hS i (ax_w_at hh) hc sl hsl (hts _ hlk1) (fun _ q => q) hf (q2 sl hsl) f1 f2 (by rw [List.length_map]; exact hl0) hd go
  · exact va_putF hx hb hts q1 (mTf ci) q2 q3 hown hK hP hD hS i (ax_w_at hh) hc sl hsl (hts _ hlk1) (fun _ q => q) hf (hnm hi2) hi3 (q2 sl hsl) f1 f2 (by rw [List.length_map]; exact hl0) hd go
theorem AX.iald {i n : Nat} {f : Nat → Int32} {j : Int32} (hi : m_i k pc = some (.iaload, 1, nx, a1, a2)) (hh : h[i]? = some (.inl (0, n, .inl f))) (hin : vp_in j n) (kk : AX d k C S X nx lv (.int (f j.toNatClampNeg) :: st) h n1 n2 F) : AX d k C S X pc lv (.int j :: .ref i :: st) h n1 n2 F := by
  intro l D cid b p e R s m args below meth c A Q n0 ad0 Cx hF ad H locs ls hr
  obtain ⟨hx, hb, hrt, hml, hown, hts, hlk, hnm, hK, hN, hA, hfr, hlo, hRc, hRs, hX⟩ := id Cx
  obtain ⟨hP, hD, hS, hl, hg, hn, hz⟩ := id hr
  obtain ⟨hd, e9⟩ := m_dec hi
  subst e9
  exact va_iald hx hb hK hP i 0 (ax_w_at hh) rfl hin hd (kk l D cid b p e R s m args below meth c A Q n0 ad0 Cx hF ad H locs ls hr)
theorem AX.lald {i n : Nat} {f : Nat → Int64} {j : Int32} (hi : m_i k pc = some (.laload, 1, nx, a1, a2)) (hh : h[i]? = some (.inl (1, n, .inr (.inl f)))) (hin : vp_in j n) (kk : AX d k C S X nx lv (.long (f j.toNatClampNeg) :: st) h n1 n2 F) : AX d k C S X pc lv (.int j :: .ref i :: st) h n1 n2 F := by
  intro l D cid b p e R s m args below meth c A Q n0 ad0 Cx hF ad H locs ls hr
  obtain ⟨hx, hb, hrt, hml, hown, hts, hlk, hnm, hK, hN, hA, hfr, hlo, hRc, hRs, hX⟩ := id Cx
  obtain ⟨hP, hD, hS, hl, hg, hn, hz⟩ := id hr
  obtain ⟨hd, e9⟩ := m_dec hi
  subst e9
  exact va_lald hx hb hK hP i 1 (ax_w_at hh) rfl hin hd (kk l D cid b p e R s m args below meth c A Q n0 ad0 Cx hF ad H locs ls hr)
theorem AX.zald {i n : Nat} {f : Nat → Int32} {j : Int32} (hi : m_i k pc = some (.baload, 1, nx, a1, a2)) (hh : h[i]? = some (.inl (2, n, .inl f))) (hin : vp_in j n) (kk : AX d k C S X nx lv (.int (f j.toNatClampNeg) :: st) h n1 n2 F) : AX d k C S X pc lv (.int j :: .ref i :: st) h n1 n2 F := by
  intro l D cid b p e R s m args below meth c A Q n0 ad0 Cx hF ad H locs ls hr
  obtain ⟨hx, hb, hrt, hml, hown, hts, hlk, hnm, hK, hN, hA, hfr, hlo, hRc, hRs, hX⟩ := id Cx
  obtain ⟨hP, hD, hS, hl, hg, hn, hz⟩ := id hr
  obtain ⟨hd, e9⟩ := m_dec hi
  subst e9
  exact va_zald hx hb hK hP i 2 (ax_w_at hh) rfl hin hd (kk l D cid b p e R s m args below meth c A Q n0 ad0 Cx hF ad H locs ls hr)
theorem AX.iast {i n : Nat} {f : Nat → Int32} {j : Int32} {x : Int32} (hi : m_i k pc = some (.iastore, 1, nx, a1, a2)) (hh : h[i]? = some (.inl (0, n, .inl (f)))) (hin : vp_in j n) (kk : AX d k C S X nx lv st (h.set i (.inl (0, n, .inl (upd f j.toNatClampNeg x)))) n1 n2 F) : AX d k C S X pc lv (.int x :: .int j :: .ref i :: st) h n1 n2 F := by
  intro l D cid b p e R s m args below meth c A Q n0 ad0 Cx hF ad H locs ls hr
  obtain ⟨hx, hb, hrt, hml, hown, hts, hlk, hnm, hK, hN, hA, hfr, hlo, hRc, hRs, hX⟩ := id Cx
  obtain ⟨hP, hD, hS, hl, hg, hn, hz⟩ := id hr
  obtain ⟨hd, e9⟩ := m_dec hi
  subst e9
  have hw : (ax_w cid b ad h).set i (ad i, .inl (cid 0, n, .inl (upd f j.toNatClampNeg x))) = ax_w cid b ad (h.set i (.inl (0, n, .inl (upd f j.toNatClampNeg x)))) := by
    rw [← ax_w_set]
    rfl
  refine va_iast hx hb hK hP hD hS i 0 (ax_w_at hh) rfl hin hd (fun H1 locs1 g1 g2 g3 => ?_)
  rw [hw] at g1 g2
  exact kk l D cid b p e R s m args below meth c A Q n0 ad0 Cx hF ad H1 locs1 ls ⟨g1, g2, g3, hl, hg, by rw [List.length_set]; exact hn, hz⟩
theorem AX.last {i n : Nat} {f : Nat → Int64} {j : Int32} {x : Int64} (hi : m_i k pc = some (.lastore, 1, nx, a1, a2)) (hh : h[i]? = some (.inl (1, n, .inr (.inl (f))))) (hin : vp_in j n) (kk : AX d k C S X nx lv st (h.set i (.inl (1, n, .inr (.inl (vp_updL f j.toNatClampNeg x))))) n1 n2 F) : AX d k C S X pc lv (.long x :: .int j :: .ref i :: st) h n1 n2 F := by
  intro l D cid b p e R s m args below meth c A Q n0 ad0 Cx hF ad H locs ls hr
  obtain ⟨hx, hb, hrt, hml, hown, hts, hlk, hnm, hK, hN, hA, hfr, hlo, hRc, hRs, hX⟩ := id Cx
  obtain ⟨hP, hD, hS, hl, hg, hn, hz⟩ := id hr
  obtain ⟨hd, e9⟩ := m_dec hi
  subst e9
  have hw : (ax_w cid b ad h).set i (ad i, .inl (cid 1, n, .inr (.inl (vp_updL f j.toNatClampNeg x)))) = ax_w cid b ad (h.set i (.inl (1, n, .inr (.inl (vp_updL f j.toNatClampNeg x))))) := by
    rw [← ax_w_set]
    rfl
  refine va_last hx hb hK hP hD hS i 1 (ax_w_at hh) rfl hin hd (fun H1 locs1 g1 g2 g3 => ?_)
  rw [hw] at g1 g2
  exact kk l D cid b p e R s m args below meth c A Q n0 ad0 Cx hF ad H1 locs1 ls ⟨g1, g2, g3, hl, hg, by rw [List.length_set]; exact hn, hz⟩
theorem AX.zast {i n : Nat} {f : Nat → Int32} {j : Int32} {x : Int32} (hi : m_i k pc = some (.bastore, 1, nx, a1, a2)) (hh : h[i]? = some (.inl (2, n, .inl (f)))) (hin : vp_in j n) (kk : AX d k C S X nx lv st (h.set i (.inl (2, n, .inl (upd f j.toNatClampNeg (vp_nar .boolean x))))) n1 n2 F) : AX d k C S X pc lv (.int x :: .int j :: .ref i :: st) h n1 n2 F := by
  intro l D cid b p e R s m args below meth c A Q n0 ad0 Cx hF ad H locs ls hr
  obtain ⟨hx, hb, hrt, hml, hown, hts, hlk, hnm, hK, hN, hA, hfr, hlo, hRc, hRs, hX⟩ := id Cx
  obtain ⟨hP, hD, hS, hl, hg, hn, hz⟩ := id hr
  obtain ⟨hd, e9⟩ := m_dec hi
  subst e9
  have hw : (ax_w cid b ad h).set i (ad i, .inl (cid 2, n, .inl (upd f j.toNatClampNeg (vp_nar .boolean x)))) = ax_w cid b ad (h.set i (.inl (2, n, .inl (upd f j.toNatClampNeg (vp_nar .boolean x))))) := by
    rw [← ax_w_set]
    rfl
  refine va_zast hx hb hK hP hD hS i 2 (ax_w_at hh) rfl hin hd (fun H1 locs1 g1 g2 g3 => ?_)
  rw [hw] at g1 g2
  exact kk l D cid b p e R s m args below meth c A Q n0 ad0 Cx hF ad H1 locs1 ls ⟨g1, g2, g3, hl, hg, by rw [List.length_set]; exact hn, hz⟩
theorem AX.alen {i t : Nat} {x : vp_A} (hi : m_i k pc = some (.arraylength, 1, nx, a1, a2)) (hh : h[i]? = some (.inl (t, x))) (ht : t < 3) (kk : AX d k C S X nx lv (.int (Int32.ofNat x.1) :: st) h n1 n2 F) : AX d k C S X pc lv (.ref i :: st) h n1 n2 F := by
  intro l D cid b p e R s m args below meth c A Q n0 ad0 Cx hF ad H locs ls hr
  obtain ⟨hx, hb, hrt, hml, hown, hts, hlk, hnm, hK, hN, hA, hfr, hlo, hRc, hRs, hX⟩ := id Cx
  obtain ⟨hP, hD, hS, hl, hg, hn, hz⟩ := id hr
  obtain ⟨hd, e9⟩ := m_dec hi
  subst e9
  obtain ⟨ty, hty⟩ : ∃ ty, (mTy cid)[t]? = some (cid t, ty) := by
    rcases (show t = 0 ∨ t = 1 ∨ t = 2 by omega) with rfl | rfl | rfl <;> exact ⟨_, rfl⟩
  exact va_alen hx hb hK hP i t (ax_w_at hh) hty rfl hd (kk l D cid b p e R s m args below meth c A Q n0 ad0 Cx hF ad H locs ls hr)
theorem AX.sld {L y : Nat} {xs : Nat → Int32} {j : Int32} (hi : m_i k pc = some (.iaload, 1, nx, a1, a2)) (hin : vp_in j L) (kk : AX d k C S (some (L, xs)) nx lv (.int (xs j.toNatClampNeg) :: st) h n1 n2 F) : AX d k C S (some (L, xs)) pc lv (.int j :: .retAddr y :: st) h n1 n2 F := by
  intro l D cid b p e R s m args below meth c A Q n0 ad0 Cx hF ad H locs ls hr
  obtain ⟨hx, hb, hrt, hml, hown, hts, hlk, hnm, hK, hN, hA, hfr, hlo, hRc, hRs, hX⟩ := id Cx
  obtain ⟨hP, hD, hS, hl, hg, hn, hz⟩ := id hr
  obtain ⟨hd, e9⟩ := m_dec hi
  subst e9
  obtain ⟨x1, x2, x3⟩ := hX L xs rfl
  exact va_sld hx hb x1 x2 x3 hS hin hd (kk l D cid b p e R s m args below meth c A Q n0 ad0 Cx hF ad H locs ls hr)
theorem AX.slen {L y : Nat} {xs : Nat → Int32} (hi : m_i k pc = some (.arraylength, 1, nx, a1, a2)) (kk : AX d k C S (some (L, xs)) nx lv (.int (Int32.ofNat L) :: st) h n1 n2 F) : AX d k C S (some (L, xs)) pc lv (.retAddr y :: st) h n1 n2 F := by
  intro l D cid b p e R s m args below meth c A Q n0 ad0 Cx hF ad H locs ls hr
  obtain ⟨hx, hb, hrt, hml, hown, hts, hlk, hnm, hK, hN, hA, hfr, hlo, hRc, hRs, hX⟩ := id Cx
  obtain ⟨hP, hD, hS, hl, hg, hn, hz⟩ := id hr
  obtain ⟨hd, e9⟩ := m_dec hi
  subst e9
  obtain ⟨x1, x2, x3⟩ := hX L xs rfl
  exact va_slen hx hb x1 x2 x3 hS hd (kk l D cid b p e R s m args below meth c A Q n0 ad0 Cx hF ad H locs ls hr)
theorem AX.new {idx ci : Nat} (hi : m_i k pc = some (.new idx, 3, nx, ci, a2)) (hc1 : h.all (ax_okE h.length) = true) (hc2 : ax_okF h.length lv st = true) (hC : n1 + 1 ≤ C) (hS2 : n2 + a2 ≤ S) (kk : AX d k C S X nx lv (.ref h.length :: st) (h ++ [.inr (ci, mDf ci)]) (n1 + 1) (n2 + a2) F) : AX d k C S X pc lv st h n1 n2 F := by
  intro l D cid b p e R s m args below meth c A Q n0 ad0 Cx hF ad H locs ls hr
  obtain ⟨hx, hb, hrt, hml, hown, hts, hlk, hnm, hK, hN, hA, hfr, hlo, hRc, hRs, hX⟩ := id Cx
  obtain ⟨hP, hD, hS, hl, hg, hn, hz⟩ := id hr
  obtain ⟨hd, e9⟩ := m_dec hi
  subst e9
  obtain ⟨Cn, T, N, hc, eN, w1, w2, w3⟩ := m_new hi
  subst eN
  obtain ⟨q1, q2, q3⟩ := m_cls hc
  refine va_new hx hb hts q1 (mTf ci) q2 hown (hts _ w1) (hts _ w2) (hts _ w3) hK hP hD hS hA hc (fs := mDf ci) (m_df hc) (by rw [hRc]; exact hC) (by rw [hRs]; exact hS2) hd (fun q H1 g1 g2 g3 => ?_)
  simp only [ax_okF, Bool.and_eq_true] at hc2
  have he : ax_e cid b (ax_new ad h.length q) (.inr (ci, mDf ci)) = .inr (ci, mDf ci) := by
    simp only [ax_e, m_dfm hc]
  rw [ax_w_push hc1 he] at g1 g2
  have hst : st.map (ax_v b ad) = st.map (ax_v b (ax_new ad h.length q)) := (ax_s_ext hc2.2 ax_new_lt).symm
  have e1 : ax_new ad h.length q h.length = q := by simp [ax_new]
  have hk := kk l D cid b p e R s m args below meth c A Q n0 ad0 Cx hF (ax_new ad h.length q) H1 locs ls ⟨g1, g2, g3, by rw [ax_l_ext hc2.1 ax_new_lt]; exact hl, fun i hi' => (ax_new_lt i (by omega)).trans (hg i hi'), by rw [List.length_append]; omega, fun z => by omega⟩
  rw [List.map_cons] at hk
  simp only [ax_v, e1] at hk
  rw [hst]
  exact hk
theorem AX.newI {n : Int32} (N : Nat) (hi : m_i k pc = some (.newarray .int, 2, nx, a1, a2)) (hn0 : ¬ n < 0) (hN0 : n.toNatClampNeg = N) (hb0 : N * 4 ≤ 536870912) (hc1 : h.all (ax_okE h.length) = true) (hc2 : ax_okF h.length lv st = true) (hC : n1 + 1 ≤ C) (hS2 : n2 + N ≤ S) (kk : AX d k C S X nx lv (.ref h.length :: st) (h ++ [.inl (0, N, .inl (fun _ => 0))]) (n1 + 1) (n2 + N) F) : AX d k C S X pc lv (.int n :: st) h n1 n2 F := by
  intro l D cid b p e R s m args below meth c A Q n0 ad0 Cx hF ad H locs ls hr
  obtain ⟨hx, hb, hrt, hml, hown, hts, hlk, hnm, hK, hN, hA, hfr, hlo, hRc, hRs, hX⟩ := id Cx
  obtain ⟨hP, hD, hS, hl, hg, hn, hz⟩ := id hr
  obtain ⟨hd, e9⟩ := m_dec hi
  subst e9
  refine va_newa hx hb (hts _ (m_arr hi)) (ty := .int) rfl hK hP hD hS hA (a0 := (N, .inl (fun _ => 0))) (fun _ => rfl) hn0 hN0 hb0 (by rw [hRc]; exact hC) (by rw [hRs]; exact hS2) hd (fun q cA H1 g0 g1 g2 g3 => ?_)
  have ec : cA = cid 0 := by
    have z1 := (g0.2 3 (cA, .int) rfl).2
    have z2 := (hK.2 0 (cid 0, .int) rfl).2
    exact Option.some.inj (z1.symm.trans z2)
  subst ec
  simp only [ax_okF, Bool.and_eq_true] at hc2
  rw [ax_w_push hc1 (e := .inl (0, N, .inl (fun _ => 0))) (e' := .inl (cid 0, N, .inl (fun _ => 0))) rfl] at g1 g2
  have hst : st.map (ax_v b ad) = st.map (ax_v b (ax_new ad h.length q)) := (ax_s_ext hc2.2 ax_new_lt).symm
  have e1 : ax_new ad h.length q h.length = q := by simp [ax_new]
  have hk := kk l D cid b p e R s m args below meth c A Q n0 ad0 Cx hF (ax_new ad h.length q) H1 locs ls ⟨g1, g2, g3, by rw [ax_l_ext hc2.1 ax_new_lt]; exact hl, fun i hi' => (ax_new_lt i (by omega)).trans (hg i hi'), by rw [List.length_append]; omega, fun z => by omega⟩
  rw [List.map_cons] at hk
  simp only [ax_v, e1] at hk
  rw [hst]
  exact hk
theorem AX.newJ {n : Int32} (N : Nat) (hi : m_i k pc = some (.newarray .long, 2, nx, a1, a2)) (hn0 : ¬ n < 0) (hN0 : n.toNatClampNeg = N) (hb0 : N * 8 ≤ 536870912) (hc1 : h.all (ax_okE h.length) = true) (hc2 : ax_okF h.length lv st = true) (hC : n1 + 1 ≤ C) (hS2 : n2 + N ≤ S) (kk : AX d k C S X nx lv (.ref h.length :: st) (h ++ [.inl (1, N, .inr (.inl (fun _ => 0)))]) (n1 + 1) (n2 + N) F) : AX d k C S X pc lv (.int n :: st) h n1 n2 F := by
  intro l D cid b p e R s m args below meth c A Q n0 ad0 Cx hF ad H locs ls hr
  obtain ⟨hx, hb, hrt, hml, hown, hts, hlk, hnm, hK, hN, hA, hfr, hlo, hRc, hRs, hX⟩ := id Cx
  obtain ⟨hP, hD, hS, hl, hg, hn, hz⟩ := id hr
  obtain ⟨hd, e9⟩ := m_dec hi
  subst e9
  refine va_newa hx hb (hts _ (m_arr hi)) (ty := .long) rfl hK hP hD hS hA (a0 := (N, .inr (.inl (fun _ => 0)))) (fun _ => rfl) hn0 hN0 hb0 (by rw [hRc]; exact hC) (by rw [hRs]; exact hS2) hd (fun q cA H1 g0 g1 g2 g3 => ?_)
  have ec : cA = cid 1 := by
    have z1 := (g0.2 3 (cA, .long) rfl).2
    have z2 := (hK.2 1 (cid 1, .long) rfl).2
    exact Option.some.inj (z1.symm.trans z2)
  subst ec
  simp only [ax_okF, Bool.and_eq_true] at hc2
  rw [ax_w_push hc1 (e := .inl (1, N, .inr (.inl (fun _ => 0)))) (e' := .inl (cid 1, N, .inr (.inl (fun _ => 0)))) rfl] at g1 g2
  have hst : st.map (ax_v b ad) = st.map (ax_v b (ax_new ad h.length q)) := (ax_s_ext hc2.2 ax_new_lt).symm
  have e1 : ax_new ad h.length q h.length = q := by simp [ax_new]
  have hk := kk l D cid b p e R s m args below meth c A Q n0 ad0 Cx hF (ax_new ad h.length q) H1 locs ls ⟨g1, g2, g3, by rw [ax_l_ext hc2.1 ax_new_lt]; exact hl, fun i hi' => (ax_new_lt i (by omega)).trans (hg i hi'), by rw [List.length_append]; omega, fun z => by omega⟩
  rw [List.map_cons] at hk
  simp only [ax_v, e1] at hk
  rw [hst]
  exact hk
theorem AX.newZ {n : Int32} (N : Nat) (hi : m_i k pc = some (.newarray .boolean, 2, nx, a1, a2)) (hn0 : ¬ n < 0) (hN0 : n.toNatClampNeg = N) (hb0 : N * 1 ≤ 536870912) (hc1 : h.all (ax_okE h.length) = true) (hc2 : ax_okF h.length lv st = true) (hC : n1 + 1 ≤ C) (hS2 : n2 + N ≤ S) (kk : AX d k C S X nx lv (.ref h.length :: st) (h ++ [.inl (2, N, .inl (fun _ => 0))]) (n1 + 1) (n2 + N) F) : AX d k C S X pc lv (.int n :: st) h n1 n2 F := by
  intro l D cid b p e R s m args below meth c A Q n0 ad0 Cx hF ad H locs ls hr
  obtain ⟨hx, hb, hrt, hml, hown, hts, hlk, hnm, hK, hN, hA, hfr, hlo, hRc, hRs, hX⟩ := id Cx
  obtain ⟨hP, hD, hS, hl, hg, hn, hz⟩ := id hr
  obtain ⟨hd, e9⟩ := m_dec hi
  subst e9
  refine va_newa hx hb (hts _ (m_arr hi)) (ty := .boolean) rfl hK hP hD hS hA (a0 := (N, .inl (fun _ => 0))) (fun _ => rfl) hn0 hN0 hb0 (by rw [hRc]; exact hC) (by rw [hRs]; exact hS2) hd (fun q cA H1 g0 g1 g2 g3 => ?_)
  have ec : cA = cid 2 := by
    have z1 := (g0.2 3 (cA, .boolean) rfl).2
    have z2 := (hK.2 2 (cid 2, .boolean) rfl).2
    exact Option.some.inj (z1.symm.trans z2)
  subst ec
  simp only [ax_okF, Bool.and_eq_true] at hc2
  rw [ax_w_push hc1 (e := .inl (2, N, .inl (fun _ => 0))) (e' := .inl (cid 2, N, .inl (fun _ => 0))) rfl] at g1 g2
  have hst : st.map (ax_v b ad) = st.map (ax_v b (ax_new ad h.length q)) := (ax_s_ext hc2.2 ax_new_lt).symm
  have e1 : ax_new ad h.length q h.length = q := by simp [ax_new]
  have hk := kk l D cid b p e R s m args below meth c A Q n0 ad0 Cx hF (ax_new ad h.length q) H1 locs ls ⟨g1, g2, g3, by rw [ax_l_ext hc2.1 ax_new_lt]; exact hl, fun i hi' => (ax_new_lt i (by omega)).trans (hg i hi'), by rw [List.length_append]; omega, fun z => by omega⟩
  rw [List.map_cons] at hk
  simp only [ax_v, e1] at hk
  rw [hst]
  exact hk
end AXR
