/-! CALLS AND ENDS of the small machine -/
def ax_rok : Option FieldType → Option Value → Prop
  | none, none => True
  | some .int, some (.int _) => True
  | some .boolean, some (.int x) => x = 0 ∨ x = 1
  | some .long, some (.long _) => True
  | _, _ => False
def ax_ri : Option FieldType → Instr
  | none => .return_
  | some .long => .lreturn
  | _ => .ireturn
def ax_ret (k C S : Nat) (P : Option Value → ax_H → Prop) : ax_F := fun pc _ st h n1 n2 => n1 ≤ C ∧ n2 ≤ S ∧ ∃ r : Option Value, st = r.toList ∧ ax_rok (m_r k) r ∧ P r h ∧ ∃ nx a1 a2, m_i k pc = some (ax_ri (m_r k), 1, nx, a1, a2)
def AM (d k C S : Nat) (X : Option (Nat × (Nat → Int32))) (as : List Value) (h : ax_H) (P : Option Value → ax_H → Prop) : Prop := AX d k C S X 0 (lv_args 0 as) [] h 0 0 (ax_ret k C S P)
def ax_B (D : va_G) (cid : Nat → ClassId) (b : Nat) (ad : Nat → Nat) (h : ax_H) (sz : Nat) (X : Option (Nat × (Nat → Int32))) : State → Prop := fun U => U.heap.size = sz ∧ va_P D mCl (ax_w cid b ad h) U.heap ∧ va_K D mCl (mTy cid) U ∧ va_D (fun _ => True) (ax_w cid b ad h) ∧ (∀ w ∈ mNw, va_Nw w U) ∧ ∀ L xs, X = some (L, xs) → va_X b L xs U U.heap ∧ b < sz ∧ ¬ va_A (ax_w cid b ad h) sz b
def ax_Q (D : va_G) (cid : Nat → ClassId) (b : Nat) (ad : Nat → Nat) (h : ax_H) (C : Nat) (P : Option Value → ax_H → Prop) (A : Nat → Prop) : Array Value → State → Outcome → State → Prop := fun _ st oc t =>
  (∃ (r : Option Value) (h' : ax_H) (ad' : Nat → Nat), oc = .returned (r.map (ax_v b ad')) ∧ P r h' ∧ va_P D mCl (ax_w cid b ad' h') t.heap ∧ va_D A (ax_w cid b ad' h') ∧ (∀ i, i < h.length → ad' i = ad i) ∧ h.length ≤ h'.length ∧ (C = 0 → ad' = ad)) ∧ va_F A st t
theorem ax_sl_len (b : Nat) (ad : Nat → Nat) : ∀ as : List Value, (lg_sl (as.map (ax_v b ad))).length = (lg_sl as).length := by
  intro as
  induction as with
  | nil => rfl
  | cons v as ih =>
    simp only [lg_sl, List.map_cons, List.flatMap_cons, List.length_append] at ih ⊢
    rw [ih, ax_v_cat]
    by_cases hc : v.category = 2
    · simp [hc]
    · simp [hc]
theorem ax_l_args (b : Nat) (ad : Nat → Nat) : ∀ (as : List Value) (i : Nat), lv_args i (as.map (ax_v b ad)) = ax_l b ad (lv_args i as) := by
  intro as
  induction as with
  | nil => intro i; rfl
  | cons v as ih =>
    intro i
    simp only [List.map_cons, lv_args, ax_v_cat]
    rw [ih]
    rfl
set_option maxHeartbeats 4000000 in
theorem AM.met {d k C S : Nat} {X : Option (Nat × (Nat → Int32))} {as : List Value} {h : ax_H} {P : Option Value → ax_H → Prop} (hA : AM d k C S X as h P) (hpl : plainName (m_y k).cls = true) (hlen : (lg_sl as).length ≤ m_l k) (l : Launch) (D : va_G) (cid : Nat → ClassId) (b : Nat) (ad : Nat → Nat) (sz : Nat) :
    Met l (m_y k) (m_w k) { frames := d, cells := C, slots := S, locals := 33 * d } (va_Pc (as.map (ax_v b ad)) (ax_B D cid b ad h sz X)) (ax_Q D cid b ad h C P (va_A (ax_w cid b ad h) sz)) C S (va_A (ax_w cid b ad h) sz) := by
  refine Met.ofW (cc := m_b k) (maxL := m_l k) (ret := m_r k) hpl rfl ?_
  intro p e s m args below meth c s₁ B hml hv
  obtain ⟨rfl, hsz, hP, hK, hD0, hN, hX⟩ := hv
  subst hsz
  have hts := atoms_spec (ws := m_w k) B.pre
  have Cx : ax_cx d k C S X D cid b p (headSpec (m_w k) { frames := d, cells := C, slots := S, locals := 33 * d }).room s m (as.map (ax_v b ad)).toArray meth c (va_A (ax_w cid b ad h) s.heap.size) :=
    ⟨B.exec, B.bytes, B.returns, hml, findClass_of_methodNamed B.named, fun w hw => hts w (List.mem_cons_of_mem _ hw), B.notSynchronized, fun hi => (name_of_methodNamed B.named B.method).1.trans hi, hK, hN, fun q hq => Or.inr hq, Nat.le_refl _, Nat.le_refl _, rfl, rfl, hX⟩
  rw [lg_entry_eq]
  have hl := lv_entry (as.map (ax_v b ad)) (n := m_l k) (by rw [ax_sl_len]; exact hlen)
  rw [ax_l_args] at hl
  refine hA l D cid b p e _ s m _ below meth c _ _ h.length ad Cx ?_ ad s.heap [] _ ⟨hP, hD0.self, va_S.rf, hl, fun _ _ => rfl, Nat.le_refl _, fun _ => rfl⟩
  intro pc' lv' st' h' n1' n2' hR ad' H' locs' ls' hr'
  obtain ⟨c1, c2, r, e1, hok, hPr, nx, a1, a2, hi⟩ := hR
  obtain ⟨gP, gD, gS, gl, gg, gn, gz⟩ := hr'
  subst e1
  obtain ⟨hd, -⟩ := m_dec hi
  refine W.widen c1 c2 ?_
  have hq : ∀ t : State, t.heap = H' → s.WarmedH t.vm → ax_Q D cid b ad h C P (va_A (ax_w cid b ad h) s.heap.size) (as.map (ax_v b ad)).toArray s (.returned (r.map (ax_v b ad'))) t := fun t ht _ =>
    ⟨⟨r, h', ad', rfl, hPr, by rw [ht]; exact gP, gD, gg, gn, fun z => gz (by omega)⟩, gS.F ht⟩
  have hret := B.returns
  cases hr : m_r k with
  | none =>
    rw [hr] at hok hd hret
    cases r with
    | some v => exact hok.elim
    | none => exact W.vret B.exec B.bytes hret hq gS.2.2 hd B.notSynchronized
  | some ty =>
    rw [hr] at hok hd hret
    cases r with
    | none => cases ty <;> exact hok.elim
    | some v =>
      cases ty with
      | int =>
        cases v with
        | int v => exact W.iret B.exec B.bytes hret hq gS.2.2 hd B.notSynchronized
        | _ => exact hok.elim
      | boolean =>
        cases v with
        | int v =>
          refine W.zret (ty := .boolean) B.exec B.bytes hret ?_ hq gS.2.2 hd B.notSynchronized
          rcases hok with rfl | rfl <;> rfl
        | _ => exact hok.elim
      | long =>
        cases v with
        | long v => exact W.lret B.exec B.bytes hret hq gS.2.2 hd B.notSynchronized
        | _ => exact hok.elim
      | _ => cases v <;> exact hok.elim
theorem ax_go {p : Program} {l : Launch} {e : Env} {R : Room} {s : State} {m : MethodId} {args : Array Value} {below : List Frame} {meth : Method} {c : Code} {H : Heap} {locs : List Loc} {cells slots : Nat} {Q : State → Prop} {pc : Nat} {ls : Array Slot} {st0 rest : List Value} {a : Array Value} {D : va_G} {cid : Nat → ClassId} {b : Nat} {ad : Nat → Nat} {h : ax_H} {C1 S1 : Nat} {P : Option Value → ax_H → Prop} {A : Nat → Prop}
    (hr : va_Run p l e R s m args below meth c H locs cells slots C1 S1 (F0 m pc ls st0) rest (ax_Q D cid b ad h C1 P (va_A (ax_w cid b ad h) H.size) a) (va_A (ax_w cid b ad h) H.size)) (hS : va_S A s.heap H locs) (hF : ∀ q, va_A (ax_w cid b ad h) H.size q → A q)
    (kk : ∀ (r : Option Value) (h' : ax_H) (ad' : Nat → Nat) (H1 : Heap) (locs1 : List Loc), P r h' → va_P D mCl (ax_w cid b ad' h') H1 → va_D A (ax_w cid b ad' h') → va_S A s.heap H1 locs1 → (∀ i, i < h.length → ad' i = ad i) → h.length ≤ h'.length → (C1 = 0 → ad' = ad) → W p l e R s m args below meth c H1 locs1 (cells + C1) (slots + S1) Q (F0 m (pc + 3) ls ((r.map (ax_v b ad')).toList ++ rest))) : W p l e R s m args below meth c H locs cells slots Q (F0 m pc ls st0) := by
  intro T hT X
  obtain ⟨v, st₀, t, T', L, h0, X', hL, e1, e2, ⟨⟨r, h', ad', hv, hp, hP', hD', hg', hn', hz'⟩, hz, hk⟩, st⟩ := hr T hT X
  cases hv
  rw [h0] at hz hk
  obtain ⟨t2, a1, b1⟩ := kk r h' ad' T'.heap (locs ++ L) hp (by rw [e1]; exact hP') (hD'.weaken (fun _ _ _ z => hF _ z))
    ⟨Nat.le_trans hS.1 (by rw [e1]; exact hz), fun q h1 h2 => by rw [e1, hk q (Nat.lt_of_lt_of_le h1 hS.1) (fun z => h2 (hF q z))]; exact hS.2.1 q h1 h2, fun q hq => by
      rcases List.mem_append.mp hq with h | h
      · exact hS.2.2 q h
      · exact hF _ (hL q h)⟩ hg' hn' hz' T' rfl X'
  exact ⟨t2, st t2 a1, b1⟩
def ax_pop (n : Nat) (st : List Value) : Option (Nat × List Value × List Value) := match (st.take n).reverse with
  | .ref i :: as => some (i, as, st.drop n)
  | _ => none
theorem ax_pop_ok {n i : Nat} {st as rest : List Value} (h : ax_pop n st = some (i, as, rest)) : st = as.reverse ++ .ref i :: rest := by
  unfold ax_pop at h
  split at h
  · rename_i i' as' he
    simp only [Option.some.injEq, Prod.mk.injEq] at h
    obtain ⟨rfl, rfl, rfl⟩ := h
    have h1 : st.take n = (Value.ref i' :: as').reverse := by rw [← he, List.reverse_reverse]
    have h2 := List.take_append_drop n st
    rw [h1] at h2
    exact h2.symm.trans (by rw [List.reverse_cons, List.append_assoc]; rfl)
  · cases h
theorem ax_blind {av : List Value} {D : va_G} {cid : Nat → ClassId} {b : Nat} {ad : Nat → Nat} {h : ax_H} {sz : Nat} {X : Option (Nat × (Nat → Int32))} : FrameBlind (va_Pc av (ax_B D cid b ad h sz X)) := by
  intro a U g mk q
  obtain ⟨q0, q1, qP, qK, qD, qN, qX⟩ := q
  exact ⟨q0, q1, qP, va_K.moved (u := U) (U := U.calling g mk a) (Vm.Alike.refl U.vm) qK, qD, fun w hw => va_Nw.same (u := U) (U := U.calling g mk a) (mNw_tab w hw) rfl (qN w hw), fun L xs e => ⟨va_X.moved (u := U) (U := U.calling g mk a) (Vm.Alike.refl U.vm) (qX L xs e).1, (qX L xs e).2⟩⟩
theorem ax_nw {s U : State} (hW : s.WarmedH U.vm) (hN : ∀ w ∈ mNw, va_Nw w s) : ∀ w ∈ mNw, va_Nw w U := by
  intro w hw
  have h1 := hN w hw
  obtain ⟨a, i, x, y, rfl⟩ := mNw_is w hw
  exact va_Nw.warmM hW h1
theorem ax_room (m : MethodId) (pc : Nat) (ls : Array Slot) (st0 : List Value) {st : List Value} {b : Nat} {ad : Nat → Nat} (h : (st.map fun v => v.category).sum ≤ 8) : 2 * (F0 m pc ls st0).monitorRoom + ((st.map (ax_v b ad)).map fun v => v.category).sum ≤ 8 := by
  have e : (st.map (ax_v b ad)).map (fun v => v.category) = st.map fun v => v.category := by
    rw [List.map_map]
    apply List.map_congr_left
    intro v _
    exact ax_v_cat b ad v
  rw [e]
  show 2 * 0 + _ ≤ 8
  omega
section AXC
variable {d k C S : Nat} {X : Option (Nat × (Nat → Int32))} {pc nx a1 a2 : Nat} {lv : ax_L} {st : List Value} {h : ax_H} {n1 n2 : Nat} {F : ax_F}
def ax_popS (n : Nat) (st : List Value) : List Value × List Value := ((st.take n).reverse, st.drop n)
theorem ax_popS_ok {n : Nat} {st as rest : List Value} (h : ax_popS n st = (as, rest)) : st = as.reverse ++ rest := by
  unfold ax_popS at h
  simp only [Prod.mk.injEq] at h
  obtain ⟨rfl, rfl⟩ := h
  simp
set_option maxHeartbeats 1000000 in
theorem AX.callV {idx k' na C1 S1 i : Nat} {as rest fs : List Value} {P : Option Value → ax_H → Prop} {X' : Option (Nat × (Nat → Int32))} (hi : m_i k pc = some (.invokevirtual idx, 3, nx, k', na))  (hs : ax_pop na st = some (i, as, rest)) (hna : as.length + 1 = na) (hh : h[i]? = some (.inr (m_ci k', fs))) (hL : (lg_sl (.ref i :: as)).length ≤ m_l k') (hM : AM d k' C1 S1 X' (.ref i :: as) h P) (hXX : X' = none ∨ X' = X) (hC : n1 + C1 ≤ C) (hS2 : n2 + S1 ≤ S) (hw : (rest.map fun v => v.category).sum ≤ 8) (hcl : C1 = 0 ∨ ax_okF h.length lv rest = true) (kk : ∀ r h', P r h' → AX (d + 1) k C S X nx lv (r.toList ++ rest) h' (n1 + C1) (n2 + S1) F) : AX (d + 1) k C S X pc lv st h n1 n2 F := by
  intro l D cid b p e R s m args below meth c A Q n0 ad0 Cx hF ad H locs ls hr
  obtain ⟨hx, hb, hrt, hml, hown, hts, hlk, hnm, hK, hN, hA, hfr, hlo, hRc, hRs, hX⟩ := id Cx
  obtain ⟨hP, hD, hS, hl, hg, hn, hz⟩ := id hr
  obtain ⟨hd, e9⟩ := m_dec hi
  subst e9
  subst hna
  have est := ax_pop_ok hs
  have hFc : ∀ q, va_A (ax_w cid b ad h) H.size q → A q := by
    rintro q (⟨j, e', hj⟩ | hq)
    · exact hD.2 j _ hj
    · exact hA q (Nat.le_trans hS.1 hq)
  have hB : ∀ U : State, U.heap = H → s.WarmedH U.vm → ax_B D cid b ad h H.size X' U := by
    intro U hU hW
    refine ⟨by rw [hU], by rw [hU]; exact hP, va_K.moved hW.alike hK, hD.weaken (fun _ _ _ _ => trivial), ax_nw hW hN, fun L xs e => ?_⟩
    rcases hXX with z | z
    · rw [z] at e; cases e
    · obtain ⟨x1, x2, x3⟩ := hX L xs (z ▸ e)
      refine ⟨?_, Nat.lt_of_lt_of_le x2 hS.1, fun z2 => x3 (hFc b z2)⟩
      rw [hU]
      exact va_X.moved hW.alike (x1.kept (hS.2.1 b x2 x3))
  have hk : ∀ (r : Option Value) (h' : ax_H) (ad' : Nat → Nat) (H1 : Heap) (locs1 : List Loc), P r h' → va_P D mCl (ax_w cid b ad' h') H1 → va_D A (ax_w cid b ad' h') → va_S A s.heap H1 locs1 → (∀ i, i < h.length → ad' i = ad i) → h.length ≤ h'.length → (C1 = 0 → ad' = ad) → W p l e R s m args below meth c H1 locs1 (n1 + C1) (n2 + S1) Q (F0 m (pc + 3) ls ((r.map (ax_v b ad')).toList ++ rest.map (ax_v b ad))) := by
    intro r h' ad' H1 locs1 hPr gP gD gS gg gn gz
    have ex : ax_l b ad' lv = ax_l b ad lv ∧ rest.map (ax_v b ad') = rest.map (ax_v b ad) := by
      rcases hcl with z | z
      · rw [gz z]; exact ⟨rfl, rfl⟩
      · simp only [ax_okF, Bool.and_eq_true] at z
        exact ⟨ax_l_ext z.1 gg, ax_s_ext z.2 gg⟩
    have h2 := kk r h' hPr l D cid b p e R s m args below meth c A Q n0 ad0 Cx hF ad' H1 locs1 ls ⟨gP, gD, gS, by rw [ex.1]; exact hl, fun i hi' => (gg i (by omega)).trans (hg i hi'), by omega, fun z => (gz (by omega)).trans (hz (by omega))⟩
    rw [List.map_append, ex.2] at h2
    have e1 : r.toList.map (ax_v b ad') = (r.map (ax_v b ad')).toList := by cases r <;> rfl
    rw [e1] at h2
    exact h2
  obtain ⟨hna, hG, hdd, hpl, hm2, T, N, hci⟩ := m_cV hi
  exact ax_go (va_runV (As := as.map (ax_v b ad)) (rest := rest.map (ax_v b ad)) ⟨hx, hb, hml, hown, hts⟩ (AM.met hM hpl hL l D cid b ad H.size) (cwV (m_na k') hts hG rfl rfl rfl hdd ⟨hfr, by show 8 + (m_l k' + 11) + 33 * d ≤ R.locals; omega⟩) ⟨ax_blind, va_recv hK hP hci (ax_w_at hh), fun U hU hW => ⟨rfl, hB U hU hW⟩⟩ rfl (by rw [List.length_map]; omega) hl.1 (by show st.map (ax_v b ad) = _; rw [est]; simp [ax_v]) (ax_room m pc ls _ hw) hd ⟨by rw [hRc]; exact hC, by rw [hRs]; exact hS2⟩) hS hFc hk
set_option maxHeartbeats 1000000 in
theorem AX.callI {idx k' na C1 S1 i : Nat} {as rest : List Value} {P : Option Value → ax_H → Prop} {X' : Option (Nat × (Nat → Int32))} (hi : m_i k pc = some (.invokespecial idx, 3, nx, k', na)) (h9 : k' ≠ 999)  (hs : ax_pop na st = some (i, as, rest)) (hna : as.length + 1 = na) (hL : (lg_sl (.ref i :: as)).length ≤ m_l k') (hM : AM d k' C1 S1 X' (.ref i :: as) h P) (hXX : X' = none ∨ X' = X) (hC : n1 + C1 ≤ C) (hS2 : n2 + S1 ≤ S) (hw : (rest.map fun v => v.category).sum ≤ 8) (hcl : C1 = 0 ∨ ax_okF h.length lv rest = true) (kk : ∀ r h', P r h' → AX (d + 1) k C S X nx lv (r.toList ++ rest) h' (n1 + C1) (n2 + S1) F) : AX (d + 1) k C S X pc lv st h n1 n2 F := by
  intro l D cid b p e R s m args below meth c A Q n0 ad0 Cx hF ad H locs ls hr
  obtain ⟨hx, hb, hrt, hml, hown, hts, hlk, hnm, hK, hN, hA, hfr, hlo, hRc, hRs, hX⟩ := id Cx
  obtain ⟨hP, hD, hS, hl, hg, hn, hz⟩ := id hr
  obtain ⟨hd, e9⟩ := m_dec hi
  subst e9
  subst hna
  have est := ax_pop_ok hs
  have hFc : ∀ q, va_A (ax_w cid b ad h) H.size q → A q := by
    rintro q (⟨j, e', hj⟩ | hq)
    · exact hD.2 j _ hj
    · exact hA q (Nat.le_trans hS.1 hq)
  have hB : ∀ U : State, U.heap = H → s.WarmedH U.vm → ax_B D cid b ad h H.size X' U := by
    intro U hU hW
    refine ⟨by rw [hU], by rw [hU]; exact hP, va_K.moved hW.alike hK, hD.weaken (fun _ _ _ _ => trivial), ax_nw hW hN, fun L xs e => ?_⟩
    rcases hXX with z | z
    · rw [z] at e; cases e
    · obtain ⟨x1, x2, x3⟩ := hX L xs (z ▸ e)
      refine ⟨?_, Nat.lt_of_lt_of_le x2 hS.1, fun z2 => x3 (hFc b z2)⟩
      rw [hU]
      exact va_X.moved hW.alike (x1.kept (hS.2.1 b x2 x3))
  have hk : ∀ (r : Option Value) (h' : ax_H) (ad' : Nat → Nat) (H1 : Heap) (locs1 : List Loc), P r h' → va_P D mCl (ax_w cid b ad' h') H1 → va_D A (ax_w cid b ad' h') → va_S A s.heap H1 locs1 → (∀ i, i < h.length → ad' i = ad i) → h.length ≤ h'.length → (C1 = 0 → ad' = ad) → W p l e R s m args below meth c H1 locs1 (n1 + C1) (n2 + S1) Q (F0 m (pc + 3) ls ((r.map (ax_v b ad')).toList ++ rest.map (ax_v b ad))) := by
    intro r h' ad' H1 locs1 hPr gP gD gS gg gn gz
    have ex : ax_l b ad' lv = ax_l b ad lv ∧ rest.map (ax_v b ad') = rest.map (ax_v b ad) := by
      rcases hcl with z | z
      · rw [gz z]; exact ⟨rfl, rfl⟩
      · simp only [ax_okF, Bool.and_eq_true] at z
        exact ⟨ax_l_ext z.1 gg, ax_s_ext z.2 gg⟩
    have h2 := kk r h' hPr l D cid b p e R s m args below meth c A Q n0 ad0 Cx hF ad' H1 locs1 ls ⟨gP, gD, gS, by rw [ex.1]; exact hl, fun i hi' => (gg i (by omega)).trans (hg i hi'), by omega, fun z => (gz (by omega)).trans (hz (by omega))⟩
    rw [List.map_append, ex.2] at h2
    have e1 : r.toList.map (ax_v b ad') = (r.map (ax_v b ad')).toList := by cases r <;> rfl
    rw [e1] at h2
    exact h2
  obtain ⟨hna, hG, hdd, hpl, hm2, hy1, hr0, w1, w2, hlnk⟩ := m_cI hi h9
  have hG2 : m_w k' = Cond.code (m_y k') (m_b k') (m_l k') none :: mTb := by unfold m_w; rw [hr0]
  rcases hlnk with w3 | ⟨host, w3⟩
  · exact ax_go (va_runI (As := as.map (ax_v b ad)) (rest := rest.map (ax_v b ad)) ⟨hx, hb, hml, hown, hts⟩ (AM.met hM hpl hL l D cid b ad H.size) (cwI (m_na k') hts hG hG2 rfl rfl (hts _ w1) (hts _ w3) (hts _ w2) hy1 hdd ⟨hfr, by show 8 + (m_l k' + 11) + 33 * d ≤ R.locals; omega⟩) ⟨ax_blind, fun U hU hW => ⟨rfl, hB U hU hW⟩⟩ rfl (by rw [List.length_map]; omega) hl.1 (by show st.map (ax_v b ad) = _; rw [est]; simp [ax_v]) (ax_room m pc ls _ hw) hd ⟨by rw [hRc]; exact hC, by rw [hRs]; exact hS2⟩) hS hFc hk
  · exact ax_go (va_runIN (As := as.map (ax_v b ad)) (rest := rest.map (ax_v b ad)) ⟨hx, hb, hml, hown, hts⟩ (AM.met hM hpl hL l D cid b ad H.size) ⟨va_cnB (m_na k') hts hG hG2 rfl rfl (hN _ w3) (hts _ w1) hdd ⟨hfr, by show 8 + (m_l k' + 11) + 33 * d ≤ R.locals; omega⟩, hy1, hts _ w2⟩ ⟨ax_blind, fun U hU hW => ⟨rfl, hB U hU hW⟩⟩ rfl (by rw [List.length_map]; omega) hl.1 (by show st.map (ax_v b ad) = _; rw [est]; simp [ax_v]) (ax_room m pc ls _ hw) hd ⟨by rw [hRc]; exact hC, by rw [hRs]; exact hS2⟩) hS hFc hk
set_option maxHeartbeats 1000000 in
theorem AX.callS {idx k' na C1 S1 : Nat} {as rest : List Value} {P : Option Value → ax_H → Prop} {X' : Option (Nat × (Nat → Int32))} (hi : m_i k pc = some (.invokestatic idx, 3, nx, k', na)) (h9 : k' ≠ 998 ∧ k' ≠ 997 ∧ k' ≠ 996)  (hs : ax_popS na st = (as, rest)) (hna : as.length = na) (hL : (lg_sl as).length ≤ m_l k') (hM : AM d k' C1 S1 X' as h P) (hXX : X' = none ∨ X' = X) (hC : n1 + C1 ≤ C) (hS2 : n2 + S1 ≤ S) (hw : (rest.map fun v => v.category).sum ≤ 8) (hcl : C1 = 0 ∨ ax_okF h.length lv rest = true) (kk : ∀ r h', P r h' → AX (d + 1) k C S X nx lv (r.toList ++ rest) h' (n1 + C1) (n2 + S1) F) : AX (d + 1) k C S X pc lv st h n1 n2 F := by
  intro l D cid b p e R s m args below meth c A Q n0 ad0 Cx hF ad H locs ls hr
  obtain ⟨hx, hb, hrt, hml, hown, hts, hlk, hnm, hK, hN, hA, hfr, hlo, hRc, hRs, hX⟩ := id Cx
  obtain ⟨hP, hD, hS, hl, hg, hn, hz⟩ := id hr
  obtain ⟨hd, e9⟩ := m_dec hi
  subst e9
  subst hna
  have est := ax_popS_ok hs
  have hFc : ∀ q, va_A (ax_w cid b ad h) H.size q → A q := by
    rintro q (⟨j, e', hj⟩ | hq)
    · exact hD.2 j _ hj
    · exact hA q (Nat.le_trans hS.1 hq)
  have hB : ∀ U : State, U.heap = H → s.WarmedH U.vm → ax_B D cid b ad h H.size X' U := by
    intro U hU hW
    refine ⟨by rw [hU], by rw [hU]; exact hP, va_K.moved hW.alike hK, hD.weaken (fun _ _ _ _ => trivial), ax_nw hW hN, fun L xs e => ?_⟩
    rcases hXX with z | z
    · rw [z] at e; cases e
    · obtain ⟨x1, x2, x3⟩ := hX L xs (z ▸ e)
      refine ⟨?_, Nat.lt_of_lt_of_le x2 hS.1, fun z2 => x3 (hFc b z2)⟩
      rw [hU]
      exact va_X.moved hW.alike (x1.kept (hS.2.1 b x2 x3))
  have hk : ∀ (r : Option Value) (h' : ax_H) (ad' : Nat → Nat) (H1 : Heap) (locs1 : List Loc), P r h' → va_P D mCl (ax_w cid b ad' h') H1 → va_D A (ax_w cid b ad' h') → va_S A s.heap H1 locs1 → (∀ i, i < h.length → ad' i = ad i) → h.length ≤ h'.length → (C1 = 0 → ad' = ad) → W p l e R s m args below meth c H1 locs1 (n1 + C1) (n2 + S1) Q (F0 m (pc + 3) ls ((r.map (ax_v b ad')).toList ++ rest.map (ax_v b ad))) := by
    intro r h' ad' H1 locs1 hPr gP gD gS gg gn gz
    have ex : ax_l b ad' lv = ax_l b ad lv ∧ rest.map (ax_v b ad') = rest.map (ax_v b ad) := by
      rcases hcl with z | z
      · rw [gz z]; exact ⟨rfl, rfl⟩
      · simp only [ax_okF, Bool.and_eq_true] at z
        exact ⟨ax_l_ext z.1 gg, ax_s_ext z.2 gg⟩
    have h2 := kk r h' hPr l D cid b p e R s m args below meth c A Q n0 ad0 Cx hF ad' H1 locs1 ls ⟨gP, gD, gS, by rw [ex.1]; exact hl, fun i hi' => (gg i (by omega)).trans (hg i hi'), by omega, fun z => (gz (by omega)).trans (hz (by omega))⟩
    rw [List.map_append, ex.2] at h2
    have e1 : r.toList.map (ax_v b ad') = (r.map (ax_v b ad')).toList := by cases r <;> rfl
    rw [e1] at h2
    exact h2
  obtain ⟨hna, hG, hdd, hpl, hm2⟩ := m_cS hi h9
  exact ax_go (va_runS (As := as.map (ax_v b ad)) (rest := rest.map (ax_v b ad)) ⟨hx, hb, hml, hown, hts⟩ (AM.met hM hpl hL l D cid b ad H.size) (cwS (m_na k') hts hG rfl rfl rfl hdd ⟨hfr, by show 8 + (m_l k' + 11) + 33 * d ≤ R.locals; omega⟩) ⟨ax_blind, fun U hU hW => ⟨rfl, hB U hU hW⟩⟩ rfl (by rw [List.length_map]; omega) hl.1 (by show st.map (ax_v b ad) = _; rw [est]; simp [ax_v]) (ax_room m pc ls _ hw) hd ⟨by rw [hRc]; exact hC, by rw [hRs]; exact hS2⟩) hS hFc hk
theorem AX.objInit {idx i : Nat} (hi : m_i k pc = some (.invokespecial idx, 3, nx, 999, 1)) (hw : (st.map fun v => v.category).sum ≤ 8) (kk : AX (d + 1) k C S X nx lv st h n1 n2 F) : AX (d + 1) k C S X pc lv (.ref i :: st) h n1 n2 F := by
  intro l D cid b p e R s m args below meth c A Q n0 ad0 Cx hF ad H locs ls hr
  obtain ⟨hx, hb, hrt, hml, hown, hts, hlk, hnm, hK, hN, hA, hfr, hlo, hRc, hRs, hX⟩ := id Cx
  obtain ⟨hP, hD, hS, hl, hg, hn, hz⟩ := id hr
  obtain ⟨hd, e9⟩ := m_dec hi
  subst e9
  obtain ⟨w1, w2, w3⟩ := m_obj hi
  have hq := ax_room (b := b) (ad := ad) m pc ls ((Value.ref i :: st).map (ax_v b ad)) hw
  exact W.objInit hx hb hown (hts _ w1) (hts _ w2) (hts _ w3) rfl (by rw [hml]; exact hl.1) rfl hd (by omega) (by omega) (kk l D cid b p e R s m args below meth c A Q n0 ad0 Cx hF ad H locs ls hr)
theorem AX.mmax {idx : Nat} {x y : Int32} (hi : m_i k pc = some (.invokestatic idx, 3, nx, 998, 2)) (hw : (st.map fun v => v.category).sum ≤ 8) (hC : n1 ≤ C) (hS2 : n2 ≤ S) (kk : AX (d + 1) k C S X nx lv (.int (if x < y then y else x) :: st) h n1 n2 F) : AX (d + 1) k C S X pc lv (.int y :: .int x :: st) h n1 n2 F := by
  intro l D cid b p e R s m args below meth c A Q n0 ad0 Cx hF ad H locs ls hr
  obtain ⟨hx, hb, hrt, hml, hown, hts, hlk, hnm, hK, hN, hA, hfr, hlo, hRc, hRs, hX⟩ := id Cx
  obtain ⟨hP, hD, hS, hl, hg, hn, hz⟩ := id hr
  obtain ⟨hd, e9⟩ := m_dec hi
  subst e9
  obtain ⟨w1, w2, w3, w4⟩ := m_max hi
  have hq := ax_room (b := b) (ad := ad) m pc ls [] hw
  exact va_mmax hx hb (by rw [hml]; exact hl.1.symm) hown (hts _ w1) (hts _ w2) (hts _ w3) (hts _ w4) (by omega) (by omega) (by rw [hRc]; exact hC) (by rw [hRs]; exact hS2) hd (kk l D cid b p e R s m args below meth c A Q n0 ad0 Cx hF ad H locs ls hr)
theorem AX.mmin {idx : Nat} {x y : Int32} (hi : m_i k pc = some (.invokestatic idx, 3, nx, 997, 2)) (hw : (st.map fun v => v.category).sum ≤ 8) (hC : n1 ≤ C) (hS2 : n2 ≤ S) (kk : AX (d + 1) k C S X nx lv (.int (if y < x then y else x) :: st) h n1 n2 F) : AX (d + 1) k C S X pc lv (.int y :: .int x :: st) h n1 n2 F := by
  intro l D cid b p e R s m args below meth c A Q n0 ad0 Cx hF ad H locs ls hr
  obtain ⟨hx, hb, hrt, hml, hown, hts, hlk, hnm, hK, hN, hA, hfr, hlo, hRc, hRs, hX⟩ := id Cx
  obtain ⟨hP, hD, hS, hl, hg, hn, hz⟩ := id hr
  obtain ⟨hd, e9⟩ := m_dec hi
  subst e9
  obtain ⟨w1, w2, w3, w4⟩ := m_min hi
  have hq := ax_room (b := b) (ad := ad) m pc ls [] hw
  exact va_mmin hx hb (by rw [hml]; exact hl.1.symm) hown (hts _ w1) (hts _ w2) (hts _ w3) (hts _ w4) (by omega) (by omega) (by rw [hRc]; exact hC) (by rw [hRs]; exact hS2) hd (kk l D cid b p e R s m args below meth c A Q n0 ad0 Cx hF ad H locs ls hr)
theorem AX.acopy {idx i0 i1 c0 c1 : Nat} {f g : Nat → Int32} {sp dp n : Int32} (hi : m_i k pc = some (.invokestatic idx, 3, nx, 996, 5)) (hw : (st.map fun v => v.category).sum ≤ 8) (ha0 : h[i0]? = some (.inl (0, c0, .inl f))) (ha1 : h[i1]? = some (.inl (0, c1, .inl g))) (h1 : ¬ sp < 0) (h2 : ¬ dp < 0) (h3 : ¬ n < 0) (h4 : sp.toNatClampNeg + n.toNatClampNeg ≤ c0) (h5 : dp.toNatClampNeg + n.toNatClampNeg ≤ c1)
    (kk : AX (d + 1) k C S X nx lv st (h.set i1 (.inl (0, c1, .inl (va_cpy f g sp.toNatClampNeg dp.toNatClampNeg n.toNatClampNeg)))) n1 n2 F) : AX (d + 1) k C S X pc lv (.int n :: .int dp :: .ref i1 :: .int sp :: .ref i0 :: st) h n1 n2 F := by
  intro l D cid b p e R s m args below meth c A Q n0 ad0 Cx hF ad H locs ls hr
  obtain ⟨hx, hb, hrt, hml, hown, hts, hlk, hnm, hK, hN, hA, hfr, hlo, hRc, hRs, hX⟩ := id Cx
  obtain ⟨hP, hD, hS, hl, hg, hn, hz⟩ := id hr
  obtain ⟨hd, e9⟩ := m_dec hi
  subst e9
  obtain ⟨w1, w2, w3, w4⟩ := m_cpy hi
  have hq := ax_room (b := b) (ad := ad) m pc ls [] hw
  have hw2 : (ax_w cid b ad h).set i1 (ad i1, .inl (cid 0, c1, .inl (va_cpy f g sp.toNatClampNeg dp.toNatClampNeg n.toNatClampNeg))) = ax_w cid b ad (h.set i1 (.inl (0, c1, .inl (va_cpy f g sp.toNatClampNeg dp.toNatClampNeg n.toNatClampNeg)))) := by
    rw [← ax_w_set]
    rfl
  refine va_copyi hx hb (by rw [hml]; exact hl.1.symm) hown (hts _ w1) (hts _ w2) (hts _ w3) (hts _ w4) hK hP hD hS i0 i1 0 0 (ax_w_at ha0) (ax_w_at ha1) (ty := .int) rfl rfl rfl h1 h2 h3 h4 h5 (fun _ _ => rfl) (by omega) (by show _ + (5 + 2 + 11) ≤ R.locals; omega) hd (fun H1 locs1 g1 g2 g3 => ?_)
  rw [hw2] at g1 g2
  exact kk l D cid b p e R s m args below meth c A Q n0 ad0 Cx hF ad H1 locs1 ls ⟨g1, g2, g3, hl, hg, by rw [List.length_set]; exact hn, hz⟩
theorem AX.ireturn {x : Int32} {P : Option Value → ax_H → Prop} (hi : m_i k pc = some (.ireturn, 1, nx, a1, a2)) (hr : m_r k = some .int) (hP : P (some (.int x)) h) (hC : n1 ≤ C) (hS : n2 ≤ S) : AX d k C S X pc lv [.int x] h n1 n2 (ax_ret k C S P) := by
  refine AX.here ⟨hC, hS, some (.int x), rfl, ?_, hP, nx, a1, a2, ?_⟩
  · rw [hr]; exact trivial
  · rw [hr]; exact hi
theorem AX.lreturn {x : Int64} {P : Option Value → ax_H → Prop} (hi : m_i k pc = some (.lreturn, 1, nx, a1, a2)) (hr : m_r k = some .long) (hP : P (some (.long x)) h) (hC : n1 ≤ C) (hS : n2 ≤ S) : AX d k C S X pc lv [.long x] h n1 n2 (ax_ret k C S P) := by
  refine AX.here ⟨hC, hS, some (.long x), rfl, ?_, hP, nx, a1, a2, ?_⟩
  · rw [hr]; exact trivial
  · rw [hr]; exact hi
theorem AX.zreturn {x : Int32} {P : Option Value → ax_H → Prop} (hi : m_i k pc = some (.ireturn, 1, nx, a1, a2)) (hr : m_r k = some .boolean) (hx : x = 0 ∨ x = 1) (hP : P (some (.int x)) h) (hC : n1 ≤ C) (hS : n2 ≤ S) : AX d k C S X pc lv [.int x] h n1 n2 (ax_ret k C S P) := by
  refine AX.here ⟨hC, hS, some (.int x), rfl, ?_, hP, nx, a1, a2, ?_⟩
  · rw [hr]; exact hx
  · rw [hr]; exact hi
theorem AX.vreturn {P : Option Value → ax_H → Prop} (hi : m_i k pc = some (.return_, 1, nx, a1, a2)) (hr : m_r k = none) (hP : P none h) (hC : n1 ≤ C) (hS : n2 ≤ S) : AX d k C S X pc lv [] h n1 n2 (ax_ret k C S P) := by
  refine AX.here ⟨hC, hS, none, rfl, ?_, hP, nx, a1, a2, ?_⟩
  · rw [hr]; exact trivial
  · rw [hr]; exact hi
end AXC
