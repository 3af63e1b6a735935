/-! A new group: the model -/
section MF
variable {y : yT} {z : zS} {t : mS} {p h : ax_H} {d : Nat}
def cvOf (y : yT) (k : Nat) : Int32 := if k < (yQ y).length then nI ((yQ y).getD k 0) else -1
theorem yM_waitingAt (hR : RM y t) (hW : WF y) (hm : isM p t h) {k : Nat} (hk : k < 2 ^ 31) : AM (d + 1) kM_waitingAt 0 0 none [.ref 28, .int (nI k)] h (fun v h' => v = some (.int (cvOf y k)) ∧ isM p t h') := by
  have hql := hW.ql
  have e : mWt t (yn y) (nI k) = cvOf y k := by
    rw [mWt_y hR hW (nI_pos hk), nI_clamp hk]
    unfold cvOf
    by_cases h1 : k < (yQ y).length
    · rw [if_pos h1, if_pos ((nI_ltI hk (by omega)).mpr h1)]
    · rw [if_neg h1, if_neg (fun q => h1 ((nI_ltI hk (by omega)).mp q))]
  rw [← e]
  exact sM_waitingAt hR.1.2.1 hW.1 hm _
theorem yM_waitingAt0 (hR : RM y t) (hW : WF y) (hm : isM p t h) : AM (d + 1) kM_waitingAt 0 0 none [.ref 28, .int 0] h (fun v h' => v = some (.int (cvOf y 0)) ∧ isM p t h') := yM_waitingAt (k := 0) hR hW hm (by decide)
def mFm (t : mS) (c : Nat) (b : Bool) (n : Nat) : mS := mset (marr (marr (marr (marr (marr t 2 c 1) 9 c (bI b)) 10 c 0) 11 c 0) 7 n (nI c)) 6 (nI (n + 1))
theorem gF1_app (S : List Nat) (c : Nat) : gF1 (S ++ [c]) = gF1 S ++ [decide (S = [])] := by
  cases S with
  | nil => rfl
  | cons a r => simp [gF1]
theorem LaneOk.app {L : List Nat} {B : List Bool} (hL : LaneOk t L B) {c : Nat} (hc : c < 40) (hn : c ∉ L) (hl : L.length < 40) (b : Bool) : LaneOk (mFm t c b L.length) (L ++ [c]) (B ++ [b]) := by
  obtain ⟨h6, h40, hB, h2⟩ := hL
  refine ⟨by rw [List.length_append]; rfl, by rw [List.length_append, List.length_singleton]; omega, by rw [List.length_append, List.length_append, hB]; rfl, ?_⟩
  intro i hi
  rw [List.length_append, List.length_singleton] at hi
  have e7 : ∀ j, (mFm t c b L.length).2 7 j = if j = L.length then nI c else t.2 7 j := by
    intro j
    by_cases e : j = L.length
    · rw [if_pos e, e]
      show (marr (marr (marr (marr (marr t 2 c 1) 9 c (bI b)) 10 c 0) 11 c 0) 7 L.length (nI c)).2 7 L.length = _
      rw [marr_eq]
    · rw [if_neg e]
      show (marr (marr (marr (marr (marr t 2 c 1) 9 c (bI b)) 10 c 0) 11 c 0) 7 L.length (nI c)).2 7 j = _
      rw [marr_k e]; rfl
  have e9 : ∀ j, (mFm t c b L.length).2 9 j = if j = c then bI b else t.2 9 j := by
    intro j
    show (marr (marr t 2 c 1) 9 c (bI b)).2 9 j = _
    by_cases e : j = c
    · rw [if_pos e, e]; exact marr_eq _ _ _ _
    · rw [if_neg e, marr_k e]; rfl
  by_cases e : i = L.length
  · subst e
    have eL : (L ++ [c]).getD L.length 0 = c := by rw [List.getD_eq_getElem?_getD, List.getElem?_concat_length]; rfl
    have eB : (B ++ [b]).getD L.length false = b := by rw [← hB, List.getD_eq_getElem?_getD, List.getElem?_concat_length]; rfl
    rw [eL, eB, e7, e9, if_pos rfl, if_pos rfl]
    exact ⟨rfl, hc, rfl⟩
  · have hi2 : i < L.length := by omega
    have eL : (L ++ [c]).getD i 0 = L.getD i 0 := by rw [List.getD_eq_getElem?_getD, List.getElem?_append_left hi2, ← List.getD_eq_getElem?_getD]
    have eB : (B ++ [b]).getD i false = B.getD i false := by rw [List.getD_eq_getElem?_getD, List.getElem?_append_left (by omega), ← List.getD_eq_getElem?_getD]
    have hne : L.getD i 0 ≠ c := fun q => hn (q ▸ getD_mem hi2)
    rw [eL, eB, e7, e9, if_neg e, if_neg hne]
    exact h2 i hi2
theorem RM.form1 (hW : WF y) {S : List Nat} {c : Nat} (hn : (S ++ [c]).Nodup) (hS : ∀ a ∈ S ++ [c], a ∈ yQ y) (hR : RM (yF y S) t) : RM (yF y (S ++ [c])) (mFm t c (decide (S = [])) (gL (yG y) ++ S).length) := by
  have hW1 := hW.form hn hS
  have htl := hW1.tl
  have hlen : (gL (yG (yF y (S ++ [c])))).length = (gL (yG y) ++ S).length + 1 := by
    show (gL (yG y ++ gO (S ++ [c]))).length = _
    rw [gO_L, ← List.append_assoc, List.length_append, List.length_singleton]
  have hcQ := hS c (by simp)
  have hc6 := (hW.2.2.2.2.2.1 c).mp hcQ
  have hn40 := hW.1
  have hcS : c ∉ S := by
    rw [List.nodup_append] at hn
    intro h
    exact hn.2.2 c h c (by simp) rfl
  have hcL : c ∉ gL (yG y) := fun h => by
    have := ((hW.2.2.2.2.2.2.2.2.2.2.1 c).mp h).2
    omega
  have hall := hR.all
  obtain ⟨⟨r0, r1, r2, r3⟩, rL, rT, rc, r5, r6, r7⟩ := hR
  have a2 : ∀ j, (mFm t c (decide (S = [])) (gL (yG y) ++ S).length).2 2 j = if j = c then 1 else t.2 2 j := by
    intro j
    show (marr t 2 c 1).2 2 j = _
    by_cases e : j = c
    · rw [if_pos e, e]; exact marr_eq _ _ _ _
    · rw [if_neg e, marr_k e]
  have a10 : ∀ j, (mFm t c (decide (S = [])) (gL (yG y) ++ S).length).2 10 j = if j = c then 0 else t.2 10 j := by
    intro j
    show (marr (marr (marr t 2 c 1) 9 c _) 10 c 0).2 10 j = _
    by_cases e : j = c
    · rw [if_pos e, e]; exact marr_eq _ _ _ _
    · rw [if_neg e, marr_k e]; rfl
  have a11 : ∀ j, (mFm t c (decide (S = [])) (gL (yG y) ++ S).length).2 11 j = if j = c then 0 else t.2 11 j := by
    intro j
    show (marr (marr (marr (marr t 2 c 1) 9 c _) 10 c 0) 11 c 0).2 11 j = _
    by_cases e : j = c
    · rw [if_pos e, e]; exact marr_eq _ _ _ _
    · rw [if_neg e, marr_k e]; rfl
  refine ⟨⟨r0, r1, r2, r3⟩, ?_, rT, rc, ?_, r6, ?_⟩
  · show LaneOk _ (gL (yG y ++ gO (S ++ [c]))) (gF (yG y ++ gO (S ++ [c])))
    have rL2 : LaneOk t (gL (yG y ++ gO S)) (gF (yG y ++ gO S)) := rL
    rw [gO_L, gO_F] at rL2
    rw [gO_L, gO_F, gF1_app, ← List.append_assoc, ← List.append_assoc]
    refine rL2.app (by omega) (fun h => ?_) (by omega) _
    rcases List.mem_append.mp h with h | h
    · exact hcL h
    · exact hcS h
  · intro j hj
    obtain ⟨b1, b2, b3, b4, b5⟩ := r5 j hj
    refine ⟨b1, ?_, b3, b4, b5⟩
    have b2' : t.2 2 j = nI (if j ∈ S then 1 else ypl y j) := b2
    show _ = nI (if j ∈ S ++ [c] then 1 else ypl y j)
    rw [a2 j]
    by_cases e : j = c
    · rw [if_pos e, if_pos (by rw [e]; simp)]; rfl
    · rw [if_neg e, b2']
      by_cases e2 : j ∈ S
      · rw [if_pos e2, if_pos (by simp [e2])]
      · rw [if_neg e2, if_neg (by simp [e2, e])]
  · refine gAll_iff.mpr ?_
    intro g hg x hx
    rw [a10 x, a11 x]
    have hg2 : g ∈ yG y ++ gO (S ++ [c]) := hg
    rcases List.mem_append.mp hg2 with q | q
    · have hxc : x ≠ c := by
        intro e
        subst e
        exact hcL (List.mem_flatMap.mpr ⟨g, q, hx⟩)
      rw [if_neg hxc, if_neg hxc]
      exact hall g (List.mem_append_left _ q) x hx
    · have hg3 : g = (S ++ [c], 0, 0) := by
        cases S with
        | nil => exact List.mem_singleton.mp q
        | cons a r => exact List.mem_singleton.mp q
      subst hg3
      by_cases e : x = c
      · rw [if_pos e, if_pos e]; exact ⟨rfl, rfl⟩
      · rw [if_neg e, if_neg e]
        have hxS : x ∈ S := by
          rcases List.mem_append.mp hx with q | q
          · exact q
          · exact absurd (List.mem_singleton.mp q) e
        have hgS : (S, 0, 0) ∈ yG (yF y S) := by
          show (S, 0, 0) ∈ yG y ++ gO S
          refine List.mem_append_right _ ?_
          cases S with
          | nil => cases hxS
          | cons a r => exact List.mem_singleton.mpr rfl
        exact hall _ hgS x hxS
theorem fil_drop {l : List Nat} (hn : l.Nodup) {k : Nat} (hk : k < l.length) : (l.filter (fun c => !decide (c = l.getD k 0))).drop k = l.drop (k + 1) ∧ (l.filter (fun c => !decide (c = l.getD k 0))).length = l.length - 1 := by
  have e : l = l.take k ++ l.getD k 0 :: l.drop (k + 1) := by
    rw [← drop_getD (x := 0) hk, List.take_append_drop]
  generalize l.getD k 0 = c at e
  have hA : (l.take k).length = k := by rw [List.length_take]; omega
  generalize l.take k = A at e hA
  generalize l.drop (k + 1) = B at e ⊢
  subst e
  rw [List.nodup_append] at hn
  obtain ⟨n1, n2, n3⟩ := hn
  rw [List.nodup_cons] at n2
  have fA : A.filter (fun x => !decide (x = c)) = A := by
    rw [List.filter_eq_self]
    intro a ha
    have : a ≠ c := n3 a ha c List.mem_cons_self
    simp [this]
  have fB : B.filter (fun x => !decide (x = c)) = B := by
    rw [List.filter_eq_self]
    intro a ha
    have : a ≠ c := fun q => n2.1 (q ▸ ha)
    simp [this]
  rw [List.filter_append, List.filter_cons, if_neg (by simp), fA, fB]
  refine ⟨?_, ?_⟩
  · rw [← hA, List.drop_left]
  · rw [List.length_append, List.length_append, List.length_cons]; omega
theorem yF_Q (y : yT) (S : List Nat) (c : Nat) : yQ (yF y (S ++ [c])) = (yQ (yF y S)).filter (fun x => !decide (x = c)) := by
  show (yQ y).filter (fun x => !decide (x ∈ S ++ [c])) = ((yQ y).filter (fun x => !decide (x ∈ S))).filter (fun x => !decide (x = c))
  rw [List.filter_filter]
  apply List.filter_congr
  intro x _
  by_cases e1 : x ∈ S
  · simp [e1]
  · by_cases e2 : x = c
    · simp [e2]
    · simp [e1, e2]
def fmR (y : yT) (t0 : mS) (Sf : List Nat) (p : ax_H) : Option Value → ax_H → Prop := fun v h' => v = some (.int (bI (!decide (Sf = [])))) ∧ ∃ t', isM p t' h' ∧ RM (yF y Sf) t' ∧ (∀ q, q ≠ 6 → t'.1 q = t0.1 q) ∧ t'.2 1 = t0.2 1
theorem yM_form_n {F : ax_F} (hR : RM y t) (hW : WF y) (hm : isM p t h) {k : Nat} (hk : k < 2 ^ 31) (x n : Int32) (kk : ∀ h, isM p t h → AX (d + 2) kM_form 0 0 none 23 [(3, .int (cvOf y k)), (2, .int (nI k)), (1, .int n), (0, .ref 28)] [] h 0 0 F) : AX (d + 2) kM_form 0 0 none 109 [(3, .int x), (2, .int (nI k)), (1, .int n), (0, .ref 28)] [] h 0 0 F := by
  refine AX.aload_n rfl rfl ?_
  refine AX.iload_n rfl rfl ?_
  refine AX.cVI rfl rfl rfl (M0 hm) (yM_waitingAt hR hW hm hk) (fun h hm => ?_)
  refine AX.istore_n rfl (by decide) ?_
  refine AX.goto rfl ?_
  exact kk h hm
theorem yM_form_e {S : List Nat} {t0 : mS} (hR : RM (yF y S) t) (hm : isM p t h) (hs : S.length < 2 ^ 31) (h1 : ∀ q, q ≠ 6 → t.1 q = t0.1 q) (h2 : t.2 1 = t0.2 1) (x k : Int32) : AX (d + 2) kM_form 0 0 none 118 [(3, .int x), (2, .int k), (1, .int (nI S.length)), (0, .ref 28)] [] h 0 0 (ax_ret kM_form 0 0 (fmR y t0 S p)) := by
  have hp : S = [] ↔ nI S.length ≤ 0 := by
    constructor
    · intro e; rw [e]; decide
    · intro e
      have e2 : nI S.length ≤ nI 0 := e
      rw [nI_leI hs (by decide)] at e2
      exact List.length_eq_zero_iff.mp (by omega)
  refine AX.iload_n rfl rfl ?_
  refine AX.if_le rfl (fun c1 => ?_) (fun c1 => ?_)
  · refine AX.iconstV (v := 0) rfl (by decide) ?_
    exact AX.zreturn rfl rfl (by decide) ⟨by first | rw [decide_eq_true (hp.mpr c1)]; rfl | rw [decide_eq_false (fun q => c1 (hp.mp q))]; rfl, t, hm, hR, h1, h2⟩ (Nat.le_refl _) (Nat.le_refl _)
  · refine AX.iconstV (v := 1) rfl (by decide) ?_
    refine AX.goto rfl ?_
    exact AX.zreturn rfl rfl (by decide) ⟨by first | rw [decide_eq_true (hp.mpr c1)]; rfl | rw [decide_eq_false (fun q => c1 (hp.mp q))]; rfl, t, hm, hR, h1, h2⟩ (Nat.le_refl _) (Nat.le_refl _)
theorem yM_form_l (hW : WF y) {mst : Nat} (hmst : mst ≤ 8) {t0 : mS} (hmo : t0.1 0 = nI mst) : ∀ (r k : Nat) (S : List Nat) (t : mS) (h : ax_H), S.Nodup → (∀ a ∈ S, a ∈ yQ y) → RM (yF y S) t → (∀ q, q ≠ 6 → t.1 q = t0.1 q) → t.2 1 = t0.2 1 → isM p t h → (yQ (yF y S)).length = k + r → S.length ≤ mst →
    AX (d + 2) kM_form 0 0 none 23 [(3, .int (cvOf (yF y S) k)), (2, .int (nI k)), (1, .int (nI S.length)), (0, .ref 28)] [] h 0 0 (ax_ret kM_form 0 0 (fmR y t0 (S ++ sel (ycf y) ((yQ (yF y S)).drop k) (mst - S.length) (gL (yG y) ++ S)) p)) := by
  intro r
  induction r with
  | zero =>
    intro k S t h hSn hSs hR h1 h2 hm hb hk
    have hcv : cvOf (yF y S) k = -1 := by unfold cvOf; rw [if_neg (by omega)]
    rw [List.drop_eq_nil_of_le (by omega), sel, List.append_nil]
    refine AX.iload_n rfl rfl ?_
    refine AX.iconstV (v := (-1)) rfl (by decide) ?_
    refine AX.icmp_eq rfl (fun _ => ?_) (fun c => absurd hcv c)
    exact yM_form_e hR hm (by omega) h1 h2 _ _
  | succ r ih =>
    intro k S t h hSn hSs hR h1 h2 hm hb hk
    have hWS := hW.form hSn hSs
    have hQn := hWS.qn
    have hQl := hWS.ql
    have hlt : k < (yQ (yF y S)).length := by omega
    have hcv : cvOf (yF y S) k = nI ((yQ (yF y S)).getD k 0) := by unfold cvOf; rw [if_pos hlt]
    have hcm := getD_mem (x := 0) hlt
    have hc6 := (hWS.2.2.2.2.2.1 _).mp hcm
    have hfd := fil_drop hQn hlt
    rw [drop_getD (x := 0) hlt, sel]
    generalize hc : (yQ (yF y S)).getD k 0 = c at *
    have hn40 := hW.1
    have hc40 : c < 40 := by have : c < yn y := hc6.1; omega
    have hcne : ¬ nI c = -1 := by
      intro e
      have h4 := nI_pos' (show c < 2 ^ 31 by omega)
      rw [e] at h4
      exact absurd h4 (by decide)
    have hbar : (gL (yG (yF y S))).any (fun a => ycf (yF y S) a c) = (gL (yG y) ++ S).any (fun a => ycf y a c) := by
      show (gL (yG y ++ gO S)).any (fun a => ycf y a c) = _
      rw [gO_L]
    have hmo2 : t.1 0 = nI mst := by rw [h1 0 (by decide)]; exact hmo
    rw [hcv]
    by_cases c1 : mst ≤ S.length
    · rw [if_pos (by omega), List.append_nil]
      refine AX.iload_n rfl rfl ?_
      refine AX.iconstV (v := (-1)) rfl (by decide) ?_
      refine AX.icmp_eq rfl (fun c => absurd c hcne) (fun _ => ?_)
      refine AX.iload_n rfl rfl ?_
      refine AX.aload_n rfl rfl ?_
      refine AX.getf rfl (M0 hm) rfl ?_
      refine AX.icmp_ge rfl (fun _ => ?_) (fun c => absurd (hmo2 ▸ nI_le c1 (by omega)) c)
      exact yM_form_e hR hm (by omega) h1 h2 _ _
    · rw [if_neg (by omega)]
      by_cases c2 : (gL (yG y) ++ S).any (fun a => ycf y a c) = true
      · rw [if_pos c2]
        refine AX.iload_n rfl rfl ?_
        refine AX.iconstV (v := (-1)) rfl (by decide) ?_
        refine AX.icmp_eq rfl (fun c => absurd c hcne) (fun _ => ?_)
        refine AX.iload_n rfl rfl ?_
        refine AX.aload_n rfl rfl ?_
        refine AX.getf rfl (M0 hm) rfl ?_
        refine AX.icmp_ge rfl (fun c => absurd (hmo2 ▸ c) (nI_ge (by omega) (by omega))) (fun _ => ?_)
        refine AX.aload_n rfl rfl ?_
        refine AX.iload_n rfl rfl ?_
        refine AX.cVI rfl rfl rfl (M0 hm) (sM_isBarred hR.2.2.2.1 hR.2.1 hm hc40) (fun h hm => ?_)
        refine AX.if_eqB rfl (fun c => absurd (c.symm.trans (hbar.trans c2)) (by decide)) (fun _ => ?_)
        refine AX.iincV (dn := 1) rfl rfl (by decide) (by decide) ?_
        refine AX.goto rfl ?_
        rw [nI_1]
        refine AX.sub [1, 0, 2, 3] rfl ?_
        refine yM_form_n (k := k + 1) hR hWS hm (by omega) _ _ (fun h hm => ?_)
        exact ih (k + 1) S t h hSn hSs hR h1 h2 hm (by omega) hk
      · rw [if_neg c2]
        have hcS : c ∉ S := by
          intro q
          have : (if c ∈ S then 1 else ypl y c) = 0 := hc6.2
          rw [if_pos q] at this
          cases this
        have hSn2 : (S ++ [c]).Nodup := by
          rw [List.nodup_append]
          refine ⟨hSn, by simp, ?_⟩
          intro a ha b hb e
          rw [List.mem_singleton] at hb
          subst hb
          subst e
          exact hcS ha
        have hSs2 : ∀ a ∈ S ++ [c], a ∈ yQ y := by
          intro a ha
          rcases List.mem_append.mp ha with q | q
          · exact hSs a q
          · rw [List.mem_singleton] at q
            subst q
            exact (List.mem_filter.mp hcm).1
        have hR2 := RM.form1 hW hSn2 hSs2 hR
        have hQ2 : yQ (yF y (S ++ [c])) = (yQ (yF y S)).filter (fun x => !decide (x = c)) := yF_Q y S c
        have e6 : t.1 6 = nI (gL (yG y) ++ S).length := by
          have q : t.1 6 = nI (gL (yG y ++ gO S)).length := hR.2.1.1
          rw [gO_L] at q
          exact q
        have hW2 := hW.form hSn2 hSs2
        have htl := hW2.tl
        have hlen : (gL (yG (yF y (S ++ [c])))).length = (gL (yG y) ++ S).length + 1 := by
          show (gL (yG y ++ gO (S ++ [c]))).length = _
          rw [gO_L, ← List.append_assoc, List.length_append, List.length_singleton]
        have fin : ∀ (x : Int32) (h : ax_H), isM p (mFm t c (decide (S = [])) (gL (yG y) ++ S).length) h → AX (d + 2) kM_form 0 0 none 109 [(3, .int x), (2, .int (nI k)), (1, .int (nI (S ++ [c]).length)), (0, .ref 28)] [] h 0 0 (ax_ret kM_form 0 0 (fmR y t0 (S ++ c :: sel (ycf y) ((yQ (yF y S)).drop (k + 1)) (mst - S.length - 1) (gL (yG y) ++ S ++ [c])) p)) := by
          intro x h hm
          refine yM_form_n hR2 hW2 hm (by omega) _ _ (fun h hm => ?_)
          have := ih k (S ++ [c]) _ h hSn2 hSs2 hR2 (fun q hq => by
            rw [← h1 q hq]
            show va_up t.1 6 _ q = _
            simp [va_up, hq]) (by rw [← h2]; rfl) hm (by rw [hQ2]; omega) (by rw [List.length_append, List.length_singleton]; omega)
          rw [hQ2, hfd.1, List.length_append, List.length_singleton, ← List.append_assoc, List.append_assoc, show mst - (S.length + 1) = mst - S.length - 1 by omega] at this
          rw [List.length_append, List.length_singleton]
          exact this
        rw [show (S ++ [c]).length = S.length + 1 by rw [List.length_append, List.length_singleton]] at fin
        by_cases hS0 : S = []
        · have hk0 : nI S.length = 0 := by rw [hS0]; rfl
          rw [decide_eq_true hS0] at fin
          refine AX.iload_n rfl rfl ?_
          refine AX.iconstV (v := (-1)) rfl (by decide) ?_
          refine AX.icmp_eq rfl (fun c => absurd c hcne) (fun _ => ?_)
          refine AX.iload_n rfl rfl ?_
          refine AX.aload_n rfl rfl ?_
          refine AX.getf rfl (M0 hm) rfl ?_
          refine AX.icmp_ge rfl (fun c => absurd (hmo2 ▸ c) (nI_ge (by omega) (by omega))) (fun _ => ?_)
          refine AX.aload_n rfl rfl ?_
          refine AX.iload_n rfl rfl ?_
          refine AX.cVI rfl rfl rfl (M0 hm) (sM_isBarred hR.2.2.2.1 hR.2.1 hm hc40) (fun h hm => ?_)
          refine AX.if_eqB rfl (fun _ => ?_) (fun c => absurd (hbar.symm.trans c) c2)
          refine AX.aload_n rfl rfl ?_
          refine AX.getf rfl (M0 hm) rfl ?_
          refine AX.iload_n rfl rfl ?_
          refine AX.iconstV (v := 1) rfl (by decide) ?_
          refine AX.iastX (c) rfl (MA hm 2 (by decide) (by decide) (by decide)) (by decide) (hc40) (rfl) ?_
          refine AX.gen (G := isM p _) (MW hm 2 _ _ (by decide) (by decide) (by decide)) (fun h hm => ?_)
          refine AX.aload_n rfl rfl ?_
          refine AX.getf rfl (M0 hm) rfl ?_
          refine AX.iload_n rfl rfl ?_
          refine AX.iload_n rfl rfl ?_
          refine AX.if_ne rfl (fun c => absurd hk0 c) (fun _ => ?_)
          refine AX.iconstV (v := 1) rfl (by decide) ?_
          refine AX.goto rfl ?_
          refine AX.zastX (c) rfl (MA9 hm) (by decide) (hc40) (rfl) (by decide) ?_
          refine AX.gen (G := isM p _) (MW9 hm _ _) (fun h hm => ?_)
          refine AX.aload_n rfl rfl ?_
          refine AX.getf rfl (M0 hm) rfl ?_
          refine AX.iload_n rfl rfl ?_
          refine AX.iconstV (v := 0) rfl (by decide) ?_
          refine AX.iastX (c) rfl (MA hm 10 (by decide) (by decide) (by decide)) (by decide) (hc40) (rfl) ?_
          refine AX.gen (G := isM p _) (MW hm 10 _ _ (by decide) (by decide) (by decide)) (fun h hm => ?_)
          refine AX.aload_n rfl rfl ?_
          refine AX.getf rfl (M0 hm) rfl ?_
          refine AX.iload_n rfl rfl ?_
          refine AX.iconstV (v := 0) rfl (by decide) ?_
          refine AX.iastX (c) rfl (MA hm 11 (by decide) (by decide) (by decide)) (by decide) (hc40) (rfl) ?_
          refine AX.gen (G := isM p _) (MW hm 11 _ _ (by decide) (by decide) (by decide)) (fun h hm => ?_)
          refine AX.aload_n rfl rfl ?_
          refine AX.getf rfl (M0 hm) rfl ?_
          refine AX.aload_n rfl rfl ?_
          refine AX.getf rfl (M0 hm) rfl ?_
          refine AX.iload_n rfl rfl ?_
          refine AX.iastX ((gL (yG y) ++ S).length) rfl (MA hm 7 (by decide) (by decide) (by decide)) (by decide) (by omega) (e6) ?_
          refine AX.gen (G := isM p _) (MW hm 7 _ _ (by decide) (by decide) (by decide)) (fun h hm => ?_)
          refine AX.aload_n rfl rfl ?_
          refine AX.dup rfl rfl ?_
          refine AX.getf rfl (M0 hm) rfl ?_
          refine AX.iconstV (v := 1) rfl (by decide) ?_
          refine AX.iadd rfl ?_
          refine AX.putf rfl (M0 hm) (Nat.le_of_ble_eq_true rfl) rfl ?_
          refine AX.gen (G := isM p _) (MS hm 6 _ (by decide) rfl) (fun h hm => ?_)
          refine AX.iincV (dn := 1) rfl rfl (by decide) (by decide) ?_
          rw [nI_1]
          refine AX.sub [1, 2, 0, 3] rfl ?_
          refine fin (nI c) h ?_
          unfold mFm
          rw [← nI_1, ← e6]
          exact hm
        · have hk0 : ¬ nI S.length = 0 := nI_ne0 (List.length_pos_iff.mpr hS0) (by omega)
          rw [decide_eq_false hS0] at fin
          refine AX.iload_n rfl rfl ?_
          refine AX.iconstV (v := (-1)) rfl (by decide) ?_
          refine AX.icmp_eq rfl (fun c => absurd c hcne) (fun _ => ?_)
          refine AX.iload_n rfl rfl ?_
          refine AX.aload_n rfl rfl ?_
          refine AX.getf rfl (M0 hm) rfl ?_
          refine AX.icmp_ge rfl (fun c => absurd (hmo2 ▸ c) (nI_ge (by omega) (by omega))) (fun _ => ?_)
          refine AX.aload_n rfl rfl ?_
          refine AX.iload_n rfl rfl ?_
          refine AX.cVI rfl rfl rfl (M0 hm) (sM_isBarred hR.2.2.2.1 hR.2.1 hm hc40) (fun h hm => ?_)
          refine AX.if_eqB rfl (fun _ => ?_) (fun c => absurd (hbar.symm.trans c) c2)
          refine AX.aload_n rfl rfl ?_
          refine AX.getf rfl (M0 hm) rfl ?_
          refine AX.iload_n rfl rfl ?_
          refine AX.iconstV (v := 1) rfl (by decide) ?_
          refine AX.iastX (c) rfl (MA hm 2 (by decide) (by decide) (by decide)) (by decide) (hc40) (rfl) ?_
          refine AX.gen (G := isM p _) (MW hm 2 _ _ (by decide) (by decide) (by decide)) (fun h hm => ?_)
          refine AX.aload_n rfl rfl ?_
          refine AX.getf rfl (M0 hm) rfl ?_
          refine AX.iload_n rfl rfl ?_
          refine AX.iload_n rfl rfl ?_
          refine AX.if_ne rfl (fun _ => ?_) (fun c => absurd c hk0)
          refine AX.iconstV (v := 0) rfl (by decide) ?_
          refine AX.zastX (c) rfl (MA9 hm) (by decide) (hc40) (rfl) (by decide) ?_
          refine AX.gen (G := isM p _) (MW9 hm _ _) (fun h hm => ?_)
          refine AX.aload_n rfl rfl ?_
          refine AX.getf rfl (M0 hm) rfl ?_
          refine AX.iload_n rfl rfl ?_
          refine AX.iconstV (v := 0) rfl (by decide) ?_
          refine AX.iastX (c) rfl (MA hm 10 (by decide) (by decide) (by decide)) (by decide) (hc40) (rfl) ?_
          refine AX.gen (G := isM p _) (MW hm 10 _ _ (by decide) (by decide) (by decide)) (fun h hm => ?_)
          refine AX.aload_n rfl rfl ?_
          refine AX.getf rfl (M0 hm) rfl ?_
          refine AX.iload_n rfl rfl ?_
          refine AX.iconstV (v := 0) rfl (by decide) ?_
          refine AX.iastX (c) rfl (MA hm 11 (by decide) (by decide) (by decide)) (by decide) (hc40) (rfl) ?_
          refine AX.gen (G := isM p _) (MW hm 11 _ _ (by decide) (by decide) (by decide)) (fun h hm => ?_)
          refine AX.aload_n rfl rfl ?_
          refine AX.getf rfl (M0 hm) rfl ?_
          refine AX.aload_n rfl rfl ?_
          refine AX.getf rfl (M0 hm) rfl ?_
          refine AX.iload_n rfl rfl ?_
          refine AX.iastX ((gL (yG y) ++ S).length) rfl (MA hm 7 (by decide) (by decide) (by decide)) (by decide) (by omega) (e6) ?_
          refine AX.gen (G := isM p _) (MW hm 7 _ _ (by decide) (by decide) (by decide)) (fun h hm => ?_)
          refine AX.aload_n rfl rfl ?_
          refine AX.dup rfl rfl ?_
          refine AX.getf rfl (M0 hm) rfl ?_
          refine AX.iconstV (v := 1) rfl (by decide) ?_
          refine AX.iadd rfl ?_
          refine AX.putf rfl (M0 hm) (Nat.le_of_ble_eq_true rfl) rfl ?_
          refine AX.gen (G := isM p _) (MS hm 6 _ (by decide) rfl) (fun h hm => ?_)
          refine AX.iincV (dn := 1) rfl rfl (by decide) (by decide) ?_
          rw [nI_1]
          refine AX.sub [1, 2, 0, 3] rfl ?_
          refine fin (nI c) h ?_
          unfold mFm
          rw [← nI_1, ← e6]
          exact hm
theorem yM_form1 (hR : RM y t) (hW : WF y) (hm : isM p t h) {mst : Nat} (hmst : mst ≤ 8) (hmo : t.1 0 = nI mst) (hw : nI (yG y).length < t.1 1) : AM (d + 2) kM_form 0 0 none [.ref 28] h (fmR y t (ySel y mst) p) := by
  refine AX.aload_n rfl rfl ?_
  refine AX.cVI rfl rfl rfl (M0 hm) (yM_groupMany hR hW hm) (fun h hm => ?_)
  refine AX.aload_n rfl rfl ?_
  refine AX.getf rfl (M0 hm) rfl ?_
  refine AX.icmp_lt rfl (fun _ => ?_) (fun c => absurd hw c)
  refine AX.iconstV (v := 0) rfl (by decide) ?_
  refine AX.istore_n rfl (by decide) ?_
  refine AX.iconstV (v := 0) rfl (by decide) ?_
  refine AX.istore_n rfl (by decide) ?_
  refine AX.aload_n rfl rfl ?_
  refine AX.iconstV (v := 0) rfl (by decide) ?_
  refine AX.cVI rfl rfl rfl (M0 hm) (yM_waitingAt0 hR hW hm) (fun h hm => ?_)
  refine AX.istore_n rfl (by decide) ?_
  have := yM_form_l (p := p) (d := d) hW hmst hmo (yQ y).length 0 [] t h List.nodup_nil (fun a ha => by cases ha) (by rw [yF_nil]; exact hR) (fun _ _ => rfl) rfl hm (by rw [yF_nil]; omega) (Nat.zero_le _)
  rw [yF_nil] at this
  rw [List.nil_append, List.append_nil, List.drop_zero] at this
  exact this
theorem yM_form0 (hR : RM y t) (hW : WF y) (hm : isM p t h) (hw : ¬ nI (yG y).length < t.1 1) : AM (d + 2) kM_form 0 0 none [.ref 28] h (fun v h' => v = some (.int 0) ∧ isM p t h') := by
  refine AX.aload_n rfl rfl ?_
  refine AX.cVI rfl rfl rfl (M0 hm) (yM_groupMany hR hW hm) (fun h hm => ?_)
  refine AX.aload_n rfl rfl ?_
  refine AX.getf rfl (M0 hm) rfl ?_
  refine AX.icmp_lt rfl (fun c => absurd c hw) (fun _ => ?_)
  refine AX.iconstV (v := 0) rfl (by decide) ?_
  exact AX.zreturn rfl rfl (by decide) ⟨rfl, hm⟩ (Nat.le_refl _) (Nat.le_refl _)
end MF
