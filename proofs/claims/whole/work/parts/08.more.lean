section AXM
variable {d k C S : Nat} {X : Option (Nat × (Nat → Int32))} {pc nx a1 a2 : Nat} {lv : ax_L} {st : List Value} {h : ax_H} {n1 n2 : Nat} {F : ax_F}
theorem AX.iconstV {n : Int} {v : Int32} (hi : m_i k pc = some (.iconst n, 1, nx, a1, a2)) (hv : Int32.ofInt n = v) (kk : AX d k C S X nx lv (.int v :: st) h n1 n2 F) : AX d k C S X pc lv st h n1 n2 F := by
  subst hv; exact AX.iconst hi kk
theorem AX.bipushV {n : Int} {v : Int32} (hi : m_i k pc = some (.bipush n, 2, nx, a1, a2)) (hv : (Int8.ofInt n).toInt32 = v) (kk : AX d k C S X nx lv (.int v :: st) h n1 n2 F) : AX d k C S X pc lv st h n1 n2 F := by
  subst hv; exact AX.bipush hi kk
theorem AX.sipushV {n : Int} {v : Int32} (hi : m_i k pc = some (.sipush n, 3, nx, a1, a2)) (hv : (Int16.ofInt n).toInt32 = v) (kk : AX d k C S X nx lv (.int v :: st) h n1 n2 F) : AX d k C S X pc lv st h n1 n2 F := by
  subst hv; exact AX.sipush hi kk
theorem AX.lconstV {n : Fin 2} {v : Int64} (hi : m_i k pc = some (.lconst n, 1, nx, a1, a2)) (hv : Int64.ofNat (n : Nat) = v) (kk : AX d k C S X nx lv (.long v :: st) h n1 n2 F) : AX d k C S X pc lv st h n1 n2 F := by
  subst hv; exact AX.lconst hi kk
theorem AX.iincV {i : Nat} {n : Int} {x dn : Int32} (hi : m_i k pc = some (.iinc i n, 3, nx, a1, a2)) (hl0 : ax_get lv i = some (.int x)) (hs : i < m_l k) (hv : Int32.ofInt n = dn) (kk : AX d k C S X nx (ax_put lv i (.int (x + dn))) st h n1 n2 F) : AX d k C S X pc lv st h n1 n2 F := by
  subst hv; exact AX.iinc hi hl0 hs kk
/-- a virtual call that makes no cell and answers a number -/
theorem AX.cVI {idx k' na i : Nat} {as rest fs : List Value} {v : Int32} {G : ax_H → Prop} (hi : m_i k pc = some (.invokevirtual idx, 3, nx, k', na)) (hs : ax_pop na st = some (i, as, rest)) (hna : as.length + 1 = na) (hh : h[i]? = some (.inr (m_ci k', fs))) (hM : AM d k' 0 0 none (.ref i :: as) h (fun r h' => r = some (.int v) ∧ G h')) (kk : ∀ h', G h' → AX (d + 1) k C S X nx lv (.int v :: rest) h' n1 n2 F) (hL : (lg_sl (.ref i :: as)).length ≤ m_l k' := by exact Nat.le_of_ble_eq_true rfl) (hw : (rest.map fun v => v.category).sum ≤ 8 := by exact Nat.le_of_ble_eq_true rfl) (hC : n1 ≤ C := by exact Nat.le_of_ble_eq_true rfl) (hS : n2 ≤ S := by exact Nat.le_of_ble_eq_true rfl) : AX (d + 1) k C S X pc lv st h n1 n2 F :=
  AX.callV hi hs hna hh hL hM (Or.inl rfl) hC hS hw (Or.inl rfl) (fun _ h' q => by obtain ⟨rfl, q⟩ := q; exact kk h' q)
/-- a virtual call that makes no cell and answers nothing -/
theorem AX.cVV {idx k' na i : Nat} {as rest fs : List Value} {G : ax_H → Prop} (hi : m_i k pc = some (.invokevirtual idx, 3, nx, k', na)) (hs : ax_pop na st = some (i, as, rest)) (hna : as.length + 1 = na) (hh : h[i]? = some (.inr (m_ci k', fs))) (hM : AM d k' 0 0 none (.ref i :: as) h (fun r h' => r = none ∧ G h')) (kk : ∀ h', G h' → AX (d + 1) k C S X nx lv rest h' n1 n2 F) (hL : (lg_sl (.ref i :: as)).length ≤ m_l k' := by exact Nat.le_of_ble_eq_true rfl) (hw : (rest.map fun v => v.category).sum ≤ 8 := by exact Nat.le_of_ble_eq_true rfl) (hC : n1 ≤ C := by exact Nat.le_of_ble_eq_true rfl) (hS : n2 ≤ S := by exact Nat.le_of_ble_eq_true rfl) : AX (d + 1) k C S X pc lv st h n1 n2 F :=
  AX.callV hi hs hna hh hL hM (Or.inl rfl) hC hS hw (Or.inl rfl) (fun _ h' q => by obtain ⟨rfl, q⟩ := q; exact kk h' q)
end AXM
theorem ax_get_put (lv : ax_L) (i : Nat) (v : Value) : ax_get (ax_put lv i v) i = some v := by
  simp [ax_get, ax_put]
theorem ax_get_cons (q : Nat × Value) (lv : ax_L) (j : Nat) : ax_get (q :: lv) j = if q.1 = j then some q.2 else ax_get lv j := by
  unfold ax_get
  rw [List.find?_cons]
  by_cases h : q.1 = j
  · simp [h]
  · have e : (q.1 == j) = false := by simp [h]
    rw [e, if_neg h]
theorem ax_get_put_ne {lv : ax_L} {i j : Nat} {u v : Value} (h : j ≠ i) (hv : ax_get lv j = some v) (hc : v.category = 1) : ax_get (ax_put lv i u) j = some v := by
  unfold ax_put
  rw [ax_get_cons, if_neg (fun e => h e.symm)]
  induction lv with
  | nil => cases hv
  | cons q l ih =>
    rw [ax_get_cons] at hv
    by_cases hq : q.1 = j
    · rw [if_pos hq] at hv
      have hv2 : q.2 = v := Option.some.inj hv
      have hk : (!(q.1 == i) && !(q.1 + 1 == i && q.2.category == 2)) = true := by
        rw [hv2, hc, hq]
        simp [h]
      rw [List.filter_cons, if_pos hk, ax_get_cons, if_pos hq, hv2]
    · rw [if_neg hq] at hv
      by_cases hk : (!(q.1 == i) && !(q.1 + 1 == i && q.2.category == 2)) = true
      · rw [List.filter_cons, if_pos hk, ax_get_cons, if_neg hq]
        exact ih hv
      · rw [List.filter_cons, if_neg hk]
        exact ih hv
theorem AM.imp {d k C S : Nat} {X : Option (Nat × (Nat → Int32))} {as : List Value} {h : ax_H} {P Q : Option Value → ax_H → Prop} (hA : AM d k C S X as h P) (hi : ∀ r h', P r h' → Q r h') : AM d k C S X as h Q := by
  refine AX.mono hA ?_
  intro pc' lv' st' h' n1' n2' g
  obtain ⟨c1, c2, r, e1, hok, hPr, q⟩ := g
  exact AX.here ⟨c1, c2, r, e1, hok, hi _ _ hPr, q⟩
