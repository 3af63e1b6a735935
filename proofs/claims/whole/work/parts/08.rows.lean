section AXM
variable {d k C S : Nat} {X : Option (Nat × (Nat → Int32))} {pc nx a1 a2 : Nat} {lv : ax_L} {st : List Value} {h : ax_H} {n1 n2 : Nat} {F : ax_F}
theorem AX.iconstV {n : Int} {v : Int32} (hi : m_i k pc = some (.iconst n, 1, nx, a1, a2)) (hv : Int32.ofInt n = v) (kk : AX d k C S X nx lv (.int v :: st) h n1 n2 F) : AX d k C S X pc lv st h n1 n2 F := by
  subst hv; exact AX.iconst hi kk
theorem AX.bipushV {n : Int} {v : Int32} (hi : m_i k pc = some (.bipush n, 2, nx, a1, a2)) (hv : (Int8.ofInt n).toInt32 = v) (kk : AX d k C S X nx lv (.int v :: st) h n1 n2 F) : AX d k C S X pc lv st h n1 n2 F := by
  subst hv; exact AX.bipush hi kk
theorem AX.sipushV {n : Int} {v : Int32} (hi : m_i k pc = some (.sipush n, 3, nx, a1, a2)) (hv : (Int16.ofInt n).toInt32 = v) (kk : AX d k C S X nx lv (.int v :: st) h n1 n2 F) : AX d k C S X pc lv st h n1 n2 F := by
  subst hv; exact AX.sipush hi kk
theorem AX.lconstV {n : Fin 2} {v : Int64} (hi : m_i k pc = some (.lconst n, 1, nx, a1, a2)) (hv : Int64.ofNat (n : Nat) = v) (kk : AX d k C S X nx lv (.long v :: st) h n1 n2 F) : AX d k C S X pc lv st h n1 n2 F := by
  subst hv; exact AX.lconst hi kk
theorem AX.iincV {i : Nat} {n : Int} {x dn : Int32} (hi : m_i k pc = some (.iinc i n, 3, nx, a1, a2)) (hl0 : ax_get lv i = some (.int x)) (hs : i < m_l k) (hv : Int32.ofInt n = dn) (kk : AX d k C S X nx (ax_put lv i (.int (x + dn))) st h n1 n2 F) : AX d k C S X pc lv st h n1 n2 F := by
  subst hv; exact AX.iinc hi hl0 hs kk
/-- a virtual call that makes no cell and answers a number -/
theorem AX.cVI {idx k' na i : Nat} {as rest fs : List Value} {v : Int32} {G : ax_H → Prop} (hi : m_i k pc = some (.invokevirtual idx, 3, nx, k', na)) (hs : ax_pop na st = some (i, as, rest)) (hna : as.length + 1 = na) (hh : h[i]? = some (.inr (m_ci k', fs))) (hM : AM d k' 0 0 none (.ref i :: as) h (fun r h' => r = some (.int v) ∧ G h')) (kk : ∀ h', G h' → AX (d + 1) k C S X nx lv (.int v :: rest) h' n1 n2 F) (hL : (lg_sl (.ref i :: as)).length ≤ m_l k' := by exact Nat.le_of_ble_eq_true rfl) (hw : (rest.map fun v => v.category).sum ≤ 8 := by exact Nat.le_of_ble_eq_true rfl) (hC : n1 ≤ C := by exact Nat.le_of_ble_eq_true rfl) (hS : n2 ≤ S := by exact Nat.le_of_ble_eq_true rfl) : AX (d + 1) k C S X pc lv st h n1 n2 F :=
  AX.callV hi hs hna hh hL hM (Or.inl rfl) hC hS hw (Or.inl rfl) (fun _ h' q => by obtain ⟨rfl, q⟩ := q; exact kk h' q)
/-- a virtual call that makes no cell and answers nothing -/
theorem AX.cVV {idx k' na i : Nat} {as rest fs : List Value} {G : ax_H → Prop} (hi : m_i k pc = some (.invokevirtual idx, 3, nx, k', na)) (hs : ax_pop na st = some (i, as, rest)) (hna : as.length + 1 = na) (hh : h[i]? = some (.inr (m_ci k', fs))) (hM : AM d k' 0 0 none (.ref i :: as) h (fun r h' => r = none ∧ G h')) (kk : ∀ h', G h' → AX (d + 1) k C S X nx lv rest h' n1 n2 F) (hL : (lg_sl (.ref i :: as)).length ≤ m_l k' := by exact Nat.le_of_ble_eq_true rfl) (hw : (rest.map fun v => v.category).sum ≤ 8 := by exact Nat.le_of_ble_eq_true rfl) (hC : n1 ≤ C := by exact Nat.le_of_ble_eq_true rfl) (hS : n2 ≤ S := by exact Nat.le_of_ble_eq_true rfl) : AX (d + 1) k C S X pc lv st h n1 n2 F :=
  AX.callV hi hs hna hh hL hM (Or.inl rfl) hC hS hw (Or.inl rfl) (fun _ h' q => by obtain ⟨rfl, q⟩ := q; exact kk h' q)
end AXM
/-! ROWS: a Row's contents as a list -/
def rw_ok (f : Nat → Int32) (xs : List Int32) : Prop := xs.length ≤ 40 ∧ ∀ i, i < xs.length → f i = xs.getD i 0
def rHas (xs : List Int32) (k : Int32) : Prop := ¬ k < 0 ∧ k.toNatClampNeg < xs.length
theorem rHas_dec (xs : List Int32) (k : Int32) : rHas xs k ∨ ¬ rHas xs k := Classical.em _
def rAt (xs : List Int32) (k : Int32) : Int32 := if k < 0 then -1 else xs.getD k.toNatClampNeg (-1)
def rPut (xs : List Int32) (k v : Int32) : List Int32 := if k < 0 then xs else xs.set k.toNatClampNeg v
def rIns (xs : List Int32) (k v : Int32) : List Int32 := if k < 0 ∨ xs.length < k.toNatClampNeg ∨ 40 ≤ xs.length then xs else xs.insertIdx k.toNatClampNeg v
def rRem (xs : List Int32) (k : Int32) : List Int32 := if k < 0 then xs else xs.eraseIdx k.toNatClampNeg
def rFind (xs : List Int32) (v : Int32) : Int32 := match xs.findIdx? (fun x => x == v) with
  | some i => nI i
  | none => -1
theorem i_pos {k : Int32} (h : ¬ k < 0) : ∃ j : Nat, j < 2 ^ 31 ∧ k = nI j ∧ k.toNatClampNeg = j := by
  obtain ⟨j, h1, h2⟩ := nI_of h
  exact ⟨j, h1, h2, by rw [h2, nI_clamp h1]⟩
theorem s_count {d i j : Nat} {h : ax_H} {n : Int32} (hi : h[i]? = some (.inr (2, [.ref j, .int n]))) : AM d kR_count 0 0 none [.ref i] h (fun r h' => r = some (.int n) ∧ h' = h) := by
  refine AX.aload_n rfl rfl ?_
  refine AX.getf rfl hi rfl ?_
  exact AX.ireturn rfl rfl ⟨rfl, rfl⟩ (Nat.le_refl _) (Nat.le_refl _)
theorem s_has {d i j : Nat} {h : ax_H} {f : Nat → Int32} {xs : List Int32} (k : Int32) (hi : h[i]? = some (.inr (2, [.ref j, .int (nI xs.length)]))) (hj : h[j]? = some (.inl (0, 40, .inl f))) (ok : rw_ok f xs) : AM d kR_has 0 0 none [.ref i, .int k] h (fun r h' => ∃ v, r = some (.int v) ∧ h' = h ∧ (v = 0 ∨ v = 1) ∧ (v = 0 ↔ ¬ rHas xs k)) := by
  obtain ⟨o1, o2⟩ := ok
  refine AX.iload_n rfl rfl ?_
  have no : ∀ q : ¬ rHas xs k, AX d kR_has 0 0 none 25 (lv_args 0 [.ref i, .int k]) [] h 0 0 (ax_ret kR_has 0 0 (fun r h' => ∃ v, r = some (.int v) ∧ h' = h ∧ (v = 0 ∨ v = 1) ∧ (v = 0 ↔ ¬ rHas xs k))) := by
    intro q
    refine AX.iconstV (v := 0) rfl (by decide) ?_
    exact AX.zreturn rfl rfl (Or.inl rfl) ⟨0, rfl, rfl, Or.inl rfl, by simp [q]⟩ (Nat.le_refl _) (Nat.le_refl _)
  refine AX.if_lt rfl (fun c => no (fun q => q.1 c)) (fun c => ?_)
  obtain ⟨m, hm1, hm2, hm3⟩ := i_pos c
  refine AX.iload_n rfl rfl ?_
  refine AX.aload_n rfl rfl ?_
  refine AX.getf rfl hi rfl ?_
  refine AX.icmp_ge rfl (fun c2 => no (fun q => ?_)) (fun c2 => ?_)
  · rw [hm2, nI_leI (by omega) hm1] at c2
    have := q.2
    rw [hm3] at this
    omega
  rw [hm2, nI_leI (by omega) hm1] at c2
  refine AX.iload_n rfl rfl ?_
  refine AX.aload_n rfl rfl ?_
  refine AX.getf rfl hi rfl ?_
  refine AX.alen rfl hj (by decide) ?_
  refine AX.icmp_ge rfl (fun c3 => ?_) (fun c3 => ?_)
  · exfalso
    have c4 : nI 40 ≤ k := c3
    rw [hm2, nI_leI (by decide) hm1] at c4
    omega
  refine AX.iconstV (v := 1) rfl (by decide) ?_
  refine AX.goto rfl ?_
  exact AX.zreturn rfl rfl (Or.inr rfl) ⟨1, rfl, rfl, Or.inr rfl, by
    have : rHas xs k := ⟨c, by rw [hm3]; omega⟩
    simp [this]⟩ (Nat.le_refl _) (Nat.le_refl _)
