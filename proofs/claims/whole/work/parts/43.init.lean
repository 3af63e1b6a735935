/-! The constructors -/
section IN
variable {d : Nat} {h : ax_H}
theorem sR_init {i : Nat} (hi : h[i]? = some (.inr (2, [.null, .int 0]))) (hok : h.all (ax_okE h.length) = true) : AM (d + 1) kR_init 1 40 none [.ref i] h (fun r h' => r = none ∧ h' = (h ++ ([.inl (0, 40, .inl (fun _ => 0))] : ax_H)).set i (.inr (2, [.ref h.length, .int 0]))) := by
  have hl := (List.getElem?_eq_some_iff.mp hi).1
  have hv : decide (i < h.length) = true := by simpa using hl
  refine AX.aload_n rfl rfl ?_
  refine AX.objInit rfl (by decide) ?_
  refine AX.aload_n rfl rfl ?_
  refine AX.bipushV (v := 40) rfl (by decide) ?_
  refine AX.newI 40 rfl (by decide) (by decide) (by decide) hok (by simp [ax_okF, ax_ok, lv_args, hl]) (by decide) (by decide) ?_
  refine AX.putf rfl (by rw [List.getElem?_append_left hl]; exact hi) (by decide) rfl ?_
  exact AX.vreturn rfl rfl ⟨rfl, rfl⟩ (by decide) (by decide)
theorem sC_init : AM (d + 2) kC_init 13 292 none [.ref 1] ([.inr (3, [.int 0, .int 0, .int 0, .null, .null, .null, .null, .int 0, .int 0, .int 0]), .inr (0, [.null, .null, .null, .null, .null, .null, .null, .int 0])] : ax_H) (fun r h' => r = none ∧ h' = [.inr (3, [.int 0, .int 0, .int 0, .null, .null, .null, .null, .int 0, .int 0, .int 0]), .inr (0, [.ref 2, .ref 4, .ref 6, .ref 8, .ref 10, .ref 12, .ref 14, .int 0]), .inr (2, [.ref 3, .int 0]), .inl (0, 40, .inl (fun _ => 0)), .inr (2, [.ref 5, .int 0]), .inl (0, 40, .inl (fun _ => 0)), .inr (2, [.ref 7, .int 0]), .inl (0, 40, .inl (fun _ => 0)), .inr (2, [.ref 9, .int 0]), .inl (0, 40, .inl (fun _ => 0)), .inr (2, [.ref 11, .int 0]), .inl (0, 40, .inl (fun _ => 0)), .inr (2, [.ref 13, .int 0]), .inl (0, 40, .inl (fun _ => 0)), .inl (1, 40, .inr (.inl (fun _ => 0)))]) := by
  refine AX.aload_n rfl rfl ?_
  refine AX.objInit rfl (by decide) ?_
  refine AX.aload_n rfl rfl ?_
  refine AX.new rfl rfl rfl (by decide) (by decide) ?_
  refine AX.dup rfl rfl ?_
  refine AX.callI rfl (by decide) rfl rfl (by decide) (sR_init (d := d) (i := 2) rfl rfl) (Or.inl rfl) (by decide) (by decide) (by decide) (Or.inr rfl) (fun r h' q => ?_)
  obtain ⟨rfl, rfl⟩ := q
  refine AX.putf rfl rfl (Nat.le_of_ble_eq_true rfl) rfl ?_
  refine AX.gen (G := fun h => h = [.inr (3, [.int 0, .int 0, .int 0, .null, .null, .null, .null, .int 0, .int 0, .int 0]), .inr (0, [.ref 2, .null, .null, .null, .null, .null, .null, .int 0]), .inr (2, [.ref 3, .int 0]), .inl (0, 40, .inl (fun _ => 0))]) rfl (fun h e => ?_)
  subst e
  refine AX.aload_n rfl rfl ?_
  refine AX.new rfl rfl rfl (by decide) (by decide) ?_
  refine AX.dup rfl rfl ?_
  refine AX.callI rfl (by decide) rfl rfl (by decide) (sR_init (d := d) (i := 4) rfl rfl) (Or.inl rfl) (by decide) (by decide) (by decide) (Or.inr rfl) (fun r h' q => ?_)
  obtain ⟨rfl, rfl⟩ := q
  refine AX.putf rfl rfl (Nat.le_of_ble_eq_true rfl) rfl ?_
  refine AX.gen (G := fun h => h = [.inr (3, [.int 0, .int 0, .int 0, .null, .null, .null, .null, .int 0, .int 0, .int 0]), .inr (0, [.ref 2, .ref 4, .null, .null, .null, .null, .null, .int 0]), .inr (2, [.ref 3, .int 0]), .inl (0, 40, .inl (fun _ => 0)), .inr (2, [.ref 5, .int 0]), .inl (0, 40, .inl (fun _ => 0))]) rfl (fun h e => ?_)
  subst e
  refine AX.aload_n rfl rfl ?_
  refine AX.new rfl rfl rfl (by decide) (by decide) ?_
  refine AX.dup rfl rfl ?_
  refine AX.callI rfl (by decide) rfl rfl (by decide) (sR_init (d := d) (i := 6) rfl rfl) (Or.inl rfl) (by decide) (by decide) (by decide) (Or.inr rfl) (fun r h' q => ?_)
  obtain ⟨rfl, rfl⟩ := q
  refine AX.putf rfl rfl (Nat.le_of_ble_eq_true rfl) rfl ?_
  refine AX.gen (G := fun h => h = [.inr (3, [.int 0, .int 0, .int 0, .null, .null, .null, .null, .int 0, .int 0, .int 0]), .inr (0, [.ref 2, .ref 4, .ref 6, .null, .null, .null, .null, .int 0]), .inr (2, [.ref 3, .int 0]), .inl (0, 40, .inl (fun _ => 0)), .inr (2, [.ref 5, .int 0]), .inl (0, 40, .inl (fun _ => 0)), .inr (2, [.ref 7, .int 0]), .inl (0, 40, .inl (fun _ => 0))]) rfl (fun h e => ?_)
  subst e
  refine AX.aload_n rfl rfl ?_
  refine AX.new rfl rfl rfl (by decide) (by decide) ?_
  refine AX.dup rfl rfl ?_
  refine AX.callI rfl (by decide) rfl rfl (by decide) (sR_init (d := d) (i := 8) rfl rfl) (Or.inl rfl) (by decide) (by decide) (by decide) (Or.inr rfl) (fun r h' q => ?_)
  obtain ⟨rfl, rfl⟩ := q
  refine AX.putf rfl rfl (Nat.le_of_ble_eq_true rfl) rfl ?_
  refine AX.gen (G := fun h => h = [.inr (3, [.int 0, .int 0, .int 0, .null, .null, .null, .null, .int 0, .int 0, .int 0]), .inr (0, [.ref 2, .ref 4, .ref 6, .ref 8, .null, .null, .null, .int 0]), .inr (2, [.ref 3, .int 0]), .inl (0, 40, .inl (fun _ => 0)), .inr (2, [.ref 5, .int 0]), .inl (0, 40, .inl (fun _ => 0)), .inr (2, [.ref 7, .int 0]), .inl (0, 40, .inl (fun _ => 0)), .inr (2, [.ref 9, .int 0]), .inl (0, 40, .inl (fun _ => 0))]) rfl (fun h e => ?_)
  subst e
  refine AX.aload_n rfl rfl ?_
  refine AX.new rfl rfl rfl (by decide) (by decide) ?_
  refine AX.dup rfl rfl ?_
  refine AX.callI rfl (by decide) rfl rfl (by decide) (sR_init (d := d) (i := 10) rfl rfl) (Or.inl rfl) (by decide) (by decide) (by decide) (Or.inr rfl) (fun r h' q => ?_)
  obtain ⟨rfl, rfl⟩ := q
  refine AX.putf rfl rfl (Nat.le_of_ble_eq_true rfl) rfl ?_
  refine AX.gen (G := fun h => h = [.inr (3, [.int 0, .int 0, .int 0, .null, .null, .null, .null, .int 0, .int 0, .int 0]), .inr (0, [.ref 2, .ref 4, .ref 6, .ref 8, .ref 10, .null, .null, .int 0]), .inr (2, [.ref 3, .int 0]), .inl (0, 40, .inl (fun _ => 0)), .inr (2, [.ref 5, .int 0]), .inl (0, 40, .inl (fun _ => 0)), .inr (2, [.ref 7, .int 0]), .inl (0, 40, .inl (fun _ => 0)), .inr (2, [.ref 9, .int 0]), .inl (0, 40, .inl (fun _ => 0)), .inr (2, [.ref 11, .int 0]), .inl (0, 40, .inl (fun _ => 0))]) rfl (fun h e => ?_)
  subst e
  refine AX.aload_n rfl rfl ?_
  refine AX.new rfl rfl rfl (by decide) (by decide) ?_
  refine AX.dup rfl rfl ?_
  refine AX.callI rfl (by decide) rfl rfl (by decide) (sR_init (d := d) (i := 12) rfl rfl) (Or.inl rfl) (by decide) (by decide) (by decide) (Or.inr rfl) (fun r h' q => ?_)
  obtain ⟨rfl, rfl⟩ := q
  refine AX.putf rfl rfl (Nat.le_of_ble_eq_true rfl) rfl ?_
  refine AX.gen (G := fun h => h = [.inr (3, [.int 0, .int 0, .int 0, .null, .null, .null, .null, .int 0, .int 0, .int 0]), .inr (0, [.ref 2, .ref 4, .ref 6, .ref 8, .ref 10, .ref 12, .null, .int 0]), .inr (2, [.ref 3, .int 0]), .inl (0, 40, .inl (fun _ => 0)), .inr (2, [.ref 5, .int 0]), .inl (0, 40, .inl (fun _ => 0)), .inr (2, [.ref 7, .int 0]), .inl (0, 40, .inl (fun _ => 0)), .inr (2, [.ref 9, .int 0]), .inl (0, 40, .inl (fun _ => 0)), .inr (2, [.ref 11, .int 0]), .inl (0, 40, .inl (fun _ => 0)), .inr (2, [.ref 13, .int 0]), .inl (0, 40, .inl (fun _ => 0))]) rfl (fun h e => ?_)
  subst e
  refine AX.aload_n rfl rfl ?_
  refine AX.bipushV (v := 40) rfl (by decide) ?_
  refine AX.newJ 40 rfl (by decide) (by decide) (by decide) rfl rfl (by decide) (by decide) ?_
  refine AX.putf rfl rfl (Nat.le_of_ble_eq_true rfl) rfl ?_
  exact AX.vreturn rfl rfl ⟨rfl, rfl⟩ (by decide) (by decide)
theorem sG_init : AM (d + 2) kG_init 8 168 none [.ref 19] ([.inr (3, [.int 0, .int 0, .int 0, .ref 1, .ref 15, .ref 17, .null, .int 0, .int 0, .int 0]), .inr (0, [.ref 2, .ref 4, .ref 6, .ref 8, .ref 10, .ref 12, .ref 14, .int 0]), .inr (2, [.ref 3, .int 0]), .inl (0, 40, .inl (fun _ => 0)), .inr (2, [.ref 5, .int 0]), .inl (0, 40, .inl (fun _ => 0)), .inr (2, [.ref 7, .int 0]), .inl (0, 40, .inl (fun _ => 0)), .inr (2, [.ref 9, .int 0]), .inl (0, 40, .inl (fun _ => 0)), .inr (2, [.ref 11, .int 0]), .inl (0, 40, .inl (fun _ => 0)), .inr (2, [.ref 13, .int 0]), .inl (0, 40, .inl (fun _ => 0)), .inl (1, 40, .inr (.inl (fun _ => 0))), .inr (2, [.ref 16, .int 0]), .inl (0, 40, .inl (fun _ => 0)), .inr (2, [.ref 18, .int 0]), .inl (0, 40, .inl (fun _ => 0)), .inr (1, [.null, .null, .null, .null, .int 0])] : ax_H) (fun r h' => r = none ∧ h' = [.inr (3, [.int 0, .int 0, .int 0, .ref 1, .ref 15, .ref 17, .null, .int 0, .int 0, .int 0]), .inr (0, [.ref 2, .ref 4, .ref 6, .ref 8, .ref 10, .ref 12, .ref 14, .int 0]), .inr (2, [.ref 3, .int 0]), .inl (0, 40, .inl (fun _ => 0)), .inr (2, [.ref 5, .int 0]), .inl (0, 40, .inl (fun _ => 0)), .inr (2, [.ref 7, .int 0]), .inl (0, 40, .inl (fun _ => 0)), .inr (2, [.ref 9, .int 0]), .inl (0, 40, .inl (fun _ => 0)), .inr (2, [.ref 11, .int 0]), .inl (0, 40, .inl (fun _ => 0)), .inr (2, [.ref 13, .int 0]), .inl (0, 40, .inl (fun _ => 0)), .inl (1, 40, .inr (.inl (fun _ => 0))), .inr (2, [.ref 16, .int 0]), .inl (0, 40, .inl (fun _ => 0)), .inr (2, [.ref 18, .int 0]), .inl (0, 40, .inl (fun _ => 0)), .inr (1, [.ref 20, .ref 22, .ref 24, .ref 26, .int 0]), .inr (2, [.ref 21, .int 0]), .inl (0, 40, .inl (fun _ => 0)), .inr (2, [.ref 23, .int 0]), .inl (0, 40, .inl (fun _ => 0)), .inr (2, [.ref 25, .int 0]), .inl (0, 40, .inl (fun _ => 0)), .inr (2, [.ref 27, .int 0]), .inl (0, 40, .inl (fun _ => 0))]) := by
  refine AX.aload_n rfl rfl ?_
  refine AX.objInit rfl (by decide) ?_
  refine AX.aload_n rfl rfl ?_
  refine AX.new rfl rfl rfl (by decide) (by decide) ?_
  refine AX.dup rfl rfl ?_
  refine AX.callI rfl (by decide) rfl rfl (by decide) (sR_init (d := d) (i := 20) rfl rfl) (Or.inl rfl) (by decide) (by decide) (by decide) (Or.inr rfl) (fun r h' q => ?_)
  obtain ⟨rfl, rfl⟩ := q
  refine AX.putf rfl rfl (Nat.le_of_ble_eq_true rfl) rfl ?_
  refine AX.gen (G := fun h => h = [.inr (3, [.int 0, .int 0, .int 0, .ref 1, .ref 15, .ref 17, .null, .int 0, .int 0, .int 0]), .inr (0, [.ref 2, .ref 4, .ref 6, .ref 8, .ref 10, .ref 12, .ref 14, .int 0]), .inr (2, [.ref 3, .int 0]), .inl (0, 40, .inl (fun _ => 0)), .inr (2, [.ref 5, .int 0]), .inl (0, 40, .inl (fun _ => 0)), .inr (2, [.ref 7, .int 0]), .inl (0, 40, .inl (fun _ => 0)), .inr (2, [.ref 9, .int 0]), .inl (0, 40, .inl (fun _ => 0)), .inr (2, [.ref 11, .int 0]), .inl (0, 40, .inl (fun _ => 0)), .inr (2, [.ref 13, .int 0]), .inl (0, 40, .inl (fun _ => 0)), .inl (1, 40, .inr (.inl (fun _ => 0))), .inr (2, [.ref 16, .int 0]), .inl (0, 40, .inl (fun _ => 0)), .inr (2, [.ref 18, .int 0]), .inl (0, 40, .inl (fun _ => 0)), .inr (1, [.ref 20, .null, .null, .null, .int 0]), .inr (2, [.ref 21, .int 0]), .inl (0, 40, .inl (fun _ => 0))]) rfl (fun h e => ?_)
  subst e
  refine AX.aload_n rfl rfl ?_
  refine AX.new rfl rfl rfl (by decide) (by decide) ?_
  refine AX.dup rfl rfl ?_
  refine AX.callI rfl (by decide) rfl rfl (by decide) (sR_init (d := d) (i := 22) rfl rfl) (Or.inl rfl) (by decide) (by decide) (by decide) (Or.inr rfl) (fun r h' q => ?_)
  obtain ⟨rfl, rfl⟩ := q
  refine AX.putf rfl rfl (Nat.le_of_ble_eq_true rfl) rfl ?_
  refine AX.gen (G := fun h => h = [.inr (3, [.int 0, .int 0, .int 0, .ref 1, .ref 15, .ref 17, .null, .int 0, .int 0, .int 0]), .inr (0, [.ref 2, .ref 4, .ref 6, .ref 8, .ref 10, .ref 12, .ref 14, .int 0]), .inr (2, [.ref 3, .int 0]), .inl (0, 40, .inl (fun _ => 0)), .inr (2, [.ref 5, .int 0]), .inl (0, 40, .inl (fun _ => 0)), .inr (2, [.ref 7, .int 0]), .inl (0, 40, .inl (fun _ => 0)), .inr (2, [.ref 9, .int 0]), .inl (0, 40, .inl (fun _ => 0)), .inr (2, [.ref 11, .int 0]), .inl (0, 40, .inl (fun _ => 0)), .inr (2, [.ref 13, .int 0]), .inl (0, 40, .inl (fun _ => 0)), .inl (1, 40, .inr (.inl (fun _ => 0))), .inr (2, [.ref 16, .int 0]), .inl (0, 40, .inl (fun _ => 0)), .inr (2, [.ref 18, .int 0]), .inl (0, 40, .inl (fun _ => 0)), .inr (1, [.ref 20, .ref 22, .null, .null, .int 0]), .inr (2, [.ref 21, .int 0]), .inl (0, 40, .inl (fun _ => 0)), .inr (2, [.ref 23, .int 0]), .inl (0, 40, .inl (fun _ => 0))]) rfl (fun h e => ?_)
  subst e
  refine AX.aload_n rfl rfl ?_
  refine AX.new rfl rfl rfl (by decide) (by decide) ?_
  refine AX.dup rfl rfl ?_
  refine AX.callI rfl (by decide) rfl rfl (by decide) (sR_init (d := d) (i := 24) rfl rfl) (Or.inl rfl) (by decide) (by decide) (by decide) (Or.inr rfl) (fun r h' q => ?_)
  obtain ⟨rfl, rfl⟩ := q
  refine AX.putf rfl rfl (Nat.le_of_ble_eq_true rfl) rfl ?_
  refine AX.gen (G := fun h => h = [.inr (3, [.int 0, .int 0, .int 0, .ref 1, .ref 15, .ref 17, .null, .int 0, .int 0, .int 0]), .inr (0, [.ref 2, .ref 4, .ref 6, .ref 8, .ref 10, .ref 12, .ref 14, .int 0]), .inr (2, [.ref 3, .int 0]), .inl (0, 40, .inl (fun _ => 0)), .inr (2, [.ref 5, .int 0]), .inl (0, 40, .inl (fun _ => 0)), .inr (2, [.ref 7, .int 0]), .inl (0, 40, .inl (fun _ => 0)), .inr (2, [.ref 9, .int 0]), .inl (0, 40, .inl (fun _ => 0)), .inr (2, [.ref 11, .int 0]), .inl (0, 40, .inl (fun _ => 0)), .inr (2, [.ref 13, .int 0]), .inl (0, 40, .inl (fun _ => 0)), .inl (1, 40, .inr (.inl (fun _ => 0))), .inr (2, [.ref 16, .int 0]), .inl (0, 40, .inl (fun _ => 0)), .inr (2, [.ref 18, .int 0]), .inl (0, 40, .inl (fun _ => 0)), .inr (1, [.ref 20, .ref 22, .ref 24, .null, .int 0]), .inr (2, [.ref 21, .int 0]), .inl (0, 40, .inl (fun _ => 0)), .inr (2, [.ref 23, .int 0]), .inl (0, 40, .inl (fun _ => 0)), .inr (2, [.ref 25, .int 0]), .inl (0, 40, .inl (fun _ => 0))]) rfl (fun h e => ?_)
  subst e
  refine AX.aload_n rfl rfl ?_
  refine AX.new rfl rfl rfl (by decide) (by decide) ?_
  refine AX.dup rfl rfl ?_
  refine AX.callI rfl (by decide) rfl rfl (by decide) (sR_init (d := d) (i := 26) rfl rfl) (Or.inl rfl) (by decide) (by decide) (by decide) (Or.inr rfl) (fun r h' q => ?_)
  obtain ⟨rfl, rfl⟩ := q
  refine AX.putf rfl rfl (Nat.le_of_ble_eq_true rfl) rfl ?_
  refine AX.gen (G := fun h => h = [.inr (3, [.int 0, .int 0, .int 0, .ref 1, .ref 15, .ref 17, .null, .int 0, .int 0, .int 0]), .inr (0, [.ref 2, .ref 4, .ref 6, .ref 8, .ref 10, .ref 12, .ref 14, .int 0]), .inr (2, [.ref 3, .int 0]), .inl (0, 40, .inl (fun _ => 0)), .inr (2, [.ref 5, .int 0]), .inl (0, 40, .inl (fun _ => 0)), .inr (2, [.ref 7, .int 0]), .inl (0, 40, .inl (fun _ => 0)), .inr (2, [.ref 9, .int 0]), .inl (0, 40, .inl (fun _ => 0)), .inr (2, [.ref 11, .int 0]), .inl (0, 40, .inl (fun _ => 0)), .inr (2, [.ref 13, .int 0]), .inl (0, 40, .inl (fun _ => 0)), .inl (1, 40, .inr (.inl (fun _ => 0))), .inr (2, [.ref 16, .int 0]), .inl (0, 40, .inl (fun _ => 0)), .inr (2, [.ref 18, .int 0]), .inl (0, 40, .inl (fun _ => 0)), .inr (1, [.ref 20, .ref 22, .ref 24, .ref 26, .int 0]), .inr (2, [.ref 21, .int 0]), .inl (0, 40, .inl (fun _ => 0)), .inr (2, [.ref 23, .int 0]), .inl (0, 40, .inl (fun _ => 0)), .inr (2, [.ref 25, .int 0]), .inl (0, 40, .inl (fun _ => 0)), .inr (2, [.ref 27, .int 0]), .inl (0, 40, .inl (fun _ => 0))]) rfl (fun h e => ?_)
  subst e
  exact AX.vreturn rfl rfl ⟨rfl, rfl⟩ (by decide) (by decide)
def near (v top : Int32) : Int32 := if (1 : Int32) < (if top < v then top else v) then (if top < v then top else v) else 1
theorem sQ_nearest (v top : Int32) : AM (d + 1) kQ_nearest 0 0 none [.int v, .int top] h (fun r h' => r = some (.int (near v top)) ∧ h' = h) := by
  refine AX.iconstV (v := 1) rfl (by decide) ?_
  refine AX.iload_n rfl rfl ?_
  refine AX.iload_n rfl rfl ?_
  refine AX.mmin rfl (by decide) (by decide) (by decide) ?_
  refine AX.mmax rfl (by decide) (by decide) (by decide) ?_
  exact AX.ireturn rfl rfl ⟨rfl, rfl⟩ (by decide) (by decide)
def zI (a b c : Int32) : zS := (fun i => if i = 0 then near a 8 else if i = 1 then near b 4 else if i = 2 then near c 3 else 0, fun _ => [], fun _ => 0)
theorem sQ_init (a b c : Int32) : AM (d + 3) kQ_init 27 557 none [.ref 0, .int a, .int b, .int c] ([.inr (3, [.int 0, .int 0, .int 0, .null, .null, .null, .null, .int 0, .int 0, .int 0])] : ax_H) (fun r h' => r = none ∧ h' = QH (zI a b c) (fun _ _ => 0) []) := by
  refine AX.aload_n rfl rfl ?_
  refine AX.objInit rfl (by decide) ?_
  refine AX.aload_n rfl rfl ?_
  refine AX.new rfl rfl rfl (by decide) (by decide) ?_
  refine AX.dup rfl rfl ?_
  refine AX.callI rfl (by decide) rfl rfl (by decide) (sC_init (d := d)) (Or.inl rfl) (by decide) (by decide) (by decide) (Or.inr rfl) (fun r h' q => ?_)
  obtain ⟨rfl, rfl⟩ := q
  refine AX.putf rfl rfl (Nat.le_of_ble_eq_true rfl) rfl ?_
  refine AX.gen (G := fun h => h = [.inr (3, [.int 0, .int 0, .int 0, .ref 1, .null, .null, .null, .int 0, .int 0, .int 0]), .inr (0, [.ref 2, .ref 4, .ref 6, .ref 8, .ref 10, .ref 12, .ref 14, .int 0]), .inr (2, [.ref 3, .int 0]), .inl (0, 40, .inl (fun _ => 0)), .inr (2, [.ref 5, .int 0]), .inl (0, 40, .inl (fun _ => 0)), .inr (2, [.ref 7, .int 0]), .inl (0, 40, .inl (fun _ => 0)), .inr (2, [.ref 9, .int 0]), .inl (0, 40, .inl (fun _ => 0)), .inr (2, [.ref 11, .int 0]), .inl (0, 40, .inl (fun _ => 0)), .inr (2, [.ref 13, .int 0]), .inl (0, 40, .inl (fun _ => 0)), .inl (1, 40, .inr (.inl (fun _ => 0)))]) rfl (fun h e => ?_)
  subst e
  refine AX.aload_n rfl rfl ?_
  refine AX.new rfl rfl rfl (by decide) (by decide) ?_
  refine AX.dup rfl rfl ?_
  refine AX.callI rfl (by decide) rfl rfl (by decide) (sR_init (d := d + 1) (i := 15) rfl rfl) (Or.inl rfl) (by decide) (by decide) (by decide) (Or.inr rfl) (fun r h' q => ?_)
  obtain ⟨rfl, rfl⟩ := q
  refine AX.putf rfl rfl (Nat.le_of_ble_eq_true rfl) rfl ?_
  refine AX.gen (G := fun h => h = [.inr (3, [.int 0, .int 0, .int 0, .ref 1, .ref 15, .null, .null, .int 0, .int 0, .int 0]), .inr (0, [.ref 2, .ref 4, .ref 6, .ref 8, .ref 10, .ref 12, .ref 14, .int 0]), .inr (2, [.ref 3, .int 0]), .inl (0, 40, .inl (fun _ => 0)), .inr (2, [.ref 5, .int 0]), .inl (0, 40, .inl (fun _ => 0)), .inr (2, [.ref 7, .int 0]), .inl (0, 40, .inl (fun _ => 0)), .inr (2, [.ref 9, .int 0]), .inl (0, 40, .inl (fun _ => 0)), .inr (2, [.ref 11, .int 0]), .inl (0, 40, .inl (fun _ => 0)), .inr (2, [.ref 13, .int 0]), .inl (0, 40, .inl (fun _ => 0)), .inl (1, 40, .inr (.inl (fun _ => 0))), .inr (2, [.ref 16, .int 0]), .inl (0, 40, .inl (fun _ => 0))]) rfl (fun h e => ?_)
  subst e
  refine AX.aload_n rfl rfl ?_
  refine AX.new rfl rfl rfl (by decide) (by decide) ?_
  refine AX.dup rfl rfl ?_
  refine AX.callI rfl (by decide) rfl rfl (by decide) (sR_init (d := d + 1) (i := 17) rfl rfl) (Or.inl rfl) (by decide) (by decide) (by decide) (Or.inr rfl) (fun r h' q => ?_)
  obtain ⟨rfl, rfl⟩ := q
  refine AX.putf rfl rfl (Nat.le_of_ble_eq_true rfl) rfl ?_
  refine AX.gen (G := fun h => h = [.inr (3, [.int 0, .int 0, .int 0, .ref 1, .ref 15, .ref 17, .null, .int 0, .int 0, .int 0]), .inr (0, [.ref 2, .ref 4, .ref 6, .ref 8, .ref 10, .ref 12, .ref 14, .int 0]), .inr (2, [.ref 3, .int 0]), .inl (0, 40, .inl (fun _ => 0)), .inr (2, [.ref 5, .int 0]), .inl (0, 40, .inl (fun _ => 0)), .inr (2, [.ref 7, .int 0]), .inl (0, 40, .inl (fun _ => 0)), .inr (2, [.ref 9, .int 0]), .inl (0, 40, .inl (fun _ => 0)), .inr (2, [.ref 11, .int 0]), .inl (0, 40, .inl (fun _ => 0)), .inr (2, [.ref 13, .int 0]), .inl (0, 40, .inl (fun _ => 0)), .inl (1, 40, .inr (.inl (fun _ => 0))), .inr (2, [.ref 16, .int 0]), .inl (0, 40, .inl (fun _ => 0)), .inr (2, [.ref 18, .int 0]), .inl (0, 40, .inl (fun _ => 0))]) rfl (fun h e => ?_)
  subst e
  refine AX.aload_n rfl rfl ?_
  refine AX.new rfl rfl rfl (by decide) (by decide) ?_
  refine AX.dup rfl rfl ?_
  refine AX.callI rfl (by decide) rfl rfl (by decide) (sG_init (d := d)) (Or.inl rfl) (by decide) (by decide) (by decide) (Or.inr rfl) (fun r h' q => ?_)
  obtain ⟨rfl, rfl⟩ := q
  refine AX.putf rfl rfl (Nat.le_of_ble_eq_true rfl) rfl ?_
  refine AX.gen (G := fun h => h = [.inr (3, [.int 0, .int 0, .int 0, .ref 1, .ref 15, .ref 17, .ref 19, .int 0, .int 0, .int 0]), .inr (0, [.ref 2, .ref 4, .ref 6, .ref 8, .ref 10, .ref 12, .ref 14, .int 0]), .inr (2, [.ref 3, .int 0]), .inl (0, 40, .inl (fun _ => 0)), .inr (2, [.ref 5, .int 0]), .inl (0, 40, .inl (fun _ => 0)), .inr (2, [.ref 7, .int 0]), .inl (0, 40, .inl (fun _ => 0)), .inr (2, [.ref 9, .int 0]), .inl (0, 40, .inl (fun _ => 0)), .inr (2, [.ref 11, .int 0]), .inl (0, 40, .inl (fun _ => 0)), .inr (2, [.ref 13, .int 0]), .inl (0, 40, .inl (fun _ => 0)), .inl (1, 40, .inr (.inl (fun _ => 0))), .inr (2, [.ref 16, .int 0]), .inl (0, 40, .inl (fun _ => 0)), .inr (2, [.ref 18, .int 0]), .inl (0, 40, .inl (fun _ => 0)), .inr (1, [.ref 20, .ref 22, .ref 24, .ref 26, .int 0]), .inr (2, [.ref 21, .int 0]), .inl (0, 40, .inl (fun _ => 0)), .inr (2, [.ref 23, .int 0]), .inl (0, 40, .inl (fun _ => 0)), .inr (2, [.ref 25, .int 0]), .inl (0, 40, .inl (fun _ => 0)), .inr (2, [.ref 27, .int 0]), .inl (0, 40, .inl (fun _ => 0))]) rfl (fun h e => ?_)
  subst e
  refine AX.aload_n rfl rfl ?_
  refine AX.iload_n rfl rfl ?_
  refine AX.bipushV (v := 8) rfl (by decide) ?_
  refine AX.callS rfl (by decide) rfl rfl (Nat.le_of_ble_eq_true rfl) (sQ_nearest (d := d + 1) a 8) (Or.inl rfl) (by decide) (by decide) (Nat.le_of_ble_eq_true rfl) (Or.inl rfl) (fun r h' q => ?_)
  obtain ⟨rfl, rfl⟩ := q
  refine AX.putf rfl rfl (Nat.le_of_ble_eq_true rfl) rfl ?_
  refine AX.gen (G := fun h => h = [.inr (3, [.int (near a 8), .int 0, .int 0, .ref 1, .ref 15, .ref 17, .ref 19, .int 0, .int 0, .int 0]), .inr (0, [.ref 2, .ref 4, .ref 6, .ref 8, .ref 10, .ref 12, .ref 14, .int 0]), .inr (2, [.ref 3, .int 0]), .inl (0, 40, .inl (fun _ => 0)), .inr (2, [.ref 5, .int 0]), .inl (0, 40, .inl (fun _ => 0)), .inr (2, [.ref 7, .int 0]), .inl (0, 40, .inl (fun _ => 0)), .inr (2, [.ref 9, .int 0]), .inl (0, 40, .inl (fun _ => 0)), .inr (2, [.ref 11, .int 0]), .inl (0, 40, .inl (fun _ => 0)), .inr (2, [.ref 13, .int 0]), .inl (0, 40, .inl (fun _ => 0)), .inl (1, 40, .inr (.inl (fun _ => 0))), .inr (2, [.ref 16, .int 0]), .inl (0, 40, .inl (fun _ => 0)), .inr (2, [.ref 18, .int 0]), .inl (0, 40, .inl (fun _ => 0)), .inr (1, [.ref 20, .ref 22, .ref 24, .ref 26, .int 0]), .inr (2, [.ref 21, .int 0]), .inl (0, 40, .inl (fun _ => 0)), .inr (2, [.ref 23, .int 0]), .inl (0, 40, .inl (fun _ => 0)), .inr (2, [.ref 25, .int 0]), .inl (0, 40, .inl (fun _ => 0)), .inr (2, [.ref 27, .int 0]), .inl (0, 40, .inl (fun _ => 0))]) rfl (fun h e => ?_)
  subst e
  refine AX.aload_n rfl rfl ?_
  refine AX.iload_n rfl rfl ?_
  refine AX.iconstV (v := 4) rfl (by decide) ?_
  refine AX.callS rfl (by decide) rfl rfl (Nat.le_of_ble_eq_true rfl) (sQ_nearest (d := d + 1) b 4) (Or.inl rfl) (by decide) (by decide) (Nat.le_of_ble_eq_true rfl) (Or.inl rfl) (fun r h' q => ?_)
  obtain ⟨rfl, rfl⟩ := q
  refine AX.putf rfl rfl (Nat.le_of_ble_eq_true rfl) rfl ?_
  refine AX.gen (G := fun h => h = [.inr (3, [.int (near a 8), .int (near b 4), .int 0, .ref 1, .ref 15, .ref 17, .ref 19, .int 0, .int 0, .int 0]), .inr (0, [.ref 2, .ref 4, .ref 6, .ref 8, .ref 10, .ref 12, .ref 14, .int 0]), .inr (2, [.ref 3, .int 0]), .inl (0, 40, .inl (fun _ => 0)), .inr (2, [.ref 5, .int 0]), .inl (0, 40, .inl (fun _ => 0)), .inr (2, [.ref 7, .int 0]), .inl (0, 40, .inl (fun _ => 0)), .inr (2, [.ref 9, .int 0]), .inl (0, 40, .inl (fun _ => 0)), .inr (2, [.ref 11, .int 0]), .inl (0, 40, .inl (fun _ => 0)), .inr (2, [.ref 13, .int 0]), .inl (0, 40, .inl (fun _ => 0)), .inl (1, 40, .inr (.inl (fun _ => 0))), .inr (2, [.ref 16, .int 0]), .inl (0, 40, .inl (fun _ => 0)), .inr (2, [.ref 18, .int 0]), .inl (0, 40, .inl (fun _ => 0)), .inr (1, [.ref 20, .ref 22, .ref 24, .ref 26, .int 0]), .inr (2, [.ref 21, .int 0]), .inl (0, 40, .inl (fun _ => 0)), .inr (2, [.ref 23, .int 0]), .inl (0, 40, .inl (fun _ => 0)), .inr (2, [.ref 25, .int 0]), .inl (0, 40, .inl (fun _ => 0)), .inr (2, [.ref 27, .int 0]), .inl (0, 40, .inl (fun _ => 0))]) rfl (fun h e => ?_)
  subst e
  refine AX.aload_n rfl rfl ?_
  refine AX.iload_n rfl rfl ?_
  refine AX.iconstV (v := 3) rfl (by decide) ?_
  refine AX.callS rfl (by decide) rfl rfl (Nat.le_of_ble_eq_true rfl) (sQ_nearest (d := d + 1) c 3) (Or.inl rfl) (by decide) (by decide) (Nat.le_of_ble_eq_true rfl) (Or.inl rfl) (fun r h' q => ?_)
  obtain ⟨rfl, rfl⟩ := q
  refine AX.putf rfl rfl (Nat.le_of_ble_eq_true rfl) rfl ?_
  refine AX.gen (G := fun h => h = [.inr (3, [.int (near a 8), .int (near b 4), .int (near c 3), .ref 1, .ref 15, .ref 17, .ref 19, .int 0, .int 0, .int 0]), .inr (0, [.ref 2, .ref 4, .ref 6, .ref 8, .ref 10, .ref 12, .ref 14, .int 0]), .inr (2, [.ref 3, .int 0]), .inl (0, 40, .inl (fun _ => 0)), .inr (2, [.ref 5, .int 0]), .inl (0, 40, .inl (fun _ => 0)), .inr (2, [.ref 7, .int 0]), .inl (0, 40, .inl (fun _ => 0)), .inr (2, [.ref 9, .int 0]), .inl (0, 40, .inl (fun _ => 0)), .inr (2, [.ref 11, .int 0]), .inl (0, 40, .inl (fun _ => 0)), .inr (2, [.ref 13, .int 0]), .inl (0, 40, .inl (fun _ => 0)), .inl (1, 40, .inr (.inl (fun _ => 0))), .inr (2, [.ref 16, .int 0]), .inl (0, 40, .inl (fun _ => 0)), .inr (2, [.ref 18, .int 0]), .inl (0, 40, .inl (fun _ => 0)), .inr (1, [.ref 20, .ref 22, .ref 24, .ref 26, .int 0]), .inr (2, [.ref 21, .int 0]), .inl (0, 40, .inl (fun _ => 0)), .inr (2, [.ref 23, .int 0]), .inl (0, 40, .inl (fun _ => 0)), .inr (2, [.ref 25, .int 0]), .inl (0, 40, .inl (fun _ => 0)), .inr (2, [.ref 27, .int 0]), .inl (0, 40, .inl (fun _ => 0))]) rfl (fun h e => ?_)
  subst e
  exact AX.vreturn rfl rfl ⟨rfl, rfl⟩ (by decide) (by decide)
theorem sM_within (v top : Int32) (ht : (1 : Int32) ≤ top) : AM d kM_within 0 0 none [.int v, .int top] h (fun r h' => r = some (.int (near v top)) ∧ h' = h) := by
  have key : near v top = if (1 : Int32) ≤ v then (if v ≤ top then v else top) else 1 := by
    unfold near
    by_cases h1 : (1 : Int32) ≤ v
    · by_cases h2 : v ≤ top
      · have a := Int32.not_lt.mpr h2
        simp only [a, if_false, h1, h2, if_true]
        by_cases h3 : (1 : Int32) < v
        · simp only [h3, if_true]
        · simp only [h3, if_false]; exact Int32.le_antisymm h1 (Int32.not_lt.mp h3)
      · have a := Int32.not_le.mp h2
        simp only [a, if_false, h1, h2, if_true]
        by_cases h3 : (1 : Int32) < top
        · simp only [h3, if_true]
        · simp only [h3, if_false]; exact Int32.le_antisymm ht (Int32.not_lt.mp h3)
    · have a : ¬ top < v := Int32.not_lt.mpr (Int32.le_trans (Int32.le_of_lt (Int32.not_le.mp h1)) ht)
      have b : ¬ (1 : Int32) < v := Int32.not_lt.mpr (Int32.le_of_lt (Int32.not_le.mp h1))
      simp only [a, if_false, h1, b]
  refine AX.iload_n rfl rfl ?_
  refine AX.iconstV (v := 1) rfl (by decide) ?_
  refine AX.icmp_ge rfl (fun c1 => ?_) (fun c1 => ?_)
  · refine AX.iload_n rfl rfl ?_
    refine AX.iload_n rfl rfl ?_
    refine AX.icmp_le rfl (fun c2 => ?_) (fun c2 => ?_)
    · refine AX.iload_n rfl rfl ?_
      exact AX.ireturn rfl rfl ⟨by rw [key, if_pos c1, if_pos c2], rfl⟩ (by decide) (by decide)
    · refine AX.iload_n rfl rfl ?_
      refine AX.goto rfl ?_
      exact AX.ireturn rfl rfl ⟨by rw [key, if_pos c1, if_neg c2], rfl⟩ (by decide) (by decide)
  · refine AX.iconstV (v := 1) rfl (by decide) ?_
    refine AX.goto rfl ?_
    exact AX.ireturn rfl rfl ⟨by rw [key, if_neg c1], rfl⟩ (by decide) (by decide)
def tI (a b c : Int32) : mS := (fun i => if i = 0 then near a 8 else if i = 1 then near b 4 else if i = 2 then near c 3 else 0, fun _ _ => 0)
theorem sM_init (a b c : Int32) : AM (d + 2) kM_init 12 2040 none [.ref 28, .int a, .int b, .int c] (QH (zI a b c) (fun _ _ => 0) [.inr (4, [.int 0, .int 0, .int 0, .int 0, .int 0, .int 0, .int 0, .int 0, .int 0, .int 0, .int 0, .int 0, .null, .null, .null, .null, .null, .null, .null, .null, .null, .null, .null, .null])] : ax_H) (fun r h' => r = none ∧ h' = QH (zI a b c) (fun _ _ => 0) (MH (tI a b c))) := by
  refine AX.aload_n rfl rfl ?_
  refine AX.objInit rfl (by decide) ?_
  refine AX.aload_n rfl rfl ?_
  refine AX.bipushV (v := 40) rfl (by decide) ?_
  refine AX.newI 40 rfl (by decide) (by decide) (by decide) rfl rfl (by decide) (by decide) ?_
  refine AX.putf rfl rfl (Nat.le_of_ble_eq_true rfl) rfl ?_
  refine AX.gen (G := fun h => h = QH (zI a b c) (fun _ _ => 0) [.inr (4, [.int 0, .int 0, .int 0, .int 0, .int 0, .int 0, .int 0, .int 0, .int 0, .int 0, .int 0, .int 0, .ref 29, .null, .null, .null, .null, .null, .null, .null, .null, .null, .null, .null]), .inl (0, 40, .inl (fun _ => 0))]) rfl (fun h e => ?_)
  subst e
  refine AX.aload_n rfl rfl ?_
  refine AX.bipushV (v := 40) rfl (by decide) ?_
  refine AX.newI 40 rfl (by decide) (by decide) (by decide) rfl rfl (by decide) (by decide) ?_
  refine AX.putf rfl rfl (Nat.le_of_ble_eq_true rfl) rfl ?_
  refine AX.gen (G := fun h => h = QH (zI a b c) (fun _ _ => 0) [.inr (4, [.int 0, .int 0, .int 0, .int 0, .int 0, .int 0, .int 0, .int 0, .int 0, .int 0, .int 0, .int 0, .ref 29, .ref 30, .null, .null, .null, .null, .null, .null, .null, .null, .null, .null]), .inl (0, 40, .inl (fun _ => 0)), .inl (0, 40, .inl (fun _ => 0))]) rfl (fun h e => ?_)
  subst e
  refine AX.aload_n rfl rfl ?_
  refine AX.bipushV (v := 40) rfl (by decide) ?_
  refine AX.newI 40 rfl (by decide) (by decide) (by decide) rfl rfl (by decide) (by decide) ?_
  refine AX.putf rfl rfl (Nat.le_of_ble_eq_true rfl) rfl ?_
  refine AX.gen (G := fun h => h = QH (zI a b c) (fun _ _ => 0) [.inr (4, [.int 0, .int 0, .int 0, .int 0, .int 0, .int 0, .int 0, .int 0, .int 0, .int 0, .int 0, .int 0, .ref 29, .ref 30, .ref 31, .null, .null, .null, .null, .null, .null, .null, .null, .null]), .inl (0, 40, .inl (fun _ => 0)), .inl (0, 40, .inl (fun _ => 0)), .inl (0, 40, .inl (fun _ => 0))]) rfl (fun h e => ?_)
  subst e
  refine AX.aload_n rfl rfl ?_
  refine AX.bipushV (v := 40) rfl (by decide) ?_
  refine AX.newI 40 rfl (by decide) (by decide) (by decide) rfl rfl (by decide) (by decide) ?_
  refine AX.putf rfl rfl (Nat.le_of_ble_eq_true rfl) rfl ?_
  refine AX.gen (G := fun h => h = QH (zI a b c) (fun _ _ => 0) [.inr (4, [.int 0, .int 0, .int 0, .int 0, .int 0, .int 0, .int 0, .int 0, .int 0, .int 0, .int 0, .int 0, .ref 29, .ref 30, .ref 31, .ref 32, .null, .null, .null, .null, .null, .null, .null, .null]), .inl (0, 40, .inl (fun _ => 0)), .inl (0, 40, .inl (fun _ => 0)), .inl (0, 40, .inl (fun _ => 0)), .inl (0, 40, .inl (fun _ => 0))]) rfl (fun h e => ?_)
  subst e
  refine AX.aload_n rfl rfl ?_
  refine AX.bipushV (v := 40) rfl (by decide) ?_
  refine AX.newI 40 rfl (by decide) (by decide) (by decide) rfl rfl (by decide) (by decide) ?_
  refine AX.putf rfl rfl (Nat.le_of_ble_eq_true rfl) rfl ?_
  refine AX.gen (G := fun h => h = QH (zI a b c) (fun _ _ => 0) [.inr (4, [.int 0, .int 0, .int 0, .int 0, .int 0, .int 0, .int 0, .int 0, .int 0, .int 0, .int 0, .int 0, .ref 29, .ref 30, .ref 31, .ref 32, .ref 33, .null, .null, .null, .null, .null, .null, .null]), .inl (0, 40, .inl (fun _ => 0)), .inl (0, 40, .inl (fun _ => 0)), .inl (0, 40, .inl (fun _ => 0)), .inl (0, 40, .inl (fun _ => 0)), .inl (0, 40, .inl (fun _ => 0))]) rfl (fun h e => ?_)
  subst e
  refine AX.aload_n rfl rfl ?_
  refine AX.bipushV (v := 40) rfl (by decide) ?_
  refine AX.newI 40 rfl (by decide) (by decide) (by decide) rfl rfl (by decide) (by decide) ?_
  refine AX.putf rfl rfl (Nat.le_of_ble_eq_true rfl) rfl ?_
  refine AX.gen (G := fun h => h = QH (zI a b c) (fun _ _ => 0) [.inr (4, [.int 0, .int 0, .int 0, .int 0, .int 0, .int 0, .int 0, .int 0, .int 0, .int 0, .int 0, .int 0, .ref 29, .ref 30, .ref 31, .ref 32, .ref 33, .ref 34, .null, .null, .null, .null, .null, .null]), .inl (0, 40, .inl (fun _ => 0)), .inl (0, 40, .inl (fun _ => 0)), .inl (0, 40, .inl (fun _ => 0)), .inl (0, 40, .inl (fun _ => 0)), .inl (0, 40, .inl (fun _ => 0)), .inl (0, 40, .inl (fun _ => 0))]) rfl (fun h e => ?_)
  subst e
  refine AX.aload_n rfl rfl ?_
  refine AX.sipushV (v := 1600) rfl (by decide) ?_
  refine AX.newZ 1600 rfl (by decide) (by decide) (by decide) rfl rfl (by decide) (by decide) ?_
  refine AX.putf rfl rfl (Nat.le_of_ble_eq_true rfl) rfl ?_
  refine AX.gen (G := fun h => h = QH (zI a b c) (fun _ _ => 0) [.inr (4, [.int 0, .int 0, .int 0, .int 0, .int 0, .int 0, .int 0, .int 0, .int 0, .int 0, .int 0, .int 0, .ref 29, .ref 30, .ref 31, .ref 32, .ref 33, .ref 34, .ref 35, .null, .null, .null, .null, .null]), .inl (0, 40, .inl (fun _ => 0)), .inl (0, 40, .inl (fun _ => 0)), .inl (0, 40, .inl (fun _ => 0)), .inl (0, 40, .inl (fun _ => 0)), .inl (0, 40, .inl (fun _ => 0)), .inl (0, 40, .inl (fun _ => 0)), .inl (2, 1600, .inl (fun _ => 0))]) rfl (fun h e => ?_)
  subst e
  refine AX.aload_n rfl rfl ?_
  refine AX.bipushV (v := 40) rfl (by decide) ?_
  refine AX.newI 40 rfl (by decide) (by decide) (by decide) rfl rfl (by decide) (by decide) ?_
  refine AX.putf rfl rfl (Nat.le_of_ble_eq_true rfl) rfl ?_
  refine AX.gen (G := fun h => h = QH (zI a b c) (fun _ _ => 0) [.inr (4, [.int 0, .int 0, .int 0, .int 0, .int 0, .int 0, .int 0, .int 0, .int 0, .int 0, .int 0, .int 0, .ref 29, .ref 30, .ref 31, .ref 32, .ref 33, .ref 34, .ref 35, .ref 36, .null, .null, .null, .null]), .inl (0, 40, .inl (fun _ => 0)), .inl (0, 40, .inl (fun _ => 0)), .inl (0, 40, .inl (fun _ => 0)), .inl (0, 40, .inl (fun _ => 0)), .inl (0, 40, .inl (fun _ => 0)), .inl (0, 40, .inl (fun _ => 0)), .inl (2, 1600, .inl (fun _ => 0)), .inl (0, 40, .inl (fun _ => 0))]) rfl (fun h e => ?_)
  subst e
  refine AX.aload_n rfl rfl ?_
  refine AX.bipushV (v := 40) rfl (by decide) ?_
  refine AX.newI 40 rfl (by decide) (by decide) (by decide) rfl rfl (by decide) (by decide) ?_
  refine AX.putf rfl rfl (Nat.le_of_ble_eq_true rfl) rfl ?_
  refine AX.gen (G := fun h => h = QH (zI a b c) (fun _ _ => 0) [.inr (4, [.int 0, .int 0, .int 0, .int 0, .int 0, .int 0, .int 0, .int 0, .int 0, .int 0, .int 0, .int 0, .ref 29, .ref 30, .ref 31, .ref 32, .ref 33, .ref 34, .ref 35, .ref 36, .ref 37, .null, .null, .null]), .inl (0, 40, .inl (fun _ => 0)), .inl (0, 40, .inl (fun _ => 0)), .inl (0, 40, .inl (fun _ => 0)), .inl (0, 40, .inl (fun _ => 0)), .inl (0, 40, .inl (fun _ => 0)), .inl (0, 40, .inl (fun _ => 0)), .inl (2, 1600, .inl (fun _ => 0)), .inl (0, 40, .inl (fun _ => 0)), .inl (0, 40, .inl (fun _ => 0))]) rfl (fun h e => ?_)
  subst e
  refine AX.aload_n rfl rfl ?_
  refine AX.bipushV (v := 40) rfl (by decide) ?_
  refine AX.newZ 40 rfl (by decide) (by decide) (by decide) rfl rfl (by decide) (by decide) ?_
  refine AX.putf rfl rfl (Nat.le_of_ble_eq_true rfl) rfl ?_
  refine AX.gen (G := fun h => h = QH (zI a b c) (fun _ _ => 0) [.inr (4, [.int 0, .int 0, .int 0, .int 0, .int 0, .int 0, .int 0, .int 0, .int 0, .int 0, .int 0, .int 0, .ref 29, .ref 30, .ref 31, .ref 32, .ref 33, .ref 34, .ref 35, .ref 36, .ref 37, .ref 38, .null, .null]), .inl (0, 40, .inl (fun _ => 0)), .inl (0, 40, .inl (fun _ => 0)), .inl (0, 40, .inl (fun _ => 0)), .inl (0, 40, .inl (fun _ => 0)), .inl (0, 40, .inl (fun _ => 0)), .inl (0, 40, .inl (fun _ => 0)), .inl (2, 1600, .inl (fun _ => 0)), .inl (0, 40, .inl (fun _ => 0)), .inl (0, 40, .inl (fun _ => 0)), .inl (2, 40, .inl (fun _ => 0))]) rfl (fun h e => ?_)
  subst e
  refine AX.aload_n rfl rfl ?_
  refine AX.bipushV (v := 40) rfl (by decide) ?_
  refine AX.newI 40 rfl (by decide) (by decide) (by decide) rfl rfl (by decide) (by decide) ?_
  refine AX.putf rfl rfl (Nat.le_of_ble_eq_true rfl) rfl ?_
  refine AX.gen (G := fun h => h = QH (zI a b c) (fun _ _ => 0) [.inr (4, [.int 0, .int 0, .int 0, .int 0, .int 0, .int 0, .int 0, .int 0, .int 0, .int 0, .int 0, .int 0, .ref 29, .ref 30, .ref 31, .ref 32, .ref 33, .ref 34, .ref 35, .ref 36, .ref 37, .ref 38, .ref 39, .null]), .inl (0, 40, .inl (fun _ => 0)), .inl (0, 40, .inl (fun _ => 0)), .inl (0, 40, .inl (fun _ => 0)), .inl (0, 40, .inl (fun _ => 0)), .inl (0, 40, .inl (fun _ => 0)), .inl (0, 40, .inl (fun _ => 0)), .inl (2, 1600, .inl (fun _ => 0)), .inl (0, 40, .inl (fun _ => 0)), .inl (0, 40, .inl (fun _ => 0)), .inl (2, 40, .inl (fun _ => 0)), .inl (0, 40, .inl (fun _ => 0))]) rfl (fun h e => ?_)
  subst e
  refine AX.aload_n rfl rfl ?_
  refine AX.bipushV (v := 40) rfl (by decide) ?_
  refine AX.newI 40 rfl (by decide) (by decide) (by decide) rfl rfl (by decide) (by decide) ?_
  refine AX.putf rfl rfl (Nat.le_of_ble_eq_true rfl) rfl ?_
  refine AX.gen (G := fun h => h = QH (zI a b c) (fun _ _ => 0) [.inr (4, [.int 0, .int 0, .int 0, .int 0, .int 0, .int 0, .int 0, .int 0, .int 0, .int 0, .int 0, .int 0, .ref 29, .ref 30, .ref 31, .ref 32, .ref 33, .ref 34, .ref 35, .ref 36, .ref 37, .ref 38, .ref 39, .ref 40]), .inl (0, 40, .inl (fun _ => 0)), .inl (0, 40, .inl (fun _ => 0)), .inl (0, 40, .inl (fun _ => 0)), .inl (0, 40, .inl (fun _ => 0)), .inl (0, 40, .inl (fun _ => 0)), .inl (0, 40, .inl (fun _ => 0)), .inl (2, 1600, .inl (fun _ => 0)), .inl (0, 40, .inl (fun _ => 0)), .inl (0, 40, .inl (fun _ => 0)), .inl (2, 40, .inl (fun _ => 0)), .inl (0, 40, .inl (fun _ => 0)), .inl (0, 40, .inl (fun _ => 0))]) rfl (fun h e => ?_)
  subst e
  refine AX.aload_n rfl rfl ?_
  refine AX.iload_n rfl rfl ?_
  refine AX.bipushV (v := 8) rfl (by decide) ?_
  refine AX.callS rfl (by decide) rfl rfl (Nat.le_of_ble_eq_true rfl) (sM_within (d := d + 1) a 8 (by decide)) (Or.inl rfl) (by decide) (by decide) (Nat.le_of_ble_eq_true rfl) (Or.inl rfl) (fun r h' q => ?_)
  obtain ⟨rfl, rfl⟩ := q
  refine AX.putf rfl rfl (Nat.le_of_ble_eq_true rfl) rfl ?_
  refine AX.gen (G := fun h => h = QH (zI a b c) (fun _ _ => 0) [.inr (4, [.int (near a 8), .int 0, .int 0, .int 0, .int 0, .int 0, .int 0, .int 0, .int 0, .int 0, .int 0, .int 0, .ref 29, .ref 30, .ref 31, .ref 32, .ref 33, .ref 34, .ref 35, .ref 36, .ref 37, .ref 38, .ref 39, .ref 40]), .inl (0, 40, .inl (fun _ => 0)), .inl (0, 40, .inl (fun _ => 0)), .inl (0, 40, .inl (fun _ => 0)), .inl (0, 40, .inl (fun _ => 0)), .inl (0, 40, .inl (fun _ => 0)), .inl (0, 40, .inl (fun _ => 0)), .inl (2, 1600, .inl (fun _ => 0)), .inl (0, 40, .inl (fun _ => 0)), .inl (0, 40, .inl (fun _ => 0)), .inl (2, 40, .inl (fun _ => 0)), .inl (0, 40, .inl (fun _ => 0)), .inl (0, 40, .inl (fun _ => 0))]) rfl (fun h e => ?_)
  subst e
  refine AX.aload_n rfl rfl ?_
  refine AX.iload_n rfl rfl ?_
  refine AX.iconstV (v := 4) rfl (by decide) ?_
  refine AX.callS rfl (by decide) rfl rfl (Nat.le_of_ble_eq_true rfl) (sM_within (d := d + 1) b 4 (by decide)) (Or.inl rfl) (by decide) (by decide) (Nat.le_of_ble_eq_true rfl) (Or.inl rfl) (fun r h' q => ?_)
  obtain ⟨rfl, rfl⟩ := q
  refine AX.putf rfl rfl (Nat.le_of_ble_eq_true rfl) rfl ?_
  refine AX.gen (G := fun h => h = QH (zI a b c) (fun _ _ => 0) [.inr (4, [.int (near a 8), .int (near b 4), .int 0, .int 0, .int 0, .int 0, .int 0, .int 0, .int 0, .int 0, .int 0, .int 0, .ref 29, .ref 30, .ref 31, .ref 32, .ref 33, .ref 34, .ref 35, .ref 36, .ref 37, .ref 38, .ref 39, .ref 40]), .inl (0, 40, .inl (fun _ => 0)), .inl (0, 40, .inl (fun _ => 0)), .inl (0, 40, .inl (fun _ => 0)), .inl (0, 40, .inl (fun _ => 0)), .inl (0, 40, .inl (fun _ => 0)), .inl (0, 40, .inl (fun _ => 0)), .inl (2, 1600, .inl (fun _ => 0)), .inl (0, 40, .inl (fun _ => 0)), .inl (0, 40, .inl (fun _ => 0)), .inl (2, 40, .inl (fun _ => 0)), .inl (0, 40, .inl (fun _ => 0)), .inl (0, 40, .inl (fun _ => 0))]) rfl (fun h e => ?_)
  subst e
  refine AX.aload_n rfl rfl ?_
  refine AX.iload_n rfl rfl ?_
  refine AX.iconstV (v := 3) rfl (by decide) ?_
  refine AX.callS rfl (by decide) rfl rfl (Nat.le_of_ble_eq_true rfl) (sM_within (d := d + 1) c 3 (by decide)) (Or.inl rfl) (by decide) (by decide) (Nat.le_of_ble_eq_true rfl) (Or.inl rfl) (fun r h' q => ?_)
  obtain ⟨rfl, rfl⟩ := q
  refine AX.putf rfl rfl (Nat.le_of_ble_eq_true rfl) rfl ?_
  refine AX.gen (G := fun h => h = QH (zI a b c) (fun _ _ => 0) [.inr (4, [.int (near a 8), .int (near b 4), .int (near c 3), .int 0, .int 0, .int 0, .int 0, .int 0, .int 0, .int 0, .int 0, .int 0, .ref 29, .ref 30, .ref 31, .ref 32, .ref 33, .ref 34, .ref 35, .ref 36, .ref 37, .ref 38, .ref 39, .ref 40]), .inl (0, 40, .inl (fun _ => 0)), .inl (0, 40, .inl (fun _ => 0)), .inl (0, 40, .inl (fun _ => 0)), .inl (0, 40, .inl (fun _ => 0)), .inl (0, 40, .inl (fun _ => 0)), .inl (0, 40, .inl (fun _ => 0)), .inl (2, 1600, .inl (fun _ => 0)), .inl (0, 40, .inl (fun _ => 0)), .inl (0, 40, .inl (fun _ => 0)), .inl (2, 40, .inl (fun _ => 0)), .inl (0, 40, .inl (fun _ => 0)), .inl (0, 40, .inl (fun _ => 0))]) rfl (fun h e => ?_)
  subst e
  exact AX.vreturn rfl rfl ⟨rfl, rfl⟩ (by decide) (by decide)
end IN
