/-! THE LAW FROM ITS BEGINNING -/
section SA
variable {d : Nat} {h : ax_H}
theorem near_nI (v : Int32) {T : Nat} (h1 : 1 ≤ T) (h2 : T ≤ 8) : ∃ m, near v (nI T) = nI m ∧ 1 ≤ m ∧ m ≤ T := by
  unfold near
  by_cases a : nI T < v
  · rw [if_pos a]
    by_cases b : (1 : Int32) < nI T
    · rw [if_pos b]; exact ⟨T, rfl, h1, Nat.le_refl _⟩
    · rw [if_neg b]; exact ⟨1, rfl, Nat.le_refl _, h1⟩
  · rw [if_neg a]
    by_cases b : (1 : Int32) < v
    · rw [if_pos b]
      have hv : ¬ v < 0 := fun q => absurd (Int32.lt_trans b q) (by decide)
      obtain ⟨j, j1, j2, j3⟩ := i_pos hv
      rw [j2] at a b
      rw [nI_ltI (by omega) j1] at a
      have b2 : nI 1 < nI j := b
      rw [nI_ltI (by decide) j1] at b2
      exact ⟨j, j2, by omega, by omega⟩
    · rw [if_neg b]; exact ⟨1, rfl, Nat.le_refl _, h1⟩
def yI : yT := (fun _ => 0, fun _ _ => 0, fun _ _ => false, fun _ => [], [])
theorem INV.start (a b c : Int32) : INV yI (zI a b c) (tI a b c) := by
  refine ⟨?_, ?_, ?_, ?_⟩
  · refine ⟨Nat.zero_le _, fun c hc => absurd hc (Nat.not_lt_zero _), fun c hc => absurd hc (Nat.not_lt_zero _), rfl, List.Pairwise.nil, ?_, List.nodup_nil, ?_, ?_, List.nodup_nil, ?_, ?_, ?_, ?_, ?_⟩
    · intro c; exact ⟨fun h => absurd h List.not_mem_nil, fun h => absurd h.1 (Nat.not_lt_zero _)⟩
    · intro c; exact ⟨fun h => absurd h List.not_mem_nil, fun h => absurd h.1 (Nat.not_lt_zero _)⟩
    · intro g hg; cases hg
    · intro c; exact ⟨fun h => absurd h List.not_mem_nil, fun h => absurd h.1 (Nat.not_lt_zero _)⟩
    · intro g hg; cases hg
    · intro a b h; cases h
    · intro a b; rfl
    · intro c hc; exact absurd hc (Nat.not_lt_zero _)
  · refine ⟨rfl, rfl, rfl, rfl, rfl, rfl, rfl, rfl, rfl, rfl, rfl, rfl, rfl, ?_⟩
    intro i j hi hj
    rw [zConf_bit _ hi hj]
    show ((0 : Int64).toBitVec).getLsbD j = false
    simp
  · refine ⟨⟨rfl, rfl, rfl, rfl⟩, ⟨rfl, Nat.zero_le _, rfl, fun i hi => absurd hi (Nat.not_lt_zero _)⟩, fun i hi => absurd hi (Nat.not_lt_zero _), fun _ _ _ _ => rfl, fun i hi => absurd hi (Nat.not_lt_zero _), fun _ _ _ => ⟨rfl, rfl, rfl⟩, fun i hi => absurd hi (Nat.not_lt_zero _)⟩
  · exact ⟨rfl, rfl, rfl, rfl, rfl, rfl, rfl, fun i hi => absurd hi (Nat.not_lt_zero _), Or.inl rfl, near_nI a (T := 8) (by decide) (by decide), near_nI b (T := 4) (by decide) (by decide), near_nI c (T := 3) (by decide) (by decide)⟩
theorem sL_cell {L : Nat} {xs : Nat → Int32} (hL : L ≤ 1539) (c : Nat) (hc : c < 3) : AM d kL_cell 0 0 (some (L, xs)) [.retAddr 0, .int (nI c)] h (fun r h' => r = some (.int (if c < L then xs c else 0)) ∧ h' = h) := by
  refine AX.iload_n rfl rfl ?_
  refine AX.aload_nS rfl rfl ?_
  refine AX.slen rfl ?_
  refine AX.icmp_ge rfl (fun q => ?_) (fun q => ?_)
  · have hn : ¬ c < L := fun e => absurd q (show ¬ nI L ≤ nI c from nI_ge e (by omega))
    refine AX.iconstV (v := 0) rfl (by decide) ?_
    exact AX.ireturn rfl rfl ⟨by rw [if_neg hn], rfl⟩ (by decide) (by decide)
  · have hn : c < L := by
      rcases Nat.lt_or_ge c L with e | e
      · exact e
      · exact absurd (show nI L ≤ nI c from nI_le e (by omega)) q
    refine AX.aload_nS rfl rfl ?_
    refine AX.iload_n rfl rfl ?_
    refine AX.sldN (c := c) rfl hn (by omega) rfl ?_
    refine AX.goto rfl ?_
    exact AX.ireturn rfl rfl ⟨by rw [if_pos hn], rfl⟩ (by decide) (by decide)
theorem law_start {L : Nat} {xs : Nat → Int32} (hL : L ≤ 1539) : AX (d + 6) kL_law 41 2631 (some (L, xs)) 0 [(0, .retAddr 0)] [] [] 0 0 lawF := by
  refine AX.new rfl rfl rfl (by decide) (by decide) ?_
  refine AX.dup rfl rfl ?_
  refine AX.aload_nS rfl rfl ?_
  refine AX.iconstV (v := 0) rfl (by decide) ?_
  refine AX.callS rfl (by decide) rfl rfl (Nat.le_of_ble_eq_true rfl) (sL_cell (d := d + 5) hL 0 (by decide)) (Or.inr rfl) (by decide) (by decide) (Nat.le_of_ble_eq_true rfl) (Or.inl rfl) (fun r h' q => ?_)
  obtain ⟨rfl, rfl⟩ := q
  refine AX.aload_nS rfl rfl ?_
  refine AX.iconstV (v := 1) rfl (by decide) ?_
  refine AX.callS rfl (by decide) rfl rfl (Nat.le_of_ble_eq_true rfl) (sL_cell (d := d + 5) hL 1 (by decide)) (Or.inr rfl) (by decide) (by decide) (Nat.le_of_ble_eq_true rfl) (Or.inl rfl) (fun r h' q => ?_)
  obtain ⟨rfl, rfl⟩ := q
  refine AX.aload_nS rfl rfl ?_
  refine AX.iconstV (v := 2) rfl (by decide) ?_
  refine AX.callS rfl (by decide) rfl rfl (Nat.le_of_ble_eq_true rfl) (sL_cell (d := d + 5) hL 2 (by decide)) (Or.inr rfl) (by decide) (by decide) (Nat.le_of_ble_eq_true rfl) (Or.inl rfl) (fun r h' q => ?_)
  obtain ⟨rfl, rfl⟩ := q
  refine AX.callI rfl (by decide) rfl rfl (Nat.le_of_ble_eq_true rfl) (sQ_init (d := d + 2) (if 0 < L then xs 0 else 0) (if 1 < L then xs 1 else 0) (if 2 < L then xs 2 else 0)) (Or.inl rfl) (by decide) (by decide) (Nat.le_of_ble_eq_true rfl) (Or.inr rfl) (fun r h' q => ?_)
  obtain ⟨rfl, rfl⟩ := q
  refine AX.astore_n rfl (by decide) ?_
  refine AX.new rfl rfl rfl (by decide) (by decide) ?_
  refine AX.dup rfl rfl ?_
  refine AX.aload_nS rfl rfl ?_
  refine AX.iconstV (v := 0) rfl (by decide) ?_
  refine AX.callS rfl (by decide) rfl rfl (Nat.le_of_ble_eq_true rfl) (sL_cell (d := d + 5) hL 0 (by decide)) (Or.inr rfl) (by decide) (by decide) (Nat.le_of_ble_eq_true rfl) (Or.inl rfl) (fun r h' q => ?_)
  obtain ⟨rfl, rfl⟩ := q
  refine AX.aload_nS rfl rfl ?_
  refine AX.iconstV (v := 1) rfl (by decide) ?_
  refine AX.callS rfl (by decide) rfl rfl (Nat.le_of_ble_eq_true rfl) (sL_cell (d := d + 5) hL 1 (by decide)) (Or.inr rfl) (by decide) (by decide) (Nat.le_of_ble_eq_true rfl) (Or.inl rfl) (fun r h' q => ?_)
  obtain ⟨rfl, rfl⟩ := q
  refine AX.aload_nS rfl rfl ?_
  refine AX.iconstV (v := 2) rfl (by decide) ?_
  refine AX.callS rfl (by decide) rfl rfl (Nat.le_of_ble_eq_true rfl) (sL_cell (d := d + 5) hL 2 (by decide)) (Or.inr rfl) (by decide) (by decide) (Nat.le_of_ble_eq_true rfl) (Or.inl rfl) (fun r h' q => ?_)
  obtain ⟨rfl, rfl⟩ := q
  refine AX.callI rfl (by decide) rfl rfl (Nat.le_of_ble_eq_true rfl) (sM_init (d := d + 3) (if 0 < L then xs 0 else 0) (if 1 < L then xs 1 else 0) (if 2 < L then xs 2 else 0)) (Or.inl rfl) (by decide) (by decide) (Nat.le_of_ble_eq_true rfl) (Or.inr rfl) (fun r h' q => ?_)
  obtain ⟨rfl, rfl⟩ := q
  refine AX.astore_n rfl (by decide) ?_
  refine AX.iconstV (v := 3) rfl (by decide) ?_
  refine AX.istore_n rfl (by decide) ?_
  exact law_l hL L 3 yI _ _ _ (INV.start _ _ _) ⟨fun _ _ => 0, fun r _ => ⟨Nat.zero_le _, fun i hi => absurd hi (Nat.not_lt_zero _)⟩, rfl⟩ (by omega) (by decide) (by decide)
end SA
