/-! THE LAW'S LOOP -/
section LW
variable {d : Nat} {h : ax_H}
theorem AX.sldN {k C S : Nat} {pc nx a1 a2 : Nat} {lv : ax_L} {st : List Value} {n1 n2 : Nat} {F : ax_F} {L y c : Nat} {xs : Nat → Int32} {j : Int32} (hi : m_i k pc = some (.iaload, 1, nx, a1, a2)) (hc : c < L) (hL : L < 2 ^ 31) (hj : j = nI c) (kk : AX d k C S (some (L, xs)) nx lv (.int (xs c) :: st) h n1 n2 F) : AX d k C S (some (L, xs)) pc lv (.int j :: .retAddr y :: st) h n1 n2 F := by
  subst hj
  refine AX.sld hi (vp_in_nI hc hL) ?_
  rw [nI_clamp (by omega)]
  exact kk
theorem qm {z : zS} {t : mS} (hq : isQ z (MH t) h) : ∃ p, isM p t h ∧ ∀ t' h', isM p t' h' → isQ z (MH t') h' := by
  obtain ⟨F, ok, rfl⟩ := hq
  refine ⟨QH z F [], ⟨rfl, rfl⟩, fun t' h' hm => ?_⟩
  obtain ⟨-, rfl⟩ := hm
  exact ⟨F, ok, rfl⟩
theorem and15 (x : Int32) : ∃ k, k < 16 ∧ x &&& 15 = nI k := by
  refine ⟨((x &&& 15).toBitVec).toNat, ?_, ?_⟩
  · rw [Int32.toBitVec_and, BitVec.toNat_and]
    exact Nat.lt_of_le_of_lt Nat.and_le_right (by decide)
  · apply Int32.toBitVec_inj.mp
    show _ = BitVec.ofNat 32 _
    rw [BitVec.ofNat_toNat, BitVec.setWidth_eq]
def lawF : ax_F := fun pc _ st _ n1 n2 => pc = 577 ∧ st = [.int 1] ∧ n1 = 41 ∧ n2 = 2631
theorem law_l {L : Nat} {xs : Nat → Int32} (hL : L ≤ 1539) : ∀ (n i : Nat) (y : yT) (z : zS) (t : mS) (h : ax_H), INV y z t → isQ z (MH t) h → L ≤ i + n → 3 ≤ i → i ≤ 1545 → AX (d + 6) kL_law 41 2631 (some (L, xs)) 48 [(3, .int (nI i)), (2, .ref 28), (1, .ref 0), (0, .retAddr 0)] [] h 41 2631 lawF := by
  intro n
  induction n with
  | zero =>
    intro i y z t h hI hq hn h3 hi
    have hx : Int32.ofNat L - 3 < nI i := by
      rcases (show L < 3 ∨ 3 ≤ L by omega) with q | q
      · have e : Int32.ofNat L - 3 < 0 := by
          rcases (show L = 0 ∨ L = 1 ∨ L = 2 by omega) with rfl | rfl | rfl <;> decide
        exact Int32.lt_of_lt_of_le e (nI_pos' (by omega))
      · rw [show Int32.ofNat L = nI L from rfl, show (3 : Int32) = nI 3 from rfl, pk_sub q]
        exact (nI_ltI (by omega) (by omega)).mpr (by omega)
    refine AX.iload_n rfl rfl ?_
    refine AX.aload_nS rfl rfl ?_
    refine AX.slen rfl ?_
    refine AX.iconstV (v := 3) rfl (by decide) ?_
    refine AX.isub rfl ?_
    refine AX.icmp_gt rfl (fun _ => ?_) (fun c => absurd hx c)
    refine AX.iconstV (v := 1) rfl (by decide) ?_
    exact AX.here ⟨rfl, rfl, rfl, rfl⟩
  | succ n ih =>
    intro i y z t h hI hq hn h3 hi
    refine AX.iload_n rfl rfl ?_
    refine AX.aload_nS rfl rfl ?_
    refine AX.slen rfl ?_
    refine AX.iconstV (v := 3) rfl (by decide) ?_
    refine AX.isub rfl ?_
    refine AX.icmp_gt rfl (fun _ => ?_) (fun c => ?_)
    · refine AX.iconstV (v := 1) rfl (by decide) ?_
      exact AX.here ⟨rfl, rfl, rfl, rfl⟩
    have hiL : i + 3 ≤ L := by
      rcases (show L < 3 ∨ 3 ≤ L by omega) with q | q
      · exfalso
        apply c
        have e : Int32.ofNat L - 3 < 0 := by
          rcases (show L = 0 ∨ L = 1 ∨ L = 2 by omega) with rfl | rfl | rfl <;> decide
        exact Int32.lt_of_lt_of_le e (nI_pos' (by omega))
      · rw [show Int32.ofNat L = nI L from rfl, show (3 : Int32) = nI 3 from rfl, pk_sub q, nI_ltI (by omega) (by omega)] at c
        omega
    have i1 : nI i + 1 = nI (i + 1) := nI_1 i
    have i2 : nI i + 2 = nI (i + 2) := by rw [show (2 : Int32) = nI 2 from rfl, nI_add]
    have nxt : ∀ (y : yT) (z : zS) (t : mS) (h : ax_H), INV y z t → isQ z (MH t) h → AX (d + 6) kL_law 41 2631 (some (L, xs)) 570 [(3, .int (nI i)), (2, .ref 28), (1, .ref 0), (0, .retAddr 0)] [] h 41 2631 lawF := by
      intro y z t h hI hq
      refine AX.iincV (dn := 3) rfl rfl (by decide) (by decide) ?_
      refine AX.goto rfl ?_
      rw [show (3 : Int32) = nI 3 from rfl, nI_add]
      exact ih (i + 3) y z t h hI hq (by omega) (by omega) (by omega)
    refine AX.aload_nS rfl rfl ?_
    refine AX.iload_n rfl rfl ?_
    refine AX.sldN (c := i) rfl (by omega) (by omega) rfl ?_
    refine AX.bipushV (v := 15) rfl (by decide) ?_
    refine AX.iand rfl ?_
    obtain ⟨k, k1, k2⟩ := and15 (xs i)
    rw [k2]
    rcases (show k = 0 ∨ k = 1 ∨ k = 2 ∨ k = 3 ∨ k = 4 ∨ k = 5 ∨ k = 6 ∨ k = 7 ∨ k = 8 ∨ k = 9 ∨ k = 10 ∨ k = 11 ∨ k = 12 ∨ k = 13 ∨ k = 14 ∨ k = 15 by omega) with rfl | rfl | rfl | rfl | rfl | rfl | rfl | rfl | rfl | rfl | rfl | rfl | rfl | rfl | rfl | rfl
    · refine AX.tsIn 140 rfl (by decide) (by decide) rfl (by decide) ?_
      refine AX.aload_n rfl rfl ?_
      refine AX.aload_nS rfl rfl ?_
      refine AX.iload_n rfl rfl ?_
      refine AX.iconstV (v := 1) rfl (by decide) ?_
      refine AX.iadd rfl ?_
      refine AX.sldN (c := i + 1) rfl (by omega) (by omega) i1 ?_
      refine AX.aload_nS rfl rfl ?_
      refine AX.iload_n rfl rfl ?_
      refine AX.iconstV (v := 2) rfl (by decide) ?_
      refine AX.iadd rfl ?_
      refine AX.sldN (c := i + 2) rfl (by omega) (by omega) i2 ?_
      refine AX.cVI rfl rfl rfl (Q0 hq) (sQ_change hq _ _) (fun h hq => ?_)
      obtain ⟨p, hm, hback⟩ := qm hq
      refine AX.aload_n rfl rfl ?_
      refine AX.aload_nS rfl rfl ?_
      refine AX.iload_n rfl rfl ?_
      refine AX.iconstV (v := 1) rfl (by decide) ?_
      refine AX.iadd rfl ?_
      refine AX.sldN (c := i + 1) rfl (by omega) (by omega) i1 ?_
      refine AX.aload_nS rfl rfl ?_
      refine AX.iload_n rfl rfl ?_
      refine AX.iconstV (v := 2) rfl (by decide) ?_
      refine AX.iadd rfl ?_
      refine AX.sldN (c := i + 2) rfl (by omega) (by omega) i2 ?_
      refine AX.cVI rfl rfl rfl (M0 hm) (ok_change hI hm _ _) (fun h hJ => ?_)
      refine AX.icmp_eq rfl (fun _ => ?_) (fun c => absurd rfl c)
      obtain ⟨y2, t2, hI2, hm2⟩ := hJ
      exact nxt _ _ _ _ hI2 (hback _ _ hm2)
    · refine AX.tsIn 173 rfl (by decide) (by decide) rfl (by decide) ?_
      refine AX.aload_n rfl rfl ?_
      refine AX.aload_nS rfl rfl ?_
      refine AX.iload_n rfl rfl ?_
      refine AX.iconstV (v := 1) rfl (by decide) ?_
      refine AX.iadd rfl ?_
      refine AX.sldN (c := i + 1) rfl (by omega) (by omega) i1 ?_
      refine AX.aload_nS rfl rfl ?_
      refine AX.iload_n rfl rfl ?_
      refine AX.iconstV (v := 2) rfl (by decide) ?_
      refine AX.iadd rfl ?_
      refine AX.sldN (c := i + 2) rfl (by omega) (by omega) i2 ?_
      refine AX.cVI rfl rfl rfl (Q0 hq) (sQ_conflict hq _ _) (fun h hq => ?_)
      obtain ⟨p, hm, hback⟩ := qm hq
      refine AX.aload_n rfl rfl ?_
      refine AX.aload_nS rfl rfl ?_
      refine AX.iload_n rfl rfl ?_
      refine AX.iconstV (v := 1) rfl (by decide) ?_
      refine AX.iadd rfl ?_
      refine AX.sldN (c := i + 1) rfl (by omega) (by omega) i1 ?_
      refine AX.aload_nS rfl rfl ?_
      refine AX.iload_n rfl rfl ?_
      refine AX.iconstV (v := 2) rfl (by decide) ?_
      refine AX.iadd rfl ?_
      refine AX.sldN (c := i + 2) rfl (by omega) (by omega) i2 ?_
      refine AX.cVI rfl rfl rfl (M0 hm) (ok_conflict hI hm _ _) (fun h hJ => ?_)
      refine AX.icmp_eq rfl (fun _ => ?_) (fun c => absurd rfl c)
      obtain ⟨y2, t2, hI2, hm2⟩ := hJ
      exact nxt _ _ _ _ hI2 (hback _ _ hm2)
    · refine AX.tsIn 206 rfl (by decide) (by decide) rfl (by decide) ?_
      refine AX.aload_n rfl rfl ?_
      refine AX.aload_nS rfl rfl ?_
      refine AX.iload_n rfl rfl ?_
      refine AX.iconstV (v := 1) rfl (by decide) ?_
      refine AX.iadd rfl ?_
      refine AX.sldN (c := i + 1) rfl (by omega) (by omega) i1 ?_
      refine AX.cVI rfl rfl rfl (Q0 hq) (sQ_jump hq _) (fun h hq => ?_)
      obtain ⟨p, hm, hback⟩ := qm hq
      refine AX.aload_n rfl rfl ?_
      refine AX.aload_nS rfl rfl ?_
      refine AX.iload_n rfl rfl ?_
      refine AX.iconstV (v := 1) rfl (by decide) ?_
      refine AX.iadd rfl ?_
      refine AX.sldN (c := i + 1) rfl (by omega) (by omega) i1 ?_
      refine AX.cVI rfl rfl rfl (M0 hm) (ok_jump hI hm _) (fun h hJ => ?_)
      refine AX.icmp_eq rfl (fun _ => ?_) (fun c => absurd rfl c)
      obtain ⟨y2, t2, hI2, hm2⟩ := hJ
      exact nxt _ _ _ _ hI2 (hback _ _ hm2)
    · refine AX.tsIn 229 rfl (by decide) (by decide) rfl (by decide) ?_
      refine AX.aload_n rfl rfl ?_
      refine AX.aload_nS rfl rfl ?_
      refine AX.iload_n rfl rfl ?_
      refine AX.iconstV (v := 1) rfl (by decide) ?_
      refine AX.iadd rfl ?_
      refine AX.sldN (c := i + 1) rfl (by omega) (by omega) i1 ?_
      refine AX.cVI rfl rfl rfl (Q0 hq) (sQ_leave hq _) (fun h hq => ?_)
      obtain ⟨p, hm, hback⟩ := qm hq
      refine AX.aload_n rfl rfl ?_
      refine AX.aload_nS rfl rfl ?_
      refine AX.iload_n rfl rfl ?_
      refine AX.iconstV (v := 1) rfl (by decide) ?_
      refine AX.iadd rfl ?_
      refine AX.sldN (c := i + 1) rfl (by omega) (by omega) i1 ?_
      refine AX.cVI rfl rfl rfl (M0 hm) (ok_leave hI hm _) (fun h hJ => ?_)
      refine AX.icmp_eq rfl (fun _ => ?_) (fun c => absurd rfl c)
      obtain ⟨y2, t2, hI2, hm2⟩ := hJ
      exact nxt _ _ _ _ hI2 (hback _ _ hm2)
    · refine AX.tsIn 252 rfl (by decide) (by decide) rfl (by decide) ?_
      by_cases hz : xs (i + 1) = 0
      · refine AX.aload_n rfl rfl ?_
        refine AX.aload_nS rfl rfl ?_
        refine AX.iload_n rfl rfl ?_
        refine AX.iconstV (v := 1) rfl (by decide) ?_
        refine AX.iadd rfl ?_
        refine AX.sldN (c := i + 1) rfl (by omega) (by omega) i1 ?_
        refine AX.if_eq rfl (fun _ => ?_) (fun c => absurd hz c)
        refine AX.iconstV (v := 0) rfl (by decide) ?_
        refine AX.cVI rfl rfl rfl (Q0 hq) (sQ_pause hq _ (by decide)) (fun h hq => ?_)
        obtain ⟨p, hm, hback⟩ := qm hq
        refine AX.aload_n rfl rfl ?_
        refine AX.aload_nS rfl rfl ?_
        refine AX.iload_n rfl rfl ?_
        refine AX.iconstV (v := 1) rfl (by decide) ?_
        refine AX.iadd rfl ?_
        refine AX.sldN (c := i + 1) rfl (by omega) (by omega) i1 ?_
        refine AX.if_eq rfl (fun _ => ?_) (fun c => absurd hz c)
        refine AX.iconstV (v := 0) rfl (by decide) ?_
        refine AX.cVI rfl rfl rfl (M0 hm) (ok_pause hI hm _ (by decide)) (fun h hJ => ?_)
        refine AX.icmp_eq rfl (fun _ => ?_) (fun c => absurd rfl c)
        obtain ⟨y2, t2, hI2, hm2⟩ := hJ
        exact nxt _ _ _ _ hI2 (hback _ _ hm2)
      · refine AX.aload_n rfl rfl ?_
        refine AX.aload_nS rfl rfl ?_
        refine AX.iload_n rfl rfl ?_
        refine AX.iconstV (v := 1) rfl (by decide) ?_
        refine AX.iadd rfl ?_
        refine AX.sldN (c := i + 1) rfl (by omega) (by omega) i1 ?_
        refine AX.if_eq rfl (fun c => absurd c hz) (fun _ => ?_)
        refine AX.iconstV (v := 1) rfl (by decide) ?_
        refine AX.goto rfl ?_
        refine AX.cVI rfl rfl rfl (Q0 hq) (sQ_pause hq _ (by decide)) (fun h hq => ?_)
        obtain ⟨p, hm, hback⟩ := qm hq
        refine AX.aload_n rfl rfl ?_
        refine AX.aload_nS rfl rfl ?_
        refine AX.iload_n rfl rfl ?_
        refine AX.iconstV (v := 1) rfl (by decide) ?_
        refine AX.iadd rfl ?_
        refine AX.sldN (c := i + 1) rfl (by omega) (by omega) i1 ?_
        refine AX.if_eq rfl (fun c => absurd c hz) (fun _ => ?_)
        refine AX.iconstV (v := 1) rfl (by decide) ?_
        refine AX.goto rfl ?_
        refine AX.cVI rfl rfl rfl (M0 hm) (ok_pause hI hm _ (by decide)) (fun h hJ => ?_)
        refine AX.icmp_eq rfl (fun _ => ?_) (fun c => absurd rfl c)
        obtain ⟨y2, t2, hI2, hm2⟩ := hJ
        exact nxt _ _ _ _ hI2 (hback _ _ hm2)
    · refine AX.tsIn 291 rfl (by decide) (by decide) rfl (by decide) ?_
      refine AX.aload_n rfl rfl ?_
      refine AX.cVI rfl rfl rfl (Q0 hq) (sQ_step hq) (fun h hq => ?_)
      obtain ⟨p, hm, hback⟩ := qm hq
      refine AX.aload_n rfl rfl ?_
      refine AX.cVI rfl rfl rfl (M0 hm) (ok_step hI hm) (fun h hJ => ?_)
      refine AX.icmp_eq rfl (fun _ => ?_) (fun c => absurd rfl c)
      obtain ⟨y2, t2, hI2, hm2⟩ := hJ
      exact nxt _ _ _ _ hI2 (hback _ _ hm2)
    · refine AX.tsIn 304 rfl (by decide) (by decide) rfl (by decide) ?_
      by_cases hz : xs (i + 2) = 0
      · refine AX.aload_n rfl rfl ?_
        refine AX.aload_nS rfl rfl ?_
        refine AX.iload_n rfl rfl ?_
        refine AX.iconstV (v := 1) rfl (by decide) ?_
        refine AX.iadd rfl ?_
        refine AX.sldN (c := i + 1) rfl (by omega) (by omega) i1 ?_
        refine AX.aload_nS rfl rfl ?_
        refine AX.iload_n rfl rfl ?_
        refine AX.iconstV (v := 2) rfl (by decide) ?_
        refine AX.iadd rfl ?_
        refine AX.sldN (c := i + 2) rfl (by omega) (by omega) i2 ?_
        refine AX.if_eq rfl (fun _ => ?_) (fun c => absurd hz c)
        refine AX.iconstV (v := 0) rfl (by decide) ?_
        refine AX.cVI rfl rfl rfl (Q0 hq) (sQ_answer hq _ _) (fun h hq => ?_)
        obtain ⟨p, hm, hback⟩ := qm hq
        refine AX.aload_n rfl rfl ?_
        refine AX.aload_nS rfl rfl ?_
        refine AX.iload_n rfl rfl ?_
        refine AX.iconstV (v := 1) rfl (by decide) ?_
        refine AX.iadd rfl ?_
        refine AX.sldN (c := i + 1) rfl (by omega) (by omega) i1 ?_
        refine AX.aload_nS rfl rfl ?_
        refine AX.iload_n rfl rfl ?_
        refine AX.iconstV (v := 2) rfl (by decide) ?_
        refine AX.iadd rfl ?_
        refine AX.sldN (c := i + 2) rfl (by omega) (by omega) i2 ?_
        refine AX.if_eq rfl (fun _ => ?_) (fun c => absurd hz c)
        refine AX.iconstV (v := 0) rfl (by decide) ?_
        refine AX.cVI rfl rfl rfl (M0 hm) (ok_answer hI hm _ _) (fun h hJ => ?_)
        refine AX.icmp_eq rfl (fun _ => ?_) (fun c => absurd rfl c)
        obtain ⟨y2, t2, hI2, hm2⟩ := hJ
        exact nxt _ _ _ _ hI2 (hback _ _ hm2)
      · refine AX.aload_n rfl rfl ?_
        refine AX.aload_nS rfl rfl ?_
        refine AX.iload_n rfl rfl ?_
        refine AX.iconstV (v := 1) rfl (by decide) ?_
        refine AX.iadd rfl ?_
        refine AX.sldN (c := i + 1) rfl (by omega) (by omega) i1 ?_
        refine AX.aload_nS rfl rfl ?_
        refine AX.iload_n rfl rfl ?_
        refine AX.iconstV (v := 2) rfl (by decide) ?_
        refine AX.iadd rfl ?_
        refine AX.sldN (c := i + 2) rfl (by omega) (by omega) i2 ?_
        refine AX.if_eq rfl (fun c => absurd c hz) (fun _ => ?_)
        refine AX.iconstV (v := 1) rfl (by decide) ?_
        refine AX.goto rfl ?_
        refine AX.cVI rfl rfl rfl (Q0 hq) (sQ_answer hq _ _) (fun h hq => ?_)
        obtain ⟨p, hm, hback⟩ := qm hq
        refine AX.aload_n rfl rfl ?_
        refine AX.aload_nS rfl rfl ?_
        refine AX.iload_n rfl rfl ?_
        refine AX.iconstV (v := 1) rfl (by decide) ?_
        refine AX.iadd rfl ?_
        refine AX.sldN (c := i + 1) rfl (by omega) (by omega) i1 ?_
        refine AX.aload_nS rfl rfl ?_
        refine AX.iload_n rfl rfl ?_
        refine AX.iconstV (v := 2) rfl (by decide) ?_
        refine AX.iadd rfl ?_
        refine AX.sldN (c := i + 2) rfl (by omega) (by omega) i2 ?_
        refine AX.if_eq rfl (fun c => absurd c hz) (fun _ => ?_)
        refine AX.iconstV (v := 1) rfl (by decide) ?_
        refine AX.goto rfl ?_
        refine AX.cVI rfl rfl rfl (M0 hm) (ok_answer hI hm _ _) (fun h hJ => ?_)
        refine AX.icmp_eq rfl (fun _ => ?_) (fun c => absurd rfl c)
        obtain ⟨y2, t2, hI2, hm2⟩ := hJ
        exact nxt _ _ _ _ hI2 (hback _ _ hm2)
    · refine AX.tsIn 353 rfl (by decide) (by decide) rfl (by decide) ?_
      refine AX.aload_n rfl rfl ?_
      refine AX.cVI rfl rfl rfl (Q0 hq) (sQ_groups hq) (fun h hq => ?_)
      obtain ⟨p, hm, hback⟩ := qm hq
      refine AX.aload_n rfl rfl ?_
      refine AX.cVI rfl rfl rfl (M0 hm) (ok_groups hI hm) (fun h hJ => ?_)
      refine AX.icmp_eq rfl (fun _ => ?_) (fun c => absurd rfl c)
      obtain ⟨y2, t2, hI2, hm2⟩ := hJ
      exact nxt _ _ _ _ hI2 (hback _ _ hm2)
    · refine AX.tsIn 366 rfl (by decide) (by decide) rfl (by decide) ?_
      refine AX.aload_n rfl rfl ?_
      refine AX.aload_nS rfl rfl ?_
      refine AX.iload_n rfl rfl ?_
      refine AX.iconstV (v := 1) rfl (by decide) ?_
      refine AX.iadd rfl ?_
      refine AX.sldN (c := i + 1) rfl (by omega) (by omega) i1 ?_
      refine AX.aload_nS rfl rfl ?_
      refine AX.iload_n rfl rfl ?_
      refine AX.iconstV (v := 2) rfl (by decide) ?_
      refine AX.iadd rfl ?_
      refine AX.sldN (c := i + 2) rfl (by omega) (by omega) i2 ?_
      refine AX.cVI rfl rfl rfl (Q0 hq) (sQ_group hq _ _) (fun h hq => ?_)
      obtain ⟨p, hm, hback⟩ := qm hq
      refine AX.aload_n rfl rfl ?_
      refine AX.aload_nS rfl rfl ?_
      refine AX.iload_n rfl rfl ?_
      refine AX.iconstV (v := 1) rfl (by decide) ?_
      refine AX.iadd rfl ?_
      refine AX.sldN (c := i + 1) rfl (by omega) (by omega) i1 ?_
      refine AX.aload_nS rfl rfl ?_
      refine AX.iload_n rfl rfl ?_
      refine AX.iconstV (v := 2) rfl (by decide) ?_
      refine AX.iadd rfl ?_
      refine AX.sldN (c := i + 2) rfl (by omega) (by omega) i2 ?_
      refine AX.cVI rfl rfl rfl (M0 hm) (ok_group hI hm _ _) (fun h hJ => ?_)
      refine AX.icmp_eq rfl (fun _ => ?_) (fun c => absurd rfl c)
      obtain ⟨y2, t2, hI2, hm2⟩ := hJ
      exact nxt _ _ _ _ hI2 (hback _ _ hm2)
    · refine AX.tsIn 399 rfl (by decide) (by decide) rfl (by decide) ?_
      refine AX.aload_n rfl rfl ?_
      refine AX.aload_nS rfl rfl ?_
      refine AX.iload_n rfl rfl ?_
      refine AX.iconstV (v := 1) rfl (by decide) ?_
      refine AX.iadd rfl ?_
      refine AX.sldN (c := i + 1) rfl (by omega) (by omega) i1 ?_
      refine AX.aload_nS rfl rfl ?_
      refine AX.iload_n rfl rfl ?_
      refine AX.iconstV (v := 2) rfl (by decide) ?_
      refine AX.iadd rfl ?_
      refine AX.sldN (c := i + 2) rfl (by omega) (by omega) i2 ?_
      refine AX.cVI rfl rfl rfl (Q0 hq) (sQ_member hq _ _) (fun h hq => ?_)
      obtain ⟨p, hm, hback⟩ := qm hq
      refine AX.aload_n rfl rfl ?_
      refine AX.aload_nS rfl rfl ?_
      refine AX.iload_n rfl rfl ?_
      refine AX.iconstV (v := 1) rfl (by decide) ?_
      refine AX.iadd rfl ?_
      refine AX.sldN (c := i + 1) rfl (by omega) (by omega) i1 ?_
      refine AX.aload_nS rfl rfl ?_
      refine AX.iload_n rfl rfl ?_
      refine AX.iconstV (v := 2) rfl (by decide) ?_
      refine AX.iadd rfl ?_
      refine AX.sldN (c := i + 2) rfl (by omega) (by omega) i2 ?_
      refine AX.cVI rfl rfl rfl (M0 hm) (ok_member hI hm _ _) (fun h hJ => ?_)
      refine AX.icmp_eq rfl (fun _ => ?_) (fun c => absurd rfl c)
      obtain ⟨y2, t2, hI2, hm2⟩ := hJ
      exact nxt _ _ _ _ hI2 (hback _ _ hm2)
    · refine AX.tsIn 432 rfl (by decide) (by decide) rfl (by decide) ?_
      refine AX.aload_n rfl rfl ?_
      refine AX.aload_nS rfl rfl ?_
      refine AX.iload_n rfl rfl ?_
      refine AX.iconstV (v := 1) rfl (by decide) ?_
      refine AX.iadd rfl ?_
      refine AX.sldN (c := i + 1) rfl (by omega) (by omega) i1 ?_
      refine AX.cVI rfl rfl rfl (Q0 hq) (sQ_waiting hq _) (fun h hq => ?_)
      obtain ⟨p, hm, hback⟩ := qm hq
      refine AX.aload_n rfl rfl ?_
      refine AX.aload_nS rfl rfl ?_
      refine AX.iload_n rfl rfl ?_
      refine AX.iconstV (v := 1) rfl (by decide) ?_
      refine AX.iadd rfl ?_
      refine AX.sldN (c := i + 1) rfl (by omega) (by omega) i1 ?_
      refine AX.cVI rfl rfl rfl (M0 hm) (ok_waiting hI hm _) (fun h hJ => ?_)
      refine AX.icmp_eq rfl (fun _ => ?_) (fun c => absurd rfl c)
      obtain ⟨y2, t2, hI2, hm2⟩ := hJ
      exact nxt _ _ _ _ hI2 (hback _ _ hm2)
    · refine AX.tsIn 455 rfl (by decide) (by decide) rfl (by decide) ?_
      refine AX.aload_n rfl rfl ?_
      refine AX.aload_nS rfl rfl ?_
      refine AX.iload_n rfl rfl ?_
      refine AX.iconstV (v := 1) rfl (by decide) ?_
      refine AX.iadd rfl ?_
      refine AX.sldN (c := i + 1) rfl (by omega) (by omega) i1 ?_
      refine AX.cVI rfl rfl rfl (Q0 hq) (sQ_landed hq _) (fun h hq => ?_)
      obtain ⟨p, hm, hback⟩ := qm hq
      refine AX.aload_n rfl rfl ?_
      refine AX.aload_nS rfl rfl ?_
      refine AX.iload_n rfl rfl ?_
      refine AX.iconstV (v := 1) rfl (by decide) ?_
      refine AX.iadd rfl ?_
      refine AX.sldN (c := i + 1) rfl (by omega) (by omega) i1 ?_
      refine AX.cVI rfl rfl rfl (M0 hm) (ok_landed hI hm _) (fun h hJ => ?_)
      refine AX.icmp_eq rfl (fun _ => ?_) (fun c => absurd rfl c)
      obtain ⟨y2, t2, hI2, hm2⟩ := hJ
      exact nxt _ _ _ _ hI2 (hback _ _ hm2)
    · refine AX.tsIn 478 rfl (by decide) (by decide) rfl (by decide) ?_
      refine AX.aload_n rfl rfl ?_
      refine AX.aload_nS rfl rfl ?_
      refine AX.iload_n rfl rfl ?_
      refine AX.iconstV (v := 1) rfl (by decide) ?_
      refine AX.iadd rfl ?_
      refine AX.sldN (c := i + 1) rfl (by omega) (by omega) i1 ?_
      refine AX.cVI rfl rfl rfl (Q0 hq) (sQ_where hq _) (fun h hq => ?_)
      obtain ⟨p, hm, hback⟩ := qm hq
      refine AX.aload_n rfl rfl ?_
      refine AX.aload_nS rfl rfl ?_
      refine AX.iload_n rfl rfl ?_
      refine AX.iconstV (v := 1) rfl (by decide) ?_
      refine AX.iadd rfl ?_
      refine AX.sldN (c := i + 1) rfl (by omega) (by omega) i1 ?_
      refine AX.cVI rfl rfl rfl (M0 hm) (ok_where hI hm _) (fun h hJ => ?_)
      refine AX.icmp_eq rfl (fun _ => ?_) (fun c => absurd rfl c)
      obtain ⟨y2, t2, hI2, hm2⟩ := hJ
      exact nxt _ _ _ _ hI2 (hback _ _ hm2)
    · refine AX.tsIn 501 rfl (by decide) (by decide) rfl (by decide) ?_
      refine AX.aload_n rfl rfl ?_
      refine AX.aload_nS rfl rfl ?_
      refine AX.iload_n rfl rfl ?_
      refine AX.iconstV (v := 1) rfl (by decide) ?_
      refine AX.iadd rfl ?_
      refine AX.sldN (c := i + 1) rfl (by omega) (by omega) i1 ?_
      refine AX.cVI rfl rfl rfl (Q0 hq) (sQ_why hq _) (fun h hq => ?_)
      obtain ⟨p, hm, hback⟩ := qm hq
      refine AX.aload_n rfl rfl ?_
      refine AX.aload_nS rfl rfl ?_
      refine AX.iload_n rfl rfl ?_
      refine AX.iconstV (v := 1) rfl (by decide) ?_
      refine AX.iadd rfl ?_
      refine AX.sldN (c := i + 1) rfl (by omega) (by omega) i1 ?_
      refine AX.cVI rfl rfl rfl (M0 hm) (ok_why hI hm _) (fun h hJ => ?_)
      refine AX.icmp_eq rfl (fun _ => ?_) (fun c => absurd rfl c)
      obtain ⟨y2, t2, hI2, hm2⟩ := hJ
      exact nxt _ _ _ _ hI2 (hback _ _ hm2)
    · refine AX.tsIn 524 rfl (by decide) (by decide) rfl (by decide) ?_
      refine AX.aload_n rfl rfl ?_
      refine AX.aload_nS rfl rfl ?_
      refine AX.iload_n rfl rfl ?_
      refine AX.iconstV (v := 1) rfl (by decide) ?_
      refine AX.iadd rfl ?_
      refine AX.sldN (c := i + 1) rfl (by omega) (by omega) i1 ?_
      refine AX.cVI rfl rfl rfl (Q0 hq) (sQ_by hq _) (fun h hq => ?_)
      obtain ⟨p, hm, hback⟩ := qm hq
      refine AX.aload_n rfl rfl ?_
      refine AX.aload_nS rfl rfl ?_
      refine AX.iload_n rfl rfl ?_
      refine AX.iconstV (v := 1) rfl (by decide) ?_
      refine AX.iadd rfl ?_
      refine AX.sldN (c := i + 1) rfl (by omega) (by omega) i1 ?_
      refine AX.cVI rfl rfl rfl (M0 hm) (ok_by hI hm _) (fun h hJ => ?_)
      refine AX.icmp_eq rfl (fun _ => ?_) (fun c => absurd rfl c)
      obtain ⟨y2, t2, hI2, hm2⟩ := hJ
      exact nxt _ _ _ _ hI2 (hback _ _ hm2)
    · refine AX.tsIn 547 rfl (by decide) (by decide) rfl (by decide) ?_
      refine AX.aload_n rfl rfl ?_
      refine AX.aload_nS rfl rfl ?_
      refine AX.iload_n rfl rfl ?_
      refine AX.iconstV (v := 1) rfl (by decide) ?_
      refine AX.iadd rfl ?_
      refine AX.sldN (c := i + 1) rfl (by omega) (by omega) i1 ?_
      refine AX.cVI rfl rfl rfl (Q0 hq) (sQ_counted hq _) (fun h hq => ?_)
      obtain ⟨p, hm, hback⟩ := qm hq
      refine AX.aload_n rfl rfl ?_
      refine AX.aload_nS rfl rfl ?_
      refine AX.iload_n rfl rfl ?_
      refine AX.iconstV (v := 1) rfl (by decide) ?_
      refine AX.iadd rfl ?_
      refine AX.sldN (c := i + 1) rfl (by omega) (by omega) i1 ?_
      refine AX.cVI rfl rfl rfl (M0 hm) (ok_counted hI hm _) (fun h hJ => ?_)
      refine AX.icmp_eq rfl (fun _ => ?_) (fun c => absurd rfl c)
      obtain ⟨y2, t2, hI2, hm2⟩ := hJ
      exact nxt _ _ _ _ hI2 (hback _ _ hm2)
end LW
