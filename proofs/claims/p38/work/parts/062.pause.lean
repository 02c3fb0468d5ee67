/-! setPause, distance -/
def FRd (a k : Nat) : Prop := a = 0 ∧ (k = 12 ∨ k = 15 ∨ k = 16) ∨ a = 21 ∨ a = 23 ∨ a = 22 ∧ k = 1 ∨ (a % 8 = 7 ∧ 100 ≤ a ∧ a < 180 ∨ 1000 ≤ a ∧ a < 2000 ∨ a % 8 = 4 ∧ 100 ≤ a ∧ a < 180 ∧ k = 4) ∨ a = 31 ∨ a = 32 ∨ a = 35 ∨ 500 ≤ a ∧ a < 508 ∨ a = 29 ∨ 600 ≤ a ∧ a < 640 ∨ a = 30
theorem FRd_DM : ∀ a k, FRd a k → ¬ DM a k := by
  intro a k h1 h2
  unfold FRd at h1
  unfold DM at h2
  rcases h2 with h2 | h2 <;> omega
theorem rgt_t {b : Int32} {h : KH} (h1 : ¬ b < 0) (h2 : ¬ 7 < b) : f_X9_requireGate b h = kret () h := by
  unfold f_X9_requireGate
  rw [wi_t h1 h2, kb_ret, kif_f (by decide)]
theorem rgt_f {b : Int32} {h : KH} (h1 : b < 0 ∨ 7 < b) : f_X9_requireGate b h = kthrow 3 h := by
  unfold f_X9_requireGate
  rw [wi_f h1, kb_ret, kif_t rfl]
theorem mgt_t {b : Int32} {h : KH} (h1 : ¬ b < 0) (h2 : ¬ 7 < b) : f_X10_isGate b h = kret 1 h := by
  unfold f_X10_isGate
  rw [in_t h1 h2, kb_ret]
  rfl
theorem mgt_f {b : Int32} {h : KH} (h1 : b < 0 ∨ 7 < b) : f_X10_isGate b h = kret 0 h := by
  unfold f_X10_isGate
  rw [in_f h1, kb_ret]
  rfl
theorem mc_idx8 (a b : Nat) : (8 : Int32) * nI a + nI b = nI (8 * a + b) := by
  rw [show (8 : Int32) = nI 8 from rfl, ka_mul, ka_add]
theorem o_distance : OPI (fun a b c h => f_X9_distance 0 a b h) (fun a b c h => f_X10_distance 0 a b h) (mp1 3) := by
  intro j hx hm a b c hj R
  have S := R.1.1.X 0
  have T := R.1.2
  have K := (R.X 0).kCx
  rcases ka_rng a 0 7 0 7 rfl rfl (by decide) (by decide) with ⟨x, x1, x2, rfl, q1, q2⟩ | hq
  · rcases ka_rng b 0 7 0 7 rfl rfl (by decide) (by decide) with ⟨y, y1, y2, rfl, q3, q4⟩ | hq3
    · refine op_rd R (kI hm 2 (8 * x + y)) ?_ ?_
      · show f_X9_distance 0 (nI x) (nI y) (sX hx 0) = _
        unfold f_X9_distance
        rw [rgt_t q1 q2, kb_ret, rgt_t q3 q4, kb_ret, gN_k S.d0 S.r0_0, kV_k S.d1, K.between (by omega) (by omega), kb_ret]
      · show f_X10_distance 0 (nI x) (nI y) hm = _
        unfold f_X10_distance
        rw [mgt_t q1 q2, kb_ret, kif_f (by decide), mgt_t q3 q4, kb_ret, kif_f (by decide)]
        unfold X10_distance_b20
        rw [kV_k T.d0, can_0 T, kb_ret, kif_f (by decide), gN_k (T.thr 0).d0 (T.thr 0).r3, mc_idx8, gAI_k (T.thr 0).d2 (by rw [(T.thr 0).n2]; omega) (by omega)]
        rfl
    · refine op_no R 3 1 0 rfl (by decide) ?_ ?_
      · show f_X9_distance 0 (nI x) b (sX hx 0) = _
        unfold f_X9_distance
        rw [rgt_t q1 q2, kb_ret, rgt_f hq3]
        rfl
      · show f_X10_distance 0 (nI x) b hm = _
        unfold f_X10_distance
        rw [mgt_t q1 q2, kb_ret, kif_f (by decide), mgt_f hq3, kb_ret, kif_t rfl]
        unfold X10_distance_b19 X10_distance_b20
        rw [kV_k T.d0, can_n T (show (1 : Int32) ≠ 0 by decide), kb_ret, kif_t rfl]
        rfl
  · refine op_no R 3 1 0 rfl (by decide) ?_ ?_
    · show f_X9_distance 0 a b (sX hx 0) = _
      unfold f_X9_distance
      rw [rgt_f hq]
      rfl
    · show f_X10_distance 0 a b hm = _
      unfold f_X10_distance
      rw [mgt_f hq, kb_ret, kif_t rfl]
      unfold X10_distance_b19 X10_distance_b20
      rw [kV_k T.d0, can_n T (show (1 : Int32) ≠ 0 by decide), kb_ret, kif_t rfl]
      rfl
theorem jaDM : ∀ i k : Nat, 100 ≤ i ∧ i < 180 ∧ i % 8 = 2 → DM i k := fun i k h => Or.inl (by omega)
theorem o_setPause : OPI (fun a b c h => f_X9_setPause 0 a h) (fun a b c h => f_X10_setPause 0 a h) (mp1 1) := by
  intro j hx hm a b c hj R
  have S := R.1.1.X 0
  have T := R.1.2
  have RX := R.X 0
  have M := R.MX
  have hP := R.P
  have hR := M.2.2.1.1
  have RT := RX.thr 0
  have T1 := T.thr 0
  rcases ka_rng a 0 500 0 500 rfl rfl (by decide) (by decide) with ⟨v, v1, v2, rfl, q1, q2⟩ | hq
  · obtain ⟨n, n1, n2, n3⟩ := R.2.2.1
    have ag1 : kAg (fun i k => i = 1 ∧ k = 3) (sX hx 0) (sI (sX hx 0) 1 3 (nI v)) := kAg.I _ _ _ _
    have am : kAg (fun i k => i = 0 ∧ k = 1) (sI hm 0 35 0) (sI (sI hm 0 35 0) 0 1 (nI v)) := kAg.I _ _ _ _
    have KT := RT.kCx
    have cD := KT.2.2.1.fr ag1 am (fun a k z1 z2 => by omega) (fun a k z1 z2 => by omega)
    have cA := KT.2.2.2.1.fr ag1 am (fun a k z1 z2 => by omega) (fun a k z1 z2 => by omega)
    have cP : cPau (sI (sX hx 0) 1 3 (nI v)) (sI (sI hm 0 35 0) 0 1 (nI v)) := ⟨v, v2, by rw [kI_sI, if_pos ⟨rfl, rfl⟩], by rw [kI_sI, if_pos ⟨rfl, rfl⟩]⟩
    have K1 := KT.fr2 ag1 am cA cD cP (fun a k z1 z2 => by unfold FX at z1; omega) (fun a k z1 z2 => by unfold FM at z1; omega)
    have A0 := RT.AS.ar.fr hP hR ag1 am (fun a k z1 z2 => by omega) (fun a k z1 z2 => by omega)
    obtain ⟨h2, f1, f2', f3⟩ := K1.joinAllAgain A0
    have f2 : kAg DM _ h2 := f2'.sub jaDM
    have K2 := K1.fr f2 DM.dk
    have C2 : cCor h2 (sI (sI hm 0 35 0) 0 1 (nI v)) := fun s hs => by
      rw [(f2.1 (200 + 4 * s) 4 (fun z => by unfold DM at z; omega)).1, (ag1.1 (200 + 4 * s) 4 (fun z => by omega)).1, (am.1 16 s (fun z => by omega)).1, (am.1 17 s (fun z => by omega)).1, mn_cg1 (am.1 0 8 (fun z => by omega)).1]
      exact RT.cCor s hs
    have f5 := f3.cong (B := sPF (sI (sI hm 0 35 0) 0 1 (nI v))) (fun s hs => (sPF_cg (am.1 0 8 (fun z => by omega)).1 (fun a ha k => (am.1 a k (fun z => by omega)).1) s).symm)
    have ag : kAg (fun i k => i = 1 ∧ k = 3 ∨ DM i k) (sX hx 0) h2 := ag1.trans f2 (fun i k q z => q (Or.inl z)) (fun i k q z => q (Or.inr z))
    have cL := RT.2.2.2.1.fr ag am (fun a k z1 z2 => z2.elim (fun z => by omega) (fun z => by unfold DM at z; omega)) (fun a k z1 z2 => by omega)
    have Rn := rr_fin RT K2 C2 f5 cL ag am (fun a z => z.elim (fun z => by omega) (fun z => by unfold DM at z; omega)) (fun a k z1 z2 => z2.elim (fun z => by omega) (FRd_DM a k z1)) (fun a k z1 z2 => by omega) (fun s h1 z => by omega)
    refine op_ok (hx1 := h2) (hm1 := sI (sI hm 0 35 0) 0 1 (nI v)) 0 (nI n) ?_ ?_ (by rw [(am.1 0 35 (fun z => by omega)).1, kI_sI, if_pos ⟨rfl, rfl⟩]) Rn
    · show f_X9_setPause 0 (nI v) (sX hx 0) = _
      unfold f_X9_setPause
      rw [wi_t q1 q2, kb_ret, kif_f (by decide), gN_k S.d0 S.r0_0, gI_k S.d1, show kI (sX hx 0) 1 3 = nI n from n2, gN_k S.d0 S.r0_0, pI_k S.d1, kV_k K1.1.1.d0, f1, kb_ret]
    · show f_X10_setPause 0 (nI v) hm = _
      unfold f_X10_setPause
      rw [in_t q1 q2, kb_ret, kif_f (by decide)]
      unfold X10_setPause_b17
      rw [kV_k T.d0, can_0 T, kb_ret, kif_f (by decide), gI_k T1.d0, pI_k T1.d0, show kI (sI hm 0 35 0) 0 1 = nI n from n3]
  · refine op_no R 1 1 0 rfl (by decide) ?_ ?_
    · show f_X9_setPause 0 a (sX hx 0) = _
      unfold f_X9_setPause
      rw [wi_f hq, kb_ret, kif_t rfl]
    · show f_X10_setPause 0 a hm = _
      unfold f_X10_setPause
      rw [in_f hq, kb_ret, kif_t rfl]
      unfold X10_setPause_b17
      rw [kV_k T.d0, can_n T (show (1 : Int32) ≠ 0 by decide), kb_ret, kif_t rfl]
