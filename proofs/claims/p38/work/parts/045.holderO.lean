section KH2
variable {j : Nat} {hx hm : KH}
theorem RR.min (R : RR j hx hm) : kI hx 0 12 = nI (mn hm 0 0) ∧ kI hm 0 0 = nI (mn hm 0 0) ∧ mn hm 0 0 ≤ 50000 := by
  obtain ⟨P, hP, e1, e2⟩ := R.2.1
  have e : mn hm 0 0 = P := by unfold mn; rw [e2, nI_clamp (by omega)]
  rw [e]
  exact ⟨e1, e2, hP⟩
theorem RR.reqMin (R : RR j hx hm) {b : Int32} (h1 : ¬ b < 0) (h2 : ¬ nI (mn hm 0 0) < b) : f_X9_requireMinute 0 b hx = kret () hx := by
  unfold f_X9_requireMinute
  rw [gI_k R.1.1.d0, R.min.1, wi_t h1 h2, kb_ret, kif_f (by decide)]
theorem RR.reqMinNo (R : RR j hx hm) {b : Int32} (h : b < 0 ∨ nI (mn hm 0 0) < b) : f_X9_requireMinute 0 b hx = kthrow 1 hx := by
  unfold f_X9_requireMinute
  rw [gI_k R.1.1.d0, R.min.1, wi_f h, kb_ret, kif_t rfl]
theorem RR.holdN (R : RR j hx hm) : ∃ n, n ≤ j ∧ kI hm 0 12 = nI n ∧ (∀ k, k < n → (∃ q, q < 10 ∧ kI hm 9 k = nI q) ∧ ∃ s, s ≤ 50000 ∧ kI hm 11 k = nI s) ∧ ∀ p, p < mn hm 0 8 → ∀ m, m < 2147483648 → j < 512 → f_X4_driverIn (100 + 8 * p) (nI m) hx = kret (sHold hm p m n) hx := by
  obtain ⟨n, c1, c2, c3, c4⟩ := R.2.2.2.2.2.2.2.2.2.2.1
  have hP := R.P
  have hM := R.min.2.2
  refine ⟨n, c1, c2, fun k hk => ?_, fun p hp m hm1 hj => ?_⟩
  · obtain ⟨⟨q, hq, eq⟩, -, s, hs, es⟩ := c3 k hk
    exact ⟨⟨q, by omega, eq⟩, s, by omega, es⟩
  · obtain ⟨-, c6, c7⟩ := c4 p hp
    unfold f_X4_driverIn
    rw [gR_k (R.pl hp).1.1, t0_drv hm1 (j + 1) _ c6 kF (by unfold kF; omega), c7]
end KH2
theorem o_holder : OPI (fun a b c h => f_X9_holder 0 a b h) (fun a b c h => f_X10_holder 0 a b h) (mp2 3 1) := by
  intro j hx hm a b c hj R
  have S := R.1.1.X 0
  have T := R.1.2
  have RX := R.X 0
  have hP := R.P
  obtain ⟨-, eN, hN⟩ := R.min
  obtain ⟨n, hn, hc, hh, hd⟩ := RX.holdN
  rcases ka_below a (mn hm 0 8) (by omega) with ⟨p, hp, rfl, q1, q2⟩ | hq
  · rcases ka_rng b 0 (nI (mn hm 0 0)) 0 (mn hm 0 0) rfl rfl (by omega) (by decide) with ⟨m, m1, m2, rfl, q3, q4⟩ | hq3
    · refine op_rd R (sHold hm p m n) ?_ ?_
      · show f_X9_holder 0 (nI p) (nI m) (sX hx 0) = _
        unfold f_X9_holder
        rw [kV_k S.d0, RX.plate hp q1 q2, kb_ret, kV_k S.d0, RX.reqMin q3 q4, kb_ret, kV_k (RX.pl hp).1.1, hd p hp m (by omega) hj, kb_ret]
      · show f_X10_holder 0 (nI p) (nI m) hm = _
        unfold f_X10_holder
        rw [kV_k T.d0, R.isPlate q1 q2, kb_ret, kif_f (by decide), gI_k T.d0, eN, in_t q3 q4, kb_ret, kif_f (by decide)]
        unfold X10_holder_b30 X10_holder_b46
        rw [kV_k T.d0, can_0 T, kb_ret, kif_f (by decide), kV_k (T.thr 0).d0, tm_holderAt (T.thr 0) hc (by omega) hh (by omega) (by omega), kb_ret]
        rw [sHold_cg (h := hm) (h' := sI hm 0 35 0) (fun k => rfl) (fun k => rfl) (fun k => rfl)]
    · refine op_no R 1 2 0 rfl (by decide) ?_ ?_
      · show f_X9_holder 0 (nI p) b (sX hx 0) = _
        unfold f_X9_holder
        rw [kV_k S.d0, RX.plate hp q1 q2, kb_ret, kV_k S.d0, RX.reqMinNo hq3]
        rfl
      · show f_X10_holder 0 (nI p) b hm = _
        unfold f_X10_holder
        rw [kV_k T.d0, R.isPlate q1 q2, kb_ret, kif_f (by decide), gI_k T.d0, eN, in_f hq3, kb_ret, kif_t rfl]
        unfold X10_holder_b30 X10_holder_b46
        rw [kV_k T.d0, can_n T (show (2 : Int32) ≠ 0 by decide), kb_ret, kif_t rfl]
  · refine op_no R 3 1 0 rfl (by decide) ?_ ?_
    · show f_X9_holder 0 a b (sX hx 0) = _
      unfold f_X9_holder
      rw [kV_k S.d0, RX.plateNo hq]
      rfl
    · show f_X10_holder 0 a b hm = _
      unfold f_X10_holder
      rw [kV_k T.d0, R.isPlateNo hq, kb_ret, kif_t rfl]
      unfold X10_holder_b30 X10_holder_b46
      rw [kV_k T.d0, can_n T (show (1 : Int32) ≠ 0 by decide), kb_ret, kif_t rfl]
