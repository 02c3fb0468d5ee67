theorem o_insert : OPI (fun a b c h => f_X9_insert 0 a b h) (fun a b c h => f_X10_insert 0 a b h) (mp3 3 1 2) := by
  intro j hx hm a b c hj R
  have S := R.1.1
  have T := R.1.2
  obtain ⟨n, hn, e1, e2, e3⟩ := R.2.2.2.2.2.2.1
  rcases ka_rng a 0 14 0 14 rfl rfl (by decide) (by decide) with ⟨s, k1, k2, rfl, q1, q2⟩ | hq
  · by_cases hb : ∃ p, p < n ∧ b = nI p
    · obtain ⟨p, hp, rfl⟩ := hb
      have w1 : ¬ nI p < (0 : Int32) := nI_pos (by omega)
      have w2 : ¬ nI (n - 1) < nI p := by
        rw [ka_lt (by omega) (by omega)]
        omega
      by_cases h6 : n < 6
      · refine op_ok (hx1 := xPut (sX hx 0) (nI s) p n) (hm1 := mPut (sI hm 0 35 0) (nI s) p n) 0 (kChs (kPut (kI hx 23) (nI s) p n) (n + 1)) ?_ ?_ rfl ?_
        · show f_X9_insert 0 (nI s) (nI p) (sX hx 0) = _
          unfold f_X9_insert f_X9_requireSign f_X9_requireRoomForSign
          rw [wi_t q1 q2]
          simp (disch := omega) only [kb_ret, kb_thr, ki_ret, kif, kcallV, gI, gN, gR, gAI, gAL, gAN, pI, pR, pAI, pAL, pAZ, pAN, kmay, kretZ_0, kretZ_1, k10, if_true, if_false, eq_self, true_and, and_true, false_or, not_false_eq_true, not_true_eq_false, kd_sI, kn_sI, kR_sI, kL_sI, kd_sA, kn_sA, kR_sA, kL_sA, kd_sL, kn_sL, kR_sL, kI_sL, kd_sR, kn_sR, kI_sR, kL_sR, kd_sX, kn_sX, kI_sX, kL_sX, kR_sX, kd_sRA, kn_sRA, kI_sRA, kL_sRA, if_pos, if_neg, S.d0, S.r0_2, S.d22, e1, wi_t w1 w2, show (6 : Int32) = nI 6 from rfl, ka_le, ka_lt, ka_eq, ka_neg, ka_pred, ka_dec, nI_1, nI_clamp, false_or]
          rw [x_put (n := n) (S.X 0) e1 h6 (by omega)]
          simp only [kb_ret, (xPut_S (S.X 0)).d0, (xPut_S (S.X 0)).r0_2, (xPut_S (S.X 0)).d22, if_true, x_cc2 (S.X 0) h6]
          rfl
        · show f_X10_insert 0 (nI s) (nI p) hm = _
          unfold f_X10_insert f_X10_isSign
          rw [in_t q1 q2]
          simp (disch := omega) only [kb_ret, kb_thr, ki_ret, kif, kcallV, gI, gN, gR, gAI, gAL, gAN, pI, pR, pAI, pAL, pAZ, pAN, kmay, kretZ_0, kretZ_1, k10, if_true, if_false, eq_self, true_and, and_true, false_or, not_false_eq_true, not_true_eq_false, kd_sI, kn_sI, kR_sI, kL_sI, kd_sA, kn_sA, kR_sA, kL_sA, kd_sL, kn_sL, kR_sL, kI_sL, kd_sR, kn_sR, kI_sR, kL_sR, kd_sX, kn_sX, kI_sX, kL_sX, kR_sX, kd_sRA, kn_sRA, kI_sRA, kL_sRA, if_pos, if_neg, T.d0, e2, in_t w1 w2, show (6 : Int32) = nI 6 from rfl, ka_le, ka_lt, ka_eq, ka_neg, ka_pred, ka_dec, nI_1, nI_clamp, false_or, X10_insert_b44, can_0 T]
          rw [tm_puts (T.thr 0) e2 h6 (by omega), kb_ret]
          unfold X10_insert_b60
          rw [show kI (sI hm 0 35 0) 4 = kI hm 4 from rfl, chs_eq (by omega) e3]
          rfl
        · exact (((R.X 0).thr 0).up).put e1 h6 (by omega) (by omega)
      · refine op_no R 2 3 0 rfl (by decide) ?_ ?_
        · show f_X9_insert 0 (nI s) (nI p) (sX hx 0) = _
          unfold f_X9_insert f_X9_requireSign f_X9_requireRoomForSign
          rw [wi_t q1 q2]
          simp (disch := omega) only [kb_ret, kb_thr, ki_ret, kif, kcallV, gI, gN, gR, gAI, gAL, gAN, pI, pR, pAI, pAL, pAZ, pAN, kmay, kretZ_0, kretZ_1, k10, if_true, if_false, eq_self, true_and, and_true, false_or, not_false_eq_true, not_true_eq_false, kd_sI, kn_sI, kR_sI, kL_sI, kd_sA, kn_sA, kR_sA, kL_sA, kd_sL, kn_sL, kR_sL, kI_sL, kd_sR, kn_sR, kI_sR, kL_sR, kd_sX, kn_sX, kI_sX, kL_sX, kR_sX, kd_sRA, kn_sRA, kI_sRA, kL_sRA, if_pos, if_neg, S.d0, S.r0_2, S.d22, e1, wi_t w1 w2, show (6 : Int32) = nI 6 from rfl, ka_le, ka_lt, ka_eq, ka_neg, ka_pred, ka_dec, nI_1, nI_clamp, false_or]
        · show f_X10_insert 0 (nI s) (nI p) hm = _
          unfold f_X10_insert f_X10_isSign
          rw [in_t q1 q2]
          simp (disch := omega) only [kb_ret, kb_thr, ki_ret, kif, kcallV, gI, gN, gR, gAI, gAL, gAN, pI, pR, pAI, pAL, pAZ, pAN, kmay, kretZ_0, kretZ_1, k10, if_true, if_false, eq_self, true_and, and_true, false_or, not_false_eq_true, not_true_eq_false, kd_sI, kn_sI, kR_sI, kL_sI, kd_sA, kn_sA, kR_sA, kL_sA, kd_sL, kn_sL, kR_sL, kI_sL, kd_sR, kn_sR, kI_sR, kL_sR, kd_sX, kn_sX, kI_sX, kL_sX, kR_sX, kd_sRA, kn_sRA, kI_sRA, kL_sRA, if_pos, if_neg, T.d0, e2, in_t w1 w2, show (6 : Int32) = nI 6 from rfl, ka_le, ka_lt, ka_eq, ka_neg, ka_pred, ka_dec, nI_1, nI_clamp, false_or, X10_insert_b44, X10_insert_b60, can_n T (show (3 : Int32) ≠ 0 by decide)]
    · have w : b < (0 : Int32) ∨ (nI n - 1) < b := by
        by_cases h0 : b < 0
        · exact Or.inl h0
        · right
          have hb0 : (0 : Int) ≤ b.toInt := by
            rw [Int32.lt_iff_toInt_lt, show (0 : Int32).toInt = 0 from by decide] at h0
            omega
          have hm1 : (nI n - 1).toInt = (n : Int) - 1 := by
            by_cases hn0 : n = 0
            · subst hn0
              decide
            · rw [ka_pred (by omega), nI_toInt (by omega)]
              omega
          rw [Int32.lt_iff_toInt_lt, hm1]
          by_cases hlt : b.toInt < n
          · exfalso
            refine hb ⟨b.toInt.toNat, by omega, ?_⟩
            rw [← Int32.toInt_inj, nI_toInt (by omega)]
            omega
          · omega
      refine op_no R 1 2 0 rfl (by decide) ?_ ?_
      · show f_X9_insert 0 (nI s) b (sX hx 0) = _
        unfold f_X9_insert f_X9_requireSign
        rw [wi_t q1 q2]
        simp (disch := omega) only [kb_ret, kif, k10, if_true, if_false, gN, gI, kmay, kd_sX, kR_sX, kI_sX, S.d0, S.r0_2, S.d22, e1, wi_f w]
      · show f_X10_insert 0 (nI s) b hm = _
        unfold f_X10_insert f_X10_isSign
        rw [in_t q1 q2, kb_ret, kretZ_1, kb_ret, kif, if_neg (by decide), gI, if_pos T.d0, e2, in_f w, kb_ret, kif, if_pos rfl]
        simp (disch := omega) only [kb_ret, kb_thr, ki_ret, kif, kcallV, gI, gN, gR, gAI, gAL, gAN, pI, pR, pAI, pAL, pAZ, pAN, kmay, kretZ_0, kretZ_1, k10, if_true, if_false, eq_self, true_and, and_true, false_or, not_false_eq_true, not_true_eq_false, kd_sI, kn_sI, kR_sI, kL_sI, kd_sA, kn_sA, kR_sA, kL_sA, kd_sL, kn_sL, kR_sL, kI_sL, kd_sR, kn_sR, kI_sR, kL_sR, kd_sX, kn_sX, kI_sX, kL_sX, kR_sX, kd_sRA, kn_sRA, kI_sRA, kL_sRA, if_pos, if_neg, T.d0, X10_insert_b44, X10_insert_b60, can_n T (show (2 : Int32) ≠ 0 by decide)]
  · refine op_no R 3 1 0 rfl (by decide) ?_ ?_
    · show f_X9_insert 0 a b (sX hx 0) = _
      unfold f_X9_insert f_X9_requireSign
      rw [wi_f hq, kb_ret, kif, if_pos rfl]
      rfl
    · show f_X10_insert 0 a b hm = _
      unfold f_X10_insert f_X10_isSign
      rw [in_f hq, kb_ret, kretZ_0, kb_ret, kif, if_pos rfl]
      simp (disch := omega) only [kb_ret, kb_thr, ki_ret, kif, kcallV, gI, gN, gR, gAI, gAL, gAN, pI, pR, pAI, pAL, pAZ, pAN, kmay, kretZ_0, kretZ_1, k10, if_true, if_false, eq_self, true_and, and_true, false_or, not_false_eq_true, not_true_eq_false, kd_sI, kn_sI, kR_sI, kL_sI, kd_sA, kn_sA, kR_sA, kL_sA, kd_sL, kn_sL, kR_sL, kI_sL, kd_sR, kn_sR, kI_sR, kL_sR, kd_sX, kn_sX, kI_sX, kL_sX, kR_sX, kd_sRA, kn_sRA, kI_sRA, kL_sRA, if_pos, if_neg, T.d0, X10_insert_b44, X10_insert_b60, can_n T (show (1 : Int32) ≠ 0 by decide)]
