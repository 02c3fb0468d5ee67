/-! spell, insert -/
section KPUT
variable {hx hm : KH} {n p : Nat} {v : Int32}
def xPut (hx : KH) (v : Int32) (p n : Nat) : KH := sI (sA hx 23 (kPut (kI hx 23) v p n)) 22 1 (nI (n + 1))
def mPut (hm : KH) (v : Int32) (p n : Nat) : KH := sI (sA hm 4 (kPut (kI hm 4) v p n)) 0 5 (nI (n + 1))
theorem xPut_ag (hx : KH) (v : Int32) (p n : Nat) : kAg (fun a k => a = 23 ∨ a = 22 ∧ k = 1) hx (xPut hx v p n) := (kAg.A hx 23 _).trans (kAg.I _ 22 1 _) (fun i k q z => q (Or.inl z)) (fun i k q z => q (Or.inr z))
theorem mPut_ag (hm : KH) (v : Int32) (p n : Nat) : kAg (fun a k => a = 4 ∨ a = 0 ∧ k = 5) hm (mPut hm v p n) := (kAg.A hm 4 _).trans (kAg.I _ 0 5 _) (fun i k q z => q (Or.inl z)) (fun i k q z => q (Or.inr z))
theorem xPut_S (S : kSx hx) : kSx (xPut hx v p n) := S.fr (xPut_ag hx v p n) (fun a k q z => by omega)
theorem x_put (S : kSx hx) (hc : kI hx 22 1 = nI n) (hn : n < 6) (hp : p ≤ n) : f_X7_put 22 v (nI p) hx = kret () (xPut hx v p n) := t0_put S.d22 S.r22_0 (by decide) S.d23 S.n23 hc hn hp
theorem x_cc (S : kSx hx) (hc : kI hx 22 1 = nI n) (hn : n ≤ 6) : f_X7_charCount 22 hx = kret (kChs (kI hx 23) n) hx := t0_charCount S.d22 S.r22_0 S.d23 S.n23 hc hn
theorem x_cc2 (S : kSx hx) (hn : n < 6) : f_X7_charCount 22 (xPut hx v p n) = kret (kChs (kPut (kI hx 23) v p n) (n + 1)) (xPut hx v p n) := x_cc (n := n + 1) (xPut_S S) rfl (by omega)
theorem chs_eq (hp : p ≤ n) (e : ∀ k, k < n → ∃ u, u < 15 ∧ kI hx 23 k = nI u ∧ kI hm 4 k = nI u) : kChs (kPut (kI hm 4) v p n) (n + 1) = kChs (kPut (kI hx 23) v p n) (n + 1) :=
  kChs_cg (fun k hk => kPut_cg (fun i hi => by obtain ⟨u, -, q1, q2⟩ := e i hi; rw [q1, q2]) k hk hp)
theorem RR.put {j s : Nat} (R1 : RR j hx hm) (hc : kI hx 22 1 = nI n) (hn : n < 6) (hp : p ≤ n) (hs : s < 15) : RR j (xPut hx (nI s) p n) (mPut hm (nI s) p n) := by
  have ag := xPut_ag hx (nI s) p n
  have am := mPut_ag hm (nI s) p n
  have hP := R1.P
  obtain ⟨⟨sx, sm⟩, c1, c2, c3, c4, c5, c6, c7, c8, c9, c10, c11, c12, c13, c14, c15, c16⟩ := R1
  refine ⟨⟨sx.fr ag ?_, sm.fr am ?_⟩, c1.fr ag am ?_ ?_, c2.fr ag am ?_ ?_, c3.fr ag am ?_ ?_, c4.fr ag am ?_ ?_, c5.fr ag am ?_ ?_, ?_, c7.fr ag am ?_ ?_, c8.fr ag am ?_ ?_, c9.fr ag am ?_ ?_, c10.fr hP ag am ?_ ?_, c11.fr ag am ?_ ?_, c12.fr hP ag am ?_ ?_, c13.fr ag am ?_ ?_, c14.fr ag am ?_ ?_, c15.fr ag am ?_ ?_, c16.fr (fun _ h => h) am ?_ (Nat.le_refl _)⟩
  all_goals first
    | (intro a k h1 h2; omega)
    | skip
  obtain ⟨n', hn', e1, e2, e3⟩ := c6
  have hnn : n' = n := by
    rw [hc, ka_eq (by omega) (by omega)] at e1
    exact e1.symm
  subst hnn
  refine ⟨n' + 1, by omega, rfl, rfl, fun k hk => ?_⟩
  show ∃ u, u < 15 ∧ kPut (kI hx 23) (nI s) p n' k = nI u ∧ kPut (kI hm 4) (nI s) p n' k = nI u
  unfold kPut
  by_cases h1 : k < p
  · rw [if_pos h1, if_pos h1]
    exact e3 k (by omega)
  · rw [if_neg h1, if_neg h1]
    by_cases h2 : k = p
    · rw [if_pos h2, if_pos h2]
      exact ⟨s, hs, rfl, rfl⟩
    · rw [if_neg h2, if_neg h2, if_pos (by omega), if_pos (by omega)]
      exact e3 (k - 1) (by omega)
end KPUT
theorem o_spell : OPI (fun a b c h => f_X9_spell 0 a h) (fun a b c h => f_X10_spell 0 a h) (mp2 3 2) := by
  intro j hx hm a b c hj R
  have S := R.1.1
  have T := R.1.2
  obtain ⟨n, hn, e1, e2, e3⟩ := R.2.2.2.2.2.2.1
  rcases ka_rng a 0 14 0 14 rfl rfl (by decide) (by decide) with ⟨s, k1, k2, rfl, q1, q2⟩ | hq
  · by_cases h6 : n < 6
    · refine op_ok (hx1 := xPut (sX hx 0) (nI s) n n) (hm1 := mPut (sI hm 0 35 0) (nI s) n n) 0 (kChs (kPut (kI hx 23) (nI s) n n) (n + 1)) ?_ ?_ rfl ?_
      · show f_X9_spell 0 (nI s) (sX hx 0) = _
        unfold f_X9_spell f_X9_requireSign f_X9_requireRoomForSign
        rw [wi_t q1 q2]
        simp (disch := omega) only [kb_ret, kb_thr, ki_ret, kif, kcallV, gI, gN, gR, gAI, gAL, gAN, pI, pR, pAI, pAL, pAZ, pAN, kmay, kretZ_0, kretZ_1, k10, if_true, if_false, eq_self, true_and, and_true, false_or, not_false_eq_true, not_true_eq_false, kd_sI, kn_sI, kR_sI, kL_sI, kd_sA, kn_sA, kR_sA, kL_sA, kd_sL, kn_sL, kR_sL, kI_sL, kd_sR, kn_sR, kI_sR, kL_sR, kd_sX, kn_sX, kI_sX, kL_sX, kR_sX, kd_sRA, kn_sRA, kI_sRA, kL_sRA, if_pos, if_neg, S.d0, S.r0_2, S.d22, e1, show (6 : Int32) = nI 6 from rfl, ka_le, ka_lt, ka_eq, ka_neg, ka_pred, ka_dec, nI_1, nI_clamp, false_or]
        rw [x_put (n := n) (S.X 0) e1 h6 (Nat.le_refl _)]
        simp only [kb_ret, (xPut_S (S.X 0)).d0, (xPut_S (S.X 0)).r0_2, (xPut_S (S.X 0)).d22, if_true, x_cc2 (S.X 0) h6]
        rfl
      · show f_X10_spell 0 (nI s) hm = _
        unfold f_X10_spell f_X10_isSign
        rw [in_t q1 q2]
        simp (disch := omega) only [kb_ret, kb_thr, ki_ret, kif, kcallV, gI, gN, gR, gAI, gAL, gAN, pI, pR, pAI, pAL, pAZ, pAN, kmay, kretZ_0, kretZ_1, k10, if_true, if_false, eq_self, true_and, and_true, false_or, not_false_eq_true, not_true_eq_false, kd_sI, kn_sI, kR_sI, kL_sI, kd_sA, kn_sA, kR_sA, kL_sA, kd_sL, kn_sL, kR_sL, kI_sL, kd_sR, kn_sR, kI_sR, kL_sR, kd_sX, kn_sX, kI_sX, kL_sX, kR_sX, kd_sRA, kn_sRA, kI_sRA, kL_sRA, if_pos, if_neg, T.d0, e2, show (6 : Int32) = nI 6 from rfl, ka_le, ka_lt, ka_eq, ka_neg, ka_pred, ka_dec, nI_1, nI_clamp, false_or, X10_spell_b26, can_0 T]
        rw [kI_sI, if_neg (by omega), e2, tm_puts (T.thr 0) e2 h6 (Nat.le_refl _), kb_ret]
        unfold X10_spell_b45
        rw [show kI (sI hm 0 35 0) 4 = kI hm 4 from rfl, chs_eq (Nat.le_refl _) e3]
        rfl
      · exact (((R.X 0).thr 0).up).put e1 h6 (Nat.le_refl _) (by omega)
    · refine op_no R 2 2 0 rfl (by decide) ?_ ?_
      · show f_X9_spell 0 (nI s) (sX hx 0) = _
        unfold f_X9_spell f_X9_requireSign f_X9_requireRoomForSign
        rw [wi_t q1 q2]
        simp (disch := omega) only [kb_ret, kb_thr, ki_ret, kif, kcallV, gI, gN, gR, gAI, gAL, gAN, pI, pR, pAI, pAL, pAZ, pAN, kmay, kretZ_0, kretZ_1, k10, if_true, if_false, eq_self, true_and, and_true, false_or, not_false_eq_true, not_true_eq_false, kd_sI, kn_sI, kR_sI, kL_sI, kd_sA, kn_sA, kR_sA, kL_sA, kd_sL, kn_sL, kR_sL, kI_sL, kd_sR, kn_sR, kI_sR, kL_sR, kd_sX, kn_sX, kI_sX, kL_sX, kR_sX, kd_sRA, kn_sRA, kI_sRA, kL_sRA, if_pos, if_neg, S.d0, S.r0_2, S.d22, e1, show (6 : Int32) = nI 6 from rfl, ka_le, ka_lt, ka_eq, ka_neg, ka_pred, ka_dec, nI_1, nI_clamp, false_or]
      · show f_X10_spell 0 (nI s) hm = _
        unfold f_X10_spell f_X10_isSign
        rw [in_t q1 q2]
        simp (disch := omega) only [kb_ret, kb_thr, ki_ret, kif, kcallV, gI, gN, gR, gAI, gAL, gAN, pI, pR, pAI, pAL, pAZ, pAN, kmay, kretZ_0, kretZ_1, k10, if_true, if_false, eq_self, true_and, and_true, false_or, not_false_eq_true, not_true_eq_false, kd_sI, kn_sI, kR_sI, kL_sI, kd_sA, kn_sA, kR_sA, kL_sA, kd_sL, kn_sL, kR_sL, kI_sL, kd_sR, kn_sR, kI_sR, kL_sR, kd_sX, kn_sX, kI_sX, kL_sX, kR_sX, kd_sRA, kn_sRA, kI_sRA, kL_sRA, if_pos, if_neg, T.d0, e2, show (6 : Int32) = nI 6 from rfl, ka_le, ka_lt, ka_eq, ka_neg, ka_pred, ka_dec, nI_1, nI_clamp, false_or, X10_spell_b26, X10_spell_b45, can_n T (show (2 : Int32) ≠ 0 by decide)]
  · refine op_no R 3 1 0 rfl (by decide) ?_ ?_
    · show f_X9_spell 0 a (sX hx 0) = _
      unfold f_X9_spell f_X9_requireSign
      rw [wi_f hq, kb_ret, kif, if_pos rfl]
      rfl
    · show f_X10_spell 0 a hm = _
      unfold f_X10_spell f_X10_isSign
      rw [in_f hq, kb_ret, kretZ_0, kb_ret, kif, if_pos rfl]
      simp (disch := omega) only [kb_ret, kb_thr, ki_ret, kif, kcallV, gI, gN, gR, gAI, gAL, gAN, pI, pR, pAI, pAL, pAZ, pAN, kmay, kretZ_0, kretZ_1, k10, if_true, if_false, eq_self, true_and, and_true, false_or, not_false_eq_true, not_true_eq_false, kd_sI, kn_sI, kR_sI, kL_sI, kd_sA, kn_sA, kR_sA, kL_sA, kd_sL, kn_sL, kR_sL, kI_sL, kd_sR, kn_sR, kI_sR, kL_sR, kd_sX, kn_sX, kI_sX, kL_sX, kR_sX, kd_sRA, kn_sRA, kI_sRA, kL_sRA, if_pos, if_neg, T.d0, X10_spell_b26, X10_spell_b45, can_n T (show (1 : Int32) ≠ 0 by decide)]
