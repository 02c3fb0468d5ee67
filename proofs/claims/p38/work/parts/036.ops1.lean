/-! the small calls -/
theorem k10 : ((1 : Int32) = 0) = False := by decide
theorem kretZ_0 (h : KH) : kretZ 0 h = kret 0 h := rfl
theorem kretZ_1 (h : KH) : kretZ 1 h = kret 1 h := rfl
theorem wi_t {a lo hi : Int32} {h : KH} (h1 : ¬ a < lo) (h2 : ¬ hi < a) : f_X9_isWithin a lo hi h = kret 1 h := by
  unfold f_X9_isWithin kif
  rw [if_neg h1, if_neg h2]
  rfl
theorem wi_f {a lo hi : Int32} {h : KH} (h1 : a < lo ∨ hi < a) : f_X9_isWithin a lo hi h = kret 0 h := by
  unfold f_X9_isWithin kif
  by_cases h2 : a < lo
  · rw [if_pos h2]
    rfl
  · rw [if_neg h2, if_pos (h1.resolve_left h2)]
    rfl
theorem in_t {a lo hi : Int32} {h : KH} (h1 : ¬ a < lo) (h2 : ¬ hi < a) : f_X10_isIn a lo hi h = kret 1 h := by
  unfold f_X10_isIn kif
  rw [if_neg h1, if_neg h2]
  rfl
theorem in_f {a lo hi : Int32} {h : KH} (h1 : a < lo ∨ hi < a) : f_X10_isIn a lo hi h = kret 0 h := by
  unfold f_X10_isIn kif
  by_cases h2 : a < lo
  · rw [if_pos h2]
    rfl
  · rw [if_neg h2, if_pos (h1.resolve_left h2)]
    rfl
theorem ka_of {a : Int32} {lo hi : Nat} (h1 : ¬ a < nI lo) (h2 : ¬ nI hi < a) (hh : hi < 2147483648) (hl : lo < 2147483648) : ∃ n, lo ≤ n ∧ n ≤ hi ∧ a = nI n := by
  rw [Int32.lt_iff_toInt_lt, nI_toInt hl] at h1
  rw [Int32.lt_iff_toInt_lt, nI_toInt hh] at h2
  refine ⟨a.toInt.toNat, by omega, by omega, ?_⟩
  rw [← Int32.toInt_inj, nI_toInt (by omega)]
  omega
/-- in the range, or not -/
theorem ka_rng (a lo hi : Int32) (l u : Nat) (el : lo = nI l) (eu : hi = nI u) (hu : u < 2147483648) (hl : l < 2147483648) : (∃ n, l ≤ n ∧ n ≤ u ∧ a = nI n ∧ ¬ a < lo ∧ ¬ hi < a) ∨ (a < lo ∨ hi < a) := by
  by_cases h1 : a < lo
  · exact Or.inr (Or.inl h1)
  · by_cases h2 : hi < a
    · exact Or.inr (Or.inr h2)
    · rw [el] at h1
      rw [eu] at h2
      obtain ⟨n, q1, q2, q3⟩ := ka_of h1 h2 hu hl
      exact Or.inl ⟨n, q1, q2, q3, by rw [el]; exact h1, by rw [eu]; exact h2⟩
theorem can_0 {h : KH} (S : kSm h) : f_X10_can 0 0 h = kret 1 (sI h 0 35 0) := by
  unfold f_X10_can pI
  rw [if_pos S.d0]
  rfl
theorem can_n {h : KH} (S : kSm h) {f : Int32} (hf : f ≠ 0) : f_X10_can 0 f h = kret 0 (sI h 0 35 f) := by
  unfold f_X10_can pI kif
  rw [if_pos S.d0]
  show (if f = 0 then _ else _) = _
  rw [if_neg hf]
  rfl
theorem kSm.thr {h : KH} (S : kSm h) (v : Int32) : kSm (sI h 0 35 v) := S.fr (kAg.I h 0 35 v) (fun a k q z => by omega)
theorem kSx.X {h : KH} (S : kSx h) (n : Nat) : kSx (sX h n) := S
def mp2 (a b : Nat) : Nat → Option Int32 := fun e => if e = a then some 1 else if e = b then some 2 else none
def mp1 (a : Nat) : Nat → Option Int32 := fun e => if e = a then some 1 else none
def mp3 (a b c : Nat) : Nat → Option Int32 := fun e => if e = a then some 1 else if e = b then some 2 else if e = c then some 3 else none
theorem hand1 {a : Nat} : ∀ e kx (h1 : KH), mp1 a e = some kx → (if e = a then kret 1 h1 else none : KO Int32) = kret kx h1 := by
  intro e kx h1 h
  unfold mp1 at h
  split at h
  · rename_i q; cases h; rw [if_pos q]
  · cases h
theorem hand2 {a b : Nat} : ∀ e kx (h1 : KH), mp2 a b e = some kx → (if e = a then kret 1 h1 else if e = b then kret 2 h1 else none : KO Int32) = kret kx h1 := by
  intro e kx h1 h
  unfold mp2 at h
  split at h
  · rename_i q; cases h; rw [if_pos q]
  · rename_i q
    rw [if_neg q]
    split at h
    · rename_i q; cases h; rw [if_pos q]
    · cases h
theorem hand3 {a b c : Nat} : ∀ e kx (h1 : KH), mp3 a b c e = some kx → (if e = a then kret 1 h1 else if e = b then kret 2 h1 else if e = c then kret 3 h1 else none : KO Int32) = kret kx h1 := by
  intro e kx h1 h
  unfold mp3 at h
  split at h
  · rename_i q; cases h; rw [if_pos q]
  · rename_i q
    rw [if_neg q]
    split at h
    · rename_i q; cases h; rw [if_pos q]
    · rename_i q
      rw [if_neg q]
      split at h
      · rename_i q; cases h; rw [if_pos q]
      · cases h
theorem cHol.min {j : Nat} {hx hm hm' : KH} {D : Nat → Nat → Prop} {hx' : KH} (c : cHol j hx hm) (hP : mn hm 0 8 ≤ 10) (ag : kAg D hx hx') (hD : ∀ a k, a % 8 = 7 ∧ 100 ≤ a ∧ a < 180 ∨ 1000 ≤ a ∧ a < 2000 ∨ a % 8 = 4 ∧ 100 ≤ a ∧ a < 180 ∧ k = 4 → ¬ D a k) (e8 : kI hm' 0 8 = kI hm 0 8) (e12 : kI hm' 0 12 = kI hm 0 12) (e : ∀ a k, a = 9 ∨ a = 10 ∨ a = 11 → kI hm' a k = kI hm a k) (h0 : mn hm 0 0 ≤ mn hm' 0 0) : cHol j hx' hm' := by
  have hmid : cHol j hx hm' := by
    obtain ⟨n, c1, c2, c3, c4⟩ := c
    refine ⟨n, c1, by rw [e12]; exact c2, fun k hk => ?_, fun p hp => ?_⟩
    · obtain ⟨d1, d2, s, hs, d3⟩ := c3 k hk
      rw [mn_cg1 e8, e 9 k (by omega), e 10 k (by omega), e 11 k (by omega)]
      exact ⟨d1, d2, s, Nat.le_trans hs h0, d3⟩
    · rw [mn_cg1 e8] at hp
      obtain ⟨d1, d2, d3⟩ := c4 p hp
      exact ⟨d1, d2, fun m => by rw [d3, sHold_cg (fun k => e 9 k (by omega)) (fun k => e 10 k (by omega)) (fun k => e 11 k (by omega))]⟩
  exact hmid.fr (by rw [mn_cg1 e8]; exact hP) ag (kAg.rf hm') hD (fun a k _ h => h)
/-- pass -/
theorem o_pass : OPI (fun a b c h => f_X9_pass 0 a h) (fun a b c h => f_X10_pass 0 a h) (mp2 1 2) := by
  intro j hx hm a b c hj R
  have S := R.1.1
  have T := R.1.2
  obtain ⟨n, hn, e1, e2⟩ := R.2.1
  rcases ka_rng a 1 2000 1 2000 rfl rfl (by decide) (by decide) with ⟨k, k1, k2, rfl, q1, q2⟩ | hq
  · by_cases hl : n + k ≤ 50000
    · refine op_ok (hx1 := sI (sX hx 0) 0 12 (nI (n + k))) (hm1 := sI (sI hm 0 35 0) 0 0 (nI (n + k))) 0 (nI (n + k)) ?_ ?_ (by rw [kI_sI, if_neg (by omega), kI_sI, if_pos ⟨rfl, rfl⟩]) ?_
      · show f_X9_pass 0 (nI k) (sX hx 0) = _
        unfold f_X9_pass
        rw [wi_t q1 q2]
        simp (disch := omega) only [kb_ret, kb_thr, ki_ret, kif, kcallV, gI, gN, gR, gAI, gAL, gAN, pI, pR, pAI, pAL, pAZ, pAN, kmay, kretZ_0, kretZ_1, k10, if_true, if_false, eq_self, true_and, and_true, false_or, not_false_eq_true, not_true_eq_false, kd_sI, kn_sI, kR_sI, kL_sI, kd_sA, kn_sA, kR_sA, kL_sA, kd_sL, kn_sL, kR_sL, kI_sL, kd_sR, kn_sR, kI_sR, kL_sR, kd_sX, kn_sX, kI_sX, kL_sX, kR_sX, kd_sRA, kn_sRA, kI_sRA, kL_sRA, if_pos, if_neg, S.d0, e1, ka_add, show (50000 : Int32) = nI 50000 from rfl, ka_le, ka_lt, ka_eq, ka_neg, ka_pred, ka_dec, nI_1, nI_clamp, false_or, kI_sI, and_self]
      · show f_X10_pass 0 (nI k) hm = _
        unfold f_X10_pass
        rw [in_t q1 q2]
        simp (disch := omega) only [kb_ret, kb_thr, ki_ret, kif, kcallV, gI, gN, gR, gAI, gAL, gAN, pI, pR, pAI, pAL, pAZ, pAN, kmay, kretZ_0, kretZ_1, k10, if_true, if_false, eq_self, true_and, and_true, false_or, not_false_eq_true, not_true_eq_false, kd_sI, kn_sI, kR_sI, kL_sI, kd_sA, kn_sA, kR_sA, kL_sA, kd_sL, kn_sL, kR_sL, kI_sL, kd_sR, kn_sR, kI_sR, kL_sR, kd_sX, kn_sX, kI_sX, kL_sX, kR_sX, kd_sRA, kn_sRA, kI_sRA, kL_sRA, if_pos, if_neg, X10_pass_b32, T.d0, e2, ka_add, show (50000 : Int32) = nI 50000 from rfl, ka_le, ka_lt, ka_eq, ka_neg, ka_pred, ka_dec, nI_1, nI_clamp, false_or, can_0 T, kI_sI, and_self]
      · have R1 := ((R.X 0).thr 0).up
        have ag := kAg.I (sX hx 0) 0 12 (nI (n + k))
        have am := kAg.I (sI hm 0 35 0) 0 0 (nI (n + k))
        have hP := R1.P
        obtain ⟨⟨sx, sm⟩, c1, c2, c3, c4, c5, c6, c7, c8, c9, c10, c11, c12, c13, c14, c15, c16⟩ := R1
        refine ⟨⟨sx.fr ag ?_, sm.fr am ?_⟩, ?_, c2.fr ag am ?_ ?_, c3.fr ag am ?_ ?_, c4.fr ag am ?_ ?_, c5.fr ag am ?_ ?_, c6.fr ag am ?_ ?_, c7.fr ag am ?_ ?_, c8.fr ag am ?_ ?_, c9.fr ag am ?_ ?_, ?_, c11.fr ag am ?_ ?_, c12.fr hP ag am ?_ ?_, c13.fr ag am ?_ ?_, c14.fr ag am ?_ ?_, c15.fr ag am ?_ ?_, c16.fr (fun _ h => h) am ?_ (Nat.le_refl _)⟩
        all_goals first
          | (intro a k h1 h2; omega)
          | skip
        · exact ⟨n + k, hl, by rw [kI_sI, if_pos ⟨rfl, rfl⟩], by rw [kI_sI, if_pos ⟨rfl, rfl⟩]⟩
        · refine c10.min hP ag (fun a k h1 h2 => by omega) (am.1 0 8 (by omega)).1 (am.1 0 12 (by omega)).1 (fun a k ha => (am.1 a k (by omega)).1) ?_
          have a1 : kI (sI hm 0 35 0) 0 0 = nI n := e2
          have a2 : kI (sI (sI hm 0 35 0) 0 0 (nI (n + k))) 0 0 = nI (n + k) := rfl
          unfold mn
          rw [a1, a2, nI_clamp (by omega), nI_clamp (by omega)]
          omega
    · refine op_no R 2 2 0 rfl (by decide) ?_ ?_
      · show f_X9_pass 0 (nI k) (sX hx 0) = _
        unfold f_X9_pass
        rw [wi_t q1 q2]
        simp (disch := omega) only [kb_ret, kb_thr, ki_ret, kif, kcallV, gI, gN, gR, gAI, gAL, gAN, pI, pR, pAI, pAL, pAZ, pAN, kmay, kretZ_0, kretZ_1, k10, if_true, if_false, eq_self, true_and, and_true, false_or, not_false_eq_true, not_true_eq_false, kd_sI, kn_sI, kR_sI, kL_sI, kd_sA, kn_sA, kR_sA, kL_sA, kd_sL, kn_sL, kR_sL, kI_sL, kd_sR, kn_sR, kI_sR, kL_sR, kd_sX, kn_sX, kI_sX, kL_sX, kR_sX, kd_sRA, kn_sRA, kI_sRA, kL_sRA, if_pos, if_neg, S.d0, e1, ka_add, show (50000 : Int32) = nI 50000 from rfl, ka_le, ka_lt, ka_eq, ka_neg, ka_pred, ka_dec, nI_1, nI_clamp, false_or, kI_sI, and_self]
      · show f_X10_pass 0 (nI k) hm = _
        unfold f_X10_pass
        rw [in_t q1 q2]
        simp (disch := omega) only [kb_ret, kb_thr, ki_ret, kif, kcallV, gI, gN, gR, gAI, gAL, gAN, pI, pR, pAI, pAL, pAZ, pAN, kmay, kretZ_0, kretZ_1, k10, if_true, if_false, eq_self, true_and, and_true, false_or, not_false_eq_true, not_true_eq_false, kd_sI, kn_sI, kR_sI, kL_sI, kd_sA, kn_sA, kR_sA, kL_sA, kd_sL, kn_sL, kR_sL, kI_sL, kd_sR, kn_sR, kI_sR, kL_sR, kd_sX, kn_sX, kI_sX, kL_sX, kR_sX, kd_sRA, kn_sRA, kI_sRA, kL_sRA, if_pos, if_neg, X10_pass_b32, T.d0, e2, ka_add, show (50000 : Int32) = nI 50000 from rfl, ka_le, ka_lt, ka_eq, ka_neg, ka_pred, ka_dec, nI_1, nI_clamp, false_or, can_n T (show (2 : Int32) ≠ 0 by decide), kI_sI, and_self]
  · refine op_no R 1 1 0 rfl (by decide) ?_ ?_
    · show f_X9_pass 0 a (sX hx 0) = _
      unfold f_X9_pass
      rw [wi_f hq]
      simp only [kb_ret, kb_thr, ki_ret, kif, kcallV, gI, gN, gR, gAI, gAL, gAN, pI, pR, pAI, pAL, pAZ, pAN, kmay, kretZ_0, kretZ_1, k10, if_true, if_false, eq_self, true_and, and_true, false_or, not_false_eq_true, not_true_eq_false, kd_sI, kn_sI, kR_sI, kL_sI, kd_sA, kn_sA, kR_sA, kL_sA, kd_sL, kn_sL, kR_sL, kI_sL, kd_sR, kn_sR, kI_sR, kL_sR, kd_sX, kn_sX, kI_sX, kL_sX, kR_sX, kd_sRA, kn_sRA, kI_sRA, kL_sRA, if_pos, if_neg]
    · show f_X10_pass 0 a hm = _
      unfold f_X10_pass
      rw [in_f hq]
      simp (disch := omega) only [kb_ret, kb_thr, ki_ret, kif, kcallV, gI, gN, gR, gAI, gAL, gAN, pI, pR, pAI, pAL, pAZ, pAN, kmay, kretZ_0, kretZ_1, k10, if_true, if_false, eq_self, true_and, and_true, false_or, not_false_eq_true, not_true_eq_false, kd_sI, kn_sI, kR_sI, kL_sI, kd_sA, kn_sA, kR_sA, kL_sA, kd_sL, kn_sL, kR_sL, kI_sL, kd_sR, kn_sR, kI_sR, kL_sR, kd_sX, kn_sX, kI_sX, kL_sX, kR_sX, kd_sRA, kn_sRA, kI_sRA, kL_sRA, if_pos, if_neg, X10_pass_b32, T.d0, can_n T (show (1 : Int32) ≠ 0 by decide)]
/-- setRate -/
theorem o_setRate : OPI (fun a b c h => f_X9_setRate 0 a b h) (fun a b c h => f_X10_setRate 0 a b h) (mp1 1) := by
  intro j hx hm a b c hj R
  have S := R.1.1
  have T := R.1.2
  have hrat := R.2.2.2.2.2.1
  rcases ka_rng a 0 3 0 3 rfl rfl (by decide) (by decide) with ⟨k, k1, k2, rfl, q1, q2⟩ | hq
  · obtain ⟨u, hu, e1, e2⟩ := hrat k (by omega)
    rcases ka_rng b 0 50 0 50 rfl rfl (by decide) (by decide) with ⟨v, v1, v2, rfl, q3, q4⟩ | hq3
    · refine op_ok (hx1 := sI (sX hx 0) 21 k (nI v)) (hm1 := sI (sI hm 0 35 0) 3 k (nI v)) 0 (nI u) ?_ ?_ (by rw [kI_sI, if_neg (by omega), kI_sI, if_pos ⟨rfl, rfl⟩]) ?_
      · show f_X9_setRate 0 (nI k) (nI v) (sX hx 0) = _
        unfold f_X9_setRate f_X9_requireClass
        rw [wi_t q1 q2]
        simp (disch := omega) only [kb_ret, kb_thr, ki_ret, kif, kcallV, gI, gN, gR, gAI, gAL, gAN, pI, pR, pAI, pAL, pAZ, pAN, kmay, kretZ_0, kretZ_1, k10, if_true, if_false, eq_self, true_and, and_true, false_or, not_false_eq_true, not_true_eq_false, kd_sI, kn_sI, kR_sI, kL_sI, kd_sA, kn_sA, kR_sA, kL_sA, kd_sL, kn_sL, kR_sL, kI_sL, kd_sR, kn_sR, kI_sR, kL_sR, kd_sX, kn_sX, kI_sX, kL_sX, kR_sX, kd_sRA, kn_sRA, kI_sRA, kL_sRA, if_pos, if_neg, wi_t q3 q4, S.d0, S.r0_1, S.d21, S.n21, e1, ka_le, ka_lt, ka_eq, ka_neg, ka_pred, ka_dec, nI_1, nI_clamp, false_or, kI_sI]
      · show f_X10_setRate 0 (nI k) (nI v) hm = _
        unfold f_X10_setRate
        rw [in_t q1 q2]
        simp (disch := omega) only [kb_ret, kb_thr, ki_ret, kif, kcallV, gI, gN, gR, gAI, gAL, gAN, pI, pR, pAI, pAL, pAZ, pAN, kmay, kretZ_0, kretZ_1, k10, if_true, if_false, eq_self, true_and, and_true, false_or, not_false_eq_true, not_true_eq_false, kd_sI, kn_sI, kR_sI, kL_sI, kd_sA, kn_sA, kR_sA, kL_sA, kd_sL, kn_sL, kR_sL, kI_sL, kd_sR, kn_sR, kI_sR, kL_sR, kd_sX, kn_sX, kI_sX, kL_sX, kR_sX, kd_sRA, kn_sRA, kI_sRA, kL_sRA, if_pos, if_neg, in_t q3 q4, X10_setRate_b25, T.d0, T.r4, T.d3, T.n3, e2, ka_le, ka_lt, ka_eq, ka_neg, ka_pred, ka_dec, nI_1, nI_clamp, false_or, can_0 T, kI_sI]
      · have R1 := ((R.X 0).thr 0).up
        have ag := kAg.I (sX hx 0) 21 k (nI v)
        have am := kAg.I (sI hm 0 35 0) 3 k (nI v)
        have hP := R1.P
        obtain ⟨⟨sx, sm⟩, c1, c2, c3, c4, c5, c6, c7, c8, c9, c10, c11, c12, c13, c14, c15, c16⟩ := R1
        refine ⟨⟨sx.fr ag ?_, sm.fr am ?_⟩, c1.fr ag am ?_ ?_, c2.fr ag am ?_ ?_, c3.fr ag am ?_ ?_, c4.fr ag am ?_ ?_, ?_, c6.fr ag am ?_ ?_, c7.fr ag am ?_ ?_, c8.fr ag am ?_ ?_, c9.fr ag am ?_ ?_, c10.fr hP ag am ?_ ?_, c11.fr ag am ?_ ?_, c12.fr hP ag am ?_ ?_, c13.fr ag am ?_ ?_, c14.fr ag am ?_ ?_, c15.fr ag am ?_ ?_, c16.fr (fun _ h => h) am ?_ (Nat.le_refl _)⟩
        all_goals first
          | (intro a k h1 h2; omega)
          | skip
        intro i hi
        rw [kI_sI, kI_sI]
        by_cases hk : i = k
        · subst hk
          exact ⟨v, v2, if_pos ⟨rfl, rfl⟩, if_pos ⟨rfl, rfl⟩⟩
        · rw [if_neg (by omega), if_neg (by omega)]
          exact c5 i hi
    · refine op_no R 1 1 0 rfl (by decide) ?_ ?_
      · show f_X9_setRate 0 (nI k) b (sX hx 0) = _
        unfold f_X9_setRate f_X9_requireClass
        rw [wi_t q1 q2]
        simp (disch := omega) only [kb_ret, kb_thr, ki_ret, kif, kcallV, gI, gN, gR, gAI, gAL, gAN, pI, pR, pAI, pAL, pAZ, pAN, kmay, kretZ_0, kretZ_1, k10, if_true, if_false, eq_self, true_and, and_true, false_or, not_false_eq_true, not_true_eq_false, kd_sI, kn_sI, kR_sI, kL_sI, kd_sA, kn_sA, kR_sA, kL_sA, kd_sL, kn_sL, kR_sL, kI_sL, kd_sR, kn_sR, kI_sR, kL_sR, kd_sX, kn_sX, kI_sX, kL_sX, kR_sX, kd_sRA, kn_sRA, kI_sRA, kL_sRA, if_pos, if_neg, wi_f hq3]
      · show f_X10_setRate 0 (nI k) b hm = _
        unfold f_X10_setRate
        rw [in_t q1 q2]
        simp (disch := omega) only [kb_ret, kb_thr, ki_ret, kif, kcallV, gI, gN, gR, gAI, gAL, gAN, pI, pR, pAI, pAL, pAZ, pAN, kmay, kretZ_0, kretZ_1, k10, if_true, if_false, eq_self, true_and, and_true, false_or, not_false_eq_true, not_true_eq_false, kd_sI, kn_sI, kR_sI, kL_sI, kd_sA, kn_sA, kR_sA, kL_sA, kd_sL, kn_sL, kR_sL, kI_sL, kd_sR, kn_sR, kI_sR, kL_sR, kd_sX, kn_sX, kI_sX, kL_sX, kR_sX, kd_sRA, kn_sRA, kI_sRA, kL_sRA, if_pos, if_neg, in_f hq3, X10_setRate_b25, X10_setRate_b24, T.d0, can_n T (show (1 : Int32) ≠ 0 by decide)]
  · refine op_no R 1 1 0 rfl (by decide) ?_ ?_
    · show f_X9_setRate 0 a b (sX hx 0) = _
      unfold f_X9_setRate f_X9_requireClass
      rw [wi_f hq, kb_ret, kif, if_pos rfl]
      simp (disch := omega) only [kb_ret, kb_thr, ki_ret, kif, kcallV, gI, gN, gR, gAI, gAL, gAN, pI, pR, pAI, pAL, pAZ, pAN, kmay, kretZ_0, kretZ_1, k10, if_true, if_false, eq_self, true_and, and_true, false_or, not_false_eq_true, not_true_eq_false, kd_sI, kn_sI, kR_sI, kL_sI, kd_sA, kn_sA, kR_sA, kL_sA, kd_sL, kn_sL, kR_sL, kI_sL, kd_sR, kn_sR, kI_sR, kL_sR, kd_sX, kn_sX, kI_sX, kL_sX, kR_sX, kd_sRA, kn_sRA, kI_sRA, kL_sRA, if_pos, if_neg]
    · show f_X10_setRate 0 a b hm = _
      unfold f_X10_setRate
      rw [in_f hq, kb_ret, kif, if_pos rfl]
      simp (disch := omega) only [kb_ret, kb_thr, ki_ret, kif, kcallV, gI, gN, gR, gAI, gAL, gAN, pI, pR, pAI, pAL, pAZ, pAN, kmay, kretZ_0, kretZ_1, k10, if_true, if_false, eq_self, true_and, and_true, false_or, not_false_eq_true, not_true_eq_false, kd_sI, kn_sI, kR_sI, kL_sI, kd_sA, kn_sA, kR_sA, kL_sA, kd_sL, kn_sL, kR_sL, kI_sL, kd_sR, kn_sR, kI_sR, kL_sR, kd_sX, kn_sX, kI_sX, kL_sX, kR_sX, kd_sRA, kn_sRA, kI_sRA, kL_sRA, if_pos, if_neg, X10_setRate_b25, X10_setRate_b24, T.d0, can_n T (show (1 : Int32) ≠ 0 by decide)]
/-- billed, paidBack -/
theorem o_billed : OPI (fun a b c h => f_X9_billed 0 a h) (fun a b c h => f_X10_billed 0 a h) (mp1 3) := by
  intro j hx hm a b c hj R
  have S := R.1.1
  have T := R.1.2
  have hbil := R.2.2.2.2.2.2.2.2.2.2.2.2.2.1.1
  rcases ka_rng a 0 5 0 5 rfl rfl (by decide) (by decide) with ⟨k, k1, k2, rfl, q1, q2⟩ | hq
  · obtain ⟨e1, e2⟩ := hbil k (by omega)
    refine op_rd R (kL hm 20 k) ?_ ?_
    · show f_X9_billed 0 (nI k) (sX hx 0) = _
      unfold f_X9_billed f_X9_requireDriver
      rw [wi_t q1 q2]
      simp (disch := omega) only [kb_ret, kb_thr, ki_ret, kif, kcallV, gI, gN, gR, gAI, gAL, gAN, pI, pR, pAI, pAL, pAZ, pAN, kmay, kretZ_0, kretZ_1, k10, if_true, if_false, eq_self, true_and, and_true, false_or, not_false_eq_true, not_true_eq_false, kd_sI, kn_sI, kR_sI, kL_sI, kd_sA, kn_sA, kR_sA, kL_sA, kd_sL, kn_sL, kR_sL, kI_sL, kd_sR, kn_sR, kI_sR, kL_sR, kd_sX, kn_sX, kI_sX, kL_sX, kR_sX, kd_sRA, kn_sRA, kI_sRA, kL_sRA, if_pos, if_neg, S.d0, S.r0_9, S.d31, S.n31, e1, ka_le, ka_lt, ka_eq, ka_neg, ka_pred, ka_dec, nI_1, nI_clamp, false_or]
    · show f_X10_billed 0 (nI k) hm = _
      unfold f_X10_billed f_X10_isDriver
      rw [in_t q1 q2]
      simp (disch := omega) only [kb_ret, kb_thr, ki_ret, kif, kcallV, gI, gN, gR, gAI, gAL, gAN, pI, pR, pAI, pAL, pAZ, pAN, kmay, kretZ_0, kretZ_1, k10, if_true, if_false, eq_self, true_and, and_true, false_or, not_false_eq_true, not_true_eq_false, kd_sI, kn_sI, kR_sI, kL_sI, kd_sA, kn_sA, kR_sA, kL_sA, kd_sL, kn_sL, kR_sL, kI_sL, kd_sR, kn_sR, kI_sR, kL_sR, kd_sX, kn_sX, kI_sX, kL_sX, kR_sX, kd_sRA, kn_sRA, kI_sRA, kL_sRA, if_pos, if_neg, X10_billed_b13, X10_billed_b29, T.d0, T.r25, T.d20, T.n20, ka_le, ka_lt, ka_eq, ka_neg, ka_pred, ka_dec, nI_1, nI_clamp, false_or, can_0 T]
  · refine op_no R 3 1 0 rfl (by decide) ?_ ?_
    · show f_X9_billed 0 a (sX hx 0) = _
      unfold f_X9_billed f_X9_requireDriver
      rw [wi_f hq]
      simp (disch := omega) only [kb_ret, kb_thr, ki_ret, kif, kcallV, gI, gN, gR, gAI, gAL, gAN, pI, pR, pAI, pAL, pAZ, pAN, kmay, kretZ_0, kretZ_1, k10, if_true, if_false, eq_self, true_and, and_true, false_or, not_false_eq_true, not_true_eq_false, kd_sI, kn_sI, kR_sI, kL_sI, kd_sA, kn_sA, kR_sA, kL_sA, kd_sL, kn_sL, kR_sL, kI_sL, kd_sR, kn_sR, kI_sR, kL_sR, kd_sX, kn_sX, kI_sX, kL_sX, kR_sX, kd_sRA, kn_sRA, kI_sRA, kL_sRA, if_pos, if_neg]
    · show f_X10_billed 0 a hm = _
      unfold f_X10_billed f_X10_isDriver
      rw [in_f hq]
      simp (disch := omega) only [kb_ret, kb_thr, ki_ret, kif, kcallV, gI, gN, gR, gAI, gAL, gAN, pI, pR, pAI, pAL, pAZ, pAN, kmay, kretZ_0, kretZ_1, k10, if_true, if_false, eq_self, true_and, and_true, false_or, not_false_eq_true, not_true_eq_false, kd_sI, kn_sI, kR_sI, kL_sI, kd_sA, kn_sA, kR_sA, kL_sA, kd_sL, kn_sL, kR_sL, kI_sL, kd_sR, kn_sR, kI_sR, kL_sR, kd_sX, kn_sX, kI_sX, kL_sX, kR_sX, kd_sRA, kn_sRA, kI_sRA, kL_sRA, if_pos, if_neg, X10_billed_b13, X10_billed_b29, T.d0, can_n T (show (1 : Int32) ≠ 0 by decide)]
theorem o_paidBack : OPI (fun a b c h => f_X9_paidBack 0 a h) (fun a b c h => f_X10_paidBack 0 a h) (mp1 3) := by
  intro j hx hm a b c hj R
  have S := R.1.1
  have T := R.1.2
  have hbil := R.2.2.2.2.2.2.2.2.2.2.2.2.2.1.1
  rcases ka_rng a 0 5 0 5 rfl rfl (by decide) (by decide) with ⟨k, k1, k2, rfl, q1, q2⟩ | hq
  · obtain ⟨e1, e2⟩ := hbil k (by omega)
    refine op_rd R (kL hm 21 k) ?_ ?_
    · show f_X9_paidBack 0 (nI k) (sX hx 0) = _
      unfold f_X9_paidBack f_X9_requireDriver
      rw [wi_t q1 q2]
      simp (disch := omega) only [kb_ret, kb_thr, ki_ret, kif, kcallV, gI, gN, gR, gAI, gAL, gAN, pI, pR, pAI, pAL, pAZ, pAN, kmay, kretZ_0, kretZ_1, k10, if_true, if_false, eq_self, true_and, and_true, false_or, not_false_eq_true, not_true_eq_false, kd_sI, kn_sI, kR_sI, kL_sI, kd_sA, kn_sA, kR_sA, kL_sA, kd_sL, kn_sL, kR_sL, kI_sL, kd_sR, kn_sR, kI_sR, kL_sR, kd_sX, kn_sX, kI_sX, kL_sX, kR_sX, kd_sRA, kn_sRA, kI_sRA, kL_sRA, if_pos, if_neg, S.d0, S.r0_10, S.d32, S.n32, e2, ka_le, ka_lt, ka_eq, ka_neg, ka_pred, ka_dec, nI_1, nI_clamp, false_or]
    · show f_X10_paidBack 0 (nI k) hm = _
      unfold f_X10_paidBack f_X10_isDriver
      rw [in_t q1 q2]
      simp (disch := omega) only [kb_ret, kb_thr, ki_ret, kif, kcallV, gI, gN, gR, gAI, gAL, gAN, pI, pR, pAI, pAL, pAZ, pAN, kmay, kretZ_0, kretZ_1, k10, if_true, if_false, eq_self, true_and, and_true, false_or, not_false_eq_true, not_true_eq_false, kd_sI, kn_sI, kR_sI, kL_sI, kd_sA, kn_sA, kR_sA, kL_sA, kd_sL, kn_sL, kR_sL, kI_sL, kd_sR, kn_sR, kI_sR, kL_sR, kd_sX, kn_sX, kI_sX, kL_sX, kR_sX, kd_sRA, kn_sRA, kI_sRA, kL_sRA, if_pos, if_neg, X10_paidBack_b13, X10_paidBack_b29, T.d0, T.r26, T.d21, T.n21, ka_le, ka_lt, ka_eq, ka_neg, ka_pred, ka_dec, nI_1, nI_clamp, false_or, can_0 T]
  · refine op_no R 3 1 0 rfl (by decide) ?_ ?_
    · show f_X9_paidBack 0 a (sX hx 0) = _
      unfold f_X9_paidBack f_X9_requireDriver
      rw [wi_f hq]
      simp (disch := omega) only [kb_ret, kb_thr, ki_ret, kif, kcallV, gI, gN, gR, gAI, gAL, gAN, pI, pR, pAI, pAL, pAZ, pAN, kmay, kretZ_0, kretZ_1, k10, if_true, if_false, eq_self, true_and, and_true, false_or, not_false_eq_true, not_true_eq_false, kd_sI, kn_sI, kR_sI, kL_sI, kd_sA, kn_sA, kR_sA, kL_sA, kd_sL, kn_sL, kR_sL, kI_sL, kd_sR, kn_sR, kI_sR, kL_sR, kd_sX, kn_sX, kI_sX, kL_sX, kR_sX, kd_sRA, kn_sRA, kI_sRA, kL_sRA, if_pos, if_neg]
    · show f_X10_paidBack 0 a hm = _
      unfold f_X10_paidBack f_X10_isDriver
      rw [in_f hq]
      simp (disch := omega) only [kb_ret, kb_thr, ki_ret, kif, kcallV, gI, gN, gR, gAI, gAL, gAN, pI, pR, pAI, pAL, pAZ, pAN, kmay, kretZ_0, kretZ_1, k10, if_true, if_false, eq_self, true_and, and_true, false_or, not_false_eq_true, not_true_eq_false, kd_sI, kn_sI, kR_sI, kL_sI, kd_sA, kn_sA, kR_sA, kL_sA, kd_sL, kn_sL, kR_sL, kI_sL, kd_sR, kn_sR, kI_sR, kL_sR, kd_sX, kn_sX, kI_sX, kL_sX, kR_sX, kd_sRA, kn_sRA, kI_sRA, kL_sRA, if_pos, if_neg, X10_paidBack_b13, X10_paidBack_b29, T.d0, can_n T (show (1 : Int32) ≠ 0 by decide)]
