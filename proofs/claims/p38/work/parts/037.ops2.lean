/-- now, plates, clearSpelled -/
theorem pn_now : PN RR (f_X9_now 0) (f_X10_now 0) := by
  intro j hx hm hj R
  have S := R.1.1
  have T := R.1.2
  obtain ⟨n, hn, e1, e2⟩ := R.2.1
  refine ⟨nI n, sX hx 0, sI hm 0 35 0, ?_, ?_, ((R.X 0).thr 0).up⟩
  · show f_X9_now 0 (sX hx 0) = kret (nI n) (sX hx 0)
    unfold f_X9_now gI
    rw [if_pos (show kd (sX hx 0) 0 = 10 from S.d0), show kI (sX hx 0) 0 12 = nI n from e1]
  · show f_X10_now 0 hm = kret (nI n) (sI hm 0 35 0)
    unfold f_X10_now gI pI
    rw [if_pos T.d0]
    show (if _ then _ else _) = _
    rw [if_pos (T.thr 0).d0, show kI (sI hm 0 35 0) 0 0 = nI n from e2]
theorem pn_plates : PN RR (f_X9_plates 0) (f_X10_plates 0) := by
  intro j hx hm hj R
  have S := R.1.1
  have T := R.1.2
  obtain ⟨⟨n, hn, e1, e2⟩, -⟩ := R.2.2.2.2.2.2.2.2.1
  refine ⟨nI n, sX hx 0, sI hm 0 35 0, ?_, ?_, ((R.X 0).thr 0).up⟩
  · show f_X9_plates 0 (sX hx 0) = kret (nI n) (sX hx 0)
    unfold f_X9_plates gI
    rw [if_pos (show kd (sX hx 0) 0 = 10 from S.d0), show kI (sX hx 0) 0 13 = nI n from e1]
  · show f_X10_plates 0 hm = kret (nI n) (sI hm 0 35 0)
    unfold f_X10_plates gI pI
    rw [if_pos T.d0]
    show (if _ then _ else _) = _
    rw [if_pos (T.thr 0).d0, show kI (sI hm 0 35 0) 0 8 = nI n from e2]
theorem pn_clearSpelled : PN RR (f_X9_clearSpelled 0) (f_X10_clearSpelled 0) := by
  intro j hx hm hj R
  have S := R.1.1
  have T := R.1.2
  obtain ⟨n, hn, e1, e2, e3⟩ := R.2.2.2.2.2.2.1
  refine ⟨nI n, sI (sX hx 0) 22 1 0, sI (sI hm 0 35 0) 0 5 0, ?_, ?_, ?_⟩
  · show f_X9_clearSpelled 0 (sX hx 0) = kret (nI n) (sI (sX hx 0) 22 1 0)
    unfold f_X9_clearSpelled
    simp only [kb_ret, kb_thr, ki_ret, kif, kcallV, gI, gN, gR, gAI, gAL, gAN, pI, pR, pAI, pAL, pAZ, pAN, kmay, kretZ_0, kretZ_1, k10, if_true, if_false, eq_self, true_and, and_true, false_or, not_false_eq_true, not_true_eq_false, kd_sI, kn_sI, kR_sI, kL_sI, kd_sA, kn_sA, kR_sA, kL_sA, kd_sL, kn_sL, kR_sL, kI_sL, kd_sR, kn_sR, kI_sR, kL_sR, kd_sX, kn_sX, kI_sX, kL_sX, kR_sX, kd_sRA, kn_sRA, kI_sRA, kL_sRA, if_pos, if_neg, S.d0, S.r0_2, S.d22, e1]
  · show f_X10_clearSpelled 0 hm = kret (nI n) (sI (sI hm 0 35 0) 0 5 0)
    unfold f_X10_clearSpelled gI pI
    rw [if_pos T.d0]
    show (if _ then _ else _) = _
    rw [if_pos (T.thr 0).d0, show kI (sI hm 0 35 0) 0 5 = nI n from e2]
    exact if_pos (T.thr 0).d0
  · have R1 := ((R.X 0).thr 0).up
    have ag := kAg.I (sX hx 0) 22 1 0
    have am := kAg.I (sI hm 0 35 0) 0 5 0
    have hP := R1.P
    obtain ⟨⟨sx, sm⟩, c1, c2, c3, c4, c5, c6, c7, c8, c9, c10, c11, c12, c13, c14, c15, c16⟩ := R1
    refine ⟨⟨sx.fr ag ?_, sm.fr am ?_⟩, c1.fr ag am ?_ ?_, c2.fr ag am ?_ ?_, c3.fr ag am ?_ ?_, c4.fr ag am ?_ ?_, c5.fr ag am ?_ ?_, ?_, c7.fr ag am ?_ ?_, c8.fr ag am ?_ ?_, c9.fr ag am ?_ ?_, c10.fr hP ag am ?_ ?_, c11.fr ag am ?_ ?_, c12.fr hP ag am ?_ ?_, c13.fr ag am ?_ ?_, c14.fr ag am ?_ ?_, c15.fr ag am ?_ ?_, c16.fr (fun _ h => h) am ?_ (Nat.le_refl _)⟩
    all_goals first
      | (intro a k h1 h2; omega)
      | skip
    exact ⟨0, by omega, rfl, rfl, fun k hk => absurd hk (Nat.not_lt_zero k)⟩
/-! chars of the model's text -/
theorem tm_isPair (x : Int32) (h : KH) : f_X10_isPair x h = kret (if kLen x = 2 then 1 else 0) h := by
  unfold f_X10_isPair kLen
  by_cases h1 : x < 10
  · rw [in_f (Or.inl h1), if_pos h1]
    rfl
  · by_cases h2 : 13 < x
    · have h3 : (14 : Int32) ≤ x := by
        rw [Int32.le_iff_toInt_le]
        rw [Int32.lt_iff_toInt_lt] at h2
        rw [show (13 : Int32).toInt = 13 from by decide] at h2
        rw [show (14 : Int32).toInt = 14 from by decide]
        omega
      rw [in_f (Or.inr h2), if_neg h1, if_pos h3]
      rfl
    · have h3 : ¬ (14 : Int32) ≤ x := by
        rw [Int32.le_iff_toInt_le]
        rw [Int32.lt_iff_toInt_lt] at h2
        rw [show (13 : Int32).toInt = 13 from by decide] at h2
        rw [show (14 : Int32).toInt = 14 from by decide]
        omega
      rw [in_t h1 h2, if_neg h1, if_neg h3]
      rfl
theorem kLen_2 (x : Int32) : kLen x = 2 ∨ kLen x = 1 := by
  unfold kLen
  split
  · exact Or.inr rfl
  · split
    · exact Or.inr rfl
    · exact Or.inl rfl
section KTEXTM
variable {h : KH} {n : Nat}
theorem tm_charsL (T : kSm h) (hc : kI h 0 5 = nI n) (hn : n ≤ 6) : ∀ (f i : Nat), i ≤ n → n < i + f → X10_chars_L4 f 0 (kChs (kI h 4) i) (nI i) h = kret (kChs (kI h 4) n) h := by
  intro f
  induction f with
  | zero => intro i h1 h2; omega
  | succ f ih =>
    intro i h1 h2
    unfold X10_chars_L4 X10_chars_b4
    by_cases hi : i = n
    · subst hi
      simp (disch := omega) only [gI, kif, T.d0, hc, if_true, if_pos, ka_le, Nat.le_refl]
    · have e := ih (i + 1) (by omega) (by omega)
      rw [← nI_1] at e
      simp (disch := omega) only [gI, gN, gAI, kmay, T.d0, hc, T.r6, T.d4, T.n4, ka_le, ka_lt, ka_eq, ka_neg, ka_pred, ka_dec, nI_1, nI_clamp, false_or, true_and, if_pos, if_neg, if_true, kif]
      rw [tm_isPair, kb_ret]
      rcases kLen_2 (kI h 4 i) with q | q
      · rw [q]
        simp only [if_true, k10, if_false]
        unfold X10_chars_b30
        rw [← e]
        show X10_chars_L4 f 0 (kChs (kI h 4) i + 2) (nI i + 1) h = _
        rw [← q]
        rfl
      · rw [q]
        rw [if_neg (show ¬ ((1 : Int32) = 2) by decide)]
        simp only [if_true]
        unfold X10_chars_b30
        rw [← e]
        show X10_chars_L4 f 0 (kChs (kI h 4) i + 1) (nI i + 1) h = _
        rw [← q]
        rfl
theorem tm_chars (T : kSm h) (hc : kI h 0 5 = nI n) (hn : n ≤ 6) : f_X10_chars 0 h = kret (kChs (kI h 4) n) h :=
  tm_charsL T hc hn kF 0 (Nat.zero_le _) (by unfold kF; omega)
theorem tm_putsL {v : Int32} {p : Nat} (T : kSm h) (hc : kI h 0 5 = nI n) (hn : n < 6) : ∀ (f i : Nat), p ≤ i → i ≤ n → i < p + f → X10_puts_L5 f 0 v (nI p) (nI i) (sA h 4 (kSh (kI h 4) i n)) = kret (kChs (kPut (kI h 4) v p n) (n + 1)) (sI (sA h 4 (kPut (kI h 4) v p n)) 0 5 (nI (n + 1))) := by
  intro f
  induction f with
  | zero => intro i h1 h2; omega
  | succ f ih =>
    intro i h1 h2 h3
    unfold X10_puts_L5 X10_puts_b5 gN gI gAI pAI pI kmay
    simp (disch := omega) only [kd_sA, kn_sA, kR_sA, kI_sA, kd_sI, T.d0, T.r6, T.d4, T.n4, hc, ka_le, ka_neg, nI_clamp, false_or, true_and, if_true]
    by_cases hi : i = p
    · subst hi
      simp only [kif, Nat.le_refl, if_true]
      rw [if_pos (by omega), sI_in, kSh_put _ _ _ _ h2]
      simp only [kI_sA, show ((0 : Nat) = 4) = False from by decide, if_false, hc, nI_1, kcallV]
      have T1 : kSm (sI (sA h 4 (kPut (kI h 4) v i n)) 0 5 (nI (n + 1))) := (T.fr (kAg.A h 4 _) (fun a k q z => by omega)).fr (kAg.I _ 0 5 _) (fun a k q z => by omega)
      rw [if_pos T1.d0, tm_chars (n := n + 1) T1 rfl (by omega), kb_ret]
      rfl
    · simp (disch := omega) only [kif, ka_pred, ka_dec, ka_neg, nI_clamp, false_or, if_pos, if_neg]
      rw [sI_in, kSh_step _ _ _ (by omega) h2]
      exact ih (i - 1) (by omega) (by omega) (by omega)
theorem tm_puts {v : Int32} {p : Nat} (T : kSm h) (hc : kI h 0 5 = nI n) (hn : n < 6) (hp : p ≤ n) : f_X10_puts 0 v (nI p) h = kret (kChs (kPut (kI h 4) v p n) (n + 1)) (sI (sA h 4 (kPut (kI h 4) v p n)) 0 5 (nI (n + 1))) := by
  unfold f_X10_puts gI
  rw [if_pos T.d0, hc]
  have e := tm_putsL (v := v) (p := p) T hc hn kF n hp (Nat.le_refl _) (by unfold kF; omega)
  rw [kSh_n, sA_self] at e
  exact e
end KTEXTM
theorem kChs_cg {g g' : Nat → Int32} : ∀ {n : Nat}, (∀ k, k < n → g k = g' k) → kChs g n = kChs g' n := by
  intro n
  induction n with
  | zero => intro _; rfl
  | succ n ih =>
    intro h
    show kChs g n + kLen (g n) = kChs g' n + kLen (g' n)
    rw [ih (fun k hk => h k (by omega)), h n (by omega)]
theorem kPut_cg {g g' : Nat → Int32} {v : Int32} {p n : Nat} (h : ∀ k, k < n → g k = g' k) (k : Nat) (hk : k < n + 1) (hp : p ≤ n) : kPut g v p n k = kPut g' v p n k := by
  unfold kPut
  by_cases h1 : k < p
  · rw [if_pos h1, if_pos h1, h k (by omega)]
  · rw [if_neg h1, if_neg h1]
    by_cases h2 : k = p
    · rw [if_pos h2, if_pos h2]
    · rw [if_neg h2, if_neg h2, if_pos (by omega), if_pos (by omega), h (k - 1) (by omega)]
