/-! steps, from outside -/
theorem gN_k {α : Type} {h : KH} {a c k b : Nat} {f : Nat → KO α} (h1 : kd h a = c) (h2 : kR h a k = some b) : gN h a c k f = f b := by
  unfold gN
  rw [if_pos h1, h2]
  rfl
theorem gI_k {α : Type} {h : KH} {a c k : Nat} {f : Int32 → KO α} (h1 : kd h a = c) : gI h a c k f = f (kI h a k) := if_pos h1
theorem pI_k {α : Type} {h : KH} {a c k : Nat} {v : Int32} {f : KH → KO α} (h1 : kd h a = c) : pI h a c k v f = f (sI h a k v) := if_pos h1
theorem gAI_k {α : Type} {h : KH} {a c i : Nat} {f : Int32 → KO α} (h1 : kd h a = c) (h2 : i < kn h a) (h3 : i < 2147483648) : gAI h a c (nI i) f = f (kI h a i) := by
  unfold gAI
  rw [nI_clamp h3, if_pos ⟨h1, by rintro (q | q); exact nI_pos h3 q; omega⟩]
theorem pAI_k {α : Type} {h : KH} {a c i : Nat} {v : Int32} {f : KH → KO α} (h1 : kd h a = c) (h2 : i < kn h a) (h3 : i < 2147483648) : pAI h a c (nI i) v f = f (sI h a i v) := by
  unfold pAI
  rw [nI_clamp h3, if_pos ⟨h1, by rintro (q | q); exact nI_pos h3 q; omega⟩]
/-! mirror -/
def kMir (g : Nat → Int32) (n i : Nat) : Nat → Int32 := fun k => if k < n ∧ (k < i ∨ n - 1 - k < i) then g (n - 1 - k) else g k
def kRev (g : Nat → Int32) (n : Nat) : Nat → Int32 := fun k => if k < n then g (n - 1 - k) else g k
theorem kMir_0 (g : Nat → Int32) (n : Nat) : kMir g n 0 = g := by
  funext k
  unfold kMir
  rw [if_neg (by omega)]
theorem kMir_rev (g : Nat → Int32) (n i : Nat) (h : n - 1 ≤ 2 * i) : kMir g n i = kRev g n := by
  funext k
  unfold kMir kRev
  by_cases h1 : k < n
  · rw [if_pos h1]
    by_cases h2 : k < i ∨ n - 1 - k < i
    · rw [if_pos ⟨h1, h2⟩]
    · rw [if_neg (by omega), show n - 1 - k = k by omega]
  · rw [if_neg h1, if_neg (by omega)]
theorem kMir_step (g : Nat → Int32) (n i : Nat) (h : 2 * i < n - 1) : (fun j => if j = n - 1 - i then kMir g n i i else if j = i then kMir g n i (n - 1 - i) else kMir g n i j) = kMir g n (i + 1) := by
  funext k
  unfold kMir
  by_cases h1 : k = n - 1 - i
  · rw [if_pos h1, if_neg (by omega), if_pos (by omega), show n - 1 - k = i by omega]
  · rw [if_neg h1]
    by_cases h2 : k = i
    · rw [if_pos h2, if_neg (by omega), if_pos (by omega), h2]
    · rw [if_neg h2]
      by_cases h3 : k < n ∧ (k < i ∨ n - 1 - k < i)
      · rw [if_pos h3, if_pos (by omega)]
      · rw [if_neg h3, if_neg (by omega)]
section KMIRROR
variable {h : KH} {t s n : Nat}
theorem t0_turnL (hk : kd h t = 8) (hs : kR h t 0 = some s) (hsk : kd h s = 21) (hsn : kn h s = 6) (hn : n ≤ 6) (h0 : 0 < n) : ∀ (f i : Nat), i ≤ n - 1 → n < i + f → 2 * i ≤ n → X7_turnRound_L9 f t (nI (n - 1 - i)) (nI i) (sA h s (kMir (kI h s) n i)) = kret () (sA h s (kRev (kI h s) n)) := by
  intro f
  induction f with
  | zero => intro i h1 h2; omega
  | succ f ih =>
    intro i h1 h2 h3
    unfold X7_turnRound_L9 X7_turnRound_b9
    by_cases hi : n - 1 - i ≤ i
    · rw [kif, if_pos (by rw [ka_le (by omega) (by omega)]; exact hi), kMir_rev _ _ _ (by omega)]
    · rw [kif, if_neg (by rw [ka_le (by omega) (by omega)]; exact hi)]
      simp (disch := omega) only [gN, gAI, pAI, kmay, kd_sA, kn_sA, kR_sA, kI_sA, kd_sI, kn_sI, kR_sI, hk, hs, hsk, hsn, ka_neg, nI_clamp, false_or, true_and, if_true, if_pos]
      rw [sI_in, sI_in, ka_dec (by omega), nI_1]
      have e := ih (i + 1) (by omega) (by omega) (by omega)
      rw [← kMir_step _ _ _ (by omega)] at e
      rw [show n - 1 - i - 1 = n - 1 - (i + 1) by omega]
      exact e
theorem t0_turn (hk : kd h t = 8) (hs : kR h t 0 = some s) (hsk : kd h s = 21) (hsn : kn h s = 6) (hc : kI h t 1 = nI n) (hn : n ≤ 6) : f_X7_turnRound t h = kret () (sA h s (kRev (kI h s) n)) := by
  unfold f_X7_turnRound gI
  rw [if_pos hk, hc]
  by_cases h0 : n = 0
  · subst h0
    have e : kRev (kI h s) 0 = kI h s := by
      funext k
      unfold kRev
      rw [if_neg (by omega)]
    rw [e, sA_self]
    rfl
  · show X7_turnRound_L9 kF t (nI n - 1) 0 h = _
    rw [ka_pred (by omega)]
    have e := t0_turnL hk hs hsk hsn hn (by omega) kF 0 (by omega) (by unfold kF; omega) (by omega)
    rw [kMir_0, sA_self] at e
    exact e
theorem tm_mirL (T : kSm h) (hc : kI h 0 5 = nI n) (hn : n ≤ 6) : ∀ (f i : Nat), 2 * i ≤ n → n < i + f → X10_mirror_L7 f 0 (nI i) (sA h 4 (kMir (kI h 4) n i)) = kret (nI n) (sA h 4 (kRev (kI h 4) n)) := by
  intro f
  induction f with
  | zero => intro i h1 h2; omega
  | succ f ih =>
    intro i h1 h2
    unfold X10_mirror_L7 X10_mirror_b7
    have hc' : kI (sA h 4 (kMir (kI h 4) n i)) 0 5 = nI n := hc
    rw [gI, if_pos (show kd (sA h 4 (kMir (kI h 4) n i)) 0 = 11 from T.d0), hc', kdv, if_neg (by decide), show (2 : Int32) = nI 2 from rfl, pk_div (by omega) (by decide) (by decide)]
    by_cases hi : n / 2 ≤ i
    · rw [kif, if_pos (by rw [ka_le (by omega) (by omega)]; exact hi), kMir_rev _ _ _ (by omega), gI, if_pos (show kd (sA h 4 _) 0 = 11 from T.d0)]
      rw [show kI (sA h 4 (kRev (kI h 4) n)) 0 5 = nI n from hc]
    · rw [kif, if_neg (by rw [ka_le (by omega) (by omega)]; exact hi)]
      have e1 : (nI n - 1) - nI i = nI (n - 1 - i) := by rw [ka_pred (by omega), ka_sub (by omega)]
      have U : kSm (sA h 4 (kMir (kI h 4) n i)) := T.fr (kAg.A h 4 _) (fun a k q z => by omega)
      have U1 : ∀ v, kSm (sI (sA h 4 (kMir (kI h 4) n i)) 4 i v) := fun v => U.fr (kAg.I _ 4 i v) (fun a k q z => by omega)
      have q1 : ∀ v, kI (sI (sA h 4 (kMir (kI h 4) n i)) 4 i v) 0 5 = nI n := fun _ => hc
      have q3 : ∀ k, kI (sA h 4 (kMir (kI h 4) n i)) 4 k = kMir (kI h 4) n i k := fun _ => rfl
      rw [gN_k U.d0 U.r6, gAI_k U.d4 (by rw [U.n4]; omega) (by omega), gN_k U.d0 U.r6, gN_k U.d0 U.r6, gI_k U.d0, hc', e1, gAI_k U.d4 (by rw [U.n4]; omega) (by omega), pAI_k U.d4 (by rw [U.n4]; omega) (by omega)]
      rw [gN_k (U1 _).d0 (U1 _).r6, gI_k (U1 _).d0, q1, e1, pAI_k (U1 _).d4 (by rw [(U1 _).n4]; omega) (by omega), q3, q3]
      rw [sI_in, sI_in, nI_1]
      have e := ih (i + 1) (by omega) (by omega)
      rw [← kMir_step _ _ _ (by omega)] at e
      exact e
end KMIRROR
theorem pn_mirror : PN RR (f_X9_mirror 0) (f_X10_mirror 0) := by
  intro j hx hm hj R
  have S := R.1.1
  have T := R.1.2
  obtain ⟨n, hn, e1, e2, e3⟩ := R.2.2.2.2.2.2.1
  refine ⟨nI n, sA (sX hx 0) 23 (kRev (kI hx 23) n), sA (sI hm 0 35 0) 4 (kRev (kI hm 4) n), ?_, ?_, ?_⟩
  · show f_X9_mirror 0 (sX hx 0) = kret (nI n) _
    unfold f_X9_mirror
    simp only [gN, kmay, kcallV, kd_sX, kR_sX, S.d0, S.r0_2, S.d22, if_true]
    rw [t0_turn (S.X 0).d22 (S.X 0).r22_0 (S.X 0).d23 (S.X 0).n23 e1 hn, kb_ret]
    simp only [gI, kd_sA, kR_sA, kd_sX, kR_sX, S.d0, S.r0_2, S.d22, if_true]
    rw [show kI (sA (sX hx 0) 23 (kRev (kI (sX hx 0) 23) n)) 22 1 = nI n from e1]
    rfl
  · show f_X10_mirror 0 hm = kret (nI n) _
    unfold f_X10_mirror pI
    rw [if_pos T.d0]
    have e := tm_mirL (T.thr 0) e2 hn kF 0 (by omega) (by unfold kF; omega)
    rw [kMir_0, sA_self] at e
    exact e
  · have R1 := ((R.X 0).thr 0).up
    have ag := kAg.A (sX hx 0) 23 (kRev (kI hx 23) n)
    have am := kAg.A (sI hm 0 35 0) 4 (kRev (kI hm 4) n)
    have hP := R1.P
    obtain ⟨⟨sx, sm⟩, c1, c2, c3, c4, c5, c6, c7, c8, c9, c10, c11, c12, c13, c14, c15, c16⟩ := R1
    refine ⟨⟨sx.fr ag ?_, sm.fr am ?_⟩, c1.fr ag am ?_ ?_, c2.fr ag am ?_ ?_, c3.fr ag am ?_ ?_, c4.fr ag am ?_ ?_, c5.fr ag am ?_ ?_, ?_, c7.fr ag am ?_ ?_, c8.fr ag am ?_ ?_, c9.fr ag am ?_ ?_, c10.fr hP ag am ?_ ?_, c11.fr ag am ?_ ?_, c12.fr hP ag am ?_ ?_, c13.fr ag am ?_ ?_, c14.fr ag am ?_ ?_, c15.fr ag am ?_ ?_, c16.fr (fun _ h => h) am ?_ (Nat.le_refl _)⟩
    all_goals first
      | (intro a k h1 h2; omega)
      | skip
    refine ⟨n, hn, e1, e2, fun k hk => ?_⟩
    show ∃ u, u < 15 ∧ kRev (kI hx 23) n k = nI u ∧ kRev (kI hm 4) n k = nI u
    unfold kRev
    rw [if_pos hk, if_pos hk]
    exact e3 _ (by omega)
