/-! a copy of a text -/
section KCOPY
variable {t s c d n : Nat}
theorem x7_copyL (hn : n ≤ 6) (n1 : d ≠ s) (n2 : c ≠ t) (n3 : d ≠ t) (n4 : c ≠ d) (n5 : c ≠ s) : ∀ (f i : Nat) (h : KH), kd h t = 8 → kR h t 0 = some s → kd h s = 21 → kn h s = 6 → kI h t 1 = nI n → kd h c = 8 → kR h c 0 = some d → kd h d = 21 → kn h d = 6 → i ≤ n → n < i + f → (∀ k, k < i → kI h d k = kI h s k) → ∃ h', X7_copy_L10 f t c (nI i) h = kret c h' ∧ kAg (fun a k => a = d ∨ a = c ∧ k = 1) h h' ∧ kI h' c 1 = nI n ∧ (∀ k, k < n → kI h' d k = kI h s k) ∧ kx h' = kx h := by
  intro f
  induction f with
  | zero => intro i h _ _ _ _ _ _ _ _ _ h1 h2; omega
  | succ f ih =>
    intro i h a1 a2 a3 a4 a5 b1 b2 b3 b4 h1 h2 h3
    unfold X7_copy_L10 X7_copy_b10
    rw [gI_k a1, a5]
    by_cases hi : n ≤ i
    · obtain rfl : i = n := by omega
      rw [kif_t (by rw [ka_le (by omega) (by omega)]; exact hi), gI_k a1, a5, pI_k b1]
      refine ⟨_, rfl, (kAg.I h c 1 _).sub (fun a k z => Or.inr z), by rw [kI_sI, if_pos ⟨rfl, rfl⟩], fun k hk => ?_, rfl⟩
      rw [kI_sI, if_neg (fun z => n4 z.1.symm)]
      exact h3 k hk
    · rw [kif_f (by rw [ka_le (by omega) (by omega)]; exact hi), gN_k b1 b2, gN_k a1 a2, gAI_k a3 (by omega) (by omega), pAI_k b3 (by omega) (by omega), nI_1]
      obtain ⟨h', e1, e2, e3, e4, e5⟩ := ih (i + 1) (sI h d i (kI h s i)) a1 a2 a3 a4 (by rw [kI_sI, if_neg (fun z => n3 z.1.symm)]; exact a5) b1 b2 b3 b4 (by omega) (by omega) (fun k hk => by
        rw [kI_sI, kI_sI, if_neg (c := s = d ∧ k = i) (fun z => n1 z.1.symm)]
        by_cases hki : k = i
        · rw [if_pos ⟨rfl, hki⟩, hki]
        · rw [if_neg (fun z => hki z.2)]
          exact h3 k (by omega))
      refine ⟨h', e1, ((kAg.I h d i _).sub (fun a k z => Or.inl z.1)).trans e2 (fun a k q => q) (fun a k q => q), e3, fun k hk => ?_, e5⟩
      rw [e4 k hk, kI_sI, if_neg (fun z => n1 z.1.symm)]
/-- a new text at the next address, its signs behind it -/
theorem x7_copy {h : KH} (hn : n ≤ 6) (a1 : kd h t = 8) (a2 : kR h t 0 = some s) (a3 : kd h s = 21) (a4 : kn h s = 6) (a5 : kI h t 1 = nI n) (hx : kx h = c) (f1 : kd h c = 0) (f2 : kd h (c + 1) = 0) : ∃ h', f_X7_copy t h = kret c h' ∧ kAg (fun a _ => a = c ∨ a = c + 1 ∨ a = c + 1000000 ∨ a = c + 1 + 1000000) h h' ∧ kx h' = c + 2 ∧ kd h' c = 8 ∧ kd h' (c + 1) = 21 ∧ kn h' (c + 1) = 6 ∧ kR h' c 0 = some (c + 1) ∧ kI h' c 1 = nI n ∧ ∀ k, k < n → kI h' (c + 1) k = kI h s k := by
  subst hx
  have n1 : kx h ≠ t := fun e => by rw [e, a1] at f1; cases f1
  have n2 : kx h ≠ s := fun e => by rw [e, a3] at f1; cases f1
  have n3 : kx h + 1 ≠ t := fun e => by rw [e, a1] at f2; cases f2
  have n4 : kx h + 1 ≠ s := fun e => by rw [e, a3] at f2; cases f2
  have g2 : kd (al h 8 0) (kx (al h 8 0)) = 0 := by
    show (if kx h + 1 = kx h then 8 else kd h (kx h + 1)) = 0
    rw [if_neg (by omega)]
    exact f2
  have ag1 : kAg (fun a _ => a = kx h ∨ a = kx h + 1 ∨ a = kx h + 1000000 ∨ a = kx h + 1 + 1000000) h (al h 8 0) := (kAg.al h 8 0 f1).sub (fun a k z => by omega)
  have ag2 : kAg (fun a _ => a = kx h ∨ a = kx h + 1 ∨ a = kx h + 1000000 ∨ a = kx h + 1 + 1000000) (al h 8 0) (al (al h 8 0) 21 6) := (kAg.al (al h 8 0) 21 6 g2).sub (fun a k z => by
    have : kx (al h 8 0) = kx h + 1 := rfl
    omega)
  have k1 : kd (al (al h 8 0) 21 6) (kx h) = 8 := by
    show (if kx h = kx h + 1 then 21 else if kx h = kx h then 8 else kd h (kx h)) = 8
    rw [if_neg (by omega), if_pos rfl]
  have k2 : kd (al (al h 8 0) 21 6) (kx h + 1) = 21 := if_pos rfl
  have k3 : kn (al (al h 8 0) 21 6) (kx h + 1) = 6 := if_pos rfl
  have hinit : f_X7_init (kx h) (al h 8 0) = kret () (sI (sR (al (al h 8 0) 21 6) (kx h) 0 (some (kx h + 1))) (kx h) 1 0) := by
    unfold f_X7_init
    rw [nw_k g2, pR_k (show kd (al (al h 8 0) 21 6) (kx h) = 8 from k1), pI_k (show kd (sR (al (al h 8 0) 21 6) (kx h) 0 (some (kx (al h 8 0)))) (kx h) = 8 from k1)]
    rfl
  have ag3 : kAg (fun a _ => a = kx h ∨ a = kx h + 1 ∨ a = kx h + 1000000 ∨ a = kx h + 1 + 1000000) (al (al h 8 0) 21 6) (sI (sR (al (al h 8 0) 21 6) (kx h) 0 (some (kx h + 1))) (kx h) 1 0) := (kAg.R _ (kx h) 0 _).trans (kAg.I _ (kx h) 1 0) (fun a k q z => q (by omega)) (fun a k q z => q (by omega))
  have agA := (ag1.trans ag2 (fun a k q => q) (fun a k q => q)).trans ag3 (fun a k q => q) (fun a k q => q)
  have e1 := agA.k t (by rw [a1]; decide)
  have e2 := agA.k s (by rw [a3]; decide)
  obtain ⟨h', c1, c2, c3, c4, c5⟩ := x7_copyL (t := t) (s := s) (c := kx h) (d := kx h + 1) hn n4 n1 n3 (by omega) n2 kF 0 (sI (sR (al (al h 8 0) 21 6) (kx h) 0 (some (kx h + 1))) (kx h) 1 0) (by rw [e1.1, a1]) (by
      rw [kR_sI, kR_sR, if_neg (fun z => n1 z.1.symm), kR_al, if_neg (fun z => n3 z.symm), kR_al, if_neg (fun z => n1 z.symm)]
      exact a2) (by rw [e2.1, a3]) (by rw [e2.2, a4]) (by
      rw [kI_sI, if_neg (fun z => n1 z.1.symm), kI_sR, kI_al, if_neg (fun z => n3 z.symm), kI_al, if_neg (fun z => n1 z.symm)]
      exact a5) k1 (by rw [kR_sI, kR_sR, if_pos ⟨rfl, rfl⟩]) k2 k3 (by omega) (by unfold kF; omega) (fun k hk => by omega)
  refine ⟨h', ?_, agA.trans c2 (fun a k q => q) (fun a k q z => q (by omega)), c5, ?_, ?_, ?_, ?_, c3, fun k hk => ?_⟩
  · unfold f_X7_copy
    rw [nw_k f1, hinit, ki_ret]
    exact c1
  · rw [(c2.k (kx h) (by show kd (al (al h 8 0) 21 6) (kx h) ≠ 0; rw [k1]; decide)).1]
    exact k1
  · rw [(c2.k (kx h + 1) (by show kd (al (al h 8 0) 21 6) (kx h + 1) ≠ 0; rw [k2]; decide)).1]
    exact k2
  · rw [(c2.k (kx h + 1) (by show kd (al (al h 8 0) 21 6) (kx h + 1) ≠ 0; rw [k2]; decide)).2]
    exact k3
  · rw [(c2.1 (kx h) 0 (by omega)).2.2, kR_sI, kR_sR, if_pos ⟨rfl, rfl⟩]
  · rw [c4 k hk, kI_sI, if_neg (fun z => n2 z.1.symm), kI_sR, kI_al, if_neg (fun z => n4 z.symm), kI_al, if_neg (fun z => n2 z.symm)]
end KCOPY
