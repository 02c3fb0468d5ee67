/-! register: the class's new plate -/
theorem x1_init {h : KH} {c : Nat} {d m : Int32} {o : Option Nat} (k : kd h c = 2) : f_X1_init c d m o h = kret () (sR (sI (sI h c 0 d) c 1 m) c 2 o) := by
  unfold f_X1_init
  simp only [pI, pR, kd_sI, k, if_true]
theorem x3_init {h : KH} {c d : Nat} (k : kd h c = 4) (hx : kx h = d) (f1 : kd h d = 0) (f2 : kd h (d + 1) = 0) : ∃ h', f_X3_init c h = kret () h' ∧ kAg (fun a _ => a = c ∨ a = d ∨ a = d + 1 ∨ a = d + 1000000 ∨ a = d + 1 + 1000000) h h' ∧ kd h' d = 26 ∧ kn h' d = 60 ∧ kd h' (d + 1) = 23 ∧ kn h' (d + 1) = 60 ∧ kR h' c 0 = some d ∧ kR h' c 1 = some (d + 1) ∧ kI h' c 2 = 0 := by
  subst hx
  have n1 : kx h ≠ c := fun e => by rw [e, k] at f1; cases f1
  have n2 : kx h + 1 ≠ c := fun e => by rw [e, k] at f2; cases f2
  have k1 : kd (al h 26 60) c = 4 := by rw [kd_al, if_neg (fun z => n1 z.symm)]; exact k
  have g2 : kd (sR (al h 26 60) c 0 (some (kx h))) (kx (sR (al h 26 60) c 0 (some (kx h)))) = 0 := by
    show (if kx h + 1 = kx h then 26 else kd h (kx h + 1)) = 0
    rw [if_neg (by omega)]
    exact f2
  have k2 : kd (al (sR (al h 26 60) c 0 (some (kx h))) 23 60) c = 4 := by
    show (if c = kx h + 1 then 23 else kd (al h 26 60) c) = 4
    rw [if_neg (fun z => n2 z.symm)]
    exact k1
  have a1 := (kAg.al h 26 60 f1).sub (F := fun a _ => a = c ∨ a = kx h ∨ a = kx h + 1 ∨ a = kx h + 1000000 ∨ a = kx h + 1 + 1000000) (fun a k z => by omega)
  have a2 := a1.trans (F := fun a _ => a = c ∨ a = kx h ∨ a = kx h + 1 ∨ a = kx h + 1000000 ∨ a = kx h + 1 + 1000000) (kAg.R (al h 26 60) c 0 (some (kx h))) (fun a k q => q) (fun a k q z => q (by omega))
  have a3 := a2.trans (F := fun a _ => a = c ∨ a = kx h ∨ a = kx h + 1 ∨ a = kx h + 1000000 ∨ a = kx h + 1 + 1000000) (kAg.al (sR (al h 26 60) c 0 (some (kx h))) 23 60 g2) (fun a k q => q) (fun a k q z => q (by
    have : kx (sR (al h 26 60) c 0 (some (kx h))) = kx h + 1 := rfl
    omega))
  have a4 := a3.trans (F := fun a _ => a = c ∨ a = kx h ∨ a = kx h + 1 ∨ a = kx h + 1000000 ∨ a = kx h + 1 + 1000000) (kAg.R (al (sR (al h 26 60) c 0 (some (kx h))) 23 60) c 1 (some (kx h + 1))) (fun a k q => q) (fun a k q z => q (by omega))
  have a5 := a4.trans (F := fun a _ => a = c ∨ a = kx h ∨ a = kx h + 1 ∨ a = kx h + 1000000 ∨ a = kx h + 1 + 1000000) (kAg.I (sR (al (sR (al h 26 60) c 0 (some (kx h))) 23 60) c 1 (some (kx h + 1))) c 2 0) (fun a k q => q) (fun a k q z => q (by omega))
  refine ⟨_, ?_, a5, ?_, ?_, ?_, ?_, ?_, ?_, ?_⟩
  · unfold f_X3_init
    rw [nw_k f1, pR_k k1, nw_k g2, pR_k k2, pI_k (show kd (sR (al (sR (al h 26 60) c 0 (some (kx h))) 23 60) c 1 (some (kx (sR (al h 26 60) c 0 (some (kx h)))))) c = 4 from k2)]
    rfl
  · show (if kx h = kx h + 1 then 23 else if kx h = kx h then 26 else kd h (kx h)) = 26
    rw [if_neg (by omega), if_pos rfl]
  · show (if kx h = kx h + 1 then 60 else if kx h = kx h then 60 else kn h (kx h)) = 60
    rw [if_neg (by omega), if_pos rfl]
  · exact if_pos rfl
  · exact if_pos rfl
  · rw [kR_sI, kR_sR, if_neg (by omega), kR_al, if_neg (fun z => n2 z.symm), kR_sR, if_pos ⟨rfl, rfl⟩]
  · rw [kR_sI, kR_sR, if_pos ⟨rfl, rfl⟩]
  · rw [kI_sI, if_pos ⟨rfl, rfl⟩]
theorem x4_init {h : KH} {b c t ho : Nat} {pn its : Int32} (hx : kx h = c) (k : kd h b = 5) (f0 : kd h c = 0) (f1 : kd h (c + 1) = 0) (f2 : kd h (c + 2) = 0) : ∃ h', f_X4_init b pn t its ho h = kret () h' ∧ kAg (fun a _ => a = b ∨ c ≤ a ∧ a ≤ c + 2 ∨ c + 1000000 ≤ a ∧ a ≤ c + 1000002) h h' ∧ (kd h' b = 5 ∧ kd h' c = 4 ∧ kd h' (c + 1) = 26 ∧ kn h' (c + 1) = 60 ∧ kd h' (c + 2) = 23 ∧ kn h' (c + 2) = 60) ∧ (kR h' c 0 = some (c + 1) ∧ kR h' c 1 = some (c + 2) ∧ kI h' c 2 = 0) ∧ kR h' b 3 = some c ∧ kI h' b 0 = pn ∧ kR h' b 1 = some t ∧ kI h' b 2 = its ∧ kR h' b 4 = some ho := by
  subst hx
  have n0 : kx h ≠ b := fun e => by rw [e, k] at f0; cases f0
  have n1 : kx h + 1 ≠ b := fun e => by rw [e, k] at f1; cases f1
  have n2 : kx h + 2 ≠ b := fun e => by rw [e, k] at f2; cases f2
  have a1 := kAg.al h 4 0 f0
  obtain ⟨h2, e1, e2, e3, e4, e5, e6, e7, e8, e9⟩ := x3_init (h := al h 4 0) (c := kx h) (d := kx h + 1) (by rw [kd_al, if_pos rfl]) rfl (by rw [kd_al, if_neg (by omega)]; exact f1) (by rw [kd_al, if_neg (by omega)]; exact f2)
  have kc : kd h2 (kx h) = 4 := by rw [(e2.k (kx h) (by rw [kd_al, if_pos rfl]; decide)).1, kd_al, if_pos rfl]
  have a2 := a1.trans (F := fun a _ => a = b ∨ kx h ≤ a ∧ a ≤ kx h + 2 ∨ kx h + 1000000 ≤ a ∧ a ≤ kx h + 1000002) e2 (fun a k q z => q (by omega)) (fun a k q z => q (by omega))
  have kb : kd h2 b = 5 := by rw [(a2.k b (by rw [k]; decide)).1, k]
  have a3 : kAg (fun a _ => a = b) h2 (sR (sI (sR (sI (sR h2 b 3 (some (kx h))) b 0 pn) b 1 (some t)) b 2 its) b 4 (some ho)) := ((((kAg.R h2 b 3 (some (kx h))).trans (F := fun a _ => a = b) (kAg.I _ b 0 pn) (fun a k q z => q z.1) (fun a k q z => q z.1)).trans (F := fun a _ => a = b) (kAg.R _ b 1 (some t)) (fun a k q => q) (fun a k q z => q z.1)).trans (F := fun a _ => a = b) (kAg.I _ b 2 its) (fun a k q => q) (fun a k q z => q z.1)).trans (F := fun a _ => a = b) (kAg.R _ b 4 (some ho)) (fun a k q => q) (fun a k q z => q z.1)
  refine ⟨_, ?_, a2.trans a3 (fun a k q => q) (fun a k q z => q (Or.inl z)), ⟨?_, ?_, ?_, ?_, ?_, ?_⟩, ⟨?_, ?_, ?_⟩, ?_, ?_, ?_, ?_, ?_⟩
  · unfold f_X4_init
    rw [nw_k f0, e1, ki_ret]
    simp only [pI, pR, kd_sI, kd_sR, kb, if_true]
  · exact kb
  · exact kc
  · exact e3
  · exact e4
  · exact e5
  · exact e6
  · rw [(a3.1 (kx h) 0 n0).2.2]; exact e7
  · rw [(a3.1 (kx h) 1 n0).2.2]; exact e8
  · rw [(a3.1 (kx h) 2 n0).1]; exact e9
  · rw [kR_sR, if_neg (by omega), kR_sI, kR_sR, if_neg (by omega), kR_sI, kR_sR, if_pos ⟨rfl, rfl⟩]
  · rw [kI_sR, kI_sI, if_neg (by omega), kI_sR, kI_sI, if_pos ⟨rfl, rfl⟩]
  · rw [kR_sR, if_neg (by omega), kR_sI, kR_sR, if_pos ⟨rfl, rfl⟩]
  · rw [kI_sR, kI_sI, if_pos ⟨rfl, rfl⟩]
  · rw [kR_sR, if_pos ⟨rfl, rfl⟩]
/-! register: the model's -/
theorem tm_regL {n P n' : Nat} {d its m : Int32} (hn : n ≤ 6) (hP : P < 10) (hn' : n' < 700) : ∀ (f i : Nat) (h : KH), kSm h → kI h 0 5 = nI n → kI h 0 8 = nI P → kI h 0 12 = nI n' → kI h 0 0 = m → i ≤ n → n < i + f → ∃ h', X10_register_L83 f 0 d its (nI i) h = kret (nI P) h' ∧ kAg (fun a k => a = 7 ∧ 6 * P + i ≤ k ∧ k < 6 * P + n ∨ a = 8 ∧ k = P ∨ (a = 9 ∨ a = 10 ∨ a = 11) ∧ k = n' ∨ a = 0 ∧ (k = 12 ∨ k = 8)) h h' ∧ kI h' 0 8 = nI (P + 1) ∧ kI h' 8 P = its ∧ kI h' 0 12 = nI (n' + 1) ∧ kI h' 9 n' = nI P ∧ kI h' 10 n' = d ∧ kI h' 11 n' = m ∧ ∀ k, i ≤ k → k < n → kI h' 7 (6 * P + k) = kI h 4 k := by
  intro f
  induction f with
  | zero => intro i h _ _ _ _ _ h1 h2; omega
  | succ f ih =>
    intro i h T e5 e8 e12 e0 h1 h2
    unfold X10_register_L83 X10_register_b83
    rw [gI_k T.d0, e5]
    by_cases hi : n ≤ i
    · have T1 : kSm (sI h 8 P its) := T.fr (kAg.I h 8 P its) (fun a k q z => by omega)
      have g12 : kI (sI h 8 P its) 0 12 = nI n' := by rw [kI_sI, if_neg (by omega)]; exact e12
      have g0 : kI (sI h 8 P its) 0 0 = m := by rw [kI_sI, if_neg (by omega)]; exact e0
      have g8 : kI (sI h 8 P its) 0 8 = nI P := by rw [kI_sI, if_neg (by omega)]; exact e8
      have agH := mHolds_ag (sI h 8 P its) (nI P) d m n'
      have T2 : kSm (mHolds (sI h 8 P its) (nI P) d m n') := T1.fr agH (fun a k q z => by omega)
      have g8' : kI (mHolds (sI h 8 P its) (nI P) d m n') 0 8 = nI P := by rw [(agH.1 0 8 (by omega)).1]; exact g8
      refine ⟨sI (mHolds (sI h 8 P its) (nI P) d m n') 0 8 (nI (P + 1)), ?_, ?_, ?_, ?_, ?_, ?_, ?_, ?_, fun k q1 q2 => by omega⟩
      · rw [kif_t (by rw [ka_le (by omega) (by omega)]; exact hi), gN_k T.d0 T.r11, gI_k T.d0, e8, pAI_k T.d8 (by rw [T.n8]; omega) (by omega), gI_k T1.d0, g8, kV_k T1.d0, tm_holds T1 g12 g0 hn', kb_ret, gI_k T2.d0, g8', pI_k T2.d0, gI_k (show kd (sI (mHolds (sI h 8 P its) (nI P) d m n') 0 8 (nI P + 1)) 0 = 11 by rw [kd_sI]; exact T2.d0), kI_sI, if_pos ⟨rfl, rfl⟩, nI_1, ka_pred (by omega), Nat.add_sub_cancel]
      · exact ((kAg.I h 8 P its).trans (F := fun a k => a = 7 ∧ 6 * P + i ≤ k ∧ k < 6 * P + n ∨ a = 8 ∧ k = P ∨ (a = 9 ∨ a = 10 ∨ a = 11) ∧ k = n' ∨ a = 0 ∧ (k = 12 ∨ k = 8)) agH (fun a k q z => q (by omega)) (fun a k q z => q (by omega))).trans (kAg.I _ 0 8 _) (fun a k q => q) (fun a k q z => q (by omega))
      · rw [kI_sI, if_pos ⟨rfl, rfl⟩]
      · rw [kI_sI, if_neg (by omega), (agH.1 8 P (by omega)).1, kI_sI, if_pos ⟨rfl, rfl⟩]
      · rw [kI_sI, if_neg (by omega)]
        unfold mHolds
        rw [kI_sI, if_pos ⟨rfl, rfl⟩]
      · rw [kI_sI, if_neg (by omega)]
        unfold mHolds
        rw [kI_sI, if_neg (by omega), kI_sI, if_neg (by omega), kI_sI, if_neg (by omega), kI_sI, if_pos ⟨rfl, rfl⟩]
      · rw [kI_sI, if_neg (by omega)]
        unfold mHolds
        rw [kI_sI, if_neg (by omega), kI_sI, if_neg (by omega), kI_sI, if_pos ⟨rfl, rfl⟩]
      · rw [kI_sI, if_neg (by omega)]
        unfold mHolds
        rw [kI_sI, if_neg (by omega), kI_sI, if_pos ⟨rfl, rfl⟩]
    · have ag1 := kAg.I h 7 (6 * P + i) (kI h 4 i)
      rw [kif_f (by rw [ka_le (by omega) (by omega)]; exact hi), gN_k T.d0 T.r10, gI_k T.d0, e8, gN_k T.d0 T.r6, gAI_k T.d4 (by rw [T.n4]; omega) (by omega), mc_idx6, pAI_k T.d7 (by rw [T.n7]; omega) (by omega), nI_1]
      obtain ⟨h', f1, f2, f3, f4, f5, f6, f7, f8, f9⟩ := ih (i + 1) (sI h 7 (6 * P + i) (kI h 4 i)) (T.fr ag1 (fun a k q z => by omega)) e5 e8 e12 e0 (by omega) (by omega)
      refine ⟨h', f1, ag1.trans f2 (fun a k q z => q (by omega)) (fun a k q z => q (by omega)), f3, f4, f5, f6, f7, f8, fun k q1 q2 => ?_⟩
      by_cases hki : k = i
      · rw [hki, (f2.1 7 (6 * P + i) (by omega)).1, kI_sI, if_pos ⟨rfl, rfl⟩]
      · rw [f9 k (by omega) q2, kI_sI, if_neg (by omega)]
theorem tm_reg {h : KH} {n P n' : Nat} {d its m : Int32} (T : kSm h) (hn : n ≤ 6) (hP : P < 10) (hn' : n' < 700) (e5 : kI h 0 5 = nI n) (e8 : kI h 0 8 = nI P) (e12 : kI h 0 12 = nI n') (e0 : kI h 0 0 = m) : ∃ h', X10_register_b59 0 d its 0 0 h = kret (nI P) h' ∧ kAg (fun a k => a = 6 ∧ k = P ∨ a = 7 ∧ 6 * P ≤ k ∧ k < 6 * P + 6 ∨ a = 8 ∧ k = P ∨ (a = 9 ∨ a = 10 ∨ a = 11) ∧ k = n' ∨ a = 0 ∧ (k = 12 ∨ k = 8)) (sI h 0 35 0) h' ∧ kI h' 0 8 = nI (P + 1) ∧ kI h' 8 P = its ∧ kI h' 0 12 = nI (n' + 1) ∧ kI h' 9 n' = nI P ∧ kI h' 10 n' = d ∧ kI h' 11 n' = m ∧ kI h' 6 P = nI n ∧ ∀ k, k < n → kI h' 7 (6 * P + k) = kI h 4 k := by
  have T1 := T.thr 0
  have T2 : kSm (sI (sI h 0 35 0) 6 P (nI n)) := T1.fr (kAg.I _ 6 P (nI n)) (fun a k q z => by omega)
  obtain ⟨h', f1, f2, f3, f4, f5, f6, f7, f8, f9⟩ := tm_regL (d := d) (its := its) (m := m) hn hP hn' kF 0 (sI (sI h 0 35 0) 6 P (nI n)) T2 e5 e8 e12 e0 (by omega) (by unfold kF; omega)
  refine ⟨h', ?_, (kAg.I (sI h 0 35 0) 6 P (nI n)).trans f2 (fun a k q z => q (by omega)) (fun a k q z => q (by omega)), f3, f4, f5, f6, f7, f8, ?_, fun k hk => ?_⟩
  · unfold X10_register_b59
    rw [kV_k T.d0, can_0 T, kb_ret, kif_f (by decide), gN_k T1.d0 T1.r9, gI_k T1.d0, show kI (sI h 0 35 0) 0 8 = nI P from e8, gI_k T1.d0, show kI (sI h 0 35 0) 0 5 = nI n from e5, pAI_k T1.d6 (by rw [T1.n6]; omega) (by omega)]
    exact f1
  · rw [(f2.1 6 P (by omega)).1, kI_sI, if_pos ⟨rfl, rfl⟩]
  · rw [f9 k (by omega) hk, kI_sI, if_neg (by omega), kI_sI, if_neg (by omega)]
