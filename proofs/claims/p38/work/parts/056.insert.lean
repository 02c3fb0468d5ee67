/-! a reading into a row -/
def SH (hx h' : KH) (a len i : Nat) : Prop := (∀ k, k < i → kR h' (a + 1) k = kR hx (a + 1) k ∧ kI h' (a + 2) k = kI hx (a + 2) k) ∧ ∀ k, i ≤ k → k < len → kR h' (a + 1) (k + 1) = kR hx (a + 1) k ∧ kI h' (a + 2) (k + 1) = kI hx (a + 2) k
theorem kCx.insL {hx hm : KH} {a r N : Nat} {l : List Nat} (hA : aOK a) (W : PRw hx a l) (L : LOK hm l) (hr : r < mn hm 0 16) (hl : l.length < 60) (hN : l.length ≤ N) : ∀ (f i : Nat) (h' : KH), kCx h' hm → PSt h' a → kI h' a 2 = nI l.length → kAg (fun j k => j = a + 1 ∨ j = a + 2) hx h' → SH hx h' a l.length i → (∀ k, k < N → kI h' (a + 2) k = 0 ∨ kI h' (a + 2) k = 1) → i ≤ l.length → i < f → ∃ h'' i', X3_insertInOrder_L5 f a (200 + 4 * r) (nI i) h' = kret (nI i') h'' ∧ i' ≤ i ∧ kAg (DA a) hx h'' ∧ SH hx h'' a l.length i' ∧ (∀ k, k < N → kI h'' (a + 2) k = 0 ∨ kI h'' (a + 2) k = 1) ∧ kR h'' (a + 1) i' = some (200 + 4 * r) ∧ kI h'' a 2 = nI (l.length + 1) ∧ (∀ k, i' ≤ k → k < i → sBef (mn hm) r (l.getD k 0)) ∧ (i' = 0 ∨ ¬ sBef (mn hm) r (l.getD (i' - 1) 0)) := by
  intro f
  induction f with
  | zero => intro i h' _ _ _ _ _ _ h1 h2; omega
  | succ f ih =>
    intro i h' K P hc ag Q z h1 h2
    have P' := P
    obtain ⟨p1, p2, p3, p4, p5, p6, p7⟩ := P'
    have hexit : (i = 0 ∨ ¬ sBef (mn hm) r (l.getD (i - 1) 0)) → ∃ h'' i', X3_insertInOrder_b58 a (200 + 4 * r) (nI i) h' = kret (nI i') h'' ∧ i' ≤ i ∧ kAg (DA a) hx h'' ∧ SH hx h'' a l.length i' ∧ (∀ k, k < N → kI h'' (a + 2) k = 0 ∨ kI h'' (a + 2) k = 1) ∧ kR h'' (a + 1) i' = some (200 + 4 * r) ∧ kI h'' a 2 = nI (l.length + 1) ∧ (∀ k, i' ≤ k → k < i → sBef (mn hm) r (l.getD k 0)) ∧ (i' = 0 ∨ ¬ sBef (mn hm) r (l.getD (i' - 1) 0)) := by
      intro hex
      refine ⟨sI (sR h' (a + 1) i (some (200 + 4 * r))) a 2 (nI (l.length + 1)), i, ?_, Nat.le_refl _, ?_, ⟨fun k hk => ?_, fun k hk hkl => ?_⟩, fun k hk => ?_, ?_, ?_, fun k q1 q2 => by omega, hex⟩
      · unfold X3_insertInOrder_b58
        rw [gN_k p1 p6, pAN_k p2 (by omega) (by omega) (K.rd hr).1.1, gI_k (show kd (sR h' (a + 1) i (some (200 + 4 * r))) a = 4 from p1), show kI (sR h' (a + 1) i (some (200 + 4 * r))) a 2 = nI l.length from hc, pI_k (show kd (sR h' (a + 1) i (some (200 + 4 * r))) a = 4 from p1), nI_1]
      · exact (ag.trans (F := DA a) (kAg.R h' (a + 1) i (some (200 + 4 * r))) (fun j k q w => q (by unfold DA; omega)) (fun j k q w => q (by unfold DA; omega))).trans (kAg.I _ a 2 _) (fun j k q => q) (fun j k q w => q (by unfold DA; omega))
      · rw [kR_sI, kR_sR, if_neg (by omega), kI_sI, if_neg (by omega)]
        exact Q.1 k hk
      · rw [kR_sI, kR_sR, if_neg (by omega), kI_sI, if_neg (by omega)]
        exact Q.2 k hk hkl
      · rw [kI_sI, if_neg (by omega)]
        exact z k hk
      · rw [kR_sI, kR_sR, if_pos ⟨rfl, rfl⟩]
      · rw [kI_sI, if_pos ⟨rfl, rfl⟩]
    unfold X3_insertInOrder_L5 X3_insertInOrder_b5
    by_cases h0 : i = 0
    · rw [kif_t (by rw [h0]; decide)]
      exact hexit (Or.inl h0)
    · obtain ⟨i, rfl⟩ : ∃ k, i = k + 1 := ⟨i - 1, by omega⟩
      have er : kR h' (a + 1) i = some (200 + 4 * l.getD i 0) := by rw [(Q.1 i (by omega)).1, W.2.2 i (by omega)]
      have hs := L.1 i (by omega)
      rw [kif_f (by rw [show (0 : Int32) = nI 0 from rfl, ka_le (by omega) (by omega)]; omega), gN_k p1 p6, ka_pred (by omega), show i + 1 - 1 = i from rfl, gAN_k p2 (by omega) (by omega) er, kV_k (K.rd hr).1.1, K.ahd hr hs, kb_ret]
      by_cases g : mn hm 13 r < mn hm 13 (l.getD i 0) ∨ mn hm 13 r = mn hm 13 (l.getD i 0) ∧ r < l.getD i 0
      · have hx2 : kI (sR h' (a + 1) (i + 1) (some (200 + 4 * l.getD i 0))) (a + 2) i = 0 ∨ kI (sR h' (a + 1) (i + 1) (some (200 + 4 * l.getD i 0))) (a + 2) i = 1 := z i (by omega)
        have U1 : kd (sR h' (a + 1) (i + 1) (some (200 + 4 * l.getD i 0))) a = 4 := p1
        have U2 : kd (sR h' (a + 1) (i + 1) (some (200 + 4 * l.getD i 0))) (a + 2) = 23 := p4
        have U3 : kR (sR h' (a + 1) (i + 1) (some (200 + 4 * l.getD i 0))) a 1 = some (a + 2) := by rw [kR_sR, if_neg (by omega)]; exact p7
        have U4 : kn (sR h' (a + 1) (i + 1) (some (200 + 4 * l.getD i 0))) (a + 2) = 60 := p5
        rw [if_pos g, kif_f (by decide), gN_k p1 p6, gN_k p1 p6, gAN_k p2 (by omega) (by omega) er, pAN_k p2 (by omega) (by omega) (K.rd hs).1.1, gN_k U1 U3, gN_k U1 U3, gAI_k U2 (by omega) (by omega), pAZ_k U2 (by omega) (by omega) hx2, ka_dec (by omega), show i + 1 - 1 = i from rfl]
        have ag1 : kAg (fun j k => j = a + 1 ∨ j = a + 2) h' (sI (sR h' (a + 1) (i + 1) (some (200 + 4 * l.getD i 0))) (a + 2) (i + 1) (kI (sR h' (a + 1) (i + 1) (some (200 + 4 * l.getD i 0))) (a + 2) i)) :=
          (kAg.R h' (a + 1) (i + 1) (some (200 + 4 * l.getD i 0))).trans (kAg.I _ (a + 2) (i + 1) _) (fun j k q w => q (by omega)) (fun j k q w => q (by omega))
        obtain ⟨h'', i', e1, e2, e3, e4, e5, e6, e7, e8, e9⟩ := ih i _ (K.fr ag1 (fun j k q => DA.dk hA j k (by unfold DA; omega))) (P.fr ag1 (fun k hk w => by omega)) (by rw [kI_sI, if_neg (by omega)]; exact hc) (ag.trans ag1 (fun j k q => q) (fun j k q => q)) ⟨fun k hk => by
            rw [kR_sI, kR_sR, if_neg (by omega), kI_sI, if_neg (by omega)]
            exact Q.1 k (by omega), fun k hk hkl => by
            by_cases hki : k = i
            · subst hki
              rw [kR_sI, kR_sR, if_pos ⟨rfl, rfl⟩, kI_sI, if_pos ⟨rfl, rfl⟩]
              exact ⟨er.symm.trans (Q.1 k (by omega)).1, (Q.1 k (by omega)).2⟩
            · rw [kR_sI, kR_sR, if_neg (by omega), kI_sI, if_neg (by omega)]
              exact Q.2 k (by omega) hkl⟩ (fun k hk => by
            rw [kI_sI]
            by_cases hki : k = i + 1
            · rw [if_pos ⟨rfl, hki⟩]
              exact hx2
            · rw [if_neg (by omega)]
              exact z k hk) (by omega) (by omega)
        refine ⟨h'', i', e1, by omega, e3, e4, e5, e6, e7, fun k q1 q2 => ?_, e9⟩
        by_cases hki : k = i
        · rw [hki]; exact g
        · exact e8 k q1 (by omega)
      · rw [if_neg g, kif_t rfl]
        exact hexit (Or.inr g)
theorem ins_at {l : List Nat} {i r : Nat} (hi : i ≤ l.length) (k : Nat) : (l.insertIdx i r).getD k 0 = if k < i then l.getD k 0 else if k = i then r else l.getD (k - 1) 0 := by
  rw [List.getD_eq_getElem?_getD, List.getElem?_insertIdx]
  split
  · rw [List.getD_eq_getElem?_getD]
  · split
    · rw [if_pos (by omega)]
      rfl
    · rw [List.getD_eq_getElem?_getD]
theorem ins_len {l : List Nat} {i r : Nat} (hi : i ≤ l.length) : (l.insertIdx i r).length = l.length + 1 := by
  rw [List.length_insertIdx, if_pos hi]
theorem sBef_tr {m : Nat → Nat → Nat} {a b c : Nat} (h1 : sBef m a b) (h2 : sBef m b c) : sBef m a c := by
  unfold sBef at *
  omega
theorem sBef_to {m : Nat → Nat → Nat} {a b : Nat} (h1 : ¬ sBef m a b) (h2 : a ≠ b) : sBef m b a := by
  unfold sBef at *
  omega
theorem LOK.ins {hm : KH} {l : List Nat} {i r : Nat} (L : LOK hm l) (hi : i ≤ l.length) (hr : r < mn hm 0 16) (hnr : ∀ k, k < l.length → l.getD k 0 ≠ r) (h1 : ∀ k, i ≤ k → k < l.length → sBef (mn hm) r (l.getD k 0)) (h2 : i = 0 ∨ ¬ sBef (mn hm) r (l.getD (i - 1) 0)) : LOK hm (l.insertIdx i r) := by
  have h3 : ∀ k, k < i → sBef (mn hm) (l.getD k 0) r := fun k hk => by
    rcases h2 with h2 | h2
    · omega
    · have h4 := sBef_to h2 (hnr (i - 1) (by omega)).symm
      by_cases hki : k = i - 1
      · rw [hki]; exact h4
      · exact sBef_tr (L.2 k (i - 1) (by omega) (by omega)) h4
  refine ⟨fun k hk => ?_, fun j k hjk hk => ?_⟩
  · rw [ins_len hi] at hk
    rw [ins_at hi]
    split
    · exact L.1 k (by omega)
    · split
      · exact hr
      · exact L.1 _ (by omega)
  · rw [ins_len hi] at hk
    rw [ins_at hi, ins_at hi]
    by_cases a1 : j < i
    · rw [if_pos a1]
      by_cases a2 : k < i
      · rw [if_pos a2]
        exact L.2 j k hjk (by omega)
      · rw [if_neg a2]
        by_cases a3 : k = i
        · rw [if_pos a3]
          exact h3 j a1
        · rw [if_neg a3]
          exact L.2 j (k - 1) (by omega) (by omega)
    · rw [if_neg a1, if_neg (show ¬ k < i by omega), if_neg (show ¬ k = i by omega)]
      by_cases a3 : j = i
      · rw [if_pos a3]
        exact h1 (k - 1) (by omega) (by omega)
      · rw [if_neg a3]
        exact L.2 (j - 1) (k - 1) (by omega) (by omega)
theorem kCx.ins {hx hm : KH} {a r N : Nat} {l : List Nat} (K : kCx hx hm) (hA : aOK a) (P : PSt hx a) (W : PRw hx a l) (L : LOK hm l) (hr : r < mn hm 0 16) (hnr : ∀ k, k < l.length → l.getD k 0 ≠ r) (hl : l.length < 60) (hN : l.length ≤ N) (z : ∀ k, k < N → kI hx (a + 2) k = 0 ∨ kI hx (a + 2) k = 1) :
    ∃ h' i, f_X3_insertInOrder a (200 + 4 * r) hx = kret (nI i) h' ∧ i ≤ l.length ∧ kAg (DA a) hx h' ∧ SH hx h' a l.length i ∧ (∀ k, k < N → kI h' (a + 2) k = 0 ∨ kI h' (a + 2) k = 1) ∧ PRw h' a (l.insertIdx i r) ∧ LOK hm (l.insertIdx i r) := by
  obtain ⟨h', i, e1, e2, e3, e4, e5, e6, e7, e8, e9⟩ := kCx.insL hA W L hr hl hN kF l.length hx K P W.2.1 ((kAg.rf hx).sub (fun _ _ w => w.elim)) ⟨fun k hk => ⟨rfl, rfl⟩, fun k hk hkl => by omega⟩ z (Nat.le_refl _) (by unfold kF; omega)
  refine ⟨h', i, ?_, e2, e3, e4, e5, ⟨by rw [ins_len e2]; omega, by rw [ins_len e2]; exact e7, fun k hk => ?_⟩, L.ins e2 hr hnr (fun k q1 q2 => e8 k q1 q2) e9⟩
  · unfold f_X3_insertInOrder
    rw [gI_k P.1, W.2.1]
    exact e1
  · rw [ins_len e2] at hk
    rw [ins_at e2]
    by_cases a1 : k < i
    · rw [if_pos a1, (e4.1 k a1).1, W.2.2 k (by omega)]
    · rw [if_neg a1]
      by_cases a2 : k = i
      · rw [if_pos a2, a2, e6]
      · rw [if_neg a2]
        obtain ⟨k, rfl⟩ : ∃ q, k = q + 1 := ⟨k - 1, by omega⟩
        rw [(e4.2 k (by omega) (by omega)).1, W.2.2 k (by omega)]
        rfl
