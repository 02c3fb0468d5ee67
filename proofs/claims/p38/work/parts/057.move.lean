/-! a reading out of a row -/
theorem era_at {l : List Nat} {i : Nat} (k : Nat) : (l.eraseIdx i).getD k 0 = if k < i then l.getD k 0 else l.getD (k + 1) 0 := by
  rw [List.getD_eq_getElem?_getD, List.getElem?_eraseIdx]
  split <;> rw [List.getD_eq_getElem?_getD]
theorem era_len {l : List Nat} {i : Nat} (hi : i < l.length) : (l.eraseIdx i).length = l.length - 1 := List.length_eraseIdx_of_lt hi
theorem LOK.era {hm : KH} {l : List Nat} {i : Nat} (L : LOK hm l) (hi : i < l.length) : LOK hm (l.eraseIdx i) := by
  refine ⟨fun k hk => ?_, fun j k hjk hk => ?_⟩
  · rw [era_len hi] at hk
    rw [era_at]
    split
    · exact L.1 _ (by omega)
    · exact L.1 _ (by omega)
  · rw [era_len hi] at hk
    rw [era_at, era_at]
    split
    · split
      · exact L.2 j k hjk (by omega)
      · exact L.2 j (k + 1) (by omega) (by omega)
    · rw [if_neg (by omega)]
      exact L.2 (j + 1) (k + 1) (by omega) (by omega)
section KTAKE
variable {hx hm : KH} {a r : Nat} {l : List Nat}
theorem kCx.placeL (K : kCx hx hm) (P : PSt hx a) (W : PRw hx a l) (L : LOK hm l) {i : Nat} (hi : i < l.length) (hr : r < mn hm 0 16) (e : l.getD i 0 = r) : ∀ (f k : Nat), k ≤ i → i < k + f → X3_placeOf_L2 f a (200 + 4 * r) (nI k) hx = kret (nI i) hx := by
  have hR := K.R.2.2
  have w1 := W.1
  intro f
  induction f with
  | zero => intro k h1 h2; omega
  | succ f ih =>
    intro k h1 h2
    have hs := L.1 k (by omega)
    unfold X3_placeOf_L2 X3_placeOf_b2
    rw [gI_k P.1, W.2.1, kif_f (by rw [ka_le (by omega) (by omega)]; omega), gN_k P.1 P.2.2.2.2.2.1, gAN_k P.2.1 (by rw [P.2.2.1]; omega) (by omega) (W.2.2 k (by omega)), gI_k (K.rd hs).1.1, gI_k (K.rd hr).1.1, (K.rd hs).2.2.1, (K.rd hr).2.2.1]
    by_cases hk : k = i
    · rw [kif_t (by rw [hk, e]), hk]
    · have hne : ¬ l.getD k 0 = r := fun z => by
        have h3 := L.2 k i (by omega) hi
        rw [z, e] at h3
        unfold sBef at h3
        omega
      rw [kif_f (by rw [ka_eq (by omega) (by omega)]; exact hne), nI_1]
      exact ih (k + 1) (by omega) (by omega)
theorem kCx.placeOf (K : kCx hx hm) (P : PSt hx a) (W : PRw hx a l) (L : LOK hm l) {i : Nat} (hi : i < l.length) (hr : r < mn hm 0 16) (e : l.getD i 0 = r) : f_X3_placeOf a (200 + 4 * r) hx = kret (nI i) hx :=
  K.placeL P W L hi hr e kF 0 (by omega) (by have := W.1; unfold kF; omega)
def TK (hx h' : KH) (a len i k : Nat) : Prop := (∀ j, j < i → kR h' (a + 1) j = kR hx (a + 1) j ∧ kI h' (a + 2) j = kI hx (a + 2) j) ∧ (∀ j, i ≤ j → j < k → kR h' (a + 1) j = kR hx (a + 1) (j + 1) ∧ kI h' (a + 2) j = kI hx (a + 2) (j + 1)) ∧ ∀ j, k ≤ j → kR h' (a + 1) j = kR hx (a + 1) j ∧ kI h' (a + 2) j = kI hx (a + 2) j
theorem kCx.takeL (hA : aOK a) (W : PRw hx a l) (L : LOK hm l) (z : ∀ k, k < l.length → kI hx (a + 2) k = 0 ∨ kI hx (a + 2) k = 1) {i : Nat} (hi : i < l.length) : ∀ (f k : Nat) (h' : KH), kCx h' hm → PSt h' a → kI h' a 2 = nI (l.length - 1) → kAg (DA a) hx h' → TK hx h' a l.length i k → i ≤ k → k ≤ l.length - 1 → l.length < k + f → ∃ h'', X3_take_L25 f a 1 (nI i) (nI k) h' = kcallV 4 a h'' (f_X3_seeBeginning a (nI i) 1 h'') (fun _ h1 => kret () h1) ∧ kCx h'' hm ∧ PSt h'' a ∧ kI h'' a 2 = nI (l.length - 1) ∧ kAg (DA a) hx h'' ∧ TK hx h'' a l.length i (l.length - 1) := by
  intro f
  induction f with
  | zero => intro k h' _ _ _ _ _ h1 h2 h3; omega
  | succ f ih =>
    intro k h' K P hc ag Q h1 h2 h3
    have w1 := W.1
    have P' := P
    obtain ⟨p1, p2, p3, p4, p5, p6, p7⟩ := P'
    unfold X3_take_L25 X3_take_b25
    rw [gI_k p1, hc]
    by_cases hk : l.length - 1 ≤ k
    · obtain rfl : k = l.length - 1 := by omega
      refine ⟨h', ?_, K, P, hc, ag, Q⟩
      rw [kif_t (by rw [ka_le (by omega) (by omega)]; exact hk)]
    · have er : kR h' (a + 1) (k + 1) = some (200 + 4 * l.getD (k + 1) 0) := by rw [(Q.2.2 (k + 1) (by omega)).1, W.2.2 (k + 1) (by omega)]
      have hs := L.1 (k + 1) (by omega)
      have hx2 : kI (sR h' (a + 1) k (some (200 + 4 * l.getD (k + 1) 0))) (a + 2) (k + 1) = 0 ∨ kI (sR h' (a + 1) k (some (200 + 4 * l.getD (k + 1) 0))) (a + 2) (k + 1) = 1 := by
        rw [kI_sR, (Q.2.2 (k + 1) (by omega)).2]
        exact z (k + 1) (by omega)
      have U1 : kd (sR h' (a + 1) k (some (200 + 4 * l.getD (k + 1) 0))) a = 4 := p1
      have U2 : kd (sR h' (a + 1) k (some (200 + 4 * l.getD (k + 1) 0))) (a + 2) = 23 := p4
      have U3 : kR (sR h' (a + 1) k (some (200 + 4 * l.getD (k + 1) 0))) a 1 = some (a + 2) := by rw [kR_sR, if_neg (by omega)]; exact p7
      have U4 : kn (sR h' (a + 1) k (some (200 + 4 * l.getD (k + 1) 0))) (a + 2) = 60 := p5
      rw [kif_f (by rw [ka_le (by omega) (by omega)]; exact hk), gN_k p1 p6, gN_k p1 p6, nI_1, gAN_k p2 (by omega) (by omega) er, pAN_k p2 (by omega) (by omega) (K.rd hs).1.1, gN_k U1 U3, gN_k U1 U3, gAI_k U2 (by omega) (by omega), pAZ_k U2 (by omega) (by omega) hx2]
      have ag1 : kAg (DA a) h' (sI (sR h' (a + 1) k (some (200 + 4 * l.getD (k + 1) 0))) (a + 2) k (kI (sR h' (a + 1) k (some (200 + 4 * l.getD (k + 1) 0))) (a + 2) (k + 1))) :=
        (kAg.R h' (a + 1) k (some (200 + 4 * l.getD (k + 1) 0))).trans (kAg.I _ (a + 2) k _) (fun j k q w => q (by unfold DA; omega)) (fun j k q w => q (by unfold DA; omega))
      refine ih (k + 1) _ (K.fr ag1 (DA.dk hA)) (P.fr ag1 (fun k hk w => by unfold DA at w; omega)) (by rw [kI_sI, if_neg (by omega)]; exact hc) (ag.trans ag1 (fun j k q => q) (fun j k q => q)) ⟨fun j hj => ?_, fun j hj1 hj2 => ?_, fun j hj => ?_⟩ (by omega) (by omega) (by omega)
      · rw [kR_sI, kR_sR, if_neg (by omega), kI_sI, if_neg (by omega)]
        exact Q.1 j hj
      · by_cases hjk : j = k
        · subst hjk
          rw [kR_sI, kR_sR, if_pos ⟨rfl, rfl⟩, kI_sI, if_pos ⟨rfl, rfl⟩]
          exact ⟨er.symm.trans (Q.2.2 (j + 1) (by omega)).1, (Q.2.2 (j + 1) (by omega)).2⟩
        · rw [kR_sI, kR_sR, if_neg (by omega), kI_sI, if_neg (by omega)]
          exact Q.2.1 j hj1 (by omega)
      · rw [kR_sI, kR_sR, if_neg (by omega), kI_sI, if_neg (by omega)]
        exact Q.2.2 j (by omega)
theorem PBe.z (B : PBe hx hm a l) : ∀ k, k < l.length → kI hx (a + 2) k = 0 ∨ kI hx (a + 2) k = 1 := fun k hk => by
  rw [B k hk]
  split
  · exact Or.inr rfl
  · exact Or.inl rfl
theorem kCx.take (K : kCx hx hm) (hA : aOK a) (P : PSt hx a) (W : PRw hx a l) (L : LOK hm l) (B : PBe hx hm a l) {i : Nat} (hi : i < l.length) (hr : r < mn hm 0 16) (e : l.getD i 0 = r) : ∃ h', f_X3_take a (200 + 4 * r) 1 hx = kret () h' ∧ kAg (DA a) hx h' ∧ PRw h' a (l.eraseIdx i) ∧ LOK hm (l.eraseIdx i) ∧ PBe h' hm a (l.eraseIdx i) := by
  have w1 := W.1
  have ag0 : kAg (DA a) hx (sI hx a 2 (nI (l.length - 1))) := (kAg.I hx a 2 _).sub (fun j k q => by unfold DA; omega)
  obtain ⟨h'', e1, K2, P2, c2, ag2, Q⟩ := kCx.takeL hA W L B.z hi kF i (sI hx a 2 (nI (l.length - 1))) (K.fr ag0 (DA.dk hA)) (P.fr ag0 (fun k hk w => by unfold DA at w; omega)) (by rw [kI_sI, if_pos ⟨rfl, rfl⟩]) ag0 ⟨fun j hj => ⟨rfl, by rw [kI_sI, if_neg (by omega)]⟩, fun j hj1 hj2 => by omega, fun j hj => ⟨rfl, by rw [kI_sI, if_neg (by omega)]⟩⟩ (Nat.le_refl _) (by omega) (by unfold kF; omega)
  have W2 : PRw h'' a (l.eraseIdx i) := by
    refine ⟨by rw [era_len hi]; omega, by rw [era_len hi]; exact c2, fun k hk => ?_⟩
    rw [era_len hi] at hk
    rw [era_at]
    split
    · rw [(Q.1 k (by omega)).1, W.2.2 k (by omega)]
    · rw [(Q.2.1 k (by omega) hk).1, W.2.2 (k + 1) (by omega)]
  have L2 := L.era hi
  have hB : ∀ h3, (∀ k, k ≠ i → k < l.length - 1 → kI h3 (a + 2) k = kI h'' (a + 2) k) → (i < l.length - 1 → kI h3 (a + 2) i = if sBegAt hm (l.eraseIdx i) i then 1 else 0) → PBe h3 hm a (l.eraseIdx i) := by
    intro h3 g1 g2 k hk
    rw [era_len hi] at hk
    by_cases hki : k = i
    · rw [hki]
      exact g2 (by omega)
    · rw [g1 k hki hk]
      have hb : ∀ k', sBegAt hm (l.eraseIdx i) k = sBegAt hm l k' → k' < l.length → kI h'' (a + 2) k = kI hx (a + 2) k' → kI h'' (a + 2) k = if sBegAt hm (l.eraseIdx i) k then 1 else 0 := fun k' q1 q2 q3 => by
        rw [q3, q1]
        exact B k' q2
      by_cases hlt : k < i
      · refine hb k ?_ (by omega) (Q.1 k hlt).2
        cases k with
        | zero => rfl
        | succ k =>
          show sBeg hm _ _ = sBeg hm _ _
          rw [era_at, era_at, if_pos (by omega), if_pos (by omega)]
      · refine hb (k + 1) ?_ (by omega) (Q.2.1 k (by omega) hk).2
        cases k with
        | zero => omega
        | succ k =>
          show sBeg hm _ _ = sBeg hm _ _
          rw [era_at, era_at, if_neg (by omega), if_neg (by omega)]
  have hcall : f_X3_take a (200 + 4 * r) 1 hx = kcallV 4 a h'' (f_X3_seeBeginning a (nI i) 1 h'') (fun _ h1 => kret () h1) := by
    unfold f_X3_take
    rw [kV_k P.1, K.placeOf P W L hi hr e, kb_ret, kif_f (by rw [ka_n1 (by omega)]; exact fun z => z), gI_k P.1, W.2.1, pI_k P.1, ka_pred (by omega)]
    exact e1
  rw [hcall, kV_k P2.1, K2.see P2 W2 L2 (by omega), kb_ret]
  by_cases g : i < (l.eraseIdx i).length
  · rw [if_pos g]
    have agS := kAg.I h'' (a + 2) i (if sBegAt hm (l.eraseIdx i) i then 1 else 0)
    refine ⟨_, rfl, ag2.trans agS (fun j k q => q) (fun j k q w => q (by unfold DA; omega)), W2.I i _, L2, hB _ (fun k q1 q2 => ?_) (fun _ => ?_)⟩
    · rw [kI_sI, if_neg (by omega)]
    · rw [kI_sI, if_pos ⟨rfl, rfl⟩]
  · rw [if_neg g]
    rw [era_len hi] at g
    exact ⟨_, rfl, ag2, W2, L2, hB _ (fun k q1 q2 => rfl) (fun w => absurd w g)⟩
/-- put -/
theorem kCx.put (K : kCx hx hm) (hA : aOK a) (P : PSt hx a) (W : PRw hx a l) (L : LOK hm l) (B : PBe hx hm a l) (hr : r < mn hm 0 16) (hnr : ∀ k, k < l.length → l.getD k 0 ≠ r) (hl : l.length < 60) : ∃ h' i, i ≤ l.length ∧ f_X3_put a (200 + 4 * r) 1 hx = kret () h' ∧ kAg (DA a) hx h' ∧ PRw h' a (l.insertIdx i r) ∧ LOK hm (l.insertIdx i r) ∧ PBe h' hm a (l.insertIdx i r) := by
  obtain ⟨h1, i, e1, e2, e3, e4, -, W1, L1⟩ := K.ins hA P W L hr hnr hl (Nat.le_refl _) B.z
  have K1 := K.fr e3 (DA.dk hA)
  have P1 := P.fr e3 (fun k hk w => by unfold DA at w; omega)
  have agS := kAg.I h1 (a + 2) i (if sBegAt hm (l.insertIdx i r) i then 1 else 0)
  have K2 := K1.fr agS (fun j k q => DA.dk hA j k (by unfold DA; omega))
  have P2 := P1.fr agS (fun k hk w => by omega)
  have W2 := W1.I i (if sBegAt hm (l.insertIdx i r) i then 1 else 0)
  have hB : ∀ h3, (∀ k, k ≠ i → k ≠ i + 1 → k < l.length + 1 → kI h3 (a + 2) k = kI h1 (a + 2) k) → (kI h3 (a + 2) i = if sBegAt hm (l.insertIdx i r) i then 1 else 0) → (i + 1 < l.length + 1 → kI h3 (a + 2) (i + 1) = if sBegAt hm (l.insertIdx i r) (i + 1) then 1 else 0) → PBe h3 hm a (l.insertIdx i r) := by
    intro h3 g1 g2 g3 k hk
    rw [ins_len e2] at hk
    by_cases hki : k = i
    · rw [hki]; exact g2
    · by_cases hki2 : k = i + 1
      · rw [hki2]; exact g3 (by omega)
      · rw [g1 k hki hki2 hk]
        have hb : ∀ k', sBegAt hm (l.insertIdx i r) k = sBegAt hm l k' → k' < l.length → kI h1 (a + 2) k = kI hx (a + 2) k' → kI h1 (a + 2) k = if sBegAt hm (l.insertIdx i r) k then 1 else 0 := fun k' q1 q2 q3 => by
          rw [q3, q1]
          exact B k' q2
        by_cases hlt : k < i
        · refine hb k ?_ (by omega) (e4.1 k hlt).2
          cases k with
          | zero => rfl
          | succ k =>
            show sBeg hm _ _ = sBeg hm _ _
            rw [ins_at e2, ins_at e2, if_pos (by omega), if_pos (by omega)]
        · obtain ⟨k, rfl⟩ : ∃ q, k = q + 2 := ⟨k - 2, by omega⟩
          refine hb (k + 1) ?_ (by omega) (e4.2 (k + 1) (by omega) (by omega)).2
          show sBeg hm _ _ = sBeg hm _ _
          rw [ins_at e2, ins_at e2, if_neg (by omega), if_neg (by omega), if_neg (by omega), if_neg (by omega)]
          rfl
  unfold f_X3_put
  rw [kV_k P.1, e1, kb_ret, kV_k P1.1, K1.see P1 W1 L1 (by omega), kb_ret, if_pos (by rw [ins_len e2]; omega), kV_k P2.1, nI_1, K2.see P2 W2 L1 (by omega), kb_ret]
  by_cases g : i + 1 < (l.insertIdx i r).length
  · rw [if_pos g]
    have agT := kAg.I (sI h1 (a + 2) i (if sBegAt hm (l.insertIdx i r) i then 1 else 0)) (a + 2) (i + 1) (if sBegAt hm (l.insertIdx i r) (i + 1) then 1 else 0)
    refine ⟨_, i, e2, rfl, (e3.trans (F := DA a) agS (fun j k q => q) (fun j k q w => q (by unfold DA; omega))).trans agT (fun j k q => q) (fun j k q w => q (by unfold DA; omega)), W2.I (i + 1) _, L1, hB _ (fun k q1 q2 q3 => ?_) ?_ (fun _ => ?_)⟩
    · rw [kI_sI, if_neg (by omega), kI_sI, if_neg (by omega)]
    · rw [kI_sI, if_neg (by omega), kI_sI, if_pos ⟨rfl, rfl⟩]
    · rw [kI_sI, if_pos ⟨rfl, rfl⟩]
  · rw [if_neg g]
    rw [ins_len e2] at g
    refine ⟨_, i, e2, rfl, e3.trans agS (fun j k q => q) (fun j k q w => q (by unfold DA; omega)), W2, L1, hB _ (fun k q1 q2 q3 => ?_) ?_ (fun w => absurd w g)⟩
    · rw [kI_sI, if_neg (by omega)]
    · rw [kI_sI, if_pos ⟨rfl, rfl⟩]
end KTAKE
