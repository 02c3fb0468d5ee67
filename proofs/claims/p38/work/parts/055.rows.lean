/-! the rows of passings: one trip or not, who is ahead -/
theorem x11_at : ∀ i, i < 8 → xR11l.getD i none = some (12 + i) := by decide
theorem xD12_at : ∀ i, i < 8 → xDl.getD (12 + i) 0 = 21 ∧ xNl.getD (12 + i) 0 = 8 := by decide
section KROW
variable {hx hm : KH}
theorem kCx.between (K : kCx hx hm) {i j : Nat} (hi : i < 8) (hj : j < 8) : f_X6_between 1 (nI i) (nI j) hx = kret (kI hm 2 (8 * i + j)) hx := by
  have S := K.1.1
  have e1 := S.1 (12 + i) (by omega)
  have e2 := xD12_at i hi
  unfold f_X6_between
  rw [gN_k S.d1 S.r1_1, gAN_k S.d11 (by rw [S.n11]; exact hi) (by omega) ((S.2.2.2.2.1 i hi).trans (x11_at i hi)), gAI_k (e1.1.trans e2.1) (by rw [e1.2, e2.2]; exact hj) (by omega), (K.2.2.1 i j hi hj).1]
theorem kCx.gate (K : kCx hx hm) {r : Nat} (hr : r < mn hm 0 16) : mn hm 12 r < 8 ∧ kI hx (200 + 4 * r) 1 = nI (mn hm 12 r) := by
  obtain ⟨-, -, -, ⟨g, g1, g2, g3⟩, -⟩ := K.rd hr
  rw [mn_of g3 (by omega)]
  exact ⟨g1, g2⟩
theorem kCx.minute (K : kCx hx hm) {r : Nat} (hr : r < mn hm 0 16) : mn hm 13 r ≤ 50000 ∧ kI hx (200 + 4 * r) 2 = nI (mn hm 13 r) := by
  obtain ⟨-, -, -, -, ⟨g, g1, g2, g3⟩, -⟩ := K.rd hr
  rw [mn_of g3 (by omega)]
  exact ⟨g1, g2⟩
theorem kCx.pau (K : kCx hx hm) : mn hm 0 1 ≤ 500 ∧ kI hx 1 3 = nI (mn hm 0 1) := by
  obtain ⟨n, n1, n2, n3⟩ := K.2.1
  rw [mn_of n3 (by omega)]
  exact ⟨n1, n2⟩
theorem kCx.one (K : kCx hx hm) {r s : Nat} (hr : r < mn hm 0 16) (hs : s < mn hm 0 16) (hrs : mn hm 13 r ≤ mn hm 13 s) : f_X6_isOneTrip 1 (200 + 4 * r) (200 + 4 * s) hx = kret (if sBeg hm r s = true then 0 else 1) hx := by
  have S := K.1.1
  obtain ⟨g1, g2⟩ := K.gate hr
  obtain ⟨g3, g4⟩ := K.gate hs
  obtain ⟨m1, m2⟩ := K.minute hr
  obtain ⟨m3, m4⟩ := K.minute hs
  obtain ⟨p1, p2⟩ := K.pau
  unfold f_X6_isOneTrip
  rw [gI_k (K.rd hr).1.1, gI_k (K.rd hs).1.1, g2, g4, kV_k S.d1, K.between g1 g3, kb_ret, gI_k (K.rd hs).1.1, gI_k (K.rd hr).1.1, m2, m4, ka_sub hrs]
  unfold sBeg
  rcases (K.2.2.1 _ _ g1 g3).2 with e | ⟨n, hn, e⟩
  · rw [kif_t e, e]
    rfl
  · have hmn : mn hm 2 (8 * mn hm 12 r + mn hm 12 s) = n := mn_of e (by omega)
    have hn1 : ¬ nI n = -1 := by
      rw [ka_n1 (by omega)]
      exact fun z => z
    rw [hmn, e, kif_f hn1, gI_k S.d1, p2, show (2 : Int32) = nI 2 from rfl, ka_mul, ka_add]
    by_cases q1 : 2 * n + mn hm 0 1 < mn hm 13 s - mn hm 13 r
    · rw [kif_t (by rw [ka_lt (by omega) (by omega)]; exact q1), if_pos (by simp [q1])]
      rfl
    · rw [kif_f (by rw [ka_lt (by omega) (by omega)]; exact q1), show (4 : Int32) = nI 4 from rfl, ka_mul]
      by_cases q2 : 4 * (mn hm 13 s - mn hm 13 r) < n
      · rw [kif_t (by rw [ka_lt (by omega) (by omega)]; exact q2), if_pos (by simp [q2])]
        rfl
      · rw [kif_f (by rw [ka_lt (by omega) (by omega)]; exact q2), if_neg (by simp [q1, q2, hn1])]
        rfl
theorem kCx.ahd (K : kCx hx hm) {r s : Nat} (hr : r < mn hm 0 16) (hs : s < mn hm 0 16) : f_X5_isAheadOf (200 + 4 * r) (200 + 4 * s) hx = kret (if mn hm 13 r < mn hm 13 s ∨ mn hm 13 r = mn hm 13 s ∧ r < s then 1 else 0) hx := by
  obtain ⟨m1, m2⟩ := K.minute hr
  obtain ⟨m3, m4⟩ := K.minute hs
  have hR := K.R.2.2
  unfold f_X5_isAheadOf
  rw [gI_k (K.rd hr).1.1, gI_k (K.rd hs).1.1, m2, m4]
  by_cases q1 : mn hm 13 r < mn hm 13 s
  · rw [kif_t (by rw [ka_lt (by omega) (by omega)]; exact q1), if_pos (Or.inl q1)]
    rfl
  · rw [kif_f (by rw [ka_lt (by omega) (by omega)]; exact q1), gI_k (K.rd hr).1.1, gI_k (K.rd hs).1.1, m2, m4]
    by_cases q2 : mn hm 13 r = mn hm 13 s
    · rw [kif_t (by rw [q2]), gI_k (K.rd hr).1.1, gI_k (K.rd hs).1.1, (K.rd hr).2.2.1, (K.rd hs).2.2.1]
      by_cases q3 : s ≤ r
      · rw [kif_t (by rw [ka_le (by omega) (by omega)]; exact q3), if_neg (by omega)]
        rfl
      · rw [kif_f (by rw [ka_le (by omega) (by omega)]; exact q3), if_pos (by omega)]
        rfl
    · rw [kif_f (by rw [ka_eq (by omega) (by omega)]; exact q2), if_neg (by omega)]
      rfl
end KROW
/-! a row: an object of passings, its readings, its begins -/
def aOK (a : Nat) : Prop := a = 33 ∨ 100 ≤ a ∧ a < 180 ∧ a % 8 = 0
def PSt (h : KH) (a : Nat) : Prop := kd h a = 4 ∧ kd h (a + 1) = 26 ∧ kn h (a + 1) = 60 ∧ kd h (a + 2) = 23 ∧ kn h (a + 2) = 60 ∧ kR h a 0 = some (a + 1) ∧ kR h a 1 = some (a + 2)
def PRw (h : KH) (a : Nat) (l : List Nat) : Prop := l.length ≤ 60 ∧ kI h a 2 = nI l.length ∧ ∀ k, k < l.length → kR h (a + 1) k = some (200 + 4 * l.getD k 0)
def PBe (hx hm : KH) (a : Nat) (l : List Nat) : Prop := ∀ k, k < l.length → kI hx (a + 2) k = if sBegAt hm l k then 1 else 0
def LOK (hm : KH) (l : List Nat) : Prop := (∀ k, k < l.length → l.getD k 0 < mn hm 0 16) ∧ ∀ i k, i < k → k < l.length → sBef (mn hm) (l.getD i 0) (l.getD k 0)
def DA (a i k : Nat) : Prop := i = a ∧ k = 2 ∨ i = a + 1 ∨ i = a + 2
theorem DA.dk {a : Nat} (h : aOK a) : ∀ i k, DA a i k → DK i k := by
  intro i k q
  unfold aOK at h
  unfold DA at q
  unfold DK
  omega
theorem PSt.fr {h h' : KH} {a : Nat} {D : Nat → Nat → Prop} (P : PSt h a) (ag : kAg D h h') (hD : ∀ k, k < 2 → ¬ D a k) : PSt h' a := by
  obtain ⟨p1, p2, p3, p4, p5, p6, p7⟩ := P
  have k1 := ag.k a (by rw [p1]; decide)
  have k2 := ag.k (a + 1) (by rw [p2]; decide)
  have k3 := ag.k (a + 2) (by rw [p4]; decide)
  exact ⟨by rw [k1.1, p1], by rw [k2.1, p2], by rw [k2.2, p3], by rw [k3.1, p4], by rw [k3.2, p5], by rw [(ag.1 a 0 (hD 0 (by decide))).2.2, p6], by rw [(ag.1 a 1 (hD 1 (by decide))).2.2, p7]⟩
theorem LOK.m {hm : KH} {l : List Nat} (L : LOK hm l) {i k : Nat} (h1 : i < k) (h2 : k < l.length) : mn hm 13 (l.getD i 0) ≤ mn hm 13 (l.getD k 0) := by
  have := L.2 i k h1 h2
  unfold sBef at this
  omega
theorem pAZ_k {α : Type} {h : KH} {a c i : Nat} {v : Int32} {f : KH → KO α} (h1 : kd h a = c) (h2 : i < kn h a) (h3 : i < 2147483648) (h4 : v = 0 ∨ v = 1) : pAZ h a c (nI i) v f = f (sI h a i v) := by
  unfold pAZ
  rw [nI_clamp h3, if_pos ⟨h1, by rintro (q | q); exact nI_pos h3 q; omega, h4⟩]
theorem pAN_k {α : Type} {h : KH} {a c cv i v : Nat} {f : KH → KO α} (h1 : kd h a = c) (h2 : i < kn h a) (h3 : i < 2147483648) (h4 : kd h v = cv) : pAN h a c cv (nI i) v f = f (sR h a i (some v)) := by
  unfold pAN
  rw [nI_clamp h3, if_pos ⟨h1, by rintro (q | q); exact nI_pos h3 q; omega, h4⟩]
section KROW2
variable {hx hm : KH} {a : Nat} {l : List Nat}
/-- seeBeginning -/
theorem kCx.see (K : kCx hx hm) (P : PSt hx a) (W : PRw hx a l) (L : LOK hm l) {k : Nat} (hk : k < 2147483648) : f_X3_seeBeginning a (nI k) 1 hx = kret () (if k < l.length then sI hx (a + 2) k (if sBegAt hm l k then 1 else 0) else hx) := by
  obtain ⟨p1, p2, p3, p4, p5, p6, p7⟩ := P
  obtain ⟨w1, w2, w3⟩ := W
  unfold f_X3_seeBeginning
  rw [gI_k p1, w2]
  by_cases hq : l.length ≤ k
  · rw [kif_t (by rw [ka_le (by omega) hk]; exact hq), if_neg (by omega)]
    rfl
  · rw [kif_f (by rw [ka_le (by omega) hk]; exact hq), if_pos (by omega), gN_k p1 p7]
    by_cases h0 : k = 0
    · subst h0
      rw [kif_t (show nI 0 = 0 from rfl)]
      unfold X3_seeBeginning_b38 X3_seeBeginning_b43
      rw [pAZ_k p4 (by omega) (by omega) (Or.inr rfl)]
      rfl
    · obtain ⟨i, rfl⟩ : ∃ i, k = i + 1 := ⟨k - 1, by omega⟩
      have e0 : ¬ nI (i + 1) = 0 := by rw [show (0 : Int32) = nI 0 from rfl, ka_eq (by omega) (by omega)]; omega
      rw [kif_f e0, gN_k p1 p6, ka_pred (by omega), gAN_k p2 (by omega) (by omega) (w3 (i + 1 - 1) (by omega)), gN_k p1 p6, gAN_k p2 (by omega) (by omega) (w3 (i + 1) (by omega)), kV_k K.1.1.d1, K.one (L.1 _ (by omega)) (L.1 _ (by omega)) (L.m (by omega) (by omega)), kb_ret]
      show kif ((if sBeg hm (l.getD i 0) (l.getD (i + 1) 0) = true then (0 : Int32) else 1) = 0) _ _ = kret () (sI hx (a + 2) (i + 1) (if sBeg hm (l.getD i 0) (l.getD (i + 1) 0) = true then 1 else 0))
      by_cases g : sBeg hm (l.getD i 0) (l.getD (i + 1) 0) = true
      · rw [if_pos g, if_pos g, kif_t rfl]
        unfold X3_seeBeginning_b38 X3_seeBeginning_b43
        rw [pAZ_k p4 (by omega) (by omega) (Or.inr rfl)]
        rfl
      · rw [if_neg g, if_neg g, kif_f (by decide)]
        unfold X3_seeBeginning_b43
        rw [pAZ_k p4 (by omega) (by omega) (Or.inl rfl)]
        rfl
/-- joinAll -/
theorem PRw.I {h : KH} (W : PRw h a l) (k : Nat) (v : Int32) : PRw (sI h (a + 2) k v) a l := by
  obtain ⟨w1, w2, w3⟩ := W
  exact ⟨w1, by rw [kI_sI, if_neg (by omega)]; exact w2, w3⟩
theorem kCx.joinL (hA : aOK a) : ∀ (f i : Nat) (hx : KH), kCx hx hm → PSt hx a → PRw hx a l → LOK hm l → (∀ k, k < i → k < l.length → kI hx (a + 2) k = if sBegAt hm l k then 1 else 0) → i ≤ l.length → l.length < i + f → ∃ h', X3_joinAll_L2 f a 1 (nI i) hx = kret () h' ∧ kAg (fun j k => j = a + 2 ∧ k < l.length) hx h' ∧ PBe h' hm a l := by
  intro f
  induction f with
  | zero => intro i hx _ _ _ _ _ h1 h2; omega
  | succ f ih =>
    intro i hx K P W L hB h1 h2
    unfold X3_joinAll_L2 X3_joinAll_b2
    rw [gI_k P.1, W.2.1]
    by_cases hi : l.length ≤ i
    · refine ⟨hx, by rw [kif_t (by rw [ka_le (by have := W.1; omega) (by have := W.1; omega)]; exact hi)], (kAg.rf hx).sub (fun _ _ z => z.elim), fun k hk => hB k (by omega) hk⟩
    · have ag := kAg.I hx (a + 2) i (if sBegAt hm l i then 1 else 0)
      rw [kif_f (by rw [ka_le (by have := W.1; omega) (by have := W.1; omega)]; exact hi), kV_k P.1, K.see P W L (by have := W.1; omega), kb_ret, if_pos (by omega), nI_1]
      obtain ⟨h', e1, e2, e3⟩ := ih (i + 1) (sI hx (a + 2) i (if sBegAt hm l i then 1 else 0)) (K.fr ag (fun j k q => DA.dk hA j k (by unfold DA; omega))) (P.fr ag (fun k hk z => by omega)) (W.I i _) L (fun k hk hkl => by
        rw [kI_sI]
        by_cases hki : k = i
        · rw [if_pos ⟨rfl, hki⟩, hki]
        · rw [if_neg (by omega)]
          exact hB k (by omega) hkl) (by omega) (by omega)
      exact ⟨h', e1, ag.trans e2 (fun j k q z => q (by omega)) (fun j k q z => q z), e3⟩
theorem kCx.joinAll (K : kCx hx hm) (hA : aOK a) (P : PSt hx a) (W : PRw hx a l) (L : LOK hm l) : ∃ h', f_X3_joinAll a 1 hx = kret () h' ∧ kAg (fun j k => j = a + 2 ∧ k < l.length) hx h' ∧ PBe h' hm a l :=
  kCx.joinL hA kF 0 hx K P W L (fun k hk => by omega) (by omega) (by have := W.1; unfold kF; omega)
end KROW2
