/-! what the rows' calls read, and no more -/
def cRt1 (hx hm : KH) (r : Nat) : Prop :=
  (kd hx (200 + 4 * r) = 6 ∧ kd hx (201 + 4 * r) = 8 ∧ kd hx (202 + 4 * r) = 21 ∧ kn hx (202 + 4 * r) = 6) ∧ (kR hx 28 r = some (200 + 4 * r) ∧ kR hx (200 + 4 * r) 3 = some (201 + 4 * r) ∧ kR hx (201 + 4 * r) 0 = some (202 + 4 * r)) ∧
  kI hx (200 + 4 * r) 0 = nI r ∧ (∃ g, g < 8 ∧ kI hx (200 + 4 * r) 1 = nI g ∧ kI hm 12 r = nI g) ∧ (∃ m, m ≤ 50000 ∧ kI hx (200 + 4 * r) 2 = nI m ∧ kI hm 13 r = nI m) ∧
  (∃ n, 1 ≤ n ∧ n ≤ 6 ∧ kI hx (201 + 4 * r) 1 = nI n ∧ kI hm 14 r = nI n ∧ ∀ k, k < n → ∃ v, v < 15 ∧ kI hx (202 + 4 * r) k = nI v ∧ kI hm 15 (6 * r + k) = nI v)
def cRt (hx hm : KH) : Prop := (∃ R, R ≤ 60 ∧ kI hx 0 14 = nI R ∧ kI hm 0 16 = nI R) ∧ ∀ r, r < mn hm 0 16 → cRt1 hx hm r
def kCx (hx hm : KH) : Prop := (kSx hx ∧ kSm hm) ∧ cPau hx hm ∧ cDis hx hm ∧ cAli hx hm ∧ cPla hx hm ∧ cOrd hx hm ∧ cRt hx hm
def DK (a k : Nat) : Prop := (100 ≤ a ∧ a < 180 ∧ (a % 8 = 0 ∧ k = 2 ∨ a % 8 = 1 ∨ a % 8 = 2)) ∨ (200 ≤ a ∧ a < 440 ∧ a % 4 = 0 ∧ k = 5) ∨ a = 33 ∧ k = 2 ∨ a = 34 ∨ a = 35
theorem kCx.R {hx hm : KH} (K : kCx hx hm) : kI hx 0 14 = nI (mn hm 0 16) ∧ kI hm 0 16 = nI (mn hm 0 16) ∧ mn hm 0 16 ≤ 60 := by
  obtain ⟨⟨P, hP, e1, e2⟩, -⟩ := K.2.2.2.2.2.2
  have e : mn hm 0 16 = P := by unfold mn; rw [e2, nI_clamp (by omega)]
  rw [e]
  exact ⟨e1, e2, hP⟩
theorem kCx.P {hx hm : KH} (K : kCx hx hm) : kI hx 0 13 = nI (mn hm 0 8) ∧ kI hm 0 8 = nI (mn hm 0 8) ∧ mn hm 0 8 ≤ 10 := by
  obtain ⟨⟨P, hP, e1, e2⟩, -⟩ := K.2.2.2.2.1
  have e : mn hm 0 8 = P := by unfold mn; rw [e2, nI_clamp (by omega)]
  rw [e]
  exact ⟨e1, e2, hP⟩
theorem kCx.fr {hx hm hx' : KH} {D : Nat → Nat → Prop} (K : kCx hx hm) (ag : kAg D hx hx') (hD : ∀ a k, D a k → DK a k) : kCx hx' hm := by
  have hR := K.R.2.2
  have hP := K.P.2.2
  obtain ⟨⟨sx, sm⟩, c2, c4, c7, c8, c9, c11, c12⟩ := K
  have am := kAg.rf hm
  have hN : ∀ a k, ¬ DK a k → ¬ D a k := fun a k h z => h (hD a k z)
  have ag' : kAg DK hx hx' := ag.sub hD
  refine ⟨⟨sx.fr ag' ?_, sm⟩, c2.fr ag' am ?_ (fun _ _ _ z => z), c4.fr ag' am ?_ (fun _ _ _ z => z), c7.fr ag' am ?_ (fun _ _ _ z => z), c8.fr ag' am ?_ (fun _ _ _ z => z), c9.fr ag' am ?_ (fun _ _ _ z => z), ?_, fun r hr => ?_⟩
  any_goals (intro a k h1 h2; unfold DK at h2; omega)
  · rw [(ag'.1 0 14 (by unfold DK; omega)).1]
    exact c11
  · obtain ⟨⟨d1, d2, d3, d4⟩, ⟨e1, e2, e3⟩, f1, f2, f3, f4⟩ := c12 r hr
    have k1 := ag'.k (200 + 4 * r) (by rw [d1]; decide)
    have k2 := ag'.k (201 + 4 * r) (by rw [d2]; decide)
    have k3 := ag'.k (202 + 4 * r) (by rw [d3]; decide)
    refine ⟨⟨by rw [k1.1, d1], by rw [k2.1, d2], by rw [k3.1, d3], by rw [k3.2, d4]⟩, ⟨by rw [(ag'.1 28 r (by unfold DK; omega)).2.2, e1], by rw [(ag'.1 (200 + 4 * r) 3 (by unfold DK; omega)).2.2, e2], by rw [(ag'.1 (201 + 4 * r) 0 (by unfold DK; omega)).2.2, e3]⟩, by rw [(ag'.1 (200 + 4 * r) 0 (by unfold DK; omega)).1, f1], by rw [(ag'.1 (200 + 4 * r) 1 (by unfold DK; omega)).1]; exact f2, by rw [(ag'.1 (200 + 4 * r) 2 (by unfold DK; omega)).1]; exact f3, ?_⟩
    rw [(ag'.1 (201 + 4 * r) 1 (by unfold DK; omega)).1]
    obtain ⟨n, g1, g2, g3, g4, g5⟩ := f4
    exact ⟨n, g1, g2, g3, g4, fun k hk => by rw [(ag'.1 (202 + 4 * r) k (by unfold DK; omega)).1]; exact g5 k hk⟩
theorem RR.kCx {j : Nat} {hx hm : KH} (R : RR j hx hm) : kCx hx hm := by
  obtain ⟨s, c1, c2, c3, c4, c5, c6, c7, c8, c9, c10, ⟨c11, c11', -⟩, c12, c13, c14, c15, c16⟩ := R
  refine ⟨s, c2, c4, c7, c8, c9, c11, fun r hr => ?_⟩
  obtain ⟨a, b, c, d, e, f, -⟩ := c11' r hr
  exact ⟨a, b, c, d, e, f⟩
/-- the model's state, as its own calls read it -/
def MX (h : KH) : Prop := kSm h ∧ (mn h 0 8 ≤ 10 ∧ kI h 0 8 = nI (mn h 0 8)) ∧ (mn h 0 16 ≤ 60 ∧ kI h 0 16 = nI (mn h 0 16)) ∧
  (∀ p, p < mn h 0 8 → (1 ≤ mn h 6 p ∧ mn h 6 p ≤ 6) ∧ kI h 6 p = nI (mn h 6 p) ∧ ∀ k, k < mn h 6 p → mn h 7 (6 * p + k) < 14 ∧ kI h 7 (6 * p + k) = nI (mn h 7 (6 * p + k))) ∧
  (∀ r, r < mn h 0 16 → (mn h 12 r < 8 ∧ kI h 12 r = nI (mn h 12 r)) ∧ (mn h 13 r ≤ 50000 ∧ kI h 13 r = nI (mn h 13 r)) ∧ (1 ≤ mn h 14 r ∧ mn h 14 r ≤ 6) ∧ kI h 14 r = nI (mn h 14 r) ∧ ∀ k, k < mn h 14 r → mn h 15 (6 * r + k) < 15 ∧ kI h 15 (6 * r + k) = nI (mn h 15 (6 * r + k))) ∧
  (∀ r, r < mn h 0 16 → (kI h 16 r = 0 ∧ mn h 16 r = 0) ∨ kI h 16 r = 1 ∧ mn h 16 r = 1 ∧ (kI h 17 r = -1 ∨ ∃ q, q < mn h 0 8 ∧ kI h 17 r = nI q)) ∧
  (∀ a b, a < 15 → b < 15 → (kI h 5 (15 * a + b) = 0 ∧ mn h 5 (15 * a + b) = 0) ∨ kI h 5 (15 * a + b) = 1 ∧ mn h 5 (15 * a + b) = 1)
theorem mn_of {h : KH} {a k v : Nat} (e : kI h a k = nI v) (hv : v < 2147483648) : mn h a k = v := by
  unfold mn
  rw [e, nI_clamp hv]
/-- the corrections, class and model -/
def cCor (hx hm : KH) : Prop := ∀ r, r < mn hm 0 16 → (kI hx (200 + 4 * r) 4 = 0 ∧ kI hm 16 r = 0 ∨ kI hx (200 + 4 * r) 4 = 1 ∧ kI hm 16 r = 1 ∧ (kI hm 17 r = -1 ∨ ∃ q, q < mn hm 0 8 ∧ kI hm 17 r = nI q))
theorem kCx.MX {hx hm : KH} (K : kCx hx hm) (C : cCor hx hm) : MX hm := by
  have hR := K.R
  have hP := K.P
  obtain ⟨⟨sx, sm⟩, c2, c4, c7, c8, c9, c11, c12⟩ := K
  refine ⟨sm, ⟨hP.2.2, hP.2.1⟩, ⟨hR.2.2, hR.2.1⟩, fun p hp => ?_, fun r hr => ?_, fun r hr => ?_, fun a b ha hb => ?_⟩
  · obtain ⟨-, -, -, ⟨n, n1, n2, -, n4, n5⟩, -⟩ := c8.2.1 p hp
    rw [mn_of n4 (by omega)]
    refine ⟨⟨n1, n2⟩, n4, fun k hk => ?_⟩
    obtain ⟨v, v1, -, v3⟩ := n5 k hk
    rw [mn_of v3 (by omega)]
    exact ⟨v1, v3⟩
  · obtain ⟨-, -, -, ⟨g, g1, -, g3⟩, ⟨m, m1, -, m3⟩, n, n1, n2, -, n4, n5⟩ := c12 r hr
    rw [mn_of n4 (by omega), mn_of g3 (by omega), mn_of m3 (by omega)]
    refine ⟨⟨g1, g3⟩, ⟨m1, m3⟩, ⟨n1, n2⟩, n4, fun k hk => ?_⟩
    obtain ⟨v, v1, -, v3⟩ := n5 k hk
    rw [mn_of v3 (by omega)]
    exact ⟨v1, v3⟩
  · rcases C r hr with ⟨-, e⟩ | ⟨-, e, e'⟩
    · exact Or.inl ⟨e, by unfold mn; rw [e]; rfl⟩
    · exact Or.inr ⟨e, by unfold mn; rw [e]; rfl, e'⟩
  · obtain ⟨M, -, -, e⟩ := c7.1 a ha
    have e' := e b hb
    by_cases hb2 : M.testBit b = true
    · rw [if_pos hb2] at e'
      exact Or.inr ⟨e', by unfold mn; rw [e']; rfl⟩
    · rw [if_neg hb2] at e'
      exact Or.inl ⟨e', by unfold mn; rw [e']; rfl⟩
theorem RR.cCor {j : Nat} {hx hm : KH} (R : RR j hx hm) : cCor hx hm := fun r hr => by
  obtain ⟨a, b, c, d, e, f, g, -⟩ := R.2.2.2.2.2.2.2.2.2.2.2.1.2.1 r hr
  exact g
theorem RR.MX {j : Nat} {hx hm : KH} (R : RR j hx hm) : MX hm := R.kCx.MX R.cCor
theorem MX.fr {h h' : KH} {E : Nat → Nat → Prop} (M : MX h) (am : kAg E h h') (hE : ∀ a k, E a k → a = 18 ∨ a = 19 ∨ a = 0 ∧ k = 35) : MX h' := by
  have am' := am.sub hE
  have e0 : ∀ k, k ≠ 35 → kI h' 0 k = kI h 0 k := fun k hk => (am'.1 0 k (by omega)).1
  have eA : ∀ a, a = 5 ∨ a = 6 ∨ a = 7 ∨ 12 ≤ a ∧ a ≤ 17 → ∀ k, kI h' a k = kI h a k := fun a ha k => (am'.1 a k (by omega)).1
  obtain ⟨sm, m1, m2, m3, m4, m5, m6⟩ := M
  refine ⟨sm.fr am' (fun a k q z => by omega), ?_⟩
  rw [mn_cg1 (e0 8 (by decide)), mn_cg1 (e0 16 (by decide)), e0 8 (by decide), e0 16 (by decide), mn_cg (eA 5 (by omega)), mn_cg (eA 6 (by omega)), mn_cg (eA 7 (by omega)), mn_cg (eA 12 (by omega)), mn_cg (eA 13 (by omega)), mn_cg (eA 14 (by omega)), mn_cg (eA 15 (by omega)), mn_cg (eA 16 (by omega))]
  refine ⟨m1, m2, fun p hp => ?_, fun r hr => ?_, fun r hr => ?_, fun a b ha hb => ?_⟩
  · rw [eA 6 (by omega)]
    obtain ⟨q1, q2, q3⟩ := m3 p hp
    exact ⟨q1, q2, fun k hk => by rw [eA 7 (by omega)]; exact q3 k hk⟩
  · rw [eA 12 (by omega), eA 13 (by omega), eA 14 (by omega)]
    obtain ⟨q1, q2, q3, q4, q5⟩ := m4 r hr
    exact ⟨q1, q2, q3, q4, fun k hk => by rw [eA 15 (by omega)]; exact q5 k hk⟩
  · rw [eA 16 (by omega), eA 17 (by omega)]
    exact m5 r hr
  · rw [eA 5 (by omega)]
    exact m6 a b ha hb
