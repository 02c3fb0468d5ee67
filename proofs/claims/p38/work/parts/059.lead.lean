/-! all readings led back; all rows joined again -/
theorem kCx.leadL {hm : KH} : ∀ (f i : Nat) (hx : KH) (A : Nat → Option Nat), kCx hx hm → AS hx hm A → (∀ r, r < mn hm 0 16 → kI hx (200 + 4 * r) 4 = 0 ∨ kI hx (200 + 4 * r) 4 = 1) → i ≤ mn hm 0 16 → mn hm 0 16 < i + f → ∃ h' A', X9_leadAllBack_L2 f 0 (nI i) hx = kret () h' ∧ kAg DM hx h' ∧ AS h' hm A' ∧ (∀ r, r < i → A' r = A r) ∧ ∀ r, i ≤ r → r < mn hm 0 16 → A' r = if kI hx (200 + 4 * r) 4 = 0 then sBest (mn hm) r (mn hm 0 8) else A r := by
  intro f
  induction f with
  | zero => intro i hx A _ _ _ h1 h2; omega
  | succ f ih =>
    intro i hx A K As C h1 h2
    have hR := K.R
    have S := K.1.1
    unfold X9_leadAllBack_L2 X9_leadAllBack_b2
    rw [gI_k S.d0, hR.1]
    by_cases hi : mn hm 0 16 ≤ i
    · exact ⟨hx, A, by rw [kif_t (by rw [ka_le (by omega) (by omega)]; exact hi)], (kAg.rf hx).sub (fun _ _ z => z.elim), As, fun r _ => rfl, fun r q1 q2 => by omega⟩
    · rw [kif_f (by rw [ka_le (by omega) (by omega)]; exact hi), gN_k S.d0 S.r0_6, gAN_k S.d28 (by rw [S.n28]; omega) (by omega) (K.rd (show i < mn hm 0 16 by omega)).2.1.1, gI_k (K.rd (show i < mn hm 0 16 by omega)).1.1]
      by_cases g : kI hx (200 + 4 * i) 4 = 0
      · obtain ⟨h1', e1, e2, e3⟩ := K.move As (r := i) (by omega) (o := sBest (mn hm) i (mn hm 0 8)) (fun p e => (sBest_lt _ _ e).1)
        have K1 := K.fr e2 DM.dk
        have eC : ∀ r, kI h1' (200 + 4 * r) 4 = kI hx (200 + 4 * r) 4 := fun r => (e2.1 _ _ (fun z => by unfold DM at z; omega)).1
        rw [kif_t g, kV_k S.d0, K.byText (by omega), kb_ret, kV_k S.d0, e1, kb_ret]
        unfold X9_leadAllBack_b34
        rw [nI_1]
        obtain ⟨h', A', f1, f2, f3, f4, f5⟩ := ih (i + 1) h1' _ K1 e3 (fun r hr => by rw [eC]; exact C r hr) (by omega) (by omega)
        refine ⟨h', A', f1, e2.trans f2 (fun j k q => q) (fun j k q => q), f3, fun r hr => ?_, fun r q1 q2 => ?_⟩
        · rw [f4 r (by omega)]
          unfold uP
          rw [if_neg (by omega)]
        · by_cases hri : r = i
          · subst hri
            rw [f4 r (by omega), if_pos g]
            unfold uP
            rw [if_pos rfl]
          · rw [f5 r (by omega) q2, eC]
            unfold uP
            rw [if_neg hri]
      · rw [kif_f g]
        unfold X9_leadAllBack_b34
        rw [nI_1]
        obtain ⟨h', A', f1, f2, f3, f4, f5⟩ := ih (i + 1) hx A K As C (by omega) (by omega)
        refine ⟨h', A', f1, f2, f3, fun r hr => f4 r (by omega), fun r q1 q2 => ?_⟩
        by_cases hri : r = i
        · subst hri
          rw [f4 r (by omega), if_neg g]
        · exact f5 r (by omega) q2
theorem kCx.lead {hx hm : KH} {A : Nat → Option Nat} (K : kCx hx hm) (As : AS hx hm A) (C : ∀ r, r < mn hm 0 16 → kI hx (200 + 4 * r) 4 = 0 ∨ kI hx (200 + 4 * r) 4 = 1) : ∃ h' A', f_X9_leadAllBack 0 hx = kret () h' ∧ kAg DM hx h' ∧ AS h' hm A' ∧ ∀ r, r < mn hm 0 16 → A' r = if kI hx (200 + 4 * r) 4 = 0 then sBest (mn hm) r (mn hm 0 8) else A r := by
  obtain ⟨h', A', f1, f2, f3, -, f5⟩ := kCx.leadL kF 0 hx A K As C (by omega) (by have := K.R.2.2; unfold kF; omega)
  exact ⟨h', A', f1, f2, f3, fun r hr => f5 r (by omega) hr⟩
theorem AS.cong {hx hm : KH} {A B : Nat → Option Nat} (As : AS hx hm A) (e : ∀ r, r < mn hm 0 16 → A r = B r) : AS hx hm B := by
  refine ⟨fun r hr => by rw [← e r hr]; exact As.1 r hr, fun p hp => ?_⟩
  obtain ⟨l, l1, l2, l3, l4⟩ := As.2 p hp
  exact ⟨l, l1, fun r hr => by rw [← e r hr]; exact l2 r hr, l3, l4⟩
/-- the rows without their begins -/
def AR (hx hm : KH) (A : Nat → Option Nat) : Prop := (∀ r, r < mn hm 0 16 → kR hx (200 + 4 * r) 5 = pAd (A r) ∧ ∀ p, A r = some p → p < mn hm 0 8) ∧ ∀ p, p < mn hm 0 8 → ∃ l, LOK hm l ∧ (∀ r, r < mn hm 0 16 → (A r = some p ↔ ∃ k, k < l.length ∧ l.getD k 0 = r)) ∧ PRw hx (104 + 8 * p) l
theorem AS.ar {hx hm : KH} {A : Nat → Option Nat} (As : AS hx hm A) : AR hx hm A := ⟨As.1, fun p hp => by
  obtain ⟨l, l1, l2, l3, -⟩ := As.2 p hp
  exact ⟨l, l1, l2, l3⟩⟩
theorem LOK.fr {hm hm' : KH} {l : List Nat} (L : LOK hm l) (e1 : kI hm' 0 16 = kI hm 0 16) (e2 : ∀ k, kI hm' 13 k = kI hm 13 k) : LOK hm' l := by
  obtain ⟨l1, l2⟩ := L
  refine ⟨fun k hk => by rw [mn_cg1 e1]; exact l1 k hk, fun i k q1 q2 => ?_⟩
  have := l2 i k q1 q2
  unfold sBef at this ⊢
  rw [mn_cg e2]
  exact this
theorem AR.fr {hx hm hx' hm' : KH} {A : Nat → Option Nat} {D E : Nat → Nat → Prop} (As : AR hx hm A) (hP : mn hm 0 8 ≤ 10) (hR : mn hm 0 16 ≤ 60) (ag : kAg D hx hx') (am : kAg E hm hm') (hD : ∀ i k, (100 ≤ i ∧ i < 180 ∧ (i % 8 = 0 ∧ k = 2 ∨ i % 8 = 1)) ∨ (200 ≤ i ∧ i < 440 ∧ i % 4 = 0 ∧ k = 5) → ¬ D i k) (hE : ∀ i k, i = 0 ∧ (k = 8 ∨ k = 16) ∨ i = 13 → ¬ E i k) : AR hx' hm' A := by
  have e16 := (am.1 0 16 (hE 0 16 (by omega))).1
  have e8 := (am.1 0 8 (hE 0 8 (by omega))).1
  refine ⟨fun r hr => ?_, fun p hp => ?_⟩
  · rw [mn_cg1 e16] at hr
    rw [mn_cg1 e8, (ag.1 _ _ (hD (200 + 4 * r) 5 (by omega))).2.2]
    exact As.1 r hr
  · rw [mn_cg1 e8] at hp
    obtain ⟨l, l1, l2, l3⟩ := As.2 p hp
    exact ⟨l, l1.fr e16 (fun k => (am.1 13 k (hE 13 k (by omega))).1), fun r hr => by rw [mn_cg1 e16] at hr; exact l2 r hr, l3.fr ag (hD _ _ (by omega)) (fun k => hD _ _ (by omega))⟩
theorem AS.fr {hx hm hx' hm' : KH} {A : Nat → Option Nat} {D E : Nat → Nat → Prop} (As : AS hx hm A) (hP : mn hm 0 8 ≤ 10) (hR : mn hm 0 16 ≤ 60) (ag : kAg D hx hx') (am : kAg E hm hm') (hD : ∀ i k, DM i k → ¬ D i k) (hE : ∀ i k, i = 0 ∧ (k = 8 ∨ k = 16 ∨ k = 1) ∨ i = 13 ∨ i = 12 ∨ i = 2 → ¬ E i k) : AS hx' hm' A := by
  have e16 := (am.1 0 16 (hE 0 16 (by omega))).1
  have e8 := (am.1 0 8 (hE 0 8 (by omega))).1
  refine ⟨fun r hr => ?_, fun p hp => ?_⟩
  · rw [mn_cg1 e16] at hr
    rw [mn_cg1 e8, (ag.1 _ _ (hD (200 + 4 * r) 5 (by unfold DM; omega))).2.2]
    exact As.1 r hr
  · rw [mn_cg1 e8] at hp
    obtain ⟨l, l1, l2, l3, l4⟩ := As.2 p hp
    refine ⟨l, l1.fr e16 (fun k => (am.1 13 k (hE 13 k (by omega))).1), fun r hr => by rw [mn_cg1 e16] at hr; exact l2 r hr, l3.fr ag (hD _ _ (by unfold DM; omega)) (fun k => hD _ _ (by unfold DM; omega)), fun k hk => ?_⟩
    rw [(ag.1 _ _ (hD (104 + 8 * p + 2) k (by unfold DM; omega))).1, sBegAt_cg (am.1 0 1 (hE 0 1 (by omega))).1 (fun k => (am.1 2 k (hE 2 k (by omega))).1) (fun k => (am.1 12 k (hE 12 k (by omega))).1) (fun k => (am.1 13 k (hE 13 k (by omega))).1)]
    exact l4 k hk
theorem kCx.jaL {hm : KH} {A : Nat → Option Nat} : ∀ (f i : Nat) (hx : KH), kCx hx hm → AR hx hm A → (∀ p, p < i → p < mn hm 0 8 → ∀ l, LOK hm l → (∀ r, r < mn hm 0 16 → (A r = some p ↔ ∃ k, k < l.length ∧ l.getD k 0 = r)) → PRw hx (104 + 8 * p) l → PBe hx hm (104 + 8 * p) l) → i ≤ mn hm 0 8 → mn hm 0 8 < i + f → ∃ h', X9_joinAllAgain_L2 f 0 (nI i) hx = kret () h' ∧ kAg (fun i k => 100 ≤ i ∧ i < 180 ∧ i % 8 = 2) hx h' ∧ AR h' hm A ∧ (∀ p, p < mn hm 0 8 → ∀ l, LOK hm l → (∀ r, r < mn hm 0 16 → (A r = some p ↔ ∃ k, k < l.length ∧ l.getD k 0 = r)) → PRw h' (104 + 8 * p) l → PBe h' hm (104 + 8 * p) l) := by
  intro f
  induction f with
  | zero => intro i hx _ _ _ h1 h2; omega
  | succ f ih =>
    intro i hx K As B h1 h2
    have hP := K.P
    have hR := K.R
    have S := K.1.1
    unfold X9_joinAllAgain_L2 X9_joinAllAgain_b2
    rw [gI_k S.d0, hP.1]
    by_cases hi : mn hm 0 8 ≤ i
    · exact ⟨hx, by rw [kif_t (by rw [ka_le (by omega) (by omega)]; exact hi)], (kAg.rf hx).sub (fun _ _ z => z.elim), As, fun p hp => B p (by omega) hp⟩
    · have hip : i < mn hm 0 8 := by omega
      obtain ⟨P, hA, kp, kq⟩ := K.pst hip
      obtain ⟨l, l1, l2, l3⟩ := As.2 i hip
      obtain ⟨h4, e1, e2, e3⟩ := K.joinAll hA P l3 l1
      have e2' : kAg (fun i k => 100 ≤ i ∧ i < 180 ∧ i % 8 = 2) hx h4 := e2.sub (fun j k z => by omega)
      have K4 := K.fr e2' (fun j k z => by unfold DK; omega)
      have A4 : AR h4 hm A := As.fr hP.2.2 hR.2.2 e2' (kAg.rf hm) (fun j k z1 z2 => by omega) (fun j k z1 z2 => z2)
      rw [kif_f (by rw [ka_le (by omega) (by omega)]; exact hi), gN_k S.d0 S.r0_4, gAN_k S.d26 (by rw [S.n26]; omega) (by omega) (K.2.2.2.2.1.2.1 i hip).2.1.1, gN_k kp kq, gN_k S.d0 S.r0_0, kV_k P.1, e1, kb_ret, nI_1]
      obtain ⟨h', f1, f2, f3, f4⟩ := ih (i + 1) h4 K4 A4 (fun p hp1 hp2 l' m1 m2 m3 => by
        by_cases hpi : p = i
        · subst hpi
          -- both rows hold the same readings in the same order
          have hll : l' = l := by
            apply List.ext_getElem
            · have w1 := m3.2.1
              have w2 := (l3.fr e2 (fun z => by omega) (fun k z => by omega)).2.1
              exact nI_inj (w1.symm.trans w2) (by have := m3.1; omega) (by have := l3.1; omega)
            · intro k q1 q2
              have w1 := m3.2.2 k q1
              have w2 := (l3.fr e2 (fun z => by omega) (fun k z => by omega)).2.2 k q2
              rw [gD_get q1] at w1
              rw [gD_get q2] at w2
              have := w1.symm.trans w2
              simp only [Option.some.injEq] at this
              omega
          rw [hll]
          exact e3
        · refine (B p (by omega) hp2 l' m1 m2 ?_).fr e2 (fun k z => by omega)
          obtain ⟨v1, v2, v3⟩ := m3
          exact ⟨v1, ((e2.1 (104 + 8 * p) 2 (fun z => by omega)).1).symm.trans v2, fun k hk => ((e2.1 (104 + 8 * p + 1) k (fun z => by omega)).2.2).symm.trans (v3 k hk)⟩) (by omega) (by omega)
      exact ⟨h', f1, e2'.trans f2 (fun j k q => q) (fun j k q => q), f3, f4⟩
theorem kCx.joinAllAgain {hx hm : KH} {A : Nat → Option Nat} (K : kCx hx hm) (As : AR hx hm A) : ∃ h', f_X9_joinAllAgain 0 hx = kret () h' ∧ kAg (fun i k => 100 ≤ i ∧ i < 180 ∧ i % 8 = 2) hx h' ∧ AS h' hm A := by
  obtain ⟨h', f1, f2, f3, f4⟩ := kCx.jaL kF 0 hx K As (fun p hp => by omega) (by omega) (by have := K.P.2.2; unfold kF; omega)
  refine ⟨h', f1, f2, f3.1, fun p hp => ?_⟩
  obtain ⟨l, l1, l2, l3⟩ := f3.2 p hp
  exact ⟨l, l1, l2, l3, f4 p hp l l1 l2 l3⟩
/-- what the context reads, apart from signs, distances, pause -/
def FX (a k : Nat) : Prop := (a = 0 ∧ k < 12 ∨ a = 1 ∧ k < 3 ∨ a = 2 ∨ a = 11 ∨ a = 22 ∧ k = 0 ∨ a = 24 ∧ k = 0 ∨ a = 33 ∧ k < 2) ∨ (100 ≤ a ∧ a < 180 ∧ a % 8 ≠ 7 ∧ ¬ (a % 8 = 4 ∧ k = 4) ∧ ¬ (a % 8 = 0 ∧ k = 2) ∧ a % 8 ≠ 1 ∧ a % 8 ≠ 2 ∨ a = 26 ∨ a = 0 ∧ k = 13) ∨ a = 27 ∨ (200 ≤ a ∧ a < 440 ∧ (a % 4 = 0 ∧ k < 4 ∨ a % 4 = 1 ∨ a % 4 = 2) ∨ a = 28 ∨ a = 0 ∧ k = 14)
def FM (a k : Nat) : Prop := a = 6 ∨ a = 7 ∨ a = 8 ∨ 12 ≤ a ∧ a ≤ 15 ∨ a = 0 ∧ k ≠ 35 ∧ k ≠ 1 ∧ k ≠ 0
theorem kCx.fr2 {hx hm hx' hm' : KH} {D E : Nat → Nat → Prop} (K : kCx hx hm) (ag : kAg D hx hx') (am : kAg E hm hm') (cA : cAli hx' hm') (cD : cDis hx' hm') (cP : cPau hx' hm') (hD : ∀ a k, FX a k → ¬ D a k) (hE : ∀ a k, FM a k → ¬ E a k) : kCx hx' hm' := by
  have hR := K.R.2.2
  have hP := K.P.2.2
  obtain ⟨⟨sx, sm⟩, -, -, -, c8, c9, c11, c12⟩ := K
  have e16 := (am.1 0 16 (hE 0 16 (by unfold FM; omega))).1
  have hR' : ∀ a k, 200 ≤ a ∧ a < 440 ∧ (a % 4 = 0 ∧ k < 4 ∨ a % 4 = 1 ∨ a % 4 = 2) ∨ a = 28 ∨ a = 0 ∧ k = 14 → ¬ D a k := fun a k h => hD a k (Or.inr (Or.inr (Or.inr h)))
  refine ⟨⟨sx.fr ag (fun a k h => hD a k (Or.inl h)), sm.fr am (fun a k h => hE a k (by unfold FM; omega))⟩, cP, cD, cA, c8.fr ag am (fun a k h => hD a k (Or.inr (Or.inl h))) (fun a k h => hE a k (by unfold FM; omega)), c9.fr ag am (fun a k h => hD a k (Or.inr (Or.inr (Or.inl h)))) (fun a k h => hE a k (by unfold FM; omega)), ?_, fun r hr => ?_⟩
  · rw [(ag.1 0 14 (hR' 0 14 (by omega))).1, e16]
    exact c11
  · rw [mn_cg1 e16] at hr
    obtain ⟨⟨d1, d2, d3, d4⟩, ⟨e1, e2, e3⟩, f1, f2, f3, f4⟩ := c12 r hr
    have k1 := ag.k (200 + 4 * r) (by rw [d1]; decide)
    have k2 := ag.k (201 + 4 * r) (by rw [d2]; decide)
    have k3 := ag.k (202 + 4 * r) (by rw [d3]; decide)
    refine ⟨⟨by rw [k1.1, d1], by rw [k2.1, d2], by rw [k3.1, d3], by rw [k3.2, d4]⟩, ⟨by rw [(ag.1 28 r (hR' 28 r (by omega))).2.2, e1], by rw [(ag.1 (200 + 4 * r) 3 (hR' _ _ (by omega))).2.2, e2], by rw [(ag.1 (201 + 4 * r) 0 (hR' _ _ (by omega))).2.2, e3]⟩, by rw [(ag.1 (200 + 4 * r) 0 (hR' _ _ (by omega))).1, f1], by rw [(ag.1 (200 + 4 * r) 1 (hR' _ _ (by omega))).1, (am.1 12 r (hE _ _ (by unfold FM; omega))).1]; exact f2, by rw [(ag.1 (200 + 4 * r) 2 (hR' _ _ (by omega))).1, (am.1 13 r (hE _ _ (by unfold FM; omega))).1]; exact f3, ?_⟩
    rw [(ag.1 (201 + 4 * r) 1 (hR' _ _ (by omega))).1, (am.1 14 r (hE _ _ (by unfold FM; omega))).1]
    obtain ⟨n, g1, g2, g3, g4, g5⟩ := f4
    exact ⟨n, g1, g2, g3, g4, fun k hk => by rw [(ag.1 (202 + 4 * r) k (hR' _ _ (by omega))).1, (am.1 15 _ (hE _ _ (by unfold FM; omega))).1]; exact g5 k hk⟩
