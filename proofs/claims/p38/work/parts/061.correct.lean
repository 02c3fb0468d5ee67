/-! the relation after rows were moved -/
theorem rr_fin {j : Nat} {hx hm h2 hm1 : KH} {D E : Nat → Nat → Prop} (R : RR j hx hm) (K2 : kCx h2 hm1) (C2 : cCor h2 hm1) (f5 : AS h2 hm1 (sPF hm1)) (c3 : cLen h2 hm1) (ag : kAg D hx h2) (am : kAg E hm hm1) (hdn : ∀ a, ¬ D (a + 1000000) 0)
    (hD : ∀ a k, a = 0 ∧ (k = 12 ∨ k = 15 ∨ k = 16) ∨ a = 21 ∨ a = 23 ∨ a = 22 ∧ k = 1 ∨ (a % 8 = 7 ∧ 100 ≤ a ∧ a < 180 ∨ 1000 ≤ a ∧ a < 2000 ∨ a % 8 = 4 ∧ 100 ≤ a ∧ a < 180 ∧ k = 4) ∨ a = 31 ∨ a = 32 ∨ a = 35 ∨ 500 ≤ a ∧ a < 508 ∨ a = 29 ∨ 600 ≤ a ∧ a < 640 ∨ a = 30 → ¬ D a k)
    (hE : ∀ a k, a = 0 ∧ (k = 0 ∨ k = 5 ∨ k = 8 ∨ k = 12 ∨ k = 16 ∨ k = 27 ∨ k = 31) ∨ a = 3 ∨ a = 4 ∨ a = 9 ∨ a = 10 ∨ a = 11 ∨ 20 ≤ a ∧ a ≤ 27 → ¬ E a k) (hZ : ∀ r, mn hm 0 16 ≤ r → ¬ E 16 r) : RR (j + 1) h2 hm1 := by
  have R1 := R.up
  have hP := R1.P
  have hnew := cRea_of K2 (fun r h1 h2 => by
    rw [mn_cg1 (am.1 0 16 (hE 0 16 (by omega))).1] at h1
    rw [(am.1 16 r (hZ r h1)).1]
    exact R.zer r h1 h2) C2 f5
  obtain ⟨-, c1, -, -, -, c5, c6, -, -, -, c10, -, -, c13, c14, c15, c16⟩ := R1
  obtain ⟨k0, k2, k4, k7, k8, k9, -⟩ := K2
  exact ⟨k0, c1.fr ag am (fun a k h => hD a k (by omega)) (fun a k h => hE a k (by omega)), k2, c3, k4, c5.fr ag am (fun a k h => hD a k (by omega)) (fun a k h => hE a k (by omega)), c6.fr ag am (fun a k h => hD a k (by omega)) (fun a k h => hE a k (by omega)), k7, k8, k9, c10.fr hP ag am (fun a k h => hD a k (by omega)) (fun a k h => hE a k (by omega)), hnew.1, hnew.2, c13.fr ag am (fun a k h => hD a k (by omega)) (fun a k h => hE a k (by omega)), c14.fr ag am (fun a k h => hD a k (by omega)) (fun a k h => hE a k (by omega)), c15.fr ag am (fun a k h => hD a k (by omega)) (fun a k h => hE a k (by omega)), c16.fr (ag.nf hdn) am (fun a k h => hE a k (by omega)) (Nat.le_refl _)⟩
theorem sPF_cgr {h h' : KH} {r : Nat} (e8 : kI h' 0 8 = kI h 0 8) (e : ∀ a, a = 5 ∨ a = 6 ∨ a = 7 ∨ a = 14 ∨ a = 15 → ∀ k, kI h' a k = kI h a k) (e16 : kI h' 16 r = kI h 16 r) (e17 : kI h' 17 r = kI h 17 r) : sPF h' r = sPF h r := by
  unfold sPF
  rw [mn_cg1 e16, mn_cg1 e17, e17, mn_cg1 e8, sBest_cg (mn_cg (e 5 (by omega))) (mn_cg (e 6 (by omega))) (mn_cg (e 7 (by omega))) (mn_cg (e 14 (by omega))) (mn_cg (e 15 (by omega)))]
/-- correct -/
theorem o_correct : OPI (fun a b c h => f_X9_correct 0 a b h) (fun a b c h => f_X10_correct 0 a b h) (mp1 3) := by
  intro j hx hm a b c hj R
  have S := R.1.1.X 0
  have T := R.1.2
  have RX := R.X 0
  have K := RX.kCx
  have M := R.MX
  have hP := R.P
  have hPc := R.cnt
  have hR := M.2.2.1.1
  have RT := RX.thr 0
  have T1 := T.thr 0
  rcases ka_below a (mn hm 0 16) (by omega) with ⟨r, hr, rfl, q1, q2⟩ | hq
  · have hgood : ∀ (o : Option Nat), (∀ p, o = some p → p < mn hm 0 8) → b = cOf o → ¬ b < -1 → ¬ (nI (mn hm 0 8) - 1) < b → (f_X9_correct 0 (nI r) b (sX hx 0) = X9_correct_b20 0 (200 + 4 * r) (pAd o) (sX hx 0)) → OP1 (fun a b c h => f_X9_correct 0 a b h) (fun a b c h => f_X10_correct 0 a b h) (mp1 3) j hx hm (nI r) b c := by
      intro o ho eb g1 g2 hcall
      have ag1 : kAg (fun i k => i = 200 + 4 * r ∧ k = 4) (sX hx 0) (sI (sX hx 0) (200 + 4 * r) 4 1) := kAg.I _ _ _ _
      have am : kAg (fun i k => i = 16 ∧ k = r ∨ i = 17 ∧ k = r) (sI hm 0 35 0) (sI (sI (sI hm 0 35 0) 16 r 1) 17 r b) := (kAg.I (sI hm 0 35 0) 16 r 1).trans (kAg.I _ 17 r b) (fun i k q z => q (Or.inl z)) (fun i k q z => q (Or.inr z))
      have KT := RT.kCx
      have cD := KT.2.2.1.fr ag1 am (fun a k z1 z2 => by omega) (fun a k z1 z2 => by omega)
      have cP := KT.2.1.fr ag1 am (fun a k z1 z2 => by omega) (fun a k z1 z2 => by omega)
      have cA := KT.2.2.2.1.fr ag1 am (fun a k z1 z2 => by omega) (fun a k z1 z2 => by omega)
      have K1 := KT.fr2 ag1 am cA cD cP (fun a k z1 z2 => by unfold FX at z1; omega) (fun a k z1 z2 => by unfold FM at z1; omega)
      have A0 := RT.AS.fr hP hR ag1 am (fun a k z1 z2 => by unfold DM at z1; omega) (fun a k z1 z2 => by omega)
      obtain ⟨h2, f1, f2, f3⟩ := K1.move A0 (r := r) hr (o := o) ho
      have K2 := K1.fr f2 DM.dk
      have e17 : kI (sI (sI (sI hm 0 35 0) 16 r 1) 17 r b) 17 r = b := by rw [kI_sI, if_pos ⟨rfl, rfl⟩]
      have e16 : kI (sI (sI (sI hm 0 35 0) 16 r 1) 17 r b) 16 r = 1 := by rw [kI_sI, if_neg (by omega), kI_sI, if_pos ⟨rfl, rfl⟩]
      have C2 : cCor h2 (sI (sI (sI hm 0 35 0) 16 r 1) 17 r b) := fun s hs => by
        rw [(f2.1 (200 + 4 * s) 4 (fun z => by unfold DM at z; omega)).1]
        by_cases hsr : s = r
        · subst hsr
          rw [kI_sI, if_pos ⟨rfl, rfl⟩, e16, e17, eb]
          refine Or.inr ⟨rfl, rfl, ?_⟩
          cases o with
          | none => exact Or.inl rfl
          | some p => exact Or.inr ⟨p, ho p rfl, rfl⟩
        · rw [(ag1.1 (200 + 4 * s) 4 (fun z => by omega)).1, (am.1 16 s (fun z => by omega)).1, (am.1 17 s (fun z => by omega)).1, mn_cg1 (am.1 0 8 (fun z => by omega)).1]
          exact RT.cCor s hs
      have f5 := f3.cong (B := sPF (sI (sI (sI hm 0 35 0) 16 r 1) 17 r b)) (fun s hs => by
        unfold uP
        by_cases hsr : s = r
        · rw [if_pos hsr, hsr]
          have hb : (if kI (sI (sI (sI hm 0 35 0) 16 r 1) 17 r b) 17 r = -1 then none else some (mn (sI (sI (sI hm 0 35 0) 16 r 1) 17 r b) 17 r)) = o := by
            unfold mn
            rw [e17, eb]
            cases o with
            | none => rfl
            | some p =>
              have hp := ho p rfl
              have hn : ¬ nI p = -1 := by
                rw [ka_n1 (by omega)]
                exact fun z => z
              show (if nI p = -1 then none else some (nI p).toNatClampNeg) = some p
              rw [if_neg hn, nI_clamp (by omega)]
          unfold sPF
          rw [if_neg (by unfold mn; rw [e16]; decide), hb]
        · rw [if_neg hsr]
          exact (sPF_cgr (am.1 0 8 (fun z => by omega)).1 (fun a ha k => (am.1 a k (fun z => by omega)).1) (am.1 16 s (fun z => by omega)).1 (am.1 17 s (fun z => by omega)).1).symm)
      have ag : kAg (fun i k => i = 200 + 4 * r ∧ k = 4 ∨ ((100 ≤ i ∧ i < 180 ∧ (i % 8 = 0 ∧ k = 2 ∨ i % 8 = 1 ∨ i % 8 = 2)) ∨ (200 ≤ i ∧ i < 440 ∧ i % 4 = 0 ∧ k = 5))) (sX hx 0) h2 := ag1.trans f2 (fun i k q z => q (Or.inl z)) (fun i k q z => q (Or.inr z))
      refine op_ok (hx1 := h2) (hm1 := sI (sI (sI hm 0 35 0) 16 r 1) 17 r b) 0 (cOf (sPF hm r)) ?_ ?_ (by rw [(am.1 0 35 (fun z => by omega)).1, kI_sI, if_pos ⟨rfl, rfl⟩]) ?_
      · show f_X9_correct 0 (nI r) b (sX hx 0) = _
        rw [hcall]
        unfold X9_correct_b20
        rw [gR_k (K.rd hr).1.1, RX.plateR hr, K.numberOf (fun p e => M.pf_lt hr e), kb_ret, pI_k (K.rd hr).1.1, kV_k K1.1.1.d0, f1, kb_ret]
      · show f_X10_correct 0 (nI r) b hm = _
        unfold f_X10_correct
        rw [kV_k T.d0, M.isReading q1 q2, kb_ret, kif_f (by decide), gI_k T.d0, hPc.2.1, in_t g1 g2, kb_ret, kif_f (by decide)]
        unfold X10_correct_b27
        rw [kif_f (by decide)]
        unfold X10_correct_b38
        have T2 : kSm (sI (sI hm 0 35 0) 16 r 1) := T1.fr (kAg.I _ 16 r 1) (fun a k q z => by omega)
        rw [kV_k T.d0, can_0 T, kb_ret, kif_f (by decide), kV_k T1.d0, (M.thr 0).plateFor hr, kb_ret, sPF_thr, gN_k T1.d0 T1.r21, pAZ_k T1.d16 (by rw [T1.n16]; omega) (by omega) (Or.inr rfl), gN_k T2.d0 T2.r22, pAI_k T2.d17 (by rw [T2.n17]; omega) (by omega)]
      · exact rr_fin RT K2 C2 f5 (RT.2.2.2.1.fr ag am (fun a k z1 z2 => by omega) (fun a k z1 z2 => by omega)) ag am (fun a z => by omega) (fun a k z1 z2 => by omega) (fun a k z1 z2 => by omega) (fun s h1 z => by have h2 : mn hm 0 16 ≤ s := h1; omega)
    have h1 : ∀ p, p < mn hm 0 8 → ¬ nI p = -1 := fun p hp => by
      rw [ka_n1 (by omega)]
      exact fun z => z
    by_cases hb1 : b = -1
    · have hPz : ¬ (nI (mn hm 0 8) - 1) < -1 := by
        by_cases h0 : mn hm 0 8 = 0
        · rw [h0]
          decide
        · rw [ka_pred (by omega), Int32.lt_iff_toInt_lt, nI_toInt (by omega), show (-1 : Int32).toInt = -1 from by decide]
          omega
      refine hgood none (fun p e => by cases e) hb1 (by rw [hb1]; decide) (by rw [hb1]; exact hPz) ?_
      unfold f_X9_correct
      rw [kV_k S.d0, K.reading hr q1 q2, kb_ret, kif_t hb1]
      rfl
    · rcases ka_below b (mn hm 0 8) (by omega) with ⟨p, hp, rfl, q3, q4⟩ | hq3
      · refine hgood (some p) (fun p' e => by cases e; exact hp) rfl (fun z => by
          rw [Int32.lt_iff_toInt_lt, nI_toInt (by omega), show (-1 : Int32).toInt = -1 from by decide] at z
          omega) q4 ?_
        unfold f_X9_correct
        rw [kV_k S.d0, K.reading hr q1 q2, kb_ret, kif_f hb1, kV_k S.d0, RX.plate hp q3 q4, kb_ret]
        rfl
      · have hq4 : b < -1 ∨ (nI (mn hm 0 8) - 1) < b := by
          rcases hq3 with z | z
          · left
            have hne : b.toInt ≠ (-1 : Int32).toInt := fun w => hb1 (Int32.toInt_inj.1 w)
            rw [Int32.lt_iff_toInt_lt] at z ⊢
            rw [show (-1 : Int32).toInt = -1 from by decide] at hne ⊢
            rw [show (0 : Int32).toInt = 0 from by decide] at z
            omega
          · exact Or.inr z
        refine op_no R 3 1 0 rfl (by decide) ?_ ?_
        · show f_X9_correct 0 (nI r) b (sX hx 0) = _
          unfold f_X9_correct
          rw [kV_k S.d0, K.reading hr q1 q2, kb_ret, kif_f hb1, kV_k S.d0, RX.plateNo hq3]
          rfl
        · show f_X10_correct 0 (nI r) b hm = _
          unfold f_X10_correct
          rw [kV_k T.d0, M.isReading q1 q2, kb_ret, kif_f (by decide), gI_k T.d0, hPc.2.1, in_f hq4, kb_ret, kif_t rfl]
          unfold X10_correct_b26 X10_correct_b27 X10_correct_b38
          rw [kif_t rfl, kV_k T.d0, can_n T (show (1 : Int32) ≠ 0 by decide), kb_ret, kif_t rfl]
  · refine op_no R 3 1 0 rfl (by decide) ?_ ?_
    · show f_X9_correct 0 a b (sX hx 0) = _
      unfold f_X9_correct
      rw [kV_k S.d0, K.readingNo hq]
      rfl
    · show f_X10_correct 0 a b hm = _
      unfold f_X10_correct
      rw [kV_k T.d0, M.isReadingNo hq, kb_ret, kif_t rfl]
      unfold X10_correct_b26 X10_correct_b27 X10_correct_b38
      rw [kif_t rfl, kV_k T.d0, can_n T (show (1 : Int32) ≠ 0 by decide), kb_ret, kif_t rfl]
/-- uncorrect -/
theorem o_uncorrect : OPI (fun a b c h => f_X9_uncorrect 0 a h) (fun a b c h => f_X10_uncorrect 0 a h) (mp2 3 2) := by
  intro j hx hm a b c hj R
  have S := R.1.1.X 0
  have T := R.1.2
  have RX := R.X 0
  have K := RX.kCx
  have M := R.MX
  have hP := R.P
  have hR := M.2.2.1.1
  have RT := RX.thr 0
  have T1 := T.thr 0
  rcases ka_below a (mn hm 0 16) (by omega) with ⟨r, hr, rfl, q1, q2⟩ | hq
  · rcases RX.cCor r hr with ⟨z1, z2⟩ | ⟨z1, z2, z3⟩
    · refine op_no R 2 2 0 rfl (by decide) ?_ ?_
      · show f_X9_uncorrect 0 (nI r) (sX hx 0) = _
        unfold f_X9_uncorrect
        rw [kV_k S.d0, K.reading hr q1 q2, kb_ret, gI_k (K.rd hr).1.1, kif_t z1]
      · show f_X10_uncorrect 0 (nI r) hm = _
        unfold f_X10_uncorrect
        rw [kV_k T.d0, M.isReading q1 q2, kb_ret, kif_f (by decide), gN_k T.d0 T.r21, gAI_k T.d16 (by rw [T.n16]; omega) (by omega), kif_t z2]
        unfold X10_uncorrect_b27
        rw [kV_k T.d0, can_n T (show (2 : Int32) ≠ 0 by decide), kb_ret, kif_t rfl]
    · have ag1 : kAg (fun i k => i = 200 + 4 * r ∧ k = 4) (sX hx 0) (sI (sX hx 0) (200 + 4 * r) 4 0) := kAg.I _ _ _ _
      have am : kAg (fun i k => i = 16 ∧ k = r) (sI hm 0 35 0) (sI (sI hm 0 35 0) 16 r 0) := kAg.I _ _ _ _
      have KT := RT.kCx
      have cD := KT.2.2.1.fr ag1 am (fun a k z1 z2 => by omega) (fun a k z1 z2 => by omega)
      have cP := KT.2.1.fr ag1 am (fun a k z1 z2 => by omega) (fun a k z1 z2 => by omega)
      have cA := KT.2.2.2.1.fr ag1 am (fun a k z1 z2 => by omega) (fun a k z1 z2 => by omega)
      have K1 := KT.fr2 ag1 am cA cD cP (fun a k z1 z2 => by unfold FX at z1; omega) (fun a k z1 z2 => by unfold FM at z1; omega)
      have A0 := RT.AS.fr hP hR ag1 am (fun a k z1 z2 => by unfold DM at z1; omega) (fun a k z1 z2 => by omega)
      obtain ⟨h2, f1, f2, f3⟩ := K1.move A0 (r := r) hr (o := sBest (mn (sI (sI hm 0 35 0) 16 r 0)) r (mn (sI (sI hm 0 35 0) 16 r 0) 0 8)) (fun p e => (sBest_lt _ _ e).1)
      have K2 := K1.fr f2 DM.dk
      have e16 : kI (sI (sI hm 0 35 0) 16 r 0) 16 r = 0 := by rw [kI_sI, if_pos ⟨rfl, rfl⟩]
      have C2 : cCor h2 (sI (sI hm 0 35 0) 16 r 0) := fun s hs => by
        rw [(f2.1 (200 + 4 * s) 4 (fun z => by unfold DM at z; omega)).1]
        by_cases hsr : s = r
        · subst hsr
          rw [kI_sI, if_pos ⟨rfl, rfl⟩, e16]
          exact Or.inl ⟨rfl, rfl⟩
        · rw [(ag1.1 (200 + 4 * s) 4 (fun z => by omega)).1, (am.1 16 s (fun z => by omega)).1, (am.1 17 s (fun z => by omega)).1, mn_cg1 (am.1 0 8 (fun z => by omega)).1]
          exact RT.cCor s hs
      have epf : sPF (sI (sI hm 0 35 0) 16 r 0) r = sBest (mn (sI (sI hm 0 35 0) 16 r 0)) r (mn (sI (sI hm 0 35 0) 16 r 0) 0 8) := by
        unfold sPF
        rw [if_pos (by unfold mn; rw [e16]; rfl)]
      have f5 := f3.cong (B := sPF (sI (sI hm 0 35 0) 16 r 0)) (fun s hs => by
        unfold uP
        by_cases hsr : s = r
        · rw [if_pos hsr, hsr, epf]
        · rw [if_neg hsr]
          exact (sPF_cgr (am.1 0 8 (fun z => by omega)).1 (fun a ha k => (am.1 a k (fun z => by omega)).1) (am.1 16 s (fun z => by omega)).1 (am.1 17 s (fun z => by omega)).1).symm)
      have ag : kAg (fun i k => i = 200 + 4 * r ∧ k = 4 ∨ ((100 ≤ i ∧ i < 180 ∧ (i % 8 = 0 ∧ k = 2 ∨ i % 8 = 1 ∨ i % 8 = 2)) ∨ (200 ≤ i ∧ i < 440 ∧ i % 4 = 0 ∧ k = 5))) (sX hx 0) h2 := ag1.trans f2 (fun i k q z => q (Or.inl z)) (fun i k q z => q (Or.inr z))
      have Rn := rr_fin RT K2 C2 f5 (RT.2.2.2.1.fr ag am (fun a k z1 z2 => by omega) (fun a k z1 z2 => by omega)) ag am (fun a z => by omega) (fun a k z1 z2 => by omega) (fun a k z1 z2 => by omega) (fun s h1 z => by have h2 : mn hm 0 16 ≤ s := h1; omega)
      have Mn := Rn.MX
      refine op_ok (hx1 := h2) (hm1 := sI (sI hm 0 35 0) 16 r 0) 0 (cOf (sPF (sI (sI hm 0 35 0) 16 r 0) r)) ?_ ?_ (by rw [(am.1 0 35 (fun z => by omega)).1, kI_sI, if_pos ⟨rfl, rfl⟩]) Rn
      · show f_X9_uncorrect 0 (nI r) (sX hx 0) = _
        unfold f_X9_uncorrect
        rw [kV_k S.d0, K.reading hr q1 q2, kb_ret, gI_k (K.rd hr).1.1, z1, kif_f (by decide), pI_k (K.rd hr).1.1, kV_k K1.1.1.d0, K1.byText hr, kb_ret, kV_k K1.1.1.d0, f1, kb_ret, gR_k (K2.rd hr).1.1, Rn.plateR hr, K2.numberOf (fun p e => Mn.pf_lt hr e), kb_ret]
      · show f_X10_uncorrect 0 (nI r) hm = _
        have z2' : kI hm 16 r = 1 := z2
        unfold f_X10_uncorrect
        rw [kV_k T.d0, M.isReading q1 q2, kb_ret, kif_f (by decide), gN_k T.d0 T.r21, gAI_k T.d16 (by rw [T.n16]; omega) (by omega), z2', kif_f (by decide)]
        unfold X10_uncorrect_b27
        rw [kV_k T.d0, can_0 T, kb_ret, kif_f (by decide), gN_k T1.d0 T1.r21, pAZ_k T1.d16 (by rw [T1.n16]; omega) (by omega) (Or.inl rfl), kV_k Mn.1.d0, Mn.plateFor hr, kb_ret]
  · refine op_no R 3 1 0 rfl (by decide) ?_ ?_
    · show f_X9_uncorrect 0 a (sX hx 0) = _
      unfold f_X9_uncorrect
      rw [kV_k S.d0, K.readingNo hq]
      rfl
    · show f_X10_uncorrect 0 a hm = _
      unfold f_X10_uncorrect
      rw [kV_k T.d0, M.isReadingNo hq, kb_ret, kif_t rfl]
      unfold X10_uncorrect_b27
      rw [kV_k T.d0, can_n T (show (1 : Int32) ≠ 0 by decide), kb_ret, kif_t rfl]
