/-! warrant -/
theorem RR.wc {j : Nat} {hx hm : KH} (R : RR j hx hm) : kI hx 0 15 = nI (mn hm 0 27) ∧ kI hm 0 27 = nI (mn hm 0 27) ∧ mn hm 0 27 ≤ 8 := by
  obtain ⟨⟨P, hP, e1, e2⟩, -⟩ := R.2.2.2.2.2.2.2.2.2.2.2.2.2.2.1
  have e : mn hm 0 27 = P := mn_of e2 (by omega)
  rw [e]
  exact ⟨e1, e2, hP⟩
theorem RR.wa {j : Nat} {hx hm : KH} (R : RR j hx hm) {w : Nat} (hw : w < mn hm 0 27) : cWa1 hx hm w := R.2.2.2.2.2.2.2.2.2.2.2.2.2.2.1.2 w hw
theorem cWa1.fr {hx hm hx' hm' : KH} {w : Nat} {D E : Nat → Nat → Prop} (c : cWa1 hx hm w) (hP : mn hm 0 8 = mn hm' 0 8) (ag : kAg D hx hx') (am : kAg E hm hm') (hD : ∀ a k, a = 500 + w ∨ a = 29 ∧ k = w → ¬ D a k) (hE : ∀ a k, (a = 22 ∨ a = 23 ∨ a = 24) ∧ k = w → ¬ E a k) : cWa1 hx' hm' w := by
  obtain ⟨d1, d2, d3, ⟨p, p1, p2, p3⟩, d4⟩ := c
  refine ⟨by rw [(ag.k (500 + w) (by rw [d1]; decide)).1]; exact d1, by rw [(ag.1 29 w (hD _ _ (by omega))).2.2]; exact d2, by rw [(ag.1 (500 + w) 0 (hD _ _ (by omega))).1]; exact d3, ⟨p, by rw [← hP]; exact p1, by rw [(am.1 22 w (hE _ _ (by omega))).1]; exact p2, by rw [(ag.1 (500 + w) 1 (hD _ _ (by omega))).2.2]; exact p3⟩, ?_⟩
  rw [(ag.1 (500 + w) 2 (hD _ _ (by omega))).1, (ag.1 (500 + w) 3 (hD _ _ (by omega))).1, (am.1 23 w (hE _ _ (by omega))).1, (am.1 24 w (hE _ _ (by omega))).1]
  exact d4
theorem cAns.more {hx hm hx' hm' : KH} {D E : Nat → Nat → Prop} (c : cAns hx hm) (hW : mn hm 0 27 ≤ mn hm' 0 27) (ag : kAg D hx hx') (am : kAg E hm hm') (hD : ∀ a k, 600 ≤ a ∧ a < 640 ∨ a = 30 ∨ a = 0 ∧ k = 16 → ¬ D a k) (hE : ∀ a k, a = 25 ∨ a = 26 ∨ a = 27 ∨ a = 0 ∧ k = 31 → ¬ E a k) : cAns hx' hm' := by
  obtain ⟨⟨N, hN, c1, c2⟩, c3⟩ := c
  have hNm : mn hm 0 31 = N := mn_of c2 (by omega)
  have e31 := (am.1 0 31 (hE 0 31 (by omega))).1
  refine ⟨⟨N, hN, by rw [(ag.1 0 16 (hD 0 16 (by omega))).1]; exact c1, by rw [e31]; exact c2⟩, fun n hn => ?_⟩
  rw [mn_cg1 e31] at hn
  obtain ⟨d1, d2, ⟨w, w1, w2, w3⟩, d4, g, m, d5, d6, d7, d8, d9⟩ := c3 n hn
  refine ⟨by rw [(ag.k (600 + n) (by rw [d1]; decide)).1]; exact d1, by rw [(ag.1 30 n (hD _ _ (by omega))).2.2]; exact d2, ⟨w, by omega, by rw [(ag.1 (600 + n) 0 (hD _ _ (by omega))).1]; exact w2, by rw [(am.1 25 n (hE _ _ (by omega))).1]; exact w3⟩, by rw [(ag.1 (600 + n) 1 (hD _ _ (by omega))).1, (am.1 26 n (hE _ _ (by omega))).1]; exact d4, g, m, d5, d6, by rw [(ag.1 (600 + n) 2 (hD _ _ (by omega))).1]; exact d7, by rw [(ag.1 (600 + n) 3 (hD _ _ (by omega))).1]; exact d8, by rw [(am.1 27 n (hE _ _ (by omega))).1]; exact d9⟩
theorem x9_warr {h : KH} {W p q : Nat} {f t : Int32} (S : kSx h) (hx : kx h = 500 + W) (hf : kd h (500 + W) = 0) (hW : W < 8) (e15 : kI h 0 15 = nI W) (kp : kd h (100 + 8 * p) = 5) (kq : kR h (100 + 8 * p) 3 = some q) (hp : p < 10) : ∃ h', (gN h 0 10 7 (fun a2 => gI h 0 10 15 (fun x4 => nw h 9 0 (fun a3 h4 => gI h4 0 10 15 (fun x5 => gN h4 (100 + 8 * p) 5 3 (fun a4 => kbinI (f_X8_init a3 x5 a4 f t h4) (fun _ h5 => pAN h5 a2 27 9 x4 a3 (fun h6 => gI h6 0 10 15 (fun x6 => pI h6 0 10 15 (x6 + 1) (fun h7 => gI h7 0 10 15 (fun x7 => kret (x7 - 1) h7)))))))))) : KO Int32) = kret (nI W) h' ∧ kAg (fun a k => (a = 500 + W ∨ a = 500 + W + 1000000) ∨ a = 29 ∧ k = W ∨ a = 0 ∧ k = 15) h h' ∧ kd h' (500 + W) = 9 ∧ kR h' 29 W = some (500 + W) ∧ kI h' (500 + W) 0 = nI W ∧ kR h' (500 + W) 1 = some q ∧ kI h' (500 + W) 2 = f ∧ kI h' (500 + W) 3 = t ∧ kI h' 0 15 = nI (W + 1) := by
  have ag0 : kAg (fun a k => (a = 500 + W ∨ a = 500 + W + 1000000) ∨ a = 29 ∧ k = W ∨ a = 0 ∧ k = 15) h (al h 9 0) := (kAg.al h 9 0 (by rw [hx]; exact hf)).sub (fun a k z => by rw [hx] at z; exact Or.inl z)
  have S1 : kSx (al h 9 0) := S.fr ag0 (fun a k q z => by omega)
  have k9 : kd (al h 9 0) (500 + W) = 9 := by rw [kd_al, hx, if_pos rfl]
  have kp1 : kd (al h 9 0) (100 + 8 * p) = 5 := by rw [kd_al, hx, if_neg (by omega)]; exact kp
  have kq1 : kR (al h 9 0) (100 + 8 * p) 3 = some q := by rw [kR_al, hx, if_neg (by omega)]; exact kq
  have e15' : kI (al h 9 0) 0 15 = nI W := by rw [kI_al, hx, if_neg (by omega)]; exact e15
  obtain ⟨hB, eB⟩ : ∃ hB, hB = sI (sI (sR (sI (al h 9 0) (500 + W) 0 (nI W)) (500 + W) 1 (some q)) (500 + W) 2 f) (500 + W) 3 t := ⟨_, rfl⟩
  have agB : kAg (fun a k => (a = 500 + W ∨ a = 500 + W + 1000000) ∨ a = 29 ∧ k = W ∨ a = 0 ∧ k = 15) (al h 9 0) hB := by
    rw [eB]
    exact (((kAg.I (al h 9 0) (500 + W) 0 _).trans (F := fun a k => (a = 500 + W ∨ a = 500 + W + 1000000) ∨ a = 29 ∧ k = W ∨ a = 0 ∧ k = 15) (kAg.R _ (500 + W) 1 _) (fun a k q z => q (Or.inl (Or.inl z.1))) (fun a k q z => q (Or.inl (Or.inl z.1)))).trans (F := fun a k => (a = 500 + W ∨ a = 500 + W + 1000000) ∨ a = 29 ∧ k = W ∨ a = 0 ∧ k = 15) (kAg.I _ (500 + W) 2 _) (fun a k q => q) (fun a k q z => q (Or.inl (Or.inl z.1)))).trans (kAg.I _ (500 + W) 3 _) (fun a k q => q) (fun a k q z => q (Or.inl (Or.inl z.1)))
  have kB : kd hB (500 + W) = 9 := by rw [eB]; exact k9
  have SB : kSx hB := S1.fr agB (fun a k q z => by omega)
  have eB15 : kI hB 0 15 = nI W := by
    rw [eB, kI_sI, if_neg (by omega), kI_sI, if_neg (by omega), kI_sR, kI_sI, if_neg (by omega)]
    exact e15'
  have hinit : f_X8_init (500 + W) (nI W) q f t (al h 9 0) = kret () hB := by
    unfold f_X8_init
    simp only [pI, pR, kd_sI, kd_sR, k9, if_true, eB]
  refine ⟨sI (sR hB 29 W (some (500 + W))) 0 15 (nI (W + 1)), ?_, ((ag0.trans agB (fun a k q => q) (fun a k q => q)).trans (kAg.R hB 29 W _) (fun a k q => q) (fun a k q z => q (Or.inr (Or.inl z)))).trans (kAg.I _ 0 15 _) (fun a k q => q) (fun a k q z => q (Or.inr (Or.inr z))), ?_, ?_, ?_, ?_, ?_, ?_, ?_⟩
  · have kC : kd (sR hB 29 W (some (500 + W))) 0 = 10 := by rw [kd_sR]; exact SB.d0
    rw [gN_k S.d0 S.r0_7, gI_k S.d0, e15, nw_k (by rw [hx]; exact hf), hx, gI_k S1.d0, e15', gN_k kp1 kq1, hinit, ki_ret, pAN_k SB.d29 (by rw [SB.n29]; omega) (by omega) kB, gI_k kC, kI_sR, eB15, pI_k kC, nI_1, gI_k (by rw [kd_sI]; exact kC), kI_sI, if_pos ⟨rfl, rfl⟩, ka_pred (by omega), Nat.add_sub_cancel]
  · exact kB
  · rw [kR_sI, kR_sR, if_pos ⟨rfl, rfl⟩]
  · rw [kI_sI, if_neg (by omega), kI_sR, eB, kI_sI, if_neg (by omega), kI_sI, if_neg (by omega), kI_sR, kI_sI, if_pos ⟨rfl, rfl⟩]
  · rw [kR_sI, kR_sR, if_neg (by omega), eB, kR_sI, kR_sI, kR_sR, if_pos ⟨rfl, rfl⟩]
  · rw [kI_sI, if_neg (by omega), kI_sR, eB, kI_sI, if_neg (by omega), kI_sI, if_pos ⟨rfl, rfl⟩]
  · rw [kI_sI, if_neg (by omega), kI_sR, eB, kI_sI, if_pos ⟨rfl, rfl⟩]
  · rw [kI_sI, if_pos ⟨rfl, rfl⟩]
theorem tm_warr {h : KH} {W : Nat} {p f t : Int32} (T : kSm h) (hW : W < 8) (e : kI h 0 27 = nI W) : ∃ h', X10_warrant_b67 0 p f t 0 0 h = kret (nI W) h' ∧ kAg (fun a k => (a = 22 ∨ a = 23 ∨ a = 24) ∧ k = W ∨ a = 0 ∧ k = 27) (sI h 0 35 0) h' ∧ kI h' 22 W = p ∧ kI h' 23 W = f ∧ kI h' 24 W = t ∧ kI h' 0 27 = nI (W + 1) := by
  have T1 := T.thr 0
  have T2 : kSm (sI (sI h 0 35 0) 22 W p) := T1.fr (kAg.I _ 22 W p) (fun a k q z => by omega)
  have T3 : kSm (sI (sI (sI h 0 35 0) 22 W p) 23 W f) := T2.fr (kAg.I _ 23 W f) (fun a k q z => by omega)
  have T4 : kSm (sI (sI (sI (sI h 0 35 0) 22 W p) 23 W f) 24 W t) := T3.fr (kAg.I _ 24 W t) (fun a k q z => by omega)
  have k5 : kd (sI (sI (sI (sI (sI h 0 35 0) 22 W p) 23 W f) 24 W t) 0 27 (nI (W + 1))) 0 = 11 := by rw [kd_sI]; exact T4.d0
  refine ⟨sI (sI (sI (sI (sI h 0 35 0) 22 W p) 23 W f) 24 W t) 0 27 (nI (W + 1)), ?_, (((kAg.I (sI h 0 35 0) 22 W p).trans (F := fun a k => (a = 22 ∨ a = 23 ∨ a = 24) ∧ k = W ∨ a = 0 ∧ k = 27) (kAg.I _ 23 W f) (fun a k q z => q (by omega)) (fun a k q z => q (by omega))).trans (F := fun a k => (a = 22 ∨ a = 23 ∨ a = 24) ∧ k = W ∨ a = 0 ∧ k = 27) (kAg.I _ 24 W t) (fun a k q => q) (fun a k q z => q (by omega))).trans (kAg.I _ 0 27 _) (fun a k q => q) (fun a k q z => q (by omega)), ?_, ?_, ?_, ?_⟩
  · unfold X10_warrant_b67
    rw [kV_k T.d0, can_0 T, kb_ret, kif_f (by decide), gN_k T1.d0 T1.r28, gI_k T1.d0, show kI (sI h 0 35 0) 0 27 = nI W from e, pAI_k T1.d22 (by rw [T1.n22]; omega) (by omega)]
    rw [gN_k T2.d0 T2.r29, gI_k T2.d0, show kI (sI (sI h 0 35 0) 22 W p) 0 27 = nI W from e, pAI_k T2.d23 (by rw [T2.n23]; omega) (by omega)]
    rw [gN_k T3.d0 T3.r30, gI_k T3.d0, show kI (sI (sI (sI h 0 35 0) 22 W p) 23 W f) 0 27 = nI W from e, pAI_k T3.d24 (by rw [T3.n24]; omega) (by omega)]
    rw [gI_k T4.d0, show kI (sI (sI (sI (sI h 0 35 0) 22 W p) 23 W f) 24 W t) 0 27 = nI W from e, pI_k T4.d0, nI_1, gI_k k5, kI_sI, if_pos ⟨rfl, rfl⟩, ka_pred (by omega), Nat.add_sub_cancel]
  · rw [kI_sI, if_neg (by omega), kI_sI, if_neg (by omega), kI_sI, if_neg (by omega), kI_sI, if_pos ⟨rfl, rfl⟩]
  · rw [kI_sI, if_neg (by omega), kI_sI, if_neg (by omega), kI_sI, if_pos ⟨rfl, rfl⟩]
  · rw [kI_sI, if_neg (by omega), kI_sI, if_pos ⟨rfl, rfl⟩]
  · rw [kI_sI, if_pos ⟨rfl, rfl⟩]
theorem o_warrant : OPI (fun a b c h => f_X9_warrant 0 a b c h) (fun a b c h => f_X10_warrant 0 a b c h) (mp3 3 1 2) := by
  intro j hx hm a b c hj R
  have S := R.1.1.X 0
  have T := R.1.2
  have hP := R.P
  obtain ⟨w1, w2, w3⟩ := R.wc
  have hin : ∀ lo hi v : Int32, ∀ h : KH, f_X10_isIn v lo hi h = kret 1 h ∨ f_X10_isIn v lo hi h = kret 0 h := fun lo hi v h => by
    by_cases q1 : v < lo
    · exact Or.inr (in_f (Or.inl q1))
    · by_cases q2 : hi < v
      · exact Or.inr (in_f (Or.inr q2))
      · exact Or.inl (in_t q1 q2)
  have hb67 : ∀ v : Int32, v ≠ 0 → X10_warrant_b67 0 a b c v 0 hm = kret 0 (sI hm 0 35 v) := fun v hv => by
    unfold X10_warrant_b67
    rw [kV_k T.d0, can_n T hv, kb_ret, kif_t rfl]
  rcases ka_below a (mn hm 0 8) (by omega) with ⟨p, hp, rfl, q1, q2⟩ | hq
  · rcases ka_rng b 0 34 0 34 rfl rfl (by decide) (by decide) with ⟨f, f1, f2, rfl, q3, q4⟩ | hq3
    · rcases ka_rng c (nI f) 34 f 34 rfl rfl (by decide) (by omega) with ⟨t, t1, t2, rfl, q5, q6⟩ | hq5
      · by_cases hfull : mn hm 0 27 = 8
        · refine op_no R 2 3 0 rfl (by decide) ?_ ?_
          · show f_X9_warrant 0 (nI p) (nI f) (nI t) (sX hx 0) = _
            unfold f_X9_warrant
            rw [kV_k S.d0, (R.X 0).plate hp q1 q2, kb_ret, wi_t q3 q4, kb_ret, kif_f (by decide), wi_t q5 q6, kb_ret, kif_f (by decide), gI_k S.d0, show kI (sX hx 0) 0 15 = nI (mn hm 0 27) from w1, kif_f (by rw [hfull]; decide)]
          · show f_X10_warrant 0 (nI p) (nI f) (nI t) hm = _
            unfold f_X10_warrant
            rw [kV_k T.d0, R.isPlate q1 q2, kb_ret, in_t q3 q4, kb_ret, kif_f (by decide), in_t q5 q6, kb_ret, kif_f (by decide)]
            unfold X10_warrant_b32
            rw [kif_f (by decide), kif_f (by decide), gI_k T.d0, w2, kif_t (by rw [hfull]; rfl), hb67 3 (by decide)]
        · have RX := R.X (500 + mn hm 0 27)
          have RT := RX.thr 0
          have R1 := RT.up
          have S1 := R.1.1.X (500 + mn hm 0 27)
          have hfr : kd hx (500 + mn hm 0 27) = 0 := R.2.2.2.2.2.2.2.2.2.2.2.2.2.2.2.2 _ (by omega)
          obtain ⟨-, -, kp, kq⟩ := RX.kCx.pst hp
          obtain ⟨hx1, y1, ag, y2, y3, y4, y5, y6, y7, y8⟩ := x9_warr (h := sX hx (500 + mn hm 0 27)) (W := mn hm 0 27) (p := p) (q := 104 + 8 * p) (f := nI f) (t := nI t) S1 rfl hfr (by omega) w1 kp kq (by omega)
          obtain ⟨hm1, z1, am, z2, z3, z4, z5⟩ := tm_warr (h := hm) (W := mn hm 0 27) (p := nI p) (f := nI f) (t := nI t) T (by omega) w2
          have e27 : mn hm1 0 27 = mn hm 0 27 + 1 := mn_of z5 (by omega)
          have e8 : mn hm1 0 8 = mn hm 0 8 := mn_cg1 (am.1 0 8 (by omega)).1
          refine op_ok (hx1 := hx1) (hm1 := hm1) (500 + mn hm 0 27) (nI (mn hm 0 27)) ?_ ?_ (by rw [(am.1 0 35 (by omega)).1, kI_sI, if_pos ⟨rfl, rfl⟩]) ?_
          · show f_X9_warrant 0 (nI p) (nI f) (nI t) (sX hx (500 + mn hm 0 27)) = _
            unfold f_X9_warrant
            rw [kV_k S1.d0, RX.plate hp q1 q2, kb_ret, wi_t q3 q4, kb_ret, kif_f (by decide), wi_t q5 q6, kb_ret, kif_f (by decide), gI_k S1.d0, show kI (sX hx (500 + mn hm 0 27)) 0 15 = nI (mn hm 0 27) from w1, kif_t (by rw [show (8 : Int32) = nI 8 from rfl, ka_lt (by omega) (by omega)]; omega)]
            exact y1
          · show f_X10_warrant 0 (nI p) (nI f) (nI t) hm = _
            unfold f_X10_warrant
            rw [kV_k T.d0, R.isPlate q1 q2, kb_ret, in_t q3 q4, kb_ret, kif_f (by decide), in_t q5 q6, kb_ret, kif_f (by decide)]
            unfold X10_warrant_b32
            rw [kif_f (by decide), kif_f (by decide), gI_k T.d0, w2, kif_f (by rw [show (8 : Int32) = nI 8 from rfl, ka_eq (by omega) (by omega)]; exact hfull), z1]
          · have hP' : mn (sI hm 0 35 0) 0 8 ≤ 10 := hP
            have hP := R1.P
            obtain ⟨⟨sx, sm⟩, c1, c2, c3, c4, c5, c6, c7, c8, c9, c10, c11, c12, c13, c14, c15, c16⟩ := R1
            refine ⟨⟨sx.fr ag ?_, sm.fr am ?_⟩, c1.fr ag am ?_ ?_, c2.fr ag am ?_ ?_, c3.fr ag am ?_ ?_, c4.fr ag am ?_ ?_, c5.fr ag am ?_ ?_, c6.fr ag am ?_ ?_, c7.fr ag am ?_ ?_, c8.fr ag am ?_ ?_, c9.fr ag am ?_ ?_, c10.fr hP ag am ?_ ?_, c11.fr ag am ?_ ?_, c12.fr hP ag am ?_ ?_, c13.fr ag am ?_ ?_, ?_, ?_, ?_⟩
            all_goals first
              | (intro a k h1 h2; omega)
              | skip
            · refine ⟨⟨mn hm 0 27 + 1, by omega, y8, z5⟩, fun w hw => ?_⟩
              rw [e27] at hw
              by_cases hwW : w = mn hm 0 27
              · subst hwW
                exact ⟨y2, y3, y4, ⟨p, by rw [e8]; exact hp, z2, y5⟩, f, t, t1, t2, y6, z3, y7, z4⟩
              · exact (RT.wa (show w < mn hm 0 27 by omega)).fr e8.symm ag am (fun a k q z => by omega) (fun a k q z => by omega)
            · exact c15.more (by rw [e27]; exact Nat.le_succ _) ag am (fun a k q z => by omega) (fun a k q z => by omega)
            · intro x hxx
              rw [e8, e27, mn_cg1 (am.1 0 16 (by omega)).1, mn_cg1 (am.1 0 31 (by omega)).1] at hxx
              have r16 : mn (sI hm 0 35 0) 0 16 = mn hm 0 16 := rfl
              have r31 : mn (sI hm 0 35 0) 0 31 = mn hm 0 31 := rfl
              rw [r16, r31] at hxx
              have h0 : kd hx x = 0 := R.2.2.2.2.2.2.2.2.2.2.2.2.2.2.2.2 x (by omega)
              rw [(ag.2 x (Or.inr (by omega))).1]
              exact h0
      · refine op_no R 1 2 0 rfl (by decide) ?_ ?_
        · show f_X9_warrant 0 (nI p) (nI f) c (sX hx 0) = _
          unfold f_X9_warrant X9_warrant_b27
          rw [kV_k S.d0, (R.X 0).plate hp q1 q2, kb_ret, wi_t q3 q4, kb_ret, kif_f (by decide), wi_f hq5, kb_ret, kif_t rfl]
        · show f_X10_warrant 0 (nI p) (nI f) c hm = _
          unfold f_X10_warrant
          rw [kV_k T.d0, R.isPlate q1 q2, kb_ret, in_t q3 q4, kb_ret, kif_f (by decide), in_f hq5, kb_ret, kif_t rfl]
          unfold X10_warrant_b31 X10_warrant_b32
          rw [kif_f (by decide), kif_t rfl, hb67 2 (by decide)]
    · refine op_no R 1 2 0 rfl (by decide) ?_ ?_
      · show f_X9_warrant 0 (nI p) b c (sX hx 0) = _
        unfold f_X9_warrant X9_warrant_b27
        rw [kV_k S.d0, (R.X 0).plate hp q1 q2, kb_ret, wi_f hq3, kb_ret, kif_t rfl]
      · show f_X10_warrant 0 (nI p) b c hm = _
        unfold f_X10_warrant
        rw [kV_k T.d0, R.isPlate q1 q2, kb_ret, in_f hq3, kb_ret, kif_t rfl]
        unfold X10_warrant_b31 X10_warrant_b32
        rw [kif_f (by decide), kif_t rfl, hb67 2 (by decide)]
  · refine op_no R 3 1 0 rfl (by decide) ?_ ?_
    · show f_X9_warrant 0 a b c (sX hx 0) = _
      unfold f_X9_warrant
      rw [kV_k S.d0, (R.X 0).plateNo hq]
      rfl
    · show f_X10_warrant 0 a b c hm = _
      unfold f_X10_warrant
      rw [kV_k T.d0, R.isPlateNo hq, kb_ret]
      rcases hin 0 34 b hm with e | e
      · rw [e, kb_ret, kif_f (by decide)]
        rcases hin b 34 c hm with e2 | e2
        · rw [e2, kb_ret, kif_f (by decide)]
          unfold X10_warrant_b32
          rw [kif_t rfl, hb67 1 (by decide)]
        · rw [e2, kb_ret, kif_t rfl]
          unfold X10_warrant_b31 X10_warrant_b32
          rw [kif_t rfl, hb67 1 (by decide)]
      · rw [e, kb_ret, kif_t rfl]
        unfold X10_warrant_b31 X10_warrant_b32
        rw [kif_t rfl, hb67 1 (by decide)]
