/-! alike -/
theorem rsg_t {b : Int32} {h : KH} (h1 : ¬ b < 0) (h2 : ¬ 14 < b) : f_X9_requireSign b h = kret () h := by
  unfold f_X9_requireSign
  rw [wi_t h1 h2, kb_ret, kif_f (by decide)]
theorem rsg_f {b : Int32} {h : KH} (h1 : b < 0 ∨ 14 < b) : f_X9_requireSign b h = kthrow 3 h := by
  unfold f_X9_requireSign
  rw [wi_f h1, kb_ret, kif_t rfl]
theorem msg_t {b : Int32} {h : KH} (h1 : ¬ b < 0) (h2 : ¬ 14 < b) : f_X10_isSign b h = kret 1 h := by
  unfold f_X10_isSign
  rw [in_t h1 h2, kb_ret]
  rfl
theorem msg_f {b : Int32} {h : KH} (h1 : b < 0 ∨ 14 < b) : f_X10_isSign b h = kret 0 h := by
  unfold f_X10_isSign
  rw [in_f h1, kb_ret]
  rfl
theorem x2_turn {h : KH} (S : kSx h) {x y A B : Nat} (hx : x < 15) (hy : y < 15) (hxy : x ≠ y) (eA : kI h 25 x = nI A) (eB : kI h 25 y = nI B) : f_X2_turn 24 (nI x) (nI y) h = kret () (sI (sI h 25 x (nI (A ^^^ 2 ^ y))) 25 y (nI (B ^^^ 2 ^ x))) := by
  unfold f_X2_turn
  have S1 : kSx (sI h 25 x (nI (A ^^^ 2 ^ y))) := S.fr (kAg.I h 25 x _) (fun a k q z => by omega)
  rw [gN_k S.d24 S.r24_0, gAI_k S.d25 (by rw [S.n25]; exact hx) (by omega), eA, kb_xor hy, pAI_k S.d25 (by rw [S.n25]; exact hx) (by omega), gN_k S1.d24 S1.r24_0, gAI_k S1.d25 (by rw [S1.n25]; exact hy) (by omega), kI_sI, if_neg (by omega), eB, kb_xor hx, pAI_k S1.d25 (by rw [S1.n25]; exact hy) (by omega)]
theorem tb_flip (M y b : Nat) : (M ^^^ 2 ^ y).testBit b = if b = y then !M.testBit b else M.testBit b := by
  rw [Nat.testBit_xor, Nat.testBit_two_pow]
  by_cases g : b = y
  · rw [if_pos g, decide_eq_true g.symm, Bool.xor_true]
  · rw [if_neg g, decide_eq_false (fun z => g z.symm), Bool.xor_false]
theorem cAli.flip {hx hm : KH} (c : cAli hx hm) {x y A B : Nat} {v : Int32} (hx1 : x < 15) (hy : y < 15) (hxy : x ≠ y) (eA : kI hx 25 x = nI A) (eB : kI hx 25 y = nI B) (hA : A < 32768) (hB : B < 32768) (ev : v = if kI hm 5 (15 * x + y) = 0 then 1 else 0) : cAli (sI (sI hx 25 x (nI (A ^^^ 2 ^ y))) 25 y (nI (B ^^^ 2 ^ x))) (sI (sI hm 5 (15 * x + y) v) 5 (15 * y + x) v) := by
  obtain ⟨c1, c2⟩ := c
  have hcell : ∀ a b, a < 15 → b < 15 → kI (sI (sI hm 5 (15 * x + y) v) 5 (15 * y + x) v) 5 (15 * a + b) = if a = x ∧ b = y ∨ a = y ∧ b = x then v else kI hm 5 (15 * a + b) := by
    intro a b ha hb
    rw [kI_sI, kI_sI]
    by_cases g1 : a = y ∧ b = x
    · rw [if_pos (by rw [g1.1, g1.2]; exact ⟨rfl, rfl⟩), if_pos (Or.inr g1)]
    · rw [if_neg (by omega)]
      by_cases g2 : a = x ∧ b = y
      · rw [if_pos (by rw [g2.1, g2.2]; exact ⟨rfl, rfl⟩), if_pos (Or.inl g2)]
      · rw [if_neg (by omega), if_neg (by omega)]
  have hpow : ∀ k, k < 15 → 2 ^ k < 32768 := by decide
  have hbit : ∀ (M k : Nat), (∀ b, b < 15 → kI hm 5 (15 * k + b) = if M.testBit b then 1 else 0) → ∀ b, b < 15 → kI hm 5 (15 * k + b) = kI hm 5 (15 * x + y) → v = if (!M.testBit b) then 1 else 0 := by
    intro M k e b hb q
    rw [ev, ← q, e b hb]
    cases M.testBit b <;> rfl
  refine ⟨fun a ha => ?_, fun a b ha hb => ?_⟩
  · obtain ⟨M, M1, M2, M3⟩ := c1 a ha
    by_cases g1 : a = x
    · subst g1
      obtain rfl : M = A := nI_inj (M2.symm.trans eA) (by omega) (by omega)
      refine ⟨M ^^^ 2 ^ y, Nat.xor_lt_two_pow (n := 15) M1 (hpow y hy), by rw [kI_sI, if_neg (by omega), kI_sI, if_pos ⟨rfl, rfl⟩], fun b hb => ?_⟩
      rw [hcell a b ha hb, tb_flip]
      by_cases g : b = y
      · rw [if_pos (Or.inl ⟨rfl, g⟩), if_pos g]
        exact hbit M a M3 b hb (by rw [g])
      · rw [if_neg (by omega), if_neg g]
        exact M3 b hb
    · by_cases g2 : a = y
      · subst g2
        obtain rfl : M = B := nI_inj (M2.symm.trans eB) (by omega) (by omega)
        refine ⟨M ^^^ 2 ^ x, Nat.xor_lt_two_pow (n := 15) M1 (hpow x hx1), by rw [kI_sI, if_pos ⟨rfl, rfl⟩], fun b hb => ?_⟩
        rw [hcell a b ha hb, tb_flip]
        by_cases g : b = x
        · rw [if_pos (Or.inr ⟨rfl, g⟩), if_pos g]
          exact hbit M a M3 b hb (by rw [g]; exact c2 a x ha hx1)
        · rw [if_neg (by omega), if_neg g]
          exact M3 b hb
      · refine ⟨M, M1, by rw [kI_sI, if_neg (by omega), kI_sI, if_neg (by omega)]; exact M2, fun b hb => ?_⟩
        rw [hcell a b ha hb, if_neg (by omega)]
        exact M3 b hb
  · rw [hcell a b ha hb, hcell b a hb ha]
    by_cases g : a = x ∧ b = y ∨ a = y ∧ b = x
    · rw [if_pos g, if_pos (by omega)]
    · rw [if_neg g, if_neg (by omega)]
      exact c2 a b ha hb
theorem o_alike : OPI (fun a b c h => f_X9_alike 0 a b h) (fun a b c h => f_X10_alike 0 a b h) (mp2 3 1) := by
  intro j hx hm a b c hj R
  have S := R.1.1.X 0
  have T := R.1.2
  have K := (R.X 0).kCx
  have M := R.MX
  have hP := R.P
  have hR := M.2.2.1.1
  have e14 : ∀ k, k < 15 → (nI k = 14) = (k = 14) := fun k hk => by rw [show (14 : Int32) = nI 14 from rfl, ka_eq (by omega) (by omega)]
  have hbad : ∀ x y, x < 15 → y < 15 → (x = y ∨ x = 14 ∨ y = 14) → ¬ nI x < 0 → ¬ 14 < nI x → ¬ nI y < 0 → ¬ 14 < nI y → OP1 (fun a b c h => f_X9_alike 0 a b h) (fun a b c h => f_X10_alike 0 a b h) (mp2 3 1) j hx hm (nI x) (nI y) c := by
    intro x y h1 h2 h3 q1 q2 q3 q4
    refine op_no R 1 2 0 rfl (by decide) ?_ ?_
    · show f_X9_alike 0 (nI x) (nI y) (sX hx 0) = _
      unfold f_X9_alike
      rw [rsg_t q1 q2, kb_ret, rsg_t q3 q4, kb_ret]
      unfold X9_alike_b25
      by_cases g1 : x = y
      · rw [kif_t (by rw [g1])]
      · rw [kif_f (by rw [ka_eq (by omega) (by omega)]; exact g1)]
        by_cases g2 : x = 14
        · rw [kif_t (by rw [e14 x h1]; exact g2)]
        · rw [kif_f (by rw [e14 x h1]; exact g2), kif_t (by rw [e14 y h2]; omega)]
    · show f_X10_alike 0 (nI x) (nI y) hm = _
      unfold f_X10_alike
      rw [msg_t q1 q2, kb_ret, kif_f (by decide), msg_t q3 q4, kb_ret, kif_f (by decide)]
      unfold X10_alike_b19 X10_alike_b46
      have hc : X10_alike_b51 0 (nI x) (nI y) 2 0 hm = kret 0 (sI hm 0 35 2) := by
        unfold X10_alike_b51
        rw [kV_k T.d0, can_n T (show (2 : Int32) ≠ 0 by decide), kb_ret, kif_t rfl]
        rfl
      rw [kif_f (by decide)]
      by_cases g1 : x = y
      · rw [kif_t (by rw [g1]), hc]
      · rw [kif_f (by rw [ka_eq (by omega) (by omega)]; exact g1)]
        by_cases g2 : x = 14
        · rw [kif_t (by rw [e14 x h1]; exact g2), hc]
        · rw [kif_f (by rw [e14 x h1]; exact g2), kif_t (by rw [e14 y h2]; omega), hc]
  rcases ka_rng a 0 14 0 14 rfl rfl (by decide) (by decide) with ⟨x, x1, x2, rfl, q1, q2⟩ | hq
  · rcases ka_rng b 0 14 0 14 rfl rfl (by decide) (by decide) with ⟨y, y1, y2, rfl, q3, q4⟩ | hq3
    · by_cases hb : x = y ∨ x = 14 ∨ y = 14
      · exact hbad x y (by omega) (by omega) hb q1 q2 q3 q4
      · have RT := (R.X 0).thr 0
        obtain ⟨A, A1, A2, A3⟩ := RT.2.2.2.2.2.2.2.1.1 x (by omega)
        obtain ⟨B, B1, B2, B3⟩ := RT.2.2.2.2.2.2.2.1.1 y (by omega)
        obtain ⟨v, ev⟩ : ∃ v : Int32, v = if kI (sI hm 0 35 0) 5 (15 * x + y) = 0 then 1 else 0 := ⟨_, rfl⟩
        have cA := RT.2.2.2.2.2.2.2.1.flip (show x < 15 by omega) (show y < 15 by omega) (by omega) A2 B2 A1 B1 ev
        have ag1 : kAg (fun i k => i = 25) (sX hx 0) (sI (sI (sX hx 0) 25 x (nI (A ^^^ 2 ^ y))) 25 y (nI (B ^^^ 2 ^ x))) := (kAg.I (sX hx 0) 25 x _).trans (kAg.I _ 25 y _) (fun i k q z => q z.1) (fun i k q z => q z.1)
        have am : kAg (fun i k => i = 5) (sI hm 0 35 0) (sI (sI (sI hm 0 35 0) 5 (15 * x + y) v) 5 (15 * y + x) v) := (kAg.I (sI hm 0 35 0) 5 (15 * x + y) v).trans (kAg.I _ 5 (15 * y + x) v) (fun i k q z => q z.1) (fun i k q z => q z.1)
        have KT := RT.kCx
        have cD := KT.2.2.1.fr ag1 am (fun a k z1 z2 => by omega) (fun a k z1 z2 => by omega)
        have cP := KT.2.1.fr ag1 am (fun a k z1 z2 => by omega) (fun a k z1 z2 => by omega)
        have K1 := KT.fr2 ag1 am cA cD cP (fun a k z1 z2 => by unfold FX at z1; omega) (fun a k z1 z2 => by unfold FM at z1; omega)
        have A0 := RT.AS.fr hP hR ag1 am (fun a k z1 z2 => by unfold DM at z1; omega) (fun a k z1 z2 => by omega)
        have C1 : cCor (sI (sI (sX hx 0) 25 x (nI (A ^^^ 2 ^ y))) 25 y (nI (B ^^^ 2 ^ x))) (sI (sI (sI hm 0 35 0) 5 (15 * x + y) v) 5 (15 * y + x) v) := fun r hr => by
          rw [(ag1.1 (200 + 4 * r) 4 (fun z => by omega)).1, (am.1 16 r (fun z => by omega)).1, (am.1 17 r (fun z => by omega)).1, mn_cg1 (am.1 0 8 (fun z => by omega)).1]
          exact RT.cCor r hr
        obtain ⟨h2, A', f1, f2, f3, f4⟩ := K1.lead A0 (fun r hr => by
          rcases C1 r hr with ⟨z, -⟩ | ⟨z, -⟩
          · exact Or.inl z
          · exact Or.inr z)
        have K2 := K1.fr f2 DM.dk
        have C2 : cCor h2 (sI (sI (sI hm 0 35 0) 5 (15 * x + y) v) 5 (15 * y + x) v) := fun r hr => by
          rw [(f2.1 (200 + 4 * r) 4 (fun z => by unfold DM at z; omega)).1]
          exact C1 r hr
        have f5 := f3.cong (B := sPF (sI (sI (sI hm 0 35 0) 5 (15 * x + y) v) 5 (15 * y + x) v)) (fun r hr => by
          rw [f4 r hr]
          rcases C1 r hr with ⟨z, z2⟩ | ⟨z, z2, z3⟩
          · have z2' : mn (sI (sI (sI hm 0 35 0) 5 (15 * x + y) v) 5 (15 * y + x) v) 16 r = 0 := by unfold mn; rw [z2]; rfl
            rw [if_pos z]
            unfold sPF
            rw [if_pos z2']
          · have z2' : mn (sI (sI (sI hm 0 35 0) 5 (15 * x + y) v) 5 (15 * y + x) v) 16 r = 1 := by unfold mn; rw [z2]; rfl
            have z2'' : mn (sI hm 0 35 0) 16 r = 1 := z2'
            have l1 : sPF (sI hm 0 35 0) r = if kI (sI hm 0 35 0) 17 r = -1 then none else some (mn (sI hm 0 35 0) 17 r) := by
              unfold sPF
              rw [if_neg (by rw [z2'']; decide)]
            have l2 : sPF (sI (sI (sI hm 0 35 0) 5 (15 * x + y) v) 5 (15 * y + x) v) r = if kI (sI (sI (sI hm 0 35 0) 5 (15 * x + y) v) 5 (15 * y + x) v) 17 r = -1 then none else some (mn (sI (sI (sI hm 0 35 0) 5 (15 * x + y) v) 5 (15 * y + x) v) 17 r) := by
              unfold sPF
              rw [if_neg (by rw [z2']; decide)]
            rw [if_neg (by rw [z]; decide), l1, l2]
            rfl)
        have hnew := cRea_of K2 (fun r h1 h2 => by
          rw [mn_cg1 (am.1 0 16 (fun z => by omega)).1] at h1
          rw [(am.1 16 r (fun z => by omega)).1]
          exact RT.zer r h1 h2) C2 f5
        have hv : v = 0 ∨ v = 1 := by
          rw [ev]
          split
          · exact Or.inr rfl
          · exact Or.inl rfl
        have hcell : kI (sI (sI (sI hm 0 35 0) 5 (15 * x + y) v) 5 (15 * y + x) v) 5 (15 * x + y) = v := by
          rw [kI_sI, if_neg (by omega), kI_sI, if_pos ⟨rfl, rfl⟩]
        refine op_ok (hx1 := h2) (hm1 := sI (sI (sI hm 0 35 0) 5 (15 * x + y) v) 5 (15 * y + x) v) 0 v ?_ ?_ (by rw [(am.1 0 35 (fun z => by omega)).1, kI_sI, if_pos ⟨rfl, rfl⟩]) ?_
        · show f_X9_alike 0 (nI x) (nI y) (sX hx 0) = _
          unfold f_X9_alike
          rw [rsg_t q1 q2, kb_ret, rsg_t q3 q4, kb_ret, kif_f (by rw [ka_eq (by omega) (by omega)]; omega), kif_f (by rw [e14 x (by omega)]; omega), kif_f (by rw [e14 y (by omega)]; omega), gN_k S.d0 S.r0_3, kV_k S.d24, x2_turn S (show x < 15 by omega) (show y < 15 by omega) (by omega) A2 B2, kb_ret, kV_k K1.1.1.d0, f1, kb_ret, gN_k K2.1.1.d0 K2.1.1.r0_3, kV_k K2.1.1.d24, xc_holds K2.1.1 (show x < 15 by omega) (show y < 15 by omega) K2.mask, kb_ret]
          have e2 : (if mn (sI (sI (sI hm 0 35 0) 5 (15 * x + y) v) 5 (15 * y + x) v) 5 (15 * x + y) = 0 then (0 : Int32) else 1) = v := by
            unfold mn
            rw [hcell]
            rcases hv with hv | hv <;> rw [hv] <;> rfl
          rw [e2]
          rcases hv with hv | hv <;> rw [hv] <;> rfl
        · show f_X10_alike 0 (nI x) (nI y) hm = _
          unfold f_X10_alike
          rw [msg_t q1 q2, kb_ret, kif_f (by decide), msg_t q3 q4, kb_ret, kif_f (by decide)]
          unfold X10_alike_b19
          rw [kif_f (by decide), kif_f (by rw [ka_eq (by omega) (by omega)]; omega), kif_f (by rw [e14 x (by omega)]; omega), kif_f (by rw [e14 y (by omega)]; omega)]
          unfold X10_alike_b51
          have T1 := T.thr 0
          have hb78 : X10_alike_b78 0 (nI x) (nI y) v (sI hm 0 35 0) = kret v (sI (sI (sI hm 0 35 0) 5 (15 * x + y) v) 5 (15 * y + x) v) := by
            have T2 : kSm (sI (sI hm 0 35 0) 5 (15 * x + y) v) := T1.fr (kAg.I _ 5 _ v) (fun a k q z => by omega)
            unfold X10_alike_b78
            rw [gN_k T1.d0 T1.r7, mc_idx, pAZ_k T1.d5 (by rw [T1.n5]; omega) (by omega) hv, gN_k T2.d0 T2.r7, mc_idx, pAZ_k T2.d5 (by rw [T2.n5]; omega) (by omega) hv]
            rcases hv with hv | hv <;> rw [hv] <;> rfl
          rw [kV_k T.d0, can_0 T, kb_ret, kif_f (by decide), gN_k T1.d0 T1.r7, mc_idx, gAI_k T1.d5 (by rw [T1.n5]; omega) (by omega)]
          by_cases g : kI (sI hm 0 35 0) 5 (15 * x + y) = 0
          · rw [kif_t g]
            rw [if_pos g] at ev
            rw [ev] at hb78 ⊢
            exact hb78
          · rw [kif_f g]
            rw [if_neg g] at ev
            rw [ev] at hb78 ⊢
            exact hb78
        · have R1 := RT.up
          have ag : kAg (fun i k => i = 25 ∨ (100 ≤ i ∧ i < 180 ∧ (i % 8 = 0 ∧ k = 2 ∨ i % 8 = 1 ∨ i % 8 = 2)) ∨ (200 ≤ i ∧ i < 440 ∧ i % 4 = 0 ∧ k = 5)) (sX hx 0) h2 := ag1.trans f2 (fun i k q z => q (Or.inl z)) (fun i k q z => q (Or.inr z))
          generalize hM1 : sI (sI (sI hm 0 35 0) 5 (15 * x + y) v) 5 (15 * y + x) v = hm1 at *
          have hdd := ag.nf (fun a z => by omega)
          have hP := R1.P
          obtain ⟨⟨sx, sm⟩, c1, c2, c3, c4, c5, c6, c7, c8, c9, c10, c11, c12, c13, c14, c15, c16⟩ := R1
          refine ⟨⟨sx.fr ag ?_, sm.fr am ?_⟩, c1.fr ag am ?_ ?_, c2.fr ag am ?_ ?_, c3.fr ag am ?_ ?_, c4.fr ag am ?_ ?_, c5.fr ag am ?_ ?_, c6.fr ag am ?_ ?_, ?_, c8.fr ag am ?_ ?_, c9.fr ag am ?_ ?_, c10.fr hP ag am ?_ ?_, ?_, ?_, c13.fr ag am ?_ ?_, c14.fr ag am ?_ ?_, c15.fr ag am ?_ ?_, c16.fr (hdd) am ?_ (Nat.le_refl _)⟩
          all_goals first
            | (intro a k h1 h2; omega)
            | skip
          · exact K2.2.2.2.1
          · exact hnew.1
          · exact hnew.2
    · refine op_no R 3 1 0 rfl (by decide) ?_ ?_
      · show f_X9_alike 0 (nI x) b (sX hx 0) = _
        unfold f_X9_alike
        rw [rsg_t q1 q2, kb_ret, rsg_f hq3]
        rfl
      · show f_X10_alike 0 (nI x) b hm = _
        unfold f_X10_alike
        rw [msg_t q1 q2, kb_ret, kif_f (by decide), msg_f hq3, kb_ret, kif_t rfl]
        unfold X10_alike_b18 X10_alike_b19 X10_alike_b51
        rw [kif_t rfl, kV_k T.d0, can_n T (show (1 : Int32) ≠ 0 by decide), kb_ret, kif_t rfl]
        rfl
  · refine op_no R 3 1 0 rfl (by decide) ?_ ?_
    · show f_X9_alike 0 a b (sX hx 0) = _
      unfold f_X9_alike
      rw [rsg_f hq]
      rfl
    · show f_X10_alike 0 a b hm = _
      unfold f_X10_alike
      rw [msg_f hq, kb_ret, kif_t rfl]
      unfold X10_alike_b18 X10_alike_b19 X10_alike_b51
      rw [kif_t rfl, kV_k T.d0, can_n T (show (1 : Int32) ≠ 0 by decide), kb_ret, kif_t rfl]
      rfl
