theorem o_register : OPN (fun _ hm => 100 + 8 * mn hm 0 8) (fun a b c h => f_X9_register 0 a b h) (fun a b c h => f_X10_register 0 a b h) (mp3 3 1 2) := by
  intro j hx hm a b c hj R
  have S0 := R.1.1.X (100 + 8 * mn hm 0 8)
  have T := R.1.2
  have M := R.MX
  have hPc := R.cnt
  have hR60 := M.2.2.1.1
  have K0 := (R.X (100 + 8 * mn hm 0 8)).kCx
  obtain ⟨eX, eN, hN⟩ := R.min
  obtain ⟨n, hn6, e22, e5, htx⟩ := R.2.2.2.2.2.2.1
  have hX : ∀ k, k < n → mn hm 4 k < 15 ∧ kI hx 23 k = nI (mn hm 4 k) := fun k hk => by
    obtain ⟨v, v1, v2, v3⟩ := htx k hk
    rw [mn_of v3 (by omega)]
    exact ⟨v1, v2⟩
  have hXm : ∀ k, k < n → mn hm 4 k < 15 ∧ kI hm 4 k = nI (mn hm 4 k) := fun k hk => by
    obtain ⟨v, v1, v2, v3⟩ := htx k hk
    rw [mn_of v3 (by omega)]
    exact ⟨v1, v3⟩
  obtain ⟨bp, g1, g2⟩ := tm_plain T e5 hn6 hXm
  obtain ⟨bt, g3, g4⟩ := M.taken e5 hn6 hXm
  obtain ⟨v1, g5, g6⟩ := x7_hasQL (h := sX hx (100 + 8 * mn hm 0 8)) (t := 22) (s := 23) (X := mn hm 4) S0.d22 S0.r22_0 S0.d23 S0.n23 e22 hn6 hX kF 0 (by omega) (by unfold kF; omega)
  obtain ⟨v2, g7, g8⟩ := K0.tkL (X := mn hm 4) e22 hn6 hX kF 0 (by omega) (by unfold kF; omega) (fun q hq => by omega)
  rcases ka_rng a 0 5 0 5 rfl rfl (by decide) (by decide) with ⟨d, d1, d2, rfl, q1, q2⟩ | hq
  · rcases ka_rng b 0 3 0 3 rfl rfl (by decide) (by decide) with ⟨its, i1, i2, rfl, q3, q4⟩ | hq3
    · have hcls : ∀ h, f_X9_requireClass (nI its) h = kret () h := fun h => by
        unfold f_X9_requireClass
        rw [wi_t q3 q4, kb_ret, kif_f (by decide)]
      by_cases hbad : n = 0 ∨ (∃ k, k < n ∧ mn hm 4 k = 14) ∨ (∃ q, q < mn hm 0 8 ∧ eqT (mn hm) (mn hm 4) n q) ∨ mn hm 0 8 = 10
      · refine op_noN R 2 3 0 rfl (by decide) ?_ ?_
        · show f_X9_register 0 (nI d) (nI its) (sX hx (100 + 8 * mn hm 0 8)) = _
          unfold f_X9_register
          rw [rdr_t q1 q2, kb_ret, hcls, kb_ret, gN_k S0.d0 S0.r0_2, gI_k S0.d22, show kI (sX hx (100 + 8 * mn hm 0 8)) 22 1 = nI n from e22]
          unfold X9_register_b48
          by_cases h0 : n = 0
          · rw [kif_t (by rw [h0]; rfl)]
          · rw [kif_f (by rw [show (0 : Int32) = nI 0 from rfl, ka_eq (by omega) (by omega)]; exact h0), gN_k S0.d0 S0.r0_2, kV_k S0.d22, show f_X7_hasQuestionMark 22 (sX hx (100 + 8 * mn hm 0 8)) = kret v1 (sX hx (100 + 8 * mn hm 0 8)) from g5, kb_ret]
            rcases g6 with ⟨z1, z2⟩ | ⟨z1, -⟩
            · rw [kif_t z1, gN_k S0.d0 S0.r0_2, kV_k S0.d0, show f_X9_isTaken 0 22 (sX hx (100 + 8 * mn hm 0 8)) = kret v2 (sX hx (100 + 8 * mn hm 0 8)) from g7, kb_ret]
              rcases g8 with ⟨z3, -⟩ | ⟨z3, z4⟩
              · rw [kif_f (by rw [z3]; decide)]
              · have hP10 : mn hm 0 8 = 10 := by
                  rcases hbad with w | ⟨k, w1, w2⟩ | ⟨q, w1, w2⟩ | w
                  · exact absurd w h0
                  · exact absurd w2 (z2 k (by omega) w1)
                  · exact absurd w2 (z4 q w1)
                  · exact w
                rw [kif_t z3, gI_k S0.d0, show kI (sX hx (100 + 8 * mn hm 0 8)) 0 13 = nI (mn hm 0 8) from hPc.1, kif_f (by rw [hP10]; decide)]
            · rw [kif_f (by rw [z1]; decide)]
        · show f_X10_register 0 (nI d) (nI its) hm = _
          have hc : X10_register_b54 0 (nI d) (nI its) 0 hm = kret 0 (sI hm 0 35 3) := by
            unfold X10_register_b54 X10_register_b59
            rw [kV_k T.d0, can_n T (show (3 : Int32) ≠ 0 by decide), kb_ret, kif_t rfl]
          unfold f_X10_register
          rw [mdr_t q1 q2, kb_ret, in_t q3 q4, kb_ret, kif_f (by decide), kif_f (by decide), kV_k T.d0, g1, kb_ret]
          rcases g2 with ⟨z1, z2, z2'⟩ | ⟨z1, -⟩
          · rw [kif_f (by rw [z1]; decide), kV_k T.d0, g3, kb_ret]
            rcases g4 with ⟨z3, -⟩ | ⟨z3, z4⟩
            · rw [kif_f (by rw [z3]; decide), hc]
            · have hP10 : mn hm 0 8 = 10 := by
                rcases hbad with w | ⟨k, w1, w2⟩ | ⟨q, w1, w2⟩ | w
                · omega
                · exact absurd w2 (z2' k w1)
                · exact absurd w2 (z4 q w1)
                · exact w
              rw [kif_t z3, gI_k T.d0, hPc.2.1, kif_t (by rw [hP10]; rfl), hc]
          · rw [kif_t z1, hc]
      · have hn0 : 1 ≤ n := Classical.byContradiction fun z => hbad (Or.inl (by omega))
        have hnq : ∀ k, k < n → mn hm 4 k ≠ 14 := fun k hk z => hbad (Or.inr (Or.inl ⟨k, hk, z⟩))
        have hnt : ∀ q, q < mn hm 0 8 → ¬ eqT (mn hm) (mn hm 4) n q := fun q hq z => hbad (Or.inr (Or.inr (Or.inl ⟨q, hq, z⟩)))
        have hP10 : mn hm 0 8 < 10 := by
          have : mn hm 0 8 ≠ 10 := fun z => hbad (Or.inr (Or.inr (Or.inr z)))
          omega
        have RX := R.X (100 + 8 * mn hm 0 8)
        have RT := RX.thr 0
        have M0 := RT.MX
        have KT := RT.kCx
        have hfree : ∀ a, 100 + 8 * mn hm 0 8 ≤ a → a ≤ 106 + 8 * mn hm 0 8 → kd hx a = 0 := fun a h1 h2 => R.2.2.2.2.2.2.2.2.2.2.2.2.2.2.2.2 a (by omega)
        obtain ⟨n', hn', hc12, -, -⟩ := R.holdN
        obtain ⟨h4, y1, ag4, ⟨d1', d2', d3', d4', d5', d6', d7', d8', d9'⟩, ⟨r1, r2, r3, r4, r5, r6⟩, u1, u2, u3, u4, u5, u6, w1, w2, w3, w4⟩ := x_reg (h := sX hx (100 + 8 * mn hm 0 8)) (hm := hm) (n := n) (P := mn hm 0 8) (d := d) (c := its) (M := mn hm 0 0) (X := mn hm 4) RX.kCx rfl rfl hfree hn0 hn6 e22 hX hnq hnt hP10 eX q1 q2 q3 q4
        obtain ⟨hm6, z1, am, z2, z3, z4, z5, z6, z7, z8, z9⟩ := tm_reg (h := hm) (n := n) (P := mn hm 0 8) (n' := n') (d := nI d) (its := nI its) (m := nI (mn hm 0 0)) T hn6 hP10 (by omega) e5 hPc.2.1 hc12 eN
        have e8 : mn hm6 0 8 = mn hm 0 8 + 1 := mn_of z2 (by omega)
        have e16 : mn hm6 0 16 = mn hm 0 16 := mn_cg1 (am.1 0 16 (by omega)).1
        have m6P : mn hm6 6 (mn hm 0 8) = n := mn_of z8 (by omega)
        have m7P : ∀ k, k < n → mn hm6 7 (6 * mn hm 0 8 + k) = mn hm 4 k := fun k hk => congrArg Int32.toNatClampNeg (z9 k hk)
        have m6p : ∀ p, p < mn hm 0 8 → mn hm6 6 p = mn hm 6 p := fun p hp => mn_cg1 (am.1 6 p (by omega)).1
        have m7p : ∀ p, p < mn hm 0 8 → ∀ k, k < 6 → mn hm6 7 (6 * p + k) = mn hm 7 (6 * p + k) := fun p hp k hk => mn_cg1 (am.1 7 (6 * p + k) (by omega)).1
        have hlen6 : ∀ p, p < mn hm 0 8 → mn hm 6 p ≤ 6 := fun p hp => (M.2.2.2.1 p hp).1.2
        have hsT : ∀ p, p < mn hm 0 8 → sTl (mn hm6) p = sTl (mn hm) p := fun p hp => sTl_cgr (m6p p hp) (fun k hk => m7p p hp k (by have := hlen6 p hp; omega))
        have hne : ∀ p, p < mn hm 0 8 → sTl (mn hm6) p ≠ sTl (mn hm6) (mn hm 0 8) := fun p hp z => by
          obtain ⟨s1, s2⟩ := sTl_inj z
          rw [m6P, m6p p hp] at s1
          refine hnt p hp ⟨s1, fun k hk => ?_⟩
          rw [← m7p p hp k (by omega), s2 k (by rw [m6p p hp]; omega), m7P k hk]
        have S4 : kSx h4 := RX.1.1.fr ag4 (fun a k q z => by unfold DP at z; omega)
        have TX : ∀ p, p ≤ mn hm 0 8 → TXp h4 (mn hm6) p := fun p hp => by
          by_cases hpP : p = mn hm 0 8
          · rw [hpP]
            refine ⟨⟨d1', r2⟩, ⟨d2', r3, d3', d4'⟩, by rw [m6P]; exact hn6, by rw [m6P]; exact u2, fun k hk => ?_⟩
            rw [m6P] at hk
            rw [m7P k hk]
            exact ⟨(hX k hk).1, (u3 k hk).trans (hX k hk).2⟩
          · have hp' : p < mn hm 0 8 := by omega
            obtain ⟨⟨k1, k2, k3, k4, -⟩, ⟨-, k5, k6, -⟩, -, ⟨l, l1, l2, l3, l4, l5⟩, -⟩ := RX.pl hp'
            have hl : mn hm 6 p = l := mn_of l4 (by omega)
            refine TXp.fr (h := sX hx (100 + 8 * mn hm 0 8)) ⟨⟨k1, k5⟩, ⟨k2, k6, k3, k4⟩, by rw [m6p p hp', hl]; exact l2, by rw [m6p p hp', hl]; exact l3, fun k hk => ?_⟩ ag4 (fun a k q z => by unfold DP at z; omega)
            rw [m6p p hp', hl] at hk
            rw [m7p p hp' k (by omega)]
            obtain ⟨v, v1', v2', v3'⟩ := l5 k hk
            rw [mn_of v3' (by omega)]
            exact ⟨by omega, v2'⟩
        obtain ⟨o, ol, om, op, oe⟩ := RX.2.2.2.2.2.2.2.2.2.1
        have hom : ∀ k, k < o.length → o.getD k 0 < mn hm 0 8 := fun k hk => (om _).1 (gD_mem.2 ⟨k, hk, rfl⟩)
        have op6 : o.Pairwise (fun p q => sTl (mn hm6) p < sTl (mn hm6) q) := by
          rw [List.pairwise_iff_getElem] at op ⊢
          intro i k hi hk hik
          have h1 := hom i hi
          have h2 := hom k hk
          rw [gD_get hi] at h1
          rw [gD_get hk] at h2
          rw [hsT _ h1, hsT _ h2]
          exact op i k hi hk hik
        have oe4 : ∀ k, k < o.length → kR h4 27 k = some (100 + 8 * o.getD k 0) := fun k hk => by
          rw [(ag4.1 27 k (fun z => by unfold DP at z; omega)).2.2]
          exact oe k hk
        obtain ⟨h5, i, x1, x2, ag5, x4, x5, x6, x7, x8⟩ := x9_pioL (hx := h4) (m := mn hm6) (P := mn hm 0 8) (o := o) hP10 ol hom oe4 kF (mn hm 0 8) h4 S4 TX ((kAg.rf h4).sub (fun _ _ z => z.elim)) (fun _ _ => rfl) (fun k q1 q2 => by omega) (Nat.le_refl _) (by unfold kF; omega)
        obtain ⟨oi1, oi2, oi3⟩ := ord_ins ol om op6 hne x2 x7 x8
        have e13 : kI h4 0 13 = nI (mn hm 0 8) := by
          rw [(ag4.1 0 13 (fun z => by unfold DP at z; omega)).1]
          exact hPc.1
        have e13' : kI h5 0 13 = nI (mn hm 0 8) := by
          rw [(ag5.1 0 13 (by omega)).1]
          exact e13
        have agT : kAg (fun a k => DP (mn hm 0 8) a k ∨ a = 27 ∨ a = 0 ∧ k = 13) (sX hx (100 + 8 * mn hm 0 8)) (sI h5 0 13 (nI (mn hm 0 8 + 1))) := (ag4.trans (F := fun a k => DP (mn hm 0 8) a k ∨ a = 27 ∨ a = 0 ∧ k = 13) ag5 (fun a k q z => q (Or.inl z)) (fun a k q z => q (Or.inr (Or.inl z)))).trans (kAg.I h5 0 13 _) (fun a k q => q) (fun a k q z => q (Or.inr (Or.inr z)))
        have agS : kAg (fun a k => a = 27 ∨ a = 0 ∧ k = 13) h4 (sI h5 0 13 (nI (mn hm 0 8 + 1))) := ag5.trans (kAg.I h5 0 13 _) (fun a k q z => q (Or.inl z)) (fun a k q z => q (Or.inr z))
        have hI6 : ∀ a k, 28 ≤ a → kI (sI h5 0 13 (nI (mn hm 0 8 + 1))) a k = kI h4 a k ∧ kR (sI h5 0 13 (nI (mn hm 0 8 + 1))) a k = kR h4 a k := fun a k ha => ⟨(agS.1 a k (by omega)).1, (agS.1 a k (by omega)).2.2⟩
        have hk6 : ∀ a, kd h4 a ≠ 0 → kd (sI h5 0 13 (nI (mn hm 0 8 + 1))) a = kd h4 a ∧ kn (sI h5 0 13 (nI (mn hm 0 8 + 1))) a = kn h4 a := fun a ha => agS.k a ha
        have cPl : cPla (sI h5 0 13 (nI (mn hm 0 8 + 1))) hm6 := by
          refine ⟨⟨mn hm 0 8 + 1, by omega, by rw [kI_sI, if_pos ⟨rfl, rfl⟩], z2⟩, fun p hp => ?_, fun p q hpq hq => ?_⟩
          · rw [e8] at hp
            by_cases hpP : p = mn hm 0 8
            · subst hpP
              refine ⟨⟨?_, ?_, ?_, ?_, ?_, ?_, ?_, ?_, ?_⟩, ⟨?_, ?_, ?_, ?_, ?_, ?_⟩, ?_, ⟨n, hn0, hn6, ?_, z8, fun k hk => ⟨mn hm 4 k, ?_, ?_, ?_⟩⟩, its, by omega, ?_, z3⟩
              · rw [(hk6 _ (by rw [d1']; decide)).1, d1']
              · rw [(hk6 _ (by rw [d2']; decide)).1, d2']
              · rw [(hk6 _ (by rw [d3']; decide)).1, d3']
              · rw [(hk6 _ (by rw [d3']; decide)).2, d4']
              · rw [(hk6 _ (by rw [d5']; decide)).1, d5']
              · rw [(hk6 _ (by rw [d6']; decide)).1, d6']
              · rw [(hk6 _ (by rw [d6']; decide)).2, d7']
              · rw [(hk6 _ (by rw [d8']; decide)).1, d8']
              · rw [(hk6 _ (by rw [d8']; decide)).2, d9']
              · rw [(agS.1 26 _ (by omega)).2.2, r1]
              · rw [(hI6 _ _ (by omega)).2, r2]
              · rw [(hI6 _ _ (by omega)).2, r3]
              · rw [(hI6 _ _ (by omega)).2, r4]
              · rw [(hI6 _ _ (by omega)).2, r5]
              · rw [(hI6 _ _ (by omega)).2, r6]
              · rw [(hI6 _ _ (by omega)).1, u1]
              · rw [(hI6 _ _ (by omega)).1, u2]
              · have := (hX k hk).1
                have := hnq k hk
                omega
              · rw [(hI6 _ _ (by omega)).1, u3 k hk]
                exact (hX k hk).2
              · rw [z9 k hk]
                exact (hXm k hk).2
              · rw [(hI6 _ _ (by omega)).1, u4]
            · exact (RT.pl (show p < mn (sI hm 0 35 0) 0 8 from (by omega : p < mn hm 0 8))).fr agT am (fun a k q z => by rcases z with z | z | z <;> first | (unfold DP at z; omega) | omega) (fun a k q z => by omega)
          · rw [e8] at hq
            by_cases hqP : q = mn hm 0 8
            · rw [hqP]
              exact hne p (by omega)
            · rw [hsT p (by omega), hsT q (by omega)]
              exact R.2.2.2.2.2.2.2.2.1.2.2 p q hpq (by omega)
        have cOr : cOrd (sI h5 0 13 (nI (mn hm 0 8 + 1))) hm6 := by
          refine ⟨o.insertIdx i (mn hm 0 8), by rw [oi1, e8], fun p => by rw [oi2, e8], oi3, fun k hk => ?_⟩
          rw [oi1] at hk
          have hil : i ≤ o.length := Nat.le_trans x2 (Nat.le_of_eq ol.symm)
          rw [kR_sI, ins_at hil]
          have ol' : o.length = mn hm 0 8 := ol
          by_cases k1 : k < i
          · rw [if_pos k1, x4 k k1]
            exact oe4 k (by omega)
          · rw [if_neg k1]
            by_cases k2 : k = i
            · rw [if_pos k2, k2, x6]
            · rw [if_neg k2]
              have := x5 (k - 1) (by omega) (by omega)
              rw [show k - 1 + 1 = k by omega] at this
              rw [this]
              exact oe4 (k - 1) (by omega)
        have K6 : kCx (sI h5 0 13 (nI (mn hm 0 8 + 1))) hm6 := by
          refine ⟨⟨KT.1.1.fr agT (fun a k q z => by rcases z with z | z | z <;> first | (unfold DP at z; omega) | omega), KT.1.2.fr am (fun a k q z => by omega)⟩, KT.2.1.fr agT am (fun a k q z => by rcases z with z | z | z <;> first | (unfold DP at z; omega) | omega) (fun a k q z => by omega), KT.2.2.1.fr agT am (fun a k q z => by rcases z with z | z | z <;> first | (unfold DP at z; omega) | omega) (fun a k q z => by omega), KT.2.2.2.1.fr agT am (fun a k q z => by rcases z with z | z | z <;> first | (unfold DP at z; omega) | omega) (fun a k q z => by omega), cPl, cOr, ?_, fun r hr => ?_⟩
          · rw [(agT.1 0 14 (fun z => by rcases z with z | z | z <;> first | (unfold DP at z; omega) | omega)).1, (am.1 0 16 (by omega)).1]
            exact KT.2.2.2.2.2.2.1
          · rw [e16] at hr
            exact (KT.rd (show r < mn (sI hm 0 35 0) 0 16 from hr)).fr agT am (fun a k q z => by rcases z with z | z | z <;> first | (unfold DP at z; omega) | omega) (fun a k q z => by omega)
        have A6 : AS (sI h5 0 13 (nI (mn hm 0 8 + 1))) hm6 (sPF (sI hm 0 35 0)) := by
          have A0 := RT.AS
          refine ⟨fun r hr => ?_, fun p hp => ?_⟩
          · rw [e16] at hr
            rw [(agT.1 (200 + 4 * r) 5 (fun z => by rcases z with z | z | z <;> first | (unfold DP at z; omega) | omega)).2.2, e8]
            obtain ⟨b1, b2⟩ := A0.1 r hr
            exact ⟨b1, fun p e => by have h7 : p < mn hm 0 8 := b2 p e; omega⟩
          · rw [e8] at hp
            by_cases hpP : p = mn hm 0 8
            · subst hpP
              refine ⟨[], ⟨fun k hk => absurd hk (Nat.not_lt_zero _), fun i k _ hk => absurd hk (Nat.not_lt_zero _)⟩, fun r hr => ⟨fun z => ?_, fun ⟨k, hk, _⟩ => absurd hk (Nat.not_lt_zero _)⟩, ⟨by decide, ?_, fun k hk => absurd hk (Nat.not_lt_zero _)⟩, fun k hk => absurd hk (Nat.not_lt_zero _)⟩
              · rw [e16] at hr
                have h7 : mn hm 0 8 < mn hm 0 8 := (A0.1 r hr).2 _ z
                omega
              · rw [(hI6 _ _ (by omega)).1, u5]
                rfl
            · obtain ⟨l, l1, l2, l3, l4⟩ := A0.2 p (show p < mn hm 0 8 by omega)
              refine ⟨l, l1.fr (am.1 0 16 (by omega)).1 (fun k => (am.1 13 k (by omega)).1), fun r hr => by rw [e16] at hr; exact l2 r hr, l3.fr agT (fun z => by rcases z with z | z | z <;> first | (unfold DP at z; omega) | omega) (fun k z => by rcases z with z | z | z <;> first | (unfold DP at z; omega) | omega), fun k hk => ?_⟩
              rw [(agT.1 (104 + 8 * p + 2) k (fun z => by rcases z with z | z | z <;> first | (unfold DP at z; omega) | omega)).1, sBegAt_cg (am.1 0 1 (by omega)).1 (fun k => (am.1 2 k (by omega)).1) (fun k => (am.1 12 k (by omega)).1) (fun k => (am.1 13 k (by omega)).1)]
              exact l4 k hk
        have C6 : cCor (sI h5 0 13 (nI (mn hm 0 8 + 1))) hm6 := fun r hr => by
          rw [e16] at hr
          rw [(agT.1 (200 + 4 * r) 4 (fun z => by rcases z with z | z | z <;> first | (unfold DP at z; omega) | omega)).1, (am.1 16 r (by omega)).1, (am.1 17 r (by omega)).1, e8]
          rcases RT.cCor r hr with z | ⟨z1, z2, z3⟩
          · exact Or.inl z
          · exact Or.inr ⟨z1, z2, z3.imp id (fun ⟨q, w1, w2⟩ => ⟨q, by have h7 : q < mn hm 0 8 := w1; omega, w2⟩)⟩
        obtain ⟨h7, A', f1, f2, f3, f4⟩ := K6.lead A6 (fun r hr => by
          rcases C6 r hr with ⟨z, -⟩ | ⟨z, -⟩
          · exact Or.inl z
          · exact Or.inr z)
        have K7 := K6.fr f2 DM.dk
        have C7 : cCor h7 hm6 := fun r hr => by
          rw [(f2.1 (200 + 4 * r) 4 (fun z => by unfold DM at z; omega)).1]
          exact C6 r hr
        have f5 := f3.cong (B := sPF hm6) (fun r hr => by
          rw [f4 r hr]
          rcases C6 r hr with ⟨z, z2⟩ | ⟨z, z2, z3⟩
          · have z2' : mn hm6 16 r = 0 := by unfold mn; rw [z2]; rfl
            rw [if_pos z]
            unfold sPF
            rw [if_pos z2']
          · have z2' : mn hm6 16 r = 1 := by unfold mn; rw [z2]; rfl
            have z2'' : mn (sI hm 0 35 0) 16 r = 1 := by rw [← z2']; exact (mn_cg1 (am.1 16 r (by omega)).1).symm
            have l1 : sPF (sI hm 0 35 0) r = if kI (sI hm 0 35 0) 17 r = -1 then none else some (mn (sI hm 0 35 0) 17 r) := by
              unfold sPF
              rw [if_neg (by rw [z2'']; decide)]
            have l2 : sPF hm6 r = if kI hm6 17 r = -1 then none else some (mn hm6 17 r) := by
              unfold sPF
              rw [if_neg (by rw [z2']; decide)]
            rw [if_neg (by rw [z]; decide), l1, l2, mn_cg1 (am.1 17 r (by omega)).1, (am.1 17 r (by omega)).1])
        have Z6 : cZer hm6 := fun r h1 h2 => by
          rw [e16] at h1
          rw [(am.1 16 r (by omega)).1]
          exact RT.zer r h1 h2
        have hnew := cRea_of K7 Z6 C7 f5
        have H6 : cHol (j + 1) (sI h5 0 13 (nI (mn hm 0 8 + 1))) hm6 := by
          refine cHol.reg (hm := sI hm 0 35 0) (n := n') (d := d) (M := mn hm 0 0) RT.2.2.2.2.2.2.2.2.2.2.1 hc12 (by omega) hP10 rfl hN (by omega) hj agT (fun a k q z => by
            have q' : a % 8 = 7 ∧ 100 ≤ a ∧ a < 180 ∧ a ≠ 103 + 8 * mn hm 0 8 ∨ 1000 ≤ a ∧ a < 2000 ∨ a % 8 = 4 ∧ 100 ≤ a ∧ a < 100 + 8 * mn hm 0 8 ∧ k = 4 := q
            rcases z with z | z | z <;> first | (unfold DP at z; omega) | omega) (hfree (103 + 8 * mn hm 0 8) (by omega) (by omega)) ?_ ?_ ?_ ?_ ?_ z4 e8 (am.1 0 0 (by omega)).1 (fun i k q1 q2 => (am.1 i k (by omega)).1) z5 z6 z7
          · exact (hI6 (100 + 8 * mn hm 0 8) 4 (by omega)).2.trans u6
          · exact (hk6 (103 + 8 * mn hm 0 8) (by rw [w1]; decide)).1.trans w1
          · exact (hI6 (103 + 8 * mn hm 0 8) 0 (by omega)).1.trans w2
          · exact (hI6 (103 + 8 * mn hm 0 8) 1 (by omega)).1.trans w3
          · exact (hI6 (103 + 8 * mn hm 0 8) 2 (by omega)).2.trans w4
        have H7 : cHol (j + 1) h7 hm6 := H6.fr (by omega) f2 (kAg.rf hm6) (fun a k q z => by unfold DM at z; rcases z with z | z <;> omega) (fun a k q z => z)
        have agA : kAg (fun a k => (DP (mn hm 0 8) a k ∨ a = 27 ∨ a = 0 ∧ k = 13) ∨ DM a k) (sX hx (100 + 8 * mn hm 0 8)) h7 := agT.trans f2 (fun a k q z => q (Or.inl z)) (fun a k q z => q (Or.inr z))
        have hDA : ∀ a k, a < 100 ∧ a ≠ 26 ∧ a ≠ 27 ∧ ¬ (a = 0 ∧ k = 13) ∨ 500 ≤ a ∧ a < 1000 → ¬ ((DP (mn hm 0 8) a k ∨ a = 27 ∨ a = 0 ∧ k = 13) ∨ DM a k) := fun a k q z => by
          rcases z with (z | z | z) | z
          · unfold DP at z; omega
          · omega
          · omega
          · unfold DM at z; rcases z with z | z <;> omega
        have F7 : cFre (j + 1) h7 hm6 := fun a ha => by
          rw [e8, e16, mn_cg1 (am.1 0 27 (by omega)).1, mn_cg1 (am.1 0 31 (by omega)).1] at ha
          have e27 : mn (sI hm 0 35 0) 0 27 = mn hm 0 27 := rfl
          have e31 : mn (sI hm 0 35 0) 0 31 = mn hm 0 31 := rfl
          rw [e27, e31] at ha
          have h0 : kd hx a = 0 := R.2.2.2.2.2.2.2.2.2.2.2.2.2.2.2.2 a (by omega)
          rw [(agA.2 a (Or.inr (fun z => by
            rcases z with (z | z | z) | z
            · unfold DP at z; omega
            · omega
            · omega
            · unfold DM at z; rcases z with z | z <;> omega))).1]
          exact h0
        obtain ⟨-, c1, -, c3, -, c5', c6, -, -, -, -, -, -, c13, c14, c15, -⟩ := RT.up
        have Rn : RR (j + 1) h7 hm6 := ⟨K7.1, c1.fr agA am (fun a k h => hDA a k (by omega)) (fun a k h z => by omega), K7.2.1, c3.fr agA am (fun a k h => hDA a k (by omega)) (fun a k h z => by omega), K7.2.2.1, c5'.fr agA am (fun a k h => hDA a k (by omega)) (fun a k h z => by omega), c6.fr agA am (fun a k h => hDA a k (by omega)) (fun a k h z => by omega), K7.2.2.2.1, K7.2.2.2.2.1, K7.2.2.2.2.2.1, H7, hnew.1, hnew.2, c13.fr agA am (fun a k h => hDA a k (by omega)) (fun a k h z => by omega), c14.more (by rw [e8]; exact Nat.le_succ _) agA am (fun a k h => hDA a k (by omega)) (fun a k h z => by omega), c15.fr agA am (fun a k h => hDA a k (by omega)) (fun a k h z => by omega), F7⟩
        refine op_ok (hx1 := h7) (hm1 := hm6) (100 + 8 * mn hm 0 8) (nI (mn hm 0 8)) ?_ ?_ (by rw [(am.1 0 35 (by omega)).1, kI_sI, if_pos ⟨rfl, rfl⟩]) Rn
        · show f_X9_register 0 (nI d) (nI its) (sX hx (100 + 8 * mn hm 0 8)) = _
          have hpio : f_X9_putInOrder 0 (100 + 8 * mn hm 0 8) h4 = kret () h5 := by
            unfold f_X9_putInOrder
            rw [gI_k S4.d0, e13]
            exact x1
          have k50 : kd h5 0 = 10 := by rw [(ag5.k 0 (by rw [S4.d0]; decide)).1, S4.d0]
          rw [y1, kV_k S4.d0, hpio, kb_ret, gI_k k50, e13', pI_k k50, nI_1, kV_k K6.1.1.d0, f1, kb_ret, gI_k (K7.2.2.2.2.1.2.1 (mn hm 0 8) (by omega)).1.1, (K7.2.2.2.2.1.2.1 (mn hm 0 8) (by omega)).2.2.1]
        · show f_X10_register 0 (nI d) (nI its) hm = _
          unfold f_X10_register
          rw [mdr_t q1 q2, kb_ret, in_t q3 q4, kb_ret, kif_f (by decide), kif_f (by decide), kV_k T.d0, g1, kb_ret]
          rcases g2 with ⟨s1, -⟩ | ⟨s1, s2⟩
          · rw [kif_f (by rw [s1]; decide), kV_k T.d0, g3, kb_ret]
            rcases g4 with ⟨s3, q, s4, s5⟩ | ⟨s3, -⟩
            · exact absurd s5 (hnt q s4)
            · rw [kif_t s3, gI_k T.d0, hPc.2.1, kif_f (by rw [show (10 : Int32) = nI 10 from rfl, ka_eq (by omega) (by omega)]; omega), z1]
          · rcases s2 with s2 | ⟨k, s2, s3⟩
            · omega
            · exact absurd s3 (hnq k s2)
    · refine op_noN R 1 2 0 rfl (by decide) ?_ ?_
      · show f_X9_register 0 (nI d) b (sX hx (100 + 8 * mn hm 0 8)) = _
        unfold f_X9_register f_X9_requireClass
        rw [rdr_t q1 q2, kb_ret, wi_f hq3, kb_ret, kif_t rfl]
        rfl
      · show f_X10_register 0 (nI d) b hm = _
        unfold f_X10_register
        rw [mdr_t q1 q2, kb_ret, in_f hq3, kb_ret, kif_f (by decide), kif_t rfl]
        unfold X10_register_b59
        rw [kV_k T.d0, can_n T (show (2 : Int32) ≠ 0 by decide), kb_ret, kif_t rfl]
  · refine op_noN R 3 1 0 rfl (by decide) ?_ ?_
    · show f_X9_register 0 a b (sX hx (100 + 8 * mn hm 0 8)) = _
      unfold f_X9_register
      rw [rdr_f hq]
      rfl
    · show f_X10_register 0 a b hm = _
      have hin : ∃ y, f_X10_isIn b 0 3 hm = kret y hm := by
        rcases ka_rng b 0 3 0 3 rfl rfl (by decide) (by decide) with ⟨its, i1, i2, rfl, q3, q4⟩ | hq3
        · exact ⟨1, in_t q3 q4⟩
        · exact ⟨0, in_f hq3⟩
      obtain ⟨y, ey⟩ := hin
      unfold f_X10_register
      rw [mdr_f hq, kb_ret, ey, kb_ret, kif_t rfl]
      unfold X10_register_b59
      rw [kV_k T.d0, can_n T (show (1 : Int32) ≠ 0 by decide), kb_ret, kif_t rfl]
