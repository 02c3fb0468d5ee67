/-! road -/
def LL (h : KH) (i j : Nat) : Nat := if i < 8 ∧ j < 8 then mn h 1 (8 * i + j) else 0
theorem LL_at {h : KH} {i j : Nat} (hi : i < 8) (hj : j < 8) : LL h i j = mn h 1 (8 * i + j) := if_pos ⟨hi, hj⟩
theorem dis_all {hx hm : KH} (S : kSr hx) (T : kSm hm) (c : cLen hx hm) : ∃ hx' hm', f_X6_measureAll 1 hx = kret () hx' ∧ f_X10_measures 0 hm = kret () hm' ∧ (kAg (fun a _ => 12 ≤ a ∧ a ≤ 20) hx hx' ∧ kx hx' = kx hx) ∧ kAg (fun a _ => a = 2) hm hm' ∧ cDis hx' hm' := by
  have hn : ∀ i j, i < 8 → j < 8 → LL hm i j ≤ 200 ∧ kI hx (3 + i) j = nI (LL hm i j) ∧ kI hm 1 (8 * i + j) = nI (LL hm i j) ∧ (i = j → LL hm i j = 0) := fun i j hi hj => by
    obtain ⟨n, n1, n2, n3, n4, n5⟩ := c i j hi hj
    have e : LL hm i j = n := by rw [LL_at hi hj]; exact mn_of n3 (by omega)
    rw [e]
    exact ⟨n1, n2, n3, n5⟩
  have h0 : ∀ i, LL hm i i = 0 := fun i => by
    by_cases hi : i < 8
    · exact (hn i i hi hi).2.2.2 rfl
    · exact if_neg (fun z => hi z.1)
  have hL : ∀ i j, i < 8 → j < 8 → LL hm i j ≤ 200 := fun i j hi hj => (hn i j hi hj).1
  obtain ⟨hx', e1, e2, e3⟩ := x6_all S hL h0 (fun i j hi hj => (hn i j hi hj).2.1)
  obtain ⟨hm', f1, f2, f3⟩ := tm_measures T hL (fun i j hi hj => (hn i j hi hj).2.2.1)
  refine ⟨hx', hm', e1, f1, e2, f2, fun i j hi hj => ⟨by rw [e3 i j hi hj, f3 i j hi hj], ?_⟩⟩
  rw [f3 i j hi hj]
  cases e : FWn (LL hm) 8 i j with
  | none => exact Or.inl rfl
  | some d =>
    have := FW_bound hL 8 (Nat.le_refl _) i j d hi hj e
    have h7 : 2 ^ 8 = 256 := by decide
    exact Or.inr ⟨d, by omega, rfl⟩
theorem o_road : OPI (fun a b c h => f_X9_road 0 a b c h) (fun a b c h => f_X10_road 0 a b c h) (mp2 3 1) := by
  intro j hx hm a b c hj R
  have S := R.1.1.X 0
  have T := R.1.2
  have RX := R.X 0
  have M := R.MX
  have hP := R.P
  have hR := M.2.2.1.1
  have RT := RX.thr 0
  have T1 := T.thr 0
  have hb52 : ∀ v : Int32, v ≠ 0 → X10_road_b52 0 a b c v 0 hm = kret 0 (sI hm 0 35 v) := fun v hv => by
    unfold X10_road_b52
    rw [kV_k T.d0, can_n T hv, kb_ret, kif_t rfl]
  rcases ka_rng a 0 7 0 7 rfl rfl (by decide) (by decide) with ⟨x, x1, x2, rfl, q1, q2⟩ | hq
  · rcases ka_rng b 0 7 0 7 rfl rfl (by decide) (by decide) with ⟨y, y1, y2, rfl, q3, q4⟩ | hq3
    · by_cases hxy : x = y
      · refine op_no R 1 2 0 rfl (by decide) ?_ ?_
        · show f_X9_road 0 (nI x) (nI y) c (sX hx 0) = _
          unfold f_X9_road X9_road_b24
          rw [rgt_t q1 q2, kb_ret, rgt_t q3 q4, kb_ret, kif_t (by rw [hxy])]
        · show f_X10_road 0 (nI x) (nI y) c hm = _
          unfold f_X10_road
          rw [mgt_t q1 q2, kb_ret, kif_f (by decide), mgt_t q3 q4, kb_ret, kif_f (by decide)]
          unfold X10_road_b19
          rw [kif_f (by decide), kif_t (by rw [hxy])]
          unfold X10_road_b47
          rw [hb52 2 (by decide)]
      · have hne : ¬ nI x = nI y := by rw [ka_eq (by omega) (by omega)]; exact hxy
        rcases ka_rng c 0 200 0 200 rfl rfl (by decide) (by decide) with ⟨v, v1, v2, rfl, q5, q6⟩ | hq5
        · have lx : kd (sX hx 0) (3 + x) = 21 ∧ kn (sX hx 0) (3 + x) = 8 := by
            have e1 := S.1 (3 + x) (by omega)
            have e2 := xD3_at x (by omega)
            exact ⟨e1.1.trans e2.1, e1.2.trans e2.2⟩
          have ly : kd (sX hx 0) (3 + y) = 21 ∧ kn (sX hx 0) (3 + y) = 8 := by
            have e1 := S.1 (3 + y) (by omega)
            have e2 := xD3_at y (by omega)
            exact ⟨e1.1.trans e2.1, e1.2.trans e2.2⟩
          obtain ⟨n, n1, n2, n3, n4, n5⟩ := R.2.2.2.1 x y (by omega) (by omega)
          have ag1 : kAg (fun i _ => 3 ≤ i ∧ i ≤ 10) (sX hx 0) (sI (sI (sX hx 0) (3 + x) y (nI v)) (3 + y) x (nI v)) := (kAg.I (sX hx 0) (3 + x) y (nI v)).trans (kAg.I _ (3 + y) x (nI v)) (fun i k q z => q (by omega)) (fun i k q z => q (by omega))
          have am1 : kAg (fun i _ => i = 1) (sI hm 0 35 0) (sI (sI (sI hm 0 35 0) 1 (8 * x + y) (nI v)) 1 (8 * y + x) (nI v)) := (kAg.I (sI hm 0 35 0) 1 (8 * x + y) (nI v)).trans (kAg.I _ 1 (8 * y + x) (nI v)) (fun i k q z => q z.1) (fun i k q z => q z.1)
          have S1 : kSx (sI (sX hx 0) (3 + x) y (nI v)) := S.fr (kAg.I _ (3 + x) y _) (fun a k z1 z2 => by omega)
          have S2 : kSx (sI (sI (sX hx 0) (3 + x) y (nI v)) (3 + y) x (nI v)) := S.fr ag1 (fun a k z1 z2 => by omega)
          have T2 : kSm (sI (sI hm 0 35 0) 1 (8 * x + y) (nI v)) := T1.fr (kAg.I _ 1 _ _) (fun a k z1 z2 => by omega)
          have T3 : kSm (sI (sI (sI hm 0 35 0) 1 (8 * x + y) (nI v)) 1 (8 * y + x) (nI v)) := T1.fr am1 (fun a k z1 z2 => by omega)
          have cL : cLen (sI (sI (sX hx 0) (3 + x) y (nI v)) (3 + y) x (nI v)) (sI (sI (sI hm 0 35 0) 1 (8 * x + y) (nI v)) 1 (8 * y + x) (nI v)) := by
            intro i k hi hk
            obtain ⟨n', w1, w2, w3, w4, w5⟩ := R.2.2.2.1 i k hi hk
            by_cases h1 : (i = x ∧ k = y) ∨ (i = y ∧ k = x)
            · refine ⟨v, v2, ?_, ?_, ?_, fun e => by omega⟩
              · rw [kI_sI, kI_sI]
                rcases h1 with h1 | h1
                · rw [if_neg (by omega), if_pos (by omega)]
                · rw [if_pos (by omega)]
              · rw [kI_sI, kI_sI]
                rcases h1 with h1 | h1
                · rw [if_neg (by omega), if_pos (by omega)]
                · rw [if_pos (by omega)]
              · rw [kI_sI, kI_sI]
                rcases h1 with h1 | h1
                · rw [if_pos (by omega)]
                · rw [if_neg (by omega), if_pos (by omega)]
            · refine ⟨n', w1, ?_, ?_, ?_, w5⟩
              · rw [kI_sI, if_neg (by omega), kI_sI, if_neg (by omega)]
                exact w2
              · rw [kI_sI, if_neg (by omega), kI_sI, if_neg (by omega)]
                exact w3
              · rw [kI_sI, if_neg (by omega), kI_sI, if_neg (by omega)]
                exact w4
          obtain ⟨h2, hm2, e1, f1, ⟨ag2, -⟩, am2, cD⟩ := dis_all S2.sr T3 cL
          have ag12 : kAg (fun i _ => 3 ≤ i ∧ i ≤ 10 ∨ 12 ≤ i ∧ i ≤ 20) (sX hx 0) h2 := ag1.trans ag2 (fun i k q z => q (Or.inl z)) (fun i k q z => q (Or.inr z))
          have am12 : kAg (fun i _ => i = 1 ∨ i = 2) (sI hm 0 35 0) hm2 := am1.trans am2 (fun i k q z => q (Or.inl z)) (fun i k q z => q (Or.inr z))
          have KT := RT.kCx
          have cA := KT.2.2.2.1.fr ag12 am12 (fun a k z1 z2 => by omega) (fun a k z1 z2 => by omega)
          have cP := KT.2.1.fr ag12 am12 (fun a k z1 z2 => by omega) (fun a k z1 z2 => by omega)
          have K2 := KT.fr2 ag12 am12 cA cD cP (fun a k z1 z2 => by unfold FX at z1; omega) (fun a k z1 z2 => by unfold FM at z1; omega)
          have A2 := RT.AS.ar.fr hP hR ag12 am12 (fun a k z1 z2 => by omega) (fun a k z1 z2 => by omega)
          obtain ⟨h3, g1, g2', g3⟩ := K2.joinAllAgain A2
          have g2 : kAg DM h2 h3 := g2'.sub jaDM
          have K3 := K2.fr g2 DM.dk
          have C3 : cCor h3 hm2 := fun s hs => by
            rw [(g2.1 (200 + 4 * s) 4 (fun z => by unfold DM at z; omega)).1, (ag12.1 (200 + 4 * s) 4 (fun z => by omega)).1, (am12.1 16 s (fun z => by omega)).1, (am12.1 17 s (fun z => by omega)).1, mn_cg1 (am12.1 0 8 (fun z => by omega)).1]
            exact RT.cCor s (by rw [← mn_cg1 (am12.1 0 16 (fun z => by omega)).1]; exact hs)
          have f5 := g3.cong (B := sPF hm2) (fun s hs => (sPF_cg (am12.1 0 8 (fun z => by omega)).1 (fun a ha k => (am12.1 a k (fun z => by omega)).1) s).symm)
          have ag : kAg (fun i k => (3 ≤ i ∧ i ≤ 10 ∨ 12 ≤ i ∧ i ≤ 20) ∨ DM i k) (sX hx 0) h3 := ag12.trans g2 (fun i k q z => q (Or.inl z)) (fun i k q z => q (Or.inr z))
          have agL : kAg (fun i k => (12 ≤ i ∧ i ≤ 20) ∨ DM i k) (sI (sI (sX hx 0) (3 + x) y (nI v)) (3 + y) x (nI v)) h3 := ag2.trans g2 (fun i k q z => q (Or.inl z)) (fun i k q z => q (Or.inr z))
          have cL3 := cL.fr agL am2 (fun a k z1 z2 => z2.elim (fun z => by omega) (fun z => by unfold DM at z; omega)) (fun a k z1 z2 => by omega)
          have Rn := rr_fin RT K3 C3 f5 cL3 ag am12 (fun a z => z.elim (fun z => by omega) (fun z => by unfold DM at z; omega)) (fun a k z1 z2 => z2.elim (fun z => by omega) (FRd_DM a k z1)) (fun a k z1 z2 => by omega) (fun s h1 z => by omega)
          refine op_ok (hx1 := h3) (hm1 := hm2) 0 (nI n) ?_ ?_ (by rw [(am12.1 0 35 (fun z => by omega)).1, kI_sI, if_pos ⟨rfl, rfl⟩]) Rn
          · show f_X9_road 0 (nI x) (nI y) (nI v) (sX hx 0) = _
            have hlen : f_X6_lengthOf 1 (nI x) (nI y) (sX hx 0) = kret (nI n) (sX hx 0) := by
              unfold f_X6_lengthOf
              rw [gN_k S.d1 S.r1_0, gAN_k S.d2 (by rw [S.n2]; omega) (by omega) ((S.2.2.2.1 x (by omega)).trans (x2_at x (by omega))), gAI_k lx.1 (by omega) (by omega), show kI (sX hx 0) (3 + x) y = nI n from n2]
            have hbuild : f_X6_build 1 (nI x) (nI y) (nI v) (sX hx 0) = kret () h2 := by
              have ly1 : kd (sI (sX hx 0) (3 + x) y (nI v)) (3 + y) = 21 := ly.1
              have ly2 : kn (sI (sX hx 0) (3 + x) y (nI v)) (3 + y) = 8 := ly.2
              unfold f_X6_build
              rw [gN_k S.d1 S.r1_0, gAN_k S.d2 (by rw [S.n2]; omega) (by omega) ((S.2.2.2.1 x (by omega)).trans (x2_at x (by omega))), pAI_k lx.1 (by omega) (by omega), gN_k S1.d1 S1.r1_0, gAN_k S1.d2 (by rw [S1.n2]; omega) (by omega) ((S1.2.2.2.1 y (by omega)).trans (x2_at y (by omega))), pAI_k ly1 (by omega) (by omega), kV_k S2.d1, e1, kb_ret]
            unfold f_X9_road
            rw [rgt_t q1 q2, kb_ret, rgt_t q3 q4, kb_ret, kif_f hne, wi_t q5 q6, kb_ret, kif_f (by decide), gN_k S.d0 S.r0_0, kV_k S.d1, hlen, kb_ret, gN_k S.d0 S.r0_0, kV_k S.d1, hbuild, kb_ret, kV_k K2.1.1.d0, g1, kb_ret]
          · show f_X10_road 0 (nI x) (nI y) (nI v) hm = _
            unfold f_X10_road
            rw [mgt_t q1 q2, kb_ret, kif_f (by decide), mgt_t q3 q4, kb_ret, kif_f (by decide)]
            unfold X10_road_b19
            rw [kif_f (by decide), kif_f hne, in_t q5 q6, kb_ret, kif_f (by decide)]
            unfold X10_road_b52
            rw [kV_k T.d0, can_0 T, kb_ret, kif_f (by decide), gN_k T1.d0 T1.r2, mc_idx8, gAI_k T1.d1 (by rw [T1.n1]; omega) (by omega), show kI (sI hm 0 35 0) 1 (8 * x + y) = nI n from n3, gN_k T1.d0 T1.r2, pAI_k T1.d1 (by rw [T1.n1]; omega) (by omega), gN_k T2.d0 T2.r2, mc_idx8, pAI_k T2.d1 (by rw [T2.n1]; omega) (by omega), kV_k T3.d0, f1, kb_ret]
        · refine op_no R 1 2 0 rfl (by decide) ?_ ?_
          · show f_X9_road 0 (nI x) (nI y) c (sX hx 0) = _
            unfold f_X9_road X9_road_b24
            rw [rgt_t q1 q2, kb_ret, rgt_t q3 q4, kb_ret, kif_f hne, wi_f hq5, kb_ret, kif_t rfl]
          · show f_X10_road 0 (nI x) (nI y) c hm = _
            unfold f_X10_road
            rw [mgt_t q1 q2, kb_ret, kif_f (by decide), mgt_t q3 q4, kb_ret, kif_f (by decide)]
            unfold X10_road_b19
            rw [kif_f (by decide), kif_f hne, in_f hq5, kb_ret, kif_t rfl]
            unfold X10_road_b47
            rw [hb52 2 (by decide)]
    · refine op_no R 3 1 0 rfl (by decide) ?_ ?_
      · show f_X9_road 0 (nI x) b c (sX hx 0) = _
        unfold f_X9_road
        rw [rgt_t q1 q2, kb_ret, rgt_f hq3]
        rfl
      · show f_X10_road 0 (nI x) b c hm = _
        unfold f_X10_road
        rw [mgt_t q1 q2, kb_ret, kif_f (by decide), mgt_f hq3, kb_ret, kif_t rfl]
        unfold X10_road_b18 X10_road_b19
        rw [kif_t rfl, hb52 1 (by decide)]
  · refine op_no R 3 1 0 rfl (by decide) ?_ ?_
    · show f_X9_road 0 a b c (sX hx 0) = _
      unfold f_X9_road
      rw [rgt_f hq]
      rfl
    · show f_X10_road 0 a b c hm = _
      unfold f_X10_road
      rw [mgt_f hq, kb_ret, kif_t rfl]
      unfold X10_road_b18 X10_road_b19
      rw [kif_t rfl, hb52 1 (by decide)]
