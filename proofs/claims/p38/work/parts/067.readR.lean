theorem o_read : OPN (fun _ hm => 200 + 4 * mn hm 0 16) (fun a b c h => f_X9_read 0 a b h) (fun a b c h => f_X10_read 0 a b h) (mp3 3 1 2) := by
  intro j hx hm a b c hj R
  have S0 := R.1.1.X (200 + 4 * mn hm 0 16)
  have T := R.1.2
  have M := R.MX
  have hP := R.P
  obtain ⟨eX, eN, hN⟩ := R.min
  have hR60 := M.2.2.1.1
  have hR16 := M.2.2.1.2
  have hRx := R.kCx.R.1
  obtain ⟨n, hn6, e22, e5, htx⟩ := R.2.2.2.2.2.2.1
  rcases ka_rng a 0 7 0 7 rfl rfl (by decide) (by decide) with ⟨x, x1, x2, rfl, q1, q2⟩ | hq
  · rcases ka_rng b 0 (nI (mn hm 0 0)) 0 (mn hm 0 0) rfl rfl (by omega) (by decide) with ⟨m, m1, m2, rfl, q3, q4⟩ | hq3
    · by_cases hbad : n = 0 ∨ mn hm 0 16 = 60
      · refine op_noN R 2 3 0 rfl (by decide) ?_ ?_
        · show f_X9_read 0 (nI x) (nI m) (sX hx (200 + 4 * mn hm 0 16)) = _
          unfold f_X9_read
          rw [rgt_t q1 q2, kb_ret, kV_k S0.d0, (R.X (200 + 4 * mn hm 0 16)).reqMin q3 q4, kb_ret, gN_k S0.d0 S0.r0_2, gI_k S0.d22, show kI (sX hx (200 + 4 * mn hm 0 16)) 22 1 = nI n from e22]
          unfold X9_read_b28
          by_cases h0 : n = 0
          · rw [kif_t (by rw [h0]; rfl)]
          · rw [kif_f (by rw [show (0 : Int32) = nI 0 from rfl, ka_eq (by omega) (by omega)]; exact h0), gI_k S0.d0, show kI (sX hx (200 + 4 * mn hm 0 16)) 0 14 = nI (mn hm 0 16) from hRx, kif_f (by rw [show (60 : Int32) = nI 60 from rfl, ka_lt (by omega) (by omega)]; omega)]
        · show f_X10_read 0 (nI x) (nI m) hm = _
          unfold f_X10_read
          have hc : X10_read_b46 0 (nI x) (nI m) 0 hm = kret 0 (sI hm 0 35 3) := by
            unfold X10_read_b46 X10_read_b51
            rw [kV_k T.d0, can_n T (show (3 : Int32) ≠ 0 by decide), kb_ret, kif_t rfl]
          rw [mgt_t q1 q2, kb_ret, kif_f (by decide), gI_k T.d0, eN, in_t q3 q4, kb_ret, kif_f (by decide), gI_k T.d0, e5]
          by_cases h0 : n = 0
          · rw [kif_t (by rw [h0]; rfl), hc]
          · rw [kif_f (by rw [show (0 : Int32) = nI 0 from rfl, ka_eq (by omega) (by omega)]; exact h0), gI_k T.d0, hR16, kif_t (by rw [show (60 : Int32) = nI 60 from rfl, ka_eq (by omega) (by omega)]; omega), hc]
      · have RX := R.X (200 + 4 * mn hm 0 16)
        have RT := RX.thr 0
        have M0 := RT.MX
        have KT := RT.kCx
        have hfree : ∀ a, 200 + 4 * mn hm 0 16 ≤ a → a ≤ 202 + 4 * mn hm 0 16 → kd hx a = 0 := fun a h1 h2 => R.2.2.2.2.2.2.2.2.2.2.2.2.2.2.2.2 a (by omega)
        obtain ⟨h5, y1, ag, ⟨y2, y3, y4, y5⟩, ⟨y6, y7, y8⟩, y9, y10, y11, y12, y13, y14, y15, y16⟩ := x_read (h := sX hx (200 + 4 * mn hm 0 16)) (n := n) (R := mn hm 0 16) (x := x) (m := m) (R.1.1.X _) rfl hfree (by omega) hn6 e22 (by omega) hRx q1 q2 (RX.reqMin q3 q4)
        obtain ⟨hm5, z1, am, z2, z3, z4, z5, z6⟩ := tm_read (h := hm) (n := n) (R := mn hm 0 16) (g := nI x) (m := nI m) T hn6 (by omega) e5 hR16
        have e16 : mn hm5 0 16 = mn hm 0 16 + 1 := mn_of z2 (by omega)
        have e8 : mn hm5 0 8 = mn hm 0 8 := mn_cg1 (am.1 0 8 (by omega)).1
        have hZ0 : kI hm5 16 (mn hm 0 16) = 0 := by
          rw [(am.1 16 _ (by omega)).1]
          exact RT.zer _ (Nat.le_refl _) (by omega)
        have K5 : kCx h5 hm5 := by
          refine ⟨⟨KT.1.1.fr ag (fun a k w1 w2 => by unfold DR at w2; omega), KT.1.2.fr am (fun a k w1 w2 => by omega)⟩, KT.2.1.fr ag am (fun a k w1 w2 => by unfold DR at w2; omega) (fun a k w1 w2 => by omega), KT.2.2.1.fr ag am (fun a k w1 w2 => by unfold DR at w2; omega) (fun a k w1 w2 => by omega), KT.2.2.2.1.fr ag am (fun a k w1 w2 => by unfold DR at w2; omega) (fun a k w1 w2 => by omega), KT.2.2.2.2.1.fr ag am (fun a k w1 w2 => by unfold DR at w2; omega) (fun a k w1 w2 => by omega), KT.2.2.2.2.2.1.fr ag am (fun a k w1 w2 => by unfold DR at w2; omega) (fun a k w1 w2 => by omega), ⟨mn hm 0 16 + 1, by omega, y16, z2⟩, fun r hr => ?_⟩
          rw [e16] at hr
          by_cases hrR : r = mn hm 0 16
          · subst hrR
            exact ⟨⟨y2, y3, y4, y5⟩, ⟨y6, y7, y8⟩, y9, ⟨x, by omega, y10, z3⟩, ⟨m, by omega, y11, z4⟩, n, by omega, hn6, y14, z5, fun k hk => by
              obtain ⟨v, v1, v2, v3⟩ := htx k hk
              exact ⟨v, v1, (y15 k hk).trans v2, (z6 k hk).trans v3⟩⟩
          · exact (KT.rd (show r < mn (sI hm 0 35 0) 0 16 from (by omega : r < mn hm 0 16))).fr ag am (fun a k w1 w2 => by unfold DR at w2; omega) (fun a k w1 w2 => by omega)
        have A5 := RT.AS.grow (R := mn hm 0 16) rfl (by omega) hP e16 ag am (fun a k w1 w2 => by unfold DR at w2; omega) (fun a k w1 w2 => by omega) y13
        have C5 : cCor h5 hm5 := fun r hr => by
          rw [e16] at hr
          by_cases hrR : r = mn hm 0 16
          · subst hrR
            exact Or.inl ⟨y12, hZ0⟩
          · rw [(ag.1 (200 + 4 * r) 4 (fun w => by unfold DR at w; omega)).1, (am.1 16 r (by omega)).1, (am.1 17 r (by omega)).1, e8]
            exact RT.cCor r (show r < mn hm 0 16 by omega)
        have hRr : mn hm 0 16 < mn hm5 0 16 := by omega
        obtain ⟨h9, f1, f2, f3⟩ := K5.move A5 hRr (o := sBest (mn hm5) (mn hm 0 16) (mn hm5 0 8)) (fun p e => (sBest_lt _ _ e).1)
        have K9 := K5.fr f2 DM.dk
        have C9 : cCor h9 hm5 := fun r hr => by
          rw [(f2.1 (200 + 4 * r) 4 (fun w => by unfold DM at w; omega)).1]
          exact C5 r hr
        have f5 := f3.cong (B := sPF hm5) (fun s hs => by
          rw [e16] at hs
          unfold uP
          by_cases hsR : s = mn hm 0 16
          · rw [if_pos hsR, hsR]
            unfold sPF
            rw [if_pos (by unfold mn; rw [← show mn hm 0 16 = (kI hm 0 16).toNatClampNeg from rfl, hZ0]; rfl)]
          · rw [if_neg hsR]
            show (if s = mn hm 0 16 then none else sPF (sI hm 0 35 0) s) = _
            rw [if_neg hsR]
            exact (sPF_cgw (h := sI hm 0 35 0) (am.1 0 8 (by omega)).1 (fun a ha k => (am.1 a k (by omega)).1) (am.1 14 s (by omega)).1 (M0.2.2.2.2.1 s (show s < mn hm 0 16 by omega)).2.2.1.2 (fun k hk => (am.1 15 _ (by omega)).1) (am.1 16 s (by omega)).1 (am.1 17 s (by omega)).1).symm)
        have agT : kAg (fun i k => DR (mn hm 0 16) i k ∨ DM i k) (sX hx (200 + 4 * mn hm 0 16)) h9 := ag.trans f2 (fun i k q z => q (Or.inl z)) (fun i k q z => q (Or.inr z))
        have cL := RT.2.2.2.1.fr agT am (fun a k w1 w2 => w2.elim (fun w => by unfold DR at w; omega) (fun w => by unfold DM at w; omega)) (fun a k w1 w2 => by omega)
        have Z5 : cZer hm5 := fun r h1 h2 => by
          rw [e16] at h1
          rw [(am.1 16 r (by omega)).1]
          exact RT.zer r (show mn hm 0 16 ≤ r by omega) h2
        have F5 : cFre (j + 1) h9 hm5 := fun a ha => by
          rw [e8, e16, mn_cg1 (am.1 0 27 (by omega)).1, mn_cg1 (am.1 0 31 (by omega)).1] at ha
          have h0 : kd hx a = 0 := R.2.2.2.2.2.2.2.2.2.2.2.2.2.2.2.2 a (by
            have e27 : mn (sI hm 0 35 0) 0 27 = mn hm 0 27 := rfl
            have e31 : mn (sI hm 0 35 0) 0 31 = mn hm 0 31 := rfl
            omega)
          rw [(agT.2 a (Or.inr (fun w => w.elim (fun w => by unfold DR at w; omega) (fun w => by unfold DM at w; omega)))).1]
          exact h0
        have Rn := rr_fin2 RT K9 Z5 C9 f5 cL F5 agT am (fun a k w1 w2 => w2.elim (fun w => by unfold FRd at w1; unfold DR at w; omega) (FRd_DM a k w1)) (fun a k w1 w2 => by omega)
        refine op_ok (hx1 := h9) (hm1 := hm5) (200 + 4 * mn hm 0 16) (nI (mn hm 0 16)) ?_ ?_ (by rw [(am.1 0 35 (by omega)).1, kI_sI, if_pos ⟨rfl, rfl⟩]) Rn
        · show f_X9_read 0 (nI x) (nI m) (sX hx (200 + 4 * mn hm 0 16)) = _
          rw [y1, kV_k K5.1.1.d0, K5.byText hRr, kb_ret, kV_k K5.1.1.d0, f1, kb_ret, gI_k (K9.rd hRr).1.1, (K9.rd hRr).2.2.1]
        · show f_X10_read 0 (nI x) (nI m) hm = _
          unfold f_X10_read
          rw [mgt_t q1 q2, kb_ret, kif_f (by decide), gI_k T.d0, eN, in_t q3 q4, kb_ret, kif_f (by decide), gI_k T.d0, e5, kif_f (by rw [show (0 : Int32) = nI 0 from rfl, ka_eq (by omega) (by omega)]; omega), gI_k T.d0, hR16, kif_f (by rw [show (60 : Int32) = nI 60 from rfl, ka_eq (by omega) (by omega)]; omega), z1]
    · refine op_noN R 1 2 0 rfl (by decide) ?_ ?_
      · show f_X9_read 0 (nI x) b (sX hx (200 + 4 * mn hm 0 16)) = _
        unfold f_X9_read
        rw [rgt_t q1 q2, kb_ret, kV_k S0.d0, (R.X (200 + 4 * mn hm 0 16)).reqMinNo hq3]
        rfl
      · show f_X10_read 0 (nI x) b hm = _
        unfold f_X10_read
        rw [mgt_t q1 q2, kb_ret, kif_f (by decide), gI_k T.d0, eN, in_f hq3, kb_ret, kif_t rfl]
        unfold X10_read_b51
        rw [kV_k T.d0, can_n T (show (2 : Int32) ≠ 0 by decide), kb_ret, kif_t rfl]
  · refine op_noN R 3 1 0 rfl (by decide) ?_ ?_
    · show f_X9_read 0 a b (sX hx (200 + 4 * mn hm 0 16)) = _
      unfold f_X9_read
      rw [rgt_f hq]
      rfl
    · show f_X10_read 0 a b hm = _
      unfold f_X10_read
      rw [mgt_f hq, kb_ret, kif_t rfl]
      unfold X10_read_b51
      rw [kV_k T.d0, can_n T (show (1 : Int32) ≠ 0 by decide), kb_ret, kif_t rfl]
