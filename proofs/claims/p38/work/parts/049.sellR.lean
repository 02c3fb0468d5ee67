/-! sell: both -/
theorem rdr_t {b : Int32} {h : KH} (h1 : ¬ b < 0) (h2 : ¬ 5 < b) : f_X9_requireDriver b h = kret () h := by
  unfold f_X9_requireDriver
  rw [wi_t h1 h2, kb_ret, kif_f (by decide)]
theorem rdr_f {b : Int32} {h : KH} (h1 : b < 0 ∨ 5 < b) : f_X9_requireDriver b h = kthrow 3 h := by
  unfold f_X9_requireDriver
  rw [wi_f h1, kb_ret, kif_t rfl]
theorem mdr_t {b : Int32} {h : KH} (h1 : ¬ b < 0) (h2 : ¬ 5 < b) : f_X10_isDriver b h = kret 1 h := by
  unfold f_X10_isDriver
  rw [in_t h1 h2, kb_ret]
  rfl
theorem mdr_f {b : Int32} {h : KH} (h1 : b < 0 ∨ 5 < b) : f_X10_isDriver b h = kret 0 h := by
  unfold f_X10_isDriver
  rw [in_f h1, kb_ret]
  rfl
theorem nI_inj {a b : Nat} (h : nI a = nI b) (ha : a < 2147483648) (hb : b < 2147483648) : a = b := by
  rw [ka_eq ha hb] at h
  exact h
theorem o_sell : OPN (fun j _ => 1000 + j) (fun a b c h => f_X9_sell 0 a b h) (fun a b c h => f_X10_sell 0 a b h) (mp1 3) := by
  intro j hx hm a b c hj R
  have T := R.1.2
  have hP := R.P
  obtain ⟨eX, eN, hN⟩ := R.min
  obtain ⟨n, hn, hc, hh, hd⟩ := R.holdN
  rcases ka_below a (mn hm 0 8) (by omega) with ⟨p, hp, rfl, q1, q2⟩ | hq
  · rcases ka_rng b 0 5 0 5 rfl rfl (by decide) (by decide) with ⟨d, d1, d2, rfl, q3, q4⟩ | hq3
    · have S := R.1.1.X (1000 + j)
      have RX := R.X (1000 + j)
      have RT := RX.thr 0
      have R1 := RT.up
      obtain ⟨n', hn', hc', hh', hd'⟩ := RT.2.2.2.2.2.2.2.2.2.2.1
      obtain rfl : n' = n := nI_inj (hc'.symm.trans hc) (by omega) (by omega)
      obtain ⟨⟨ad, ea⟩, ech, edr⟩ := hd' p hp
      rw [ea] at ech edr
      obtain ⟨k1, k2, ⟨s, hs, es⟩, ⟨dd, hdd, ed⟩, k5⟩ := ech
      have hfr : kd hx (1000 + j) = 0 := R.2.2.2.2.2.2.2.2.2.2.2.2.2.2.2.2 (1000 + j) (by omega)
      have hval : kI hx ad 0 = sHold hm p (mn hm 0 0) n' := by
        have e1 := edr 50000
        have e2 : xDrv (sX hx (1000 + j)) 50000 (j + 1) (some ad) = kI hx ad 0 := by
          show (if _ then _ else _) = _
          rw [if_pos (by unfold mn; rw [es, nI_clamp (by omega)]; exact hs)]
          rfl
        rw [e2] at e1
        rw [e1, sHold_cg (h := hm) (h' := sI hm 0 35 0) (fun k => rfl) (fun k => rfl) (fun k => rfl)]
        refine sHold_late (h := hm) (m := mn hm 0 0) (M := 50000) n' (fun k hk => ?_) hN
        obtain ⟨-, -, s', hs', es'⟩ := hh' k hk
        have es2 : kI hm 11 k = nI s' := es'
        unfold mn at hs' ⊢
        rw [es2, nI_clamp (by have : (kI hm 0 0).toNatClampNeg ≤ 50000 := hN; have h3 : s' ≤ (kI hm 0 0).toNatClampNeg := hs'; omega)]
        exact hs'
      have ag : kAg (fun a k => (a = 1000 + j ∨ a = 1000 + j + 1000000) ∨ a = 100 + 8 * p ∧ k = 4) (sX hx (1000 + j)) (xSell (sX hx (1000 + j)) (100 + 8 * p) (nI d) (nI (mn hm 0 0)) (if s = mn hm 0 0 then kR hx ad 2 else some ad)) := xSell_ag (h := sX hx (1000 + j)) (pl := 100 + 8 * p) (d := nI d) (m := nI (mn hm 0 0)) (b := if s = mn hm 0 0 then kR hx ad 2 else some ad) hfr
      have am := mHolds_ag (sI hm 0 35 0) (nI p) (nI d) (nI (mn hm 0 0)) n'
      refine op_ok (hx1 := xSell (sX hx (1000 + j)) (100 + 8 * p) (nI d) (nI (mn hm 0 0)) (if s = mn hm 0 0 then kR hx ad 2 else some ad)) (hm1 := mHolds (sI hm 0 35 0) (nI p) (nI d) (nI (mn hm 0 0)) n') (1000 + j) (sHold hm p (mn hm 0 0) n') ?_ ?_ (by rw [(am.1 0 35 (by omega)).1, kI_sI, if_pos ⟨rfl, rfl⟩]) ?_
      · show f_X9_sell 0 (nI p) (nI d) (sX hx (1000 + j)) = _
        unfold f_X9_sell
        rw [kV_k S.d0, RX.plate hp q1 q2, kb_ret, rdr_t q3 q4, kb_ret, gR_k (RX.pl hp).1.1, ea, kmay_s, gI_k k1, gI_k S.d0, kV_k (RX.pl hp).1.1]
        rw [show kI (sX hx (1000 + j)) 0 12 = nI (mn hm 0 0) from eX, t0_sellTo (h := sX hx (1000 + j)) (RX.pl hp).1.1 ea k1 es (by omega) (by omega) hfr, kb_ret]
        rw [← hval]
        rfl
      · show f_X10_sell 0 (nI p) (nI d) hm = _
        unfold f_X10_sell
        rw [kV_k T.d0, R.isPlate q1 q2, kb_ret, kif_f (by decide), mdr_t q3 q4, kb_ret, kif_f (by decide)]
        unfold X10_sell_b21
        rw [kV_k T.d0, can_0 T, kb_ret, kif_f (by decide), gI_k (T.thr 0).d0, show kI (sI hm 0 35 0) 0 0 = nI (mn hm 0 0) from eN, kV_k (T.thr 0).d0, tm_holderAt (T.thr 0) hc (by omega) hh (by omega) (by omega), kb_ret, kV_k (T.thr 0).d0, tm_holds (T.thr 0) hc eN (by omega), kb_ret]
        rw [sHold_cg (h := hm) (h' := sI hm 0 35 0) (fun k => rfl) (fun k => rfl) (fun k => rfl)]
      · have hfr0 : kd (sX hx (1000 + j)) (1000 + j) = 0 := hfr
        have hcell : cHol (j + 1) (xSell (sX hx (1000 + j)) (100 + 8 * p) (nI d) (nI (mn hm 0 0)) (if s = mn hm 0 0 then kR hx ad 2 else some ad)) (mHolds (sI hm 0 35 0) (nI p) (nI d) (nI (mn hm 0 0)) n') := by
          refine RT.2.2.2.2.2.2.2.2.2.2.1.sell (n := n') (p := p) (M := mn hm 0 0) (d := d) (a := ad) (s := s) hc' (by omega) hp hP rfl hN (by omega) hj ea es hs hfr0 ag ?_ ?_ ?_ ?_ ?_ ?_ ?_ ?_ ?_ ?_ ?_ ?_
          · show (if _ then _ else _) = _
            rw [if_pos ⟨rfl, rfl⟩]
            rfl
          · exact if_pos rfl
          · show (if _ then _ else _) = _
            rw [if_neg (by omega)]
            show (if _ then _ else _) = _
            rw [if_pos ⟨rfl, rfl⟩]
          · show (if _ then _ else _) = _
            rw [if_pos ⟨rfl, rfl⟩]
          · show (if _ then _ else _) = _
            rw [if_neg (by omega)]
            show (if _ then _ else _) = _
            rw [if_pos ⟨rfl, rfl⟩]
            rfl
          · unfold mHolds
            rw [kI_sI, if_pos ⟨rfl, rfl⟩]
          · exact (am.1 0 8 (by omega)).1
          · exact (am.1 0 0 (by omega)).1
          · exact fun i k hi hk => (am.1 i k (by omega)).1
          · unfold mHolds
            rw [kI_sI, if_neg (by omega), kI_sI, if_neg (by omega), kI_sI, if_neg (by omega), kI_sI, if_pos ⟨rfl, rfl⟩]
          · unfold mHolds
            rw [kI_sI, if_neg (by omega), kI_sI, if_neg (by omega), kI_sI, if_pos ⟨rfl, rfl⟩]
          · unfold mHolds
            rw [kI_sI, if_neg (by omega), kI_sI, if_pos ⟨rfl, rfl⟩]
        generalize hX1 : xSell (sX hx (1000 + j)) (100 + 8 * p) (nI d) (nI (mn hm 0 0)) (if s = mn hm 0 0 then kR hx ad 2 else some ad) = hx1 at ag hcell ⊢
        have hP := R1.P
        obtain ⟨⟨sx, sm⟩, c1, c2, c3, c4, c5, c6, c7, c8, c9, c10, c11, c12, c13, c14, c15, c16⟩ := R1
        refine ⟨⟨sx.fr ag ?_, sm.fr am ?_⟩, c1.fr ag am ?_ ?_, c2.fr ag am ?_ ?_, c3.fr ag am ?_ ?_, c4.fr ag am ?_ ?_, c5.fr ag am ?_ ?_, c6.fr ag am ?_ ?_, c7.fr ag am ?_ ?_, c8.fr ag am ?_ ?_, c9.fr ag am ?_ ?_, ?_, c11.fr ag am ?_ ?_, c12.fr hP ag am ?_ ?_, c13.fr ag am ?_ ?_, c14.fr ag am ?_ ?_, c15.fr ag am ?_ ?_, ?_⟩
        all_goals first
          | (intro a k h1 h2; omega)
          | skip
        · exact hcell
        · intro a ha
          rw [mn_cg1 (am.1 0 8 (by omega)).1, mn_cg1 (am.1 0 16 (by omega)).1, mn_cg1 (am.1 0 27 (by omega)).1, mn_cg1 (am.1 0 31 (by omega)).1] at ha
          rw [← hX1]
          show (if a = 1000 + j then 2 else kd hx a) = 0
          rw [if_neg (by omega)]
          exact c16 a ha
    · refine op_noN R 3 1 0 rfl (by decide) ?_ ?_
      · show f_X9_sell 0 (nI p) b (sX hx (1000 + j)) = _
        unfold f_X9_sell
        rw [kV_k (R.1.1.X (1000 + j)).d0, (R.X (1000 + j)).plate hp q1 q2, kb_ret, rdr_f hq3]
        rfl
      · show f_X10_sell 0 (nI p) b hm = _
        unfold f_X10_sell
        rw [kV_k T.d0, R.isPlate q1 q2, kb_ret, kif_f (by decide), mdr_f hq3, kb_ret, kif_t rfl]
        unfold X10_sell_b20 X10_sell_b21
        rw [kV_k T.d0, can_n T (show (1 : Int32) ≠ 0 by decide), kb_ret, kif_t rfl]
  · refine op_noN R 3 1 0 rfl (by decide) ?_ ?_
    · show f_X9_sell 0 a b (sX hx (1000 + j)) = _
      unfold f_X9_sell
      rw [kV_k (R.1.1.X (1000 + j)).d0, (R.X (1000 + j)).plateNo hq]
      rfl
    · show f_X10_sell 0 a b hm = _
      unfold f_X10_sell
      rw [kV_k T.d0, R.isPlateNo hq, kb_ret, kif_t rfl]
      unfold X10_sell_b20 X10_sell_b21
      rw [kV_k T.d0, can_n T (show (1 : Int32) ≠ 0 by decide), kb_ret, kif_t rfl]
