/-! toll, driverOf -/
theorem op_q2 {τ : Type} {fX fM : Int32 → Int32 → Int32 → KH → KO τ} {mp : Nat → Option Int32} {j : Nat} {hx hm h' : KH} {a b c : Int32} (R : RR j hx hm) (v : τ) (h1 : fX a b c (sX hx 0) = kret v (sX hx 0)) (h4 : fM a b c hm = kret v h') (am : kAg EJ hm h') (h5 : kI h' 0 35 = 0) : OP1 fX fM mp j hx hm a b c :=
  op_ok 0 v h1 h4 h5 ((R.X 0).up.fr (kAg.rf _) am (fun _ h => h) (fun a k h => h.elim) (fun a k h => h))
theorem op_no2 {τ : Type} {fX fM : Int32 → Int32 → Int32 → KH → KO τ} {mp : Nat → Option Int32} {j : Nat} {hx hm h' : KH} {a b c : Int32} (R : RR j hx hm) (e : Nat) (kx : Int32) (bv : τ) (h2 : mp e = some kx) (h3 : kx ≠ 0) (h1 : fX a b c (sX hx 0) = kthrow e (sX hx 0)) (h4 : fM a b c hm = kret bv h') (am : kAg EJ hm h') (h5 : kI h' 0 35 = kx) : OP1 fX fM mp j hx hm a b c :=
  Or.inr ⟨e, kx, bv, sX hx 0, h', h1, h2, h3, h4, h5, (R.X 0).up.fr (kAg.rf _) am (fun _ h => h) (fun a k h => h.elim) (fun a k h => h)⟩
theorem EJ.thr (h : KH) (v : Int32) : kAg EJ h (sI h 0 35 v) := (kAg.I h 0 35 v).sub (fun a k z => Or.inr (Or.inr z))
theorem ka_gt {b : Int32} {n : Nat} (hn : n < 1073741824) (h : (nI n - 1) < b) : nI n ≤ b := by
  have hm1 : (nI n - 1).toInt = (n : Int) - 1 := by
    by_cases hn0 : n = 0
    · subst hn0
      decide
    · rw [ka_pred (by omega), nI_toInt (by omega)]
      omega
  rw [Int32.lt_iff_toInt_lt, hm1] at h
  rw [Int32.le_iff_toInt_le, nI_toInt (by omega)]
  omega
/-- a trip, or none: both sides -/
theorem RR.trip {j : Nat} {hx hm : KH} (R : RR j hx hm) (hj : j < 512) {p : Nat} (hp : p < mn hm 0 8) (q1 : ¬ nI p < 0) (q2 : ¬ (nI (mn hm 0 8) - 1) < nI p) (b : Int32) : ∃ l, sRw hm (some p) l ∧ PSt hx (104 + 8 * p) ∧ PRw hx (104 + 8 * p) l ∧ PBe hx hm (104 + 8 * p) l ∧
    ((∃ k h', k < l.length ∧ sBegAt hm l k = true ∧ b = nI (cB hm l k) ∧ f_X9_requiredBeginning (100 + 8 * p) b hx = kret (nI k) hx ∧ f_X10_isTrip 0 (nI p) b hm = kret 1 h' ∧ kAg EJ hm h' ∧ (∀ r, r < mn hm 0 16 → kI h' 18 r = cOf (sPF hm r)) ∧ JT hm h' l ∧ kI h' 0 35 = 0) ∨
     (∃ h', f_X9_requiredBeginning (100 + 8 * p) b hx = kthrow 3 hx ∧ f_X10_isTrip 0 (nI p) b hm = kret 0 h' ∧ kAg EJ hm h' ∧ kI h' 0 35 = 1)) := by
  have T := R.1.2
  have K := R.kCx
  have N := R.NX hj
  have hP := R.P
  obtain ⟨l, l1, l2, l3, l4⟩ := R.AS.2 p hp
  obtain ⟨P, hA, kp, kq⟩ := K.pst hp
  have hlen := l1.len'
  have hR := N.1.2.2.1.1
  have hcl := cB_le hm l l.length
  obtain ⟨h', e1, e2, e3, e4, e5⟩ := N.joins (o := some p) (l := l) ⟨l1, l2⟩ (fun q e => by cases e; omega) ((kAg.rf hm).sub (fun _ _ z => z.elim))
  have T' := (N.mx e2).1
  have agt : ∀ v, kAg EJ hm (sI h' 0 35 v) := fun v => e2.trans (EJ.thr h' v) (fun a k q => q) (fun a k q => q)
  refine ⟨l, ⟨l1, l2⟩, P, l3, l4, ?_⟩
  have hreq : f_X9_requiredBeginning (100 + 8 * p) b hx = kcallV 4 (104 + 8 * p) hx (f_X3_beginningOf (104 + 8 * p) b hx) (fun x1 h1 => kif (x1 = -1) (kthrow 3 h1) (kret x1 h1)) := by
    unfold f_X9_requiredBeginning
    rw [gN_k kp kq]
  rcases x3_beg (t := b) (g := hm) P l3 l4 with ⟨k, k1, k2, k3, k4⟩ | ⟨k1, k2⟩
  · have hs : cB hm l (k + 1) = cB hm l k + if sBegAt hm l k = true then 1 else 0 := rfl
    rw [if_pos k2] at hs
    have hm1 := cB_mono hm l (show k + 1 ≤ l.length by omega)
    refine Or.inl ⟨k, sI h' 0 35 0, k1, k2, k3.symm, ?_, ?_, agt 0, fun r hr => by rw [kI_sI, if_neg (by omega)]; exact e3 r hr, fun i hi => by rw [kI_sI, if_neg (by omega)]; exact e4 i hi, by rw [kI_sI, if_pos ⟨rfl, rfl⟩]⟩
    · rw [hreq, kV_k P.1, k4, kb_ret, kif_f (by rw [ka_n1 (by omega)]; exact fun z => z)]
    · rw [← k3]
      unfold f_X10_isTrip
      rw [kV_k T.d0, R.isPlate q1 q2, kb_ret, kif_f (by decide), kif_f (by rw [ka_neg (by omega)]; exact fun z => z), kV_k T.d0]
      rw [show f_X10_joins 0 (nI p) hm = _ from e1, kb_ret, kif_f (by rw [ka_le (by omega) (by omega)]; omega)]
      unfold X10_isTrip_b27
      rw [kV_k T'.d0, can_0 T', kb_ret]
      rfl
  · have hthr : f_X9_requiredBeginning (100 + 8 * p) b hx = kthrow 3 hx := by
      rw [hreq, kV_k P.1, k1, kb_ret, kif_t rfl]
    by_cases hneg : b < 0
    · refine Or.inr ⟨sI hm 0 35 1, hthr, ?_, EJ.thr hm 1, by rw [kI_sI, if_pos ⟨rfl, rfl⟩]⟩
      unfold f_X10_isTrip
      rw [kV_k T.d0, R.isPlate q1 q2, kb_ret, kif_f (by decide), kif_t hneg]
      unfold X10_isTrip_b26 X10_isTrip_b27
      rw [kV_k T.d0, can_n T (show (1 : Int32) ≠ 0 by decide), kb_ret]
      rfl
    · have hle : nI (cB hm l l.length) ≤ b := by
        rcases ka_below b (cB hm l l.length) (by omega) with ⟨t, t1, t2, -, -⟩ | w | w
        · obtain ⟨k, w1, w2, w3⟩ := cB_ex (g := hm) (l := l) l.length t1
          exact absurd (by rw [w3, t2]) (k2 k w1 w2)
        · exact absurd w hneg
        · exact ka_gt (by omega) w
      refine Or.inr ⟨sI h' 0 35 1, hthr, ?_, agt 1, by rw [kI_sI, if_pos ⟨rfl, rfl⟩]⟩
      unfold f_X10_isTrip
      rw [kV_k T.d0, R.isPlate q1 q2, kb_ret, kif_f (by decide), kif_f hneg, kV_k T.d0]
      rw [show f_X10_joins 0 (nI p) hm = _ from e1, kb_ret, kif_t hle]
      unfold X10_isTrip_b26 X10_isTrip_b27
      rw [kV_k T'.d0, can_n T' (show (1 : Int32) ≠ 0 by decide), kb_ret]
      rfl
theorem RR.tripNo {j : Nat} {hx hm : KH} (R : RR j hx hm) {a b : Int32} (hq : a < 0 ∨ (nI (mn hm 0 8) - 1) < a) : f_X10_isTrip 0 a b hm = kret 0 (sI hm 0 35 1) := by
  have T := R.1.2
  unfold f_X10_isTrip
  rw [kV_k T.d0, R.isPlateNo hq, kb_ret, kif_t rfl]
  unfold X10_isTrip_b26 X10_isTrip_b27
  rw [kV_k T.d0, can_n T (show (1 : Int32) ≠ 0 by decide), kb_ret]
  rfl
theorem o_toll : OPI (fun a b c h => f_X9_toll 0 a b h) (fun a b c h => f_X10_toll 0 a b h) (mp1 3) := by
  intro j hx hm a b c hj R
  have S := R.1.1.X 0
  have T := R.1.2
  have RX := R.X 0
  have N := R.NX hj
  have hP := R.P
  rcases ka_below a (mn hm 0 8) (by omega) with ⟨p, hp, rfl, q1, q2⟩ | hq
  · obtain ⟨-, -, kp, kq⟩ := RX.kCx.pst hp
    obtain ⟨l, hl, P, W, B, ⟨k, h', k1, k2, k3, k4, k5, k6, k7, k8, k9⟩ | ⟨h', k4, k5, k6, k9⟩⟩ := RX.trip hj hp q1 q2 b
    · have T' := (N.mx k6).1
      refine op_q2 R (nI (tolF hm l p k)) ?_ ?_ k6 k9
      · show f_X9_toll 0 (nI p) b (sX hx 0) = _
        unfold f_X9_toll
        rw [kV_k S.d0, RX.plate hp q1 q2, kb_ret, gN_k kp kq, k4, kb_ret, kV_k S.d0, x9_toll RX N hp P W hl.1 B k1, kb_ret]
      · show f_X10_toll 0 (nI p) b hm = _
        unfold f_X10_toll
        rw [kV_k T.d0, k5, kb_ret, kif_f (by decide), kV_k T'.d0, k3, N.tollOf k6 k7 hl hp k8 k1 k2, kb_ret]
        rfl
    · refine op_no2 R 3 1 0 rfl (by decide) ?_ ?_ k6 k9
      · show f_X9_toll 0 (nI p) b (sX hx 0) = _
        unfold f_X9_toll
        rw [kV_k S.d0, RX.plate hp q1 q2, kb_ret, gN_k kp kq, k4]
        rfl
      · show f_X10_toll 0 (nI p) b hm = _
        unfold f_X10_toll
        rw [kV_k T.d0, k5, kb_ret, kif_t rfl]
        rfl
  · refine op_no R 3 1 0 rfl (by decide) ?_ ?_
    · show f_X9_toll 0 a b (sX hx 0) = _
      unfold f_X9_toll
      rw [kV_k S.d0, RX.plateNo hq]
      rfl
    · show f_X10_toll 0 a b hm = _
      unfold f_X10_toll
      rw [kV_k T.d0, R.tripNo hq, kb_ret, kif_t rfl]
      rfl
theorem o_driverOf : OPI (fun a b c h => f_X9_driverOf 0 a b h) (fun a b c h => f_X10_driverOf 0 a b h) (mp1 3) := by
  intro j hx hm a b c hj R
  have S := R.1.1.X 0
  have T := R.1.2
  have RX := R.X 0
  have N := R.NX hj
  have hP := R.P
  have hR := N.1.2.2.1.1
  obtain ⟨n, hn, hc, hh, hd⟩ := RX.holdN
  rcases ka_below a (mn hm 0 8) (by omega) with ⟨p, hp, rfl, q1, q2⟩ | hq
  · obtain ⟨-, -, kp, kq⟩ := RX.kCx.pst hp
    obtain ⟨l, hl, P, W, B, ⟨k, h', k1, k2, k3, k4, k5, k6, k7, k8, k9⟩ | ⟨h', k4, k5, k6, k9⟩⟩ := RX.trip hj hp q1 q2 b
    · have T' := (N.mx k6).1
      have r1 := hl.1.1 k k1
      have hlen := W.1
      obtain ⟨m1, m2⟩ := RX.kCx.minute r1
      obtain ⟨-, ⟨-, m3⟩, -⟩ := N.1.2.2.2.2.1 _ r1
      have e : ∀ a k, a ≠ 18 → a ≠ 19 → ¬ (a = 0 ∧ k = 35) → kI h' a k = kI hm a k := fun a k => NX.e k6 a k
      refine op_q2 R (sHold hm p (mn hm 13 (l.getD k 0)) n) ?_ ?_ k6 k9
      · show f_X9_driverOf 0 (nI p) b (sX hx 0) = _
        unfold f_X9_driverOf
        rw [kV_k S.d0, RX.plate hp q1 q2, kb_ret, k4, kb_ret, gN_k kp kq, gN_k P.1 P.2.2.2.2.2.1, gAN_k P.2.1 (by rw [P.2.2.1]; omega) (by omega) (W.2.2 k k1), gI_k (RX.kCx.rd r1).1.1, m2, kV_k kp, hd p hp _ (by omega) hj, kb_ret]
      · show f_X10_driverOf 0 (nI p) b hm = _
        unfold f_X10_driverOf
        rw [kV_k T.d0, k5, kb_ret, kif_f (by decide), gN_k T'.d0 T'.r18, kV_k T'.d0, k3, N.firstOf k6 k7 hl (by omega) k8 k1 k2, kb_ret, gAI_k T'.d13 (by rw [T'.n13]; omega) (by omega), e 13 _ (by omega) (by omega) (by omega), m3, kV_k T'.d0]
        rw [tm_holderAt (n := n) T' (by rw [e 0 12 (by omega) (by omega) (by omega)]; exact hc) (by omega) (fun k hk => by rw [e 9 k (by omega) (by omega) (by omega), e 11 k (by omega) (by omega) (by omega)]; exact hh k hk) (by omega) (by omega), kb_ret]
        rw [sHold_cg (h := hm) (h' := h') (fun k => e 9 k (by omega) (by omega) (by omega)) (fun k => e 10 k (by omega) (by omega) (by omega)) (fun k => e 11 k (by omega) (by omega) (by omega))]
        rfl
    · refine op_no2 R 3 1 0 rfl (by decide) ?_ ?_ k6 k9
      · show f_X9_driverOf 0 (nI p) b (sX hx 0) = _
        unfold f_X9_driverOf
        rw [kV_k S.d0, RX.plate hp q1 q2, kb_ret, k4]
        rfl
      · show f_X10_driverOf 0 (nI p) b hm = _
        unfold f_X10_driverOf
        rw [kV_k T.d0, k5, kb_ret, kif_t rfl]
        rfl
  · refine op_no R 3 1 0 rfl (by decide) ?_ ?_
    · show f_X9_driverOf 0 a b (sX hx 0) = _
      unfold f_X9_driverOf
      rw [kV_k S.d0, RX.plateNo hq]
      rfl
    · show f_X10_driverOf 0 a b hm = _
      unfold f_X10_driverOf
      rw [kV_k T.d0, R.tripNo hq, kb_ret, kif_t rfl]
      rfl
