/-! what the class's asking calls answer, out of the model's cells -/
theorem below_in {p n : Nat} (h : p < n) (hn : n < 1073741824) : ¬ nI p < 0 ∧ ¬ (nI n - 1) < nI p := by
  refine ⟨nI_pos (by omega), ?_⟩
  rw [ka_pred (by omega), ka_lt (by omega) (by omega)]
  omega
theorem upto_in {p n : Nat} (h : p ≤ n) (hn : n < 2147483648) : ¬ nI p < 0 ∧ ¬ nI n < nI p := by
  refine ⟨nI_pos (by omega), ?_⟩
  rw [ka_lt (by omega) (by omega)]
  omega
section READS
variable {j : Nat} {hx hm : KH}
theorem RR.rw (R : RR j hx hm) (hj : j < 512) {p : Nat} (hp : p < mn hm 0 8) : PSt hx (104 + 8 * p) ∧ PRw hx (104 + 8 * p) (rwL hm (some p)) ∧ LOK hm (rwL hm (some p)) ∧ PBe hx hm (104 + 8 * p) (rwL hm (some p)) := by
  have hP := R.P
  obtain ⟨q1, q2⟩ := below_in hp (by omega)
  obtain ⟨l, l1, l2, l3, l4, -⟩ := R.trip hj hp q1 q2 0
  obtain rfl := row_uniq l1 (rwL_s hm (some p))
  exact ⟨l2, l3, l1.1, l4⟩
theorem rd_distance (R : RR j hx hm) {x y : Nat} (h1 : x < 8) (h2 : y < 8) : f_zX9_distance 0 (nI x) (nI y) hx = kret (kI hm 2 (8 * x + y)) hx :=
  zr_f_zX9_distance 0 (nI x) (nI y) hx _ _ (show f_X9_distance 0 (nI x) (nI y) hx = kret _ hx by
    have S := R.1.1
    obtain ⟨q1, q2⟩ := upto_in (p := x) (n := 7) (by omega) (by omega)
    obtain ⟨q3, q4⟩ := upto_in (p := y) (n := 7) (by omega) (by omega)
    unfold f_X9_distance
    rw [rgt_t q1 q2, kb_ret, rgt_t q3 q4, kb_ret, gN_k S.d0 S.r0_0, kV_k S.d1, R.kCx.between (by omega) (by omega), kb_ret])
theorem rd_plates (R : RR j hx hm) : f_X9_plates 0 hx = kret (nI (mn hm 0 8)) hx := by
  unfold f_X9_plates
  rw [gI_k R.1.1.d0, R.cnt.1]
theorem rd_now (R : RR j hx hm) : f_X9_now 0 hx = kret (nI (mn hm 0 0)) hx := by
  unfold f_X9_now
  rw [gI_k R.1.1.d0, R.min.1]
theorem rd_plateAt (R : RR j hx hm) : ∃ o : List Nat, o.length = mn hm 0 8 ∧ (∀ p, p ∈ o ↔ p < mn hm 0 8) ∧ o.Pairwise (fun p q => sTl (mn hm) p < sTl (mn hm) q) ∧ ∀ k, k < mn hm 0 8 → f_zX9_plateAt 0 (nI k) hx = kret (nI (o.getD k 0)) hx := by
  obtain ⟨o, ol, om, op, oe⟩ := R.2.2.2.2.2.2.2.2.2.1
  have hP := R.cnt
  refine ⟨o, ol, om, op, fun k hk => zr_f_zX9_plateAt 0 (nI k) hx _ _ (show f_X9_plateAt 0 (nI k) hx = kret _ hx from ?_)⟩
  have S := R.1.1
  obtain ⟨q1, q2⟩ := below_in hk (by omega)
  have hq : o.getD k 0 < mn hm 0 8 := (om _).1 (gD_mem.2 ⟨k, by omega, rfl⟩)
  have pq := R.pl hq
  unfold f_X9_plateAt
  rw [gI_k S.d0, hP.1, wi_t q1 q2, kb_ret, kif_f (by decide), gN_k S.d0 S.r0_5, gAN_k S.d27 (by rw [S.n27]; omega) (by omega) (oe k (by omega)), gI_k pq.1.1, pq.2.2.1]
theorem rd_holder (R : RR j hx hm) (hj : j < 512) : ∃ n, n ≤ j ∧ kI hm 0 12 = nI n ∧ (∀ k, k < n → (∃ q, q < 10 ∧ kI hm 9 k = nI q) ∧ ∃ s, s ≤ 50000 ∧ kI hm 11 k = nI s) ∧ ∀ p m, p < mn hm 0 8 → m ≤ mn hm 0 0 → f_zX9_holder 0 (nI p) (nI m) hx = kret (sHold hm p m n) hx := by
  obtain ⟨n, hn, hc, hh, hd⟩ := R.holdN
  refine ⟨n, hn, hc, hh, fun p m hp hm' => zr_f_zX9_holder 0 (nI p) (nI m) hx _ _ (show f_X9_holder 0 (nI p) (nI m) hx = kret _ hx from ?_)⟩
  have S := R.1.1
  have hP := R.P
  have hN := R.min.2.2
  obtain ⟨q1, q2⟩ := below_in hp (by omega)
  obtain ⟨q3, q4⟩ := upto_in hm' (by omega)
  unfold f_X9_holder
  rw [kV_k S.d0, R.plate hp q1 q2, kb_ret, kV_k S.d0, R.reqMin q3 q4, kb_ret, kV_k (R.pl hp).1.1, hd p hp m (by omega) hj, kb_ret]
theorem rd_cost (R : RR j hx hm) {r p : Nat} (hr : r < mn hm 0 16) (hp : p < mn hm 0 8) : f_zX9_cost 0 (nI r) (nI p) hx = kret (cOf (sCost (mn hm) r p)) hx :=
  zr_f_zX9_cost 0 (nI r) (nI p) hx _ _ (show f_X9_cost 0 (nI r) (nI p) hx = kret _ hx by
    have S := R.1.1
    have K := R.kCx
    have hP := R.P
    have hR := R.MX.2.2.1.1
    obtain ⟨q1, q2⟩ := below_in hr (by omega)
    obtain ⟨q3, q4⟩ := below_in hp (by omega)
    unfold f_X9_cost
    rw [kV_k S.d0, K.reading hr q1 q2, kb_ret, gN_k S.d0 S.r0_3, gN_k (K.rd hr).1.1 (K.rd hr).2.1.2.1, kV_k S.d0, R.plate hp q3 q4, kb_ret, gN_k (R.pl hp).1.1 (R.pl hp).2.1.2.1, kV_k S.d24, K.cost hr hp, kb_ret])
theorem rd_plateOf (R : RR j hx hm) {r : Nat} (hr : r < mn hm 0 16) : f_zX9_plateOf 0 (nI r) hx = kret (cOf (sPF hm r)) hx :=
  zr_f_zX9_plateOf 0 (nI r) hx _ _ (show f_X9_plateOf 0 (nI r) hx = kret _ hx by
    have S := R.1.1
    have K := R.kCx
    have M := R.MX
    have hR := M.2.2.1.1
    obtain ⟨q1, q2⟩ := below_in hr (by omega)
    unfold f_X9_plateOf
    rw [kV_k S.d0, K.reading hr q1 q2, kb_ret, gR_k (K.rd hr).1.1, R.plateR hr, K.numberOf (fun p e => M.pf_lt hr e), kb_ret])
theorem rd_trips (R : RR j hx hm) (hj : j < 512) {p : Nat} (hp : p < mn hm 0 8) : f_zX9_trips 0 (nI p) hx = kret (nI (cB hm (rwL hm (some p)) (rwL hm (some p)).length)) hx :=
  zr_f_zX9_trips 0 (nI p) hx _ _ (show f_X9_trips 0 (nI p) hx = kret _ hx by
    have S := R.1.1
    have hP := R.P
    obtain ⟨P, W, L, B⟩ := R.rw hj hp
    obtain ⟨-, -, kp, kq⟩ := R.kCx.pst hp
    obtain ⟨q1, q2⟩ := below_in hp (by omega)
    unfold f_X9_trips
    rw [kV_k S.d0, R.plate hp q1 q2, kb_ret, gN_k kp kq, kV_k P.1, x3_count P W B, kb_ret])
theorem rd_tripsAnew (R : RR j hx hm) (hj : j < 512) {p : Nat} (hp : p < mn hm 0 8) : ∃ h1, f_zX9_tripsAnew 0 (nI p) (sX hx 0) = kret (nI (cB hm (rwL hm (some p)) (rwL hm (some p)).length)) h1 ∧ RR j h1 hm ∧ FL hx h1 ∧ FK (sX hx 0) h1 := by
  have hP := R.P
  have RX := R.X 0
  have S := RX.1.1
  obtain ⟨q1, q2⟩ := below_in hp (by omega)
  obtain ⟨h1, l, y1, y2, y3, y4, y5, y6, y7, y8⟩ := RX.kCx.joinAnew (p := p) hp RX.AS.1 RX.z35
  obtain rfl := row_uniq (g := hm) (o := some p) (l := l) ⟨y5, fun r hr => (y6 r hr).symm⟩ (rwL_s hm (some p))
  have e : f_X9_tripsAnew 0 (nI p) (sX hx 0) = kret (nI (cB hm (rwL hm (some p)) (rwL hm (some p)).length)) h1 := by
    unfold f_X9_tripsAnew
    rw [kV_k S.d0, RX.plate hp q1 q2, kb_ret, kV_k S.d0, y1, kb_ret, kV_k y3.1, x3_count y3 y4 y7, kb_ret]
  exact ⟨h1, zr_f_zX9_tripsAnew _ _ _ _ _ e, RX.fr35 y2 (kAg.rf hm) (y2.nf (fun a z => by omega)) y8 (fun a k z => by omega) (fun a k z => z.elim), (FL.X hx 0).trans (fr_f_X9_tripsAnew _ _ _ _ _ e), fk_f_X9_tripsAnew _ _ _ _ _ e⟩
theorem rd_tripOf_none (R : RR j hx hm) {r : Nat} (hr : r < mn hm 0 16) (e : sPF hm r = none) : f_zX9_tripOf 0 (nI r) hx = kret (-1) hx :=
  zr_f_zX9_tripOf 0 (nI r) hx _ _ (show f_X9_tripOf 0 (nI r) hx = kret _ hx by
    have S := R.1.1
    have K := R.kCx
    have hR := R.MX.2.2.1.1
    obtain ⟨q1, q2⟩ := below_in hr (by omega)
    have eP := R.plateR hr
    rw [e] at eP
    unfold f_X9_tripOf
    rw [kV_k S.d0, K.reading hr q1 q2, kb_ret, gR_k (K.rd hr).1.1, eP]
    rfl)
theorem rd_tripOf (R : RR j hx hm) (hj : j < 512) {p i : Nat} (hp : p < mn hm 0 8) (hi : i < (rwL hm (some p)).length) : f_zX9_tripOf 0 (nI ((rwL hm (some p)).getD i 0)) hx = kret (nI (cB hm (rwL hm (some p)) (i + 1) - 1)) hx :=
  zr_f_zX9_tripOf 0 _ hx _ _ (show f_X9_tripOf 0 (nI ((rwL hm (some p)).getD i 0)) hx = kret _ hx by
    have S := R.1.1
    have K := R.kCx
    have hR := R.MX.2.2.1.1
    obtain ⟨P, W, L, B⟩ := R.rw hj hp
    obtain ⟨-, -, kp, kq⟩ := K.pst hp
    have hr := L.1 i hi
    have eP := R.plateR hr
    rw [((rwL_s hm (some p)).2 _ hr).2 ⟨i, hi, rfl⟩] at eP
    obtain ⟨q1, q2⟩ := below_in hr (by omega)
    unfold f_X9_tripOf
    rw [kV_k S.d0, K.reading hr q1 q2, kb_ret, gR_k (K.rd hr).1.1, eP, show pAd (some p) = some (100 + 8 * p) from rfl, knul_s, gR_k (K.rd hr).1.1, eP, show pAd (some p) = some (100 + 8 * p) from rfl, kmay_s, gN_k kp kq, kV_k P.1, K.tripWith P W L B hi hr rfl, kb_ret]
    rfl)
/-- a trip's beginning, by its number -/
theorem rd_beg (R : RR j hx hm) (hj : j < 512) {p k : Nat} (hp : p < mn hm 0 8) (hk : k < (rwL hm (some p)).length) (hb : sBegAt hm (rwL hm (some p)) k = true) : ∃ k', k' < (rwL hm (some p)).length ∧ sBegAt hm (rwL hm (some p)) k' = true ∧ cB hm (rwL hm (some p)) k' = cB hm (rwL hm (some p)) k ∧ f_X9_requiredBeginning (100 + 8 * p) (nI (cB hm (rwL hm (some p)) k)) hx = kret (nI k') hx := by
  have hP := R.P
  have hR := R.MX.2.2.1.1
  obtain ⟨q1, q2⟩ := below_in hp (by omega)
  obtain ⟨l, hl, P, W, B, hh⟩ := R.trip hj hp q1 q2 (nI (cB hm (rwL hm (some p)) k))
  obtain rfl := row_uniq hl (rwL_s hm (some p))
  have hlen := W.1
  rcases hh with ⟨k', h', k1, k2, k3, k4, -⟩ | ⟨h', k4, -⟩
  · have c1 := cB_le hm (rwL hm (some p)) k
    have c2 := cB_le hm (rwL hm (some p)) k'
    exact ⟨k', k1, k2, (nI_inj k3 (by omega) (by omega)).symm, k4⟩
  · exfalso
    obtain ⟨-, -, kp, kq⟩ := R.kCx.pst hp
    unfold f_X9_requiredBeginning at k4
    rw [gN_k kp kq, kV_k P.1] at k4
    rcases x3_beg (t := nI (cB hm (rwL hm (some p)) k)) (g := hm) P W B with ⟨k2, k21, k22, k23, k24⟩ | ⟨-, w2⟩
    · rw [k24, kb_ret, kif_f (by rw [ka_n1 (by omega)]; exact fun z => z)] at k4
      cases k4
    · exact w2 k hk hb rfl
theorem cB_inj {g : KH} {l : List Nat} {k k' : Nat} (hb : sBegAt g l k = true) (hb' : sBegAt g l k' = true) (e : cB g l k = cB g l k') : k = k' := by
  have s1 : cB g l (k + 1) = cB g l k + if sBegAt g l k = true then 1 else 0 := rfl
  have s2 : cB g l (k' + 1) = cB g l k' + if sBegAt g l k' = true then 1 else 0 := rfl
  rw [if_pos hb] at s1
  rw [if_pos hb'] at s2
  rcases Nat.lt_trichotomy k k' with h | h | h
  · have := cB_mono g l (show k + 1 ≤ k' by omega)
    omega
  · exact h
  · have := cB_mono g l (show k' + 1 ≤ k by omega)
    omega
theorem rd_toll (R : RR j hx hm) (hj : j < 512) {p k : Nat} (hp : p < mn hm 0 8) (hk : k < (rwL hm (some p)).length) (hb : sBegAt hm (rwL hm (some p)) k = true) : f_X9_toll 0 (nI p) (nI (cB hm (rwL hm (some p)) k)) hx = kret (nI (tolF hm (rwL hm (some p)) p k)) hx := by
  have S := R.1.1
  have hP := R.P
  obtain ⟨q1, q2⟩ := below_in hp (by omega)
  obtain ⟨P, W, L, B⟩ := R.rw hj hp
  obtain ⟨-, -, kp, kq⟩ := R.kCx.pst hp
  obtain ⟨k', w1, w2, w3, w4⟩ := rd_beg R hj hp hk hb
  obtain rfl := cB_inj w2 hb w3
  unfold f_X9_toll
  rw [kV_k S.d0, R.plate hp q1 q2, kb_ret, gN_k kp kq, w4, kb_ret, kV_k S.d0, x9_toll R (R.NX hj) hp P W L B w1, kb_ret]
theorem rd_tollZ (R : RR j hx hm) (hj : j < 512) {p k : Nat} (hp : p < mn hm 0 8) (hk : k < (rwL hm (some p)).length) (hb : sBegAt hm (rwL hm (some p)) k = true) : f_zX9_toll 0 (nI p) (nI (cB hm (rwL hm (some p)) k)) hx = kret (nI (tolF hm (rwL hm (some p)) p k)) hx := zr_f_zX9_toll _ _ _ _ _ _ (rd_toll R hj hp hk hb)
/-- there is no trip behind the last one -/
theorem rd_tollNo (R : RR j hx hm) (hj : j < 512) {p : Nat} (hp : p < mn hm 0 8) : f_X9_toll 0 (nI p) (nI (cB hm (rwL hm (some p)) (rwL hm (some p)).length)) hx = kthrow 3 hx := by
  have S := R.1.1
  have hP := R.P
  have hR := R.MX.2.2.1.1
  obtain ⟨q1, q2⟩ := below_in hp (by omega)
  obtain ⟨l, hl, P, W, B, hh⟩ := R.trip hj hp q1 q2 (nI (cB hm (rwL hm (some p)) (rwL hm (some p)).length))
  obtain rfl := row_uniq hl (rwL_s hm (some p))
  obtain ⟨-, -, kp, kq⟩ := R.kCx.pst hp
  have hlen := W.1
  rcases hh with ⟨k, h', k1, k2, k3, -⟩ | ⟨h', k4, -⟩
  · exfalso
    have c1 := cB_le hm (rwL hm (some p)) (rwL hm (some p)).length
    have c2 := cB_le hm (rwL hm (some p)) k
    have e := nI_inj k3 (by omega) (by omega)
    have s1 : cB hm (rwL hm (some p)) (k + 1) = cB hm (rwL hm (some p)) k + if sBegAt hm (rwL hm (some p)) k = true then 1 else 0 := rfl
    rw [if_pos k2] at s1
    have := cB_mono hm (rwL hm (some p)) (show k + 1 ≤ (rwL hm (some p)).length by omega)
    omega
  · unfold f_X9_toll
    rw [kV_k S.d0, R.plate hp q1 q2, kb_ret, gN_k kp kq, k4]
    rfl
theorem rd_driverOf (R : RR j hx hm) (hj : j < 512) : ∃ n, n ≤ j ∧ kI hm 0 12 = nI n ∧ ∀ p k, p < mn hm 0 8 → k < (rwL hm (some p)).length → sBegAt hm (rwL hm (some p)) k = true → f_zX9_driverOf 0 (nI p) (nI (cB hm (rwL hm (some p)) k)) hx = kret (sHold hm p (mn hm 13 ((rwL hm (some p)).getD k 0)) n) hx := by
  obtain ⟨n, hn, hc, hh, hd⟩ := R.holdN
  refine ⟨n, hn, hc, fun p k hp hk hb => zr_f_zX9_driverOf 0 (nI p) _ hx _ _ (show f_X9_driverOf 0 (nI p) (nI (cB hm (rwL hm (some p)) k)) hx = kret _ hx from ?_)⟩
  have S := R.1.1
  have hP := R.P
  obtain ⟨q1, q2⟩ := below_in hp (by omega)
  obtain ⟨P, W, L, B⟩ := R.rw hj hp
  obtain ⟨-, -, kp, kq⟩ := R.kCx.pst hp
  obtain ⟨k', w1, w2, w3, w4⟩ := rd_beg R hj hp hk hb
  obtain rfl := cB_inj w2 hb w3
  have r1 := L.1 _ w1
  have hlen := W.1
  obtain ⟨m1, m2⟩ := R.kCx.minute r1
  unfold f_X9_driverOf
  rw [kV_k S.d0, R.plate hp q1 q2, kb_ret, w4, kb_ret, gN_k kp kq, gN_k P.1 P.2.2.2.2.2.1, gAN_k P.2.1 (by rw [P.2.2.1]; omega) (by omega) (W.2.2 _ w1), gI_k (R.kCx.rd r1).1.1, m2, kV_k kp, hd p hp _ (by omega) hj, kb_ret]
theorem rd_due (R : RR j hx hm) (hj : j < 512) : ∃ n, n ≤ j ∧ kI hm 0 12 = nI n ∧ (∀ d, d < 6 → f_zX9_due 0 (nI d) hx = kret (nI (duT hm n (nI d) (mn hm 0 8))) hx) ∧ ∀ d, d < 6 → ∃ h1, f_zX9_dueAnew 0 (nI d) (sX hx 0) = kret (nI (duT hm n (nI d) (mn hm 0 8))) h1 ∧ RR j h1 hm ∧ FL hx h1 ∧ FK (sX hx 0) h1 := by
  obtain ⟨n, hn, hc, hh, hd⟩ := R.holdN
  have N := R.NX hj
  have hP := R.P
  refine ⟨n, hn, hc, fun d hd6 => zr_f_zX9_due 0 (nI d) hx _ _ (show f_X9_due 0 (nI d) hx = kret _ hx from ?_), fun d hd6 => ?_⟩
  · have S := R.1.1
    obtain ⟨q1, q2⟩ := upto_in (p := d) (n := 5) (by omega) (by omega)
    unfold f_X9_due
    rw [rdr_t q1 q2, kb_ret, kV_k S.d0, x9_kept R N (fun p hp m hm => hd p hp m hm hj), kb_ret]
  · obtain ⟨q1, q2⟩ := upto_in (p := d) (n := 5) (by omega) (by omega)
    obtain ⟨h1, f1, f2⟩ := x9_anewL (d := nI d) hj kF 0 (sX hx 0) (R.X 0) N ⟨n, hn, hc, rfl⟩ (by omega) (by unfold kF; omega)
    have e : f_X9_dueAnew 0 (nI d) (sX hx 0) = kret (nI (duT hm n (nI d) (mn hm 0 8))) h1 := by
      unfold f_X9_dueAnew
      rw [rdr_t q1 q2, kb_ret]
      exact f1
    exact ⟨h1, zr_f_zX9_dueAnew _ _ _ _ _ e, f2, (FL.X hx 0).trans (fr_f_X9_dueAnew _ _ _ _ _ e), fk_f_X9_dueAnew _ _ _ _ _ e⟩
theorem rd_billed (R : RR j hx hm) {d : Nat} (h : d < 6) : f_zX9_billed 0 (nI d) hx = kret (kL hm 20 d) hx ∧ f_zX9_paidBack 0 (nI d) hx = kret (kL hm 21 d) hx := by
  have S := R.1.1
  obtain ⟨e1, e2⟩ := R.2.2.2.2.2.2.2.2.2.2.2.2.2.1.1 d h
  obtain ⟨q1, q2⟩ := upto_in (p := d) (n := 5) (by omega) (by omega)
  constructor
  · refine zr_f_zX9_billed 0 (nI d) hx _ _ (show f_X9_billed 0 (nI d) hx = kret _ hx from ?_)
    unfold f_X9_billed
    rw [rdr_t q1 q2, kb_ret, gN_k S.d0 S.r0_9, gAL_k S.d31 (by rw [S.n31]; omega) (by omega), e1]
  · refine zr_f_zX9_paidBack 0 (nI d) hx _ _ (show f_X9_paidBack 0 (nI d) hx = kret _ hx from ?_)
    unfold f_X9_paidBack
    rw [rdr_t q1 q2, kb_ret, gN_k S.d0 S.r0_10, gAL_k S.d32 (by rw [S.n32]; omega) (by omega), e2]
end READS
