/-! readings by number -/
section KREAD
variable {j : Nat} {hx hm : KH}
theorem kCx.rd {hx hm : KH} (K : kCx hx hm) {r : Nat} (hr : r < mn hm 0 16) : cRt1 hx hm r := K.2.2.2.2.2.2.2 r hr
theorem kCx.reading (K : kCx hx hm) {p : Nat} (hp : p < mn hm 0 16) (h1 : ¬ nI p < 0) (h2 : ¬ (nI (mn hm 0 16) - 1) < nI p) : f_X9_readingNumbered 0 (nI p) hx = kret (200 + 4 * p) hx := by
  have S := K.1.1
  obtain ⟨e1, -, e3⟩ := K.R
  obtain ⟨-, ⟨d1, -⟩, -⟩ := K.rd hp
  unfold f_X9_readingNumbered
  rw [gI_k S.d0, e1, wi_t h1 h2, kb_ret, kif_f (by decide), gN_k S.d0 S.r0_6, gAN_k S.d28 (by rw [S.n28]; omega) (by omega) d1]
theorem kCx.readingNo (K : kCx hx hm) {b : Int32} (h : b < 0 ∨ (nI (mn hm 0 16) - 1) < b) : f_X9_readingNumbered 0 b hx = kthrow 3 hx := by
  have S := K.1.1
  obtain ⟨e1, -, -⟩ := K.R
  unfold f_X9_readingNumbered
  rw [gI_k S.d0, e1, wi_f h, kb_ret, kif_t rfl]
theorem MX.isReading {h : KH} (M : MX h) {p : Nat} (h1 : ¬ nI p < 0) (h2 : ¬ (nI (mn h 0 16) - 1) < nI p) : f_X10_isReading 0 (nI p) h = kret 1 h := by
  unfold f_X10_isReading
  rw [gI_k M.1.d0, M.2.2.1.2, in_t h1 h2, kb_ret]
  rfl
theorem MX.isReadingNo {h : KH} (M : MX h) {b : Int32} (hb : b < 0 ∨ (nI (mn h 0 16) - 1) < b) : f_X10_isReading 0 b h = kret 0 h := by
  unfold f_X10_isReading
  rw [gI_k M.1.d0, M.2.2.1.2, in_f hb, kb_ret]
  rfl
theorem MX.thr {h : KH} (M : MX h) (v : Int32) : MX (sI h 0 35 v) := M.fr (kAg.I h 0 35 v) (fun a k z => by omega)
end KREAD
theorem sCost_thr (h : KH) (v : Int32) (r p : Nat) : sCost (mn (sI h 0 35 v)) r p = sCost (mn h) r p := sCost_cg (m := mn h) (m' := mn (sI h 0 35 v)) (mn_cg fun k => rfl) (mn_cg fun k => rfl) (mn_cg fun k => rfl) (mn_cg fun k => rfl) (mn_cg fun k => rfl) r p
theorem o_cost : OPI (fun a b c h => f_X9_cost 0 a b h) (fun a b c h => f_X10_cost 0 a b h) (mp1 3) := by
  intro j hx hm a b c hj R
  have S := R.1.1.X 0
  have T := R.1.2
  have RX := R.X 0
  have K := RX.kCx
  have M := R.MX
  have hP := R.P
  have hR := M.2.2.1.1
  rcases ka_below a (mn hm 0 16) (by omega) with ⟨r, hr, rfl, q1, q2⟩ | hq
  · rcases ka_below b (mn hm 0 8) (by omega) with ⟨p, hp, rfl, q3, q4⟩ | hq3
    · refine op_rd R (cOf (sCost (mn hm) r p)) ?_ ?_
      · show f_X9_cost 0 (nI r) (nI p) (sX hx 0) = _
        unfold f_X9_cost
        rw [kV_k S.d0, K.reading hr q1 q2, kb_ret, gN_k S.d0 S.r0_3, gN_k (K.rd hr).1.1 (K.rd hr).2.1.2.1, kV_k S.d0, RX.plate hp q3 q4, kb_ret, gN_k (RX.pl hp).1.1 (RX.pl hp).2.1.2.1, kV_k S.d24, K.cost hr hp, kb_ret]
      · show f_X10_cost 0 (nI r) (nI p) hm = _
        unfold f_X10_cost
        rw [kV_k T.d0, M.isReading q1 q2, kb_ret, kif_f (by decide), kV_k T.d0, R.isPlate q3 q4, kb_ret, kif_f (by decide)]
        unfold X10_cost_b22
        rw [kV_k T.d0, can_0 T, kb_ret, kif_f (by decide), kV_k (T.thr 0).d0, (M.thr 0).cost hr hp, kb_ret, sCost_thr]
        rfl
    · refine op_no R 3 1 0 rfl (by decide) ?_ ?_
      · show f_X9_cost 0 (nI r) b (sX hx 0) = _
        unfold f_X9_cost
        rw [kV_k S.d0, K.reading hr q1 q2, kb_ret, gN_k S.d0 S.r0_3, gN_k (K.rd hr).1.1 (K.rd hr).2.1.2.1, kV_k S.d0, RX.plateNo hq3]
        rfl
      · show f_X10_cost 0 (nI r) b hm = _
        unfold f_X10_cost
        rw [kV_k T.d0, M.isReading q1 q2, kb_ret, kif_f (by decide), kV_k T.d0, R.isPlateNo hq3, kb_ret, kif_t rfl]
        unfold X10_cost_b21 X10_cost_b22
        rw [kV_k T.d0, can_n T (show (1 : Int32) ≠ 0 by decide), kb_ret, kif_t rfl]
        rfl
  · refine op_no R 3 1 0 rfl (by decide) ?_ ?_
    · show f_X9_cost 0 a b (sX hx 0) = _
      unfold f_X9_cost
      rw [kV_k S.d0, K.readingNo hq]
      rfl
    · show f_X10_cost 0 a b hm = _
      unfold f_X10_cost
      rw [kV_k T.d0, M.isReadingNo hq, kb_ret, kif_t rfl]
      unfold X10_cost_b21 X10_cost_b22
      rw [kV_k T.d0, can_n T (show (1 : Int32) ≠ 0 by decide), kb_ret, kif_t rfl]
      rfl
