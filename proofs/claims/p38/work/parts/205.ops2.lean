/-! register, sell, read, correct, uncorrect, road -/
section OPS2
variable {j : Nat} {hx hm : KH}
theorem RR.tx4 (R : RR j hx hm) : ∀ k, k < mn hm 0 5 → mn hm 4 k < 15 ∧ kI hm 4 k = nI (mn hm 4 k) := fun k hk => ⟨(R.txt.2.2.2 k hk).1, (R.txt.2.2.2 k hk).2.1⟩
def noPl (hm : KH) : Prop := mn hm 0 5 = 0 ∨ (∃ k, k < mn hm 0 5 ∧ mn hm 4 k = 14) ∨ (∃ q, q < mn hm 0 8 ∧ eqT (mn hm) (mn hm 4) (mn hm 0 5) q) ∨ mn hm 0 8 = 10
theorem op_register (R : RR j hx hm) (hj : j < 512) {d its : Nat} (hd : d < 6) (hi : its < 4) (hok : ¬ noPl hm) : ∃ g hm1 n', f_X9_register 0 (nI d) (nI its) (sX hx (100 + 8 * mn hm 0 8)) = kret (nI (mn hm 0 8)) g ∧ RR (j + 1) g hm1 ∧ FL hx g ∧ FK (sX hx (100 + 8 * mn hm 0 8)) g ∧
    (n' ≤ j ∧ kI hm 0 12 = nI n' ∧ (∀ k, k < n' → ∃ p, p < mn hm 0 8 ∧ kI hm 9 k = nI p)) ∧
    kAg (fun a k => a = 6 ∧ k = mn hm 0 8 ∨ a = 7 ∧ 6 * mn hm 0 8 ≤ k ∧ k < 6 * mn hm 0 8 + 6 ∨ a = 8 ∧ k = mn hm 0 8 ∨ (a = 9 ∨ a = 10 ∨ a = 11) ∧ k = n' ∨ a = 0 ∧ (k = 12 ∨ k = 8)) (sI hm 0 35 0) hm1 ∧ kI hm1 0 8 = nI (mn hm 0 8 + 1) ∧ kI hm1 8 (mn hm 0 8) = nI its ∧ kI hm1 0 12 = nI (n' + 1) ∧ kI hm1 9 n' = nI (mn hm 0 8) ∧ kI hm1 10 n' = nI d ∧ kI hm1 11 n' = nI (mn hm 0 0) ∧ kI hm1 6 (mn hm 0 8) = nI (mn hm 0 5) ∧ ∀ k, k < mn hm 0 5 → kI hm1 7 (6 * mn hm 0 8 + k) = kI hm 4 k := by
  have T := R.1.2
  have M := R.MX
  have hPc := R.cnt
  obtain ⟨t1, t2, -⟩ := R.txt
  obtain ⟨q1, (q2 : ¬ (5 : Int32) < nI d)⟩ := upto_in (p := d) (n := 5) (by omega) (by omega)
  obtain ⟨q3, (q4 : ¬ (3 : Int32) < nI its)⟩ := upto_in (p := its) (n := 3) (by omega) (by omega)
  obtain ⟨n', hn', hc', hh', -⟩ := R.2.2.2.2.2.2.2.2.2.2.1
  have hP10 : mn hm 0 8 < 10 := by
    have : mn hm 0 8 ≠ 10 := fun z => hok (Or.inr (Or.inr (Or.inr z)))
    omega
  obtain ⟨hm1, z1, am, z2, z3, z4, z5, z6, z7, z8, z9⟩ := tm_reg (h := hm) (n := mn hm 0 5) (P := mn hm 0 8) (n' := n') (d := nI d) (its := nI its) (m := nI (mn hm 0 0)) T t1 hP10 (by omega) t2 hPc.2.1 hc' R.min.2.1
  obtain ⟨bp, g1, g2⟩ := tm_plain T t2 t1 R.tx4
  obtain ⟨bt, g3, g4⟩ := M.taken t2 t1 R.tx4
  have em : f_X10_register 0 (nI d) (nI its) hm = kret (nI (mn hm 0 8)) hm1 := by
    unfold f_X10_register
    rw [mdr_t q1 q2, kb_ret, in_t q3 q4, kb_ret, kif_f (by decide), kif_f (by decide), kV_k T.d0, g1, kb_ret]
    rcases g2 with ⟨s1, -⟩ | ⟨s1, s2⟩
    · rw [kif_f (by rw [s1]; decide), kV_k T.d0, g3, kb_ret]
      rcases g4 with ⟨s3, s4⟩ | ⟨s3, -⟩
      · exact absurd (Or.inr (Or.inr (Or.inl s4))) hok
      · rw [kif_t s3, gI_k T.d0, hPc.2.1, kif_f (by rw [show (10 : Int32) = nI 10 from rfl, ka_eq (by omega) (by omega)]; omega), z1]
    · rcases s2 with s2 | s2
      · exact absurd (Or.inl s2) hok
      · exact absurd (Or.inr (Or.inl s2)) hok
  obtain ⟨g, e, R1⟩ := opk_yes (o_register j hx hm (nI d) (nI its) 0 hj R) em (by rw [(am.1 0 35 (by omega)).1, z35])
  exact ⟨g, hm1, n', e, R1, (FL.X hx _).trans (fr_f_X9_register _ _ _ _ _ _ e), fk_f_X9_register _ _ _ _ _ _ e, ⟨hn', hc', fun k hk => (hh' k hk).1⟩, am, z2, z3, z4, z5, z6, z7, z8, z9⟩
theorem op_registerNo (R : RR j hx hm) (hj : j < 512) {d its : Nat} (hd : d < 6) (hi : its < 4) (hok : noPl hm) : ∃ g, f_X9_register 0 (nI d) (nI its) (sX hx (100 + 8 * mn hm 0 8)) = kthrow 2 g ∧ RR (j + 1) g (sI hm 0 35 3) ∧ FL hx g ∧ FK (sX hx (100 + 8 * mn hm 0 8)) g := by
  have T := R.1.2
  have M := R.MX
  have hPc := R.cnt
  obtain ⟨t1, t2, -⟩ := R.txt
  obtain ⟨q1, (q2 : ¬ (5 : Int32) < nI d)⟩ := upto_in (p := d) (n := 5) (by omega) (by omega)
  obtain ⟨q3, (q4 : ¬ (3 : Int32) < nI its)⟩ := upto_in (p := its) (n := 3) (by omega) (by omega)
  obtain ⟨bp, g1, g2⟩ := tm_plain T t2 t1 R.tx4
  obtain ⟨bt, g3, g4⟩ := M.taken t2 t1 R.tx4
  have hc : X10_register_b54 0 (nI d) (nI its) 0 hm = kret 0 (sI hm 0 35 3) := by
    unfold X10_register_b54 X10_register_b59
    rw [kV_k T.d0, can_n T (show (3 : Int32) ≠ 0 by decide), kb_ret, kif_t rfl]
  have em : f_X10_register 0 (nI d) (nI its) hm = kret 0 (sI hm 0 35 3) := by
    unfold f_X10_register
    rw [mdr_t q1 q2, kb_ret, in_t q3 q4, kb_ret, kif_f (by decide), kif_f (by decide), kV_k T.d0, g1, kb_ret]
    rcases g2 with ⟨z1, z2, z2'⟩ | ⟨z1, -⟩
    · rw [kif_f (by rw [z1]; decide), kV_k T.d0, g3, kb_ret]
      rcases g4 with ⟨z3, -⟩ | ⟨z3, z4⟩
      · rw [kif_f (by rw [z3]; decide), hc]
      · have hP10 : mn hm 0 8 = 10 := by
          rcases hok with w | ⟨k, w1, w2⟩ | ⟨q, w1, w2⟩ | w
          · omega
          · exact absurd w2 (z2' k w1)
          · exact absurd w2 (z4 q w1)
          · exact w
        rw [kif_t z3, gI_k T.d0, hPc.2.1, kif_t (by rw [hP10]; rfl), hc]
    · rw [kif_t z1, hc]
  obtain ⟨e', g, e, em', R1⟩ := opk_no (o_register j hx hm (nI d) (nI its) 0 hj R) em (z35 _ _) (by decide)
  have := (mp3_of em').2.2 rfl
  subst this
  exact ⟨g, e, R1, (FL.X hx _).trans (fr_f_X9_register _ _ _ _ _ _ e), fk_f_X9_register _ _ _ _ _ _ e⟩
theorem op_sell (R : RR j hx hm) (hj : j < 512) {p d : Nat} (hp : p < mn hm 0 8) (hd : d < 6) : ∃ g n, f_zX9_sell 0 (nI p) (nI d) (sX hx (1000 + j)) = kret (sHold hm p (mn hm 0 0) n) g ∧ RR (j + 1) g (mHolds (sI hm 0 35 0) (nI p) (nI d) (nI (mn hm 0 0)) n) ∧ FL hx g ∧ FK (sX hx (1000 + j)) g ∧ n ≤ j ∧ kI hm 0 12 = nI n := by
  have T := R.1.2
  have hP := R.P
  obtain ⟨n, hn, hc, hh, -⟩ := R.holdN
  have eN := R.min.2.1
  obtain ⟨q1, q2⟩ := below_in hp (by omega)
  obtain ⟨q3, (q4 : ¬ (5 : Int32) < nI d)⟩ := upto_in (p := d) (n := 5) (by omega) (by omega)
  have em : f_X10_sell 0 (nI p) (nI d) hm = kret (sHold hm p (mn hm 0 0) n) (mHolds (sI hm 0 35 0) (nI p) (nI d) (nI (mn hm 0 0)) n) := by
    unfold f_X10_sell
    rw [kV_k T.d0, R.isPlate q1 q2, kb_ret, kif_f (by decide), mdr_t q3 q4, kb_ret, kif_f (by decide)]
    unfold X10_sell_b21
    rw [kV_k T.d0, can_0 T, kb_ret, kif_f (by decide), gI_k (T.thr 0).d0, show kI (sI hm 0 35 0) 0 0 = nI (mn hm 0 0) from eN, kV_k (T.thr 0).d0, tm_holderAt (T.thr 0) hc (by omega) hh (by omega) (by have := R.min.2.2; omega), kb_ret, kV_k (T.thr 0).d0, tm_holds (T.thr 0) hc eN (by omega), kb_ret]
    rw [sHold_cg (h := hm) (h' := sI hm 0 35 0) (fun k => rfl) (fun k => rfl) (fun k => rfl)]
  obtain ⟨g, e, R1⟩ := opk_yes (o_sell j hx hm (nI p) (nI d) 0 hj R) em (by rw [((mHolds_ag _ _ _ _ _).1 0 35 (by omega)).1, z35])
  exact ⟨g, n, zr_f_zX9_sell _ _ _ _ _ _ e, R1, (FL.X hx _).trans (fr_f_X9_sell _ _ _ _ _ _ e), fk_f_X9_sell _ _ _ _ _ _ e, hn, hc⟩
theorem op_read (R : RR j hx hm) (hj : j < 512) {x m : Nat} (h1 : x < 8) (h2 : m ≤ mn hm 0 0) (h3 : 0 < mn hm 0 5) (h4 : mn hm 0 16 < 60) : ∃ g hm1, f_X9_read 0 (nI x) (nI m) (sX hx (200 + 4 * mn hm 0 16)) = kret (nI (mn hm 0 16)) g ∧ RR (j + 1) g hm1 ∧ FL hx g ∧ FK (sX hx (200 + 4 * mn hm 0 16)) g ∧
    kAg (fun a k => (a = 12 ∨ a = 13 ∨ a = 14) ∧ k = mn hm 0 16 ∨ a = 15 ∧ 6 * mn hm 0 16 ≤ k ∧ k < 6 * mn hm 0 16 + 6 ∨ a = 0 ∧ k = 16) (sI hm 0 35 0) hm1 ∧ kI hm1 0 16 = nI (mn hm 0 16 + 1) ∧ kI hm1 12 (mn hm 0 16) = nI x ∧ kI hm1 13 (mn hm 0 16) = nI m ∧ kI hm1 14 (mn hm 0 16) = nI (mn hm 0 5) ∧ ∀ k, k < mn hm 0 5 → kI hm1 15 (6 * mn hm 0 16 + k) = kI hm 4 k := by
  have T := R.1.2
  obtain ⟨eX, eN, hN⟩ := R.min
  have hR16 := R.MX.2.2.1.2
  obtain ⟨t1, t2, -⟩ := R.txt
  obtain ⟨q1, (q2 : ¬ (7 : Int32) < nI x)⟩ := upto_in (p := x) (n := 7) (by omega) (by omega)
  obtain ⟨q3, q4⟩ := upto_in h2 (by omega)
  obtain ⟨hm1, z1, am, z2, z3, z4, z5, z6⟩ := tm_read (h := hm) (n := mn hm 0 5) (R := mn hm 0 16) (g := nI x) (m := nI m) T t1 h4 t2 hR16
  have em : f_X10_read 0 (nI x) (nI m) hm = kret (nI (mn hm 0 16)) hm1 := by
    unfold f_X10_read
    rw [mgt_t q1 q2, kb_ret, kif_f (by decide), gI_k T.d0, eN, in_t q3 q4, kb_ret, kif_f (by decide), gI_k T.d0, t2, kif_f (by rw [show (0 : Int32) = nI 0 from rfl, ka_eq (by omega) (by omega)]; omega), gI_k T.d0, hR16, kif_f (by rw [show (60 : Int32) = nI 60 from rfl, ka_eq (by omega) (by omega)]; omega), z1]
  obtain ⟨g, e, R1⟩ := opk_yes (o_read j hx hm (nI x) (nI m) 0 hj R) em (by rw [(am.1 0 35 (by omega)).1, z35])
  exact ⟨g, hm1, e, R1, (FL.X hx _).trans (fr_f_X9_read _ _ _ _ _ _ e), fk_f_X9_read _ _ _ _ _ _ e, am, z2, z3, z4, z5, z6⟩
theorem op_readNo (R : RR j hx hm) (hj : j < 512) {x m : Nat} (h1 : x < 8) (h2 : m ≤ mn hm 0 0) (hbad : mn hm 0 5 = 0 ∨ mn hm 0 16 = 60) : ∃ g, f_X9_read 0 (nI x) (nI m) (sX hx (200 + 4 * mn hm 0 16)) = kthrow 2 g ∧ RR (j + 1) g (sI hm 0 35 3) ∧ FL hx g ∧ FK (sX hx (200 + 4 * mn hm 0 16)) g := by
  have T := R.1.2
  obtain ⟨eX, eN, hN⟩ := R.min
  have hR16 := R.MX.2.2.1.2
  have hR60 := R.MX.2.2.1.1
  obtain ⟨t1, t2, -⟩ := R.txt
  obtain ⟨q1, (q2 : ¬ (7 : Int32) < nI x)⟩ := upto_in (p := x) (n := 7) (by omega) (by omega)
  obtain ⟨q3, q4⟩ := upto_in h2 (by omega)
  have hc : X10_read_b46 0 (nI x) (nI m) 0 hm = kret 0 (sI hm 0 35 3) := by
    unfold X10_read_b46 X10_read_b51
    rw [kV_k T.d0, can_n T (show (3 : Int32) ≠ 0 by decide), kb_ret, kif_t rfl]
  have em : f_X10_read 0 (nI x) (nI m) hm = kret 0 (sI hm 0 35 3) := by
    unfold f_X10_read
    rw [mgt_t q1 q2, kb_ret, kif_f (by decide), gI_k T.d0, eN, in_t q3 q4, kb_ret, kif_f (by decide), gI_k T.d0, t2]
    by_cases h0 : mn hm 0 5 = 0
    · rw [kif_t (by rw [h0]; rfl), hc]
    · rw [kif_f (by rw [show (0 : Int32) = nI 0 from rfl, ka_eq (by omega) (by omega)]; exact h0), gI_k T.d0, hR16, kif_t (by rw [show (60 : Int32) = nI 60 from rfl, ka_eq (by omega) (by omega)]; omega), hc]
  obtain ⟨e', g, e, em', R1⟩ := opk_no (o_read j hx hm (nI x) (nI m) 0 hj R) em (z35 _ _) (by decide)
  have := (mp3_of em').2.2 rfl
  subst this
  exact ⟨g, e, R1, (FL.X hx _).trans (fr_f_X9_read _ _ _ _ _ _ e), fk_f_X9_read _ _ _ _ _ _ e⟩
/-- a plate, or none, as it is told -/
theorem op_correct (R : RR j hx hm) (hj : j < 512) {r : Nat} {o : Option Nat} (hr : r < mn hm 0 16) (ho : ∀ p, o = some p → p < mn hm 0 8) : ∃ g, f_zX9_correct 0 (nI r) (cOf o) (sX hx 0) = kret (cOf (sPF hm r)) g ∧ RR (j + 1) g (sI (sI (sI hm 0 35 0) 16 r 1) 17 r (cOf o)) ∧ FL hx g ∧ FK (sX hx 0) g := by
  have T := R.1.2
  have M := R.MX
  have hPc := R.cnt
  have hR := M.2.2.1.1
  obtain ⟨q1, q2⟩ := below_in hr (by omega)
  have g1 : ¬ cOf o < -1 := by
    cases o with
    | none => decide
    | some p =>
      have := ho p rfl
      show ¬ nI p < -1
      rw [Int32.lt_iff_toInt_lt, nI_toInt (by omega), show (-1 : Int32).toInt = -1 from by decide]
      omega
  have g2 : ¬ (nI (mn hm 0 8) - 1) < cOf o := by
    cases o with
    | none =>
      show ¬ (nI (mn hm 0 8) - 1) < -1
      by_cases h0 : mn hm 0 8 = 0
      · rw [h0]
        decide
      · rw [ka_pred (by omega), Int32.lt_iff_toInt_lt, nI_toInt (by omega), show (-1 : Int32).toInt = -1 from by decide]
        omega
    | some p => exact (below_in (ho p rfl) (by omega)).2
  have T1 := T.thr 0
  have em : f_X10_correct 0 (nI r) (cOf o) hm = kret (cOf (sPF hm r)) (sI (sI (sI hm 0 35 0) 16 r 1) 17 r (cOf o)) := by
    unfold f_X10_correct
    rw [kV_k T.d0, M.isReading q1 q2, kb_ret, kif_f (by decide), gI_k T.d0, hPc.2.1, in_t g1 g2, kb_ret, kif_f (by decide)]
    unfold X10_correct_b27
    rw [kif_f (by decide)]
    unfold X10_correct_b38
    have T2 : kSm (sI (sI hm 0 35 0) 16 r 1) := T1.fr (kAg.I _ 16 r 1) (fun a k q z => by omega)
    rw [kV_k T.d0, can_0 T, kb_ret, kif_f (by decide), kV_k T1.d0, (M.thr 0).plateFor hr, kb_ret, sPF_thr, gN_k T1.d0 T1.r21, pAZ_k T1.d16 (by rw [T1.n16]; omega) (by omega) (Or.inr rfl), gN_k T2.d0 T2.r22, pAI_k T2.d17 (by rw [T2.n17]; omega) (by omega)]
  obtain ⟨g, e, R1⟩ := opk_yes (o_correct j hx hm (nI r) (cOf o) 0 hj R) em (by rw [kI_sI, if_neg (by omega), kI_sI, if_neg (by omega), z35])
  exact ⟨g, zr_f_zX9_correct _ _ _ _ _ _ e, R1, (FL.X hx _).trans (fr_f_X9_correct _ _ _ _ _ _ e), fk_f_X9_correct _ _ _ _ _ _ e⟩
theorem op_uncorrect (R : RR j hx hm) (hj : j < 512) {r : Nat} (hr : r < mn hm 0 16) (h1 : kI hm 16 r = 1) : ∃ g, f_X9_uncorrect 0 (nI r) (sX hx 0) = kret (cOf (sPF (sI (sI hm 0 35 0) 16 r 0) r)) g ∧ RR (j + 1) g (sI (sI hm 0 35 0) 16 r 0) ∧ FL hx g ∧ FK (sX hx 0) g := by
  have T := R.1.2
  have M := R.MX
  have hR := M.2.2.1.1
  obtain ⟨q1, q2⟩ := below_in hr (by omega)
  have T1 := T.thr 0
  have T2 : kSm (sI (sI hm 0 35 0) 16 r 0) := T1.fr (kAg.I _ 16 r 0) (fun a k q z => by omega)
  have M2 : MX (sI (sI hm 0 35 0) 16 r 0) := by
    obtain ⟨m1, m2, m3, m4, m5, m6, m7⟩ := M.thr 0
    refine ⟨T2, m2, m3, m4, m5, fun s hs => ?_, m7⟩
    by_cases hsr : s = r
    · subst hsr
      have e0 : kI (sI (sI hm 0 35 0) 16 s 0) 16 s = 0 := by rw [kI_sI, if_pos ⟨rfl, rfl⟩]
      exact Or.inl ⟨e0, by unfold mn; rw [e0]; rfl⟩
    · have e0 : kI (sI (sI hm 0 35 0) 16 r 0) 16 s = kI (sI hm 0 35 0) 16 s := by rw [kI_sI, if_neg (by omega)]
      have e1 : mn (sI (sI hm 0 35 0) 16 r 0) 16 s = mn (sI hm 0 35 0) 16 s := mn_cg1 e0
      rw [e0, e1]
      exact m6 s hs
  have em : f_X10_uncorrect 0 (nI r) hm = kret (cOf (sPF (sI (sI hm 0 35 0) 16 r 0) r)) (sI (sI hm 0 35 0) 16 r 0) := by
    unfold f_X10_uncorrect
    rw [kV_k T.d0, M.isReading q1 q2, kb_ret, kif_f (by decide), gN_k T.d0 T.r21, gAI_k T.d16 (by rw [T.n16]; omega) (by omega), h1, kif_f (by decide)]
    unfold X10_uncorrect_b27
    rw [kV_k T.d0, can_0 T, kb_ret, kif_f (by decide), gN_k T1.d0 T1.r21, pAZ_k T1.d16 (by rw [T1.n16]; omega) (by omega) (Or.inl rfl), kV_k M2.1.d0, M2.plateFor hr, kb_ret]
  obtain ⟨g, e, R1⟩ := opk_yes (o_uncorrect j hx hm (nI r) 0 0 hj R) em (by rw [kI_sI, if_neg (by omega), z35])
  exact ⟨g, e, R1, (FL.X hx _).trans (fr_f_X9_uncorrect _ _ _ _ _ e), fk_f_X9_uncorrect _ _ _ _ _ e⟩
theorem op_uncorrectNo (R : RR j hx hm) (hj : j < 512) {r : Nat} (hr : r < mn hm 0 16) (h1 : kI hm 16 r = 0) : ∃ g, f_X9_uncorrect 0 (nI r) (sX hx 0) = kthrow 2 g ∧ RR (j + 1) g (sI hm 0 35 2) ∧ FL hx g ∧ FK (sX hx 0) g := by
  have T := R.1.2
  have M := R.MX
  have hR := M.2.2.1.1
  obtain ⟨q1, q2⟩ := below_in hr (by omega)
  have em : f_X10_uncorrect 0 (nI r) hm = kret 0 (sI hm 0 35 2) := by
    unfold f_X10_uncorrect
    rw [kV_k T.d0, M.isReading q1 q2, kb_ret, kif_f (by decide), gN_k T.d0 T.r21, gAI_k T.d16 (by rw [T.n16]; omega) (by omega), h1, kif_t rfl]
    unfold X10_uncorrect_b27
    rw [kV_k T.d0, can_n T (show (2 : Int32) ≠ 0 by decide), kb_ret, kif_t rfl]
  obtain ⟨e', g, e, em', R1⟩ := opk_no (o_uncorrect j hx hm (nI r) 0 0 hj R) em (z35 _ _) (by decide)
  have : e' = 2 := by
    unfold mp2 at em'
    split at em'
    · cases em'
    · split at em'
      · assumption
      · cases em'
  subst this
  exact ⟨g, e, R1, (FL.X hx 0).trans (fr_f_X9_uncorrect _ _ _ _ _ e), fk_f_X9_uncorrect _ _ _ _ _ e⟩
/-- the distances are those by roads -/
def DI (hm : KH) : Prop := ∀ i k, i < 8 → k < 8 → kI hm 2 (8 * i + k) = cOf (FWn (LL hm) 8 i k)
theorem DI.cg {hm hm' : KH} (D : DI hm) (e1 : ∀ k, kI hm' 1 k = kI hm 1 k) (e2 : ∀ k, kI hm' 2 k = kI hm 2 k) : DI hm' := by
  have eL : LL hm' = LL hm := by
    funext i k
    unfold LL
    rw [mn_cg e1]
  intro i k hi hk
  rw [e2, eL]
  exact D i k hi hk
theorem op_road (R : RR j hx hm) (hj : j < 512) {x y v : Nat} (h1 : x < 8) (h2 : y < 8) (h3 : x ≠ y) (h4 : v ≤ 200) : ∃ g hm1, f_zX9_road 0 (nI x) (nI y) (nI v) (sX hx 0) = kret (kI hm 1 (8 * x + y)) g ∧ RR (j + 1) g hm1 ∧ FL hx g ∧ FK (sX hx 0) g ∧ kAg (fun a _ => a = 2) (sI (sI (sI hm 0 35 0) 1 (8 * x + y) (nI v)) 1 (8 * y + x) (nI v)) hm1 ∧ DI hm1 := by
  have T := R.1.2
  have T1 := T.thr 0
  have T2 : kSm (sI (sI hm 0 35 0) 1 (8 * x + y) (nI v)) := T1.fr (kAg.I _ 1 _ _) (fun a k z1 z2 => by omega)
  have T3 : kSm (sI (sI (sI hm 0 35 0) 1 (8 * x + y) (nI v)) 1 (8 * y + x) (nI v)) := T2.fr (kAg.I _ 1 _ _) (fun a k z1 z2 => by omega)
  obtain ⟨q1, (q2 : ¬ (7 : Int32) < nI x)⟩ := upto_in (p := x) (n := 7) (by omega) (by omega)
  obtain ⟨q3, (q4 : ¬ (7 : Int32) < nI y)⟩ := upto_in (p := y) (n := 7) (by omega) (by omega)
  obtain ⟨q5, (q6 : ¬ (200 : Int32) < nI v)⟩ := upto_in h4 (by omega)
  have hne : ¬ nI x = nI y := by rw [ka_eq (by omega) (by omega)]; exact h3
  have hcell : ∀ i k, i < 8 → k < 8 → ∃ n, n ≤ 200 ∧ kI (sI (sI (sI hm 0 35 0) 1 (8 * x + y) (nI v)) 1 (8 * y + x) (nI v)) 1 (8 * i + k) = nI n := fun i k hi hk => by
    obtain ⟨n, w1, -, w3, -⟩ := R.2.2.2.1 i k hi hk
    rw [kI_sI, kI_sI]
    split
    · exact ⟨v, h4, rfl⟩
    · split
      · exact ⟨v, h4, rfl⟩
      · exact ⟨n, w1, by rw [kI_sI, if_neg (by omega)]; exact w3⟩
  have hLLe : ∀ i k, i < 8 → k < 8 → LL (sI (sI (sI hm 0 35 0) 1 (8 * x + y) (nI v)) 1 (8 * y + x) (nI v)) i k ≤ 200 ∧ kI (sI (sI (sI hm 0 35 0) 1 (8 * x + y) (nI v)) 1 (8 * y + x) (nI v)) 1 (8 * i + k) = nI (LL (sI (sI (sI hm 0 35 0) 1 (8 * x + y) (nI v)) 1 (8 * y + x) (nI v)) i k) := fun i k hi hk => by
    obtain ⟨n, w1, w2⟩ := hcell i k hi hk
    rw [LL_at hi hk, mn_of w2 (by omega)]
    exact ⟨w1, w2⟩
  obtain ⟨hm1, f1, am, cD⟩ := tm_measures T3 (fun i k hi hk => (hLLe i k hi hk).1) (fun i k hi hk => (hLLe i k hi hk).2)
  obtain ⟨n, -, -, n3, -⟩ := R.2.2.2.1 x y h1 h2
  have em : f_X10_road 0 (nI x) (nI y) (nI v) hm = kret (kI hm 1 (8 * x + y)) hm1 := by
    unfold f_X10_road
    rw [mgt_t q1 q2, kb_ret, kif_f (by decide), mgt_t q3 q4, kb_ret, kif_f (by decide)]
    unfold X10_road_b19
    rw [kif_f (by decide), kif_f hne, in_t q5 q6, kb_ret, kif_f (by decide)]
    unfold X10_road_b52
    rw [kV_k T.d0, can_0 T, kb_ret, kif_f (by decide), gN_k T1.d0 T1.r2, mc_idx8, gAI_k T1.d1 (by rw [T1.n1]; omega) (by omega), show kI (sI hm 0 35 0) 1 (8 * x + y) = kI hm 1 (8 * x + y) from by rw [kI_sI, if_neg (by omega)], gN_k T1.d0 T1.r2, pAI_k T1.d1 (by rw [T1.n1]; omega) (by omega), gN_k T2.d0 T2.r2, mc_idx8, pAI_k T2.d1 (by rw [T2.n1]; omega) (by omega), kV_k T3.d0, f1, kb_ret]
  obtain ⟨g, e, R1⟩ := opk_yes (o_road j hx hm (nI x) (nI y) (nI v) hj R) em (by rw [(am.1 0 35 (by omega)).1, kI_sI, if_neg (by omega), kI_sI, if_neg (by omega), z35])
  refine ⟨g, hm1, zr_f_zX9_road _ _ _ _ _ _ _ e, R1, (FL.X hx _).trans (fr_f_X9_road _ _ _ _ _ _ _ e), fk_f_X9_road _ _ _ _ _ _ _ e, am, fun i k hi hk => ?_⟩
  have eL : LL hm1 = LL (sI (sI (sI hm 0 35 0) 1 (8 * x + y) (nI v)) 1 (8 * y + x) (nI v)) := by
    funext i k
    unfold LL
    rw [mn_cg (fun q => (am.1 1 q (by omega)).1)]
  rw [eL]
  exact cD i k hi hk
end OPS2
