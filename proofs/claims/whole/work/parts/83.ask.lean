/-! ask, stale -/
theorem RR.warNo {j : Nat} {hx hm : KH} (R : RR j hx hm) {b : Int32} (h : b < 0 ∨ (nI (mn hm 0 27) - 1) < b) : f_X9_warrantNumbered 0 b hx = kthrow 3 hx ∧ f_X10_isWarrant 0 b hm = kret 0 hm := by
  obtain ⟨w1, w2, w3⟩ := R.wc
  constructor
  · unfold f_X9_warrantNumbered
    rw [gI_k R.1.1.d0, w1, wi_f h, kb_ret, kif_t rfl]
  · unfold f_X10_isWarrant
    rw [gI_k R.1.2.d0, w2, in_f h, kb_ret]
    rfl
theorem RR.war {j : Nat} {hx hm : KH} (R : RR j hx hm) {w : Nat} (hw : w < mn hm 0 27) (h1 : ¬ nI w < 0) (h2 : ¬ (nI (mn hm 0 27) - 1) < nI w) : f_X9_warrantNumbered 0 (nI w) hx = kret (500 + w) hx ∧ f_X10_isWarrant 0 (nI w) hm = kret 1 hm := by
  obtain ⟨w1, w2, w3⟩ := R.wc
  have S := R.1.1
  constructor
  · unfold f_X9_warrantNumbered
    rw [gI_k S.d0, w1, wi_t h1 h2, kb_ret, kif_f (by decide), gN_k S.d0 S.r0_7, gAN_k S.d29 (by rw [S.n29]; omega) (by omega) (R.wa hw).2.1]
  · unfold f_X10_isWarrant
    rw [gI_k R.1.2.d0, w2, in_t h1 h2, kb_ret]
    rfl
noncomputable def shO (g : KH) (w : Nat) (b : Int32) : Option Nat := shF g (rwL g (some (mn g 22 w))) (mn g 23 w) (mn g 24 w) b 60 0
theorem RR.sho {j : Nat} {hx hm : KH} (R : RR j hx hm) (hj : j < 512) {w : Nat} (hw : w < mn hm 0 27) (b : Int32) : f_X8_shownAt (500 + w) b hx = kret ((shO hm w b).map (fun r => 200 + 4 * r)) hx ∧ (∀ r, shO hm w b = some r → r < mn hm 0 16) ∧ ∀ h, kAg EJ hm h → ∃ h', f_X10_shows 0 (nI w) b h = kret (shV hm (shO hm w b)) h' ∧ kAg EJ hm h' ∧ kAg (fun a _ => a = 18 ∨ a = 19) h h' := by
  have K := R.kCx
  have N := R.NX hj
  have hP := R.P
  obtain ⟨d1, d2, d3, ⟨p, p1, p2, p3⟩, f, t, t1, t2, e1, e2, e3, e4⟩ := R.wa hw
  obtain ⟨w1, w2, w3⟩ := R.wc
  have hp : mn hm 22 w = p := mn_of p2 (by omega)
  have hf : mn hm 23 w = f := mn_of e2 (by omega)
  have ht : mn hm 24 w = t := mn_of e4 (by omega)
  obtain ⟨l, l1, l2, l3, l4⟩ := R.AS.2 p p1
  have hl : sRw hm (some p) l := ⟨l1, l2⟩
  obtain ⟨P, hA, kp, kq⟩ := K.pst p1
  have hr : rwL hm (some p) = l := (row_uniq hl (rwL_s hm (some p))).symm
  unfold shO
  rw [hp, hf, ht, hr]
  refine ⟨x8_shown K P l3 l1 l4 d1 p3 e1 e3 (by omega) (by omega), fun r e => ?_, fun h ag => N.shows ag hl p1 (by omega) p2 e2 e4 (by omega) (by omega)⟩
  obtain ⟨k, k1, rfl⟩ := shF_mem _ _ _ e
  exact l1.1 k k1
theorem cAn1.fr {hx hm hx' hm' : KH} {n : Nat} {D E : Nat → Nat → Prop} (c : cAn1 hx hm n) (hP : mn hm 0 27 = mn hm' 0 27) (ag : kAg D hx hx') (am : kAg E hm hm') (hD : ∀ a k, a = 600 + n ∨ a = 30 ∧ k = n → ¬ D a k) (hE : ∀ a k, (a = 25 ∨ a = 26 ∨ a = 27) ∧ k = n → ¬ E a k) : cAn1 hx' hm' n := by
  obtain ⟨d1, d2, ⟨w, w1, w2, w3⟩, d4, g, m, d5, d6, d7, d8, d9⟩ := c
  exact ⟨by rw [(ag.k (600 + n) (by rw [d1]; decide)).1]; exact d1, by rw [(ag.1 30 n (hD _ _ (by omega))).2.2]; exact d2, ⟨w, by rw [← hP]; exact w1, by rw [(ag.1 (600 + n) 0 (hD _ _ (by omega))).1]; exact w2, by rw [(am.1 25 n (hE _ _ (by omega))).1]; exact w3⟩, by rw [(ag.1 (600 + n) 1 (hD _ _ (by omega))).1, (am.1 26 n (hE _ _ (by omega))).1]; exact d4, g, m, d5, d6, by rw [(ag.1 (600 + n) 2 (hD _ _ (by omega))).1]; exact d7, by rw [(ag.1 (600 + n) 3 (hD _ _ (by omega))).1]; exact d8, by rw [(am.1 27 n (hE _ _ (by omega))).1]; exact d9⟩
theorem RR.ac {j : Nat} {hx hm : KH} (R : RR j hx hm) : kI hx 0 16 = nI (mn hm 0 31) ∧ kI hm 0 31 = nI (mn hm 0 31) ∧ mn hm 0 31 ≤ 40 := by
  obtain ⟨⟨P, hP, e1, e2⟩, -⟩ := R.2.2.2.2.2.2.2.2.2.2.2.2.2.2.2.1
  have e : mn hm 0 31 = P := mn_of e2 (by omega)
  rw [e]
  exact ⟨e1, e2, hP⟩
theorem RR.an {j : Nat} {hx hm : KH} (R : RR j hx hm) {n : Nat} (hn : n < mn hm 0 31) : cAn1 hx hm n := R.2.2.2.2.2.2.2.2.2.2.2.2.2.2.2.1.2 n hn
theorem x9_answ {h : KH} {N w r g m : Nat} {b : Int32} (S : kSx h) (hx : kx h = 600 + N) (hf : kd h (600 + N) = 0) (hN : N < 40) (e16 : kI h 0 16 = nI N) (hw : w < 8) (kw : kd h (500 + w) = 9) (ew : kI h (500 + w) 0 = nI w) (hr : r < 60) (kr : kd h (200 + 4 * r) = 6) (eg : kI h (200 + 4 * r) 1 = nI g) (em : kI h (200 + 4 * r) 2 = nI m) : ∃ h', (gN h 0 10 8 (fun a3 => gI h 0 10 16 (fun x2 => nw h 1 0 (fun a4 h3 => gI h3 (500 + w) 9 0 (fun x3 => gI h3 (200 + 4 * r) 6 1 (fun x4 => gI h3 (200 + 4 * r) 6 2 (fun x5 => kbinI (f_X0_init a4 x3 b x4 x5 h3) (fun _ h4 => pAN h4 a3 28 1 x2 a4 (fun h5 => gI h5 0 10 16 (fun x6 => pI h5 0 10 16 (x6 + 1) (fun h6 => gI h6 (200 + 4 * r) 6 1 (fun x7 => gI h6 (200 + 4 * r) 6 2 (fun x8 => kret ((100000 * x7) + x8) h6)))))))))))) : KO Int32) = kret (nI (100000 * g + m)) h' ∧ kAg (fun a k => (a = 600 + N ∨ a = 600 + N + 1000000) ∨ a = 30 ∧ k = N ∨ a = 0 ∧ k = 16) h h' ∧ kd h' (600 + N) = 1 ∧ kR h' 30 N = some (600 + N) ∧ kI h' (600 + N) 0 = nI w ∧ kI h' (600 + N) 1 = b ∧ kI h' (600 + N) 2 = nI g ∧ kI h' (600 + N) 3 = nI m ∧ kI h' 0 16 = nI (N + 1) := by
  have ag0 : kAg (fun a k => (a = 600 + N ∨ a = 600 + N + 1000000) ∨ a = 30 ∧ k = N ∨ a = 0 ∧ k = 16) h (al h 1 0) := (kAg.al h 1 0 (by rw [hx]; exact hf)).sub (fun a k z => by rw [hx] at z; exact Or.inl z)
  have S1 : kSx (al h 1 0) := S.fr ag0 (fun a k q z => by omega)
  have k9 : kd (al h 1 0) (600 + N) = 1 := by rw [kd_al, hx, if_pos rfl]
  have kw1 : kd (al h 1 0) (500 + w) = 9 := by rw [kd_al, hx, if_neg (by omega)]; exact kw
  have kr1 : kd (al h 1 0) (200 + 4 * r) = 6 := by rw [kd_al, hx, if_neg (by omega)]; exact kr
  have eI : ∀ a k, a ≠ 600 + N → kI (al h 1 0) a k = kI h a k := fun a k ha => by rw [kI_al, hx, if_neg ha]
  obtain ⟨hB, eB⟩ : ∃ hB, hB = sI (sI (sI (sI (al h 1 0) (600 + N) 0 (nI w)) (600 + N) 1 b) (600 + N) 2 (nI g)) (600 + N) 3 (nI m) := ⟨_, rfl⟩
  have agB : kAg (fun a k => (a = 600 + N ∨ a = 600 + N + 1000000) ∨ a = 30 ∧ k = N ∨ a = 0 ∧ k = 16) (al h 1 0) hB := by
    rw [eB]
    exact (((kAg.I (al h 1 0) (600 + N) 0 _).trans (F := fun a k => (a = 600 + N ∨ a = 600 + N + 1000000) ∨ a = 30 ∧ k = N ∨ a = 0 ∧ k = 16) (kAg.I _ (600 + N) 1 _) (fun a k q z => q (Or.inl (Or.inl z.1))) (fun a k q z => q (Or.inl (Or.inl z.1)))).trans (F := fun a k => (a = 600 + N ∨ a = 600 + N + 1000000) ∨ a = 30 ∧ k = N ∨ a = 0 ∧ k = 16) (kAg.I _ (600 + N) 2 _) (fun a k q => q) (fun a k q z => q (Or.inl (Or.inl z.1)))).trans (kAg.I _ (600 + N) 3 _) (fun a k q => q) (fun a k q z => q (Or.inl (Or.inl z.1)))
  have kB : kd hB (600 + N) = 1 := by rw [eB]; exact k9
  have SB : kSx hB := S1.fr agB (fun a k q z => by omega)
  have eBI : ∀ a k, a ≠ 600 + N → kI hB a k = kI h a k := fun a k ha => by
    rw [eB, kI_sI, if_neg (fun z => ha z.1), kI_sI, if_neg (fun z => ha z.1), kI_sI, if_neg (fun z => ha z.1), kI_sI, if_neg (fun z => ha z.1)]
    exact eI a k ha
  have krB : kd hB (200 + 4 * r) = 6 := by rw [eB]; exact kr1
  have hinit : f_X0_init (600 + N) (nI w) b (nI g) (nI m) (al h 1 0) = kret () hB := by
    unfold f_X0_init
    simp only [pI, kd_sI, k9, if_true, eB]
  refine ⟨sI (sR hB 30 N (some (600 + N))) 0 16 (nI (N + 1)), ?_, ((ag0.trans agB (fun a k q => q) (fun a k q => q)).trans (kAg.R hB 30 N _) (fun a k q => q) (fun a k q z => q (Or.inr (Or.inl z)))).trans (kAg.I _ 0 16 _) (fun a k q => q) (fun a k q z => q (Or.inr (Or.inr z))), ?_, ?_, ?_, ?_, ?_, ?_, ?_⟩
  · have kC : kd (sR hB 30 N (some (600 + N))) 0 = 10 := by rw [kd_sR]; exact SB.d0
    have kD : kd (sI (sR hB 30 N (some (600 + N))) 0 16 (nI (N + 1))) (200 + 4 * r) = 6 := by rw [kd_sI, kd_sR]; exact krB
    rw [gN_k S.d0 S.r0_8, gI_k S.d0, e16, nw_k (by rw [hx]; exact hf), hx, gI_k kw1, eI _ _ (by omega), ew, gI_k kr1, eI _ _ (by omega), eg, gI_k kr1, eI _ _ (by omega), em, hinit, ki_ret, pAN_k SB.d30 (by rw [SB.n30]; omega) (by omega) kB, gI_k kC, kI_sR, eBI 0 16 (by omega), e16, pI_k kC, nI_1, gI_k kD, kI_sI, if_neg (by omega), kI_sR, eBI _ _ (by omega), eg, gI_k kD, kI_sI, if_neg (by omega), kI_sR, eBI _ _ (by omega), em, show (100000 : Int32) = nI 100000 from rfl, ka_mul, ka_add]
  · exact kB
  · rw [kR_sI, kR_sR, if_pos ⟨rfl, rfl⟩]
  · rw [kI_sI, if_neg (by omega), kI_sR, eB, kI_sI, if_neg (by omega), kI_sI, if_neg (by omega), kI_sI, if_neg (by omega), kI_sI, if_pos ⟨rfl, rfl⟩]
  · rw [kI_sI, if_neg (by omega), kI_sR, eB, kI_sI, if_neg (by omega), kI_sI, if_neg (by omega), kI_sI, if_pos ⟨rfl, rfl⟩]
  · rw [kI_sI, if_neg (by omega), kI_sR, eB, kI_sI, if_neg (by omega), kI_sI, if_pos ⟨rfl, rfl⟩]
  · rw [kI_sI, if_neg (by omega), kI_sR, eB, kI_sI, if_pos ⟨rfl, rfl⟩]
  · rw [kI_sI, if_pos ⟨rfl, rfl⟩]
theorem tm_ask {h : KH} {N : Nat} {w b v : Int32} (T : kSm h) (hN : N < 40) (e : kI h 0 31 = nI N) : ∃ h', X10_ask_b72 0 w b v 0 0 h = kret v h' ∧ kAg (fun a k => (a = 25 ∨ a = 26 ∨ a = 27) ∧ k = N ∨ a = 0 ∧ k = 31) (sI h 0 35 0) h' ∧ kI h' 25 N = w ∧ kI h' 26 N = b ∧ kI h' 27 N = v ∧ kI h' 0 31 = nI (N + 1) := by
  have T1 := T.thr 0
  have T2 : kSm (sI (sI h 0 35 0) 25 N w) := T1.fr (kAg.I _ 25 N w) (fun a k q z => by omega)
  have T3 : kSm (sI (sI (sI h 0 35 0) 25 N w) 26 N b) := T2.fr (kAg.I _ 26 N b) (fun a k q z => by omega)
  have T4 : kSm (sI (sI (sI (sI h 0 35 0) 25 N w) 26 N b) 27 N v) := T3.fr (kAg.I _ 27 N v) (fun a k q z => by omega)
  refine ⟨sI (sI (sI (sI (sI h 0 35 0) 25 N w) 26 N b) 27 N v) 0 31 (nI (N + 1)), ?_, (((kAg.I (sI h 0 35 0) 25 N w).trans (F := fun a k => (a = 25 ∨ a = 26 ∨ a = 27) ∧ k = N ∨ a = 0 ∧ k = 31) (kAg.I _ 26 N b) (fun a k q z => q (by omega)) (fun a k q z => q (by omega))).trans (F := fun a k => (a = 25 ∨ a = 26 ∨ a = 27) ∧ k = N ∨ a = 0 ∧ k = 31) (kAg.I _ 27 N v) (fun a k q => q) (fun a k q z => q (by omega))).trans (kAg.I _ 0 31 _) (fun a k q => q) (fun a k q z => q (by omega)), ?_, ?_, ?_, ?_⟩
  · unfold X10_ask_b72
    rw [kV_k T.d0, can_0 T, kb_ret, kif_f (by decide), gN_k T1.d0 T1.r32, gI_k T1.d0, show kI (sI h 0 35 0) 0 31 = nI N from e, pAI_k T1.d25 (by rw [T1.n25]; omega) (by omega)]
    rw [gN_k T2.d0 T2.r33, gI_k T2.d0, show kI (sI (sI h 0 35 0) 25 N w) 0 31 = nI N from e, pAI_k T2.d26 (by rw [T2.n26]; omega) (by omega)]
    rw [gN_k T3.d0 T3.r34, gI_k T3.d0, show kI (sI (sI (sI h 0 35 0) 25 N w) 26 N b) 0 31 = nI N from e, pAI_k T3.d27 (by rw [T3.n27]; omega) (by omega)]
    rw [gI_k T4.d0, show kI (sI (sI (sI (sI h 0 35 0) 25 N w) 26 N b) 27 N v) 0 31 = nI N from e, pI_k T4.d0, nI_1]
  · rw [kI_sI, if_neg (by omega), kI_sI, if_neg (by omega), kI_sI, if_neg (by omega), kI_sI, if_pos ⟨rfl, rfl⟩]
  · rw [kI_sI, if_neg (by omega), kI_sI, if_neg (by omega), kI_sI, if_pos ⟨rfl, rfl⟩]
  · rw [kI_sI, if_neg (by omega), kI_sI, if_pos ⟨rfl, rfl⟩]
  · rw [kI_sI, if_pos ⟨rfl, rfl⟩]
theorem o_ask : OPI (fun a b c h => f_X9_ask 0 a b h) (fun a b c h => f_X10_ask 0 a b h) (mp3 3 2 4) := by
  intro j hx hm a b c hj R
  have S := R.1.1.X 0
  have T := R.1.2
  have RX := R.X 0
  obtain ⟨w1, w2, w3⟩ := R.wc
  obtain ⟨n1, n2, n3⟩ := R.ac
  have hb72 : ∀ (h : KH) (s : Int32) (v : Int32), kSm h → v ≠ 0 → X10_ask_b72 0 a b s v 0 h = kret 0 (sI h 0 35 v) := fun h s v Th hv => by
    unfold X10_ask_b72
    rw [kV_k Th.d0, can_n Th hv, kb_ret, kif_t rfl]
  rcases ka_below a (mn hm 0 27) (by omega) with ⟨w, hw, rfl, q1, q2⟩ | hq
  · obtain ⟨y1, y2⟩ := RX.war hw q1 q2
    by_cases hfull : mn hm 0 31 = 40
    · refine op_no R 2 2 0 rfl (by decide) ?_ ?_
      · show f_X9_ask 0 (nI w) b (sX hx 0) = _
        unfold f_X9_ask
        rw [kV_k S.d0, y1, kb_ret, gI_k S.d0, show kI (sX hx 0) 0 16 = nI (mn hm 0 31) from n1, kif_f (by rw [hfull]; decide)]
      · show f_X10_ask 0 (nI w) b hm = _
        unfold f_X10_ask
        rw [kV_k T.d0, y2, kb_ret, gI_k T.d0, n2, kif_t (by rw [hfull]; rfl)]
        unfold X10_ask_b20
        rw [kif_f (by decide), kif_f (by decide)]
        unfold X10_ask_b40 X10_ask_b41
        rw [kif_f (by decide), kif_f (by decide), hb72 hm _ 2 T (by decide)]
    · obtain ⟨z1, z2, z3⟩ := RX.sho hj hw b
      obtain ⟨h', e1, e2, e3⟩ := z3 hm ((kAg.rf hm).sub (fun _ _ z => z.elim))
      have T' : kSm h' := T.fr e2 (fun a k q z => by unfold EJ at z; omega)
      have hlt : nI (mn hm 0 31) < 40 := by rw [show (40 : Int32) = nI 40 from rfl, ka_lt (by omega) (by omega)]; omega
      have hmod : ∀ s : Int32, shV hm (shO hm w b) = s → f_X10_ask 0 (nI w) b hm = X10_ask_b41 0 (nI w) b 1 0 s h' := fun s es => by
        unfold f_X10_ask
        rw [kV_k T.d0, y2, kb_ret, gI_k T.d0, n2, kif_f (by rw [show (40 : Int32) = nI 40 from rfl, ka_eq (by omega) (by omega)]; exact hfull)]
        unfold X10_ask_b20
        rw [kif_f (by decide), kif_t rfl, kV_k T.d0, e1, kb_ret, es]
      cases eo : shO hm w b with
      | none =>
        rw [eo] at z1
        refine op_no2 (h' := sI h' 0 35 3) R 4 3 0 rfl (by decide) ?_ ?_ (e2.trans (EJ.thr h' 3) (fun a k q => q) (fun a k q => q)) (by rw [kI_sI, if_pos ⟨rfl, rfl⟩])
        · show f_X9_ask 0 (nI w) b (sX hx 0) = _
          unfold f_X9_ask
          rw [kV_k S.d0, y1, kb_ret, gI_k S.d0, show kI (sX hx 0) 0 16 = nI (mn hm 0 31) from n1, kif_t hlt, kV_k (RX.wa hw).1, z1, kb_ret]
          rfl
        · show f_X10_ask 0 (nI w) b hm = _
          rw [hmod (-1) (by rw [eo]; rfl)]
          unfold X10_ask_b41
          rw [kif_f (by decide), kif_t rfl, kif_t rfl, hb72 h' _ 3 T' (by decide)]
      | some r =>
        have hr := z2 r eo
        have RXn := R.X (600 + mn hm 0 31)
        have R1 := RXn.up
        have S1 := R.1.1.X (600 + mn hm 0 31)
        have hfr : kd hx (600 + mn hm 0 31) = 0 := R.2.2.2.2.2.2.2.2.2.2.2.2.2.2.2.2 _ (by omega)
        obtain ⟨d1, d2, d3, -⟩ := RXn.wa hw
        obtain ⟨z1', -, -⟩ := RXn.sho hj hw b
        rw [eo] at z1'
        have hR60 := R.MX.2.2.1.1
        obtain ⟨g1, g2⟩ := RXn.kCx.gate hr
        obtain ⟨m1, m2⟩ := RXn.kCx.minute hr
        obtain ⟨hx1, x1, ag, x2, x3, x4, x5, x6, x7, x8⟩ := x9_answ (h := sX hx (600 + mn hm 0 31)) (N := mn hm 0 31) (w := w) (r := r) (g := mn hm 12 r) (m := mn hm 13 r) (b := b) S1 rfl hfr (by omega) n1 (by omega) d1 d3 (by omega) (RXn.kCx.rd hr).1.1 g2 m2
        have e31' : kI h' 0 31 = nI (mn hm 0 31) := by rw [NX.e e2 0 31 (by omega) (by omega) (by omega)]; exact n2
        obtain ⟨hm1, v1, am1, v2, v3, v4, v5⟩ := tm_ask (h := h') (N := mn hm 0 31) (w := nI w) (b := b) (v := nI (100000 * mn hm 12 r + mn hm 13 r)) T' (by omega) e31'
        have am : kAg (fun a k => (a = 18 ∨ a = 19 ∨ a = 0 ∧ k = 35) ∨ (a = 25 ∨ a = 26 ∨ a = 27) ∧ k = mn hm 0 31 ∨ a = 0 ∧ k = 31) hm hm1 := (e2.trans (F := fun a k => (a = 18 ∨ a = 19 ∨ a = 0 ∧ k = 35) ∨ (a = 25 ∨ a = 26 ∨ a = 27) ∧ k = mn hm 0 31 ∨ a = 0 ∧ k = 31) (EJ.thr h' 0) (fun a k q z => q (Or.inl z)) (fun a k q z => q (Or.inl z))).trans am1 (fun a k q => q) (fun a k q z => q (Or.inr z))
        have e31 : mn hm1 0 31 = mn hm 0 31 + 1 := mn_of v5 (by omega)
        have e27 : mn hm1 0 27 = mn hm 0 27 := mn_cg1 (am.1 0 27 (by omega)).1
        have hne : ¬ nI (100000 * mn hm 12 r + mn hm 13 r) = -1 := by
          rw [ka_n1 (by omega)]
          exact fun z => z
        refine op_ok (hx1 := hx1) (hm1 := hm1) (600 + mn hm 0 31) (nI (100000 * mn hm 12 r + mn hm 13 r)) ?_ ?_ (by rw [(am1.1 0 35 (by omega)).1, kI_sI, if_pos ⟨rfl, rfl⟩]) ?_
        · show f_X9_ask 0 (nI w) b (sX hx (600 + mn hm 0 31)) = _
          unfold f_X9_ask
          rw [kV_k S1.d0, (RXn.war hw q1 q2).1, kb_ret, gI_k S1.d0, show kI (sX hx (600 + mn hm 0 31)) 0 16 = nI (mn hm 0 31) from n1, kif_t hlt, kV_k d1, z1', kb_ret]
          exact x1
        · show f_X10_ask 0 (nI w) b hm = _
          rw [hmod _ rfl, eo]
          unfold X10_ask_b41
          rw [kif_f (by decide), kif_t rfl]
          rw [show shV hm (some r) = nI (100000 * mn hm 12 r + mn hm 13 r) from rfl, kif_f hne, v1]
        · have hP := R1.P
          obtain ⟨⟨sx, sm⟩, c1, c2, c3, c4, c5, c6, c7, c8, c9, c10, c11, c12, c13, c14, c15, c16⟩ := R1
          refine ⟨⟨sx.fr ag ?_, sm.fr am ?_⟩, c1.fr ag am ?_ ?_, c2.fr ag am ?_ ?_, c3.fr ag am ?_ ?_, c4.fr ag am ?_ ?_, c5.fr ag am ?_ ?_, c6.fr ag am ?_ ?_, c7.fr ag am ?_ ?_, c8.fr ag am ?_ ?_, c9.fr ag am ?_ ?_, c10.fr hP ag am ?_ ?_, c11.fr ag am ?_ ?_, c12.fr hP ag am ?_ ?_, c13.fr ag am ?_ ?_, c14.fr ag am ?_ ?_, ?_, ?_⟩
          all_goals first
            | (intro a k h1 h2; omega)
            | skip
          · refine ⟨⟨mn hm 0 31 + 1, by omega, x8, v5⟩, fun n hn => ?_⟩
            rw [e31] at hn
            by_cases hnN : n = mn hm 0 31
            · subst hnN
              exact ⟨x2, x3, ⟨w, by rw [e27]; exact hw, x4, v2⟩, by rw [x5, v3], mn hm 12 r, mn hm 13 r, g1, m1, x6, x7, v4⟩
            · exact (RXn.an (show n < mn hm 0 31 by omega)).fr e27.symm ag am (fun a k q z => by omega) (fun a k q z => by omega)
          · intro x hxx
            rw [e27, e31, mn_cg1 (am.1 0 8 (by omega)).1, mn_cg1 (am.1 0 16 (by omega)).1] at hxx
            have h0 : kd hx x = 0 := R.2.2.2.2.2.2.2.2.2.2.2.2.2.2.2.2 x (by omega)
            rw [(ag.2 x (Or.inr (by omega))).1]
            exact h0
  · obtain ⟨y1, y2⟩ := RX.warNo hq
    refine op_no R 3 1 0 rfl (by decide) ?_ ?_
    · show f_X9_ask 0 a b (sX hx 0) = _
      unfold f_X9_ask
      rw [kV_k S.d0, y1]
      rfl
    · show f_X10_ask 0 a b hm = _
      have hb20 : ∀ s : Int32, X10_ask_b20 0 a b 0 s hm = kret 0 (sI hm 0 35 1) := fun s => by
        unfold X10_ask_b20 X10_ask_b40 X10_ask_b41
        rw [kif_t rfl, kif_t rfl, hb72 hm _ 1 T (by decide)]
      unfold f_X10_ask
      rw [kV_k T.d0, y2, kb_ret, gI_k T.d0, hb20, hb20]
      unfold kif
      split <;> rfl
/-! stale -/
theorem RR.stL {j : Nat} {hx hm : KH} (R : RR j hx hm) (hj : j < 512) {w : Nat} (hw : w < mn hm 0 27) : ∀ (f i c : Nat) (h : KH), kAg EJ hm h → i ≤ mn hm 0 31 → mn hm 0 31 < i + f → ∃ h' c', X9_stale_L11 f 0 (500 + w) (nI c) (nI i) hx = kret (nI c') hx ∧ X10_stale_L26 f 0 (nI w) (nI c) (nI i) h = kret (nI c') h' ∧ kAg EJ hm h' ∧ kAg (fun a _ => a = 18 ∨ a = 19) h h' := by
  have S := R.1.1
  have K := R.kCx
  have N := R.NX hj
  obtain ⟨w1, w2, w3⟩ := R.wc
  obtain ⟨n1, n2, n3⟩ := R.ac
  intro f
  induction f with
  | zero => intro i c h _ h1 h2; omega
  | succ f ih =>
    intro i c h ag h1 h2
    have T := (N.mx ag).1
    unfold X9_stale_L11 X9_stale_b11 X10_stale_L26 X10_stale_b26
    rw [gI_k S.d0, n1, gI_k T.d0, NX.e ag 0 31 (by omega) (by omega) (by omega), n2]
    by_cases hi : mn hm 0 31 ≤ i
    · have hle : nI (mn hm 0 31) ≤ nI i := by rw [ka_le (by omega) (by omega)]; exact hi
      exact ⟨h, c, by rw [kif_t hle], by rw [kif_t hle], ag, (kAg.rf h).sub (fun _ _ z => z.elim)⟩
    · have hnle : ¬ nI (mn hm 0 31) ≤ nI i := by rw [ka_le (by omega) (by omega)]; exact hi
      obtain ⟨d1, d2, ⟨w', w4, w5, w6⟩, d4, g, m, d5, d6, d7, d8, d9⟩ := R.an (show i < mn hm 0 31 by omega)
      obtain ⟨k1, k2, k3, -⟩ := R.wa hw
      rw [kif_f hnle, kif_f hnle, gN_k S.d0 S.r0_8, gAN_k S.d30 (by rw [S.n30]; omega) (by omega) d2, gI_k d1, gI_k k1, w5, k3]
      rw [gN_k T.d0 T.r32, gAI_k T.d25 (by rw [T.n25]; omega) (by omega), NX.e ag 25 i (by omega) (by omega) (by omega), w6]
      have hsame : ∃ h' c', X9_stale_b61 (X9_stale_L11 f) 0 (500 + w) (nI c) (nI i) hx = kret (nI c') hx ∧ X10_stale_b69 (X10_stale_L26 f) 0 (nI w) (nI i) (nI c) h = kret (nI c') h' ∧ kAg EJ hm h' ∧ kAg (fun a _ => a = 18 ∨ a = 19) h h' := by
        obtain ⟨h', c', e1, e2, e3, e4⟩ := ih (i + 1) c h ag (by omega) (by omega)
        refine ⟨h', c', ?_, ?_, e3, e4⟩
        · unfold X9_stale_b61
          rw [nI_1]
          exact e1
        · unfold X10_stale_b69 X10_stale_b70
          show X10_stale_L26 f 0 (nI w) (nI c + nI 0) (nI i + 1) h = _
          rw [ka_add, nI_1]
          exact e2
      by_cases hww : w' = w
      · have heq : nI w' = nI w := by rw [hww]
        rw [kif_t heq, kif_t heq]
        obtain ⟨z1, z2, z3⟩ := R.sho hj hw (kI hm 26 i)
        obtain ⟨h1', e1, e2, e3⟩ := z3 h ag
        have T1 := (N.mx e2).1
        rw [gI_k d1, d4, kV_k k1, z1, kb_ret]
        rw [gN_k T.d0 T.r33, gAI_k T.d26 (by rw [T.n26]; omega) (by omega), NX.e ag 26 i (by omega) (by omega) (by omega), kV_k T.d0, e1, kb_ret, gN_k T1.d0 T1.r34, gAI_k T1.d27 (by rw [T1.n27]; omega) (by omega), NX.e e2 27 i (by omega) (by omega) (by omega), d9, kV_k d1]
        have hcount : ∀ (x5 : Int32), (x5 = 0 ∧ shV hm (shO hm w (kI hm 26 i)) ≠ nI (100000 * g + m) ∨ x5 = 1 ∧ shV hm (shO hm w (kI hm 26 i)) = nI (100000 * g + m)) → f_X0_tells (600 + i) ((shO hm w (kI hm 26 i)).map (fun r => 200 + 4 * r)) hx = kret x5 hx → ∃ h' c', kbind (f_X0_tells (600 + i) ((shO hm w (kI hm 26 i)).map (fun r => 200 + 4 * r)) hx) (fun x5 h2 => kif (x5 = 0) (X9_stale_b61 (X9_stale_L11 f) 0 (500 + w) (nI c + 1) (nI i) h2) (X9_stale_b61 (X9_stale_L11 f) 0 (500 + w) (nI c) (nI i) h2)) = kret (nI c') hx ∧ kif (shV hm (shO hm w (kI hm 26 i)) = nI (100000 * g + m)) (X10_stale_b69 (X10_stale_L26 f) 0 (nI w) (nI i) (nI c) h1') (X10_stale_b70 (X10_stale_L26 f) 0 (nI w) (nI i) 1 (nI c) h1') = kret (nI c') h' ∧ kAg EJ hm h' ∧ kAg (fun a _ => a = 18 ∨ a = 19) h h' := by
          intro x5 hx5 ht
          rw [ht, kb_ret]
          rcases hx5 with ⟨q1, q2⟩ | ⟨q1, q2⟩
          · obtain ⟨h', c', f1, f2, f3, f4⟩ := ih (i + 1) (c + 1) h1' e2 (by omega) (by omega)
            refine ⟨h', c', ?_, ?_, f3, e3.trans f4 (fun a k q => q) (fun a k q => q)⟩
            · rw [kif_t q1]
              unfold X9_stale_b61
              rw [nI_1, nI_1]
              exact f1
            · rw [kif_f q2]
              unfold X10_stale_b70
              rw [nI_1, nI_1]
              exact f2
          · obtain ⟨h', c', f1, f2, f3, f4⟩ := ih (i + 1) c h1' e2 (by omega) (by omega)
            refine ⟨h', c', ?_, ?_, f3, e3.trans f4 (fun a k q => q) (fun a k q => q)⟩
            · rw [kif_f (by rw [q1]; decide)]
              unfold X9_stale_b61
              rw [nI_1]
              exact f1
            · rw [kif_t q2]
              unfold X10_stale_b69 X10_stale_b70
              show X10_stale_L26 f 0 (nI w) (nI c + nI 0) (nI i + 1) h1' = _
              rw [ka_add, nI_1]
              exact f2
        cases eo : shO hm w (kI hm 26 i) with
        | none =>
          have := hcount 0 (Or.inl ⟨rfl, by
            rw [eo]
            show ¬ (-1 : Int32) = nI _
            rw [ka_n1' (by omega)]
            exact fun z => z⟩) (by rw [eo]; rfl)
          rw [eo] at this
          exact this
        | some r =>
          have hr := z2 r eo
          obtain ⟨g1, g2⟩ := K.gate hr
          obtain ⟨m1, m2⟩ := K.minute hr
          have key : (mn hm 12 r = g ∧ mn hm 13 r = m) ↔ 100000 * mn hm 12 r + mn hm 13 r = 100000 * g + m := by omega
          by_cases q : mn hm 12 r = g ∧ mn hm 13 r = m
          · have := hcount 1 (Or.inr ⟨rfl, by
              rw [eo]
              show nI (100000 * mn hm 12 r + mn hm 13 r) = _
              rw [key.1 q]⟩) (by
              rw [eo]
              show gI hx (200 + 4 * r) 6 1 (fun x1 => gI hx (600 + i) 1 2 (fun x2 => kif (x1 = x2) (gI hx (200 + 4 * r) 6 2 (fun x3 => gI hx (600 + i) 1 3 (fun x4 => kif (x3 = x4) (X0_tells_b31 1 hx) (X0_tells_b30 hx)))) (X0_tells_b30 hx))) = _
              rw [gI_k (K.rd hr).1.1, gI_k d1, g2, d7, kif_t (by rw [q.1]), gI_k (K.rd hr).1.1, gI_k d1, m2, d8, kif_t (by rw [q.2])]
              rfl)
            rw [eo] at this
            exact this
          · have := hcount 0 (Or.inl ⟨rfl, by
              rw [eo]
              show ¬ nI (100000 * mn hm 12 r + mn hm 13 r) = _
              rw [ka_eq (by omega) (by omega)]
              exact fun z => q (key.2 z)⟩) (by
              rw [eo]
              show gI hx (200 + 4 * r) 6 1 (fun x1 => gI hx (600 + i) 1 2 (fun x2 => kif (x1 = x2) (gI hx (200 + 4 * r) 6 2 (fun x3 => gI hx (600 + i) 1 3 (fun x4 => kif (x3 = x4) (X0_tells_b31 1 hx) (X0_tells_b30 hx)))) (X0_tells_b30 hx))) = _
              rw [gI_k (K.rd hr).1.1, gI_k d1, g2, d7]
              by_cases q3 : mn hm 12 r = g
              · rw [kif_t (by rw [q3]), gI_k (K.rd hr).1.1, gI_k d1, m2, d8, kif_f (by rw [ka_eq (by omega) (by omega)]; exact fun z => q ⟨q3, z⟩)]
                rfl
              · rw [kif_f (by rw [ka_eq (by omega) (by omega)]; exact q3)]
                rfl)
            rw [eo] at this
            exact this
      · have hneq : ¬ nI w' = nI w := by rw [ka_eq (by omega) (by omega)]; exact hww
        rw [kif_f hneq, kif_f hneq]
        exact hsame
theorem o_stale : OPI (fun a b c h => f_X9_stale 0 a h) (fun a b c h => f_X10_stale 0 a h) (mp1 3) := by
  intro j hx hm a b c hj R
  have S := R.1.1.X 0
  have T := R.1.2
  have RX := R.X 0
  have RT := RX.thr 0
  obtain ⟨w1, w2, w3⟩ := R.wc
  rcases ka_below a (mn hm 0 27) (by omega) with ⟨w, hw, rfl, q1, q2⟩ | hq
  · obtain ⟨y1, y2⟩ := RX.war hw q1 q2
    obtain ⟨h', c', e1, e2, e3, e4⟩ := RT.stL hj (w := w) hw kF 0 0 (sI hm 0 35 0) ((kAg.rf _).sub (fun _ _ z => z.elim)) (by omega) (by have := RT.ac.2.2; unfold kF; omega)
    refine op_q R (nI c') ?_ ?_ e4
    · show f_X9_stale 0 (nI w) (sX hx 0) = _
      unfold f_X9_stale
      rw [kV_k S.d0, y1, kb_ret]
      exact e1
    · show f_X10_stale 0 (nI w) hm = _
      unfold f_X10_stale
      rw [kV_k T.d0, y2, kb_ret, kif_f (by decide)]
      unfold X10_stale_b14
      rw [kV_k T.d0, can_0 T, kb_ret, kif_f (by decide)]
      exact e2
  · obtain ⟨y1, y2⟩ := RX.warNo hq
    refine op_no R 3 1 0 rfl (by decide) ?_ ?_
    · show f_X9_stale 0 a (sX hx 0) = _
      unfold f_X9_stale
      rw [kV_k S.d0, y1]
      rfl
    · show f_X10_stale 0 a hm = _
      unfold f_X10_stale
      rw [kV_k T.d0, y2, kb_ret, kif_t rfl]
      unfold X10_stale_b14
      rw [kV_k T.d0, can_n T (show (1 : Int32) ≠ 0 by decide), kb_ret, kif_t rfl]
