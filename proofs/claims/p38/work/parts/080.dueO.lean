/-! due, dueAnew, settle -/
theorem o_due : OPI (fun a b c h => f_X9_due 0 a h) (fun a b c h => f_X10_due 0 a h) (mp1 3) := by
  intro j hx hm a b c hj R
  have S := R.1.1.X 0
  have T := R.1.2
  have RT := (R.X 0).thr 0
  have N := RT.NX hj
  have hP := R.P
  obtain ⟨n, hn, hc, hh, hd⟩ := RT.holdN
  rcases ka_rng a 0 5 0 5 rfl rfl (by decide) (by decide) with ⟨d, d1, d2, rfl, q1, q2⟩ | hq
  · obtain ⟨h', e1, e2, e3⟩ := N.dueFrom (d := nI d) hc (by omega) hh ((kAg.rf (sI hm 0 35 0)).sub (fun _ _ z => z.elim))
    refine op_q R (nI (duT (sI hm 0 35 0) n (nI d) (mn hm 0 8))) ?_ ?_ e3
    · show f_X9_due 0 (nI d) (sX hx 0) = _
      unfold f_X9_due
      rw [rdr_t q1 q2, kb_ret, kV_k S.d0, x9_kept RT N (fun p hp m hm => hd p hp m hm hj), kb_ret]
      rfl
    · show f_X10_due 0 (nI d) hm = _
      unfold f_X10_due
      rw [mdr_t q1 q2, kb_ret, kif_f (by decide)]
      unfold X10_due_b13
      rw [kV_k T.d0, can_0 T, kb_ret, kif_f (by decide), kV_k (T.thr 0).d0, e1, kb_ret]
      rfl
  · refine op_no R 3 1 0 rfl (by decide) ?_ ?_
    · show f_X9_due 0 a (sX hx 0) = _
      unfold f_X9_due
      rw [rdr_f hq]
      rfl
    · show f_X10_due 0 a hm = _
      unfold f_X10_due
      rw [mdr_f hq, kb_ret, kif_t rfl]
      unfold X10_due_b13
      rw [kV_k T.d0, can_n T (show (1 : Int32) ≠ 0 by decide), kb_ret, kif_t rfl]
      rfl
theorem x9_anewL {g : KH} {n j : Nat} {d : Int32} (hj : j < 512) : ∀ (f p : Nat) (hx : KH), RR j hx g → NX g → (∃ n', n' ≤ j ∧ kI g 0 12 = nI n' ∧ n' = n) → p ≤ mn g 0 8 → mn g 0 8 < p + f → ∃ h', X9_dueAnew_L8 f 0 d (nI (duT g n d p)) (nI p) hx = kret (nI (duT g n d (mn g 0 8))) h' ∧ RR j h' g := by
  intro f
  induction f with
  | zero => intro p hx _ _ _ h1 h2; omega
  | succ f ih =>
    intro p hx R N hn h1 h2
    have S := R.1.1
    have K := R.kCx
    have hP := R.cnt
    obtain ⟨n', hn', hc, -, hd⟩ := R.holdN
    obtain rfl : n' = n := by
      obtain ⟨n2, w1, w2, w3⟩ := hn
      rw [← w3]
      exact nI_inj (hc.symm.trans w2) (by omega) (by omega)
    unfold X9_dueAnew_L8 X9_dueAnew_b8
    rw [gI_k S.d0, hP.1]
    by_cases hi : mn g 0 8 ≤ p
    · exact ⟨hx, by rw [kif_t (by rw [ka_le (by omega) (by omega)]; exact hi), show p = mn g 0 8 by omega], R⟩
    · have hp : p < mn g 0 8 := by omega
      obtain ⟨h1', l, y1, y2, y3, y4, y5, y6, y7, y8⟩ := K.joinAnew (p := p) hp R.AS.1 R.z35
      have R1 : RR j h1' g := R.fr35 y2 (kAg.rf g) (y2.nf (fun a z => by omega)) y8 (fun a k z => by omega) (fun a k z => z.elim)
      obtain ⟨n3, hn3, hc3, -, hd3⟩ := R1.holdN
      obtain rfl : n3 = n' := nI_inj (hc3.symm.trans hc) (by omega) (by omega)
      have hs : duT g n3 d (p + 1) = duT g n3 d p + duS g n3 p (rwL g (some p)) d (rwL g (some p)).length := rfl
      rw [← row_uniq (show sRw g (some p) l from ⟨y5, fun r hr => (y6 r hr).symm⟩) (rwL_s g (some p))] at hs
      obtain ⟨h2', f1, f2⟩ := ih (p + 1) h1' R1 N hn (by omega) (by omega)
      refine ⟨h2', ?_, f2⟩
      rw [kif_f (by rw [ka_le (by omega) (by omega)]; exact hi), gN_k S.d0 S.r0_4, gAN_k S.d26 (by rw [S.n26]; omega) (by omega) (R.pl hp).2.1.1, kV_k S.d0, y1, kb_ret, kV_k R1.1.1.d0, x9_dueFor R1 N hp y3 y4 y5 y7 (fun m hm => hd3 p hp m hm hj), kb_ret, ka_add, nI_1, ← hs]
      exact f1
theorem o_dueAnew : OPR (fun a b c h => f_X9_dueAnew 0 a h) (fun a b c h => f_X10_dueAnew 0 a h) (mp1 3) := by
  intro j hx hm a b c hj R
  have S := R.1.1.X 0
  have T := R.1.2
  have RT := (R.X 0).thr 0
  have N := RT.NX hj
  have hP := R.P
  obtain ⟨n, hn, hc, hh, hd⟩ := RT.holdN
  rcases ka_rng a 0 5 0 5 rfl rfl (by decide) (by decide) with ⟨d, d1, d2, rfl, q1, q2⟩ | hq
  · obtain ⟨h', e1, e2, e3⟩ := N.dueFrom (d := nI d) hc (by omega) hh ((kAg.rf (sI hm 0 35 0)).sub (fun _ _ z => z.elim))
    obtain ⟨hx1, f1, f2⟩ := x9_anewL (d := nI d) hj kF 0 (sX hx 0) RT N ⟨n, hn, hc, rfl⟩ (by omega) (by have := RT.P; unfold kF; omega)
    refine op_ok (hx1 := hx1) (hm1 := h') 0 (nI (duT (sI hm 0 35 0) n (nI d) (mn hm 0 8))) ?_ ?_ (by rw [(e3.1 0 35 (by omega)).1, kI_sI, if_pos ⟨rfl, rfl⟩]) (f2.fr (kAg.rf _) e3 (fun _ h => h) (fun a k h => h.elim) (fun a k h => by omega))
    · show f_X9_dueAnew 0 (nI d) (sX hx 0) = _
      unfold f_X9_dueAnew
      rw [rdr_t q1 q2, kb_ret]
      exact f1
    · show f_X10_dueAnew 0 (nI d) hm = _
      unfold f_X10_dueAnew
      rw [mdr_t q1 q2, kb_ret, kif_f (by decide)]
      unfold X10_dueAnew_b13
      rw [kV_k T.d0, can_0 T, kb_ret, kif_f (by decide), kV_k (T.thr 0).d0, e1, kb_ret]
      rfl
  · refine op_noR R 3 1 0 rfl (by decide) ?_ ?_
    · show f_X9_dueAnew 0 a (sX hx 0) = _
      unfold f_X9_dueAnew
      rw [rdr_f hq]
      rfl
    · show f_X10_dueAnew 0 a hm = _
      unfold f_X10_dueAnew
      rw [mdr_f hq, kb_ret, kif_t rfl]
      unfold X10_dueAnew_b13
      rw [kV_k T.d0, can_n T (show (1 : Int32) ≠ 0 by decide), kb_ret, kif_t rfl]
      rfl
/-! settle -/
theorem gAL_k {α : Type} {h : KH} {a c i : Nat} {f : Int64 → KO α} (h1 : kd h a = c) (h2 : i < kn h a) (h3 : i < 2147483648) : gAL h a c (nI i) f = f (kL h a i) := by
  unfold gAL
  rw [nI_clamp h3, if_pos ⟨h1, by rintro (q | q); exact nI_pos h3 q; omega⟩]
theorem pAL_k {α : Type} {h : KH} {a c i : Nat} {v : Int64} {f : KH → KO α} (h1 : kd h a = c) (h2 : i < kn h a) (h3 : i < 2147483648) : pAL h a c (nI i) v f = f (sL h a i v) := by
  unfold pAL
  rw [nI_clamp h3, if_pos ⟨h1, by rintro (q | q); exact nI_pos h3 q; omega⟩]
theorem RR.frB {D E : Nat → Nat → Prop} {j : Nat} {hx hm hx' hm' : KH} (R : RR j hx hm) (ag : kAg D hx hx') (am : kAg E hm hm') (hd : ∀ a, kd hx a = 0 → kd hx' a = 0) (c13 : cBil hx' hm')
    (hD : ∀ a k, D a k → a = 31 ∨ a = 32) (hE : ∀ a k, E a k → a = 18 ∨ a = 19 ∨ a = 20 ∨ a = 21 ∨ a = 0 ∧ k = 35) : RR j hx' hm' := by
  have hP := R.P
  obtain ⟨⟨sx, sm⟩, c1, c2, c3, c4, c5, c6, c7, c8, c9, c10, c11, c12, -, c14, c15, c16⟩ := R
  refine ⟨⟨sx.fr ag ?_, sm.fr am ?_⟩, c1.fr ag am ?_ ?_, c2.fr ag am ?_ ?_, c3.fr ag am ?_ ?_, c4.fr ag am ?_ ?_, c5.fr ag am ?_ ?_, c6.fr ag am ?_ ?_, c7.fr ag am ?_ ?_, c8.fr ag am ?_ ?_, c9.fr ag am ?_ ?_, c10.fr hP ag am ?_ ?_, c11.fr ag am ?_ ?_, c12.fr hP ag am ?_ ?_, c13, c14.fr ag am ?_ ?_, c15.fr ag am ?_ ?_, c16.fr hd am ?_ (Nat.le_refl _)⟩
  all_goals first
    | (intro a k h1 h2; have := hD a k h2; omega)
    | (intro a k h1 h2; have := hE a k h2; omega)
theorem kLcmp (m : Int64) : (lg_cmp m 0 < 0) ∨ (¬ lg_cmp m 0 < 0 ∧ 0 ≤ lg_cmp m 0 ∧ (lg_cmp m 0 ≤ 0 → m = 0)) := by
  unfold lg_cmp
  split
  · exact Or.inr ⟨by decide, by decide, fun z => absurd z (by decide)⟩
  · split
    · rename_i h
      exact Or.inr ⟨by decide, by decide, fun _ => h⟩
    · exact Or.inl (by decide)
theorem kL_alg (a b c : Int64) : a - (b - c) = a - b + c := by
  rw [Int64.sub_eq_add_neg, Int64.neg_sub, Int64.sub_eq_add_neg a b, Int64.sub_eq_add_neg c b, Int64.add_assoc, Int64.add_comm c]
theorem setL {j : Nat} (hj : j < 512) : ∀ (f k : Nat) (hx hm : KH) (v : Int64), RR j hx hm → kI hm 0 35 = 0 → k ≤ 6 → 6 < k + f → ∃ hx' hm' w, X9_settle_L4 f 0 v (nI k) hx = kret w hx' ∧ X10_settle_L9 f 0 v.toInt32 (nI k) hm = kret w hm' ∧ RR j hx' hm' ∧ kI hm' 0 35 = 0 := by
  intro f
  induction f with
  | zero => intro k hx hm v _ _ h1 h2; omega
  | succ f ih =>
    intro k hx hm v R e35 h1 h2
    have S := R.1.1
    have T := R.1.2
    have N := R.NX hj
    obtain ⟨n, hn, hc, hh, hd⟩ := R.holdN
    unfold X9_settle_L4 X9_settle_b4 X10_settle_L9 X10_settle_b9
    by_cases hk : 6 ≤ k
    · have hk6 : (6 : Int32) ≤ nI k := by rw [show (6 : Int32) = nI 6 from rfl, ka_le (by omega) (by omega)]; exact hk
      exact ⟨hx, hm, v.toInt32, by rw [kif_t hk6], by rw [kif_t hk6], R, e35⟩
    · have hk6 : ¬ (6 : Int32) ≤ nI k := by rw [show (6 : Int32) = nI 6 from rfl, ka_le (by omega) (by omega)]; exact hk
      obtain ⟨h', e1, e2, e3⟩ := N.dueFrom (d := nI k) hc (by omega) hh ((kAg.rf hm).sub (fun _ _ z => z.elim))
      have T' := (N.mx e2).1
      obtain ⟨b1, b2⟩ := R.2.2.2.2.2.2.2.2.2.2.2.2.2.1.1 k (by omega)
      have hz := R.z35
      have eL20 : ∀ i, kL h' 20 i = kL hm 20 i := fun i => (e3.1 20 i (by omega)).2.1
      have eL21 : ∀ i, kL h' 21 i = kL hm 21 i := fun i => (e3.1 21 i (by omega)).2.1
      have e35' : kI h' 0 35 = 0 := by rw [(e3.1 0 35 (by omega)).1]; exact e35
      -- what both sides reckon with
      obtain ⟨m, em⟩ : ∃ m : Int64, m = (nI (duT hm n (nI k) (mn hm 0 8))).toInt64 - kL hm 20 k + kL hm 21 k := ⟨_, rfl⟩
      have em' : (nI (duT hm n (nI k) (mn hm 0 8))).toInt64 - (kL hm 20 k - kL hm 21 k) = m := by rw [kL_alg, em]
      rw [kif_f hk6, kif_f hk6, kV_k S.d0, x9_kept R N (fun p hp m hm => hd p hp m hm hj), kb_ret, gN_k S.d0 S.r0_9, gAL_k S.d31 (by rw [S.n31]; omega) (by omega), gN_k S.d0 S.r0_10, gAL_k S.d32 (by rw [S.n32]; omega) (by omega), b1, b2, em']
      rw [kV_k T.d0, e1, kb_ret, gN_k T'.d0 T'.r25, gAL_k T'.d20 (by rw [T'.n20]; omega) (by omega), gN_k T'.d0 T'.r26, gAL_k T'.d21 (by rw [T'.n21]; omega) (by omega), gN_k T'.d0 T'.r25, gAL_k T'.d20 (by rw [T'.n20]; omega) (by omega), eL20, eL21, ← em]
      have T1 : ∀ x : Int64, kSm (sL h' 20 k x) := fun x => T'.fr (kAg.L h' 20 k x) (fun a k q z => by omega)
      have mid : ∀ (x y : Int64) (hx' : KH) (D : Nat → Nat → Prop), kAg D hx hx' → (∀ a k, D a k → a = 31 ∨ a = 32) → (∀ i, i < 6 → kL hx' 31 i = if i = k then x else kL hx 31 i) → (∀ i, i < 6 → kL hx' 32 i = if i = k then y else kL hx 32 i) → RR j hx' (sL (sL h' 20 k x) 21 k y) ∧ kI (sL (sL h' 20 k x) 21 k y) 0 35 = 0 := by
        intro x y hx' D ag hD q1 q2
        have am : kAg (fun a _ => (a = 18 ∨ a = 19) ∨ a = 20 ∨ a = 21) hm (sL (sL h' 20 k x) 21 k y) := (e3.trans (F := fun a _ => (a = 18 ∨ a = 19) ∨ a = 20 ∨ a = 21) (kAg.L h' 20 k x) (fun a k q z => q (Or.inl z)) (fun a k q z => q (Or.inr (Or.inl z.1)))).trans (kAg.L _ 21 k y) (fun a k q => q) (fun a k q z => q (Or.inr (Or.inr z.1)))
        refine ⟨R.frB ag am (ag.nf (fun a z => by have := hD _ _ z; omega)) ⟨fun i hi => ⟨?_, ?_⟩, fun i hi => ?_⟩ hD (fun a k z => by omega), e35'⟩
        · have r20 : kL (sL (sL h' 20 k x) 21 k y) 20 i = if i = k then x else kL h' 20 i := by
            rw [kL_sL, if_neg (by omega), kL_sL]
            by_cases hik : i = k
            · rw [if_pos hik, if_pos ⟨rfl, hik⟩]
            · rw [if_neg hik, if_neg (fun z => hik z.2)]
          rw [q1 i hi, r20, eL20]
          by_cases hik : i = k
          · rw [if_pos hik, if_pos hik]
          · rw [if_neg hik, if_neg hik]
            exact (R.2.2.2.2.2.2.2.2.2.2.2.2.2.1.1 i hi).1
        · have r21 : kL (sL (sL h' 20 k x) 21 k y) 21 i = if i = k then y else kL h' 21 i := by
            rw [kL_sL]
            by_cases hik : i = k
            · rw [if_pos hik, if_pos ⟨rfl, hik⟩]
            · rw [if_neg hik, if_neg (fun z => hik z.2), kL_sL, if_neg (by omega)]
          rw [q2 i hi, r21, eL21]
          by_cases hik : i = k
          · rw [if_pos hik, if_pos hik]
          · rw [if_neg hik, if_neg hik]
            exact (R.2.2.2.2.2.2.2.2.2.2.2.2.2.1.1 i hi).2
        · rw [(ag.1 35 i (fun z => by have := hD _ _ z; omega)).1]
          exact hz i hi
      rcases kLcmp m with hneg | ⟨hnn, hge, hz0⟩
      · have hle : lg_cmp m 0 ≤ 0 := by
          rw [Int32.le_iff_toInt_le]
          rw [Int32.lt_iff_toInt_lt] at hneg
          omega
        have hnge : ¬ 0 ≤ lg_cmp m 0 := by
          rw [Int32.le_iff_toInt_le]
          rw [Int32.lt_iff_toInt_lt] at hneg
          omega
        obtain ⟨R', e'⟩ := mid (kL hm 20 k + 0) (kL hm 21 k + -m) (sL hx 32 k (kL hm 21 k - m)) _ (kAg.L hx 32 k _) (fun a k z => Or.inr z.1) (fun i hi => by
          rw [kL_sL, if_neg (by omega)]
          by_cases hik : i = k
          · rw [if_pos hik, hik, b1, Int64.add_zero]
          · rw [if_neg hik]) (fun i hi => by
          rw [kL_sL]
          by_cases hik : i = k
          · rw [if_pos hik, if_pos ⟨rfl, hik⟩, Int64.sub_eq_add_neg]
          · rw [if_neg hik, if_neg (fun z => hik z.2)])
        obtain ⟨hx2, hm2, w, f1, f2, f3⟩ := ih (k + 1) _ _ (v - m) R' e' (by omega) (by omega)
        refine ⟨hx2, hm2, w, ?_, ?_, f3⟩
        · rw [kif_t hneg, gN_k S.d0 S.r0_10, gAL_k S.d32 (by rw [S.n32]; omega) (by omega), pAL_k S.d32 (by rw [S.n32]; omega) (by omega), b2]
          unfold X9_settle_b69
          rw [nI_1]
          exact f1
        · rw [kif_t hle]
          unfold X10_settle_b54
          rw [pAL_k T'.d20 (by rw [T'.n20]; omega) (by omega), gN_k (T1 _).d0 (T1 _).r26, gAL_k (T1 _).d21 (by rw [(T1 _).n21]; omega) (by omega), kif_f hnge]
          unfold X10_settle_b75
          rw [kL_sL, if_neg (by omega), eL21, pAL_k (T1 _).d21 (by rw [(T1 _).n21]; omega) (by omega), kif_f hnge]
          unfold X10_settle_b91
          rw [nI_1, ← Int64.toInt32_add, ← Int64.sub_eq_add_neg v m]
          exact f2
      · obtain ⟨R', e'⟩ := mid (kL hm 20 k + m) (kL hm 21 k + 0) (sL hx 31 k (kL hm 20 k + m)) _ (kAg.L hx 31 k _) (fun a k z => Or.inl z.1) (fun i hi => by
          rw [kL_sL]
          by_cases hik : i = k
          · rw [if_pos hik, if_pos ⟨rfl, hik⟩]
          · rw [if_neg hik, if_neg (fun z => hik z.2)]) (fun i hi => by
          rw [kL_sL, if_neg (by omega)]
          by_cases hik : i = k
          · rw [if_pos hik, hik, b2, Int64.add_zero]
          · rw [if_neg hik])
        obtain ⟨hx2, hm2, w, f1, f2, f3⟩ := ih (k + 1) _ _ v R' e' (by omega) (by omega)
        refine ⟨hx2, hm2, w, ?_, ?_, f3⟩
        · rw [kif_f hnn, gN_k S.d0 S.r0_9, gAL_k S.d31 (by rw [S.n31]; omega) (by omega), pAL_k S.d31 (by rw [S.n31]; omega) (by omega), b1]
          unfold X9_settle_b69
          rw [nI_1]
          exact f1
        · have hb54 : X10_settle_b54 (X10_settle_L9 f) 0 v.toInt32 (nI k) m m (kL hm 20 k) (nI k) 20 h' = kret w hm2 := by
            unfold X10_settle_b54
            rw [pAL_k T'.d20 (by rw [T'.n20]; omega) (by omega), gN_k (T1 _).d0 (T1 _).r26, gAL_k (T1 _).d21 (by rw [(T1 _).n21]; omega) (by omega), kif_t hge]
            unfold X10_settle_b75
            rw [kL_sL, if_neg (by omega), eL21, pAL_k (T1 _).d21 (by rw [(T1 _).n21]; omega) (by omega), kif_t hge]
            unfold X10_settle_b91
            rw [nI_1, Int32.add_zero]
            exact f2
          by_cases hle : lg_cmp m 0 ≤ 0
          · rw [kif_t hle]
            have hm0 := hz0 hle
            rw [hm0] at hb54 ⊢
            exact hb54
          · rw [kif_f hle]
            exact hb54
theorem pn_settle : PN RR (f_X9_settle 0) (f_X10_settle 0) := by
  intro j hx hm hj R
  have T := R.1.2
  obtain ⟨hx', hm', w, e1, e2, e3, e4⟩ := setL hj kF 0 (sX hx 0) (sI hm 0 35 0) 0 ((R.X 0).thr 0) (by rw [kI_sI, if_pos ⟨rfl, rfl⟩]) (by omega) (by unfold kF; omega)
  refine ⟨w, hx', hm', e1, ?_, e3.up⟩
  show f_X10_settle 0 hm = kret w hm'
  unfold f_X10_settle
  rw [pI_k T.d0]
  exact e2
