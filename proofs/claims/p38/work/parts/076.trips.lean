/-! trips: the class's -/
theorem op_q {τ : Type} {fX fM : Int32 → Int32 → Int32 → KH → KO τ} {mp : Nat → Option Int32} {j : Nat} {hx hm h' : KH} {a b c : Int32} (R : RR j hx hm) (v : τ) (h1 : fX a b c (sX hx 0) = kret v (sX hx 0)) (h4 : fM a b c hm = kret v h') (am : kAg (fun a _ => a = 18 ∨ a = 19) (sI hm 0 35 0) h') : OP1 fX fM mp j hx hm a b c :=
  op_ok 0 v h1 h4 (by rw [(am.1 0 35 (by omega)).1, kI_sI, if_pos ⟨rfl, rfl⟩]) (((R.X 0).thr 0).up.fr (kAg.rf _) am (fun _ h => h) (fun a k h => h.elim) (fun a k h => by omega))
theorem RR.fr35 {D E : Nat → Nat → Prop} {j : Nat} {hx hm hx' hm' : KH} (R : RR j hx hm) (ag : kAg D hx hx') (am : kAg E hm hm') (hd : ∀ a, kd hx a = 0 → kd hx' a = 0) (z : ∀ k, k < 60 → kI hx' 35 k = 0 ∨ kI hx' 35 k = 1)
    (hD : ∀ a k, D a k → a = 36 ∨ a = 20 ∨ a = 34 ∨ a = 35 ∨ a = 33 ∧ k = 2) (hE : ∀ a k, E a k → a = 18 ∨ a = 19 ∨ a = 0 ∧ k = 35) : RR j hx' hm' := by
  have hP := R.P
  obtain ⟨⟨sx, sm⟩, c1, c2, c3, c4, c5, c6, c7, c8, c9, c10, c11, c12, c13, c14, c15, c16⟩ := R
  refine ⟨⟨sx.fr ag ?_, sm.fr am ?_⟩, c1.fr ag am ?_ ?_, c2.fr ag am ?_ ?_, c3.fr ag am ?_ ?_, c4.fr ag am ?_ ?_, c5.fr ag am ?_ ?_, c6.fr ag am ?_ ?_, c7.fr ag am ?_ ?_, c8.fr ag am ?_ ?_, c9.fr ag am ?_ ?_, c10.fr hP ag am ?_ ?_, c11.fr ag am ?_ ?_, c12.fr hP ag am ?_ ?_, ⟨fun d hd => ?_, z⟩, c14.fr ag am ?_ ?_, c15.fr ag am ?_ ?_, c16.fr hd am ?_ (Nat.le_refl _)⟩
  all_goals first
    | (intro a k h1 h2; have := hD a k h2; omega)
    | (intro a k h1 h2; have := hE a k h2; omega)
    | skip
  obtain ⟨q1, q2⟩ := c13.1 d hd
  rw [(ag.1 31 d (fun w => by have := hD 31 d w; omega)).2.1, (ag.1 32 d (fun w => by have := hD 32 d w; omega)).2.1, (am.1 20 d (fun w => by have := hE 20 d w; omega)).2.1, (am.1 21 d (fun w => by have := hE 21 d w; omega)).2.1]
  exact ⟨q1, q2⟩
section KTRIPS
variable {hx hm : KH} {a : Nat} {l : List Nat}
theorem x3_baL (P : PSt hx a) (B : PBe hx hm a l) (hl : l.length ≤ 60) {e : Nat} (he : e ≤ l.length) : ∀ (f k : Nat), k ≤ e → e < k + f → X3_beginningsAhead_L4 f a (nI e) (nI (cB hm l k)) (nI k) hx = kret (nI (cB hm l e)) hx := by
  obtain ⟨p1, p2, p3, p4, p5, p6, p7⟩ := P
  intro f
  induction f with
  | zero => intro k h1 h2; omega
  | succ f ih =>
    intro k h1 h2
    unfold X3_beginningsAhead_L4 X3_beginningsAhead_b4
    by_cases hk : e ≤ k
    · rw [kif_t (by rw [ka_le (by omega) (by omega)]; exact hk), show k = e by omega]
    · have e2 := ih (k + 1) (by omega) (by omega)
      have hs : cB hm l (k + 1) = cB hm l k + if sBegAt hm l k = true then 1 else 0 := rfl
      rw [kif_f (by rw [ka_le (by omega) (by omega)]; exact hk), gN_k p1 p7, gAI_k p4 (by omega) (by omega), B k (by omega)]
      unfold X3_beginningsAhead_b21
      by_cases g : sBegAt hm l k = true
      · rw [if_pos g] at hs
        rw [if_pos g, kif_f (by decide), nI_1, nI_1, ← hs]
        exact e2
      · rw [if_neg g] at hs
        rw [if_neg g, kif_t rfl, nI_1, show cB hm l k = cB hm l (k + 1) from hs.symm]
        exact e2
theorem x3_count (P : PSt hx a) (W : PRw hx a l) (B : PBe hx hm a l) : f_X3_tripCount a hx = kret (nI (cB hm l l.length)) hx := by
  have h1 := x3_baL (hm := hm) P B W.1 (Nat.le_refl _) kF 0 (by omega) (by have := W.1; unfold kF; omega)
  unfold f_X3_tripCount
  rw [gI_k P.1, W.2.1, kV_k P.1]
  rw [show f_X3_beginningsAhead a (nI l.length) hx = kret (nI (cB hm l l.length)) hx from h1, kb_ret]
theorem kCx.tripWith {r i : Nat} (K : kCx hx hm) (P : PSt hx a) (W : PRw hx a l) (L : LOK hm l) (B : PBe hx hm a l) (hi : i < l.length) (hr : r < mn hm 0 16) (e : l.getD i 0 = r) : f_X3_tripWith a (200 + 4 * r) hx = kret (nI (cB hm l (i + 1) - 1)) hx := by
  have h1 := x3_baL (hm := hm) P B W.1 (show i + 1 ≤ l.length by omega) kF 0 (by omega) (by have := W.1; unfold kF; omega)
  unfold f_X3_tripWith
  rw [kV_k P.1, K.placeOf P W L hi hr e, kb_ret, kV_k P.1, nI_1]
  rw [show f_X3_beginningsAhead a (nI (i + 1)) hx = kret (nI (cB hm l (i + 1))) hx from h1, kb_ret, ka_pred (cB_pos hm l i)]
/-- the spare row joined anew -/
theorem kCx.jnL {A : Nat → Option Nat} {p : Nat} : ∀ (f i : Nat) (h : KH) (l : List Nat), kCx h hm → p < mn hm 0 8 → (∀ r, r < mn hm 0 16 → kR h (200 + 4 * r) 5 = pAd (A r) ∧ ∀ q, A r = some q → q < mn hm 0 8) → PSt h 33 → PRw h 33 l → LOK hm l → (∀ r, r < mn hm 0 16 → ((∃ k, k < l.length ∧ l.getD k 0 = r) ↔ r < i ∧ A r = some p)) → (∀ k, k < 60 → kI h 35 k = 0 ∨ kI h 35 k = 1) → i ≤ mn hm 0 16 → mn hm 0 16 < i + f → ∃ h' l', X9_joinAnew_L10 f 0 (100 + 8 * p) (nI i) h = kret 33 h' ∧ kAg (fun a k => a = 33 ∧ k = 2 ∨ a = 34 ∨ a = 35) h h' ∧ PSt h' 33 ∧ PRw h' 33 l' ∧ LOK hm l' ∧ (∀ r, r < mn hm 0 16 → ((∃ k, k < l'.length ∧ l'.getD k 0 = r) ↔ A r = some p)) ∧ PBe h' hm 33 l' ∧ (∀ k, k < 60 → kI h' 35 k = 0 ∨ kI h' 35 k = 1) := by
  intro f
  induction f with
  | zero => intro i h l _ _ _ _ _ _ _ _ h1 h2; omega
  | succ f ih =>
    intro i h l K hp hA P W L hm1 z h1 h2
    have S := K.1.1
    have hR := K.R
    have hP := K.P
    unfold X9_joinAnew_L10 X9_joinAnew_b10
    rw [gI_k S.d0, hR.1]
    by_cases hi : mn hm 0 16 ≤ i
    · obtain ⟨h', e1, e2, e3⟩ := K.joinAll (Or.inl rfl) P W L
      have agD : kAg (fun a k => a = 33 ∧ k = 2 ∨ a = 34 ∨ a = 35) h h' := e2.sub (fun a k w => by omega)
      have S' : kSx h' := S.fr agD (fun a k q w => by omega)
      refine ⟨h', l, ?_, agD, P.fr agD (fun k hk w => by omega), W.fr e2 (by omega) (fun k => by omega), L, fun r hr => ?_, e3, fun k hk => ?_⟩
      · rw [kif_t (by rw [ka_le (by omega) (by omega)]; exact hi), gN_k S.d0 S.r0_11, gN_k S.d0 S.r0_0, kV_k S.d33, e1, kb_ret, gN_k S'.d0 S'.r0_11]
      · rw [hm1 r hr]
        exact ⟨fun w => w.2, fun w => ⟨by omega, w⟩⟩
      · by_cases hkl : k < l.length
        · have := e3 k hkl
          rw [show (33 : Nat) + 2 = 35 from rfl] at this
          rw [this]
          split
          · exact Or.inr rfl
          · exact Or.inl rfl
        · rw [(e2.1 35 k (by omega)).1]
          exact z k hk
    · have hir : i < mn hm 0 16 := by omega
      obtain ⟨eA, hAi⟩ := hA i hir
      rw [kif_f (by rw [ka_le (by omega) (by omega)]; exact hi), gN_k S.d0 S.r0_6, gAN_k S.d28 (by rw [S.n28]; omega) (by omega) (K.rd hir).2.1.1, gR_k (K.rd hir).1.1, eA, K.numberOf hAi, kb_ret, gI_k (K.2.2.2.2.1.2.1 p hp).1.1, (K.2.2.2.2.1.2.1 p hp).2.2.1]
      by_cases g : A i = some p
      · have hnr : ∀ k, k < l.length → l.getD k 0 ≠ i := fun k hk w => by
          have := ((hm1 i hir).1 ⟨k, hk, w⟩).1
          omega
        obtain ⟨h', k0, e1, e2, e3, e4, e5, e6, e7⟩ := K.ins (Or.inl rfl) P W L hir hnr (by have := L.len hir hnr; omega) W.1 (N := 60) z
        have agD : kAg (fun a k => a = 33 ∧ k = 2 ∨ a = 34 ∨ a = 35) h h' := e3.sub (fun a k w => by unfold DA at w; omega)
        obtain ⟨h'', l', f1, f2, f3⟩ := ih (i + 1) h' (l.insertIdx k0 i) (K.fr agD (fun a k w => by unfold DK; omega)) hp (fun r hr => by rw [(agD.1 (200 + 4 * r) 5 (by omega)).2.2]; exact hA r hr) (P.fr agD (fun k hk w => by omega)) e6 e7 (fun r hr => by
          constructor
          · rintro ⟨k, hk, rfl⟩
            rw [ins_len e2] at hk
            rw [ins_at e2] at hr ⊢
            by_cases w1 : k < k0
            · rw [if_pos w1] at hr ⊢
              have := (hm1 _ hr).1 ⟨k, by omega, rfl⟩
              exact ⟨by omega, this.2⟩
            · rw [if_neg w1] at hr ⊢
              by_cases w2 : k = k0
              · rw [if_pos w2]
                exact ⟨by omega, g⟩
              · rw [if_neg w2] at hr ⊢
                have := (hm1 _ hr).1 ⟨k - 1, by omega, rfl⟩
                exact ⟨by omega, this.2⟩
          · rintro ⟨w1, w2⟩
            by_cases hri : r = i
            · exact ⟨k0, by rw [ins_len e2]; omega, by rw [ins_at e2, if_neg (by omega), if_pos rfl, hri]⟩
            · obtain ⟨k, hk, ek⟩ := (hm1 r hr).2 ⟨by omega, w2⟩
              by_cases hki : k < k0
              · exact ⟨k, by rw [ins_len e2]; omega, by rw [ins_at e2, if_pos hki, ek]⟩
              · exact ⟨k + 1, by rw [ins_len e2]; omega, by rw [ins_at e2, if_neg (by omega), if_neg (by omega)]; exact ek⟩) e5 (by omega) (by omega)
        refine ⟨h'', l', ?_, agD.trans f2 (fun a k q => q) (fun a k q => q), f3⟩
        rw [kif_t (by rw [g]; rfl), gN_k S.d0 S.r0_11, kV_k S.d33, e1, kb_ret]
        unfold X9_joinAnew_b48
        rw [nI_1]
        exact f1
      · obtain ⟨h'', l', f1, f2⟩ := ih (i + 1) h l K hp hA P W L (fun r hr => by
          rw [hm1 r hr]
          constructor
          · rintro ⟨w1, w2⟩
            exact ⟨by omega, w2⟩
          · rintro ⟨w1, w2⟩
            refine ⟨?_, w2⟩
            by_cases hri : r = i
            · rw [hri] at w2
              exact absurd w2 g
            · omega) z (by omega) (by omega)
        refine ⟨h'', l', ?_, f2⟩
        rw [kif_f (by
          rw [show nI p = cOf (some p) from rfl, cOf_inj (fun q e => by have := hAi q e; omega) (fun q e => by cases e; omega)]
          exact g)]
        unfold X9_joinAnew_b48
        rw [nI_1]
        exact f1
theorem kCx.pst33 (K : kCx hx hm) : PSt hx 33 := ⟨K.1.1.d33, K.1.1.d34, K.1.1.n34, K.1.1.d35, K.1.1.n35, K.1.1.2.2.2.2.2.2.2 0 (by decide), K.1.1.2.2.2.2.2.2.2 1 (by decide)⟩
theorem kCx.joinAnew {A : Nat → Option Nat} {p : Nat} (K : kCx hx hm) (hp : p < mn hm 0 8) (hA : ∀ r, r < mn hm 0 16 → kR hx (200 + 4 * r) 5 = pAd (A r) ∧ ∀ q, A r = some q → q < mn hm 0 8) (z : ∀ k, k < 60 → kI hx 35 k = 0 ∨ kI hx 35 k = 1) : ∃ h' l', f_X9_joinAnew 0 (100 + 8 * p) hx = kret 33 h' ∧ kAg (fun a k => a = 33 ∧ k = 2 ∨ a = 34 ∨ a = 35) hx h' ∧ PSt h' 33 ∧ PRw h' 33 l' ∧ LOK hm l' ∧ (∀ r, r < mn hm 0 16 → ((∃ k, k < l'.length ∧ l'.getD k 0 = r) ↔ A r = some p)) ∧ PBe h' hm 33 l' ∧ (∀ k, k < 60 → kI h' 35 k = 0 ∨ kI h' 35 k = 1) := by
  have ag0 : kAg (fun a k => a = 33 ∧ k = 2 ∨ a = 34 ∨ a = 35) hx (sI hx 33 2 0) := (kAg.I hx 33 2 0).sub (fun a k w => Or.inl w)
  obtain ⟨h', l', e1, e2, e3⟩ := kCx.jnL (A := A) (p := p) kF 0 (sI hx 33 2 0) [] (K.fr ag0 (fun a k w => by unfold DK; omega)) hp (fun r hr => by rw [(ag0.1 (200 + 4 * r) 5 (by omega)).2.2]; exact hA r hr) (K.pst33.fr ag0 (fun k hk w => by omega)) ⟨by decide, by rw [kI_sI, if_pos ⟨rfl, rfl⟩]; rfl, fun k hk => absurd hk (Nat.not_lt_zero _)⟩ ⟨fun k hk => absurd hk (Nat.not_lt_zero _), fun i k _ hk => absurd hk (Nat.not_lt_zero _)⟩ (fun r hr => ⟨fun ⟨k, hk, _⟩ => absurd hk (Nat.not_lt_zero _), fun w => absurd w.1 (Nat.not_lt_zero _)⟩) (fun k hk => by rw [kI_sI, if_neg (by omega)]; exact z k hk) (by omega) (by have := K.R.2.2; unfold kF; omega)
  refine ⟨h', l', ?_, ag0.trans e2 (fun a k q => q) (fun a k q => q), e3⟩
  unfold f_X9_joinAnew
  rw [gN_k K.1.1.d0 K.1.1.r0_11, pI_k K.1.1.d33]
  exact e1
end KTRIPS
theorem RR.z35 {j : Nat} {hx hm : KH} (R : RR j hx hm) : ∀ k, k < 60 → kI hx 35 k = 0 ∨ kI hx 35 k = 1 := R.2.2.2.2.2.2.2.2.2.2.2.2.2.1.2
theorem o_trips : OPI (fun a b c h => f_X9_trips 0 a h) (fun a b c h => f_X10_trips 0 a h) (mp1 3) := by
  intro j hx hm a b c hj R
  have S := R.1.1.X 0
  have T := R.1.2
  have RX := R.X 0
  have RT := RX.thr 0
  have K := RT.kCx
  have N := RT.NX hj
  have hP := R.P
  rcases ka_below a (mn hm 0 8) (by omega) with ⟨p, hp, rfl, q1, q2⟩ | hq
  · obtain ⟨l, l1, l2, l3, l4⟩ := RT.AS.2 p hp
    obtain ⟨P, hA, kp, kq⟩ := K.pst (p := p) hp
    obtain ⟨h', e1, e2, e3, e4, e5⟩ := N.joins (o := some p) (l := l) ⟨l1, l2⟩ (fun q e => by cases e; omega) ((kAg.rf (sI hm 0 35 0)).sub (fun _ _ z => z.elim))
    refine op_q R (nI (cB (sI hm 0 35 0) l l.length)) ?_ ?_ e5
    · show f_X9_trips 0 (nI p) (sX hx 0) = _
      unfold f_X9_trips
      rw [kV_k S.d0, RX.plate hp q1 q2, kb_ret, gN_k kp kq, kV_k P.1, x3_count P l3 l4, kb_ret]
    · show f_X10_trips 0 (nI p) hm = _
      unfold f_X10_trips
      rw [kV_k T.d0, R.isPlate q1 q2, kb_ret, kif_f (by decide)]
      unfold X10_trips_b14
      rw [kV_k T.d0, can_0 T, kb_ret, kif_f (by decide), kV_k (T.thr 0).d0]
      rw [show f_X10_joins 0 (nI p) (sI hm 0 35 0) = _ from e1, kb_ret]
      rfl
  · refine op_no R 3 1 0 rfl (by decide) ?_ ?_
    · show f_X9_trips 0 a (sX hx 0) = _
      unfold f_X9_trips
      rw [kV_k S.d0, RX.plateNo hq]
      rfl
    · show f_X10_trips 0 a hm = _
      unfold f_X10_trips
      rw [kV_k T.d0, R.isPlateNo hq, kb_ret, kif_t rfl]
      unfold X10_trips_b14
      rw [kV_k T.d0, can_n T (show (1 : Int32) ≠ 0 by decide), kb_ret, kif_t rfl]
      rfl
theorem o_tripsAnew : OPR (fun a b c h => f_X9_tripsAnew 0 a h) (fun a b c h => f_X10_tripsAnew 0 a h) (mp1 3) := by
  intro j hx hm a b c hj R
  have S := R.1.1.X 0
  have T := R.1.2
  have RX := R.X 0
  have RT := RX.thr 0
  have K := RT.kCx
  have N := RT.NX hj
  have hP := R.P
  rcases ka_below a (mn hm 0 8) (by omega) with ⟨p, hp, rfl, q1, q2⟩ | hq
  · obtain ⟨hx1, l, y1, y2, y3, y4, y5, y6, y7, y8⟩ := K.joinAnew (p := p) hp RT.AS.1 RT.z35
    obtain ⟨h', e1, e2, e3, e4, e5⟩ := N.joins (o := some p) (l := l) ⟨y5, fun r hr => (y6 r hr).symm⟩ (fun q e => by cases e; omega) ((kAg.rf (sI hm 0 35 0)).sub (fun _ _ z => z.elim))
    refine op_ok (hx1 := hx1) (hm1 := h') 0 (nI (cB (sI hm 0 35 0) l l.length)) ?_ ?_ (by rw [(e5.1 0 35 (by omega)).1, kI_sI, if_pos ⟨rfl, rfl⟩]) ?_
    · show f_X9_tripsAnew 0 (nI p) (sX hx 0) = _
      unfold f_X9_tripsAnew
      rw [kV_k S.d0, RX.plate hp q1 q2, kb_ret, kV_k S.d0, y1, kb_ret, kV_k y3.1, x3_count y3 y4 y7, kb_ret]
    · show f_X10_tripsAnew 0 (nI p) hm = _
      unfold f_X10_tripsAnew
      rw [kV_k T.d0, R.isPlate q1 q2, kb_ret, kif_f (by decide)]
      unfold X10_tripsAnew_b14
      rw [kV_k T.d0, can_0 T, kb_ret, kif_f (by decide), kV_k (T.thr 0).d0]
      rw [show f_X10_joins 0 (nI p) (sI hm 0 35 0) = _ from e1, kb_ret]
      rfl
    · exact RT.fr35 y2 e5 (y2.nf (fun a z => by omega)) y8 (fun a k z => by omega) (fun a k z => by omega)
  · refine op_noR R 3 1 0 rfl (by decide) ?_ ?_
    · show f_X9_tripsAnew 0 a (sX hx 0) = _
      unfold f_X9_tripsAnew
      rw [kV_k S.d0, RX.plateNo hq]
      rfl
    · show f_X10_tripsAnew 0 a hm = _
      unfold f_X10_tripsAnew
      rw [kV_k T.d0, R.isPlateNo hq, kb_ret, kif_t rfl]
      unfold X10_tripsAnew_b14
      rw [kV_k T.d0, can_n T (show (1 : Int32) ≠ 0 by decide), kb_ret, kif_t rfl]
      rfl
theorem o_tripOf : OPI (fun a b c h => f_X9_tripOf 0 a h) (fun a b c h => f_X10_tripOf 0 a h) (mp1 3) := by
  intro j hx hm a b c hj R
  have S := R.1.1.X 0
  have T := R.1.2
  have RX := R.X 0
  have RT := RX.thr 0
  have K := RT.kCx
  have K0 := RX.kCx
  have N := RT.NX hj
  have M := R.MX
  have M1 := RT.MX
  have hP := R.P
  have hR := M.2.2.1.1
  rcases ka_below a (mn hm 0 16) (by omega) with ⟨r, hr, rfl, q1, q2⟩ | hq
  · have eP := RT.plateR (r := r) hr
    cases epf : sPF (sI hm 0 35 0) r with
    | none =>
      rw [epf] at eP
      refine op_rd R (-1) ?_ ?_
      · show f_X9_tripOf 0 (nI r) (sX hx 0) = _
        unfold f_X9_tripOf
        rw [kV_k S.d0, K0.reading hr q1 q2, kb_ret, gR_k (K0.rd hr).1.1, eP]
        rfl
      · show f_X10_tripOf 0 (nI r) hm = _
        unfold f_X10_tripOf
        rw [kV_k T.d0, M.isReading q1 q2, kb_ret, kif_f (by decide)]
        unfold X10_tripOf_b14
        rw [kV_k T.d0, can_0 T, kb_ret, kif_f (by decide), kV_k (T.thr 0).d0, M1.plateFor (r := r) hr, kb_ret, epf, kif_t (show cOf none = -1 from rfl)]
    | some p =>
      have hp : p < mn hm 0 8 := M1.pf_lt (r := r) hr epf
      rw [epf] at eP
      obtain ⟨l, l1, l2, l3, l4⟩ := RT.AS.2 p hp
      obtain ⟨P, hA, kp, kq⟩ := K.pst (p := p) hp
      obtain ⟨i, hi, ei⟩ := (l2 r hr).1 epf
      obtain ⟨h', e1, e2, e3, e4, e5⟩ := N.joins (o := some p) (l := l) ⟨l1, l2⟩ (fun q e => by cases e; omega) ((kAg.rf (sI hm 0 35 0)).sub (fun _ _ z => z.elim))
      have T' := (N.mx e2).1
      refine op_q R (nI (cB (sI hm 0 35 0) l (i + 1) - 1)) ?_ ?_ e5
      · show f_X9_tripOf 0 (nI r) (sX hx 0) = _
        unfold f_X9_tripOf
        rw [kV_k S.d0, K0.reading hr q1 q2, kb_ret, gR_k (K0.rd hr).1.1, eP]
        show gR (sX hx 0) (200 + 4 * r) 6 5 (fun o2 => kmay o2 (fun a3 => gN (sX hx 0) a3 5 3 (fun a4 => kcallV 4 a4 (sX hx 0) (f_X3_tripWith a4 (200 + 4 * r) (sX hx 0)) (fun x1 h2 => X9_tripOf_b28 x1 h2)))) = _
        rw [gR_k (K0.rd hr).1.1, eP]
        show gN (sX hx 0) (100 + 8 * p) 5 3 (fun a4 => kcallV 4 a4 (sX hx 0) (f_X3_tripWith a4 (200 + 4 * r) (sX hx 0)) (fun x1 h2 => X9_tripOf_b28 x1 h2)) = _
        rw [gN_k kp kq, kV_k P.1, K.tripWith P l3 l1 l4 hi hr ei, kb_ret]
        rfl
      · show f_X10_tripOf 0 (nI r) hm = _
        have hne : ¬ cOf (some p) = -1 := by
          show ¬ nI p = -1
          rw [ka_n1 (by omega)]
          exact fun z => z
        have e4i := e4 i hi
        rw [ei] at e4i
        unfold f_X10_tripOf
        rw [kV_k T.d0, M.isReading q1 q2, kb_ret, kif_f (by decide)]
        unfold X10_tripOf_b14
        rw [kV_k T.d0, can_0 T, kb_ret, kif_f (by decide), kV_k (T.thr 0).d0, M1.plateFor (r := r) hr, kb_ret, epf, kif_f hne, kV_k (T.thr 0).d0, e1, kb_ret, gN_k T'.d0 T'.r24, gAI_k T'.d19 (by rw [T'.n19]; omega) (by omega), e4i]
  · refine op_no R 3 1 0 rfl (by decide) ?_ ?_
    · show f_X9_tripOf 0 a (sX hx 0) = _
      unfold f_X9_tripOf
      rw [kV_k S.d0, K0.readingNo hq]
      rfl
    · show f_X10_tripOf 0 a hm = _
      unfold f_X10_tripOf
      rw [kV_k T.d0, M.isReadingNo hq, kb_ret, kif_t rfl]
      unfold X10_tripOf_b14
      rw [kV_k T.d0, can_n T (show (1 : Int32) ≠ 0 by decide), kb_ret, kif_t rfl]
