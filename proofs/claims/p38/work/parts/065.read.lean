/-! read -/
theorem sCst_cgr {m m' : Nat → Nat → Nat} {r : Nat} (h5 : m' 5 = m 5) (h7 : m' 7 = m 7) (h15 : ∀ k, k < 6 → m' 15 (6 * r + k) = m 15 (6 * r + k)) (p : Nat) : ∀ k, k ≤ 6 → sCst m' r p k = sCst m r p k := by
  intro k
  induction k with
  | zero => intro _; rfl
  | succ k ih =>
    intro hk
    unfold sCst
    rw [ih (by omega), sPart_cg h5, h7, h15 k (by omega)]
theorem sCost_cgr {m m' : Nat → Nat → Nat} {r : Nat} (h5 : m' 5 = m 5) (h6 : m' 6 = m 6) (h7 : m' 7 = m 7) (h14 : m' 14 r = m 14 r) (h14' : m 14 r ≤ 6) (h15 : ∀ k, k < 6 → m' 15 (6 * r + k) = m 15 (6 * r + k)) (p : Nat) : sCost m' r p = sCost m r p := by
  unfold sCost
  rw [h14, h6, sCst_cgr h5 h7 h15 p _ h14']
theorem sBest_cgr {m m' : Nat → Nat → Nat} {r : Nat} (h5 : m' 5 = m 5) (h6 : m' 6 = m 6) (h7 : m' 7 = m 7) (h14 : m' 14 r = m 14 r) (h14' : m 14 r ≤ 6) (h15 : ∀ k, k < 6 → m' 15 (6 * r + k) = m 15 (6 * r + k)) (k : Nat) : sBest m' r k = sBest m r k := by
  induction k with
  | zero => rfl
  | succ k ih =>
    unfold sBest
    simp only [ih, sCost_cgr h5 h6 h7 h14 h14' h15, sTl_cg h6 h7]
theorem sPF_cgw {h h' : KH} {r : Nat} (e8 : kI h' 0 8 = kI h 0 8) (e : ∀ a, a = 5 ∨ a = 6 ∨ a = 7 → ∀ k, kI h' a k = kI h a k) (e14 : kI h' 14 r = kI h 14 r) (h14' : mn h 14 r ≤ 6) (e15 : ∀ k, k < 6 → kI h' 15 (6 * r + k) = kI h 15 (6 * r + k)) (e16 : kI h' 16 r = kI h 16 r) (e17 : kI h' 17 r = kI h 17 r) : sPF h' r = sPF h r := by
  unfold sPF
  rw [mn_cg1 e16, mn_cg1 e17, e17, mn_cg1 e8, sBest_cgr (mn_cg (e 5 (by omega))) (mn_cg (e 6 (by omega))) (mn_cg (e 7 (by omega))) (mn_cg1 e14) h14' (fun k hk => mn_cg1 (e15 k hk))]
theorem cRt1.fr {hx hm hx' hm' : KH} {r : Nat} {D E : Nat → Nat → Prop} (c : cRt1 hx hm r) (ag : kAg D hx hx') (am : kAg E hm hm') (hD : ∀ a k, a = 200 + 4 * r ∧ k < 4 ∨ a = 201 + 4 * r ∨ a = 202 + 4 * r ∨ a = 28 ∧ k = r → ¬ D a k) (hE : ∀ a k, (a = 12 ∨ a = 13 ∨ a = 14) ∧ k = r ∨ a = 15 ∧ 6 * r ≤ k ∧ k < 6 * r + 6 → ¬ E a k) : cRt1 hx' hm' r := by
  obtain ⟨⟨d1, d2, d3, d4⟩, ⟨e1, e2, e3⟩, f1, f2, f3, f4⟩ := c
  have k1 := ag.k (200 + 4 * r) (by rw [d1]; decide)
  have k2 := ag.k (201 + 4 * r) (by rw [d2]; decide)
  have k3 := ag.k (202 + 4 * r) (by rw [d3]; decide)
  refine ⟨⟨by rw [k1.1, d1], by rw [k2.1, d2], by rw [k3.1, d3], by rw [k3.2, d4]⟩, ⟨by rw [(ag.1 28 r (hD 28 r (by omega))).2.2, e1], by rw [(ag.1 (200 + 4 * r) 3 (hD _ _ (by omega))).2.2, e2], by rw [(ag.1 (201 + 4 * r) 0 (hD _ _ (by omega))).2.2, e3]⟩, by rw [(ag.1 (200 + 4 * r) 0 (hD _ _ (by omega))).1, f1], by rw [(ag.1 (200 + 4 * r) 1 (hD _ _ (by omega))).1, (am.1 12 r (hE _ _ (by omega))).1]; exact f2, by rw [(ag.1 (200 + 4 * r) 2 (hD _ _ (by omega))).1, (am.1 13 r (hE _ _ (by omega))).1]; exact f3, ?_⟩
  rw [(ag.1 (201 + 4 * r) 1 (hD _ _ (by omega))).1, (am.1 14 r (hE _ _ (by omega))).1]
  obtain ⟨n, g1, g2, g3, g4, g5⟩ := f4
  exact ⟨n, g1, g2, g3, g4, fun k hk => by rw [(ag.1 (202 + 4 * r) k (hD _ _ (by omega))).1, (am.1 15 _ (hE _ _ (by omega))).1]; exact g5 k hk⟩
/-- rows under more readings: what they hold stays -/
theorem AS.grow {hx hm hx' hm' : KH} {A : Nat → Option Nat} {D E : Nat → Nat → Prop} {R : Nat} (As : AS hx hm A) (hR : mn hm 0 16 = R) (hR60 : R < 60) (hP : mn hm 0 8 ≤ 10) (e16 : mn hm' 0 16 = R + 1) (ag : kAg D hx hx') (am : kAg E hm hm') (hD : ∀ i k, (100 ≤ i ∧ i < 180 ∧ (i % 8 = 0 ∧ k = 2 ∨ i % 8 = 1 ∨ i % 8 = 2)) ∨ (200 ≤ i ∧ i < 200 + 4 * R ∧ i % 4 = 0 ∧ k = 5) → ¬ D i k) (hE : ∀ i k, i = 0 ∧ (k = 8 ∨ k = 1) ∨ (i = 13 ∨ i = 12) ∧ k ≠ R ∨ i = 2 → ¬ E i k) (hnone : kR hx' (200 + 4 * R) 5 = none) : AS hx' hm' (fun r => if r = R then none else A r) := by
  subst hR
  have e8 := (am.1 0 8 (hE 0 8 (by omega))).1
  have e13 : ∀ k, k ≠ mn hm 0 16 → mn hm' 13 k = mn hm 13 k := fun k hk => mn_cg1 (am.1 13 k (hE 13 k (by omega))).1
  have e12 : ∀ k, k ≠ mn hm 0 16 → mn hm' 12 k = mn hm 12 k := fun k hk => mn_cg1 (am.1 12 k (hE 12 k (by omega))).1
  refine ⟨fun r hr => ?_, fun p hp => ?_⟩
  · rw [e16] at hr
    by_cases hrR : r = mn hm 0 16
    · subst hrR
      show kR hx' (200 + 4 * mn hm 0 16) 5 = pAd (if mn hm 0 16 = mn hm 0 16 then none else _) ∧ _
      rw [if_pos rfl]
      exact ⟨hnone, fun p e => by
        have e' : (if mn hm 0 16 = mn hm 0 16 then none else A (mn hm 0 16)) = some p := e
        rw [if_pos rfl] at e'
        cases e'⟩
    · show kR hx' (200 + 4 * r) 5 = pAd (if r = mn hm 0 16 then none else A r) ∧ ∀ p, (if r = mn hm 0 16 then none else A r) = some p → _
      rw [if_neg hrR, mn_cg1 e8, (ag.1 _ _ (hD (200 + 4 * r) 5 (by omega))).2.2]
      exact As.1 r (by omega)
  · rw [mn_cg1 e8] at hp
    obtain ⟨l, l1, l2, l3, l4⟩ := As.2 p hp
    have hne : ∀ k, k < l.length → l.getD k 0 ≠ mn hm 0 16 := fun k hk => by have := l1.1 k hk; omega
    refine ⟨l, ⟨fun k hk => by have := l1.1 k hk; omega, fun i k q1 q2 => ?_⟩, fun r hr => ?_, l3.fr ag (hD _ _ (by omega)) (fun k => hD _ _ (by omega)), fun k hk => ?_⟩
    · have := l1.2 i k q1 q2
      unfold sBef at this ⊢
      rw [e13 _ (hne i (by omega)), e13 _ (hne k q2)]
      exact this
    · rw [e16] at hr
      show (if r = mn hm 0 16 then none else A r) = some p ↔ _
      by_cases hrR : r = mn hm 0 16
      · rw [if_pos hrR]
        exact ⟨fun z => (by cases z), fun ⟨k, hk, z⟩ => absurd (z.trans hrR) (hne k hk)⟩
      · rw [if_neg hrR]
        exact l2 r (by omega)
    · rw [(ag.1 _ _ (hD (104 + 8 * p + 2) k (by omega))).1, l4 k hk]
      have e : sBegAt hm' l k = sBegAt hm l k := by
        cases k with
        | zero => rfl
        | succ k =>
          show sBeg hm' _ _ = sBeg hm _ _
          unfold sBeg
          rw [e13 _ (hne k (by omega)), e13 _ (hne (k + 1) hk), e12 _ (hne k (by omega)), e12 _ (hne (k + 1) hk), (am.1 2 _ (hE 2 _ (by omega))).1, mn_cg1 (am.1 2 _ (hE 2 _ (by omega))).1, mn_cg1 (am.1 0 1 (hE 0 1 (by omega))).1]
      rw [e]
theorem tm_readL {n R : Nat} (hn : n ≤ 6) (hR : R < 60) : ∀ (f i : Nat) (h : KH), kSm h → kI h 0 5 = nI n → kI h 0 16 = nI R → i ≤ n → n < i + f → ∃ h', X10_read_L95 f 0 (nI i) h = kret (nI R) h' ∧ kAg (fun a k => a = 15 ∧ 6 * R + i ≤ k ∧ k < 6 * R + n ∨ a = 0 ∧ k = 16) h h' ∧ kI h' 0 16 = nI (R + 1) ∧ ∀ k, i ≤ k → k < n → kI h' 15 (6 * R + k) = kI h 4 k := by
  intro f
  induction f with
  | zero => intro i h _ _ _ h1 h2; omega
  | succ f ih =>
    intro i h T e5 e16 h1 h2
    unfold X10_read_L95 X10_read_b95
    rw [gI_k T.d0, e5]
    by_cases hi : n ≤ i
    · rw [kif_t (by rw [ka_le (by omega) (by omega)]; exact hi), gI_k T.d0, e16, pI_k T.d0, gI_k (show kd (sI h 0 16 (nI R + 1)) 0 = 11 from T.d0), kI_sI, if_pos ⟨rfl, rfl⟩, nI_1, ka_pred (by omega)]
      exact ⟨_, rfl, (kAg.I h 0 16 _).sub (fun a k z => Or.inr z), by rw [kI_sI, if_pos ⟨rfl, rfl⟩], fun k q1 q2 => by omega⟩
    · have ag1 := kAg.I h 15 (6 * R + i) (kI h 4 i)
      rw [kif_f (by rw [ka_le (by omega) (by omega)]; exact hi), gN_k T.d0 T.r20, gI_k T.d0, e16, gN_k T.d0 T.r6, gAI_k T.d4 (by rw [T.n4]; omega) (by omega), mc_idx6, pAI_k T.d15 (by rw [T.n15]; omega) (by omega), nI_1]
      obtain ⟨h', f1, f2, f3, f4⟩ := ih (i + 1) (sI h 15 (6 * R + i) (kI h 4 i)) (T.fr ag1 (fun a k q z => by omega)) e5 e16 (by omega) (by omega)
      refine ⟨h', f1, ag1.trans f2 (fun a k q z => q (by omega)) (fun a k q z => q (by omega)), f3, fun k q1 q2 => ?_⟩
      by_cases hki : k = i
      · rw [hki, (f2.1 15 (6 * R + i) (by omega)).1, kI_sI, if_pos ⟨rfl, rfl⟩]
      · rw [f4 k (by omega) q2, kI_sI, if_neg (by omega)]
theorem tm_read {h : KH} {n R : Nat} {g m : Int32} (T : kSm h) (hn : n ≤ 6) (hR : R < 60) (e5 : kI h 0 5 = nI n) (e16 : kI h 0 16 = nI R) : ∃ h', X10_read_b51 0 g m 0 0 h = kret (nI R) h' ∧ kAg (fun a k => (a = 12 ∨ a = 13 ∨ a = 14) ∧ k = R ∨ a = 15 ∧ 6 * R ≤ k ∧ k < 6 * R + 6 ∨ a = 0 ∧ k = 16) (sI h 0 35 0) h' ∧ kI h' 0 16 = nI (R + 1) ∧ kI h' 12 R = g ∧ kI h' 13 R = m ∧ kI h' 14 R = nI n ∧ ∀ k, k < n → kI h' 15 (6 * R + k) = kI h 4 k := by
  have T1 := T.thr 0
  have T2 : kSm (sI (sI h 0 35 0) 12 R g) := T1.fr (kAg.I _ 12 R g) (fun a k q z => by omega)
  have T3 : kSm (sI (sI (sI h 0 35 0) 12 R g) 13 R m) := T2.fr (kAg.I _ 13 R m) (fun a k q z => by omega)
  have T4 : kSm (sI (sI (sI (sI h 0 35 0) 12 R g) 13 R m) 14 R (nI n)) := T3.fr (kAg.I _ 14 R (nI n)) (fun a k q z => by omega)
  obtain ⟨h', f1, f2, f3, f4⟩ := tm_readL hn hR kF 0 _ T4 e5 e16 (by omega) (by unfold kF; omega)
  have agA : kAg (fun a k => (a = 12 ∨ a = 13 ∨ a = 14) ∧ k = R ∨ a = 15 ∧ 6 * R ≤ k ∧ k < 6 * R + 6 ∨ a = 0 ∧ k = 16) (sI h 0 35 0) (sI (sI (sI (sI h 0 35 0) 12 R g) 13 R m) 14 R (nI n)) := ((kAg.I (sI h 0 35 0) 12 R g).trans (F := fun a k => (a = 12 ∨ a = 13 ∨ a = 14) ∧ k = R ∨ a = 15 ∧ 6 * R ≤ k ∧ k < 6 * R + 6 ∨ a = 0 ∧ k = 16) (kAg.I _ 13 R m) (fun a k q z => q (by omega)) (fun a k q z => q (by omega))).trans (kAg.I _ 14 R (nI n)) (fun a k q => q) (fun a k q z => q (by omega))
  refine ⟨h', ?_, agA.trans f2 (fun a k q => q) (fun a k q z => q (by omega)), f3, ?_, ?_, ?_, fun k hk => ?_⟩
  · unfold X10_read_b51
    rw [kV_k T.d0, can_0 T, kb_ret, kif_f (by decide), gN_k T1.d0 T1.r17, gI_k T1.d0, show kI (sI h 0 35 0) 0 16 = nI R from e16, pAI_k T1.d12 (by rw [T1.n12]; omega) (by omega)]
    rw [gN_k T2.d0 T2.r18, gI_k T2.d0, show kI (sI (sI h 0 35 0) 12 R g) 0 16 = nI R from e16, pAI_k T2.d13 (by rw [T2.n13]; omega) (by omega)]
    rw [gN_k T3.d0 T3.r19, gI_k T3.d0, show kI (sI (sI (sI h 0 35 0) 12 R g) 13 R m) 0 16 = nI R from e16, gI_k T3.d0, show kI (sI (sI (sI h 0 35 0) 12 R g) 13 R m) 0 5 = nI n from e5, pAI_k T3.d14 (by rw [T3.n14]; omega) (by omega)]
    exact f1
  · rw [(f2.1 12 R (by omega)).1, kI_sI, if_neg (by omega), kI_sI, if_neg (by omega), kI_sI, if_pos ⟨rfl, rfl⟩]
  · rw [(f2.1 13 R (by omega)).1, kI_sI, if_neg (by omega), kI_sI, if_pos ⟨rfl, rfl⟩]
  · rw [(f2.1 14 R (by omega)).1, kI_sI, if_pos ⟨rfl, rfl⟩]
  · rw [f4 k (by omega) hk, kI_sI, if_neg (by omega), kI_sI, if_neg (by omega), kI_sI, if_neg (by omega), kI_sI, if_neg (by omega)]
