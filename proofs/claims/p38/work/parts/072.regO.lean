theorem cPl1.fr {hx hm hx' hm' : KH} {p : Nat} {D E : Nat → Nat → Prop} (c : cPl1 hx hm p) (ag : kAg D hx hx') (am : kAg E hm hm') (hD : ∀ a k, a = 100 + 8 * p ∧ k ≠ 4 ∨ a = 101 + 8 * p ∨ a = 102 + 8 * p ∨ a = 104 + 8 * p ∧ k < 2 ∨ a = 26 ∧ k = p → ¬ D a k) (hE : ∀ a k, (a = 6 ∨ a = 8) ∧ k = p ∨ a = 7 ∧ 6 * p ≤ k ∧ k < 6 * p + 6 → ¬ E a k) : cPl1 hx' hm' p := by
  obtain ⟨⟨d1, d2, d3, d4, d5, d6, d7, d8, d9⟩, ⟨e1, e2, e3, e4, e5, e6⟩, f1, ⟨n, g1, g2, g3, g4, g5⟩, c, i1, i2, i3⟩ := c
  have k1 := ag.k (100 + 8 * p) (by rw [d1]; decide)
  have k2 := ag.k (101 + 8 * p) (by rw [d2]; decide)
  have k3 := ag.k (102 + 8 * p) (by rw [d3]; decide)
  have k4 := ag.k (104 + 8 * p) (by rw [d5]; decide)
  have k5 := ag.k (105 + 8 * p) (by rw [d6]; decide)
  have k6 := ag.k (106 + 8 * p) (by rw [d8]; decide)
  refine ⟨⟨by rw [k1.1, d1], by rw [k2.1, d2], by rw [k3.1, d3], by rw [k3.2, d4], by rw [k4.1, d5], by rw [k5.1, d6], by rw [k5.2, d7], by rw [k6.1, d8], by rw [k6.2, d9]⟩, ⟨by rw [(ag.1 _ _ (hD 26 p (by omega))).2.2, e1], by rw [(ag.1 _ _ (hD (100 + 8 * p) 1 (by omega))).2.2, e2], by rw [(ag.1 _ _ (hD (101 + 8 * p) 0 (by omega))).2.2, e3], by rw [(ag.1 _ _ (hD (100 + 8 * p) 3 (by omega))).2.2, e4], by rw [(ag.1 _ _ (hD (104 + 8 * p) 0 (by omega))).2.2, e5], by rw [(ag.1 _ _ (hD (104 + 8 * p) 1 (by omega))).2.2, e6]⟩, by rw [(ag.1 _ _ (hD (100 + 8 * p) 0 (by omega))).1, f1], ⟨n, g1, g2, by rw [(ag.1 _ _ (hD (101 + 8 * p) 1 (by omega))).1, g3], by rw [(am.1 _ _ (hE 6 p (by omega))).1, g4], fun k hk => by rw [(ag.1 _ _ (hD (102 + 8 * p) k (by omega))).1, (am.1 _ _ (hE 7 (6 * p + k) (by omega))).1]; exact g5 k hk⟩, c, i1, by rw [(ag.1 _ _ (hD (100 + 8 * p) 2 (by omega))).1, i2], by rw [(am.1 _ _ (hE 8 p (by omega))).1, i3]⟩
theorem sTl_cgr {m m' : Nat → Nat → Nat} {p : Nat} (h6 : m' 6 p = m 6 p) (h7 : ∀ k, k < m 6 p → m' 7 (6 * p + k) = m 7 (6 * p + k)) : sTl m' p = sTl m p := by
  apply List.ext_getElem
  · rw [sTl_len, sTl_len, h6]
  · intro k h1 h2
    rw [← gD_get h1, ← gD_get h2]
    rw [sTl_len] at h1 h2
    rw [sTl_at _ _ _ h1, sTl_at _ _ _ h2, h6, h7 _ (by omega)]
theorem sTl_inj {m : Nat → Nat → Nat} {p q : Nat} (e : sTl m p = sTl m q) : m 6 p = m 6 q ∧ ∀ k, k < m 6 p → m 7 (6 * p + k) = m 7 (6 * q + k) := by
  have hl : m 6 p = m 6 q := by rw [← sTl_len m p, ← sTl_len m q, e]
  refine ⟨hl, fun k hk => ?_⟩
  have h1 := sTl_at m p (m 6 p - 1 - k) (by omega)
  have h2 := sTl_at m q (m 6 p - 1 - k) (by omega)
  rw [e] at h1
  rw [show m 6 p - 1 - (m 6 p - 1 - k) = k by omega] at h1
  rw [show m 6 q - 1 - (m 6 p - 1 - k) = k by omega] at h2
  exact h1.symm.trans h2
theorem cHol.reg {j n d M : Nat} {hx hm hx' hm' : KH} {D : Nat → Nat → Prop} (c : cHol j hx hm) (hn : kI hm 0 12 = nI n) (hnb : n < 2147483648) (hP : mn hm 0 8 < 10) (hM : mn hm 0 0 = M) (hM2 : M ≤ 50000) (hd : d < 6) (hj : j < 512)
    (ag : kAg D hx hx') (hD : ∀ a k, a % 8 = 7 ∧ 100 ≤ a ∧ a < 180 ∧ a ≠ 103 + 8 * mn hm 0 8 ∨ 1000 ≤ a ∧ a < 2000 ∨ a % 8 = 4 ∧ 100 ≤ a ∧ a < 100 + 8 * mn hm 0 8 ∧ k = 4 → ¬ D a k) (hfr : kd hx (103 + 8 * mn hm 0 8) = 0)
    (n0 : kR hx' (100 + 8 * mn hm 0 8) 4 = some (103 + 8 * mn hm 0 8)) (n1 : kd hx' (103 + 8 * mn hm 0 8) = 2) (n2 : kI hx' (103 + 8 * mn hm 0 8) 0 = nI d) (n3 : kI hx' (103 + 8 * mn hm 0 8) 1 = nI M) (n4 : kR hx' (103 + 8 * mn hm 0 8) 2 = none)
    (m1 : kI hm' 0 12 = nI (n + 1)) (m2 : mn hm' 0 8 = mn hm 0 8 + 1) (m3 : kI hm' 0 0 = kI hm 0 0) (m4 : ∀ i k, (i = 9 ∨ i = 10 ∨ i = 11) → k ≠ n → kI hm' i k = kI hm i k) (m5 : kI hm' 9 n = nI (mn hm 0 8)) (m6 : kI hm' 10 n = nI d) (m7 : kI hm' 11 n = nI M) : cHol (j + 1) hx' hm' := by
  obtain ⟨n', c1, c2, c3, c4⟩ := c
  obtain rfl : n' = n := nI_inj (c2.symm.trans hn) (by omega) hnb
  have hch : ∀ (f : Nat) (o : Option Nat), xChn hx f o → xChn hx' f o ∧ ∀ m, xDrv hx' m f o = xDrv hx m f o := xDC_cg (fun b hb hd2 => by
    have hne : ¬ b = 103 + 8 * mn hm 0 8 := fun e => by rw [e, hfr] at hd2; cases hd2
    exact ⟨by rw [(ag.k b (by rw [hd2]; decide)).1]; exact hd2, fun k => (ag.1 b k (hD b k (by omega))).1, fun k => (ag.1 b k (hD b k (by omega))).2.2⟩)
  have hsh : ∀ q m, sHold hm' q m n' = sHold hm q m n' := fun q m => sHold_cgb n' (fun k hk => ⟨m4 9 k (by omega) (by omega), m4 10 k (by omega) (by omega), m4 11 k (by omega) (by omega)⟩)
  have hst : ∀ q m, sHold hm' q m (n' + 1) = if mn hm 0 8 = q ∧ M ≤ m then nI d else sHold hm q m n' := fun q m => by
    show (if _ then _ else _) = _
    rw [hsh, m6, show mn hm' 9 n' = mn hm 0 8 from mn_of m5 (by omega), show mn hm' 11 n' = M from mn_of m7 (by omega)]
  have hno : ∀ m, ∀ k, k ≤ n' → sHold hm (mn hm 0 8) m k = -1 := by
    intro m k
    induction k with
    | zero => intro _; rfl
    | succ k ih =>
      intro hk
      obtain ⟨⟨q, hq, eq⟩, -, -⟩ := c3 k (by omega)
      show (if _ then _ else _) = _
      rw [if_neg (by rw [mn_of eq (by omega)]; omega)]
      exact ih (by omega)
  refine ⟨n' + 1, by omega, m1, fun k hk => ?_, fun q hq => ?_⟩
  · rw [m2, mn_cg1 m3]
    by_cases hkn : k = n'
    · subst hkn
      exact ⟨⟨mn hm 0 8, by omega, m5⟩, ⟨d, hd, m6⟩, M, by omega, m7⟩
    · rw [m4 9 k (by omega) hkn, m4 10 k (by omega) hkn, m4 11 k (by omega) hkn]
      obtain ⟨⟨q, w1, w2⟩, w3, w4⟩ := c3 k (by omega)
      exact ⟨⟨q, by omega, w2⟩, w3, w4⟩
  · rw [m2] at hq
    by_cases hqp : q = mn hm 0 8
    · rw [hqp, n0]
      refine ⟨⟨_, rfl⟩, ⟨n1, by omega, ⟨M, hM2, n3⟩, ⟨d, hd, n2⟩, by rw [n4]; trivial⟩, fun m => ?_⟩
      rw [hst]
      show (if _ then _ else _) = _
      rw [show mn hx' (103 + 8 * mn hm 0 8) 1 = M from mn_of n3 (by omega), n2, n4]
      by_cases hMm : M ≤ m
      · rw [if_pos hMm, if_pos ⟨rfl, hMm⟩]
      · rw [if_neg hMm, if_neg (fun z => hMm z.2), hno m n' (Nat.le_refl _)]
        rfl
    · obtain ⟨c5, c6, c7⟩ := c4 q (by omega)
      have eR : kR hx' (100 + 8 * q) 4 = kR hx (100 + 8 * q) 4 := (ag.1 (100 + 8 * q) 4 (hD _ _ (by omega))).2.2
      obtain ⟨i1, i2⟩ := xChn_mono _ _ c6
      obtain ⟨g1, g2⟩ := hch _ _ i1
      rw [eR]
      refine ⟨c5, g1, fun m => ?_⟩
      rw [g2, i2, c7, hst, if_neg (fun z => hqp z.1.symm)]
theorem cWar.more {hx hm hx' hm' : KH} {D E : Nat → Nat → Prop} (c : cWar hx hm) (hP : mn hm 0 8 ≤ mn hm' 0 8) (ag : kAg D hx hx') (am : kAg E hm hm') (hD : ∀ a k, 500 ≤ a ∧ a < 508 ∨ a = 29 ∨ a = 0 ∧ k = 15 → ¬ D a k) (hE : ∀ a k, a = 22 ∨ a = 23 ∨ a = 24 ∨ a = 0 ∧ k = 27 → ¬ E a k) : cWar hx' hm' := by
  obtain ⟨⟨W, hW, c1, c2⟩, c3⟩ := c
  have hWm : mn hm 0 27 = W := mn_of c2 (by omega)
  have e27 := (am.1 0 27 (hE 0 27 (by omega))).1
  refine ⟨⟨W, hW, by rw [(ag.1 0 15 (hD 0 15 (by omega))).1]; exact c1, by rw [e27]; exact c2⟩, fun w hw => ?_⟩
  rw [mn_cg1 e27] at hw
  obtain ⟨d1, d2, d3, ⟨p, p1, p2, p3⟩, d4⟩ := c3 w hw
  refine ⟨by rw [(ag.k (500 + w) (by rw [d1]; decide)).1]; exact d1, by rw [(ag.1 29 w (hD _ _ (by omega))).2.2]; exact d2, by rw [(ag.1 (500 + w) 0 (hD _ _ (by omega))).1]; exact d3, ⟨p, by omega, by rw [(am.1 22 w (hE _ _ (by omega))).1]; exact p2, by rw [(ag.1 (500 + w) 1 (hD _ _ (by omega))).2.2]; exact p3⟩, ?_⟩
  rw [(ag.1 (500 + w) 2 (hD _ _ (by omega))).1, (ag.1 (500 + w) 3 (hD _ _ (by omega))).1, (am.1 23 w (hE _ _ (by omega))).1, (am.1 24 w (hE _ _ (by omega))).1]
  exact d4
