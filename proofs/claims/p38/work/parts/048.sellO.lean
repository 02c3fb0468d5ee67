theorem sHold_cgb {h h' : KH} {p m : Nat} : ∀ (n : Nat), (∀ k, k < n → kI h' 9 k = kI h 9 k ∧ kI h' 10 k = kI h 10 k ∧ kI h' 11 k = kI h 11 k) → sHold h' p m n = sHold h p m n := by
  intro n
  induction n with
  | zero => intro _; rfl
  | succ n ih =>
    intro e
    obtain ⟨e1, e2, e3⟩ := e n (by omega)
    unfold sHold
    rw [ih (fun k hk => e k (by omega)), mn_cg1 e1, mn_cg1 e3, e2]
theorem cHol.sell {j n p M d a s : Nat} {hx hm hx' hm' : KH} (c : cHol j hx hm) (hn : kI hm 0 12 = nI n) (hnb : n < 2147483648) (hp : p < mn hm 0 8) (hP : mn hm 0 8 ≤ 10) (hM : mn hm 0 0 = M) (hM2 : M ≤ 50000) (hd : d < 6) (hj : j < 512)
    (ha : kR hx (100 + 8 * p) 4 = some a) (hs : kI hx a 1 = nI s) (hs2 : s ≤ 50000) (hf : kd hx (1000 + j) = 0)
    (ag : kAg (fun i k => (i = 1000 + j ∨ i = 1000 + j + 1000000) ∨ i = 100 + 8 * p ∧ k = 4) hx hx') (n0 : kR hx' (100 + 8 * p) 4 = some (1000 + j)) (n1 : kd hx' (1000 + j) = 2) (n2 : kI hx' (1000 + j) 0 = nI d) (n3 : kI hx' (1000 + j) 1 = nI M) (n4 : kR hx' (1000 + j) 2 = if s = M then kR hx a 2 else some a)
    (m1 : kI hm' 0 12 = nI (n + 1)) (m2 : kI hm' 0 8 = kI hm 0 8) (m3 : kI hm' 0 0 = kI hm 0 0) (m4 : ∀ i k, (i = 9 ∨ i = 10 ∨ i = 11) → k ≠ n → kI hm' i k = kI hm i k) (m5 : kI hm' 9 n = nI p) (m6 : kI hm' 10 n = nI d) (m7 : kI hm' 11 n = nI M) : cHol (j + 1) hx' hm' := by
  obtain ⟨n', c1, c2, c3, c4⟩ := c
  have hnn : n' = n := by
    have h1 : nI n' = nI n := c2.symm.trans hn
    have h2 : n' < 2147483648 := by omega
    rw [ka_eq h2 hnb] at h1
    exact h1
  subst hnn
  have hch : ∀ (f : Nat) (o : Option Nat), xChn hx f o → xChn hx' f o ∧ ∀ m, xDrv hx' m f o = xDrv hx m f o := xDC_cg (fun b hb hd2 => by
    have hne : ¬ b = 1000 + j := fun e => by rw [e, hf] at hd2; cases hd2
    exact ⟨by rw [(ag.k b (by rw [hd2]; decide)).1]; exact hd2, fun k => (ag.1 b k (by omega)).1, fun k => (ag.1 b k (by omega)).2.2⟩)
  have hsh : ∀ q m, sHold hm' q m n' = sHold hm q m n' := fun q m => sHold_cgb n' (fun k hk => ⟨m4 9 k (by omega) (by omega), m4 10 k (by omega) (by omega), m4 11 k (by omega) (by omega)⟩)
  have hst : ∀ q m, sHold hm' q m (n' + 1) = if p = q ∧ M ≤ m then nI d else sHold hm q m n' := fun q m => by
    show (if _ then _ else _) = _
    rw [hsh, m6, show mn hm' 9 n' = p by unfold mn; rw [m5, nI_clamp (by omega)], show mn hm' 11 n' = M by unfold mn; rw [m7, nI_clamp (by omega)]]
  refine ⟨n' + 1, by omega, m1, fun k hk => ?_, fun q hq => ?_⟩
  · rw [mn_cg1 m2, mn_cg1 m3]
    by_cases hkn : k = n'
    · subst hkn
      exact ⟨⟨p, hp, m5⟩, ⟨d, hd, m6⟩, M, by omega, m7⟩
    · rw [m4 9 k (by omega) hkn, m4 10 k (by omega) hkn, m4 11 k (by omega) hkn]
      exact c3 k (by omega)
  · rw [mn_cg1 m2] at hq
    obtain ⟨c5, c6, c7⟩ := c4 q hq
    by_cases hqp : q = p
    · subst hqp
      rw [ha] at c6 c7
      have c6' := c6
      obtain ⟨d1, d2, -, d4, d5⟩ := c6'
      have hbef : xChn hx (j + 1) (if s = M then kR hx a 2 else some a) ∧ ∀ m, m < M → xDrv hx m (j + 1) (if s = M then kR hx a 2 else some a) = sHold hm q m n' := by
        by_cases hsM : s = M
        · rw [if_pos hsM]
          obtain ⟨i1, i2⟩ := xChn_mono _ _ d5
          refine ⟨i1, fun m hm1 => ?_⟩
          rw [i2, ← c7 m]
          show _ = (if _ then _ else _)
          rw [if_neg (by unfold mn; rw [hs, nI_clamp (by omega)]; omega)]
        · rw [if_neg hsM]
          exact ⟨c6, fun m _ => c7 m⟩
      obtain ⟨b1, b2⟩ := hbef
      obtain ⟨g1, g2⟩ := hch _ _ b1
      rw [n0]
      refine ⟨⟨_, rfl⟩, ⟨n1, by omega, ⟨M, hM2, n3⟩, ⟨d, hd, n2⟩, by rw [n4]; exact g1⟩, fun m => ?_⟩
      rw [hst]
      show (if _ then _ else _) = _
      rw [show mn hx' (1000 + j) 1 = M by unfold mn; rw [n3, nI_clamp (by omega)], n2, n4]
      by_cases hMm : M ≤ m
      · rw [if_pos hMm, if_pos ⟨rfl, hMm⟩]
      · rw [if_neg hMm, g2, b2 m (by omega), if_neg (fun z => hMm z.2)]
    · have eR : kR hx' (100 + 8 * q) 4 = kR hx (100 + 8 * q) 4 := (ag.1 (100 + 8 * q) 4 (by omega)).2.2
      obtain ⟨i1, i2⟩ := xChn_mono _ _ c6
      obtain ⟨g1, g2⟩ := hch _ _ i1
      rw [eR]
      refine ⟨c5, g1, fun m => ?_⟩
      rw [g2, i2, c7, hst, if_neg (fun z => hqp z.1.symm)]
