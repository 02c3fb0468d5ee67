/-! the start, as the law makes it -/
theorem start_p : ∃ x0 m0, f_X9_init 0 (al kE 10 0) = some (.inr (), x0) ∧ f_X10_init 0 (al kE 11 0) = some (.inr (), m0) ∧ kx x0 = 36 ∧ (∀ a, 36 ≤ a → kd x0 a = 0) ∧ kd x0 0 = 10 ∧ kd m0 0 = 11 ∧ RR 0 x0 m0 ∧ (∀ a k, a ≠ 2 → a ≠ 3 → ¬ (a = 0 ∧ k = 1) → kI m0 a k = 0) ∧ kI m0 0 1 = 30 ∧ (∀ k, k < 4 → kI m0 3 k = nI (2 ^ k)) ∧ (∀ a k, a ≠ 2 → a ≠ 3 → kL m0 a k = 0) ∧ DI m0 := by
  -- the model up to its measures
  obtain ⟨hM, y1, M1, M2, M3, M4, M5, M6, M7, -⟩ := x10_start
  have TM : kSm hM := ⟨M2, fun k hk hn => by
    obtain ⟨t, t1, t2, t3⟩ := mRl_S k hk hn
    rw [t3, ← t2]
    exact M4 t t1⟩
  obtain ⟨hR, z1, z2, z3⟩ := tm_ratesL kF 0 hM TM (by omega) (by unfold kF; omega) (fun k hk => absurd hk (Nat.not_lt_zero _))
  have TR : kSm hR := TM.fr z2 (fun a k q z => by omega)
  have hRI : ∀ a k, a ≠ 3 → ¬ (a = 0 ∧ k = 1) → kI hR a k = 0 := fun a k h1 h2 => by
    rw [(z2.1 a k h1).1]
    exact M5 a k h2
  -- the distances of both
  have cL0 : cLen xh5 hR := fun i j hi hj => ⟨0, Nat.zero_le _, xh5_I (by omega), hRI _ _ (by omega) (by omega), hRI _ _ (by omega) (by omega), fun _ => rfl⟩
  obtain ⟨g, m0, e1, f1, ⟨ag, kxg⟩, am, cD⟩ := dis_all xh5_S TR cL0
  have T0 : kSm m0 := TR.fr am (fun a k q z => by omega)
  have m0I : ∀ a k, a ≠ 2 → a ≠ 3 → ¬ (a = 0 ∧ k = 1) → kI m0 a k = 0 := fun a k h1 h2 h3 => by
    rw [(am.1 a k h1).1]
    exact hRI a k h2 h3
  have m0L : ∀ a k, a ≠ 2 → a ≠ 3 → kL m0 a k = 0 := fun a k h1 h2 => by
    rw [(am.1 a k h1).2.1, (z2.1 a k h2).2.1]
    exact M6 a k
  have m01 : kI m0 0 1 = 30 := by
    rw [(am.1 0 1 (by omega)).1, (z2.1 0 1 (by omega)).1]
    exact M7
  have hmodel : f_X10_init 0 (al kE 11 0) = kret () m0 := by
    rw [y1, show (0 : Int32) = nI 0 from rfl, z1, kV_k TR.d0, f1, kb_ret]
  -- the class
  have kg : ∀ a, a < 21 → kd g a = xDl.getD a 0 ∧ kn g a = xNl.getD a 0 := fun a ha => by
    obtain ⟨d1, d2⟩ := xh5_d a ha
    have := ag.k a (by rw [d1]; exact xDl_pos a (by omega))
    exact ⟨this.1.trans d1, this.2.trans d2⟩
  have fg : ∀ a, 21 ≤ a → kd g a = 0 := fun a ha => ag.nf (fun a z => by omega) a (xh5_f a ha)
  have Ig : ∀ a k, a < 12 ∨ 20 < a → ¬ (a = 1 ∧ k = 3) → kI g a k = 0 := fun a k h1 h2 => by
    rw [(ag.1 a k (by omega)).1]
    exact xh5_I h2
  have kx21 : kx g = 21 := kxg.trans xh5_x
  obtain ⟨x0, c0, c1, c2, c3, c4, c5, c6, c7, -⟩ := x9_start kx21 kg fg (fun a k h => Ig a k (by omega) (by omega)) (fun a k h => by
    rw [(ag.1 a k (by omega)).2.1]
    exact xh5_L a k) (x6_start e1)
  -- what the chain leaves alone
  have eX : ∀ a k, a ≠ 0 → a < 22 → kI x0 a k = kI (xg g) a k ∧ kR x0 a k = kR (xg g) a k := fun a k h1 h2 => ⟨(c7.1 a k (by omega)).1, (c7.1 a k (by omega)).2.2⟩
  have rG : ∀ a k, a ≠ 0 → a ≠ 21 → kR (xg g) a k = kR g a k := fun a k h1 h2 => by
    show (if a = kx g then none else if a = 0 ∧ k = 0 then some 1 else kR g a k) = kR g a k
    rw [kx21, if_neg h2, if_neg (fun z => h1 z.1)]
  have rX : ∀ a k, a ≠ 0 → a < 12 → kR x0 a k = kR xh5 a k := fun a k h1 h2 => by
    rw [(eX a k h1 (by omega)).2, rG a k h1 (by omega), (ag.1 a k (by omega)).2.2]
  have iX : ∀ a k, a ≠ 0 → a < 21 → kI x0 a k = kI g a k := fun a k h1 h2 => by
    rw [(eX a k h1 (by omega)).1, xg_I kx21 (by omega)]
  have kI36 : ∀ a k, a ≠ 36 → kI x0 a k = kI x0 a k := fun a k h => rfl
  have kR36 : ∀ a k, a ≠ 36 → kR x0 a k = kR x0 a k := fun a k h => rfl
  have kL36 : ∀ a k, a ≠ 36 → kL x0 a k = kL x0 a k := fun a k h => rfl
  have hLR : ∀ i k, i < 8 → k < 8 → LL hR i k = 0 := fun i k hi hk => by
    rw [LL_at hi hk]
    unfold mn
    rw [hRI _ _ (by omega) (by omega)]
    rfl
  have hDI : DI m0 := by
    obtain ⟨m1, w1, w2, w3⟩ := tm_measures (L := LL hR) TR (fun i k hi hk => by rw [hLR i k hi hk]; omega) (fun i k hi hk => by rw [hLR i k hi hk]; exact hRI _ _ (by omega) (by omega))
    rw [f1] at w1
    cases w1
    have eL : LL m0 = LL hR := by
      funext i k
      unfold LL
      rw [mn_cg (fun k => (w2.1 1 k (by omega)).1)]
    intro i k hi hk
    rw [eL]
    exact w3 i k hi hk
  refine ⟨x0, m0, c0, hmodel, c1, c3, (c2 0 (by decide)).1, T0.d0, ?_, m0I, m01, fun k hk => by rw [(am.1 3 k (by omega)).1, z3 k hk], m0L, hDI⟩
  have hS : kSx x0 := by
    have hd : ∀ a, a < 36 → kd x0 a = xDl.getD a 0 ∧ kn x0 a = xNl.getD a 0 := fun a ha => by
      exact c2 a (by omega)
    have hr : ∀ a k v, (a, k, v) ∈ [(0, 11, 33), (33, 1, 35), (33, 0, 34), (0, 10, 32), (0, 9, 31), (0, 8, 30), (0, 7, 29), (0, 6, 28), (0, 5, 27), (0, 4, 26), (0, 3, 24), (24, 0, 25), (0, 2, 22), (22, 0, 23), (0, 1, 21), (0, 0, 1)] → kR x0 a k = some v := fun a k v h => by
      obtain ⟨t1, t2⟩ := c4 (a, k, v) h
      have t1' : a < 36 := t1
      rw [kR36 a k (by omega)]
      exact t2
    refine ⟨hd, fun k hk => ?_, fun k hk => ?_, fun k hk => ?_, fun k hk => ?_, fun k hk => ?_, fun k hk => ?_, fun k hk => ?_⟩
    · have : ∀ k, k < 12 → ∃ v, (0, k, v) ∈ [(0, 11, 33), (33, 1, 35), (33, 0, 34), (0, 10, 32), (0, 9, 31), (0, 8, 30), (0, 7, 29), (0, 6, 28), (0, 5, 27), (0, 4, 26), (0, 3, 24), (24, 0, 25), (0, 2, 22), (22, 0, 23), (0, 1, 21), (0, 0, 1)] ∧ xR0l.getD k none = some v := by
        intro k hk
        match k, hk with
        | 0, _ => exact ⟨1, by decide, rfl⟩
        | 1, _ => exact ⟨21, by decide, rfl⟩
        | 2, _ => exact ⟨22, by decide, rfl⟩
        | 3, _ => exact ⟨24, by decide, rfl⟩
        | 4, _ => exact ⟨26, by decide, rfl⟩
        | 5, _ => exact ⟨27, by decide, rfl⟩
        | 6, _ => exact ⟨28, by decide, rfl⟩
        | 7, _ => exact ⟨29, by decide, rfl⟩
        | 8, _ => exact ⟨30, by decide, rfl⟩
        | 9, _ => exact ⟨31, by decide, rfl⟩
        | 10, _ => exact ⟨32, by decide, rfl⟩
        | 11, _ => exact ⟨33, by decide, rfl⟩
        | k + 12, hk => omega
      obtain ⟨v, v1, v2⟩ := this k hk
      rw [v2]
      exact hr 0 k v v1
    · rw [kR36 1 k (by omega), rX 1 k (by omega) (by omega)]
      match k, hk with
      | 0, _ => exact xh5_r.1.1
      | 1, _ => exact xh5_r.1.2.1
      | 2, _ => exact xh5_r.1.2.2
      | k + 3, hk => omega
    · rw [kR36 2 k (by omega), rX 2 k (by omega) (by omega), xh5_r.2.1 k hk, x2_at k hk]
    · rw [kR36 11 k (by omega), rX 11 k (by omega) (by omega), xh5_r.2.2 k hk, x11_at k hk]
    · obtain rfl : k = 0 := by omega
      exact hr 22 0 23 (by decide)
    · obtain rfl : k = 0 := by omega
      exact hr 24 0 25 (by decide)
    · match k, hk with
      | 0, _ => exact hr 33 0 34 (by decide)
      | 1, _ => exact hr 33 1 35 (by decide)
      | k + 2, hk => omega
  have z0 : ∀ a k, a = 0 ∨ 22 ≤ a → a ≠ 36 → kI x0 a k = 0 := fun a k h h36 => by
    rw [kI36 a k h36]
    exact c5 a k h
  have n8 : mn m0 0 8 = 0 := by unfold mn; rw [m0I 0 8 (by omega) (by omega) (by omega)]; rfl
  have n16 : mn m0 0 16 = 0 := by unfold mn; rw [m0I 0 16 (by omega) (by omega) (by omega)]; rfl
  have n27 : mn m0 0 27 = 0 := by unfold mn; rw [m0I 0 27 (by omega) (by omega) (by omega)]; rfl
  have n31 : mn m0 0 31 = 0 := by unfold mn; rw [m0I 0 31 (by omega) (by omega) (by omega)]; rfl
  refine ⟨⟨hS, T0⟩, ⟨0, by omega, z0 0 12 (by omega) (by omega), m0I 0 0 (by omega) (by omega) (by omega)⟩, ⟨30, by omega, ?_, m01⟩, fun i j hi hj => ⟨0, by omega, ?_, m0I 1 _ (by omega) (by omega) (by omega), m0I 1 _ (by omega) (by omega) (by omega), fun _ => rfl⟩, fun i j hi hj => ?_, fun k hk => ?_, ⟨0, by omega, z0 22 1 (by omega) (by omega), m0I 0 5 (by omega) (by omega) (by omega), fun k hk => absurd hk (Nat.not_lt_zero _)⟩, ⟨fun a ha => ⟨0, by omega, z0 25 a (by omega) (by omega), fun b hb => ?_⟩, fun a b ha hb => ?_⟩, ⟨⟨0, by omega, z0 0 13 (by omega) (by omega), m0I 0 8 (by omega) (by omega) (by omega)⟩, fun p hp => ?_, fun p q hpq hq => ?_⟩, ⟨[], by rw [n8]; rfl, fun p => ?_, List.Pairwise.nil, fun k hk => absurd hk (Nat.not_lt_zero _)⟩, ⟨0, by omega, m0I 0 12 (by omega) (by omega) (by omega), fun k hk => absurd hk (Nat.not_lt_zero _), fun p hp => ?_⟩, ⟨⟨0, by omega, z0 0 14 (by omega) (by omega), m0I 0 16 (by omega) (by omega) (by omega)⟩, fun r hr => ?_, fun r _ _ => m0I 16 r (by omega) (by omega) (by omega)⟩, fun p hp => ?_, ⟨fun d hd => ?_, fun k hk => Or.inl (z0 35 k (by omega) (by omega))⟩, ⟨⟨0, by omega, z0 0 15 (by omega) (by omega), m0I 0 27 (by omega) (by omega) (by omega)⟩, fun w hw => ?_⟩, ⟨⟨0, by omega, z0 0 16 (by omega) (by omega), m0I 0 31 (by omega) (by omega) (by omega)⟩, fun n hn => ?_⟩, fun a ha => ?_⟩
  · rw [kI36 1 3 (by omega), iX 1 3 (by omega) (by omega), (ag.1 1 3 (by omega)).1]
    rfl
  · rw [kI36 _ _ (by omega), iX _ _ (by omega) (by omega)]
    exact Ig _ _ (by omega) (by omega)
  · rw [kI36 _ _ (by omega), iX _ _ (by omega) (by omega)]
    exact cD i j hi hj
  · obtain ⟨q0, q1, q2, q3⟩ := xg_rates kx21
    have em : kI m0 3 k = nI (2 ^ k) := by rw [(am.1 3 k (by omega)).1, z3 k hk]
    have ex : kI x0 21 k = kI (xg g) 21 k := by rw [kI36 21 k (by omega), (eX 21 k (by omega) (by omega)).1]
    rw [em, ex]
    match k, hk with
    | 0, _ => exact ⟨1, by omega, q0, rfl⟩
    | 1, _ => exact ⟨2, by omega, q1, rfl⟩
    | 2, _ => exact ⟨4, by omega, q2, rfl⟩
    | 3, _ => exact ⟨8, by omega, q3, rfl⟩
    | k + 4, hk => omega
  · rw [m0I 5 _ (by omega) (by omega) (by omega), Nat.zero_testBit]
    rfl
  · rw [m0I 5 _ (by omega) (by omega) (by omega), m0I 5 _ (by omega) (by omega) (by omega)]
  · rw [n8] at hp
    exact absurd hp (Nat.not_lt_zero _)
  · rw [n8] at hq
    exact absurd hq (Nat.not_lt_zero _)
  · rw [n8]
    exact ⟨fun z => (by cases z), fun z => absurd z (Nat.not_lt_zero _)⟩
  · rw [n8] at hp
    exact absurd hp (Nat.not_lt_zero _)
  · rw [n16] at hr
    exact absurd hr (Nat.not_lt_zero _)
  · rw [n8] at hp
    exact absurd hp (Nat.not_lt_zero _)
  · rw [kL36 31 d (by omega), kL36 32 d (by omega), c6 31 d (by omega), c6 32 d (by omega), m0L 20 d (by omega) (by omega), m0L 21 d (by omega) (by omega)]
    exact ⟨rfl, rfl⟩
  · rw [n27] at hw
    exact absurd hw (Nat.not_lt_zero _)
  · rw [n31] at hn
    exact absurd hn (Nat.not_lt_zero _)
  · rw [n8, n16, n27, n31] at ha
    exact c3 a (by omega)
