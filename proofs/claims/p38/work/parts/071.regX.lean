def DP (P a k : Nat) : Prop := (100 + 8 * P ≤ a ∧ a ≤ 106 + 8 * P) ∨ (1000100 + 8 * P ≤ a ∧ a ≤ 1000106 + 8 * P) ∨ a = 26 ∧ k = P
theorem x_reg {h hm : KH} {n P d c M : Nat} {X : Nat → Nat} (K : kCx h hm) (hPm : mn hm 0 8 = P) (hx : kx h = 100 + 8 * P) (hf : ∀ a, 100 + 8 * P ≤ a → a ≤ 106 + 8 * P → kd h a = 0) (n1 : 1 ≤ n) (n2 : n ≤ 6) (e22 : kI h 22 1 = nI n) (hX : ∀ k, k < n → X k < 15 ∧ kI h 23 k = nI (X k)) (hq : ∀ k, k < n → X k ≠ 14) (ht : ∀ q, q < P → ¬ eqT (mn hm) X n q) (hP : P < 10) (e12 : kI h 0 12 = nI M) (q1 : ¬ nI d < 0) (q2 : ¬ 5 < nI d) (q3 : ¬ nI c < 0) (q4 : ¬ 3 < nI c) : ∃ h4, f_X9_register 0 (nI d) (nI c) h = kcallV 10 0 h4 (f_X9_putInOrder 0 (100 + 8 * P) h4) (fun _ h11 => gI h11 0 10 13 (fun x8 => pI h11 0 10 13 (x8 + 1) (fun h12 => kcallV 10 0 h12 (f_X9_leadAllBack 0 h12) (fun _ h13 => gI h13 (100 + 8 * P) 5 0 (fun x9 => kret x9 h13))))) ∧ kAg (DP P) h h4 ∧
    (kd h4 (100 + 8 * P) = 5 ∧ kd h4 (101 + 8 * P) = 8 ∧ kd h4 (102 + 8 * P) = 21 ∧ kn h4 (102 + 8 * P) = 6 ∧ kd h4 (104 + 8 * P) = 4 ∧ kd h4 (105 + 8 * P) = 26 ∧ kn h4 (105 + 8 * P) = 60 ∧ kd h4 (106 + 8 * P) = 23 ∧ kn h4 (106 + 8 * P) = 60) ∧
    (kR h4 26 P = some (100 + 8 * P) ∧ kR h4 (100 + 8 * P) 1 = some (101 + 8 * P) ∧ kR h4 (101 + 8 * P) 0 = some (102 + 8 * P) ∧ kR h4 (100 + 8 * P) 3 = some (104 + 8 * P) ∧ kR h4 (104 + 8 * P) 0 = some (105 + 8 * P) ∧ kR h4 (104 + 8 * P) 1 = some (106 + 8 * P)) ∧
    kI h4 (100 + 8 * P) 0 = nI P ∧ kI h4 (101 + 8 * P) 1 = nI n ∧ (∀ k, k < n → kI h4 (102 + 8 * P) k = kI h 23 k) ∧ kI h4 (100 + 8 * P) 2 = nI c ∧ kI h4 (104 + 8 * P) 2 = 0 ∧ kR h4 (100 + 8 * P) 4 = some (103 + 8 * P) ∧ (kd h4 (103 + 8 * P) = 2 ∧ kI h4 (103 + 8 * P) 0 = nI d ∧ kI h4 (103 + 8 * P) 1 = nI M ∧ kR h4 (103 + 8 * P) 2 = none) := by
  have S := K.1.1
  have f0 := hf (100 + 8 * P) (by omega) (by omega)
  have ag0 : kAg (DP P) h (al h 5 0) := (kAg.al h 5 0 (by rw [hx]; exact f0)).sub (fun a k z => by rw [hx] at z; unfold DP; omega)
  have S1 : kSx (al h 5 0) := S.fr ag0 (fun a k z1 z2 => by unfold DP at z2; omega)
  have c0 : kd (al h 5 0) (100 + 8 * P) = 5 := by rw [kd_al, hx, if_pos rfl]
  have hI : ∀ a k, a < 100 → kI (al h 5 0) a k = kI h a k := fun a k ha => by rw [kI_al, hx, if_neg (by omega)]
  have hfA : ∀ a, 101 + 8 * P ≤ a → a ≤ 106 + 8 * P → kd (al h 5 0) a = 0 := fun a h1 h2 => by
    rw [kd_al, hx, if_neg (by omega)]
    exact hf a (by omega) (by omega)
  obtain ⟨hB, b1, b2, b3, b4, b5, b6, b7, b8, b9⟩ := x7_copy (h := al h 5 0) (t := 22) (s := 23) (c := 101 + 8 * P) n2 S1.d22 S1.r22_0 S1.d23 S1.n23 (by rw [hI 22 1 (by omega)]; exact e22) (by rw [kx_al, hx]; omega) (hfA _ (by omega) (by omega)) (hfA _ (by omega) (by omega))
  have agB : kAg (DP P) (al h 5 0) hB := b2.sub (fun a k z => by unfold DP; omega)
  have ag0B := ag0.trans agB (fun a k q => q) (fun a k q => q)
  have SB : kSx hB := S.fr ag0B (fun a k z1 z2 => by unfold DP at z2; omega)
  have hfB : ∀ a, 103 + 8 * P ≤ a → a ≤ 106 + 8 * P → kd hB a = 0 := fun a h1 h2 => by
    rw [(b2.2 a (Or.inr (by omega))).1]
    exact hfA a (by omega) h2
  have kxB : kx hB = 103 + 8 * P := by rw [b3]; omega
  have agC : kAg (fun a _ => a = 103 + 8 * P ∨ a = 103 + 8 * P + 1000000) hB (al hB 2 0) := (kAg.al hB 2 0 (by rw [kxB]; exact hfB _ (by omega) (by omega))).sub (fun a k z => by rw [kxB] at z; exact z)
  have kC : kd (al hB 2 0) (103 + 8 * P) = 2 := by rw [kd_al, kxB, if_pos rfl]
  have SC : kSx (al hB 2 0) := SB.fr agC (fun a k z1 z2 => by omega)
  have eC12 : kI (al hB 2 0) 0 12 = nI M := by
    rw [(agC.1 0 12 (by omega)).1, (b2.1 0 12 (by omega)).1, hI 0 12 (by omega)]
    exact e12
  obtain ⟨hD, eD⟩ : ∃ hD, hD = sR (sI (sI (al hB 2 0) (103 + 8 * P) 0 (nI d)) (103 + 8 * P) 1 (nI M)) (103 + 8 * P) 2 none := ⟨_, rfl⟩
  have agD : kAg (fun a _ => a = 103 + 8 * P) (al hB 2 0) hD := by
    rw [eD]
    exact ((kAg.I (al hB 2 0) (103 + 8 * P) 0 _).trans (F := fun a _ => a = 103 + 8 * P) (kAg.I _ (103 + 8 * P) 1 _) (fun a k q z => q z.1) (fun a k q z => q z.1)).trans (kAg.R _ (103 + 8 * P) 2 none) (fun a k q => q) (fun a k q z => q z.1)
  have kxD : kx hD = 104 + 8 * P := by
    rw [eD]
    show kx hB + 1 = _
    omega
  have hfD : ∀ a, 104 + 8 * P ≤ a → a ≤ 106 + 8 * P → kd hD a = 0 := fun a h1 h2 => by
    rw [(agD.2 a (Or.inr (by omega))).1, kd_al, kxB, if_neg (by omega)]
    exact hfB a (by omega) h2
  have kD0 : kd hD (100 + 8 * P) = 5 := by
    rw [(agD.k _ (by rw [kd_al, kxB, if_neg (by omega), (b2.k _ (by rw [c0]; decide)).1, c0]; decide)).1, kd_al, kxB, if_neg (by omega), (b2.k _ (by rw [c0]; decide)).1, c0]
  obtain ⟨hE, y1, y2, ⟨y3, y4, y5, y6, y7, y8⟩, ⟨y9, y10, y11⟩, y12, y13, y14, y15, y16⟩ := x4_init (h := hD) (b := 100 + 8 * P) (c := 104 + 8 * P) (t := 101 + 8 * P) (ho := 103 + 8 * P) (pn := nI P) (its := nI c) kxD kD0 (hfD _ (by omega) (by omega)) (hfD _ (by omega) (by omega)) (hfD _ (by omega) (by omega))
  have agCD : kAg (fun a _ => a = 103 + 8 * P ∨ a = 103 + 8 * P + 1000000) hB hD := agC.trans agD (fun a k q => q) (fun a k q z => q (Or.inl z))
  have agBE : kAg (fun a _ => a = 100 + 8 * P ∨ 103 + 8 * P ≤ a ∧ a ≤ 106 + 8 * P ∨ 1000103 + 8 * P ≤ a ∧ a ≤ 1000106 + 8 * P) hB hE := agCD.trans y2 (fun a k q z => q (by omega)) (fun a k q z => q (by omega))
  have agE : kAg (DP P) hB hE := agBE.sub (fun a k z => by unfold DP; omega)
  have SE : kSx hE := SB.fr agE (fun a k z1 z2 => by unfold DP at z2; omega)
  have hP1 := K.P
  rw [hPm] at hP1
  have eE13 : kI hE 0 13 = nI P := by
    rw [(agBE.1 0 13 (by omega)).1, (b2.1 0 13 (by omega)).1, hI 0 13 (by omega)]
    exact hP1.1
  have agF : kAg (fun a k => a = 26 ∧ k = P) hE (sR hE 26 P (some (100 + 8 * P))) := kAg.R _ _ _ _
  have agBF : kAg (fun a k => (a = 100 + 8 * P ∨ 103 + 8 * P ≤ a ∧ a ≤ 106 + 8 * P ∨ 1000103 + 8 * P ≤ a ∧ a ≤ 1000106 + 8 * P) ∨ a = 26 ∧ k = P) hB (sR hE 26 P (some (100 + 8 * P))) := agBE.trans agF (fun a k q z => q (Or.inl z)) (fun a k q z => q (Or.inr z))
  have agT : kAg (DP P) h (sR hE 26 P (some (100 + 8 * P))) := (ag0B.trans agE (fun a k q => q) (fun a k q => q)).trans agF (fun a k q => q) (fun a k q z => q (Or.inr (Or.inr z)))
  obtain ⟨v1, g1, g2⟩ := x7_hasQL (h := h) (t := 22) (s := 23) (X := X) S.d22 S.r22_0 S.d23 S.n23 e22 n2 hX kF 0 (by omega) (by unfold kF; omega)
  have v10 : v1 = 0 := by
    rcases g2 with z | ⟨-, k, hk, z⟩
    · exact z.1
    · exact absurd z (hq k hk)
  obtain ⟨v2, g3, g4⟩ := K.tkL (X := X) e22 n2 hX kF 0 (by omega) (by rw [hPm]; unfold kF; omega) (fun q hq => by omega)
  have v20 : v2 = 0 := by
    rcases g4 with ⟨-, q, hq, z⟩ | z
    · exact absurd z (ht q (by omega))
    · exact z.1
  have i103 : ∀ k, kI hE (103 + 8 * P) k = kI hD (103 + 8 * P) k ∧ kR hE (103 + 8 * P) k = kR hD (103 + 8 * P) k := fun k => ⟨(y2.1 _ k (by omega)).1, (y2.1 _ k (by omega)).2.2⟩
  refine ⟨sR hE 26 P (some (100 + 8 * P)), ?_, agT, ⟨y3, ?_, ?_, ?_, y4, ?_, ?_, ?_, ?_⟩, ⟨?_, ?_, ?_, ?_, ?_, ?_⟩, y13, ?_, fun k hk => ?_, y15, y11, ?_, ?_, ?_, ?_, ?_⟩
  · have hcls : f_X9_requireClass (nI c) h = kret () h := by
      unfold f_X9_requireClass
      rw [wi_t q3 q4, kb_ret, kif_f (by decide)]
    unfold f_X9_register
    rw [rdr_t q1 q2, kb_ret, hcls, kb_ret, gN_k S.d0 S.r0_2, gI_k S.d22, e22, kif_f (by rw [show (0 : Int32) = nI 0 from rfl, ka_eq (by omega) (by omega)]; omega), gN_k S.d0 S.r0_2, kV_k S.d22]
    rw [show f_X7_hasQuestionMark 22 h = kret v1 h from g1, kb_ret, kif_t v10, gN_k S.d0 S.r0_2, kV_k S.d0, show f_X9_isTaken 0 22 h = kret v2 h from g3, kb_ret, kif_t v20, gI_k S.d0, hP1.1, kif_t (by rw [show (10 : Int32) = nI 10 from rfl, ka_lt (by omega) (by omega)]; exact hP), nw_k (by rw [hx]; exact f0), hx]
    rw [gI_k S1.d0, hI 0 13 (by omega), hP1.1, gN_k S1.d0 S1.r0_2, kV_k S1.d22, b1, kb_ret, nw_k (by rw [kxB]; exact hfB _ (by omega) (by omega)), gI_k SC.d0, eC12, kxB, x1_init kC, ki_ret, ← eD, y1, ki_ret, gN_k SE.d0 SE.r0_4, gI_k SE.d0, eE13, pAN_k SE.d26 (by rw [SE.n26]; omega) (by omega) y3]
  · rw [kd_sR, (agBE.k _ (by rw [b4]; decide)).1, b4]
  · rw [kd_sR, show 102 + 8 * P = 101 + 8 * P + 1 by omega, (agBE.k _ (by rw [b5]; decide)).1, b5]
  · rw [kn_sR, show 102 + 8 * P = 101 + 8 * P + 1 by omega, (agBE.k _ (by rw [b5]; decide)).2, b6]
  · rw [kd_sR, show 105 + 8 * P = 104 + 8 * P + 1 by omega]; exact y5
  · rw [kn_sR, show 105 + 8 * P = 104 + 8 * P + 1 by omega]; exact y6
  · rw [kd_sR, show 106 + 8 * P = 104 + 8 * P + 2 by omega]; exact y7
  · rw [kn_sR, show 106 + 8 * P = 104 + 8 * P + 2 by omega]; exact y8
  · rw [kR_sR, if_pos ⟨rfl, rfl⟩]
  · rw [kR_sR, if_neg (by omega)]; exact y14
  · rw [(agBF.1 (101 + 8 * P) 0 (by omega)).2.2, b7, show 102 + 8 * P = 101 + 8 * P + 1 by omega]
  · rw [kR_sR, if_neg (by omega)]; exact y12
  · rw [kR_sR, if_neg (by omega), y9, show 105 + 8 * P = 104 + 8 * P + 1 by omega]
  · rw [kR_sR, if_neg (by omega), y10, show 106 + 8 * P = 104 + 8 * P + 2 by omega]
  · rw [(agBF.1 (101 + 8 * P) 1 (by omega)).1, b8]
  · rw [(agBF.1 (102 + 8 * P) k (by omega)).1, show 102 + 8 * P = 101 + 8 * P + 1 by omega, b9 k hk, hI 23 k (by omega)]
  · rw [kR_sR, if_neg (by omega)]; exact y16
  · rw [kd_sR, (y2.k (103 + 8 * P) (by rw [eD]; show kd (al hB 2 0) (103 + 8 * P) ≠ 0; rw [kC]; decide)).1, eD]
    exact kC
  · rw [kI_sR, (i103 0).1, eD, kI_sR, kI_sI, if_neg (by omega), kI_sI, if_pos ⟨rfl, rfl⟩]
  · rw [kI_sR, (i103 1).1, eD, kI_sR, kI_sI, if_pos ⟨rfl, rfl⟩]
  · rw [kR_sR, if_neg (by omega), (i103 2).2, eD, kR_sR, if_pos ⟨rfl, rfl⟩]
