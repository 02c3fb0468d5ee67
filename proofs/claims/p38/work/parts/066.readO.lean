/-! read: the class's new reading -/
def DR (R a k : Nat) : Prop := (200 + 4 * R ≤ a ∧ a ≤ 202 + 4 * R) ∨ (1000200 + 4 * R ≤ a ∧ a ≤ 1000202 + 4 * R) ∨ a = 28 ∧ k = R ∨ a = 0 ∧ k = 14
theorem x_read {h : KH} {n R x m : Nat} (S : kSx h) (hx : kx h = 200 + 4 * R) (hf : ∀ a, 200 + 4 * R ≤ a → a ≤ 202 + 4 * R → kd h a = 0) (n1 : 1 ≤ n) (n2 : n ≤ 6) (e22 : kI h 22 1 = nI n) (hR : R < 60) (e14 : kI h 0 14 = nI R) (q1 : ¬ nI x < 0) (q2 : ¬ 7 < nI x) (hmin : f_X9_requireMinute 0 (nI m) h = kret () h) : ∃ h5, f_X9_read 0 (nI x) (nI m) h = kcallV 10 0 h5 (f_X9_plateByText 0 (200 + 4 * R) h5) (fun o1 h8 => kcallV 10 0 h8 (f_X9_move 0 (200 + 4 * R) o1 h8) (fun _ h9 => gI h9 (200 + 4 * R) 6 0 (fun x6 => kret x6 h9))) ∧ kAg (DR R) h h5 ∧
    (kd h5 (200 + 4 * R) = 6 ∧ kd h5 (201 + 4 * R) = 8 ∧ kd h5 (202 + 4 * R) = 21 ∧ kn h5 (202 + 4 * R) = 6) ∧ (kR h5 28 R = some (200 + 4 * R) ∧ kR h5 (200 + 4 * R) 3 = some (201 + 4 * R) ∧ kR h5 (201 + 4 * R) 0 = some (202 + 4 * R)) ∧ kI h5 (200 + 4 * R) 0 = nI R ∧ kI h5 (200 + 4 * R) 1 = nI x ∧ kI h5 (200 + 4 * R) 2 = nI m ∧ kI h5 (200 + 4 * R) 4 = 0 ∧ kR h5 (200 + 4 * R) 5 = none ∧ kI h5 (201 + 4 * R) 1 = nI n ∧ (∀ k, k < n → kI h5 (202 + 4 * R) k = kI h 23 k) ∧ kI h5 0 14 = nI (R + 1) := by
  have f0 := hf (200 + 4 * R) (by omega) (by omega)
  have ag0 : kAg (DR R) h (al h 6 0) := (kAg.al h 6 0 (by rw [hx]; exact f0)).sub (fun a k z => by rw [hx] at z; unfold DR; omega)
  have S1 : kSx (al h 6 0) := S.fr ag0 (fun a k z1 z2 => by unfold DR at z2; omega)
  have c0 : kd (al h 6 0) (200 + 4 * R) = 6 := by rw [kd_al, hx, if_pos rfl]
  have hx1 : kx (al h 6 0) = 201 + 4 * R := by rw [kx_al, hx]; omega
  have g1 : kd (al h 6 0) (201 + 4 * R) = 0 := by
    rw [kd_al, hx, if_neg (by omega)]
    exact hf _ (by omega) (by omega)
  have g2 : kd (al h 6 0) (201 + 4 * R + 1) = 0 := by
    rw [kd_al, hx, if_neg (by omega)]
    exact hf _ (by omega) (by omega)
  have hI : ∀ a k, a < 200 → kI (al h 6 0) a k = kI h a k := fun a k ha => by rw [kI_al, hx, if_neg (by omega)]
  obtain ⟨h2, b1, b2, b3, b4, b5, b6, b7, b8, b9⟩ := x7_copy (h := al h 6 0) (t := 22) (s := 23) (c := 201 + 4 * R) n2 S1.d22 S1.r22_0 S1.d23 S1.n23 (by rw [hI 22 1 (by omega)]; exact e22) hx1 g1 g2
  have ag1 : kAg (DR R) (al h 6 0) h2 := b2.sub (fun a k z => by unfold DR; omega)
  have ag01 := ag0.trans ag1 (fun a k q => q) (fun a k q => q)
  have S2 : kSx h2 := S.fr ag01 (fun a k z1 z2 => by unfold DR at z2; omega)
  have c2 : kd h2 (200 + 4 * R) = 6 := by rw [(b2.k (200 + 4 * R) (by rw [c0]; decide)).1, c0]
  obtain ⟨h3, e3⟩ : ∃ h3, h3 = sR (sI (sI (sI (sR (sI h2 (200 + 4 * R) 4 0) (200 + 4 * R) 5 none) (200 + 4 * R) 0 (nI R)) (200 + 4 * R) 1 (nI x)) (200 + 4 * R) 2 (nI m)) (200 + 4 * R) 3 (some (201 + 4 * R)) := ⟨_, rfl⟩
  have k3 : kd h3 = kd h2 := by rw [e3]; rfl
  have l3 : kn h3 = kn h2 := by rw [e3]; rfl
  have hinit : f_X5_init (200 + 4 * R) (nI R) (nI x) (nI m) (201 + 4 * R) h2 = kret () h3 := by
    unfold f_X5_init
    simp only [pI, pR, kd_sI, kd_sR, c2, if_true, e3]
  have ag2 : kAg (DR R) h2 h3 := by
    rw [e3]
    exact ((((((kAg.I h2 (200 + 4 * R) 4 0).trans (F := DR R) (kAg.R _ (200 + 4 * R) 5 none) (fun a k q z => q (by unfold DR; omega)) (fun a k q z => q (by unfold DR; omega))).trans (F := DR R) (kAg.I _ (200 + 4 * R) 0 _) (fun a k q => q) (fun a k q z => q (by unfold DR; omega))).trans (F := DR R) (kAg.I _ (200 + 4 * R) 1 _) (fun a k q => q) (fun a k q z => q (by unfold DR; omega))).trans (F := DR R) (kAg.I _ (200 + 4 * R) 2 _) (fun a k q => q) (fun a k q z => q (by unfold DR; omega))).trans (F := DR R) (kAg.R _ (200 + 4 * R) 3 _) (fun a k q => q) (fun a k q z => q (by unfold DR; omega)))
  have ag012 := ag01.trans ag2 (fun a k q => q) (fun a k q => q)
  have S3 : kSx h3 := S.fr ag012 (fun a k z1 z2 => by unfold DR at z2; omega)
  have i3 : ∀ a k, a ≠ 200 + 4 * R → kI h3 a k = kI h2 a k ∧ kR h3 a k = kR h2 a k := fun a k ha => by
    rw [e3]
    exact ⟨by rw [kI_sR, kI_sI, if_neg (fun z => ha z.1), kI_sI, if_neg (fun z => ha z.1), kI_sI, if_neg (fun z => ha z.1), kI_sR, kI_sI, if_neg (fun z => ha z.1)], by rw [kR_sR, if_neg (fun z => ha z.1), kR_sI, kR_sI, kR_sI, kR_sR, if_neg (fun z => ha z.1), kR_sI]⟩
  have e14' : kI h3 0 14 = nI R := by
    rw [(i3 0 14 (by omega)).1, (b2.1 0 14 (by omega)).1, hI 0 14 (by omega)]
    exact e14
  have ag3 : kAg (DR R) h3 (sI (sR h3 28 R (some (200 + 4 * R))) 0 14 (nI (R + 1))) := (kAg.R h3 28 R _).trans (kAg.I _ 0 14 _) (fun a k q z => q (by unfold DR; omega)) (fun a k q z => q (by unfold DR; omega))
  refine ⟨sI (sR h3 28 R (some (200 + 4 * R))) 0 14 (nI (R + 1)), ?_, ag012.trans ag3 (fun a k q => q) (fun a k q => q), ⟨?_, ?_, ?_, ?_⟩, ⟨?_, ?_, ?_⟩, ?_, ?_, ?_, ?_, ?_, ?_, fun k hk => ?_, ?_⟩
  · unfold f_X9_read
    rw [rgt_t q1 q2, kb_ret, kV_k S.d0, hmin, kb_ret, gN_k S.d0 S.r0_2, gI_k S.d22, e22, kif_f (by rw [show (0 : Int32) = nI 0 from rfl, ka_eq (by omega) (by omega)]; omega), gI_k S.d0, e14, kif_t (by rw [show (60 : Int32) = nI 60 from rfl, ka_lt (by omega) (by omega)]; exact hR), nw_k (by rw [hx]; exact f0), gI_k S1.d0, hI 0 14 (by omega), e14, gN_k S1.d0 S1.r0_2, kV_k S1.d22, b1, kb_ret, hx, hinit, ki_ret, gN_k S3.d0 S3.r0_6, gI_k S3.d0, e14', pAN_k S3.d28 (by rw [S3.n28]; omega) (by omega) (by rw [k3]; exact c2), gI_k (show kd (sR h3 28 R (some (200 + 4 * R))) 0 = 10 from S3.d0), show kI (sR h3 28 R (some (200 + 4 * R))) 0 14 = nI R from e14', pI_k (show kd (sR h3 28 R (some (200 + 4 * R))) 0 = 10 from S3.d0), nI_1]
  · show kd h3 (200 + 4 * R) = 6
    rw [k3]
    exact c2
  · show kd h3 (201 + 4 * R) = 8
    rw [k3]
    exact b4
  · show kd h3 (202 + 4 * R) = 21
    rw [k3, show 202 + 4 * R = 201 + 4 * R + 1 by omega]
    exact b5
  · show kn h3 (202 + 4 * R) = 6
    rw [l3, show 202 + 4 * R = 201 + 4 * R + 1 by omega]
    exact b6
  · rw [kR_sI, kR_sR, if_pos ⟨rfl, rfl⟩]
  · rw [kR_sI, kR_sR, if_neg (by omega), e3, kR_sR, if_pos ⟨rfl, rfl⟩]
  · rw [kR_sI, kR_sR, if_neg (by omega), (i3 _ _ (by omega)).2, b7, show 202 + 4 * R = 201 + 4 * R + 1 by omega]
  · rw [kI_sI, if_neg (by omega), kI_sR, e3, kI_sR, kI_sI, if_neg (by omega), kI_sI, if_neg (by omega), kI_sI, if_pos ⟨rfl, rfl⟩]
  · rw [kI_sI, if_neg (by omega), kI_sR, e3, kI_sR, kI_sI, if_neg (by omega), kI_sI, if_pos ⟨rfl, rfl⟩]
  · rw [kI_sI, if_neg (by omega), kI_sR, e3, kI_sR, kI_sI, if_pos ⟨rfl, rfl⟩]
  · rw [kI_sI, if_neg (by omega), kI_sR, e3, kI_sR, kI_sI, if_neg (by omega), kI_sI, if_neg (by omega), kI_sI, if_neg (by omega), kI_sR, kI_sI, if_pos ⟨rfl, rfl⟩]
  · rw [kR_sI, kR_sR, if_neg (by omega), e3, kR_sR, if_neg (by omega), kR_sI, kR_sI, kR_sI, kR_sR, if_pos ⟨rfl, rfl⟩]
  · rw [kI_sI, if_neg (by omega), kI_sR, (i3 _ _ (by omega)).1, b8]
  · rw [kI_sI, if_neg (by omega), kI_sR, (i3 _ _ (by omega)).1, show 202 + 4 * R = 201 + 4 * R + 1 by omega, b9 k hk, hI 23 k (by omega)]
  · rw [kI_sI, if_pos ⟨rfl, rfl⟩]
/-- both -/
theorem rr_fin2 {j : Nat} {hx hm h2 hm1 : KH} {D E : Nat → Nat → Prop} (R : RR j hx hm) (K2 : kCx h2 hm1) (Z : cZer hm1) (C2 : cCor h2 hm1) (f5 : AS h2 hm1 (sPF hm1)) (c3 : cLen h2 hm1) (c16 : cFre (j + 1) h2 hm1) (ag : kAg D hx h2) (am : kAg E hm hm1)
    (hD : ∀ a k, FRd a k → ¬ D a k)
    (hE : ∀ a k, a = 0 ∧ (k = 0 ∨ k = 5 ∨ k = 8 ∨ k = 12 ∨ k = 27 ∨ k = 31) ∨ a = 3 ∨ a = 4 ∨ a = 9 ∨ a = 10 ∨ a = 11 ∨ 20 ≤ a ∧ a ≤ 27 → ¬ E a k) : RR (j + 1) h2 hm1 := by
  have R1 := R.up
  have hP := R1.P
  have hnew := cRea_of K2 Z C2 f5
  obtain ⟨-, c1, -, -, -, c5, c6, -, -, -, c10, -, -, c13, c14, c15, -⟩ := R1
  obtain ⟨k0, k2, k4, k7, k8, k9, -⟩ := K2
  have q5 : ∀ a k, a = 31 ∨ a = 32 ∨ a = 35 → FRd a k := fun a k h => Or.inr (Or.inr (Or.inr (Or.inr (Or.inr (h.elim Or.inl (fun z => Or.inr (z.elim Or.inl (fun z => Or.inr (Or.inl z)))))))))
  have q8 : ∀ a k, 500 ≤ a ∧ a < 508 ∨ a = 29 → FRd a k := fun a k h => Or.inr (Or.inr (Or.inr (Or.inr (Or.inr (Or.inr (Or.inr (Or.inr (h.elim Or.inl (fun z => Or.inr (Or.inl z))))))))))
  have q10 : ∀ a k, 600 ≤ a ∧ a < 640 ∨ a = 30 → FRd a k := fun a k h => Or.inr (Or.inr (Or.inr (Or.inr (Or.inr (Or.inr (Or.inr (Or.inr (Or.inr (Or.inr h)))))))))
  exact ⟨k0, c1.fr ag am (fun a k h => hD a k (Or.inl ⟨h.1, Or.inl h.2⟩)) (fun a k h => hE a k (by omega)), k2, c3, k4, c5.fr ag am (fun a k h => hD a k (Or.inr (Or.inl h))) (fun a k h => hE a k (by omega)), c6.fr ag am (fun a k h => hD a k (Or.inr (Or.inr (h.elim Or.inl (fun z => Or.inr (Or.inl z)))))) (fun a k h => hE a k (by omega)), k7, k8, k9, c10.fr hP ag am (fun a k h => hD a k (Or.inr (Or.inr (Or.inr (Or.inr (Or.inl h)))))) (fun a k h => hE a k (by omega)), hnew.1, hnew.2, c13.fr ag am (fun a k h => hD a k (q5 a k h)) (fun a k h => hE a k (by omega)), c14.fr ag am (fun a k h => h.elim (fun z => hD a k (q8 a k (Or.inl z))) (fun z => z.elim (fun z => hD a k (q8 a k (Or.inr z))) (fun z => hD a k (Or.inl ⟨z.1, Or.inr (Or.inl z.2)⟩)))) (fun a k h => hE a k (by omega)), c15.fr ag am (fun a k h => h.elim (fun z => hD a k (q10 a k (Or.inl z))) (fun z => z.elim (fun z => hD a k (q10 a k (Or.inr z))) (fun z => hD a k (Or.inl ⟨z.1, Or.inr (Or.inr z.2)⟩)))) (fun a k h => hE a k (by omega)), c16⟩
