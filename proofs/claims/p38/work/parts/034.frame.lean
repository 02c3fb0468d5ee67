/-! what is kept where nothing is written -/
def kAg (D : Nat → Nat → Prop) (h h' : KH) : Prop := (∀ a k, ¬ D a k → kI h' a k = kI h a k ∧ kL h' a k = kL h a k ∧ kR h' a k = kR h a k) ∧ ∀ a, (kd h a ≠ 0 ∨ ¬ D (a + 1000000) 0) → kd h' a = kd h a ∧ kn h' a = kn h a
theorem kAg.k {D : Nat → Nat → Prop} {h h' : KH} (g : kAg D h h') (a : Nat) (h1 : kd h a ≠ 0) : kd h' a = kd h a ∧ kn h' a = kn h a := g.2 a (Or.inl h1)
theorem kAg.nf {D : Nat → Nat → Prop} {h h' : KH} (g : kAg D h h') (hD : ∀ a, ¬ D (a + 1000000) 0) : ∀ a, kd h a = 0 → kd h' a = 0 := fun a e => by
  rw [(g.2 a (Or.inr (hD a))).1]
  exact e
theorem kAg.rf (h : KH) : kAg (fun _ _ => False) h h := ⟨fun _ _ _ => ⟨rfl, rfl, rfl⟩, fun _ _ => ⟨rfl, rfl⟩⟩
theorem kAg.trans {D E F : Nat → Nat → Prop} {h h1 h2 : KH} (a : kAg D h h1) (b : kAg E h1 h2) (hD : ∀ i k, ¬ F i k → ¬ D i k) (hE : ∀ i k, ¬ F i k → ¬ E i k) : kAg F h h2 :=
  ⟨fun i k q => by
    obtain ⟨x1, x2, x3⟩ := a.1 i k (hD i k q)
    obtain ⟨y1, y2, y3⟩ := b.1 i k (hE i k q)
    exact ⟨y1.trans x1, y2.trans x2, y3.trans x3⟩, fun i q => by
    obtain ⟨x1, x2⟩ := a.2 i (q.imp id (fun z => hD _ _ z))
    obtain ⟨y1, y2⟩ := b.2 i (q.imp (fun z => by rw [x1]; exact z) (fun z => hE _ _ z))
    exact ⟨y1.trans x1, y2.trans x2⟩⟩
theorem kAg.I (h : KH) (a k : Nat) (v : Int32) : kAg (fun b j => b = a ∧ j = k) h (sI h a k v) := ⟨fun b j q => ⟨by rw [kI_sI, if_neg q], rfl, rfl⟩, fun _ _ => ⟨rfl, rfl⟩⟩
theorem kAg.L (h : KH) (a k : Nat) (v : Int64) : kAg (fun b j => b = a ∧ j = k) h (sL h a k v) := ⟨fun b j q => ⟨rfl, by rw [kL_sL, if_neg q], rfl⟩, fun _ _ => ⟨rfl, rfl⟩⟩
theorem kAg.R (h : KH) (a k : Nat) (v : Option Nat) : kAg (fun b j => b = a ∧ j = k) h (sR h a k v) := ⟨fun b j q => ⟨rfl, rfl, by rw [kR_sR, if_neg q]⟩, fun _ _ => ⟨rfl, rfl⟩⟩
theorem kAg.A (h : KH) (a : Nat) (g : Nat → Int32) : kAg (fun b _ => b = a) h (sA h a g) := ⟨fun b j q => ⟨by rw [kI_sA, if_neg q], rfl, rfl⟩, fun _ _ => ⟨rfl, rfl⟩⟩
theorem kAg.RA (h : KH) (a : Nat) (g : Nat → Option Nat) : kAg (fun b _ => b = a) h (sRA h a g) := ⟨fun b j q => ⟨rfl, rfl, by rw [kR_sRA, if_neg q]⟩, fun _ _ => ⟨rfl, rfl⟩⟩
theorem kAg.LA (h : KH) (a : Nat) (g : Nat → Int64) : kAg (fun b _ => b = a) h (sLA h a g) := ⟨fun b j q => ⟨rfl, by rw [kL_sLA, if_neg q], rfl⟩, fun _ _ => ⟨rfl, rfl⟩⟩
theorem kAg.al (h : KH) (c n : Nat) (hf : kd h (kx h) = 0) : kAg (fun b _ => b = kx h ∨ b = kx h + 1000000) h (al h c n) := ⟨fun b j q => ⟨by rw [kI_al, if_neg (fun z => q (Or.inl z))], by rw [kL_al, if_neg (fun z => q (Or.inl z))], by rw [kR_al, if_neg (fun z => q (Or.inl z))]⟩, fun a q => by
  have hne : ¬ a = kx h := fun e => q.elim (fun z => z (by rw [e]; exact hf)) (fun z => z (Or.inr (by rw [e])))
  exact ⟨by rw [kd_al, if_neg hne], by rw [kn_al, if_neg hne]⟩⟩
theorem kAg.X (h : KH) (n : Nat) : kAg (fun _ _ => False) h (sX h n) := ⟨fun _ _ _ => ⟨rfl, rfl, rfl⟩, fun _ _ => ⟨rfl, rfl⟩⟩
theorem kAg.sub {D F : Nat → Nat → Prop} {h h1 : KH} (a : kAg D h h1) (hD : ∀ i k, D i k → F i k) : kAg F h h1 := ⟨fun i k q => a.1 i k (fun z => q (hD i k z)), fun i q => a.2 i (q.imp id (fun z w => z (hD _ _ w)))⟩
theorem mn_cg {h h' : KH} {a : Nat} (e : ∀ k, kI h' a k = kI h a k) : mn h' a = mn h a := by
  funext k
  unfold mn
  rw [e]
theorem mn_cg1 {h h' : KH} {a k : Nat} (e : kI h' a k = kI h a k) : mn h' a k = mn h a k := by
  unfold mn
  rw [e]
theorem sPart_cg {m m' : Nat → Nat → Nat} (h5 : m' 5 = m 5) (x y : Nat) : sPart m' x y = sPart m x y := by
  unfold sPart
  rw [h5]
theorem sCst_cg {m m' : Nat → Nat → Nat} (h5 : m' 5 = m 5) (h7 : m' 7 = m 7) (h15 : m' 15 = m 15) (r p k : Nat) : sCst m' r p k = sCst m r p k := by
  induction k with
  | zero => rfl
  | succ k ih =>
    unfold sCst
    rw [ih, sPart_cg h5, h7, h15]
theorem sCost_cg {m m' : Nat → Nat → Nat} (h5 : m' 5 = m 5) (h6 : m' 6 = m 6) (h7 : m' 7 = m 7) (h14 : m' 14 = m 14) (h15 : m' 15 = m 15) (r p : Nat) : sCost m' r p = sCost m r p := by
  unfold sCost
  rw [h14, h6, sCst_cg h5 h7 h15]
theorem sTl_cg {m m' : Nat → Nat → Nat} (h6 : m' 6 = m 6) (h7 : m' 7 = m 7) (p : Nat) : sTl m' p = sTl m p := by
  unfold sTl
  rw [h6, h7]
theorem sBest_cg {m m' : Nat → Nat → Nat} (h5 : m' 5 = m 5) (h6 : m' 6 = m 6) (h7 : m' 7 = m 7) (h14 : m' 14 = m 14) (h15 : m' 15 = m 15) (r k : Nat) : sBest m' r k = sBest m r k := by
  induction k with
  | zero => rfl
  | succ k ih =>
    unfold sBest
    simp only [ih, sCost_cg h5 h6 h7 h14 h15, sTl_cg h6 h7]
theorem sPF_cg {h h' : KH} (e8 : kI h' 0 8 = kI h 0 8) (e : ∀ a, a = 5 ∨ a = 6 ∨ a = 7 ∨ a = 14 ∨ a = 15 ∨ a = 16 ∨ a = 17 → ∀ k, kI h' a k = kI h a k) (r : Nat) : sPF h' r = sPF h r := by
  unfold sPF
  rw [mn_cg (e 16 (by omega)), mn_cg (e 17 (by omega)), e 17 (by omega), mn_cg1 e8, sBest_cg (mn_cg (e 5 (by omega))) (mn_cg (e 6 (by omega))) (mn_cg (e 7 (by omega))) (mn_cg (e 14 (by omega))) (mn_cg (e 15 (by omega)))]
theorem sRow_cg {h h' : KH} {p : Nat} {l : List Nat} (e1 : ∀ r, sPF h' r = sPF h r) (e2 : kI h' 0 16 = kI h 0 16) (e3 : ∀ k, kI h' 13 k = kI h 13 k) (s : sRow h p l) : sRow h' p l := by
  obtain ⟨s1, s2⟩ := s
  refine ⟨fun r => by rw [e1, mn_cg1 e2]; exact s1 r, s2.imp ?_⟩
  intro a b hab
  unfold sBef at hab ⊢
  rw [mn_cg e3]
  exact hab
theorem sBegAt_cg {h h' : KH} (e1 : kI h' 0 1 = kI h 0 1) (e2 : ∀ k, kI h' 2 k = kI h 2 k) (e3 : ∀ k, kI h' 12 k = kI h 12 k) (e4 : ∀ k, kI h' 13 k = kI h 13 k) (l : List Nat) (k : Nat) : sBegAt h' l k = sBegAt h l k := by
  unfold sBegAt
  split
  · rfl
  · unfold sBeg
    rw [mn_cg e2, mn_cg e3, mn_cg e4, mn_cg1 e1, e2]
theorem sHold_cg {h h' : KH} (e9 : ∀ k, kI h' 9 k = kI h 9 k) (e10 : ∀ k, kI h' 10 k = kI h 10 k) (e11 : ∀ k, kI h' 11 k = kI h 11 k) (p m n : Nat) : sHold h' p m n = sHold h p m n := by
  induction n with
  | zero => rfl
  | succ n ih =>
    unfold sHold
    rw [ih, mn_cg e9, mn_cg e11, e10]
theorem xDC_cg {h h' : KH} (e : ∀ a, (a % 8 = 7 ∧ 100 ≤ a ∧ a < 180 ∨ 1000 ≤ a ∧ a < 2000) → kd h a = 2 → kd h' a = 2 ∧ (∀ k, kI h' a k = kI h a k) ∧ ∀ k, kR h' a k = kR h a k) : ∀ (n : Nat) (o : Option Nat), xChn h n o → xChn h' n o ∧ ∀ m, xDrv h' m n o = xDrv h m n o := by
  intro n
  induction n with
  | zero => exact fun o c => ⟨c, fun m => rfl⟩
  | succ n ih =>
    intro o c
    cases o with
    | none => exact ⟨trivial, fun m => rfl⟩
    | some a =>
      obtain ⟨c1, c2, c3, c4, c5⟩ := c
      obtain ⟨e1, e2, e3⟩ := e a c2 c1
      obtain ⟨i1, i2⟩ := ih (kR h a 2) c5
      refine ⟨⟨e1, c2, by rw [e2]; exact c3, by rw [e2]; exact c4, by rw [e3]; exact i1⟩, fun m => ?_⟩
      unfold xDrv
      rw [mn_cg1 (e2 1), e2, e3, i2]

theorem cMin.fr {D E : Nat → Nat → Prop} {hx hm hx' hm' : KH} (c : cMin hx hm) (ag : kAg D hx hx') (am : kAg E hm hm') (hD : ∀ a k, a = 0 ∧ k = 12 → ¬ D a k) (hE : ∀ a k, a = 0 ∧ k = 0 → ¬ E a k) : cMin hx' hm' := by
  have eI : ∀ a k, a = 0 ∧ k = 12 → kI hx' a k = kI hx a k := fun a k h => (ag.1 a k (hD a k h)).1
  have eL : ∀ a k, a = 0 ∧ k = 12 → kL hx' a k = kL hx a k := fun a k h => (ag.1 a k (hD a k h)).2.1
  have eR : ∀ a k, a = 0 ∧ k = 12 → kR hx' a k = kR hx a k := fun a k h => (ag.1 a k (hD a k h)).2.2
  have mI : ∀ a k, a = 0 ∧ k = 0 → kI hm' a k = kI hm a k := fun a k h => (am.1 a k (hE a k h)).1
  have mL : ∀ a k, a = 0 ∧ k = 0 → kL hm' a k = kL hm a k := fun a k h => (am.1 a k (hE a k h)).2.1
  have mN : ∀ a k, a = 0 ∧ k = 0 → mn hm' a k = mn hm a k := fun a k h => mn_cg1 (mI a k h)
  unfold cMin at c ⊢
  simp (disch := omega) only [eI, mI]
  exact c
theorem cPau.fr {D E : Nat → Nat → Prop} {hx hm hx' hm' : KH} (c : cPau hx hm) (ag : kAg D hx hx') (am : kAg E hm hm') (hD : ∀ a k, a = 1 ∧ k = 3 → ¬ D a k) (hE : ∀ a k, a = 0 ∧ k = 1 → ¬ E a k) : cPau hx' hm' := by
  have eI : ∀ a k, a = 1 ∧ k = 3 → kI hx' a k = kI hx a k := fun a k h => (ag.1 a k (hD a k h)).1
  have eL : ∀ a k, a = 1 ∧ k = 3 → kL hx' a k = kL hx a k := fun a k h => (ag.1 a k (hD a k h)).2.1
  have eR : ∀ a k, a = 1 ∧ k = 3 → kR hx' a k = kR hx a k := fun a k h => (ag.1 a k (hD a k h)).2.2
  have mI : ∀ a k, a = 0 ∧ k = 1 → kI hm' a k = kI hm a k := fun a k h => (am.1 a k (hE a k h)).1
  have mL : ∀ a k, a = 0 ∧ k = 1 → kL hm' a k = kL hm a k := fun a k h => (am.1 a k (hE a k h)).2.1
  have mN : ∀ a k, a = 0 ∧ k = 1 → mn hm' a k = mn hm a k := fun a k h => mn_cg1 (mI a k h)
  unfold cPau at c ⊢
  simp (disch := omega) only [eI, mI]
  exact c
theorem cLen.fr {D E : Nat → Nat → Prop} {hx hm hx' hm' : KH} (c : cLen hx hm) (ag : kAg D hx hx') (am : kAg E hm hm') (hD : ∀ a k, 3 ≤ a ∧ a ≤ 10 → ¬ D a k) (hE : ∀ a k, a = 1 → ¬ E a k) : cLen hx' hm' := by
  have eI : ∀ a k, 3 ≤ a ∧ a ≤ 10 → kI hx' a k = kI hx a k := fun a k h => (ag.1 a k (hD a k h)).1
  have eL : ∀ a k, 3 ≤ a ∧ a ≤ 10 → kL hx' a k = kL hx a k := fun a k h => (ag.1 a k (hD a k h)).2.1
  have eR : ∀ a k, 3 ≤ a ∧ a ≤ 10 → kR hx' a k = kR hx a k := fun a k h => (ag.1 a k (hD a k h)).2.2
  have mI : ∀ a k, a = 1 → kI hm' a k = kI hm a k := fun a k h => (am.1 a k (hE a k h)).1
  have mL : ∀ a k, a = 1 → kL hm' a k = kL hm a k := fun a k h => (am.1 a k (hE a k h)).2.1
  have mN : ∀ a k, a = 1 → mn hm' a k = mn hm a k := fun a k h => mn_cg1 (mI a k h)
  unfold cLen at c ⊢
  intro i j hi hj
  simp (disch := omega) only [eI, mI]
  exact c i j hi hj
theorem cDis.fr {D E : Nat → Nat → Prop} {hx hm hx' hm' : KH} (c : cDis hx hm) (ag : kAg D hx hx') (am : kAg E hm hm') (hD : ∀ a k, 12 ≤ a ∧ a ≤ 19 → ¬ D a k) (hE : ∀ a k, a = 2 → ¬ E a k) : cDis hx' hm' := by
  have eI : ∀ a k, 12 ≤ a ∧ a ≤ 19 → kI hx' a k = kI hx a k := fun a k h => (ag.1 a k (hD a k h)).1
  have eL : ∀ a k, 12 ≤ a ∧ a ≤ 19 → kL hx' a k = kL hx a k := fun a k h => (ag.1 a k (hD a k h)).2.1
  have eR : ∀ a k, 12 ≤ a ∧ a ≤ 19 → kR hx' a k = kR hx a k := fun a k h => (ag.1 a k (hD a k h)).2.2
  have mI : ∀ a k, a = 2 → kI hm' a k = kI hm a k := fun a k h => (am.1 a k (hE a k h)).1
  have mL : ∀ a k, a = 2 → kL hm' a k = kL hm a k := fun a k h => (am.1 a k (hE a k h)).2.1
  have mN : ∀ a k, a = 2 → mn hm' a k = mn hm a k := fun a k h => mn_cg1 (mI a k h)
  unfold cDis at c ⊢
  intro i j hi hj
  simp (disch := omega) only [eI, mI]
  exact c i j hi hj
theorem cRat.fr {D E : Nat → Nat → Prop} {hx hm hx' hm' : KH} (c : cRat hx hm) (ag : kAg D hx hx') (am : kAg E hm hm') (hD : ∀ a k, a = 21 → ¬ D a k) (hE : ∀ a k, a = 3 → ¬ E a k) : cRat hx' hm' := by
  have eI : ∀ a k, a = 21 → kI hx' a k = kI hx a k := fun a k h => (ag.1 a k (hD a k h)).1
  have eL : ∀ a k, a = 21 → kL hx' a k = kL hx a k := fun a k h => (ag.1 a k (hD a k h)).2.1
  have eR : ∀ a k, a = 21 → kR hx' a k = kR hx a k := fun a k h => (ag.1 a k (hD a k h)).2.2
  have mI : ∀ a k, a = 3 → kI hm' a k = kI hm a k := fun a k h => (am.1 a k (hE a k h)).1
  have mL : ∀ a k, a = 3 → kL hm' a k = kL hm a k := fun a k h => (am.1 a k (hE a k h)).2.1
  have mN : ∀ a k, a = 3 → mn hm' a k = mn hm a k := fun a k h => mn_cg1 (mI a k h)
  intro k hk
  simp (disch := omega) only [eI, mI]
  exact c k hk
theorem cTxt.fr {D E : Nat → Nat → Prop} {hx hm hx' hm' : KH} (c : cTxt hx hm) (ag : kAg D hx hx') (am : kAg E hm hm') (hD : ∀ a k, a = 23 ∨ a = 22 ∧ k = 1 → ¬ D a k) (hE : ∀ a k, a = 4 ∨ a = 0 ∧ k = 5 → ¬ E a k) : cTxt hx' hm' := by
  have eI : ∀ a k, a = 23 ∨ a = 22 ∧ k = 1 → kI hx' a k = kI hx a k := fun a k h => (ag.1 a k (hD a k h)).1
  have eL : ∀ a k, a = 23 ∨ a = 22 ∧ k = 1 → kL hx' a k = kL hx a k := fun a k h => (ag.1 a k (hD a k h)).2.1
  have eR : ∀ a k, a = 23 ∨ a = 22 ∧ k = 1 → kR hx' a k = kR hx a k := fun a k h => (ag.1 a k (hD a k h)).2.2
  have mI : ∀ a k, a = 4 ∨ a = 0 ∧ k = 5 → kI hm' a k = kI hm a k := fun a k h => (am.1 a k (hE a k h)).1
  have mL : ∀ a k, a = 4 ∨ a = 0 ∧ k = 5 → kL hm' a k = kL hm a k := fun a k h => (am.1 a k (hE a k h)).2.1
  have mN : ∀ a k, a = 4 ∨ a = 0 ∧ k = 5 → mn hm' a k = mn hm a k := fun a k h => mn_cg1 (mI a k h)
  unfold cTxt at c ⊢
  simp (disch := omega) only [eI, mI]
  exact c
theorem cAli.fr {D E : Nat → Nat → Prop} {hx hm hx' hm' : KH} (c : cAli hx hm) (ag : kAg D hx hx') (am : kAg E hm hm') (hD : ∀ a k, a = 25 → ¬ D a k) (hE : ∀ a k, a = 5 → ¬ E a k) : cAli hx' hm' := by
  have eI : ∀ a k, a = 25 → kI hx' a k = kI hx a k := fun a k h => (ag.1 a k (hD a k h)).1
  have eL : ∀ a k, a = 25 → kL hx' a k = kL hx a k := fun a k h => (ag.1 a k (hD a k h)).2.1
  have eR : ∀ a k, a = 25 → kR hx' a k = kR hx a k := fun a k h => (ag.1 a k (hD a k h)).2.2
  have mI : ∀ a k, a = 5 → kI hm' a k = kI hm a k := fun a k h => (am.1 a k (hE a k h)).1
  have mL : ∀ a k, a = 5 → kL hm' a k = kL hm a k := fun a k h => (am.1 a k (hE a k h)).2.1
  have mN : ∀ a k, a = 5 → mn hm' a k = mn hm a k := fun a k h => mn_cg1 (mI a k h)
  unfold cAli at c ⊢
  simp (disch := omega) only [eI, mI]
  exact c
theorem cPla.fr {D E : Nat → Nat → Prop} {hx hm hx' hm' : KH} (c : cPla hx hm) (ag : kAg D hx hx') (am : kAg E hm hm') (hD : ∀ a k, 100 ≤ a ∧ a < 180 ∧ a % 8 ≠ 7 ∧ ¬ (a % 8 = 4 ∧ k = 4) ∧ ¬ (a % 8 = 0 ∧ k = 2) ∧ a % 8 ≠ 1 ∧ a % 8 ≠ 2 ∨ a = 26 ∨ a = 0 ∧ k = 13 → ¬ D a k) (hE : ∀ a k, a = 6 ∨ a = 7 ∨ a = 8 ∨ a = 0 ∧ k = 8 → ¬ E a k) : cPla hx' hm' := by
  have eI : ∀ a k, 100 ≤ a ∧ a < 180 ∧ a % 8 ≠ 7 ∧ ¬ (a % 8 = 4 ∧ k = 4) ∧ ¬ (a % 8 = 0 ∧ k = 2) ∧ a % 8 ≠ 1 ∧ a % 8 ≠ 2 ∨ a = 26 ∨ a = 0 ∧ k = 13 → kI hx' a k = kI hx a k := fun a k h => (ag.1 a k (hD a k h)).1
  have eL : ∀ a k, 100 ≤ a ∧ a < 180 ∧ a % 8 ≠ 7 ∧ ¬ (a % 8 = 4 ∧ k = 4) ∧ ¬ (a % 8 = 0 ∧ k = 2) ∧ a % 8 ≠ 1 ∧ a % 8 ≠ 2 ∨ a = 26 ∨ a = 0 ∧ k = 13 → kL hx' a k = kL hx a k := fun a k h => (ag.1 a k (hD a k h)).2.1
  have eR : ∀ a k, 100 ≤ a ∧ a < 180 ∧ a % 8 ≠ 7 ∧ ¬ (a % 8 = 4 ∧ k = 4) ∧ ¬ (a % 8 = 0 ∧ k = 2) ∧ a % 8 ≠ 1 ∧ a % 8 ≠ 2 ∨ a = 26 ∨ a = 0 ∧ k = 13 → kR hx' a k = kR hx a k := fun a k h => (ag.1 a k (hD a k h)).2.2
  have mI : ∀ a k, a = 6 ∨ a = 7 ∨ a = 8 ∨ a = 0 ∧ k = 8 → kI hm' a k = kI hm a k := fun a k h => (am.1 a k (hE a k h)).1
  have mL : ∀ a k, a = 6 ∨ a = 7 ∨ a = 8 ∨ a = 0 ∧ k = 8 → kL hm' a k = kL hm a k := fun a k h => (am.1 a k (hE a k h)).2.1
  have mN : ∀ a k, a = 6 ∨ a = 7 ∨ a = 8 ∨ a = 0 ∧ k = 8 → mn hm' a k = mn hm a k := fun a k h => mn_cg1 (mI a k h)
  obtain ⟨⟨P, hP, c1, c2⟩, c3, c4⟩ := c
  have hPm : mn hm 0 8 = P := by unfold mn; rw [c2, nI_clamp (by omega)]
  refine ⟨⟨P, hP, by rw [eI _ _ (by omega)]; exact c1, by rw [mI _ _ (by omega)]; exact c2⟩, fun p hp => ?_, fun p q hp hq => ?_⟩
  · rw [mN _ _ (by omega)] at hp
    obtain ⟨⟨d1, d2, d3, d4, d5, d6, d7, d8, d9⟩, r, i1, i2, i3⟩ := c3 p hp
    unfold cPl1
    simp (disch := omega) only [eI, eR, mI]
    have e1 := ag.k (100 + 8 * p) (by omega)
    have e2 := ag.k (101 + 8 * p) (by omega)
    have e3 := ag.k (102 + 8 * p) (by omega)
    have e4 := ag.k (104 + 8 * p) (by omega)
    have e5 := ag.k (105 + 8 * p) (by omega)
    have e6 := ag.k (106 + 8 * p) (by omega)
    rw [e1.1, e2.1, e3.1, e3.2, e4.1, e5.1, e5.2, e6.1, e6.2]
    exact ⟨⟨d1, d2, d3, d4, d5, d6, d7, d8, d9⟩, r, i1, i2, i3⟩
  · rw [mN _ _ (by omega)] at hq
    rw [sTl_cg (mn_cg (fun k => mI 6 k (by omega))) (mn_cg (fun k => mI 7 k (by omega))), sTl_cg (mn_cg (fun k => mI 6 k (by omega))) (mn_cg (fun k => mI 7 k (by omega)))]
    exact c4 p q hp hq
theorem cOrd.fr {D E : Nat → Nat → Prop} {hx hm hx' hm' : KH} (c : cOrd hx hm) (ag : kAg D hx hx') (am : kAg E hm hm') (hD : ∀ a k, a = 27 → ¬ D a k) (hE : ∀ a k, a = 6 ∨ a = 7 ∨ a = 0 ∧ k = 8 → ¬ E a k) : cOrd hx' hm' := by
  have eI : ∀ a k, a = 27 → kI hx' a k = kI hx a k := fun a k h => (ag.1 a k (hD a k h)).1
  have eL : ∀ a k, a = 27 → kL hx' a k = kL hx a k := fun a k h => (ag.1 a k (hD a k h)).2.1
  have eR : ∀ a k, a = 27 → kR hx' a k = kR hx a k := fun a k h => (ag.1 a k (hD a k h)).2.2
  have mI : ∀ a k, a = 6 ∨ a = 7 ∨ a = 0 ∧ k = 8 → kI hm' a k = kI hm a k := fun a k h => (am.1 a k (hE a k h)).1
  have mL : ∀ a k, a = 6 ∨ a = 7 ∨ a = 0 ∧ k = 8 → kL hm' a k = kL hm a k := fun a k h => (am.1 a k (hE a k h)).2.1
  have mN : ∀ a k, a = 6 ∨ a = 7 ∨ a = 0 ∧ k = 8 → mn hm' a k = mn hm a k := fun a k h => mn_cg1 (mI a k h)
  obtain ⟨l, c1, c2, c3, c4⟩ := c
  refine ⟨l, by rw [mN _ _ (by omega)]; exact c1, fun p => by rw [mN _ _ (by omega)]; exact c2 p, c3.imp ?_, fun k hk => by rw [eR _ _ (by omega)]; exact c4 k hk⟩
  intro a b hab
  rw [sTl_cg (mn_cg (fun k => mI 6 k (by omega))) (mn_cg (fun k => mI 7 k (by omega))), sTl_cg (mn_cg (fun k => mI 6 k (by omega))) (mn_cg (fun k => mI 7 k (by omega)))]
  exact hab
theorem cHol.fr {D E : Nat → Nat → Prop} {hx hm hx' hm' : KH} {j : Nat} (hP : mn hm 0 8 ≤ 10) (c : cHol j hx hm) (ag : kAg D hx hx') (am : kAg E hm hm') (hD : ∀ a k, a % 8 = 7 ∧ 100 ≤ a ∧ a < 180 ∨ 1000 ≤ a ∧ a < 2000 ∨ a % 8 = 4 ∧ 100 ≤ a ∧ a < 180 ∧ k = 4 → ¬ D a k) (hE : ∀ a k, a = 9 ∨ a = 10 ∨ a = 11 ∨ a = 0 ∧ (k = 0 ∨ k = 8 ∨ k = 12) → ¬ E a k) : cHol j hx' hm' := by
  have eI : ∀ a k, a % 8 = 7 ∧ 100 ≤ a ∧ a < 180 ∨ 1000 ≤ a ∧ a < 2000 ∨ a % 8 = 4 ∧ 100 ≤ a ∧ a < 180 ∧ k = 4 → kI hx' a k = kI hx a k := fun a k h => (ag.1 a k (hD a k h)).1
  have eL : ∀ a k, a % 8 = 7 ∧ 100 ≤ a ∧ a < 180 ∨ 1000 ≤ a ∧ a < 2000 ∨ a % 8 = 4 ∧ 100 ≤ a ∧ a < 180 ∧ k = 4 → kL hx' a k = kL hx a k := fun a k h => (ag.1 a k (hD a k h)).2.1
  have eR : ∀ a k, a % 8 = 7 ∧ 100 ≤ a ∧ a < 180 ∨ 1000 ≤ a ∧ a < 2000 ∨ a % 8 = 4 ∧ 100 ≤ a ∧ a < 180 ∧ k = 4 → kR hx' a k = kR hx a k := fun a k h => (ag.1 a k (hD a k h)).2.2
  have mI : ∀ a k, a = 9 ∨ a = 10 ∨ a = 11 ∨ a = 0 ∧ (k = 0 ∨ k = 8 ∨ k = 12) → kI hm' a k = kI hm a k := fun a k h => (am.1 a k (hE a k h)).1
  have mL : ∀ a k, a = 9 ∨ a = 10 ∨ a = 11 ∨ a = 0 ∧ (k = 0 ∨ k = 8 ∨ k = 12) → kL hm' a k = kL hm a k := fun a k h => (am.1 a k (hE a k h)).2.1
  have mN : ∀ a k, a = 9 ∨ a = 10 ∨ a = 11 ∨ a = 0 ∧ (k = 0 ∨ k = 8 ∨ k = 12) → mn hm' a k = mn hm a k := fun a k h => mn_cg1 (mI a k h)
  obtain ⟨n, c1, c2, c3, c4⟩ := c
  refine ⟨n, c1, by rw [mI _ _ (by omega)]; exact c2, fun k hk => ?_, fun p hp => ?_⟩
  · simp (disch := omega) only [mI, mN]
    exact c3 k hk
  · rw [mN _ _ (by omega)] at hp
    obtain ⟨c5, c6, c7⟩ := c4 p hp
    have hcg := xDC_cg (h := hx) (h' := hx') (fun a ha hd => ⟨by rw [(ag.k a (by omega)).1]; exact hd, fun k => eI a k (by omega), fun k => eR a k (by omega)⟩) (j + 1) (kR hx (100 + 8 * p) 4) c6
    rw [eR _ _ (by omega)]
    refine ⟨c5, hcg.1, fun m => ?_⟩
    rw [hcg.2, c7, sHold_cg (fun k => mI 9 k (by omega)) (fun k => mI 10 k (by omega)) (fun k => mI 11 k (by omega))]
theorem cRea.fr {D E : Nat → Nat → Prop} {hx hm hx' hm' : KH} (c : cRea hx hm) (ag : kAg D hx hx') (am : kAg E hm hm') (hD : ∀ a k, 200 ≤ a ∧ a < 440 ∧ (a % 4 = 0 ∧ k ≤ 5 ∨ a % 4 = 1 ∨ a % 4 = 2) ∨ a = 28 ∨ a = 0 ∧ k = 14 → ¬ D a k) (hE : ∀ a k, a = 5 ∨ a = 6 ∨ a = 7 ∨ a = 12 ∨ a = 13 ∨ a = 14 ∨ a = 15 ∨ a = 16 ∨ a = 17 ∨ a = 0 ∧ (k = 16 ∨ k = 8) → ¬ E a k) : cRea hx' hm' := by
  have eI : ∀ a k, 200 ≤ a ∧ a < 440 ∧ (a % 4 = 0 ∧ k ≤ 5 ∨ a % 4 = 1 ∨ a % 4 = 2) ∨ a = 28 ∨ a = 0 ∧ k = 14 → kI hx' a k = kI hx a k := fun a k h => (ag.1 a k (hD a k h)).1
  have eL : ∀ a k, 200 ≤ a ∧ a < 440 ∧ (a % 4 = 0 ∧ k ≤ 5 ∨ a % 4 = 1 ∨ a % 4 = 2) ∨ a = 28 ∨ a = 0 ∧ k = 14 → kL hx' a k = kL hx a k := fun a k h => (ag.1 a k (hD a k h)).2.1
  have eR : ∀ a k, 200 ≤ a ∧ a < 440 ∧ (a % 4 = 0 ∧ k ≤ 5 ∨ a % 4 = 1 ∨ a % 4 = 2) ∨ a = 28 ∨ a = 0 ∧ k = 14 → kR hx' a k = kR hx a k := fun a k h => (ag.1 a k (hD a k h)).2.2
  have mI : ∀ a k, a = 5 ∨ a = 6 ∨ a = 7 ∨ a = 12 ∨ a = 13 ∨ a = 14 ∨ a = 15 ∨ a = 16 ∨ a = 17 ∨ a = 0 ∧ (k = 16 ∨ k = 8) → kI hm' a k = kI hm a k := fun a k h => (am.1 a k (hE a k h)).1
  have mL : ∀ a k, a = 5 ∨ a = 6 ∨ a = 7 ∨ a = 12 ∨ a = 13 ∨ a = 14 ∨ a = 15 ∨ a = 16 ∨ a = 17 ∨ a = 0 ∧ (k = 16 ∨ k = 8) → kL hm' a k = kL hm a k := fun a k h => (am.1 a k (hE a k h)).2.1
  have mN : ∀ a k, a = 5 ∨ a = 6 ∨ a = 7 ∨ a = 12 ∨ a = 13 ∨ a = 14 ∨ a = 15 ∨ a = 16 ∨ a = 17 ∨ a = 0 ∧ (k = 16 ∨ k = 8) → mn hm' a k = mn hm a k := fun a k h => mn_cg1 (mI a k h)
  obtain ⟨⟨R, hR, c1, c2⟩, c3, c4⟩ := c
  have hRm : mn hm 0 16 = R := by unfold mn; rw [c2, nI_clamp (by omega)]
  refine ⟨⟨R, hR, by rw [eI _ _ (by omega)]; exact c1, by rw [mI _ _ (by omega)]; exact c2⟩, fun r hr => ?_, fun r hr hr2 => by
    rw [mN _ _ (by omega)] at hr
    rw [mI _ _ (by omega)]
    exact c4 r hr hr2⟩
  rw [mN _ _ (by omega)] at hr
  have hc := c3 r hr
  obtain ⟨⟨d1, d2, d3, d4⟩, -⟩ := id hc
  unfold cRe1 at hc ⊢
  simp (disch := omega) only [eI, eR, mI, mN]
  rw [(sPF_cg (mI 0 8 (by omega)) (fun a ha k => mI a k (by omega))), (ag.k (200 + 4 * r) (by omega)).1, (ag.k (201 + 4 * r) (by omega)).1, (ag.k (202 + 4 * r) (by omega)).1, (ag.k (202 + 4 * r) (by omega)).2]
  exact hc
theorem cPas.fr {D E : Nat → Nat → Prop} {hx hm hx' hm' : KH} (hP : mn hm 0 8 ≤ 10) (c : cPas hx hm) (ag : kAg D hx hx') (am : kAg E hm hm') (hD : ∀ a k, 100 ≤ a ∧ a < 180 ∧ (a % 8 = 0 ∧ k = 2 ∨ a % 8 = 1 ∨ a % 8 = 2) → ¬ D a k) (hE : ∀ a k, a = 2 ∨ a = 5 ∨ a = 6 ∨ a = 7 ∨ a = 12 ∨ a = 13 ∨ a = 14 ∨ a = 15 ∨ a = 16 ∨ a = 17 ∨ a = 0 ∧ (k = 16 ∨ k = 8 ∨ k = 1) → ¬ E a k) : cPas hx' hm' := by
  have eI : ∀ a k, 100 ≤ a ∧ a < 180 ∧ (a % 8 = 0 ∧ k = 2 ∨ a % 8 = 1 ∨ a % 8 = 2) → kI hx' a k = kI hx a k := fun a k h => (ag.1 a k (hD a k h)).1
  have eL : ∀ a k, 100 ≤ a ∧ a < 180 ∧ (a % 8 = 0 ∧ k = 2 ∨ a % 8 = 1 ∨ a % 8 = 2) → kL hx' a k = kL hx a k := fun a k h => (ag.1 a k (hD a k h)).2.1
  have eR : ∀ a k, 100 ≤ a ∧ a < 180 ∧ (a % 8 = 0 ∧ k = 2 ∨ a % 8 = 1 ∨ a % 8 = 2) → kR hx' a k = kR hx a k := fun a k h => (ag.1 a k (hD a k h)).2.2
  have mI : ∀ a k, a = 2 ∨ a = 5 ∨ a = 6 ∨ a = 7 ∨ a = 12 ∨ a = 13 ∨ a = 14 ∨ a = 15 ∨ a = 16 ∨ a = 17 ∨ a = 0 ∧ (k = 16 ∨ k = 8 ∨ k = 1) → kI hm' a k = kI hm a k := fun a k h => (am.1 a k (hE a k h)).1
  have mL : ∀ a k, a = 2 ∨ a = 5 ∨ a = 6 ∨ a = 7 ∨ a = 12 ∨ a = 13 ∨ a = 14 ∨ a = 15 ∨ a = 16 ∨ a = 17 ∨ a = 0 ∧ (k = 16 ∨ k = 8 ∨ k = 1) → kL hm' a k = kL hm a k := fun a k h => (am.1 a k (hE a k h)).2.1
  have mN : ∀ a k, a = 2 ∨ a = 5 ∨ a = 6 ∨ a = 7 ∨ a = 12 ∨ a = 13 ∨ a = 14 ∨ a = 15 ∨ a = 16 ∨ a = 17 ∨ a = 0 ∧ (k = 16 ∨ k = 8 ∨ k = 1) → mn hm' a k = mn hm a k := fun a k h => mn_cg1 (mI a k h)
  intro p hp
  rw [mN _ _ (by omega)] at hp
  obtain ⟨l, c1, c2, c3⟩ := c p hp
  refine ⟨l, sRow_cg (fun r => (sPF_cg (mI 0 8 (by omega)) (fun a ha k => mI a k (by omega))) r) (mI 0 16 (by omega)) (fun k => mI 13 k (by omega)) c1, by rw [eI _ _ (by omega)]; exact c2, fun k hk => ?_⟩
  rw [eR _ _ (by omega), eI _ _ (by omega), sBegAt_cg (mI 0 1 (by omega)) (fun k => mI 2 k (by omega)) (fun k => mI 12 k (by omega)) (fun k => mI 13 k (by omega))]
  exact c3 k hk
theorem cBil.fr {D E : Nat → Nat → Prop} {hx hm hx' hm' : KH} (c : cBil hx hm) (ag : kAg D hx hx') (am : kAg E hm hm') (hD : ∀ a k, a = 31 ∨ a = 32 ∨ a = 35 → ¬ D a k) (hE : ∀ a k, a = 20 ∨ a = 21 → ¬ E a k) : cBil hx' hm' := by
  have eI : ∀ a k, a = 31 ∨ a = 32 ∨ a = 35 → kI hx' a k = kI hx a k := fun a k h => (ag.1 a k (hD a k h)).1
  have eL : ∀ a k, a = 31 ∨ a = 32 ∨ a = 35 → kL hx' a k = kL hx a k := fun a k h => (ag.1 a k (hD a k h)).2.1
  have eR : ∀ a k, a = 31 ∨ a = 32 ∨ a = 35 → kR hx' a k = kR hx a k := fun a k h => (ag.1 a k (hD a k h)).2.2
  have mI : ∀ a k, a = 20 ∨ a = 21 → kI hm' a k = kI hm a k := fun a k h => (am.1 a k (hE a k h)).1
  have mL : ∀ a k, a = 20 ∨ a = 21 → kL hm' a k = kL hm a k := fun a k h => (am.1 a k (hE a k h)).2.1
  have mN : ∀ a k, a = 20 ∨ a = 21 → mn hm' a k = mn hm a k := fun a k h => mn_cg1 (mI a k h)
  obtain ⟨c, c'⟩ := c
  refine ⟨fun d hd => ?_, fun k hk => ?_⟩
  · rw [eL _ _ (by omega), eL _ _ (by omega), mL _ _ (by omega), mL _ _ (by omega)]
    exact c d hd
  · rw [eI _ _ (by omega)]
    exact c' k hk
theorem cWar.fr {D E : Nat → Nat → Prop} {hx hm hx' hm' : KH} (c : cWar hx hm) (ag : kAg D hx hx') (am : kAg E hm hm') (hD : ∀ a k, 500 ≤ a ∧ a < 508 ∨ a = 29 ∨ a = 0 ∧ k = 15 → ¬ D a k) (hE : ∀ a k, a = 22 ∨ a = 23 ∨ a = 24 ∨ a = 0 ∧ (k = 27 ∨ k = 8) → ¬ E a k) : cWar hx' hm' := by
  have eI : ∀ a k, 500 ≤ a ∧ a < 508 ∨ a = 29 ∨ a = 0 ∧ k = 15 → kI hx' a k = kI hx a k := fun a k h => (ag.1 a k (hD a k h)).1
  have eL : ∀ a k, 500 ≤ a ∧ a < 508 ∨ a = 29 ∨ a = 0 ∧ k = 15 → kL hx' a k = kL hx a k := fun a k h => (ag.1 a k (hD a k h)).2.1
  have eR : ∀ a k, 500 ≤ a ∧ a < 508 ∨ a = 29 ∨ a = 0 ∧ k = 15 → kR hx' a k = kR hx a k := fun a k h => (ag.1 a k (hD a k h)).2.2
  have mI : ∀ a k, a = 22 ∨ a = 23 ∨ a = 24 ∨ a = 0 ∧ (k = 27 ∨ k = 8) → kI hm' a k = kI hm a k := fun a k h => (am.1 a k (hE a k h)).1
  have mL : ∀ a k, a = 22 ∨ a = 23 ∨ a = 24 ∨ a = 0 ∧ (k = 27 ∨ k = 8) → kL hm' a k = kL hm a k := fun a k h => (am.1 a k (hE a k h)).2.1
  have mN : ∀ a k, a = 22 ∨ a = 23 ∨ a = 24 ∨ a = 0 ∧ (k = 27 ∨ k = 8) → mn hm' a k = mn hm a k := fun a k h => mn_cg1 (mI a k h)
  obtain ⟨⟨W, hW, c1, c2⟩, c3⟩ := c
  have hWm : mn hm 0 27 = W := by unfold mn; rw [c2, nI_clamp (by omega)]
  refine ⟨⟨W, hW, by rw [eI _ _ (by omega)]; exact c1, by rw [mI _ _ (by omega)]; exact c2⟩, fun w hw => ?_⟩
  rw [mN _ _ (by omega)] at hw
  have hc := c3 w hw
  have d1 := hc.1
  unfold cWa1 at hc ⊢
  simp (disch := omega) only [eI, eR, mI, mN]
  rw [(ag.k (500 + w) (by omega)).1]
  exact hc
theorem cAns.fr {D E : Nat → Nat → Prop} {hx hm hx' hm' : KH} (c : cAns hx hm) (ag : kAg D hx hx') (am : kAg E hm hm') (hD : ∀ a k, 600 ≤ a ∧ a < 640 ∨ a = 30 ∨ a = 0 ∧ k = 16 → ¬ D a k) (hE : ∀ a k, a = 25 ∨ a = 26 ∨ a = 27 ∨ a = 0 ∧ (k = 31 ∨ k = 27) → ¬ E a k) : cAns hx' hm' := by
  have eI : ∀ a k, 600 ≤ a ∧ a < 640 ∨ a = 30 ∨ a = 0 ∧ k = 16 → kI hx' a k = kI hx a k := fun a k h => (ag.1 a k (hD a k h)).1
  have eL : ∀ a k, 600 ≤ a ∧ a < 640 ∨ a = 30 ∨ a = 0 ∧ k = 16 → kL hx' a k = kL hx a k := fun a k h => (ag.1 a k (hD a k h)).2.1
  have eR : ∀ a k, 600 ≤ a ∧ a < 640 ∨ a = 30 ∨ a = 0 ∧ k = 16 → kR hx' a k = kR hx a k := fun a k h => (ag.1 a k (hD a k h)).2.2
  have mI : ∀ a k, a = 25 ∨ a = 26 ∨ a = 27 ∨ a = 0 ∧ (k = 31 ∨ k = 27) → kI hm' a k = kI hm a k := fun a k h => (am.1 a k (hE a k h)).1
  have mL : ∀ a k, a = 25 ∨ a = 26 ∨ a = 27 ∨ a = 0 ∧ (k = 31 ∨ k = 27) → kL hm' a k = kL hm a k := fun a k h => (am.1 a k (hE a k h)).2.1
  have mN : ∀ a k, a = 25 ∨ a = 26 ∨ a = 27 ∨ a = 0 ∧ (k = 31 ∨ k = 27) → mn hm' a k = mn hm a k := fun a k h => mn_cg1 (mI a k h)
  obtain ⟨⟨N, hN, c1, c2⟩, c3⟩ := c
  have hNm : mn hm 0 31 = N := by unfold mn; rw [c2, nI_clamp (by omega)]
  refine ⟨⟨N, hN, by rw [eI _ _ (by omega)]; exact c1, by rw [mI _ _ (by omega)]; exact c2⟩, fun n hn => ?_⟩
  rw [mN _ _ (by omega)] at hn
  have hc := c3 n hn
  have d1 := hc.1
  unfold cAn1 at hc ⊢
  simp (disch := omega) only [eI, eR, mI, mN]
  rw [(ag.k (600 + n) (by omega)).1]
  exact hc
