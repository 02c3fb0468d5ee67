theorem xDl_pos : ∀ a, a < 36 → xDl.getD a 0 ≠ 0 := by decide
theorem mDl_pos : ∀ a, a < 28 → mDl.getD a 0 ≠ 0 := by decide
theorem kSx.fr {D : Nat → Nat → Prop} {hx hx' : KH} (S : kSx hx) (ag : kAg D hx hx') (hD : ∀ a k, a = 0 ∧ k < 12 ∨ a = 1 ∧ k < 3 ∨ a = 2 ∨ a = 11 ∨ a = 22 ∧ k = 0 ∨ a = 24 ∧ k = 0 ∨ a = 33 ∧ k < 2 → ¬ D a k) : kSx hx' := by
  obtain ⟨s1, s2, s3, s4, s5, s6, s7, s8⟩ := S
  have eR : ∀ a k, a = 0 ∧ k < 12 ∨ a = 1 ∧ k < 3 ∨ a = 2 ∨ a = 11 ∨ a = 22 ∧ k = 0 ∨ a = 24 ∧ k = 0 ∨ a = 33 ∧ k < 2 → kR hx' a k = kR hx a k := fun a k h => (ag.1 a k (hD a k h)).2.2
  refine ⟨fun a ha => ?_, fun k hk => ?_, fun k hk => ?_, fun k hk => ?_, fun k hk => ?_, fun k hk => ?_, fun k hk => ?_, fun k hk => ?_⟩
  · obtain ⟨e1, e2⟩ := ag.k a (by rw [(s1 a ha).1]; exact xDl_pos a ha)
    rw [e1, e2]
    exact s1 a ha
  · rw [eR _ _ (by omega)]; exact s2 k hk
  · rw [eR _ _ (by omega)]; exact s3 k hk
  · rw [eR _ _ (by omega)]; exact s4 k hk
  · rw [eR _ _ (by omega)]; exact s5 k hk
  · rw [eR _ _ (by omega)]; exact s6 k hk
  · rw [eR _ _ (by omega)]; exact s7 k hk
  · rw [eR _ _ (by omega)]; exact s8 k hk
def kMf (k : Nat) : Prop := k = 2 ∨ k = 3 ∨ k = 4 ∨ k = 6 ∨ k = 7 ∨ 9 ≤ k ∧ k ≤ 11 ∨ 13 ≤ k ∧ k ≤ 15 ∨ 17 ≤ k ∧ k ≤ 26 ∨ 28 ≤ k ∧ k ≤ 30 ∨ 32 ≤ k ∧ k ≤ 34
theorem mRl_f : ∀ k, k < 36 → mRl.getD k none ≠ none → (k = 2 ∨ k = 3 ∨ k = 4 ∨ k = 6 ∨ k = 7 ∨ 9 ≤ k ∧ k ≤ 11 ∨ 13 ≤ k ∧ k ≤ 15 ∨ 17 ≤ k ∧ k ≤ 26 ∨ 28 ≤ k ∧ k ≤ 30 ∨ 32 ≤ k ∧ k ≤ 34) := by decide
theorem kSm.fr {E : Nat → Nat → Prop} {hm hm' : KH} (S : kSm hm) (am : kAg E hm hm') (hE : ∀ a k, a = 0 ∧ (k = 2 ∨ k = 3 ∨ k = 4 ∨ k = 6 ∨ k = 7 ∨ 9 ≤ k ∧ k ≤ 11 ∨ 13 ≤ k ∧ k ≤ 15 ∨ 17 ≤ k ∧ k ≤ 26 ∨ 28 ≤ k ∧ k ≤ 30 ∨ 32 ≤ k ∧ k ≤ 34) → ¬ E a k) : kSm hm' := by
  obtain ⟨s1, s2⟩ := S
  refine ⟨fun a ha => ?_, fun k hk hn => ?_⟩
  · obtain ⟨e1, e2⟩ := am.k a (by rw [(s1 a ha).1]; exact mDl_pos a ha)
    rw [e1, e2]
    exact s1 a ha
  · rw [(am.1 0 k (hE 0 k ⟨rfl, mRl_f k hk hn⟩)).2.2]
    exact s2 k hk hn
theorem cFre.fr {E : Nat → Nat → Prop} {hx hm hx' hm' : KH} {j j' : Nat} (c : cFre j hx hm) (hd : ∀ a, kd hx a = 0 → kd hx' a = 0) (am : kAg E hm hm') (hE : ∀ a k, a = 0 ∧ (k = 8 ∨ k = 16 ∨ k = 27 ∨ k = 31) → ¬ E a k) (hj : j ≤ j') : cFre j' hx' hm' := by
  intro a ha
  have mN : ∀ a k, a = 0 ∧ (k = 8 ∨ k = 16 ∨ k = 27 ∨ k = 31) → mn hm' a k = mn hm a k := fun a k h => mn_cg1 (am.1 a k (hE a k h)).1
  rw [mN 0 8 (by omega), mN 0 16 (by omega), mN 0 27 (by omega), mN 0 31 (by omega)] at ha
  exact hd a (c a (by omega))
theorem xChn_mono {h : KH} : ∀ (n : Nat) (o : Option Nat), xChn h n o → xChn h (n + 1) o ∧ ∀ m, xDrv h m (n + 1) o = xDrv h m n o := by
  intro n
  induction n with
  | zero =>
    intro o c
    obtain rfl : o = none := c
    exact ⟨trivial, fun m => rfl⟩
  | succ n ih =>
    intro o c
    cases o with
    | none => exact ⟨trivial, fun m => rfl⟩
    | some a =>
      obtain ⟨c1, c2, c3, c4, c5⟩ := c
      obtain ⟨i1, i2⟩ := ih _ c5
      refine ⟨⟨c1, c2, c3, c4, i1⟩, fun m => ?_⟩
      show (if _ then _ else _) = (if _ then _ else _)
      rw [i2]
theorem cHol.up {j : Nat} {hx hm : KH} (c : cHol j hx hm) : cHol (j + 1) hx hm := by
  obtain ⟨n, c1, c2, c3, c4⟩ := c
  refine ⟨n, by omega, c2, c3, fun p hp => ?_⟩
  obtain ⟨c5, c6, c7⟩ := c4 p hp
  obtain ⟨i1, i2⟩ := xChn_mono _ _ c6
  exact ⟨c5, i1, fun m => by rw [i2]; exact c7 m⟩
theorem RR.P {j : Nat} {hx hm : KH} (R : RR j hx hm) : mn hm 0 8 ≤ 10 := by
  obtain ⟨-, -, -, -, -, -, -, -, ⟨⟨P, hP, -, e⟩, -⟩, -⟩ := R
  unfold mn
  rw [e, nI_clamp (by omega)]
  exact hP
theorem RR.up {j : Nat} {hx hm : KH} (R : RR j hx hm) : RR (j + 1) hx hm := by
  obtain ⟨s, c1, c2, c3, c4, c5, c6, c7, c8, c9, c10, c11, c12, c13, c14, c15, c16⟩ := R
  exact ⟨s, c1, c2, c3, c4, c5, c6, c7, c8, c9, c10.up, c11, c12, c13, c14, c15, fun a ha => c16 a (by omega)⟩
/-- nothing that counts is written -/
theorem RR.fr {D E : Nat → Nat → Prop} {j : Nat} {hx hm hx' hm' : KH} (R : RR j hx hm) (ag : kAg D hx hx') (am : kAg E hm hm') (hd : ∀ a, kd hx a = 0 → kd hx' a = 0)
    (hD : ∀ a k, D a k → a = 36 ∨ a = 20 ∨ a = 34 ∨ a = 33 ∧ k = 2) (hE : ∀ a k, E a k → a = 18 ∨ a = 19 ∨ a = 0 ∧ k = 35) : RR j hx' hm' := by
  have hP := R.P
  obtain ⟨⟨sx, sm⟩, c1, c2, c3, c4, c5, c6, c7, c8, c9, c10, c11, c12, c13, c14, c15, c16⟩ := R
  refine ⟨⟨sx.fr ag ?_, sm.fr am ?_⟩, c1.fr ag am ?_ ?_, c2.fr ag am ?_ ?_, c3.fr ag am ?_ ?_, c4.fr ag am ?_ ?_, c5.fr ag am ?_ ?_, c6.fr ag am ?_ ?_, c7.fr ag am ?_ ?_, c8.fr ag am ?_ ?_, c9.fr ag am ?_ ?_, c10.fr hP ag am ?_ ?_, c11.fr ag am ?_ ?_, c12.fr hP ag am ?_ ?_, c13.fr ag am ?_ ?_, c14.fr ag am ?_ ?_, c15.fr ag am ?_ ?_, c16.fr hd am ?_ (Nat.le_refl _)⟩
  all_goals first
    | (intro a k h1 h2; have := hD a k h2; omega)
    | (intro a k h1 h2; have := hE a k h2; omega)
theorem RR.out {j : Nat} {hx hm : KH} (R : RR j hx hm) (v : Int64) : RR j (sL hx 36 0 v) hm := R.fr (kAg.L hx 36 0 v) (kAg.rf hm) (fun _ h => h) (fun a k h => by omega) (fun a k h => h.elim)
theorem RR.thr {j : Nat} {hx hm : KH} (R : RR j hx hm) (v : Int32) : RR j hx (sI hm 0 35 v) := R.fr (kAg.rf hx) (kAg.I hm 0 35 v) (fun _ h => h) (fun a k h => h.elim) (fun a k h => by omega)
/-- one call of both, at the next address N -/
def OPK {τ : Type} (N : Nat) (fX fM : Int32 → Int32 → Int32 → KH → KO τ) (mp : Nat → Option Int32) (j j' : Nat) (hx hm : KH) (a b c : Int32) : Prop :=
    (∃ (v : τ) (hx1 hm1 : KH), fX a b c (sX hx N) = kret v hx1 ∧ fM a b c hm = kret v hm1 ∧ kI hm1 0 35 = 0 ∧ RR j' hx1 hm1) ∨
    (∃ (e : Nat) (kx : Int32) (bv : τ) (hx1 hm1 : KH), fX a b c (sX hx N) = kthrow e hx1 ∧ mp e = some kx ∧ kx ≠ 0 ∧ fM a b c hm = kret bv hm1 ∧ kI hm1 0 35 = kx ∧ RR j' hx1 hm1)
def OP1 {τ : Type} (fX fM : Int32 → Int32 → Int32 → KH → KO τ) (mp : Nat → Option Int32) (j : Nat) (hx hm : KH) (a b c : Int32) : Prop := OPK 0 fX fM mp j (j + 1) hx hm a b c
def OPI {τ : Type} (fX fM : Int32 → Int32 → Int32 → KH → KO τ) (mp : Nat → Option Int32) : Prop :=
  ∀ (j : Nat) (hx hm : KH) (a b c : Int32), j < 512 → RR j hx hm → OP1 fX fM mp j hx hm a b c
def OPN {τ : Type} (N : Nat → KH → Nat) (fX fM : Int32 → Int32 → Int32 → KH → KO τ) (mp : Nat → Option Int32) : Prop :=
  ∀ (j : Nat) (hx hm : KH) (a b c : Int32), j < 512 → RR j hx hm → OPK (N j hm) fX fM mp j (j + 1) hx hm a b c
def OPR {τ : Type} (fX fM : Int32 → Int32 → Int32 → KH → KO τ) (mp : Nat → Option Int32) : Prop :=
  ∀ (j : Nat) (hx hm : KH) (a b c : Int32), j < 512 → RR j hx hm → OPK 0 fX fM mp j j hx hm a b c
theorem RR.X {j : Nat} {hx hm : KH} (R : RR j hx hm) (n : Nat) : RR j (sX hx n) hm := R.fr (kAg.X hx n) (kAg.rf hm) (fun _ h => h) (fun a k h => h.elim) (fun a k h => h.elim)
theorem op_noK {τ : Type} {N : Nat} {fX fM : Int32 → Int32 → Int32 → KH → KO τ} {mp : Nat → Option Int32} {j j' : Nat} {hx hm : KH} {a b c : Int32} (R : RR j hx hm) (up : ∀ hx hm, RR j hx hm → RR j' hx hm) (e : Nat) (kx : Int32) (bv : τ) (h2 : mp e = some kx) (h3 : kx ≠ 0) (h1 : fX a b c (sX hx N) = kthrow e (sX hx N)) (h4 : fM a b c hm = kret bv (sI hm 0 35 kx)) : OPK N fX fM mp j j' hx hm a b c :=
  Or.inr ⟨e, kx, bv, sX hx N, sI hm 0 35 kx, h1, h2, h3, h4, by rw [kI_sI, if_pos ⟨rfl, rfl⟩], up _ _ ((R.X N).thr kx)⟩
theorem op_no {τ : Type} {fX fM : Int32 → Int32 → Int32 → KH → KO τ} {mp : Nat → Option Int32} {j : Nat} {hx hm : KH} {a b c : Int32} (R : RR j hx hm) (e : Nat) (kx : Int32) (bv : τ) (h2 : mp e = some kx) (h3 : kx ≠ 0) (h1 : fX a b c (sX hx 0) = kthrow e (sX hx 0)) (h4 : fM a b c hm = kret bv (sI hm 0 35 kx)) : OP1 fX fM mp j hx hm a b c := op_noK R (fun _ _ r => r.up) e kx bv h2 h3 h1 h4
theorem op_noN {τ : Type} {N : Nat} {fX fM : Int32 → Int32 → Int32 → KH → KO τ} {mp : Nat → Option Int32} {j : Nat} {hx hm : KH} {a b c : Int32} (R : RR j hx hm) (e : Nat) (kx : Int32) (bv : τ) (h2 : mp e = some kx) (h3 : kx ≠ 0) (h1 : fX a b c (sX hx N) = kthrow e (sX hx N)) (h4 : fM a b c hm = kret bv (sI hm 0 35 kx)) : OPK N fX fM mp j (j + 1) hx hm a b c := op_noK R (fun _ _ r => r.up) e kx bv h2 h3 h1 h4
theorem op_noR {τ : Type} {N : Nat} {fX fM : Int32 → Int32 → Int32 → KH → KO τ} {mp : Nat → Option Int32} {j : Nat} {hx hm : KH} {a b c : Int32} (R : RR j hx hm) (e : Nat) (kx : Int32) (bv : τ) (h2 : mp e = some kx) (h3 : kx ≠ 0) (h1 : fX a b c (sX hx N) = kthrow e (sX hx N)) (h4 : fM a b c hm = kret bv (sI hm 0 35 kx)) : OPK N fX fM mp j j hx hm a b c := op_noK R (fun _ _ r => r) e kx bv h2 h3 h1 h4
theorem op_rd {τ : Type} {fX fM : Int32 → Int32 → Int32 → KH → KO τ} {mp : Nat → Option Int32} {j : Nat} {hx hm : KH} {a b c : Int32} (R : RR j hx hm) (v : τ) (h1 : fX a b c (sX hx 0) = kret v (sX hx 0)) (h4 : fM a b c hm = kret v (sI hm 0 35 0)) : OP1 fX fM mp j hx hm a b c :=
  Or.inl ⟨v, sX hx 0, sI hm 0 35 0, h1, h4, by rw [kI_sI, if_pos ⟨rfl, rfl⟩], ((R.X 0).thr 0).up⟩
theorem op_ok {τ : Type} {fX fM : Int32 → Int32 → Int32 → KH → KO τ} {mp : Nat → Option Int32} {j j' : Nat} {hx hm hx1 hm1 : KH} {a b c : Int32} (n : Nat) (v : τ) (h1 : fX a b c (sX hx n) = kret v hx1) (h4 : fM a b c hm = kret v hm1) (h5 : kI hm1 0 35 = 0) (R1 : RR j' hx1 hm1) : OPK n fX fM mp j j' hx hm a b c :=
  Or.inl ⟨v, hx1, hm1, h1, h4, h5, R1⟩
