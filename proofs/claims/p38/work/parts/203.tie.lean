/-! the law's rows beside the model's cells -/
def ptx (g : KH) (p : Nat) : Nat := pkT (fun k => mn g 7 (6 * p + k)) (mn g 6 p)
def rtx (g : KH) (r : Nat) : Nat := pkT (fun k => mn g 15 (6 * r + k)) (mn g 14 r)
def tld (g : KH) (r : Nat) : Nat := if kI g 17 r = -1 then 0 else mn g 17 r + 1
def rbt (g : KH) (r : Nat) : Nat := mn g 12 r + mn g 13 r * 8 + if mn g 16 r = 0 then 0 else 524288 + tld g r * 1048576
def TTk (h : KH) : Prop := (kd h 42 = 31 ∧ kn h 42 = 11) ∧ (kd h 43 = 31 ∧ kn h 43 = 60) ∧ (kd h 44 = 31 ∧ kn h 44 = 60) ∧ (kd h 45 = 31 ∧ kn h 45 = 10) ∧ (kd h 46 = 31 ∧ kn h 46 = 15) ∧ (kd h 47 = 31 ∧ kn h 47 = 4) ∧ (kd h 48 = 31 ∧ kn h 48 = 64) ∧ (kd h 49 = 31 ∧ kn h 49 = 4)
def TTt (h g : KH) : Prop := kI h 42 0 = nI (pkT (mn g 4) (mn g 0 5)) ∧ ∀ p, p < mn g 0 8 → kI h 42 (1 + p) = nI (ptx g p)
def TTr (h g : KH) : Prop := ∀ r, r < mn g 0 16 → kI h 43 r = nI (rtx g r) ∧ kI h 44 r = nI (rbt g r)
def TTa (h g : KH) : Prop := ∀ s, s < 15 → ∃ M, M < 32768 ∧ kI h 46 s = nI M ∧ ∀ b, b < 15 → (M.testBit b = true ↔ mn g 5 (15 * s + b) ≠ 0)
def TTc (h g : KH) : Prop := kI h 47 0 = kI g 0 0 ∧ kI h 47 1 = kI g 0 1 ∧ kI h 47 2 = kI g 0 8 ∧ kI h 47 3 = kI g 0 16
def TT (h g : KH) : Prop := TTk h ∧ TTt h g ∧ TTr h g ∧ (∀ p, p < mn g 0 8 → kI h 45 p = kI g 8 p) ∧ TTa h g ∧ TTc h g ∧ (∀ q, q < 64 → kI h 48 q = kI g 1 q) ∧ ∀ k, k < 4 → kI h 49 k = kI g 3 k
theorem TTk.kind {h : KH} (T : TTk h) : ∀ a, 42 ≤ a → a < 50 → kd h a = 31 := by
  intro a h1 h2
  obtain ⟨t1, t2, t3, t4, t5, t6, t7, t8⟩ := T
  have : a = 42 ∨ a = 43 ∨ a = 44 ∨ a = 45 ∨ a = 46 ∨ a = 47 ∨ a = 48 ∨ a = 49 := by omega
  rcases this with rfl | rfl | rfl | rfl | rfl | rfl | rfl | rfl
  · exact t1.1
  · exact t2.1
  · exact t3.1
  · exact t4.1
  · exact t5.1
  · exact t6.1
  · exact t7.1
  · exact t8.1
theorem TTk.fl {h h1 : KH} (T : TTk h) (f : FL h h1) : TTk h1 := by
  have e : ∀ a, 42 ≤ a → a < 50 → kd h1 a = kd h a ∧ kn h1 a = kn h a := fun a q1 q2 => ⟨(f a (Or.inl (T.kind a q1 q2))).1, (f a (Or.inl (T.kind a q1 q2))).2.1⟩
  obtain ⟨t1, t2, t3, t4, t5, t6, t7, t8⟩ := T
  refine ⟨?_, ?_, ?_, ?_, ?_, ?_, ?_, ?_⟩
  · rw [(e 42 (by omega) (by omega)).1, (e 42 (by omega) (by omega)).2]; exact t1
  · rw [(e 43 (by omega) (by omega)).1, (e 43 (by omega) (by omega)).2]; exact t2
  · rw [(e 44 (by omega) (by omega)).1, (e 44 (by omega) (by omega)).2]; exact t3
  · rw [(e 45 (by omega) (by omega)).1, (e 45 (by omega) (by omega)).2]; exact t4
  · rw [(e 46 (by omega) (by omega)).1, (e 46 (by omega) (by omega)).2]; exact t5
  · rw [(e 47 (by omega) (by omega)).1, (e 47 (by omega) (by omega)).2]; exact t6
  · rw [(e 48 (by omega) (by omega)).1, (e 48 (by omega) (by omega)).2]; exact t7
  · rw [(e 49 (by omega) (by omega)).1, (e 49 (by omega) (by omega)).2]; exact t8
/-- the rows' contents are the same -/
theorem TTk.eI {h h1 : KH} (T : TTk h) (f : FL h h1) : ∀ a k, 42 ≤ a → a < 50 → kI h1 a k = kI h a k := fun a k q1 q2 => (f a (Or.inl (T.kind a q1 q2))).2.2 k
theorem TT.fl {h h1 g : KH} (T : TT h g) (f : FL h h1) : TT h1 g := by
  have e := T.1.eI f
  obtain ⟨t1, ⟨t2, t3⟩, t4, t5, t6, ⟨c0, c1, c2, c3⟩, t8, t9⟩ := T
  refine ⟨t1.fl f, ⟨by rw [e 42 0 (by omega) (by omega)]; exact t2, fun p hp => by rw [e 42 _ (by omega) (by omega)]; exact t3 p hp⟩, fun r hr => by rw [e 43 _ (by omega) (by omega), e 44 _ (by omega) (by omega)]; exact t4 r hr, fun p hp => by rw [e 45 _ (by omega) (by omega)]; exact t5 p hp, fun s hs => by rw [e 46 _ (by omega) (by omega)]; exact t6 s hs, ⟨?_, ?_, ?_, ?_⟩, fun q hq => by rw [e 48 _ (by omega) (by omega)]; exact t8 q hq, fun k hk => by rw [e 49 _ (by omega) (by omega)]; exact t9 k hk⟩
  · rw [e 47 0 (by omega) (by omega)]; exact c0
  · rw [e 47 1 (by omega) (by omega)]; exact c1
  · rw [e 47 2 (by omega) (by omega)]; exact c2
  · rw [e 47 3 (by omega) (by omega)]; exact c3
theorem TT.X {h g : KH} (T : TT h g) (n : Nat) : TT (sX h n) g := T.fl (FL.X h n)
/-- the class's cells aren't the law's -/
theorem RR.lw {D : Nat → Nat → Prop} {j : Nat} {hx hm hx' : KH} (R : RR j hx hm) (ag : kAg D hx hx') (hD : ∀ a k, D a k → 40 ≤ a ∧ a < 100 ∨ 640 ≤ a ∧ a < 1000 ∨ 1000000 ≤ a) (hd : ∀ a, kd hx a = 0 → kd hx' a ≠ 0 → 40 ≤ a ∧ a < 100 ∨ 640 ≤ a ∧ a < 1000) : RR j hx' hm := by
  have hP := R.P
  have am := kAg.rf hm
  obtain ⟨⟨sx, sm⟩, c1, c2, c3, c4, c5, c6, c7, c8, c9, c10, c11, c12, c13, c14, c15, c16⟩ := R
  refine ⟨⟨sx.fr ag ?_, sm⟩, c1.fr ag am ?_ ?_, c2.fr ag am ?_ ?_, c3.fr ag am ?_ ?_, c4.fr ag am ?_ ?_, c5.fr ag am ?_ ?_, c6.fr ag am ?_ ?_, c7.fr ag am ?_ ?_, c8.fr ag am ?_ ?_, c9.fr ag am ?_ ?_, c10.fr hP ag am ?_ ?_, c11.fr ag am ?_ ?_, c12.fr hP ag am ?_ ?_, c13.fr ag am ?_ ?_, c14.fr ag am ?_ ?_, c15.fr ag am ?_ ?_, fun a ha => ?_⟩
  all_goals first
    | (intro a k h1 h2; have := hD a k h2; omega)
    | (intro a k h1 h2; exact h2)
    | skip
  by_cases q : kd hx' a = 0
  · exact q
  · have := hd a (c16 a ha) q
    omega
theorem RR.lI {j : Nat} {hx hm : KH} (R : RR j hx hm) {a k : Nat} {v : Int32} (ha : 40 ≤ a ∧ a < 100 ∨ 640 ≤ a ∧ a < 1000) : RR j (sI hx a k v) hm := R.lw (kAg.I hx a k v) (fun b i q => by omega) (fun b q1 q2 => absurd q1 q2)
theorem RR.mono {j j' : Nat} {hx hm : KH} (R : RR j hx hm) (h : j ≤ j') : RR j' hx hm := by
  induction h with
  | refl => exact R
  | step _ ih => exact ih.up
