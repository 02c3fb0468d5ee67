/-! joins: the trips of a row, as the model finds them -/
def cB (g : KH) (l : List Nat) : Nat → Nat
  | 0 => 0
  | k + 1 => cB g l k + if sBegAt g l k = true then 1 else 0
theorem cB_pos (g : KH) (l : List Nat) (k : Nat) : 1 ≤ cB g l (k + 1) := by
  induction k with
  | zero => show 1 ≤ 0 + 1; omega
  | succ k ih =>
    show 1 ≤ cB g l (k + 1) + _
    omega
theorem cB_le (g : KH) (l : List Nat) (k : Nat) : cB g l k ≤ k := by
  induction k with
  | zero => exact Nat.le_refl _
  | succ k ih =>
    show cB g l k + _ ≤ _
    split <;> omega
theorem cB_mono (g : KH) (l : List Nat) {i k : Nat} (h : i ≤ k) : cB g l i ≤ cB g l k := by
  induction k with
  | zero => obtain rfl : i = 0 := by omega
            exact Nat.le_refl _
  | succ k ih =>
    by_cases hi : i = k + 1
    · rw [hi]; exact Nat.le_refl _
    · have := ih (by omega)
      show _ ≤ cB g l k + _
      omega
def prv (l : List Nat) (k : Nat) : Option Nat := match k with
  | 0 => none
  | i + 1 => some (l.getD i 0)
section KJOINS
variable {g : KH} {o : Option Nat} {l : List Nat}
theorem NX.dist (N : NX g) {r s : Nat} (hr : r < mn g 0 16) (hs : s < mn g 0 16) : mn g 12 r < 8 ∧ mn g 12 s < 8 ∧ kI g 12 r = nI (mn g 12 r) ∧ kI g 12 s = nI (mn g 12 s) := ⟨(N.1.2.2.2.2.1 r hr).1.1, (N.1.2.2.2.2.1 s hs).1.1, (N.1.2.2.2.2.1 r hr).1.2, (N.1.2.2.2.2.1 s hs).1.2⟩
theorem NX.begins {h : KH} (N : NX g) (ag : kAg EJ g h) {r s : Nat} (hr : r < mn g 0 16) (hs : s < mn g 0 16) (hrs : mn g 13 r ≤ mn g 13 s) : f_X10_begins 0 (nI r) (nI s) h = kret (if sBeg g r s = true then 1 else 0) h := by
  have T := (N.mx ag).1
  have hR := N.1.2.2.1.1
  obtain ⟨g1, g3, g2, g4⟩ := N.dist hr hs
  obtain ⟨-, ⟨m1, m2⟩, -⟩ := N.1.2.2.2.2.1 r hr
  obtain ⟨-, ⟨m3, m4⟩, -⟩ := N.1.2.2.2.2.1 s hs
  obtain ⟨p1, p2⟩ := N.2.2.1
  have e : ∀ a k, a ≠ 18 → a ≠ 19 → ¬ (a = 0 ∧ k = 35) → kI h a k = kI g a k := fun a k => NX.e ag a k
  unfold f_X10_begins
  rw [kif_f (by rw [ka_n1 (by omega)]; exact fun z => z), gN_k T.d0 T.r3, gN_k T.d0 T.r17, gAI_k T.d12 (by rw [T.n12]; omega) (by omega), gN_k T.d0 T.r17, gAI_k T.d12 (by rw [T.n12]; omega) (by omega), e 12 r (by omega) (by omega) (by omega), e 12 s (by omega) (by omega) (by omega), g2, g4, mc_idx8, gAI_k T.d2 (by rw [T.n2]; omega) (by omega), gN_k T.d0 T.r18, gAI_k T.d13 (by rw [T.n13]; omega) (by omega), gN_k T.d0 T.r18, gAI_k T.d13 (by rw [T.n13]; omega) (by omega), e 13 r (by omega) (by omega) (by omega), e 13 s (by omega) (by omega) (by omega), e 2 _ (by omega) (by omega) (by omega), m2, m4, ka_sub hrs]
  unfold sBeg
  rcases N.2.1 _ _ g1 g3 with w | ⟨n, hn, w⟩
  · rw [kif_t w, w]
    rfl
  · have hmn : mn g 2 (8 * mn g 12 r + mn g 12 s) = n := mn_of w (by omega)
    have hn1 : ¬ nI n = -1 := by
      rw [ka_n1 (by omega)]
      exact fun z => z
    rw [hmn, w, kif_f hn1, gI_k T.d0, e 0 1 (by omega) (by omega) (by omega), p2, show (2 : Int32) = nI 2 from rfl, ka_mul, ka_add]
    by_cases q1 : 2 * n + mn g 0 1 < mn g 13 s - mn g 13 r
    · rw [kif_t (by rw [ka_lt (by omega) (by omega)]; exact q1), if_pos (by simp [q1])]
      rfl
    · rw [kif_f (by rw [ka_lt (by omega) (by omega)]; exact q1), show (4 : Int32) = nI 4 from rfl, ka_mul]
      by_cases q2 : 4 * (mn g 13 s - mn g 13 r) < n
      · rw [kif_f (by rw [ka_le (by omega) (by omega)]; omega), if_pos (by simp [q2])]
        rfl
      · rw [kif_t (by rw [ka_le (by omega) (by omega)]; omega), if_neg (by simp [q1, q2, hn1])]
        rfl
theorem NX.beginsAt {h : KH} (N : NX g) (ag : kAg EJ g h) (L : LOK g l) {k : Nat} (hk : k < l.length) : f_X10_begins 0 (cOf (prv l k)) (nI (l.getD k 0)) h = kret (if sBegAt g l k = true then 1 else 0) h := by
  cases k with
  | zero => rfl
  | succ k => exact N.begins ag (L.1 k (by omega)) (L.1 (k + 1) hk) (L.m (by omega) hk)
theorem NX.jaL (N : NX g) (hl : sRw g o l) (ho : ∀ p, o = some p → p < 2147483648) : ∀ (f k : Nat) (h : KH), kAg EJ g h → (∀ r, r < mn g 0 16 → kI h 18 r = cOf (sPF g r)) → k ≤ l.length → l.length < k + f → ∃ h', X10_joinsAgain_L12 f 0 (cOf o) (nI (cB g l k)) (cOf (prv l k)) (cOf (lst l k)) h = kret (nI (cB g l l.length)) h' ∧ kAg (fun a _ => a = 19) h h' ∧ (∀ i, k ≤ i → i < l.length → kI h' 19 (l.getD i 0) = nI (cB g l (i + 1) - 1)) ∧ ∀ r, (∀ i, k ≤ i → i < l.length → l.getD i 0 ≠ r) → kI h' 19 r = kI h 19 r := by
  have hR := N.1.2.2.1.1
  have L := hl.1
  intro f
  induction f with
  | zero => intro k h _ _ h1 h2; omega
  | succ f ih =>
    intro k h ag hI h1 h2
    have T := (N.mx ag).1
    unfold X10_joinsAgain_L12 X10_joinsAgain_b12
    by_cases hk : k < l.length
    · have hlk : lst l k = some (l.getD k 0) := if_pos hk
      have hr := L.1 k hk
      have ag1 := kAg.I h 19 (l.getD k 0) (nI (cB g l (k + 1) - 1))
      have agh : kAg EJ g (sI h 19 (l.getD k 0) (nI (cB g l (k + 1) - 1))) := ag.trans ag1 (fun a q z => z) (fun a q z w => z (Or.inr (Or.inl w.1)))
      obtain ⟨h', e1, e2, e3, e4⟩ := ih (k + 1) (sI h 19 (l.getD k 0) (nI (cB g l (k + 1) - 1))) agh (fun r hr => by rw [kI_sI, if_neg (by omega)]; exact hI r hr) (by omega) (by omega)
      have hnx := (N.next agh (fun r hr => by rw [kI_sI, if_neg (by omega)]; exact hI r hr) ho hl).2 k hk
      have T1 := (N.mx agh).1
      have hcp := cB_pos g l k
      have hdist : ∀ i i', i < l.length → i' < l.length → i ≠ i' → l.getD i 0 ≠ l.getD i' 0 := fun i i' q1 q2 q3 e => by
        rcases Nat.lt_or_gt_of_ne q3 with q | q
        · have := L.2 i i' q q2
          rw [e] at this
          unfold sBef at this
          omega
        · have := L.2 i' i q q1
          rw [e] at this
          unfold sBef at this
          omega
      have hb34 : ∀ s0 : Int32, nI (cB g l k) + s0 = nI (cB g l (k + 1)) → X10_joinsAgain_b34 (X10_joinsAgain_L12 f) 0 (cOf o) (nI (l.getD k 0)) s0 (nI (cB g l k)) h = kret (nI (cB g l l.length)) h' := by
        intro s0 hs
        unfold X10_joinsAgain_b34
        rw [hs, ka_pred (by omega), gN_k T.d0 T.r24, pAI_k T.d19 (by rw [T.n19]; omega) (by omega), kV_k T1.d0, hnx, kb_ret]
        exact e1
      refine ⟨h', ?_, ag1.trans e2 (fun a q z w => z w.1) (fun a q z => z), fun i q1 q2 => ?_, fun r hr => ?_⟩
      · rw [hlk]
        rw [kif_f (by show ¬ nI (l.getD k 0) = -1; rw [ka_n1 (by omega)]; exact fun z => z), kV_k T.d0]
        rw [show cOf (some (l.getD k 0)) = nI (l.getD k 0) from rfl, N.beginsAt ag L hk, kb_ret]
        have hstep : cB g l (k + 1) = cB g l k + if sBegAt g l k = true then 1 else 0 := rfl
        by_cases hbk : sBegAt g l k = true
        · rw [if_pos hbk] at hstep
          rw [if_pos hbk, kif_f (by decide)]
          exact hb34 1 (by rw [nI_1, hstep])
        · rw [if_neg hbk] at hstep
          rw [if_neg hbk, kif_t rfl]
          refine hb34 0 ?_
          show nI _ + nI 0 = _
          rw [ka_add, hstep]
      · by_cases hik : i = k
        · rw [hik, e4 _ (fun i' q3 q4 => (hdist k i' hk q4 (by omega)).symm), kI_sI, if_pos ⟨rfl, rfl⟩]
        · exact e3 i (by omega) q2
      · rw [e4 r (fun i q3 q4 => hr i (by omega) q4), kI_sI, if_neg (fun z => hr k (Nat.le_refl _) hk z.2.symm)]
    · have hlk : lst l k = none := if_neg hk
      obtain rfl : k = l.length := by omega
      rw [hlk]
      exact ⟨h, by rw [kif_t (show cOf none = -1 from rfl)], (kAg.rf h).sub (fun _ _ z => z.elim), fun i q1 q2 => by omega, fun r _ => rfl⟩
/-- what joins leaves: whose the readings are, and a row's trips -/
def JT (g h : KH) (l : List Nat) : Prop := ∀ i, i < l.length → kI h 19 (l.getD i 0) = nI (cB g l (i + 1) - 1)
theorem NX.joinsAgain {h : KH} (N : NX g) (hl : sRw g o l) (ho : ∀ p, o = some p → p < 2147483648) (ag : kAg EJ g h) (hI : ∀ r, r < mn g 0 16 → kI h 18 r = cOf (sPF g r)) : ∃ h', f_X10_joinsAgain 0 (cOf o) h = kret (nI (cB g l l.length)) h' ∧ kAg EJ g h' ∧ (∀ r, r < mn g 0 16 → kI h' 18 r = cOf (sPF g r)) ∧ JT g h' l ∧ kAg (fun a _ => a = 19) h h' := by
  obtain ⟨h', e1, e2, e3, e4⟩ := N.jaL hl ho kF 0 h ag hI (by omega) (by have := hl.1.len'; have := N.1.2.2.1.1; unfold kF; omega)
  refine ⟨h', ?_, ag.trans e2 (fun a q z => z) (fun a q z w => z (Or.inr (Or.inl w))), fun r hr => ?_, fun i hi => e3 i (Nat.zero_le _) hi, e2⟩
  · unfold f_X10_joinsAgain
    rw [kV_k (N.mx ag).1.d0, (N.next ag hI ho hl).1, kb_ret]
    exact e1
  · rw [(e2.1 18 r (by omega)).1]
    exact hI r hr
theorem NX.joinsL (N : NX g) (hl : sRw g o l) (ho : ∀ p, o = some p → p < 2147483648) : ∀ (f i : Nat) (h : KH), kAg EJ g h → (∀ r, r < i → r < mn g 0 16 → kI h 18 r = cOf (sPF g r)) → i ≤ mn g 0 16 → mn g 0 16 < i + f → ∃ h', X10_joins_L2 f 0 (cOf o) (nI i) h = kret (nI (cB g l l.length)) h' ∧ kAg EJ g h' ∧ (∀ r, r < mn g 0 16 → kI h' 18 r = cOf (sPF g r)) ∧ JT g h' l ∧ kAg (fun a _ => a = 18 ∨ a = 19) h h' := by
  have hR := N.1.2.2.1
  intro f
  induction f with
  | zero => intro i h _ _ h1 h2; omega
  | succ f ih =>
    intro i h ag hI h1 h2
    have Mh := N.mx ag
    have T := Mh.1
    unfold X10_joins_L2 X10_joins_b2
    rw [gI_k T.d0, NX.e ag 0 16 (by omega) (by omega) (by omega), hR.2]
    by_cases hi : mn g 0 16 ≤ i
    · obtain ⟨h', e1, e2, e3, e4, e5⟩ := N.joinsAgain hl ho ag (fun r hr => hI r (by omega) hr)
      exact ⟨h', by rw [kif_t (by rw [ka_le (by omega) (by omega)]; exact hi), kV_k T.d0, e1, kb_ret], e2, e3, e4, e5.sub (fun a k z => Or.inr z)⟩
    · have e16 : mn h 0 16 = mn g 0 16 := mn_cg1 (NX.e ag 0 16 (by omega) (by omega) (by omega))
      have epf : sPF h i = sPF g i := sPF_cg (NX.e ag 0 8 (by omega) (by omega) (by omega)) (fun a ha k => NX.e ag a k (by omega) (by omega) (by omega)) i
      have ag1 := kAg.I h 18 i (cOf (sPF g i))
      have agh : kAg EJ g (sI h 18 i (cOf (sPF g i))) := ag.trans ag1 (fun a q z => z) (fun a q z w => z (Or.inl w.1))
      obtain ⟨h', e1, e2, e3, e4, e5⟩ := ih (i + 1) (sI h 18 i (cOf (sPF g i))) agh (fun r q1 q2 => by
        rw [kI_sI]
        by_cases hri : r = i
        · rw [if_pos ⟨rfl, hri⟩, hri]
        · rw [if_neg (by omega)]
          exact hI r (by omega) q2) (by omega) (by omega)
      refine ⟨h', ?_, e2, e3, e4, ag1.trans e5 (fun a k q z => q (Or.inl z.1)) (fun a k q => q)⟩
      rw [kif_f (by rw [ka_le (by omega) (by omega)]; exact hi), gN_k T.d0 T.r23, kV_k T.d0, Mh.plateFor (show i < mn h 0 16 by omega), kb_ret, epf, pAI_k T.d18 (by rw [T.n18]; omega) (by omega), nI_1]
      exact e1
theorem NX.joins {h : KH} (N : NX g) (hl : sRw g o l) (ho : ∀ p, o = some p → p < 2147483648) (ag : kAg EJ g h) : ∃ h', f_X10_joins 0 (cOf o) h = kret (nI (cB g l l.length)) h' ∧ kAg EJ g h' ∧ (∀ r, r < mn g 0 16 → kI h' 18 r = cOf (sPF g r)) ∧ JT g h' l ∧ kAg (fun a _ => a = 18 ∨ a = 19) h h' :=
  N.joinsL hl ho kF 0 h ag (fun r hr => absurd hr (Nat.not_lt_zero _)) (by omega) (by have := N.1.2.2.1.1; unfold kF; omega)
end KJOINS
