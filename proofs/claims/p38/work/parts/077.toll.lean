/-! ways and tolls -/
def wS (g : KH) (l : List Nat) : Nat → Nat → Nat
  | 0, _ => 0
  | n + 1, i => if i < l.length ∧ sBegAt g l i = false then mn g 2 (8 * mn g 12 (l.getD (i - 1) 0) + mn g 12 (l.getD i 0)) + wS g l n (i + 1) else 0
def tolF (g : KH) (l : List Nat) (p k : Nat) : Nat := mn g 3 (mn g 8 p) * (wS g l 60 (k + 1) + 2)
theorem sBeg_far {g : KH} (N : NX g) {r s : Nat} (hr : r < mn g 0 16) (hs : s < mn g 0 16) (h : sBeg g r s = false) : kI g 2 (8 * mn g 12 r + mn g 12 s) = nI (mn g 2 (8 * mn g 12 r + mn g 12 s)) := by
  obtain ⟨g1, g3, -, -⟩ := N.dist hr hs
  rcases N.2.1 _ _ g1 g3 with w | ⟨n, hn, w⟩
  · unfold sBeg at h
    rw [w] at h
    simp at h
  · rw [mn_of w (by omega)]
    exact w
theorem cB_ex {g : KH} {l : List Nat} {t : Nat} : ∀ n, t < cB g l n → ∃ k, k < n ∧ sBegAt g l k = true ∧ cB g l k = t := by
  intro n
  induction n with
  | zero => intro h; exact absurd h (Nat.not_lt_zero _)
  | succ n ih =>
    intro h
    have hs : cB g l (n + 1) = cB g l n + if sBegAt g l n = true then 1 else 0 := rfl
    by_cases h2 : t < cB g l n
    · obtain ⟨k, k1, k2⟩ := ih h2
      exact ⟨k, by omega, k2⟩
    · by_cases hb : sBegAt g l n = true
      · rw [if_pos hb] at hs
        exact ⟨n, by omega, hb, by omega⟩
      · rw [if_neg hb] at hs
        omega
theorem bF {b : Bool} (h : ¬ b = true) : b = false := by
  cases b
  · rfl
  · exact absurd rfl h
section KTOLL
variable {hx g : KH} {a : Nat} {l : List Nat}
theorem x3_wayL (K : kCx hx g) (N : NX g) (P : PSt hx a) (W : PRw hx a l) (L : LOK g l) (B : PBe hx g a l) : ∀ (n i s f : Nat), 1 ≤ i → i < 1000 → l.length ≤ i + n → n < f → X3_wayFrom_L7 f a 1 (nI s) (nI i) hx = kret (nI (s + wS g l n i)) hx := by
  obtain ⟨p1, p2, p3, p4, p5, p6, p7⟩ := P
  have w1 := W.1
  intro n
  induction n with
  | zero =>
    intro i s f h0 h0' h1 h2
    obtain ⟨f, rfl⟩ : ∃ k, f = k + 1 := ⟨f - 1, by omega⟩
    unfold X3_wayFrom_L7 X3_wayFrom_b7
    rw [gI_k p1, W.2.1, kif_t (by rw [ka_le (by omega) (by omega)]; omega)]
    rfl
  | succ n ih =>
    intro i s f h0 h0' h1 h2
    obtain ⟨f, rfl⟩ : ∃ k, f = k + 1 := ⟨f - 1, by omega⟩
    have hw : wS g l (n + 1) i = if i < l.length ∧ sBegAt g l i = false then mn g 2 (8 * mn g 12 (l.getD (i - 1) 0) + mn g 12 (l.getD i 0)) + wS g l n (i + 1) else 0 := rfl
    unfold X3_wayFrom_L7 X3_wayFrom_b7
    rw [gI_k p1, W.2.1]
    by_cases hi : l.length ≤ i
    · rw [if_neg (by omega)] at hw
      rw [kif_t (by rw [ka_le (by omega) (by omega)]; exact hi), hw]
      rfl
    · rw [kif_f (by rw [ka_le (by omega) (by omega)]; exact hi), gN_k p1 p7, gAI_k p4 (by omega) (by omega), B i (by omega)]
      by_cases hb : sBegAt g l i = true
      · rw [if_neg (fun z => by rw [hb] at z; exact absurd z.2 (by decide))] at hw
        rw [if_pos hb, kif_f (by decide), hw]
        rfl
      · have hb' := bF hb
        rw [if_pos ⟨by omega, hb'⟩] at hw
        have r1 := L.1 (i - 1) (by omega)
        have r2 := L.1 i (by omega)
        obtain ⟨k, rfl⟩ : ∃ k, i = k + 1 := ⟨i - 1, by omega⟩
        have hfar := sBeg_far N r1 r2 hb'
        rw [if_neg hb, kif_t rfl, gN_k p1 p6, ka_pred (by omega), gAN_k p2 (by omega) (by omega) (W.2.2 _ (by omega)), gI_k (K.rd r1).1.1, (K.gate r1).2, gN_k p1 p6, gAN_k p2 (by omega) (by omega) (W.2.2 _ (by omega)), gI_k (K.rd r2).1.1, (K.gate r2).2, kV_k K.1.1.d1, K.between (K.gate r1).1 (K.gate r2).1, kb_ret, hfar, ka_add, nI_1, hw, ih (k + 1 + 1) _ f (by omega) (by omega) (by omega) (by omega), Nat.add_assoc]
theorem x3_way (K : kCx hx g) (N : NX g) (P : PSt hx a) (W : PRw hx a l) (L : LOK g l) (B : PBe hx g a l) {k : Nat} (hk : k < l.length) : f_X3_wayFrom a (nI k) 1 hx = kret (nI (wS g l 60 (k + 1))) hx := by
  have w1 := W.1
  have e := x3_wayL K N P W L B 60 (k + 1) 0 kF (by omega) (by omega) (by omega) (by unfold kF; omega)
  unfold f_X3_wayFrom
  rw [nI_1]
  rw [Nat.zero_add] at e
  exact e
theorem x9_toll {j p k : Nat} (R : RR j hx g) (N : NX g) (hp : p < mn g 0 8) (P : PSt hx a) (W : PRw hx a l) (L : LOK g l) (B : PBe hx g a l) (hk : k < l.length) : f_X9_tollFrom 0 a (nI k) (100 + 8 * p) hx = kret (nI (tolF g l p k)) hx := by
  have S := R.1.1
  obtain ⟨k1, k2⟩ := N.2.2.2.2.1 p hp
  obtain ⟨r1, r2⟩ := N.2.2.2.1 _ k1
  obtain ⟨-, -, -, -, c, c1, c2, c3⟩ := R.pl hp
  have hc : mn g 8 p = c := mn_of c3 (by omega)
  obtain ⟨v, v1, v2, v3⟩ := R.2.2.2.2.2.1 c c1
  unfold f_X9_tollFrom
  rw [gN_k S.d0 S.r0_1, gI_k (R.pl hp).1.1, c2, gAI_k S.d21 (by rw [S.n21]; omega) (by omega), v2, gN_k S.d0 S.r0_0, kV_k P.1, x3_way R.kCx N P W L B hk, kb_ret]
  unfold tolF
  rw [hc, mn_of v3 (by omega), show (2 : Int32) = nI 2 from rfl, ka_add, ka_mul]
/-- beginningOf -/
theorem x3_begL {t : Int32} (P : PSt hx a) (W : PRw hx a l) (B : PBe hx g a l) : ∀ (f i : Nat), i ≤ l.length → l.length < i + f → (∃ k, i ≤ k ∧ k < l.length ∧ sBegAt g l k = true ∧ nI (cB g l k) = t ∧ X3_beginningOf_L4 f a t (nI (cB g l i)) (nI i) hx = kret (nI k) hx) ∨ (X3_beginningOf_L4 f a t (nI (cB g l i)) (nI i) hx = kret (-1) hx ∧ ∀ k, i ≤ k → k < l.length → sBegAt g l k = true → nI (cB g l k) ≠ t) := by
  obtain ⟨p1, p2, p3, p4, p5, p6, p7⟩ := P
  have w1 := W.1
  intro f
  induction f with
  | zero => intro i h1 h2; omega
  | succ f ih =>
    intro i h1 h2
    unfold X3_beginningOf_L4 X3_beginningOf_b4
    rw [gI_k p1, W.2.1]
    by_cases hi : l.length ≤ i
    · rw [kif_t (by rw [ka_le (by omega) (by omega)]; exact hi)]
      exact Or.inr ⟨rfl, fun k q1 q2 => by omega⟩
    · have hs : cB g l (i + 1) = cB g l i + if sBegAt g l i = true then 1 else 0 := rfl
      have e := ih (i + 1) (by omega) (by omega)
      rw [kif_f (by rw [ka_le (by omega) (by omega)]; exact hi), gN_k p1 p7, gAI_k p4 (by omega) (by omega), B i (by omega)]
      unfold X3_beginningOf_b31
      by_cases hb : sBegAt g l i = true
      · rw [if_pos hb] at hs
        rw [if_pos hb, kif_f (by decide)]
        by_cases ht : nI (cB g l i) = t
        · rw [kif_t ht]
          exact Or.inl ⟨i, by omega, by omega, hb, ht, rfl⟩
        · rw [kif_f ht, nI_1, nI_1, ← hs]
          rcases e with ⟨k, k1, k2, k3, k4, k5⟩ | ⟨e1, e2⟩
          · exact Or.inl ⟨k, by omega, k2, k3, k4, k5⟩
          · refine Or.inr ⟨e1, fun k q1 q2 q3 => ?_⟩
            by_cases hki : k = i
            · rw [hki]; exact ht
            · exact e2 k (by omega) q2 q3
      · rw [if_neg hb] at hs
        rw [if_neg hb, kif_t rfl, nI_1, show cB g l i = cB g l (i + 1) from hs.symm]
        rcases e with ⟨k, k1, k2, k3, k4, k5⟩ | ⟨e1, e2⟩
        · exact Or.inl ⟨k, by omega, k2, k3, k4, k5⟩
        · refine Or.inr ⟨e1, fun k q1 q2 q3 => ?_⟩
          by_cases hki : k = i
          · rw [hki] at q3
            exact absurd q3 hb
          · exact e2 k (by omega) q2 q3
theorem x3_beg {t : Int32} (P : PSt hx a) (W : PRw hx a l) (B : PBe hx g a l) : (∃ k, k < l.length ∧ sBegAt g l k = true ∧ nI (cB g l k) = t ∧ f_X3_beginningOf a t hx = kret (nI k) hx) ∨ (f_X3_beginningOf a t hx = kret (-1) hx ∧ ∀ k, k < l.length → sBegAt g l k = true → nI (cB g l k) ≠ t) := by
  rcases x3_begL (t := t) (g := g) P W B kF 0 (by omega) (by have := W.1; unfold kF; omega) with ⟨k, -, k2, k3, k4, k5⟩ | ⟨e1, e2⟩
  · exact Or.inl ⟨k, k2, k3, k4, k5⟩
  · exact Or.inr ⟨e1, fun k hk => e2 k (Nat.zero_le _) hk⟩
end KTOLL
/-! the model's -/
section KTOLLM
variable {g h : KH} {p : Nat} {l : List Nat}
theorem NX.firstL (N : NX g) (ag : kAg EJ g h) (hI : ∀ r, r < mn g 0 16 → kI h 18 r = cOf (sPF g r)) (hl : sRw g (some p) l) (hp : p < 2147483648) (J : JT g h l) {k : Nat} (hk : k < l.length) (hb : sBegAt g l k = true) : ∀ (f i : Nat), i ≤ k → k < i + f → X10_firstOf_L7 f 0 (nI p) (nI (cB g l k)) (nI (l.getD i 0)) h = kret (nI (l.getD k 0)) h := by
  have T := (N.mx ag).1
  have hR := N.1.2.2.1.1
  have L := hl.1
  have hlen := L.len'
  intro f
  induction f with
  | zero => intro i h1 h2; omega
  | succ f ih =>
    intro i h1 h2
    have r1 := L.1 i (by omega)
    have c1 := cB_pos g l i
    have c2 := cB_le g l (i + 1)
    have c3 := cB_le g l k
    unfold X10_firstOf_L7 X10_firstOf_b7
    rw [gN_k T.d0 T.r24, gAI_k T.d19 (by rw [T.n19]; omega) (by omega), J i (by omega)]
    by_cases hik : i = k
    · subst hik
      have hs : cB g l (i + 1) = cB g l i + if sBegAt g l i = true then 1 else 0 := rfl
      rw [if_pos hb] at hs
      rw [kif_t (by rw [hs]; rfl)]
    · have c4 := cB_mono g l (show i + 1 ≤ k by omega)
      rw [kif_f (by rw [ka_eq (by omega) (by omega)]; omega), kV_k T.d0]
      have e := (N.next ag hI (o := some p) (fun q e => by cases e; exact hp) hl).2 i (by omega)
      rw [show f_X10_next 0 (nI p) (nI (l.getD i 0)) h = kret (cOf (lst l (i + 1))) h from e, kb_ret]
      rw [show lst l (i + 1) = some (l.getD (i + 1) 0) from if_pos (by omega)]
      exact ih (i + 1) (by omega) (by omega)
theorem NX.firstOf (N : NX g) (ag : kAg EJ g h) (hI : ∀ r, r < mn g 0 16 → kI h 18 r = cOf (sPF g r)) (hl : sRw g (some p) l) (hp : p < 2147483648) (J : JT g h l) {k : Nat} (hk : k < l.length) (hb : sBegAt g l k = true) : f_X10_firstOf 0 (nI p) (nI (cB g l k)) h = kret (nI (l.getD k 0)) h := by
  have hlen := hl.1.len'
  have hR := N.1.2.2.1.1
  have e := (N.next ag hI (o := some p) (fun q e => by cases e; exact hp) hl).1
  unfold f_X10_firstOf
  rw [kV_k (N.mx ag).1.d0, show f_X10_next 0 (nI p) (-1) h = kret (cOf (lst l 0)) h from e, kb_ret]
  rw [show lst l 0 = some (l.getD 0 0) from if_pos (by omega)]
  exact N.firstL ag hI hl hp J hk hb kF 0 (by omega) (by unfold kF; omega)
theorem NX.tollL (N : NX g) (ag : kAg EJ g h) (hI : ∀ r, r < mn g 0 16 → kI h 18 r = cOf (sPF g r)) (hl : sRw g (some p) l) (hp : p < mn g 0 8) (J : JT g h l) {t : Nat} (ht : t < 1000) : ∀ (n i s f : Nat), 1 ≤ i → i ≤ l.length → l.length ≤ i + n → n < f → cB g l i = t + 1 → X10_tollOf_L19 f 0 (nI p) (nI t) (nI s) (nI (l.getD (i - 1) 0)) (cOf (lst l i)) h = kret (nI (mn g 3 (mn g 8 p) * (s + wS g l n i))) h := by
  have T := (N.mx ag).1
  have hR := N.1.2.2.1.1
  have hP := N.1.2.1.1
  have L := hl.1
  have hlen := L.len'
  obtain ⟨k1, k2⟩ := N.2.2.2.2.1 p hp
  obtain ⟨r1, r2⟩ := N.2.2.2.1 _ k1
  have e : ∀ a k, a ≠ 18 → a ≠ 19 → ¬ (a = 0 ∧ k = 35) → kI h a k = kI g a k := fun a k => NX.e ag a k
  have hb78 : ∀ s : Nat, X10_tollOf_b78 0 (nI p) (nI s) h = kret (nI (mn g 3 (mn g 8 p) * s)) h := by
    intro s
    unfold X10_tollOf_b78
    rw [gN_k T.d0 T.r4, gN_k T.d0 T.r11, gAI_k T.d8 (by rw [T.n8]; omega) (by omega), e 8 p (by omega) (by omega) (by omega), k2, gAI_k T.d3 (by rw [T.n3]; omega) (by omega), e 3 _ (by omega) (by omega) (by omega), r2, ka_mul]
  intro n
  induction n with
  | zero =>
    intro i s f h0 h1 h2 h3 h4
    obtain ⟨f, rfl⟩ : ∃ k, f = k + 1 := ⟨f - 1, by omega⟩
    unfold X10_tollOf_L19 X10_tollOf_b19
    rw [show lst l i = none from if_neg (by omega), kif_t (show cOf none = -1 from rfl), hb78]
    rfl
  | succ n ih =>
    intro i s f h0 h1 h2 h3 h4
    obtain ⟨f, rfl⟩ : ∃ k, f = k + 1 := ⟨f - 1, by omega⟩
    have hw : wS g l (n + 1) i = if i < l.length ∧ sBegAt g l i = false then mn g 2 (8 * mn g 12 (l.getD (i - 1) 0) + mn g 12 (l.getD i 0)) + wS g l n (i + 1) else 0 := rfl
    unfold X10_tollOf_L19 X10_tollOf_b19
    by_cases hi : i < l.length
    · rw [show lst l i = some (l.getD i 0) from if_pos hi]
      have r3 := L.1 i hi
      have r4 := L.1 (i - 1) (by omega)
      have c2 := cB_le g l (i + 1)
      have hs : cB g l (i + 1) = cB g l i + if sBegAt g l i = true then 1 else 0 := rfl
      rw [kif_f (by show ¬ nI (l.getD i 0) = -1; rw [ka_n1 (by omega)]; exact fun z => z), gN_k T.d0 T.r24]
      rw [show cOf (some (l.getD i 0)) = nI (l.getD i 0) from rfl, gAI_k T.d19 (by rw [T.n19]; omega) (by omega), J i hi]
      by_cases hb : sBegAt g l i = true
      · rw [if_pos hb] at hs
        rw [if_neg (fun z => by rw [hb] at z; exact absurd z.2 (by decide))] at hw
        rw [kif_f (by rw [ka_eq (by omega) (by omega)]; omega), hb78, hw]
        rfl
      · have hb' := bF hb
        rw [if_neg hb] at hs
        rw [if_pos ⟨hi, hb'⟩] at hw
        obtain ⟨k, rfl⟩ : ∃ k, i = k + 1 := ⟨i - 1, by omega⟩
        obtain ⟨d1, d2, d3, d4⟩ := N.dist r4 r3
        have hfar := sBeg_far N r4 r3 hb'
        have enx := (N.next ag hI (o := some p) (fun q e => by cases e; omega) hl).2 (k + 1) hi
        have e2 := ih (k + 1 + 1) (s + mn g 2 (8 * mn g 12 (l.getD (k + 1 - 1) 0) + mn g 12 (l.getD (k + 1) 0))) f (by omega) (by omega) (by omega) (by omega) (by omega)
        rw [kif_t (by rw [hs, h4]; rfl), gN_k T.d0 T.r3, gN_k T.d0 T.r17, gAI_k T.d12 (by rw [T.n12]; omega) (by omega), e 12 _ (by omega) (by omega) (by omega), d3, gN_k T.d0 T.r17, gAI_k T.d12 (by rw [T.n12]; omega) (by omega), e 12 _ (by omega) (by omega) (by omega), d4, mc_idx8, gAI_k T.d2 (by rw [T.n2]; omega) (by omega), e 2 _ (by omega) (by omega) (by omega), hfar, kV_k T.d0]
        rw [show f_X10_next 0 (nI p) (nI (l.getD (k + 1) 0)) h = kret (cOf (lst l (k + 1 + 1))) h from enx, kb_ret, ka_add, hw, ← Nat.add_assoc]
        exact e2
    · rw [if_neg (fun z => hi z.1)] at hw
      rw [show lst l i = none from if_neg hi, kif_t (show cOf none = -1 from rfl), hb78, hw]
      rfl
theorem NX.tollOf (N : NX g) (ag : kAg EJ g h) (hI : ∀ r, r < mn g 0 16 → kI h 18 r = cOf (sPF g r)) (hl : sRw g (some p) l) (hp : p < mn g 0 8) (J : JT g h l) {k : Nat} (hk : k < l.length) (hb : sBegAt g l k = true) : f_X10_tollOf 0 (nI p) (nI (cB g l k)) h = kret (nI (tolF g l p k)) h := by
  have hlen := hl.1.len'
  have hR := N.1.2.2.1.1
  have hP := N.1.2.1.1
  have T := (N.mx ag).1
  have hs : cB g l (k + 1) = cB g l k + if sBegAt g l k = true then 1 else 0 := rfl
  rw [if_pos hb] at hs
  have c3 := cB_le g l k
  have enx := (N.next ag hI (o := some p) (fun q e => by cases e; omega) hl).2 k hk
  have e2 := N.tollL ag hI hl hp J (t := cB g l k) (by omega) 60 (k + 1) 2 kF (by omega) (by omega) (by omega) (by unfold kF; omega) hs
  unfold f_X10_tollOf
  rw [kV_k T.d0, N.firstOf ag hI hl (by omega) J hk hb, kb_ret, kV_k T.d0, show f_X10_next 0 (nI p) (nI (l.getD k 0)) h = kret (cOf (lst l (k + 1))) h from enx, kb_ret]
  unfold tolF
  rw [Nat.add_comm (wS g l 60 (k + 1)) 2]
  exact e2
end KTOLLM
