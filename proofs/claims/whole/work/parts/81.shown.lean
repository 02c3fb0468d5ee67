/-! what a warrant shows -/
def dIn (g : KH) (f t r : Nat) : Bool := decide (f ≤ mn g 13 r / 1440 ∧ mn g 13 r / 1440 ≤ t)
def iS (g : KH) (l : List Nat) (f t : Nat) : Nat → Bool
  | 0 => false
  | i + 1 => if sBegAt g l i = true then dIn g f t (l.getD i 0) else iS g l f t i
def cS (g : KH) (l : List Nat) (f t : Nat) : Nat → Nat
  | 0 => 0
  | i + 1 => cS g l f t i + if iS g l f t (i + 1) = true then 1 else 0
def shF (g : KH) (l : List Nat) (f t : Nat) (b : Int32) : Nat → Nat → Option Nat
  | 0, _ => none
  | n + 1, i => if i < l.length then (if iS g l f t (i + 1) = true ∧ nI (cS g l f t i) = b then some (l.getD i 0) else shF g l f t b n (i + 1)) else none
def shV (g : KH) (o : Option Nat) : Int32 := match o with
  | some r => nI (100000 * mn g 12 r + mn g 13 r)
  | none => -1
def b01 (b : Bool) : Int32 := if b = true then 1 else 0
theorem cS_le (g : KH) (l : List Nat) (f t i : Nat) : cS g l f t i ≤ i := by
  induction i with
  | zero => exact Nat.le_refl _
  | succ i ih =>
    show cS g l f t i + _ ≤ _
    split <;> omega
theorem shF_mem {g : KH} {l : List Nat} {f t : Nat} {b : Int32} : ∀ n i r, shF g l f t b n i = some r → ∃ k, k < l.length ∧ l.getD k 0 = r := by
  intro n
  induction n with
  | zero => intro i r h; cases h
  | succ n ih =>
    intro i r h
    have h' : (if i < l.length then (if iS g l f t (i + 1) = true ∧ nI (cS g l f t i) = b then some (l.getD i 0) else shF g l f t b n (i + 1)) else none) = some r := h
    by_cases hi : i < l.length
    · rw [if_pos hi] at h'
      by_cases hc : iS g l f t (i + 1) = true ∧ nI (cS g l f t i) = b
      · rw [if_pos hc] at h'
        cases h'
        exact ⟨i, hi, rfl⟩
      · rw [if_neg hc] at h'
        exact ih _ _ h'
    · rw [if_neg hi] at h'
      cases h'
theorem shF_neg {g : KH} {l : List Nat} {f t : Nat} {b : Int32} (hb : b < 0) (hl : l.length ≤ 60) : ∀ n i, shF g l f t b n i = none := by
  intro n
  induction n with
  | zero => intro i; rfl
  | succ n ih =>
    intro i
    show (if i < l.length then (if iS g l f t (i + 1) = true ∧ nI (cS g l f t i) = b then some (l.getD i 0) else shF g l f t b n (i + 1)) else none) = none
    by_cases hi : i < l.length
    · have hc := cS_le g l f t i
      rw [if_pos hi, if_neg (fun z => by rw [← z.2, ka_neg (by omega)] at hb; exact hb)]
      exact ih _
    · rw [if_neg hi]
theorem wi_n {x f t : Nat} {h : KH} (hx : x < 2147483648) (hf : f < 2147483648) (ht : t < 2147483648) : f_X9_isWithin (nI x) (nI f) (nI t) h = kret (b01 (decide (f ≤ x ∧ x ≤ t))) h := by
  unfold b01
  by_cases g : f ≤ x ∧ x ≤ t
  · rw [if_pos (decide_eq_true g), wi_t (by rw [ka_lt (by omega) (by omega)]; omega) (by rw [ka_lt (by omega) (by omega)]; omega)]
  · rw [if_neg (by simpa using g), wi_f (by rw [ka_lt (by omega) (by omega), ka_lt (by omega) (by omega)]; omega)]
theorem in_n {x f t : Nat} {h : KH} (hx : x < 2147483648) (hf : f < 2147483648) (ht : t < 2147483648) : f_X10_isIn (nI x) (nI f) (nI t) h = kret (b01 (decide (f ≤ x ∧ x ≤ t))) h := by
  unfold b01
  by_cases g : f ≤ x ∧ x ≤ t
  · rw [if_pos (decide_eq_true g), in_t (by rw [ka_lt (by omega) (by omega)]; omega) (by rw [ka_lt (by omega) (by omega)]; omega)]
  · rw [if_neg (by simpa using g), in_f (by rw [ka_lt (by omega) (by omega), ka_lt (by omega) (by omega)]; omega)]
theorem b01_0 (b : Bool) : (b01 b = 0) = ¬ (b = true) := by
  cases b <;> simp [b01]
section KSHOWN
variable {hx g : KH} {a w f t : Nat} {l : List Nat} {b : Int32}
theorem x8_shL (K : kCx hx g) (P : PSt hx a) (W : PRw hx a l) (L : LOK g l) (B : PBe hx g a l) (k1 : kd hx w = 9) (k2 : kR hx w 1 = some a) (k3 : kI hx w 2 = nI f) (k4 : kI hx w 3 = nI t) (hf : f < 100) (ht : t < 100) : ∀ (n i fu : Nat), i < 1000 → l.length ≤ i + n → n < fu → X8_shownAt_L7 fu w b (nI (cS g l f t i)) (b01 (iS g l f t i)) (nI i) hx = kret ((shF g l f t b n i).map (fun r => 200 + 4 * r)) hx := by
  obtain ⟨p1, p2, p3, p4, p5, p6, p7⟩ := P
  have w1 := W.1
  intro n
  induction n with
  | zero =>
    intro i fu h0 h1 h2
    obtain ⟨fu, rfl⟩ : ∃ k, fu = k + 1 := ⟨fu - 1, by omega⟩
    unfold X8_shownAt_L7 X8_shownAt_b7
    rw [gN_k k1 k2, gI_k p1, W.2.1, kif_t (by rw [ka_le (by omega) (by omega)]; omega)]
    rfl
  | succ n ih =>
    intro i fu h0 h1 h2
    obtain ⟨fu, rfl⟩ : ∃ k, fu = k + 1 := ⟨fu - 1, by omega⟩
    have hsf : shF g l f t b (n + 1) i = if i < l.length then (if iS g l f t (i + 1) = true ∧ nI (cS g l f t i) = b then some (l.getD i 0) else shF g l f t b n (i + 1)) else none := rfl
    unfold X8_shownAt_L7 X8_shownAt_b7
    rw [gN_k k1 k2, gI_k p1, W.2.1]
    by_cases hi : l.length ≤ i
    · rw [if_neg (by omega)] at hsf
      rw [kif_t (by rw [ka_le (by omega) (by omega)]; exact hi), hsf]
      rfl
    · have hil : i < l.length := by omega
      rw [if_pos hil] at hsf
      have r1 := L.1 i hil
      obtain ⟨m1, m2⟩ := K.minute r1
      have hcs : cS g l f t (i + 1) = cS g l f t i + if iS g l f t (i + 1) = true then 1 else 0 := rfl
      have e := ih (i + 1) fu (by omega) (by omega) (by omega)
      have hiS : iS g l f t (i + 1) = if sBegAt g l i = true then dIn g f t (l.getD i 0) else iS g l f t i := rfl
      -- behind the look at the day
      have hb65 : X8_shownAt_b65 (X8_shownAt_L7 fu) w b (nI (cS g l f t i)) (b01 (iS g l f t (i + 1))) (nI i) (200 + 4 * l.getD i 0) hx = kret ((shF g l f t b (n + 1) i).map (fun r => 200 + 4 * r)) hx := by
        unfold X8_shownAt_b65 X8_shownAt_b77 X8_shownAt_b84
        by_cases q : iS g l f t (i + 1) = true
        · rw [if_pos q] at hcs
          rw [kif_f (by rw [b01_0]; exact fun z => z q)]
          by_cases q2 : nI (cS g l f t i) = b
          · rw [kif_t q2, hsf, if_pos ⟨q, q2⟩]
            rfl
          · rw [kif_f q2, kif_f (by rw [b01_0]; exact fun z => z q), hsf, if_neg (fun z => q2 z.2), nI_1, nI_1, ← hcs]
            exact e
        · rw [if_neg q] at hcs
          rw [kif_t (by rw [b01_0]; exact q), kif_t (by rw [b01_0]; exact q), hsf, if_neg (fun z => q z.1), nI_1, show cS g l f t i = cS g l f t (i + 1) from hcs.symm]
          exact e
      rw [kif_f (by rw [ka_le (by omega) (by omega)]; exact hi), gN_k k1 k2, gN_k p1 p6, gAN_k p2 (by omega) (by omega) (W.2.2 i hil), gN_k k1 k2, gN_k p1 p7, gAI_k p4 (by omega) (by omega), B i hil]
      by_cases hb : sBegAt g l i = true
      · rw [if_pos hb] at hiS
        rw [if_pos hb, kif_f (by decide), gI_k (K.rd r1).1.1, m2, kdv, if_neg (by decide), gI_k k1, gI_k k1, k3, k4, show (1440 : Int32) = nI 1440 from rfl, pk_div (by omega) (by decide) (by decide), wi_n (by omega) (by omega) (by omega), ki_ret]
        rw [hiS] at hb65
        exact hb65
      · rw [if_neg hb] at hiS
        rw [if_neg hb, kif_t rfl]
        rw [hiS] at hb65
        exact hb65
theorem x8_shown (K : kCx hx g) (P : PSt hx a) (W : PRw hx a l) (L : LOK g l) (B : PBe hx g a l) (k1 : kd hx w = 9) (k2 : kR hx w 1 = some a) (k3 : kI hx w 2 = nI f) (k4 : kI hx w 3 = nI t) (hf : f < 100) (ht : t < 100) : f_X8_shownAt w b hx = kret ((shF g l f t b 60 0).map (fun r => 200 + 4 * r)) hx :=
  x8_shL K P W L B k1 k2 k3 k4 hf ht 60 0 kF (by omega) (by have := W.1; omega) (by unfold kF; omega)
end KSHOWN
section KSHOWS
variable {g h : KH} {p w f t : Nat} {l : List Nat} {b : Int32}
theorem NX.showL (N : NX g) (ag : kAg EJ g h) (hI : ∀ r, r < mn g 0 16 → kI h 18 r = cOf (sPF g r)) (hl : sRw g (some p) l) (hp : p < 2147483648) (J : JT g h l) (hb : ¬ b < 0) (hw : w < 8) (k3 : kI g 23 w = nI f) (k4 : kI g 24 w = nI t) (hf : f < 100) (ht : t < 100) : ∀ (n i fu : Nat), i < 1000 → l.length ≤ i + n → n + 1 < fu → X10_shows_L33 fu 0 (nI w) b (nI p) (b - nI (cS g l f t i)) (-1) (b01 (iS g l f t i)) (cOf (match i with | 0 => none | k + 1 => some (cB g l (k + 1) - 1))) (cOf (lst l i)) h = kret (shV g (shF g l f t b n i)) h := by
  have T := (N.mx ag).1
  have hR := N.1.2.2.1.1
  have L := hl.1
  have hlen := L.len'
  have e : ∀ a k, a ≠ 18 → a ≠ 19 → ¬ (a = 0 ∧ k = 35) → kI h a k = kI g a k := fun a k => NX.e ag a k
  intro n
  induction n with
  | zero =>
    intro i fu h0 h1 h2
    obtain ⟨fu, rfl⟩ : ∃ k, fu = k + 1 := ⟨fu - 1, by omega⟩
    unfold X10_shows_L33 X10_shows_b33
    rw [show lst l i = none from if_neg (by omega), kif_t (show cOf none = -1 from rfl)]
    rfl
  | succ n ih =>
    intro i fu h0 h1 h2
    obtain ⟨fu, rfl⟩ : ∃ k, fu = k + 1 := ⟨fu - 1, by omega⟩
    have hsf : shF g l f t b (n + 1) i = if i < l.length then (if iS g l f t (i + 1) = true ∧ nI (cS g l f t i) = b then some (l.getD i 0) else shF g l f t b n (i + 1)) else none := rfl
    unfold X10_shows_L33 X10_shows_b33
    by_cases hi : i < l.length
    · rw [if_pos hi] at hsf
      have r1 := L.1 i hi
      obtain ⟨⟨gg1, gg2⟩, ⟨m1, m2⟩, -⟩ := N.1.2.2.2.2.1 _ r1
      have c2 := cB_le g l (i + 1)
      have c1 := cB_pos g l i
      have hcB : cB g l (i + 1) = cB g l i + if sBegAt g l i = true then 1 else 0 := rfl
      have hcs : cS g l f t (i + 1) = cS g l f t i + if iS g l f t (i + 1) = true then 1 else 0 := rfl
      have hiS : iS g l f t (i + 1) = if sBegAt g l i = true then dIn g f t (l.getD i 0) else iS g l f t i := rfl
      have hcl := cS_le g l f t i
      have e2 := ih (i + 1) fu (by omega) (by omega) (by omega)
      have e2' : X10_shows_L33 fu 0 (nI w) b (nI p) (b - nI (cS g l f t (i + 1))) (-1) (b01 (iS g l f t (i + 1))) (nI (cB g l (i + 1) - 1)) (cOf (lst l (i + 1))) h = kret (shV g (shF g l f t b n (i + 1))) h := e2
      have enx := (N.next ag hI (o := some p) (fun q e => by cases e; exact hp) hl).2 i hi
      have enx' : f_X10_next 0 (nI p) (nI (l.getD i 0)) h = kret (cOf (lst l (i + 1))) h := enx
      have hlk : cOf (lst l i) = nI (l.getD i 0) := by rw [show lst l i = some (l.getD i 0) from if_pos hi]; rfl
      have hleft : ∀ c : Nat, c < 2147483648 → (b - nI c = 0 ↔ nI c = b) := fun c _ => by
        constructor
        · intro z
          have := congrArg (fun x => x + nI c) z
          simp only [Int32.sub_add_cancel, Int32.zero_add] at this
          exact this.symm
        · intro z
          rw [z, Int32.sub_self]
      have hb92 : X10_shows_b92 (X10_shows_L33 fu) 0 (nI w) b (nI p) (b - nI (cS g l f t i)) (nI (l.getD i 0)) (b01 (iS g l f t (i + 1))) h = kret (shV g (shF g l f t b (n + 1) i)) h := by
        unfold X10_shows_b92
        rw [gN_k T.d0 T.r24, gAI_k T.d19 (by rw [T.n19]; omega) (by omega), J i hi]
        by_cases q : iS g l f t (i + 1) = true
        · rw [if_pos q] at hcs
          have hq0 : ¬ b01 (iS g l f t (i + 1)) = 0 := by rw [b01_0]; exact fun z => z q
          have hnext : ∀ v5 : Int32, X10_shows_b135 (X10_shows_L33 fu) 0 (nI w) b (nI p) (b - nI (cS g l f t i)) (b01 (iS g l f t (i + 1))) (nI (cB g l (i + 1) - 1)) (nI (l.getD i 0)) v5 h = X10_shows_L33 fu 0 (nI w) b (nI p) (b - nI (cS g l f t (i + 1))) v5 (b01 (iS g l f t (i + 1))) (nI (cB g l (i + 1) - 1)) (cOf (lst l (i + 1))) h := by
            intro v5
            unfold X10_shows_b135
            rw [kif_f hq0]
            unfold X10_shows_b149
            rw [kV_k T.d0, enx', kb_ret, hcs, show b - nI (cS g l f t i) - 1 = b - nI (cS g l f t i + 1) by
              rw [← nI_1, Int32.sub_eq_add_neg b (nI (cS g l f t i) + 1), Int32.neg_add, Int32.sub_eq_add_neg (b - nI (cS g l f t i)), Int32.sub_eq_add_neg b, Int32.add_assoc, Int32.sub_eq_add_neg]]
          rw [kif_f hq0]
          by_cases q2 : nI (cS g l f t i) = b
          · rw [kif_t ((hleft _ (by omega)).2 q2), gN_k T.d0 T.r17, gAI_k T.d12 (by rw [T.n12]; omega) (by omega), e 12 _ (by omega) (by omega) (by omega), gg2, gN_k T.d0 T.r18, gAI_k T.d13 (by rw [T.n13]; omega) (by omega), e 13 _ (by omega) (by omega) (by omega), m2, hnext, show (100000 : Int32) = nI 100000 from rfl, ka_mul, ka_add, hsf, if_pos ⟨q, q2⟩]
            obtain ⟨fu, rfl⟩ : ∃ k, fu = k + 1 := ⟨fu - 1, by omega⟩
            unfold X10_shows_L33 X10_shows_b33
            have hv : ¬ nI (100000 * mn g 12 (l.getD i 0) + mn g 13 (l.getD i 0)) = -1 := by
              rw [ka_n1 (by omega)]
              exact fun z => z
            by_cases q3 : cOf (lst l (i + 1)) = -1
            · rw [kif_t q3]
              rfl
            · rw [kif_f q3, kif_f hb, kif_f hv]
              rfl
          · rw [kif_f (fun z => q2 ((hleft _ (by omega)).1 z))]
            unfold X10_shows_b134
            rw [hnext, hsf, if_neg (fun z => q2 z.2)]
            exact e2'
        · rw [if_neg q] at hcs
          have hq0 : b01 (iS g l f t (i + 1)) = 0 := by rw [b01_0]; exact q
          rw [kif_t hq0]
          unfold X10_shows_b134 X10_shows_b135
          rw [kif_t hq0]
          unfold X10_shows_b149
          rw [kV_k T.d0, enx', kb_ret, Int32.sub_zero, hsf, if_neg (fun z => q z.1)]
          rw [hcs] at e2'
          exact e2'
      rw [hlk, kif_f (by rw [ka_n1 (by omega)]; exact fun z => z), kif_f hb, kif_t rfl, gN_k T.d0 T.r24, gAI_k T.d19 (by rw [T.n19]; omega) (by omega), J i hi]
      have hday : gN h 0 11 18 (fun a2 => gAI h a2 21 (nI (l.getD i 0)) (fun x2 => kdv 1440 (gN h 0 11 29 (fun a3 => gAI h a3 21 (nI w) (fun x3 => gN h 0 11 30 (fun a4 => gAI h a4 21 (nI w) (fun x4 => kbind (f_X10_isIn (x2 / 1440) x3 x4 h) (fun x5 h1 => X10_shows_b92 (X10_shows_L33 fu) 0 (nI w) b (nI p) (b - nI (cS g l f t i)) (nI (l.getD i 0)) x5 h1)))))))) = X10_shows_b92 (X10_shows_L33 fu) 0 (nI w) b (nI p) (b - nI (cS g l f t i)) (nI (l.getD i 0)) (b01 (dIn g f t (l.getD i 0))) h := by
        rw [gN_k T.d0 T.r18, gAI_k T.d13 (by rw [T.n13]; omega) (by omega), e 13 _ (by omega) (by omega) (by omega), m2, kdv, if_neg (by decide), gN_k T.d0 T.r29, gAI_k T.d23 (by rw [T.n23]; omega) (by omega), e 23 _ (by omega) (by omega) (by omega), k3, gN_k T.d0 T.r30, gAI_k T.d24 (by rw [T.n24]; omega) (by omega), e 24 _ (by omega) (by omega) (by omega), k4, show (1440 : Int32) = nI 1440 from rfl, pk_div (by omega) (by decide) (by decide), in_n (by omega) (by omega) (by omega), kb_ret]
        rfl
      cases i with
      | zero =>
        have hb0 : sBegAt g l 0 = true := rfl
        rw [if_pos hb0] at hiS
        rw [kif_f (by show ¬ nI _ = -1; rw [ka_n1 (by omega)]; exact fun z => z), hday, ← hiS]
        exact hb92
      | succ i =>
        have c3 := cB_pos g l i
        have c4 := cB_le g l (i + 1)
        by_cases hbg : sBegAt g l (i + 1) = true
        · rw [if_pos hbg] at hiS hcB
          rw [kif_f (by show ¬ nI _ = nI _; rw [ka_eq (by omega) (by omega)]; omega), hday, ← hiS]
          exact hb92
        · rw [if_neg hbg] at hiS hcB
          rw [kif_t (by show nI _ = nI _; rw [hcB]; rfl), ← hiS]
          exact hb92
    · rw [if_neg hi] at hsf
      rw [show lst l i = none from if_neg hi, kif_t (show cOf none = -1 from rfl), hsf]
      rfl
theorem NX.shows (N : NX g) (ag : kAg EJ g h) (hl : sRw g (some p) l) (hp : p < mn g 0 8) (hw : w < 8) (k2 : kI g 22 w = nI p) (k3 : kI g 23 w = nI f) (k4 : kI g 24 w = nI t) (hf : f < 100) (ht : t < 100) : ∃ h', f_X10_shows 0 (nI w) b h = kret (shV g (shF g l f t b 60 0)) h' ∧ kAg EJ g h' ∧ kAg (fun a _ => a = 18 ∨ a = 19) h h' := by
  have hP := N.1.2.1.1
  have hR := N.1.2.2.1.1
  have hlen := hl.1.len'
  have T := (N.mx ag).1
  obtain ⟨h', e1, e2, e3, e4, e5⟩ := N.joins (o := some p) hl (fun q e => by cases e; omega) ag
  have T' := (N.mx e2).1
  refine ⟨h', ?_, e2, e5⟩
  have enx := (N.next e2 e3 (o := some p) (fun q e => by cases e; omega) hl).1
  unfold f_X10_shows
  rw [gN_k T.d0 T.r28, gAI_k T.d22 (by rw [T.n22]; omega) (by omega), NX.e ag 22 w (by omega) (by omega) (by omega), k2, kV_k T.d0, show f_X10_joins 0 (nI p) h = _ from e1, kb_ret, kV_k T'.d0, show f_X10_next 0 (nI p) (-1) h' = _ from enx, kb_ret]
  by_cases hb : b < 0
  · rw [shF_neg hb (by omega)]
    obtain ⟨fu, hfu⟩ : ∃ k, kF = k + 1 := ⟨999, rfl⟩
    rw [hfu]
    unfold X10_shows_L33 X10_shows_b33
    by_cases q : cOf (lst l 0) = -1
    · rw [kif_t q]
      rfl
    · rw [kif_f q, kif_t hb]
      rfl
  · have e := N.showL e2 e3 hl (by omega) e4 hb hw k3 k4 hf ht 60 0 kF (by omega) (by omega) (by unfold kF; omega)
    have hz : b - nI (cS g l f t 0) = b := by
      show b - nI 0 = b
      exact Int32.sub_zero b
    rw [hz] at e
    exact e
end KSHOWS
