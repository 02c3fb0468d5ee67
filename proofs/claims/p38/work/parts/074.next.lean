/-! the model's rows: its passings one after the other -/
def NX (g : KH) : Prop := MX g ∧ (∀ i j, i < 8 → j < 8 → kI g 2 (8 * i + j) = -1 ∨ ∃ n, n ≤ 51200 ∧ kI g 2 (8 * i + j) = nI n) ∧ (mn g 0 1 ≤ 500 ∧ kI g 0 1 = nI (mn g 0 1)) ∧ (∀ k, k < 4 → mn g 3 k ≤ 50 ∧ kI g 3 k = nI (mn g 3 k)) ∧ (∀ p, p < mn g 0 8 → mn g 8 p < 4 ∧ kI g 8 p = nI (mn g 8 p)) ∧ ∃ n, n ≤ 700 ∧ kI g 0 12 = nI n ∧ ∀ k, k < n → (∃ q, q < 10 ∧ kI g 9 k = nI q) ∧ ∃ s, s ≤ 50000 ∧ kI g 11 k = nI s
theorem RR.NX {j : Nat} {hx hm : KH} (R : RR j hx hm) (hj : j < 512) : NX hm := by
  obtain ⟨n, hn, hc, hh, -⟩ := R.holdN
  refine ⟨R.MX, fun i j hi hj => (R.2.2.2.2.1 i j hi hj).2, ?_, fun k hk => ?_, fun p hp => ?_, n, by omega, hc, hh⟩
  · obtain ⟨n, n1, n2, n3⟩ := R.2.2.1
    rw [mn_of n3 (by omega)]
    exact ⟨n1, n3⟩
  · obtain ⟨n, n1, n2, n3⟩ := R.2.2.2.2.2.1 k hk
    rw [mn_of n3 (by omega)]
    exact ⟨n1, n3⟩
  · obtain ⟨-, -, -, -, n, n1, n2, n3⟩ := R.pl hp
    rw [mn_of n3 (by omega)]
    exact ⟨n1, n3⟩
/-- the heaps of a question: nothing but its, tripIn and thrown differs -/
def EJ (a k : Nat) : Prop := a = 18 ∨ a = 19 ∨ a = 0 ∧ k = 35
def sRw (g : KH) (o : Option Nat) (l : List Nat) : Prop := LOK g l ∧ ∀ r, r < mn g 0 16 → (sPF g r = o ↔ ∃ k, k < l.length ∧ l.getD k 0 = r)
def lst (l : List Nat) (k : Nat) : Option Nat := if k < l.length then some (l.getD k 0) else none
theorem pos_ex (g : KH) (l : List Nat) (n : Nat) : ∀ m, m ≤ l.length → (∀ k, m ≤ k → k < l.length → sBef (mn g) n (l.getD k 0)) → ∃ i, i ≤ l.length ∧ (∀ k, i ≤ k → k < l.length → sBef (mn g) n (l.getD k 0)) ∧ (i = 0 ∨ ¬ sBef (mn g) n (l.getD (i - 1) 0)) := by
  intro m
  induction m with
  | zero => intro h1 h2; exact ⟨0, h1, h2, Or.inl rfl⟩
  | succ m ih =>
    intro h1 h2
    by_cases hq : sBef (mn g) n (l.getD m 0)
    · exact ih (by omega) (fun k q1 q2 => by
        by_cases hk : k = m
        · rw [hk]; exact hq
        · exact h2 k (by omega) q2)
    · exact ⟨m + 1, h1, h2, Or.inr hq⟩
theorem row_ex (g : KH) (Q : Nat → Prop) : ∀ n, n ≤ mn g 0 16 → ∃ l, LOK g l ∧ ∀ r, (∃ k, k < l.length ∧ l.getD k 0 = r) ↔ r < n ∧ Q r := by
  intro n
  induction n with
  | zero => intro _; exact ⟨[], ⟨fun k hk => absurd hk (Nat.not_lt_zero _), fun i k _ hk => absurd hk (Nat.not_lt_zero _)⟩, fun r => ⟨fun ⟨k, hk, _⟩ => absurd hk (Nat.not_lt_zero _), fun z => absurd z.1 (Nat.not_lt_zero _)⟩⟩
  | succ n ih =>
    intro hn
    obtain ⟨l, l1, l2⟩ := ih (by omega)
    by_cases hq : Q n
    · have hnr : ∀ k, k < l.length → l.getD k 0 ≠ n := fun k hk z => by
        have := ((l2 n).1 ⟨k, hk, z⟩).1
        omega
      obtain ⟨i, i1, i2, i3⟩ := pos_ex g l n l.length (Nat.le_refl _) (fun k q1 q2 => by omega)
      refine ⟨l.insertIdx i n, l1.ins i1 (by omega) hnr i2 i3, fun r => ?_⟩
      constructor
      · rintro ⟨k, hk, rfl⟩
        rw [ins_len i1] at hk
        rw [ins_at i1]
        split
        · have := (l2 _).1 ⟨k, by omega, rfl⟩
          exact ⟨by omega, this.2⟩
        · split
          · exact ⟨by omega, hq⟩
          · have := (l2 _).1 ⟨k - 1, by omega, rfl⟩
            exact ⟨by omega, this.2⟩
      · rintro ⟨h1, h2⟩
        by_cases hrn : r = n
        · exact ⟨i, by rw [ins_len i1]; omega, by rw [ins_at i1, if_neg (by omega), if_pos rfl, hrn]⟩
        · obtain ⟨k, hk, ek⟩ := (l2 r).2 ⟨by omega, h2⟩
          by_cases hki : k < i
          · exact ⟨k, by rw [ins_len i1]; omega, by rw [ins_at i1, if_pos hki, ek]⟩
          · exact ⟨k + 1, by rw [ins_len i1]; omega, by rw [ins_at i1, if_neg (by omega), if_neg (by omega)]; exact ek⟩
    · refine ⟨l, l1, fun r => ?_⟩
      rw [l2 r]
      constructor
      · rintro ⟨h1, h2⟩
        exact ⟨by omega, h2⟩
      · rintro ⟨h1, h2⟩
        refine ⟨?_, h2⟩
        by_cases hrn : r = n
        · rw [hrn] at h2
          exact absurd h2 hq
        · omega
theorem sRw_ex (g : KH) (o : Option Nat) : ∃ l, sRw g o l := by
  obtain ⟨l, l1, l2⟩ := row_ex g (fun r => sPF g r = o) (mn g 0 16) (Nat.le_refl _)
  exact ⟨l, l1, fun r hr => by rw [l2 r]; exact ⟨fun z => ⟨hr, z⟩, fun z => z.2⟩⟩
section KNEXT
variable {g h : KH}
theorem NX.mx (N : NX g) (ag : kAg EJ g h) : MX h := N.1.fr ag (fun a k z => by unfold EJ at z; omega)
theorem NX.e (ag : kAg EJ g h) (a k : Nat) (h1 : a ≠ 18) (h2 : a ≠ 19) (h3 : ¬ (a = 0 ∧ k = 35)) : kI h a k = kI g a k := (ag.1 a k (fun z => by unfold EJ at z; omega)).1
theorem NX.bef (N : NX g) (ag : kAg EJ g h) {r s : Nat} (hr : r < mn g 0 16) (hs : s < mn g 0 16) : f_X10_isBefore 0 (nI r) (nI s) h = kret (if mn g 13 r < mn g 13 s ∨ mn g 13 r = mn g 13 s ∧ r < s then 1 else 0) h := by
  have T := (N.mx ag).1
  have hR := N.1.2.2.1.1
  obtain ⟨-, ⟨m1, m2⟩, -⟩ := N.1.2.2.2.2.1 r hr
  obtain ⟨-, ⟨m3, m4⟩, -⟩ := N.1.2.2.2.2.1 s hs
  have e1 : kI h 13 r = nI (mn g 13 r) := by rw [NX.e ag 13 r (by omega) (by omega) (by omega)]; exact m2
  have e2 : kI h 13 s = nI (mn g 13 s) := by rw [NX.e ag 13 s (by omega) (by omega) (by omega)]; exact m4
  unfold f_X10_isBefore
  rw [gN_k T.d0 T.r18, gAI_k T.d13 (by rw [T.n13]; omega) (by omega), gN_k T.d0 T.r18, gAI_k T.d13 (by rw [T.n13]; omega) (by omega), e1, e2]
  by_cases q1 : mn g 13 r < mn g 13 s
  · rw [kif_t (by rw [ka_lt (by omega) (by omega)]; exact q1), if_pos (Or.inl q1)]
    rfl
  · rw [kif_f (by rw [ka_lt (by omega) (by omega)]; exact q1), gN_k T.d0 T.r18, gAI_k T.d13 (by rw [T.n13]; omega) (by omega), gN_k T.d0 T.r18, gAI_k T.d13 (by rw [T.n13]; omega) (by omega), e1, e2]
    by_cases q2 : mn g 13 r = mn g 13 s
    · rw [kif_t (by rw [q2])]
      by_cases q3 : s ≤ r
      · rw [kif_t (by rw [ka_le (by omega) (by omega)]; exact q3), if_neg (by omega)]
        rfl
      · rw [kif_f (by rw [ka_le (by omega) (by omega)]; exact q3), if_pos (by omega)]
        rfl
    · rw [kif_f (by rw [ka_eq (by omega) (by omega)]; exact q2), if_neg (by omega)]
      rfl
/-- what comes behind -/
def nxC (g : KH) (o b : Option Nat) (r : Nat) : Prop := sPF g r = o ∧ ∀ x, b = some x → sBef (mn g) x r
def nxM (g : KH) (o b : Option Nat) (i : Nat) (f : Option Nat) : Prop := match f with
  | none => ∀ r, r < i → ¬ nxC g o b r
  | some x => x < i ∧ nxC g o b x ∧ ∀ r, r < i → nxC g o b r → r = x ∨ sBef (mn g) x r
theorem NX.nextL (N : NX g) (ag : kAg EJ g h) (hI : ∀ r, r < mn g 0 16 → kI h 18 r = cOf (sPF g r)) {o b : Option Nat} (ho : ∀ p, o = some p → p < 2147483648) (hb : ∀ x, b = some x → x < mn g 0 16) : ∀ (f i : Nat) (x : Option Nat), i ≤ mn g 0 16 → mn g 0 16 < i + f → nxM g o b i x → ∃ y, X10_next_L5 f 0 (cOf o) (cOf b) (cOf x) (nI i) h = kret (cOf y) h ∧ nxM g o b (mn g 0 16) y := by
  have T := (N.mx ag).1
  have hR := N.1.2.2.1
  have hP := N.1.2.1
  intro f
  induction f with
  | zero => intro i x h1 h2; omega
  | succ f ih =>
    intro i x h1 h2 h3
    unfold X10_next_L5 X10_next_b5
    rw [gI_k T.d0, NX.e ag 0 16 (by omega) (by omega) (by omega), hR.2]
    by_cases hi : mn g 0 16 ≤ i
    · obtain rfl : i = mn g 0 16 := by omega
      exact ⟨x, by rw [kif_t (by rw [ka_le (by omega) (by omega)]; exact hi)], h3⟩
    · have hir : i < mn g 0 16 := by omega
      have hxb : ∀ z, x = some z → z < i := fun z e => by rw [e] at h3; exact h3.1
      -- the reading doesn't count: what was found stays
      have hskip : ¬ nxC g o b i → ∃ y, X10_next_L5 f 0 (cOf o) (cOf b) (cOf x) (nI i + 1) h = kret (cOf y) h ∧ nxM g o b (mn g 0 16) y := by
        intro hn
        rw [nI_1]
        refine ih (i + 1) x (by omega) (by omega) ?_
        cases x with
        | none =>
          intro r hr
          by_cases hri : r = i
          · rw [hri]; exact hn
          · exact h3 r (by omega)
        | some z =>
          obtain ⟨w1, w2, w3⟩ := h3
          refine ⟨by omega, w2, fun r hr hc => ?_⟩
          by_cases hri : r = i
          · rw [hri] at hc
            exact absurd hc hn
          · exact w3 r (by omega) hc
      have h44 : ¬ nxC g o b i → ∃ y, X10_next_b44 (X10_next_L5 f) 0 (cOf o) (cOf b) (cOf x) (nI i) h = kret (cOf y) h ∧ nxM g o b (mn g 0 16) y := by
        intro hn
        unfold X10_next_b44 X10_next_b45
        rw [kif_t rfl]
        exact hskip hn
      have h40 : nxC g o b i → ∃ y, X10_next_b40 (X10_next_L5 f) 0 (cOf o) (cOf b) (cOf x) (nI i) h = kret (cOf y) h ∧ nxM g o b (mn g 0 16) y := by
        intro hc
        unfold X10_next_b40 X10_next_b45
        rw [kif_f (by decide)]
        have htake : (∀ r, r < i → nxC g o b r → sBef (mn g) i r) → ∃ y, X10_next_b67 (X10_next_L5 f) 0 (cOf o) (cOf b) (nI i) h = kret (cOf y) h ∧ nxM g o b (mn g 0 16) y := by
          intro hall
          unfold X10_next_b67 X10_next_b73
          rw [nI_1]
          refine ih (i + 1) (some i) (by omega) (by omega) ⟨by omega, hc, fun r hr hcr => ?_⟩
          by_cases hri : r = i
          · exact Or.inl hri
          · exact Or.inr (hall r (by omega) hcr)
        cases x with
        | none =>
          rw [kif_t (show cOf none = -1 from rfl)]
          exact htake (fun r hr hcr => absurd hcr (h3 r hr))
        | some z =>
          obtain ⟨w1, w2, w3⟩ := h3
          rw [kif_f (by show ¬ nI z = -1; rw [ka_n1 (by omega)]; exact fun q => q), kV_k T.d0]
          rw [show cOf (some z) = nI z from rfl, N.bef ag hir (show z < mn g 0 16 by omega), kb_ret]
          by_cases q : mn g 13 i < mn g 13 z ∨ mn g 13 i = mn g 13 z ∧ i < z
          · rw [if_pos q, kif_f (by decide)]
            refine htake (fun r hr hcr => ?_)
            rcases w3 r hr hcr with e | e
            · rw [e]; exact q
            · exact sBef_tr (show sBef (mn g) i z from q) e
          · rw [if_neg q, kif_t rfl]
            unfold X10_next_b72 X10_next_b73
            rw [nI_1]
            refine ih (i + 1) (some z) (by omega) (by omega) ⟨by omega, w2, fun r hr hcr => ?_⟩
            by_cases hri : r = i
            · rw [hri]
              exact Or.inr (sBef_to (show ¬ sBef (mn g) i z from q) (by omega))
            · exact w3 r (by omega) hcr
      rw [kif_f (by rw [ka_le (by omega) (by omega)]; exact hi), gN_k T.d0 T.r23, gAI_k T.d18 (by rw [T.n18]; omega) (by omega), hI i hir]
      have hpf : ∀ p, sPF g i = some p → p < 2147483648 := fun p e => by have := N.1.pf_lt hir e; omega
      by_cases q1 : sPF g i = o
      · rw [kif_t (by rw [q1])]
        cases b with
        | none =>
          rw [kif_t (show cOf none = -1 from rfl)]
          exact h40 ⟨q1, fun x e => by cases e⟩
        | some z =>
          have hz := hb z rfl
          rw [kif_f (by show ¬ nI z = -1; rw [ka_n1 (by omega)]; exact fun q => q), kV_k T.d0]
          rw [show cOf (some z) = nI z from rfl, N.bef ag hz hir, kb_ret]
          by_cases q : mn g 13 z < mn g 13 i ∨ mn g 13 z = mn g 13 i ∧ z < i
          · rw [if_pos q, kif_f (by decide)]
            exact h40 ⟨q1, fun x e => by cases e; exact q⟩
          · rw [if_neg q, kif_t rfl]
            exact h44 (fun w => q (w.2 z rfl))
      · rw [kif_f (by rw [cOf_inj hpf ho]; exact q1)]
        exact h44 (fun w => q1 w.1)
theorem NX.next (N : NX g) (ag : kAg EJ g h) (hI : ∀ r, r < mn g 0 16 → kI h 18 r = cOf (sPF g r)) {o : Option Nat} {l : List Nat} (ho : ∀ p, o = some p → p < 2147483648) (hl : sRw g o l) : f_X10_next 0 (cOf o) (-1) h = kret (cOf (lst l 0)) h ∧ ∀ k, k < l.length → f_X10_next 0 (cOf o) (nI (l.getD k 0)) h = kret (cOf (lst l (k + 1))) h := by
  obtain ⟨L, hm⟩ := hl
  have hR := N.1.2.2.1
  have hasym : ∀ x y, sBef (mn g) x y → ¬ sBef (mn g) y x := fun x y h1 h2 => by unfold sBef at h1 h2; omega
  -- position k0: everything from there on counts, and nothing ahead
  have key : ∀ (k0 : Nat) (b y : Option Nat), (∀ r, r < mn g 0 16 → (nxC g o b r ↔ ∃ k, k0 ≤ k ∧ k < l.length ∧ l.getD k 0 = r)) → nxM g o b (mn g 0 16) y → y = lst l k0 := by
    intro k0 b y hc hy
    unfold lst
    cases y with
    | none =>
      by_cases hk : k0 < l.length
      · exact absurd ((hc _ (L.1 k0 hk)).2 ⟨k0, Nat.le_refl _, hk, rfl⟩) (hy _ (L.1 k0 hk))
      · rw [if_neg hk]
    | some x =>
      obtain ⟨w1, w2, w3⟩ := hy
      obtain ⟨k, k1, k2, rfl⟩ := (hc x w1).1 w2
      have hk : k0 < l.length := by omega
      rw [if_pos hk]
      have h4 := w3 _ (L.1 k0 hk) ((hc _ (L.1 k0 hk)).2 ⟨k0, Nat.le_refl _, hk, rfl⟩)
      rcases h4 with h4 | h4
      · rw [h4]
      · by_cases hkk : k = k0
        · rw [hkk]
        · exact absurd h4 (hasym _ _ (L.2 k0 k (by omega) k2))
  constructor
  · obtain ⟨y, e1, e2⟩ := N.nextL ag hI (o := o) (b := none) ho (fun x e => by cases e) kF 0 none (by omega) (by unfold kF; omega) (fun r hr => absurd hr (Nat.not_lt_zero _))
    rw [← key 0 none y (fun r hr => ⟨fun w => by
      obtain ⟨k, k1, k2⟩ := (hm r hr).1 w.1
      exact ⟨k, by omega, k1, k2⟩, fun ⟨k, _, k1, k2⟩ => ⟨(hm r hr).2 ⟨k, k1, k2⟩, fun x e => by cases e⟩⟩) e2]
    exact e1
  · intro k hk
    obtain ⟨y, e1, e2⟩ := N.nextL ag hI (o := o) (b := some (l.getD k 0)) ho (fun x e => by cases e; exact L.1 k hk) kF 0 none (by omega) (by unfold kF; omega) (fun r hr => absurd hr (Nat.not_lt_zero _))
    rw [← key (k + 1) (some (l.getD k 0)) y (fun r hr => ⟨fun w => by
      obtain ⟨k', k1, k2⟩ := (hm r hr).1 w.1
      have h5 := w.2 _ rfl
      refine ⟨k', ?_, k1, k2⟩
      by_cases q : k < k'
      · exact q
      · exfalso
        rw [← k2] at h5
        by_cases q2 : k' = k
        · rw [q2] at h5
          exact hasym _ _ h5 h5
        · exact hasym _ _ h5 (L.2 k' k (by omega) hk), fun ⟨k', k0, k1, k2⟩ => ⟨(hm r hr).2 ⟨k', k1, k2⟩, fun x e => by
        cases e
        rw [← k2]
        exact L.2 k k' (by omega) k1⟩⟩) e2]
    exact e1
end KNEXT
