/-! texts from their ends -/
theorem tl_tri (a b : List Nat) : a < b ∨ a = b ∨ b < a := by
  rcases Classical.em (a < b) with h | h
  · exact Or.inl h
  · have h2 := List.not_lt.mp h
    by_cases e : a = b
    · exact Or.inr (Or.inl e)
    · exact Or.inr (Or.inr (Std.lt_of_le_of_ne h2 (fun z => e z.symm)))
/-- like up to here: what decides -/
theorem tl_at : ∀ (i : Nat) (a b : List Nat), i ≤ a.length → i ≤ b.length → (∀ k, k < i → a.getD k 0 = b.getD k 0) → ((i = a.length ∨ i = b.length) → (a < b ↔ a.length < b.length)) ∧ (i < a.length → i < b.length → a.getD i 0 ≠ b.getD i 0 → (a < b ↔ a.getD i 0 < b.getD i 0)) := by
  intro i
  induction i with
  | zero =>
    intro a b h1 h2 h3
    cases a with
    | nil =>
      cases b with
      | nil => exact ⟨fun _ => ⟨fun z => absurd z (List.not_lt_nil _), fun z => absurd z (by simp)⟩, fun z => absurd z (by simp)⟩
      | cons y b => exact ⟨fun _ => ⟨fun _ => by simp, fun _ => List.nil_lt_cons _ _⟩, fun z => absurd z (by simp)⟩
    | cons x a =>
      cases b with
      | nil => exact ⟨fun _ => ⟨fun z => absurd z (List.not_lt_nil _), fun z => absurd z (by simp)⟩, fun _ z => absurd z (by simp)⟩
      | cons y b =>
        refine ⟨fun z => ?_, fun _ _ hne => ?_⟩
        · rcases z with z | z <;> simp at z
        · rw [List.cons_lt_cons_iff]
          exact ⟨fun z => z.resolve_right (fun q => hne q.1), fun z => Or.inl z⟩
  | succ i ih =>
    intro a b h1 h2 h3
    cases a with
    | nil => simp at h1
    | cons x a =>
      cases b with
      | nil => simp at h2
      | cons y b =>
        have hxy : x = y := h3 0 (by omega)
        subst hxy
        obtain ⟨i1, i2⟩ := ih a b (by simpa using h1) (by simpa using h2) (fun k hk => h3 (k + 1) (by omega))
        have e : (x :: a < x :: b) ↔ a < b := by
          rw [List.cons_lt_cons_iff]
          exact ⟨fun z => z.elim (fun q => absurd q (Nat.lt_irrefl _)) (fun q => q.2), fun z => Or.inr ⟨rfl, z⟩⟩
        refine ⟨fun z => ?_, fun z1 z2 z3 => ?_⟩
        · rw [e, i1 (by simpa using z)]
          simp
        · rw [e]
          exact i2 (by simpa using z1) (by simpa using z2) z3
theorem sTl_len (m : Nat → Nat → Nat) (p : Nat) : (sTl m p).length = m 6 p := by
  unfold sTl
  rw [List.length_map, List.length_range]
theorem sTl_at (m : Nat → Nat → Nat) (p k : Nat) (h : k < m 6 p) : (sTl m p).getD k 0 = m 7 (6 * p + (m 6 p - 1 - k)) := by
  unfold sTl
  rw [List.getD_eq_getElem?_getD, List.getElem?_map, List.getElem?_range h]
  rfl
section KAHEAD
variable {h : KH}
theorem MX.signAt (M : MX h) {p k : Nat} (hp : p < mn h 0 8) (hk : k < mn h 6 p) : f_X10_signAt 0 (nI p) (nI (k + 1)) h = kret (nI ((sTl (mn h) p).getD k 0)) h := by
  have MM := M
  obtain ⟨T, ⟨m1, -⟩, -, m3, -⟩ := MM
  obtain ⟨⟨p1, p2⟩, p3, p4⟩ := m3 p hp
  unfold f_X10_signAt
  rw [gN_k T.d0 T.r10, gN_k T.d0 T.r9, gAI_k T.d6 (by rw [T.n6]; omega) (by omega), p3, mc_idx6, ka_sub (by omega), gAI_k T.d7 (by rw [T.n7]; omega) (by omega), show 6 * p + mn h 6 p - (k + 1) = 6 * p + (mn h 6 p - 1 - k) by omega, (p4 _ (by omega)).2, sTl_at _ _ _ hk]
theorem MX.signAt_le (M : MX h) {p k : Nat} (hp : p < mn h 0 8) (hk : k < mn h 6 p) : (sTl (mn h) p).getD k 0 < 14 := by
  rw [sTl_at _ _ _ hk]
  exact (((M.2.2.2.1 p hp).2.2) _ (by omega)).1
theorem MX.aheadL (M : MX h) {p q : Nat} (hp : p < mn h 0 8) (hq : q < mn h 0 8) : ∀ (f i : Nat), i ≤ mn h 6 p → i ≤ mn h 6 q → 6 < i + f → (∀ k, k < i → (sTl (mn h) p).getD k 0 = (sTl (mn h) q).getD k 0) → X10_isAhead_L2 f 0 (nI p) (nI q) (nI (i + 1)) h = kret (if sTl (mn h) p < sTl (mn h) q then 1 else 0) h := by
  have MM := M
  obtain ⟨T, ⟨m1, -⟩, -, m3, -⟩ := MM
  obtain ⟨⟨p1, p2⟩, p3, p4⟩ := m3 p hp
  obtain ⟨⟨q1, q2⟩, q3, q4⟩ := m3 q hq
  intro f
  induction f with
  | zero => intro i h1 h2 h3; omega
  | succ f ih =>
    intro i h1 h2 h3 h4
    obtain ⟨t1, t2⟩ := tl_at i (sTl (mn h) p) (sTl (mn h) q) (by rw [sTl_len]; exact h1) (by rw [sTl_len]; exact h2) h4
    rw [sTl_len, sTl_len] at t1 t2
    have hG : ∀ (s0 : Int32), kif (nI (mn h 6 q) ≤ nI (mn h 6 p)) (X10_isAhead_b118 0 h) (X10_isAhead_b118 1 h) = kret (if mn h 6 p < mn h 6 q then 1 else 0) h := by
      intro s0
      by_cases g : mn h 6 q ≤ mn h 6 p
      · rw [kif_t (by rw [ka_le (by omega) (by omega)]; exact g), if_neg (by omega)]
        rfl
      · rw [kif_f (by rw [ka_le (by omega) (by omega)]; exact g), if_pos (by omega)]
        rfl
    have hE : X10_isAhead_b68 0 (nI p) (nI q) (nI (i + 1)) 1 h = kret (if mn h 6 p < mn h 6 q then 1 else 0) h := by
      unfold X10_isAhead_b68
      rw [kif_f (by decide), gN_k T.d0 T.r9, gAI_k T.d6 (by rw [T.n6]; omega) (by omega), p3, gN_k T.d0 T.r9, gAI_k T.d6 (by rw [T.n6]; omega) (by omega), q3]
      exact hG 0
    unfold X10_isAhead_L2 X10_isAhead_b2
    rw [gN_k T.d0 T.r9, gAI_k T.d6 (by rw [T.n6]; omega) (by omega), p3]
    by_cases g1 : i = mn h 6 p
    · rw [kif_t (by rw [ka_lt (by omega) (by omega)]; omega)]
      unfold X10_isAhead_b43
      rw [gN_k T.d0 T.r9, gAI_k T.d6 (by rw [T.n6]; omega) (by omega), p3, kif_t (by rw [ka_lt (by omega) (by omega)]; omega)]
      unfold X10_isAhead_b63
      rw [hE]
      simp only [t1 (Or.inl g1)]
    · rw [kif_f (by rw [ka_lt (by omega) (by omega)]; omega), gN_k T.d0 T.r9, gAI_k T.d6 (by rw [T.n6]; omega) (by omega), q3]
      by_cases g2 : i = mn h 6 q
      · rw [kif_t (by rw [ka_lt (by omega) (by omega)]; omega)]
        unfold X10_isAhead_b43
        rw [gN_k T.d0 T.r9, gAI_k T.d6 (by rw [T.n6]; omega) (by omega), p3, kif_f (by rw [ka_lt (by omega) (by omega)]; omega), gN_k T.d0 T.r9, gAI_k T.d6 (by rw [T.n6]; omega) (by omega), q3, kif_f (by rw [ka_le (by omega) (by omega)]; omega)]
        unfold X10_isAhead_b63
        rw [hE]
        simp only [t1 (Or.inr g2)]
      · have l1 := M.signAt_le hp (k := i) (by omega)
        have l2 := M.signAt_le hq (k := i) (by omega)
        rw [kif_f (by rw [ka_lt (by omega) (by omega)]; omega), kV_k T.d0, M.signAt hp (k := i) (by omega), kb_ret, kV_k T.d0, M.signAt hq (k := i) (by omega), kb_ret]
        by_cases g3 : (sTl (mn h) p).getD i 0 = (sTl (mn h) q).getD i 0
        · rw [kif_t (by rw [g3]), nI_1]
          exact ih (i + 1) (by omega) (by omega) (by omega) (fun k hk => by
            by_cases hki : k = i
            · rw [hki]; exact g3
            · exact h4 k (by omega))
        · rw [kif_f (by rw [ka_eq (by omega) (by omega)]; exact g3)]
          unfold X10_isAhead_b43
          rw [gN_k T.d0 T.r9, gAI_k T.d6 (by rw [T.n6]; omega) (by omega), p3, kif_f (by rw [ka_lt (by omega) (by omega)]; omega), gN_k T.d0 T.r9, gAI_k T.d6 (by rw [T.n6]; omega) (by omega), q3, kif_t (by rw [ka_le (by omega) (by omega)]; omega)]
          unfold X10_isAhead_b68
          rw [kif_t rfl, kV_k T.d0, M.signAt hp (k := i) (by omega), kb_ret, kV_k T.d0, M.signAt hq (k := i) (by omega), kb_ret]
          simp only [t2 (by omega) (by omega) g3]
          by_cases g4 : (sTl (mn h) q).getD i 0 ≤ (sTl (mn h) p).getD i 0
          · rw [kif_t (by rw [ka_le (by omega) (by omega)]; exact g4), if_neg (by omega)]
            rfl
          · rw [kif_f (by rw [ka_le (by omega) (by omega)]; exact g4), if_pos (by omega)]
            rfl
theorem MX.ahead (M : MX h) {p q : Nat} (hp : p < mn h 0 8) (hq : q < mn h 0 8) : f_X10_isAhead 0 (nI p) (nI q) h = kret (if sTl (mn h) p < sTl (mn h) q then 1 else 0) h :=
  M.aheadL hp hq kF 0 (by omega) (by omega) (by unfold kF; omega) (fun k hk => by omega)
end KAHEAD
/-! the best plate -/
def isBest (m : Nat → Nat → Nat) (r : Nat) (S : Nat → Prop) (b : Nat) : Prop := S b ∧ ∃ cb, sCost m r b = some cb ∧ ∀ q c, S q → sCost m r q = some c → cb < c ∨ cb = c ∧ (q = b ∨ sTl m b < sTl m q)
def bestOf (m : Nat → Nat → Nat) (r : Nat) (S : Nat → Prop) (o : Option Nat) : Prop := match o with
  | none => ∀ q, S q → sCost m r q = none
  | some b => isBest m r S b
theorem bestOf_uniq {m : Nat → Nat → Nat} {r : Nat} {S : Nat → Prop} {o o' : Option Nat} (h : bestOf m r S o) (h' : bestOf m r S o') : o = o' := by
  cases o with
  | none =>
    cases o' with
    | none => rfl
    | some b =>
      obtain ⟨s1, cb, s2, -⟩ := h'
      rw [h b s1] at s2
      cases s2
  | some a =>
    obtain ⟨t1, ca, t2, t3⟩ := h
    cases o' with
    | none =>
      rw [h' a t1] at t2
      cases t2
    | some b =>
      obtain ⟨s1, cb, s2, s3⟩ := h'
      have e1 := t3 b cb s1 s2
      have e2 := s3 a ca t1 t2
      rcases e1 with e1 | ⟨e1, rfl | e1'⟩
      · omega
      · rfl
      · rcases e2 with e2 | ⟨-, rfl | e2'⟩
        · omega
        · rfl
        · exact absurd e2' (List.lt_asymm e1')
theorem bestOf_sub {m : Nat → Nat → Nat} {r : Nat} {S S' : Nat → Prop} {o : Option Nat} (h : bestOf m r S o) (e : ∀ q, S q ↔ S' q) : bestOf m r S' o := by
  cases o with
  | none => exact fun q hq => h q ((e q).2 hq)
  | some b =>
    obtain ⟨s1, cb, s2, s3⟩ := h
    exact ⟨(e b).1 s1, cb, s2, fun q c hq => s3 q c ((e q).2 hq)⟩
theorem sBest_of {m : Nat → Nat → Nat} {r P : Nat} (hd : ∀ p q, p < q → q < P → sTl m p ≠ sTl m q) : ∀ k, k ≤ P → bestOf m r (fun q => q < k) (sBest m r k) := by
  intro k
  induction k with
  | zero => intro _ q hq; exact absurd hq (Nat.not_lt_zero _)
  | succ k ih =>
    intro hk
    have h1 := ih (by omega)
    unfold sBest
    cases e1 : sCost m r k with
    | none =>
      show bestOf m r _ (sBest m r k)
      cases e2 : sBest m r k with
      | none =>
        rw [e2] at h1
        intro q hq
        by_cases hqk : q = k
        · rw [hqk]; exact e1
        · exact h1 q (by omega)
      | some b =>
        rw [e2] at h1
        obtain ⟨s1, cb, s2, s3⟩ := h1
        refine ⟨by omega, cb, s2, fun q c hq hc => ?_⟩
        by_cases hqk : q = k
        · rw [hqk, e1] at hc; cases hc
        · exact s3 q c (by omega) hc
    | some c =>
      cases e2 : sBest m r k with
      | none =>
        rw [e2] at h1
        refine ⟨by omega, c, e1, fun q c' hq hc => ?_⟩
        by_cases hqk : q = k
        · rw [hqk, e1] at hc
          cases hc
          exact Or.inr ⟨rfl, Or.inl hqk⟩
        · rw [h1 q (by omega)] at hc
          cases hc
      | some b =>
        rw [e2] at h1
        obtain ⟨s1, cb, s2, s3⟩ := h1
        show bestOf m r _ (if c < (sCost m r b).getD 0 ∨ (c = (sCost m r b).getD 0 ∧ sTl m k < sTl m b) then some k else some b)
        rw [s2]
        show bestOf m r _ (if c < cb ∨ (c = cb ∧ sTl m k < sTl m b) then some k else some b)
        by_cases g : c < cb ∨ (c = cb ∧ sTl m k < sTl m b)
        · rw [if_pos g]
          refine ⟨by omega, c, e1, fun q c' hq hc => ?_⟩
          by_cases hqk : q = k
          · rw [hqk, e1] at hc
            cases hc
            exact Or.inr ⟨rfl, Or.inl hqk⟩
          · have h4 := s3 q c' (by omega) hc
            rcases g with g | ⟨g, g'⟩
            · left
              omega
            · rcases h4 with h4 | ⟨h4, h5⟩
              · left
                omega
              · right
                refine ⟨by omega, Or.inr ?_⟩
                rcases h5 with h5 | h5
                · rw [h5]; exact g'
                · exact List.lt_trans g' h5
        · rw [if_neg g]
          refine ⟨by omega, cb, s2, fun q c' hq hc => ?_⟩
          by_cases hqk : q = k
          · rw [hqk, e1] at hc
            cases hc
            by_cases g2 : cb < c
            · exact Or.inl g2
            · have g3 : cb = c := Classical.byContradiction fun z => g (Or.inl (by omega))
              refine Or.inr ⟨g3, Or.inr ?_⟩
              rw [hqk]
              rcases tl_tri (sTl m b) (sTl m k) with z | z | z
              · exact z
              · exact absurd z (hd b k (by omega) (by omega))
              · exact absurd (Or.inr ⟨g3.symm, z⟩) g
          · exact s3 q c' (by omega) hc
theorem sBest_lt {m : Nat → Nat → Nat} {r : Nat} : ∀ k b, sBest m r k = some b → b < k ∧ ∃ c, sCost m r b = some c := by
  intro k
  induction k with
  | zero => intro b h; cases h
  | succ k ih =>
    intro b h
    unfold sBest at h
    cases e1 : sCost m r k with
    | none =>
      rw [e1] at h
      obtain ⟨i1, i2⟩ := ih b h
      exact ⟨by omega, i2⟩
    | some c =>
      rw [e1] at h
      cases e2 : sBest m r k with
      | none =>
        rw [e2] at h
        cases h
        exact ⟨by omega, c, e1⟩
      | some b' =>
        rw [e2] at h
        have h' : (if c < (sCost m r b').getD 0 ∨ (c = (sCost m r b').getD 0 ∧ sTl m k < sTl m b') then some k else some b') = some b := h
        split at h'
        · cases h'
          exact ⟨by omega, c, e1⟩
        · cases h'
          obtain ⟨i1, i2⟩ := ih _ e2
          exact ⟨by omega, i2⟩
theorem sCost_le {m : Nat → Nat → Nat} {r p t : Nat} (h : sCost m r p = some t) : t ≤ 2 * m 14 r := by
  unfold sCost at h
  split at h
  · exact sCst_le _ _ h
  · cases h
