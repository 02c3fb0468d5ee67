def b01 (b : Bool) : Int32 := if b = true then 1 else 0
theorem b01_0 (b : Bool) : (b01 b = 0) = ¬ (b = true) := by
  cases b <;> simp [b01]
/-! ways through a net of roads -/
def WK (L : Nat → Nat → Nat) : Nat → Nat → Nat → Nat → Prop
  | 0, i, j, w => i = j ∧ w = 0
  | n + 1, i, j, w => ∃ k u, k < 8 ∧ WK L n i k u ∧ L k j ≠ 0 ∧ w = u + L k j
def isDi (L : Nat → Nat → Nat) (i j : Nat) (o : Option Nat) : Prop := match o with
  | none => ∀ n w, ¬ WK L n i j w
  | some d => (∃ n, WK L n i j d) ∧ ∀ n w, WK L n i j w → d ≤ w
theorem isDi_uniq {L : Nat → Nat → Nat} {i j : Nat} {o o' : Option Nat} (h : isDi L i j o) (h' : isDi L i j o') : o = o' := by
  cases o with
  | none =>
    cases o' with
    | none => rfl
    | some d =>
      obtain ⟨⟨n, hn⟩, -⟩ := h'
      exact absurd hn (h n d)
  | some d =>
    obtain ⟨⟨n, hn⟩, h2⟩ := h
    cases o' with
    | none => exact absurd hn (h' n d)
    | some d' =>
      obtain ⟨⟨n', hn'⟩, h2'⟩ := h'
      have := h2 n' d' hn'
      have := h2' n d hn
      rw [show d = d' by omega]
theorem WK.app {L : Nat → Nat → Nat} {i k : Nat} (hk : k < 8) : ∀ (m n j u v : Nat), WK L n i k u → WK L m k j v → ∃ q, WK L q i j (u + v) := by
  intro m
  induction m with
  | zero =>
    intro n j u v h1 h2
    obtain ⟨rfl, rfl⟩ := h2
    exact ⟨n, h1⟩
  | succ m ih =>
    intro n j u v h1 h2
    obtain ⟨x, w, hx, h3, h4, rfl⟩ := h2
    obtain ⟨q, hq⟩ := ih n x u w h1 h3
    exact ⟨q + 1, x, u + w, hx, hq, h4, by omega⟩
def leO (o : Option Nat) (w : Nat) : Prop := ∃ d, o = some d ∧ d ≤ w
/-! over more and more gates -/
def kF0 (L : Nat → Nat → Nat) (i j : Nat) : Option Nat := if i = j then some 0 else if L i j = 0 then none else some (L i j)
def stp (m : Nat) (F : Nat → Nat → Option Nat) (i j : Nat) : Option Nat := match F i m, F m j with
  | some a, some b => (match F i j with
    | none => some (a + b)
    | some c => if a + b < c then some (a + b) else some c)
  | _, _ => F i j
def FWn (L : Nat → Nat → Nat) : Nat → Nat → Nat → Option Nat
  | 0 => kF0 L
  | m + 1 => stp m (FWn L m)
theorem stp_none {m : Nat} {F : Nat → Nat → Option Nat} {i j : Nat} (h : F i m = none ∨ F m j = none) : stp m F i j = F i j := by
  unfold stp
  rcases h with h | h
  · rw [h]
  · rw [h]
    cases F i m <;> rfl
theorem stp_some {m : Nat} {F : Nat → Nat → Option Nat} {i j a b : Nat} (h1 : F i m = some a) (h2 : F m j = some b) : stp m F i j = (match F i j with
    | none => some (a + b)
    | some c => if a + b < c then some (a + b) else some c) := by
  unfold stp
  rw [h1, h2]
theorem stp_le {m : Nat} {F : Nat → Nat → Option Nat} {i j w : Nat} : leO (stp m F i j) w ↔ leO (F i j) w ∨ ∃ a b, F i m = some a ∧ F m j = some b ∧ a + b ≤ w := by
  cases e1 : F i m with
  | none =>
    rw [stp_none (Or.inl e1)]
    exact ⟨Or.inl, fun z => z.elim id (fun ⟨a, b, q, _⟩ => by cases q)⟩
  | some a =>
    cases e2 : F m j with
    | none =>
      rw [stp_none (Or.inr e2)]
      exact ⟨Or.inl, fun z => z.elim id (fun ⟨a, b, _, q, _⟩ => by cases q)⟩
    | some b =>
      rw [stp_some e1 e2]
      cases e3 : F i j with
      | none =>
        constructor
        · rintro ⟨d, q1, q2⟩
          cases q1
          exact Or.inr ⟨a, b, rfl, rfl, q2⟩
        · rintro (⟨d, q1, q2⟩ | ⟨a', b', q1, q2, q3⟩)
          · cases q1
          · cases q1; cases q2
            exact ⟨a + b, rfl, q3⟩
      | some c =>
        show leO (if a + b < c then some (a + b) else some c) w ↔ _
        by_cases g : a + b < c
        · rw [if_pos g]
          constructor
          · rintro ⟨d, q1, q2⟩
            cases q1
            exact Or.inr ⟨a, b, rfl, rfl, q2⟩
          · rintro (⟨d, q1, q2⟩ | ⟨a', b', q1, q2, q3⟩)
            · cases q1
              exact ⟨a + b, rfl, by omega⟩
            · cases q1; cases q2
              exact ⟨a + b, rfl, q3⟩
        · rw [if_neg g]
          constructor
          · rintro ⟨d, q1, q2⟩
            cases q1
            exact Or.inl ⟨c, rfl, q2⟩
          · rintro (⟨d, q1, q2⟩ | ⟨a', b', q1, q2, q3⟩)
            · cases q1
              exact ⟨c, rfl, q2⟩
            · cases q1; cases q2
              exact ⟨c, rfl, by omega⟩
theorem stp_cases {m : Nat} {F : Nat → Nat → Option Nat} {i j d : Nat} (h : stp m F i j = some d) : F i j = some d ∨ ∃ a b, F i m = some a ∧ F m j = some b ∧ d = a + b := by
  cases e1 : F i m with
  | none => rw [stp_none (Or.inl e1)] at h; exact Or.inl h
  | some a =>
    cases e2 : F m j with
    | none => rw [stp_none (Or.inr e2)] at h; exact Or.inl h
    | some b =>
      rw [stp_some e1 e2] at h
      cases e3 : F i j with
      | none =>
        rw [e3] at h
        cases h
        exact Or.inr ⟨a, b, rfl, rfl, rfl⟩
      | some c =>
        rw [e3] at h
        have h' : (if a + b < c then some (a + b) else some c) = some d := h
        by_cases g : a + b < c
        · rw [if_pos g] at h'
          cases h'
          exact Or.inr ⟨a, b, rfl, rfl, rfl⟩
        · rw [if_neg g] at h'
          cases h'
          exact Or.inl rfl
theorem stp_row {m : Nat} {F : Nat → Nat → Option Nat} (h0 : F m m = some 0) (i : Nat) : stp m F i m = F i m := by
  cases e1 : F i m with
  | none => rw [stp_none (Or.inl e1), e1]
  | some a =>
    rw [stp_some e1 h0, e1]
    show (if a + 0 < a then some (a + 0) else some a) = some a
    rw [if_neg (by omega)]
theorem stp_col {m : Nat} {F : Nat → Nat → Option Nat} (h0 : F m m = some 0) (j : Nat) : stp m F m j = F m j := by
  cases e1 : F m j with
  | none => rw [stp_none (Or.inr e1), e1]
  | some a =>
    rw [stp_some h0 e1, e1]
    show (if 0 + a < a then some (0 + a) else some a) = some a
    rw [if_neg (by omega)]
section KFW
variable {L : Nat → Nat → Nat}
theorem FW_diag : ∀ m i, FWn L m i i = some 0 := by
  intro m
  induction m with
  | zero => intro i; exact if_pos rfl
  | succ m ih =>
    intro i
    show stp m (FWn L m) i i = some 0
    have h : leO (stp m (FWn L m) i i) 0 := stp_le.2 (Or.inl ⟨0, ih i, Nat.le_refl _⟩)
    obtain ⟨d, q1, q2⟩ := h
    rw [q1, show d = 0 by omega]
theorem FW_bound (hL : ∀ i j, i < 8 → j < 8 → L i j ≤ 200) : ∀ m, m ≤ 8 → ∀ i j d, i < 8 → j < 8 → FWn L m i j = some d → d ≤ 200 * 2 ^ m := by
  intro m
  induction m with
  | zero =>
    intro _ i j d hi hj h
    have h' : (if i = j then some 0 else if L i j = 0 then none else some (L i j)) = some d := h
    split at h'
    · cases h'; omega
    · split at h'
      · cases h'
      · cases h'
        have := hL i j hi hj
        omega
  | succ m ih =>
    intro hm i j d hi hj h
    have hp : 2 ^ (m + 1) = 2 * 2 ^ m := by rw [Nat.pow_succ, Nat.mul_comm]
    rcases stp_cases h with h1 | ⟨a, b, h1, h2, rfl⟩
    · have := ih (by omega) i j d hi hj h1
      omega
    · have q1 := ih (by omega) i m a hi (by omega) h1
      have q2 := ih (by omega) m j b (by omega) hj h2
      omega
theorem FW_sound : ∀ m, m ≤ 8 → ∀ i j d, i < 8 → j < 8 → FWn L m i j = some d → ∃ n, WK L n i j d := by
  intro m
  induction m with
  | zero =>
    intro _ i j d hi hj h
    have h' : (if i = j then some 0 else if L i j = 0 then none else some (L i j)) = some d := h
    split at h'
    · rename_i e
      cases h'
      exact ⟨0, e, rfl⟩
    · split at h'
      · cases h'
      · rename_i e
        cases h'
        exact ⟨1, i, 0, hi, ⟨rfl, rfl⟩, e, by omega⟩
  | succ m ih =>
    intro hm i j d hi hj h
    rcases stp_cases h with h1 | ⟨a, b, h1, h2, rfl⟩
    · exact ih (by omega) i j d hi hj h1
    · obtain ⟨n1, w1⟩ := ih (by omega) i m a hi (by omega) h1
      obtain ⟨n2, w2⟩ := ih (by omega) m j b (by omega) hj h2
      exact WK.app (by omega) n2 n1 j a b w1 w2
theorem FW_edge (h0 : ∀ i, L i i = 0) : ∀ m i j, L i j ≠ 0 → leO (FWn L m i j) (L i j) := by
  intro m
  induction m with
  | zero =>
    intro i j h
    have hij : i ≠ j := fun e => h (by rw [e]; exact h0 j)
    exact ⟨L i j, by show (if i = j then some 0 else if L i j = 0 then none else some (L i j)) = _; rw [if_neg hij, if_neg h], Nat.le_refl _⟩
  | succ m ih => intro i j h; exact stp_le.2 (Or.inl (ih i j h))
theorem FW_tri : ∀ m i j k a b, k < m → leO (FWn L m i k) a → leO (FWn L m k j) b → leO (FWn L m i j) (a + b) := by
  intro m
  induction m with
  | zero => intro i j k a b hk; exact absurd hk (Nat.not_lt_zero _)
  | succ m ih =>
    intro i j k a b hk h1 h2
    have hd := FW_diag (L := L) m m
    by_cases hkm : k = m
    · subst hkm
      have h1' : leO (FWn L k i k) a := by
        have := h1
        show leO (FWn L k i k) a
        rw [← stp_row hd i]
        exact this
      have h2' : leO (FWn L k k j) b := by
        have := h2
        rw [← stp_col hd j]
        exact this
      obtain ⟨x, x1, x2⟩ := h1'
      obtain ⟨y, y1, y2⟩ := h2'
      exact stp_le.2 (Or.inr ⟨x, y, x1, y1, by omega⟩)
    · rcases stp_le.1 h1 with h1 | ⟨x, y, x1, y1, z1⟩
      · rcases stp_le.1 h2 with h2 | ⟨x', y', x2, y2, z2⟩
        · exact stp_le.2 (Or.inl (ih i j k a b (by omega) h1 h2))
        · obtain ⟨q, q1, q2⟩ := ih i m k a x' (by omega) h1 ⟨x', x2, Nat.le_refl _⟩
          exact stp_le.2 (Or.inr ⟨q, y', q1, y2, by omega⟩)
      · rcases stp_le.1 h2 with h2 | ⟨x', y', x2, y2, z2⟩
        · obtain ⟨q, q1, q2⟩ := ih m j k y b (by omega) ⟨y, y1, Nat.le_refl _⟩ h2
          exact stp_le.2 (Or.inr ⟨x, q, x1, q1, by omega⟩)
        · exact stp_le.2 (Or.inr ⟨x, y', x1, y2, by omega⟩)
theorem FW_dist (h0 : ∀ i, L i i = 0) {i j : Nat} (hi : i < 8) (hj : j < 8) : isDi L i j (FWn L 8 i j) := by
  have hc : ∀ n j w, j < 8 → WK L n i j w → leO (FWn L 8 i j) w := by
    intro n
    induction n with
    | zero =>
      rintro j w hj ⟨rfl, rfl⟩
      exact ⟨0, FW_diag 8 i, Nat.le_refl _⟩
    | succ n ih =>
      rintro j w hj ⟨k, u, hk, h1, h2, rfl⟩
      exact FW_tri 8 i j k u (L k j) hk (ih k u hk h1) (FW_edge h0 8 k j h2)
  cases e : FWn L 8 i j with
  | none =>
    intro n w hw
    obtain ⟨d, q1, -⟩ := hc n j w hj hw
    rw [e] at q1
    cases q1
  | some d =>
    refine ⟨FW_sound 8 (Nat.le_refl _) i j d hi hj e, fun n w hw => ?_⟩
    obtain ⟨d', q1, q2⟩ := hc n j w hj hw
    rw [e] at q1
    cases q1
    exact q2
end KFW
/-! from one gate: the nearest one left, again and again -/
def rlx (L : Nat → Nat → Nat) (W : Nat → Option Nat) (g d v : Nat) : Option Nat := if L g v = 0 then W v else match W v with
  | none => some (d + L g v)
  | some c => if d + L g v < c then some (d + L g v) else some c
theorem rlx_le {L : Nat → Nat → Nat} {W : Nat → Option Nat} {g d v w : Nat} : leO (rlx L W g d v) w ↔ leO (W v) w ∨ L g v ≠ 0 ∧ d + L g v ≤ w := by
  unfold rlx
  by_cases h : L g v = 0
  · rw [if_pos h]
    exact ⟨Or.inl, fun z => z.elim id (fun q => absurd h q.1)⟩
  · rw [if_neg h]
    cases e : W v with
    | none =>
      constructor
      · rintro ⟨x, q1, q2⟩
        cases q1
        exact Or.inr ⟨h, q2⟩
      · rintro (⟨x, q1, q2⟩ | ⟨-, q2⟩)
        · cases q1
        · exact ⟨_, rfl, q2⟩
    | some c =>
      show leO (if d + L g v < c then some (d + L g v) else some c) w ↔ _
      by_cases q : d + L g v < c
      · rw [if_pos q]
        constructor
        · rintro ⟨x, q1, q2⟩
          cases q1
          exact Or.inr ⟨h, q2⟩
        · rintro (⟨x, q1, q2⟩ | ⟨-, q2⟩)
          · cases q1
            exact ⟨_, rfl, by omega⟩
          · exact ⟨_, rfl, q2⟩
      · rw [if_neg q]
        constructor
        · rintro ⟨x, q1, q2⟩
          cases q1
          exact Or.inl ⟨c, rfl, q2⟩
        · rintro (⟨x, q1, q2⟩ | ⟨-, q2⟩)
          · cases q1
            exact ⟨c, rfl, q2⟩
          · exact ⟨c, rfl, by omega⟩
theorem rlx_cases {L : Nat → Nat → Nat} {W : Nat → Option Nat} {g d v x : Nat} (h : rlx L W g d v = some x) : W v = some x ∨ L g v ≠ 0 ∧ x = d + L g v := by
  unfold rlx at h
  by_cases h0 : L g v = 0
  · rw [if_pos h0] at h
    exact Or.inl h
  · rw [if_neg h0] at h
    cases e : W v with
    | none =>
      rw [e] at h
      cases h
      exact Or.inr ⟨h0, rfl⟩
    | some c =>
      rw [e] at h
      have h' : (if d + L g v < c then some (d + L g v) else some c) = some x := h
      by_cases q : d + L g v < c
      · rw [if_pos q] at h'
        cases h'
        exact Or.inr ⟨h0, rfl⟩
      · rw [if_neg q] at h'
        cases h'
        exact Or.inl rfl
def cnD (D : Nat → Bool) : Nat → Nat
  | 0 => 0
  | n + 1 => cnD D n + if D n = true then 1 else 0
theorem cnD_le (D : Nat → Bool) (n : Nat) : cnD D n ≤ n := by
  induction n with
  | zero => exact Nat.le_refl _
  | succ n ih =>
    show cnD D n + _ ≤ _
    split <;> omega
theorem cnD_all {D : Nat → Bool} : ∀ n, cnD D n = n → ∀ v, v < n → D v = true := by
  intro n
  induction n with
  | zero => intro _ v hv; exact absurd hv (Nat.not_lt_zero _)
  | succ n ih =>
    intro h v hv
    have h' : cnD D n + (if D n = true then 1 else 0) = n + 1 := h
    have hle := cnD_le D n
    by_cases g : D n = true
    · rw [if_pos g] at h'
      by_cases hvn : v = n
      · rw [hvn]; exact g
      · exact ih (by omega) v (by omega)
    · rw [if_neg g] at h'
      omega
theorem cnD_set {D D' : Nat → Bool} {g : Nat} (hg : D g = false) (h : ∀ v, D' v = if v = g then true else D v) : ∀ n, cnD D' n = cnD D n + if g < n then 1 else 0 := by
  intro n
  induction n with
  | zero => show 0 = 0 + _; rw [if_neg (Nat.not_lt_zero _)]
  | succ n ih =>
    show cnD D' n + (if D' n = true then 1 else 0) = cnD D n + (if D n = true then 1 else 0) + (if g < n + 1 then 1 else 0)
    rw [ih]
    by_cases hgn : n = g
    · have e1 : (if g < n then 1 else 0) = 0 := if_neg (by omega)
      have e2 : D' n = true := by rw [h n, if_pos hgn]
      have e3 : D n = false := by rw [hgn]; exact hg
      have e4 : (if g < n + 1 then 1 else 0) = 1 := if_pos (by omega)
      rw [e1, e2, e3, e4]
      rfl
    · have e2 : D' n = D n := by rw [h n, if_neg hgn]
      have e4 : (if g < n + 1 then 1 else 0) = (if g < n then 1 else 0) := by
        by_cases g1 : g < n
        · rw [if_pos g1, if_pos (by omega)]
        · rw [if_neg g1, if_neg (by omega)]
      rw [e2, e4]
      omega
/-- what holds at each round -/
def DJ (L : Nat → Nat → Nat) (s r : Nat) (W : Nat → Option Nat) (D : Nat → Bool) : Prop := leO (W s) 0 ∧ (∀ v d, v < 8 → W v = some d → (∃ n, WK L n s v d) ∧ d ≤ 200 * r) ∧ (∀ u, u < 8 → D u = true → ∃ d, W u = some d ∧ ∀ n w, WK L n s u w → d ≤ w) ∧ (∀ u d v, u < 8 → D u = true → W u = some d → v < 8 → L u v ≠ 0 → leO (W v) (d + L u v)) ∧ cnD D 8 = r
/-- the first gate left on a way -/
theorem DJ.opn {L : Nat → Nat → Nat} {s r : Nat} {W : Nat → Option Nat} {D : Nat → Bool} (J : DJ L s r W D) (hs : s < 8) : ∀ n v w, v < 8 → WK L n s v w → (D v = true) ∨ ∃ x d, x < 8 ∧ D x = false ∧ W x = some d ∧ d ≤ w := by
  obtain ⟨j1, j2, j3, j4, j5⟩ := J
  intro n
  induction n with
  | zero =>
    rintro v w hv ⟨rfl, rfl⟩
    cases e : D s with
    | true => exact Or.inl rfl
    | false =>
      obtain ⟨d, q1, q2⟩ := j1
      exact Or.inr ⟨s, d, hv, e, q1, q2⟩
  | succ n ih =>
    rintro v w hv ⟨k, u, hk, h1, h2, rfl⟩
    rcases ih k u hk h1 with h3 | ⟨x, d, x1, x2, x3, x4⟩
    · cases e : D v with
      | true => exact Or.inl rfl
      | false =>
        obtain ⟨d, q1, q2⟩ := j3 k hk h3
        obtain ⟨d', q3, q4⟩ := j4 k d v hk h3 q1 hv h2
        have := q2 n u h1
        exact Or.inr ⟨v, d', hv, e, q3, by omega⟩
    · exact Or.inr ⟨x, d, x1, x2, x3, by omega⟩
theorem DJ.step {L : Nat → Nat → Nat} {s r g d : Nat} {W : Nat → Option Nat} {D D' : Nat → Bool} {W' : Nat → Option Nat} (J : DJ L s r W D) (hs : s < 8) (hL : ∀ i j, i < 8 → j < 8 → L i j ≤ 200) (h0 : ∀ i, L i i = 0) (hg : g < 8) (hgo : D g = false) (hgd : W g = some d) (hmin : ∀ v, v < 8 → D v = false → ∀ dv, W v = some dv → d ≤ dv) (hD' : ∀ v, D' v = if v = g then true else D v) (hW' : ∀ v, v < 8 → W' v = rlx L W g d v) : DJ L s (r + 1) W' D' := by
  have J' := J
  obtain ⟨j1, j2, j3, j4, j5⟩ := J'
  have hleast : ∀ n w, WK L n s g w → d ≤ w := fun n w hw => by
    rcases J.opn hs n g w hg hw with h | ⟨x, dx, x1, x2, x3, x4⟩
    · rw [hgo] at h
      cases h
    · have := hmin x x1 x2 dx x3
      omega
  obtain ⟨⟨ng, hng⟩, hdb⟩ := j2 g d hg hgd
  have hsound : ∀ v x, v < 8 → W' v = some x → (∃ n, WK L n s v x) ∧ x ≤ 200 * (r + 1) := fun v x hv h => by
    rw [hW' v hv] at h
    rcases rlx_cases h with h1 | ⟨h1, rfl⟩
    · obtain ⟨q1, q2⟩ := j2 v x hv h1
      exact ⟨q1, by omega⟩
    · have := hL g v hg hv
      exact ⟨⟨ng + 1, g, d, hg, hng, h1, rfl⟩, by omega⟩
  have hkeep : ∀ u x, u < 8 → W u = some x → (∀ n w, WK L n s u w → x ≤ w) → W' u = some x := fun u x hu h1 h2 => by
    have h3 : leO (W' u) x := by
      rw [hW' u hu]
      exact rlx_le.2 (Or.inl ⟨x, h1, Nat.le_refl _⟩)
    obtain ⟨y, y1, y2⟩ := h3
    obtain ⟨⟨n, hn⟩, -⟩ := hsound u y hu y1
    have := h2 n y hn
    rw [y1, show y = x by omega]
  have hgW : W' g = some d := hkeep g d hg hgd hleast
  have hdone : ∀ u, u < 8 → D' u = true → ∃ x, W' u = some x ∧ W u = some x ∧ ∀ n w, WK L n s u w → x ≤ w := fun u hu h => by
    rw [hD' u] at h
    by_cases hug : u = g
    · rw [hug]
      exact ⟨d, hgW, hgd, hleast⟩
    · rw [if_neg hug] at h
      obtain ⟨x, x1, x2⟩ := j3 u hu h
      exact ⟨x, hkeep u x hu x1 x2, x1, x2⟩
  refine ⟨?_, hsound, fun u hu h => ?_, fun u x v hu h h1 hv h2 => ?_, ?_⟩
  · rw [hW' s hs]
    exact rlx_le.2 (Or.inl j1)
  · obtain ⟨x, x1, -, x3⟩ := hdone u hu h
    exact ⟨x, x1, x3⟩
  · obtain ⟨y, y1, y2, y3⟩ := hdone u hu h
    rw [y1] at h1
    cases h1
    rw [hW' v hv]
    by_cases hug : u = g
    · subst hug
      rw [hgd] at y2
      cases y2
      exact rlx_le.2 (Or.inr ⟨h2, Nat.le_refl _⟩)
    · rw [hD' u, if_neg hug] at h
      exact rlx_le.2 (Or.inl (j4 u _ v hu h y2 hv h2))
  · rw [cnD_set hgo hD' 8, if_pos hg, j5]
theorem DJ.fin {L : Nat → Nat → Nat} {s r : Nat} {W : Nat → Option Nat} {D : Nat → Bool} (J : DJ L s r W D) (hs : s < 8) (hall : ∀ v, v < 8 → D v = true ∨ W v = none) : ∀ v, v < 8 → isDi L s v (W v) := by
  intro v hv
  have J' := J
  obtain ⟨j1, j2, j3, j4, j5⟩ := J'
  cases e : W v with
  | none =>
    intro n w hw
    rcases J.opn hs n v w hv hw with h | ⟨x, d, x1, x2, x3, -⟩
    · obtain ⟨d, q, -⟩ := j3 v hv h
      rw [e] at q
      cases q
    · rcases hall x x1 with q | q
      · rw [x2] at q
        cases q
      · rw [x3] at q
        cases q
  | some d =>
    refine ⟨(j2 v d hv e).1, ?_⟩
    rcases hall v hv with q | q
    · obtain ⟨d', q1, q2⟩ := j3 v hv q
      rw [e] at q1
      cases q1
      exact q2
    · rw [e] at q
      cases q
