/-! what is due stays below two thousand million -/
section BOUND
variable {g : KH} {l : List Nat} {n p : Nat}
def sum6 (f : Nat → Nat) : Nat := f 0 + f 1 + f 2 + f 3 + f 4 + f 5
theorem wS_stab : ∀ (n i : Nat), l.length ≤ i + n → wS g l (n + 1) i = wS g l n i := by
  intro n
  induction n with
  | zero =>
    intro i h
    show (if i < l.length ∧ _ then _ else 0) = 0
    rw [if_neg]
    rintro ⟨q, -⟩
    omega
  | succ n ih =>
    intro i h
    show (if i < l.length ∧ sBegAt g l i = false then mn g 2 (8 * mn g 12 (l.getD (i - 1) 0) + mn g 12 (l.getD i 0)) + wS g l (n + 1) (i + 1) else 0) = (if i < l.length ∧ sBegAt g l i = false then mn g 2 (8 * mn g 12 (l.getD (i - 1) 0) + mn g 12 (l.getD i 0)) + wS g l n (i + 1) else 0)
    rw [ih (i + 1) (by omega)]
theorem NX.dist_le (N : NX g) {r s : Nat} (hr : r < mn g 0 16) (hs : s < mn g 0 16) : mn g 2 (8 * mn g 12 r + mn g 12 s) ≤ 51200 := by
  obtain ⟨g1, g2, -, -⟩ := N.dist hr hs
  rcases N.2.1 _ _ g1 g2 with w | ⟨d, hd, w⟩
  · unfold mn at w ⊢
    rw [w]
    decide
  · rw [mn_of w (by omega)]
    exact hd
theorem six_one (x : Int32) (t : Nat) : sum6 (fun d => if x = nI d then t else 0) ≤ t := by
  unfold sum6
  by_cases h0 : x = nI 0
  · subst h0
    simp [show ¬ nI 0 = nI 1 by decide, show ¬ nI 0 = nI 2 by decide, show ¬ nI 0 = nI 3 by decide, show ¬ nI 0 = nI 4 by decide, show ¬ nI 0 = nI 5 by decide]
  by_cases h1 : x = nI 1
  · subst h1
    simp [h0, show ¬ nI 1 = nI 2 by decide, show ¬ nI 1 = nI 3 by decide, show ¬ nI 1 = nI 4 by decide, show ¬ nI 1 = nI 5 by decide]
  by_cases h2 : x = nI 2
  · subst h2
    simp [h0, h1, show ¬ nI 2 = nI 3 by decide, show ¬ nI 2 = nI 4 by decide, show ¬ nI 2 = nI 5 by decide]
  by_cases h3 : x = nI 3
  · subst h3
    simp [h0, h1, h2, show ¬ nI 3 = nI 4 by decide, show ¬ nI 3 = nI 5 by decide]
  by_cases h4 : x = nI 4
  · subst h4
    simp [h0, h1, h2, h3, show ¬ nI 4 = nI 5 by decide]
  by_cases h5 : x = nI 5
  · subst h5
    simp [h0, h1, h2, h3, h4]
  · simp [h0, h1, h2, h3, h4, h5]
theorem six_add (f h : Nat → Nat) : sum6 (fun d => f d + h d) = sum6 f + sum6 h := by
  unfold sum6
  dsimp only
  omega
theorem due_step (g : KH) (l : List Nat) (n p k : Nat) : sum6 (fun d => duS g n p l (nI d) (k + 1)) ≤ sum6 (fun d => duS g n p l (nI d) k) + if sBegAt g l k = true then tolF g l p k else 0 := by
  have e : (fun d => duS g n p l (nI d) (k + 1)) = fun d => duS g n p l (nI d) k + (if sBegAt g l k = true then duF g n p l (nI d) k else 0) := rfl
  rw [e, six_add]
  apply Nat.add_le_add_left
  by_cases hb : sBegAt g l k = true
  · simp only [if_pos hb]
    exact six_one (sHold g p (mn g 13 (l.getD k 0)) n) (tolF g l p k)
  · simp only [if_neg hb]
    exact Nat.le_refl _
theorem due_row (N : NX g) (hp : p < mn g 0 8) (L : LOK g l) (hl : l.length ≤ 60) : ∀ (m i : Nat), i + m = l.length → sum6 (fun d => duS g n p l (nI d) l.length) + 50 * wS g l 60 i ≤ sum6 (fun d => duS g n p l (nI d) i) + 2560100 * m := by
  intro m
  induction m with
  | zero =>
    intro i h
    obtain rfl : i = l.length := by omega
    have e : wS g l 60 l.length = 0 := by
      unfold wS
      rw [if_neg]
      rintro ⟨q, -⟩
      omega
    rw [e]
    omega
  | succ m ih =>
    intro i h
    have h1 := ih (i + 1) (by omega)
    have h2 := due_step g l n p i
    obtain ⟨k8, -⟩ := N.2.2.2.2.1 p hp
    have h50 := (N.2.2.2.1 _ k8).1
    have e : wS g l 60 i = if i < l.length ∧ sBegAt g l i = false then mn g 2 (8 * mn g 12 (l.getD (i - 1) 0) + mn g 12 (l.getD i 0)) + wS g l 59 (i + 1) else 0 := rfl
    have hst : wS g l 60 (i + 1) = wS g l 59 (i + 1) := wS_stab (g := g) (l := l) 59 (i + 1) (by omega)
    cases hb : sBegAt g l i with
    | true =>
      rw [if_neg (by rw [hb]; rintro ⟨-, q⟩; cases q)] at e
      rw [if_pos hb] at h2
      have h3 : tolF g l p i ≤ 50 * (wS g l 60 (i + 1) + 2) := Nat.mul_le_mul_right _ h50
      omega
    | false =>
      rw [if_pos ⟨by omega, hb⟩] at e
      rw [if_neg (by rw [hb]; decide)] at h2
      have h4 := N.dist_le (L.1 (i - 1) (by omega)) (L.1 i (by omega))
      omega
theorem due_all (N : NX g) : ∀ p, p ≤ mn g 0 8 → sum6 (fun d => duT g n (nI d) p) ≤ 153606000 * p := by
  intro p
  induction p with
  | zero => intro _; exact Nat.le_refl _
  | succ p ih =>
    intro hp
    have h1 := ih (by omega)
    obtain ⟨L, -⟩ := rwL_s g (some p)
    have hl : (rwL g (some p)).length ≤ 60 := Nat.le_trans L.len' N.1.2.2.1.1
    have h2 := due_row (n := n) N (show p < mn g 0 8 by omega) L hl (rwL g (some p)).length 0 (by omega)
    have e : (fun d => duT g n (nI d) (p + 1)) = fun d => duT g n (nI d) p + duS g n p (rwL g (some p)) (nI d) (rwL g (some p)).length := rfl
    have e0 : sum6 (fun d => duS g n p (rwL g (some p)) (nI d) 0) = 0 := rfl
    rw [e, six_add]
    omega
theorem due_sum (N : NX g) : sum6 (fun d => duT g n (nI d) (mn g 0 8)) ≤ 1536060000 := by
  have h1 := due_all (n := n) N (mn g 0 8) (Nat.le_refl _)
  have h2 := N.1.2.1.1
  omega
theorem six_ge (f : Nat → Nat) : ∀ d, d < 6 → f d ≤ sum6 f := by
  intro d hd
  unfold sum6
  have : d = 0 ∨ d = 1 ∨ d = 2 ∨ d = 3 ∨ d = 4 ∨ d = 5 := by omega
  rcases this with rfl | rfl | rfl | rfl | rfl | rfl <;> omega
end BOUND
