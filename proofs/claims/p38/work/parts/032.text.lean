/-! texts: the class's, at any address -/
def kLen (x : Int32) : Int32 := if x < 10 then 1 else if 14 ≤ x then 1 else 2
theorem t0_isPair (x : Int32) (h : KH) : f_X7_isPair x h = kret (if x < 10 then 0 else if 14 ≤ x then 0 else 1) h := by
  unfold f_X7_isPair X7_isPair_b16 X7_isPair_b17 kif kretZ
  split
  · rfl
  · split <;> rfl
theorem t0_charsOf (x : Int32) (h : KH) : f_X7_charsOf x h = kret (kLen x) h := by
  unfold f_X7_charsOf
  rw [t0_isPair]
  unfold kLen kret kif X7_charsOf_b12
  by_cases h1 : x < 10
  · rw [if_pos h1, if_pos h1]; rfl
  · rw [if_neg h1, if_neg h1]
    by_cases h2 : 14 ≤ x
    · rw [if_pos h2, if_pos h2]; rfl
    · rw [if_neg h2, if_neg h2]; rfl
/-- the chars of the first k signs -/
def kChs (g : Nat → Int32) : Nat → Int32
  | 0 => 0
  | k + 1 => kChs g k + kLen (g k)
section KTEXT
variable {h : KH} {t s n : Nat}
theorem t0_charCountL (hk : kd h t = 8) (hs : kR h t 0 = some s) (hsk : kd h s = 21) (hsn : kn h s = 6) (hc : kI h t 1 = nI n) (hn : n ≤ 6) : ∀ (f i : Nat), i ≤ n → n < i + f → X7_charCount_L4 f t (kChs (kI h s) i) (nI i) h = kret (kChs (kI h s) n) h := by
  intro f
  induction f with
  | zero => intro i h1 h2; omega
  | succ f ih =>
    intro i h1 h2
    unfold X7_charCount_L4 X7_charCount_b4 gI gN gAI kmay
    simp (disch := omega) only [hk, hs, hsk, hsn, hc, ka_le, ka_neg, nI_clamp, false_or, true_and, if_true]
    by_cases hi : i = n
    · subst hi
      simp only [kif, Nat.le_refl, if_true]
    · rw [kif, if_neg (by omega), if_pos (by omega), t0_charsOf]
      have e := ih (i + 1) (by omega) (by omega)
      rw [← nI_1] at e
      exact e
theorem t0_charCount (hk : kd h t = 8) (hs : kR h t 0 = some s) (hsk : kd h s = 21) (hsn : kn h s = 6) (hc : kI h t 1 = nI n) (hn : n ≤ 6) : f_X7_charCount t h = kret (kChs (kI h s) n) h :=
  t0_charCountL hk hs hsk hsn hc hn kF 0 (Nat.zero_le _) (by unfold kF; omega)
/-- a sign put in -/
def kPut (g : Nat → Int32) (v : Int32) (p n : Nat) : Nat → Int32 := fun k => if k < p then g k else if k = p then v else if k ≤ n then g (k - 1) else g k
def kSh (g : Nat → Int32) (i n : Nat) : Nat → Int32 := fun k => if i < k ∧ k ≤ n then g (k - 1) else g k
theorem kSh_n (g : Nat → Int32) (n : Nat) : kSh g n n = g := by
  funext k
  unfold kSh
  rw [if_neg (by omega)]
theorem kSh_put (g : Nat → Int32) (v : Int32) (p n : Nat) (hp : p ≤ n) : (fun j => if j = p then v else kSh g p n j) = kPut g v p n := by
  funext k
  unfold kSh kPut
  by_cases h1 : k = p
  · rw [if_pos h1, if_neg (by omega), if_pos h1]
  · rw [if_neg h1]
    by_cases h2 : k < p
    · rw [if_neg (by omega), if_pos h2]
    · rw [if_neg h2, if_neg h1]
      by_cases h3 : k ≤ n
      · rw [if_pos ⟨by omega, h3⟩, if_pos h3]
      · rw [if_neg (by omega), if_neg h3]
theorem kSh_step (g : Nat → Int32) (i n : Nat) (hi : 0 < i) (hn : i ≤ n) : (fun j => if j = i then kSh g i n (i - 1) else kSh g i n j) = kSh g (i - 1) n := by
  funext k
  unfold kSh
  by_cases h1 : k = i
  · rw [if_pos h1, if_neg (by omega), if_pos (by omega), h1]
  · rw [if_neg h1]
    by_cases h2 : i < k ∧ k ≤ n
    · rw [if_pos h2, if_pos (by omega)]
    · rw [if_neg h2, if_neg (by omega)]
theorem t0_putL {v : Int32} {p : Nat} (hk : kd h t = 8) (hs : kR h t 0 = some s) (hts : t ≠ s) (hsk : kd h s = 21) (hsn : kn h s = 6) (hc : kI h t 1 = nI n) (hn : n < 6) : ∀ (f i : Nat), p ≤ i → i ≤ n → i < p + f → X7_put_L5 f t v (nI p) (nI i) (sA h s (kSh (kI h s) i n)) = kret () (sI (sA h s (kPut (kI h s) v p n)) t 1 (nI (n + 1))) := by
  intro f
  induction f with
  | zero => intro i h1 h2; omega
  | succ f ih =>
    intro i h1 h2 h3
    unfold X7_put_L5 X7_put_b5 gN gI gAI pAI pI kmay
    simp (disch := omega) only [kd_sA, kn_sA, kR_sA, kI_sA, kd_sI, hk, hs, hsk, hsn, hc, ka_le, ka_neg, nI_clamp, false_or, true_and, if_true]
    by_cases hi : i = p
    · subst hi
      simp only [kif, Nat.le_refl, if_true]
      rw [if_pos (by omega), sI_in, kSh_put _ _ _ _ h2]
      simp only [kI_sA, if_neg hts, hc, nI_1]
    · simp (disch := omega) only [kif, ka_pred, ka_dec, ka_neg, nI_clamp, false_or, if_pos, if_neg]
      rw [sI_in, kSh_step _ _ _ (by omega) h2]
      exact ih (i - 1) (by omega) (by omega) (by omega)
theorem t0_put {v : Int32} {p : Nat} (hk : kd h t = 8) (hs : kR h t 0 = some s) (hts : t ≠ s) (hsk : kd h s = 21) (hsn : kn h s = 6) (hc : kI h t 1 = nI n) (hn : n < 6) (hp : p ≤ n) : f_X7_put t v (nI p) h = kret () (sI (sA h s (kPut (kI h s) v p n)) t 1 (nI (n + 1))) := by
  unfold f_X7_put gI
  rw [if_pos hk, hc]
  have e := t0_putL (v := v) (p := p) hk hs hts hsk hsn hc hn kF n hp (Nat.le_refl _) (by unfold kF; omega)
  rw [kSh_n, sA_self] at e
  exact e
end KTEXT
