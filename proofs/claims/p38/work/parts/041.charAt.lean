/-! charAt -/
def kChr (x : Int32) (half : Int32) : Int32 := if x = 14 then 63 else if kLen x = 1 then 65 + x else if half = 0 then 55357 else (56976 + x) - 10
theorem t0_chr (x half : Int32) (h : KH) : f_X7_charNumberOf x half h = kret (kChr x half) h := by
  unfold f_X7_charNumberOf kChr kif
  by_cases h1 : x = 14
  · rw [if_pos h1, if_pos h1]
  · rw [if_neg h1, if_neg h1, t0_isPair, kb_ret]
    unfold kLen
    by_cases h2 : x < 10
    · rw [if_pos h2, if_pos h2, if_pos rfl, if_pos rfl]
    · rw [if_neg h2, if_neg h2]
      by_cases h3 : 14 ≤ x
      · rw [if_pos h3, if_pos h3, if_pos rfl, if_pos rfl]
      · rw [if_neg h3, if_neg h3, if_neg (show ¬ ((1 : Int32) = 0) by decide), if_neg (show ¬ ((2 : Int32) = 1) by decide)]
        by_cases h4 : half = 0
        · rw [if_pos h4, if_pos h4]
          rfl
        · rw [if_neg h4, if_neg h4]
          rfl
theorem kLen_nat (x : Int32) : ∃ l, (l = 1 ∨ l = 2) ∧ kLen x = nI l := by
  rcases kLen_2 x with h | h
  · exact ⟨2, Or.inr rfl, h⟩
  · exact ⟨1, Or.inl rfl, h⟩
/-- the sign and the half that a place falls on -/
def kAtc (g : Nat → Int32) (n A : Nat) : Nat → Nat → Nat → Option Int32
  | 0, _, _ => none
  | f + 1, i, c => if n ≤ i then none else if A < c then none else if c + (kLen (g i)).toNatClampNeg ≤ A then kAtc g n A f (i + 1) (c + (kLen (g i)).toNatClampNeg) else some (kChr (g i) (nI (A - c)))
section KCHAR
variable {h : KH} {t s n : Nat}
theorem t0_atL {A : Nat} (hk : kd h t = 8) (hs : kR h t 0 = some s) (hsk : kd h s = 21) (hsn : kn h s = 6) (hc : kI h t 1 = nI n) (hn : n ≤ 6) (hA : A < 2147483648) : ∀ (f i c : Nat), i ≤ n → n < i + f → c ≤ 2 * i → X7_charNumberAt_L4 f t (nI A) (nI c) (nI i) h = kret ((kAtc (kI h s) n A f i c).getD (-1)) h := by
  intro f
  induction f with
  | zero => intro i c h1 h2; omega
  | succ f ih =>
    intro i c h1 h2 h3
    unfold X7_charNumberAt_L4 X7_charNumberAt_b4 kAtc
    rw [gI_k hk, hc]
    by_cases hi : n ≤ i
    · rw [kif, if_pos (by rw [ka_le (by omega) (by omega)]; exact hi), if_pos hi]
      rfl
    · rw [kif, if_neg (by rw [ka_le (by omega) (by omega)]; exact hi), if_neg hi]
      by_cases ha : A < c
      · rw [kif, if_pos (by rw [ka_lt (by omega) (by omega)]; exact ha), if_pos ha]
        rfl
      · rw [kif, if_neg (by rw [ka_lt (by omega) (by omega)]; exact ha), if_neg ha, gN_k hk hs, gAI_k hsk (by omega) (by omega), t0_charsOf, kb_ret]
        obtain ⟨l, hl, el⟩ := kLen_nat (kI h s i)
        rw [el, ka_add, nI_clamp (by omega)]
        by_cases hcl : c + l ≤ A
        · rw [kif, if_pos (by rw [ka_le (by omega) (by omega)]; exact hcl), if_pos hcl, nI_1]
          exact ih (i + 1) (c + l) (by omega) (by omega) (by omega)
        · rw [kif, if_neg (by rw [ka_le (by omega) (by omega)]; exact hcl), if_neg hcl, gN_k hk hs, gAI_k hsk (by omega) (by omega), t0_chr, kb_ret, ka_sub (by omega)]
          rfl
end KCHAR
