theorem kAtc_cg {g g' : Nat → Int32} {n A : Nat} (e : ∀ k, k < n → g k = g' k) : ∀ (f i c : Nat), kAtc g n A f i c = kAtc g' n A f i c := by
  intro f
  induction f with
  | zero => intro i c; rfl
  | succ f ih =>
    intro i c
    unfold kAtc
    by_cases hi : n ≤ i
    · rw [if_pos hi, if_pos hi]
    · rw [if_neg hi, if_neg hi, e i (by omega), ih]
theorem kAtc_some {g : Nat → Int32} {n A : Nat} (hg : ∀ k, k < n → ∃ v, v < 15 ∧ g k = nI v) : ∀ (f i c : Nat) (y : Int32), kAtc g n A f i c = some y → ∃ v l, v < 15 ∧ l < 2 ∧ y = kChr (nI v) (nI l) := by
  intro f
  induction f with
  | zero => intro i c y h; cases h
  | succ f ih =>
    intro i c y h
    unfold kAtc at h
    split at h
    · cases h
    · split at h
      · cases h
      · split at h
        · exact ih _ _ y h
        · rename_i h1 h2 h3
          obtain ⟨v, hv, ev⟩ := hg i (by omega)
          obtain ⟨l, hl, el⟩ := kLen_nat (g i)
          rw [el, nI_clamp (by omega)] at h3
          cases h
          exact ⟨v, A - c, hv, by omega, by rw [ev]⟩
theorem o_charAt : OPI (fun a b c h => f_X9_charAt 0 a h) (fun a b c h => f_X10_charAt 0 a h) (mp1 4) := by
  intro j hx hm a b c hj R
  have S := R.1.1.X 0
  have T := R.1.2
  obtain ⟨n, hn, e1, e2, e3⟩ := R.2.2.2.2.2.2.1
  have hgm : ∀ k, k < n → ∃ v, v < 15 ∧ kI hm 4 k = nI v := fun k hk => by obtain ⟨v, h1, -, h3⟩ := e3 k hk; exact ⟨v, h1, h3⟩
  have hee : ∀ k, k < n → kI (sX hx 0) 23 k = kI hm 4 k := fun k hk => by obtain ⟨v, -, h2, h3⟩ := e3 k hk; exact h2.trans h3.symm
  have start : ∀ z, f_X7_charNumberAt 22 a (sX hx 0) = kret z (sX hx 0) → f_X9_charAt 0 a (sX hx 0) = kif (z = -1) (kthrow 4 (sX hx 0)) (kretC ((z.toUInt32 % 65536).toInt32) (sX hx 0)) := fun z hz => by
    unfold f_X9_charAt
    rw [gN_k S.d0 S.r0_2, kcallV, if_pos S.d22, hz, kb_ret]
  by_cases h0 : a < 0
  · refine op_no R 4 1 97 rfl (by decide) ?_ ?_
    · show f_X9_charAt 0 a (sX hx 0) = _
      rw [start (-1) (by
        unfold f_X7_charNumberAt kF
        unfold X7_charNumberAt_L4 X7_charNumberAt_b4 X7_charNumberAt_b57
        rw [gI_k S.d22, show kI (sX hx 0) 22 1 = nI n from e1, kif, kif, if_pos h0]
        split <;> rfl)]
      rfl
    · show f_X10_charAt 0 a hm = _
      unfold f_X10_charAt kF
      unfold X10_charAt_L4 X10_charAt_b4 X10_charAt_b107
      rw [gI_k T.d0, e2, kif, kif, if_pos h0, pI_k T.d0]
      split <;> rfl
  · obtain ⟨A, hA, rfl⟩ : ∃ A, A < 2147483648 ∧ a = nI A := by
      rw [Int32.lt_iff_toInt_lt, show (0 : Int32).toInt = 0 from by decide] at h0
      have := a.toInt_lt
      refine ⟨a.toInt.toNat, by omega, ?_⟩
      rw [← Int32.toInt_inj, nI_toInt (by omega)]
      omega
    have x1 := t0_atL S.d22 S.r22_0 S.d23 S.n23 (show kI (sX hx 0) 22 1 = nI n from e1) hn hA kF 0 0 (by omega) (by unfold kF; omega) (by omega)
    have m1 := tm_atL T e2 hn hgm hA kF 0 0 (by omega) (by unfold kF; omega) (by omega) (by omega)
    rw [kAtc_cg hee] at x1
    cases hq : kAtc (kI hm 4) n A kF 0 0 with
    | none =>
      rw [hq] at x1 m1
      exact op_no R 4 1 97 rfl (by decide) ((start _ x1).trans rfl) m1
    | some y =>
      rw [hq] at x1 m1
      obtain ⟨v, l, hv, hl, rfl⟩ := kAtc_some hgm _ _ _ _ hq
      obtain ⟨k1, k2⟩ := kChr_ok v hv l hl
      refine op_rd R (kC16 (kChr (nI v) (nI l))) ?_ m1
      refine (start _ x1).trans ?_
      rw [Option.getD_some, kif, if_neg k2]
      exact kretC_k _ _ k1
