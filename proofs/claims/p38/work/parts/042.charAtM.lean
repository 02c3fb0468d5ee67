/-! charAt: the model's half -/
theorem kretC_k (y : Int32) (h : KH) (hy : ((((y.toUInt32 % 65536).toInt32).toUInt32 % 65536).toInt32) = (y.toUInt32 % 65536).toInt32) : kretC ((y.toUInt32 % 65536).toInt32) h = kret ((y.toUInt32 % 65536).toInt32) h := if_pos hy
theorem kChr_ok : ∀ v, v < 15 → ∀ l, l < 2 → ((((kChr (nI v) (nI l)).toUInt32 % 65536).toInt32).toUInt32 % 65536).toInt32 = ((kChr (nI v) (nI l)).toUInt32 % 65536).toInt32 ∧ ¬ kChr (nI v) (nI l) = -1 := by decide +kernel
theorem kChr_m : ∀ v, v < 15 → ∀ l, l < 2 → kChr (nI v) (nI l) = if nI v = 14 then 63 else if 10 ≤ nI v then (if nI l = 0 then 55357 else (56976 + nI v) - 10) else 65 + nI v := by decide +kernel
theorem kLen_v : ∀ v, v < 15 → kLen (nI v) = nI (if v < 10 then 1 else if 14 ≤ v then 1 else 2) := by decide +kernel
section KCHARM
variable {h : KH} {n : Nat}
/-- the answer's char -/
def kC16 (y : Int32) : Int32 := (y.toUInt32 % 65536).toInt32
theorem tm_atL {A : Nat} (T : kSm h) (hc : kI h 0 5 = nI n) (hn : n ≤ 6) (hg : ∀ k, k < n → ∃ v, v < 15 ∧ kI h 4 k = nI v) (hA : A < 2147483648) : ∀ (f i c : Nat), i ≤ n → n < i + f → c ≤ 2 * i → c ≤ A → X10_charAt_L4 f 0 (nI A) (nI (A - c)) (nI i) h = (match kAtc (kI h 4) n A f i c with
    | none => kret 97 (sI h 0 35 1)
    | some y => kret (kC16 y) (sI h 0 35 0)) := by
  intro f
  induction f with
  | zero => intro i c h1 h2; omega
  | succ f ih =>
    intro i c h1 h2 h3 h4
    unfold X10_charAt_L4 X10_charAt_b4 kAtc
    rw [gI_k T.d0, hc]
    by_cases hi : n ≤ i
    · rw [kif, if_pos (by rw [ka_le (by omega) (by omega)]; exact hi), if_pos hi]
      unfold X10_charAt_b107
      rw [pI_k T.d0]
      rfl
    · rw [kif, if_neg (by rw [ka_le (by omega) (by omega)]; exact hi), if_neg hi, kif, if_neg (nI_pos hA), if_neg (by omega), gN_k T.d0 T.r6, gAI_k T.d4 (by rw [T.n4]; omega) (by omega), tm_isPair, kb_ret]
      obtain ⟨v, hv, ev⟩ := hg i (by omega)
      obtain ⟨l, hl, el⟩ := kLen_nat (kI h 4 i)
      have key : kif ((if kLen (kI h 4 i) = 2 then (1 : Int32) else 0) = 0) (X10_charAt_b37 (X10_charAt_L4 f) 0 (nI A) (nI (A - c)) (nI i) (kI h 4 i) 1 h) (X10_charAt_b37 (X10_charAt_L4 f) 0 (nI A) (nI (A - c)) (nI i) (kI h 4 i) 2 h) = X10_charAt_b37 (X10_charAt_L4 f) 0 (nI A) (nI (A - c)) (nI i) (kI h 4 i) (nI l) h := by
        rw [el]
        rcases hl with rfl | rfl
        · rfl
        · rfl
      rw [key, el, nI_clamp (by omega)]
      unfold X10_charAt_b37
      by_cases hcl : c + l ≤ A
      · rw [kif, if_pos (by rw [ka_le (by omega) (by omega)]; omega), if_pos hcl, ka_sub (by omega), nI_1, show A - c - l = A - (c + l) by omega]
        exact ih (i + 1) (c + l) (by omega) (by omega) (by omega) (by omega)
      · rw [kif, if_neg (by rw [ka_le (by omega) (by omega)]; omega), if_neg hcl, pI_k T.d0, ev]
        have hlt : A - c < 2 := by omega
        obtain ⟨k1, -⟩ := kChr_ok v hv (A - c) hlt
        refine Eq.trans ?_ (kretC_k (kChr (nI v) (nI (A - c))) (sI h 0 35 0) k1)
        rw [kChr_m v hv _ hlt]
        unfold kif X10_charAt_b94
        split
        · rfl
        · split
          · split <;> rfl
          · rfl
end KCHARM
