/-! bits of a mask -/
theorem kb_sh : ∀ b, b < 15 → (nI b &&& 31).toBitVec.smod 32 = BitVec.ofNat 32 b := by decide +kernel
theorem kb_one : ∀ b, b < 15 → (1 : BitVec 32) <<< BitVec.ofNat 32 b = BitVec.ofNat 32 (2 ^ b) := by decide +kernel
theorem kb_bv (n : Nat) : (nI n).toBitVec = BitVec.ofNat 32 n := Int32.toBitVec_ofNat'
theorem kb_bit {M b : Nat} (hM : M < 32768) (hb : b < 15) : (((nI M >>> (nI b &&& 31)) &&& 1) = 1) = (M.testBit b = true) := by
  have hmsb : (BitVec.ofNat 32 M).msb = false := by
    rw [BitVec.msb_eq_false_iff_two_mul_lt, BitVec.toNat_ofNat]
    omega
  rw [eq_iff_iff, ← Int32.toBitVec_inj, Int32.toBitVec_and, Int32.toBitVec_shiftRight, kb_sh b hb, kb_bv, BitVec.sshiftRight_eq', BitVec.sshiftRight_eq_of_msb_false hmsb, ← BitVec.toNat_inj, BitVec.toNat_and, BitVec.toNat_ushiftRight, BitVec.toNat_ofNat, BitVec.toNat_ofNat, Nat.mod_eq_of_lt (show M < 2 ^ 32 by omega), Nat.mod_eq_of_lt (show b < 2 ^ 32 by omega)]
  rw [Nat.testBit_eq_decide_div_mod_eq, decide_eq_true_iff, Nat.shiftRight_eq_div_pow]
  show (M / 2 ^ b &&& 1) = 1 ↔ _
  rw [Nat.and_one_is_mod]
theorem kb_xor {M b : Nat} (hb : b < 15) : nI M ^^^ (1 <<< (nI b &&& 31)) = nI (M ^^^ 2 ^ b) := by
  rw [← Int32.toBitVec_inj, Int32.toBitVec_xor, Int32.toBitVec_shiftLeft, kb_sh b hb, kb_bv, kb_bv, BitVec.ofNat_xor, ← kb_one b hb]
  rfl
/-! a cost, or none -/
def cOf (o : Option Nat) : Int32 := match o with
  | some t => nI t
  | none => -1
theorem sPart_le {m : Nat → Nat → Nat} {x y t : Nat} (h : sPart m x y = some t) : t ≤ 2 := by
  unfold sPart at h
  repeat' split at h
  all_goals first
    | (cases h; omega)
    | cases h
theorem sCst_le {m : Nat → Nat → Nat} {r p : Nat} : ∀ k t, sCst m r p k = some t → t ≤ 2 * k := by
  intro k
  induction k with
  | zero => intro t h; cases h; omega
  | succ k ih =>
    intro t h
    unfold sCst at h
    cases e1 : sCst m r p k with
    | none => rw [e1] at h; cases h
    | some s =>
      cases e2 : sPart m (m 15 (6 * r + k)) (m 7 (6 * p + k)) with
      | none => rw [e1, e2] at h; cases h
      | some u =>
        rw [e1, e2] at h
        cases h
        have := ih s e1
        have := sPart_le e2
        omega
theorem sCst_nn {m : Nat → Nat → Nat} {r p i : Nat} (h : sCst m r p i = none) : ∀ n, i ≤ n → sCst m r p n = none := by
  intro n
  induction n with
  | zero => intro hi; obtain rfl : i = 0 := by omega
            exact h
  | succ n ih =>
    intro hi
    by_cases hq : i = n + 1
    · subst hq
      exact h
    · unfold sCst
      rw [ih (by omega)]
section KCOST
variable {h : KH} {m : Nat → Nat → Nat}
theorem xc_holds (S : kSx h) {x y : Nat} (hx : x < 15) (hy : y < 15) (hA : ∀ a, a < 15 → ∃ M, M < 32768 ∧ kI h 25 a = nI M ∧ ∀ b, b < 15 → (m 5 (15 * a + b) = 0 ↔ ¬ M.testBit b = true)) : f_X2_holds 24 (nI x) (nI y) h = kret (if m 5 (15 * x + y) = 0 then 0 else 1) h := by
  obtain ⟨M, M1, M2, M3⟩ := hA x hx
  unfold f_X2_holds
  rw [gN_k S.d24 S.r24_0, gAI_k S.d25 (by rw [S.n25]; exact hx) (by omega), M2]
  by_cases hb : M.testBit y = true
  · rw [kif_t (by rw [kb_bit M1 hy]; exact hb), if_neg (by rw [M3 y hy]; exact fun z => z hb)]
    rfl
  · rw [kif_f (by rw [kb_bit M1 hy]; exact hb), if_pos (by rw [M3 y hy]; exact hb)]
    rfl
theorem xc_sign (S : kSx h) {x y : Nat} (hx : x < 15) (hy : y < 15) (hA : ∀ a, a < 15 → ∃ M, M < 32768 ∧ kI h 25 a = nI M ∧ ∀ b, b < 15 → (m 5 (15 * a + b) = 0 ↔ ¬ M.testBit b = true)) : f_X2_costOfSign 24 (nI x) (nI y) h = kret (cOf (sPart m x y)) h := by
  unfold f_X2_costOfSign sPart
  by_cases h1 : x = y
  · rw [kif_t (by rw [h1]), if_pos h1]
    rfl
  · rw [kif_f (by rw [ka_eq (by omega) (by omega)]; exact h1), if_neg h1]
    by_cases h2 : x = 14
    · rw [kif_t (by rw [h2]; rfl), if_pos h2]
      rfl
    · rw [kif_f (by rw [show (14 : Int32) = nI 14 from rfl, ka_eq (by omega) (by omega)]; exact h2), if_neg h2, kV_k S.d24, xc_holds S hx hy hA, kb_ret]
      by_cases h3 : m 5 (15 * x + y) = 0
      · rw [if_pos h3, if_pos h3, kif_t rfl]
        rfl
      · rw [if_neg h3, if_neg h3, kif_f (by decide)]
        rfl
theorem xc_costL (S : kSx h) {ta tb sa sb n r p : Nat} (hA : ∀ a, a < 15 → ∃ M, M < 32768 ∧ kI h 25 a = nI M ∧ ∀ b, b < 15 → (m 5 (15 * a + b) = 0 ↔ ¬ M.testBit b = true)) (a1 : kd h ta = 8) (a2 : kR h ta 0 = some sa) (a3 : kd h sa = 21) (a4 : kn h sa = 6) (a5 : kI h ta 1 = nI n) (b1 : kd h tb = 8) (b2 : kR h tb 0 = some sb) (b3 : kd h sb = 21) (b4 : kn h sb = 6) (hn : n ≤ 6)
    (hX : ∀ k, k < n → m 15 (6 * r + k) < 15 ∧ kI h sa k = nI (m 15 (6 * r + k))) (hY : ∀ k, k < n → m 7 (6 * p + k) < 15 ∧ kI h sb k = nI (m 7 (6 * p + k))) : ∀ (f i s : Nat), i ≤ n → n < i + f → sCst m r p i = some s → X2_costOf_L18 f 24 ta tb (nI s) (nI i) h = kret (cOf (sCst m r p n)) h := by
  intro f
  induction f with
  | zero => intro i s h1 h2; omega
  | succ f ih =>
    intro i s h1 h2 h3
    unfold X2_costOf_L18 X2_costOf_b18
    rw [gI_k a1, a5]
    by_cases hi : n ≤ i
    · obtain rfl : i = n := by omega
      rw [kif_t (by rw [ka_le (by omega) (by omega)]; exact hi), h3]
      rfl
    · obtain ⟨x1, x2⟩ := hX i (by omega)
      obtain ⟨y1, y2⟩ := hY i (by omega)
      rw [kif_f (by rw [ka_le (by omega) (by omega)]; exact hi), gN_k a1 a2, gAI_k a3 (by omega) (by omega), gN_k b1 b2, gAI_k b3 (by omega) (by omega), x2, y2, kV_k S.d24, xc_sign S x1 y1 hA, kb_ret]
      have hst : sCst m r p (i + 1) = match sCst m r p i, sPart m (m 15 (6 * r + i)) (m 7 (6 * p + i)) with
        | some s, some t => some (s + t)
        | _, _ => none := rfl
      cases e : sPart m (m 15 (6 * r + i)) (m 7 (6 * p + i)) with
      | none =>
        rw [h3, e] at hst
        rw [kif_t (show cOf none = -1 from rfl), sCst_nn hst n (by omega)]
        rfl
      | some t =>
        rw [h3, e] at hst
        have ht := sPart_le e
        show kif (nI t = -1) _ _ = _
        rw [kif_f (by rw [ka_n1 (by omega)]; exact fun z => z), nI_1]
        show X2_costOf_L18 f 24 ta tb (nI s + nI t) _ h = _
        rw [ka_add]
        exact ih (i + 1) (s + t) (by omega) (by omega) hst
theorem xc_cost (S : kSx h) {ta tb sa sb n n' r p : Nat} (hA : ∀ a, a < 15 → ∃ M, M < 32768 ∧ kI h 25 a = nI M ∧ ∀ b, b < 15 → (m 5 (15 * a + b) = 0 ↔ ¬ M.testBit b = true)) (a1 : kd h ta = 8) (a2 : kR h ta 0 = some sa) (a3 : kd h sa = 21) (a4 : kn h sa = 6) (a5 : kI h ta 1 = nI n) (b1 : kd h tb = 8) (b2 : kR h tb 0 = some sb) (b3 : kd h sb = 21) (b4 : kn h sb = 6) (b5 : kI h tb 1 = nI n') (hn : n ≤ 6) (hn' : n' ≤ 6) (m1 : m 14 r = n) (m2 : m 6 p = n')
    (hX : ∀ k, k < n → m 15 (6 * r + k) < 15 ∧ kI h sa k = nI (m 15 (6 * r + k))) (hY : ∀ k, k < n' → m 7 (6 * p + k) < 15 ∧ kI h sb k = nI (m 7 (6 * p + k))) : f_X2_costOf 24 ta tb h = kret (cOf (sCost m r p)) h := by
  unfold f_X2_costOf sCost
  rw [gI_k a1, gI_k b1, a5, b5, m1, m2]
  by_cases hq : n = n'
  · rw [kif_t (by rw [hq]), if_pos hq]
    exact xc_costL S hA a1 a2 a3 a4 a5 b1 b2 b3 b4 hn hX (fun k hk => hY k (by omega)) kF 0 0 (by omega) (by unfold kF; omega) rfl
  · rw [kif_f (by rw [ka_eq (by omega) (by omega)]; exact hq), if_neg hq]
    rfl
end KCOST
theorem kCx.mask {hx hm : KH} (K : kCx hx hm) : ∀ a, a < 15 → ∃ M, M < 32768 ∧ kI hx 25 a = nI M ∧ ∀ b, b < 15 → (mn hm 5 (15 * a + b) = 0 ↔ ¬ M.testBit b = true) := by
  intro a ha
  obtain ⟨M, M1, M2, M3⟩ := K.2.2.2.1.1 a ha
  refine ⟨M, M1, M2, fun b hb => ?_⟩
  have e := M3 b hb
  unfold mn
  rw [e]
  by_cases hb2 : M.testBit b = true
  · rw [if_pos hb2]
    exact ⟨fun z => absurd z (by decide), fun z => absurd hb2 z⟩
  · rw [if_neg hb2]
    exact ⟨fun _ => hb2, fun _ => rfl⟩
theorem kCx.cost {hx hm : KH} (K : kCx hx hm) {r p : Nat} (hr : r < mn hm 0 16) (hp : p < mn hm 0 8) : f_X2_costOf 24 (201 + 4 * r) (101 + 8 * p) hx = kret (cOf (sCost (mn hm) r p)) hx := by
  obtain ⟨⟨d1, d2, d3, d4⟩, ⟨e1, e2, e3⟩, f1, -, -, n, n1, n2, n3, n4, n5⟩ := K.2.2.2.2.2.2.2 r hr
  obtain ⟨⟨g1, g2, g3, g4, -⟩, ⟨-, -, g5, -⟩, -, ⟨n', o1, o2, o3, o4, o5⟩, -⟩ := K.2.2.2.2.1.2.1 p hp
  refine xc_cost K.1.1 K.mask d2 e3 d3 d4 n3 g2 g5 g3 g4 o3 n2 o2 (mn_of n4 (by omega)) (mn_of o4 (by omega)) (fun k hk => ?_) (fun k hk => ?_)
  · obtain ⟨v, v1, v2, v3⟩ := n5 k hk
    rw [mn_of v3 (by omega)]
    exact ⟨v1, v2⟩
  · obtain ⟨v, v1, v2, v3⟩ := o5 k hk
    rw [mn_of v3 (by omega)]
    exact ⟨by omega, v2⟩
/-! the model's cost -/
theorem mc_idx (a b : Nat) : (15 : Int32) * nI a + nI b = nI (15 * a + b) := by
  rw [show (15 : Int32) = nI 15 from rfl, ka_mul, ka_add]
theorem mc_idx6 (a b : Nat) : (6 : Int32) * nI a + nI b = nI (6 * a + b) := by
  rw [show (6 : Int32) = nI 6 from rfl, ka_mul, ka_add]
theorem MX.costL {h : KH} (M : MX h) {r p : Nat} (hr : r < mn h 0 16) (hp : p < mn h 0 8) (he : mn h 14 r = mn h 6 p) : ∀ (f i : Nat), i ≤ mn h 14 r → mn h 14 r < i + f → X10_costOf_L24 f 0 (nI r) (nI p) (cOf (sCst (mn h) r p i)) (nI i) h = kret (cOf (sCst (mn h) r p (mn h 14 r))) h := by
  intro f
  induction f with
  | zero => intro i h1 h2; omega
  | succ f ih =>
    intro i h1 h2
    obtain ⟨T, ⟨m1, -⟩, ⟨m2, -⟩, m3, m4, -, m6⟩ := M
    obtain ⟨-, -, ⟨l1, l2⟩, l3, l4⟩ := m4 r hr
    obtain ⟨-, -, p4⟩ := m3 p hp
    unfold X10_costOf_L24 X10_costOf_b24
    rw [gN_k T.d0 T.r19, gAI_k T.d14 (by rw [T.n14]; omega) (by omega), l3]
    by_cases hi : mn h 14 r ≤ i
    · rw [kif_t (by rw [ka_le (by omega) (by omega)]; exact hi), show i = mn h 14 r by omega]
      rfl
    · rw [kif_f (by rw [ka_le (by omega) (by omega)]; exact hi)]
      cases e : sCst (mn h) r p i with
      | none =>
        rw [kif_t (show cOf none = -1 from rfl), sCst_nn e _ (by omega)]
        rfl
      | some s =>
        have hs := sCst_le _ _ e
        obtain ⟨x1, x2⟩ := l4 i (by omega)
        obtain ⟨y1, y2⟩ := p4 i (by omega)
        have hst : sCst (mn h) r p (i + 1) = match sCst (mn h) r p i, sPart (mn h) (mn h 15 (6 * r + i)) (mn h 7 (6 * p + i)) with
          | some s, some t => some (s + t)
          | _, _ => none := rfl
        have e2 := ih (i + 1) (by omega) (by omega)
        rw [hst, e] at e2
        rw [kif_f (by show ¬ nI s = -1; rw [ka_n1 (by omega)]; exact fun z => z), gN_k T.d0 T.r20, mc_idx6, gAI_k T.d15 (by rw [T.n15]; omega) (by omega), gN_k T.d0 T.r10, mc_idx6, gAI_k T.d7 (by rw [T.n7]; omega) (by omega), x2, y2]
        unfold sPart at e2
        by_cases q1 : mn h 15 (6 * r + i) = mn h 7 (6 * p + i)
        · rw [if_pos q1] at e2
          rw [kif_t (by rw [q1])]
          unfold X10_costOf_b111
          rw [kif_f (by decide)]
          unfold X10_costOf_b127
          show X10_costOf_L24 f 0 (nI r) (nI p) (nI s + nI 0) (nI i + 1) h = _
          rw [ka_add, nI_1]
          exact e2
        · rw [if_neg q1] at e2
          rw [kif_f (by rw [ka_eq (by omega) (by omega)]; exact q1)]
          by_cases q2 : mn h 15 (6 * r + i) = 14
          · rw [if_pos q2] at e2
            rw [kif_t (by rw [q2]; rfl)]
            unfold X10_costOf_b111
            rw [kif_f (by decide)]
            unfold X10_costOf_b127
            show X10_costOf_L24 f 0 (nI r) (nI p) (nI s + nI 2) (nI i + 1) h = _
            rw [ka_add, nI_1]
            exact e2
          · rw [if_neg q2] at e2
            rw [kif_f (by rw [show (14 : Int32) = nI 14 from rfl, ka_eq (by omega) (by omega)]; exact q2), gN_k T.d0 T.r7, mc_idx, gAI_k T.d5 (by rw [T.n5]; omega) (by omega)]
            rcases m6 _ _ x1 (show mn h 7 (6 * p + i) < 15 by omega) with ⟨q3, q4⟩ | ⟨q3, q4⟩
            · rw [if_pos q4] at e2
              rw [kif_t q3]
              unfold X10_costOf_b111
              rw [kif_t rfl]
              unfold X10_costOf_b127
              rw [nI_1]
              exact e2
            · rw [if_neg (by rw [q4]; decide)] at e2
              rw [kif_f (by rw [q3]; decide)]
              unfold X10_costOf_b111
              rw [kif_f (by decide)]
              unfold X10_costOf_b127
              show X10_costOf_L24 f 0 (nI r) (nI p) (nI s + nI 1) (nI i + 1) h = _
              rw [ka_add, nI_1]
              exact e2
theorem MX.cost {h : KH} (M : MX h) {r p : Nat} (hr : r < mn h 0 16) (hp : p < mn h 0 8) : f_X10_costOf 0 (nI r) (nI p) h = kret (cOf (sCost (mn h) r p)) h := by
  have MM := M
  obtain ⟨T, ⟨m1, -⟩, ⟨m2, -⟩, m3, m4, -, m6⟩ := MM
  obtain ⟨-, -, ⟨l1, l2⟩, l3, l4⟩ := m4 r hr
  obtain ⟨⟨p1, p2⟩, p3, p4⟩ := m3 p hp
  unfold f_X10_costOf
  rw [gN_k T.d0 T.r19, gAI_k T.d14 (by rw [T.n14]; omega) (by omega), l3, gN_k T.d0 T.r9, gAI_k T.d6 (by rw [T.n6]; omega) (by omega), p3]
  unfold sCost
  by_cases hq : mn h 14 r = mn h 6 p
  · rw [kif_t (by rw [hq]), if_pos hq]
    exact M.costL hr hp hq kF 0 (by omega) (by unfold kF; omega)
  · rw [kif_f (by rw [ka_eq (by omega) (by omega)]; exact hq), if_neg hq]
    unfold X10_costOf_b20
    obtain ⟨f, hf⟩ : ∃ f, kF = f + 1 := ⟨999, rfl⟩
    rw [hf]
    unfold X10_costOf_L24 X10_costOf_b24
    rw [gN_k T.d0 T.r19, gAI_k T.d14 (by rw [T.n14]; omega) (by omega), l3, kif_f (by rw [show (0 : Int32) = nI 0 from rfl, ka_le (by omega) (by omega)]; omega), kif_t rfl]
    rfl
