/-! the order of the plates -/
theorem nI_or (a b : Nat) : nI a ||| nI b = nI (a ||| b) := by
  unfold nI
  rw [← Int32.toBitVec_inj, Int32.toBitVec_or, Int32.toBitVec_ofNat', Int32.toBitVec_ofNat', Int32.toBitVec_ofNat']
  apply BitVec.eq_of_toNat_eq
  simp [BitVec.toNat_or, BitVec.toNat_ofNat, Nat.or_mod_two_pow]
theorem lb_bit0 {M b : Nat} (hM : M < 32768) (hb : b < 15) : (((nI M >>> (nI b &&& 31)) &&& 1) = 0) = (M.testBit b = false) := by
  have e := lb_part (n := M) (s := b) (b := 1) (by omega) (by omega) (by omega)
  rw [show ((1 : Int32) <<< (nI 1 &&& 31)) - 1 = 1 from by decide] at e
  rw [e, show (0 : Int32) = nI 0 from rfl, ka_eq (by omega) (by omega), Nat.testBit_eq_decide_div_mod_eq, decide_eq_false_iff_not]
  have : M / 2 ^ b % 2 < 2 := Nat.mod_lt _ (by omega)
  rw [Nat.pow_one]
  exact propext ⟨fun h => by omega, fun h => by omega⟩
theorem lb_one {b : Nat} (hb : b < 15) : (1 : Int32) <<< (nI b &&& 31) = nI (2 ^ b) := by
  have h : 2 ^ b ≤ 2 ^ 14 := Nat.pow_le_pow_right (by omega) (by omega)
  have := lb_shl (n := 1) (s := b) (by omega) (by rw [show (2 : Nat) ^ 14 = 16384 from by decide] at h; omega)
  rw [Nat.one_mul] at this
  exact this
theorem or_bit {M b : Nat} (hM : M < 32768) (hb : b < 15) : M ||| 2 ^ b < 32768 ∧ ∀ i, (M ||| 2 ^ b).testBit i = (M.testBit i || decide (b = i)) := by
  refine ⟨?_, fun i => ?_⟩
  · exact Nat.or_lt_two_pow (n := 15) hM (Nat.pow_lt_pow_right (by omega) hb)
  · rw [Nat.testBit_or, Nat.testBit_two_pow]
section ORDERED
variable {j : Nat} {h hm : KH}
theorem MX.ptx16 (M : MX hm) {p : Nat} (hp : p < mn hm 0 8) : ∀ k, k < mn hm 6 p → mn hm 7 (6 * p + k) < 16 := fun k hk => by
  have := ((M.2.2.2.1 p hp).2.2 k hk).1
  omega
theorem MX.ptx_lt (M : MX hm) {p : Nat} (hp : p < mn hm 0 8) : ptx hm p < 117440512 := pkT_lt (M.2.2.2.1 p hp).1.2 (M.ptx16 hp)
theorem MX.psz (M : MX hm) {p : Nat} (hp : p < mn hm 0 8) (g : KH) : f_L_size (nI (ptx hm p)) g = kret (nI (mn hm 6 p)) g := by
  rw [fl_size (by have := M.ptx_lt hp; omega), show ptx hm p / 16777216 = mn hm 6 p from pkT_size (M.2.2.2.1 p hp).1.2 (M.ptx16 hp)]
theorem MX.psg (M : MX hm) {p k : Nat} (hp : p < mn hm 0 8) (hk : k < mn hm 6 p) (g : KH) : f_L_sign (nI (ptx hm p)) (nI k) g = kret (nI (mn hm 7 (6 * p + k))) g := by
  have h6 := (M.2.2.2.1 p hp).1.2
  rw [fl_sign (by have := M.ptx_lt hp; omega) (by omega), show ptx hm p / 2 ^ (4 * k) % 16 = mn hm 7 (6 * p + k) from pkT_at h6 (M.ptx16 hp) hk]
theorem MX.pend (M : MX hm) {p i : Nat} (hp : p < mn hm 0 8) (hi : i < mn hm 6 p) (g : KH) : f_L_sign (nI (ptx hm p)) (nI (mn hm 6 p) - nI (i + 1)) g = kret (nI ((sTl (mn hm) p).getD i 0)) g := by
  rw [ka_sub (by omega), M.psg hp (by omega), sTl_at _ _ _ hi, show mn hm 6 p - 1 - i = mn hm 6 p - (i + 1) by omega]
theorem law_aheadL (M : MX hm) (g : KH) {p q : Nat} (hp : p < mn hm 0 8) (hq : q < mn hm 0 8) : ∀ (f i : Nat), i ≤ mn hm 6 p → i ≤ mn hm 6 q → 6 < i + f → (∀ k, k < i → (sTl (mn hm) p).getD k 0 = (sTl (mn hm) q).getD k 0) → L_isAhead_L2 f (nI (ptx hm p)) (nI (ptx hm q)) (nI (i + 1)) g = kret (if sTl (mn hm) p < sTl (mn hm) q then 1 else 0) g := by
  have MM := M
  obtain ⟨T, ⟨m1, -⟩, -, m3, -⟩ := MM
  obtain ⟨⟨p1, p2⟩, p3, p4⟩ := m3 p hp
  obtain ⟨⟨q1, q2⟩, q3, q4⟩ := m3 q hq
  intro f
  induction f with
  | zero => intro i h1 h2 h3; omega
  | succ f ih =>
    intro i h1 h2 h3 h4
    obtain ⟨t1, t2⟩ := tl_at i (sTl (mn hm) p) (sTl (mn hm) q) (by rw [sTl_len]; exact h1) (by rw [sTl_len]; exact h2) h4
    rw [sTl_len, sTl_len] at t1 t2
    have hG : L_isAhead_b65 (nI (ptx hm p)) (nI (ptx hm q)) g = kret (if mn hm 6 p < mn hm 6 q then 1 else 0) g := by
      unfold L_isAhead_b65
      rw [M.psz hp, kb_ret, M.psz hq, kb_ret]
      by_cases gg : mn hm 6 q ≤ mn hm 6 p
      · rw [kif_t (by rw [ka_le (by omega) (by omega)]; exact gg), if_neg (by omega)]
        rfl
      · rw [kif_f (by rw [ka_le (by omega) (by omega)]; exact gg), if_pos (by omega)]
        rfl
    unfold L_isAhead_L2 L_isAhead_b2
    rw [M.psz hp, kb_ret]
    by_cases g1 : i = mn hm 6 p
    · rw [kif_t (by rw [ka_lt (by omega) (by omega)]; omega), hG]
      simp only [t1 (Or.inl g1)]
    · rw [kif_f (by rw [ka_lt (by omega) (by omega)]; omega), M.psz hq, kb_ret]
      by_cases g2 : i = mn hm 6 q
      · rw [kif_t (by rw [ka_lt (by omega) (by omega)]; omega), hG]
        simp only [t1 (Or.inr g2)]
      · have l1 := M.signAt_le hp (k := i) (by omega)
        have l2 := M.signAt_le hq (k := i) (by omega)
        rw [kif_f (by rw [ka_lt (by omega) (by omega)]; omega), M.psz hp, kb_ret, M.pend hp (by omega), kb_ret, M.psz hq, kb_ret, M.pend hq (by omega), kb_ret]
        by_cases g3 : (sTl (mn hm) p).getD i 0 = (sTl (mn hm) q).getD i 0
        · rw [kif_t (by rw [g3]), nI_1]
          exact ih (i + 1) (by omega) (by omega) (by omega) (fun k hk => by
            by_cases hki : k = i
            · rw [hki]; exact g3
            · exact h4 k (by omega))
        · rw [kif_f (by rw [ka_eq (by omega) (by omega)]; exact g3)]
          simp only [t2 (by omega) (by omega) g3]
          by_cases g4 : (sTl (mn hm) q).getD i 0 ≤ (sTl (mn hm) p).getD i 0
          · rw [kif_t (by rw [ka_le (by omega) (by omega)]; exact g4), if_neg (by omega)]
            rfl
          · rw [kif_f (by rw [ka_le (by omega) (by omega)]; exact g4), if_pos (by omega)]
            rfl
theorem law_isAhead (M : MX hm) (g : KH) {p q : Nat} (hp : p < mn hm 0 8) (hq : q < mn hm 0 8) : f_L_isAhead (nI (ptx hm p)) (nI (ptx hm q)) g = kret (if sTl (mn hm) p < sTl (mn hm) q then 1 else 0) g :=
  law_aheadL M g hp hq kF 0 (by omega) (by omega) (by unfold kF; omega) (fun k hk => by omega)
theorem law_orderL (R : RR j h hm) (T : TT h hm) {o : List Nat} (ol : o.length = mn hm 0 8) (om : ∀ p, p ∈ o ↔ p < mn hm 0 8) (op : o.Pairwise (fun p q => sTl (mn hm) p < sTl (mn hm) q)) (oe : ∀ k, k < mn hm 0 8 → f_zX9_plateAt 0 (nI k) (sX h 0) = kret (nI (o.getD k 0)) (sX h 0)) : ∀ (f k M m : Nat), k ≤ mn hm 0 8 → mn hm 0 8 < k + f → M < 32768 → (∀ i, M.testBit i = true → ∃ l, l < k ∧ o.getD l 0 = i) → ∃ m', L_areOrdered_L22 f 0 42 47 (nI M) 1 (nI k) (sX h m) = kret 1 (sX h m') := by
  have RX := R.X 0
  have S := RX.1.1
  have MX := R.MX
  have TX := T.X 0
  obtain ⟨k42, n42⟩ := TX.1.1
  obtain ⟨k47, n47⟩ := TX.1.2.2.2.2.2.1
  have hP := R.P
  have inj : ∀ a b, a < b → b < mn hm 0 8 → sTl (mn hm) (o.getD a 0) < sTl (mn hm) (o.getD b 0) := fun a b h1 h2 => by
    have := List.pairwise_iff_getElem.1 op a b (by omega) (by omega) h1
    rw [List.getD_eq_getElem?_getD, List.getD_eq_getElem?_getD, List.getElem?_eq_getElem (by omega), List.getElem?_eq_getElem (by omega)]
    exact this
  have lt : ∀ k, k < mn hm 0 8 → o.getD k 0 < mn hm 0 8 := fun k hk => (om _).1 (gD_mem.2 ⟨k, by omega, rfl⟩)
  intro f
  induction f with
  | zero => intro k M m h1 h2; omega
  | succ f ih =>
    intro k M m h1 h2 hM hb
    have e2 : ∀ m, kI (sX h m) 47 2 = nI (mn hm 0 8) := fun m => by
      rw [show kI (sX h m) 47 2 = kI (sX h 0) 47 2 from rfl, TX.2.2.2.2.2.1.2.2.1]
      exact R.cnt.2.1
    unfold L_areOrdered_L22 L_areOrdered_b22
    rw [show (2 : Int32) = nI 2 from rfl, gAI_k (T.X m).1.2.2.2.2.2.1.1 (by rw [(T.X m).1.2.2.2.2.2.1.2]; omega) (by omega), e2]
    by_cases hk : mn hm 0 8 ≤ k
    · rw [kif_t (by rw [ka_le (by omega) (by omega)]; exact hk)]
      exact ⟨m, rfl⟩
    · have hkl : k < mn hm 0 8 := by omega
      have hq := lt k hkl
      rw [kif_f (by rw [ka_le (by omega) (by omega)]; exact hk), kif_f (by decide), sX_X, kV_k S.d0, oe k hkl, kb_ret, kif_f (by rw [ka_neg (by omega)]; exact fun z => z), gAI_k k47 (by rw [n47]; omega) (by omega), e2, kif_f (by rw [ka_le (by omega) (by omega)]; omega)]
      have hbit : M.testBit (o.getD k 0) = false := by
        cases e : M.testBit (o.getD k 0) with
        | false => rfl
        | true =>
          obtain ⟨l, l1, l2⟩ := hb _ e
          have := inj l k l1 hkl
          rw [l2] at this
          exact absurd this (List.lt_irrefl _)
      have go : ∃ m', L_areOrdered_b94 (L_areOrdered_L22 f) 0 42 47 (nI M) (nI k) (nI (o.getD k 0)) (sX h 0) = kret 1 (sX h m') := by
        unfold L_areOrdered_b94 L_areOrdered_b99
        obtain ⟨b1, b2⟩ := or_bit hM (show o.getD k 0 < 15 by omega)
        rw [lb_one (by omega), nI_or, nI_1]
        refine ih (k + 1) _ 0 (by omega) (by omega) b1 (fun i hi => ?_)
        rw [b2, Bool.or_eq_true, decide_eq_true_iff] at hi
        rcases hi with hi | hi
        · obtain ⟨l, l1, l2⟩ := hb i hi
          exact ⟨l, by omega, l2⟩
        · exact ⟨k, by omega, hi⟩
      rw [kif_t (by rw [lb_bit0 hM (by omega)]; exact hbit)]
      by_cases hk0 : k = 0
      · rw [kif_t (by rw [hk0]; rfl)]
        exact go
      · have hp := lt (k - 1) (by omega)
        rw [kif_f (by rw [show (0 : Int32) = nI 0 from rfl, ka_eq (by omega) (by omega)]; exact hk0), sX_X, kV_k S.d0, ka_pred (by omega), oe (k - 1) (by omega), kb_ret, show (1 : Int32) = nI 1 from rfl, ka_add, gAI_k k42 (by rw [n42]; omega) (by omega), ka_add, gAI_k k42 (by rw [n42]; omega) (by omega), TX.2.1.2 _ hp, TX.2.1.2 _ hq, law_isAhead MX _ hp hq, if_pos (inj (k - 1) k (by omega) hkl), kb_ret, kif_f (by decide)]
        exact go
theorem law_areOrdered (R : RR j h hm) (T : TT h hm) : ∃ m, f_L_areOrdered 0 42 47 h = kret 1 (sX h m) := by
  have RX := R.X 0
  have S := RX.1.1
  have TX := T.X 0
  obtain ⟨o, ol, om, op, oe⟩ := rd_plateAt RX
  obtain ⟨k47, n47⟩ := TX.1.2.2.2.2.2.1
  have hP := R.P
  unfold f_L_areOrdered
  rw [kV_k S.d0, rd_plates RX, kb_ret, show (2 : Int32) = nI 2 from rfl, gAI_k k47 (by rw [n47]; omega) (by omega), TX.2.2.2.2.2.1.2.2.1, R.cnt.2.1, kif_t rfl]
  unfold L_areOrdered_b17
  exact law_orderL R T ol om op oe kF 0 0 0 (by omega) (by unfold kF; omega) (by omega) (fun i hi => by rw [Nat.zero_testBit] at hi; cases hi)
end ORDERED
