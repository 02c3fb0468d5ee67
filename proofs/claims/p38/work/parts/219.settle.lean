/-! settle -/
section CG
variable {hm g : KH}
theorem mn_e (e : kI hm = kI g) : mn hm = mn g := by
  funext a k
  unfold mn
  rw [e]
theorem sPF_e (e : kI hm = kI g) : sPF hm = sPF g := by
  funext r
  unfold sPF
  rw [mn_e e, e]
theorem sBeg_e (e : kI hm = kI g) : sBeg hm = sBeg g := by
  funext r s
  unfold sBeg
  rw [mn_e e, e]
theorem sBegAt_e (e : kI hm = kI g) : sBegAt hm = sBegAt g := by
  funext l k
  unfold sBegAt
  rw [sBeg_e e]
theorem sRw_e (e : kI hm = kI g) : sRw hm = sRw g := by
  funext o l
  unfold sRw LOK
  rw [mn_e e, sPF_e e]
theorem rwL_e (e : kI hm = kI g) (o : Option Nat) : rwL hm o = rwL g o := by
  have h := rwL_s hm o
  rw [sRw_e e] at h
  exact row_uniq h (rwL_s g o)
theorem sHold_e (e : kI hm = kI g) (p m : Nat) : ∀ n, sHold hm p m n = sHold g p m n := by
  intro n
  induction n with
  | zero => rfl
  | succ n ih =>
    unfold sHold
    rw [mn_e e, e, ih]
theorem wS_e (e : kI hm = kI g) (l : List Nat) : ∀ n i, wS hm l n i = wS g l n i := by
  intro n
  induction n with
  | zero => intro i; rfl
  | succ n ih =>
    intro i
    unfold wS
    rw [mn_e e, sBegAt_e e, ih]
theorem duS_e (e : kI hm = kI g) (n p : Nat) (l : List Nat) (d : Int32) : ∀ k, duS hm n p l d k = duS g n p l d k := by
  intro k
  induction k with
  | zero => rfl
  | succ k ih =>
    unfold duS
    rw [ih, sBegAt_e e]
    unfold duF tolF
    rw [mn_e e, sHold_e e, wS_e e]
theorem duT_e (e : kI hm = kI g) (n : Nat) (d : Int32) : ∀ p, duT hm n d p = duT g n d p := by
  intro p
  induction p with
  | zero => rfl
  | succ p ih =>
    unfold duT
    rw [ih, duS_e e, rwL_e e]
end CG
def BL (hm : KH) (a b : Nat → Nat) : Prop := ∀ d, d < 6 → kL hm 20 d = nL (b d) ∧ kL hm 21 d = nL (a d)
/-- the sum of the first -/
def fS (f : Nat → Nat) : Nat → Nat
  | 0 => 0
  | k + 1 => fS f k + f k
theorem fS_6 (f : Nat → Nat) : fS f 6 = sum6 f := by
  show 0 + f 0 + f 1 + f 2 + f 3 + f 4 + f 5 = f 0 + f 1 + f 2 + f 3 + f 4 + f 5
  omega
section SETTLE
variable {j : Nat}
theorem bil20 {hx hm : KH} {k : Nat} {x : Int64} (c : cBil hx hm) : cBil (sL hx 31 k x) (sL hm 20 k x) := by
  refine ⟨fun d hd => ⟨?_, ?_⟩, c.2⟩
  · rw [kL_sL, kL_sL]
    by_cases e : d = k
    · rw [if_pos ⟨rfl, e⟩, if_pos ⟨rfl, e⟩]
    · rw [if_neg (fun z => e z.2), if_neg (fun z => e z.2)]
      exact (c.1 d hd).1
  · rw [kL_sL, kL_sL, if_neg (by omega), if_neg (by omega)]
    exact (c.1 d hd).2
theorem bil21 {hx hm : KH} {k : Nat} {x : Int64} (c : cBil hx hm) : cBil (sL hx 32 k x) (sL hm 21 k x) := by
  refine ⟨fun d hd => ⟨?_, ?_⟩, c.2⟩
  · rw [kL_sL, kL_sL, if_neg (by omega), if_neg (by omega)]
    exact (c.1 d hd).1
  · rw [kL_sL, kL_sL]
    by_cases e : d = k
    · rw [if_pos ⟨rfl, e⟩, if_pos ⟨rfl, e⟩]
    · rw [if_neg (fun z => e z.2), if_neg (fun z => e z.2)]
      exact (c.1 d hd).2
theorem law_setL (hj : j < 512) {g : KH} {n : Nat} (hn0 : n ≤ j) (hg : kI g 0 12 = nI n) {a b t : Nat → Nat} (hab : ∀ d, d < 6 → a d ≤ b d ∧ b d ≤ 1125899906842624) (ht : ∀ d, d < 6 → duT g n (nI d) (mn g 0 8) = t d ∧ t d < 2147483648) : ∀ (f k : Nat) (hx hm : KH), RR j hx hm → kI hm = kI g → BL hm (fun d => if d < k then a d + (b d - a d - t d) else a d) (fun d => if d < k then b d + (t d - (b d - a d)) else b d) → k ≤ 6 → 6 < k + f → ∃ hx' hm', X9_settle_L4 f 0 (nL (fS (fun d => b d - a d - t d) k)) (nI k) hx = kret (nL (fS (fun d => b d - a d - t d) 6)).toInt32 hx' ∧ RR j hx' hm' ∧ kI hm' = kI g ∧ BL hm' (fun d => a d + (b d - a d - t d)) (fun d => b d + (t d - (b d - a d))) := by
  intro f
  induction f with
  | zero => intro k hx hm _ _ _ h1 h2; omega
  | succ f ih =>
    intro k hx hm R eI hB h1 h2
    have S := R.1.1
    have N := R.NX hj
    obtain ⟨n', hn, hc, hh, hd⟩ := R.holdN
    obtain rfl : n' = n := nI_inj (by rw [← hc, eI, hg]) (by omega) (by omega)
    unfold X9_settle_L4 X9_settle_b4
    by_cases hk : 6 ≤ k
    · obtain rfl : k = 6 := by omega
      rw [kif_t (by decide)]
      refine ⟨hx, hm, rfl, R, eI, fun d hd6 => ?_⟩
      have := hB d hd6
      dsimp only at this
      rw [if_pos hd6, if_pos hd6] at this
      exact this
    · have hk6 : k < 6 := by omega
      have c13 := R.2.2.2.2.2.2.2.2.2.2.2.2.2.1
      obtain ⟨b1, b2⟩ := c13.1 k hk6
      obtain ⟨B1, B2⟩ := hB k hk6
      dsimp only at B1 B2
      rw [if_neg (by omega)] at B1 B2
      obtain ⟨hab1, hab2⟩ := hab k hk6
      obtain ⟨ht1, ht2⟩ := ht k hk6
      rw [kif_f (by rw [show (6 : Int32) = nI 6 from rfl, ka_le (by omega) (by omega)]; exact hk), kV_k S.d0, x9_kept R N (fun p hp m hm => hd p hp m hm hj), kb_ret, gN_k S.d0 S.r0_9, gAL_k S.d31 (by rw [S.n31]; omega) (by omega), gN_k S.d0 S.r0_10, gAL_k S.d32 (by rw [S.n32]; omega) (by omega), b1, b2, B1, B2, duT_e eI, mn_e eI, ht1, nI_long ht2, nL_sub hab1]
      by_cases hD : b k - a k ≤ t k
      · rw [nL_sub hD, kif_f (lc_nn (by omega)).2, gN_k S.d0 S.r0_9, gAL_k S.d31 (by rw [S.n31]; omega) (by omega), pAL_k S.d31 (by rw [S.n31]; omega) (by omega), b1, B1, nL_add]
        unfold X9_settle_b69
        rw [nI_1]
        have R1 : RR j (sL hx 31 k (nL (b k + (t k - (b k - a k))))) (sL hm 20 k (nL (b k + (t k - (b k - a k))))) := R.frB (kAg.L hx 31 k _) (kAg.L hm 20 k _) (fun a z => z) (bil20 c13) (fun a k z => Or.inl z.1) (fun a k z => by omega)
        have ew : fS (fun d => b d - a d - t d) (k + 1) = fS (fun d => b d - a d - t d) k := by
          show fS (fun d => b d - a d - t d) k + (b k - a k - t k) = _
          omega
        have := ih (k + 1) _ _ R1 eI (fun d hd6 => ?_) (by omega) (by omega)
        · rw [ew] at this
          exact this
        · obtain ⟨w1, w2⟩ := hB d hd6
          dsimp only at w1 w2 ⊢
          rw [kL_sL, kL_sL, if_neg (show ¬ (21 = 20 ∧ d = k) by omega)]
          by_cases e : d = k
          · subst e
            rw [if_pos ⟨rfl, rfl⟩, if_pos (by omega), if_pos (by omega)]
            refine ⟨rfl, ?_⟩
            rw [B2, show b d - a d - t d = 0 by omega]
            rfl
          · rw [if_neg (fun z => e z.2), w1, w2]
            by_cases hlt : d < k
            · rw [if_pos hlt, if_pos hlt, if_pos (by omega), if_pos (by omega)]
              exact ⟨rfl, rfl⟩
            · rw [if_neg hlt, if_neg hlt, if_neg (by omega), if_neg (by omega)]
              exact ⟨rfl, rfl⟩
      · have e1 : nL (a k) - -nL (b k - a k - t k) = nL (a k + (b k - a k - t k)) := by rw [Int64.sub_neg, nL_add]
        have e2 : nL (fS (fun d => b d - a d - t d) k) - -nL (b k - a k - t k) = nL (fS (fun d => b d - a d - t d) (k + 1)) := by rw [Int64.sub_neg, nL_add]; rfl
        rw [nL_neg (by omega), kif_t (lc_neg (by omega) (by omega)).1, gN_k S.d0 S.r0_10, gAL_k S.d32 (by rw [S.n32]; omega) (by omega), pAL_k S.d32 (by rw [S.n32]; omega) (by omega), b2, B2, e1, e2]
        unfold X9_settle_b69
        rw [nI_1]
        have R1 : RR j (sL hx 32 k (nL (a k + (b k - a k - t k)))) (sL hm 21 k (nL (a k + (b k - a k - t k)))) := R.frB (kAg.L hx 32 k _) (kAg.L hm 21 k _) (fun a z => z) (bil21 c13) (fun a k z => Or.inr z.1) (fun a k z => by omega)
        refine ih (k + 1) _ _ R1 eI (fun d hd6 => ?_) (by omega) (by omega)
        obtain ⟨w1, w2⟩ := hB d hd6
        dsimp only at w1 w2 ⊢
        rw [kL_sL, kL_sL, if_neg (show ¬ (20 = 21 ∧ d = k) by omega)]
        by_cases e : d = k
        · subst e
          rw [if_pos (show d < d + 1 by omega), if_pos (⟨rfl, rfl⟩ : 21 = 21 ∧ d = d), if_pos (show d < d + 1 by omega)]
          refine ⟨?_, rfl⟩
          rw [B1, show t d - (b d - a d) = 0 by omega]
          rfl
        · rw [if_neg (show ¬ (21 = 21 ∧ d = k) from fun z => e z.2), w1, w2]
          by_cases hlt : d < k
          · rw [if_pos hlt, if_pos hlt, if_pos (by omega), if_pos (by omega)]
            exact ⟨rfl, rfl⟩
          · rw [if_neg hlt, if_neg hlt, if_neg (by omega), if_neg (by omega)]
            exact ⟨rfl, rfl⟩
theorem law_settle {h hm : KH} (R : RR j h hm) (hj : j < 512) {n : Nat} (hn0 : n ≤ j) (hg : kI hm 0 12 = nI n) {a b t : Nat → Nat} (hB : BL hm a b) (hab : ∀ d, d < 6 → a d ≤ b d ∧ b d ≤ 1125899906842624) (ht : ∀ d, d < 6 → duT hm n (nI d) (mn hm 0 8) = t d ∧ t d < 2147483648) : ∃ hx' hm', f_X9_settle 0 (sX h 0) = kret (nI (sum6 (fun d => b d - a d - t d))) hx' ∧ RR j hx' hm' ∧ kI hm' = kI hm ∧ BL hm' (fun d => a d + (b d - a d - t d)) (fun d => b d + (t d - (b d - a d))) ∧ FL h hx' ∧ FK (sX h 0) hx' := by
  obtain ⟨hx', hm', e1, e2, e3, e4⟩ := law_setL hj hn0 hg hab ht kF 0 (sX h 0) hm (R.X 0) rfl (fun d hd => by
    dsimp only
    rw [if_neg (by omega), if_neg (by omega)]
    exact hB d hd) (by omega) (by unfold kF; omega)
  rw [nL_back, fS_6] at e1
  have e : f_X9_settle 0 (sX h 0) = kret (nI (sum6 (fun d => b d - a d - t d))) hx' := e1
  exact ⟨hx', hm', e, e2, e3, e4, (FL.X h 0).trans (fr_f_X9_settle 0 _ _ _ e), fk_f_X9_settle 0 _ _ _ e⟩
end SETTLE
