/-! the model's distances -/
section KFLOYD
variable {L : Nat → Nat → Nat}
theorem ka_div8 (k : Nat) (hk : k < 64) : nI k / 8 = nI (k / 8) := by
  rw [show (8 : Int32) = nI 8 from rfl, pk_div (by omega) (by decide) (by decide)]
theorem ka_mod8 (k : Nat) (hk : k < 64) : nI k - nI (k / 8) * 8 = nI (k % 8) := by
  rw [show (8 : Int32) = nI 8 from rfl, ka_mul, ka_sub (by omega), show k - k / 8 * 8 = k % 8 by omega]
theorem kdv8 {α : Type} (f : KO α) : kdv 8 f = f := if_neg (by decide)
theorem tm_m0L (hL : ∀ i j, i < 8 → j < 8 → L i j ≤ 200) : ∀ (f k : Nat) (h : KH), kSm h → (∀ q, q < 64 → kI h 1 q = nI (L (q / 8) (q % 8))) → (∀ q, q < k → kI h 2 q = cOf (kF0 L (q / 8) (q % 8))) → k ≤ 64 → 64 < k + f → ∃ h', X10_measures_L2 f 0 (nI k) h = X10_measures_L56 kF 0 0 h' ∧ kAg (fun a _ => a = 2) h h' ∧ ∀ q, q < 64 → kI h' 2 q = cOf (kF0 L (q / 8) (q % 8)) := by
  intro f
  induction f with
  | zero => intro k h _ _ _ h1 h2; omega
  | succ f ih =>
    intro k h T hr hq h1 h2
    unfold X10_measures_L2 X10_measures_b2
    by_cases hk : 64 ≤ k
    · exact ⟨h, by rw [kif_t (by rw [show (64 : Int32) = nI 64 from rfl, ka_le (by omega) (by omega)]; exact hk)], (kAg.rf h).sub (fun _ _ z => z.elim), fun q hq' => hq q (by omega)⟩
    · have hk64 : k < 64 := by omega
      have hLk := hL (k / 8) (k % 8) (by omega) (by omega)
      have fin : ∀ v : Int32, v = cOf (kF0 L (k / 8) (k % 8)) → ∃ h', X10_measures_b47 (X10_measures_L2 f) 0 (nI k) v (nI k) 2 h = X10_measures_L56 kF 0 0 h' ∧ kAg (fun a _ => a = 2) h h' ∧ ∀ q, q < 64 → kI h' 2 q = cOf (kF0 L (q / 8) (q % 8)) := by
        intro v hv
        have ag1 := kAg.I h 2 k v
        obtain ⟨h', e1, e2, e3⟩ := ih (k + 1) (sI h 2 k v) (T.fr ag1 (fun a k q z => by omega)) (fun q hq' => by rw [kI_sI, if_neg (by omega)]; exact hr q hq') (fun q hq' => by
          rw [kI_sI]
          by_cases hqk : q = k
          · rw [if_pos ⟨rfl, hqk⟩, hv, hqk]
          · rw [if_neg (by omega)]
            exact hq q (by omega)) (by omega) (by omega)
        refine ⟨h', ?_, ag1.trans e2 (fun a k q z => q z.1) (fun a k q => q), e3⟩
        unfold X10_measures_b47
        rw [pAI_k T.d2 (by rw [T.n2]; omega) (by omega), nI_1]
        exact e1
      rw [kif_f (by rw [show (64 : Int32) = nI 64 from rfl, ka_le (by omega) (by omega)]; exact hk), gN_k T.d0 T.r3, kdv8, kdv8, ka_div8 k hk64, ka_mod8 k hk64]
      unfold kF0 at fin
      by_cases hd : k / 8 = k % 8
      · rw [if_pos hd] at fin
        rw [kif_t (by rw [hd])]
        exact fin 0 rfl
      · rw [if_neg hd] at fin
        rw [kif_f (by rw [ka_eq (by omega) (by omega)]; exact hd), gN_k T.d0 T.r2, gAI_k T.d1 (by rw [T.n1]; omega) (by omega), hr k hk64]
        by_cases h0 : L (k / 8) (k % 8) = 0
        · rw [if_pos h0] at fin
          rw [kif_t (by rw [h0]; rfl)]
          exact fin (-1) rfl
        · rw [if_neg h0] at fin
          rw [kif_f (by rw [show (0 : Int32) = nI 0 from rfl, ka_eq (by omega) (by omega)]; exact h0), gN_k T.d0 T.r2, gAI_k T.d1 (by rw [T.n1]; omega) (by omega), hr k hk64]
          exact fin _ rfl
theorem tm_m1L {F : Nat → Nat → Option Nat} {m : Nat} (hm : m < 8) (h0 : F m m = some 0) (hB : ∀ i j d, i < 8 → j < 8 → F i j = some d → d ≤ 60000) (rc : Nat → Int32 → KH → KO Unit) : ∀ (f k : Nat) (h : KH), kSm h → (∀ q, q < 64 → kI h 2 q = cOf (if q < k then stp m F (q / 8) (q % 8) else F (q / 8) (q % 8))) → k ≤ 64 → 64 < k + f → ∃ h', X10_measures_L64 rc f 0 (nI m) (nI k) h = rc 0 (nI (m + 1)) h' ∧ kAg (fun a _ => a = 2) h h' ∧ ∀ q, q < 64 → kI h' 2 q = cOf (stp m F (q / 8) (q % 8)) := by
  intro f
  induction f with
  | zero => intro k h _ _ h1 h2; omega
  | succ f ih =>
    intro k h T hq h1 h2
    unfold X10_measures_L64 X10_measures_b64
    by_cases hk : 64 ≤ k
    · refine ⟨h, by rw [kif_t (by rw [show (64 : Int32) = nI 64 from rfl, ka_le (by omega) (by omega)]; exact hk), nI_1], (kAg.rf h).sub (fun _ _ z => z.elim), fun q hq' => ?_⟩
      have := hq q hq'
      rw [if_pos (by omega)] at this
      exact this
    · have hk64 : k < 64 := by omega
      have fin : ∀ v : Int32, v = cOf (stp m F (k / 8) (k % 8)) → ∃ h', X10_measures_b165 rc (X10_measures_L64 rc f) 0 (nI m) (nI k) v (nI k) 2 h = rc 0 (nI (m + 1)) h' ∧ kAg (fun a _ => a = 2) h h' ∧ ∀ q, q < 64 → kI h' 2 q = cOf (stp m F (q / 8) (q % 8)) := by
        intro v hv
        have ag1 := kAg.I h 2 k v
        obtain ⟨h', e1, e2, e3⟩ := ih (k + 1) (sI h 2 k v) (T.fr ag1 (fun a k q z => by omega)) (fun q hq' => by
          rw [kI_sI]
          by_cases hqk : q = k
          · rw [if_pos ⟨rfl, hqk⟩, if_pos (by omega), hv, hqk]
          · rw [if_neg (fun z => hqk z.2), hq q hq']
            by_cases hlt : q < k
            · rw [if_pos hlt, if_pos (by omega)]
            · rw [if_neg hlt, if_neg (by omega)]) (by omega) (by omega)
        refine ⟨h', ?_, ag1.trans e2 (fun a k q z => q z.1) (fun a k q => q), e3⟩
        unfold X10_measures_b165
        rw [pAI_k T.d2 (by rw [T.n2]; omega) (by omega), nI_1]
        exact e1
      have c1 : kI h 2 (8 * (k / 8) + m) = cOf (F (k / 8) m) := by
        rw [hq _ (by omega), show (8 * (k / 8) + m) / 8 = k / 8 by omega, show (8 * (k / 8) + m) % 8 = m by omega]
        split
        · rw [stp_row h0]
        · rfl
      have c2 : kI h 2 (8 * m + k % 8) = cOf (F m (k % 8)) := by
        rw [hq _ (by omega), show (8 * m + k % 8) / 8 = m by omega, show (8 * m + k % 8) % 8 = k % 8 by omega]
        split
        · rw [stp_col h0]
        · rfl
      have c3 : kI h 2 k = cOf (F (k / 8) (k % 8)) := by
        rw [hq k hk64, if_neg (by omega)]
      have keep : ∀ x1 x2 : Int32, stp m F (k / 8) (k % 8) = F (k / 8) (k % 8) → ∃ h', X10_measures_b139 rc (X10_measures_L64 rc f) 0 (nI m) (nI k) x1 x2 h = rc 0 (nI (m + 1)) h' ∧ kAg (fun a _ => a = 2) h h' ∧ ∀ q, q < 64 → kI h' 2 q = cOf (stp m F (q / 8) (q % 8)) := by
        intro x1 x2 e
        unfold X10_measures_b139 X10_measures_b140
        rw [gN_k T.d0 T.r3, kif_t rfl, gN_k T.d0 T.r3, gAI_k T.d2 (by rw [T.n2]; omega) (by omega), c3]
        exact fin _ (by rw [e])
      rw [kif_f (by rw [show (64 : Int32) = nI 64 from rfl, ka_le (by omega) (by omega)]; exact hk), gN_k T.d0 T.r3, kdv8, ka_div8 k hk64, mc_idx8, gAI_k T.d2 (by rw [T.n2]; omega) (by omega), gN_k T.d0 T.r3, kdv8, ka_mod8 k hk64, mc_idx8, gAI_k T.d2 (by rw [T.n2]; omega) (by omega), c1, c2]
      cases e1 : F (k / 8) m with
      | none =>
        rw [kif_t (show cOf none = -1 from rfl)]
        exact keep _ _ (stp_none (Or.inl e1))
      | some a =>
        have ha := hB _ _ a (by omega) hm e1
        rw [kif_f (by show ¬ nI a = -1; rw [ka_n1 (by omega)]; exact fun z => z)]
        cases e2 : F m (k % 8) with
        | none =>
          rw [kif_t (show cOf none = -1 from rfl)]
          exact keep _ _ (stp_none (Or.inr e2))
        | some b =>
          have hb := hB _ _ b hm (by omega) e2
          have take : stp m F (k / 8) (k % 8) = some (a + b) → ∃ h', X10_measures_b135 rc (X10_measures_L64 rc f) 0 (nI m) (nI k) (nI a) (nI b) h = rc 0 (nI (m + 1)) h' ∧ kAg (fun a _ => a = 2) h h' ∧ ∀ q, q < 64 → kI h' 2 q = cOf (stp m F (q / 8) (q % 8)) := by
            intro e
            unfold X10_measures_b135 X10_measures_b140
            rw [gN_k T.d0 T.r3, kif_f (by decide), ka_add]
            exact fin _ (by rw [e]; rfl)
          rw [kif_f (by show ¬ nI b = -1; rw [ka_n1 (by omega)]; exact fun z => z), gN_k T.d0 T.r3, gAI_k T.d2 (by rw [T.n2]; omega) (by omega), c3]
          have hs := stp_some (j := k % 8) e1 e2
          cases e3 : F (k / 8) (k % 8) with
          | none =>
            rw [e3] at hs
            rw [kif_t (show cOf none = -1 from rfl)]
            exact take hs
          | some c =>
            have hc := hB _ _ c (by omega) (by omega) e3
            rw [e3] at hs
            have hs' : stp m F (k / 8) (k % 8) = if a + b < c then some (a + b) else some c := hs
            rw [kif_f (by show ¬ nI c = -1; rw [ka_n1 (by omega)]; exact fun z => z), gN_k T.d0 T.r3, gAI_k T.d2 (by rw [T.n2]; omega) (by omega), c3, e3]
            rw [show cOf (some a) = nI a from rfl, show cOf (some b) = nI b from rfl, show cOf (some c) = nI c from rfl, ka_add]
            by_cases g : c ≤ a + b
            · rw [if_neg (by omega)] at hs'
              rw [kif_t (by rw [ka_le (by omega) (by omega)]; exact g)]
              exact keep _ _ (by rw [hs', e3])
            · rw [if_pos (by omega)] at hs'
              rw [kif_f (by rw [ka_le (by omega) (by omega)]; exact g)]
              exact take hs'
theorem tm_m2L (hL : ∀ i j, i < 8 → j < 8 → L i j ≤ 200) : ∀ (f m : Nat) (h : KH), kSm h → (∀ q, q < 64 → kI h 2 q = cOf (FWn L m (q / 8) (q % 8))) → m ≤ 8 → 8 < m + f → ∃ h', X10_measures_L56 f 0 (nI m) h = kret () h' ∧ kAg (fun a _ => a = 2) h h' ∧ ∀ q, q < 64 → kI h' 2 q = cOf (FWn L 8 (q / 8) (q % 8)) := by
  intro f
  induction f with
  | zero => intro m h _ _ h1 h2; omega
  | succ f ih =>
    intro m h T hq h1 h2
    unfold X10_measures_L56 X10_measures_b56
    by_cases hm : 8 ≤ m
    · obtain rfl : m = 8 := by omega
      exact ⟨h, by rw [kif_t (by rw [show (8 : Int32) = nI 8 from rfl, ka_le (by omega) (by omega)]; exact hm)], (kAg.rf h).sub (fun _ _ z => z.elim), hq⟩
    · have hb : ∀ i j d, i < 8 → j < 8 → FWn L m i j = some d → d ≤ 60000 := fun i j d hi hj e => by
        have h5 := FW_bound hL m h1 i j d hi hj e
        have h6 : 2 ^ m ≤ 2 ^ 8 := Nat.pow_le_pow_right (by decide) h1
        have h7 : 2 ^ 8 = 256 := by decide
        omega
      obtain ⟨h1', e1, e2, e3⟩ := tm_m1L (F := FWn L m) (m := m) (by omega) (FW_diag m m) hb (X10_measures_L56 f) kF 0 h T (fun q hq' => by rw [if_neg (Nat.not_lt_zero q)]; exact hq q hq') (by omega) (by unfold kF; omega)
      obtain ⟨h2', f1, f2, f3⟩ := ih (m + 1) h1' (T.fr e2 (fun a k q z => by omega)) e3 (by omega) (by omega)
      refine ⟨h2', ?_, e2.trans f2 (fun a k q => q) (fun a k q => q), f3⟩
      rw [kif_f (by rw [show (8 : Int32) = nI 8 from rfl, ka_le (by omega) (by omega)]; exact hm)]
      exact e1.trans f1
theorem tm_measures {h : KH} (T : kSm h) (hL : ∀ i j, i < 8 → j < 8 → L i j ≤ 200) (hr : ∀ i j, i < 8 → j < 8 → kI h 1 (8 * i + j) = nI (L i j)) : ∃ h', f_X10_measures 0 h = kret () h' ∧ kAg (fun a _ => a = 2) h h' ∧ ∀ i j, i < 8 → j < 8 → kI h' 2 (8 * i + j) = cOf (FWn L 8 i j) := by
  obtain ⟨h1, e1, e2, e3⟩ := tm_m0L hL kF 0 h T (fun q hq => by
    have := hr (q / 8) (q % 8) (by omega) (by omega)
    rw [show 8 * (q / 8) + q % 8 = q by omega] at this
    exact this) (fun q hq => absurd hq (Nat.not_lt_zero _)) (by omega) (by unfold kF; omega)
  obtain ⟨h2, f1, f2, f3⟩ := tm_m2L hL kF 0 h1 (T.fr e2 (fun a k q z => by omega)) e3 (by omega) (by unfold kF; omega)
  refine ⟨h2, e1.trans f1, e2.trans f2 (fun a k q => q) (fun a k q => q), fun i j hi hj => ?_⟩
  rw [f3 (8 * i + j) (by omega), show (8 * i + j) / 8 = i by omega, show (8 * i + j) % 8 = j by omega]
end KFLOYD
