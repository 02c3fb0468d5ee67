/-! plates by number; who holds a plate -/
theorem gR_k {α : Type} {h : KH} {a c k : Nat} {f : Option Nat → KO α} (h1 : kd h a = c) : gR h a c k f = f (kR h a k) := if_pos h1
theorem pR_k {α : Type} {h : KH} {a c k : Nat} {v : Option Nat} {f : KH → KO α} (h1 : kd h a = c) : pR h a c k v f = f (sR h a k v) := if_pos h1
theorem gAN_k {α : Type} {h : KH} {a c i b : Nat} {f : Nat → KO α} (h1 : kd h a = c) (h2 : i < kn h a) (h3 : i < 2147483648) (h4 : kR h a i = some b) : gAN h a c (nI i) f = f b := by
  unfold gAN
  rw [nI_clamp h3, if_pos ⟨h1, by rintro (q | q); exact nI_pos h3 q; omega⟩, h4]
  rfl
theorem kV_k {α β : Type} {h : KH} {c b : Nat} {x : KO α} {k : α → KH → KO β} (h1 : kd h b = c) : kcallV c b h x k = kbind x k := if_pos h1
theorem kif_t {α : Type} {c : Prop} [Decidable c] {x y : KO α} (h : c) : kif c x y = x := if_pos h
theorem kif_f {α : Type} {c : Prop} [Decidable c] {x y : KO α} (h : ¬ c) : kif c x y = y := if_neg h
theorem ka_below (b : Int32) (n : Nat) (hn : n < 1073741824) : (∃ p, p < n ∧ b = nI p ∧ ¬ b < 0 ∧ ¬ (nI n - 1) < b) ∨ (b < 0 ∨ (nI n - 1) < b) := by
  by_cases h0 : b < 0
  · exact Or.inr (Or.inl h0)
  · have hb0 : (0 : Int) ≤ b.toInt := by
      rw [Int32.lt_iff_toInt_lt, show (0 : Int32).toInt = 0 from by decide] at h0
      omega
    have hm1 : (nI n - 1).toInt = (n : Int) - 1 := by
      by_cases hn0 : n = 0
      · subst hn0
        decide
      · rw [ka_pred (by omega), nI_toInt (by omega)]
        omega
    by_cases hlt : b.toInt < n
    · left
      refine ⟨b.toInt.toNat, by omega, ?_, h0, ?_⟩
      · rw [← Int32.toInt_inj, nI_toInt (by omega)]
        omega
      · rw [Int32.lt_iff_toInt_lt, hm1]
        omega
    · right
      right
      rw [Int32.lt_iff_toInt_lt, hm1]
      omega
theorem knul_s {α β : Type} (a : α) (x : KO β) (k : α → KO β) : knul (some a) x k = k a := rfl
theorem knul_n {α β : Type} (x : KO β) (k : α → KO β) : knul none x k = x := rfl
section KPLATE
variable {j : Nat} {hx hm : KH}
/-- the number of plates; the class's and the model's -/
theorem RR.cnt (R : RR j hx hm) : kI hx 0 13 = nI (mn hm 0 8) ∧ kI hm 0 8 = nI (mn hm 0 8) ∧ mn hm 0 8 ≤ 10 := by
  obtain ⟨⟨P, hP, e1, e2⟩, -⟩ := R.2.2.2.2.2.2.2.2.1
  have e : mn hm 0 8 = P := by unfold mn; rw [e2, nI_clamp (by omega)]
  rw [e]
  exact ⟨e1, e2, hP⟩
theorem RR.pl (R : RR j hx hm) {p : Nat} (hp : p < mn hm 0 8) : cPl1 hx hm p := R.2.2.2.2.2.2.2.2.1.2.1 p hp
theorem RR.plate (R : RR j hx hm) {p : Nat} (hp : p < mn hm 0 8) (h1 : ¬ nI p < 0) (h2 : ¬ (nI (mn hm 0 8) - 1) < nI p) : f_X9_plateNumbered 0 (nI p) hx = kret (100 + 8 * p) hx := by
  have S := R.1.1
  obtain ⟨e1, -, e3⟩ := R.cnt
  obtain ⟨-, ⟨d1, -⟩, -⟩ := R.pl hp
  unfold f_X9_plateNumbered
  rw [gI_k S.d0, e1, wi_t h1 h2, kb_ret, kif_f (by decide), gN_k S.d0 S.r0_4, gAN_k S.d26 (by rw [S.n26]; omega) (by omega) d1]
theorem RR.plateNo (R : RR j hx hm) {b : Int32} (h : b < 0 ∨ (nI (mn hm 0 8) - 1) < b) : f_X9_plateNumbered 0 b hx = kthrow 3 hx := by
  have S := R.1.1
  obtain ⟨e1, -, -⟩ := R.cnt
  unfold f_X9_plateNumbered
  rw [gI_k S.d0, e1, wi_f h, kb_ret, kif_t rfl]
theorem RR.isPlate (R : RR j hx hm) {p : Nat} (h1 : ¬ nI p < 0) (h2 : ¬ (nI (mn hm 0 8) - 1) < nI p) : f_X10_isPlate 0 (nI p) hm = kret 1 hm := by
  obtain ⟨-, e2, -⟩ := R.cnt
  unfold f_X10_isPlate
  rw [gI_k R.1.2.d0, e2, in_t h1 h2, kb_ret]
  rfl
theorem RR.isPlateNo (R : RR j hx hm) {b : Int32} (h : b < 0 ∨ (nI (mn hm 0 8) - 1) < b) : f_X10_isPlate 0 b hm = kret 0 hm := by
  obtain ⟨-, e2, -⟩ := R.cnt
  unfold f_X10_isPlate
  rw [gI_k R.1.2.d0, e2, in_f h, kb_ret]
  rfl
end KPLATE
section KHOLD
variable {h : KH} {n p m : Nat}
theorem tm_holdL (T : kSm h) (hc : kI h 0 12 = nI n) (hn : n ≤ 700) (hh : ∀ k, k < n → (∃ q, q < 10 ∧ kI h 9 k = nI q) ∧ ∃ s, s ≤ 50000 ∧ kI h 11 k = nI s) (hp : p < 10) (hm : m < 2147483648) : ∀ (f i : Nat), i ≤ n → n < i + f → X10_holderAt_L5 f 0 (nI p) (nI m) (sHold h p m i) (nI i) h = kret (sHold h p m n) h := by
  intro f
  induction f with
  | zero => intro i h1 h2; omega
  | succ f ih =>
    intro i h1 h2
    unfold X10_holderAt_L5 X10_holderAt_b5
    rw [gI_k T.d0, hc]
    by_cases hi : n ≤ i
    · rw [kif_t (by rw [ka_le (by omega) (by omega)]; exact hi), show i = n by omega]
    · rw [kif_f (by rw [ka_le (by omega) (by omega)]; exact hi), gN_k T.d0 T.r13, gAI_k T.d9 (by rw [T.n9]; omega) (by omega)]
      obtain ⟨⟨q, hq, eq⟩, s, hs, es⟩ := hh i (by omega)
      have e := ih (i + 1) (by omega) (by omega)
      rw [← nI_1] at e
      have hmq : mn h 9 i = q := by unfold mn; rw [eq, nI_clamp (by omega)]
      have hms : mn h 11 i = s := by unfold mn; rw [es, nI_clamp (by omega)]
      have hstep : sHold h p m (i + 1) = if q = p ∧ s ≤ m then kI h 10 i else sHold h p m i := by
        show (if _ then _ else _) = _
        rw [hmq, hms]
      rw [eq]
      by_cases h3 : q = p
      · rw [kif_t (by rw [h3]), gN_k T.d0 T.r15, gAI_k T.d11 (by rw [T.n11]; omega) (by omega), es]
        by_cases h4 : m < s
        · rw [kif_t (by rw [ka_lt (by omega) (by omega)]; exact h4)]
          rw [hstep, if_neg (by omega)] at e
          exact e
        · rw [kif_f (by rw [ka_lt (by omega) (by omega)]; exact h4), gN_k T.d0 T.r14, gAI_k T.d10 (by rw [T.n10]; omega) (by omega)]
          rw [hstep, if_pos ⟨h3, by omega⟩] at e
          exact e
      · rw [kif_f (by rw [ka_eq (by omega) (by omega)]; exact h3)]
        rw [hstep, if_neg (by omega)] at e
        exact e
theorem tm_holderAt (T : kSm h) (hc : kI h 0 12 = nI n) (hn : n ≤ 700) (hh : ∀ k, k < n → (∃ q, q < 10 ∧ kI h 9 k = nI q) ∧ ∃ s, s ≤ 50000 ∧ kI h 11 k = nI s) (hp : p < 10) (hm : m < 2147483648) : f_X10_holderAt 0 (nI p) (nI m) h = kret (sHold h p m n) h :=
  tm_holdL T hc hn hh hp hm kF 0 (by omega) (by unfold kF; omega)
theorem t0_drv (hm : m < 2147483648) : ∀ (n : Nat) (o : Option Nat), xChn h n o → ∀ f, n < f → X4_driverIn_L5 f (nI m) o h = kret (xDrv h m n o) h := by
  intro n
  induction n with
  | zero =>
    intro o c f hf
    obtain rfl : o = none := c
    obtain ⟨f, rfl⟩ : ∃ g, f = g + 1 := ⟨f - 1, by omega⟩
    rfl
  | succ n ih =>
    intro o c f hf
    obtain ⟨f, rfl⟩ : ∃ g, f = g + 1 := ⟨f - 1, by omega⟩
    cases o with
    | none => rfl
    | some a =>
      obtain ⟨c1, c2, ⟨s, hs, es⟩, c4, c5⟩ := c
      unfold X4_driverIn_L5 X4_driverIn_b5 xDrv
      rw [knul_s]
      have hms : mn h a 1 = s := by unfold mn; rw [es, nI_clamp (by omega)]
      rw [gI_k c1, es, hms]
      by_cases h4 : m < s
      · rw [kif_t (by rw [ka_lt (by omega) (by omega)]; exact h4), gR_k c1, if_neg (by omega)]
        exact ih _ c5 f (by omega)
      · rw [kif_f (by rw [ka_lt (by omega) (by omega)]; exact h4), gI_k c1, if_pos (by omega)]
end KHOLD
