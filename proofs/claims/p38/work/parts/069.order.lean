/-! a plate into the order -/
def TXp (h : KH) (m : Nat → Nat → Nat) (p : Nat) : Prop := (kd h (100 + 8 * p) = 5 ∧ kR h (100 + 8 * p) 1 = some (101 + 8 * p)) ∧ (kd h (101 + 8 * p) = 8 ∧ kR h (101 + 8 * p) 0 = some (102 + 8 * p) ∧ kd h (102 + 8 * p) = 21 ∧ kn h (102 + 8 * p) = 6) ∧ m 6 p ≤ 6 ∧ kI h (101 + 8 * p) 1 = nI (m 6 p) ∧ ∀ k, k < m 6 p → m 7 (6 * p + k) < 15 ∧ kI h (102 + 8 * p) k = nI (m 7 (6 * p + k))
theorem TXp.cb {h : KH} {m : Nat → Nat → Nat} {p q : Nat} (A : TXp h m p) (B : TXp h m q) : f_X7_comesBefore (101 + 8 * p) (101 + 8 * q) h = kret (if sTl m p < sTl m q then 1 else 0) h := by
  obtain ⟨-, ⟨a1, a2, a3, a4⟩, a5, a6, a7⟩ := A
  obtain ⟨-, ⟨b1, b2, b3, b4⟩, b5, b6, b7⟩ := B
  exact x7_cb (X := fun k => m 7 (6 * p + k)) (Y := fun k => m 7 (6 * q + k)) (La := sTl m p) (Lb := sTl m q) a1 a2 a3 a4 a6 b1 b2 b3 b4 b6 a5 b5 a7 b7 (sTl_len m p) (sTl_len m q) (fun k hk => sTl_at m p k hk) (fun k hk => sTl_at m q k hk)
theorem TXp.fr {h h' : KH} {m : Nat → Nat → Nat} {p : Nat} {D : Nat → Nat → Prop} (A : TXp h m p) (ag : kAg D h h') (hD : ∀ a k, 100 + 8 * p ≤ a ∧ a ≤ 102 + 8 * p → ¬ D a k) : TXp h' m p := by
  obtain ⟨⟨a0, a0'⟩, ⟨a1, a2, a3, a4⟩, a5, a6, a7⟩ := A
  have k0 := ag.k (100 + 8 * p) (by rw [a0]; decide)
  have k1 := ag.k (101 + 8 * p) (by rw [a1]; decide)
  have k2 := ag.k (102 + 8 * p) (by rw [a3]; decide)
  exact ⟨⟨by rw [k0.1, a0], by rw [(ag.1 _ _ (hD (100 + 8 * p) 1 (by omega))).2.2, a0']⟩, ⟨by rw [k1.1, a1], by rw [(ag.1 _ _ (hD (101 + 8 * p) 0 (by omega))).2.2, a2], by rw [k2.1, a3], by rw [k2.2, a4]⟩, a5, by rw [(ag.1 _ _ (hD (101 + 8 * p) 1 (by omega))).1, a6], fun k hk => by rw [(ag.1 _ _ (hD (102 + 8 * p) k (by omega))).1]; exact a7 k hk⟩
theorem x9_pioL {hx : KH} {m : Nat → Nat → Nat} {P : Nat} {o : List Nat} (hP : P < 10) (ol : o.length = P) (om : ∀ k, k < o.length → o.getD k 0 < P) (oe : ∀ k, k < o.length → kR hx 27 k = some (100 + 8 * o.getD k 0)) : ∀ (f i : Nat) (h : KH), kSx h → (∀ p, p ≤ P → TXp h m p) → kAg (fun a _ => a = 27) hx h → (∀ k, k < i → kR h 27 k = kR hx 27 k) → (∀ k, i ≤ k → k < P → kR h 27 (k + 1) = kR hx 27 k) → i ≤ P → i < f → ∃ h' i', X9_putInOrder_L5 f 0 (100 + 8 * P) (nI i) h = kret () h' ∧ i' ≤ i ∧ kAg (fun a _ => a = 27) hx h' ∧ (∀ k, k < i' → kR h' 27 k = kR hx 27 k) ∧ (∀ k, i' ≤ k → k < P → kR h' 27 (k + 1) = kR hx 27 k) ∧ kR h' 27 i' = some (100 + 8 * P) ∧ (∀ k, i' ≤ k → k < i → sTl m P < sTl m (o.getD k 0)) ∧ (i' = 0 ∨ ¬ sTl m P < sTl m (o.getD (i' - 1) 0)) := by
  intro f
  induction f with
  | zero => intro i h _ _ _ _ _ h1 h2; omega
  | succ f ih =>
    intro i h S TX ag Q1 Q2 h1 h2
    have hexit : (i = 0 ∨ ¬ sTl m P < sTl m (o.getD (i - 1) 0)) → ∃ h' i', X9_putInOrder_b50 0 (100 + 8 * P) (nI i) h = kret () h' ∧ i' ≤ i ∧ kAg (fun a _ => a = 27) hx h' ∧ (∀ k, k < i' → kR h' 27 k = kR hx 27 k) ∧ (∀ k, i' ≤ k → k < P → kR h' 27 (k + 1) = kR hx 27 k) ∧ kR h' 27 i' = some (100 + 8 * P) ∧ (∀ k, i' ≤ k → k < i → sTl m P < sTl m (o.getD k 0)) ∧ (i' = 0 ∨ ¬ sTl m P < sTl m (o.getD (i' - 1) 0)) := by
      intro hex
      refine ⟨sR h 27 i (some (100 + 8 * P)), i, ?_, Nat.le_refl _, ag.trans (kAg.R h 27 i _) (fun a k q => q) (fun a k q z => q z.1), fun k hk => ?_, fun k q1 q2 => ?_, ?_, fun k q1 q2 => by omega, hex⟩
      · unfold X9_putInOrder_b50
        rw [gN_k S.d0 S.r0_5, pAN_k S.d27 (by rw [S.n27]; omega) (by omega) (TX P (Nat.le_refl _)).1.1]
      · rw [kR_sR, if_neg (by omega)]
        exact Q1 k hk
      · rw [kR_sR, if_neg (by omega)]
        exact Q2 k q1 q2
      · rw [kR_sR, if_pos ⟨rfl, rfl⟩]
    unfold X9_putInOrder_L5 X9_putInOrder_b5
    by_cases h0 : i = 0
    · rw [kif_t (by rw [h0]; decide)]
      exact hexit (Or.inl h0)
    · obtain ⟨i, rfl⟩ : ∃ k, i = k + 1 := ⟨i - 1, by omega⟩
      have hoi := om i (by omega)
      have er : kR h 27 i = some (100 + 8 * o.getD i 0) := by rw [Q1 i (by omega), oe i (by omega)]
      have A := TX P (Nat.le_refl _)
      have B := TX (o.getD i 0) (by omega)
      rw [kif_f (by rw [show (0 : Int32) = nI 0 from rfl, ka_le (by omega) (by omega)]; omega), gN_k A.1.1 A.1.2, gN_k S.d0 S.r0_5, ka_pred (by omega), show i + 1 - 1 = i from rfl, gAN_k S.d27 (by rw [S.n27]; omega) (by omega) er, gN_k B.1.1 B.1.2, kV_k A.2.1.1, A.cb B, kb_ret]
      by_cases g : sTl m P < sTl m (o.getD i 0)
      · rw [if_pos g, kif_f (by decide), gN_k S.d0 S.r0_5, gN_k S.d0 S.r0_5, gAN_k S.d27 (by rw [S.n27]; omega) (by omega) er, pAN_k S.d27 (by rw [S.n27]; omega) (by omega) B.1.1, ka_dec (by omega), show i + 1 - 1 = i from rfl]
        have ag1 := kAg.R h 27 (i + 1) (some (100 + 8 * o.getD i 0))
        obtain ⟨h', i', e1, e2, e3, e4, e5, e6, e7, e8⟩ := ih i (sR h 27 (i + 1) (some (100 + 8 * o.getD i 0))) (S.fr ag1 (fun a k q z => by omega)) (fun p hp => (TX p hp).fr ag1 (fun a k q z => by omega)) (ag.trans ag1 (fun a k q => q) (fun a k q z => q z.1)) (fun k hk => by
          rw [kR_sR, if_neg (by omega)]
          exact Q1 k (by omega)) (fun k q1 q2 => by
          rw [kR_sR]
          by_cases hki : k = i
          · subst hki
            rw [if_pos ⟨rfl, rfl⟩]
            exact er.symm.trans (Q1 k (by omega))
          · rw [if_neg (by omega)]
            exact Q2 k (by omega) q2) (by omega) (by omega)
        refine ⟨h', i', e1, by omega, e3, e4, e5, e6, fun k q1 q2 => ?_, e8⟩
        by_cases hki : k = i
        · rw [hki]; exact g
        · exact e7 k q1 (by omega)
      · rw [if_neg g, kif_t rfl]
        exact hexit (Or.inr g)
theorem ord_ins {m : Nat → Nat → Nat} {P i : Nat} {o : List Nat} (ol : o.length = P) (om : ∀ p, p ∈ o ↔ p < P) (op : o.Pairwise (fun p q => sTl m p < sTl m q)) (hne : ∀ p, p < P → sTl m p ≠ sTl m P) (hi : i ≤ P) (h1 : ∀ k, i ≤ k → k < P → sTl m P < sTl m (o.getD k 0)) (h2 : i = 0 ∨ ¬ sTl m P < sTl m (o.getD (i - 1) 0)) : (o.insertIdx i P).length = P + 1 ∧ (∀ p, p ∈ o.insertIdx i P ↔ p < P + 1) ∧ (o.insertIdx i P).Pairwise (fun p q => sTl m p < sTl m q) := by
  have hil : i ≤ o.length := by omega
  have hop : ∀ a b, a < b → b < o.length → sTl m (o.getD a 0) < sTl m (o.getD b 0) := fun a b hab hb => by
    have := List.pairwise_iff_getElem.1 op a b (by omega) hb hab
    rw [gD_get hb, gD_get (by omega)]
    exact this
  have hom : ∀ k, k < o.length → o.getD k 0 < P := fun k hk => (om _).1 (gD_mem.2 ⟨k, hk, rfl⟩)
  have h3 : ∀ k, k < i → sTl m (o.getD k 0) < sTl m P := fun k hk => by
    rcases h2 with h2 | h2
    · omega
    · have h4 : sTl m (o.getD (i - 1) 0) < sTl m P := by
        rcases tl_tri (sTl m (o.getD (i - 1) 0)) (sTl m P) with z | z | z
        · exact z
        · exact absurd z (hne _ (hom _ (by omega)))
        · exact absurd z h2
      by_cases hki : k = i - 1
      · rw [hki]; exact h4
      · exact List.lt_trans (hop k (i - 1) (by omega) (by omega)) h4
  refine ⟨by rw [ins_len hil, ol], fun p => ?_, ?_⟩
  · rw [gD_mem]
    constructor
    · rintro ⟨k, hk, rfl⟩
      rw [ins_len hil] at hk
      rw [ins_at hil]
      split
      · have := hom k (by omega)
        omega
      · split
        · omega
        · have := hom (k - 1) (by omega)
          omega
    · intro hp
      by_cases hpP : p = P
      · exact ⟨i, by rw [ins_len hil]; omega, by rw [ins_at hil, if_neg (by omega), if_pos rfl, hpP]⟩
      · obtain ⟨k, hk, ek⟩ := gD_mem.1 ((om p).2 (by omega))
        by_cases hki : k < i
        · exact ⟨k, by rw [ins_len hil]; omega, by rw [ins_at hil, if_pos hki, ek]⟩
        · exact ⟨k + 1, by rw [ins_len hil]; omega, by rw [ins_at hil, if_neg (by omega), if_neg (by omega)]; exact ek⟩
  · rw [List.pairwise_iff_getElem]
    intro a b ha hb hab
    rw [← gD_get ha, ← gD_get hb]
    rw [ins_len hil] at ha hb
    rw [ins_at hil, ins_at hil]
    by_cases a1 : a < i
    · rw [if_pos a1]
      by_cases a2 : b < i
      · rw [if_pos a2]
        exact hop a b hab (by omega)
      · rw [if_neg a2]
        by_cases a3 : b = i
        · rw [if_pos a3]
          exact h3 a a1
        · rw [if_neg a3]
          exact hop a (b - 1) (by omega) (by omega)
    · rw [if_neg a1, if_neg (show ¬ b < i by omega), if_neg (show ¬ b = i by omega)]
      by_cases a3 : a = i
      · rw [if_pos a3]
        exact h1 (b - 1) (by omega) (by omega)
      · rw [if_neg a3]
        exact hop (a - 1) (b - 1) (by omega) (by omega)
