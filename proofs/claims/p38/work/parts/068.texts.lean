/-! texts looked at: question marks, likeness, who is ahead -/
section KTEXT
variable {h : KH} {t s n : Nat} {X : Nat → Nat}
theorem x7_hasQL (a1 : kd h t = 8) (a2 : kR h t 0 = some s) (a3 : kd h s = 21) (a4 : kn h s = 6) (a5 : kI h t 1 = nI n) (hn : n ≤ 6) (hX : ∀ k, k < n → X k < 15 ∧ kI h s k = nI (X k)) : ∀ (f i : Nat), i ≤ n → n < i + f → ∃ b : Int32, X7_hasQuestionMark_L2 f t (nI i) h = kret b h ∧ (b = 0 ∧ (∀ k, i ≤ k → k < n → X k ≠ 14) ∨ b = 1 ∧ ∃ k, k < n ∧ X k = 14) := by
  intro f
  induction f with
  | zero => intro i h1 h2; omega
  | succ f ih =>
    intro i h1 h2
    unfold X7_hasQuestionMark_L2 X7_hasQuestionMark_b2
    rw [gI_k a1, a5]
    by_cases hi : n ≤ i
    · exact ⟨0, by rw [kif_t (by rw [ka_le (by omega) (by omega)]; exact hi)]; rfl, Or.inl ⟨rfl, fun k q1 q2 => by omega⟩⟩
    · obtain ⟨x1, x2⟩ := hX i (by omega)
      rw [kif_f (by rw [ka_le (by omega) (by omega)]; exact hi), gN_k a1 a2, gAI_k a3 (by omega) (by omega), x2]
      by_cases g : X i = 14
      · exact ⟨1, by rw [kif_t (by rw [g]; rfl)]; rfl, Or.inr ⟨rfl, i, by omega, g⟩⟩
      · obtain ⟨b, e1, e2⟩ := ih (i + 1) (by omega) (by omega)
        refine ⟨b, by rw [kif_f (by rw [show (14 : Int32) = nI 14 from rfl, ka_eq (by omega) (by omega)]; exact g), nI_1]; exact e1, e2.imp (fun z => ⟨z.1, fun k q1 q2 => ?_⟩) id⟩
        by_cases hk : k = i
        · rw [hk]; exact g
        · exact z.2 k (by omega) q2
theorem x7_eqL {t' s' : Nat} {Y : Nat → Nat} (a1 : kd h t = 8) (a2 : kR h t 0 = some s) (a3 : kd h s = 21) (a4 : kn h s = 6) (a5 : kI h t 1 = nI n) (b1 : kd h t' = 8) (b2 : kR h t' 0 = some s') (b3 : kd h s' = 21) (b4 : kn h s' = 6) (hn : n ≤ 6) (hX : ∀ k, k < n → X k < 15 ∧ kI h s k = nI (X k)) (hY : ∀ k, k < n → Y k < 15 ∧ kI h s' k = nI (Y k)) : ∀ (f i : Nat), i ≤ n → n < i + f → (∀ k, k < i → X k = Y k) → ∃ b : Int32, X7_equalsText_L15 f t t' (nI i) h = kret b h ∧ (b = 1 ∧ (∀ k, k < n → X k = Y k) ∨ b = 0 ∧ ∃ k, k < n ∧ X k ≠ Y k) := by
  intro f
  induction f with
  | zero => intro i h1 h2; omega
  | succ f ih =>
    intro i h1 h2 h3
    unfold X7_equalsText_L15 X7_equalsText_b15
    rw [gI_k a1, a5]
    by_cases hi : n ≤ i
    · exact ⟨1, by rw [kif_t (by rw [ka_le (by omega) (by omega)]; exact hi)]; rfl, Or.inl ⟨rfl, fun k q => h3 k (by omega)⟩⟩
    · obtain ⟨x1, x2⟩ := hX i (by omega)
      obtain ⟨y1, y2⟩ := hY i (by omega)
      rw [kif_f (by rw [ka_le (by omega) (by omega)]; exact hi), gN_k a1 a2, gAI_k a3 (by omega) (by omega), gN_k b1 b2, gAI_k b3 (by omega) (by omega), x2, y2]
      by_cases g : X i = Y i
      · obtain ⟨b, e1, e2⟩ := ih (i + 1) (by omega) (by omega) (fun k hk => by
          by_cases hki : k = i
          · rw [hki]; exact g
          · exact h3 k (by omega))
        exact ⟨b, by rw [kif_t (by rw [g]), nI_1]; exact e1, e2⟩
      · exact ⟨0, by rw [kif_f (by rw [ka_eq (by omega) (by omega)]; exact g)]; rfl, Or.inr ⟨rfl, i, by omega, g⟩⟩
theorem x7_eq {t' s' n' : Nat} {Y : Nat → Nat} (a1 : kd h t = 8) (a2 : kR h t 0 = some s) (a3 : kd h s = 21) (a4 : kn h s = 6) (a5 : kI h t 1 = nI n) (b1 : kd h t' = 8) (b2 : kR h t' 0 = some s') (b3 : kd h s' = 21) (b4 : kn h s' = 6) (b5 : kI h t' 1 = nI n') (hn : n ≤ 6) (hn' : n' ≤ 6) (hX : ∀ k, k < n → X k < 15 ∧ kI h s k = nI (X k)) (hY : ∀ k, k < n' → Y k < 15 ∧ kI h s' k = nI (Y k)) : ∃ b : Int32, f_X7_equalsText t t' h = kret b h ∧ (b = 1 ∧ (n = n' ∧ ∀ k, k < n → X k = Y k) ∨ b = 0 ∧ ¬ (n = n' ∧ ∀ k, k < n → X k = Y k)) := by
  unfold f_X7_equalsText
  rw [gI_k a1, gI_k b1, a5, b5]
  by_cases hq : n = n'
  · subst hq
    obtain ⟨b, e1, e2⟩ := x7_eqL a1 a2 a3 a4 a5 b1 b2 b3 b4 hn hX hY kF 0 (by omega) (by unfold kF; omega) (fun k hk => by omega)
    exact ⟨b, by rw [kif_t rfl]; exact e1, e2.imp (fun z => ⟨z.1, rfl, z.2⟩) (fun ⟨z1, k, z2, z3⟩ => ⟨z1, fun w => z3 (w.2 k z2)⟩)⟩
  · exact ⟨0, by rw [kif_f (by rw [ka_eq (by omega) (by omega)]; exact hq)]; rfl, Or.inr ⟨rfl, fun w => hq w.1⟩⟩
/-- comesBefore -/
theorem x7_cbL {t' s' n' c : Nat} {Y : Nat → Nat} {La Lb : List Nat} (a1 : kd h t = 8) (a2 : kR h t 0 = some s) (a3 : kd h s = 21) (a4 : kn h s = 6) (a5 : kI h t 1 = nI n) (b1 : kd h t' = 8) (b2 : kR h t' 0 = some s') (b3 : kd h s' = 21) (b4 : kn h s' = 6) (b5 : kI h t' 1 = nI n') (hn : n ≤ 6) (hn' : n' ≤ 6) (hX : ∀ k, k < n → X k < 15 ∧ kI h s k = nI (X k)) (hY : ∀ k, k < n' → Y k < 15 ∧ kI h s' k = nI (Y k)) (la : La.length = n) (lb : Lb.length = n') (ea : ∀ k, k < n → La.getD k 0 = X (n - 1 - k)) (eb : ∀ k, k < n' → Lb.getD k 0 = Y (n' - 1 - k)) (hc : c = min n n') : ∀ (f i : Nat), i ≤ c → c < i + f → (∀ k, k < i → La.getD k 0 = Lb.getD k 0) → X7_comesBefore_L14 f t t' (nI c) (nI (i + 1)) h = kret (if La < Lb then 1 else 0) h := by
  intro f
  induction f with
  | zero => intro i h1 h2; omega
  | succ f ih =>
    intro i h1 h2 h3
    have hcn : c ≤ n := by omega
    have hcn' : c ≤ n' := by omega
    obtain ⟨t1, t2⟩ := tl_at i La Lb (by omega) (by omega) h3
    rw [la, lb] at t1 t2
    unfold X7_comesBefore_L14 X7_comesBefore_b14
    by_cases hi : i = c
    · rw [kif_t (by rw [ka_lt (by omega) (by omega)]; omega), gI_k a1, gI_k b1, a5, b5]
      simp only [t1 (by omega)]
      by_cases g : n' ≤ n
      · rw [kif_t (by rw [ka_le (by omega) (by omega)]; exact g), if_neg (by omega)]
        rfl
      · rw [kif_f (by rw [ka_le (by omega) (by omega)]; exact g), if_pos (by omega)]
        rfl
    · obtain ⟨x1, x2⟩ := hX (n - (i + 1)) (by omega)
      obtain ⟨y1, y2⟩ := hY (n' - (i + 1)) (by omega)
      have ea' := ea i (by omega)
      have eb' := eb i (by omega)
      rw [show n - 1 - i = n - (i + 1) by omega] at ea'
      rw [show n' - 1 - i = n' - (i + 1) by omega] at eb'
      rw [kif_f (by rw [ka_lt (by omega) (by omega)]; omega), gN_k a1 a2, gI_k a1, a5, ka_sub (by omega), gAI_k a3 (by omega) (by omega), gN_k b1 b2, gI_k b1, b5, ka_sub (by omega), gAI_k b3 (by omega) (by omega), x2, y2]
      by_cases g : X (n - (i + 1)) = Y (n' - (i + 1))
      · rw [kif_t (by rw [g]), nI_1]
        exact ih (i + 1) (by omega) (by omega) (fun k hk => by
          by_cases hki : k = i
          · rw [hki, ea', eb', g]
          · exact h3 k (by omega))
      · have t2' := t2 (by omega) (by omega) (by rw [ea', eb']; exact g)
        rw [kif_f (by rw [ka_eq (by omega) (by omega)]; exact g)]
        simp only [t2', ea', eb']
        by_cases g2 : Y (n' - (i + 1)) ≤ X (n - (i + 1))
        · rw [kif_t (by rw [ka_le (by omega) (by omega)]; exact g2), if_neg (by omega)]
          rfl
        · rw [kif_f (by rw [ka_le (by omega) (by omega)]; exact g2), if_pos (by omega)]
          rfl
theorem x7_cb {t' s' n' : Nat} {Y : Nat → Nat} {La Lb : List Nat} (a1 : kd h t = 8) (a2 : kR h t 0 = some s) (a3 : kd h s = 21) (a4 : kn h s = 6) (a5 : kI h t 1 = nI n) (b1 : kd h t' = 8) (b2 : kR h t' 0 = some s') (b3 : kd h s' = 21) (b4 : kn h s' = 6) (b5 : kI h t' 1 = nI n') (hn : n ≤ 6) (hn' : n' ≤ 6) (hX : ∀ k, k < n → X k < 15 ∧ kI h s k = nI (X k)) (hY : ∀ k, k < n' → Y k < 15 ∧ kI h s' k = nI (Y k)) (la : La.length = n) (lb : Lb.length = n') (ea : ∀ k, k < n → La.getD k 0 = X (n - 1 - k)) (eb : ∀ k, k < n' → Lb.getD k 0 = Y (n' - 1 - k)) : f_X7_comesBefore t t' h = kret (if La < Lb then 1 else 0) h := by
  unfold f_X7_comesBefore
  rw [gI_k a1, gI_k b1, a5, b5]
  have e : (if nI n' < nI n then nI n' else nI n) = nI (min n n') := by
    by_cases g : n' < n
    · rw [if_pos (by rw [ka_lt (by omega) (by omega)]; exact g), Nat.min_eq_right (by omega)]
    · rw [if_neg (by rw [ka_lt (by omega) (by omega)]; exact g), Nat.min_eq_left (by omega)]
  rw [e]
  exact x7_cbL a1 a2 a3 a4 a5 b1 b2 b3 b4 b5 hn hn' hX hY la lb ea eb rfl kF 0 (by omega) (by unfold kF; omega) (fun k hk => by omega)
end KTEXT
/-! the model's looks -/
section KTEXTM
variable {h : KH} {n : Nat} {X : Nat → Nat}
theorem tm_plainL (T : kSm h) (e5 : kI h 0 5 = nI n) (hn : n ≤ 6) (hX : ∀ k, k < n → X k < 15 ∧ kI h 4 k = nI (X k)) : ∀ (f i : Nat) (v : Int32), i ≤ n → n < i + f → (v = 0 ∨ v = 1) → ∃ b : Int32, X10_isPlain_L15 f 0 v (nI i) h = kret b h ∧ (b = 1 ∧ v = 1 ∧ (∀ k, i ≤ k → k < n → X k ≠ 14) ∨ b = 0 ∧ (v = 0 ∨ ∃ k, k < n ∧ X k = 14)) := by
  intro f
  induction f with
  | zero => intro i v h1 h2; omega
  | succ f ih =>
    intro i v h1 h2 hv
    unfold X10_isPlain_L15 X10_isPlain_b15
    rw [gI_k T.d0, e5]
    by_cases hi : n ≤ i
    · refine ⟨v, ?_, ?_⟩
      · rw [kif_t (by rw [ka_le (by omega) (by omega)]; exact hi)]
        rcases hv with hv | hv <;> rw [hv] <;> rfl
      · rcases hv with hv | hv
        · exact Or.inr ⟨hv, Or.inl hv⟩
        · exact Or.inl ⟨hv, hv, fun k q1 q2 => by omega⟩
    · obtain ⟨x1, x2⟩ := hX i (by omega)
      rw [kif_f (by rw [ka_le (by omega) (by omega)]; exact hi)]
      have h0 := ih (i + 1) 0 (by omega) (by omega) (Or.inl rfl)
      have h1' := ih (i + 1) 1 (by omega) (by omega) (Or.inr rfl)
      by_cases g0 : v = 0
      · obtain ⟨b, e1, e2⟩ := h0
        refine ⟨b, ?_, ?_⟩
        · rw [kif_t g0]
          unfold X10_isPlain_b42 X10_isPlain_b43
          rw [nI_1]
          exact e1
        · rcases e2 with e2 | e2
          · exact absurd e2.2.1 (by decide)
          · exact Or.inr ⟨e2.1, Or.inl g0⟩
      · have g1 : v = 1 := hv.resolve_left g0
        rw [kif_f g0, gN_k T.d0 T.r6, gAI_k T.d4 (by rw [T.n4]; omega) (by omega), x2]
        by_cases g : X i = 14
        · obtain ⟨b, e1, e2⟩ := h0
          refine ⟨b, ?_, ?_⟩
          · rw [kif_t (by rw [g]; rfl)]
            unfold X10_isPlain_b42 X10_isPlain_b43
            rw [nI_1]
            exact e1
          · rcases e2 with e2 | e2
            · exact absurd e2.2.1 (by decide)
            · exact Or.inr ⟨e2.1, Or.inr ⟨i, by omega, g⟩⟩
        · obtain ⟨b, e1, e2⟩ := h1'
          refine ⟨b, ?_, ?_⟩
          · rw [kif_f (by rw [show (14 : Int32) = nI 14 from rfl, ka_eq (by omega) (by omega)]; exact g)]
            unfold X10_isPlain_b43
            rw [nI_1]
            exact e1
          · rcases e2 with e2 | e2
            · refine Or.inl ⟨e2.1, g1, fun k q1 q2 => ?_⟩
              by_cases hk : k = i
              · rw [hk]; exact g
              · exact e2.2.2 k (by omega) q2
            · rcases e2.2 with z | z
              · exact absurd z (by decide)
              · exact Or.inr ⟨e2.1, Or.inr z⟩
theorem tm_plain (T : kSm h) (e5 : kI h 0 5 = nI n) (hn : n ≤ 6) (hX : ∀ k, k < n → X k < 15 ∧ kI h 4 k = nI (X k)) : ∃ b : Int32, f_X10_isPlain 0 h = kret b h ∧ (b = 1 ∧ 0 < n ∧ (∀ k, k < n → X k ≠ 14) ∨ b = 0 ∧ (n = 0 ∨ ∃ k, k < n ∧ X k = 14)) := by
  unfold f_X10_isPlain
  rw [gI_k T.d0, e5]
  by_cases h0 : n ≤ 0
  · obtain ⟨b, e1, e2⟩ := tm_plainL T e5 hn hX kF 0 0 (by omega) (by unfold kF; omega) (Or.inl rfl)
    refine ⟨b, by rw [kif_t (by rw [show (0 : Int32) = nI 0 from rfl, ka_le (by omega) (by omega)]; exact h0)]; exact e1, ?_⟩
    rcases e2 with e2 | e2
    · exact absurd e2.2.1 (by decide)
    · exact Or.inr ⟨e2.1, Or.inl (by omega)⟩
  · obtain ⟨b, e1, e2⟩ := tm_plainL T e5 hn hX kF 0 1 (by omega) (by unfold kF; omega) (Or.inr rfl)
    refine ⟨b, by rw [kif_f (by rw [show (0 : Int32) = nI 0 from rfl, ka_le (by omega) (by omega)]; exact h0)]; exact e1, ?_⟩
    rcases e2 with e2 | e2
    · exact Or.inl ⟨e2.1, by omega, fun k hk => e2.2.2 k (by omega) hk⟩
    · rcases e2.2 with z | z
      · exact absurd z (by decide)
      · exact Or.inr ⟨e2.1, Or.inr z⟩
def eqT (m : Nat → Nat → Nat) (X : Nat → Nat) (n p : Nat) : Prop := m 6 p = n ∧ ∀ k, k < n → m 7 (6 * p + k) = X k
theorem MX.tkI (M : MX h) (e5 : kI h 0 5 = nI n) (hn : n ≤ 6) (hX : ∀ k, k < n → X k < 15 ∧ kI h 4 k = nI (X k)) {p : Nat} (hp : p < mn h 0 8) (rc : Nat → Int32 → Int32 → KH → KO Int32) (v1 : Int32) (hv1 : v1 = 0 ∨ v1 = 1) : ∀ (f i : Nat) (v : Int32), i ≤ n → n < i + f → (v = 0 ∨ v = 1 ∧ mn h 6 p = n) → ∃ b : Int32, X10_isTaken_L34 rc f 0 v1 (nI p) v (nI i) h = rc 0 b (nI (p + 1)) h ∧ (b = 1 ∧ (v1 = 1 ∨ v = 1 ∧ (∀ k, i ≤ k → k < n → mn h 7 (6 * p + k) = X k)) ∨ b = 0 ∧ v1 = 0 ∧ (v = 0 ∨ ∃ k, k < n ∧ mn h 7 (6 * p + k) ≠ X k)) := by
  have T := M.1
  have hP := M.2.1.1
  intro f
  induction f with
  | zero => intro i v h1 h2; omega
  | succ f ih =>
    intro i v h1 h2 hv
    have hend : (i = n ∨ v = 0) → ∃ b : Int32, X10_isTaken_b81 rc 0 v1 (nI p) v h = rc 0 b (nI (p + 1)) h ∧ (b = 1 ∧ (v1 = 1 ∨ v = 1 ∧ (∀ k, i ≤ k → k < n → mn h 7 (6 * p + k) = X k)) ∨ b = 0 ∧ v1 = 0 ∧ (v = 0 ∨ ∃ k, k < n ∧ mn h 7 (6 * p + k) ≠ X k)) := by
      intro hq
      unfold X10_isTaken_b81 X10_isTaken_b89 X10_isTaken_b94
      rw [nI_1]
      rcases hv1 with w | w
      · rcases hv with z | ⟨z, z'⟩
        · exact ⟨0, by rw [kif_t w, kif_t z], Or.inr ⟨rfl, w, Or.inl z⟩⟩
        · refine ⟨1, by rw [kif_t w, kif_f (by rw [z]; decide)], Or.inl ⟨rfl, Or.inr ⟨z, fun k q1 q2 => ?_⟩⟩⟩
          rcases hq with hq | hq
          · omega
          · rw [z] at hq
            exact absurd hq (by decide)
      · exact ⟨1, by rw [kif_f (by rw [w]; decide)], Or.inl ⟨rfl, Or.inl w⟩⟩
    unfold X10_isTaken_L34 X10_isTaken_b34
    rw [gI_k T.d0, e5]
    by_cases hi : n ≤ i
    · rw [kif_t (by rw [ka_le (by omega) (by omega)]; exact hi)]
      exact hend (Or.inl (by omega))
    · rw [kif_f (by rw [ka_le (by omega) (by omega)]; exact hi)]
      by_cases g0 : v = 0
      · rw [kif_t g0]
        exact hend (Or.inr g0)
      · obtain ⟨g1, g2⟩ := hv.resolve_left g0
        obtain ⟨x1, x2⟩ := hX i (by omega)
        obtain ⟨y1, y2⟩ := (M.2.2.2.1 p hp).2.2 i (by omega)
        rw [kif_f g0, gN_k T.d0 T.r10, mc_idx6, gAI_k T.d7 (by rw [T.n7]; omega) (by omega), gN_k T.d0 T.r6, gAI_k T.d4 (by rw [T.n4]; omega) (by omega), x2, y2]
        by_cases g : mn h 7 (6 * p + i) = X i
        · obtain ⟨b, e1, e2⟩ := ih (i + 1) 1 (by omega) (by omega) (Or.inr ⟨rfl, g2⟩)
          refine ⟨b, ?_, ?_⟩
          · rw [kif_t (by rw [g])]
            unfold X10_isTaken_b74
            rw [nI_1]
            exact e1
          · rcases e2 with ⟨z1, z2⟩ | ⟨z1, z2, z3⟩
            · refine Or.inl ⟨z1, z2.imp id (fun w => ⟨g1, fun k q1 q2 => ?_⟩)⟩
              by_cases hk : k = i
              · rw [hk]; exact g
              · exact w.2 k (by omega) q2
            · rcases z3 with w | w
              · exact absurd w (by decide)
              · exact Or.inr ⟨z1, z2, Or.inr w⟩
        · obtain ⟨b, e1, e2⟩ := ih (i + 1) 0 (by omega) (by omega) (Or.inl rfl)
          refine ⟨b, ?_, ?_⟩
          · rw [kif_f (by rw [ka_eq (by omega) (by omega)]; exact g)]
            unfold X10_isTaken_b74
            rw [nI_1]
            exact e1
          · rcases e2 with ⟨z1, z2⟩ | ⟨z1, z2, z3⟩
            · rcases z2 with w | w
              · exact Or.inl ⟨z1, Or.inl w⟩
              · exact absurd w.1 (by decide)
            · exact Or.inr ⟨z1, z2, Or.inr ⟨i, by omega, g⟩⟩
theorem MX.tkL (M : MX h) (e5 : kI h 0 5 = nI n) (hn : n ≤ 6) (hX : ∀ k, k < n → X k < 15 ∧ kI h 4 k = nI (X k)) : ∀ (f p : Nat) (v : Int32), p ≤ mn h 0 8 → mn h 0 8 < p + f → (v = 1 ∧ (∃ q, q < p ∧ eqT (mn h) X n q) ∨ v = 0 ∧ ∀ q, q < p → ¬ eqT (mn h) X n q) → ∃ b : Int32, X10_isTaken_L4 f 0 v (nI p) h = kret b h ∧ (b = 1 ∧ (∃ q, q < mn h 0 8 ∧ eqT (mn h) X n q) ∨ b = 0 ∧ ∀ q, q < mn h 0 8 → ¬ eqT (mn h) X n q) := by
  have T := M.1
  have hP := M.2.1
  intro f
  induction f with
  | zero => intro p v h1 h2; omega
  | succ f ih =>
    intro p v h1 h2 hv
    unfold X10_isTaken_L4 X10_isTaken_b4
    rw [gI_k T.d0, hP.2]
    by_cases hp : mn h 0 8 ≤ p
    · obtain rfl : p = mn h 0 8 := by omega
      refine ⟨v, ?_, hv⟩
      rw [kif_t (by rw [ka_le (by omega) (by omega)]; exact hp)]
      rcases hv with hv | hv <;> rw [hv.1] <;> rfl
    · obtain ⟨⟨p1, p2⟩, p3, -⟩ := M.2.2.2.1 p (by omega)
      have hv1 : v = 0 ∨ v = 1 := hv.elim (fun z => Or.inr z.1) (fun z => Or.inl z.1)
      have hnext : ∀ s0 : Int32, (s0 = 0 ∧ mn h 6 p ≠ n ∨ s0 = 1 ∧ mn h 6 p = n) → ∃ b : Int32, X10_isTaken_b30 (X10_isTaken_L4 f) 0 v (nI p) s0 h = kret b h ∧ (b = 1 ∧ (∃ q, q < mn h 0 8 ∧ eqT (mn h) X n q) ∨ b = 0 ∧ ∀ q, q < mn h 0 8 → ¬ eqT (mn h) X n q) := by
        intro s0 hs
        obtain ⟨b, e1, e2⟩ := M.tkI e5 hn hX (show p < mn h 0 8 by omega) (X10_isTaken_L4 f) v hv1 kF 0 s0 (by omega) (by unfold kF; omega) (hs.imp (fun z => z.1) id)
        have hb : b = 1 ∧ (∃ q, q < p + 1 ∧ eqT (mn h) X n q) ∨ b = 0 ∧ ∀ q, q < p + 1 → ¬ eqT (mn h) X n q := by
          rcases e2 with ⟨z1, z2⟩ | ⟨z1, z2, z3⟩
          · refine Or.inl ⟨z1, ?_⟩
            rcases z2 with w | ⟨w1, w2⟩
            · rcases hv with ⟨-, q, hq1, hq2⟩ | ⟨hv, -⟩
              · exact ⟨q, by omega, hq2⟩
              · rw [w] at hv
                exact absurd hv (by decide)
            · rcases hs with hs | hs
              · rw [hs.1] at w1
                exact absurd w1 (by decide)
              · exact ⟨p, by omega, hs.2, fun k hk => w2 k (by omega) hk⟩
          · refine Or.inr ⟨z1, fun q hq w => ?_⟩
            by_cases hqp : q = p
            · subst hqp
              rcases z3 with z3 | ⟨k, k1, k2⟩
              · rcases hs with hs | hs
                · exact hs.2 w.1
                · rw [hs.1] at z3
                  exact absurd z3 (by decide)
              · exact k2 (w.2 k k1)
            · rcases hv with hv | hv
              · rw [hv.1] at z2
                exact absurd z2 (by decide)
              · exact hv.2 q (by omega) w
        obtain ⟨b', f1, f2⟩ := ih (p + 1) b (by omega) (by omega) hb
        refine ⟨b', ?_, f2⟩
        unfold X10_isTaken_b30
        exact e1.trans f1
      rw [kif_f (by rw [ka_le (by omega) (by omega)]; exact hp), gN_k T.d0 T.r9, gAI_k T.d6 (by rw [T.n6]; omega) (by omega), p3, gI_k T.d0, e5]
      by_cases g : mn h 6 p = n
      · rw [kif_t (by rw [g])]
        exact hnext 1 (Or.inr ⟨rfl, g⟩)
      · rw [kif_f (by rw [ka_eq (by omega) (by omega)]; exact g)]
        exact hnext 0 (Or.inl ⟨rfl, g⟩)
theorem MX.taken (M : MX h) (e5 : kI h 0 5 = nI n) (hn : n ≤ 6) (hX : ∀ k, k < n → X k < 15 ∧ kI h 4 k = nI (X k)) : ∃ b : Int32, f_X10_isTaken 0 h = kret b h ∧ (b = 1 ∧ (∃ q, q < mn h 0 8 ∧ eqT (mn h) X n q) ∨ b = 0 ∧ ∀ q, q < mn h 0 8 → ¬ eqT (mn h) X n q) :=
  M.tkL e5 hn hX kF 0 0 (by omega) (by have := M.2.1.1; unfold kF; omega) (Or.inr ⟨rfl, fun q hq => by omega⟩)
end KTEXTM
/-- the class: is the text taken -/
theorem kCx.tkL {hx hm : KH} {n : Nat} {X : Nat → Nat} (K : kCx hx hm) (e22 : kI hx 22 1 = nI n) (hn : n ≤ 6) (hX : ∀ k, k < n → X k < 15 ∧ kI hx 23 k = nI (X k)) : ∀ (f p : Nat), p ≤ mn hm 0 8 → mn hm 0 8 < p + f → (∀ q, q < p → ¬ eqT (mn hm) X n q) → ∃ b : Int32, X9_isTaken_L2 f 0 22 (nI p) hx = kret b hx ∧ (b = 1 ∧ (∃ q, q < mn hm 0 8 ∧ eqT (mn hm) X n q) ∨ b = 0 ∧ ∀ q, q < mn hm 0 8 → ¬ eqT (mn hm) X n q) := by
  have S := K.1.1
  have hP := K.P
  intro f
  induction f with
  | zero => intro p h1 h2; omega
  | succ f ih =>
    intro p h1 h2 h3
    unfold X9_isTaken_L2 X9_isTaken_b2
    rw [gI_k S.d0, hP.1]
    by_cases hp : mn hm 0 8 ≤ p
    · exact ⟨0, by rw [kif_t (by rw [ka_le (by omega) (by omega)]; exact hp)]; rfl, Or.inr ⟨rfl, fun q hq => h3 q (by omega)⟩⟩
    · obtain ⟨⟨g1, g2, g3, g4, -⟩, ⟨g0, g6, g5, -⟩, -, ⟨n', o1, o2, o3, o4, o5⟩, -⟩ := K.2.2.2.2.1.2.1 p (by omega)
      obtain ⟨b, e1, e2⟩ := x7_eq (h := hx) (t := 101 + 8 * p) (s := 102 + 8 * p) (n := n') (X := fun k => mn hm 7 (6 * p + k)) (t' := 22) (s' := 23) (n' := n) (Y := X) g2 g5 g3 g4 o3 S.d22 S.r22_0 S.d23 S.n23 e22 o2 hn (fun k hk => by
        obtain ⟨v, v1, v2, v3⟩ := o5 k hk
        show mn hm 7 (6 * p + k) < 15 ∧ _ = nI (mn hm 7 (6 * p + k))
        rw [mn_of v3 (by omega)]
        exact ⟨by omega, v2⟩) hX
      have h6 : mn hm 6 p = n' := mn_of o4 (by omega)
      have heq : (n' = n ∧ ∀ k, k < n' → mn hm 7 (6 * p + k) = X k) ↔ eqT (mn hm) X n p := by
        unfold eqT
        rw [h6]
        exact ⟨fun z => ⟨z.1, fun k hk => z.2 k (by have := z.1; omega)⟩, fun z => ⟨z.1, fun k hk => z.2 k (by have := z.1; omega)⟩⟩
      rw [kif_f (by rw [ka_le (by omega) (by omega)]; exact hp), gN_k S.d0 S.r0_4, gAN_k S.d26 (by rw [S.n26]; omega) (by omega) g0, gN_k g1 g6, kV_k g2, e1, kb_ret]
      rcases e2 with ⟨z1, z2⟩ | ⟨z1, z2⟩
      · exact ⟨1, by rw [kif_f (by rw [z1]; decide)]; rfl, Or.inl ⟨rfl, p, by omega, heq.1 z2⟩⟩
      · obtain ⟨b', f1, f2⟩ := ih (p + 1) (by omega) (by omega) (fun q hq => by
          by_cases hqp : q = p
          · rw [hqp]
            exact fun w => z2 (heq.2 w)
          · exact h3 q (by omega))
        exact ⟨b', by rw [kif_t z1, nI_1]; exact f1, f2⟩
