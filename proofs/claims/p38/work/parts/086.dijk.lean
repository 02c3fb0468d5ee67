/-! the class's distances -/
theorem x2_at : ∀ i, i < 8 → xR2l.getD i none = some (3 + i) := by decide
theorem xD3_at : ∀ i, i < 8 → xDl.getD (3 + i) 0 = 21 ∧ xNl.getD (3 + i) 0 = 8 := by decide
/-- the net's part of the class's statics -/
def kSr (h : KH) : Prop := kd h 1 = 7 ∧ (kR h 1 0 = some 2 ∧ kR h 1 1 = some 11 ∧ kR h 1 2 = some 20) ∧ (kd h 2 = 24 ∧ kn h 2 = 8) ∧ (kd h 11 = 24 ∧ kn h 11 = 8) ∧ (kd h 20 = 23 ∧ kn h 20 = 8) ∧ (∀ i, i < 8 → (kd h (3 + i) = 21 ∧ kn h (3 + i) = 8) ∧ kR h 2 i = some (3 + i)) ∧ ∀ i, i < 8 → (kd h (12 + i) = 21 ∧ kn h (12 + i) = 8) ∧ kR h 11 i = some (12 + i)
section KSR
variable {h : KH}
theorem kSr.d1 (S : kSr h) : kd h 1 = 7 := S.1
theorem kSr.r1_0 (S : kSr h) : kR h 1 0 = some 2 := S.2.1.1
theorem kSr.r1_1 (S : kSr h) : kR h 1 1 = some 11 := S.2.1.2.1
theorem kSr.r1_2 (S : kSr h) : kR h 1 2 = some 20 := S.2.1.2.2
theorem kSr.d2 (S : kSr h) : kd h 2 = 24 := S.2.2.1.1
theorem kSr.n2 (S : kSr h) : kn h 2 = 8 := S.2.2.1.2
theorem kSr.d11 (S : kSr h) : kd h 11 = 24 := S.2.2.2.1.1
theorem kSr.n11 (S : kSr h) : kn h 11 = 8 := S.2.2.2.1.2
theorem kSr.d20 (S : kSr h) : kd h 20 = 23 := S.2.2.2.2.1.1
theorem kSr.n20 (S : kSr h) : kn h 20 = 8 := S.2.2.2.2.1.2
theorem kSr.q3 (S : kSr h) (i : Nat) (hi : i < 8) : (kd h (3 + i) = 21 ∧ kn h (3 + i) = 8) ∧ kR h 2 i = some (3 + i) := S.2.2.2.2.2.1 i hi
theorem kSr.q12 (S : kSr h) (i : Nat) (hi : i < 8) : (kd h (12 + i) = 21 ∧ kn h (12 + i) = 8) ∧ kR h 11 i = some (12 + i) := S.2.2.2.2.2.2 i hi
theorem kSr.fr {D : Nat → Nat → Prop} {h' : KH} (S : kSr h) (ag : kAg D h h') (hD : ∀ a k, a = 1 ∧ k < 3 ∨ a = 2 ∨ a = 11 → ¬ D a k) : kSr h' := by
  have k1 := ag.k 1 (by rw [S.d1]; decide)
  have k2 := ag.k 2 (by rw [S.d2]; decide)
  have k11 := ag.k 11 (by rw [S.d11]; decide)
  have k20 := ag.k 20 (by rw [S.d20]; decide)
  have e : ∀ a k, a = 1 ∧ k < 3 ∨ a = 2 ∨ a = 11 → kR h' a k = kR h a k := fun a k z => (ag.1 a k (hD a k z)).2.2
  refine ⟨by rw [k1.1, S.d1], ⟨by rw [e 1 0 (by omega), S.r1_0], by rw [e 1 1 (by omega), S.r1_1], by rw [e 1 2 (by omega), S.r1_2]⟩, ⟨by rw [k2.1, S.d2], by rw [k2.2, S.n2]⟩, ⟨by rw [k11.1, S.d11], by rw [k11.2, S.n11]⟩, ⟨by rw [k20.1, S.d20], by rw [k20.2, S.n20]⟩, fun i hi => ?_, fun i hi => ?_⟩
  · obtain ⟨⟨d, n⟩, r⟩ := S.q3 i hi
    have k3 := ag.k (3 + i) (by rw [d]; decide)
    exact ⟨⟨by rw [k3.1, d], by rw [k3.2, n]⟩, by rw [e 2 i (by omega), r]⟩
  · obtain ⟨⟨d, n⟩, r⟩ := S.q12 i hi
    have k3 := ag.k (12 + i) (by rw [d]; decide)
    exact ⟨⟨by rw [k3.1, d], by rw [k3.2, n]⟩, by rw [e 11 i (by omega), r]⟩
theorem kSx.sr (S : kSx h) : kSr h := ⟨S.d1, ⟨S.r1_0, S.r1_1, S.r1_2⟩, ⟨S.d2, S.n2⟩, ⟨S.d11, S.n11⟩, ⟨S.d20, S.n20⟩, fun i hi => ⟨⟨(S.1 (3 + i) (by omega)).1.trans (xD3_at i hi).1, (S.1 (3 + i) (by omega)).2.trans (xD3_at i hi).2⟩, (S.2.2.2.1 i hi).trans (x2_at i hi)⟩, fun i hi => ⟨⟨(S.1 (12 + i) (by omega)).1.trans (xD12_at i hi).1, (S.1 (12 + i) (by omega)).2.trans (xD12_at i hi).2⟩, (S.2.2.2.2.1 i hi).trans (x11_at i hi)⟩⟩
end KSR
def nrM (W : Nat → Option Nat) (D : Nat → Bool) (i : Nat) (N : Option Nat) : Prop := match N with
  | none => ∀ v, v < i → D v = true ∨ W v = none
  | some g => g < i ∧ D g = false ∧ ∃ d, W g = some d ∧ ∀ v, v < i → D v = false → ∀ dv, W v = some dv → d ≤ dv
section KDIJK
variable {L : Nat → Nat → Nat} {h : KH} {q : Nat}
theorem x6_nearL {W : Nat → Option Nat} {D : Nat → Bool} (S : kSr h) (kq : kd h q = 21) (nq : kn h q = 8) (hW : ∀ v, v < 8 → kI h q v = cOf (W v)) (hD : ∀ v, v < 8 → kI h 20 v = b01 (D v)) (hB : ∀ v d, v < 8 → W v = some d → d < 2147483648) : ∀ (f i : Nat) (N : Option Nat), i ≤ 8 → 8 < i + f → nrM W D i N → ∃ N', X6_nearestOpen_L4 f 1 q (cOf N) (nI i) h = kret (cOf N') h ∧ nrM W D 8 N' := by
  intro f
  induction f with
  | zero => intro i N h1 h2; omega
  | succ f ih =>
    intro i N h1 h2 h3
    unfold X6_nearestOpen_L4 X6_nearestOpen_b4
    by_cases hi : 8 ≤ i
    · obtain rfl : i = 8 := by omega
      exact ⟨N, by rw [kif_t (by rw [show (8 : Int32) = nI 8 from rfl, ka_le (by omega) (by omega)]; exact hi)], h3⟩
    · have hi8 : i < 8 := by omega
      have skip : (D i = true ∨ W i = none ∨ ∃ g d dv, N = some g ∧ W g = some d ∧ W i = some dv ∧ d ≤ dv) → ∃ N', X6_nearestOpen_b42 (X6_nearestOpen_L4 f) 1 q (cOf N) (nI i) h = kret (cOf N') h ∧ nrM W D 8 N' := by
        intro hs
        unfold X6_nearestOpen_b42
        rw [nI_1]
        refine ih (i + 1) N (by omega) (by omega) ?_
        cases N with
        | none =>
          intro v hv
          by_cases hvi : v = i
          · rw [hvi]
            rcases hs with z | z | ⟨g, d, dv, z, -⟩
            · exact Or.inl z
            · exact Or.inr z
            · cases z
          · exact h3 v (by omega)
        | some g =>
          obtain ⟨w1, w2, d, w3, w4⟩ := h3
          refine ⟨by omega, w2, d, w3, fun v hv hDv dv hdv => ?_⟩
          by_cases hvi : v = i
          · rw [hvi] at hDv hdv
            rcases hs with z | z | ⟨g', d', dv', z1, z2, z3, z4⟩
            · rw [hDv] at z
              cases z
            · rw [z] at hdv
              cases hdv
            · cases z1
              rw [w3] at z2
              cases z2
              rw [hdv] at z3
              cases z3
              exact z4
          · exact w4 v (by omega) hDv dv hdv
      have take : ∀ di, D i = false → W i = some di → (∀ v, v < i → D v = false → ∀ dv, W v = some dv → di ≤ dv) → ∃ N', X6_nearestOpen_b40 (X6_nearestOpen_L4 f) 1 q (nI i) h = kret (cOf N') h ∧ nrM W D 8 N' := by
        intro di z1 z2 z3
        unfold X6_nearestOpen_b40 X6_nearestOpen_b42
        rw [nI_1]
        refine ih (i + 1) (some i) (by omega) (by omega) ⟨by omega, z1, di, z2, fun v hv hDv dv hdv => ?_⟩
        by_cases hvi : v = i
        · rw [hvi, z2] at hdv
          cases hdv
          exact Nat.le_refl _
        · exact z3 v (by omega) hDv dv hdv
      rw [kif_f (by rw [show (8 : Int32) = nI 8 from rfl, ka_le (by omega) (by omega)]; exact hi), gN_k S.d1 S.r1_2, gAI_k S.d20 (by rw [S.n20]; omega) (by omega), hD i hi8]
      by_cases hDi : D i = true
      · rw [kif_f (by rw [b01_0]; exact fun z => z hDi)]
        exact skip (Or.inl hDi)
      · have hDi' := bF hDi
        rw [kif_t (by rw [b01_0]; exact hDi), gAI_k kq (by omega) (by omega), hW i hi8]
        cases eW : W i with
        | none =>
          rw [kif_t (show cOf none = -1 from rfl)]
          exact skip (Or.inr (Or.inl eW))
        | some di =>
          have hdi := hB i di hi8 eW
          rw [kif_f (by show ¬ nI di = -1; rw [ka_n1 hdi]; exact fun z => z)]
          cases N with
          | none =>
            rw [kif_t (show cOf none = -1 from rfl)]
            exact take di hDi' eW (fun v hv hDv dv hdv => by
              rcases h3 v hv with z | z
              · rw [hDv] at z
                cases z
              · rw [hdv] at z
                cases z)
          | some g =>
            obtain ⟨w1, w2, d, w3, w4⟩ := h3
            have hd := hB g d (by omega) w3
            rw [kif_f (by show ¬ nI g = -1; rw [ka_n1 (by omega)]; exact fun z => z), gAI_k kq (by omega) (by omega), hW i hi8, eW]
            rw [show cOf (some g) = nI g from rfl, gAI_k kq (by omega) (by omega), hW g (by omega), w3]
            rw [show cOf (some d) = nI d from rfl, show cOf (some di) = nI di from rfl]
            by_cases hle : d ≤ di
            · rw [kif_t (by rw [ka_le hd hdi]; exact hle)]
              exact skip (Or.inr (Or.inr ⟨g, d, di, rfl, w3, eW, hle⟩))
            · rw [kif_f (by rw [ka_le hd hdi]; exact hle)]
              exact take di hDi' eW (fun v hv hDv dv hdv => by
                have := w4 v hv hDv dv hdv
                omega)
theorem x6_goL {W : Nat → Option Nat} {g d : Nat} (hg : g < 8) (hq : 12 ≤ q ∧ q ≤ 19) (h0 : L g g = 0) (hgd : W g = some d) (hL : ∀ i j, i < 8 → j < 8 → L i j ≤ 200) (hB : ∀ v x, v < 8 → W v = some x → x ≤ 1600) : ∀ (f i : Nat) (h : KH), kSr h → (∀ i j, i < 8 → j < 8 → kI h (3 + i) j = nI (L i j)) → (∀ v, v < 8 → kI h q v = cOf (if v < i then rlx L W g d v else W v)) → i ≤ 8 → 8 < i + f → ∃ h', X6_goOnFrom_L2 f 1 (nI g) q (nI i) h = kret () h' ∧ (kAg (fun a _ => a = q) h h' ∧ kx h' = kx h) ∧ ∀ v, v < 8 → kI h' q v = cOf (rlx L W g d v) := by
  have hd := hB g d hg hgd
  intro f
  induction f with
  | zero => intro i h _ _ _ h1 h2; omega
  | succ f ih =>
    intro i h S hl hW h1 h2
    have kq : kd h q = 21 ∧ kn h q = 8 := by
      have e2 := (S.q12 (q - 12) (by omega)).1
      rw [show 12 + (q - 12) = q by omega] at e2
      exact e2
    have kl : kd h (3 + g) = 21 ∧ kn h (3 + g) = 8 := by
      exact (S.q3 g hg).1
    unfold X6_goOnFrom_L2 X6_goOnFrom_b2
    by_cases hi : 8 ≤ i
    · refine ⟨h, by rw [kif_t (by rw [show (8 : Int32) = nI 8 from rfl, ka_le (by omega) (by omega)]; exact hi)], ⟨(kAg.rf h).sub (fun _ _ z => z.elim), rfl⟩, fun v hv => ?_⟩
      have := hW v hv
      rw [if_pos (by omega)] at this
      exact this
    · have hi8 : i < 8 := by omega
      have hLgi := hL g i hg hi8
      have cg : kI h q g = nI d := by
        rw [hW g hg]
        have e : rlx L W g d g = W g := if_pos h0
        rw [e]
        split <;> rw [hgd] <;> rfl
      have ci : kI h q i = cOf (W i) := by rw [hW i hi8, if_neg (by omega)]
      have hr : rlx L W g d i = if L g i = 0 then W i else match W i with
        | none => some (d + L g i)
        | some c => if d + L g i < c then some (d + L g i) else some c := rfl
      have keep : rlx L W g d i = W i → ∃ h', X6_goOnFrom_b51 (X6_goOnFrom_L2 f) 1 (nI g) q (nI i) h = kret () h' ∧ (kAg (fun a _ => a = q) h h' ∧ kx h' = kx h) ∧ ∀ v, v < 8 → kI h' q v = cOf (rlx L W g d v) := by
        intro e
        unfold X6_goOnFrom_b51
        rw [nI_1]
        exact ih (i + 1) h S hl (fun v hv => by
          rw [hW v hv]
          by_cases hvi : v = i
          · rw [hvi, if_neg (by omega), if_pos (by omega), e]
          · by_cases hlt : v < i
            · rw [if_pos hlt, if_pos (by omega)]
            · rw [if_neg hlt, if_neg (by omega)]) (by omega) (by omega)
      have take : rlx L W g d i = some (d + L g i) → ∃ h', X6_goOnFrom_b46 (X6_goOnFrom_L2 f) 1 (nI g) q (nI i) (nI (d + L g i)) h = kret () h' ∧ (kAg (fun a _ => a = q) h h' ∧ kx h' = kx h) ∧ ∀ v, v < 8 → kI h' q v = cOf (rlx L W g d v) := by
        intro e
        have ag1 := kAg.I h q i (nI (d + L g i))
        obtain ⟨h', e1, ⟨e2, e2'⟩, e3⟩ := ih (i + 1) (sI h q i (nI (d + L g i))) (S.fr ag1 (fun a k z1 z2 => by omega)) (fun i j hi hj => by rw [kI_sI, if_neg (by omega)]; exact hl i j hi hj) (fun v hv => by
          rw [kI_sI]
          by_cases hvi : v = i
          · rw [if_pos ⟨rfl, hvi⟩, if_pos (by omega), hvi, e]
            rfl
          · rw [if_neg (fun z => hvi z.2), hW v hv]
            by_cases hlt : v < i
            · rw [if_pos hlt, if_pos (by omega)]
            · rw [if_neg hlt, if_neg (by omega)]) (by omega) (by omega)
        refine ⟨h', ?_, ⟨ag1.trans e2 (fun a k q z => q z.1) (fun a k q => q), e2'⟩, e3⟩
        unfold X6_goOnFrom_b46 X6_goOnFrom_b51
        rw [pAI_k kq.1 (by omega) (by omega), nI_1]
        exact e1
      rw [kif_f (by rw [show (8 : Int32) = nI 8 from rfl, ka_le (by omega) (by omega)]; exact hi), gN_k S.d1 S.r1_0, gAN_k S.d2 (by rw [S.n2]; omega) (by omega) (S.q3 g hg).2, gAI_k kl.1 (by omega) (by omega), hl g i hg hi8, gAI_k kq.1 (by omega) (by omega), cg]
      by_cases hz : L g i = 0
      · rw [kif_t (by rw [hz]; rfl)]
        exact keep (if_pos hz)
      · rw [if_neg hz] at hr
        rw [kif_f (by rw [show (0 : Int32) = nI 0 from rfl, ka_eq (by omega) (by omega)]; exact hz), gAI_k kq.1 (by omega) (by omega), ci, ka_add]
        cases eW : W i with
        | none =>
          rw [eW] at hr
          rw [kif_t (show cOf none = -1 from rfl)]
          exact take hr
        | some c =>
          have hc := hB i c hi8 eW
          rw [eW] at hr
          have hr' : rlx L W g d i = if d + L g i < c then some (d + L g i) else some c := hr
          rw [kif_f (by show ¬ nI c = -1; rw [ka_n1 (by omega)]; exact fun z => z), gAI_k kq.1 (by omega) (by omega), ci, eW]
          rw [show cOf (some c) = nI c from rfl]
          by_cases hle : c ≤ d + L g i
          · rw [if_neg (by omega)] at hr'
            rw [kif_t (by rw [ka_le (by omega) (by omega)]; exact hle)]
            exact keep (by rw [hr', eW])
          · rw [if_pos (by omega)] at hr'
            rw [kif_f (by rw [ka_le (by omega) (by omega)]; exact hle)]
            exact take hr'
theorem x6_roundL {s : Nat} (hs : s < 8) (hq : 12 ≤ q ∧ q ≤ 19) (hL : ∀ i j, i < 8 → j < 8 → L i j ≤ 200) (h0 : ∀ i, L i i = 0) : ∀ (f r : Nat) (h : KH) (W : Nat → Option Nat) (D : Nat → Bool), kSr h → (∀ i j, i < 8 → j < 8 → kI h (3 + i) j = nI (L i j)) → (∀ v, v < 8 → kI h q v = cOf (W v)) → (∀ v, v < 8 → kI h 20 v = b01 (D v)) → DJ L s r W D → r ≤ 8 → 8 < r + f → ∃ (h' : KH) (W' : Nat → Option Nat), X6_measureFrom_L38 f 1 q (nI r) h = kret () h' ∧ (kAg (fun a _ => a = q ∨ a = 20) h h' ∧ kx h' = kx h) ∧ (∀ v, v < 8 → kI h' q v = cOf (W' v)) ∧ ∀ v, v < 8 → isDi L s v (W' v) := by
  intro f
  induction f with
  | zero => intro r h W D _ _ _ _ _ h1 h2; omega
  | succ f ih =>
    intro r h W D S hl hW hD J h1 h2
    have kq : kd h q = 21 ∧ kn h q = 8 := by
      have e2 := (S.q12 (q - 12) (by omega)).1
      rw [show 12 + (q - 12) = q by omega] at e2
      exact e2
    unfold X6_measureFrom_L38 X6_measureFrom_b38
    by_cases hr : 8 ≤ r
    · obtain rfl : r = 8 := by omega
      exact ⟨h, W, by rw [kif_t (by rw [show (8 : Int32) = nI 8 from rfl, ka_le (by omega) (by omega)]; exact hr)], ⟨(kAg.rf h).sub (fun _ _ z => z.elim), rfl⟩, hW, J.fin hs (fun v hv => Or.inl (cnD_all 8 J.2.2.2.2 v hv))⟩
    · have hB : ∀ v d, v < 8 → W v = some d → d ≤ 1600 := fun v d hv e => by
        have := (J.2.1 v d hv e).2
        omega
      obtain ⟨N, e1, e2⟩ := x6_nearL S kq.1 kq.2 hW hD (fun v d hv e => by have := hB v d hv e; omega) kF 0 none (by omega) (by unfold kF; omega) (fun v hv => absurd hv (Nat.not_lt_zero _))
      have e1' : f_X6_nearestOpen 1 q h = kret (cOf N) h := e1
      rw [kif_f (by rw [show (8 : Int32) = nI 8 from rfl, ka_le (by omega) (by omega)]; exact hr), kV_k S.d1, e1', kb_ret]
      cases N with
      | none => exact ⟨h, W, by rw [kif_t (show cOf none = -1 from rfl)], ⟨(kAg.rf h).sub (fun _ _ z => z.elim), rfl⟩, hW, J.fin hs e2⟩
      | some g =>
        obtain ⟨w1, w2, d, w3, w4⟩ := e2
        have ag1 := kAg.I h 20 g 1
        have S1 : kSr (sI h 20 g 1) := S.fr ag1 (fun a k z1 z2 => by omega)
        obtain ⟨h2', g1, ⟨g2, g2'⟩, g3⟩ := x6_goL (W := W) (g := g) (d := d) (q := q) w1 hq (h0 g) w3 hL hB kF 0 (sI h 20 g 1) S1 (fun i j hi hj => by rw [kI_sI, if_neg (by omega)]; exact hl i j hi hj) (fun v hv => by rw [kI_sI, if_neg (by omega), if_neg (Nat.not_lt_zero _)]; exact hW v hv) (by omega) (by unfold kF; omega)
        have S2 := S1.fr g2 (fun a k z1 z2 => by omega)
        obtain ⟨h3', W', f1, ⟨f2, f2'⟩, f3, f4⟩ := ih (r + 1) h2' (rlx L W g d) (fun v => if v = g then true else D v) S2 (fun i j hi hj => by rw [(g2.1 (3 + i) j (by omega)).1, kI_sI, if_neg (by omega)]; exact hl i j hi hj) g3 (fun v hv => by
          rw [(g2.1 20 v (by omega)).1, kI_sI]
          show _ = b01 (if v = g then true else D v)
          by_cases hvg : v = g
          · rw [if_pos ⟨rfl, hvg⟩, if_pos hvg]
            rfl
          · rw [if_neg (fun z => hvg z.2), if_neg hvg]
            exact hD v hv) (J.step hs hL h0 w1 w2 w3 w4 (fun v => rfl) (fun v hv => rfl)) (by omega) (by omega)
        refine ⟨h3', W', ?_, ⟨((ag1.trans (F := fun a _ => a = q ∨ a = 20) g2 (fun a k q z => q (Or.inr z.1)) (fun a k q z => q (Or.inl z)))).trans f2 (fun a k q => q) (fun a k q => q), f2'.trans g2'⟩, f3, f4⟩
        rw [kif_f (by show ¬ nI g = -1; rw [ka_n1 (by omega)]; exact fun z => z), gN_k S.d1 S.r1_2]
        rw [show cOf (some g) = nI g from rfl, pAZ_k S.d20 (by rw [S.n20]; omega) (by omega) (Or.inr rfl), kV_k S1.d1, show f_X6_goOnFrom 1 (nI g) q (sI h 20 g 1) = _ from g1, kb_ret, nI_1]
        exact f1
theorem x6_fromL {s : Nat} (hs : s < 8) (hq : q = 12 + s) (hL : ∀ i j, i < 8 → j < 8 → L i j ≤ 200) (h0 : ∀ i, L i i = 0) : ∀ (f i : Nat) (h : KH), kSr h → (∀ i j, i < 8 → j < 8 → kI h (3 + i) j = nI (L i j)) → (∀ v, v < i → kI h q v = -1 ∧ kI h 20 v = 0) → i ≤ 8 → 8 < i + f → ∃ (h' : KH) (W' : Nat → Option Nat), X6_measureFrom_L9 f 1 (nI s) q (nI i) h = kret () h' ∧ (kAg (fun a _ => a = q ∨ a = 20) h h' ∧ kx h' = kx h) ∧ (∀ v, v < 8 → kI h' q v = cOf (W' v)) ∧ ∀ v, v < 8 → isDi L s v (W' v) := by
  intro f
  induction f with
  | zero => intro i h _ _ _ h1 h2; omega
  | succ f ih =>
    intro i h S hl hz h1 h2
    have kq : kd h q = 21 ∧ kn h q = 8 := by
      have e2 := (S.q12 s hs).1
      rw [← hq] at e2
      exact e2
    unfold X6_measureFrom_L9 X6_measureFrom_b9
    by_cases hi : 8 ≤ i
    · have ag1 := kAg.I h q s 0
      have S1 : kSr (sI h q s 0) := S.fr ag1 (fun a k z1 z2 => by omega)
      have hJ : DJ L s 0 (fun v => if v = s then some 0 else none) (fun _ => false) := by
        refine ⟨⟨0, if_pos rfl, Nat.le_refl _⟩, ?_, ?_, ?_, rfl⟩
        · intro v d hv e
          have e' : (if v = s then some 0 else none) = some d := e
          by_cases hvs : v = s
          · rw [if_pos hvs] at e'
            cases e'
            exact ⟨⟨0, hvs.symm, rfl⟩, Nat.zero_le _⟩
          · rw [if_neg hvs] at e'
            cases e'
        · intro u hu e
          exact absurd (show false = true from e) (by decide)
        · intro u d v hu e
          exact absurd (show false = true from e) (by decide)
      obtain ⟨h', W', f1, ⟨f2, f2'⟩, f3, f4⟩ := x6_roundL (q := q) hs (by omega) hL h0 kF 0 (sI h q s 0) (fun v => if v = s then some 0 else none) (fun _ => false) S1 (fun i j hi hj => by rw [kI_sI, if_neg (by omega)]; exact hl i j hi hj) (fun v hv => by
        rw [kI_sI]
        show _ = cOf (if v = s then some 0 else none)
        by_cases hvs : v = s
        · rw [if_pos ⟨rfl, hvs⟩, if_pos hvs]
          rfl
        · rw [if_neg (fun z => hvs z.2), if_neg hvs]
          exact (hz v (by omega)).1) (fun v hv => by
        rw [kI_sI, if_neg (by omega)]
        exact (hz v (by omega)).2) hJ (by omega) (by unfold kF; omega)
      refine ⟨h', W', ?_, ⟨ag1.trans f2 (fun a k q z => q (Or.inl z.1)) (fun a k q => q), f2'⟩, f3, f4⟩
      rw [kif_t (by rw [show (8 : Int32) = nI 8 from rfl, ka_le (by omega) (by omega)]; exact hi), pAI_k kq.1 (by omega) (by omega)]
      exact f1
    · have ag1 := kAg.I h q i (-1)
      have S1 : kSr (sI h q i (-1)) := S.fr ag1 (fun a k z1 z2 => by omega)
      have ag2 := kAg.I (sI h q i (-1)) 20 i 0
      obtain ⟨h', W', f1, ⟨f2, f2'⟩, f3, f4⟩ := ih (i + 1) (sI (sI h q i (-1)) 20 i 0) (S1.fr ag2 (fun a k z1 z2 => by omega)) (fun i j hi hj => by rw [kI_sI, if_neg (by omega), kI_sI, if_neg (by omega)]; exact hl i j hi hj) (fun v hv => by
        rw [kI_sI, if_neg (by omega), kI_sI, kI_sI]
        by_cases hvi : v = i
        · rw [if_pos ⟨rfl, hvi⟩, if_pos ⟨rfl, hvi⟩]
          exact ⟨rfl, rfl⟩
        · rw [if_neg (fun z => hvi z.2), if_neg (fun z => hvi z.2), kI_sI, if_neg (by omega)]
          exact hz v (by omega)) (by omega) (by omega)
      refine ⟨h', W', ?_, ⟨(ag1.trans (F := fun a _ => a = q ∨ a = 20) ag2 (fun a k q z => q (Or.inl z.1)) (fun a k q z => q (Or.inr z.1))).trans f2 (fun a k q => q) (fun a k q => q), f2'⟩, f3, f4⟩
      rw [kif_f (by rw [show (8 : Int32) = nI 8 from rfl, ka_le (by omega) (by omega)]; exact hi), pAI_k kq.1 (by omega) (by omega), gN_k S1.d1 S1.r1_2, pAZ_k S1.d20 (by rw [S1.n20]; omega) (by omega) (Or.inl rfl), nI_1]
      exact f1
theorem x6_allL (hL : ∀ i j, i < 8 → j < 8 → L i j ≤ 200) (h0 : ∀ i, L i i = 0) : ∀ (f s : Nat) (h : KH), kSr h → (∀ i j, i < 8 → j < 8 → kI h (3 + i) j = nI (L i j)) → (∀ i j, i < s → j < 8 → kI h (12 + i) j = cOf (FWn L 8 i j)) → s ≤ 8 → 8 < s + f → ∃ h', X6_measureAll_L2 f 1 (nI s) h = kret () h' ∧ (kAg (fun a _ => 12 ≤ a ∧ a ≤ 20) h h' ∧ kx h' = kx h) ∧ ∀ i j, i < 8 → j < 8 → kI h' (12 + i) j = cOf (FWn L 8 i j) := by
  intro f
  induction f with
  | zero => intro s h _ _ _ h1 h2; omega
  | succ f ih =>
    intro s h S hl hz h1 h2
    unfold X6_measureAll_L2 X6_measureAll_b2
    by_cases hs : 8 ≤ s
    · exact ⟨h, by rw [kif_t (by rw [show (8 : Int32) = nI 8 from rfl, ka_le (by omega) (by omega)]; exact hs)], ⟨(kAg.rf h).sub (fun _ _ z => z.elim), rfl⟩, fun i j hi hj => hz i j (by omega) hj⟩
    · have hs8 : s < 8 := by omega
      obtain ⟨h1', W', e1, ⟨e2, e2'⟩, e3, e4⟩ := x6_fromL (q := 12 + s) hs8 rfl hL h0 kF 0 h S hl (fun v hv => absurd hv (Nat.not_lt_zero _)) (by omega) (by unfold kF; omega)
      obtain ⟨h2', f1, ⟨f2, f2'⟩, f3⟩ := ih (s + 1) h1' (S.fr e2 (fun a k z1 z2 => by omega)) (fun i j hi hj => by rw [(e2.1 (3 + i) j (by omega)).1]; exact hl i j hi hj) (fun i j hi hj => by
        by_cases his : i = s
        · rw [his, e3 j hj, isDi_uniq (e4 j hj) (FW_dist h0 hs8 hj)]
        · rw [(e2.1 (12 + i) j (by omega)).1]
          exact hz i j (by omega) hj) (by omega) (by omega)
      refine ⟨h2', ?_, ⟨e2.trans f2 (fun a k q z => q (by omega)) (fun a k q => q), f2'.trans e2'⟩, f3⟩
      have hf : f_X6_measureFrom 1 (nI s) h = kret () h1' := by
        unfold f_X6_measureFrom
        rw [gN_k S.d1 S.r1_1, gAN_k S.d11 (by rw [S.n11]; exact hs8) (by omega) (S.q12 s hs8).2]
        exact e1
      rw [kif_f (by rw [show (8 : Int32) = nI 8 from rfl, ka_le (by omega) (by omega)]; exact hs), kV_k S.d1, hf, kb_ret, nI_1]
      exact f1
theorem x6_all {h : KH} (S : kSr h) (hL : ∀ i j, i < 8 → j < 8 → L i j ≤ 200) (h0 : ∀ i, L i i = 0) (hl : ∀ i j, i < 8 → j < 8 → kI h (3 + i) j = nI (L i j)) : ∃ h', f_X6_measureAll 1 h = kret () h' ∧ (kAg (fun a _ => 12 ≤ a ∧ a ≤ 20) h h' ∧ kx h' = kx h) ∧ ∀ i j, i < 8 → j < 8 → kI h' (12 + i) j = cOf (FWn L 8 i j) :=
  x6_allL hL h0 kF 0 h S hl (fun i j hi => absurd hi (Nat.not_lt_zero _)) (by omega) (by unfold kF; omega)
end KDIJK
