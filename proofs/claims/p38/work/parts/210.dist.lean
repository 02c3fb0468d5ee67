/-! the distances: that over the best next gate, and the same the other way -/
theorem sX_X (h : KH) (a b : Nat) : sX (sX h a) b = sX h b := rfl
theorem WK.first {L : Nat → Nat → Nat} {i : Nat} : ∀ (n j w : Nat), j < 8 → WK L (n + 1) i j w → ∃ k u, k < 8 ∧ L i k ≠ 0 ∧ WK L n k j u ∧ w = L i k + u := by
  intro n
  induction n with
  | zero =>
    intro j w hj h
    obtain ⟨k, u, k1, ⟨rfl, rfl⟩, k3, k4⟩ := h
    exact ⟨j, 0, hj, k3, ⟨rfl, rfl⟩, by omega⟩
  | succ n ih =>
    intro j w hj h
    obtain ⟨k, u, k1, k2, k3, k4⟩ := h
    obtain ⟨k', u', q1, q2, q3, q4⟩ := ih k u k1 k2
    exact ⟨k', u' + L k j, q1, q2, ⟨k, u', k1, q3, k3, rfl⟩, by omega⟩
theorem WK.rev {L : Nat → Nat → Nat} (hs : ∀ i j, L i j = L j i) {i : Nat} : ∀ (n j w : Nat), i < 8 → j < 8 → WK L n i j w → ∃ m, WK L m j i w := by
  intro n
  induction n with
  | zero =>
    intro j w hi hj h
    obtain ⟨rfl, rfl⟩ := h
    exact ⟨0, rfl, rfl⟩
  | succ n ih =>
    intro j w hi hj h
    obtain ⟨k, u, k1, k2, k3, k4⟩ := h
    obtain ⟨m, hm⟩ := ih k u hi k1 k2
    have e1 : WK L 1 j k (L j k) := ⟨j, 0, hj, ⟨rfl, rfl⟩, by rw [hs]; exact k3, by omega⟩
    obtain ⟨q, hq⟩ := WK.app k1 m 1 i (L j k) u e1 hm
    exact ⟨q, by rw [k4, hs k j, Nat.add_comm]; exact hq⟩
theorem isDi.rev {L : Nat → Nat → Nat} (hs : ∀ i j, L i j = L j i) {i j : Nat} (hi : i < 8) (hj : j < 8) {o : Option Nat} (h : isDi L i j o) : isDi L j i o := by
  cases o with
  | none =>
    intro n w q
    obtain ⟨m, hm⟩ := WK.rev hs n i w hj hi q
    exact h m w hm
  | some d =>
    obtain ⟨⟨n, hn⟩, h2⟩ := h
    refine ⟨WK.rev hs n j d hi hj hn, fun n w q => ?_⟩
    obtain ⟨m, hm⟩ := WK.rev hs n i w hj hi q
    exact h2 m w hm
/-- the best next gate, of the first m -/
def bst (l : Nat → Nat) (F : Nat → Option Nat) : Nat → Option Nat
  | 0 => none
  | m + 1 => if l m = 0 then bst l F m else match F m with
    | none => bst l F m
    | some d => match bst l F m with
      | none => some (l m + d)
      | some b => if l m + d < b then some (l m + d) else some b
theorem bst_s0 {l : Nat → Nat} {F : Nat → Option Nat} {m : Nat} (h0 : l m = 0) : bst l F (m + 1) = bst l F m := if_pos h0
theorem bst_sn {l : Nat → Nat} {F : Nat → Option Nat} {m : Nat} (h0 : l m ≠ 0) (e : F m = none) : bst l F (m + 1) = bst l F m := by
  show (if l m = 0 then _ else _) = _
  rw [if_neg h0, e]
theorem bst_s1 {l : Nat → Nat} {F : Nat → Option Nat} {m d : Nat} (h0 : l m ≠ 0) (e : F m = some d) (eb : bst l F m = none) : bst l F (m + 1) = some (l m + d) := by
  show (if l m = 0 then _ else _) = _
  rw [if_neg h0, e, eb]
theorem bst_s2 {l : Nat → Nat} {F : Nat → Option Nat} {m d b : Nat} (h0 : l m ≠ 0) (e : F m = some d) (eb : bst l F m = some b) : bst l F (m + 1) = if l m + d < b then some (l m + d) else some b := by
  show (if l m = 0 then _ else _) = _
  rw [if_neg h0, e, eb]
theorem bst_ok {l : Nat → Nat} {F : Nat → Option Nat} : ∀ m, match bst l F m with
    | none => ∀ k, k < m → l k ≠ 0 → F k = none
    | some b => (∃ k d, k < m ∧ l k ≠ 0 ∧ F k = some d ∧ b = l k + d) ∧ ∀ k d, k < m → l k ≠ 0 → F k = some d → b ≤ l k + d := by
  intro m
  induction m with
  | zero => exact fun k hk => absurd hk (Nat.not_lt_zero k)
  | succ m ih =>
    unfold bst
    by_cases h0 : l m = 0
    · rw [if_pos h0]
      cases e : bst l F m with
      | none =>
        rw [e] at ih
        exact fun k hk hl => ih k (by have : k ≠ m := fun q => hl (by rw [q]; exact h0); omega) hl
      | some b =>
        rw [e] at ih
        obtain ⟨⟨k, d, k1, k2, k3, k4⟩, h2⟩ := ih
        exact ⟨⟨k, d, by omega, k2, k3, k4⟩, fun k d hk hl => h2 k d (by have : k ≠ m := fun q => hl (by rw [q]; exact h0); omega) hl⟩
    · rw [if_neg h0]
      cases eF : F m with
      | none =>
        cases e : bst l F m with
        | none =>
          rw [e] at ih
          intro k hk hl
          by_cases hkm : k = m
          · rw [hkm]; exact eF
          · exact ih k (by omega) hl
        | some b =>
          rw [e] at ih
          obtain ⟨⟨k, d, k1, k2, k3, k4⟩, h2⟩ := ih
          refine ⟨⟨k, d, by omega, k2, k3, k4⟩, fun k d hk hl hf => ?_⟩
          by_cases hkm : k = m
          · rw [hkm, eF] at hf; cases hf
          · exact h2 k d (by omega) hl hf
      | some d0 =>
        cases e : bst l F m with
        | none =>
          rw [e] at ih
          refine ⟨⟨m, d0, by omega, h0, eF, rfl⟩, fun k d hk hl hf => ?_⟩
          by_cases hkm : k = m
          · rw [hkm] at hf ⊢
            rw [eF] at hf
            cases hf
            exact Nat.le_refl _
          · rw [ih k (by omega) hl] at hf; cases hf
        | some b =>
          rw [e] at ih
          obtain ⟨⟨k, d, k1, k2, k3, k4⟩, h2⟩ := ih
          show match (if l m + d0 < b then some (l m + d0) else some b) with
            | none => _
            | some b => _
          by_cases hlt : l m + d0 < b
          · rw [if_pos hlt]
            refine ⟨⟨m, d0, by omega, h0, eF, rfl⟩, fun k d hk hl hf => ?_⟩
            by_cases hkm : k = m
            · rw [hkm] at hf ⊢
              rw [eF] at hf
              cases hf
              exact Nat.le_refl _
            · have := h2 k d (by omega) hl hf
              omega
          · rw [if_neg hlt]
            refine ⟨⟨k, d, by omega, k2, k3, k4⟩, fun k d hk hl hf => ?_⟩
            by_cases hkm : k = m
            · rw [hkm] at hf ⊢
              rw [eF] at hf
              cases hf
              omega
            · exact h2 k d (by omega) hl hf
theorem bst_di {L : Nat → Nat → Nat} {i j : Nat} {F : Nat → Option Nat} (hi : i < 8) (hj : j < 8) (hij : i ≠ j) (hF : ∀ k, k < 8 → isDi L k j (F k)) : isDi L i j (bst (L i) F 8) := by
  have hb := bst_ok (l := L i) (F := F) 8
  have first : ∀ n w, WK L n i j w → ∃ k d, k < 8 ∧ L i k ≠ 0 ∧ F k = some d ∧ L i k + d ≤ w := by
    intro n w hw
    cases n with
    | zero => exact absurd hw.1 hij
    | succ n =>
      obtain ⟨k, u, k1, k2, k3, k4⟩ := WK.first n j w hj hw
      have hk := hF k k1
      cases eF : F k with
      | none =>
        rw [eF] at hk
        exact absurd k3 (hk n u)
      | some d =>
        rw [eF] at hk
        have := hk.2 n u k3
        exact ⟨k, d, k1, k2, eF, by omega⟩
  cases e : bst (L i) F 8 with
  | none =>
    rw [e] at hb
    intro n w hw
    obtain ⟨k, d, k1, k2, k3, -⟩ := first n w hw
    rw [hb k k1 k2] at k3
    cases k3
  | some b =>
    rw [e] at hb
    obtain ⟨⟨k, d, k1, k2, k3, k4⟩, h2⟩ := hb
    refine ⟨?_, fun n w hw => ?_⟩
    · have hk := hF k k1
      rw [k3] at hk
      obtain ⟨n, hn⟩ := hk.1
      have e1 : WK L 1 i k (L i k) := ⟨i, 0, hi, ⟨rfl, rfl⟩, k2, by omega⟩
      obtain ⟨q, hq⟩ := WK.app k1 n 1 j (L i k) d e1 hn
      exact ⟨q, by rw [k4]; exact hq⟩
    · obtain ⟨k', d', q1, q2, q3, q4⟩ := first n w hw
      have := h2 k' d' q1 q2 q3
      omega
section DIST
variable {j : Nat} {h hm : KH}
theorem RR.lens (R : RR j h hm) : (∀ i k, i < 8 → k < 8 → LL hm i k ≤ 200 ∧ kI hm 1 (8 * i + k) = nI (LL hm i k)) ∧ (∀ i k, LL hm i k = LL hm k i) ∧ ∀ i, LL hm i i = 0 := by
  have key : ∀ i k, i < 8 → k < 8 → ∃ n, n ≤ 200 ∧ LL hm i k = n ∧ LL hm k i = n ∧ (i = k → n = 0) ∧ kI hm 1 (8 * i + k) = nI n := fun i k hi hk => by
    obtain ⟨n, w1, -, w3, w4, w5⟩ := R.2.2.2.1 i k hi hk
    exact ⟨n, w1, by rw [LL_at hi hk, mn_of w3 (by omega)], by rw [LL_at hk hi, mn_of w4 (by omega)], w5, w3⟩
  refine ⟨fun i k hi hk => ?_, fun i k => ?_, fun i => ?_⟩
  · obtain ⟨n, w1, w2, -, -, w5⟩ := key i k hi hk
    rw [w2]
    exact ⟨w1, w5⟩
  · by_cases hq : i < 8 ∧ k < 8
    · obtain ⟨n, -, w2, w3, -⟩ := key i k hq.1 hq.2
      rw [w2, w3]
    · unfold LL
      rw [if_neg hq, if_neg (fun z => hq ⟨z.2, z.1⟩)]
  · by_cases hq : i < 8
    · obtain ⟨n, -, w2, -, w4, -⟩ := key i i hq hq
      rw [w2, w4 rfl]
    · unfold LL
      rw [if_neg (fun z => hq z.1)]
theorem DI.le (R : RR j h hm) : ∀ i k d, i < 8 → k < 8 → FWn (LL hm) 8 i k = some d → d ≤ 51200 := fun i k d hi hk e => by
  have := FW_bound (L := LL hm) (fun i k hi hk => (R.lens.1 i k hi hk).1) 8 (Nat.le_refl _) i k d hi hk e
  omega
theorem cOf_lt {o : Option Nat} (h : ∀ d, o = some d → d < 2147483648) : (cOf o < 0) = (o = none) := by
  cases o with
  | none => exact eq_true (show (-1 : Int32) < 0 by decide) |>.trans (eq_true rfl).symm
  | some d =>
    rw [show cOf (some d) = nI d from rfl, ka_neg (h d rfl)]
    exact (eq_false (fun q => by cases q)).symm
theorem law_distL (R : RR j h hm) (T : TT h hm) (D : DI hm) (rc18 : Nat → Nat → Int32 → Int32 → Int32 → KH → KO Int32) (v5 : Int32) {G t : Nat} (hG : G < 8) (ht : t < 8) (hne : G ≠ t) : ∀ (f m : Nat), m ≤ 8 → 8 < m + f →
    L_areDistances_L54 rc18 f 0 48 (nI G) (nI t) v5 (cOf (bst (LL hm G) (fun k => FWn (LL hm) 8 k t) m)) (nI m) (sX h 0) = L_areDistances_b145 rc18 0 48 (nI G) (nI t) v5 (cOf (bst (LL hm G) (fun k => FWn (LL hm) 8 k t) 8)) (sX h 0) := by
  have RX := R.X 0
  have TX := T.X 0
  have S := RX.1.1
  have k48 : kd (sX h 0) 48 = 31 := TX.1.kind 48 (by omega) (by omega)
  have n48 : kn (sX h 0) 48 = 64 := TX.1.2.2.2.2.2.2.1.2
  have hle := DI.le R
  have hLL := R.lens.1
  intro f
  induction f with
  | zero => intro m h1 h2; omega
  | succ f ih =>
    intro m h1 h2
    unfold L_areDistances_L54 L_areDistances_b54
    by_cases hm8 : 8 ≤ m
    · have : m = 8 := by omega
      subst this
      rw [kif_t (by decide)]
    · have hml : m < 8 := by omega
      rw [kif_f (by rw [show (8 : Int32) = nI 8 from rfl, ka_le (by omega) (by omega)]; exact hm8), kif_f (by rw [ka_eq (by omega) (by omega)]; exact hne), mc_idx8, gAI_k k48 (by rw [n48]; omega) (by omega), TX.2.2.2.2.2.2.1 _ (by omega), (hLL G m hG hml).2]
      have hl2 := (hLL G m hG hml).1
      have hbl : ∀ b, bst (LL hm G) (fun k => FWn (LL hm) 8 k t) m = some b → b ≤ 51400 := fun b e => by
        have hb := bst_ok (l := LL hm G) (F := fun k => FWn (LL hm) 8 k t) m
        rw [e] at hb
        obtain ⟨⟨k, d, k1, k2, k3, k4⟩, -⟩ := hb
        have := hle k t d (by omega) ht k3
        have := (hLL G k hG (by omega)).1
        omega
      have next : ∀ o, o = bst (LL hm G) (fun k => FWn (LL hm) 8 k t) (m + 1) → L_areDistances_b137 rc18 (L_areDistances_L54 rc18 f) 0 48 (nI G) (nI t) v5 (nI m) (cOf o) (sX h 0) = L_areDistances_b145 rc18 0 48 (nI G) (nI t) v5 (cOf (bst (LL hm G) (fun k => FWn (LL hm) 8 k t) 8)) (sX h 0) := fun o e => by
        unfold L_areDistances_b137
        rw [e, nI_1]
        exact ih (m + 1) (by omega) (by omega)
      by_cases h0 : LL hm G m = 0
      · rw [kif_t (by rw [h0]; rfl)]
        unfold L_areDistances_b91
        rw [kif_t (by decide)]
        unfold L_areDistances_b135
        exact next _ (bst_s0 h0).symm
      · rw [kif_f (by rw [show (0 : Int32) = nI 0 from rfl, ka_eq (by omega) (by omega)]; exact h0), sX_X, kV_k S.d0, rd_distance RX hml ht, kb_ret, D m t hml ht]
        unfold L_areDistances_b91
        cases eF : FWn (LL hm) 8 m t with
        | none =>
          rw [kif_t (by decide)]
          unfold L_areDistances_b135
          exact next _ (bst_sn h0 eF).symm
        | some d =>
          have hd := hle m t d hml ht eF
          rw [show cOf (some d) = nI d from rfl, kif_f (by rw [ka_neg (by omega)]; exact fun z => z)]
          cases eb : bst (LL hm G) (fun k => FWn (LL hm) 8 k t) m with
          | none =>
            rw [kif_t (by decide)]
            unfold L_areDistances_b120
            rw [mc_idx8, gAI_k k48 (by rw [n48]; omega) (by omega), TX.2.2.2.2.2.2.1 _ (by omega), (hLL G m hG hml).2, ka_add]
            exact next (some (LL hm G m + d)) (bst_s1 h0 eF eb).symm
          | some b =>
            have hb := hbl b eb
            rw [show cOf (some b) = nI b from rfl, kif_f (by rw [ka_neg (by omega)]; exact fun z => z), mc_idx8, gAI_k k48 (by rw [n48]; omega) (by omega), TX.2.2.2.2.2.2.1 _ (by omega), (hLL G m hG hml).2, ka_add]
            by_cases hlt : LL hm G m + d < b
            · rw [kif_f (by rw [ka_le (by omega) (by omega)]; omega)]
              unfold L_areDistances_b120
              rw [mc_idx8, gAI_k k48 (by rw [n48]; omega) (by omega), TX.2.2.2.2.2.2.1 _ (by omega), (hLL G m hG hml).2, ka_add]
              exact next (some (LL hm G m + d)) ((bst_s2 h0 eF eb).trans (if_pos hlt)).symm
            · rw [kif_t (by rw [ka_le (by omega) (by omega)]; omega)]
              unfold L_areDistances_b135
              exact next (some b) ((bst_s2 h0 eF eb).trans (if_neg hlt)).symm
theorem law_distO (R : RR j h hm) (T : TT h hm) (D : DI hm) {G : Nat} (hG : G < 8) : ∀ (f t : Nat), t ≤ 8 → 8 < t + f → L_areDistances_L18 f 0 48 (nI G) 1 (nI t) (sX h 0) = kret 1 (sX h 0) := by
  have RX := R.X 0
  have S := RX.1.1
  obtain ⟨hL, hs, h0⟩ := R.lens
  intro f
  induction f with
  | zero => intro t h1 h2; omega
  | succ f ih =>
    intro t h1 h2
    unfold L_areDistances_L18 L_areDistances_b18
    by_cases ht8 : 8 ≤ t
    · rw [kif_t (by rw [show (8 : Int32) = nI 8 from rfl, ka_le (by omega) (by omega)]; exact ht8)]
      rfl
    · have ht : t < 8 := by omega
      rw [kif_f (by rw [show (8 : Int32) = nI 8 from rfl, ka_le (by omega) (by omega)]; exact ht8), kif_f (by decide), sX_X, kV_k S.d0, rd_distance RX hG ht, kb_ret, D G t hG ht]
      have fin : ∀ o, o = FWn (LL hm) 8 G t → L_areDistances_b145 (L_areDistances_L18 f) 0 48 (nI G) (nI t) (cOf (FWn (LL hm) 8 G t)) (cOf o) (sX h 0) = kret 1 (sX h 0) := fun o e => by
        have esym : FWn (LL hm) 8 t G = FWn (LL hm) 8 G t := isDi_uniq (FW_dist h0 ht hG) ((FW_dist h0 hG ht).rev hs hG ht)
        unfold L_areDistances_b145
        rw [kif_t (by rw [e]), sX_X, kV_k S.d0, rd_distance RX ht hG, kb_ret, D t G ht hG, esym, kif_t rfl]
        unfold L_areDistances_b169
        rw [nI_1]
        exact ih (t + 1) (by omega) (by omega)
      by_cases hGt : G = t
      · subst hGt
        rw [kif_t rfl]
        unfold L_areDistances_b49 kF
        unfold L_areDistances_L54 L_areDistances_b54
        rw [kif_f (by decide), kif_t rfl]
        exact fin (some 0) (FW_diag 8 G).symm
      · rw [kif_f (by rw [ka_eq (by omega) (by omega)]; exact hGt)]
        unfold L_areDistances_b49
        have e := law_distL R T D (L_areDistances_L18 f) (cOf (FWn (LL hm) 8 G t)) hG ht hGt kF 0 (by omega) (by unfold kF; omega)
        refine Eq.trans e ?_
        exact fin _ (isDi_uniq (bst_di hG ht hGt (fun k hk => FW_dist h0 hk ht)) (FW_dist h0 hG ht))
theorem law_areDistances (R : RR j h hm) (T : TT h hm) (D : DI hm) {G : Nat} (hG : G < 8) : f_L_areDistances 0 48 (nI G) h = kret 1 (sX h 0) := by
  have RX := R.X 0
  have S := RX.1.1
  unfold f_L_areDistances
  rw [kV_k S.d0, rd_distance RX hG hG, kb_ret, D G G hG hG, FW_diag 8 G, kif_t (show cOf (some 0) = 0 from rfl)]
  unfold L_areDistances_b14
  exact law_distO R T D hG kF 0 (by omega) (by unfold kF; omega)
end DIST
