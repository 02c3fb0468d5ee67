/-! the plate of a reading: the model's -/
def bL (m : Nat → Nat → Nat) (r : Nat) (o : Option Nat) : Int32 := match o with
  | some b => cOf (sCost m r b)
  | none => -1
theorem MX.pfL {h : KH} (M : MX h) {r : Nat} (hr : r < mn h 0 16) (h0 : kI h 16 r = 0) : ∀ (f k : Nat), k ≤ mn h 0 8 → mn h 0 8 < k + f → X10_plateFor_L7 f 0 (nI r) (cOf (sBest (mn h) r k)) (bL (mn h) r (sBest (mn h) r k)) (nI k) h = kret (cOf (sBest (mn h) r (mn h 0 8))) h := by
  intro f
  induction f with
  | zero => intro k h1 h2; omega
  | succ f ih =>
    intro k h1 h2
    have MM := M
    obtain ⟨T, ⟨m1, m1'⟩, ⟨m2, -⟩, m3, m4, -⟩ := MM
    obtain ⟨-, -, ⟨-, l2⟩, -⟩ := m4 r hr
    unfold X10_plateFor_L7 X10_plateFor_b7
    rw [gI_k T.d0, m1']
    by_cases hk : mn h 0 8 ≤ k
    · rw [kif_t (by rw [ka_le (by omega) (by omega)]; exact hk), show k = mn h 0 8 by omega]
      unfold X10_plateFor_b79
      rw [gN_k T.d0 T.r21, gAI_k T.d16 (by rw [T.n16]; omega) (by omega), h0, kif_t rfl]
      rfl
    · have e := ih (k + 1) (by omega) (by omega)
      rw [← nI_1] at e
      have hstep : sBest (mn h) r (k + 1) = match sCost (mn h) r k with
        | none => sBest (mn h) r k
        | some c => match sBest (mn h) r k with
          | none => some k
          | some b => if c < (sCost (mn h) r b).getD 0 ∨ (c = (sCost (mn h) r b).getD 0 ∧ sTl (mn h) k < sTl (mn h) b) then some k else some b := rfl
      rw [kif_f (by rw [ka_le (by omega) (by omega)]; exact hk), gN_k T.d0 T.r21, gAI_k T.d16 (by rw [T.n16]; omega) (by omega), h0, kif_t rfl, kV_k T.d0, M.cost hr (by omega), kb_ret]
      cases e1 : sCost (mn h) r k with
      | none =>
        rw [e1] at hstep
        have hstep' : sBest (mn h) r (k + 1) = sBest (mn h) r k := hstep
        rw [hstep'] at e
        rw [kif_t (show cOf none = -1 from rfl)]
        exact e
      | some c =>
        rw [e1] at hstep
        have hc := sCost_le e1
        rw [kif_f (by show ¬ nI c = -1; rw [ka_n1 (by omega)]; exact fun z => z)]
        cases e2 : sBest (mn h) r k with
        | none =>
          rw [e2] at hstep
          have hstep' : sBest (mn h) r (k + 1) = some k := hstep
          rw [hstep'] at e
          rw [kif_t (show cOf none = -1 from rfl)]
          unfold X10_plateFor_b67 X10_plateFor_b73
          have e' : bL (mn h) r (some k) = cOf (some c) := by
            show cOf (sCost (mn h) r k) = _
            rw [e1]
          rw [e'] at e
          exact e
        | some b =>
          obtain ⟨hb, cb, ecb⟩ := sBest_lt _ _ e2
          have hcb := sCost_le ecb
          rw [e2] at hstep
          have hstep' : sBest (mn h) r (k + 1) = if c < cb ∨ (c = cb ∧ sTl (mn h) k < sTl (mn h) b) then some k else some b := by
            rw [hstep]
            show (if c < (sCost (mn h) r b).getD 0 ∨ (c = (sCost (mn h) r b).getD 0 ∧ sTl (mn h) k < sTl (mn h) b) then some k else some b) = _
            rw [ecb]
            rfl
          have ebl : bL (mn h) r (some b) = nI cb := by
            show cOf (sCost (mn h) r b) = _
            rw [ecb]
            rfl
          have e' : bL (mn h) r (some k) = cOf (some c) := by
            show cOf (sCost (mn h) r k) = _
            rw [e1]
          rw [kif_f (by show ¬ nI b = -1; rw [ka_n1 (by omega)]; exact fun z => z), ebl]
          by_cases g1 : c < cb
          · rw [if_pos (Or.inl g1)] at hstep'
            rw [hstep', e'] at e
            rw [kif_t (by show nI c < nI cb; rw [ka_lt (by omega) (by omega)]; exact g1)]
            exact e
          · rw [kif_f (by show ¬ nI c < nI cb; rw [ka_lt (by omega) (by omega)]; exact g1)]
            by_cases g2 : c = cb
            · rw [kif_t (by show nI c = nI cb; rw [g2]), kV_k T.d0]
              rw [show cOf (some b) = nI b from rfl, M.ahead (by omega) (by omega), kb_ret]
              by_cases g3 : sTl (mn h) k < sTl (mn h) b
              · rw [if_pos (Or.inr ⟨g2, g3⟩)] at hstep'
                rw [hstep', e'] at e
                rw [if_pos g3, kif_f (by decide)]
                exact e
              · rw [if_neg (fun z => z.elim g1 (fun z => g3 z.2))] at hstep'
                rw [hstep', ebl] at e
                rw [if_neg g3, kif_t rfl]
                exact e
            · rw [if_neg (fun z => z.elim g1 (fun z => g2 z.1))] at hstep'
              rw [hstep', ebl] at e
              rw [kif_f (by show ¬ nI c = nI cb; rw [ka_eq (by omega) (by omega)]; exact g2)]
              exact e
theorem MX.plateFor {h : KH} (M : MX h) {r : Nat} (hr : r < mn h 0 16) : f_X10_plateFor 0 (nI r) h = kret (cOf (sPF h r)) h := by
  have MM := M
  obtain ⟨T, ⟨m1, m1'⟩, ⟨m2, -⟩, m3, m4, m5, -⟩ := MM
  unfold f_X10_plateFor sPF
  rcases m5 r hr with ⟨e1, e2⟩ | ⟨e1, e2, e3⟩
  · rw [if_pos e2]
    exact M.pfL hr e1 kF 0 (by omega) (by unfold kF; omega)
  · rw [if_neg (by rw [e2]; decide)]
    have hb79 : X10_plateFor_b79 0 (nI r) (-1) h = kret (kI h 17 r) h := by
      unfold X10_plateFor_b79
      rw [gN_k T.d0 T.r21, gAI_k T.d16 (by rw [T.n16]; omega) (by omega), e1, kif_f (by decide), gN_k T.d0 T.r22, gAI_k T.d17 (by rw [T.n17]; omega) (by omega)]
      rfl
    have hv : kI h 17 r = cOf (if kI h 17 r = -1 then none else some (mn h 17 r)) := by
      rcases e3 with e3 | ⟨q, hq, e3⟩
      · rw [if_pos e3, e3]
        rfl
      · rw [if_neg (by rw [e3, ka_n1 (by omega)]; exact fun z => z), mn_of e3 (by omega), e3]
        rfl
    rw [← hv]
    obtain ⟨f, hf⟩ : ∃ f, kF = f + 1 := ⟨999, rfl⟩
    rw [hf]
    unfold X10_plateFor_L7 X10_plateFor_b7
    rw [gI_k T.d0, m1']
    by_cases hk : mn h 0 8 ≤ 0
    · rw [kif_t (by rw [show (0 : Int32) = nI 0 from rfl, ka_le (by omega) (by omega)]; exact hk), hb79]
    · rw [kif_f (by rw [show (0 : Int32) = nI 0 from rfl, ka_le (by omega) (by omega)]; exact hk), gN_k T.d0 T.r21, gAI_k T.d16 (by rw [T.n16]; omega) (by omega), e1, kif_f (by decide), hb79]
theorem MX.pf_lt {h : KH} (M : MX h) {r p : Nat} (hr : r < mn h 0 16) (e : sPF h r = some p) : p < mn h 0 8 := by
  unfold sPF at e
  rcases M.2.2.2.2.2.1 r hr with ⟨e1, e2⟩ | ⟨e1, e2, e3⟩
  · rw [if_pos e2] at e
    exact (sBest_lt _ _ e).1
  · rw [if_neg (by rw [e2]; decide)] at e
    rcases e3 with e3 | ⟨q, hq, e3⟩
    · rw [if_pos e3] at e
      cases e
    · rw [if_neg (by rw [e3, ka_n1 (by have := M.2.1.1; omega)]; exact fun z => z)] at e
      cases e
      rw [mn_of e3 (by have := M.2.1.1; omega)]
      exact hq
/-! the plate of a reading: the class's -/
def pAd (o : Option Nat) : Option Nat := o.map (fun p => 100 + 8 * p)
def bX (m : Nat → Nat → Nat) (r : Nat) (o : Option Nat) : Int32 := match o with
  | some b => cOf (sCost m r b)
  | none => 0
theorem kCx.pbL {hx hm : KH} (K : kCx hx hm) {r : Nat} {o : List Nat} (hr : r < mn hm 0 16) (ol : o.length = mn hm 0 8) (om : ∀ k, k < o.length → o.getD k 0 < mn hm 0 8) (op : ∀ a b, a < b → b < o.length → sTl (mn hm) (o.getD a 0) < sTl (mn hm) (o.getD b 0)) (oe : ∀ k, k < o.length → kR hx 27 k = some (100 + 8 * o.getD k 0)) (h14 : mn hm 14 r ≤ 6) :
    ∀ (f i : Nat) (b : Option Nat), i ≤ o.length → o.length < i + f → bestOf (mn hm) r (fun q => ∃ k, k < i ∧ q = o.getD k 0) b → ∃ b', X9_plateByText_L7 f 0 (200 + 4 * r) (pAd b) (bX (mn hm) r b) (nI i) hx = kret (pAd b') hx ∧ bestOf (mn hm) r (fun q => ∃ k, k < o.length ∧ q = o.getD k 0) b' := by
  have S := K.1.1
  have hP := K.P
  intro f
  induction f with
  | zero => intro i b h1 h2; omega
  | succ f ih =>
    intro i b h1 h2 h3
    unfold X9_plateByText_L7 X9_plateByText_b7
    rw [gI_k S.d0, hP.1]
    by_cases hi : mn hm 0 8 ≤ i
    · refine ⟨b, ?_, ?_⟩
      · rw [kif_t (by rw [ka_le (by omega) (by omega)]; exact hi)]
      · rw [show o.length = i by omega]
        exact h3
    · have hil : i < o.length := by omega
      have hpl := om i hil
      have eo := oe i hil
      have hcl := fun c (e1 : sCost (mn hm) r (o.getD i 0) = some c) => sCost_le e1
      rw [kif_f (by rw [ka_le (by omega) (by omega)]; exact hi), gN_k S.d0 S.r0_5, gAN_k S.d27 (by rw [S.n27]; omega) (by omega) eo, gN_k S.d0 S.r0_3, gN_k (K.rd hr).1.1 (K.rd hr).2.1.2.1, gN_k (K.2.2.2.2.1.2.1 _ hpl).1.1 (K.2.2.2.2.1.2.1 _ hpl).2.1.2.1, kV_k S.d24, K.cost hr hpl, kb_ret]
      cases e1 : sCost (mn hm) r (o.getD i 0) with
      | none =>
        rw [kif_t (show cOf none = -1 from rfl)]
        unfold X9_plateByText_b65
        rw [nI_1]
        refine ih (i + 1) b (by omega) (by omega) ?_
        cases b with
        | none =>
          rintro q ⟨k, hk, rfl⟩
          by_cases hki : k = i
          · rw [hki]; exact e1
          · exact h3 _ ⟨k, by omega, rfl⟩
        | some b =>
          obtain ⟨⟨k0, hk0, hb0⟩, cb, s2, s3⟩ := h3
          refine ⟨⟨k0, by omega, hb0⟩, cb, s2, ?_⟩
          rintro q c ⟨k, hk, rfl⟩ hc
          by_cases hki : k = i
          · rw [hki, e1] at hc; cases hc
          · exact s3 _ c ⟨k, by omega, rfl⟩ hc
      | some c =>
        have hc := hcl c e1
        rw [kif_f (by show ¬ nI c = -1; rw [ka_n1 (by omega)]; exact fun z => z)]
        cases b with
        | none =>
          show ∃ b', X9_plateByText_L7 f 0 (200 + 4 * r) (some (100 + 8 * o.getD i 0)) (nI c) (nI i + 1) hx = _ ∧ _
          have e' : bX (mn hm) r (some (o.getD i 0)) = nI c := by
            show cOf (sCost (mn hm) r (o.getD i 0)) = _
            rw [e1]
            rfl
          rw [nI_1, ← e']
          refine ih (i + 1) (some (o.getD i 0)) (by omega) (by omega) ⟨⟨i, by omega, rfl⟩, c, e1, ?_⟩
          rintro q c' ⟨k, hk, rfl⟩ hc'
          by_cases hki : k = i
          · rw [hki, e1] at hc'
            cases hc'
            exact Or.inr ⟨rfl, Or.inl (by rw [hki])⟩
          · rw [h3 _ ⟨k, by omega, rfl⟩] at hc'
            cases hc'
        | some b =>
          obtain ⟨⟨k0, hk0, hb0⟩, cb, s2, s3⟩ := h3
          have hcb := sCost_le s2
          have ebx : bX (mn hm) r (some b) = nI cb := by
            show cOf (sCost (mn hm) r b) = _
            rw [s2]
            rfl
          show ∃ b', kif (bX (mn hm) r (some b) ≤ nI c) (X9_plateByText_L7 f 0 (200 + 4 * r) (some (100 + 8 * b)) (bX (mn hm) r (some b)) (nI i + 1) hx) (X9_plateByText_L7 f 0 (200 + 4 * r) (some (100 + 8 * o.getD i 0)) (nI c) (nI i + 1) hx) = _ ∧ _
          have hlt : sTl (mn hm) b < sTl (mn hm) (o.getD i 0) := by
            rw [hb0]
            exact op k0 i hk0 hil
          by_cases g : cb ≤ c
          · rw [kif_t (by rw [ebx, ka_le (by omega) (by omega)]; exact g), nI_1]
            refine ih (i + 1) (some b) (by omega) (by omega) ⟨⟨k0, by omega, hb0⟩, cb, s2, ?_⟩
            rintro q c' ⟨k, hk, rfl⟩ hc'
            by_cases hki : k = i
            · rw [hki] at hc' ⊢
              rw [e1] at hc'
              cases hc'
              by_cases g2 : cb < c
              · exact Or.inl g2
              · exact Or.inr ⟨by omega, Or.inr hlt⟩
            · exact s3 _ c' ⟨k, by omega, rfl⟩ hc'
          · have e' : bX (mn hm) r (some (o.getD i 0)) = nI c := by
              show cOf (sCost (mn hm) r (o.getD i 0)) = _
              rw [e1]
              rfl
            rw [kif_f (by rw [ebx, ka_le (by omega) (by omega)]; exact g), nI_1, ← e']
            refine ih (i + 1) (some (o.getD i 0)) (by omega) (by omega) ⟨⟨i, by omega, rfl⟩, c, e1, ?_⟩
            rintro q c' ⟨k, hk, rfl⟩ hc'
            by_cases hki : k = i
            · rw [hki, e1] at hc'
              cases hc'
              exact Or.inr ⟨rfl, Or.inl (by rw [hki])⟩
            · have h4 := s3 _ c' ⟨k, by omega, rfl⟩ hc'
              left
              omega
theorem kCx.byText {hx hm : KH} (K : kCx hx hm) {r : Nat} (hr : r < mn hm 0 16) : f_X9_plateByText 0 (200 + 4 * r) hx = kret (pAd (sBest (mn hm) r (mn hm 0 8))) hx := by
  obtain ⟨o, ol, om, op, oe⟩ := K.2.2.2.2.2.1
  have hgm : ∀ k, k < o.length → o.getD k 0 ∈ o := fun k hk => by
    rw [List.getD_eq_getElem?_getD, List.getElem?_eq_getElem hk]
    exact List.getElem_mem hk
  have hop : ∀ a b, a < b → b < o.length → sTl (mn hm) (o.getD a 0) < sTl (mn hm) (o.getD b 0) := fun a b hab hb => by
    have := List.pairwise_iff_getElem.1 op a b (by omega) hb hab
    rw [List.getD_eq_getElem?_getD, List.getElem?_eq_getElem (show a < o.length by omega), List.getD_eq_getElem?_getD, List.getElem?_eq_getElem hb]
    exact this
  have h14 : mn hm 14 r ≤ 6 := by
    obtain ⟨-, -, -, -, -, n, n1, n2, n3, n4, n5⟩ := K.rd hr
    rw [mn_of n4 (by omega)]
    exact n2
  obtain ⟨b', e1, e2⟩ := K.pbL hr ol (fun k hk => (om _).1 (hgm k hk)) hop oe h14 kF 0 none (by omega) (by have := K.P.2.2; unfold kF; omega) (by rintro q ⟨k, hk, -⟩; omega)
  have e3 := sBest_of (m := mn hm) (r := r) (P := mn hm 0 8) K.2.2.2.2.1.2.2 (mn hm 0 8) (Nat.le_refl _)
  have e4 := bestOf_uniq (bestOf_sub e2 (S' := fun q => q < mn hm 0 8) (fun q => ⟨by rintro ⟨k, hk, rfl⟩; exact (om _).1 (hgm k hk), fun hq => by
    obtain ⟨k, hk, ek⟩ := List.getElem_of_mem ((om q).2 hq)
    exact ⟨k, hk, by rw [List.getD_eq_getElem?_getD, List.getElem?_eq_getElem hk]; exact ek.symm⟩⟩)) e3
  rw [← e4]
  exact e1
theorem kCx.numberOf {hx hm : KH} (K : kCx hx hm) {o : Option Nat} (ho : ∀ p, o = some p → p < mn hm 0 8) : f_X9_numberOf (pAd o) hx = kret (cOf o) hx := by
  cases o with
  | none => rfl
  | some p =>
    have c := K.2.2.2.2.1.2.1 p (ho p rfl)
    unfold f_X9_numberOf
    show gI hx (100 + 8 * p) 5 0 (fun x1 => X9_numberOf_b12 x1 hx) = _
    rw [gI_k c.1.1, c.2.2.1]
    rfl
theorem RR.plateR {j : Nat} {hx hm : KH} (R : RR j hx hm) {r : Nat} (hr : r < mn hm 0 16) : kR hx (200 + 4 * r) 5 = pAd (sPF hm r) := by
  obtain ⟨a, b, c, d, e, f, g, i⟩ := R.2.2.2.2.2.2.2.2.2.2.2.1.2.1 r hr
  exact i
theorem sPF_thr (h : KH) (v : Int32) (r : Nat) : sPF (sI h 0 35 v) r = sPF h r := sPF_cg (h := h) (h' := sI h 0 35 v) rfl (fun a ha k => by
  rw [kI_sI, if_neg (by omega)]) r
/-- plateOf -/
theorem o_plateOf : OPI (fun a b c h => f_X9_plateOf 0 a h) (fun a b c h => f_X10_plateOf 0 a h) (mp1 3) := by
  intro j hx hm a b c hj R
  have S := R.1.1.X 0
  have T := R.1.2
  have K := (R.X 0).kCx
  have M := R.MX
  have hR := M.2.2.1.1
  rcases ka_below a (mn hm 0 16) (by omega) with ⟨r, hr, rfl, q1, q2⟩ | hq
  · refine op_rd R (cOf (sPF hm r)) ?_ ?_
    · show f_X9_plateOf 0 (nI r) (sX hx 0) = _
      unfold f_X9_plateOf
      rw [kV_k S.d0, K.reading hr q1 q2, kb_ret, gR_k (K.rd hr).1.1, (R.X 0).plateR hr, K.numberOf (fun p e => M.pf_lt hr e), kb_ret]
    · show f_X10_plateOf 0 (nI r) hm = _
      unfold f_X10_plateOf
      rw [kV_k T.d0, M.isReading q1 q2, kb_ret, kif_f (by decide)]
      unfold X10_plateOf_b14
      rw [kV_k T.d0, can_0 T, kb_ret, kif_f (by decide), kV_k (T.thr 0).d0, (M.thr 0).plateFor hr, kb_ret, sPF_thr]
      rfl
  · refine op_no R 3 1 0 rfl (by decide) ?_ ?_
    · show f_X9_plateOf 0 a (sX hx 0) = _
      unfold f_X9_plateOf
      rw [kV_k S.d0, K.readingNo hq]
      rfl
    · show f_X10_plateOf 0 a hm = _
      unfold f_X10_plateOf
      rw [kV_k T.d0, M.isReadingNo hq, kb_ret, kif_t rfl]
      unfold X10_plateOf_b14
      rw [kV_k T.d0, can_n T (show (1 : Int32) ≠ 0 by decide), kb_ret, kif_t rfl]
      rfl
