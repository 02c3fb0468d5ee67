/-! whose readings are whose, as the class keeps it -/
def AS (hx hm : KH) (A : Nat → Option Nat) : Prop := (∀ r, r < mn hm 0 16 → kR hx (200 + 4 * r) 5 = pAd (A r) ∧ ∀ p, A r = some p → p < mn hm 0 8) ∧ ∀ p, p < mn hm 0 8 → ∃ l, LOK hm l ∧ (∀ r, r < mn hm 0 16 → (A r = some p ↔ ∃ k, k < l.length ∧ l.getD k 0 = r)) ∧ PRw hx (104 + 8 * p) l ∧ PBe hx hm (104 + 8 * p) l
theorem nd_len : ∀ (R : Nat) (l : List Nat), l.Nodup → (∀ x, x ∈ l → x < R) → l.length ≤ R := by
  intro R
  induction R with
  | zero =>
    intro l _ h
    cases l with
    | nil => exact Nat.le_refl _
    | cons x l => exact absurd (h x (by simp)) (Nat.not_lt_zero _)
  | succ R ih =>
    intro l hn h
    by_cases hR : R ∈ l
    · have e := List.length_erase_of_mem hR
      have h2 := ih (l.erase R) (hn.erase R) (fun x hx => by
        have h3 := (hn.mem_erase_iff).1 hx
        have := h x h3.2
        have := h3.1
        omega)
      omega
    · have h2 := ih l hn (fun x hx => by
        have := h x hx
        have : x ≠ R := fun z => hR (z ▸ hx)
        omega)
      omega
theorem gD_get {l : List Nat} {k : Nat} (hk : k < l.length) : l.getD k 0 = l[k] := by
  rw [List.getD_eq_getElem?_getD, List.getElem?_eq_getElem hk]
  rfl
theorem gD_mem {l : List Nat} {x : Nat} : x ∈ l ↔ ∃ k, k < l.length ∧ l.getD k 0 = x := by
  constructor
  · intro h
    obtain ⟨k, hk, e⟩ := List.getElem_of_mem h
    exact ⟨k, hk, by rw [gD_get hk]; exact e⟩
  · rintro ⟨k, hk, rfl⟩
    rw [gD_get hk]
    exact List.getElem_mem hk
theorem LOK.nd {hm : KH} {l : List Nat} (L : LOK hm l) : l.Nodup := by
  rw [List.Nodup, List.pairwise_iff_getElem]
  intro i j hi hj hij e
  have h := L.2 i j hij hj
  rw [gD_get hi, gD_get hj, e] at h
  unfold sBef at h
  omega
theorem LOK.len {hm : KH} {l : List Nat} (L : LOK hm l) {r : Nat} (hr : r < mn hm 0 16) (hnr : ∀ k, k < l.length → l.getD k 0 ≠ r) : l.length < mn hm 0 16 := by
  have h := nd_len (mn hm 0 16) (r :: l) (by
    rw [List.nodup_cons]
    exact ⟨fun z => by obtain ⟨k, hk, e⟩ := gD_mem.1 z; exact hnr k hk e, L.nd⟩) (fun x hx => by
    rcases List.mem_cons.1 hx with rfl | hx
    · exact hr
    · obtain ⟨k, hk, rfl⟩ := gD_mem.1 hx
      exact L.1 k hk)
  exact h
theorem LOK.len' {hm : KH} {l : List Nat} (L : LOK hm l) : l.length ≤ mn hm 0 16 := nd_len _ _ L.nd (fun x hx => by
    obtain ⟨k, hk, rfl⟩ := gD_mem.1 hx
    exact L.1 k hk)
theorem sRow.lok {hm : KH} {p : Nat} {l : List Nat} (s : sRow hm p l) : LOK hm l ∧ ∀ r, r < mn hm 0 16 → (sPF hm r = some p ↔ ∃ k, k < l.length ∧ l.getD k 0 = r) := by
  obtain ⟨s1, s2⟩ := s
  refine ⟨⟨fun k hk => ((s1 _).1 (gD_mem.2 ⟨k, hk, rfl⟩)).1, fun i k hik hk => ?_⟩, fun r hr => ?_⟩
  · have := List.pairwise_iff_getElem.1 s2 i k (by omega) hk hik
    rw [gD_get hk, gD_get (by omega)]
    exact this
  · rw [← gD_mem]
    exact ⟨fun z => (s1 r).2 ⟨hr, z⟩, fun z => ((s1 r).1 z).2⟩
theorem LOK.srow {hm : KH} {p : Nat} {l : List Nat} (L : LOK hm l) (e : ∀ r, r < mn hm 0 16 → (sPF hm r = some p ↔ ∃ k, k < l.length ∧ l.getD k 0 = r)) : sRow hm p l := by
  refine ⟨fun r => ⟨fun z => ?_, fun z => ?_⟩, ?_⟩
  · obtain ⟨k, hk, rfl⟩ := gD_mem.1 z
    exact ⟨L.1 k hk, (e _ (L.1 k hk)).2 ⟨k, hk, rfl⟩⟩
  · exact gD_mem.2 ((e r z.1).1 z.2)
  · rw [List.pairwise_iff_getElem]
    intro i j hi hj hij
    have := L.2 i j hij hj
    rw [gD_get hi, gD_get hj] at this
    exact this
theorem RR.AS {j : Nat} {hx hm : KH} (R : RR j hx hm) : AS hx hm (sPF hm) := by
  have M := R.MX
  refine ⟨fun r hr => ⟨R.plateR hr, fun p e => M.pf_lt hr e⟩, fun p hp => ?_⟩
  obtain ⟨l, l1, l2, l3⟩ := R.2.2.2.2.2.2.2.2.2.2.2.2.1 p hp
  obtain ⟨q1, q2⟩ := sRow.lok l1
  have hl := q1.len'
  have hR := M.2.2.1.1
  exact ⟨l, q1, q2, ⟨by omega, l2, fun k hk => by rw [show 104 + 8 * p + 1 = 105 + 8 * p by omega]; exact (l3 k hk).1⟩, fun k hk => by rw [show 104 + 8 * p + 2 = 106 + 8 * p by omega]; exact (l3 k hk).2⟩
/-- back: what is corrected, and what is kept, are the relation's parts -/
theorem RR.zer {j : Nat} {hx hm : KH} (R : RR j hx hm) : cZer hm := R.2.2.2.2.2.2.2.2.2.2.2.1.2.2
theorem cRea_of {hx hm : KH} (K : kCx hx hm) (Z : cZer hm) (C : cCor hx hm) (A : AS hx hm (sPF hm)) : cRea hx hm ∧ cPas hx hm := by
  refine ⟨⟨K.2.2.2.2.2.2.1, fun r hr => ?_, Z⟩, fun p hp => ?_⟩
  · obtain ⟨a, b, c, d, e, f⟩ := K.rd hr
    exact ⟨a, b, c, d, e, f, C r hr, (A.1 r hr).1⟩
  · obtain ⟨l, l1, l2, l3, l4⟩ := A.2 p hp
    refine ⟨l, l1.srow l2, l3.2.1, fun k hk => ⟨?_, ?_⟩⟩
    · have e := l3.2.2 k hk
      rw [show 104 + 8 * p + 1 = 105 + 8 * p by omega] at e
      exact e
    · have e := l4 k hk
      rw [show 104 + 8 * p + 2 = 106 + 8 * p by omega] at e
      exact e
theorem kCx.pst {hx hm : KH} (K : kCx hx hm) {p : Nat} (hp : p < mn hm 0 8) : PSt hx (104 + 8 * p) ∧ aOK (104 + 8 * p) ∧ kd hx (100 + 8 * p) = 5 ∧ kR hx (100 + 8 * p) 3 = some (104 + 8 * p) := by
  obtain ⟨⟨g1, -, -, -, g2, g3, g4, g5, g6⟩, ⟨-, -, -, g7, g8, g9⟩, -⟩ := K.2.2.2.2.1.2.1 p hp
  have hP := K.P.2.2
  refine ⟨⟨g2, ?_, ?_, ?_, ?_, ?_, ?_⟩, Or.inr (by omega), g1, g7⟩
  · rw [show 104 + 8 * p + 1 = 105 + 8 * p by omega]; exact g3
  · rw [show 104 + 8 * p + 1 = 105 + 8 * p by omega]; exact g4
  · rw [show 104 + 8 * p + 2 = 106 + 8 * p by omega]; exact g5
  · rw [show 104 + 8 * p + 2 = 106 + 8 * p by omega]; exact g6
  · rw [show 104 + 8 * p + 1 = 105 + 8 * p by omega]; exact g8
  · rw [show 104 + 8 * p + 2 = 106 + 8 * p by omega]; exact g9
theorem PRw.fr {h h' : KH} {a : Nat} {l : List Nat} {D : Nat → Nat → Prop} (W : PRw h a l) (ag : kAg D h h') (h1 : ¬ D a 2) (h2 : ∀ k, ¬ D (a + 1) k) : PRw h' a l := by
  obtain ⟨w1, w2, w3⟩ := W
  exact ⟨w1, by rw [(ag.1 a 2 h1).1]; exact w2, fun k hk => by rw [(ag.1 (a + 1) k (h2 k)).2.2]; exact w3 k hk⟩
theorem PBe.fr {h h' hm : KH} {a : Nat} {l : List Nat} {D : Nat → Nat → Prop} (W : PBe h hm a l) (ag : kAg D h h') (h2 : ∀ k, ¬ D (a + 2) k) : PBe h' hm a l := fun k hk => by
  rw [(ag.1 (a + 2) k (h2 k)).1]
  exact W k hk
def uP (A : Nat → Option Nat) (r : Nat) (o : Option Nat) : Nat → Option Nat := fun s => if s = r then o else A s
theorem cOf_inj {a b : Option Nat} (ha : ∀ p, a = some p → p < 2147483648) (hb : ∀ p, b = some p → p < 2147483648) : (cOf a = cOf b) = (a = b) := by
  rw [eq_iff_iff]
  constructor
  · intro h
    cases a with
    | none =>
      cases b with
      | none => rfl
      | some q =>
        have h' : (-1 : Int32) = nI q := h
        rw [ka_n1' (hb q rfl)] at h'
        exact h'.elim
    | some p =>
      cases b with
      | none =>
        have h' : nI p = -1 := h
        rw [ka_n1 (ha p rfl)] at h'
        exact h'.elim
      | some q => rw [nI_inj h (ha p rfl) (hb q rfl)]
  · intro h
    rw [h]
def DM (i k : Nat) : Prop := (100 ≤ i ∧ i < 180 ∧ (i % 8 = 0 ∧ k = 2 ∨ i % 8 = 1 ∨ i % 8 = 2)) ∨ (200 ≤ i ∧ i < 440 ∧ i % 4 = 0 ∧ k = 5)
theorem DM.dk : ∀ i k, DM i k → DK i k := fun i k h => h.elim Or.inl (fun z => Or.inr (Or.inl z))
theorem kCx.move {hx hm : KH} {A : Nat → Option Nat} (K : kCx hx hm) (As : AS hx hm A) {r : Nat} (hr : r < mn hm 0 16) {o : Option Nat} (ho : ∀ p, o = some p → p < mn hm 0 8) : ∃ h', f_X9_move 0 (200 + 4 * r) (pAd o) hx = kret () h' ∧ kAg DM hx h' ∧ AS h' hm (uP A r o) := by
  have hP := K.P.2.2
  have hR := K.R.2.2
  have S := K.1.1
  obtain ⟨eA, hAr⟩ := As.1 r hr
  have kr := (K.rd hr).1.1
  unfold f_X9_move
  rw [gR_k kr, eA, K.numberOf hAr, kb_ret, K.numberOf ho, kb_ret]
  by_cases g : A r = o
  · refine ⟨hx, by rw [kif_t (by rw [g])], (kAg.rf hx).sub (fun _ _ z => z.elim), ?_⟩
    have e : uP A r o = A := by
      funext s
      unfold uP
      split
      · rename_i q; rw [q, g]
      · rfl
    rw [e]
    exact As
  · rw [kif_f (by rw [cOf_inj (fun p e => by have := hAr p e; omega) (fun p e => by have := ho p e; omega)]; exact g), gR_k kr, eA]
    -- the way in: h2 where the reading stands in no row
    have hin : ∀ h2 : KH, kCx h2 hm → kAg DM hx h2 → (∀ p, p < mn hm 0 8 → ∃ l, LOK hm l ∧ (∀ s, s < mn hm 0 16 → (s ≠ r ∧ A s = some p ↔ ∃ k, k < l.length ∧ l.getD k 0 = s)) ∧ PRw h2 (104 + 8 * p) l ∧ PBe h2 hm (104 + 8 * p) l) → (∀ s, s < mn hm 0 16 → s ≠ r → kR h2 (200 + 4 * s) 5 = pAd (A s)) → ∃ h', X9_move_b37 0 (200 + 4 * r) (pAd o) h2 = kret () h' ∧ kAg DM hx h' ∧ AS h' hm (uP A r o) := by
      intro h2 K2 ag2 q1 q2
      have ag3 : kAg DM h2 (sR h2 (200 + 4 * r) 5 (pAd o)) := (kAg.R h2 (200 + 4 * r) 5 _).sub (fun j k z => by unfold DM; omega)
      have K3 := K2.fr ag3 DM.dk
      have ag3' := kAg.R h2 (200 + 4 * r) 5 (pAd o)
      unfold X9_move_b37
      rw [pR_k (K2.rd hr).1.1]
      have hRd : ∀ (h3 : KH) (D : Nat → Nat → Prop), kAg D (sR h2 (200 + 4 * r) 5 (pAd o)) h3 → (∀ s, ¬ D (200 + 4 * s) 5) → ∀ s, s < mn hm 0 16 → kR h3 (200 + 4 * s) 5 = pAd (uP A r o s) ∧ ∀ p, uP A r o s = some p → p < mn hm 0 8 := by
        intro h3 D ag nD s hs
        rw [(ag.1 _ _ (nD s)).2.2]
        unfold uP
        by_cases hsr : s = r
        · rw [if_pos hsr, hsr, kR_sR, if_pos ⟨rfl, rfl⟩]
          exact ⟨rfl, ho⟩
        · rw [if_neg hsr, kR_sR, if_neg (by omega)]
          exact ⟨q2 s hs hsr, (As.1 s hs).2⟩
      cases o with
      | none =>
        refine ⟨_, rfl, ag2.trans ag3 (fun j k q => q) (fun j k q => q), hRd _ _ (kAg.rf _) (fun s z => z), fun p hp => ?_⟩
        obtain ⟨l, l1, l2, l3, l4⟩ := q1 p hp
        refine ⟨l, l1, fun s hs => ?_, l3.fr ag3' (by omega) (fun k => by omega), l4.fr ag3' (fun k => by omega)⟩
        rw [← l2 s hs]
        unfold uP
        by_cases hsr : s = r
        · rw [if_pos hsr]
          exact ⟨fun z => (by cases z), fun z => absurd hsr z.1⟩
        · rw [if_neg hsr]
          exact ⟨fun z => ⟨hsr, z⟩, fun z => z.2⟩
      | some p =>
        have hp := ho p rfl
        obtain ⟨P3, hA3, kp, kq⟩ := K3.pst hp
        obtain ⟨l, l1, l2, l3, l4⟩ := q1 p hp
        have hnr : ∀ k, k < l.length → l.getD k 0 ≠ r := fun k hk z => by
          exact ((l2 r hr).2 ⟨k, hk, z⟩).1 rfl
        have hlen := l1.len hr hnr
        obtain ⟨h4, i, i1, e1, e2, e3, e4, e5⟩ := K3.put hA3 P3 (l3.fr ag3' (by omega) (fun k => by omega)) l1 (l4.fr ag3' (fun k => by omega)) hr hnr (by omega)
        have agD : kAg DM (sR h2 (200 + 4 * r) 5 (pAd (some p))) h4 := e2.sub (fun j k z => by unfold DA at z; unfold DM; omega)
        show ∃ h', gN (sR h2 (200 + 4 * r) 5 (some (100 + 8 * p))) (100 + 8 * p) 5 3 (fun a2 => gN (sR h2 (200 + 4 * r) 5 (some (100 + 8 * p))) 0 10 0 (fun a3 => kcallV 4 a2 (sR h2 (200 + 4 * r) 5 (some (100 + 8 * p))) (f_X3_put a2 (200 + 4 * r) a3 (sR h2 (200 + 4 * r) 5 (some (100 + 8 * p)))) (fun _ h2 => X9_move_b58 h2))) = kret () h' ∧ _
        refine ⟨h4, ?_, (ag2.trans ag3 (fun j k q => q) (fun j k q => q)).trans agD (fun j k q => q) (fun j k q => q), hRd _ _ e2 (fun s z => by unfold DA at z; omega), fun q hq => ?_⟩
        · rw [gN_k (h := sR h2 (200 + 4 * r) 5 (some (100 + 8 * p))) kp kq, gN_k (h := sR h2 (200 + 4 * r) 5 (some (100 + 8 * p))) K3.1.1.d0 K3.1.1.r0_0, kV_k (h := sR h2 (200 + 4 * r) 5 (some (100 + 8 * p))) P3.1]
          show kbind (f_X3_put (104 + 8 * p) (200 + 4 * r) 1 (sR h2 (200 + 4 * r) 5 (pAd (some p)))) _ = _
          rw [e1, kb_ret]
          rfl
        · by_cases hqp : q = p
          · subst hqp
            refine ⟨_, e4, fun s hs => ?_, e3, e5⟩
            unfold uP
            by_cases hsr : s = r
            · rw [if_pos hsr]
              exact ⟨fun _ => ⟨i, by rw [ins_len i1]; omega, by rw [ins_at i1, if_neg (by omega), if_pos rfl, hsr]⟩, fun _ => rfl⟩
            · rw [if_neg hsr]
              constructor
              · intro z
                obtain ⟨k, hk, ek⟩ := (l2 s hs).1 ⟨hsr, z⟩
                by_cases hki : k < i
                · exact ⟨k, by rw [ins_len i1]; omega, by rw [ins_at i1, if_pos hki, ek]⟩
                · exact ⟨k + 1, by rw [ins_len i1]; omega, by rw [ins_at i1, if_neg (by omega), if_neg (by omega)]; exact ek⟩
              · rintro ⟨k, hk, ek⟩
                rw [ins_len i1] at hk
                rw [ins_at i1] at ek
                by_cases hki : k < i
                · rw [if_pos hki] at ek
                  exact ((l2 s hs).2 ⟨k, by omega, ek⟩).2
                · rw [if_neg hki] at ek
                  by_cases hki2 : k = i
                  · rw [if_pos hki2] at ek
                    exact absurd ek.symm hsr
                  · rw [if_neg hki2] at ek
                    exact ((l2 s hs).2 ⟨k - 1, by omega, ek⟩).2
          · obtain ⟨l', l1', l2', l3', l4'⟩ := q1 q hq
            refine ⟨l', l1', fun s hs => ?_, (l3'.fr ag3' (by omega) (fun k => by omega)).fr e2 (fun z => by unfold DA at z; omega) (fun k z => by unfold DA at z; omega), (l4'.fr ag3' (fun k => by omega)).fr e2 (fun k z => by unfold DA at z; omega)⟩
            rw [← l2' s hs]
            unfold uP
            by_cases hsr : s = r
            · rw [if_pos hsr]
              exact ⟨fun z => (by cases z; exact absurd rfl hqp), fun z => absurd hsr z.1⟩
            · rw [if_neg hsr]
              exact ⟨fun z => ⟨hsr, z⟩, fun z => z.2⟩
    cases eAr : A r with
    | none =>
      refine hin hx K ((kAg.rf hx).sub (fun _ _ z => z.elim)) (fun p hp => ?_) (fun s hs _ => (As.1 s hs).1)
      obtain ⟨l, l1, l2, l3, l4⟩ := As.2 p hp
      refine ⟨l, l1, fun s hs => ?_, l3, l4⟩
      rw [← l2 s hs]
      exact ⟨fun z => z.2, fun z => ⟨fun w => (by rw [w, eAr] at z; cases z), z⟩⟩
    | some p =>
      have hp := hAr p eAr
      obtain ⟨P3, hA3, kp, kq⟩ := K.pst hp
      obtain ⟨l, l1, l2, l3, l4⟩ := As.2 p hp
      obtain ⟨i, hi, ei⟩ := (l2 r hr).1 eAr
      obtain ⟨h4, e1, e2, e3, e4, e5⟩ := K.take hA3 P3 l3 l1 l4 hi hr ei
      have agD : kAg DM hx h4 := e2.sub (fun j k z => by unfold DA at z; unfold DM; omega)
      show ∃ h', gR hx (200 + 4 * r) 6 5 (fun o3 => kmay o3 (fun a2 => gN hx a2 5 3 (fun a3 => gN hx 0 10 0 (fun a4 => kcallV 4 a3 hx (f_X3_take a3 (200 + 4 * r) a4 hx) (fun _ h3 => X9_move_b37 0 (200 + 4 * r) (pAd o) h3))))) = kret () h' ∧ _
      rw [gR_k kr, eA, eAr]
      show ∃ h', gN hx (100 + 8 * p) 5 3 (fun a3 => gN hx 0 10 0 (fun a4 => kcallV 4 a3 hx (f_X3_take a3 (200 + 4 * r) a4 hx) (fun _ h3 => X9_move_b37 0 (200 + 4 * r) (pAd o) h3))) = kret () h' ∧ _
      rw [gN_k kp kq, gN_k S.d0 S.r0_0, kV_k P3.1, e1, kb_ret]
      refine hin h4 (K.fr agD DM.dk) agD (fun q hq => ?_) (fun s hs _ => by rw [(e2.1 (200 + 4 * s) 5 (fun z => by unfold DA at z; omega)).2.2]; exact (As.1 s hs).1)
      by_cases hqp : q = p
      · subst hqp
        refine ⟨_, e4, fun s hs => ?_, e3, e5⟩
        constructor
        · rintro ⟨z1, z2⟩
          obtain ⟨k, hk, ek⟩ := (l2 s hs).1 z2
          have hki : k ≠ i := fun w => z1 (by rw [← ek, w, ei])
          by_cases hlt : k < i
          · exact ⟨k, by rw [era_len hi]; omega, by rw [era_at, if_pos hlt, ek]⟩
          · exact ⟨k - 1, by rw [era_len hi]; omega, by rw [era_at, if_neg (by omega), show k - 1 + 1 = k by omega, ek]⟩
        · rintro ⟨k, hk, ek⟩
          rw [era_len hi] at hk
          rw [era_at] at ek
          have hex : ∃ k', k' < l.length ∧ k' ≠ i ∧ l.getD k' 0 = s := by
            by_cases hlt : k < i
            · rw [if_pos hlt] at ek
              exact ⟨k, by omega, by omega, ek⟩
            · rw [if_neg hlt] at ek
              exact ⟨k + 1, by omega, by omega, ek⟩
          obtain ⟨k', hk', hne, ek'⟩ := hex
          refine ⟨fun w => ?_, (l2 s hs).2 ⟨k', hk', ek'⟩⟩
          have h7 : l.getD k' 0 = l.getD i 0 := by rw [ek', ei, w]
          rcases Nat.lt_or_gt_of_ne hne with hlt | hlt
          · have := l1.2 k' i hlt hi
            rw [h7] at this
            unfold sBef at this
            omega
          · have := l1.2 i k' hlt hk'
            rw [h7] at this
            unfold sBef at this
            omega
      · obtain ⟨l', l1', l2', l3', l4'⟩ := As.2 q hq
        refine ⟨l', l1', fun s hs => ?_, l3'.fr e2 (fun z => by unfold DA at z; omega) (fun k z => by unfold DA at z; omega), l4'.fr e2 (fun k z => by unfold DA at z; omega)⟩
        rw [← l2' s hs]
        exact ⟨fun z => z.2, fun z => ⟨fun w => (by rw [w, eAr] at z; cases z; exact hqp rfl), z⟩⟩
