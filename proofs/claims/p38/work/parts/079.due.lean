/-! what is due -/
theorem row_uniq {g : KH} {o : Option Nat} {l l' : List Nat} (h : sRw g o l) (h' : sRw g o l') : l = l' := by
  obtain ⟨L, m⟩ := h
  obtain ⟨L', m'⟩ := h'
  have hirr : ∀ x, ¬ sBef (mn g) x x := fun x z => by unfold sBef at z; omega
  have inj : ∀ {l : List Nat}, LOK g l → ∀ i k, i < l.length → k < l.length → l.getD i 0 = l.getD k 0 → i = k := fun {l} L i k q1 q2 e => by
    rcases Nat.lt_trichotomy i k with q | q | q
    · have := L.2 i k q q2
      rw [e] at this
      exact absurd this (hirr _)
    · exact q
    · have := L.2 k i q q1
      rw [e] at this
      exact absurd this (hirr _)
  have key : ∀ k, (k < l.length ↔ k < l'.length) ∧ (k < l.length → l.getD k 0 = l'.getD k 0) := by
    intro k
    induction k using Nat.strongRecOn with
    | ind k ih =>
      have half : ∀ {l l' : List Nat}, LOK g l → LOK g l' → (∀ r, r < mn g 0 16 → (sPF g r = o ↔ ∃ k, k < l.length ∧ l.getD k 0 = r)) → (∀ r, r < mn g 0 16 → (sPF g r = o ↔ ∃ k, k < l'.length ∧ l'.getD k 0 = r)) → (∀ i, i < k → (i < l.length ↔ i < l'.length) ∧ (i < l.length → l.getD i 0 = l'.getD i 0)) → k < l.length → ∃ k', k ≤ k' ∧ k' < l'.length ∧ l'.getD k' 0 = l.getD k 0 := by
        intro l l' L L' m m' ih hk
        obtain ⟨k', q1, q2⟩ := (m' _ (L.1 k hk)).1 ((m _ (L.1 k hk)).2 ⟨k, hk, rfl⟩)
        refine ⟨k', ?_, q1, q2⟩
        by_cases q : k ≤ k'
        · exact q
        · exfalso
          obtain ⟨i1, i2⟩ := ih k' (by omega)
          have := i2 (by omega)
          have := inj L k' k (by omega) hk (by rw [this, q2])
          omega
      have ih' : ∀ i, i < k → (i < l'.length ↔ i < l.length) ∧ (i < l'.length → l'.getD i 0 = l.getD i 0) := fun i hi => ⟨(ih i hi).1.symm, fun z => ((ih i hi).2 ((ih i hi).1.2 z)).symm⟩
      refine ⟨⟨fun hk => ?_, fun hk => ?_⟩, fun hk => ?_⟩
      · obtain ⟨k', q1, q2, -⟩ := half L L' m m' ih hk
        omega
      · obtain ⟨k', q1, q2, -⟩ := half L' L m' m ih' hk
        omega
      · obtain ⟨k', q1, q2, q3⟩ := half L L' m m' ih hk
        have hk' : k < l'.length := by omega
        obtain ⟨k'', w1, w2, w3⟩ := half L' L m' m ih' hk'
        by_cases e1 : k' = k
        · rw [e1] at q3
          exact q3.symm
        · by_cases e2 : k'' = k
          · rw [e2] at w3
            exact w3
          · have z1 := L'.2 k k' (by omega) q2
            have z2 := L.2 k k'' (by omega) w2
            rw [q3] at z1
            rw [w3] at z2
            exact absurd (sBef_tr z1 z2) (hirr _)
  have hlen : l.length = l'.length := by
    rcases Nat.lt_trichotomy l.length l'.length with q | q | q
    · exact absurd ((key l.length).1.2 q) (Nat.lt_irrefl _)
    · exact q
    · exact absurd ((key l'.length).1.1 q) (Nat.lt_irrefl _)
  apply List.ext_getElem hlen
  intro k h1 h2
  rw [← gD_get h1, ← gD_get h2]
  exact (key k).2 h1
noncomputable def rwL (g : KH) (o : Option Nat) : List Nat := Classical.choose (sRw_ex g o)
theorem rwL_s (g : KH) (o : Option Nat) : sRw g o (rwL g o) := Classical.choose_spec (sRw_ex g o)
def duF (g : KH) (n p : Nat) (l : List Nat) (d : Int32) (k : Nat) : Nat := if sHold g p (mn g 13 (l.getD k 0)) n = d then tolF g l p k else 0
def duS (g : KH) (n p : Nat) (l : List Nat) (d : Int32) : Nat → Nat
  | 0 => 0
  | k + 1 => duS g n p l d k + if sBegAt g l k = true then duF g n p l d k else 0
noncomputable def duT (g : KH) (n : Nat) (d : Int32) : Nat → Nat
  | 0 => 0
  | p + 1 => duT g n d p + duS g n p (rwL g (some p)) d (rwL g (some p)).length
section KDUE
variable {hx g : KH} {a : Nat} {l : List Nat} {n : Nat} {d : Int32}
theorem x9_dueL {j p : Nat} (R : RR j hx g) (N : NX g) (hp : p < mn g 0 8) (P : PSt hx a) (W : PRw hx a l) (L : LOK g l) (B : PBe hx g a l) (hd : ∀ m, m < 2147483648 → f_X4_driverIn (100 + 8 * p) (nI m) hx = kret (sHold g p m n) hx) : ∀ (f i : Nat), i ≤ l.length → l.length < i + f → X9_dueFor_L6 f 0 (100 + 8 * p) a d (nI (duS g n p l d i)) (nI i) hx = kret (nI (duS g n p l d l.length)) hx := by
  have P' := P
  obtain ⟨p1, p2, p3, p4, p5, p6, p7⟩ := P'
  have w1 := W.1
  have K := R.kCx
  intro f
  induction f with
  | zero => intro i h1 h2; omega
  | succ f ih =>
    intro i h1 h2
    unfold X9_dueFor_L6 X9_dueFor_b6
    rw [gI_k p1, W.2.1]
    by_cases hi : l.length ≤ i
    · rw [kif_t (by rw [ka_le (by omega) (by omega)]; exact hi), show i = l.length by omega]
    · have hil : i < l.length := by omega
      have r1 := L.1 i hil
      have e := ih (i + 1) (by omega) (by omega)
      have hs : duS g n p l d (i + 1) = duS g n p l d i + if sBegAt g l i = true then duF g n p l d i else 0 := rfl
      rw [kif_f (by rw [ka_le (by omega) (by omega)]; exact hi), gN_k p1 p7, gAI_k p4 (by omega) (by omega), B i hil]
      unfold X9_dueFor_b56
      by_cases hb : sBegAt g l i = true
      · rw [if_pos hb] at hs
        obtain ⟨m1, m2⟩ := K.minute r1
        rw [if_pos hb, kif_f (by decide), gN_k p1 p6, gAN_k p2 (by omega) (by omega) (W.2.2 i hil), gI_k (K.rd r1).1.1, m2, kV_k (R.pl hp).1.1, hd _ (by omega), kb_ret]
        unfold duF at hs
        by_cases hd2 : sHold g p (mn g 13 (l.getD i 0)) n = d
        · rw [if_pos hd2] at hs
          rw [kif_t hd2, kV_k R.1.1.d0, x9_toll R N hp P W L B hil, kb_ret, ka_add, nI_1, ← hs]
          exact e
        · rw [if_neg hd2] at hs
          rw [kif_f hd2, nI_1, show duS g n p l d i = duS g n p l d (i + 1) from hs.symm]
          exact e
      · rw [if_neg hb] at hs
        rw [if_neg hb, kif_t rfl, nI_1, show duS g n p l d i = duS g n p l d (i + 1) from hs.symm]
        exact e
theorem x9_dueFor {j p : Nat} (R : RR j hx g) (N : NX g) (hp : p < mn g 0 8) (P : PSt hx a) (W : PRw hx a l) (L : LOK g l) (B : PBe hx g a l) (hd : ∀ m, m < 2147483648 → f_X4_driverIn (100 + 8 * p) (nI m) hx = kret (sHold g p m n) hx) : f_X9_dueFor 0 (100 + 8 * p) a d hx = kret (nI (duS g n p l d l.length)) hx :=
  x9_dueL R N hp P W L B hd kF 0 (by omega) (by have := W.1; unfold kF; omega)
theorem x9_keptL {j : Nat} (R : RR j hx g) (N : NX g) (hd : ∀ p, p < mn g 0 8 → ∀ m, m < 2147483648 → f_X4_driverIn (100 + 8 * p) (nI m) hx = kret (sHold g p m n) hx) : ∀ (f p : Nat), p ≤ mn g 0 8 → mn g 0 8 < p + f → X9_dueByKept_L4 f 0 d (nI (duT g n d p)) (nI p) hx = kret (nI (duT g n d (mn g 0 8))) hx := by
  have S := R.1.1
  have K := R.kCx
  have hP := R.cnt
  intro f
  induction f with
  | zero => intro i h1 h2; omega
  | succ f ih =>
    intro p h1 h2
    unfold X9_dueByKept_L4 X9_dueByKept_b4
    rw [gI_k S.d0, hP.1]
    by_cases hi : mn g 0 8 ≤ p
    · rw [kif_t (by rw [ka_le (by omega) (by omega)]; exact hi), show p = mn g 0 8 by omega]
    · have hp : p < mn g 0 8 := by omega
      obtain ⟨P, hA, kp, kq⟩ := K.pst hp
      obtain ⟨l, l1, l2, l3, l4⟩ := R.AS.2 p hp
      have e := ih (p + 1) (by omega) (by omega)
      have hs : duT g n d (p + 1) = duT g n d p + duS g n p (rwL g (some p)) d (rwL g (some p)).length := rfl
      rw [← row_uniq (show sRw g (some p) l from ⟨l1, l2⟩) (rwL_s g (some p))] at hs
      rw [kif_f (by rw [ka_le (by omega) (by omega)]; exact hi), gN_k S.d0 S.r0_4, gAN_k S.d26 (by rw [S.n26]; omega) (by omega) (R.pl hp).2.1.1, gN_k kp kq, kV_k S.d0, x9_dueFor R N hp P l3 l1 l4 (hd p hp), kb_ret, ka_add, nI_1, ← hs]
      exact e
theorem x9_kept {j : Nat} (R : RR j hx g) (N : NX g) (hd : ∀ p, p < mn g 0 8 → ∀ m, m < 2147483648 → f_X4_driverIn (100 + 8 * p) (nI m) hx = kret (sHold g p m n) hx) : f_X9_dueByKept 0 d hx = kret (nI (duT g n d (mn g 0 8))) hx :=
  x9_keptL R N hd kF 0 (by omega) (by have := R.P; unfold kF; omega)
end KDUE
/-! the model's dues -/
section KDUEM
variable {g : KH} {n : Nat} {d : Int32}
theorem nxtB {p : Nat} {l : List Nat} : ∀ (m k : Nat), k ≤ l.length → l.length ≤ k + m → ∃ k', k ≤ k' ∧ k' ≤ l.length ∧ (k' = l.length ∨ sBegAt g l k' = true) ∧ cB g l k' = cB g l k ∧ duS g n p l d k' = duS g n p l d k := by
  intro m
  induction m with
  | zero => intro k h1 h2; exact ⟨k, Nat.le_refl _, h1, Or.inl (by omega), rfl, rfl⟩
  | succ m ih =>
    intro k h1 h2
    by_cases hk : k = l.length
    · exact ⟨k, Nat.le_refl _, h1, Or.inl hk, rfl, rfl⟩
    · by_cases hb : sBegAt g l k = true
      · exact ⟨k, Nat.le_refl _, h1, Or.inr hb, rfl, rfl⟩
      · obtain ⟨k', q1, q2, q3, q4, q5⟩ := ih (k + 1) (by omega) (by omega)
        refine ⟨k', by omega, q2, q3, ?_, ?_⟩
        · rw [q4]
          show cB g l k + _ = _
          rw [if_neg hb]
          rfl
        · rw [q5]
          show duS g n p l d k + _ = _
          rw [if_neg hb]
          rfl
theorem NX.dueI {h : KH} {p : Nat} {l : List Nat} (N : NX g) (hc : kI g 0 12 = nI n) (hn : n ≤ 700) (hh : ∀ k, k < n → (∃ q, q < 10 ∧ kI g 9 k = nI q) ∧ ∃ s, s ≤ 50000 ∧ kI g 11 k = nI s) (ag : kAg EJ g h) (hI : ∀ r, r < mn g 0 16 → kI h 18 r = cOf (sPF g r)) (hl : sRw g (some p) l) (hp : p < mn g 0 8) (J : JT g h l) (rc : Nat → Int32 → Int32 → Int32 → KH → KO Int32) (s0 : Nat) : ∀ (f k : Nat), k ≤ l.length → (k = l.length ∨ sBegAt g l k = true) → l.length < k + f → X10_dueFrom_L28 rc f 0 d (nI (s0 + duS g n p l d k)) (nI p) (nI (cB g l l.length)) (nI (cB g l k)) h = rc 0 d (nI (s0 + duS g n p l d l.length)) (nI (p + 1)) h := by
  have T := (N.mx ag).1
  have hR := N.1.2.2.1.1
  have hP := N.1.2.1.1
  have L := hl.1
  have hlen := L.len'
  have hcl := cB_le g l l.length
  have e : ∀ a k, a ≠ 18 → a ≠ 19 → ¬ (a = 0 ∧ k = 35) → kI h a k = kI g a k := fun a k => NX.e ag a k
  intro f
  induction f with
  | zero => intro k h1 _ h2; omega
  | succ f ih =>
    intro k h1 hkb h2
    have hck := cB_le g l k
    unfold X10_dueFrom_L28 X10_dueFrom_b28
    by_cases hk : k = l.length
    · rw [hk, kif_t (by rw [ka_le (by omega) (by omega)]; exact Nat.le_refl _), nI_1]
    · have hkl : k < l.length := by omega
      have hb := hkb.resolve_left hk
      have hs : cB g l (k + 1) = cB g l k + if sBegAt g l k = true then 1 else 0 := rfl
      rw [if_pos hb] at hs
      have hds : duS g n p l d (k + 1) = duS g n p l d k + if sBegAt g l k = true then duF g n p l d k else 0 := rfl
      rw [if_pos hb] at hds
      have hm1 := cB_mono g l (show k + 1 ≤ l.length by omega)
      obtain ⟨k', w1, w2, w3, w4, w5⟩ := nxtB (g := g) (n := n) (d := d) (p := p) (l := l) l.length (k + 1) (by omega) (by omega)
      have e2 := ih k' w2 w3 (by omega)
      rw [w4, w5, hs, hds] at e2
      have r1 := L.1 k hkl
      obtain ⟨-, ⟨m1, m3⟩, -⟩ := N.1.2.2.2.2.1 _ r1
      rw [kif_f (by rw [ka_le (by omega) (by omega)]; omega), gN_k T.d0 T.r18, kV_k T.d0, N.firstOf ag hI hl (by omega) J hkl hb, kb_ret, gAI_k T.d13 (by rw [T.n13]; omega) (by omega), e 13 _ (by omega) (by omega) (by omega), m3, kV_k T.d0]
      rw [tm_holderAt (n := n) T (by rw [e 0 12 (by omega) (by omega) (by omega)]; exact hc) (by omega) (fun k hk => by rw [e 9 k (by omega) (by omega) (by omega), e 11 k (by omega) (by omega) (by omega)]; exact hh k hk) (by omega) (by omega), kb_ret]
      rw [sHold_cg (h := g) (h' := h) (fun k => e 9 k (by omega) (by omega) (by omega)) (fun k => e 10 k (by omega) (by omega) (by omega)) (fun k => e 11 k (by omega) (by omega) (by omega))]
      unfold X10_dueFrom_b68
      unfold duF at e2
      by_cases hd2 : sHold g p (mn g 13 (l.getD k 0)) n = d
      · rw [if_pos hd2] at e2
        rw [kif_t hd2, kV_k T.d0, N.tollOf ag hI hl hp J hkl hb, kb_ret, ka_add, nI_1, Nat.add_assoc]
        exact e2
      · rw [if_neg hd2] at e2
        rw [kif_f hd2, nI_1]
        show X10_dueFrom_L28 rc f 0 d (nI _ + nI 0) _ _ _ h = _
        rw [ka_add, Nat.add_assoc]
        exact e2
theorem NX.dueL (N : NX g) (hc : kI g 0 12 = nI n) (hn : n ≤ 700) (hh : ∀ k, k < n → (∃ q, q < 10 ∧ kI g 9 k = nI q) ∧ ∃ s, s ≤ 50000 ∧ kI g 11 k = nI s) : ∀ (f p : Nat) (h : KH), kAg EJ g h → (∀ r, r < mn g 0 16 → kI h 18 r = cOf (sPF g r)) → p ≤ mn g 0 8 → mn g 0 8 < p + f → ∃ h', X10_dueFrom_L10 f 0 d (nI (duT g n d p)) (nI p) h = kret (nI (duT g n d (mn g 0 8))) h' ∧ kAg EJ g h' ∧ kAg (fun a _ => a = 19) h h' := by
  have hP := N.1.2.1
  have hR := N.1.2.2.1.1
  intro f
  induction f with
  | zero => intro p h _ _ h1 h2; omega
  | succ f ih =>
    intro p h ag hI h1 h2
    have T := (N.mx ag).1
    unfold X10_dueFrom_L10 X10_dueFrom_b10
    rw [gI_k T.d0, NX.e ag 0 8 (by omega) (by omega) (by omega), hP.2]
    by_cases hi : mn g 0 8 ≤ p
    · exact ⟨h, by rw [kif_t (by rw [ka_le (by omega) (by omega)]; exact hi), show p = mn g 0 8 by omega], ag, (kAg.rf h).sub (fun _ _ z => z.elim)⟩
    · have hp : p < mn g 0 8 := by omega
      obtain ⟨h', e1, e2, e3, e4, e5⟩ := N.joinsAgain (o := some p) (rwL_s g (some p)) (fun q e => by cases e; omega) ag hI
      have hlen := (rwL_s g (some p)).1.len'
      have ein := N.dueI (d := d) hc hn hh e2 e3 (rwL_s g (some p)) hp e4 (X10_dueFrom_L10 f) (duT g n d p) kF 0 (Nat.zero_le _) (Or.inr rfl) (by unfold kF; omega)
      obtain ⟨h'', f1, f2, f3⟩ := ih (p + 1) h' e2 e3 (by omega) (by omega)
      refine ⟨h'', ?_, f2, e5.trans f3 (fun a k q => q) (fun a k q => q)⟩
      rw [kif_f (by rw [ka_le (by omega) (by omega)]; exact hi), kV_k T.d0, show f_X10_joinsAgain 0 (nI p) h = _ from e1, kb_ret]
      exact ein.trans f1
theorem NX.dueFrom {h : KH} (N : NX g) (hc : kI g 0 12 = nI n) (hn : n ≤ 700) (hh : ∀ k, k < n → (∃ q, q < 10 ∧ kI g 9 k = nI q) ∧ ∃ s, s ≤ 50000 ∧ kI g 11 k = nI s) (ag : kAg EJ g h) : ∃ h', f_X10_dueFrom 0 d h = kret (nI (duT g n d (mn g 0 8))) h' ∧ kAg EJ g h' ∧ kAg (fun a _ => a = 18 ∨ a = 19) h h' := by
  have hP := N.1.2.1.1
  obtain ⟨h', e1, e2, e3, e4, e5⟩ := N.joins (o := none) (rwL_s g none) (fun q e => by cases e) ag
  obtain ⟨h'', f1, f2, f3⟩ := N.dueL (d := d) hc hn hh kF 0 h' e2 e3 (by omega) (by unfold kF; omega)
  refine ⟨h'', ?_, f2, e5.trans f3 (fun a k q => q) (fun a k q z => q (Or.inr z))⟩
  unfold f_X10_dueFrom
  rw [kV_k (N.mx ag).1.d0, show f_X10_joins 0 (-1) h = _ from e1, kb_ret]
  exact f1
end KDUEM
