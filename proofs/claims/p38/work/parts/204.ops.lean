/-! the calls that change something: what the class answers, and the model's cells behind it -/
theorem opk_yes {τ : Type} {N : Nat} {fX fM : Int32 → Int32 → Int32 → KH → KO τ} {mp : Nat → Option Int32} {j j' : Nat} {hx hm : KH} {a b c : Int32} (ho : OPK N fX fM mp j j' hx hm a b c) {v : τ} {hm1 : KH} (e : fM a b c hm = kret v hm1) (h0 : kI hm1 0 35 = 0) : ∃ h1, fX a b c (sX hx N) = kret v h1 ∧ RR j' h1 hm1 := by
  rcases ho with ⟨v', h1, hm', e1, e2, e3, R1⟩ | ⟨e', kx, bv, h1, hm', e1, e2, e3, e4, e5, R1⟩
  · rw [e] at e2
    cases e2
    exact ⟨h1, e1, R1⟩
  · rw [e] at e4
    cases e4
    exact absurd (e5.symm.trans h0) e3
theorem opk_no {τ : Type} {N : Nat} {fX fM : Int32 → Int32 → Int32 → KH → KO τ} {mp : Nat → Option Int32} {j j' : Nat} {hx hm : KH} {a b c : Int32} (ho : OPK N fX fM mp j j' hx hm a b c) {bv : τ} {hm1 : KH} {kx : Int32} (e : fM a b c hm = kret bv hm1) (h0 : kI hm1 0 35 = kx) (hk : kx ≠ 0) : ∃ e' h1, fX a b c (sX hx N) = kthrow e' h1 ∧ mp e' = some kx ∧ RR j' h1 hm1 := by
  rcases ho with ⟨v', h1, hm', e1, e2, e3, R1⟩ | ⟨e', kx', bv', h1, hm', e1, e2, e3, e4, e5, R1⟩
  · rw [e] at e2
    cases e2
    exact absurd (h0.symm.trans e3) hk
  · rw [e] at e4
    cases e4
    rw [h0] at e5
    subst e5
    exact ⟨e', h1, e1, e2, R1⟩
theorem pn_yes {w m : KH → KO Int32} (hp : PN RR w m) {j : Nat} {hx hm : KH} (hj : j < 512) (R : RR j hx hm) {v : Int32} {hm1 : KH} (e : m hm = kret v hm1) : ∃ h1, w (sX hx 0) = kret v h1 ∧ RR (j + 1) h1 hm1 := by
  obtain ⟨bv, h1, hm', e1, e2, R1⟩ := hp j hx hm hj R
  rw [e] at e2
  cases e2
  exact ⟨h1, e1, R1⟩
theorem z35 (hm : KH) (v : Int32) : kI (sI hm 0 35 v) 0 35 = v := by rw [kI_sI, if_pos ⟨rfl, rfl⟩]
/-- the text that is spelled -/
theorem RR.txt {j : Nat} {hx hm : KH} (R : RR j hx hm) : mn hm 0 5 ≤ 6 ∧ kI hm 0 5 = nI (mn hm 0 5) ∧ kI hx 22 1 = nI (mn hm 0 5) ∧ ∀ k, k < mn hm 0 5 → mn hm 4 k < 15 ∧ kI hm 4 k = nI (mn hm 4 k) ∧ kI hx 23 k = nI (mn hm 4 k) := by
  obtain ⟨n, hn, e1, e2, e3⟩ := R.2.2.2.2.2.2.1
  have hnn := mn_of e2 (by omega)
  rw [hnn]
  refine ⟨hn, e2, e1, fun k hk => ?_⟩
  obtain ⟨v, v1, v2, v3⟩ := e3 k hk
  rw [mn_of v3 (by omega)]
  exact ⟨v1, v3, v2⟩
theorem kChs_ex (g : Nat → Int32) : ∀ n, ∃ c, kChs g n = nI c ∧ n ≤ c ∧ c ≤ 2 * n := by
  intro n
  induction n with
  | zero => exact ⟨0, rfl, Nat.le_refl _, Nat.le_refl _⟩
  | succ n ih =>
    obtain ⟨c, c1, c2, c3⟩ := ih
    obtain ⟨l, l1, l2⟩ := kLen_nat (g n)
    refine ⟨c + l, ?_, by omega, by omega⟩
    show kChs g n + kLen (g n) = _
    rw [c1, l2, ka_add]
section OPS
variable {j : Nat} {hx hm : KH}
theorem m_pass (T : kSm hm) {n k : Nat} (e0 : kI hm 0 0 = nI n) (h1 : 1 ≤ k) (h2 : k ≤ 2000) (h3 : n + k ≤ 50000) : f_X10_pass 0 (nI k) hm = kret (nI (n + k)) (sI (sI hm 0 35 0) 0 0 (nI (n + k))) := by
  have q1 : ¬ nI k < 1 := by rw [show (1 : Int32) = nI 1 from rfl, ka_lt (by omega) (by omega)]; omega
  have q2 : ¬ (2000 : Int32) < nI k := by rw [show (2000 : Int32) = nI 2000 from rfl, ka_lt (by omega) (by omega)]; omega
  unfold f_X10_pass
  rw [in_t q1 q2, kb_ret, kif_f (by decide), gI_k T.d0, e0, ka_add, kif_t (by rw [show (50000 : Int32) = nI 50000 from rfl, ka_le (by omega) (by omega)]; exact h3)]
  unfold X10_pass_b32
  rw [kV_k T.d0, can_0 T, kb_ret, kif_f (by decide), gI_k (T.thr 0).d0, show kI (sI hm 0 35 0) 0 0 = nI n from e0, ka_add, pI_k (T.thr 0).d0, gI_k (h := sI (sI hm 0 35 0) 0 0 (nI (n + k))) (T.thr 0).d0, kI_sI, if_pos ⟨rfl, rfl⟩]
theorem op_pass (R : RR j hx hm) (hj : j < 512) {k : Nat} (h1 : 1 ≤ k) (h2 : k ≤ 2000) (h3 : mn hm 0 0 + k ≤ 50000) : ∃ g, f_zX9_pass 0 (nI k) (sX hx 0) = kret (nI (mn hm 0 0 + k)) g ∧ RR (j + 1) g (sI (sI hm 0 35 0) 0 0 (nI (mn hm 0 0 + k))) ∧ FL hx g ∧ FK (sX hx 0) g := by
  obtain ⟨g, e, R1⟩ := opk_yes (o_pass j hx hm (nI k) 0 0 hj R) (m_pass R.1.2 R.min.2.1 h1 h2 h3) (by rw [kI_sI, if_neg (by omega), z35])
  exact ⟨g, zr_f_zX9_pass _ _ _ _ _ e, R1, (FL.X hx 0).trans (fr_f_X9_pass _ _ _ _ _ e), fk_f_X9_pass _ _ _ _ _ e⟩
theorem op_setPause (R : RR j hx hm) (hj : j < 512) {k : Nat} (h2 : k ≤ 500) : ∃ g, f_zX9_setPause 0 (nI k) (sX hx 0) = kret (kI hm 0 1) g ∧ RR (j + 1) g (sI (sI hm 0 35 0) 0 1 (nI k)) ∧ FL hx g ∧ FK (sX hx 0) g := by
  have T := R.1.2
  obtain ⟨q1, (q2 : ¬ (500 : Int32) < nI k)⟩ := upto_in (p := k) (n := 500) h2 (by omega)
  have em : f_X10_setPause 0 (nI k) hm = kret (kI hm 0 1) (sI (sI hm 0 35 0) 0 1 (nI k)) := by
    unfold f_X10_setPause
    rw [in_t q1 q2, kb_ret, kif_f (by decide)]
    unfold X10_setPause_b17
    rw [kV_k T.d0, can_0 T, kb_ret, kif_f (by decide), gI_k (T.thr 0).d0, pI_k (T.thr 0).d0]
    rfl
  obtain ⟨g, e, R1⟩ := opk_yes (o_setPause j hx hm (nI k) 0 0 hj R) em (by rw [kI_sI, if_neg (by omega), z35])
  exact ⟨g, zr_f_zX9_setPause _ _ _ _ _ e, R1, (FL.X hx 0).trans (fr_f_X9_setPause _ _ _ _ _ e), fk_f_X9_setPause _ _ _ _ _ e⟩
theorem op_setRate (R : RR j hx hm) (hj : j < 512) {i k : Nat} (h1 : i < 4) (h2 : k ≤ 50) : ∃ g, f_zX9_setRate 0 (nI i) (nI k) (sX hx 0) = kret (kI hm 3 i) g ∧ RR (j + 1) g (sI (sI hm 0 35 0) 3 i (nI k)) ∧ FL hx g ∧ FK (sX hx 0) g := by
  have T := R.1.2
  obtain ⟨q1, (q2 : ¬ (3 : Int32) < nI i)⟩ := upto_in (p := i) (n := 3) (by omega) (by omega)
  obtain ⟨q3, (q4 : ¬ (50 : Int32) < nI k)⟩ := upto_in (p := k) (n := 50) h2 (by omega)
  have em : f_X10_setRate 0 (nI i) (nI k) hm = kret (kI hm 3 i) (sI (sI hm 0 35 0) 3 i (nI k)) := by
    unfold f_X10_setRate
    rw [in_t q1 q2, kb_ret, kif_f (by decide), in_t q3 q4, kb_ret, kif_f (by decide)]
    unfold X10_setRate_b25
    rw [kV_k T.d0, can_0 T, kb_ret, kif_f (by decide), gN_k (T.thr 0).d0 (T.thr 0).r4, gAI_k (T.thr 0).d3 (by rw [(T.thr 0).n3]; omega) (by omega), gN_k (T.thr 0).d0 (T.thr 0).r4, pAI_k (T.thr 0).d3 (by rw [(T.thr 0).n3]; omega) (by omega), kI_sI, if_neg (by omega)]
  obtain ⟨g, e, R1⟩ := opk_yes (o_setRate j hx hm (nI i) (nI k) 0 hj R) em (by rw [kI_sI, if_neg (by omega), z35])
  exact ⟨g, zr_f_zX9_setRate _ _ _ _ _ _ e, R1, (FL.X hx 0).trans (fr_f_X9_setRate _ _ _ _ _ _ e), fk_f_X9_setRate _ _ _ _ _ _ e⟩
theorem op_clear (R : RR j hx hm) (hj : j < 512) : ∃ g, f_X9_clearSpelled 0 (sX hx 0) = kret (nI (mn hm 0 5)) g ∧ RR (j + 1) g (sI (sI hm 0 35 0) 0 5 0) ∧ FL hx g ∧ FK (sX hx 0) g := by
  have T := R.1.2
  have em : f_X10_clearSpelled 0 hm = kret (nI (mn hm 0 5)) (sI (sI hm 0 35 0) 0 5 0) := by
    unfold f_X10_clearSpelled
    rw [pI_k T.d0, gI_k (T.thr 0).d0, show kI (sI hm 0 35 0) 0 5 = nI (mn hm 0 5) from R.txt.2.1, pI_k (T.thr 0).d0]
  obtain ⟨g, e, R1⟩ := pn_yes pn_clearSpelled hj R em
  exact ⟨g, e, R1, (FL.X hx 0).trans (fr_f_X9_clearSpelled _ _ _ _ e), fk_f_X9_clearSpelled _ _ _ _ e⟩
theorem op_mirror (R : RR j hx hm) (hj : j < 512) : ∃ g, f_X9_mirror 0 (sX hx 0) = kret (nI (mn hm 0 5)) g ∧ RR (j + 1) g (sA (sI hm 0 35 0) 4 (kRev (kI hm 4) (mn hm 0 5))) ∧ FL hx g ∧ FK (sX hx 0) g := by
  have T := R.1.2
  have em : f_X10_mirror 0 hm = kret (nI (mn hm 0 5)) (sA (sI hm 0 35 0) 4 (kRev (kI hm 4) (mn hm 0 5))) := by
    unfold f_X10_mirror
    rw [pI_k T.d0]
    have e := tm_mirL (T.thr 0) (show kI (sI hm 0 35 0) 0 5 = nI (mn hm 0 5) from R.txt.2.1) R.txt.1 kF 0 (by omega) (by unfold kF; have := R.txt.1; omega)
    rw [kMir_0, sA_self] at e
    exact e
  obtain ⟨g, e, R1⟩ := pn_yes pn_mirror hj R em
  exact ⟨g, e, R1, (FL.X hx 0).trans (fr_f_X9_mirror _ _ _ _ e), fk_f_X9_mirror _ _ _ _ e⟩
theorem op_spell (R : RR j hx hm) (hj : j < 512) {s : Nat} (hs : s < 15) (hn : mn hm 0 5 < 6) : ∃ c g, f_X9_spell 0 (nI s) (sX hx 0) = kret (nI c) g ∧ mn hm 0 5 < c ∧ c ≤ 2 * mn hm 0 5 + 2 ∧ RR (j + 1) g (mPut (sI hm 0 35 0) (nI s) (mn hm 0 5) (mn hm 0 5)) ∧ FL hx g ∧ FK (sX hx 0) g := by
  have T := R.1.2
  obtain ⟨q1, q2⟩ := upto_in (p := s) (n := 14) (by omega) (by omega)
  obtain ⟨t1, t2, -⟩ := R.txt
  obtain ⟨c, c1, c2, c3⟩ := kChs_ex (kPut (kI hm 4) (nI s) (mn hm 0 5) (mn hm 0 5)) (mn hm 0 5 + 1)
  have em : f_X10_spell 0 (nI s) hm = kret (nI c) (mPut (sI hm 0 35 0) (nI s) (mn hm 0 5) (mn hm 0 5)) := by
    unfold f_X10_spell
    rw [msg_t q1 q2, kb_ret, kif_f (by decide), gI_k T.d0, t2, kif_f (by rw [show (6 : Int32) = nI 6 from rfl, ka_eq (by omega) (by omega)]; omega)]
    unfold X10_spell_b26 X10_spell_b45
    rw [kV_k T.d0, can_0 T, kb_ret, kif_f (by decide), gI_k (T.thr 0).d0, show kI (sI hm 0 35 0) 0 5 = nI (mn hm 0 5) from t2, kV_k (T.thr 0).d0, tm_puts (T.thr 0) t2 hn (Nat.le_refl _), kb_ret, ← c1]
    rfl
  obtain ⟨g, e, R1⟩ := opk_yes (o_spell j hx hm (nI s) 0 0 hj R) em (by
    unfold mPut
    rw [kI_sI, if_neg (by omega), kI_sA, if_neg (by omega), z35])
  exact ⟨c, g, e, by omega, by omega, R1, (FL.X hx 0).trans (fr_f_X9_spell _ _ _ _ _ e), fk_f_X9_spell _ _ _ _ _ e⟩
theorem op_spellNo (R : RR j hx hm) (hj : j < 512) {s : Nat} (hs : s < 15) (hn : mn hm 0 5 = 6) : ∃ g, f_X9_spell 0 (nI s) (sX hx 0) = kthrow 2 g ∧ RR (j + 1) g (sI hm 0 35 2) ∧ FL hx g ∧ FK (sX hx 0) g := by
  have T := R.1.2
  obtain ⟨q1, q2⟩ := upto_in (p := s) (n := 14) (by omega) (by omega)
  obtain ⟨t1, t2, -⟩ := R.txt
  have em : f_X10_spell 0 (nI s) hm = kret 0 (sI hm 0 35 2) := by
    unfold f_X10_spell
    rw [msg_t q1 q2, kb_ret, kif_f (by decide), gI_k T.d0, t2, kif_t (by rw [hn]; rfl)]
    unfold X10_spell_b26 X10_spell_b45
    rw [kV_k T.d0, can_n T (show (2 : Int32) ≠ 0 by decide), kb_ret, kif_t rfl]
  obtain ⟨e', g, e, em', R1⟩ := opk_no (o_spell j hx hm (nI s) 0 0 hj R) em (z35 _ _) (by decide)
  have : e' = 2 := by
    unfold mp2 at em'
    split at em'
    · cases em'
    · split at em'
      · assumption
      · cases em'
  subst this
  exact ⟨g, e, R1, (FL.X hx 0).trans (fr_f_X9_spell _ _ _ _ _ e), fk_f_X9_spell _ _ _ _ _ e⟩
theorem op_insert (R : RR j hx hm) (hj : j < 512) {s p : Nat} (hs : s < 15) (hp : p < mn hm 0 5) (hn : mn hm 0 5 < 6) : ∃ c g, f_X9_insert 0 (nI s) (nI p) (sX hx 0) = kret (nI c) g ∧ mn hm 0 5 < c ∧ c ≤ 2 * mn hm 0 5 + 2 ∧ RR (j + 1) g (mPut (sI hm 0 35 0) (nI s) p (mn hm 0 5)) ∧ FL hx g ∧ FK (sX hx 0) g := by
  have T := R.1.2
  obtain ⟨q1, q2⟩ := upto_in (p := s) (n := 14) (by omega) (by omega)
  obtain ⟨q3, q4⟩ := below_in hp (by omega)
  obtain ⟨t1, t2, -⟩ := R.txt
  obtain ⟨c, c1, c2, c3⟩ := kChs_ex (kPut (kI hm 4) (nI s) p (mn hm 0 5)) (mn hm 0 5 + 1)
  have em : f_X10_insert 0 (nI s) (nI p) hm = kret (nI c) (mPut (sI hm 0 35 0) (nI s) p (mn hm 0 5)) := by
    unfold f_X10_insert
    rw [msg_t q1 q2, kb_ret, kif_f (by decide), gI_k T.d0, t2, in_t q3 q4, kb_ret, kif_f (by decide), gI_k T.d0, t2, kif_f (by rw [show (6 : Int32) = nI 6 from rfl, ka_eq (by omega) (by omega)]; omega)]
    unfold X10_insert_b44 X10_insert_b60
    rw [kV_k T.d0, can_0 T, kb_ret, kif_f (by decide), kV_k (T.thr 0).d0, tm_puts (T.thr 0) t2 hn (by omega), kb_ret, ← c1]
    rfl
  obtain ⟨g, e, R1⟩ := opk_yes (o_insert j hx hm (nI s) (nI p) 0 hj R) em (by
    unfold mPut
    rw [kI_sI, if_neg (by omega), kI_sA, if_neg (by omega), z35])
  exact ⟨c, g, e, by omega, by omega, R1, (FL.X hx 0).trans (fr_f_X9_insert _ _ _ _ _ _ e), fk_f_X9_insert _ _ _ _ _ _ e⟩
theorem mp3_of {e' : Nat} {kx : Int32} (h : mp3 3 1 2 e' = some kx) : (kx = 1 → e' = 3) ∧ (kx = 2 → e' = 1) ∧ (kx = 3 → e' = 2) := by
  unfold mp3 at h
  split at h
  · rename_i q
    cases h
    exact ⟨fun _ => q, fun z => absurd z (by decide), fun z => absurd z (by decide)⟩
  · split at h
    · rename_i q
      cases h
      exact ⟨fun z => absurd z (by decide), fun _ => q, fun z => absurd z (by decide)⟩
    · split at h
      · rename_i q
        cases h
        exact ⟨fun z => absurd z (by decide), fun z => absurd z (by decide), fun _ => q⟩
      · cases h
/-- there is no such place, or no room -/
theorem op_insertNo (R : RR j hx hm) (hj : j < 512) {s p : Nat} (hs : s < 15) (hp : p ≤ mn hm 0 5) (hbad : p = mn hm 0 5 ∨ mn hm 0 5 = 6) : ∃ g kx, f_X9_insert 0 (nI s) (nI p) (sX hx 0) = kthrow (if p = mn hm 0 5 then 1 else 2) g ∧ RR (j + 1) g (sI hm 0 35 kx) ∧ FL hx g ∧ FK (sX hx 0) g := by
  have T := R.1.2
  obtain ⟨q1, q2⟩ := upto_in (p := s) (n := 14) (by omega) (by omega)
  obtain ⟨t1, t2, -⟩ := R.txt
  by_cases hq : p = mn hm 0 5
  · have em : f_X10_insert 0 (nI s) (nI p) hm = kret 0 (sI hm 0 35 2) := by
      unfold f_X10_insert
      have w : nI p < 0 ∨ (nI (mn hm 0 5) - 1) < nI p := by
        by_cases h0 : mn hm 0 5 = 0
        · right
          rw [hq, h0]
          decide
        · right
          rw [ka_pred (by omega), ka_lt (by omega) (by omega)]
          omega
      rw [msg_t q1 q2, kb_ret, kif_f (by decide), gI_k T.d0, t2, in_f w, kb_ret, kif_t rfl]
      unfold X10_insert_b44 X10_insert_b60
      rw [kV_k T.d0, can_n T (show (2 : Int32) ≠ 0 by decide), kb_ret, kif_t rfl]
    obtain ⟨e', g, e, em', R1⟩ := opk_no (o_insert j hx hm (nI s) (nI p) 0 hj R) em (z35 _ _) (by decide)
    have := (mp3_of em').2.1 rfl
    subst this
    exact ⟨g, 2, by rw [if_pos hq]; exact e, R1, (FL.X hx 0).trans (fr_f_X9_insert _ _ _ _ _ _ e), fk_f_X9_insert _ _ _ _ _ _ e⟩
  · obtain ⟨q3, q4⟩ := below_in (show p < mn hm 0 5 by omega) (by omega)
    have em : f_X10_insert 0 (nI s) (nI p) hm = kret 0 (sI hm 0 35 3) := by
      unfold f_X10_insert
      rw [msg_t q1 q2, kb_ret, kif_f (by decide), gI_k T.d0, t2, in_t q3 q4, kb_ret, kif_f (by decide), gI_k T.d0, t2, kif_t (by rw [hbad.resolve_left hq]; rfl)]
      unfold X10_insert_b44 X10_insert_b60
      rw [kV_k T.d0, can_n T (show (3 : Int32) ≠ 0 by decide), kb_ret, kif_t rfl]
    obtain ⟨e', g, e, em', R1⟩ := opk_no (o_insert j hx hm (nI s) (nI p) 0 hj R) em (z35 _ _) (by decide)
    have := (mp3_of em').2.2 rfl
    subst this
    exact ⟨g, 3, by rw [if_neg hq]; exact e, R1, (FL.X hx 0).trans (fr_f_X9_insert _ _ _ _ _ _ e), fk_f_X9_insert _ _ _ _ _ _ e⟩
theorem op_alike (R : RR j hx hm) (hj : j < 512) {x y : Nat} (h1 : x < 14) (h2 : y < 14) (h3 : x ≠ y) : ∃ g, ∀ v : Int32, v = (if kI hm 5 (15 * x + y) = 0 then 1 else 0) → f_zX9_alike 0 (nI x) (nI y) (sX hx 0) = kret v g ∧ RR (j + 1) g (sI (sI (sI hm 0 35 0) 5 (15 * x + y) v) 5 (15 * y + x) v) ∧ FL hx g ∧ FK (sX hx 0) g := by
  have T := R.1.2
  have T1 := T.thr 0
  obtain ⟨q1, q2⟩ := upto_in (p := x) (n := 14) (by omega) (by omega)
  obtain ⟨q3, q4⟩ := upto_in (p := y) (n := 14) (by omega) (by omega)
  obtain ⟨v, ev⟩ : ∃ v : Int32, v = if kI hm 5 (15 * x + y) = 0 then 1 else 0 := ⟨_, rfl⟩
  have hv : v = 0 ∨ v = 1 := by
    rw [ev]
    split
    · exact Or.inr rfl
    · exact Or.inl rfl
  have e14 : ∀ k, k < 14 → ¬ nI k = 14 := fun k hk => by rw [show (14 : Int32) = nI 14 from rfl, ka_eq (by omega) (by omega)]; omega
  have em : f_X10_alike 0 (nI x) (nI y) hm = kret v (sI (sI (sI hm 0 35 0) 5 (15 * x + y) v) 5 (15 * y + x) v) := by
    unfold f_X10_alike
    rw [msg_t q1 q2, kb_ret, kif_f (by decide), msg_t q3 q4, kb_ret, kif_f (by decide)]
    unfold X10_alike_b19
    rw [kif_f (by decide), kif_f (by rw [ka_eq (by omega) (by omega)]; exact h3), kif_f (e14 x h1), kif_f (e14 y h2)]
    unfold X10_alike_b51
    rw [kV_k T.d0, can_0 T, kb_ret, kif_f (by decide), gN_k T1.d0 T1.r7, mc_idx, gAI_k T1.d5 (by rw [T1.n5]; omega) (by omega)]
    have key : ∀ w : Int32, w = 0 ∨ w = 1 → X10_alike_b78 0 (nI x) (nI y) w (sI hm 0 35 0) = kret w (sI (sI (sI hm 0 35 0) 5 (15 * x + y) w) 5 (15 * y + x) w) := fun w hw => by
      unfold X10_alike_b78
      have T2 : kSm (sI (sI hm 0 35 0) 5 (15 * x + y) w) := T1.fr (kAg.I _ 5 _ w) (fun a k q z => by omega)
      rw [gN_k T1.d0 T1.r7, mc_idx, pAZ_k T1.d5 (by rw [T1.n5]; omega) (by omega) hw, gN_k T2.d0 T2.r7, mc_idx, pAZ_k T2.d5 (by rw [T2.n5]; omega) (by omega) hw]
      unfold kretZ
      rw [if_pos hw]
      rfl
    rw [show kI (sI hm 0 35 0) 5 (15 * x + y) = kI hm 5 (15 * x + y) from by rw [kI_sI, if_neg (by omega)]]
    by_cases h0 : kI hm 5 (15 * x + y) = 0
    · rw [if_pos h0] at ev
      rw [kif_t h0, ev]
      exact key 1 (Or.inr rfl)
    · rw [if_neg h0] at ev
      rw [kif_f h0, ev]
      exact key 0 (Or.inl rfl)
  obtain ⟨g, e, R1⟩ := opk_yes (o_alike j hx hm (nI x) (nI y) 0 hj R) em (by rw [kI_sI, if_neg (by omega), kI_sI, if_neg (by omega), z35])
  exact ⟨g, fun w hw => by
    have : w = v := hw.trans ev.symm
    subst this
    exact ⟨zr_f_zX9_alike _ _ _ _ _ _ e, R1, (FL.X hx 0).trans (fr_f_X9_alike _ _ _ _ _ _ e), fk_f_X9_alike _ _ _ _ _ _ e⟩⟩
end OPS
