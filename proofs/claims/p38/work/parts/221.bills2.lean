/-! the bills' check: the second half -/
section BILLS2
variable {j A : Nat} {h hm : KH}
theorem TT_e {g : KH} (e : kI hm = kI g) : TT h hm = TT h g := by
  have e2 := mn_e e
  have x1 : ptx hm = ptx g := by funext p; unfold ptx; rw [e2]
  have x2 : rtx hm = rtx g := by funext p; unfold rtx; rw [e2]
  have x3 : tld hm = tld g := by funext p; unfold tld; rw [e2, e]
  have x4 : rbt hm = rbt g := by funext p; unfold rbt; rw [e2, x3]
  unfold TT TTt TTr TTa TTc
  rw [x1, x2, x4, e2, e]
def BLok (hm : KH) (c : Nat) : Prop := ∃ a b : Nat → Nat, BL hm a b ∧ (∀ d, d < 6 → a d ≤ b d ∧ b d ≤ c * 2147483648) ∧ sum6 (fun d => b d - a d) ≤ 1536060000
theorem law_b81 (hj : j < 512) {n : Nat} (hn : kI hm 0 12 = nI n) (hnj : n ≤ j) (hw : mn hm 0 27 ≤ 7) {a c t : Nat → Nat} (hB : BL hm a c) (hac : ∀ d, d < 6 → a d ≤ c d ∧ c d ≤ 1125899906842624) (ht : ∀ d, d < 6 → duT hm n (nI d) (mn hm 0 8) = t d ∧ t d < 2147483648) (b : Int32) : ∀ (f d : Nat) (g : KH), d ≤ 6 → 6 < d + f → BI j A h hm g t → ∃ g', L_areBills_L81 f 0 b A (nL (fS (fun d => c d - a d - t d) d)) (nL (fS a d)) 1 (nI d) g = kif (b = 0) (L_areBills_b214 1 g') (kcallV 10 0 (sX g' (0)) (f_X9_settle 0 (sX g' (0))) (fun x1 h1 => L_areBills_L226 kF 0 A (nL (fS (fun d => c d - a d - t d) 6)) (nL (fS a 6)) 1 x1 0 h1)) ∧ BI j A h hm g' t := by
  intro f
  induction f with
  | zero => intro d g h1 h2; omega
  | succ f ih =>
    intro d g h1 h2 B
    unfold L_areBills_L81 L_areBills_b81
    by_cases hd : 6 ≤ d
    · obtain rfl : d = 6 := by omega
      rw [kif_t (by decide)]
      refine ⟨g, ?_, B⟩
      rw [kif_f (show ¬ (1 : Int32) = 0 by decide)]
    · have hd6 : d < 6 := by omega
      have B0 := B.X 0
      have R0 := B0.1
      have S := R0.1.1
      obtain ⟨k31, n7⟩ := B.2.2.2.1
      obtain ⟨h11, h12⟩ := hac d hd6
      obtain ⟨h21, h22⟩ := ht d hd6
      obtain ⟨e20, e21⟩ := hB d hd6
      obtain ⟨n', q1, q2, q3, q4⟩ := rd_due R0 hj
      obtain rfl : n' = n := nI_inj (q2.symm.trans hn) (by omega) (by omega)
      obtain ⟨h5, w1, w2, w3, w4⟩ := q4 d hd6
      have B5 : BI j A h hm h5 t := B0.step w2 w3 (fresh_of w4 (Or.inl (by omega)) w2 hw)
      have B50 := B5.X 0
      have S5 := B50.1.1.1
      have r0 := rd_billed R0 hd6
      have r5 := rd_billed B50.1 hd6
      rw [e20, e21] at r0 r5
      have hdu := q3 d hd6
      rw [h21] at hdu w1
      rw [sX_X] at w1
      have e1d : (1 : Int32) + nI d = nI (1 + d) := ka_add 1 d
      have out : ∃ g', L_areBills_b167 (L_areBills_L81 f) 0 b A (nL (fS (fun d => c d - a d - t d) d)) (nL (fS a d)) (nI d) (nL (t d) - nL (c d) + nL (a d)) 1 (sX h5 0) = kif (b = 0) (L_areBills_b214 1 g') (kcallV 10 0 (sX g' (0)) (f_X9_settle 0 (sX g' (0))) (fun x1 h1 => L_areBills_L226 kF 0 A (nL (fS (fun d => c d - a d - t d) 6)) (nL (fS a 6)) 1 x1 0 h1)) ∧ BI j A h hm g' t := by
        have go : ∀ s0, nL (fS (fun d => c d - a d - t d) d) + s0 = nL (fS (fun d => c d - a d - t d) (d + 1)) → ∃ g', L_areBills_b185 (L_areBills_L81 f) 0 b A (nL (fS a d)) 1 (nI d) s0 (nL (fS (fun d => c d - a d - t d) d)) (sX h5 0) = kif (b = 0) (L_areBills_b214 1 g') (kcallV 10 0 (sX g' (0)) (f_X9_settle 0 (sX g' (0))) (fun x1 h1 => L_areBills_L226 kF 0 A (nL (fS (fun d => c d - a d - t d) 6)) (nL (fS a 6)) 1 x1 0 h1)) ∧ BI j A h hm g' t := fun s0 es => by
          unfold L_areBills_b185
          rw [sX_X, kV_k S5.d0, r5.2, kb_ret, es, nL_add, show fS a d + a d = fS a (d + 1) from rfl, nI_1]
          exact ih (d + 1) (sX h5 0) (by omega) (by omega) B50
        unfold L_areBills_b167
        rw [← kL_alg, nL_sub h11]
        by_cases hD : c d - a d ≤ t d
        · rw [nL_sub hD, kif_t (lc_nn (by omega)).1]
          refine go 0 ?_
          rw [show (0 : Int64) = nL 0 from rfl, nL_add]
          show nL (fS (fun d => c d - a d - t d) d + 0) = nL (fS (fun d => c d - a d - t d) d + (c d - a d - t d))
          rw [show c d - a d - t d = 0 by omega]
        · rw [nL_neg (by omega), kif_f (lc_neg (by omega) (by omega)).2, Int64.neg_neg]
          refine go _ ?_
          rw [nL_add]
          rfl
      rw [kif_f (by rw [show (6 : Int32) = nI 6 from rfl, ka_le (by omega) (by omega)]; exact hd), e1d, gAI_k k31 (by omega) (by omega), B.2.2.2.2.1 d hd6, kV_k S.d0, r0.1, kb_ret, sX_X, kV_k S.d0, r0.2, kb_ret, kif_f (by decide), sX_X, kV_k S.d0, hdu, kb_ret, gAI_k B0.2.2.2.1.1 (by rw [B0.2.2.2.1.2]; omega) (by omega), B0.2.2.2.2.1 d hd6, kif_t rfl, sX_X, kV_k S.d0, w1, kb_ret, gAI_k B5.2.2.2.1.1 (by rw [B5.2.2.2.1.2]; omega) (by omega), B5.2.2.2.2.1 d hd6, kif_t rfl, kV_k S5.d0, r5.1, kb_ret, sX_X, kV_k S5.d0, r5.2, kb_ret, kif_f (lc_ge (by omega) h11), nI_long h22]
      exact out
theorem law_b226 {g hm' : KH} (R : RR j g hm') {a c t : Nat → Nat} (hB : BL hm' a c) (hac : ∀ d, d < 6 → a d ≤ c d ∧ c d - a d = t d ∧ t d < 2147483648) (hA : kd g A = 31 ∧ kn g A = 7) (hV : ∀ d, d < 6 → kI g A (1 + d) = nI (t d)) (v4 : Int64) (S0 : Nat) (x1 : Int32) : ∀ (f d m : Nat), d ≤ 6 → 6 < d + f → ∃ m', L_areBills_L226 f 0 A v4 (nL S0 - nL (fS a d)) 1 x1 (nI d) (sX g m) = L_areBills_b286 0 v4 (nL S0 - nL (fS a 6)) 1 x1 (sX g m') := by
  intro f
  induction f with
  | zero => intro d m h1 h2; omega
  | succ f ih =>
    intro d m h1 h2
    unfold L_areBills_L226 L_areBills_b226
    by_cases hd : 6 ≤ d
    · obtain rfl : d = 6 := by omega
      rw [kif_t (by decide)]
      exact ⟨m, rfl⟩
    · have hd6 : d < 6 := by omega
      have R0 := R.X 0
      have S := R0.1.1
      have r0 := rd_billed R0 hd6
      obtain ⟨e20, e21⟩ := hB d hd6
      rw [e20, e21] at r0
      obtain ⟨h11, h12, h13⟩ := hac d hd6
      rw [kif_f (by rw [show (6 : Int32) = nI 6 from rfl, ka_le (by omega) (by omega)]; exact hd), kif_f (by decide), sX_X, kV_k S.d0, r0.1, kb_ret, sX_X, kV_k S.d0, r0.2, kb_ret, show (1 : Int32) + nI d = nI (1 + d) from ka_add 1 d, gAI_k (show kd (sX g 0) A = 31 from hA.1) (by show 1 + d < kn g A; omega) (by omega), show kI (sX g 0) A (1 + d) = nI (t d) from hV d hd6, nI_long h13, nL_sub h11, h12, kif_t (lc_rf _)]
      unfold L_areBills_b267
      rw [sX_X, kV_k S.d0, r0.2, kb_ret, Int64.sub_sub, nL_add, show fS a d + a d = fS a (d + 1) from rfl, nI_1]
      exact ih (d + 1) 0 (by omega) (by omega)
theorem fS_add (f h : Nat → Nat) : ∀ k, fS (fun d => f d + h d) k = fS f k + fS h k := by
  intro k
  induction k with
  | zero => rfl
  | succ k ih =>
    show fS (fun d => f d + h d) k + (f k + h k) = (fS f k + f k) + (fS h k + h k)
    omega
theorem law_areBills (R : RR j h hm) (hj : j < 512) (T : TT h hm) (hw : mn hm 0 27 ≤ 7) {k : Nat} (hk : k ≤ 200) (hb : BLok hm k) (hA1 : 640 ≤ A) (hA2 : A < 1000) (hA : kd h A = 0) (b : Int32) : ∃ h1 hm1, f_L_areBills 0 47 b (sX h A) = kret 1 h1 ∧ RR j h1 hm1 ∧ TT h1 hm1 ∧ FL h h1 ∧ kI hm1 = kI hm ∧ BLok hm1 (k + 1) ∧ ∀ a, 640 ≤ a → a < 1000 → a ≠ A → kd h a = 0 → kd h1 a = 0 := by
  obtain ⟨n, hnj, hn, -⟩ := rd_due R hj
  have N := R.NX hj
  obtain ⟨a, c, hB, hac0, hsum⟩ := hb
  have hP := R.P
  have hac : ∀ d, d < 6 → a d ≤ c d ∧ c d ≤ 1125899906842624 := fun d hd => by
    have := hac0 d hd
    have h2 : k * 2147483648 ≤ 200 * 2147483648 := Nat.mul_le_mul_right _ hk
    omega
  have hds := due_sum (n := n) N
  have ht : ∀ d, d < 6 → duT hm n (nI d) (mn hm 0 8) = (fun d => duT hm n (nI d) (mn hm 0 8)) d ∧ (fun d => duT hm n (nI d) (mn hm 0 8)) d < 2147483648 := fun d hd => ⟨rfl, by
    have := six_ge (fun d => duT hm n (nI d) (mn hm 0 8)) d hd
    dsimp only at this ⊢
    omega⟩
  obtain ⟨t, et⟩ : ∃ t : Nat → Nat, t = fun d => duT hm n (nI d) (mn hm 0 8) := ⟨_, rfl⟩
  rw [← et] at hds ht
  have ht' : ∀ d, d < 6 → duT hm n (nI d) (mn hm 0 8) = t d ∧ t d < 2147483648 := fun d hd => ⟨by rw [et], (ht d hd).2⟩
  -- the row of seven
  have hal : kd (al (sX h A) 31 7) A = 31 ∧ kn (al (sX h A) 31 7) A = 7 := ⟨if_pos rfl, if_pos rfl⟩
  have kal : kAg (fun b _ => b = A ∨ b = A + 1000000) h (al (sX h A) 31 7) := by
    have h1 := kAg.al (sX h A) 31 7 (show kd (sX h A) (kx (sX h A)) = 0 from hA)
    exact h1
  have B1 : BI j A h hm (al (sX h A) 31 7) (fun d => duT hm n (nI d) 0) := by
    have hfl : FL h (al (sX h A) 31 7) := (FL.X h A).trans (FL.al (h := sX h A) hA)
    refine ⟨R.lw kal (fun b i q => by omega) (fun b q1 q2 => ?_), T.fl hfl, hfl, hal, fun d hd => ?_, fun b q1 q2 q3 q4 => ?_⟩
    · rw [kd_al] at q2
      split at q2
      · rename_i z
        have : b = A := z
        omega
      · exact absurd q1 q2
    · show kI (al (sX h A) 31 7) A (1 + d) = nI 0
      rw [kI_al, if_pos (show A = kx (sX h A) from rfl)]
      rfl
    · rw [kd_al, if_neg (show ¬ b = kx (sX h A) from q3)]
      exact q4
  obtain ⟨g1, e1, B2⟩ := law_b8 hj hA1 hA2 hA hn hnj b kF 0 _ (by omega) (by unfold kF; omega) B1
  obtain ⟨g2, e2, B3⟩ := law_b81 hj hn hnj hw hB hac ht' b kF 0 g1 (by omega) (by unfold kF; omega) (B2.cg (fun d hd => (ht' d hd).1))
  have e0 : f_L_areBills 0 47 b (sX h A) = L_areBills_L81 kF 0 b A 0 0 1 0 g1 := by
    unfold f_L_areBills nw
    rw [if_pos (show kd (sX h A) (kx (sX h A)) = 0 from hA)]
    exact e1
  have e3 : f_L_areBills 0 47 b (sX h A) = _ := e0.trans e2
  have hb1 : ∀ d, d < 6 → a d ≤ c d ∧ c d ≤ (k + 1) * 2147483648 := fun d hd => ⟨(hac0 d hd).1, Nat.le_trans (hac0 d hd).2 (Nat.mul_le_mul_right _ (Nat.le_succ k))⟩
  by_cases hb0 : b = 0
  · rw [kif_t hb0] at e3
    exact ⟨g2, hm, e3, B3.1, B3.2.1, B3.2.2.1, rfl, ⟨a, c, hB, hb1, hsum⟩, B3.2.2.2.2.2⟩
  · rw [kif_f hb0] at e3
    have S2 := (B3.1.X 0).1.1
    obtain ⟨g3, hm1, f1, f2, f3, f4, f5, f6⟩ := law_settle B3.1 hj hnj hn hB hac ht'
    rw [kV_k S2.d0, f1, kb_ret] at e3
    obtain ⟨p1, p2, p3⟩ := f5 A (Or.inl B3.2.2.2.1.1)
    have hA3 : kd g3 A = 31 ∧ kn g3 A = 7 := ⟨p1.trans B3.2.2.2.1.1, p2.trans B3.2.2.2.1.2⟩
    have hac' : ∀ d, d < 6 → a d + (c d - a d - t d) ≤ c d + (t d - (c d - a d)) ∧ c d + (t d - (c d - a d)) - (a d + (c d - a d - t d)) = t d ∧ t d < 2147483648 := fun d hd => by
      have := hac d hd
      have := (ht' d hd).2
      omega
    obtain ⟨m', e4⟩ := law_b226 f2 f4 hac' hA3 (fun d hd => (p3 _).trans (B3.2.2.2.2.1 d hd)) (nL (fS (fun d => c d - a d - t d) 6)) (fS a 6) (nI (sum6 (fun d => c d - a d - t d))) kF 0 (kx g3) (by omega) (by unfold kF; omega)
    have e6 : nL (fS a 6) = nL (fS a 6) - nL (fS (fun d => a d + (c d - a d - t d)) 0) := by
      show nL (fS a 6) = nL (fS a 6) - nL 0
      rw [nL_sub (Nat.zero_le _)]
      rfl
    have e5 : f_L_areBills 0 47 b (sX h A) = L_areBills_b286 0 (nL (fS (fun d => c d - a d - t d) 6)) (nL (fS a 6) - nL (fS (fun d => a d + (c d - a d - t d)) 6)) 1 (nI (sum6 (fun d => c d - a d - t d))) (sX g3 m') :=
      e3.trans ((congrArg (fun v => L_areBills_L226 kF 0 A (nL (fS (fun d => c d - a d - t d) 6)) v 1 (nI (sum6 (fun d => c d - a d - t d))) 0 g3) e6).trans e4)
    have hm1n : kI hm1 0 12 = nI n := by rw [f3]; exact hn
    have hw1 : mn hm1 0 27 ≤ 7 := by rw [mn_e f3]; exact hw
    have R4 := f2.X m'
    have ht1 : ∀ d, d < 6 → duT hm1 n (nI d) (mn hm1 0 8) = t d ∧ t d < 2147483648 := fun d hd => by
      rw [duT_e f3, mn_e f3]
      exact ht' d hd
    have hac2 : ∀ d, d < 6 → a d + (c d - a d - t d) ≤ c d + (t d - (c d - a d)) ∧ c d + (t d - (c d - a d)) ≤ 1125899906842624 := fun d hd => by
      have h1 := hac' d hd
      have h2 := hac0 d hd
      have h3 : k * 2147483648 ≤ 200 * 2147483648 := Nat.mul_le_mul_right _ hk
      omega
    obtain ⟨g5, hm2, s1, s2, s3, s4, s5, s6⟩ := law_settle R4 hj hnj hm1n f4 hac2 ht1
    have hz : sum6 (fun d => c d + (t d - (c d - a d)) - (a d + (c d - a d - t d)) - t d) = 0 := by
      have e : ∀ d, d < 6 → c d + (t d - (c d - a d)) - (a d + (c d - a d - t d)) - t d = 0 := fun d hd => by
        have := (hac' d hd).2.1
        omega
      unfold sum6
      dsimp only
      rw [e 0 (by omega), e 1 (by omega), e 2 (by omega), e 3 (by omega), e 4 (by omega), e 5 (by omega)]
    rw [hz] at s1
    have hWs : sum6 (fun d => c d - a d - t d) ≤ 1536060000 := by
      have e : ∀ d, c d - a d - t d ≤ c d - a d := fun d => Nat.sub_le _ _
      have e0 := e 0
      have e1 := e 1
      have e2 := e 2
      have e3 := e 3
      have e4 := e 4
      have e5 := e 5
      unfold sum6 at hsum ⊢
      dsimp only at hsum ⊢
      omega
    unfold L_areBills_b286 at e5
    rw [kif_f (show ¬ (1 : Int32) = 0 by decide), nI_long (by omega), ← fS_6, kif_t (lc_rf _), fS_add, nL_neg (by omega), show fS a 6 + fS (fun d => c d - a d - t d) 6 - fS a 6 = fS (fun d => c d - a d - t d) 6 by omega, kif_t (lc_rf _), kV_k (R4.X 0).1.1.d0, s1, kb_ret, kif_t (show nI 0 = 0 from rfl)] at e5
    have ff1 : FF g2 g3 := fresh_of f6 (Or.inl (by omega)) f2 hw1
    have hw2 : mn hm2 0 27 ≤ 7 := by rw [mn_e s3]; exact hw1
    have ff2 : FF g3 g5 := (FF.X g3 m').trans (fresh_of s6 (Or.inl (by omega)) s2 hw2)
    have fl5 : FL h g5 := B3.2.2.1.trans (f5.trans ((FL.X g3 m').trans s5))
    have eI : kI hm2 = kI hm := s3.trans f3
    refine ⟨g5, hm2, e5, s2, ?_, fl5, eI, ⟨_, _, s4, fun d hd => ?_, ?_⟩, fun x q1 q2 q3 q4 => ff2 x q1 q2 (ff1 x q1 q2 (B3.2.2.2.2.2 x q1 q2 q3 q4))⟩
    · rw [TT_e eI]
      exact T.fl fl5
    · have h1 := hac' d hd
      have h2 := hac0 d hd
      have h4 : (k + 1) * 2147483648 = k * 2147483648 + 2147483648 := Nat.succ_mul k _
      rw [h4]
      generalize k * 2147483648 = Y at h2 ⊢
      omega
    · have e : ∀ d, d < 6 → c d + (t d - (c d - a d)) + (t d - (c d + (t d - (c d - a d)) - (a d + (c d - a d - t d)))) - (a d + (c d - a d - t d) + (c d + (t d - (c d - a d)) - (a d + (c d - a d - t d)) - t d)) = t d := fun d hd => by
        have := hac' d hd
        omega
      unfold sum6 at hds ⊢
      dsimp only at hds ⊢
      rw [e 0 (by omega), e 1 (by omega), e 2 (by omega), e 3 (by omega), e 4 (by omega), e 5 (by omega)]
      exact hds
end BILLS2
