/-! the plates' steps: the second half -/
section PLATES2
variable {j c : Nat} {h hm : KH}
theorem fin_plates (R : RR j h hm) (hj : j < 500) (T : TT h hm) (G : GI hm c) {a b : Nat} (ha : a < 2147483648) (hb : b < 2147483648) (rc : Nat → Int32 → Int32 → Nat → Nat → Nat → Int32 → Int32 → KH → KO Int32) (g : Nat) (v : Int32) (hv : v = 1 ∧ ¬ noPl hm ∨ v = 0 ∧ noPl hm) : SP j c h (L_plates_b80 g rc 0 (nI a) (nI b) 42 45 47 v (nI (1 + mn hm 0 8)) h) := by
  obtain ⟨k42, n42⟩ := T.1.1
  obtain ⟨k45, n45⟩ := T.1.2.2.2.1
  obtain ⟨k47, n47⟩ := T.1.2.2.2.2.2.1
  have hP := R.P
  have e2 : kI h 47 2 = nI (mn hm 0 8) := T.2.2.2.2.2.1.2.2.1.trans R.cnt.2.1
  have m6 : nI a - nI a / (6 : Int32) * (6 : Int32) = nI (a % 6) := nI_mod (b := 6) ha (by omega)
  have m4 : nI b - nI b / (4 : Int32) * (4 : Int32) = nI (b % 4) := nI_mod (b := 4) hb (by omega)
  have hd : a % 6 < 6 := Nat.mod_lt _ (by omega)
  have hi : b % 4 < 4 := Nat.mod_lt _ (by omega)
  unfold L_plates_b80
  rw [gAI_2 k47 (by omega), e2, kif_t (by rw [ka_lt (by omega) (by omega)]; omega)]
  rcases hv with ⟨v1, hok⟩ | ⟨v0, hno⟩
  · have hP10 : mn hm 0 8 < 10 := by
      have : mn hm 0 8 ≠ 10 := fun z => hok (Or.inr (Or.inr (Or.inr z)))
      omega
    obtain ⟨t1, t2, -⟩ := R.txt
    rw [kif_f (by rw [v1]; decide), gAI_2 k47 (by omega), e2, kd4 (by decide), m4, pAI_k k45 (by omega) (by omega)]
    -- the rows as they are written
    obtain ⟨h1, eh1⟩ : ∃ h1, h1 = sI h 45 (mn hm 0 8) (nI (b % 4)) := ⟨_, rfl⟩
    obtain ⟨h2, eh2⟩ : ∃ h2, h2 = sI h1 42 (1 + mn hm 0 8) (nI (pkT (mn hm 4) (mn hm 0 5))) := ⟨_, rfl⟩
    obtain ⟨h3, eh3⟩ : ∃ h3, h3 = sI h2 47 2 (nI (mn hm 0 8 + 1)) := ⟨_, rfl⟩
    have R3 : RR j h3 hm := by
      rw [eh3, eh2, eh1]
      exact ((R.lI (Or.inl (by omega))).lI (Or.inl (by omega))).lI (Or.inl (by omega))
    have d1 : kd h1 = kd h ∧ kn h1 = kn h := by rw [eh1]; exact ⟨rfl, rfl⟩
    have d2 : kd h2 = kd h ∧ kn h2 = kn h := by rw [eh2]; exact d1
    have d3 : kd h3 = kd h ∧ kn h3 = kn h := by rw [eh3]; exact d2
    rw [← eh1, gAI_2 (by rw [d1.1]; exact k47) (by rw [d1.2]; omega), show kI h1 47 2 = nI (mn hm 0 8) by rw [eh1, kI_sI, if_neg (by omega)]; exact e2, gAI_0 (by rw [d1.1]; exact k42) (by rw [d1.2]; omega), show kI h1 42 0 = nI (pkT (mn hm 4) (mn hm 0 5)) by rw [eh1, kI_sI, if_neg (by omega)]; exact T.2.1.1, show (1 : Int32) + nI (mn hm 0 8) = nI (1 + mn hm 0 8) from ka_add 1 _, pAI_k (by rw [d1.1]; exact k42) (by rw [d1.2]; omega) (by omega), ← eh2, gAI_2 (by rw [d2.1]; exact k47) (by rw [d2.2]; omega), show kI h2 47 2 = nI (mn hm 0 8) by rw [eh2, kI_sI, if_neg (by omega), eh1, kI_sI, if_neg (by omega)]; exact e2, nI_1, pAI_2 (by rw [d2.1]; exact k47) (by rw [d2.2]; omega), ← eh3]
    obtain ⟨g1, hm1, n', o1, o2, o3, o4, ⟨n1, n2, n3⟩, am, z2, z3, z4, z5, z6, z7, z8, z9⟩ := op_register R3 (by omega) hd hi hok
    have em : ∀ x k, ¬ (x = 6 ∧ k = mn hm 0 8 ∨ x = 7 ∧ 6 * mn hm 0 8 ≤ k ∧ k < 6 * mn hm 0 8 + 6 ∨ x = 8 ∧ k = mn hm 0 8 ∨ (x = 9 ∨ x = 10 ∨ x = 11) ∧ k = n' ∨ x = 0 ∧ (k = 12 ∨ k = 8 ∨ k = 35)) → kI hm1 x k = kI hm x k := fun x k q => by
      rw [(am.1 x k (by omega)).1, kI_sI, if_neg (by omega)]
    have eh3I : ∀ x k, ¬ (x = 45 ∧ k = mn hm 0 8 ∨ x = 42 ∧ k = 1 + mn hm 0 8 ∨ x = 47 ∧ k = 2) → kI h3 x k = kI h x k := fun x k q => by
      rw [eh3, kI_sI, if_neg (by omega), eh2, kI_sI, if_neg (by omega), eh1, kI_sI, if_neg (by omega)]
    have e8 : mn hm1 0 8 = mn hm 0 8 + 1 := mn_of z2 (by omega)
    have T3 : TT h3 hm1 := by
      obtain ⟨q1, ⟨q2, q3⟩, q4, q5, q6, ⟨c0, c1, c2, c3⟩, q8, q9⟩ := T
      refine ⟨q1.to d3.1 d3.2, ⟨t0_cg q2 (eh3I _ _ (by omega)) (fun k => em _ _ (by omega)) (em _ _ (by omega)), fun p hp => ?_⟩, r_cg q4 (fun k => eh3I _ _ (by omega)) (fun k => eh3I _ _ (by omega)) (em _ _ (by omega)) (fun k => em _ _ (by omega)) (fun k => em _ _ (by omega)) (fun k => em _ _ (by omega)) (fun k => em _ _ (by omega)) (fun k => em _ _ (by omega)) (fun k => em _ _ (by omega)), fun p hp => ?_, a_cg q6 (fun k => eh3I _ _ (by omega)) (fun k => em _ _ (by omega)), ⟨?_, ?_, ?_, ?_⟩, w_cg q8 (fun k => eh3I _ _ (by omega)) (fun k => em _ _ (by omega)), e_cg q9 (fun k => eh3I _ _ (by omega)) (fun k => em _ _ (by omega))⟩
      · rw [e8] at hp
        by_cases hpP : p = mn hm 0 8
        · subst hpP
          unfold ptx
          rw [eh3, kI_sI, if_neg (by omega), eh2, kI_sI, if_pos ⟨rfl, rfl⟩, mn_of z8 (by omega)]
          exact congrArg nI (pkT_cg (fun k hk => by
            show (kI hm 4 k).toNatClampNeg = (kI hm1 7 (6 * mn hm 0 8 + k)).toNatClampNeg
            rw [z9 k hk]))
        · rw [eh3I _ _ (by omega), q3 p (by omega)]
          have hm6 := (R.MX.2.2.2.1 p (by omega)).1.2
          unfold ptx
          rw [mn_at (em 6 p (by omega)), pkT_cg (g := fun k => mn hm 7 (6 * p + k)) (fun k hk => (mn_at (em 7 (6 * p + k) (by omega))).symm)]
      · rw [e8] at hp
        by_cases hpP : p = mn hm 0 8
        · subst hpP
          rw [z3, eh3, kI_sI, if_neg (by omega), eh2, kI_sI, if_neg (by omega), eh1, kI_sI, if_pos ⟨rfl, rfl⟩]
        · rw [eh3I _ _ (by omega), em _ _ (by omega)]
          exact q5 p (by omega)
      · rw [eh3I _ _ (by omega), em _ _ (by omega)]; exact c0
      · rw [eh3I _ _ (by omega), em _ _ (by omega)]; exact c1
      · rw [eh3, kI_sI, if_pos ⟨rfl, rfl⟩, z2]
      · rw [eh3I _ _ (by omega), em _ _ (by omega)]; exact c3
    have G1 : GI hm1 c := (G.thr 0).ag am (fun a k z => by omega)
    have q41 : F41 h h3 := by
      rw [eh3, eh2, eh1]
      exact ((F41.I h _ _ (by omega)).trans (F41.I _ _ _ (by omega))).trans (F41.I _ _ _ (by omega))
    have qFF : FF h h3 := by
      rw [eh3, eh2, eh1]
      exact fun _ _ _ q => q
    have T4 := T3.fl o3
    obtain ⟨k47', n47'⟩ := T4.1.2.2.2.2.2.1
    have eN : kI hm1 0 0 = nI (mn hm 0 0) := by rw [em _ _ (by omega)]; exact R.min.2.1
    have hN := R.min.2.2
    have eNn : mn hm1 0 0 = mn hm 0 0 := mn_of eN (by omega)
    have w0 : kI g1 47 0 = nI (mn hm 0 0) := T4.2.2.2.2.2.1.1.trans eN
    have w2 : kI g1 47 2 = nI (mn hm 0 8 + 1) := T4.2.2.2.2.2.1.2.2.1.trans z2
    have o2X := o2.X 0
    obtain ⟨n1', b1', y1, -, y2⟩ := rd_holder o2X (by omega)
    obtain rfl : n1' = n' + 1 := nI_inj (y1.symm.trans z4) (by omega) (by omega)
    have hb0 : sHold hm1 (mn hm 0 8) (mn hm 0 0) (n' + 1) = nI (a % 6) := by
      unfold sHold
      rw [if_pos ⟨mn_of z5 (by omega), by rw [mn_of z7 (by omega)]; exact Nat.le_refl _⟩, z6]
    have hb1 : mn hm 0 0 ≠ 0 → sHold hm1 (mn hm 0 8) (mn hm 0 0 - 1) (n' + 1) = -1 := fun hne => by
      unfold sHold
      rw [if_neg (by rw [mn_of z7 (by omega)]; omega)]
      refine sHold_no _ _ (fun k hk => ?_)
      obtain ⟨p, p1, p2⟩ := n3 k hk
      rw [mn_at (em 9 k (by omega)), mn_of p2 (by omega)]
      omega
    refine SP.op o2 T3 o3 o4 (Or.inl (by omega)) G1 q41 qFF 0 ?_
    unfold L_plates_b155
    rw [kd4 (by decide), kd4 (by decide), m6, m4, asks_1 R3.1.1.d0 R3.cnt.1 (by omega) o1]
    show kif _ _ (gAI g1 47 31 2 (fun x2 => L_plates_b183 g 0 (nI a) 47 v (x2 - 1) (nI (mn hm 0 8)) g1)) = _
    rw [kif_f (by rw [v1]; decide), gAI_2 k47' (by omega), w2, ka_pred (by omega), show mn hm 0 8 + 1 - 1 = mn hm 0 8 by omega]
    unfold L_plates_b183
    rw [kif_t rfl, kif_f (by rw [v1]; decide), gAI_2 k47' (by omega), w2, gAI_0 k47' (by omega), w0, ka_pred (by omega), show mn hm 0 8 + 1 - 1 = mn hm 0 8 by omega, kV_k o2X.1.1.d0, y2 _ _ (by omega) (by omega), kb_ret, kd4 (by decide), m6, kif_t hb0, gAI_0 (show kd (sX g1 0) 47 = 31 from k47') (by show 0 < kn g1 47; omega), show kI (sX g1 0) 47 0 = nI (mn hm 0 0) from w0]
    by_cases hz : mn hm 0 0 = 0
    · rw [kif_t (by rw [hz]; rfl)]
      rfl
    · rw [kif_f (by rw [show (0 : Int32) = nI 0 from rfl, ka_eq (by omega) (by omega)]; exact hz), gAI_2 (show kd (sX g1 0) 47 = 31 from k47') (by show 2 < kn g1 47; omega), show kI (sX g1 0) 47 2 = nI (mn hm 0 8 + 1) from w2, gAI_0 (show kd (sX g1 0) 47 = 31 from k47') (by show 0 < kn g1 47; omega), show kI (sX g1 0) 47 0 = nI (mn hm 0 0) from w0, ka_pred (by omega), show mn hm 0 8 + 1 - 1 = mn hm 0 8 by omega, ka_pred (by omega), sX_X, kV_k o2X.1.1.d0, y2 _ _ (by omega) (by omega), kb_ret, kif_t (hb1 hz)]
      rfl
  · refine ?_
    obtain ⟨g1, o1, o2, o3, o4⟩ := op_registerNo R (by omega) hd hi hno
    refine SP.op o2 (T.thr 3) o3 o4 (Or.inl (by omega)) (G.thr 3) (F41.rf h) (FF.rf h) (kx g1) ?_
    rw [kif_t v0]
    unfold L_plates_b155
    rw [kd4 (by decide), kd4 (by decide), m6, m4, asks_1 R.1.1.d0 R.cnt.1 (by omega) o1]
    show kif _ (L_plates_b183 g 0 (nI a) 47 v (-108) (-108) g1) _ = _
    rw [kif_t v0]
    unfold L_plates_b183
    rw [kif_t rfl, kif_t v0]
    rfl
theorem st_reg (R : RR j h hm) (hj : j < 500) (T : TT h hm) (G : GI hm c) {a b : Nat} (ha : a < 2147483648) (hb : b < 2147483648) (g : Nat) : SP j c h (f_L_plates g 0 0 (nI a) (nI b) 42 45 47 h) := by
  obtain ⟨k42, n42⟩ := T.1.1
  obtain ⟨k47, n47⟩ := T.1.2.2.2.2.2.1
  have hP := R.P
  obtain ⟨t1, t2, t3, t4⟩ := R.txt
  have h16 : ∀ k, k < mn hm 0 5 → mn hm 4 k < 16 := fun k hk => by have := (t4 k hk).1; omega
  have hT := pkT_lt t1 h16
  have hz := pkT_size t1 h16
  have e2 : kI h 47 2 = nI (mn hm 0 8) := T.2.2.2.2.2.1.2.2.1.trans R.cnt.2.1
  have main : ∀ v : Int32, (v = 1 ∧ mn hm 0 5 ≠ 0 ∧ mn hm 0 8 ≠ 10 ∨ v = 0 ∧ (mn hm 0 5 = 0 ∨ mn hm 0 8 = 10)) → SP j c h (L_plates_b28 g 0 (nI a) (nI b) 42 45 47 v h) := fun v hv => by
    unfold L_plates_b28
    obtain ⟨v', w1, w2⟩ := st_33 R T g (nI a) (nI b) kF 0 v (by rcases hv with ⟨q, -⟩ | ⟨q, -⟩; exact Or.inr q; exact Or.inl q) (by omega) (by unfold kF; omega)
    obtain ⟨v'', rc, w3, w4⟩ := st_80 R T g (nI a) (nI b) kF 0 v' (by rcases w1 with ⟨q, -⟩ | ⟨q, -⟩; exact Or.inr q; exact Or.inl q) (by omega) (by unfold kF; omega)
    rw [show (0 : Int32) = nI 0 from rfl, w2]
    refine (show L_plates_L80 g kF 0 (nI a) (nI b) 42 45 47 v' 1 h = _ from w4) ▸ fin_plates R hj T G ha hb rc g v'' ?_
    rcases w3 with ⟨x1, x2, x3⟩ | ⟨x1, x2⟩
    · refine Or.inl ⟨x1, ?_⟩
      rcases w1 with ⟨-, y2, y3⟩ | ⟨y1, -⟩
      · rcases hv with ⟨-, z1, z2⟩ | ⟨z, -⟩
        · rintro (q | ⟨k, k1, k2⟩ | ⟨k, k1, k2⟩ | q)
          · exact z1 q
          · exact y3 k (by omega) k1 k2
          · exact x3 k (by omega) k1 k2
          · exact z2 q
        · rw [z] at y2
          exact absurd y2 (by decide)
      · rw [y1] at x2
        exact absurd x2 (by decide)
    · refine Or.inr ⟨x1, ?_⟩
      rcases x2 with x2 | x2
      · rcases w1 with ⟨y1, -⟩ | ⟨-, y2⟩
        · rw [x2] at y1
          exact absurd y1 (by decide)
        · rcases y2 with y2 | y2
          · rcases hv with ⟨z, -⟩ | ⟨-, z⟩
            · rw [y2] at z
              exact absurd z (by decide)
            · rcases z with z | z
              · exact Or.inl z
              · exact Or.inr (Or.inr (Or.inr z))
          · exact Or.inr (Or.inl y2)
      · exact Or.inr (Or.inr (Or.inl x2))
  unfold f_L_plates
  rw [kif_t rfl, gAI_0 k42 (by omega), T.2.1.1, fl_size (by omega), kb_ret, hz]
  by_cases h0 : mn hm 0 5 = 0
  · rw [kif_t (by rw [h0]; decide)]
    exact main 0 (Or.inr ⟨rfl, Or.inl h0⟩)
  · rw [kif_f (by rw [show (0 : Int32) = nI 0 from rfl, ka_le (by omega) (by omega)]; omega), gAI_2 k47 (by omega), e2]
    by_cases h10 : 10 ≤ mn hm 0 8
    · rw [kif_t (by rw [show (10 : Int32) = nI 10 from rfl, ka_le (by omega) (by omega)]; exact h10)]
      exact main 0 (Or.inr ⟨rfl, Or.inr (by omega)⟩)
    · rw [kif_f (by rw [show (10 : Int32) = nI 10 from rfl, ka_le (by omega) (by omega)]; exact h10)]
      exact main 1 (Or.inl ⟨rfl, h0, by omega⟩)
theorem st_sell (R : RR j h hm) (hj : j < 500) (T : TT h hm) (G : GI hm c) {a b : Nat} (ha : a < 2147483648) (hb : b < 2147483648) : SP j c h (f_L_plates j 0 1 (nI a) (nI b) 42 45 47 h) := by
  obtain ⟨k47, n47⟩ := T.1.2.2.2.2.2.1
  have hP := R.P
  have hN := R.min.2.2
  have e2 : kI h 47 2 = nI (mn hm 0 8) := T.2.2.2.2.2.1.2.2.1.trans R.cnt.2.1
  have e0 : kI h 47 0 = nI (mn hm 0 0) := T.2.2.2.2.2.1.1.trans R.min.2.1
  have m6 : nI b - nI b / (6 : Int32) * (6 : Int32) = nI (b % 6) := nI_mod (b := 6) hb (by omega)
  have hd : b % 6 < 6 := Nat.mod_lt _ (by omega)
  unfold f_L_plates
  rw [kif_f (by decide), gAI_2 k47 (by omega), e2]
  by_cases h0 : mn hm 0 8 = 0
  · rw [kif_t (by rw [h0]; rfl)]
    exact SP.no R T G (kx h) rfl
  · have hp : a % mn hm 0 8 < mn hm 0 8 := Nat.mod_lt _ (by omega)
    rw [kif_f (by rw [show (0 : Int32) = nI 0 from rfl, ka_eq (by omega) (by omega)]; exact h0), gAI_2 k47 (by omega), e2, kdv_k (by omega) (by omega), nI_mod ha (by omega)]
    generalize a % mn hm 0 8 = p at hp
    have RX := R.X 0
    obtain ⟨n, hnj, hn, -, y⟩ := rd_holder RX (by omega)
    obtain ⟨g1, n', o1, o2, o3, o4, b2', hn'⟩ := op_sell (R.X 0) (by omega) hp hd
    obtain rfl : n' = n := nI_inj (hn'.symm.trans hn) (by omega) (by omega)
    obtain ⟨hm1, ehm⟩ : ∃ hm1, hm1 = mHolds (sI hm 0 35 0) (nI p) (nI (b % 6)) (nI (mn hm 0 0)) n' := ⟨_, rfl⟩
    rw [← ehm] at o2
    have am : kAg (fun a k => (a = 9 ∨ a = 10 ∨ a = 11) ∧ k = n' ∨ a = 0 ∧ k = 12) (sI hm 0 35 0) hm1 := by rw [ehm]; exact mHolds_ag _ _ _ _ _
    have em : ∀ x k, ¬ ((x = 9 ∨ x = 10 ∨ x = 11) ∧ k = n' ∨ x = 0 ∧ (k = 12 ∨ k = 35)) → kI hm1 x k = kI hm x k := fun x k q => by
      rw [(am.1 x k (by omega)).1, kI_sI, if_neg (by omega)]
    have T1 : TT (sX h 0) hm1 := (T.X 0).cg (fun a k z => em a k (by omega))
    have G1 : GI hm1 c := (G.thr 0).ag am (fun a k z => by omega)
    have T4 := T1.fl o3
    obtain ⟨k47', n47'⟩ := T4.1.2.2.2.2.2.1
    have eN : kI hm1 0 0 = nI (mn hm 0 0) := by rw [em _ _ (by omega)]; exact R.min.2.1
    have eNn : mn hm1 0 0 = mn hm 0 0 := mn_of eN (by omega)
    have e8 : mn hm1 0 8 = mn hm 0 8 := mn_at (em _ _ (by omega))
    have w0 : kI g1 47 0 = nI (mn hm 0 0) := T4.2.2.2.2.2.1.1.trans eN
    have o2X := o2.X 0
    obtain ⟨n1', b1', y1, -, y2⟩ := rd_holder o2X (by omega)
    have z4 : kI hm1 0 12 = nI (n' + 1) := by rw [ehm]; rfl
    have z5 : kI hm1 9 n' = nI p := by rw [ehm]; unfold mHolds; rw [kI_sI, if_neg (by omega), kI_sI, if_neg (by omega), kI_sI, if_neg (by omega), kI_sI, if_pos ⟨rfl, rfl⟩]
    have z6 : kI hm1 10 n' = nI (b % 6) := by rw [ehm]; unfold mHolds; rw [kI_sI, if_neg (by omega), kI_sI, if_neg (by omega), kI_sI, if_pos ⟨rfl, rfl⟩]
    have z7 : kI hm1 11 n' = nI (mn hm 0 0) := by rw [ehm]; unfold mHolds; rw [kI_sI, if_neg (by omega), kI_sI, if_pos ⟨rfl, rfl⟩]
    obtain rfl : n1' = n' + 1 := nI_inj (y1.symm.trans z4) (by omega) (by omega)
    have hb0 : sHold hm1 p (mn hm 0 0) (n' + 1) = nI (b % 6) := by
      unfold sHold
      rw [if_pos ⟨mn_of z5 (by omega), by rw [mn_of z7 (by omega)]; exact Nat.le_refl _⟩, z6]
    have hb1 : mn hm 0 0 ≠ 0 → sHold hm1 p (mn hm 0 0 - 1) (n' + 1) = sHold hm p (mn hm 0 0 - 1) n' := fun hne => by
      have e : sHold hm1 p (mn hm 0 0 - 1) (n' + 1) = if mn hm1 9 n' = p ∧ mn hm1 11 n' ≤ mn hm 0 0 - 1 then kI hm1 10 n' else sHold hm1 p (mn hm 0 0 - 1) n' := rfl
      rw [e, if_neg (by rw [mn_of z7 (by omega)]; omega)]
      exact sHold_lt (n := n') _ _ (fun k hk => ⟨em _ _ (by omega), em _ _ (by omega), em _ _ (by omega)⟩)
    have b297 : ∀ s0, (mn hm 0 0 ≠ 0 → s0 = sHold hm p (mn hm 0 0 - 1) n') → L_plates_b297 j 0 (nI b) 47 (nI p) (sHold hm p (mn hm 0 0) n') s0 (sX h 0) = kret 1 (sX g1 0) := fun s0 hs => by
      unfold L_plates_b297
      rw [kd4 (by decide), m6, kV_k (show kd (sX (sX h 0) (1000 + j)) 0 = 10 from R.1.1.d0), o1, kb_ret, kif_t rfl, gAI_0 k47' (by omega), w0, kV_k o2X.1.1.d0, y2 _ _ (by omega) (by omega), kb_ret, kd4 (by decide), kif_t hb0, gAI_0 (show kd (sX g1 0) 47 = 31 from k47') (by show 0 < kn g1 47; omega), show kI (sX g1 0) 47 0 = nI (mn hm 0 0) from w0]
      by_cases hz : mn hm 0 0 = 0
      · rw [kif_t (by rw [hz]; rfl)]
        rfl
      · rw [kif_f (by rw [show (0 : Int32) = nI 0 from rfl, ka_eq (by omega) (by omega)]; exact hz), gAI_0 (show kd (sX g1 0) 47 = 31 from k47') (by show 0 < kn g1 47; omega), show kI (sX g1 0) 47 0 = nI (mn hm 0 0) from w0, ka_pred (by omega), sX_X, kV_k o2X.1.1.d0, y2 _ _ (by omega) (by omega), kb_ret, kif_t ((hb1 hz).trans (hs hz).symm)]
        rfl
    refine SP.op o2 T1 o3 o4 (Or.inr (by omega)) G1 (F41.of (FL.X h 0)) (FF.X h 0) 0 ?_
    rw [gAI_0 k47 (by omega), e0, kV_k RX.1.1.d0, y _ _ hp (Nat.le_refl _), kb_ret, gAI_0 (show kd (sX h 0) 47 = 31 from k47) (by show 0 < kn h 47; omega), show kI (sX h 0) 47 0 = nI (mn hm 0 0) from e0]
    by_cases hz : mn hm 0 0 = 0
    · rw [kif_t (by rw [hz]; rfl)]
      exact b297 (-1) (fun q => absurd hz q)
    · rw [kif_f (by rw [show (0 : Int32) = nI 0 from rfl, ka_eq (by omega) (by omega)]; exact hz), gAI_0 (show kd (sX h 0) 47 = 31 from k47) (by show 0 < kn h 47; omega), show kI (sX h 0) 47 0 = nI (mn hm 0 0) from e0, ka_pred (by omega), sX_X, kV_k RX.1.1.d0, y _ _ hp (by omega), kb_ret]
      exact b297 _ (fun _ => rfl)
end PLATES2
