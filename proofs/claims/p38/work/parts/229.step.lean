/-! a step -/
section STEP
variable {j c : Nat} {h hm : KH}
theorem st_alike (R : RR j h hm) (hj : j < 500) (T : TT h hm) (G : GI hm c) (g : Nat) {x y : Nat} (hx : x < 14) (hy : y < 14) (hne : x ≠ y) : SP j c h (gAI h 46 31 (nI x) (fun x7 => pAI h 46 31 (nI x) (x7 ^^^ ((1 : Int32) <<< (nI y &&& 31))) (fun h5 => gAI h5 46 31 (nI y) (fun x8 => pAI h5 46 31 (nI y) (x8 ^^^ ((1 : Int32) <<< (nI x &&& 31))) (fun h6 => kcallV 10 0 (sX h6 (0)) (f_zX9_alike 0 (nI x) (nI y) (sX h6 (0))) (fun x9 h7 => gAI h7 46 31 (nI x) (fun x10 => kif (((x10 >>> (nI y &&& 31)) &&& (1 : Int32)) = 1) (L_step_b415 g 1 x9 h7) (L_step_b415 g 0 x9 h7)))))))) := by
  obtain ⟨k46, n46⟩ := T.1.2.2.2.2.1
  obtain ⟨Mx, x1, x2, x3⟩ := T.2.2.2.2.1 x (by omega)
  obtain ⟨My, y1, y2, y3⟩ := T.2.2.2.2.1 y (by omega)
  have hsy : ∀ a b, a < 15 → b < 15 → kI hm 5 (15 * a + b) = kI hm 5 (15 * b + a) := R.2.2.2.2.2.2.2.1.2
  have M01 := R.MX.2.2.2.2.2.2
  obtain ⟨h2, eh2⟩ : ∃ h2, h2 = sI (sI h 46 x (nI (Mx ^^^ 2 ^ y))) 46 y (nI (My ^^^ 2 ^ x)) := ⟨_, rfl⟩
  have R2 : RR j h2 hm := by rw [eh2]; exact (R.lI (Or.inl (by omega))).lI (Or.inl (by omega))
  obtain ⟨g1, ho⟩ := op_alike R2 (by omega) hx hy hne
  obtain ⟨v, ev⟩ : ∃ v : Int32, v = if kI hm 5 (15 * x + y) = 0 then 1 else 0 := ⟨_, rfl⟩
  obtain ⟨o1, o2, o3, o4⟩ := ho v ev
  obtain ⟨hm1, ehm⟩ : ∃ hm1, hm1 = sI (sI (sI hm 0 35 0) 5 (15 * x + y) v) 5 (15 * y + x) v := ⟨_, rfl⟩
  rw [← ehm] at o2
  have em : ∀ a k, a ≠ 5 → ¬ (a = 0 ∧ k = 35) → kI hm1 a k = kI hm a k := fun a k q1 q2 => by
    rw [ehm, kI_sI, if_neg (fun z => q1 z.1), kI_sI, if_neg (fun z => q1 z.1), kI_sI, if_neg q2]
  have p15 : ∀ k, k < 14 → (2 : Nat) ^ k < 2 ^ 15 := fun k hk => Nat.pow_lt_pow_right (by omega) (by omega)
  have lx : Mx ^^^ 2 ^ y < 32768 := Nat.xor_lt_two_pow (n := 15) x1 (p15 y hy)
  have ly : My ^^^ 2 ^ x < 32768 := Nat.xor_lt_two_pow (n := 15) y1 (p15 x hx)
  have hv0 : (mn hm 5 (15 * x + y) ≠ 0) = ¬ (v ≠ 0) := by
    rcases M01 x y (by omega) (by omega) with ⟨w1, w2⟩ | ⟨w1, w2⟩
    · rw [ev, w1, w2, if_pos rfl]
      simp
    · rw [ev, w1, w2, if_neg (by decide)]
      simp
  have vmn : ∀ k, kI hm1 5 k = v → (mn hm1 5 k ≠ 0 ↔ v ≠ 0) := fun k e => by
    have : v = 0 ∨ v = 1 := by rw [ev]; split; exact Or.inr rfl; exact Or.inl rfl
    unfold mn
    rw [e]
    rcases this with w | w <;> rw [w] <;> decide
  have c1 : kI hm1 5 (15 * x + y) = v := by
    rw [ehm, kI_sI]
    split
    · rfl
    · rw [kI_sI, if_pos ⟨rfl, rfl⟩]
  have c2 : kI hm1 5 (15 * y + x) = v := by rw [ehm, kI_sI, if_pos ⟨rfl, rfl⟩]
  have c3 : ∀ a b, a < 15 → b < 15 → ¬ (a = x ∧ b = y) → ¬ (a = y ∧ b = x) → kI hm1 5 (15 * a + b) = kI hm 5 (15 * a + b) := fun a b ha hb q1 q2 => by
    rw [ehm, kI_sI, if_neg (by omega), kI_sI, if_neg (by omega), kI_sI, if_neg (by omega)]
  have T2 : TT h2 hm1 := by
    obtain ⟨q1, ⟨q2, q3⟩, q4, q5, q6, q7, q8, q9⟩ := T
    have e : ∀ a k, a ≠ 46 → kI h2 a k = kI h a k := fun a k z => by rw [eh2, kI_sI, if_neg (fun y => z y.1), kI_sI, if_neg (fun y => z y.1)]
    refine ⟨q1.to (by rw [eh2]; rfl) (by rw [eh2]; rfl), ⟨t0_cg q2 (e _ _ (by omega)) (fun k => em _ _ (by omega) (by omega)) (em _ _ (by omega) (by omega)), tp_cg q3 (fun k => e _ _ (by omega)) (em _ _ (by omega) (by omega)) (fun k => em _ _ (by omega) (by omega)) (fun k => em _ _ (by omega) (by omega))⟩, r_cg q4 (fun k => e _ _ (by omega)) (fun k => e _ _ (by omega)) (em _ _ (by omega) (by omega)) (fun k => em _ _ (by omega) (by omega)) (fun k => em _ _ (by omega) (by omega)) (fun k => em _ _ (by omega) (by omega)) (fun k => em _ _ (by omega) (by omega)) (fun k => em _ _ (by omega) (by omega)) (fun k => em _ _ (by omega) (by omega)), k_cg q5 (fun k => e _ _ (by omega)) (em _ _ (by omega) (by omega)) (fun k => em _ _ (by omega) (by omega)), fun s hs => ?_, c_cg q7 (fun k => e _ _ (by omega)) (em _ _ (by omega) (by omega)) (em _ _ (by omega) (by omega)) (em _ _ (by omega) (by omega)) (em _ _ (by omega) (by omega)), w_cg q8 (fun k => e _ _ (by omega)) (fun k => em _ _ (by omega) (by omega)), e_cg q9 (fun k => e _ _ (by omega)) (fun k => em _ _ (by omega) (by omega))⟩
    by_cases sy : s = y
    · refine ⟨My ^^^ 2 ^ x, ly, by rw [eh2, kI_sI, if_pos ⟨rfl, sy⟩], fun b hb => ?_⟩
      rw [sy, Nat.testBit_xor, Nat.testBit_two_pow]
      by_cases bx : b = x
      · rw [bx, vmn _ c2]
        have q := y3 x (by omega)
        have e5 : mn hm 5 (15 * y + x) = mn hm 5 (15 * x + y) := by unfold mn; rw [hsy y x (by omega) (by omega)]
        rw [e5, hv0] at q
        cases hB : My.testBit x <;> rw [hB] at q <;> simp at q ⊢ <;> exact q
      · rw [show decide (x = b) = false from decide_eq_false (fun z => bx z.symm), Bool.xor_false, mn_at (c3 y b (by omega) hb (by omega) (by omega))]
        exact y3 b hb
    · by_cases sx : s = x
      · refine ⟨Mx ^^^ 2 ^ y, lx, by rw [eh2, kI_sI, if_neg (fun z => sy z.2), kI_sI, if_pos ⟨rfl, sx⟩], fun b hb => ?_⟩
        rw [sx, Nat.testBit_xor, Nat.testBit_two_pow]
        by_cases bx : b = y
        · rw [bx, vmn _ c1]
          have q := x3 y (by omega)
          rw [hv0] at q
          cases hB : Mx.testBit y <;> rw [hB] at q <;> simp at q ⊢ <;> exact q
        · rw [show decide (y = b) = false from decide_eq_false (fun z => bx z.symm), Bool.xor_false, mn_at (c3 x b (by omega) hb (by omega) (by omega))]
          exact x3 b hb
      · obtain ⟨Ms, s1, s2, s3⟩ := q6 s hs
        refine ⟨Ms, s1, by rw [eh2, kI_sI, if_neg (fun z => sy z.2), kI_sI, if_neg (fun z => sx z.2)]; exact s2, fun b hb => ?_⟩
        rw [mn_at (c3 s b hs hb (by omega) (by omega))]
        exact s3 b hb
  have G1 : GI hm1 c := by rw [ehm]; exact ((G.thr 0).ag (kAg.I _ 5 _ v) (fun a k z => by omega)).ag (kAg.I _ 5 _ v) (fun a k z => by omega)
  have q41 : F41 h h2 := by rw [eh2]; exact (F41.I h _ _ (by omega)).trans (F41.I _ _ _ (by omega))
  have qFF : FF h h2 := by rw [eh2]; exact fun _ _ _ q => q
  have T4 := T2.fl o3
  obtain ⟨k46', n46'⟩ := T4.1.2.2.2.2.1
  obtain ⟨M', m1, m2, m3⟩ := T4.2.2.2.2.1 x (by omega)
  refine SP.op o2 T2 o3 o4 (Or.inl (by omega)) G1 q41 qFF (kx g1) ?_
  rw [gAI_k k46 (by omega) (by omega), x2, kb_xor (by omega), pAI_k k46 (by omega) (by omega), gAI_k (show kd (sI h 46 x (nI (Mx ^^^ 2 ^ y))) 46 = 31 from k46) (by show y < kn h 46; omega) (by omega), kI_sI, if_neg (by omega), y2, kb_xor (by omega), pAI_k (show kd (sI h 46 x (nI (Mx ^^^ 2 ^ y))) 46 = 31 from k46) (by show y < kn h 46; omega) (by omega), ← eh2, kV_k (R2.X 0).1.1.d0, o1, kb_ret, gAI_k k46' (by omega) (by omega), m2]
  have hb := m3 y (by omega)
  rw [vmn _ c1] at hb
  by_cases hv : v = 0
  · rw [kif_f (by rw [kb_bit m1 (by omega), hb]; exact fun z => z hv)]
    unfold L_step_b415
    rw [kif_t hv]
    rfl
  · have hv1 : v = 1 := by
      rw [ev] at hv ⊢
      split
      · rfl
      · rename_i z
        rw [if_neg z] at hv
        exact absurd rfl hv
    rw [kif_t (by rw [kb_bit m1 (by omega), hb]; exact hv)]
    unfold L_step_b415
    rw [kif_t hv1]
    rfl
theorem SP.bd {w : KO Int32} (s : SP j c h w) : SP j c h (kbind w (fun x1 h1 => kretZ x1 h1)) := by
  obtain ⟨h1, hm1, e, r⟩ := s
  refine ⟨h1, hm1, ?_, r⟩
  rw [e]
  rfl
theorem law_step (R : RR j h hm) (hj : j < 500) (T : TT h hm) (G : GI hm c) {K a b : Nat} (hK : K < 23) (ha : a < 1073741824) (hb : b < 1073741824) : SP j c h (f_L_step j 0 (nI K) (nI a) (nI b) 42 43 44 45 46 47 48 49 h) := by
  have ha' : a < 2147483648 := by omega
  have hb' : b < 2147483648 := by omega
  have kk : ∀ n : Nat, 0 < n → n < 1000 → ∀ x : KO Int32, kdv (nI n) x = x := fun n h1 h2 x => kdv_k h1 (by omega)
  have md : ∀ n : Nat, n < 1000 → ∀ q : Nat, q < 2147483648 → nI q - nI q / nI n * nI n = nI (q % n) := fun n h1 q h2 => nI_mod h2 (by omega)
  have le : ∀ n : Nat, n < 1000 → (nI n ≤ nI K) = (n ≤ K) := fun n h1 => ka_le (by omega) (by omega)
  have eq : ∀ n : Nat, n < 1000 → (nI K = nI n) = (K = n) := fun n h1 => ka_eq (by omega) (by omega)
  have tx : ∀ K', K' < 4 → SP j c h (L_step_b42 j (nI a) (nI b) 42 (nI K') 0 h) := fun K' hK' => (law_texts R (by omega) T G hK' ha' hb').bd
  have rd : ∀ K', K' = 0 ∨ K' = 3 ∨ K' = 4 → SP j c h (L_step_b101 j (nI a) (nI b) 42 43 44 47 (nI K') 0 h) := fun K' hK' => (law_readings R hj T G hK' ha' hb').bd
  unfold f_L_step
  by_cases c5 : 5 ≤ K
  · rw [kif_t (by rw [show (5 : Int32) = nI 5 from rfl, le 5 (by omega)]; exact c5)]
    by_cases c8 : 8 ≤ K
    · rw [kif_t (by rw [show (8 : Int32) = nI 8 from rfl, le 8 (by omega)]; exact c8)]
      by_cases c15 : 15 ≤ K
      · rw [kif_t (by rw [show (15 : Int32) = nI 15 from rfl, le 15 (by omega)]; exact c15)]
        by_cases c18 : 18 ≤ K
        · rw [kif_t (by rw [show (18 : Int32) = nI 18 from rfl, le 18 (by omega)]; exact c18)]
          by_cases c20 : 20 ≤ K
          · rw [kif_t (by rw [show (20 : Int32) = nI 20 from rfl, le 20 (by omega)]; exact c20)]
            by_cases e20 : K = 20
            · rw [kif_t (by rw [show (20 : Int32) = nI 20 from rfl, eq 20 (by omega)]; exact e20)]
              have k14 : ∀ x : KO Int32, kdv (14 : Int32) x = x := kk 14 (by omega) (by omega)
              have k13 : ∀ x : KO Int32, kdv (13 : Int32) x = x := kk 13 (by omega) (by omega)
              have m14 : nI a - nI a / (14 : Int32) * (14 : Int32) = nI (a % 14) := md 14 (by omega) a ha'
              have m13 : nI b - nI b / (13 : Int32) * (13 : Int32) = nI (b % 13) := md 13 (by omega) b hb'
              have es : nI (a % 14) + (1 : Int32) + nI (b % 13) = nI (a % 14 + 1 + b % 13) := by rw [nI_1, ka_add]
              have my : nI (a % 14 + 1 + b % 13) - nI (a % 14 + 1 + b % 13) / (14 : Int32) * (14 : Int32) = nI ((a % 14 + 1 + b % 13) % 14) := md 14 (by omega) _ (by omega)
              simp only [k14, k13, m14, m13, es, my]
              exact st_alike R hj T G j (Nat.mod_lt _ (by omega)) (Nat.mod_lt _ (by omega)) (by omega)
            · rw [kif_f (by rw [show (20 : Int32) = nI 20 from rfl, eq 20 (by omega)]; exact e20)]
              by_cases e21 : K = 21
              · rw [kif_t (by rw [show (21 : Int32) = nI 21 from rfl, eq 21 (by omega)]; exact e21)]
                have k60 : ∀ x : KO Int32, kdv (60 : Int32) x = x := kk 60 (by omega) (by omega)
                have m60 : nI b - nI b / (60 : Int32) * (60 : Int32) = nI (b % 60) := md 60 (by omega) b hb'
                simp only [k60, m60]
                exact st_pause R (by omega) T G j (by omega)
              · rw [kif_f (by rw [show (21 : Int32) = nI 21 from rfl, eq 21 (by omega)]; exact e21)]
                have k4 : ∀ x : KO Int32, kdv (4 : Int32) x = x := kk 4 (by omega) (by omega)
                have k51 : ∀ x : KO Int32, kdv (51 : Int32) x = x := kk 51 (by omega) (by omega)
                have m4 : nI a - nI a / (4 : Int32) * (4 : Int32) = nI (a % 4) := md 4 (by omega) a ha'
                have m51 : nI b - nI b / (51 : Int32) * (51 : Int32) = nI (b % 51) := md 51 (by omega) b hb'
                simp only [k4, k51, m4, m51]
                exact st_rate R (by omega) T G j (Nat.mod_lt _ (by omega)) (by omega)
          · rw [kif_f (by rw [show (20 : Int32) = nI 20 from rfl, le 20 (by omega)]; exact c20), kd4 (by decide)]
            have ps : ∀ s0 : Nat, 0 < s0 → s0 ≤ 2000 → SP j c h (L_step_b262 j 0 47 (nI s0) (nI b) 1 h) := fun s0 h1 h2 => by
              have hk : b % s0 < s0 := Nat.mod_lt _ h1
              obtain ⟨k47, n47⟩ := T.1.2.2.2.2.2.1
              have hN := R.min.2.2
              have e0 : kI h 47 0 = nI (mn hm 0 0) := T.2.2.2.2.2.1.1.trans R.min.2.1
              have es : (1 : Int32) + nI (b % s0) = nI (1 + b % s0) := ka_add 1 _
              unfold L_step_b262
              rw [kdv_k h1 (by omega), nI_mod hb' (by omega), es, gAI_0 k47 (by omega), e0, ka_add]
              by_cases hov : 50000 < mn hm 0 0 + (1 + b % s0)
              · rw [kif_t (by rw [show (50000 : Int32) = nI 50000 from rfl, ka_lt (by omega) (by omega)]; exact hov)]
                exact st_pass R (by omega) T G j (by omega) (by omega) 0 (Or.inl rfl)
              · rw [kif_f (by rw [show (50000 : Int32) = nI 50000 from rfl, ka_lt (by omega) (by omega)]; exact hov)]
                exact st_pass R (by omega) T G j (by omega) (by omega) 1 (Or.inr ⟨rfl, by omega⟩)
            unfold kif
            split
            · exact ps 2000 (by omega) (by omega)
            · exact ps 40 (by omega) (by omega)
        · rw [kif_f (by rw [show (18 : Int32) = nI 18 from rfl, le 18 (by omega)]; exact c18)]
          have m8 : nI a - nI a / (8 : Int32) * (8 : Int32) = nI (a % 8) := md 8 (by omega) a ha'
          have d8 : nI a / (8 : Int32) = nI (a / 8) := nI_div (b := 8) ha' (by omega)
          have m7 : nI (a / 8) - nI (a / 8) / (7 : Int32) * (7 : Int32) = nI (a / 8 % 7) := md 7 (by omega) _ (by omega)
          have es : nI (a % 8) + (1 : Int32) + nI (a / 8 % 7) = nI (a % 8 + 1 + a / 8 % 7) := by rw [nI_1, ka_add]
          have my : nI (a % 8 + 1 + a / 8 % 7) - nI (a % 8 + 1 + a / 8 % 7) / (8 : Int32) * (8 : Int32) = nI ((a % 8 + 1 + a / 8 % 7) % 8) := md 8 (by omega) _ (by omega)
          have d6 : nI b / (6 : Int32) = nI (b / 6) := nI_div (b := 6) hb' (by omega)
          have road : ∀ v : Nat, v ≤ 200 → SP j c h (L_step_b178 j 0 48 (nI (a % 8)) (nI ((a % 8 + 1 + a / 8 % 7) % 8)) (nI v) h) := fun v hv => st_road R (by omega) T G j (Nat.mod_lt _ (by omega)) (Nat.mod_lt _ (by omega)) (by omega) hv
          have r176 : ∀ s0 : Nat, 0 < s0 → s0 ≤ 200 → SP j c h (L_step_b176 j 0 48 (nI (a % 8)) (nI ((a % 8 + 1 + a / 8 % 7) % 8)) (nI s0) (nI (b / 6)) 1 h) := fun s0 h1 h2 => by
            have hk : b / 6 % s0 < s0 := Nat.mod_lt _ h1
            have e1 : (1 : Int32) + nI (b / 6 % s0) = nI (1 + b / 6 % s0) := ka_add 1 _
            unfold L_step_b176
            rw [kdv_k h1 (by omega), nI_mod (by omega) (by omega), e1]
            exact road _ (by omega)
          rw [kd4 (by decide), kd4 (by decide), kd4 (by decide), kd4 (by decide), kd4 (by decide), m8, d8, m7, es, my, d6]
          unfold kif
          split
          · exact road 0 (by omega)
          · rw [kd4 (by decide), kd4 (by decide)]
            split
            · exact r176 200 (by omega) (by omega)
            · exact r176 20 (by omega) (by omega)
      · rw [kif_f (by rw [show (15 : Int32) = nI 15 from rfl, le 15 (by omega)]; exact c15)]
        by_cases c13 : 13 ≤ K
        · rw [kif_t (by rw [show (13 : Int32) = nI 13 from rfl, le 13 (by omega)]; exact c13), show nI K - (10 : Int32) = nI (K - 10) from ka_sub (b := 10) (by omega)]
          exact rd (K - 10) (by omega)
        · rw [kif_f (by rw [show (13 : Int32) = nI 13 from rfl, le 13 (by omega)]; exact c13)]
          exact rd 0 (Or.inl rfl)
    · rw [kif_f (by rw [show (8 : Int32) = nI 8 from rfl, le 8 (by omega)]; exact c8)]
      by_cases c7 : 7 ≤ K
      · rw [kif_t (by rw [show (7 : Int32) = nI 7 from rfl, le 7 (by omega)]; exact c7)]
        exact (st_sell R hj T G ha' hb').bd
      · rw [kif_f (by rw [show (7 : Int32) = nI 7 from rfl, le 7 (by omega)]; exact c7)]
        exact (st_reg R hj T G ha' hb' j).bd
  · rw [kif_f (by rw [show (5 : Int32) = nI 5 from rfl, le 5 (by omega)]; exact c5)]
    by_cases c3 : 3 ≤ K
    · rw [kif_t (by rw [show (3 : Int32) = nI 3 from rfl, le 3 (by omega)]; exact c3)]
      by_cases e3 : K = 3
      · have d7 : nI b / (7 : Int32) = nI (b / 7) := nI_div (b := 7) hb' (by omega)
        have m2 : nI (b / 7) - nI (b / 7) / (2 : Int32) * (2 : Int32) = nI (b / 7 % 2) := md 2 (by omega) _ (by omega)
        have e1 : (1 : Int32) + nI (b / 7 % 2) = nI (1 + b / 7 % 2) := ka_add 1 _
        rw [kif_t (by rw [show (3 : Int32) = nI 3 from rfl, eq 3 (by omega)]; exact e3), kd4 (by decide), kd4 (by decide), d7, m2, e1]
        exact tx _ (by omega)
      · rw [kif_f (by rw [show (3 : Int32) = nI 3 from rfl, eq 3 (by omega)]; exact e3), kd4 (by decide)]
        unfold kif
        split
        · exact tx 3 (by omega)
        · exact tx 0 (by omega)
    · rw [kif_f (by rw [show (3 : Int32) = nI 3 from rfl, le 3 (by omega)]; exact c3)]
      exact tx 0 (by omega)
end STEP
