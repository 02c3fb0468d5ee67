/-! the texts' steps, and alike -/
theorem kd4 {y : Int32} {x : KO Int32} (h : y ≠ 0) : kdv y x = x := if_neg h
section TEXTS
variable {j c : Nat} {h hm : KH}
theorem asks_0 {s : Int32} {w : KO Int32} {h2 : KH} (k : kd h2 0 = 10) (e : f_X9_spell 0 s (sX h2 0) = w) (z : Int32) : f_L_asks 0 0 s z h2 = kcatch w (fun e h1 => if e = 3 then kret (-107) h1 else if e = 2 then kret (-108) h1 else if e = 1 then kret (-109) h1 else none) (fun x6 h6 => L_asks_b73 x6 h6) := by
  unfold f_L_asks
  rw [kif_t rfl]
  unfold kcatchV
  rw [if_pos (show kd (sX h2 0) 0 = 10 from k), e]
theorem asks_4 {s p : Int32} {w : KO Int32} {h2 : KH} (k : kd h2 0 = 10) (e : f_X9_insert 0 s p (sX h2 0) = w) : f_L_asks 0 4 s p h2 = kcatch w (fun e h1 => if e = 3 then kret (-107) h1 else if e = 2 then kret (-108) h1 else if e = 1 then kret (-109) h1 else none) (fun x6 h6 => L_asks_b73 x6 h6) := by
  unfold f_L_asks
  rw [kif_f (by decide), kif_f (by decide), kif_f (by decide), kif_f (by decide), kif_t rfl]
  unfold kcatchV
  rw [if_pos (show kd (sX h2 0) 0 = 10 from k), e]
theorem mPut_5 (g : KH) (v : Int32) (p : Nat) {n : Nat} (hn : n < 100) : mn (mPut g v p n) 0 5 = n + 1 := mn_of (a := 0) (k := 5) rfl (by omega)
theorem mPut_4 (g : KH) {s p n : Nat} (hs : s < 16) : ∀ k, k < n + 1 → mn (mPut g (nI s) p n) 4 k = put (mn g 4) s p k := by
  intro k hk
  have e : kI (mPut g (nI s) p n) 4 k = kPut (kI g 4) (nI s) p n k := rfl
  unfold mn put
  rw [e]
  unfold kPut
  split
  · rfl
  · split
    · rw [nI_clamp (by omega)]
    · rw [if_pos (by omega)]
theorem TT.text (T : TT h hm) {hm1 : KH} {n s p : Nat} (hn : n < 6) (hs : s < 15) (e1 : hm1 = mPut (sI hm 0 35 0) (nI s) p n) : TT (sI h 42 0 (nI (pkT (put (mn hm 4) s p) (n + 1)))) hm1 := by
  obtain ⟨t1, ⟨t2, t3⟩, t4, t5, t6, t7, t8, t9⟩ := T
  subst e1
  refine ⟨t1, ⟨?_, fun q hq => ?_⟩, t4, t5, t6, t7, t8, t9⟩
  · rw [kI_sI, if_pos ⟨rfl, rfl⟩, mPut_5 _ _ _ (by omega), pkT_cg (mPut_4 (sI hm 0 35 0) (s := s) (p := p) (by omega))]
    rfl
  · rw [kI_sI, if_neg (by omega)]
    exact t3 q hq
theorem GI.text (G : GI hm c) (v : Int32) (p n : Nat) : GI (mPut (sI hm 0 35 0) v p n) c := (G.thr 0).ag (mPut_ag _ v p n) (fun a k z => by omega)
theorem TT.same (T : TT h hm) {v : Int32} (e : v = kI h 42 0) : TT (sI h 42 0 v) hm := by
  obtain ⟨t1, ⟨t2, t3⟩, t4, t5, t6, t7, t8, t9⟩ := T
  exact ⟨t1, ⟨by rw [kI_sI, if_pos ⟨rfl, rfl⟩, e]; exact t2, fun q hq => by rw [kI_sI, if_neg (by omega)]; exact t3 q hq⟩, t4, t5, t6, t7, t8, t9⟩
theorem st_spell (R : RR j h hm) (hj : j < 512) (T : TT h hm) (G : GI hm c) {s : Nat} (hs : s < 15) (v3 : Int32) : SP j c h (L_texts_b33 0 0 v3 42 (nI (pkT (mn hm 4) (mn hm 0 5))) (nI (mn hm 0 5)) (nI s) h) := by
  obtain ⟨k42, n42⟩ := T.1.1
  obtain ⟨t1, t2, t3, t4⟩ := R.txt
  have h16 : ∀ k, k < mn hm 0 5 → mn hm 4 k < 16 := fun k hk => by have := (t4 k hk).1; omega
  unfold L_texts_b33
  rw [kif_t rfl]
  by_cases hf : 6 ≤ mn hm 0 5
  · have h6 : mn hm 0 5 = 6 := by omega
    have R2 : RR j (sI h 42 0 (nI (pkT (mn hm 4) (mn hm 0 5)))) hm := R.lI (Or.inl (by omega))
    obtain ⟨g, o1, o2, o3, o4⟩ := op_spellNo R2 hj hs h6
    refine SP.op o2 ((T.same T.2.1.1.symm).thr 2) o3 o4 (Or.inl (by omega)) (G.thr 2) (F41.I h _ _ (by omega)) (FF.I h _ _ _) (kx g) ?_
    rw [kif_t (by rw [show (6 : Int32) = nI 6 from rfl, ka_le (by omega) (by omega)]; exact hf)]
    unfold L_texts_b51
    rw [kif_t rfl]
    unfold L_texts_b79
    rw [pAI_0 k42 (by omega), asks_0 R2.1.1.d0 o1]
    rfl
  · have hn : mn hm 0 5 < 6 := by omega
    have R2 : RR j (sI h 42 0 (nI (pkT (put (mn hm 4) s (mn hm 0 5)) (mn hm 0 5 + 1)))) hm := R.lI (Or.inl (by omega))
    obtain ⟨d, g, o1, d1, d2, o2, o3, o4⟩ := op_spell R2 hj hs hn
    refine SP.op o2 (T.text hn hs rfl) o3 o4 (Or.inl (by omega)) (G.text _ _ _) (F41.I h _ _ (by omega)) (FF.I h _ _ _) (kx g) ?_
    rw [kif_f (by rw [show (6 : Int32) = nI 6 from rfl, ka_le (by omega) (by omega)]; exact hf)]
    unfold L_texts_b51
    rw [kif_f (by decide), tx_append hn (by omega) h16]
    unfold L_texts_b79
    rw [pAI_0 k42 (by omega), asks_0 R2.1.1.d0 o1]
    show kif _ _ (kif (nI d ≤ nI (mn hm 0 5)) _ _) = _
    rw [kif_f (by decide), kif_f (by rw [ka_le (by omega) (by omega)]; omega), kif_f (by rw [show (2 : Int32) * nI (mn hm 0 5) = nI (2 * mn hm 0 5) from ka_mul 2 _, show nI (2 * mn hm 0 5) + (2 : Int32) = nI (2 * mn hm 0 5 + 2) from ka_add _ 2, ka_lt (by omega) (by omega)]; omega)]
    rfl
theorem st_insert (R : RR j h hm) (hj : j < 512) (T : TT h hm) (G : GI hm c) {s b : Nat} (hs : s < 15) (hb : b < 2147483648) : SP j c h (L_texts_b33 0 1 (nI b) 42 (nI (pkT (mn hm 4) (mn hm 0 5))) (nI (mn hm 0 5)) (nI s) h) := by
  obtain ⟨k42, n42⟩ := T.1.1
  obtain ⟨t1, t2, t3, t4⟩ := R.txt
  have h16 : ∀ k, k < mn hm 0 5 → mn hm 4 k < 16 := fun k hk => by have := (t4 k hk).1; omega
  have hp : b % (mn hm 0 5 + 1) ≤ mn hm 0 5 := by
    have := Nat.mod_lt b (show 0 < mn hm 0 5 + 1 by omega)
    omega
  unfold L_texts_b33
  rw [kif_f (by decide), kif_t rfl, nI_1, kdv_k (by omega) (by omega), nI_mod hb (by omega)]
  generalize b % (mn hm 0 5 + 1) = p at hp
  have bad : (p = mn hm 0 5 ∨ mn hm 0 5 = 6) → SP j c h (L_texts_b165 0 42 (nI (pkT (mn hm 4) (mn hm 0 5))) (nI (mn hm 0 5)) (nI s) (nI p) h) := fun hq => by
    obtain ⟨g, kx', o1, o2, o3, o4⟩ := op_insertNo R hj hs hp hq
    refine SP.op o2 (T.thr kx') o3 o4 (Or.inl (by omega)) (G.thr kx') (F41.rf h) (FF.rf h) (kx g) ?_
    unfold L_texts_b165 L_texts_b166
    rw [asks_4 R.1.1.d0 o1]
    by_cases e : p = mn hm 0 5
    · rw [if_pos e]
      show kif _ (L_texts_b241 (nI (mn hm 0 5)) (nI p) 0 (-109) g) _ = _
      rw [kif_t rfl]
      unfold L_texts_b241
      rw [kif_t rfl, kif_t (by rw [e])]
      rfl
    · rw [if_neg e]
      show kif _ (L_texts_b241 (nI (mn hm 0 5)) (nI p) 0 (-108) g) _ = _
      rw [kif_t rfl]
      unfold L_texts_b241
      rw [kif_t rfl, kif_f (by rw [ka_eq (by omega) (by omega)]; exact e)]
      rfl
  by_cases hf : 6 ≤ mn hm 0 5
  · rw [kif_t (by rw [show (6 : Int32) = nI 6 from rfl, ka_le (by omega) (by omega)]; exact hf)]
    exact bad (Or.inr (by omega))
  · rw [kif_f (by rw [show (6 : Int32) = nI 6 from rfl, ka_le (by omega) (by omega)]; exact hf)]
    by_cases hpn : mn hm 0 5 ≤ p
    · rw [kif_t (by rw [ka_le (by omega) (by omega)]; exact hpn)]
      exact bad (Or.inl (by omega))
    · rw [kif_f (by rw [ka_le (by omega) (by omega)]; exact hpn)]
      have hn : mn hm 0 5 < 6 := by omega
      obtain ⟨d, g, o1, d1, d2, o2, o3, o4⟩ := op_insert R hj hs (show p < mn hm 0 5 by omega) hn
      have T3 := T.fl o3
      obtain ⟨k42', n42'⟩ := T3.1.1
      have R3 : RR (j + 1) (sI g 42 0 (nI (pkT (put (mn hm 4) s p) (mn hm 0 5 + 1)))) (mPut (sI hm 0 35 0) (nI s) p (mn hm 0 5)) := o2.lI (Or.inl (by omega))
      have T4 := T3.text (p := p) hn hs rfl
      have ff := fresh_of o4 (Or.inl (by omega)) o2 (G.text (nI s) p (mn hm 0 5)).2.2.1
      refine ⟨_, _, ?_, R3.mono (by omega), T4, G.text (nI s) p (mn hm 0 5), (F41.of o3).trans (F41.I g _ _ (by omega)), ff.trans (FF.I g _ _ _)⟩
      unfold L_texts_b166
      rw [asks_4 R.1.1.d0 o1]
      show kif _ _ (pAI g 42 31 0 _ _) = _
      rw [kif_f (by decide), pAI_0 k42' (by omega), tx_insert hn hp (by omega) h16]
      show L_texts_b241 (nI (mn hm 0 5)) (nI p) 1 (nI d) _ = _
      unfold L_texts_b241
      rw [kif_f (by decide), kif_f (by rw [ka_le (by omega) (by omega)]; omega)]
      rfl
theorem st_clear (R : RR j h hm) (hj : j < 512) (T : TT h hm) (G : GI hm c) (v3 s : Int32) : SP j c h (L_texts_b33 0 3 v3 42 (nI (pkT (mn hm 4) (mn hm 0 5))) (nI (mn hm 0 5)) s h) := by
  obtain ⟨k42, n42⟩ := T.1.1
  have R2 : RR j (sI h 42 0 0) hm := R.lI (Or.inl (by omega))
  obtain ⟨g, o1, o2, o3, o4⟩ := op_clear R2 hj
  obtain ⟨t1, ⟨t2, t3⟩, t4, t5, t6, t7, t8, t9⟩ := T
  have T2 : TT (sI h 42 0 0) (sI (sI hm 0 35 0) 0 5 0) := ⟨t1, ⟨by
    rw [kI_sI, if_pos ⟨rfl, rfl⟩, show mn (sI (sI hm 0 35 0) 0 5 0) 0 5 = 0 from mn_of (a := 0) (k := 5) (by rw [kI_sI, if_pos ⟨rfl, rfl⟩]; rfl) (by omega)]
    show (0 : Int32) = nI (0 + 0 * 16777216)
    rw [Nat.zero_mul]
    rfl, fun q hq => by rw [kI_sI, if_neg (by omega)]; exact t3 q hq⟩, t4, t5, t6, t7, t8, t9⟩
  refine SP.op o2 T2 o3 o4 (Or.inl (by omega)) ((G.thr 0).ag (kAg.I _ 0 5 0) (fun a k z => by omega)) (F41.I h _ _ (by omega)) (FF.I h _ _ _) (kx g) ?_
  unfold L_texts_b33
  rw [kif_f (by decide), kif_f (by decide), kif_f (by decide), pAI_0 k42 (by omega), kV_k (R2.X 0).1.1.d0, o1, kb_ret, kif_t rfl]
  rfl
theorem st_mirL (R : RR j h hm) (hj : j < 512) (T : TT h hm) (G : GI hm c) : ∀ (f i m : Nat), i ≤ mn hm 0 5 → mn hm 0 5 < i + f → SP j c h (L_texts_L297 f 0 42 (nI (pkT (mn hm 4) (mn hm 0 5))) (nI (mn hm 0 5)) (nI (pk (fun k => mn hm 4 (mn hm 0 5 - 1 - (mn hm 0 5 - i + k))) i * 2 ^ (4 * (mn hm 0 5 - i)))) (nI i) h) := by
  obtain ⟨k42, n42⟩ := T.1.1
  obtain ⟨t1, t2, t3, t4⟩ := R.txt
  have h16 : ∀ k, k < mn hm 0 5 → mn hm 4 k < 16 := fun k hk => by have := (t4 k hk).1; omega
  intro f
  induction f with
  | zero => intro i m h1 h2; omega
  | succ f ih =>
    intro i m h1 h2
    unfold L_texts_L297 L_texts_b297
    by_cases hi : mn hm 0 5 ≤ i
    · obtain rfl : i = mn hm 0 5 := by omega
      have e24 : (nI (pk (fun k => mn hm 4 (mn hm 0 5 - 1 - (mn hm 0 5 - mn hm 0 5 + k))) (mn hm 0 5) * 2 ^ (4 * (mn hm 0 5 - mn hm 0 5)))) ||| (nI (mn hm 0 5) <<< ((24 : Int32) &&& 31)) = nI (pkT (fun k => mn hm 4 (mn hm 0 5 - 1 - k)) (mn hm 0 5)) := by
        rw [Nat.sub_self, Nat.mul_zero, Nat.pow_zero, Nat.mul_one, show (24 : Int32) = nI 24 from rfl, lb_shl (by omega) (by rw [pow24]; omega), nI_or, pow24]
        have e : pk (fun k => mn hm 4 (mn hm 0 5 - 1 - (0 + k))) (mn hm 0 5) = pk (fun k => mn hm 4 (mn hm 0 5 - 1 - k)) (mn hm 0 5) := pk_cg (fun k _ => by rw [Nat.zero_add])
        rw [e, pk_up t1 (fun k hk => h16 _ (by omega))]
        rfl
      have R2 : RR j (sI h 42 0 (nI (pkT (fun k => mn hm 4 (mn hm 0 5 - 1 - k)) (mn hm 0 5)))) hm := R.lI (Or.inl (by omega))
      obtain ⟨g, o1, o2, o3, o4⟩ := op_mirror R2 hj
      obtain ⟨t1, ⟨t2', t3'⟩, t4', t5, t6, t7, t8, t9⟩ := T
      have T2 : TT (sI h 42 0 (nI (pkT (fun k => mn hm 4 (mn hm 0 5 - 1 - k)) (mn hm 0 5)))) (sA (sI hm 0 35 0) 4 (kRev (kI hm 4) (mn hm 0 5))) := ⟨t1, ⟨by
        rw [kI_sI, if_pos ⟨rfl, rfl⟩]
        show _ = nI (pkT (mn (sA (sI hm 0 35 0) 4 (kRev (kI hm 4) (mn hm 0 5))) 4) (mn hm 0 5))
        rw [pkT_cg (g := fun k => mn hm 4 (mn hm 0 5 - 1 - k)) (g' := mn (sA (sI hm 0 35 0) 4 (kRev (kI hm 4) (mn hm 0 5))) 4) (fun k hk => by
          show _ = (kRev (kI hm 4) (mn hm 0 5) k).toNatClampNeg
          unfold kRev
          rw [if_pos hk]
          rfl)], fun q hq => by rw [kI_sI, if_neg (by omega)]; exact t3' q hq⟩, t4', t5, t6, t7, t8, t9⟩
      refine SP.op o2 T2 o3 o4 (Or.inl (by omega)) ((G.thr 0).ag (kAg.A _ 4 _) (fun a k z => by omega)) (F41.I h _ _ (by omega)) (FF.I h _ _ _) (kx g) ?_
      rw [kif_t (by rw [ka_le (by omega) (by omega)]; omega), e24, pAI_0 k42 (by omega), kV_k (R2.X 0).1.1.d0, o1, kb_ret, kif_t rfl]
      rfl
    · have hT := pkT_lt t1 h16
      rw [kif_f (by rw [ka_le (by omega) (by omega)]; exact hi), fl_sign (by omega) (by omega), kb_ret, pkT_at t1 h16 (by omega), tx_mirOr (by omega) t1 h16, nI_1]
      exact ih (i + 1) m (by omega) (by omega)
theorem law_texts (R : RR j h hm) (hj : j < 512) (T : TT h hm) (G : GI hm c) {K a b : Nat} (hK : K < 4) (ha : a < 2147483648) (hb : b < 2147483648) : SP j c h (f_L_texts 0 (nI K) (nI a) (nI b) 42 h) := by
  obtain ⟨k42, n42⟩ := T.1.1
  obtain ⟨t1, t2, t3, t4⟩ := R.txt
  have h16 : ∀ k, k < mn hm 0 5 → mn hm 4 k < 16 := fun k hk => by have := (t4 k hk).1; omega
  have hT := pkT_lt t1 h16
  have hz := pkT_size t1 h16
  have main : ∀ s, s < 15 → SP j c h (L_texts_b33 0 (nI K) (nI b) 42 (nI (pkT (mn hm 4) (mn hm 0 5))) (nI (mn hm 0 5)) (nI s) h) := fun s hs => by
    have : K = 0 ∨ K = 1 ∨ K = 2 ∨ K = 3 := by omega
    rcases this with rfl | rfl | rfl | rfl
    · exact st_spell R hj T G hs (nI b)
    · exact st_insert R hj T G hs hb
    · have e := st_mirL R hj T G kF 0 0 (by omega) (by unfold kF; omega)
      rw [show pk (fun k => mn hm 4 (mn hm 0 5 - 1 - (mn hm 0 5 - 0 + k))) 0 * 2 ^ (4 * (mn hm 0 5 - 0)) = 0 from Nat.zero_mul _] at e
      unfold L_texts_b33
      rw [kif_f (by decide), kif_f (by decide), kif_t (show nI 2 = 2 from rfl)]
      exact e
    · exact st_clear R hj T G (nI b) (nI s)
  unfold f_L_texts
  rw [gAI_0 k42 (by omega), T.2.1.1, fl_size (by omega), kb_ret, hz, kd4 (by decide), show nI a / (4 : Int32) = nI (a / 4) from nI_div (b := 4) ha (by omega)]
  have hd : a / 4 < 2147483648 := by omega
  have hm15 : nI (a / 4) - nI (a / 4) / (15 : Int32) * (15 : Int32) = nI (a / 4 % 15) := nI_mod (b := 15) hd (by omega)
  have hm3 : nI (a / 4) - nI (a / 4) / (3 : Int32) * (3 : Int32) = nI (a / 4 % 3) := nI_mod (b := 3) hd (by omega)
  unfold kif
  split
  · rw [kd4 (by decide), kd4 (by decide), hm15]
    exact main _ (by omega)
  · rw [kd4 (by decide), kd4 (by decide), hm3]
    exact main _ (by omega)
end TEXTS
