/-! the readings' steps -/
section READS2
variable {j c : Nat} {h hm : KH}
theorem asks_2 {x m : Int32} {w : KO Int32} {h2 : KH} {P : Nat} (k : kd h2 0 = 10) (eP : kI h2 0 14 = nI P) (hP : P < 2147483648) (e : f_X9_read 0 x m (sX h2 (200 + 4 * P)) = w) : f_L_asks 0 2 x m h2 = kcatch w (fun e h1 => if e = 3 then kret (-107) h1 else if e = 2 then kret (-108) h1 else if e = 1 then kret (-109) h1 else none) (fun x6 h6 => L_asks_b73 x6 h6) := by
  unfold f_L_asks
  rw [kif_f (by decide), kif_f (by decide), kif_t rfl, eP, nI_clamp hP]
  unfold kcatchV
  rw [if_pos (show kd (sX h2 (200 + 4 * P)) 0 = 10 from k), e]
theorem asks_3 {x z : Int32} {w : KO Int32} {h2 : KH} (k : kd h2 0 = 10) (e : f_X9_uncorrect 0 x (sX h2 0) = w) : f_L_asks 0 3 x z h2 = kcatch w (fun e h1 => if e = 3 then kret (-107) h1 else if e = 2 then kret (-108) h1 else if e = 1 then kret (-109) h1 else none) (fun x6 h6 => L_asks_b73 x6 h6) := by
  unfold f_L_asks
  rw [kif_f (by decide), kif_f (by decide), kif_f (by decide), kif_t rfl]
  unfold kcatchV
  rw [if_pos (show kd (sX h2 0) 0 = 10 from k), e]
theorem low19 (M : MX hm) {r : Nat} (hr : r < mn hm 0 16) : nI (rbt hm r) &&& (524287 : Int32) = nI (mn hm 12 r + mn hm 13 r * 8) ∧ mn hm 12 r + mn hm 13 r * 8 < 524288 := by
  obtain ⟨⟨a1, -⟩, ⟨a2, -⟩, -⟩ := M.2.2.2.2.1 r hr
  have p19 : (2 : Nat) ^ 19 = 524288 := by decide
  refine ⟨?_, by omega⟩
  rw [show (524287 : Int32) = nI (2 ^ 19 - 1) from by decide, nI_and, Nat.and_two_pow_sub_one_eq_mod, p19]
  unfold rbt
  by_cases h1 : mn hm 16 r = 0
  · rw [if_pos h1, show (mn hm 12 r + mn hm 13 r * 8 + 0) % 524288 = mn hm 12 r + mn hm 13 r * 8 by omega]
  · rw [if_neg h1, show (mn hm 12 r + mn hm 13 r * 8 + (524288 + tld hm r * 1048576)) % 524288 = mn hm 12 r + mn hm 13 r * 8 by omega]
/-- one reading's bits anew -/
theorem TT.bits (T : TT h hm) {hm1 : KH} {r : Nat} {v : Int32} (em : ∀ x k, ¬ ((x = 16 ∨ x = 17) ∧ k = r ∨ x = 0 ∧ k = 35) → kI hm1 x k = kI hm x k) (hv : v = nI (rbt hm1 r)) : TT (sI h 44 r v) hm1 := by
  obtain ⟨q1, ⟨q2, q3⟩, q4, q5, q6, q7, q8, q9⟩ := T
  have e : ∀ x k, x ≠ 44 → kI (sI h 44 r v) x k = kI h x k := fun x k z => by rw [kI_sI, if_neg (fun y => z y.1)]
  refine ⟨q1, ⟨t0_cg q2 (e _ _ (by omega)) (fun k => em _ _ (by omega)) (em _ _ (by omega)), tp_cg q3 (fun k => e _ _ (by omega)) (em _ _ (by omega)) (fun k => em _ _ (by omega)) (fun k => em _ _ (by omega))⟩, fun s hs => ?_, k_cg q5 (fun k => e _ _ (by omega)) (em _ _ (by omega)) (fun k => em _ _ (by omega)), a_cg q6 (fun k => e _ _ (by omega)) (fun k => em _ _ (by omega)), c_cg q7 (fun k => e _ _ (by omega)) (em _ _ (by omega)) (em _ _ (by omega)) (em _ _ (by omega)) (em _ _ (by omega)), w_cg q8 (fun k => e _ _ (by omega)) (fun k => em _ _ (by omega)), e_cg q9 (fun k => e _ _ (by omega)) (fun k => em _ _ (by omega))⟩
  rw [mn_at (em 0 16 (by omega))] at hs
  obtain ⟨t1, t2⟩ := q4 s hs
  refine ⟨?_, ?_⟩
  · rw [e _ _ (by omega), t1]
    unfold rtx
    rw [mn_at (em 14 s (by omega)), pkT_cg (g := fun k => mn hm 15 (6 * s + k)) (fun k _ => (mn_at (em 15 (6 * s + k) (by omega))).symm)]
  · rw [kI_sI]
    by_cases q : s = r
    · rw [if_pos ⟨rfl, q⟩, hv, q]
    · rw [if_neg (fun z => q z.2), t2]
      unfold rbt tld
      rw [mn_at (em 12 s (by omega)), mn_at (em 13 s (by omega)), mn_at (em 16 s (by omega)), mn_at (em 17 s (by omega)), em 17 s (by omega)]
theorem st_uncorrect (R : RR j h hm) (hj : j < 500) (T : TT h hm) (G : GI hm c) {r : Nat} (hr : r < mn hm 0 16) (v3 : Int32) : SP j c h (L_readings_b201 0 4 v3 44 47 (nI r) (if mn hm 16 r = 0 then 0 else 1) h) := by
  have M := R.MX
  have hR := M.2.2.1.1
  obtain ⟨k44, n44⟩ := T.1.2.2.1
  obtain ⟨l1, l2⟩ := low19 M hr
  have R2 : RR j (sI h 44 r (nI (mn hm 12 r + mn hm 13 r * 8))) hm := R.lI (Or.inl (by omega))
  unfold L_readings_b201
  rw [kif_f (by decide), gAI_k k44 (by omega) (by omega), (T.2.2.1 r hr).2, l1, pAI_k k44 (by omega) (by omega)]
  rcases M.2.2.2.2.2.1 r hr with ⟨e1, e2⟩ | ⟨e1, e2, -⟩
  · obtain ⟨g, o1, o2, o3, o4⟩ := op_uncorrectNo R2 (by omega) hr e1
    have T2 : TT (sI h 44 r (nI (mn hm 12 r + mn hm 13 r * 8))) (sI hm 0 35 2) := T.bits (fun x k z => by rw [kI_sI, if_neg (by omega)]) (by
      have e : rbt (sI hm 0 35 2) r = rbt hm r := rfl
      rw [e]
      unfold rbt
      rw [if_pos e2]
      rfl)
    refine SP.op o2 T2 o3 o4 (Or.inl (by omega)) (G.thr 2) (F41.I h _ _ (by omega)) (FF.I h _ _ _) (kx g) ?_
    rw [asks_3 R2.1.1.d0 o1, if_pos e2]
    rfl
  · obtain ⟨g, o1, o2, o3, o4⟩ := op_uncorrect R2 (by omega) hr e1
    have T2 : TT (sI h 44 r (nI (mn hm 12 r + mn hm 13 r * 8))) (sI (sI hm 0 35 0) 16 r 0) := T.bits (fun x k z => by rw [kI_sI, if_neg (by omega), kI_sI, if_neg (by omega)]) (by
      have e16 : mn (sI (sI hm 0 35 0) 16 r 0) 16 r = 0 := mn_of (v := 0) (by rw [kI_sI, if_pos ⟨rfl, rfl⟩]; rfl) (by omega)
      unfold rbt
      rw [if_pos e16]
      rfl)
    refine SP.op o2 T2 o3 o4 (Or.inl (by omega)) ((G.thr 0).ag (kAg.I _ 16 r 0) (fun a k z => by omega)) (F41.I h _ _ (by omega)) (FF.I h _ _ _) 0 ?_
    rw [asks_3 R2.1.1.d0 o1, if_neg (by omega)]
    show kif _ _ (kcallV 10 0 (sX g 0) (f_zX9_plateOf 0 (nI r) (sX g 0)) _) = _
    rw [kif_f (by decide), kV_k (o2.X 0).1.1.d0, rd_plateOf (o2.X 0) hr, kb_ret, kif_t rfl]
    rfl
theorem st_correct (R : RR j h hm) (hj : j < 500) (T : TT h hm) (G : GI hm c) {r b : Nat} (hr : r < mn hm 0 16) (hb : b < 2147483648) (s0 : Int32) : SP j c h (L_readings_b201 0 3 (nI b) 44 47 (nI r) s0 h) := by
  have M := R.MX
  have hR := M.2.2.1.1
  have hP := R.P
  obtain ⟨k44, n44⟩ := T.1.2.2.1
  obtain ⟨k47, n47⟩ := T.1.2.2.2.2.2.1
  obtain ⟨l1, l2⟩ := low19 M hr
  have e2 : kI h 47 2 = nI (mn hm 0 8) := T.2.2.2.2.2.1.2.2.1.trans R.cnt.2.1
  have hq : b % (mn hm 0 8 + 1) < mn hm 0 8 + 1 := Nat.mod_lt _ (by omega)
  unfold L_readings_b201
  rw [kif_t rfl, gAI_2 k47 (by omega), e2, nI_1, kdv_k (by omega) (by omega), nI_mod hb (by omega)]
  generalize b % (mn hm 0 8 + 1) = q at hq
  obtain ⟨o, eo, ho⟩ : ∃ o : Option Nat, nI q - 1 = cOf o ∧ (∀ p, o = some p → p + 1 = q) ∧ (o = none → q = 0) := by
    by_cases h0 : q = 0
    · exact ⟨none, (by rw [h0]; decide), (fun p e => by cases e), fun _ => h0⟩
    · exact ⟨some (q - 1), ka_pred (by omega), (fun p e => by cases e; omega), (fun e => by cases e)⟩
  have hop : ∀ p, o = some p → p < mn hm 0 8 := fun p e => by have := ho.1 p e; omega
  have RX := R.X 0
  have evl : ((nI (mn hm 12 r + mn hm 13 r * 8) ||| (524288 : Int32)) ||| ((nI q - (1 : Int32) + (1 : Int32)) <<< ((20 : Int32) &&& 31))) = nI (mn hm 12 r + mn hm 13 r * 8 + (524288 + q * 1048576)) := by
    have p20 : (2 : Nat) ^ 20 = 1048576 := by decide
    have p19 : (2 : Nat) ^ 19 = 524288 := by decide
    have o1 : mn hm 12 r + mn hm 13 r * 8 ||| 524288 = mn hm 12 r + mn hm 13 r * 8 + 524288 := by
      have := or_add (b := 1) (k := 19) (a := mn hm 12 r + mn hm 13 r * 8) (by omega)
      rw [p19, Nat.one_mul] at this
      exact this
    rw [Int32.sub_add_cancel, show (524288 : Int32) = nI 524288 from rfl, nI_or, show (20 : Int32) = nI 20 from rfl, lb_shl (by omega) (by rw [p20]; omega), nI_or, o1, or_add (by omega), p20, Nat.add_assoc]
  obtain ⟨v, ev⟩ : ∃ v, v = nI (mn hm 12 r + mn hm 13 r * 8 + (524288 + q * 1048576)) := ⟨_, rfl⟩
  have R2 : RR j (sI (sX h 0) 44 r v) hm := RX.lI (Or.inl (by omega))
  obtain ⟨g, o1, o2, o3, o4⟩ := op_correct R2 (by omega) hr hop
  have e16 : kI (sI (sI (sI hm 0 35 0) 16 r 1) 17 r (cOf o)) 16 r = 1 := by rw [kI_sI, if_neg (by omega), kI_sI, if_pos ⟨rfl, rfl⟩]
  have e17 : kI (sI (sI (sI hm 0 35 0) 16 r 1) 17 r (cOf o)) 17 r = cOf o := by rw [kI_sI, if_pos ⟨rfl, rfl⟩]
  have m16 : mn (sI (sI (sI hm 0 35 0) 16 r 1) 17 r (cOf o)) 16 r = 1 := mn_of (v := 1) e16 (by omega)
  have ePF : sPF (sI (sI (sI hm 0 35 0) 16 r 1) 17 r (cOf o)) r = o := by
    unfold sPF
    rw [m16, if_neg (by decide), e17]
    cases o with
    | none => rw [if_pos (show cOf none = -1 from rfl)]
    | some p =>
      have := hop p rfl
      rw [if_neg (by show ¬ nI p = -1; rw [ka_n1 (by omega)]; exact fun z => z), mn_of (show kI _ 17 r = nI p from e17) (by omega)]
  have T2 : TT (sI (sX h 0) 44 r v) (sI (sI (sI hm 0 35 0) 16 r 1) 17 r (cOf o)) := (T.X 0).bits (fun x k z => by rw [kI_sI, if_neg (by omega), kI_sI, if_neg (by omega), kI_sI, if_neg (by omega)]) (by
    rw [ev]
    unfold rbt
    rw [if_neg (by rw [m16]; decide)]
    have et : tld (sI (sI (sI hm 0 35 0) 16 r 1) 17 r (cOf o)) r = q := by
      unfold tld
      rw [e17]
      cases o with
      | none => rw [if_pos (show cOf none = -1 from rfl), ho.2 rfl]
      | some p =>
        have := hop p rfl
        rw [if_neg (by show ¬ nI p = -1; rw [ka_n1 (by omega)]; exact fun z => z), mn_of (show kI _ 17 r = nI p from e17) (by omega), ho.1 p rfl]
    rw [et]
    rfl)
  have G2 : GI (sI (sI (sI hm 0 35 0) 16 r 1) 17 r (cOf o)) c := ((G.thr 0).ag (kAg.I _ 16 r 1) (fun a k z => by omega)).ag (kAg.I _ 17 r (cOf o)) (fun a k z => by omega)
  refine SP.op o2 T2 o3 o4 (Or.inl (by omega)) G2 ((F41.of (FL.X h 0)).trans (F41.I (sX h 0) r v (by omega))) ((FF.X h 0).trans (FF.I (sX h 0) 44 r v)) 0 ?_
  rw [kV_k RX.1.1.d0, rd_plateOf RX hr, kb_ret, gAI_k (show kd (sX h 0) 44 = 31 from k44) (by show r < kn h 44; omega) (by omega), show kI (sX h 0) 44 r = nI (rbt hm r) from (T.2.2.1 r hr).2, l1, evl, ← ev, pAI_k (show kd (sX h 0) 44 = 31 from k44) (by show r < kn h 44; omega) (by omega), eo, kV_k (R2.X 0).1.1.d0, o1, kb_ret, kif_t rfl, kV_k (o2.X 0).1.1.d0, rd_plateOf (o2.X 0) hr, kb_ret, kif_t (by rw [ePF])]
  rfl
theorem fin_read (R : RR j h hm) (hj : j < 500) (T : TT h hm) (G : GI hm c) {a m : Nat} (ha : a < 2147483648) (hm' : m ≤ mn hm 0 0) : SP j c h (L_readings_b60 0 (nI a) 42 43 44 47 (nI m) h) := by
  obtain ⟨k42, n42⟩ := T.1.1
  obtain ⟨k43, n43⟩ := T.1.2.1
  obtain ⟨k44, n44⟩ := T.1.2.2.1
  obtain ⟨k47, n47⟩ := T.1.2.2.2.2.2.1
  have M := R.MX
  have hR := M.2.2.1.1
  have hN := R.min.2.2
  obtain ⟨t1, t2, t3, t4⟩ := R.txt
  have h16 : ∀ k, k < mn hm 0 5 → mn hm 4 k < 16 := fun k hk => by have := (t4 k hk).1; omega
  have hT := pkT_lt t1 h16
  have hz := pkT_size t1 h16
  have e3 : kI h 47 3 = nI (mn hm 0 16) := T.2.2.2.2.2.1.2.2.2.trans M.2.2.1.2
  have m8 : nI a - nI a / (8 : Int32) * (8 : Int32) = nI (a % 8) := nI_mod (b := 8) ha (by omega)
  have hx : a % 8 < 8 := Nat.mod_lt _ (by omega)
  obtain ⟨R', -, cx, cm⟩ := R.2.2.2.2.2.2.2.2.2.2.2.1.1
  have hz16 := R.2.2.2.2.2.2.2.2.2.2.2.1.2.2
  have cxR : kI h 0 14 = nI (mn hm 0 16) := cx.trans (cm.symm.trans M.2.2.1.2)
  have bad : (mn hm 0 5 = 0 ∨ mn hm 0 16 = 60) → SP j c h (L_readings_b85 0 (nI a) 42 43 44 47 (nI m) h) := fun hbad => by
    obtain ⟨g, o1, o2, o3, o4⟩ := op_readNo R (by omega) hx hm' hbad
    refine SP.op o2 (T.thr 3) o3 o4 (Or.inl (by omega)) (G.thr 3) (F41.rf h) (FF.rf h) (kx g) ?_
    unfold L_readings_b85 L_readings_b86
    rw [kif_t rfl]
    unfold L_readings_b128
    rw [kd4 (by decide), m8, asks_2 R.1.1.d0 cxR (by omega) o1]
    rfl
  have good : mn hm 0 5 ≠ 0 → mn hm 0 16 < 60 → SP j c h (L_readings_b86 0 (nI a) 42 43 44 47 (nI m) 1 h) := fun h0 h60 => by
    unfold L_readings_b86
    have evl : (nI (a % 8) ||| (nI m <<< ((3 : Int32) &&& 31))) = nI (a % 8 + m * 8) := by
      rw [show (3 : Int32) = nI 3 from rfl, lb_shl (by omega) (by rw [show (2 : Nat) ^ 3 = 8 from rfl]; omega), nI_or, or_add (by rw [show (2 : Nat) ^ 3 = 8 from rfl]; omega), show (2 : Nat) ^ 3 = 8 from rfl]
    rw [kif_f (by decide), gAI_3 k47 (by omega), e3, kd4 (by decide), m8, evl, pAI_k k44 (by omega) (by omega)]
    obtain ⟨h1, eh1⟩ : ∃ h1, h1 = sI h 44 (mn hm 0 16) (nI (a % 8 + m * 8)) := ⟨_, rfl⟩
    obtain ⟨h2, eh2⟩ : ∃ h2, h2 = sI h1 43 (mn hm 0 16) (nI (pkT (mn hm 4) (mn hm 0 5))) := ⟨_, rfl⟩
    obtain ⟨h3, eh3⟩ : ∃ h3, h3 = sI h2 47 3 (nI (mn hm 0 16 + 1)) := ⟨_, rfl⟩
    have R3 : RR j h3 hm := by
      rw [eh3, eh2, eh1]
      exact ((R.lI (Or.inl (by omega))).lI (Or.inl (by omega))).lI (Or.inl (by omega))
    have d1 : kd h1 = kd h ∧ kn h1 = kn h := by rw [eh1]; exact ⟨rfl, rfl⟩
    have d2 : kd h2 = kd h ∧ kn h2 = kn h := by rw [eh2]; exact d1
    have d3 : kd h3 = kd h ∧ kn h3 = kn h := by rw [eh3]; exact d2
    rw [← eh1, gAI_3 (by rw [d1.1]; exact k47) (by rw [d1.2]; omega), show kI h1 47 3 = nI (mn hm 0 16) by rw [eh1, kI_sI, if_neg (by omega)]; exact e3, gAI_0 (by rw [d1.1]; exact k42) (by rw [d1.2]; omega), show kI h1 42 0 = nI (pkT (mn hm 4) (mn hm 0 5)) by rw [eh1, kI_sI, if_neg (by omega)]; exact T.2.1.1, pAI_k (by rw [d1.1]; exact k43) (by rw [d1.2]; omega) (by omega), ← eh2, gAI_3 (by rw [d2.1]; exact k47) (by rw [d2.2]; omega), show kI h2 47 3 = nI (mn hm 0 16) by rw [eh2, kI_sI, if_neg (by omega), eh1, kI_sI, if_neg (by omega)]; exact e3, nI_1, pAI_3 (by rw [d2.1]; exact k47) (by rw [d2.2]; omega), ← eh3]
    obtain ⟨g1, hm1, o1, o2, o3, o4, am, z2, z3, z4, z5, z6⟩ := op_read R3 (by omega) hx hm' (by omega) h60
    have em : ∀ x k, ¬ ((x = 12 ∨ x = 13 ∨ x = 14) ∧ k = mn hm 0 16 ∨ x = 15 ∧ 6 * mn hm 0 16 ≤ k ∧ k < 6 * mn hm 0 16 + 6 ∨ x = 0 ∧ (k = 16 ∨ k = 35)) → kI hm1 x k = kI hm x k := fun x k q => by
      rw [(am.1 x k (by omega)).1, kI_sI, if_neg (by omega)]
    have eh3I : ∀ x k, ¬ (x = 44 ∧ k = mn hm 0 16 ∨ x = 43 ∧ k = mn hm 0 16 ∨ x = 47 ∧ k = 3) → kI h3 x k = kI h x k := fun x k q => by
      rw [eh3, kI_sI, if_neg (by omega), eh2, kI_sI, if_neg (by omega), eh1, kI_sI, if_neg (by omega)]
    have e16 : mn hm1 0 16 = mn hm 0 16 + 1 := mn_of z2 (by omega)
    have T3 : TT h3 hm1 := by
      obtain ⟨q1, ⟨q2, q3⟩, q4, q5, q6, ⟨c0, c1, c2, c3⟩, q8, q9⟩ := T
      refine ⟨q1.to d3.1 d3.2, ⟨t0_cg q2 (eh3I _ _ (by omega)) (fun k => em _ _ (by omega)) (em _ _ (by omega)), tp_cg q3 (fun k => eh3I _ _ (by omega)) (em _ _ (by omega)) (fun k => em _ _ (by omega)) (fun k => em _ _ (by omega))⟩, fun r hr => ?_, k_cg q5 (fun k => eh3I _ _ (by omega)) (em _ _ (by omega)) (fun k => em _ _ (by omega)), a_cg q6 (fun k => eh3I _ _ (by omega)) (fun k => em _ _ (by omega)), ⟨?_, ?_, ?_, ?_⟩, w_cg q8 (fun k => eh3I _ _ (by omega)) (fun k => em _ _ (by omega)), e_cg q9 (fun k => eh3I _ _ (by omega)) (fun k => em _ _ (by omega))⟩
      · rw [e16] at hr
        by_cases hrR : r = mn hm 0 16
        · subst hrR
          refine ⟨?_, ?_⟩
          · unfold rtx
            rw [eh3, kI_sI, if_neg (by omega), eh2, kI_sI, if_pos ⟨rfl, rfl⟩, mn_of z5 (by omega)]
            exact congrArg nI (pkT_cg (fun k hk => by
              show (kI hm 4 k).toNatClampNeg = (kI hm1 15 (6 * mn hm 0 16 + k)).toNatClampNeg
              rw [z6 k hk]))
          · have e0 : mn hm1 16 (mn hm 0 16) = 0 := mn_of (v := 0) (by rw [em _ _ (by omega)]; exact hz16 _ (Nat.le_refl _) h60) (by omega)
            unfold rbt
            rw [if_pos e0, mn_of z3 (by omega), mn_of z4 (by omega), eh3, kI_sI, if_neg (by omega), eh2, kI_sI, if_neg (by omega), eh1, kI_sI, if_pos ⟨rfl, rfl⟩]
            rfl
        · obtain ⟨y1, y2⟩ := q4 r (by omega)
          have hm6 := (M.2.2.2.2.1 r (by omega)).2.2.1.2
          refine ⟨?_, ?_⟩
          · rw [eh3I _ _ (by omega), y1]
            unfold rtx
            rw [mn_at (em 14 r (by omega)), pkT_cg (g := fun k => mn hm 15 (6 * r + k)) (fun k hk => (mn_at (em 15 (6 * r + k) (by omega))).symm)]
          · rw [eh3I _ _ (by omega), y2]
            unfold rbt tld
            rw [mn_at (em 12 r (by omega)), mn_at (em 13 r (by omega)), mn_at (em 16 r (by omega)), mn_at (em 17 r (by omega)), em 17 r (by omega)]
      · rw [eh3I _ _ (by omega), em _ _ (by omega)]; exact c0
      · rw [eh3I _ _ (by omega), em _ _ (by omega)]; exact c1
      · rw [eh3I _ _ (by omega), em _ _ (by omega)]; exact c2
      · rw [eh3, kI_sI, if_pos ⟨rfl, rfl⟩, z2]
    have G1 : GI hm1 c := by
      obtain ⟨g1, g2, g3, g4⟩ := G
      refine ⟨g1.cg (fun k => em _ _ (by omega)) (fun k => em _ _ (by omega)), fun r hr => ?_, ?_, (BLok.cg g4 (hm' := sI hm 0 35 0) (fun _ => rfl) (fun _ => rfl)).cg (fun k => (am.1 20 k (by omega)).2.1) (fun k => (am.1 21 k (by omega)).2.1)⟩
      · rw [e16] at hr
        rw [mn_at (em 0 0 (by omega))]
        by_cases hrR : r = mn hm 0 16
        · rw [hrR, mn_of z4 (by omega)]
          exact hm'
        · rw [mn_at (em 13 r (by omega))]
          exact g2 r (by omega)
      · rw [mn_at (em 0 27 (by omega))]
        exact g3
    have q41 : F41 h h3 := by
      rw [eh3, eh2, eh1]
      exact ((F41.I h _ _ (by omega)).trans (F41.I _ _ _ (by omega))).trans (F41.I _ _ _ (by omega))
    have qFF : FF h h3 := by
      rw [eh3, eh2, eh1]
      exact fun _ _ _ q => q
    have T4 := T3.fl o3
    obtain ⟨k47', n47'⟩ := T4.1.2.2.2.2.2.1
    have w3 : kI g1 47 3 = nI (mn hm 0 16 + 1) := T4.2.2.2.2.2.1.2.2.2.trans z2
    have cx3 : kI h3 0 14 = nI (mn hm 0 16) := by rw [eh3I _ _ (by omega)]; exact cxR
    refine SP.op o2 T3 o3 o4 (Or.inl (by omega)) G1 q41 qFF (kx g1) ?_
    unfold L_readings_b128
    rw [kd4 (by decide), m8, asks_2 R3.1.1.d0 cx3 (by omega) o1]
    show kif _ _ (gAI g1 47 31 3 (fun x2 => L_readings_b155 (x2 - 1) (nI (mn hm 0 16)) g1)) = _
    rw [kif_f (by decide), gAI_3 k47' (by omega), w3, ka_pred (by omega), show mn hm 0 16 + 1 - 1 = mn hm 0 16 by omega]
    unfold L_readings_b155
    rw [kif_t rfl]
    rfl
  unfold L_readings_b60
  rw [gAI_0 k42 (by omega), T.2.1.1, fl_size (by omega), kb_ret, hz]
  by_cases h0 : mn hm 0 5 = 0
  · rw [kif_t (by rw [h0]; decide)]
    exact bad (Or.inl h0)
  · rw [kif_f (by rw [show (0 : Int32) = nI 0 from rfl, ka_le (by omega) (by omega)]; omega), gAI_3 k47 (by omega), e3]
    by_cases h60 : 60 ≤ mn hm 0 16
    · rw [kif_t (by rw [show (60 : Int32) = nI 60 from rfl, ka_le (by omega) (by omega)]; exact h60)]
      exact bad (Or.inr (by omega))
    · rw [kif_f (by rw [show (60 : Int32) = nI 60 from rfl, ka_le (by omega) (by omega)]; exact h60)]
      exact good h0 (by omega)
theorem law_readings (R : RR j h hm) (hj : j < 500) (T : TT h hm) (G : GI hm c) {K a b : Nat} (hK : K = 0 ∨ K = 3 ∨ K = 4) (ha : a < 2147483648) (hb : b < 2147483648) : SP j c h (f_L_readings 0 (nI K) (nI a) (nI b) 42 43 44 47 h) := by
  obtain ⟨k44, n44⟩ := T.1.2.2.1
  obtain ⟨k47, n47⟩ := T.1.2.2.2.2.2.1
  have M := R.MX
  have hR := M.2.2.1.1
  have hN := R.min.2.2
  have e3 : kI h 47 3 = nI (mn hm 0 16) := T.2.2.2.2.2.1.2.2.2.trans M.2.2.1.2
  have e0 : kI h 47 0 = nI (mn hm 0 0) := T.2.2.2.2.2.1.1.trans R.min.2.1
  have d6 : nI b / (6 : Int32) = nI (b / 6) := nI_div (b := 6) hb (by omega)
  have hb6 : b / 6 < 2147483648 := by omega
  have m60 : nI (b / 6) - nI (b / 6) / (60 : Int32) * (60 : Int32) = nI (b / 6 % 60) := nI_mod (b := 60) hb6 (by omega)
  unfold f_L_readings
  by_cases hK0 : K = 0
  · rw [hK0, kif_f (by decide), kd4 (by decide)]
    unfold kif
    split
    · rw [kd4 (by decide), gAI_0 k47 (by omega), e0, nI_1, kdv_k (by omega) (by omega), d6, nI_mod hb6 (by omega)]
      have := Nat.mod_lt (b / 6) (show 0 < mn hm 0 0 + 1 by omega)
      exact fin_read R hj T G ha (by omega)
    · rw [gAI_0 k47 (by omega), e0, kd4 (by decide), kd4 (by decide), d6, m60]
      have h60 : b / 6 % 60 < 60 := Nat.mod_lt _ (by omega)
      split
      · rename_i hge
        have hle : b / 6 % 60 ≤ mn hm 0 0 := by
          by_cases q : b / 6 % 60 ≤ mn hm 0 0
          · exact q
          · exfalso
            have := hge
            rw [Int32.le_iff_toInt_le] at this
            have e1 : (nI (mn hm 0 0) - nI (b / 6 % 60)).toInt = (mn hm 0 0 : Int) - (b / 6 % 60 : Nat) := by
              rw [Int32.toInt_sub, nI_int (by omega), nI_int (by omega)]
              generalize b / 6 % 60 = y at *
              exact Int.bmod_eq_of_le (by omega) (by omega)
            rw [e1] at this
            have z : (0 : Int32).toInt = 0 := rfl
            rw [z] at this
            generalize b / 6 % 60 = y at *
            omega
        rw [gAI_0 k47 (by omega), e0, kd4 (by decide), kd4 (by decide), ka_sub hle]
        exact fin_read R hj T G ha (by omega)
      · rw [gAI_0 k47 (by omega), e0]
        exact fin_read R hj T G ha (Nat.le_refl _)
  · have h34 : K = 3 ∨ K = 4 := by omega
    rw [kif_t (by rcases h34 with e | e <;> rw [e] <;> decide), gAI_3 k47 (by omega), e3]
    by_cases h0 : mn hm 0 16 = 0
    · rw [kif_t (by rw [h0]; rfl)]
      exact SP.no R T G (kx h) rfl
    · have hr : a % mn hm 0 16 < mn hm 0 16 := Nat.mod_lt _ (by omega)
      rw [kif_f (by rw [show (0 : Int32) = nI 0 from rfl, ka_eq (by omega) (by omega)]; exact h0), gAI_3 k47 (by omega), e3, kdv_k (by omega) (by omega), nI_mod ha (by omega)]
      generalize a % mn hm 0 16 = r at hr
      have key : ∀ s0 : Int32, s0 = (if mn hm 16 r = 0 then 0 else 1) → SP j c h (L_readings_b201 0 (nI K) (nI b) 44 47 (nI r) s0 h) := fun s0 es => by
        rcases h34 with e | e
        · rw [e]
          exact st_correct R hj T G hr hb s0
        · rw [e, es]
          exact st_uncorrect R hj T G hr (nI b)
      rw [gAI_k k44 (by omega) (by omega), (T.2.2.1 r hr).2, M.rb19 hr, kb_ret]
      by_cases h16 : mn hm 16 r = 0
      · rw [if_pos h16, kif_f (by decide)]
        exact key 0 (if_pos h16).symm
      · rw [if_neg h16, kif_t rfl]
        exact key 1 (if_neg h16).symm
end READS2
