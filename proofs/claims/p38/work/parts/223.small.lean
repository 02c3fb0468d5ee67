/-! the small steps -/
theorem gAI_0 {α : Type} {h : KH} {a c : Nat} {f : Int32 → KO α} (h1 : kd h a = c) (h2 : 0 < kn h a) : gAI h a c 0 f = f (kI h a 0) := gAI_k (i := 0) h1 h2 (by omega)
theorem gAI_1 {α : Type} {h : KH} {a c : Nat} {f : Int32 → KO α} (h1 : kd h a = c) (h2 : 1 < kn h a) : gAI h a c 1 f = f (kI h a 1) := gAI_k (i := 1) h1 h2 (by omega)
theorem gAI_2 {α : Type} {h : KH} {a c : Nat} {f : Int32 → KO α} (h1 : kd h a = c) (h2 : 2 < kn h a) : gAI h a c 2 f = f (kI h a 2) := gAI_k (i := 2) h1 h2 (by omega)
theorem gAI_3 {α : Type} {h : KH} {a c : Nat} {f : Int32 → KO α} (h1 : kd h a = c) (h2 : 3 < kn h a) : gAI h a c 3 f = f (kI h a 3) := gAI_k (i := 3) h1 h2 (by omega)
theorem pAI_0 {α : Type} {h : KH} {a c : Nat} {v : Int32} {f : KH → KO α} (h1 : kd h a = c) (h2 : 0 < kn h a) : pAI h a c 0 v f = f (sI h a 0 v) := pAI_k (i := 0) h1 h2 (by omega)
theorem pAI_1 {α : Type} {h : KH} {a c : Nat} {v : Int32} {f : KH → KO α} (h1 : kd h a = c) (h2 : 1 < kn h a) : pAI h a c 1 v f = f (sI h a 1 v) := pAI_k (i := 1) h1 h2 (by omega)
theorem pAI_2 {α : Type} {h : KH} {a c : Nat} {v : Int32} {f : KH → KO α} (h1 : kd h a = c) (h2 : 2 < kn h a) : pAI h a c 2 v f = f (sI h a 2 v) := pAI_k (i := 2) h1 h2 (by omega)
theorem pAI_3 {α : Type} {h : KH} {a c : Nat} {v : Int32} {f : KH → KO α} (h1 : kd h a = c) (h2 : 3 < kn h a) : pAI h a c 3 v f = f (sI h a 3 v) := pAI_k (i := 3) h1 h2 (by omega)
theorem SP.op {j c N : Nat} {h h2 g hm1 : KH} {w : KO Int32} (R1 : RR (j + 1) g hm1) (T2 : TT h2 hm1) (f : FL h2 g) (fk : FK (sX h2 N) g) (hN : N ≤ 507 ∨ 1000 ≤ N) (G1 : GI hm1 c) (q1 : F41 h h2) (q2 : FF h h2) (m : Nat) (e : w = kret 1 (sX g m)) : SP j c h w :=
  ⟨_, hm1, e, (R1.X m).mono (by omega), (T2.fl f).X m, G1, q1.trans ((F41.of f).trans (F41.of (FL.X g m))), q2.trans ((fresh_of fk hN R1 G1.2.2.1).trans (FF.X g m))⟩
section SMALL
variable {j c : Nat} {h hm : KH}
theorem st_pass (R : RR j h hm) (hj : j < 512) (T : TT h hm) (G : GI hm c) (g : Nat) {k : Nat} (h1 : 1 ≤ k) (h2 : k ≤ 2000) (v : Int32) (hv : v = 0 ∨ v = 1 ∧ mn hm 0 0 + k ≤ 50000) : SP j c h (L_step_b283 g 0 47 (nI k) v h) := by
  obtain ⟨k47, n47⟩ := T.1.2.2.2.2.2.1
  have hN := R.min.2.2
  have e0 : kI h 47 0 = nI (mn hm 0 0) := T.2.2.2.2.2.1.1.trans R.min.2.1
  have TX := T
  obtain ⟨t1, ⟨t2, t3⟩, t4, t5, t6, ⟨c0, c1, c2, c3⟩, t8, t9⟩ := T
  unfold L_step_b283
  rw [gAI_0 k47 (by omega), e0]
  rcases hv with e | ⟨e, h3⟩
  · rw [kif_t e]
    unfold L_step_b301
    rw [pAI_0 k47 (by omega), kif_t e, show (0 : Int32) = nI 0 from rfl, ka_add]
    have T2 : TT (sI h 47 0 (nI (mn hm 0 0 + 0))) hm := ⟨t1, ⟨t2, t3⟩, t4, t5, t6, c_cg ⟨c0, c1, c2, c3⟩ (fun k => by
      rw [kI_sI]
      by_cases q : k = 0
      · rw [q, if_pos ⟨rfl, rfl⟩, e0]
        rfl
      · rw [if_neg (fun z => q z.2)]) rfl rfl rfl rfl, t8, t9⟩
    exact ⟨_, hm, rfl, (R.lI (Or.inl (by omega))).mono (by omega), T2, G, F41.I h _ _ (by omega), FF.I h _ _ _⟩
  · rw [kif_f (by rw [e]; decide)]
    unfold L_step_b301
    rw [pAI_0 k47 (by omega), kif_f (by rw [e]; decide), ka_add]
    have R2 : RR j (sI h 47 0 (nI (mn hm 0 0 + k))) hm := R.lI (Or.inl (by omega))
    obtain ⟨g1, o1, o2, o3, o4⟩ := op_pass R2 hj h1 h2 h3
    have T2 : TT (sI h 47 0 (nI (mn hm 0 0 + k))) (sI (sI hm 0 35 0) 0 0 (nI (mn hm 0 0 + k))) := ⟨t1, ⟨t2, t3⟩, t4, t5, t6, ⟨rfl, c1, c2, c3⟩, t8, t9⟩
    have T3 := T2.fl o3
    have eg : kI g1 47 0 = nI (mn hm 0 0 + k) := T3.2.2.2.2.2.1.1
    have G1 : GI (sI (sI hm 0 35 0) 0 0 (nI (mn hm 0 0 + k))) c := by
      obtain ⟨g1, g2, g3, g4⟩ := G
      have e0' : mn (sI (sI hm 0 35 0) 0 0 (nI (mn hm 0 0 + k))) 0 0 = mn hm 0 0 + k := mn_of (k := 0) (a := 0) rfl (by omega)
      refine ⟨g1.cg (fun _ => rfl) (fun _ => rfl), fun r hr => ?_, g3, g4.cg (fun _ => rfl) (fun _ => rfl)⟩
      rw [e0']
      have := g2 r hr
      exact Nat.le_trans this (Nat.le_add_right _ _)
    refine SP.op o2 T2 o3 o4 (Or.inl (by omega)) G1 (F41.I h _ _ (by omega)) (FF.I h _ _ _) 0 ?_
    have k47' := T3.1.2.2.2.2.2.1
    rw [kV_k (show kd (sX (sI h 47 0 (nI (mn hm 0 0 + k))) 0) 0 = 10 from R.1.1.d0), o1, kb_ret, gAI_0 k47'.1 (by rw [k47'.2]; omega), eg, kif_t rfl, kV_k (o2.X 0).1.1.d0, rd_now (o2.X 0), kb_ret, gAI_0 (show kd (sX g1 0) 47 = 31 from k47'.1) (by show 0 < kn g1 47; rw [k47'.2]; omega), show kI (sX g1 0) 47 0 = nI (mn hm 0 0 + k) from eg, kif_t (congrArg nI (mn_of (k := 0) (a := 0) rfl (by omega)))]
    rfl
theorem st_pause (R : RR j h hm) (hj : j < 512) (T : TT h hm) (G : GI hm c) (g : Nat) {k : Nat} (hk : k ≤ 500) : SP j c h (gAI h 47 31 1 (fun x4 => pAI h 47 31 1 (nI k) (fun h3 => gAI h3 47 31 1 (fun x5 => kcallV 10 0 (sX h3 (0)) (f_zX9_setPause 0 x5 (sX h3 (0))) (fun x6 h4 => kif (x6 = x4) (L_step_b462 g 1 h4) (L_step_b462 g 0 h4)))))) := by
  obtain ⟨k47, n47⟩ := T.1.2.2.2.2.2.1
  have e1 : kI h 47 1 = kI hm 0 1 := T.2.2.2.2.2.1.2.1
  obtain ⟨t1, ⟨t2, t3⟩, t4, t5, t6, ⟨c0, c1, c2, c3⟩, t8, t9⟩ := T
  have R2 : RR j (sI h 47 1 (nI k)) hm := R.lI (Or.inl (by omega))
  obtain ⟨g1, o1, o2, o3, o4⟩ := op_setPause R2 hj hk
  have T2 : TT (sI h 47 1 (nI k)) (sI (sI hm 0 35 0) 0 1 (nI k)) := ⟨t1, ⟨t2, t3⟩, t4, t5, t6, ⟨c0, rfl, c2, c3⟩, t8, t9⟩
  refine SP.op o2 T2 o3 o4 (Or.inl (by omega)) ((G.thr 0).ag (kAg.I _ 0 1 (nI k)) (fun a k z => by omega)) (F41.I h _ _ (by omega)) (FF.I h _ _ _) (kx g1) ?_
  rw [gAI_1 k47 (by omega), pAI_1 k47 (by omega), gAI_1 (show kd (sI h 47 1 (nI k)) 47 = 31 from k47) (by show 1 < kn h 47; omega), kI_sI, if_pos ⟨rfl, rfl⟩, kV_k (show kd (sX (sI h 47 1 (nI k)) 0) 0 = 10 from R.1.1.d0), o1, kb_ret, e1, kif_t rfl]
  rfl
theorem st_rate (R : RR j h hm) (hj : j < 512) (T : TT h hm) (G : GI hm c) (g : Nat) {i k : Nat} (hi : i < 4) (hk : k ≤ 50) : SP j c h (gAI h 49 31 (nI i) (fun x1 => pAI h 49 31 (nI i) (nI k) (fun h1 => gAI h1 49 31 (nI i) (fun x2 => kcallV 10 0 (sX h1 (0)) (f_zX9_setRate 0 (nI i) x2 (sX h1 (0))) (fun x3 h2 => kif (x3 = x1) (L_step_b504 g 1 h2) (L_step_b504 g 0 h2)))))) := by
  obtain ⟨k49, n49⟩ := T.1.2.2.2.2.2.2.2
  have e1 : kI h 49 i = kI hm 3 i := T.2.2.2.2.2.2.2 i hi
  obtain ⟨t1, ⟨t2, t3⟩, t4, t5, t6, t7, t8, t9⟩ := T
  have R2 : RR j (sI h 49 i (nI k)) hm := R.lI (Or.inl (by omega))
  obtain ⟨g1, o1, o2, o3, o4⟩ := op_setRate R2 hj hi hk
  have T2 : TT (sI h 49 i (nI k)) (sI (sI hm 0 35 0) 3 i (nI k)) := ⟨t1, ⟨t2, t3⟩, t4, t5, t6, t7, t8, fun q hq => by
    rw [kI_sI, kI_sI]
    by_cases e : q = i
    · rw [if_pos ⟨rfl, e⟩, if_pos ⟨rfl, e⟩]
    · rw [if_neg (fun z => e z.2), if_neg (fun z => e z.2)]
      exact t9 q hq⟩
  refine SP.op o2 T2 o3 o4 (Or.inl (by omega)) ((G.thr 0).ag (kAg.I _ 3 i (nI k)) (fun a k z => by omega)) (F41.I h _ _ (by omega)) (FF.I h _ _ _) (kx g1) ?_
  rw [gAI_k k49 (by omega) (by omega), pAI_k k49 (by omega) (by omega), gAI_k (show kd (sI h 49 i (nI k)) 49 = 31 from k49) (by show i < kn h 49; omega) (by omega), kI_sI, if_pos ⟨rfl, rfl⟩, kV_k (show kd (sX (sI h 49 i (nI k)) 0) 0 = 10 from R.1.1.d0), o1, kb_ret, e1, kif_t rfl]
  rfl
theorem row_set {a b n : Nat} (t : ∀ q, q < n → kI h a q = kI hm b q) (i : Nat) (v : Int32) : ∀ q, q < n → kI (sI h a i v) a q = kI (sI hm b i v) b q := fun q hq => by
  rw [kI_sI, kI_sI]
  by_cases e : q = i
  · rw [if_pos ⟨rfl, e⟩, if_pos ⟨rfl, e⟩]
  · rw [if_neg (fun z => e z.2), if_neg (fun z => e z.2)]
    exact t q hq
theorem st_road (R : RR j h hm) (hj : j < 512) (T : TT h hm) (G : GI hm c) (g : Nat) {x y v : Nat} (hx : x < 8) (hy : y < 8) (hxy : x ≠ y) (hv : v ≤ 200) : SP j c h (L_step_b178 g 0 48 (nI x) (nI y) (nI v) h) := by
  obtain ⟨k48, n48⟩ := T.1.2.2.2.2.2.2.1
  have e1 : kI h 48 (8 * x + y) = kI hm 1 (8 * x + y) := T.2.2.2.2.2.2.1 _ (by omega)
  have R2 : RR j (sI (sI h 48 (8 * x + y) (nI v)) 48 (8 * y + x) (nI v)) hm := (R.lI (Or.inl (by omega))).lI (Or.inl (by omega))
  obtain ⟨g1, hm1, o1, o2, o3, o4, o5, o6⟩ := op_road R2 hj hx hy hxy hv
  obtain ⟨t1, ⟨t2, t3⟩, t4, t5, t6, t7, t8, t9⟩ := T
  have T1 : TT (sI (sI h 48 (8 * x + y) (nI v)) 48 (8 * y + x) (nI v)) (sI (sI (sI hm 0 35 0) 1 (8 * x + y) (nI v)) 1 (8 * y + x) (nI v)) := ⟨t1, ⟨t2, t3⟩, t4, t5, t6, t7, row_set (row_set (hm := sI hm 0 35 0) t8 (8 * x + y) (nI v)) (8 * y + x) (nI v), t9⟩
  have T2 : TT (sI (sI h 48 (8 * x + y) (nI v)) 48 (8 * y + x) (nI v)) hm1 := T1.cg (fun a k z => (o5.1 a k (by omega)).1)
  have G1 : GI hm1 c := by
    obtain ⟨g1, g2, g3, g4⟩ := G
    refine ⟨o6, fun r hr => ?_, ?_, (BLok.cg g4 (hm' := sI (sI (sI hm 0 35 0) 1 (8 * x + y) (nI v)) 1 (8 * y + x) (nI v)) (fun _ => rfl) (fun _ => rfl)).cg (fun k => (o5.1 20 k (by omega)).2.1) (fun k => (o5.1 21 k (by omega)).2.1)⟩
    · rw [mn_at (o5.1 0 16 (by omega)).1] at hr
      rw [mn_at (o5.1 13 r (by omega)).1, mn_at (o5.1 0 0 (by omega)).1]
      exact g2 r hr
    · rw [mn_at (o5.1 0 27 (by omega)).1]
      exact g3
  refine SP.op o2 T2 o3 o4 (Or.inl (by omega)) G1 ((F41.I h _ _ (by omega)).trans (F41.I _ _ _ (by omega))) ((FF.I h _ _ _).trans (FF.I _ _ _ _)) (kx g1) ?_
  unfold L_step_b178
  rw [mc_idx8, gAI_k k48 (by omega) (by omega), pAI_k k48 (by omega) (by omega), mc_idx8, pAI_k (show kd (sI h 48 (8 * x + y) (nI v)) 48 = 31 from k48) (by show 8 * y + x < kn h 48; omega) (by omega), kV_k (show kd (sX (sI (sI h 48 (8 * x + y) (nI v)) 48 (8 * y + x) (nI v)) 0) 0 = 10 from R.1.1.d0), o1, kb_ret, e1, kif_t rfl]
  rfl
end SMALL
