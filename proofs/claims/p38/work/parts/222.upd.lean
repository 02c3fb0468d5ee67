/-! the law's rows beside changed cells -/
theorem nI_div {a b : Nat} (ha : a < 2147483648) (hb : b < 2147483648) : nI a / nI b = nI (a / b) := by
  have hq : a / b < 2147483648 := Nat.lt_of_le_of_lt (Nat.div_le_self a b) ha
  apply Int32.toInt_inj.1
  rw [Int32.toInt_div, nI_int ha, nI_int hb, nI_int hq]
  have e : Int.tdiv (a : Int) (b : Int) = ((a / b : Nat) : Int) := by
    rw [Int.tdiv_eq_ediv_of_nonneg (Int.natCast_nonneg a), Int.natCast_ediv]
  rw [e]
  clear e
  generalize a / b = q at hq ⊢
  exact Int.bmod_eq_of_le (by omega) (by omega)
theorem nI_mod {a b : Nat} (ha : a < 2147483648) (hb : b < 2147483648) : nI a - nI a / nI b * nI b = nI (a % b) := by
  rw [nI_div ha hb, ka_mul, ka_sub (Nat.div_mul_le_self a b)]
  have := Nat.div_add_mod a b
  rw [Nat.mul_comm] at this
  rw [show a - a / b * b = a % b by omega]
theorem nI_and (a b : Nat) : nI a &&& nI b = nI (a &&& b) := by
  unfold nI
  rw [← Int32.toBitVec_inj, Int32.toBitVec_and, Int32.toBitVec_ofNat', Int32.toBitVec_ofNat', Int32.toBitVec_ofNat']
  apply BitVec.eq_of_toNat_eq
  simp [BitVec.toNat_and, BitVec.toNat_ofNat, Nat.and_mod_two_pow]
theorem kdv_k {y : Nat} {x : KO Int32} (h0 : 0 < y) (hy : y < 2147483648) : kdv (nI y) x = x := by
  unfold kdv
  rw [if_neg (by rw [show (0 : Int32) = nI 0 from rfl, ka_eq hy (by omega)]; omega)]
section UPD
variable {h h' hm hm' : KH} {c : Nat}
theorem TTk.to (T : TTk h) (e1 : kd h' = kd h) (e2 : kn h' = kn h) : TTk h' := by
  unfold TTk at T ⊢
  rw [e1, e2]
  exact T
theorem mn_at {a k : Nat} (e : kI hm' a k = kI hm a k) : mn hm' a k = mn hm a k := by
  unfold mn
  rw [e]
theorem t0_cg (t : kI h 42 0 = nI (pkT (mn hm 4) (mn hm 0 5))) (e : kI h' 42 0 = kI h 42 0) (m4 : ∀ k, kI hm' 4 k = kI hm 4 k) (m5 : kI hm' 0 5 = kI hm 0 5) : kI h' 42 0 = nI (pkT (mn hm' 4) (mn hm' 0 5)) := by
  rw [e, t, mn_at m5, pkT_cg (fun k _ => (mn_at (m4 k)).symm)]
theorem tp_cg (t : ∀ p, p < mn hm 0 8 → kI h 42 (1 + p) = nI (ptx hm p)) (e : ∀ p, kI h' 42 (1 + p) = kI h 42 (1 + p)) (m8 : kI hm' 0 8 = kI hm 0 8) (m6 : ∀ k, kI hm' 6 k = kI hm 6 k) (m7 : ∀ k, kI hm' 7 k = kI hm 7 k) : ∀ p, p < mn hm' 0 8 → kI h' 42 (1 + p) = nI (ptx hm' p) := by
  intro p hp
  rw [mn_at m8] at hp
  rw [e, t p hp]
  unfold ptx
  rw [mn_at (m6 p), pkT_cg (fun k _ => (mn_at (m7 _)).symm)]
theorem r_cg (t : TTr h hm) (e3 : ∀ k, kI h' 43 k = kI h 43 k) (e4 : ∀ k, kI h' 44 k = kI h 44 k) (m16 : kI hm' 0 16 = kI hm 0 16) (m12 : ∀ k, kI hm' 12 k = kI hm 12 k) (m13 : ∀ k, kI hm' 13 k = kI hm 13 k) (m14 : ∀ k, kI hm' 14 k = kI hm 14 k) (m15 : ∀ k, kI hm' 15 k = kI hm 15 k) (m6 : ∀ k, kI hm' 16 k = kI hm 16 k) (m7 : ∀ k, kI hm' 17 k = kI hm 17 k) : TTr h' hm' := by
  intro r hr
  rw [mn_at m16] at hr
  obtain ⟨t1, t2⟩ := t r hr
  refine ⟨?_, ?_⟩
  · rw [e3, t1]
    unfold rtx
    rw [mn_at (m14 r), pkT_cg (fun k _ => (mn_at (m15 _)).symm)]
  · rw [e4, t2]
    unfold rbt tld
    rw [mn_at (m12 r), mn_at (m13 r), mn_at (m6 r), mn_at (m7 r), m7]
theorem k_cg (t : ∀ p, p < mn hm 0 8 → kI h 45 p = kI hm 8 p) (e : ∀ k, kI h' 45 k = kI h 45 k) (m8 : kI hm' 0 8 = kI hm 0 8) (m : ∀ k, kI hm' 8 k = kI hm 8 k) : ∀ p, p < mn hm' 0 8 → kI h' 45 p = kI hm' 8 p := by
  intro p hp
  rw [mn_at m8] at hp
  rw [e, t p hp, m]
theorem a_cg (t : TTa h hm) (e : ∀ k, kI h' 46 k = kI h 46 k) (m : ∀ k, kI hm' 5 k = kI hm 5 k) : TTa h' hm' := by
  intro s hs
  obtain ⟨M, m1, m2, m3⟩ := t s hs
  exact ⟨M, m1, by rw [e]; exact m2, fun b hb => by rw [mn_at (m _)]; exact m3 b hb⟩
theorem c_cg (t : TTc h hm) (e : ∀ k, kI h' 47 k = kI h 47 k) (m0 : kI hm' 0 0 = kI hm 0 0) (m1 : kI hm' 0 1 = kI hm 0 1) (m8 : kI hm' 0 8 = kI hm 0 8) (m16 : kI hm' 0 16 = kI hm 0 16) : TTc h' hm' := by
  obtain ⟨c0, c1, c2, c3⟩ := t
  exact ⟨by rw [e, m0]; exact c0, by rw [e, m1]; exact c1, by rw [e, m8]; exact c2, by rw [e, m16]; exact c3⟩
theorem w_cg (t : ∀ q, q < 64 → kI h 48 q = kI hm 1 q) (e : ∀ k, kI h' 48 k = kI h 48 k) (m : ∀ k, kI hm' 1 k = kI hm 1 k) : ∀ q, q < 64 → kI h' 48 q = kI hm' 1 q := fun q hq => by rw [e, m]; exact t q hq
theorem e_cg (t : ∀ q, q < 4 → kI h 49 q = kI hm 3 q) (e : ∀ k, kI h' 49 k = kI h 49 k) (m : ∀ k, kI hm' 3 k = kI hm 3 k) : ∀ q, q < 4 → kI h' 49 q = kI hm' 3 q := fun q hq => by rw [e, m]; exact t q hq
/-- nothing that the rows speak of differs -/
theorem TT.cg (T : TT h hm) (m : ∀ a k, (a = 1 ∨ 3 ≤ a ∧ a ≤ 8 ∨ 12 ≤ a ∧ a ≤ 17 ∨ a = 0 ∧ (k = 0 ∨ k = 1 ∨ k = 5 ∨ k = 8 ∨ k = 16)) → kI hm' a k = kI hm a k) : TT h hm' := by
  obtain ⟨t1, ⟨t2, t3⟩, t4, t5, t6, t7, t8, t9⟩ := T
  exact ⟨t1, ⟨t0_cg t2 rfl (fun k => m _ _ (by omega)) (m _ _ (by omega)), tp_cg t3 (fun _ => rfl) (m _ _ (by omega)) (fun k => m _ _ (by omega)) (fun k => m _ _ (by omega))⟩, r_cg t4 (fun _ => rfl) (fun _ => rfl) (m _ _ (by omega)) (fun k => m _ _ (by omega)) (fun k => m _ _ (by omega)) (fun k => m _ _ (by omega)) (fun k => m _ _ (by omega)) (fun k => m _ _ (by omega)) (fun k => m _ _ (by omega)), k_cg t5 (fun _ => rfl) (m _ _ (by omega)) (fun k => m _ _ (by omega)), a_cg t6 (fun _ => rfl) (fun k => m _ _ (by omega)), c_cg t7 (fun _ => rfl) (m _ _ (by omega)) (m _ _ (by omega)) (m _ _ (by omega)) (m _ _ (by omega)), w_cg t8 (fun _ => rfl) (fun k => m _ _ (by omega)), e_cg t9 (fun _ => rfl) (fun k => m _ _ (by omega))⟩
theorem TT.thr (T : TT h hm) (v : Int32) : TT h (sI hm 0 35 v) := T.cg (fun a k z => by rw [kI_sI, if_neg (by omega)])
/-- what goes on beside -/
def GI (hm : KH) (c : Nat) : Prop := DI hm ∧ RM hm ∧ mn hm 0 27 ≤ 7 ∧ BLok hm c
theorem BLok.cg (b : BLok hm c) (e1 : ∀ k, kL hm' 20 k = kL hm 20 k) (e2 : ∀ k, kL hm' 21 k = kL hm 21 k) : BLok hm' c := by
  obtain ⟨x, y, b1, b2, b3⟩ := b
  exact ⟨x, y, fun d hd => by rw [e1, e2]; exact b1 d hd, b2, b3⟩
theorem GI.ag {E : Nat → Nat → Prop} (G : GI hm c) (am : kAg E hm hm') (hE : ∀ a k, E a k → ¬ (a = 1 ∨ a = 2 ∨ a = 13 ∨ a = 20 ∨ a = 21 ∨ a = 0 ∧ (k = 0 ∨ k = 16 ∨ k = 27))) : GI hm' c := by
  obtain ⟨g1, g2, g3, g4⟩ := G
  have e : ∀ a k, (a = 1 ∨ a = 2 ∨ a = 13 ∨ a = 20 ∨ a = 21 ∨ a = 0 ∧ (k = 0 ∨ k = 16 ∨ k = 27)) → kI hm' a k = kI hm a k ∧ kL hm' a k = kL hm a k := fun a k q => ⟨(am.1 a k (fun z => hE a k z q)).1, (am.1 a k (fun z => hE a k z q)).2.1⟩
  refine ⟨g1.cg (fun k => (e 1 k (by omega)).1) (fun k => (e 2 k (by omega)).1), fun r hr => ?_, ?_, g4.cg (fun k => (e 20 k (by omega)).2) (fun k => (e 21 k (by omega)).2)⟩
  · rw [mn_at (e 0 16 (by omega)).1] at hr
    rw [mn_at (e 13 r (by omega)).1, mn_at (e 0 0 (by omega)).1]
    exact g2 r hr
  · rw [mn_at (e 0 27 (by omega)).1]
    exact g3
theorem GI.thr (G : GI hm c) (v : Int32) : GI (sI hm 0 35 v) c := G.ag (kAg.I hm 0 35 v) (fun a k z => by omega)
def F41 (h h1 : KH) : Prop := kd h 41 = 32 → kd h1 41 = 32 ∧ kn h1 41 = kn h 41 ∧ ∀ k, kI h1 41 k = kI h 41 k
theorem F41.rf (h : KH) : F41 h h := fun q => ⟨q, rfl, fun _ => rfl⟩
theorem F41.trans {h1 h2 : KH} (a : F41 h h1) (b : F41 h1 h2) : F41 h h2 := fun q => by
  obtain ⟨a1, a2, a3⟩ := a q
  obtain ⟨b1, b2, b3⟩ := b a1
  exact ⟨b1, b2.trans a2, fun k => (b3 k).trans (a3 k)⟩
theorem F41.of (f : FL h h') : F41 h h' := fun q => by
  obtain ⟨a1, a2, a3⟩ := f 41 (Or.inr q)
  exact ⟨a1.trans q, a2, a3⟩
theorem F41.I (h : KH) {a : Nat} (k : Nat) (v : Int32) (ha : a ≠ 41) : F41 h (sI h a k v) := fun q => ⟨q, rfl, fun i => by rw [kI_sI, if_neg (fun z => ha z.1.symm)]⟩
theorem FF.I (h : KH) (a k : Nat) (v : Int32) : FF h (sI h a k v) := fun _ _ _ q => q
/-- what a step comes to -/
def SP (j c : Nat) (h : KH) (w : KO Int32) : Prop := ∃ h1 hm1, w = kret 1 h1 ∧ RR (j + 4) h1 hm1 ∧ TT h1 hm1 ∧ GI hm1 c ∧ F41 h h1 ∧ FF h h1
end UPD
theorem SP.mk' {j c : Nat} {h g h1 hm1 : KH} {w : KO Int32} (e : w = kret 1 h1) (R : RR (j + 1) g hm1) (f : FL g h1) (hx : ∃ m, h1 = sX g m) (T : TT g hm1) (G : GI hm1 c) (q1 : F41 h g) (q2 : FF h g) : SP j c h w := by
  obtain ⟨m, rfl⟩ := hx
  exact ⟨_, hm1, e, (R.X m).mono (by omega), T.X m, G, q1.trans (F41.of f), q2.trans (FF.X g m)⟩
/-- a step that changes nothing -/
theorem SP.no {j c : Nat} {h hm : KH} {w : KO Int32} (R : RR j h hm) (T : TT h hm) (G : GI hm c) (m : Nat) (e : w = kret 1 (sX h m)) : SP j c h w := ⟨_, hm, e, (R.X m).mono (by omega), T.X m, G, F41.of (FL.X h m), FF.X h m⟩
