/-! the start: the class's heap as its constructor leaves it -/
def ZA (h : KH) : Prop := (∀ a k, ¬ (a = 1 ∧ k = 3) → kI h a k = 0) ∧ ∀ a k, kL h a k = 0
theorem za_al {h : KH} (Z : ZA h) (c n : Nat) : ZA (al h c n) := by
  refine ⟨fun a k q => ?_, fun a k => ?_⟩
  · rw [kI_al]
    split
    · rfl
    · exact Z.1 a k q
  · rw [kL_al]
    split
    · rfl
    · exact Z.2 a k
theorem za_M {h : KH} (Z : ZA h) (n k : Nat) : ZA (alM h n k) := by
  refine ⟨fun a j q => ?_, fun a j => ?_⟩
  · show (if _ then _ else _) = _
    split
    · rfl
    · exact Z.1 a j q
  · show (if _ then _ else _) = _
    split
    · rfl
    · exact Z.2 a j
theorem za_R {h : KH} (Z : ZA h) (a k : Nat) (v : Option Nat) : ZA (sR h a k v) := Z
theorem za_E : ZA kE := ⟨fun _ _ _ => rfl, fun _ _ => rfl⟩
def xh1 : KH := al (al kE 10 0) 7 0
def xh2 : KH := sR (alM xh1 8 8) 1 0 (some 2)
def xh3 : KH := sR (alM xh2 8 8) 1 1 (some 11)
def xh4 : KH := sR (al xh3 23 8) 1 2 (some 20)
def xh5 : KH := sI xh4 1 3 30
theorem kd_alM (h : KH) (n k b : Nat) : kd (alM h n k) b = if b = kx h then 24 else if kx h < b ∧ b ≤ kx h + n then 21 else kd h b := rfl
theorem xh1_x : kx xh1 = 2 := rfl
theorem xh2_x : kx xh2 = 11 := rfl
theorem xh3_x : kx xh3 = 20 := rfl
theorem xh1_Z : ZA xh1 := za_al (za_al za_E 10 0) 7 0
theorem xh2_Z : ZA xh2 := za_R (za_M xh1_Z 8 8) 1 0 _
theorem xh3_Z : ZA xh3 := za_R (za_M xh2_Z 8 8) 1 1 _
theorem xh4_Z : ZA xh4 := za_R (za_al xh3_Z 23 8) 1 2 _
theorem xh5_I {a k : Nat} (h : ¬ (a = 1 ∧ k = 3)) : kI xh5 a k = 0 := by
  unfold xh5
  rw [kI_sI, if_neg h]
  exact xh4_Z.1 a k h
theorem xh5_L (a k : Nat) : kL xh5 a k = 0 := by
  unfold xh5
  rw [kL_sI]
  exact xh4_Z.2 a k
theorem xh5_x : kx xh5 = 21 := rfl
theorem xh5_d : ∀ a, a < 21 → kd xh5 a = xDl.getD a 0 ∧ kn xh5 a = xNl.getD a 0 := by decide +kernel
theorem xh5_r : (kR xh5 1 0 = some 2 ∧ kR xh5 1 1 = some 11 ∧ kR xh5 1 2 = some 20) ∧ (∀ i, i < 8 → kR xh5 2 i = some (3 + i)) ∧ ∀ i, i < 8 → kR xh5 11 i = some (12 + i) := by decide +kernel
theorem xh5_f : ∀ a, 21 ≤ a → kd xh5 a = 0 := by
  intro a ha
  have e4 : kd xh4 a = kd xh3 a := by
    unfold xh4
    rw [kd_sR, kd_al, xh3_x, if_neg (by omega)]
  have e3 : kd xh3 a = kd xh2 a := by
    unfold xh3
    rw [kd_sR, kd_alM, xh2_x, if_neg (by omega), if_neg (by omega)]
  have e2 : kd xh2 a = kd xh1 a := by
    unfold xh2
    rw [kd_sR, kd_alM, xh1_x, if_neg (by omega), if_neg (by omega)]
  have e1 : kd xh1 a = 0 := by
    show (if a = 1 then 7 else if a = 0 then 10 else 0) = 0
    rw [if_neg (by omega), if_neg (by omega)]
  unfold xh5
  rw [kd_sI, e4, e3, e2, e1]
theorem xh5_S : kSr xh5 := ⟨(xh5_d 1 (by decide)).1, xh5_r.1, xh5_d 2 (by decide), xh5_d 11 (by decide), xh5_d 20 (by decide), fun i hi => ⟨⟨(xh5_d (3 + i) (by omega)).1.trans (xD3_at i hi).1, (xh5_d (3 + i) (by omega)).2.trans (xD3_at i hi).2⟩, xh5_r.2.1 i hi⟩, fun i hi => ⟨⟨(xh5_d (12 + i) (by omega)).1.trans (xD12_at i hi).1, (xh5_d (12 + i) (by omega)).2.trans (xD12_at i hi).2⟩, xh5_r.2.2 i hi⟩⟩
theorem x6_start {h' : KH} (e : f_X6_measureAll 1 xh5 = kret () h') : f_X6_init 1 xh1 = kret () h' := by
  have n1 : ∀ {α : Type} (F : Nat → KH → KO α), nwM xh1 8 8 F = F 2 (alM xh1 8 8) := fun F => if_pos (by decide +kernel)
  have n2 : ∀ {α : Type} (F : Nat → KH → KO α), nwM xh2 8 8 F = F 11 (alM xh2 8 8) := fun F => if_pos (by decide +kernel)
  have n3 : ∀ {α : Type} (F : Nat → KH → KO α), nw xh3 23 8 F = F 20 (al xh3 23 8) := fun F => if_pos (by decide +kernel)
  unfold f_X6_init
  rw [n1, pR_k (show kd (alM xh1 8 8) 1 = 7 by decide +kernel)]
  rw [show sR (alM xh1 8 8) 1 0 (some 2) = xh2 from rfl, n2, pR_k (show kd (alM xh2 8 8) 1 = 7 by decide +kernel)]
  rw [show sR (alM xh2 8 8) 1 1 (some 11) = xh3 from rfl, n3, pR_k (show kd (al xh3 23 8) 1 = 7 by decide +kernel)]
  rw [show sR (al xh3 23 8) 1 2 (some 20) = xh4 from rfl, pI_k (show kd xh4 1 = 7 by decide +kernel)]
  rw [show sI xh4 1 3 30 = xh5 from rfl, kV_k xh5_S.d1, e, kb_ret]
/-- the chain behind the roads -/
def CH (g : KH) (n : Nat) (S : List (Nat × Nat × Nat)) (h : KH) : Prop := kx h = n ∧ (∀ a, a < n → kd h a = xDl.getD a 0 ∧ kn h a = xNl.getD a 0) ∧ (∀ a, n ≤ a → kd h a = 0) ∧ (∀ t, t ∈ S → t.1 < n ∧ kR h t.1 t.2.1 = some t.2.2) ∧ (∀ a k, a = 0 ∨ 22 ≤ a → kI h a k = 0) ∧ (∀ a k, 21 ≤ a → kL h a k = 0) ∧ kAg (fun a _ => a = 0 ∨ 22 ≤ a) g h ∧ 22 ≤ n
theorem ch_al {g h : KH} {n n' : Nat} {S : List (Nat × Nat × Nat)} (C : CH g n S h) (c len : Nat) (hc : xDl.getD n 0 = c) (hl : xNl.getD n 0 = len) (hn : n' = n + 1) : ∃ h', (∀ {α : Type} (F : Nat → KH → KO α), nw h c len F = F n h') ∧ CH g n' S h' := by
  obtain ⟨c1, c2, c3, c4, c5, c6, c7, c8⟩ := C
  have hf : kd h (kx h) = 0 := by rw [c1]; exact c3 n (Nat.le_refl _)
  refine ⟨al h c len, fun F => by rw [nw_k hf, c1], by rw [kx_al, c1, hn], fun a ha => ?_, fun a ha => ?_, fun t ht => ?_, fun a k q => ?_, fun a k q => ?_, c7.trans (kAg.al h c len hf) (fun a k q => q) (fun a k q z => q (Or.inr (by rw [c1] at z; omega))), by omega⟩
  · rw [kd_al, kn_al, c1]
    by_cases hq : a = n
    · rw [if_pos hq, if_pos hq, hq, hc, hl]
      exact ⟨rfl, rfl⟩
    · rw [if_neg hq, if_neg hq]
      exact c2 a (by omega)
  · rw [kd_al, c1, if_neg (by omega)]
    exact c3 a (by omega)
  · obtain ⟨t1, t2⟩ := c4 t ht
    exact ⟨by omega, by rw [kR_al, c1, if_neg (by omega)]; exact t2⟩
  · rw [kI_al]
    split
    · rfl
    · exact c5 a k q
  · rw [kL_al]
    split
    · rfl
    · exact c6 a k q
theorem ch_pR {g h : KH} {n : Nat} {S : List (Nat × Nat × Nat)} (C : CH g n S h) (a c k v : Nat) (ha : a < n) (hc : xDl.getD a 0 = c) (h0 : a = 0 ∨ 22 ≤ a) (hS : ∀ t, t ∈ S → ¬ (t.1 = a ∧ t.2.1 = k)) : ∃ h', (∀ {α : Type} (F : KH → KO α), pR h a c k (some v) F = F h') ∧ CH g n ((a, k, v) :: S) h' := by
  obtain ⟨c1, c2, c3, c4, c5, c6, c7, c8⟩ := C
  refine ⟨sR h a k (some v), fun F => pR_k ((c2 a ha).1.trans hc), c1, c2, c3, fun t ht => ?_, c5, c6, c7.trans (kAg.R h a k (some v)) (fun a k q => q) (fun a k q z => q (by omega)), c8⟩
  rcases List.mem_cons.1 ht with rfl | ht
  · exact ⟨ha, by rw [kR_sR, if_pos ⟨rfl, rfl⟩]⟩
  · obtain ⟨t1, t2⟩ := c4 t ht
    exact ⟨t1, by rw [kR_sR, if_neg (hS t ht)]; exact t2⟩
theorem ch_pI {g h : KH} {n : Nat} {S : List (Nat × Nat × Nat)} (C : CH g n S h) (a c k : Nat) (ha : a < n) (hc : xDl.getD a 0 = c) (h0 : a = 0 ∨ 22 ≤ a) : ∃ h', (∀ {α : Type} (F : KH → KO α), pI h a c k 0 F = F h') ∧ CH g n S h' := by
  obtain ⟨c1, c2, c3, c4, c5, c6, c7, c8⟩ := C
  refine ⟨sI h a k 0, fun F => pI_k ((c2 a ha).1.trans hc), c1, c2, c3, c4, fun b j q => ?_, c6, c7.trans (kAg.I h a k 0) (fun a k q => q) (fun a k q z => q (by omega)), c8⟩
  rw [kI_sI]
  split
  · rfl
  · exact c5 b j q
/-- the heap behind the rates -/
def xg (g : KH) : KH := sI (sI (sI (sI (al (sR g 0 0 (some 1)) 21 4) 21 0 1) 21 1 2) 21 2 4) 21 3 8
theorem xg_I {g : KH} (hx : kx g = 21) {a k : Nat} (h : a ≠ 21) : kI (xg g) a k = kI g a k := by
  unfold xg
  rw [kI_sI, if_neg (fun z => h z.1), kI_sI, if_neg (fun z => h z.1), kI_sI, if_neg (fun z => h z.1), kI_sI, if_neg (fun z => h z.1), kI_al]
  rw [show kx (sR g 0 0 (some 1)) = 21 from hx, if_neg h]
  rfl
theorem xg_rates {g : KH} (hx : kx g = 21) : kI (xg g) 21 0 = 1 ∧ kI (xg g) 21 1 = 2 ∧ kI (xg g) 21 2 = 4 ∧ kI (xg g) 21 3 = 8 := ⟨rfl, rfl, rfl, rfl⟩
theorem x9_start {g : KH} (hx : kx g = 21) (hd : ∀ a, a < 21 → kd g a = xDl.getD a 0 ∧ kn g a = xNl.getD a 0) (hf : ∀ a, 21 ≤ a → kd g a = 0) (hI : ∀ a k, a = 0 ∨ 22 ≤ a → kI g a k = 0) (hL : ∀ a k, 21 ≤ a → kL g a k = 0) (e : f_X6_init 1 xh1 = kret () g) : ∃ x0, f_X9_init 0 (al kE 10 0) = kret () x0 ∧ CH (xg g) 36 [(0, 11, 33), (33, 1, 35), (33, 0, 34), (0, 10, 32), (0, 9, 31), (0, 8, 30), (0, 7, 29), (0, 6, 28), (0, 5, 27), (0, 4, 26), (0, 3, 24), (24, 0, 25), (0, 2, 22), (22, 0, 23), (0, 1, 21), (0, 0, 1)] x0 := by
  have k0 : kd (sR g 0 0 (some 1)) 21 = 0 := hf 21 (by decide)
  have C0 : CH (xg g) 22 [(0, 0, 1)] (xg g) := by
    refine ⟨?_, fun a ha => ?_, fun a ha => ?_, fun t ht => ?_, fun a k q => ?_, fun a k q => ?_, (kAg.rf _).sub (fun _ _ z => z.elim), by decide⟩
    · show kx g + 1 = 22
      rw [hx]
    · show (if a = kx g then 21 else kd g a) = _ ∧ (if a = kx g then 4 else kn g a) = _
      rw [hx]
      by_cases hq : a = 21
      · rw [if_pos hq, if_pos hq, hq]
        exact ⟨rfl, rfl⟩
      · rw [if_neg hq, if_neg hq]
        exact hd a (by omega)
    · show (if a = kx g then 21 else kd g a) = 0
      rw [hx, if_neg (by omega)]
      exact hf a (by omega)
    · rcases List.mem_cons.1 ht with rfl | ht
      · refine ⟨by decide, ?_⟩
        show (if 0 = kx g then none else if 0 = 0 ∧ 0 = 0 then some 1 else kR g 0 0) = some 1
        rw [hx, if_neg (by decide), if_pos ⟨rfl, rfl⟩]
      · cases ht
    · rw [xg_I hx (by omega)]
      exact hI a k q
    · show (if a = kx g then 0 else kL g a k) = 0
      split
      · rfl
      · exact hL a k q
  have hk1 : kd (al (sR g 0 0 (some 1)) 21 4) 21 = 21 := by
    show (if 21 = kx g then 21 else kd g 21) = 21
    rw [hx, if_pos rfl]
  have hn1 : kn (al (sR g 0 0 (some 1)) 21 4) 21 = 4 := by
    show (if 21 = kx g then 4 else kn g 21) = 4
    rw [hx, if_pos rfl]
  have w : ∀ {α : Type} (h : KH) (i : Nat) (v : Int32) (F : KH → KO α), kd h 21 = 21 → kn h 21 = 4 → i < 4 → pAI h 21 21 (nI i) v F = F (sI h 21 i v) := fun h i v F q1 q2 q3 => pAI_k q1 (by omega) (by omega)
  unfold f_X9_init
  rw [nw_k (show kd (al kE 10 0) (kx (al kE 10 0)) = 0 from rfl)]
  rw [show kx (al kE 10 0) = 1 from rfl, show al (al kE 10 0) 7 0 = xh1 from rfl, e, ki_ret, pR_k (show kd g 0 = 10 from (hd 0 (by decide)).1), nw_k (show kd (sR g 0 0 (some 1)) (kx (sR g 0 0 (some 1))) = 0 by rw [show kx (sR g 0 0 (some 1)) = 21 from hx]; exact k0)]
  rw [show kx (sR g 0 0 (some 1)) = 21 from hx]
  rw [show (0 : Int32) = nI 0 from rfl, w _ 0 1 _ hk1 hn1 (by decide)]
  rw [show (1 : Int32) = nI 1 from rfl, w _ 1 2 _ (by simp only [kd_sI]; exact hk1) (by simp only [kn_sI]; exact hn1) (by decide)]
  rw [show (2 : Int32) = nI 2 from rfl, w _ 2 4 _ (by simp only [kd_sI]; exact hk1) (by simp only [kn_sI]; exact hn1) (by decide)]
  rw [show (3 : Int32) = nI 3 from rfl, w _ 3 8 _ (by simp only [kd_sI]; exact hk1) (by simp only [kn_sI]; exact hn1) (by decide)]
  rw [show sI (sI (sI (sI (al (sR g 0 0 (some 1)) 21 4) 21 0 (nI 1)) 21 1 (nI 2)) 21 2 4) 21 3 8 = xg g from rfl, show nI 0 = (0 : Int32) from rfl]
  obtain ⟨g1, e1, C1⟩ := ch_pR C0 0 10 1 21 (by decide) rfl (by decide) (by decide)
  rw [e1]
  obtain ⟨g2, e2, C2⟩ := ch_al C1 (n' := 23) 8 0 rfl rfl rfl
  rw [e2]
  unfold f_X7_init
  obtain ⟨g3, e3, C3⟩ := ch_al C2 (n' := 24) 21 6 rfl rfl rfl
  rw [e3]
  obtain ⟨g4, e4, C4⟩ := ch_pR C3 22 8 0 23 (by decide) rfl (by decide) (by decide)
  rw [e4]
  obtain ⟨g5, e5, C5⟩ := ch_pI C4 22 8 1 (by decide) rfl (by decide)
  rw [e5]
  rw [ki_ret]
  obtain ⟨g6, e6, C6⟩ := ch_pR C5 0 10 2 22 (by decide) rfl (by decide) (by decide)
  rw [e6]
  obtain ⟨g7, e7, C7⟩ := ch_al C6 (n' := 25) 3 0 rfl rfl rfl
  rw [e7]
  unfold f_X2_init
  obtain ⟨g8, e8, C8⟩ := ch_al C7 (n' := 26) 21 15 rfl rfl rfl
  rw [e8]
  obtain ⟨g9, e9, C9⟩ := ch_pR C8 24 3 0 25 (by decide) rfl (by decide) (by decide)
  rw [e9]
  rw [ki_ret]
  obtain ⟨g10, e10, C10⟩ := ch_pR C9 0 10 3 24 (by decide) rfl (by decide) (by decide)
  rw [e10]
  obtain ⟨g11, e11, C11⟩ := ch_al C10 (n' := 27) 25 10 rfl rfl rfl
  rw [e11]
  obtain ⟨g12, e12, C12⟩ := ch_pR C11 0 10 4 26 (by decide) rfl (by decide) (by decide)
  rw [e12]
  obtain ⟨g13, e13, C13⟩ := ch_al C12 (n' := 28) 25 10 rfl rfl rfl
  rw [e13]
  obtain ⟨g14, e14, C14⟩ := ch_pR C13 0 10 5 27 (by decide) rfl (by decide) (by decide)
  rw [e14]
  obtain ⟨g15, e15, C15⟩ := ch_al C14 (n' := 29) 26 60 rfl rfl rfl
  rw [e15]
  obtain ⟨g16, e16, C16⟩ := ch_pR C15 0 10 6 28 (by decide) rfl (by decide) (by decide)
  rw [e16]
  obtain ⟨g17, e17, C17⟩ := ch_al C16 (n' := 30) 27 8 rfl rfl rfl
  rw [e17]
  obtain ⟨g18, e18, C18⟩ := ch_pR C17 0 10 7 29 (by decide) rfl (by decide) (by decide)
  rw [e18]
  obtain ⟨g19, e19, C19⟩ := ch_al C18 (n' := 31) 28 40 rfl rfl rfl
  rw [e19]
  obtain ⟨g20, e20, C20⟩ := ch_pR C19 0 10 8 30 (by decide) rfl (by decide) (by decide)
  rw [e20]
  obtain ⟨g21, e21, C21⟩ := ch_al C20 (n' := 32) 22 6 rfl rfl rfl
  rw [e21]
  obtain ⟨g22, e22, C22⟩ := ch_pR C21 0 10 9 31 (by decide) rfl (by decide) (by decide)
  rw [e22]
  obtain ⟨g23, e23, C23⟩ := ch_al C22 (n' := 33) 22 6 rfl rfl rfl
  rw [e23]
  obtain ⟨g24, e24, C24⟩ := ch_pR C23 0 10 10 32 (by decide) rfl (by decide) (by decide)
  rw [e24]
  obtain ⟨g25, e25, C25⟩ := ch_al C24 (n' := 34) 4 0 rfl rfl rfl
  rw [e25]
  unfold f_X3_init
  obtain ⟨g26, e26, C26⟩ := ch_al C25 (n' := 35) 26 60 rfl rfl rfl
  rw [e26]
  obtain ⟨g27, e27, C27⟩ := ch_pR C26 33 4 0 34 (by decide) rfl (by decide) (by decide)
  rw [e27]
  obtain ⟨g28, e28, C28⟩ := ch_al C27 (n' := 36) 23 60 rfl rfl rfl
  rw [e28]
  obtain ⟨g29, e29, C29⟩ := ch_pR C28 33 4 1 35 (by decide) rfl (by decide) (by decide)
  rw [e29]
  obtain ⟨g30, e30, C30⟩ := ch_pI C29 33 4 2 (by decide) rfl (by decide)
  rw [e30]
  rw [ki_ret]
  obtain ⟨g31, e31, C31⟩ := ch_pR C30 0 10 11 33 (by decide) rfl (by decide) (by decide)
  rw [e31]
  obtain ⟨g32, e32, C32⟩ := ch_pI C31 0 10 12 (by decide) rfl (by decide)
  rw [e32]
  obtain ⟨g33, e33, C33⟩ := ch_pI C32 0 10 13 (by decide) rfl (by decide)
  rw [e33]
  obtain ⟨g34, e34, C34⟩ := ch_pI C33 0 10 14 (by decide) rfl (by decide)
  rw [e34]
  obtain ⟨g35, e35, C35⟩ := ch_pI C34 0 10 15 (by decide) rfl (by decide)
  rw [e35]
  obtain ⟨g36, e36, C36⟩ := ch_pI C35 0 10 16 (by decide) rfl (by decide)
  rw [e36]
  exact ⟨_, rfl, C36⟩
/-! the start: the model's heap -/
def MI (n : Nat) (S : List (Nat × Nat)) (h : KH) : Prop := kx h = n ∧ (∀ a, a < n → kd h a = mDl.getD a 0 ∧ kn h a = mNl.getD a 0) ∧ (∀ a, n ≤ a → kd h a = 0) ∧ (∀ t, t ∈ S → kR h 0 t.1 = some t.2) ∧ (∀ a k, ¬ (a = 0 ∧ k = 1) → kI h a k = 0) ∧ (∀ a k, kL h a k = 0) ∧ kI h 0 1 = 30 ∧ 1 ≤ n
theorem mi_al {h : KH} {n n' : Nat} {S : List (Nat × Nat)} (C : MI n S h) (c len k : Nat) (hc : mDl.getD n 0 = c) (hl : mNl.getD n 0 = len) (hn : n' = n + 1) (hS : ∀ t, t ∈ S → t.1 ≠ k) : ∃ h', (∀ {α : Type} (F : KH → KO α), nw h c len (fun a h1 => pR h1 0 11 k (some a) F) = F h') ∧ MI n' ((k, n) :: S) h' := by
  obtain ⟨c1, c2, c3, c4, c5, c6, c7, c8⟩ := C
  have hf : kd h (kx h) = 0 := by rw [c1]; exact c3 n (Nat.le_refl _)
  have k0 : kd (al h c len) 0 = 11 := by
    rw [kd_al, c1, if_neg (by omega)]
    exact (c2 0 (by omega)).1
  refine ⟨sR (al h c len) 0 k (some n), fun F => by rw [nw_k hf, c1, pR_k k0], ?_, fun a ha => ?_, fun a ha => ?_, fun t ht => ?_, fun a k q => ?_, fun a k => ?_, ?_, by omega⟩
  · show kx h + 1 = n'
    omega
  · rw [kd_sR, kn_sR, kd_al, kn_al, c1]
    by_cases hq : a = n
    · rw [if_pos hq, if_pos hq, hq, hc, hl]
      exact ⟨rfl, rfl⟩
    · rw [if_neg hq, if_neg hq]
      exact c2 a (by omega)
  · rw [kd_sR, kd_al, c1, if_neg (by omega)]
    exact c3 a (by omega)
  · rcases List.mem_cons.1 ht with rfl | ht
    · rw [kR_sR, if_pos ⟨rfl, rfl⟩]
    · rw [kR_sR, if_neg (fun z => hS t ht z.2), kR_al, c1, if_neg (by omega)]
      exact c4 t ht
  · rw [kI_sR, kI_al]
    split
    · rfl
    · exact c5 a k q
  · rw [kL_sR, kL_al]
    split
    · rfl
    · exact c6 a k
  · rw [kI_sR, kI_al, c1, if_neg (by omega)]
    exact c7
theorem x10_start : ∃ h, f_X10_init 0 (al kE 11 0) = X10_init_L232 kF 0 0 h ∧ MI 28 [(34, 27), (33, 26), (32, 25), (30, 24), (29, 23), (28, 22), (26, 21), (25, 20), (24, 19), (23, 18), (22, 17), (21, 16), (20, 15), (19, 14), (18, 13), (17, 12), (15, 11), (14, 10), (13, 9), (11, 8), (10, 7), (9, 6), (7, 5), (6, 4), (4, 3), (3, 2), (2, 1)] h := by
  have C0 : MI 1 [] (sI (al kE 11 0) 0 1 30) := by
    refine ⟨rfl, fun a ha => ?_, fun a ha => ?_, fun t ht => (by cases ht), fun a k q => ?_, fun a k => ?_, rfl, by decide⟩
    · obtain rfl : a = 0 := by omega
      exact ⟨rfl, rfl⟩
    · show (if a = 0 then 11 else 0) = 0
      rw [if_neg (by omega)]
    · rw [kI_sI, if_neg q, kI_al]
      split <;> rfl
    · show (if a = 0 then 0 else 0) = _
      split <;> rfl
  unfold f_X10_init
  rw [pI_k (show kd (al kE 11 0) 0 = 11 from rfl)]
  obtain ⟨g1, e1, C1⟩ := mi_al C0 (n' := 2) 21 64 2 rfl rfl rfl (by decide)
  rw [e1]
  obtain ⟨g2, e2, C2⟩ := mi_al C1 (n' := 3) 21 64 3 rfl rfl rfl (by decide)
  rw [e2]
  obtain ⟨g3, e3, C3⟩ := mi_al C2 (n' := 4) 21 4 4 rfl rfl rfl (by decide)
  rw [e3]
  obtain ⟨g4, e4, C4⟩ := mi_al C3 (n' := 5) 21 6 6 rfl rfl rfl (by decide)
  rw [e4]
  obtain ⟨g5, e5, C5⟩ := mi_al C4 (n' := 6) 23 225 7 rfl rfl rfl (by decide)
  rw [e5]
  obtain ⟨g6, e6, C6⟩ := mi_al C5 (n' := 7) 21 10 9 rfl rfl rfl (by decide)
  rw [e6]
  obtain ⟨g7, e7, C7⟩ := mi_al C6 (n' := 8) 21 60 10 rfl rfl rfl (by decide)
  rw [e7]
  obtain ⟨g8, e8, C8⟩ := mi_al C7 (n' := 9) 21 10 11 rfl rfl rfl (by decide)
  rw [e8]
  obtain ⟨g9, e9, C9⟩ := mi_al C8 (n' := 10) 21 700 13 rfl rfl rfl (by decide)
  rw [e9]
  obtain ⟨g10, e10, C10⟩ := mi_al C9 (n' := 11) 21 700 14 rfl rfl rfl (by decide)
  rw [e10]
  obtain ⟨g11, e11, C11⟩ := mi_al C10 (n' := 12) 21 700 15 rfl rfl rfl (by decide)
  rw [e11]
  obtain ⟨g12, e12, C12⟩ := mi_al C11 (n' := 13) 21 60 17 rfl rfl rfl (by decide)
  rw [e12]
  obtain ⟨g13, e13, C13⟩ := mi_al C12 (n' := 14) 21 60 18 rfl rfl rfl (by decide)
  rw [e13]
  obtain ⟨g14, e14, C14⟩ := mi_al C13 (n' := 15) 21 60 19 rfl rfl rfl (by decide)
  rw [e14]
  obtain ⟨g15, e15, C15⟩ := mi_al C14 (n' := 16) 21 360 20 rfl rfl rfl (by decide)
  rw [e15]
  obtain ⟨g16, e16, C16⟩ := mi_al C15 (n' := 17) 23 60 21 rfl rfl rfl (by decide)
  rw [e16]
  obtain ⟨g17, e17, C17⟩ := mi_al C16 (n' := 18) 21 60 22 rfl rfl rfl (by decide)
  rw [e17]
  obtain ⟨g18, e18, C18⟩ := mi_al C17 (n' := 19) 21 60 23 rfl rfl rfl (by decide)
  rw [e18]
  obtain ⟨g19, e19, C19⟩ := mi_al C18 (n' := 20) 21 60 24 rfl rfl rfl (by decide)
  rw [e19]
  obtain ⟨g20, e20, C20⟩ := mi_al C19 (n' := 21) 22 6 25 rfl rfl rfl (by decide)
  rw [e20]
  obtain ⟨g21, e21, C21⟩ := mi_al C20 (n' := 22) 22 6 26 rfl rfl rfl (by decide)
  rw [e21]
  obtain ⟨g22, e22, C22⟩ := mi_al C21 (n' := 23) 21 8 28 rfl rfl rfl (by decide)
  rw [e22]
  obtain ⟨g23, e23, C23⟩ := mi_al C22 (n' := 24) 21 8 29 rfl rfl rfl (by decide)
  rw [e23]
  obtain ⟨g24, e24, C24⟩ := mi_al C23 (n' := 25) 21 8 30 rfl rfl rfl (by decide)
  rw [e24]
  obtain ⟨g25, e25, C25⟩ := mi_al C24 (n' := 26) 21 40 32 rfl rfl rfl (by decide)
  rw [e25]
  obtain ⟨g26, e26, C26⟩ := mi_al C25 (n' := 27) 21 40 33 rfl rfl rfl (by decide)
  rw [e26]
  obtain ⟨g27, e27, C27⟩ := mi_al C26 (n' := 28) 21 40 34 rfl rfl rfl (by decide)
  rw [e27]
  exact ⟨_, rfl, C27⟩
