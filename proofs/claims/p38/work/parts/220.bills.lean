/-! the bills' check -/
section BILLS
variable {j A : Nat} {h hm : KH}
def BI (j A : Nat) (h hm g : KH) (V : Nat → Nat) : Prop := RR j g hm ∧ TT g hm ∧ FL h g ∧ (kd g A = 31 ∧ kn g A = 7) ∧ (∀ d, d < 6 → kI g A (1 + d) = nI (V d)) ∧ ∀ a, 640 ≤ a → a < 1000 → a ≠ A → kd h a = 0 → kd g a = 0
theorem BI.X {g : KH} {V : Nat → Nat} (B : BI j A h hm g V) (m : Nat) : BI j A h hm (sX g m) V := ⟨B.1.X m, B.2.1.X m, B.2.2.1.trans (FL.X g m), B.2.2.2.1, B.2.2.2.2.1, B.2.2.2.2.2⟩
theorem BI.cg {g : KH} {V V' : Nat → Nat} (B : BI j A h hm g V) (e : ∀ d, d < 6 → V d = V' d) : BI j A h hm g V' := ⟨B.1, B.2.1, B.2.2.1, B.2.2.2.1, fun d hd => by rw [← e d hd]; exact B.2.2.2.2.1 d hd, B.2.2.2.2.2⟩
theorem BI.step {g g1 : KH} {V : Nat → Nat} (B : BI j A h hm g V) (R : RR j g1 hm) (f : FL g g1) (ff : FF g g1) : BI j A h hm g1 V := by
  obtain ⟨b1, b2, b3, ⟨b4, b4'⟩, b5, b6⟩ := B
  obtain ⟨q1, q2, q3⟩ := f A (Or.inl b4)
  exact ⟨R, b2.fl f, b3.trans f, ⟨q1.trans b4, q2.trans b4'⟩, fun d hd => (q3 _).trans (b5 d hd), fun a h1 h2 h3 h4 => ff a h1 h2 (b6 a h1 h2 h3 h4)⟩
theorem BI.put {g : KH} {V V' : Nat → Nat} {i : Nat} {v : Int32} (B : BI j A h hm g V) (hA1 : 640 ≤ A) (hA2 : A < 1000) (hA : kd h A = 0) (hv : ∀ d, d < 6 → if 1 + d = i then v = nI (V' d) else V' d = V d) : BI j A h hm (sI g A i v) V' := by
  obtain ⟨b1, b2, b3, b4, b5, b6⟩ := B
  have e : ∀ a k, a ≠ A → kI (sI g A i v) a k = kI g a k := fun a k q => by rw [kI_sI, if_neg (fun z => q z.1)]
  refine ⟨b1.lI (Or.inr ⟨by omega, hA2⟩), ?_, ?_, b4, fun d hd => ?_, b6⟩
  · obtain ⟨t1, ⟨t2, t3⟩, t4, t5, t6, ⟨c0, c1, c2, c3⟩, t8, t9⟩ := b2
    refine ⟨t1, ⟨by rw [e _ _ (by omega)]; exact t2, fun p hp => by rw [e _ _ (by omega)]; exact t3 p hp⟩, fun r hr => by rw [e _ _ (by omega), e _ _ (by omega)]; exact t4 r hr, fun p hp => by rw [e _ _ (by omega)]; exact t5 p hp, fun s hs => by rw [e _ _ (by omega)]; exact t6 s hs, ⟨?_, ?_, ?_, ?_⟩, fun q hq => by rw [e _ _ (by omega)]; exact t8 q hq, fun k hk => by rw [e _ _ (by omega)]; exact t9 k hk⟩
    · rw [e _ _ (by omega)]; exact c0
    · rw [e _ _ (by omega)]; exact c1
    · rw [e _ _ (by omega)]; exact c2
    · rw [e _ _ (by omega)]; exact c3
  · intro a q
    obtain ⟨q1, q2, q3⟩ := b3 a q
    have hne : a ≠ A := fun z => by
      rw [z, hA] at q
      omega
    exact ⟨q1, q2, fun k => (e a k hne).trans (q3 k)⟩
  · have := hv d hd
    rw [kI_sI]
    by_cases q : 1 + d = i
    · rw [if_pos q] at this
      rw [if_pos ⟨rfl, q⟩]
      exact this
    · rw [if_neg q] at this
      rw [if_neg (fun z => q z.2), this]
      exact b5 d hd
theorem sHold_val {n : Nat} (hh : ∀ k, k < n → ∃ d, d < 6 ∧ kI hm 10 k = nI d) (p m : Nat) : sHold hm p m n = -1 ∨ ∃ d, d < 6 ∧ sHold hm p m n = nI d := by
  induction n with
  | zero => exact Or.inl rfl
  | succ n ih =>
    unfold sHold
    split
    · exact Or.inr (hh n (by omega))
    · exact ih (fun k hk => hh k (by omega))
theorem nxtA {g : KH} {n p : Nat} {l : List Nat} : ∀ (m k : Nat), k ≤ l.length → l.length ≤ k + m → ∃ k', k ≤ k' ∧ k' ≤ l.length ∧ (k' = l.length ∨ sBegAt g l k' = true) ∧ cB g l k' = cB g l k ∧ ∀ d, duS g n p l d k' = duS g n p l d k := by
  intro m
  induction m with
  | zero => intro k h1 h2; exact ⟨k, Nat.le_refl _, h1, Or.inl (by omega), rfl, fun _ => rfl⟩
  | succ m ih =>
    intro k h1 h2
    by_cases hk : k = l.length
    · exact ⟨k, Nat.le_refl _, h1, Or.inl hk, rfl, fun _ => rfl⟩
    · cases hb : sBegAt g l k with
      | true => exact ⟨k, Nat.le_refl _, h1, Or.inr hb, rfl, fun _ => rfl⟩
      | false =>
        obtain ⟨k', q1, q2, q3, q4, q5⟩ := ih (k + 1) (by omega) (by omega)
        refine ⟨k', by omega, q2, q3, ?_, fun d => ?_⟩
        · rw [q4]
          show cB g l k + (if sBegAt g l k = true then 1 else 0) = _
          rw [if_neg (by rw [hb]; decide)]
          rfl
        · rw [q5 d]
          show duS g n p l d k + (if sBegAt g l k = true then _ else 0) = _
          rw [if_neg (by rw [hb]; decide)]
          rfl
theorem law_b27 (hj : j < 512) (hA1 : 640 ≤ A) (hA2 : A < 1000) (hA : kd h A = 0) {n p : Nat} (hn : kI hm 0 12 = nI n) (hnj : n ≤ j) (hp : p < mn hm 0 8) {l : List Nat} (el : rwL hm (some p) = l) (hl : l.length ≤ 60) (b : Int32) (rc8 : Nat → Nat → Int32 → Nat → Int32 → KH → KO Int32) : ∀ (f t k : Nat) (g : KH), cB hm l k = t → k ≤ l.length → cB hm l l.length < t + f → BI j A h hm g (fun d => duT hm n (nI d) p + duS hm n p l (nI d) k) → ∃ g', L_areBills_L27 rc8 f 0 47 b A (nI p) (nI (cB hm l l.length)) (nI t) g = rc8 0 47 b A (nI (p + 1)) g' ∧ BI j A h hm g' (fun d => duT hm n (nI d) (p + 1)) := by
  intro f
  induction f with
  | zero =>
    intro t k g h1 h2 h3
    have := cB_mono hm l h2
    omega
  | succ f ih =>
    intro t k g h1 h2 h3 B
    have hmo := cB_mono hm l h2
    have hcl := cB_le hm l l.length
    obtain ⟨k', n1, n2, n3, n4, n5⟩ := nxtA (g := hm) (n := n) (p := p) (l := l) l.length k h2 (by omega)
    unfold L_areBills_L27 L_areBills_b27
    by_cases ht : cB hm l l.length ≤ t
    · refine ⟨g, ?_, B.cg (fun d hd => ?_)⟩
      · rw [kif_t (by rw [ka_le (by omega) (by omega)]; exact ht), nI_1]
      · have hk' : k' = l.length := by
          rcases n3 with q | q
          · exact q
          · by_cases hlt : k' < l.length
            · have s1 : cB hm l (k' + 1) = cB hm l k' + if sBegAt hm l k' = true then 1 else 0 := rfl
              rw [if_pos q] at s1
              have := cB_mono hm l (show k' + 1 ≤ l.length by omega)
              omega
            · omega
        show duT hm n (nI d) p + duS hm n p l (nI d) k = duT hm n (nI d) p + duS hm n p (rwL hm (some p)) (nI d) (rwL hm (some p)).length
        rw [el, ← n5, hk']
    · have hb : sBegAt hm l k' = true := by
        rcases n3 with q | q
        · rw [q] at n4
          omega
        · exact q
      have hkl : k' < l.length := by
        by_cases q : k' = l.length
        · rw [q] at n4
          omega
        · omega
      have B0 := B.X 0
      have R0 := B0.1
      have S := R0.1.1
      obtain ⟨n', q1, q2, q3⟩ := rd_driverOf R0 hj
      obtain rfl : n' = n := nI_inj (q2.symm.trans hn) (by omega) (by omega)
      have hdr := q3 p k' hp (by rw [el]; exact hkl) (by rw [el]; exact hb)
      have hto := rd_tollZ R0 hj hp (k := k') (by rw [el]; exact hkl) (by rw [el]; exact hb)
      rw [el, n4, h1] at hdr hto
      have hval := sHold_val (hm := hm) (n := n') (fun k hk => by
        obtain ⟨n3', w1, w2, w3, -⟩ := R0.2.2.2.2.2.2.2.2.2.2.1
        obtain rfl : n3' = n' := nI_inj (w2.symm.trans q2) (by omega) (by omega)
        exact (w3 k hk).2.1) p (mn hm 13 (l.getD k' 0))
      have s1 : cB hm l (k' + 1) = cB hm l k' + if sBegAt hm l k' = true then 1 else 0 := rfl
      rw [if_pos hb] at s1
      have du1 : ∀ d, duS hm n' p l d (k' + 1) = duS hm n' p l d k + duF hm n' p l d k' := fun d => by
        show duS hm n' p l d k' + (if sBegAt hm l k' = true then duF hm n' p l d k' else 0) = _
        rw [if_pos hb, n5]
      obtain ⟨k31, n7⟩ := B0.2.2.2.1
      rw [kif_f (by rw [ka_le (by omega) (by omega)]; exact ht), kV_k S.d0, hdr, kb_ret]
      obtain ⟨i, i1, i2, i3⟩ : ∃ i, i < 7 ∧ (1 : Int32) + sHold hm p (mn hm 13 (l.getD k' 0)) n' = nI i ∧ ∀ d, d < 6 → (1 + d = i ↔ sHold hm p (mn hm 13 (l.getD k' 0)) n' = nI d) := by
        rcases hval with w | ⟨d0, w1, w⟩
        · refine ⟨0, by omega, by rw [w]; decide, fun d hd => ⟨fun z => by omega, fun z => ?_⟩⟩
          rw [w, ka_n1' (by omega)] at z
          exact z.elim
        · refine ⟨1 + d0, by omega, by rw [w, show (1 : Int32) = nI 1 from rfl, ka_add], fun d hd => ⟨fun z => by rw [w, show d0 = d by omega], fun z => ?_⟩⟩
          rw [w, ka_eq (by omega) (by omega)] at z
          omega
      rw [i2, gAI_k k31 (by rw [n7]; exact i1) (by omega), sX_X, kV_k S.d0, hto, kb_ret, pAI_k k31 (by rw [n7]; exact i1) (by omega), nI_1]
      refine ih (t + 1) (k' + 1) _ (by omega) (by omega) (by omega) (B0.put hA1 hA2 hA (fun d hd => ?_))
      rw [du1]
      unfold duF
      by_cases q : 1 + d = i
      · rw [if_pos q, if_pos ((i3 d hd).1 q), ← q, B0.2.2.2.2.1 d hd, ka_add]
        dsimp only
        rw [Nat.add_assoc]
      · rw [if_neg q, if_neg (fun z => q ((i3 d hd).2 z))]
        rfl
theorem law_b8 (hj : j < 512) (hA1 : 640 ≤ A) (hA2 : A < 1000) (hA : kd h A = 0) {n : Nat} (hn : kI hm 0 12 = nI n) (hnj : n ≤ j) (b : Int32) : ∀ (f p : Nat) (g : KH), p ≤ mn hm 0 8 → mn hm 0 8 < p + f → BI j A h hm g (fun d => duT hm n (nI d) p) → ∃ g', L_areBills_L8 f 0 47 b A (nI p) g = L_areBills_L81 kF 0 b A 0 0 1 0 g' ∧ BI j A h hm g' (fun d => duT hm n (nI d) (mn hm 0 8)) := by
  intro f
  induction f with
  | zero => intro p g h1 h2; omega
  | succ f ih =>
    intro p g h1 h2 B
    have hP := B.1.P
    obtain ⟨k47, n47⟩ := B.2.1.1.2.2.2.2.2.1
    unfold L_areBills_L8 L_areBills_b8
    rw [show (2 : Int32) = nI 2 from rfl, gAI_k k47 (by omega) (by omega), B.2.1.2.2.2.2.2.1.2.2.1, B.1.cnt.2.1]
    by_cases hp : mn hm 0 8 ≤ p
    · obtain rfl : p = mn hm 0 8 := by omega
      rw [kif_t (by rw [ka_le (by omega) (by omega)]; exact hp)]
      exact ⟨g, rfl, B⟩
    · have hpl : p < mn hm 0 8 := by omega
      have B0 := B.X 0
      have S := B0.1.1.1
      have hlen := (B0.1.rw hj hpl).2.1.1
      have hcl := cB_le hm (rwL hm (some p)) (rwL hm (some p)).length
      rw [kif_f (by rw [ka_le (by omega) (by omega)]; exact hp), kV_k S.d0, rd_trips B0.1 hj hpl, kb_ret]
      obtain ⟨g1, e1, B1⟩ := law_b27 hj hA1 hA2 hA hn hnj hpl rfl hlen b (L_areBills_L8 f) kF 0 0 (sX g 0) rfl (by omega) (by unfold kF; omega) (B0.cg (fun d hd => rfl))
      rw [show (0 : Int32) = nI 0 from rfl, e1]
      exact ih (p + 1) g1 (by omega) (by omega) B1
end BILLS
