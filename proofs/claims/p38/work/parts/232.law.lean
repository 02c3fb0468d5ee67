/-! the law -/
section LAW
variable {L : Nat} {xs : Nat → Int32}
/-- the lengths of the law's rows -/
def lAR (a : Nat) : Nat := if a = 42 then 11 else if a = 43 then 60 else if a = 44 then 60 else if a = 45 then 10 else if a = 46 then 15 else if a = 47 then 4 else if a = 48 then 64 else 4
def NIx (L : Nat) (xs : Nat → Int32) (m0 : KH) (n : Nat) (g : KH) : Prop := RR 0 g m0 ∧ kx g = n ∧ (∀ a, n ≤ a → kd g a = 0) ∧ (∀ a, 42 ≤ a → a < n → kd g a = 31 ∧ kn g a = lAR a ∧ ∀ k, kI g a k = 0) ∧ C41 L xs g
theorem nix_nw {m0 g : KH} {n len : Nat} (N : NIx L xs m0 n g) (h1 : 42 ≤ n) (h2 : n < 50) (hl : len = lAR n) : (∀ (F : Nat → KH → KO Int32), nw g 31 len F = F n (al g 31 len)) ∧ NIx L xs m0 (n + 1) (al g 31 len) := by
  obtain ⟨R, hx, hf, ha, hc⟩ := N
  have h0 : kd g (kx g) = 0 := hf _ (by omega)
  have hne : ∀ a, a ≠ n → ¬ a = kx g := fun a q z => q (z.trans hx)
  refine ⟨fun F => ?_, ?_, ?_, fun a q => ?_, fun a q1 q2 => ?_, ?_⟩
  · unfold nw
    rw [if_pos h0, hx]
  · refine R.lw (kAg.al g 31 len h0) (fun a k q => by omega) (fun a q1 q2 => ?_)
    rw [kd_al] at q2
    split at q2
    · omega
    · exact absurd q1 q2
  · show kx g + 1 = n + 1
    omega
  · rw [kd_al, if_neg (hne a (by omega))]
    exact hf a (by omega)
  · by_cases e : a = n
    · rw [kd_al, kn_al, if_pos (by omega), if_pos (by omega)]
      refine ⟨rfl, by rw [hl, e], fun k => ?_⟩
      rw [kI_al, if_pos (by omega)]
    · rw [kd_al, kn_al, if_neg (hne a e), if_neg (hne a e)]
      obtain ⟨w1, w2, w3⟩ := ha a q1 (by omega)
      exact ⟨w1, w2, fun k => by rw [kI_al, if_neg (hne a e)]; exact w3 k⟩
  · obtain ⟨c1, c2, c3⟩ := hc
    exact ⟨by rw [kd_al, if_neg (hne 41 (by omega))]; exact c1, by rw [kn_al, if_neg (hne 41 (by omega))]; exact c2, fun k => by rw [kI_al, if_neg (hne 41 (by omega))]; exact c3 k⟩
def KIx (L : Nat) (xs : Nat → Int32) (m0 : KH) (i : Nat) (g : KH) : Prop := RR 0 g m0 ∧ TTk g ∧ (∀ a k, 42 ≤ a → a < 49 → kI g a k = if a = 47 ∧ k = 1 then 30 else 0) ∧ (∀ k, k < i → kI g 49 k = nI (2 ^ k)) ∧ C41 L xs g ∧ ∀ a, 700 ≤ a → a < 1000 → kd g a = 0
theorem law_62 {m0 : KH} (v : Int32) : ∀ (f i : Nat) (g : KH), i ≤ 4 → 4 < i + f → KIx L xs m0 i g → ∃ g', L_keeper_L62 f 41 v 0 42 43 44 45 46 47 48 49 (nI i) g = L_keeper_L86 79 41 v 0 42 43 44 45 46 47 48 49 0 g' ∧ KIx L xs m0 4 g' := by
  intro f
  induction f with
  | zero => intro i g h1 h2; omega
  | succ f ih =>
    intro i g h1 h2 K
    unfold L_keeper_L62 L_keeper_b62
    by_cases hi : 4 ≤ i
    · obtain rfl : i = 4 := by omega
      rw [kif_t (by decide)]
      exact ⟨g, rfl, K⟩
    · obtain ⟨R, T, z1, z2, C, F⟩ := K
      obtain ⟨k49, n49⟩ := T.2.2.2.2.2.2.2
      rw [kif_f (by rw [show (4 : Int32) = nI 4 from rfl, ka_le (by omega) (by omega)]; exact hi), pAI_k k49 (by omega) (by omega), kb_shl i (by omega), nI_1]
      refine ih (i + 1) _ (by omega) (by omega) ⟨R.lI (Or.inl (by omega)), T, fun a k q1 q2 => ?_, fun k hk => ?_, C.to (F41.I g _ _ (by omega)), F⟩
      · rw [kI_sI, if_neg (by omega)]
        exact z1 a k q1 q2
      · rw [kI_sI]
        by_cases e : k = i
        · rw [if_pos ⟨rfl, e⟩, e]
        · rw [if_neg (fun z => e z.2)]
          exact z2 k (by omega)
theorem law_keeper (hL : L ≤ 260) {v : Nat} (hv : v ≤ 480) {h : KH} (C : C41 L xs h) (h0 : kd h 0 = 0) : QQ L xs (f_L_keeper 41 (nI v) h) := by
  obtain ⟨x0, m0, c0, -, -, c3, c4, -, R0, m0I, m01, m03, m0L, D0⟩ := start_p
  unfold f_L_keeper
  rw [c0]
  have hk41 : kd x0 41 = 0 := c3 41 (by omega)
  have eg : ∀ F : KH → KO Int32, kinitG h (some (.inr (), x0)) F = F (kglue h x0) := fun F => by
    show (if kd x0 41 = 0 ∧ kd h 0 = 0 then F (kglue h x0) else none) = _
    rw [if_pos ⟨hk41, h0⟩]
  rw [eg]
  obtain ⟨p1, p2, p3⟩ := C
  have gd : ∀ a, a ≠ 41 → kd (kglue h x0) a = kd x0 a ∧ kn (kglue h x0) a = kn x0 a := fun a q => ⟨if_neg q, if_neg q⟩
  have gag : kAg (fun a _ => a = 41 ∨ a = 1000041) x0 (kglue h x0) := by
    refine ⟨fun a k q => ?_, fun a q => ?_⟩
    · have hne : ¬ a = 41 := fun z => q (Or.inl z)
      exact ⟨if_neg hne, if_neg hne, if_neg hne⟩
    · have hne : a ≠ 41 := by
        rintro rfl
        rcases q with q | q
        · exact q hk41
        · exact q (Or.inr rfl)
      exact gd a hne
  have Rg : RR 0 (kglue h x0) m0 := R0.lw gag (fun a k q => by omega) (fun a q1 q2 => by
    by_cases e : a = 41
    · omega
    · rw [(gd a e).1] at q2
      exact absurd q1 q2)
  have N0 : NIx L xs m0 42 (sX (kglue h x0) 42) := ⟨Rg.X 42, rfl, fun a q => by
    show kd (kglue h x0) a = 0
    rw [(gd a (by omega)).1]
    exact c3 a (by omega), fun a q1 q2 => by omega, (rfl : kd (kglue h x0) 41 = kd h 41).trans p1, (rfl : kn (kglue h x0) 41 = kn h 41).trans p2, fun k => (rfl : kI (kglue h x0) 41 k = kI h 41 k).trans (p3 k)⟩
  obtain ⟨n1, N1⟩ := nix_nw N0 (by omega) (by omega) (len := 11) rfl
  obtain ⟨n2, N2⟩ := nix_nw N1 (by omega) (by omega) (len := 60) rfl
  obtain ⟨n3, N3⟩ := nix_nw N2 (by omega) (by omega) (len := 60) rfl
  obtain ⟨n4, N4⟩ := nix_nw N3 (by omega) (by omega) (len := 10) rfl
  obtain ⟨n5, N5⟩ := nix_nw N4 (by omega) (by omega) (len := 15) rfl
  obtain ⟨n6, N6⟩ := nix_nw N5 (by omega) (by omega) (len := 4) rfl
  obtain ⟨n7, N7⟩ := nix_nw N6 (by omega) (by omega) (len := 64) rfl
  obtain ⟨n8, N8⟩ := nix_nw N7 (by omega) (by omega) (len := 4) rfl
  rw [n1, n2, n3, n4, n5, n6, n7, n8]
  obtain ⟨H, eH⟩ : ∃ H, H = al (al (al (al (al (al (al (al (sX (kglue h x0) 42) 31 11) 31 60) 31 60) 31 10) 31 15) 31 4) 31 64) 31 4 := ⟨_, rfl⟩
  rw [← eH] at N8 ⊢
  obtain ⟨R, -, hf, ha, hc⟩ := N8
  have T : TTk H := ⟨⟨(ha 42 (by omega) (by omega)).1, (ha 42 (by omega) (by omega)).2.1⟩, ⟨(ha 43 (by omega) (by omega)).1, (ha 43 (by omega) (by omega)).2.1⟩, ⟨(ha 44 (by omega) (by omega)).1, (ha 44 (by omega) (by omega)).2.1⟩, ⟨(ha 45 (by omega) (by omega)).1, (ha 45 (by omega) (by omega)).2.1⟩, ⟨(ha 46 (by omega) (by omega)).1, (ha 46 (by omega) (by omega)).2.1⟩, ⟨(ha 47 (by omega) (by omega)).1, (ha 47 (by omega) (by omega)).2.1⟩, ⟨(ha 48 (by omega) (by omega)).1, (ha 48 (by omega) (by omega)).2.1⟩, (ha 49 (by omega) (by omega)).1, (ha 49 (by omega) (by omega)).2.1⟩
  have K0 : KIx L xs m0 0 (sI H 47 1 30) := ⟨R.lI (Or.inl (by omega)), T, fun a k q1 q2 => by
    rw [kI_sI]
    by_cases e : a = 47 ∧ k = 1
    · rw [if_pos e, if_pos e]
    · rw [if_neg e, if_neg e]
      exact (ha a q1 (by omega)).2.2 k, fun k hk => by omega, hc.to (F41.I H _ _ (by omega)), fun a q1 q2 => hf a (by omega)⟩
  rw [pAI_1 T.2.2.2.2.2.1.1 (by rw [T.2.2.2.2.2.1.2]; omega)]
  obtain ⟨g, e1, ⟨R1, T1, z1, z2, C1, F1⟩⟩ := law_62 (nI v) kF 0 (sI H 47 1 30) (by omega) (by unfold kF; omega) K0
  rw [show L_keeper_L62 kF 41 (nI v) 0 42 43 44 45 46 47 48 49 0 (sI H 47 1 30) = _ from e1]
  have mz : ∀ a k, a ≠ 2 → a ≠ 3 → ¬ (a = 0 ∧ k = 1) → mn m0 a k = 0 := fun a k q1 q2 q3 => by
    unfold mn
    rw [m0I a k q1 q2 q3]
    rfl
  have m8 := mz 0 8 (by omega) (by omega) (by omega)
  have m16 := mz 0 16 (by omega) (by omega) (by omega)
  have zz : ∀ a k, 42 ≤ a → a < 49 → ¬ (a = 47 ∧ k = 1) → kI g a k = 0 := fun a k q1 q2 q3 => by rw [z1 a k q1 q2, if_neg q3]
  have TT0 : TT g m0 := by
    refine ⟨T1, ⟨?_, fun p hp => ?_⟩, fun r hr => ?_, fun p hp => ?_, fun s hs => ⟨0, by omega, ?_, fun b hb => ?_⟩, ⟨?_, ?_, ?_, ?_⟩, fun q hq => ?_, fun k hk => ?_⟩
    · rw [zz _ _ (by omega) (by omega) (by omega), mz 0 5 (by omega) (by omega) (by omega)]
      show (0 : Int32) = nI (0 + 0 * 16777216)
      rw [Nat.zero_mul]
      rfl
    · rw [m8] at hp; omega
    · rw [m16] at hr; omega
    · rw [m8] at hp; omega
    · rw [zz _ _ (by omega) (by omega) (by omega)]; rfl
    · rw [Nat.zero_testBit, mz 5 _ (by omega) (by omega) (by omega)]
      simp
    · rw [zz _ _ (by omega) (by omega) (by omega), m0I _ _ (by omega) (by omega) (by omega)]
    · rw [z1 _ _ (by omega) (by omega), if_pos ⟨rfl, rfl⟩, m01]
    · rw [zz _ _ (by omega) (by omega) (by omega), m0I _ _ (by omega) (by omega) (by omega)]
    · rw [zz _ _ (by omega) (by omega) (by omega), m0I _ _ (by omega) (by omega) (by omega)]
    · rw [zz _ _ (by omega) (by omega) (by omega), m0I _ _ (by omega) (by omega) (by omega)]
    · rw [z2 k hk, m03 k hk]
  have G0 : GI m0 0 := ⟨D0, fun r hr => by rw [m16] at hr; omega, by rw [mz 0 27 (by omega) (by omega) (by omega)]; omega, fun _ => 0, fun _ => 0, fun d hd => ⟨m0L 20 d (by omega) (by omega), m0L 21 d (by omega) (by omega)⟩, fun d hd => ⟨Nat.le_refl _, Nat.zero_le _⟩, Nat.zero_le _⟩
  exact law_86 hL hv 79 0 g (by omega) (by omega) ⟨m0, R1, TT0, G0, C1, fun a q1 q2 => F1 a (by omega) q2⟩
theorem kbinI_ret {α β : Type} (v : α) (h : KH) (k : α → KH → KO β) : kbinI (kret v h) k = k v h := rfl
theorem C41.cut {g : KH} (C : C41 L xs g) : C41 L xs (kcut g) ∧ kd (kcut g) 0 = 0 := by
  obtain ⟨c1, c2, c3⟩ := C
  exact ⟨⟨(rfl : kd (kcut g) 41 = kd g 41).trans c1, c2, c3⟩, rfl⟩
theorem law_all (L : Nat) (xs : Nat → Int32) (hL : L ≤ 260) : ∃ h', f_L_law (hS L xs) = some (.inr 1, h') := by
  have C0 : C41 L xs (hS L xs) := ⟨rfl, rfl, fun _ => rfl⟩
  obtain ⟨g1, e1, C1⟩ := law_keeper hL (v := 0) (by omega) C0.cut.1 C0.cut.2
  obtain ⟨g2, e2, C2⟩ := law_keeper hL (v := 240) (by omega) C1.cut.1 C1.cut.2
  obtain ⟨g3, e3, C3⟩ := law_keeper hL (v := 480) (by omega) C2.cut.1 C2.cut.2
  unfold f_L_law
  rw [show f_L_keeper 41 0 (kcut (hS L xs)) = _ from e1, kbinI_ret, kif_f (by decide), show f_L_keeper 41 240 (kcut g1) = _ from e2, kbinI_ret, kif_f (by decide), show f_L_keeper 41 480 (kcut g2) = _ from e3, kbinI_ret, kif_f (by decide)]
  exact ⟨g3, rfl⟩
end LAW
