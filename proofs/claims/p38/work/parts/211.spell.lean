/-! the chars of the spelled text -/
def ln (s : Nat) : Nat := if s < 10 then 1 else if 14 ≤ s then 1 else 2
theorem ln_k : ∀ s, s < 15 → kLen (nI s) = nI (ln s) := kLen_v
theorem ln_2 (s : Nat) : ln s = 1 ∨ ln s = 2 := by
  unfold ln
  split
  · exact Or.inl rfl
  · split
    · exact Or.inl rfl
    · exact Or.inr rfl
def cs (g : Nat → Nat) : Nat → Nat
  | 0 => 0
  | k + 1 => cs g k + ln (g k)
theorem cs_le (g : Nat → Nat) (k : Nat) : k ≤ cs g k ∧ cs g k ≤ 2 * k := by
  induction k with
  | zero => exact ⟨Nat.le_refl _, Nat.le_refl _⟩
  | succ k ih =>
    show _ ≤ cs g k + ln (g k) ∧ cs g k + ln (g k) ≤ _
    rcases ln_2 (g k) with h | h <;> omega
theorem cs_mono (g : Nat → Nat) {i k : Nat} (h : i ≤ k) : cs g i ≤ cs g k := by
  induction h with
  | refl => exact Nat.le_refl _
  | step _ ih => exact Nat.le_trans ih (Nat.le_add_right _ _)
theorem kAtc_at {x : Nat → Int32} {g : Nat → Nat} {n k l : Nat} (hx : ∀ i, i < n → g i < 15 ∧ x i = nI (g i)) (hk : k < n) (hl : l < ln (g k)) : ∀ (m i f : Nat), i + m = k → m < f → kAtc x n (cs g k + l) f i (cs g i) = some (kChr (x k) (nI l)) := by
  intro m
  induction m with
  | zero =>
    intro i f h1 h2
    obtain rfl : i = k := by omega
    cases f with
    | zero => omega
    | succ f =>
      unfold kAtc
      rw [if_neg (by omega), if_neg (by omega), (hx i hk).2, ln_k _ (hx i hk).1, nI_clamp (by rcases ln_2 (g i) with q | q <;> omega), if_neg (by omega)]
      rw [show cs g i + l - cs g i = l by omega]
  | succ m ih =>
    intro i f h1 h2
    cases f with
    | zero => omega
    | succ f =>
      have h3 := cs_mono g (show i + 1 ≤ k by omega)
      have h4 : cs g (i + 1) = cs g i + ln (g i) := rfl
      unfold kAtc
      rw [if_neg (by omega), if_neg (by omega), (hx i (by omega)).2, ln_k _ (hx i (by omega)).1, nI_clamp (by rcases ln_2 (g i) with q | q <;> omega), if_pos (by omega)]
      exact ih (i + 1) f (by omega) (by omega)
def chr (s l : Nat) : Nat := if s = 14 then 63 else if s < 10 then 65 + s else if l = 0 then 55357 else 56966 + s
theorem chr_k : ∀ s, s < 15 → ∀ l, l < ln s → kC16 (kChr (nI s) (nI l)) = nI (chr s l) := by decide +kernel
section SPELLED
variable {j : Nat} {h hm : KH}
theorem rd_charAt {hx : KH} (R : RR j hx hm) {k l : Nat} (hk : k < mn hm 0 5) (hl : l < ln (mn hm 4 k)) : f_zX9_charAt 0 (nI (cs (mn hm 4) k + l)) hx = kret (nI (chr (mn hm 4 k) l)) hx :=
  zr_f_zX9_charAt 0 _ hx _ _ (show f_X9_charAt 0 (nI (cs (mn hm 4) k + l)) hx = kret _ hx by
    have S := R.1.1
    obtain ⟨t1, t2, t3, t4⟩ := R.txt
    have hle := (cs_le (mn hm 4) k).2
    have hl2 : l < 2 := by rcases ln_2 (mn hm 4 k) with q | q <;> omega
    have x1 := t0_atL S.d22 S.r22_0 S.d23 S.n23 t3 t1 (A := cs (mn hm 4) k + l) (by omega) kF 0 0 (by omega) (by unfold kF; omega) (by omega)
    have e := kAtc_at (x := kI hx 23) (g := mn hm 4) (n := mn hm 0 5) (k := k) (l := l) (fun i hi => ⟨(t4 i hi).1, (t4 i hi).2.2⟩) hk hl k 0 kF (by omega) (by unfold kF; omega)
    rw [show kAtc (kI hx 23) (mn hm 0 5) (cs (mn hm 4) k + l) kF 0 0 = _ from e, (t4 k hk).2.2] at x1
    obtain ⟨k1, k2⟩ := kChr_ok _ (t4 k hk).1 l hl2
    unfold f_X9_charAt
    rw [gN_k S.d0 S.r0_2, kV_k S.d22, show f_X7_charNumberAt 22 (nI (cs (mn hm 4) k + l)) hx = _ from x1, kb_ret, Option.getD_some, kif_f k2, kretC_k _ _ k1]
    exact congrArg (fun v => kret v hx) (chr_k _ (t4 k hk).1 l hl))
theorem law_spellL (R : RR j h hm) : ∀ (f k m : Nat), k ≤ mn hm 0 5 → mn hm 0 5 < k + f → ∃ m', L_isSpelled_L7 f 0 (nI (pkT (mn hm 4) (mn hm 0 5))) (nI (cs (mn hm 4) k)) 1 (nI k) (sX h m) = kret 1 (sX h m') := by
  obtain ⟨t1, t2, t3, t4⟩ := R.txt
  have h16 : ∀ k, k < mn hm 0 5 → mn hm 4 k < 16 := fun k hk => by have := (t4 k hk).1; omega
  have hT := pkT_lt t1 h16
  have hz := pkT_size t1 h16
  intro f
  induction f with
  | zero => intro k m h1 h2; omega
  | succ f ih =>
    intro k m h1 h2
    have RX := R.X 0
    have S := RX.1.1
    unfold L_isSpelled_L7 L_isSpelled_b7
    rw [fl_size (by omega), kb_ret, hz]
    by_cases hk : mn hm 0 5 ≤ k
    · have hle := (cs_le (mn hm 4) k).1
      rw [kif_t (by rw [ka_le (by omega) (by omega)]; exact hk)]
      unfold L_isSpelled_b132
      have hle2 := (cs_le (mn hm 4) k).2
      rw [kif_f (by decide), fl_size (by omega), kb_ret, hz, kif_f (by rw [ka_lt (by omega) (by omega)]; omega)]
      exact ⟨m, rfl⟩
    · have hkl : k < mn hm 0 5 := by omega
      obtain ⟨hs, -, -⟩ := t4 k hkl
      have hle := (cs_le (mn hm 4) k).2
      rw [kif_f (by rw [ka_le (by omega) (by omega)]; exact hk), kif_f (by decide), fl_sign (by omega) (by omega), kb_ret, pkT_at t1 h16 hkl]
      have go : ∀ l, l = ln (mn hm 4 k) → ∃ m', L_isSpelled_L7 f 0 (nI (pkT (mn hm 4) (mn hm 0 5))) (nI (cs (mn hm 4) k) + nI l) 1 (nI k + 1) (sX h 0) = kret 1 (sX h m') := fun l e => by
        rw [ka_add, nI_1, e]
        exact ih (k + 1) 0 (by omega) (by omega)
      have e14 : (nI (mn hm 4 k) = 14) = (mn hm 4 k = 14) := by rw [show (14 : Int32) = nI 14 from rfl, ka_eq (by omega) (by omega)]
      have e10 : ((10 : Int32) ≤ nI (mn hm 4 k)) = (10 ≤ mn hm 4 k) := by rw [show (10 : Int32) = nI 10 from rfl, ka_le (by omega) (by omega)]
      have l10 : (nI (mn hm 4 k) < (10 : Int32)) = (mn hm 4 k < 10) := by rw [show (10 : Int32) = nI 10 from rfl, ka_lt (by omega) (by omega)]
      have l9 : (nI (mn hm 4 k) ≤ (9 : Int32)) = (mn hm 4 k ≤ 9) := by rw [show (9 : Int32) = nI 9 from rfl, ka_le (by omega) (by omega)]
      have g14 : ((14 : Int32) ≤ nI (mn hm 4 k)) = (14 ≤ mn hm 4 k) := by rw [show (14 : Int32) = nI 14 from rfl, ka_le (by omega) (by omega)]
      have hc0 : f_zX9_charAt 0 (nI (cs (mn hm 4) k)) (sX h 0) = kret (nI (chr (mn hm 4 k) 0)) (sX h 0) := rd_charAt RX (l := 0) hkl (by rcases ln_2 (mn hm 4 k) with q | q <;> omega)
      -- behind the chars
      have out : ∀ s0 : Int32, s0 = nI (chr (mn hm 4 k) 0) → ∃ m', L_isSpelled_b57 (L_isSpelled_L7 f) 0 (nI (pkT (mn hm 4) (mn hm 0 5))) (nI (cs (mn hm 4) k)) (nI k) (nI (mn hm 4 k)) s0 (sX h m) = kret 1 (sX h m') := fun s0 es => by
        unfold L_isSpelled_b57
        rw [sX_X, kV_k S.d0, hc0, kb_ret, kif_t es.symm]
        by_cases h10 : mn hm 4 k < 10
        · rw [kif_t (by rw [l10]; exact h10)]
          unfold L_isSpelled_b98 L_isSpelled_b103
          rw [kif_t (by rw [l9]; omega)]
          unfold L_isSpelled_b123 L_isSpelled_b124
          exact go 1 (by unfold ln; rw [if_pos h10])
        · rw [kif_f (by rw [l10]; exact h10)]
          by_cases h14 : mn hm 4 k = 14
          · rw [kif_t (by rw [e14]; exact h14)]
            unfold L_isSpelled_b98 L_isSpelled_b103
            rw [kif_f (by rw [l9]; omega), kif_t (by rw [g14]; omega)]
            unfold L_isSpelled_b123 L_isSpelled_b124
            exact go 1 (by rw [h14]; rfl)
          · have hl2 : ln (mn hm 4 k) = 2 := by unfold ln; rw [if_neg h10, if_neg (by omega)]
            have hc1 : f_zX9_charAt 0 (nI (cs (mn hm 4) k + 1)) (sX h 0) = kret (nI (chr (mn hm 4 k) 1)) (sX h 0) := rd_charAt RX (l := 1) hkl (by omega)
            have ec : chr (mn hm 4 k) 1 = 56966 + mn hm 4 k := by unfold chr; rw [if_neg h14, if_neg h10, if_neg (by decide)]
            rw [kif_f (by rw [e14]; exact h14), sX_X, kV_k S.d0, nI_1, hc1, kb_ret, ec, kif_t (by rw [show (56966 : Int32) = nI 56966 from rfl, ka_add])]
            unfold L_isSpelled_b98 L_isSpelled_b103
            rw [kif_f (by rw [l9]; omega), kif_f (by rw [g14]; omega)]
            unfold L_isSpelled_b124
            exact go 2 hl2.symm
      by_cases h14 : mn hm 4 k = 14
      · rw [kif_t (by rw [e14]; exact h14)]
        exact out 63 (by rw [h14]; rfl)
      · rw [kif_f (by rw [e14]; exact h14)]
        by_cases h10 : 10 ≤ mn hm 4 k
        · rw [kif_t (by rw [e10]; exact h10)]
          exact out 55357 (by unfold chr; rw [if_neg h14, if_neg (by omega), if_pos rfl]; rfl)
        · rw [kif_f (by rw [e10]; exact h10)]
          exact out _ (by unfold chr; rw [if_neg h14, if_pos (by omega), show (65 : Int32) = nI 65 from rfl, ka_add])
theorem law_isSpelled (R : RR j h hm) (T : TT h hm) : ∃ m, f_L_isSpelled 0 (kI h 42 0) h = kret 1 (sX h m) := by
  rw [T.2.1.1]
  exact law_spellL R kF 0 (kx h) (by omega) (by have := R.txt.1; unfold kF; omega)
end SPELLED
