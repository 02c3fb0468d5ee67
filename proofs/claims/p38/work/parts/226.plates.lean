/-! the plates' steps -/
theorem sHold_lt {g g' : KH} {n : Nat} (p m : Nat) (e : ∀ k, k < n → kI g' 9 k = kI g 9 k ∧ kI g' 10 k = kI g 10 k ∧ kI g' 11 k = kI g 11 k) : sHold g' p m n = sHold g p m n := by
  induction n with
  | zero => rfl
  | succ n ih =>
    obtain ⟨e1, e2, e3⟩ := e n (by omega)
    unfold sHold
    rw [mn_at e1, mn_at e3, e2, ih (fun k hk => e k (by omega))]
theorem sHold_no {g : KH} {n : Nat} (p m : Nat) (e : ∀ k, k < n → mn g 9 k ≠ p) : sHold g p m n = -1 := by
  induction n with
  | zero => rfl
  | succ n ih =>
    unfold sHold
    rw [if_neg (fun z => e n (by omega) z.1), ih (fun k hk => e k (by omega))]
section PLATES
variable {j c : Nat} {h hm : KH}
theorem asks_1 {d its : Int32} {w : KO Int32} {h2 : KH} {P : Nat} (k : kd h2 0 = 10) (eP : kI h2 0 13 = nI P) (hP : P < 2147483648) (e : f_X9_register 0 d its (sX h2 (100 + 8 * P)) = w) : f_L_asks 0 1 d its h2 = kcatch w (fun e h1 => if e = 3 then kret (-107) h1 else if e = 2 then kret (-108) h1 else if e = 1 then kret (-109) h1 else none) (fun x6 h6 => L_asks_b73 x6 h6) := by
  unfold f_L_asks
  rw [kif_f (by decide), kif_t rfl, eP, nI_clamp hP]
  unfold kcatchV
  rw [if_pos (show kd (sX h2 (100 + 8 * P)) 0 = 10 from k), e]
theorem st_33 (R : RR j h hm) (T : TT h hm) (g : Nat) (v2 v3 : Int32) : ∀ (f i : Nat) (v : Int32), v = 0 ∨ v = 1 → i ≤ mn hm 0 5 → mn hm 0 5 < i + f → ∃ v', (v' = 1 ∧ v = 1 ∧ (∀ k, i ≤ k → k < mn hm 0 5 → mn hm 4 k ≠ 14) ∨ v' = 0 ∧ (v = 0 ∨ ∃ k, k < mn hm 0 5 ∧ mn hm 4 k = 14)) ∧ L_plates_L33 g f 0 v2 v3 42 45 47 v (nI i) h = L_plates_L80 g kF 0 v2 v3 42 45 47 v' 1 h := by
  obtain ⟨k42, n42⟩ := T.1.1
  obtain ⟨t1, t2, t3, t4⟩ := R.txt
  have h16 : ∀ k, k < mn hm 0 5 → mn hm 4 k < 16 := fun k hk => by have := (t4 k hk).1; omega
  have hT := pkT_lt t1 h16
  have hz := pkT_size t1 h16
  intro f
  induction f with
  | zero => intro i v hv h1 h2; omega
  | succ f ih =>
    intro i v hv h1 h2
    unfold L_plates_L33 L_plates_b33
    rw [gAI_0 k42 (by omega), T.2.1.1, fl_size (by omega), kb_ret, hz]
    by_cases hi : mn hm 0 5 ≤ i
    · rw [kif_t (by rw [ka_le (by omega) (by omega)]; exact hi)]
      refine ⟨v, ?_, rfl⟩
      rcases hv with q | q
      · exact Or.inr ⟨q, Or.inl q⟩
      · exact Or.inl ⟨q, q, fun k k1 k2 => by omega⟩
    · have hil : i < mn hm 0 5 := by omega
      rw [kif_f (by rw [ka_le (by omega) (by omega)]; exact hi)]
      have z0 : (v = 0 ∨ ∃ k, k < mn hm 0 5 ∧ mn hm 4 k = 14) → ∃ v', (v' = 1 ∧ v = 1 ∧ (∀ k, i ≤ k → k < mn hm 0 5 → mn hm 4 k ≠ 14) ∨ v' = 0 ∧ (v = 0 ∨ ∃ k, k < mn hm 0 5 ∧ mn hm 4 k = 14)) ∧ L_plates_b68 g (L_plates_L33 g f) 0 v2 v3 42 45 47 (nI i) h = L_plates_L80 g kF 0 v2 v3 42 45 47 v' 1 h := fun hq => by
        obtain ⟨v', w1, w2⟩ := ih (i + 1) 0 (Or.inl rfl) (by omega) (by omega)
        refine ⟨v', ?_, ?_⟩
        · rcases w1 with ⟨-, w, -⟩ | ⟨w, -⟩
          · exact absurd w (by decide)
          · exact Or.inr ⟨w, hq⟩
        · unfold L_plates_b68 L_plates_b69
          rw [nI_1]
          exact w2
      by_cases hv0 : v = 0
      · rw [kif_t hv0]
        exact z0 (Or.inl hv0)
      · have hv1 : v = 1 := hv.resolve_left hv0
        rw [kif_f hv0, gAI_0 k42 (by omega), T.2.1.1, fl_sign (by omega) (by omega), kb_ret, pkT_at t1 h16 hil]
        have hx := (t4 i hil).1
        by_cases e14 : mn hm 4 i = 14
        · rw [kif_t (by rw [e14]; rfl)]
          exact z0 (Or.inr ⟨i, hil, e14⟩)
        · rw [kif_f (by rw [show (14 : Int32) = nI 14 from rfl, ka_eq (by omega) (by omega)]; exact e14)]
          obtain ⟨v', w1, w2⟩ := ih (i + 1) 1 (Or.inr rfl) (by omega) (by omega)
          refine ⟨v', ?_, ?_⟩
          · rcases w1 with ⟨x1, -, x3⟩ | ⟨x1, x2⟩
            · refine Or.inl ⟨x1, hv1, fun k k1 k2 => ?_⟩
              by_cases q : k = i
              · rw [q]; exact e14
              · exact x3 k (by omega) k2
            · refine Or.inr ⟨x1, x2.elim (fun z => absurd z (by decide)) (fun z => Or.inr z)⟩
          · unfold L_plates_b69
            rw [nI_1]
            exact w2
theorem same_tx (R : RR j h hm) {q : Nat} (hq : q < mn hm 0 8) : (nI (ptx hm q) = nI (pkT (mn hm 4) (mn hm 0 5))) = eqT (mn hm) (mn hm 4) (mn hm 0 5) q := by
  have M := R.MX
  obtain ⟨t1, t2, t3, t4⟩ := R.txt
  have h16 : ∀ k, k < mn hm 0 5 → mn hm 4 k < 16 := fun k hk => by have := (t4 k hk).1; omega
  have h1 := M.ptx_lt hq
  have h2 := pkT_lt t1 h16
  rw [ka_eq (by omega) (by omega)]
  apply propext
  unfold eqT
  constructor
  · intro e
    obtain ⟨e1, e2⟩ := pkT_inj (M.2.2.2.1 q hq).1.2 t1 (M.ptx16 hq) h16 e
    exact ⟨e1, fun k hk => e2 k (by omega)⟩
  · rintro ⟨e1, e2⟩
    unfold ptx
    rw [e1]
    exact pkT_cg e2
theorem st_80 (R : RR j h hm) (T : TT h hm) (g : Nat) (v2 v3 : Int32) : ∀ (f q : Nat) (v : Int32), v = 0 ∨ v = 1 → q ≤ mn hm 0 8 → mn hm 0 8 < q + f → ∃ v' rc, (v' = 1 ∧ v = 1 ∧ (∀ k, q ≤ k → k < mn hm 0 8 → ¬ eqT (mn hm) (mn hm 4) (mn hm 0 5) k) ∨ v' = 0 ∧ (v = 0 ∨ ∃ k, k < mn hm 0 8 ∧ eqT (mn hm) (mn hm 4) (mn hm 0 5) k)) ∧ L_plates_L80 g f 0 v2 v3 42 45 47 v (nI (1 + q)) h = L_plates_b80 g rc 0 v2 v3 42 45 47 v' (nI (1 + mn hm 0 8)) h := by
  obtain ⟨k42, n42⟩ := T.1.1
  obtain ⟨k47, n47⟩ := T.1.2.2.2.2.2.1
  have hP := R.P
  have e2 : kI h 47 2 = nI (mn hm 0 8) := T.2.2.2.2.2.1.2.2.1.trans R.cnt.2.1
  intro f
  induction f with
  | zero => intro q v hv h1 h2; omega
  | succ f ih =>
    intro q v hv h1 h2
    by_cases hq : mn hm 0 8 ≤ q
    · obtain rfl : q = mn hm 0 8 := by omega
      refine ⟨v, L_plates_L80 g f, ?_, rfl⟩
      rcases hv with z | z
      · exact Or.inr ⟨z, Or.inl z⟩
      · exact Or.inl ⟨z, z, fun k k1 k2 => by omega⟩
    · have hql : q < mn hm 0 8 := by omega
      unfold L_plates_L80
      have e : L_plates_b80 g (L_plates_L80 g f) 0 v2 v3 42 45 47 v (nI (1 + q)) h = kif (v = 0) (L_plates_b110 g (L_plates_L80 g f) 0 v2 v3 42 45 47 (nI (1 + q)) h) (gAI h 42 31 (nI (1 + q)) (fun x6 => gAI h 42 31 0 (fun x7 => kif (x6 = x7) (L_plates_b110 g (L_plates_L80 g f) 0 v2 v3 42 45 47 (nI (1 + q)) h) (L_plates_b111 g (L_plates_L80 g f) 0 v2 v3 42 45 47 (nI (1 + q)) 1 h)))) := by
        unfold L_plates_b80
        rw [gAI_2 k47 (by omega), e2, kif_f (by rw [ka_lt (by omega) (by omega)]; omega)]
      rw [e]
      have z0 : (v = 0 ∨ ∃ k, k < mn hm 0 8 ∧ eqT (mn hm) (mn hm 4) (mn hm 0 5) k) → ∃ v' rc, (v' = 1 ∧ v = 1 ∧ (∀ k, q ≤ k → k < mn hm 0 8 → ¬ eqT (mn hm) (mn hm 4) (mn hm 0 5) k) ∨ v' = 0 ∧ (v = 0 ∨ ∃ k, k < mn hm 0 8 ∧ eqT (mn hm) (mn hm 4) (mn hm 0 5) k)) ∧ L_plates_b110 g (L_plates_L80 g f) 0 v2 v3 42 45 47 (nI (1 + q)) h = L_plates_b80 g rc 0 v2 v3 42 45 47 v' (nI (1 + mn hm 0 8)) h := fun hz => by
        obtain ⟨v', rc, w1, w2⟩ := ih (q + 1) 0 (Or.inl rfl) (by omega) (by omega)
        refine ⟨v', rc, ?_, ?_⟩
        · rcases w1 with ⟨-, w, -⟩ | ⟨w, -⟩
          · exact absurd w (by decide)
          · exact Or.inr ⟨w, hz⟩
        · unfold L_plates_b110 L_plates_b111
          rw [nI_1]
          exact w2
      by_cases hv0 : v = 0
      · rw [kif_t hv0]
        exact z0 (Or.inl hv0)
      · have hv1 : v = 1 := hv.resolve_left hv0
        rw [kif_f hv0, gAI_k k42 (by omega) (by omega), gAI_0 k42 (by omega), T.2.1.1, T.2.1.2 q hql]
        by_cases ee : eqT (mn hm) (mn hm 4) (mn hm 0 5) q
        · rw [kif_t (by rw [same_tx R hql]; exact ee)]
          exact z0 (Or.inr ⟨q, hql, ee⟩)
        · rw [kif_f (by rw [same_tx R hql]; exact ee)]
          obtain ⟨v', rc, w1, w2⟩ := ih (q + 1) 1 (Or.inr rfl) (by omega) (by omega)
          refine ⟨v', rc, ?_, ?_⟩
          · rcases w1 with ⟨x1, -, x3⟩ | ⟨x1, x2⟩
            · refine Or.inl ⟨x1, hv1, fun k k1 k2 => ?_⟩
              by_cases z : k = q
              · rw [z]; exact ee
              · exact x3 k (by omega) k2
            · exact Or.inr ⟨x1, x2.elim (fun z => absurd z (by decide)) (fun z => Or.inr z)⟩
          · unfold L_plates_b111
            rw [nI_1]
            exact w2
end PLATES
