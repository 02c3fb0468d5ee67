/-! plateAt: the model counts who comes ahead, the class looks -/
def cA (m : Nat → Nat → Nat) (k : Nat) : Nat → Nat
  | 0 => 0
  | n + 1 => cA m k n + if sTl m n < sTl m k then 1 else 0
theorem cA_cnt (m : Nat → Nat → Nat) (k n : Nat) : cA m k n = (List.range n).countP (fun j => decide (sTl m j < sTl m k)) := by
  induction n with
  | zero => rfl
  | succ n ih =>
    unfold cA
    rw [List.range_succ, List.countP_append, List.countP_singleton, ih]
    by_cases g : sTl m n < sTl m k
    · rw [if_pos g, if_pos (by simpa using g)]
    · rw [if_neg g, if_neg (by simpa using g)]
theorem cA_le (m : Nat → Nat → Nat) (k n : Nat) : cA m k n ≤ n := by
  induction n with
  | zero => exact Nat.le_refl _
  | succ n ih =>
    unfold cA
    split <;> omega
theorem cA_rank {m : Nat → Nat → Nat} {o : List Nat} {P i : Nat} (om : ∀ p, p ∈ o ↔ p < P) (op : o.Pairwise (fun p q => sTl m p < sTl m q)) (hi : i < o.length) : cA m (o.getD i 0) P = i := by
  have hnd : o.Nodup := op.imp (fun {a b} h e => by rw [e] at h; exact List.lt_irrefl _ h)
  have hper : o.Perm (List.range P) := (List.perm_ext_iff_of_nodup hnd List.nodup_range).2 (fun a => by rw [om, List.mem_range])
  have hlt : ∀ a b, (ha : a < o.length) → (hb : b < o.length) → a < b → sTl m o[a] < sTl m o[b] := fun a b ha hb hab => List.pairwise_iff_getElem.1 op a b ha hb hab
  rw [cA_cnt, ← hper.countP_eq, gD_get hi]
  have h1 : List.countP (fun j => decide (sTl m j < sTl m o[i])) (o.take i) = i := by
    rw [List.countP_eq_length.2, List.length_take_of_le (by omega)]
    intro a ha
    obtain ⟨j, hj, rfl⟩ := List.mem_take_iff_getElem.1 ha
    exact decide_eq_true (hlt j i (by omega) hi (by omega))
  have h2 : List.countP (fun j => decide (sTl m j < sTl m o[i])) (o.drop i) = 0 := by
    rw [List.countP_eq_zero]
    intro a ha
    obtain ⟨j, hj, rfl⟩ := List.mem_drop_iff_getElem.1 ha
    intro z
    have z' := of_decide_eq_true z
    by_cases hj0 : j = 0
    · subst hj0
      exact List.lt_irrefl _ z'
    · exact List.lt_asymm (hlt i (i + j) hi (by omega) (by omega)) z'
  have h3 : List.countP (fun j => decide (sTl m j < sTl m o[i])) o = List.countP (fun j => decide (sTl m j < sTl m o[i])) (o.take i ++ o.drop i) := by rw [List.take_append_drop]
  rw [h3, List.countP_append, h1, h2, Nat.add_zero]
def kFl (t : Option Nat) (n : Nat) : Option Nat := match t with
  | some q => if q < n then some q else none
  | none => none
section KPLAT
variable {h : KH}
theorem MX.cntL (M : MX h) {b v2 : Int32} {k : Nat} (hk : k < mn h 0 8) (rc : Nat → Int32 → Int32 → Int32 → KH → KO Int32) : ∀ (f n : Nat), n ≤ mn h 0 8 → mn h 0 8 < n + f → X10_plateAt_L18 rc f 0 b v2 (nI k) (nI (cA (mn h) k n)) (nI n) h = if nI (cA (mn h) k (mn h 0 8)) = b then rc 0 b (nI k) (nI (k + 1)) h else rc 0 b v2 (nI (k + 1)) h := by
  have T := M.1
  have hP := M.2.1
  intro f
  induction f with
  | zero => intro n h1 h2; omega
  | succ f ih =>
    intro n h1 h2
    unfold X10_plateAt_L18 X10_plateAt_b18
    rw [gI_k T.d0, hP.2]
    by_cases hn : mn h 0 8 ≤ n
    · obtain rfl : n = mn h 0 8 := by omega
      rw [kif_t (by rw [ka_le (by omega) (by omega)]; exact hn)]
      unfold X10_plateAt_b64
      rw [nI_1]
      rfl
    · have e := ih (n + 1) (by omega) (by omega)
      rw [kif_f (by rw [ka_le (by omega) (by omega)]; exact hn), kV_k T.d0, M.ahead (by omega) hk, kb_ret]
      unfold X10_plateAt_b44
      have hs : cA (mn h) k (n + 1) = cA (mn h) k n + if sTl (mn h) n < sTl (mn h) k then 1 else 0 := rfl
      by_cases g : sTl (mn h) n < sTl (mn h) k
      · rw [if_pos g] at hs ⊢
        rw [hs, ← nI_1, ← nI_1] at e
        rw [kif_f (by decide)]
        exact e
      · rw [if_neg g] at hs ⊢
        rw [hs, ← nI_1] at e
        rw [kif_t rfl]
        show X10_plateAt_L18 rc f 0 b v2 (nI k) (nI (cA (mn h) k n) + nI 0) (nI n + 1) h = _
        rw [ka_add]
        exact e
theorem MX.plAtL (M : MX h) {b : Int32} {t : Option Nat} (ht : ∀ k, k < mn h 0 8 → (nI (cA (mn h) k (mn h 0 8)) = b ↔ t = some k)) : ∀ (f k : Nat), k ≤ mn h 0 8 → mn h 0 8 < k + f → X10_plateAt_L4 f 0 b (cOf (kFl t (k))) (nI k) h = kif (cOf (kFl t (mn h 0 8)) = -1) (X10_plateAt_b82 (cOf (kFl t (mn h 0 8))) 1 0 h) (X10_plateAt_b82 (cOf (kFl t (mn h 0 8))) 0 0 h) := by
  have T := M.1
  have hP := M.2.1
  intro f
  induction f with
  | zero => intro n h1 h2; omega
  | succ f ih =>
    intro k h1 h2
    unfold X10_plateAt_L4 X10_plateAt_b4
    rw [gI_k T.d0, hP.2]
    by_cases hk : mn h 0 8 ≤ k
    · obtain rfl : k = mn h 0 8 := by omega
      rw [kif_t (by rw [ka_le (by omega) (by omega)]; exact hk)]
    · have e := ih (k + 1) (by omega) (by omega)
      have hc := M.cntL (b := b) (v2 := cOf (kFl t (k))) (show k < mn h 0 8 by omega) (X10_plateAt_L4 f) kF 0 (by omega) (by unfold kF; omega)
      rw [kif_f (by rw [ka_le (by omega) (by omega)]; exact hk)]
      refine Eq.trans hc ?_
      by_cases g : t = some k
      · rw [if_pos ((ht k (by omega)).2 g)]
        rw [g] at e ⊢
        have e1 : kFl (some k) (k + 1) = some k := if_pos (by omega)
        rw [e1] at e
        exact e
      · rw [if_neg (fun z => g ((ht k (by omega)).1 z))]
        have e1 : kFl t (k + 1) = kFl t (k) := by
          cases t with
          | none => rfl
          | some q =>
            have hqk : q ≠ k := fun z => g (by rw [z])
            show (if q < k + 1 then some q else none) = if q < k then some q else none
            by_cases g1 : q < k
            · rw [if_pos g1, if_pos (by omega)]
            · rw [if_neg g1, if_neg (by omega)]
        rw [e1] at e
        exact e
end KPLAT
theorem o_plateAt : OPI (fun a b c h => f_X9_plateAt 0 a h) (fun a b c h => f_X10_plateAt 0 a h) (mp1 4) := by
  intro j hx hm a b c hj R
  have S := R.1.1.X 0
  have T := R.1.2
  have RX := R.X 0
  have M := R.MX
  have hPc := R.cnt
  obtain ⟨o, ol, om, op, oe⟩ := RX.2.2.2.2.2.2.2.2.2.1
  have hf0 : ∀ t : Option Nat, kFl t 0 = none := fun t => by
    cases t with
    | none => rfl
    | some q =>
      show (if q < 0 then some q else none) = none
      rw [if_neg (Nat.not_lt_zero q)]
  have hstart : ∀ t : Option Nat, (∀ k, k < mn hm 0 8 → (nI (cA (mn hm) k (mn hm 0 8)) = a ↔ t = some k)) → f_X10_plateAt 0 a hm = kif (cOf (kFl t (mn hm 0 8)) = -1) (X10_plateAt_b82 (cOf (kFl t (mn hm 0 8))) 1 0 hm) (X10_plateAt_b82 (cOf (kFl t (mn hm 0 8))) 0 0 hm) := fun t ht => by
    have e := M.plAtL ht kF 0 (by omega) (by unfold kF; omega)
    rw [hf0] at e
    exact e
  have hrk : ∀ k, k < mn hm 0 8 → ∃ i, i < o.length ∧ o.getD i 0 = k ∧ cA (mn hm) k (mn hm 0 8) = i := fun k hk => by
    obtain ⟨i, hi, e⟩ := gD_mem.1 ((om k).2 hk)
    exact ⟨i, hi, e, by rw [← e]; exact cA_rank om op hi⟩
  rcases ka_below a (mn hm 0 8) (by omega) with ⟨i, hi, rfl, q1, q2⟩ | hq
  · have hp : o.getD i 0 < mn hm 0 8 := (om _).1 (gD_mem.2 ⟨i, by omega, rfl⟩)
    have e := hstart (some (o.getD i 0)) (fun k hk => by
      obtain ⟨i', hi', ek, er⟩ := hrk k hk
      rw [er, ka_eq (by omega) (by omega)]
      constructor
      · intro z
        rw [← ek, z]
      · intro z
        have z' : o.getD i 0 = k := by injection z
        have h1 := cA_rank om op (show i < o.length by omega)
        rw [z', er] at h1
        exact h1)
    have e1 : kFl (some (o.getD i 0)) (mn hm 0 8) = some (o.getD i 0) := if_pos hp
    rw [e1] at e
    refine op_rd R (nI (o.getD i 0)) ?_ ?_
    · show f_X9_plateAt 0 (nI i) (sX hx 0) = _
      unfold f_X9_plateAt
      rw [gI_k S.d0, RX.cnt.1, wi_t q1 q2, kb_ret, kif_f (by decide), gN_k S.d0 S.r0_5, gAN_k S.d27 (by rw [S.n27]; omega) (by omega) (oe i (by omega)), gI_k (RX.pl hp).1.1, (RX.pl hp).2.2.1]
    · show f_X10_plateAt 0 (nI i) hm = _
      rw [e, kif_f (by show ¬ nI (o.getD i 0) = -1; rw [ka_n1 (by omega)]; exact fun z => z)]
      unfold X10_plateAt_b82
      rw [kV_k T.d0, can_0 T, kb_ret, kif_f (by decide)]
      rfl
  · have e := hstart none (fun k hk => by
      obtain ⟨i', hi', ek, er⟩ := hrk k hk
      rw [er]
      constructor
      · intro z
        rw [← z] at hq
        exfalso
        rcases hq with hq | hq
        · rw [ka_neg (by omega)] at hq
          exact hq
        · rw [ka_pred (by omega), ka_lt (by omega) (by omega)] at hq
          omega
      · intro z
        cases z)
    refine op_no R 4 1 0 rfl (by decide) ?_ ?_
    · show f_X9_plateAt 0 a (sX hx 0) = _
      unfold f_X9_plateAt
      rw [gI_k S.d0, RX.cnt.1, wi_f hq, kb_ret, kif_t rfl]
    · show f_X10_plateAt 0 a hm = _
      rw [e, kif_t (show cOf (kFl none (mn hm 0 8)) = -1 from rfl)]
      unfold X10_plateAt_b82
      rw [kV_k T.d0, can_n T (show (1 : Int32) ≠ 0 by decide), kb_ret, kif_t rfl]
      rfl
