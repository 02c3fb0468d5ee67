/-! the texts' steps -/
theorem or_add {a b k : Nat} (ha : a < 2 ^ k) : a ||| b * 2 ^ k = a + b * 2 ^ k := by
  rw [← Nat.shiftLeft_eq, Nat.or_comm, ← Nat.shiftLeft_add_eq_or_of_lt ha, Nat.add_comm]
theorem pk_split (g : Nat → Nat) (a : Nat) : ∀ m, pk g (a + m) = pk g a + pk (fun i => g (a + i)) m * 2 ^ (4 * a) := by
  intro m
  induction m with
  | zero =>
    show pk g a = pk g a + 0 * 2 ^ (4 * a)
    rw [Nat.zero_mul, Nat.add_zero]
  | succ m ih =>
    show pk g (a + m) + g (a + m) * 2 ^ (4 * (a + m)) = pk g a + (pk (fun i => g (a + i)) m + g (a + m) * 2 ^ (4 * m)) * 2 ^ (4 * a)
    rw [ih, Nat.add_mul, Nat.mul_assoc, ← Nat.pow_add, show 4 * m + 4 * a = 4 * (a + m) by omega, Nat.add_assoc]
theorem pk_up {g : Nat → Nat} {n : Nat} (hn : n ≤ 6) (h : ∀ k, k < n → g k < 16) (c : Nat) : pk g n ||| c * 16777216 = pk g n + c * 16777216 := by
  have := pk_lt24 hn h
  rw [← pow24] at this ⊢
  exact or_add this
theorem pw_le {a b : Nat} (h : a ≤ b) : (2 : Nat) ^ (4 * a) ≤ 2 ^ (4 * b) := Nat.pow_le_pow_right (by omega) (by omega)
theorem pw6 : (2 : Nat) ^ (4 * 6) = 16777216 := by decide
/-- a sign more, in the middle -/
def put (g : Nat → Nat) (s p : Nat) : Nat → Nat := fun k => if k < p then g k else if k = p then s else g (k - 1)
theorem pk_put (g : Nat → Nat) {s p n : Nat} (hp : p ≤ n) : pk (put g s p) (n + 1) = pk g p + s * 2 ^ (4 * p) + pk (fun i => g (p + i)) (n - p) * 2 ^ (4 * (p + 1)) := by
  have e := pk_split (put g s p) (p + 1) (n - p)
  rw [show p + 1 + (n - p) = n + 1 by omega] at e
  rw [e]
  have e1 : pk (put g s p) (p + 1) = pk g p + s * 2 ^ (4 * p) := by
    show pk (put g s p) p + put g s p p * 2 ^ (4 * p) = _
    rw [pk_cg (g := put g s p) (g' := g) (fun k hk => if_pos hk)]
    unfold put
    rw [if_neg (Nat.lt_irrefl p), if_pos rfl]
  have e2 : pk (fun i => put g s p (p + 1 + i)) (n - p) = pk (fun i => g (p + i)) (n - p) := pk_cg (fun k hk => by
    unfold put
    rw [if_neg (by omega), if_neg (by omega), show p + 1 + k - 1 = p + k by omega])
  rw [e1, e2]
theorem put_lt {g : Nat → Nat} {s p n : Nat} (hs : s < 16) (hg : ∀ k, k < n → g k < 16) (hp : p ≤ n) : ∀ k, k < n + 1 → put g s p k < 16 := fun k hk => by
  unfold put
  split
  · exact hg k (by omega)
  · split
    · exact hs
    · exact hg _ (by omega)
theorem tx_insert {g : Nat → Nat} {s p n : Nat} (hn : n < 6) (hp : p ≤ n) (hs : s < 16) (hg : ∀ k, k < n → g k < 16) : ((((nI (pkT g n) &&& (((1 : Int32) <<< (((4 : Int32) * nI p) &&& 31)) - (1 : Int32))) ||| (nI s <<< (((4 : Int32) * nI p) &&& 31))) ||| (((nI (pkT g n) &&& (16777215 : Int32)) >>> (((4 : Int32) * nI p) &&& 31)) <<< ((((4 : Int32) * nI p) + (4 : Int32)) &&& 31))) ||| ((nI n + (1 : Int32)) <<< ((24 : Int32) &&& 31))) = nI (pkT (put g s p) (n + 1)) := by
  have hT := pkT_lt (show n ≤ 6 by omega) hg
  have h24 := pk_lt24 (show n ≤ 6 by omega) hg
  have esp := pk_split g p (n - p)
  rw [show p + (n - p) = n by omega] at esp
  have hpl := pk_lt16 (g := g) (n := p) (fun k hk => hg k (by omega))
  have hH := pk_lt16 (g := fun i => g (p + i)) (n := n - p) (fun k hk => hg _ (by omega))
  have e4 : (4 : Int32) * nI p = nI (4 * p) := ka_mul 4 p
  have e44 : nI (4 * p) + (4 : Int32) = nI (4 * p + 4) := ka_add _ 4
  have ppos : 0 < 2 ^ (4 * p) := Nat.two_pow_pos _
  have m1 : nI (pkT g n) &&& (((1 : Int32) <<< (nI (4 * p) &&& 31)) - 1) = nI (pk g p) := by
    have := lb_part (n := pkT g n) (s := 0) (b := 4 * p) (by omega) (by omega) (by omega)
    rw [lb_shr (by omega) (by omega), Nat.pow_zero, Nat.div_one] at this
    rw [this]
    unfold pkT
    have d24 : 16777216 = 2 ^ (4 * (6 - p)) * 2 ^ (4 * p) := by rw [← Nat.pow_add, show 4 * (6 - p) + 4 * p = 24 by omega]
    rw [esp, d24, ← Nat.mul_assoc, Nat.add_assoc, ← Nat.add_mul, Nat.add_mul_mod_self_right, Nat.mod_eq_of_lt hpl]
  have m2 : (nI (pkT g n) &&& (16777215 : Int32)) = nI (pk g n) := by
    rw [show (16777215 : Int32) = nI (2 ^ 24 - 1) from by decide, nI_and, Nat.and_two_pow_sub_one_eq_mod]
    unfold pkT
    rw [pow24, Nat.add_mul_mod_self_right, Nat.mod_eq_of_lt h24]
  have m3 : pk g n / 2 ^ (4 * p) = pk (fun i => g (p + i)) (n - p) := by
    rw [esp, Nat.add_mul_div_right _ _ ppos, Nat.div_eq_of_lt hpl, Nat.zero_add]
  have hsz : s * 2 ^ (4 * p) + 2 ^ (4 * p) ≤ 2 ^ (4 * (p + 1)) := by
    rw [show 4 * (p + 1) = 4 * p + 4 by omega, Nat.pow_add, show (2 : Nat) ^ 4 = 16 from rfl]
    have : (s + 1) * 2 ^ (4 * p) ≤ 16 * 2 ^ (4 * p) := Nat.mul_le_mul_right _ (by omega)
    rw [Nat.add_mul, Nat.one_mul] at this
    omega
  have hp6 : (2 : Nat) ^ (4 * (p + 1)) ≤ 16777216 := by
    have := pw_le (show p + 1 ≤ 6 by omega)
    rw [pw6] at this
    exact this
  have hHH : pk (fun i => g (p + i)) (n - p) * 2 ^ (4 * (p + 1)) < 16777216 := by
    have h1 : pk (fun i => g (p + i)) (n - p) * 2 ^ (4 * (p + 1)) < 2 ^ (4 * (n - p)) * 2 ^ (4 * (p + 1)) := Nat.mul_lt_mul_of_pos_right hH (Nat.two_pow_pos _)
    rw [← Nat.pow_add, show 4 * (n - p) + 4 * (p + 1) = 4 * (n + 1) by omega] at h1
    have := pw_le (show n + 1 ≤ 6 by omega)
    rw [pw6] at this
    omega
  have o1 : pk g p + s * 2 ^ (4 * p) ||| pk (fun i => g (p + i)) (n - p) * 2 ^ (4 * (p + 1)) = pk g p + s * 2 ^ (4 * p) + pk (fun i => g (p + i)) (n - p) * 2 ^ (4 * (p + 1)) := or_add (by omega)
  rw [e4, e44, m1, m2, lb_shr (by omega) (by omega), m3, lb_shl (by omega) (by omega), show 4 * p + 4 = 4 * (p + 1) by omega, lb_shl (by omega) (by omega), show (24 : Int32) = nI 24 from rfl, nI_1, lb_shl (n := n + 1) (s := 24) (by omega) (by rw [pow24]; omega), nI_or, nI_or, nI_or, or_add hpl, o1, ← pk_put g (s := s) hp, pow24, pk_up (by omega) (put_lt hs hg hp)]
  rfl
theorem tx_append {g : Nat → Nat} {s n : Nat} (hn : n < 6) (hs : s < 16) (hg : ∀ k, k < n → g k < 16) : ((nI (pkT g n) + (16777216 : Int32)) ||| (nI s <<< (((4 : Int32) * nI n) &&& 31))) = nI (pkT (put g s n) (n + 1)) := by
  have hpl := pk_lt16 (g := g) (n := n) hg
  have hsz : s * 2 ^ (4 * n) + 2 ^ (4 * n) ≤ 2 ^ (4 * (n + 1)) := by
    rw [show 4 * (n + 1) = 4 * n + 4 by omega, Nat.pow_add, show (2 : Nat) ^ 4 = 16 from rfl]
    have : (s + 1) * 2 ^ (4 * n) ≤ 16 * 2 ^ (4 * n) := Nat.mul_le_mul_right _ (by omega)
    rw [Nat.add_mul, Nat.one_mul] at this
    omega
  have hp6 := pw_le (show n + 1 ≤ 6 by omega)
  rw [pw6] at hp6
  have e : pk (put g s n) (n + 1) = pk g n + s * 2 ^ (4 * n) := by
    rw [pk_put g (Nat.le_refl n), Nat.sub_self]
    show pk g n + s * 2 ^ (4 * n) + 0 * _ = _
    rw [Nat.zero_mul]
    rfl
  rw [show (4 : Int32) * nI n = nI (4 * n) from ka_mul 4 n, show (16777216 : Int32) = nI 16777216 from rfl, ka_add, lb_shl (by omega) (by omega), nI_or]
  unfold pkT
  rw [Nat.add_assoc, ← Nat.succ_mul, ← pk_up (show n ≤ 6 by omega) hg, Nat.or_assoc, Nat.or_comm ((n + 1) * 16777216), ← Nat.or_assoc, or_add hpl, ← e, pk_up (by omega) (put_lt hs hg (Nat.le_refl n))]
/-- the text read from its end, the last i of it -/
theorem tx_mirStep {g : Nat → Nat} {n i : Nat} (hi : i < n) (hg : ∀ k, k < n → g k < 16) : pk (fun k => g (n - 1 - (n - (i + 1) + k))) (i + 1) * 2 ^ (4 * (n - (i + 1))) = g i * 2 ^ (4 * (n - 1 - i)) + pk (fun k => g (n - 1 - (n - i + k))) i * 2 ^ (4 * (n - i)) := by
  have e := pk_split (fun k => g (n - 1 - (n - (i + 1) + k))) 1 i
  rw [show 1 + i = i + 1 by omega] at e
  have e1 : pk (fun k => g (n - 1 - (n - (i + 1) + k))) 1 = g i := by
    show 0 + g (n - 1 - (n - (i + 1) + 0)) * 2 ^ (4 * 0) = _
    rw [Nat.zero_add, Nat.mul_zero, Nat.pow_zero, Nat.mul_one, show n - 1 - (n - (i + 1) + 0) = i by omega]
  have e2 : pk (fun k => g (n - 1 - (n - (i + 1) + (1 + k)))) i = pk (fun k => g (n - 1 - (n - i + k))) i := pk_cg (fun k hk => by
    rw [show n - (i + 1) + (1 + k) = n - i + k by omega])
  rw [e, e1, e2, Nat.add_mul, Nat.mul_assoc, ← Nat.pow_add, show 4 * 1 + 4 * (n - (i + 1)) = 4 * (n - i) by omega, show n - (i + 1) = n - 1 - i by omega]
theorem tx_mirOr {g : Nat → Nat} {n i : Nat} (hi : i < n) (hn : n ≤ 6) (hg : ∀ k, k < n → g k < 16) : (nI (pk (fun k => g (n - 1 - (n - i + k))) i * 2 ^ (4 * (n - i))) ||| (nI (g i) <<< (((4 : Int32) * ((nI n - (1 : Int32)) - nI i)) &&& 31))) = nI (pk (fun k => g (n - 1 - (n - (i + 1) + k))) (i + 1) * 2 ^ (4 * (n - (i + 1)))) := by
  have hs := hg i hi
  have hsz : g i * 2 ^ (4 * (n - 1 - i)) < 2 ^ (4 * (n - i)) := by
    rw [show 4 * (n - i) = 4 * (n - 1 - i) + 4 by omega, Nat.pow_add, show (2 : Nat) ^ 4 = 16 from rfl, Nat.mul_comm _ 16]
    exact Nat.mul_lt_mul_of_pos_right hs (Nat.two_pow_pos _)
  have h6 := pw_le (show n - i ≤ 6 by omega)
  rw [pw6] at h6
  rw [ka_pred (by omega), ka_sub (by omega), show (4 : Int32) * nI (n - 1 - i) = nI (4 * (n - 1 - i)) from ka_mul 4 _, lb_shl (by omega) (by omega), nI_or, Nat.or_comm, or_add hsz, tx_mirStep hi hg]
