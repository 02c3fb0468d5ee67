/-! numbers of bits; texts as numbers -/
theorem s_l : ∀ n, n < 32 → ((nI n &&& 31).toBitVec.smod 32).toNat = n := by decide +kernel
theorem lb_shr {n s : Nat} (h : n < 2147483648) (hs : s < 32) : nI n >>> (nI s &&& 31) = nI (n / 2 ^ s) := pk_shrN (by omega) _ s (s_l s hs)
theorem lb_shl {n s : Nat} (hs : s < 32) (h : n * 2 ^ s < 4294967296) : nI n <<< (nI s &&& 31) = nI (n * 2 ^ s) := pk_shlN _ s (s_l s hs) (by omega)
theorem lb_mask : ∀ b, b < 31 → (((1 : Int32) <<< (nI b &&& 31)) - 1).toBitVec.toNat = 2 ^ b - 1 := by decide +kernel
theorem lb_part {n s b : Nat} (h : n < 2147483648) (hs : s < 32) (hb : b < 31) : (nI n >>> (nI s &&& 31)) &&& (((1 : Int32) <<< (nI b &&& 31)) - 1) = nI (n / 2 ^ s % 2 ^ b) := by
  rw [lb_shr h hs]
  exact pk_andN (by have := Nat.div_le_self n (2 ^ s); omega) b (lb_mask b hb)
theorem lb_or {a b k : Nat} (ha : a < 2 ^ k) : nI a ||| nI (b * 2 ^ k) = nI (a + b * 2 ^ k) := by
  have e : a ||| b * 2 ^ k = a + b * 2 ^ k := by
    rw [← Nat.shiftLeft_eq, Nat.or_comm, ← Nat.shiftLeft_add_eq_or_of_lt ha, Nat.add_comm]
  rw [← e]
  unfold nI
  rw [← Int32.toBitVec_inj, Int32.toBitVec_or, Int32.toBitVec_ofNat', Int32.toBitVec_ofNat', Int32.toBitVec_ofNat']
  apply BitVec.eq_of_toNat_eq
  simp [BitVec.toNat_or, BitVec.toNat_ofNat, Nat.or_mod_two_pow]
theorem fl_part {n s b : Nat} (h : n < 2147483648) (hs : s < 32) (hb : b < 31) (g : KH) : f_L_part (nI n) (nI s) (nI b) g = kret (nI (n / 2 ^ s % 2 ^ b)) g := by
  unfold f_L_part
  rw [lb_part h hs hb]
theorem fl_sign {T k : Nat} (h : T < 2147483648) (hk : k < 8) (g : KH) : f_L_sign (nI T) (nI k) g = kret (nI (T / 2 ^ (4 * k) % 16)) g := by
  unfold f_L_sign
  rw [show ((4 : Int32) * nI k) = nI (4 * k) from by rw [show (4 : Int32) = nI 4 from rfl, ka_mul], show (4 : Int32) = nI 4 from rfl, fl_part h (by omega) (by omega), kb_ret]
theorem fl_size {T : Nat} (h : T < 2147483648) (g : KH) : f_L_size (nI T) g = kret (nI (T / 16777216)) g := by
  unfold f_L_size
  rw [show (24 : Int32) = nI 24 from rfl, lb_shr h (by omega)]
/-- a text's signs, four bits each -/
def pk (g : Nat → Nat) : Nat → Nat
  | 0 => 0
  | k + 1 => pk g k + g k * 2 ^ (4 * k)
theorem pk_lt16 {g : Nat → Nat} : ∀ {n : Nat}, (∀ k, k < n → g k < 16) → pk g n < 2 ^ (4 * n) := by
  intro n
  induction n with
  | zero => intro _; show 0 < 1; omega
  | succ n ih =>
    intro h
    have h1 := ih (fun k hk => h k (by omega))
    have h2 := h n (by omega)
    show pk g n + g n * 2 ^ (4 * n) < 2 ^ (4 * (n + 1))
    rw [show 4 * (n + 1) = 4 * n + 4 by omega, Nat.pow_add]
    have h3 : (g n + 1) * 2 ^ (4 * n) ≤ 16 * 2 ^ (4 * n) := Nat.mul_le_mul_right _ (by omega)
    rw [Nat.add_mul] at h3
    omega
theorem pk_cg {g g' : Nat → Nat} : ∀ {n : Nat}, (∀ k, k < n → g k = g' k) → pk g n = pk g' n := by
  intro n
  induction n with
  | zero => intro _; rfl
  | succ n ih =>
    intro h
    show pk g n + g n * _ = pk g' n + g' n * _
    rw [ih (fun k hk => h k (by omega)), h n (by omega)]
theorem pk_at {g : Nat → Nat} : ∀ {n : Nat}, (∀ k, k < n → g k < 16) → ∀ i, i < n → pk g n / 2 ^ (4 * i) % 16 = g i := by
  intro n
  induction n with
  | zero => intro _ i hi; omega
  | succ n ih =>
    intro h i hi
    have h1 := pk_lt16 (n := n) (g := g) (fun k hk => h k (by omega))
    show (pk g n + g n * 2 ^ (4 * n)) / 2 ^ (4 * i) % 16 = g i
    by_cases e : i = n
    · subst e
      rw [Nat.add_mul_div_right _ _ (Nat.two_pow_pos _), Nat.div_eq_of_lt h1, Nat.zero_add]
      exact Nat.mod_eq_of_lt (h i hi)
    · have hlt : i < n := by omega
      rw [show 4 * n = 4 * i + 4 * (n - i) by omega, Nat.pow_add, ← Nat.mul_assoc, Nat.mul_comm (g n) (2 ^ (4 * i)), Nat.mul_assoc, Nat.add_mul_div_left _ _ (Nat.two_pow_pos _)]
      rw [show 4 * (n - i) = 4 + 4 * (n - i - 1) by omega, Nat.pow_add, ← Nat.mul_assoc, Nat.mul_comm (g n) (2 ^ 4), Nat.mul_assoc, show (2 : Nat) ^ 4 = 16 from rfl, Nat.add_mul_mod_self_left]
      exact ih (fun k hk => h k (by omega)) i hlt
def pkT (g : Nat → Nat) (n : Nat) : Nat := pk g n + n * 16777216
theorem pow24 : (2 : Nat) ^ 24 = 16777216 := by decide
theorem pk_lt24 {g : Nat → Nat} {n : Nat} (hn : n ≤ 6) (h : ∀ k, k < n → g k < 16) : pk g n < 16777216 := by
  have h1 := pk_lt16 h
  have h2 : (2 : Nat) ^ (4 * n) ≤ 2 ^ 24 := Nat.pow_le_pow_right (by omega) (by omega)
  rw [pow24] at h2
  omega
theorem pkT_lt {g : Nat → Nat} {n : Nat} (hn : n ≤ 6) (h : ∀ k, k < n → g k < 16) : pkT g n < 117440512 := by
  have := pk_lt24 hn h
  unfold pkT
  omega
theorem pkT_size {g : Nat → Nat} {n : Nat} (hn : n ≤ 6) (h : ∀ k, k < n → g k < 16) : pkT g n / 16777216 = n := by
  have := pk_lt24 hn h
  unfold pkT
  omega
theorem pkT_at {g : Nat → Nat} {n : Nat} (hn : n ≤ 6) (h : ∀ k, k < n → g k < 16) {i : Nat} (hi : i < n) : pkT g n / 2 ^ (4 * i) % 16 = g i := by
  unfold pkT
  have e : n * 16777216 = 2 ^ (4 * i) * (16 * (n * 2 ^ (4 * (5 - i)))) := by
    have : (2 : Nat) ^ (4 * i) * (16 * 2 ^ (4 * (5 - i))) = 16777216 := by
      rw [show (16 : Nat) = 2 ^ 4 from rfl, ← Nat.pow_add, ← Nat.pow_add, ← pow24]
      congr 1
      omega
    rw [← this]
    ac_rfl
  rw [e, Nat.add_mul_div_left _ _ (Nat.two_pow_pos _), Nat.add_mul_mod_self_left]
  exact pk_at h i hi
theorem pkT_cg {g g' : Nat → Nat} {n : Nat} (h : ∀ k, k < n → g k = g' k) : pkT g n = pkT g' n := by
  unfold pkT
  rw [pk_cg h]
/-- two texts are the same if their numbers are -/
theorem pkT_inj {g g' : Nat → Nat} {n n' : Nat} (hn : n ≤ 6) (hn' : n' ≤ 6) (h : ∀ k, k < n → g k < 16) (h' : ∀ k, k < n' → g' k < 16) (e : pkT g n = pkT g' n') : n = n' ∧ ∀ k, k < n → g k = g' k := by
  have e1 : n = n' := by rw [← pkT_size hn h, e, pkT_size hn' h']
  subst e1
  exact ⟨rfl, fun k hk => by rw [← pkT_at hn h hk, e, pkT_at hn h' hk]⟩
