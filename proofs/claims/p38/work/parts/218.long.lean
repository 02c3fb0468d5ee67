/-! long numbers -/
def nL (n : Nat) : Int64 := Int64.ofNat n
theorem nL_add (a b : Nat) : nL a + nL b = nL (a + b) := (Int64.ofNat_add a b).symm
theorem nL_sub {a b : Nat} (h : b ≤ a) : nL a - nL b = nL (a - b) := by
  have e : nL a = nL (a - b) + nL b := by rw [nL_add, Nat.sub_add_cancel h]
  rw [e, Int64.add_sub_cancel]
theorem nL_neg {a b : Nat} (h : a ≤ b) : nL a - nL b = -nL (b - a) := by
  rw [← Int64.neg_sub, nL_sub h]
theorem nL_int {n : Nat} (h : n < 9223372036854775808) : (nL n).toInt = (n : Int) := by
  unfold nL
  have hz : Int64.size = 18446744073709551616 := rfl
  rw [Int64.toInt_ofNat', hz]
  rw [Int.bmod_eq_of_le (by omega) (by omega)]
theorem nI_int {n : Nat} (h : n < 2147483648) : (nI n).toInt = (n : Int) := by
  unfold nI
  have hz : Int32.size = 4294967296 := rfl
  rw [Int32.toInt_ofNat', hz]
  rw [Int.bmod_eq_of_le (by omega) (by omega)]
theorem nI_long {n : Nat} (h : n < 2147483648) : (nI n).toInt64 = nL n := by
  apply Int64.toInt_inj.1
  rw [Int32.toInt_toInt64, nI_int h, nL_int (by omega)]
theorem nL_back (n : Nat) : (nL n).toInt32 = nI n := by
  unfold nL nI
  exact Int64.toInt32_ofNat
theorem lc_rf (x : Int64) : lg_cmp x x = 0 := by
  unfold lg_cmp
  split
  · rename_i h
    exact absurd h (Int64.lt_irrefl)
  · rw [if_pos rfl]
theorem lc_ge {a b : Nat} (ha : a < 9223372036854775808) (h : b ≤ a) : ¬ lg_cmp (nL a) (nL b) < 0 := by
  unfold lg_cmp
  split
  · decide
  · split
    · decide
    · rename_i h1 h2
      exfalso
      rw [gt_iff_lt, Int64.lt_iff_toInt_lt, nL_int ha, nL_int (by omega)] at h1
      apply h2
      rw [show a = b by omega]
theorem lc_nn {a : Nat} (ha : a < 9223372036854775808) : 0 ≤ lg_cmp (nL a) 0 ∧ ¬ lg_cmp (nL a) 0 < 0 := by
  have h := lc_ge ha (Nat.zero_le a)
  rw [show nL 0 = 0 from rfl] at h
  rcases kLcmp (nL a) with q | ⟨q1, q2, -⟩
  · exact absurd q h
  · exact ⟨q2, q1⟩
theorem lc_neg {a : Nat} (h0 : 0 < a) (ha : a < 9223372036854775808) : lg_cmp (-nL a) 0 < 0 ∧ ¬ 0 ≤ lg_cmp (-nL a) 0 := by
  have e : (-nL a).toInt = -(a : Int) := by
    rw [Int64.toInt_neg, nL_int ha]
    rw [Int.bmod_eq_of_le (by omega) (by omega)]
  unfold lg_cmp
  split
  · rename_i h1
    exfalso
    rw [gt_iff_lt, Int64.lt_iff_toInt_lt, e] at h1
    have : (0 : Int64).toInt = 0 := rfl
    omega
  · split
    · rename_i h1
      exfalso
      have h2 := congrArg Int64.toInt h1
      rw [e] at h2
      have : (0 : Int64).toInt = 0 := rfl
      omega
    · exact ⟨by decide, by decide⟩
