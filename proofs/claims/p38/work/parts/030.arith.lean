/-! THE PURE PART: arithmetic of small numbers, steps of the combinators, rows written whole -/
theorem ka_lt {a b : Nat} (ha : a < 2147483648) (hb : b < 2147483648) : (nI a < nI b) = (a < b) := by
  rw [eq_iff_iff, Int32.lt_iff_toInt_lt, nI_toInt ha, nI_toInt hb]
  omega
theorem ka_le {a b : Nat} (ha : a < 2147483648) (hb : b < 2147483648) : (nI a ≤ nI b) = (a ≤ b) := by
  rw [eq_iff_iff, Int32.le_iff_toInt_le, nI_toInt ha, nI_toInt hb]
  omega
theorem ka_eq {a b : Nat} (ha : a < 2147483648) (hb : b < 2147483648) : (nI a = nI b) = (a = b) := by
  rw [eq_iff_iff]
  constructor
  · intro h
    have h2 : (nI a).toInt = (nI b).toInt := by rw [h]
    rw [nI_toInt ha, nI_toInt hb] at h2
    omega
  · intro h
    rw [h]
theorem ka_add (a b : Nat) : nI a + nI b = nI (a + b) := nI_add a b
theorem ka_sub {a b : Nat} (h : b ≤ a) : nI a - nI b = nI (a - b) := by
  have e : nI a = nI (a - b) + nI b := by rw [nI_add]; congr 1; omega
  rw [e, Int32.add_sub_cancel]
theorem ka_dec {a : Nat} (h : 0 < a) : nI a + (-1) = nI (a - 1) := by
  have e : nI a = nI (a - 1) + nI 1 := by rw [nI_add]; congr 1; omega
  rw [e, Int32.add_assoc, show nI 1 + (-1 : Int32) = 0 from by decide, Int32.add_zero]
theorem ka_n1 {a : Nat} (ha : a < 2147483648) : (nI a = -1) = False := by
  rw [eq_iff_iff, iff_false]
  intro h
  have h2 : (nI a).toInt = (-1 : Int32).toInt := by rw [h]
  rw [nI_toInt ha, show (-1 : Int32).toInt = -1 from by decide] at h2
  omega
theorem ka_n1' {a : Nat} (ha : a < 2147483648) : ((-1 : Int32) = nI a) = False := by
  rw [@eq_comm Int32 (-1) (nI a), ka_n1 ha]
theorem ka_ltn {a : Nat} (ha : a < 2147483648) : ((-1 : Int32) < nI a) = True := by
  rw [eq_iff_iff, iff_true, Int32.lt_iff_toInt_lt, nI_toInt ha, show (-1 : Int32).toInt = -1 from by decide]
  omega
theorem ka_idx {i n : Nat} (hi : i < 2147483648) : (nI i < 0 ∨ n ≤ (nI i).toNatClampNeg) = (n ≤ i) := by
  rw [eq_iff_iff, nI_clamp hi]
  constructor
  · rintro (h | h)
    · exact absurd h (nI_pos hi)
    · exact h
  · exact Or.inr
theorem ka_neg {i : Nat} (hi : i < 2147483648) : (nI i < 0) = False := by
  rw [eq_iff_iff, iff_false]
  exact nI_pos hi
theorem ka_pred {a : Nat} (h : 0 < a) : nI a - 1 = nI (a - 1) := ka_sub h
theorem ka_mul (a b : Nat) : nI a * nI b = nI (a * b) := by
  unfold nI
  rw [Int32.ofNat_mul]
/-- a whole row of ints, of references, of longs -/
def sA (h : KH) (a : Nat) (g : Nat → Int32) : KH := kmk (kd h) (kn h) (fun b j => if b = a then g j else kI h b j) (kL h) (kR h) (kx h)
def sRA (h : KH) (a : Nat) (g : Nat → Option Nat) : KH := kmk (kd h) (kn h) (kI h) (kL h) (fun b j => if b = a then g j else kR h b j) (kx h)
def sLA (h : KH) (a : Nat) (g : Nat → Int64) : KH := kmk (kd h) (kn h) (kI h) (fun b j => if b = a then g j else kL h b j) (kR h) (kx h)
theorem kd_sA (h : KH) (a g) : kd (sA h a g) = kd h := rfl
theorem kn_sA (h : KH) (a g) : kn (sA h a g) = kn h := rfl
theorem kL_sA (h : KH) (a g) : kL (sA h a g) = kL h := rfl
theorem kR_sA (h : KH) (a g) : kR (sA h a g) = kR h := rfl
theorem kx_sA (h : KH) (a g) : kx (sA h a g) = kx h := rfl
theorem kI_sA (h : KH) (a : Nat) (g : Nat → Int32) (b j : Nat) : kI (sA h a g) b j = if b = a then g j else kI h b j := rfl
theorem kd_sRA (h : KH) (a g) : kd (sRA h a g) = kd h := rfl
theorem kn_sRA (h : KH) (a g) : kn (sRA h a g) = kn h := rfl
theorem kL_sRA (h : KH) (a g) : kL (sRA h a g) = kL h := rfl
theorem kI_sRA (h : KH) (a g) : kI (sRA h a g) = kI h := rfl
theorem kx_sRA (h : KH) (a g) : kx (sRA h a g) = kx h := rfl
theorem kR_sRA (h : KH) (a : Nat) (g : Nat → Option Nat) (b j : Nat) : kR (sRA h a g) b j = if b = a then g j else kR h b j := rfl
theorem kd_sLA (h : KH) (a g) : kd (sLA h a g) = kd h := rfl
theorem kn_sLA (h : KH) (a g) : kn (sLA h a g) = kn h := rfl
theorem kI_sLA (h : KH) (a g) : kI (sLA h a g) = kI h := rfl
theorem kR_sLA (h : KH) (a g) : kR (sLA h a g) = kR h := rfl
theorem kx_sLA (h : KH) (a g) : kx (sLA h a g) = kx h := rfl
theorem kL_sLA (h : KH) (a : Nat) (g : Nat → Int64) (b j : Nat) : kL (sLA h a g) b j = if b = a then g j else kL h b j := rfl
theorem kh_ext {h g : KH} (e1 : kd h = kd g) (e2 : kn h = kn g) (e3 : kI h = kI g) (e4 : kL h = kL g) (e5 : kR h = kR g) (e6 : kx h = kx g) : h = g := by
  obtain ⟨a1, a2, a3, a4, a5, a6⟩ := h
  obtain ⟨b1, b2, b3, b4, b5, b6⟩ := g
  cases e1; cases e2; cases e3; cases e4; cases e5; cases e6
  rfl
theorem sA_self (h : KH) (a : Nat) : sA h a (kI h a) = h := kh_ext rfl rfl (by funext b j; rw [kI_sA]; split <;> simp_all) rfl rfl rfl
theorem sA_sA (h : KH) (a : Nat) (g k : Nat → Int32) : sA (sA h a g) a k = sA h a k := kh_ext rfl rfl (by funext b j; simp only [kI_sA]; split <;> rfl) rfl rfl rfl
theorem sI_sA (h : KH) (a k : Nat) (v : Int32) : sI h a k v = sA h a (fun j => if j = k then v else kI h a j) := kh_ext rfl rfl (by
  funext b j
  rw [kI_sI, kI_sA]
  by_cases hb : b = a
  · subst hb
    by_cases hj : j = k <;> simp [hj]
  · simp [hb]) rfl rfl rfl
theorem sI_in (h : KH) (a : Nat) (g : Nat → Int32) (k : Nat) (v : Int32) : sI (sA h a g) a k v = sA h a (fun j => if j = k then v else g j) := by
  rw [sI_sA, sA_sA]
  congr 1
  funext j
  rw [kI_sA, if_pos rfl]
theorem sRA_self (h : KH) (a : Nat) : sRA h a (kR h a) = h := kh_ext rfl rfl rfl rfl (by funext b j; rw [kR_sRA]; split <;> simp_all) rfl
theorem sR_in (h : KH) (a : Nat) (g : Nat → Option Nat) (k : Nat) (v : Option Nat) : sR (sRA h a g) a k v = sRA h a (fun j => if j = k then v else g j) := kh_ext rfl rfl rfl rfl (by
  funext b j
  simp only [kR_sR, kR_sRA]
  by_cases hb : b = a
  · subst hb
    by_cases hj : j = k <;> simp [hj]
  · simp [hb]) rfl
theorem sI_sRA (h : KH) (a b k : Nat) (v : Int32) (g : Nat → Option Nat) : sI (sRA h a g) b k v = sRA (sI h b k v) a g := rfl
theorem sA_sRA (h : KH) (a b : Nat) (f : Nat → Int32) (g : Nat → Option Nat) : sA (sRA h a g) b f = sRA (sA h b f) a g := rfl
