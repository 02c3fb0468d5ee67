/-! sell: the class's half -/
theorem nw_k {α : Type} {h : KH} {c n : Nat} {f : Nat → KH → KO α} (h1 : kd h (kx h) = 0) : nw h c n f = f (kx h) (al h c n) := if_pos h1
theorem kmay_s {α β : Type} (a : α) (k : α → KO β) : kmay (some a) k = k a := rfl
def xSell (h : KH) (pl : Nat) (d m : Int32) (b : Option Nat) : KH := sR (sR (sI (sI (al h 2 0) (kx h) 0 d) (kx h) 1 m) (kx h) 2 b) pl 4 (some (kx h))
theorem t0_sellB {h : KH} {pl : Nat} {d m : Int32} {b : Option Nat} (h1 : kd h pl = 5) (hf : kd h (kx h) = 0) : X4_sellTo_b25 pl d m b h = kret () (xSell h pl d m b) := by
  have hk : kd (al h 2 0) (kx h) = 2 := by rw [kd_al, if_pos rfl]
  have hp : kd (al h 2 0) pl = 5 := by
    rw [kd_al, if_neg (fun e => by rw [e, hf] at h1; cases h1)]
    exact h1
  unfold X4_sellTo_b25 f_X1_init
  rw [nw_k hf, pI_k hk, pI_k (show kd (sI (al h 2 0) (kx h) 0 d) (kx h) = 2 from hk), pR_k (show kd (sI (sI (al h 2 0) (kx h) 0 d) (kx h) 1 m) (kx h) = 2 from hk), ki_ret, pR_k (show kd (sR (sI (sI (al h 2 0) (kx h) 0 d) (kx h) 1 m) (kx h) 2 b) pl = 5 from hp)]
  rfl
theorem t0_sellTo {h : KH} {pl a s m : Nat} {d : Int32} (h1 : kd h pl = 5) (h2 : kR h pl 4 = some a) (h3 : kd h a = 2) (h4 : kI h a 1 = nI s) (hs : s < 2147483648) (hm : m < 2147483648) (hf : kd h (kx h) = 0) : f_X4_sellTo pl d (nI m) h = kret () (xSell h pl d (nI m) (if s = m then kR h a 2 else some a)) := by
  unfold f_X4_sellTo
  rw [gR_k h1, h2, kmay_s, gI_k h3, h4]
  by_cases hq : s = m
  · rw [kif_t (by rw [hq]), gR_k h1, h2, kmay_s, gR_k h3, t0_sellB h1 hf, if_pos hq]
  · rw [kif_f (by rw [ka_eq hs hm]; exact hq), gR_k h1, h2, t0_sellB h1 hf, if_neg hq]
theorem xSell_ag {h : KH} {pl : Nat} {d m : Int32} {b : Option Nat} (hf : kd h (kx h) = 0) : kAg (fun a k => (a = kx h ∨ a = kx h + 1000000) ∨ a = pl ∧ k = 4) h (xSell h pl d m b) :=
  ((((kAg.al h 2 0 hf).trans (F := fun a _ => a = kx h ∨ a = kx h + 1000000) (kAg.I _ (kx h) 0 d) (fun i k q z => q z) (fun i k q z => q (Or.inl z.1))).trans (F := fun a _ => a = kx h ∨ a = kx h + 1000000) (kAg.I _ (kx h) 1 m) (fun i k q z => q z) (fun i k q z => q (Or.inl z.1))).trans (F := fun a _ => a = kx h ∨ a = kx h + 1000000) (kAg.R _ (kx h) 2 b) (fun i k q z => q z) (fun i k q z => q (Or.inl z.1))).trans (kAg.R _ pl 4 _) (fun i k q z => q (Or.inl z)) (fun i k q z => q (Or.inr z))
