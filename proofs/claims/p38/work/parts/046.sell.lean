/-! sell: the model's half -/
def mHolds (h : KH) (p d m : Int32) (n : Nat) : KH := sI (sI (sI (sI h 9 n p) 10 n d) 11 n m) 0 12 (nI (n + 1))
theorem mHolds_ag (h : KH) (p d m : Int32) (n : Nat) : kAg (fun a k => (a = 9 ∨ a = 10 ∨ a = 11) ∧ k = n ∨ a = 0 ∧ k = 12) h (mHolds h p d m n) :=
  (((kAg.I h 9 n p).trans (F := fun a k => (a = 9 ∨ a = 10 ∨ a = 11) ∧ k = n ∨ a = 0 ∧ k = 12) (kAg.I _ 10 n d) (fun i k q z => by omega) (fun i k q z => by omega)).trans (F := fun a k => (a = 9 ∨ a = 10 ∨ a = 11) ∧ k = n ∨ a = 0 ∧ k = 12) (kAg.I _ 11 n m) (fun i k q z => q z) (fun i k q z => by omega)).trans (kAg.I _ 0 12 _) (fun i k q z => q z) (fun i k q z => by omega)
theorem tm_holds {h : KH} {n : Nat} {p d m : Int32} (T : kSm h) (hc : kI h 0 12 = nI n) (h0 : kI h 0 0 = m) (hn : n < 700) : f_X10_holds 0 p d h = kret () (mHolds h p d m n) := by
  have T1 : kSm (sI h 9 n p) := T.fr (kAg.I h 9 n p) (fun a k q z => by omega)
  have T2 : kSm (sI (sI h 9 n p) 10 n d) := T1.fr (kAg.I _ 10 n d) (fun a k q z => by omega)
  have T3 : kSm (sI (sI (sI h 9 n p) 10 n d) 11 n m) := T2.fr (kAg.I _ 11 n m) (fun a k q z => by omega)
  unfold f_X10_holds
  rw [gN_k T.d0 T.r13, gI_k T.d0, hc, pAI_k T.d9 (by rw [T.n9]; exact hn) (by omega)]
  rw [gN_k T1.d0 T1.r14, gI_k T1.d0, show kI (sI h 9 n p) 0 12 = nI n from hc, pAI_k T1.d10 (by rw [T1.n10]; exact hn) (by omega)]
  rw [gN_k T2.d0 T2.r15, gI_k T2.d0, show kI (sI (sI h 9 n p) 10 n d) 0 12 = nI n from hc, gI_k T2.d0, show kI (sI (sI h 9 n p) 10 n d) 0 0 = m from h0, pAI_k T2.d11 (by rw [T2.n11]; exact hn) (by omega)]
  rw [gI_k T3.d0, show kI (sI (sI (sI h 9 n p) 10 n d) 11 n m) 0 12 = nI n from hc, pI_k T3.d0, nI_1]
  rfl
theorem sHold_late {h : KH} {p m M : Nat} : ∀ (n : Nat), (∀ k, k < n → mn h 11 k ≤ m) → m ≤ M → sHold h p M n = sHold h p m n := by
  intro n
  induction n with
  | zero => intro _ _; rfl
  | succ n ih =>
    intro hs hM
    have h1 := hs n (by omega)
    unfold sHold
    rw [ih (fun k hk => hs k (by omega)) hM]
    by_cases hq : mn h 9 n = p
    · rw [if_pos ⟨hq, by omega⟩, if_pos ⟨hq, h1⟩]
    · rw [if_neg (fun z => hq z.1), if_neg (fun z => hq z.1)]
