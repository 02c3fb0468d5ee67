section
/-! the abstract heap: a kind, a length, ints, longs and references by address and place; the next address -/
abbrev KV : Type := Int32 ⊕ (Int64 ⊕ Option Nat)
abbrev KH : Type := (Nat → Nat) × (Nat → Nat) × (Nat → Nat → Int32) × (Nat → Nat → Int64) × (Nat → Nat → Option Nat) × Nat
abbrev KO (α : Type) : Type := Option ((Nat ⊕ α) × KH)
def kmk (d : Nat → Nat) (n : Nat → Nat) (i : Nat → Nat → Int32) (l : Nat → Nat → Int64) (r : Nat → Nat → Option Nat) (x : Nat) : KH := (d, n, i, l, r, x)
def kd (h : KH) : Nat → Nat := h.1
def kn (h : KH) : Nat → Nat := h.2.1
def kI (h : KH) : Nat → Nat → Int32 := h.2.2.1
def kL (h : KH) : Nat → Nat → Int64 := h.2.2.2.1
def kR (h : KH) : Nat → Nat → Option Nat := h.2.2.2.2.1
def kx (h : KH) : Nat := h.2.2.2.2.2
def sI (h : KH) (a k : Nat) (v : Int32) : KH := kmk (kd h) (kn h) (fun b j => if b = a ∧ j = k then v else kI h b j) (kL h) (kR h) (kx h)
def sL (h : KH) (a k : Nat) (v : Int64) : KH := kmk (kd h) (kn h) (kI h) (fun b j => if b = a ∧ j = k then v else kL h b j) (kR h) (kx h)
def sR (h : KH) (a k : Nat) (v : Option Nat) : KH := kmk (kd h) (kn h) (kI h) (kL h) (fun b j => if b = a ∧ j = k then v else kR h b j) (kx h)
def sX (h : KH) (x : Nat) : KH := kmk (kd h) (kn h) (kI h) (kL h) (kR h) x
def al (h : KH) (c n : Nat) : KH := kmk (fun b => if b = kx h then c else kd h b) (fun b => if b = kx h then n else kn h b) (fun b j => if b = kx h then 0 else kI h b j) (fun b j => if b = kx h then 0 else kL h b j) (fun b j => if b = kx h then none else kR h b j) (kx h + 1)
/-! what a step answers: nothing (a fault), an exception by its number, or a value; and the heap -/
def kret {α : Type} (v : α) (h : KH) : KO α := some (.inr v, h)
def kthrow {α : Type} (e : Nat) (h : KH) : KO α := some (.inl e, h)
def kbind {α β : Type} (x : KO α) (k : α → KH → KO β) : KO β := match x with
  | some (.inr v, h) => k v h
  | some (.inl e, h) => some (.inl e, h)
  | none => none
/-- a call under a catch -/
def kcatch {α β : Type} (x : KO α) (c : Nat → KH → KO β) (k : α → KH → KO β) : KO β := match x with
  | some (.inr v, h) => k v h
  | some (.inl e, h) => c e h
  | none => none
def kg {α : Type} (c : Prop) [Decidable c] (x : KO α) : KO α := if c then x else none
def kmay {α β : Type} (o : Option α) (k : α → KO β) : KO β := match o with
  | some a => k a
  | none => none
def knul {α β : Type} (o : Option α) (x : KO β) (k : α → KO β) : KO β := match o with
  | none => x
  | some a => k a
def kix (i : Int32) (n : Nat) : Prop := ¬ (i < 0 ∨ n ≤ i.toNatClampNeg)
def kif {α : Type} (c : Prop) [Decidable c] (x y : KO α) : KO α := if c then x else y
/-- fuel of a loop -/
def kF : Nat := 1000
/-! reads and writes with their guards -/
def gI {α : Type} (h : KH) (a c k : Nat) (f : Int32 → KO α) : KO α := if kd h a = c then f (kI h a k) else none
def gR {α : Type} (h : KH) (a c k : Nat) (f : Option Nat → KO α) : KO α := if kd h a = c then f (kR h a k) else none
def gN {α : Type} (h : KH) (a c k : Nat) (f : Nat → KO α) : KO α := if kd h a = c then kmay (kR h a k) f else none
def pI {α : Type} (h : KH) (a c k : Nat) (v : Int32) (f : KH → KO α) : KO α := if kd h a = c then f (sI h a k v) else none
def pR {α : Type} (h : KH) (a c k : Nat) (v : Option Nat) (f : KH → KO α) : KO α := if kd h a = c then f (sR h a k v) else none
def gAI {α : Type} (h : KH) (a c : Nat) (i : Int32) (f : Int32 → KO α) : KO α := if kd h a = c ∧ ¬ (i < 0 ∨ kn h a ≤ i.toNatClampNeg) then f (kI h a i.toNatClampNeg) else none
def gAL {α : Type} (h : KH) (a c : Nat) (i : Int32) (f : Int64 → KO α) : KO α := if kd h a = c ∧ ¬ (i < 0 ∨ kn h a ≤ i.toNatClampNeg) then f (kL h a i.toNatClampNeg) else none
def gAN {α : Type} (h : KH) (a c : Nat) (i : Int32) (f : Nat → KO α) : KO α := if kd h a = c ∧ ¬ (i < 0 ∨ kn h a ≤ i.toNatClampNeg) then kmay (kR h a i.toNatClampNeg) f else none
def pAI {α : Type} (h : KH) (a c : Nat) (i : Int32) (v : Int32) (f : KH → KO α) : KO α := if kd h a = c ∧ ¬ (i < 0 ∨ kn h a ≤ i.toNatClampNeg) then f (sI h a i.toNatClampNeg v) else none
def pAZ {α : Type} (h : KH) (a c : Nat) (i : Int32) (v : Int32) (f : KH → KO α) : KO α := if kd h a = c ∧ ¬ (i < 0 ∨ kn h a ≤ i.toNatClampNeg) ∧ (v = 0 ∨ v = 1) then f (sI h a i.toNatClampNeg v) else none
def pAL {α : Type} (h : KH) (a c : Nat) (i : Int32) (v : Int64) (f : KH → KO α) : KO α := if kd h a = c ∧ ¬ (i < 0 ∨ kn h a ≤ i.toNatClampNeg) then f (sL h a i.toNatClampNeg v) else none
def pAN {α : Type} (h : KH) (a c cv : Nat) (i : Int32) (v : Nat) (f : KH → KO α) : KO α := if kd h a = c ∧ ¬ (i < 0 ∨ kn h a ≤ i.toNatClampNeg) ∧ kd h v = cv then f (sR h a i.toNatClampNeg (some v)) else none
def nw {α : Type} (h : KH) (c n : Nat) (f : Nat → KH → KO α) : KO α := if kd h (kx h) = 0 then f (kx h) (al h c n) else none
def kretZ (v : Int32) (h : KH) : KO Int32 := if v = 0 ∨ v = 1 then some (.inr v, h) else none
def kretC (v : Int32) (h : KH) : KO Int32 := if (v.toUInt32 % 65536).toInt32 = v then some (.inr v, h) else none
/-- a division by what isn't 0 -/
def kdv {α : Type} (y : Int32) (f : KO α) : KO α := if y = 0 then none else f
/-! plain facts -/
theorem kd_mk (d n i l r x) : kd (kmk d n i l r x) = d := rfl
theorem kn_mk (d n i l r x) : kn (kmk d n i l r x) = n := rfl
theorem kI_mk (d n i l r x) : kI (kmk d n i l r x) = i := rfl
theorem kL_mk (d n i l r x) : kL (kmk d n i l r x) = l := rfl
theorem kR_mk (d n i l r x) : kR (kmk d n i l r x) = r := rfl
theorem kx_mk (d n i l r x) : kx (kmk d n i l r x) = x := rfl
theorem kd_sI (h : KH) (a k v) : kd (sI h a k v) = kd h := rfl
theorem kn_sI (h : KH) (a k v) : kn (sI h a k v) = kn h := rfl
theorem kL_sI (h : KH) (a k v) : kL (sI h a k v) = kL h := rfl
theorem kR_sI (h : KH) (a k v) : kR (sI h a k v) = kR h := rfl
theorem kx_sI (h : KH) (a k v) : kx (sI h a k v) = kx h := rfl
theorem kI_sI (h : KH) (a k : Nat) (v : Int32) (b j : Nat) : kI (sI h a k v) b j = if b = a ∧ j = k then v else kI h b j := rfl
theorem kd_sL (h : KH) (a k v) : kd (sL h a k v) = kd h := rfl
theorem kn_sL (h : KH) (a k v) : kn (sL h a k v) = kn h := rfl
theorem kI_sL (h : KH) (a k v) : kI (sL h a k v) = kI h := rfl
theorem kR_sL (h : KH) (a k v) : kR (sL h a k v) = kR h := rfl
theorem kx_sL (h : KH) (a k v) : kx (sL h a k v) = kx h := rfl
theorem kL_sL (h : KH) (a k : Nat) (v : Int64) (b j : Nat) : kL (sL h a k v) b j = if b = a ∧ j = k then v else kL h b j := rfl
theorem kd_sR (h : KH) (a k v) : kd (sR h a k v) = kd h := rfl
theorem kn_sR (h : KH) (a k v) : kn (sR h a k v) = kn h := rfl
theorem kI_sR (h : KH) (a k v) : kI (sR h a k v) = kI h := rfl
theorem kL_sR (h : KH) (a k v) : kL (sR h a k v) = kL h := rfl
theorem kx_sR (h : KH) (a k v) : kx (sR h a k v) = kx h := rfl
theorem kR_sR (h : KH) (a k : Nat) (v : Option Nat) (b j : Nat) : kR (sR h a k v) b j = if b = a ∧ j = k then v else kR h b j := rfl
theorem kd_sX (h : KH) (x) : kd (sX h x) = kd h := rfl
theorem kn_sX (h : KH) (x) : kn (sX h x) = kn h := rfl
theorem kI_sX (h : KH) (x) : kI (sX h x) = kI h := rfl
theorem kL_sX (h : KH) (x) : kL (sX h x) = kL h := rfl
theorem kR_sX (h : KH) (x) : kR (sX h x) = kR h := rfl
theorem kx_sX (h : KH) (x) : kx (sX h x) = x := rfl
theorem kd_al (h : KH) (c n b : Nat) : kd (al h c n) b = if b = kx h then c else kd h b := rfl
theorem kn_al (h : KH) (c n b : Nat) : kn (al h c n) b = if b = kx h then n else kn h b := rfl
theorem kI_al (h : KH) (c n b j : Nat) : kI (al h c n) b j = if b = kx h then 0 else kI h b j := rfl
theorem kL_al (h : KH) (c n b j : Nat) : kL (al h c n) b j = if b = kx h then 0 else kL h b j := rfl
theorem kR_al (h : KH) (c n b j : Nat) : kR (al h c n) b j = if b = kx h then none else kR h b j := rfl
theorem kx_al (h : KH) (c n : Nat) : kx (al h c n) = kx h + 1 := rfl
theorem kbind_ret {α β : Type} (v : α) (h : KH) (k : α → KH → KO β) : kbind (kret v h) k = k v h := rfl
theorem kbind_throw {α β : Type} (e : Nat) (h : KH) (k : α → KH → KO β) : kbind (kthrow e h) k = kthrow e h := rfl
theorem kbind_none {α β : Type} (k : α → KH → KO β) : kbind none k = none := rfl
theorem kmay_some {α β : Type} (a : α) (k : α → KO β) : kmay (some a) k = k a := rfl
theorem knul_some {α β : Type} (a : α) (x : KO β) (k : α → KO β) : knul (some a) x k = k a := rfl
theorem knul_none {α β : Type} (x : KO β) (k : α → KO β) : knul none x k = x := rfl
def kbinI {α β : Type} (x : KO α) (k : α → KH → KO β) : KO β := match x with
  | some (.inr v, h) => k v h
  | _ => none
def kcallV {α β : Type} (c b : Nat) (h : KH) (x : KO α) (k : α → KH → KO β) : KO β := if kd h b = c then kbind x k else none
def alM (h : KH) (n k : Nat) : KH := kmk (fun b => if b = kx h then 24 else if kx h < b ∧ b ≤ kx h + n then 21 else kd h b) (fun b => if b = kx h then n else if kx h < b ∧ b ≤ kx h + n then k else kn h b) (fun b j => if kx h ≤ b ∧ b ≤ kx h + n then 0 else kI h b j) (fun b j => if kx h ≤ b ∧ b ≤ kx h + n then 0 else kL h b j)
  (fun b j => if b = kx h then (if j < n then some (kx h + 1 + j) else none) else if kx h < b ∧ b ≤ kx h + n then none else kR h b j) (kx h + 1 + n)
def nwM {α : Type} (h : KH) (n k : Nat) (f : Nat → KH → KO α) : KO α := if (List.range (1 + n)).all (fun i => decide (kd h (kx h + i) = 0)) = true then f (kx h) (alM h n k) else none
def kE : KH := kmk (fun _ => 0) (fun _ => 0) (fun _ _ => 0) (fun _ _ => 0) (fun _ _ => none) 0
def PN (RR : Nat → KH → KH → Prop) (w m : KH → KO Int32) : Prop :=
  ∀ (j : Nat) (hx hm : KH), j < 512 → RR j hx hm → ∃ (bv : Int32) (hx1 hm1 : KH), w (sX hx 0) = some (.inr bv, hx1) ∧ m hm = some (.inr bv, hm1) ∧ RR (j + 1) hx1 hm1
end
section
def X6_nearestOpen_b42 (rc4 : Nat → Nat → Int32 → Int32 → KH → KO Int32) (v0 : Nat) (v1 : Nat) (v2 : Int32) (v3 : Int32) (h : KH) : KO Int32 := rc4 v0 v1 v2 (v3 + 1) h
def X6_nearestOpen_b40 (rc4 : Nat → Nat → Int32 → Int32 → KH → KO Int32) (v0 : Nat) (v1 : Nat) (v3 : Int32) (h : KH) : KO Int32 := X6_nearestOpen_b42 rc4 v0 v1 v3 v3 h
def X6_nearestOpen_b4 (rc4 : Nat → Nat → Int32 → Int32 → KH → KO Int32) (v0 : Nat) (v1 : Nat) (v2 : Int32) (v3 : Int32) (h : KH) : KO Int32 := kif (8 ≤ v3) (kret v2 h) (gN h v0 7 2 (fun a1 => gAI h a1 23 v3 (fun x1 => kif (x1 = 0) (gAI h v1 21 v3 (fun x2 => kif (x2 = ((-1))) (X6_nearestOpen_b42 rc4 v0 v1 v2 v3 h) (kif (v2 = ((-1))) (X6_nearestOpen_b40 rc4 v0 v1 v3 h) (gAI h v1 21 v3 (fun x3 => gAI h v1 21 v2 (fun x4 => kif (x4 ≤ x3) (X6_nearestOpen_b42 rc4 v0 v1 v2 v3 h) (X6_nearestOpen_b40 rc4 v0 v1 v3 h))))))) (X6_nearestOpen_b42 rc4 v0 v1 v2 v3 h))))
def X6_nearestOpen_L4  : Nat → Nat → Nat → Int32 → Int32 → KH → KO Int32
  | 0, _, _, _, _, _ => none
  | n + 1, v0, v1, v2, v3, h => X6_nearestOpen_b4 (X6_nearestOpen_L4  n) v0 v1 v2 v3 h
def f_X6_nearestOpen (p0 : Nat) (p1 : Nat) (h : KH) : KO Int32 := X6_nearestOpen_L4  kF p0 p1 ((-1)) 0 h
def X6_goOnFrom_b51 (rc2 : Nat → Int32 → Nat → Int32 → KH → KO Unit) (v0 : Nat) (v1 : Int32) (v2 : Nat) (v3 : Int32) (h : KH) : KO Unit := rc2 v0 v1 v2 (v3 + 1) h
def X6_goOnFrom_b46 (rc2 : Nat → Int32 → Nat → Int32 → KH → KO Unit) (v0 : Nat) (v1 : Int32) (v2 : Nat) (v3 : Int32) (v5 : Int32) (h : KH) : KO Unit := pAI h v2 21 v3 v5 (fun h1 => X6_goOnFrom_b51 rc2 v0 v1 v2 v3 h1)
def X6_goOnFrom_b2 (rc2 : Nat → Int32 → Nat → Int32 → KH → KO Unit) (v0 : Nat) (v1 : Int32) (v2 : Nat) (v3 : Int32) (h : KH) : KO Unit := kif (8 ≤ v3) (kret () h) (gN h v0 7 0 (fun a1 => gAN h a1 24 v1 (fun a2 => gAI h a2 21 v3 (fun x1 => gAI h v2 21 v1 (fun x2 => kif (x1 = 0) (X6_goOnFrom_b51 rc2 v0 v1 v2 v3 h) (gAI h v2 21 v3 (fun x3 => kif (x3 = ((-1))) (X6_goOnFrom_b46 rc2 v0 v1 v2 v3 (x2 + x1) h) (gAI h v2 21 v3 (fun x4 => kif (x4 ≤ (x2 + x1)) (X6_goOnFrom_b51 rc2 v0 v1 v2 v3 h) (X6_goOnFrom_b46 rc2 v0 v1 v2 v3 (x2 + x1) h))))))))))
def X6_goOnFrom_L2  : Nat → Nat → Int32 → Nat → Int32 → KH → KO Unit
  | 0, _, _, _, _, _ => none
  | n + 1, v0, v1, v2, v3, h => X6_goOnFrom_b2 (X6_goOnFrom_L2  n) v0 v1 v2 v3 h
def f_X6_goOnFrom (p0 : Nat) (p1 : Int32) (p2 : Nat) (h : KH) : KO Unit := X6_goOnFrom_L2  kF p0 p1 p2 0 h
def X6_measureFrom_b38 (rc38 : Nat → Nat → Int32 → KH → KO Unit) (v0 : Nat) (v2 : Nat) (v3 : Int32) (h : KH) : KO Unit := kif (8 ≤ v3) (kret () h) (kcallV 7 v0 h (f_X6_nearestOpen v0 v2 h) (fun x1 h1 => kif (x1 = ((-1))) (kret () h1) (gN h1 v0 7 2 (fun a1 => pAZ h1 a1 23 x1 1 (fun h2 => kcallV 7 v0 h2 (f_X6_goOnFrom v0 x1 v2 h2) (fun _ h3 => rc38 v0 v2 (v3 + 1) h3))))))
def X6_measureFrom_L38  : Nat → Nat → Nat → Int32 → KH → KO Unit
  | 0, _, _, _, _ => none
  | n + 1, v0, v2, v3, h => X6_measureFrom_b38 (X6_measureFrom_L38  n) v0 v2 v3 h
def X6_measureFrom_b9 (rc9 : Nat → Int32 → Nat → Int32 → KH → KO Unit) (v0 : Nat) (v1 : Int32) (v2 : Nat) (v3 : Int32) (h : KH) : KO Unit := kif (8 ≤ v3) (pAI h v2 21 v1 0 (fun h1 => X6_measureFrom_L38  kF v0 v2 0 h1)) (pAI h v2 21 v3 ((-1)) (fun h2 => gN h2 v0 7 2 (fun a1 => pAZ h2 a1 23 v3 0 (fun h3 => rc9 v0 v1 v2 (v3 + 1) h3))))
def X6_measureFrom_L9  : Nat → Nat → Int32 → Nat → Int32 → KH → KO Unit
  | 0, _, _, _, _, _ => none
  | n + 1, v0, v1, v2, v3, h => X6_measureFrom_b9 (X6_measureFrom_L9  n) v0 v1 v2 v3 h
def f_X6_measureFrom (p0 : Nat) (p1 : Int32) (h : KH) : KO Unit := gN h p0 7 1 (fun a1 => gAN h a1 24 p1 (fun a2 => X6_measureFrom_L9  kF p0 p1 a2 0 h))
def X6_measureAll_b2 (rc2 : Nat → Int32 → KH → KO Unit) (v0 : Nat) (v1 : Int32) (h : KH) : KO Unit := kif (8 ≤ v1) (kret () h) (kcallV 7 v0 h (f_X6_measureFrom v0 v1 h) (fun _ h1 => rc2 v0 (v1 + 1) h1))
def X6_measureAll_L2  : Nat → Nat → Int32 → KH → KO Unit
  | 0, _, _, _ => none
  | n + 1, v0, v1, h => X6_measureAll_b2 (X6_measureAll_L2  n) v0 v1 h
def f_X6_measureAll (p0 : Nat) (h : KH) : KO Unit := X6_measureAll_L2  kF p0 0 h
def f_X6_init (p0 : Nat) (h : KH) : KO Unit := nwM h 8 8 (fun a1 h1 => pR h1 p0 7 0 (some a1) (fun h2 => nwM h2 8 8 (fun a2 h3 => pR h3 p0 7 1 (some a2) (fun h4 => nw h4 23 8 (fun a3 h5 => pR h5 p0 7 2 (some a3) (fun h6 => pI h6 p0 7 3 30 (fun h7 => kcallV 7 p0 h7 (f_X6_measureAll p0 h7) (fun _ h8 => kret () h8))))))))
def f_X7_init (p0 : Nat) (h : KH) : KO Unit := nw h 21 6 (fun a1 h1 => pR h1 p0 8 0 (some a1) (fun h2 => pI h2 p0 8 1 0 (fun h3 => kret () h3)))
def f_X2_init (p0 : Nat) (h : KH) : KO Unit := nw h 21 15 (fun a1 h1 => pR h1 p0 3 0 (some a1) (fun h2 => kret () h2))
def f_X3_init (p0 : Nat) (h : KH) : KO Unit := nw h 26 60 (fun a1 h1 => pR h1 p0 4 0 (some a1) (fun h2 => nw h2 23 60 (fun a2 h3 => pR h3 p0 4 1 (some a2) (fun h4 => pI h4 p0 4 2 0 (fun h5 => kret () h5)))))
def f_X9_init (p0 : Nat) (h : KH) : KO Unit := nw h 7 0 (fun a1 h1 => kbinI (f_X6_init a1 h1) (fun _ h2 => pR h2 p0 10 0 (some a1) (fun h3 => nw h3 21 4 (fun a2 h4 => pAI h4 a2 21 0 1 (fun h5 => pAI h5 a2 21 1 2 (fun h6 => pAI h6 a2 21 2 4 (fun h7 => pAI h7 a2 21 3 8 (fun h8 => pR h8 p0 10 1 (some a2) (fun h9 => nw h9 8 0 (fun a3 h10 => kbinI (f_X7_init a3 h10) (fun _ h11 => pR h11 p0 10 2 (some a3) (fun h12 => nw h12 3 0 (fun a4 h13 => kbinI (f_X2_init a4 h13) (fun _ h14 => pR h14 p0 10 3 (some a4) (fun h15 => nw h15 25 10 (fun a5 h16 => pR h16 p0 10 4 (some a5) (fun h17 => nw h17 25 10 (fun a6 h18 => pR h18 p0 10 5 (some a6) (fun h19 => nw h19 26 60 (fun a7 h20 => pR h20 p0 10 6 (some a7) (fun h21 => nw h21 27 8 (fun a8 h22 => pR h22 p0 10 7 (some a8) (fun h23 => nw h23 28 40 (fun a9 h24 => pR h24 p0 10 8 (some a9) (fun h25 => nw h25 22 6 (fun a10 h26 => pR h26 p0 10 9 (some a10) (fun h27 => nw h27 22 6 (fun a11 h28 => pR h28 p0 10 10 (some a11) (fun h29 => nw h29 4 0 (fun a12 h30 => kbinI (f_X3_init a12 h30) (fun _ h31 => pR h31 p0 10 11 (some a12) (fun h32 => pI h32 p0 10 12 0 (fun h33 => pI h33 p0 10 13 0 (fun h34 => pI h34 p0 10 14 0 (fun h35 => pI h35 p0 10 15 0 (fun h36 => pI h36 p0 10 16 0 (fun h37 => kret () h37)))))))))))))))))))))))))))))))))))))
def X9_isWithin_b15  (s0 : Int32) (h : KH) : KO Int32 := kretZ s0 h
def X9_isWithin_b14   (h : KH) : KO Int32 := X9_isWithin_b15  0 h
def f_X9_isWithin (p0 : Int32) (p1 : Int32) (p2 : Int32) (h : KH) : KO Int32 := kif (p0 < p1) (X9_isWithin_b14   h) (kif (p2 < p0) (X9_isWithin_b14   h) (X9_isWithin_b15  1 h))
def f_X9_pass (p0 : Nat) (p1 : Int32) (h : KH) : KO Int32 := kbind (f_X9_isWithin p1 1 2000 h) (fun x1 h1 => kif (x1 = 0) (kthrow 1 h1) (gI h1 p0 10 12 (fun x2 => kif ((x2 + p1) ≤ 50000) (gI h1 p0 10 12 (fun x3 => pI h1 p0 10 12 (x3 + p1) (fun h2 => gI h2 p0 10 12 (fun x4 => kret x4 h2)))) (kthrow 2 h1))))
def f_X9_now (p0 : Nat) (h : KH) : KO Int32 := gI h p0 10 12 (fun x1 => kret x1 h)
def f_X9_requireGate (p0 : Int32) (h : KH) : KO Unit := kbind (f_X9_isWithin p0 0 7 h) (fun x1 h1 => kif (x1 = 0) (kthrow 3 h1) (kret () h1))
def f_X6_lengthOf (p0 : Nat) (p1 : Int32) (p2 : Int32) (h : KH) : KO Int32 := gN h p0 7 0 (fun a1 => gAN h a1 24 p1 (fun a2 => gAI h a2 21 p2 (fun x1 => kret x1 h)))
def f_X6_build (p0 : Nat) (p1 : Int32) (p2 : Int32) (p3 : Int32) (h : KH) : KO Unit := gN h p0 7 0 (fun a1 => gAN h a1 24 p1 (fun a2 => pAI h a2 21 p2 p3 (fun h1 => gN h1 p0 7 0 (fun a3 => gAN h1 a3 24 p2 (fun a4 => pAI h1 a4 21 p1 p3 (fun h2 => kcallV 7 p0 h2 (f_X6_measureAll p0 h2) (fun _ h3 => kret () h3)))))))
def f_X6_between (p0 : Nat) (p1 : Int32) (p2 : Int32) (h : KH) : KO Int32 := gN h p0 7 1 (fun a1 => gAN h a1 24 p1 (fun a2 => gAI h a2 21 p2 (fun x1 => kret x1 h)))
def X6_isOneTrip_b55  (s0 : Int32) (h : KH) : KO Int32 := kretZ s0 h
def X6_isOneTrip_b54   (h : KH) : KO Int32 := X6_isOneTrip_b55  0 h
def f_X6_isOneTrip (p0 : Nat) (p1 : Nat) (p2 : Nat) (h : KH) : KO Int32 := gI h p1 6 1 (fun x1 => gI h p2 6 1 (fun x2 => kcallV 7 p0 h (f_X6_between p0 x1 x2 h) (fun x3 h1 => gI h1 p2 6 2 (fun x4 => gI h1 p1 6 2 (fun x5 => kif (x3 = ((-1))) (X6_isOneTrip_b54   h1) (gI h1 p0 7 3 (fun x6 => kif (((2 * x3) + x6) < (x4 - x5)) (X6_isOneTrip_b54   h1) (kif ((4 * (x4 - x5)) < x3) (X6_isOneTrip_b54   h1) (X6_isOneTrip_b55  1 h1)))))))))
def X3_seeBeginning_b44   (h : KH) : KO Unit := kret () h
def X3_seeBeginning_b43  (s0 : Int32) (s1 : Int32) (s2 : Nat) (h : KH) : KO Unit := pAZ h s2 23 s1 s0 (fun h1 => X3_seeBeginning_b44   h1)
def X3_seeBeginning_b38  (s0 : Int32) (s1 : Nat) (h : KH) : KO Unit := X3_seeBeginning_b43  1 s0 s1 h
def f_X3_seeBeginning (p0 : Nat) (p1 : Int32) (p2 : Nat) (h : KH) : KO Unit := gI h p0 4 2 (fun x1 => kif (x1 ≤ p1) (X3_seeBeginning_b44   h) (gN h p0 4 1 (fun a1 => kif (p1 = 0) (X3_seeBeginning_b38  p1 a1 h) (gN h p0 4 0 (fun a2 => gAN h a2 26 (p1 - 1) (fun a3 => gN h p0 4 0 (fun a4 => gAN h a4 26 p1 (fun a5 => kcallV 7 p2 h (f_X6_isOneTrip p2 a3 a5 h) (fun x2 h1 => kif (x2 = 0) (X3_seeBeginning_b38  p1 a1 h1) (X3_seeBeginning_b43  0 p1 a1 h1))))))))))
def X3_joinAll_b2 (rc2 : Nat → Nat → Int32 → KH → KO Unit) (v0 : Nat) (v1 : Nat) (v2 : Int32) (h : KH) : KO Unit := gI h v0 4 2 (fun x1 => kif (x1 ≤ v2) (kret () h) (kcallV 4 v0 h (f_X3_seeBeginning v0 v2 v1 h) (fun _ h1 => rc2 v0 v1 (v2 + 1) h1)))
def X3_joinAll_L2  : Nat → Nat → Nat → Int32 → KH → KO Unit
  | 0, _, _, _, _ => none
  | n + 1, v0, v1, v2, h => X3_joinAll_b2 (X3_joinAll_L2  n) v0 v1 v2 h
def f_X3_joinAll (p0 : Nat) (p1 : Nat) (h : KH) : KO Unit := X3_joinAll_L2  kF p0 p1 0 h
def X9_joinAllAgain_b2 (rc2 : Nat → Int32 → KH → KO Unit) (v0 : Nat) (v1 : Int32) (h : KH) : KO Unit := gI h v0 10 13 (fun x1 => kif (x1 ≤ v1) (kret () h) (gN h v0 10 4 (fun a1 => gAN h a1 25 v1 (fun a2 => gN h a2 5 3 (fun a3 => gN h v0 10 0 (fun a4 => kcallV 4 a3 h (f_X3_joinAll a3 a4 h) (fun _ h1 => rc2 v0 (v1 + 1) h1)))))))
def X9_joinAllAgain_L2  : Nat → Nat → Int32 → KH → KO Unit
  | 0, _, _, _ => none
  | n + 1, v0, v1, h => X9_joinAllAgain_b2 (X9_joinAllAgain_L2  n) v0 v1 h
def f_X9_joinAllAgain (p0 : Nat) (h : KH) : KO Unit := X9_joinAllAgain_L2  kF p0 0 h
def X9_road_b24   (h : KH) : KO Int32 := kthrow 1 h
def f_X9_road (p0 : Nat) (p1 : Int32) (p2 : Int32) (p3 : Int32) (h : KH) : KO Int32 := kbind (f_X9_requireGate p1 h) (fun _ h1 => kbind (f_X9_requireGate p2 h1) (fun _ h2 => kif (p1 = p2) (X9_road_b24   h2) (kbind (f_X9_isWithin p3 0 200 h2) (fun x1 h3 => kif (x1 = 0) (X9_road_b24   h3) (gN h3 p0 10 0 (fun a1 => kcallV 7 a1 h3 (f_X6_lengthOf a1 p1 p2 h3) (fun x2 h4 => gN h4 p0 10 0 (fun a2 => kcallV 7 a2 h4 (f_X6_build a2 p1 p2 p3 h4) (fun _ h5 => kcallV 10 p0 h5 (f_X9_joinAllAgain p0 h5) (fun _ h6 => kret x2 h6))))))))))
def f_X9_distance (p0 : Nat) (p1 : Int32) (p2 : Int32) (h : KH) : KO Int32 := kbind (f_X9_requireGate p1 h) (fun _ h1 => kbind (f_X9_requireGate p2 h1) (fun _ h2 => gN h2 p0 10 0 (fun a1 => kcallV 7 a1 h2 (f_X6_between a1 p1 p2 h2) (fun x1 h3 => kret x1 h3))))
def f_X9_setPause (p0 : Nat) (p1 : Int32) (h : KH) : KO Int32 := kbind (f_X9_isWithin p1 0 500 h) (fun x1 h1 => kif (x1 = 0) (kthrow 1 h1) (gN h1 p0 10 0 (fun a1 => gI h1 a1 7 3 (fun x2 => gN h1 p0 10 0 (fun a2 => pI h1 a2 7 3 p1 (fun h2 => kcallV 10 p0 h2 (f_X9_joinAllAgain p0 h2) (fun _ h3 => kret x2 h3)))))))
def f_X9_requireClass (p0 : Int32) (h : KH) : KO Unit := kbind (f_X9_isWithin p0 0 3 h) (fun x1 h1 => kif (x1 = 0) (kthrow 1 h1) (kret () h1))
def f_X9_setRate (p0 : Nat) (p1 : Int32) (p2 : Int32) (h : KH) : KO Int32 := kbind (f_X9_requireClass p1 h) (fun _ h1 => kbind (f_X9_isWithin p2 0 50 h1) (fun x1 h2 => kif (x1 = 0) (kthrow 1 h2) (gN h2 p0 10 1 (fun a1 => gAI h2 a1 21 p1 (fun x2 => gN h2 p0 10 1 (fun a2 => pAI h2 a2 21 p1 p2 (fun h3 => kret x2 h3)))))))
def f_X9_requireSign (p0 : Int32) (h : KH) : KO Unit := kbind (f_X9_isWithin p0 0 14 h) (fun x1 h1 => kif (x1 = 0) (kthrow 3 h1) (kret () h1))
def f_X9_requireRoomForSign (p0 : Nat) (h : KH) : KO Unit := gN h p0 10 2 (fun a1 => gI h a1 8 1 (fun x1 => kif (x1 < 6) (kret () h) (kthrow 2 h)))
def X7_put_b5 (rc5 : Nat → Int32 → Int32 → Int32 → KH → KO Unit) (v0 : Nat) (v1 : Int32) (v2 : Int32) (v3 : Int32) (h : KH) : KO Unit := kif (v3 ≤ v2) (gN h v0 8 0 (fun a1 => pAI h a1 21 v2 v1 (fun h1 => gI h1 v0 8 1 (fun x1 => pI h1 v0 8 1 (x1 + 1) (fun h2 => kret () h2))))) (gN h v0 8 0 (fun a2 => gN h v0 8 0 (fun a3 => gAI h a3 21 (v3 - 1) (fun x2 => pAI h a2 21 v3 x2 (fun h3 => rc5 v0 v1 v2 (v3 + (-1)) h3)))))
def X7_put_L5  : Nat → Nat → Int32 → Int32 → Int32 → KH → KO Unit
  | 0, _, _, _, _, _ => none
  | n + 1, v0, v1, v2, v3, h => X7_put_b5 (X7_put_L5  n) v0 v1 v2 v3 h
def f_X7_put (p0 : Nat) (p1 : Int32) (p2 : Int32) (h : KH) : KO Unit := gI h p0 8 1 (fun x1 => X7_put_L5  kF p0 p1 p2 x1 h)
def X7_isPair_b17  (s0 : Int32) (h : KH) : KO Int32 := kretZ s0 h
def X7_isPair_b16   (h : KH) : KO Int32 := X7_isPair_b17  0 h
def f_X7_isPair (p0 : Int32) (h : KH) : KO Int32 := kif (p0 < 10) (X7_isPair_b16   h) (kif (14 ≤ p0) (X7_isPair_b16   h) (X7_isPair_b17  1 h))
def X7_charsOf_b12  (s0 : Int32) (h : KH) : KO Int32 := kret s0 h
def f_X7_charsOf (p0 : Int32) (h : KH) : KO Int32 := kbind (f_X7_isPair p0 h) (fun x1 h1 => kif (x1 = 0) (X7_charsOf_b12  1 h1) (X7_charsOf_b12  2 h1))
def X7_charCount_b4 (rc4 : Nat → Int32 → Int32 → KH → KO Int32) (v0 : Nat) (v1 : Int32) (v2 : Int32) (h : KH) : KO Int32 := gI h v0 8 1 (fun x1 => kif (x1 ≤ v2) (kret v1 h) (gN h v0 8 0 (fun a1 => gAI h a1 21 v2 (fun x2 => kbind (f_X7_charsOf x2 h) (fun x3 h1 => rc4 v0 (v1 + x3) (v2 + 1) h1)))))
def X7_charCount_L4  : Nat → Nat → Int32 → Int32 → KH → KO Int32
  | 0, _, _, _, _ => none
  | n + 1, v0, v1, v2, h => X7_charCount_b4 (X7_charCount_L4  n) v0 v1 v2 h
def f_X7_charCount (p0 : Nat) (h : KH) : KO Int32 := X7_charCount_L4  kF p0 0 0 h
def f_X9_spell (p0 : Nat) (p1 : Int32) (h : KH) : KO Int32 := kbind (f_X9_requireSign p1 h) (fun _ h1 => kcallV 10 p0 h1 (f_X9_requireRoomForSign p0 h1) (fun _ h2 => gN h2 p0 10 2 (fun a1 => gN h2 p0 10 2 (fun a2 => gI h2 a2 8 1 (fun x1 => kcallV 8 a1 h2 (f_X7_put a1 p1 x1 h2) (fun _ h3 => gN h3 p0 10 2 (fun a3 => kcallV 8 a3 h3 (f_X7_charCount a3 h3) (fun x2 h4 => kret x2 h4))))))))
def f_X9_insert (p0 : Nat) (p1 : Int32) (p2 : Int32) (h : KH) : KO Int32 := kbind (f_X9_requireSign p1 h) (fun _ h1 => gN h1 p0 10 2 (fun a1 => gI h1 a1 8 1 (fun x1 => kbind (f_X9_isWithin p2 0 (x1 - 1) h1) (fun x2 h2 => kif (x2 = 0) (kthrow 1 h2) (kcallV 10 p0 h2 (f_X9_requireRoomForSign p0 h2) (fun _ h3 => gN h3 p0 10 2 (fun a2 => kcallV 8 a2 h3 (f_X7_put a2 p1 p2 h3) (fun _ h4 => gN h4 p0 10 2 (fun a3 => kcallV 8 a3 h4 (f_X7_charCount a3 h4) (fun x3 h5 => kret x3 h5))))))))))
def X7_turnRound_b9 (rc9 : Nat → Int32 → Int32 → KH → KO Unit) (v0 : Nat) (v1 : Int32) (v2 : Int32) (h : KH) : KO Unit := kif (v1 ≤ v2) (kret () h) (gN h v0 8 0 (fun a1 => gAI h a1 21 v2 (fun x1 => gN h v0 8 0 (fun a2 => gN h v0 8 0 (fun a3 => gAI h a3 21 v1 (fun x2 => pAI h a2 21 v2 x2 (fun h1 => gN h1 v0 8 0 (fun a4 => pAI h1 a4 21 v1 x1 (fun h2 => rc9 v0 (v1 + (-1)) (v2 + 1) h2)))))))))
def X7_turnRound_L9  : Nat → Nat → Int32 → Int32 → KH → KO Unit
  | 0, _, _, _, _ => none
  | n + 1, v0, v1, v2, h => X7_turnRound_b9 (X7_turnRound_L9  n) v0 v1 v2 h
def f_X7_turnRound (p0 : Nat) (h : KH) : KO Unit := gI h p0 8 1 (fun x1 => X7_turnRound_L9  kF p0 (x1 - 1) 0 h)
def f_X9_mirror (p0 : Nat) (h : KH) : KO Int32 := gN h p0 10 2 (fun a1 => kcallV 8 a1 h (f_X7_turnRound a1 h) (fun _ h1 => gN h1 p0 10 2 (fun a2 => gI h1 a2 8 1 (fun x1 => kret x1 h1))))
def f_X9_clearSpelled (p0 : Nat) (h : KH) : KO Int32 := gN h p0 10 2 (fun a1 => gI h a1 8 1 (fun x1 => gN h p0 10 2 (fun a2 => pI h a2 8 1 0 (fun h1 => kret x1 h1))))
def X7_charNumberOf_b37  (s0 : Int32) (h : KH) : KO Int32 := kret s0 h
def f_X7_charNumberOf (p0 : Int32) (p1 : Int32) (h : KH) : KO Int32 := kif (p0 = 14) (kret 63 h) (kbind (f_X7_isPair p0 h) (fun x1 h1 => kif (x1 = 0) (kret (65 + p0) h1) (kif (p1 = 0) (X7_charNumberOf_b37  55357 h1) (X7_charNumberOf_b37  ((56976 + p0) - 10) h1))))
def X7_charNumberAt_b57   (h : KH) : KO Int32 := kret ((-1)) h
def X7_charNumberAt_b4 (rc4 : Nat → Int32 → Int32 → Int32 → KH → KO Int32) (v0 : Nat) (v1 : Int32) (v2 : Int32) (v3 : Int32) (h : KH) : KO Int32 := gI h v0 8 1 (fun x1 => kif (x1 ≤ v3) (X7_charNumberAt_b57   h) (kif (v1 < v2) (X7_charNumberAt_b57   h) (gN h v0 8 0 (fun a1 => gAI h a1 21 v3 (fun x2 => kbind (f_X7_charsOf x2 h) (fun x3 h1 => kif ((v2 + x3) ≤ v1) (rc4 v0 v1 (v2 + x3) (v3 + 1) h1) (gN h1 v0 8 0 (fun a2 => gAI h1 a2 21 v3 (fun x4 => kbind (f_X7_charNumberOf x4 (v1 - v2) h1) (fun x5 h2 => kret x5 h2))))))))))
def X7_charNumberAt_L4  : Nat → Nat → Int32 → Int32 → Int32 → KH → KO Int32
  | 0, _, _, _, _, _ => none
  | n + 1, v0, v1, v2, v3, h => X7_charNumberAt_b4 (X7_charNumberAt_L4  n) v0 v1 v2 v3 h
def f_X7_charNumberAt (p0 : Nat) (p1 : Int32) (h : KH) : KO Int32 := X7_charNumberAt_L4  kF p0 p1 0 0 h
def f_X9_charAt (p0 : Nat) (p1 : Int32) (h : KH) : KO Int32 := gN h p0 10 2 (fun a1 => kcallV 8 a1 h (f_X7_charNumberAt a1 p1 h) (fun x1 h1 => kif (x1 = ((-1))) (kthrow 4 h1) (kretC ((x1.toUInt32 % 65536).toInt32) h1)))
def f_X2_turn (p0 : Nat) (p1 : Int32) (p2 : Int32) (h : KH) : KO Unit := gN h p0 3 0 (fun a1 => gAI h a1 21 p1 (fun x1 => pAI h a1 21 p1 (x1 ^^^ (1 <<< (p2 &&& 31))) (fun h1 => gN h1 p0 3 0 (fun a2 => gAI h1 a2 21 p2 (fun x2 => pAI h1 a2 21 p2 (x2 ^^^ (1 <<< (p1 &&& 31))) (fun h2 => kret () h2))))))
def X2_holds_b19  (s0 : Int32) (h : KH) : KO Int32 := kretZ s0 h
def f_X2_holds (p0 : Nat) (p1 : Int32) (p2 : Int32) (h : KH) : KO Int32 := gN h p0 3 0 (fun a1 => gAI h a1 21 p1 (fun x1 => kif (((x1 >>> (p2 &&& 31)) &&& 1) = 1) (X2_holds_b19  1 h) (X2_holds_b19  0 h)))
def X2_costOfSign_b29  (s0 : Int32) (h : KH) : KO Int32 := kret s0 h
def f_X2_costOfSign (p0 : Nat) (p1 : Int32) (p2 : Int32) (h : KH) : KO Int32 := kif (p1 = p2) (kret 0 h) (kif (p1 = 14) (kret 2 h) (kcallV 3 p0 h (f_X2_holds p0 p1 p2 h) (fun x1 h1 => kif (x1 = 0) (X2_costOfSign_b29  ((-1)) h1) (X2_costOfSign_b29  1 h1))))
def X2_costOf_b18 (rc18 : Nat → Nat → Nat → Int32 → Int32 → KH → KO Int32) (v0 : Nat) (v1 : Nat) (v2 : Nat) (v3 : Int32) (v4 : Int32) (h : KH) : KO Int32 := gI h v1 8 1 (fun x1 => kif (x1 ≤ v4) (kret v3 h) (gN h v1 8 0 (fun a1 => gAI h a1 21 v4 (fun x2 => gN h v2 8 0 (fun a2 => gAI h a2 21 v4 (fun x3 => kcallV 3 v0 h (f_X2_costOfSign v0 x2 x3 h) (fun x4 h1 => kif (x4 = ((-1))) (kret ((-1)) h1) (rc18 v0 v1 v2 (v3 + x4) (v4 + 1) h1))))))))
def X2_costOf_L18  : Nat → Nat → Nat → Nat → Int32 → Int32 → KH → KO Int32
  | 0, _, _, _, _, _, _ => none
  | n + 1, v0, v1, v2, v3, v4, h => X2_costOf_b18 (X2_costOf_L18  n) v0 v1 v2 v3 v4 h
def f_X2_costOf (p0 : Nat) (p1 : Nat) (p2 : Nat) (h : KH) : KO Int32 := gI h p1 8 1 (fun x1 => gI h p2 8 1 (fun x2 => kif (x1 = x2) (X2_costOf_L18  kF p0 p1 p2 0 0 h) (kret ((-1)) h)))
def X9_plateByText_b65 (rc7 : Nat → Nat → Option Nat → Int32 → Int32 → KH → KO (Option Nat)) (v0 : Nat) (v1 : Nat) (v2 : Option Nat) (v3 : Int32) (v4 : Int32) (h : KH) : KO (Option Nat) := rc7 v0 v1 v2 v3 (v4 + 1) h
def X9_plateByText_b59 (rc7 : Nat → Nat → Option Nat → Int32 → Int32 → KH → KO (Option Nat)) (v0 : Nat) (v1 : Nat) (v4 : Int32) (v5 : Nat) (v6 : Int32) (h : KH) : KO (Option Nat) := X9_plateByText_b65 rc7 v0 v1 (some v5) v6 v4 h
def X9_plateByText_b7 (rc7 : Nat → Nat → Option Nat → Int32 → Int32 → KH → KO (Option Nat)) (v0 : Nat) (v1 : Nat) (v2 : Option Nat) (v3 : Int32) (v4 : Int32) (h : KH) : KO (Option Nat) := gI h v0 10 13 (fun x1 => kif (x1 ≤ v4) (kret v2 h) (gN h v0 10 5 (fun a1 => gAN h a1 25 v4 (fun a2 => gN h v0 10 3 (fun a3 => gN h v1 6 3 (fun a4 => gN h a2 5 1 (fun a5 => kcallV 3 a3 h (f_X2_costOf a3 a4 a5 h) (fun x2 h1 => kif (x2 = ((-1))) (X9_plateByText_b65 rc7 v0 v1 v2 v3 v4 h1) (knul v2 (X9_plateByText_b59 rc7 v0 v1 v4 a2 x2 h1) (fun a6 => kif (v3 ≤ x2) (X9_plateByText_b65 rc7 v0 v1 (some a6) v3 v4 h1) (X9_plateByText_b59 rc7 v0 v1 v4 a2 x2 h1)))))))))))
def X9_plateByText_L7  : Nat → Nat → Nat → Option Nat → Int32 → Int32 → KH → KO (Option Nat)
  | 0, _, _, _, _, _, _ => none
  | n + 1, v0, v1, v2, v3, v4, h => X9_plateByText_b7 (X9_plateByText_L7  n) v0 v1 v2 v3 v4 h
def f_X9_plateByText (p0 : Nat) (p1 : Nat) (h : KH) : KO (Option Nat) := X9_plateByText_L7  kF p0 p1 none 0 0 h
def X9_numberOf_b12  (s0 : Int32) (h : KH) : KO Int32 := kret s0 h
def f_X9_numberOf (p0 : Option Nat) (h : KH) : KO Int32 := knul p0 (X9_numberOf_b12  ((-1)) h) (fun a1 => gI h a1 5 0 (fun x1 => X9_numberOf_b12  x1 h))
def X3_placeOf_b2 (rc2 : Nat → Nat → Int32 → KH → KO Int32) (v0 : Nat) (v1 : Nat) (v2 : Int32) (h : KH) : KO Int32 := gI h v0 4 2 (fun x1 => kif (x1 ≤ v2) (kret ((-1)) h) (gN h v0 4 0 (fun a1 => gAN h a1 26 v2 (fun a2 => gI h a2 6 0 (fun x2 => gI h v1 6 0 (fun x3 => kif (x2 = x3) (kret v2 h) (rc2 v0 v1 (v2 + 1) h)))))))
def X3_placeOf_L2  : Nat → Nat → Nat → Int32 → KH → KO Int32
  | 0, _, _, _, _ => none
  | n + 1, v0, v1, v2, h => X3_placeOf_b2 (X3_placeOf_L2  n) v0 v1 v2 h
def f_X3_placeOf (p0 : Nat) (p1 : Nat) (h : KH) : KO Int32 := X3_placeOf_L2  kF p0 p1 0 h
def X3_take_b25 (rc25 : Nat → Nat → Int32 → Int32 → KH → KO Unit) (v0 : Nat) (v2 : Nat) (v3 : Int32) (v4 : Int32) (h : KH) : KO Unit := gI h v0 4 2 (fun x1 => kif (x1 ≤ v4) (kcallV 4 v0 h (f_X3_seeBeginning v0 v3 v2 h) (fun _ h1 => kret () h1)) (gN h v0 4 0 (fun a1 => gN h v0 4 0 (fun a2 => gAN h a2 26 (v4 + 1) (fun a3 => pAN h a1 26 6 v4 a3 (fun h2 => gN h2 v0 4 1 (fun a4 => gN h2 v0 4 1 (fun a5 => gAI h2 a5 23 (v4 + 1) (fun x2 => pAZ h2 a4 23 v4 x2 (fun h3 => rc25 v0 v2 v3 (v4 + 1) h3))))))))))
def X3_take_L25  : Nat → Nat → Nat → Int32 → Int32 → KH → KO Unit
  | 0, _, _, _, _, _ => none
  | n + 1, v0, v2, v3, v4, h => X3_take_b25 (X3_take_L25  n) v0 v2 v3 v4 h
def f_X3_take (p0 : Nat) (p1 : Nat) (p2 : Nat) (h : KH) : KO Unit := kcallV 4 p0 h (f_X3_placeOf p0 p1 h) (fun x1 h1 => kif (x1 = ((-1))) (kret () h1) (gI h1 p0 4 2 (fun x2 => pI h1 p0 4 2 (x2 - 1) (fun h2 => X3_take_L25  kF p0 p2 x1 x1 h2))))
def X5_isAheadOf_b38  (s0 : Int32) (h : KH) : KO Int32 := kretZ s0 h
def X5_isAheadOf_b37   (h : KH) : KO Int32 := X5_isAheadOf_b38  0 h
def X5_isAheadOf_b33   (h : KH) : KO Int32 := X5_isAheadOf_b38  1 h
def f_X5_isAheadOf (p0 : Nat) (p1 : Nat) (h : KH) : KO Int32 := gI h p0 6 2 (fun x1 => gI h p1 6 2 (fun x2 => kif (x1 < x2) (X5_isAheadOf_b33   h) (gI h p0 6 2 (fun x3 => gI h p1 6 2 (fun x4 => kif (x3 = x4) (gI h p0 6 0 (fun x5 => gI h p1 6 0 (fun x6 => kif (x6 ≤ x5) (X5_isAheadOf_b37   h) (X5_isAheadOf_b33   h)))) (X5_isAheadOf_b37   h))))))
def X3_insertInOrder_b58  (v0 : Nat) (v1 : Nat) (v2 : Int32) (h : KH) : KO Int32 := gN h v0 4 0 (fun a1 => pAN h a1 26 6 v2 v1 (fun h1 => gI h1 v0 4 2 (fun x1 => pI h1 v0 4 2 (x1 + 1) (fun h2 => kret v2 h2))))
def X3_insertInOrder_b5 (rc5 : Nat → Nat → Int32 → KH → KO Int32) (v0 : Nat) (v1 : Nat) (v2 : Int32) (h : KH) : KO Int32 := kif (v2 ≤ 0) (X3_insertInOrder_b58  v0 v1 v2 h) (gN h v0 4 0 (fun a1 => gAN h a1 26 (v2 - 1) (fun a2 => kcallV 6 v1 h (f_X5_isAheadOf v1 a2 h) (fun x1 h1 => kif (x1 = 0) (X3_insertInOrder_b58  v0 v1 v2 h1) (gN h1 v0 4 0 (fun a3 => gN h1 v0 4 0 (fun a4 => gAN h1 a4 26 (v2 - 1) (fun a5 => pAN h1 a3 26 6 v2 a5 (fun h2 => gN h2 v0 4 1 (fun a6 => gN h2 v0 4 1 (fun a7 => gAI h2 a7 23 (v2 - 1) (fun x2 => pAZ h2 a6 23 v2 x2 (fun h3 => rc5 v0 v1 (v2 + (-1)) h3)))))))))))))
def X3_insertInOrder_L5  : Nat → Nat → Nat → Int32 → KH → KO Int32
  | 0, _, _, _, _ => none
  | n + 1, v0, v1, v2, h => X3_insertInOrder_b5 (X3_insertInOrder_L5  n) v0 v1 v2 h
def f_X3_insertInOrder (p0 : Nat) (p1 : Nat) (h : KH) : KO Int32 := gI h p0 4 2 (fun x1 => X3_insertInOrder_L5  kF p0 p1 x1 h)
def f_X3_put (p0 : Nat) (p1 : Nat) (p2 : Nat) (h : KH) : KO Unit := kcallV 4 p0 h (f_X3_insertInOrder p0 p1 h) (fun x1 h1 => kcallV 4 p0 h1 (f_X3_seeBeginning p0 x1 p2 h1) (fun _ h2 => kcallV 4 p0 h2 (f_X3_seeBeginning p0 (x1 + 1) p2 h2) (fun _ h3 => kret () h3)))
def X9_move_b58   (h : KH) : KO Unit := kret () h
def X9_move_b37  (v0 : Nat) (v1 : Nat) (v2 : Option Nat) (h : KH) : KO Unit := pR h v1 6 5 v2 (fun h1 => knul v2 (X9_move_b58   h1) (fun a1 => gN h1 a1 5 3 (fun a2 => gN h1 v0 10 0 (fun a3 => kcallV 4 a2 h1 (f_X3_put a2 v1 a3 h1) (fun _ h2 => X9_move_b58   h2)))))
def f_X9_move (p0 : Nat) (p1 : Nat) (p2 : Option Nat) (h : KH) : KO Unit := gR h p1 6 5 (fun o1 => kbind (f_X9_numberOf o1 h) (fun x1 h1 => kbind (f_X9_numberOf p2 h1) (fun x2 h2 => kif (x1 = x2) (kret () h2) (gR h2 p1 6 5 (fun o2 => knul o2 (X9_move_b37  p0 p1 p2 h2) (fun a1 => gR h2 p1 6 5 (fun o3 => kmay o3 (fun a2 => gN h2 a2 5 3 (fun a3 => gN h2 p0 10 0 (fun a4 => kcallV 4 a3 h2 (f_X3_take a3 p1 a4 h2) (fun _ h3 => X9_move_b37  p0 p1 p2 h3)))))))))))
def X9_leadAllBack_b34 (rc2 : Nat → Int32 → KH → KO Unit) (v0 : Nat) (v1 : Int32) (h : KH) : KO Unit := rc2 v0 (v1 + 1) h
def X9_leadAllBack_b2 (rc2 : Nat → Int32 → KH → KO Unit) (v0 : Nat) (v1 : Int32) (h : KH) : KO Unit := gI h v0 10 14 (fun x1 => kif (x1 ≤ v1) (kret () h) (gN h v0 10 6 (fun a1 => gAN h a1 26 v1 (fun a2 => gI h a2 6 4 (fun x2 => kif (x2 = 0) (kcallV 10 v0 h (f_X9_plateByText v0 a2 h) (fun o1 h1 => kcallV 10 v0 h1 (f_X9_move v0 a2 o1 h1) (fun _ h2 => X9_leadAllBack_b34 rc2 v0 v1 h2))) (X9_leadAllBack_b34 rc2 v0 v1 h))))))
def X9_leadAllBack_L2  : Nat → Nat → Int32 → KH → KO Unit
  | 0, _, _, _ => none
  | n + 1, v0, v1, h => X9_leadAllBack_b2 (X9_leadAllBack_L2  n) v0 v1 h
def f_X9_leadAllBack (p0 : Nat) (h : KH) : KO Unit := X9_leadAllBack_L2  kF p0 0 h
def X9_alike_b25   (h : KH) : KO Int32 := kthrow 1 h
def f_X9_alike (p0 : Nat) (p1 : Int32) (p2 : Int32) (h : KH) : KO Int32 := kbind (f_X9_requireSign p1 h) (fun _ h1 => kbind (f_X9_requireSign p2 h1) (fun _ h2 => kif (p1 = p2) (X9_alike_b25   h2) (kif (p1 = 14) (X9_alike_b25   h2) (kif (p2 = 14) (X9_alike_b25   h2) (gN h2 p0 10 3 (fun a1 => kcallV 3 a1 h2 (f_X2_turn a1 p1 p2 h2) (fun _ h3 => kcallV 10 p0 h3 (f_X9_leadAllBack p0 h3) (fun _ h4 => gN h4 p0 10 3 (fun a2 => kcallV 3 a2 h4 (f_X2_holds a2 p1 p2 h4) (fun x1 h5 => kretZ x1 h5))))))))))
def f_X9_requireDriver (p0 : Int32) (h : KH) : KO Unit := kbind (f_X9_isWithin p0 0 5 h) (fun x1 h1 => kif (x1 = 0) (kthrow 3 h1) (kret () h1))
def X7_hasQuestionMark_b2 (rc2 : Nat → Int32 → KH → KO Int32) (v0 : Nat) (v1 : Int32) (h : KH) : KO Int32 := gI h v0 8 1 (fun x1 => kif (x1 ≤ v1) (kretZ 0 h) (gN h v0 8 0 (fun a1 => gAI h a1 21 v1 (fun x2 => kif (x2 = 14) (kretZ 1 h) (rc2 v0 (v1 + 1) h)))))
def X7_hasQuestionMark_L2  : Nat → Nat → Int32 → KH → KO Int32
  | 0, _, _, _ => none
  | n + 1, v0, v1, h => X7_hasQuestionMark_b2 (X7_hasQuestionMark_L2  n) v0 v1 h
def f_X7_hasQuestionMark (p0 : Nat) (h : KH) : KO Int32 := X7_hasQuestionMark_L2  kF p0 0 h
def X7_equalsText_b15 (rc15 : Nat → Nat → Int32 → KH → KO Int32) (v0 : Nat) (v1 : Nat) (v2 : Int32) (h : KH) : KO Int32 := gI h v0 8 1 (fun x1 => kif (x1 ≤ v2) (kretZ 1 h) (gN h v0 8 0 (fun a1 => gAI h a1 21 v2 (fun x2 => gN h v1 8 0 (fun a2 => gAI h a2 21 v2 (fun x3 => kif (x2 = x3) (rc15 v0 v1 (v2 + 1) h) (kretZ 0 h)))))))
def X7_equalsText_L15  : Nat → Nat → Nat → Int32 → KH → KO Int32
  | 0, _, _, _, _ => none
  | n + 1, v0, v1, v2, h => X7_equalsText_b15 (X7_equalsText_L15  n) v0 v1 v2 h
def f_X7_equalsText (p0 : Nat) (p1 : Nat) (h : KH) : KO Int32 := gI h p0 8 1 (fun x1 => gI h p1 8 1 (fun x2 => kif (x1 = x2) (X7_equalsText_L15  kF p0 p1 0 h) (kretZ 0 h)))
def X9_isTaken_b2 (rc2 : Nat → Nat → Int32 → KH → KO Int32) (v0 : Nat) (v1 : Nat) (v2 : Int32) (h : KH) : KO Int32 := gI h v0 10 13 (fun x1 => kif (x1 ≤ v2) (kretZ 0 h) (gN h v0 10 4 (fun a1 => gAN h a1 25 v2 (fun a2 => gN h a2 5 1 (fun a3 => kcallV 8 a3 h (f_X7_equalsText a3 v1 h) (fun x2 h1 => kif (x2 = 0) (rc2 v0 v1 (v2 + 1) h1) (kretZ 1 h1)))))))
def X9_isTaken_L2  : Nat → Nat → Nat → Int32 → KH → KO Int32
  | 0, _, _, _, _ => none
  | n + 1, v0, v1, v2, h => X9_isTaken_b2 (X9_isTaken_L2  n) v0 v1 v2 h
def f_X9_isTaken (p0 : Nat) (p1 : Nat) (h : KH) : KO Int32 := X9_isTaken_L2  kF p0 p1 0 h
def X7_copy_b10 (rc10 : Nat → Nat → Int32 → KH → KO Nat) (v0 : Nat) (v1 : Nat) (v2 : Int32) (h : KH) : KO Nat := gI h v0 8 1 (fun x1 => kif (x1 ≤ v2) (gI h v0 8 1 (fun x2 => pI h v1 8 1 x2 (fun h1 => kret v1 h1))) (gN h v1 8 0 (fun a1 => gN h v0 8 0 (fun a2 => gAI h a2 21 v2 (fun x3 => pAI h a1 21 v2 x3 (fun h2 => rc10 v0 v1 (v2 + 1) h2))))))
def X7_copy_L10  : Nat → Nat → Nat → Int32 → KH → KO Nat
  | 0, _, _, _, _ => none
  | n + 1, v0, v1, v2, h => X7_copy_b10 (X7_copy_L10  n) v0 v1 v2 h
def f_X7_copy (p0 : Nat) (h : KH) : KO Nat := nw h 8 0 (fun a1 h1 => kbinI (f_X7_init a1 h1) (fun _ h2 => X7_copy_L10  kF p0 a1 0 h2))
def f_X1_init (p0 : Nat) (p1 : Int32) (p2 : Int32) (p3 : Option Nat) (h : KH) : KO Unit := pI h p0 2 0 p1 (fun h1 => pI h1 p0 2 1 p2 (fun h2 => pR h2 p0 2 2 p3 (fun h3 => kret () h3)))
def f_X4_init (p0 : Nat) (p1 : Int32) (p2 : Nat) (p3 : Int32) (p4 : Nat) (h : KH) : KO Unit := nw h 4 0 (fun a1 h1 => kbinI (f_X3_init a1 h1) (fun _ h2 => pR h2 p0 5 3 (some a1) (fun h3 => pI h3 p0 5 0 p1 (fun h4 => pR h4 p0 5 1 (some p2) (fun h5 => pI h5 p0 5 2 p3 (fun h6 => pR h6 p0 5 4 (some p4) (fun h7 => kret () h7)))))))
def X7_comesBefore_b87  (s0 : Int32) (h : KH) : KO Int32 := kretZ s0 h
def X7_comesBefore_b64  (s0 : Int32) (h : KH) : KO Int32 := kretZ s0 h
def X7_comesBefore_b14 (rc14 : Nat → Nat → Int32 → Int32 → KH → KO Int32) (v0 : Nat) (v1 : Nat) (v2 : Int32) (v3 : Int32) (h : KH) : KO Int32 := kif (v2 < v3) (gI h v0 8 1 (fun x1 => gI h v1 8 1 (fun x2 => kif (x2 ≤ x1) (X7_comesBefore_b87  0 h) (X7_comesBefore_b87  1 h)))) (gN h v0 8 0 (fun a1 => gI h v0 8 1 (fun x3 => gAI h a1 21 (x3 - v3) (fun x4 => gN h v1 8 0 (fun a2 => gI h v1 8 1 (fun x5 => gAI h a2 21 (x5 - v3) (fun x6 => kif (x4 = x6) (rc14 v0 v1 v2 (v3 + 1) h) (kif (x6 ≤ x4) (X7_comesBefore_b64  0 h) (X7_comesBefore_b64  1 h)))))))))
def X7_comesBefore_L14  : Nat → Nat → Nat → Int32 → Int32 → KH → KO Int32
  | 0, _, _, _, _, _ => none
  | n + 1, v0, v1, v2, v3, h => X7_comesBefore_b14 (X7_comesBefore_L14  n) v0 v1 v2 v3 h
def f_X7_comesBefore (p0 : Nat) (p1 : Nat) (h : KH) : KO Int32 := gI h p0 8 1 (fun x1 => gI h p1 8 1 (fun x2 => X7_comesBefore_L14  kF p0 p1 (if x2 < x1 then x2 else x1) 1 h))
def X9_putInOrder_b50  (v0 : Nat) (v1 : Nat) (v2 : Int32) (h : KH) : KO Unit := gN h v0 10 5 (fun a1 => pAN h a1 25 5 v2 v1 (fun h1 => kret () h1))
def X9_putInOrder_b5 (rc5 : Nat → Nat → Int32 → KH → KO Unit) (v0 : Nat) (v1 : Nat) (v2 : Int32) (h : KH) : KO Unit := kif (v2 ≤ 0) (X9_putInOrder_b50  v0 v1 v2 h) (gN h v1 5 1 (fun a1 => gN h v0 10 5 (fun a2 => gAN h a2 25 (v2 - 1) (fun a3 => gN h a3 5 1 (fun a4 => kcallV 8 a1 h (f_X7_comesBefore a1 a4 h) (fun x1 h1 => kif (x1 = 0) (X9_putInOrder_b50  v0 v1 v2 h1) (gN h1 v0 10 5 (fun a5 => gN h1 v0 10 5 (fun a6 => gAN h1 a6 25 (v2 - 1) (fun a7 => pAN h1 a5 25 5 v2 a7 (fun h2 => rc5 v0 v1 (v2 + (-1)) h2)))))))))))
def X9_putInOrder_L5  : Nat → Nat → Nat → Int32 → KH → KO Unit
  | 0, _, _, _, _ => none
  | n + 1, v0, v1, v2, h => X9_putInOrder_b5 (X9_putInOrder_L5  n) v0 v1 v2 h
def f_X9_putInOrder (p0 : Nat) (p1 : Nat) (h : KH) : KO Unit := gI h p0 10 13 (fun x1 => X9_putInOrder_L5  kF p0 p1 x1 h)
def X9_register_b48   (h : KH) : KO Int32 := kthrow 2 h
def f_X9_register (p0 : Nat) (p1 : Int32) (p2 : Int32) (h : KH) : KO Int32 := kbind (f_X9_requireDriver p1 h) (fun _ h1 => kbind (f_X9_requireClass p2 h1) (fun _ h2 => gN h2 p0 10 2 (fun a1 => gI h2 a1 8 1 (fun x1 => kif (x1 = 0) (X9_register_b48   h2) (gN h2 p0 10 2 (fun a2 => kcallV 8 a2 h2 (f_X7_hasQuestionMark a2 h2) (fun x2 h3 => kif (x2 = 0) (gN h3 p0 10 2 (fun a3 => kcallV 10 p0 h3 (f_X9_isTaken p0 a3 h3) (fun x3 h4 => kif (x3 = 0) (gI h4 p0 10 13 (fun x4 => kif (x4 < 10) (nw h4 5 0 (fun a4 h5 => gI h5 p0 10 13 (fun x5 => gN h5 p0 10 2 (fun a5 => kcallV 8 a5 h5 (f_X7_copy a5 h5) (fun a6 h6 => nw h6 2 0 (fun a7 h7 => gI h7 p0 10 12 (fun x6 => kbinI (f_X1_init a7 p1 x6 none h7) (fun _ h8 => kbinI (f_X4_init a4 x5 a6 p2 a7 h8) (fun _ h9 => gN h9 p0 10 4 (fun a8 => gI h9 p0 10 13 (fun x7 => pAN h9 a8 25 5 x7 a4 (fun h10 => kcallV 10 p0 h10 (f_X9_putInOrder p0 a4 h10) (fun _ h11 => gI h11 p0 10 13 (fun x8 => pI h11 p0 10 13 (x8 + 1) (fun h12 => kcallV 10 p0 h12 (f_X9_leadAllBack p0 h12) (fun _ h13 => gI h13 a4 5 0 (fun x9 => kret x9 h13))))))))))))))))) (X9_register_b48   h4))) (X9_register_b48   h4)))) (X9_register_b48   h3))))))))
def f_X9_plateNumbered (p0 : Nat) (p1 : Int32) (h : KH) : KO Nat := gI h p0 10 13 (fun x1 => kbind (f_X9_isWithin p1 0 (x1 - 1) h) (fun x2 h1 => kif (x2 = 0) (kthrow 3 h1) (gN h1 p0 10 4 (fun a1 => gAN h1 a1 25 p1 (fun a2 => kret a2 h1)))))
def X4_sellTo_b25  (v0 : Nat) (v1 : Int32) (v2 : Int32) (s0 : Option Nat) (h : KH) : KO Unit := nw h 2 0 (fun a1 h1 => kbinI (f_X1_init a1 v1 v2 s0 h1) (fun _ h2 => pR h2 v0 5 4 (some a1) (fun h3 => kret () h3)))
def f_X4_sellTo (p0 : Nat) (p1 : Int32) (p2 : Int32) (h : KH) : KO Unit := gR h p0 5 4 (fun o1 => kmay o1 (fun a1 => gI h a1 2 1 (fun x1 => kif (x1 = p2) (gR h p0 5 4 (fun o3 => kmay o3 (fun a2 => gR h a2 2 2 (fun o4 => X4_sellTo_b25  p0 p1 p2 o4 h)))) (gR h p0 5 4 (fun o2 => X4_sellTo_b25  p0 p1 p2 o2 h)))))
def f_X9_sell (p0 : Nat) (p1 : Int32) (p2 : Int32) (h : KH) : KO Int32 := kcallV 10 p0 h (f_X9_plateNumbered p0 p1 h) (fun a1 h1 => kbind (f_X9_requireDriver p2 h1) (fun _ h2 => gR h2 a1 5 4 (fun o1 => kmay o1 (fun a2 => gI h2 a2 2 0 (fun x1 => gI h2 p0 10 12 (fun x2 => kcallV 5 a1 h2 (f_X4_sellTo a1 p2 x2 h2) (fun _ h3 => kret x1 h3)))))))
def f_X9_plates (p0 : Nat) (h : KH) : KO Int32 := gI h p0 10 13 (fun x1 => kret x1 h)
def f_X9_plateAt (p0 : Nat) (p1 : Int32) (h : KH) : KO Int32 := gI h p0 10 13 (fun x1 => kbind (f_X9_isWithin p1 0 (x1 - 1) h) (fun x2 h1 => kif (x2 = 0) (kthrow 4 h1) (gN h1 p0 10 5 (fun a1 => gAN h1 a1 25 p1 (fun a2 => gI h1 a2 5 0 (fun x3 => kret x3 h1))))))
def f_X9_requireMinute (p0 : Nat) (p1 : Int32) (h : KH) : KO Unit := gI h p0 10 12 (fun x1 => kbind (f_X9_isWithin p1 0 x1 h) (fun x2 h1 => kif (x2 = 0) (kthrow 1 h1) (kret () h1)))
def X4_driverIn_b5 (rc5 : Int32 → Option Nat → KH → KO Int32) (v1 : Int32) (v2 : Option Nat) (h : KH) : KO Int32 := knul v2 (kret ((-1)) h) (fun a1 => gI h a1 2 1 (fun x1 => kif (v1 < x1) (gR h a1 2 2 (fun o1 => rc5 v1 o1 h)) (gI h a1 2 0 (fun x2 => kret x2 h))))
def X4_driverIn_L5  : Nat → Int32 → Option Nat → KH → KO Int32
  | 0, _, _, _ => none
  | n + 1, v1, v2, h => X4_driverIn_b5 (X4_driverIn_L5  n) v1 v2 h
def f_X4_driverIn (p0 : Nat) (p1 : Int32) (h : KH) : KO Int32 := gR h p0 5 4 (fun o1 => X4_driverIn_L5  kF p1 o1 h)
def f_X9_holder (p0 : Nat) (p1 : Int32) (p2 : Int32) (h : KH) : KO Int32 := kcallV 10 p0 h (f_X9_plateNumbered p0 p1 h) (fun a1 h1 => kcallV 10 p0 h1 (f_X9_requireMinute p0 p2 h1) (fun _ h2 => kcallV 5 a1 h2 (f_X4_driverIn a1 p2 h2) (fun x1 h3 => kret x1 h3)))
def f_X5_init (p0 : Nat) (p1 : Int32) (p2 : Int32) (p3 : Int32) (p4 : Nat) (h : KH) : KO Unit := pI h p0 6 4 0 (fun h1 => pR h1 p0 6 5 none (fun h2 => pI h2 p0 6 0 p1 (fun h3 => pI h3 p0 6 1 p2 (fun h4 => pI h4 p0 6 2 p3 (fun h5 => pR h5 p0 6 3 (some p4) (fun h6 => kret () h6))))))
def X9_read_b28   (h : KH) : KO Int32 := kthrow 2 h
def f_X9_read (p0 : Nat) (p1 : Int32) (p2 : Int32) (h : KH) : KO Int32 := kbind (f_X9_requireGate p1 h) (fun _ h1 => kcallV 10 p0 h1 (f_X9_requireMinute p0 p2 h1) (fun _ h2 => gN h2 p0 10 2 (fun a1 => gI h2 a1 8 1 (fun x1 => kif (x1 = 0) (X9_read_b28   h2) (gI h2 p0 10 14 (fun x2 => kif (x2 < 60) (nw h2 6 0 (fun a2 h3 => gI h3 p0 10 14 (fun x3 => gN h3 p0 10 2 (fun a3 => kcallV 8 a3 h3 (f_X7_copy a3 h3) (fun a4 h4 => kbinI (f_X5_init a2 x3 p1 p2 a4 h4) (fun _ h5 => gN h5 p0 10 6 (fun a5 => gI h5 p0 10 14 (fun x4 => pAN h5 a5 26 6 x4 a2 (fun h6 => gI h6 p0 10 14 (fun x5 => pI h6 p0 10 14 (x5 + 1) (fun h7 => kcallV 10 p0 h7 (f_X9_plateByText p0 a2 h7) (fun o1 h8 => kcallV 10 p0 h8 (f_X9_move p0 a2 o1 h8) (fun _ h9 => gI h9 a2 6 0 (fun x6 => kret x6 h9)))))))))))))) (X9_read_b28   h2)))))))
def f_X9_readingNumbered (p0 : Nat) (p1 : Int32) (h : KH) : KO Nat := gI h p0 10 14 (fun x1 => kbind (f_X9_isWithin p1 0 (x1 - 1) h) (fun x2 h1 => kif (x2 = 0) (kthrow 3 h1) (gN h1 p0 10 6 (fun a1 => gAN h1 a1 26 p1 (fun a2 => kret a2 h1)))))
def X9_correct_b20  (v0 : Nat) (v3 : Nat) (s0 : Option Nat) (h : KH) : KO Int32 := gR h v3 6 5 (fun o1 => kbind (f_X9_numberOf o1 h) (fun x1 h1 => pI h1 v3 6 4 1 (fun h2 => kcallV 10 v0 h2 (f_X9_move v0 v3 s0 h2) (fun _ h3 => kret x1 h3))))
def f_X9_correct (p0 : Nat) (p1 : Int32) (p2 : Int32) (h : KH) : KO Int32 := kcallV 10 p0 h (f_X9_readingNumbered p0 p1 h) (fun a1 h1 => kif (p2 = ((-1))) (X9_correct_b20  p0 a1 none h1) (kcallV 10 p0 h1 (f_X9_plateNumbered p0 p2 h1) (fun a2 h2 => X9_correct_b20  p0 a1 (some a2) h2)))
def f_X9_uncorrect (p0 : Nat) (p1 : Int32) (h : KH) : KO Int32 := kcallV 10 p0 h (f_X9_readingNumbered p0 p1 h) (fun a1 h1 => gI h1 a1 6 4 (fun x1 => kif (x1 = 0) (kthrow 2 h1) (pI h1 a1 6 4 0 (fun h2 => kcallV 10 p0 h2 (f_X9_plateByText p0 a1 h2) (fun o1 h3 => kcallV 10 p0 h3 (f_X9_move p0 a1 o1 h3) (fun _ h4 => gR h4 a1 6 5 (fun o2 => kbind (f_X9_numberOf o2 h4) (fun x2 h5 => kret x2 h5))))))))
def f_X9_plateOf (p0 : Nat) (p1 : Int32) (h : KH) : KO Int32 := kcallV 10 p0 h (f_X9_readingNumbered p0 p1 h) (fun a1 h1 => gR h1 a1 6 5 (fun o1 => kbind (f_X9_numberOf o1 h1) (fun x1 h2 => kret x1 h2)))
def f_X9_cost (p0 : Nat) (p1 : Int32) (p2 : Int32) (h : KH) : KO Int32 := kcallV 10 p0 h (f_X9_readingNumbered p0 p1 h) (fun a1 h1 => gN h1 p0 10 3 (fun a2 => gN h1 a1 6 3 (fun a3 => kcallV 10 p0 h1 (f_X9_plateNumbered p0 p2 h1) (fun a4 h2 => gN h2 a4 5 1 (fun a5 => kcallV 3 a2 h2 (f_X2_costOf a2 a3 a5 h2) (fun x1 h3 => kret x1 h3))))))
def X3_beginningsAhead_b21 (rc4 : Nat → Int32 → Int32 → Int32 → KH → KO Int32) (v0 : Nat) (v1 : Int32) (v2 : Int32) (v3 : Int32) (h : KH) : KO Int32 := rc4 v0 v1 v2 (v3 + 1) h
def X3_beginningsAhead_b4 (rc4 : Nat → Int32 → Int32 → Int32 → KH → KO Int32) (v0 : Nat) (v1 : Int32) (v2 : Int32) (v3 : Int32) (h : KH) : KO Int32 := kif (v1 ≤ v3) (kret v2 h) (gN h v0 4 1 (fun a1 => gAI h a1 23 v3 (fun x1 => kif (x1 = 0) (X3_beginningsAhead_b21 rc4 v0 v1 v2 v3 h) (X3_beginningsAhead_b21 rc4 v0 v1 (v2 + 1) v3 h))))
def X3_beginningsAhead_L4  : Nat → Nat → Int32 → Int32 → Int32 → KH → KO Int32
  | 0, _, _, _, _, _ => none
  | n + 1, v0, v1, v2, v3, h => X3_beginningsAhead_b4 (X3_beginningsAhead_L4  n) v0 v1 v2 v3 h
def f_X3_beginningsAhead (p0 : Nat) (p1 : Int32) (h : KH) : KO Int32 := X3_beginningsAhead_L4  kF p0 p1 0 0 h
def f_X3_tripCount (p0 : Nat) (h : KH) : KO Int32 := gI h p0 4 2 (fun x1 => kcallV 4 p0 h (f_X3_beginningsAhead p0 x1 h) (fun x2 h1 => kret x2 h1))
def f_X9_trips (p0 : Nat) (p1 : Int32) (h : KH) : KO Int32 := kcallV 10 p0 h (f_X9_plateNumbered p0 p1 h) (fun a1 h1 => gN h1 a1 5 3 (fun a2 => kcallV 4 a2 h1 (f_X3_tripCount a2 h1) (fun x1 h2 => kret x1 h2)))
def X9_joinAnew_b48 (rc10 : Nat → Nat → Int32 → KH → KO Nat) (v0 : Nat) (v1 : Nat) (v2 : Int32) (h : KH) : KO Nat := rc10 v0 v1 (v2 + 1) h
def X9_joinAnew_b10 (rc10 : Nat → Nat → Int32 → KH → KO Nat) (v0 : Nat) (v1 : Nat) (v2 : Int32) (h : KH) : KO Nat := gI h v0 10 14 (fun x1 => kif (x1 ≤ v2) (gN h v0 10 11 (fun a1 => gN h v0 10 0 (fun a2 => kcallV 4 a1 h (f_X3_joinAll a1 a2 h) (fun _ h1 => gN h1 v0 10 11 (fun a3 => kret a3 h1))))) (gN h v0 10 6 (fun a4 => gAN h a4 26 v2 (fun a5 => gR h a5 6 5 (fun o1 => kbind (f_X9_numberOf o1 h) (fun x2 h2 => gI h2 v1 5 0 (fun x3 => kif (x2 = x3) (gN h2 v0 10 11 (fun a6 => kcallV 4 a6 h2 (f_X3_insertInOrder a6 a5 h2) (fun x4 h3 => X9_joinAnew_b48 rc10 v0 v1 v2 h3))) (X9_joinAnew_b48 rc10 v0 v1 v2 h2))))))))
def X9_joinAnew_L10  : Nat → Nat → Nat → Int32 → KH → KO Nat
  | 0, _, _, _, _ => none
  | n + 1, v0, v1, v2, h => X9_joinAnew_b10 (X9_joinAnew_L10  n) v0 v1 v2 h
def f_X9_joinAnew (p0 : Nat) (p1 : Nat) (h : KH) : KO Nat := gN h p0 10 11 (fun a1 => pI h a1 4 2 0 (fun h1 => X9_joinAnew_L10  kF p0 p1 0 h1))
def f_X9_tripsAnew (p0 : Nat) (p1 : Int32) (h : KH) : KO Int32 := kcallV 10 p0 h (f_X9_plateNumbered p0 p1 h) (fun a1 h1 => kcallV 10 p0 h1 (f_X9_joinAnew p0 a1 h1) (fun a2 h2 => kcallV 4 a2 h2 (f_X3_tripCount a2 h2) (fun x1 h3 => kret x1 h3)))
def f_X3_tripWith (p0 : Nat) (p1 : Nat) (h : KH) : KO Int32 := kcallV 4 p0 h (f_X3_placeOf p0 p1 h) (fun x1 h1 => kcallV 4 p0 h1 (f_X3_beginningsAhead p0 (x1 + 1) h1) (fun x2 h2 => kret (x2 - 1) h2))
def X9_tripOf_b28  (s0 : Int32) (h : KH) : KO Int32 := kret s0 h
def f_X9_tripOf (p0 : Nat) (p1 : Int32) (h : KH) : KO Int32 := kcallV 10 p0 h (f_X9_readingNumbered p0 p1 h) (fun a1 h1 => gR h1 a1 6 5 (fun o1 => knul o1 (X9_tripOf_b28  ((-1)) h1) (fun a2 => gR h1 a1 6 5 (fun o2 => kmay o2 (fun a3 => gN h1 a3 5 3 (fun a4 => kcallV 4 a4 h1 (f_X3_tripWith a4 a1 h1) (fun x1 h2 => X9_tripOf_b28  x1 h2)))))))
def X3_beginningOf_b31 (rc4 : Nat → Int32 → Int32 → Int32 → KH → KO Int32) (v0 : Nat) (v1 : Int32) (v2 : Int32) (v3 : Int32) (h : KH) : KO Int32 := rc4 v0 v1 v2 (v3 + 1) h
def X3_beginningOf_b4 (rc4 : Nat → Int32 → Int32 → Int32 → KH → KO Int32) (v0 : Nat) (v1 : Int32) (v2 : Int32) (v3 : Int32) (h : KH) : KO Int32 := gI h v0 4 2 (fun x1 => kif (x1 ≤ v3) (kret ((-1)) h) (gN h v0 4 1 (fun a1 => gAI h a1 23 v3 (fun x2 => kif (x2 = 0) (X3_beginningOf_b31 rc4 v0 v1 v2 v3 h) (kif (v2 = v1) (kret v3 h) (X3_beginningOf_b31 rc4 v0 v1 (v2 + 1) v3 h))))))
def X3_beginningOf_L4  : Nat → Nat → Int32 → Int32 → Int32 → KH → KO Int32
  | 0, _, _, _, _, _ => none
  | n + 1, v0, v1, v2, v3, h => X3_beginningOf_b4 (X3_beginningOf_L4  n) v0 v1 v2 v3 h
def f_X3_beginningOf (p0 : Nat) (p1 : Int32) (h : KH) : KO Int32 := X3_beginningOf_L4  kF p0 p1 0 0 h
def f_X9_requiredBeginning (p0 : Nat) (p1 : Int32) (h : KH) : KO Int32 := gN h p0 5 3 (fun a1 => kcallV 4 a1 h (f_X3_beginningOf a1 p1 h) (fun x1 h1 => kif (x1 = ((-1))) (kthrow 3 h1) (kret x1 h1)))
def X3_wayFrom_b61  (v3 : Int32) (h : KH) : KO Int32 := kret v3 h
def X3_wayFrom_b7 (rc7 : Nat → Nat → Int32 → Int32 → KH → KO Int32) (v0 : Nat) (v2 : Nat) (v3 : Int32) (v4 : Int32) (h : KH) : KO Int32 := gI h v0 4 2 (fun x1 => kif (x1 ≤ v4) (X3_wayFrom_b61  v3 h) (gN h v0 4 1 (fun a1 => gAI h a1 23 v4 (fun x2 => kif (x2 = 0) (gN h v0 4 0 (fun a2 => gAN h a2 26 (v4 - 1) (fun a3 => gI h a3 6 1 (fun x3 => gN h v0 4 0 (fun a4 => gAN h a4 26 v4 (fun a5 => gI h a5 6 1 (fun x4 => kcallV 7 v2 h (f_X6_between v2 x3 x4 h) (fun x5 h1 => rc7 v0 v2 (v3 + x5) (v4 + 1) h1)))))))) (X3_wayFrom_b61  v3 h)))))
def X3_wayFrom_L7  : Nat → Nat → Nat → Int32 → Int32 → KH → KO Int32
  | 0, _, _, _, _, _ => none
  | n + 1, v0, v2, v3, v4, h => X3_wayFrom_b7 (X3_wayFrom_L7  n) v0 v2 v3 v4 h
def f_X3_wayFrom (p0 : Nat) (p1 : Int32) (p2 : Nat) (h : KH) : KO Int32 := X3_wayFrom_L7  kF p0 p2 0 (p1 + 1) h
def f_X9_tollFrom (p0 : Nat) (p1 : Nat) (p2 : Int32) (p3 : Nat) (h : KH) : KO Int32 := gN h p0 10 1 (fun a1 => gI h p3 5 2 (fun x1 => gAI h a1 21 x1 (fun x2 => gN h p0 10 0 (fun a2 => kcallV 4 p1 h (f_X3_wayFrom p1 p2 a2 h) (fun x3 h1 => kret (x2 * (x3 + 2)) h1)))))
def f_X9_toll (p0 : Nat) (p1 : Int32) (p2 : Int32) (h : KH) : KO Int32 := kcallV 10 p0 h (f_X9_plateNumbered p0 p1 h) (fun a1 h1 => gN h1 a1 5 3 (fun a2 => kbind (f_X9_requiredBeginning a1 p2 h1) (fun x1 h2 => kcallV 10 p0 h2 (f_X9_tollFrom p0 a2 x1 a1 h2) (fun x2 h3 => kret x2 h3))))
def f_X9_driverOf (p0 : Nat) (p1 : Int32) (p2 : Int32) (h : KH) : KO Int32 := kcallV 10 p0 h (f_X9_plateNumbered p0 p1 h) (fun a1 h1 => kbind (f_X9_requiredBeginning a1 p2 h1) (fun x1 h2 => gN h2 a1 5 3 (fun a2 => gN h2 a2 4 0 (fun a3 => gAN h2 a3 26 x1 (fun a4 => gI h2 a4 6 2 (fun x2 => kcallV 5 a1 h2 (f_X4_driverIn a1 x2 h2) (fun x3 h3 => kret x3 h3)))))))
def X9_dueFor_b56 (rc6 : Nat → Nat → Nat → Int32 → Int32 → Int32 → KH → KO Int32) (v0 : Nat) (v1 : Nat) (v2 : Nat) (v3 : Int32) (v4 : Int32) (v5 : Int32) (h : KH) : KO Int32 := rc6 v0 v1 v2 v3 v4 (v5 + 1) h
def X9_dueFor_b6 (rc6 : Nat → Nat → Nat → Int32 → Int32 → Int32 → KH → KO Int32) (v0 : Nat) (v1 : Nat) (v2 : Nat) (v3 : Int32) (v4 : Int32) (v5 : Int32) (h : KH) : KO Int32 := gI h v2 4 2 (fun x1 => kif (x1 ≤ v5) (kret v4 h) (gN h v2 4 1 (fun a1 => gAI h a1 23 v5 (fun x2 => kif (x2 = 0) (X9_dueFor_b56 rc6 v0 v1 v2 v3 v4 v5 h) (gN h v2 4 0 (fun a2 => gAN h a2 26 v5 (fun a3 => gI h a3 6 2 (fun x3 => kcallV 5 v1 h (f_X4_driverIn v1 x3 h) (fun x4 h1 => kif (x4 = v3) (kcallV 10 v0 h1 (f_X9_tollFrom v0 v2 v5 v1 h1) (fun x5 h2 => X9_dueFor_b56 rc6 v0 v1 v2 v3 (v4 + x5) v5 h2)) (X9_dueFor_b56 rc6 v0 v1 v2 v3 v4 v5 h1))))))))))
def X9_dueFor_L6  : Nat → Nat → Nat → Nat → Int32 → Int32 → Int32 → KH → KO Int32
  | 0, _, _, _, _, _, _, _ => none
  | n + 1, v0, v1, v2, v3, v4, v5, h => X9_dueFor_b6 (X9_dueFor_L6  n) v0 v1 v2 v3 v4 v5 h
def f_X9_dueFor (p0 : Nat) (p1 : Nat) (p2 : Nat) (p3 : Int32) (h : KH) : KO Int32 := X9_dueFor_L6  kF p0 p1 p2 p3 0 0 h
def X9_dueByKept_b4 (rc4 : Nat → Int32 → Int32 → Int32 → KH → KO Int32) (v0 : Nat) (v1 : Int32) (v2 : Int32) (v3 : Int32) (h : KH) : KO Int32 := gI h v0 10 13 (fun x1 => kif (x1 ≤ v3) (kret v2 h) (gN h v0 10 4 (fun a1 => gAN h a1 25 v3 (fun a2 => gN h a2 5 3 (fun a3 => kcallV 10 v0 h (f_X9_dueFor v0 a2 a3 v1 h) (fun x2 h1 => rc4 v0 v1 (v2 + x2) (v3 + 1) h1))))))
def X9_dueByKept_L4  : Nat → Nat → Int32 → Int32 → Int32 → KH → KO Int32
  | 0, _, _, _, _, _ => none
  | n + 1, v0, v1, v2, v3, h => X9_dueByKept_b4 (X9_dueByKept_L4  n) v0 v1 v2 v3 h
def f_X9_dueByKept (p0 : Nat) (p1 : Int32) (h : KH) : KO Int32 := X9_dueByKept_L4  kF p0 p1 0 0 h
def f_X9_due (p0 : Nat) (p1 : Int32) (h : KH) : KO Int32 := kbind (f_X9_requireDriver p1 h) (fun _ h1 => kcallV 10 p0 h1 (f_X9_dueByKept p0 p1 h1) (fun x1 h2 => kret x1 h2))
def X9_dueAnew_b8 (rc8 : Nat → Int32 → Int32 → Int32 → KH → KO Int32) (v0 : Nat) (v1 : Int32) (v2 : Int32) (v3 : Int32) (h : KH) : KO Int32 := gI h v0 10 13 (fun x1 => kif (x1 ≤ v3) (kret v2 h) (gN h v0 10 4 (fun a1 => gAN h a1 25 v3 (fun a2 => kcallV 10 v0 h (f_X9_joinAnew v0 a2 h) (fun a3 h1 => kcallV 10 v0 h1 (f_X9_dueFor v0 a2 a3 v1 h1) (fun x2 h2 => rc8 v0 v1 (v2 + x2) (v3 + 1) h2))))))
def X9_dueAnew_L8  : Nat → Nat → Int32 → Int32 → Int32 → KH → KO Int32
  | 0, _, _, _, _, _ => none
  | n + 1, v0, v1, v2, v3, h => X9_dueAnew_b8 (X9_dueAnew_L8  n) v0 v1 v2 v3 h
def f_X9_dueAnew (p0 : Nat) (p1 : Int32) (h : KH) : KO Int32 := kbind (f_X9_requireDriver p1 h) (fun _ h1 => X9_dueAnew_L8  kF p0 p1 0 0 h1)
def X9_settle_b69 (rc4 : Nat → Int64 → Int32 → KH → KO Int32) (v0 : Nat) (v1 : Int64) (v3 : Int32) (h : KH) : KO Int32 := rc4 v0 v1 (v3 + 1) h
def X9_settle_b4 (rc4 : Nat → Int64 → Int32 → KH → KO Int32) (v0 : Nat) (v1 : Int64) (v3 : Int32) (h : KH) : KO Int32 := kif (6 ≤ v3) (kret (v1.toInt32) h) (kcallV 10 v0 h (f_X9_dueByKept v0 v3 h) (fun x1 h1 => gN h1 v0 10 9 (fun a1 => gAL h1 a1 22 v3 (fun x2 => gN h1 v0 10 10 (fun a2 => gAL h1 a2 22 v3 (fun x3 => kif ((lg_cmp ((x1.toInt64) - (x2 - x3)) 0) < 0) (gN h1 v0 10 10 (fun a3 => gAL h1 a3 22 v3 (fun x4 => pAL h1 a3 22 v3 (x4 - ((x1.toInt64) - (x2 - x3))) (fun h2 => X9_settle_b69 rc4 v0 (v1 - ((x1.toInt64) - (x2 - x3))) v3 h2)))) (gN h1 v0 10 9 (fun a4 => gAL h1 a4 22 v3 (fun x5 => pAL h1 a4 22 v3 (x5 + ((x1.toInt64) - (x2 - x3))) (fun h3 => X9_settle_b69 rc4 v0 v1 v3 h3))))))))))
def X9_settle_L4  : Nat → Nat → Int64 → Int32 → KH → KO Int32
  | 0, _, _, _, _ => none
  | n + 1, v0, v1, v3, h => X9_settle_b4 (X9_settle_L4  n) v0 v1 v3 h
def f_X9_settle (p0 : Nat) (h : KH) : KO Int32 := X9_settle_L4  kF p0 0 0 h
def f_X9_billed (p0 : Nat) (p1 : Int32) (h : KH) : KO Int64 := kbind (f_X9_requireDriver p1 h) (fun _ h1 => gN h1 p0 10 9 (fun a1 => gAL h1 a1 22 p1 (fun x1 => kret x1 h1)))
def f_X9_paidBack (p0 : Nat) (p1 : Int32) (h : KH) : KO Int64 := kbind (f_X9_requireDriver p1 h) (fun _ h1 => gN h1 p0 10 10 (fun a1 => gAL h1 a1 22 p1 (fun x1 => kret x1 h1)))
def f_X8_init (p0 : Nat) (p1 : Int32) (p2 : Nat) (p3 : Int32) (p4 : Int32) (h : KH) : KO Unit := pI h p0 9 0 p1 (fun h1 => pR h1 p0 9 1 (some p2) (fun h2 => pI h2 p0 9 2 p3 (fun h3 => pI h3 p0 9 3 p4 (fun h4 => kret () h4))))
def X9_warrant_b27   (h : KH) : KO Int32 := kthrow 1 h
def f_X9_warrant (p0 : Nat) (p1 : Int32) (p2 : Int32) (p3 : Int32) (h : KH) : KO Int32 := kcallV 10 p0 h (f_X9_plateNumbered p0 p1 h) (fun a1 h1 => kbind (f_X9_isWithin p2 0 34 h1) (fun x1 h2 => kif (x1 = 0) (X9_warrant_b27   h2) (kbind (f_X9_isWithin p3 p2 34 h2) (fun x2 h3 => kif (x2 = 0) (X9_warrant_b27   h3) (gI h3 p0 10 15 (fun x3 => kif (x3 < 8) (gN h3 p0 10 7 (fun a2 => gI h3 p0 10 15 (fun x4 => nw h3 9 0 (fun a3 h4 => gI h4 p0 10 15 (fun x5 => gN h4 a1 5 3 (fun a4 => kbinI (f_X8_init a3 x5 a4 p2 p3 h4) (fun _ h5 => pAN h5 a2 27 9 x4 a3 (fun h6 => gI h6 p0 10 15 (fun x6 => pI h6 p0 10 15 (x6 + 1) (fun h7 => gI h7 p0 10 15 (fun x7 => kret (x7 - 1) h7))))))))))) (kthrow 2 h3)))))))
def f_X9_warrantNumbered (p0 : Nat) (p1 : Int32) (h : KH) : KO Nat := gI h p0 10 15 (fun x1 => kbind (f_X9_isWithin p1 0 (x1 - 1) h) (fun x2 h1 => kif (x2 = 0) (kthrow 3 h1) (gN h1 p0 10 7 (fun a1 => gAN h1 a1 27 p1 (fun a2 => kret a2 h1)))))
def X8_shownAt_b84 (rc7 : Nat → Int32 → Int32 → Int32 → Int32 → KH → KO (Option Nat)) (v0 : Nat) (v1 : Int32) (v2 : Int32) (v3 : Int32) (v4 : Int32) (h : KH) : KO (Option Nat) := rc7 v0 v1 v2 v3 (v4 + 1) h
def X8_shownAt_b77 (rc7 : Nat → Int32 → Int32 → Int32 → Int32 → KH → KO (Option Nat)) (v0 : Nat) (v1 : Int32) (v2 : Int32) (v3 : Int32) (v4 : Int32) (h : KH) : KO (Option Nat) := kif (v3 = 0) (X8_shownAt_b84 rc7 v0 v1 v2 v3 v4 h) (X8_shownAt_b84 rc7 v0 v1 (v2 + 1) v3 v4 h)
def X8_shownAt_b65 (rc7 : Nat → Int32 → Int32 → Int32 → Int32 → KH → KO (Option Nat)) (v0 : Nat) (v1 : Int32) (v2 : Int32) (v3 : Int32) (v4 : Int32) (v5 : Nat) (h : KH) : KO (Option Nat) := kif (v3 = 0) (X8_shownAt_b77 rc7 v0 v1 v2 v3 v4 h) (kif (v2 = v1) (kret (some v5) h) (X8_shownAt_b77 rc7 v0 v1 v2 v3 v4 h))
def X8_shownAt_b7 (rc7 : Nat → Int32 → Int32 → Int32 → Int32 → KH → KO (Option Nat)) (v0 : Nat) (v1 : Int32) (v2 : Int32) (v3 : Int32) (v4 : Int32) (h : KH) : KO (Option Nat) := gN h v0 9 1 (fun a1 => gI h a1 4 2 (fun x1 => kif (x1 ≤ v4) (kret none h) (gN h v0 9 1 (fun a2 => gN h a2 4 0 (fun a3 => gAN h a3 26 v4 (fun a4 => gN h v0 9 1 (fun a5 => gN h a5 4 1 (fun a6 => gAI h a6 23 v4 (fun x2 => kif (x2 = 0) (X8_shownAt_b65 rc7 v0 v1 v2 v3 v4 a4 h) (gI h a4 6 2 (fun x3 => kdv 1440 (gI h v0 9 2 (fun x4 => gI h v0 9 3 (fun x5 => kbinI (f_X9_isWithin (x3 / 1440) x4 x5 h) (fun x6 h1 => X8_shownAt_b65 rc7 v0 v1 v2 x6 v4 a4 h1)))))))))))))))
def X8_shownAt_L7  : Nat → Nat → Int32 → Int32 → Int32 → Int32 → KH → KO (Option Nat)
  | 0, _, _, _, _, _, _ => none
  | n + 1, v0, v1, v2, v3, v4, h => X8_shownAt_b7 (X8_shownAt_L7  n) v0 v1 v2 v3 v4 h
def f_X8_shownAt (p0 : Nat) (p1 : Int32) (h : KH) : KO (Option Nat) := X8_shownAt_L7  kF p0 p1 0 0 0 h
def f_X0_init (p0 : Nat) (p1 : Int32) (p2 : Int32) (p3 : Int32) (p4 : Int32) (h : KH) : KO Unit := pI h p0 1 0 p1 (fun h1 => pI h1 p0 1 1 p2 (fun h2 => pI h2 p0 1 2 p3 (fun h3 => pI h3 p0 1 3 p4 (fun h4 => kret () h4))))
def f_X9_ask (p0 : Nat) (p1 : Int32) (p2 : Int32) (h : KH) : KO Int32 := kcallV 10 p0 h (f_X9_warrantNumbered p0 p1 h) (fun a1 h1 => gI h1 p0 10 16 (fun x1 => kif (x1 < 40) (kcallV 9 a1 h1 (f_X8_shownAt a1 p2 h1) (fun o1 h2 => knul o1 (kthrow 4 h2) (fun a2 => gN h2 p0 10 8 (fun a3 => gI h2 p0 10 16 (fun x2 => nw h2 1 0 (fun a4 h3 => gI h3 a1 9 0 (fun x3 => gI h3 a2 6 1 (fun x4 => gI h3 a2 6 2 (fun x5 => kbinI (f_X0_init a4 x3 p2 x4 x5 h3) (fun _ h4 => pAN h4 a3 28 1 x2 a4 (fun h5 => gI h5 p0 10 16 (fun x6 => pI h5 p0 10 16 (x6 + 1) (fun h6 => gI h6 a2 6 1 (fun x7 => gI h6 a2 6 2 (fun x8 => kret ((100000 * x7) + x8) h6))))))))))))))) (kthrow 2 h1)))
def X0_tells_b31  (s0 : Int32) (h : KH) : KO Int32 := kretZ s0 h
def X0_tells_b30   (h : KH) : KO Int32 := X0_tells_b31  0 h
def f_X0_tells (p0 : Nat) (p1 : Option Nat) (h : KH) : KO Int32 := knul p1 (X0_tells_b30   h) (fun a1 => gI h a1 6 1 (fun x1 => gI h p0 1 2 (fun x2 => kif (x1 = x2) (gI h a1 6 2 (fun x3 => gI h p0 1 3 (fun x4 => kif (x3 = x4) (X0_tells_b31  1 h) (X0_tells_b30   h)))) (X0_tells_b30   h))))
def X9_stale_b61 (rc11 : Nat → Nat → Int32 → Int32 → KH → KO Int32) (v0 : Nat) (v2 : Nat) (v3 : Int32) (v4 : Int32) (h : KH) : KO Int32 := rc11 v0 v2 v3 (v4 + 1) h
def X9_stale_b11 (rc11 : Nat → Nat → Int32 → Int32 → KH → KO Int32) (v0 : Nat) (v2 : Nat) (v3 : Int32) (v4 : Int32) (h : KH) : KO Int32 := gI h v0 10 16 (fun x1 => kif (x1 ≤ v4) (kret v3 h) (gN h v0 10 8 (fun a1 => gAN h a1 28 v4 (fun a2 => gI h a2 1 0 (fun x2 => gI h v2 9 0 (fun x3 => kif (x2 = x3) (gI h a2 1 1 (fun x4 => kcallV 9 v2 h (f_X8_shownAt v2 x4 h) (fun o1 h1 => kcallV 1 a2 h1 (f_X0_tells a2 o1 h1) (fun x5 h2 => kif (x5 = 0) (X9_stale_b61 rc11 v0 v2 (v3 + 1) v4 h2) (X9_stale_b61 rc11 v0 v2 v3 v4 h2))))) (X9_stale_b61 rc11 v0 v2 v3 v4 h)))))))
def X9_stale_L11  : Nat → Nat → Nat → Int32 → Int32 → KH → KO Int32
  | 0, _, _, _, _, _ => none
  | n + 1, v0, v2, v3, v4, h => X9_stale_b11 (X9_stale_L11  n) v0 v2 v3 v4 h
def f_X9_stale (p0 : Nat) (p1 : Int32) (h : KH) : KO Int32 := kcallV 10 p0 h (f_X9_warrantNumbered p0 p1 h) (fun a1 h1 => X9_stale_L11  kF p0 a1 0 0 h1)
end
section
def X10_measures_b165 (rc56 : Nat → Int32 → KH → KO Unit) (rc64 : Nat → Int32 → Int32 → KH → KO Unit) (v0 : Nat) (v1 : Int32) (v2 : Int32) (s0 : Int32) (s1 : Int32) (s2 : Nat) (h : KH) : KO Unit := pAI h s2 21 s1 s0 (fun h1 => rc64 v0 v1 (v2 + 1) h1)
def X10_measures_b140 (rc56 : Nat → Int32 → KH → KO Unit) (rc64 : Nat → Int32 → Int32 → KH → KO Unit) (v0 : Nat) (v1 : Int32) (v2 : Int32) (v3 : Int32) (v4 : Int32) (s0 : Int32) (h : KH) : KO Unit := gN h v0 11 3 (fun a1 => kif (s0 = 0) (gN h v0 11 3 (fun a2 => gAI h a2 21 v2 (fun x1 => X10_measures_b165 rc56 rc64 v0 v1 v2 x1 v2 a1 h))) (X10_measures_b165 rc56 rc64 v0 v1 v2 (v3 + v4) v2 a1 h))
def X10_measures_b139 (rc56 : Nat → Int32 → KH → KO Unit) (rc64 : Nat → Int32 → Int32 → KH → KO Unit) (v0 : Nat) (v1 : Int32) (v2 : Int32) (v3 : Int32) (v4 : Int32) (h : KH) : KO Unit := X10_measures_b140 rc56 rc64 v0 v1 v2 v3 v4 0 h
def X10_measures_b135 (rc56 : Nat → Int32 → KH → KO Unit) (rc64 : Nat → Int32 → Int32 → KH → KO Unit) (v0 : Nat) (v1 : Int32) (v2 : Int32) (v3 : Int32) (v4 : Int32) (h : KH) : KO Unit := X10_measures_b140 rc56 rc64 v0 v1 v2 v3 v4 1 h
def X10_measures_b64 (rc56 : Nat → Int32 → KH → KO Unit) (rc64 : Nat → Int32 → Int32 → KH → KO Unit) (v0 : Nat) (v1 : Int32) (v2 : Int32) (h : KH) : KO Unit := kif (64 ≤ v2) (rc56 v0 (v1 + 1) h) (gN h v0 11 3 (fun a1 => kdv 8 (gAI h a1 21 ((8 * (v2 / 8)) + v1) (fun x1 => gN h v0 11 3 (fun a2 => kdv 8 (gAI h a2 21 ((8 * v1) + (v2 - v2 / 8 * 8)) (fun x2 => kif (x1 = ((-1))) (X10_measures_b139 rc56 rc64 v0 v1 v2 x1 x2 h) (kif (x2 = ((-1))) (X10_measures_b139 rc56 rc64 v0 v1 v2 x1 x2 h) (gN h v0 11 3 (fun a3 => gAI h a3 21 v2 (fun x3 => kif (x3 = ((-1))) (X10_measures_b135 rc56 rc64 v0 v1 v2 x1 x2 h) (gN h v0 11 3 (fun a4 => gAI h a4 21 v2 (fun x4 => kif (x4 ≤ (x1 + x2)) (X10_measures_b139 rc56 rc64 v0 v1 v2 x1 x2 h) (X10_measures_b135 rc56 rc64 v0 v1 v2 x1 x2 h)))))))))))))))
def X10_measures_L64 (rc56 : Nat → Int32 → KH → KO Unit) : Nat → Nat → Int32 → Int32 → KH → KO Unit
  | 0, _, _, _, _ => none
  | n + 1, v0, v1, v2, h => X10_measures_b64 rc56 (X10_measures_L64 rc56 n) v0 v1 v2 h
def X10_measures_b56 (rc56 : Nat → Int32 → KH → KO Unit) (v0 : Nat) (v1 : Int32) (h : KH) : KO Unit := kif (8 ≤ v1) (kret () h) (X10_measures_L64 rc56 kF v0 v1 0 h)
def X10_measures_L56  : Nat → Nat → Int32 → KH → KO Unit
  | 0, _, _, _ => none
  | n + 1, v0, v1, h => X10_measures_b56 (X10_measures_L56  n) v0 v1 h
def X10_measures_b47 (rc2 : Nat → Int32 → KH → KO Unit) (v0 : Nat) (v1 : Int32) (s0 : Int32) (s1 : Int32) (s2 : Nat) (h : KH) : KO Unit := pAI h s2 21 s1 s0 (fun h1 => rc2 v0 (v1 + 1) h1)
def X10_measures_b2 (rc2 : Nat → Int32 → KH → KO Unit) (v0 : Nat) (v1 : Int32) (h : KH) : KO Unit := kif (64 ≤ v1) (X10_measures_L56  kF v0 0 h) (gN h v0 11 3 (fun a1 => kdv 8 (kdv 8 (kif ((v1 / 8) = (v1 - v1 / 8 * 8)) (X10_measures_b47 rc2 v0 v1 0 v1 a1 h) (gN h v0 11 2 (fun a2 => gAI h a2 21 v1 (fun x1 => kif (x1 = 0) (X10_measures_b47 rc2 v0 v1 ((-1)) v1 a1 h) (gN h v0 11 2 (fun a3 => gAI h a3 21 v1 (fun x2 => X10_measures_b47 rc2 v0 v1 x2 v1 a1 h))))))))))
def X10_measures_L2  : Nat → Nat → Int32 → KH → KO Unit
  | 0, _, _, _ => none
  | n + 1, v0, v1, h => X10_measures_b2 (X10_measures_L2  n) v0 v1 h
def f_X10_measures (p0 : Nat) (h : KH) : KO Unit := X10_measures_L2  kF p0 0 h
def X10_init_b232 (rc232 : Nat → Int32 → KH → KO Unit) (v0 : Nat) (v1 : Int32) (h : KH) : KO Unit := kif (4 ≤ v1) (kcallV 11 v0 h (f_X10_measures v0 h) (fun _ h1 => kret () h1)) (gN h v0 11 4 (fun a1 => pAI h a1 21 v1 (1 <<< (v1 &&& 31)) (fun h2 => rc232 v0 (v1 + 1) h2)))
def X10_init_L232  : Nat → Nat → Int32 → KH → KO Unit
  | 0, _, _, _ => none
  | n + 1, v0, v1, h => X10_init_b232 (X10_init_L232  n) v0 v1 h
def f_X10_init (p0 : Nat) (h : KH) : KO Unit := pI h p0 11 1 30 (fun h1 => nw h1 21 64 (fun a1 h2 => pR h2 p0 11 2 (some a1) (fun h3 => nw h3 21 64 (fun a2 h4 => pR h4 p0 11 3 (some a2) (fun h5 => nw h5 21 4 (fun a3 h6 => pR h6 p0 11 4 (some a3) (fun h7 => nw h7 21 6 (fun a4 h8 => pR h8 p0 11 6 (some a4) (fun h9 => nw h9 23 225 (fun a5 h10 => pR h10 p0 11 7 (some a5) (fun h11 => nw h11 21 10 (fun a6 h12 => pR h12 p0 11 9 (some a6) (fun h13 => nw h13 21 60 (fun a7 h14 => pR h14 p0 11 10 (some a7) (fun h15 => nw h15 21 10 (fun a8 h16 => pR h16 p0 11 11 (some a8) (fun h17 => nw h17 21 700 (fun a9 h18 => pR h18 p0 11 13 (some a9) (fun h19 => nw h19 21 700 (fun a10 h20 => pR h20 p0 11 14 (some a10) (fun h21 => nw h21 21 700 (fun a11 h22 => pR h22 p0 11 15 (some a11) (fun h23 => nw h23 21 60 (fun a12 h24 => pR h24 p0 11 17 (some a12) (fun h25 => nw h25 21 60 (fun a13 h26 => pR h26 p0 11 18 (some a13) (fun h27 => nw h27 21 60 (fun a14 h28 => pR h28 p0 11 19 (some a14) (fun h29 => nw h29 21 360 (fun a15 h30 => pR h30 p0 11 20 (some a15) (fun h31 => nw h31 23 60 (fun a16 h32 => pR h32 p0 11 21 (some a16) (fun h33 => nw h33 21 60 (fun a17 h34 => pR h34 p0 11 22 (some a17) (fun h35 => nw h35 21 60 (fun a18 h36 => pR h36 p0 11 23 (some a18) (fun h37 => nw h37 21 60 (fun a19 h38 => pR h38 p0 11 24 (some a19) (fun h39 => nw h39 22 6 (fun a20 h40 => pR h40 p0 11 25 (some a20) (fun h41 => nw h41 22 6 (fun a21 h42 => pR h42 p0 11 26 (some a21) (fun h43 => nw h43 21 8 (fun a22 h44 => pR h44 p0 11 28 (some a22) (fun h45 => nw h45 21 8 (fun a23 h46 => pR h46 p0 11 29 (some a23) (fun h47 => nw h47 21 8 (fun a24 h48 => pR h48 p0 11 30 (some a24) (fun h49 => nw h49 21 40 (fun a25 h50 => pR h50 p0 11 32 (some a25) (fun h51 => nw h51 21 40 (fun a26 h52 => pR h52 p0 11 33 (some a26) (fun h53 => nw h53 21 40 (fun a27 h54 => pR h54 p0 11 34 (some a27) (fun h55 => X10_init_L232  kF p0 0 h55)))))))))))))))))))))))))))))))))))))))))))))))))))))))
def f_X10_thrown (p0 : Nat) (h : KH) : KO Int32 := gI h p0 11 35 (fun x1 => kret x1 h)
def X10_can_b14  (s0 : Int32) (h : KH) : KO Int32 := kretZ s0 h
def f_X10_can (p0 : Nat) (p1 : Int32) (h : KH) : KO Int32 := pI h p0 11 35 p1 (fun h1 => kif (p1 = 0) (X10_can_b14  1 h1) (X10_can_b14  0 h1))
def X10_isIn_b15  (s0 : Int32) (h : KH) : KO Int32 := kretZ s0 h
def X10_isIn_b14   (h : KH) : KO Int32 := X10_isIn_b15  0 h
def f_X10_isIn (p0 : Int32) (p1 : Int32) (p2 : Int32) (h : KH) : KO Int32 := kif (p0 < p1) (X10_isIn_b14   h) (kif (p2 < p0) (X10_isIn_b14   h) (X10_isIn_b15  1 h))
def f_X10_isGate (p0 : Int32) (h : KH) : KO Int32 := kbind (f_X10_isIn p0 0 7 h) (fun x1 h1 => kretZ x1 h1)
def f_X10_isPlate (p0 : Nat) (p1 : Int32) (h : KH) : KO Int32 := gI h p0 11 8 (fun x1 => kbind (f_X10_isIn p1 0 (x1 - 1) h) (fun x2 h1 => kretZ x2 h1))
def f_X10_isDriver (p0 : Int32) (h : KH) : KO Int32 := kbind (f_X10_isIn p0 0 5 h) (fun x1 h1 => kretZ x1 h1)
def f_X10_isReading (p0 : Nat) (p1 : Int32) (h : KH) : KO Int32 := gI h p0 11 16 (fun x1 => kbind (f_X10_isIn p1 0 (x1 - 1) h) (fun x2 h1 => kretZ x2 h1))
def X10_pass_b32  (v0 : Nat) (v1 : Int32) (s0 : Int32) (s1 : Nat) (h : KH) : KO Int32 := kcallV 11 s1 h (f_X10_can s1 s0 h) (fun x1 h1 => kif (x1 = 0) (kret 0 h1) (gI h1 v0 11 0 (fun x2 => pI h1 v0 11 0 (x2 + v1) (fun h2 => gI h2 v0 11 0 (fun x3 => kret x3 h2)))))
def f_X10_pass (p0 : Nat) (p1 : Int32) (h : KH) : KO Int32 := kbind (f_X10_isIn p1 1 2000 h) (fun x1 h1 => kif (x1 = 0) (X10_pass_b32  p0 p1 1 p0 h1) (gI h1 p0 11 0 (fun x2 => kif ((x2 + p1) ≤ 50000) (X10_pass_b32  p0 p1 0 p0 h1) (X10_pass_b32  p0 p1 2 p0 h1))))
def f_X10_now (p0 : Nat) (h : KH) : KO Int32 := pI h p0 11 35 0 (fun h1 => gI h1 p0 11 0 (fun x1 => kret x1 h1))
def X10_road_b52  (v0 : Nat) (v1 : Int32) (v2 : Int32) (v3 : Int32) (s0 : Int32) (s1 : Nat) (h : KH) : KO Int32 := kcallV 11 s1 h (f_X10_can s1 s0 h) (fun x1 h1 => kif (x1 = 0) (kret 0 h1) (gN h1 v0 11 2 (fun a1 => gAI h1 a1 21 ((8 * v1) + v2) (fun x2 => gN h1 v0 11 2 (fun a2 => pAI h1 a2 21 ((8 * v1) + v2) v3 (fun h2 => gN h2 v0 11 2 (fun a3 => pAI h2 a3 21 ((8 * v2) + v1) v3 (fun h3 => kcallV 11 v0 h3 (f_X10_measures v0 h3) (fun _ h4 => kret x2 h4)))))))))
def X10_road_b47  (v0 : Nat) (v1 : Int32) (v2 : Int32) (v3 : Int32) (s0 : Nat) (h : KH) : KO Int32 := X10_road_b52  v0 v1 v2 v3 2 s0 h
def X10_road_b19  (v0 : Nat) (v1 : Int32) (v2 : Int32) (v3 : Int32) (s0 : Int32) (h : KH) : KO Int32 := kif (s0 = 0) (X10_road_b52  v0 v1 v2 v3 1 v0 h) (kif (v1 = v2) (X10_road_b47  v0 v1 v2 v3 v0 h) (kbind (f_X10_isIn v3 0 200 h) (fun x1 h1 => kif (x1 = 0) (X10_road_b47  v0 v1 v2 v3 v0 h1) (X10_road_b52  v0 v1 v2 v3 0 v0 h1))))
def X10_road_b18  (v0 : Nat) (v1 : Int32) (v2 : Int32) (v3 : Int32) (h : KH) : KO Int32 := X10_road_b19  v0 v1 v2 v3 0 h
def f_X10_road (p0 : Nat) (p1 : Int32) (p2 : Int32) (p3 : Int32) (h : KH) : KO Int32 := kbind (f_X10_isGate p1 h) (fun x1 h1 => kif (x1 = 0) (X10_road_b18  p0 p1 p2 p3 h1) (kbind (f_X10_isGate p2 h1) (fun x2 h2 => kif (x2 = 0) (X10_road_b18  p0 p1 p2 p3 h2) (X10_road_b19  p0 p1 p2 p3 1 h2))))
def X10_distance_b41  (s0 : Int32) (h : KH) : KO Int32 := kret s0 h
def X10_distance_b20  (v0 : Nat) (v1 : Int32) (v2 : Int32) (s0 : Int32) (s1 : Nat) (h : KH) : KO Int32 := kcallV 11 s1 h (f_X10_can s1 s0 h) (fun x1 h1 => kif (x1 = 0) (X10_distance_b41  0 h1) (gN h1 v0 11 3 (fun a1 => gAI h1 a1 21 ((8 * v1) + v2) (fun x2 => X10_distance_b41  x2 h1))))
def X10_distance_b19  (v0 : Nat) (v1 : Int32) (v2 : Int32) (s0 : Nat) (h : KH) : KO Int32 := X10_distance_b20  v0 v1 v2 1 s0 h
def f_X10_distance (p0 : Nat) (p1 : Int32) (p2 : Int32) (h : KH) : KO Int32 := kbind (f_X10_isGate p1 h) (fun x1 h1 => kif (x1 = 0) (X10_distance_b19  p0 p1 p2 p0 h1) (kbind (f_X10_isGate p2 h1) (fun x2 h2 => kif (x2 = 0) (X10_distance_b19  p0 p1 p2 p0 h2) (X10_distance_b20  p0 p1 p2 0 p0 h2))))
def X10_setPause_b17  (v0 : Nat) (v1 : Int32) (s0 : Int32) (s1 : Nat) (h : KH) : KO Int32 := kcallV 11 s1 h (f_X10_can s1 s0 h) (fun x1 h1 => kif (x1 = 0) (kret 0 h1) (gI h1 v0 11 1 (fun x2 => pI h1 v0 11 1 v1 (fun h2 => kret x2 h2))))
def f_X10_setPause (p0 : Nat) (p1 : Int32) (h : KH) : KO Int32 := kbind (f_X10_isIn p1 0 500 h) (fun x1 h1 => kif (x1 = 0) (X10_setPause_b17  p0 p1 1 p0 h1) (X10_setPause_b17  p0 p1 0 p0 h1))
def X10_setRate_b25  (v0 : Nat) (v1 : Int32) (v2 : Int32) (s0 : Int32) (s1 : Nat) (h : KH) : KO Int32 := kcallV 11 s1 h (f_X10_can s1 s0 h) (fun x1 h1 => kif (x1 = 0) (kret 0 h1) (gN h1 v0 11 4 (fun a1 => gAI h1 a1 21 v1 (fun x2 => gN h1 v0 11 4 (fun a2 => pAI h1 a2 21 v1 v2 (fun h2 => kret x2 h2))))))
def X10_setRate_b24  (v0 : Nat) (v1 : Int32) (v2 : Int32) (s0 : Nat) (h : KH) : KO Int32 := X10_setRate_b25  v0 v1 v2 1 s0 h
def f_X10_setRate (p0 : Nat) (p1 : Int32) (p2 : Int32) (h : KH) : KO Int32 := kbind (f_X10_isIn p1 0 3 h) (fun x1 h1 => kif (x1 = 0) (X10_setRate_b24  p0 p1 p2 p0 h1) (kbind (f_X10_isIn p2 0 50 h1) (fun x2 h2 => kif (x2 = 0) (X10_setRate_b24  p0 p1 p2 p0 h2) (X10_setRate_b25  p0 p1 p2 0 p0 h2))))
def f_X10_isSign (p0 : Int32) (h : KH) : KO Int32 := kbind (f_X10_isIn p0 0 14 h) (fun x1 h1 => kretZ x1 h1)
def f_X10_isPair (p0 : Int32) (h : KH) : KO Int32 := kbind (f_X10_isIn p0 10 13 h) (fun x1 h1 => kretZ x1 h1)
def X10_chars_b30 (rc4 : Nat → Int32 → Int32 → KH → KO Int32) (v0 : Nat) (v2 : Int32) (s0 : Int32) (s1 : Int32) (h : KH) : KO Int32 := rc4 v0 (s1 + s0) (v2 + 1) h
def X10_chars_b4 (rc4 : Nat → Int32 → Int32 → KH → KO Int32) (v0 : Nat) (v1 : Int32) (v2 : Int32) (h : KH) : KO Int32 := gI h v0 11 5 (fun x1 => kif (x1 ≤ v2) (kret v1 h) (gN h v0 11 6 (fun a1 => gAI h a1 21 v2 (fun x2 => kbind (f_X10_isPair x2 h) (fun x3 h1 => kif (x3 = 0) (X10_chars_b30 rc4 v0 v2 1 v1 h1) (X10_chars_b30 rc4 v0 v2 2 v1 h1))))))
def X10_chars_L4  : Nat → Nat → Int32 → Int32 → KH → KO Int32
  | 0, _, _, _, _ => none
  | n + 1, v0, v1, v2, h => X10_chars_b4 (X10_chars_L4  n) v0 v1 v2 h
def f_X10_chars (p0 : Nat) (h : KH) : KO Int32 := X10_chars_L4  kF p0 0 0 h
def X10_puts_b5 (rc5 : Nat → Int32 → Int32 → Int32 → KH → KO Int32) (v0 : Nat) (v1 : Int32) (v2 : Int32) (v3 : Int32) (h : KH) : KO Int32 := kif (v3 ≤ v2) (gN h v0 11 6 (fun a1 => pAI h a1 21 v2 v1 (fun h1 => gI h1 v0 11 5 (fun x1 => pI h1 v0 11 5 (x1 + 1) (fun h2 => kcallV 11 v0 h2 (f_X10_chars v0 h2) (fun x2 h3 => kret x2 h3)))))) (gN h v0 11 6 (fun a2 => gN h v0 11 6 (fun a3 => gAI h a3 21 (v3 - 1) (fun x3 => pAI h a2 21 v3 x3 (fun h4 => rc5 v0 v1 v2 (v3 + (-1)) h4)))))
def X10_puts_L5  : Nat → Nat → Int32 → Int32 → Int32 → KH → KO Int32
  | 0, _, _, _, _, _ => none
  | n + 1, v0, v1, v2, v3, h => X10_puts_b5 (X10_puts_L5  n) v0 v1 v2 v3 h
def f_X10_puts (p0 : Nat) (p1 : Int32) (p2 : Int32) (h : KH) : KO Int32 := gI h p0 11 5 (fun x1 => X10_puts_L5  kF p0 p1 p2 x1 h)
def X10_spell_b45  (s0 : Int32) (h : KH) : KO Int32 := kret s0 h
def X10_spell_b26  (v0 : Nat) (v1 : Int32) (s0 : Int32) (s1 : Nat) (h : KH) : KO Int32 := kcallV 11 s1 h (f_X10_can s1 s0 h) (fun x1 h1 => kif (x1 = 0) (X10_spell_b45  0 h1) (gI h1 v0 11 5 (fun x2 => kcallV 11 v0 h1 (f_X10_puts v0 v1 x2 h1) (fun x3 h2 => X10_spell_b45  x3 h2))))
def f_X10_spell (p0 : Nat) (p1 : Int32) (h : KH) : KO Int32 := kbind (f_X10_isSign p1 h) (fun x1 h1 => kif (x1 = 0) (X10_spell_b26  p0 p1 1 p0 h1) (gI h1 p0 11 5 (fun x2 => kif (x2 = 6) (X10_spell_b26  p0 p1 2 p0 h1) (X10_spell_b26  p0 p1 0 p0 h1))))
def X10_insert_b60  (s0 : Int32) (h : KH) : KO Int32 := kret s0 h
def X10_insert_b44  (v0 : Nat) (v1 : Int32) (v2 : Int32) (s0 : Int32) (s1 : Nat) (h : KH) : KO Int32 := kcallV 11 s1 h (f_X10_can s1 s0 h) (fun x1 h1 => kif (x1 = 0) (X10_insert_b60  0 h1) (kcallV 11 v0 h1 (f_X10_puts v0 v1 v2 h1) (fun x2 h2 => X10_insert_b60  x2 h2)))
def f_X10_insert (p0 : Nat) (p1 : Int32) (p2 : Int32) (h : KH) : KO Int32 := kbind (f_X10_isSign p1 h) (fun x1 h1 => kif (x1 = 0) (X10_insert_b44  p0 p1 p2 1 p0 h1) (gI h1 p0 11 5 (fun x2 => kbind (f_X10_isIn p2 0 (x2 - 1) h1) (fun x3 h2 => kif (x3 = 0) (X10_insert_b44  p0 p1 p2 2 p0 h2) (gI h2 p0 11 5 (fun x4 => kif (x4 = 6) (X10_insert_b44  p0 p1 p2 3 p0 h2) (X10_insert_b44  p0 p1 p2 0 p0 h2)))))))
def X10_mirror_b7 (rc7 : Nat → Int32 → KH → KO Int32) (v0 : Nat) (v1 : Int32) (h : KH) : KO Int32 := gI h v0 11 5 (fun x1 => kdv 2 (kif ((x1 / 2) ≤ v1) (gI h v0 11 5 (fun x2 => kret x2 h)) (gN h v0 11 6 (fun a1 => gAI h a1 21 v1 (fun x3 => gN h v0 11 6 (fun a2 => gN h v0 11 6 (fun a3 => gI h v0 11 5 (fun x4 => gAI h a3 21 ((x4 - 1) - v1) (fun x5 => pAI h a2 21 v1 x5 (fun h1 => gN h1 v0 11 6 (fun a4 => gI h1 v0 11 5 (fun x6 => pAI h1 a4 21 ((x6 - 1) - v1) x3 (fun h2 => rc7 v0 (v1 + 1) h2)))))))))))))
def X10_mirror_L7  : Nat → Nat → Int32 → KH → KO Int32
  | 0, _, _, _ => none
  | n + 1, v0, v1, h => X10_mirror_b7 (X10_mirror_L7  n) v0 v1 h
def f_X10_mirror (p0 : Nat) (h : KH) : KO Int32 := pI h p0 11 35 0 (fun h1 => X10_mirror_L7  kF p0 0 h1)
def f_X10_clearSpelled (p0 : Nat) (h : KH) : KO Int32 := pI h p0 11 35 0 (fun h1 => gI h1 p0 11 5 (fun x1 => pI h1 p0 11 5 0 (fun h2 => kret x1 h2)))
def X10_charAt_b107  (v0 : Nat) (h : KH) : KO Int32 := pI h v0 11 35 1 (fun h1 => kretC 97 h1)
def X10_charAt_b94  (s0 : Int32) (h : KH) : KO Int32 := kretC ((s0.toUInt32 % 65536).toInt32) h
def X10_charAt_b37 (rc4 : Nat → Int32 → Int32 → Int32 → KH → KO Int32) (v0 : Nat) (v1 : Int32) (v2 : Int32) (v3 : Int32) (v4 : Int32) (s0 : Int32) (h : KH) : KO Int32 := kif (s0 ≤ v2) (rc4 v0 v1 (v2 - s0) (v3 + 1) h) (pI h v0 11 35 0 (fun h1 => kif (v4 = 14) (X10_charAt_b94  63 h1) (kif (10 ≤ v4) (kif (v2 = 0) (X10_charAt_b94  55357 h1) (X10_charAt_b94  ((56976 + v4) - 10) h1)) (X10_charAt_b94  (65 + v4) h1))))
def X10_charAt_b4 (rc4 : Nat → Int32 → Int32 → Int32 → KH → KO Int32) (v0 : Nat) (v1 : Int32) (v2 : Int32) (v3 : Int32) (h : KH) : KO Int32 := gI h v0 11 5 (fun x1 => kif (x1 ≤ v3) (X10_charAt_b107  v0 h) (kif (v1 < 0) (X10_charAt_b107  v0 h) (gN h v0 11 6 (fun a1 => gAI h a1 21 v3 (fun x2 => kbind (f_X10_isPair x2 h) (fun x3 h1 => kif (x3 = 0) (X10_charAt_b37 rc4 v0 v1 v2 v3 x2 1 h1) (X10_charAt_b37 rc4 v0 v1 v2 v3 x2 2 h1)))))))
def X10_charAt_L4  : Nat → Nat → Int32 → Int32 → Int32 → KH → KO Int32
  | 0, _, _, _, _, _ => none
  | n + 1, v0, v1, v2, v3, h => X10_charAt_b4 (X10_charAt_L4  n) v0 v1 v2 v3 h
def f_X10_charAt (p0 : Nat) (p1 : Int32) (h : KH) : KO Int32 := X10_charAt_L4  kF p0 p1 p1 0 h
def X10_alike_b78  (v0 : Nat) (v1 : Int32) (v2 : Int32) (s0 : Int32) (h : KH) : KO Int32 := gN h v0 11 7 (fun a1 => pAZ h a1 23 ((15 * v1) + v2) s0 (fun h1 => gN h1 v0 11 7 (fun a2 => pAZ h1 a2 23 ((15 * v2) + v1) s0 (fun h2 => kretZ s0 h2))))
def X10_alike_b51  (v0 : Nat) (v1 : Int32) (v2 : Int32) (s0 : Int32) (s1 : Nat) (h : KH) : KO Int32 := kcallV 11 s1 h (f_X10_can s1 s0 h) (fun x1 h1 => kif (x1 = 0) (kretZ 0 h1) (gN h1 v0 11 7 (fun a1 => gAI h1 a1 23 ((15 * v1) + v2) (fun x2 => kif (x2 = 0) (X10_alike_b78  v0 v1 v2 1 h1) (X10_alike_b78  v0 v1 v2 0 h1)))))
def X10_alike_b46  (v0 : Nat) (v1 : Int32) (v2 : Int32) (s0 : Nat) (h : KH) : KO Int32 := X10_alike_b51  v0 v1 v2 2 s0 h
def X10_alike_b19  (v0 : Nat) (v1 : Int32) (v2 : Int32) (s0 : Int32) (h : KH) : KO Int32 := kif (s0 = 0) (X10_alike_b51  v0 v1 v2 1 v0 h) (kif (v1 = v2) (X10_alike_b46  v0 v1 v2 v0 h) (kif (v1 = 14) (X10_alike_b46  v0 v1 v2 v0 h) (kif (v2 = 14) (X10_alike_b46  v0 v1 v2 v0 h) (X10_alike_b51  v0 v1 v2 0 v0 h))))
def X10_alike_b18  (v0 : Nat) (v1 : Int32) (v2 : Int32) (h : KH) : KO Int32 := X10_alike_b19  v0 v1 v2 0 h
def f_X10_alike (p0 : Nat) (p1 : Int32) (p2 : Int32) (h : KH) : KO Int32 := kbind (f_X10_isSign p1 h) (fun x1 h1 => kif (x1 = 0) (X10_alike_b18  p0 p1 p2 h1) (kbind (f_X10_isSign p2 h1) (fun x2 h2 => kif (x2 = 0) (X10_alike_b18  p0 p1 p2 h2) (X10_alike_b19  p0 p1 p2 1 h2))))
def X10_isTaken_b94 (rc4 : Nat → Int32 → Int32 → KH → KO Int32) (v0 : Nat) (v2 : Int32) (s0 : Int32) (h : KH) : KO Int32 := rc4 v0 s0 (v2 + 1) h
def X10_isTaken_b89 (rc4 : Nat → Int32 → Int32 → KH → KO Int32) (v0 : Nat) (v2 : Int32) (h : KH) : KO Int32 := X10_isTaken_b94 rc4 v0 v2 1 h
def X10_isTaken_b81 (rc4 : Nat → Int32 → Int32 → KH → KO Int32) (v0 : Nat) (v1 : Int32) (v2 : Int32) (v3 : Int32) (h : KH) : KO Int32 := kif (v1 = 0) (kif (v3 = 0) (X10_isTaken_b94 rc4 v0 v2 0 h) (X10_isTaken_b89 rc4 v0 v2 h)) (X10_isTaken_b89 rc4 v0 v2 h)
def X10_isTaken_b74 (rc4 : Nat → Int32 → Int32 → KH → KO Int32) (rc34 : Nat → Int32 → Int32 → Int32 → Int32 → KH → KO Int32) (v0 : Nat) (v1 : Int32) (v2 : Int32) (v4 : Int32) (s0 : Int32) (h : KH) : KO Int32 := rc34 v0 v1 v2 s0 (v4 + 1) h
def X10_isTaken_b34 (rc4 : Nat → Int32 → Int32 → KH → KO Int32) (rc34 : Nat → Int32 → Int32 → Int32 → Int32 → KH → KO Int32) (v0 : Nat) (v1 : Int32) (v2 : Int32) (v3 : Int32) (v4 : Int32) (h : KH) : KO Int32 := gI h v0 11 5 (fun x1 => kif (x1 ≤ v4) (X10_isTaken_b81 rc4 v0 v1 v2 v3 h) (kif (v3 = 0) (X10_isTaken_b81 rc4 v0 v1 v2 v3 h) (gN h v0 11 10 (fun a1 => gAI h a1 21 ((6 * v2) + v4) (fun x2 => gN h v0 11 6 (fun a2 => gAI h a2 21 v4 (fun x3 => kif (x2 = x3) (X10_isTaken_b74 rc4 rc34 v0 v1 v2 v4 1 h) (X10_isTaken_b74 rc4 rc34 v0 v1 v2 v4 0 h))))))))
def X10_isTaken_L34 (rc4 : Nat → Int32 → Int32 → KH → KO Int32) : Nat → Nat → Int32 → Int32 → Int32 → Int32 → KH → KO Int32
  | 0, _, _, _, _, _, _ => none
  | n + 1, v0, v1, v2, v3, v4, h => X10_isTaken_b34 rc4 (X10_isTaken_L34 rc4 n) v0 v1 v2 v3 v4 h
def X10_isTaken_b30 (rc4 : Nat → Int32 → Int32 → KH → KO Int32) (v0 : Nat) (v1 : Int32) (v2 : Int32) (s0 : Int32) (h : KH) : KO Int32 := X10_isTaken_L34 rc4 kF v0 v1 v2 s0 0 h
def X10_isTaken_b4 (rc4 : Nat → Int32 → Int32 → KH → KO Int32) (v0 : Nat) (v1 : Int32) (v2 : Int32) (h : KH) : KO Int32 := gI h v0 11 8 (fun x1 => kif (x1 ≤ v2) (kretZ v1 h) (gN h v0 11 9 (fun a1 => gAI h a1 21 v2 (fun x2 => gI h v0 11 5 (fun x3 => kif (x2 = x3) (X10_isTaken_b30 rc4 v0 v1 v2 1 h) (X10_isTaken_b30 rc4 v0 v1 v2 0 h))))))
def X10_isTaken_L4  : Nat → Nat → Int32 → Int32 → KH → KO Int32
  | 0, _, _, _, _ => none
  | n + 1, v0, v1, v2, h => X10_isTaken_b4 (X10_isTaken_L4  n) v0 v1 v2 h
def f_X10_isTaken (p0 : Nat) (h : KH) : KO Int32 := X10_isTaken_L4  kF p0 0 0 h
def X10_isPlain_b43 (rc15 : Nat → Int32 → Int32 → KH → KO Int32) (v0 : Nat) (v2 : Int32) (s0 : Int32) (h : KH) : KO Int32 := rc15 v0 s0 (v2 + 1) h
def X10_isPlain_b42 (rc15 : Nat → Int32 → Int32 → KH → KO Int32) (v0 : Nat) (v2 : Int32) (h : KH) : KO Int32 := X10_isPlain_b43 rc15 v0 v2 0 h
def X10_isPlain_b15 (rc15 : Nat → Int32 → Int32 → KH → KO Int32) (v0 : Nat) (v1 : Int32) (v2 : Int32) (h : KH) : KO Int32 := gI h v0 11 5 (fun x1 => kif (x1 ≤ v2) (kretZ v1 h) (kif (v1 = 0) (X10_isPlain_b42 rc15 v0 v2 h) (gN h v0 11 6 (fun a1 => gAI h a1 21 v2 (fun x2 => kif (x2 = 14) (X10_isPlain_b42 rc15 v0 v2 h) (X10_isPlain_b43 rc15 v0 v2 1 h))))))
def X10_isPlain_L15  : Nat → Nat → Int32 → Int32 → KH → KO Int32
  | 0, _, _, _, _ => none
  | n + 1, v0, v1, v2, h => X10_isPlain_b15 (X10_isPlain_L15  n) v0 v1 v2 h
def X10_isPlain_b12  (v0 : Nat) (s0 : Int32) (h : KH) : KO Int32 := X10_isPlain_L15  kF v0 s0 0 h
def f_X10_isPlain (p0 : Nat) (h : KH) : KO Int32 := gI h p0 11 5 (fun x1 => kif (x1 ≤ 0) (X10_isPlain_b12  p0 0 h) (X10_isPlain_b12  p0 1 h))
def f_X10_holds (p0 : Nat) (p1 : Int32) (p2 : Int32) (h : KH) : KO Unit := gN h p0 11 13 (fun a1 => gI h p0 11 12 (fun x1 => pAI h a1 21 x1 p1 (fun h1 => gN h1 p0 11 14 (fun a2 => gI h1 p0 11 12 (fun x2 => pAI h1 a2 21 x2 p2 (fun h2 => gN h2 p0 11 15 (fun a3 => gI h2 p0 11 12 (fun x3 => gI h2 p0 11 0 (fun x4 => pAI h2 a3 21 x3 x4 (fun h3 => gI h3 p0 11 12 (fun x5 => pI h3 p0 11 12 (x5 + 1) (fun h4 => kret () h4))))))))))))
def X10_register_b83 (rc83 : Nat → Int32 → Int32 → Int32 → KH → KO Int32) (v0 : Nat) (v1 : Int32) (v2 : Int32) (v5 : Int32) (h : KH) : KO Int32 := gI h v0 11 5 (fun x1 => kif (x1 ≤ v5) (gN h v0 11 11 (fun a1 => gI h v0 11 8 (fun x2 => pAI h a1 21 x2 v2 (fun h1 => gI h1 v0 11 8 (fun x3 => kcallV 11 v0 h1 (f_X10_holds v0 x3 v1 h1) (fun _ h2 => gI h2 v0 11 8 (fun x4 => pI h2 v0 11 8 (x4 + 1) (fun h3 => gI h3 v0 11 8 (fun x5 => kret (x5 - 1) h3))))))))) (gN h v0 11 10 (fun a2 => gI h v0 11 8 (fun x6 => gN h v0 11 6 (fun a3 => gAI h a3 21 v5 (fun x7 => pAI h a2 21 ((6 * x6) + v5) x7 (fun h4 => rc83 v0 v1 v2 (v5 + 1) h4)))))))
def X10_register_L83  : Nat → Nat → Int32 → Int32 → Int32 → KH → KO Int32
  | 0, _, _, _, _, _ => none
  | n + 1, v0, v1, v2, v5, h => X10_register_b83 (X10_register_L83  n) v0 v1 v2 v5 h
def X10_register_b59  (v0 : Nat) (v1 : Int32) (v2 : Int32) (s0 : Int32) (s1 : Nat) (h : KH) : KO Int32 := kcallV 11 s1 h (f_X10_can s1 s0 h) (fun x1 h1 => kif (x1 = 0) (kret 0 h1) (gN h1 v0 11 9 (fun a1 => gI h1 v0 11 8 (fun x2 => gI h1 v0 11 5 (fun x3 => pAI h1 a1 21 x2 x3 (fun h2 => X10_register_L83  kF v0 v1 v2 0 h2))))))
def X10_register_b54  (v0 : Nat) (v1 : Int32) (v2 : Int32) (s0 : Nat) (h : KH) : KO Int32 := X10_register_b59  v0 v1 v2 3 s0 h
def f_X10_register (p0 : Nat) (p1 : Int32) (p2 : Int32) (h : KH) : KO Int32 := kbind (f_X10_isDriver p1 h) (fun x1 h1 => kbind (f_X10_isIn p2 0 3 h1) (fun x2 h2 => kif (x1 = 0) (X10_register_b59  p0 p1 p2 1 p0 h2) (kif (x2 = 0) (X10_register_b59  p0 p1 p2 2 p0 h2) (kcallV 11 p0 h2 (f_X10_isPlain p0 h2) (fun x3 h3 => kif (x3 = 0) (X10_register_b54  p0 p1 p2 p0 h3) (kcallV 11 p0 h3 (f_X10_isTaken p0 h3) (fun x4 h4 => kif (x4 = 0) (gI h4 p0 11 8 (fun x5 => kif (x5 = 10) (X10_register_b54  p0 p1 p2 p0 h4) (X10_register_b59  p0 p1 p2 0 p0 h4))) (X10_register_b54  p0 p1 p2 p0 h4))))))))
def X10_holderAt_b47 (rc5 : Nat → Int32 → Int32 → Int32 → Int32 → KH → KO Int32) (v0 : Nat) (v1 : Int32) (v2 : Int32) (v4 : Int32) (s0 : Int32) (h : KH) : KO Int32 := rc5 v0 v1 v2 s0 (v4 + 1) h
def X10_holderAt_b46 (rc5 : Nat → Int32 → Int32 → Int32 → Int32 → KH → KO Int32) (v0 : Nat) (v1 : Int32) (v2 : Int32) (v3 : Int32) (v4 : Int32) (h : KH) : KO Int32 := X10_holderAt_b47 rc5 v0 v1 v2 v4 v3 h
def X10_holderAt_b5 (rc5 : Nat → Int32 → Int32 → Int32 → Int32 → KH → KO Int32) (v0 : Nat) (v1 : Int32) (v2 : Int32) (v3 : Int32) (v4 : Int32) (h : KH) : KO Int32 := gI h v0 11 12 (fun x1 => kif (x1 ≤ v4) (kret v3 h) (gN h v0 11 13 (fun a1 => gAI h a1 21 v4 (fun x2 => kif (x2 = v1) (gN h v0 11 15 (fun a2 => gAI h a2 21 v4 (fun x3 => kif (v2 < x3) (X10_holderAt_b46 rc5 v0 v1 v2 v3 v4 h) (gN h v0 11 14 (fun a3 => gAI h a3 21 v4 (fun x4 => X10_holderAt_b47 rc5 v0 v1 v2 v4 x4 h)))))) (X10_holderAt_b46 rc5 v0 v1 v2 v3 v4 h)))))
def X10_holderAt_L5  : Nat → Nat → Int32 → Int32 → Int32 → Int32 → KH → KO Int32
  | 0, _, _, _, _, _, _ => none
  | n + 1, v0, v1, v2, v3, v4, h => X10_holderAt_b5 (X10_holderAt_L5  n) v0 v1 v2 v3 v4 h
def f_X10_holderAt (p0 : Nat) (p1 : Int32) (p2 : Int32) (h : KH) : KO Int32 := X10_holderAt_L5  kF p0 p1 p2 ((-1)) 0 h
def X10_sell_b21  (v0 : Nat) (v1 : Int32) (v2 : Int32) (s0 : Int32) (s1 : Nat) (h : KH) : KO Int32 := kcallV 11 s1 h (f_X10_can s1 s0 h) (fun x1 h1 => kif (x1 = 0) (kret 0 h1) (gI h1 v0 11 0 (fun x2 => kcallV 11 v0 h1 (f_X10_holderAt v0 v1 x2 h1) (fun x3 h2 => kcallV 11 v0 h2 (f_X10_holds v0 v1 v2 h2) (fun _ h3 => kret x3 h3)))))
def X10_sell_b20  (v0 : Nat) (v1 : Int32) (v2 : Int32) (s0 : Nat) (h : KH) : KO Int32 := X10_sell_b21  v0 v1 v2 1 s0 h
def f_X10_sell (p0 : Nat) (p1 : Int32) (p2 : Int32) (h : KH) : KO Int32 := kcallV 11 p0 h (f_X10_isPlate p0 p1 h) (fun x1 h1 => kif (x1 = 0) (X10_sell_b20  p0 p1 p2 p0 h1) (kbind (f_X10_isDriver p2 h1) (fun x2 h2 => kif (x2 = 0) (X10_sell_b20  p0 p1 p2 p0 h2) (X10_sell_b21  p0 p1 p2 0 p0 h2))))
def f_X10_plates (p0 : Nat) (h : KH) : KO Int32 := pI h p0 11 35 0 (fun h1 => gI h1 p0 11 8 (fun x1 => kret x1 h1))
def f_X10_signAt (p0 : Nat) (p1 : Int32) (p2 : Int32) (h : KH) : KO Int32 := gN h p0 11 10 (fun a1 => gN h p0 11 9 (fun a2 => gAI h a2 21 p1 (fun x1 => gAI h a1 21 (((6 * p1) + x1) - p2) (fun x2 => kret x2 h))))
def X10_isAhead_b118  (s0 : Int32) (h : KH) : KO Int32 := kretZ s0 h
def X10_isAhead_b68  (v0 : Nat) (v1 : Int32) (v2 : Int32) (v3 : Int32) (s0 : Int32) (h : KH) : KO Int32 := kif (s0 = 0) (kcallV 11 v0 h (f_X10_signAt v0 v1 v3 h) (fun x1 h1 => kcallV 11 v0 h1 (f_X10_signAt v0 v2 v3 h1) (fun x2 h2 => kif (x2 ≤ x1) (X10_isAhead_b118  0 h2) (X10_isAhead_b118  1 h2)))) (gN h v0 11 9 (fun a1 => gAI h a1 21 v1 (fun x3 => gN h v0 11 9 (fun a2 => gAI h a2 21 v2 (fun x4 => kif (x4 ≤ x3) (X10_isAhead_b118  0 h) (X10_isAhead_b118  1 h))))))
def X10_isAhead_b63  (v0 : Nat) (v1 : Int32) (v2 : Int32) (v3 : Int32) (h : KH) : KO Int32 := X10_isAhead_b68  v0 v1 v2 v3 1 h
def X10_isAhead_b43  (v0 : Nat) (v1 : Int32) (v2 : Int32) (v3 : Int32) (h : KH) : KO Int32 := gN h v0 11 9 (fun a1 => gAI h a1 21 v1 (fun x1 => kif (x1 < v3) (X10_isAhead_b63  v0 v1 v2 v3 h) (gN h v0 11 9 (fun a2 => gAI h a2 21 v2 (fun x2 => kif (v3 ≤ x2) (X10_isAhead_b68  v0 v1 v2 v3 0 h) (X10_isAhead_b63  v0 v1 v2 v3 h))))))
def X10_isAhead_b2 (rc2 : Nat → Int32 → Int32 → Int32 → KH → KO Int32) (v0 : Nat) (v1 : Int32) (v2 : Int32) (v3 : Int32) (h : KH) : KO Int32 := gN h v0 11 9 (fun a1 => gAI h a1 21 v1 (fun x1 => kif (x1 < v3) (X10_isAhead_b43  v0 v1 v2 v3 h) (gN h v0 11 9 (fun a2 => gAI h a2 21 v2 (fun x2 => kif (x2 < v3) (X10_isAhead_b43  v0 v1 v2 v3 h) (kcallV 11 v0 h (f_X10_signAt v0 v1 v3 h) (fun x3 h1 => kcallV 11 v0 h1 (f_X10_signAt v0 v2 v3 h1) (fun x4 h2 => kif (x3 = x4) (rc2 v0 v1 v2 (v3 + 1) h2) (X10_isAhead_b43  v0 v1 v2 v3 h2)))))))))
def X10_isAhead_L2  : Nat → Nat → Int32 → Int32 → Int32 → KH → KO Int32
  | 0, _, _, _, _, _ => none
  | n + 1, v0, v1, v2, v3, h => X10_isAhead_b2 (X10_isAhead_L2  n) v0 v1 v2 v3 h
def f_X10_isAhead (p0 : Nat) (p1 : Int32) (p2 : Int32) (h : KH) : KO Int32 := X10_isAhead_L2  kF p0 p1 p2 1 h
def X10_plateAt_b93  (s0 : Int32) (h : KH) : KO Int32 := kret s0 h
def X10_plateAt_b82  (v2 : Int32) (s0 : Int32) (s1 : Nat) (h : KH) : KO Int32 := kcallV 11 s1 h (f_X10_can s1 s0 h) (fun x1 h1 => kif (x1 = 0) (X10_plateAt_b93  0 h1) (X10_plateAt_b93  v2 h1))
def X10_plateAt_b64 (rc4 : Nat → Int32 → Int32 → Int32 → KH → KO Int32) (v0 : Nat) (v1 : Int32) (v3 : Int32) (s0 : Int32) (h : KH) : KO Int32 := rc4 v0 v1 s0 (v3 + 1) h
def X10_plateAt_b44 (rc4 : Nat → Int32 → Int32 → Int32 → KH → KO Int32) (rc18 : Nat → Int32 → Int32 → Int32 → Int32 → Int32 → KH → KO Int32) (v0 : Nat) (v1 : Int32) (v2 : Int32) (v3 : Int32) (v5 : Int32) (s0 : Int32) (s1 : Int32) (h : KH) : KO Int32 := rc18 v0 v1 v2 v3 (s1 + s0) (v5 + 1) h
def X10_plateAt_b18 (rc4 : Nat → Int32 → Int32 → Int32 → KH → KO Int32) (rc18 : Nat → Int32 → Int32 → Int32 → Int32 → Int32 → KH → KO Int32) (v0 : Nat) (v1 : Int32) (v2 : Int32) (v3 : Int32) (v4 : Int32) (v5 : Int32) (h : KH) : KO Int32 := gI h v0 11 8 (fun x1 => kif (x1 ≤ v5) (kif (v4 = v1) (X10_plateAt_b64 rc4 v0 v1 v3 v3 h) (X10_plateAt_b64 rc4 v0 v1 v3 v2 h)) (kcallV 11 v0 h (f_X10_isAhead v0 v5 v3 h) (fun x2 h1 => kif (x2 = 0) (X10_plateAt_b44 rc4 rc18 v0 v1 v2 v3 v5 0 v4 h1) (X10_plateAt_b44 rc4 rc18 v0 v1 v2 v3 v5 1 v4 h1))))
def X10_plateAt_L18 (rc4 : Nat → Int32 → Int32 → Int32 → KH → KO Int32) : Nat → Nat → Int32 → Int32 → Int32 → Int32 → Int32 → KH → KO Int32
  | 0, _, _, _, _, _, _, _ => none
  | n + 1, v0, v1, v2, v3, v4, v5, h => X10_plateAt_b18 rc4 (X10_plateAt_L18 rc4 n) v0 v1 v2 v3 v4 v5 h
def X10_plateAt_b4 (rc4 : Nat → Int32 → Int32 → Int32 → KH → KO Int32) (v0 : Nat) (v1 : Int32) (v2 : Int32) (v3 : Int32) (h : KH) : KO Int32 := gI h v0 11 8 (fun x1 => kif (x1 ≤ v3) (kif (v2 = ((-1))) (X10_plateAt_b82  v2 1 v0 h) (X10_plateAt_b82  v2 0 v0 h)) (X10_plateAt_L18 rc4 kF v0 v1 v2 v3 0 0 h))
def X10_plateAt_L4  : Nat → Nat → Int32 → Int32 → Int32 → KH → KO Int32
  | 0, _, _, _, _, _ => none
  | n + 1, v0, v1, v2, v3, h => X10_plateAt_b4 (X10_plateAt_L4  n) v0 v1 v2 v3 h
def f_X10_plateAt (p0 : Nat) (p1 : Int32) (h : KH) : KO Int32 := X10_plateAt_L4  kF p0 p1 ((-1)) 0 h
def X10_holder_b46  (s0 : Int32) (h : KH) : KO Int32 := kret s0 h
def X10_holder_b30  (v0 : Nat) (v1 : Int32) (v2 : Int32) (s0 : Int32) (s1 : Nat) (h : KH) : KO Int32 := kcallV 11 s1 h (f_X10_can s1 s0 h) (fun x1 h1 => kif (x1 = 0) (X10_holder_b46  0 h1) (kcallV 11 v0 h1 (f_X10_holderAt v0 v1 v2 h1) (fun x2 h2 => X10_holder_b46  x2 h2)))
def f_X10_holder (p0 : Nat) (p1 : Int32) (p2 : Int32) (h : KH) : KO Int32 := kcallV 11 p0 h (f_X10_isPlate p0 p1 h) (fun x1 h1 => kif (x1 = 0) (X10_holder_b30  p0 p1 p2 1 p0 h1) (gI h1 p0 11 0 (fun x2 => kbind (f_X10_isIn p2 0 x2 h1) (fun x3 h2 => kif (x3 = 0) (X10_holder_b30  p0 p1 p2 2 p0 h2) (X10_holder_b30  p0 p1 p2 0 p0 h2)))))
def X10_read_b95 (rc95 : Nat → Int32 → KH → KO Int32) (v0 : Nat) (v4 : Int32) (h : KH) : KO Int32 := gI h v0 11 5 (fun x1 => kif (x1 ≤ v4) (gI h v0 11 16 (fun x2 => pI h v0 11 16 (x2 + 1) (fun h1 => gI h1 v0 11 16 (fun x3 => kret (x3 - 1) h1)))) (gN h v0 11 20 (fun a1 => gI h v0 11 16 (fun x4 => gN h v0 11 6 (fun a2 => gAI h a2 21 v4 (fun x5 => pAI h a1 21 ((6 * x4) + v4) x5 (fun h2 => rc95 v0 (v4 + 1) h2)))))))
def X10_read_L95  : Nat → Nat → Int32 → KH → KO Int32
  | 0, _, _, _ => none
  | n + 1, v0, v4, h => X10_read_b95 (X10_read_L95  n) v0 v4 h
def X10_read_b51  (v0 : Nat) (v1 : Int32) (v2 : Int32) (s0 : Int32) (s1 : Nat) (h : KH) : KO Int32 := kcallV 11 s1 h (f_X10_can s1 s0 h) (fun x1 h1 => kif (x1 = 0) (kret 0 h1) (gN h1 v0 11 17 (fun a1 => gI h1 v0 11 16 (fun x2 => pAI h1 a1 21 x2 v1 (fun h2 => gN h2 v0 11 18 (fun a2 => gI h2 v0 11 16 (fun x3 => pAI h2 a2 21 x3 v2 (fun h3 => gN h3 v0 11 19 (fun a3 => gI h3 v0 11 16 (fun x4 => gI h3 v0 11 5 (fun x5 => pAI h3 a3 21 x4 x5 (fun h4 => X10_read_L95  kF v0 0 h4))))))))))))
def X10_read_b46  (v0 : Nat) (v1 : Int32) (v2 : Int32) (s0 : Nat) (h : KH) : KO Int32 := X10_read_b51  v0 v1 v2 3 s0 h
def f_X10_read (p0 : Nat) (p1 : Int32) (p2 : Int32) (h : KH) : KO Int32 := kbind (f_X10_isGate p1 h) (fun x1 h1 => kif (x1 = 0) (X10_read_b51  p0 p1 p2 1 p0 h1) (gI h1 p0 11 0 (fun x2 => kbind (f_X10_isIn p2 0 x2 h1) (fun x3 h2 => kif (x3 = 0) (X10_read_b51  p0 p1 p2 2 p0 h2) (gI h2 p0 11 5 (fun x4 => kif (x4 = 0) (X10_read_b46  p0 p1 p2 p0 h2) (gI h2 p0 11 16 (fun x5 => kif (x5 = 60) (X10_read_b46  p0 p1 p2 p0 h2) (X10_read_b51  p0 p1 p2 0 p0 h2)))))))))
def X10_costOf_b134  (v3 : Int32) (h : KH) : KO Int32 := kret v3 h
def X10_costOf_b127 (rc24 : Nat → Int32 → Int32 → Int32 → Int32 → KH → KO Int32) (v0 : Nat) (v1 : Int32) (v2 : Int32) (v4 : Int32) (s0 : Int32) (h : KH) : KO Int32 := rc24 v0 v1 v2 s0 (v4 + 1) h
def X10_costOf_b111 (rc24 : Nat → Int32 → Int32 → Int32 → Int32 → KH → KO Int32) (v0 : Nat) (v1 : Int32) (v2 : Int32) (v3 : Int32) (v4 : Int32) (s0 : Int32) (h : KH) : KO Int32 := kif (s0 = ((-1))) (X10_costOf_b127 rc24 v0 v1 v2 v4 ((-1)) h) (X10_costOf_b127 rc24 v0 v1 v2 v4 (v3 + s0) h)
def X10_costOf_b24 (rc24 : Nat → Int32 → Int32 → Int32 → Int32 → KH → KO Int32) (v0 : Nat) (v1 : Int32) (v2 : Int32) (v3 : Int32) (v4 : Int32) (h : KH) : KO Int32 := gN h v0 11 19 (fun a1 => gAI h a1 21 v1 (fun x1 => kif (x1 ≤ v4) (X10_costOf_b134  v3 h) (kif (v3 = ((-1))) (X10_costOf_b134  v3 h) (gN h v0 11 20 (fun a2 => gAI h a2 21 ((6 * v1) + v4) (fun x2 => gN h v0 11 10 (fun a3 => gAI h a3 21 ((6 * v2) + v4) (fun x3 => kif (x2 = x3) (X10_costOf_b111 rc24 v0 v1 v2 v3 v4 0 h) (kif (x2 = 14) (X10_costOf_b111 rc24 v0 v1 v2 v3 v4 2 h) (gN h v0 11 7 (fun a4 => gAI h a4 23 ((15 * x2) + x3) (fun x4 => kif (x4 = 0) (X10_costOf_b111 rc24 v0 v1 v2 v3 v4 ((-1)) h) (X10_costOf_b111 rc24 v0 v1 v2 v3 v4 1 h)))))))))))))
def X10_costOf_L24  : Nat → Nat → Int32 → Int32 → Int32 → Int32 → KH → KO Int32
  | 0, _, _, _, _, _, _ => none
  | n + 1, v0, v1, v2, v3, v4, h => X10_costOf_b24 (X10_costOf_L24  n) v0 v1 v2 v3 v4 h
def X10_costOf_b20  (v0 : Nat) (v1 : Int32) (v2 : Int32) (s0 : Int32) (h : KH) : KO Int32 := X10_costOf_L24  kF v0 v1 v2 s0 0 h
def f_X10_costOf (p0 : Nat) (p1 : Int32) (p2 : Int32) (h : KH) : KO Int32 := gN h p0 11 19 (fun a1 => gAI h a1 21 p1 (fun x1 => gN h p0 11 9 (fun a2 => gAI h a2 21 p2 (fun x2 => kif (x1 = x2) (X10_costOf_b20  p0 p1 p2 0 h) (X10_costOf_b20  p0 p1 p2 ((-1)) h)))))
def X10_plateFor_b98  (s0 : Int32) (h : KH) : KO Int32 := kret s0 h
def X10_plateFor_b79  (v0 : Nat) (v1 : Int32) (v2 : Int32) (h : KH) : KO Int32 := gN h v0 11 21 (fun a1 => gAI h a1 23 v1 (fun x1 => kif (x1 = 0) (X10_plateFor_b98  v2 h) (gN h v0 11 22 (fun a2 => gAI h a2 21 v1 (fun x2 => X10_plateFor_b98  x2 h)))))
def X10_plateFor_b73 (rc7 : Nat → Int32 → Int32 → Int32 → Int32 → KH → KO Int32) (v0 : Nat) (v1 : Int32) (v2 : Int32) (v3 : Int32) (v4 : Int32) (h : KH) : KO Int32 := rc7 v0 v1 v2 v3 (v4 + 1) h
def X10_plateFor_b67 (rc7 : Nat → Int32 → Int32 → Int32 → Int32 → KH → KO Int32) (v0 : Nat) (v1 : Int32) (v4 : Int32) (v5 : Int32) (h : KH) : KO Int32 := X10_plateFor_b73 rc7 v0 v1 v4 v5 v4 h
def X10_plateFor_b7 (rc7 : Nat → Int32 → Int32 → Int32 → Int32 → KH → KO Int32) (v0 : Nat) (v1 : Int32) (v2 : Int32) (v3 : Int32) (v4 : Int32) (h : KH) : KO Int32 := gI h v0 11 8 (fun x1 => kif (x1 ≤ v4) (X10_plateFor_b79  v0 v1 v2 h) (gN h v0 11 21 (fun a1 => gAI h a1 23 v1 (fun x2 => kif (x2 = 0) (kcallV 11 v0 h (f_X10_costOf v0 v1 v4 h) (fun x3 h1 => kif (x3 = ((-1))) (X10_plateFor_b73 rc7 v0 v1 v2 v3 v4 h1) (kif (v2 = ((-1))) (X10_plateFor_b67 rc7 v0 v1 v4 x3 h1) (kif (x3 < v3) (X10_plateFor_b67 rc7 v0 v1 v4 x3 h1) (kif (x3 = v3) (kcallV 11 v0 h1 (f_X10_isAhead v0 v4 v2 h1) (fun x4 h2 => kif (x4 = 0) (X10_plateFor_b73 rc7 v0 v1 v2 v3 v4 h2) (X10_plateFor_b67 rc7 v0 v1 v4 x3 h2))) (X10_plateFor_b73 rc7 v0 v1 v2 v3 v4 h1)))))) (X10_plateFor_b79  v0 v1 v2 h)))))
def X10_plateFor_L7  : Nat → Nat → Int32 → Int32 → Int32 → Int32 → KH → KO Int32
  | 0, _, _, _, _, _, _ => none
  | n + 1, v0, v1, v2, v3, v4, h => X10_plateFor_b7 (X10_plateFor_L7  n) v0 v1 v2 v3 v4 h
def f_X10_plateFor (p0 : Nat) (p1 : Int32) (h : KH) : KO Int32 := X10_plateFor_L7  kF p0 p1 ((-1)) ((-1)) 0 h
def X10_correct_b38  (v0 : Nat) (v1 : Int32) (v2 : Int32) (s0 : Int32) (s1 : Nat) (h : KH) : KO Int32 := kcallV 11 s1 h (f_X10_can s1 s0 h) (fun x1 h1 => kif (x1 = 0) (kret 0 h1) (kcallV 11 v0 h1 (f_X10_plateFor v0 v1 h1) (fun x2 h2 => gN h2 v0 11 21 (fun a1 => pAZ h2 a1 23 v1 1 (fun h3 => gN h3 v0 11 22 (fun a2 => pAI h3 a2 21 v1 v2 (fun h4 => kret x2 h4)))))))
def X10_correct_b27  (v0 : Nat) (v1 : Int32) (v2 : Int32) (s0 : Int32) (h : KH) : KO Int32 := kif (s0 = 0) (X10_correct_b38  v0 v1 v2 1 v0 h) (X10_correct_b38  v0 v1 v2 0 v0 h)
def X10_correct_b26  (v0 : Nat) (v1 : Int32) (v2 : Int32) (h : KH) : KO Int32 := X10_correct_b27  v0 v1 v2 0 h
def f_X10_correct (p0 : Nat) (p1 : Int32) (p2 : Int32) (h : KH) : KO Int32 := kcallV 11 p0 h (f_X10_isReading p0 p1 h) (fun x1 h1 => kif (x1 = 0) (X10_correct_b26  p0 p1 p2 h1) (gI h1 p0 11 8 (fun x2 => kbind (f_X10_isIn p2 ((-1)) (x2 - 1) h1) (fun x3 h2 => kif (x3 = 0) (X10_correct_b26  p0 p1 p2 h2) (X10_correct_b27  p0 p1 p2 1 h2)))))
def X10_uncorrect_b27  (v0 : Nat) (v1 : Int32) (s0 : Int32) (s1 : Nat) (h : KH) : KO Int32 := kcallV 11 s1 h (f_X10_can s1 s0 h) (fun x1 h1 => kif (x1 = 0) (kret 0 h1) (gN h1 v0 11 21 (fun a1 => pAZ h1 a1 23 v1 0 (fun h2 => kcallV 11 v0 h2 (f_X10_plateFor v0 v1 h2) (fun x2 h3 => kret x2 h3)))))
def f_X10_uncorrect (p0 : Nat) (p1 : Int32) (h : KH) : KO Int32 := kcallV 11 p0 h (f_X10_isReading p0 p1 h) (fun x1 h1 => kif (x1 = 0) (X10_uncorrect_b27  p0 p1 1 p0 h1) (gN h1 p0 11 21 (fun a1 => gAI h1 a1 23 p1 (fun x2 => kif (x2 = 0) (X10_uncorrect_b27  p0 p1 2 p0 h1) (X10_uncorrect_b27  p0 p1 0 p0 h1)))))
def X10_plateOf_b29  (s0 : Int32) (h : KH) : KO Int32 := kret s0 h
def X10_plateOf_b14  (v0 : Nat) (v1 : Int32) (s0 : Int32) (s1 : Nat) (h : KH) : KO Int32 := kcallV 11 s1 h (f_X10_can s1 s0 h) (fun x1 h1 => kif (x1 = 0) (X10_plateOf_b29  0 h1) (kcallV 11 v0 h1 (f_X10_plateFor v0 v1 h1) (fun x2 h2 => X10_plateOf_b29  x2 h2)))
def f_X10_plateOf (p0 : Nat) (p1 : Int32) (h : KH) : KO Int32 := kcallV 11 p0 h (f_X10_isReading p0 p1 h) (fun x1 h1 => kif (x1 = 0) (X10_plateOf_b14  p0 p1 1 p0 h1) (X10_plateOf_b14  p0 p1 0 p0 h1))
def X10_cost_b38  (s0 : Int32) (h : KH) : KO Int32 := kret s0 h
def X10_cost_b22  (v0 : Nat) (v1 : Int32) (v2 : Int32) (s0 : Int32) (s1 : Nat) (h : KH) : KO Int32 := kcallV 11 s1 h (f_X10_can s1 s0 h) (fun x1 h1 => kif (x1 = 0) (X10_cost_b38  0 h1) (kcallV 11 v0 h1 (f_X10_costOf v0 v1 v2 h1) (fun x2 h2 => X10_cost_b38  x2 h2)))
def X10_cost_b21  (v0 : Nat) (v1 : Int32) (v2 : Int32) (s0 : Nat) (h : KH) : KO Int32 := X10_cost_b22  v0 v1 v2 1 s0 h
def f_X10_cost (p0 : Nat) (p1 : Int32) (p2 : Int32) (h : KH) : KO Int32 := kcallV 11 p0 h (f_X10_isReading p0 p1 h) (fun x1 h1 => kif (x1 = 0) (X10_cost_b21  p0 p1 p2 p0 h1) (kcallV 11 p0 h1 (f_X10_isPlate p0 p2 h1) (fun x2 h2 => kif (x2 = 0) (X10_cost_b21  p0 p1 p2 p0 h2) (X10_cost_b22  p0 p1 p2 0 p0 h2))))
def X10_isBefore_b40  (s0 : Int32) (h : KH) : KO Int32 := kretZ s0 h
def X10_isBefore_b39   (h : KH) : KO Int32 := X10_isBefore_b40  0 h
def X10_isBefore_b35   (h : KH) : KO Int32 := X10_isBefore_b40  1 h
def f_X10_isBefore (p0 : Nat) (p1 : Int32) (p2 : Int32) (h : KH) : KO Int32 := gN h p0 11 18 (fun a1 => gAI h a1 21 p1 (fun x1 => gN h p0 11 18 (fun a2 => gAI h a2 21 p2 (fun x2 => kif (x1 < x2) (X10_isBefore_b35   h) (gN h p0 11 18 (fun a3 => gAI h a3 21 p1 (fun x3 => gN h p0 11 18 (fun a4 => gAI h a4 21 p2 (fun x4 => kif (x3 = x4) (kif (p2 ≤ p1) (X10_isBefore_b39   h) (X10_isBefore_b35   h)) (X10_isBefore_b39   h))))))))))
def X10_next_b73 (rc5 : Nat → Int32 → Int32 → Int32 → Int32 → KH → KO Int32) (v0 : Nat) (v1 : Int32) (v2 : Int32) (v4 : Int32) (s0 : Int32) (h : KH) : KO Int32 := rc5 v0 v1 v2 s0 (v4 + 1) h
def X10_next_b72 (rc5 : Nat → Int32 → Int32 → Int32 → Int32 → KH → KO Int32) (v0 : Nat) (v1 : Int32) (v2 : Int32) (v3 : Int32) (v4 : Int32) (h : KH) : KO Int32 := X10_next_b73 rc5 v0 v1 v2 v4 v3 h
def X10_next_b67 (rc5 : Nat → Int32 → Int32 → Int32 → Int32 → KH → KO Int32) (v0 : Nat) (v1 : Int32) (v2 : Int32) (v4 : Int32) (h : KH) : KO Int32 := X10_next_b73 rc5 v0 v1 v2 v4 v4 h
def X10_next_b45 (rc5 : Nat → Int32 → Int32 → Int32 → Int32 → KH → KO Int32) (v0 : Nat) (v1 : Int32) (v2 : Int32) (v3 : Int32) (v4 : Int32) (s0 : Int32) (h : KH) : KO Int32 := kif (s0 = 0) (X10_next_b72 rc5 v0 v1 v2 v3 v4 h) (kif (v3 = ((-1))) (X10_next_b67 rc5 v0 v1 v2 v4 h) (kcallV 11 v0 h (f_X10_isBefore v0 v4 v3 h) (fun x1 h1 => kif (x1 = 0) (X10_next_b72 rc5 v0 v1 v2 v3 v4 h1) (X10_next_b67 rc5 v0 v1 v2 v4 h1))))
def X10_next_b44 (rc5 : Nat → Int32 → Int32 → Int32 → Int32 → KH → KO Int32) (v0 : Nat) (v1 : Int32) (v2 : Int32) (v3 : Int32) (v4 : Int32) (h : KH) : KO Int32 := X10_next_b45 rc5 v0 v1 v2 v3 v4 0 h
def X10_next_b40 (rc5 : Nat → Int32 → Int32 → Int32 → Int32 → KH → KO Int32) (v0 : Nat) (v1 : Int32) (v2 : Int32) (v3 : Int32) (v4 : Int32) (h : KH) : KO Int32 := X10_next_b45 rc5 v0 v1 v2 v3 v4 1 h
def X10_next_b5 (rc5 : Nat → Int32 → Int32 → Int32 → Int32 → KH → KO Int32) (v0 : Nat) (v1 : Int32) (v2 : Int32) (v3 : Int32) (v4 : Int32) (h : KH) : KO Int32 := gI h v0 11 16 (fun x1 => kif (x1 ≤ v4) (kret v3 h) (gN h v0 11 23 (fun a1 => gAI h a1 21 v4 (fun x2 => kif (x2 = v1) (kif (v2 = ((-1))) (X10_next_b40 rc5 v0 v1 v2 v3 v4 h) (kcallV 11 v0 h (f_X10_isBefore v0 v2 v4 h) (fun x3 h1 => kif (x3 = 0) (X10_next_b44 rc5 v0 v1 v2 v3 v4 h1) (X10_next_b40 rc5 v0 v1 v2 v3 v4 h1)))) (X10_next_b44 rc5 v0 v1 v2 v3 v4 h)))))
def X10_next_L5  : Nat → Nat → Int32 → Int32 → Int32 → Int32 → KH → KO Int32
  | 0, _, _, _, _, _, _ => none
  | n + 1, v0, v1, v2, v3, v4, h => X10_next_b5 (X10_next_L5  n) v0 v1 v2 v3 v4 h
def f_X10_next (p0 : Nat) (p1 : Int32) (p2 : Int32) (h : KH) : KO Int32 := X10_next_L5  kF p0 p1 p2 ((-1)) 0 h
def X10_begins_b75  (s0 : Int32) (h : KH) : KO Int32 := kretZ s0 h
def X10_begins_b70   (h : KH) : KO Int32 := X10_begins_b75  1 h
def f_X10_begins (p0 : Nat) (p1 : Int32) (p2 : Int32) (h : KH) : KO Int32 := kif (p1 = ((-1))) (kretZ 1 h) (gN h p0 11 3 (fun a1 => gN h p0 11 17 (fun a2 => gAI h a2 21 p1 (fun x1 => gN h p0 11 17 (fun a3 => gAI h a3 21 p2 (fun x2 => gAI h a1 21 ((8 * x1) + x2) (fun x3 => gN h p0 11 18 (fun a4 => gAI h a4 21 p2 (fun x4 => gN h p0 11 18 (fun a5 => gAI h a5 21 p1 (fun x5 => kif (x3 = ((-1))) (X10_begins_b70   h) (gI h p0 11 1 (fun x6 => kif (((2 * x3) + x6) < (x4 - x5)) (X10_begins_b70   h) (kif (x3 ≤ (4 * (x4 - x5))) (X10_begins_b75  0 h) (X10_begins_b70   h)))))))))))))))
def X10_joinsAgain_b34 (rc12 : Nat → Int32 → Int32 → Int32 → Int32 → KH → KO Int32) (v0 : Nat) (v1 : Int32) (v4 : Int32) (s0 : Int32) (s1 : Int32) (h : KH) : KO Int32 := gN h v0 11 24 (fun a1 => pAI h a1 21 v4 ((s1 + s0) - 1) (fun h1 => kcallV 11 v0 h1 (f_X10_next v0 v1 v4 h1) (fun x1 h2 => rc12 v0 v1 (s1 + s0) v4 x1 h2)))
def X10_joinsAgain_b12 (rc12 : Nat → Int32 → Int32 → Int32 → Int32 → KH → KO Int32) (v0 : Nat) (v1 : Int32) (v2 : Int32) (v3 : Int32) (v4 : Int32) (h : KH) : KO Int32 := kif (v4 = ((-1))) (kret v2 h) (kcallV 11 v0 h (f_X10_begins v0 v3 v4 h) (fun x1 h1 => kif (x1 = 0) (X10_joinsAgain_b34 rc12 v0 v1 v4 0 v2 h1) (X10_joinsAgain_b34 rc12 v0 v1 v4 1 v2 h1)))
def X10_joinsAgain_L12  : Nat → Nat → Int32 → Int32 → Int32 → Int32 → KH → KO Int32
  | 0, _, _, _, _, _, _ => none
  | n + 1, v0, v1, v2, v3, v4, h => X10_joinsAgain_b12 (X10_joinsAgain_L12  n) v0 v1 v2 v3 v4 h
def f_X10_joinsAgain (p0 : Nat) (p1 : Int32) (h : KH) : KO Int32 := kcallV 11 p0 h (f_X10_next p0 p1 ((-1)) h) (fun x1 h1 => X10_joinsAgain_L12  kF p0 p1 0 ((-1)) x1 h1)
def X10_joins_b2 (rc2 : Nat → Int32 → Int32 → KH → KO Int32) (v0 : Nat) (v1 : Int32) (v2 : Int32) (h : KH) : KO Int32 := gI h v0 11 16 (fun x1 => kif (x1 ≤ v2) (kcallV 11 v0 h (f_X10_joinsAgain v0 v1 h) (fun x2 h1 => kret x2 h1)) (gN h v0 11 23 (fun a1 => kcallV 11 v0 h (f_X10_plateFor v0 v2 h) (fun x3 h2 => pAI h2 a1 21 v2 x3 (fun h3 => rc2 v0 v1 (v2 + 1) h3)))))
def X10_joins_L2  : Nat → Nat → Int32 → Int32 → KH → KO Int32
  | 0, _, _, _, _ => none
  | n + 1, v0, v1, v2, h => X10_joins_b2 (X10_joins_L2  n) v0 v1 v2 h
def f_X10_joins (p0 : Nat) (p1 : Int32) (h : KH) : KO Int32 := X10_joins_L2  kF p0 p1 0 h
def X10_trips_b29  (s0 : Int32) (h : KH) : KO Int32 := kret s0 h
def X10_trips_b14  (v0 : Nat) (v1 : Int32) (s0 : Int32) (s1 : Nat) (h : KH) : KO Int32 := kcallV 11 s1 h (f_X10_can s1 s0 h) (fun x1 h1 => kif (x1 = 0) (X10_trips_b29  0 h1) (kcallV 11 v0 h1 (f_X10_joins v0 v1 h1) (fun x2 h2 => X10_trips_b29  x2 h2)))
def f_X10_trips (p0 : Nat) (p1 : Int32) (h : KH) : KO Int32 := kcallV 11 p0 h (f_X10_isPlate p0 p1 h) (fun x1 h1 => kif (x1 = 0) (X10_trips_b14  p0 p1 1 p0 h1) (X10_trips_b14  p0 p1 0 p0 h1))
def X10_tripsAnew_b29  (s0 : Int32) (h : KH) : KO Int32 := kret s0 h
def X10_tripsAnew_b14  (v0 : Nat) (v1 : Int32) (s0 : Int32) (s1 : Nat) (h : KH) : KO Int32 := kcallV 11 s1 h (f_X10_can s1 s0 h) (fun x1 h1 => kif (x1 = 0) (X10_tripsAnew_b29  0 h1) (kcallV 11 v0 h1 (f_X10_joins v0 v1 h1) (fun x2 h2 => X10_tripsAnew_b29  x2 h2)))
def f_X10_tripsAnew (p0 : Nat) (p1 : Int32) (h : KH) : KO Int32 := kcallV 11 p0 h (f_X10_isPlate p0 p1 h) (fun x1 h1 => kif (x1 = 0) (X10_tripsAnew_b14  p0 p1 1 p0 h1) (X10_tripsAnew_b14  p0 p1 0 p0 h1))
def X10_tripOf_b14  (v0 : Nat) (v1 : Int32) (s0 : Int32) (s1 : Nat) (h : KH) : KO Int32 := kcallV 11 s1 h (f_X10_can s1 s0 h) (fun x1 h1 => kif (x1 = 0) (kret 0 h1) (kcallV 11 v0 h1 (f_X10_plateFor v0 v1 h1) (fun x2 h2 => kif (x2 = ((-1))) (kret ((-1)) h2) (kcallV 11 v0 h2 (f_X10_joins v0 x2 h2) (fun x3 h3 => gN h3 v0 11 24 (fun a1 => gAI h3 a1 21 v1 (fun x4 => kret x4 h3)))))))
def f_X10_tripOf (p0 : Nat) (p1 : Int32) (h : KH) : KO Int32 := kcallV 11 p0 h (f_X10_isReading p0 p1 h) (fun x1 h1 => kif (x1 = 0) (X10_tripOf_b14  p0 p1 1 p0 h1) (X10_tripOf_b14  p0 p1 0 p0 h1))
def X10_firstOf_b7 (rc7 : Nat → Int32 → Int32 → Int32 → KH → KO Int32) (v0 : Nat) (v1 : Int32) (v2 : Int32) (v3 : Int32) (h : KH) : KO Int32 := gN h v0 11 24 (fun a1 => gAI h a1 21 v3 (fun x1 => kif (x1 = v2) (kret v3 h) (kcallV 11 v0 h (f_X10_next v0 v1 v3 h) (fun x2 h1 => rc7 v0 v1 v2 x2 h1))))
def X10_firstOf_L7  : Nat → Nat → Int32 → Int32 → Int32 → KH → KO Int32
  | 0, _, _, _, _, _ => none
  | n + 1, v0, v1, v2, v3, h => X10_firstOf_b7 (X10_firstOf_L7  n) v0 v1 v2 v3 h
def f_X10_firstOf (p0 : Nat) (p1 : Int32) (p2 : Int32) (h : KH) : KO Int32 := kcallV 11 p0 h (f_X10_next p0 p1 ((-1)) h) (fun x1 h1 => X10_firstOf_L7  kF p0 p1 p2 x1 h1)
def X10_tollOf_b78  (v0 : Nat) (v1 : Int32) (v3 : Int32) (h : KH) : KO Int32 := gN h v0 11 4 (fun a1 => gN h v0 11 11 (fun a2 => gAI h a2 21 v1 (fun x1 => gAI h a1 21 x1 (fun x2 => kret (x2 * v3) h))))
def X10_tollOf_b19 (rc19 : Nat → Int32 → Int32 → Int32 → Int32 → Int32 → KH → KO Int32) (v0 : Nat) (v1 : Int32) (v2 : Int32) (v3 : Int32) (v4 : Int32) (v5 : Int32) (h : KH) : KO Int32 := kif (v5 = ((-1))) (X10_tollOf_b78  v0 v1 v3 h) (gN h v0 11 24 (fun a1 => gAI h a1 21 v5 (fun x1 => kif (x1 = v2) (gN h v0 11 3 (fun a2 => gN h v0 11 17 (fun a3 => gAI h a3 21 v4 (fun x2 => gN h v0 11 17 (fun a4 => gAI h a4 21 v5 (fun x3 => gAI h a2 21 ((8 * x2) + x3) (fun x4 => kcallV 11 v0 h (f_X10_next v0 v1 v5 h) (fun x5 h1 => rc19 v0 v1 v2 (v3 + x4) v5 x5 h1)))))))) (X10_tollOf_b78  v0 v1 v3 h))))
def X10_tollOf_L19  : Nat → Nat → Int32 → Int32 → Int32 → Int32 → Int32 → KH → KO Int32
  | 0, _, _, _, _, _, _, _ => none
  | n + 1, v0, v1, v2, v3, v4, v5, h => X10_tollOf_b19 (X10_tollOf_L19  n) v0 v1 v2 v3 v4 v5 h
def f_X10_tollOf (p0 : Nat) (p1 : Int32) (p2 : Int32) (h : KH) : KO Int32 := kcallV 11 p0 h (f_X10_firstOf p0 p1 p2 h) (fun x1 h1 => kcallV 11 p0 h1 (f_X10_next p0 p1 x1 h1) (fun x2 h2 => X10_tollOf_L19  kF p0 p1 p2 2 x1 x2 h2))
def X10_isTrip_b27  (s0 : Int32) (s1 : Nat) (h : KH) : KO Int32 := kcallV 11 s1 h (f_X10_can s1 s0 h) (fun x1 h1 => kretZ x1 h1)
def X10_isTrip_b26  (s0 : Nat) (h : KH) : KO Int32 := X10_isTrip_b27  1 s0 h
def f_X10_isTrip (p0 : Nat) (p1 : Int32) (p2 : Int32) (h : KH) : KO Int32 := kcallV 11 p0 h (f_X10_isPlate p0 p1 h) (fun x1 h1 => kif (x1 = 0) (X10_isTrip_b26  p0 h1) (kif (p2 < 0) (X10_isTrip_b26  p0 h1) (kcallV 11 p0 h1 (f_X10_joins p0 p1 h1) (fun x2 h2 => kif (x2 ≤ p2) (X10_isTrip_b26  p0 h2) (X10_isTrip_b27  0 p0 h2)))))
def X10_toll_b19  (s0 : Int32) (h : KH) : KO Int32 := kret s0 h
def f_X10_toll (p0 : Nat) (p1 : Int32) (p2 : Int32) (h : KH) : KO Int32 := kcallV 11 p0 h (f_X10_isTrip p0 p1 p2 h) (fun x1 h1 => kif (x1 = 0) (X10_toll_b19  0 h1) (kcallV 11 p0 h1 (f_X10_tollOf p0 p1 p2 h1) (fun x2 h2 => X10_toll_b19  x2 h2)))
def X10_driverOf_b29  (s0 : Int32) (h : KH) : KO Int32 := kret s0 h
def f_X10_driverOf (p0 : Nat) (p1 : Int32) (p2 : Int32) (h : KH) : KO Int32 := kcallV 11 p0 h (f_X10_isTrip p0 p1 p2 h) (fun x1 h1 => kif (x1 = 0) (X10_driverOf_b29  0 h1) (gN h1 p0 11 18 (fun a1 => kcallV 11 p0 h1 (f_X10_firstOf p0 p1 p2 h1) (fun x2 h2 => gAI h2 a1 21 x2 (fun x3 => kcallV 11 p0 h2 (f_X10_holderAt p0 p1 x3 h2) (fun x4 h3 => X10_driverOf_b29  x4 h3))))))
def X10_dueFrom_b68 (rc10 : Nat → Int32 → Int32 → Int32 → KH → KO Int32) (rc28 : Nat → Int32 → Int32 → Int32 → Int32 → Int32 → KH → KO Int32) (v0 : Nat) (v1 : Int32) (v3 : Int32) (v4 : Int32) (v5 : Int32) (s0 : Int32) (s1 : Int32) (h : KH) : KO Int32 := rc28 v0 v1 (s1 + s0) v3 v4 (v5 + 1) h
def X10_dueFrom_b28 (rc10 : Nat → Int32 → Int32 → Int32 → KH → KO Int32) (rc28 : Nat → Int32 → Int32 → Int32 → Int32 → Int32 → KH → KO Int32) (v0 : Nat) (v1 : Int32) (v2 : Int32) (v3 : Int32) (v4 : Int32) (v5 : Int32) (h : KH) : KO Int32 := kif (v4 ≤ v5) (rc10 v0 v1 v2 (v3 + 1) h) (gN h v0 11 18 (fun a1 => kcallV 11 v0 h (f_X10_firstOf v0 v3 v5 h) (fun x1 h1 => gAI h1 a1 21 x1 (fun x2 => kcallV 11 v0 h1 (f_X10_holderAt v0 v3 x2 h1) (fun x3 h2 => kif (x3 = v1) (kcallV 11 v0 h2 (f_X10_tollOf v0 v3 v5 h2) (fun x4 h3 => X10_dueFrom_b68 rc10 rc28 v0 v1 v3 v4 v5 x4 v2 h3)) (X10_dueFrom_b68 rc10 rc28 v0 v1 v3 v4 v5 0 v2 h2))))))
def X10_dueFrom_L28 (rc10 : Nat → Int32 → Int32 → Int32 → KH → KO Int32) : Nat → Nat → Int32 → Int32 → Int32 → Int32 → Int32 → KH → KO Int32
  | 0, _, _, _, _, _, _, _ => none
  | n + 1, v0, v1, v2, v3, v4, v5, h => X10_dueFrom_b28 rc10 (X10_dueFrom_L28 rc10 n) v0 v1 v2 v3 v4 v5 h
def X10_dueFrom_b10 (rc10 : Nat → Int32 → Int32 → Int32 → KH → KO Int32) (v0 : Nat) (v1 : Int32) (v2 : Int32) (v3 : Int32) (h : KH) : KO Int32 := gI h v0 11 8 (fun x1 => kif (x1 ≤ v3) (kret v2 h) (kcallV 11 v0 h (f_X10_joinsAgain v0 v3 h) (fun x2 h1 => X10_dueFrom_L28 rc10 kF v0 v1 v2 v3 x2 0 h1)))
def X10_dueFrom_L10  : Nat → Nat → Int32 → Int32 → Int32 → KH → KO Int32
  | 0, _, _, _, _, _ => none
  | n + 1, v0, v1, v2, v3, h => X10_dueFrom_b10 (X10_dueFrom_L10  n) v0 v1 v2 v3 h
def f_X10_dueFrom (p0 : Nat) (p1 : Int32) (h : KH) : KO Int32 := kcallV 11 p0 h (f_X10_joins p0 ((-1)) h) (fun x1 h1 => X10_dueFrom_L10  kF p0 p1 0 0 h1)
def X10_due_b28  (s0 : Int32) (h : KH) : KO Int32 := kret s0 h
def X10_due_b13  (v0 : Nat) (v1 : Int32) (s0 : Int32) (s1 : Nat) (h : KH) : KO Int32 := kcallV 11 s1 h (f_X10_can s1 s0 h) (fun x1 h1 => kif (x1 = 0) (X10_due_b28  0 h1) (kcallV 11 v0 h1 (f_X10_dueFrom v0 v1 h1) (fun x2 h2 => X10_due_b28  x2 h2)))
def f_X10_due (p0 : Nat) (p1 : Int32) (h : KH) : KO Int32 := kbind (f_X10_isDriver p1 h) (fun x1 h1 => kif (x1 = 0) (X10_due_b13  p0 p1 1 p0 h1) (X10_due_b13  p0 p1 0 p0 h1))
def X10_dueAnew_b28  (s0 : Int32) (h : KH) : KO Int32 := kret s0 h
def X10_dueAnew_b13  (v0 : Nat) (v1 : Int32) (s0 : Int32) (s1 : Nat) (h : KH) : KO Int32 := kcallV 11 s1 h (f_X10_can s1 s0 h) (fun x1 h1 => kif (x1 = 0) (X10_dueAnew_b28  0 h1) (kcallV 11 v0 h1 (f_X10_dueFrom v0 v1 h1) (fun x2 h2 => X10_dueAnew_b28  x2 h2)))
def f_X10_dueAnew (p0 : Nat) (p1 : Int32) (h : KH) : KO Int32 := kbind (f_X10_isDriver p1 h) (fun x1 h1 => kif (x1 = 0) (X10_dueAnew_b13  p0 p1 1 p0 h1) (X10_dueAnew_b13  p0 p1 0 p0 h1))
def X10_settle_b91 (rc9 : Nat → Int32 → Int32 → KH → KO Int32) (v0 : Nat) (v2 : Int32) (s0 : Int32) (s1 : Int32) (h : KH) : KO Int32 := rc9 v0 (s1 + s0) (v2 + 1) h
def X10_settle_b75 (rc9 : Nat → Int32 → Int32 → KH → KO Int32) (v0 : Nat) (v1 : Int32) (v2 : Int32) (v3 : Int64) (s0 : Int64) (s1 : Int64) (s2 : Int32) (s3 : Nat) (h : KH) : KO Int32 := pAL h s3 22 s2 (s1 + s0) (fun h1 => kif (0 ≤ (lg_cmp v3 0)) (X10_settle_b91 rc9 v0 v2 0 v1 h1) (X10_settle_b91 rc9 v0 v2 ((-v3).toInt32) v1 h1))
def X10_settle_b54 (rc9 : Nat → Int32 → Int32 → KH → KO Int32) (v0 : Nat) (v1 : Int32) (v2 : Int32) (v3 : Int64) (s0 : Int64) (s1 : Int64) (s2 : Int32) (s3 : Nat) (h : KH) : KO Int32 := pAL h s3 22 s2 (s1 + s0) (fun h1 => gN h1 v0 11 26 (fun a1 => gAL h1 a1 22 v2 (fun x1 => kif (0 ≤ (lg_cmp v3 0)) (X10_settle_b75 rc9 v0 v1 v2 v3 0 x1 v2 a1 h1) (X10_settle_b75 rc9 v0 v1 v2 v3 (-v3) x1 v2 a1 h1))))
def X10_settle_b9 (rc9 : Nat → Int32 → Int32 → KH → KO Int32) (v0 : Nat) (v1 : Int32) (v2 : Int32) (h : KH) : KO Int32 := kif (6 ≤ v2) (kret v1 h) (kcallV 11 v0 h (f_X10_dueFrom v0 v2 h) (fun x1 h1 => gN h1 v0 11 25 (fun a1 => gAL h1 a1 22 v2 (fun x2 => gN h1 v0 11 26 (fun a2 => gAL h1 a2 22 v2 (fun x3 => gN h1 v0 11 25 (fun a3 => gAL h1 a3 22 v2 (fun x4 => kif ((lg_cmp (((x1.toInt64) - x2) + x3) 0) ≤ 0) (X10_settle_b54 rc9 v0 v1 v2 (((x1.toInt64) - x2) + x3) 0 x4 v2 a3 h1) (X10_settle_b54 rc9 v0 v1 v2 (((x1.toInt64) - x2) + x3) (((x1.toInt64) - x2) + x3) x4 v2 a3 h1)))))))))
def X10_settle_L9  : Nat → Nat → Int32 → Int32 → KH → KO Int32
  | 0, _, _, _, _ => none
  | n + 1, v0, v1, v2, h => X10_settle_b9 (X10_settle_L9  n) v0 v1 v2 h
def f_X10_settle (p0 : Nat) (h : KH) : KO Int32 := pI h p0 11 35 0 (fun h1 => X10_settle_L9  kF p0 0 0 h1)
def X10_billed_b29  (s0 : Int64) (h : KH) : KO Int64 := kret s0 h
def X10_billed_b13  (v0 : Nat) (v1 : Int32) (s0 : Int32) (s1 : Nat) (h : KH) : KO Int64 := kcallV 11 s1 h (f_X10_can s1 s0 h) (fun x1 h1 => kif (x1 = 0) (X10_billed_b29  0 h1) (gN h1 v0 11 25 (fun a1 => gAL h1 a1 22 v1 (fun x2 => X10_billed_b29  x2 h1))))
def f_X10_billed (p0 : Nat) (p1 : Int32) (h : KH) : KO Int64 := kbind (f_X10_isDriver p1 h) (fun x1 h1 => kif (x1 = 0) (X10_billed_b13  p0 p1 1 p0 h1) (X10_billed_b13  p0 p1 0 p0 h1))
def X10_paidBack_b29  (s0 : Int64) (h : KH) : KO Int64 := kret s0 h
def X10_paidBack_b13  (v0 : Nat) (v1 : Int32) (s0 : Int32) (s1 : Nat) (h : KH) : KO Int64 := kcallV 11 s1 h (f_X10_can s1 s0 h) (fun x1 h1 => kif (x1 = 0) (X10_paidBack_b29  0 h1) (gN h1 v0 11 26 (fun a1 => gAL h1 a1 22 v1 (fun x2 => X10_paidBack_b29  x2 h1))))
def f_X10_paidBack (p0 : Nat) (p1 : Int32) (h : KH) : KO Int64 := kbind (f_X10_isDriver p1 h) (fun x1 h1 => kif (x1 = 0) (X10_paidBack_b13  p0 p1 1 p0 h1) (X10_paidBack_b13  p0 p1 0 p0 h1))
def X10_warrant_b67  (v0 : Nat) (v1 : Int32) (v2 : Int32) (v3 : Int32) (s0 : Int32) (s1 : Nat) (h : KH) : KO Int32 := kcallV 11 s1 h (f_X10_can s1 s0 h) (fun x1 h1 => kif (x1 = 0) (kret 0 h1) (gN h1 v0 11 28 (fun a1 => gI h1 v0 11 27 (fun x2 => pAI h1 a1 21 x2 v1 (fun h2 => gN h2 v0 11 29 (fun a2 => gI h2 v0 11 27 (fun x3 => pAI h2 a2 21 x3 v2 (fun h3 => gN h3 v0 11 30 (fun a3 => gI h3 v0 11 27 (fun x4 => pAI h3 a3 21 x4 v3 (fun h4 => gI h4 v0 11 27 (fun x5 => pI h4 v0 11 27 (x5 + 1) (fun h5 => gI h5 v0 11 27 (fun x6 => kret (x6 - 1) h5))))))))))))))
def X10_warrant_b32  (v0 : Nat) (v1 : Int32) (v2 : Int32) (v3 : Int32) (v4 : Int32) (s0 : Int32) (h : KH) : KO Int32 := kif (v4 = 0) (X10_warrant_b67  v0 v1 v2 v3 1 v0 h) (kif (s0 = 0) (X10_warrant_b67  v0 v1 v2 v3 2 v0 h) (gI h v0 11 27 (fun x1 => kif (x1 = 8) (X10_warrant_b67  v0 v1 v2 v3 3 v0 h) (X10_warrant_b67  v0 v1 v2 v3 0 v0 h))))
def X10_warrant_b31  (v0 : Nat) (v1 : Int32) (v2 : Int32) (v3 : Int32) (v4 : Int32) (h : KH) : KO Int32 := X10_warrant_b32  v0 v1 v2 v3 v4 0 h
def f_X10_warrant (p0 : Nat) (p1 : Int32) (p2 : Int32) (p3 : Int32) (h : KH) : KO Int32 := kcallV 11 p0 h (f_X10_isPlate p0 p1 h) (fun x1 h1 => kbind (f_X10_isIn p2 0 34 h1) (fun x2 h2 => kif (x2 = 0) (X10_warrant_b31  p0 p1 p2 p3 x1 h2) (kbind (f_X10_isIn p3 p2 34 h2) (fun x3 h3 => kif (x3 = 0) (X10_warrant_b31  p0 p1 p2 p3 x1 h3) (X10_warrant_b32  p0 p1 p2 p3 x1 1 h3)))))
def X10_shows_b164  (v5 : Int32) (h : KH) : KO Int32 := kret v5 h
def X10_shows_b149 (rc33 : Nat → Int32 → Int32 → Int32 → Int32 → Int32 → Int32 → Int32 → Int32 → KH → KO Int32) (v0 : Nat) (v1 : Int32) (v2 : Int32) (v3 : Int32) (v5 : Int32) (v6 : Int32) (v7 : Int32) (v8 : Int32) (s0 : Int32) (s1 : Int32) (h : KH) : KO Int32 := kcallV 11 v0 h (f_X10_next v0 v3 v8 h) (fun x1 h1 => rc33 v0 v1 v2 v3 (s1 - s0) v5 v6 v7 x1 h1)
def X10_shows_b135 (rc33 : Nat → Int32 → Int32 → Int32 → Int32 → Int32 → Int32 → Int32 → Int32 → KH → KO Int32) (v0 : Nat) (v1 : Int32) (v2 : Int32) (v3 : Int32) (v4 : Int32) (v6 : Int32) (v7 : Int32) (v8 : Int32) (s0 : Int32) (h : KH) : KO Int32 := kif (v6 = 0) (X10_shows_b149 rc33 v0 v1 v2 v3 s0 v6 v7 v8 0 v4 h) (X10_shows_b149 rc33 v0 v1 v2 v3 s0 v6 v7 v8 1 v4 h)
def X10_shows_b134 (rc33 : Nat → Int32 → Int32 → Int32 → Int32 → Int32 → Int32 → Int32 → Int32 → KH → KO Int32) (v0 : Nat) (v1 : Int32) (v2 : Int32) (v3 : Int32) (v4 : Int32) (v6 : Int32) (v7 : Int32) (v8 : Int32) (h : KH) : KO Int32 := X10_shows_b135 rc33 v0 v1 v2 v3 v4 v6 v7 v8 ((-1)) h
def X10_shows_b92 (rc33 : Nat → Int32 → Int32 → Int32 → Int32 → Int32 → Int32 → Int32 → Int32 → KH → KO Int32) (v0 : Nat) (v1 : Int32) (v2 : Int32) (v3 : Int32) (v4 : Int32) (v8 : Int32) (s0 : Int32) (h : KH) : KO Int32 := gN h v0 11 24 (fun a1 => gAI h a1 21 v8 (fun x1 => kif (s0 = 0) (X10_shows_b134 rc33 v0 v1 v2 v3 v4 s0 x1 v8 h) (kif (v4 = 0) (gN h v0 11 17 (fun a2 => gAI h a2 21 v8 (fun x2 => gN h v0 11 18 (fun a3 => gAI h a3 21 v8 (fun x3 => X10_shows_b135 rc33 v0 v1 v2 v3 v4 s0 x1 v8 ((100000 * x2) + x3) h))))) (X10_shows_b134 rc33 v0 v1 v2 v3 v4 s0 x1 v8 h))))
def X10_shows_b33 (rc33 : Nat → Int32 → Int32 → Int32 → Int32 → Int32 → Int32 → Int32 → Int32 → KH → KO Int32) (v0 : Nat) (v1 : Int32) (v2 : Int32) (v3 : Int32) (v4 : Int32) (v5 : Int32) (v6 : Int32) (v7 : Int32) (v8 : Int32) (h : KH) : KO Int32 := kif (v8 = ((-1))) (X10_shows_b164  v5 h) (kif (v2 < 0) (X10_shows_b164  v5 h) (kif (v5 = ((-1))) (gN h v0 11 24 (fun a1 => gAI h a1 21 v8 (fun x1 => kif (x1 = v7) (X10_shows_b92 rc33 v0 v1 v2 v3 v4 v8 v6 h) (gN h v0 11 18 (fun a2 => gAI h a2 21 v8 (fun x2 => kdv 1440 (gN h v0 11 29 (fun a3 => gAI h a3 21 v1 (fun x3 => gN h v0 11 30 (fun a4 => gAI h a4 21 v1 (fun x4 => kbind (f_X10_isIn (x2 / 1440) x3 x4 h) (fun x5 h1 => X10_shows_b92 rc33 v0 v1 v2 v3 v4 v8 x5 h1)))))))))))) (X10_shows_b164  v5 h)))
def X10_shows_L33  : Nat → Nat → Int32 → Int32 → Int32 → Int32 → Int32 → Int32 → Int32 → Int32 → KH → KO Int32
  | 0, _, _, _, _, _, _, _, _, _, _ => none
  | n + 1, v0, v1, v2, v3, v4, v5, v6, v7, v8, h => X10_shows_b33 (X10_shows_L33  n) v0 v1 v2 v3 v4 v5 v6 v7 v8 h
def f_X10_shows (p0 : Nat) (p1 : Int32) (p2 : Int32) (h : KH) : KO Int32 := gN h p0 11 28 (fun a1 => gAI h a1 21 p1 (fun x1 => kcallV 11 p0 h (f_X10_joins p0 x1 h) (fun x2 h1 => kcallV 11 p0 h1 (f_X10_next p0 x1 ((-1)) h1) (fun x3 h2 => X10_shows_L33  kF p0 p1 p2 x1 p2 ((-1)) 0 ((-1)) x3 h2))))
def f_X10_isWarrant (p0 : Nat) (p1 : Int32) (h : KH) : KO Int32 := gI h p0 11 27 (fun x1 => kbind (f_X10_isIn p1 0 (x1 - 1) h) (fun x2 h1 => kretZ x2 h1))
def X10_ask_b72  (v0 : Nat) (v1 : Int32) (v2 : Int32) (v5 : Int32) (s0 : Int32) (s1 : Nat) (h : KH) : KO Int32 := kcallV 11 s1 h (f_X10_can s1 s0 h) (fun x1 h1 => kif (x1 = 0) (kret 0 h1) (gN h1 v0 11 32 (fun a1 => gI h1 v0 11 31 (fun x2 => pAI h1 a1 21 x2 v1 (fun h2 => gN h2 v0 11 33 (fun a2 => gI h2 v0 11 31 (fun x3 => pAI h2 a2 21 x3 v2 (fun h3 => gN h3 v0 11 34 (fun a3 => gI h3 v0 11 31 (fun x4 => pAI h3 a3 21 x4 v5 (fun h4 => gI h4 v0 11 31 (fun x5 => pI h4 v0 11 31 (x5 + 1) (fun h5 => kret v5 h5)))))))))))))
def X10_ask_b41  (v0 : Nat) (v1 : Int32) (v2 : Int32) (v3 : Int32) (v4 : Int32) (s0 : Int32) (h : KH) : KO Int32 := kif (v3 = 0) (X10_ask_b72  v0 v1 v2 s0 1 v0 h) (kif (v4 = 0) (kif (s0 = ((-1))) (X10_ask_b72  v0 v1 v2 s0 3 v0 h) (X10_ask_b72  v0 v1 v2 s0 0 v0 h)) (X10_ask_b72  v0 v1 v2 s0 2 v0 h))
def X10_ask_b40  (v0 : Nat) (v1 : Int32) (v2 : Int32) (v3 : Int32) (v4 : Int32) (h : KH) : KO Int32 := X10_ask_b41  v0 v1 v2 v3 v4 ((-1)) h
def X10_ask_b20  (v0 : Nat) (v1 : Int32) (v2 : Int32) (v3 : Int32) (s0 : Int32) (h : KH) : KO Int32 := kif (v3 = 0) (X10_ask_b40  v0 v1 v2 v3 s0 h) (kif (s0 = 0) (kcallV 11 v0 h (f_X10_shows v0 v1 v2 h) (fun x1 h1 => X10_ask_b41  v0 v1 v2 v3 s0 x1 h1)) (X10_ask_b40  v0 v1 v2 v3 s0 h))
def f_X10_ask (p0 : Nat) (p1 : Int32) (p2 : Int32) (h : KH) : KO Int32 := kcallV 11 p0 h (f_X10_isWarrant p0 p1 h) (fun x1 h1 => gI h1 p0 11 31 (fun x2 => kif (x2 = 40) (X10_ask_b20  p0 p1 p2 x1 1 h1) (X10_ask_b20  p0 p1 p2 x1 0 h1)))
def X10_stale_b70 (rc26 : Nat → Int32 → Int32 → Int32 → KH → KO Int32) (v0 : Nat) (v1 : Int32) (v3 : Int32) (s0 : Int32) (s1 : Int32) (h : KH) : KO Int32 := rc26 v0 v1 (s1 + s0) (v3 + 1) h
def X10_stale_b69 (rc26 : Nat → Int32 → Int32 → Int32 → KH → KO Int32) (v0 : Nat) (v1 : Int32) (v3 : Int32) (s0 : Int32) (h : KH) : KO Int32 := X10_stale_b70 rc26 v0 v1 v3 0 s0 h
def X10_stale_b26 (rc26 : Nat → Int32 → Int32 → Int32 → KH → KO Int32) (v0 : Nat) (v1 : Int32) (v2 : Int32) (v3 : Int32) (h : KH) : KO Int32 := gI h v0 11 31 (fun x1 => kif (x1 ≤ v3) (kret v2 h) (gN h v0 11 32 (fun a1 => gAI h a1 21 v3 (fun x2 => kif (x2 = v1) (gN h v0 11 33 (fun a2 => gAI h a2 21 v3 (fun x3 => kcallV 11 v0 h (f_X10_shows v0 v1 x3 h) (fun x4 h1 => gN h1 v0 11 34 (fun a3 => gAI h1 a3 21 v3 (fun x5 => kif (x4 = x5) (X10_stale_b69 rc26 v0 v1 v3 v2 h1) (X10_stale_b70 rc26 v0 v1 v3 1 v2 h1))))))) (X10_stale_b69 rc26 v0 v1 v3 v2 h)))))
def X10_stale_L26  : Nat → Nat → Int32 → Int32 → Int32 → KH → KO Int32
  | 0, _, _, _, _, _ => none
  | n + 1, v0, v1, v2, v3, h => X10_stale_b26 (X10_stale_L26  n) v0 v1 v2 v3 h
def X10_stale_b14  (v0 : Nat) (v1 : Int32) (s0 : Int32) (s1 : Nat) (h : KH) : KO Int32 := kcallV 11 s1 h (f_X10_can s1 s0 h) (fun x1 h1 => kif (x1 = 0) (kret 0 h1) (X10_stale_L26  kF v0 v1 0 0 h1))
def f_X10_stale (p0 : Nat) (p1 : Int32) (h : KH) : KO Int32 := kcallV 11 p0 h (f_X10_isWarrant p0 p1 h) (fun x1 h1 => kif (x1 = 0) (X10_stale_b14  p0 p1 1 p0 h1) (X10_stale_b14  p0 p1 0 p0 h1))
end
section
/-! THE PURE PART: arithmetic of small numbers, steps of the combinators, rows written whole -/
theorem ka_lt {a b : Nat} (ha : a < 2147483648) (hb : b < 2147483648) : (nI a < nI b) = (a < b) := by
  rw [eq_iff_iff, Int32.lt_iff_toInt_lt, nI_toInt ha, nI_toInt hb]
  omega
theorem ka_le {a b : Nat} (ha : a < 2147483648) (hb : b < 2147483648) : (nI a ≤ nI b) = (a ≤ b) := by
  rw [eq_iff_iff, Int32.le_iff_toInt_le, nI_toInt ha, nI_toInt hb]
  omega
theorem ka_eq {a b : Nat} (ha : a < 2147483648) (hb : b < 2147483648) : (nI a = nI b) = (a = b) := by
  rw [eq_iff_iff]
  constructor
  · intro h
    have h2 : (nI a).toInt = (nI b).toInt := by rw [h]
    rw [nI_toInt ha, nI_toInt hb] at h2
    omega
  · intro h
    rw [h]
theorem ka_add (a b : Nat) : nI a + nI b = nI (a + b) := nI_add a b
theorem ka_sub {a b : Nat} (h : b ≤ a) : nI a - nI b = nI (a - b) := by
  have e : nI a = nI (a - b) + nI b := by rw [nI_add]; congr 1; omega
  rw [e, Int32.add_sub_cancel]
theorem ka_dec {a : Nat} (h : 0 < a) : nI a + (-1) = nI (a - 1) := by
  have e : nI a = nI (a - 1) + nI 1 := by rw [nI_add]; congr 1; omega
  rw [e, Int32.add_assoc, show nI 1 + (-1 : Int32) = 0 from by decide, Int32.add_zero]
theorem ka_n1 {a : Nat} (ha : a < 2147483648) : (nI a = -1) = False := by
  rw [eq_iff_iff, iff_false]
  intro h
  have h2 : (nI a).toInt = (-1 : Int32).toInt := by rw [h]
  rw [nI_toInt ha, show (-1 : Int32).toInt = -1 from by decide] at h2
  omega
theorem ka_n1' {a : Nat} (ha : a < 2147483648) : ((-1 : Int32) = nI a) = False := by
  rw [@eq_comm Int32 (-1) (nI a), ka_n1 ha]
theorem ka_ltn {a : Nat} (ha : a < 2147483648) : ((-1 : Int32) < nI a) = True := by
  rw [eq_iff_iff, iff_true, Int32.lt_iff_toInt_lt, nI_toInt ha, show (-1 : Int32).toInt = -1 from by decide]
  omega
theorem ka_idx {i n : Nat} (hi : i < 2147483648) : (nI i < 0 ∨ n ≤ (nI i).toNatClampNeg) = (n ≤ i) := by
  rw [eq_iff_iff, nI_clamp hi]
  constructor
  · rintro (h | h)
    · exact absurd h (nI_pos hi)
    · exact h
  · exact Or.inr
theorem ka_neg {i : Nat} (hi : i < 2147483648) : (nI i < 0) = False := by
  rw [eq_iff_iff, iff_false]
  exact nI_pos hi
theorem ka_pred {a : Nat} (h : 0 < a) : nI a - 1 = nI (a - 1) := ka_sub h
theorem ka_mul (a b : Nat) : nI a * nI b = nI (a * b) := by
  unfold nI
  rw [Int32.ofNat_mul]
/-- a whole row of ints, of references, of longs -/
def sA (h : KH) (a : Nat) (g : Nat → Int32) : KH := kmk (kd h) (kn h) (fun b j => if b = a then g j else kI h b j) (kL h) (kR h) (kx h)
def sRA (h : KH) (a : Nat) (g : Nat → Option Nat) : KH := kmk (kd h) (kn h) (kI h) (kL h) (fun b j => if b = a then g j else kR h b j) (kx h)
def sLA (h : KH) (a : Nat) (g : Nat → Int64) : KH := kmk (kd h) (kn h) (kI h) (fun b j => if b = a then g j else kL h b j) (kR h) (kx h)
theorem kd_sA (h : KH) (a g) : kd (sA h a g) = kd h := rfl
theorem kn_sA (h : KH) (a g) : kn (sA h a g) = kn h := rfl
theorem kL_sA (h : KH) (a g) : kL (sA h a g) = kL h := rfl
theorem kR_sA (h : KH) (a g) : kR (sA h a g) = kR h := rfl
theorem kx_sA (h : KH) (a g) : kx (sA h a g) = kx h := rfl
theorem kI_sA (h : KH) (a : Nat) (g : Nat → Int32) (b j : Nat) : kI (sA h a g) b j = if b = a then g j else kI h b j := rfl
theorem kd_sRA (h : KH) (a g) : kd (sRA h a g) = kd h := rfl
theorem kn_sRA (h : KH) (a g) : kn (sRA h a g) = kn h := rfl
theorem kL_sRA (h : KH) (a g) : kL (sRA h a g) = kL h := rfl
theorem kI_sRA (h : KH) (a g) : kI (sRA h a g) = kI h := rfl
theorem kx_sRA (h : KH) (a g) : kx (sRA h a g) = kx h := rfl
theorem kR_sRA (h : KH) (a : Nat) (g : Nat → Option Nat) (b j : Nat) : kR (sRA h a g) b j = if b = a then g j else kR h b j := rfl
theorem kd_sLA (h : KH) (a g) : kd (sLA h a g) = kd h := rfl
theorem kn_sLA (h : KH) (a g) : kn (sLA h a g) = kn h := rfl
theorem kI_sLA (h : KH) (a g) : kI (sLA h a g) = kI h := rfl
theorem kR_sLA (h : KH) (a g) : kR (sLA h a g) = kR h := rfl
theorem kx_sLA (h : KH) (a g) : kx (sLA h a g) = kx h := rfl
theorem kL_sLA (h : KH) (a : Nat) (g : Nat → Int64) (b j : Nat) : kL (sLA h a g) b j = if b = a then g j else kL h b j := rfl
theorem kh_ext {h g : KH} (e1 : kd h = kd g) (e2 : kn h = kn g) (e3 : kI h = kI g) (e4 : kL h = kL g) (e5 : kR h = kR g) (e6 : kx h = kx g) : h = g := by
  obtain ⟨a1, a2, a3, a4, a5, a6⟩ := h
  obtain ⟨b1, b2, b3, b4, b5, b6⟩ := g
  cases e1; cases e2; cases e3; cases e4; cases e5; cases e6
  rfl
theorem sA_self (h : KH) (a : Nat) : sA h a (kI h a) = h := kh_ext rfl rfl (by funext b j; rw [kI_sA]; split <;> simp_all) rfl rfl rfl
theorem sA_sA (h : KH) (a : Nat) (g k : Nat → Int32) : sA (sA h a g) a k = sA h a k := kh_ext rfl rfl (by funext b j; simp only [kI_sA]; split <;> rfl) rfl rfl rfl
theorem sI_sA (h : KH) (a k : Nat) (v : Int32) : sI h a k v = sA h a (fun j => if j = k then v else kI h a j) := kh_ext rfl rfl (by
  funext b j
  rw [kI_sI, kI_sA]
  by_cases hb : b = a
  · subst hb
    by_cases hj : j = k <;> simp [hj]
  · simp [hb]) rfl rfl rfl
theorem sI_in (h : KH) (a : Nat) (g : Nat → Int32) (k : Nat) (v : Int32) : sI (sA h a g) a k v = sA h a (fun j => if j = k then v else g j) := by
  rw [sI_sA, sA_sA]
  congr 1
  funext j
  rw [kI_sA, if_pos rfl]
theorem sRA_self (h : KH) (a : Nat) : sRA h a (kR h a) = h := kh_ext rfl rfl rfl rfl (by funext b j; rw [kR_sRA]; split <;> simp_all) rfl
theorem sR_in (h : KH) (a : Nat) (g : Nat → Option Nat) (k : Nat) (v : Option Nat) : sR (sRA h a g) a k v = sRA h a (fun j => if j = k then v else g j) := kh_ext rfl rfl rfl rfl (by
  funext b j
  simp only [kR_sR, kR_sRA]
  by_cases hb : b = a
  · subst hb
    by_cases hj : j = k <;> simp [hj]
  · simp [hb]) rfl
theorem sI_sRA (h : KH) (a b k : Nat) (v : Int32) (g : Nat → Option Nat) : sI (sRA h a g) b k v = sRA (sI h b k v) a g := rfl
theorem sA_sRA (h : KH) (a b : Nat) (f : Nat → Int32) (g : Nat → Option Nat) : sA (sRA h a g) b f = sRA (sA h b f) a g := rfl
end
section
/-! what never changes: of the model's heap, of the class's -/
def mDl : List Nat := [11, 21, 21, 21, 21, 23, 21, 21, 21, 21, 21, 21, 21, 21, 21, 21, 23, 21, 21, 21, 22, 22, 21, 21, 21, 21, 21, 21]
def mNl : List Nat := [0, 64, 64, 4, 6, 225, 10, 60, 10, 700, 700, 700, 60, 60, 60, 360, 60, 60, 60, 60, 6, 6, 8, 8, 8, 40, 40, 40]
def mRl : List (Option Nat) := [none, none, some 1, some 2, some 3, none, some 4, some 5, none, some 6, some 7, some 8, none, some 9, some 10, some 11, none, some 12, some 13, some 14, some 15, some 16, some 17, some 18, some 19, some 20, some 21, none, some 22, some 23, some 24, none, some 25, some 26, some 27, none]
def kSm (h : KH) : Prop := (∀ a, a < 28 → kd h a = mDl.getD a 0 ∧ kn h a = mNl.getD a 0) ∧ ∀ k, k < 36 → mRl.getD k none ≠ none → kR h 0 k = mRl.getD k none
section KSM
variable {h : KH}
theorem kSm.d0 (S : kSm h) : kd h 0 = 11 := (S.1 0 (by decide)).1
theorem kSm.d1 (S : kSm h) : kd h 1 = 21 := (S.1 1 (by decide)).1
theorem kSm.n1 (S : kSm h) : kn h 1 = 64 := (S.1 1 (by decide)).2
theorem kSm.d2 (S : kSm h) : kd h 2 = 21 := (S.1 2 (by decide)).1
theorem kSm.n2 (S : kSm h) : kn h 2 = 64 := (S.1 2 (by decide)).2
theorem kSm.d3 (S : kSm h) : kd h 3 = 21 := (S.1 3 (by decide)).1
theorem kSm.n3 (S : kSm h) : kn h 3 = 4 := (S.1 3 (by decide)).2
theorem kSm.d4 (S : kSm h) : kd h 4 = 21 := (S.1 4 (by decide)).1
theorem kSm.n4 (S : kSm h) : kn h 4 = 6 := (S.1 4 (by decide)).2
theorem kSm.d5 (S : kSm h) : kd h 5 = 23 := (S.1 5 (by decide)).1
theorem kSm.n5 (S : kSm h) : kn h 5 = 225 := (S.1 5 (by decide)).2
theorem kSm.d6 (S : kSm h) : kd h 6 = 21 := (S.1 6 (by decide)).1
theorem kSm.n6 (S : kSm h) : kn h 6 = 10 := (S.1 6 (by decide)).2
theorem kSm.d7 (S : kSm h) : kd h 7 = 21 := (S.1 7 (by decide)).1
theorem kSm.n7 (S : kSm h) : kn h 7 = 60 := (S.1 7 (by decide)).2
theorem kSm.d8 (S : kSm h) : kd h 8 = 21 := (S.1 8 (by decide)).1
theorem kSm.n8 (S : kSm h) : kn h 8 = 10 := (S.1 8 (by decide)).2
theorem kSm.d9 (S : kSm h) : kd h 9 = 21 := (S.1 9 (by decide)).1
theorem kSm.n9 (S : kSm h) : kn h 9 = 700 := (S.1 9 (by decide)).2
theorem kSm.d10 (S : kSm h) : kd h 10 = 21 := (S.1 10 (by decide)).1
theorem kSm.n10 (S : kSm h) : kn h 10 = 700 := (S.1 10 (by decide)).2
theorem kSm.d11 (S : kSm h) : kd h 11 = 21 := (S.1 11 (by decide)).1
theorem kSm.n11 (S : kSm h) : kn h 11 = 700 := (S.1 11 (by decide)).2
theorem kSm.d12 (S : kSm h) : kd h 12 = 21 := (S.1 12 (by decide)).1
theorem kSm.n12 (S : kSm h) : kn h 12 = 60 := (S.1 12 (by decide)).2
theorem kSm.d13 (S : kSm h) : kd h 13 = 21 := (S.1 13 (by decide)).1
theorem kSm.n13 (S : kSm h) : kn h 13 = 60 := (S.1 13 (by decide)).2
theorem kSm.d14 (S : kSm h) : kd h 14 = 21 := (S.1 14 (by decide)).1
theorem kSm.n14 (S : kSm h) : kn h 14 = 60 := (S.1 14 (by decide)).2
theorem kSm.d15 (S : kSm h) : kd h 15 = 21 := (S.1 15 (by decide)).1
theorem kSm.n15 (S : kSm h) : kn h 15 = 360 := (S.1 15 (by decide)).2
theorem kSm.d16 (S : kSm h) : kd h 16 = 23 := (S.1 16 (by decide)).1
theorem kSm.n16 (S : kSm h) : kn h 16 = 60 := (S.1 16 (by decide)).2
theorem kSm.d17 (S : kSm h) : kd h 17 = 21 := (S.1 17 (by decide)).1
theorem kSm.n17 (S : kSm h) : kn h 17 = 60 := (S.1 17 (by decide)).2
theorem kSm.d18 (S : kSm h) : kd h 18 = 21 := (S.1 18 (by decide)).1
theorem kSm.n18 (S : kSm h) : kn h 18 = 60 := (S.1 18 (by decide)).2
theorem kSm.d19 (S : kSm h) : kd h 19 = 21 := (S.1 19 (by decide)).1
theorem kSm.n19 (S : kSm h) : kn h 19 = 60 := (S.1 19 (by decide)).2
theorem kSm.d20 (S : kSm h) : kd h 20 = 22 := (S.1 20 (by decide)).1
theorem kSm.n20 (S : kSm h) : kn h 20 = 6 := (S.1 20 (by decide)).2
theorem kSm.d21 (S : kSm h) : kd h 21 = 22 := (S.1 21 (by decide)).1
theorem kSm.n21 (S : kSm h) : kn h 21 = 6 := (S.1 21 (by decide)).2
theorem kSm.d22 (S : kSm h) : kd h 22 = 21 := (S.1 22 (by decide)).1
theorem kSm.n22 (S : kSm h) : kn h 22 = 8 := (S.1 22 (by decide)).2
theorem kSm.d23 (S : kSm h) : kd h 23 = 21 := (S.1 23 (by decide)).1
theorem kSm.n23 (S : kSm h) : kn h 23 = 8 := (S.1 23 (by decide)).2
theorem kSm.d24 (S : kSm h) : kd h 24 = 21 := (S.1 24 (by decide)).1
theorem kSm.n24 (S : kSm h) : kn h 24 = 8 := (S.1 24 (by decide)).2
theorem kSm.d25 (S : kSm h) : kd h 25 = 21 := (S.1 25 (by decide)).1
theorem kSm.n25 (S : kSm h) : kn h 25 = 40 := (S.1 25 (by decide)).2
theorem kSm.d26 (S : kSm h) : kd h 26 = 21 := (S.1 26 (by decide)).1
theorem kSm.n26 (S : kSm h) : kn h 26 = 40 := (S.1 26 (by decide)).2
theorem kSm.d27 (S : kSm h) : kd h 27 = 21 := (S.1 27 (by decide)).1
theorem kSm.n27 (S : kSm h) : kn h 27 = 40 := (S.1 27 (by decide)).2
theorem kSm.r2 (S : kSm h) : kR h 0 2 = some 1 := S.2 2 (by decide) (by decide)
theorem kSm.r3 (S : kSm h) : kR h 0 3 = some 2 := S.2 3 (by decide) (by decide)
theorem kSm.r4 (S : kSm h) : kR h 0 4 = some 3 := S.2 4 (by decide) (by decide)
theorem kSm.r6 (S : kSm h) : kR h 0 6 = some 4 := S.2 6 (by decide) (by decide)
theorem kSm.r7 (S : kSm h) : kR h 0 7 = some 5 := S.2 7 (by decide) (by decide)
theorem kSm.r9 (S : kSm h) : kR h 0 9 = some 6 := S.2 9 (by decide) (by decide)
theorem kSm.r10 (S : kSm h) : kR h 0 10 = some 7 := S.2 10 (by decide) (by decide)
theorem kSm.r11 (S : kSm h) : kR h 0 11 = some 8 := S.2 11 (by decide) (by decide)
theorem kSm.r13 (S : kSm h) : kR h 0 13 = some 9 := S.2 13 (by decide) (by decide)
theorem kSm.r14 (S : kSm h) : kR h 0 14 = some 10 := S.2 14 (by decide) (by decide)
theorem kSm.r15 (S : kSm h) : kR h 0 15 = some 11 := S.2 15 (by decide) (by decide)
theorem kSm.r17 (S : kSm h) : kR h 0 17 = some 12 := S.2 17 (by decide) (by decide)
theorem kSm.r18 (S : kSm h) : kR h 0 18 = some 13 := S.2 18 (by decide) (by decide)
theorem kSm.r19 (S : kSm h) : kR h 0 19 = some 14 := S.2 19 (by decide) (by decide)
theorem kSm.r20 (S : kSm h) : kR h 0 20 = some 15 := S.2 20 (by decide) (by decide)
theorem kSm.r21 (S : kSm h) : kR h 0 21 = some 16 := S.2 21 (by decide) (by decide)
theorem kSm.r22 (S : kSm h) : kR h 0 22 = some 17 := S.2 22 (by decide) (by decide)
theorem kSm.r23 (S : kSm h) : kR h 0 23 = some 18 := S.2 23 (by decide) (by decide)
theorem kSm.r24 (S : kSm h) : kR h 0 24 = some 19 := S.2 24 (by decide) (by decide)
theorem kSm.r25 (S : kSm h) : kR h 0 25 = some 20 := S.2 25 (by decide) (by decide)
theorem kSm.r26 (S : kSm h) : kR h 0 26 = some 21 := S.2 26 (by decide) (by decide)
theorem kSm.r28 (S : kSm h) : kR h 0 28 = some 22 := S.2 28 (by decide) (by decide)
theorem kSm.r29 (S : kSm h) : kR h 0 29 = some 23 := S.2 29 (by decide) (by decide)
theorem kSm.r30 (S : kSm h) : kR h 0 30 = some 24 := S.2 30 (by decide) (by decide)
theorem kSm.r32 (S : kSm h) : kR h 0 32 = some 25 := S.2 32 (by decide) (by decide)
theorem kSm.r33 (S : kSm h) : kR h 0 33 = some 26 := S.2 33 (by decide) (by decide)
theorem kSm.r34 (S : kSm h) : kR h 0 34 = some 27 := S.2 34 (by decide) (by decide)
end KSM
def xDl : List Nat := [10, 7, 24, 21, 21, 21, 21, 21, 21, 21, 21, 24, 21, 21, 21, 21, 21, 21, 21, 21, 23, 21, 8, 21, 3, 21, 25, 25, 26, 27, 28, 22, 22, 4, 26, 23, 22]
def xNl : List Nat := [0, 0, 8, 8, 8, 8, 8, 8, 8, 8, 8, 8, 8, 8, 8, 8, 8, 8, 8, 8, 8, 4, 0, 6, 0, 15, 10, 10, 60, 8, 40, 6, 6, 0, 60, 60, 1]
def xR0l : List (Option Nat) := [some 1, some 21, some 22, some 24, some 26, some 27, some 28, some 29, some 30, some 31, some 32, some 33]
def xR1l : List (Option Nat) := [some 2, some 11, some 20]
def xR2l : List (Option Nat) := [some 3, some 4, some 5, some 6, some 7, some 8, some 9, some 10]
def xR11l : List (Option Nat) := [some 12, some 13, some 14, some 15, some 16, some 17, some 18, some 19]
def xR22l : List (Option Nat) := [some 23]
def xR24l : List (Option Nat) := [some 25]
def xR33l : List (Option Nat) := [some 34, some 35]
def kSx (h : KH) : Prop := (∀ a, a < 36 → kd h a = xDl.getD a 0 ∧ kn h a = xNl.getD a 0) ∧ (∀ k, k < 12 → kR h 0 k = xR0l.getD k none) ∧ (∀ k, k < 3 → kR h 1 k = xR1l.getD k none) ∧ (∀ k, k < 8 → kR h 2 k = xR2l.getD k none) ∧ (∀ k, k < 8 → kR h 11 k = xR11l.getD k none) ∧ (∀ k, k < 1 → kR h 22 k = xR22l.getD k none) ∧ (∀ k, k < 1 → kR h 24 k = xR24l.getD k none) ∧ (∀ k, k < 2 → kR h 33 k = xR33l.getD k none)
section KSX
variable {h : KH}
theorem kSx.d0 (S : kSx h) : kd h 0 = 10 := (S.1 0 (by decide)).1
theorem kSx.d1 (S : kSx h) : kd h 1 = 7 := (S.1 1 (by decide)).1
theorem kSx.d2 (S : kSx h) : kd h 2 = 24 := (S.1 2 (by decide)).1
theorem kSx.n2 (S : kSx h) : kn h 2 = 8 := (S.1 2 (by decide)).2
theorem kSx.d3 (S : kSx h) : kd h 3 = 21 := (S.1 3 (by decide)).1
theorem kSx.n3 (S : kSx h) : kn h 3 = 8 := (S.1 3 (by decide)).2
theorem kSx.d4 (S : kSx h) : kd h 4 = 21 := (S.1 4 (by decide)).1
theorem kSx.n4 (S : kSx h) : kn h 4 = 8 := (S.1 4 (by decide)).2
theorem kSx.d5 (S : kSx h) : kd h 5 = 21 := (S.1 5 (by decide)).1
theorem kSx.n5 (S : kSx h) : kn h 5 = 8 := (S.1 5 (by decide)).2
theorem kSx.d6 (S : kSx h) : kd h 6 = 21 := (S.1 6 (by decide)).1
theorem kSx.n6 (S : kSx h) : kn h 6 = 8 := (S.1 6 (by decide)).2
theorem kSx.d7 (S : kSx h) : kd h 7 = 21 := (S.1 7 (by decide)).1
theorem kSx.n7 (S : kSx h) : kn h 7 = 8 := (S.1 7 (by decide)).2
theorem kSx.d8 (S : kSx h) : kd h 8 = 21 := (S.1 8 (by decide)).1
theorem kSx.n8 (S : kSx h) : kn h 8 = 8 := (S.1 8 (by decide)).2
theorem kSx.d9 (S : kSx h) : kd h 9 = 21 := (S.1 9 (by decide)).1
theorem kSx.n9 (S : kSx h) : kn h 9 = 8 := (S.1 9 (by decide)).2
theorem kSx.d10 (S : kSx h) : kd h 10 = 21 := (S.1 10 (by decide)).1
theorem kSx.n10 (S : kSx h) : kn h 10 = 8 := (S.1 10 (by decide)).2
theorem kSx.d11 (S : kSx h) : kd h 11 = 24 := (S.1 11 (by decide)).1
theorem kSx.n11 (S : kSx h) : kn h 11 = 8 := (S.1 11 (by decide)).2
theorem kSx.d12 (S : kSx h) : kd h 12 = 21 := (S.1 12 (by decide)).1
theorem kSx.n12 (S : kSx h) : kn h 12 = 8 := (S.1 12 (by decide)).2
theorem kSx.d13 (S : kSx h) : kd h 13 = 21 := (S.1 13 (by decide)).1
theorem kSx.n13 (S : kSx h) : kn h 13 = 8 := (S.1 13 (by decide)).2
theorem kSx.d14 (S : kSx h) : kd h 14 = 21 := (S.1 14 (by decide)).1
theorem kSx.n14 (S : kSx h) : kn h 14 = 8 := (S.1 14 (by decide)).2
theorem kSx.d15 (S : kSx h) : kd h 15 = 21 := (S.1 15 (by decide)).1
theorem kSx.n15 (S : kSx h) : kn h 15 = 8 := (S.1 15 (by decide)).2
theorem kSx.d16 (S : kSx h) : kd h 16 = 21 := (S.1 16 (by decide)).1
theorem kSx.n16 (S : kSx h) : kn h 16 = 8 := (S.1 16 (by decide)).2
theorem kSx.d17 (S : kSx h) : kd h 17 = 21 := (S.1 17 (by decide)).1
theorem kSx.n17 (S : kSx h) : kn h 17 = 8 := (S.1 17 (by decide)).2
theorem kSx.d18 (S : kSx h) : kd h 18 = 21 := (S.1 18 (by decide)).1
theorem kSx.n18 (S : kSx h) : kn h 18 = 8 := (S.1 18 (by decide)).2
theorem kSx.d19 (S : kSx h) : kd h 19 = 21 := (S.1 19 (by decide)).1
theorem kSx.n19 (S : kSx h) : kn h 19 = 8 := (S.1 19 (by decide)).2
theorem kSx.d20 (S : kSx h) : kd h 20 = 23 := (S.1 20 (by decide)).1
theorem kSx.n20 (S : kSx h) : kn h 20 = 8 := (S.1 20 (by decide)).2
theorem kSx.d21 (S : kSx h) : kd h 21 = 21 := (S.1 21 (by decide)).1
theorem kSx.n21 (S : kSx h) : kn h 21 = 4 := (S.1 21 (by decide)).2
theorem kSx.d22 (S : kSx h) : kd h 22 = 8 := (S.1 22 (by decide)).1
theorem kSx.d23 (S : kSx h) : kd h 23 = 21 := (S.1 23 (by decide)).1
theorem kSx.n23 (S : kSx h) : kn h 23 = 6 := (S.1 23 (by decide)).2
theorem kSx.d24 (S : kSx h) : kd h 24 = 3 := (S.1 24 (by decide)).1
theorem kSx.d25 (S : kSx h) : kd h 25 = 21 := (S.1 25 (by decide)).1
theorem kSx.n25 (S : kSx h) : kn h 25 = 15 := (S.1 25 (by decide)).2
theorem kSx.d26 (S : kSx h) : kd h 26 = 25 := (S.1 26 (by decide)).1
theorem kSx.n26 (S : kSx h) : kn h 26 = 10 := (S.1 26 (by decide)).2
theorem kSx.d27 (S : kSx h) : kd h 27 = 25 := (S.1 27 (by decide)).1
theorem kSx.n27 (S : kSx h) : kn h 27 = 10 := (S.1 27 (by decide)).2
theorem kSx.d28 (S : kSx h) : kd h 28 = 26 := (S.1 28 (by decide)).1
theorem kSx.n28 (S : kSx h) : kn h 28 = 60 := (S.1 28 (by decide)).2
theorem kSx.d29 (S : kSx h) : kd h 29 = 27 := (S.1 29 (by decide)).1
theorem kSx.n29 (S : kSx h) : kn h 29 = 8 := (S.1 29 (by decide)).2
theorem kSx.d30 (S : kSx h) : kd h 30 = 28 := (S.1 30 (by decide)).1
theorem kSx.n30 (S : kSx h) : kn h 30 = 40 := (S.1 30 (by decide)).2
theorem kSx.d31 (S : kSx h) : kd h 31 = 22 := (S.1 31 (by decide)).1
theorem kSx.n31 (S : kSx h) : kn h 31 = 6 := (S.1 31 (by decide)).2
theorem kSx.d32 (S : kSx h) : kd h 32 = 22 := (S.1 32 (by decide)).1
theorem kSx.n32 (S : kSx h) : kn h 32 = 6 := (S.1 32 (by decide)).2
theorem kSx.d33 (S : kSx h) : kd h 33 = 4 := (S.1 33 (by decide)).1
theorem kSx.d34 (S : kSx h) : kd h 34 = 26 := (S.1 34 (by decide)).1
theorem kSx.n34 (S : kSx h) : kn h 34 = 60 := (S.1 34 (by decide)).2
theorem kSx.d35 (S : kSx h) : kd h 35 = 23 := (S.1 35 (by decide)).1
theorem kSx.n35 (S : kSx h) : kn h 35 = 60 := (S.1 35 (by decide)).2
theorem kSx.r0_0 (S : kSx h) : kR h 0 0 = some 1 := S.2.1 0 (by decide)
theorem kSx.r0_1 (S : kSx h) : kR h 0 1 = some 21 := S.2.1 1 (by decide)
theorem kSx.r0_2 (S : kSx h) : kR h 0 2 = some 22 := S.2.1 2 (by decide)
theorem kSx.r0_3 (S : kSx h) : kR h 0 3 = some 24 := S.2.1 3 (by decide)
theorem kSx.r0_4 (S : kSx h) : kR h 0 4 = some 26 := S.2.1 4 (by decide)
theorem kSx.r0_5 (S : kSx h) : kR h 0 5 = some 27 := S.2.1 5 (by decide)
theorem kSx.r0_6 (S : kSx h) : kR h 0 6 = some 28 := S.2.1 6 (by decide)
theorem kSx.r0_7 (S : kSx h) : kR h 0 7 = some 29 := S.2.1 7 (by decide)
theorem kSx.r0_8 (S : kSx h) : kR h 0 8 = some 30 := S.2.1 8 (by decide)
theorem kSx.r0_9 (S : kSx h) : kR h 0 9 = some 31 := S.2.1 9 (by decide)
theorem kSx.r0_10 (S : kSx h) : kR h 0 10 = some 32 := S.2.1 10 (by decide)
theorem kSx.r0_11 (S : kSx h) : kR h 0 11 = some 33 := S.2.1 11 (by decide)
theorem kSx.r1_0 (S : kSx h) : kR h 1 0 = some 2 := S.2.2.1 0 (by decide)
theorem kSx.r1_1 (S : kSx h) : kR h 1 1 = some 11 := S.2.2.1 1 (by decide)
theorem kSx.r1_2 (S : kSx h) : kR h 1 2 = some 20 := S.2.2.1 2 (by decide)
theorem kSx.r2_0 (S : kSx h) : kR h 2 0 = some 3 := S.2.2.2.1 0 (by decide)
theorem kSx.r2_1 (S : kSx h) : kR h 2 1 = some 4 := S.2.2.2.1 1 (by decide)
theorem kSx.r2_2 (S : kSx h) : kR h 2 2 = some 5 := S.2.2.2.1 2 (by decide)
theorem kSx.r2_3 (S : kSx h) : kR h 2 3 = some 6 := S.2.2.2.1 3 (by decide)
theorem kSx.r2_4 (S : kSx h) : kR h 2 4 = some 7 := S.2.2.2.1 4 (by decide)
theorem kSx.r2_5 (S : kSx h) : kR h 2 5 = some 8 := S.2.2.2.1 5 (by decide)
theorem kSx.r2_6 (S : kSx h) : kR h 2 6 = some 9 := S.2.2.2.1 6 (by decide)
theorem kSx.r2_7 (S : kSx h) : kR h 2 7 = some 10 := S.2.2.2.1 7 (by decide)
theorem kSx.r11_0 (S : kSx h) : kR h 11 0 = some 12 := S.2.2.2.2.1 0 (by decide)
theorem kSx.r11_1 (S : kSx h) : kR h 11 1 = some 13 := S.2.2.2.2.1 1 (by decide)
theorem kSx.r11_2 (S : kSx h) : kR h 11 2 = some 14 := S.2.2.2.2.1 2 (by decide)
theorem kSx.r11_3 (S : kSx h) : kR h 11 3 = some 15 := S.2.2.2.2.1 3 (by decide)
theorem kSx.r11_4 (S : kSx h) : kR h 11 4 = some 16 := S.2.2.2.2.1 4 (by decide)
theorem kSx.r11_5 (S : kSx h) : kR h 11 5 = some 17 := S.2.2.2.2.1 5 (by decide)
theorem kSx.r11_6 (S : kSx h) : kR h 11 6 = some 18 := S.2.2.2.2.1 6 (by decide)
theorem kSx.r11_7 (S : kSx h) : kR h 11 7 = some 19 := S.2.2.2.2.1 7 (by decide)
theorem kSx.r22_0 (S : kSx h) : kR h 22 0 = some 23 := S.2.2.2.2.2.1 0 (by decide)
theorem kSx.r24_0 (S : kSx h) : kR h 24 0 = some 25 := S.2.2.2.2.2.2.1 0 (by decide)
theorem kSx.r33_0 (S : kSx h) : kR h 33 0 = some 34 := S.2.2.2.2.2.2.2 0 (by decide)
theorem kSx.r33_1 (S : kSx h) : kR h 33 1 = some 35 := S.2.2.2.2.2.2.2 1 (by decide)
end KSX
/-- what runs when a step has run -/
theorem kb_ret {α β : Type} (v : α) (h : KH) (k : α → KH → KO β) : kbind (kret v h) k = k v h := rfl
theorem kb_thr {α β : Type} (e : Nat) (h : KH) (k : α → KH → KO β) : kbind (kthrow e h : KO α) k = kthrow e h := rfl
theorem ki_ret {α β : Type} (v : α) (h : KH) (k : α → KH → KO β) : kbinI (kret v h) k = k v h := rfl
end
section
/-! texts: the class's, at any address -/
def kLen (x : Int32) : Int32 := if x < 10 then 1 else if 14 ≤ x then 1 else 2
theorem t0_isPair (x : Int32) (h : KH) : f_X7_isPair x h = kret (if x < 10 then 0 else if 14 ≤ x then 0 else 1) h := by
  unfold f_X7_isPair X7_isPair_b16 X7_isPair_b17 kif kretZ
  split
  · rfl
  · split <;> rfl
theorem t0_charsOf (x : Int32) (h : KH) : f_X7_charsOf x h = kret (kLen x) h := by
  unfold f_X7_charsOf
  rw [t0_isPair]
  unfold kLen kret kif X7_charsOf_b12
  by_cases h1 : x < 10
  · rw [if_pos h1, if_pos h1]; rfl
  · rw [if_neg h1, if_neg h1]
    by_cases h2 : 14 ≤ x
    · rw [if_pos h2, if_pos h2]; rfl
    · rw [if_neg h2, if_neg h2]; rfl
/-- the chars of the first k signs -/
def kChs (g : Nat → Int32) : Nat → Int32
  | 0 => 0
  | k + 1 => kChs g k + kLen (g k)
section KTEXT
variable {h : KH} {t s n : Nat}
theorem t0_charCountL (hk : kd h t = 8) (hs : kR h t 0 = some s) (hsk : kd h s = 21) (hsn : kn h s = 6) (hc : kI h t 1 = nI n) (hn : n ≤ 6) : ∀ (f i : Nat), i ≤ n → n < i + f → X7_charCount_L4 f t (kChs (kI h s) i) (nI i) h = kret (kChs (kI h s) n) h := by
  intro f
  induction f with
  | zero => intro i h1 h2; omega
  | succ f ih =>
    intro i h1 h2
    unfold X7_charCount_L4 X7_charCount_b4 gI gN gAI kmay
    simp (disch := omega) only [hk, hs, hsk, hsn, hc, ka_le, ka_neg, nI_clamp, false_or, true_and, if_true]
    by_cases hi : i = n
    · subst hi
      simp only [kif, Nat.le_refl, if_true]
    · rw [kif, if_neg (by omega), if_pos (by omega), t0_charsOf]
      have e := ih (i + 1) (by omega) (by omega)
      rw [← nI_1] at e
      exact e
theorem t0_charCount (hk : kd h t = 8) (hs : kR h t 0 = some s) (hsk : kd h s = 21) (hsn : kn h s = 6) (hc : kI h t 1 = nI n) (hn : n ≤ 6) : f_X7_charCount t h = kret (kChs (kI h s) n) h :=
  t0_charCountL hk hs hsk hsn hc hn kF 0 (Nat.zero_le _) (by unfold kF; omega)
/-- a sign put in -/
def kPut (g : Nat → Int32) (v : Int32) (p n : Nat) : Nat → Int32 := fun k => if k < p then g k else if k = p then v else if k ≤ n then g (k - 1) else g k
def kSh (g : Nat → Int32) (i n : Nat) : Nat → Int32 := fun k => if i < k ∧ k ≤ n then g (k - 1) else g k
theorem kSh_n (g : Nat → Int32) (n : Nat) : kSh g n n = g := by
  funext k
  unfold kSh
  rw [if_neg (by omega)]
theorem kSh_put (g : Nat → Int32) (v : Int32) (p n : Nat) (hp : p ≤ n) : (fun j => if j = p then v else kSh g p n j) = kPut g v p n := by
  funext k
  unfold kSh kPut
  by_cases h1 : k = p
  · rw [if_pos h1, if_neg (by omega), if_pos h1]
  · rw [if_neg h1]
    by_cases h2 : k < p
    · rw [if_neg (by omega), if_pos h2]
    · rw [if_neg h2, if_neg h1]
      by_cases h3 : k ≤ n
      · rw [if_pos ⟨by omega, h3⟩, if_pos h3]
      · rw [if_neg (by omega), if_neg h3]
theorem kSh_step (g : Nat → Int32) (i n : Nat) (hi : 0 < i) (hn : i ≤ n) : (fun j => if j = i then kSh g i n (i - 1) else kSh g i n j) = kSh g (i - 1) n := by
  funext k
  unfold kSh
  by_cases h1 : k = i
  · rw [if_pos h1, if_neg (by omega), if_pos (by omega), h1]
  · rw [if_neg h1]
    by_cases h2 : i < k ∧ k ≤ n
    · rw [if_pos h2, if_pos (by omega)]
    · rw [if_neg h2, if_neg (by omega)]
theorem t0_putL {v : Int32} {p : Nat} (hk : kd h t = 8) (hs : kR h t 0 = some s) (hts : t ≠ s) (hsk : kd h s = 21) (hsn : kn h s = 6) (hc : kI h t 1 = nI n) (hn : n < 6) : ∀ (f i : Nat), p ≤ i → i ≤ n → i < p + f → X7_put_L5 f t v (nI p) (nI i) (sA h s (kSh (kI h s) i n)) = kret () (sI (sA h s (kPut (kI h s) v p n)) t 1 (nI (n + 1))) := by
  intro f
  induction f with
  | zero => intro i h1 h2; omega
  | succ f ih =>
    intro i h1 h2 h3
    unfold X7_put_L5 X7_put_b5 gN gI gAI pAI pI kmay
    simp (disch := omega) only [kd_sA, kn_sA, kR_sA, kI_sA, kd_sI, hk, hs, hsk, hsn, hc, ka_le, ka_neg, nI_clamp, false_or, true_and, if_true]
    by_cases hi : i = p
    · subst hi
      simp only [kif, Nat.le_refl, if_true]
      rw [if_pos (by omega), sI_in, kSh_put _ _ _ _ h2]
      simp only [kI_sA, if_neg hts, hc, nI_1]
    · simp (disch := omega) only [kif, ka_pred, ka_dec, ka_neg, nI_clamp, false_or, if_pos, if_neg]
      rw [sI_in, kSh_step _ _ _ (by omega) h2]
      exact ih (i - 1) (by omega) (by omega) (by omega)
theorem t0_put {v : Int32} {p : Nat} (hk : kd h t = 8) (hs : kR h t 0 = some s) (hts : t ≠ s) (hsk : kd h s = 21) (hsn : kn h s = 6) (hc : kI h t 1 = nI n) (hn : n < 6) (hp : p ≤ n) : f_X7_put t v (nI p) h = kret () (sI (sA h s (kPut (kI h s) v p n)) t 1 (nI (n + 1))) := by
  unfold f_X7_put gI
  rw [if_pos hk, hc]
  have e := t0_putL (v := v) (p := p) hk hs hts hsk hsn hc hn kF n hp (Nat.le_refl _) (by unfold kF; omega)
  rw [kSh_n, sA_self] at e
  exact e
end KTEXT
end
section
/-! what the two heaps have in common. The model's cells as numbers: -/
def mn (h : KH) (a k : Nat) : Nat := (kI h a k).toNatClampNeg
/-- a sign read, a sign due: what it costs -/
def sPart (m : Nat → Nat → Nat) (x y : Nat) : Option Nat := if x = y then some 0 else if x = 14 then some 2 else if m 5 (15 * x + y) = 0 then none else some 1
def sCst (m : Nat → Nat → Nat) (r p : Nat) : Nat → Option Nat
  | 0 => some 0
  | k + 1 => match sCst m r p k, sPart m (m 15 (6 * r + k)) (m 7 (6 * p + k)) with
    | some s, some t => some (s + t)
    | _, _ => none
def sCost (m : Nat → Nat → Nat) (r p : Nat) : Option Nat := if m 14 r = m 6 p then sCst m r p (m 14 r) else none
/-- a plate's text, from its end -/
def sTl (m : Nat → Nat → Nat) (p : Nat) : List Nat := (List.range (m 6 p)).map (fun k => m 7 (6 * p + (m 6 p - 1 - k)))
def sBest (m : Nat → Nat → Nat) (r : Nat) : Nat → Option Nat
  | 0 => none
  | k + 1 => match sCost m r k with
    | none => sBest m r k
    | some c => match sBest m r k with
      | none => some k
      | some b => if c < (sCost m r b).getD 0 ∨ (c = (sCost m r b).getD 0 ∧ sTl m k < sTl m b) then some k else some b
/-- the plate that a reading goes to -/
def sPF (h : KH) (r : Nat) : Option Nat := if mn h 16 r = 0 then sBest (mn h) r (mn h 0 8) else if kI h 17 r = -1 then none else some (mn h 17 r)
def sBef (m : Nat → Nat → Nat) (r s : Nat) : Prop := m 13 r < m 13 s ∨ m 13 r = m 13 s ∧ r < s
def sRow (h : KH) (p : Nat) (l : List Nat) : Prop := (∀ r, r ∈ l ↔ r < mn h 0 16 ∧ sPF h r = some p) ∧ l.Pairwise (sBef (mn h))
/-- two passings, one behind the other: another trip begins -/
def sBeg (h : KH) (r s : Nat) : Bool := decide (kI h 2 (8 * mn h 12 r + mn h 12 s) = -1) || decide (2 * mn h 2 (8 * mn h 12 r + mn h 12 s) + mn h 0 1 < mn h 13 s - mn h 13 r) || decide (4 * (mn h 13 s - mn h 13 r) < mn h 2 (8 * mn h 12 r + mn h 12 s))
def sBegAt (h : KH) (l : List Nat) (k : Nat) : Bool := match k with
  | 0 => true
  | i + 1 => sBeg h (l.getD i 0) (l.getD (i + 1) 0)
/-- who holds a plate at a minute: the model's, the class's -/
def sHold (h : KH) (p m : Nat) : Nat → Int32
  | 0 => -1
  | k + 1 => if mn h 9 k = p ∧ mn h 11 k ≤ m then kI h 10 k else sHold h p m k
def xDrv (h : KH) (m : Nat) : Nat → Option Nat → Int32
  | 0, _ => -1
  | _ + 1, none => -1
  | n + 1, some a => if mn h a 1 ≤ m then kI h a 0 else xDrv h m n (kR h a 2)
def xChn (h : KH) : Nat → Option Nat → Prop
  | 0, o => o = none
  | _ + 1, none => True
  | n + 1, some a => kd h a = 2 ∧ (a % 8 = 7 ∧ 100 ≤ a ∧ a < 180 ∨ 1000 ≤ a ∧ a < 2000) ∧ (∃ s, s ≤ 50000 ∧ kI h a 1 = nI s) ∧ (∃ d, d < 6 ∧ kI h a 0 = nI d) ∧ xChn h n (kR h a 2)
/-! the two states side by side, part by part -/
def cMin (hx hm : KH) : Prop := ∃ n, n ≤ 50000 ∧ kI hx 0 12 = nI n ∧ kI hm 0 0 = nI n
def cPau (hx hm : KH) : Prop := ∃ n, n ≤ 500 ∧ kI hx 1 3 = nI n ∧ kI hm 0 1 = nI n
def cLen (hx hm : KH) : Prop := ∀ i j, i < 8 → j < 8 → ∃ n, n ≤ 200 ∧ kI hx (3 + i) j = nI n ∧ kI hm 1 (8 * i + j) = nI n ∧ kI hm 1 (8 * j + i) = nI n ∧ (i = j → n = 0)
def cDis (hx hm : KH) : Prop := ∀ i j, i < 8 → j < 8 → kI hx (12 + i) j = kI hm 2 (8 * i + j) ∧ (kI hm 2 (8 * i + j) = -1 ∨ ∃ n, n ≤ 51200 ∧ kI hm 2 (8 * i + j) = nI n)
def cRat (hx hm : KH) : Prop := ∀ k, k < 4 → ∃ n, n ≤ 50 ∧ kI hx 21 k = nI n ∧ kI hm 3 k = nI n
def cTxt (hx hm : KH) : Prop := ∃ n, n ≤ 6 ∧ kI hx 22 1 = nI n ∧ kI hm 0 5 = nI n ∧ ∀ k, k < n → ∃ v, v < 15 ∧ kI hx 23 k = nI v ∧ kI hm 4 k = nI v
def cAli (hx hm : KH) : Prop := (∀ a, a < 15 → ∃ M, M < 32768 ∧ kI hx 25 a = nI M ∧ ∀ b, b < 15 → kI hm 5 (15 * a + b) = if M.testBit b then 1 else 0) ∧ ∀ a b, a < 15 → b < 15 → kI hm 5 (15 * a + b) = kI hm 5 (15 * b + a)
def cPl1 (hx hm : KH) (p : Nat) : Prop :=
  (kd hx (100 + 8 * p) = 5 ∧ kd hx (101 + 8 * p) = 8 ∧ kd hx (102 + 8 * p) = 21 ∧ kn hx (102 + 8 * p) = 6 ∧ kd hx (104 + 8 * p) = 4 ∧ kd hx (105 + 8 * p) = 26 ∧ kn hx (105 + 8 * p) = 60 ∧ kd hx (106 + 8 * p) = 23 ∧ kn hx (106 + 8 * p) = 60) ∧
  (kR hx 26 p = some (100 + 8 * p) ∧ kR hx (100 + 8 * p) 1 = some (101 + 8 * p) ∧ kR hx (101 + 8 * p) 0 = some (102 + 8 * p) ∧ kR hx (100 + 8 * p) 3 = some (104 + 8 * p) ∧ kR hx (104 + 8 * p) 0 = some (105 + 8 * p) ∧ kR hx (104 + 8 * p) 1 = some (106 + 8 * p)) ∧
  kI hx (100 + 8 * p) 0 = nI p ∧ (∃ n, 1 ≤ n ∧ n ≤ 6 ∧ kI hx (101 + 8 * p) 1 = nI n ∧ kI hm 6 p = nI n ∧ ∀ k, k < n → ∃ v, v < 14 ∧ kI hx (102 + 8 * p) k = nI v ∧ kI hm 7 (6 * p + k) = nI v) ∧ ∃ c, c < 4 ∧ kI hx (100 + 8 * p) 2 = nI c ∧ kI hm 8 p = nI c
def cPla (hx hm : KH) : Prop := (∃ P, P ≤ 10 ∧ kI hx 0 13 = nI P ∧ kI hm 0 8 = nI P) ∧ (∀ p, p < mn hm 0 8 → cPl1 hx hm p) ∧ ∀ p q, p < q → q < mn hm 0 8 → sTl (mn hm) p ≠ sTl (mn hm) q
def cOrd (hx hm : KH) : Prop := ∃ o : List Nat, o.length = mn hm 0 8 ∧ (∀ p, p ∈ o ↔ p < mn hm 0 8) ∧ o.Pairwise (fun p q => sTl (mn hm) p < sTl (mn hm) q) ∧ ∀ k, k < o.length → kR hx 27 k = some (100 + 8 * o.getD k 0)
def cHol (j : Nat) (hx hm : KH) : Prop := ∃ n, n ≤ j ∧ kI hm 0 12 = nI n ∧ (∀ k, k < n → (∃ p, p < mn hm 0 8 ∧ kI hm 9 k = nI p) ∧ (∃ d, d < 6 ∧ kI hm 10 k = nI d) ∧ ∃ s, s ≤ mn hm 0 0 ∧ kI hm 11 k = nI s) ∧
  ∀ p, p < mn hm 0 8 → (∃ a, kR hx (100 + 8 * p) 4 = some a) ∧ xChn hx (j + 1) (kR hx (100 + 8 * p) 4) ∧ ∀ m, xDrv hx m (j + 1) (kR hx (100 + 8 * p) 4) = sHold hm p m n
def cRe1 (hx hm : KH) (r : Nat) : Prop :=
  (kd hx (200 + 4 * r) = 6 ∧ kd hx (201 + 4 * r) = 8 ∧ kd hx (202 + 4 * r) = 21 ∧ kn hx (202 + 4 * r) = 6) ∧ (kR hx 28 r = some (200 + 4 * r) ∧ kR hx (200 + 4 * r) 3 = some (201 + 4 * r) ∧ kR hx (201 + 4 * r) 0 = some (202 + 4 * r)) ∧
  kI hx (200 + 4 * r) 0 = nI r ∧ (∃ g, g < 8 ∧ kI hx (200 + 4 * r) 1 = nI g ∧ kI hm 12 r = nI g) ∧ (∃ m, m ≤ 50000 ∧ kI hx (200 + 4 * r) 2 = nI m ∧ kI hm 13 r = nI m) ∧
  (∃ n, 1 ≤ n ∧ n ≤ 6 ∧ kI hx (201 + 4 * r) 1 = nI n ∧ kI hm 14 r = nI n ∧ ∀ k, k < n → ∃ v, v < 15 ∧ kI hx (202 + 4 * r) k = nI v ∧ kI hm 15 (6 * r + k) = nI v) ∧
  (kI hx (200 + 4 * r) 4 = 0 ∧ kI hm 16 r = 0 ∨ kI hx (200 + 4 * r) 4 = 1 ∧ kI hm 16 r = 1 ∧ (kI hm 17 r = -1 ∨ ∃ q, q < mn hm 0 8 ∧ kI hm 17 r = nI q)) ∧ kR hx (200 + 4 * r) 5 = (sPF hm r).map (fun p => 100 + 8 * p)
def cZer (hm : KH) : Prop := ∀ r, mn hm 0 16 ≤ r → r < 60 → kI hm 16 r = 0
def cRea (hx hm : KH) : Prop := (∃ R, R ≤ 60 ∧ kI hx 0 14 = nI R ∧ kI hm 0 16 = nI R) ∧ (∀ r, r < mn hm 0 16 → cRe1 hx hm r) ∧ cZer hm
def cPas (hx hm : KH) : Prop := ∀ p, p < mn hm 0 8 → ∃ l, sRow hm p l ∧ kI hx (104 + 8 * p) 2 = nI l.length ∧ ∀ k, k < l.length → kR hx (105 + 8 * p) k = some (200 + 4 * l.getD k 0) ∧ kI hx (106 + 8 * p) k = if sBegAt hm l k then 1 else 0
def cBil (hx hm : KH) : Prop := (∀ d, d < 6 → kL hx 31 d = kL hm 20 d ∧ kL hx 32 d = kL hm 21 d) ∧ ∀ k, k < 60 → kI hx 35 k = 0 ∨ kI hx 35 k = 1
def cWa1 (hx hm : KH) (w : Nat) : Prop := kd hx (500 + w) = 9 ∧ kR hx 29 w = some (500 + w) ∧ kI hx (500 + w) 0 = nI w ∧ (∃ p, p < mn hm 0 8 ∧ kI hm 22 w = nI p ∧ kR hx (500 + w) 1 = some (104 + 8 * p)) ∧ ∃ f t, f ≤ t ∧ t ≤ 34 ∧ kI hx (500 + w) 2 = nI f ∧ kI hm 23 w = nI f ∧ kI hx (500 + w) 3 = nI t ∧ kI hm 24 w = nI t
def cWar (hx hm : KH) : Prop := (∃ W, W ≤ 8 ∧ kI hx 0 15 = nI W ∧ kI hm 0 27 = nI W) ∧ ∀ w, w < mn hm 0 27 → cWa1 hx hm w
def cAn1 (hx hm : KH) (n : Nat) : Prop := kd hx (600 + n) = 1 ∧ kR hx 30 n = some (600 + n) ∧ (∃ w, w < mn hm 0 27 ∧ kI hx (600 + n) 0 = nI w ∧ kI hm 25 n = nI w) ∧ kI hx (600 + n) 1 = kI hm 26 n ∧ ∃ g m, g < 8 ∧ m ≤ 50000 ∧ kI hx (600 + n) 2 = nI g ∧ kI hx (600 + n) 3 = nI m ∧ kI hm 27 n = nI (100000 * g + m)
def cAns (hx hm : KH) : Prop := (∃ N, N ≤ 40 ∧ kI hx 0 16 = nI N ∧ kI hm 0 31 = nI N) ∧ ∀ n, n < mn hm 0 31 → cAn1 hx hm n
/-- what isn't made yet is free -/
def cFre (j : Nat) (hx hm : KH) : Prop := ∀ a, (100 + 8 * mn hm 0 8 ≤ a ∧ a < 180) ∨ (200 + 4 * mn hm 0 16 ≤ a ∧ a < 440) ∨ (500 + mn hm 0 27 ≤ a ∧ a < 508) ∨ (600 + mn hm 0 31 ≤ a ∧ a < 640) ∨ 1000 + j ≤ a → kd hx a = 0
def RR (j : Nat) (hx hm : KH) : Prop := (kSx hx ∧ kSm hm) ∧ cMin hx hm ∧ cPau hx hm ∧ cLen hx hm ∧ cDis hx hm ∧ cRat hx hm ∧ cTxt hx hm ∧ cAli hx hm ∧ cPla hx hm ∧ cOrd hx hm ∧ cHol j hx hm ∧ cRea hx hm ∧ cPas hx hm ∧ cBil hx hm ∧ cWar hx hm ∧ cAns hx hm ∧ cFre j hx hm
end
section
/-! what is kept where nothing is written -/
def kAg (D : Nat → Nat → Prop) (h h' : KH) : Prop := (∀ a k, ¬ D a k → kI h' a k = kI h a k ∧ kL h' a k = kL h a k ∧ kR h' a k = kR h a k) ∧ ∀ a, (kd h a ≠ 0 ∨ ¬ D (a + 1000000) 0) → kd h' a = kd h a ∧ kn h' a = kn h a
theorem kAg.k {D : Nat → Nat → Prop} {h h' : KH} (g : kAg D h h') (a : Nat) (h1 : kd h a ≠ 0) : kd h' a = kd h a ∧ kn h' a = kn h a := g.2 a (Or.inl h1)
theorem kAg.nf {D : Nat → Nat → Prop} {h h' : KH} (g : kAg D h h') (hD : ∀ a, ¬ D (a + 1000000) 0) : ∀ a, kd h a = 0 → kd h' a = 0 := fun a e => by
  rw [(g.2 a (Or.inr (hD a))).1]
  exact e
theorem kAg.rf (h : KH) : kAg (fun _ _ => False) h h := ⟨fun _ _ _ => ⟨rfl, rfl, rfl⟩, fun _ _ => ⟨rfl, rfl⟩⟩
theorem kAg.trans {D E F : Nat → Nat → Prop} {h h1 h2 : KH} (a : kAg D h h1) (b : kAg E h1 h2) (hD : ∀ i k, ¬ F i k → ¬ D i k) (hE : ∀ i k, ¬ F i k → ¬ E i k) : kAg F h h2 :=
  ⟨fun i k q => by
    obtain ⟨x1, x2, x3⟩ := a.1 i k (hD i k q)
    obtain ⟨y1, y2, y3⟩ := b.1 i k (hE i k q)
    exact ⟨y1.trans x1, y2.trans x2, y3.trans x3⟩, fun i q => by
    obtain ⟨x1, x2⟩ := a.2 i (q.imp id (fun z => hD _ _ z))
    obtain ⟨y1, y2⟩ := b.2 i (q.imp (fun z => by rw [x1]; exact z) (fun z => hE _ _ z))
    exact ⟨y1.trans x1, y2.trans x2⟩⟩
theorem kAg.I (h : KH) (a k : Nat) (v : Int32) : kAg (fun b j => b = a ∧ j = k) h (sI h a k v) := ⟨fun b j q => ⟨by rw [kI_sI, if_neg q], rfl, rfl⟩, fun _ _ => ⟨rfl, rfl⟩⟩
theorem kAg.L (h : KH) (a k : Nat) (v : Int64) : kAg (fun b j => b = a ∧ j = k) h (sL h a k v) := ⟨fun b j q => ⟨rfl, by rw [kL_sL, if_neg q], rfl⟩, fun _ _ => ⟨rfl, rfl⟩⟩
theorem kAg.R (h : KH) (a k : Nat) (v : Option Nat) : kAg (fun b j => b = a ∧ j = k) h (sR h a k v) := ⟨fun b j q => ⟨rfl, rfl, by rw [kR_sR, if_neg q]⟩, fun _ _ => ⟨rfl, rfl⟩⟩
theorem kAg.A (h : KH) (a : Nat) (g : Nat → Int32) : kAg (fun b _ => b = a) h (sA h a g) := ⟨fun b j q => ⟨by rw [kI_sA, if_neg q], rfl, rfl⟩, fun _ _ => ⟨rfl, rfl⟩⟩
theorem kAg.RA (h : KH) (a : Nat) (g : Nat → Option Nat) : kAg (fun b _ => b = a) h (sRA h a g) := ⟨fun b j q => ⟨rfl, rfl, by rw [kR_sRA, if_neg q]⟩, fun _ _ => ⟨rfl, rfl⟩⟩
theorem kAg.LA (h : KH) (a : Nat) (g : Nat → Int64) : kAg (fun b _ => b = a) h (sLA h a g) := ⟨fun b j q => ⟨rfl, by rw [kL_sLA, if_neg q], rfl⟩, fun _ _ => ⟨rfl, rfl⟩⟩
theorem kAg.al (h : KH) (c n : Nat) (hf : kd h (kx h) = 0) : kAg (fun b _ => b = kx h ∨ b = kx h + 1000000) h (al h c n) := ⟨fun b j q => ⟨by rw [kI_al, if_neg (fun z => q (Or.inl z))], by rw [kL_al, if_neg (fun z => q (Or.inl z))], by rw [kR_al, if_neg (fun z => q (Or.inl z))]⟩, fun a q => by
  have hne : ¬ a = kx h := fun e => q.elim (fun z => z (by rw [e]; exact hf)) (fun z => z (Or.inr (by rw [e])))
  exact ⟨by rw [kd_al, if_neg hne], by rw [kn_al, if_neg hne]⟩⟩
theorem kAg.X (h : KH) (n : Nat) : kAg (fun _ _ => False) h (sX h n) := ⟨fun _ _ _ => ⟨rfl, rfl, rfl⟩, fun _ _ => ⟨rfl, rfl⟩⟩
theorem kAg.sub {D F : Nat → Nat → Prop} {h h1 : KH} (a : kAg D h h1) (hD : ∀ i k, D i k → F i k) : kAg F h h1 := ⟨fun i k q => a.1 i k (fun z => q (hD i k z)), fun i q => a.2 i (q.imp id (fun z w => z (hD _ _ w)))⟩
theorem mn_cg {h h' : KH} {a : Nat} (e : ∀ k, kI h' a k = kI h a k) : mn h' a = mn h a := by
  funext k
  unfold mn
  rw [e]
theorem mn_cg1 {h h' : KH} {a k : Nat} (e : kI h' a k = kI h a k) : mn h' a k = mn h a k := by
  unfold mn
  rw [e]
theorem sPart_cg {m m' : Nat → Nat → Nat} (h5 : m' 5 = m 5) (x y : Nat) : sPart m' x y = sPart m x y := by
  unfold sPart
  rw [h5]
theorem sCst_cg {m m' : Nat → Nat → Nat} (h5 : m' 5 = m 5) (h7 : m' 7 = m 7) (h15 : m' 15 = m 15) (r p k : Nat) : sCst m' r p k = sCst m r p k := by
  induction k with
  | zero => rfl
  | succ k ih =>
    unfold sCst
    rw [ih, sPart_cg h5, h7, h15]
theorem sCost_cg {m m' : Nat → Nat → Nat} (h5 : m' 5 = m 5) (h6 : m' 6 = m 6) (h7 : m' 7 = m 7) (h14 : m' 14 = m 14) (h15 : m' 15 = m 15) (r p : Nat) : sCost m' r p = sCost m r p := by
  unfold sCost
  rw [h14, h6, sCst_cg h5 h7 h15]
theorem sTl_cg {m m' : Nat → Nat → Nat} (h6 : m' 6 = m 6) (h7 : m' 7 = m 7) (p : Nat) : sTl m' p = sTl m p := by
  unfold sTl
  rw [h6, h7]
theorem sBest_cg {m m' : Nat → Nat → Nat} (h5 : m' 5 = m 5) (h6 : m' 6 = m 6) (h7 : m' 7 = m 7) (h14 : m' 14 = m 14) (h15 : m' 15 = m 15) (r k : Nat) : sBest m' r k = sBest m r k := by
  induction k with
  | zero => rfl
  | succ k ih =>
    unfold sBest
    simp only [ih, sCost_cg h5 h6 h7 h14 h15, sTl_cg h6 h7]
theorem sPF_cg {h h' : KH} (e8 : kI h' 0 8 = kI h 0 8) (e : ∀ a, a = 5 ∨ a = 6 ∨ a = 7 ∨ a = 14 ∨ a = 15 ∨ a = 16 ∨ a = 17 → ∀ k, kI h' a k = kI h a k) (r : Nat) : sPF h' r = sPF h r := by
  unfold sPF
  rw [mn_cg (e 16 (by omega)), mn_cg (e 17 (by omega)), e 17 (by omega), mn_cg1 e8, sBest_cg (mn_cg (e 5 (by omega))) (mn_cg (e 6 (by omega))) (mn_cg (e 7 (by omega))) (mn_cg (e 14 (by omega))) (mn_cg (e 15 (by omega)))]
theorem sRow_cg {h h' : KH} {p : Nat} {l : List Nat} (e1 : ∀ r, sPF h' r = sPF h r) (e2 : kI h' 0 16 = kI h 0 16) (e3 : ∀ k, kI h' 13 k = kI h 13 k) (s : sRow h p l) : sRow h' p l := by
  obtain ⟨s1, s2⟩ := s
  refine ⟨fun r => by rw [e1, mn_cg1 e2]; exact s1 r, s2.imp ?_⟩
  intro a b hab
  unfold sBef at hab ⊢
  rw [mn_cg e3]
  exact hab
theorem sBegAt_cg {h h' : KH} (e1 : kI h' 0 1 = kI h 0 1) (e2 : ∀ k, kI h' 2 k = kI h 2 k) (e3 : ∀ k, kI h' 12 k = kI h 12 k) (e4 : ∀ k, kI h' 13 k = kI h 13 k) (l : List Nat) (k : Nat) : sBegAt h' l k = sBegAt h l k := by
  unfold sBegAt
  split
  · rfl
  · unfold sBeg
    rw [mn_cg e2, mn_cg e3, mn_cg e4, mn_cg1 e1, e2]
theorem sHold_cg {h h' : KH} (e9 : ∀ k, kI h' 9 k = kI h 9 k) (e10 : ∀ k, kI h' 10 k = kI h 10 k) (e11 : ∀ k, kI h' 11 k = kI h 11 k) (p m n : Nat) : sHold h' p m n = sHold h p m n := by
  induction n with
  | zero => rfl
  | succ n ih =>
    unfold sHold
    rw [ih, mn_cg e9, mn_cg e11, e10]
theorem xDC_cg {h h' : KH} (e : ∀ a, (a % 8 = 7 ∧ 100 ≤ a ∧ a < 180 ∨ 1000 ≤ a ∧ a < 2000) → kd h a = 2 → kd h' a = 2 ∧ (∀ k, kI h' a k = kI h a k) ∧ ∀ k, kR h' a k = kR h a k) : ∀ (n : Nat) (o : Option Nat), xChn h n o → xChn h' n o ∧ ∀ m, xDrv h' m n o = xDrv h m n o := by
  intro n
  induction n with
  | zero => exact fun o c => ⟨c, fun m => rfl⟩
  | succ n ih =>
    intro o c
    cases o with
    | none => exact ⟨trivial, fun m => rfl⟩
    | some a =>
      obtain ⟨c1, c2, c3, c4, c5⟩ := c
      obtain ⟨e1, e2, e3⟩ := e a c2 c1
      obtain ⟨i1, i2⟩ := ih (kR h a 2) c5
      refine ⟨⟨e1, c2, by rw [e2]; exact c3, by rw [e2]; exact c4, by rw [e3]; exact i1⟩, fun m => ?_⟩
      unfold xDrv
      rw [mn_cg1 (e2 1), e2, e3, i2]

theorem cMin.fr {D E : Nat → Nat → Prop} {hx hm hx' hm' : KH} (c : cMin hx hm) (ag : kAg D hx hx') (am : kAg E hm hm') (hD : ∀ a k, a = 0 ∧ k = 12 → ¬ D a k) (hE : ∀ a k, a = 0 ∧ k = 0 → ¬ E a k) : cMin hx' hm' := by
  have eI : ∀ a k, a = 0 ∧ k = 12 → kI hx' a k = kI hx a k := fun a k h => (ag.1 a k (hD a k h)).1
  have eL : ∀ a k, a = 0 ∧ k = 12 → kL hx' a k = kL hx a k := fun a k h => (ag.1 a k (hD a k h)).2.1
  have eR : ∀ a k, a = 0 ∧ k = 12 → kR hx' a k = kR hx a k := fun a k h => (ag.1 a k (hD a k h)).2.2
  have mI : ∀ a k, a = 0 ∧ k = 0 → kI hm' a k = kI hm a k := fun a k h => (am.1 a k (hE a k h)).1
  have mL : ∀ a k, a = 0 ∧ k = 0 → kL hm' a k = kL hm a k := fun a k h => (am.1 a k (hE a k h)).2.1
  have mN : ∀ a k, a = 0 ∧ k = 0 → mn hm' a k = mn hm a k := fun a k h => mn_cg1 (mI a k h)
  unfold cMin at c ⊢
  simp (disch := omega) only [eI, mI]
  exact c
theorem cPau.fr {D E : Nat → Nat → Prop} {hx hm hx' hm' : KH} (c : cPau hx hm) (ag : kAg D hx hx') (am : kAg E hm hm') (hD : ∀ a k, a = 1 ∧ k = 3 → ¬ D a k) (hE : ∀ a k, a = 0 ∧ k = 1 → ¬ E a k) : cPau hx' hm' := by
  have eI : ∀ a k, a = 1 ∧ k = 3 → kI hx' a k = kI hx a k := fun a k h => (ag.1 a k (hD a k h)).1
  have eL : ∀ a k, a = 1 ∧ k = 3 → kL hx' a k = kL hx a k := fun a k h => (ag.1 a k (hD a k h)).2.1
  have eR : ∀ a k, a = 1 ∧ k = 3 → kR hx' a k = kR hx a k := fun a k h => (ag.1 a k (hD a k h)).2.2
  have mI : ∀ a k, a = 0 ∧ k = 1 → kI hm' a k = kI hm a k := fun a k h => (am.1 a k (hE a k h)).1
  have mL : ∀ a k, a = 0 ∧ k = 1 → kL hm' a k = kL hm a k := fun a k h => (am.1 a k (hE a k h)).2.1
  have mN : ∀ a k, a = 0 ∧ k = 1 → mn hm' a k = mn hm a k := fun a k h => mn_cg1 (mI a k h)
  unfold cPau at c ⊢
  simp (disch := omega) only [eI, mI]
  exact c
theorem cLen.fr {D E : Nat → Nat → Prop} {hx hm hx' hm' : KH} (c : cLen hx hm) (ag : kAg D hx hx') (am : kAg E hm hm') (hD : ∀ a k, 3 ≤ a ∧ a ≤ 10 → ¬ D a k) (hE : ∀ a k, a = 1 → ¬ E a k) : cLen hx' hm' := by
  have eI : ∀ a k, 3 ≤ a ∧ a ≤ 10 → kI hx' a k = kI hx a k := fun a k h => (ag.1 a k (hD a k h)).1
  have eL : ∀ a k, 3 ≤ a ∧ a ≤ 10 → kL hx' a k = kL hx a k := fun a k h => (ag.1 a k (hD a k h)).2.1
  have eR : ∀ a k, 3 ≤ a ∧ a ≤ 10 → kR hx' a k = kR hx a k := fun a k h => (ag.1 a k (hD a k h)).2.2
  have mI : ∀ a k, a = 1 → kI hm' a k = kI hm a k := fun a k h => (am.1 a k (hE a k h)).1
  have mL : ∀ a k, a = 1 → kL hm' a k = kL hm a k := fun a k h => (am.1 a k (hE a k h)).2.1
  have mN : ∀ a k, a = 1 → mn hm' a k = mn hm a k := fun a k h => mn_cg1 (mI a k h)
  unfold cLen at c ⊢
  intro i j hi hj
  simp (disch := omega) only [eI, mI]
  exact c i j hi hj
theorem cDis.fr {D E : Nat → Nat → Prop} {hx hm hx' hm' : KH} (c : cDis hx hm) (ag : kAg D hx hx') (am : kAg E hm hm') (hD : ∀ a k, 12 ≤ a ∧ a ≤ 19 → ¬ D a k) (hE : ∀ a k, a = 2 → ¬ E a k) : cDis hx' hm' := by
  have eI : ∀ a k, 12 ≤ a ∧ a ≤ 19 → kI hx' a k = kI hx a k := fun a k h => (ag.1 a k (hD a k h)).1
  have eL : ∀ a k, 12 ≤ a ∧ a ≤ 19 → kL hx' a k = kL hx a k := fun a k h => (ag.1 a k (hD a k h)).2.1
  have eR : ∀ a k, 12 ≤ a ∧ a ≤ 19 → kR hx' a k = kR hx a k := fun a k h => (ag.1 a k (hD a k h)).2.2
  have mI : ∀ a k, a = 2 → kI hm' a k = kI hm a k := fun a k h => (am.1 a k (hE a k h)).1
  have mL : ∀ a k, a = 2 → kL hm' a k = kL hm a k := fun a k h => (am.1 a k (hE a k h)).2.1
  have mN : ∀ a k, a = 2 → mn hm' a k = mn hm a k := fun a k h => mn_cg1 (mI a k h)
  unfold cDis at c ⊢
  intro i j hi hj
  simp (disch := omega) only [eI, mI]
  exact c i j hi hj
theorem cRat.fr {D E : Nat → Nat → Prop} {hx hm hx' hm' : KH} (c : cRat hx hm) (ag : kAg D hx hx') (am : kAg E hm hm') (hD : ∀ a k, a = 21 → ¬ D a k) (hE : ∀ a k, a = 3 → ¬ E a k) : cRat hx' hm' := by
  have eI : ∀ a k, a = 21 → kI hx' a k = kI hx a k := fun a k h => (ag.1 a k (hD a k h)).1
  have eL : ∀ a k, a = 21 → kL hx' a k = kL hx a k := fun a k h => (ag.1 a k (hD a k h)).2.1
  have eR : ∀ a k, a = 21 → kR hx' a k = kR hx a k := fun a k h => (ag.1 a k (hD a k h)).2.2
  have mI : ∀ a k, a = 3 → kI hm' a k = kI hm a k := fun a k h => (am.1 a k (hE a k h)).1
  have mL : ∀ a k, a = 3 → kL hm' a k = kL hm a k := fun a k h => (am.1 a k (hE a k h)).2.1
  have mN : ∀ a k, a = 3 → mn hm' a k = mn hm a k := fun a k h => mn_cg1 (mI a k h)
  intro k hk
  simp (disch := omega) only [eI, mI]
  exact c k hk
theorem cTxt.fr {D E : Nat → Nat → Prop} {hx hm hx' hm' : KH} (c : cTxt hx hm) (ag : kAg D hx hx') (am : kAg E hm hm') (hD : ∀ a k, a = 23 ∨ a = 22 ∧ k = 1 → ¬ D a k) (hE : ∀ a k, a = 4 ∨ a = 0 ∧ k = 5 → ¬ E a k) : cTxt hx' hm' := by
  have eI : ∀ a k, a = 23 ∨ a = 22 ∧ k = 1 → kI hx' a k = kI hx a k := fun a k h => (ag.1 a k (hD a k h)).1
  have eL : ∀ a k, a = 23 ∨ a = 22 ∧ k = 1 → kL hx' a k = kL hx a k := fun a k h => (ag.1 a k (hD a k h)).2.1
  have eR : ∀ a k, a = 23 ∨ a = 22 ∧ k = 1 → kR hx' a k = kR hx a k := fun a k h => (ag.1 a k (hD a k h)).2.2
  have mI : ∀ a k, a = 4 ∨ a = 0 ∧ k = 5 → kI hm' a k = kI hm a k := fun a k h => (am.1 a k (hE a k h)).1
  have mL : ∀ a k, a = 4 ∨ a = 0 ∧ k = 5 → kL hm' a k = kL hm a k := fun a k h => (am.1 a k (hE a k h)).2.1
  have mN : ∀ a k, a = 4 ∨ a = 0 ∧ k = 5 → mn hm' a k = mn hm a k := fun a k h => mn_cg1 (mI a k h)
  unfold cTxt at c ⊢
  simp (disch := omega) only [eI, mI]
  exact c
theorem cAli.fr {D E : Nat → Nat → Prop} {hx hm hx' hm' : KH} (c : cAli hx hm) (ag : kAg D hx hx') (am : kAg E hm hm') (hD : ∀ a k, a = 25 → ¬ D a k) (hE : ∀ a k, a = 5 → ¬ E a k) : cAli hx' hm' := by
  have eI : ∀ a k, a = 25 → kI hx' a k = kI hx a k := fun a k h => (ag.1 a k (hD a k h)).1
  have eL : ∀ a k, a = 25 → kL hx' a k = kL hx a k := fun a k h => (ag.1 a k (hD a k h)).2.1
  have eR : ∀ a k, a = 25 → kR hx' a k = kR hx a k := fun a k h => (ag.1 a k (hD a k h)).2.2
  have mI : ∀ a k, a = 5 → kI hm' a k = kI hm a k := fun a k h => (am.1 a k (hE a k h)).1
  have mL : ∀ a k, a = 5 → kL hm' a k = kL hm a k := fun a k h => (am.1 a k (hE a k h)).2.1
  have mN : ∀ a k, a = 5 → mn hm' a k = mn hm a k := fun a k h => mn_cg1 (mI a k h)
  unfold cAli at c ⊢
  simp (disch := omega) only [eI, mI]
  exact c
theorem cPla.fr {D E : Nat → Nat → Prop} {hx hm hx' hm' : KH} (c : cPla hx hm) (ag : kAg D hx hx') (am : kAg E hm hm') (hD : ∀ a k, 100 ≤ a ∧ a < 180 ∧ a % 8 ≠ 7 ∧ ¬ (a % 8 = 4 ∧ k = 4) ∧ ¬ (a % 8 = 0 ∧ k = 2) ∧ a % 8 ≠ 1 ∧ a % 8 ≠ 2 ∨ a = 26 ∨ a = 0 ∧ k = 13 → ¬ D a k) (hE : ∀ a k, a = 6 ∨ a = 7 ∨ a = 8 ∨ a = 0 ∧ k = 8 → ¬ E a k) : cPla hx' hm' := by
  have eI : ∀ a k, 100 ≤ a ∧ a < 180 ∧ a % 8 ≠ 7 ∧ ¬ (a % 8 = 4 ∧ k = 4) ∧ ¬ (a % 8 = 0 ∧ k = 2) ∧ a % 8 ≠ 1 ∧ a % 8 ≠ 2 ∨ a = 26 ∨ a = 0 ∧ k = 13 → kI hx' a k = kI hx a k := fun a k h => (ag.1 a k (hD a k h)).1
  have eL : ∀ a k, 100 ≤ a ∧ a < 180 ∧ a % 8 ≠ 7 ∧ ¬ (a % 8 = 4 ∧ k = 4) ∧ ¬ (a % 8 = 0 ∧ k = 2) ∧ a % 8 ≠ 1 ∧ a % 8 ≠ 2 ∨ a = 26 ∨ a = 0 ∧ k = 13 → kL hx' a k = kL hx a k := fun a k h => (ag.1 a k (hD a k h)).2.1
  have eR : ∀ a k, 100 ≤ a ∧ a < 180 ∧ a % 8 ≠ 7 ∧ ¬ (a % 8 = 4 ∧ k = 4) ∧ ¬ (a % 8 = 0 ∧ k = 2) ∧ a % 8 ≠ 1 ∧ a % 8 ≠ 2 ∨ a = 26 ∨ a = 0 ∧ k = 13 → kR hx' a k = kR hx a k := fun a k h => (ag.1 a k (hD a k h)).2.2
  have mI : ∀ a k, a = 6 ∨ a = 7 ∨ a = 8 ∨ a = 0 ∧ k = 8 → kI hm' a k = kI hm a k := fun a k h => (am.1 a k (hE a k h)).1
  have mL : ∀ a k, a = 6 ∨ a = 7 ∨ a = 8 ∨ a = 0 ∧ k = 8 → kL hm' a k = kL hm a k := fun a k h => (am.1 a k (hE a k h)).2.1
  have mN : ∀ a k, a = 6 ∨ a = 7 ∨ a = 8 ∨ a = 0 ∧ k = 8 → mn hm' a k = mn hm a k := fun a k h => mn_cg1 (mI a k h)
  obtain ⟨⟨P, hP, c1, c2⟩, c3, c4⟩ := c
  have hPm : mn hm 0 8 = P := by unfold mn; rw [c2, nI_clamp (by omega)]
  refine ⟨⟨P, hP, by rw [eI _ _ (by omega)]; exact c1, by rw [mI _ _ (by omega)]; exact c2⟩, fun p hp => ?_, fun p q hp hq => ?_⟩
  · rw [mN _ _ (by omega)] at hp
    obtain ⟨⟨d1, d2, d3, d4, d5, d6, d7, d8, d9⟩, r, i1, i2, i3⟩ := c3 p hp
    unfold cPl1
    simp (disch := omega) only [eI, eR, mI]
    have e1 := ag.k (100 + 8 * p) (by omega)
    have e2 := ag.k (101 + 8 * p) (by omega)
    have e3 := ag.k (102 + 8 * p) (by omega)
    have e4 := ag.k (104 + 8 * p) (by omega)
    have e5 := ag.k (105 + 8 * p) (by omega)
    have e6 := ag.k (106 + 8 * p) (by omega)
    rw [e1.1, e2.1, e3.1, e3.2, e4.1, e5.1, e5.2, e6.1, e6.2]
    exact ⟨⟨d1, d2, d3, d4, d5, d6, d7, d8, d9⟩, r, i1, i2, i3⟩
  · rw [mN _ _ (by omega)] at hq
    rw [sTl_cg (mn_cg (fun k => mI 6 k (by omega))) (mn_cg (fun k => mI 7 k (by omega))), sTl_cg (mn_cg (fun k => mI 6 k (by omega))) (mn_cg (fun k => mI 7 k (by omega)))]
    exact c4 p q hp hq
theorem cOrd.fr {D E : Nat → Nat → Prop} {hx hm hx' hm' : KH} (c : cOrd hx hm) (ag : kAg D hx hx') (am : kAg E hm hm') (hD : ∀ a k, a = 27 → ¬ D a k) (hE : ∀ a k, a = 6 ∨ a = 7 ∨ a = 0 ∧ k = 8 → ¬ E a k) : cOrd hx' hm' := by
  have eI : ∀ a k, a = 27 → kI hx' a k = kI hx a k := fun a k h => (ag.1 a k (hD a k h)).1
  have eL : ∀ a k, a = 27 → kL hx' a k = kL hx a k := fun a k h => (ag.1 a k (hD a k h)).2.1
  have eR : ∀ a k, a = 27 → kR hx' a k = kR hx a k := fun a k h => (ag.1 a k (hD a k h)).2.2
  have mI : ∀ a k, a = 6 ∨ a = 7 ∨ a = 0 ∧ k = 8 → kI hm' a k = kI hm a k := fun a k h => (am.1 a k (hE a k h)).1
  have mL : ∀ a k, a = 6 ∨ a = 7 ∨ a = 0 ∧ k = 8 → kL hm' a k = kL hm a k := fun a k h => (am.1 a k (hE a k h)).2.1
  have mN : ∀ a k, a = 6 ∨ a = 7 ∨ a = 0 ∧ k = 8 → mn hm' a k = mn hm a k := fun a k h => mn_cg1 (mI a k h)
  obtain ⟨l, c1, c2, c3, c4⟩ := c
  refine ⟨l, by rw [mN _ _ (by omega)]; exact c1, fun p => by rw [mN _ _ (by omega)]; exact c2 p, c3.imp ?_, fun k hk => by rw [eR _ _ (by omega)]; exact c4 k hk⟩
  intro a b hab
  rw [sTl_cg (mn_cg (fun k => mI 6 k (by omega))) (mn_cg (fun k => mI 7 k (by omega))), sTl_cg (mn_cg (fun k => mI 6 k (by omega))) (mn_cg (fun k => mI 7 k (by omega)))]
  exact hab
theorem cHol.fr {D E : Nat → Nat → Prop} {hx hm hx' hm' : KH} {j : Nat} (hP : mn hm 0 8 ≤ 10) (c : cHol j hx hm) (ag : kAg D hx hx') (am : kAg E hm hm') (hD : ∀ a k, a % 8 = 7 ∧ 100 ≤ a ∧ a < 180 ∨ 1000 ≤ a ∧ a < 2000 ∨ a % 8 = 4 ∧ 100 ≤ a ∧ a < 180 ∧ k = 4 → ¬ D a k) (hE : ∀ a k, a = 9 ∨ a = 10 ∨ a = 11 ∨ a = 0 ∧ (k = 0 ∨ k = 8 ∨ k = 12) → ¬ E a k) : cHol j hx' hm' := by
  have eI : ∀ a k, a % 8 = 7 ∧ 100 ≤ a ∧ a < 180 ∨ 1000 ≤ a ∧ a < 2000 ∨ a % 8 = 4 ∧ 100 ≤ a ∧ a < 180 ∧ k = 4 → kI hx' a k = kI hx a k := fun a k h => (ag.1 a k (hD a k h)).1
  have eL : ∀ a k, a % 8 = 7 ∧ 100 ≤ a ∧ a < 180 ∨ 1000 ≤ a ∧ a < 2000 ∨ a % 8 = 4 ∧ 100 ≤ a ∧ a < 180 ∧ k = 4 → kL hx' a k = kL hx a k := fun a k h => (ag.1 a k (hD a k h)).2.1
  have eR : ∀ a k, a % 8 = 7 ∧ 100 ≤ a ∧ a < 180 ∨ 1000 ≤ a ∧ a < 2000 ∨ a % 8 = 4 ∧ 100 ≤ a ∧ a < 180 ∧ k = 4 → kR hx' a k = kR hx a k := fun a k h => (ag.1 a k (hD a k h)).2.2
  have mI : ∀ a k, a = 9 ∨ a = 10 ∨ a = 11 ∨ a = 0 ∧ (k = 0 ∨ k = 8 ∨ k = 12) → kI hm' a k = kI hm a k := fun a k h => (am.1 a k (hE a k h)).1
  have mL : ∀ a k, a = 9 ∨ a = 10 ∨ a = 11 ∨ a = 0 ∧ (k = 0 ∨ k = 8 ∨ k = 12) → kL hm' a k = kL hm a k := fun a k h => (am.1 a k (hE a k h)).2.1
  have mN : ∀ a k, a = 9 ∨ a = 10 ∨ a = 11 ∨ a = 0 ∧ (k = 0 ∨ k = 8 ∨ k = 12) → mn hm' a k = mn hm a k := fun a k h => mn_cg1 (mI a k h)
  obtain ⟨n, c1, c2, c3, c4⟩ := c
  refine ⟨n, c1, by rw [mI _ _ (by omega)]; exact c2, fun k hk => ?_, fun p hp => ?_⟩
  · simp (disch := omega) only [mI, mN]
    exact c3 k hk
  · rw [mN _ _ (by omega)] at hp
    obtain ⟨c5, c6, c7⟩ := c4 p hp
    have hcg := xDC_cg (h := hx) (h' := hx') (fun a ha hd => ⟨by rw [(ag.k a (by omega)).1]; exact hd, fun k => eI a k (by omega), fun k => eR a k (by omega)⟩) (j + 1) (kR hx (100 + 8 * p) 4) c6
    rw [eR _ _ (by omega)]
    refine ⟨c5, hcg.1, fun m => ?_⟩
    rw [hcg.2, c7, sHold_cg (fun k => mI 9 k (by omega)) (fun k => mI 10 k (by omega)) (fun k => mI 11 k (by omega))]
theorem cRea.fr {D E : Nat → Nat → Prop} {hx hm hx' hm' : KH} (c : cRea hx hm) (ag : kAg D hx hx') (am : kAg E hm hm') (hD : ∀ a k, 200 ≤ a ∧ a < 440 ∧ (a % 4 = 0 ∧ k ≤ 5 ∨ a % 4 = 1 ∨ a % 4 = 2) ∨ a = 28 ∨ a = 0 ∧ k = 14 → ¬ D a k) (hE : ∀ a k, a = 5 ∨ a = 6 ∨ a = 7 ∨ a = 12 ∨ a = 13 ∨ a = 14 ∨ a = 15 ∨ a = 16 ∨ a = 17 ∨ a = 0 ∧ (k = 16 ∨ k = 8) → ¬ E a k) : cRea hx' hm' := by
  have eI : ∀ a k, 200 ≤ a ∧ a < 440 ∧ (a % 4 = 0 ∧ k ≤ 5 ∨ a % 4 = 1 ∨ a % 4 = 2) ∨ a = 28 ∨ a = 0 ∧ k = 14 → kI hx' a k = kI hx a k := fun a k h => (ag.1 a k (hD a k h)).1
  have eL : ∀ a k, 200 ≤ a ∧ a < 440 ∧ (a % 4 = 0 ∧ k ≤ 5 ∨ a % 4 = 1 ∨ a % 4 = 2) ∨ a = 28 ∨ a = 0 ∧ k = 14 → kL hx' a k = kL hx a k := fun a k h => (ag.1 a k (hD a k h)).2.1
  have eR : ∀ a k, 200 ≤ a ∧ a < 440 ∧ (a % 4 = 0 ∧ k ≤ 5 ∨ a % 4 = 1 ∨ a % 4 = 2) ∨ a = 28 ∨ a = 0 ∧ k = 14 → kR hx' a k = kR hx a k := fun a k h => (ag.1 a k (hD a k h)).2.2
  have mI : ∀ a k, a = 5 ∨ a = 6 ∨ a = 7 ∨ a = 12 ∨ a = 13 ∨ a = 14 ∨ a = 15 ∨ a = 16 ∨ a = 17 ∨ a = 0 ∧ (k = 16 ∨ k = 8) → kI hm' a k = kI hm a k := fun a k h => (am.1 a k (hE a k h)).1
  have mL : ∀ a k, a = 5 ∨ a = 6 ∨ a = 7 ∨ a = 12 ∨ a = 13 ∨ a = 14 ∨ a = 15 ∨ a = 16 ∨ a = 17 ∨ a = 0 ∧ (k = 16 ∨ k = 8) → kL hm' a k = kL hm a k := fun a k h => (am.1 a k (hE a k h)).2.1
  have mN : ∀ a k, a = 5 ∨ a = 6 ∨ a = 7 ∨ a = 12 ∨ a = 13 ∨ a = 14 ∨ a = 15 ∨ a = 16 ∨ a = 17 ∨ a = 0 ∧ (k = 16 ∨ k = 8) → mn hm' a k = mn hm a k := fun a k h => mn_cg1 (mI a k h)
  obtain ⟨⟨R, hR, c1, c2⟩, c3, c4⟩ := c
  have hRm : mn hm 0 16 = R := by unfold mn; rw [c2, nI_clamp (by omega)]
  refine ⟨⟨R, hR, by rw [eI _ _ (by omega)]; exact c1, by rw [mI _ _ (by omega)]; exact c2⟩, fun r hr => ?_, fun r hr hr2 => by
    rw [mN _ _ (by omega)] at hr
    rw [mI _ _ (by omega)]
    exact c4 r hr hr2⟩
  rw [mN _ _ (by omega)] at hr
  have hc := c3 r hr
  obtain ⟨⟨d1, d2, d3, d4⟩, -⟩ := id hc
  unfold cRe1 at hc ⊢
  simp (disch := omega) only [eI, eR, mI, mN]
  rw [(sPF_cg (mI 0 8 (by omega)) (fun a ha k => mI a k (by omega))), (ag.k (200 + 4 * r) (by omega)).1, (ag.k (201 + 4 * r) (by omega)).1, (ag.k (202 + 4 * r) (by omega)).1, (ag.k (202 + 4 * r) (by omega)).2]
  exact hc
theorem cPas.fr {D E : Nat → Nat → Prop} {hx hm hx' hm' : KH} (hP : mn hm 0 8 ≤ 10) (c : cPas hx hm) (ag : kAg D hx hx') (am : kAg E hm hm') (hD : ∀ a k, 100 ≤ a ∧ a < 180 ∧ (a % 8 = 0 ∧ k = 2 ∨ a % 8 = 1 ∨ a % 8 = 2) → ¬ D a k) (hE : ∀ a k, a = 2 ∨ a = 5 ∨ a = 6 ∨ a = 7 ∨ a = 12 ∨ a = 13 ∨ a = 14 ∨ a = 15 ∨ a = 16 ∨ a = 17 ∨ a = 0 ∧ (k = 16 ∨ k = 8 ∨ k = 1) → ¬ E a k) : cPas hx' hm' := by
  have eI : ∀ a k, 100 ≤ a ∧ a < 180 ∧ (a % 8 = 0 ∧ k = 2 ∨ a % 8 = 1 ∨ a % 8 = 2) → kI hx' a k = kI hx a k := fun a k h => (ag.1 a k (hD a k h)).1
  have eL : ∀ a k, 100 ≤ a ∧ a < 180 ∧ (a % 8 = 0 ∧ k = 2 ∨ a % 8 = 1 ∨ a % 8 = 2) → kL hx' a k = kL hx a k := fun a k h => (ag.1 a k (hD a k h)).2.1
  have eR : ∀ a k, 100 ≤ a ∧ a < 180 ∧ (a % 8 = 0 ∧ k = 2 ∨ a % 8 = 1 ∨ a % 8 = 2) → kR hx' a k = kR hx a k := fun a k h => (ag.1 a k (hD a k h)).2.2
  have mI : ∀ a k, a = 2 ∨ a = 5 ∨ a = 6 ∨ a = 7 ∨ a = 12 ∨ a = 13 ∨ a = 14 ∨ a = 15 ∨ a = 16 ∨ a = 17 ∨ a = 0 ∧ (k = 16 ∨ k = 8 ∨ k = 1) → kI hm' a k = kI hm a k := fun a k h => (am.1 a k (hE a k h)).1
  have mL : ∀ a k, a = 2 ∨ a = 5 ∨ a = 6 ∨ a = 7 ∨ a = 12 ∨ a = 13 ∨ a = 14 ∨ a = 15 ∨ a = 16 ∨ a = 17 ∨ a = 0 ∧ (k = 16 ∨ k = 8 ∨ k = 1) → kL hm' a k = kL hm a k := fun a k h => (am.1 a k (hE a k h)).2.1
  have mN : ∀ a k, a = 2 ∨ a = 5 ∨ a = 6 ∨ a = 7 ∨ a = 12 ∨ a = 13 ∨ a = 14 ∨ a = 15 ∨ a = 16 ∨ a = 17 ∨ a = 0 ∧ (k = 16 ∨ k = 8 ∨ k = 1) → mn hm' a k = mn hm a k := fun a k h => mn_cg1 (mI a k h)
  intro p hp
  rw [mN _ _ (by omega)] at hp
  obtain ⟨l, c1, c2, c3⟩ := c p hp
  refine ⟨l, sRow_cg (fun r => (sPF_cg (mI 0 8 (by omega)) (fun a ha k => mI a k (by omega))) r) (mI 0 16 (by omega)) (fun k => mI 13 k (by omega)) c1, by rw [eI _ _ (by omega)]; exact c2, fun k hk => ?_⟩
  rw [eR _ _ (by omega), eI _ _ (by omega), sBegAt_cg (mI 0 1 (by omega)) (fun k => mI 2 k (by omega)) (fun k => mI 12 k (by omega)) (fun k => mI 13 k (by omega))]
  exact c3 k hk
theorem cBil.fr {D E : Nat → Nat → Prop} {hx hm hx' hm' : KH} (c : cBil hx hm) (ag : kAg D hx hx') (am : kAg E hm hm') (hD : ∀ a k, a = 31 ∨ a = 32 ∨ a = 35 → ¬ D a k) (hE : ∀ a k, a = 20 ∨ a = 21 → ¬ E a k) : cBil hx' hm' := by
  have eI : ∀ a k, a = 31 ∨ a = 32 ∨ a = 35 → kI hx' a k = kI hx a k := fun a k h => (ag.1 a k (hD a k h)).1
  have eL : ∀ a k, a = 31 ∨ a = 32 ∨ a = 35 → kL hx' a k = kL hx a k := fun a k h => (ag.1 a k (hD a k h)).2.1
  have eR : ∀ a k, a = 31 ∨ a = 32 ∨ a = 35 → kR hx' a k = kR hx a k := fun a k h => (ag.1 a k (hD a k h)).2.2
  have mI : ∀ a k, a = 20 ∨ a = 21 → kI hm' a k = kI hm a k := fun a k h => (am.1 a k (hE a k h)).1
  have mL : ∀ a k, a = 20 ∨ a = 21 → kL hm' a k = kL hm a k := fun a k h => (am.1 a k (hE a k h)).2.1
  have mN : ∀ a k, a = 20 ∨ a = 21 → mn hm' a k = mn hm a k := fun a k h => mn_cg1 (mI a k h)
  obtain ⟨c, c'⟩ := c
  refine ⟨fun d hd => ?_, fun k hk => ?_⟩
  · rw [eL _ _ (by omega), eL _ _ (by omega), mL _ _ (by omega), mL _ _ (by omega)]
    exact c d hd
  · rw [eI _ _ (by omega)]
    exact c' k hk
theorem cWar.fr {D E : Nat → Nat → Prop} {hx hm hx' hm' : KH} (c : cWar hx hm) (ag : kAg D hx hx') (am : kAg E hm hm') (hD : ∀ a k, 500 ≤ a ∧ a < 508 ∨ a = 29 ∨ a = 0 ∧ k = 15 → ¬ D a k) (hE : ∀ a k, a = 22 ∨ a = 23 ∨ a = 24 ∨ a = 0 ∧ (k = 27 ∨ k = 8) → ¬ E a k) : cWar hx' hm' := by
  have eI : ∀ a k, 500 ≤ a ∧ a < 508 ∨ a = 29 ∨ a = 0 ∧ k = 15 → kI hx' a k = kI hx a k := fun a k h => (ag.1 a k (hD a k h)).1
  have eL : ∀ a k, 500 ≤ a ∧ a < 508 ∨ a = 29 ∨ a = 0 ∧ k = 15 → kL hx' a k = kL hx a k := fun a k h => (ag.1 a k (hD a k h)).2.1
  have eR : ∀ a k, 500 ≤ a ∧ a < 508 ∨ a = 29 ∨ a = 0 ∧ k = 15 → kR hx' a k = kR hx a k := fun a k h => (ag.1 a k (hD a k h)).2.2
  have mI : ∀ a k, a = 22 ∨ a = 23 ∨ a = 24 ∨ a = 0 ∧ (k = 27 ∨ k = 8) → kI hm' a k = kI hm a k := fun a k h => (am.1 a k (hE a k h)).1
  have mL : ∀ a k, a = 22 ∨ a = 23 ∨ a = 24 ∨ a = 0 ∧ (k = 27 ∨ k = 8) → kL hm' a k = kL hm a k := fun a k h => (am.1 a k (hE a k h)).2.1
  have mN : ∀ a k, a = 22 ∨ a = 23 ∨ a = 24 ∨ a = 0 ∧ (k = 27 ∨ k = 8) → mn hm' a k = mn hm a k := fun a k h => mn_cg1 (mI a k h)
  obtain ⟨⟨W, hW, c1, c2⟩, c3⟩ := c
  have hWm : mn hm 0 27 = W := by unfold mn; rw [c2, nI_clamp (by omega)]
  refine ⟨⟨W, hW, by rw [eI _ _ (by omega)]; exact c1, by rw [mI _ _ (by omega)]; exact c2⟩, fun w hw => ?_⟩
  rw [mN _ _ (by omega)] at hw
  have hc := c3 w hw
  have d1 := hc.1
  unfold cWa1 at hc ⊢
  simp (disch := omega) only [eI, eR, mI, mN]
  rw [(ag.k (500 + w) (by omega)).1]
  exact hc
theorem cAns.fr {D E : Nat → Nat → Prop} {hx hm hx' hm' : KH} (c : cAns hx hm) (ag : kAg D hx hx') (am : kAg E hm hm') (hD : ∀ a k, 600 ≤ a ∧ a < 640 ∨ a = 30 ∨ a = 0 ∧ k = 16 → ¬ D a k) (hE : ∀ a k, a = 25 ∨ a = 26 ∨ a = 27 ∨ a = 0 ∧ (k = 31 ∨ k = 27) → ¬ E a k) : cAns hx' hm' := by
  have eI : ∀ a k, 600 ≤ a ∧ a < 640 ∨ a = 30 ∨ a = 0 ∧ k = 16 → kI hx' a k = kI hx a k := fun a k h => (ag.1 a k (hD a k h)).1
  have eL : ∀ a k, 600 ≤ a ∧ a < 640 ∨ a = 30 ∨ a = 0 ∧ k = 16 → kL hx' a k = kL hx a k := fun a k h => (ag.1 a k (hD a k h)).2.1
  have eR : ∀ a k, 600 ≤ a ∧ a < 640 ∨ a = 30 ∨ a = 0 ∧ k = 16 → kR hx' a k = kR hx a k := fun a k h => (ag.1 a k (hD a k h)).2.2
  have mI : ∀ a k, a = 25 ∨ a = 26 ∨ a = 27 ∨ a = 0 ∧ (k = 31 ∨ k = 27) → kI hm' a k = kI hm a k := fun a k h => (am.1 a k (hE a k h)).1
  have mL : ∀ a k, a = 25 ∨ a = 26 ∨ a = 27 ∨ a = 0 ∧ (k = 31 ∨ k = 27) → kL hm' a k = kL hm a k := fun a k h => (am.1 a k (hE a k h)).2.1
  have mN : ∀ a k, a = 25 ∨ a = 26 ∨ a = 27 ∨ a = 0 ∧ (k = 31 ∨ k = 27) → mn hm' a k = mn hm a k := fun a k h => mn_cg1 (mI a k h)
  obtain ⟨⟨N, hN, c1, c2⟩, c3⟩ := c
  have hNm : mn hm 0 31 = N := by unfold mn; rw [c2, nI_clamp (by omega)]
  refine ⟨⟨N, hN, by rw [eI _ _ (by omega)]; exact c1, by rw [mI _ _ (by omega)]; exact c2⟩, fun n hn => ?_⟩
  rw [mN _ _ (by omega)] at hn
  have hc := c3 n hn
  have d1 := hc.1
  unfold cAn1 at hc ⊢
  simp (disch := omega) only [eI, eR, mI, mN]
  rw [(ag.k (600 + n) (by omega)).1]
  exact hc
end
section
theorem xDl_pos : ∀ a, a < 36 → xDl.getD a 0 ≠ 0 := by decide
theorem mDl_pos : ∀ a, a < 28 → mDl.getD a 0 ≠ 0 := by decide
theorem kSx.fr {D : Nat → Nat → Prop} {hx hx' : KH} (S : kSx hx) (ag : kAg D hx hx') (hD : ∀ a k, a = 0 ∧ k < 12 ∨ a = 1 ∧ k < 3 ∨ a = 2 ∨ a = 11 ∨ a = 22 ∧ k = 0 ∨ a = 24 ∧ k = 0 ∨ a = 33 ∧ k < 2 → ¬ D a k) : kSx hx' := by
  obtain ⟨s1, s2, s3, s4, s5, s6, s7, s8⟩ := S
  have eR : ∀ a k, a = 0 ∧ k < 12 ∨ a = 1 ∧ k < 3 ∨ a = 2 ∨ a = 11 ∨ a = 22 ∧ k = 0 ∨ a = 24 ∧ k = 0 ∨ a = 33 ∧ k < 2 → kR hx' a k = kR hx a k := fun a k h => (ag.1 a k (hD a k h)).2.2
  refine ⟨fun a ha => ?_, fun k hk => ?_, fun k hk => ?_, fun k hk => ?_, fun k hk => ?_, fun k hk => ?_, fun k hk => ?_, fun k hk => ?_⟩
  · obtain ⟨e1, e2⟩ := ag.k a (by rw [(s1 a ha).1]; exact xDl_pos a ha)
    rw [e1, e2]
    exact s1 a ha
  · rw [eR _ _ (by omega)]; exact s2 k hk
  · rw [eR _ _ (by omega)]; exact s3 k hk
  · rw [eR _ _ (by omega)]; exact s4 k hk
  · rw [eR _ _ (by omega)]; exact s5 k hk
  · rw [eR _ _ (by omega)]; exact s6 k hk
  · rw [eR _ _ (by omega)]; exact s7 k hk
  · rw [eR _ _ (by omega)]; exact s8 k hk
def kMf (k : Nat) : Prop := k = 2 ∨ k = 3 ∨ k = 4 ∨ k = 6 ∨ k = 7 ∨ 9 ≤ k ∧ k ≤ 11 ∨ 13 ≤ k ∧ k ≤ 15 ∨ 17 ≤ k ∧ k ≤ 26 ∨ 28 ≤ k ∧ k ≤ 30 ∨ 32 ≤ k ∧ k ≤ 34
theorem mRl_f : ∀ k, k < 36 → mRl.getD k none ≠ none → (k = 2 ∨ k = 3 ∨ k = 4 ∨ k = 6 ∨ k = 7 ∨ 9 ≤ k ∧ k ≤ 11 ∨ 13 ≤ k ∧ k ≤ 15 ∨ 17 ≤ k ∧ k ≤ 26 ∨ 28 ≤ k ∧ k ≤ 30 ∨ 32 ≤ k ∧ k ≤ 34) := by decide
theorem kSm.fr {E : Nat → Nat → Prop} {hm hm' : KH} (S : kSm hm) (am : kAg E hm hm') (hE : ∀ a k, a = 0 ∧ (k = 2 ∨ k = 3 ∨ k = 4 ∨ k = 6 ∨ k = 7 ∨ 9 ≤ k ∧ k ≤ 11 ∨ 13 ≤ k ∧ k ≤ 15 ∨ 17 ≤ k ∧ k ≤ 26 ∨ 28 ≤ k ∧ k ≤ 30 ∨ 32 ≤ k ∧ k ≤ 34) → ¬ E a k) : kSm hm' := by
  obtain ⟨s1, s2⟩ := S
  refine ⟨fun a ha => ?_, fun k hk hn => ?_⟩
  · obtain ⟨e1, e2⟩ := am.k a (by rw [(s1 a ha).1]; exact mDl_pos a ha)
    rw [e1, e2]
    exact s1 a ha
  · rw [(am.1 0 k (hE 0 k ⟨rfl, mRl_f k hk hn⟩)).2.2]
    exact s2 k hk hn
theorem cFre.fr {E : Nat → Nat → Prop} {hx hm hx' hm' : KH} {j j' : Nat} (c : cFre j hx hm) (hd : ∀ a, kd hx a = 0 → kd hx' a = 0) (am : kAg E hm hm') (hE : ∀ a k, a = 0 ∧ (k = 8 ∨ k = 16 ∨ k = 27 ∨ k = 31) → ¬ E a k) (hj : j ≤ j') : cFre j' hx' hm' := by
  intro a ha
  have mN : ∀ a k, a = 0 ∧ (k = 8 ∨ k = 16 ∨ k = 27 ∨ k = 31) → mn hm' a k = mn hm a k := fun a k h => mn_cg1 (am.1 a k (hE a k h)).1
  rw [mN 0 8 (by omega), mN 0 16 (by omega), mN 0 27 (by omega), mN 0 31 (by omega)] at ha
  exact hd a (c a (by omega))
theorem xChn_mono {h : KH} : ∀ (n : Nat) (o : Option Nat), xChn h n o → xChn h (n + 1) o ∧ ∀ m, xDrv h m (n + 1) o = xDrv h m n o := by
  intro n
  induction n with
  | zero =>
    intro o c
    obtain rfl : o = none := c
    exact ⟨trivial, fun m => rfl⟩
  | succ n ih =>
    intro o c
    cases o with
    | none => exact ⟨trivial, fun m => rfl⟩
    | some a =>
      obtain ⟨c1, c2, c3, c4, c5⟩ := c
      obtain ⟨i1, i2⟩ := ih _ c5
      refine ⟨⟨c1, c2, c3, c4, i1⟩, fun m => ?_⟩
      show (if _ then _ else _) = (if _ then _ else _)
      rw [i2]
theorem cHol.up {j : Nat} {hx hm : KH} (c : cHol j hx hm) : cHol (j + 1) hx hm := by
  obtain ⟨n, c1, c2, c3, c4⟩ := c
  refine ⟨n, by omega, c2, c3, fun p hp => ?_⟩
  obtain ⟨c5, c6, c7⟩ := c4 p hp
  obtain ⟨i1, i2⟩ := xChn_mono _ _ c6
  exact ⟨c5, i1, fun m => by rw [i2]; exact c7 m⟩
theorem RR.P {j : Nat} {hx hm : KH} (R : RR j hx hm) : mn hm 0 8 ≤ 10 := by
  obtain ⟨-, -, -, -, -, -, -, -, ⟨⟨P, hP, -, e⟩, -⟩, -⟩ := R
  unfold mn
  rw [e, nI_clamp (by omega)]
  exact hP
theorem RR.up {j : Nat} {hx hm : KH} (R : RR j hx hm) : RR (j + 1) hx hm := by
  obtain ⟨s, c1, c2, c3, c4, c5, c6, c7, c8, c9, c10, c11, c12, c13, c14, c15, c16⟩ := R
  exact ⟨s, c1, c2, c3, c4, c5, c6, c7, c8, c9, c10.up, c11, c12, c13, c14, c15, fun a ha => c16 a (by omega)⟩
/-- nothing that counts is written -/
theorem RR.fr {D E : Nat → Nat → Prop} {j : Nat} {hx hm hx' hm' : KH} (R : RR j hx hm) (ag : kAg D hx hx') (am : kAg E hm hm') (hd : ∀ a, kd hx a = 0 → kd hx' a = 0)
    (hD : ∀ a k, D a k → a = 36 ∨ a = 20 ∨ a = 34 ∨ a = 33 ∧ k = 2) (hE : ∀ a k, E a k → a = 18 ∨ a = 19 ∨ a = 0 ∧ k = 35) : RR j hx' hm' := by
  have hP := R.P
  obtain ⟨⟨sx, sm⟩, c1, c2, c3, c4, c5, c6, c7, c8, c9, c10, c11, c12, c13, c14, c15, c16⟩ := R
  refine ⟨⟨sx.fr ag ?_, sm.fr am ?_⟩, c1.fr ag am ?_ ?_, c2.fr ag am ?_ ?_, c3.fr ag am ?_ ?_, c4.fr ag am ?_ ?_, c5.fr ag am ?_ ?_, c6.fr ag am ?_ ?_, c7.fr ag am ?_ ?_, c8.fr ag am ?_ ?_, c9.fr ag am ?_ ?_, c10.fr hP ag am ?_ ?_, c11.fr ag am ?_ ?_, c12.fr hP ag am ?_ ?_, c13.fr ag am ?_ ?_, c14.fr ag am ?_ ?_, c15.fr ag am ?_ ?_, c16.fr hd am ?_ (Nat.le_refl _)⟩
  all_goals first
    | (intro a k h1 h2; have := hD a k h2; omega)
    | (intro a k h1 h2; have := hE a k h2; omega)
theorem RR.out {j : Nat} {hx hm : KH} (R : RR j hx hm) (v : Int64) : RR j (sL hx 36 0 v) hm := R.fr (kAg.L hx 36 0 v) (kAg.rf hm) (fun _ h => h) (fun a k h => by omega) (fun a k h => h.elim)
theorem RR.thr {j : Nat} {hx hm : KH} (R : RR j hx hm) (v : Int32) : RR j hx (sI hm 0 35 v) := R.fr (kAg.rf hx) (kAg.I hm 0 35 v) (fun _ h => h) (fun a k h => h.elim) (fun a k h => by omega)
/-- one call of both, at the next address N -/
def OPK {τ : Type} (N : Nat) (fX fM : Int32 → Int32 → Int32 → KH → KO τ) (mp : Nat → Option Int32) (j j' : Nat) (hx hm : KH) (a b c : Int32) : Prop :=
    (∃ (v : τ) (hx1 hm1 : KH), fX a b c (sX hx N) = kret v hx1 ∧ fM a b c hm = kret v hm1 ∧ kI hm1 0 35 = 0 ∧ RR j' hx1 hm1) ∨
    (∃ (e : Nat) (kx : Int32) (bv : τ) (hx1 hm1 : KH), fX a b c (sX hx N) = kthrow e hx1 ∧ mp e = some kx ∧ kx ≠ 0 ∧ fM a b c hm = kret bv hm1 ∧ kI hm1 0 35 = kx ∧ RR j' hx1 hm1)
def OP1 {τ : Type} (fX fM : Int32 → Int32 → Int32 → KH → KO τ) (mp : Nat → Option Int32) (j : Nat) (hx hm : KH) (a b c : Int32) : Prop := OPK 0 fX fM mp j (j + 1) hx hm a b c
def OPI {τ : Type} (fX fM : Int32 → Int32 → Int32 → KH → KO τ) (mp : Nat → Option Int32) : Prop :=
  ∀ (j : Nat) (hx hm : KH) (a b c : Int32), j < 512 → RR j hx hm → OP1 fX fM mp j hx hm a b c
def OPN {τ : Type} (N : Nat → KH → Nat) (fX fM : Int32 → Int32 → Int32 → KH → KO τ) (mp : Nat → Option Int32) : Prop :=
  ∀ (j : Nat) (hx hm : KH) (a b c : Int32), j < 512 → RR j hx hm → OPK (N j hm) fX fM mp j (j + 1) hx hm a b c
def OPR {τ : Type} (fX fM : Int32 → Int32 → Int32 → KH → KO τ) (mp : Nat → Option Int32) : Prop :=
  ∀ (j : Nat) (hx hm : KH) (a b c : Int32), j < 512 → RR j hx hm → OPK 0 fX fM mp j j hx hm a b c
theorem RR.X {j : Nat} {hx hm : KH} (R : RR j hx hm) (n : Nat) : RR j (sX hx n) hm := R.fr (kAg.X hx n) (kAg.rf hm) (fun _ h => h) (fun a k h => h.elim) (fun a k h => h.elim)
theorem op_noK {τ : Type} {N : Nat} {fX fM : Int32 → Int32 → Int32 → KH → KO τ} {mp : Nat → Option Int32} {j j' : Nat} {hx hm : KH} {a b c : Int32} (R : RR j hx hm) (up : ∀ hx hm, RR j hx hm → RR j' hx hm) (e : Nat) (kx : Int32) (bv : τ) (h2 : mp e = some kx) (h3 : kx ≠ 0) (h1 : fX a b c (sX hx N) = kthrow e (sX hx N)) (h4 : fM a b c hm = kret bv (sI hm 0 35 kx)) : OPK N fX fM mp j j' hx hm a b c :=
  Or.inr ⟨e, kx, bv, sX hx N, sI hm 0 35 kx, h1, h2, h3, h4, by rw [kI_sI, if_pos ⟨rfl, rfl⟩], up _ _ ((R.X N).thr kx)⟩
theorem op_no {τ : Type} {fX fM : Int32 → Int32 → Int32 → KH → KO τ} {mp : Nat → Option Int32} {j : Nat} {hx hm : KH} {a b c : Int32} (R : RR j hx hm) (e : Nat) (kx : Int32) (bv : τ) (h2 : mp e = some kx) (h3 : kx ≠ 0) (h1 : fX a b c (sX hx 0) = kthrow e (sX hx 0)) (h4 : fM a b c hm = kret bv (sI hm 0 35 kx)) : OP1 fX fM mp j hx hm a b c := op_noK R (fun _ _ r => r.up) e kx bv h2 h3 h1 h4
theorem op_noN {τ : Type} {N : Nat} {fX fM : Int32 → Int32 → Int32 → KH → KO τ} {mp : Nat → Option Int32} {j : Nat} {hx hm : KH} {a b c : Int32} (R : RR j hx hm) (e : Nat) (kx : Int32) (bv : τ) (h2 : mp e = some kx) (h3 : kx ≠ 0) (h1 : fX a b c (sX hx N) = kthrow e (sX hx N)) (h4 : fM a b c hm = kret bv (sI hm 0 35 kx)) : OPK N fX fM mp j (j + 1) hx hm a b c := op_noK R (fun _ _ r => r.up) e kx bv h2 h3 h1 h4
theorem op_noR {τ : Type} {N : Nat} {fX fM : Int32 → Int32 → Int32 → KH → KO τ} {mp : Nat → Option Int32} {j : Nat} {hx hm : KH} {a b c : Int32} (R : RR j hx hm) (e : Nat) (kx : Int32) (bv : τ) (h2 : mp e = some kx) (h3 : kx ≠ 0) (h1 : fX a b c (sX hx N) = kthrow e (sX hx N)) (h4 : fM a b c hm = kret bv (sI hm 0 35 kx)) : OPK N fX fM mp j j hx hm a b c := op_noK R (fun _ _ r => r) e kx bv h2 h3 h1 h4
theorem op_rd {τ : Type} {fX fM : Int32 → Int32 → Int32 → KH → KO τ} {mp : Nat → Option Int32} {j : Nat} {hx hm : KH} {a b c : Int32} (R : RR j hx hm) (v : τ) (h1 : fX a b c (sX hx 0) = kret v (sX hx 0)) (h4 : fM a b c hm = kret v (sI hm 0 35 0)) : OP1 fX fM mp j hx hm a b c :=
  Or.inl ⟨v, sX hx 0, sI hm 0 35 0, h1, h4, by rw [kI_sI, if_pos ⟨rfl, rfl⟩], ((R.X 0).thr 0).up⟩
theorem op_ok {τ : Type} {fX fM : Int32 → Int32 → Int32 → KH → KO τ} {mp : Nat → Option Int32} {j j' : Nat} {hx hm hx1 hm1 : KH} {a b c : Int32} (n : Nat) (v : τ) (h1 : fX a b c (sX hx n) = kret v hx1) (h4 : fM a b c hm = kret v hm1) (h5 : kI hm1 0 35 = 0) (R1 : RR j' hx1 hm1) : OPK n fX fM mp j j' hx hm a b c :=
  Or.inl ⟨v, hx1, hm1, h1, h4, h5, R1⟩
end
section
/-! the small calls -/
theorem k10 : ((1 : Int32) = 0) = False := by decide
theorem kretZ_0 (h : KH) : kretZ 0 h = kret 0 h := rfl
theorem kretZ_1 (h : KH) : kretZ 1 h = kret 1 h := rfl
theorem wi_t {a lo hi : Int32} {h : KH} (h1 : ¬ a < lo) (h2 : ¬ hi < a) : f_X9_isWithin a lo hi h = kret 1 h := by
  unfold f_X9_isWithin kif
  rw [if_neg h1, if_neg h2]
  rfl
theorem wi_f {a lo hi : Int32} {h : KH} (h1 : a < lo ∨ hi < a) : f_X9_isWithin a lo hi h = kret 0 h := by
  unfold f_X9_isWithin kif
  by_cases h2 : a < lo
  · rw [if_pos h2]
    rfl
  · rw [if_neg h2, if_pos (h1.resolve_left h2)]
    rfl
theorem in_t {a lo hi : Int32} {h : KH} (h1 : ¬ a < lo) (h2 : ¬ hi < a) : f_X10_isIn a lo hi h = kret 1 h := by
  unfold f_X10_isIn kif
  rw [if_neg h1, if_neg h2]
  rfl
theorem in_f {a lo hi : Int32} {h : KH} (h1 : a < lo ∨ hi < a) : f_X10_isIn a lo hi h = kret 0 h := by
  unfold f_X10_isIn kif
  by_cases h2 : a < lo
  · rw [if_pos h2]
    rfl
  · rw [if_neg h2, if_pos (h1.resolve_left h2)]
    rfl
theorem ka_of {a : Int32} {lo hi : Nat} (h1 : ¬ a < nI lo) (h2 : ¬ nI hi < a) (hh : hi < 2147483648) (hl : lo < 2147483648) : ∃ n, lo ≤ n ∧ n ≤ hi ∧ a = nI n := by
  rw [Int32.lt_iff_toInt_lt, nI_toInt hl] at h1
  rw [Int32.lt_iff_toInt_lt, nI_toInt hh] at h2
  refine ⟨a.toInt.toNat, by omega, by omega, ?_⟩
  rw [← Int32.toInt_inj, nI_toInt (by omega)]
  omega
/-- in the range, or not -/
theorem ka_rng (a lo hi : Int32) (l u : Nat) (el : lo = nI l) (eu : hi = nI u) (hu : u < 2147483648) (hl : l < 2147483648) : (∃ n, l ≤ n ∧ n ≤ u ∧ a = nI n ∧ ¬ a < lo ∧ ¬ hi < a) ∨ (a < lo ∨ hi < a) := by
  by_cases h1 : a < lo
  · exact Or.inr (Or.inl h1)
  · by_cases h2 : hi < a
    · exact Or.inr (Or.inr h2)
    · rw [el] at h1
      rw [eu] at h2
      obtain ⟨n, q1, q2, q3⟩ := ka_of h1 h2 hu hl
      exact Or.inl ⟨n, q1, q2, q3, by rw [el]; exact h1, by rw [eu]; exact h2⟩
theorem can_0 {h : KH} (S : kSm h) : f_X10_can 0 0 h = kret 1 (sI h 0 35 0) := by
  unfold f_X10_can pI
  rw [if_pos S.d0]
  rfl
theorem can_n {h : KH} (S : kSm h) {f : Int32} (hf : f ≠ 0) : f_X10_can 0 f h = kret 0 (sI h 0 35 f) := by
  unfold f_X10_can pI kif
  rw [if_pos S.d0]
  show (if f = 0 then _ else _) = _
  rw [if_neg hf]
  rfl
theorem kSm.thr {h : KH} (S : kSm h) (v : Int32) : kSm (sI h 0 35 v) := S.fr (kAg.I h 0 35 v) (fun a k q z => by omega)
theorem kSx.X {h : KH} (S : kSx h) (n : Nat) : kSx (sX h n) := S
def mp2 (a b : Nat) : Nat → Option Int32 := fun e => if e = a then some 1 else if e = b then some 2 else none
def mp1 (a : Nat) : Nat → Option Int32 := fun e => if e = a then some 1 else none
def mp3 (a b c : Nat) : Nat → Option Int32 := fun e => if e = a then some 1 else if e = b then some 2 else if e = c then some 3 else none
theorem hand1 {a : Nat} : ∀ e kx (h1 : KH), mp1 a e = some kx → (if e = a then kret 1 h1 else none : KO Int32) = kret kx h1 := by
  intro e kx h1 h
  unfold mp1 at h
  split at h
  · rename_i q; cases h; rw [if_pos q]
  · cases h
theorem hand2 {a b : Nat} : ∀ e kx (h1 : KH), mp2 a b e = some kx → (if e = a then kret 1 h1 else if e = b then kret 2 h1 else none : KO Int32) = kret kx h1 := by
  intro e kx h1 h
  unfold mp2 at h
  split at h
  · rename_i q; cases h; rw [if_pos q]
  · rename_i q
    rw [if_neg q]
    split at h
    · rename_i q; cases h; rw [if_pos q]
    · cases h
theorem hand3 {a b c : Nat} : ∀ e kx (h1 : KH), mp3 a b c e = some kx → (if e = a then kret 1 h1 else if e = b then kret 2 h1 else if e = c then kret 3 h1 else none : KO Int32) = kret kx h1 := by
  intro e kx h1 h
  unfold mp3 at h
  split at h
  · rename_i q; cases h; rw [if_pos q]
  · rename_i q
    rw [if_neg q]
    split at h
    · rename_i q; cases h; rw [if_pos q]
    · rename_i q
      rw [if_neg q]
      split at h
      · rename_i q; cases h; rw [if_pos q]
      · cases h
theorem cHol.min {j : Nat} {hx hm hm' : KH} {D : Nat → Nat → Prop} {hx' : KH} (c : cHol j hx hm) (hP : mn hm 0 8 ≤ 10) (ag : kAg D hx hx') (hD : ∀ a k, a % 8 = 7 ∧ 100 ≤ a ∧ a < 180 ∨ 1000 ≤ a ∧ a < 2000 ∨ a % 8 = 4 ∧ 100 ≤ a ∧ a < 180 ∧ k = 4 → ¬ D a k) (e8 : kI hm' 0 8 = kI hm 0 8) (e12 : kI hm' 0 12 = kI hm 0 12) (e : ∀ a k, a = 9 ∨ a = 10 ∨ a = 11 → kI hm' a k = kI hm a k) (h0 : mn hm 0 0 ≤ mn hm' 0 0) : cHol j hx' hm' := by
  have hmid : cHol j hx hm' := by
    obtain ⟨n, c1, c2, c3, c4⟩ := c
    refine ⟨n, c1, by rw [e12]; exact c2, fun k hk => ?_, fun p hp => ?_⟩
    · obtain ⟨d1, d2, s, hs, d3⟩ := c3 k hk
      rw [mn_cg1 e8, e 9 k (by omega), e 10 k (by omega), e 11 k (by omega)]
      exact ⟨d1, d2, s, Nat.le_trans hs h0, d3⟩
    · rw [mn_cg1 e8] at hp
      obtain ⟨d1, d2, d3⟩ := c4 p hp
      exact ⟨d1, d2, fun m => by rw [d3, sHold_cg (fun k => e 9 k (by omega)) (fun k => e 10 k (by omega)) (fun k => e 11 k (by omega))]⟩
  exact hmid.fr (by rw [mn_cg1 e8]; exact hP) ag (kAg.rf hm') hD (fun a k _ h => h)
/-- pass -/
theorem o_pass : OPI (fun a b c h => f_X9_pass 0 a h) (fun a b c h => f_X10_pass 0 a h) (mp2 1 2) := by
  intro j hx hm a b c hj R
  have S := R.1.1
  have T := R.1.2
  obtain ⟨n, hn, e1, e2⟩ := R.2.1
  rcases ka_rng a 1 2000 1 2000 rfl rfl (by decide) (by decide) with ⟨k, k1, k2, rfl, q1, q2⟩ | hq
  · by_cases hl : n + k ≤ 50000
    · refine op_ok (hx1 := sI (sX hx 0) 0 12 (nI (n + k))) (hm1 := sI (sI hm 0 35 0) 0 0 (nI (n + k))) 0 (nI (n + k)) ?_ ?_ (by rw [kI_sI, if_neg (by omega), kI_sI, if_pos ⟨rfl, rfl⟩]) ?_
      · show f_X9_pass 0 (nI k) (sX hx 0) = _
        unfold f_X9_pass
        rw [wi_t q1 q2]
        simp (disch := omega) only [kb_ret, kb_thr, ki_ret, kif, kcallV, gI, gN, gR, gAI, gAL, gAN, pI, pR, pAI, pAL, pAZ, pAN, kmay, kretZ_0, kretZ_1, k10, if_true, if_false, eq_self, true_and, and_true, false_or, not_false_eq_true, not_true_eq_false, kd_sI, kn_sI, kR_sI, kL_sI, kd_sA, kn_sA, kR_sA, kL_sA, kd_sL, kn_sL, kR_sL, kI_sL, kd_sR, kn_sR, kI_sR, kL_sR, kd_sX, kn_sX, kI_sX, kL_sX, kR_sX, kd_sRA, kn_sRA, kI_sRA, kL_sRA, if_pos, if_neg, S.d0, e1, ka_add, show (50000 : Int32) = nI 50000 from rfl, ka_le, ka_lt, ka_eq, ka_neg, ka_pred, ka_dec, nI_1, nI_clamp, false_or, kI_sI, and_self]
      · show f_X10_pass 0 (nI k) hm = _
        unfold f_X10_pass
        rw [in_t q1 q2]
        simp (disch := omega) only [kb_ret, kb_thr, ki_ret, kif, kcallV, gI, gN, gR, gAI, gAL, gAN, pI, pR, pAI, pAL, pAZ, pAN, kmay, kretZ_0, kretZ_1, k10, if_true, if_false, eq_self, true_and, and_true, false_or, not_false_eq_true, not_true_eq_false, kd_sI, kn_sI, kR_sI, kL_sI, kd_sA, kn_sA, kR_sA, kL_sA, kd_sL, kn_sL, kR_sL, kI_sL, kd_sR, kn_sR, kI_sR, kL_sR, kd_sX, kn_sX, kI_sX, kL_sX, kR_sX, kd_sRA, kn_sRA, kI_sRA, kL_sRA, if_pos, if_neg, X10_pass_b32, T.d0, e2, ka_add, show (50000 : Int32) = nI 50000 from rfl, ka_le, ka_lt, ka_eq, ka_neg, ka_pred, ka_dec, nI_1, nI_clamp, false_or, can_0 T, kI_sI, and_self]
      · have R1 := ((R.X 0).thr 0).up
        have ag := kAg.I (sX hx 0) 0 12 (nI (n + k))
        have am := kAg.I (sI hm 0 35 0) 0 0 (nI (n + k))
        have hP := R1.P
        obtain ⟨⟨sx, sm⟩, c1, c2, c3, c4, c5, c6, c7, c8, c9, c10, c11, c12, c13, c14, c15, c16⟩ := R1
        refine ⟨⟨sx.fr ag ?_, sm.fr am ?_⟩, ?_, c2.fr ag am ?_ ?_, c3.fr ag am ?_ ?_, c4.fr ag am ?_ ?_, c5.fr ag am ?_ ?_, c6.fr ag am ?_ ?_, c7.fr ag am ?_ ?_, c8.fr ag am ?_ ?_, c9.fr ag am ?_ ?_, ?_, c11.fr ag am ?_ ?_, c12.fr hP ag am ?_ ?_, c13.fr ag am ?_ ?_, c14.fr ag am ?_ ?_, c15.fr ag am ?_ ?_, c16.fr (fun _ h => h) am ?_ (Nat.le_refl _)⟩
        all_goals first
          | (intro a k h1 h2; omega)
          | skip
        · exact ⟨n + k, hl, by rw [kI_sI, if_pos ⟨rfl, rfl⟩], by rw [kI_sI, if_pos ⟨rfl, rfl⟩]⟩
        · refine c10.min hP ag (fun a k h1 h2 => by omega) (am.1 0 8 (by omega)).1 (am.1 0 12 (by omega)).1 (fun a k ha => (am.1 a k (by omega)).1) ?_
          have a1 : kI (sI hm 0 35 0) 0 0 = nI n := e2
          have a2 : kI (sI (sI hm 0 35 0) 0 0 (nI (n + k))) 0 0 = nI (n + k) := rfl
          unfold mn
          rw [a1, a2, nI_clamp (by omega), nI_clamp (by omega)]
          omega
    · refine op_no R 2 2 0 rfl (by decide) ?_ ?_
      · show f_X9_pass 0 (nI k) (sX hx 0) = _
        unfold f_X9_pass
        rw [wi_t q1 q2]
        simp (disch := omega) only [kb_ret, kb_thr, ki_ret, kif, kcallV, gI, gN, gR, gAI, gAL, gAN, pI, pR, pAI, pAL, pAZ, pAN, kmay, kretZ_0, kretZ_1, k10, if_true, if_false, eq_self, true_and, and_true, false_or, not_false_eq_true, not_true_eq_false, kd_sI, kn_sI, kR_sI, kL_sI, kd_sA, kn_sA, kR_sA, kL_sA, kd_sL, kn_sL, kR_sL, kI_sL, kd_sR, kn_sR, kI_sR, kL_sR, kd_sX, kn_sX, kI_sX, kL_sX, kR_sX, kd_sRA, kn_sRA, kI_sRA, kL_sRA, if_pos, if_neg, S.d0, e1, ka_add, show (50000 : Int32) = nI 50000 from rfl, ka_le, ka_lt, ka_eq, ka_neg, ka_pred, ka_dec, nI_1, nI_clamp, false_or, kI_sI, and_self]
      · show f_X10_pass 0 (nI k) hm = _
        unfold f_X10_pass
        rw [in_t q1 q2]
        simp (disch := omega) only [kb_ret, kb_thr, ki_ret, kif, kcallV, gI, gN, gR, gAI, gAL, gAN, pI, pR, pAI, pAL, pAZ, pAN, kmay, kretZ_0, kretZ_1, k10, if_true, if_false, eq_self, true_and, and_true, false_or, not_false_eq_true, not_true_eq_false, kd_sI, kn_sI, kR_sI, kL_sI, kd_sA, kn_sA, kR_sA, kL_sA, kd_sL, kn_sL, kR_sL, kI_sL, kd_sR, kn_sR, kI_sR, kL_sR, kd_sX, kn_sX, kI_sX, kL_sX, kR_sX, kd_sRA, kn_sRA, kI_sRA, kL_sRA, if_pos, if_neg, X10_pass_b32, T.d0, e2, ka_add, show (50000 : Int32) = nI 50000 from rfl, ka_le, ka_lt, ka_eq, ka_neg, ka_pred, ka_dec, nI_1, nI_clamp, false_or, can_n T (show (2 : Int32) ≠ 0 by decide), kI_sI, and_self]
  · refine op_no R 1 1 0 rfl (by decide) ?_ ?_
    · show f_X9_pass 0 a (sX hx 0) = _
      unfold f_X9_pass
      rw [wi_f hq]
      simp only [kb_ret, kb_thr, ki_ret, kif, kcallV, gI, gN, gR, gAI, gAL, gAN, pI, pR, pAI, pAL, pAZ, pAN, kmay, kretZ_0, kretZ_1, k10, if_true, if_false, eq_self, true_and, and_true, false_or, not_false_eq_true, not_true_eq_false, kd_sI, kn_sI, kR_sI, kL_sI, kd_sA, kn_sA, kR_sA, kL_sA, kd_sL, kn_sL, kR_sL, kI_sL, kd_sR, kn_sR, kI_sR, kL_sR, kd_sX, kn_sX, kI_sX, kL_sX, kR_sX, kd_sRA, kn_sRA, kI_sRA, kL_sRA, if_pos, if_neg]
    · show f_X10_pass 0 a hm = _
      unfold f_X10_pass
      rw [in_f hq]
      simp (disch := omega) only [kb_ret, kb_thr, ki_ret, kif, kcallV, gI, gN, gR, gAI, gAL, gAN, pI, pR, pAI, pAL, pAZ, pAN, kmay, kretZ_0, kretZ_1, k10, if_true, if_false, eq_self, true_and, and_true, false_or, not_false_eq_true, not_true_eq_false, kd_sI, kn_sI, kR_sI, kL_sI, kd_sA, kn_sA, kR_sA, kL_sA, kd_sL, kn_sL, kR_sL, kI_sL, kd_sR, kn_sR, kI_sR, kL_sR, kd_sX, kn_sX, kI_sX, kL_sX, kR_sX, kd_sRA, kn_sRA, kI_sRA, kL_sRA, if_pos, if_neg, X10_pass_b32, T.d0, can_n T (show (1 : Int32) ≠ 0 by decide)]
/-- setRate -/
theorem o_setRate : OPI (fun a b c h => f_X9_setRate 0 a b h) (fun a b c h => f_X10_setRate 0 a b h) (mp1 1) := by
  intro j hx hm a b c hj R
  have S := R.1.1
  have T := R.1.2
  have hrat := R.2.2.2.2.2.1
  rcases ka_rng a 0 3 0 3 rfl rfl (by decide) (by decide) with ⟨k, k1, k2, rfl, q1, q2⟩ | hq
  · obtain ⟨u, hu, e1, e2⟩ := hrat k (by omega)
    rcases ka_rng b 0 50 0 50 rfl rfl (by decide) (by decide) with ⟨v, v1, v2, rfl, q3, q4⟩ | hq3
    · refine op_ok (hx1 := sI (sX hx 0) 21 k (nI v)) (hm1 := sI (sI hm 0 35 0) 3 k (nI v)) 0 (nI u) ?_ ?_ (by rw [kI_sI, if_neg (by omega), kI_sI, if_pos ⟨rfl, rfl⟩]) ?_
      · show f_X9_setRate 0 (nI k) (nI v) (sX hx 0) = _
        unfold f_X9_setRate f_X9_requireClass
        rw [wi_t q1 q2]
        simp (disch := omega) only [kb_ret, kb_thr, ki_ret, kif, kcallV, gI, gN, gR, gAI, gAL, gAN, pI, pR, pAI, pAL, pAZ, pAN, kmay, kretZ_0, kretZ_1, k10, if_true, if_false, eq_self, true_and, and_true, false_or, not_false_eq_true, not_true_eq_false, kd_sI, kn_sI, kR_sI, kL_sI, kd_sA, kn_sA, kR_sA, kL_sA, kd_sL, kn_sL, kR_sL, kI_sL, kd_sR, kn_sR, kI_sR, kL_sR, kd_sX, kn_sX, kI_sX, kL_sX, kR_sX, kd_sRA, kn_sRA, kI_sRA, kL_sRA, if_pos, if_neg, wi_t q3 q4, S.d0, S.r0_1, S.d21, S.n21, e1, ka_le, ka_lt, ka_eq, ka_neg, ka_pred, ka_dec, nI_1, nI_clamp, false_or, kI_sI]
      · show f_X10_setRate 0 (nI k) (nI v) hm = _
        unfold f_X10_setRate
        rw [in_t q1 q2]
        simp (disch := omega) only [kb_ret, kb_thr, ki_ret, kif, kcallV, gI, gN, gR, gAI, gAL, gAN, pI, pR, pAI, pAL, pAZ, pAN, kmay, kretZ_0, kretZ_1, k10, if_true, if_false, eq_self, true_and, and_true, false_or, not_false_eq_true, not_true_eq_false, kd_sI, kn_sI, kR_sI, kL_sI, kd_sA, kn_sA, kR_sA, kL_sA, kd_sL, kn_sL, kR_sL, kI_sL, kd_sR, kn_sR, kI_sR, kL_sR, kd_sX, kn_sX, kI_sX, kL_sX, kR_sX, kd_sRA, kn_sRA, kI_sRA, kL_sRA, if_pos, if_neg, in_t q3 q4, X10_setRate_b25, T.d0, T.r4, T.d3, T.n3, e2, ka_le, ka_lt, ka_eq, ka_neg, ka_pred, ka_dec, nI_1, nI_clamp, false_or, can_0 T, kI_sI]
      · have R1 := ((R.X 0).thr 0).up
        have ag := kAg.I (sX hx 0) 21 k (nI v)
        have am := kAg.I (sI hm 0 35 0) 3 k (nI v)
        have hP := R1.P
        obtain ⟨⟨sx, sm⟩, c1, c2, c3, c4, c5, c6, c7, c8, c9, c10, c11, c12, c13, c14, c15, c16⟩ := R1
        refine ⟨⟨sx.fr ag ?_, sm.fr am ?_⟩, c1.fr ag am ?_ ?_, c2.fr ag am ?_ ?_, c3.fr ag am ?_ ?_, c4.fr ag am ?_ ?_, ?_, c6.fr ag am ?_ ?_, c7.fr ag am ?_ ?_, c8.fr ag am ?_ ?_, c9.fr ag am ?_ ?_, c10.fr hP ag am ?_ ?_, c11.fr ag am ?_ ?_, c12.fr hP ag am ?_ ?_, c13.fr ag am ?_ ?_, c14.fr ag am ?_ ?_, c15.fr ag am ?_ ?_, c16.fr (fun _ h => h) am ?_ (Nat.le_refl _)⟩
        all_goals first
          | (intro a k h1 h2; omega)
          | skip
        intro i hi
        rw [kI_sI, kI_sI]
        by_cases hk : i = k
        · subst hk
          exact ⟨v, v2, if_pos ⟨rfl, rfl⟩, if_pos ⟨rfl, rfl⟩⟩
        · rw [if_neg (by omega), if_neg (by omega)]
          exact c5 i hi
    · refine op_no R 1 1 0 rfl (by decide) ?_ ?_
      · show f_X9_setRate 0 (nI k) b (sX hx 0) = _
        unfold f_X9_setRate f_X9_requireClass
        rw [wi_t q1 q2]
        simp (disch := omega) only [kb_ret, kb_thr, ki_ret, kif, kcallV, gI, gN, gR, gAI, gAL, gAN, pI, pR, pAI, pAL, pAZ, pAN, kmay, kretZ_0, kretZ_1, k10, if_true, if_false, eq_self, true_and, and_true, false_or, not_false_eq_true, not_true_eq_false, kd_sI, kn_sI, kR_sI, kL_sI, kd_sA, kn_sA, kR_sA, kL_sA, kd_sL, kn_sL, kR_sL, kI_sL, kd_sR, kn_sR, kI_sR, kL_sR, kd_sX, kn_sX, kI_sX, kL_sX, kR_sX, kd_sRA, kn_sRA, kI_sRA, kL_sRA, if_pos, if_neg, wi_f hq3]
      · show f_X10_setRate 0 (nI k) b hm = _
        unfold f_X10_setRate
        rw [in_t q1 q2]
        simp (disch := omega) only [kb_ret, kb_thr, ki_ret, kif, kcallV, gI, gN, gR, gAI, gAL, gAN, pI, pR, pAI, pAL, pAZ, pAN, kmay, kretZ_0, kretZ_1, k10, if_true, if_false, eq_self, true_and, and_true, false_or, not_false_eq_true, not_true_eq_false, kd_sI, kn_sI, kR_sI, kL_sI, kd_sA, kn_sA, kR_sA, kL_sA, kd_sL, kn_sL, kR_sL, kI_sL, kd_sR, kn_sR, kI_sR, kL_sR, kd_sX, kn_sX, kI_sX, kL_sX, kR_sX, kd_sRA, kn_sRA, kI_sRA, kL_sRA, if_pos, if_neg, in_f hq3, X10_setRate_b25, X10_setRate_b24, T.d0, can_n T (show (1 : Int32) ≠ 0 by decide)]
  · refine op_no R 1 1 0 rfl (by decide) ?_ ?_
    · show f_X9_setRate 0 a b (sX hx 0) = _
      unfold f_X9_setRate f_X9_requireClass
      rw [wi_f hq, kb_ret, kif, if_pos rfl]
      simp (disch := omega) only [kb_ret, kb_thr, ki_ret, kif, kcallV, gI, gN, gR, gAI, gAL, gAN, pI, pR, pAI, pAL, pAZ, pAN, kmay, kretZ_0, kretZ_1, k10, if_true, if_false, eq_self, true_and, and_true, false_or, not_false_eq_true, not_true_eq_false, kd_sI, kn_sI, kR_sI, kL_sI, kd_sA, kn_sA, kR_sA, kL_sA, kd_sL, kn_sL, kR_sL, kI_sL, kd_sR, kn_sR, kI_sR, kL_sR, kd_sX, kn_sX, kI_sX, kL_sX, kR_sX, kd_sRA, kn_sRA, kI_sRA, kL_sRA, if_pos, if_neg]
    · show f_X10_setRate 0 a b hm = _
      unfold f_X10_setRate
      rw [in_f hq, kb_ret, kif, if_pos rfl]
      simp (disch := omega) only [kb_ret, kb_thr, ki_ret, kif, kcallV, gI, gN, gR, gAI, gAL, gAN, pI, pR, pAI, pAL, pAZ, pAN, kmay, kretZ_0, kretZ_1, k10, if_true, if_false, eq_self, true_and, and_true, false_or, not_false_eq_true, not_true_eq_false, kd_sI, kn_sI, kR_sI, kL_sI, kd_sA, kn_sA, kR_sA, kL_sA, kd_sL, kn_sL, kR_sL, kI_sL, kd_sR, kn_sR, kI_sR, kL_sR, kd_sX, kn_sX, kI_sX, kL_sX, kR_sX, kd_sRA, kn_sRA, kI_sRA, kL_sRA, if_pos, if_neg, X10_setRate_b25, X10_setRate_b24, T.d0, can_n T (show (1 : Int32) ≠ 0 by decide)]
/-- billed, paidBack -/
theorem o_billed : OPI (fun a b c h => f_X9_billed 0 a h) (fun a b c h => f_X10_billed 0 a h) (mp1 3) := by
  intro j hx hm a b c hj R
  have S := R.1.1
  have T := R.1.2
  have hbil := R.2.2.2.2.2.2.2.2.2.2.2.2.2.1.1
  rcases ka_rng a 0 5 0 5 rfl rfl (by decide) (by decide) with ⟨k, k1, k2, rfl, q1, q2⟩ | hq
  · obtain ⟨e1, e2⟩ := hbil k (by omega)
    refine op_rd R (kL hm 20 k) ?_ ?_
    · show f_X9_billed 0 (nI k) (sX hx 0) = _
      unfold f_X9_billed f_X9_requireDriver
      rw [wi_t q1 q2]
      simp (disch := omega) only [kb_ret, kb_thr, ki_ret, kif, kcallV, gI, gN, gR, gAI, gAL, gAN, pI, pR, pAI, pAL, pAZ, pAN, kmay, kretZ_0, kretZ_1, k10, if_true, if_false, eq_self, true_and, and_true, false_or, not_false_eq_true, not_true_eq_false, kd_sI, kn_sI, kR_sI, kL_sI, kd_sA, kn_sA, kR_sA, kL_sA, kd_sL, kn_sL, kR_sL, kI_sL, kd_sR, kn_sR, kI_sR, kL_sR, kd_sX, kn_sX, kI_sX, kL_sX, kR_sX, kd_sRA, kn_sRA, kI_sRA, kL_sRA, if_pos, if_neg, S.d0, S.r0_9, S.d31, S.n31, e1, ka_le, ka_lt, ka_eq, ka_neg, ka_pred, ka_dec, nI_1, nI_clamp, false_or]
    · show f_X10_billed 0 (nI k) hm = _
      unfold f_X10_billed f_X10_isDriver
      rw [in_t q1 q2]
      simp (disch := omega) only [kb_ret, kb_thr, ki_ret, kif, kcallV, gI, gN, gR, gAI, gAL, gAN, pI, pR, pAI, pAL, pAZ, pAN, kmay, kretZ_0, kretZ_1, k10, if_true, if_false, eq_self, true_and, and_true, false_or, not_false_eq_true, not_true_eq_false, kd_sI, kn_sI, kR_sI, kL_sI, kd_sA, kn_sA, kR_sA, kL_sA, kd_sL, kn_sL, kR_sL, kI_sL, kd_sR, kn_sR, kI_sR, kL_sR, kd_sX, kn_sX, kI_sX, kL_sX, kR_sX, kd_sRA, kn_sRA, kI_sRA, kL_sRA, if_pos, if_neg, X10_billed_b13, X10_billed_b29, T.d0, T.r25, T.d20, T.n20, ka_le, ka_lt, ka_eq, ka_neg, ka_pred, ka_dec, nI_1, nI_clamp, false_or, can_0 T]
  · refine op_no R 3 1 0 rfl (by decide) ?_ ?_
    · show f_X9_billed 0 a (sX hx 0) = _
      unfold f_X9_billed f_X9_requireDriver
      rw [wi_f hq]
      simp (disch := omega) only [kb_ret, kb_thr, ki_ret, kif, kcallV, gI, gN, gR, gAI, gAL, gAN, pI, pR, pAI, pAL, pAZ, pAN, kmay, kretZ_0, kretZ_1, k10, if_true, if_false, eq_self, true_and, and_true, false_or, not_false_eq_true, not_true_eq_false, kd_sI, kn_sI, kR_sI, kL_sI, kd_sA, kn_sA, kR_sA, kL_sA, kd_sL, kn_sL, kR_sL, kI_sL, kd_sR, kn_sR, kI_sR, kL_sR, kd_sX, kn_sX, kI_sX, kL_sX, kR_sX, kd_sRA, kn_sRA, kI_sRA, kL_sRA, if_pos, if_neg]
    · show f_X10_billed 0 a hm = _
      unfold f_X10_billed f_X10_isDriver
      rw [in_f hq]
      simp (disch := omega) only [kb_ret, kb_thr, ki_ret, kif, kcallV, gI, gN, gR, gAI, gAL, gAN, pI, pR, pAI, pAL, pAZ, pAN, kmay, kretZ_0, kretZ_1, k10, if_true, if_false, eq_self, true_and, and_true, false_or, not_false_eq_true, not_true_eq_false, kd_sI, kn_sI, kR_sI, kL_sI, kd_sA, kn_sA, kR_sA, kL_sA, kd_sL, kn_sL, kR_sL, kI_sL, kd_sR, kn_sR, kI_sR, kL_sR, kd_sX, kn_sX, kI_sX, kL_sX, kR_sX, kd_sRA, kn_sRA, kI_sRA, kL_sRA, if_pos, if_neg, X10_billed_b13, X10_billed_b29, T.d0, can_n T (show (1 : Int32) ≠ 0 by decide)]
theorem o_paidBack : OPI (fun a b c h => f_X9_paidBack 0 a h) (fun a b c h => f_X10_paidBack 0 a h) (mp1 3) := by
  intro j hx hm a b c hj R
  have S := R.1.1
  have T := R.1.2
  have hbil := R.2.2.2.2.2.2.2.2.2.2.2.2.2.1.1
  rcases ka_rng a 0 5 0 5 rfl rfl (by decide) (by decide) with ⟨k, k1, k2, rfl, q1, q2⟩ | hq
  · obtain ⟨e1, e2⟩ := hbil k (by omega)
    refine op_rd R (kL hm 21 k) ?_ ?_
    · show f_X9_paidBack 0 (nI k) (sX hx 0) = _
      unfold f_X9_paidBack f_X9_requireDriver
      rw [wi_t q1 q2]
      simp (disch := omega) only [kb_ret, kb_thr, ki_ret, kif, kcallV, gI, gN, gR, gAI, gAL, gAN, pI, pR, pAI, pAL, pAZ, pAN, kmay, kretZ_0, kretZ_1, k10, if_true, if_false, eq_self, true_and, and_true, false_or, not_false_eq_true, not_true_eq_false, kd_sI, kn_sI, kR_sI, kL_sI, kd_sA, kn_sA, kR_sA, kL_sA, kd_sL, kn_sL, kR_sL, kI_sL, kd_sR, kn_sR, kI_sR, kL_sR, kd_sX, kn_sX, kI_sX, kL_sX, kR_sX, kd_sRA, kn_sRA, kI_sRA, kL_sRA, if_pos, if_neg, S.d0, S.r0_10, S.d32, S.n32, e2, ka_le, ka_lt, ka_eq, ka_neg, ka_pred, ka_dec, nI_1, nI_clamp, false_or]
    · show f_X10_paidBack 0 (nI k) hm = _
      unfold f_X10_paidBack f_X10_isDriver
      rw [in_t q1 q2]
      simp (disch := omega) only [kb_ret, kb_thr, ki_ret, kif, kcallV, gI, gN, gR, gAI, gAL, gAN, pI, pR, pAI, pAL, pAZ, pAN, kmay, kretZ_0, kretZ_1, k10, if_true, if_false, eq_self, true_and, and_true, false_or, not_false_eq_true, not_true_eq_false, kd_sI, kn_sI, kR_sI, kL_sI, kd_sA, kn_sA, kR_sA, kL_sA, kd_sL, kn_sL, kR_sL, kI_sL, kd_sR, kn_sR, kI_sR, kL_sR, kd_sX, kn_sX, kI_sX, kL_sX, kR_sX, kd_sRA, kn_sRA, kI_sRA, kL_sRA, if_pos, if_neg, X10_paidBack_b13, X10_paidBack_b29, T.d0, T.r26, T.d21, T.n21, ka_le, ka_lt, ka_eq, ka_neg, ka_pred, ka_dec, nI_1, nI_clamp, false_or, can_0 T]
  · refine op_no R 3 1 0 rfl (by decide) ?_ ?_
    · show f_X9_paidBack 0 a (sX hx 0) = _
      unfold f_X9_paidBack f_X9_requireDriver
      rw [wi_f hq]
      simp (disch := omega) only [kb_ret, kb_thr, ki_ret, kif, kcallV, gI, gN, gR, gAI, gAL, gAN, pI, pR, pAI, pAL, pAZ, pAN, kmay, kretZ_0, kretZ_1, k10, if_true, if_false, eq_self, true_and, and_true, false_or, not_false_eq_true, not_true_eq_false, kd_sI, kn_sI, kR_sI, kL_sI, kd_sA, kn_sA, kR_sA, kL_sA, kd_sL, kn_sL, kR_sL, kI_sL, kd_sR, kn_sR, kI_sR, kL_sR, kd_sX, kn_sX, kI_sX, kL_sX, kR_sX, kd_sRA, kn_sRA, kI_sRA, kL_sRA, if_pos, if_neg]
    · show f_X10_paidBack 0 a hm = _
      unfold f_X10_paidBack f_X10_isDriver
      rw [in_f hq]
      simp (disch := omega) only [kb_ret, kb_thr, ki_ret, kif, kcallV, gI, gN, gR, gAI, gAL, gAN, pI, pR, pAI, pAL, pAZ, pAN, kmay, kretZ_0, kretZ_1, k10, if_true, if_false, eq_self, true_and, and_true, false_or, not_false_eq_true, not_true_eq_false, kd_sI, kn_sI, kR_sI, kL_sI, kd_sA, kn_sA, kR_sA, kL_sA, kd_sL, kn_sL, kR_sL, kI_sL, kd_sR, kn_sR, kI_sR, kL_sR, kd_sX, kn_sX, kI_sX, kL_sX, kR_sX, kd_sRA, kn_sRA, kI_sRA, kL_sRA, if_pos, if_neg, X10_paidBack_b13, X10_paidBack_b29, T.d0, can_n T (show (1 : Int32) ≠ 0 by decide)]
end
section
/-- now, plates, clearSpelled -/
theorem pn_now : PN RR (f_X9_now 0) (f_X10_now 0) := by
  intro j hx hm hj R
  have S := R.1.1
  have T := R.1.2
  obtain ⟨n, hn, e1, e2⟩ := R.2.1
  refine ⟨nI n, sX hx 0, sI hm 0 35 0, ?_, ?_, ((R.X 0).thr 0).up⟩
  · show f_X9_now 0 (sX hx 0) = kret (nI n) (sX hx 0)
    unfold f_X9_now gI
    rw [if_pos (show kd (sX hx 0) 0 = 10 from S.d0), show kI (sX hx 0) 0 12 = nI n from e1]
  · show f_X10_now 0 hm = kret (nI n) (sI hm 0 35 0)
    unfold f_X10_now gI pI
    rw [if_pos T.d0]
    show (if _ then _ else _) = _
    rw [if_pos (T.thr 0).d0, show kI (sI hm 0 35 0) 0 0 = nI n from e2]
theorem pn_plates : PN RR (f_X9_plates 0) (f_X10_plates 0) := by
  intro j hx hm hj R
  have S := R.1.1
  have T := R.1.2
  obtain ⟨⟨n, hn, e1, e2⟩, -⟩ := R.2.2.2.2.2.2.2.2.1
  refine ⟨nI n, sX hx 0, sI hm 0 35 0, ?_, ?_, ((R.X 0).thr 0).up⟩
  · show f_X9_plates 0 (sX hx 0) = kret (nI n) (sX hx 0)
    unfold f_X9_plates gI
    rw [if_pos (show kd (sX hx 0) 0 = 10 from S.d0), show kI (sX hx 0) 0 13 = nI n from e1]
  · show f_X10_plates 0 hm = kret (nI n) (sI hm 0 35 0)
    unfold f_X10_plates gI pI
    rw [if_pos T.d0]
    show (if _ then _ else _) = _
    rw [if_pos (T.thr 0).d0, show kI (sI hm 0 35 0) 0 8 = nI n from e2]
theorem pn_clearSpelled : PN RR (f_X9_clearSpelled 0) (f_X10_clearSpelled 0) := by
  intro j hx hm hj R
  have S := R.1.1
  have T := R.1.2
  obtain ⟨n, hn, e1, e2, e3⟩ := R.2.2.2.2.2.2.1
  refine ⟨nI n, sI (sX hx 0) 22 1 0, sI (sI hm 0 35 0) 0 5 0, ?_, ?_, ?_⟩
  · show f_X9_clearSpelled 0 (sX hx 0) = kret (nI n) (sI (sX hx 0) 22 1 0)
    unfold f_X9_clearSpelled
    simp only [kb_ret, kb_thr, ki_ret, kif, kcallV, gI, gN, gR, gAI, gAL, gAN, pI, pR, pAI, pAL, pAZ, pAN, kmay, kretZ_0, kretZ_1, k10, if_true, if_false, eq_self, true_and, and_true, false_or, not_false_eq_true, not_true_eq_false, kd_sI, kn_sI, kR_sI, kL_sI, kd_sA, kn_sA, kR_sA, kL_sA, kd_sL, kn_sL, kR_sL, kI_sL, kd_sR, kn_sR, kI_sR, kL_sR, kd_sX, kn_sX, kI_sX, kL_sX, kR_sX, kd_sRA, kn_sRA, kI_sRA, kL_sRA, if_pos, if_neg, S.d0, S.r0_2, S.d22, e1]
  · show f_X10_clearSpelled 0 hm = kret (nI n) (sI (sI hm 0 35 0) 0 5 0)
    unfold f_X10_clearSpelled gI pI
    rw [if_pos T.d0]
    show (if _ then _ else _) = _
    rw [if_pos (T.thr 0).d0, show kI (sI hm 0 35 0) 0 5 = nI n from e2]
    exact if_pos (T.thr 0).d0
  · have R1 := ((R.X 0).thr 0).up
    have ag := kAg.I (sX hx 0) 22 1 0
    have am := kAg.I (sI hm 0 35 0) 0 5 0
    have hP := R1.P
    obtain ⟨⟨sx, sm⟩, c1, c2, c3, c4, c5, c6, c7, c8, c9, c10, c11, c12, c13, c14, c15, c16⟩ := R1
    refine ⟨⟨sx.fr ag ?_, sm.fr am ?_⟩, c1.fr ag am ?_ ?_, c2.fr ag am ?_ ?_, c3.fr ag am ?_ ?_, c4.fr ag am ?_ ?_, c5.fr ag am ?_ ?_, ?_, c7.fr ag am ?_ ?_, c8.fr ag am ?_ ?_, c9.fr ag am ?_ ?_, c10.fr hP ag am ?_ ?_, c11.fr ag am ?_ ?_, c12.fr hP ag am ?_ ?_, c13.fr ag am ?_ ?_, c14.fr ag am ?_ ?_, c15.fr ag am ?_ ?_, c16.fr (fun _ h => h) am ?_ (Nat.le_refl _)⟩
    all_goals first
      | (intro a k h1 h2; omega)
      | skip
    exact ⟨0, by omega, rfl, rfl, fun k hk => absurd hk (Nat.not_lt_zero k)⟩
/-! chars of the model's text -/
theorem tm_isPair (x : Int32) (h : KH) : f_X10_isPair x h = kret (if kLen x = 2 then 1 else 0) h := by
  unfold f_X10_isPair kLen
  by_cases h1 : x < 10
  · rw [in_f (Or.inl h1), if_pos h1]
    rfl
  · by_cases h2 : 13 < x
    · have h3 : (14 : Int32) ≤ x := by
        rw [Int32.le_iff_toInt_le]
        rw [Int32.lt_iff_toInt_lt] at h2
        rw [show (13 : Int32).toInt = 13 from by decide] at h2
        rw [show (14 : Int32).toInt = 14 from by decide]
        omega
      rw [in_f (Or.inr h2), if_neg h1, if_pos h3]
      rfl
    · have h3 : ¬ (14 : Int32) ≤ x := by
        rw [Int32.le_iff_toInt_le]
        rw [Int32.lt_iff_toInt_lt] at h2
        rw [show (13 : Int32).toInt = 13 from by decide] at h2
        rw [show (14 : Int32).toInt = 14 from by decide]
        omega
      rw [in_t h1 h2, if_neg h1, if_neg h3]
      rfl
theorem kLen_2 (x : Int32) : kLen x = 2 ∨ kLen x = 1 := by
  unfold kLen
  split
  · exact Or.inr rfl
  · split
    · exact Or.inr rfl
    · exact Or.inl rfl
section KTEXTM
variable {h : KH} {n : Nat}
theorem tm_charsL (T : kSm h) (hc : kI h 0 5 = nI n) (hn : n ≤ 6) : ∀ (f i : Nat), i ≤ n → n < i + f → X10_chars_L4 f 0 (kChs (kI h 4) i) (nI i) h = kret (kChs (kI h 4) n) h := by
  intro f
  induction f with
  | zero => intro i h1 h2; omega
  | succ f ih =>
    intro i h1 h2
    unfold X10_chars_L4 X10_chars_b4
    by_cases hi : i = n
    · subst hi
      simp (disch := omega) only [gI, kif, T.d0, hc, if_true, if_pos, ka_le, Nat.le_refl]
    · have e := ih (i + 1) (by omega) (by omega)
      rw [← nI_1] at e
      simp (disch := omega) only [gI, gN, gAI, kmay, T.d0, hc, T.r6, T.d4, T.n4, ka_le, ka_lt, ka_eq, ka_neg, ka_pred, ka_dec, nI_1, nI_clamp, false_or, true_and, if_pos, if_neg, if_true, kif]
      rw [tm_isPair, kb_ret]
      rcases kLen_2 (kI h 4 i) with q | q
      · rw [q]
        simp only [if_true, k10, if_false]
        unfold X10_chars_b30
        rw [← e]
        show X10_chars_L4 f 0 (kChs (kI h 4) i + 2) (nI i + 1) h = _
        rw [← q]
        rfl
      · rw [q]
        rw [if_neg (show ¬ ((1 : Int32) = 2) by decide)]
        simp only [if_true]
        unfold X10_chars_b30
        rw [← e]
        show X10_chars_L4 f 0 (kChs (kI h 4) i + 1) (nI i + 1) h = _
        rw [← q]
        rfl
theorem tm_chars (T : kSm h) (hc : kI h 0 5 = nI n) (hn : n ≤ 6) : f_X10_chars 0 h = kret (kChs (kI h 4) n) h :=
  tm_charsL T hc hn kF 0 (Nat.zero_le _) (by unfold kF; omega)
theorem tm_putsL {v : Int32} {p : Nat} (T : kSm h) (hc : kI h 0 5 = nI n) (hn : n < 6) : ∀ (f i : Nat), p ≤ i → i ≤ n → i < p + f → X10_puts_L5 f 0 v (nI p) (nI i) (sA h 4 (kSh (kI h 4) i n)) = kret (kChs (kPut (kI h 4) v p n) (n + 1)) (sI (sA h 4 (kPut (kI h 4) v p n)) 0 5 (nI (n + 1))) := by
  intro f
  induction f with
  | zero => intro i h1 h2; omega
  | succ f ih =>
    intro i h1 h2 h3
    unfold X10_puts_L5 X10_puts_b5 gN gI gAI pAI pI kmay
    simp (disch := omega) only [kd_sA, kn_sA, kR_sA, kI_sA, kd_sI, T.d0, T.r6, T.d4, T.n4, hc, ka_le, ka_neg, nI_clamp, false_or, true_and, if_true]
    by_cases hi : i = p
    · subst hi
      simp only [kif, Nat.le_refl, if_true]
      rw [if_pos (by omega), sI_in, kSh_put _ _ _ _ h2]
      simp only [kI_sA, show ((0 : Nat) = 4) = False from by decide, if_false, hc, nI_1, kcallV]
      have T1 : kSm (sI (sA h 4 (kPut (kI h 4) v i n)) 0 5 (nI (n + 1))) := (T.fr (kAg.A h 4 _) (fun a k q z => by omega)).fr (kAg.I _ 0 5 _) (fun a k q z => by omega)
      rw [if_pos T1.d0, tm_chars (n := n + 1) T1 rfl (by omega), kb_ret]
      rfl
    · simp (disch := omega) only [kif, ka_pred, ka_dec, ka_neg, nI_clamp, false_or, if_pos, if_neg]
      rw [sI_in, kSh_step _ _ _ (by omega) h2]
      exact ih (i - 1) (by omega) (by omega) (by omega)
theorem tm_puts {v : Int32} {p : Nat} (T : kSm h) (hc : kI h 0 5 = nI n) (hn : n < 6) (hp : p ≤ n) : f_X10_puts 0 v (nI p) h = kret (kChs (kPut (kI h 4) v p n) (n + 1)) (sI (sA h 4 (kPut (kI h 4) v p n)) 0 5 (nI (n + 1))) := by
  unfold f_X10_puts gI
  rw [if_pos T.d0, hc]
  have e := tm_putsL (v := v) (p := p) T hc hn kF n hp (Nat.le_refl _) (by unfold kF; omega)
  rw [kSh_n, sA_self] at e
  exact e
end KTEXTM
theorem kChs_cg {g g' : Nat → Int32} : ∀ {n : Nat}, (∀ k, k < n → g k = g' k) → kChs g n = kChs g' n := by
  intro n
  induction n with
  | zero => intro _; rfl
  | succ n ih =>
    intro h
    show kChs g n + kLen (g n) = kChs g' n + kLen (g' n)
    rw [ih (fun k hk => h k (by omega)), h n (by omega)]
theorem kPut_cg {g g' : Nat → Int32} {v : Int32} {p n : Nat} (h : ∀ k, k < n → g k = g' k) (k : Nat) (hk : k < n + 1) (hp : p ≤ n) : kPut g v p n k = kPut g' v p n k := by
  unfold kPut
  by_cases h1 : k < p
  · rw [if_pos h1, if_pos h1, h k (by omega)]
  · rw [if_neg h1, if_neg h1]
    by_cases h2 : k = p
    · rw [if_pos h2, if_pos h2]
    · rw [if_neg h2, if_neg h2, if_pos (by omega), if_pos (by omega), h (k - 1) (by omega)]
end
section
/-! spell, insert -/
section KPUT
variable {hx hm : KH} {n p : Nat} {v : Int32}
def xPut (hx : KH) (v : Int32) (p n : Nat) : KH := sI (sA hx 23 (kPut (kI hx 23) v p n)) 22 1 (nI (n + 1))
def mPut (hm : KH) (v : Int32) (p n : Nat) : KH := sI (sA hm 4 (kPut (kI hm 4) v p n)) 0 5 (nI (n + 1))
theorem xPut_ag (hx : KH) (v : Int32) (p n : Nat) : kAg (fun a k => a = 23 ∨ a = 22 ∧ k = 1) hx (xPut hx v p n) := (kAg.A hx 23 _).trans (kAg.I _ 22 1 _) (fun i k q z => q (Or.inl z)) (fun i k q z => q (Or.inr z))
theorem mPut_ag (hm : KH) (v : Int32) (p n : Nat) : kAg (fun a k => a = 4 ∨ a = 0 ∧ k = 5) hm (mPut hm v p n) := (kAg.A hm 4 _).trans (kAg.I _ 0 5 _) (fun i k q z => q (Or.inl z)) (fun i k q z => q (Or.inr z))
theorem xPut_S (S : kSx hx) : kSx (xPut hx v p n) := S.fr (xPut_ag hx v p n) (fun a k q z => by omega)
theorem x_put (S : kSx hx) (hc : kI hx 22 1 = nI n) (hn : n < 6) (hp : p ≤ n) : f_X7_put 22 v (nI p) hx = kret () (xPut hx v p n) := t0_put S.d22 S.r22_0 (by decide) S.d23 S.n23 hc hn hp
theorem x_cc (S : kSx hx) (hc : kI hx 22 1 = nI n) (hn : n ≤ 6) : f_X7_charCount 22 hx = kret (kChs (kI hx 23) n) hx := t0_charCount S.d22 S.r22_0 S.d23 S.n23 hc hn
theorem x_cc2 (S : kSx hx) (hn : n < 6) : f_X7_charCount 22 (xPut hx v p n) = kret (kChs (kPut (kI hx 23) v p n) (n + 1)) (xPut hx v p n) := x_cc (n := n + 1) (xPut_S S) rfl (by omega)
theorem chs_eq (hp : p ≤ n) (e : ∀ k, k < n → ∃ u, u < 15 ∧ kI hx 23 k = nI u ∧ kI hm 4 k = nI u) : kChs (kPut (kI hm 4) v p n) (n + 1) = kChs (kPut (kI hx 23) v p n) (n + 1) :=
  kChs_cg (fun k hk => kPut_cg (fun i hi => by obtain ⟨u, -, q1, q2⟩ := e i hi; rw [q1, q2]) k hk hp)
theorem RR.put {j s : Nat} (R1 : RR j hx hm) (hc : kI hx 22 1 = nI n) (hn : n < 6) (hp : p ≤ n) (hs : s < 15) : RR j (xPut hx (nI s) p n) (mPut hm (nI s) p n) := by
  have ag := xPut_ag hx (nI s) p n
  have am := mPut_ag hm (nI s) p n
  have hP := R1.P
  obtain ⟨⟨sx, sm⟩, c1, c2, c3, c4, c5, c6, c7, c8, c9, c10, c11, c12, c13, c14, c15, c16⟩ := R1
  refine ⟨⟨sx.fr ag ?_, sm.fr am ?_⟩, c1.fr ag am ?_ ?_, c2.fr ag am ?_ ?_, c3.fr ag am ?_ ?_, c4.fr ag am ?_ ?_, c5.fr ag am ?_ ?_, ?_, c7.fr ag am ?_ ?_, c8.fr ag am ?_ ?_, c9.fr ag am ?_ ?_, c10.fr hP ag am ?_ ?_, c11.fr ag am ?_ ?_, c12.fr hP ag am ?_ ?_, c13.fr ag am ?_ ?_, c14.fr ag am ?_ ?_, c15.fr ag am ?_ ?_, c16.fr (fun _ h => h) am ?_ (Nat.le_refl _)⟩
  all_goals first
    | (intro a k h1 h2; omega)
    | skip
  obtain ⟨n', hn', e1, e2, e3⟩ := c6
  have hnn : n' = n := by
    rw [hc, ka_eq (by omega) (by omega)] at e1
    exact e1.symm
  subst hnn
  refine ⟨n' + 1, by omega, rfl, rfl, fun k hk => ?_⟩
  show ∃ u, u < 15 ∧ kPut (kI hx 23) (nI s) p n' k = nI u ∧ kPut (kI hm 4) (nI s) p n' k = nI u
  unfold kPut
  by_cases h1 : k < p
  · rw [if_pos h1, if_pos h1]
    exact e3 k (by omega)
  · rw [if_neg h1, if_neg h1]
    by_cases h2 : k = p
    · rw [if_pos h2, if_pos h2]
      exact ⟨s, hs, rfl, rfl⟩
    · rw [if_neg h2, if_neg h2, if_pos (by omega), if_pos (by omega)]
      exact e3 (k - 1) (by omega)
end KPUT
theorem o_spell : OPI (fun a b c h => f_X9_spell 0 a h) (fun a b c h => f_X10_spell 0 a h) (mp2 3 2) := by
  intro j hx hm a b c hj R
  have S := R.1.1
  have T := R.1.2
  obtain ⟨n, hn, e1, e2, e3⟩ := R.2.2.2.2.2.2.1
  rcases ka_rng a 0 14 0 14 rfl rfl (by decide) (by decide) with ⟨s, k1, k2, rfl, q1, q2⟩ | hq
  · by_cases h6 : n < 6
    · refine op_ok (hx1 := xPut (sX hx 0) (nI s) n n) (hm1 := mPut (sI hm 0 35 0) (nI s) n n) 0 (kChs (kPut (kI hx 23) (nI s) n n) (n + 1)) ?_ ?_ rfl ?_
      · show f_X9_spell 0 (nI s) (sX hx 0) = _
        unfold f_X9_spell f_X9_requireSign f_X9_requireRoomForSign
        rw [wi_t q1 q2]
        simp (disch := omega) only [kb_ret, kb_thr, ki_ret, kif, kcallV, gI, gN, gR, gAI, gAL, gAN, pI, pR, pAI, pAL, pAZ, pAN, kmay, kretZ_0, kretZ_1, k10, if_true, if_false, eq_self, true_and, and_true, false_or, not_false_eq_true, not_true_eq_false, kd_sI, kn_sI, kR_sI, kL_sI, kd_sA, kn_sA, kR_sA, kL_sA, kd_sL, kn_sL, kR_sL, kI_sL, kd_sR, kn_sR, kI_sR, kL_sR, kd_sX, kn_sX, kI_sX, kL_sX, kR_sX, kd_sRA, kn_sRA, kI_sRA, kL_sRA, if_pos, if_neg, S.d0, S.r0_2, S.d22, e1, show (6 : Int32) = nI 6 from rfl, ka_le, ka_lt, ka_eq, ka_neg, ka_pred, ka_dec, nI_1, nI_clamp, false_or]
        rw [x_put (n := n) (S.X 0) e1 h6 (Nat.le_refl _)]
        simp only [kb_ret, (xPut_S (S.X 0)).d0, (xPut_S (S.X 0)).r0_2, (xPut_S (S.X 0)).d22, if_true, x_cc2 (S.X 0) h6]
        rfl
      · show f_X10_spell 0 (nI s) hm = _
        unfold f_X10_spell f_X10_isSign
        rw [in_t q1 q2]
        simp (disch := omega) only [kb_ret, kb_thr, ki_ret, kif, kcallV, gI, gN, gR, gAI, gAL, gAN, pI, pR, pAI, pAL, pAZ, pAN, kmay, kretZ_0, kretZ_1, k10, if_true, if_false, eq_self, true_and, and_true, false_or, not_false_eq_true, not_true_eq_false, kd_sI, kn_sI, kR_sI, kL_sI, kd_sA, kn_sA, kR_sA, kL_sA, kd_sL, kn_sL, kR_sL, kI_sL, kd_sR, kn_sR, kI_sR, kL_sR, kd_sX, kn_sX, kI_sX, kL_sX, kR_sX, kd_sRA, kn_sRA, kI_sRA, kL_sRA, if_pos, if_neg, T.d0, e2, show (6 : Int32) = nI 6 from rfl, ka_le, ka_lt, ka_eq, ka_neg, ka_pred, ka_dec, nI_1, nI_clamp, false_or, X10_spell_b26, can_0 T]
        rw [kI_sI, if_neg (by omega), e2, tm_puts (T.thr 0) e2 h6 (Nat.le_refl _), kb_ret]
        unfold X10_spell_b45
        rw [show kI (sI hm 0 35 0) 4 = kI hm 4 from rfl, chs_eq (Nat.le_refl _) e3]
        rfl
      · exact (((R.X 0).thr 0).up).put e1 h6 (Nat.le_refl _) (by omega)
    · refine op_no R 2 2 0 rfl (by decide) ?_ ?_
      · show f_X9_spell 0 (nI s) (sX hx 0) = _
        unfold f_X9_spell f_X9_requireSign f_X9_requireRoomForSign
        rw [wi_t q1 q2]
        simp (disch := omega) only [kb_ret, kb_thr, ki_ret, kif, kcallV, gI, gN, gR, gAI, gAL, gAN, pI, pR, pAI, pAL, pAZ, pAN, kmay, kretZ_0, kretZ_1, k10, if_true, if_false, eq_self, true_and, and_true, false_or, not_false_eq_true, not_true_eq_false, kd_sI, kn_sI, kR_sI, kL_sI, kd_sA, kn_sA, kR_sA, kL_sA, kd_sL, kn_sL, kR_sL, kI_sL, kd_sR, kn_sR, kI_sR, kL_sR, kd_sX, kn_sX, kI_sX, kL_sX, kR_sX, kd_sRA, kn_sRA, kI_sRA, kL_sRA, if_pos, if_neg, S.d0, S.r0_2, S.d22, e1, show (6 : Int32) = nI 6 from rfl, ka_le, ka_lt, ka_eq, ka_neg, ka_pred, ka_dec, nI_1, nI_clamp, false_or]
      · show f_X10_spell 0 (nI s) hm = _
        unfold f_X10_spell f_X10_isSign
        rw [in_t q1 q2]
        simp (disch := omega) only [kb_ret, kb_thr, ki_ret, kif, kcallV, gI, gN, gR, gAI, gAL, gAN, pI, pR, pAI, pAL, pAZ, pAN, kmay, kretZ_0, kretZ_1, k10, if_true, if_false, eq_self, true_and, and_true, false_or, not_false_eq_true, not_true_eq_false, kd_sI, kn_sI, kR_sI, kL_sI, kd_sA, kn_sA, kR_sA, kL_sA, kd_sL, kn_sL, kR_sL, kI_sL, kd_sR, kn_sR, kI_sR, kL_sR, kd_sX, kn_sX, kI_sX, kL_sX, kR_sX, kd_sRA, kn_sRA, kI_sRA, kL_sRA, if_pos, if_neg, T.d0, e2, show (6 : Int32) = nI 6 from rfl, ka_le, ka_lt, ka_eq, ka_neg, ka_pred, ka_dec, nI_1, nI_clamp, false_or, X10_spell_b26, X10_spell_b45, can_n T (show (2 : Int32) ≠ 0 by decide)]
  · refine op_no R 3 1 0 rfl (by decide) ?_ ?_
    · show f_X9_spell 0 a (sX hx 0) = _
      unfold f_X9_spell f_X9_requireSign
      rw [wi_f hq, kb_ret, kif, if_pos rfl]
      rfl
    · show f_X10_spell 0 a hm = _
      unfold f_X10_spell f_X10_isSign
      rw [in_f hq, kb_ret, kretZ_0, kb_ret, kif, if_pos rfl]
      simp (disch := omega) only [kb_ret, kb_thr, ki_ret, kif, kcallV, gI, gN, gR, gAI, gAL, gAN, pI, pR, pAI, pAL, pAZ, pAN, kmay, kretZ_0, kretZ_1, k10, if_true, if_false, eq_self, true_and, and_true, false_or, not_false_eq_true, not_true_eq_false, kd_sI, kn_sI, kR_sI, kL_sI, kd_sA, kn_sA, kR_sA, kL_sA, kd_sL, kn_sL, kR_sL, kI_sL, kd_sR, kn_sR, kI_sR, kL_sR, kd_sX, kn_sX, kI_sX, kL_sX, kR_sX, kd_sRA, kn_sRA, kI_sRA, kL_sRA, if_pos, if_neg, T.d0, X10_spell_b26, X10_spell_b45, can_n T (show (1 : Int32) ≠ 0 by decide)]
end
section
theorem o_insert : OPI (fun a b c h => f_X9_insert 0 a b h) (fun a b c h => f_X10_insert 0 a b h) (mp3 3 1 2) := by
  intro j hx hm a b c hj R
  have S := R.1.1
  have T := R.1.2
  obtain ⟨n, hn, e1, e2, e3⟩ := R.2.2.2.2.2.2.1
  rcases ka_rng a 0 14 0 14 rfl rfl (by decide) (by decide) with ⟨s, k1, k2, rfl, q1, q2⟩ | hq
  · by_cases hb : ∃ p, p < n ∧ b = nI p
    · obtain ⟨p, hp, rfl⟩ := hb
      have w1 : ¬ nI p < (0 : Int32) := nI_pos (by omega)
      have w2 : ¬ nI (n - 1) < nI p := by
        rw [ka_lt (by omega) (by omega)]
        omega
      by_cases h6 : n < 6
      · refine op_ok (hx1 := xPut (sX hx 0) (nI s) p n) (hm1 := mPut (sI hm 0 35 0) (nI s) p n) 0 (kChs (kPut (kI hx 23) (nI s) p n) (n + 1)) ?_ ?_ rfl ?_
        · show f_X9_insert 0 (nI s) (nI p) (sX hx 0) = _
          unfold f_X9_insert f_X9_requireSign f_X9_requireRoomForSign
          rw [wi_t q1 q2]
          simp (disch := omega) only [kb_ret, kb_thr, ki_ret, kif, kcallV, gI, gN, gR, gAI, gAL, gAN, pI, pR, pAI, pAL, pAZ, pAN, kmay, kretZ_0, kretZ_1, k10, if_true, if_false, eq_self, true_and, and_true, false_or, not_false_eq_true, not_true_eq_false, kd_sI, kn_sI, kR_sI, kL_sI, kd_sA, kn_sA, kR_sA, kL_sA, kd_sL, kn_sL, kR_sL, kI_sL, kd_sR, kn_sR, kI_sR, kL_sR, kd_sX, kn_sX, kI_sX, kL_sX, kR_sX, kd_sRA, kn_sRA, kI_sRA, kL_sRA, if_pos, if_neg, S.d0, S.r0_2, S.d22, e1, wi_t w1 w2, show (6 : Int32) = nI 6 from rfl, ka_le, ka_lt, ka_eq, ka_neg, ka_pred, ka_dec, nI_1, nI_clamp, false_or]
          rw [x_put (n := n) (S.X 0) e1 h6 (by omega)]
          simp only [kb_ret, (xPut_S (S.X 0)).d0, (xPut_S (S.X 0)).r0_2, (xPut_S (S.X 0)).d22, if_true, x_cc2 (S.X 0) h6]
          rfl
        · show f_X10_insert 0 (nI s) (nI p) hm = _
          unfold f_X10_insert f_X10_isSign
          rw [in_t q1 q2]
          simp (disch := omega) only [kb_ret, kb_thr, ki_ret, kif, kcallV, gI, gN, gR, gAI, gAL, gAN, pI, pR, pAI, pAL, pAZ, pAN, kmay, kretZ_0, kretZ_1, k10, if_true, if_false, eq_self, true_and, and_true, false_or, not_false_eq_true, not_true_eq_false, kd_sI, kn_sI, kR_sI, kL_sI, kd_sA, kn_sA, kR_sA, kL_sA, kd_sL, kn_sL, kR_sL, kI_sL, kd_sR, kn_sR, kI_sR, kL_sR, kd_sX, kn_sX, kI_sX, kL_sX, kR_sX, kd_sRA, kn_sRA, kI_sRA, kL_sRA, if_pos, if_neg, T.d0, e2, in_t w1 w2, show (6 : Int32) = nI 6 from rfl, ka_le, ka_lt, ka_eq, ka_neg, ka_pred, ka_dec, nI_1, nI_clamp, false_or, X10_insert_b44, can_0 T]
          rw [tm_puts (T.thr 0) e2 h6 (by omega), kb_ret]
          unfold X10_insert_b60
          rw [show kI (sI hm 0 35 0) 4 = kI hm 4 from rfl, chs_eq (by omega) e3]
          rfl
        · exact (((R.X 0).thr 0).up).put e1 h6 (by omega) (by omega)
      · refine op_no R 2 3 0 rfl (by decide) ?_ ?_
        · show f_X9_insert 0 (nI s) (nI p) (sX hx 0) = _
          unfold f_X9_insert f_X9_requireSign f_X9_requireRoomForSign
          rw [wi_t q1 q2]
          simp (disch := omega) only [kb_ret, kb_thr, ki_ret, kif, kcallV, gI, gN, gR, gAI, gAL, gAN, pI, pR, pAI, pAL, pAZ, pAN, kmay, kretZ_0, kretZ_1, k10, if_true, if_false, eq_self, true_and, and_true, false_or, not_false_eq_true, not_true_eq_false, kd_sI, kn_sI, kR_sI, kL_sI, kd_sA, kn_sA, kR_sA, kL_sA, kd_sL, kn_sL, kR_sL, kI_sL, kd_sR, kn_sR, kI_sR, kL_sR, kd_sX, kn_sX, kI_sX, kL_sX, kR_sX, kd_sRA, kn_sRA, kI_sRA, kL_sRA, if_pos, if_neg, S.d0, S.r0_2, S.d22, e1, wi_t w1 w2, show (6 : Int32) = nI 6 from rfl, ka_le, ka_lt, ka_eq, ka_neg, ka_pred, ka_dec, nI_1, nI_clamp, false_or]
        · show f_X10_insert 0 (nI s) (nI p) hm = _
          unfold f_X10_insert f_X10_isSign
          rw [in_t q1 q2]
          simp (disch := omega) only [kb_ret, kb_thr, ki_ret, kif, kcallV, gI, gN, gR, gAI, gAL, gAN, pI, pR, pAI, pAL, pAZ, pAN, kmay, kretZ_0, kretZ_1, k10, if_true, if_false, eq_self, true_and, and_true, false_or, not_false_eq_true, not_true_eq_false, kd_sI, kn_sI, kR_sI, kL_sI, kd_sA, kn_sA, kR_sA, kL_sA, kd_sL, kn_sL, kR_sL, kI_sL, kd_sR, kn_sR, kI_sR, kL_sR, kd_sX, kn_sX, kI_sX, kL_sX, kR_sX, kd_sRA, kn_sRA, kI_sRA, kL_sRA, if_pos, if_neg, T.d0, e2, in_t w1 w2, show (6 : Int32) = nI 6 from rfl, ka_le, ka_lt, ka_eq, ka_neg, ka_pred, ka_dec, nI_1, nI_clamp, false_or, X10_insert_b44, X10_insert_b60, can_n T (show (3 : Int32) ≠ 0 by decide)]
    · have w : b < (0 : Int32) ∨ (nI n - 1) < b := by
        by_cases h0 : b < 0
        · exact Or.inl h0
        · right
          have hb0 : (0 : Int) ≤ b.toInt := by
            rw [Int32.lt_iff_toInt_lt, show (0 : Int32).toInt = 0 from by decide] at h0
            omega
          have hm1 : (nI n - 1).toInt = (n : Int) - 1 := by
            by_cases hn0 : n = 0
            · subst hn0
              decide
            · rw [ka_pred (by omega), nI_toInt (by omega)]
              omega
          rw [Int32.lt_iff_toInt_lt, hm1]
          by_cases hlt : b.toInt < n
          · exfalso
            refine hb ⟨b.toInt.toNat, by omega, ?_⟩
            rw [← Int32.toInt_inj, nI_toInt (by omega)]
            omega
          · omega
      refine op_no R 1 2 0 rfl (by decide) ?_ ?_
      · show f_X9_insert 0 (nI s) b (sX hx 0) = _
        unfold f_X9_insert f_X9_requireSign
        rw [wi_t q1 q2]
        simp (disch := omega) only [kb_ret, kif, k10, if_true, if_false, gN, gI, kmay, kd_sX, kR_sX, kI_sX, S.d0, S.r0_2, S.d22, e1, wi_f w]
      · show f_X10_insert 0 (nI s) b hm = _
        unfold f_X10_insert f_X10_isSign
        rw [in_t q1 q2, kb_ret, kretZ_1, kb_ret, kif, if_neg (by decide), gI, if_pos T.d0, e2, in_f w, kb_ret, kif, if_pos rfl]
        simp (disch := omega) only [kb_ret, kb_thr, ki_ret, kif, kcallV, gI, gN, gR, gAI, gAL, gAN, pI, pR, pAI, pAL, pAZ, pAN, kmay, kretZ_0, kretZ_1, k10, if_true, if_false, eq_self, true_and, and_true, false_or, not_false_eq_true, not_true_eq_false, kd_sI, kn_sI, kR_sI, kL_sI, kd_sA, kn_sA, kR_sA, kL_sA, kd_sL, kn_sL, kR_sL, kI_sL, kd_sR, kn_sR, kI_sR, kL_sR, kd_sX, kn_sX, kI_sX, kL_sX, kR_sX, kd_sRA, kn_sRA, kI_sRA, kL_sRA, if_pos, if_neg, T.d0, X10_insert_b44, X10_insert_b60, can_n T (show (2 : Int32) ≠ 0 by decide)]
  · refine op_no R 3 1 0 rfl (by decide) ?_ ?_
    · show f_X9_insert 0 a b (sX hx 0) = _
      unfold f_X9_insert f_X9_requireSign
      rw [wi_f hq, kb_ret, kif, if_pos rfl]
      rfl
    · show f_X10_insert 0 a b hm = _
      unfold f_X10_insert f_X10_isSign
      rw [in_f hq, kb_ret, kretZ_0, kb_ret, kif, if_pos rfl]
      simp (disch := omega) only [kb_ret, kb_thr, ki_ret, kif, kcallV, gI, gN, gR, gAI, gAL, gAN, pI, pR, pAI, pAL, pAZ, pAN, kmay, kretZ_0, kretZ_1, k10, if_true, if_false, eq_self, true_and, and_true, false_or, not_false_eq_true, not_true_eq_false, kd_sI, kn_sI, kR_sI, kL_sI, kd_sA, kn_sA, kR_sA, kL_sA, kd_sL, kn_sL, kR_sL, kI_sL, kd_sR, kn_sR, kI_sR, kL_sR, kd_sX, kn_sX, kI_sX, kL_sX, kR_sX, kd_sRA, kn_sRA, kI_sRA, kL_sRA, if_pos, if_neg, T.d0, X10_insert_b44, X10_insert_b60, can_n T (show (1 : Int32) ≠ 0 by decide)]
end
section
/-! steps, from outside -/
theorem gN_k {α : Type} {h : KH} {a c k b : Nat} {f : Nat → KO α} (h1 : kd h a = c) (h2 : kR h a k = some b) : gN h a c k f = f b := by
  unfold gN
  rw [if_pos h1, h2]
  rfl
theorem gI_k {α : Type} {h : KH} {a c k : Nat} {f : Int32 → KO α} (h1 : kd h a = c) : gI h a c k f = f (kI h a k) := if_pos h1
theorem pI_k {α : Type} {h : KH} {a c k : Nat} {v : Int32} {f : KH → KO α} (h1 : kd h a = c) : pI h a c k v f = f (sI h a k v) := if_pos h1
theorem gAI_k {α : Type} {h : KH} {a c i : Nat} {f : Int32 → KO α} (h1 : kd h a = c) (h2 : i < kn h a) (h3 : i < 2147483648) : gAI h a c (nI i) f = f (kI h a i) := by
  unfold gAI
  rw [nI_clamp h3, if_pos ⟨h1, by rintro (q | q); exact nI_pos h3 q; omega⟩]
theorem pAI_k {α : Type} {h : KH} {a c i : Nat} {v : Int32} {f : KH → KO α} (h1 : kd h a = c) (h2 : i < kn h a) (h3 : i < 2147483648) : pAI h a c (nI i) v f = f (sI h a i v) := by
  unfold pAI
  rw [nI_clamp h3, if_pos ⟨h1, by rintro (q | q); exact nI_pos h3 q; omega⟩]
/-! mirror -/
def kMir (g : Nat → Int32) (n i : Nat) : Nat → Int32 := fun k => if k < n ∧ (k < i ∨ n - 1 - k < i) then g (n - 1 - k) else g k
def kRev (g : Nat → Int32) (n : Nat) : Nat → Int32 := fun k => if k < n then g (n - 1 - k) else g k
theorem kMir_0 (g : Nat → Int32) (n : Nat) : kMir g n 0 = g := by
  funext k
  unfold kMir
  rw [if_neg (by omega)]
theorem kMir_rev (g : Nat → Int32) (n i : Nat) (h : n - 1 ≤ 2 * i) : kMir g n i = kRev g n := by
  funext k
  unfold kMir kRev
  by_cases h1 : k < n
  · rw [if_pos h1]
    by_cases h2 : k < i ∨ n - 1 - k < i
    · rw [if_pos ⟨h1, h2⟩]
    · rw [if_neg (by omega), show n - 1 - k = k by omega]
  · rw [if_neg h1, if_neg (by omega)]
theorem kMir_step (g : Nat → Int32) (n i : Nat) (h : 2 * i < n - 1) : (fun j => if j = n - 1 - i then kMir g n i i else if j = i then kMir g n i (n - 1 - i) else kMir g n i j) = kMir g n (i + 1) := by
  funext k
  unfold kMir
  by_cases h1 : k = n - 1 - i
  · rw [if_pos h1, if_neg (by omega), if_pos (by omega), show n - 1 - k = i by omega]
  · rw [if_neg h1]
    by_cases h2 : k = i
    · rw [if_pos h2, if_neg (by omega), if_pos (by omega), h2]
    · rw [if_neg h2]
      by_cases h3 : k < n ∧ (k < i ∨ n - 1 - k < i)
      · rw [if_pos h3, if_pos (by omega)]
      · rw [if_neg h3, if_neg (by omega)]
section KMIRROR
variable {h : KH} {t s n : Nat}
theorem t0_turnL (hk : kd h t = 8) (hs : kR h t 0 = some s) (hsk : kd h s = 21) (hsn : kn h s = 6) (hn : n ≤ 6) (h0 : 0 < n) : ∀ (f i : Nat), i ≤ n - 1 → n < i + f → 2 * i ≤ n → X7_turnRound_L9 f t (nI (n - 1 - i)) (nI i) (sA h s (kMir (kI h s) n i)) = kret () (sA h s (kRev (kI h s) n)) := by
  intro f
  induction f with
  | zero => intro i h1 h2; omega
  | succ f ih =>
    intro i h1 h2 h3
    unfold X7_turnRound_L9 X7_turnRound_b9
    by_cases hi : n - 1 - i ≤ i
    · rw [kif, if_pos (by rw [ka_le (by omega) (by omega)]; exact hi), kMir_rev _ _ _ (by omega)]
    · rw [kif, if_neg (by rw [ka_le (by omega) (by omega)]; exact hi)]
      simp (disch := omega) only [gN, gAI, pAI, kmay, kd_sA, kn_sA, kR_sA, kI_sA, kd_sI, kn_sI, kR_sI, hk, hs, hsk, hsn, ka_neg, nI_clamp, false_or, true_and, if_true, if_pos]
      rw [sI_in, sI_in, ka_dec (by omega), nI_1]
      have e := ih (i + 1) (by omega) (by omega) (by omega)
      rw [← kMir_step _ _ _ (by omega)] at e
      rw [show n - 1 - i - 1 = n - 1 - (i + 1) by omega]
      exact e
theorem t0_turn (hk : kd h t = 8) (hs : kR h t 0 = some s) (hsk : kd h s = 21) (hsn : kn h s = 6) (hc : kI h t 1 = nI n) (hn : n ≤ 6) : f_X7_turnRound t h = kret () (sA h s (kRev (kI h s) n)) := by
  unfold f_X7_turnRound gI
  rw [if_pos hk, hc]
  by_cases h0 : n = 0
  · subst h0
    have e : kRev (kI h s) 0 = kI h s := by
      funext k
      unfold kRev
      rw [if_neg (by omega)]
    rw [e, sA_self]
    rfl
  · show X7_turnRound_L9 kF t (nI n - 1) 0 h = _
    rw [ka_pred (by omega)]
    have e := t0_turnL hk hs hsk hsn hn (by omega) kF 0 (by omega) (by unfold kF; omega) (by omega)
    rw [kMir_0, sA_self] at e
    exact e
theorem tm_mirL (T : kSm h) (hc : kI h 0 5 = nI n) (hn : n ≤ 6) : ∀ (f i : Nat), 2 * i ≤ n → n < i + f → X10_mirror_L7 f 0 (nI i) (sA h 4 (kMir (kI h 4) n i)) = kret (nI n) (sA h 4 (kRev (kI h 4) n)) := by
  intro f
  induction f with
  | zero => intro i h1 h2; omega
  | succ f ih =>
    intro i h1 h2
    unfold X10_mirror_L7 X10_mirror_b7
    have hc' : kI (sA h 4 (kMir (kI h 4) n i)) 0 5 = nI n := hc
    rw [gI, if_pos (show kd (sA h 4 (kMir (kI h 4) n i)) 0 = 11 from T.d0), hc', kdv, if_neg (by decide), show (2 : Int32) = nI 2 from rfl, pk_div (by omega) (by decide) (by decide)]
    by_cases hi : n / 2 ≤ i
    · rw [kif, if_pos (by rw [ka_le (by omega) (by omega)]; exact hi), kMir_rev _ _ _ (by omega), gI, if_pos (show kd (sA h 4 _) 0 = 11 from T.d0)]
      rw [show kI (sA h 4 (kRev (kI h 4) n)) 0 5 = nI n from hc]
    · rw [kif, if_neg (by rw [ka_le (by omega) (by omega)]; exact hi)]
      have e1 : (nI n - 1) - nI i = nI (n - 1 - i) := by rw [ka_pred (by omega), ka_sub (by omega)]
      have U : kSm (sA h 4 (kMir (kI h 4) n i)) := T.fr (kAg.A h 4 _) (fun a k q z => by omega)
      have U1 : ∀ v, kSm (sI (sA h 4 (kMir (kI h 4) n i)) 4 i v) := fun v => U.fr (kAg.I _ 4 i v) (fun a k q z => by omega)
      have q1 : ∀ v, kI (sI (sA h 4 (kMir (kI h 4) n i)) 4 i v) 0 5 = nI n := fun _ => hc
      have q3 : ∀ k, kI (sA h 4 (kMir (kI h 4) n i)) 4 k = kMir (kI h 4) n i k := fun _ => rfl
      rw [gN_k U.d0 U.r6, gAI_k U.d4 (by rw [U.n4]; omega) (by omega), gN_k U.d0 U.r6, gN_k U.d0 U.r6, gI_k U.d0, hc', e1, gAI_k U.d4 (by rw [U.n4]; omega) (by omega), pAI_k U.d4 (by rw [U.n4]; omega) (by omega)]
      rw [gN_k (U1 _).d0 (U1 _).r6, gI_k (U1 _).d0, q1, e1, pAI_k (U1 _).d4 (by rw [(U1 _).n4]; omega) (by omega), q3, q3]
      rw [sI_in, sI_in, nI_1]
      have e := ih (i + 1) (by omega) (by omega)
      rw [← kMir_step _ _ _ (by omega)] at e
      exact e
end KMIRROR
theorem pn_mirror : PN RR (f_X9_mirror 0) (f_X10_mirror 0) := by
  intro j hx hm hj R
  have S := R.1.1
  have T := R.1.2
  obtain ⟨n, hn, e1, e2, e3⟩ := R.2.2.2.2.2.2.1
  refine ⟨nI n, sA (sX hx 0) 23 (kRev (kI hx 23) n), sA (sI hm 0 35 0) 4 (kRev (kI hm 4) n), ?_, ?_, ?_⟩
  · show f_X9_mirror 0 (sX hx 0) = kret (nI n) _
    unfold f_X9_mirror
    simp only [gN, kmay, kcallV, kd_sX, kR_sX, S.d0, S.r0_2, S.d22, if_true]
    rw [t0_turn (S.X 0).d22 (S.X 0).r22_0 (S.X 0).d23 (S.X 0).n23 e1 hn, kb_ret]
    simp only [gI, kd_sA, kR_sA, kd_sX, kR_sX, S.d0, S.r0_2, S.d22, if_true]
    rw [show kI (sA (sX hx 0) 23 (kRev (kI (sX hx 0) 23) n)) 22 1 = nI n from e1]
    rfl
  · show f_X10_mirror 0 hm = kret (nI n) _
    unfold f_X10_mirror pI
    rw [if_pos T.d0]
    have e := tm_mirL (T.thr 0) e2 hn kF 0 (by omega) (by unfold kF; omega)
    rw [kMir_0, sA_self] at e
    exact e
  · have R1 := ((R.X 0).thr 0).up
    have ag := kAg.A (sX hx 0) 23 (kRev (kI hx 23) n)
    have am := kAg.A (sI hm 0 35 0) 4 (kRev (kI hm 4) n)
    have hP := R1.P
    obtain ⟨⟨sx, sm⟩, c1, c2, c3, c4, c5, c6, c7, c8, c9, c10, c11, c12, c13, c14, c15, c16⟩ := R1
    refine ⟨⟨sx.fr ag ?_, sm.fr am ?_⟩, c1.fr ag am ?_ ?_, c2.fr ag am ?_ ?_, c3.fr ag am ?_ ?_, c4.fr ag am ?_ ?_, c5.fr ag am ?_ ?_, ?_, c7.fr ag am ?_ ?_, c8.fr ag am ?_ ?_, c9.fr ag am ?_ ?_, c10.fr hP ag am ?_ ?_, c11.fr ag am ?_ ?_, c12.fr hP ag am ?_ ?_, c13.fr ag am ?_ ?_, c14.fr ag am ?_ ?_, c15.fr ag am ?_ ?_, c16.fr (fun _ h => h) am ?_ (Nat.le_refl _)⟩
    all_goals first
      | (intro a k h1 h2; omega)
      | skip
    refine ⟨n, hn, e1, e2, fun k hk => ?_⟩
    show ∃ u, u < 15 ∧ kRev (kI hx 23) n k = nI u ∧ kRev (kI hm 4) n k = nI u
    unfold kRev
    rw [if_pos hk, if_pos hk]
    exact e3 _ (by omega)
end
section
/-! charAt -/
def kChr (x : Int32) (half : Int32) : Int32 := if x = 14 then 63 else if kLen x = 1 then 65 + x else if half = 0 then 55357 else (56976 + x) - 10
theorem t0_chr (x half : Int32) (h : KH) : f_X7_charNumberOf x half h = kret (kChr x half) h := by
  unfold f_X7_charNumberOf kChr kif
  by_cases h1 : x = 14
  · rw [if_pos h1, if_pos h1]
  · rw [if_neg h1, if_neg h1, t0_isPair, kb_ret]
    unfold kLen
    by_cases h2 : x < 10
    · rw [if_pos h2, if_pos h2, if_pos rfl, if_pos rfl]
    · rw [if_neg h2, if_neg h2]
      by_cases h3 : 14 ≤ x
      · rw [if_pos h3, if_pos h3, if_pos rfl, if_pos rfl]
      · rw [if_neg h3, if_neg h3, if_neg (show ¬ ((1 : Int32) = 0) by decide), if_neg (show ¬ ((2 : Int32) = 1) by decide)]
        by_cases h4 : half = 0
        · rw [if_pos h4, if_pos h4]
          rfl
        · rw [if_neg h4, if_neg h4]
          rfl
theorem kLen_nat (x : Int32) : ∃ l, (l = 1 ∨ l = 2) ∧ kLen x = nI l := by
  rcases kLen_2 x with h | h
  · exact ⟨2, Or.inr rfl, h⟩
  · exact ⟨1, Or.inl rfl, h⟩
/-- the sign and the half that a place falls on -/
def kAtc (g : Nat → Int32) (n A : Nat) : Nat → Nat → Nat → Option Int32
  | 0, _, _ => none
  | f + 1, i, c => if n ≤ i then none else if A < c then none else if c + (kLen (g i)).toNatClampNeg ≤ A then kAtc g n A f (i + 1) (c + (kLen (g i)).toNatClampNeg) else some (kChr (g i) (nI (A - c)))
section KCHAR
variable {h : KH} {t s n : Nat}
theorem t0_atL {A : Nat} (hk : kd h t = 8) (hs : kR h t 0 = some s) (hsk : kd h s = 21) (hsn : kn h s = 6) (hc : kI h t 1 = nI n) (hn : n ≤ 6) (hA : A < 2147483648) : ∀ (f i c : Nat), i ≤ n → n < i + f → c ≤ 2 * i → X7_charNumberAt_L4 f t (nI A) (nI c) (nI i) h = kret ((kAtc (kI h s) n A f i c).getD (-1)) h := by
  intro f
  induction f with
  | zero => intro i c h1 h2; omega
  | succ f ih =>
    intro i c h1 h2 h3
    unfold X7_charNumberAt_L4 X7_charNumberAt_b4 kAtc
    rw [gI_k hk, hc]
    by_cases hi : n ≤ i
    · rw [kif, if_pos (by rw [ka_le (by omega) (by omega)]; exact hi), if_pos hi]
      rfl
    · rw [kif, if_neg (by rw [ka_le (by omega) (by omega)]; exact hi), if_neg hi]
      by_cases ha : A < c
      · rw [kif, if_pos (by rw [ka_lt (by omega) (by omega)]; exact ha), if_pos ha]
        rfl
      · rw [kif, if_neg (by rw [ka_lt (by omega) (by omega)]; exact ha), if_neg ha, gN_k hk hs, gAI_k hsk (by omega) (by omega), t0_charsOf, kb_ret]
        obtain ⟨l, hl, el⟩ := kLen_nat (kI h s i)
        rw [el, ka_add, nI_clamp (by omega)]
        by_cases hcl : c + l ≤ A
        · rw [kif, if_pos (by rw [ka_le (by omega) (by omega)]; exact hcl), if_pos hcl, nI_1]
          exact ih (i + 1) (c + l) (by omega) (by omega) (by omega)
        · rw [kif, if_neg (by rw [ka_le (by omega) (by omega)]; exact hcl), if_neg hcl, gN_k hk hs, gAI_k hsk (by omega) (by omega), t0_chr, kb_ret, ka_sub (by omega)]
          rfl
end KCHAR
end
section
/-! charAt: the model's half -/
theorem kretC_k (y : Int32) (h : KH) (hy : ((((y.toUInt32 % 65536).toInt32).toUInt32 % 65536).toInt32) = (y.toUInt32 % 65536).toInt32) : kretC ((y.toUInt32 % 65536).toInt32) h = kret ((y.toUInt32 % 65536).toInt32) h := if_pos hy
theorem kChr_ok : ∀ v, v < 15 → ∀ l, l < 2 → ((((kChr (nI v) (nI l)).toUInt32 % 65536).toInt32).toUInt32 % 65536).toInt32 = ((kChr (nI v) (nI l)).toUInt32 % 65536).toInt32 ∧ ¬ kChr (nI v) (nI l) = -1 := by decide +kernel
theorem kChr_m : ∀ v, v < 15 → ∀ l, l < 2 → kChr (nI v) (nI l) = if nI v = 14 then 63 else if 10 ≤ nI v then (if nI l = 0 then 55357 else (56976 + nI v) - 10) else 65 + nI v := by decide +kernel
theorem kLen_v : ∀ v, v < 15 → kLen (nI v) = nI (if v < 10 then 1 else if 14 ≤ v then 1 else 2) := by decide +kernel
section KCHARM
variable {h : KH} {n : Nat}
/-- the answer's char -/
def kC16 (y : Int32) : Int32 := (y.toUInt32 % 65536).toInt32
theorem tm_atL {A : Nat} (T : kSm h) (hc : kI h 0 5 = nI n) (hn : n ≤ 6) (hg : ∀ k, k < n → ∃ v, v < 15 ∧ kI h 4 k = nI v) (hA : A < 2147483648) : ∀ (f i c : Nat), i ≤ n → n < i + f → c ≤ 2 * i → c ≤ A → X10_charAt_L4 f 0 (nI A) (nI (A - c)) (nI i) h = (match kAtc (kI h 4) n A f i c with
    | none => kret 97 (sI h 0 35 1)
    | some y => kret (kC16 y) (sI h 0 35 0)) := by
  intro f
  induction f with
  | zero => intro i c h1 h2; omega
  | succ f ih =>
    intro i c h1 h2 h3 h4
    unfold X10_charAt_L4 X10_charAt_b4 kAtc
    rw [gI_k T.d0, hc]
    by_cases hi : n ≤ i
    · rw [kif, if_pos (by rw [ka_le (by omega) (by omega)]; exact hi), if_pos hi]
      unfold X10_charAt_b107
      rw [pI_k T.d0]
      rfl
    · rw [kif, if_neg (by rw [ka_le (by omega) (by omega)]; exact hi), if_neg hi, kif, if_neg (nI_pos hA), if_neg (by omega), gN_k T.d0 T.r6, gAI_k T.d4 (by rw [T.n4]; omega) (by omega), tm_isPair, kb_ret]
      obtain ⟨v, hv, ev⟩ := hg i (by omega)
      obtain ⟨l, hl, el⟩ := kLen_nat (kI h 4 i)
      have key : kif ((if kLen (kI h 4 i) = 2 then (1 : Int32) else 0) = 0) (X10_charAt_b37 (X10_charAt_L4 f) 0 (nI A) (nI (A - c)) (nI i) (kI h 4 i) 1 h) (X10_charAt_b37 (X10_charAt_L4 f) 0 (nI A) (nI (A - c)) (nI i) (kI h 4 i) 2 h) = X10_charAt_b37 (X10_charAt_L4 f) 0 (nI A) (nI (A - c)) (nI i) (kI h 4 i) (nI l) h := by
        rw [el]
        rcases hl with rfl | rfl
        · rfl
        · rfl
      rw [key, el, nI_clamp (by omega)]
      unfold X10_charAt_b37
      by_cases hcl : c + l ≤ A
      · rw [kif, if_pos (by rw [ka_le (by omega) (by omega)]; omega), if_pos hcl, ka_sub (by omega), nI_1, show A - c - l = A - (c + l) by omega]
        exact ih (i + 1) (c + l) (by omega) (by omega) (by omega) (by omega)
      · rw [kif, if_neg (by rw [ka_le (by omega) (by omega)]; omega), if_neg hcl, pI_k T.d0, ev]
        have hlt : A - c < 2 := by omega
        obtain ⟨k1, -⟩ := kChr_ok v hv (A - c) hlt
        refine Eq.trans ?_ (kretC_k (kChr (nI v) (nI (A - c))) (sI h 0 35 0) k1)
        rw [kChr_m v hv _ hlt]
        unfold kif X10_charAt_b94
        split
        · rfl
        · split
          · split <;> rfl
          · rfl
end KCHARM
end
section
theorem kAtc_cg {g g' : Nat → Int32} {n A : Nat} (e : ∀ k, k < n → g k = g' k) : ∀ (f i c : Nat), kAtc g n A f i c = kAtc g' n A f i c := by
  intro f
  induction f with
  | zero => intro i c; rfl
  | succ f ih =>
    intro i c
    unfold kAtc
    by_cases hi : n ≤ i
    · rw [if_pos hi, if_pos hi]
    · rw [if_neg hi, if_neg hi, e i (by omega), ih]
theorem kAtc_some {g : Nat → Int32} {n A : Nat} (hg : ∀ k, k < n → ∃ v, v < 15 ∧ g k = nI v) : ∀ (f i c : Nat) (y : Int32), kAtc g n A f i c = some y → ∃ v l, v < 15 ∧ l < 2 ∧ y = kChr (nI v) (nI l) := by
  intro f
  induction f with
  | zero => intro i c y h; cases h
  | succ f ih =>
    intro i c y h
    unfold kAtc at h
    split at h
    · cases h
    · split at h
      · cases h
      · split at h
        · exact ih _ _ y h
        · rename_i h1 h2 h3
          obtain ⟨v, hv, ev⟩ := hg i (by omega)
          obtain ⟨l, hl, el⟩ := kLen_nat (g i)
          rw [el, nI_clamp (by omega)] at h3
          cases h
          exact ⟨v, A - c, hv, by omega, by rw [ev]⟩
theorem o_charAt : OPI (fun a b c h => f_X9_charAt 0 a h) (fun a b c h => f_X10_charAt 0 a h) (mp1 4) := by
  intro j hx hm a b c hj R
  have S := R.1.1.X 0
  have T := R.1.2
  obtain ⟨n, hn, e1, e2, e3⟩ := R.2.2.2.2.2.2.1
  have hgm : ∀ k, k < n → ∃ v, v < 15 ∧ kI hm 4 k = nI v := fun k hk => by obtain ⟨v, h1, -, h3⟩ := e3 k hk; exact ⟨v, h1, h3⟩
  have hee : ∀ k, k < n → kI (sX hx 0) 23 k = kI hm 4 k := fun k hk => by obtain ⟨v, -, h2, h3⟩ := e3 k hk; exact h2.trans h3.symm
  have start : ∀ z, f_X7_charNumberAt 22 a (sX hx 0) = kret z (sX hx 0) → f_X9_charAt 0 a (sX hx 0) = kif (z = -1) (kthrow 4 (sX hx 0)) (kretC ((z.toUInt32 % 65536).toInt32) (sX hx 0)) := fun z hz => by
    unfold f_X9_charAt
    rw [gN_k S.d0 S.r0_2, kcallV, if_pos S.d22, hz, kb_ret]
  by_cases h0 : a < 0
  · refine op_no R 4 1 97 rfl (by decide) ?_ ?_
    · show f_X9_charAt 0 a (sX hx 0) = _
      rw [start (-1) (by
        unfold f_X7_charNumberAt kF
        unfold X7_charNumberAt_L4 X7_charNumberAt_b4 X7_charNumberAt_b57
        rw [gI_k S.d22, show kI (sX hx 0) 22 1 = nI n from e1, kif, kif, if_pos h0]
        split <;> rfl)]
      rfl
    · show f_X10_charAt 0 a hm = _
      unfold f_X10_charAt kF
      unfold X10_charAt_L4 X10_charAt_b4 X10_charAt_b107
      rw [gI_k T.d0, e2, kif, kif, if_pos h0, pI_k T.d0]
      split <;> rfl
  · obtain ⟨A, hA, rfl⟩ : ∃ A, A < 2147483648 ∧ a = nI A := by
      rw [Int32.lt_iff_toInt_lt, show (0 : Int32).toInt = 0 from by decide] at h0
      have := a.toInt_lt
      refine ⟨a.toInt.toNat, by omega, ?_⟩
      rw [← Int32.toInt_inj, nI_toInt (by omega)]
      omega
    have x1 := t0_atL S.d22 S.r22_0 S.d23 S.n23 (show kI (sX hx 0) 22 1 = nI n from e1) hn hA kF 0 0 (by omega) (by unfold kF; omega) (by omega)
    have m1 := tm_atL T e2 hn hgm hA kF 0 0 (by omega) (by unfold kF; omega) (by omega) (by omega)
    rw [kAtc_cg hee] at x1
    cases hq : kAtc (kI hm 4) n A kF 0 0 with
    | none =>
      rw [hq] at x1 m1
      exact op_no R 4 1 97 rfl (by decide) ((start _ x1).trans rfl) m1
    | some y =>
      rw [hq] at x1 m1
      obtain ⟨v, l, hv, hl, rfl⟩ := kAtc_some hgm _ _ _ _ hq
      obtain ⟨k1, k2⟩ := kChr_ok v hv l hl
      refine op_rd R (kC16 (kChr (nI v) (nI l))) ?_ m1
      refine (start _ x1).trans ?_
      rw [Option.getD_some, kif, if_neg k2]
      exact kretC_k _ _ k1
end
section
/-! plates by number; who holds a plate -/
theorem gR_k {α : Type} {h : KH} {a c k : Nat} {f : Option Nat → KO α} (h1 : kd h a = c) : gR h a c k f = f (kR h a k) := if_pos h1
theorem pR_k {α : Type} {h : KH} {a c k : Nat} {v : Option Nat} {f : KH → KO α} (h1 : kd h a = c) : pR h a c k v f = f (sR h a k v) := if_pos h1
theorem gAN_k {α : Type} {h : KH} {a c i b : Nat} {f : Nat → KO α} (h1 : kd h a = c) (h2 : i < kn h a) (h3 : i < 2147483648) (h4 : kR h a i = some b) : gAN h a c (nI i) f = f b := by
  unfold gAN
  rw [nI_clamp h3, if_pos ⟨h1, by rintro (q | q); exact nI_pos h3 q; omega⟩, h4]
  rfl
theorem kV_k {α β : Type} {h : KH} {c b : Nat} {x : KO α} {k : α → KH → KO β} (h1 : kd h b = c) : kcallV c b h x k = kbind x k := if_pos h1
theorem kif_t {α : Type} {c : Prop} [Decidable c] {x y : KO α} (h : c) : kif c x y = x := if_pos h
theorem kif_f {α : Type} {c : Prop} [Decidable c] {x y : KO α} (h : ¬ c) : kif c x y = y := if_neg h
theorem ka_below (b : Int32) (n : Nat) (hn : n < 1073741824) : (∃ p, p < n ∧ b = nI p ∧ ¬ b < 0 ∧ ¬ (nI n - 1) < b) ∨ (b < 0 ∨ (nI n - 1) < b) := by
  by_cases h0 : b < 0
  · exact Or.inr (Or.inl h0)
  · have hb0 : (0 : Int) ≤ b.toInt := by
      rw [Int32.lt_iff_toInt_lt, show (0 : Int32).toInt = 0 from by decide] at h0
      omega
    have hm1 : (nI n - 1).toInt = (n : Int) - 1 := by
      by_cases hn0 : n = 0
      · subst hn0
        decide
      · rw [ka_pred (by omega), nI_toInt (by omega)]
        omega
    by_cases hlt : b.toInt < n
    · left
      refine ⟨b.toInt.toNat, by omega, ?_, h0, ?_⟩
      · rw [← Int32.toInt_inj, nI_toInt (by omega)]
        omega
      · rw [Int32.lt_iff_toInt_lt, hm1]
        omega
    · right
      right
      rw [Int32.lt_iff_toInt_lt, hm1]
      omega
theorem knul_s {α β : Type} (a : α) (x : KO β) (k : α → KO β) : knul (some a) x k = k a := rfl
theorem knul_n {α β : Type} (x : KO β) (k : α → KO β) : knul none x k = x := rfl
section KPLATE
variable {j : Nat} {hx hm : KH}
/-- the number of plates; the class's and the model's -/
theorem RR.cnt (R : RR j hx hm) : kI hx 0 13 = nI (mn hm 0 8) ∧ kI hm 0 8 = nI (mn hm 0 8) ∧ mn hm 0 8 ≤ 10 := by
  obtain ⟨⟨P, hP, e1, e2⟩, -⟩ := R.2.2.2.2.2.2.2.2.1
  have e : mn hm 0 8 = P := by unfold mn; rw [e2, nI_clamp (by omega)]
  rw [e]
  exact ⟨e1, e2, hP⟩
theorem RR.pl (R : RR j hx hm) {p : Nat} (hp : p < mn hm 0 8) : cPl1 hx hm p := R.2.2.2.2.2.2.2.2.1.2.1 p hp
theorem RR.plate (R : RR j hx hm) {p : Nat} (hp : p < mn hm 0 8) (h1 : ¬ nI p < 0) (h2 : ¬ (nI (mn hm 0 8) - 1) < nI p) : f_X9_plateNumbered 0 (nI p) hx = kret (100 + 8 * p) hx := by
  have S := R.1.1
  obtain ⟨e1, -, e3⟩ := R.cnt
  obtain ⟨-, ⟨d1, -⟩, -⟩ := R.pl hp
  unfold f_X9_plateNumbered
  rw [gI_k S.d0, e1, wi_t h1 h2, kb_ret, kif_f (by decide), gN_k S.d0 S.r0_4, gAN_k S.d26 (by rw [S.n26]; omega) (by omega) d1]
theorem RR.plateNo (R : RR j hx hm) {b : Int32} (h : b < 0 ∨ (nI (mn hm 0 8) - 1) < b) : f_X9_plateNumbered 0 b hx = kthrow 3 hx := by
  have S := R.1.1
  obtain ⟨e1, -, -⟩ := R.cnt
  unfold f_X9_plateNumbered
  rw [gI_k S.d0, e1, wi_f h, kb_ret, kif_t rfl]
theorem RR.isPlate (R : RR j hx hm) {p : Nat} (h1 : ¬ nI p < 0) (h2 : ¬ (nI (mn hm 0 8) - 1) < nI p) : f_X10_isPlate 0 (nI p) hm = kret 1 hm := by
  obtain ⟨-, e2, -⟩ := R.cnt
  unfold f_X10_isPlate
  rw [gI_k R.1.2.d0, e2, in_t h1 h2, kb_ret]
  rfl
theorem RR.isPlateNo (R : RR j hx hm) {b : Int32} (h : b < 0 ∨ (nI (mn hm 0 8) - 1) < b) : f_X10_isPlate 0 b hm = kret 0 hm := by
  obtain ⟨-, e2, -⟩ := R.cnt
  unfold f_X10_isPlate
  rw [gI_k R.1.2.d0, e2, in_f h, kb_ret]
  rfl
end KPLATE
section KHOLD
variable {h : KH} {n p m : Nat}
theorem tm_holdL (T : kSm h) (hc : kI h 0 12 = nI n) (hn : n ≤ 700) (hh : ∀ k, k < n → (∃ q, q < 10 ∧ kI h 9 k = nI q) ∧ ∃ s, s ≤ 50000 ∧ kI h 11 k = nI s) (hp : p < 10) (hm : m < 2147483648) : ∀ (f i : Nat), i ≤ n → n < i + f → X10_holderAt_L5 f 0 (nI p) (nI m) (sHold h p m i) (nI i) h = kret (sHold h p m n) h := by
  intro f
  induction f with
  | zero => intro i h1 h2; omega
  | succ f ih =>
    intro i h1 h2
    unfold X10_holderAt_L5 X10_holderAt_b5
    rw [gI_k T.d0, hc]
    by_cases hi : n ≤ i
    · rw [kif_t (by rw [ka_le (by omega) (by omega)]; exact hi), show i = n by omega]
    · rw [kif_f (by rw [ka_le (by omega) (by omega)]; exact hi), gN_k T.d0 T.r13, gAI_k T.d9 (by rw [T.n9]; omega) (by omega)]
      obtain ⟨⟨q, hq, eq⟩, s, hs, es⟩ := hh i (by omega)
      have e := ih (i + 1) (by omega) (by omega)
      rw [← nI_1] at e
      have hmq : mn h 9 i = q := by unfold mn; rw [eq, nI_clamp (by omega)]
      have hms : mn h 11 i = s := by unfold mn; rw [es, nI_clamp (by omega)]
      have hstep : sHold h p m (i + 1) = if q = p ∧ s ≤ m then kI h 10 i else sHold h p m i := by
        show (if _ then _ else _) = _
        rw [hmq, hms]
      rw [eq]
      by_cases h3 : q = p
      · rw [kif_t (by rw [h3]), gN_k T.d0 T.r15, gAI_k T.d11 (by rw [T.n11]; omega) (by omega), es]
        by_cases h4 : m < s
        · rw [kif_t (by rw [ka_lt (by omega) (by omega)]; exact h4)]
          rw [hstep, if_neg (by omega)] at e
          exact e
        · rw [kif_f (by rw [ka_lt (by omega) (by omega)]; exact h4), gN_k T.d0 T.r14, gAI_k T.d10 (by rw [T.n10]; omega) (by omega)]
          rw [hstep, if_pos ⟨h3, by omega⟩] at e
          exact e
      · rw [kif_f (by rw [ka_eq (by omega) (by omega)]; exact h3)]
        rw [hstep, if_neg (by omega)] at e
        exact e
theorem tm_holderAt (T : kSm h) (hc : kI h 0 12 = nI n) (hn : n ≤ 700) (hh : ∀ k, k < n → (∃ q, q < 10 ∧ kI h 9 k = nI q) ∧ ∃ s, s ≤ 50000 ∧ kI h 11 k = nI s) (hp : p < 10) (hm : m < 2147483648) : f_X10_holderAt 0 (nI p) (nI m) h = kret (sHold h p m n) h :=
  tm_holdL T hc hn hh hp hm kF 0 (by omega) (by unfold kF; omega)
theorem t0_drv (hm : m < 2147483648) : ∀ (n : Nat) (o : Option Nat), xChn h n o → ∀ f, n < f → X4_driverIn_L5 f (nI m) o h = kret (xDrv h m n o) h := by
  intro n
  induction n with
  | zero =>
    intro o c f hf
    obtain rfl : o = none := c
    obtain ⟨f, rfl⟩ : ∃ g, f = g + 1 := ⟨f - 1, by omega⟩
    rfl
  | succ n ih =>
    intro o c f hf
    obtain ⟨f, rfl⟩ : ∃ g, f = g + 1 := ⟨f - 1, by omega⟩
    cases o with
    | none => rfl
    | some a =>
      obtain ⟨c1, c2, ⟨s, hs, es⟩, c4, c5⟩ := c
      unfold X4_driverIn_L5 X4_driverIn_b5 xDrv
      rw [knul_s]
      have hms : mn h a 1 = s := by unfold mn; rw [es, nI_clamp (by omega)]
      rw [gI_k c1, es, hms]
      by_cases h4 : m < s
      · rw [kif_t (by rw [ka_lt (by omega) (by omega)]; exact h4), gR_k c1, if_neg (by omega)]
        exact ih _ c5 f (by omega)
      · rw [kif_f (by rw [ka_lt (by omega) (by omega)]; exact h4), gI_k c1, if_pos (by omega)]
end KHOLD
end
section
section KH2
variable {j : Nat} {hx hm : KH}
theorem RR.min (R : RR j hx hm) : kI hx 0 12 = nI (mn hm 0 0) ∧ kI hm 0 0 = nI (mn hm 0 0) ∧ mn hm 0 0 ≤ 50000 := by
  obtain ⟨P, hP, e1, e2⟩ := R.2.1
  have e : mn hm 0 0 = P := by unfold mn; rw [e2, nI_clamp (by omega)]
  rw [e]
  exact ⟨e1, e2, hP⟩
theorem RR.reqMin (R : RR j hx hm) {b : Int32} (h1 : ¬ b < 0) (h2 : ¬ nI (mn hm 0 0) < b) : f_X9_requireMinute 0 b hx = kret () hx := by
  unfold f_X9_requireMinute
  rw [gI_k R.1.1.d0, R.min.1, wi_t h1 h2, kb_ret, kif_f (by decide)]
theorem RR.reqMinNo (R : RR j hx hm) {b : Int32} (h : b < 0 ∨ nI (mn hm 0 0) < b) : f_X9_requireMinute 0 b hx = kthrow 1 hx := by
  unfold f_X9_requireMinute
  rw [gI_k R.1.1.d0, R.min.1, wi_f h, kb_ret, kif_t rfl]
theorem RR.holdN (R : RR j hx hm) : ∃ n, n ≤ j ∧ kI hm 0 12 = nI n ∧ (∀ k, k < n → (∃ q, q < 10 ∧ kI hm 9 k = nI q) ∧ ∃ s, s ≤ 50000 ∧ kI hm 11 k = nI s) ∧ ∀ p, p < mn hm 0 8 → ∀ m, m < 2147483648 → j < 512 → f_X4_driverIn (100 + 8 * p) (nI m) hx = kret (sHold hm p m n) hx := by
  obtain ⟨n, c1, c2, c3, c4⟩ := R.2.2.2.2.2.2.2.2.2.2.1
  have hP := R.P
  have hM := R.min.2.2
  refine ⟨n, c1, c2, fun k hk => ?_, fun p hp m hm1 hj => ?_⟩
  · obtain ⟨⟨q, hq, eq⟩, -, s, hs, es⟩ := c3 k hk
    exact ⟨⟨q, by omega, eq⟩, s, by omega, es⟩
  · obtain ⟨-, c6, c7⟩ := c4 p hp
    unfold f_X4_driverIn
    rw [gR_k (R.pl hp).1.1, t0_drv hm1 (j + 1) _ c6 kF (by unfold kF; omega), c7]
end KH2
theorem o_holder : OPI (fun a b c h => f_X9_holder 0 a b h) (fun a b c h => f_X10_holder 0 a b h) (mp2 3 1) := by
  intro j hx hm a b c hj R
  have S := R.1.1.X 0
  have T := R.1.2
  have RX := R.X 0
  have hP := R.P
  obtain ⟨-, eN, hN⟩ := R.min
  obtain ⟨n, hn, hc, hh, hd⟩ := RX.holdN
  rcases ka_below a (mn hm 0 8) (by omega) with ⟨p, hp, rfl, q1, q2⟩ | hq
  · rcases ka_rng b 0 (nI (mn hm 0 0)) 0 (mn hm 0 0) rfl rfl (by omega) (by decide) with ⟨m, m1, m2, rfl, q3, q4⟩ | hq3
    · refine op_rd R (sHold hm p m n) ?_ ?_
      · show f_X9_holder 0 (nI p) (nI m) (sX hx 0) = _
        unfold f_X9_holder
        rw [kV_k S.d0, RX.plate hp q1 q2, kb_ret, kV_k S.d0, RX.reqMin q3 q4, kb_ret, kV_k (RX.pl hp).1.1, hd p hp m (by omega) hj, kb_ret]
      · show f_X10_holder 0 (nI p) (nI m) hm = _
        unfold f_X10_holder
        rw [kV_k T.d0, R.isPlate q1 q2, kb_ret, kif_f (by decide), gI_k T.d0, eN, in_t q3 q4, kb_ret, kif_f (by decide)]
        unfold X10_holder_b30 X10_holder_b46
        rw [kV_k T.d0, can_0 T, kb_ret, kif_f (by decide), kV_k (T.thr 0).d0, tm_holderAt (T.thr 0) hc (by omega) hh (by omega) (by omega), kb_ret]
        rw [sHold_cg (h := hm) (h' := sI hm 0 35 0) (fun k => rfl) (fun k => rfl) (fun k => rfl)]
    · refine op_no R 1 2 0 rfl (by decide) ?_ ?_
      · show f_X9_holder 0 (nI p) b (sX hx 0) = _
        unfold f_X9_holder
        rw [kV_k S.d0, RX.plate hp q1 q2, kb_ret, kV_k S.d0, RX.reqMinNo hq3]
        rfl
      · show f_X10_holder 0 (nI p) b hm = _
        unfold f_X10_holder
        rw [kV_k T.d0, R.isPlate q1 q2, kb_ret, kif_f (by decide), gI_k T.d0, eN, in_f hq3, kb_ret, kif_t rfl]
        unfold X10_holder_b30 X10_holder_b46
        rw [kV_k T.d0, can_n T (show (2 : Int32) ≠ 0 by decide), kb_ret, kif_t rfl]
  · refine op_no R 3 1 0 rfl (by decide) ?_ ?_
    · show f_X9_holder 0 a b (sX hx 0) = _
      unfold f_X9_holder
      rw [kV_k S.d0, RX.plateNo hq]
      rfl
    · show f_X10_holder 0 a b hm = _
      unfold f_X10_holder
      rw [kV_k T.d0, R.isPlateNo hq, kb_ret, kif_t rfl]
      unfold X10_holder_b30 X10_holder_b46
      rw [kV_k T.d0, can_n T (show (1 : Int32) ≠ 0 by decide), kb_ret, kif_t rfl]
end
section
/-! sell: the model's half -/
def mHolds (h : KH) (p d m : Int32) (n : Nat) : KH := sI (sI (sI (sI h 9 n p) 10 n d) 11 n m) 0 12 (nI (n + 1))
theorem mHolds_ag (h : KH) (p d m : Int32) (n : Nat) : kAg (fun a k => (a = 9 ∨ a = 10 ∨ a = 11) ∧ k = n ∨ a = 0 ∧ k = 12) h (mHolds h p d m n) :=
  (((kAg.I h 9 n p).trans (F := fun a k => (a = 9 ∨ a = 10 ∨ a = 11) ∧ k = n ∨ a = 0 ∧ k = 12) (kAg.I _ 10 n d) (fun i k q z => by omega) (fun i k q z => by omega)).trans (F := fun a k => (a = 9 ∨ a = 10 ∨ a = 11) ∧ k = n ∨ a = 0 ∧ k = 12) (kAg.I _ 11 n m) (fun i k q z => q z) (fun i k q z => by omega)).trans (kAg.I _ 0 12 _) (fun i k q z => q z) (fun i k q z => by omega)
theorem tm_holds {h : KH} {n : Nat} {p d m : Int32} (T : kSm h) (hc : kI h 0 12 = nI n) (h0 : kI h 0 0 = m) (hn : n < 700) : f_X10_holds 0 p d h = kret () (mHolds h p d m n) := by
  have T1 : kSm (sI h 9 n p) := T.fr (kAg.I h 9 n p) (fun a k q z => by omega)
  have T2 : kSm (sI (sI h 9 n p) 10 n d) := T1.fr (kAg.I _ 10 n d) (fun a k q z => by omega)
  have T3 : kSm (sI (sI (sI h 9 n p) 10 n d) 11 n m) := T2.fr (kAg.I _ 11 n m) (fun a k q z => by omega)
  unfold f_X10_holds
  rw [gN_k T.d0 T.r13, gI_k T.d0, hc, pAI_k T.d9 (by rw [T.n9]; exact hn) (by omega)]
  rw [gN_k T1.d0 T1.r14, gI_k T1.d0, show kI (sI h 9 n p) 0 12 = nI n from hc, pAI_k T1.d10 (by rw [T1.n10]; exact hn) (by omega)]
  rw [gN_k T2.d0 T2.r15, gI_k T2.d0, show kI (sI (sI h 9 n p) 10 n d) 0 12 = nI n from hc, gI_k T2.d0, show kI (sI (sI h 9 n p) 10 n d) 0 0 = m from h0, pAI_k T2.d11 (by rw [T2.n11]; exact hn) (by omega)]
  rw [gI_k T3.d0, show kI (sI (sI (sI h 9 n p) 10 n d) 11 n m) 0 12 = nI n from hc, pI_k T3.d0, nI_1]
  rfl
theorem sHold_late {h : KH} {p m M : Nat} : ∀ (n : Nat), (∀ k, k < n → mn h 11 k ≤ m) → m ≤ M → sHold h p M n = sHold h p m n := by
  intro n
  induction n with
  | zero => intro _ _; rfl
  | succ n ih =>
    intro hs hM
    have h1 := hs n (by omega)
    unfold sHold
    rw [ih (fun k hk => hs k (by omega)) hM]
    by_cases hq : mn h 9 n = p
    · rw [if_pos ⟨hq, by omega⟩, if_pos ⟨hq, h1⟩]
    · rw [if_neg (fun z => hq z.1), if_neg (fun z => hq z.1)]
end
section
/-! sell: the class's half -/
theorem nw_k {α : Type} {h : KH} {c n : Nat} {f : Nat → KH → KO α} (h1 : kd h (kx h) = 0) : nw h c n f = f (kx h) (al h c n) := if_pos h1
theorem kmay_s {α β : Type} (a : α) (k : α → KO β) : kmay (some a) k = k a := rfl
def xSell (h : KH) (pl : Nat) (d m : Int32) (b : Option Nat) : KH := sR (sR (sI (sI (al h 2 0) (kx h) 0 d) (kx h) 1 m) (kx h) 2 b) pl 4 (some (kx h))
theorem t0_sellB {h : KH} {pl : Nat} {d m : Int32} {b : Option Nat} (h1 : kd h pl = 5) (hf : kd h (kx h) = 0) : X4_sellTo_b25 pl d m b h = kret () (xSell h pl d m b) := by
  have hk : kd (al h 2 0) (kx h) = 2 := by rw [kd_al, if_pos rfl]
  have hp : kd (al h 2 0) pl = 5 := by
    rw [kd_al, if_neg (fun e => by rw [e, hf] at h1; cases h1)]
    exact h1
  unfold X4_sellTo_b25 f_X1_init
  rw [nw_k hf, pI_k hk, pI_k (show kd (sI (al h 2 0) (kx h) 0 d) (kx h) = 2 from hk), pR_k (show kd (sI (sI (al h 2 0) (kx h) 0 d) (kx h) 1 m) (kx h) = 2 from hk), ki_ret, pR_k (show kd (sR (sI (sI (al h 2 0) (kx h) 0 d) (kx h) 1 m) (kx h) 2 b) pl = 5 from hp)]
  rfl
theorem t0_sellTo {h : KH} {pl a s m : Nat} {d : Int32} (h1 : kd h pl = 5) (h2 : kR h pl 4 = some a) (h3 : kd h a = 2) (h4 : kI h a 1 = nI s) (hs : s < 2147483648) (hm : m < 2147483648) (hf : kd h (kx h) = 0) : f_X4_sellTo pl d (nI m) h = kret () (xSell h pl d (nI m) (if s = m then kR h a 2 else some a)) := by
  unfold f_X4_sellTo
  rw [gR_k h1, h2, kmay_s, gI_k h3, h4]
  by_cases hq : s = m
  · rw [kif_t (by rw [hq]), gR_k h1, h2, kmay_s, gR_k h3, t0_sellB h1 hf, if_pos hq]
  · rw [kif_f (by rw [ka_eq hs hm]; exact hq), gR_k h1, h2, t0_sellB h1 hf, if_neg hq]
theorem xSell_ag {h : KH} {pl : Nat} {d m : Int32} {b : Option Nat} (hf : kd h (kx h) = 0) : kAg (fun a k => (a = kx h ∨ a = kx h + 1000000) ∨ a = pl ∧ k = 4) h (xSell h pl d m b) :=
  ((((kAg.al h 2 0 hf).trans (F := fun a _ => a = kx h ∨ a = kx h + 1000000) (kAg.I _ (kx h) 0 d) (fun i k q z => q z) (fun i k q z => q (Or.inl z.1))).trans (F := fun a _ => a = kx h ∨ a = kx h + 1000000) (kAg.I _ (kx h) 1 m) (fun i k q z => q z) (fun i k q z => q (Or.inl z.1))).trans (F := fun a _ => a = kx h ∨ a = kx h + 1000000) (kAg.R _ (kx h) 2 b) (fun i k q z => q z) (fun i k q z => q (Or.inl z.1))).trans (kAg.R _ pl 4 _) (fun i k q z => q (Or.inl z)) (fun i k q z => q (Or.inr z))
end
section
theorem sHold_cgb {h h' : KH} {p m : Nat} : ∀ (n : Nat), (∀ k, k < n → kI h' 9 k = kI h 9 k ∧ kI h' 10 k = kI h 10 k ∧ kI h' 11 k = kI h 11 k) → sHold h' p m n = sHold h p m n := by
  intro n
  induction n with
  | zero => intro _; rfl
  | succ n ih =>
    intro e
    obtain ⟨e1, e2, e3⟩ := e n (by omega)
    unfold sHold
    rw [ih (fun k hk => e k (by omega)), mn_cg1 e1, mn_cg1 e3, e2]
theorem cHol.sell {j n p M d a s : Nat} {hx hm hx' hm' : KH} (c : cHol j hx hm) (hn : kI hm 0 12 = nI n) (hnb : n < 2147483648) (hp : p < mn hm 0 8) (hP : mn hm 0 8 ≤ 10) (hM : mn hm 0 0 = M) (hM2 : M ≤ 50000) (hd : d < 6) (hj : j < 512)
    (ha : kR hx (100 + 8 * p) 4 = some a) (hs : kI hx a 1 = nI s) (hs2 : s ≤ 50000) (hf : kd hx (1000 + j) = 0)
    (ag : kAg (fun i k => (i = 1000 + j ∨ i = 1000 + j + 1000000) ∨ i = 100 + 8 * p ∧ k = 4) hx hx') (n0 : kR hx' (100 + 8 * p) 4 = some (1000 + j)) (n1 : kd hx' (1000 + j) = 2) (n2 : kI hx' (1000 + j) 0 = nI d) (n3 : kI hx' (1000 + j) 1 = nI M) (n4 : kR hx' (1000 + j) 2 = if s = M then kR hx a 2 else some a)
    (m1 : kI hm' 0 12 = nI (n + 1)) (m2 : kI hm' 0 8 = kI hm 0 8) (m3 : kI hm' 0 0 = kI hm 0 0) (m4 : ∀ i k, (i = 9 ∨ i = 10 ∨ i = 11) → k ≠ n → kI hm' i k = kI hm i k) (m5 : kI hm' 9 n = nI p) (m6 : kI hm' 10 n = nI d) (m7 : kI hm' 11 n = nI M) : cHol (j + 1) hx' hm' := by
  obtain ⟨n', c1, c2, c3, c4⟩ := c
  have hnn : n' = n := by
    have h1 : nI n' = nI n := c2.symm.trans hn
    have h2 : n' < 2147483648 := by omega
    rw [ka_eq h2 hnb] at h1
    exact h1
  subst hnn
  have hch : ∀ (f : Nat) (o : Option Nat), xChn hx f o → xChn hx' f o ∧ ∀ m, xDrv hx' m f o = xDrv hx m f o := xDC_cg (fun b hb hd2 => by
    have hne : ¬ b = 1000 + j := fun e => by rw [e, hf] at hd2; cases hd2
    exact ⟨by rw [(ag.k b (by rw [hd2]; decide)).1]; exact hd2, fun k => (ag.1 b k (by omega)).1, fun k => (ag.1 b k (by omega)).2.2⟩)
  have hsh : ∀ q m, sHold hm' q m n' = sHold hm q m n' := fun q m => sHold_cgb n' (fun k hk => ⟨m4 9 k (by omega) (by omega), m4 10 k (by omega) (by omega), m4 11 k (by omega) (by omega)⟩)
  have hst : ∀ q m, sHold hm' q m (n' + 1) = if p = q ∧ M ≤ m then nI d else sHold hm q m n' := fun q m => by
    show (if _ then _ else _) = _
    rw [hsh, m6, show mn hm' 9 n' = p by unfold mn; rw [m5, nI_clamp (by omega)], show mn hm' 11 n' = M by unfold mn; rw [m7, nI_clamp (by omega)]]
  refine ⟨n' + 1, by omega, m1, fun k hk => ?_, fun q hq => ?_⟩
  · rw [mn_cg1 m2, mn_cg1 m3]
    by_cases hkn : k = n'
    · subst hkn
      exact ⟨⟨p, hp, m5⟩, ⟨d, hd, m6⟩, M, by omega, m7⟩
    · rw [m4 9 k (by omega) hkn, m4 10 k (by omega) hkn, m4 11 k (by omega) hkn]
      exact c3 k (by omega)
  · rw [mn_cg1 m2] at hq
    obtain ⟨c5, c6, c7⟩ := c4 q hq
    by_cases hqp : q = p
    · subst hqp
      rw [ha] at c6 c7
      have c6' := c6
      obtain ⟨d1, d2, -, d4, d5⟩ := c6'
      have hbef : xChn hx (j + 1) (if s = M then kR hx a 2 else some a) ∧ ∀ m, m < M → xDrv hx m (j + 1) (if s = M then kR hx a 2 else some a) = sHold hm q m n' := by
        by_cases hsM : s = M
        · rw [if_pos hsM]
          obtain ⟨i1, i2⟩ := xChn_mono _ _ d5
          refine ⟨i1, fun m hm1 => ?_⟩
          rw [i2, ← c7 m]
          show _ = (if _ then _ else _)
          rw [if_neg (by unfold mn; rw [hs, nI_clamp (by omega)]; omega)]
        · rw [if_neg hsM]
          exact ⟨c6, fun m _ => c7 m⟩
      obtain ⟨b1, b2⟩ := hbef
      obtain ⟨g1, g2⟩ := hch _ _ b1
      rw [n0]
      refine ⟨⟨_, rfl⟩, ⟨n1, by omega, ⟨M, hM2, n3⟩, ⟨d, hd, n2⟩, by rw [n4]; exact g1⟩, fun m => ?_⟩
      rw [hst]
      show (if _ then _ else _) = _
      rw [show mn hx' (1000 + j) 1 = M by unfold mn; rw [n3, nI_clamp (by omega)], n2, n4]
      by_cases hMm : M ≤ m
      · rw [if_pos hMm, if_pos ⟨rfl, hMm⟩]
      · rw [if_neg hMm, g2, b2 m (by omega), if_neg (fun z => hMm z.2)]
    · have eR : kR hx' (100 + 8 * q) 4 = kR hx (100 + 8 * q) 4 := (ag.1 (100 + 8 * q) 4 (by omega)).2.2
      obtain ⟨i1, i2⟩ := xChn_mono _ _ c6
      obtain ⟨g1, g2⟩ := hch _ _ i1
      rw [eR]
      refine ⟨c5, g1, fun m => ?_⟩
      rw [g2, i2, c7, hst, if_neg (fun z => hqp z.1.symm)]
end
section
/-! sell: both -/
theorem rdr_t {b : Int32} {h : KH} (h1 : ¬ b < 0) (h2 : ¬ 5 < b) : f_X9_requireDriver b h = kret () h := by
  unfold f_X9_requireDriver
  rw [wi_t h1 h2, kb_ret, kif_f (by decide)]
theorem rdr_f {b : Int32} {h : KH} (h1 : b < 0 ∨ 5 < b) : f_X9_requireDriver b h = kthrow 3 h := by
  unfold f_X9_requireDriver
  rw [wi_f h1, kb_ret, kif_t rfl]
theorem mdr_t {b : Int32} {h : KH} (h1 : ¬ b < 0) (h2 : ¬ 5 < b) : f_X10_isDriver b h = kret 1 h := by
  unfold f_X10_isDriver
  rw [in_t h1 h2, kb_ret]
  rfl
theorem mdr_f {b : Int32} {h : KH} (h1 : b < 0 ∨ 5 < b) : f_X10_isDriver b h = kret 0 h := by
  unfold f_X10_isDriver
  rw [in_f h1, kb_ret]
  rfl
theorem nI_inj {a b : Nat} (h : nI a = nI b) (ha : a < 2147483648) (hb : b < 2147483648) : a = b := by
  rw [ka_eq ha hb] at h
  exact h
theorem o_sell : OPN (fun j _ => 1000 + j) (fun a b c h => f_X9_sell 0 a b h) (fun a b c h => f_X10_sell 0 a b h) (mp1 3) := by
  intro j hx hm a b c hj R
  have T := R.1.2
  have hP := R.P
  obtain ⟨eX, eN, hN⟩ := R.min
  obtain ⟨n, hn, hc, hh, hd⟩ := R.holdN
  rcases ka_below a (mn hm 0 8) (by omega) with ⟨p, hp, rfl, q1, q2⟩ | hq
  · rcases ka_rng b 0 5 0 5 rfl rfl (by decide) (by decide) with ⟨d, d1, d2, rfl, q3, q4⟩ | hq3
    · have S := R.1.1.X (1000 + j)
      have RX := R.X (1000 + j)
      have RT := RX.thr 0
      have R1 := RT.up
      obtain ⟨n', hn', hc', hh', hd'⟩ := RT.2.2.2.2.2.2.2.2.2.2.1
      obtain rfl : n' = n := nI_inj (hc'.symm.trans hc) (by omega) (by omega)
      obtain ⟨⟨ad, ea⟩, ech, edr⟩ := hd' p hp
      rw [ea] at ech edr
      obtain ⟨k1, k2, ⟨s, hs, es⟩, ⟨dd, hdd, ed⟩, k5⟩ := ech
      have hfr : kd hx (1000 + j) = 0 := R.2.2.2.2.2.2.2.2.2.2.2.2.2.2.2.2 (1000 + j) (by omega)
      have hval : kI hx ad 0 = sHold hm p (mn hm 0 0) n' := by
        have e1 := edr 50000
        have e2 : xDrv (sX hx (1000 + j)) 50000 (j + 1) (some ad) = kI hx ad 0 := by
          show (if _ then _ else _) = _
          rw [if_pos (by unfold mn; rw [es, nI_clamp (by omega)]; exact hs)]
          rfl
        rw [e2] at e1
        rw [e1, sHold_cg (h := hm) (h' := sI hm 0 35 0) (fun k => rfl) (fun k => rfl) (fun k => rfl)]
        refine sHold_late (h := hm) (m := mn hm 0 0) (M := 50000) n' (fun k hk => ?_) hN
        obtain ⟨-, -, s', hs', es'⟩ := hh' k hk
        have es2 : kI hm 11 k = nI s' := es'
        unfold mn at hs' ⊢
        rw [es2, nI_clamp (by have : (kI hm 0 0).toNatClampNeg ≤ 50000 := hN; have h3 : s' ≤ (kI hm 0 0).toNatClampNeg := hs'; omega)]
        exact hs'
      have ag : kAg (fun a k => (a = 1000 + j ∨ a = 1000 + j + 1000000) ∨ a = 100 + 8 * p ∧ k = 4) (sX hx (1000 + j)) (xSell (sX hx (1000 + j)) (100 + 8 * p) (nI d) (nI (mn hm 0 0)) (if s = mn hm 0 0 then kR hx ad 2 else some ad)) := xSell_ag (h := sX hx (1000 + j)) (pl := 100 + 8 * p) (d := nI d) (m := nI (mn hm 0 0)) (b := if s = mn hm 0 0 then kR hx ad 2 else some ad) hfr
      have am := mHolds_ag (sI hm 0 35 0) (nI p) (nI d) (nI (mn hm 0 0)) n'
      refine op_ok (hx1 := xSell (sX hx (1000 + j)) (100 + 8 * p) (nI d) (nI (mn hm 0 0)) (if s = mn hm 0 0 then kR hx ad 2 else some ad)) (hm1 := mHolds (sI hm 0 35 0) (nI p) (nI d) (nI (mn hm 0 0)) n') (1000 + j) (sHold hm p (mn hm 0 0) n') ?_ ?_ (by rw [(am.1 0 35 (by omega)).1, kI_sI, if_pos ⟨rfl, rfl⟩]) ?_
      · show f_X9_sell 0 (nI p) (nI d) (sX hx (1000 + j)) = _
        unfold f_X9_sell
        rw [kV_k S.d0, RX.plate hp q1 q2, kb_ret, rdr_t q3 q4, kb_ret, gR_k (RX.pl hp).1.1, ea, kmay_s, gI_k k1, gI_k S.d0, kV_k (RX.pl hp).1.1]
        rw [show kI (sX hx (1000 + j)) 0 12 = nI (mn hm 0 0) from eX, t0_sellTo (h := sX hx (1000 + j)) (RX.pl hp).1.1 ea k1 es (by omega) (by omega) hfr, kb_ret]
        rw [← hval]
        rfl
      · show f_X10_sell 0 (nI p) (nI d) hm = _
        unfold f_X10_sell
        rw [kV_k T.d0, R.isPlate q1 q2, kb_ret, kif_f (by decide), mdr_t q3 q4, kb_ret, kif_f (by decide)]
        unfold X10_sell_b21
        rw [kV_k T.d0, can_0 T, kb_ret, kif_f (by decide), gI_k (T.thr 0).d0, show kI (sI hm 0 35 0) 0 0 = nI (mn hm 0 0) from eN, kV_k (T.thr 0).d0, tm_holderAt (T.thr 0) hc (by omega) hh (by omega) (by omega), kb_ret, kV_k (T.thr 0).d0, tm_holds (T.thr 0) hc eN (by omega), kb_ret]
        rw [sHold_cg (h := hm) (h' := sI hm 0 35 0) (fun k => rfl) (fun k => rfl) (fun k => rfl)]
      · have hfr0 : kd (sX hx (1000 + j)) (1000 + j) = 0 := hfr
        have hcell : cHol (j + 1) (xSell (sX hx (1000 + j)) (100 + 8 * p) (nI d) (nI (mn hm 0 0)) (if s = mn hm 0 0 then kR hx ad 2 else some ad)) (mHolds (sI hm 0 35 0) (nI p) (nI d) (nI (mn hm 0 0)) n') := by
          refine RT.2.2.2.2.2.2.2.2.2.2.1.sell (n := n') (p := p) (M := mn hm 0 0) (d := d) (a := ad) (s := s) hc' (by omega) hp hP rfl hN (by omega) hj ea es hs hfr0 ag ?_ ?_ ?_ ?_ ?_ ?_ ?_ ?_ ?_ ?_ ?_ ?_
          · show (if _ then _ else _) = _
            rw [if_pos ⟨rfl, rfl⟩]
            rfl
          · exact if_pos rfl
          · show (if _ then _ else _) = _
            rw [if_neg (by omega)]
            show (if _ then _ else _) = _
            rw [if_pos ⟨rfl, rfl⟩]
          · show (if _ then _ else _) = _
            rw [if_pos ⟨rfl, rfl⟩]
          · show (if _ then _ else _) = _
            rw [if_neg (by omega)]
            show (if _ then _ else _) = _
            rw [if_pos ⟨rfl, rfl⟩]
            rfl
          · unfold mHolds
            rw [kI_sI, if_pos ⟨rfl, rfl⟩]
          · exact (am.1 0 8 (by omega)).1
          · exact (am.1 0 0 (by omega)).1
          · exact fun i k hi hk => (am.1 i k (by omega)).1
          · unfold mHolds
            rw [kI_sI, if_neg (by omega), kI_sI, if_neg (by omega), kI_sI, if_neg (by omega), kI_sI, if_pos ⟨rfl, rfl⟩]
          · unfold mHolds
            rw [kI_sI, if_neg (by omega), kI_sI, if_neg (by omega), kI_sI, if_pos ⟨rfl, rfl⟩]
          · unfold mHolds
            rw [kI_sI, if_neg (by omega), kI_sI, if_pos ⟨rfl, rfl⟩]
        generalize hX1 : xSell (sX hx (1000 + j)) (100 + 8 * p) (nI d) (nI (mn hm 0 0)) (if s = mn hm 0 0 then kR hx ad 2 else some ad) = hx1 at ag hcell ⊢
        have hP := R1.P
        obtain ⟨⟨sx, sm⟩, c1, c2, c3, c4, c5, c6, c7, c8, c9, c10, c11, c12, c13, c14, c15, c16⟩ := R1
        refine ⟨⟨sx.fr ag ?_, sm.fr am ?_⟩, c1.fr ag am ?_ ?_, c2.fr ag am ?_ ?_, c3.fr ag am ?_ ?_, c4.fr ag am ?_ ?_, c5.fr ag am ?_ ?_, c6.fr ag am ?_ ?_, c7.fr ag am ?_ ?_, c8.fr ag am ?_ ?_, c9.fr ag am ?_ ?_, ?_, c11.fr ag am ?_ ?_, c12.fr hP ag am ?_ ?_, c13.fr ag am ?_ ?_, c14.fr ag am ?_ ?_, c15.fr ag am ?_ ?_, ?_⟩
        all_goals first
          | (intro a k h1 h2; omega)
          | skip
        · exact hcell
        · intro a ha
          rw [mn_cg1 (am.1 0 8 (by omega)).1, mn_cg1 (am.1 0 16 (by omega)).1, mn_cg1 (am.1 0 27 (by omega)).1, mn_cg1 (am.1 0 31 (by omega)).1] at ha
          rw [← hX1]
          show (if a = 1000 + j then 2 else kd hx a) = 0
          rw [if_neg (by omega)]
          exact c16 a ha
    · refine op_noN R 3 1 0 rfl (by decide) ?_ ?_
      · show f_X9_sell 0 (nI p) b (sX hx (1000 + j)) = _
        unfold f_X9_sell
        rw [kV_k (R.1.1.X (1000 + j)).d0, (R.X (1000 + j)).plate hp q1 q2, kb_ret, rdr_f hq3]
        rfl
      · show f_X10_sell 0 (nI p) b hm = _
        unfold f_X10_sell
        rw [kV_k T.d0, R.isPlate q1 q2, kb_ret, kif_f (by decide), mdr_f hq3, kb_ret, kif_t rfl]
        unfold X10_sell_b20 X10_sell_b21
        rw [kV_k T.d0, can_n T (show (1 : Int32) ≠ 0 by decide), kb_ret, kif_t rfl]
  · refine op_noN R 3 1 0 rfl (by decide) ?_ ?_
    · show f_X9_sell 0 a b (sX hx (1000 + j)) = _
      unfold f_X9_sell
      rw [kV_k (R.1.1.X (1000 + j)).d0, (R.X (1000 + j)).plateNo hq]
      rfl
    · show f_X10_sell 0 a b hm = _
      unfold f_X10_sell
      rw [kV_k T.d0, R.isPlateNo hq, kb_ret, kif_t rfl]
      unfold X10_sell_b20 X10_sell_b21
      rw [kV_k T.d0, can_n T (show (1 : Int32) ≠ 0 by decide), kb_ret, kif_t rfl]
end
section
/-! what the rows' calls read, and no more -/
def cRt1 (hx hm : KH) (r : Nat) : Prop :=
  (kd hx (200 + 4 * r) = 6 ∧ kd hx (201 + 4 * r) = 8 ∧ kd hx (202 + 4 * r) = 21 ∧ kn hx (202 + 4 * r) = 6) ∧ (kR hx 28 r = some (200 + 4 * r) ∧ kR hx (200 + 4 * r) 3 = some (201 + 4 * r) ∧ kR hx (201 + 4 * r) 0 = some (202 + 4 * r)) ∧
  kI hx (200 + 4 * r) 0 = nI r ∧ (∃ g, g < 8 ∧ kI hx (200 + 4 * r) 1 = nI g ∧ kI hm 12 r = nI g) ∧ (∃ m, m ≤ 50000 ∧ kI hx (200 + 4 * r) 2 = nI m ∧ kI hm 13 r = nI m) ∧
  (∃ n, 1 ≤ n ∧ n ≤ 6 ∧ kI hx (201 + 4 * r) 1 = nI n ∧ kI hm 14 r = nI n ∧ ∀ k, k < n → ∃ v, v < 15 ∧ kI hx (202 + 4 * r) k = nI v ∧ kI hm 15 (6 * r + k) = nI v)
def cRt (hx hm : KH) : Prop := (∃ R, R ≤ 60 ∧ kI hx 0 14 = nI R ∧ kI hm 0 16 = nI R) ∧ ∀ r, r < mn hm 0 16 → cRt1 hx hm r
def kCx (hx hm : KH) : Prop := (kSx hx ∧ kSm hm) ∧ cPau hx hm ∧ cDis hx hm ∧ cAli hx hm ∧ cPla hx hm ∧ cOrd hx hm ∧ cRt hx hm
def DK (a k : Nat) : Prop := (100 ≤ a ∧ a < 180 ∧ (a % 8 = 0 ∧ k = 2 ∨ a % 8 = 1 ∨ a % 8 = 2)) ∨ (200 ≤ a ∧ a < 440 ∧ a % 4 = 0 ∧ k = 5) ∨ a = 33 ∧ k = 2 ∨ a = 34 ∨ a = 35
theorem kCx.R {hx hm : KH} (K : kCx hx hm) : kI hx 0 14 = nI (mn hm 0 16) ∧ kI hm 0 16 = nI (mn hm 0 16) ∧ mn hm 0 16 ≤ 60 := by
  obtain ⟨⟨P, hP, e1, e2⟩, -⟩ := K.2.2.2.2.2.2
  have e : mn hm 0 16 = P := by unfold mn; rw [e2, nI_clamp (by omega)]
  rw [e]
  exact ⟨e1, e2, hP⟩
theorem kCx.P {hx hm : KH} (K : kCx hx hm) : kI hx 0 13 = nI (mn hm 0 8) ∧ kI hm 0 8 = nI (mn hm 0 8) ∧ mn hm 0 8 ≤ 10 := by
  obtain ⟨⟨P, hP, e1, e2⟩, -⟩ := K.2.2.2.2.1
  have e : mn hm 0 8 = P := by unfold mn; rw [e2, nI_clamp (by omega)]
  rw [e]
  exact ⟨e1, e2, hP⟩
theorem kCx.fr {hx hm hx' : KH} {D : Nat → Nat → Prop} (K : kCx hx hm) (ag : kAg D hx hx') (hD : ∀ a k, D a k → DK a k) : kCx hx' hm := by
  have hR := K.R.2.2
  have hP := K.P.2.2
  obtain ⟨⟨sx, sm⟩, c2, c4, c7, c8, c9, c11, c12⟩ := K
  have am := kAg.rf hm
  have hN : ∀ a k, ¬ DK a k → ¬ D a k := fun a k h z => h (hD a k z)
  have ag' : kAg DK hx hx' := ag.sub hD
  refine ⟨⟨sx.fr ag' ?_, sm⟩, c2.fr ag' am ?_ (fun _ _ _ z => z), c4.fr ag' am ?_ (fun _ _ _ z => z), c7.fr ag' am ?_ (fun _ _ _ z => z), c8.fr ag' am ?_ (fun _ _ _ z => z), c9.fr ag' am ?_ (fun _ _ _ z => z), ?_, fun r hr => ?_⟩
  any_goals (intro a k h1 h2; unfold DK at h2; omega)
  · rw [(ag'.1 0 14 (by unfold DK; omega)).1]
    exact c11
  · obtain ⟨⟨d1, d2, d3, d4⟩, ⟨e1, e2, e3⟩, f1, f2, f3, f4⟩ := c12 r hr
    have k1 := ag'.k (200 + 4 * r) (by rw [d1]; decide)
    have k2 := ag'.k (201 + 4 * r) (by rw [d2]; decide)
    have k3 := ag'.k (202 + 4 * r) (by rw [d3]; decide)
    refine ⟨⟨by rw [k1.1, d1], by rw [k2.1, d2], by rw [k3.1, d3], by rw [k3.2, d4]⟩, ⟨by rw [(ag'.1 28 r (by unfold DK; omega)).2.2, e1], by rw [(ag'.1 (200 + 4 * r) 3 (by unfold DK; omega)).2.2, e2], by rw [(ag'.1 (201 + 4 * r) 0 (by unfold DK; omega)).2.2, e3]⟩, by rw [(ag'.1 (200 + 4 * r) 0 (by unfold DK; omega)).1, f1], by rw [(ag'.1 (200 + 4 * r) 1 (by unfold DK; omega)).1]; exact f2, by rw [(ag'.1 (200 + 4 * r) 2 (by unfold DK; omega)).1]; exact f3, ?_⟩
    rw [(ag'.1 (201 + 4 * r) 1 (by unfold DK; omega)).1]
    obtain ⟨n, g1, g2, g3, g4, g5⟩ := f4
    exact ⟨n, g1, g2, g3, g4, fun k hk => by rw [(ag'.1 (202 + 4 * r) k (by unfold DK; omega)).1]; exact g5 k hk⟩
theorem RR.kCx {j : Nat} {hx hm : KH} (R : RR j hx hm) : kCx hx hm := by
  obtain ⟨s, c1, c2, c3, c4, c5, c6, c7, c8, c9, c10, ⟨c11, c11', -⟩, c12, c13, c14, c15, c16⟩ := R
  refine ⟨s, c2, c4, c7, c8, c9, c11, fun r hr => ?_⟩
  obtain ⟨a, b, c, d, e, f, -⟩ := c11' r hr
  exact ⟨a, b, c, d, e, f⟩
/-- the model's state, as its own calls read it -/
def MX (h : KH) : Prop := kSm h ∧ (mn h 0 8 ≤ 10 ∧ kI h 0 8 = nI (mn h 0 8)) ∧ (mn h 0 16 ≤ 60 ∧ kI h 0 16 = nI (mn h 0 16)) ∧
  (∀ p, p < mn h 0 8 → (1 ≤ mn h 6 p ∧ mn h 6 p ≤ 6) ∧ kI h 6 p = nI (mn h 6 p) ∧ ∀ k, k < mn h 6 p → mn h 7 (6 * p + k) < 14 ∧ kI h 7 (6 * p + k) = nI (mn h 7 (6 * p + k))) ∧
  (∀ r, r < mn h 0 16 → (mn h 12 r < 8 ∧ kI h 12 r = nI (mn h 12 r)) ∧ (mn h 13 r ≤ 50000 ∧ kI h 13 r = nI (mn h 13 r)) ∧ (1 ≤ mn h 14 r ∧ mn h 14 r ≤ 6) ∧ kI h 14 r = nI (mn h 14 r) ∧ ∀ k, k < mn h 14 r → mn h 15 (6 * r + k) < 15 ∧ kI h 15 (6 * r + k) = nI (mn h 15 (6 * r + k))) ∧
  (∀ r, r < mn h 0 16 → (kI h 16 r = 0 ∧ mn h 16 r = 0) ∨ kI h 16 r = 1 ∧ mn h 16 r = 1 ∧ (kI h 17 r = -1 ∨ ∃ q, q < mn h 0 8 ∧ kI h 17 r = nI q)) ∧
  (∀ a b, a < 15 → b < 15 → (kI h 5 (15 * a + b) = 0 ∧ mn h 5 (15 * a + b) = 0) ∨ kI h 5 (15 * a + b) = 1 ∧ mn h 5 (15 * a + b) = 1)
theorem mn_of {h : KH} {a k v : Nat} (e : kI h a k = nI v) (hv : v < 2147483648) : mn h a k = v := by
  unfold mn
  rw [e, nI_clamp hv]
/-- the corrections, class and model -/
def cCor (hx hm : KH) : Prop := ∀ r, r < mn hm 0 16 → (kI hx (200 + 4 * r) 4 = 0 ∧ kI hm 16 r = 0 ∨ kI hx (200 + 4 * r) 4 = 1 ∧ kI hm 16 r = 1 ∧ (kI hm 17 r = -1 ∨ ∃ q, q < mn hm 0 8 ∧ kI hm 17 r = nI q))
theorem kCx.MX {hx hm : KH} (K : kCx hx hm) (C : cCor hx hm) : MX hm := by
  have hR := K.R
  have hP := K.P
  obtain ⟨⟨sx, sm⟩, c2, c4, c7, c8, c9, c11, c12⟩ := K
  refine ⟨sm, ⟨hP.2.2, hP.2.1⟩, ⟨hR.2.2, hR.2.1⟩, fun p hp => ?_, fun r hr => ?_, fun r hr => ?_, fun a b ha hb => ?_⟩
  · obtain ⟨-, -, -, ⟨n, n1, n2, -, n4, n5⟩, -⟩ := c8.2.1 p hp
    rw [mn_of n4 (by omega)]
    refine ⟨⟨n1, n2⟩, n4, fun k hk => ?_⟩
    obtain ⟨v, v1, -, v3⟩ := n5 k hk
    rw [mn_of v3 (by omega)]
    exact ⟨v1, v3⟩
  · obtain ⟨-, -, -, ⟨g, g1, -, g3⟩, ⟨m, m1, -, m3⟩, n, n1, n2, -, n4, n5⟩ := c12 r hr
    rw [mn_of n4 (by omega), mn_of g3 (by omega), mn_of m3 (by omega)]
    refine ⟨⟨g1, g3⟩, ⟨m1, m3⟩, ⟨n1, n2⟩, n4, fun k hk => ?_⟩
    obtain ⟨v, v1, -, v3⟩ := n5 k hk
    rw [mn_of v3 (by omega)]
    exact ⟨v1, v3⟩
  · rcases C r hr with ⟨-, e⟩ | ⟨-, e, e'⟩
    · exact Or.inl ⟨e, by unfold mn; rw [e]; rfl⟩
    · exact Or.inr ⟨e, by unfold mn; rw [e]; rfl, e'⟩
  · obtain ⟨M, -, -, e⟩ := c7.1 a ha
    have e' := e b hb
    by_cases hb2 : M.testBit b = true
    · rw [if_pos hb2] at e'
      exact Or.inr ⟨e', by unfold mn; rw [e']; rfl⟩
    · rw [if_neg hb2] at e'
      exact Or.inl ⟨e', by unfold mn; rw [e']; rfl⟩
theorem RR.cCor {j : Nat} {hx hm : KH} (R : RR j hx hm) : cCor hx hm := fun r hr => by
  obtain ⟨a, b, c, d, e, f, g, -⟩ := R.2.2.2.2.2.2.2.2.2.2.2.1.2.1 r hr
  exact g
theorem RR.MX {j : Nat} {hx hm : KH} (R : RR j hx hm) : MX hm := R.kCx.MX R.cCor
theorem MX.fr {h h' : KH} {E : Nat → Nat → Prop} (M : MX h) (am : kAg E h h') (hE : ∀ a k, E a k → a = 18 ∨ a = 19 ∨ a = 0 ∧ k = 35) : MX h' := by
  have am' := am.sub hE
  have e0 : ∀ k, k ≠ 35 → kI h' 0 k = kI h 0 k := fun k hk => (am'.1 0 k (by omega)).1
  have eA : ∀ a, a = 5 ∨ a = 6 ∨ a = 7 ∨ 12 ≤ a ∧ a ≤ 17 → ∀ k, kI h' a k = kI h a k := fun a ha k => (am'.1 a k (by omega)).1
  obtain ⟨sm, m1, m2, m3, m4, m5, m6⟩ := M
  refine ⟨sm.fr am' (fun a k q z => by omega), ?_⟩
  rw [mn_cg1 (e0 8 (by decide)), mn_cg1 (e0 16 (by decide)), e0 8 (by decide), e0 16 (by decide), mn_cg (eA 5 (by omega)), mn_cg (eA 6 (by omega)), mn_cg (eA 7 (by omega)), mn_cg (eA 12 (by omega)), mn_cg (eA 13 (by omega)), mn_cg (eA 14 (by omega)), mn_cg (eA 15 (by omega)), mn_cg (eA 16 (by omega))]
  refine ⟨m1, m2, fun p hp => ?_, fun r hr => ?_, fun r hr => ?_, fun a b ha hb => ?_⟩
  · rw [eA 6 (by omega)]
    obtain ⟨q1, q2, q3⟩ := m3 p hp
    exact ⟨q1, q2, fun k hk => by rw [eA 7 (by omega)]; exact q3 k hk⟩
  · rw [eA 12 (by omega), eA 13 (by omega), eA 14 (by omega)]
    obtain ⟨q1, q2, q3, q4, q5⟩ := m4 r hr
    exact ⟨q1, q2, q3, q4, fun k hk => by rw [eA 15 (by omega)]; exact q5 k hk⟩
  · rw [eA 16 (by omega), eA 17 (by omega)]
    exact m5 r hr
  · rw [eA 5 (by omega)]
    exact m6 a b ha hb
end
section
/-! bits of a mask -/
theorem kb_sh : ∀ b, b < 15 → (nI b &&& 31).toBitVec.smod 32 = BitVec.ofNat 32 b := by decide +kernel
theorem kb_one : ∀ b, b < 15 → (1 : BitVec 32) <<< BitVec.ofNat 32 b = BitVec.ofNat 32 (2 ^ b) := by decide +kernel
theorem kb_bv (n : Nat) : (nI n).toBitVec = BitVec.ofNat 32 n := Int32.toBitVec_ofNat'
theorem kb_bit {M b : Nat} (hM : M < 32768) (hb : b < 15) : (((nI M >>> (nI b &&& 31)) &&& 1) = 1) = (M.testBit b = true) := by
  have hmsb : (BitVec.ofNat 32 M).msb = false := by
    rw [BitVec.msb_eq_false_iff_two_mul_lt, BitVec.toNat_ofNat]
    omega
  rw [eq_iff_iff, ← Int32.toBitVec_inj, Int32.toBitVec_and, Int32.toBitVec_shiftRight, kb_sh b hb, kb_bv, BitVec.sshiftRight_eq', BitVec.sshiftRight_eq_of_msb_false hmsb, ← BitVec.toNat_inj, BitVec.toNat_and, BitVec.toNat_ushiftRight, BitVec.toNat_ofNat, BitVec.toNat_ofNat, Nat.mod_eq_of_lt (show M < 2 ^ 32 by omega), Nat.mod_eq_of_lt (show b < 2 ^ 32 by omega)]
  rw [Nat.testBit_eq_decide_div_mod_eq, decide_eq_true_iff, Nat.shiftRight_eq_div_pow]
  show (M / 2 ^ b &&& 1) = 1 ↔ _
  rw [Nat.and_one_is_mod]
theorem kb_xor {M b : Nat} (hb : b < 15) : nI M ^^^ (1 <<< (nI b &&& 31)) = nI (M ^^^ 2 ^ b) := by
  rw [← Int32.toBitVec_inj, Int32.toBitVec_xor, Int32.toBitVec_shiftLeft, kb_sh b hb, kb_bv, kb_bv, BitVec.ofNat_xor, ← kb_one b hb]
  rfl
/-! a cost, or none -/
def cOf (o : Option Nat) : Int32 := match o with
  | some t => nI t
  | none => -1
theorem sPart_le {m : Nat → Nat → Nat} {x y t : Nat} (h : sPart m x y = some t) : t ≤ 2 := by
  unfold sPart at h
  repeat' split at h
  all_goals first
    | (cases h; omega)
    | cases h
theorem sCst_le {m : Nat → Nat → Nat} {r p : Nat} : ∀ k t, sCst m r p k = some t → t ≤ 2 * k := by
  intro k
  induction k with
  | zero => intro t h; cases h; omega
  | succ k ih =>
    intro t h
    unfold sCst at h
    cases e1 : sCst m r p k with
    | none => rw [e1] at h; cases h
    | some s =>
      cases e2 : sPart m (m 15 (6 * r + k)) (m 7 (6 * p + k)) with
      | none => rw [e1, e2] at h; cases h
      | some u =>
        rw [e1, e2] at h
        cases h
        have := ih s e1
        have := sPart_le e2
        omega
theorem sCst_nn {m : Nat → Nat → Nat} {r p i : Nat} (h : sCst m r p i = none) : ∀ n, i ≤ n → sCst m r p n = none := by
  intro n
  induction n with
  | zero => intro hi; obtain rfl : i = 0 := by omega
            exact h
  | succ n ih =>
    intro hi
    by_cases hq : i = n + 1
    · subst hq
      exact h
    · unfold sCst
      rw [ih (by omega)]
section KCOST
variable {h : KH} {m : Nat → Nat → Nat}
theorem xc_holds (S : kSx h) {x y : Nat} (hx : x < 15) (hy : y < 15) (hA : ∀ a, a < 15 → ∃ M, M < 32768 ∧ kI h 25 a = nI M ∧ ∀ b, b < 15 → (m 5 (15 * a + b) = 0 ↔ ¬ M.testBit b = true)) : f_X2_holds 24 (nI x) (nI y) h = kret (if m 5 (15 * x + y) = 0 then 0 else 1) h := by
  obtain ⟨M, M1, M2, M3⟩ := hA x hx
  unfold f_X2_holds
  rw [gN_k S.d24 S.r24_0, gAI_k S.d25 (by rw [S.n25]; exact hx) (by omega), M2]
  by_cases hb : M.testBit y = true
  · rw [kif_t (by rw [kb_bit M1 hy]; exact hb), if_neg (by rw [M3 y hy]; exact fun z => z hb)]
    rfl
  · rw [kif_f (by rw [kb_bit M1 hy]; exact hb), if_pos (by rw [M3 y hy]; exact hb)]
    rfl
theorem xc_sign (S : kSx h) {x y : Nat} (hx : x < 15) (hy : y < 15) (hA : ∀ a, a < 15 → ∃ M, M < 32768 ∧ kI h 25 a = nI M ∧ ∀ b, b < 15 → (m 5 (15 * a + b) = 0 ↔ ¬ M.testBit b = true)) : f_X2_costOfSign 24 (nI x) (nI y) h = kret (cOf (sPart m x y)) h := by
  unfold f_X2_costOfSign sPart
  by_cases h1 : x = y
  · rw [kif_t (by rw [h1]), if_pos h1]
    rfl
  · rw [kif_f (by rw [ka_eq (by omega) (by omega)]; exact h1), if_neg h1]
    by_cases h2 : x = 14
    · rw [kif_t (by rw [h2]; rfl), if_pos h2]
      rfl
    · rw [kif_f (by rw [show (14 : Int32) = nI 14 from rfl, ka_eq (by omega) (by omega)]; exact h2), if_neg h2, kV_k S.d24, xc_holds S hx hy hA, kb_ret]
      by_cases h3 : m 5 (15 * x + y) = 0
      · rw [if_pos h3, if_pos h3, kif_t rfl]
        rfl
      · rw [if_neg h3, if_neg h3, kif_f (by decide)]
        rfl
theorem xc_costL (S : kSx h) {ta tb sa sb n r p : Nat} (hA : ∀ a, a < 15 → ∃ M, M < 32768 ∧ kI h 25 a = nI M ∧ ∀ b, b < 15 → (m 5 (15 * a + b) = 0 ↔ ¬ M.testBit b = true)) (a1 : kd h ta = 8) (a2 : kR h ta 0 = some sa) (a3 : kd h sa = 21) (a4 : kn h sa = 6) (a5 : kI h ta 1 = nI n) (b1 : kd h tb = 8) (b2 : kR h tb 0 = some sb) (b3 : kd h sb = 21) (b4 : kn h sb = 6) (hn : n ≤ 6)
    (hX : ∀ k, k < n → m 15 (6 * r + k) < 15 ∧ kI h sa k = nI (m 15 (6 * r + k))) (hY : ∀ k, k < n → m 7 (6 * p + k) < 15 ∧ kI h sb k = nI (m 7 (6 * p + k))) : ∀ (f i s : Nat), i ≤ n → n < i + f → sCst m r p i = some s → X2_costOf_L18 f 24 ta tb (nI s) (nI i) h = kret (cOf (sCst m r p n)) h := by
  intro f
  induction f with
  | zero => intro i s h1 h2; omega
  | succ f ih =>
    intro i s h1 h2 h3
    unfold X2_costOf_L18 X2_costOf_b18
    rw [gI_k a1, a5]
    by_cases hi : n ≤ i
    · obtain rfl : i = n := by omega
      rw [kif_t (by rw [ka_le (by omega) (by omega)]; exact hi), h3]
      rfl
    · obtain ⟨x1, x2⟩ := hX i (by omega)
      obtain ⟨y1, y2⟩ := hY i (by omega)
      rw [kif_f (by rw [ka_le (by omega) (by omega)]; exact hi), gN_k a1 a2, gAI_k a3 (by omega) (by omega), gN_k b1 b2, gAI_k b3 (by omega) (by omega), x2, y2, kV_k S.d24, xc_sign S x1 y1 hA, kb_ret]
      have hst : sCst m r p (i + 1) = match sCst m r p i, sPart m (m 15 (6 * r + i)) (m 7 (6 * p + i)) with
        | some s, some t => some (s + t)
        | _, _ => none := rfl
      cases e : sPart m (m 15 (6 * r + i)) (m 7 (6 * p + i)) with
      | none =>
        rw [h3, e] at hst
        rw [kif_t (show cOf none = -1 from rfl), sCst_nn hst n (by omega)]
        rfl
      | some t =>
        rw [h3, e] at hst
        have ht := sPart_le e
        show kif (nI t = -1) _ _ = _
        rw [kif_f (by rw [ka_n1 (by omega)]; exact fun z => z), nI_1]
        show X2_costOf_L18 f 24 ta tb (nI s + nI t) _ h = _
        rw [ka_add]
        exact ih (i + 1) (s + t) (by omega) (by omega) hst
theorem xc_cost (S : kSx h) {ta tb sa sb n n' r p : Nat} (hA : ∀ a, a < 15 → ∃ M, M < 32768 ∧ kI h 25 a = nI M ∧ ∀ b, b < 15 → (m 5 (15 * a + b) = 0 ↔ ¬ M.testBit b = true)) (a1 : kd h ta = 8) (a2 : kR h ta 0 = some sa) (a3 : kd h sa = 21) (a4 : kn h sa = 6) (a5 : kI h ta 1 = nI n) (b1 : kd h tb = 8) (b2 : kR h tb 0 = some sb) (b3 : kd h sb = 21) (b4 : kn h sb = 6) (b5 : kI h tb 1 = nI n') (hn : n ≤ 6) (hn' : n' ≤ 6) (m1 : m 14 r = n) (m2 : m 6 p = n')
    (hX : ∀ k, k < n → m 15 (6 * r + k) < 15 ∧ kI h sa k = nI (m 15 (6 * r + k))) (hY : ∀ k, k < n' → m 7 (6 * p + k) < 15 ∧ kI h sb k = nI (m 7 (6 * p + k))) : f_X2_costOf 24 ta tb h = kret (cOf (sCost m r p)) h := by
  unfold f_X2_costOf sCost
  rw [gI_k a1, gI_k b1, a5, b5, m1, m2]
  by_cases hq : n = n'
  · rw [kif_t (by rw [hq]), if_pos hq]
    exact xc_costL S hA a1 a2 a3 a4 a5 b1 b2 b3 b4 hn hX (fun k hk => hY k (by omega)) kF 0 0 (by omega) (by unfold kF; omega) rfl
  · rw [kif_f (by rw [ka_eq (by omega) (by omega)]; exact hq), if_neg hq]
    rfl
end KCOST
theorem kCx.mask {hx hm : KH} (K : kCx hx hm) : ∀ a, a < 15 → ∃ M, M < 32768 ∧ kI hx 25 a = nI M ∧ ∀ b, b < 15 → (mn hm 5 (15 * a + b) = 0 ↔ ¬ M.testBit b = true) := by
  intro a ha
  obtain ⟨M, M1, M2, M3⟩ := K.2.2.2.1.1 a ha
  refine ⟨M, M1, M2, fun b hb => ?_⟩
  have e := M3 b hb
  unfold mn
  rw [e]
  by_cases hb2 : M.testBit b = true
  · rw [if_pos hb2]
    exact ⟨fun z => absurd z (by decide), fun z => absurd hb2 z⟩
  · rw [if_neg hb2]
    exact ⟨fun _ => hb2, fun _ => rfl⟩
theorem kCx.cost {hx hm : KH} (K : kCx hx hm) {r p : Nat} (hr : r < mn hm 0 16) (hp : p < mn hm 0 8) : f_X2_costOf 24 (201 + 4 * r) (101 + 8 * p) hx = kret (cOf (sCost (mn hm) r p)) hx := by
  obtain ⟨⟨d1, d2, d3, d4⟩, ⟨e1, e2, e3⟩, f1, -, -, n, n1, n2, n3, n4, n5⟩ := K.2.2.2.2.2.2.2 r hr
  obtain ⟨⟨g1, g2, g3, g4, -⟩, ⟨-, -, g5, -⟩, -, ⟨n', o1, o2, o3, o4, o5⟩, -⟩ := K.2.2.2.2.1.2.1 p hp
  refine xc_cost K.1.1 K.mask d2 e3 d3 d4 n3 g2 g5 g3 g4 o3 n2 o2 (mn_of n4 (by omega)) (mn_of o4 (by omega)) (fun k hk => ?_) (fun k hk => ?_)
  · obtain ⟨v, v1, v2, v3⟩ := n5 k hk
    rw [mn_of v3 (by omega)]
    exact ⟨v1, v2⟩
  · obtain ⟨v, v1, v2, v3⟩ := o5 k hk
    rw [mn_of v3 (by omega)]
    exact ⟨by omega, v2⟩
/-! the model's cost -/
theorem mc_idx (a b : Nat) : (15 : Int32) * nI a + nI b = nI (15 * a + b) := by
  rw [show (15 : Int32) = nI 15 from rfl, ka_mul, ka_add]
theorem mc_idx6 (a b : Nat) : (6 : Int32) * nI a + nI b = nI (6 * a + b) := by
  rw [show (6 : Int32) = nI 6 from rfl, ka_mul, ka_add]
theorem MX.costL {h : KH} (M : MX h) {r p : Nat} (hr : r < mn h 0 16) (hp : p < mn h 0 8) (he : mn h 14 r = mn h 6 p) : ∀ (f i : Nat), i ≤ mn h 14 r → mn h 14 r < i + f → X10_costOf_L24 f 0 (nI r) (nI p) (cOf (sCst (mn h) r p i)) (nI i) h = kret (cOf (sCst (mn h) r p (mn h 14 r))) h := by
  intro f
  induction f with
  | zero => intro i h1 h2; omega
  | succ f ih =>
    intro i h1 h2
    obtain ⟨T, ⟨m1, -⟩, ⟨m2, -⟩, m3, m4, -, m6⟩ := M
    obtain ⟨-, -, ⟨l1, l2⟩, l3, l4⟩ := m4 r hr
    obtain ⟨-, -, p4⟩ := m3 p hp
    unfold X10_costOf_L24 X10_costOf_b24
    rw [gN_k T.d0 T.r19, gAI_k T.d14 (by rw [T.n14]; omega) (by omega), l3]
    by_cases hi : mn h 14 r ≤ i
    · rw [kif_t (by rw [ka_le (by omega) (by omega)]; exact hi), show i = mn h 14 r by omega]
      rfl
    · rw [kif_f (by rw [ka_le (by omega) (by omega)]; exact hi)]
      cases e : sCst (mn h) r p i with
      | none =>
        rw [kif_t (show cOf none = -1 from rfl), sCst_nn e _ (by omega)]
        rfl
      | some s =>
        have hs := sCst_le _ _ e
        obtain ⟨x1, x2⟩ := l4 i (by omega)
        obtain ⟨y1, y2⟩ := p4 i (by omega)
        have hst : sCst (mn h) r p (i + 1) = match sCst (mn h) r p i, sPart (mn h) (mn h 15 (6 * r + i)) (mn h 7 (6 * p + i)) with
          | some s, some t => some (s + t)
          | _, _ => none := rfl
        have e2 := ih (i + 1) (by omega) (by omega)
        rw [hst, e] at e2
        rw [kif_f (by show ¬ nI s = -1; rw [ka_n1 (by omega)]; exact fun z => z), gN_k T.d0 T.r20, mc_idx6, gAI_k T.d15 (by rw [T.n15]; omega) (by omega), gN_k T.d0 T.r10, mc_idx6, gAI_k T.d7 (by rw [T.n7]; omega) (by omega), x2, y2]
        unfold sPart at e2
        by_cases q1 : mn h 15 (6 * r + i) = mn h 7 (6 * p + i)
        · rw [if_pos q1] at e2
          rw [kif_t (by rw [q1])]
          unfold X10_costOf_b111
          rw [kif_f (by decide)]
          unfold X10_costOf_b127
          show X10_costOf_L24 f 0 (nI r) (nI p) (nI s + nI 0) (nI i + 1) h = _
          rw [ka_add, nI_1]
          exact e2
        · rw [if_neg q1] at e2
          rw [kif_f (by rw [ka_eq (by omega) (by omega)]; exact q1)]
          by_cases q2 : mn h 15 (6 * r + i) = 14
          · rw [if_pos q2] at e2
            rw [kif_t (by rw [q2]; rfl)]
            unfold X10_costOf_b111
            rw [kif_f (by decide)]
            unfold X10_costOf_b127
            show X10_costOf_L24 f 0 (nI r) (nI p) (nI s + nI 2) (nI i + 1) h = _
            rw [ka_add, nI_1]
            exact e2
          · rw [if_neg q2] at e2
            rw [kif_f (by rw [show (14 : Int32) = nI 14 from rfl, ka_eq (by omega) (by omega)]; exact q2), gN_k T.d0 T.r7, mc_idx, gAI_k T.d5 (by rw [T.n5]; omega) (by omega)]
            rcases m6 _ _ x1 (show mn h 7 (6 * p + i) < 15 by omega) with ⟨q3, q4⟩ | ⟨q3, q4⟩
            · rw [if_pos q4] at e2
              rw [kif_t q3]
              unfold X10_costOf_b111
              rw [kif_t rfl]
              unfold X10_costOf_b127
              rw [nI_1]
              exact e2
            · rw [if_neg (by rw [q4]; decide)] at e2
              rw [kif_f (by rw [q3]; decide)]
              unfold X10_costOf_b111
              rw [kif_f (by decide)]
              unfold X10_costOf_b127
              show X10_costOf_L24 f 0 (nI r) (nI p) (nI s + nI 1) (nI i + 1) h = _
              rw [ka_add, nI_1]
              exact e2
theorem MX.cost {h : KH} (M : MX h) {r p : Nat} (hr : r < mn h 0 16) (hp : p < mn h 0 8) : f_X10_costOf 0 (nI r) (nI p) h = kret (cOf (sCost (mn h) r p)) h := by
  have MM := M
  obtain ⟨T, ⟨m1, -⟩, ⟨m2, -⟩, m3, m4, -, m6⟩ := MM
  obtain ⟨-, -, ⟨l1, l2⟩, l3, l4⟩ := m4 r hr
  obtain ⟨⟨p1, p2⟩, p3, p4⟩ := m3 p hp
  unfold f_X10_costOf
  rw [gN_k T.d0 T.r19, gAI_k T.d14 (by rw [T.n14]; omega) (by omega), l3, gN_k T.d0 T.r9, gAI_k T.d6 (by rw [T.n6]; omega) (by omega), p3]
  unfold sCost
  by_cases hq : mn h 14 r = mn h 6 p
  · rw [kif_t (by rw [hq]), if_pos hq]
    exact M.costL hr hp hq kF 0 (by omega) (by unfold kF; omega)
  · rw [kif_f (by rw [ka_eq (by omega) (by omega)]; exact hq), if_neg hq]
    unfold X10_costOf_b20
    obtain ⟨f, hf⟩ : ∃ f, kF = f + 1 := ⟨999, rfl⟩
    rw [hf]
    unfold X10_costOf_L24 X10_costOf_b24
    rw [gN_k T.d0 T.r19, gAI_k T.d14 (by rw [T.n14]; omega) (by omega), l3, kif_f (by rw [show (0 : Int32) = nI 0 from rfl, ka_le (by omega) (by omega)]; omega), kif_t rfl]
    rfl
end
section
/-! readings by number -/
section KREAD
variable {j : Nat} {hx hm : KH}
theorem kCx.rd {hx hm : KH} (K : kCx hx hm) {r : Nat} (hr : r < mn hm 0 16) : cRt1 hx hm r := K.2.2.2.2.2.2.2 r hr
theorem kCx.reading (K : kCx hx hm) {p : Nat} (hp : p < mn hm 0 16) (h1 : ¬ nI p < 0) (h2 : ¬ (nI (mn hm 0 16) - 1) < nI p) : f_X9_readingNumbered 0 (nI p) hx = kret (200 + 4 * p) hx := by
  have S := K.1.1
  obtain ⟨e1, -, e3⟩ := K.R
  obtain ⟨-, ⟨d1, -⟩, -⟩ := K.rd hp
  unfold f_X9_readingNumbered
  rw [gI_k S.d0, e1, wi_t h1 h2, kb_ret, kif_f (by decide), gN_k S.d0 S.r0_6, gAN_k S.d28 (by rw [S.n28]; omega) (by omega) d1]
theorem kCx.readingNo (K : kCx hx hm) {b : Int32} (h : b < 0 ∨ (nI (mn hm 0 16) - 1) < b) : f_X9_readingNumbered 0 b hx = kthrow 3 hx := by
  have S := K.1.1
  obtain ⟨e1, -, -⟩ := K.R
  unfold f_X9_readingNumbered
  rw [gI_k S.d0, e1, wi_f h, kb_ret, kif_t rfl]
theorem MX.isReading {h : KH} (M : MX h) {p : Nat} (h1 : ¬ nI p < 0) (h2 : ¬ (nI (mn h 0 16) - 1) < nI p) : f_X10_isReading 0 (nI p) h = kret 1 h := by
  unfold f_X10_isReading
  rw [gI_k M.1.d0, M.2.2.1.2, in_t h1 h2, kb_ret]
  rfl
theorem MX.isReadingNo {h : KH} (M : MX h) {b : Int32} (hb : b < 0 ∨ (nI (mn h 0 16) - 1) < b) : f_X10_isReading 0 b h = kret 0 h := by
  unfold f_X10_isReading
  rw [gI_k M.1.d0, M.2.2.1.2, in_f hb, kb_ret]
  rfl
theorem MX.thr {h : KH} (M : MX h) (v : Int32) : MX (sI h 0 35 v) := M.fr (kAg.I h 0 35 v) (fun a k z => by omega)
end KREAD
theorem sCost_thr (h : KH) (v : Int32) (r p : Nat) : sCost (mn (sI h 0 35 v)) r p = sCost (mn h) r p := sCost_cg (m := mn h) (m' := mn (sI h 0 35 v)) (mn_cg fun k => rfl) (mn_cg fun k => rfl) (mn_cg fun k => rfl) (mn_cg fun k => rfl) (mn_cg fun k => rfl) r p
theorem o_cost : OPI (fun a b c h => f_X9_cost 0 a b h) (fun a b c h => f_X10_cost 0 a b h) (mp1 3) := by
  intro j hx hm a b c hj R
  have S := R.1.1.X 0
  have T := R.1.2
  have RX := R.X 0
  have K := RX.kCx
  have M := R.MX
  have hP := R.P
  have hR := M.2.2.1.1
  rcases ka_below a (mn hm 0 16) (by omega) with ⟨r, hr, rfl, q1, q2⟩ | hq
  · rcases ka_below b (mn hm 0 8) (by omega) with ⟨p, hp, rfl, q3, q4⟩ | hq3
    · refine op_rd R (cOf (sCost (mn hm) r p)) ?_ ?_
      · show f_X9_cost 0 (nI r) (nI p) (sX hx 0) = _
        unfold f_X9_cost
        rw [kV_k S.d0, K.reading hr q1 q2, kb_ret, gN_k S.d0 S.r0_3, gN_k (K.rd hr).1.1 (K.rd hr).2.1.2.1, kV_k S.d0, RX.plate hp q3 q4, kb_ret, gN_k (RX.pl hp).1.1 (RX.pl hp).2.1.2.1, kV_k S.d24, K.cost hr hp, kb_ret]
      · show f_X10_cost 0 (nI r) (nI p) hm = _
        unfold f_X10_cost
        rw [kV_k T.d0, M.isReading q1 q2, kb_ret, kif_f (by decide), kV_k T.d0, R.isPlate q3 q4, kb_ret, kif_f (by decide)]
        unfold X10_cost_b22
        rw [kV_k T.d0, can_0 T, kb_ret, kif_f (by decide), kV_k (T.thr 0).d0, (M.thr 0).cost hr hp, kb_ret, sCost_thr]
        rfl
    · refine op_no R 3 1 0 rfl (by decide) ?_ ?_
      · show f_X9_cost 0 (nI r) b (sX hx 0) = _
        unfold f_X9_cost
        rw [kV_k S.d0, K.reading hr q1 q2, kb_ret, gN_k S.d0 S.r0_3, gN_k (K.rd hr).1.1 (K.rd hr).2.1.2.1, kV_k S.d0, RX.plateNo hq3]
        rfl
      · show f_X10_cost 0 (nI r) b hm = _
        unfold f_X10_cost
        rw [kV_k T.d0, M.isReading q1 q2, kb_ret, kif_f (by decide), kV_k T.d0, R.isPlateNo hq3, kb_ret, kif_t rfl]
        unfold X10_cost_b21 X10_cost_b22
        rw [kV_k T.d0, can_n T (show (1 : Int32) ≠ 0 by decide), kb_ret, kif_t rfl]
        rfl
  · refine op_no R 3 1 0 rfl (by decide) ?_ ?_
    · show f_X9_cost 0 a b (sX hx 0) = _
      unfold f_X9_cost
      rw [kV_k S.d0, K.readingNo hq]
      rfl
    · show f_X10_cost 0 a b hm = _
      unfold f_X10_cost
      rw [kV_k T.d0, M.isReadingNo hq, kb_ret, kif_t rfl]
      unfold X10_cost_b21 X10_cost_b22
      rw [kV_k T.d0, can_n T (show (1 : Int32) ≠ 0 by decide), kb_ret, kif_t rfl]
      rfl
end
section
/-! texts from their ends -/
theorem tl_tri (a b : List Nat) : a < b ∨ a = b ∨ b < a := by
  rcases Classical.em (a < b) with h | h
  · exact Or.inl h
  · have h2 := List.not_lt.mp h
    by_cases e : a = b
    · exact Or.inr (Or.inl e)
    · exact Or.inr (Or.inr (Std.lt_of_le_of_ne h2 (fun z => e z.symm)))
/-- like up to here: what decides -/
theorem tl_at : ∀ (i : Nat) (a b : List Nat), i ≤ a.length → i ≤ b.length → (∀ k, k < i → a.getD k 0 = b.getD k 0) → ((i = a.length ∨ i = b.length) → (a < b ↔ a.length < b.length)) ∧ (i < a.length → i < b.length → a.getD i 0 ≠ b.getD i 0 → (a < b ↔ a.getD i 0 < b.getD i 0)) := by
  intro i
  induction i with
  | zero =>
    intro a b h1 h2 h3
    cases a with
    | nil =>
      cases b with
      | nil => exact ⟨fun _ => ⟨fun z => absurd z (List.not_lt_nil _), fun z => absurd z (by simp)⟩, fun z => absurd z (by simp)⟩
      | cons y b => exact ⟨fun _ => ⟨fun _ => by simp, fun _ => List.nil_lt_cons _ _⟩, fun z => absurd z (by simp)⟩
    | cons x a =>
      cases b with
      | nil => exact ⟨fun _ => ⟨fun z => absurd z (List.not_lt_nil _), fun z => absurd z (by simp)⟩, fun _ z => absurd z (by simp)⟩
      | cons y b =>
        refine ⟨fun z => ?_, fun _ _ hne => ?_⟩
        · rcases z with z | z <;> simp at z
        · rw [List.cons_lt_cons_iff]
          exact ⟨fun z => z.resolve_right (fun q => hne q.1), fun z => Or.inl z⟩
  | succ i ih =>
    intro a b h1 h2 h3
    cases a with
    | nil => simp at h1
    | cons x a =>
      cases b with
      | nil => simp at h2
      | cons y b =>
        have hxy : x = y := h3 0 (by omega)
        subst hxy
        obtain ⟨i1, i2⟩ := ih a b (by simpa using h1) (by simpa using h2) (fun k hk => h3 (k + 1) (by omega))
        have e : (x :: a < x :: b) ↔ a < b := by
          rw [List.cons_lt_cons_iff]
          exact ⟨fun z => z.elim (fun q => absurd q (Nat.lt_irrefl _)) (fun q => q.2), fun z => Or.inr ⟨rfl, z⟩⟩
        refine ⟨fun z => ?_, fun z1 z2 z3 => ?_⟩
        · rw [e, i1 (by simpa using z)]
          simp
        · rw [e]
          exact i2 (by simpa using z1) (by simpa using z2) z3
theorem sTl_len (m : Nat → Nat → Nat) (p : Nat) : (sTl m p).length = m 6 p := by
  unfold sTl
  rw [List.length_map, List.length_range]
theorem sTl_at (m : Nat → Nat → Nat) (p k : Nat) (h : k < m 6 p) : (sTl m p).getD k 0 = m 7 (6 * p + (m 6 p - 1 - k)) := by
  unfold sTl
  rw [List.getD_eq_getElem?_getD, List.getElem?_map, List.getElem?_range h]
  rfl
section KAHEAD
variable {h : KH}
theorem MX.signAt (M : MX h) {p k : Nat} (hp : p < mn h 0 8) (hk : k < mn h 6 p) : f_X10_signAt 0 (nI p) (nI (k + 1)) h = kret (nI ((sTl (mn h) p).getD k 0)) h := by
  have MM := M
  obtain ⟨T, ⟨m1, -⟩, -, m3, -⟩ := MM
  obtain ⟨⟨p1, p2⟩, p3, p4⟩ := m3 p hp
  unfold f_X10_signAt
  rw [gN_k T.d0 T.r10, gN_k T.d0 T.r9, gAI_k T.d6 (by rw [T.n6]; omega) (by omega), p3, mc_idx6, ka_sub (by omega), gAI_k T.d7 (by rw [T.n7]; omega) (by omega), show 6 * p + mn h 6 p - (k + 1) = 6 * p + (mn h 6 p - 1 - k) by omega, (p4 _ (by omega)).2, sTl_at _ _ _ hk]
theorem MX.signAt_le (M : MX h) {p k : Nat} (hp : p < mn h 0 8) (hk : k < mn h 6 p) : (sTl (mn h) p).getD k 0 < 14 := by
  rw [sTl_at _ _ _ hk]
  exact (((M.2.2.2.1 p hp).2.2) _ (by omega)).1
theorem MX.aheadL (M : MX h) {p q : Nat} (hp : p < mn h 0 8) (hq : q < mn h 0 8) : ∀ (f i : Nat), i ≤ mn h 6 p → i ≤ mn h 6 q → 6 < i + f → (∀ k, k < i → (sTl (mn h) p).getD k 0 = (sTl (mn h) q).getD k 0) → X10_isAhead_L2 f 0 (nI p) (nI q) (nI (i + 1)) h = kret (if sTl (mn h) p < sTl (mn h) q then 1 else 0) h := by
  have MM := M
  obtain ⟨T, ⟨m1, -⟩, -, m3, -⟩ := MM
  obtain ⟨⟨p1, p2⟩, p3, p4⟩ := m3 p hp
  obtain ⟨⟨q1, q2⟩, q3, q4⟩ := m3 q hq
  intro f
  induction f with
  | zero => intro i h1 h2 h3; omega
  | succ f ih =>
    intro i h1 h2 h3 h4
    obtain ⟨t1, t2⟩ := tl_at i (sTl (mn h) p) (sTl (mn h) q) (by rw [sTl_len]; exact h1) (by rw [sTl_len]; exact h2) h4
    rw [sTl_len, sTl_len] at t1 t2
    have hG : ∀ (s0 : Int32), kif (nI (mn h 6 q) ≤ nI (mn h 6 p)) (X10_isAhead_b118 0 h) (X10_isAhead_b118 1 h) = kret (if mn h 6 p < mn h 6 q then 1 else 0) h := by
      intro s0
      by_cases g : mn h 6 q ≤ mn h 6 p
      · rw [kif_t (by rw [ka_le (by omega) (by omega)]; exact g), if_neg (by omega)]
        rfl
      · rw [kif_f (by rw [ka_le (by omega) (by omega)]; exact g), if_pos (by omega)]
        rfl
    have hE : X10_isAhead_b68 0 (nI p) (nI q) (nI (i + 1)) 1 h = kret (if mn h 6 p < mn h 6 q then 1 else 0) h := by
      unfold X10_isAhead_b68
      rw [kif_f (by decide), gN_k T.d0 T.r9, gAI_k T.d6 (by rw [T.n6]; omega) (by omega), p3, gN_k T.d0 T.r9, gAI_k T.d6 (by rw [T.n6]; omega) (by omega), q3]
      exact hG 0
    unfold X10_isAhead_L2 X10_isAhead_b2
    rw [gN_k T.d0 T.r9, gAI_k T.d6 (by rw [T.n6]; omega) (by omega), p3]
    by_cases g1 : i = mn h 6 p
    · rw [kif_t (by rw [ka_lt (by omega) (by omega)]; omega)]
      unfold X10_isAhead_b43
      rw [gN_k T.d0 T.r9, gAI_k T.d6 (by rw [T.n6]; omega) (by omega), p3, kif_t (by rw [ka_lt (by omega) (by omega)]; omega)]
      unfold X10_isAhead_b63
      rw [hE]
      simp only [t1 (Or.inl g1)]
    · rw [kif_f (by rw [ka_lt (by omega) (by omega)]; omega), gN_k T.d0 T.r9, gAI_k T.d6 (by rw [T.n6]; omega) (by omega), q3]
      by_cases g2 : i = mn h 6 q
      · rw [kif_t (by rw [ka_lt (by omega) (by omega)]; omega)]
        unfold X10_isAhead_b43
        rw [gN_k T.d0 T.r9, gAI_k T.d6 (by rw [T.n6]; omega) (by omega), p3, kif_f (by rw [ka_lt (by omega) (by omega)]; omega), gN_k T.d0 T.r9, gAI_k T.d6 (by rw [T.n6]; omega) (by omega), q3, kif_f (by rw [ka_le (by omega) (by omega)]; omega)]
        unfold X10_isAhead_b63
        rw [hE]
        simp only [t1 (Or.inr g2)]
      · have l1 := M.signAt_le hp (k := i) (by omega)
        have l2 := M.signAt_le hq (k := i) (by omega)
        rw [kif_f (by rw [ka_lt (by omega) (by omega)]; omega), kV_k T.d0, M.signAt hp (k := i) (by omega), kb_ret, kV_k T.d0, M.signAt hq (k := i) (by omega), kb_ret]
        by_cases g3 : (sTl (mn h) p).getD i 0 = (sTl (mn h) q).getD i 0
        · rw [kif_t (by rw [g3]), nI_1]
          exact ih (i + 1) (by omega) (by omega) (by omega) (fun k hk => by
            by_cases hki : k = i
            · rw [hki]; exact g3
            · exact h4 k (by omega))
        · rw [kif_f (by rw [ka_eq (by omega) (by omega)]; exact g3)]
          unfold X10_isAhead_b43
          rw [gN_k T.d0 T.r9, gAI_k T.d6 (by rw [T.n6]; omega) (by omega), p3, kif_f (by rw [ka_lt (by omega) (by omega)]; omega), gN_k T.d0 T.r9, gAI_k T.d6 (by rw [T.n6]; omega) (by omega), q3, kif_t (by rw [ka_le (by omega) (by omega)]; omega)]
          unfold X10_isAhead_b68
          rw [kif_t rfl, kV_k T.d0, M.signAt hp (k := i) (by omega), kb_ret, kV_k T.d0, M.signAt hq (k := i) (by omega), kb_ret]
          simp only [t2 (by omega) (by omega) g3]
          by_cases g4 : (sTl (mn h) q).getD i 0 ≤ (sTl (mn h) p).getD i 0
          · rw [kif_t (by rw [ka_le (by omega) (by omega)]; exact g4), if_neg (by omega)]
            rfl
          · rw [kif_f (by rw [ka_le (by omega) (by omega)]; exact g4), if_pos (by omega)]
            rfl
theorem MX.ahead (M : MX h) {p q : Nat} (hp : p < mn h 0 8) (hq : q < mn h 0 8) : f_X10_isAhead 0 (nI p) (nI q) h = kret (if sTl (mn h) p < sTl (mn h) q then 1 else 0) h :=
  M.aheadL hp hq kF 0 (by omega) (by omega) (by unfold kF; omega) (fun k hk => by omega)
end KAHEAD
/-! the best plate -/
def isBest (m : Nat → Nat → Nat) (r : Nat) (S : Nat → Prop) (b : Nat) : Prop := S b ∧ ∃ cb, sCost m r b = some cb ∧ ∀ q c, S q → sCost m r q = some c → cb < c ∨ cb = c ∧ (q = b ∨ sTl m b < sTl m q)
def bestOf (m : Nat → Nat → Nat) (r : Nat) (S : Nat → Prop) (o : Option Nat) : Prop := match o with
  | none => ∀ q, S q → sCost m r q = none
  | some b => isBest m r S b
theorem bestOf_uniq {m : Nat → Nat → Nat} {r : Nat} {S : Nat → Prop} {o o' : Option Nat} (h : bestOf m r S o) (h' : bestOf m r S o') : o = o' := by
  cases o with
  | none =>
    cases o' with
    | none => rfl
    | some b =>
      obtain ⟨s1, cb, s2, -⟩ := h'
      rw [h b s1] at s2
      cases s2
  | some a =>
    obtain ⟨t1, ca, t2, t3⟩ := h
    cases o' with
    | none =>
      rw [h' a t1] at t2
      cases t2
    | some b =>
      obtain ⟨s1, cb, s2, s3⟩ := h'
      have e1 := t3 b cb s1 s2
      have e2 := s3 a ca t1 t2
      rcases e1 with e1 | ⟨e1, rfl | e1'⟩
      · omega
      · rfl
      · rcases e2 with e2 | ⟨-, rfl | e2'⟩
        · omega
        · rfl
        · exact absurd e2' (List.lt_asymm e1')
theorem bestOf_sub {m : Nat → Nat → Nat} {r : Nat} {S S' : Nat → Prop} {o : Option Nat} (h : bestOf m r S o) (e : ∀ q, S q ↔ S' q) : bestOf m r S' o := by
  cases o with
  | none => exact fun q hq => h q ((e q).2 hq)
  | some b =>
    obtain ⟨s1, cb, s2, s3⟩ := h
    exact ⟨(e b).1 s1, cb, s2, fun q c hq => s3 q c ((e q).2 hq)⟩
theorem sBest_of {m : Nat → Nat → Nat} {r P : Nat} (hd : ∀ p q, p < q → q < P → sTl m p ≠ sTl m q) : ∀ k, k ≤ P → bestOf m r (fun q => q < k) (sBest m r k) := by
  intro k
  induction k with
  | zero => intro _ q hq; exact absurd hq (Nat.not_lt_zero _)
  | succ k ih =>
    intro hk
    have h1 := ih (by omega)
    unfold sBest
    cases e1 : sCost m r k with
    | none =>
      show bestOf m r _ (sBest m r k)
      cases e2 : sBest m r k with
      | none =>
        rw [e2] at h1
        intro q hq
        by_cases hqk : q = k
        · rw [hqk]; exact e1
        · exact h1 q (by omega)
      | some b =>
        rw [e2] at h1
        obtain ⟨s1, cb, s2, s3⟩ := h1
        refine ⟨by omega, cb, s2, fun q c hq hc => ?_⟩
        by_cases hqk : q = k
        · rw [hqk, e1] at hc; cases hc
        · exact s3 q c (by omega) hc
    | some c =>
      cases e2 : sBest m r k with
      | none =>
        rw [e2] at h1
        refine ⟨by omega, c, e1, fun q c' hq hc => ?_⟩
        by_cases hqk : q = k
        · rw [hqk, e1] at hc
          cases hc
          exact Or.inr ⟨rfl, Or.inl hqk⟩
        · rw [h1 q (by omega)] at hc
          cases hc
      | some b =>
        rw [e2] at h1
        obtain ⟨s1, cb, s2, s3⟩ := h1
        show bestOf m r _ (if c < (sCost m r b).getD 0 ∨ (c = (sCost m r b).getD 0 ∧ sTl m k < sTl m b) then some k else some b)
        rw [s2]
        show bestOf m r _ (if c < cb ∨ (c = cb ∧ sTl m k < sTl m b) then some k else some b)
        by_cases g : c < cb ∨ (c = cb ∧ sTl m k < sTl m b)
        · rw [if_pos g]
          refine ⟨by omega, c, e1, fun q c' hq hc => ?_⟩
          by_cases hqk : q = k
          · rw [hqk, e1] at hc
            cases hc
            exact Or.inr ⟨rfl, Or.inl hqk⟩
          · have h4 := s3 q c' (by omega) hc
            rcases g with g | ⟨g, g'⟩
            · left
              omega
            · rcases h4 with h4 | ⟨h4, h5⟩
              · left
                omega
              · right
                refine ⟨by omega, Or.inr ?_⟩
                rcases h5 with h5 | h5
                · rw [h5]; exact g'
                · exact List.lt_trans g' h5
        · rw [if_neg g]
          refine ⟨by omega, cb, s2, fun q c' hq hc => ?_⟩
          by_cases hqk : q = k
          · rw [hqk, e1] at hc
            cases hc
            by_cases g2 : cb < c
            · exact Or.inl g2
            · have g3 : cb = c := Classical.byContradiction fun z => g (Or.inl (by omega))
              refine Or.inr ⟨g3, Or.inr ?_⟩
              rw [hqk]
              rcases tl_tri (sTl m b) (sTl m k) with z | z | z
              · exact z
              · exact absurd z (hd b k (by omega) (by omega))
              · exact absurd (Or.inr ⟨g3.symm, z⟩) g
          · exact s3 q c' (by omega) hc
theorem sBest_lt {m : Nat → Nat → Nat} {r : Nat} : ∀ k b, sBest m r k = some b → b < k ∧ ∃ c, sCost m r b = some c := by
  intro k
  induction k with
  | zero => intro b h; cases h
  | succ k ih =>
    intro b h
    unfold sBest at h
    cases e1 : sCost m r k with
    | none =>
      rw [e1] at h
      obtain ⟨i1, i2⟩ := ih b h
      exact ⟨by omega, i2⟩
    | some c =>
      rw [e1] at h
      cases e2 : sBest m r k with
      | none =>
        rw [e2] at h
        cases h
        exact ⟨by omega, c, e1⟩
      | some b' =>
        rw [e2] at h
        have h' : (if c < (sCost m r b').getD 0 ∨ (c = (sCost m r b').getD 0 ∧ sTl m k < sTl m b') then some k else some b') = some b := h
        split at h'
        · cases h'
          exact ⟨by omega, c, e1⟩
        · cases h'
          obtain ⟨i1, i2⟩ := ih _ e2
          exact ⟨by omega, i2⟩
theorem sCost_le {m : Nat → Nat → Nat} {r p t : Nat} (h : sCost m r p = some t) : t ≤ 2 * m 14 r := by
  unfold sCost at h
  split at h
  · exact sCst_le _ _ h
  · cases h
end
section
/-! the plate of a reading: the model's -/
def bL (m : Nat → Nat → Nat) (r : Nat) (o : Option Nat) : Int32 := match o with
  | some b => cOf (sCost m r b)
  | none => -1
theorem MX.pfL {h : KH} (M : MX h) {r : Nat} (hr : r < mn h 0 16) (h0 : kI h 16 r = 0) : ∀ (f k : Nat), k ≤ mn h 0 8 → mn h 0 8 < k + f → X10_plateFor_L7 f 0 (nI r) (cOf (sBest (mn h) r k)) (bL (mn h) r (sBest (mn h) r k)) (nI k) h = kret (cOf (sBest (mn h) r (mn h 0 8))) h := by
  intro f
  induction f with
  | zero => intro k h1 h2; omega
  | succ f ih =>
    intro k h1 h2
    have MM := M
    obtain ⟨T, ⟨m1, m1'⟩, ⟨m2, -⟩, m3, m4, -⟩ := MM
    obtain ⟨-, -, ⟨-, l2⟩, -⟩ := m4 r hr
    unfold X10_plateFor_L7 X10_plateFor_b7
    rw [gI_k T.d0, m1']
    by_cases hk : mn h 0 8 ≤ k
    · rw [kif_t (by rw [ka_le (by omega) (by omega)]; exact hk), show k = mn h 0 8 by omega]
      unfold X10_plateFor_b79
      rw [gN_k T.d0 T.r21, gAI_k T.d16 (by rw [T.n16]; omega) (by omega), h0, kif_t rfl]
      rfl
    · have e := ih (k + 1) (by omega) (by omega)
      rw [← nI_1] at e
      have hstep : sBest (mn h) r (k + 1) = match sCost (mn h) r k with
        | none => sBest (mn h) r k
        | some c => match sBest (mn h) r k with
          | none => some k
          | some b => if c < (sCost (mn h) r b).getD 0 ∨ (c = (sCost (mn h) r b).getD 0 ∧ sTl (mn h) k < sTl (mn h) b) then some k else some b := rfl
      rw [kif_f (by rw [ka_le (by omega) (by omega)]; exact hk), gN_k T.d0 T.r21, gAI_k T.d16 (by rw [T.n16]; omega) (by omega), h0, kif_t rfl, kV_k T.d0, M.cost hr (by omega), kb_ret]
      cases e1 : sCost (mn h) r k with
      | none =>
        rw [e1] at hstep
        have hstep' : sBest (mn h) r (k + 1) = sBest (mn h) r k := hstep
        rw [hstep'] at e
        rw [kif_t (show cOf none = -1 from rfl)]
        exact e
      | some c =>
        rw [e1] at hstep
        have hc := sCost_le e1
        rw [kif_f (by show ¬ nI c = -1; rw [ka_n1 (by omega)]; exact fun z => z)]
        cases e2 : sBest (mn h) r k with
        | none =>
          rw [e2] at hstep
          have hstep' : sBest (mn h) r (k + 1) = some k := hstep
          rw [hstep'] at e
          rw [kif_t (show cOf none = -1 from rfl)]
          unfold X10_plateFor_b67 X10_plateFor_b73
          have e' : bL (mn h) r (some k) = cOf (some c) := by
            show cOf (sCost (mn h) r k) = _
            rw [e1]
          rw [e'] at e
          exact e
        | some b =>
          obtain ⟨hb, cb, ecb⟩ := sBest_lt _ _ e2
          have hcb := sCost_le ecb
          rw [e2] at hstep
          have hstep' : sBest (mn h) r (k + 1) = if c < cb ∨ (c = cb ∧ sTl (mn h) k < sTl (mn h) b) then some k else some b := by
            rw [hstep]
            show (if c < (sCost (mn h) r b).getD 0 ∨ (c = (sCost (mn h) r b).getD 0 ∧ sTl (mn h) k < sTl (mn h) b) then some k else some b) = _
            rw [ecb]
            rfl
          have ebl : bL (mn h) r (some b) = nI cb := by
            show cOf (sCost (mn h) r b) = _
            rw [ecb]
            rfl
          have e' : bL (mn h) r (some k) = cOf (some c) := by
            show cOf (sCost (mn h) r k) = _
            rw [e1]
          rw [kif_f (by show ¬ nI b = -1; rw [ka_n1 (by omega)]; exact fun z => z), ebl]
          by_cases g1 : c < cb
          · rw [if_pos (Or.inl g1)] at hstep'
            rw [hstep', e'] at e
            rw [kif_t (by show nI c < nI cb; rw [ka_lt (by omega) (by omega)]; exact g1)]
            exact e
          · rw [kif_f (by show ¬ nI c < nI cb; rw [ka_lt (by omega) (by omega)]; exact g1)]
            by_cases g2 : c = cb
            · rw [kif_t (by show nI c = nI cb; rw [g2]), kV_k T.d0]
              rw [show cOf (some b) = nI b from rfl, M.ahead (by omega) (by omega), kb_ret]
              by_cases g3 : sTl (mn h) k < sTl (mn h) b
              · rw [if_pos (Or.inr ⟨g2, g3⟩)] at hstep'
                rw [hstep', e'] at e
                rw [if_pos g3, kif_f (by decide)]
                exact e
              · rw [if_neg (fun z => z.elim g1 (fun z => g3 z.2))] at hstep'
                rw [hstep', ebl] at e
                rw [if_neg g3, kif_t rfl]
                exact e
            · rw [if_neg (fun z => z.elim g1 (fun z => g2 z.1))] at hstep'
              rw [hstep', ebl] at e
              rw [kif_f (by show ¬ nI c = nI cb; rw [ka_eq (by omega) (by omega)]; exact g2)]
              exact e
theorem MX.plateFor {h : KH} (M : MX h) {r : Nat} (hr : r < mn h 0 16) : f_X10_plateFor 0 (nI r) h = kret (cOf (sPF h r)) h := by
  have MM := M
  obtain ⟨T, ⟨m1, m1'⟩, ⟨m2, -⟩, m3, m4, m5, -⟩ := MM
  unfold f_X10_plateFor sPF
  rcases m5 r hr with ⟨e1, e2⟩ | ⟨e1, e2, e3⟩
  · rw [if_pos e2]
    exact M.pfL hr e1 kF 0 (by omega) (by unfold kF; omega)
  · rw [if_neg (by rw [e2]; decide)]
    have hb79 : X10_plateFor_b79 0 (nI r) (-1) h = kret (kI h 17 r) h := by
      unfold X10_plateFor_b79
      rw [gN_k T.d0 T.r21, gAI_k T.d16 (by rw [T.n16]; omega) (by omega), e1, kif_f (by decide), gN_k T.d0 T.r22, gAI_k T.d17 (by rw [T.n17]; omega) (by omega)]
      rfl
    have hv : kI h 17 r = cOf (if kI h 17 r = -1 then none else some (mn h 17 r)) := by
      rcases e3 with e3 | ⟨q, hq, e3⟩
      · rw [if_pos e3, e3]
        rfl
      · rw [if_neg (by rw [e3, ka_n1 (by omega)]; exact fun z => z), mn_of e3 (by omega), e3]
        rfl
    rw [← hv]
    obtain ⟨f, hf⟩ : ∃ f, kF = f + 1 := ⟨999, rfl⟩
    rw [hf]
    unfold X10_plateFor_L7 X10_plateFor_b7
    rw [gI_k T.d0, m1']
    by_cases hk : mn h 0 8 ≤ 0
    · rw [kif_t (by rw [show (0 : Int32) = nI 0 from rfl, ka_le (by omega) (by omega)]; exact hk), hb79]
    · rw [kif_f (by rw [show (0 : Int32) = nI 0 from rfl, ka_le (by omega) (by omega)]; exact hk), gN_k T.d0 T.r21, gAI_k T.d16 (by rw [T.n16]; omega) (by omega), e1, kif_f (by decide), hb79]
theorem MX.pf_lt {h : KH} (M : MX h) {r p : Nat} (hr : r < mn h 0 16) (e : sPF h r = some p) : p < mn h 0 8 := by
  unfold sPF at e
  rcases M.2.2.2.2.2.1 r hr with ⟨e1, e2⟩ | ⟨e1, e2, e3⟩
  · rw [if_pos e2] at e
    exact (sBest_lt _ _ e).1
  · rw [if_neg (by rw [e2]; decide)] at e
    rcases e3 with e3 | ⟨q, hq, e3⟩
    · rw [if_pos e3] at e
      cases e
    · rw [if_neg (by rw [e3, ka_n1 (by have := M.2.1.1; omega)]; exact fun z => z)] at e
      cases e
      rw [mn_of e3 (by have := M.2.1.1; omega)]
      exact hq
/-! the plate of a reading: the class's -/
def pAd (o : Option Nat) : Option Nat := o.map (fun p => 100 + 8 * p)
def bX (m : Nat → Nat → Nat) (r : Nat) (o : Option Nat) : Int32 := match o with
  | some b => cOf (sCost m r b)
  | none => 0
theorem kCx.pbL {hx hm : KH} (K : kCx hx hm) {r : Nat} {o : List Nat} (hr : r < mn hm 0 16) (ol : o.length = mn hm 0 8) (om : ∀ k, k < o.length → o.getD k 0 < mn hm 0 8) (op : ∀ a b, a < b → b < o.length → sTl (mn hm) (o.getD a 0) < sTl (mn hm) (o.getD b 0)) (oe : ∀ k, k < o.length → kR hx 27 k = some (100 + 8 * o.getD k 0)) (h14 : mn hm 14 r ≤ 6) :
    ∀ (f i : Nat) (b : Option Nat), i ≤ o.length → o.length < i + f → bestOf (mn hm) r (fun q => ∃ k, k < i ∧ q = o.getD k 0) b → ∃ b', X9_plateByText_L7 f 0 (200 + 4 * r) (pAd b) (bX (mn hm) r b) (nI i) hx = kret (pAd b') hx ∧ bestOf (mn hm) r (fun q => ∃ k, k < o.length ∧ q = o.getD k 0) b' := by
  have S := K.1.1
  have hP := K.P
  intro f
  induction f with
  | zero => intro i b h1 h2; omega
  | succ f ih =>
    intro i b h1 h2 h3
    unfold X9_plateByText_L7 X9_plateByText_b7
    rw [gI_k S.d0, hP.1]
    by_cases hi : mn hm 0 8 ≤ i
    · refine ⟨b, ?_, ?_⟩
      · rw [kif_t (by rw [ka_le (by omega) (by omega)]; exact hi)]
      · rw [show o.length = i by omega]
        exact h3
    · have hil : i < o.length := by omega
      have hpl := om i hil
      have eo := oe i hil
      have hcl := fun c (e1 : sCost (mn hm) r (o.getD i 0) = some c) => sCost_le e1
      rw [kif_f (by rw [ka_le (by omega) (by omega)]; exact hi), gN_k S.d0 S.r0_5, gAN_k S.d27 (by rw [S.n27]; omega) (by omega) eo, gN_k S.d0 S.r0_3, gN_k (K.rd hr).1.1 (K.rd hr).2.1.2.1, gN_k (K.2.2.2.2.1.2.1 _ hpl).1.1 (K.2.2.2.2.1.2.1 _ hpl).2.1.2.1, kV_k S.d24, K.cost hr hpl, kb_ret]
      cases e1 : sCost (mn hm) r (o.getD i 0) with
      | none =>
        rw [kif_t (show cOf none = -1 from rfl)]
        unfold X9_plateByText_b65
        rw [nI_1]
        refine ih (i + 1) b (by omega) (by omega) ?_
        cases b with
        | none =>
          rintro q ⟨k, hk, rfl⟩
          by_cases hki : k = i
          · rw [hki]; exact e1
          · exact h3 _ ⟨k, by omega, rfl⟩
        | some b =>
          obtain ⟨⟨k0, hk0, hb0⟩, cb, s2, s3⟩ := h3
          refine ⟨⟨k0, by omega, hb0⟩, cb, s2, ?_⟩
          rintro q c ⟨k, hk, rfl⟩ hc
          by_cases hki : k = i
          · rw [hki, e1] at hc; cases hc
          · exact s3 _ c ⟨k, by omega, rfl⟩ hc
      | some c =>
        have hc := hcl c e1
        rw [kif_f (by show ¬ nI c = -1; rw [ka_n1 (by omega)]; exact fun z => z)]
        cases b with
        | none =>
          show ∃ b', X9_plateByText_L7 f 0 (200 + 4 * r) (some (100 + 8 * o.getD i 0)) (nI c) (nI i + 1) hx = _ ∧ _
          have e' : bX (mn hm) r (some (o.getD i 0)) = nI c := by
            show cOf (sCost (mn hm) r (o.getD i 0)) = _
            rw [e1]
            rfl
          rw [nI_1, ← e']
          refine ih (i + 1) (some (o.getD i 0)) (by omega) (by omega) ⟨⟨i, by omega, rfl⟩, c, e1, ?_⟩
          rintro q c' ⟨k, hk, rfl⟩ hc'
          by_cases hki : k = i
          · rw [hki, e1] at hc'
            cases hc'
            exact Or.inr ⟨rfl, Or.inl (by rw [hki])⟩
          · rw [h3 _ ⟨k, by omega, rfl⟩] at hc'
            cases hc'
        | some b =>
          obtain ⟨⟨k0, hk0, hb0⟩, cb, s2, s3⟩ := h3
          have hcb := sCost_le s2
          have ebx : bX (mn hm) r (some b) = nI cb := by
            show cOf (sCost (mn hm) r b) = _
            rw [s2]
            rfl
          show ∃ b', kif (bX (mn hm) r (some b) ≤ nI c) (X9_plateByText_L7 f 0 (200 + 4 * r) (some (100 + 8 * b)) (bX (mn hm) r (some b)) (nI i + 1) hx) (X9_plateByText_L7 f 0 (200 + 4 * r) (some (100 + 8 * o.getD i 0)) (nI c) (nI i + 1) hx) = _ ∧ _
          have hlt : sTl (mn hm) b < sTl (mn hm) (o.getD i 0) := by
            rw [hb0]
            exact op k0 i hk0 hil
          by_cases g : cb ≤ c
          · rw [kif_t (by rw [ebx, ka_le (by omega) (by omega)]; exact g), nI_1]
            refine ih (i + 1) (some b) (by omega) (by omega) ⟨⟨k0, by omega, hb0⟩, cb, s2, ?_⟩
            rintro q c' ⟨k, hk, rfl⟩ hc'
            by_cases hki : k = i
            · rw [hki] at hc' ⊢
              rw [e1] at hc'
              cases hc'
              by_cases g2 : cb < c
              · exact Or.inl g2
              · exact Or.inr ⟨by omega, Or.inr hlt⟩
            · exact s3 _ c' ⟨k, by omega, rfl⟩ hc'
          · have e' : bX (mn hm) r (some (o.getD i 0)) = nI c := by
              show cOf (sCost (mn hm) r (o.getD i 0)) = _
              rw [e1]
              rfl
            rw [kif_f (by rw [ebx, ka_le (by omega) (by omega)]; exact g), nI_1, ← e']
            refine ih (i + 1) (some (o.getD i 0)) (by omega) (by omega) ⟨⟨i, by omega, rfl⟩, c, e1, ?_⟩
            rintro q c' ⟨k, hk, rfl⟩ hc'
            by_cases hki : k = i
            · rw [hki, e1] at hc'
              cases hc'
              exact Or.inr ⟨rfl, Or.inl (by rw [hki])⟩
            · have h4 := s3 _ c' ⟨k, by omega, rfl⟩ hc'
              left
              omega
theorem kCx.byText {hx hm : KH} (K : kCx hx hm) {r : Nat} (hr : r < mn hm 0 16) : f_X9_plateByText 0 (200 + 4 * r) hx = kret (pAd (sBest (mn hm) r (mn hm 0 8))) hx := by
  obtain ⟨o, ol, om, op, oe⟩ := K.2.2.2.2.2.1
  have hgm : ∀ k, k < o.length → o.getD k 0 ∈ o := fun k hk => by
    rw [List.getD_eq_getElem?_getD, List.getElem?_eq_getElem hk]
    exact List.getElem_mem hk
  have hop : ∀ a b, a < b → b < o.length → sTl (mn hm) (o.getD a 0) < sTl (mn hm) (o.getD b 0) := fun a b hab hb => by
    have := List.pairwise_iff_getElem.1 op a b (by omega) hb hab
    rw [List.getD_eq_getElem?_getD, List.getElem?_eq_getElem (show a < o.length by omega), List.getD_eq_getElem?_getD, List.getElem?_eq_getElem hb]
    exact this
  have h14 : mn hm 14 r ≤ 6 := by
    obtain ⟨-, -, -, -, -, n, n1, n2, n3, n4, n5⟩ := K.rd hr
    rw [mn_of n4 (by omega)]
    exact n2
  obtain ⟨b', e1, e2⟩ := K.pbL hr ol (fun k hk => (om _).1 (hgm k hk)) hop oe h14 kF 0 none (by omega) (by have := K.P.2.2; unfold kF; omega) (by rintro q ⟨k, hk, -⟩; omega)
  have e3 := sBest_of (m := mn hm) (r := r) (P := mn hm 0 8) K.2.2.2.2.1.2.2 (mn hm 0 8) (Nat.le_refl _)
  have e4 := bestOf_uniq (bestOf_sub e2 (S' := fun q => q < mn hm 0 8) (fun q => ⟨by rintro ⟨k, hk, rfl⟩; exact (om _).1 (hgm k hk), fun hq => by
    obtain ⟨k, hk, ek⟩ := List.getElem_of_mem ((om q).2 hq)
    exact ⟨k, hk, by rw [List.getD_eq_getElem?_getD, List.getElem?_eq_getElem hk]; exact ek.symm⟩⟩)) e3
  rw [← e4]
  exact e1
theorem kCx.numberOf {hx hm : KH} (K : kCx hx hm) {o : Option Nat} (ho : ∀ p, o = some p → p < mn hm 0 8) : f_X9_numberOf (pAd o) hx = kret (cOf o) hx := by
  cases o with
  | none => rfl
  | some p =>
    have c := K.2.2.2.2.1.2.1 p (ho p rfl)
    unfold f_X9_numberOf
    show gI hx (100 + 8 * p) 5 0 (fun x1 => X9_numberOf_b12 x1 hx) = _
    rw [gI_k c.1.1, c.2.2.1]
    rfl
theorem RR.plateR {j : Nat} {hx hm : KH} (R : RR j hx hm) {r : Nat} (hr : r < mn hm 0 16) : kR hx (200 + 4 * r) 5 = pAd (sPF hm r) := by
  obtain ⟨a, b, c, d, e, f, g, i⟩ := R.2.2.2.2.2.2.2.2.2.2.2.1.2.1 r hr
  exact i
theorem sPF_thr (h : KH) (v : Int32) (r : Nat) : sPF (sI h 0 35 v) r = sPF h r := sPF_cg (h := h) (h' := sI h 0 35 v) rfl (fun a ha k => by
  rw [kI_sI, if_neg (by omega)]) r
/-- plateOf -/
theorem o_plateOf : OPI (fun a b c h => f_X9_plateOf 0 a h) (fun a b c h => f_X10_plateOf 0 a h) (mp1 3) := by
  intro j hx hm a b c hj R
  have S := R.1.1.X 0
  have T := R.1.2
  have K := (R.X 0).kCx
  have M := R.MX
  have hR := M.2.2.1.1
  rcases ka_below a (mn hm 0 16) (by omega) with ⟨r, hr, rfl, q1, q2⟩ | hq
  · refine op_rd R (cOf (sPF hm r)) ?_ ?_
    · show f_X9_plateOf 0 (nI r) (sX hx 0) = _
      unfold f_X9_plateOf
      rw [kV_k S.d0, K.reading hr q1 q2, kb_ret, gR_k (K.rd hr).1.1, (R.X 0).plateR hr, K.numberOf (fun p e => M.pf_lt hr e), kb_ret]
    · show f_X10_plateOf 0 (nI r) hm = _
      unfold f_X10_plateOf
      rw [kV_k T.d0, M.isReading q1 q2, kb_ret, kif_f (by decide)]
      unfold X10_plateOf_b14
      rw [kV_k T.d0, can_0 T, kb_ret, kif_f (by decide), kV_k (T.thr 0).d0, (M.thr 0).plateFor hr, kb_ret, sPF_thr]
      rfl
  · refine op_no R 3 1 0 rfl (by decide) ?_ ?_
    · show f_X9_plateOf 0 a (sX hx 0) = _
      unfold f_X9_plateOf
      rw [kV_k S.d0, K.readingNo hq]
      rfl
    · show f_X10_plateOf 0 a hm = _
      unfold f_X10_plateOf
      rw [kV_k T.d0, M.isReadingNo hq, kb_ret, kif_t rfl]
      unfold X10_plateOf_b14
      rw [kV_k T.d0, can_n T (show (1 : Int32) ≠ 0 by decide), kb_ret, kif_t rfl]
      rfl
end
section
/-! the rows of passings: one trip or not, who is ahead -/
theorem x11_at : ∀ i, i < 8 → xR11l.getD i none = some (12 + i) := by decide
theorem xD12_at : ∀ i, i < 8 → xDl.getD (12 + i) 0 = 21 ∧ xNl.getD (12 + i) 0 = 8 := by decide
section KROW
variable {hx hm : KH}
theorem kCx.between (K : kCx hx hm) {i j : Nat} (hi : i < 8) (hj : j < 8) : f_X6_between 1 (nI i) (nI j) hx = kret (kI hm 2 (8 * i + j)) hx := by
  have S := K.1.1
  have e1 := S.1 (12 + i) (by omega)
  have e2 := xD12_at i hi
  unfold f_X6_between
  rw [gN_k S.d1 S.r1_1, gAN_k S.d11 (by rw [S.n11]; exact hi) (by omega) ((S.2.2.2.2.1 i hi).trans (x11_at i hi)), gAI_k (e1.1.trans e2.1) (by rw [e1.2, e2.2]; exact hj) (by omega), (K.2.2.1 i j hi hj).1]
theorem kCx.gate (K : kCx hx hm) {r : Nat} (hr : r < mn hm 0 16) : mn hm 12 r < 8 ∧ kI hx (200 + 4 * r) 1 = nI (mn hm 12 r) := by
  obtain ⟨-, -, -, ⟨g, g1, g2, g3⟩, -⟩ := K.rd hr
  rw [mn_of g3 (by omega)]
  exact ⟨g1, g2⟩
theorem kCx.minute (K : kCx hx hm) {r : Nat} (hr : r < mn hm 0 16) : mn hm 13 r ≤ 50000 ∧ kI hx (200 + 4 * r) 2 = nI (mn hm 13 r) := by
  obtain ⟨-, -, -, -, ⟨g, g1, g2, g3⟩, -⟩ := K.rd hr
  rw [mn_of g3 (by omega)]
  exact ⟨g1, g2⟩
theorem kCx.pau (K : kCx hx hm) : mn hm 0 1 ≤ 500 ∧ kI hx 1 3 = nI (mn hm 0 1) := by
  obtain ⟨n, n1, n2, n3⟩ := K.2.1
  rw [mn_of n3 (by omega)]
  exact ⟨n1, n2⟩
theorem kCx.one (K : kCx hx hm) {r s : Nat} (hr : r < mn hm 0 16) (hs : s < mn hm 0 16) (hrs : mn hm 13 r ≤ mn hm 13 s) : f_X6_isOneTrip 1 (200 + 4 * r) (200 + 4 * s) hx = kret (if sBeg hm r s = true then 0 else 1) hx := by
  have S := K.1.1
  obtain ⟨g1, g2⟩ := K.gate hr
  obtain ⟨g3, g4⟩ := K.gate hs
  obtain ⟨m1, m2⟩ := K.minute hr
  obtain ⟨m3, m4⟩ := K.minute hs
  obtain ⟨p1, p2⟩ := K.pau
  unfold f_X6_isOneTrip
  rw [gI_k (K.rd hr).1.1, gI_k (K.rd hs).1.1, g2, g4, kV_k S.d1, K.between g1 g3, kb_ret, gI_k (K.rd hs).1.1, gI_k (K.rd hr).1.1, m2, m4, ka_sub hrs]
  unfold sBeg
  rcases (K.2.2.1 _ _ g1 g3).2 with e | ⟨n, hn, e⟩
  · rw [kif_t e, e]
    rfl
  · have hmn : mn hm 2 (8 * mn hm 12 r + mn hm 12 s) = n := mn_of e (by omega)
    have hn1 : ¬ nI n = -1 := by
      rw [ka_n1 (by omega)]
      exact fun z => z
    rw [hmn, e, kif_f hn1, gI_k S.d1, p2, show (2 : Int32) = nI 2 from rfl, ka_mul, ka_add]
    by_cases q1 : 2 * n + mn hm 0 1 < mn hm 13 s - mn hm 13 r
    · rw [kif_t (by rw [ka_lt (by omega) (by omega)]; exact q1), if_pos (by simp [q1])]
      rfl
    · rw [kif_f (by rw [ka_lt (by omega) (by omega)]; exact q1), show (4 : Int32) = nI 4 from rfl, ka_mul]
      by_cases q2 : 4 * (mn hm 13 s - mn hm 13 r) < n
      · rw [kif_t (by rw [ka_lt (by omega) (by omega)]; exact q2), if_pos (by simp [q2])]
        rfl
      · rw [kif_f (by rw [ka_lt (by omega) (by omega)]; exact q2), if_neg (by simp [q1, q2, hn1])]
        rfl
theorem kCx.ahd (K : kCx hx hm) {r s : Nat} (hr : r < mn hm 0 16) (hs : s < mn hm 0 16) : f_X5_isAheadOf (200 + 4 * r) (200 + 4 * s) hx = kret (if mn hm 13 r < mn hm 13 s ∨ mn hm 13 r = mn hm 13 s ∧ r < s then 1 else 0) hx := by
  obtain ⟨m1, m2⟩ := K.minute hr
  obtain ⟨m3, m4⟩ := K.minute hs
  have hR := K.R.2.2
  unfold f_X5_isAheadOf
  rw [gI_k (K.rd hr).1.1, gI_k (K.rd hs).1.1, m2, m4]
  by_cases q1 : mn hm 13 r < mn hm 13 s
  · rw [kif_t (by rw [ka_lt (by omega) (by omega)]; exact q1), if_pos (Or.inl q1)]
    rfl
  · rw [kif_f (by rw [ka_lt (by omega) (by omega)]; exact q1), gI_k (K.rd hr).1.1, gI_k (K.rd hs).1.1, m2, m4]
    by_cases q2 : mn hm 13 r = mn hm 13 s
    · rw [kif_t (by rw [q2]), gI_k (K.rd hr).1.1, gI_k (K.rd hs).1.1, (K.rd hr).2.2.1, (K.rd hs).2.2.1]
      by_cases q3 : s ≤ r
      · rw [kif_t (by rw [ka_le (by omega) (by omega)]; exact q3), if_neg (by omega)]
        rfl
      · rw [kif_f (by rw [ka_le (by omega) (by omega)]; exact q3), if_pos (by omega)]
        rfl
    · rw [kif_f (by rw [ka_eq (by omega) (by omega)]; exact q2), if_neg (by omega)]
      rfl
end KROW
/-! a row: an object of passings, its readings, its begins -/
def aOK (a : Nat) : Prop := a = 33 ∨ 100 ≤ a ∧ a < 180 ∧ a % 8 = 0
def PSt (h : KH) (a : Nat) : Prop := kd h a = 4 ∧ kd h (a + 1) = 26 ∧ kn h (a + 1) = 60 ∧ kd h (a + 2) = 23 ∧ kn h (a + 2) = 60 ∧ kR h a 0 = some (a + 1) ∧ kR h a 1 = some (a + 2)
def PRw (h : KH) (a : Nat) (l : List Nat) : Prop := l.length ≤ 60 ∧ kI h a 2 = nI l.length ∧ ∀ k, k < l.length → kR h (a + 1) k = some (200 + 4 * l.getD k 0)
def PBe (hx hm : KH) (a : Nat) (l : List Nat) : Prop := ∀ k, k < l.length → kI hx (a + 2) k = if sBegAt hm l k then 1 else 0
def LOK (hm : KH) (l : List Nat) : Prop := (∀ k, k < l.length → l.getD k 0 < mn hm 0 16) ∧ ∀ i k, i < k → k < l.length → sBef (mn hm) (l.getD i 0) (l.getD k 0)
def DA (a i k : Nat) : Prop := i = a ∧ k = 2 ∨ i = a + 1 ∨ i = a + 2
theorem DA.dk {a : Nat} (h : aOK a) : ∀ i k, DA a i k → DK i k := by
  intro i k q
  unfold aOK at h
  unfold DA at q
  unfold DK
  omega
theorem PSt.fr {h h' : KH} {a : Nat} {D : Nat → Nat → Prop} (P : PSt h a) (ag : kAg D h h') (hD : ∀ k, k < 2 → ¬ D a k) : PSt h' a := by
  obtain ⟨p1, p2, p3, p4, p5, p6, p7⟩ := P
  have k1 := ag.k a (by rw [p1]; decide)
  have k2 := ag.k (a + 1) (by rw [p2]; decide)
  have k3 := ag.k (a + 2) (by rw [p4]; decide)
  exact ⟨by rw [k1.1, p1], by rw [k2.1, p2], by rw [k2.2, p3], by rw [k3.1, p4], by rw [k3.2, p5], by rw [(ag.1 a 0 (hD 0 (by decide))).2.2, p6], by rw [(ag.1 a 1 (hD 1 (by decide))).2.2, p7]⟩
theorem LOK.m {hm : KH} {l : List Nat} (L : LOK hm l) {i k : Nat} (h1 : i < k) (h2 : k < l.length) : mn hm 13 (l.getD i 0) ≤ mn hm 13 (l.getD k 0) := by
  have := L.2 i k h1 h2
  unfold sBef at this
  omega
theorem pAZ_k {α : Type} {h : KH} {a c i : Nat} {v : Int32} {f : KH → KO α} (h1 : kd h a = c) (h2 : i < kn h a) (h3 : i < 2147483648) (h4 : v = 0 ∨ v = 1) : pAZ h a c (nI i) v f = f (sI h a i v) := by
  unfold pAZ
  rw [nI_clamp h3, if_pos ⟨h1, by rintro (q | q); exact nI_pos h3 q; omega, h4⟩]
theorem pAN_k {α : Type} {h : KH} {a c cv i v : Nat} {f : KH → KO α} (h1 : kd h a = c) (h2 : i < kn h a) (h3 : i < 2147483648) (h4 : kd h v = cv) : pAN h a c cv (nI i) v f = f (sR h a i (some v)) := by
  unfold pAN
  rw [nI_clamp h3, if_pos ⟨h1, by rintro (q | q); exact nI_pos h3 q; omega, h4⟩]
section KROW2
variable {hx hm : KH} {a : Nat} {l : List Nat}
/-- seeBeginning -/
theorem kCx.see (K : kCx hx hm) (P : PSt hx a) (W : PRw hx a l) (L : LOK hm l) {k : Nat} (hk : k < 2147483648) : f_X3_seeBeginning a (nI k) 1 hx = kret () (if k < l.length then sI hx (a + 2) k (if sBegAt hm l k then 1 else 0) else hx) := by
  obtain ⟨p1, p2, p3, p4, p5, p6, p7⟩ := P
  obtain ⟨w1, w2, w3⟩ := W
  unfold f_X3_seeBeginning
  rw [gI_k p1, w2]
  by_cases hq : l.length ≤ k
  · rw [kif_t (by rw [ka_le (by omega) hk]; exact hq), if_neg (by omega)]
    rfl
  · rw [kif_f (by rw [ka_le (by omega) hk]; exact hq), if_pos (by omega), gN_k p1 p7]
    by_cases h0 : k = 0
    · subst h0
      rw [kif_t (show nI 0 = 0 from rfl)]
      unfold X3_seeBeginning_b38 X3_seeBeginning_b43
      rw [pAZ_k p4 (by omega) (by omega) (Or.inr rfl)]
      rfl
    · obtain ⟨i, rfl⟩ : ∃ i, k = i + 1 := ⟨k - 1, by omega⟩
      have e0 : ¬ nI (i + 1) = 0 := by rw [show (0 : Int32) = nI 0 from rfl, ka_eq (by omega) (by omega)]; omega
      rw [kif_f e0, gN_k p1 p6, ka_pred (by omega), gAN_k p2 (by omega) (by omega) (w3 (i + 1 - 1) (by omega)), gN_k p1 p6, gAN_k p2 (by omega) (by omega) (w3 (i + 1) (by omega)), kV_k K.1.1.d1, K.one (L.1 _ (by omega)) (L.1 _ (by omega)) (L.m (by omega) (by omega)), kb_ret]
      show kif ((if sBeg hm (l.getD i 0) (l.getD (i + 1) 0) = true then (0 : Int32) else 1) = 0) _ _ = kret () (sI hx (a + 2) (i + 1) (if sBeg hm (l.getD i 0) (l.getD (i + 1) 0) = true then 1 else 0))
      by_cases g : sBeg hm (l.getD i 0) (l.getD (i + 1) 0) = true
      · rw [if_pos g, if_pos g, kif_t rfl]
        unfold X3_seeBeginning_b38 X3_seeBeginning_b43
        rw [pAZ_k p4 (by omega) (by omega) (Or.inr rfl)]
        rfl
      · rw [if_neg g, if_neg g, kif_f (by decide)]
        unfold X3_seeBeginning_b43
        rw [pAZ_k p4 (by omega) (by omega) (Or.inl rfl)]
        rfl
/-- joinAll -/
theorem PRw.I {h : KH} (W : PRw h a l) (k : Nat) (v : Int32) : PRw (sI h (a + 2) k v) a l := by
  obtain ⟨w1, w2, w3⟩ := W
  exact ⟨w1, by rw [kI_sI, if_neg (by omega)]; exact w2, w3⟩
theorem kCx.joinL (hA : aOK a) : ∀ (f i : Nat) (hx : KH), kCx hx hm → PSt hx a → PRw hx a l → LOK hm l → (∀ k, k < i → k < l.length → kI hx (a + 2) k = if sBegAt hm l k then 1 else 0) → i ≤ l.length → l.length < i + f → ∃ h', X3_joinAll_L2 f a 1 (nI i) hx = kret () h' ∧ kAg (fun j k => j = a + 2 ∧ k < l.length) hx h' ∧ PBe h' hm a l := by
  intro f
  induction f with
  | zero => intro i hx _ _ _ _ _ h1 h2; omega
  | succ f ih =>
    intro i hx K P W L hB h1 h2
    unfold X3_joinAll_L2 X3_joinAll_b2
    rw [gI_k P.1, W.2.1]
    by_cases hi : l.length ≤ i
    · refine ⟨hx, by rw [kif_t (by rw [ka_le (by have := W.1; omega) (by have := W.1; omega)]; exact hi)], (kAg.rf hx).sub (fun _ _ z => z.elim), fun k hk => hB k (by omega) hk⟩
    · have ag := kAg.I hx (a + 2) i (if sBegAt hm l i then 1 else 0)
      rw [kif_f (by rw [ka_le (by have := W.1; omega) (by have := W.1; omega)]; exact hi), kV_k P.1, K.see P W L (by have := W.1; omega), kb_ret, if_pos (by omega), nI_1]
      obtain ⟨h', e1, e2, e3⟩ := ih (i + 1) (sI hx (a + 2) i (if sBegAt hm l i then 1 else 0)) (K.fr ag (fun j k q => DA.dk hA j k (by unfold DA; omega))) (P.fr ag (fun k hk z => by omega)) (W.I i _) L (fun k hk hkl => by
        rw [kI_sI]
        by_cases hki : k = i
        · rw [if_pos ⟨rfl, hki⟩, hki]
        · rw [if_neg (by omega)]
          exact hB k (by omega) hkl) (by omega) (by omega)
      exact ⟨h', e1, ag.trans e2 (fun j k q z => q (by omega)) (fun j k q z => q z), e3⟩
theorem kCx.joinAll (K : kCx hx hm) (hA : aOK a) (P : PSt hx a) (W : PRw hx a l) (L : LOK hm l) : ∃ h', f_X3_joinAll a 1 hx = kret () h' ∧ kAg (fun j k => j = a + 2 ∧ k < l.length) hx h' ∧ PBe h' hm a l :=
  kCx.joinL hA kF 0 hx K P W L (fun k hk => by omega) (by omega) (by have := W.1; unfold kF; omega)
end KROW2
end
section
/-! a reading into a row -/
def SH (hx h' : KH) (a len i : Nat) : Prop := (∀ k, k < i → kR h' (a + 1) k = kR hx (a + 1) k ∧ kI h' (a + 2) k = kI hx (a + 2) k) ∧ ∀ k, i ≤ k → k < len → kR h' (a + 1) (k + 1) = kR hx (a + 1) k ∧ kI h' (a + 2) (k + 1) = kI hx (a + 2) k
theorem kCx.insL {hx hm : KH} {a r N : Nat} {l : List Nat} (hA : aOK a) (W : PRw hx a l) (L : LOK hm l) (hr : r < mn hm 0 16) (hl : l.length < 60) (hN : l.length ≤ N) : ∀ (f i : Nat) (h' : KH), kCx h' hm → PSt h' a → kI h' a 2 = nI l.length → kAg (fun j k => j = a + 1 ∨ j = a + 2) hx h' → SH hx h' a l.length i → (∀ k, k < N → kI h' (a + 2) k = 0 ∨ kI h' (a + 2) k = 1) → i ≤ l.length → i < f → ∃ h'' i', X3_insertInOrder_L5 f a (200 + 4 * r) (nI i) h' = kret (nI i') h'' ∧ i' ≤ i ∧ kAg (DA a) hx h'' ∧ SH hx h'' a l.length i' ∧ (∀ k, k < N → kI h'' (a + 2) k = 0 ∨ kI h'' (a + 2) k = 1) ∧ kR h'' (a + 1) i' = some (200 + 4 * r) ∧ kI h'' a 2 = nI (l.length + 1) ∧ (∀ k, i' ≤ k → k < i → sBef (mn hm) r (l.getD k 0)) ∧ (i' = 0 ∨ ¬ sBef (mn hm) r (l.getD (i' - 1) 0)) := by
  intro f
  induction f with
  | zero => intro i h' _ _ _ _ _ _ h1 h2; omega
  | succ f ih =>
    intro i h' K P hc ag Q z h1 h2
    have P' := P
    obtain ⟨p1, p2, p3, p4, p5, p6, p7⟩ := P'
    have hexit : (i = 0 ∨ ¬ sBef (mn hm) r (l.getD (i - 1) 0)) → ∃ h'' i', X3_insertInOrder_b58 a (200 + 4 * r) (nI i) h' = kret (nI i') h'' ∧ i' ≤ i ∧ kAg (DA a) hx h'' ∧ SH hx h'' a l.length i' ∧ (∀ k, k < N → kI h'' (a + 2) k = 0 ∨ kI h'' (a + 2) k = 1) ∧ kR h'' (a + 1) i' = some (200 + 4 * r) ∧ kI h'' a 2 = nI (l.length + 1) ∧ (∀ k, i' ≤ k → k < i → sBef (mn hm) r (l.getD k 0)) ∧ (i' = 0 ∨ ¬ sBef (mn hm) r (l.getD (i' - 1) 0)) := by
      intro hex
      refine ⟨sI (sR h' (a + 1) i (some (200 + 4 * r))) a 2 (nI (l.length + 1)), i, ?_, Nat.le_refl _, ?_, ⟨fun k hk => ?_, fun k hk hkl => ?_⟩, fun k hk => ?_, ?_, ?_, fun k q1 q2 => by omega, hex⟩
      · unfold X3_insertInOrder_b58
        rw [gN_k p1 p6, pAN_k p2 (by omega) (by omega) (K.rd hr).1.1, gI_k (show kd (sR h' (a + 1) i (some (200 + 4 * r))) a = 4 from p1), show kI (sR h' (a + 1) i (some (200 + 4 * r))) a 2 = nI l.length from hc, pI_k (show kd (sR h' (a + 1) i (some (200 + 4 * r))) a = 4 from p1), nI_1]
      · exact (ag.trans (F := DA a) (kAg.R h' (a + 1) i (some (200 + 4 * r))) (fun j k q w => q (by unfold DA; omega)) (fun j k q w => q (by unfold DA; omega))).trans (kAg.I _ a 2 _) (fun j k q => q) (fun j k q w => q (by unfold DA; omega))
      · rw [kR_sI, kR_sR, if_neg (by omega), kI_sI, if_neg (by omega)]
        exact Q.1 k hk
      · rw [kR_sI, kR_sR, if_neg (by omega), kI_sI, if_neg (by omega)]
        exact Q.2 k hk hkl
      · rw [kI_sI, if_neg (by omega)]
        exact z k hk
      · rw [kR_sI, kR_sR, if_pos ⟨rfl, rfl⟩]
      · rw [kI_sI, if_pos ⟨rfl, rfl⟩]
    unfold X3_insertInOrder_L5 X3_insertInOrder_b5
    by_cases h0 : i = 0
    · rw [kif_t (by rw [h0]; decide)]
      exact hexit (Or.inl h0)
    · obtain ⟨i, rfl⟩ : ∃ k, i = k + 1 := ⟨i - 1, by omega⟩
      have er : kR h' (a + 1) i = some (200 + 4 * l.getD i 0) := by rw [(Q.1 i (by omega)).1, W.2.2 i (by omega)]
      have hs := L.1 i (by omega)
      rw [kif_f (by rw [show (0 : Int32) = nI 0 from rfl, ka_le (by omega) (by omega)]; omega), gN_k p1 p6, ka_pred (by omega), show i + 1 - 1 = i from rfl, gAN_k p2 (by omega) (by omega) er, kV_k (K.rd hr).1.1, K.ahd hr hs, kb_ret]
      by_cases g : mn hm 13 r < mn hm 13 (l.getD i 0) ∨ mn hm 13 r = mn hm 13 (l.getD i 0) ∧ r < l.getD i 0
      · have hx2 : kI (sR h' (a + 1) (i + 1) (some (200 + 4 * l.getD i 0))) (a + 2) i = 0 ∨ kI (sR h' (a + 1) (i + 1) (some (200 + 4 * l.getD i 0))) (a + 2) i = 1 := z i (by omega)
        have U1 : kd (sR h' (a + 1) (i + 1) (some (200 + 4 * l.getD i 0))) a = 4 := p1
        have U2 : kd (sR h' (a + 1) (i + 1) (some (200 + 4 * l.getD i 0))) (a + 2) = 23 := p4
        have U3 : kR (sR h' (a + 1) (i + 1) (some (200 + 4 * l.getD i 0))) a 1 = some (a + 2) := by rw [kR_sR, if_neg (by omega)]; exact p7
        have U4 : kn (sR h' (a + 1) (i + 1) (some (200 + 4 * l.getD i 0))) (a + 2) = 60 := p5
        rw [if_pos g, kif_f (by decide), gN_k p1 p6, gN_k p1 p6, gAN_k p2 (by omega) (by omega) er, pAN_k p2 (by omega) (by omega) (K.rd hs).1.1, gN_k U1 U3, gN_k U1 U3, gAI_k U2 (by omega) (by omega), pAZ_k U2 (by omega) (by omega) hx2, ka_dec (by omega), show i + 1 - 1 = i from rfl]
        have ag1 : kAg (fun j k => j = a + 1 ∨ j = a + 2) h' (sI (sR h' (a + 1) (i + 1) (some (200 + 4 * l.getD i 0))) (a + 2) (i + 1) (kI (sR h' (a + 1) (i + 1) (some (200 + 4 * l.getD i 0))) (a + 2) i)) :=
          (kAg.R h' (a + 1) (i + 1) (some (200 + 4 * l.getD i 0))).trans (kAg.I _ (a + 2) (i + 1) _) (fun j k q w => q (by omega)) (fun j k q w => q (by omega))
        obtain ⟨h'', i', e1, e2, e3, e4, e5, e6, e7, e8, e9⟩ := ih i _ (K.fr ag1 (fun j k q => DA.dk hA j k (by unfold DA; omega))) (P.fr ag1 (fun k hk w => by omega)) (by rw [kI_sI, if_neg (by omega)]; exact hc) (ag.trans ag1 (fun j k q => q) (fun j k q => q)) ⟨fun k hk => by
            rw [kR_sI, kR_sR, if_neg (by omega), kI_sI, if_neg (by omega)]
            exact Q.1 k (by omega), fun k hk hkl => by
            by_cases hki : k = i
            · subst hki
              rw [kR_sI, kR_sR, if_pos ⟨rfl, rfl⟩, kI_sI, if_pos ⟨rfl, rfl⟩]
              exact ⟨er.symm.trans (Q.1 k (by omega)).1, (Q.1 k (by omega)).2⟩
            · rw [kR_sI, kR_sR, if_neg (by omega), kI_sI, if_neg (by omega)]
              exact Q.2 k (by omega) hkl⟩ (fun k hk => by
            rw [kI_sI]
            by_cases hki : k = i + 1
            · rw [if_pos ⟨rfl, hki⟩]
              exact hx2
            · rw [if_neg (by omega)]
              exact z k hk) (by omega) (by omega)
        refine ⟨h'', i', e1, by omega, e3, e4, e5, e6, e7, fun k q1 q2 => ?_, e9⟩
        by_cases hki : k = i
        · rw [hki]; exact g
        · exact e8 k q1 (by omega)
      · rw [if_neg g, kif_t rfl]
        exact hexit (Or.inr g)
theorem ins_at {l : List Nat} {i r : Nat} (hi : i ≤ l.length) (k : Nat) : (l.insertIdx i r).getD k 0 = if k < i then l.getD k 0 else if k = i then r else l.getD (k - 1) 0 := by
  rw [List.getD_eq_getElem?_getD, List.getElem?_insertIdx]
  split
  · rw [List.getD_eq_getElem?_getD]
  · split
    · rw [if_pos (by omega)]
      rfl
    · rw [List.getD_eq_getElem?_getD]
theorem ins_len {l : List Nat} {i r : Nat} (hi : i ≤ l.length) : (l.insertIdx i r).length = l.length + 1 := by
  rw [List.length_insertIdx, if_pos hi]
theorem sBef_tr {m : Nat → Nat → Nat} {a b c : Nat} (h1 : sBef m a b) (h2 : sBef m b c) : sBef m a c := by
  unfold sBef at *
  omega
theorem sBef_to {m : Nat → Nat → Nat} {a b : Nat} (h1 : ¬ sBef m a b) (h2 : a ≠ b) : sBef m b a := by
  unfold sBef at *
  omega
theorem LOK.ins {hm : KH} {l : List Nat} {i r : Nat} (L : LOK hm l) (hi : i ≤ l.length) (hr : r < mn hm 0 16) (hnr : ∀ k, k < l.length → l.getD k 0 ≠ r) (h1 : ∀ k, i ≤ k → k < l.length → sBef (mn hm) r (l.getD k 0)) (h2 : i = 0 ∨ ¬ sBef (mn hm) r (l.getD (i - 1) 0)) : LOK hm (l.insertIdx i r) := by
  have h3 : ∀ k, k < i → sBef (mn hm) (l.getD k 0) r := fun k hk => by
    rcases h2 with h2 | h2
    · omega
    · have h4 := sBef_to h2 (hnr (i - 1) (by omega)).symm
      by_cases hki : k = i - 1
      · rw [hki]; exact h4
      · exact sBef_tr (L.2 k (i - 1) (by omega) (by omega)) h4
  refine ⟨fun k hk => ?_, fun j k hjk hk => ?_⟩
  · rw [ins_len hi] at hk
    rw [ins_at hi]
    split
    · exact L.1 k (by omega)
    · split
      · exact hr
      · exact L.1 _ (by omega)
  · rw [ins_len hi] at hk
    rw [ins_at hi, ins_at hi]
    by_cases a1 : j < i
    · rw [if_pos a1]
      by_cases a2 : k < i
      · rw [if_pos a2]
        exact L.2 j k hjk (by omega)
      · rw [if_neg a2]
        by_cases a3 : k = i
        · rw [if_pos a3]
          exact h3 j a1
        · rw [if_neg a3]
          exact L.2 j (k - 1) (by omega) (by omega)
    · rw [if_neg a1, if_neg (show ¬ k < i by omega), if_neg (show ¬ k = i by omega)]
      by_cases a3 : j = i
      · rw [if_pos a3]
        exact h1 (k - 1) (by omega) (by omega)
      · rw [if_neg a3]
        exact L.2 (j - 1) (k - 1) (by omega) (by omega)
theorem kCx.ins {hx hm : KH} {a r N : Nat} {l : List Nat} (K : kCx hx hm) (hA : aOK a) (P : PSt hx a) (W : PRw hx a l) (L : LOK hm l) (hr : r < mn hm 0 16) (hnr : ∀ k, k < l.length → l.getD k 0 ≠ r) (hl : l.length < 60) (hN : l.length ≤ N) (z : ∀ k, k < N → kI hx (a + 2) k = 0 ∨ kI hx (a + 2) k = 1) :
    ∃ h' i, f_X3_insertInOrder a (200 + 4 * r) hx = kret (nI i) h' ∧ i ≤ l.length ∧ kAg (DA a) hx h' ∧ SH hx h' a l.length i ∧ (∀ k, k < N → kI h' (a + 2) k = 0 ∨ kI h' (a + 2) k = 1) ∧ PRw h' a (l.insertIdx i r) ∧ LOK hm (l.insertIdx i r) := by
  obtain ⟨h', i, e1, e2, e3, e4, e5, e6, e7, e8, e9⟩ := kCx.insL hA W L hr hl hN kF l.length hx K P W.2.1 ((kAg.rf hx).sub (fun _ _ w => w.elim)) ⟨fun k hk => ⟨rfl, rfl⟩, fun k hk hkl => by omega⟩ z (Nat.le_refl _) (by unfold kF; omega)
  refine ⟨h', i, ?_, e2, e3, e4, e5, ⟨by rw [ins_len e2]; omega, by rw [ins_len e2]; exact e7, fun k hk => ?_⟩, L.ins e2 hr hnr (fun k q1 q2 => e8 k q1 q2) e9⟩
  · unfold f_X3_insertInOrder
    rw [gI_k P.1, W.2.1]
    exact e1
  · rw [ins_len e2] at hk
    rw [ins_at e2]
    by_cases a1 : k < i
    · rw [if_pos a1, (e4.1 k a1).1, W.2.2 k (by omega)]
    · rw [if_neg a1]
      by_cases a2 : k = i
      · rw [if_pos a2, a2, e6]
      · rw [if_neg a2]
        obtain ⟨k, rfl⟩ : ∃ q, k = q + 1 := ⟨k - 1, by omega⟩
        rw [(e4.2 k (by omega) (by omega)).1, W.2.2 k (by omega)]
        rfl
end
section
/-! a reading out of a row -/
theorem era_at {l : List Nat} {i : Nat} (k : Nat) : (l.eraseIdx i).getD k 0 = if k < i then l.getD k 0 else l.getD (k + 1) 0 := by
  rw [List.getD_eq_getElem?_getD, List.getElem?_eraseIdx]
  split <;> rw [List.getD_eq_getElem?_getD]
theorem era_len {l : List Nat} {i : Nat} (hi : i < l.length) : (l.eraseIdx i).length = l.length - 1 := List.length_eraseIdx_of_lt hi
theorem LOK.era {hm : KH} {l : List Nat} {i : Nat} (L : LOK hm l) (hi : i < l.length) : LOK hm (l.eraseIdx i) := by
  refine ⟨fun k hk => ?_, fun j k hjk hk => ?_⟩
  · rw [era_len hi] at hk
    rw [era_at]
    split
    · exact L.1 _ (by omega)
    · exact L.1 _ (by omega)
  · rw [era_len hi] at hk
    rw [era_at, era_at]
    split
    · split
      · exact L.2 j k hjk (by omega)
      · exact L.2 j (k + 1) (by omega) (by omega)
    · rw [if_neg (by omega)]
      exact L.2 (j + 1) (k + 1) (by omega) (by omega)
section KTAKE
variable {hx hm : KH} {a r : Nat} {l : List Nat}
theorem kCx.placeL (K : kCx hx hm) (P : PSt hx a) (W : PRw hx a l) (L : LOK hm l) {i : Nat} (hi : i < l.length) (hr : r < mn hm 0 16) (e : l.getD i 0 = r) : ∀ (f k : Nat), k ≤ i → i < k + f → X3_placeOf_L2 f a (200 + 4 * r) (nI k) hx = kret (nI i) hx := by
  have hR := K.R.2.2
  have w1 := W.1
  intro f
  induction f with
  | zero => intro k h1 h2; omega
  | succ f ih =>
    intro k h1 h2
    have hs := L.1 k (by omega)
    unfold X3_placeOf_L2 X3_placeOf_b2
    rw [gI_k P.1, W.2.1, kif_f (by rw [ka_le (by omega) (by omega)]; omega), gN_k P.1 P.2.2.2.2.2.1, gAN_k P.2.1 (by rw [P.2.2.1]; omega) (by omega) (W.2.2 k (by omega)), gI_k (K.rd hs).1.1, gI_k (K.rd hr).1.1, (K.rd hs).2.2.1, (K.rd hr).2.2.1]
    by_cases hk : k = i
    · rw [kif_t (by rw [hk, e]), hk]
    · have hne : ¬ l.getD k 0 = r := fun z => by
        have h3 := L.2 k i (by omega) hi
        rw [z, e] at h3
        unfold sBef at h3
        omega
      rw [kif_f (by rw [ka_eq (by omega) (by omega)]; exact hne), nI_1]
      exact ih (k + 1) (by omega) (by omega)
theorem kCx.placeOf (K : kCx hx hm) (P : PSt hx a) (W : PRw hx a l) (L : LOK hm l) {i : Nat} (hi : i < l.length) (hr : r < mn hm 0 16) (e : l.getD i 0 = r) : f_X3_placeOf a (200 + 4 * r) hx = kret (nI i) hx :=
  K.placeL P W L hi hr e kF 0 (by omega) (by have := W.1; unfold kF; omega)
def TK (hx h' : KH) (a len i k : Nat) : Prop := (∀ j, j < i → kR h' (a + 1) j = kR hx (a + 1) j ∧ kI h' (a + 2) j = kI hx (a + 2) j) ∧ (∀ j, i ≤ j → j < k → kR h' (a + 1) j = kR hx (a + 1) (j + 1) ∧ kI h' (a + 2) j = kI hx (a + 2) (j + 1)) ∧ ∀ j, k ≤ j → kR h' (a + 1) j = kR hx (a + 1) j ∧ kI h' (a + 2) j = kI hx (a + 2) j
theorem kCx.takeL (hA : aOK a) (W : PRw hx a l) (L : LOK hm l) (z : ∀ k, k < l.length → kI hx (a + 2) k = 0 ∨ kI hx (a + 2) k = 1) {i : Nat} (hi : i < l.length) : ∀ (f k : Nat) (h' : KH), kCx h' hm → PSt h' a → kI h' a 2 = nI (l.length - 1) → kAg (DA a) hx h' → TK hx h' a l.length i k → i ≤ k → k ≤ l.length - 1 → l.length < k + f → ∃ h'', X3_take_L25 f a 1 (nI i) (nI k) h' = kcallV 4 a h'' (f_X3_seeBeginning a (nI i) 1 h'') (fun _ h1 => kret () h1) ∧ kCx h'' hm ∧ PSt h'' a ∧ kI h'' a 2 = nI (l.length - 1) ∧ kAg (DA a) hx h'' ∧ TK hx h'' a l.length i (l.length - 1) := by
  intro f
  induction f with
  | zero => intro k h' _ _ _ _ _ h1 h2 h3; omega
  | succ f ih =>
    intro k h' K P hc ag Q h1 h2 h3
    have w1 := W.1
    have P' := P
    obtain ⟨p1, p2, p3, p4, p5, p6, p7⟩ := P'
    unfold X3_take_L25 X3_take_b25
    rw [gI_k p1, hc]
    by_cases hk : l.length - 1 ≤ k
    · obtain rfl : k = l.length - 1 := by omega
      refine ⟨h', ?_, K, P, hc, ag, Q⟩
      rw [kif_t (by rw [ka_le (by omega) (by omega)]; exact hk)]
    · have er : kR h' (a + 1) (k + 1) = some (200 + 4 * l.getD (k + 1) 0) := by rw [(Q.2.2 (k + 1) (by omega)).1, W.2.2 (k + 1) (by omega)]
      have hs := L.1 (k + 1) (by omega)
      have hx2 : kI (sR h' (a + 1) k (some (200 + 4 * l.getD (k + 1) 0))) (a + 2) (k + 1) = 0 ∨ kI (sR h' (a + 1) k (some (200 + 4 * l.getD (k + 1) 0))) (a + 2) (k + 1) = 1 := by
        rw [kI_sR, (Q.2.2 (k + 1) (by omega)).2]
        exact z (k + 1) (by omega)
      have U1 : kd (sR h' (a + 1) k (some (200 + 4 * l.getD (k + 1) 0))) a = 4 := p1
      have U2 : kd (sR h' (a + 1) k (some (200 + 4 * l.getD (k + 1) 0))) (a + 2) = 23 := p4
      have U3 : kR (sR h' (a + 1) k (some (200 + 4 * l.getD (k + 1) 0))) a 1 = some (a + 2) := by rw [kR_sR, if_neg (by omega)]; exact p7
      have U4 : kn (sR h' (a + 1) k (some (200 + 4 * l.getD (k + 1) 0))) (a + 2) = 60 := p5
      rw [kif_f (by rw [ka_le (by omega) (by omega)]; exact hk), gN_k p1 p6, gN_k p1 p6, nI_1, gAN_k p2 (by omega) (by omega) er, pAN_k p2 (by omega) (by omega) (K.rd hs).1.1, gN_k U1 U3, gN_k U1 U3, gAI_k U2 (by omega) (by omega), pAZ_k U2 (by omega) (by omega) hx2]
      have ag1 : kAg (DA a) h' (sI (sR h' (a + 1) k (some (200 + 4 * l.getD (k + 1) 0))) (a + 2) k (kI (sR h' (a + 1) k (some (200 + 4 * l.getD (k + 1) 0))) (a + 2) (k + 1))) :=
        (kAg.R h' (a + 1) k (some (200 + 4 * l.getD (k + 1) 0))).trans (kAg.I _ (a + 2) k _) (fun j k q w => q (by unfold DA; omega)) (fun j k q w => q (by unfold DA; omega))
      refine ih (k + 1) _ (K.fr ag1 (DA.dk hA)) (P.fr ag1 (fun k hk w => by unfold DA at w; omega)) (by rw [kI_sI, if_neg (by omega)]; exact hc) (ag.trans ag1 (fun j k q => q) (fun j k q => q)) ⟨fun j hj => ?_, fun j hj1 hj2 => ?_, fun j hj => ?_⟩ (by omega) (by omega) (by omega)
      · rw [kR_sI, kR_sR, if_neg (by omega), kI_sI, if_neg (by omega)]
        exact Q.1 j hj
      · by_cases hjk : j = k
        · subst hjk
          rw [kR_sI, kR_sR, if_pos ⟨rfl, rfl⟩, kI_sI, if_pos ⟨rfl, rfl⟩]
          exact ⟨er.symm.trans (Q.2.2 (j + 1) (by omega)).1, (Q.2.2 (j + 1) (by omega)).2⟩
        · rw [kR_sI, kR_sR, if_neg (by omega), kI_sI, if_neg (by omega)]
          exact Q.2.1 j hj1 (by omega)
      · rw [kR_sI, kR_sR, if_neg (by omega), kI_sI, if_neg (by omega)]
        exact Q.2.2 j (by omega)
theorem PBe.z (B : PBe hx hm a l) : ∀ k, k < l.length → kI hx (a + 2) k = 0 ∨ kI hx (a + 2) k = 1 := fun k hk => by
  rw [B k hk]
  split
  · exact Or.inr rfl
  · exact Or.inl rfl
theorem kCx.take (K : kCx hx hm) (hA : aOK a) (P : PSt hx a) (W : PRw hx a l) (L : LOK hm l) (B : PBe hx hm a l) {i : Nat} (hi : i < l.length) (hr : r < mn hm 0 16) (e : l.getD i 0 = r) : ∃ h', f_X3_take a (200 + 4 * r) 1 hx = kret () h' ∧ kAg (DA a) hx h' ∧ PRw h' a (l.eraseIdx i) ∧ LOK hm (l.eraseIdx i) ∧ PBe h' hm a (l.eraseIdx i) := by
  have w1 := W.1
  have ag0 : kAg (DA a) hx (sI hx a 2 (nI (l.length - 1))) := (kAg.I hx a 2 _).sub (fun j k q => by unfold DA; omega)
  obtain ⟨h'', e1, K2, P2, c2, ag2, Q⟩ := kCx.takeL hA W L B.z hi kF i (sI hx a 2 (nI (l.length - 1))) (K.fr ag0 (DA.dk hA)) (P.fr ag0 (fun k hk w => by unfold DA at w; omega)) (by rw [kI_sI, if_pos ⟨rfl, rfl⟩]) ag0 ⟨fun j hj => ⟨rfl, by rw [kI_sI, if_neg (by omega)]⟩, fun j hj1 hj2 => by omega, fun j hj => ⟨rfl, by rw [kI_sI, if_neg (by omega)]⟩⟩ (Nat.le_refl _) (by omega) (by unfold kF; omega)
  have W2 : PRw h'' a (l.eraseIdx i) := by
    refine ⟨by rw [era_len hi]; omega, by rw [era_len hi]; exact c2, fun k hk => ?_⟩
    rw [era_len hi] at hk
    rw [era_at]
    split
    · rw [(Q.1 k (by omega)).1, W.2.2 k (by omega)]
    · rw [(Q.2.1 k (by omega) hk).1, W.2.2 (k + 1) (by omega)]
  have L2 := L.era hi
  have hB : ∀ h3, (∀ k, k ≠ i → k < l.length - 1 → kI h3 (a + 2) k = kI h'' (a + 2) k) → (i < l.length - 1 → kI h3 (a + 2) i = if sBegAt hm (l.eraseIdx i) i then 1 else 0) → PBe h3 hm a (l.eraseIdx i) := by
    intro h3 g1 g2 k hk
    rw [era_len hi] at hk
    by_cases hki : k = i
    · rw [hki]
      exact g2 (by omega)
    · rw [g1 k hki hk]
      have hb : ∀ k', sBegAt hm (l.eraseIdx i) k = sBegAt hm l k' → k' < l.length → kI h'' (a + 2) k = kI hx (a + 2) k' → kI h'' (a + 2) k = if sBegAt hm (l.eraseIdx i) k then 1 else 0 := fun k' q1 q2 q3 => by
        rw [q3, q1]
        exact B k' q2
      by_cases hlt : k < i
      · refine hb k ?_ (by omega) (Q.1 k hlt).2
        cases k with
        | zero => rfl
        | succ k =>
          show sBeg hm _ _ = sBeg hm _ _
          rw [era_at, era_at, if_pos (by omega), if_pos (by omega)]
      · refine hb (k + 1) ?_ (by omega) (Q.2.1 k (by omega) hk).2
        cases k with
        | zero => omega
        | succ k =>
          show sBeg hm _ _ = sBeg hm _ _
          rw [era_at, era_at, if_neg (by omega), if_neg (by omega)]
  have hcall : f_X3_take a (200 + 4 * r) 1 hx = kcallV 4 a h'' (f_X3_seeBeginning a (nI i) 1 h'') (fun _ h1 => kret () h1) := by
    unfold f_X3_take
    rw [kV_k P.1, K.placeOf P W L hi hr e, kb_ret, kif_f (by rw [ka_n1 (by omega)]; exact fun z => z), gI_k P.1, W.2.1, pI_k P.1, ka_pred (by omega)]
    exact e1
  rw [hcall, kV_k P2.1, K2.see P2 W2 L2 (by omega), kb_ret]
  by_cases g : i < (l.eraseIdx i).length
  · rw [if_pos g]
    have agS := kAg.I h'' (a + 2) i (if sBegAt hm (l.eraseIdx i) i then 1 else 0)
    refine ⟨_, rfl, ag2.trans agS (fun j k q => q) (fun j k q w => q (by unfold DA; omega)), W2.I i _, L2, hB _ (fun k q1 q2 => ?_) (fun _ => ?_)⟩
    · rw [kI_sI, if_neg (by omega)]
    · rw [kI_sI, if_pos ⟨rfl, rfl⟩]
  · rw [if_neg g]
    rw [era_len hi] at g
    exact ⟨_, rfl, ag2, W2, L2, hB _ (fun k q1 q2 => rfl) (fun w => absurd w g)⟩
/-- put -/
theorem kCx.put (K : kCx hx hm) (hA : aOK a) (P : PSt hx a) (W : PRw hx a l) (L : LOK hm l) (B : PBe hx hm a l) (hr : r < mn hm 0 16) (hnr : ∀ k, k < l.length → l.getD k 0 ≠ r) (hl : l.length < 60) : ∃ h' i, i ≤ l.length ∧ f_X3_put a (200 + 4 * r) 1 hx = kret () h' ∧ kAg (DA a) hx h' ∧ PRw h' a (l.insertIdx i r) ∧ LOK hm (l.insertIdx i r) ∧ PBe h' hm a (l.insertIdx i r) := by
  obtain ⟨h1, i, e1, e2, e3, e4, -, W1, L1⟩ := K.ins hA P W L hr hnr hl (Nat.le_refl _) B.z
  have K1 := K.fr e3 (DA.dk hA)
  have P1 := P.fr e3 (fun k hk w => by unfold DA at w; omega)
  have agS := kAg.I h1 (a + 2) i (if sBegAt hm (l.insertIdx i r) i then 1 else 0)
  have K2 := K1.fr agS (fun j k q => DA.dk hA j k (by unfold DA; omega))
  have P2 := P1.fr agS (fun k hk w => by omega)
  have W2 := W1.I i (if sBegAt hm (l.insertIdx i r) i then 1 else 0)
  have hB : ∀ h3, (∀ k, k ≠ i → k ≠ i + 1 → k < l.length + 1 → kI h3 (a + 2) k = kI h1 (a + 2) k) → (kI h3 (a + 2) i = if sBegAt hm (l.insertIdx i r) i then 1 else 0) → (i + 1 < l.length + 1 → kI h3 (a + 2) (i + 1) = if sBegAt hm (l.insertIdx i r) (i + 1) then 1 else 0) → PBe h3 hm a (l.insertIdx i r) := by
    intro h3 g1 g2 g3 k hk
    rw [ins_len e2] at hk
    by_cases hki : k = i
    · rw [hki]; exact g2
    · by_cases hki2 : k = i + 1
      · rw [hki2]; exact g3 (by omega)
      · rw [g1 k hki hki2 hk]
        have hb : ∀ k', sBegAt hm (l.insertIdx i r) k = sBegAt hm l k' → k' < l.length → kI h1 (a + 2) k = kI hx (a + 2) k' → kI h1 (a + 2) k = if sBegAt hm (l.insertIdx i r) k then 1 else 0 := fun k' q1 q2 q3 => by
          rw [q3, q1]
          exact B k' q2
        by_cases hlt : k < i
        · refine hb k ?_ (by omega) (e4.1 k hlt).2
          cases k with
          | zero => rfl
          | succ k =>
            show sBeg hm _ _ = sBeg hm _ _
            rw [ins_at e2, ins_at e2, if_pos (by omega), if_pos (by omega)]
        · obtain ⟨k, rfl⟩ : ∃ q, k = q + 2 := ⟨k - 2, by omega⟩
          refine hb (k + 1) ?_ (by omega) (e4.2 (k + 1) (by omega) (by omega)).2
          show sBeg hm _ _ = sBeg hm _ _
          rw [ins_at e2, ins_at e2, if_neg (by omega), if_neg (by omega), if_neg (by omega), if_neg (by omega)]
          rfl
  unfold f_X3_put
  rw [kV_k P.1, e1, kb_ret, kV_k P1.1, K1.see P1 W1 L1 (by omega), kb_ret, if_pos (by rw [ins_len e2]; omega), kV_k P2.1, nI_1, K2.see P2 W2 L1 (by omega), kb_ret]
  by_cases g : i + 1 < (l.insertIdx i r).length
  · rw [if_pos g]
    have agT := kAg.I (sI h1 (a + 2) i (if sBegAt hm (l.insertIdx i r) i then 1 else 0)) (a + 2) (i + 1) (if sBegAt hm (l.insertIdx i r) (i + 1) then 1 else 0)
    refine ⟨_, i, e2, rfl, (e3.trans (F := DA a) agS (fun j k q => q) (fun j k q w => q (by unfold DA; omega))).trans agT (fun j k q => q) (fun j k q w => q (by unfold DA; omega)), W2.I (i + 1) _, L1, hB _ (fun k q1 q2 q3 => ?_) ?_ (fun _ => ?_)⟩
    · rw [kI_sI, if_neg (by omega), kI_sI, if_neg (by omega)]
    · rw [kI_sI, if_neg (by omega), kI_sI, if_pos ⟨rfl, rfl⟩]
    · rw [kI_sI, if_pos ⟨rfl, rfl⟩]
  · rw [if_neg g]
    rw [ins_len e2] at g
    refine ⟨_, i, e2, rfl, e3.trans agS (fun j k q => q) (fun j k q w => q (by unfold DA; omega)), W2, L1, hB _ (fun k q1 q2 q3 => ?_) ?_ (fun w => absurd w g)⟩
    · rw [kI_sI, if_neg (by omega)]
    · rw [kI_sI, if_pos ⟨rfl, rfl⟩]
end KTAKE
end
section
/-! whose readings are whose, as the class keeps it -/
def AS (hx hm : KH) (A : Nat → Option Nat) : Prop := (∀ r, r < mn hm 0 16 → kR hx (200 + 4 * r) 5 = pAd (A r) ∧ ∀ p, A r = some p → p < mn hm 0 8) ∧ ∀ p, p < mn hm 0 8 → ∃ l, LOK hm l ∧ (∀ r, r < mn hm 0 16 → (A r = some p ↔ ∃ k, k < l.length ∧ l.getD k 0 = r)) ∧ PRw hx (104 + 8 * p) l ∧ PBe hx hm (104 + 8 * p) l
theorem nd_len : ∀ (R : Nat) (l : List Nat), l.Nodup → (∀ x, x ∈ l → x < R) → l.length ≤ R := by
  intro R
  induction R with
  | zero =>
    intro l _ h
    cases l with
    | nil => exact Nat.le_refl _
    | cons x l => exact absurd (h x (by simp)) (Nat.not_lt_zero _)
  | succ R ih =>
    intro l hn h
    by_cases hR : R ∈ l
    · have e := List.length_erase_of_mem hR
      have h2 := ih (l.erase R) (hn.erase R) (fun x hx => by
        have h3 := (hn.mem_erase_iff).1 hx
        have := h x h3.2
        have := h3.1
        omega)
      omega
    · have h2 := ih l hn (fun x hx => by
        have := h x hx
        have : x ≠ R := fun z => hR (z ▸ hx)
        omega)
      omega
theorem gD_get {l : List Nat} {k : Nat} (hk : k < l.length) : l.getD k 0 = l[k] := by
  rw [List.getD_eq_getElem?_getD, List.getElem?_eq_getElem hk]
  rfl
theorem gD_mem {l : List Nat} {x : Nat} : x ∈ l ↔ ∃ k, k < l.length ∧ l.getD k 0 = x := by
  constructor
  · intro h
    obtain ⟨k, hk, e⟩ := List.getElem_of_mem h
    exact ⟨k, hk, by rw [gD_get hk]; exact e⟩
  · rintro ⟨k, hk, rfl⟩
    rw [gD_get hk]
    exact List.getElem_mem hk
theorem LOK.nd {hm : KH} {l : List Nat} (L : LOK hm l) : l.Nodup := by
  rw [List.Nodup, List.pairwise_iff_getElem]
  intro i j hi hj hij e
  have h := L.2 i j hij hj
  rw [gD_get hi, gD_get hj, e] at h
  unfold sBef at h
  omega
theorem LOK.len {hm : KH} {l : List Nat} (L : LOK hm l) {r : Nat} (hr : r < mn hm 0 16) (hnr : ∀ k, k < l.length → l.getD k 0 ≠ r) : l.length < mn hm 0 16 := by
  have h := nd_len (mn hm 0 16) (r :: l) (by
    rw [List.nodup_cons]
    exact ⟨fun z => by obtain ⟨k, hk, e⟩ := gD_mem.1 z; exact hnr k hk e, L.nd⟩) (fun x hx => by
    rcases List.mem_cons.1 hx with rfl | hx
    · exact hr
    · obtain ⟨k, hk, rfl⟩ := gD_mem.1 hx
      exact L.1 k hk)
  exact h
theorem LOK.len' {hm : KH} {l : List Nat} (L : LOK hm l) : l.length ≤ mn hm 0 16 := nd_len _ _ L.nd (fun x hx => by
    obtain ⟨k, hk, rfl⟩ := gD_mem.1 hx
    exact L.1 k hk)
theorem sRow.lok {hm : KH} {p : Nat} {l : List Nat} (s : sRow hm p l) : LOK hm l ∧ ∀ r, r < mn hm 0 16 → (sPF hm r = some p ↔ ∃ k, k < l.length ∧ l.getD k 0 = r) := by
  obtain ⟨s1, s2⟩ := s
  refine ⟨⟨fun k hk => ((s1 _).1 (gD_mem.2 ⟨k, hk, rfl⟩)).1, fun i k hik hk => ?_⟩, fun r hr => ?_⟩
  · have := List.pairwise_iff_getElem.1 s2 i k (by omega) hk hik
    rw [gD_get hk, gD_get (by omega)]
    exact this
  · rw [← gD_mem]
    exact ⟨fun z => (s1 r).2 ⟨hr, z⟩, fun z => ((s1 r).1 z).2⟩
theorem LOK.srow {hm : KH} {p : Nat} {l : List Nat} (L : LOK hm l) (e : ∀ r, r < mn hm 0 16 → (sPF hm r = some p ↔ ∃ k, k < l.length ∧ l.getD k 0 = r)) : sRow hm p l := by
  refine ⟨fun r => ⟨fun z => ?_, fun z => ?_⟩, ?_⟩
  · obtain ⟨k, hk, rfl⟩ := gD_mem.1 z
    exact ⟨L.1 k hk, (e _ (L.1 k hk)).2 ⟨k, hk, rfl⟩⟩
  · exact gD_mem.2 ((e r z.1).1 z.2)
  · rw [List.pairwise_iff_getElem]
    intro i j hi hj hij
    have := L.2 i j hij hj
    rw [gD_get hi, gD_get hj] at this
    exact this
theorem RR.AS {j : Nat} {hx hm : KH} (R : RR j hx hm) : AS hx hm (sPF hm) := by
  have M := R.MX
  refine ⟨fun r hr => ⟨R.plateR hr, fun p e => M.pf_lt hr e⟩, fun p hp => ?_⟩
  obtain ⟨l, l1, l2, l3⟩ := R.2.2.2.2.2.2.2.2.2.2.2.2.1 p hp
  obtain ⟨q1, q2⟩ := sRow.lok l1
  have hl := q1.len'
  have hR := M.2.2.1.1
  exact ⟨l, q1, q2, ⟨by omega, l2, fun k hk => by rw [show 104 + 8 * p + 1 = 105 + 8 * p by omega]; exact (l3 k hk).1⟩, fun k hk => by rw [show 104 + 8 * p + 2 = 106 + 8 * p by omega]; exact (l3 k hk).2⟩
/-- back: what is corrected, and what is kept, are the relation's parts -/
theorem RR.zer {j : Nat} {hx hm : KH} (R : RR j hx hm) : cZer hm := R.2.2.2.2.2.2.2.2.2.2.2.1.2.2
theorem cRea_of {hx hm : KH} (K : kCx hx hm) (Z : cZer hm) (C : cCor hx hm) (A : AS hx hm (sPF hm)) : cRea hx hm ∧ cPas hx hm := by
  refine ⟨⟨K.2.2.2.2.2.2.1, fun r hr => ?_, Z⟩, fun p hp => ?_⟩
  · obtain ⟨a, b, c, d, e, f⟩ := K.rd hr
    exact ⟨a, b, c, d, e, f, C r hr, (A.1 r hr).1⟩
  · obtain ⟨l, l1, l2, l3, l4⟩ := A.2 p hp
    refine ⟨l, l1.srow l2, l3.2.1, fun k hk => ⟨?_, ?_⟩⟩
    · have e := l3.2.2 k hk
      rw [show 104 + 8 * p + 1 = 105 + 8 * p by omega] at e
      exact e
    · have e := l4 k hk
      rw [show 104 + 8 * p + 2 = 106 + 8 * p by omega] at e
      exact e
theorem kCx.pst {hx hm : KH} (K : kCx hx hm) {p : Nat} (hp : p < mn hm 0 8) : PSt hx (104 + 8 * p) ∧ aOK (104 + 8 * p) ∧ kd hx (100 + 8 * p) = 5 ∧ kR hx (100 + 8 * p) 3 = some (104 + 8 * p) := by
  obtain ⟨⟨g1, -, -, -, g2, g3, g4, g5, g6⟩, ⟨-, -, -, g7, g8, g9⟩, -⟩ := K.2.2.2.2.1.2.1 p hp
  have hP := K.P.2.2
  refine ⟨⟨g2, ?_, ?_, ?_, ?_, ?_, ?_⟩, Or.inr (by omega), g1, g7⟩
  · rw [show 104 + 8 * p + 1 = 105 + 8 * p by omega]; exact g3
  · rw [show 104 + 8 * p + 1 = 105 + 8 * p by omega]; exact g4
  · rw [show 104 + 8 * p + 2 = 106 + 8 * p by omega]; exact g5
  · rw [show 104 + 8 * p + 2 = 106 + 8 * p by omega]; exact g6
  · rw [show 104 + 8 * p + 1 = 105 + 8 * p by omega]; exact g8
  · rw [show 104 + 8 * p + 2 = 106 + 8 * p by omega]; exact g9
theorem PRw.fr {h h' : KH} {a : Nat} {l : List Nat} {D : Nat → Nat → Prop} (W : PRw h a l) (ag : kAg D h h') (h1 : ¬ D a 2) (h2 : ∀ k, ¬ D (a + 1) k) : PRw h' a l := by
  obtain ⟨w1, w2, w3⟩ := W
  exact ⟨w1, by rw [(ag.1 a 2 h1).1]; exact w2, fun k hk => by rw [(ag.1 (a + 1) k (h2 k)).2.2]; exact w3 k hk⟩
theorem PBe.fr {h h' hm : KH} {a : Nat} {l : List Nat} {D : Nat → Nat → Prop} (W : PBe h hm a l) (ag : kAg D h h') (h2 : ∀ k, ¬ D (a + 2) k) : PBe h' hm a l := fun k hk => by
  rw [(ag.1 (a + 2) k (h2 k)).1]
  exact W k hk
def uP (A : Nat → Option Nat) (r : Nat) (o : Option Nat) : Nat → Option Nat := fun s => if s = r then o else A s
theorem cOf_inj {a b : Option Nat} (ha : ∀ p, a = some p → p < 2147483648) (hb : ∀ p, b = some p → p < 2147483648) : (cOf a = cOf b) = (a = b) := by
  rw [eq_iff_iff]
  constructor
  · intro h
    cases a with
    | none =>
      cases b with
      | none => rfl
      | some q =>
        have h' : (-1 : Int32) = nI q := h
        rw [ka_n1' (hb q rfl)] at h'
        exact h'.elim
    | some p =>
      cases b with
      | none =>
        have h' : nI p = -1 := h
        rw [ka_n1 (ha p rfl)] at h'
        exact h'.elim
      | some q => rw [nI_inj h (ha p rfl) (hb q rfl)]
  · intro h
    rw [h]
def DM (i k : Nat) : Prop := (100 ≤ i ∧ i < 180 ∧ (i % 8 = 0 ∧ k = 2 ∨ i % 8 = 1 ∨ i % 8 = 2)) ∨ (200 ≤ i ∧ i < 440 ∧ i % 4 = 0 ∧ k = 5)
theorem DM.dk : ∀ i k, DM i k → DK i k := fun i k h => h.elim Or.inl (fun z => Or.inr (Or.inl z))
theorem kCx.move {hx hm : KH} {A : Nat → Option Nat} (K : kCx hx hm) (As : AS hx hm A) {r : Nat} (hr : r < mn hm 0 16) {o : Option Nat} (ho : ∀ p, o = some p → p < mn hm 0 8) : ∃ h', f_X9_move 0 (200 + 4 * r) (pAd o) hx = kret () h' ∧ kAg DM hx h' ∧ AS h' hm (uP A r o) := by
  have hP := K.P.2.2
  have hR := K.R.2.2
  have S := K.1.1
  obtain ⟨eA, hAr⟩ := As.1 r hr
  have kr := (K.rd hr).1.1
  unfold f_X9_move
  rw [gR_k kr, eA, K.numberOf hAr, kb_ret, K.numberOf ho, kb_ret]
  by_cases g : A r = o
  · refine ⟨hx, by rw [kif_t (by rw [g])], (kAg.rf hx).sub (fun _ _ z => z.elim), ?_⟩
    have e : uP A r o = A := by
      funext s
      unfold uP
      split
      · rename_i q; rw [q, g]
      · rfl
    rw [e]
    exact As
  · rw [kif_f (by rw [cOf_inj (fun p e => by have := hAr p e; omega) (fun p e => by have := ho p e; omega)]; exact g), gR_k kr, eA]
    -- the way in: h2 where the reading stands in no row
    have hin : ∀ h2 : KH, kCx h2 hm → kAg DM hx h2 → (∀ p, p < mn hm 0 8 → ∃ l, LOK hm l ∧ (∀ s, s < mn hm 0 16 → (s ≠ r ∧ A s = some p ↔ ∃ k, k < l.length ∧ l.getD k 0 = s)) ∧ PRw h2 (104 + 8 * p) l ∧ PBe h2 hm (104 + 8 * p) l) → (∀ s, s < mn hm 0 16 → s ≠ r → kR h2 (200 + 4 * s) 5 = pAd (A s)) → ∃ h', X9_move_b37 0 (200 + 4 * r) (pAd o) h2 = kret () h' ∧ kAg DM hx h' ∧ AS h' hm (uP A r o) := by
      intro h2 K2 ag2 q1 q2
      have ag3 : kAg DM h2 (sR h2 (200 + 4 * r) 5 (pAd o)) := (kAg.R h2 (200 + 4 * r) 5 _).sub (fun j k z => by unfold DM; omega)
      have K3 := K2.fr ag3 DM.dk
      have ag3' := kAg.R h2 (200 + 4 * r) 5 (pAd o)
      unfold X9_move_b37
      rw [pR_k (K2.rd hr).1.1]
      have hRd : ∀ (h3 : KH) (D : Nat → Nat → Prop), kAg D (sR h2 (200 + 4 * r) 5 (pAd o)) h3 → (∀ s, ¬ D (200 + 4 * s) 5) → ∀ s, s < mn hm 0 16 → kR h3 (200 + 4 * s) 5 = pAd (uP A r o s) ∧ ∀ p, uP A r o s = some p → p < mn hm 0 8 := by
        intro h3 D ag nD s hs
        rw [(ag.1 _ _ (nD s)).2.2]
        unfold uP
        by_cases hsr : s = r
        · rw [if_pos hsr, hsr, kR_sR, if_pos ⟨rfl, rfl⟩]
          exact ⟨rfl, ho⟩
        · rw [if_neg hsr, kR_sR, if_neg (by omega)]
          exact ⟨q2 s hs hsr, (As.1 s hs).2⟩
      cases o with
      | none =>
        refine ⟨_, rfl, ag2.trans ag3 (fun j k q => q) (fun j k q => q), hRd _ _ (kAg.rf _) (fun s z => z), fun p hp => ?_⟩
        obtain ⟨l, l1, l2, l3, l4⟩ := q1 p hp
        refine ⟨l, l1, fun s hs => ?_, l3.fr ag3' (by omega) (fun k => by omega), l4.fr ag3' (fun k => by omega)⟩
        rw [← l2 s hs]
        unfold uP
        by_cases hsr : s = r
        · rw [if_pos hsr]
          exact ⟨fun z => (by cases z), fun z => absurd hsr z.1⟩
        · rw [if_neg hsr]
          exact ⟨fun z => ⟨hsr, z⟩, fun z => z.2⟩
      | some p =>
        have hp := ho p rfl
        obtain ⟨P3, hA3, kp, kq⟩ := K3.pst hp
        obtain ⟨l, l1, l2, l3, l4⟩ := q1 p hp
        have hnr : ∀ k, k < l.length → l.getD k 0 ≠ r := fun k hk z => by
          exact ((l2 r hr).2 ⟨k, hk, z⟩).1 rfl
        have hlen := l1.len hr hnr
        obtain ⟨h4, i, i1, e1, e2, e3, e4, e5⟩ := K3.put hA3 P3 (l3.fr ag3' (by omega) (fun k => by omega)) l1 (l4.fr ag3' (fun k => by omega)) hr hnr (by omega)
        have agD : kAg DM (sR h2 (200 + 4 * r) 5 (pAd (some p))) h4 := e2.sub (fun j k z => by unfold DA at z; unfold DM; omega)
        show ∃ h', gN (sR h2 (200 + 4 * r) 5 (some (100 + 8 * p))) (100 + 8 * p) 5 3 (fun a2 => gN (sR h2 (200 + 4 * r) 5 (some (100 + 8 * p))) 0 10 0 (fun a3 => kcallV 4 a2 (sR h2 (200 + 4 * r) 5 (some (100 + 8 * p))) (f_X3_put a2 (200 + 4 * r) a3 (sR h2 (200 + 4 * r) 5 (some (100 + 8 * p)))) (fun _ h2 => X9_move_b58 h2))) = kret () h' ∧ _
        refine ⟨h4, ?_, (ag2.trans ag3 (fun j k q => q) (fun j k q => q)).trans agD (fun j k q => q) (fun j k q => q), hRd _ _ e2 (fun s z => by unfold DA at z; omega), fun q hq => ?_⟩
        · rw [gN_k (h := sR h2 (200 + 4 * r) 5 (some (100 + 8 * p))) kp kq, gN_k (h := sR h2 (200 + 4 * r) 5 (some (100 + 8 * p))) K3.1.1.d0 K3.1.1.r0_0, kV_k (h := sR h2 (200 + 4 * r) 5 (some (100 + 8 * p))) P3.1]
          show kbind (f_X3_put (104 + 8 * p) (200 + 4 * r) 1 (sR h2 (200 + 4 * r) 5 (pAd (some p)))) _ = _
          rw [e1, kb_ret]
          rfl
        · by_cases hqp : q = p
          · subst hqp
            refine ⟨_, e4, fun s hs => ?_, e3, e5⟩
            unfold uP
            by_cases hsr : s = r
            · rw [if_pos hsr]
              exact ⟨fun _ => ⟨i, by rw [ins_len i1]; omega, by rw [ins_at i1, if_neg (by omega), if_pos rfl, hsr]⟩, fun _ => rfl⟩
            · rw [if_neg hsr]
              constructor
              · intro z
                obtain ⟨k, hk, ek⟩ := (l2 s hs).1 ⟨hsr, z⟩
                by_cases hki : k < i
                · exact ⟨k, by rw [ins_len i1]; omega, by rw [ins_at i1, if_pos hki, ek]⟩
                · exact ⟨k + 1, by rw [ins_len i1]; omega, by rw [ins_at i1, if_neg (by omega), if_neg (by omega)]; exact ek⟩
              · rintro ⟨k, hk, ek⟩
                rw [ins_len i1] at hk
                rw [ins_at i1] at ek
                by_cases hki : k < i
                · rw [if_pos hki] at ek
                  exact ((l2 s hs).2 ⟨k, by omega, ek⟩).2
                · rw [if_neg hki] at ek
                  by_cases hki2 : k = i
                  · rw [if_pos hki2] at ek
                    exact absurd ek.symm hsr
                  · rw [if_neg hki2] at ek
                    exact ((l2 s hs).2 ⟨k - 1, by omega, ek⟩).2
          · obtain ⟨l', l1', l2', l3', l4'⟩ := q1 q hq
            refine ⟨l', l1', fun s hs => ?_, (l3'.fr ag3' (by omega) (fun k => by omega)).fr e2 (fun z => by unfold DA at z; omega) (fun k z => by unfold DA at z; omega), (l4'.fr ag3' (fun k => by omega)).fr e2 (fun k z => by unfold DA at z; omega)⟩
            rw [← l2' s hs]
            unfold uP
            by_cases hsr : s = r
            · rw [if_pos hsr]
              exact ⟨fun z => (by cases z; exact absurd rfl hqp), fun z => absurd hsr z.1⟩
            · rw [if_neg hsr]
              exact ⟨fun z => ⟨hsr, z⟩, fun z => z.2⟩
    cases eAr : A r with
    | none =>
      refine hin hx K ((kAg.rf hx).sub (fun _ _ z => z.elim)) (fun p hp => ?_) (fun s hs _ => (As.1 s hs).1)
      obtain ⟨l, l1, l2, l3, l4⟩ := As.2 p hp
      refine ⟨l, l1, fun s hs => ?_, l3, l4⟩
      rw [← l2 s hs]
      exact ⟨fun z => z.2, fun z => ⟨fun w => (by rw [w, eAr] at z; cases z), z⟩⟩
    | some p =>
      have hp := hAr p eAr
      obtain ⟨P3, hA3, kp, kq⟩ := K.pst hp
      obtain ⟨l, l1, l2, l3, l4⟩ := As.2 p hp
      obtain ⟨i, hi, ei⟩ := (l2 r hr).1 eAr
      obtain ⟨h4, e1, e2, e3, e4, e5⟩ := K.take hA3 P3 l3 l1 l4 hi hr ei
      have agD : kAg DM hx h4 := e2.sub (fun j k z => by unfold DA at z; unfold DM; omega)
      show ∃ h', gR hx (200 + 4 * r) 6 5 (fun o3 => kmay o3 (fun a2 => gN hx a2 5 3 (fun a3 => gN hx 0 10 0 (fun a4 => kcallV 4 a3 hx (f_X3_take a3 (200 + 4 * r) a4 hx) (fun _ h3 => X9_move_b37 0 (200 + 4 * r) (pAd o) h3))))) = kret () h' ∧ _
      rw [gR_k kr, eA, eAr]
      show ∃ h', gN hx (100 + 8 * p) 5 3 (fun a3 => gN hx 0 10 0 (fun a4 => kcallV 4 a3 hx (f_X3_take a3 (200 + 4 * r) a4 hx) (fun _ h3 => X9_move_b37 0 (200 + 4 * r) (pAd o) h3))) = kret () h' ∧ _
      rw [gN_k kp kq, gN_k S.d0 S.r0_0, kV_k P3.1, e1, kb_ret]
      refine hin h4 (K.fr agD DM.dk) agD (fun q hq => ?_) (fun s hs _ => by rw [(e2.1 (200 + 4 * s) 5 (fun z => by unfold DA at z; omega)).2.2]; exact (As.1 s hs).1)
      by_cases hqp : q = p
      · subst hqp
        refine ⟨_, e4, fun s hs => ?_, e3, e5⟩
        constructor
        · rintro ⟨z1, z2⟩
          obtain ⟨k, hk, ek⟩ := (l2 s hs).1 z2
          have hki : k ≠ i := fun w => z1 (by rw [← ek, w, ei])
          by_cases hlt : k < i
          · exact ⟨k, by rw [era_len hi]; omega, by rw [era_at, if_pos hlt, ek]⟩
          · exact ⟨k - 1, by rw [era_len hi]; omega, by rw [era_at, if_neg (by omega), show k - 1 + 1 = k by omega, ek]⟩
        · rintro ⟨k, hk, ek⟩
          rw [era_len hi] at hk
          rw [era_at] at ek
          have hex : ∃ k', k' < l.length ∧ k' ≠ i ∧ l.getD k' 0 = s := by
            by_cases hlt : k < i
            · rw [if_pos hlt] at ek
              exact ⟨k, by omega, by omega, ek⟩
            · rw [if_neg hlt] at ek
              exact ⟨k + 1, by omega, by omega, ek⟩
          obtain ⟨k', hk', hne, ek'⟩ := hex
          refine ⟨fun w => ?_, (l2 s hs).2 ⟨k', hk', ek'⟩⟩
          have h7 : l.getD k' 0 = l.getD i 0 := by rw [ek', ei, w]
          rcases Nat.lt_or_gt_of_ne hne with hlt | hlt
          · have := l1.2 k' i hlt hi
            rw [h7] at this
            unfold sBef at this
            omega
          · have := l1.2 i k' hlt hk'
            rw [h7] at this
            unfold sBef at this
            omega
      · obtain ⟨l', l1', l2', l3', l4'⟩ := As.2 q hq
        refine ⟨l', l1', fun s hs => ?_, l3'.fr e2 (fun z => by unfold DA at z; omega) (fun k z => by unfold DA at z; omega), l4'.fr e2 (fun k z => by unfold DA at z; omega)⟩
        rw [← l2' s hs]
        exact ⟨fun z => z.2, fun z => ⟨fun w => (by rw [w, eAr] at z; cases z; exact hqp rfl), z⟩⟩
end
section
/-! all readings led back; all rows joined again -/
theorem kCx.leadL {hm : KH} : ∀ (f i : Nat) (hx : KH) (A : Nat → Option Nat), kCx hx hm → AS hx hm A → (∀ r, r < mn hm 0 16 → kI hx (200 + 4 * r) 4 = 0 ∨ kI hx (200 + 4 * r) 4 = 1) → i ≤ mn hm 0 16 → mn hm 0 16 < i + f → ∃ h' A', X9_leadAllBack_L2 f 0 (nI i) hx = kret () h' ∧ kAg DM hx h' ∧ AS h' hm A' ∧ (∀ r, r < i → A' r = A r) ∧ ∀ r, i ≤ r → r < mn hm 0 16 → A' r = if kI hx (200 + 4 * r) 4 = 0 then sBest (mn hm) r (mn hm 0 8) else A r := by
  intro f
  induction f with
  | zero => intro i hx A _ _ _ h1 h2; omega
  | succ f ih =>
    intro i hx A K As C h1 h2
    have hR := K.R
    have S := K.1.1
    unfold X9_leadAllBack_L2 X9_leadAllBack_b2
    rw [gI_k S.d0, hR.1]
    by_cases hi : mn hm 0 16 ≤ i
    · exact ⟨hx, A, by rw [kif_t (by rw [ka_le (by omega) (by omega)]; exact hi)], (kAg.rf hx).sub (fun _ _ z => z.elim), As, fun r _ => rfl, fun r q1 q2 => by omega⟩
    · rw [kif_f (by rw [ka_le (by omega) (by omega)]; exact hi), gN_k S.d0 S.r0_6, gAN_k S.d28 (by rw [S.n28]; omega) (by omega) (K.rd (show i < mn hm 0 16 by omega)).2.1.1, gI_k (K.rd (show i < mn hm 0 16 by omega)).1.1]
      by_cases g : kI hx (200 + 4 * i) 4 = 0
      · obtain ⟨h1', e1, e2, e3⟩ := K.move As (r := i) (by omega) (o := sBest (mn hm) i (mn hm 0 8)) (fun p e => (sBest_lt _ _ e).1)
        have K1 := K.fr e2 DM.dk
        have eC : ∀ r, kI h1' (200 + 4 * r) 4 = kI hx (200 + 4 * r) 4 := fun r => (e2.1 _ _ (fun z => by unfold DM at z; omega)).1
        rw [kif_t g, kV_k S.d0, K.byText (by omega), kb_ret, kV_k S.d0, e1, kb_ret]
        unfold X9_leadAllBack_b34
        rw [nI_1]
        obtain ⟨h', A', f1, f2, f3, f4, f5⟩ := ih (i + 1) h1' _ K1 e3 (fun r hr => by rw [eC]; exact C r hr) (by omega) (by omega)
        refine ⟨h', A', f1, e2.trans f2 (fun j k q => q) (fun j k q => q), f3, fun r hr => ?_, fun r q1 q2 => ?_⟩
        · rw [f4 r (by omega)]
          unfold uP
          rw [if_neg (by omega)]
        · by_cases hri : r = i
          · subst hri
            rw [f4 r (by omega), if_pos g]
            unfold uP
            rw [if_pos rfl]
          · rw [f5 r (by omega) q2, eC]
            unfold uP
            rw [if_neg hri]
      · rw [kif_f g]
        unfold X9_leadAllBack_b34
        rw [nI_1]
        obtain ⟨h', A', f1, f2, f3, f4, f5⟩ := ih (i + 1) hx A K As C (by omega) (by omega)
        refine ⟨h', A', f1, f2, f3, fun r hr => f4 r (by omega), fun r q1 q2 => ?_⟩
        by_cases hri : r = i
        · subst hri
          rw [f4 r (by omega), if_neg g]
        · exact f5 r (by omega) q2
theorem kCx.lead {hx hm : KH} {A : Nat → Option Nat} (K : kCx hx hm) (As : AS hx hm A) (C : ∀ r, r < mn hm 0 16 → kI hx (200 + 4 * r) 4 = 0 ∨ kI hx (200 + 4 * r) 4 = 1) : ∃ h' A', f_X9_leadAllBack 0 hx = kret () h' ∧ kAg DM hx h' ∧ AS h' hm A' ∧ ∀ r, r < mn hm 0 16 → A' r = if kI hx (200 + 4 * r) 4 = 0 then sBest (mn hm) r (mn hm 0 8) else A r := by
  obtain ⟨h', A', f1, f2, f3, -, f5⟩ := kCx.leadL kF 0 hx A K As C (by omega) (by have := K.R.2.2; unfold kF; omega)
  exact ⟨h', A', f1, f2, f3, fun r hr => f5 r (by omega) hr⟩
theorem AS.cong {hx hm : KH} {A B : Nat → Option Nat} (As : AS hx hm A) (e : ∀ r, r < mn hm 0 16 → A r = B r) : AS hx hm B := by
  refine ⟨fun r hr => by rw [← e r hr]; exact As.1 r hr, fun p hp => ?_⟩
  obtain ⟨l, l1, l2, l3, l4⟩ := As.2 p hp
  exact ⟨l, l1, fun r hr => by rw [← e r hr]; exact l2 r hr, l3, l4⟩
/-- the rows without their begins -/
def AR (hx hm : KH) (A : Nat → Option Nat) : Prop := (∀ r, r < mn hm 0 16 → kR hx (200 + 4 * r) 5 = pAd (A r) ∧ ∀ p, A r = some p → p < mn hm 0 8) ∧ ∀ p, p < mn hm 0 8 → ∃ l, LOK hm l ∧ (∀ r, r < mn hm 0 16 → (A r = some p ↔ ∃ k, k < l.length ∧ l.getD k 0 = r)) ∧ PRw hx (104 + 8 * p) l
theorem AS.ar {hx hm : KH} {A : Nat → Option Nat} (As : AS hx hm A) : AR hx hm A := ⟨As.1, fun p hp => by
  obtain ⟨l, l1, l2, l3, -⟩ := As.2 p hp
  exact ⟨l, l1, l2, l3⟩⟩
theorem LOK.fr {hm hm' : KH} {l : List Nat} (L : LOK hm l) (e1 : kI hm' 0 16 = kI hm 0 16) (e2 : ∀ k, kI hm' 13 k = kI hm 13 k) : LOK hm' l := by
  obtain ⟨l1, l2⟩ := L
  refine ⟨fun k hk => by rw [mn_cg1 e1]; exact l1 k hk, fun i k q1 q2 => ?_⟩
  have := l2 i k q1 q2
  unfold sBef at this ⊢
  rw [mn_cg e2]
  exact this
theorem AR.fr {hx hm hx' hm' : KH} {A : Nat → Option Nat} {D E : Nat → Nat → Prop} (As : AR hx hm A) (hP : mn hm 0 8 ≤ 10) (hR : mn hm 0 16 ≤ 60) (ag : kAg D hx hx') (am : kAg E hm hm') (hD : ∀ i k, (100 ≤ i ∧ i < 180 ∧ (i % 8 = 0 ∧ k = 2 ∨ i % 8 = 1)) ∨ (200 ≤ i ∧ i < 440 ∧ i % 4 = 0 ∧ k = 5) → ¬ D i k) (hE : ∀ i k, i = 0 ∧ (k = 8 ∨ k = 16) ∨ i = 13 → ¬ E i k) : AR hx' hm' A := by
  have e16 := (am.1 0 16 (hE 0 16 (by omega))).1
  have e8 := (am.1 0 8 (hE 0 8 (by omega))).1
  refine ⟨fun r hr => ?_, fun p hp => ?_⟩
  · rw [mn_cg1 e16] at hr
    rw [mn_cg1 e8, (ag.1 _ _ (hD (200 + 4 * r) 5 (by omega))).2.2]
    exact As.1 r hr
  · rw [mn_cg1 e8] at hp
    obtain ⟨l, l1, l2, l3⟩ := As.2 p hp
    exact ⟨l, l1.fr e16 (fun k => (am.1 13 k (hE 13 k (by omega))).1), fun r hr => by rw [mn_cg1 e16] at hr; exact l2 r hr, l3.fr ag (hD _ _ (by omega)) (fun k => hD _ _ (by omega))⟩
theorem AS.fr {hx hm hx' hm' : KH} {A : Nat → Option Nat} {D E : Nat → Nat → Prop} (As : AS hx hm A) (hP : mn hm 0 8 ≤ 10) (hR : mn hm 0 16 ≤ 60) (ag : kAg D hx hx') (am : kAg E hm hm') (hD : ∀ i k, DM i k → ¬ D i k) (hE : ∀ i k, i = 0 ∧ (k = 8 ∨ k = 16 ∨ k = 1) ∨ i = 13 ∨ i = 12 ∨ i = 2 → ¬ E i k) : AS hx' hm' A := by
  have e16 := (am.1 0 16 (hE 0 16 (by omega))).1
  have e8 := (am.1 0 8 (hE 0 8 (by omega))).1
  refine ⟨fun r hr => ?_, fun p hp => ?_⟩
  · rw [mn_cg1 e16] at hr
    rw [mn_cg1 e8, (ag.1 _ _ (hD (200 + 4 * r) 5 (by unfold DM; omega))).2.2]
    exact As.1 r hr
  · rw [mn_cg1 e8] at hp
    obtain ⟨l, l1, l2, l3, l4⟩ := As.2 p hp
    refine ⟨l, l1.fr e16 (fun k => (am.1 13 k (hE 13 k (by omega))).1), fun r hr => by rw [mn_cg1 e16] at hr; exact l2 r hr, l3.fr ag (hD _ _ (by unfold DM; omega)) (fun k => hD _ _ (by unfold DM; omega)), fun k hk => ?_⟩
    rw [(ag.1 _ _ (hD (104 + 8 * p + 2) k (by unfold DM; omega))).1, sBegAt_cg (am.1 0 1 (hE 0 1 (by omega))).1 (fun k => (am.1 2 k (hE 2 k (by omega))).1) (fun k => (am.1 12 k (hE 12 k (by omega))).1) (fun k => (am.1 13 k (hE 13 k (by omega))).1)]
    exact l4 k hk
theorem kCx.jaL {hm : KH} {A : Nat → Option Nat} : ∀ (f i : Nat) (hx : KH), kCx hx hm → AR hx hm A → (∀ p, p < i → p < mn hm 0 8 → ∀ l, LOK hm l → (∀ r, r < mn hm 0 16 → (A r = some p ↔ ∃ k, k < l.length ∧ l.getD k 0 = r)) → PRw hx (104 + 8 * p) l → PBe hx hm (104 + 8 * p) l) → i ≤ mn hm 0 8 → mn hm 0 8 < i + f → ∃ h', X9_joinAllAgain_L2 f 0 (nI i) hx = kret () h' ∧ kAg (fun i k => 100 ≤ i ∧ i < 180 ∧ i % 8 = 2) hx h' ∧ AR h' hm A ∧ (∀ p, p < mn hm 0 8 → ∀ l, LOK hm l → (∀ r, r < mn hm 0 16 → (A r = some p ↔ ∃ k, k < l.length ∧ l.getD k 0 = r)) → PRw h' (104 + 8 * p) l → PBe h' hm (104 + 8 * p) l) := by
  intro f
  induction f with
  | zero => intro i hx _ _ _ h1 h2; omega
  | succ f ih =>
    intro i hx K As B h1 h2
    have hP := K.P
    have hR := K.R
    have S := K.1.1
    unfold X9_joinAllAgain_L2 X9_joinAllAgain_b2
    rw [gI_k S.d0, hP.1]
    by_cases hi : mn hm 0 8 ≤ i
    · exact ⟨hx, by rw [kif_t (by rw [ka_le (by omega) (by omega)]; exact hi)], (kAg.rf hx).sub (fun _ _ z => z.elim), As, fun p hp => B p (by omega) hp⟩
    · have hip : i < mn hm 0 8 := by omega
      obtain ⟨P, hA, kp, kq⟩ := K.pst hip
      obtain ⟨l, l1, l2, l3⟩ := As.2 i hip
      obtain ⟨h4, e1, e2, e3⟩ := K.joinAll hA P l3 l1
      have e2' : kAg (fun i k => 100 ≤ i ∧ i < 180 ∧ i % 8 = 2) hx h4 := e2.sub (fun j k z => by omega)
      have K4 := K.fr e2' (fun j k z => by unfold DK; omega)
      have A4 : AR h4 hm A := As.fr hP.2.2 hR.2.2 e2' (kAg.rf hm) (fun j k z1 z2 => by omega) (fun j k z1 z2 => z2)
      rw [kif_f (by rw [ka_le (by omega) (by omega)]; exact hi), gN_k S.d0 S.r0_4, gAN_k S.d26 (by rw [S.n26]; omega) (by omega) (K.2.2.2.2.1.2.1 i hip).2.1.1, gN_k kp kq, gN_k S.d0 S.r0_0, kV_k P.1, e1, kb_ret, nI_1]
      obtain ⟨h', f1, f2, f3, f4⟩ := ih (i + 1) h4 K4 A4 (fun p hp1 hp2 l' m1 m2 m3 => by
        by_cases hpi : p = i
        · subst hpi
          -- both rows hold the same readings in the same order
          have hll : l' = l := by
            apply List.ext_getElem
            · have w1 := m3.2.1
              have w2 := (l3.fr e2 (fun z => by omega) (fun k z => by omega)).2.1
              exact nI_inj (w1.symm.trans w2) (by have := m3.1; omega) (by have := l3.1; omega)
            · intro k q1 q2
              have w1 := m3.2.2 k q1
              have w2 := (l3.fr e2 (fun z => by omega) (fun k z => by omega)).2.2 k q2
              rw [gD_get q1] at w1
              rw [gD_get q2] at w2
              have := w1.symm.trans w2
              simp only [Option.some.injEq] at this
              omega
          rw [hll]
          exact e3
        · refine (B p (by omega) hp2 l' m1 m2 ?_).fr e2 (fun k z => by omega)
          obtain ⟨v1, v2, v3⟩ := m3
          exact ⟨v1, ((e2.1 (104 + 8 * p) 2 (fun z => by omega)).1).symm.trans v2, fun k hk => ((e2.1 (104 + 8 * p + 1) k (fun z => by omega)).2.2).symm.trans (v3 k hk)⟩) (by omega) (by omega)
      exact ⟨h', f1, e2'.trans f2 (fun j k q => q) (fun j k q => q), f3, f4⟩
theorem kCx.joinAllAgain {hx hm : KH} {A : Nat → Option Nat} (K : kCx hx hm) (As : AR hx hm A) : ∃ h', f_X9_joinAllAgain 0 hx = kret () h' ∧ kAg (fun i k => 100 ≤ i ∧ i < 180 ∧ i % 8 = 2) hx h' ∧ AS h' hm A := by
  obtain ⟨h', f1, f2, f3, f4⟩ := kCx.jaL kF 0 hx K As (fun p hp => by omega) (by omega) (by have := K.P.2.2; unfold kF; omega)
  refine ⟨h', f1, f2, f3.1, fun p hp => ?_⟩
  obtain ⟨l, l1, l2, l3⟩ := f3.2 p hp
  exact ⟨l, l1, l2, l3, f4 p hp l l1 l2 l3⟩
/-- what the context reads, apart from signs, distances, pause -/
def FX (a k : Nat) : Prop := (a = 0 ∧ k < 12 ∨ a = 1 ∧ k < 3 ∨ a = 2 ∨ a = 11 ∨ a = 22 ∧ k = 0 ∨ a = 24 ∧ k = 0 ∨ a = 33 ∧ k < 2) ∨ (100 ≤ a ∧ a < 180 ∧ a % 8 ≠ 7 ∧ ¬ (a % 8 = 4 ∧ k = 4) ∧ ¬ (a % 8 = 0 ∧ k = 2) ∧ a % 8 ≠ 1 ∧ a % 8 ≠ 2 ∨ a = 26 ∨ a = 0 ∧ k = 13) ∨ a = 27 ∨ (200 ≤ a ∧ a < 440 ∧ (a % 4 = 0 ∧ k < 4 ∨ a % 4 = 1 ∨ a % 4 = 2) ∨ a = 28 ∨ a = 0 ∧ k = 14)
def FM (a k : Nat) : Prop := a = 6 ∨ a = 7 ∨ a = 8 ∨ 12 ≤ a ∧ a ≤ 15 ∨ a = 0 ∧ k ≠ 35 ∧ k ≠ 1 ∧ k ≠ 0
theorem kCx.fr2 {hx hm hx' hm' : KH} {D E : Nat → Nat → Prop} (K : kCx hx hm) (ag : kAg D hx hx') (am : kAg E hm hm') (cA : cAli hx' hm') (cD : cDis hx' hm') (cP : cPau hx' hm') (hD : ∀ a k, FX a k → ¬ D a k) (hE : ∀ a k, FM a k → ¬ E a k) : kCx hx' hm' := by
  have hR := K.R.2.2
  have hP := K.P.2.2
  obtain ⟨⟨sx, sm⟩, -, -, -, c8, c9, c11, c12⟩ := K
  have e16 := (am.1 0 16 (hE 0 16 (by unfold FM; omega))).1
  have hR' : ∀ a k, 200 ≤ a ∧ a < 440 ∧ (a % 4 = 0 ∧ k < 4 ∨ a % 4 = 1 ∨ a % 4 = 2) ∨ a = 28 ∨ a = 0 ∧ k = 14 → ¬ D a k := fun a k h => hD a k (Or.inr (Or.inr (Or.inr h)))
  refine ⟨⟨sx.fr ag (fun a k h => hD a k (Or.inl h)), sm.fr am (fun a k h => hE a k (by unfold FM; omega))⟩, cP, cD, cA, c8.fr ag am (fun a k h => hD a k (Or.inr (Or.inl h))) (fun a k h => hE a k (by unfold FM; omega)), c9.fr ag am (fun a k h => hD a k (Or.inr (Or.inr (Or.inl h)))) (fun a k h => hE a k (by unfold FM; omega)), ?_, fun r hr => ?_⟩
  · rw [(ag.1 0 14 (hR' 0 14 (by omega))).1, e16]
    exact c11
  · rw [mn_cg1 e16] at hr
    obtain ⟨⟨d1, d2, d3, d4⟩, ⟨e1, e2, e3⟩, f1, f2, f3, f4⟩ := c12 r hr
    have k1 := ag.k (200 + 4 * r) (by rw [d1]; decide)
    have k2 := ag.k (201 + 4 * r) (by rw [d2]; decide)
    have k3 := ag.k (202 + 4 * r) (by rw [d3]; decide)
    refine ⟨⟨by rw [k1.1, d1], by rw [k2.1, d2], by rw [k3.1, d3], by rw [k3.2, d4]⟩, ⟨by rw [(ag.1 28 r (hR' 28 r (by omega))).2.2, e1], by rw [(ag.1 (200 + 4 * r) 3 (hR' _ _ (by omega))).2.2, e2], by rw [(ag.1 (201 + 4 * r) 0 (hR' _ _ (by omega))).2.2, e3]⟩, by rw [(ag.1 (200 + 4 * r) 0 (hR' _ _ (by omega))).1, f1], by rw [(ag.1 (200 + 4 * r) 1 (hR' _ _ (by omega))).1, (am.1 12 r (hE _ _ (by unfold FM; omega))).1]; exact f2, by rw [(ag.1 (200 + 4 * r) 2 (hR' _ _ (by omega))).1, (am.1 13 r (hE _ _ (by unfold FM; omega))).1]; exact f3, ?_⟩
    rw [(ag.1 (201 + 4 * r) 1 (hR' _ _ (by omega))).1, (am.1 14 r (hE _ _ (by unfold FM; omega))).1]
    obtain ⟨n, g1, g2, g3, g4, g5⟩ := f4
    exact ⟨n, g1, g2, g3, g4, fun k hk => by rw [(ag.1 (202 + 4 * r) k (hR' _ _ (by omega))).1, (am.1 15 _ (hE _ _ (by unfold FM; omega))).1]; exact g5 k hk⟩
end
section
/-! alike -/
theorem rsg_t {b : Int32} {h : KH} (h1 : ¬ b < 0) (h2 : ¬ 14 < b) : f_X9_requireSign b h = kret () h := by
  unfold f_X9_requireSign
  rw [wi_t h1 h2, kb_ret, kif_f (by decide)]
theorem rsg_f {b : Int32} {h : KH} (h1 : b < 0 ∨ 14 < b) : f_X9_requireSign b h = kthrow 3 h := by
  unfold f_X9_requireSign
  rw [wi_f h1, kb_ret, kif_t rfl]
theorem msg_t {b : Int32} {h : KH} (h1 : ¬ b < 0) (h2 : ¬ 14 < b) : f_X10_isSign b h = kret 1 h := by
  unfold f_X10_isSign
  rw [in_t h1 h2, kb_ret]
  rfl
theorem msg_f {b : Int32} {h : KH} (h1 : b < 0 ∨ 14 < b) : f_X10_isSign b h = kret 0 h := by
  unfold f_X10_isSign
  rw [in_f h1, kb_ret]
  rfl
theorem x2_turn {h : KH} (S : kSx h) {x y A B : Nat} (hx : x < 15) (hy : y < 15) (hxy : x ≠ y) (eA : kI h 25 x = nI A) (eB : kI h 25 y = nI B) : f_X2_turn 24 (nI x) (nI y) h = kret () (sI (sI h 25 x (nI (A ^^^ 2 ^ y))) 25 y (nI (B ^^^ 2 ^ x))) := by
  unfold f_X2_turn
  have S1 : kSx (sI h 25 x (nI (A ^^^ 2 ^ y))) := S.fr (kAg.I h 25 x _) (fun a k q z => by omega)
  rw [gN_k S.d24 S.r24_0, gAI_k S.d25 (by rw [S.n25]; exact hx) (by omega), eA, kb_xor hy, pAI_k S.d25 (by rw [S.n25]; exact hx) (by omega), gN_k S1.d24 S1.r24_0, gAI_k S1.d25 (by rw [S1.n25]; exact hy) (by omega), kI_sI, if_neg (by omega), eB, kb_xor hx, pAI_k S1.d25 (by rw [S1.n25]; exact hy) (by omega)]
theorem tb_flip (M y b : Nat) : (M ^^^ 2 ^ y).testBit b = if b = y then !M.testBit b else M.testBit b := by
  rw [Nat.testBit_xor, Nat.testBit_two_pow]
  by_cases g : b = y
  · rw [if_pos g, decide_eq_true g.symm, Bool.xor_true]
  · rw [if_neg g, decide_eq_false (fun z => g z.symm), Bool.xor_false]
theorem cAli.flip {hx hm : KH} (c : cAli hx hm) {x y A B : Nat} {v : Int32} (hx1 : x < 15) (hy : y < 15) (hxy : x ≠ y) (eA : kI hx 25 x = nI A) (eB : kI hx 25 y = nI B) (hA : A < 32768) (hB : B < 32768) (ev : v = if kI hm 5 (15 * x + y) = 0 then 1 else 0) : cAli (sI (sI hx 25 x (nI (A ^^^ 2 ^ y))) 25 y (nI (B ^^^ 2 ^ x))) (sI (sI hm 5 (15 * x + y) v) 5 (15 * y + x) v) := by
  obtain ⟨c1, c2⟩ := c
  have hcell : ∀ a b, a < 15 → b < 15 → kI (sI (sI hm 5 (15 * x + y) v) 5 (15 * y + x) v) 5 (15 * a + b) = if a = x ∧ b = y ∨ a = y ∧ b = x then v else kI hm 5 (15 * a + b) := by
    intro a b ha hb
    rw [kI_sI, kI_sI]
    by_cases g1 : a = y ∧ b = x
    · rw [if_pos (by rw [g1.1, g1.2]; exact ⟨rfl, rfl⟩), if_pos (Or.inr g1)]
    · rw [if_neg (by omega)]
      by_cases g2 : a = x ∧ b = y
      · rw [if_pos (by rw [g2.1, g2.2]; exact ⟨rfl, rfl⟩), if_pos (Or.inl g2)]
      · rw [if_neg (by omega), if_neg (by omega)]
  have hpow : ∀ k, k < 15 → 2 ^ k < 32768 := by decide
  have hbit : ∀ (M k : Nat), (∀ b, b < 15 → kI hm 5 (15 * k + b) = if M.testBit b then 1 else 0) → ∀ b, b < 15 → kI hm 5 (15 * k + b) = kI hm 5 (15 * x + y) → v = if (!M.testBit b) then 1 else 0 := by
    intro M k e b hb q
    rw [ev, ← q, e b hb]
    cases M.testBit b <;> rfl
  refine ⟨fun a ha => ?_, fun a b ha hb => ?_⟩
  · obtain ⟨M, M1, M2, M3⟩ := c1 a ha
    by_cases g1 : a = x
    · subst g1
      obtain rfl : M = A := nI_inj (M2.symm.trans eA) (by omega) (by omega)
      refine ⟨M ^^^ 2 ^ y, Nat.xor_lt_two_pow (n := 15) M1 (hpow y hy), by rw [kI_sI, if_neg (by omega), kI_sI, if_pos ⟨rfl, rfl⟩], fun b hb => ?_⟩
      rw [hcell a b ha hb, tb_flip]
      by_cases g : b = y
      · rw [if_pos (Or.inl ⟨rfl, g⟩), if_pos g]
        exact hbit M a M3 b hb (by rw [g])
      · rw [if_neg (by omega), if_neg g]
        exact M3 b hb
    · by_cases g2 : a = y
      · subst g2
        obtain rfl : M = B := nI_inj (M2.symm.trans eB) (by omega) (by omega)
        refine ⟨M ^^^ 2 ^ x, Nat.xor_lt_two_pow (n := 15) M1 (hpow x hx1), by rw [kI_sI, if_pos ⟨rfl, rfl⟩], fun b hb => ?_⟩
        rw [hcell a b ha hb, tb_flip]
        by_cases g : b = x
        · rw [if_pos (Or.inr ⟨rfl, g⟩), if_pos g]
          exact hbit M a M3 b hb (by rw [g]; exact c2 a x ha hx1)
        · rw [if_neg (by omega), if_neg g]
          exact M3 b hb
      · refine ⟨M, M1, by rw [kI_sI, if_neg (by omega), kI_sI, if_neg (by omega)]; exact M2, fun b hb => ?_⟩
        rw [hcell a b ha hb, if_neg (by omega)]
        exact M3 b hb
  · rw [hcell a b ha hb, hcell b a hb ha]
    by_cases g : a = x ∧ b = y ∨ a = y ∧ b = x
    · rw [if_pos g, if_pos (by omega)]
    · rw [if_neg g, if_neg (by omega)]
      exact c2 a b ha hb
theorem o_alike : OPI (fun a b c h => f_X9_alike 0 a b h) (fun a b c h => f_X10_alike 0 a b h) (mp2 3 1) := by
  intro j hx hm a b c hj R
  have S := R.1.1.X 0
  have T := R.1.2
  have K := (R.X 0).kCx
  have M := R.MX
  have hP := R.P
  have hR := M.2.2.1.1
  have e14 : ∀ k, k < 15 → (nI k = 14) = (k = 14) := fun k hk => by rw [show (14 : Int32) = nI 14 from rfl, ka_eq (by omega) (by omega)]
  have hbad : ∀ x y, x < 15 → y < 15 → (x = y ∨ x = 14 ∨ y = 14) → ¬ nI x < 0 → ¬ 14 < nI x → ¬ nI y < 0 → ¬ 14 < nI y → OP1 (fun a b c h => f_X9_alike 0 a b h) (fun a b c h => f_X10_alike 0 a b h) (mp2 3 1) j hx hm (nI x) (nI y) c := by
    intro x y h1 h2 h3 q1 q2 q3 q4
    refine op_no R 1 2 0 rfl (by decide) ?_ ?_
    · show f_X9_alike 0 (nI x) (nI y) (sX hx 0) = _
      unfold f_X9_alike
      rw [rsg_t q1 q2, kb_ret, rsg_t q3 q4, kb_ret]
      unfold X9_alike_b25
      by_cases g1 : x = y
      · rw [kif_t (by rw [g1])]
      · rw [kif_f (by rw [ka_eq (by omega) (by omega)]; exact g1)]
        by_cases g2 : x = 14
        · rw [kif_t (by rw [e14 x h1]; exact g2)]
        · rw [kif_f (by rw [e14 x h1]; exact g2), kif_t (by rw [e14 y h2]; omega)]
    · show f_X10_alike 0 (nI x) (nI y) hm = _
      unfold f_X10_alike
      rw [msg_t q1 q2, kb_ret, kif_f (by decide), msg_t q3 q4, kb_ret, kif_f (by decide)]
      unfold X10_alike_b19 X10_alike_b46
      have hc : X10_alike_b51 0 (nI x) (nI y) 2 0 hm = kret 0 (sI hm 0 35 2) := by
        unfold X10_alike_b51
        rw [kV_k T.d0, can_n T (show (2 : Int32) ≠ 0 by decide), kb_ret, kif_t rfl]
        rfl
      rw [kif_f (by decide)]
      by_cases g1 : x = y
      · rw [kif_t (by rw [g1]), hc]
      · rw [kif_f (by rw [ka_eq (by omega) (by omega)]; exact g1)]
        by_cases g2 : x = 14
        · rw [kif_t (by rw [e14 x h1]; exact g2), hc]
        · rw [kif_f (by rw [e14 x h1]; exact g2), kif_t (by rw [e14 y h2]; omega), hc]
  rcases ka_rng a 0 14 0 14 rfl rfl (by decide) (by decide) with ⟨x, x1, x2, rfl, q1, q2⟩ | hq
  · rcases ka_rng b 0 14 0 14 rfl rfl (by decide) (by decide) with ⟨y, y1, y2, rfl, q3, q4⟩ | hq3
    · by_cases hb : x = y ∨ x = 14 ∨ y = 14
      · exact hbad x y (by omega) (by omega) hb q1 q2 q3 q4
      · have RT := (R.X 0).thr 0
        obtain ⟨A, A1, A2, A3⟩ := RT.2.2.2.2.2.2.2.1.1 x (by omega)
        obtain ⟨B, B1, B2, B3⟩ := RT.2.2.2.2.2.2.2.1.1 y (by omega)
        obtain ⟨v, ev⟩ : ∃ v : Int32, v = if kI (sI hm 0 35 0) 5 (15 * x + y) = 0 then 1 else 0 := ⟨_, rfl⟩
        have cA := RT.2.2.2.2.2.2.2.1.flip (show x < 15 by omega) (show y < 15 by omega) (by omega) A2 B2 A1 B1 ev
        have ag1 : kAg (fun i k => i = 25) (sX hx 0) (sI (sI (sX hx 0) 25 x (nI (A ^^^ 2 ^ y))) 25 y (nI (B ^^^ 2 ^ x))) := (kAg.I (sX hx 0) 25 x _).trans (kAg.I _ 25 y _) (fun i k q z => q z.1) (fun i k q z => q z.1)
        have am : kAg (fun i k => i = 5) (sI hm 0 35 0) (sI (sI (sI hm 0 35 0) 5 (15 * x + y) v) 5 (15 * y + x) v) := (kAg.I (sI hm 0 35 0) 5 (15 * x + y) v).trans (kAg.I _ 5 (15 * y + x) v) (fun i k q z => q z.1) (fun i k q z => q z.1)
        have KT := RT.kCx
        have cD := KT.2.2.1.fr ag1 am (fun a k z1 z2 => by omega) (fun a k z1 z2 => by omega)
        have cP := KT.2.1.fr ag1 am (fun a k z1 z2 => by omega) (fun a k z1 z2 => by omega)
        have K1 := KT.fr2 ag1 am cA cD cP (fun a k z1 z2 => by unfold FX at z1; omega) (fun a k z1 z2 => by unfold FM at z1; omega)
        have A0 := RT.AS.fr hP hR ag1 am (fun a k z1 z2 => by unfold DM at z1; omega) (fun a k z1 z2 => by omega)
        have C1 : cCor (sI (sI (sX hx 0) 25 x (nI (A ^^^ 2 ^ y))) 25 y (nI (B ^^^ 2 ^ x))) (sI (sI (sI hm 0 35 0) 5 (15 * x + y) v) 5 (15 * y + x) v) := fun r hr => by
          rw [(ag1.1 (200 + 4 * r) 4 (fun z => by omega)).1, (am.1 16 r (fun z => by omega)).1, (am.1 17 r (fun z => by omega)).1, mn_cg1 (am.1 0 8 (fun z => by omega)).1]
          exact RT.cCor r hr
        obtain ⟨h2, A', f1, f2, f3, f4⟩ := K1.lead A0 (fun r hr => by
          rcases C1 r hr with ⟨z, -⟩ | ⟨z, -⟩
          · exact Or.inl z
          · exact Or.inr z)
        have K2 := K1.fr f2 DM.dk
        have C2 : cCor h2 (sI (sI (sI hm 0 35 0) 5 (15 * x + y) v) 5 (15 * y + x) v) := fun r hr => by
          rw [(f2.1 (200 + 4 * r) 4 (fun z => by unfold DM at z; omega)).1]
          exact C1 r hr
        have f5 := f3.cong (B := sPF (sI (sI (sI hm 0 35 0) 5 (15 * x + y) v) 5 (15 * y + x) v)) (fun r hr => by
          rw [f4 r hr]
          rcases C1 r hr with ⟨z, z2⟩ | ⟨z, z2, z3⟩
          · have z2' : mn (sI (sI (sI hm 0 35 0) 5 (15 * x + y) v) 5 (15 * y + x) v) 16 r = 0 := by unfold mn; rw [z2]; rfl
            rw [if_pos z]
            unfold sPF
            rw [if_pos z2']
          · have z2' : mn (sI (sI (sI hm 0 35 0) 5 (15 * x + y) v) 5 (15 * y + x) v) 16 r = 1 := by unfold mn; rw [z2]; rfl
            have z2'' : mn (sI hm 0 35 0) 16 r = 1 := z2'
            have l1 : sPF (sI hm 0 35 0) r = if kI (sI hm 0 35 0) 17 r = -1 then none else some (mn (sI hm 0 35 0) 17 r) := by
              unfold sPF
              rw [if_neg (by rw [z2'']; decide)]
            have l2 : sPF (sI (sI (sI hm 0 35 0) 5 (15 * x + y) v) 5 (15 * y + x) v) r = if kI (sI (sI (sI hm 0 35 0) 5 (15 * x + y) v) 5 (15 * y + x) v) 17 r = -1 then none else some (mn (sI (sI (sI hm 0 35 0) 5 (15 * x + y) v) 5 (15 * y + x) v) 17 r) := by
              unfold sPF
              rw [if_neg (by rw [z2']; decide)]
            rw [if_neg (by rw [z]; decide), l1, l2]
            rfl)
        have hnew := cRea_of K2 (fun r h1 h2 => by
          rw [mn_cg1 (am.1 0 16 (fun z => by omega)).1] at h1
          rw [(am.1 16 r (fun z => by omega)).1]
          exact RT.zer r h1 h2) C2 f5
        have hv : v = 0 ∨ v = 1 := by
          rw [ev]
          split
          · exact Or.inr rfl
          · exact Or.inl rfl
        have hcell : kI (sI (sI (sI hm 0 35 0) 5 (15 * x + y) v) 5 (15 * y + x) v) 5 (15 * x + y) = v := by
          rw [kI_sI, if_neg (by omega), kI_sI, if_pos ⟨rfl, rfl⟩]
        refine op_ok (hx1 := h2) (hm1 := sI (sI (sI hm 0 35 0) 5 (15 * x + y) v) 5 (15 * y + x) v) 0 v ?_ ?_ (by rw [(am.1 0 35 (fun z => by omega)).1, kI_sI, if_pos ⟨rfl, rfl⟩]) ?_
        · show f_X9_alike 0 (nI x) (nI y) (sX hx 0) = _
          unfold f_X9_alike
          rw [rsg_t q1 q2, kb_ret, rsg_t q3 q4, kb_ret, kif_f (by rw [ka_eq (by omega) (by omega)]; omega), kif_f (by rw [e14 x (by omega)]; omega), kif_f (by rw [e14 y (by omega)]; omega), gN_k S.d0 S.r0_3, kV_k S.d24, x2_turn S (show x < 15 by omega) (show y < 15 by omega) (by omega) A2 B2, kb_ret, kV_k K1.1.1.d0, f1, kb_ret, gN_k K2.1.1.d0 K2.1.1.r0_3, kV_k K2.1.1.d24, xc_holds K2.1.1 (show x < 15 by omega) (show y < 15 by omega) K2.mask, kb_ret]
          have e2 : (if mn (sI (sI (sI hm 0 35 0) 5 (15 * x + y) v) 5 (15 * y + x) v) 5 (15 * x + y) = 0 then (0 : Int32) else 1) = v := by
            unfold mn
            rw [hcell]
            rcases hv with hv | hv <;> rw [hv] <;> rfl
          rw [e2]
          rcases hv with hv | hv <;> rw [hv] <;> rfl
        · show f_X10_alike 0 (nI x) (nI y) hm = _
          unfold f_X10_alike
          rw [msg_t q1 q2, kb_ret, kif_f (by decide), msg_t q3 q4, kb_ret, kif_f (by decide)]
          unfold X10_alike_b19
          rw [kif_f (by decide), kif_f (by rw [ka_eq (by omega) (by omega)]; omega), kif_f (by rw [e14 x (by omega)]; omega), kif_f (by rw [e14 y (by omega)]; omega)]
          unfold X10_alike_b51
          have T1 := T.thr 0
          have hb78 : X10_alike_b78 0 (nI x) (nI y) v (sI hm 0 35 0) = kret v (sI (sI (sI hm 0 35 0) 5 (15 * x + y) v) 5 (15 * y + x) v) := by
            have T2 : kSm (sI (sI hm 0 35 0) 5 (15 * x + y) v) := T1.fr (kAg.I _ 5 _ v) (fun a k q z => by omega)
            unfold X10_alike_b78
            rw [gN_k T1.d0 T1.r7, mc_idx, pAZ_k T1.d5 (by rw [T1.n5]; omega) (by omega) hv, gN_k T2.d0 T2.r7, mc_idx, pAZ_k T2.d5 (by rw [T2.n5]; omega) (by omega) hv]
            rcases hv with hv | hv <;> rw [hv] <;> rfl
          rw [kV_k T.d0, can_0 T, kb_ret, kif_f (by decide), gN_k T1.d0 T1.r7, mc_idx, gAI_k T1.d5 (by rw [T1.n5]; omega) (by omega)]
          by_cases g : kI (sI hm 0 35 0) 5 (15 * x + y) = 0
          · rw [kif_t g]
            rw [if_pos g] at ev
            rw [ev] at hb78 ⊢
            exact hb78
          · rw [kif_f g]
            rw [if_neg g] at ev
            rw [ev] at hb78 ⊢
            exact hb78
        · have R1 := RT.up
          have ag : kAg (fun i k => i = 25 ∨ (100 ≤ i ∧ i < 180 ∧ (i % 8 = 0 ∧ k = 2 ∨ i % 8 = 1 ∨ i % 8 = 2)) ∨ (200 ≤ i ∧ i < 440 ∧ i % 4 = 0 ∧ k = 5)) (sX hx 0) h2 := ag1.trans f2 (fun i k q z => q (Or.inl z)) (fun i k q z => q (Or.inr z))
          generalize hM1 : sI (sI (sI hm 0 35 0) 5 (15 * x + y) v) 5 (15 * y + x) v = hm1 at *
          have hdd := ag.nf (fun a z => by omega)
          have hP := R1.P
          obtain ⟨⟨sx, sm⟩, c1, c2, c3, c4, c5, c6, c7, c8, c9, c10, c11, c12, c13, c14, c15, c16⟩ := R1
          refine ⟨⟨sx.fr ag ?_, sm.fr am ?_⟩, c1.fr ag am ?_ ?_, c2.fr ag am ?_ ?_, c3.fr ag am ?_ ?_, c4.fr ag am ?_ ?_, c5.fr ag am ?_ ?_, c6.fr ag am ?_ ?_, ?_, c8.fr ag am ?_ ?_, c9.fr ag am ?_ ?_, c10.fr hP ag am ?_ ?_, ?_, ?_, c13.fr ag am ?_ ?_, c14.fr ag am ?_ ?_, c15.fr ag am ?_ ?_, c16.fr (hdd) am ?_ (Nat.le_refl _)⟩
          all_goals first
            | (intro a k h1 h2; omega)
            | skip
          · exact K2.2.2.2.1
          · exact hnew.1
          · exact hnew.2
    · refine op_no R 3 1 0 rfl (by decide) ?_ ?_
      · show f_X9_alike 0 (nI x) b (sX hx 0) = _
        unfold f_X9_alike
        rw [rsg_t q1 q2, kb_ret, rsg_f hq3]
        rfl
      · show f_X10_alike 0 (nI x) b hm = _
        unfold f_X10_alike
        rw [msg_t q1 q2, kb_ret, kif_f (by decide), msg_f hq3, kb_ret, kif_t rfl]
        unfold X10_alike_b18 X10_alike_b19 X10_alike_b51
        rw [kif_t rfl, kV_k T.d0, can_n T (show (1 : Int32) ≠ 0 by decide), kb_ret, kif_t rfl]
        rfl
  · refine op_no R 3 1 0 rfl (by decide) ?_ ?_
    · show f_X9_alike 0 a b (sX hx 0) = _
      unfold f_X9_alike
      rw [rsg_f hq]
      rfl
    · show f_X10_alike 0 a b hm = _
      unfold f_X10_alike
      rw [msg_f hq, kb_ret, kif_t rfl]
      unfold X10_alike_b18 X10_alike_b19 X10_alike_b51
      rw [kif_t rfl, kV_k T.d0, can_n T (show (1 : Int32) ≠ 0 by decide), kb_ret, kif_t rfl]
      rfl
end
section
/-! the relation after rows were moved -/
theorem rr_fin {j : Nat} {hx hm h2 hm1 : KH} {D E : Nat → Nat → Prop} (R : RR j hx hm) (K2 : kCx h2 hm1) (C2 : cCor h2 hm1) (f5 : AS h2 hm1 (sPF hm1)) (c3 : cLen h2 hm1) (ag : kAg D hx h2) (am : kAg E hm hm1) (hdn : ∀ a, ¬ D (a + 1000000) 0)
    (hD : ∀ a k, a = 0 ∧ (k = 12 ∨ k = 15 ∨ k = 16) ∨ a = 21 ∨ a = 23 ∨ a = 22 ∧ k = 1 ∨ (a % 8 = 7 ∧ 100 ≤ a ∧ a < 180 ∨ 1000 ≤ a ∧ a < 2000 ∨ a % 8 = 4 ∧ 100 ≤ a ∧ a < 180 ∧ k = 4) ∨ a = 31 ∨ a = 32 ∨ a = 35 ∨ 500 ≤ a ∧ a < 508 ∨ a = 29 ∨ 600 ≤ a ∧ a < 640 ∨ a = 30 → ¬ D a k)
    (hE : ∀ a k, a = 0 ∧ (k = 0 ∨ k = 5 ∨ k = 8 ∨ k = 12 ∨ k = 16 ∨ k = 27 ∨ k = 31) ∨ a = 3 ∨ a = 4 ∨ a = 9 ∨ a = 10 ∨ a = 11 ∨ 20 ≤ a ∧ a ≤ 27 → ¬ E a k) (hZ : ∀ r, mn hm 0 16 ≤ r → ¬ E 16 r) : RR (j + 1) h2 hm1 := by
  have R1 := R.up
  have hP := R1.P
  have hnew := cRea_of K2 (fun r h1 h2 => by
    rw [mn_cg1 (am.1 0 16 (hE 0 16 (by omega))).1] at h1
    rw [(am.1 16 r (hZ r h1)).1]
    exact R.zer r h1 h2) C2 f5
  obtain ⟨-, c1, -, -, -, c5, c6, -, -, -, c10, -, -, c13, c14, c15, c16⟩ := R1
  obtain ⟨k0, k2, k4, k7, k8, k9, -⟩ := K2
  exact ⟨k0, c1.fr ag am (fun a k h => hD a k (by omega)) (fun a k h => hE a k (by omega)), k2, c3, k4, c5.fr ag am (fun a k h => hD a k (by omega)) (fun a k h => hE a k (by omega)), c6.fr ag am (fun a k h => hD a k (by omega)) (fun a k h => hE a k (by omega)), k7, k8, k9, c10.fr hP ag am (fun a k h => hD a k (by omega)) (fun a k h => hE a k (by omega)), hnew.1, hnew.2, c13.fr ag am (fun a k h => hD a k (by omega)) (fun a k h => hE a k (by omega)), c14.fr ag am (fun a k h => hD a k (by omega)) (fun a k h => hE a k (by omega)), c15.fr ag am (fun a k h => hD a k (by omega)) (fun a k h => hE a k (by omega)), c16.fr (ag.nf hdn) am (fun a k h => hE a k (by omega)) (Nat.le_refl _)⟩
theorem sPF_cgr {h h' : KH} {r : Nat} (e8 : kI h' 0 8 = kI h 0 8) (e : ∀ a, a = 5 ∨ a = 6 ∨ a = 7 ∨ a = 14 ∨ a = 15 → ∀ k, kI h' a k = kI h a k) (e16 : kI h' 16 r = kI h 16 r) (e17 : kI h' 17 r = kI h 17 r) : sPF h' r = sPF h r := by
  unfold sPF
  rw [mn_cg1 e16, mn_cg1 e17, e17, mn_cg1 e8, sBest_cg (mn_cg (e 5 (by omega))) (mn_cg (e 6 (by omega))) (mn_cg (e 7 (by omega))) (mn_cg (e 14 (by omega))) (mn_cg (e 15 (by omega)))]
/-- correct -/
theorem o_correct : OPI (fun a b c h => f_X9_correct 0 a b h) (fun a b c h => f_X10_correct 0 a b h) (mp1 3) := by
  intro j hx hm a b c hj R
  have S := R.1.1.X 0
  have T := R.1.2
  have RX := R.X 0
  have K := RX.kCx
  have M := R.MX
  have hP := R.P
  have hPc := R.cnt
  have hR := M.2.2.1.1
  have RT := RX.thr 0
  have T1 := T.thr 0
  rcases ka_below a (mn hm 0 16) (by omega) with ⟨r, hr, rfl, q1, q2⟩ | hq
  · have hgood : ∀ (o : Option Nat), (∀ p, o = some p → p < mn hm 0 8) → b = cOf o → ¬ b < -1 → ¬ (nI (mn hm 0 8) - 1) < b → (f_X9_correct 0 (nI r) b (sX hx 0) = X9_correct_b20 0 (200 + 4 * r) (pAd o) (sX hx 0)) → OP1 (fun a b c h => f_X9_correct 0 a b h) (fun a b c h => f_X10_correct 0 a b h) (mp1 3) j hx hm (nI r) b c := by
      intro o ho eb g1 g2 hcall
      have ag1 : kAg (fun i k => i = 200 + 4 * r ∧ k = 4) (sX hx 0) (sI (sX hx 0) (200 + 4 * r) 4 1) := kAg.I _ _ _ _
      have am : kAg (fun i k => i = 16 ∧ k = r ∨ i = 17 ∧ k = r) (sI hm 0 35 0) (sI (sI (sI hm 0 35 0) 16 r 1) 17 r b) := (kAg.I (sI hm 0 35 0) 16 r 1).trans (kAg.I _ 17 r b) (fun i k q z => q (Or.inl z)) (fun i k q z => q (Or.inr z))
      have KT := RT.kCx
      have cD := KT.2.2.1.fr ag1 am (fun a k z1 z2 => by omega) (fun a k z1 z2 => by omega)
      have cP := KT.2.1.fr ag1 am (fun a k z1 z2 => by omega) (fun a k z1 z2 => by omega)
      have cA := KT.2.2.2.1.fr ag1 am (fun a k z1 z2 => by omega) (fun a k z1 z2 => by omega)
      have K1 := KT.fr2 ag1 am cA cD cP (fun a k z1 z2 => by unfold FX at z1; omega) (fun a k z1 z2 => by unfold FM at z1; omega)
      have A0 := RT.AS.fr hP hR ag1 am (fun a k z1 z2 => by unfold DM at z1; omega) (fun a k z1 z2 => by omega)
      obtain ⟨h2, f1, f2, f3⟩ := K1.move A0 (r := r) hr (o := o) ho
      have K2 := K1.fr f2 DM.dk
      have e17 : kI (sI (sI (sI hm 0 35 0) 16 r 1) 17 r b) 17 r = b := by rw [kI_sI, if_pos ⟨rfl, rfl⟩]
      have e16 : kI (sI (sI (sI hm 0 35 0) 16 r 1) 17 r b) 16 r = 1 := by rw [kI_sI, if_neg (by omega), kI_sI, if_pos ⟨rfl, rfl⟩]
      have C2 : cCor h2 (sI (sI (sI hm 0 35 0) 16 r 1) 17 r b) := fun s hs => by
        rw [(f2.1 (200 + 4 * s) 4 (fun z => by unfold DM at z; omega)).1]
        by_cases hsr : s = r
        · subst hsr
          rw [kI_sI, if_pos ⟨rfl, rfl⟩, e16, e17, eb]
          refine Or.inr ⟨rfl, rfl, ?_⟩
          cases o with
          | none => exact Or.inl rfl
          | some p => exact Or.inr ⟨p, ho p rfl, rfl⟩
        · rw [(ag1.1 (200 + 4 * s) 4 (fun z => by omega)).1, (am.1 16 s (fun z => by omega)).1, (am.1 17 s (fun z => by omega)).1, mn_cg1 (am.1 0 8 (fun z => by omega)).1]
          exact RT.cCor s hs
      have f5 := f3.cong (B := sPF (sI (sI (sI hm 0 35 0) 16 r 1) 17 r b)) (fun s hs => by
        unfold uP
        by_cases hsr : s = r
        · rw [if_pos hsr, hsr]
          have hb : (if kI (sI (sI (sI hm 0 35 0) 16 r 1) 17 r b) 17 r = -1 then none else some (mn (sI (sI (sI hm 0 35 0) 16 r 1) 17 r b) 17 r)) = o := by
            unfold mn
            rw [e17, eb]
            cases o with
            | none => rfl
            | some p =>
              have hp := ho p rfl
              have hn : ¬ nI p = -1 := by
                rw [ka_n1 (by omega)]
                exact fun z => z
              show (if nI p = -1 then none else some (nI p).toNatClampNeg) = some p
              rw [if_neg hn, nI_clamp (by omega)]
          unfold sPF
          rw [if_neg (by unfold mn; rw [e16]; decide), hb]
        · rw [if_neg hsr]
          exact (sPF_cgr (am.1 0 8 (fun z => by omega)).1 (fun a ha k => (am.1 a k (fun z => by omega)).1) (am.1 16 s (fun z => by omega)).1 (am.1 17 s (fun z => by omega)).1).symm)
      have ag : kAg (fun i k => i = 200 + 4 * r ∧ k = 4 ∨ ((100 ≤ i ∧ i < 180 ∧ (i % 8 = 0 ∧ k = 2 ∨ i % 8 = 1 ∨ i % 8 = 2)) ∨ (200 ≤ i ∧ i < 440 ∧ i % 4 = 0 ∧ k = 5))) (sX hx 0) h2 := ag1.trans f2 (fun i k q z => q (Or.inl z)) (fun i k q z => q (Or.inr z))
      refine op_ok (hx1 := h2) (hm1 := sI (sI (sI hm 0 35 0) 16 r 1) 17 r b) 0 (cOf (sPF hm r)) ?_ ?_ (by rw [(am.1 0 35 (fun z => by omega)).1, kI_sI, if_pos ⟨rfl, rfl⟩]) ?_
      · show f_X9_correct 0 (nI r) b (sX hx 0) = _
        rw [hcall]
        unfold X9_correct_b20
        rw [gR_k (K.rd hr).1.1, RX.plateR hr, K.numberOf (fun p e => M.pf_lt hr e), kb_ret, pI_k (K.rd hr).1.1, kV_k K1.1.1.d0, f1, kb_ret]
      · show f_X10_correct 0 (nI r) b hm = _
        unfold f_X10_correct
        rw [kV_k T.d0, M.isReading q1 q2, kb_ret, kif_f (by decide), gI_k T.d0, hPc.2.1, in_t g1 g2, kb_ret, kif_f (by decide)]
        unfold X10_correct_b27
        rw [kif_f (by decide)]
        unfold X10_correct_b38
        have T2 : kSm (sI (sI hm 0 35 0) 16 r 1) := T1.fr (kAg.I _ 16 r 1) (fun a k q z => by omega)
        rw [kV_k T.d0, can_0 T, kb_ret, kif_f (by decide), kV_k T1.d0, (M.thr 0).plateFor hr, kb_ret, sPF_thr, gN_k T1.d0 T1.r21, pAZ_k T1.d16 (by rw [T1.n16]; omega) (by omega) (Or.inr rfl), gN_k T2.d0 T2.r22, pAI_k T2.d17 (by rw [T2.n17]; omega) (by omega)]
      · exact rr_fin RT K2 C2 f5 (RT.2.2.2.1.fr ag am (fun a k z1 z2 => by omega) (fun a k z1 z2 => by omega)) ag am (fun a z => by omega) (fun a k z1 z2 => by omega) (fun a k z1 z2 => by omega) (fun s h1 z => by have h2 : mn hm 0 16 ≤ s := h1; omega)
    have h1 : ∀ p, p < mn hm 0 8 → ¬ nI p = -1 := fun p hp => by
      rw [ka_n1 (by omega)]
      exact fun z => z
    by_cases hb1 : b = -1
    · have hPz : ¬ (nI (mn hm 0 8) - 1) < -1 := by
        by_cases h0 : mn hm 0 8 = 0
        · rw [h0]
          decide
        · rw [ka_pred (by omega), Int32.lt_iff_toInt_lt, nI_toInt (by omega), show (-1 : Int32).toInt = -1 from by decide]
          omega
      refine hgood none (fun p e => by cases e) hb1 (by rw [hb1]; decide) (by rw [hb1]; exact hPz) ?_
      unfold f_X9_correct
      rw [kV_k S.d0, K.reading hr q1 q2, kb_ret, kif_t hb1]
      rfl
    · rcases ka_below b (mn hm 0 8) (by omega) with ⟨p, hp, rfl, q3, q4⟩ | hq3
      · refine hgood (some p) (fun p' e => by cases e; exact hp) rfl (fun z => by
          rw [Int32.lt_iff_toInt_lt, nI_toInt (by omega), show (-1 : Int32).toInt = -1 from by decide] at z
          omega) q4 ?_
        unfold f_X9_correct
        rw [kV_k S.d0, K.reading hr q1 q2, kb_ret, kif_f hb1, kV_k S.d0, RX.plate hp q3 q4, kb_ret]
        rfl
      · have hq4 : b < -1 ∨ (nI (mn hm 0 8) - 1) < b := by
          rcases hq3 with z | z
          · left
            have hne : b.toInt ≠ (-1 : Int32).toInt := fun w => hb1 (Int32.toInt_inj.1 w)
            rw [Int32.lt_iff_toInt_lt] at z ⊢
            rw [show (-1 : Int32).toInt = -1 from by decide] at hne ⊢
            rw [show (0 : Int32).toInt = 0 from by decide] at z
            omega
          · exact Or.inr z
        refine op_no R 3 1 0 rfl (by decide) ?_ ?_
        · show f_X9_correct 0 (nI r) b (sX hx 0) = _
          unfold f_X9_correct
          rw [kV_k S.d0, K.reading hr q1 q2, kb_ret, kif_f hb1, kV_k S.d0, RX.plateNo hq3]
          rfl
        · show f_X10_correct 0 (nI r) b hm = _
          unfold f_X10_correct
          rw [kV_k T.d0, M.isReading q1 q2, kb_ret, kif_f (by decide), gI_k T.d0, hPc.2.1, in_f hq4, kb_ret, kif_t rfl]
          unfold X10_correct_b26 X10_correct_b27 X10_correct_b38
          rw [kif_t rfl, kV_k T.d0, can_n T (show (1 : Int32) ≠ 0 by decide), kb_ret, kif_t rfl]
  · refine op_no R 3 1 0 rfl (by decide) ?_ ?_
    · show f_X9_correct 0 a b (sX hx 0) = _
      unfold f_X9_correct
      rw [kV_k S.d0, K.readingNo hq]
      rfl
    · show f_X10_correct 0 a b hm = _
      unfold f_X10_correct
      rw [kV_k T.d0, M.isReadingNo hq, kb_ret, kif_t rfl]
      unfold X10_correct_b26 X10_correct_b27 X10_correct_b38
      rw [kif_t rfl, kV_k T.d0, can_n T (show (1 : Int32) ≠ 0 by decide), kb_ret, kif_t rfl]
/-- uncorrect -/
theorem o_uncorrect : OPI (fun a b c h => f_X9_uncorrect 0 a h) (fun a b c h => f_X10_uncorrect 0 a h) (mp2 3 2) := by
  intro j hx hm a b c hj R
  have S := R.1.1.X 0
  have T := R.1.2
  have RX := R.X 0
  have K := RX.kCx
  have M := R.MX
  have hP := R.P
  have hR := M.2.2.1.1
  have RT := RX.thr 0
  have T1 := T.thr 0
  rcases ka_below a (mn hm 0 16) (by omega) with ⟨r, hr, rfl, q1, q2⟩ | hq
  · rcases RX.cCor r hr with ⟨z1, z2⟩ | ⟨z1, z2, z3⟩
    · refine op_no R 2 2 0 rfl (by decide) ?_ ?_
      · show f_X9_uncorrect 0 (nI r) (sX hx 0) = _
        unfold f_X9_uncorrect
        rw [kV_k S.d0, K.reading hr q1 q2, kb_ret, gI_k (K.rd hr).1.1, kif_t z1]
      · show f_X10_uncorrect 0 (nI r) hm = _
        unfold f_X10_uncorrect
        rw [kV_k T.d0, M.isReading q1 q2, kb_ret, kif_f (by decide), gN_k T.d0 T.r21, gAI_k T.d16 (by rw [T.n16]; omega) (by omega), kif_t z2]
        unfold X10_uncorrect_b27
        rw [kV_k T.d0, can_n T (show (2 : Int32) ≠ 0 by decide), kb_ret, kif_t rfl]
    · have ag1 : kAg (fun i k => i = 200 + 4 * r ∧ k = 4) (sX hx 0) (sI (sX hx 0) (200 + 4 * r) 4 0) := kAg.I _ _ _ _
      have am : kAg (fun i k => i = 16 ∧ k = r) (sI hm 0 35 0) (sI (sI hm 0 35 0) 16 r 0) := kAg.I _ _ _ _
      have KT := RT.kCx
      have cD := KT.2.2.1.fr ag1 am (fun a k z1 z2 => by omega) (fun a k z1 z2 => by omega)
      have cP := KT.2.1.fr ag1 am (fun a k z1 z2 => by omega) (fun a k z1 z2 => by omega)
      have cA := KT.2.2.2.1.fr ag1 am (fun a k z1 z2 => by omega) (fun a k z1 z2 => by omega)
      have K1 := KT.fr2 ag1 am cA cD cP (fun a k z1 z2 => by unfold FX at z1; omega) (fun a k z1 z2 => by unfold FM at z1; omega)
      have A0 := RT.AS.fr hP hR ag1 am (fun a k z1 z2 => by unfold DM at z1; omega) (fun a k z1 z2 => by omega)
      obtain ⟨h2, f1, f2, f3⟩ := K1.move A0 (r := r) hr (o := sBest (mn (sI (sI hm 0 35 0) 16 r 0)) r (mn (sI (sI hm 0 35 0) 16 r 0) 0 8)) (fun p e => (sBest_lt _ _ e).1)
      have K2 := K1.fr f2 DM.dk
      have e16 : kI (sI (sI hm 0 35 0) 16 r 0) 16 r = 0 := by rw [kI_sI, if_pos ⟨rfl, rfl⟩]
      have C2 : cCor h2 (sI (sI hm 0 35 0) 16 r 0) := fun s hs => by
        rw [(f2.1 (200 + 4 * s) 4 (fun z => by unfold DM at z; omega)).1]
        by_cases hsr : s = r
        · subst hsr
          rw [kI_sI, if_pos ⟨rfl, rfl⟩, e16]
          exact Or.inl ⟨rfl, rfl⟩
        · rw [(ag1.1 (200 + 4 * s) 4 (fun z => by omega)).1, (am.1 16 s (fun z => by omega)).1, (am.1 17 s (fun z => by omega)).1, mn_cg1 (am.1 0 8 (fun z => by omega)).1]
          exact RT.cCor s hs
      have epf : sPF (sI (sI hm 0 35 0) 16 r 0) r = sBest (mn (sI (sI hm 0 35 0) 16 r 0)) r (mn (sI (sI hm 0 35 0) 16 r 0) 0 8) := by
        unfold sPF
        rw [if_pos (by unfold mn; rw [e16]; rfl)]
      have f5 := f3.cong (B := sPF (sI (sI hm 0 35 0) 16 r 0)) (fun s hs => by
        unfold uP
        by_cases hsr : s = r
        · rw [if_pos hsr, hsr, epf]
        · rw [if_neg hsr]
          exact (sPF_cgr (am.1 0 8 (fun z => by omega)).1 (fun a ha k => (am.1 a k (fun z => by omega)).1) (am.1 16 s (fun z => by omega)).1 (am.1 17 s (fun z => by omega)).1).symm)
      have ag : kAg (fun i k => i = 200 + 4 * r ∧ k = 4 ∨ ((100 ≤ i ∧ i < 180 ∧ (i % 8 = 0 ∧ k = 2 ∨ i % 8 = 1 ∨ i % 8 = 2)) ∨ (200 ≤ i ∧ i < 440 ∧ i % 4 = 0 ∧ k = 5))) (sX hx 0) h2 := ag1.trans f2 (fun i k q z => q (Or.inl z)) (fun i k q z => q (Or.inr z))
      have Rn := rr_fin RT K2 C2 f5 (RT.2.2.2.1.fr ag am (fun a k z1 z2 => by omega) (fun a k z1 z2 => by omega)) ag am (fun a z => by omega) (fun a k z1 z2 => by omega) (fun a k z1 z2 => by omega) (fun s h1 z => by have h2 : mn hm 0 16 ≤ s := h1; omega)
      have Mn := Rn.MX
      refine op_ok (hx1 := h2) (hm1 := sI (sI hm 0 35 0) 16 r 0) 0 (cOf (sPF (sI (sI hm 0 35 0) 16 r 0) r)) ?_ ?_ (by rw [(am.1 0 35 (fun z => by omega)).1, kI_sI, if_pos ⟨rfl, rfl⟩]) Rn
      · show f_X9_uncorrect 0 (nI r) (sX hx 0) = _
        unfold f_X9_uncorrect
        rw [kV_k S.d0, K.reading hr q1 q2, kb_ret, gI_k (K.rd hr).1.1, z1, kif_f (by decide), pI_k (K.rd hr).1.1, kV_k K1.1.1.d0, K1.byText hr, kb_ret, kV_k K1.1.1.d0, f1, kb_ret, gR_k (K2.rd hr).1.1, Rn.plateR hr, K2.numberOf (fun p e => Mn.pf_lt hr e), kb_ret]
      · show f_X10_uncorrect 0 (nI r) hm = _
        have z2' : kI hm 16 r = 1 := z2
        unfold f_X10_uncorrect
        rw [kV_k T.d0, M.isReading q1 q2, kb_ret, kif_f (by decide), gN_k T.d0 T.r21, gAI_k T.d16 (by rw [T.n16]; omega) (by omega), z2', kif_f (by decide)]
        unfold X10_uncorrect_b27
        rw [kV_k T.d0, can_0 T, kb_ret, kif_f (by decide), gN_k T1.d0 T1.r21, pAZ_k T1.d16 (by rw [T1.n16]; omega) (by omega) (Or.inl rfl), kV_k Mn.1.d0, Mn.plateFor hr, kb_ret]
  · refine op_no R 3 1 0 rfl (by decide) ?_ ?_
    · show f_X9_uncorrect 0 a (sX hx 0) = _
      unfold f_X9_uncorrect
      rw [kV_k S.d0, K.readingNo hq]
      rfl
    · show f_X10_uncorrect 0 a hm = _
      unfold f_X10_uncorrect
      rw [kV_k T.d0, M.isReadingNo hq, kb_ret, kif_t rfl]
      unfold X10_uncorrect_b27
      rw [kV_k T.d0, can_n T (show (1 : Int32) ≠ 0 by decide), kb_ret, kif_t rfl]
end
section
/-! setPause, distance -/
def FRd (a k : Nat) : Prop := a = 0 ∧ (k = 12 ∨ k = 15 ∨ k = 16) ∨ a = 21 ∨ a = 23 ∨ a = 22 ∧ k = 1 ∨ (a % 8 = 7 ∧ 100 ≤ a ∧ a < 180 ∨ 1000 ≤ a ∧ a < 2000 ∨ a % 8 = 4 ∧ 100 ≤ a ∧ a < 180 ∧ k = 4) ∨ a = 31 ∨ a = 32 ∨ a = 35 ∨ 500 ≤ a ∧ a < 508 ∨ a = 29 ∨ 600 ≤ a ∧ a < 640 ∨ a = 30
theorem FRd_DM : ∀ a k, FRd a k → ¬ DM a k := by
  intro a k h1 h2
  unfold FRd at h1
  unfold DM at h2
  rcases h2 with h2 | h2 <;> omega
theorem rgt_t {b : Int32} {h : KH} (h1 : ¬ b < 0) (h2 : ¬ 7 < b) : f_X9_requireGate b h = kret () h := by
  unfold f_X9_requireGate
  rw [wi_t h1 h2, kb_ret, kif_f (by decide)]
theorem rgt_f {b : Int32} {h : KH} (h1 : b < 0 ∨ 7 < b) : f_X9_requireGate b h = kthrow 3 h := by
  unfold f_X9_requireGate
  rw [wi_f h1, kb_ret, kif_t rfl]
theorem mgt_t {b : Int32} {h : KH} (h1 : ¬ b < 0) (h2 : ¬ 7 < b) : f_X10_isGate b h = kret 1 h := by
  unfold f_X10_isGate
  rw [in_t h1 h2, kb_ret]
  rfl
theorem mgt_f {b : Int32} {h : KH} (h1 : b < 0 ∨ 7 < b) : f_X10_isGate b h = kret 0 h := by
  unfold f_X10_isGate
  rw [in_f h1, kb_ret]
  rfl
theorem mc_idx8 (a b : Nat) : (8 : Int32) * nI a + nI b = nI (8 * a + b) := by
  rw [show (8 : Int32) = nI 8 from rfl, ka_mul, ka_add]
theorem o_distance : OPI (fun a b c h => f_X9_distance 0 a b h) (fun a b c h => f_X10_distance 0 a b h) (mp1 3) := by
  intro j hx hm a b c hj R
  have S := R.1.1.X 0
  have T := R.1.2
  have K := (R.X 0).kCx
  rcases ka_rng a 0 7 0 7 rfl rfl (by decide) (by decide) with ⟨x, x1, x2, rfl, q1, q2⟩ | hq
  · rcases ka_rng b 0 7 0 7 rfl rfl (by decide) (by decide) with ⟨y, y1, y2, rfl, q3, q4⟩ | hq3
    · refine op_rd R (kI hm 2 (8 * x + y)) ?_ ?_
      · show f_X9_distance 0 (nI x) (nI y) (sX hx 0) = _
        unfold f_X9_distance
        rw [rgt_t q1 q2, kb_ret, rgt_t q3 q4, kb_ret, gN_k S.d0 S.r0_0, kV_k S.d1, K.between (by omega) (by omega), kb_ret]
      · show f_X10_distance 0 (nI x) (nI y) hm = _
        unfold f_X10_distance
        rw [mgt_t q1 q2, kb_ret, kif_f (by decide), mgt_t q3 q4, kb_ret, kif_f (by decide)]
        unfold X10_distance_b20
        rw [kV_k T.d0, can_0 T, kb_ret, kif_f (by decide), gN_k (T.thr 0).d0 (T.thr 0).r3, mc_idx8, gAI_k (T.thr 0).d2 (by rw [(T.thr 0).n2]; omega) (by omega)]
        rfl
    · refine op_no R 3 1 0 rfl (by decide) ?_ ?_
      · show f_X9_distance 0 (nI x) b (sX hx 0) = _
        unfold f_X9_distance
        rw [rgt_t q1 q2, kb_ret, rgt_f hq3]
        rfl
      · show f_X10_distance 0 (nI x) b hm = _
        unfold f_X10_distance
        rw [mgt_t q1 q2, kb_ret, kif_f (by decide), mgt_f hq3, kb_ret, kif_t rfl]
        unfold X10_distance_b19 X10_distance_b20
        rw [kV_k T.d0, can_n T (show (1 : Int32) ≠ 0 by decide), kb_ret, kif_t rfl]
        rfl
  · refine op_no R 3 1 0 rfl (by decide) ?_ ?_
    · show f_X9_distance 0 a b (sX hx 0) = _
      unfold f_X9_distance
      rw [rgt_f hq]
      rfl
    · show f_X10_distance 0 a b hm = _
      unfold f_X10_distance
      rw [mgt_f hq, kb_ret, kif_t rfl]
      unfold X10_distance_b19 X10_distance_b20
      rw [kV_k T.d0, can_n T (show (1 : Int32) ≠ 0 by decide), kb_ret, kif_t rfl]
      rfl
theorem jaDM : ∀ i k : Nat, 100 ≤ i ∧ i < 180 ∧ i % 8 = 2 → DM i k := fun i k h => Or.inl (by omega)
theorem o_setPause : OPI (fun a b c h => f_X9_setPause 0 a h) (fun a b c h => f_X10_setPause 0 a h) (mp1 1) := by
  intro j hx hm a b c hj R
  have S := R.1.1.X 0
  have T := R.1.2
  have RX := R.X 0
  have M := R.MX
  have hP := R.P
  have hR := M.2.2.1.1
  have RT := RX.thr 0
  have T1 := T.thr 0
  rcases ka_rng a 0 500 0 500 rfl rfl (by decide) (by decide) with ⟨v, v1, v2, rfl, q1, q2⟩ | hq
  · obtain ⟨n, n1, n2, n3⟩ := R.2.2.1
    have ag1 : kAg (fun i k => i = 1 ∧ k = 3) (sX hx 0) (sI (sX hx 0) 1 3 (nI v)) := kAg.I _ _ _ _
    have am : kAg (fun i k => i = 0 ∧ k = 1) (sI hm 0 35 0) (sI (sI hm 0 35 0) 0 1 (nI v)) := kAg.I _ _ _ _
    have KT := RT.kCx
    have cD := KT.2.2.1.fr ag1 am (fun a k z1 z2 => by omega) (fun a k z1 z2 => by omega)
    have cA := KT.2.2.2.1.fr ag1 am (fun a k z1 z2 => by omega) (fun a k z1 z2 => by omega)
    have cP : cPau (sI (sX hx 0) 1 3 (nI v)) (sI (sI hm 0 35 0) 0 1 (nI v)) := ⟨v, v2, by rw [kI_sI, if_pos ⟨rfl, rfl⟩], by rw [kI_sI, if_pos ⟨rfl, rfl⟩]⟩
    have K1 := KT.fr2 ag1 am cA cD cP (fun a k z1 z2 => by unfold FX at z1; omega) (fun a k z1 z2 => by unfold FM at z1; omega)
    have A0 := RT.AS.ar.fr hP hR ag1 am (fun a k z1 z2 => by omega) (fun a k z1 z2 => by omega)
    obtain ⟨h2, f1, f2', f3⟩ := K1.joinAllAgain A0
    have f2 : kAg DM _ h2 := f2'.sub jaDM
    have K2 := K1.fr f2 DM.dk
    have C2 : cCor h2 (sI (sI hm 0 35 0) 0 1 (nI v)) := fun s hs => by
      rw [(f2.1 (200 + 4 * s) 4 (fun z => by unfold DM at z; omega)).1, (ag1.1 (200 + 4 * s) 4 (fun z => by omega)).1, (am.1 16 s (fun z => by omega)).1, (am.1 17 s (fun z => by omega)).1, mn_cg1 (am.1 0 8 (fun z => by omega)).1]
      exact RT.cCor s hs
    have f5 := f3.cong (B := sPF (sI (sI hm 0 35 0) 0 1 (nI v))) (fun s hs => (sPF_cg (am.1 0 8 (fun z => by omega)).1 (fun a ha k => (am.1 a k (fun z => by omega)).1) s).symm)
    have ag : kAg (fun i k => i = 1 ∧ k = 3 ∨ DM i k) (sX hx 0) h2 := ag1.trans f2 (fun i k q z => q (Or.inl z)) (fun i k q z => q (Or.inr z))
    have cL := RT.2.2.2.1.fr ag am (fun a k z1 z2 => z2.elim (fun z => by omega) (fun z => by unfold DM at z; omega)) (fun a k z1 z2 => by omega)
    have Rn := rr_fin RT K2 C2 f5 cL ag am (fun a z => z.elim (fun z => by omega) (fun z => by unfold DM at z; omega)) (fun a k z1 z2 => z2.elim (fun z => by omega) (FRd_DM a k z1)) (fun a k z1 z2 => by omega) (fun s h1 z => by omega)
    refine op_ok (hx1 := h2) (hm1 := sI (sI hm 0 35 0) 0 1 (nI v)) 0 (nI n) ?_ ?_ (by rw [(am.1 0 35 (fun z => by omega)).1, kI_sI, if_pos ⟨rfl, rfl⟩]) Rn
    · show f_X9_setPause 0 (nI v) (sX hx 0) = _
      unfold f_X9_setPause
      rw [wi_t q1 q2, kb_ret, kif_f (by decide), gN_k S.d0 S.r0_0, gI_k S.d1, show kI (sX hx 0) 1 3 = nI n from n2, gN_k S.d0 S.r0_0, pI_k S.d1, kV_k K1.1.1.d0, f1, kb_ret]
    · show f_X10_setPause 0 (nI v) hm = _
      unfold f_X10_setPause
      rw [in_t q1 q2, kb_ret, kif_f (by decide)]
      unfold X10_setPause_b17
      rw [kV_k T.d0, can_0 T, kb_ret, kif_f (by decide), gI_k T1.d0, pI_k T1.d0, show kI (sI hm 0 35 0) 0 1 = nI n from n3]
  · refine op_no R 1 1 0 rfl (by decide) ?_ ?_
    · show f_X9_setPause 0 a (sX hx 0) = _
      unfold f_X9_setPause
      rw [wi_f hq, kb_ret, kif_t rfl]
    · show f_X10_setPause 0 a hm = _
      unfold f_X10_setPause
      rw [in_f hq, kb_ret, kif_t rfl]
      unfold X10_setPause_b17
      rw [kV_k T.d0, can_n T (show (1 : Int32) ≠ 0 by decide), kb_ret, kif_t rfl]
end
section
/-! plateAt: the model counts who comes ahead, the class looks -/
def cA (m : Nat → Nat → Nat) (k : Nat) : Nat → Nat
  | 0 => 0
  | n + 1 => cA m k n + if sTl m n < sTl m k then 1 else 0
theorem cA_cnt (m : Nat → Nat → Nat) (k n : Nat) : cA m k n = (List.range n).countP (fun j => decide (sTl m j < sTl m k)) := by
  induction n with
  | zero => rfl
  | succ n ih =>
    unfold cA
    rw [List.range_succ, List.countP_append, List.countP_singleton, ih]
    by_cases g : sTl m n < sTl m k
    · rw [if_pos g, if_pos (by simpa using g)]
    · rw [if_neg g, if_neg (by simpa using g)]
theorem cA_le (m : Nat → Nat → Nat) (k n : Nat) : cA m k n ≤ n := by
  induction n with
  | zero => exact Nat.le_refl _
  | succ n ih =>
    unfold cA
    split <;> omega
theorem cA_rank {m : Nat → Nat → Nat} {o : List Nat} {P i : Nat} (om : ∀ p, p ∈ o ↔ p < P) (op : o.Pairwise (fun p q => sTl m p < sTl m q)) (hi : i < o.length) : cA m (o.getD i 0) P = i := by
  have hnd : o.Nodup := op.imp (fun {a b} h e => by rw [e] at h; exact List.lt_irrefl _ h)
  have hper : o.Perm (List.range P) := (List.perm_ext_iff_of_nodup hnd List.nodup_range).2 (fun a => by rw [om, List.mem_range])
  have hlt : ∀ a b, (ha : a < o.length) → (hb : b < o.length) → a < b → sTl m o[a] < sTl m o[b] := fun a b ha hb hab => List.pairwise_iff_getElem.1 op a b ha hb hab
  rw [cA_cnt, ← hper.countP_eq, gD_get hi]
  have h1 : List.countP (fun j => decide (sTl m j < sTl m o[i])) (o.take i) = i := by
    rw [List.countP_eq_length.2, List.length_take_of_le (by omega)]
    intro a ha
    obtain ⟨j, hj, rfl⟩ := List.mem_take_iff_getElem.1 ha
    exact decide_eq_true (hlt j i (by omega) hi (by omega))
  have h2 : List.countP (fun j => decide (sTl m j < sTl m o[i])) (o.drop i) = 0 := by
    rw [List.countP_eq_zero]
    intro a ha
    obtain ⟨j, hj, rfl⟩ := List.mem_drop_iff_getElem.1 ha
    intro z
    have z' := of_decide_eq_true z
    by_cases hj0 : j = 0
    · subst hj0
      exact List.lt_irrefl _ z'
    · exact List.lt_asymm (hlt i (i + j) hi (by omega) (by omega)) z'
  have h3 : List.countP (fun j => decide (sTl m j < sTl m o[i])) o = List.countP (fun j => decide (sTl m j < sTl m o[i])) (o.take i ++ o.drop i) := by rw [List.take_append_drop]
  rw [h3, List.countP_append, h1, h2, Nat.add_zero]
def kFl (t : Option Nat) (n : Nat) : Option Nat := match t with
  | some q => if q < n then some q else none
  | none => none
section KPLAT
variable {h : KH}
theorem MX.cntL (M : MX h) {b v2 : Int32} {k : Nat} (hk : k < mn h 0 8) (rc : Nat → Int32 → Int32 → Int32 → KH → KO Int32) : ∀ (f n : Nat), n ≤ mn h 0 8 → mn h 0 8 < n + f → X10_plateAt_L18 rc f 0 b v2 (nI k) (nI (cA (mn h) k n)) (nI n) h = if nI (cA (mn h) k (mn h 0 8)) = b then rc 0 b (nI k) (nI (k + 1)) h else rc 0 b v2 (nI (k + 1)) h := by
  have T := M.1
  have hP := M.2.1
  intro f
  induction f with
  | zero => intro n h1 h2; omega
  | succ f ih =>
    intro n h1 h2
    unfold X10_plateAt_L18 X10_plateAt_b18
    rw [gI_k T.d0, hP.2]
    by_cases hn : mn h 0 8 ≤ n
    · obtain rfl : n = mn h 0 8 := by omega
      rw [kif_t (by rw [ka_le (by omega) (by omega)]; exact hn)]
      unfold X10_plateAt_b64
      rw [nI_1]
      rfl
    · have e := ih (n + 1) (by omega) (by omega)
      rw [kif_f (by rw [ka_le (by omega) (by omega)]; exact hn), kV_k T.d0, M.ahead (by omega) hk, kb_ret]
      unfold X10_plateAt_b44
      have hs : cA (mn h) k (n + 1) = cA (mn h) k n + if sTl (mn h) n < sTl (mn h) k then 1 else 0 := rfl
      by_cases g : sTl (mn h) n < sTl (mn h) k
      · rw [if_pos g] at hs ⊢
        rw [hs, ← nI_1, ← nI_1] at e
        rw [kif_f (by decide)]
        exact e
      · rw [if_neg g] at hs ⊢
        rw [hs, ← nI_1] at e
        rw [kif_t rfl]
        show X10_plateAt_L18 rc f 0 b v2 (nI k) (nI (cA (mn h) k n) + nI 0) (nI n + 1) h = _
        rw [ka_add]
        exact e
theorem MX.plAtL (M : MX h) {b : Int32} {t : Option Nat} (ht : ∀ k, k < mn h 0 8 → (nI (cA (mn h) k (mn h 0 8)) = b ↔ t = some k)) : ∀ (f k : Nat), k ≤ mn h 0 8 → mn h 0 8 < k + f → X10_plateAt_L4 f 0 b (cOf (kFl t (k))) (nI k) h = kif (cOf (kFl t (mn h 0 8)) = -1) (X10_plateAt_b82 (cOf (kFl t (mn h 0 8))) 1 0 h) (X10_plateAt_b82 (cOf (kFl t (mn h 0 8))) 0 0 h) := by
  have T := M.1
  have hP := M.2.1
  intro f
  induction f with
  | zero => intro n h1 h2; omega
  | succ f ih =>
    intro k h1 h2
    unfold X10_plateAt_L4 X10_plateAt_b4
    rw [gI_k T.d0, hP.2]
    by_cases hk : mn h 0 8 ≤ k
    · obtain rfl : k = mn h 0 8 := by omega
      rw [kif_t (by rw [ka_le (by omega) (by omega)]; exact hk)]
    · have e := ih (k + 1) (by omega) (by omega)
      have hc := M.cntL (b := b) (v2 := cOf (kFl t (k))) (show k < mn h 0 8 by omega) (X10_plateAt_L4 f) kF 0 (by omega) (by unfold kF; omega)
      rw [kif_f (by rw [ka_le (by omega) (by omega)]; exact hk)]
      refine Eq.trans hc ?_
      by_cases g : t = some k
      · rw [if_pos ((ht k (by omega)).2 g)]
        rw [g] at e ⊢
        have e1 : kFl (some k) (k + 1) = some k := if_pos (by omega)
        rw [e1] at e
        exact e
      · rw [if_neg (fun z => g ((ht k (by omega)).1 z))]
        have e1 : kFl t (k + 1) = kFl t (k) := by
          cases t with
          | none => rfl
          | some q =>
            have hqk : q ≠ k := fun z => g (by rw [z])
            show (if q < k + 1 then some q else none) = if q < k then some q else none
            by_cases g1 : q < k
            · rw [if_pos g1, if_pos (by omega)]
            · rw [if_neg g1, if_neg (by omega)]
        rw [e1] at e
        exact e
end KPLAT
theorem o_plateAt : OPI (fun a b c h => f_X9_plateAt 0 a h) (fun a b c h => f_X10_plateAt 0 a h) (mp1 4) := by
  intro j hx hm a b c hj R
  have S := R.1.1.X 0
  have T := R.1.2
  have RX := R.X 0
  have M := R.MX
  have hPc := R.cnt
  obtain ⟨o, ol, om, op, oe⟩ := RX.2.2.2.2.2.2.2.2.2.1
  have hf0 : ∀ t : Option Nat, kFl t 0 = none := fun t => by
    cases t with
    | none => rfl
    | some q =>
      show (if q < 0 then some q else none) = none
      rw [if_neg (Nat.not_lt_zero q)]
  have hstart : ∀ t : Option Nat, (∀ k, k < mn hm 0 8 → (nI (cA (mn hm) k (mn hm 0 8)) = a ↔ t = some k)) → f_X10_plateAt 0 a hm = kif (cOf (kFl t (mn hm 0 8)) = -1) (X10_plateAt_b82 (cOf (kFl t (mn hm 0 8))) 1 0 hm) (X10_plateAt_b82 (cOf (kFl t (mn hm 0 8))) 0 0 hm) := fun t ht => by
    have e := M.plAtL ht kF 0 (by omega) (by unfold kF; omega)
    rw [hf0] at e
    exact e
  have hrk : ∀ k, k < mn hm 0 8 → ∃ i, i < o.length ∧ o.getD i 0 = k ∧ cA (mn hm) k (mn hm 0 8) = i := fun k hk => by
    obtain ⟨i, hi, e⟩ := gD_mem.1 ((om k).2 hk)
    exact ⟨i, hi, e, by rw [← e]; exact cA_rank om op hi⟩
  rcases ka_below a (mn hm 0 8) (by omega) with ⟨i, hi, rfl, q1, q2⟩ | hq
  · have hp : o.getD i 0 < mn hm 0 8 := (om _).1 (gD_mem.2 ⟨i, by omega, rfl⟩)
    have e := hstart (some (o.getD i 0)) (fun k hk => by
      obtain ⟨i', hi', ek, er⟩ := hrk k hk
      rw [er, ka_eq (by omega) (by omega)]
      constructor
      · intro z
        rw [← ek, z]
      · intro z
        have z' : o.getD i 0 = k := by injection z
        have h1 := cA_rank om op (show i < o.length by omega)
        rw [z', er] at h1
        exact h1)
    have e1 : kFl (some (o.getD i 0)) (mn hm 0 8) = some (o.getD i 0) := if_pos hp
    rw [e1] at e
    refine op_rd R (nI (o.getD i 0)) ?_ ?_
    · show f_X9_plateAt 0 (nI i) (sX hx 0) = _
      unfold f_X9_plateAt
      rw [gI_k S.d0, RX.cnt.1, wi_t q1 q2, kb_ret, kif_f (by decide), gN_k S.d0 S.r0_5, gAN_k S.d27 (by rw [S.n27]; omega) (by omega) (oe i (by omega)), gI_k (RX.pl hp).1.1, (RX.pl hp).2.2.1]
    · show f_X10_plateAt 0 (nI i) hm = _
      rw [e, kif_f (by show ¬ nI (o.getD i 0) = -1; rw [ka_n1 (by omega)]; exact fun z => z)]
      unfold X10_plateAt_b82
      rw [kV_k T.d0, can_0 T, kb_ret, kif_f (by decide)]
      rfl
  · have e := hstart none (fun k hk => by
      obtain ⟨i', hi', ek, er⟩ := hrk k hk
      rw [er]
      constructor
      · intro z
        rw [← z] at hq
        exfalso
        rcases hq with hq | hq
        · rw [ka_neg (by omega)] at hq
          exact hq
        · rw [ka_pred (by omega), ka_lt (by omega) (by omega)] at hq
          omega
      · intro z
        cases z)
    refine op_no R 4 1 0 rfl (by decide) ?_ ?_
    · show f_X9_plateAt 0 a (sX hx 0) = _
      unfold f_X9_plateAt
      rw [gI_k S.d0, RX.cnt.1, wi_f hq, kb_ret, kif_t rfl]
    · show f_X10_plateAt 0 a hm = _
      rw [e, kif_t (show cOf (kFl none (mn hm 0 8)) = -1 from rfl)]
      unfold X10_plateAt_b82
      rw [kV_k T.d0, can_n T (show (1 : Int32) ≠ 0 by decide), kb_ret, kif_t rfl]
      rfl
end
section
/-! a copy of a text -/
section KCOPY
variable {t s c d n : Nat}
theorem x7_copyL (hn : n ≤ 6) (n1 : d ≠ s) (n2 : c ≠ t) (n3 : d ≠ t) (n4 : c ≠ d) (n5 : c ≠ s) : ∀ (f i : Nat) (h : KH), kd h t = 8 → kR h t 0 = some s → kd h s = 21 → kn h s = 6 → kI h t 1 = nI n → kd h c = 8 → kR h c 0 = some d → kd h d = 21 → kn h d = 6 → i ≤ n → n < i + f → (∀ k, k < i → kI h d k = kI h s k) → ∃ h', X7_copy_L10 f t c (nI i) h = kret c h' ∧ kAg (fun a k => a = d ∨ a = c ∧ k = 1) h h' ∧ kI h' c 1 = nI n ∧ (∀ k, k < n → kI h' d k = kI h s k) ∧ kx h' = kx h := by
  intro f
  induction f with
  | zero => intro i h _ _ _ _ _ _ _ _ _ h1 h2; omega
  | succ f ih =>
    intro i h a1 a2 a3 a4 a5 b1 b2 b3 b4 h1 h2 h3
    unfold X7_copy_L10 X7_copy_b10
    rw [gI_k a1, a5]
    by_cases hi : n ≤ i
    · obtain rfl : i = n := by omega
      rw [kif_t (by rw [ka_le (by omega) (by omega)]; exact hi), gI_k a1, a5, pI_k b1]
      refine ⟨_, rfl, (kAg.I h c 1 _).sub (fun a k z => Or.inr z), by rw [kI_sI, if_pos ⟨rfl, rfl⟩], fun k hk => ?_, rfl⟩
      rw [kI_sI, if_neg (fun z => n4 z.1.symm)]
      exact h3 k hk
    · rw [kif_f (by rw [ka_le (by omega) (by omega)]; exact hi), gN_k b1 b2, gN_k a1 a2, gAI_k a3 (by omega) (by omega), pAI_k b3 (by omega) (by omega), nI_1]
      obtain ⟨h', e1, e2, e3, e4, e5⟩ := ih (i + 1) (sI h d i (kI h s i)) a1 a2 a3 a4 (by rw [kI_sI, if_neg (fun z => n3 z.1.symm)]; exact a5) b1 b2 b3 b4 (by omega) (by omega) (fun k hk => by
        rw [kI_sI, kI_sI, if_neg (c := s = d ∧ k = i) (fun z => n1 z.1.symm)]
        by_cases hki : k = i
        · rw [if_pos ⟨rfl, hki⟩, hki]
        · rw [if_neg (fun z => hki z.2)]
          exact h3 k (by omega))
      refine ⟨h', e1, ((kAg.I h d i _).sub (fun a k z => Or.inl z.1)).trans e2 (fun a k q => q) (fun a k q => q), e3, fun k hk => ?_, e5⟩
      rw [e4 k hk, kI_sI, if_neg (fun z => n1 z.1.symm)]
/-- a new text at the next address, its signs behind it -/
theorem x7_copy {h : KH} (hn : n ≤ 6) (a1 : kd h t = 8) (a2 : kR h t 0 = some s) (a3 : kd h s = 21) (a4 : kn h s = 6) (a5 : kI h t 1 = nI n) (hx : kx h = c) (f1 : kd h c = 0) (f2 : kd h (c + 1) = 0) : ∃ h', f_X7_copy t h = kret c h' ∧ kAg (fun a _ => a = c ∨ a = c + 1 ∨ a = c + 1000000 ∨ a = c + 1 + 1000000) h h' ∧ kx h' = c + 2 ∧ kd h' c = 8 ∧ kd h' (c + 1) = 21 ∧ kn h' (c + 1) = 6 ∧ kR h' c 0 = some (c + 1) ∧ kI h' c 1 = nI n ∧ ∀ k, k < n → kI h' (c + 1) k = kI h s k := by
  subst hx
  have n1 : kx h ≠ t := fun e => by rw [e, a1] at f1; cases f1
  have n2 : kx h ≠ s := fun e => by rw [e, a3] at f1; cases f1
  have n3 : kx h + 1 ≠ t := fun e => by rw [e, a1] at f2; cases f2
  have n4 : kx h + 1 ≠ s := fun e => by rw [e, a3] at f2; cases f2
  have g2 : kd (al h 8 0) (kx (al h 8 0)) = 0 := by
    show (if kx h + 1 = kx h then 8 else kd h (kx h + 1)) = 0
    rw [if_neg (by omega)]
    exact f2
  have ag1 : kAg (fun a _ => a = kx h ∨ a = kx h + 1 ∨ a = kx h + 1000000 ∨ a = kx h + 1 + 1000000) h (al h 8 0) := (kAg.al h 8 0 f1).sub (fun a k z => by omega)
  have ag2 : kAg (fun a _ => a = kx h ∨ a = kx h + 1 ∨ a = kx h + 1000000 ∨ a = kx h + 1 + 1000000) (al h 8 0) (al (al h 8 0) 21 6) := (kAg.al (al h 8 0) 21 6 g2).sub (fun a k z => by
    have : kx (al h 8 0) = kx h + 1 := rfl
    omega)
  have k1 : kd (al (al h 8 0) 21 6) (kx h) = 8 := by
    show (if kx h = kx h + 1 then 21 else if kx h = kx h then 8 else kd h (kx h)) = 8
    rw [if_neg (by omega), if_pos rfl]
  have k2 : kd (al (al h 8 0) 21 6) (kx h + 1) = 21 := if_pos rfl
  have k3 : kn (al (al h 8 0) 21 6) (kx h + 1) = 6 := if_pos rfl
  have hinit : f_X7_init (kx h) (al h 8 0) = kret () (sI (sR (al (al h 8 0) 21 6) (kx h) 0 (some (kx h + 1))) (kx h) 1 0) := by
    unfold f_X7_init
    rw [nw_k g2, pR_k (show kd (al (al h 8 0) 21 6) (kx h) = 8 from k1), pI_k (show kd (sR (al (al h 8 0) 21 6) (kx h) 0 (some (kx (al h 8 0)))) (kx h) = 8 from k1)]
    rfl
  have ag3 : kAg (fun a _ => a = kx h ∨ a = kx h + 1 ∨ a = kx h + 1000000 ∨ a = kx h + 1 + 1000000) (al (al h 8 0) 21 6) (sI (sR (al (al h 8 0) 21 6) (kx h) 0 (some (kx h + 1))) (kx h) 1 0) := (kAg.R _ (kx h) 0 _).trans (kAg.I _ (kx h) 1 0) (fun a k q z => q (by omega)) (fun a k q z => q (by omega))
  have agA := (ag1.trans ag2 (fun a k q => q) (fun a k q => q)).trans ag3 (fun a k q => q) (fun a k q => q)
  have e1 := agA.k t (by rw [a1]; decide)
  have e2 := agA.k s (by rw [a3]; decide)
  obtain ⟨h', c1, c2, c3, c4, c5⟩ := x7_copyL (t := t) (s := s) (c := kx h) (d := kx h + 1) hn n4 n1 n3 (by omega) n2 kF 0 (sI (sR (al (al h 8 0) 21 6) (kx h) 0 (some (kx h + 1))) (kx h) 1 0) (by rw [e1.1, a1]) (by
      rw [kR_sI, kR_sR, if_neg (fun z => n1 z.1.symm), kR_al, if_neg (fun z => n3 z.symm), kR_al, if_neg (fun z => n1 z.symm)]
      exact a2) (by rw [e2.1, a3]) (by rw [e2.2, a4]) (by
      rw [kI_sI, if_neg (fun z => n1 z.1.symm), kI_sR, kI_al, if_neg (fun z => n3 z.symm), kI_al, if_neg (fun z => n1 z.symm)]
      exact a5) k1 (by rw [kR_sI, kR_sR, if_pos ⟨rfl, rfl⟩]) k2 k3 (by omega) (by unfold kF; omega) (fun k hk => by omega)
  refine ⟨h', ?_, agA.trans c2 (fun a k q => q) (fun a k q z => q (by omega)), c5, ?_, ?_, ?_, ?_, c3, fun k hk => ?_⟩
  · unfold f_X7_copy
    rw [nw_k f1, hinit, ki_ret]
    exact c1
  · rw [(c2.k (kx h) (by show kd (al (al h 8 0) 21 6) (kx h) ≠ 0; rw [k1]; decide)).1]
    exact k1
  · rw [(c2.k (kx h + 1) (by show kd (al (al h 8 0) 21 6) (kx h + 1) ≠ 0; rw [k2]; decide)).1]
    exact k2
  · rw [(c2.k (kx h + 1) (by show kd (al (al h 8 0) 21 6) (kx h + 1) ≠ 0; rw [k2]; decide)).2]
    exact k3
  · rw [(c2.1 (kx h) 0 (by omega)).2.2, kR_sI, kR_sR, if_pos ⟨rfl, rfl⟩]
  · rw [c4 k hk, kI_sI, if_neg (fun z => n2 z.1.symm), kI_sR, kI_al, if_neg (fun z => n4 z.symm), kI_al, if_neg (fun z => n2 z.symm)]
end KCOPY
end
section
/-! read -/
theorem sCst_cgr {m m' : Nat → Nat → Nat} {r : Nat} (h5 : m' 5 = m 5) (h7 : m' 7 = m 7) (h15 : ∀ k, k < 6 → m' 15 (6 * r + k) = m 15 (6 * r + k)) (p : Nat) : ∀ k, k ≤ 6 → sCst m' r p k = sCst m r p k := by
  intro k
  induction k with
  | zero => intro _; rfl
  | succ k ih =>
    intro hk
    unfold sCst
    rw [ih (by omega), sPart_cg h5, h7, h15 k (by omega)]
theorem sCost_cgr {m m' : Nat → Nat → Nat} {r : Nat} (h5 : m' 5 = m 5) (h6 : m' 6 = m 6) (h7 : m' 7 = m 7) (h14 : m' 14 r = m 14 r) (h14' : m 14 r ≤ 6) (h15 : ∀ k, k < 6 → m' 15 (6 * r + k) = m 15 (6 * r + k)) (p : Nat) : sCost m' r p = sCost m r p := by
  unfold sCost
  rw [h14, h6, sCst_cgr h5 h7 h15 p _ h14']
theorem sBest_cgr {m m' : Nat → Nat → Nat} {r : Nat} (h5 : m' 5 = m 5) (h6 : m' 6 = m 6) (h7 : m' 7 = m 7) (h14 : m' 14 r = m 14 r) (h14' : m 14 r ≤ 6) (h15 : ∀ k, k < 6 → m' 15 (6 * r + k) = m 15 (6 * r + k)) (k : Nat) : sBest m' r k = sBest m r k := by
  induction k with
  | zero => rfl
  | succ k ih =>
    unfold sBest
    simp only [ih, sCost_cgr h5 h6 h7 h14 h14' h15, sTl_cg h6 h7]
theorem sPF_cgw {h h' : KH} {r : Nat} (e8 : kI h' 0 8 = kI h 0 8) (e : ∀ a, a = 5 ∨ a = 6 ∨ a = 7 → ∀ k, kI h' a k = kI h a k) (e14 : kI h' 14 r = kI h 14 r) (h14' : mn h 14 r ≤ 6) (e15 : ∀ k, k < 6 → kI h' 15 (6 * r + k) = kI h 15 (6 * r + k)) (e16 : kI h' 16 r = kI h 16 r) (e17 : kI h' 17 r = kI h 17 r) : sPF h' r = sPF h r := by
  unfold sPF
  rw [mn_cg1 e16, mn_cg1 e17, e17, mn_cg1 e8, sBest_cgr (mn_cg (e 5 (by omega))) (mn_cg (e 6 (by omega))) (mn_cg (e 7 (by omega))) (mn_cg1 e14) h14' (fun k hk => mn_cg1 (e15 k hk))]
theorem cRt1.fr {hx hm hx' hm' : KH} {r : Nat} {D E : Nat → Nat → Prop} (c : cRt1 hx hm r) (ag : kAg D hx hx') (am : kAg E hm hm') (hD : ∀ a k, a = 200 + 4 * r ∧ k < 4 ∨ a = 201 + 4 * r ∨ a = 202 + 4 * r ∨ a = 28 ∧ k = r → ¬ D a k) (hE : ∀ a k, (a = 12 ∨ a = 13 ∨ a = 14) ∧ k = r ∨ a = 15 ∧ 6 * r ≤ k ∧ k < 6 * r + 6 → ¬ E a k) : cRt1 hx' hm' r := by
  obtain ⟨⟨d1, d2, d3, d4⟩, ⟨e1, e2, e3⟩, f1, f2, f3, f4⟩ := c
  have k1 := ag.k (200 + 4 * r) (by rw [d1]; decide)
  have k2 := ag.k (201 + 4 * r) (by rw [d2]; decide)
  have k3 := ag.k (202 + 4 * r) (by rw [d3]; decide)
  refine ⟨⟨by rw [k1.1, d1], by rw [k2.1, d2], by rw [k3.1, d3], by rw [k3.2, d4]⟩, ⟨by rw [(ag.1 28 r (hD 28 r (by omega))).2.2, e1], by rw [(ag.1 (200 + 4 * r) 3 (hD _ _ (by omega))).2.2, e2], by rw [(ag.1 (201 + 4 * r) 0 (hD _ _ (by omega))).2.2, e3]⟩, by rw [(ag.1 (200 + 4 * r) 0 (hD _ _ (by omega))).1, f1], by rw [(ag.1 (200 + 4 * r) 1 (hD _ _ (by omega))).1, (am.1 12 r (hE _ _ (by omega))).1]; exact f2, by rw [(ag.1 (200 + 4 * r) 2 (hD _ _ (by omega))).1, (am.1 13 r (hE _ _ (by omega))).1]; exact f3, ?_⟩
  rw [(ag.1 (201 + 4 * r) 1 (hD _ _ (by omega))).1, (am.1 14 r (hE _ _ (by omega))).1]
  obtain ⟨n, g1, g2, g3, g4, g5⟩ := f4
  exact ⟨n, g1, g2, g3, g4, fun k hk => by rw [(ag.1 (202 + 4 * r) k (hD _ _ (by omega))).1, (am.1 15 _ (hE _ _ (by omega))).1]; exact g5 k hk⟩
/-- rows under more readings: what they hold stays -/
theorem AS.grow {hx hm hx' hm' : KH} {A : Nat → Option Nat} {D E : Nat → Nat → Prop} {R : Nat} (As : AS hx hm A) (hR : mn hm 0 16 = R) (hR60 : R < 60) (hP : mn hm 0 8 ≤ 10) (e16 : mn hm' 0 16 = R + 1) (ag : kAg D hx hx') (am : kAg E hm hm') (hD : ∀ i k, (100 ≤ i ∧ i < 180 ∧ (i % 8 = 0 ∧ k = 2 ∨ i % 8 = 1 ∨ i % 8 = 2)) ∨ (200 ≤ i ∧ i < 200 + 4 * R ∧ i % 4 = 0 ∧ k = 5) → ¬ D i k) (hE : ∀ i k, i = 0 ∧ (k = 8 ∨ k = 1) ∨ (i = 13 ∨ i = 12) ∧ k ≠ R ∨ i = 2 → ¬ E i k) (hnone : kR hx' (200 + 4 * R) 5 = none) : AS hx' hm' (fun r => if r = R then none else A r) := by
  subst hR
  have e8 := (am.1 0 8 (hE 0 8 (by omega))).1
  have e13 : ∀ k, k ≠ mn hm 0 16 → mn hm' 13 k = mn hm 13 k := fun k hk => mn_cg1 (am.1 13 k (hE 13 k (by omega))).1
  have e12 : ∀ k, k ≠ mn hm 0 16 → mn hm' 12 k = mn hm 12 k := fun k hk => mn_cg1 (am.1 12 k (hE 12 k (by omega))).1
  refine ⟨fun r hr => ?_, fun p hp => ?_⟩
  · rw [e16] at hr
    by_cases hrR : r = mn hm 0 16
    · subst hrR
      show kR hx' (200 + 4 * mn hm 0 16) 5 = pAd (if mn hm 0 16 = mn hm 0 16 then none else _) ∧ _
      rw [if_pos rfl]
      exact ⟨hnone, fun p e => by
        have e' : (if mn hm 0 16 = mn hm 0 16 then none else A (mn hm 0 16)) = some p := e
        rw [if_pos rfl] at e'
        cases e'⟩
    · show kR hx' (200 + 4 * r) 5 = pAd (if r = mn hm 0 16 then none else A r) ∧ ∀ p, (if r = mn hm 0 16 then none else A r) = some p → _
      rw [if_neg hrR, mn_cg1 e8, (ag.1 _ _ (hD (200 + 4 * r) 5 (by omega))).2.2]
      exact As.1 r (by omega)
  · rw [mn_cg1 e8] at hp
    obtain ⟨l, l1, l2, l3, l4⟩ := As.2 p hp
    have hne : ∀ k, k < l.length → l.getD k 0 ≠ mn hm 0 16 := fun k hk => by have := l1.1 k hk; omega
    refine ⟨l, ⟨fun k hk => by have := l1.1 k hk; omega, fun i k q1 q2 => ?_⟩, fun r hr => ?_, l3.fr ag (hD _ _ (by omega)) (fun k => hD _ _ (by omega)), fun k hk => ?_⟩
    · have := l1.2 i k q1 q2
      unfold sBef at this ⊢
      rw [e13 _ (hne i (by omega)), e13 _ (hne k q2)]
      exact this
    · rw [e16] at hr
      show (if r = mn hm 0 16 then none else A r) = some p ↔ _
      by_cases hrR : r = mn hm 0 16
      · rw [if_pos hrR]
        exact ⟨fun z => (by cases z), fun ⟨k, hk, z⟩ => absurd (z.trans hrR) (hne k hk)⟩
      · rw [if_neg hrR]
        exact l2 r (by omega)
    · rw [(ag.1 _ _ (hD (104 + 8 * p + 2) k (by omega))).1, l4 k hk]
      have e : sBegAt hm' l k = sBegAt hm l k := by
        cases k with
        | zero => rfl
        | succ k =>
          show sBeg hm' _ _ = sBeg hm _ _
          unfold sBeg
          rw [e13 _ (hne k (by omega)), e13 _ (hne (k + 1) hk), e12 _ (hne k (by omega)), e12 _ (hne (k + 1) hk), (am.1 2 _ (hE 2 _ (by omega))).1, mn_cg1 (am.1 2 _ (hE 2 _ (by omega))).1, mn_cg1 (am.1 0 1 (hE 0 1 (by omega))).1]
      rw [e]
theorem tm_readL {n R : Nat} (hn : n ≤ 6) (hR : R < 60) : ∀ (f i : Nat) (h : KH), kSm h → kI h 0 5 = nI n → kI h 0 16 = nI R → i ≤ n → n < i + f → ∃ h', X10_read_L95 f 0 (nI i) h = kret (nI R) h' ∧ kAg (fun a k => a = 15 ∧ 6 * R + i ≤ k ∧ k < 6 * R + n ∨ a = 0 ∧ k = 16) h h' ∧ kI h' 0 16 = nI (R + 1) ∧ ∀ k, i ≤ k → k < n → kI h' 15 (6 * R + k) = kI h 4 k := by
  intro f
  induction f with
  | zero => intro i h _ _ _ h1 h2; omega
  | succ f ih =>
    intro i h T e5 e16 h1 h2
    unfold X10_read_L95 X10_read_b95
    rw [gI_k T.d0, e5]
    by_cases hi : n ≤ i
    · rw [kif_t (by rw [ka_le (by omega) (by omega)]; exact hi), gI_k T.d0, e16, pI_k T.d0, gI_k (show kd (sI h 0 16 (nI R + 1)) 0 = 11 from T.d0), kI_sI, if_pos ⟨rfl, rfl⟩, nI_1, ka_pred (by omega)]
      exact ⟨_, rfl, (kAg.I h 0 16 _).sub (fun a k z => Or.inr z), by rw [kI_sI, if_pos ⟨rfl, rfl⟩], fun k q1 q2 => by omega⟩
    · have ag1 := kAg.I h 15 (6 * R + i) (kI h 4 i)
      rw [kif_f (by rw [ka_le (by omega) (by omega)]; exact hi), gN_k T.d0 T.r20, gI_k T.d0, e16, gN_k T.d0 T.r6, gAI_k T.d4 (by rw [T.n4]; omega) (by omega), mc_idx6, pAI_k T.d15 (by rw [T.n15]; omega) (by omega), nI_1]
      obtain ⟨h', f1, f2, f3, f4⟩ := ih (i + 1) (sI h 15 (6 * R + i) (kI h 4 i)) (T.fr ag1 (fun a k q z => by omega)) e5 e16 (by omega) (by omega)
      refine ⟨h', f1, ag1.trans f2 (fun a k q z => q (by omega)) (fun a k q z => q (by omega)), f3, fun k q1 q2 => ?_⟩
      by_cases hki : k = i
      · rw [hki, (f2.1 15 (6 * R + i) (by omega)).1, kI_sI, if_pos ⟨rfl, rfl⟩]
      · rw [f4 k (by omega) q2, kI_sI, if_neg (by omega)]
theorem tm_read {h : KH} {n R : Nat} {g m : Int32} (T : kSm h) (hn : n ≤ 6) (hR : R < 60) (e5 : kI h 0 5 = nI n) (e16 : kI h 0 16 = nI R) : ∃ h', X10_read_b51 0 g m 0 0 h = kret (nI R) h' ∧ kAg (fun a k => (a = 12 ∨ a = 13 ∨ a = 14) ∧ k = R ∨ a = 15 ∧ 6 * R ≤ k ∧ k < 6 * R + 6 ∨ a = 0 ∧ k = 16) (sI h 0 35 0) h' ∧ kI h' 0 16 = nI (R + 1) ∧ kI h' 12 R = g ∧ kI h' 13 R = m ∧ kI h' 14 R = nI n ∧ ∀ k, k < n → kI h' 15 (6 * R + k) = kI h 4 k := by
  have T1 := T.thr 0
  have T2 : kSm (sI (sI h 0 35 0) 12 R g) := T1.fr (kAg.I _ 12 R g) (fun a k q z => by omega)
  have T3 : kSm (sI (sI (sI h 0 35 0) 12 R g) 13 R m) := T2.fr (kAg.I _ 13 R m) (fun a k q z => by omega)
  have T4 : kSm (sI (sI (sI (sI h 0 35 0) 12 R g) 13 R m) 14 R (nI n)) := T3.fr (kAg.I _ 14 R (nI n)) (fun a k q z => by omega)
  obtain ⟨h', f1, f2, f3, f4⟩ := tm_readL hn hR kF 0 _ T4 e5 e16 (by omega) (by unfold kF; omega)
  have agA : kAg (fun a k => (a = 12 ∨ a = 13 ∨ a = 14) ∧ k = R ∨ a = 15 ∧ 6 * R ≤ k ∧ k < 6 * R + 6 ∨ a = 0 ∧ k = 16) (sI h 0 35 0) (sI (sI (sI (sI h 0 35 0) 12 R g) 13 R m) 14 R (nI n)) := ((kAg.I (sI h 0 35 0) 12 R g).trans (F := fun a k => (a = 12 ∨ a = 13 ∨ a = 14) ∧ k = R ∨ a = 15 ∧ 6 * R ≤ k ∧ k < 6 * R + 6 ∨ a = 0 ∧ k = 16) (kAg.I _ 13 R m) (fun a k q z => q (by omega)) (fun a k q z => q (by omega))).trans (kAg.I _ 14 R (nI n)) (fun a k q => q) (fun a k q z => q (by omega))
  refine ⟨h', ?_, agA.trans f2 (fun a k q => q) (fun a k q z => q (by omega)), f3, ?_, ?_, ?_, fun k hk => ?_⟩
  · unfold X10_read_b51
    rw [kV_k T.d0, can_0 T, kb_ret, kif_f (by decide), gN_k T1.d0 T1.r17, gI_k T1.d0, show kI (sI h 0 35 0) 0 16 = nI R from e16, pAI_k T1.d12 (by rw [T1.n12]; omega) (by omega)]
    rw [gN_k T2.d0 T2.r18, gI_k T2.d0, show kI (sI (sI h 0 35 0) 12 R g) 0 16 = nI R from e16, pAI_k T2.d13 (by rw [T2.n13]; omega) (by omega)]
    rw [gN_k T3.d0 T3.r19, gI_k T3.d0, show kI (sI (sI (sI h 0 35 0) 12 R g) 13 R m) 0 16 = nI R from e16, gI_k T3.d0, show kI (sI (sI (sI h 0 35 0) 12 R g) 13 R m) 0 5 = nI n from e5, pAI_k T3.d14 (by rw [T3.n14]; omega) (by omega)]
    exact f1
  · rw [(f2.1 12 R (by omega)).1, kI_sI, if_neg (by omega), kI_sI, if_neg (by omega), kI_sI, if_pos ⟨rfl, rfl⟩]
  · rw [(f2.1 13 R (by omega)).1, kI_sI, if_neg (by omega), kI_sI, if_pos ⟨rfl, rfl⟩]
  · rw [(f2.1 14 R (by omega)).1, kI_sI, if_pos ⟨rfl, rfl⟩]
  · rw [f4 k (by omega) hk, kI_sI, if_neg (by omega), kI_sI, if_neg (by omega), kI_sI, if_neg (by omega), kI_sI, if_neg (by omega)]
end
section
/-! read: the class's new reading -/
def DR (R a k : Nat) : Prop := (200 + 4 * R ≤ a ∧ a ≤ 202 + 4 * R) ∨ (1000200 + 4 * R ≤ a ∧ a ≤ 1000202 + 4 * R) ∨ a = 28 ∧ k = R ∨ a = 0 ∧ k = 14
theorem x_read {h : KH} {n R x m : Nat} (S : kSx h) (hx : kx h = 200 + 4 * R) (hf : ∀ a, 200 + 4 * R ≤ a → a ≤ 202 + 4 * R → kd h a = 0) (n1 : 1 ≤ n) (n2 : n ≤ 6) (e22 : kI h 22 1 = nI n) (hR : R < 60) (e14 : kI h 0 14 = nI R) (q1 : ¬ nI x < 0) (q2 : ¬ 7 < nI x) (hmin : f_X9_requireMinute 0 (nI m) h = kret () h) : ∃ h5, f_X9_read 0 (nI x) (nI m) h = kcallV 10 0 h5 (f_X9_plateByText 0 (200 + 4 * R) h5) (fun o1 h8 => kcallV 10 0 h8 (f_X9_move 0 (200 + 4 * R) o1 h8) (fun _ h9 => gI h9 (200 + 4 * R) 6 0 (fun x6 => kret x6 h9))) ∧ kAg (DR R) h h5 ∧
    (kd h5 (200 + 4 * R) = 6 ∧ kd h5 (201 + 4 * R) = 8 ∧ kd h5 (202 + 4 * R) = 21 ∧ kn h5 (202 + 4 * R) = 6) ∧ (kR h5 28 R = some (200 + 4 * R) ∧ kR h5 (200 + 4 * R) 3 = some (201 + 4 * R) ∧ kR h5 (201 + 4 * R) 0 = some (202 + 4 * R)) ∧ kI h5 (200 + 4 * R) 0 = nI R ∧ kI h5 (200 + 4 * R) 1 = nI x ∧ kI h5 (200 + 4 * R) 2 = nI m ∧ kI h5 (200 + 4 * R) 4 = 0 ∧ kR h5 (200 + 4 * R) 5 = none ∧ kI h5 (201 + 4 * R) 1 = nI n ∧ (∀ k, k < n → kI h5 (202 + 4 * R) k = kI h 23 k) ∧ kI h5 0 14 = nI (R + 1) := by
  have f0 := hf (200 + 4 * R) (by omega) (by omega)
  have ag0 : kAg (DR R) h (al h 6 0) := (kAg.al h 6 0 (by rw [hx]; exact f0)).sub (fun a k z => by rw [hx] at z; unfold DR; omega)
  have S1 : kSx (al h 6 0) := S.fr ag0 (fun a k z1 z2 => by unfold DR at z2; omega)
  have c0 : kd (al h 6 0) (200 + 4 * R) = 6 := by rw [kd_al, hx, if_pos rfl]
  have hx1 : kx (al h 6 0) = 201 + 4 * R := by rw [kx_al, hx]; omega
  have g1 : kd (al h 6 0) (201 + 4 * R) = 0 := by
    rw [kd_al, hx, if_neg (by omega)]
    exact hf _ (by omega) (by omega)
  have g2 : kd (al h 6 0) (201 + 4 * R + 1) = 0 := by
    rw [kd_al, hx, if_neg (by omega)]
    exact hf _ (by omega) (by omega)
  have hI : ∀ a k, a < 200 → kI (al h 6 0) a k = kI h a k := fun a k ha => by rw [kI_al, hx, if_neg (by omega)]
  obtain ⟨h2, b1, b2, b3, b4, b5, b6, b7, b8, b9⟩ := x7_copy (h := al h 6 0) (t := 22) (s := 23) (c := 201 + 4 * R) n2 S1.d22 S1.r22_0 S1.d23 S1.n23 (by rw [hI 22 1 (by omega)]; exact e22) hx1 g1 g2
  have ag1 : kAg (DR R) (al h 6 0) h2 := b2.sub (fun a k z => by unfold DR; omega)
  have ag01 := ag0.trans ag1 (fun a k q => q) (fun a k q => q)
  have S2 : kSx h2 := S.fr ag01 (fun a k z1 z2 => by unfold DR at z2; omega)
  have c2 : kd h2 (200 + 4 * R) = 6 := by rw [(b2.k (200 + 4 * R) (by rw [c0]; decide)).1, c0]
  obtain ⟨h3, e3⟩ : ∃ h3, h3 = sR (sI (sI (sI (sR (sI h2 (200 + 4 * R) 4 0) (200 + 4 * R) 5 none) (200 + 4 * R) 0 (nI R)) (200 + 4 * R) 1 (nI x)) (200 + 4 * R) 2 (nI m)) (200 + 4 * R) 3 (some (201 + 4 * R)) := ⟨_, rfl⟩
  have k3 : kd h3 = kd h2 := by rw [e3]; rfl
  have l3 : kn h3 = kn h2 := by rw [e3]; rfl
  have hinit : f_X5_init (200 + 4 * R) (nI R) (nI x) (nI m) (201 + 4 * R) h2 = kret () h3 := by
    unfold f_X5_init
    simp only [pI, pR, kd_sI, kd_sR, c2, if_true, e3]
  have ag2 : kAg (DR R) h2 h3 := by
    rw [e3]
    exact ((((((kAg.I h2 (200 + 4 * R) 4 0).trans (F := DR R) (kAg.R _ (200 + 4 * R) 5 none) (fun a k q z => q (by unfold DR; omega)) (fun a k q z => q (by unfold DR; omega))).trans (F := DR R) (kAg.I _ (200 + 4 * R) 0 _) (fun a k q => q) (fun a k q z => q (by unfold DR; omega))).trans (F := DR R) (kAg.I _ (200 + 4 * R) 1 _) (fun a k q => q) (fun a k q z => q (by unfold DR; omega))).trans (F := DR R) (kAg.I _ (200 + 4 * R) 2 _) (fun a k q => q) (fun a k q z => q (by unfold DR; omega))).trans (F := DR R) (kAg.R _ (200 + 4 * R) 3 _) (fun a k q => q) (fun a k q z => q (by unfold DR; omega)))
  have ag012 := ag01.trans ag2 (fun a k q => q) (fun a k q => q)
  have S3 : kSx h3 := S.fr ag012 (fun a k z1 z2 => by unfold DR at z2; omega)
  have i3 : ∀ a k, a ≠ 200 + 4 * R → kI h3 a k = kI h2 a k ∧ kR h3 a k = kR h2 a k := fun a k ha => by
    rw [e3]
    exact ⟨by rw [kI_sR, kI_sI, if_neg (fun z => ha z.1), kI_sI, if_neg (fun z => ha z.1), kI_sI, if_neg (fun z => ha z.1), kI_sR, kI_sI, if_neg (fun z => ha z.1)], by rw [kR_sR, if_neg (fun z => ha z.1), kR_sI, kR_sI, kR_sI, kR_sR, if_neg (fun z => ha z.1), kR_sI]⟩
  have e14' : kI h3 0 14 = nI R := by
    rw [(i3 0 14 (by omega)).1, (b2.1 0 14 (by omega)).1, hI 0 14 (by omega)]
    exact e14
  have ag3 : kAg (DR R) h3 (sI (sR h3 28 R (some (200 + 4 * R))) 0 14 (nI (R + 1))) := (kAg.R h3 28 R _).trans (kAg.I _ 0 14 _) (fun a k q z => q (by unfold DR; omega)) (fun a k q z => q (by unfold DR; omega))
  refine ⟨sI (sR h3 28 R (some (200 + 4 * R))) 0 14 (nI (R + 1)), ?_, ag012.trans ag3 (fun a k q => q) (fun a k q => q), ⟨?_, ?_, ?_, ?_⟩, ⟨?_, ?_, ?_⟩, ?_, ?_, ?_, ?_, ?_, ?_, fun k hk => ?_, ?_⟩
  · unfold f_X9_read
    rw [rgt_t q1 q2, kb_ret, kV_k S.d0, hmin, kb_ret, gN_k S.d0 S.r0_2, gI_k S.d22, e22, kif_f (by rw [show (0 : Int32) = nI 0 from rfl, ka_eq (by omega) (by omega)]; omega), gI_k S.d0, e14, kif_t (by rw [show (60 : Int32) = nI 60 from rfl, ka_lt (by omega) (by omega)]; exact hR), nw_k (by rw [hx]; exact f0), gI_k S1.d0, hI 0 14 (by omega), e14, gN_k S1.d0 S1.r0_2, kV_k S1.d22, b1, kb_ret, hx, hinit, ki_ret, gN_k S3.d0 S3.r0_6, gI_k S3.d0, e14', pAN_k S3.d28 (by rw [S3.n28]; omega) (by omega) (by rw [k3]; exact c2), gI_k (show kd (sR h3 28 R (some (200 + 4 * R))) 0 = 10 from S3.d0), show kI (sR h3 28 R (some (200 + 4 * R))) 0 14 = nI R from e14', pI_k (show kd (sR h3 28 R (some (200 + 4 * R))) 0 = 10 from S3.d0), nI_1]
  · show kd h3 (200 + 4 * R) = 6
    rw [k3]
    exact c2
  · show kd h3 (201 + 4 * R) = 8
    rw [k3]
    exact b4
  · show kd h3 (202 + 4 * R) = 21
    rw [k3, show 202 + 4 * R = 201 + 4 * R + 1 by omega]
    exact b5
  · show kn h3 (202 + 4 * R) = 6
    rw [l3, show 202 + 4 * R = 201 + 4 * R + 1 by omega]
    exact b6
  · rw [kR_sI, kR_sR, if_pos ⟨rfl, rfl⟩]
  · rw [kR_sI, kR_sR, if_neg (by omega), e3, kR_sR, if_pos ⟨rfl, rfl⟩]
  · rw [kR_sI, kR_sR, if_neg (by omega), (i3 _ _ (by omega)).2, b7, show 202 + 4 * R = 201 + 4 * R + 1 by omega]
  · rw [kI_sI, if_neg (by omega), kI_sR, e3, kI_sR, kI_sI, if_neg (by omega), kI_sI, if_neg (by omega), kI_sI, if_pos ⟨rfl, rfl⟩]
  · rw [kI_sI, if_neg (by omega), kI_sR, e3, kI_sR, kI_sI, if_neg (by omega), kI_sI, if_pos ⟨rfl, rfl⟩]
  · rw [kI_sI, if_neg (by omega), kI_sR, e3, kI_sR, kI_sI, if_pos ⟨rfl, rfl⟩]
  · rw [kI_sI, if_neg (by omega), kI_sR, e3, kI_sR, kI_sI, if_neg (by omega), kI_sI, if_neg (by omega), kI_sI, if_neg (by omega), kI_sR, kI_sI, if_pos ⟨rfl, rfl⟩]
  · rw [kR_sI, kR_sR, if_neg (by omega), e3, kR_sR, if_neg (by omega), kR_sI, kR_sI, kR_sI, kR_sR, if_pos ⟨rfl, rfl⟩]
  · rw [kI_sI, if_neg (by omega), kI_sR, (i3 _ _ (by omega)).1, b8]
  · rw [kI_sI, if_neg (by omega), kI_sR, (i3 _ _ (by omega)).1, show 202 + 4 * R = 201 + 4 * R + 1 by omega, b9 k hk, hI 23 k (by omega)]
  · rw [kI_sI, if_pos ⟨rfl, rfl⟩]
/-- both -/
theorem rr_fin2 {j : Nat} {hx hm h2 hm1 : KH} {D E : Nat → Nat → Prop} (R : RR j hx hm) (K2 : kCx h2 hm1) (Z : cZer hm1) (C2 : cCor h2 hm1) (f5 : AS h2 hm1 (sPF hm1)) (c3 : cLen h2 hm1) (c16 : cFre (j + 1) h2 hm1) (ag : kAg D hx h2) (am : kAg E hm hm1)
    (hD : ∀ a k, FRd a k → ¬ D a k)
    (hE : ∀ a k, a = 0 ∧ (k = 0 ∨ k = 5 ∨ k = 8 ∨ k = 12 ∨ k = 27 ∨ k = 31) ∨ a = 3 ∨ a = 4 ∨ a = 9 ∨ a = 10 ∨ a = 11 ∨ 20 ≤ a ∧ a ≤ 27 → ¬ E a k) : RR (j + 1) h2 hm1 := by
  have R1 := R.up
  have hP := R1.P
  have hnew := cRea_of K2 Z C2 f5
  obtain ⟨-, c1, -, -, -, c5, c6, -, -, -, c10, -, -, c13, c14, c15, -⟩ := R1
  obtain ⟨k0, k2, k4, k7, k8, k9, -⟩ := K2
  have q5 : ∀ a k, a = 31 ∨ a = 32 ∨ a = 35 → FRd a k := fun a k h => Or.inr (Or.inr (Or.inr (Or.inr (Or.inr (h.elim Or.inl (fun z => Or.inr (z.elim Or.inl (fun z => Or.inr (Or.inl z)))))))))
  have q8 : ∀ a k, 500 ≤ a ∧ a < 508 ∨ a = 29 → FRd a k := fun a k h => Or.inr (Or.inr (Or.inr (Or.inr (Or.inr (Or.inr (Or.inr (Or.inr (h.elim Or.inl (fun z => Or.inr (Or.inl z))))))))))
  have q10 : ∀ a k, 600 ≤ a ∧ a < 640 ∨ a = 30 → FRd a k := fun a k h => Or.inr (Or.inr (Or.inr (Or.inr (Or.inr (Or.inr (Or.inr (Or.inr (Or.inr (Or.inr h)))))))))
  exact ⟨k0, c1.fr ag am (fun a k h => hD a k (Or.inl ⟨h.1, Or.inl h.2⟩)) (fun a k h => hE a k (by omega)), k2, c3, k4, c5.fr ag am (fun a k h => hD a k (Or.inr (Or.inl h))) (fun a k h => hE a k (by omega)), c6.fr ag am (fun a k h => hD a k (Or.inr (Or.inr (h.elim Or.inl (fun z => Or.inr (Or.inl z)))))) (fun a k h => hE a k (by omega)), k7, k8, k9, c10.fr hP ag am (fun a k h => hD a k (Or.inr (Or.inr (Or.inr (Or.inr (Or.inl h)))))) (fun a k h => hE a k (by omega)), hnew.1, hnew.2, c13.fr ag am (fun a k h => hD a k (q5 a k h)) (fun a k h => hE a k (by omega)), c14.fr ag am (fun a k h => h.elim (fun z => hD a k (q8 a k (Or.inl z))) (fun z => z.elim (fun z => hD a k (q8 a k (Or.inr z))) (fun z => hD a k (Or.inl ⟨z.1, Or.inr (Or.inl z.2)⟩)))) (fun a k h => hE a k (by omega)), c15.fr ag am (fun a k h => h.elim (fun z => hD a k (q10 a k (Or.inl z))) (fun z => z.elim (fun z => hD a k (q10 a k (Or.inr z))) (fun z => hD a k (Or.inl ⟨z.1, Or.inr (Or.inr z.2)⟩)))) (fun a k h => hE a k (by omega)), c16⟩
end
section
theorem o_read : OPN (fun _ hm => 200 + 4 * mn hm 0 16) (fun a b c h => f_X9_read 0 a b h) (fun a b c h => f_X10_read 0 a b h) (mp3 3 1 2) := by
  intro j hx hm a b c hj R
  have S0 := R.1.1.X (200 + 4 * mn hm 0 16)
  have T := R.1.2
  have M := R.MX
  have hP := R.P
  obtain ⟨eX, eN, hN⟩ := R.min
  have hR60 := M.2.2.1.1
  have hR16 := M.2.2.1.2
  have hRx := R.kCx.R.1
  obtain ⟨n, hn6, e22, e5, htx⟩ := R.2.2.2.2.2.2.1
  rcases ka_rng a 0 7 0 7 rfl rfl (by decide) (by decide) with ⟨x, x1, x2, rfl, q1, q2⟩ | hq
  · rcases ka_rng b 0 (nI (mn hm 0 0)) 0 (mn hm 0 0) rfl rfl (by omega) (by decide) with ⟨m, m1, m2, rfl, q3, q4⟩ | hq3
    · by_cases hbad : n = 0 ∨ mn hm 0 16 = 60
      · refine op_noN R 2 3 0 rfl (by decide) ?_ ?_
        · show f_X9_read 0 (nI x) (nI m) (sX hx (200 + 4 * mn hm 0 16)) = _
          unfold f_X9_read
          rw [rgt_t q1 q2, kb_ret, kV_k S0.d0, (R.X (200 + 4 * mn hm 0 16)).reqMin q3 q4, kb_ret, gN_k S0.d0 S0.r0_2, gI_k S0.d22, show kI (sX hx (200 + 4 * mn hm 0 16)) 22 1 = nI n from e22]
          unfold X9_read_b28
          by_cases h0 : n = 0
          · rw [kif_t (by rw [h0]; rfl)]
          · rw [kif_f (by rw [show (0 : Int32) = nI 0 from rfl, ka_eq (by omega) (by omega)]; exact h0), gI_k S0.d0, show kI (sX hx (200 + 4 * mn hm 0 16)) 0 14 = nI (mn hm 0 16) from hRx, kif_f (by rw [show (60 : Int32) = nI 60 from rfl, ka_lt (by omega) (by omega)]; omega)]
        · show f_X10_read 0 (nI x) (nI m) hm = _
          unfold f_X10_read
          have hc : X10_read_b46 0 (nI x) (nI m) 0 hm = kret 0 (sI hm 0 35 3) := by
            unfold X10_read_b46 X10_read_b51
            rw [kV_k T.d0, can_n T (show (3 : Int32) ≠ 0 by decide), kb_ret, kif_t rfl]
          rw [mgt_t q1 q2, kb_ret, kif_f (by decide), gI_k T.d0, eN, in_t q3 q4, kb_ret, kif_f (by decide), gI_k T.d0, e5]
          by_cases h0 : n = 0
          · rw [kif_t (by rw [h0]; rfl), hc]
          · rw [kif_f (by rw [show (0 : Int32) = nI 0 from rfl, ka_eq (by omega) (by omega)]; exact h0), gI_k T.d0, hR16, kif_t (by rw [show (60 : Int32) = nI 60 from rfl, ka_eq (by omega) (by omega)]; omega), hc]
      · have RX := R.X (200 + 4 * mn hm 0 16)
        have RT := RX.thr 0
        have M0 := RT.MX
        have KT := RT.kCx
        have hfree : ∀ a, 200 + 4 * mn hm 0 16 ≤ a → a ≤ 202 + 4 * mn hm 0 16 → kd hx a = 0 := fun a h1 h2 => R.2.2.2.2.2.2.2.2.2.2.2.2.2.2.2.2 a (by omega)
        obtain ⟨h5, y1, ag, ⟨y2, y3, y4, y5⟩, ⟨y6, y7, y8⟩, y9, y10, y11, y12, y13, y14, y15, y16⟩ := x_read (h := sX hx (200 + 4 * mn hm 0 16)) (n := n) (R := mn hm 0 16) (x := x) (m := m) (R.1.1.X _) rfl hfree (by omega) hn6 e22 (by omega) hRx q1 q2 (RX.reqMin q3 q4)
        obtain ⟨hm5, z1, am, z2, z3, z4, z5, z6⟩ := tm_read (h := hm) (n := n) (R := mn hm 0 16) (g := nI x) (m := nI m) T hn6 (by omega) e5 hR16
        have e16 : mn hm5 0 16 = mn hm 0 16 + 1 := mn_of z2 (by omega)
        have e8 : mn hm5 0 8 = mn hm 0 8 := mn_cg1 (am.1 0 8 (by omega)).1
        have hZ0 : kI hm5 16 (mn hm 0 16) = 0 := by
          rw [(am.1 16 _ (by omega)).1]
          exact RT.zer _ (Nat.le_refl _) (by omega)
        have K5 : kCx h5 hm5 := by
          refine ⟨⟨KT.1.1.fr ag (fun a k w1 w2 => by unfold DR at w2; omega), KT.1.2.fr am (fun a k w1 w2 => by omega)⟩, KT.2.1.fr ag am (fun a k w1 w2 => by unfold DR at w2; omega) (fun a k w1 w2 => by omega), KT.2.2.1.fr ag am (fun a k w1 w2 => by unfold DR at w2; omega) (fun a k w1 w2 => by omega), KT.2.2.2.1.fr ag am (fun a k w1 w2 => by unfold DR at w2; omega) (fun a k w1 w2 => by omega), KT.2.2.2.2.1.fr ag am (fun a k w1 w2 => by unfold DR at w2; omega) (fun a k w1 w2 => by omega), KT.2.2.2.2.2.1.fr ag am (fun a k w1 w2 => by unfold DR at w2; omega) (fun a k w1 w2 => by omega), ⟨mn hm 0 16 + 1, by omega, y16, z2⟩, fun r hr => ?_⟩
          rw [e16] at hr
          by_cases hrR : r = mn hm 0 16
          · subst hrR
            exact ⟨⟨y2, y3, y4, y5⟩, ⟨y6, y7, y8⟩, y9, ⟨x, by omega, y10, z3⟩, ⟨m, by omega, y11, z4⟩, n, by omega, hn6, y14, z5, fun k hk => by
              obtain ⟨v, v1, v2, v3⟩ := htx k hk
              exact ⟨v, v1, (y15 k hk).trans v2, (z6 k hk).trans v3⟩⟩
          · exact (KT.rd (show r < mn (sI hm 0 35 0) 0 16 from (by omega : r < mn hm 0 16))).fr ag am (fun a k w1 w2 => by unfold DR at w2; omega) (fun a k w1 w2 => by omega)
        have A5 := RT.AS.grow (R := mn hm 0 16) rfl (by omega) hP e16 ag am (fun a k w1 w2 => by unfold DR at w2; omega) (fun a k w1 w2 => by omega) y13
        have C5 : cCor h5 hm5 := fun r hr => by
          rw [e16] at hr
          by_cases hrR : r = mn hm 0 16
          · subst hrR
            exact Or.inl ⟨y12, hZ0⟩
          · rw [(ag.1 (200 + 4 * r) 4 (fun w => by unfold DR at w; omega)).1, (am.1 16 r (by omega)).1, (am.1 17 r (by omega)).1, e8]
            exact RT.cCor r (show r < mn hm 0 16 by omega)
        have hRr : mn hm 0 16 < mn hm5 0 16 := by omega
        obtain ⟨h9, f1, f2, f3⟩ := K5.move A5 hRr (o := sBest (mn hm5) (mn hm 0 16) (mn hm5 0 8)) (fun p e => (sBest_lt _ _ e).1)
        have K9 := K5.fr f2 DM.dk
        have C9 : cCor h9 hm5 := fun r hr => by
          rw [(f2.1 (200 + 4 * r) 4 (fun w => by unfold DM at w; omega)).1]
          exact C5 r hr
        have f5 := f3.cong (B := sPF hm5) (fun s hs => by
          rw [e16] at hs
          unfold uP
          by_cases hsR : s = mn hm 0 16
          · rw [if_pos hsR, hsR]
            unfold sPF
            rw [if_pos (by unfold mn; rw [← show mn hm 0 16 = (kI hm 0 16).toNatClampNeg from rfl, hZ0]; rfl)]
          · rw [if_neg hsR]
            show (if s = mn hm 0 16 then none else sPF (sI hm 0 35 0) s) = _
            rw [if_neg hsR]
            exact (sPF_cgw (h := sI hm 0 35 0) (am.1 0 8 (by omega)).1 (fun a ha k => (am.1 a k (by omega)).1) (am.1 14 s (by omega)).1 (M0.2.2.2.2.1 s (show s < mn hm 0 16 by omega)).2.2.1.2 (fun k hk => (am.1 15 _ (by omega)).1) (am.1 16 s (by omega)).1 (am.1 17 s (by omega)).1).symm)
        have agT : kAg (fun i k => DR (mn hm 0 16) i k ∨ DM i k) (sX hx (200 + 4 * mn hm 0 16)) h9 := ag.trans f2 (fun i k q z => q (Or.inl z)) (fun i k q z => q (Or.inr z))
        have cL := RT.2.2.2.1.fr agT am (fun a k w1 w2 => w2.elim (fun w => by unfold DR at w; omega) (fun w => by unfold DM at w; omega)) (fun a k w1 w2 => by omega)
        have Z5 : cZer hm5 := fun r h1 h2 => by
          rw [e16] at h1
          rw [(am.1 16 r (by omega)).1]
          exact RT.zer r (show mn hm 0 16 ≤ r by omega) h2
        have F5 : cFre (j + 1) h9 hm5 := fun a ha => by
          rw [e8, e16, mn_cg1 (am.1 0 27 (by omega)).1, mn_cg1 (am.1 0 31 (by omega)).1] at ha
          have h0 : kd hx a = 0 := R.2.2.2.2.2.2.2.2.2.2.2.2.2.2.2.2 a (by
            have e27 : mn (sI hm 0 35 0) 0 27 = mn hm 0 27 := rfl
            have e31 : mn (sI hm 0 35 0) 0 31 = mn hm 0 31 := rfl
            omega)
          rw [(agT.2 a (Or.inr (fun w => w.elim (fun w => by unfold DR at w; omega) (fun w => by unfold DM at w; omega)))).1]
          exact h0
        have Rn := rr_fin2 RT K9 Z5 C9 f5 cL F5 agT am (fun a k w1 w2 => w2.elim (fun w => by unfold FRd at w1; unfold DR at w; omega) (FRd_DM a k w1)) (fun a k w1 w2 => by omega)
        refine op_ok (hx1 := h9) (hm1 := hm5) (200 + 4 * mn hm 0 16) (nI (mn hm 0 16)) ?_ ?_ (by rw [(am.1 0 35 (by omega)).1, kI_sI, if_pos ⟨rfl, rfl⟩]) Rn
        · show f_X9_read 0 (nI x) (nI m) (sX hx (200 + 4 * mn hm 0 16)) = _
          rw [y1, kV_k K5.1.1.d0, K5.byText hRr, kb_ret, kV_k K5.1.1.d0, f1, kb_ret, gI_k (K9.rd hRr).1.1, (K9.rd hRr).2.2.1]
        · show f_X10_read 0 (nI x) (nI m) hm = _
          unfold f_X10_read
          rw [mgt_t q1 q2, kb_ret, kif_f (by decide), gI_k T.d0, eN, in_t q3 q4, kb_ret, kif_f (by decide), gI_k T.d0, e5, kif_f (by rw [show (0 : Int32) = nI 0 from rfl, ka_eq (by omega) (by omega)]; omega), gI_k T.d0, hR16, kif_f (by rw [show (60 : Int32) = nI 60 from rfl, ka_eq (by omega) (by omega)]; omega), z1]
    · refine op_noN R 1 2 0 rfl (by decide) ?_ ?_
      · show f_X9_read 0 (nI x) b (sX hx (200 + 4 * mn hm 0 16)) = _
        unfold f_X9_read
        rw [rgt_t q1 q2, kb_ret, kV_k S0.d0, (R.X (200 + 4 * mn hm 0 16)).reqMinNo hq3]
        rfl
      · show f_X10_read 0 (nI x) b hm = _
        unfold f_X10_read
        rw [mgt_t q1 q2, kb_ret, kif_f (by decide), gI_k T.d0, eN, in_f hq3, kb_ret, kif_t rfl]
        unfold X10_read_b51
        rw [kV_k T.d0, can_n T (show (2 : Int32) ≠ 0 by decide), kb_ret, kif_t rfl]
  · refine op_noN R 3 1 0 rfl (by decide) ?_ ?_
    · show f_X9_read 0 a b (sX hx (200 + 4 * mn hm 0 16)) = _
      unfold f_X9_read
      rw [rgt_f hq]
      rfl
    · show f_X10_read 0 a b hm = _
      unfold f_X10_read
      rw [mgt_f hq, kb_ret, kif_t rfl]
      unfold X10_read_b51
      rw [kV_k T.d0, can_n T (show (1 : Int32) ≠ 0 by decide), kb_ret, kif_t rfl]
end
section
/-! texts looked at: question marks, likeness, who is ahead -/
section KTEXT
variable {h : KH} {t s n : Nat} {X : Nat → Nat}
theorem x7_hasQL (a1 : kd h t = 8) (a2 : kR h t 0 = some s) (a3 : kd h s = 21) (a4 : kn h s = 6) (a5 : kI h t 1 = nI n) (hn : n ≤ 6) (hX : ∀ k, k < n → X k < 15 ∧ kI h s k = nI (X k)) : ∀ (f i : Nat), i ≤ n → n < i + f → ∃ b : Int32, X7_hasQuestionMark_L2 f t (nI i) h = kret b h ∧ (b = 0 ∧ (∀ k, i ≤ k → k < n → X k ≠ 14) ∨ b = 1 ∧ ∃ k, k < n ∧ X k = 14) := by
  intro f
  induction f with
  | zero => intro i h1 h2; omega
  | succ f ih =>
    intro i h1 h2
    unfold X7_hasQuestionMark_L2 X7_hasQuestionMark_b2
    rw [gI_k a1, a5]
    by_cases hi : n ≤ i
    · exact ⟨0, by rw [kif_t (by rw [ka_le (by omega) (by omega)]; exact hi)]; rfl, Or.inl ⟨rfl, fun k q1 q2 => by omega⟩⟩
    · obtain ⟨x1, x2⟩ := hX i (by omega)
      rw [kif_f (by rw [ka_le (by omega) (by omega)]; exact hi), gN_k a1 a2, gAI_k a3 (by omega) (by omega), x2]
      by_cases g : X i = 14
      · exact ⟨1, by rw [kif_t (by rw [g]; rfl)]; rfl, Or.inr ⟨rfl, i, by omega, g⟩⟩
      · obtain ⟨b, e1, e2⟩ := ih (i + 1) (by omega) (by omega)
        refine ⟨b, by rw [kif_f (by rw [show (14 : Int32) = nI 14 from rfl, ka_eq (by omega) (by omega)]; exact g), nI_1]; exact e1, e2.imp (fun z => ⟨z.1, fun k q1 q2 => ?_⟩) id⟩
        by_cases hk : k = i
        · rw [hk]; exact g
        · exact z.2 k (by omega) q2
theorem x7_eqL {t' s' : Nat} {Y : Nat → Nat} (a1 : kd h t = 8) (a2 : kR h t 0 = some s) (a3 : kd h s = 21) (a4 : kn h s = 6) (a5 : kI h t 1 = nI n) (b1 : kd h t' = 8) (b2 : kR h t' 0 = some s') (b3 : kd h s' = 21) (b4 : kn h s' = 6) (hn : n ≤ 6) (hX : ∀ k, k < n → X k < 15 ∧ kI h s k = nI (X k)) (hY : ∀ k, k < n → Y k < 15 ∧ kI h s' k = nI (Y k)) : ∀ (f i : Nat), i ≤ n → n < i + f → (∀ k, k < i → X k = Y k) → ∃ b : Int32, X7_equalsText_L15 f t t' (nI i) h = kret b h ∧ (b = 1 ∧ (∀ k, k < n → X k = Y k) ∨ b = 0 ∧ ∃ k, k < n ∧ X k ≠ Y k) := by
  intro f
  induction f with
  | zero => intro i h1 h2; omega
  | succ f ih =>
    intro i h1 h2 h3
    unfold X7_equalsText_L15 X7_equalsText_b15
    rw [gI_k a1, a5]
    by_cases hi : n ≤ i
    · exact ⟨1, by rw [kif_t (by rw [ka_le (by omega) (by omega)]; exact hi)]; rfl, Or.inl ⟨rfl, fun k q => h3 k (by omega)⟩⟩
    · obtain ⟨x1, x2⟩ := hX i (by omega)
      obtain ⟨y1, y2⟩ := hY i (by omega)
      rw [kif_f (by rw [ka_le (by omega) (by omega)]; exact hi), gN_k a1 a2, gAI_k a3 (by omega) (by omega), gN_k b1 b2, gAI_k b3 (by omega) (by omega), x2, y2]
      by_cases g : X i = Y i
      · obtain ⟨b, e1, e2⟩ := ih (i + 1) (by omega) (by omega) (fun k hk => by
          by_cases hki : k = i
          · rw [hki]; exact g
          · exact h3 k (by omega))
        exact ⟨b, by rw [kif_t (by rw [g]), nI_1]; exact e1, e2⟩
      · exact ⟨0, by rw [kif_f (by rw [ka_eq (by omega) (by omega)]; exact g)]; rfl, Or.inr ⟨rfl, i, by omega, g⟩⟩
theorem x7_eq {t' s' n' : Nat} {Y : Nat → Nat} (a1 : kd h t = 8) (a2 : kR h t 0 = some s) (a3 : kd h s = 21) (a4 : kn h s = 6) (a5 : kI h t 1 = nI n) (b1 : kd h t' = 8) (b2 : kR h t' 0 = some s') (b3 : kd h s' = 21) (b4 : kn h s' = 6) (b5 : kI h t' 1 = nI n') (hn : n ≤ 6) (hn' : n' ≤ 6) (hX : ∀ k, k < n → X k < 15 ∧ kI h s k = nI (X k)) (hY : ∀ k, k < n' → Y k < 15 ∧ kI h s' k = nI (Y k)) : ∃ b : Int32, f_X7_equalsText t t' h = kret b h ∧ (b = 1 ∧ (n = n' ∧ ∀ k, k < n → X k = Y k) ∨ b = 0 ∧ ¬ (n = n' ∧ ∀ k, k < n → X k = Y k)) := by
  unfold f_X7_equalsText
  rw [gI_k a1, gI_k b1, a5, b5]
  by_cases hq : n = n'
  · subst hq
    obtain ⟨b, e1, e2⟩ := x7_eqL a1 a2 a3 a4 a5 b1 b2 b3 b4 hn hX hY kF 0 (by omega) (by unfold kF; omega) (fun k hk => by omega)
    exact ⟨b, by rw [kif_t rfl]; exact e1, e2.imp (fun z => ⟨z.1, rfl, z.2⟩) (fun ⟨z1, k, z2, z3⟩ => ⟨z1, fun w => z3 (w.2 k z2)⟩)⟩
  · exact ⟨0, by rw [kif_f (by rw [ka_eq (by omega) (by omega)]; exact hq)]; rfl, Or.inr ⟨rfl, fun w => hq w.1⟩⟩
/-- comesBefore -/
theorem x7_cbL {t' s' n' c : Nat} {Y : Nat → Nat} {La Lb : List Nat} (a1 : kd h t = 8) (a2 : kR h t 0 = some s) (a3 : kd h s = 21) (a4 : kn h s = 6) (a5 : kI h t 1 = nI n) (b1 : kd h t' = 8) (b2 : kR h t' 0 = some s') (b3 : kd h s' = 21) (b4 : kn h s' = 6) (b5 : kI h t' 1 = nI n') (hn : n ≤ 6) (hn' : n' ≤ 6) (hX : ∀ k, k < n → X k < 15 ∧ kI h s k = nI (X k)) (hY : ∀ k, k < n' → Y k < 15 ∧ kI h s' k = nI (Y k)) (la : La.length = n) (lb : Lb.length = n') (ea : ∀ k, k < n → La.getD k 0 = X (n - 1 - k)) (eb : ∀ k, k < n' → Lb.getD k 0 = Y (n' - 1 - k)) (hc : c = min n n') : ∀ (f i : Nat), i ≤ c → c < i + f → (∀ k, k < i → La.getD k 0 = Lb.getD k 0) → X7_comesBefore_L14 f t t' (nI c) (nI (i + 1)) h = kret (if La < Lb then 1 else 0) h := by
  intro f
  induction f with
  | zero => intro i h1 h2; omega
  | succ f ih =>
    intro i h1 h2 h3
    have hcn : c ≤ n := by omega
    have hcn' : c ≤ n' := by omega
    obtain ⟨t1, t2⟩ := tl_at i La Lb (by omega) (by omega) h3
    rw [la, lb] at t1 t2
    unfold X7_comesBefore_L14 X7_comesBefore_b14
    by_cases hi : i = c
    · rw [kif_t (by rw [ka_lt (by omega) (by omega)]; omega), gI_k a1, gI_k b1, a5, b5]
      simp only [t1 (by omega)]
      by_cases g : n' ≤ n
      · rw [kif_t (by rw [ka_le (by omega) (by omega)]; exact g), if_neg (by omega)]
        rfl
      · rw [kif_f (by rw [ka_le (by omega) (by omega)]; exact g), if_pos (by omega)]
        rfl
    · obtain ⟨x1, x2⟩ := hX (n - (i + 1)) (by omega)
      obtain ⟨y1, y2⟩ := hY (n' - (i + 1)) (by omega)
      have ea' := ea i (by omega)
      have eb' := eb i (by omega)
      rw [show n - 1 - i = n - (i + 1) by omega] at ea'
      rw [show n' - 1 - i = n' - (i + 1) by omega] at eb'
      rw [kif_f (by rw [ka_lt (by omega) (by omega)]; omega), gN_k a1 a2, gI_k a1, a5, ka_sub (by omega), gAI_k a3 (by omega) (by omega), gN_k b1 b2, gI_k b1, b5, ka_sub (by omega), gAI_k b3 (by omega) (by omega), x2, y2]
      by_cases g : X (n - (i + 1)) = Y (n' - (i + 1))
      · rw [kif_t (by rw [g]), nI_1]
        exact ih (i + 1) (by omega) (by omega) (fun k hk => by
          by_cases hki : k = i
          · rw [hki, ea', eb', g]
          · exact h3 k (by omega))
      · have t2' := t2 (by omega) (by omega) (by rw [ea', eb']; exact g)
        rw [kif_f (by rw [ka_eq (by omega) (by omega)]; exact g)]
        simp only [t2', ea', eb']
        by_cases g2 : Y (n' - (i + 1)) ≤ X (n - (i + 1))
        · rw [kif_t (by rw [ka_le (by omega) (by omega)]; exact g2), if_neg (by omega)]
          rfl
        · rw [kif_f (by rw [ka_le (by omega) (by omega)]; exact g2), if_pos (by omega)]
          rfl
theorem x7_cb {t' s' n' : Nat} {Y : Nat → Nat} {La Lb : List Nat} (a1 : kd h t = 8) (a2 : kR h t 0 = some s) (a3 : kd h s = 21) (a4 : kn h s = 6) (a5 : kI h t 1 = nI n) (b1 : kd h t' = 8) (b2 : kR h t' 0 = some s') (b3 : kd h s' = 21) (b4 : kn h s' = 6) (b5 : kI h t' 1 = nI n') (hn : n ≤ 6) (hn' : n' ≤ 6) (hX : ∀ k, k < n → X k < 15 ∧ kI h s k = nI (X k)) (hY : ∀ k, k < n' → Y k < 15 ∧ kI h s' k = nI (Y k)) (la : La.length = n) (lb : Lb.length = n') (ea : ∀ k, k < n → La.getD k 0 = X (n - 1 - k)) (eb : ∀ k, k < n' → Lb.getD k 0 = Y (n' - 1 - k)) : f_X7_comesBefore t t' h = kret (if La < Lb then 1 else 0) h := by
  unfold f_X7_comesBefore
  rw [gI_k a1, gI_k b1, a5, b5]
  have e : (if nI n' < nI n then nI n' else nI n) = nI (min n n') := by
    by_cases g : n' < n
    · rw [if_pos (by rw [ka_lt (by omega) (by omega)]; exact g), Nat.min_eq_right (by omega)]
    · rw [if_neg (by rw [ka_lt (by omega) (by omega)]; exact g), Nat.min_eq_left (by omega)]
  rw [e]
  exact x7_cbL a1 a2 a3 a4 a5 b1 b2 b3 b4 b5 hn hn' hX hY la lb ea eb rfl kF 0 (by omega) (by unfold kF; omega) (fun k hk => by omega)
end KTEXT
/-! the model's looks -/
section KTEXTM
variable {h : KH} {n : Nat} {X : Nat → Nat}
theorem tm_plainL (T : kSm h) (e5 : kI h 0 5 = nI n) (hn : n ≤ 6) (hX : ∀ k, k < n → X k < 15 ∧ kI h 4 k = nI (X k)) : ∀ (f i : Nat) (v : Int32), i ≤ n → n < i + f → (v = 0 ∨ v = 1) → ∃ b : Int32, X10_isPlain_L15 f 0 v (nI i) h = kret b h ∧ (b = 1 ∧ v = 1 ∧ (∀ k, i ≤ k → k < n → X k ≠ 14) ∨ b = 0 ∧ (v = 0 ∨ ∃ k, k < n ∧ X k = 14)) := by
  intro f
  induction f with
  | zero => intro i v h1 h2; omega
  | succ f ih =>
    intro i v h1 h2 hv
    unfold X10_isPlain_L15 X10_isPlain_b15
    rw [gI_k T.d0, e5]
    by_cases hi : n ≤ i
    · refine ⟨v, ?_, ?_⟩
      · rw [kif_t (by rw [ka_le (by omega) (by omega)]; exact hi)]
        rcases hv with hv | hv <;> rw [hv] <;> rfl
      · rcases hv with hv | hv
        · exact Or.inr ⟨hv, Or.inl hv⟩
        · exact Or.inl ⟨hv, hv, fun k q1 q2 => by omega⟩
    · obtain ⟨x1, x2⟩ := hX i (by omega)
      rw [kif_f (by rw [ka_le (by omega) (by omega)]; exact hi)]
      have h0 := ih (i + 1) 0 (by omega) (by omega) (Or.inl rfl)
      have h1' := ih (i + 1) 1 (by omega) (by omega) (Or.inr rfl)
      by_cases g0 : v = 0
      · obtain ⟨b, e1, e2⟩ := h0
        refine ⟨b, ?_, ?_⟩
        · rw [kif_t g0]
          unfold X10_isPlain_b42 X10_isPlain_b43
          rw [nI_1]
          exact e1
        · rcases e2 with e2 | e2
          · exact absurd e2.2.1 (by decide)
          · exact Or.inr ⟨e2.1, Or.inl g0⟩
      · have g1 : v = 1 := hv.resolve_left g0
        rw [kif_f g0, gN_k T.d0 T.r6, gAI_k T.d4 (by rw [T.n4]; omega) (by omega), x2]
        by_cases g : X i = 14
        · obtain ⟨b, e1, e2⟩ := h0
          refine ⟨b, ?_, ?_⟩
          · rw [kif_t (by rw [g]; rfl)]
            unfold X10_isPlain_b42 X10_isPlain_b43
            rw [nI_1]
            exact e1
          · rcases e2 with e2 | e2
            · exact absurd e2.2.1 (by decide)
            · exact Or.inr ⟨e2.1, Or.inr ⟨i, by omega, g⟩⟩
        · obtain ⟨b, e1, e2⟩ := h1'
          refine ⟨b, ?_, ?_⟩
          · rw [kif_f (by rw [show (14 : Int32) = nI 14 from rfl, ka_eq (by omega) (by omega)]; exact g)]
            unfold X10_isPlain_b43
            rw [nI_1]
            exact e1
          · rcases e2 with e2 | e2
            · refine Or.inl ⟨e2.1, g1, fun k q1 q2 => ?_⟩
              by_cases hk : k = i
              · rw [hk]; exact g
              · exact e2.2.2 k (by omega) q2
            · rcases e2.2 with z | z
              · exact absurd z (by decide)
              · exact Or.inr ⟨e2.1, Or.inr z⟩
theorem tm_plain (T : kSm h) (e5 : kI h 0 5 = nI n) (hn : n ≤ 6) (hX : ∀ k, k < n → X k < 15 ∧ kI h 4 k = nI (X k)) : ∃ b : Int32, f_X10_isPlain 0 h = kret b h ∧ (b = 1 ∧ 0 < n ∧ (∀ k, k < n → X k ≠ 14) ∨ b = 0 ∧ (n = 0 ∨ ∃ k, k < n ∧ X k = 14)) := by
  unfold f_X10_isPlain
  rw [gI_k T.d0, e5]
  by_cases h0 : n ≤ 0
  · obtain ⟨b, e1, e2⟩ := tm_plainL T e5 hn hX kF 0 0 (by omega) (by unfold kF; omega) (Or.inl rfl)
    refine ⟨b, by rw [kif_t (by rw [show (0 : Int32) = nI 0 from rfl, ka_le (by omega) (by omega)]; exact h0)]; exact e1, ?_⟩
    rcases e2 with e2 | e2
    · exact absurd e2.2.1 (by decide)
    · exact Or.inr ⟨e2.1, Or.inl (by omega)⟩
  · obtain ⟨b, e1, e2⟩ := tm_plainL T e5 hn hX kF 0 1 (by omega) (by unfold kF; omega) (Or.inr rfl)
    refine ⟨b, by rw [kif_f (by rw [show (0 : Int32) = nI 0 from rfl, ka_le (by omega) (by omega)]; exact h0)]; exact e1, ?_⟩
    rcases e2 with e2 | e2
    · exact Or.inl ⟨e2.1, by omega, fun k hk => e2.2.2 k (by omega) hk⟩
    · rcases e2.2 with z | z
      · exact absurd z (by decide)
      · exact Or.inr ⟨e2.1, Or.inr z⟩
def eqT (m : Nat → Nat → Nat) (X : Nat → Nat) (n p : Nat) : Prop := m 6 p = n ∧ ∀ k, k < n → m 7 (6 * p + k) = X k
theorem MX.tkI (M : MX h) (e5 : kI h 0 5 = nI n) (hn : n ≤ 6) (hX : ∀ k, k < n → X k < 15 ∧ kI h 4 k = nI (X k)) {p : Nat} (hp : p < mn h 0 8) (rc : Nat → Int32 → Int32 → KH → KO Int32) (v1 : Int32) (hv1 : v1 = 0 ∨ v1 = 1) : ∀ (f i : Nat) (v : Int32), i ≤ n → n < i + f → (v = 0 ∨ v = 1 ∧ mn h 6 p = n) → ∃ b : Int32, X10_isTaken_L34 rc f 0 v1 (nI p) v (nI i) h = rc 0 b (nI (p + 1)) h ∧ (b = 1 ∧ (v1 = 1 ∨ v = 1 ∧ (∀ k, i ≤ k → k < n → mn h 7 (6 * p + k) = X k)) ∨ b = 0 ∧ v1 = 0 ∧ (v = 0 ∨ ∃ k, k < n ∧ mn h 7 (6 * p + k) ≠ X k)) := by
  have T := M.1
  have hP := M.2.1.1
  intro f
  induction f with
  | zero => intro i v h1 h2; omega
  | succ f ih =>
    intro i v h1 h2 hv
    have hend : (i = n ∨ v = 0) → ∃ b : Int32, X10_isTaken_b81 rc 0 v1 (nI p) v h = rc 0 b (nI (p + 1)) h ∧ (b = 1 ∧ (v1 = 1 ∨ v = 1 ∧ (∀ k, i ≤ k → k < n → mn h 7 (6 * p + k) = X k)) ∨ b = 0 ∧ v1 = 0 ∧ (v = 0 ∨ ∃ k, k < n ∧ mn h 7 (6 * p + k) ≠ X k)) := by
      intro hq
      unfold X10_isTaken_b81 X10_isTaken_b89 X10_isTaken_b94
      rw [nI_1]
      rcases hv1 with w | w
      · rcases hv with z | ⟨z, z'⟩
        · exact ⟨0, by rw [kif_t w, kif_t z], Or.inr ⟨rfl, w, Or.inl z⟩⟩
        · refine ⟨1, by rw [kif_t w, kif_f (by rw [z]; decide)], Or.inl ⟨rfl, Or.inr ⟨z, fun k q1 q2 => ?_⟩⟩⟩
          rcases hq with hq | hq
          · omega
          · rw [z] at hq
            exact absurd hq (by decide)
      · exact ⟨1, by rw [kif_f (by rw [w]; decide)], Or.inl ⟨rfl, Or.inl w⟩⟩
    unfold X10_isTaken_L34 X10_isTaken_b34
    rw [gI_k T.d0, e5]
    by_cases hi : n ≤ i
    · rw [kif_t (by rw [ka_le (by omega) (by omega)]; exact hi)]
      exact hend (Or.inl (by omega))
    · rw [kif_f (by rw [ka_le (by omega) (by omega)]; exact hi)]
      by_cases g0 : v = 0
      · rw [kif_t g0]
        exact hend (Or.inr g0)
      · obtain ⟨g1, g2⟩ := hv.resolve_left g0
        obtain ⟨x1, x2⟩ := hX i (by omega)
        obtain ⟨y1, y2⟩ := (M.2.2.2.1 p hp).2.2 i (by omega)
        rw [kif_f g0, gN_k T.d0 T.r10, mc_idx6, gAI_k T.d7 (by rw [T.n7]; omega) (by omega), gN_k T.d0 T.r6, gAI_k T.d4 (by rw [T.n4]; omega) (by omega), x2, y2]
        by_cases g : mn h 7 (6 * p + i) = X i
        · obtain ⟨b, e1, e2⟩ := ih (i + 1) 1 (by omega) (by omega) (Or.inr ⟨rfl, g2⟩)
          refine ⟨b, ?_, ?_⟩
          · rw [kif_t (by rw [g])]
            unfold X10_isTaken_b74
            rw [nI_1]
            exact e1
          · rcases e2 with ⟨z1, z2⟩ | ⟨z1, z2, z3⟩
            · refine Or.inl ⟨z1, z2.imp id (fun w => ⟨g1, fun k q1 q2 => ?_⟩)⟩
              by_cases hk : k = i
              · rw [hk]; exact g
              · exact w.2 k (by omega) q2
            · rcases z3 with w | w
              · exact absurd w (by decide)
              · exact Or.inr ⟨z1, z2, Or.inr w⟩
        · obtain ⟨b, e1, e2⟩ := ih (i + 1) 0 (by omega) (by omega) (Or.inl rfl)
          refine ⟨b, ?_, ?_⟩
          · rw [kif_f (by rw [ka_eq (by omega) (by omega)]; exact g)]
            unfold X10_isTaken_b74
            rw [nI_1]
            exact e1
          · rcases e2 with ⟨z1, z2⟩ | ⟨z1, z2, z3⟩
            · rcases z2 with w | w
              · exact Or.inl ⟨z1, Or.inl w⟩
              · exact absurd w.1 (by decide)
            · exact Or.inr ⟨z1, z2, Or.inr ⟨i, by omega, g⟩⟩
theorem MX.tkL (M : MX h) (e5 : kI h 0 5 = nI n) (hn : n ≤ 6) (hX : ∀ k, k < n → X k < 15 ∧ kI h 4 k = nI (X k)) : ∀ (f p : Nat) (v : Int32), p ≤ mn h 0 8 → mn h 0 8 < p + f → (v = 1 ∧ (∃ q, q < p ∧ eqT (mn h) X n q) ∨ v = 0 ∧ ∀ q, q < p → ¬ eqT (mn h) X n q) → ∃ b : Int32, X10_isTaken_L4 f 0 v (nI p) h = kret b h ∧ (b = 1 ∧ (∃ q, q < mn h 0 8 ∧ eqT (mn h) X n q) ∨ b = 0 ∧ ∀ q, q < mn h 0 8 → ¬ eqT (mn h) X n q) := by
  have T := M.1
  have hP := M.2.1
  intro f
  induction f with
  | zero => intro p v h1 h2; omega
  | succ f ih =>
    intro p v h1 h2 hv
    unfold X10_isTaken_L4 X10_isTaken_b4
    rw [gI_k T.d0, hP.2]
    by_cases hp : mn h 0 8 ≤ p
    · obtain rfl : p = mn h 0 8 := by omega
      refine ⟨v, ?_, hv⟩
      rw [kif_t (by rw [ka_le (by omega) (by omega)]; exact hp)]
      rcases hv with hv | hv <;> rw [hv.1] <;> rfl
    · obtain ⟨⟨p1, p2⟩, p3, -⟩ := M.2.2.2.1 p (by omega)
      have hv1 : v = 0 ∨ v = 1 := hv.elim (fun z => Or.inr z.1) (fun z => Or.inl z.1)
      have hnext : ∀ s0 : Int32, (s0 = 0 ∧ mn h 6 p ≠ n ∨ s0 = 1 ∧ mn h 6 p = n) → ∃ b : Int32, X10_isTaken_b30 (X10_isTaken_L4 f) 0 v (nI p) s0 h = kret b h ∧ (b = 1 ∧ (∃ q, q < mn h 0 8 ∧ eqT (mn h) X n q) ∨ b = 0 ∧ ∀ q, q < mn h 0 8 → ¬ eqT (mn h) X n q) := by
        intro s0 hs
        obtain ⟨b, e1, e2⟩ := M.tkI e5 hn hX (show p < mn h 0 8 by omega) (X10_isTaken_L4 f) v hv1 kF 0 s0 (by omega) (by unfold kF; omega) (hs.imp (fun z => z.1) id)
        have hb : b = 1 ∧ (∃ q, q < p + 1 ∧ eqT (mn h) X n q) ∨ b = 0 ∧ ∀ q, q < p + 1 → ¬ eqT (mn h) X n q := by
          rcases e2 with ⟨z1, z2⟩ | ⟨z1, z2, z3⟩
          · refine Or.inl ⟨z1, ?_⟩
            rcases z2 with w | ⟨w1, w2⟩
            · rcases hv with ⟨-, q, hq1, hq2⟩ | ⟨hv, -⟩
              · exact ⟨q, by omega, hq2⟩
              · rw [w] at hv
                exact absurd hv (by decide)
            · rcases hs with hs | hs
              · rw [hs.1] at w1
                exact absurd w1 (by decide)
              · exact ⟨p, by omega, hs.2, fun k hk => w2 k (by omega) hk⟩
          · refine Or.inr ⟨z1, fun q hq w => ?_⟩
            by_cases hqp : q = p
            · subst hqp
              rcases z3 with z3 | ⟨k, k1, k2⟩
              · rcases hs with hs | hs
                · exact hs.2 w.1
                · rw [hs.1] at z3
                  exact absurd z3 (by decide)
              · exact k2 (w.2 k k1)
            · rcases hv with hv | hv
              · rw [hv.1] at z2
                exact absurd z2 (by decide)
              · exact hv.2 q (by omega) w
        obtain ⟨b', f1, f2⟩ := ih (p + 1) b (by omega) (by omega) hb
        refine ⟨b', ?_, f2⟩
        unfold X10_isTaken_b30
        exact e1.trans f1
      rw [kif_f (by rw [ka_le (by omega) (by omega)]; exact hp), gN_k T.d0 T.r9, gAI_k T.d6 (by rw [T.n6]; omega) (by omega), p3, gI_k T.d0, e5]
      by_cases g : mn h 6 p = n
      · rw [kif_t (by rw [g])]
        exact hnext 1 (Or.inr ⟨rfl, g⟩)
      · rw [kif_f (by rw [ka_eq (by omega) (by omega)]; exact g)]
        exact hnext 0 (Or.inl ⟨rfl, g⟩)
theorem MX.taken (M : MX h) (e5 : kI h 0 5 = nI n) (hn : n ≤ 6) (hX : ∀ k, k < n → X k < 15 ∧ kI h 4 k = nI (X k)) : ∃ b : Int32, f_X10_isTaken 0 h = kret b h ∧ (b = 1 ∧ (∃ q, q < mn h 0 8 ∧ eqT (mn h) X n q) ∨ b = 0 ∧ ∀ q, q < mn h 0 8 → ¬ eqT (mn h) X n q) :=
  M.tkL e5 hn hX kF 0 0 (by omega) (by have := M.2.1.1; unfold kF; omega) (Or.inr ⟨rfl, fun q hq => by omega⟩)
end KTEXTM
/-- the class: is the text taken -/
theorem kCx.tkL {hx hm : KH} {n : Nat} {X : Nat → Nat} (K : kCx hx hm) (e22 : kI hx 22 1 = nI n) (hn : n ≤ 6) (hX : ∀ k, k < n → X k < 15 ∧ kI hx 23 k = nI (X k)) : ∀ (f p : Nat), p ≤ mn hm 0 8 → mn hm 0 8 < p + f → (∀ q, q < p → ¬ eqT (mn hm) X n q) → ∃ b : Int32, X9_isTaken_L2 f 0 22 (nI p) hx = kret b hx ∧ (b = 1 ∧ (∃ q, q < mn hm 0 8 ∧ eqT (mn hm) X n q) ∨ b = 0 ∧ ∀ q, q < mn hm 0 8 → ¬ eqT (mn hm) X n q) := by
  have S := K.1.1
  have hP := K.P
  intro f
  induction f with
  | zero => intro p h1 h2; omega
  | succ f ih =>
    intro p h1 h2 h3
    unfold X9_isTaken_L2 X9_isTaken_b2
    rw [gI_k S.d0, hP.1]
    by_cases hp : mn hm 0 8 ≤ p
    · exact ⟨0, by rw [kif_t (by rw [ka_le (by omega) (by omega)]; exact hp)]; rfl, Or.inr ⟨rfl, fun q hq => h3 q (by omega)⟩⟩
    · obtain ⟨⟨g1, g2, g3, g4, -⟩, ⟨g0, g6, g5, -⟩, -, ⟨n', o1, o2, o3, o4, o5⟩, -⟩ := K.2.2.2.2.1.2.1 p (by omega)
      obtain ⟨b, e1, e2⟩ := x7_eq (h := hx) (t := 101 + 8 * p) (s := 102 + 8 * p) (n := n') (X := fun k => mn hm 7 (6 * p + k)) (t' := 22) (s' := 23) (n' := n) (Y := X) g2 g5 g3 g4 o3 S.d22 S.r22_0 S.d23 S.n23 e22 o2 hn (fun k hk => by
        obtain ⟨v, v1, v2, v3⟩ := o5 k hk
        show mn hm 7 (6 * p + k) < 15 ∧ _ = nI (mn hm 7 (6 * p + k))
        rw [mn_of v3 (by omega)]
        exact ⟨by omega, v2⟩) hX
      have h6 : mn hm 6 p = n' := mn_of o4 (by omega)
      have heq : (n' = n ∧ ∀ k, k < n' → mn hm 7 (6 * p + k) = X k) ↔ eqT (mn hm) X n p := by
        unfold eqT
        rw [h6]
        exact ⟨fun z => ⟨z.1, fun k hk => z.2 k (by have := z.1; omega)⟩, fun z => ⟨z.1, fun k hk => z.2 k (by have := z.1; omega)⟩⟩
      rw [kif_f (by rw [ka_le (by omega) (by omega)]; exact hp), gN_k S.d0 S.r0_4, gAN_k S.d26 (by rw [S.n26]; omega) (by omega) g0, gN_k g1 g6, kV_k g2, e1, kb_ret]
      rcases e2 with ⟨z1, z2⟩ | ⟨z1, z2⟩
      · exact ⟨1, by rw [kif_f (by rw [z1]; decide)]; rfl, Or.inl ⟨rfl, p, by omega, heq.1 z2⟩⟩
      · obtain ⟨b', f1, f2⟩ := ih (p + 1) (by omega) (by omega) (fun q hq => by
          by_cases hqp : q = p
          · rw [hqp]
            exact fun w => z2 (heq.2 w)
          · exact h3 q (by omega))
        exact ⟨b', by rw [kif_t z1, nI_1]; exact f1, f2⟩
end
section
/-! a plate into the order -/
def TXp (h : KH) (m : Nat → Nat → Nat) (p : Nat) : Prop := (kd h (100 + 8 * p) = 5 ∧ kR h (100 + 8 * p) 1 = some (101 + 8 * p)) ∧ (kd h (101 + 8 * p) = 8 ∧ kR h (101 + 8 * p) 0 = some (102 + 8 * p) ∧ kd h (102 + 8 * p) = 21 ∧ kn h (102 + 8 * p) = 6) ∧ m 6 p ≤ 6 ∧ kI h (101 + 8 * p) 1 = nI (m 6 p) ∧ ∀ k, k < m 6 p → m 7 (6 * p + k) < 15 ∧ kI h (102 + 8 * p) k = nI (m 7 (6 * p + k))
theorem TXp.cb {h : KH} {m : Nat → Nat → Nat} {p q : Nat} (A : TXp h m p) (B : TXp h m q) : f_X7_comesBefore (101 + 8 * p) (101 + 8 * q) h = kret (if sTl m p < sTl m q then 1 else 0) h := by
  obtain ⟨-, ⟨a1, a2, a3, a4⟩, a5, a6, a7⟩ := A
  obtain ⟨-, ⟨b1, b2, b3, b4⟩, b5, b6, b7⟩ := B
  exact x7_cb (X := fun k => m 7 (6 * p + k)) (Y := fun k => m 7 (6 * q + k)) (La := sTl m p) (Lb := sTl m q) a1 a2 a3 a4 a6 b1 b2 b3 b4 b6 a5 b5 a7 b7 (sTl_len m p) (sTl_len m q) (fun k hk => sTl_at m p k hk) (fun k hk => sTl_at m q k hk)
theorem TXp.fr {h h' : KH} {m : Nat → Nat → Nat} {p : Nat} {D : Nat → Nat → Prop} (A : TXp h m p) (ag : kAg D h h') (hD : ∀ a k, 100 + 8 * p ≤ a ∧ a ≤ 102 + 8 * p → ¬ D a k) : TXp h' m p := by
  obtain ⟨⟨a0, a0'⟩, ⟨a1, a2, a3, a4⟩, a5, a6, a7⟩ := A
  have k0 := ag.k (100 + 8 * p) (by rw [a0]; decide)
  have k1 := ag.k (101 + 8 * p) (by rw [a1]; decide)
  have k2 := ag.k (102 + 8 * p) (by rw [a3]; decide)
  exact ⟨⟨by rw [k0.1, a0], by rw [(ag.1 _ _ (hD (100 + 8 * p) 1 (by omega))).2.2, a0']⟩, ⟨by rw [k1.1, a1], by rw [(ag.1 _ _ (hD (101 + 8 * p) 0 (by omega))).2.2, a2], by rw [k2.1, a3], by rw [k2.2, a4]⟩, a5, by rw [(ag.1 _ _ (hD (101 + 8 * p) 1 (by omega))).1, a6], fun k hk => by rw [(ag.1 _ _ (hD (102 + 8 * p) k (by omega))).1]; exact a7 k hk⟩
theorem x9_pioL {hx : KH} {m : Nat → Nat → Nat} {P : Nat} {o : List Nat} (hP : P < 10) (ol : o.length = P) (om : ∀ k, k < o.length → o.getD k 0 < P) (oe : ∀ k, k < o.length → kR hx 27 k = some (100 + 8 * o.getD k 0)) : ∀ (f i : Nat) (h : KH), kSx h → (∀ p, p ≤ P → TXp h m p) → kAg (fun a _ => a = 27) hx h → (∀ k, k < i → kR h 27 k = kR hx 27 k) → (∀ k, i ≤ k → k < P → kR h 27 (k + 1) = kR hx 27 k) → i ≤ P → i < f → ∃ h' i', X9_putInOrder_L5 f 0 (100 + 8 * P) (nI i) h = kret () h' ∧ i' ≤ i ∧ kAg (fun a _ => a = 27) hx h' ∧ (∀ k, k < i' → kR h' 27 k = kR hx 27 k) ∧ (∀ k, i' ≤ k → k < P → kR h' 27 (k + 1) = kR hx 27 k) ∧ kR h' 27 i' = some (100 + 8 * P) ∧ (∀ k, i' ≤ k → k < i → sTl m P < sTl m (o.getD k 0)) ∧ (i' = 0 ∨ ¬ sTl m P < sTl m (o.getD (i' - 1) 0)) := by
  intro f
  induction f with
  | zero => intro i h _ _ _ _ _ h1 h2; omega
  | succ f ih =>
    intro i h S TX ag Q1 Q2 h1 h2
    have hexit : (i = 0 ∨ ¬ sTl m P < sTl m (o.getD (i - 1) 0)) → ∃ h' i', X9_putInOrder_b50 0 (100 + 8 * P) (nI i) h = kret () h' ∧ i' ≤ i ∧ kAg (fun a _ => a = 27) hx h' ∧ (∀ k, k < i' → kR h' 27 k = kR hx 27 k) ∧ (∀ k, i' ≤ k → k < P → kR h' 27 (k + 1) = kR hx 27 k) ∧ kR h' 27 i' = some (100 + 8 * P) ∧ (∀ k, i' ≤ k → k < i → sTl m P < sTl m (o.getD k 0)) ∧ (i' = 0 ∨ ¬ sTl m P < sTl m (o.getD (i' - 1) 0)) := by
      intro hex
      refine ⟨sR h 27 i (some (100 + 8 * P)), i, ?_, Nat.le_refl _, ag.trans (kAg.R h 27 i _) (fun a k q => q) (fun a k q z => q z.1), fun k hk => ?_, fun k q1 q2 => ?_, ?_, fun k q1 q2 => by omega, hex⟩
      · unfold X9_putInOrder_b50
        rw [gN_k S.d0 S.r0_5, pAN_k S.d27 (by rw [S.n27]; omega) (by omega) (TX P (Nat.le_refl _)).1.1]
      · rw [kR_sR, if_neg (by omega)]
        exact Q1 k hk
      · rw [kR_sR, if_neg (by omega)]
        exact Q2 k q1 q2
      · rw [kR_sR, if_pos ⟨rfl, rfl⟩]
    unfold X9_putInOrder_L5 X9_putInOrder_b5
    by_cases h0 : i = 0
    · rw [kif_t (by rw [h0]; decide)]
      exact hexit (Or.inl h0)
    · obtain ⟨i, rfl⟩ : ∃ k, i = k + 1 := ⟨i - 1, by omega⟩
      have hoi := om i (by omega)
      have er : kR h 27 i = some (100 + 8 * o.getD i 0) := by rw [Q1 i (by omega), oe i (by omega)]
      have A := TX P (Nat.le_refl _)
      have B := TX (o.getD i 0) (by omega)
      rw [kif_f (by rw [show (0 : Int32) = nI 0 from rfl, ka_le (by omega) (by omega)]; omega), gN_k A.1.1 A.1.2, gN_k S.d0 S.r0_5, ka_pred (by omega), show i + 1 - 1 = i from rfl, gAN_k S.d27 (by rw [S.n27]; omega) (by omega) er, gN_k B.1.1 B.1.2, kV_k A.2.1.1, A.cb B, kb_ret]
      by_cases g : sTl m P < sTl m (o.getD i 0)
      · rw [if_pos g, kif_f (by decide), gN_k S.d0 S.r0_5, gN_k S.d0 S.r0_5, gAN_k S.d27 (by rw [S.n27]; omega) (by omega) er, pAN_k S.d27 (by rw [S.n27]; omega) (by omega) B.1.1, ka_dec (by omega), show i + 1 - 1 = i from rfl]
        have ag1 := kAg.R h 27 (i + 1) (some (100 + 8 * o.getD i 0))
        obtain ⟨h', i', e1, e2, e3, e4, e5, e6, e7, e8⟩ := ih i (sR h 27 (i + 1) (some (100 + 8 * o.getD i 0))) (S.fr ag1 (fun a k q z => by omega)) (fun p hp => (TX p hp).fr ag1 (fun a k q z => by omega)) (ag.trans ag1 (fun a k q => q) (fun a k q z => q z.1)) (fun k hk => by
          rw [kR_sR, if_neg (by omega)]
          exact Q1 k (by omega)) (fun k q1 q2 => by
          rw [kR_sR]
          by_cases hki : k = i
          · subst hki
            rw [if_pos ⟨rfl, rfl⟩]
            exact er.symm.trans (Q1 k (by omega))
          · rw [if_neg (by omega)]
            exact Q2 k (by omega) q2) (by omega) (by omega)
        refine ⟨h', i', e1, by omega, e3, e4, e5, e6, fun k q1 q2 => ?_, e8⟩
        by_cases hki : k = i
        · rw [hki]; exact g
        · exact e7 k q1 (by omega)
      · rw [if_neg g, kif_t rfl]
        exact hexit (Or.inr g)
theorem ord_ins {m : Nat → Nat → Nat} {P i : Nat} {o : List Nat} (ol : o.length = P) (om : ∀ p, p ∈ o ↔ p < P) (op : o.Pairwise (fun p q => sTl m p < sTl m q)) (hne : ∀ p, p < P → sTl m p ≠ sTl m P) (hi : i ≤ P) (h1 : ∀ k, i ≤ k → k < P → sTl m P < sTl m (o.getD k 0)) (h2 : i = 0 ∨ ¬ sTl m P < sTl m (o.getD (i - 1) 0)) : (o.insertIdx i P).length = P + 1 ∧ (∀ p, p ∈ o.insertIdx i P ↔ p < P + 1) ∧ (o.insertIdx i P).Pairwise (fun p q => sTl m p < sTl m q) := by
  have hil : i ≤ o.length := by omega
  have hop : ∀ a b, a < b → b < o.length → sTl m (o.getD a 0) < sTl m (o.getD b 0) := fun a b hab hb => by
    have := List.pairwise_iff_getElem.1 op a b (by omega) hb hab
    rw [gD_get hb, gD_get (by omega)]
    exact this
  have hom : ∀ k, k < o.length → o.getD k 0 < P := fun k hk => (om _).1 (gD_mem.2 ⟨k, hk, rfl⟩)
  have h3 : ∀ k, k < i → sTl m (o.getD k 0) < sTl m P := fun k hk => by
    rcases h2 with h2 | h2
    · omega
    · have h4 : sTl m (o.getD (i - 1) 0) < sTl m P := by
        rcases tl_tri (sTl m (o.getD (i - 1) 0)) (sTl m P) with z | z | z
        · exact z
        · exact absurd z (hne _ (hom _ (by omega)))
        · exact absurd z h2
      by_cases hki : k = i - 1
      · rw [hki]; exact h4
      · exact List.lt_trans (hop k (i - 1) (by omega) (by omega)) h4
  refine ⟨by rw [ins_len hil, ol], fun p => ?_, ?_⟩
  · rw [gD_mem]
    constructor
    · rintro ⟨k, hk, rfl⟩
      rw [ins_len hil] at hk
      rw [ins_at hil]
      split
      · have := hom k (by omega)
        omega
      · split
        · omega
        · have := hom (k - 1) (by omega)
          omega
    · intro hp
      by_cases hpP : p = P
      · exact ⟨i, by rw [ins_len hil]; omega, by rw [ins_at hil, if_neg (by omega), if_pos rfl, hpP]⟩
      · obtain ⟨k, hk, ek⟩ := gD_mem.1 ((om p).2 (by omega))
        by_cases hki : k < i
        · exact ⟨k, by rw [ins_len hil]; omega, by rw [ins_at hil, if_pos hki, ek]⟩
        · exact ⟨k + 1, by rw [ins_len hil]; omega, by rw [ins_at hil, if_neg (by omega), if_neg (by omega)]; exact ek⟩
  · rw [List.pairwise_iff_getElem]
    intro a b ha hb hab
    rw [← gD_get ha, ← gD_get hb]
    rw [ins_len hil] at ha hb
    rw [ins_at hil, ins_at hil]
    by_cases a1 : a < i
    · rw [if_pos a1]
      by_cases a2 : b < i
      · rw [if_pos a2]
        exact hop a b hab (by omega)
      · rw [if_neg a2]
        by_cases a3 : b = i
        · rw [if_pos a3]
          exact h3 a a1
        · rw [if_neg a3]
          exact hop a (b - 1) (by omega) (by omega)
    · rw [if_neg a1, if_neg (show ¬ b < i by omega), if_neg (show ¬ b = i by omega)]
      by_cases a3 : a = i
      · rw [if_pos a3]
        exact h1 (b - 1) (by omega) (by omega)
      · rw [if_neg a3]
        exact hop (a - 1) (b - 1) (by omega) (by omega)
end
section
/-! register: the class's new plate -/
theorem x1_init {h : KH} {c : Nat} {d m : Int32} {o : Option Nat} (k : kd h c = 2) : f_X1_init c d m o h = kret () (sR (sI (sI h c 0 d) c 1 m) c 2 o) := by
  unfold f_X1_init
  simp only [pI, pR, kd_sI, k, if_true]
theorem x3_init {h : KH} {c d : Nat} (k : kd h c = 4) (hx : kx h = d) (f1 : kd h d = 0) (f2 : kd h (d + 1) = 0) : ∃ h', f_X3_init c h = kret () h' ∧ kAg (fun a _ => a = c ∨ a = d ∨ a = d + 1 ∨ a = d + 1000000 ∨ a = d + 1 + 1000000) h h' ∧ kd h' d = 26 ∧ kn h' d = 60 ∧ kd h' (d + 1) = 23 ∧ kn h' (d + 1) = 60 ∧ kR h' c 0 = some d ∧ kR h' c 1 = some (d + 1) ∧ kI h' c 2 = 0 := by
  subst hx
  have n1 : kx h ≠ c := fun e => by rw [e, k] at f1; cases f1
  have n2 : kx h + 1 ≠ c := fun e => by rw [e, k] at f2; cases f2
  have k1 : kd (al h 26 60) c = 4 := by rw [kd_al, if_neg (fun z => n1 z.symm)]; exact k
  have g2 : kd (sR (al h 26 60) c 0 (some (kx h))) (kx (sR (al h 26 60) c 0 (some (kx h)))) = 0 := by
    show (if kx h + 1 = kx h then 26 else kd h (kx h + 1)) = 0
    rw [if_neg (by omega)]
    exact f2
  have k2 : kd (al (sR (al h 26 60) c 0 (some (kx h))) 23 60) c = 4 := by
    show (if c = kx h + 1 then 23 else kd (al h 26 60) c) = 4
    rw [if_neg (fun z => n2 z.symm)]
    exact k1
  have a1 := (kAg.al h 26 60 f1).sub (F := fun a _ => a = c ∨ a = kx h ∨ a = kx h + 1 ∨ a = kx h + 1000000 ∨ a = kx h + 1 + 1000000) (fun a k z => by omega)
  have a2 := a1.trans (F := fun a _ => a = c ∨ a = kx h ∨ a = kx h + 1 ∨ a = kx h + 1000000 ∨ a = kx h + 1 + 1000000) (kAg.R (al h 26 60) c 0 (some (kx h))) (fun a k q => q) (fun a k q z => q (by omega))
  have a3 := a2.trans (F := fun a _ => a = c ∨ a = kx h ∨ a = kx h + 1 ∨ a = kx h + 1000000 ∨ a = kx h + 1 + 1000000) (kAg.al (sR (al h 26 60) c 0 (some (kx h))) 23 60 g2) (fun a k q => q) (fun a k q z => q (by
    have : kx (sR (al h 26 60) c 0 (some (kx h))) = kx h + 1 := rfl
    omega))
  have a4 := a3.trans (F := fun a _ => a = c ∨ a = kx h ∨ a = kx h + 1 ∨ a = kx h + 1000000 ∨ a = kx h + 1 + 1000000) (kAg.R (al (sR (al h 26 60) c 0 (some (kx h))) 23 60) c 1 (some (kx h + 1))) (fun a k q => q) (fun a k q z => q (by omega))
  have a5 := a4.trans (F := fun a _ => a = c ∨ a = kx h ∨ a = kx h + 1 ∨ a = kx h + 1000000 ∨ a = kx h + 1 + 1000000) (kAg.I (sR (al (sR (al h 26 60) c 0 (some (kx h))) 23 60) c 1 (some (kx h + 1))) c 2 0) (fun a k q => q) (fun a k q z => q (by omega))
  refine ⟨_, ?_, a5, ?_, ?_, ?_, ?_, ?_, ?_, ?_⟩
  · unfold f_X3_init
    rw [nw_k f1, pR_k k1, nw_k g2, pR_k k2, pI_k (show kd (sR (al (sR (al h 26 60) c 0 (some (kx h))) 23 60) c 1 (some (kx (sR (al h 26 60) c 0 (some (kx h)))))) c = 4 from k2)]
    rfl
  · show (if kx h = kx h + 1 then 23 else if kx h = kx h then 26 else kd h (kx h)) = 26
    rw [if_neg (by omega), if_pos rfl]
  · show (if kx h = kx h + 1 then 60 else if kx h = kx h then 60 else kn h (kx h)) = 60
    rw [if_neg (by omega), if_pos rfl]
  · exact if_pos rfl
  · exact if_pos rfl
  · rw [kR_sI, kR_sR, if_neg (by omega), kR_al, if_neg (fun z => n2 z.symm), kR_sR, if_pos ⟨rfl, rfl⟩]
  · rw [kR_sI, kR_sR, if_pos ⟨rfl, rfl⟩]
  · rw [kI_sI, if_pos ⟨rfl, rfl⟩]
theorem x4_init {h : KH} {b c t ho : Nat} {pn its : Int32} (hx : kx h = c) (k : kd h b = 5) (f0 : kd h c = 0) (f1 : kd h (c + 1) = 0) (f2 : kd h (c + 2) = 0) : ∃ h', f_X4_init b pn t its ho h = kret () h' ∧ kAg (fun a _ => a = b ∨ c ≤ a ∧ a ≤ c + 2 ∨ c + 1000000 ≤ a ∧ a ≤ c + 1000002) h h' ∧ (kd h' b = 5 ∧ kd h' c = 4 ∧ kd h' (c + 1) = 26 ∧ kn h' (c + 1) = 60 ∧ kd h' (c + 2) = 23 ∧ kn h' (c + 2) = 60) ∧ (kR h' c 0 = some (c + 1) ∧ kR h' c 1 = some (c + 2) ∧ kI h' c 2 = 0) ∧ kR h' b 3 = some c ∧ kI h' b 0 = pn ∧ kR h' b 1 = some t ∧ kI h' b 2 = its ∧ kR h' b 4 = some ho := by
  subst hx
  have n0 : kx h ≠ b := fun e => by rw [e, k] at f0; cases f0
  have n1 : kx h + 1 ≠ b := fun e => by rw [e, k] at f1; cases f1
  have n2 : kx h + 2 ≠ b := fun e => by rw [e, k] at f2; cases f2
  have a1 := kAg.al h 4 0 f0
  obtain ⟨h2, e1, e2, e3, e4, e5, e6, e7, e8, e9⟩ := x3_init (h := al h 4 0) (c := kx h) (d := kx h + 1) (by rw [kd_al, if_pos rfl]) rfl (by rw [kd_al, if_neg (by omega)]; exact f1) (by rw [kd_al, if_neg (by omega)]; exact f2)
  have kc : kd h2 (kx h) = 4 := by rw [(e2.k (kx h) (by rw [kd_al, if_pos rfl]; decide)).1, kd_al, if_pos rfl]
  have a2 := a1.trans (F := fun a _ => a = b ∨ kx h ≤ a ∧ a ≤ kx h + 2 ∨ kx h + 1000000 ≤ a ∧ a ≤ kx h + 1000002) e2 (fun a k q z => q (by omega)) (fun a k q z => q (by omega))
  have kb : kd h2 b = 5 := by rw [(a2.k b (by rw [k]; decide)).1, k]
  have a3 : kAg (fun a _ => a = b) h2 (sR (sI (sR (sI (sR h2 b 3 (some (kx h))) b 0 pn) b 1 (some t)) b 2 its) b 4 (some ho)) := ((((kAg.R h2 b 3 (some (kx h))).trans (F := fun a _ => a = b) (kAg.I _ b 0 pn) (fun a k q z => q z.1) (fun a k q z => q z.1)).trans (F := fun a _ => a = b) (kAg.R _ b 1 (some t)) (fun a k q => q) (fun a k q z => q z.1)).trans (F := fun a _ => a = b) (kAg.I _ b 2 its) (fun a k q => q) (fun a k q z => q z.1)).trans (F := fun a _ => a = b) (kAg.R _ b 4 (some ho)) (fun a k q => q) (fun a k q z => q z.1)
  refine ⟨_, ?_, a2.trans a3 (fun a k q => q) (fun a k q z => q (Or.inl z)), ⟨?_, ?_, ?_, ?_, ?_, ?_⟩, ⟨?_, ?_, ?_⟩, ?_, ?_, ?_, ?_, ?_⟩
  · unfold f_X4_init
    rw [nw_k f0, e1, ki_ret]
    simp only [pI, pR, kd_sI, kd_sR, kb, if_true]
  · exact kb
  · exact kc
  · exact e3
  · exact e4
  · exact e5
  · exact e6
  · rw [(a3.1 (kx h) 0 n0).2.2]; exact e7
  · rw [(a3.1 (kx h) 1 n0).2.2]; exact e8
  · rw [(a3.1 (kx h) 2 n0).1]; exact e9
  · rw [kR_sR, if_neg (by omega), kR_sI, kR_sR, if_neg (by omega), kR_sI, kR_sR, if_pos ⟨rfl, rfl⟩]
  · rw [kI_sR, kI_sI, if_neg (by omega), kI_sR, kI_sI, if_pos ⟨rfl, rfl⟩]
  · rw [kR_sR, if_neg (by omega), kR_sI, kR_sR, if_pos ⟨rfl, rfl⟩]
  · rw [kI_sR, kI_sI, if_pos ⟨rfl, rfl⟩]
  · rw [kR_sR, if_pos ⟨rfl, rfl⟩]
/-! register: the model's -/
theorem tm_regL {n P n' : Nat} {d its m : Int32} (hn : n ≤ 6) (hP : P < 10) (hn' : n' < 700) : ∀ (f i : Nat) (h : KH), kSm h → kI h 0 5 = nI n → kI h 0 8 = nI P → kI h 0 12 = nI n' → kI h 0 0 = m → i ≤ n → n < i + f → ∃ h', X10_register_L83 f 0 d its (nI i) h = kret (nI P) h' ∧ kAg (fun a k => a = 7 ∧ 6 * P + i ≤ k ∧ k < 6 * P + n ∨ a = 8 ∧ k = P ∨ (a = 9 ∨ a = 10 ∨ a = 11) ∧ k = n' ∨ a = 0 ∧ (k = 12 ∨ k = 8)) h h' ∧ kI h' 0 8 = nI (P + 1) ∧ kI h' 8 P = its ∧ kI h' 0 12 = nI (n' + 1) ∧ kI h' 9 n' = nI P ∧ kI h' 10 n' = d ∧ kI h' 11 n' = m ∧ ∀ k, i ≤ k → k < n → kI h' 7 (6 * P + k) = kI h 4 k := by
  intro f
  induction f with
  | zero => intro i h _ _ _ _ _ h1 h2; omega
  | succ f ih =>
    intro i h T e5 e8 e12 e0 h1 h2
    unfold X10_register_L83 X10_register_b83
    rw [gI_k T.d0, e5]
    by_cases hi : n ≤ i
    · have T1 : kSm (sI h 8 P its) := T.fr (kAg.I h 8 P its) (fun a k q z => by omega)
      have g12 : kI (sI h 8 P its) 0 12 = nI n' := by rw [kI_sI, if_neg (by omega)]; exact e12
      have g0 : kI (sI h 8 P its) 0 0 = m := by rw [kI_sI, if_neg (by omega)]; exact e0
      have g8 : kI (sI h 8 P its) 0 8 = nI P := by rw [kI_sI, if_neg (by omega)]; exact e8
      have agH := mHolds_ag (sI h 8 P its) (nI P) d m n'
      have T2 : kSm (mHolds (sI h 8 P its) (nI P) d m n') := T1.fr agH (fun a k q z => by omega)
      have g8' : kI (mHolds (sI h 8 P its) (nI P) d m n') 0 8 = nI P := by rw [(agH.1 0 8 (by omega)).1]; exact g8
      refine ⟨sI (mHolds (sI h 8 P its) (nI P) d m n') 0 8 (nI (P + 1)), ?_, ?_, ?_, ?_, ?_, ?_, ?_, ?_, fun k q1 q2 => by omega⟩
      · rw [kif_t (by rw [ka_le (by omega) (by omega)]; exact hi), gN_k T.d0 T.r11, gI_k T.d0, e8, pAI_k T.d8 (by rw [T.n8]; omega) (by omega), gI_k T1.d0, g8, kV_k T1.d0, tm_holds T1 g12 g0 hn', kb_ret, gI_k T2.d0, g8', pI_k T2.d0, gI_k (show kd (sI (mHolds (sI h 8 P its) (nI P) d m n') 0 8 (nI P + 1)) 0 = 11 by rw [kd_sI]; exact T2.d0), kI_sI, if_pos ⟨rfl, rfl⟩, nI_1, ka_pred (by omega), Nat.add_sub_cancel]
      · exact ((kAg.I h 8 P its).trans (F := fun a k => a = 7 ∧ 6 * P + i ≤ k ∧ k < 6 * P + n ∨ a = 8 ∧ k = P ∨ (a = 9 ∨ a = 10 ∨ a = 11) ∧ k = n' ∨ a = 0 ∧ (k = 12 ∨ k = 8)) agH (fun a k q z => q (by omega)) (fun a k q z => q (by omega))).trans (kAg.I _ 0 8 _) (fun a k q => q) (fun a k q z => q (by omega))
      · rw [kI_sI, if_pos ⟨rfl, rfl⟩]
      · rw [kI_sI, if_neg (by omega), (agH.1 8 P (by omega)).1, kI_sI, if_pos ⟨rfl, rfl⟩]
      · rw [kI_sI, if_neg (by omega)]
        unfold mHolds
        rw [kI_sI, if_pos ⟨rfl, rfl⟩]
      · rw [kI_sI, if_neg (by omega)]
        unfold mHolds
        rw [kI_sI, if_neg (by omega), kI_sI, if_neg (by omega), kI_sI, if_neg (by omega), kI_sI, if_pos ⟨rfl, rfl⟩]
      · rw [kI_sI, if_neg (by omega)]
        unfold mHolds
        rw [kI_sI, if_neg (by omega), kI_sI, if_neg (by omega), kI_sI, if_pos ⟨rfl, rfl⟩]
      · rw [kI_sI, if_neg (by omega)]
        unfold mHolds
        rw [kI_sI, if_neg (by omega), kI_sI, if_pos ⟨rfl, rfl⟩]
    · have ag1 := kAg.I h 7 (6 * P + i) (kI h 4 i)
      rw [kif_f (by rw [ka_le (by omega) (by omega)]; exact hi), gN_k T.d0 T.r10, gI_k T.d0, e8, gN_k T.d0 T.r6, gAI_k T.d4 (by rw [T.n4]; omega) (by omega), mc_idx6, pAI_k T.d7 (by rw [T.n7]; omega) (by omega), nI_1]
      obtain ⟨h', f1, f2, f3, f4, f5, f6, f7, f8, f9⟩ := ih (i + 1) (sI h 7 (6 * P + i) (kI h 4 i)) (T.fr ag1 (fun a k q z => by omega)) e5 e8 e12 e0 (by omega) (by omega)
      refine ⟨h', f1, ag1.trans f2 (fun a k q z => q (by omega)) (fun a k q z => q (by omega)), f3, f4, f5, f6, f7, f8, fun k q1 q2 => ?_⟩
      by_cases hki : k = i
      · rw [hki, (f2.1 7 (6 * P + i) (by omega)).1, kI_sI, if_pos ⟨rfl, rfl⟩]
      · rw [f9 k (by omega) q2, kI_sI, if_neg (by omega)]
theorem tm_reg {h : KH} {n P n' : Nat} {d its m : Int32} (T : kSm h) (hn : n ≤ 6) (hP : P < 10) (hn' : n' < 700) (e5 : kI h 0 5 = nI n) (e8 : kI h 0 8 = nI P) (e12 : kI h 0 12 = nI n') (e0 : kI h 0 0 = m) : ∃ h', X10_register_b59 0 d its 0 0 h = kret (nI P) h' ∧ kAg (fun a k => a = 6 ∧ k = P ∨ a = 7 ∧ 6 * P ≤ k ∧ k < 6 * P + 6 ∨ a = 8 ∧ k = P ∨ (a = 9 ∨ a = 10 ∨ a = 11) ∧ k = n' ∨ a = 0 ∧ (k = 12 ∨ k = 8)) (sI h 0 35 0) h' ∧ kI h' 0 8 = nI (P + 1) ∧ kI h' 8 P = its ∧ kI h' 0 12 = nI (n' + 1) ∧ kI h' 9 n' = nI P ∧ kI h' 10 n' = d ∧ kI h' 11 n' = m ∧ kI h' 6 P = nI n ∧ ∀ k, k < n → kI h' 7 (6 * P + k) = kI h 4 k := by
  have T1 := T.thr 0
  have T2 : kSm (sI (sI h 0 35 0) 6 P (nI n)) := T1.fr (kAg.I _ 6 P (nI n)) (fun a k q z => by omega)
  obtain ⟨h', f1, f2, f3, f4, f5, f6, f7, f8, f9⟩ := tm_regL (d := d) (its := its) (m := m) hn hP hn' kF 0 (sI (sI h 0 35 0) 6 P (nI n)) T2 e5 e8 e12 e0 (by omega) (by unfold kF; omega)
  refine ⟨h', ?_, (kAg.I (sI h 0 35 0) 6 P (nI n)).trans f2 (fun a k q z => q (by omega)) (fun a k q z => q (by omega)), f3, f4, f5, f6, f7, f8, ?_, fun k hk => ?_⟩
  · unfold X10_register_b59
    rw [kV_k T.d0, can_0 T, kb_ret, kif_f (by decide), gN_k T1.d0 T1.r9, gI_k T1.d0, show kI (sI h 0 35 0) 0 8 = nI P from e8, gI_k T1.d0, show kI (sI h 0 35 0) 0 5 = nI n from e5, pAI_k T1.d6 (by rw [T1.n6]; omega) (by omega)]
    exact f1
  · rw [(f2.1 6 P (by omega)).1, kI_sI, if_pos ⟨rfl, rfl⟩]
  · rw [f9 k (by omega) hk, kI_sI, if_neg (by omega), kI_sI, if_neg (by omega)]
end
section
def DP (P a k : Nat) : Prop := (100 + 8 * P ≤ a ∧ a ≤ 106 + 8 * P) ∨ (1000100 + 8 * P ≤ a ∧ a ≤ 1000106 + 8 * P) ∨ a = 26 ∧ k = P
theorem x_reg {h hm : KH} {n P d c M : Nat} {X : Nat → Nat} (K : kCx h hm) (hPm : mn hm 0 8 = P) (hx : kx h = 100 + 8 * P) (hf : ∀ a, 100 + 8 * P ≤ a → a ≤ 106 + 8 * P → kd h a = 0) (n1 : 1 ≤ n) (n2 : n ≤ 6) (e22 : kI h 22 1 = nI n) (hX : ∀ k, k < n → X k < 15 ∧ kI h 23 k = nI (X k)) (hq : ∀ k, k < n → X k ≠ 14) (ht : ∀ q, q < P → ¬ eqT (mn hm) X n q) (hP : P < 10) (e12 : kI h 0 12 = nI M) (q1 : ¬ nI d < 0) (q2 : ¬ 5 < nI d) (q3 : ¬ nI c < 0) (q4 : ¬ 3 < nI c) : ∃ h4, f_X9_register 0 (nI d) (nI c) h = kcallV 10 0 h4 (f_X9_putInOrder 0 (100 + 8 * P) h4) (fun _ h11 => gI h11 0 10 13 (fun x8 => pI h11 0 10 13 (x8 + 1) (fun h12 => kcallV 10 0 h12 (f_X9_leadAllBack 0 h12) (fun _ h13 => gI h13 (100 + 8 * P) 5 0 (fun x9 => kret x9 h13))))) ∧ kAg (DP P) h h4 ∧
    (kd h4 (100 + 8 * P) = 5 ∧ kd h4 (101 + 8 * P) = 8 ∧ kd h4 (102 + 8 * P) = 21 ∧ kn h4 (102 + 8 * P) = 6 ∧ kd h4 (104 + 8 * P) = 4 ∧ kd h4 (105 + 8 * P) = 26 ∧ kn h4 (105 + 8 * P) = 60 ∧ kd h4 (106 + 8 * P) = 23 ∧ kn h4 (106 + 8 * P) = 60) ∧
    (kR h4 26 P = some (100 + 8 * P) ∧ kR h4 (100 + 8 * P) 1 = some (101 + 8 * P) ∧ kR h4 (101 + 8 * P) 0 = some (102 + 8 * P) ∧ kR h4 (100 + 8 * P) 3 = some (104 + 8 * P) ∧ kR h4 (104 + 8 * P) 0 = some (105 + 8 * P) ∧ kR h4 (104 + 8 * P) 1 = some (106 + 8 * P)) ∧
    kI h4 (100 + 8 * P) 0 = nI P ∧ kI h4 (101 + 8 * P) 1 = nI n ∧ (∀ k, k < n → kI h4 (102 + 8 * P) k = kI h 23 k) ∧ kI h4 (100 + 8 * P) 2 = nI c ∧ kI h4 (104 + 8 * P) 2 = 0 ∧ kR h4 (100 + 8 * P) 4 = some (103 + 8 * P) ∧ (kd h4 (103 + 8 * P) = 2 ∧ kI h4 (103 + 8 * P) 0 = nI d ∧ kI h4 (103 + 8 * P) 1 = nI M ∧ kR h4 (103 + 8 * P) 2 = none) := by
  have S := K.1.1
  have f0 := hf (100 + 8 * P) (by omega) (by omega)
  have ag0 : kAg (DP P) h (al h 5 0) := (kAg.al h 5 0 (by rw [hx]; exact f0)).sub (fun a k z => by rw [hx] at z; unfold DP; omega)
  have S1 : kSx (al h 5 0) := S.fr ag0 (fun a k z1 z2 => by unfold DP at z2; omega)
  have c0 : kd (al h 5 0) (100 + 8 * P) = 5 := by rw [kd_al, hx, if_pos rfl]
  have hI : ∀ a k, a < 100 → kI (al h 5 0) a k = kI h a k := fun a k ha => by rw [kI_al, hx, if_neg (by omega)]
  have hfA : ∀ a, 101 + 8 * P ≤ a → a ≤ 106 + 8 * P → kd (al h 5 0) a = 0 := fun a h1 h2 => by
    rw [kd_al, hx, if_neg (by omega)]
    exact hf a (by omega) (by omega)
  obtain ⟨hB, b1, b2, b3, b4, b5, b6, b7, b8, b9⟩ := x7_copy (h := al h 5 0) (t := 22) (s := 23) (c := 101 + 8 * P) n2 S1.d22 S1.r22_0 S1.d23 S1.n23 (by rw [hI 22 1 (by omega)]; exact e22) (by rw [kx_al, hx]; omega) (hfA _ (by omega) (by omega)) (hfA _ (by omega) (by omega))
  have agB : kAg (DP P) (al h 5 0) hB := b2.sub (fun a k z => by unfold DP; omega)
  have ag0B := ag0.trans agB (fun a k q => q) (fun a k q => q)
  have SB : kSx hB := S.fr ag0B (fun a k z1 z2 => by unfold DP at z2; omega)
  have hfB : ∀ a, 103 + 8 * P ≤ a → a ≤ 106 + 8 * P → kd hB a = 0 := fun a h1 h2 => by
    rw [(b2.2 a (Or.inr (by omega))).1]
    exact hfA a (by omega) h2
  have kxB : kx hB = 103 + 8 * P := by rw [b3]; omega
  have agC : kAg (fun a _ => a = 103 + 8 * P ∨ a = 103 + 8 * P + 1000000) hB (al hB 2 0) := (kAg.al hB 2 0 (by rw [kxB]; exact hfB _ (by omega) (by omega))).sub (fun a k z => by rw [kxB] at z; exact z)
  have kC : kd (al hB 2 0) (103 + 8 * P) = 2 := by rw [kd_al, kxB, if_pos rfl]
  have SC : kSx (al hB 2 0) := SB.fr agC (fun a k z1 z2 => by omega)
  have eC12 : kI (al hB 2 0) 0 12 = nI M := by
    rw [(agC.1 0 12 (by omega)).1, (b2.1 0 12 (by omega)).1, hI 0 12 (by omega)]
    exact e12
  obtain ⟨hD, eD⟩ : ∃ hD, hD = sR (sI (sI (al hB 2 0) (103 + 8 * P) 0 (nI d)) (103 + 8 * P) 1 (nI M)) (103 + 8 * P) 2 none := ⟨_, rfl⟩
  have agD : kAg (fun a _ => a = 103 + 8 * P) (al hB 2 0) hD := by
    rw [eD]
    exact ((kAg.I (al hB 2 0) (103 + 8 * P) 0 _).trans (F := fun a _ => a = 103 + 8 * P) (kAg.I _ (103 + 8 * P) 1 _) (fun a k q z => q z.1) (fun a k q z => q z.1)).trans (kAg.R _ (103 + 8 * P) 2 none) (fun a k q => q) (fun a k q z => q z.1)
  have kxD : kx hD = 104 + 8 * P := by
    rw [eD]
    show kx hB + 1 = _
    omega
  have hfD : ∀ a, 104 + 8 * P ≤ a → a ≤ 106 + 8 * P → kd hD a = 0 := fun a h1 h2 => by
    rw [(agD.2 a (Or.inr (by omega))).1, kd_al, kxB, if_neg (by omega)]
    exact hfB a (by omega) h2
  have kD0 : kd hD (100 + 8 * P) = 5 := by
    rw [(agD.k _ (by rw [kd_al, kxB, if_neg (by omega), (b2.k _ (by rw [c0]; decide)).1, c0]; decide)).1, kd_al, kxB, if_neg (by omega), (b2.k _ (by rw [c0]; decide)).1, c0]
  obtain ⟨hE, y1, y2, ⟨y3, y4, y5, y6, y7, y8⟩, ⟨y9, y10, y11⟩, y12, y13, y14, y15, y16⟩ := x4_init (h := hD) (b := 100 + 8 * P) (c := 104 + 8 * P) (t := 101 + 8 * P) (ho := 103 + 8 * P) (pn := nI P) (its := nI c) kxD kD0 (hfD _ (by omega) (by omega)) (hfD _ (by omega) (by omega)) (hfD _ (by omega) (by omega))
  have agCD : kAg (fun a _ => a = 103 + 8 * P ∨ a = 103 + 8 * P + 1000000) hB hD := agC.trans agD (fun a k q => q) (fun a k q z => q (Or.inl z))
  have agBE : kAg (fun a _ => a = 100 + 8 * P ∨ 103 + 8 * P ≤ a ∧ a ≤ 106 + 8 * P ∨ 1000103 + 8 * P ≤ a ∧ a ≤ 1000106 + 8 * P) hB hE := agCD.trans y2 (fun a k q z => q (by omega)) (fun a k q z => q (by omega))
  have agE : kAg (DP P) hB hE := agBE.sub (fun a k z => by unfold DP; omega)
  have SE : kSx hE := SB.fr agE (fun a k z1 z2 => by unfold DP at z2; omega)
  have hP1 := K.P
  rw [hPm] at hP1
  have eE13 : kI hE 0 13 = nI P := by
    rw [(agBE.1 0 13 (by omega)).1, (b2.1 0 13 (by omega)).1, hI 0 13 (by omega)]
    exact hP1.1
  have agF : kAg (fun a k => a = 26 ∧ k = P) hE (sR hE 26 P (some (100 + 8 * P))) := kAg.R _ _ _ _
  have agBF : kAg (fun a k => (a = 100 + 8 * P ∨ 103 + 8 * P ≤ a ∧ a ≤ 106 + 8 * P ∨ 1000103 + 8 * P ≤ a ∧ a ≤ 1000106 + 8 * P) ∨ a = 26 ∧ k = P) hB (sR hE 26 P (some (100 + 8 * P))) := agBE.trans agF (fun a k q z => q (Or.inl z)) (fun a k q z => q (Or.inr z))
  have agT : kAg (DP P) h (sR hE 26 P (some (100 + 8 * P))) := (ag0B.trans agE (fun a k q => q) (fun a k q => q)).trans agF (fun a k q => q) (fun a k q z => q (Or.inr (Or.inr z)))
  obtain ⟨v1, g1, g2⟩ := x7_hasQL (h := h) (t := 22) (s := 23) (X := X) S.d22 S.r22_0 S.d23 S.n23 e22 n2 hX kF 0 (by omega) (by unfold kF; omega)
  have v10 : v1 = 0 := by
    rcases g2 with z | ⟨-, k, hk, z⟩
    · exact z.1
    · exact absurd z (hq k hk)
  obtain ⟨v2, g3, g4⟩ := K.tkL (X := X) e22 n2 hX kF 0 (by omega) (by rw [hPm]; unfold kF; omega) (fun q hq => by omega)
  have v20 : v2 = 0 := by
    rcases g4 with ⟨-, q, hq, z⟩ | z
    · exact absurd z (ht q (by omega))
    · exact z.1
  have i103 : ∀ k, kI hE (103 + 8 * P) k = kI hD (103 + 8 * P) k ∧ kR hE (103 + 8 * P) k = kR hD (103 + 8 * P) k := fun k => ⟨(y2.1 _ k (by omega)).1, (y2.1 _ k (by omega)).2.2⟩
  refine ⟨sR hE 26 P (some (100 + 8 * P)), ?_, agT, ⟨y3, ?_, ?_, ?_, y4, ?_, ?_, ?_, ?_⟩, ⟨?_, ?_, ?_, ?_, ?_, ?_⟩, y13, ?_, fun k hk => ?_, y15, y11, ?_, ?_, ?_, ?_, ?_⟩
  · have hcls : f_X9_requireClass (nI c) h = kret () h := by
      unfold f_X9_requireClass
      rw [wi_t q3 q4, kb_ret, kif_f (by decide)]
    unfold f_X9_register
    rw [rdr_t q1 q2, kb_ret, hcls, kb_ret, gN_k S.d0 S.r0_2, gI_k S.d22, e22, kif_f (by rw [show (0 : Int32) = nI 0 from rfl, ka_eq (by omega) (by omega)]; omega), gN_k S.d0 S.r0_2, kV_k S.d22]
    rw [show f_X7_hasQuestionMark 22 h = kret v1 h from g1, kb_ret, kif_t v10, gN_k S.d0 S.r0_2, kV_k S.d0, show f_X9_isTaken 0 22 h = kret v2 h from g3, kb_ret, kif_t v20, gI_k S.d0, hP1.1, kif_t (by rw [show (10 : Int32) = nI 10 from rfl, ka_lt (by omega) (by omega)]; exact hP), nw_k (by rw [hx]; exact f0), hx]
    rw [gI_k S1.d0, hI 0 13 (by omega), hP1.1, gN_k S1.d0 S1.r0_2, kV_k S1.d22, b1, kb_ret, nw_k (by rw [kxB]; exact hfB _ (by omega) (by omega)), gI_k SC.d0, eC12, kxB, x1_init kC, ki_ret, ← eD, y1, ki_ret, gN_k SE.d0 SE.r0_4, gI_k SE.d0, eE13, pAN_k SE.d26 (by rw [SE.n26]; omega) (by omega) y3]
  · rw [kd_sR, (agBE.k _ (by rw [b4]; decide)).1, b4]
  · rw [kd_sR, show 102 + 8 * P = 101 + 8 * P + 1 by omega, (agBE.k _ (by rw [b5]; decide)).1, b5]
  · rw [kn_sR, show 102 + 8 * P = 101 + 8 * P + 1 by omega, (agBE.k _ (by rw [b5]; decide)).2, b6]
  · rw [kd_sR, show 105 + 8 * P = 104 + 8 * P + 1 by omega]; exact y5
  · rw [kn_sR, show 105 + 8 * P = 104 + 8 * P + 1 by omega]; exact y6
  · rw [kd_sR, show 106 + 8 * P = 104 + 8 * P + 2 by omega]; exact y7
  · rw [kn_sR, show 106 + 8 * P = 104 + 8 * P + 2 by omega]; exact y8
  · rw [kR_sR, if_pos ⟨rfl, rfl⟩]
  · rw [kR_sR, if_neg (by omega)]; exact y14
  · rw [(agBF.1 (101 + 8 * P) 0 (by omega)).2.2, b7, show 102 + 8 * P = 101 + 8 * P + 1 by omega]
  · rw [kR_sR, if_neg (by omega)]; exact y12
  · rw [kR_sR, if_neg (by omega), y9, show 105 + 8 * P = 104 + 8 * P + 1 by omega]
  · rw [kR_sR, if_neg (by omega), y10, show 106 + 8 * P = 104 + 8 * P + 2 by omega]
  · rw [(agBF.1 (101 + 8 * P) 1 (by omega)).1, b8]
  · rw [(agBF.1 (102 + 8 * P) k (by omega)).1, show 102 + 8 * P = 101 + 8 * P + 1 by omega, b9 k hk, hI 23 k (by omega)]
  · rw [kR_sR, if_neg (by omega)]; exact y16
  · rw [kd_sR, (y2.k (103 + 8 * P) (by rw [eD]; show kd (al hB 2 0) (103 + 8 * P) ≠ 0; rw [kC]; decide)).1, eD]
    exact kC
  · rw [kI_sR, (i103 0).1, eD, kI_sR, kI_sI, if_neg (by omega), kI_sI, if_pos ⟨rfl, rfl⟩]
  · rw [kI_sR, (i103 1).1, eD, kI_sR, kI_sI, if_pos ⟨rfl, rfl⟩]
  · rw [kR_sR, if_neg (by omega), (i103 2).2, eD, kR_sR, if_pos ⟨rfl, rfl⟩]
end
section
theorem cPl1.fr {hx hm hx' hm' : KH} {p : Nat} {D E : Nat → Nat → Prop} (c : cPl1 hx hm p) (ag : kAg D hx hx') (am : kAg E hm hm') (hD : ∀ a k, a = 100 + 8 * p ∧ k ≠ 4 ∨ a = 101 + 8 * p ∨ a = 102 + 8 * p ∨ a = 104 + 8 * p ∧ k < 2 ∨ a = 26 ∧ k = p → ¬ D a k) (hE : ∀ a k, (a = 6 ∨ a = 8) ∧ k = p ∨ a = 7 ∧ 6 * p ≤ k ∧ k < 6 * p + 6 → ¬ E a k) : cPl1 hx' hm' p := by
  obtain ⟨⟨d1, d2, d3, d4, d5, d6, d7, d8, d9⟩, ⟨e1, e2, e3, e4, e5, e6⟩, f1, ⟨n, g1, g2, g3, g4, g5⟩, c, i1, i2, i3⟩ := c
  have k1 := ag.k (100 + 8 * p) (by rw [d1]; decide)
  have k2 := ag.k (101 + 8 * p) (by rw [d2]; decide)
  have k3 := ag.k (102 + 8 * p) (by rw [d3]; decide)
  have k4 := ag.k (104 + 8 * p) (by rw [d5]; decide)
  have k5 := ag.k (105 + 8 * p) (by rw [d6]; decide)
  have k6 := ag.k (106 + 8 * p) (by rw [d8]; decide)
  refine ⟨⟨by rw [k1.1, d1], by rw [k2.1, d2], by rw [k3.1, d3], by rw [k3.2, d4], by rw [k4.1, d5], by rw [k5.1, d6], by rw [k5.2, d7], by rw [k6.1, d8], by rw [k6.2, d9]⟩, ⟨by rw [(ag.1 _ _ (hD 26 p (by omega))).2.2, e1], by rw [(ag.1 _ _ (hD (100 + 8 * p) 1 (by omega))).2.2, e2], by rw [(ag.1 _ _ (hD (101 + 8 * p) 0 (by omega))).2.2, e3], by rw [(ag.1 _ _ (hD (100 + 8 * p) 3 (by omega))).2.2, e4], by rw [(ag.1 _ _ (hD (104 + 8 * p) 0 (by omega))).2.2, e5], by rw [(ag.1 _ _ (hD (104 + 8 * p) 1 (by omega))).2.2, e6]⟩, by rw [(ag.1 _ _ (hD (100 + 8 * p) 0 (by omega))).1, f1], ⟨n, g1, g2, by rw [(ag.1 _ _ (hD (101 + 8 * p) 1 (by omega))).1, g3], by rw [(am.1 _ _ (hE 6 p (by omega))).1, g4], fun k hk => by rw [(ag.1 _ _ (hD (102 + 8 * p) k (by omega))).1, (am.1 _ _ (hE 7 (6 * p + k) (by omega))).1]; exact g5 k hk⟩, c, i1, by rw [(ag.1 _ _ (hD (100 + 8 * p) 2 (by omega))).1, i2], by rw [(am.1 _ _ (hE 8 p (by omega))).1, i3]⟩
theorem sTl_cgr {m m' : Nat → Nat → Nat} {p : Nat} (h6 : m' 6 p = m 6 p) (h7 : ∀ k, k < m 6 p → m' 7 (6 * p + k) = m 7 (6 * p + k)) : sTl m' p = sTl m p := by
  apply List.ext_getElem
  · rw [sTl_len, sTl_len, h6]
  · intro k h1 h2
    rw [← gD_get h1, ← gD_get h2]
    rw [sTl_len] at h1 h2
    rw [sTl_at _ _ _ h1, sTl_at _ _ _ h2, h6, h7 _ (by omega)]
theorem sTl_inj {m : Nat → Nat → Nat} {p q : Nat} (e : sTl m p = sTl m q) : m 6 p = m 6 q ∧ ∀ k, k < m 6 p → m 7 (6 * p + k) = m 7 (6 * q + k) := by
  have hl : m 6 p = m 6 q := by rw [← sTl_len m p, ← sTl_len m q, e]
  refine ⟨hl, fun k hk => ?_⟩
  have h1 := sTl_at m p (m 6 p - 1 - k) (by omega)
  have h2 := sTl_at m q (m 6 p - 1 - k) (by omega)
  rw [e] at h1
  rw [show m 6 p - 1 - (m 6 p - 1 - k) = k by omega] at h1
  rw [show m 6 q - 1 - (m 6 p - 1 - k) = k by omega] at h2
  exact h1.symm.trans h2
theorem cHol.reg {j n d M : Nat} {hx hm hx' hm' : KH} {D : Nat → Nat → Prop} (c : cHol j hx hm) (hn : kI hm 0 12 = nI n) (hnb : n < 2147483648) (hP : mn hm 0 8 < 10) (hM : mn hm 0 0 = M) (hM2 : M ≤ 50000) (hd : d < 6) (hj : j < 512)
    (ag : kAg D hx hx') (hD : ∀ a k, a % 8 = 7 ∧ 100 ≤ a ∧ a < 180 ∧ a ≠ 103 + 8 * mn hm 0 8 ∨ 1000 ≤ a ∧ a < 2000 ∨ a % 8 = 4 ∧ 100 ≤ a ∧ a < 100 + 8 * mn hm 0 8 ∧ k = 4 → ¬ D a k) (hfr : kd hx (103 + 8 * mn hm 0 8) = 0)
    (n0 : kR hx' (100 + 8 * mn hm 0 8) 4 = some (103 + 8 * mn hm 0 8)) (n1 : kd hx' (103 + 8 * mn hm 0 8) = 2) (n2 : kI hx' (103 + 8 * mn hm 0 8) 0 = nI d) (n3 : kI hx' (103 + 8 * mn hm 0 8) 1 = nI M) (n4 : kR hx' (103 + 8 * mn hm 0 8) 2 = none)
    (m1 : kI hm' 0 12 = nI (n + 1)) (m2 : mn hm' 0 8 = mn hm 0 8 + 1) (m3 : kI hm' 0 0 = kI hm 0 0) (m4 : ∀ i k, (i = 9 ∨ i = 10 ∨ i = 11) → k ≠ n → kI hm' i k = kI hm i k) (m5 : kI hm' 9 n = nI (mn hm 0 8)) (m6 : kI hm' 10 n = nI d) (m7 : kI hm' 11 n = nI M) : cHol (j + 1) hx' hm' := by
  obtain ⟨n', c1, c2, c3, c4⟩ := c
  obtain rfl : n' = n := nI_inj (c2.symm.trans hn) (by omega) hnb
  have hch : ∀ (f : Nat) (o : Option Nat), xChn hx f o → xChn hx' f o ∧ ∀ m, xDrv hx' m f o = xDrv hx m f o := xDC_cg (fun b hb hd2 => by
    have hne : ¬ b = 103 + 8 * mn hm 0 8 := fun e => by rw [e, hfr] at hd2; cases hd2
    exact ⟨by rw [(ag.k b (by rw [hd2]; decide)).1]; exact hd2, fun k => (ag.1 b k (hD b k (by omega))).1, fun k => (ag.1 b k (hD b k (by omega))).2.2⟩)
  have hsh : ∀ q m, sHold hm' q m n' = sHold hm q m n' := fun q m => sHold_cgb n' (fun k hk => ⟨m4 9 k (by omega) (by omega), m4 10 k (by omega) (by omega), m4 11 k (by omega) (by omega)⟩)
  have hst : ∀ q m, sHold hm' q m (n' + 1) = if mn hm 0 8 = q ∧ M ≤ m then nI d else sHold hm q m n' := fun q m => by
    show (if _ then _ else _) = _
    rw [hsh, m6, show mn hm' 9 n' = mn hm 0 8 from mn_of m5 (by omega), show mn hm' 11 n' = M from mn_of m7 (by omega)]
  have hno : ∀ m, ∀ k, k ≤ n' → sHold hm (mn hm 0 8) m k = -1 := by
    intro m k
    induction k with
    | zero => intro _; rfl
    | succ k ih =>
      intro hk
      obtain ⟨⟨q, hq, eq⟩, -, -⟩ := c3 k (by omega)
      show (if _ then _ else _) = _
      rw [if_neg (by rw [mn_of eq (by omega)]; omega)]
      exact ih (by omega)
  refine ⟨n' + 1, by omega, m1, fun k hk => ?_, fun q hq => ?_⟩
  · rw [m2, mn_cg1 m3]
    by_cases hkn : k = n'
    · subst hkn
      exact ⟨⟨mn hm 0 8, by omega, m5⟩, ⟨d, hd, m6⟩, M, by omega, m7⟩
    · rw [m4 9 k (by omega) hkn, m4 10 k (by omega) hkn, m4 11 k (by omega) hkn]
      obtain ⟨⟨q, w1, w2⟩, w3, w4⟩ := c3 k (by omega)
      exact ⟨⟨q, by omega, w2⟩, w3, w4⟩
  · rw [m2] at hq
    by_cases hqp : q = mn hm 0 8
    · rw [hqp, n0]
      refine ⟨⟨_, rfl⟩, ⟨n1, by omega, ⟨M, hM2, n3⟩, ⟨d, hd, n2⟩, by rw [n4]; trivial⟩, fun m => ?_⟩
      rw [hst]
      show (if _ then _ else _) = _
      rw [show mn hx' (103 + 8 * mn hm 0 8) 1 = M from mn_of n3 (by omega), n2, n4]
      by_cases hMm : M ≤ m
      · rw [if_pos hMm, if_pos ⟨rfl, hMm⟩]
      · rw [if_neg hMm, if_neg (fun z => hMm z.2), hno m n' (Nat.le_refl _)]
        rfl
    · obtain ⟨c5, c6, c7⟩ := c4 q (by omega)
      have eR : kR hx' (100 + 8 * q) 4 = kR hx (100 + 8 * q) 4 := (ag.1 (100 + 8 * q) 4 (hD _ _ (by omega))).2.2
      obtain ⟨i1, i2⟩ := xChn_mono _ _ c6
      obtain ⟨g1, g2⟩ := hch _ _ i1
      rw [eR]
      refine ⟨c5, g1, fun m => ?_⟩
      rw [g2, i2, c7, hst, if_neg (fun z => hqp z.1.symm)]
theorem cWar.more {hx hm hx' hm' : KH} {D E : Nat → Nat → Prop} (c : cWar hx hm) (hP : mn hm 0 8 ≤ mn hm' 0 8) (ag : kAg D hx hx') (am : kAg E hm hm') (hD : ∀ a k, 500 ≤ a ∧ a < 508 ∨ a = 29 ∨ a = 0 ∧ k = 15 → ¬ D a k) (hE : ∀ a k, a = 22 ∨ a = 23 ∨ a = 24 ∨ a = 0 ∧ k = 27 → ¬ E a k) : cWar hx' hm' := by
  obtain ⟨⟨W, hW, c1, c2⟩, c3⟩ := c
  have hWm : mn hm 0 27 = W := mn_of c2 (by omega)
  have e27 := (am.1 0 27 (hE 0 27 (by omega))).1
  refine ⟨⟨W, hW, by rw [(ag.1 0 15 (hD 0 15 (by omega))).1]; exact c1, by rw [e27]; exact c2⟩, fun w hw => ?_⟩
  rw [mn_cg1 e27] at hw
  obtain ⟨d1, d2, d3, ⟨p, p1, p2, p3⟩, d4⟩ := c3 w hw
  refine ⟨by rw [(ag.k (500 + w) (by rw [d1]; decide)).1]; exact d1, by rw [(ag.1 29 w (hD _ _ (by omega))).2.2]; exact d2, by rw [(ag.1 (500 + w) 0 (hD _ _ (by omega))).1]; exact d3, ⟨p, by omega, by rw [(am.1 22 w (hE _ _ (by omega))).1]; exact p2, by rw [(ag.1 (500 + w) 1 (hD _ _ (by omega))).2.2]; exact p3⟩, ?_⟩
  rw [(ag.1 (500 + w) 2 (hD _ _ (by omega))).1, (ag.1 (500 + w) 3 (hD _ _ (by omega))).1, (am.1 23 w (hE _ _ (by omega))).1, (am.1 24 w (hE _ _ (by omega))).1]
  exact d4
end
section
theorem o_register : OPN (fun _ hm => 100 + 8 * mn hm 0 8) (fun a b c h => f_X9_register 0 a b h) (fun a b c h => f_X10_register 0 a b h) (mp3 3 1 2) := by
  intro j hx hm a b c hj R
  have S0 := R.1.1.X (100 + 8 * mn hm 0 8)
  have T := R.1.2
  have M := R.MX
  have hPc := R.cnt
  have hR60 := M.2.2.1.1
  have K0 := (R.X (100 + 8 * mn hm 0 8)).kCx
  obtain ⟨eX, eN, hN⟩ := R.min
  obtain ⟨n, hn6, e22, e5, htx⟩ := R.2.2.2.2.2.2.1
  have hX : ∀ k, k < n → mn hm 4 k < 15 ∧ kI hx 23 k = nI (mn hm 4 k) := fun k hk => by
    obtain ⟨v, v1, v2, v3⟩ := htx k hk
    rw [mn_of v3 (by omega)]
    exact ⟨v1, v2⟩
  have hXm : ∀ k, k < n → mn hm 4 k < 15 ∧ kI hm 4 k = nI (mn hm 4 k) := fun k hk => by
    obtain ⟨v, v1, v2, v3⟩ := htx k hk
    rw [mn_of v3 (by omega)]
    exact ⟨v1, v3⟩
  obtain ⟨bp, g1, g2⟩ := tm_plain T e5 hn6 hXm
  obtain ⟨bt, g3, g4⟩ := M.taken e5 hn6 hXm
  obtain ⟨v1, g5, g6⟩ := x7_hasQL (h := sX hx (100 + 8 * mn hm 0 8)) (t := 22) (s := 23) (X := mn hm 4) S0.d22 S0.r22_0 S0.d23 S0.n23 e22 hn6 hX kF 0 (by omega) (by unfold kF; omega)
  obtain ⟨v2, g7, g8⟩ := K0.tkL (X := mn hm 4) e22 hn6 hX kF 0 (by omega) (by unfold kF; omega) (fun q hq => by omega)
  rcases ka_rng a 0 5 0 5 rfl rfl (by decide) (by decide) with ⟨d, d1, d2, rfl, q1, q2⟩ | hq
  · rcases ka_rng b 0 3 0 3 rfl rfl (by decide) (by decide) with ⟨its, i1, i2, rfl, q3, q4⟩ | hq3
    · have hcls : ∀ h, f_X9_requireClass (nI its) h = kret () h := fun h => by
        unfold f_X9_requireClass
        rw [wi_t q3 q4, kb_ret, kif_f (by decide)]
      by_cases hbad : n = 0 ∨ (∃ k, k < n ∧ mn hm 4 k = 14) ∨ (∃ q, q < mn hm 0 8 ∧ eqT (mn hm) (mn hm 4) n q) ∨ mn hm 0 8 = 10
      · refine op_noN R 2 3 0 rfl (by decide) ?_ ?_
        · show f_X9_register 0 (nI d) (nI its) (sX hx (100 + 8 * mn hm 0 8)) = _
          unfold f_X9_register
          rw [rdr_t q1 q2, kb_ret, hcls, kb_ret, gN_k S0.d0 S0.r0_2, gI_k S0.d22, show kI (sX hx (100 + 8 * mn hm 0 8)) 22 1 = nI n from e22]
          unfold X9_register_b48
          by_cases h0 : n = 0
          · rw [kif_t (by rw [h0]; rfl)]
          · rw [kif_f (by rw [show (0 : Int32) = nI 0 from rfl, ka_eq (by omega) (by omega)]; exact h0), gN_k S0.d0 S0.r0_2, kV_k S0.d22, show f_X7_hasQuestionMark 22 (sX hx (100 + 8 * mn hm 0 8)) = kret v1 (sX hx (100 + 8 * mn hm 0 8)) from g5, kb_ret]
            rcases g6 with ⟨z1, z2⟩ | ⟨z1, -⟩
            · rw [kif_t z1, gN_k S0.d0 S0.r0_2, kV_k S0.d0, show f_X9_isTaken 0 22 (sX hx (100 + 8 * mn hm 0 8)) = kret v2 (sX hx (100 + 8 * mn hm 0 8)) from g7, kb_ret]
              rcases g8 with ⟨z3, -⟩ | ⟨z3, z4⟩
              · rw [kif_f (by rw [z3]; decide)]
              · have hP10 : mn hm 0 8 = 10 := by
                  rcases hbad with w | ⟨k, w1, w2⟩ | ⟨q, w1, w2⟩ | w
                  · exact absurd w h0
                  · exact absurd w2 (z2 k (by omega) w1)
                  · exact absurd w2 (z4 q w1)
                  · exact w
                rw [kif_t z3, gI_k S0.d0, show kI (sX hx (100 + 8 * mn hm 0 8)) 0 13 = nI (mn hm 0 8) from hPc.1, kif_f (by rw [hP10]; decide)]
            · rw [kif_f (by rw [z1]; decide)]
        · show f_X10_register 0 (nI d) (nI its) hm = _
          have hc : X10_register_b54 0 (nI d) (nI its) 0 hm = kret 0 (sI hm 0 35 3) := by
            unfold X10_register_b54 X10_register_b59
            rw [kV_k T.d0, can_n T (show (3 : Int32) ≠ 0 by decide), kb_ret, kif_t rfl]
          unfold f_X10_register
          rw [mdr_t q1 q2, kb_ret, in_t q3 q4, kb_ret, kif_f (by decide), kif_f (by decide), kV_k T.d0, g1, kb_ret]
          rcases g2 with ⟨z1, z2, z2'⟩ | ⟨z1, -⟩
          · rw [kif_f (by rw [z1]; decide), kV_k T.d0, g3, kb_ret]
            rcases g4 with ⟨z3, -⟩ | ⟨z3, z4⟩
            · rw [kif_f (by rw [z3]; decide), hc]
            · have hP10 : mn hm 0 8 = 10 := by
                rcases hbad with w | ⟨k, w1, w2⟩ | ⟨q, w1, w2⟩ | w
                · omega
                · exact absurd w2 (z2' k w1)
                · exact absurd w2 (z4 q w1)
                · exact w
              rw [kif_t z3, gI_k T.d0, hPc.2.1, kif_t (by rw [hP10]; rfl), hc]
          · rw [kif_t z1, hc]
      · have hn0 : 1 ≤ n := Classical.byContradiction fun z => hbad (Or.inl (by omega))
        have hnq : ∀ k, k < n → mn hm 4 k ≠ 14 := fun k hk z => hbad (Or.inr (Or.inl ⟨k, hk, z⟩))
        have hnt : ∀ q, q < mn hm 0 8 → ¬ eqT (mn hm) (mn hm 4) n q := fun q hq z => hbad (Or.inr (Or.inr (Or.inl ⟨q, hq, z⟩)))
        have hP10 : mn hm 0 8 < 10 := by
          have : mn hm 0 8 ≠ 10 := fun z => hbad (Or.inr (Or.inr (Or.inr z)))
          omega
        have RX := R.X (100 + 8 * mn hm 0 8)
        have RT := RX.thr 0
        have M0 := RT.MX
        have KT := RT.kCx
        have hfree : ∀ a, 100 + 8 * mn hm 0 8 ≤ a → a ≤ 106 + 8 * mn hm 0 8 → kd hx a = 0 := fun a h1 h2 => R.2.2.2.2.2.2.2.2.2.2.2.2.2.2.2.2 a (by omega)
        obtain ⟨n', hn', hc12, -, -⟩ := R.holdN
        obtain ⟨h4, y1, ag4, ⟨d1', d2', d3', d4', d5', d6', d7', d8', d9'⟩, ⟨r1, r2, r3, r4, r5, r6⟩, u1, u2, u3, u4, u5, u6, w1, w2, w3, w4⟩ := x_reg (h := sX hx (100 + 8 * mn hm 0 8)) (hm := hm) (n := n) (P := mn hm 0 8) (d := d) (c := its) (M := mn hm 0 0) (X := mn hm 4) RX.kCx rfl rfl hfree hn0 hn6 e22 hX hnq hnt hP10 eX q1 q2 q3 q4
        obtain ⟨hm6, z1, am, z2, z3, z4, z5, z6, z7, z8, z9⟩ := tm_reg (h := hm) (n := n) (P := mn hm 0 8) (n' := n') (d := nI d) (its := nI its) (m := nI (mn hm 0 0)) T hn6 hP10 (by omega) e5 hPc.2.1 hc12 eN
        have e8 : mn hm6 0 8 = mn hm 0 8 + 1 := mn_of z2 (by omega)
        have e16 : mn hm6 0 16 = mn hm 0 16 := mn_cg1 (am.1 0 16 (by omega)).1
        have m6P : mn hm6 6 (mn hm 0 8) = n := mn_of z8 (by omega)
        have m7P : ∀ k, k < n → mn hm6 7 (6 * mn hm 0 8 + k) = mn hm 4 k := fun k hk => congrArg Int32.toNatClampNeg (z9 k hk)
        have m6p : ∀ p, p < mn hm 0 8 → mn hm6 6 p = mn hm 6 p := fun p hp => mn_cg1 (am.1 6 p (by omega)).1
        have m7p : ∀ p, p < mn hm 0 8 → ∀ k, k < 6 → mn hm6 7 (6 * p + k) = mn hm 7 (6 * p + k) := fun p hp k hk => mn_cg1 (am.1 7 (6 * p + k) (by omega)).1
        have hlen6 : ∀ p, p < mn hm 0 8 → mn hm 6 p ≤ 6 := fun p hp => (M.2.2.2.1 p hp).1.2
        have hsT : ∀ p, p < mn hm 0 8 → sTl (mn hm6) p = sTl (mn hm) p := fun p hp => sTl_cgr (m6p p hp) (fun k hk => m7p p hp k (by have := hlen6 p hp; omega))
        have hne : ∀ p, p < mn hm 0 8 → sTl (mn hm6) p ≠ sTl (mn hm6) (mn hm 0 8) := fun p hp z => by
          obtain ⟨s1, s2⟩ := sTl_inj z
          rw [m6P, m6p p hp] at s1
          refine hnt p hp ⟨s1, fun k hk => ?_⟩
          rw [← m7p p hp k (by omega), s2 k (by rw [m6p p hp]; omega), m7P k hk]
        have S4 : kSx h4 := RX.1.1.fr ag4 (fun a k q z => by unfold DP at z; omega)
        have TX : ∀ p, p ≤ mn hm 0 8 → TXp h4 (mn hm6) p := fun p hp => by
          by_cases hpP : p = mn hm 0 8
          · rw [hpP]
            refine ⟨⟨d1', r2⟩, ⟨d2', r3, d3', d4'⟩, by rw [m6P]; exact hn6, by rw [m6P]; exact u2, fun k hk => ?_⟩
            rw [m6P] at hk
            rw [m7P k hk]
            exact ⟨(hX k hk).1, (u3 k hk).trans (hX k hk).2⟩
          · have hp' : p < mn hm 0 8 := by omega
            obtain ⟨⟨k1, k2, k3, k4, -⟩, ⟨-, k5, k6, -⟩, -, ⟨l, l1, l2, l3, l4, l5⟩, -⟩ := RX.pl hp'
            have hl : mn hm 6 p = l := mn_of l4 (by omega)
            refine TXp.fr (h := sX hx (100 + 8 * mn hm 0 8)) ⟨⟨k1, k5⟩, ⟨k2, k6, k3, k4⟩, by rw [m6p p hp', hl]; exact l2, by rw [m6p p hp', hl]; exact l3, fun k hk => ?_⟩ ag4 (fun a k q z => by unfold DP at z; omega)
            rw [m6p p hp', hl] at hk
            rw [m7p p hp' k (by omega)]
            obtain ⟨v, v1', v2', v3'⟩ := l5 k hk
            rw [mn_of v3' (by omega)]
            exact ⟨by omega, v2'⟩
        obtain ⟨o, ol, om, op, oe⟩ := RX.2.2.2.2.2.2.2.2.2.1
        have hom : ∀ k, k < o.length → o.getD k 0 < mn hm 0 8 := fun k hk => (om _).1 (gD_mem.2 ⟨k, hk, rfl⟩)
        have op6 : o.Pairwise (fun p q => sTl (mn hm6) p < sTl (mn hm6) q) := by
          rw [List.pairwise_iff_getElem] at op ⊢
          intro i k hi hk hik
          have h1 := hom i hi
          have h2 := hom k hk
          rw [gD_get hi] at h1
          rw [gD_get hk] at h2
          rw [hsT _ h1, hsT _ h2]
          exact op i k hi hk hik
        have oe4 : ∀ k, k < o.length → kR h4 27 k = some (100 + 8 * o.getD k 0) := fun k hk => by
          rw [(ag4.1 27 k (fun z => by unfold DP at z; omega)).2.2]
          exact oe k hk
        obtain ⟨h5, i, x1, x2, ag5, x4, x5, x6, x7, x8⟩ := x9_pioL (hx := h4) (m := mn hm6) (P := mn hm 0 8) (o := o) hP10 ol hom oe4 kF (mn hm 0 8) h4 S4 TX ((kAg.rf h4).sub (fun _ _ z => z.elim)) (fun _ _ => rfl) (fun k q1 q2 => by omega) (Nat.le_refl _) (by unfold kF; omega)
        obtain ⟨oi1, oi2, oi3⟩ := ord_ins ol om op6 hne x2 x7 x8
        have e13 : kI h4 0 13 = nI (mn hm 0 8) := by
          rw [(ag4.1 0 13 (fun z => by unfold DP at z; omega)).1]
          exact hPc.1
        have e13' : kI h5 0 13 = nI (mn hm 0 8) := by
          rw [(ag5.1 0 13 (by omega)).1]
          exact e13
        have agT : kAg (fun a k => DP (mn hm 0 8) a k ∨ a = 27 ∨ a = 0 ∧ k = 13) (sX hx (100 + 8 * mn hm 0 8)) (sI h5 0 13 (nI (mn hm 0 8 + 1))) := (ag4.trans (F := fun a k => DP (mn hm 0 8) a k ∨ a = 27 ∨ a = 0 ∧ k = 13) ag5 (fun a k q z => q (Or.inl z)) (fun a k q z => q (Or.inr (Or.inl z)))).trans (kAg.I h5 0 13 _) (fun a k q => q) (fun a k q z => q (Or.inr (Or.inr z)))
        have agS : kAg (fun a k => a = 27 ∨ a = 0 ∧ k = 13) h4 (sI h5 0 13 (nI (mn hm 0 8 + 1))) := ag5.trans (kAg.I h5 0 13 _) (fun a k q z => q (Or.inl z)) (fun a k q z => q (Or.inr z))
        have hI6 : ∀ a k, 28 ≤ a → kI (sI h5 0 13 (nI (mn hm 0 8 + 1))) a k = kI h4 a k ∧ kR (sI h5 0 13 (nI (mn hm 0 8 + 1))) a k = kR h4 a k := fun a k ha => ⟨(agS.1 a k (by omega)).1, (agS.1 a k (by omega)).2.2⟩
        have hk6 : ∀ a, kd h4 a ≠ 0 → kd (sI h5 0 13 (nI (mn hm 0 8 + 1))) a = kd h4 a ∧ kn (sI h5 0 13 (nI (mn hm 0 8 + 1))) a = kn h4 a := fun a ha => agS.k a ha
        have cPl : cPla (sI h5 0 13 (nI (mn hm 0 8 + 1))) hm6 := by
          refine ⟨⟨mn hm 0 8 + 1, by omega, by rw [kI_sI, if_pos ⟨rfl, rfl⟩], z2⟩, fun p hp => ?_, fun p q hpq hq => ?_⟩
          · rw [e8] at hp
            by_cases hpP : p = mn hm 0 8
            · subst hpP
              refine ⟨⟨?_, ?_, ?_, ?_, ?_, ?_, ?_, ?_, ?_⟩, ⟨?_, ?_, ?_, ?_, ?_, ?_⟩, ?_, ⟨n, hn0, hn6, ?_, z8, fun k hk => ⟨mn hm 4 k, ?_, ?_, ?_⟩⟩, its, by omega, ?_, z3⟩
              · rw [(hk6 _ (by rw [d1']; decide)).1, d1']
              · rw [(hk6 _ (by rw [d2']; decide)).1, d2']
              · rw [(hk6 _ (by rw [d3']; decide)).1, d3']
              · rw [(hk6 _ (by rw [d3']; decide)).2, d4']
              · rw [(hk6 _ (by rw [d5']; decide)).1, d5']
              · rw [(hk6 _ (by rw [d6']; decide)).1, d6']
              · rw [(hk6 _ (by rw [d6']; decide)).2, d7']
              · rw [(hk6 _ (by rw [d8']; decide)).1, d8']
              · rw [(hk6 _ (by rw [d8']; decide)).2, d9']
              · rw [(agS.1 26 _ (by omega)).2.2, r1]
              · rw [(hI6 _ _ (by omega)).2, r2]
              · rw [(hI6 _ _ (by omega)).2, r3]
              · rw [(hI6 _ _ (by omega)).2, r4]
              · rw [(hI6 _ _ (by omega)).2, r5]
              · rw [(hI6 _ _ (by omega)).2, r6]
              · rw [(hI6 _ _ (by omega)).1, u1]
              · rw [(hI6 _ _ (by omega)).1, u2]
              · have := (hX k hk).1
                have := hnq k hk
                omega
              · rw [(hI6 _ _ (by omega)).1, u3 k hk]
                exact (hX k hk).2
              · rw [z9 k hk]
                exact (hXm k hk).2
              · rw [(hI6 _ _ (by omega)).1, u4]
            · exact (RT.pl (show p < mn (sI hm 0 35 0) 0 8 from (by omega : p < mn hm 0 8))).fr agT am (fun a k q z => by rcases z with z | z | z <;> first | (unfold DP at z; omega) | omega) (fun a k q z => by omega)
          · rw [e8] at hq
            by_cases hqP : q = mn hm 0 8
            · rw [hqP]
              exact hne p (by omega)
            · rw [hsT p (by omega), hsT q (by omega)]
              exact R.2.2.2.2.2.2.2.2.1.2.2 p q hpq (by omega)
        have cOr : cOrd (sI h5 0 13 (nI (mn hm 0 8 + 1))) hm6 := by
          refine ⟨o.insertIdx i (mn hm 0 8), by rw [oi1, e8], fun p => by rw [oi2, e8], oi3, fun k hk => ?_⟩
          rw [oi1] at hk
          have hil : i ≤ o.length := Nat.le_trans x2 (Nat.le_of_eq ol.symm)
          rw [kR_sI, ins_at hil]
          have ol' : o.length = mn hm 0 8 := ol
          by_cases k1 : k < i
          · rw [if_pos k1, x4 k k1]
            exact oe4 k (by omega)
          · rw [if_neg k1]
            by_cases k2 : k = i
            · rw [if_pos k2, k2, x6]
            · rw [if_neg k2]
              have := x5 (k - 1) (by omega) (by omega)
              rw [show k - 1 + 1 = k by omega] at this
              rw [this]
              exact oe4 (k - 1) (by omega)
        have K6 : kCx (sI h5 0 13 (nI (mn hm 0 8 + 1))) hm6 := by
          refine ⟨⟨KT.1.1.fr agT (fun a k q z => by rcases z with z | z | z <;> first | (unfold DP at z; omega) | omega), KT.1.2.fr am (fun a k q z => by omega)⟩, KT.2.1.fr agT am (fun a k q z => by rcases z with z | z | z <;> first | (unfold DP at z; omega) | omega) (fun a k q z => by omega), KT.2.2.1.fr agT am (fun a k q z => by rcases z with z | z | z <;> first | (unfold DP at z; omega) | omega) (fun a k q z => by omega), KT.2.2.2.1.fr agT am (fun a k q z => by rcases z with z | z | z <;> first | (unfold DP at z; omega) | omega) (fun a k q z => by omega), cPl, cOr, ?_, fun r hr => ?_⟩
          · rw [(agT.1 0 14 (fun z => by rcases z with z | z | z <;> first | (unfold DP at z; omega) | omega)).1, (am.1 0 16 (by omega)).1]
            exact KT.2.2.2.2.2.2.1
          · rw [e16] at hr
            exact (KT.rd (show r < mn (sI hm 0 35 0) 0 16 from hr)).fr agT am (fun a k q z => by rcases z with z | z | z <;> first | (unfold DP at z; omega) | omega) (fun a k q z => by omega)
        have A6 : AS (sI h5 0 13 (nI (mn hm 0 8 + 1))) hm6 (sPF (sI hm 0 35 0)) := by
          have A0 := RT.AS
          refine ⟨fun r hr => ?_, fun p hp => ?_⟩
          · rw [e16] at hr
            rw [(agT.1 (200 + 4 * r) 5 (fun z => by rcases z with z | z | z <;> first | (unfold DP at z; omega) | omega)).2.2, e8]
            obtain ⟨b1, b2⟩ := A0.1 r hr
            exact ⟨b1, fun p e => by have h7 : p < mn hm 0 8 := b2 p e; omega⟩
          · rw [e8] at hp
            by_cases hpP : p = mn hm 0 8
            · subst hpP
              refine ⟨[], ⟨fun k hk => absurd hk (Nat.not_lt_zero _), fun i k _ hk => absurd hk (Nat.not_lt_zero _)⟩, fun r hr => ⟨fun z => ?_, fun ⟨k, hk, _⟩ => absurd hk (Nat.not_lt_zero _)⟩, ⟨by decide, ?_, fun k hk => absurd hk (Nat.not_lt_zero _)⟩, fun k hk => absurd hk (Nat.not_lt_zero _)⟩
              · rw [e16] at hr
                have h7 : mn hm 0 8 < mn hm 0 8 := (A0.1 r hr).2 _ z
                omega
              · rw [(hI6 _ _ (by omega)).1, u5]
                rfl
            · obtain ⟨l, l1, l2, l3, l4⟩ := A0.2 p (show p < mn hm 0 8 by omega)
              refine ⟨l, l1.fr (am.1 0 16 (by omega)).1 (fun k => (am.1 13 k (by omega)).1), fun r hr => by rw [e16] at hr; exact l2 r hr, l3.fr agT (fun z => by rcases z with z | z | z <;> first | (unfold DP at z; omega) | omega) (fun k z => by rcases z with z | z | z <;> first | (unfold DP at z; omega) | omega), fun k hk => ?_⟩
              rw [(agT.1 (104 + 8 * p + 2) k (fun z => by rcases z with z | z | z <;> first | (unfold DP at z; omega) | omega)).1, sBegAt_cg (am.1 0 1 (by omega)).1 (fun k => (am.1 2 k (by omega)).1) (fun k => (am.1 12 k (by omega)).1) (fun k => (am.1 13 k (by omega)).1)]
              exact l4 k hk
        have C6 : cCor (sI h5 0 13 (nI (mn hm 0 8 + 1))) hm6 := fun r hr => by
          rw [e16] at hr
          rw [(agT.1 (200 + 4 * r) 4 (fun z => by rcases z with z | z | z <;> first | (unfold DP at z; omega) | omega)).1, (am.1 16 r (by omega)).1, (am.1 17 r (by omega)).1, e8]
          rcases RT.cCor r hr with z | ⟨z1, z2, z3⟩
          · exact Or.inl z
          · exact Or.inr ⟨z1, z2, z3.imp id (fun ⟨q, w1, w2⟩ => ⟨q, by have h7 : q < mn hm 0 8 := w1; omega, w2⟩)⟩
        obtain ⟨h7, A', f1, f2, f3, f4⟩ := K6.lead A6 (fun r hr => by
          rcases C6 r hr with ⟨z, -⟩ | ⟨z, -⟩
          · exact Or.inl z
          · exact Or.inr z)
        have K7 := K6.fr f2 DM.dk
        have C7 : cCor h7 hm6 := fun r hr => by
          rw [(f2.1 (200 + 4 * r) 4 (fun z => by unfold DM at z; omega)).1]
          exact C6 r hr
        have f5 := f3.cong (B := sPF hm6) (fun r hr => by
          rw [f4 r hr]
          rcases C6 r hr with ⟨z, z2⟩ | ⟨z, z2, z3⟩
          · have z2' : mn hm6 16 r = 0 := by unfold mn; rw [z2]; rfl
            rw [if_pos z]
            unfold sPF
            rw [if_pos z2']
          · have z2' : mn hm6 16 r = 1 := by unfold mn; rw [z2]; rfl
            have z2'' : mn (sI hm 0 35 0) 16 r = 1 := by rw [← z2']; exact (mn_cg1 (am.1 16 r (by omega)).1).symm
            have l1 : sPF (sI hm 0 35 0) r = if kI (sI hm 0 35 0) 17 r = -1 then none else some (mn (sI hm 0 35 0) 17 r) := by
              unfold sPF
              rw [if_neg (by rw [z2'']; decide)]
            have l2 : sPF hm6 r = if kI hm6 17 r = -1 then none else some (mn hm6 17 r) := by
              unfold sPF
              rw [if_neg (by rw [z2']; decide)]
            rw [if_neg (by rw [z]; decide), l1, l2, mn_cg1 (am.1 17 r (by omega)).1, (am.1 17 r (by omega)).1])
        have Z6 : cZer hm6 := fun r h1 h2 => by
          rw [e16] at h1
          rw [(am.1 16 r (by omega)).1]
          exact RT.zer r h1 h2
        have hnew := cRea_of K7 Z6 C7 f5
        have H6 : cHol (j + 1) (sI h5 0 13 (nI (mn hm 0 8 + 1))) hm6 := by
          refine cHol.reg (hm := sI hm 0 35 0) (n := n') (d := d) (M := mn hm 0 0) RT.2.2.2.2.2.2.2.2.2.2.1 hc12 (by omega) hP10 rfl hN (by omega) hj agT (fun a k q z => by
            have q' : a % 8 = 7 ∧ 100 ≤ a ∧ a < 180 ∧ a ≠ 103 + 8 * mn hm 0 8 ∨ 1000 ≤ a ∧ a < 2000 ∨ a % 8 = 4 ∧ 100 ≤ a ∧ a < 100 + 8 * mn hm 0 8 ∧ k = 4 := q
            rcases z with z | z | z <;> first | (unfold DP at z; omega) | omega) (hfree (103 + 8 * mn hm 0 8) (by omega) (by omega)) ?_ ?_ ?_ ?_ ?_ z4 e8 (am.1 0 0 (by omega)).1 (fun i k q1 q2 => (am.1 i k (by omega)).1) z5 z6 z7
          · exact (hI6 (100 + 8 * mn hm 0 8) 4 (by omega)).2.trans u6
          · exact (hk6 (103 + 8 * mn hm 0 8) (by rw [w1]; decide)).1.trans w1
          · exact (hI6 (103 + 8 * mn hm 0 8) 0 (by omega)).1.trans w2
          · exact (hI6 (103 + 8 * mn hm 0 8) 1 (by omega)).1.trans w3
          · exact (hI6 (103 + 8 * mn hm 0 8) 2 (by omega)).2.trans w4
        have H7 : cHol (j + 1) h7 hm6 := H6.fr (by omega) f2 (kAg.rf hm6) (fun a k q z => by unfold DM at z; rcases z with z | z <;> omega) (fun a k q z => z)
        have agA : kAg (fun a k => (DP (mn hm 0 8) a k ∨ a = 27 ∨ a = 0 ∧ k = 13) ∨ DM a k) (sX hx (100 + 8 * mn hm 0 8)) h7 := agT.trans f2 (fun a k q z => q (Or.inl z)) (fun a k q z => q (Or.inr z))
        have hDA : ∀ a k, a < 100 ∧ a ≠ 26 ∧ a ≠ 27 ∧ ¬ (a = 0 ∧ k = 13) ∨ 500 ≤ a ∧ a < 1000 → ¬ ((DP (mn hm 0 8) a k ∨ a = 27 ∨ a = 0 ∧ k = 13) ∨ DM a k) := fun a k q z => by
          rcases z with (z | z | z) | z
          · unfold DP at z; omega
          · omega
          · omega
          · unfold DM at z; rcases z with z | z <;> omega
        have F7 : cFre (j + 1) h7 hm6 := fun a ha => by
          rw [e8, e16, mn_cg1 (am.1 0 27 (by omega)).1, mn_cg1 (am.1 0 31 (by omega)).1] at ha
          have e27 : mn (sI hm 0 35 0) 0 27 = mn hm 0 27 := rfl
          have e31 : mn (sI hm 0 35 0) 0 31 = mn hm 0 31 := rfl
          rw [e27, e31] at ha
          have h0 : kd hx a = 0 := R.2.2.2.2.2.2.2.2.2.2.2.2.2.2.2.2 a (by omega)
          rw [(agA.2 a (Or.inr (fun z => by
            rcases z with (z | z | z) | z
            · unfold DP at z; omega
            · omega
            · omega
            · unfold DM at z; rcases z with z | z <;> omega))).1]
          exact h0
        obtain ⟨-, c1, -, c3, -, c5', c6, -, -, -, -, -, -, c13, c14, c15, -⟩ := RT.up
        have Rn : RR (j + 1) h7 hm6 := ⟨K7.1, c1.fr agA am (fun a k h => hDA a k (by omega)) (fun a k h z => by omega), K7.2.1, c3.fr agA am (fun a k h => hDA a k (by omega)) (fun a k h z => by omega), K7.2.2.1, c5'.fr agA am (fun a k h => hDA a k (by omega)) (fun a k h z => by omega), c6.fr agA am (fun a k h => hDA a k (by omega)) (fun a k h z => by omega), K7.2.2.2.1, K7.2.2.2.2.1, K7.2.2.2.2.2.1, H7, hnew.1, hnew.2, c13.fr agA am (fun a k h => hDA a k (by omega)) (fun a k h z => by omega), c14.more (by rw [e8]; exact Nat.le_succ _) agA am (fun a k h => hDA a k (by omega)) (fun a k h z => by omega), c15.fr agA am (fun a k h => hDA a k (by omega)) (fun a k h z => by omega), F7⟩
        refine op_ok (hx1 := h7) (hm1 := hm6) (100 + 8 * mn hm 0 8) (nI (mn hm 0 8)) ?_ ?_ (by rw [(am.1 0 35 (by omega)).1, kI_sI, if_pos ⟨rfl, rfl⟩]) Rn
        · show f_X9_register 0 (nI d) (nI its) (sX hx (100 + 8 * mn hm 0 8)) = _
          have hpio : f_X9_putInOrder 0 (100 + 8 * mn hm 0 8) h4 = kret () h5 := by
            unfold f_X9_putInOrder
            rw [gI_k S4.d0, e13]
            exact x1
          have k50 : kd h5 0 = 10 := by rw [(ag5.k 0 (by rw [S4.d0]; decide)).1, S4.d0]
          rw [y1, kV_k S4.d0, hpio, kb_ret, gI_k k50, e13', pI_k k50, nI_1, kV_k K6.1.1.d0, f1, kb_ret, gI_k (K7.2.2.2.2.1.2.1 (mn hm 0 8) (by omega)).1.1, (K7.2.2.2.2.1.2.1 (mn hm 0 8) (by omega)).2.2.1]
        · show f_X10_register 0 (nI d) (nI its) hm = _
          unfold f_X10_register
          rw [mdr_t q1 q2, kb_ret, in_t q3 q4, kb_ret, kif_f (by decide), kif_f (by decide), kV_k T.d0, g1, kb_ret]
          rcases g2 with ⟨s1, -⟩ | ⟨s1, s2⟩
          · rw [kif_f (by rw [s1]; decide), kV_k T.d0, g3, kb_ret]
            rcases g4 with ⟨s3, q, s4, s5⟩ | ⟨s3, -⟩
            · exact absurd s5 (hnt q s4)
            · rw [kif_t s3, gI_k T.d0, hPc.2.1, kif_f (by rw [show (10 : Int32) = nI 10 from rfl, ka_eq (by omega) (by omega)]; omega), z1]
          · rcases s2 with s2 | ⟨k, s2, s3⟩
            · omega
            · exact absurd s3 (hnq k s2)
    · refine op_noN R 1 2 0 rfl (by decide) ?_ ?_
      · show f_X9_register 0 (nI d) b (sX hx (100 + 8 * mn hm 0 8)) = _
        unfold f_X9_register f_X9_requireClass
        rw [rdr_t q1 q2, kb_ret, wi_f hq3, kb_ret, kif_t rfl]
        rfl
      · show f_X10_register 0 (nI d) b hm = _
        unfold f_X10_register
        rw [mdr_t q1 q2, kb_ret, in_f hq3, kb_ret, kif_f (by decide), kif_t rfl]
        unfold X10_register_b59
        rw [kV_k T.d0, can_n T (show (2 : Int32) ≠ 0 by decide), kb_ret, kif_t rfl]
  · refine op_noN R 3 1 0 rfl (by decide) ?_ ?_
    · show f_X9_register 0 a b (sX hx (100 + 8 * mn hm 0 8)) = _
      unfold f_X9_register
      rw [rdr_f hq]
      rfl
    · show f_X10_register 0 a b hm = _
      have hin : ∃ y, f_X10_isIn b 0 3 hm = kret y hm := by
        rcases ka_rng b 0 3 0 3 rfl rfl (by decide) (by decide) with ⟨its, i1, i2, rfl, q3, q4⟩ | hq3
        · exact ⟨1, in_t q3 q4⟩
        · exact ⟨0, in_f hq3⟩
      obtain ⟨y, ey⟩ := hin
      unfold f_X10_register
      rw [mdr_f hq, kb_ret, ey, kb_ret, kif_t rfl]
      unfold X10_register_b59
      rw [kV_k T.d0, can_n T (show (1 : Int32) ≠ 0 by decide), kb_ret, kif_t rfl]
end
section
/-! the model's rows: its passings one after the other -/
def NX (g : KH) : Prop := MX g ∧ (∀ i j, i < 8 → j < 8 → kI g 2 (8 * i + j) = -1 ∨ ∃ n, n ≤ 51200 ∧ kI g 2 (8 * i + j) = nI n) ∧ (mn g 0 1 ≤ 500 ∧ kI g 0 1 = nI (mn g 0 1)) ∧ (∀ k, k < 4 → mn g 3 k ≤ 50 ∧ kI g 3 k = nI (mn g 3 k)) ∧ (∀ p, p < mn g 0 8 → mn g 8 p < 4 ∧ kI g 8 p = nI (mn g 8 p)) ∧ ∃ n, n ≤ 700 ∧ kI g 0 12 = nI n ∧ ∀ k, k < n → (∃ q, q < 10 ∧ kI g 9 k = nI q) ∧ ∃ s, s ≤ 50000 ∧ kI g 11 k = nI s
theorem RR.NX {j : Nat} {hx hm : KH} (R : RR j hx hm) (hj : j < 512) : NX hm := by
  obtain ⟨n, hn, hc, hh, -⟩ := R.holdN
  refine ⟨R.MX, fun i j hi hj => (R.2.2.2.2.1 i j hi hj).2, ?_, fun k hk => ?_, fun p hp => ?_, n, by omega, hc, hh⟩
  · obtain ⟨n, n1, n2, n3⟩ := R.2.2.1
    rw [mn_of n3 (by omega)]
    exact ⟨n1, n3⟩
  · obtain ⟨n, n1, n2, n3⟩ := R.2.2.2.2.2.1 k hk
    rw [mn_of n3 (by omega)]
    exact ⟨n1, n3⟩
  · obtain ⟨-, -, -, -, n, n1, n2, n3⟩ := R.pl hp
    rw [mn_of n3 (by omega)]
    exact ⟨n1, n3⟩
/-- the heaps of a question: nothing but its, tripIn and thrown differs -/
def EJ (a k : Nat) : Prop := a = 18 ∨ a = 19 ∨ a = 0 ∧ k = 35
def sRw (g : KH) (o : Option Nat) (l : List Nat) : Prop := LOK g l ∧ ∀ r, r < mn g 0 16 → (sPF g r = o ↔ ∃ k, k < l.length ∧ l.getD k 0 = r)
def lst (l : List Nat) (k : Nat) : Option Nat := if k < l.length then some (l.getD k 0) else none
theorem pos_ex (g : KH) (l : List Nat) (n : Nat) : ∀ m, m ≤ l.length → (∀ k, m ≤ k → k < l.length → sBef (mn g) n (l.getD k 0)) → ∃ i, i ≤ l.length ∧ (∀ k, i ≤ k → k < l.length → sBef (mn g) n (l.getD k 0)) ∧ (i = 0 ∨ ¬ sBef (mn g) n (l.getD (i - 1) 0)) := by
  intro m
  induction m with
  | zero => intro h1 h2; exact ⟨0, h1, h2, Or.inl rfl⟩
  | succ m ih =>
    intro h1 h2
    by_cases hq : sBef (mn g) n (l.getD m 0)
    · exact ih (by omega) (fun k q1 q2 => by
        by_cases hk : k = m
        · rw [hk]; exact hq
        · exact h2 k (by omega) q2)
    · exact ⟨m + 1, h1, h2, Or.inr hq⟩
theorem row_ex (g : KH) (Q : Nat → Prop) : ∀ n, n ≤ mn g 0 16 → ∃ l, LOK g l ∧ ∀ r, (∃ k, k < l.length ∧ l.getD k 0 = r) ↔ r < n ∧ Q r := by
  intro n
  induction n with
  | zero => intro _; exact ⟨[], ⟨fun k hk => absurd hk (Nat.not_lt_zero _), fun i k _ hk => absurd hk (Nat.not_lt_zero _)⟩, fun r => ⟨fun ⟨k, hk, _⟩ => absurd hk (Nat.not_lt_zero _), fun z => absurd z.1 (Nat.not_lt_zero _)⟩⟩
  | succ n ih =>
    intro hn
    obtain ⟨l, l1, l2⟩ := ih (by omega)
    by_cases hq : Q n
    · have hnr : ∀ k, k < l.length → l.getD k 0 ≠ n := fun k hk z => by
        have := ((l2 n).1 ⟨k, hk, z⟩).1
        omega
      obtain ⟨i, i1, i2, i3⟩ := pos_ex g l n l.length (Nat.le_refl _) (fun k q1 q2 => by omega)
      refine ⟨l.insertIdx i n, l1.ins i1 (by omega) hnr i2 i3, fun r => ?_⟩
      constructor
      · rintro ⟨k, hk, rfl⟩
        rw [ins_len i1] at hk
        rw [ins_at i1]
        split
        · have := (l2 _).1 ⟨k, by omega, rfl⟩
          exact ⟨by omega, this.2⟩
        · split
          · exact ⟨by omega, hq⟩
          · have := (l2 _).1 ⟨k - 1, by omega, rfl⟩
            exact ⟨by omega, this.2⟩
      · rintro ⟨h1, h2⟩
        by_cases hrn : r = n
        · exact ⟨i, by rw [ins_len i1]; omega, by rw [ins_at i1, if_neg (by omega), if_pos rfl, hrn]⟩
        · obtain ⟨k, hk, ek⟩ := (l2 r).2 ⟨by omega, h2⟩
          by_cases hki : k < i
          · exact ⟨k, by rw [ins_len i1]; omega, by rw [ins_at i1, if_pos hki, ek]⟩
          · exact ⟨k + 1, by rw [ins_len i1]; omega, by rw [ins_at i1, if_neg (by omega), if_neg (by omega)]; exact ek⟩
    · refine ⟨l, l1, fun r => ?_⟩
      rw [l2 r]
      constructor
      · rintro ⟨h1, h2⟩
        exact ⟨by omega, h2⟩
      · rintro ⟨h1, h2⟩
        refine ⟨?_, h2⟩
        by_cases hrn : r = n
        · rw [hrn] at h2
          exact absurd h2 hq
        · omega
theorem sRw_ex (g : KH) (o : Option Nat) : ∃ l, sRw g o l := by
  obtain ⟨l, l1, l2⟩ := row_ex g (fun r => sPF g r = o) (mn g 0 16) (Nat.le_refl _)
  exact ⟨l, l1, fun r hr => by rw [l2 r]; exact ⟨fun z => ⟨hr, z⟩, fun z => z.2⟩⟩
section KNEXT
variable {g h : KH}
theorem NX.mx (N : NX g) (ag : kAg EJ g h) : MX h := N.1.fr ag (fun a k z => by unfold EJ at z; omega)
theorem NX.e (ag : kAg EJ g h) (a k : Nat) (h1 : a ≠ 18) (h2 : a ≠ 19) (h3 : ¬ (a = 0 ∧ k = 35)) : kI h a k = kI g a k := (ag.1 a k (fun z => by unfold EJ at z; omega)).1
theorem NX.bef (N : NX g) (ag : kAg EJ g h) {r s : Nat} (hr : r < mn g 0 16) (hs : s < mn g 0 16) : f_X10_isBefore 0 (nI r) (nI s) h = kret (if mn g 13 r < mn g 13 s ∨ mn g 13 r = mn g 13 s ∧ r < s then 1 else 0) h := by
  have T := (N.mx ag).1
  have hR := N.1.2.2.1.1
  obtain ⟨-, ⟨m1, m2⟩, -⟩ := N.1.2.2.2.2.1 r hr
  obtain ⟨-, ⟨m3, m4⟩, -⟩ := N.1.2.2.2.2.1 s hs
  have e1 : kI h 13 r = nI (mn g 13 r) := by rw [NX.e ag 13 r (by omega) (by omega) (by omega)]; exact m2
  have e2 : kI h 13 s = nI (mn g 13 s) := by rw [NX.e ag 13 s (by omega) (by omega) (by omega)]; exact m4
  unfold f_X10_isBefore
  rw [gN_k T.d0 T.r18, gAI_k T.d13 (by rw [T.n13]; omega) (by omega), gN_k T.d0 T.r18, gAI_k T.d13 (by rw [T.n13]; omega) (by omega), e1, e2]
  by_cases q1 : mn g 13 r < mn g 13 s
  · rw [kif_t (by rw [ka_lt (by omega) (by omega)]; exact q1), if_pos (Or.inl q1)]
    rfl
  · rw [kif_f (by rw [ka_lt (by omega) (by omega)]; exact q1), gN_k T.d0 T.r18, gAI_k T.d13 (by rw [T.n13]; omega) (by omega), gN_k T.d0 T.r18, gAI_k T.d13 (by rw [T.n13]; omega) (by omega), e1, e2]
    by_cases q2 : mn g 13 r = mn g 13 s
    · rw [kif_t (by rw [q2])]
      by_cases q3 : s ≤ r
      · rw [kif_t (by rw [ka_le (by omega) (by omega)]; exact q3), if_neg (by omega)]
        rfl
      · rw [kif_f (by rw [ka_le (by omega) (by omega)]; exact q3), if_pos (by omega)]
        rfl
    · rw [kif_f (by rw [ka_eq (by omega) (by omega)]; exact q2), if_neg (by omega)]
      rfl
/-- what comes behind -/
def nxC (g : KH) (o b : Option Nat) (r : Nat) : Prop := sPF g r = o ∧ ∀ x, b = some x → sBef (mn g) x r
def nxM (g : KH) (o b : Option Nat) (i : Nat) (f : Option Nat) : Prop := match f with
  | none => ∀ r, r < i → ¬ nxC g o b r
  | some x => x < i ∧ nxC g o b x ∧ ∀ r, r < i → nxC g o b r → r = x ∨ sBef (mn g) x r
theorem NX.nextL (N : NX g) (ag : kAg EJ g h) (hI : ∀ r, r < mn g 0 16 → kI h 18 r = cOf (sPF g r)) {o b : Option Nat} (ho : ∀ p, o = some p → p < 2147483648) (hb : ∀ x, b = some x → x < mn g 0 16) : ∀ (f i : Nat) (x : Option Nat), i ≤ mn g 0 16 → mn g 0 16 < i + f → nxM g o b i x → ∃ y, X10_next_L5 f 0 (cOf o) (cOf b) (cOf x) (nI i) h = kret (cOf y) h ∧ nxM g o b (mn g 0 16) y := by
  have T := (N.mx ag).1
  have hR := N.1.2.2.1
  have hP := N.1.2.1
  intro f
  induction f with
  | zero => intro i x h1 h2; omega
  | succ f ih =>
    intro i x h1 h2 h3
    unfold X10_next_L5 X10_next_b5
    rw [gI_k T.d0, NX.e ag 0 16 (by omega) (by omega) (by omega), hR.2]
    by_cases hi : mn g 0 16 ≤ i
    · obtain rfl : i = mn g 0 16 := by omega
      exact ⟨x, by rw [kif_t (by rw [ka_le (by omega) (by omega)]; exact hi)], h3⟩
    · have hir : i < mn g 0 16 := by omega
      have hxb : ∀ z, x = some z → z < i := fun z e => by rw [e] at h3; exact h3.1
      -- the reading doesn't count: what was found stays
      have hskip : ¬ nxC g o b i → ∃ y, X10_next_L5 f 0 (cOf o) (cOf b) (cOf x) (nI i + 1) h = kret (cOf y) h ∧ nxM g o b (mn g 0 16) y := by
        intro hn
        rw [nI_1]
        refine ih (i + 1) x (by omega) (by omega) ?_
        cases x with
        | none =>
          intro r hr
          by_cases hri : r = i
          · rw [hri]; exact hn
          · exact h3 r (by omega)
        | some z =>
          obtain ⟨w1, w2, w3⟩ := h3
          refine ⟨by omega, w2, fun r hr hc => ?_⟩
          by_cases hri : r = i
          · rw [hri] at hc
            exact absurd hc hn
          · exact w3 r (by omega) hc
      have h44 : ¬ nxC g o b i → ∃ y, X10_next_b44 (X10_next_L5 f) 0 (cOf o) (cOf b) (cOf x) (nI i) h = kret (cOf y) h ∧ nxM g o b (mn g 0 16) y := by
        intro hn
        unfold X10_next_b44 X10_next_b45
        rw [kif_t rfl]
        exact hskip hn
      have h40 : nxC g o b i → ∃ y, X10_next_b40 (X10_next_L5 f) 0 (cOf o) (cOf b) (cOf x) (nI i) h = kret (cOf y) h ∧ nxM g o b (mn g 0 16) y := by
        intro hc
        unfold X10_next_b40 X10_next_b45
        rw [kif_f (by decide)]
        have htake : (∀ r, r < i → nxC g o b r → sBef (mn g) i r) → ∃ y, X10_next_b67 (X10_next_L5 f) 0 (cOf o) (cOf b) (nI i) h = kret (cOf y) h ∧ nxM g o b (mn g 0 16) y := by
          intro hall
          unfold X10_next_b67 X10_next_b73
          rw [nI_1]
          refine ih (i + 1) (some i) (by omega) (by omega) ⟨by omega, hc, fun r hr hcr => ?_⟩
          by_cases hri : r = i
          · exact Or.inl hri
          · exact Or.inr (hall r (by omega) hcr)
        cases x with
        | none =>
          rw [kif_t (show cOf none = -1 from rfl)]
          exact htake (fun r hr hcr => absurd hcr (h3 r hr))
        | some z =>
          obtain ⟨w1, w2, w3⟩ := h3
          rw [kif_f (by show ¬ nI z = -1; rw [ka_n1 (by omega)]; exact fun q => q), kV_k T.d0]
          rw [show cOf (some z) = nI z from rfl, N.bef ag hir (show z < mn g 0 16 by omega), kb_ret]
          by_cases q : mn g 13 i < mn g 13 z ∨ mn g 13 i = mn g 13 z ∧ i < z
          · rw [if_pos q, kif_f (by decide)]
            refine htake (fun r hr hcr => ?_)
            rcases w3 r hr hcr with e | e
            · rw [e]; exact q
            · exact sBef_tr (show sBef (mn g) i z from q) e
          · rw [if_neg q, kif_t rfl]
            unfold X10_next_b72 X10_next_b73
            rw [nI_1]
            refine ih (i + 1) (some z) (by omega) (by omega) ⟨by omega, w2, fun r hr hcr => ?_⟩
            by_cases hri : r = i
            · rw [hri]
              exact Or.inr (sBef_to (show ¬ sBef (mn g) i z from q) (by omega))
            · exact w3 r (by omega) hcr
      rw [kif_f (by rw [ka_le (by omega) (by omega)]; exact hi), gN_k T.d0 T.r23, gAI_k T.d18 (by rw [T.n18]; omega) (by omega), hI i hir]
      have hpf : ∀ p, sPF g i = some p → p < 2147483648 := fun p e => by have := N.1.pf_lt hir e; omega
      by_cases q1 : sPF g i = o
      · rw [kif_t (by rw [q1])]
        cases b with
        | none =>
          rw [kif_t (show cOf none = -1 from rfl)]
          exact h40 ⟨q1, fun x e => by cases e⟩
        | some z =>
          have hz := hb z rfl
          rw [kif_f (by show ¬ nI z = -1; rw [ka_n1 (by omega)]; exact fun q => q), kV_k T.d0]
          rw [show cOf (some z) = nI z from rfl, N.bef ag hz hir, kb_ret]
          by_cases q : mn g 13 z < mn g 13 i ∨ mn g 13 z = mn g 13 i ∧ z < i
          · rw [if_pos q, kif_f (by decide)]
            exact h40 ⟨q1, fun x e => by cases e; exact q⟩
          · rw [if_neg q, kif_t rfl]
            exact h44 (fun w => q (w.2 z rfl))
      · rw [kif_f (by rw [cOf_inj hpf ho]; exact q1)]
        exact h44 (fun w => q1 w.1)
theorem NX.next (N : NX g) (ag : kAg EJ g h) (hI : ∀ r, r < mn g 0 16 → kI h 18 r = cOf (sPF g r)) {o : Option Nat} {l : List Nat} (ho : ∀ p, o = some p → p < 2147483648) (hl : sRw g o l) : f_X10_next 0 (cOf o) (-1) h = kret (cOf (lst l 0)) h ∧ ∀ k, k < l.length → f_X10_next 0 (cOf o) (nI (l.getD k 0)) h = kret (cOf (lst l (k + 1))) h := by
  obtain ⟨L, hm⟩ := hl
  have hR := N.1.2.2.1
  have hasym : ∀ x y, sBef (mn g) x y → ¬ sBef (mn g) y x := fun x y h1 h2 => by unfold sBef at h1 h2; omega
  -- position k0: everything from there on counts, and nothing ahead
  have key : ∀ (k0 : Nat) (b y : Option Nat), (∀ r, r < mn g 0 16 → (nxC g o b r ↔ ∃ k, k0 ≤ k ∧ k < l.length ∧ l.getD k 0 = r)) → nxM g o b (mn g 0 16) y → y = lst l k0 := by
    intro k0 b y hc hy
    unfold lst
    cases y with
    | none =>
      by_cases hk : k0 < l.length
      · exact absurd ((hc _ (L.1 k0 hk)).2 ⟨k0, Nat.le_refl _, hk, rfl⟩) (hy _ (L.1 k0 hk))
      · rw [if_neg hk]
    | some x =>
      obtain ⟨w1, w2, w3⟩ := hy
      obtain ⟨k, k1, k2, rfl⟩ := (hc x w1).1 w2
      have hk : k0 < l.length := by omega
      rw [if_pos hk]
      have h4 := w3 _ (L.1 k0 hk) ((hc _ (L.1 k0 hk)).2 ⟨k0, Nat.le_refl _, hk, rfl⟩)
      rcases h4 with h4 | h4
      · rw [h4]
      · by_cases hkk : k = k0
        · rw [hkk]
        · exact absurd h4 (hasym _ _ (L.2 k0 k (by omega) k2))
  constructor
  · obtain ⟨y, e1, e2⟩ := N.nextL ag hI (o := o) (b := none) ho (fun x e => by cases e) kF 0 none (by omega) (by unfold kF; omega) (fun r hr => absurd hr (Nat.not_lt_zero _))
    rw [← key 0 none y (fun r hr => ⟨fun w => by
      obtain ⟨k, k1, k2⟩ := (hm r hr).1 w.1
      exact ⟨k, by omega, k1, k2⟩, fun ⟨k, _, k1, k2⟩ => ⟨(hm r hr).2 ⟨k, k1, k2⟩, fun x e => by cases e⟩⟩) e2]
    exact e1
  · intro k hk
    obtain ⟨y, e1, e2⟩ := N.nextL ag hI (o := o) (b := some (l.getD k 0)) ho (fun x e => by cases e; exact L.1 k hk) kF 0 none (by omega) (by unfold kF; omega) (fun r hr => absurd hr (Nat.not_lt_zero _))
    rw [← key (k + 1) (some (l.getD k 0)) y (fun r hr => ⟨fun w => by
      obtain ⟨k', k1, k2⟩ := (hm r hr).1 w.1
      have h5 := w.2 _ rfl
      refine ⟨k', ?_, k1, k2⟩
      by_cases q : k < k'
      · exact q
      · exfalso
        rw [← k2] at h5
        by_cases q2 : k' = k
        · rw [q2] at h5
          exact hasym _ _ h5 h5
        · exact hasym _ _ h5 (L.2 k' k (by omega) hk), fun ⟨k', k0, k1, k2⟩ => ⟨(hm r hr).2 ⟨k', k1, k2⟩, fun x e => by
        cases e
        rw [← k2]
        exact L.2 k k' (by omega) k1⟩⟩) e2]
    exact e1
end KNEXT
end
section
/-! joins: the trips of a row, as the model finds them -/
def cB (g : KH) (l : List Nat) : Nat → Nat
  | 0 => 0
  | k + 1 => cB g l k + if sBegAt g l k = true then 1 else 0
theorem cB_pos (g : KH) (l : List Nat) (k : Nat) : 1 ≤ cB g l (k + 1) := by
  induction k with
  | zero => show 1 ≤ 0 + 1; omega
  | succ k ih =>
    show 1 ≤ cB g l (k + 1) + _
    omega
theorem cB_le (g : KH) (l : List Nat) (k : Nat) : cB g l k ≤ k := by
  induction k with
  | zero => exact Nat.le_refl _
  | succ k ih =>
    show cB g l k + _ ≤ _
    split <;> omega
theorem cB_mono (g : KH) (l : List Nat) {i k : Nat} (h : i ≤ k) : cB g l i ≤ cB g l k := by
  induction k with
  | zero => obtain rfl : i = 0 := by omega
            exact Nat.le_refl _
  | succ k ih =>
    by_cases hi : i = k + 1
    · rw [hi]; exact Nat.le_refl _
    · have := ih (by omega)
      show _ ≤ cB g l k + _
      omega
def prv (l : List Nat) (k : Nat) : Option Nat := match k with
  | 0 => none
  | i + 1 => some (l.getD i 0)
section KJOINS
variable {g : KH} {o : Option Nat} {l : List Nat}
theorem NX.dist (N : NX g) {r s : Nat} (hr : r < mn g 0 16) (hs : s < mn g 0 16) : mn g 12 r < 8 ∧ mn g 12 s < 8 ∧ kI g 12 r = nI (mn g 12 r) ∧ kI g 12 s = nI (mn g 12 s) := ⟨(N.1.2.2.2.2.1 r hr).1.1, (N.1.2.2.2.2.1 s hs).1.1, (N.1.2.2.2.2.1 r hr).1.2, (N.1.2.2.2.2.1 s hs).1.2⟩
theorem NX.begins {h : KH} (N : NX g) (ag : kAg EJ g h) {r s : Nat} (hr : r < mn g 0 16) (hs : s < mn g 0 16) (hrs : mn g 13 r ≤ mn g 13 s) : f_X10_begins 0 (nI r) (nI s) h = kret (if sBeg g r s = true then 1 else 0) h := by
  have T := (N.mx ag).1
  have hR := N.1.2.2.1.1
  obtain ⟨g1, g3, g2, g4⟩ := N.dist hr hs
  obtain ⟨-, ⟨m1, m2⟩, -⟩ := N.1.2.2.2.2.1 r hr
  obtain ⟨-, ⟨m3, m4⟩, -⟩ := N.1.2.2.2.2.1 s hs
  obtain ⟨p1, p2⟩ := N.2.2.1
  have e : ∀ a k, a ≠ 18 → a ≠ 19 → ¬ (a = 0 ∧ k = 35) → kI h a k = kI g a k := fun a k => NX.e ag a k
  unfold f_X10_begins
  rw [kif_f (by rw [ka_n1 (by omega)]; exact fun z => z), gN_k T.d0 T.r3, gN_k T.d0 T.r17, gAI_k T.d12 (by rw [T.n12]; omega) (by omega), gN_k T.d0 T.r17, gAI_k T.d12 (by rw [T.n12]; omega) (by omega), e 12 r (by omega) (by omega) (by omega), e 12 s (by omega) (by omega) (by omega), g2, g4, mc_idx8, gAI_k T.d2 (by rw [T.n2]; omega) (by omega), gN_k T.d0 T.r18, gAI_k T.d13 (by rw [T.n13]; omega) (by omega), gN_k T.d0 T.r18, gAI_k T.d13 (by rw [T.n13]; omega) (by omega), e 13 r (by omega) (by omega) (by omega), e 13 s (by omega) (by omega) (by omega), e 2 _ (by omega) (by omega) (by omega), m2, m4, ka_sub hrs]
  unfold sBeg
  rcases N.2.1 _ _ g1 g3 with w | ⟨n, hn, w⟩
  · rw [kif_t w, w]
    rfl
  · have hmn : mn g 2 (8 * mn g 12 r + mn g 12 s) = n := mn_of w (by omega)
    have hn1 : ¬ nI n = -1 := by
      rw [ka_n1 (by omega)]
      exact fun z => z
    rw [hmn, w, kif_f hn1, gI_k T.d0, e 0 1 (by omega) (by omega) (by omega), p2, show (2 : Int32) = nI 2 from rfl, ka_mul, ka_add]
    by_cases q1 : 2 * n + mn g 0 1 < mn g 13 s - mn g 13 r
    · rw [kif_t (by rw [ka_lt (by omega) (by omega)]; exact q1), if_pos (by simp [q1])]
      rfl
    · rw [kif_f (by rw [ka_lt (by omega) (by omega)]; exact q1), show (4 : Int32) = nI 4 from rfl, ka_mul]
      by_cases q2 : 4 * (mn g 13 s - mn g 13 r) < n
      · rw [kif_f (by rw [ka_le (by omega) (by omega)]; omega), if_pos (by simp [q2])]
        rfl
      · rw [kif_t (by rw [ka_le (by omega) (by omega)]; omega), if_neg (by simp [q1, q2, hn1])]
        rfl
theorem NX.beginsAt {h : KH} (N : NX g) (ag : kAg EJ g h) (L : LOK g l) {k : Nat} (hk : k < l.length) : f_X10_begins 0 (cOf (prv l k)) (nI (l.getD k 0)) h = kret (if sBegAt g l k = true then 1 else 0) h := by
  cases k with
  | zero => rfl
  | succ k => exact N.begins ag (L.1 k (by omega)) (L.1 (k + 1) hk) (L.m (by omega) hk)
theorem NX.jaL (N : NX g) (hl : sRw g o l) (ho : ∀ p, o = some p → p < 2147483648) : ∀ (f k : Nat) (h : KH), kAg EJ g h → (∀ r, r < mn g 0 16 → kI h 18 r = cOf (sPF g r)) → k ≤ l.length → l.length < k + f → ∃ h', X10_joinsAgain_L12 f 0 (cOf o) (nI (cB g l k)) (cOf (prv l k)) (cOf (lst l k)) h = kret (nI (cB g l l.length)) h' ∧ kAg (fun a _ => a = 19) h h' ∧ (∀ i, k ≤ i → i < l.length → kI h' 19 (l.getD i 0) = nI (cB g l (i + 1) - 1)) ∧ ∀ r, (∀ i, k ≤ i → i < l.length → l.getD i 0 ≠ r) → kI h' 19 r = kI h 19 r := by
  have hR := N.1.2.2.1.1
  have L := hl.1
  intro f
  induction f with
  | zero => intro k h _ _ h1 h2; omega
  | succ f ih =>
    intro k h ag hI h1 h2
    have T := (N.mx ag).1
    unfold X10_joinsAgain_L12 X10_joinsAgain_b12
    by_cases hk : k < l.length
    · have hlk : lst l k = some (l.getD k 0) := if_pos hk
      have hr := L.1 k hk
      have ag1 := kAg.I h 19 (l.getD k 0) (nI (cB g l (k + 1) - 1))
      have agh : kAg EJ g (sI h 19 (l.getD k 0) (nI (cB g l (k + 1) - 1))) := ag.trans ag1 (fun a q z => z) (fun a q z w => z (Or.inr (Or.inl w.1)))
      obtain ⟨h', e1, e2, e3, e4⟩ := ih (k + 1) (sI h 19 (l.getD k 0) (nI (cB g l (k + 1) - 1))) agh (fun r hr => by rw [kI_sI, if_neg (by omega)]; exact hI r hr) (by omega) (by omega)
      have hnx := (N.next agh (fun r hr => by rw [kI_sI, if_neg (by omega)]; exact hI r hr) ho hl).2 k hk
      have T1 := (N.mx agh).1
      have hcp := cB_pos g l k
      have hdist : ∀ i i', i < l.length → i' < l.length → i ≠ i' → l.getD i 0 ≠ l.getD i' 0 := fun i i' q1 q2 q3 e => by
        rcases Nat.lt_or_gt_of_ne q3 with q | q
        · have := L.2 i i' q q2
          rw [e] at this
          unfold sBef at this
          omega
        · have := L.2 i' i q q1
          rw [e] at this
          unfold sBef at this
          omega
      have hb34 : ∀ s0 : Int32, nI (cB g l k) + s0 = nI (cB g l (k + 1)) → X10_joinsAgain_b34 (X10_joinsAgain_L12 f) 0 (cOf o) (nI (l.getD k 0)) s0 (nI (cB g l k)) h = kret (nI (cB g l l.length)) h' := by
        intro s0 hs
        unfold X10_joinsAgain_b34
        rw [hs, ka_pred (by omega), gN_k T.d0 T.r24, pAI_k T.d19 (by rw [T.n19]; omega) (by omega), kV_k T1.d0, hnx, kb_ret]
        exact e1
      refine ⟨h', ?_, ag1.trans e2 (fun a q z w => z w.1) (fun a q z => z), fun i q1 q2 => ?_, fun r hr => ?_⟩
      · rw [hlk]
        rw [kif_f (by show ¬ nI (l.getD k 0) = -1; rw [ka_n1 (by omega)]; exact fun z => z), kV_k T.d0]
        rw [show cOf (some (l.getD k 0)) = nI (l.getD k 0) from rfl, N.beginsAt ag L hk, kb_ret]
        have hstep : cB g l (k + 1) = cB g l k + if sBegAt g l k = true then 1 else 0 := rfl
        by_cases hbk : sBegAt g l k = true
        · rw [if_pos hbk] at hstep
          rw [if_pos hbk, kif_f (by decide)]
          exact hb34 1 (by rw [nI_1, hstep])
        · rw [if_neg hbk] at hstep
          rw [if_neg hbk, kif_t rfl]
          refine hb34 0 ?_
          show nI _ + nI 0 = _
          rw [ka_add, hstep]
      · by_cases hik : i = k
        · rw [hik, e4 _ (fun i' q3 q4 => (hdist k i' hk q4 (by omega)).symm), kI_sI, if_pos ⟨rfl, rfl⟩]
        · exact e3 i (by omega) q2
      · rw [e4 r (fun i q3 q4 => hr i (by omega) q4), kI_sI, if_neg (fun z => hr k (Nat.le_refl _) hk z.2.symm)]
    · have hlk : lst l k = none := if_neg hk
      obtain rfl : k = l.length := by omega
      rw [hlk]
      exact ⟨h, by rw [kif_t (show cOf none = -1 from rfl)], (kAg.rf h).sub (fun _ _ z => z.elim), fun i q1 q2 => by omega, fun r _ => rfl⟩
/-- what joins leaves: whose the readings are, and a row's trips -/
def JT (g h : KH) (l : List Nat) : Prop := ∀ i, i < l.length → kI h 19 (l.getD i 0) = nI (cB g l (i + 1) - 1)
theorem NX.joinsAgain {h : KH} (N : NX g) (hl : sRw g o l) (ho : ∀ p, o = some p → p < 2147483648) (ag : kAg EJ g h) (hI : ∀ r, r < mn g 0 16 → kI h 18 r = cOf (sPF g r)) : ∃ h', f_X10_joinsAgain 0 (cOf o) h = kret (nI (cB g l l.length)) h' ∧ kAg EJ g h' ∧ (∀ r, r < mn g 0 16 → kI h' 18 r = cOf (sPF g r)) ∧ JT g h' l ∧ kAg (fun a _ => a = 19) h h' := by
  obtain ⟨h', e1, e2, e3, e4⟩ := N.jaL hl ho kF 0 h ag hI (by omega) (by have := hl.1.len'; have := N.1.2.2.1.1; unfold kF; omega)
  refine ⟨h', ?_, ag.trans e2 (fun a q z => z) (fun a q z w => z (Or.inr (Or.inl w))), fun r hr => ?_, fun i hi => e3 i (Nat.zero_le _) hi, e2⟩
  · unfold f_X10_joinsAgain
    rw [kV_k (N.mx ag).1.d0, (N.next ag hI ho hl).1, kb_ret]
    exact e1
  · rw [(e2.1 18 r (by omega)).1]
    exact hI r hr
theorem NX.joinsL (N : NX g) (hl : sRw g o l) (ho : ∀ p, o = some p → p < 2147483648) : ∀ (f i : Nat) (h : KH), kAg EJ g h → (∀ r, r < i → r < mn g 0 16 → kI h 18 r = cOf (sPF g r)) → i ≤ mn g 0 16 → mn g 0 16 < i + f → ∃ h', X10_joins_L2 f 0 (cOf o) (nI i) h = kret (nI (cB g l l.length)) h' ∧ kAg EJ g h' ∧ (∀ r, r < mn g 0 16 → kI h' 18 r = cOf (sPF g r)) ∧ JT g h' l ∧ kAg (fun a _ => a = 18 ∨ a = 19) h h' := by
  have hR := N.1.2.2.1
  intro f
  induction f with
  | zero => intro i h _ _ h1 h2; omega
  | succ f ih =>
    intro i h ag hI h1 h2
    have Mh := N.mx ag
    have T := Mh.1
    unfold X10_joins_L2 X10_joins_b2
    rw [gI_k T.d0, NX.e ag 0 16 (by omega) (by omega) (by omega), hR.2]
    by_cases hi : mn g 0 16 ≤ i
    · obtain ⟨h', e1, e2, e3, e4, e5⟩ := N.joinsAgain hl ho ag (fun r hr => hI r (by omega) hr)
      exact ⟨h', by rw [kif_t (by rw [ka_le (by omega) (by omega)]; exact hi), kV_k T.d0, e1, kb_ret], e2, e3, e4, e5.sub (fun a k z => Or.inr z)⟩
    · have e16 : mn h 0 16 = mn g 0 16 := mn_cg1 (NX.e ag 0 16 (by omega) (by omega) (by omega))
      have epf : sPF h i = sPF g i := sPF_cg (NX.e ag 0 8 (by omega) (by omega) (by omega)) (fun a ha k => NX.e ag a k (by omega) (by omega) (by omega)) i
      have ag1 := kAg.I h 18 i (cOf (sPF g i))
      have agh : kAg EJ g (sI h 18 i (cOf (sPF g i))) := ag.trans ag1 (fun a q z => z) (fun a q z w => z (Or.inl w.1))
      obtain ⟨h', e1, e2, e3, e4, e5⟩ := ih (i + 1) (sI h 18 i (cOf (sPF g i))) agh (fun r q1 q2 => by
        rw [kI_sI]
        by_cases hri : r = i
        · rw [if_pos ⟨rfl, hri⟩, hri]
        · rw [if_neg (by omega)]
          exact hI r (by omega) q2) (by omega) (by omega)
      refine ⟨h', ?_, e2, e3, e4, ag1.trans e5 (fun a k q z => q (Or.inl z.1)) (fun a k q => q)⟩
      rw [kif_f (by rw [ka_le (by omega) (by omega)]; exact hi), gN_k T.d0 T.r23, kV_k T.d0, Mh.plateFor (show i < mn h 0 16 by omega), kb_ret, epf, pAI_k T.d18 (by rw [T.n18]; omega) (by omega), nI_1]
      exact e1
theorem NX.joins {h : KH} (N : NX g) (hl : sRw g o l) (ho : ∀ p, o = some p → p < 2147483648) (ag : kAg EJ g h) : ∃ h', f_X10_joins 0 (cOf o) h = kret (nI (cB g l l.length)) h' ∧ kAg EJ g h' ∧ (∀ r, r < mn g 0 16 → kI h' 18 r = cOf (sPF g r)) ∧ JT g h' l ∧ kAg (fun a _ => a = 18 ∨ a = 19) h h' :=
  N.joinsL hl ho kF 0 h ag (fun r hr => absurd hr (Nat.not_lt_zero _)) (by omega) (by have := N.1.2.2.1.1; unfold kF; omega)
end KJOINS
end
section
/-! trips: the class's -/
theorem op_q {τ : Type} {fX fM : Int32 → Int32 → Int32 → KH → KO τ} {mp : Nat → Option Int32} {j : Nat} {hx hm h' : KH} {a b c : Int32} (R : RR j hx hm) (v : τ) (h1 : fX a b c (sX hx 0) = kret v (sX hx 0)) (h4 : fM a b c hm = kret v h') (am : kAg (fun a _ => a = 18 ∨ a = 19) (sI hm 0 35 0) h') : OP1 fX fM mp j hx hm a b c :=
  op_ok 0 v h1 h4 (by rw [(am.1 0 35 (by omega)).1, kI_sI, if_pos ⟨rfl, rfl⟩]) (((R.X 0).thr 0).up.fr (kAg.rf _) am (fun _ h => h) (fun a k h => h.elim) (fun a k h => by omega))
theorem RR.fr35 {D E : Nat → Nat → Prop} {j : Nat} {hx hm hx' hm' : KH} (R : RR j hx hm) (ag : kAg D hx hx') (am : kAg E hm hm') (hd : ∀ a, kd hx a = 0 → kd hx' a = 0) (z : ∀ k, k < 60 → kI hx' 35 k = 0 ∨ kI hx' 35 k = 1)
    (hD : ∀ a k, D a k → a = 36 ∨ a = 20 ∨ a = 34 ∨ a = 35 ∨ a = 33 ∧ k = 2) (hE : ∀ a k, E a k → a = 18 ∨ a = 19 ∨ a = 0 ∧ k = 35) : RR j hx' hm' := by
  have hP := R.P
  obtain ⟨⟨sx, sm⟩, c1, c2, c3, c4, c5, c6, c7, c8, c9, c10, c11, c12, c13, c14, c15, c16⟩ := R
  refine ⟨⟨sx.fr ag ?_, sm.fr am ?_⟩, c1.fr ag am ?_ ?_, c2.fr ag am ?_ ?_, c3.fr ag am ?_ ?_, c4.fr ag am ?_ ?_, c5.fr ag am ?_ ?_, c6.fr ag am ?_ ?_, c7.fr ag am ?_ ?_, c8.fr ag am ?_ ?_, c9.fr ag am ?_ ?_, c10.fr hP ag am ?_ ?_, c11.fr ag am ?_ ?_, c12.fr hP ag am ?_ ?_, ⟨fun d hd => ?_, z⟩, c14.fr ag am ?_ ?_, c15.fr ag am ?_ ?_, c16.fr hd am ?_ (Nat.le_refl _)⟩
  all_goals first
    | (intro a k h1 h2; have := hD a k h2; omega)
    | (intro a k h1 h2; have := hE a k h2; omega)
    | skip
  obtain ⟨q1, q2⟩ := c13.1 d hd
  rw [(ag.1 31 d (fun w => by have := hD 31 d w; omega)).2.1, (ag.1 32 d (fun w => by have := hD 32 d w; omega)).2.1, (am.1 20 d (fun w => by have := hE 20 d w; omega)).2.1, (am.1 21 d (fun w => by have := hE 21 d w; omega)).2.1]
  exact ⟨q1, q2⟩
section KTRIPS
variable {hx hm : KH} {a : Nat} {l : List Nat}
theorem x3_baL (P : PSt hx a) (B : PBe hx hm a l) (hl : l.length ≤ 60) {e : Nat} (he : e ≤ l.length) : ∀ (f k : Nat), k ≤ e → e < k + f → X3_beginningsAhead_L4 f a (nI e) (nI (cB hm l k)) (nI k) hx = kret (nI (cB hm l e)) hx := by
  obtain ⟨p1, p2, p3, p4, p5, p6, p7⟩ := P
  intro f
  induction f with
  | zero => intro k h1 h2; omega
  | succ f ih =>
    intro k h1 h2
    unfold X3_beginningsAhead_L4 X3_beginningsAhead_b4
    by_cases hk : e ≤ k
    · rw [kif_t (by rw [ka_le (by omega) (by omega)]; exact hk), show k = e by omega]
    · have e2 := ih (k + 1) (by omega) (by omega)
      have hs : cB hm l (k + 1) = cB hm l k + if sBegAt hm l k = true then 1 else 0 := rfl
      rw [kif_f (by rw [ka_le (by omega) (by omega)]; exact hk), gN_k p1 p7, gAI_k p4 (by omega) (by omega), B k (by omega)]
      unfold X3_beginningsAhead_b21
      by_cases g : sBegAt hm l k = true
      · rw [if_pos g] at hs
        rw [if_pos g, kif_f (by decide), nI_1, nI_1, ← hs]
        exact e2
      · rw [if_neg g] at hs
        rw [if_neg g, kif_t rfl, nI_1, show cB hm l k = cB hm l (k + 1) from hs.symm]
        exact e2
theorem x3_count (P : PSt hx a) (W : PRw hx a l) (B : PBe hx hm a l) : f_X3_tripCount a hx = kret (nI (cB hm l l.length)) hx := by
  have h1 := x3_baL (hm := hm) P B W.1 (Nat.le_refl _) kF 0 (by omega) (by have := W.1; unfold kF; omega)
  unfold f_X3_tripCount
  rw [gI_k P.1, W.2.1, kV_k P.1]
  rw [show f_X3_beginningsAhead a (nI l.length) hx = kret (nI (cB hm l l.length)) hx from h1, kb_ret]
theorem kCx.tripWith {r i : Nat} (K : kCx hx hm) (P : PSt hx a) (W : PRw hx a l) (L : LOK hm l) (B : PBe hx hm a l) (hi : i < l.length) (hr : r < mn hm 0 16) (e : l.getD i 0 = r) : f_X3_tripWith a (200 + 4 * r) hx = kret (nI (cB hm l (i + 1) - 1)) hx := by
  have h1 := x3_baL (hm := hm) P B W.1 (show i + 1 ≤ l.length by omega) kF 0 (by omega) (by have := W.1; unfold kF; omega)
  unfold f_X3_tripWith
  rw [kV_k P.1, K.placeOf P W L hi hr e, kb_ret, kV_k P.1, nI_1]
  rw [show f_X3_beginningsAhead a (nI (i + 1)) hx = kret (nI (cB hm l (i + 1))) hx from h1, kb_ret, ka_pred (cB_pos hm l i)]
/-- the spare row joined anew -/
theorem kCx.jnL {A : Nat → Option Nat} {p : Nat} : ∀ (f i : Nat) (h : KH) (l : List Nat), kCx h hm → p < mn hm 0 8 → (∀ r, r < mn hm 0 16 → kR h (200 + 4 * r) 5 = pAd (A r) ∧ ∀ q, A r = some q → q < mn hm 0 8) → PSt h 33 → PRw h 33 l → LOK hm l → (∀ r, r < mn hm 0 16 → ((∃ k, k < l.length ∧ l.getD k 0 = r) ↔ r < i ∧ A r = some p)) → (∀ k, k < 60 → kI h 35 k = 0 ∨ kI h 35 k = 1) → i ≤ mn hm 0 16 → mn hm 0 16 < i + f → ∃ h' l', X9_joinAnew_L10 f 0 (100 + 8 * p) (nI i) h = kret 33 h' ∧ kAg (fun a k => a = 33 ∧ k = 2 ∨ a = 34 ∨ a = 35) h h' ∧ PSt h' 33 ∧ PRw h' 33 l' ∧ LOK hm l' ∧ (∀ r, r < mn hm 0 16 → ((∃ k, k < l'.length ∧ l'.getD k 0 = r) ↔ A r = some p)) ∧ PBe h' hm 33 l' ∧ (∀ k, k < 60 → kI h' 35 k = 0 ∨ kI h' 35 k = 1) := by
  intro f
  induction f with
  | zero => intro i h l _ _ _ _ _ _ _ _ h1 h2; omega
  | succ f ih =>
    intro i h l K hp hA P W L hm1 z h1 h2
    have S := K.1.1
    have hR := K.R
    have hP := K.P
    unfold X9_joinAnew_L10 X9_joinAnew_b10
    rw [gI_k S.d0, hR.1]
    by_cases hi : mn hm 0 16 ≤ i
    · obtain ⟨h', e1, e2, e3⟩ := K.joinAll (Or.inl rfl) P W L
      have agD : kAg (fun a k => a = 33 ∧ k = 2 ∨ a = 34 ∨ a = 35) h h' := e2.sub (fun a k w => by omega)
      have S' : kSx h' := S.fr agD (fun a k q w => by omega)
      refine ⟨h', l, ?_, agD, P.fr agD (fun k hk w => by omega), W.fr e2 (by omega) (fun k => by omega), L, fun r hr => ?_, e3, fun k hk => ?_⟩
      · rw [kif_t (by rw [ka_le (by omega) (by omega)]; exact hi), gN_k S.d0 S.r0_11, gN_k S.d0 S.r0_0, kV_k S.d33, e1, kb_ret, gN_k S'.d0 S'.r0_11]
      · rw [hm1 r hr]
        exact ⟨fun w => w.2, fun w => ⟨by omega, w⟩⟩
      · by_cases hkl : k < l.length
        · have := e3 k hkl
          rw [show (33 : Nat) + 2 = 35 from rfl] at this
          rw [this]
          split
          · exact Or.inr rfl
          · exact Or.inl rfl
        · rw [(e2.1 35 k (by omega)).1]
          exact z k hk
    · have hir : i < mn hm 0 16 := by omega
      obtain ⟨eA, hAi⟩ := hA i hir
      rw [kif_f (by rw [ka_le (by omega) (by omega)]; exact hi), gN_k S.d0 S.r0_6, gAN_k S.d28 (by rw [S.n28]; omega) (by omega) (K.rd hir).2.1.1, gR_k (K.rd hir).1.1, eA, K.numberOf hAi, kb_ret, gI_k (K.2.2.2.2.1.2.1 p hp).1.1, (K.2.2.2.2.1.2.1 p hp).2.2.1]
      by_cases g : A i = some p
      · have hnr : ∀ k, k < l.length → l.getD k 0 ≠ i := fun k hk w => by
          have := ((hm1 i hir).1 ⟨k, hk, w⟩).1
          omega
        obtain ⟨h', k0, e1, e2, e3, e4, e5, e6, e7⟩ := K.ins (Or.inl rfl) P W L hir hnr (by have := L.len hir hnr; omega) W.1 (N := 60) z
        have agD : kAg (fun a k => a = 33 ∧ k = 2 ∨ a = 34 ∨ a = 35) h h' := e3.sub (fun a k w => by unfold DA at w; omega)
        obtain ⟨h'', l', f1, f2, f3⟩ := ih (i + 1) h' (l.insertIdx k0 i) (K.fr agD (fun a k w => by unfold DK; omega)) hp (fun r hr => by rw [(agD.1 (200 + 4 * r) 5 (by omega)).2.2]; exact hA r hr) (P.fr agD (fun k hk w => by omega)) e6 e7 (fun r hr => by
          constructor
          · rintro ⟨k, hk, rfl⟩
            rw [ins_len e2] at hk
            rw [ins_at e2] at hr ⊢
            by_cases w1 : k < k0
            · rw [if_pos w1] at hr ⊢
              have := (hm1 _ hr).1 ⟨k, by omega, rfl⟩
              exact ⟨by omega, this.2⟩
            · rw [if_neg w1] at hr ⊢
              by_cases w2 : k = k0
              · rw [if_pos w2]
                exact ⟨by omega, g⟩
              · rw [if_neg w2] at hr ⊢
                have := (hm1 _ hr).1 ⟨k - 1, by omega, rfl⟩
                exact ⟨by omega, this.2⟩
          · rintro ⟨w1, w2⟩
            by_cases hri : r = i
            · exact ⟨k0, by rw [ins_len e2]; omega, by rw [ins_at e2, if_neg (by omega), if_pos rfl, hri]⟩
            · obtain ⟨k, hk, ek⟩ := (hm1 r hr).2 ⟨by omega, w2⟩
              by_cases hki : k < k0
              · exact ⟨k, by rw [ins_len e2]; omega, by rw [ins_at e2, if_pos hki, ek]⟩
              · exact ⟨k + 1, by rw [ins_len e2]; omega, by rw [ins_at e2, if_neg (by omega), if_neg (by omega)]; exact ek⟩) e5 (by omega) (by omega)
        refine ⟨h'', l', ?_, agD.trans f2 (fun a k q => q) (fun a k q => q), f3⟩
        rw [kif_t (by rw [g]; rfl), gN_k S.d0 S.r0_11, kV_k S.d33, e1, kb_ret]
        unfold X9_joinAnew_b48
        rw [nI_1]
        exact f1
      · obtain ⟨h'', l', f1, f2⟩ := ih (i + 1) h l K hp hA P W L (fun r hr => by
          rw [hm1 r hr]
          constructor
          · rintro ⟨w1, w2⟩
            exact ⟨by omega, w2⟩
          · rintro ⟨w1, w2⟩
            refine ⟨?_, w2⟩
            by_cases hri : r = i
            · rw [hri] at w2
              exact absurd w2 g
            · omega) z (by omega) (by omega)
        refine ⟨h'', l', ?_, f2⟩
        rw [kif_f (by
          rw [show nI p = cOf (some p) from rfl, cOf_inj (fun q e => by have := hAi q e; omega) (fun q e => by cases e; omega)]
          exact g)]
        unfold X9_joinAnew_b48
        rw [nI_1]
        exact f1
theorem kCx.pst33 (K : kCx hx hm) : PSt hx 33 := ⟨K.1.1.d33, K.1.1.d34, K.1.1.n34, K.1.1.d35, K.1.1.n35, K.1.1.2.2.2.2.2.2.2 0 (by decide), K.1.1.2.2.2.2.2.2.2 1 (by decide)⟩
theorem kCx.joinAnew {A : Nat → Option Nat} {p : Nat} (K : kCx hx hm) (hp : p < mn hm 0 8) (hA : ∀ r, r < mn hm 0 16 → kR hx (200 + 4 * r) 5 = pAd (A r) ∧ ∀ q, A r = some q → q < mn hm 0 8) (z : ∀ k, k < 60 → kI hx 35 k = 0 ∨ kI hx 35 k = 1) : ∃ h' l', f_X9_joinAnew 0 (100 + 8 * p) hx = kret 33 h' ∧ kAg (fun a k => a = 33 ∧ k = 2 ∨ a = 34 ∨ a = 35) hx h' ∧ PSt h' 33 ∧ PRw h' 33 l' ∧ LOK hm l' ∧ (∀ r, r < mn hm 0 16 → ((∃ k, k < l'.length ∧ l'.getD k 0 = r) ↔ A r = some p)) ∧ PBe h' hm 33 l' ∧ (∀ k, k < 60 → kI h' 35 k = 0 ∨ kI h' 35 k = 1) := by
  have ag0 : kAg (fun a k => a = 33 ∧ k = 2 ∨ a = 34 ∨ a = 35) hx (sI hx 33 2 0) := (kAg.I hx 33 2 0).sub (fun a k w => Or.inl w)
  obtain ⟨h', l', e1, e2, e3⟩ := kCx.jnL (A := A) (p := p) kF 0 (sI hx 33 2 0) [] (K.fr ag0 (fun a k w => by unfold DK; omega)) hp (fun r hr => by rw [(ag0.1 (200 + 4 * r) 5 (by omega)).2.2]; exact hA r hr) (K.pst33.fr ag0 (fun k hk w => by omega)) ⟨by decide, by rw [kI_sI, if_pos ⟨rfl, rfl⟩]; rfl, fun k hk => absurd hk (Nat.not_lt_zero _)⟩ ⟨fun k hk => absurd hk (Nat.not_lt_zero _), fun i k _ hk => absurd hk (Nat.not_lt_zero _)⟩ (fun r hr => ⟨fun ⟨k, hk, _⟩ => absurd hk (Nat.not_lt_zero _), fun w => absurd w.1 (Nat.not_lt_zero _)⟩) (fun k hk => by rw [kI_sI, if_neg (by omega)]; exact z k hk) (by omega) (by have := K.R.2.2; unfold kF; omega)
  refine ⟨h', l', ?_, ag0.trans e2 (fun a k q => q) (fun a k q => q), e3⟩
  unfold f_X9_joinAnew
  rw [gN_k K.1.1.d0 K.1.1.r0_11, pI_k K.1.1.d33]
  exact e1
end KTRIPS
theorem RR.z35 {j : Nat} {hx hm : KH} (R : RR j hx hm) : ∀ k, k < 60 → kI hx 35 k = 0 ∨ kI hx 35 k = 1 := R.2.2.2.2.2.2.2.2.2.2.2.2.2.1.2
theorem o_trips : OPI (fun a b c h => f_X9_trips 0 a h) (fun a b c h => f_X10_trips 0 a h) (mp1 3) := by
  intro j hx hm a b c hj R
  have S := R.1.1.X 0
  have T := R.1.2
  have RX := R.X 0
  have RT := RX.thr 0
  have K := RT.kCx
  have N := RT.NX hj
  have hP := R.P
  rcases ka_below a (mn hm 0 8) (by omega) with ⟨p, hp, rfl, q1, q2⟩ | hq
  · obtain ⟨l, l1, l2, l3, l4⟩ := RT.AS.2 p hp
    obtain ⟨P, hA, kp, kq⟩ := K.pst (p := p) hp
    obtain ⟨h', e1, e2, e3, e4, e5⟩ := N.joins (o := some p) (l := l) ⟨l1, l2⟩ (fun q e => by cases e; omega) ((kAg.rf (sI hm 0 35 0)).sub (fun _ _ z => z.elim))
    refine op_q R (nI (cB (sI hm 0 35 0) l l.length)) ?_ ?_ e5
    · show f_X9_trips 0 (nI p) (sX hx 0) = _
      unfold f_X9_trips
      rw [kV_k S.d0, RX.plate hp q1 q2, kb_ret, gN_k kp kq, kV_k P.1, x3_count P l3 l4, kb_ret]
    · show f_X10_trips 0 (nI p) hm = _
      unfold f_X10_trips
      rw [kV_k T.d0, R.isPlate q1 q2, kb_ret, kif_f (by decide)]
      unfold X10_trips_b14
      rw [kV_k T.d0, can_0 T, kb_ret, kif_f (by decide), kV_k (T.thr 0).d0]
      rw [show f_X10_joins 0 (nI p) (sI hm 0 35 0) = _ from e1, kb_ret]
      rfl
  · refine op_no R 3 1 0 rfl (by decide) ?_ ?_
    · show f_X9_trips 0 a (sX hx 0) = _
      unfold f_X9_trips
      rw [kV_k S.d0, RX.plateNo hq]
      rfl
    · show f_X10_trips 0 a hm = _
      unfold f_X10_trips
      rw [kV_k T.d0, R.isPlateNo hq, kb_ret, kif_t rfl]
      unfold X10_trips_b14
      rw [kV_k T.d0, can_n T (show (1 : Int32) ≠ 0 by decide), kb_ret, kif_t rfl]
      rfl
theorem o_tripsAnew : OPR (fun a b c h => f_X9_tripsAnew 0 a h) (fun a b c h => f_X10_tripsAnew 0 a h) (mp1 3) := by
  intro j hx hm a b c hj R
  have S := R.1.1.X 0
  have T := R.1.2
  have RX := R.X 0
  have RT := RX.thr 0
  have K := RT.kCx
  have N := RT.NX hj
  have hP := R.P
  rcases ka_below a (mn hm 0 8) (by omega) with ⟨p, hp, rfl, q1, q2⟩ | hq
  · obtain ⟨hx1, l, y1, y2, y3, y4, y5, y6, y7, y8⟩ := K.joinAnew (p := p) hp RT.AS.1 RT.z35
    obtain ⟨h', e1, e2, e3, e4, e5⟩ := N.joins (o := some p) (l := l) ⟨y5, fun r hr => (y6 r hr).symm⟩ (fun q e => by cases e; omega) ((kAg.rf (sI hm 0 35 0)).sub (fun _ _ z => z.elim))
    refine op_ok (hx1 := hx1) (hm1 := h') 0 (nI (cB (sI hm 0 35 0) l l.length)) ?_ ?_ (by rw [(e5.1 0 35 (by omega)).1, kI_sI, if_pos ⟨rfl, rfl⟩]) ?_
    · show f_X9_tripsAnew 0 (nI p) (sX hx 0) = _
      unfold f_X9_tripsAnew
      rw [kV_k S.d0, RX.plate hp q1 q2, kb_ret, kV_k S.d0, y1, kb_ret, kV_k y3.1, x3_count y3 y4 y7, kb_ret]
    · show f_X10_tripsAnew 0 (nI p) hm = _
      unfold f_X10_tripsAnew
      rw [kV_k T.d0, R.isPlate q1 q2, kb_ret, kif_f (by decide)]
      unfold X10_tripsAnew_b14
      rw [kV_k T.d0, can_0 T, kb_ret, kif_f (by decide), kV_k (T.thr 0).d0]
      rw [show f_X10_joins 0 (nI p) (sI hm 0 35 0) = _ from e1, kb_ret]
      rfl
    · exact RT.fr35 y2 e5 (y2.nf (fun a z => by omega)) y8 (fun a k z => by omega) (fun a k z => by omega)
  · refine op_noR R 3 1 0 rfl (by decide) ?_ ?_
    · show f_X9_tripsAnew 0 a (sX hx 0) = _
      unfold f_X9_tripsAnew
      rw [kV_k S.d0, RX.plateNo hq]
      rfl
    · show f_X10_tripsAnew 0 a hm = _
      unfold f_X10_tripsAnew
      rw [kV_k T.d0, R.isPlateNo hq, kb_ret, kif_t rfl]
      unfold X10_tripsAnew_b14
      rw [kV_k T.d0, can_n T (show (1 : Int32) ≠ 0 by decide), kb_ret, kif_t rfl]
      rfl
theorem o_tripOf : OPI (fun a b c h => f_X9_tripOf 0 a h) (fun a b c h => f_X10_tripOf 0 a h) (mp1 3) := by
  intro j hx hm a b c hj R
  have S := R.1.1.X 0
  have T := R.1.2
  have RX := R.X 0
  have RT := RX.thr 0
  have K := RT.kCx
  have K0 := RX.kCx
  have N := RT.NX hj
  have M := R.MX
  have M1 := RT.MX
  have hP := R.P
  have hR := M.2.2.1.1
  rcases ka_below a (mn hm 0 16) (by omega) with ⟨r, hr, rfl, q1, q2⟩ | hq
  · have eP := RT.plateR (r := r) hr
    cases epf : sPF (sI hm 0 35 0) r with
    | none =>
      rw [epf] at eP
      refine op_rd R (-1) ?_ ?_
      · show f_X9_tripOf 0 (nI r) (sX hx 0) = _
        unfold f_X9_tripOf
        rw [kV_k S.d0, K0.reading hr q1 q2, kb_ret, gR_k (K0.rd hr).1.1, eP]
        rfl
      · show f_X10_tripOf 0 (nI r) hm = _
        unfold f_X10_tripOf
        rw [kV_k T.d0, M.isReading q1 q2, kb_ret, kif_f (by decide)]
        unfold X10_tripOf_b14
        rw [kV_k T.d0, can_0 T, kb_ret, kif_f (by decide), kV_k (T.thr 0).d0, M1.plateFor (r := r) hr, kb_ret, epf, kif_t (show cOf none = -1 from rfl)]
    | some p =>
      have hp : p < mn hm 0 8 := M1.pf_lt (r := r) hr epf
      rw [epf] at eP
      obtain ⟨l, l1, l2, l3, l4⟩ := RT.AS.2 p hp
      obtain ⟨P, hA, kp, kq⟩ := K.pst (p := p) hp
      obtain ⟨i, hi, ei⟩ := (l2 r hr).1 epf
      obtain ⟨h', e1, e2, e3, e4, e5⟩ := N.joins (o := some p) (l := l) ⟨l1, l2⟩ (fun q e => by cases e; omega) ((kAg.rf (sI hm 0 35 0)).sub (fun _ _ z => z.elim))
      have T' := (N.mx e2).1
      refine op_q R (nI (cB (sI hm 0 35 0) l (i + 1) - 1)) ?_ ?_ e5
      · show f_X9_tripOf 0 (nI r) (sX hx 0) = _
        unfold f_X9_tripOf
        rw [kV_k S.d0, K0.reading hr q1 q2, kb_ret, gR_k (K0.rd hr).1.1, eP]
        show gR (sX hx 0) (200 + 4 * r) 6 5 (fun o2 => kmay o2 (fun a3 => gN (sX hx 0) a3 5 3 (fun a4 => kcallV 4 a4 (sX hx 0) (f_X3_tripWith a4 (200 + 4 * r) (sX hx 0)) (fun x1 h2 => X9_tripOf_b28 x1 h2)))) = _
        rw [gR_k (K0.rd hr).1.1, eP]
        show gN (sX hx 0) (100 + 8 * p) 5 3 (fun a4 => kcallV 4 a4 (sX hx 0) (f_X3_tripWith a4 (200 + 4 * r) (sX hx 0)) (fun x1 h2 => X9_tripOf_b28 x1 h2)) = _
        rw [gN_k kp kq, kV_k P.1, K.tripWith P l3 l1 l4 hi hr ei, kb_ret]
        rfl
      · show f_X10_tripOf 0 (nI r) hm = _
        have hne : ¬ cOf (some p) = -1 := by
          show ¬ nI p = -1
          rw [ka_n1 (by omega)]
          exact fun z => z
        have e4i := e4 i hi
        rw [ei] at e4i
        unfold f_X10_tripOf
        rw [kV_k T.d0, M.isReading q1 q2, kb_ret, kif_f (by decide)]
        unfold X10_tripOf_b14
        rw [kV_k T.d0, can_0 T, kb_ret, kif_f (by decide), kV_k (T.thr 0).d0, M1.plateFor (r := r) hr, kb_ret, epf, kif_f hne, kV_k (T.thr 0).d0, e1, kb_ret, gN_k T'.d0 T'.r24, gAI_k T'.d19 (by rw [T'.n19]; omega) (by omega), e4i]
  · refine op_no R 3 1 0 rfl (by decide) ?_ ?_
    · show f_X9_tripOf 0 a (sX hx 0) = _
      unfold f_X9_tripOf
      rw [kV_k S.d0, K0.readingNo hq]
      rfl
    · show f_X10_tripOf 0 a hm = _
      unfold f_X10_tripOf
      rw [kV_k T.d0, M.isReadingNo hq, kb_ret, kif_t rfl]
      unfold X10_tripOf_b14
      rw [kV_k T.d0, can_n T (show (1 : Int32) ≠ 0 by decide), kb_ret, kif_t rfl]
end
section
/-! ways and tolls -/
def wS (g : KH) (l : List Nat) : Nat → Nat → Nat
  | 0, _ => 0
  | n + 1, i => if i < l.length ∧ sBegAt g l i = false then mn g 2 (8 * mn g 12 (l.getD (i - 1) 0) + mn g 12 (l.getD i 0)) + wS g l n (i + 1) else 0
def tolF (g : KH) (l : List Nat) (p k : Nat) : Nat := mn g 3 (mn g 8 p) * (wS g l 60 (k + 1) + 2)
theorem sBeg_far {g : KH} (N : NX g) {r s : Nat} (hr : r < mn g 0 16) (hs : s < mn g 0 16) (h : sBeg g r s = false) : kI g 2 (8 * mn g 12 r + mn g 12 s) = nI (mn g 2 (8 * mn g 12 r + mn g 12 s)) := by
  obtain ⟨g1, g3, -, -⟩ := N.dist hr hs
  rcases N.2.1 _ _ g1 g3 with w | ⟨n, hn, w⟩
  · unfold sBeg at h
    rw [w] at h
    simp at h
  · rw [mn_of w (by omega)]
    exact w
theorem cB_ex {g : KH} {l : List Nat} {t : Nat} : ∀ n, t < cB g l n → ∃ k, k < n ∧ sBegAt g l k = true ∧ cB g l k = t := by
  intro n
  induction n with
  | zero => intro h; exact absurd h (Nat.not_lt_zero _)
  | succ n ih =>
    intro h
    have hs : cB g l (n + 1) = cB g l n + if sBegAt g l n = true then 1 else 0 := rfl
    by_cases h2 : t < cB g l n
    · obtain ⟨k, k1, k2⟩ := ih h2
      exact ⟨k, by omega, k2⟩
    · by_cases hb : sBegAt g l n = true
      · rw [if_pos hb] at hs
        exact ⟨n, by omega, hb, by omega⟩
      · rw [if_neg hb] at hs
        omega
theorem bF {b : Bool} (h : ¬ b = true) : b = false := by
  cases b
  · rfl
  · exact absurd rfl h
section KTOLL
variable {hx g : KH} {a : Nat} {l : List Nat}
theorem x3_wayL (K : kCx hx g) (N : NX g) (P : PSt hx a) (W : PRw hx a l) (L : LOK g l) (B : PBe hx g a l) : ∀ (n i s f : Nat), 1 ≤ i → i < 1000 → l.length ≤ i + n → n < f → X3_wayFrom_L7 f a 1 (nI s) (nI i) hx = kret (nI (s + wS g l n i)) hx := by
  obtain ⟨p1, p2, p3, p4, p5, p6, p7⟩ := P
  have w1 := W.1
  intro n
  induction n with
  | zero =>
    intro i s f h0 h0' h1 h2
    obtain ⟨f, rfl⟩ : ∃ k, f = k + 1 := ⟨f - 1, by omega⟩
    unfold X3_wayFrom_L7 X3_wayFrom_b7
    rw [gI_k p1, W.2.1, kif_t (by rw [ka_le (by omega) (by omega)]; omega)]
    rfl
  | succ n ih =>
    intro i s f h0 h0' h1 h2
    obtain ⟨f, rfl⟩ : ∃ k, f = k + 1 := ⟨f - 1, by omega⟩
    have hw : wS g l (n + 1) i = if i < l.length ∧ sBegAt g l i = false then mn g 2 (8 * mn g 12 (l.getD (i - 1) 0) + mn g 12 (l.getD i 0)) + wS g l n (i + 1) else 0 := rfl
    unfold X3_wayFrom_L7 X3_wayFrom_b7
    rw [gI_k p1, W.2.1]
    by_cases hi : l.length ≤ i
    · rw [if_neg (by omega)] at hw
      rw [kif_t (by rw [ka_le (by omega) (by omega)]; exact hi), hw]
      rfl
    · rw [kif_f (by rw [ka_le (by omega) (by omega)]; exact hi), gN_k p1 p7, gAI_k p4 (by omega) (by omega), B i (by omega)]
      by_cases hb : sBegAt g l i = true
      · rw [if_neg (fun z => by rw [hb] at z; exact absurd z.2 (by decide))] at hw
        rw [if_pos hb, kif_f (by decide), hw]
        rfl
      · have hb' := bF hb
        rw [if_pos ⟨by omega, hb'⟩] at hw
        have r1 := L.1 (i - 1) (by omega)
        have r2 := L.1 i (by omega)
        obtain ⟨k, rfl⟩ : ∃ k, i = k + 1 := ⟨i - 1, by omega⟩
        have hfar := sBeg_far N r1 r2 hb'
        rw [if_neg hb, kif_t rfl, gN_k p1 p6, ka_pred (by omega), gAN_k p2 (by omega) (by omega) (W.2.2 _ (by omega)), gI_k (K.rd r1).1.1, (K.gate r1).2, gN_k p1 p6, gAN_k p2 (by omega) (by omega) (W.2.2 _ (by omega)), gI_k (K.rd r2).1.1, (K.gate r2).2, kV_k K.1.1.d1, K.between (K.gate r1).1 (K.gate r2).1, kb_ret, hfar, ka_add, nI_1, hw, ih (k + 1 + 1) _ f (by omega) (by omega) (by omega) (by omega), Nat.add_assoc]
theorem x3_way (K : kCx hx g) (N : NX g) (P : PSt hx a) (W : PRw hx a l) (L : LOK g l) (B : PBe hx g a l) {k : Nat} (hk : k < l.length) : f_X3_wayFrom a (nI k) 1 hx = kret (nI (wS g l 60 (k + 1))) hx := by
  have w1 := W.1
  have e := x3_wayL K N P W L B 60 (k + 1) 0 kF (by omega) (by omega) (by omega) (by unfold kF; omega)
  unfold f_X3_wayFrom
  rw [nI_1]
  rw [Nat.zero_add] at e
  exact e
theorem x9_toll {j p k : Nat} (R : RR j hx g) (N : NX g) (hp : p < mn g 0 8) (P : PSt hx a) (W : PRw hx a l) (L : LOK g l) (B : PBe hx g a l) (hk : k < l.length) : f_X9_tollFrom 0 a (nI k) (100 + 8 * p) hx = kret (nI (tolF g l p k)) hx := by
  have S := R.1.1
  obtain ⟨k1, k2⟩ := N.2.2.2.2.1 p hp
  obtain ⟨r1, r2⟩ := N.2.2.2.1 _ k1
  obtain ⟨-, -, -, -, c, c1, c2, c3⟩ := R.pl hp
  have hc : mn g 8 p = c := mn_of c3 (by omega)
  obtain ⟨v, v1, v2, v3⟩ := R.2.2.2.2.2.1 c c1
  unfold f_X9_tollFrom
  rw [gN_k S.d0 S.r0_1, gI_k (R.pl hp).1.1, c2, gAI_k S.d21 (by rw [S.n21]; omega) (by omega), v2, gN_k S.d0 S.r0_0, kV_k P.1, x3_way R.kCx N P W L B hk, kb_ret]
  unfold tolF
  rw [hc, mn_of v3 (by omega), show (2 : Int32) = nI 2 from rfl, ka_add, ka_mul]
/-- beginningOf -/
theorem x3_begL {t : Int32} (P : PSt hx a) (W : PRw hx a l) (B : PBe hx g a l) : ∀ (f i : Nat), i ≤ l.length → l.length < i + f → (∃ k, i ≤ k ∧ k < l.length ∧ sBegAt g l k = true ∧ nI (cB g l k) = t ∧ X3_beginningOf_L4 f a t (nI (cB g l i)) (nI i) hx = kret (nI k) hx) ∨ (X3_beginningOf_L4 f a t (nI (cB g l i)) (nI i) hx = kret (-1) hx ∧ ∀ k, i ≤ k → k < l.length → sBegAt g l k = true → nI (cB g l k) ≠ t) := by
  obtain ⟨p1, p2, p3, p4, p5, p6, p7⟩ := P
  have w1 := W.1
  intro f
  induction f with
  | zero => intro i h1 h2; omega
  | succ f ih =>
    intro i h1 h2
    unfold X3_beginningOf_L4 X3_beginningOf_b4
    rw [gI_k p1, W.2.1]
    by_cases hi : l.length ≤ i
    · rw [kif_t (by rw [ka_le (by omega) (by omega)]; exact hi)]
      exact Or.inr ⟨rfl, fun k q1 q2 => by omega⟩
    · have hs : cB g l (i + 1) = cB g l i + if sBegAt g l i = true then 1 else 0 := rfl
      have e := ih (i + 1) (by omega) (by omega)
      rw [kif_f (by rw [ka_le (by omega) (by omega)]; exact hi), gN_k p1 p7, gAI_k p4 (by omega) (by omega), B i (by omega)]
      unfold X3_beginningOf_b31
      by_cases hb : sBegAt g l i = true
      · rw [if_pos hb] at hs
        rw [if_pos hb, kif_f (by decide)]
        by_cases ht : nI (cB g l i) = t
        · rw [kif_t ht]
          exact Or.inl ⟨i, by omega, by omega, hb, ht, rfl⟩
        · rw [kif_f ht, nI_1, nI_1, ← hs]
          rcases e with ⟨k, k1, k2, k3, k4, k5⟩ | ⟨e1, e2⟩
          · exact Or.inl ⟨k, by omega, k2, k3, k4, k5⟩
          · refine Or.inr ⟨e1, fun k q1 q2 q3 => ?_⟩
            by_cases hki : k = i
            · rw [hki]; exact ht
            · exact e2 k (by omega) q2 q3
      · rw [if_neg hb] at hs
        rw [if_neg hb, kif_t rfl, nI_1, show cB g l i = cB g l (i + 1) from hs.symm]
        rcases e with ⟨k, k1, k2, k3, k4, k5⟩ | ⟨e1, e2⟩
        · exact Or.inl ⟨k, by omega, k2, k3, k4, k5⟩
        · refine Or.inr ⟨e1, fun k q1 q2 q3 => ?_⟩
          by_cases hki : k = i
          · rw [hki] at q3
            exact absurd q3 hb
          · exact e2 k (by omega) q2 q3
theorem x3_beg {t : Int32} (P : PSt hx a) (W : PRw hx a l) (B : PBe hx g a l) : (∃ k, k < l.length ∧ sBegAt g l k = true ∧ nI (cB g l k) = t ∧ f_X3_beginningOf a t hx = kret (nI k) hx) ∨ (f_X3_beginningOf a t hx = kret (-1) hx ∧ ∀ k, k < l.length → sBegAt g l k = true → nI (cB g l k) ≠ t) := by
  rcases x3_begL (t := t) (g := g) P W B kF 0 (by omega) (by have := W.1; unfold kF; omega) with ⟨k, -, k2, k3, k4, k5⟩ | ⟨e1, e2⟩
  · exact Or.inl ⟨k, k2, k3, k4, k5⟩
  · exact Or.inr ⟨e1, fun k hk => e2 k (Nat.zero_le _) hk⟩
end KTOLL
/-! the model's -/
section KTOLLM
variable {g h : KH} {p : Nat} {l : List Nat}
theorem NX.firstL (N : NX g) (ag : kAg EJ g h) (hI : ∀ r, r < mn g 0 16 → kI h 18 r = cOf (sPF g r)) (hl : sRw g (some p) l) (hp : p < 2147483648) (J : JT g h l) {k : Nat} (hk : k < l.length) (hb : sBegAt g l k = true) : ∀ (f i : Nat), i ≤ k → k < i + f → X10_firstOf_L7 f 0 (nI p) (nI (cB g l k)) (nI (l.getD i 0)) h = kret (nI (l.getD k 0)) h := by
  have T := (N.mx ag).1
  have hR := N.1.2.2.1.1
  have L := hl.1
  have hlen := L.len'
  intro f
  induction f with
  | zero => intro i h1 h2; omega
  | succ f ih =>
    intro i h1 h2
    have r1 := L.1 i (by omega)
    have c1 := cB_pos g l i
    have c2 := cB_le g l (i + 1)
    have c3 := cB_le g l k
    unfold X10_firstOf_L7 X10_firstOf_b7
    rw [gN_k T.d0 T.r24, gAI_k T.d19 (by rw [T.n19]; omega) (by omega), J i (by omega)]
    by_cases hik : i = k
    · subst hik
      have hs : cB g l (i + 1) = cB g l i + if sBegAt g l i = true then 1 else 0 := rfl
      rw [if_pos hb] at hs
      rw [kif_t (by rw [hs]; rfl)]
    · have c4 := cB_mono g l (show i + 1 ≤ k by omega)
      rw [kif_f (by rw [ka_eq (by omega) (by omega)]; omega), kV_k T.d0]
      have e := (N.next ag hI (o := some p) (fun q e => by cases e; exact hp) hl).2 i (by omega)
      rw [show f_X10_next 0 (nI p) (nI (l.getD i 0)) h = kret (cOf (lst l (i + 1))) h from e, kb_ret]
      rw [show lst l (i + 1) = some (l.getD (i + 1) 0) from if_pos (by omega)]
      exact ih (i + 1) (by omega) (by omega)
theorem NX.firstOf (N : NX g) (ag : kAg EJ g h) (hI : ∀ r, r < mn g 0 16 → kI h 18 r = cOf (sPF g r)) (hl : sRw g (some p) l) (hp : p < 2147483648) (J : JT g h l) {k : Nat} (hk : k < l.length) (hb : sBegAt g l k = true) : f_X10_firstOf 0 (nI p) (nI (cB g l k)) h = kret (nI (l.getD k 0)) h := by
  have hlen := hl.1.len'
  have hR := N.1.2.2.1.1
  have e := (N.next ag hI (o := some p) (fun q e => by cases e; exact hp) hl).1
  unfold f_X10_firstOf
  rw [kV_k (N.mx ag).1.d0, show f_X10_next 0 (nI p) (-1) h = kret (cOf (lst l 0)) h from e, kb_ret]
  rw [show lst l 0 = some (l.getD 0 0) from if_pos (by omega)]
  exact N.firstL ag hI hl hp J hk hb kF 0 (by omega) (by unfold kF; omega)
theorem NX.tollL (N : NX g) (ag : kAg EJ g h) (hI : ∀ r, r < mn g 0 16 → kI h 18 r = cOf (sPF g r)) (hl : sRw g (some p) l) (hp : p < mn g 0 8) (J : JT g h l) {t : Nat} (ht : t < 1000) : ∀ (n i s f : Nat), 1 ≤ i → i ≤ l.length → l.length ≤ i + n → n < f → cB g l i = t + 1 → X10_tollOf_L19 f 0 (nI p) (nI t) (nI s) (nI (l.getD (i - 1) 0)) (cOf (lst l i)) h = kret (nI (mn g 3 (mn g 8 p) * (s + wS g l n i))) h := by
  have T := (N.mx ag).1
  have hR := N.1.2.2.1.1
  have hP := N.1.2.1.1
  have L := hl.1
  have hlen := L.len'
  obtain ⟨k1, k2⟩ := N.2.2.2.2.1 p hp
  obtain ⟨r1, r2⟩ := N.2.2.2.1 _ k1
  have e : ∀ a k, a ≠ 18 → a ≠ 19 → ¬ (a = 0 ∧ k = 35) → kI h a k = kI g a k := fun a k => NX.e ag a k
  have hb78 : ∀ s : Nat, X10_tollOf_b78 0 (nI p) (nI s) h = kret (nI (mn g 3 (mn g 8 p) * s)) h := by
    intro s
    unfold X10_tollOf_b78
    rw [gN_k T.d0 T.r4, gN_k T.d0 T.r11, gAI_k T.d8 (by rw [T.n8]; omega) (by omega), e 8 p (by omega) (by omega) (by omega), k2, gAI_k T.d3 (by rw [T.n3]; omega) (by omega), e 3 _ (by omega) (by omega) (by omega), r2, ka_mul]
  intro n
  induction n with
  | zero =>
    intro i s f h0 h1 h2 h3 h4
    obtain ⟨f, rfl⟩ : ∃ k, f = k + 1 := ⟨f - 1, by omega⟩
    unfold X10_tollOf_L19 X10_tollOf_b19
    rw [show lst l i = none from if_neg (by omega), kif_t (show cOf none = -1 from rfl), hb78]
    rfl
  | succ n ih =>
    intro i s f h0 h1 h2 h3 h4
    obtain ⟨f, rfl⟩ : ∃ k, f = k + 1 := ⟨f - 1, by omega⟩
    have hw : wS g l (n + 1) i = if i < l.length ∧ sBegAt g l i = false then mn g 2 (8 * mn g 12 (l.getD (i - 1) 0) + mn g 12 (l.getD i 0)) + wS g l n (i + 1) else 0 := rfl
    unfold X10_tollOf_L19 X10_tollOf_b19
    by_cases hi : i < l.length
    · rw [show lst l i = some (l.getD i 0) from if_pos hi]
      have r3 := L.1 i hi
      have r4 := L.1 (i - 1) (by omega)
      have c2 := cB_le g l (i + 1)
      have hs : cB g l (i + 1) = cB g l i + if sBegAt g l i = true then 1 else 0 := rfl
      rw [kif_f (by show ¬ nI (l.getD i 0) = -1; rw [ka_n1 (by omega)]; exact fun z => z), gN_k T.d0 T.r24]
      rw [show cOf (some (l.getD i 0)) = nI (l.getD i 0) from rfl, gAI_k T.d19 (by rw [T.n19]; omega) (by omega), J i hi]
      by_cases hb : sBegAt g l i = true
      · rw [if_pos hb] at hs
        rw [if_neg (fun z => by rw [hb] at z; exact absurd z.2 (by decide))] at hw
        rw [kif_f (by rw [ka_eq (by omega) (by omega)]; omega), hb78, hw]
        rfl
      · have hb' := bF hb
        rw [if_neg hb] at hs
        rw [if_pos ⟨hi, hb'⟩] at hw
        obtain ⟨k, rfl⟩ : ∃ k, i = k + 1 := ⟨i - 1, by omega⟩
        obtain ⟨d1, d2, d3, d4⟩ := N.dist r4 r3
        have hfar := sBeg_far N r4 r3 hb'
        have enx := (N.next ag hI (o := some p) (fun q e => by cases e; omega) hl).2 (k + 1) hi
        have e2 := ih (k + 1 + 1) (s + mn g 2 (8 * mn g 12 (l.getD (k + 1 - 1) 0) + mn g 12 (l.getD (k + 1) 0))) f (by omega) (by omega) (by omega) (by omega) (by omega)
        rw [kif_t (by rw [hs, h4]; rfl), gN_k T.d0 T.r3, gN_k T.d0 T.r17, gAI_k T.d12 (by rw [T.n12]; omega) (by omega), e 12 _ (by omega) (by omega) (by omega), d3, gN_k T.d0 T.r17, gAI_k T.d12 (by rw [T.n12]; omega) (by omega), e 12 _ (by omega) (by omega) (by omega), d4, mc_idx8, gAI_k T.d2 (by rw [T.n2]; omega) (by omega), e 2 _ (by omega) (by omega) (by omega), hfar, kV_k T.d0]
        rw [show f_X10_next 0 (nI p) (nI (l.getD (k + 1) 0)) h = kret (cOf (lst l (k + 1 + 1))) h from enx, kb_ret, ka_add, hw, ← Nat.add_assoc]
        exact e2
    · rw [if_neg (fun z => hi z.1)] at hw
      rw [show lst l i = none from if_neg hi, kif_t (show cOf none = -1 from rfl), hb78, hw]
      rfl
theorem NX.tollOf (N : NX g) (ag : kAg EJ g h) (hI : ∀ r, r < mn g 0 16 → kI h 18 r = cOf (sPF g r)) (hl : sRw g (some p) l) (hp : p < mn g 0 8) (J : JT g h l) {k : Nat} (hk : k < l.length) (hb : sBegAt g l k = true) : f_X10_tollOf 0 (nI p) (nI (cB g l k)) h = kret (nI (tolF g l p k)) h := by
  have hlen := hl.1.len'
  have hR := N.1.2.2.1.1
  have hP := N.1.2.1.1
  have T := (N.mx ag).1
  have hs : cB g l (k + 1) = cB g l k + if sBegAt g l k = true then 1 else 0 := rfl
  rw [if_pos hb] at hs
  have c3 := cB_le g l k
  have enx := (N.next ag hI (o := some p) (fun q e => by cases e; omega) hl).2 k hk
  have e2 := N.tollL ag hI hl hp J (t := cB g l k) (by omega) 60 (k + 1) 2 kF (by omega) (by omega) (by omega) (by unfold kF; omega) hs
  unfold f_X10_tollOf
  rw [kV_k T.d0, N.firstOf ag hI hl (by omega) J hk hb, kb_ret, kV_k T.d0, show f_X10_next 0 (nI p) (nI (l.getD k 0)) h = kret (cOf (lst l (k + 1))) h from enx, kb_ret]
  unfold tolF
  rw [Nat.add_comm (wS g l 60 (k + 1)) 2]
  exact e2
end KTOLLM
end
section
/-! toll, driverOf -/
theorem op_q2 {τ : Type} {fX fM : Int32 → Int32 → Int32 → KH → KO τ} {mp : Nat → Option Int32} {j : Nat} {hx hm h' : KH} {a b c : Int32} (R : RR j hx hm) (v : τ) (h1 : fX a b c (sX hx 0) = kret v (sX hx 0)) (h4 : fM a b c hm = kret v h') (am : kAg EJ hm h') (h5 : kI h' 0 35 = 0) : OP1 fX fM mp j hx hm a b c :=
  op_ok 0 v h1 h4 h5 ((R.X 0).up.fr (kAg.rf _) am (fun _ h => h) (fun a k h => h.elim) (fun a k h => h))
theorem op_no2 {τ : Type} {fX fM : Int32 → Int32 → Int32 → KH → KO τ} {mp : Nat → Option Int32} {j : Nat} {hx hm h' : KH} {a b c : Int32} (R : RR j hx hm) (e : Nat) (kx : Int32) (bv : τ) (h2 : mp e = some kx) (h3 : kx ≠ 0) (h1 : fX a b c (sX hx 0) = kthrow e (sX hx 0)) (h4 : fM a b c hm = kret bv h') (am : kAg EJ hm h') (h5 : kI h' 0 35 = kx) : OP1 fX fM mp j hx hm a b c :=
  Or.inr ⟨e, kx, bv, sX hx 0, h', h1, h2, h3, h4, h5, (R.X 0).up.fr (kAg.rf _) am (fun _ h => h) (fun a k h => h.elim) (fun a k h => h)⟩
theorem EJ.thr (h : KH) (v : Int32) : kAg EJ h (sI h 0 35 v) := (kAg.I h 0 35 v).sub (fun a k z => Or.inr (Or.inr z))
theorem ka_gt {b : Int32} {n : Nat} (hn : n < 1073741824) (h : (nI n - 1) < b) : nI n ≤ b := by
  have hm1 : (nI n - 1).toInt = (n : Int) - 1 := by
    by_cases hn0 : n = 0
    · subst hn0
      decide
    · rw [ka_pred (by omega), nI_toInt (by omega)]
      omega
  rw [Int32.lt_iff_toInt_lt, hm1] at h
  rw [Int32.le_iff_toInt_le, nI_toInt (by omega)]
  omega
/-- a trip, or none: both sides -/
theorem RR.trip {j : Nat} {hx hm : KH} (R : RR j hx hm) (hj : j < 512) {p : Nat} (hp : p < mn hm 0 8) (q1 : ¬ nI p < 0) (q2 : ¬ (nI (mn hm 0 8) - 1) < nI p) (b : Int32) : ∃ l, sRw hm (some p) l ∧ PSt hx (104 + 8 * p) ∧ PRw hx (104 + 8 * p) l ∧ PBe hx hm (104 + 8 * p) l ∧
    ((∃ k h', k < l.length ∧ sBegAt hm l k = true ∧ b = nI (cB hm l k) ∧ f_X9_requiredBeginning (100 + 8 * p) b hx = kret (nI k) hx ∧ f_X10_isTrip 0 (nI p) b hm = kret 1 h' ∧ kAg EJ hm h' ∧ (∀ r, r < mn hm 0 16 → kI h' 18 r = cOf (sPF hm r)) ∧ JT hm h' l ∧ kI h' 0 35 = 0) ∨
     (∃ h', f_X9_requiredBeginning (100 + 8 * p) b hx = kthrow 3 hx ∧ f_X10_isTrip 0 (nI p) b hm = kret 0 h' ∧ kAg EJ hm h' ∧ kI h' 0 35 = 1)) := by
  have T := R.1.2
  have K := R.kCx
  have N := R.NX hj
  have hP := R.P
  obtain ⟨l, l1, l2, l3, l4⟩ := R.AS.2 p hp
  obtain ⟨P, hA, kp, kq⟩ := K.pst hp
  have hlen := l1.len'
  have hR := N.1.2.2.1.1
  have hcl := cB_le hm l l.length
  obtain ⟨h', e1, e2, e3, e4, e5⟩ := N.joins (o := some p) (l := l) ⟨l1, l2⟩ (fun q e => by cases e; omega) ((kAg.rf hm).sub (fun _ _ z => z.elim))
  have T' := (N.mx e2).1
  have agt : ∀ v, kAg EJ hm (sI h' 0 35 v) := fun v => e2.trans (EJ.thr h' v) (fun a k q => q) (fun a k q => q)
  refine ⟨l, ⟨l1, l2⟩, P, l3, l4, ?_⟩
  have hreq : f_X9_requiredBeginning (100 + 8 * p) b hx = kcallV 4 (104 + 8 * p) hx (f_X3_beginningOf (104 + 8 * p) b hx) (fun x1 h1 => kif (x1 = -1) (kthrow 3 h1) (kret x1 h1)) := by
    unfold f_X9_requiredBeginning
    rw [gN_k kp kq]
  rcases x3_beg (t := b) (g := hm) P l3 l4 with ⟨k, k1, k2, k3, k4⟩ | ⟨k1, k2⟩
  · have hs : cB hm l (k + 1) = cB hm l k + if sBegAt hm l k = true then 1 else 0 := rfl
    rw [if_pos k2] at hs
    have hm1 := cB_mono hm l (show k + 1 ≤ l.length by omega)
    refine Or.inl ⟨k, sI h' 0 35 0, k1, k2, k3.symm, ?_, ?_, agt 0, fun r hr => by rw [kI_sI, if_neg (by omega)]; exact e3 r hr, fun i hi => by rw [kI_sI, if_neg (by omega)]; exact e4 i hi, by rw [kI_sI, if_pos ⟨rfl, rfl⟩]⟩
    · rw [hreq, kV_k P.1, k4, kb_ret, kif_f (by rw [ka_n1 (by omega)]; exact fun z => z)]
    · rw [← k3]
      unfold f_X10_isTrip
      rw [kV_k T.d0, R.isPlate q1 q2, kb_ret, kif_f (by decide), kif_f (by rw [ka_neg (by omega)]; exact fun z => z), kV_k T.d0]
      rw [show f_X10_joins 0 (nI p) hm = _ from e1, kb_ret, kif_f (by rw [ka_le (by omega) (by omega)]; omega)]
      unfold X10_isTrip_b27
      rw [kV_k T'.d0, can_0 T', kb_ret]
      rfl
  · have hthr : f_X9_requiredBeginning (100 + 8 * p) b hx = kthrow 3 hx := by
      rw [hreq, kV_k P.1, k1, kb_ret, kif_t rfl]
    by_cases hneg : b < 0
    · refine Or.inr ⟨sI hm 0 35 1, hthr, ?_, EJ.thr hm 1, by rw [kI_sI, if_pos ⟨rfl, rfl⟩]⟩
      unfold f_X10_isTrip
      rw [kV_k T.d0, R.isPlate q1 q2, kb_ret, kif_f (by decide), kif_t hneg]
      unfold X10_isTrip_b26 X10_isTrip_b27
      rw [kV_k T.d0, can_n T (show (1 : Int32) ≠ 0 by decide), kb_ret]
      rfl
    · have hle : nI (cB hm l l.length) ≤ b := by
        rcases ka_below b (cB hm l l.length) (by omega) with ⟨t, t1, t2, -, -⟩ | w | w
        · obtain ⟨k, w1, w2, w3⟩ := cB_ex (g := hm) (l := l) l.length t1
          exact absurd (by rw [w3, t2]) (k2 k w1 w2)
        · exact absurd w hneg
        · exact ka_gt (by omega) w
      refine Or.inr ⟨sI h' 0 35 1, hthr, ?_, agt 1, by rw [kI_sI, if_pos ⟨rfl, rfl⟩]⟩
      unfold f_X10_isTrip
      rw [kV_k T.d0, R.isPlate q1 q2, kb_ret, kif_f (by decide), kif_f hneg, kV_k T.d0]
      rw [show f_X10_joins 0 (nI p) hm = _ from e1, kb_ret, kif_t hle]
      unfold X10_isTrip_b26 X10_isTrip_b27
      rw [kV_k T'.d0, can_n T' (show (1 : Int32) ≠ 0 by decide), kb_ret]
      rfl
theorem RR.tripNo {j : Nat} {hx hm : KH} (R : RR j hx hm) {a b : Int32} (hq : a < 0 ∨ (nI (mn hm 0 8) - 1) < a) : f_X10_isTrip 0 a b hm = kret 0 (sI hm 0 35 1) := by
  have T := R.1.2
  unfold f_X10_isTrip
  rw [kV_k T.d0, R.isPlateNo hq, kb_ret, kif_t rfl]
  unfold X10_isTrip_b26 X10_isTrip_b27
  rw [kV_k T.d0, can_n T (show (1 : Int32) ≠ 0 by decide), kb_ret]
  rfl
theorem o_toll : OPI (fun a b c h => f_X9_toll 0 a b h) (fun a b c h => f_X10_toll 0 a b h) (mp1 3) := by
  intro j hx hm a b c hj R
  have S := R.1.1.X 0
  have T := R.1.2
  have RX := R.X 0
  have N := R.NX hj
  have hP := R.P
  rcases ka_below a (mn hm 0 8) (by omega) with ⟨p, hp, rfl, q1, q2⟩ | hq
  · obtain ⟨-, -, kp, kq⟩ := RX.kCx.pst hp
    obtain ⟨l, hl, P, W, B, ⟨k, h', k1, k2, k3, k4, k5, k6, k7, k8, k9⟩ | ⟨h', k4, k5, k6, k9⟩⟩ := RX.trip hj hp q1 q2 b
    · have T' := (N.mx k6).1
      refine op_q2 R (nI (tolF hm l p k)) ?_ ?_ k6 k9
      · show f_X9_toll 0 (nI p) b (sX hx 0) = _
        unfold f_X9_toll
        rw [kV_k S.d0, RX.plate hp q1 q2, kb_ret, gN_k kp kq, k4, kb_ret, kV_k S.d0, x9_toll RX N hp P W hl.1 B k1, kb_ret]
      · show f_X10_toll 0 (nI p) b hm = _
        unfold f_X10_toll
        rw [kV_k T.d0, k5, kb_ret, kif_f (by decide), kV_k T'.d0, k3, N.tollOf k6 k7 hl hp k8 k1 k2, kb_ret]
        rfl
    · refine op_no2 R 3 1 0 rfl (by decide) ?_ ?_ k6 k9
      · show f_X9_toll 0 (nI p) b (sX hx 0) = _
        unfold f_X9_toll
        rw [kV_k S.d0, RX.plate hp q1 q2, kb_ret, gN_k kp kq, k4]
        rfl
      · show f_X10_toll 0 (nI p) b hm = _
        unfold f_X10_toll
        rw [kV_k T.d0, k5, kb_ret, kif_t rfl]
        rfl
  · refine op_no R 3 1 0 rfl (by decide) ?_ ?_
    · show f_X9_toll 0 a b (sX hx 0) = _
      unfold f_X9_toll
      rw [kV_k S.d0, RX.plateNo hq]
      rfl
    · show f_X10_toll 0 a b hm = _
      unfold f_X10_toll
      rw [kV_k T.d0, R.tripNo hq, kb_ret, kif_t rfl]
      rfl
theorem o_driverOf : OPI (fun a b c h => f_X9_driverOf 0 a b h) (fun a b c h => f_X10_driverOf 0 a b h) (mp1 3) := by
  intro j hx hm a b c hj R
  have S := R.1.1.X 0
  have T := R.1.2
  have RX := R.X 0
  have N := R.NX hj
  have hP := R.P
  have hR := N.1.2.2.1.1
  obtain ⟨n, hn, hc, hh, hd⟩ := RX.holdN
  rcases ka_below a (mn hm 0 8) (by omega) with ⟨p, hp, rfl, q1, q2⟩ | hq
  · obtain ⟨-, -, kp, kq⟩ := RX.kCx.pst hp
    obtain ⟨l, hl, P, W, B, ⟨k, h', k1, k2, k3, k4, k5, k6, k7, k8, k9⟩ | ⟨h', k4, k5, k6, k9⟩⟩ := RX.trip hj hp q1 q2 b
    · have T' := (N.mx k6).1
      have r1 := hl.1.1 k k1
      have hlen := W.1
      obtain ⟨m1, m2⟩ := RX.kCx.minute r1
      obtain ⟨-, ⟨-, m3⟩, -⟩ := N.1.2.2.2.2.1 _ r1
      have e : ∀ a k, a ≠ 18 → a ≠ 19 → ¬ (a = 0 ∧ k = 35) → kI h' a k = kI hm a k := fun a k => NX.e k6 a k
      refine op_q2 R (sHold hm p (mn hm 13 (l.getD k 0)) n) ?_ ?_ k6 k9
      · show f_X9_driverOf 0 (nI p) b (sX hx 0) = _
        unfold f_X9_driverOf
        rw [kV_k S.d0, RX.plate hp q1 q2, kb_ret, k4, kb_ret, gN_k kp kq, gN_k P.1 P.2.2.2.2.2.1, gAN_k P.2.1 (by rw [P.2.2.1]; omega) (by omega) (W.2.2 k k1), gI_k (RX.kCx.rd r1).1.1, m2, kV_k kp, hd p hp _ (by omega) hj, kb_ret]
      · show f_X10_driverOf 0 (nI p) b hm = _
        unfold f_X10_driverOf
        rw [kV_k T.d0, k5, kb_ret, kif_f (by decide), gN_k T'.d0 T'.r18, kV_k T'.d0, k3, N.firstOf k6 k7 hl (by omega) k8 k1 k2, kb_ret, gAI_k T'.d13 (by rw [T'.n13]; omega) (by omega), e 13 _ (by omega) (by omega) (by omega), m3, kV_k T'.d0]
        rw [tm_holderAt (n := n) T' (by rw [e 0 12 (by omega) (by omega) (by omega)]; exact hc) (by omega) (fun k hk => by rw [e 9 k (by omega) (by omega) (by omega), e 11 k (by omega) (by omega) (by omega)]; exact hh k hk) (by omega) (by omega), kb_ret]
        rw [sHold_cg (h := hm) (h' := h') (fun k => e 9 k (by omega) (by omega) (by omega)) (fun k => e 10 k (by omega) (by omega) (by omega)) (fun k => e 11 k (by omega) (by omega) (by omega))]
        rfl
    · refine op_no2 R 3 1 0 rfl (by decide) ?_ ?_ k6 k9
      · show f_X9_driverOf 0 (nI p) b (sX hx 0) = _
        unfold f_X9_driverOf
        rw [kV_k S.d0, RX.plate hp q1 q2, kb_ret, k4]
        rfl
      · show f_X10_driverOf 0 (nI p) b hm = _
        unfold f_X10_driverOf
        rw [kV_k T.d0, k5, kb_ret, kif_t rfl]
        rfl
  · refine op_no R 3 1 0 rfl (by decide) ?_ ?_
    · show f_X9_driverOf 0 a b (sX hx 0) = _
      unfold f_X9_driverOf
      rw [kV_k S.d0, RX.plateNo hq]
      rfl
    · show f_X10_driverOf 0 a b hm = _
      unfold f_X10_driverOf
      rw [kV_k T.d0, R.tripNo hq, kb_ret, kif_t rfl]
      rfl
end
section
/-! what is due -/
theorem row_uniq {g : KH} {o : Option Nat} {l l' : List Nat} (h : sRw g o l) (h' : sRw g o l') : l = l' := by
  obtain ⟨L, m⟩ := h
  obtain ⟨L', m'⟩ := h'
  have hirr : ∀ x, ¬ sBef (mn g) x x := fun x z => by unfold sBef at z; omega
  have inj : ∀ {l : List Nat}, LOK g l → ∀ i k, i < l.length → k < l.length → l.getD i 0 = l.getD k 0 → i = k := fun {l} L i k q1 q2 e => by
    rcases Nat.lt_trichotomy i k with q | q | q
    · have := L.2 i k q q2
      rw [e] at this
      exact absurd this (hirr _)
    · exact q
    · have := L.2 k i q q1
      rw [e] at this
      exact absurd this (hirr _)
  have key : ∀ k, (k < l.length ↔ k < l'.length) ∧ (k < l.length → l.getD k 0 = l'.getD k 0) := by
    intro k
    induction k using Nat.strongRecOn with
    | ind k ih =>
      have half : ∀ {l l' : List Nat}, LOK g l → LOK g l' → (∀ r, r < mn g 0 16 → (sPF g r = o ↔ ∃ k, k < l.length ∧ l.getD k 0 = r)) → (∀ r, r < mn g 0 16 → (sPF g r = o ↔ ∃ k, k < l'.length ∧ l'.getD k 0 = r)) → (∀ i, i < k → (i < l.length ↔ i < l'.length) ∧ (i < l.length → l.getD i 0 = l'.getD i 0)) → k < l.length → ∃ k', k ≤ k' ∧ k' < l'.length ∧ l'.getD k' 0 = l.getD k 0 := by
        intro l l' L L' m m' ih hk
        obtain ⟨k', q1, q2⟩ := (m' _ (L.1 k hk)).1 ((m _ (L.1 k hk)).2 ⟨k, hk, rfl⟩)
        refine ⟨k', ?_, q1, q2⟩
        by_cases q : k ≤ k'
        · exact q
        · exfalso
          obtain ⟨i1, i2⟩ := ih k' (by omega)
          have := i2 (by omega)
          have := inj L k' k (by omega) hk (by rw [this, q2])
          omega
      have ih' : ∀ i, i < k → (i < l'.length ↔ i < l.length) ∧ (i < l'.length → l'.getD i 0 = l.getD i 0) := fun i hi => ⟨(ih i hi).1.symm, fun z => ((ih i hi).2 ((ih i hi).1.2 z)).symm⟩
      refine ⟨⟨fun hk => ?_, fun hk => ?_⟩, fun hk => ?_⟩
      · obtain ⟨k', q1, q2, -⟩ := half L L' m m' ih hk
        omega
      · obtain ⟨k', q1, q2, -⟩ := half L' L m' m ih' hk
        omega
      · obtain ⟨k', q1, q2, q3⟩ := half L L' m m' ih hk
        have hk' : k < l'.length := by omega
        obtain ⟨k'', w1, w2, w3⟩ := half L' L m' m ih' hk'
        by_cases e1 : k' = k
        · rw [e1] at q3
          exact q3.symm
        · by_cases e2 : k'' = k
          · rw [e2] at w3
            exact w3
          · have z1 := L'.2 k k' (by omega) q2
            have z2 := L.2 k k'' (by omega) w2
            rw [q3] at z1
            rw [w3] at z2
            exact absurd (sBef_tr z1 z2) (hirr _)
  have hlen : l.length = l'.length := by
    rcases Nat.lt_trichotomy l.length l'.length with q | q | q
    · exact absurd ((key l.length).1.2 q) (Nat.lt_irrefl _)
    · exact q
    · exact absurd ((key l'.length).1.1 q) (Nat.lt_irrefl _)
  apply List.ext_getElem hlen
  intro k h1 h2
  rw [← gD_get h1, ← gD_get h2]
  exact (key k).2 h1
noncomputable def rwL (g : KH) (o : Option Nat) : List Nat := Classical.choose (sRw_ex g o)
theorem rwL_s (g : KH) (o : Option Nat) : sRw g o (rwL g o) := Classical.choose_spec (sRw_ex g o)
def duF (g : KH) (n p : Nat) (l : List Nat) (d : Int32) (k : Nat) : Nat := if sHold g p (mn g 13 (l.getD k 0)) n = d then tolF g l p k else 0
def duS (g : KH) (n p : Nat) (l : List Nat) (d : Int32) : Nat → Nat
  | 0 => 0
  | k + 1 => duS g n p l d k + if sBegAt g l k = true then duF g n p l d k else 0
noncomputable def duT (g : KH) (n : Nat) (d : Int32) : Nat → Nat
  | 0 => 0
  | p + 1 => duT g n d p + duS g n p (rwL g (some p)) d (rwL g (some p)).length
section KDUE
variable {hx g : KH} {a : Nat} {l : List Nat} {n : Nat} {d : Int32}
theorem x9_dueL {j p : Nat} (R : RR j hx g) (N : NX g) (hp : p < mn g 0 8) (P : PSt hx a) (W : PRw hx a l) (L : LOK g l) (B : PBe hx g a l) (hd : ∀ m, m < 2147483648 → f_X4_driverIn (100 + 8 * p) (nI m) hx = kret (sHold g p m n) hx) : ∀ (f i : Nat), i ≤ l.length → l.length < i + f → X9_dueFor_L6 f 0 (100 + 8 * p) a d (nI (duS g n p l d i)) (nI i) hx = kret (nI (duS g n p l d l.length)) hx := by
  have P' := P
  obtain ⟨p1, p2, p3, p4, p5, p6, p7⟩ := P'
  have w1 := W.1
  have K := R.kCx
  intro f
  induction f with
  | zero => intro i h1 h2; omega
  | succ f ih =>
    intro i h1 h2
    unfold X9_dueFor_L6 X9_dueFor_b6
    rw [gI_k p1, W.2.1]
    by_cases hi : l.length ≤ i
    · rw [kif_t (by rw [ka_le (by omega) (by omega)]; exact hi), show i = l.length by omega]
    · have hil : i < l.length := by omega
      have r1 := L.1 i hil
      have e := ih (i + 1) (by omega) (by omega)
      have hs : duS g n p l d (i + 1) = duS g n p l d i + if sBegAt g l i = true then duF g n p l d i else 0 := rfl
      rw [kif_f (by rw [ka_le (by omega) (by omega)]; exact hi), gN_k p1 p7, gAI_k p4 (by omega) (by omega), B i hil]
      unfold X9_dueFor_b56
      by_cases hb : sBegAt g l i = true
      · rw [if_pos hb] at hs
        obtain ⟨m1, m2⟩ := K.minute r1
        rw [if_pos hb, kif_f (by decide), gN_k p1 p6, gAN_k p2 (by omega) (by omega) (W.2.2 i hil), gI_k (K.rd r1).1.1, m2, kV_k (R.pl hp).1.1, hd _ (by omega), kb_ret]
        unfold duF at hs
        by_cases hd2 : sHold g p (mn g 13 (l.getD i 0)) n = d
        · rw [if_pos hd2] at hs
          rw [kif_t hd2, kV_k R.1.1.d0, x9_toll R N hp P W L B hil, kb_ret, ka_add, nI_1, ← hs]
          exact e
        · rw [if_neg hd2] at hs
          rw [kif_f hd2, nI_1, show duS g n p l d i = duS g n p l d (i + 1) from hs.symm]
          exact e
      · rw [if_neg hb] at hs
        rw [if_neg hb, kif_t rfl, nI_1, show duS g n p l d i = duS g n p l d (i + 1) from hs.symm]
        exact e
theorem x9_dueFor {j p : Nat} (R : RR j hx g) (N : NX g) (hp : p < mn g 0 8) (P : PSt hx a) (W : PRw hx a l) (L : LOK g l) (B : PBe hx g a l) (hd : ∀ m, m < 2147483648 → f_X4_driverIn (100 + 8 * p) (nI m) hx = kret (sHold g p m n) hx) : f_X9_dueFor 0 (100 + 8 * p) a d hx = kret (nI (duS g n p l d l.length)) hx :=
  x9_dueL R N hp P W L B hd kF 0 (by omega) (by have := W.1; unfold kF; omega)
theorem x9_keptL {j : Nat} (R : RR j hx g) (N : NX g) (hd : ∀ p, p < mn g 0 8 → ∀ m, m < 2147483648 → f_X4_driverIn (100 + 8 * p) (nI m) hx = kret (sHold g p m n) hx) : ∀ (f p : Nat), p ≤ mn g 0 8 → mn g 0 8 < p + f → X9_dueByKept_L4 f 0 d (nI (duT g n d p)) (nI p) hx = kret (nI (duT g n d (mn g 0 8))) hx := by
  have S := R.1.1
  have K := R.kCx
  have hP := R.cnt
  intro f
  induction f with
  | zero => intro i h1 h2; omega
  | succ f ih =>
    intro p h1 h2
    unfold X9_dueByKept_L4 X9_dueByKept_b4
    rw [gI_k S.d0, hP.1]
    by_cases hi : mn g 0 8 ≤ p
    · rw [kif_t (by rw [ka_le (by omega) (by omega)]; exact hi), show p = mn g 0 8 by omega]
    · have hp : p < mn g 0 8 := by omega
      obtain ⟨P, hA, kp, kq⟩ := K.pst hp
      obtain ⟨l, l1, l2, l3, l4⟩ := R.AS.2 p hp
      have e := ih (p + 1) (by omega) (by omega)
      have hs : duT g n d (p + 1) = duT g n d p + duS g n p (rwL g (some p)) d (rwL g (some p)).length := rfl
      rw [← row_uniq (show sRw g (some p) l from ⟨l1, l2⟩) (rwL_s g (some p))] at hs
      rw [kif_f (by rw [ka_le (by omega) (by omega)]; exact hi), gN_k S.d0 S.r0_4, gAN_k S.d26 (by rw [S.n26]; omega) (by omega) (R.pl hp).2.1.1, gN_k kp kq, kV_k S.d0, x9_dueFor R N hp P l3 l1 l4 (hd p hp), kb_ret, ka_add, nI_1, ← hs]
      exact e
theorem x9_kept {j : Nat} (R : RR j hx g) (N : NX g) (hd : ∀ p, p < mn g 0 8 → ∀ m, m < 2147483648 → f_X4_driverIn (100 + 8 * p) (nI m) hx = kret (sHold g p m n) hx) : f_X9_dueByKept 0 d hx = kret (nI (duT g n d (mn g 0 8))) hx :=
  x9_keptL R N hd kF 0 (by omega) (by have := R.P; unfold kF; omega)
end KDUE
/-! the model's dues -/
section KDUEM
variable {g : KH} {n : Nat} {d : Int32}
theorem nxtB {p : Nat} {l : List Nat} : ∀ (m k : Nat), k ≤ l.length → l.length ≤ k + m → ∃ k', k ≤ k' ∧ k' ≤ l.length ∧ (k' = l.length ∨ sBegAt g l k' = true) ∧ cB g l k' = cB g l k ∧ duS g n p l d k' = duS g n p l d k := by
  intro m
  induction m with
  | zero => intro k h1 h2; exact ⟨k, Nat.le_refl _, h1, Or.inl (by omega), rfl, rfl⟩
  | succ m ih =>
    intro k h1 h2
    by_cases hk : k = l.length
    · exact ⟨k, Nat.le_refl _, h1, Or.inl hk, rfl, rfl⟩
    · by_cases hb : sBegAt g l k = true
      · exact ⟨k, Nat.le_refl _, h1, Or.inr hb, rfl, rfl⟩
      · obtain ⟨k', q1, q2, q3, q4, q5⟩ := ih (k + 1) (by omega) (by omega)
        refine ⟨k', by omega, q2, q3, ?_, ?_⟩
        · rw [q4]
          show cB g l k + _ = _
          rw [if_neg hb]
          rfl
        · rw [q5]
          show duS g n p l d k + _ = _
          rw [if_neg hb]
          rfl
theorem NX.dueI {h : KH} {p : Nat} {l : List Nat} (N : NX g) (hc : kI g 0 12 = nI n) (hn : n ≤ 700) (hh : ∀ k, k < n → (∃ q, q < 10 ∧ kI g 9 k = nI q) ∧ ∃ s, s ≤ 50000 ∧ kI g 11 k = nI s) (ag : kAg EJ g h) (hI : ∀ r, r < mn g 0 16 → kI h 18 r = cOf (sPF g r)) (hl : sRw g (some p) l) (hp : p < mn g 0 8) (J : JT g h l) (rc : Nat → Int32 → Int32 → Int32 → KH → KO Int32) (s0 : Nat) : ∀ (f k : Nat), k ≤ l.length → (k = l.length ∨ sBegAt g l k = true) → l.length < k + f → X10_dueFrom_L28 rc f 0 d (nI (s0 + duS g n p l d k)) (nI p) (nI (cB g l l.length)) (nI (cB g l k)) h = rc 0 d (nI (s0 + duS g n p l d l.length)) (nI (p + 1)) h := by
  have T := (N.mx ag).1
  have hR := N.1.2.2.1.1
  have hP := N.1.2.1.1
  have L := hl.1
  have hlen := L.len'
  have hcl := cB_le g l l.length
  have e : ∀ a k, a ≠ 18 → a ≠ 19 → ¬ (a = 0 ∧ k = 35) → kI h a k = kI g a k := fun a k => NX.e ag a k
  intro f
  induction f with
  | zero => intro k h1 _ h2; omega
  | succ f ih =>
    intro k h1 hkb h2
    have hck := cB_le g l k
    unfold X10_dueFrom_L28 X10_dueFrom_b28
    by_cases hk : k = l.length
    · rw [hk, kif_t (by rw [ka_le (by omega) (by omega)]; exact Nat.le_refl _), nI_1]
    · have hkl : k < l.length := by omega
      have hb := hkb.resolve_left hk
      have hs : cB g l (k + 1) = cB g l k + if sBegAt g l k = true then 1 else 0 := rfl
      rw [if_pos hb] at hs
      have hds : duS g n p l d (k + 1) = duS g n p l d k + if sBegAt g l k = true then duF g n p l d k else 0 := rfl
      rw [if_pos hb] at hds
      have hm1 := cB_mono g l (show k + 1 ≤ l.length by omega)
      obtain ⟨k', w1, w2, w3, w4, w5⟩ := nxtB (g := g) (n := n) (d := d) (p := p) (l := l) l.length (k + 1) (by omega) (by omega)
      have e2 := ih k' w2 w3 (by omega)
      rw [w4, w5, hs, hds] at e2
      have r1 := L.1 k hkl
      obtain ⟨-, ⟨m1, m3⟩, -⟩ := N.1.2.2.2.2.1 _ r1
      rw [kif_f (by rw [ka_le (by omega) (by omega)]; omega), gN_k T.d0 T.r18, kV_k T.d0, N.firstOf ag hI hl (by omega) J hkl hb, kb_ret, gAI_k T.d13 (by rw [T.n13]; omega) (by omega), e 13 _ (by omega) (by omega) (by omega), m3, kV_k T.d0]
      rw [tm_holderAt (n := n) T (by rw [e 0 12 (by omega) (by omega) (by omega)]; exact hc) (by omega) (fun k hk => by rw [e 9 k (by omega) (by omega) (by omega), e 11 k (by omega) (by omega) (by omega)]; exact hh k hk) (by omega) (by omega), kb_ret]
      rw [sHold_cg (h := g) (h' := h) (fun k => e 9 k (by omega) (by omega) (by omega)) (fun k => e 10 k (by omega) (by omega) (by omega)) (fun k => e 11 k (by omega) (by omega) (by omega))]
      unfold X10_dueFrom_b68
      unfold duF at e2
      by_cases hd2 : sHold g p (mn g 13 (l.getD k 0)) n = d
      · rw [if_pos hd2] at e2
        rw [kif_t hd2, kV_k T.d0, N.tollOf ag hI hl hp J hkl hb, kb_ret, ka_add, nI_1, Nat.add_assoc]
        exact e2
      · rw [if_neg hd2] at e2
        rw [kif_f hd2, nI_1]
        show X10_dueFrom_L28 rc f 0 d (nI _ + nI 0) _ _ _ h = _
        rw [ka_add, Nat.add_assoc]
        exact e2
theorem NX.dueL (N : NX g) (hc : kI g 0 12 = nI n) (hn : n ≤ 700) (hh : ∀ k, k < n → (∃ q, q < 10 ∧ kI g 9 k = nI q) ∧ ∃ s, s ≤ 50000 ∧ kI g 11 k = nI s) : ∀ (f p : Nat) (h : KH), kAg EJ g h → (∀ r, r < mn g 0 16 → kI h 18 r = cOf (sPF g r)) → p ≤ mn g 0 8 → mn g 0 8 < p + f → ∃ h', X10_dueFrom_L10 f 0 d (nI (duT g n d p)) (nI p) h = kret (nI (duT g n d (mn g 0 8))) h' ∧ kAg EJ g h' ∧ kAg (fun a _ => a = 19) h h' := by
  have hP := N.1.2.1
  have hR := N.1.2.2.1.1
  intro f
  induction f with
  | zero => intro p h _ _ h1 h2; omega
  | succ f ih =>
    intro p h ag hI h1 h2
    have T := (N.mx ag).1
    unfold X10_dueFrom_L10 X10_dueFrom_b10
    rw [gI_k T.d0, NX.e ag 0 8 (by omega) (by omega) (by omega), hP.2]
    by_cases hi : mn g 0 8 ≤ p
    · exact ⟨h, by rw [kif_t (by rw [ka_le (by omega) (by omega)]; exact hi), show p = mn g 0 8 by omega], ag, (kAg.rf h).sub (fun _ _ z => z.elim)⟩
    · have hp : p < mn g 0 8 := by omega
      obtain ⟨h', e1, e2, e3, e4, e5⟩ := N.joinsAgain (o := some p) (rwL_s g (some p)) (fun q e => by cases e; omega) ag hI
      have hlen := (rwL_s g (some p)).1.len'
      have ein := N.dueI (d := d) hc hn hh e2 e3 (rwL_s g (some p)) hp e4 (X10_dueFrom_L10 f) (duT g n d p) kF 0 (Nat.zero_le _) (Or.inr rfl) (by unfold kF; omega)
      obtain ⟨h'', f1, f2, f3⟩ := ih (p + 1) h' e2 e3 (by omega) (by omega)
      refine ⟨h'', ?_, f2, e5.trans f3 (fun a k q => q) (fun a k q => q)⟩
      rw [kif_f (by rw [ka_le (by omega) (by omega)]; exact hi), kV_k T.d0, show f_X10_joinsAgain 0 (nI p) h = _ from e1, kb_ret]
      exact ein.trans f1
theorem NX.dueFrom {h : KH} (N : NX g) (hc : kI g 0 12 = nI n) (hn : n ≤ 700) (hh : ∀ k, k < n → (∃ q, q < 10 ∧ kI g 9 k = nI q) ∧ ∃ s, s ≤ 50000 ∧ kI g 11 k = nI s) (ag : kAg EJ g h) : ∃ h', f_X10_dueFrom 0 d h = kret (nI (duT g n d (mn g 0 8))) h' ∧ kAg EJ g h' ∧ kAg (fun a _ => a = 18 ∨ a = 19) h h' := by
  have hP := N.1.2.1.1
  obtain ⟨h', e1, e2, e3, e4, e5⟩ := N.joins (o := none) (rwL_s g none) (fun q e => by cases e) ag
  obtain ⟨h'', f1, f2, f3⟩ := N.dueL (d := d) hc hn hh kF 0 h' e2 e3 (by omega) (by unfold kF; omega)
  refine ⟨h'', ?_, f2, e5.trans f3 (fun a k q => q) (fun a k q z => q (Or.inr z))⟩
  unfold f_X10_dueFrom
  rw [kV_k (N.mx ag).1.d0, show f_X10_joins 0 (-1) h = _ from e1, kb_ret]
  exact f1
end KDUEM
end
section
/-! due, dueAnew, settle -/
theorem o_due : OPI (fun a b c h => f_X9_due 0 a h) (fun a b c h => f_X10_due 0 a h) (mp1 3) := by
  intro j hx hm a b c hj R
  have S := R.1.1.X 0
  have T := R.1.2
  have RT := (R.X 0).thr 0
  have N := RT.NX hj
  have hP := R.P
  obtain ⟨n, hn, hc, hh, hd⟩ := RT.holdN
  rcases ka_rng a 0 5 0 5 rfl rfl (by decide) (by decide) with ⟨d, d1, d2, rfl, q1, q2⟩ | hq
  · obtain ⟨h', e1, e2, e3⟩ := N.dueFrom (d := nI d) hc (by omega) hh ((kAg.rf (sI hm 0 35 0)).sub (fun _ _ z => z.elim))
    refine op_q R (nI (duT (sI hm 0 35 0) n (nI d) (mn hm 0 8))) ?_ ?_ e3
    · show f_X9_due 0 (nI d) (sX hx 0) = _
      unfold f_X9_due
      rw [rdr_t q1 q2, kb_ret, kV_k S.d0, x9_kept RT N (fun p hp m hm => hd p hp m hm hj), kb_ret]
      rfl
    · show f_X10_due 0 (nI d) hm = _
      unfold f_X10_due
      rw [mdr_t q1 q2, kb_ret, kif_f (by decide)]
      unfold X10_due_b13
      rw [kV_k T.d0, can_0 T, kb_ret, kif_f (by decide), kV_k (T.thr 0).d0, e1, kb_ret]
      rfl
  · refine op_no R 3 1 0 rfl (by decide) ?_ ?_
    · show f_X9_due 0 a (sX hx 0) = _
      unfold f_X9_due
      rw [rdr_f hq]
      rfl
    · show f_X10_due 0 a hm = _
      unfold f_X10_due
      rw [mdr_f hq, kb_ret, kif_t rfl]
      unfold X10_due_b13
      rw [kV_k T.d0, can_n T (show (1 : Int32) ≠ 0 by decide), kb_ret, kif_t rfl]
      rfl
theorem x9_anewL {g : KH} {n j : Nat} {d : Int32} (hj : j < 512) : ∀ (f p : Nat) (hx : KH), RR j hx g → NX g → (∃ n', n' ≤ j ∧ kI g 0 12 = nI n' ∧ n' = n) → p ≤ mn g 0 8 → mn g 0 8 < p + f → ∃ h', X9_dueAnew_L8 f 0 d (nI (duT g n d p)) (nI p) hx = kret (nI (duT g n d (mn g 0 8))) h' ∧ RR j h' g := by
  intro f
  induction f with
  | zero => intro p hx _ _ _ h1 h2; omega
  | succ f ih =>
    intro p hx R N hn h1 h2
    have S := R.1.1
    have K := R.kCx
    have hP := R.cnt
    obtain ⟨n', hn', hc, -, hd⟩ := R.holdN
    obtain rfl : n' = n := by
      obtain ⟨n2, w1, w2, w3⟩ := hn
      rw [← w3]
      exact nI_inj (hc.symm.trans w2) (by omega) (by omega)
    unfold X9_dueAnew_L8 X9_dueAnew_b8
    rw [gI_k S.d0, hP.1]
    by_cases hi : mn g 0 8 ≤ p
    · exact ⟨hx, by rw [kif_t (by rw [ka_le (by omega) (by omega)]; exact hi), show p = mn g 0 8 by omega], R⟩
    · have hp : p < mn g 0 8 := by omega
      obtain ⟨h1', l, y1, y2, y3, y4, y5, y6, y7, y8⟩ := K.joinAnew (p := p) hp R.AS.1 R.z35
      have R1 : RR j h1' g := R.fr35 y2 (kAg.rf g) (y2.nf (fun a z => by omega)) y8 (fun a k z => by omega) (fun a k z => z.elim)
      obtain ⟨n3, hn3, hc3, -, hd3⟩ := R1.holdN
      obtain rfl : n3 = n' := nI_inj (hc3.symm.trans hc) (by omega) (by omega)
      have hs : duT g n3 d (p + 1) = duT g n3 d p + duS g n3 p (rwL g (some p)) d (rwL g (some p)).length := rfl
      rw [← row_uniq (show sRw g (some p) l from ⟨y5, fun r hr => (y6 r hr).symm⟩) (rwL_s g (some p))] at hs
      obtain ⟨h2', f1, f2⟩ := ih (p + 1) h1' R1 N hn (by omega) (by omega)
      refine ⟨h2', ?_, f2⟩
      rw [kif_f (by rw [ka_le (by omega) (by omega)]; exact hi), gN_k S.d0 S.r0_4, gAN_k S.d26 (by rw [S.n26]; omega) (by omega) (R.pl hp).2.1.1, kV_k S.d0, y1, kb_ret, kV_k R1.1.1.d0, x9_dueFor R1 N hp y3 y4 y5 y7 (fun m hm => hd3 p hp m hm hj), kb_ret, ka_add, nI_1, ← hs]
      exact f1
theorem o_dueAnew : OPR (fun a b c h => f_X9_dueAnew 0 a h) (fun a b c h => f_X10_dueAnew 0 a h) (mp1 3) := by
  intro j hx hm a b c hj R
  have S := R.1.1.X 0
  have T := R.1.2
  have RT := (R.X 0).thr 0
  have N := RT.NX hj
  have hP := R.P
  obtain ⟨n, hn, hc, hh, hd⟩ := RT.holdN
  rcases ka_rng a 0 5 0 5 rfl rfl (by decide) (by decide) with ⟨d, d1, d2, rfl, q1, q2⟩ | hq
  · obtain ⟨h', e1, e2, e3⟩ := N.dueFrom (d := nI d) hc (by omega) hh ((kAg.rf (sI hm 0 35 0)).sub (fun _ _ z => z.elim))
    obtain ⟨hx1, f1, f2⟩ := x9_anewL (d := nI d) hj kF 0 (sX hx 0) RT N ⟨n, hn, hc, rfl⟩ (by omega) (by have := RT.P; unfold kF; omega)
    refine op_ok (hx1 := hx1) (hm1 := h') 0 (nI (duT (sI hm 0 35 0) n (nI d) (mn hm 0 8))) ?_ ?_ (by rw [(e3.1 0 35 (by omega)).1, kI_sI, if_pos ⟨rfl, rfl⟩]) (f2.fr (kAg.rf _) e3 (fun _ h => h) (fun a k h => h.elim) (fun a k h => by omega))
    · show f_X9_dueAnew 0 (nI d) (sX hx 0) = _
      unfold f_X9_dueAnew
      rw [rdr_t q1 q2, kb_ret]
      exact f1
    · show f_X10_dueAnew 0 (nI d) hm = _
      unfold f_X10_dueAnew
      rw [mdr_t q1 q2, kb_ret, kif_f (by decide)]
      unfold X10_dueAnew_b13
      rw [kV_k T.d0, can_0 T, kb_ret, kif_f (by decide), kV_k (T.thr 0).d0, e1, kb_ret]
      rfl
  · refine op_noR R 3 1 0 rfl (by decide) ?_ ?_
    · show f_X9_dueAnew 0 a (sX hx 0) = _
      unfold f_X9_dueAnew
      rw [rdr_f hq]
      rfl
    · show f_X10_dueAnew 0 a hm = _
      unfold f_X10_dueAnew
      rw [mdr_f hq, kb_ret, kif_t rfl]
      unfold X10_dueAnew_b13
      rw [kV_k T.d0, can_n T (show (1 : Int32) ≠ 0 by decide), kb_ret, kif_t rfl]
      rfl
/-! settle -/
theorem gAL_k {α : Type} {h : KH} {a c i : Nat} {f : Int64 → KO α} (h1 : kd h a = c) (h2 : i < kn h a) (h3 : i < 2147483648) : gAL h a c (nI i) f = f (kL h a i) := by
  unfold gAL
  rw [nI_clamp h3, if_pos ⟨h1, by rintro (q | q); exact nI_pos h3 q; omega⟩]
theorem pAL_k {α : Type} {h : KH} {a c i : Nat} {v : Int64} {f : KH → KO α} (h1 : kd h a = c) (h2 : i < kn h a) (h3 : i < 2147483648) : pAL h a c (nI i) v f = f (sL h a i v) := by
  unfold pAL
  rw [nI_clamp h3, if_pos ⟨h1, by rintro (q | q); exact nI_pos h3 q; omega⟩]
theorem RR.frB {D E : Nat → Nat → Prop} {j : Nat} {hx hm hx' hm' : KH} (R : RR j hx hm) (ag : kAg D hx hx') (am : kAg E hm hm') (hd : ∀ a, kd hx a = 0 → kd hx' a = 0) (c13 : cBil hx' hm')
    (hD : ∀ a k, D a k → a = 31 ∨ a = 32) (hE : ∀ a k, E a k → a = 18 ∨ a = 19 ∨ a = 20 ∨ a = 21 ∨ a = 0 ∧ k = 35) : RR j hx' hm' := by
  have hP := R.P
  obtain ⟨⟨sx, sm⟩, c1, c2, c3, c4, c5, c6, c7, c8, c9, c10, c11, c12, -, c14, c15, c16⟩ := R
  refine ⟨⟨sx.fr ag ?_, sm.fr am ?_⟩, c1.fr ag am ?_ ?_, c2.fr ag am ?_ ?_, c3.fr ag am ?_ ?_, c4.fr ag am ?_ ?_, c5.fr ag am ?_ ?_, c6.fr ag am ?_ ?_, c7.fr ag am ?_ ?_, c8.fr ag am ?_ ?_, c9.fr ag am ?_ ?_, c10.fr hP ag am ?_ ?_, c11.fr ag am ?_ ?_, c12.fr hP ag am ?_ ?_, c13, c14.fr ag am ?_ ?_, c15.fr ag am ?_ ?_, c16.fr hd am ?_ (Nat.le_refl _)⟩
  all_goals first
    | (intro a k h1 h2; have := hD a k h2; omega)
    | (intro a k h1 h2; have := hE a k h2; omega)
theorem kLcmp (m : Int64) : (lg_cmp m 0 < 0) ∨ (¬ lg_cmp m 0 < 0 ∧ 0 ≤ lg_cmp m 0 ∧ (lg_cmp m 0 ≤ 0 → m = 0)) := by
  unfold lg_cmp
  split
  · exact Or.inr ⟨by decide, by decide, fun z => absurd z (by decide)⟩
  · split
    · rename_i h
      exact Or.inr ⟨by decide, by decide, fun _ => h⟩
    · exact Or.inl (by decide)
theorem kL_alg (a b c : Int64) : a - (b - c) = a - b + c := by
  rw [Int64.sub_eq_add_neg, Int64.neg_sub, Int64.sub_eq_add_neg a b, Int64.sub_eq_add_neg c b, Int64.add_assoc, Int64.add_comm c]
theorem setL {j : Nat} (hj : j < 512) : ∀ (f k : Nat) (hx hm : KH) (v : Int64), RR j hx hm → kI hm 0 35 = 0 → k ≤ 6 → 6 < k + f → ∃ hx' hm' w, X9_settle_L4 f 0 v (nI k) hx = kret w hx' ∧ X10_settle_L9 f 0 v.toInt32 (nI k) hm = kret w hm' ∧ RR j hx' hm' ∧ kI hm' 0 35 = 0 := by
  intro f
  induction f with
  | zero => intro k hx hm v _ _ h1 h2; omega
  | succ f ih =>
    intro k hx hm v R e35 h1 h2
    have S := R.1.1
    have T := R.1.2
    have N := R.NX hj
    obtain ⟨n, hn, hc, hh, hd⟩ := R.holdN
    unfold X9_settle_L4 X9_settle_b4 X10_settle_L9 X10_settle_b9
    by_cases hk : 6 ≤ k
    · have hk6 : (6 : Int32) ≤ nI k := by rw [show (6 : Int32) = nI 6 from rfl, ka_le (by omega) (by omega)]; exact hk
      exact ⟨hx, hm, v.toInt32, by rw [kif_t hk6], by rw [kif_t hk6], R, e35⟩
    · have hk6 : ¬ (6 : Int32) ≤ nI k := by rw [show (6 : Int32) = nI 6 from rfl, ka_le (by omega) (by omega)]; exact hk
      obtain ⟨h', e1, e2, e3⟩ := N.dueFrom (d := nI k) hc (by omega) hh ((kAg.rf hm).sub (fun _ _ z => z.elim))
      have T' := (N.mx e2).1
      obtain ⟨b1, b2⟩ := R.2.2.2.2.2.2.2.2.2.2.2.2.2.1.1 k (by omega)
      have hz := R.z35
      have eL20 : ∀ i, kL h' 20 i = kL hm 20 i := fun i => (e3.1 20 i (by omega)).2.1
      have eL21 : ∀ i, kL h' 21 i = kL hm 21 i := fun i => (e3.1 21 i (by omega)).2.1
      have e35' : kI h' 0 35 = 0 := by rw [(e3.1 0 35 (by omega)).1]; exact e35
      -- what both sides reckon with
      obtain ⟨m, em⟩ : ∃ m : Int64, m = (nI (duT hm n (nI k) (mn hm 0 8))).toInt64 - kL hm 20 k + kL hm 21 k := ⟨_, rfl⟩
      have em' : (nI (duT hm n (nI k) (mn hm 0 8))).toInt64 - (kL hm 20 k - kL hm 21 k) = m := by rw [kL_alg, em]
      rw [kif_f hk6, kif_f hk6, kV_k S.d0, x9_kept R N (fun p hp m hm => hd p hp m hm hj), kb_ret, gN_k S.d0 S.r0_9, gAL_k S.d31 (by rw [S.n31]; omega) (by omega), gN_k S.d0 S.r0_10, gAL_k S.d32 (by rw [S.n32]; omega) (by omega), b1, b2, em']
      rw [kV_k T.d0, e1, kb_ret, gN_k T'.d0 T'.r25, gAL_k T'.d20 (by rw [T'.n20]; omega) (by omega), gN_k T'.d0 T'.r26, gAL_k T'.d21 (by rw [T'.n21]; omega) (by omega), gN_k T'.d0 T'.r25, gAL_k T'.d20 (by rw [T'.n20]; omega) (by omega), eL20, eL21, ← em]
      have T1 : ∀ x : Int64, kSm (sL h' 20 k x) := fun x => T'.fr (kAg.L h' 20 k x) (fun a k q z => by omega)
      have mid : ∀ (x y : Int64) (hx' : KH) (D : Nat → Nat → Prop), kAg D hx hx' → (∀ a k, D a k → a = 31 ∨ a = 32) → (∀ i, i < 6 → kL hx' 31 i = if i = k then x else kL hx 31 i) → (∀ i, i < 6 → kL hx' 32 i = if i = k then y else kL hx 32 i) → RR j hx' (sL (sL h' 20 k x) 21 k y) ∧ kI (sL (sL h' 20 k x) 21 k y) 0 35 = 0 := by
        intro x y hx' D ag hD q1 q2
        have am : kAg (fun a _ => (a = 18 ∨ a = 19) ∨ a = 20 ∨ a = 21) hm (sL (sL h' 20 k x) 21 k y) := (e3.trans (F := fun a _ => (a = 18 ∨ a = 19) ∨ a = 20 ∨ a = 21) (kAg.L h' 20 k x) (fun a k q z => q (Or.inl z)) (fun a k q z => q (Or.inr (Or.inl z.1)))).trans (kAg.L _ 21 k y) (fun a k q => q) (fun a k q z => q (Or.inr (Or.inr z.1)))
        refine ⟨R.frB ag am (ag.nf (fun a z => by have := hD _ _ z; omega)) ⟨fun i hi => ⟨?_, ?_⟩, fun i hi => ?_⟩ hD (fun a k z => by omega), e35'⟩
        · have r20 : kL (sL (sL h' 20 k x) 21 k y) 20 i = if i = k then x else kL h' 20 i := by
            rw [kL_sL, if_neg (by omega), kL_sL]
            by_cases hik : i = k
            · rw [if_pos hik, if_pos ⟨rfl, hik⟩]
            · rw [if_neg hik, if_neg (fun z => hik z.2)]
          rw [q1 i hi, r20, eL20]
          by_cases hik : i = k
          · rw [if_pos hik, if_pos hik]
          · rw [if_neg hik, if_neg hik]
            exact (R.2.2.2.2.2.2.2.2.2.2.2.2.2.1.1 i hi).1
        · have r21 : kL (sL (sL h' 20 k x) 21 k y) 21 i = if i = k then y else kL h' 21 i := by
            rw [kL_sL]
            by_cases hik : i = k
            · rw [if_pos hik, if_pos ⟨rfl, hik⟩]
            · rw [if_neg hik, if_neg (fun z => hik z.2), kL_sL, if_neg (by omega)]
          rw [q2 i hi, r21, eL21]
          by_cases hik : i = k
          · rw [if_pos hik, if_pos hik]
          · rw [if_neg hik, if_neg hik]
            exact (R.2.2.2.2.2.2.2.2.2.2.2.2.2.1.1 i hi).2
        · rw [(ag.1 35 i (fun z => by have := hD _ _ z; omega)).1]
          exact hz i hi
      rcases kLcmp m with hneg | ⟨hnn, hge, hz0⟩
      · have hle : lg_cmp m 0 ≤ 0 := by
          rw [Int32.le_iff_toInt_le]
          rw [Int32.lt_iff_toInt_lt] at hneg
          omega
        have hnge : ¬ 0 ≤ lg_cmp m 0 := by
          rw [Int32.le_iff_toInt_le]
          rw [Int32.lt_iff_toInt_lt] at hneg
          omega
        obtain ⟨R', e'⟩ := mid (kL hm 20 k + 0) (kL hm 21 k + -m) (sL hx 32 k (kL hm 21 k - m)) _ (kAg.L hx 32 k _) (fun a k z => Or.inr z.1) (fun i hi => by
          rw [kL_sL, if_neg (by omega)]
          by_cases hik : i = k
          · rw [if_pos hik, hik, b1, Int64.add_zero]
          · rw [if_neg hik]) (fun i hi => by
          rw [kL_sL]
          by_cases hik : i = k
          · rw [if_pos hik, if_pos ⟨rfl, hik⟩, Int64.sub_eq_add_neg]
          · rw [if_neg hik, if_neg (fun z => hik z.2)])
        obtain ⟨hx2, hm2, w, f1, f2, f3⟩ := ih (k + 1) _ _ (v - m) R' e' (by omega) (by omega)
        refine ⟨hx2, hm2, w, ?_, ?_, f3⟩
        · rw [kif_t hneg, gN_k S.d0 S.r0_10, gAL_k S.d32 (by rw [S.n32]; omega) (by omega), pAL_k S.d32 (by rw [S.n32]; omega) (by omega), b2]
          unfold X9_settle_b69
          rw [nI_1]
          exact f1
        · rw [kif_t hle]
          unfold X10_settle_b54
          rw [pAL_k T'.d20 (by rw [T'.n20]; omega) (by omega), gN_k (T1 _).d0 (T1 _).r26, gAL_k (T1 _).d21 (by rw [(T1 _).n21]; omega) (by omega), kif_f hnge]
          unfold X10_settle_b75
          rw [kL_sL, if_neg (by omega), eL21, pAL_k (T1 _).d21 (by rw [(T1 _).n21]; omega) (by omega), kif_f hnge]
          unfold X10_settle_b91
          rw [nI_1, ← Int64.toInt32_add, ← Int64.sub_eq_add_neg v m]
          exact f2
      · obtain ⟨R', e'⟩ := mid (kL hm 20 k + m) (kL hm 21 k + 0) (sL hx 31 k (kL hm 20 k + m)) _ (kAg.L hx 31 k _) (fun a k z => Or.inl z.1) (fun i hi => by
          rw [kL_sL]
          by_cases hik : i = k
          · rw [if_pos hik, if_pos ⟨rfl, hik⟩]
          · rw [if_neg hik, if_neg (fun z => hik z.2)]) (fun i hi => by
          rw [kL_sL, if_neg (by omega)]
          by_cases hik : i = k
          · rw [if_pos hik, hik, b2, Int64.add_zero]
          · rw [if_neg hik])
        obtain ⟨hx2, hm2, w, f1, f2, f3⟩ := ih (k + 1) _ _ v R' e' (by omega) (by omega)
        refine ⟨hx2, hm2, w, ?_, ?_, f3⟩
        · rw [kif_f hnn, gN_k S.d0 S.r0_9, gAL_k S.d31 (by rw [S.n31]; omega) (by omega), pAL_k S.d31 (by rw [S.n31]; omega) (by omega), b1]
          unfold X9_settle_b69
          rw [nI_1]
          exact f1
        · have hb54 : X10_settle_b54 (X10_settle_L9 f) 0 v.toInt32 (nI k) m m (kL hm 20 k) (nI k) 20 h' = kret w hm2 := by
            unfold X10_settle_b54
            rw [pAL_k T'.d20 (by rw [T'.n20]; omega) (by omega), gN_k (T1 _).d0 (T1 _).r26, gAL_k (T1 _).d21 (by rw [(T1 _).n21]; omega) (by omega), kif_t hge]
            unfold X10_settle_b75
            rw [kL_sL, if_neg (by omega), eL21, pAL_k (T1 _).d21 (by rw [(T1 _).n21]; omega) (by omega), kif_t hge]
            unfold X10_settle_b91
            rw [nI_1, Int32.add_zero]
            exact f2
          by_cases hle : lg_cmp m 0 ≤ 0
          · rw [kif_t hle]
            have hm0 := hz0 hle
            rw [hm0] at hb54 ⊢
            exact hb54
          · rw [kif_f hle]
            exact hb54
theorem pn_settle : PN RR (f_X9_settle 0) (f_X10_settle 0) := by
  intro j hx hm hj R
  have T := R.1.2
  obtain ⟨hx', hm', w, e1, e2, e3, e4⟩ := setL hj kF 0 (sX hx 0) (sI hm 0 35 0) 0 ((R.X 0).thr 0) (by rw [kI_sI, if_pos ⟨rfl, rfl⟩]) (by omega) (by unfold kF; omega)
  refine ⟨w, hx', hm', e1, ?_, e3.up⟩
  show f_X10_settle 0 hm = kret w hm'
  unfold f_X10_settle
  rw [pI_k T.d0]
  exact e2
end
section
def b01 (b : Bool) : Int32 := if b = true then 1 else 0
theorem b01_0 (b : Bool) : (b01 b = 0) = ¬ (b = true) := by
  cases b <;> simp [b01]
/-! ways through a net of roads -/
def WK (L : Nat → Nat → Nat) : Nat → Nat → Nat → Nat → Prop
  | 0, i, j, w => i = j ∧ w = 0
  | n + 1, i, j, w => ∃ k u, k < 8 ∧ WK L n i k u ∧ L k j ≠ 0 ∧ w = u + L k j
def isDi (L : Nat → Nat → Nat) (i j : Nat) (o : Option Nat) : Prop := match o with
  | none => ∀ n w, ¬ WK L n i j w
  | some d => (∃ n, WK L n i j d) ∧ ∀ n w, WK L n i j w → d ≤ w
theorem isDi_uniq {L : Nat → Nat → Nat} {i j : Nat} {o o' : Option Nat} (h : isDi L i j o) (h' : isDi L i j o') : o = o' := by
  cases o with
  | none =>
    cases o' with
    | none => rfl
    | some d =>
      obtain ⟨⟨n, hn⟩, -⟩ := h'
      exact absurd hn (h n d)
  | some d =>
    obtain ⟨⟨n, hn⟩, h2⟩ := h
    cases o' with
    | none => exact absurd hn (h' n d)
    | some d' =>
      obtain ⟨⟨n', hn'⟩, h2'⟩ := h'
      have := h2 n' d' hn'
      have := h2' n d hn
      rw [show d = d' by omega]
theorem WK.app {L : Nat → Nat → Nat} {i k : Nat} (hk : k < 8) : ∀ (m n j u v : Nat), WK L n i k u → WK L m k j v → ∃ q, WK L q i j (u + v) := by
  intro m
  induction m with
  | zero =>
    intro n j u v h1 h2
    obtain ⟨rfl, rfl⟩ := h2
    exact ⟨n, h1⟩
  | succ m ih =>
    intro n j u v h1 h2
    obtain ⟨x, w, hx, h3, h4, rfl⟩ := h2
    obtain ⟨q, hq⟩ := ih n x u w h1 h3
    exact ⟨q + 1, x, u + w, hx, hq, h4, by omega⟩
def leO (o : Option Nat) (w : Nat) : Prop := ∃ d, o = some d ∧ d ≤ w
/-! over more and more gates -/
def kF0 (L : Nat → Nat → Nat) (i j : Nat) : Option Nat := if i = j then some 0 else if L i j = 0 then none else some (L i j)
def stp (m : Nat) (F : Nat → Nat → Option Nat) (i j : Nat) : Option Nat := match F i m, F m j with
  | some a, some b => (match F i j with
    | none => some (a + b)
    | some c => if a + b < c then some (a + b) else some c)
  | _, _ => F i j
def FWn (L : Nat → Nat → Nat) : Nat → Nat → Nat → Option Nat
  | 0 => kF0 L
  | m + 1 => stp m (FWn L m)
theorem stp_none {m : Nat} {F : Nat → Nat → Option Nat} {i j : Nat} (h : F i m = none ∨ F m j = none) : stp m F i j = F i j := by
  unfold stp
  rcases h with h | h
  · rw [h]
  · rw [h]
    cases F i m <;> rfl
theorem stp_some {m : Nat} {F : Nat → Nat → Option Nat} {i j a b : Nat} (h1 : F i m = some a) (h2 : F m j = some b) : stp m F i j = (match F i j with
    | none => some (a + b)
    | some c => if a + b < c then some (a + b) else some c) := by
  unfold stp
  rw [h1, h2]
theorem stp_le {m : Nat} {F : Nat → Nat → Option Nat} {i j w : Nat} : leO (stp m F i j) w ↔ leO (F i j) w ∨ ∃ a b, F i m = some a ∧ F m j = some b ∧ a + b ≤ w := by
  cases e1 : F i m with
  | none =>
    rw [stp_none (Or.inl e1)]
    exact ⟨Or.inl, fun z => z.elim id (fun ⟨a, b, q, _⟩ => by cases q)⟩
  | some a =>
    cases e2 : F m j with
    | none =>
      rw [stp_none (Or.inr e2)]
      exact ⟨Or.inl, fun z => z.elim id (fun ⟨a, b, _, q, _⟩ => by cases q)⟩
    | some b =>
      rw [stp_some e1 e2]
      cases e3 : F i j with
      | none =>
        constructor
        · rintro ⟨d, q1, q2⟩
          cases q1
          exact Or.inr ⟨a, b, rfl, rfl, q2⟩
        · rintro (⟨d, q1, q2⟩ | ⟨a', b', q1, q2, q3⟩)
          · cases q1
          · cases q1; cases q2
            exact ⟨a + b, rfl, q3⟩
      | some c =>
        show leO (if a + b < c then some (a + b) else some c) w ↔ _
        by_cases g : a + b < c
        · rw [if_pos g]
          constructor
          · rintro ⟨d, q1, q2⟩
            cases q1
            exact Or.inr ⟨a, b, rfl, rfl, q2⟩
          · rintro (⟨d, q1, q2⟩ | ⟨a', b', q1, q2, q3⟩)
            · cases q1
              exact ⟨a + b, rfl, by omega⟩
            · cases q1; cases q2
              exact ⟨a + b, rfl, q3⟩
        · rw [if_neg g]
          constructor
          · rintro ⟨d, q1, q2⟩
            cases q1
            exact Or.inl ⟨c, rfl, q2⟩
          · rintro (⟨d, q1, q2⟩ | ⟨a', b', q1, q2, q3⟩)
            · cases q1
              exact ⟨c, rfl, q2⟩
            · cases q1; cases q2
              exact ⟨c, rfl, by omega⟩
theorem stp_cases {m : Nat} {F : Nat → Nat → Option Nat} {i j d : Nat} (h : stp m F i j = some d) : F i j = some d ∨ ∃ a b, F i m = some a ∧ F m j = some b ∧ d = a + b := by
  cases e1 : F i m with
  | none => rw [stp_none (Or.inl e1)] at h; exact Or.inl h
  | some a =>
    cases e2 : F m j with
    | none => rw [stp_none (Or.inr e2)] at h; exact Or.inl h
    | some b =>
      rw [stp_some e1 e2] at h
      cases e3 : F i j with
      | none =>
        rw [e3] at h
        cases h
        exact Or.inr ⟨a, b, rfl, rfl, rfl⟩
      | some c =>
        rw [e3] at h
        have h' : (if a + b < c then some (a + b) else some c) = some d := h
        by_cases g : a + b < c
        · rw [if_pos g] at h'
          cases h'
          exact Or.inr ⟨a, b, rfl, rfl, rfl⟩
        · rw [if_neg g] at h'
          cases h'
          exact Or.inl rfl
theorem stp_row {m : Nat} {F : Nat → Nat → Option Nat} (h0 : F m m = some 0) (i : Nat) : stp m F i m = F i m := by
  cases e1 : F i m with
  | none => rw [stp_none (Or.inl e1), e1]
  | some a =>
    rw [stp_some e1 h0, e1]
    show (if a + 0 < a then some (a + 0) else some a) = some a
    rw [if_neg (by omega)]
theorem stp_col {m : Nat} {F : Nat → Nat → Option Nat} (h0 : F m m = some 0) (j : Nat) : stp m F m j = F m j := by
  cases e1 : F m j with
  | none => rw [stp_none (Or.inr e1), e1]
  | some a =>
    rw [stp_some h0 e1, e1]
    show (if 0 + a < a then some (0 + a) else some a) = some a
    rw [if_neg (by omega)]
section KFW
variable {L : Nat → Nat → Nat}
theorem FW_diag : ∀ m i, FWn L m i i = some 0 := by
  intro m
  induction m with
  | zero => intro i; exact if_pos rfl
  | succ m ih =>
    intro i
    show stp m (FWn L m) i i = some 0
    have h : leO (stp m (FWn L m) i i) 0 := stp_le.2 (Or.inl ⟨0, ih i, Nat.le_refl _⟩)
    obtain ⟨d, q1, q2⟩ := h
    rw [q1, show d = 0 by omega]
theorem FW_bound (hL : ∀ i j, i < 8 → j < 8 → L i j ≤ 200) : ∀ m, m ≤ 8 → ∀ i j d, i < 8 → j < 8 → FWn L m i j = some d → d ≤ 200 * 2 ^ m := by
  intro m
  induction m with
  | zero =>
    intro _ i j d hi hj h
    have h' : (if i = j then some 0 else if L i j = 0 then none else some (L i j)) = some d := h
    split at h'
    · cases h'; omega
    · split at h'
      · cases h'
      · cases h'
        have := hL i j hi hj
        omega
  | succ m ih =>
    intro hm i j d hi hj h
    have hp : 2 ^ (m + 1) = 2 * 2 ^ m := by rw [Nat.pow_succ, Nat.mul_comm]
    rcases stp_cases h with h1 | ⟨a, b, h1, h2, rfl⟩
    · have := ih (by omega) i j d hi hj h1
      omega
    · have q1 := ih (by omega) i m a hi (by omega) h1
      have q2 := ih (by omega) m j b (by omega) hj h2
      omega
theorem FW_sound : ∀ m, m ≤ 8 → ∀ i j d, i < 8 → j < 8 → FWn L m i j = some d → ∃ n, WK L n i j d := by
  intro m
  induction m with
  | zero =>
    intro _ i j d hi hj h
    have h' : (if i = j then some 0 else if L i j = 0 then none else some (L i j)) = some d := h
    split at h'
    · rename_i e
      cases h'
      exact ⟨0, e, rfl⟩
    · split at h'
      · cases h'
      · rename_i e
        cases h'
        exact ⟨1, i, 0, hi, ⟨rfl, rfl⟩, e, by omega⟩
  | succ m ih =>
    intro hm i j d hi hj h
    rcases stp_cases h with h1 | ⟨a, b, h1, h2, rfl⟩
    · exact ih (by omega) i j d hi hj h1
    · obtain ⟨n1, w1⟩ := ih (by omega) i m a hi (by omega) h1
      obtain ⟨n2, w2⟩ := ih (by omega) m j b (by omega) hj h2
      exact WK.app (by omega) n2 n1 j a b w1 w2
theorem FW_edge (h0 : ∀ i, L i i = 0) : ∀ m i j, L i j ≠ 0 → leO (FWn L m i j) (L i j) := by
  intro m
  induction m with
  | zero =>
    intro i j h
    have hij : i ≠ j := fun e => h (by rw [e]; exact h0 j)
    exact ⟨L i j, by show (if i = j then some 0 else if L i j = 0 then none else some (L i j)) = _; rw [if_neg hij, if_neg h], Nat.le_refl _⟩
  | succ m ih => intro i j h; exact stp_le.2 (Or.inl (ih i j h))
theorem FW_tri : ∀ m i j k a b, k < m → leO (FWn L m i k) a → leO (FWn L m k j) b → leO (FWn L m i j) (a + b) := by
  intro m
  induction m with
  | zero => intro i j k a b hk; exact absurd hk (Nat.not_lt_zero _)
  | succ m ih =>
    intro i j k a b hk h1 h2
    have hd := FW_diag (L := L) m m
    by_cases hkm : k = m
    · subst hkm
      have h1' : leO (FWn L k i k) a := by
        have := h1
        show leO (FWn L k i k) a
        rw [← stp_row hd i]
        exact this
      have h2' : leO (FWn L k k j) b := by
        have := h2
        rw [← stp_col hd j]
        exact this
      obtain ⟨x, x1, x2⟩ := h1'
      obtain ⟨y, y1, y2⟩ := h2'
      exact stp_le.2 (Or.inr ⟨x, y, x1, y1, by omega⟩)
    · rcases stp_le.1 h1 with h1 | ⟨x, y, x1, y1, z1⟩
      · rcases stp_le.1 h2 with h2 | ⟨x', y', x2, y2, z2⟩
        · exact stp_le.2 (Or.inl (ih i j k a b (by omega) h1 h2))
        · obtain ⟨q, q1, q2⟩ := ih i m k a x' (by omega) h1 ⟨x', x2, Nat.le_refl _⟩
          exact stp_le.2 (Or.inr ⟨q, y', q1, y2, by omega⟩)
      · rcases stp_le.1 h2 with h2 | ⟨x', y', x2, y2, z2⟩
        · obtain ⟨q, q1, q2⟩ := ih m j k y b (by omega) ⟨y, y1, Nat.le_refl _⟩ h2
          exact stp_le.2 (Or.inr ⟨x, q, x1, q1, by omega⟩)
        · exact stp_le.2 (Or.inr ⟨x, y', x1, y2, by omega⟩)
theorem FW_dist (h0 : ∀ i, L i i = 0) {i j : Nat} (hi : i < 8) (hj : j < 8) : isDi L i j (FWn L 8 i j) := by
  have hc : ∀ n j w, j < 8 → WK L n i j w → leO (FWn L 8 i j) w := by
    intro n
    induction n with
    | zero =>
      rintro j w hj ⟨rfl, rfl⟩
      exact ⟨0, FW_diag 8 i, Nat.le_refl _⟩
    | succ n ih =>
      rintro j w hj ⟨k, u, hk, h1, h2, rfl⟩
      exact FW_tri 8 i j k u (L k j) hk (ih k u hk h1) (FW_edge h0 8 k j h2)
  cases e : FWn L 8 i j with
  | none =>
    intro n w hw
    obtain ⟨d, q1, -⟩ := hc n j w hj hw
    rw [e] at q1
    cases q1
  | some d =>
    refine ⟨FW_sound 8 (Nat.le_refl _) i j d hi hj e, fun n w hw => ?_⟩
    obtain ⟨d', q1, q2⟩ := hc n j w hj hw
    rw [e] at q1
    cases q1
    exact q2
end KFW
/-! from one gate: the nearest one left, again and again -/
def rlx (L : Nat → Nat → Nat) (W : Nat → Option Nat) (g d v : Nat) : Option Nat := if L g v = 0 then W v else match W v with
  | none => some (d + L g v)
  | some c => if d + L g v < c then some (d + L g v) else some c
theorem rlx_le {L : Nat → Nat → Nat} {W : Nat → Option Nat} {g d v w : Nat} : leO (rlx L W g d v) w ↔ leO (W v) w ∨ L g v ≠ 0 ∧ d + L g v ≤ w := by
  unfold rlx
  by_cases h : L g v = 0
  · rw [if_pos h]
    exact ⟨Or.inl, fun z => z.elim id (fun q => absurd h q.1)⟩
  · rw [if_neg h]
    cases e : W v with
    | none =>
      constructor
      · rintro ⟨x, q1, q2⟩
        cases q1
        exact Or.inr ⟨h, q2⟩
      · rintro (⟨x, q1, q2⟩ | ⟨-, q2⟩)
        · cases q1
        · exact ⟨_, rfl, q2⟩
    | some c =>
      show leO (if d + L g v < c then some (d + L g v) else some c) w ↔ _
      by_cases q : d + L g v < c
      · rw [if_pos q]
        constructor
        · rintro ⟨x, q1, q2⟩
          cases q1
          exact Or.inr ⟨h, q2⟩
        · rintro (⟨x, q1, q2⟩ | ⟨-, q2⟩)
          · cases q1
            exact ⟨_, rfl, by omega⟩
          · exact ⟨_, rfl, q2⟩
      · rw [if_neg q]
        constructor
        · rintro ⟨x, q1, q2⟩
          cases q1
          exact Or.inl ⟨c, rfl, q2⟩
        · rintro (⟨x, q1, q2⟩ | ⟨-, q2⟩)
          · cases q1
            exact ⟨c, rfl, q2⟩
          · exact ⟨c, rfl, by omega⟩
theorem rlx_cases {L : Nat → Nat → Nat} {W : Nat → Option Nat} {g d v x : Nat} (h : rlx L W g d v = some x) : W v = some x ∨ L g v ≠ 0 ∧ x = d + L g v := by
  unfold rlx at h
  by_cases h0 : L g v = 0
  · rw [if_pos h0] at h
    exact Or.inl h
  · rw [if_neg h0] at h
    cases e : W v with
    | none =>
      rw [e] at h
      cases h
      exact Or.inr ⟨h0, rfl⟩
    | some c =>
      rw [e] at h
      have h' : (if d + L g v < c then some (d + L g v) else some c) = some x := h
      by_cases q : d + L g v < c
      · rw [if_pos q] at h'
        cases h'
        exact Or.inr ⟨h0, rfl⟩
      · rw [if_neg q] at h'
        cases h'
        exact Or.inl rfl
def cnD (D : Nat → Bool) : Nat → Nat
  | 0 => 0
  | n + 1 => cnD D n + if D n = true then 1 else 0
theorem cnD_le (D : Nat → Bool) (n : Nat) : cnD D n ≤ n := by
  induction n with
  | zero => exact Nat.le_refl _
  | succ n ih =>
    show cnD D n + _ ≤ _
    split <;> omega
theorem cnD_all {D : Nat → Bool} : ∀ n, cnD D n = n → ∀ v, v < n → D v = true := by
  intro n
  induction n with
  | zero => intro _ v hv; exact absurd hv (Nat.not_lt_zero _)
  | succ n ih =>
    intro h v hv
    have h' : cnD D n + (if D n = true then 1 else 0) = n + 1 := h
    have hle := cnD_le D n
    by_cases g : D n = true
    · rw [if_pos g] at h'
      by_cases hvn : v = n
      · rw [hvn]; exact g
      · exact ih (by omega) v (by omega)
    · rw [if_neg g] at h'
      omega
theorem cnD_set {D D' : Nat → Bool} {g : Nat} (hg : D g = false) (h : ∀ v, D' v = if v = g then true else D v) : ∀ n, cnD D' n = cnD D n + if g < n then 1 else 0 := by
  intro n
  induction n with
  | zero => show 0 = 0 + _; rw [if_neg (Nat.not_lt_zero _)]
  | succ n ih =>
    show cnD D' n + (if D' n = true then 1 else 0) = cnD D n + (if D n = true then 1 else 0) + (if g < n + 1 then 1 else 0)
    rw [ih]
    by_cases hgn : n = g
    · have e1 : (if g < n then 1 else 0) = 0 := if_neg (by omega)
      have e2 : D' n = true := by rw [h n, if_pos hgn]
      have e3 : D n = false := by rw [hgn]; exact hg
      have e4 : (if g < n + 1 then 1 else 0) = 1 := if_pos (by omega)
      rw [e1, e2, e3, e4]
      rfl
    · have e2 : D' n = D n := by rw [h n, if_neg hgn]
      have e4 : (if g < n + 1 then 1 else 0) = (if g < n then 1 else 0) := by
        by_cases g1 : g < n
        · rw [if_pos g1, if_pos (by omega)]
        · rw [if_neg g1, if_neg (by omega)]
      rw [e2, e4]
      omega
/-- what holds at each round -/
def DJ (L : Nat → Nat → Nat) (s r : Nat) (W : Nat → Option Nat) (D : Nat → Bool) : Prop := leO (W s) 0 ∧ (∀ v d, v < 8 → W v = some d → (∃ n, WK L n s v d) ∧ d ≤ 200 * r) ∧ (∀ u, u < 8 → D u = true → ∃ d, W u = some d ∧ ∀ n w, WK L n s u w → d ≤ w) ∧ (∀ u d v, u < 8 → D u = true → W u = some d → v < 8 → L u v ≠ 0 → leO (W v) (d + L u v)) ∧ cnD D 8 = r
/-- the first gate left on a way -/
theorem DJ.opn {L : Nat → Nat → Nat} {s r : Nat} {W : Nat → Option Nat} {D : Nat → Bool} (J : DJ L s r W D) (hs : s < 8) : ∀ n v w, v < 8 → WK L n s v w → (D v = true) ∨ ∃ x d, x < 8 ∧ D x = false ∧ W x = some d ∧ d ≤ w := by
  obtain ⟨j1, j2, j3, j4, j5⟩ := J
  intro n
  induction n with
  | zero =>
    rintro v w hv ⟨rfl, rfl⟩
    cases e : D s with
    | true => exact Or.inl rfl
    | false =>
      obtain ⟨d, q1, q2⟩ := j1
      exact Or.inr ⟨s, d, hv, e, q1, q2⟩
  | succ n ih =>
    rintro v w hv ⟨k, u, hk, h1, h2, rfl⟩
    rcases ih k u hk h1 with h3 | ⟨x, d, x1, x2, x3, x4⟩
    · cases e : D v with
      | true => exact Or.inl rfl
      | false =>
        obtain ⟨d, q1, q2⟩ := j3 k hk h3
        obtain ⟨d', q3, q4⟩ := j4 k d v hk h3 q1 hv h2
        have := q2 n u h1
        exact Or.inr ⟨v, d', hv, e, q3, by omega⟩
    · exact Or.inr ⟨x, d, x1, x2, x3, by omega⟩
theorem DJ.step {L : Nat → Nat → Nat} {s r g d : Nat} {W : Nat → Option Nat} {D D' : Nat → Bool} {W' : Nat → Option Nat} (J : DJ L s r W D) (hs : s < 8) (hL : ∀ i j, i < 8 → j < 8 → L i j ≤ 200) (h0 : ∀ i, L i i = 0) (hg : g < 8) (hgo : D g = false) (hgd : W g = some d) (hmin : ∀ v, v < 8 → D v = false → ∀ dv, W v = some dv → d ≤ dv) (hD' : ∀ v, D' v = if v = g then true else D v) (hW' : ∀ v, v < 8 → W' v = rlx L W g d v) : DJ L s (r + 1) W' D' := by
  have J' := J
  obtain ⟨j1, j2, j3, j4, j5⟩ := J'
  have hleast : ∀ n w, WK L n s g w → d ≤ w := fun n w hw => by
    rcases J.opn hs n g w hg hw with h | ⟨x, dx, x1, x2, x3, x4⟩
    · rw [hgo] at h
      cases h
    · have := hmin x x1 x2 dx x3
      omega
  obtain ⟨⟨ng, hng⟩, hdb⟩ := j2 g d hg hgd
  have hsound : ∀ v x, v < 8 → W' v = some x → (∃ n, WK L n s v x) ∧ x ≤ 200 * (r + 1) := fun v x hv h => by
    rw [hW' v hv] at h
    rcases rlx_cases h with h1 | ⟨h1, rfl⟩
    · obtain ⟨q1, q2⟩ := j2 v x hv h1
      exact ⟨q1, by omega⟩
    · have := hL g v hg hv
      exact ⟨⟨ng + 1, g, d, hg, hng, h1, rfl⟩, by omega⟩
  have hkeep : ∀ u x, u < 8 → W u = some x → (∀ n w, WK L n s u w → x ≤ w) → W' u = some x := fun u x hu h1 h2 => by
    have h3 : leO (W' u) x := by
      rw [hW' u hu]
      exact rlx_le.2 (Or.inl ⟨x, h1, Nat.le_refl _⟩)
    obtain ⟨y, y1, y2⟩ := h3
    obtain ⟨⟨n, hn⟩, -⟩ := hsound u y hu y1
    have := h2 n y hn
    rw [y1, show y = x by omega]
  have hgW : W' g = some d := hkeep g d hg hgd hleast
  have hdone : ∀ u, u < 8 → D' u = true → ∃ x, W' u = some x ∧ W u = some x ∧ ∀ n w, WK L n s u w → x ≤ w := fun u hu h => by
    rw [hD' u] at h
    by_cases hug : u = g
    · rw [hug]
      exact ⟨d, hgW, hgd, hleast⟩
    · rw [if_neg hug] at h
      obtain ⟨x, x1, x2⟩ := j3 u hu h
      exact ⟨x, hkeep u x hu x1 x2, x1, x2⟩
  refine ⟨?_, hsound, fun u hu h => ?_, fun u x v hu h h1 hv h2 => ?_, ?_⟩
  · rw [hW' s hs]
    exact rlx_le.2 (Or.inl j1)
  · obtain ⟨x, x1, -, x3⟩ := hdone u hu h
    exact ⟨x, x1, x3⟩
  · obtain ⟨y, y1, y2, y3⟩ := hdone u hu h
    rw [y1] at h1
    cases h1
    rw [hW' v hv]
    by_cases hug : u = g
    · subst hug
      rw [hgd] at y2
      cases y2
      exact rlx_le.2 (Or.inr ⟨h2, Nat.le_refl _⟩)
    · rw [hD' u, if_neg hug] at h
      exact rlx_le.2 (Or.inl (j4 u _ v hu h y2 hv h2))
  · rw [cnD_set hgo hD' 8, if_pos hg, j5]
theorem DJ.fin {L : Nat → Nat → Nat} {s r : Nat} {W : Nat → Option Nat} {D : Nat → Bool} (J : DJ L s r W D) (hs : s < 8) (hall : ∀ v, v < 8 → D v = true ∨ W v = none) : ∀ v, v < 8 → isDi L s v (W v) := by
  intro v hv
  have J' := J
  obtain ⟨j1, j2, j3, j4, j5⟩ := J'
  cases e : W v with
  | none =>
    intro n w hw
    rcases J.opn hs n v w hv hw with h | ⟨x, d, x1, x2, x3, -⟩
    · obtain ⟨d, q, -⟩ := j3 v hv h
      rw [e] at q
      cases q
    · rcases hall x x1 with q | q
      · rw [x2] at q
        cases q
      · rw [x3] at q
        cases q
  | some d =>
    refine ⟨(j2 v d hv e).1, ?_⟩
    rcases hall v hv with q | q
    · obtain ⟨d', q1, q2⟩ := j3 v hv q
      rw [e] at q1
      cases q1
      exact q2
    · rw [e] at q
      cases q
end
section
/-! the model's distances -/
section KFLOYD
variable {L : Nat → Nat → Nat}
theorem ka_div8 (k : Nat) (hk : k < 64) : nI k / 8 = nI (k / 8) := by
  rw [show (8 : Int32) = nI 8 from rfl, pk_div (by omega) (by decide) (by decide)]
theorem ka_mod8 (k : Nat) (hk : k < 64) : nI k - nI (k / 8) * 8 = nI (k % 8) := by
  rw [show (8 : Int32) = nI 8 from rfl, ka_mul, ka_sub (by omega), show k - k / 8 * 8 = k % 8 by omega]
theorem kdv8 {α : Type} (f : KO α) : kdv 8 f = f := if_neg (by decide)
theorem tm_m0L (hL : ∀ i j, i < 8 → j < 8 → L i j ≤ 200) : ∀ (f k : Nat) (h : KH), kSm h → (∀ q, q < 64 → kI h 1 q = nI (L (q / 8) (q % 8))) → (∀ q, q < k → kI h 2 q = cOf (kF0 L (q / 8) (q % 8))) → k ≤ 64 → 64 < k + f → ∃ h', X10_measures_L2 f 0 (nI k) h = X10_measures_L56 kF 0 0 h' ∧ kAg (fun a _ => a = 2) h h' ∧ ∀ q, q < 64 → kI h' 2 q = cOf (kF0 L (q / 8) (q % 8)) := by
  intro f
  induction f with
  | zero => intro k h _ _ _ h1 h2; omega
  | succ f ih =>
    intro k h T hr hq h1 h2
    unfold X10_measures_L2 X10_measures_b2
    by_cases hk : 64 ≤ k
    · exact ⟨h, by rw [kif_t (by rw [show (64 : Int32) = nI 64 from rfl, ka_le (by omega) (by omega)]; exact hk)], (kAg.rf h).sub (fun _ _ z => z.elim), fun q hq' => hq q (by omega)⟩
    · have hk64 : k < 64 := by omega
      have hLk := hL (k / 8) (k % 8) (by omega) (by omega)
      have fin : ∀ v : Int32, v = cOf (kF0 L (k / 8) (k % 8)) → ∃ h', X10_measures_b47 (X10_measures_L2 f) 0 (nI k) v (nI k) 2 h = X10_measures_L56 kF 0 0 h' ∧ kAg (fun a _ => a = 2) h h' ∧ ∀ q, q < 64 → kI h' 2 q = cOf (kF0 L (q / 8) (q % 8)) := by
        intro v hv
        have ag1 := kAg.I h 2 k v
        obtain ⟨h', e1, e2, e3⟩ := ih (k + 1) (sI h 2 k v) (T.fr ag1 (fun a k q z => by omega)) (fun q hq' => by rw [kI_sI, if_neg (by omega)]; exact hr q hq') (fun q hq' => by
          rw [kI_sI]
          by_cases hqk : q = k
          · rw [if_pos ⟨rfl, hqk⟩, hv, hqk]
          · rw [if_neg (by omega)]
            exact hq q (by omega)) (by omega) (by omega)
        refine ⟨h', ?_, ag1.trans e2 (fun a k q z => q z.1) (fun a k q => q), e3⟩
        unfold X10_measures_b47
        rw [pAI_k T.d2 (by rw [T.n2]; omega) (by omega), nI_1]
        exact e1
      rw [kif_f (by rw [show (64 : Int32) = nI 64 from rfl, ka_le (by omega) (by omega)]; exact hk), gN_k T.d0 T.r3, kdv8, kdv8, ka_div8 k hk64, ka_mod8 k hk64]
      unfold kF0 at fin
      by_cases hd : k / 8 = k % 8
      · rw [if_pos hd] at fin
        rw [kif_t (by rw [hd])]
        exact fin 0 rfl
      · rw [if_neg hd] at fin
        rw [kif_f (by rw [ka_eq (by omega) (by omega)]; exact hd), gN_k T.d0 T.r2, gAI_k T.d1 (by rw [T.n1]; omega) (by omega), hr k hk64]
        by_cases h0 : L (k / 8) (k % 8) = 0
        · rw [if_pos h0] at fin
          rw [kif_t (by rw [h0]; rfl)]
          exact fin (-1) rfl
        · rw [if_neg h0] at fin
          rw [kif_f (by rw [show (0 : Int32) = nI 0 from rfl, ka_eq (by omega) (by omega)]; exact h0), gN_k T.d0 T.r2, gAI_k T.d1 (by rw [T.n1]; omega) (by omega), hr k hk64]
          exact fin _ rfl
theorem tm_m1L {F : Nat → Nat → Option Nat} {m : Nat} (hm : m < 8) (h0 : F m m = some 0) (hB : ∀ i j d, i < 8 → j < 8 → F i j = some d → d ≤ 60000) (rc : Nat → Int32 → KH → KO Unit) : ∀ (f k : Nat) (h : KH), kSm h → (∀ q, q < 64 → kI h 2 q = cOf (if q < k then stp m F (q / 8) (q % 8) else F (q / 8) (q % 8))) → k ≤ 64 → 64 < k + f → ∃ h', X10_measures_L64 rc f 0 (nI m) (nI k) h = rc 0 (nI (m + 1)) h' ∧ kAg (fun a _ => a = 2) h h' ∧ ∀ q, q < 64 → kI h' 2 q = cOf (stp m F (q / 8) (q % 8)) := by
  intro f
  induction f with
  | zero => intro k h _ _ h1 h2; omega
  | succ f ih =>
    intro k h T hq h1 h2
    unfold X10_measures_L64 X10_measures_b64
    by_cases hk : 64 ≤ k
    · refine ⟨h, by rw [kif_t (by rw [show (64 : Int32) = nI 64 from rfl, ka_le (by omega) (by omega)]; exact hk), nI_1], (kAg.rf h).sub (fun _ _ z => z.elim), fun q hq' => ?_⟩
      have := hq q hq'
      rw [if_pos (by omega)] at this
      exact this
    · have hk64 : k < 64 := by omega
      have fin : ∀ v : Int32, v = cOf (stp m F (k / 8) (k % 8)) → ∃ h', X10_measures_b165 rc (X10_measures_L64 rc f) 0 (nI m) (nI k) v (nI k) 2 h = rc 0 (nI (m + 1)) h' ∧ kAg (fun a _ => a = 2) h h' ∧ ∀ q, q < 64 → kI h' 2 q = cOf (stp m F (q / 8) (q % 8)) := by
        intro v hv
        have ag1 := kAg.I h 2 k v
        obtain ⟨h', e1, e2, e3⟩ := ih (k + 1) (sI h 2 k v) (T.fr ag1 (fun a k q z => by omega)) (fun q hq' => by
          rw [kI_sI]
          by_cases hqk : q = k
          · rw [if_pos ⟨rfl, hqk⟩, if_pos (by omega), hv, hqk]
          · rw [if_neg (fun z => hqk z.2), hq q hq']
            by_cases hlt : q < k
            · rw [if_pos hlt, if_pos (by omega)]
            · rw [if_neg hlt, if_neg (by omega)]) (by omega) (by omega)
        refine ⟨h', ?_, ag1.trans e2 (fun a k q z => q z.1) (fun a k q => q), e3⟩
        unfold X10_measures_b165
        rw [pAI_k T.d2 (by rw [T.n2]; omega) (by omega), nI_1]
        exact e1
      have c1 : kI h 2 (8 * (k / 8) + m) = cOf (F (k / 8) m) := by
        rw [hq _ (by omega), show (8 * (k / 8) + m) / 8 = k / 8 by omega, show (8 * (k / 8) + m) % 8 = m by omega]
        split
        · rw [stp_row h0]
        · rfl
      have c2 : kI h 2 (8 * m + k % 8) = cOf (F m (k % 8)) := by
        rw [hq _ (by omega), show (8 * m + k % 8) / 8 = m by omega, show (8 * m + k % 8) % 8 = k % 8 by omega]
        split
        · rw [stp_col h0]
        · rfl
      have c3 : kI h 2 k = cOf (F (k / 8) (k % 8)) := by
        rw [hq k hk64, if_neg (by omega)]
      have keep : ∀ x1 x2 : Int32, stp m F (k / 8) (k % 8) = F (k / 8) (k % 8) → ∃ h', X10_measures_b139 rc (X10_measures_L64 rc f) 0 (nI m) (nI k) x1 x2 h = rc 0 (nI (m + 1)) h' ∧ kAg (fun a _ => a = 2) h h' ∧ ∀ q, q < 64 → kI h' 2 q = cOf (stp m F (q / 8) (q % 8)) := by
        intro x1 x2 e
        unfold X10_measures_b139 X10_measures_b140
        rw [gN_k T.d0 T.r3, kif_t rfl, gN_k T.d0 T.r3, gAI_k T.d2 (by rw [T.n2]; omega) (by omega), c3]
        exact fin _ (by rw [e])
      rw [kif_f (by rw [show (64 : Int32) = nI 64 from rfl, ka_le (by omega) (by omega)]; exact hk), gN_k T.d0 T.r3, kdv8, ka_div8 k hk64, mc_idx8, gAI_k T.d2 (by rw [T.n2]; omega) (by omega), gN_k T.d0 T.r3, kdv8, ka_mod8 k hk64, mc_idx8, gAI_k T.d2 (by rw [T.n2]; omega) (by omega), c1, c2]
      cases e1 : F (k / 8) m with
      | none =>
        rw [kif_t (show cOf none = -1 from rfl)]
        exact keep _ _ (stp_none (Or.inl e1))
      | some a =>
        have ha := hB _ _ a (by omega) hm e1
        rw [kif_f (by show ¬ nI a = -1; rw [ka_n1 (by omega)]; exact fun z => z)]
        cases e2 : F m (k % 8) with
        | none =>
          rw [kif_t (show cOf none = -1 from rfl)]
          exact keep _ _ (stp_none (Or.inr e2))
        | some b =>
          have hb := hB _ _ b hm (by omega) e2
          have take : stp m F (k / 8) (k % 8) = some (a + b) → ∃ h', X10_measures_b135 rc (X10_measures_L64 rc f) 0 (nI m) (nI k) (nI a) (nI b) h = rc 0 (nI (m + 1)) h' ∧ kAg (fun a _ => a = 2) h h' ∧ ∀ q, q < 64 → kI h' 2 q = cOf (stp m F (q / 8) (q % 8)) := by
            intro e
            unfold X10_measures_b135 X10_measures_b140
            rw [gN_k T.d0 T.r3, kif_f (by decide), ka_add]
            exact fin _ (by rw [e]; rfl)
          rw [kif_f (by show ¬ nI b = -1; rw [ka_n1 (by omega)]; exact fun z => z), gN_k T.d0 T.r3, gAI_k T.d2 (by rw [T.n2]; omega) (by omega), c3]
          have hs := stp_some (j := k % 8) e1 e2
          cases e3 : F (k / 8) (k % 8) with
          | none =>
            rw [e3] at hs
            rw [kif_t (show cOf none = -1 from rfl)]
            exact take hs
          | some c =>
            have hc := hB _ _ c (by omega) (by omega) e3
            rw [e3] at hs
            have hs' : stp m F (k / 8) (k % 8) = if a + b < c then some (a + b) else some c := hs
            rw [kif_f (by show ¬ nI c = -1; rw [ka_n1 (by omega)]; exact fun z => z), gN_k T.d0 T.r3, gAI_k T.d2 (by rw [T.n2]; omega) (by omega), c3, e3]
            rw [show cOf (some a) = nI a from rfl, show cOf (some b) = nI b from rfl, show cOf (some c) = nI c from rfl, ka_add]
            by_cases g : c ≤ a + b
            · rw [if_neg (by omega)] at hs'
              rw [kif_t (by rw [ka_le (by omega) (by omega)]; exact g)]
              exact keep _ _ (by rw [hs', e3])
            · rw [if_pos (by omega)] at hs'
              rw [kif_f (by rw [ka_le (by omega) (by omega)]; exact g)]
              exact take hs'
theorem tm_m2L (hL : ∀ i j, i < 8 → j < 8 → L i j ≤ 200) : ∀ (f m : Nat) (h : KH), kSm h → (∀ q, q < 64 → kI h 2 q = cOf (FWn L m (q / 8) (q % 8))) → m ≤ 8 → 8 < m + f → ∃ h', X10_measures_L56 f 0 (nI m) h = kret () h' ∧ kAg (fun a _ => a = 2) h h' ∧ ∀ q, q < 64 → kI h' 2 q = cOf (FWn L 8 (q / 8) (q % 8)) := by
  intro f
  induction f with
  | zero => intro m h _ _ h1 h2; omega
  | succ f ih =>
    intro m h T hq h1 h2
    unfold X10_measures_L56 X10_measures_b56
    by_cases hm : 8 ≤ m
    · obtain rfl : m = 8 := by omega
      exact ⟨h, by rw [kif_t (by rw [show (8 : Int32) = nI 8 from rfl, ka_le (by omega) (by omega)]; exact hm)], (kAg.rf h).sub (fun _ _ z => z.elim), hq⟩
    · have hb : ∀ i j d, i < 8 → j < 8 → FWn L m i j = some d → d ≤ 60000 := fun i j d hi hj e => by
        have h5 := FW_bound hL m h1 i j d hi hj e
        have h6 : 2 ^ m ≤ 2 ^ 8 := Nat.pow_le_pow_right (by decide) h1
        have h7 : 2 ^ 8 = 256 := by decide
        omega
      obtain ⟨h1', e1, e2, e3⟩ := tm_m1L (F := FWn L m) (m := m) (by omega) (FW_diag m m) hb (X10_measures_L56 f) kF 0 h T (fun q hq' => by rw [if_neg (Nat.not_lt_zero q)]; exact hq q hq') (by omega) (by unfold kF; omega)
      obtain ⟨h2', f1, f2, f3⟩ := ih (m + 1) h1' (T.fr e2 (fun a k q z => by omega)) e3 (by omega) (by omega)
      refine ⟨h2', ?_, e2.trans f2 (fun a k q => q) (fun a k q => q), f3⟩
      rw [kif_f (by rw [show (8 : Int32) = nI 8 from rfl, ka_le (by omega) (by omega)]; exact hm)]
      exact e1.trans f1
theorem tm_measures {h : KH} (T : kSm h) (hL : ∀ i j, i < 8 → j < 8 → L i j ≤ 200) (hr : ∀ i j, i < 8 → j < 8 → kI h 1 (8 * i + j) = nI (L i j)) : ∃ h', f_X10_measures 0 h = kret () h' ∧ kAg (fun a _ => a = 2) h h' ∧ ∀ i j, i < 8 → j < 8 → kI h' 2 (8 * i + j) = cOf (FWn L 8 i j) := by
  obtain ⟨h1, e1, e2, e3⟩ := tm_m0L hL kF 0 h T (fun q hq => by
    have := hr (q / 8) (q % 8) (by omega) (by omega)
    rw [show 8 * (q / 8) + q % 8 = q by omega] at this
    exact this) (fun q hq => absurd hq (Nat.not_lt_zero _)) (by omega) (by unfold kF; omega)
  obtain ⟨h2, f1, f2, f3⟩ := tm_m2L hL kF 0 h1 (T.fr e2 (fun a k q z => by omega)) e3 (by omega) (by unfold kF; omega)
  refine ⟨h2, e1.trans f1, e2.trans f2 (fun a k q => q) (fun a k q => q), fun i j hi hj => ?_⟩
  rw [f3 (8 * i + j) (by omega), show (8 * i + j) / 8 = i by omega, show (8 * i + j) % 8 = j by omega]
end KFLOYD
end
section
/-! the class's distances -/
theorem x2_at : ∀ i, i < 8 → xR2l.getD i none = some (3 + i) := by decide
theorem xD3_at : ∀ i, i < 8 → xDl.getD (3 + i) 0 = 21 ∧ xNl.getD (3 + i) 0 = 8 := by decide
/-- the net's part of the class's statics -/
def kSr (h : KH) : Prop := kd h 1 = 7 ∧ (kR h 1 0 = some 2 ∧ kR h 1 1 = some 11 ∧ kR h 1 2 = some 20) ∧ (kd h 2 = 24 ∧ kn h 2 = 8) ∧ (kd h 11 = 24 ∧ kn h 11 = 8) ∧ (kd h 20 = 23 ∧ kn h 20 = 8) ∧ (∀ i, i < 8 → (kd h (3 + i) = 21 ∧ kn h (3 + i) = 8) ∧ kR h 2 i = some (3 + i)) ∧ ∀ i, i < 8 → (kd h (12 + i) = 21 ∧ kn h (12 + i) = 8) ∧ kR h 11 i = some (12 + i)
section KSR
variable {h : KH}
theorem kSr.d1 (S : kSr h) : kd h 1 = 7 := S.1
theorem kSr.r1_0 (S : kSr h) : kR h 1 0 = some 2 := S.2.1.1
theorem kSr.r1_1 (S : kSr h) : kR h 1 1 = some 11 := S.2.1.2.1
theorem kSr.r1_2 (S : kSr h) : kR h 1 2 = some 20 := S.2.1.2.2
theorem kSr.d2 (S : kSr h) : kd h 2 = 24 := S.2.2.1.1
theorem kSr.n2 (S : kSr h) : kn h 2 = 8 := S.2.2.1.2
theorem kSr.d11 (S : kSr h) : kd h 11 = 24 := S.2.2.2.1.1
theorem kSr.n11 (S : kSr h) : kn h 11 = 8 := S.2.2.2.1.2
theorem kSr.d20 (S : kSr h) : kd h 20 = 23 := S.2.2.2.2.1.1
theorem kSr.n20 (S : kSr h) : kn h 20 = 8 := S.2.2.2.2.1.2
theorem kSr.q3 (S : kSr h) (i : Nat) (hi : i < 8) : (kd h (3 + i) = 21 ∧ kn h (3 + i) = 8) ∧ kR h 2 i = some (3 + i) := S.2.2.2.2.2.1 i hi
theorem kSr.q12 (S : kSr h) (i : Nat) (hi : i < 8) : (kd h (12 + i) = 21 ∧ kn h (12 + i) = 8) ∧ kR h 11 i = some (12 + i) := S.2.2.2.2.2.2 i hi
theorem kSr.fr {D : Nat → Nat → Prop} {h' : KH} (S : kSr h) (ag : kAg D h h') (hD : ∀ a k, a = 1 ∧ k < 3 ∨ a = 2 ∨ a = 11 → ¬ D a k) : kSr h' := by
  have k1 := ag.k 1 (by rw [S.d1]; decide)
  have k2 := ag.k 2 (by rw [S.d2]; decide)
  have k11 := ag.k 11 (by rw [S.d11]; decide)
  have k20 := ag.k 20 (by rw [S.d20]; decide)
  have e : ∀ a k, a = 1 ∧ k < 3 ∨ a = 2 ∨ a = 11 → kR h' a k = kR h a k := fun a k z => (ag.1 a k (hD a k z)).2.2
  refine ⟨by rw [k1.1, S.d1], ⟨by rw [e 1 0 (by omega), S.r1_0], by rw [e 1 1 (by omega), S.r1_1], by rw [e 1 2 (by omega), S.r1_2]⟩, ⟨by rw [k2.1, S.d2], by rw [k2.2, S.n2]⟩, ⟨by rw [k11.1, S.d11], by rw [k11.2, S.n11]⟩, ⟨by rw [k20.1, S.d20], by rw [k20.2, S.n20]⟩, fun i hi => ?_, fun i hi => ?_⟩
  · obtain ⟨⟨d, n⟩, r⟩ := S.q3 i hi
    have k3 := ag.k (3 + i) (by rw [d]; decide)
    exact ⟨⟨by rw [k3.1, d], by rw [k3.2, n]⟩, by rw [e 2 i (by omega), r]⟩
  · obtain ⟨⟨d, n⟩, r⟩ := S.q12 i hi
    have k3 := ag.k (12 + i) (by rw [d]; decide)
    exact ⟨⟨by rw [k3.1, d], by rw [k3.2, n]⟩, by rw [e 11 i (by omega), r]⟩
theorem kSx.sr (S : kSx h) : kSr h := ⟨S.d1, ⟨S.r1_0, S.r1_1, S.r1_2⟩, ⟨S.d2, S.n2⟩, ⟨S.d11, S.n11⟩, ⟨S.d20, S.n20⟩, fun i hi => ⟨⟨(S.1 (3 + i) (by omega)).1.trans (xD3_at i hi).1, (S.1 (3 + i) (by omega)).2.trans (xD3_at i hi).2⟩, (S.2.2.2.1 i hi).trans (x2_at i hi)⟩, fun i hi => ⟨⟨(S.1 (12 + i) (by omega)).1.trans (xD12_at i hi).1, (S.1 (12 + i) (by omega)).2.trans (xD12_at i hi).2⟩, (S.2.2.2.2.1 i hi).trans (x11_at i hi)⟩⟩
end KSR
def nrM (W : Nat → Option Nat) (D : Nat → Bool) (i : Nat) (N : Option Nat) : Prop := match N with
  | none => ∀ v, v < i → D v = true ∨ W v = none
  | some g => g < i ∧ D g = false ∧ ∃ d, W g = some d ∧ ∀ v, v < i → D v = false → ∀ dv, W v = some dv → d ≤ dv
section KDIJK
variable {L : Nat → Nat → Nat} {h : KH} {q : Nat}
theorem x6_nearL {W : Nat → Option Nat} {D : Nat → Bool} (S : kSr h) (kq : kd h q = 21) (nq : kn h q = 8) (hW : ∀ v, v < 8 → kI h q v = cOf (W v)) (hD : ∀ v, v < 8 → kI h 20 v = b01 (D v)) (hB : ∀ v d, v < 8 → W v = some d → d < 2147483648) : ∀ (f i : Nat) (N : Option Nat), i ≤ 8 → 8 < i + f → nrM W D i N → ∃ N', X6_nearestOpen_L4 f 1 q (cOf N) (nI i) h = kret (cOf N') h ∧ nrM W D 8 N' := by
  intro f
  induction f with
  | zero => intro i N h1 h2; omega
  | succ f ih =>
    intro i N h1 h2 h3
    unfold X6_nearestOpen_L4 X6_nearestOpen_b4
    by_cases hi : 8 ≤ i
    · obtain rfl : i = 8 := by omega
      exact ⟨N, by rw [kif_t (by rw [show (8 : Int32) = nI 8 from rfl, ka_le (by omega) (by omega)]; exact hi)], h3⟩
    · have hi8 : i < 8 := by omega
      have skip : (D i = true ∨ W i = none ∨ ∃ g d dv, N = some g ∧ W g = some d ∧ W i = some dv ∧ d ≤ dv) → ∃ N', X6_nearestOpen_b42 (X6_nearestOpen_L4 f) 1 q (cOf N) (nI i) h = kret (cOf N') h ∧ nrM W D 8 N' := by
        intro hs
        unfold X6_nearestOpen_b42
        rw [nI_1]
        refine ih (i + 1) N (by omega) (by omega) ?_
        cases N with
        | none =>
          intro v hv
          by_cases hvi : v = i
          · rw [hvi]
            rcases hs with z | z | ⟨g, d, dv, z, -⟩
            · exact Or.inl z
            · exact Or.inr z
            · cases z
          · exact h3 v (by omega)
        | some g =>
          obtain ⟨w1, w2, d, w3, w4⟩ := h3
          refine ⟨by omega, w2, d, w3, fun v hv hDv dv hdv => ?_⟩
          by_cases hvi : v = i
          · rw [hvi] at hDv hdv
            rcases hs with z | z | ⟨g', d', dv', z1, z2, z3, z4⟩
            · rw [hDv] at z
              cases z
            · rw [z] at hdv
              cases hdv
            · cases z1
              rw [w3] at z2
              cases z2
              rw [hdv] at z3
              cases z3
              exact z4
          · exact w4 v (by omega) hDv dv hdv
      have take : ∀ di, D i = false → W i = some di → (∀ v, v < i → D v = false → ∀ dv, W v = some dv → di ≤ dv) → ∃ N', X6_nearestOpen_b40 (X6_nearestOpen_L4 f) 1 q (nI i) h = kret (cOf N') h ∧ nrM W D 8 N' := by
        intro di z1 z2 z3
        unfold X6_nearestOpen_b40 X6_nearestOpen_b42
        rw [nI_1]
        refine ih (i + 1) (some i) (by omega) (by omega) ⟨by omega, z1, di, z2, fun v hv hDv dv hdv => ?_⟩
        by_cases hvi : v = i
        · rw [hvi, z2] at hdv
          cases hdv
          exact Nat.le_refl _
        · exact z3 v (by omega) hDv dv hdv
      rw [kif_f (by rw [show (8 : Int32) = nI 8 from rfl, ka_le (by omega) (by omega)]; exact hi), gN_k S.d1 S.r1_2, gAI_k S.d20 (by rw [S.n20]; omega) (by omega), hD i hi8]
      by_cases hDi : D i = true
      · rw [kif_f (by rw [b01_0]; exact fun z => z hDi)]
        exact skip (Or.inl hDi)
      · have hDi' := bF hDi
        rw [kif_t (by rw [b01_0]; exact hDi), gAI_k kq (by omega) (by omega), hW i hi8]
        cases eW : W i with
        | none =>
          rw [kif_t (show cOf none = -1 from rfl)]
          exact skip (Or.inr (Or.inl eW))
        | some di =>
          have hdi := hB i di hi8 eW
          rw [kif_f (by show ¬ nI di = -1; rw [ka_n1 hdi]; exact fun z => z)]
          cases N with
          | none =>
            rw [kif_t (show cOf none = -1 from rfl)]
            exact take di hDi' eW (fun v hv hDv dv hdv => by
              rcases h3 v hv with z | z
              · rw [hDv] at z
                cases z
              · rw [hdv] at z
                cases z)
          | some g =>
            obtain ⟨w1, w2, d, w3, w4⟩ := h3
            have hd := hB g d (by omega) w3
            rw [kif_f (by show ¬ nI g = -1; rw [ka_n1 (by omega)]; exact fun z => z), gAI_k kq (by omega) (by omega), hW i hi8, eW]
            rw [show cOf (some g) = nI g from rfl, gAI_k kq (by omega) (by omega), hW g (by omega), w3]
            rw [show cOf (some d) = nI d from rfl, show cOf (some di) = nI di from rfl]
            by_cases hle : d ≤ di
            · rw [kif_t (by rw [ka_le hd hdi]; exact hle)]
              exact skip (Or.inr (Or.inr ⟨g, d, di, rfl, w3, eW, hle⟩))
            · rw [kif_f (by rw [ka_le hd hdi]; exact hle)]
              exact take di hDi' eW (fun v hv hDv dv hdv => by
                have := w4 v hv hDv dv hdv
                omega)
theorem x6_goL {W : Nat → Option Nat} {g d : Nat} (hg : g < 8) (hq : 12 ≤ q ∧ q ≤ 19) (h0 : L g g = 0) (hgd : W g = some d) (hL : ∀ i j, i < 8 → j < 8 → L i j ≤ 200) (hB : ∀ v x, v < 8 → W v = some x → x ≤ 1600) : ∀ (f i : Nat) (h : KH), kSr h → (∀ i j, i < 8 → j < 8 → kI h (3 + i) j = nI (L i j)) → (∀ v, v < 8 → kI h q v = cOf (if v < i then rlx L W g d v else W v)) → i ≤ 8 → 8 < i + f → ∃ h', X6_goOnFrom_L2 f 1 (nI g) q (nI i) h = kret () h' ∧ (kAg (fun a _ => a = q) h h' ∧ kx h' = kx h) ∧ ∀ v, v < 8 → kI h' q v = cOf (rlx L W g d v) := by
  have hd := hB g d hg hgd
  intro f
  induction f with
  | zero => intro i h _ _ _ h1 h2; omega
  | succ f ih =>
    intro i h S hl hW h1 h2
    have kq : kd h q = 21 ∧ kn h q = 8 := by
      have e2 := (S.q12 (q - 12) (by omega)).1
      rw [show 12 + (q - 12) = q by omega] at e2
      exact e2
    have kl : kd h (3 + g) = 21 ∧ kn h (3 + g) = 8 := by
      exact (S.q3 g hg).1
    unfold X6_goOnFrom_L2 X6_goOnFrom_b2
    by_cases hi : 8 ≤ i
    · refine ⟨h, by rw [kif_t (by rw [show (8 : Int32) = nI 8 from rfl, ka_le (by omega) (by omega)]; exact hi)], ⟨(kAg.rf h).sub (fun _ _ z => z.elim), rfl⟩, fun v hv => ?_⟩
      have := hW v hv
      rw [if_pos (by omega)] at this
      exact this
    · have hi8 : i < 8 := by omega
      have hLgi := hL g i hg hi8
      have cg : kI h q g = nI d := by
        rw [hW g hg]
        have e : rlx L W g d g = W g := if_pos h0
        rw [e]
        split <;> rw [hgd] <;> rfl
      have ci : kI h q i = cOf (W i) := by rw [hW i hi8, if_neg (by omega)]
      have hr : rlx L W g d i = if L g i = 0 then W i else match W i with
        | none => some (d + L g i)
        | some c => if d + L g i < c then some (d + L g i) else some c := rfl
      have keep : rlx L W g d i = W i → ∃ h', X6_goOnFrom_b51 (X6_goOnFrom_L2 f) 1 (nI g) q (nI i) h = kret () h' ∧ (kAg (fun a _ => a = q) h h' ∧ kx h' = kx h) ∧ ∀ v, v < 8 → kI h' q v = cOf (rlx L W g d v) := by
        intro e
        unfold X6_goOnFrom_b51
        rw [nI_1]
        exact ih (i + 1) h S hl (fun v hv => by
          rw [hW v hv]
          by_cases hvi : v = i
          · rw [hvi, if_neg (by omega), if_pos (by omega), e]
          · by_cases hlt : v < i
            · rw [if_pos hlt, if_pos (by omega)]
            · rw [if_neg hlt, if_neg (by omega)]) (by omega) (by omega)
      have take : rlx L W g d i = some (d + L g i) → ∃ h', X6_goOnFrom_b46 (X6_goOnFrom_L2 f) 1 (nI g) q (nI i) (nI (d + L g i)) h = kret () h' ∧ (kAg (fun a _ => a = q) h h' ∧ kx h' = kx h) ∧ ∀ v, v < 8 → kI h' q v = cOf (rlx L W g d v) := by
        intro e
        have ag1 := kAg.I h q i (nI (d + L g i))
        obtain ⟨h', e1, ⟨e2, e2'⟩, e3⟩ := ih (i + 1) (sI h q i (nI (d + L g i))) (S.fr ag1 (fun a k z1 z2 => by omega)) (fun i j hi hj => by rw [kI_sI, if_neg (by omega)]; exact hl i j hi hj) (fun v hv => by
          rw [kI_sI]
          by_cases hvi : v = i
          · rw [if_pos ⟨rfl, hvi⟩, if_pos (by omega), hvi, e]
            rfl
          · rw [if_neg (fun z => hvi z.2), hW v hv]
            by_cases hlt : v < i
            · rw [if_pos hlt, if_pos (by omega)]
            · rw [if_neg hlt, if_neg (by omega)]) (by omega) (by omega)
        refine ⟨h', ?_, ⟨ag1.trans e2 (fun a k q z => q z.1) (fun a k q => q), e2'⟩, e3⟩
        unfold X6_goOnFrom_b46 X6_goOnFrom_b51
        rw [pAI_k kq.1 (by omega) (by omega), nI_1]
        exact e1
      rw [kif_f (by rw [show (8 : Int32) = nI 8 from rfl, ka_le (by omega) (by omega)]; exact hi), gN_k S.d1 S.r1_0, gAN_k S.d2 (by rw [S.n2]; omega) (by omega) (S.q3 g hg).2, gAI_k kl.1 (by omega) (by omega), hl g i hg hi8, gAI_k kq.1 (by omega) (by omega), cg]
      by_cases hz : L g i = 0
      · rw [kif_t (by rw [hz]; rfl)]
        exact keep (if_pos hz)
      · rw [if_neg hz] at hr
        rw [kif_f (by rw [show (0 : Int32) = nI 0 from rfl, ka_eq (by omega) (by omega)]; exact hz), gAI_k kq.1 (by omega) (by omega), ci, ka_add]
        cases eW : W i with
        | none =>
          rw [eW] at hr
          rw [kif_t (show cOf none = -1 from rfl)]
          exact take hr
        | some c =>
          have hc := hB i c hi8 eW
          rw [eW] at hr
          have hr' : rlx L W g d i = if d + L g i < c then some (d + L g i) else some c := hr
          rw [kif_f (by show ¬ nI c = -1; rw [ka_n1 (by omega)]; exact fun z => z), gAI_k kq.1 (by omega) (by omega), ci, eW]
          rw [show cOf (some c) = nI c from rfl]
          by_cases hle : c ≤ d + L g i
          · rw [if_neg (by omega)] at hr'
            rw [kif_t (by rw [ka_le (by omega) (by omega)]; exact hle)]
            exact keep (by rw [hr', eW])
          · rw [if_pos (by omega)] at hr'
            rw [kif_f (by rw [ka_le (by omega) (by omega)]; exact hle)]
            exact take hr'
theorem x6_roundL {s : Nat} (hs : s < 8) (hq : 12 ≤ q ∧ q ≤ 19) (hL : ∀ i j, i < 8 → j < 8 → L i j ≤ 200) (h0 : ∀ i, L i i = 0) : ∀ (f r : Nat) (h : KH) (W : Nat → Option Nat) (D : Nat → Bool), kSr h → (∀ i j, i < 8 → j < 8 → kI h (3 + i) j = nI (L i j)) → (∀ v, v < 8 → kI h q v = cOf (W v)) → (∀ v, v < 8 → kI h 20 v = b01 (D v)) → DJ L s r W D → r ≤ 8 → 8 < r + f → ∃ (h' : KH) (W' : Nat → Option Nat), X6_measureFrom_L38 f 1 q (nI r) h = kret () h' ∧ (kAg (fun a _ => a = q ∨ a = 20) h h' ∧ kx h' = kx h) ∧ (∀ v, v < 8 → kI h' q v = cOf (W' v)) ∧ ∀ v, v < 8 → isDi L s v (W' v) := by
  intro f
  induction f with
  | zero => intro r h W D _ _ _ _ _ h1 h2; omega
  | succ f ih =>
    intro r h W D S hl hW hD J h1 h2
    have kq : kd h q = 21 ∧ kn h q = 8 := by
      have e2 := (S.q12 (q - 12) (by omega)).1
      rw [show 12 + (q - 12) = q by omega] at e2
      exact e2
    unfold X6_measureFrom_L38 X6_measureFrom_b38
    by_cases hr : 8 ≤ r
    · obtain rfl : r = 8 := by omega
      exact ⟨h, W, by rw [kif_t (by rw [show (8 : Int32) = nI 8 from rfl, ka_le (by omega) (by omega)]; exact hr)], ⟨(kAg.rf h).sub (fun _ _ z => z.elim), rfl⟩, hW, J.fin hs (fun v hv => Or.inl (cnD_all 8 J.2.2.2.2 v hv))⟩
    · have hB : ∀ v d, v < 8 → W v = some d → d ≤ 1600 := fun v d hv e => by
        have := (J.2.1 v d hv e).2
        omega
      obtain ⟨N, e1, e2⟩ := x6_nearL S kq.1 kq.2 hW hD (fun v d hv e => by have := hB v d hv e; omega) kF 0 none (by omega) (by unfold kF; omega) (fun v hv => absurd hv (Nat.not_lt_zero _))
      have e1' : f_X6_nearestOpen 1 q h = kret (cOf N) h := e1
      rw [kif_f (by rw [show (8 : Int32) = nI 8 from rfl, ka_le (by omega) (by omega)]; exact hr), kV_k S.d1, e1', kb_ret]
      cases N with
      | none => exact ⟨h, W, by rw [kif_t (show cOf none = -1 from rfl)], ⟨(kAg.rf h).sub (fun _ _ z => z.elim), rfl⟩, hW, J.fin hs e2⟩
      | some g =>
        obtain ⟨w1, w2, d, w3, w4⟩ := e2
        have ag1 := kAg.I h 20 g 1
        have S1 : kSr (sI h 20 g 1) := S.fr ag1 (fun a k z1 z2 => by omega)
        obtain ⟨h2', g1, ⟨g2, g2'⟩, g3⟩ := x6_goL (W := W) (g := g) (d := d) (q := q) w1 hq (h0 g) w3 hL hB kF 0 (sI h 20 g 1) S1 (fun i j hi hj => by rw [kI_sI, if_neg (by omega)]; exact hl i j hi hj) (fun v hv => by rw [kI_sI, if_neg (by omega), if_neg (Nat.not_lt_zero _)]; exact hW v hv) (by omega) (by unfold kF; omega)
        have S2 := S1.fr g2 (fun a k z1 z2 => by omega)
        obtain ⟨h3', W', f1, ⟨f2, f2'⟩, f3, f4⟩ := ih (r + 1) h2' (rlx L W g d) (fun v => if v = g then true else D v) S2 (fun i j hi hj => by rw [(g2.1 (3 + i) j (by omega)).1, kI_sI, if_neg (by omega)]; exact hl i j hi hj) g3 (fun v hv => by
          rw [(g2.1 20 v (by omega)).1, kI_sI]
          show _ = b01 (if v = g then true else D v)
          by_cases hvg : v = g
          · rw [if_pos ⟨rfl, hvg⟩, if_pos hvg]
            rfl
          · rw [if_neg (fun z => hvg z.2), if_neg hvg]
            exact hD v hv) (J.step hs hL h0 w1 w2 w3 w4 (fun v => rfl) (fun v hv => rfl)) (by omega) (by omega)
        refine ⟨h3', W', ?_, ⟨((ag1.trans (F := fun a _ => a = q ∨ a = 20) g2 (fun a k q z => q (Or.inr z.1)) (fun a k q z => q (Or.inl z)))).trans f2 (fun a k q => q) (fun a k q => q), f2'.trans g2'⟩, f3, f4⟩
        rw [kif_f (by show ¬ nI g = -1; rw [ka_n1 (by omega)]; exact fun z => z), gN_k S.d1 S.r1_2]
        rw [show cOf (some g) = nI g from rfl, pAZ_k S.d20 (by rw [S.n20]; omega) (by omega) (Or.inr rfl), kV_k S1.d1, show f_X6_goOnFrom 1 (nI g) q (sI h 20 g 1) = _ from g1, kb_ret, nI_1]
        exact f1
theorem x6_fromL {s : Nat} (hs : s < 8) (hq : q = 12 + s) (hL : ∀ i j, i < 8 → j < 8 → L i j ≤ 200) (h0 : ∀ i, L i i = 0) : ∀ (f i : Nat) (h : KH), kSr h → (∀ i j, i < 8 → j < 8 → kI h (3 + i) j = nI (L i j)) → (∀ v, v < i → kI h q v = -1 ∧ kI h 20 v = 0) → i ≤ 8 → 8 < i + f → ∃ (h' : KH) (W' : Nat → Option Nat), X6_measureFrom_L9 f 1 (nI s) q (nI i) h = kret () h' ∧ (kAg (fun a _ => a = q ∨ a = 20) h h' ∧ kx h' = kx h) ∧ (∀ v, v < 8 → kI h' q v = cOf (W' v)) ∧ ∀ v, v < 8 → isDi L s v (W' v) := by
  intro f
  induction f with
  | zero => intro i h _ _ _ h1 h2; omega
  | succ f ih =>
    intro i h S hl hz h1 h2
    have kq : kd h q = 21 ∧ kn h q = 8 := by
      have e2 := (S.q12 s hs).1
      rw [← hq] at e2
      exact e2
    unfold X6_measureFrom_L9 X6_measureFrom_b9
    by_cases hi : 8 ≤ i
    · have ag1 := kAg.I h q s 0
      have S1 : kSr (sI h q s 0) := S.fr ag1 (fun a k z1 z2 => by omega)
      have hJ : DJ L s 0 (fun v => if v = s then some 0 else none) (fun _ => false) := by
        refine ⟨⟨0, if_pos rfl, Nat.le_refl _⟩, ?_, ?_, ?_, rfl⟩
        · intro v d hv e
          have e' : (if v = s then some 0 else none) = some d := e
          by_cases hvs : v = s
          · rw [if_pos hvs] at e'
            cases e'
            exact ⟨⟨0, hvs.symm, rfl⟩, Nat.zero_le _⟩
          · rw [if_neg hvs] at e'
            cases e'
        · intro u hu e
          exact absurd (show false = true from e) (by decide)
        · intro u d v hu e
          exact absurd (show false = true from e) (by decide)
      obtain ⟨h', W', f1, ⟨f2, f2'⟩, f3, f4⟩ := x6_roundL (q := q) hs (by omega) hL h0 kF 0 (sI h q s 0) (fun v => if v = s then some 0 else none) (fun _ => false) S1 (fun i j hi hj => by rw [kI_sI, if_neg (by omega)]; exact hl i j hi hj) (fun v hv => by
        rw [kI_sI]
        show _ = cOf (if v = s then some 0 else none)
        by_cases hvs : v = s
        · rw [if_pos ⟨rfl, hvs⟩, if_pos hvs]
          rfl
        · rw [if_neg (fun z => hvs z.2), if_neg hvs]
          exact (hz v (by omega)).1) (fun v hv => by
        rw [kI_sI, if_neg (by omega)]
        exact (hz v (by omega)).2) hJ (by omega) (by unfold kF; omega)
      refine ⟨h', W', ?_, ⟨ag1.trans f2 (fun a k q z => q (Or.inl z.1)) (fun a k q => q), f2'⟩, f3, f4⟩
      rw [kif_t (by rw [show (8 : Int32) = nI 8 from rfl, ka_le (by omega) (by omega)]; exact hi), pAI_k kq.1 (by omega) (by omega)]
      exact f1
    · have ag1 := kAg.I h q i (-1)
      have S1 : kSr (sI h q i (-1)) := S.fr ag1 (fun a k z1 z2 => by omega)
      have ag2 := kAg.I (sI h q i (-1)) 20 i 0
      obtain ⟨h', W', f1, ⟨f2, f2'⟩, f3, f4⟩ := ih (i + 1) (sI (sI h q i (-1)) 20 i 0) (S1.fr ag2 (fun a k z1 z2 => by omega)) (fun i j hi hj => by rw [kI_sI, if_neg (by omega), kI_sI, if_neg (by omega)]; exact hl i j hi hj) (fun v hv => by
        rw [kI_sI, if_neg (by omega), kI_sI, kI_sI]
        by_cases hvi : v = i
        · rw [if_pos ⟨rfl, hvi⟩, if_pos ⟨rfl, hvi⟩]
          exact ⟨rfl, rfl⟩
        · rw [if_neg (fun z => hvi z.2), if_neg (fun z => hvi z.2), kI_sI, if_neg (by omega)]
          exact hz v (by omega)) (by omega) (by omega)
      refine ⟨h', W', ?_, ⟨(ag1.trans (F := fun a _ => a = q ∨ a = 20) ag2 (fun a k q z => q (Or.inl z.1)) (fun a k q z => q (Or.inr z.1))).trans f2 (fun a k q => q) (fun a k q => q), f2'⟩, f3, f4⟩
      rw [kif_f (by rw [show (8 : Int32) = nI 8 from rfl, ka_le (by omega) (by omega)]; exact hi), pAI_k kq.1 (by omega) (by omega), gN_k S1.d1 S1.r1_2, pAZ_k S1.d20 (by rw [S1.n20]; omega) (by omega) (Or.inl rfl), nI_1]
      exact f1
theorem x6_allL (hL : ∀ i j, i < 8 → j < 8 → L i j ≤ 200) (h0 : ∀ i, L i i = 0) : ∀ (f s : Nat) (h : KH), kSr h → (∀ i j, i < 8 → j < 8 → kI h (3 + i) j = nI (L i j)) → (∀ i j, i < s → j < 8 → kI h (12 + i) j = cOf (FWn L 8 i j)) → s ≤ 8 → 8 < s + f → ∃ h', X6_measureAll_L2 f 1 (nI s) h = kret () h' ∧ (kAg (fun a _ => 12 ≤ a ∧ a ≤ 20) h h' ∧ kx h' = kx h) ∧ ∀ i j, i < 8 → j < 8 → kI h' (12 + i) j = cOf (FWn L 8 i j) := by
  intro f
  induction f with
  | zero => intro s h _ _ _ h1 h2; omega
  | succ f ih =>
    intro s h S hl hz h1 h2
    unfold X6_measureAll_L2 X6_measureAll_b2
    by_cases hs : 8 ≤ s
    · exact ⟨h, by rw [kif_t (by rw [show (8 : Int32) = nI 8 from rfl, ka_le (by omega) (by omega)]; exact hs)], ⟨(kAg.rf h).sub (fun _ _ z => z.elim), rfl⟩, fun i j hi hj => hz i j (by omega) hj⟩
    · have hs8 : s < 8 := by omega
      obtain ⟨h1', W', e1, ⟨e2, e2'⟩, e3, e4⟩ := x6_fromL (q := 12 + s) hs8 rfl hL h0 kF 0 h S hl (fun v hv => absurd hv (Nat.not_lt_zero _)) (by omega) (by unfold kF; omega)
      obtain ⟨h2', f1, ⟨f2, f2'⟩, f3⟩ := ih (s + 1) h1' (S.fr e2 (fun a k z1 z2 => by omega)) (fun i j hi hj => by rw [(e2.1 (3 + i) j (by omega)).1]; exact hl i j hi hj) (fun i j hi hj => by
        by_cases his : i = s
        · rw [his, e3 j hj, isDi_uniq (e4 j hj) (FW_dist h0 hs8 hj)]
        · rw [(e2.1 (12 + i) j (by omega)).1]
          exact hz i j (by omega) hj) (by omega) (by omega)
      refine ⟨h2', ?_, ⟨e2.trans f2 (fun a k q z => q (by omega)) (fun a k q => q), f2'.trans e2'⟩, f3⟩
      have hf : f_X6_measureFrom 1 (nI s) h = kret () h1' := by
        unfold f_X6_measureFrom
        rw [gN_k S.d1 S.r1_1, gAN_k S.d11 (by rw [S.n11]; exact hs8) (by omega) (S.q12 s hs8).2]
        exact e1
      rw [kif_f (by rw [show (8 : Int32) = nI 8 from rfl, ka_le (by omega) (by omega)]; exact hs), kV_k S.d1, hf, kb_ret, nI_1]
      exact f1
theorem x6_all {h : KH} (S : kSr h) (hL : ∀ i j, i < 8 → j < 8 → L i j ≤ 200) (h0 : ∀ i, L i i = 0) (hl : ∀ i j, i < 8 → j < 8 → kI h (3 + i) j = nI (L i j)) : ∃ h', f_X6_measureAll 1 h = kret () h' ∧ (kAg (fun a _ => 12 ≤ a ∧ a ≤ 20) h h' ∧ kx h' = kx h) ∧ ∀ i j, i < 8 → j < 8 → kI h' (12 + i) j = cOf (FWn L 8 i j) :=
  x6_allL hL h0 kF 0 h S hl (fun i j hi => absurd hi (Nat.not_lt_zero _)) (by omega) (by unfold kF; omega)
end KDIJK
end
section
/-! road -/
def LL (h : KH) (i j : Nat) : Nat := if i < 8 ∧ j < 8 then mn h 1 (8 * i + j) else 0
theorem LL_at {h : KH} {i j : Nat} (hi : i < 8) (hj : j < 8) : LL h i j = mn h 1 (8 * i + j) := if_pos ⟨hi, hj⟩
theorem dis_all {hx hm : KH} (S : kSr hx) (T : kSm hm) (c : cLen hx hm) : ∃ hx' hm', f_X6_measureAll 1 hx = kret () hx' ∧ f_X10_measures 0 hm = kret () hm' ∧ (kAg (fun a _ => 12 ≤ a ∧ a ≤ 20) hx hx' ∧ kx hx' = kx hx) ∧ kAg (fun a _ => a = 2) hm hm' ∧ cDis hx' hm' := by
  have hn : ∀ i j, i < 8 → j < 8 → LL hm i j ≤ 200 ∧ kI hx (3 + i) j = nI (LL hm i j) ∧ kI hm 1 (8 * i + j) = nI (LL hm i j) ∧ (i = j → LL hm i j = 0) := fun i j hi hj => by
    obtain ⟨n, n1, n2, n3, n4, n5⟩ := c i j hi hj
    have e : LL hm i j = n := by rw [LL_at hi hj]; exact mn_of n3 (by omega)
    rw [e]
    exact ⟨n1, n2, n3, n5⟩
  have h0 : ∀ i, LL hm i i = 0 := fun i => by
    by_cases hi : i < 8
    · exact (hn i i hi hi).2.2.2 rfl
    · exact if_neg (fun z => hi z.1)
  have hL : ∀ i j, i < 8 → j < 8 → LL hm i j ≤ 200 := fun i j hi hj => (hn i j hi hj).1
  obtain ⟨hx', e1, e2, e3⟩ := x6_all S hL h0 (fun i j hi hj => (hn i j hi hj).2.1)
  obtain ⟨hm', f1, f2, f3⟩ := tm_measures T hL (fun i j hi hj => (hn i j hi hj).2.2.1)
  refine ⟨hx', hm', e1, f1, e2, f2, fun i j hi hj => ⟨by rw [e3 i j hi hj, f3 i j hi hj], ?_⟩⟩
  rw [f3 i j hi hj]
  cases e : FWn (LL hm) 8 i j with
  | none => exact Or.inl rfl
  | some d =>
    have := FW_bound hL 8 (Nat.le_refl _) i j d hi hj e
    have h7 : 2 ^ 8 = 256 := by decide
    exact Or.inr ⟨d, by omega, rfl⟩
theorem o_road : OPI (fun a b c h => f_X9_road 0 a b c h) (fun a b c h => f_X10_road 0 a b c h) (mp2 3 1) := by
  intro j hx hm a b c hj R
  have S := R.1.1.X 0
  have T := R.1.2
  have RX := R.X 0
  have M := R.MX
  have hP := R.P
  have hR := M.2.2.1.1
  have RT := RX.thr 0
  have T1 := T.thr 0
  have hb52 : ∀ v : Int32, v ≠ 0 → X10_road_b52 0 a b c v 0 hm = kret 0 (sI hm 0 35 v) := fun v hv => by
    unfold X10_road_b52
    rw [kV_k T.d0, can_n T hv, kb_ret, kif_t rfl]
  rcases ka_rng a 0 7 0 7 rfl rfl (by decide) (by decide) with ⟨x, x1, x2, rfl, q1, q2⟩ | hq
  · rcases ka_rng b 0 7 0 7 rfl rfl (by decide) (by decide) with ⟨y, y1, y2, rfl, q3, q4⟩ | hq3
    · by_cases hxy : x = y
      · refine op_no R 1 2 0 rfl (by decide) ?_ ?_
        · show f_X9_road 0 (nI x) (nI y) c (sX hx 0) = _
          unfold f_X9_road X9_road_b24
          rw [rgt_t q1 q2, kb_ret, rgt_t q3 q4, kb_ret, kif_t (by rw [hxy])]
        · show f_X10_road 0 (nI x) (nI y) c hm = _
          unfold f_X10_road
          rw [mgt_t q1 q2, kb_ret, kif_f (by decide), mgt_t q3 q4, kb_ret, kif_f (by decide)]
          unfold X10_road_b19
          rw [kif_f (by decide), kif_t (by rw [hxy])]
          unfold X10_road_b47
          rw [hb52 2 (by decide)]
      · have hne : ¬ nI x = nI y := by rw [ka_eq (by omega) (by omega)]; exact hxy
        rcases ka_rng c 0 200 0 200 rfl rfl (by decide) (by decide) with ⟨v, v1, v2, rfl, q5, q6⟩ | hq5
        · have lx : kd (sX hx 0) (3 + x) = 21 ∧ kn (sX hx 0) (3 + x) = 8 := by
            have e1 := S.1 (3 + x) (by omega)
            have e2 := xD3_at x (by omega)
            exact ⟨e1.1.trans e2.1, e1.2.trans e2.2⟩
          have ly : kd (sX hx 0) (3 + y) = 21 ∧ kn (sX hx 0) (3 + y) = 8 := by
            have e1 := S.1 (3 + y) (by omega)
            have e2 := xD3_at y (by omega)
            exact ⟨e1.1.trans e2.1, e1.2.trans e2.2⟩
          obtain ⟨n, n1, n2, n3, n4, n5⟩ := R.2.2.2.1 x y (by omega) (by omega)
          have ag1 : kAg (fun i _ => 3 ≤ i ∧ i ≤ 10) (sX hx 0) (sI (sI (sX hx 0) (3 + x) y (nI v)) (3 + y) x (nI v)) := (kAg.I (sX hx 0) (3 + x) y (nI v)).trans (kAg.I _ (3 + y) x (nI v)) (fun i k q z => q (by omega)) (fun i k q z => q (by omega))
          have am1 : kAg (fun i _ => i = 1) (sI hm 0 35 0) (sI (sI (sI hm 0 35 0) 1 (8 * x + y) (nI v)) 1 (8 * y + x) (nI v)) := (kAg.I (sI hm 0 35 0) 1 (8 * x + y) (nI v)).trans (kAg.I _ 1 (8 * y + x) (nI v)) (fun i k q z => q z.1) (fun i k q z => q z.1)
          have S1 : kSx (sI (sX hx 0) (3 + x) y (nI v)) := S.fr (kAg.I _ (3 + x) y _) (fun a k z1 z2 => by omega)
          have S2 : kSx (sI (sI (sX hx 0) (3 + x) y (nI v)) (3 + y) x (nI v)) := S.fr ag1 (fun a k z1 z2 => by omega)
          have T2 : kSm (sI (sI hm 0 35 0) 1 (8 * x + y) (nI v)) := T1.fr (kAg.I _ 1 _ _) (fun a k z1 z2 => by omega)
          have T3 : kSm (sI (sI (sI hm 0 35 0) 1 (8 * x + y) (nI v)) 1 (8 * y + x) (nI v)) := T1.fr am1 (fun a k z1 z2 => by omega)
          have cL : cLen (sI (sI (sX hx 0) (3 + x) y (nI v)) (3 + y) x (nI v)) (sI (sI (sI hm 0 35 0) 1 (8 * x + y) (nI v)) 1 (8 * y + x) (nI v)) := by
            intro i k hi hk
            obtain ⟨n', w1, w2, w3, w4, w5⟩ := R.2.2.2.1 i k hi hk
            by_cases h1 : (i = x ∧ k = y) ∨ (i = y ∧ k = x)
            · refine ⟨v, v2, ?_, ?_, ?_, fun e => by omega⟩
              · rw [kI_sI, kI_sI]
                rcases h1 with h1 | h1
                · rw [if_neg (by omega), if_pos (by omega)]
                · rw [if_pos (by omega)]
              · rw [kI_sI, kI_sI]
                rcases h1 with h1 | h1
                · rw [if_neg (by omega), if_pos (by omega)]
                · rw [if_pos (by omega)]
              · rw [kI_sI, kI_sI]
                rcases h1 with h1 | h1
                · rw [if_pos (by omega)]
                · rw [if_neg (by omega), if_pos (by omega)]
            · refine ⟨n', w1, ?_, ?_, ?_, w5⟩
              · rw [kI_sI, if_neg (by omega), kI_sI, if_neg (by omega)]
                exact w2
              · rw [kI_sI, if_neg (by omega), kI_sI, if_neg (by omega)]
                exact w3
              · rw [kI_sI, if_neg (by omega), kI_sI, if_neg (by omega)]
                exact w4
          obtain ⟨h2, hm2, e1, f1, ⟨ag2, -⟩, am2, cD⟩ := dis_all S2.sr T3 cL
          have ag12 : kAg (fun i _ => 3 ≤ i ∧ i ≤ 10 ∨ 12 ≤ i ∧ i ≤ 20) (sX hx 0) h2 := ag1.trans ag2 (fun i k q z => q (Or.inl z)) (fun i k q z => q (Or.inr z))
          have am12 : kAg (fun i _ => i = 1 ∨ i = 2) (sI hm 0 35 0) hm2 := am1.trans am2 (fun i k q z => q (Or.inl z)) (fun i k q z => q (Or.inr z))
          have KT := RT.kCx
          have cA := KT.2.2.2.1.fr ag12 am12 (fun a k z1 z2 => by omega) (fun a k z1 z2 => by omega)
          have cP := KT.2.1.fr ag12 am12 (fun a k z1 z2 => by omega) (fun a k z1 z2 => by omega)
          have K2 := KT.fr2 ag12 am12 cA cD cP (fun a k z1 z2 => by unfold FX at z1; omega) (fun a k z1 z2 => by unfold FM at z1; omega)
          have A2 := RT.AS.ar.fr hP hR ag12 am12 (fun a k z1 z2 => by omega) (fun a k z1 z2 => by omega)
          obtain ⟨h3, g1, g2', g3⟩ := K2.joinAllAgain A2
          have g2 : kAg DM h2 h3 := g2'.sub jaDM
          have K3 := K2.fr g2 DM.dk
          have C3 : cCor h3 hm2 := fun s hs => by
            rw [(g2.1 (200 + 4 * s) 4 (fun z => by unfold DM at z; omega)).1, (ag12.1 (200 + 4 * s) 4 (fun z => by omega)).1, (am12.1 16 s (fun z => by omega)).1, (am12.1 17 s (fun z => by omega)).1, mn_cg1 (am12.1 0 8 (fun z => by omega)).1]
            exact RT.cCor s (by rw [← mn_cg1 (am12.1 0 16 (fun z => by omega)).1]; exact hs)
          have f5 := g3.cong (B := sPF hm2) (fun s hs => (sPF_cg (am12.1 0 8 (fun z => by omega)).1 (fun a ha k => (am12.1 a k (fun z => by omega)).1) s).symm)
          have ag : kAg (fun i k => (3 ≤ i ∧ i ≤ 10 ∨ 12 ≤ i ∧ i ≤ 20) ∨ DM i k) (sX hx 0) h3 := ag12.trans g2 (fun i k q z => q (Or.inl z)) (fun i k q z => q (Or.inr z))
          have agL : kAg (fun i k => (12 ≤ i ∧ i ≤ 20) ∨ DM i k) (sI (sI (sX hx 0) (3 + x) y (nI v)) (3 + y) x (nI v)) h3 := ag2.trans g2 (fun i k q z => q (Or.inl z)) (fun i k q z => q (Or.inr z))
          have cL3 := cL.fr agL am2 (fun a k z1 z2 => z2.elim (fun z => by omega) (fun z => by unfold DM at z; omega)) (fun a k z1 z2 => by omega)
          have Rn := rr_fin RT K3 C3 f5 cL3 ag am12 (fun a z => z.elim (fun z => by omega) (fun z => by unfold DM at z; omega)) (fun a k z1 z2 => z2.elim (fun z => by omega) (FRd_DM a k z1)) (fun a k z1 z2 => by omega) (fun s h1 z => by omega)
          refine op_ok (hx1 := h3) (hm1 := hm2) 0 (nI n) ?_ ?_ (by rw [(am12.1 0 35 (fun z => by omega)).1, kI_sI, if_pos ⟨rfl, rfl⟩]) Rn
          · show f_X9_road 0 (nI x) (nI y) (nI v) (sX hx 0) = _
            have hlen : f_X6_lengthOf 1 (nI x) (nI y) (sX hx 0) = kret (nI n) (sX hx 0) := by
              unfold f_X6_lengthOf
              rw [gN_k S.d1 S.r1_0, gAN_k S.d2 (by rw [S.n2]; omega) (by omega) ((S.2.2.2.1 x (by omega)).trans (x2_at x (by omega))), gAI_k lx.1 (by omega) (by omega), show kI (sX hx 0) (3 + x) y = nI n from n2]
            have hbuild : f_X6_build 1 (nI x) (nI y) (nI v) (sX hx 0) = kret () h2 := by
              have ly1 : kd (sI (sX hx 0) (3 + x) y (nI v)) (3 + y) = 21 := ly.1
              have ly2 : kn (sI (sX hx 0) (3 + x) y (nI v)) (3 + y) = 8 := ly.2
              unfold f_X6_build
              rw [gN_k S.d1 S.r1_0, gAN_k S.d2 (by rw [S.n2]; omega) (by omega) ((S.2.2.2.1 x (by omega)).trans (x2_at x (by omega))), pAI_k lx.1 (by omega) (by omega), gN_k S1.d1 S1.r1_0, gAN_k S1.d2 (by rw [S1.n2]; omega) (by omega) ((S1.2.2.2.1 y (by omega)).trans (x2_at y (by omega))), pAI_k ly1 (by omega) (by omega), kV_k S2.d1, e1, kb_ret]
            unfold f_X9_road
            rw [rgt_t q1 q2, kb_ret, rgt_t q3 q4, kb_ret, kif_f hne, wi_t q5 q6, kb_ret, kif_f (by decide), gN_k S.d0 S.r0_0, kV_k S.d1, hlen, kb_ret, gN_k S.d0 S.r0_0, kV_k S.d1, hbuild, kb_ret, kV_k K2.1.1.d0, g1, kb_ret]
          · show f_X10_road 0 (nI x) (nI y) (nI v) hm = _
            unfold f_X10_road
            rw [mgt_t q1 q2, kb_ret, kif_f (by decide), mgt_t q3 q4, kb_ret, kif_f (by decide)]
            unfold X10_road_b19
            rw [kif_f (by decide), kif_f hne, in_t q5 q6, kb_ret, kif_f (by decide)]
            unfold X10_road_b52
            rw [kV_k T.d0, can_0 T, kb_ret, kif_f (by decide), gN_k T1.d0 T1.r2, mc_idx8, gAI_k T1.d1 (by rw [T1.n1]; omega) (by omega), show kI (sI hm 0 35 0) 1 (8 * x + y) = nI n from n3, gN_k T1.d0 T1.r2, pAI_k T1.d1 (by rw [T1.n1]; omega) (by omega), gN_k T2.d0 T2.r2, mc_idx8, pAI_k T2.d1 (by rw [T2.n1]; omega) (by omega), kV_k T3.d0, f1, kb_ret]
        · refine op_no R 1 2 0 rfl (by decide) ?_ ?_
          · show f_X9_road 0 (nI x) (nI y) c (sX hx 0) = _
            unfold f_X9_road X9_road_b24
            rw [rgt_t q1 q2, kb_ret, rgt_t q3 q4, kb_ret, kif_f hne, wi_f hq5, kb_ret, kif_t rfl]
          · show f_X10_road 0 (nI x) (nI y) c hm = _
            unfold f_X10_road
            rw [mgt_t q1 q2, kb_ret, kif_f (by decide), mgt_t q3 q4, kb_ret, kif_f (by decide)]
            unfold X10_road_b19
            rw [kif_f (by decide), kif_f hne, in_f hq5, kb_ret, kif_t rfl]
            unfold X10_road_b47
            rw [hb52 2 (by decide)]
    · refine op_no R 3 1 0 rfl (by decide) ?_ ?_
      · show f_X9_road 0 (nI x) b c (sX hx 0) = _
        unfold f_X9_road
        rw [rgt_t q1 q2, kb_ret, rgt_f hq3]
        rfl
      · show f_X10_road 0 (nI x) b c hm = _
        unfold f_X10_road
        rw [mgt_t q1 q2, kb_ret, kif_f (by decide), mgt_f hq3, kb_ret, kif_t rfl]
        unfold X10_road_b18 X10_road_b19
        rw [kif_t rfl, hb52 1 (by decide)]
  · refine op_no R 3 1 0 rfl (by decide) ?_ ?_
    · show f_X9_road 0 a b c (sX hx 0) = _
      unfold f_X9_road
      rw [rgt_f hq]
      rfl
    · show f_X10_road 0 a b c hm = _
      unfold f_X10_road
      rw [mgt_f hq, kb_ret, kif_t rfl]
      unfold X10_road_b18 X10_road_b19
      rw [kif_t rfl, hb52 1 (by decide)]
end
section
/-! the start: the class's heap as its constructor leaves it -/
def ZA (h : KH) : Prop := (∀ a k, ¬ (a = 1 ∧ k = 3) → kI h a k = 0) ∧ ∀ a k, kL h a k = 0
theorem za_al {h : KH} (Z : ZA h) (c n : Nat) : ZA (al h c n) := by
  refine ⟨fun a k q => ?_, fun a k => ?_⟩
  · rw [kI_al]
    split
    · rfl
    · exact Z.1 a k q
  · rw [kL_al]
    split
    · rfl
    · exact Z.2 a k
theorem za_M {h : KH} (Z : ZA h) (n k : Nat) : ZA (alM h n k) := by
  refine ⟨fun a j q => ?_, fun a j => ?_⟩
  · show (if _ then _ else _) = _
    split
    · rfl
    · exact Z.1 a j q
  · show (if _ then _ else _) = _
    split
    · rfl
    · exact Z.2 a j
theorem za_R {h : KH} (Z : ZA h) (a k : Nat) (v : Option Nat) : ZA (sR h a k v) := Z
theorem za_E : ZA kE := ⟨fun _ _ _ => rfl, fun _ _ => rfl⟩
def xh1 : KH := al (al kE 10 0) 7 0
def xh2 : KH := sR (alM xh1 8 8) 1 0 (some 2)
def xh3 : KH := sR (alM xh2 8 8) 1 1 (some 11)
def xh4 : KH := sR (al xh3 23 8) 1 2 (some 20)
def xh5 : KH := sI xh4 1 3 30
theorem kd_alM (h : KH) (n k b : Nat) : kd (alM h n k) b = if b = kx h then 24 else if kx h < b ∧ b ≤ kx h + n then 21 else kd h b := rfl
theorem xh1_x : kx xh1 = 2 := rfl
theorem xh2_x : kx xh2 = 11 := rfl
theorem xh3_x : kx xh3 = 20 := rfl
theorem xh1_Z : ZA xh1 := za_al (za_al za_E 10 0) 7 0
theorem xh2_Z : ZA xh2 := za_R (za_M xh1_Z 8 8) 1 0 _
theorem xh3_Z : ZA xh3 := za_R (za_M xh2_Z 8 8) 1 1 _
theorem xh4_Z : ZA xh4 := za_R (za_al xh3_Z 23 8) 1 2 _
theorem xh5_I {a k : Nat} (h : ¬ (a = 1 ∧ k = 3)) : kI xh5 a k = 0 := by
  unfold xh5
  rw [kI_sI, if_neg h]
  exact xh4_Z.1 a k h
theorem xh5_L (a k : Nat) : kL xh5 a k = 0 := by
  unfold xh5
  rw [kL_sI]
  exact xh4_Z.2 a k
theorem xh5_x : kx xh5 = 21 := rfl
theorem xh5_d : ∀ a, a < 21 → kd xh5 a = xDl.getD a 0 ∧ kn xh5 a = xNl.getD a 0 := by decide +kernel
theorem xh5_r : (kR xh5 1 0 = some 2 ∧ kR xh5 1 1 = some 11 ∧ kR xh5 1 2 = some 20) ∧ (∀ i, i < 8 → kR xh5 2 i = some (3 + i)) ∧ ∀ i, i < 8 → kR xh5 11 i = some (12 + i) := by decide +kernel
theorem xh5_f : ∀ a, 21 ≤ a → kd xh5 a = 0 := by
  intro a ha
  have e4 : kd xh4 a = kd xh3 a := by
    unfold xh4
    rw [kd_sR, kd_al, xh3_x, if_neg (by omega)]
  have e3 : kd xh3 a = kd xh2 a := by
    unfold xh3
    rw [kd_sR, kd_alM, xh2_x, if_neg (by omega), if_neg (by omega)]
  have e2 : kd xh2 a = kd xh1 a := by
    unfold xh2
    rw [kd_sR, kd_alM, xh1_x, if_neg (by omega), if_neg (by omega)]
  have e1 : kd xh1 a = 0 := by
    show (if a = 1 then 7 else if a = 0 then 10 else 0) = 0
    rw [if_neg (by omega), if_neg (by omega)]
  unfold xh5
  rw [kd_sI, e4, e3, e2, e1]
theorem xh5_S : kSr xh5 := ⟨(xh5_d 1 (by decide)).1, xh5_r.1, xh5_d 2 (by decide), xh5_d 11 (by decide), xh5_d 20 (by decide), fun i hi => ⟨⟨(xh5_d (3 + i) (by omega)).1.trans (xD3_at i hi).1, (xh5_d (3 + i) (by omega)).2.trans (xD3_at i hi).2⟩, xh5_r.2.1 i hi⟩, fun i hi => ⟨⟨(xh5_d (12 + i) (by omega)).1.trans (xD12_at i hi).1, (xh5_d (12 + i) (by omega)).2.trans (xD12_at i hi).2⟩, xh5_r.2.2 i hi⟩⟩
theorem x6_start {h' : KH} (e : f_X6_measureAll 1 xh5 = kret () h') : f_X6_init 1 xh1 = kret () h' := by
  have n1 : ∀ {α : Type} (F : Nat → KH → KO α), nwM xh1 8 8 F = F 2 (alM xh1 8 8) := fun F => if_pos (by decide +kernel)
  have n2 : ∀ {α : Type} (F : Nat → KH → KO α), nwM xh2 8 8 F = F 11 (alM xh2 8 8) := fun F => if_pos (by decide +kernel)
  have n3 : ∀ {α : Type} (F : Nat → KH → KO α), nw xh3 23 8 F = F 20 (al xh3 23 8) := fun F => if_pos (by decide +kernel)
  unfold f_X6_init
  rw [n1, pR_k (show kd (alM xh1 8 8) 1 = 7 by decide +kernel)]
  rw [show sR (alM xh1 8 8) 1 0 (some 2) = xh2 from rfl, n2, pR_k (show kd (alM xh2 8 8) 1 = 7 by decide +kernel)]
  rw [show sR (alM xh2 8 8) 1 1 (some 11) = xh3 from rfl, n3, pR_k (show kd (al xh3 23 8) 1 = 7 by decide +kernel)]
  rw [show sR (al xh3 23 8) 1 2 (some 20) = xh4 from rfl, pI_k (show kd xh4 1 = 7 by decide +kernel)]
  rw [show sI xh4 1 3 30 = xh5 from rfl, kV_k xh5_S.d1, e, kb_ret]
/-- the chain behind the roads -/
def CH (g : KH) (n : Nat) (S : List (Nat × Nat × Nat)) (h : KH) : Prop := kx h = n ∧ (∀ a, a < n → kd h a = xDl.getD a 0 ∧ kn h a = xNl.getD a 0) ∧ (∀ a, n ≤ a → kd h a = 0) ∧ (∀ t, t ∈ S → t.1 < n ∧ kR h t.1 t.2.1 = some t.2.2) ∧ (∀ a k, a = 0 ∨ 22 ≤ a → kI h a k = 0) ∧ (∀ a k, 21 ≤ a → kL h a k = 0) ∧ kAg (fun a _ => a = 0 ∨ 22 ≤ a) g h ∧ 22 ≤ n
theorem ch_al {g h : KH} {n n' : Nat} {S : List (Nat × Nat × Nat)} (C : CH g n S h) (c len : Nat) (hc : xDl.getD n 0 = c) (hl : xNl.getD n 0 = len) (hn : n' = n + 1) : ∃ h', (∀ {α : Type} (F : Nat → KH → KO α), nw h c len F = F n h') ∧ CH g n' S h' := by
  obtain ⟨c1, c2, c3, c4, c5, c6, c7, c8⟩ := C
  have hf : kd h (kx h) = 0 := by rw [c1]; exact c3 n (Nat.le_refl _)
  refine ⟨al h c len, fun F => by rw [nw_k hf, c1], by rw [kx_al, c1, hn], fun a ha => ?_, fun a ha => ?_, fun t ht => ?_, fun a k q => ?_, fun a k q => ?_, c7.trans (kAg.al h c len hf) (fun a k q => q) (fun a k q z => q (Or.inr (by rw [c1] at z; omega))), by omega⟩
  · rw [kd_al, kn_al, c1]
    by_cases hq : a = n
    · rw [if_pos hq, if_pos hq, hq, hc, hl]
      exact ⟨rfl, rfl⟩
    · rw [if_neg hq, if_neg hq]
      exact c2 a (by omega)
  · rw [kd_al, c1, if_neg (by omega)]
    exact c3 a (by omega)
  · obtain ⟨t1, t2⟩ := c4 t ht
    exact ⟨by omega, by rw [kR_al, c1, if_neg (by omega)]; exact t2⟩
  · rw [kI_al]
    split
    · rfl
    · exact c5 a k q
  · rw [kL_al]
    split
    · rfl
    · exact c6 a k q
theorem ch_pR {g h : KH} {n : Nat} {S : List (Nat × Nat × Nat)} (C : CH g n S h) (a c k v : Nat) (ha : a < n) (hc : xDl.getD a 0 = c) (h0 : a = 0 ∨ 22 ≤ a) (hS : ∀ t, t ∈ S → ¬ (t.1 = a ∧ t.2.1 = k)) : ∃ h', (∀ {α : Type} (F : KH → KO α), pR h a c k (some v) F = F h') ∧ CH g n ((a, k, v) :: S) h' := by
  obtain ⟨c1, c2, c3, c4, c5, c6, c7, c8⟩ := C
  refine ⟨sR h a k (some v), fun F => pR_k ((c2 a ha).1.trans hc), c1, c2, c3, fun t ht => ?_, c5, c6, c7.trans (kAg.R h a k (some v)) (fun a k q => q) (fun a k q z => q (by omega)), c8⟩
  rcases List.mem_cons.1 ht with rfl | ht
  · exact ⟨ha, by rw [kR_sR, if_pos ⟨rfl, rfl⟩]⟩
  · obtain ⟨t1, t2⟩ := c4 t ht
    exact ⟨t1, by rw [kR_sR, if_neg (hS t ht)]; exact t2⟩
theorem ch_pI {g h : KH} {n : Nat} {S : List (Nat × Nat × Nat)} (C : CH g n S h) (a c k : Nat) (ha : a < n) (hc : xDl.getD a 0 = c) (h0 : a = 0 ∨ 22 ≤ a) : ∃ h', (∀ {α : Type} (F : KH → KO α), pI h a c k 0 F = F h') ∧ CH g n S h' := by
  obtain ⟨c1, c2, c3, c4, c5, c6, c7, c8⟩ := C
  refine ⟨sI h a k 0, fun F => pI_k ((c2 a ha).1.trans hc), c1, c2, c3, c4, fun b j q => ?_, c6, c7.trans (kAg.I h a k 0) (fun a k q => q) (fun a k q z => q (by omega)), c8⟩
  rw [kI_sI]
  split
  · rfl
  · exact c5 b j q
/-- the heap behind the rates -/
def xg (g : KH) : KH := sI (sI (sI (sI (al (sR g 0 0 (some 1)) 21 4) 21 0 1) 21 1 2) 21 2 4) 21 3 8
theorem xg_I {g : KH} (hx : kx g = 21) {a k : Nat} (h : a ≠ 21) : kI (xg g) a k = kI g a k := by
  unfold xg
  rw [kI_sI, if_neg (fun z => h z.1), kI_sI, if_neg (fun z => h z.1), kI_sI, if_neg (fun z => h z.1), kI_sI, if_neg (fun z => h z.1), kI_al]
  rw [show kx (sR g 0 0 (some 1)) = 21 from hx, if_neg h]
  rfl
theorem xg_rates {g : KH} (hx : kx g = 21) : kI (xg g) 21 0 = 1 ∧ kI (xg g) 21 1 = 2 ∧ kI (xg g) 21 2 = 4 ∧ kI (xg g) 21 3 = 8 := ⟨rfl, rfl, rfl, rfl⟩
theorem x9_start {g : KH} (hx : kx g = 21) (hd : ∀ a, a < 21 → kd g a = xDl.getD a 0 ∧ kn g a = xNl.getD a 0) (hf : ∀ a, 21 ≤ a → kd g a = 0) (hI : ∀ a k, a = 0 ∨ 22 ≤ a → kI g a k = 0) (hL : ∀ a k, 21 ≤ a → kL g a k = 0) (e : f_X6_init 1 xh1 = kret () g) : ∃ x0, f_X9_init 0 (al kE 10 0) = kret () x0 ∧ CH (xg g) 36 [(0, 11, 33), (33, 1, 35), (33, 0, 34), (0, 10, 32), (0, 9, 31), (0, 8, 30), (0, 7, 29), (0, 6, 28), (0, 5, 27), (0, 4, 26), (0, 3, 24), (24, 0, 25), (0, 2, 22), (22, 0, 23), (0, 1, 21), (0, 0, 1)] x0 := by
  have k0 : kd (sR g 0 0 (some 1)) 21 = 0 := hf 21 (by decide)
  have C0 : CH (xg g) 22 [(0, 0, 1)] (xg g) := by
    refine ⟨?_, fun a ha => ?_, fun a ha => ?_, fun t ht => ?_, fun a k q => ?_, fun a k q => ?_, (kAg.rf _).sub (fun _ _ z => z.elim), by decide⟩
    · show kx g + 1 = 22
      rw [hx]
    · show (if a = kx g then 21 else kd g a) = _ ∧ (if a = kx g then 4 else kn g a) = _
      rw [hx]
      by_cases hq : a = 21
      · rw [if_pos hq, if_pos hq, hq]
        exact ⟨rfl, rfl⟩
      · rw [if_neg hq, if_neg hq]
        exact hd a (by omega)
    · show (if a = kx g then 21 else kd g a) = 0
      rw [hx, if_neg (by omega)]
      exact hf a (by omega)
    · rcases List.mem_cons.1 ht with rfl | ht
      · refine ⟨by decide, ?_⟩
        show (if 0 = kx g then none else if 0 = 0 ∧ 0 = 0 then some 1 else kR g 0 0) = some 1
        rw [hx, if_neg (by decide), if_pos ⟨rfl, rfl⟩]
      · cases ht
    · rw [xg_I hx (by omega)]
      exact hI a k q
    · show (if a = kx g then 0 else kL g a k) = 0
      split
      · rfl
      · exact hL a k q
  have hk1 : kd (al (sR g 0 0 (some 1)) 21 4) 21 = 21 := by
    show (if 21 = kx g then 21 else kd g 21) = 21
    rw [hx, if_pos rfl]
  have hn1 : kn (al (sR g 0 0 (some 1)) 21 4) 21 = 4 := by
    show (if 21 = kx g then 4 else kn g 21) = 4
    rw [hx, if_pos rfl]
  have w : ∀ {α : Type} (h : KH) (i : Nat) (v : Int32) (F : KH → KO α), kd h 21 = 21 → kn h 21 = 4 → i < 4 → pAI h 21 21 (nI i) v F = F (sI h 21 i v) := fun h i v F q1 q2 q3 => pAI_k q1 (by omega) (by omega)
  unfold f_X9_init
  rw [nw_k (show kd (al kE 10 0) (kx (al kE 10 0)) = 0 from rfl)]
  rw [show kx (al kE 10 0) = 1 from rfl, show al (al kE 10 0) 7 0 = xh1 from rfl, e, ki_ret, pR_k (show kd g 0 = 10 from (hd 0 (by decide)).1), nw_k (show kd (sR g 0 0 (some 1)) (kx (sR g 0 0 (some 1))) = 0 by rw [show kx (sR g 0 0 (some 1)) = 21 from hx]; exact k0)]
  rw [show kx (sR g 0 0 (some 1)) = 21 from hx]
  rw [show (0 : Int32) = nI 0 from rfl, w _ 0 1 _ hk1 hn1 (by decide)]
  rw [show (1 : Int32) = nI 1 from rfl, w _ 1 2 _ (by simp only [kd_sI]; exact hk1) (by simp only [kn_sI]; exact hn1) (by decide)]
  rw [show (2 : Int32) = nI 2 from rfl, w _ 2 4 _ (by simp only [kd_sI]; exact hk1) (by simp only [kn_sI]; exact hn1) (by decide)]
  rw [show (3 : Int32) = nI 3 from rfl, w _ 3 8 _ (by simp only [kd_sI]; exact hk1) (by simp only [kn_sI]; exact hn1) (by decide)]
  rw [show sI (sI (sI (sI (al (sR g 0 0 (some 1)) 21 4) 21 0 (nI 1)) 21 1 (nI 2)) 21 2 4) 21 3 8 = xg g from rfl, show nI 0 = (0 : Int32) from rfl]
  obtain ⟨g1, e1, C1⟩ := ch_pR C0 0 10 1 21 (by decide) rfl (by decide) (by decide)
  rw [e1]
  obtain ⟨g2, e2, C2⟩ := ch_al C1 (n' := 23) 8 0 rfl rfl rfl
  rw [e2]
  unfold f_X7_init
  obtain ⟨g3, e3, C3⟩ := ch_al C2 (n' := 24) 21 6 rfl rfl rfl
  rw [e3]
  obtain ⟨g4, e4, C4⟩ := ch_pR C3 22 8 0 23 (by decide) rfl (by decide) (by decide)
  rw [e4]
  obtain ⟨g5, e5, C5⟩ := ch_pI C4 22 8 1 (by decide) rfl (by decide)
  rw [e5]
  rw [ki_ret]
  obtain ⟨g6, e6, C6⟩ := ch_pR C5 0 10 2 22 (by decide) rfl (by decide) (by decide)
  rw [e6]
  obtain ⟨g7, e7, C7⟩ := ch_al C6 (n' := 25) 3 0 rfl rfl rfl
  rw [e7]
  unfold f_X2_init
  obtain ⟨g8, e8, C8⟩ := ch_al C7 (n' := 26) 21 15 rfl rfl rfl
  rw [e8]
  obtain ⟨g9, e9, C9⟩ := ch_pR C8 24 3 0 25 (by decide) rfl (by decide) (by decide)
  rw [e9]
  rw [ki_ret]
  obtain ⟨g10, e10, C10⟩ := ch_pR C9 0 10 3 24 (by decide) rfl (by decide) (by decide)
  rw [e10]
  obtain ⟨g11, e11, C11⟩ := ch_al C10 (n' := 27) 25 10 rfl rfl rfl
  rw [e11]
  obtain ⟨g12, e12, C12⟩ := ch_pR C11 0 10 4 26 (by decide) rfl (by decide) (by decide)
  rw [e12]
  obtain ⟨g13, e13, C13⟩ := ch_al C12 (n' := 28) 25 10 rfl rfl rfl
  rw [e13]
  obtain ⟨g14, e14, C14⟩ := ch_pR C13 0 10 5 27 (by decide) rfl (by decide) (by decide)
  rw [e14]
  obtain ⟨g15, e15, C15⟩ := ch_al C14 (n' := 29) 26 60 rfl rfl rfl
  rw [e15]
  obtain ⟨g16, e16, C16⟩ := ch_pR C15 0 10 6 28 (by decide) rfl (by decide) (by decide)
  rw [e16]
  obtain ⟨g17, e17, C17⟩ := ch_al C16 (n' := 30) 27 8 rfl rfl rfl
  rw [e17]
  obtain ⟨g18, e18, C18⟩ := ch_pR C17 0 10 7 29 (by decide) rfl (by decide) (by decide)
  rw [e18]
  obtain ⟨g19, e19, C19⟩ := ch_al C18 (n' := 31) 28 40 rfl rfl rfl
  rw [e19]
  obtain ⟨g20, e20, C20⟩ := ch_pR C19 0 10 8 30 (by decide) rfl (by decide) (by decide)
  rw [e20]
  obtain ⟨g21, e21, C21⟩ := ch_al C20 (n' := 32) 22 6 rfl rfl rfl
  rw [e21]
  obtain ⟨g22, e22, C22⟩ := ch_pR C21 0 10 9 31 (by decide) rfl (by decide) (by decide)
  rw [e22]
  obtain ⟨g23, e23, C23⟩ := ch_al C22 (n' := 33) 22 6 rfl rfl rfl
  rw [e23]
  obtain ⟨g24, e24, C24⟩ := ch_pR C23 0 10 10 32 (by decide) rfl (by decide) (by decide)
  rw [e24]
  obtain ⟨g25, e25, C25⟩ := ch_al C24 (n' := 34) 4 0 rfl rfl rfl
  rw [e25]
  unfold f_X3_init
  obtain ⟨g26, e26, C26⟩ := ch_al C25 (n' := 35) 26 60 rfl rfl rfl
  rw [e26]
  obtain ⟨g27, e27, C27⟩ := ch_pR C26 33 4 0 34 (by decide) rfl (by decide) (by decide)
  rw [e27]
  obtain ⟨g28, e28, C28⟩ := ch_al C27 (n' := 36) 23 60 rfl rfl rfl
  rw [e28]
  obtain ⟨g29, e29, C29⟩ := ch_pR C28 33 4 1 35 (by decide) rfl (by decide) (by decide)
  rw [e29]
  obtain ⟨g30, e30, C30⟩ := ch_pI C29 33 4 2 (by decide) rfl (by decide)
  rw [e30]
  rw [ki_ret]
  obtain ⟨g31, e31, C31⟩ := ch_pR C30 0 10 11 33 (by decide) rfl (by decide) (by decide)
  rw [e31]
  obtain ⟨g32, e32, C32⟩ := ch_pI C31 0 10 12 (by decide) rfl (by decide)
  rw [e32]
  obtain ⟨g33, e33, C33⟩ := ch_pI C32 0 10 13 (by decide) rfl (by decide)
  rw [e33]
  obtain ⟨g34, e34, C34⟩ := ch_pI C33 0 10 14 (by decide) rfl (by decide)
  rw [e34]
  obtain ⟨g35, e35, C35⟩ := ch_pI C34 0 10 15 (by decide) rfl (by decide)
  rw [e35]
  obtain ⟨g36, e36, C36⟩ := ch_pI C35 0 10 16 (by decide) rfl (by decide)
  rw [e36]
  exact ⟨_, rfl, C36⟩
/-! the start: the model's heap -/
def MI (n : Nat) (S : List (Nat × Nat)) (h : KH) : Prop := kx h = n ∧ (∀ a, a < n → kd h a = mDl.getD a 0 ∧ kn h a = mNl.getD a 0) ∧ (∀ a, n ≤ a → kd h a = 0) ∧ (∀ t, t ∈ S → kR h 0 t.1 = some t.2) ∧ (∀ a k, ¬ (a = 0 ∧ k = 1) → kI h a k = 0) ∧ (∀ a k, kL h a k = 0) ∧ kI h 0 1 = 30 ∧ 1 ≤ n
theorem mi_al {h : KH} {n n' : Nat} {S : List (Nat × Nat)} (C : MI n S h) (c len k : Nat) (hc : mDl.getD n 0 = c) (hl : mNl.getD n 0 = len) (hn : n' = n + 1) (hS : ∀ t, t ∈ S → t.1 ≠ k) : ∃ h', (∀ {α : Type} (F : KH → KO α), nw h c len (fun a h1 => pR h1 0 11 k (some a) F) = F h') ∧ MI n' ((k, n) :: S) h' := by
  obtain ⟨c1, c2, c3, c4, c5, c6, c7, c8⟩ := C
  have hf : kd h (kx h) = 0 := by rw [c1]; exact c3 n (Nat.le_refl _)
  have k0 : kd (al h c len) 0 = 11 := by
    rw [kd_al, c1, if_neg (by omega)]
    exact (c2 0 (by omega)).1
  refine ⟨sR (al h c len) 0 k (some n), fun F => by rw [nw_k hf, c1, pR_k k0], ?_, fun a ha => ?_, fun a ha => ?_, fun t ht => ?_, fun a k q => ?_, fun a k => ?_, ?_, by omega⟩
  · show kx h + 1 = n'
    omega
  · rw [kd_sR, kn_sR, kd_al, kn_al, c1]
    by_cases hq : a = n
    · rw [if_pos hq, if_pos hq, hq, hc, hl]
      exact ⟨rfl, rfl⟩
    · rw [if_neg hq, if_neg hq]
      exact c2 a (by omega)
  · rw [kd_sR, kd_al, c1, if_neg (by omega)]
    exact c3 a (by omega)
  · rcases List.mem_cons.1 ht with rfl | ht
    · rw [kR_sR, if_pos ⟨rfl, rfl⟩]
    · rw [kR_sR, if_neg (fun z => hS t ht z.2), kR_al, c1, if_neg (by omega)]
      exact c4 t ht
  · rw [kI_sR, kI_al]
    split
    · rfl
    · exact c5 a k q
  · rw [kL_sR, kL_al]
    split
    · rfl
    · exact c6 a k
  · rw [kI_sR, kI_al, c1, if_neg (by omega)]
    exact c7
theorem x10_start : ∃ h, f_X10_init 0 (al kE 11 0) = X10_init_L232 kF 0 0 h ∧ MI 28 [(34, 27), (33, 26), (32, 25), (30, 24), (29, 23), (28, 22), (26, 21), (25, 20), (24, 19), (23, 18), (22, 17), (21, 16), (20, 15), (19, 14), (18, 13), (17, 12), (15, 11), (14, 10), (13, 9), (11, 8), (10, 7), (9, 6), (7, 5), (6, 4), (4, 3), (3, 2), (2, 1)] h := by
  have C0 : MI 1 [] (sI (al kE 11 0) 0 1 30) := by
    refine ⟨rfl, fun a ha => ?_, fun a ha => ?_, fun t ht => (by cases ht), fun a k q => ?_, fun a k => ?_, rfl, by decide⟩
    · obtain rfl : a = 0 := by omega
      exact ⟨rfl, rfl⟩
    · show (if a = 0 then 11 else 0) = 0
      rw [if_neg (by omega)]
    · rw [kI_sI, if_neg q, kI_al]
      split <;> rfl
    · show (if a = 0 then 0 else 0) = _
      split <;> rfl
  unfold f_X10_init
  rw [pI_k (show kd (al kE 11 0) 0 = 11 from rfl)]
  obtain ⟨g1, e1, C1⟩ := mi_al C0 (n' := 2) 21 64 2 rfl rfl rfl (by decide)
  rw [e1]
  obtain ⟨g2, e2, C2⟩ := mi_al C1 (n' := 3) 21 64 3 rfl rfl rfl (by decide)
  rw [e2]
  obtain ⟨g3, e3, C3⟩ := mi_al C2 (n' := 4) 21 4 4 rfl rfl rfl (by decide)
  rw [e3]
  obtain ⟨g4, e4, C4⟩ := mi_al C3 (n' := 5) 21 6 6 rfl rfl rfl (by decide)
  rw [e4]
  obtain ⟨g5, e5, C5⟩ := mi_al C4 (n' := 6) 23 225 7 rfl rfl rfl (by decide)
  rw [e5]
  obtain ⟨g6, e6, C6⟩ := mi_al C5 (n' := 7) 21 10 9 rfl rfl rfl (by decide)
  rw [e6]
  obtain ⟨g7, e7, C7⟩ := mi_al C6 (n' := 8) 21 60 10 rfl rfl rfl (by decide)
  rw [e7]
  obtain ⟨g8, e8, C8⟩ := mi_al C7 (n' := 9) 21 10 11 rfl rfl rfl (by decide)
  rw [e8]
  obtain ⟨g9, e9, C9⟩ := mi_al C8 (n' := 10) 21 700 13 rfl rfl rfl (by decide)
  rw [e9]
  obtain ⟨g10, e10, C10⟩ := mi_al C9 (n' := 11) 21 700 14 rfl rfl rfl (by decide)
  rw [e10]
  obtain ⟨g11, e11, C11⟩ := mi_al C10 (n' := 12) 21 700 15 rfl rfl rfl (by decide)
  rw [e11]
  obtain ⟨g12, e12, C12⟩ := mi_al C11 (n' := 13) 21 60 17 rfl rfl rfl (by decide)
  rw [e12]
  obtain ⟨g13, e13, C13⟩ := mi_al C12 (n' := 14) 21 60 18 rfl rfl rfl (by decide)
  rw [e13]
  obtain ⟨g14, e14, C14⟩ := mi_al C13 (n' := 15) 21 60 19 rfl rfl rfl (by decide)
  rw [e14]
  obtain ⟨g15, e15, C15⟩ := mi_al C14 (n' := 16) 21 360 20 rfl rfl rfl (by decide)
  rw [e15]
  obtain ⟨g16, e16, C16⟩ := mi_al C15 (n' := 17) 23 60 21 rfl rfl rfl (by decide)
  rw [e16]
  obtain ⟨g17, e17, C17⟩ := mi_al C16 (n' := 18) 21 60 22 rfl rfl rfl (by decide)
  rw [e17]
  obtain ⟨g18, e18, C18⟩ := mi_al C17 (n' := 19) 21 60 23 rfl rfl rfl (by decide)
  rw [e18]
  obtain ⟨g19, e19, C19⟩ := mi_al C18 (n' := 20) 21 60 24 rfl rfl rfl (by decide)
  rw [e19]
  obtain ⟨g20, e20, C20⟩ := mi_al C19 (n' := 21) 22 6 25 rfl rfl rfl (by decide)
  rw [e20]
  obtain ⟨g21, e21, C21⟩ := mi_al C20 (n' := 22) 22 6 26 rfl rfl rfl (by decide)
  rw [e21]
  obtain ⟨g22, e22, C22⟩ := mi_al C21 (n' := 23) 21 8 28 rfl rfl rfl (by decide)
  rw [e22]
  obtain ⟨g23, e23, C23⟩ := mi_al C22 (n' := 24) 21 8 29 rfl rfl rfl (by decide)
  rw [e23]
  obtain ⟨g24, e24, C24⟩ := mi_al C23 (n' := 25) 21 8 30 rfl rfl rfl (by decide)
  rw [e24]
  obtain ⟨g25, e25, C25⟩ := mi_al C24 (n' := 26) 21 40 32 rfl rfl rfl (by decide)
  rw [e25]
  obtain ⟨g26, e26, C26⟩ := mi_al C25 (n' := 27) 21 40 33 rfl rfl rfl (by decide)
  rw [e26]
  obtain ⟨g27, e27, C27⟩ := mi_al C26 (n' := 28) 21 40 34 rfl rfl rfl (by decide)
  rw [e27]
  exact ⟨_, rfl, C27⟩
end
section
/-! the start: both heaps side by side -/
theorem kb_shl : ∀ i, i < 4 → (1 : Int32) <<< (nI i &&& 31) = nI (2 ^ i) := by decide +kernel
theorem tm_ratesL : ∀ (f i : Nat) (h : KH), kSm h → i ≤ 4 → 4 < i + f → (∀ k, k < i → kI h 3 k = nI (2 ^ k)) → ∃ h', X10_init_L232 f 0 (nI i) h = kcallV 11 0 h' (f_X10_measures 0 h') (fun _ h1 => kret () h1) ∧ kAg (fun a _ => a = 3) h h' ∧ ∀ k, k < 4 → kI h' 3 k = nI (2 ^ k) := by
  intro f
  induction f with
  | zero => intro i h _ h1 h2; omega
  | succ f ih =>
    intro i h T h1 h2 h3
    unfold X10_init_L232 X10_init_b232
    by_cases hi : 4 ≤ i
    · exact ⟨h, by rw [kif_t (by rw [show (4 : Int32) = nI 4 from rfl, ka_le (by omega) (by omega)]; exact hi)], (kAg.rf h).sub (fun _ _ z => z.elim), fun k q => h3 k (by omega)⟩
    · have ag1 := kAg.I h 3 i (nI (2 ^ i))
      obtain ⟨h', e1, e2, e3⟩ := ih (i + 1) (sI h 3 i (nI (2 ^ i))) (T.fr ag1 (fun a k q z => by omega)) (by omega) (by omega) (fun k hk => by
        rw [kI_sI]
        by_cases hki : k = i
        · rw [if_pos ⟨rfl, hki⟩, hki]
        · rw [if_neg (fun z => hki z.2)]
          exact h3 k (by omega))
      refine ⟨h', ?_, ag1.trans e2 (fun a k q z => q z.1) (fun a k q => q), e3⟩
      rw [kif_f (by rw [show (4 : Int32) = nI 4 from rfl, ka_le (by omega) (by omega)]; exact hi), gN_k T.d0 T.r4, pAI_k T.d3 (by rw [T.n3]; omega) (by omega), kb_shl i (by omega), nI_1]
      exact e1
theorem mRl_S : ∀ k, k < 36 → mRl.getD k none ≠ none → ∃ t, t ∈ [(34, 27), (33, 26), (32, 25), (30, 24), (29, 23), (28, 22), (26, 21), (25, 20), (24, 19), (23, 18), (22, 17), (21, 16), (20, 15), (19, 14), (18, 13), (17, 12), (15, 11), (14, 10), (13, 9), (11, 8), (10, 7), (9, 6), (7, 5), (6, 4), (4, 3), (3, 2), (2, 1)] ∧ t.1 = k ∧ mRl.getD k none = some t.2 := by decide
theorem start_all : ∃ x0 m0, f_X9_init 0 (al kE 10 0) = some (.inr (), x0) ∧ f_X10_init 0 (al kE 11 0) = some (.inr (), m0) ∧ kx x0 = 36 ∧ (∀ a, 36 ≤ a → kd x0 a = 0) ∧ kd x0 0 = 10 ∧ kd m0 0 = 11 ∧ RR 0 (al x0 22 1) m0 := by
  -- the model up to its measures
  obtain ⟨hM, y1, M1, M2, M3, M4, M5, M6, M7, -⟩ := x10_start
  have TM : kSm hM := ⟨M2, fun k hk hn => by
    obtain ⟨t, t1, t2, t3⟩ := mRl_S k hk hn
    rw [t3, ← t2]
    exact M4 t t1⟩
  obtain ⟨hR, z1, z2, z3⟩ := tm_ratesL kF 0 hM TM (by omega) (by unfold kF; omega) (fun k hk => absurd hk (Nat.not_lt_zero _))
  have TR : kSm hR := TM.fr z2 (fun a k q z => by omega)
  have hRI : ∀ a k, a ≠ 3 → ¬ (a = 0 ∧ k = 1) → kI hR a k = 0 := fun a k h1 h2 => by
    rw [(z2.1 a k h1).1]
    exact M5 a k h2
  -- the distances of both
  have cL0 : cLen xh5 hR := fun i j hi hj => ⟨0, Nat.zero_le _, xh5_I (by omega), hRI _ _ (by omega) (by omega), hRI _ _ (by omega) (by omega), fun _ => rfl⟩
  obtain ⟨g, m0, e1, f1, ⟨ag, kxg⟩, am, cD⟩ := dis_all xh5_S TR cL0
  have T0 : kSm m0 := TR.fr am (fun a k q z => by omega)
  have m0I : ∀ a k, a ≠ 2 → a ≠ 3 → ¬ (a = 0 ∧ k = 1) → kI m0 a k = 0 := fun a k h1 h2 h3 => by
    rw [(am.1 a k h1).1]
    exact hRI a k h2 h3
  have m0L : ∀ a k, a ≠ 2 → a ≠ 3 → kL m0 a k = 0 := fun a k h1 h2 => by
    rw [(am.1 a k h1).2.1, (z2.1 a k h2).2.1]
    exact M6 a k
  have m01 : kI m0 0 1 = 30 := by
    rw [(am.1 0 1 (by omega)).1, (z2.1 0 1 (by omega)).1]
    exact M7
  have hmodel : f_X10_init 0 (al kE 11 0) = kret () m0 := by
    rw [y1, show (0 : Int32) = nI 0 from rfl, z1, kV_k TR.d0, f1, kb_ret]
  -- the class
  have kg : ∀ a, a < 21 → kd g a = xDl.getD a 0 ∧ kn g a = xNl.getD a 0 := fun a ha => by
    obtain ⟨d1, d2⟩ := xh5_d a ha
    have := ag.k a (by rw [d1]; exact xDl_pos a (by omega))
    exact ⟨this.1.trans d1, this.2.trans d2⟩
  have fg : ∀ a, 21 ≤ a → kd g a = 0 := fun a ha => ag.nf (fun a z => by omega) a (xh5_f a ha)
  have Ig : ∀ a k, a < 12 ∨ 20 < a → ¬ (a = 1 ∧ k = 3) → kI g a k = 0 := fun a k h1 h2 => by
    rw [(ag.1 a k (by omega)).1]
    exact xh5_I h2
  have kx21 : kx g = 21 := kxg.trans xh5_x
  obtain ⟨x0, c0, c1, c2, c3, c4, c5, c6, c7, -⟩ := x9_start kx21 kg fg (fun a k h => Ig a k (by omega) (by omega)) (fun a k h => by
    rw [(ag.1 a k (by omega)).2.1]
    exact xh5_L a k) (x6_start e1)
  -- what the chain leaves alone
  have eX : ∀ a k, a ≠ 0 → a < 22 → kI x0 a k = kI (xg g) a k ∧ kR x0 a k = kR (xg g) a k := fun a k h1 h2 => ⟨(c7.1 a k (by omega)).1, (c7.1 a k (by omega)).2.2⟩
  have rG : ∀ a k, a ≠ 0 → a ≠ 21 → kR (xg g) a k = kR g a k := fun a k h1 h2 => by
    show (if a = kx g then none else if a = 0 ∧ k = 0 then some 1 else kR g a k) = kR g a k
    rw [kx21, if_neg h2, if_neg (fun z => h1 z.1)]
  have rX : ∀ a k, a ≠ 0 → a < 12 → kR x0 a k = kR xh5 a k := fun a k h1 h2 => by
    rw [(eX a k h1 (by omega)).2, rG a k h1 (by omega), (ag.1 a k (by omega)).2.2]
  have iX : ∀ a k, a ≠ 0 → a < 21 → kI x0 a k = kI g a k := fun a k h1 h2 => by
    rw [(eX a k h1 (by omega)).1, xg_I kx21 (by omega)]
  have kI36 : ∀ a k, a ≠ 36 → kI (al x0 22 1) a k = kI x0 a k := fun a k h => by rw [kI_al, c1, if_neg h]
  have kR36 : ∀ a k, a ≠ 36 → kR (al x0 22 1) a k = kR x0 a k := fun a k h => by rw [kR_al, c1, if_neg h]
  have kL36 : ∀ a k, a ≠ 36 → kL (al x0 22 1) a k = kL x0 a k := fun a k h => by rw [kL_al, c1, if_neg h]
  refine ⟨x0, m0, c0, hmodel, c1, c3, (c2 0 (by decide)).1, T0.d0, ?_⟩
  have hS : kSx (al x0 22 1) := by
    have hd : ∀ a, a < 36 → kd (al x0 22 1) a = xDl.getD a 0 ∧ kn (al x0 22 1) a = xNl.getD a 0 := fun a ha => by
      rw [kd_al, kn_al, c1]
      by_cases h36 : a = 36
      · rw [if_pos h36, if_pos h36, h36]
        exact ⟨rfl, rfl⟩
      · rw [if_neg h36, if_neg h36]
        exact c2 a (by omega)
    have hr : ∀ a k v, (a, k, v) ∈ [(0, 11, 33), (33, 1, 35), (33, 0, 34), (0, 10, 32), (0, 9, 31), (0, 8, 30), (0, 7, 29), (0, 6, 28), (0, 5, 27), (0, 4, 26), (0, 3, 24), (24, 0, 25), (0, 2, 22), (22, 0, 23), (0, 1, 21), (0, 0, 1)] → kR (al x0 22 1) a k = some v := fun a k v h => by
      obtain ⟨t1, t2⟩ := c4 (a, k, v) h
      have t1' : a < 36 := t1
      rw [kR36 a k (by omega)]
      exact t2
    refine ⟨hd, fun k hk => ?_, fun k hk => ?_, fun k hk => ?_, fun k hk => ?_, fun k hk => ?_, fun k hk => ?_, fun k hk => ?_⟩
    · have : ∀ k, k < 12 → ∃ v, (0, k, v) ∈ [(0, 11, 33), (33, 1, 35), (33, 0, 34), (0, 10, 32), (0, 9, 31), (0, 8, 30), (0, 7, 29), (0, 6, 28), (0, 5, 27), (0, 4, 26), (0, 3, 24), (24, 0, 25), (0, 2, 22), (22, 0, 23), (0, 1, 21), (0, 0, 1)] ∧ xR0l.getD k none = some v := by
        intro k hk
        match k, hk with
        | 0, _ => exact ⟨1, by decide, rfl⟩
        | 1, _ => exact ⟨21, by decide, rfl⟩
        | 2, _ => exact ⟨22, by decide, rfl⟩
        | 3, _ => exact ⟨24, by decide, rfl⟩
        | 4, _ => exact ⟨26, by decide, rfl⟩
        | 5, _ => exact ⟨27, by decide, rfl⟩
        | 6, _ => exact ⟨28, by decide, rfl⟩
        | 7, _ => exact ⟨29, by decide, rfl⟩
        | 8, _ => exact ⟨30, by decide, rfl⟩
        | 9, _ => exact ⟨31, by decide, rfl⟩
        | 10, _ => exact ⟨32, by decide, rfl⟩
        | 11, _ => exact ⟨33, by decide, rfl⟩
        | k + 12, hk => omega
      obtain ⟨v, v1, v2⟩ := this k hk
      rw [v2]
      exact hr 0 k v v1
    · rw [kR36 1 k (by omega), rX 1 k (by omega) (by omega)]
      match k, hk with
      | 0, _ => exact xh5_r.1.1
      | 1, _ => exact xh5_r.1.2.1
      | 2, _ => exact xh5_r.1.2.2
      | k + 3, hk => omega
    · rw [kR36 2 k (by omega), rX 2 k (by omega) (by omega), xh5_r.2.1 k hk, x2_at k hk]
    · rw [kR36 11 k (by omega), rX 11 k (by omega) (by omega), xh5_r.2.2 k hk, x11_at k hk]
    · obtain rfl : k = 0 := by omega
      exact hr 22 0 23 (by decide)
    · obtain rfl : k = 0 := by omega
      exact hr 24 0 25 (by decide)
    · match k, hk with
      | 0, _ => exact hr 33 0 34 (by decide)
      | 1, _ => exact hr 33 1 35 (by decide)
      | k + 2, hk => omega
  have z0 : ∀ a k, a = 0 ∨ 22 ≤ a → a ≠ 36 → kI (al x0 22 1) a k = 0 := fun a k h h36 => by
    rw [kI36 a k h36]
    exact c5 a k h
  have n8 : mn m0 0 8 = 0 := by unfold mn; rw [m0I 0 8 (by omega) (by omega) (by omega)]; rfl
  have n16 : mn m0 0 16 = 0 := by unfold mn; rw [m0I 0 16 (by omega) (by omega) (by omega)]; rfl
  have n27 : mn m0 0 27 = 0 := by unfold mn; rw [m0I 0 27 (by omega) (by omega) (by omega)]; rfl
  have n31 : mn m0 0 31 = 0 := by unfold mn; rw [m0I 0 31 (by omega) (by omega) (by omega)]; rfl
  refine ⟨⟨hS, T0⟩, ⟨0, by omega, z0 0 12 (by omega) (by omega), m0I 0 0 (by omega) (by omega) (by omega)⟩, ⟨30, by omega, ?_, m01⟩, fun i j hi hj => ⟨0, by omega, ?_, m0I 1 _ (by omega) (by omega) (by omega), m0I 1 _ (by omega) (by omega) (by omega), fun _ => rfl⟩, fun i j hi hj => ?_, fun k hk => ?_, ⟨0, by omega, z0 22 1 (by omega) (by omega), m0I 0 5 (by omega) (by omega) (by omega), fun k hk => absurd hk (Nat.not_lt_zero _)⟩, ⟨fun a ha => ⟨0, by omega, z0 25 a (by omega) (by omega), fun b hb => ?_⟩, fun a b ha hb => ?_⟩, ⟨⟨0, by omega, z0 0 13 (by omega) (by omega), m0I 0 8 (by omega) (by omega) (by omega)⟩, fun p hp => ?_, fun p q hpq hq => ?_⟩, ⟨[], by rw [n8]; rfl, fun p => ?_, List.Pairwise.nil, fun k hk => absurd hk (Nat.not_lt_zero _)⟩, ⟨0, by omega, m0I 0 12 (by omega) (by omega) (by omega), fun k hk => absurd hk (Nat.not_lt_zero _), fun p hp => ?_⟩, ⟨⟨0, by omega, z0 0 14 (by omega) (by omega), m0I 0 16 (by omega) (by omega) (by omega)⟩, fun r hr => ?_, fun r _ _ => m0I 16 r (by omega) (by omega) (by omega)⟩, fun p hp => ?_, ⟨fun d hd => ?_, fun k hk => Or.inl (z0 35 k (by omega) (by omega))⟩, ⟨⟨0, by omega, z0 0 15 (by omega) (by omega), m0I 0 27 (by omega) (by omega) (by omega)⟩, fun w hw => ?_⟩, ⟨⟨0, by omega, z0 0 16 (by omega) (by omega), m0I 0 31 (by omega) (by omega) (by omega)⟩, fun n hn => ?_⟩, fun a ha => ?_⟩
  · rw [kI36 1 3 (by omega), iX 1 3 (by omega) (by omega), (ag.1 1 3 (by omega)).1]
    rfl
  · rw [kI36 _ _ (by omega), iX _ _ (by omega) (by omega)]
    exact Ig _ _ (by omega) (by omega)
  · rw [kI36 _ _ (by omega), iX _ _ (by omega) (by omega)]
    exact cD i j hi hj
  · obtain ⟨q0, q1, q2, q3⟩ := xg_rates kx21
    have em : kI m0 3 k = nI (2 ^ k) := by rw [(am.1 3 k (by omega)).1, z3 k hk]
    have ex : kI (al x0 22 1) 21 k = kI (xg g) 21 k := by rw [kI36 21 k (by omega), (eX 21 k (by omega) (by omega)).1]
    rw [em, ex]
    match k, hk with
    | 0, _ => exact ⟨1, by omega, q0, rfl⟩
    | 1, _ => exact ⟨2, by omega, q1, rfl⟩
    | 2, _ => exact ⟨4, by omega, q2, rfl⟩
    | 3, _ => exact ⟨8, by omega, q3, rfl⟩
    | k + 4, hk => omega
  · rw [m0I 5 _ (by omega) (by omega) (by omega), Nat.zero_testBit]
    rfl
  · rw [m0I 5 _ (by omega) (by omega) (by omega), m0I 5 _ (by omega) (by omega) (by omega)]
  · rw [n8] at hp
    exact absurd hp (Nat.not_lt_zero _)
  · rw [n8] at hq
    exact absurd hq (Nat.not_lt_zero _)
  · rw [n8]
    exact ⟨fun z => (by cases z), fun z => absurd z (Nat.not_lt_zero _)⟩
  · rw [n8] at hp
    exact absurd hp (Nat.not_lt_zero _)
  · rw [n16] at hr
    exact absurd hr (Nat.not_lt_zero _)
  · rw [n8] at hp
    exact absurd hp (Nat.not_lt_zero _)
  · rw [kL36 31 d (by omega), kL36 32 d (by omega), c6 31 d (by omega), c6 32 d (by omega), m0L 20 d (by omega) (by omega), m0L 21 d (by omega) (by omega)]
    exact ⟨rfl, rfl⟩
  · rw [n27] at hw
    exact absurd hw (Nat.not_lt_zero _)
  · rw [n31] at hn
    exact absurd hn (Nat.not_lt_zero _)
  · rw [n8, n16, n27, n31] at ha
    rw [kd_al, c1, if_neg (by omega)]
    exact c3 a (by omega)
end
