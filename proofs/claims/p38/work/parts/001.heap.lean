/-! the abstract heap: a kind, a length, ints, longs and references by address and place; the next address -/
abbrev KV : Type := Int32 ⊕ (Int64 ⊕ Option Nat)
abbrev KH : Type := (Nat → Nat) × (Nat → Nat) × (Nat → Nat → Int32) × (Nat → Nat → Int64) × (Nat → Nat → Option Nat) × Nat
abbrev KO (α : Type) : Type := Option ((Nat ⊕ α) × KH)
def kmk (d : Nat → Nat) (n : Nat → Nat) (i : Nat → Nat → Int32) (l : Nat → Nat → Int64) (r : Nat → Nat → Option Nat) (x : Nat) : KH := (d, n, i, l, r, x)
def kd (h : KH) : Nat → Nat := h.1
def kn (h : KH) : Nat → Nat := h.2.1
def kI (h : KH) : Nat → Nat → Int32 := h.2.2.1
def kL (h : KH) : Nat → Nat → Int64 := h.2.2.2.1
def kR (h : KH) : Nat → Nat → Option Nat := h.2.2.2.2.1
def kx (h : KH) : Nat := h.2.2.2.2.2
def sI (h : KH) (a k : Nat) (v : Int32) : KH := kmk (kd h) (kn h) (fun b j => if b = a ∧ j = k then v else kI h b j) (kL h) (kR h) (kx h)
def sL (h : KH) (a k : Nat) (v : Int64) : KH := kmk (kd h) (kn h) (kI h) (fun b j => if b = a ∧ j = k then v else kL h b j) (kR h) (kx h)
def sR (h : KH) (a k : Nat) (v : Option Nat) : KH := kmk (kd h) (kn h) (kI h) (kL h) (fun b j => if b = a ∧ j = k then v else kR h b j) (kx h)
def sX (h : KH) (x : Nat) : KH := kmk (kd h) (kn h) (kI h) (kL h) (kR h) x
def al (h : KH) (c n : Nat) : KH := kmk (fun b => if b = kx h then c else kd h b) (fun b => if b = kx h then n else kn h b) (fun b j => if b = kx h then 0 else kI h b j) (fun b j => if b = kx h then 0 else kL h b j) (fun b j => if b = kx h then none else kR h b j) (kx h + 1)
/-! what a step answers: nothing (a fault), an exception by its number, or a value; and the heap -/
def kret {α : Type} (v : α) (h : KH) : KO α := some (.inr v, h)
def kthrow {α : Type} (e : Nat) (h : KH) : KO α := some (.inl e, h)
def kbind {α β : Type} (x : KO α) (k : α → KH → KO β) : KO β := match x with
  | some (.inr v, h) => k v h
  | some (.inl e, h) => some (.inl e, h)
  | none => none
/-- a call under a catch -/
def kcatch {α β : Type} (x : KO α) (c : Nat → KH → KO β) (k : α → KH → KO β) : KO β := match x with
  | some (.inr v, h) => k v h
  | some (.inl e, h) => c e h
  | none => none
def kg {α : Type} (c : Prop) [Decidable c] (x : KO α) : KO α := if c then x else none
def kmay {α β : Type} (o : Option α) (k : α → KO β) : KO β := match o with
  | some a => k a
  | none => none
def knul {α β : Type} (o : Option α) (x : KO β) (k : α → KO β) : KO β := match o with
  | none => x
  | some a => k a
def kix (i : Int32) (n : Nat) : Prop := ¬ (i < 0 ∨ n ≤ i.toNatClampNeg)
def kif {α : Type} (c : Prop) [Decidable c] (x y : KO α) : KO α := if c then x else y
/-- fuel of a loop -/
def kF : Nat := 1000
/-! reads and writes with their guards -/
def gI {α : Type} (h : KH) (a c k : Nat) (f : Int32 → KO α) : KO α := if kd h a = c then f (kI h a k) else none
def gR {α : Type} (h : KH) (a c k : Nat) (f : Option Nat → KO α) : KO α := if kd h a = c then f (kR h a k) else none
def gN {α : Type} (h : KH) (a c k : Nat) (f : Nat → KO α) : KO α := if kd h a = c then kmay (kR h a k) f else none
def pI {α : Type} (h : KH) (a c k : Nat) (v : Int32) (f : KH → KO α) : KO α := if kd h a = c then f (sI h a k v) else none
def pR {α : Type} (h : KH) (a c k : Nat) (v : Option Nat) (f : KH → KO α) : KO α := if kd h a = c then f (sR h a k v) else none
def gAI {α : Type} (h : KH) (a c : Nat) (i : Int32) (f : Int32 → KO α) : KO α := if kd h a = c ∧ ¬ (i < 0 ∨ kn h a ≤ i.toNatClampNeg) then f (kI h a i.toNatClampNeg) else none
def gAL {α : Type} (h : KH) (a c : Nat) (i : Int32) (f : Int64 → KO α) : KO α := if kd h a = c ∧ ¬ (i < 0 ∨ kn h a ≤ i.toNatClampNeg) then f (kL h a i.toNatClampNeg) else none
def gAN {α : Type} (h : KH) (a c : Nat) (i : Int32) (f : Nat → KO α) : KO α := if kd h a = c ∧ ¬ (i < 0 ∨ kn h a ≤ i.toNatClampNeg) then kmay (kR h a i.toNatClampNeg) f else none
def pAI {α : Type} (h : KH) (a c : Nat) (i : Int32) (v : Int32) (f : KH → KO α) : KO α := if kd h a = c ∧ ¬ (i < 0 ∨ kn h a ≤ i.toNatClampNeg) then f (sI h a i.toNatClampNeg v) else none
def pAZ {α : Type} (h : KH) (a c : Nat) (i : Int32) (v : Int32) (f : KH → KO α) : KO α := if kd h a = c ∧ ¬ (i < 0 ∨ kn h a ≤ i.toNatClampNeg) ∧ (v = 0 ∨ v = 1) then f (sI h a i.toNatClampNeg v) else none
def pAL {α : Type} (h : KH) (a c : Nat) (i : Int32) (v : Int64) (f : KH → KO α) : KO α := if kd h a = c ∧ ¬ (i < 0 ∨ kn h a ≤ i.toNatClampNeg) then f (sL h a i.toNatClampNeg v) else none
def pAN {α : Type} (h : KH) (a c cv : Nat) (i : Int32) (v : Nat) (f : KH → KO α) : KO α := if kd h a = c ∧ ¬ (i < 0 ∨ kn h a ≤ i.toNatClampNeg) ∧ kd h v = cv then f (sR h a i.toNatClampNeg (some v)) else none
def nw {α : Type} (h : KH) (c n : Nat) (f : Nat → KH → KO α) : KO α := if kd h (kx h) = 0 then f (kx h) (al h c n) else none
def kretZ (v : Int32) (h : KH) : KO Int32 := if v = 0 ∨ v = 1 then some (.inr v, h) else none
def kretC (v : Int32) (h : KH) : KO Int32 := if (v.toUInt32 % 65536).toInt32 = v then some (.inr v, h) else none
/-- a division by what isn't 0 -/
def kdv {α : Type} (y : Int32) (f : KO α) : KO α := if y = 0 then none else f
/-! plain facts -/
theorem kd_mk (d n i l r x) : kd (kmk d n i l r x) = d := rfl
theorem kn_mk (d n i l r x) : kn (kmk d n i l r x) = n := rfl
theorem kI_mk (d n i l r x) : kI (kmk d n i l r x) = i := rfl
theorem kL_mk (d n i l r x) : kL (kmk d n i l r x) = l := rfl
theorem kR_mk (d n i l r x) : kR (kmk d n i l r x) = r := rfl
theorem kx_mk (d n i l r x) : kx (kmk d n i l r x) = x := rfl
theorem kd_sI (h : KH) (a k v) : kd (sI h a k v) = kd h := rfl
theorem kn_sI (h : KH) (a k v) : kn (sI h a k v) = kn h := rfl
theorem kL_sI (h : KH) (a k v) : kL (sI h a k v) = kL h := rfl
theorem kR_sI (h : KH) (a k v) : kR (sI h a k v) = kR h := rfl
theorem kx_sI (h : KH) (a k v) : kx (sI h a k v) = kx h := rfl
theorem kI_sI (h : KH) (a k : Nat) (v : Int32) (b j : Nat) : kI (sI h a k v) b j = if b = a ∧ j = k then v else kI h b j := rfl
theorem kd_sL (h : KH) (a k v) : kd (sL h a k v) = kd h := rfl
theorem kn_sL (h : KH) (a k v) : kn (sL h a k v) = kn h := rfl
theorem kI_sL (h : KH) (a k v) : kI (sL h a k v) = kI h := rfl
theorem kR_sL (h : KH) (a k v) : kR (sL h a k v) = kR h := rfl
theorem kx_sL (h : KH) (a k v) : kx (sL h a k v) = kx h := rfl
theorem kL_sL (h : KH) (a k : Nat) (v : Int64) (b j : Nat) : kL (sL h a k v) b j = if b = a ∧ j = k then v else kL h b j := rfl
theorem kd_sR (h : KH) (a k v) : kd (sR h a k v) = kd h := rfl
theorem kn_sR (h : KH) (a k v) : kn (sR h a k v) = kn h := rfl
theorem kI_sR (h : KH) (a k v) : kI (sR h a k v) = kI h := rfl
theorem kL_sR (h : KH) (a k v) : kL (sR h a k v) = kL h := rfl
theorem kx_sR (h : KH) (a k v) : kx (sR h a k v) = kx h := rfl
theorem kR_sR (h : KH) (a k : Nat) (v : Option Nat) (b j : Nat) : kR (sR h a k v) b j = if b = a ∧ j = k then v else kR h b j := rfl
theorem kd_sX (h : KH) (x) : kd (sX h x) = kd h := rfl
theorem kn_sX (h : KH) (x) : kn (sX h x) = kn h := rfl
theorem kI_sX (h : KH) (x) : kI (sX h x) = kI h := rfl
theorem kL_sX (h : KH) (x) : kL (sX h x) = kL h := rfl
theorem kR_sX (h : KH) (x) : kR (sX h x) = kR h := rfl
theorem kx_sX (h : KH) (x) : kx (sX h x) = x := rfl
theorem kd_al (h : KH) (c n b : Nat) : kd (al h c n) b = if b = kx h then c else kd h b := rfl
theorem kn_al (h : KH) (c n b : Nat) : kn (al h c n) b = if b = kx h then n else kn h b := rfl
theorem kI_al (h : KH) (c n b j : Nat) : kI (al h c n) b j = if b = kx h then 0 else kI h b j := rfl
theorem kL_al (h : KH) (c n b j : Nat) : kL (al h c n) b j = if b = kx h then 0 else kL h b j := rfl
theorem kR_al (h : KH) (c n b j : Nat) : kR (al h c n) b j = if b = kx h then none else kR h b j := rfl
theorem kx_al (h : KH) (c n : Nat) : kx (al h c n) = kx h + 1 := rfl
theorem kbind_ret {α β : Type} (v : α) (h : KH) (k : α → KH → KO β) : kbind (kret v h) k = k v h := rfl
theorem kbind_throw {α β : Type} (e : Nat) (h : KH) (k : α → KH → KO β) : kbind (kthrow e h) k = kthrow e h := rfl
theorem kbind_none {α β : Type} (k : α → KH → KO β) : kbind none k = none := rfl
theorem kmay_some {α β : Type} (a : α) (k : α → KO β) : kmay (some a) k = k a := rfl
theorem knul_some {α β : Type} (a : α) (x : KO β) (k : α → KO β) : knul (some a) x k = k a := rfl
theorem knul_none {α β : Type} (x : KO β) (k : α → KO β) : knul none x k = x := rfl
def kbinI {α β : Type} (x : KO α) (k : α → KH → KO β) : KO β := match x with
  | some (.inr v, h) => k v h
  | _ => none
def kcallV {α β : Type} (c b : Nat) (h : KH) (x : KO α) (k : α → KH → KO β) : KO β := if kd h b = c then kbind x k else none
def alM (h : KH) (n k : Nat) : KH := kmk (fun b => if b = kx h then 24 else if kx h < b ∧ b ≤ kx h + n then 21 else kd h b) (fun b => if b = kx h then n else if kx h < b ∧ b ≤ kx h + n then k else kn h b) (fun b j => if kx h ≤ b ∧ b ≤ kx h + n then 0 else kI h b j) (fun b j => if kx h ≤ b ∧ b ≤ kx h + n then 0 else kL h b j)
  (fun b j => if b = kx h then (if j < n then some (kx h + 1 + j) else none) else if kx h < b ∧ b ≤ kx h + n then none else kR h b j) (kx h + 1 + n)
def nwM {α : Type} (h : KH) (n k : Nat) (f : Nat → KH → KO α) : KO α := if (List.range (1 + n)).all (fun i => decide (kd h (kx h + i) = 0)) = true then f (kx h) (alM h n k) else none
def kE : KH := kmk (fun _ => 0) (fun _ => 0) (fun _ _ => 0) (fun _ _ => 0) (fun _ _ => none) 0
def PN (RR : Nat → KH → KH → Prop) (w m : KH → KO Int32) : Prop :=
  ∀ (j : Nat) (hx hm : KH), j < 512 → RR j hx hm → ∃ (bv : Int32) (hx1 hm1 : KH), w (sX hx 0) = some (.inr bv, hx1) ∧ m hm = some (.inr bv, hm1) ∧ RR (j + 1) hx1 hm1
