/-! what the law's functions want beside the class's: an array's length, a call under a table, the keeper's start, forgetting -/
def gLen {α : Type} (h : KH) (a c : Nat) (f : Int32 → KO α) : KO α := if kd h a = c then f (Int32.ofNat (kn h a)) else none
def kcatchV {α β : Type} (c b : Nat) (h : KH) (x : KO α) (hand : Nat → KH → KO β) (k : α → KH → KO β) : KO β := if kd h b = c then kcatch x hand k else none
/-- the script's cell out of g, all else out of x -/
def kglue (g x : KH) : KH := kmk (fun a => if a = 41 then kd g 41 else kd x a) (fun a => if a = 41 then kn g 41 else kn x a) (fun a k => if a = 41 then kI g 41 k else kI x a k) (fun a k => if a = 41 then kL g 41 k else kL x a k) (fun a k => if a = 41 then kR g 41 k else kR x a k) (kx x)
/-- an object is made at 0 by a constructor that sees its own cell alone -/
def kinitG {α : Type} (h : KH) (w : KO Unit) (f : KH → KO α) : KO α := match w with
  | some (.inr _, x0) => if kd x0 41 = 0 ∧ kd h 0 = 0 then f (kglue h x0) else none
  | _ => none
/-- all but the script's cell is forgotten -/
def kcut (h : KH) : KH := kmk (fun a => if a = 41 then kd h 41 else 0) (kn h) (kI h) (kL h) (fun _ _ => none) 0
