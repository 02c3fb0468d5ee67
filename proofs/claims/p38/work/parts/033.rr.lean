/-! what the two heaps have in common. The model's cells as numbers: -/
def mn (h : KH) (a k : Nat) : Nat := (kI h a k).toNatClampNeg
/-- a sign read, a sign due: what it costs -/
def sPart (m : Nat → Nat → Nat) (x y : Nat) : Option Nat := if x = y then some 0 else if x = 14 then some 2 else if m 5 (15 * x + y) = 0 then none else some 1
def sCst (m : Nat → Nat → Nat) (r p : Nat) : Nat → Option Nat
  | 0 => some 0
  | k + 1 => match sCst m r p k, sPart m (m 15 (6 * r + k)) (m 7 (6 * p + k)) with
    | some s, some t => some (s + t)
    | _, _ => none
def sCost (m : Nat → Nat → Nat) (r p : Nat) : Option Nat := if m 14 r = m 6 p then sCst m r p (m 14 r) else none
/-- a plate's text, from its end -/
def sTl (m : Nat → Nat → Nat) (p : Nat) : List Nat := (List.range (m 6 p)).map (fun k => m 7 (6 * p + (m 6 p - 1 - k)))
def sBest (m : Nat → Nat → Nat) (r : Nat) : Nat → Option Nat
  | 0 => none
  | k + 1 => match sCost m r k with
    | none => sBest m r k
    | some c => match sBest m r k with
      | none => some k
      | some b => if c < (sCost m r b).getD 0 ∨ (c = (sCost m r b).getD 0 ∧ sTl m k < sTl m b) then some k else some b
/-- the plate that a reading goes to -/
def sPF (h : KH) (r : Nat) : Option Nat := if mn h 16 r = 0 then sBest (mn h) r (mn h 0 8) else if kI h 17 r = -1 then none else some (mn h 17 r)
def sBef (m : Nat → Nat → Nat) (r s : Nat) : Prop := m 13 r < m 13 s ∨ m 13 r = m 13 s ∧ r < s
def sRow (h : KH) (p : Nat) (l : List Nat) : Prop := (∀ r, r ∈ l ↔ r < mn h 0 16 ∧ sPF h r = some p) ∧ l.Pairwise (sBef (mn h))
/-- two passings, one behind the other: another trip begins -/
def sBeg (h : KH) (r s : Nat) : Bool := decide (kI h 2 (8 * mn h 12 r + mn h 12 s) = -1) || decide (2 * mn h 2 (8 * mn h 12 r + mn h 12 s) + mn h 0 1 < mn h 13 s - mn h 13 r) || decide (4 * (mn h 13 s - mn h 13 r) < mn h 2 (8 * mn h 12 r + mn h 12 s))
def sBegAt (h : KH) (l : List Nat) (k : Nat) : Bool := match k with
  | 0 => true
  | i + 1 => sBeg h (l.getD i 0) (l.getD (i + 1) 0)
/-- who holds a plate at a minute: the model's, the class's -/
def sHold (h : KH) (p m : Nat) : Nat → Int32
  | 0 => -1
  | k + 1 => if mn h 9 k = p ∧ mn h 11 k ≤ m then kI h 10 k else sHold h p m k
def xDrv (h : KH) (m : Nat) : Nat → Option Nat → Int32
  | 0, _ => -1
  | _ + 1, none => -1
  | n + 1, some a => if mn h a 1 ≤ m then kI h a 0 else xDrv h m n (kR h a 2)
def xChn (h : KH) : Nat → Option Nat → Prop
  | 0, o => o = none
  | _ + 1, none => True
  | n + 1, some a => kd h a = 2 ∧ (a % 8 = 7 ∧ 100 ≤ a ∧ a < 180 ∨ 1000 ≤ a ∧ a < 2000) ∧ (∃ s, s ≤ 50000 ∧ kI h a 1 = nI s) ∧ (∃ d, d < 6 ∧ kI h a 0 = nI d) ∧ xChn h n (kR h a 2)
/-! the two states side by side, part by part -/
def cMin (hx hm : KH) : Prop := ∃ n, n ≤ 50000 ∧ kI hx 0 12 = nI n ∧ kI hm 0 0 = nI n
def cPau (hx hm : KH) : Prop := ∃ n, n ≤ 500 ∧ kI hx 1 3 = nI n ∧ kI hm 0 1 = nI n
def cLen (hx hm : KH) : Prop := ∀ i j, i < 8 → j < 8 → ∃ n, n ≤ 200 ∧ kI hx (3 + i) j = nI n ∧ kI hm 1 (8 * i + j) = nI n ∧ kI hm 1 (8 * j + i) = nI n ∧ (i = j → n = 0)
def cDis (hx hm : KH) : Prop := ∀ i j, i < 8 → j < 8 → kI hx (12 + i) j = kI hm 2 (8 * i + j) ∧ (kI hm 2 (8 * i + j) = -1 ∨ ∃ n, n ≤ 51200 ∧ kI hm 2 (8 * i + j) = nI n)
def cRat (hx hm : KH) : Prop := ∀ k, k < 4 → ∃ n, n ≤ 50 ∧ kI hx 21 k = nI n ∧ kI hm 3 k = nI n
def cTxt (hx hm : KH) : Prop := ∃ n, n ≤ 6 ∧ kI hx 22 1 = nI n ∧ kI hm 0 5 = nI n ∧ ∀ k, k < n → ∃ v, v < 15 ∧ kI hx 23 k = nI v ∧ kI hm 4 k = nI v
def cAli (hx hm : KH) : Prop := (∀ a, a < 15 → ∃ M, M < 32768 ∧ kI hx 25 a = nI M ∧ ∀ b, b < 15 → kI hm 5 (15 * a + b) = if M.testBit b then 1 else 0) ∧ ∀ a b, a < 15 → b < 15 → kI hm 5 (15 * a + b) = kI hm 5 (15 * b + a)
def cPl1 (hx hm : KH) (p : Nat) : Prop :=
  (kd hx (100 + 8 * p) = 5 ∧ kd hx (101 + 8 * p) = 8 ∧ kd hx (102 + 8 * p) = 21 ∧ kn hx (102 + 8 * p) = 6 ∧ kd hx (104 + 8 * p) = 4 ∧ kd hx (105 + 8 * p) = 26 ∧ kn hx (105 + 8 * p) = 60 ∧ kd hx (106 + 8 * p) = 23 ∧ kn hx (106 + 8 * p) = 60) ∧
  (kR hx 26 p = some (100 + 8 * p) ∧ kR hx (100 + 8 * p) 1 = some (101 + 8 * p) ∧ kR hx (101 + 8 * p) 0 = some (102 + 8 * p) ∧ kR hx (100 + 8 * p) 3 = some (104 + 8 * p) ∧ kR hx (104 + 8 * p) 0 = some (105 + 8 * p) ∧ kR hx (104 + 8 * p) 1 = some (106 + 8 * p)) ∧
  kI hx (100 + 8 * p) 0 = nI p ∧ (∃ n, 1 ≤ n ∧ n ≤ 6 ∧ kI hx (101 + 8 * p) 1 = nI n ∧ kI hm 6 p = nI n ∧ ∀ k, k < n → ∃ v, v < 14 ∧ kI hx (102 + 8 * p) k = nI v ∧ kI hm 7 (6 * p + k) = nI v) ∧ ∃ c, c < 4 ∧ kI hx (100 + 8 * p) 2 = nI c ∧ kI hm 8 p = nI c
def cPla (hx hm : KH) : Prop := (∃ P, P ≤ 10 ∧ kI hx 0 13 = nI P ∧ kI hm 0 8 = nI P) ∧ (∀ p, p < mn hm 0 8 → cPl1 hx hm p) ∧ ∀ p q, p < q → q < mn hm 0 8 → sTl (mn hm) p ≠ sTl (mn hm) q
def cOrd (hx hm : KH) : Prop := ∃ o : List Nat, o.length = mn hm 0 8 ∧ (∀ p, p ∈ o ↔ p < mn hm 0 8) ∧ o.Pairwise (fun p q => sTl (mn hm) p < sTl (mn hm) q) ∧ ∀ k, k < o.length → kR hx 27 k = some (100 + 8 * o.getD k 0)
def cHol (j : Nat) (hx hm : KH) : Prop := ∃ n, n ≤ j ∧ kI hm 0 12 = nI n ∧ (∀ k, k < n → (∃ p, p < mn hm 0 8 ∧ kI hm 9 k = nI p) ∧ (∃ d, d < 6 ∧ kI hm 10 k = nI d) ∧ ∃ s, s ≤ mn hm 0 0 ∧ kI hm 11 k = nI s) ∧
  ∀ p, p < mn hm 0 8 → (∃ a, kR hx (100 + 8 * p) 4 = some a) ∧ xChn hx (j + 1) (kR hx (100 + 8 * p) 4) ∧ ∀ m, xDrv hx m (j + 1) (kR hx (100 + 8 * p) 4) = sHold hm p m n
def cRe1 (hx hm : KH) (r : Nat) : Prop :=
  (kd hx (200 + 4 * r) = 6 ∧ kd hx (201 + 4 * r) = 8 ∧ kd hx (202 + 4 * r) = 21 ∧ kn hx (202 + 4 * r) = 6) ∧ (kR hx 28 r = some (200 + 4 * r) ∧ kR hx (200 + 4 * r) 3 = some (201 + 4 * r) ∧ kR hx (201 + 4 * r) 0 = some (202 + 4 * r)) ∧
  kI hx (200 + 4 * r) 0 = nI r ∧ (∃ g, g < 8 ∧ kI hx (200 + 4 * r) 1 = nI g ∧ kI hm 12 r = nI g) ∧ (∃ m, m ≤ 50000 ∧ kI hx (200 + 4 * r) 2 = nI m ∧ kI hm 13 r = nI m) ∧
  (∃ n, 1 ≤ n ∧ n ≤ 6 ∧ kI hx (201 + 4 * r) 1 = nI n ∧ kI hm 14 r = nI n ∧ ∀ k, k < n → ∃ v, v < 15 ∧ kI hx (202 + 4 * r) k = nI v ∧ kI hm 15 (6 * r + k) = nI v) ∧
  (kI hx (200 + 4 * r) 4 = 0 ∧ kI hm 16 r = 0 ∨ kI hx (200 + 4 * r) 4 = 1 ∧ kI hm 16 r = 1 ∧ (kI hm 17 r = -1 ∨ ∃ q, q < mn hm 0 8 ∧ kI hm 17 r = nI q)) ∧ kR hx (200 + 4 * r) 5 = (sPF hm r).map (fun p => 100 + 8 * p)
def cZer (hm : KH) : Prop := ∀ r, mn hm 0 16 ≤ r → r < 60 → kI hm 16 r = 0
def cRea (hx hm : KH) : Prop := (∃ R, R ≤ 60 ∧ kI hx 0 14 = nI R ∧ kI hm 0 16 = nI R) ∧ (∀ r, r < mn hm 0 16 → cRe1 hx hm r) ∧ cZer hm
def cPas (hx hm : KH) : Prop := ∀ p, p < mn hm 0 8 → ∃ l, sRow hm p l ∧ kI hx (104 + 8 * p) 2 = nI l.length ∧ ∀ k, k < l.length → kR hx (105 + 8 * p) k = some (200 + 4 * l.getD k 0) ∧ kI hx (106 + 8 * p) k = if sBegAt hm l k then 1 else 0
def cBil (hx hm : KH) : Prop := (∀ d, d < 6 → kL hx 31 d = kL hm 20 d ∧ kL hx 32 d = kL hm 21 d) ∧ ∀ k, k < 60 → kI hx 35 k = 0 ∨ kI hx 35 k = 1
def cWa1 (hx hm : KH) (w : Nat) : Prop := kd hx (500 + w) = 9 ∧ kR hx 29 w = some (500 + w) ∧ kI hx (500 + w) 0 = nI w ∧ (∃ p, p < mn hm 0 8 ∧ kI hm 22 w = nI p ∧ kR hx (500 + w) 1 = some (104 + 8 * p)) ∧ ∃ f t, f ≤ t ∧ t ≤ 34 ∧ kI hx (500 + w) 2 = nI f ∧ kI hm 23 w = nI f ∧ kI hx (500 + w) 3 = nI t ∧ kI hm 24 w = nI t
def cWar (hx hm : KH) : Prop := (∃ W, W ≤ 8 ∧ kI hx 0 15 = nI W ∧ kI hm 0 27 = nI W) ∧ ∀ w, w < mn hm 0 27 → cWa1 hx hm w
def cAn1 (hx hm : KH) (n : Nat) : Prop := kd hx (600 + n) = 1 ∧ kR hx 30 n = some (600 + n) ∧ (∃ w, w < mn hm 0 27 ∧ kI hx (600 + n) 0 = nI w ∧ kI hm 25 n = nI w) ∧ kI hx (600 + n) 1 = kI hm 26 n ∧ ∃ g m, g < 8 ∧ m ≤ 50000 ∧ kI hx (600 + n) 2 = nI g ∧ kI hx (600 + n) 3 = nI m ∧ kI hm 27 n = nI (100000 * g + m)
def cAns (hx hm : KH) : Prop := (∃ N, N ≤ 40 ∧ kI hx 0 16 = nI N ∧ kI hm 0 31 = nI N) ∧ ∀ n, n < mn hm 0 31 → cAn1 hx hm n
/-- what isn't made yet is free -/
def cFre (j : Nat) (hx hm : KH) : Prop := ∀ a, (100 + 8 * mn hm 0 8 ≤ a ∧ a < 180) ∨ (200 + 4 * mn hm 0 16 ≤ a ∧ a < 440) ∨ (500 + mn hm 0 27 ≤ a ∧ a < 508) ∨ (600 + mn hm 0 31 ≤ a ∧ a < 640) ∨ 1000 + j ≤ a → kd hx a = 0
def RR (j : Nat) (hx hm : KH) : Prop := (kSx hx ∧ kSm hm) ∧ cMin hx hm ∧ cPau hx hm ∧ cLen hx hm ∧ cDis hx hm ∧ cRat hx hm ∧ cTxt hx hm ∧ cAli hx hm ∧ cPla hx hm ∧ cOrd hx hm ∧ cHol j hx hm ∧ cRea hx hm ∧ cPas hx hm ∧ cBil hx hm ∧ cWar hx hm ∧ cAns hx hm ∧ cFre j hx hm
