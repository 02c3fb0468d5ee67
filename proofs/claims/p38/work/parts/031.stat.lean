/-! what never changes: of the model's heap, of the class's -/
def mDl : List Nat := [11, 21, 21, 21, 21, 23, 21, 21, 21, 21, 21, 21, 21, 21, 21, 21, 23, 21, 21, 21, 22, 22, 21, 21, 21, 21, 21, 21]
def mNl : List Nat := [0, 64, 64, 4, 6, 225, 10, 60, 10, 700, 700, 700, 60, 60, 60, 360, 60, 60, 60, 60, 6, 6, 8, 8, 8, 40, 40, 40]
def mRl : List (Option Nat) := [none, none, some 1, some 2, some 3, none, some 4, some 5, none, some 6, some 7, some 8, none, some 9, some 10, some 11, none, some 12, some 13, some 14, some 15, some 16, some 17, some 18, some 19, some 20, some 21, none, some 22, some 23, some 24, none, some 25, some 26, some 27, none]
def kSm (h : KH) : Prop := (∀ a, a < 28 → kd h a = mDl.getD a 0 ∧ kn h a = mNl.getD a 0) ∧ ∀ k, k < 36 → mRl.getD k none ≠ none → kR h 0 k = mRl.getD k none
section KSM
variable {h : KH}
theorem kSm.d0 (S : kSm h) : kd h 0 = 11 := (S.1 0 (by decide)).1
theorem kSm.d1 (S : kSm h) : kd h 1 = 21 := (S.1 1 (by decide)).1
theorem kSm.n1 (S : kSm h) : kn h 1 = 64 := (S.1 1 (by decide)).2
theorem kSm.d2 (S : kSm h) : kd h 2 = 21 := (S.1 2 (by decide)).1
theorem kSm.n2 (S : kSm h) : kn h 2 = 64 := (S.1 2 (by decide)).2
theorem kSm.d3 (S : kSm h) : kd h 3 = 21 := (S.1 3 (by decide)).1
theorem kSm.n3 (S : kSm h) : kn h 3 = 4 := (S.1 3 (by decide)).2
theorem kSm.d4 (S : kSm h) : kd h 4 = 21 := (S.1 4 (by decide)).1
theorem kSm.n4 (S : kSm h) : kn h 4 = 6 := (S.1 4 (by decide)).2
theorem kSm.d5 (S : kSm h) : kd h 5 = 23 := (S.1 5 (by decide)).1
theorem kSm.n5 (S : kSm h) : kn h 5 = 225 := (S.1 5 (by decide)).2
theorem kSm.d6 (S : kSm h) : kd h 6 = 21 := (S.1 6 (by decide)).1
theorem kSm.n6 (S : kSm h) : kn h 6 = 10 := (S.1 6 (by decide)).2
theorem kSm.d7 (S : kSm h) : kd h 7 = 21 := (S.1 7 (by decide)).1
theorem kSm.n7 (S : kSm h) : kn h 7 = 60 := (S.1 7 (by decide)).2
theorem kSm.d8 (S : kSm h) : kd h 8 = 21 := (S.1 8 (by decide)).1
theorem kSm.n8 (S : kSm h) : kn h 8 = 10 := (S.1 8 (by decide)).2
theorem kSm.d9 (S : kSm h) : kd h 9 = 21 := (S.1 9 (by decide)).1
theorem kSm.n9 (S : kSm h) : kn h 9 = 700 := (S.1 9 (by decide)).2
theorem kSm.d10 (S : kSm h) : kd h 10 = 21 := (S.1 10 (by decide)).1
theorem kSm.n10 (S : kSm h) : kn h 10 = 700 := (S.1 10 (by decide)).2
theorem kSm.d11 (S : kSm h) : kd h 11 = 21 := (S.1 11 (by decide)).1
theorem kSm.n11 (S : kSm h) : kn h 11 = 700 := (S.1 11 (by decide)).2
theorem kSm.d12 (S : kSm h) : kd h 12 = 21 := (S.1 12 (by decide)).1
theorem kSm.n12 (S : kSm h) : kn h 12 = 60 := (S.1 12 (by decide)).2
theorem kSm.d13 (S : kSm h) : kd h 13 = 21 := (S.1 13 (by decide)).1
theorem kSm.n13 (S : kSm h) : kn h 13 = 60 := (S.1 13 (by decide)).2
theorem kSm.d14 (S : kSm h) : kd h 14 = 21 := (S.1 14 (by decide)).1
theorem kSm.n14 (S : kSm h) : kn h 14 = 60 := (S.1 14 (by decide)).2
theorem kSm.d15 (S : kSm h) : kd h 15 = 21 := (S.1 15 (by decide)).1
theorem kSm.n15 (S : kSm h) : kn h 15 = 360 := (S.1 15 (by decide)).2
theorem kSm.d16 (S : kSm h) : kd h 16 = 23 := (S.1 16 (by decide)).1
theorem kSm.n16 (S : kSm h) : kn h 16 = 60 := (S.1 16 (by decide)).2
theorem kSm.d17 (S : kSm h) : kd h 17 = 21 := (S.1 17 (by decide)).1
theorem kSm.n17 (S : kSm h) : kn h 17 = 60 := (S.1 17 (by decide)).2
theorem kSm.d18 (S : kSm h) : kd h 18 = 21 := (S.1 18 (by decide)).1
theorem kSm.n18 (S : kSm h) : kn h 18 = 60 := (S.1 18 (by decide)).2
theorem kSm.d19 (S : kSm h) : kd h 19 = 21 := (S.1 19 (by decide)).1
theorem kSm.n19 (S : kSm h) : kn h 19 = 60 := (S.1 19 (by decide)).2
theorem kSm.d20 (S : kSm h) : kd h 20 = 22 := (S.1 20 (by decide)).1
theorem kSm.n20 (S : kSm h) : kn h 20 = 6 := (S.1 20 (by decide)).2
theorem kSm.d21 (S : kSm h) : kd h 21 = 22 := (S.1 21 (by decide)).1
theorem kSm.n21 (S : kSm h) : kn h 21 = 6 := (S.1 21 (by decide)).2
theorem kSm.d22 (S : kSm h) : kd h 22 = 21 := (S.1 22 (by decide)).1
theorem kSm.n22 (S : kSm h) : kn h 22 = 8 := (S.1 22 (by decide)).2
theorem kSm.d23 (S : kSm h) : kd h 23 = 21 := (S.1 23 (by decide)).1
theorem kSm.n23 (S : kSm h) : kn h 23 = 8 := (S.1 23 (by decide)).2
theorem kSm.d24 (S : kSm h) : kd h 24 = 21 := (S.1 24 (by decide)).1
theorem kSm.n24 (S : kSm h) : kn h 24 = 8 := (S.1 24 (by decide)).2
theorem kSm.d25 (S : kSm h) : kd h 25 = 21 := (S.1 25 (by decide)).1
theorem kSm.n25 (S : kSm h) : kn h 25 = 40 := (S.1 25 (by decide)).2
theorem kSm.d26 (S : kSm h) : kd h 26 = 21 := (S.1 26 (by decide)).1
theorem kSm.n26 (S : kSm h) : kn h 26 = 40 := (S.1 26 (by decide)).2
theorem kSm.d27 (S : kSm h) : kd h 27 = 21 := (S.1 27 (by decide)).1
theorem kSm.n27 (S : kSm h) : kn h 27 = 40 := (S.1 27 (by decide)).2
theorem kSm.r2 (S : kSm h) : kR h 0 2 = some 1 := S.2 2 (by decide) (by decide)
theorem kSm.r3 (S : kSm h) : kR h 0 3 = some 2 := S.2 3 (by decide) (by decide)
theorem kSm.r4 (S : kSm h) : kR h 0 4 = some 3 := S.2 4 (by decide) (by decide)
theorem kSm.r6 (S : kSm h) : kR h 0 6 = some 4 := S.2 6 (by decide) (by decide)
theorem kSm.r7 (S : kSm h) : kR h 0 7 = some 5 := S.2 7 (by decide) (by decide)
theorem kSm.r9 (S : kSm h) : kR h 0 9 = some 6 := S.2 9 (by decide) (by decide)
theorem kSm.r10 (S : kSm h) : kR h 0 10 = some 7 := S.2 10 (by decide) (by decide)
theorem kSm.r11 (S : kSm h) : kR h 0 11 = some 8 := S.2 11 (by decide) (by decide)
theorem kSm.r13 (S : kSm h) : kR h 0 13 = some 9 := S.2 13 (by decide) (by decide)
theorem kSm.r14 (S : kSm h) : kR h 0 14 = some 10 := S.2 14 (by decide) (by decide)
theorem kSm.r15 (S : kSm h) : kR h 0 15 = some 11 := S.2 15 (by decide) (by decide)
theorem kSm.r17 (S : kSm h) : kR h 0 17 = some 12 := S.2 17 (by decide) (by decide)
theorem kSm.r18 (S : kSm h) : kR h 0 18 = some 13 := S.2 18 (by decide) (by decide)
theorem kSm.r19 (S : kSm h) : kR h 0 19 = some 14 := S.2 19 (by decide) (by decide)
theorem kSm.r20 (S : kSm h) : kR h 0 20 = some 15 := S.2 20 (by decide) (by decide)
theorem kSm.r21 (S : kSm h) : kR h 0 21 = some 16 := S.2 21 (by decide) (by decide)
theorem kSm.r22 (S : kSm h) : kR h 0 22 = some 17 := S.2 22 (by decide) (by decide)
theorem kSm.r23 (S : kSm h) : kR h 0 23 = some 18 := S.2 23 (by decide) (by decide)
theorem kSm.r24 (S : kSm h) : kR h 0 24 = some 19 := S.2 24 (by decide) (by decide)
theorem kSm.r25 (S : kSm h) : kR h 0 25 = some 20 := S.2 25 (by decide) (by decide)
theorem kSm.r26 (S : kSm h) : kR h 0 26 = some 21 := S.2 26 (by decide) (by decide)
theorem kSm.r28 (S : kSm h) : kR h 0 28 = some 22 := S.2 28 (by decide) (by decide)
theorem kSm.r29 (S : kSm h) : kR h 0 29 = some 23 := S.2 29 (by decide) (by decide)
theorem kSm.r30 (S : kSm h) : kR h 0 30 = some 24 := S.2 30 (by decide) (by decide)
theorem kSm.r32 (S : kSm h) : kR h 0 32 = some 25 := S.2 32 (by decide) (by decide)
theorem kSm.r33 (S : kSm h) : kR h 0 33 = some 26 := S.2 33 (by decide) (by decide)
theorem kSm.r34 (S : kSm h) : kR h 0 34 = some 27 := S.2 34 (by decide) (by decide)
end KSM
def xDl : List Nat := [10, 7, 24, 21, 21, 21, 21, 21, 21, 21, 21, 24, 21, 21, 21, 21, 21, 21, 21, 21, 23, 21, 8, 21, 3, 21, 25, 25, 26, 27, 28, 22, 22, 4, 26, 23, 22]
def xNl : List Nat := [0, 0, 8, 8, 8, 8, 8, 8, 8, 8, 8, 8, 8, 8, 8, 8, 8, 8, 8, 8, 8, 4, 0, 6, 0, 15, 10, 10, 60, 8, 40, 6, 6, 0, 60, 60, 1]
def xR0l : List (Option Nat) := [some 1, some 21, some 22, some 24, some 26, some 27, some 28, some 29, some 30, some 31, some 32, some 33]
def xR1l : List (Option Nat) := [some 2, some 11, some 20]
def xR2l : List (Option Nat) := [some 3, some 4, some 5, some 6, some 7, some 8, some 9, some 10]
def xR11l : List (Option Nat) := [some 12, some 13, some 14, some 15, some 16, some 17, some 18, some 19]
def xR22l : List (Option Nat) := [some 23]
def xR24l : List (Option Nat) := [some 25]
def xR33l : List (Option Nat) := [some 34, some 35]
def kSx (h : KH) : Prop := (∀ a, a < 36 → kd h a = xDl.getD a 0 ∧ kn h a = xNl.getD a 0) ∧ (∀ k, k < 12 → kR h 0 k = xR0l.getD k none) ∧ (∀ k, k < 3 → kR h 1 k = xR1l.getD k none) ∧ (∀ k, k < 8 → kR h 2 k = xR2l.getD k none) ∧ (∀ k, k < 8 → kR h 11 k = xR11l.getD k none) ∧ (∀ k, k < 1 → kR h 22 k = xR22l.getD k none) ∧ (∀ k, k < 1 → kR h 24 k = xR24l.getD k none) ∧ (∀ k, k < 2 → kR h 33 k = xR33l.getD k none)
section KSX
variable {h : KH}
theorem kSx.d0 (S : kSx h) : kd h 0 = 10 := (S.1 0 (by decide)).1
theorem kSx.d1 (S : kSx h) : kd h 1 = 7 := (S.1 1 (by decide)).1
theorem kSx.d2 (S : kSx h) : kd h 2 = 24 := (S.1 2 (by decide)).1
theorem kSx.n2 (S : kSx h) : kn h 2 = 8 := (S.1 2 (by decide)).2
theorem kSx.d3 (S : kSx h) : kd h 3 = 21 := (S.1 3 (by decide)).1
theorem kSx.n3 (S : kSx h) : kn h 3 = 8 := (S.1 3 (by decide)).2
theorem kSx.d4 (S : kSx h) : kd h 4 = 21 := (S.1 4 (by decide)).1
theorem kSx.n4 (S : kSx h) : kn h 4 = 8 := (S.1 4 (by decide)).2
theorem kSx.d5 (S : kSx h) : kd h 5 = 21 := (S.1 5 (by decide)).1
theorem kSx.n5 (S : kSx h) : kn h 5 = 8 := (S.1 5 (by decide)).2
theorem kSx.d6 (S : kSx h) : kd h 6 = 21 := (S.1 6 (by decide)).1
theorem kSx.n6 (S : kSx h) : kn h 6 = 8 := (S.1 6 (by decide)).2
theorem kSx.d7 (S : kSx h) : kd h 7 = 21 := (S.1 7 (by decide)).1
theorem kSx.n7 (S : kSx h) : kn h 7 = 8 := (S.1 7 (by decide)).2
theorem kSx.d8 (S : kSx h) : kd h 8 = 21 := (S.1 8 (by decide)).1
theorem kSx.n8 (S : kSx h) : kn h 8 = 8 := (S.1 8 (by decide)).2
theorem kSx.d9 (S : kSx h) : kd h 9 = 21 := (S.1 9 (by decide)).1
theorem kSx.n9 (S : kSx h) : kn h 9 = 8 := (S.1 9 (by decide)).2
theorem kSx.d10 (S : kSx h) : kd h 10 = 21 := (S.1 10 (by decide)).1
theorem kSx.n10 (S : kSx h) : kn h 10 = 8 := (S.1 10 (by decide)).2
theorem kSx.d11 (S : kSx h) : kd h 11 = 24 := (S.1 11 (by decide)).1
theorem kSx.n11 (S : kSx h) : kn h 11 = 8 := (S.1 11 (by decide)).2
theorem kSx.d12 (S : kSx h) : kd h 12 = 21 := (S.1 12 (by decide)).1
theorem kSx.n12 (S : kSx h) : kn h 12 = 8 := (S.1 12 (by decide)).2
theorem kSx.d13 (S : kSx h) : kd h 13 = 21 := (S.1 13 (by decide)).1
theorem kSx.n13 (S : kSx h) : kn h 13 = 8 := (S.1 13 (by decide)).2
theorem kSx.d14 (S : kSx h) : kd h 14 = 21 := (S.1 14 (by decide)).1
theorem kSx.n14 (S : kSx h) : kn h 14 = 8 := (S.1 14 (by decide)).2
theorem kSx.d15 (S : kSx h) : kd h 15 = 21 := (S.1 15 (by decide)).1
theorem kSx.n15 (S : kSx h) : kn h 15 = 8 := (S.1 15 (by decide)).2
theorem kSx.d16 (S : kSx h) : kd h 16 = 21 := (S.1 16 (by decide)).1
theorem kSx.n16 (S : kSx h) : kn h 16 = 8 := (S.1 16 (by decide)).2
theorem kSx.d17 (S : kSx h) : kd h 17 = 21 := (S.1 17 (by decide)).1
theorem kSx.n17 (S : kSx h) : kn h 17 = 8 := (S.1 17 (by decide)).2
theorem kSx.d18 (S : kSx h) : kd h 18 = 21 := (S.1 18 (by decide)).1
theorem kSx.n18 (S : kSx h) : kn h 18 = 8 := (S.1 18 (by decide)).2
theorem kSx.d19 (S : kSx h) : kd h 19 = 21 := (S.1 19 (by decide)).1
theorem kSx.n19 (S : kSx h) : kn h 19 = 8 := (S.1 19 (by decide)).2
theorem kSx.d20 (S : kSx h) : kd h 20 = 23 := (S.1 20 (by decide)).1
theorem kSx.n20 (S : kSx h) : kn h 20 = 8 := (S.1 20 (by decide)).2
theorem kSx.d21 (S : kSx h) : kd h 21 = 21 := (S.1 21 (by decide)).1
theorem kSx.n21 (S : kSx h) : kn h 21 = 4 := (S.1 21 (by decide)).2
theorem kSx.d22 (S : kSx h) : kd h 22 = 8 := (S.1 22 (by decide)).1
theorem kSx.d23 (S : kSx h) : kd h 23 = 21 := (S.1 23 (by decide)).1
theorem kSx.n23 (S : kSx h) : kn h 23 = 6 := (S.1 23 (by decide)).2
theorem kSx.d24 (S : kSx h) : kd h 24 = 3 := (S.1 24 (by decide)).1
theorem kSx.d25 (S : kSx h) : kd h 25 = 21 := (S.1 25 (by decide)).1
theorem kSx.n25 (S : kSx h) : kn h 25 = 15 := (S.1 25 (by decide)).2
theorem kSx.d26 (S : kSx h) : kd h 26 = 25 := (S.1 26 (by decide)).1
theorem kSx.n26 (S : kSx h) : kn h 26 = 10 := (S.1 26 (by decide)).2
theorem kSx.d27 (S : kSx h) : kd h 27 = 25 := (S.1 27 (by decide)).1
theorem kSx.n27 (S : kSx h) : kn h 27 = 10 := (S.1 27 (by decide)).2
theorem kSx.d28 (S : kSx h) : kd h 28 = 26 := (S.1 28 (by decide)).1
theorem kSx.n28 (S : kSx h) : kn h 28 = 60 := (S.1 28 (by decide)).2
theorem kSx.d29 (S : kSx h) : kd h 29 = 27 := (S.1 29 (by decide)).1
theorem kSx.n29 (S : kSx h) : kn h 29 = 8 := (S.1 29 (by decide)).2
theorem kSx.d30 (S : kSx h) : kd h 30 = 28 := (S.1 30 (by decide)).1
theorem kSx.n30 (S : kSx h) : kn h 30 = 40 := (S.1 30 (by decide)).2
theorem kSx.d31 (S : kSx h) : kd h 31 = 22 := (S.1 31 (by decide)).1
theorem kSx.n31 (S : kSx h) : kn h 31 = 6 := (S.1 31 (by decide)).2
theorem kSx.d32 (S : kSx h) : kd h 32 = 22 := (S.1 32 (by decide)).1
theorem kSx.n32 (S : kSx h) : kn h 32 = 6 := (S.1 32 (by decide)).2
theorem kSx.d33 (S : kSx h) : kd h 33 = 4 := (S.1 33 (by decide)).1
theorem kSx.d34 (S : kSx h) : kd h 34 = 26 := (S.1 34 (by decide)).1
theorem kSx.n34 (S : kSx h) : kn h 34 = 60 := (S.1 34 (by decide)).2
theorem kSx.d35 (S : kSx h) : kd h 35 = 23 := (S.1 35 (by decide)).1
theorem kSx.n35 (S : kSx h) : kn h 35 = 60 := (S.1 35 (by decide)).2
theorem kSx.r0_0 (S : kSx h) : kR h 0 0 = some 1 := S.2.1 0 (by decide)
theorem kSx.r0_1 (S : kSx h) : kR h 0 1 = some 21 := S.2.1 1 (by decide)
theorem kSx.r0_2 (S : kSx h) : kR h 0 2 = some 22 := S.2.1 2 (by decide)
theorem kSx.r0_3 (S : kSx h) : kR h 0 3 = some 24 := S.2.1 3 (by decide)
theorem kSx.r0_4 (S : kSx h) : kR h 0 4 = some 26 := S.2.1 4 (by decide)
theorem kSx.r0_5 (S : kSx h) : kR h 0 5 = some 27 := S.2.1 5 (by decide)
theorem kSx.r0_6 (S : kSx h) : kR h 0 6 = some 28 := S.2.1 6 (by decide)
theorem kSx.r0_7 (S : kSx h) : kR h 0 7 = some 29 := S.2.1 7 (by decide)
theorem kSx.r0_8 (S : kSx h) : kR h 0 8 = some 30 := S.2.1 8 (by decide)
theorem kSx.r0_9 (S : kSx h) : kR h 0 9 = some 31 := S.2.1 9 (by decide)
theorem kSx.r0_10 (S : kSx h) : kR h 0 10 = some 32 := S.2.1 10 (by decide)
theorem kSx.r0_11 (S : kSx h) : kR h 0 11 = some 33 := S.2.1 11 (by decide)
theorem kSx.r1_0 (S : kSx h) : kR h 1 0 = some 2 := S.2.2.1 0 (by decide)
theorem kSx.r1_1 (S : kSx h) : kR h 1 1 = some 11 := S.2.2.1 1 (by decide)
theorem kSx.r1_2 (S : kSx h) : kR h 1 2 = some 20 := S.2.2.1 2 (by decide)
theorem kSx.r2_0 (S : kSx h) : kR h 2 0 = some 3 := S.2.2.2.1 0 (by decide)
theorem kSx.r2_1 (S : kSx h) : kR h 2 1 = some 4 := S.2.2.2.1 1 (by decide)
theorem kSx.r2_2 (S : kSx h) : kR h 2 2 = some 5 := S.2.2.2.1 2 (by decide)
theorem kSx.r2_3 (S : kSx h) : kR h 2 3 = some 6 := S.2.2.2.1 3 (by decide)
theorem kSx.r2_4 (S : kSx h) : kR h 2 4 = some 7 := S.2.2.2.1 4 (by decide)
theorem kSx.r2_5 (S : kSx h) : kR h 2 5 = some 8 := S.2.2.2.1 5 (by decide)
theorem kSx.r2_6 (S : kSx h) : kR h 2 6 = some 9 := S.2.2.2.1 6 (by decide)
theorem kSx.r2_7 (S : kSx h) : kR h 2 7 = some 10 := S.2.2.2.1 7 (by decide)
theorem kSx.r11_0 (S : kSx h) : kR h 11 0 = some 12 := S.2.2.2.2.1 0 (by decide)
theorem kSx.r11_1 (S : kSx h) : kR h 11 1 = some 13 := S.2.2.2.2.1 1 (by decide)
theorem kSx.r11_2 (S : kSx h) : kR h 11 2 = some 14 := S.2.2.2.2.1 2 (by decide)
theorem kSx.r11_3 (S : kSx h) : kR h 11 3 = some 15 := S.2.2.2.2.1 3 (by decide)
theorem kSx.r11_4 (S : kSx h) : kR h 11 4 = some 16 := S.2.2.2.2.1 4 (by decide)
theorem kSx.r11_5 (S : kSx h) : kR h 11 5 = some 17 := S.2.2.2.2.1 5 (by decide)
theorem kSx.r11_6 (S : kSx h) : kR h 11 6 = some 18 := S.2.2.2.2.1 6 (by decide)
theorem kSx.r11_7 (S : kSx h) : kR h 11 7 = some 19 := S.2.2.2.2.1 7 (by decide)
theorem kSx.r22_0 (S : kSx h) : kR h 22 0 = some 23 := S.2.2.2.2.2.1 0 (by decide)
theorem kSx.r24_0 (S : kSx h) : kR h 24 0 = some 25 := S.2.2.2.2.2.2.1 0 (by decide)
theorem kSx.r33_0 (S : kSx h) : kR h 33 0 = some 34 := S.2.2.2.2.2.2.2 0 (by decide)
theorem kSx.r33_1 (S : kSx h) : kR h 33 1 = some 35 := S.2.2.2.2.2.2.2 1 (by decide)
end KSX
/-- what runs when a step has run -/
theorem kb_ret {α β : Type} (v : α) (h : KH) (k : α → KH → KO β) : kbind (kret v h) k = k v h := rfl
theorem kb_thr {α β : Type} (e : Nat) (h : KH) (k : α → KH → KO β) : kbind (kthrow e h : KO α) k = kthrow e h := rfl
theorem ki_ret {α β : Type} (v : α) (h : KH) (k : α → KH → KO β) : kbinI (kret v h) k = k v h := rfl
