def X6_nearestOpen_b42 (rc4 : Nat → Nat → Int32 → Int32 → KH → KO Int32) (v0 : Nat) (v1 : Nat) (v2 : Int32) (v3 : Int32) (h : KH) : KO Int32 := rc4 v0 v1 v2 (v3 + 1) h
def X6_nearestOpen_b40 (rc4 : Nat → Nat → Int32 → Int32 → KH → KO Int32) (v0 : Nat) (v1 : Nat) (v3 : Int32) (h : KH) : KO Int32 := X6_nearestOpen_b42 rc4 v0 v1 v3 v3 h
def X6_nearestOpen_b4 (rc4 : Nat → Nat → Int32 → Int32 → KH → KO Int32) (v0 : Nat) (v1 : Nat) (v2 : Int32) (v3 : Int32) (h : KH) : KO Int32 := kif (8 ≤ v3) (kret v2 h) (gN h v0 7 2 (fun a1 => gAI h a1 23 v3 (fun x1 => kif (x1 = 0) (gAI h v1 21 v3 (fun x2 => kif (x2 = ((-1))) (X6_nearestOpen_b42 rc4 v0 v1 v2 v3 h) (kif (v2 = ((-1))) (X6_nearestOpen_b40 rc4 v0 v1 v3 h) (gAI h v1 21 v3 (fun x3 => gAI h v1 21 v2 (fun x4 => kif (x4 ≤ x3) (X6_nearestOpen_b42 rc4 v0 v1 v2 v3 h) (X6_nearestOpen_b40 rc4 v0 v1 v3 h))))))) (X6_nearestOpen_b42 rc4 v0 v1 v2 v3 h))))
def X6_nearestOpen_L4  : Nat → Nat → Nat → Int32 → Int32 → KH → KO Int32
  | 0, _, _, _, _, _ => none
  | n + 1, v0, v1, v2, v3, h => X6_nearestOpen_b4 (X6_nearestOpen_L4  n) v0 v1 v2 v3 h
def f_X6_nearestOpen (p0 : Nat) (p1 : Nat) (h : KH) : KO Int32 := X6_nearestOpen_L4  kF p0 p1 ((-1)) 0 h
def X6_goOnFrom_b51 (rc2 : Nat → Int32 → Nat → Int32 → KH → KO Unit) (v0 : Nat) (v1 : Int32) (v2 : Nat) (v3 : Int32) (h : KH) : KO Unit := rc2 v0 v1 v2 (v3 + 1) h
def X6_goOnFrom_b46 (rc2 : Nat → Int32 → Nat → Int32 → KH → KO Unit) (v0 : Nat) (v1 : Int32) (v2 : Nat) (v3 : Int32) (v5 : Int32) (h : KH) : KO Unit := pAI h v2 21 v3 v5 (fun h1 => X6_goOnFrom_b51 rc2 v0 v1 v2 v3 h1)
def X6_goOnFrom_b2 (rc2 : Nat → Int32 → Nat → Int32 → KH → KO Unit) (v0 : Nat) (v1 : Int32) (v2 : Nat) (v3 : Int32) (h : KH) : KO Unit := kif (8 ≤ v3) (kret () h) (gN h v0 7 0 (fun a1 => gAN h a1 24 v1 (fun a2 => gAI h a2 21 v3 (fun x1 => gAI h v2 21 v1 (fun x2 => kif (x1 = 0) (X6_goOnFrom_b51 rc2 v0 v1 v2 v3 h) (gAI h v2 21 v3 (fun x3 => kif (x3 = ((-1))) (X6_goOnFrom_b46 rc2 v0 v1 v2 v3 (x2 + x1) h) (gAI h v2 21 v3 (fun x4 => kif (x4 ≤ (x2 + x1)) (X6_goOnFrom_b51 rc2 v0 v1 v2 v3 h) (X6_goOnFrom_b46 rc2 v0 v1 v2 v3 (x2 + x1) h))))))))))
def X6_goOnFrom_L2  : Nat → Nat → Int32 → Nat → Int32 → KH → KO Unit
  | 0, _, _, _, _, _ => none
  | n + 1, v0, v1, v2, v3, h => X6_goOnFrom_b2 (X6_goOnFrom_L2  n) v0 v1 v2 v3 h
def f_X6_goOnFrom (p0 : Nat) (p1 : Int32) (p2 : Nat) (h : KH) : KO Unit := X6_goOnFrom_L2  kF p0 p1 p2 0 h
def X6_measureFrom_b38 (rc38 : Nat → Nat → Int32 → KH → KO Unit) (v0 : Nat) (v2 : Nat) (v3 : Int32) (h : KH) : KO Unit := kif (8 ≤ v3) (kret () h) (kcallV 7 v0 h (f_X6_nearestOpen v0 v2 h) (fun x1 h1 => kif (x1 = ((-1))) (kret () h1) (gN h1 v0 7 2 (fun a1 => pAZ h1 a1 23 x1 1 (fun h2 => kcallV 7 v0 h2 (f_X6_goOnFrom v0 x1 v2 h2) (fun _ h3 => rc38 v0 v2 (v3 + 1) h3))))))
def X6_measureFrom_L38  : Nat → Nat → Nat → Int32 → KH → KO Unit
  | 0, _, _, _, _ => none
  | n + 1, v0, v2, v3, h => X6_measureFrom_b38 (X6_measureFrom_L38  n) v0 v2 v3 h
def X6_measureFrom_b9 (rc9 : Nat → Int32 → Nat → Int32 → KH → KO Unit) (v0 : Nat) (v1 : Int32) (v2 : Nat) (v3 : Int32) (h : KH) : KO Unit := kif (8 ≤ v3) (pAI h v2 21 v1 0 (fun h1 => X6_measureFrom_L38  kF v0 v2 0 h1)) (pAI h v2 21 v3 ((-1)) (fun h2 => gN h2 v0 7 2 (fun a1 => pAZ h2 a1 23 v3 0 (fun h3 => rc9 v0 v1 v2 (v3 + 1) h3))))
def X6_measureFrom_L9  : Nat → Nat → Int32 → Nat → Int32 → KH → KO Unit
  | 0, _, _, _, _, _ => none
  | n + 1, v0, v1, v2, v3, h => X6_measureFrom_b9 (X6_measureFrom_L9  n) v0 v1 v2 v3 h
def f_X6_measureFrom (p0 : Nat) (p1 : Int32) (h : KH) : KO Unit := gN h p0 7 1 (fun a1 => gAN h a1 24 p1 (fun a2 => X6_measureFrom_L9  kF p0 p1 a2 0 h))
def X6_measureAll_b2 (rc2 : Nat → Int32 → KH → KO Unit) (v0 : Nat) (v1 : Int32) (h : KH) : KO Unit := kif (8 ≤ v1) (kret () h) (kcallV 7 v0 h (f_X6_measureFrom v0 v1 h) (fun _ h1 => rc2 v0 (v1 + 1) h1))
def X6_measureAll_L2  : Nat → Nat → Int32 → KH → KO Unit
  | 0, _, _, _ => none
  | n + 1, v0, v1, h => X6_measureAll_b2 (X6_measureAll_L2  n) v0 v1 h
def f_X6_measureAll (p0 : Nat) (h : KH) : KO Unit := X6_measureAll_L2  kF p0 0 h
def f_X6_init (p0 : Nat) (h : KH) : KO Unit := nwM h 8 8 (fun a1 h1 => pR h1 p0 7 0 (some a1) (fun h2 => nwM h2 8 8 (fun a2 h3 => pR h3 p0 7 1 (some a2) (fun h4 => nw h4 23 8 (fun a3 h5 => pR h5 p0 7 2 (some a3) (fun h6 => pI h6 p0 7 3 30 (fun h7 => kcallV 7 p0 h7 (f_X6_measureAll p0 h7) (fun _ h8 => kret () h8))))))))
def f_X7_init (p0 : Nat) (h : KH) : KO Unit := nw h 21 6 (fun a1 h1 => pR h1 p0 8 0 (some a1) (fun h2 => pI h2 p0 8 1 0 (fun h3 => kret () h3)))
def f_X2_init (p0 : Nat) (h : KH) : KO Unit := nw h 21 15 (fun a1 h1 => pR h1 p0 3 0 (some a1) (fun h2 => kret () h2))
def f_X3_init (p0 : Nat) (h : KH) : KO Unit := nw h 26 60 (fun a1 h1 => pR h1 p0 4 0 (some a1) (fun h2 => nw h2 23 60 (fun a2 h3 => pR h3 p0 4 1 (some a2) (fun h4 => pI h4 p0 4 2 0 (fun h5 => kret () h5)))))
def f_X9_init (p0 : Nat) (h : KH) : KO Unit := nw h 7 0 (fun a1 h1 => kbinI (f_X6_init a1 h1) (fun _ h2 => pR h2 p0 10 0 (some a1) (fun h3 => nw h3 21 4 (fun a2 h4 => pAI h4 a2 21 0 1 (fun h5 => pAI h5 a2 21 1 2 (fun h6 => pAI h6 a2 21 2 4 (fun h7 => pAI h7 a2 21 3 8 (fun h8 => pR h8 p0 10 1 (some a2) (fun h9 => nw h9 8 0 (fun a3 h10 => kbinI (f_X7_init a3 h10) (fun _ h11 => pR h11 p0 10 2 (some a3) (fun h12 => nw h12 3 0 (fun a4 h13 => kbinI (f_X2_init a4 h13) (fun _ h14 => pR h14 p0 10 3 (some a4) (fun h15 => nw h15 25 10 (fun a5 h16 => pR h16 p0 10 4 (some a5) (fun h17 => nw h17 25 10 (fun a6 h18 => pR h18 p0 10 5 (some a6) (fun h19 => nw h19 26 60 (fun a7 h20 => pR h20 p0 10 6 (some a7) (fun h21 => nw h21 27 8 (fun a8 h22 => pR h22 p0 10 7 (some a8) (fun h23 => nw h23 28 40 (fun a9 h24 => pR h24 p0 10 8 (some a9) (fun h25 => nw h25 22 6 (fun a10 h26 => pR h26 p0 10 9 (some a10) (fun h27 => nw h27 22 6 (fun a11 h28 => pR h28 p0 10 10 (some a11) (fun h29 => nw h29 4 0 (fun a12 h30 => kbinI (f_X3_init a12 h30) (fun _ h31 => pR h31 p0 10 11 (some a12) (fun h32 => pI h32 p0 10 12 0 (fun h33 => pI h33 p0 10 13 0 (fun h34 => pI h34 p0 10 14 0 (fun h35 => pI h35 p0 10 15 0 (fun h36 => pI h36 p0 10 16 0 (fun h37 => kret () h37)))))))))))))))))))))))))))))))))))))
def X9_isWithin_b15  (s0 : Int32) (h : KH) : KO Int32 := kretZ s0 h
def X9_isWithin_b14   (h : KH) : KO Int32 := X9_isWithin_b15  0 h
def f_X9_isWithin (p0 : Int32) (p1 : Int32) (p2 : Int32) (h : KH) : KO Int32 := kif (p0 < p1) (X9_isWithin_b14   h) (kif (p2 < p0) (X9_isWithin_b14   h) (X9_isWithin_b15  1 h))
def f_X9_pass (p0 : Nat) (p1 : Int32) (h : KH) : KO Int32 := kbind (f_X9_isWithin p1 1 2000 h) (fun x1 h1 => kif (x1 = 0) (kthrow 1 h1) (gI h1 p0 10 12 (fun x2 => kif ((x2 + p1) ≤ 50000) (gI h1 p0 10 12 (fun x3 => pI h1 p0 10 12 (x3 + p1) (fun h2 => gI h2 p0 10 12 (fun x4 => kret x4 h2)))) (kthrow 2 h1))))
def f_X9_now (p0 : Nat) (h : KH) : KO Int32 := gI h p0 10 12 (fun x1 => kret x1 h)
def f_X9_requireGate (p0 : Int32) (h : KH) : KO Unit := kbind (f_X9_isWithin p0 0 7 h) (fun x1 h1 => kif (x1 = 0) (kthrow 3 h1) (kret () h1))
def f_X6_lengthOf (p0 : Nat) (p1 : Int32) (p2 : Int32) (h : KH) : KO Int32 := gN h p0 7 0 (fun a1 => gAN h a1 24 p1 (fun a2 => gAI h a2 21 p2 (fun x1 => kret x1 h)))
def f_X6_build (p0 : Nat) (p1 : Int32) (p2 : Int32) (p3 : Int32) (h : KH) : KO Unit := gN h p0 7 0 (fun a1 => gAN h a1 24 p1 (fun a2 => pAI h a2 21 p2 p3 (fun h1 => gN h1 p0 7 0 (fun a3 => gAN h1 a3 24 p2 (fun a4 => pAI h1 a4 21 p1 p3 (fun h2 => kcallV 7 p0 h2 (f_X6_measureAll p0 h2) (fun _ h3 => kret () h3)))))))
def f_X6_between (p0 : Nat) (p1 : Int32) (p2 : Int32) (h : KH) : KO Int32 := gN h p0 7 1 (fun a1 => gAN h a1 24 p1 (fun a2 => gAI h a2 21 p2 (fun x1 => kret x1 h)))
def X6_isOneTrip_b55  (s0 : Int32) (h : KH) : KO Int32 := kretZ s0 h
def X6_isOneTrip_b54   (h : KH) : KO Int32 := X6_isOneTrip_b55  0 h
def f_X6_isOneTrip (p0 : Nat) (p1 : Nat) (p2 : Nat) (h : KH) : KO Int32 := gI h p1 6 1 (fun x1 => gI h p2 6 1 (fun x2 => kcallV 7 p0 h (f_X6_between p0 x1 x2 h) (fun x3 h1 => gI h1 p2 6 2 (fun x4 => gI h1 p1 6 2 (fun x5 => kif (x3 = ((-1))) (X6_isOneTrip_b54   h1) (gI h1 p0 7 3 (fun x6 => kif (((2 * x3) + x6) < (x4 - x5)) (X6_isOneTrip_b54   h1) (kif ((4 * (x4 - x5)) < x3) (X6_isOneTrip_b54   h1) (X6_isOneTrip_b55  1 h1)))))))))
def X3_seeBeginning_b44   (h : KH) : KO Unit := kret () h
def X3_seeBeginning_b43  (s0 : Int32) (s1 : Int32) (s2 : Nat) (h : KH) : KO Unit := pAZ h s2 23 s1 s0 (fun h1 => X3_seeBeginning_b44   h1)
def X3_seeBeginning_b38  (s0 : Int32) (s1 : Nat) (h : KH) : KO Unit := X3_seeBeginning_b43  1 s0 s1 h
def f_X3_seeBeginning (p0 : Nat) (p1 : Int32) (p2 : Nat) (h : KH) : KO Unit := gI h p0 4 2 (fun x1 => kif (x1 ≤ p1) (X3_seeBeginning_b44   h) (gN h p0 4 1 (fun a1 => kif (p1 = 0) (X3_seeBeginning_b38  p1 a1 h) (gN h p0 4 0 (fun a2 => gAN h a2 26 (p1 - 1) (fun a3 => gN h p0 4 0 (fun a4 => gAN h a4 26 p1 (fun a5 => kcallV 7 p2 h (f_X6_isOneTrip p2 a3 a5 h) (fun x2 h1 => kif (x2 = 0) (X3_seeBeginning_b38  p1 a1 h1) (X3_seeBeginning_b43  0 p1 a1 h1))))))))))
def X3_joinAll_b2 (rc2 : Nat → Nat → Int32 → KH → KO Unit) (v0 : Nat) (v1 : Nat) (v2 : Int32) (h : KH) : KO Unit := gI h v0 4 2 (fun x1 => kif (x1 ≤ v2) (kret () h) (kcallV 4 v0 h (f_X3_seeBeginning v0 v2 v1 h) (fun _ h1 => rc2 v0 v1 (v2 + 1) h1)))
def X3_joinAll_L2  : Nat → Nat → Nat → Int32 → KH → KO Unit
  | 0, _, _, _, _ => none
  | n + 1, v0, v1, v2, h => X3_joinAll_b2 (X3_joinAll_L2  n) v0 v1 v2 h
def f_X3_joinAll (p0 : Nat) (p1 : Nat) (h : KH) : KO Unit := X3_joinAll_L2  kF p0 p1 0 h
def X9_joinAllAgain_b2 (rc2 : Nat → Int32 → KH → KO Unit) (v0 : Nat) (v1 : Int32) (h : KH) : KO Unit := gI h v0 10 13 (fun x1 => kif (x1 ≤ v1) (kret () h) (gN h v0 10 4 (fun a1 => gAN h a1 25 v1 (fun a2 => gN h a2 5 3 (fun a3 => gN h v0 10 0 (fun a4 => kcallV 4 a3 h (f_X3_joinAll a3 a4 h) (fun _ h1 => rc2 v0 (v1 + 1) h1)))))))
def X9_joinAllAgain_L2  : Nat → Nat → Int32 → KH → KO Unit
  | 0, _, _, _ => none
  | n + 1, v0, v1, h => X9_joinAllAgain_b2 (X9_joinAllAgain_L2  n) v0 v1 h
def f_X9_joinAllAgain (p0 : Nat) (h : KH) : KO Unit := X9_joinAllAgain_L2  kF p0 0 h
def X9_road_b24   (h : KH) : KO Int32 := kthrow 1 h
def f_X9_road (p0 : Nat) (p1 : Int32) (p2 : Int32) (p3 : Int32) (h : KH) : KO Int32 := kbind (f_X9_requireGate p1 h) (fun _ h1 => kbind (f_X9_requireGate p2 h1) (fun _ h2 => kif (p1 = p2) (X9_road_b24   h2) (kbind (f_X9_isWithin p3 0 200 h2) (fun x1 h3 => kif (x1 = 0) (X9_road_b24   h3) (gN h3 p0 10 0 (fun a1 => kcallV 7 a1 h3 (f_X6_lengthOf a1 p1 p2 h3) (fun x2 h4 => gN h4 p0 10 0 (fun a2 => kcallV 7 a2 h4 (f_X6_build a2 p1 p2 p3 h4) (fun _ h5 => kcallV 10 p0 h5 (f_X9_joinAllAgain p0 h5) (fun _ h6 => kret x2 h6))))))))))
def f_X9_distance (p0 : Nat) (p1 : Int32) (p2 : Int32) (h : KH) : KO Int32 := kbind (f_X9_requireGate p1 h) (fun _ h1 => kbind (f_X9_requireGate p2 h1) (fun _ h2 => gN h2 p0 10 0 (fun a1 => kcallV 7 a1 h2 (f_X6_between a1 p1 p2 h2) (fun x1 h3 => kret x1 h3))))
def f_X9_setPause (p0 : Nat) (p1 : Int32) (h : KH) : KO Int32 := kbind (f_X9_isWithin p1 0 500 h) (fun x1 h1 => kif (x1 = 0) (kthrow 1 h1) (gN h1 p0 10 0 (fun a1 => gI h1 a1 7 3 (fun x2 => gN h1 p0 10 0 (fun a2 => pI h1 a2 7 3 p1 (fun h2 => kcallV 10 p0 h2 (f_X9_joinAllAgain p0 h2) (fun _ h3 => kret x2 h3)))))))
def f_X9_requireClass (p0 : Int32) (h : KH) : KO Unit := kbind (f_X9_isWithin p0 0 3 h) (fun x1 h1 => kif (x1 = 0) (kthrow 1 h1) (kret () h1))
def f_X9_setRate (p0 : Nat) (p1 : Int32) (p2 : Int32) (h : KH) : KO Int32 := kbind (f_X9_requireClass p1 h) (fun _ h1 => kbind (f_X9_isWithin p2 0 50 h1) (fun x1 h2 => kif (x1 = 0) (kthrow 1 h2) (gN h2 p0 10 1 (fun a1 => gAI h2 a1 21 p1 (fun x2 => gN h2 p0 10 1 (fun a2 => pAI h2 a2 21 p1 p2 (fun h3 => kret x2 h3)))))))
def f_X9_requireSign (p0 : Int32) (h : KH) : KO Unit := kbind (f_X9_isWithin p0 0 14 h) (fun x1 h1 => kif (x1 = 0) (kthrow 3 h1) (kret () h1))
def f_X9_requireRoomForSign (p0 : Nat) (h : KH) : KO Unit := gN h p0 10 2 (fun a1 => gI h a1 8 1 (fun x1 => kif (x1 < 6) (kret () h) (kthrow 2 h)))
def X7_put_b5 (rc5 : Nat → Int32 → Int32 → Int32 → KH → KO Unit) (v0 : Nat) (v1 : Int32) (v2 : Int32) (v3 : Int32) (h : KH) : KO Unit := kif (v3 ≤ v2) (gN h v0 8 0 (fun a1 => pAI h a1 21 v2 v1 (fun h1 => gI h1 v0 8 1 (fun x1 => pI h1 v0 8 1 (x1 + 1) (fun h2 => kret () h2))))) (gN h v0 8 0 (fun a2 => gN h v0 8 0 (fun a3 => gAI h a3 21 (v3 - 1) (fun x2 => pAI h a2 21 v3 x2 (fun h3 => rc5 v0 v1 v2 (v3 + (-1)) h3)))))
def X7_put_L5  : Nat → Nat → Int32 → Int32 → Int32 → KH → KO Unit
  | 0, _, _, _, _, _ => none
  | n + 1, v0, v1, v2, v3, h => X7_put_b5 (X7_put_L5  n) v0 v1 v2 v3 h
def f_X7_put (p0 : Nat) (p1 : Int32) (p2 : Int32) (h : KH) : KO Unit := gI h p0 8 1 (fun x1 => X7_put_L5  kF p0 p1 p2 x1 h)
def X7_isPair_b17  (s0 : Int32) (h : KH) : KO Int32 := kretZ s0 h
def X7_isPair_b16   (h : KH) : KO Int32 := X7_isPair_b17  0 h
def f_X7_isPair (p0 : Int32) (h : KH) : KO Int32 := kif (p0 < 10) (X7_isPair_b16   h) (kif (14 ≤ p0) (X7_isPair_b16   h) (X7_isPair_b17  1 h))
def X7_charsOf_b12  (s0 : Int32) (h : KH) : KO Int32 := kret s0 h
def f_X7_charsOf (p0 : Int32) (h : KH) : KO Int32 := kbind (f_X7_isPair p0 h) (fun x1 h1 => kif (x1 = 0) (X7_charsOf_b12  1 h1) (X7_charsOf_b12  2 h1))
def X7_charCount_b4 (rc4 : Nat → Int32 → Int32 → KH → KO Int32) (v0 : Nat) (v1 : Int32) (v2 : Int32) (h : KH) : KO Int32 := gI h v0 8 1 (fun x1 => kif (x1 ≤ v2) (kret v1 h) (gN h v0 8 0 (fun a1 => gAI h a1 21 v2 (fun x2 => kbind (f_X7_charsOf x2 h) (fun x3 h1 => rc4 v0 (v1 + x3) (v2 + 1) h1)))))
def X7_charCount_L4  : Nat → Nat → Int32 → Int32 → KH → KO Int32
  | 0, _, _, _, _ => none
  | n + 1, v0, v1, v2, h => X7_charCount_b4 (X7_charCount_L4  n) v0 v1 v2 h
def f_X7_charCount (p0 : Nat) (h : KH) : KO Int32 := X7_charCount_L4  kF p0 0 0 h
def f_X9_spell (p0 : Nat) (p1 : Int32) (h : KH) : KO Int32 := kbind (f_X9_requireSign p1 h) (fun _ h1 => kcallV 10 p0 h1 (f_X9_requireRoomForSign p0 h1) (fun _ h2 => gN h2 p0 10 2 (fun a1 => gN h2 p0 10 2 (fun a2 => gI h2 a2 8 1 (fun x1 => kcallV 8 a1 h2 (f_X7_put a1 p1 x1 h2) (fun _ h3 => gN h3 p0 10 2 (fun a3 => kcallV 8 a3 h3 (f_X7_charCount a3 h3) (fun x2 h4 => kret x2 h4))))))))
def f_X9_insert (p0 : Nat) (p1 : Int32) (p2 : Int32) (h : KH) : KO Int32 := kbind (f_X9_requireSign p1 h) (fun _ h1 => gN h1 p0 10 2 (fun a1 => gI h1 a1 8 1 (fun x1 => kbind (f_X9_isWithin p2 0 (x1 - 1) h1) (fun x2 h2 => kif (x2 = 0) (kthrow 1 h2) (kcallV 10 p0 h2 (f_X9_requireRoomForSign p0 h2) (fun _ h3 => gN h3 p0 10 2 (fun a2 => kcallV 8 a2 h3 (f_X7_put a2 p1 p2 h3) (fun _ h4 => gN h4 p0 10 2 (fun a3 => kcallV 8 a3 h4 (f_X7_charCount a3 h4) (fun x3 h5 => kret x3 h5))))))))))
def X7_turnRound_b9 (rc9 : Nat → Int32 → Int32 → KH → KO Unit) (v0 : Nat) (v1 : Int32) (v2 : Int32) (h : KH) : KO Unit := kif (v1 ≤ v2) (kret () h) (gN h v0 8 0 (fun a1 => gAI h a1 21 v2 (fun x1 => gN h v0 8 0 (fun a2 => gN h v0 8 0 (fun a3 => gAI h a3 21 v1 (fun x2 => pAI h a2 21 v2 x2 (fun h1 => gN h1 v0 8 0 (fun a4 => pAI h1 a4 21 v1 x1 (fun h2 => rc9 v0 (v1 + (-1)) (v2 + 1) h2)))))))))
def X7_turnRound_L9  : Nat → Nat → Int32 → Int32 → KH → KO Unit
  | 0, _, _, _, _ => none
  | n + 1, v0, v1, v2, h => X7_turnRound_b9 (X7_turnRound_L9  n) v0 v1 v2 h
def f_X7_turnRound (p0 : Nat) (h : KH) : KO Unit := gI h p0 8 1 (fun x1 => X7_turnRound_L9  kF p0 (x1 - 1) 0 h)
def f_X9_mirror (p0 : Nat) (h : KH) : KO Int32 := gN h p0 10 2 (fun a1 => kcallV 8 a1 h (f_X7_turnRound a1 h) (fun _ h1 => gN h1 p0 10 2 (fun a2 => gI h1 a2 8 1 (fun x1 => kret x1 h1))))
def f_X9_clearSpelled (p0 : Nat) (h : KH) : KO Int32 := gN h p0 10 2 (fun a1 => gI h a1 8 1 (fun x1 => gN h p0 10 2 (fun a2 => pI h a2 8 1 0 (fun h1 => kret x1 h1))))
def X7_charNumberOf_b37  (s0 : Int32) (h : KH) : KO Int32 := kret s0 h
def f_X7_charNumberOf (p0 : Int32) (p1 : Int32) (h : KH) : KO Int32 := kif (p0 = 14) (kret 63 h) (kbind (f_X7_isPair p0 h) (fun x1 h1 => kif (x1 = 0) (kret (65 + p0) h1) (kif (p1 = 0) (X7_charNumberOf_b37  55357 h1) (X7_charNumberOf_b37  ((56976 + p0) - 10) h1))))
def X7_charNumberAt_b57   (h : KH) : KO Int32 := kret ((-1)) h
def X7_charNumberAt_b4 (rc4 : Nat → Int32 → Int32 → Int32 → KH → KO Int32) (v0 : Nat) (v1 : Int32) (v2 : Int32) (v3 : Int32) (h : KH) : KO Int32 := gI h v0 8 1 (fun x1 => kif (x1 ≤ v3) (X7_charNumberAt_b57   h) (kif (v1 < v2) (X7_charNumberAt_b57   h) (gN h v0 8 0 (fun a1 => gAI h a1 21 v3 (fun x2 => kbind (f_X7_charsOf x2 h) (fun x3 h1 => kif ((v2 + x3) ≤ v1) (rc4 v0 v1 (v2 + x3) (v3 + 1) h1) (gN h1 v0 8 0 (fun a2 => gAI h1 a2 21 v3 (fun x4 => kbind (f_X7_charNumberOf x4 (v1 - v2) h1) (fun x5 h2 => kret x5 h2))))))))))
def X7_charNumberAt_L4  : Nat → Nat → Int32 → Int32 → Int32 → KH → KO Int32
  | 0, _, _, _, _, _ => none
  | n + 1, v0, v1, v2, v3, h => X7_charNumberAt_b4 (X7_charNumberAt_L4  n) v0 v1 v2 v3 h
def f_X7_charNumberAt (p0 : Nat) (p1 : Int32) (h : KH) : KO Int32 := X7_charNumberAt_L4  kF p0 p1 0 0 h
def f_X9_charAt (p0 : Nat) (p1 : Int32) (h : KH) : KO Int32 := gN h p0 10 2 (fun a1 => kcallV 8 a1 h (f_X7_charNumberAt a1 p1 h) (fun x1 h1 => kif (x1 = ((-1))) (kthrow 4 h1) (kretC ((x1.toUInt32 % 65536).toInt32) h1)))
def f_X2_turn (p0 : Nat) (p1 : Int32) (p2 : Int32) (h : KH) : KO Unit := gN h p0 3 0 (fun a1 => gAI h a1 21 p1 (fun x1 => pAI h a1 21 p1 (x1 ^^^ (1 <<< (p2 &&& 31))) (fun h1 => gN h1 p0 3 0 (fun a2 => gAI h1 a2 21 p2 (fun x2 => pAI h1 a2 21 p2 (x2 ^^^ (1 <<< (p1 &&& 31))) (fun h2 => kret () h2))))))
def X2_holds_b19  (s0 : Int32) (h : KH) : KO Int32 := kretZ s0 h
def f_X2_holds (p0 : Nat) (p1 : Int32) (p2 : Int32) (h : KH) : KO Int32 := gN h p0 3 0 (fun a1 => gAI h a1 21 p1 (fun x1 => kif (((x1 >>> (p2 &&& 31)) &&& 1) = 1) (X2_holds_b19  1 h) (X2_holds_b19  0 h)))
def X2_costOfSign_b29  (s0 : Int32) (h : KH) : KO Int32 := kret s0 h
def f_X2_costOfSign (p0 : Nat) (p1 : Int32) (p2 : Int32) (h : KH) : KO Int32 := kif (p1 = p2) (kret 0 h) (kif (p1 = 14) (kret 2 h) (kcallV 3 p0 h (f_X2_holds p0 p1 p2 h) (fun x1 h1 => kif (x1 = 0) (X2_costOfSign_b29  ((-1)) h1) (X2_costOfSign_b29  1 h1))))
def X2_costOf_b18 (rc18 : Nat → Nat → Nat → Int32 → Int32 → KH → KO Int32) (v0 : Nat) (v1 : Nat) (v2 : Nat) (v3 : Int32) (v4 : Int32) (h : KH) : KO Int32 := gI h v1 8 1 (fun x1 => kif (x1 ≤ v4) (kret v3 h) (gN h v1 8 0 (fun a1 => gAI h a1 21 v4 (fun x2 => gN h v2 8 0 (fun a2 => gAI h a2 21 v4 (fun x3 => kcallV 3 v0 h (f_X2_costOfSign v0 x2 x3 h) (fun x4 h1 => kif (x4 = ((-1))) (kret ((-1)) h1) (rc18 v0 v1 v2 (v3 + x4) (v4 + 1) h1))))))))
def X2_costOf_L18  : Nat → Nat → Nat → Nat → Int32 → Int32 → KH → KO Int32
  | 0, _, _, _, _, _, _ => none
  | n + 1, v0, v1, v2, v3, v4, h => X2_costOf_b18 (X2_costOf_L18  n) v0 v1 v2 v3 v4 h
def f_X2_costOf (p0 : Nat) (p1 : Nat) (p2 : Nat) (h : KH) : KO Int32 := gI h p1 8 1 (fun x1 => gI h p2 8 1 (fun x2 => kif (x1 = x2) (X2_costOf_L18  kF p0 p1 p2 0 0 h) (kret ((-1)) h)))
def X9_plateByText_b65 (rc7 : Nat → Nat → Option Nat → Int32 → Int32 → KH → KO (Option Nat)) (v0 : Nat) (v1 : Nat) (v2 : Option Nat) (v3 : Int32) (v4 : Int32) (h : KH) : KO (Option Nat) := rc7 v0 v1 v2 v3 (v4 + 1) h
def X9_plateByText_b59 (rc7 : Nat → Nat → Option Nat → Int32 → Int32 → KH → KO (Option Nat)) (v0 : Nat) (v1 : Nat) (v4 : Int32) (v5 : Nat) (v6 : Int32) (h : KH) : KO (Option Nat) := X9_plateByText_b65 rc7 v0 v1 (some v5) v6 v4 h
def X9_plateByText_b7 (rc7 : Nat → Nat → Option Nat → Int32 → Int32 → KH → KO (Option Nat)) (v0 : Nat) (v1 : Nat) (v2 : Option Nat) (v3 : Int32) (v4 : Int32) (h : KH) : KO (Option Nat) := gI h v0 10 13 (fun x1 => kif (x1 ≤ v4) (kret v2 h) (gN h v0 10 5 (fun a1 => gAN h a1 25 v4 (fun a2 => gN h v0 10 3 (fun a3 => gN h v1 6 3 (fun a4 => gN h a2 5 1 (fun a5 => kcallV 3 a3 h (f_X2_costOf a3 a4 a5 h) (fun x2 h1 => kif (x2 = ((-1))) (X9_plateByText_b65 rc7 v0 v1 v2 v3 v4 h1) (knul v2 (X9_plateByText_b59 rc7 v0 v1 v4 a2 x2 h1) (fun a6 => kif (v3 ≤ x2) (X9_plateByText_b65 rc7 v0 v1 (some a6) v3 v4 h1) (X9_plateByText_b59 rc7 v0 v1 v4 a2 x2 h1)))))))))))
def X9_plateByText_L7  : Nat → Nat → Nat → Option Nat → Int32 → Int32 → KH → KO (Option Nat)
  | 0, _, _, _, _, _, _ => none
  | n + 1, v0, v1, v2, v3, v4, h => X9_plateByText_b7 (X9_plateByText_L7  n) v0 v1 v2 v3 v4 h
def f_X9_plateByText (p0 : Nat) (p1 : Nat) (h : KH) : KO (Option Nat) := X9_plateByText_L7  kF p0 p1 none 0 0 h
def X9_numberOf_b12  (s0 : Int32) (h : KH) : KO Int32 := kret s0 h
def f_X9_numberOf (p0 : Option Nat) (h : KH) : KO Int32 := knul p0 (X9_numberOf_b12  ((-1)) h) (fun a1 => gI h a1 5 0 (fun x1 => X9_numberOf_b12  x1 h))
def X3_placeOf_b2 (rc2 : Nat → Nat → Int32 → KH → KO Int32) (v0 : Nat) (v1 : Nat) (v2 : Int32) (h : KH) : KO Int32 := gI h v0 4 2 (fun x1 => kif (x1 ≤ v2) (kret ((-1)) h) (gN h v0 4 0 (fun a1 => gAN h a1 26 v2 (fun a2 => gI h a2 6 0 (fun x2 => gI h v1 6 0 (fun x3 => kif (x2 = x3) (kret v2 h) (rc2 v0 v1 (v2 + 1) h)))))))
def X3_placeOf_L2  : Nat → Nat → Nat → Int32 → KH → KO Int32
  | 0, _, _, _, _ => none
  | n + 1, v0, v1, v2, h => X3_placeOf_b2 (X3_placeOf_L2  n) v0 v1 v2 h
def f_X3_placeOf (p0 : Nat) (p1 : Nat) (h : KH) : KO Int32 := X3_placeOf_L2  kF p0 p1 0 h
def X3_take_b25 (rc25 : Nat → Nat → Int32 → Int32 → KH → KO Unit) (v0 : Nat) (v2 : Nat) (v3 : Int32) (v4 : Int32) (h : KH) : KO Unit := gI h v0 4 2 (fun x1 => kif (x1 ≤ v4) (kcallV 4 v0 h (f_X3_seeBeginning v0 v3 v2 h) (fun _ h1 => kret () h1)) (gN h v0 4 0 (fun a1 => gN h v0 4 0 (fun a2 => gAN h a2 26 (v4 + 1) (fun a3 => pAN h a1 26 6 v4 a3 (fun h2 => gN h2 v0 4 1 (fun a4 => gN h2 v0 4 1 (fun a5 => gAI h2 a5 23 (v4 + 1) (fun x2 => pAZ h2 a4 23 v4 x2 (fun h3 => rc25 v0 v2 v3 (v4 + 1) h3))))))))))
def X3_take_L25  : Nat → Nat → Nat → Int32 → Int32 → KH → KO Unit
  | 0, _, _, _, _, _ => none
  | n + 1, v0, v2, v3, v4, h => X3_take_b25 (X3_take_L25  n) v0 v2 v3 v4 h
def f_X3_take (p0 : Nat) (p1 : Nat) (p2 : Nat) (h : KH) : KO Unit := kcallV 4 p0 h (f_X3_placeOf p0 p1 h) (fun x1 h1 => kif (x1 = ((-1))) (kret () h1) (gI h1 p0 4 2 (fun x2 => pI h1 p0 4 2 (x2 - 1) (fun h2 => X3_take_L25  kF p0 p2 x1 x1 h2))))
def X5_isAheadOf_b38  (s0 : Int32) (h : KH) : KO Int32 := kretZ s0 h
def X5_isAheadOf_b37   (h : KH) : KO Int32 := X5_isAheadOf_b38  0 h
def X5_isAheadOf_b33   (h : KH) : KO Int32 := X5_isAheadOf_b38  1 h
def f_X5_isAheadOf (p0 : Nat) (p1 : Nat) (h : KH) : KO Int32 := gI h p0 6 2 (fun x1 => gI h p1 6 2 (fun x2 => kif (x1 < x2) (X5_isAheadOf_b33   h) (gI h p0 6 2 (fun x3 => gI h p1 6 2 (fun x4 => kif (x3 = x4) (gI h p0 6 0 (fun x5 => gI h p1 6 0 (fun x6 => kif (x6 ≤ x5) (X5_isAheadOf_b37   h) (X5_isAheadOf_b33   h)))) (X5_isAheadOf_b37   h))))))
def X3_insertInOrder_b58  (v0 : Nat) (v1 : Nat) (v2 : Int32) (h : KH) : KO Int32 := gN h v0 4 0 (fun a1 => pAN h a1 26 6 v2 v1 (fun h1 => gI h1 v0 4 2 (fun x1 => pI h1 v0 4 2 (x1 + 1) (fun h2 => kret v2 h2))))
def X3_insertInOrder_b5 (rc5 : Nat → Nat → Int32 → KH → KO Int32) (v0 : Nat) (v1 : Nat) (v2 : Int32) (h : KH) : KO Int32 := kif (v2 ≤ 0) (X3_insertInOrder_b58  v0 v1 v2 h) (gN h v0 4 0 (fun a1 => gAN h a1 26 (v2 - 1) (fun a2 => kcallV 6 v1 h (f_X5_isAheadOf v1 a2 h) (fun x1 h1 => kif (x1 = 0) (X3_insertInOrder_b58  v0 v1 v2 h1) (gN h1 v0 4 0 (fun a3 => gN h1 v0 4 0 (fun a4 => gAN h1 a4 26 (v2 - 1) (fun a5 => pAN h1 a3 26 6 v2 a5 (fun h2 => gN h2 v0 4 1 (fun a6 => gN h2 v0 4 1 (fun a7 => gAI h2 a7 23 (v2 - 1) (fun x2 => pAZ h2 a6 23 v2 x2 (fun h3 => rc5 v0 v1 (v2 + (-1)) h3)))))))))))))
def X3_insertInOrder_L5  : Nat → Nat → Nat → Int32 → KH → KO Int32
  | 0, _, _, _, _ => none
  | n + 1, v0, v1, v2, h => X3_insertInOrder_b5 (X3_insertInOrder_L5  n) v0 v1 v2 h
def f_X3_insertInOrder (p0 : Nat) (p1 : Nat) (h : KH) : KO Int32 := gI h p0 4 2 (fun x1 => X3_insertInOrder_L5  kF p0 p1 x1 h)
def f_X3_put (p0 : Nat) (p1 : Nat) (p2 : Nat) (h : KH) : KO Unit := kcallV 4 p0 h (f_X3_insertInOrder p0 p1 h) (fun x1 h1 => kcallV 4 p0 h1 (f_X3_seeBeginning p0 x1 p2 h1) (fun _ h2 => kcallV 4 p0 h2 (f_X3_seeBeginning p0 (x1 + 1) p2 h2) (fun _ h3 => kret () h3)))
def X9_move_b58   (h : KH) : KO Unit := kret () h
def X9_move_b37  (v0 : Nat) (v1 : Nat) (v2 : Option Nat) (h : KH) : KO Unit := pR h v1 6 5 v2 (fun h1 => knul v2 (X9_move_b58   h1) (fun a1 => gN h1 a1 5 3 (fun a2 => gN h1 v0 10 0 (fun a3 => kcallV 4 a2 h1 (f_X3_put a2 v1 a3 h1) (fun _ h2 => X9_move_b58   h2)))))
def f_X9_move (p0 : Nat) (p1 : Nat) (p2 : Option Nat) (h : KH) : KO Unit := gR h p1 6 5 (fun o1 => kbind (f_X9_numberOf o1 h) (fun x1 h1 => kbind (f_X9_numberOf p2 h1) (fun x2 h2 => kif (x1 = x2) (kret () h2) (gR h2 p1 6 5 (fun o2 => knul o2 (X9_move_b37  p0 p1 p2 h2) (fun a1 => gR h2 p1 6 5 (fun o3 => kmay o3 (fun a2 => gN h2 a2 5 3 (fun a3 => gN h2 p0 10 0 (fun a4 => kcallV 4 a3 h2 (f_X3_take a3 p1 a4 h2) (fun _ h3 => X9_move_b37  p0 p1 p2 h3)))))))))))
def X9_leadAllBack_b34 (rc2 : Nat → Int32 → KH → KO Unit) (v0 : Nat) (v1 : Int32) (h : KH) : KO Unit := rc2 v0 (v1 + 1) h
def X9_leadAllBack_b2 (rc2 : Nat → Int32 → KH → KO Unit) (v0 : Nat) (v1 : Int32) (h : KH) : KO Unit := gI h v0 10 14 (fun x1 => kif (x1 ≤ v1) (kret () h) (gN h v0 10 6 (fun a1 => gAN h a1 26 v1 (fun a2 => gI h a2 6 4 (fun x2 => kif (x2 = 0) (kcallV 10 v0 h (f_X9_plateByText v0 a2 h) (fun o1 h1 => kcallV 10 v0 h1 (f_X9_move v0 a2 o1 h1) (fun _ h2 => X9_leadAllBack_b34 rc2 v0 v1 h2))) (X9_leadAllBack_b34 rc2 v0 v1 h))))))
def X9_leadAllBack_L2  : Nat → Nat → Int32 → KH → KO Unit
  | 0, _, _, _ => none
  | n + 1, v0, v1, h => X9_leadAllBack_b2 (X9_leadAllBack_L2  n) v0 v1 h
def f_X9_leadAllBack (p0 : Nat) (h : KH) : KO Unit := X9_leadAllBack_L2  kF p0 0 h
def X9_alike_b25   (h : KH) : KO Int32 := kthrow 1 h
def f_X9_alike (p0 : Nat) (p1 : Int32) (p2 : Int32) (h : KH) : KO Int32 := kbind (f_X9_requireSign p1 h) (fun _ h1 => kbind (f_X9_requireSign p2 h1) (fun _ h2 => kif (p1 = p2) (X9_alike_b25   h2) (kif (p1 = 14) (X9_alike_b25   h2) (kif (p2 = 14) (X9_alike_b25   h2) (gN h2 p0 10 3 (fun a1 => kcallV 3 a1 h2 (f_X2_turn a1 p1 p2 h2) (fun _ h3 => kcallV 10 p0 h3 (f_X9_leadAllBack p0 h3) (fun _ h4 => gN h4 p0 10 3 (fun a2 => kcallV 3 a2 h4 (f_X2_holds a2 p1 p2 h4) (fun x1 h5 => kretZ x1 h5))))))))))
def f_X9_requireDriver (p0 : Int32) (h : KH) : KO Unit := kbind (f_X9_isWithin p0 0 5 h) (fun x1 h1 => kif (x1 = 0) (kthrow 3 h1) (kret () h1))
def X7_hasQuestionMark_b2 (rc2 : Nat → Int32 → KH → KO Int32) (v0 : Nat) (v1 : Int32) (h : KH) : KO Int32 := gI h v0 8 1 (fun x1 => kif (x1 ≤ v1) (kretZ 0 h) (gN h v0 8 0 (fun a1 => gAI h a1 21 v1 (fun x2 => kif (x2 = 14) (kretZ 1 h) (rc2 v0 (v1 + 1) h)))))
def X7_hasQuestionMark_L2  : Nat → Nat → Int32 → KH → KO Int32
  | 0, _, _, _ => none
  | n + 1, v0, v1, h => X7_hasQuestionMark_b2 (X7_hasQuestionMark_L2  n) v0 v1 h
def f_X7_hasQuestionMark (p0 : Nat) (h : KH) : KO Int32 := X7_hasQuestionMark_L2  kF p0 0 h
def X7_equalsText_b15 (rc15 : Nat → Nat → Int32 → KH → KO Int32) (v0 : Nat) (v1 : Nat) (v2 : Int32) (h : KH) : KO Int32 := gI h v0 8 1 (fun x1 => kif (x1 ≤ v2) (kretZ 1 h) (gN h v0 8 0 (fun a1 => gAI h a1 21 v2 (fun x2 => gN h v1 8 0 (fun a2 => gAI h a2 21 v2 (fun x3 => kif (x2 = x3) (rc15 v0 v1 (v2 + 1) h) (kretZ 0 h)))))))
def X7_equalsText_L15  : Nat → Nat → Nat → Int32 → KH → KO Int32
  | 0, _, _, _, _ => none
  | n + 1, v0, v1, v2, h => X7_equalsText_b15 (X7_equalsText_L15  n) v0 v1 v2 h
def f_X7_equalsText (p0 : Nat) (p1 : Nat) (h : KH) : KO Int32 := gI h p0 8 1 (fun x1 => gI h p1 8 1 (fun x2 => kif (x1 = x2) (X7_equalsText_L15  kF p0 p1 0 h) (kretZ 0 h)))
def X9_isTaken_b2 (rc2 : Nat → Nat → Int32 → KH → KO Int32) (v0 : Nat) (v1 : Nat) (v2 : Int32) (h : KH) : KO Int32 := gI h v0 10 13 (fun x1 => kif (x1 ≤ v2) (kretZ 0 h) (gN h v0 10 4 (fun a1 => gAN h a1 25 v2 (fun a2 => gN h a2 5 1 (fun a3 => kcallV 8 a3 h (f_X7_equalsText a3 v1 h) (fun x2 h1 => kif (x2 = 0) (rc2 v0 v1 (v2 + 1) h1) (kretZ 1 h1)))))))
def X9_isTaken_L2  : Nat → Nat → Nat → Int32 → KH → KO Int32
  | 0, _, _, _, _ => none
  | n + 1, v0, v1, v2, h => X9_isTaken_b2 (X9_isTaken_L2  n) v0 v1 v2 h
def f_X9_isTaken (p0 : Nat) (p1 : Nat) (h : KH) : KO Int32 := X9_isTaken_L2  kF p0 p1 0 h
def X7_copy_b10 (rc10 : Nat → Nat → Int32 → KH → KO Nat) (v0 : Nat) (v1 : Nat) (v2 : Int32) (h : KH) : KO Nat := gI h v0 8 1 (fun x1 => kif (x1 ≤ v2) (gI h v0 8 1 (fun x2 => pI h v1 8 1 x2 (fun h1 => kret v1 h1))) (gN h v1 8 0 (fun a1 => gN h v0 8 0 (fun a2 => gAI h a2 21 v2 (fun x3 => pAI h a1 21 v2 x3 (fun h2 => rc10 v0 v1 (v2 + 1) h2))))))
def X7_copy_L10  : Nat → Nat → Nat → Int32 → KH → KO Nat
  | 0, _, _, _, _ => none
  | n + 1, v0, v1, v2, h => X7_copy_b10 (X7_copy_L10  n) v0 v1 v2 h
def f_X7_copy (p0 : Nat) (h : KH) : KO Nat := nw h 8 0 (fun a1 h1 => kbinI (f_X7_init a1 h1) (fun _ h2 => X7_copy_L10  kF p0 a1 0 h2))
def f_X1_init (p0 : Nat) (p1 : Int32) (p2 : Int32) (p3 : Option Nat) (h : KH) : KO Unit := pI h p0 2 0 p1 (fun h1 => pI h1 p0 2 1 p2 (fun h2 => pR h2 p0 2 2 p3 (fun h3 => kret () h3)))
def f_X4_init (p0 : Nat) (p1 : Int32) (p2 : Nat) (p3 : Int32) (p4 : Nat) (h : KH) : KO Unit := nw h 4 0 (fun a1 h1 => kbinI (f_X3_init a1 h1) (fun _ h2 => pR h2 p0 5 3 (some a1) (fun h3 => pI h3 p0 5 0 p1 (fun h4 => pR h4 p0 5 1 (some p2) (fun h5 => pI h5 p0 5 2 p3 (fun h6 => pR h6 p0 5 4 (some p4) (fun h7 => kret () h7)))))))
def X7_comesBefore_b87  (s0 : Int32) (h : KH) : KO Int32 := kretZ s0 h
def X7_comesBefore_b64  (s0 : Int32) (h : KH) : KO Int32 := kretZ s0 h
def X7_comesBefore_b14 (rc14 : Nat → Nat → Int32 → Int32 → KH → KO Int32) (v0 : Nat) (v1 : Nat) (v2 : Int32) (v3 : Int32) (h : KH) : KO Int32 := kif (v2 < v3) (gI h v0 8 1 (fun x1 => gI h v1 8 1 (fun x2 => kif (x2 ≤ x1) (X7_comesBefore_b87  0 h) (X7_comesBefore_b87  1 h)))) (gN h v0 8 0 (fun a1 => gI h v0 8 1 (fun x3 => gAI h a1 21 (x3 - v3) (fun x4 => gN h v1 8 0 (fun a2 => gI h v1 8 1 (fun x5 => gAI h a2 21 (x5 - v3) (fun x6 => kif (x4 = x6) (rc14 v0 v1 v2 (v3 + 1) h) (kif (x6 ≤ x4) (X7_comesBefore_b64  0 h) (X7_comesBefore_b64  1 h)))))))))
def X7_comesBefore_L14  : Nat → Nat → Nat → Int32 → Int32 → KH → KO Int32
  | 0, _, _, _, _, _ => none
  | n + 1, v0, v1, v2, v3, h => X7_comesBefore_b14 (X7_comesBefore_L14  n) v0 v1 v2 v3 h
def f_X7_comesBefore (p0 : Nat) (p1 : Nat) (h : KH) : KO Int32 := gI h p0 8 1 (fun x1 => gI h p1 8 1 (fun x2 => X7_comesBefore_L14  kF p0 p1 (if x2 < x1 then x2 else x1) 1 h))
def X9_putInOrder_b50  (v0 : Nat) (v1 : Nat) (v2 : Int32) (h : KH) : KO Unit := gN h v0 10 5 (fun a1 => pAN h a1 25 5 v2 v1 (fun h1 => kret () h1))
def X9_putInOrder_b5 (rc5 : Nat → Nat → Int32 → KH → KO Unit) (v0 : Nat) (v1 : Nat) (v2 : Int32) (h : KH) : KO Unit := kif (v2 ≤ 0) (X9_putInOrder_b50  v0 v1 v2 h) (gN h v1 5 1 (fun a1 => gN h v0 10 5 (fun a2 => gAN h a2 25 (v2 - 1) (fun a3 => gN h a3 5 1 (fun a4 => kcallV 8 a1 h (f_X7_comesBefore a1 a4 h) (fun x1 h1 => kif (x1 = 0) (X9_putInOrder_b50  v0 v1 v2 h1) (gN h1 v0 10 5 (fun a5 => gN h1 v0 10 5 (fun a6 => gAN h1 a6 25 (v2 - 1) (fun a7 => pAN h1 a5 25 5 v2 a7 (fun h2 => rc5 v0 v1 (v2 + (-1)) h2)))))))))))
def X9_putInOrder_L5  : Nat → Nat → Nat → Int32 → KH → KO Unit
  | 0, _, _, _, _ => none
  | n + 1, v0, v1, v2, h => X9_putInOrder_b5 (X9_putInOrder_L5  n) v0 v1 v2 h
def f_X9_putInOrder (p0 : Nat) (p1 : Nat) (h : KH) : KO Unit := gI h p0 10 13 (fun x1 => X9_putInOrder_L5  kF p0 p1 x1 h)
def X9_register_b48   (h : KH) : KO Int32 := kthrow 2 h
def f_X9_register (p0 : Nat) (p1 : Int32) (p2 : Int32) (h : KH) : KO Int32 := kbind (f_X9_requireDriver p1 h) (fun _ h1 => kbind (f_X9_requireClass p2 h1) (fun _ h2 => gN h2 p0 10 2 (fun a1 => gI h2 a1 8 1 (fun x1 => kif (x1 = 0) (X9_register_b48   h2) (gN h2 p0 10 2 (fun a2 => kcallV 8 a2 h2 (f_X7_hasQuestionMark a2 h2) (fun x2 h3 => kif (x2 = 0) (gN h3 p0 10 2 (fun a3 => kcallV 10 p0 h3 (f_X9_isTaken p0 a3 h3) (fun x3 h4 => kif (x3 = 0) (gI h4 p0 10 13 (fun x4 => kif (x4 < 10) (nw h4 5 0 (fun a4 h5 => gI h5 p0 10 13 (fun x5 => gN h5 p0 10 2 (fun a5 => kcallV 8 a5 h5 (f_X7_copy a5 h5) (fun a6 h6 => nw h6 2 0 (fun a7 h7 => gI h7 p0 10 12 (fun x6 => kbinI (f_X1_init a7 p1 x6 none h7) (fun _ h8 => kbinI (f_X4_init a4 x5 a6 p2 a7 h8) (fun _ h9 => gN h9 p0 10 4 (fun a8 => gI h9 p0 10 13 (fun x7 => pAN h9 a8 25 5 x7 a4 (fun h10 => kcallV 10 p0 h10 (f_X9_putInOrder p0 a4 h10) (fun _ h11 => gI h11 p0 10 13 (fun x8 => pI h11 p0 10 13 (x8 + 1) (fun h12 => kcallV 10 p0 h12 (f_X9_leadAllBack p0 h12) (fun _ h13 => gI h13 a4 5 0 (fun x9 => kret x9 h13))))))))))))))))) (X9_register_b48   h4))) (X9_register_b48   h4)))) (X9_register_b48   h3))))))))
def f_X9_plateNumbered (p0 : Nat) (p1 : Int32) (h : KH) : KO Nat := gI h p0 10 13 (fun x1 => kbind (f_X9_isWithin p1 0 (x1 - 1) h) (fun x2 h1 => kif (x2 = 0) (kthrow 3 h1) (gN h1 p0 10 4 (fun a1 => gAN h1 a1 25 p1 (fun a2 => kret a2 h1)))))
def X4_sellTo_b25  (v0 : Nat) (v1 : Int32) (v2 : Int32) (s0 : Option Nat) (h : KH) : KO Unit := nw h 2 0 (fun a1 h1 => kbinI (f_X1_init a1 v1 v2 s0 h1) (fun _ h2 => pR h2 v0 5 4 (some a1) (fun h3 => kret () h3)))
def f_X4_sellTo (p0 : Nat) (p1 : Int32) (p2 : Int32) (h : KH) : KO Unit := gR h p0 5 4 (fun o1 => kmay o1 (fun a1 => gI h a1 2 1 (fun x1 => kif (x1 = p2) (gR h p0 5 4 (fun o3 => kmay o3 (fun a2 => gR h a2 2 2 (fun o4 => X4_sellTo_b25  p0 p1 p2 o4 h)))) (gR h p0 5 4 (fun o2 => X4_sellTo_b25  p0 p1 p2 o2 h)))))
def f_X9_sell (p0 : Nat) (p1 : Int32) (p2 : Int32) (h : KH) : KO Int32 := kcallV 10 p0 h (f_X9_plateNumbered p0 p1 h) (fun a1 h1 => kbind (f_X9_requireDriver p2 h1) (fun _ h2 => gR h2 a1 5 4 (fun o1 => kmay o1 (fun a2 => gI h2 a2 2 0 (fun x1 => gI h2 p0 10 12 (fun x2 => kcallV 5 a1 h2 (f_X4_sellTo a1 p2 x2 h2) (fun _ h3 => kret x1 h3)))))))
def f_X9_plates (p0 : Nat) (h : KH) : KO Int32 := gI h p0 10 13 (fun x1 => kret x1 h)
def f_X9_plateAt (p0 : Nat) (p1 : Int32) (h : KH) : KO Int32 := gI h p0 10 13 (fun x1 => kbind (f_X9_isWithin p1 0 (x1 - 1) h) (fun x2 h1 => kif (x2 = 0) (kthrow 4 h1) (gN h1 p0 10 5 (fun a1 => gAN h1 a1 25 p1 (fun a2 => gI h1 a2 5 0 (fun x3 => kret x3 h1))))))
def f_X9_requireMinute (p0 : Nat) (p1 : Int32) (h : KH) : KO Unit := gI h p0 10 12 (fun x1 => kbind (f_X9_isWithin p1 0 x1 h) (fun x2 h1 => kif (x2 = 0) (kthrow 1 h1) (kret () h1)))
def X4_driverIn_b5 (rc5 : Int32 → Option Nat → KH → KO Int32) (v1 : Int32) (v2 : Option Nat) (h : KH) : KO Int32 := knul v2 (kret ((-1)) h) (fun a1 => gI h a1 2 1 (fun x1 => kif (v1 < x1) (gR h a1 2 2 (fun o1 => rc5 v1 o1 h)) (gI h a1 2 0 (fun x2 => kret x2 h))))
def X4_driverIn_L5  : Nat → Int32 → Option Nat → KH → KO Int32
  | 0, _, _, _ => none
  | n + 1, v1, v2, h => X4_driverIn_b5 (X4_driverIn_L5  n) v1 v2 h
def f_X4_driverIn (p0 : Nat) (p1 : Int32) (h : KH) : KO Int32 := gR h p0 5 4 (fun o1 => X4_driverIn_L5  kF p1 o1 h)
def f_X9_holder (p0 : Nat) (p1 : Int32) (p2 : Int32) (h : KH) : KO Int32 := kcallV 10 p0 h (f_X9_plateNumbered p0 p1 h) (fun a1 h1 => kcallV 10 p0 h1 (f_X9_requireMinute p0 p2 h1) (fun _ h2 => kcallV 5 a1 h2 (f_X4_driverIn a1 p2 h2) (fun x1 h3 => kret x1 h3)))
def f_X5_init (p0 : Nat) (p1 : Int32) (p2 : Int32) (p3 : Int32) (p4 : Nat) (h : KH) : KO Unit := pI h p0 6 4 0 (fun h1 => pR h1 p0 6 5 none (fun h2 => pI h2 p0 6 0 p1 (fun h3 => pI h3 p0 6 1 p2 (fun h4 => pI h4 p0 6 2 p3 (fun h5 => pR h5 p0 6 3 (some p4) (fun h6 => kret () h6))))))
def X9_read_b28   (h : KH) : KO Int32 := kthrow 2 h
def f_X9_read (p0 : Nat) (p1 : Int32) (p2 : Int32) (h : KH) : KO Int32 := kbind (f_X9_requireGate p1 h) (fun _ h1 => kcallV 10 p0 h1 (f_X9_requireMinute p0 p2 h1) (fun _ h2 => gN h2 p0 10 2 (fun a1 => gI h2 a1 8 1 (fun x1 => kif (x1 = 0) (X9_read_b28   h2) (gI h2 p0 10 14 (fun x2 => kif (x2 < 60) (nw h2 6 0 (fun a2 h3 => gI h3 p0 10 14 (fun x3 => gN h3 p0 10 2 (fun a3 => kcallV 8 a3 h3 (f_X7_copy a3 h3) (fun a4 h4 => kbinI (f_X5_init a2 x3 p1 p2 a4 h4) (fun _ h5 => gN h5 p0 10 6 (fun a5 => gI h5 p0 10 14 (fun x4 => pAN h5 a5 26 6 x4 a2 (fun h6 => gI h6 p0 10 14 (fun x5 => pI h6 p0 10 14 (x5 + 1) (fun h7 => kcallV 10 p0 h7 (f_X9_plateByText p0 a2 h7) (fun o1 h8 => kcallV 10 p0 h8 (f_X9_move p0 a2 o1 h8) (fun _ h9 => gI h9 a2 6 0 (fun x6 => kret x6 h9)))))))))))))) (X9_read_b28   h2)))))))
def f_X9_readingNumbered (p0 : Nat) (p1 : Int32) (h : KH) : KO Nat := gI h p0 10 14 (fun x1 => kbind (f_X9_isWithin p1 0 (x1 - 1) h) (fun x2 h1 => kif (x2 = 0) (kthrow 3 h1) (gN h1 p0 10 6 (fun a1 => gAN h1 a1 26 p1 (fun a2 => kret a2 h1)))))
def X9_correct_b20  (v0 : Nat) (v3 : Nat) (s0 : Option Nat) (h : KH) : KO Int32 := gR h v3 6 5 (fun o1 => kbind (f_X9_numberOf o1 h) (fun x1 h1 => pI h1 v3 6 4 1 (fun h2 => kcallV 10 v0 h2 (f_X9_move v0 v3 s0 h2) (fun _ h3 => kret x1 h3))))
def f_X9_correct (p0 : Nat) (p1 : Int32) (p2 : Int32) (h : KH) : KO Int32 := kcallV 10 p0 h (f_X9_readingNumbered p0 p1 h) (fun a1 h1 => kif (p2 = ((-1))) (X9_correct_b20  p0 a1 none h1) (kcallV 10 p0 h1 (f_X9_plateNumbered p0 p2 h1) (fun a2 h2 => X9_correct_b20  p0 a1 (some a2) h2)))
def f_X9_uncorrect (p0 : Nat) (p1 : Int32) (h : KH) : KO Int32 := kcallV 10 p0 h (f_X9_readingNumbered p0 p1 h) (fun a1 h1 => gI h1 a1 6 4 (fun x1 => kif (x1 = 0) (kthrow 2 h1) (pI h1 a1 6 4 0 (fun h2 => kcallV 10 p0 h2 (f_X9_plateByText p0 a1 h2) (fun o1 h3 => kcallV 10 p0 h3 (f_X9_move p0 a1 o1 h3) (fun _ h4 => gR h4 a1 6 5 (fun o2 => kbind (f_X9_numberOf o2 h4) (fun x2 h5 => kret x2 h5))))))))
def f_X9_plateOf (p0 : Nat) (p1 : Int32) (h : KH) : KO Int32 := kcallV 10 p0 h (f_X9_readingNumbered p0 p1 h) (fun a1 h1 => gR h1 a1 6 5 (fun o1 => kbind (f_X9_numberOf o1 h1) (fun x1 h2 => kret x1 h2)))
def f_X9_cost (p0 : Nat) (p1 : Int32) (p2 : Int32) (h : KH) : KO Int32 := kcallV 10 p0 h (f_X9_readingNumbered p0 p1 h) (fun a1 h1 => gN h1 p0 10 3 (fun a2 => gN h1 a1 6 3 (fun a3 => kcallV 10 p0 h1 (f_X9_plateNumbered p0 p2 h1) (fun a4 h2 => gN h2 a4 5 1 (fun a5 => kcallV 3 a2 h2 (f_X2_costOf a2 a3 a5 h2) (fun x1 h3 => kret x1 h3))))))
def X3_beginningsAhead_b21 (rc4 : Nat → Int32 → Int32 → Int32 → KH → KO Int32) (v0 : Nat) (v1 : Int32) (v2 : Int32) (v3 : Int32) (h : KH) : KO Int32 := rc4 v0 v1 v2 (v3 + 1) h
def X3_beginningsAhead_b4 (rc4 : Nat → Int32 → Int32 → Int32 → KH → KO Int32) (v0 : Nat) (v1 : Int32) (v2 : Int32) (v3 : Int32) (h : KH) : KO Int32 := kif (v1 ≤ v3) (kret v2 h) (gN h v0 4 1 (fun a1 => gAI h a1 23 v3 (fun x1 => kif (x1 = 0) (X3_beginningsAhead_b21 rc4 v0 v1 v2 v3 h) (X3_beginningsAhead_b21 rc4 v0 v1 (v2 + 1) v3 h))))
def X3_beginningsAhead_L4  : Nat → Nat → Int32 → Int32 → Int32 → KH → KO Int32
  | 0, _, _, _, _, _ => none
  | n + 1, v0, v1, v2, v3, h => X3_beginningsAhead_b4 (X3_beginningsAhead_L4  n) v0 v1 v2 v3 h
def f_X3_beginningsAhead (p0 : Nat) (p1 : Int32) (h : KH) : KO Int32 := X3_beginningsAhead_L4  kF p0 p1 0 0 h
def f_X3_tripCount (p0 : Nat) (h : KH) : KO Int32 := gI h p0 4 2 (fun x1 => kcallV 4 p0 h (f_X3_beginningsAhead p0 x1 h) (fun x2 h1 => kret x2 h1))
def f_X9_trips (p0 : Nat) (p1 : Int32) (h : KH) : KO Int32 := kcallV 10 p0 h (f_X9_plateNumbered p0 p1 h) (fun a1 h1 => gN h1 a1 5 3 (fun a2 => kcallV 4 a2 h1 (f_X3_tripCount a2 h1) (fun x1 h2 => kret x1 h2)))
def X9_joinAnew_b48 (rc10 : Nat → Nat → Int32 → KH → KO Nat) (v0 : Nat) (v1 : Nat) (v2 : Int32) (h : KH) : KO Nat := rc10 v0 v1 (v2 + 1) h
def X9_joinAnew_b10 (rc10 : Nat → Nat → Int32 → KH → KO Nat) (v0 : Nat) (v1 : Nat) (v2 : Int32) (h : KH) : KO Nat := gI h v0 10 14 (fun x1 => kif (x1 ≤ v2) (gN h v0 10 11 (fun a1 => gN h v0 10 0 (fun a2 => kcallV 4 a1 h (f_X3_joinAll a1 a2 h) (fun _ h1 => gN h1 v0 10 11 (fun a3 => kret a3 h1))))) (gN h v0 10 6 (fun a4 => gAN h a4 26 v2 (fun a5 => gR h a5 6 5 (fun o1 => kbind (f_X9_numberOf o1 h) (fun x2 h2 => gI h2 v1 5 0 (fun x3 => kif (x2 = x3) (gN h2 v0 10 11 (fun a6 => kcallV 4 a6 h2 (f_X3_insertInOrder a6 a5 h2) (fun x4 h3 => X9_joinAnew_b48 rc10 v0 v1 v2 h3))) (X9_joinAnew_b48 rc10 v0 v1 v2 h2))))))))
def X9_joinAnew_L10  : Nat → Nat → Nat → Int32 → KH → KO Nat
  | 0, _, _, _, _ => none
  | n + 1, v0, v1, v2, h => X9_joinAnew_b10 (X9_joinAnew_L10  n) v0 v1 v2 h
def f_X9_joinAnew (p0 : Nat) (p1 : Nat) (h : KH) : KO Nat := gN h p0 10 11 (fun a1 => pI h a1 4 2 0 (fun h1 => X9_joinAnew_L10  kF p0 p1 0 h1))
def f_X9_tripsAnew (p0 : Nat) (p1 : Int32) (h : KH) : KO Int32 := kcallV 10 p0 h (f_X9_plateNumbered p0 p1 h) (fun a1 h1 => kcallV 10 p0 h1 (f_X9_joinAnew p0 a1 h1) (fun a2 h2 => kcallV 4 a2 h2 (f_X3_tripCount a2 h2) (fun x1 h3 => kret x1 h3)))
def f_X3_tripWith (p0 : Nat) (p1 : Nat) (h : KH) : KO Int32 := kcallV 4 p0 h (f_X3_placeOf p0 p1 h) (fun x1 h1 => kcallV 4 p0 h1 (f_X3_beginningsAhead p0 (x1 + 1) h1) (fun x2 h2 => kret (x2 - 1) h2))
def X9_tripOf_b28  (s0 : Int32) (h : KH) : KO Int32 := kret s0 h
def f_X9_tripOf (p0 : Nat) (p1 : Int32) (h : KH) : KO Int32 := kcallV 10 p0 h (f_X9_readingNumbered p0 p1 h) (fun a1 h1 => gR h1 a1 6 5 (fun o1 => knul o1 (X9_tripOf_b28  ((-1)) h1) (fun a2 => gR h1 a1 6 5 (fun o2 => kmay o2 (fun a3 => gN h1 a3 5 3 (fun a4 => kcallV 4 a4 h1 (f_X3_tripWith a4 a1 h1) (fun x1 h2 => X9_tripOf_b28  x1 h2)))))))
def X3_beginningOf_b31 (rc4 : Nat → Int32 → Int32 → Int32 → KH → KO Int32) (v0 : Nat) (v1 : Int32) (v2 : Int32) (v3 : Int32) (h : KH) : KO Int32 := rc4 v0 v1 v2 (v3 + 1) h
def X3_beginningOf_b4 (rc4 : Nat → Int32 → Int32 → Int32 → KH → KO Int32) (v0 : Nat) (v1 : Int32) (v2 : Int32) (v3 : Int32) (h : KH) : KO Int32 := gI h v0 4 2 (fun x1 => kif (x1 ≤ v3) (kret ((-1)) h) (gN h v0 4 1 (fun a1 => gAI h a1 23 v3 (fun x2 => kif (x2 = 0) (X3_beginningOf_b31 rc4 v0 v1 v2 v3 h) (kif (v2 = v1) (kret v3 h) (X3_beginningOf_b31 rc4 v0 v1 (v2 + 1) v3 h))))))
def X3_beginningOf_L4  : Nat → Nat → Int32 → Int32 → Int32 → KH → KO Int32
  | 0, _, _, _, _, _ => none
  | n + 1, v0, v1, v2, v3, h => X3_beginningOf_b4 (X3_beginningOf_L4  n) v0 v1 v2 v3 h
def f_X3_beginningOf (p0 : Nat) (p1 : Int32) (h : KH) : KO Int32 := X3_beginningOf_L4  kF p0 p1 0 0 h
def f_X9_requiredBeginning (p0 : Nat) (p1 : Int32) (h : KH) : KO Int32 := gN h p0 5 3 (fun a1 => kcallV 4 a1 h (f_X3_beginningOf a1 p1 h) (fun x1 h1 => kif (x1 = ((-1))) (kthrow 3 h1) (kret x1 h1)))
def X3_wayFrom_b61  (v3 : Int32) (h : KH) : KO Int32 := kret v3 h
def X3_wayFrom_b7 (rc7 : Nat → Nat → Int32 → Int32 → KH → KO Int32) (v0 : Nat) (v2 : Nat) (v3 : Int32) (v4 : Int32) (h : KH) : KO Int32 := gI h v0 4 2 (fun x1 => kif (x1 ≤ v4) (X3_wayFrom_b61  v3 h) (gN h v0 4 1 (fun a1 => gAI h a1 23 v4 (fun x2 => kif (x2 = 0) (gN h v0 4 0 (fun a2 => gAN h a2 26 (v4 - 1) (fun a3 => gI h a3 6 1 (fun x3 => gN h v0 4 0 (fun a4 => gAN h a4 26 v4 (fun a5 => gI h a5 6 1 (fun x4 => kcallV 7 v2 h (f_X6_between v2 x3 x4 h) (fun x5 h1 => rc7 v0 v2 (v3 + x5) (v4 + 1) h1)))))))) (X3_wayFrom_b61  v3 h)))))
def X3_wayFrom_L7  : Nat → Nat → Nat → Int32 → Int32 → KH → KO Int32
  | 0, _, _, _, _, _ => none
  | n + 1, v0, v2, v3, v4, h => X3_wayFrom_b7 (X3_wayFrom_L7  n) v0 v2 v3 v4 h
def f_X3_wayFrom (p0 : Nat) (p1 : Int32) (p2 : Nat) (h : KH) : KO Int32 := X3_wayFrom_L7  kF p0 p2 0 (p1 + 1) h
def f_X9_tollFrom (p0 : Nat) (p1 : Nat) (p2 : Int32) (p3 : Nat) (h : KH) : KO Int32 := gN h p0 10 1 (fun a1 => gI h p3 5 2 (fun x1 => gAI h a1 21 x1 (fun x2 => gN h p0 10 0 (fun a2 => kcallV 4 p1 h (f_X3_wayFrom p1 p2 a2 h) (fun x3 h1 => kret (x2 * (x3 + 2)) h1)))))
def f_X9_toll (p0 : Nat) (p1 : Int32) (p2 : Int32) (h : KH) : KO Int32 := kcallV 10 p0 h (f_X9_plateNumbered p0 p1 h) (fun a1 h1 => gN h1 a1 5 3 (fun a2 => kbind (f_X9_requiredBeginning a1 p2 h1) (fun x1 h2 => kcallV 10 p0 h2 (f_X9_tollFrom p0 a2 x1 a1 h2) (fun x2 h3 => kret x2 h3))))
def f_X9_driverOf (p0 : Nat) (p1 : Int32) (p2 : Int32) (h : KH) : KO Int32 := kcallV 10 p0 h (f_X9_plateNumbered p0 p1 h) (fun a1 h1 => kbind (f_X9_requiredBeginning a1 p2 h1) (fun x1 h2 => gN h2 a1 5 3 (fun a2 => gN h2 a2 4 0 (fun a3 => gAN h2 a3 26 x1 (fun a4 => gI h2 a4 6 2 (fun x2 => kcallV 5 a1 h2 (f_X4_driverIn a1 x2 h2) (fun x3 h3 => kret x3 h3)))))))
def X9_dueFor_b56 (rc6 : Nat → Nat → Nat → Int32 → Int32 → Int32 → KH → KO Int32) (v0 : Nat) (v1 : Nat) (v2 : Nat) (v3 : Int32) (v4 : Int32) (v5 : Int32) (h : KH) : KO Int32 := rc6 v0 v1 v2 v3 v4 (v5 + 1) h
def X9_dueFor_b6 (rc6 : Nat → Nat → Nat → Int32 → Int32 → Int32 → KH → KO Int32) (v0 : Nat) (v1 : Nat) (v2 : Nat) (v3 : Int32) (v4 : Int32) (v5 : Int32) (h : KH) : KO Int32 := gI h v2 4 2 (fun x1 => kif (x1 ≤ v5) (kret v4 h) (gN h v2 4 1 (fun a1 => gAI h a1 23 v5 (fun x2 => kif (x2 = 0) (X9_dueFor_b56 rc6 v0 v1 v2 v3 v4 v5 h) (gN h v2 4 0 (fun a2 => gAN h a2 26 v5 (fun a3 => gI h a3 6 2 (fun x3 => kcallV 5 v1 h (f_X4_driverIn v1 x3 h) (fun x4 h1 => kif (x4 = v3) (kcallV 10 v0 h1 (f_X9_tollFrom v0 v2 v5 v1 h1) (fun x5 h2 => X9_dueFor_b56 rc6 v0 v1 v2 v3 (v4 + x5) v5 h2)) (X9_dueFor_b56 rc6 v0 v1 v2 v3 v4 v5 h1))))))))))
def X9_dueFor_L6  : Nat → Nat → Nat → Nat → Int32 → Int32 → Int32 → KH → KO Int32
  | 0, _, _, _, _, _, _, _ => none
  | n + 1, v0, v1, v2, v3, v4, v5, h => X9_dueFor_b6 (X9_dueFor_L6  n) v0 v1 v2 v3 v4 v5 h
def f_X9_dueFor (p0 : Nat) (p1 : Nat) (p2 : Nat) (p3 : Int32) (h : KH) : KO Int32 := X9_dueFor_L6  kF p0 p1 p2 p3 0 0 h
def X9_dueByKept_b4 (rc4 : Nat → Int32 → Int32 → Int32 → KH → KO Int32) (v0 : Nat) (v1 : Int32) (v2 : Int32) (v3 : Int32) (h : KH) : KO Int32 := gI h v0 10 13 (fun x1 => kif (x1 ≤ v3) (kret v2 h) (gN h v0 10 4 (fun a1 => gAN h a1 25 v3 (fun a2 => gN h a2 5 3 (fun a3 => kcallV 10 v0 h (f_X9_dueFor v0 a2 a3 v1 h) (fun x2 h1 => rc4 v0 v1 (v2 + x2) (v3 + 1) h1))))))
def X9_dueByKept_L4  : Nat → Nat → Int32 → Int32 → Int32 → KH → KO Int32
  | 0, _, _, _, _, _ => none
  | n + 1, v0, v1, v2, v3, h => X9_dueByKept_b4 (X9_dueByKept_L4  n) v0 v1 v2 v3 h
def f_X9_dueByKept (p0 : Nat) (p1 : Int32) (h : KH) : KO Int32 := X9_dueByKept_L4  kF p0 p1 0 0 h
def f_X9_due (p0 : Nat) (p1 : Int32) (h : KH) : KO Int32 := kbind (f_X9_requireDriver p1 h) (fun _ h1 => kcallV 10 p0 h1 (f_X9_dueByKept p0 p1 h1) (fun x1 h2 => kret x1 h2))
def X9_dueAnew_b8 (rc8 : Nat → Int32 → Int32 → Int32 → KH → KO Int32) (v0 : Nat) (v1 : Int32) (v2 : Int32) (v3 : Int32) (h : KH) : KO Int32 := gI h v0 10 13 (fun x1 => kif (x1 ≤ v3) (kret v2 h) (gN h v0 10 4 (fun a1 => gAN h a1 25 v3 (fun a2 => kcallV 10 v0 h (f_X9_joinAnew v0 a2 h) (fun a3 h1 => kcallV 10 v0 h1 (f_X9_dueFor v0 a2 a3 v1 h1) (fun x2 h2 => rc8 v0 v1 (v2 + x2) (v3 + 1) h2))))))
def X9_dueAnew_L8  : Nat → Nat → Int32 → Int32 → Int32 → KH → KO Int32
  | 0, _, _, _, _, _ => none
  | n + 1, v0, v1, v2, v3, h => X9_dueAnew_b8 (X9_dueAnew_L8  n) v0 v1 v2 v3 h
def f_X9_dueAnew (p0 : Nat) (p1 : Int32) (h : KH) : KO Int32 := kbind (f_X9_requireDriver p1 h) (fun _ h1 => X9_dueAnew_L8  kF p0 p1 0 0 h1)
def X9_settle_b69 (rc4 : Nat → Int64 → Int32 → KH → KO Int32) (v0 : Nat) (v1 : Int64) (v3 : Int32) (h : KH) : KO Int32 := rc4 v0 v1 (v3 + 1) h
def X9_settle_b4 (rc4 : Nat → Int64 → Int32 → KH → KO Int32) (v0 : Nat) (v1 : Int64) (v3 : Int32) (h : KH) : KO Int32 := kif (6 ≤ v3) (kret (v1.toInt32) h) (kcallV 10 v0 h (f_X9_dueByKept v0 v3 h) (fun x1 h1 => gN h1 v0 10 9 (fun a1 => gAL h1 a1 22 v3 (fun x2 => gN h1 v0 10 10 (fun a2 => gAL h1 a2 22 v3 (fun x3 => kif ((lg_cmp ((x1.toInt64) - (x2 - x3)) 0) < 0) (gN h1 v0 10 10 (fun a3 => gAL h1 a3 22 v3 (fun x4 => pAL h1 a3 22 v3 (x4 - ((x1.toInt64) - (x2 - x3))) (fun h2 => X9_settle_b69 rc4 v0 (v1 - ((x1.toInt64) - (x2 - x3))) v3 h2)))) (gN h1 v0 10 9 (fun a4 => gAL h1 a4 22 v3 (fun x5 => pAL h1 a4 22 v3 (x5 + ((x1.toInt64) - (x2 - x3))) (fun h3 => X9_settle_b69 rc4 v0 v1 v3 h3))))))))))
def X9_settle_L4  : Nat → Nat → Int64 → Int32 → KH → KO Int32
  | 0, _, _, _, _ => none
  | n + 1, v0, v1, v3, h => X9_settle_b4 (X9_settle_L4  n) v0 v1 v3 h
def f_X9_settle (p0 : Nat) (h : KH) : KO Int32 := X9_settle_L4  kF p0 0 0 h
def f_X9_billed (p0 : Nat) (p1 : Int32) (h : KH) : KO Int64 := kbind (f_X9_requireDriver p1 h) (fun _ h1 => gN h1 p0 10 9 (fun a1 => gAL h1 a1 22 p1 (fun x1 => kret x1 h1)))
def f_X9_paidBack (p0 : Nat) (p1 : Int32) (h : KH) : KO Int64 := kbind (f_X9_requireDriver p1 h) (fun _ h1 => gN h1 p0 10 10 (fun a1 => gAL h1 a1 22 p1 (fun x1 => kret x1 h1)))
def f_X8_init (p0 : Nat) (p1 : Int32) (p2 : Nat) (p3 : Int32) (p4 : Int32) (h : KH) : KO Unit := pI h p0 9 0 p1 (fun h1 => pR h1 p0 9 1 (some p2) (fun h2 => pI h2 p0 9 2 p3 (fun h3 => pI h3 p0 9 3 p4 (fun h4 => kret () h4))))
def X9_warrant_b27   (h : KH) : KO Int32 := kthrow 1 h
def f_X9_warrant (p0 : Nat) (p1 : Int32) (p2 : Int32) (p3 : Int32) (h : KH) : KO Int32 := kcallV 10 p0 h (f_X9_plateNumbered p0 p1 h) (fun a1 h1 => kbind (f_X9_isWithin p2 0 34 h1) (fun x1 h2 => kif (x1 = 0) (X9_warrant_b27   h2) (kbind (f_X9_isWithin p3 p2 34 h2) (fun x2 h3 => kif (x2 = 0) (X9_warrant_b27   h3) (gI h3 p0 10 15 (fun x3 => kif (x3 < 8) (gN h3 p0 10 7 (fun a2 => gI h3 p0 10 15 (fun x4 => nw h3 9 0 (fun a3 h4 => gI h4 p0 10 15 (fun x5 => gN h4 a1 5 3 (fun a4 => kbinI (f_X8_init a3 x5 a4 p2 p3 h4) (fun _ h5 => pAN h5 a2 27 9 x4 a3 (fun h6 => gI h6 p0 10 15 (fun x6 => pI h6 p0 10 15 (x6 + 1) (fun h7 => gI h7 p0 10 15 (fun x7 => kret (x7 - 1) h7))))))))))) (kthrow 2 h3)))))))
def f_X9_warrantNumbered (p0 : Nat) (p1 : Int32) (h : KH) : KO Nat := gI h p0 10 15 (fun x1 => kbind (f_X9_isWithin p1 0 (x1 - 1) h) (fun x2 h1 => kif (x2 = 0) (kthrow 3 h1) (gN h1 p0 10 7 (fun a1 => gAN h1 a1 27 p1 (fun a2 => kret a2 h1)))))
def X8_shownAt_b84 (rc7 : Nat → Int32 → Int32 → Int32 → Int32 → KH → KO (Option Nat)) (v0 : Nat) (v1 : Int32) (v2 : Int32) (v3 : Int32) (v4 : Int32) (h : KH) : KO (Option Nat) := rc7 v0 v1 v2 v3 (v4 + 1) h
def X8_shownAt_b77 (rc7 : Nat → Int32 → Int32 → Int32 → Int32 → KH → KO (Option Nat)) (v0 : Nat) (v1 : Int32) (v2 : Int32) (v3 : Int32) (v4 : Int32) (h : KH) : KO (Option Nat) := kif (v3 = 0) (X8_shownAt_b84 rc7 v0 v1 v2 v3 v4 h) (X8_shownAt_b84 rc7 v0 v1 (v2 + 1) v3 v4 h)
def X8_shownAt_b65 (rc7 : Nat → Int32 → Int32 → Int32 → Int32 → KH → KO (Option Nat)) (v0 : Nat) (v1 : Int32) (v2 : Int32) (v3 : Int32) (v4 : Int32) (v5 : Nat) (h : KH) : KO (Option Nat) := kif (v3 = 0) (X8_shownAt_b77 rc7 v0 v1 v2 v3 v4 h) (kif (v2 = v1) (kret (some v5) h) (X8_shownAt_b77 rc7 v0 v1 v2 v3 v4 h))
def X8_shownAt_b7 (rc7 : Nat → Int32 → Int32 → Int32 → Int32 → KH → KO (Option Nat)) (v0 : Nat) (v1 : Int32) (v2 : Int32) (v3 : Int32) (v4 : Int32) (h : KH) : KO (Option Nat) := gN h v0 9 1 (fun a1 => gI h a1 4 2 (fun x1 => kif (x1 ≤ v4) (kret none h) (gN h v0 9 1 (fun a2 => gN h a2 4 0 (fun a3 => gAN h a3 26 v4 (fun a4 => gN h v0 9 1 (fun a5 => gN h a5 4 1 (fun a6 => gAI h a6 23 v4 (fun x2 => kif (x2 = 0) (X8_shownAt_b65 rc7 v0 v1 v2 v3 v4 a4 h) (gI h a4 6 2 (fun x3 => kdv 1440 (gI h v0 9 2 (fun x4 => gI h v0 9 3 (fun x5 => kbinI (f_X9_isWithin (x3 / 1440) x4 x5 h) (fun x6 h1 => X8_shownAt_b65 rc7 v0 v1 v2 x6 v4 a4 h1)))))))))))))))
def X8_shownAt_L7  : Nat → Nat → Int32 → Int32 → Int32 → Int32 → KH → KO (Option Nat)
  | 0, _, _, _, _, _, _ => none
  | n + 1, v0, v1, v2, v3, v4, h => X8_shownAt_b7 (X8_shownAt_L7  n) v0 v1 v2 v3 v4 h
def f_X8_shownAt (p0 : Nat) (p1 : Int32) (h : KH) : KO (Option Nat) := X8_shownAt_L7  kF p0 p1 0 0 0 h
def f_X0_init (p0 : Nat) (p1 : Int32) (p2 : Int32) (p3 : Int32) (p4 : Int32) (h : KH) : KO Unit := pI h p0 1 0 p1 (fun h1 => pI h1 p0 1 1 p2 (fun h2 => pI h2 p0 1 2 p3 (fun h3 => pI h3 p0 1 3 p4 (fun h4 => kret () h4))))
def f_X9_ask (p0 : Nat) (p1 : Int32) (p2 : Int32) (h : KH) : KO Int32 := kcallV 10 p0 h (f_X9_warrantNumbered p0 p1 h) (fun a1 h1 => gI h1 p0 10 16 (fun x1 => kif (x1 < 40) (kcallV 9 a1 h1 (f_X8_shownAt a1 p2 h1) (fun o1 h2 => knul o1 (kthrow 4 h2) (fun a2 => gN h2 p0 10 8 (fun a3 => gI h2 p0 10 16 (fun x2 => nw h2 1 0 (fun a4 h3 => gI h3 a1 9 0 (fun x3 => gI h3 a2 6 1 (fun x4 => gI h3 a2 6 2 (fun x5 => kbinI (f_X0_init a4 x3 p2 x4 x5 h3) (fun _ h4 => pAN h4 a3 28 1 x2 a4 (fun h5 => gI h5 p0 10 16 (fun x6 => pI h5 p0 10 16 (x6 + 1) (fun h6 => gI h6 a2 6 1 (fun x7 => gI h6 a2 6 2 (fun x8 => kret ((100000 * x7) + x8) h6))))))))))))))) (kthrow 2 h1)))
def X0_tells_b31  (s0 : Int32) (h : KH) : KO Int32 := kretZ s0 h
def X0_tells_b30   (h : KH) : KO Int32 := X0_tells_b31  0 h
def f_X0_tells (p0 : Nat) (p1 : Option Nat) (h : KH) : KO Int32 := knul p1 (X0_tells_b30   h) (fun a1 => gI h a1 6 1 (fun x1 => gI h p0 1 2 (fun x2 => kif (x1 = x2) (gI h a1 6 2 (fun x3 => gI h p0 1 3 (fun x4 => kif (x3 = x4) (X0_tells_b31  1 h) (X0_tells_b30   h)))) (X0_tells_b30   h))))
def X9_stale_b61 (rc11 : Nat → Nat → Int32 → Int32 → KH → KO Int32) (v0 : Nat) (v2 : Nat) (v3 : Int32) (v4 : Int32) (h : KH) : KO Int32 := rc11 v0 v2 v3 (v4 + 1) h
def X9_stale_b11 (rc11 : Nat → Nat → Int32 → Int32 → KH → KO Int32) (v0 : Nat) (v2 : Nat) (v3 : Int32) (v4 : Int32) (h : KH) : KO Int32 := gI h v0 10 16 (fun x1 => kif (x1 ≤ v4) (kret v3 h) (gN h v0 10 8 (fun a1 => gAN h a1 28 v4 (fun a2 => gI h a2 1 0 (fun x2 => gI h v2 9 0 (fun x3 => kif (x2 = x3) (gI h a2 1 1 (fun x4 => kcallV 9 v2 h (f_X8_shownAt v2 x4 h) (fun o1 h1 => kcallV 1 a2 h1 (f_X0_tells a2 o1 h1) (fun x5 h2 => kif (x5 = 0) (X9_stale_b61 rc11 v0 v2 (v3 + 1) v4 h2) (X9_stale_b61 rc11 v0 v2 v3 v4 h2))))) (X9_stale_b61 rc11 v0 v2 v3 v4 h)))))))
def X9_stale_L11  : Nat → Nat → Nat → Int32 → Int32 → KH → KO Int32
  | 0, _, _, _, _, _ => none
  | n + 1, v0, v2, v3, v4, h => X9_stale_b11 (X9_stale_L11  n) v0 v2 v3 v4 h
def f_X9_stale (p0 : Nat) (p1 : Int32) (h : KH) : KO Int32 := kcallV 10 p0 h (f_X9_warrantNumbered p0 p1 h) (fun a1 h1 => X9_stale_L11  kF p0 a1 0 0 h1)
