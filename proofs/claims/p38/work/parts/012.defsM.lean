def X10_measures_b165 (rc56 : Nat → Int32 → KH → KO Unit) (rc64 : Nat → Int32 → Int32 → KH → KO Unit) (v0 : Nat) (v1 : Int32) (v2 : Int32) (s0 : Int32) (s1 : Int32) (s2 : Nat) (h : KH) : KO Unit := pAI h s2 21 s1 s0 (fun h1 => rc64 v0 v1 (v2 + 1) h1)
def X10_measures_b140 (rc56 : Nat → Int32 → KH → KO Unit) (rc64 : Nat → Int32 → Int32 → KH → KO Unit) (v0 : Nat) (v1 : Int32) (v2 : Int32) (v3 : Int32) (v4 : Int32) (s0 : Int32) (h : KH) : KO Unit := gN h v0 11 3 (fun a1 => kif (s0 = 0) (gN h v0 11 3 (fun a2 => gAI h a2 21 v2 (fun x1 => X10_measures_b165 rc56 rc64 v0 v1 v2 x1 v2 a1 h))) (X10_measures_b165 rc56 rc64 v0 v1 v2 (v3 + v4) v2 a1 h))
def X10_measures_b139 (rc56 : Nat → Int32 → KH → KO Unit) (rc64 : Nat → Int32 → Int32 → KH → KO Unit) (v0 : Nat) (v1 : Int32) (v2 : Int32) (v3 : Int32) (v4 : Int32) (h : KH) : KO Unit := X10_measures_b140 rc56 rc64 v0 v1 v2 v3 v4 0 h
def X10_measures_b135 (rc56 : Nat → Int32 → KH → KO Unit) (rc64 : Nat → Int32 → Int32 → KH → KO Unit) (v0 : Nat) (v1 : Int32) (v2 : Int32) (v3 : Int32) (v4 : Int32) (h : KH) : KO Unit := X10_measures_b140 rc56 rc64 v0 v1 v2 v3 v4 1 h
def X10_measures_b64 (rc56 : Nat → Int32 → KH → KO Unit) (rc64 : Nat → Int32 → Int32 → KH → KO Unit) (v0 : Nat) (v1 : Int32) (v2 : Int32) (h : KH) : KO Unit := kif (64 ≤ v2) (rc56 v0 (v1 + 1) h) (gN h v0 11 3 (fun a1 => kdv 8 (gAI h a1 21 ((8 * (v2 / 8)) + v1) (fun x1 => gN h v0 11 3 (fun a2 => kdv 8 (gAI h a2 21 ((8 * v1) + (v2 - v2 / 8 * 8)) (fun x2 => kif (x1 = ((-1))) (X10_measures_b139 rc56 rc64 v0 v1 v2 x1 x2 h) (kif (x2 = ((-1))) (X10_measures_b139 rc56 rc64 v0 v1 v2 x1 x2 h) (gN h v0 11 3 (fun a3 => gAI h a3 21 v2 (fun x3 => kif (x3 = ((-1))) (X10_measures_b135 rc56 rc64 v0 v1 v2 x1 x2 h) (gN h v0 11 3 (fun a4 => gAI h a4 21 v2 (fun x4 => kif (x4 ≤ (x1 + x2)) (X10_measures_b139 rc56 rc64 v0 v1 v2 x1 x2 h) (X10_measures_b135 rc56 rc64 v0 v1 v2 x1 x2 h)))))))))))))))
def X10_measures_L64 (rc56 : Nat → Int32 → KH → KO Unit) : Nat → Nat → Int32 → Int32 → KH → KO Unit
  | 0, _, _, _, _ => none
  | n + 1, v0, v1, v2, h => X10_measures_b64 rc56 (X10_measures_L64 rc56 n) v0 v1 v2 h
def X10_measures_b56 (rc56 : Nat → Int32 → KH → KO Unit) (v0 : Nat) (v1 : Int32) (h : KH) : KO Unit := kif (8 ≤ v1) (kret () h) (X10_measures_L64 rc56 kF v0 v1 0 h)
def X10_measures_L56  : Nat → Nat → Int32 → KH → KO Unit
  | 0, _, _, _ => none
  | n + 1, v0, v1, h => X10_measures_b56 (X10_measures_L56  n) v0 v1 h
def X10_measures_b47 (rc2 : Nat → Int32 → KH → KO Unit) (v0 : Nat) (v1 : Int32) (s0 : Int32) (s1 : Int32) (s2 : Nat) (h : KH) : KO Unit := pAI h s2 21 s1 s0 (fun h1 => rc2 v0 (v1 + 1) h1)
def X10_measures_b2 (rc2 : Nat → Int32 → KH → KO Unit) (v0 : Nat) (v1 : Int32) (h : KH) : KO Unit := kif (64 ≤ v1) (X10_measures_L56  kF v0 0 h) (gN h v0 11 3 (fun a1 => kdv 8 (kdv 8 (kif ((v1 / 8) = (v1 - v1 / 8 * 8)) (X10_measures_b47 rc2 v0 v1 0 v1 a1 h) (gN h v0 11 2 (fun a2 => gAI h a2 21 v1 (fun x1 => kif (x1 = 0) (X10_measures_b47 rc2 v0 v1 ((-1)) v1 a1 h) (gN h v0 11 2 (fun a3 => gAI h a3 21 v1 (fun x2 => X10_measures_b47 rc2 v0 v1 x2 v1 a1 h))))))))))
def X10_measures_L2  : Nat → Nat → Int32 → KH → KO Unit
  | 0, _, _, _ => none
  | n + 1, v0, v1, h => X10_measures_b2 (X10_measures_L2  n) v0 v1 h
def f_X10_measures (p0 : Nat) (h : KH) : KO Unit := X10_measures_L2  kF p0 0 h
def X10_init_b232 (rc232 : Nat → Int32 → KH → KO Unit) (v0 : Nat) (v1 : Int32) (h : KH) : KO Unit := kif (4 ≤ v1) (kcallV 11 v0 h (f_X10_measures v0 h) (fun _ h1 => kret () h1)) (gN h v0 11 4 (fun a1 => pAI h a1 21 v1 (1 <<< (v1 &&& 31)) (fun h2 => rc232 v0 (v1 + 1) h2)))
def X10_init_L232  : Nat → Nat → Int32 → KH → KO Unit
  | 0, _, _, _ => none
  | n + 1, v0, v1, h => X10_init_b232 (X10_init_L232  n) v0 v1 h
def f_X10_init (p0 : Nat) (h : KH) : KO Unit := pI h p0 11 1 30 (fun h1 => nw h1 21 64 (fun a1 h2 => pR h2 p0 11 2 (some a1) (fun h3 => nw h3 21 64 (fun a2 h4 => pR h4 p0 11 3 (some a2) (fun h5 => nw h5 21 4 (fun a3 h6 => pR h6 p0 11 4 (some a3) (fun h7 => nw h7 21 6 (fun a4 h8 => pR h8 p0 11 6 (some a4) (fun h9 => nw h9 23 225 (fun a5 h10 => pR h10 p0 11 7 (some a5) (fun h11 => nw h11 21 10 (fun a6 h12 => pR h12 p0 11 9 (some a6) (fun h13 => nw h13 21 60 (fun a7 h14 => pR h14 p0 11 10 (some a7) (fun h15 => nw h15 21 10 (fun a8 h16 => pR h16 p0 11 11 (some a8) (fun h17 => nw h17 21 700 (fun a9 h18 => pR h18 p0 11 13 (some a9) (fun h19 => nw h19 21 700 (fun a10 h20 => pR h20 p0 11 14 (some a10) (fun h21 => nw h21 21 700 (fun a11 h22 => pR h22 p0 11 15 (some a11) (fun h23 => nw h23 21 60 (fun a12 h24 => pR h24 p0 11 17 (some a12) (fun h25 => nw h25 21 60 (fun a13 h26 => pR h26 p0 11 18 (some a13) (fun h27 => nw h27 21 60 (fun a14 h28 => pR h28 p0 11 19 (some a14) (fun h29 => nw h29 21 360 (fun a15 h30 => pR h30 p0 11 20 (some a15) (fun h31 => nw h31 23 60 (fun a16 h32 => pR h32 p0 11 21 (some a16) (fun h33 => nw h33 21 60 (fun a17 h34 => pR h34 p0 11 22 (some a17) (fun h35 => nw h35 21 60 (fun a18 h36 => pR h36 p0 11 23 (some a18) (fun h37 => nw h37 21 60 (fun a19 h38 => pR h38 p0 11 24 (some a19) (fun h39 => nw h39 22 6 (fun a20 h40 => pR h40 p0 11 25 (some a20) (fun h41 => nw h41 22 6 (fun a21 h42 => pR h42 p0 11 26 (some a21) (fun h43 => nw h43 21 8 (fun a22 h44 => pR h44 p0 11 28 (some a22) (fun h45 => nw h45 21 8 (fun a23 h46 => pR h46 p0 11 29 (some a23) (fun h47 => nw h47 21 8 (fun a24 h48 => pR h48 p0 11 30 (some a24) (fun h49 => nw h49 21 40 (fun a25 h50 => pR h50 p0 11 32 (some a25) (fun h51 => nw h51 21 40 (fun a26 h52 => pR h52 p0 11 33 (some a26) (fun h53 => nw h53 21 40 (fun a27 h54 => pR h54 p0 11 34 (some a27) (fun h55 => X10_init_L232  kF p0 0 h55)))))))))))))))))))))))))))))))))))))))))))))))))))))))
def f_X10_thrown (p0 : Nat) (h : KH) : KO Int32 := gI h p0 11 35 (fun x1 => kret x1 h)
def X10_can_b14  (s0 : Int32) (h : KH) : KO Int32 := kretZ s0 h
def f_X10_can (p0 : Nat) (p1 : Int32) (h : KH) : KO Int32 := pI h p0 11 35 p1 (fun h1 => kif (p1 = 0) (X10_can_b14  1 h1) (X10_can_b14  0 h1))
def X10_isIn_b15  (s0 : Int32) (h : KH) : KO Int32 := kretZ s0 h
def X10_isIn_b14   (h : KH) : KO Int32 := X10_isIn_b15  0 h
def f_X10_isIn (p0 : Int32) (p1 : Int32) (p2 : Int32) (h : KH) : KO Int32 := kif (p0 < p1) (X10_isIn_b14   h) (kif (p2 < p0) (X10_isIn_b14   h) (X10_isIn_b15  1 h))
def f_X10_isGate (p0 : Int32) (h : KH) : KO Int32 := kbind (f_X10_isIn p0 0 7 h) (fun x1 h1 => kretZ x1 h1)
def f_X10_isPlate (p0 : Nat) (p1 : Int32) (h : KH) : KO Int32 := gI h p0 11 8 (fun x1 => kbind (f_X10_isIn p1 0 (x1 - 1) h) (fun x2 h1 => kretZ x2 h1))
def f_X10_isDriver (p0 : Int32) (h : KH) : KO Int32 := kbind (f_X10_isIn p0 0 5 h) (fun x1 h1 => kretZ x1 h1)
def f_X10_isReading (p0 : Nat) (p1 : Int32) (h : KH) : KO Int32 := gI h p0 11 16 (fun x1 => kbind (f_X10_isIn p1 0 (x1 - 1) h) (fun x2 h1 => kretZ x2 h1))
def X10_pass_b32  (v0 : Nat) (v1 : Int32) (s0 : Int32) (s1 : Nat) (h : KH) : KO Int32 := kcallV 11 s1 h (f_X10_can s1 s0 h) (fun x1 h1 => kif (x1 = 0) (kret 0 h1) (gI h1 v0 11 0 (fun x2 => pI h1 v0 11 0 (x2 + v1) (fun h2 => gI h2 v0 11 0 (fun x3 => kret x3 h2)))))
def f_X10_pass (p0 : Nat) (p1 : Int32) (h : KH) : KO Int32 := kbind (f_X10_isIn p1 1 2000 h) (fun x1 h1 => kif (x1 = 0) (X10_pass_b32  p0 p1 1 p0 h1) (gI h1 p0 11 0 (fun x2 => kif ((x2 + p1) ≤ 50000) (X10_pass_b32  p0 p1 0 p0 h1) (X10_pass_b32  p0 p1 2 p0 h1))))
def f_X10_now (p0 : Nat) (h : KH) : KO Int32 := pI h p0 11 35 0 (fun h1 => gI h1 p0 11 0 (fun x1 => kret x1 h1))
def X10_road_b52  (v0 : Nat) (v1 : Int32) (v2 : Int32) (v3 : Int32) (s0 : Int32) (s1 : Nat) (h : KH) : KO Int32 := kcallV 11 s1 h (f_X10_can s1 s0 h) (fun x1 h1 => kif (x1 = 0) (kret 0 h1) (gN h1 v0 11 2 (fun a1 => gAI h1 a1 21 ((8 * v1) + v2) (fun x2 => gN h1 v0 11 2 (fun a2 => pAI h1 a2 21 ((8 * v1) + v2) v3 (fun h2 => gN h2 v0 11 2 (fun a3 => pAI h2 a3 21 ((8 * v2) + v1) v3 (fun h3 => kcallV 11 v0 h3 (f_X10_measures v0 h3) (fun _ h4 => kret x2 h4)))))))))
def X10_road_b47  (v0 : Nat) (v1 : Int32) (v2 : Int32) (v3 : Int32) (s0 : Nat) (h : KH) : KO Int32 := X10_road_b52  v0 v1 v2 v3 2 s0 h
def X10_road_b19  (v0 : Nat) (v1 : Int32) (v2 : Int32) (v3 : Int32) (s0 : Int32) (h : KH) : KO Int32 := kif (s0 = 0) (X10_road_b52  v0 v1 v2 v3 1 v0 h) (kif (v1 = v2) (X10_road_b47  v0 v1 v2 v3 v0 h) (kbind (f_X10_isIn v3 0 200 h) (fun x1 h1 => kif (x1 = 0) (X10_road_b47  v0 v1 v2 v3 v0 h1) (X10_road_b52  v0 v1 v2 v3 0 v0 h1))))
def X10_road_b18  (v0 : Nat) (v1 : Int32) (v2 : Int32) (v3 : Int32) (h : KH) : KO Int32 := X10_road_b19  v0 v1 v2 v3 0 h
def f_X10_road (p0 : Nat) (p1 : Int32) (p2 : Int32) (p3 : Int32) (h : KH) : KO Int32 := kbind (f_X10_isGate p1 h) (fun x1 h1 => kif (x1 = 0) (X10_road_b18  p0 p1 p2 p3 h1) (kbind (f_X10_isGate p2 h1) (fun x2 h2 => kif (x2 = 0) (X10_road_b18  p0 p1 p2 p3 h2) (X10_road_b19  p0 p1 p2 p3 1 h2))))
def X10_distance_b41  (s0 : Int32) (h : KH) : KO Int32 := kret s0 h
def X10_distance_b20  (v0 : Nat) (v1 : Int32) (v2 : Int32) (s0 : Int32) (s1 : Nat) (h : KH) : KO Int32 := kcallV 11 s1 h (f_X10_can s1 s0 h) (fun x1 h1 => kif (x1 = 0) (X10_distance_b41  0 h1) (gN h1 v0 11 3 (fun a1 => gAI h1 a1 21 ((8 * v1) + v2) (fun x2 => X10_distance_b41  x2 h1))))
def X10_distance_b19  (v0 : Nat) (v1 : Int32) (v2 : Int32) (s0 : Nat) (h : KH) : KO Int32 := X10_distance_b20  v0 v1 v2 1 s0 h
def f_X10_distance (p0 : Nat) (p1 : Int32) (p2 : Int32) (h : KH) : KO Int32 := kbind (f_X10_isGate p1 h) (fun x1 h1 => kif (x1 = 0) (X10_distance_b19  p0 p1 p2 p0 h1) (kbind (f_X10_isGate p2 h1) (fun x2 h2 => kif (x2 = 0) (X10_distance_b19  p0 p1 p2 p0 h2) (X10_distance_b20  p0 p1 p2 0 p0 h2))))
def X10_setPause_b17  (v0 : Nat) (v1 : Int32) (s0 : Int32) (s1 : Nat) (h : KH) : KO Int32 := kcallV 11 s1 h (f_X10_can s1 s0 h) (fun x1 h1 => kif (x1 = 0) (kret 0 h1) (gI h1 v0 11 1 (fun x2 => pI h1 v0 11 1 v1 (fun h2 => kret x2 h2))))
def f_X10_setPause (p0 : Nat) (p1 : Int32) (h : KH) : KO Int32 := kbind (f_X10_isIn p1 0 500 h) (fun x1 h1 => kif (x1 = 0) (X10_setPause_b17  p0 p1 1 p0 h1) (X10_setPause_b17  p0 p1 0 p0 h1))
def X10_setRate_b25  (v0 : Nat) (v1 : Int32) (v2 : Int32) (s0 : Int32) (s1 : Nat) (h : KH) : KO Int32 := kcallV 11 s1 h (f_X10_can s1 s0 h) (fun x1 h1 => kif (x1 = 0) (kret 0 h1) (gN h1 v0 11 4 (fun a1 => gAI h1 a1 21 v1 (fun x2 => gN h1 v0 11 4 (fun a2 => pAI h1 a2 21 v1 v2 (fun h2 => kret x2 h2))))))
def X10_setRate_b24  (v0 : Nat) (v1 : Int32) (v2 : Int32) (s0 : Nat) (h : KH) : KO Int32 := X10_setRate_b25  v0 v1 v2 1 s0 h
def f_X10_setRate (p0 : Nat) (p1 : Int32) (p2 : Int32) (h : KH) : KO Int32 := kbind (f_X10_isIn p1 0 3 h) (fun x1 h1 => kif (x1 = 0) (X10_setRate_b24  p0 p1 p2 p0 h1) (kbind (f_X10_isIn p2 0 50 h1) (fun x2 h2 => kif (x2 = 0) (X10_setRate_b24  p0 p1 p2 p0 h2) (X10_setRate_b25  p0 p1 p2 0 p0 h2))))
def f_X10_isSign (p0 : Int32) (h : KH) : KO Int32 := kbind (f_X10_isIn p0 0 14 h) (fun x1 h1 => kretZ x1 h1)
def f_X10_isPair (p0 : Int32) (h : KH) : KO Int32 := kbind (f_X10_isIn p0 10 13 h) (fun x1 h1 => kretZ x1 h1)
def X10_chars_b30 (rc4 : Nat → Int32 → Int32 → KH → KO Int32) (v0 : Nat) (v2 : Int32) (s0 : Int32) (s1 : Int32) (h : KH) : KO Int32 := rc4 v0 (s1 + s0) (v2 + 1) h
def X10_chars_b4 (rc4 : Nat → Int32 → Int32 → KH → KO Int32) (v0 : Nat) (v1 : Int32) (v2 : Int32) (h : KH) : KO Int32 := gI h v0 11 5 (fun x1 => kif (x1 ≤ v2) (kret v1 h) (gN h v0 11 6 (fun a1 => gAI h a1 21 v2 (fun x2 => kbind (f_X10_isPair x2 h) (fun x3 h1 => kif (x3 = 0) (X10_chars_b30 rc4 v0 v2 1 v1 h1) (X10_chars_b30 rc4 v0 v2 2 v1 h1))))))
def X10_chars_L4  : Nat → Nat → Int32 → Int32 → KH → KO Int32
  | 0, _, _, _, _ => none
  | n + 1, v0, v1, v2, h => X10_chars_b4 (X10_chars_L4  n) v0 v1 v2 h
def f_X10_chars (p0 : Nat) (h : KH) : KO Int32 := X10_chars_L4  kF p0 0 0 h
def X10_puts_b5 (rc5 : Nat → Int32 → Int32 → Int32 → KH → KO Int32) (v0 : Nat) (v1 : Int32) (v2 : Int32) (v3 : Int32) (h : KH) : KO Int32 := kif (v3 ≤ v2) (gN h v0 11 6 (fun a1 => pAI h a1 21 v2 v1 (fun h1 => gI h1 v0 11 5 (fun x1 => pI h1 v0 11 5 (x1 + 1) (fun h2 => kcallV 11 v0 h2 (f_X10_chars v0 h2) (fun x2 h3 => kret x2 h3)))))) (gN h v0 11 6 (fun a2 => gN h v0 11 6 (fun a3 => gAI h a3 21 (v3 - 1) (fun x3 => pAI h a2 21 v3 x3 (fun h4 => rc5 v0 v1 v2 (v3 + (-1)) h4)))))
def X10_puts_L5  : Nat → Nat → Int32 → Int32 → Int32 → KH → KO Int32
  | 0, _, _, _, _, _ => none
  | n + 1, v0, v1, v2, v3, h => X10_puts_b5 (X10_puts_L5  n) v0 v1 v2 v3 h
def f_X10_puts (p0 : Nat) (p1 : Int32) (p2 : Int32) (h : KH) : KO Int32 := gI h p0 11 5 (fun x1 => X10_puts_L5  kF p0 p1 p2 x1 h)
def X10_spell_b45  (s0 : Int32) (h : KH) : KO Int32 := kret s0 h
def X10_spell_b26  (v0 : Nat) (v1 : Int32) (s0 : Int32) (s1 : Nat) (h : KH) : KO Int32 := kcallV 11 s1 h (f_X10_can s1 s0 h) (fun x1 h1 => kif (x1 = 0) (X10_spell_b45  0 h1) (gI h1 v0 11 5 (fun x2 => kcallV 11 v0 h1 (f_X10_puts v0 v1 x2 h1) (fun x3 h2 => X10_spell_b45  x3 h2))))
def f_X10_spell (p0 : Nat) (p1 : Int32) (h : KH) : KO Int32 := kbind (f_X10_isSign p1 h) (fun x1 h1 => kif (x1 = 0) (X10_spell_b26  p0 p1 1 p0 h1) (gI h1 p0 11 5 (fun x2 => kif (x2 = 6) (X10_spell_b26  p0 p1 2 p0 h1) (X10_spell_b26  p0 p1 0 p0 h1))))
def X10_insert_b60  (s0 : Int32) (h : KH) : KO Int32 := kret s0 h
def X10_insert_b44  (v0 : Nat) (v1 : Int32) (v2 : Int32) (s0 : Int32) (s1 : Nat) (h : KH) : KO Int32 := kcallV 11 s1 h (f_X10_can s1 s0 h) (fun x1 h1 => kif (x1 = 0) (X10_insert_b60  0 h1) (kcallV 11 v0 h1 (f_X10_puts v0 v1 v2 h1) (fun x2 h2 => X10_insert_b60  x2 h2)))
def f_X10_insert (p0 : Nat) (p1 : Int32) (p2 : Int32) (h : KH) : KO Int32 := kbind (f_X10_isSign p1 h) (fun x1 h1 => kif (x1 = 0) (X10_insert_b44  p0 p1 p2 1 p0 h1) (gI h1 p0 11 5 (fun x2 => kbind (f_X10_isIn p2 0 (x2 - 1) h1) (fun x3 h2 => kif (x3 = 0) (X10_insert_b44  p0 p1 p2 2 p0 h2) (gI h2 p0 11 5 (fun x4 => kif (x4 = 6) (X10_insert_b44  p0 p1 p2 3 p0 h2) (X10_insert_b44  p0 p1 p2 0 p0 h2)))))))
def X10_mirror_b7 (rc7 : Nat → Int32 → KH → KO Int32) (v0 : Nat) (v1 : Int32) (h : KH) : KO Int32 := gI h v0 11 5 (fun x1 => kdv 2 (kif ((x1 / 2) ≤ v1) (gI h v0 11 5 (fun x2 => kret x2 h)) (gN h v0 11 6 (fun a1 => gAI h a1 21 v1 (fun x3 => gN h v0 11 6 (fun a2 => gN h v0 11 6 (fun a3 => gI h v0 11 5 (fun x4 => gAI h a3 21 ((x4 - 1) - v1) (fun x5 => pAI h a2 21 v1 x5 (fun h1 => gN h1 v0 11 6 (fun a4 => gI h1 v0 11 5 (fun x6 => pAI h1 a4 21 ((x6 - 1) - v1) x3 (fun h2 => rc7 v0 (v1 + 1) h2)))))))))))))
def X10_mirror_L7  : Nat → Nat → Int32 → KH → KO Int32
  | 0, _, _, _ => none
  | n + 1, v0, v1, h => X10_mirror_b7 (X10_mirror_L7  n) v0 v1 h
def f_X10_mirror (p0 : Nat) (h : KH) : KO Int32 := pI h p0 11 35 0 (fun h1 => X10_mirror_L7  kF p0 0 h1)
def f_X10_clearSpelled (p0 : Nat) (h : KH) : KO Int32 := pI h p0 11 35 0 (fun h1 => gI h1 p0 11 5 (fun x1 => pI h1 p0 11 5 0 (fun h2 => kret x1 h2)))
def X10_charAt_b107  (v0 : Nat) (h : KH) : KO Int32 := pI h v0 11 35 1 (fun h1 => kretC 97 h1)
def X10_charAt_b94  (s0 : Int32) (h : KH) : KO Int32 := kretC ((s0.toUInt32 % 65536).toInt32) h
def X10_charAt_b37 (rc4 : Nat → Int32 → Int32 → Int32 → KH → KO Int32) (v0 : Nat) (v1 : Int32) (v2 : Int32) (v3 : Int32) (v4 : Int32) (s0 : Int32) (h : KH) : KO Int32 := kif (s0 ≤ v2) (rc4 v0 v1 (v2 - s0) (v3 + 1) h) (pI h v0 11 35 0 (fun h1 => kif (v4 = 14) (X10_charAt_b94  63 h1) (kif (10 ≤ v4) (kif (v2 = 0) (X10_charAt_b94  55357 h1) (X10_charAt_b94  ((56976 + v4) - 10) h1)) (X10_charAt_b94  (65 + v4) h1))))
def X10_charAt_b4 (rc4 : Nat → Int32 → Int32 → Int32 → KH → KO Int32) (v0 : Nat) (v1 : Int32) (v2 : Int32) (v3 : Int32) (h : KH) : KO Int32 := gI h v0 11 5 (fun x1 => kif (x1 ≤ v3) (X10_charAt_b107  v0 h) (kif (v1 < 0) (X10_charAt_b107  v0 h) (gN h v0 11 6 (fun a1 => gAI h a1 21 v3 (fun x2 => kbind (f_X10_isPair x2 h) (fun x3 h1 => kif (x3 = 0) (X10_charAt_b37 rc4 v0 v1 v2 v3 x2 1 h1) (X10_charAt_b37 rc4 v0 v1 v2 v3 x2 2 h1)))))))
def X10_charAt_L4  : Nat → Nat → Int32 → Int32 → Int32 → KH → KO Int32
  | 0, _, _, _, _, _ => none
  | n + 1, v0, v1, v2, v3, h => X10_charAt_b4 (X10_charAt_L4  n) v0 v1 v2 v3 h
def f_X10_charAt (p0 : Nat) (p1 : Int32) (h : KH) : KO Int32 := X10_charAt_L4  kF p0 p1 p1 0 h
def X10_alike_b78  (v0 : Nat) (v1 : Int32) (v2 : Int32) (s0 : Int32) (h : KH) : KO Int32 := gN h v0 11 7 (fun a1 => pAZ h a1 23 ((15 * v1) + v2) s0 (fun h1 => gN h1 v0 11 7 (fun a2 => pAZ h1 a2 23 ((15 * v2) + v1) s0 (fun h2 => kretZ s0 h2))))
def X10_alike_b51  (v0 : Nat) (v1 : Int32) (v2 : Int32) (s0 : Int32) (s1 : Nat) (h : KH) : KO Int32 := kcallV 11 s1 h (f_X10_can s1 s0 h) (fun x1 h1 => kif (x1 = 0) (kretZ 0 h1) (gN h1 v0 11 7 (fun a1 => gAI h1 a1 23 ((15 * v1) + v2) (fun x2 => kif (x2 = 0) (X10_alike_b78  v0 v1 v2 1 h1) (X10_alike_b78  v0 v1 v2 0 h1)))))
def X10_alike_b46  (v0 : Nat) (v1 : Int32) (v2 : Int32) (s0 : Nat) (h : KH) : KO Int32 := X10_alike_b51  v0 v1 v2 2 s0 h
def X10_alike_b19  (v0 : Nat) (v1 : Int32) (v2 : Int32) (s0 : Int32) (h : KH) : KO Int32 := kif (s0 = 0) (X10_alike_b51  v0 v1 v2 1 v0 h) (kif (v1 = v2) (X10_alike_b46  v0 v1 v2 v0 h) (kif (v1 = 14) (X10_alike_b46  v0 v1 v2 v0 h) (kif (v2 = 14) (X10_alike_b46  v0 v1 v2 v0 h) (X10_alike_b51  v0 v1 v2 0 v0 h))))
def X10_alike_b18  (v0 : Nat) (v1 : Int32) (v2 : Int32) (h : KH) : KO Int32 := X10_alike_b19  v0 v1 v2 0 h
def f_X10_alike (p0 : Nat) (p1 : Int32) (p2 : Int32) (h : KH) : KO Int32 := kbind (f_X10_isSign p1 h) (fun x1 h1 => kif (x1 = 0) (X10_alike_b18  p0 p1 p2 h1) (kbind (f_X10_isSign p2 h1) (fun x2 h2 => kif (x2 = 0) (X10_alike_b18  p0 p1 p2 h2) (X10_alike_b19  p0 p1 p2 1 h2))))
def X10_isTaken_b94 (rc4 : Nat → Int32 → Int32 → KH → KO Int32) (v0 : Nat) (v2 : Int32) (s0 : Int32) (h : KH) : KO Int32 := rc4 v0 s0 (v2 + 1) h
def X10_isTaken_b89 (rc4 : Nat → Int32 → Int32 → KH → KO Int32) (v0 : Nat) (v2 : Int32) (h : KH) : KO Int32 := X10_isTaken_b94 rc4 v0 v2 1 h
def X10_isTaken_b81 (rc4 : Nat → Int32 → Int32 → KH → KO Int32) (v0 : Nat) (v1 : Int32) (v2 : Int32) (v3 : Int32) (h : KH) : KO Int32 := kif (v1 = 0) (kif (v3 = 0) (X10_isTaken_b94 rc4 v0 v2 0 h) (X10_isTaken_b89 rc4 v0 v2 h)) (X10_isTaken_b89 rc4 v0 v2 h)
def X10_isTaken_b74 (rc4 : Nat → Int32 → Int32 → KH → KO Int32) (rc34 : Nat → Int32 → Int32 → Int32 → Int32 → KH → KO Int32) (v0 : Nat) (v1 : Int32) (v2 : Int32) (v4 : Int32) (s0 : Int32) (h : KH) : KO Int32 := rc34 v0 v1 v2 s0 (v4 + 1) h
def X10_isTaken_b34 (rc4 : Nat → Int32 → Int32 → KH → KO Int32) (rc34 : Nat → Int32 → Int32 → Int32 → Int32 → KH → KO Int32) (v0 : Nat) (v1 : Int32) (v2 : Int32) (v3 : Int32) (v4 : Int32) (h : KH) : KO Int32 := gI h v0 11 5 (fun x1 => kif (x1 ≤ v4) (X10_isTaken_b81 rc4 v0 v1 v2 v3 h) (kif (v3 = 0) (X10_isTaken_b81 rc4 v0 v1 v2 v3 h) (gN h v0 11 10 (fun a1 => gAI h a1 21 ((6 * v2) + v4) (fun x2 => gN h v0 11 6 (fun a2 => gAI h a2 21 v4 (fun x3 => kif (x2 = x3) (X10_isTaken_b74 rc4 rc34 v0 v1 v2 v4 1 h) (X10_isTaken_b74 rc4 rc34 v0 v1 v2 v4 0 h))))))))
def X10_isTaken_L34 (rc4 : Nat → Int32 → Int32 → KH → KO Int32) : Nat → Nat → Int32 → Int32 → Int32 → Int32 → KH → KO Int32
  | 0, _, _, _, _, _, _ => none
  | n + 1, v0, v1, v2, v3, v4, h => X10_isTaken_b34 rc4 (X10_isTaken_L34 rc4 n) v0 v1 v2 v3 v4 h
def X10_isTaken_b30 (rc4 : Nat → Int32 → Int32 → KH → KO Int32) (v0 : Nat) (v1 : Int32) (v2 : Int32) (s0 : Int32) (h : KH) : KO Int32 := X10_isTaken_L34 rc4 kF v0 v1 v2 s0 0 h
def X10_isTaken_b4 (rc4 : Nat → Int32 → Int32 → KH → KO Int32) (v0 : Nat) (v1 : Int32) (v2 : Int32) (h : KH) : KO Int32 := gI h v0 11 8 (fun x1 => kif (x1 ≤ v2) (kretZ v1 h) (gN h v0 11 9 (fun a1 => gAI h a1 21 v2 (fun x2 => gI h v0 11 5 (fun x3 => kif (x2 = x3) (X10_isTaken_b30 rc4 v0 v1 v2 1 h) (X10_isTaken_b30 rc4 v0 v1 v2 0 h))))))
def X10_isTaken_L4  : Nat → Nat → Int32 → Int32 → KH → KO Int32
  | 0, _, _, _, _ => none
  | n + 1, v0, v1, v2, h => X10_isTaken_b4 (X10_isTaken_L4  n) v0 v1 v2 h
def f_X10_isTaken (p0 : Nat) (h : KH) : KO Int32 := X10_isTaken_L4  kF p0 0 0 h
def X10_isPlain_b43 (rc15 : Nat → Int32 → Int32 → KH → KO Int32) (v0 : Nat) (v2 : Int32) (s0 : Int32) (h : KH) : KO Int32 := rc15 v0 s0 (v2 + 1) h
def X10_isPlain_b42 (rc15 : Nat → Int32 → Int32 → KH → KO Int32) (v0 : Nat) (v2 : Int32) (h : KH) : KO Int32 := X10_isPlain_b43 rc15 v0 v2 0 h
def X10_isPlain_b15 (rc15 : Nat → Int32 → Int32 → KH → KO Int32) (v0 : Nat) (v1 : Int32) (v2 : Int32) (h : KH) : KO Int32 := gI h v0 11 5 (fun x1 => kif (x1 ≤ v2) (kretZ v1 h) (kif (v1 = 0) (X10_isPlain_b42 rc15 v0 v2 h) (gN h v0 11 6 (fun a1 => gAI h a1 21 v2 (fun x2 => kif (x2 = 14) (X10_isPlain_b42 rc15 v0 v2 h) (X10_isPlain_b43 rc15 v0 v2 1 h))))))
def X10_isPlain_L15  : Nat → Nat → Int32 → Int32 → KH → KO Int32
  | 0, _, _, _, _ => none
  | n + 1, v0, v1, v2, h => X10_isPlain_b15 (X10_isPlain_L15  n) v0 v1 v2 h
def X10_isPlain_b12  (v0 : Nat) (s0 : Int32) (h : KH) : KO Int32 := X10_isPlain_L15  kF v0 s0 0 h
def f_X10_isPlain (p0 : Nat) (h : KH) : KO Int32 := gI h p0 11 5 (fun x1 => kif (x1 ≤ 0) (X10_isPlain_b12  p0 0 h) (X10_isPlain_b12  p0 1 h))
def f_X10_holds (p0 : Nat) (p1 : Int32) (p2 : Int32) (h : KH) : KO Unit := gN h p0 11 13 (fun a1 => gI h p0 11 12 (fun x1 => pAI h a1 21 x1 p1 (fun h1 => gN h1 p0 11 14 (fun a2 => gI h1 p0 11 12 (fun x2 => pAI h1 a2 21 x2 p2 (fun h2 => gN h2 p0 11 15 (fun a3 => gI h2 p0 11 12 (fun x3 => gI h2 p0 11 0 (fun x4 => pAI h2 a3 21 x3 x4 (fun h3 => gI h3 p0 11 12 (fun x5 => pI h3 p0 11 12 (x5 + 1) (fun h4 => kret () h4))))))))))))
def X10_register_b83 (rc83 : Nat → Int32 → Int32 → Int32 → KH → KO Int32) (v0 : Nat) (v1 : Int32) (v2 : Int32) (v5 : Int32) (h : KH) : KO Int32 := gI h v0 11 5 (fun x1 => kif (x1 ≤ v5) (gN h v0 11 11 (fun a1 => gI h v0 11 8 (fun x2 => pAI h a1 21 x2 v2 (fun h1 => gI h1 v0 11 8 (fun x3 => kcallV 11 v0 h1 (f_X10_holds v0 x3 v1 h1) (fun _ h2 => gI h2 v0 11 8 (fun x4 => pI h2 v0 11 8 (x4 + 1) (fun h3 => gI h3 v0 11 8 (fun x5 => kret (x5 - 1) h3))))))))) (gN h v0 11 10 (fun a2 => gI h v0 11 8 (fun x6 => gN h v0 11 6 (fun a3 => gAI h a3 21 v5 (fun x7 => pAI h a2 21 ((6 * x6) + v5) x7 (fun h4 => rc83 v0 v1 v2 (v5 + 1) h4)))))))
def X10_register_L83  : Nat → Nat → Int32 → Int32 → Int32 → KH → KO Int32
  | 0, _, _, _, _, _ => none
  | n + 1, v0, v1, v2, v5, h => X10_register_b83 (X10_register_L83  n) v0 v1 v2 v5 h
def X10_register_b59  (v0 : Nat) (v1 : Int32) (v2 : Int32) (s0 : Int32) (s1 : Nat) (h : KH) : KO Int32 := kcallV 11 s1 h (f_X10_can s1 s0 h) (fun x1 h1 => kif (x1 = 0) (kret 0 h1) (gN h1 v0 11 9 (fun a1 => gI h1 v0 11 8 (fun x2 => gI h1 v0 11 5 (fun x3 => pAI h1 a1 21 x2 x3 (fun h2 => X10_register_L83  kF v0 v1 v2 0 h2))))))
def X10_register_b54  (v0 : Nat) (v1 : Int32) (v2 : Int32) (s0 : Nat) (h : KH) : KO Int32 := X10_register_b59  v0 v1 v2 3 s0 h
def f_X10_register (p0 : Nat) (p1 : Int32) (p2 : Int32) (h : KH) : KO Int32 := kbind (f_X10_isDriver p1 h) (fun x1 h1 => kbind (f_X10_isIn p2 0 3 h1) (fun x2 h2 => kif (x1 = 0) (X10_register_b59  p0 p1 p2 1 p0 h2) (kif (x2 = 0) (X10_register_b59  p0 p1 p2 2 p0 h2) (kcallV 11 p0 h2 (f_X10_isPlain p0 h2) (fun x3 h3 => kif (x3 = 0) (X10_register_b54  p0 p1 p2 p0 h3) (kcallV 11 p0 h3 (f_X10_isTaken p0 h3) (fun x4 h4 => kif (x4 = 0) (gI h4 p0 11 8 (fun x5 => kif (x5 = 10) (X10_register_b54  p0 p1 p2 p0 h4) (X10_register_b59  p0 p1 p2 0 p0 h4))) (X10_register_b54  p0 p1 p2 p0 h4))))))))
def X10_holderAt_b47 (rc5 : Nat → Int32 → Int32 → Int32 → Int32 → KH → KO Int32) (v0 : Nat) (v1 : Int32) (v2 : Int32) (v4 : Int32) (s0 : Int32) (h : KH) : KO Int32 := rc5 v0 v1 v2 s0 (v4 + 1) h
def X10_holderAt_b46 (rc5 : Nat → Int32 → Int32 → Int32 → Int32 → KH → KO Int32) (v0 : Nat) (v1 : Int32) (v2 : Int32) (v3 : Int32) (v4 : Int32) (h : KH) : KO Int32 := X10_holderAt_b47 rc5 v0 v1 v2 v4 v3 h
def X10_holderAt_b5 (rc5 : Nat → Int32 → Int32 → Int32 → Int32 → KH → KO Int32) (v0 : Nat) (v1 : Int32) (v2 : Int32) (v3 : Int32) (v4 : Int32) (h : KH) : KO Int32 := gI h v0 11 12 (fun x1 => kif (x1 ≤ v4) (kret v3 h) (gN h v0 11 13 (fun a1 => gAI h a1 21 v4 (fun x2 => kif (x2 = v1) (gN h v0 11 15 (fun a2 => gAI h a2 21 v4 (fun x3 => kif (v2 < x3) (X10_holderAt_b46 rc5 v0 v1 v2 v3 v4 h) (gN h v0 11 14 (fun a3 => gAI h a3 21 v4 (fun x4 => X10_holderAt_b47 rc5 v0 v1 v2 v4 x4 h)))))) (X10_holderAt_b46 rc5 v0 v1 v2 v3 v4 h)))))
def X10_holderAt_L5  : Nat → Nat → Int32 → Int32 → Int32 → Int32 → KH → KO Int32
  | 0, _, _, _, _, _, _ => none
  | n + 1, v0, v1, v2, v3, v4, h => X10_holderAt_b5 (X10_holderAt_L5  n) v0 v1 v2 v3 v4 h
def f_X10_holderAt (p0 : Nat) (p1 : Int32) (p2 : Int32) (h : KH) : KO Int32 := X10_holderAt_L5  kF p0 p1 p2 ((-1)) 0 h
def X10_sell_b21  (v0 : Nat) (v1 : Int32) (v2 : Int32) (s0 : Int32) (s1 : Nat) (h : KH) : KO Int32 := kcallV 11 s1 h (f_X10_can s1 s0 h) (fun x1 h1 => kif (x1 = 0) (kret 0 h1) (gI h1 v0 11 0 (fun x2 => kcallV 11 v0 h1 (f_X10_holderAt v0 v1 x2 h1) (fun x3 h2 => kcallV 11 v0 h2 (f_X10_holds v0 v1 v2 h2) (fun _ h3 => kret x3 h3)))))
def X10_sell_b20  (v0 : Nat) (v1 : Int32) (v2 : Int32) (s0 : Nat) (h : KH) : KO Int32 := X10_sell_b21  v0 v1 v2 1 s0 h
def f_X10_sell (p0 : Nat) (p1 : Int32) (p2 : Int32) (h : KH) : KO Int32 := kcallV 11 p0 h (f_X10_isPlate p0 p1 h) (fun x1 h1 => kif (x1 = 0) (X10_sell_b20  p0 p1 p2 p0 h1) (kbind (f_X10_isDriver p2 h1) (fun x2 h2 => kif (x2 = 0) (X10_sell_b20  p0 p1 p2 p0 h2) (X10_sell_b21  p0 p1 p2 0 p0 h2))))
def f_X10_plates (p0 : Nat) (h : KH) : KO Int32 := pI h p0 11 35 0 (fun h1 => gI h1 p0 11 8 (fun x1 => kret x1 h1))
def f_X10_signAt (p0 : Nat) (p1 : Int32) (p2 : Int32) (h : KH) : KO Int32 := gN h p0 11 10 (fun a1 => gN h p0 11 9 (fun a2 => gAI h a2 21 p1 (fun x1 => gAI h a1 21 (((6 * p1) + x1) - p2) (fun x2 => kret x2 h))))
def X10_isAhead_b118  (s0 : Int32) (h : KH) : KO Int32 := kretZ s0 h
def X10_isAhead_b68  (v0 : Nat) (v1 : Int32) (v2 : Int32) (v3 : Int32) (s0 : Int32) (h : KH) : KO Int32 := kif (s0 = 0) (kcallV 11 v0 h (f_X10_signAt v0 v1 v3 h) (fun x1 h1 => kcallV 11 v0 h1 (f_X10_signAt v0 v2 v3 h1) (fun x2 h2 => kif (x2 ≤ x1) (X10_isAhead_b118  0 h2) (X10_isAhead_b118  1 h2)))) (gN h v0 11 9 (fun a1 => gAI h a1 21 v1 (fun x3 => gN h v0 11 9 (fun a2 => gAI h a2 21 v2 (fun x4 => kif (x4 ≤ x3) (X10_isAhead_b118  0 h) (X10_isAhead_b118  1 h))))))
def X10_isAhead_b63  (v0 : Nat) (v1 : Int32) (v2 : Int32) (v3 : Int32) (h : KH) : KO Int32 := X10_isAhead_b68  v0 v1 v2 v3 1 h
def X10_isAhead_b43  (v0 : Nat) (v1 : Int32) (v2 : Int32) (v3 : Int32) (h : KH) : KO Int32 := gN h v0 11 9 (fun a1 => gAI h a1 21 v1 (fun x1 => kif (x1 < v3) (X10_isAhead_b63  v0 v1 v2 v3 h) (gN h v0 11 9 (fun a2 => gAI h a2 21 v2 (fun x2 => kif (v3 ≤ x2) (X10_isAhead_b68  v0 v1 v2 v3 0 h) (X10_isAhead_b63  v0 v1 v2 v3 h))))))
def X10_isAhead_b2 (rc2 : Nat → Int32 → Int32 → Int32 → KH → KO Int32) (v0 : Nat) (v1 : Int32) (v2 : Int32) (v3 : Int32) (h : KH) : KO Int32 := gN h v0 11 9 (fun a1 => gAI h a1 21 v1 (fun x1 => kif (x1 < v3) (X10_isAhead_b43  v0 v1 v2 v3 h) (gN h v0 11 9 (fun a2 => gAI h a2 21 v2 (fun x2 => kif (x2 < v3) (X10_isAhead_b43  v0 v1 v2 v3 h) (kcallV 11 v0 h (f_X10_signAt v0 v1 v3 h) (fun x3 h1 => kcallV 11 v0 h1 (f_X10_signAt v0 v2 v3 h1) (fun x4 h2 => kif (x3 = x4) (rc2 v0 v1 v2 (v3 + 1) h2) (X10_isAhead_b43  v0 v1 v2 v3 h2)))))))))
def X10_isAhead_L2  : Nat → Nat → Int32 → Int32 → Int32 → KH → KO Int32
  | 0, _, _, _, _, _ => none
  | n + 1, v0, v1, v2, v3, h => X10_isAhead_b2 (X10_isAhead_L2  n) v0 v1 v2 v3 h
def f_X10_isAhead (p0 : Nat) (p1 : Int32) (p2 : Int32) (h : KH) : KO Int32 := X10_isAhead_L2  kF p0 p1 p2 1 h
def X10_plateAt_b93  (s0 : Int32) (h : KH) : KO Int32 := kret s0 h
def X10_plateAt_b82  (v2 : Int32) (s0 : Int32) (s1 : Nat) (h : KH) : KO Int32 := kcallV 11 s1 h (f_X10_can s1 s0 h) (fun x1 h1 => kif (x1 = 0) (X10_plateAt_b93  0 h1) (X10_plateAt_b93  v2 h1))
def X10_plateAt_b64 (rc4 : Nat → Int32 → Int32 → Int32 → KH → KO Int32) (v0 : Nat) (v1 : Int32) (v3 : Int32) (s0 : Int32) (h : KH) : KO Int32 := rc4 v0 v1 s0 (v3 + 1) h
def X10_plateAt_b44 (rc4 : Nat → Int32 → Int32 → Int32 → KH → KO Int32) (rc18 : Nat → Int32 → Int32 → Int32 → Int32 → Int32 → KH → KO Int32) (v0 : Nat) (v1 : Int32) (v2 : Int32) (v3 : Int32) (v5 : Int32) (s0 : Int32) (s1 : Int32) (h : KH) : KO Int32 := rc18 v0 v1 v2 v3 (s1 + s0) (v5 + 1) h
def X10_plateAt_b18 (rc4 : Nat → Int32 → Int32 → Int32 → KH → KO Int32) (rc18 : Nat → Int32 → Int32 → Int32 → Int32 → Int32 → KH → KO Int32) (v0 : Nat) (v1 : Int32) (v2 : Int32) (v3 : Int32) (v4 : Int32) (v5 : Int32) (h : KH) : KO Int32 := gI h v0 11 8 (fun x1 => kif (x1 ≤ v5) (kif (v4 = v1) (X10_plateAt_b64 rc4 v0 v1 v3 v3 h) (X10_plateAt_b64 rc4 v0 v1 v3 v2 h)) (kcallV 11 v0 h (f_X10_isAhead v0 v5 v3 h) (fun x2 h1 => kif (x2 = 0) (X10_plateAt_b44 rc4 rc18 v0 v1 v2 v3 v5 0 v4 h1) (X10_plateAt_b44 rc4 rc18 v0 v1 v2 v3 v5 1 v4 h1))))
def X10_plateAt_L18 (rc4 : Nat → Int32 → Int32 → Int32 → KH → KO Int32) : Nat → Nat → Int32 → Int32 → Int32 → Int32 → Int32 → KH → KO Int32
  | 0, _, _, _, _, _, _, _ => none
  | n + 1, v0, v1, v2, v3, v4, v5, h => X10_plateAt_b18 rc4 (X10_plateAt_L18 rc4 n) v0 v1 v2 v3 v4 v5 h
def X10_plateAt_b4 (rc4 : Nat → Int32 → Int32 → Int32 → KH → KO Int32) (v0 : Nat) (v1 : Int32) (v2 : Int32) (v3 : Int32) (h : KH) : KO Int32 := gI h v0 11 8 (fun x1 => kif (x1 ≤ v3) (kif (v2 = ((-1))) (X10_plateAt_b82  v2 1 v0 h) (X10_plateAt_b82  v2 0 v0 h)) (X10_plateAt_L18 rc4 kF v0 v1 v2 v3 0 0 h))
def X10_plateAt_L4  : Nat → Nat → Int32 → Int32 → Int32 → KH → KO Int32
  | 0, _, _, _, _, _ => none
  | n + 1, v0, v1, v2, v3, h => X10_plateAt_b4 (X10_plateAt_L4  n) v0 v1 v2 v3 h
def f_X10_plateAt (p0 : Nat) (p1 : Int32) (h : KH) : KO Int32 := X10_plateAt_L4  kF p0 p1 ((-1)) 0 h
def X10_holder_b46  (s0 : Int32) (h : KH) : KO Int32 := kret s0 h
def X10_holder_b30  (v0 : Nat) (v1 : Int32) (v2 : Int32) (s0 : Int32) (s1 : Nat) (h : KH) : KO Int32 := kcallV 11 s1 h (f_X10_can s1 s0 h) (fun x1 h1 => kif (x1 = 0) (X10_holder_b46  0 h1) (kcallV 11 v0 h1 (f_X10_holderAt v0 v1 v2 h1) (fun x2 h2 => X10_holder_b46  x2 h2)))
def f_X10_holder (p0 : Nat) (p1 : Int32) (p2 : Int32) (h : KH) : KO Int32 := kcallV 11 p0 h (f_X10_isPlate p0 p1 h) (fun x1 h1 => kif (x1 = 0) (X10_holder_b30  p0 p1 p2 1 p0 h1) (gI h1 p0 11 0 (fun x2 => kbind (f_X10_isIn p2 0 x2 h1) (fun x3 h2 => kif (x3 = 0) (X10_holder_b30  p0 p1 p2 2 p0 h2) (X10_holder_b30  p0 p1 p2 0 p0 h2)))))
def X10_read_b95 (rc95 : Nat → Int32 → KH → KO Int32) (v0 : Nat) (v4 : Int32) (h : KH) : KO Int32 := gI h v0 11 5 (fun x1 => kif (x1 ≤ v4) (gI h v0 11 16 (fun x2 => pI h v0 11 16 (x2 + 1) (fun h1 => gI h1 v0 11 16 (fun x3 => kret (x3 - 1) h1)))) (gN h v0 11 20 (fun a1 => gI h v0 11 16 (fun x4 => gN h v0 11 6 (fun a2 => gAI h a2 21 v4 (fun x5 => pAI h a1 21 ((6 * x4) + v4) x5 (fun h2 => rc95 v0 (v4 + 1) h2)))))))
def X10_read_L95  : Nat → Nat → Int32 → KH → KO Int32
  | 0, _, _, _ => none
  | n + 1, v0, v4, h => X10_read_b95 (X10_read_L95  n) v0 v4 h
def X10_read_b51  (v0 : Nat) (v1 : Int32) (v2 : Int32) (s0 : Int32) (s1 : Nat) (h : KH) : KO Int32 := kcallV 11 s1 h (f_X10_can s1 s0 h) (fun x1 h1 => kif (x1 = 0) (kret 0 h1) (gN h1 v0 11 17 (fun a1 => gI h1 v0 11 16 (fun x2 => pAI h1 a1 21 x2 v1 (fun h2 => gN h2 v0 11 18 (fun a2 => gI h2 v0 11 16 (fun x3 => pAI h2 a2 21 x3 v2 (fun h3 => gN h3 v0 11 19 (fun a3 => gI h3 v0 11 16 (fun x4 => gI h3 v0 11 5 (fun x5 => pAI h3 a3 21 x4 x5 (fun h4 => X10_read_L95  kF v0 0 h4))))))))))))
def X10_read_b46  (v0 : Nat) (v1 : Int32) (v2 : Int32) (s0 : Nat) (h : KH) : KO Int32 := X10_read_b51  v0 v1 v2 3 s0 h
def f_X10_read (p0 : Nat) (p1 : Int32) (p2 : Int32) (h : KH) : KO Int32 := kbind (f_X10_isGate p1 h) (fun x1 h1 => kif (x1 = 0) (X10_read_b51  p0 p1 p2 1 p0 h1) (gI h1 p0 11 0 (fun x2 => kbind (f_X10_isIn p2 0 x2 h1) (fun x3 h2 => kif (x3 = 0) (X10_read_b51  p0 p1 p2 2 p0 h2) (gI h2 p0 11 5 (fun x4 => kif (x4 = 0) (X10_read_b46  p0 p1 p2 p0 h2) (gI h2 p0 11 16 (fun x5 => kif (x5 = 60) (X10_read_b46  p0 p1 p2 p0 h2) (X10_read_b51  p0 p1 p2 0 p0 h2)))))))))
def X10_costOf_b134  (v3 : Int32) (h : KH) : KO Int32 := kret v3 h
def X10_costOf_b127 (rc24 : Nat → Int32 → Int32 → Int32 → Int32 → KH → KO Int32) (v0 : Nat) (v1 : Int32) (v2 : Int32) (v4 : Int32) (s0 : Int32) (h : KH) : KO Int32 := rc24 v0 v1 v2 s0 (v4 + 1) h
def X10_costOf_b111 (rc24 : Nat → Int32 → Int32 → Int32 → Int32 → KH → KO Int32) (v0 : Nat) (v1 : Int32) (v2 : Int32) (v3 : Int32) (v4 : Int32) (s0 : Int32) (h : KH) : KO Int32 := kif (s0 = ((-1))) (X10_costOf_b127 rc24 v0 v1 v2 v4 ((-1)) h) (X10_costOf_b127 rc24 v0 v1 v2 v4 (v3 + s0) h)
def X10_costOf_b24 (rc24 : Nat → Int32 → Int32 → Int32 → Int32 → KH → KO Int32) (v0 : Nat) (v1 : Int32) (v2 : Int32) (v3 : Int32) (v4 : Int32) (h : KH) : KO Int32 := gN h v0 11 19 (fun a1 => gAI h a1 21 v1 (fun x1 => kif (x1 ≤ v4) (X10_costOf_b134  v3 h) (kif (v3 = ((-1))) (X10_costOf_b134  v3 h) (gN h v0 11 20 (fun a2 => gAI h a2 21 ((6 * v1) + v4) (fun x2 => gN h v0 11 10 (fun a3 => gAI h a3 21 ((6 * v2) + v4) (fun x3 => kif (x2 = x3) (X10_costOf_b111 rc24 v0 v1 v2 v3 v4 0 h) (kif (x2 = 14) (X10_costOf_b111 rc24 v0 v1 v2 v3 v4 2 h) (gN h v0 11 7 (fun a4 => gAI h a4 23 ((15 * x2) + x3) (fun x4 => kif (x4 = 0) (X10_costOf_b111 rc24 v0 v1 v2 v3 v4 ((-1)) h) (X10_costOf_b111 rc24 v0 v1 v2 v3 v4 1 h)))))))))))))
def X10_costOf_L24  : Nat → Nat → Int32 → Int32 → Int32 → Int32 → KH → KO Int32
  | 0, _, _, _, _, _, _ => none
  | n + 1, v0, v1, v2, v3, v4, h => X10_costOf_b24 (X10_costOf_L24  n) v0 v1 v2 v3 v4 h
def X10_costOf_b20  (v0 : Nat) (v1 : Int32) (v2 : Int32) (s0 : Int32) (h : KH) : KO Int32 := X10_costOf_L24  kF v0 v1 v2 s0 0 h
def f_X10_costOf (p0 : Nat) (p1 : Int32) (p2 : Int32) (h : KH) : KO Int32 := gN h p0 11 19 (fun a1 => gAI h a1 21 p1 (fun x1 => gN h p0 11 9 (fun a2 => gAI h a2 21 p2 (fun x2 => kif (x1 = x2) (X10_costOf_b20  p0 p1 p2 0 h) (X10_costOf_b20  p0 p1 p2 ((-1)) h)))))
def X10_plateFor_b98  (s0 : Int32) (h : KH) : KO Int32 := kret s0 h
def X10_plateFor_b79  (v0 : Nat) (v1 : Int32) (v2 : Int32) (h : KH) : KO Int32 := gN h v0 11 21 (fun a1 => gAI h a1 23 v1 (fun x1 => kif (x1 = 0) (X10_plateFor_b98  v2 h) (gN h v0 11 22 (fun a2 => gAI h a2 21 v1 (fun x2 => X10_plateFor_b98  x2 h)))))
def X10_plateFor_b73 (rc7 : Nat → Int32 → Int32 → Int32 → Int32 → KH → KO Int32) (v0 : Nat) (v1 : Int32) (v2 : Int32) (v3 : Int32) (v4 : Int32) (h : KH) : KO Int32 := rc7 v0 v1 v2 v3 (v4 + 1) h
def X10_plateFor_b67 (rc7 : Nat → Int32 → Int32 → Int32 → Int32 → KH → KO Int32) (v0 : Nat) (v1 : Int32) (v4 : Int32) (v5 : Int32) (h : KH) : KO Int32 := X10_plateFor_b73 rc7 v0 v1 v4 v5 v4 h
def X10_plateFor_b7 (rc7 : Nat → Int32 → Int32 → Int32 → Int32 → KH → KO Int32) (v0 : Nat) (v1 : Int32) (v2 : Int32) (v3 : Int32) (v4 : Int32) (h : KH) : KO Int32 := gI h v0 11 8 (fun x1 => kif (x1 ≤ v4) (X10_plateFor_b79  v0 v1 v2 h) (gN h v0 11 21 (fun a1 => gAI h a1 23 v1 (fun x2 => kif (x2 = 0) (kcallV 11 v0 h (f_X10_costOf v0 v1 v4 h) (fun x3 h1 => kif (x3 = ((-1))) (X10_plateFor_b73 rc7 v0 v1 v2 v3 v4 h1) (kif (v2 = ((-1))) (X10_plateFor_b67 rc7 v0 v1 v4 x3 h1) (kif (x3 < v3) (X10_plateFor_b67 rc7 v0 v1 v4 x3 h1) (kif (x3 = v3) (kcallV 11 v0 h1 (f_X10_isAhead v0 v4 v2 h1) (fun x4 h2 => kif (x4 = 0) (X10_plateFor_b73 rc7 v0 v1 v2 v3 v4 h2) (X10_plateFor_b67 rc7 v0 v1 v4 x3 h2))) (X10_plateFor_b73 rc7 v0 v1 v2 v3 v4 h1)))))) (X10_plateFor_b79  v0 v1 v2 h)))))
def X10_plateFor_L7  : Nat → Nat → Int32 → Int32 → Int32 → Int32 → KH → KO Int32
  | 0, _, _, _, _, _, _ => none
  | n + 1, v0, v1, v2, v3, v4, h => X10_plateFor_b7 (X10_plateFor_L7  n) v0 v1 v2 v3 v4 h
def f_X10_plateFor (p0 : Nat) (p1 : Int32) (h : KH) : KO Int32 := X10_plateFor_L7  kF p0 p1 ((-1)) ((-1)) 0 h
def X10_correct_b38  (v0 : Nat) (v1 : Int32) (v2 : Int32) (s0 : Int32) (s1 : Nat) (h : KH) : KO Int32 := kcallV 11 s1 h (f_X10_can s1 s0 h) (fun x1 h1 => kif (x1 = 0) (kret 0 h1) (kcallV 11 v0 h1 (f_X10_plateFor v0 v1 h1) (fun x2 h2 => gN h2 v0 11 21 (fun a1 => pAZ h2 a1 23 v1 1 (fun h3 => gN h3 v0 11 22 (fun a2 => pAI h3 a2 21 v1 v2 (fun h4 => kret x2 h4)))))))
def X10_correct_b27  (v0 : Nat) (v1 : Int32) (v2 : Int32) (s0 : Int32) (h : KH) : KO Int32 := kif (s0 = 0) (X10_correct_b38  v0 v1 v2 1 v0 h) (X10_correct_b38  v0 v1 v2 0 v0 h)
def X10_correct_b26  (v0 : Nat) (v1 : Int32) (v2 : Int32) (h : KH) : KO Int32 := X10_correct_b27  v0 v1 v2 0 h
def f_X10_correct (p0 : Nat) (p1 : Int32) (p2 : Int32) (h : KH) : KO Int32 := kcallV 11 p0 h (f_X10_isReading p0 p1 h) (fun x1 h1 => kif (x1 = 0) (X10_correct_b26  p0 p1 p2 h1) (gI h1 p0 11 8 (fun x2 => kbind (f_X10_isIn p2 ((-1)) (x2 - 1) h1) (fun x3 h2 => kif (x3 = 0) (X10_correct_b26  p0 p1 p2 h2) (X10_correct_b27  p0 p1 p2 1 h2)))))
def X10_uncorrect_b27  (v0 : Nat) (v1 : Int32) (s0 : Int32) (s1 : Nat) (h : KH) : KO Int32 := kcallV 11 s1 h (f_X10_can s1 s0 h) (fun x1 h1 => kif (x1 = 0) (kret 0 h1) (gN h1 v0 11 21 (fun a1 => pAZ h1 a1 23 v1 0 (fun h2 => kcallV 11 v0 h2 (f_X10_plateFor v0 v1 h2) (fun x2 h3 => kret x2 h3)))))
def f_X10_uncorrect (p0 : Nat) (p1 : Int32) (h : KH) : KO Int32 := kcallV 11 p0 h (f_X10_isReading p0 p1 h) (fun x1 h1 => kif (x1 = 0) (X10_uncorrect_b27  p0 p1 1 p0 h1) (gN h1 p0 11 21 (fun a1 => gAI h1 a1 23 p1 (fun x2 => kif (x2 = 0) (X10_uncorrect_b27  p0 p1 2 p0 h1) (X10_uncorrect_b27  p0 p1 0 p0 h1)))))
def X10_plateOf_b29  (s0 : Int32) (h : KH) : KO Int32 := kret s0 h
def X10_plateOf_b14  (v0 : Nat) (v1 : Int32) (s0 : Int32) (s1 : Nat) (h : KH) : KO Int32 := kcallV 11 s1 h (f_X10_can s1 s0 h) (fun x1 h1 => kif (x1 = 0) (X10_plateOf_b29  0 h1) (kcallV 11 v0 h1 (f_X10_plateFor v0 v1 h1) (fun x2 h2 => X10_plateOf_b29  x2 h2)))
def f_X10_plateOf (p0 : Nat) (p1 : Int32) (h : KH) : KO Int32 := kcallV 11 p0 h (f_X10_isReading p0 p1 h) (fun x1 h1 => kif (x1 = 0) (X10_plateOf_b14  p0 p1 1 p0 h1) (X10_plateOf_b14  p0 p1 0 p0 h1))
def X10_cost_b38  (s0 : Int32) (h : KH) : KO Int32 := kret s0 h
def X10_cost_b22  (v0 : Nat) (v1 : Int32) (v2 : Int32) (s0 : Int32) (s1 : Nat) (h : KH) : KO Int32 := kcallV 11 s1 h (f_X10_can s1 s0 h) (fun x1 h1 => kif (x1 = 0) (X10_cost_b38  0 h1) (kcallV 11 v0 h1 (f_X10_costOf v0 v1 v2 h1) (fun x2 h2 => X10_cost_b38  x2 h2)))
def X10_cost_b21  (v0 : Nat) (v1 : Int32) (v2 : Int32) (s0 : Nat) (h : KH) : KO Int32 := X10_cost_b22  v0 v1 v2 1 s0 h
def f_X10_cost (p0 : Nat) (p1 : Int32) (p2 : Int32) (h : KH) : KO Int32 := kcallV 11 p0 h (f_X10_isReading p0 p1 h) (fun x1 h1 => kif (x1 = 0) (X10_cost_b21  p0 p1 p2 p0 h1) (kcallV 11 p0 h1 (f_X10_isPlate p0 p2 h1) (fun x2 h2 => kif (x2 = 0) (X10_cost_b21  p0 p1 p2 p0 h2) (X10_cost_b22  p0 p1 p2 0 p0 h2))))
def X10_isBefore_b40  (s0 : Int32) (h : KH) : KO Int32 := kretZ s0 h
def X10_isBefore_b39   (h : KH) : KO Int32 := X10_isBefore_b40  0 h
def X10_isBefore_b35   (h : KH) : KO Int32 := X10_isBefore_b40  1 h
def f_X10_isBefore (p0 : Nat) (p1 : Int32) (p2 : Int32) (h : KH) : KO Int32 := gN h p0 11 18 (fun a1 => gAI h a1 21 p1 (fun x1 => gN h p0 11 18 (fun a2 => gAI h a2 21 p2 (fun x2 => kif (x1 < x2) (X10_isBefore_b35   h) (gN h p0 11 18 (fun a3 => gAI h a3 21 p1 (fun x3 => gN h p0 11 18 (fun a4 => gAI h a4 21 p2 (fun x4 => kif (x3 = x4) (kif (p2 ≤ p1) (X10_isBefore_b39   h) (X10_isBefore_b35   h)) (X10_isBefore_b39   h))))))))))
def X10_next_b73 (rc5 : Nat → Int32 → Int32 → Int32 → Int32 → KH → KO Int32) (v0 : Nat) (v1 : Int32) (v2 : Int32) (v4 : Int32) (s0 : Int32) (h : KH) : KO Int32 := rc5 v0 v1 v2 s0 (v4 + 1) h
def X10_next_b72 (rc5 : Nat → Int32 → Int32 → Int32 → Int32 → KH → KO Int32) (v0 : Nat) (v1 : Int32) (v2 : Int32) (v3 : Int32) (v4 : Int32) (h : KH) : KO Int32 := X10_next_b73 rc5 v0 v1 v2 v4 v3 h
def X10_next_b67 (rc5 : Nat → Int32 → Int32 → Int32 → Int32 → KH → KO Int32) (v0 : Nat) (v1 : Int32) (v2 : Int32) (v4 : Int32) (h : KH) : KO Int32 := X10_next_b73 rc5 v0 v1 v2 v4 v4 h
def X10_next_b45 (rc5 : Nat → Int32 → Int32 → Int32 → Int32 → KH → KO Int32) (v0 : Nat) (v1 : Int32) (v2 : Int32) (v3 : Int32) (v4 : Int32) (s0 : Int32) (h : KH) : KO Int32 := kif (s0 = 0) (X10_next_b72 rc5 v0 v1 v2 v3 v4 h) (kif (v3 = ((-1))) (X10_next_b67 rc5 v0 v1 v2 v4 h) (kcallV 11 v0 h (f_X10_isBefore v0 v4 v3 h) (fun x1 h1 => kif (x1 = 0) (X10_next_b72 rc5 v0 v1 v2 v3 v4 h1) (X10_next_b67 rc5 v0 v1 v2 v4 h1))))
def X10_next_b44 (rc5 : Nat → Int32 → Int32 → Int32 → Int32 → KH → KO Int32) (v0 : Nat) (v1 : Int32) (v2 : Int32) (v3 : Int32) (v4 : Int32) (h : KH) : KO Int32 := X10_next_b45 rc5 v0 v1 v2 v3 v4 0 h
def X10_next_b40 (rc5 : Nat → Int32 → Int32 → Int32 → Int32 → KH → KO Int32) (v0 : Nat) (v1 : Int32) (v2 : Int32) (v3 : Int32) (v4 : Int32) (h : KH) : KO Int32 := X10_next_b45 rc5 v0 v1 v2 v3 v4 1 h
def X10_next_b5 (rc5 : Nat → Int32 → Int32 → Int32 → Int32 → KH → KO Int32) (v0 : Nat) (v1 : Int32) (v2 : Int32) (v3 : Int32) (v4 : Int32) (h : KH) : KO Int32 := gI h v0 11 16 (fun x1 => kif (x1 ≤ v4) (kret v3 h) (gN h v0 11 23 (fun a1 => gAI h a1 21 v4 (fun x2 => kif (x2 = v1) (kif (v2 = ((-1))) (X10_next_b40 rc5 v0 v1 v2 v3 v4 h) (kcallV 11 v0 h (f_X10_isBefore v0 v2 v4 h) (fun x3 h1 => kif (x3 = 0) (X10_next_b44 rc5 v0 v1 v2 v3 v4 h1) (X10_next_b40 rc5 v0 v1 v2 v3 v4 h1)))) (X10_next_b44 rc5 v0 v1 v2 v3 v4 h)))))
def X10_next_L5  : Nat → Nat → Int32 → Int32 → Int32 → Int32 → KH → KO Int32
  | 0, _, _, _, _, _, _ => none
  | n + 1, v0, v1, v2, v3, v4, h => X10_next_b5 (X10_next_L5  n) v0 v1 v2 v3 v4 h
def f_X10_next (p0 : Nat) (p1 : Int32) (p2 : Int32) (h : KH) : KO Int32 := X10_next_L5  kF p0 p1 p2 ((-1)) 0 h
def X10_begins_b75  (s0 : Int32) (h : KH) : KO Int32 := kretZ s0 h
def X10_begins_b70   (h : KH) : KO Int32 := X10_begins_b75  1 h
def f_X10_begins (p0 : Nat) (p1 : Int32) (p2 : Int32) (h : KH) : KO Int32 := kif (p1 = ((-1))) (kretZ 1 h) (gN h p0 11 3 (fun a1 => gN h p0 11 17 (fun a2 => gAI h a2 21 p1 (fun x1 => gN h p0 11 17 (fun a3 => gAI h a3 21 p2 (fun x2 => gAI h a1 21 ((8 * x1) + x2) (fun x3 => gN h p0 11 18 (fun a4 => gAI h a4 21 p2 (fun x4 => gN h p0 11 18 (fun a5 => gAI h a5 21 p1 (fun x5 => kif (x3 = ((-1))) (X10_begins_b70   h) (gI h p0 11 1 (fun x6 => kif (((2 * x3) + x6) < (x4 - x5)) (X10_begins_b70   h) (kif (x3 ≤ (4 * (x4 - x5))) (X10_begins_b75  0 h) (X10_begins_b70   h)))))))))))))))
def X10_joinsAgain_b34 (rc12 : Nat → Int32 → Int32 → Int32 → Int32 → KH → KO Int32) (v0 : Nat) (v1 : Int32) (v4 : Int32) (s0 : Int32) (s1 : Int32) (h : KH) : KO Int32 := gN h v0 11 24 (fun a1 => pAI h a1 21 v4 ((s1 + s0) - 1) (fun h1 => kcallV 11 v0 h1 (f_X10_next v0 v1 v4 h1) (fun x1 h2 => rc12 v0 v1 (s1 + s0) v4 x1 h2)))
def X10_joinsAgain_b12 (rc12 : Nat → Int32 → Int32 → Int32 → Int32 → KH → KO Int32) (v0 : Nat) (v1 : Int32) (v2 : Int32) (v3 : Int32) (v4 : Int32) (h : KH) : KO Int32 := kif (v4 = ((-1))) (kret v2 h) (kcallV 11 v0 h (f_X10_begins v0 v3 v4 h) (fun x1 h1 => kif (x1 = 0) (X10_joinsAgain_b34 rc12 v0 v1 v4 0 v2 h1) (X10_joinsAgain_b34 rc12 v0 v1 v4 1 v2 h1)))
def X10_joinsAgain_L12  : Nat → Nat → Int32 → Int32 → Int32 → Int32 → KH → KO Int32
  | 0, _, _, _, _, _, _ => none
  | n + 1, v0, v1, v2, v3, v4, h => X10_joinsAgain_b12 (X10_joinsAgain_L12  n) v0 v1 v2 v3 v4 h
def f_X10_joinsAgain (p0 : Nat) (p1 : Int32) (h : KH) : KO Int32 := kcallV 11 p0 h (f_X10_next p0 p1 ((-1)) h) (fun x1 h1 => X10_joinsAgain_L12  kF p0 p1 0 ((-1)) x1 h1)
def X10_joins_b2 (rc2 : Nat → Int32 → Int32 → KH → KO Int32) (v0 : Nat) (v1 : Int32) (v2 : Int32) (h : KH) : KO Int32 := gI h v0 11 16 (fun x1 => kif (x1 ≤ v2) (kcallV 11 v0 h (f_X10_joinsAgain v0 v1 h) (fun x2 h1 => kret x2 h1)) (gN h v0 11 23 (fun a1 => kcallV 11 v0 h (f_X10_plateFor v0 v2 h) (fun x3 h2 => pAI h2 a1 21 v2 x3 (fun h3 => rc2 v0 v1 (v2 + 1) h3)))))
def X10_joins_L2  : Nat → Nat → Int32 → Int32 → KH → KO Int32
  | 0, _, _, _, _ => none
  | n + 1, v0, v1, v2, h => X10_joins_b2 (X10_joins_L2  n) v0 v1 v2 h
def f_X10_joins (p0 : Nat) (p1 : Int32) (h : KH) : KO Int32 := X10_joins_L2  kF p0 p1 0 h
def X10_trips_b29  (s0 : Int32) (h : KH) : KO Int32 := kret s0 h
def X10_trips_b14  (v0 : Nat) (v1 : Int32) (s0 : Int32) (s1 : Nat) (h : KH) : KO Int32 := kcallV 11 s1 h (f_X10_can s1 s0 h) (fun x1 h1 => kif (x1 = 0) (X10_trips_b29  0 h1) (kcallV 11 v0 h1 (f_X10_joins v0 v1 h1) (fun x2 h2 => X10_trips_b29  x2 h2)))
def f_X10_trips (p0 : Nat) (p1 : Int32) (h : KH) : KO Int32 := kcallV 11 p0 h (f_X10_isPlate p0 p1 h) (fun x1 h1 => kif (x1 = 0) (X10_trips_b14  p0 p1 1 p0 h1) (X10_trips_b14  p0 p1 0 p0 h1))
def X10_tripsAnew_b29  (s0 : Int32) (h : KH) : KO Int32 := kret s0 h
def X10_tripsAnew_b14  (v0 : Nat) (v1 : Int32) (s0 : Int32) (s1 : Nat) (h : KH) : KO Int32 := kcallV 11 s1 h (f_X10_can s1 s0 h) (fun x1 h1 => kif (x1 = 0) (X10_tripsAnew_b29  0 h1) (kcallV 11 v0 h1 (f_X10_joins v0 v1 h1) (fun x2 h2 => X10_tripsAnew_b29  x2 h2)))
def f_X10_tripsAnew (p0 : Nat) (p1 : Int32) (h : KH) : KO Int32 := kcallV 11 p0 h (f_X10_isPlate p0 p1 h) (fun x1 h1 => kif (x1 = 0) (X10_tripsAnew_b14  p0 p1 1 p0 h1) (X10_tripsAnew_b14  p0 p1 0 p0 h1))
def X10_tripOf_b14  (v0 : Nat) (v1 : Int32) (s0 : Int32) (s1 : Nat) (h : KH) : KO Int32 := kcallV 11 s1 h (f_X10_can s1 s0 h) (fun x1 h1 => kif (x1 = 0) (kret 0 h1) (kcallV 11 v0 h1 (f_X10_plateFor v0 v1 h1) (fun x2 h2 => kif (x2 = ((-1))) (kret ((-1)) h2) (kcallV 11 v0 h2 (f_X10_joins v0 x2 h2) (fun x3 h3 => gN h3 v0 11 24 (fun a1 => gAI h3 a1 21 v1 (fun x4 => kret x4 h3)))))))
def f_X10_tripOf (p0 : Nat) (p1 : Int32) (h : KH) : KO Int32 := kcallV 11 p0 h (f_X10_isReading p0 p1 h) (fun x1 h1 => kif (x1 = 0) (X10_tripOf_b14  p0 p1 1 p0 h1) (X10_tripOf_b14  p0 p1 0 p0 h1))
def X10_firstOf_b7 (rc7 : Nat → Int32 → Int32 → Int32 → KH → KO Int32) (v0 : Nat) (v1 : Int32) (v2 : Int32) (v3 : Int32) (h : KH) : KO Int32 := gN h v0 11 24 (fun a1 => gAI h a1 21 v3 (fun x1 => kif (x1 = v2) (kret v3 h) (kcallV 11 v0 h (f_X10_next v0 v1 v3 h) (fun x2 h1 => rc7 v0 v1 v2 x2 h1))))
def X10_firstOf_L7  : Nat → Nat → Int32 → Int32 → Int32 → KH → KO Int32
  | 0, _, _, _, _, _ => none
  | n + 1, v0, v1, v2, v3, h => X10_firstOf_b7 (X10_firstOf_L7  n) v0 v1 v2 v3 h
def f_X10_firstOf (p0 : Nat) (p1 : Int32) (p2 : Int32) (h : KH) : KO Int32 := kcallV 11 p0 h (f_X10_next p0 p1 ((-1)) h) (fun x1 h1 => X10_firstOf_L7  kF p0 p1 p2 x1 h1)
def X10_tollOf_b78  (v0 : Nat) (v1 : Int32) (v3 : Int32) (h : KH) : KO Int32 := gN h v0 11 4 (fun a1 => gN h v0 11 11 (fun a2 => gAI h a2 21 v1 (fun x1 => gAI h a1 21 x1 (fun x2 => kret (x2 * v3) h))))
def X10_tollOf_b19 (rc19 : Nat → Int32 → Int32 → Int32 → Int32 → Int32 → KH → KO Int32) (v0 : Nat) (v1 : Int32) (v2 : Int32) (v3 : Int32) (v4 : Int32) (v5 : Int32) (h : KH) : KO Int32 := kif (v5 = ((-1))) (X10_tollOf_b78  v0 v1 v3 h) (gN h v0 11 24 (fun a1 => gAI h a1 21 v5 (fun x1 => kif (x1 = v2) (gN h v0 11 3 (fun a2 => gN h v0 11 17 (fun a3 => gAI h a3 21 v4 (fun x2 => gN h v0 11 17 (fun a4 => gAI h a4 21 v5 (fun x3 => gAI h a2 21 ((8 * x2) + x3) (fun x4 => kcallV 11 v0 h (f_X10_next v0 v1 v5 h) (fun x5 h1 => rc19 v0 v1 v2 (v3 + x4) v5 x5 h1)))))))) (X10_tollOf_b78  v0 v1 v3 h))))
def X10_tollOf_L19  : Nat → Nat → Int32 → Int32 → Int32 → Int32 → Int32 → KH → KO Int32
  | 0, _, _, _, _, _, _, _ => none
  | n + 1, v0, v1, v2, v3, v4, v5, h => X10_tollOf_b19 (X10_tollOf_L19  n) v0 v1 v2 v3 v4 v5 h
def f_X10_tollOf (p0 : Nat) (p1 : Int32) (p2 : Int32) (h : KH) : KO Int32 := kcallV 11 p0 h (f_X10_firstOf p0 p1 p2 h) (fun x1 h1 => kcallV 11 p0 h1 (f_X10_next p0 p1 x1 h1) (fun x2 h2 => X10_tollOf_L19  kF p0 p1 p2 2 x1 x2 h2))
def X10_isTrip_b27  (s0 : Int32) (s1 : Nat) (h : KH) : KO Int32 := kcallV 11 s1 h (f_X10_can s1 s0 h) (fun x1 h1 => kretZ x1 h1)
def X10_isTrip_b26  (s0 : Nat) (h : KH) : KO Int32 := X10_isTrip_b27  1 s0 h
def f_X10_isTrip (p0 : Nat) (p1 : Int32) (p2 : Int32) (h : KH) : KO Int32 := kcallV 11 p0 h (f_X10_isPlate p0 p1 h) (fun x1 h1 => kif (x1 = 0) (X10_isTrip_b26  p0 h1) (kif (p2 < 0) (X10_isTrip_b26  p0 h1) (kcallV 11 p0 h1 (f_X10_joins p0 p1 h1) (fun x2 h2 => kif (x2 ≤ p2) (X10_isTrip_b26  p0 h2) (X10_isTrip_b27  0 p0 h2)))))
def X10_toll_b19  (s0 : Int32) (h : KH) : KO Int32 := kret s0 h
def f_X10_toll (p0 : Nat) (p1 : Int32) (p2 : Int32) (h : KH) : KO Int32 := kcallV 11 p0 h (f_X10_isTrip p0 p1 p2 h) (fun x1 h1 => kif (x1 = 0) (X10_toll_b19  0 h1) (kcallV 11 p0 h1 (f_X10_tollOf p0 p1 p2 h1) (fun x2 h2 => X10_toll_b19  x2 h2)))
def X10_driverOf_b29  (s0 : Int32) (h : KH) : KO Int32 := kret s0 h
def f_X10_driverOf (p0 : Nat) (p1 : Int32) (p2 : Int32) (h : KH) : KO Int32 := kcallV 11 p0 h (f_X10_isTrip p0 p1 p2 h) (fun x1 h1 => kif (x1 = 0) (X10_driverOf_b29  0 h1) (gN h1 p0 11 18 (fun a1 => kcallV 11 p0 h1 (f_X10_firstOf p0 p1 p2 h1) (fun x2 h2 => gAI h2 a1 21 x2 (fun x3 => kcallV 11 p0 h2 (f_X10_holderAt p0 p1 x3 h2) (fun x4 h3 => X10_driverOf_b29  x4 h3))))))
def X10_dueFrom_b68 (rc10 : Nat → Int32 → Int32 → Int32 → KH → KO Int32) (rc28 : Nat → Int32 → Int32 → Int32 → Int32 → Int32 → KH → KO Int32) (v0 : Nat) (v1 : Int32) (v3 : Int32) (v4 : Int32) (v5 : Int32) (s0 : Int32) (s1 : Int32) (h : KH) : KO Int32 := rc28 v0 v1 (s1 + s0) v3 v4 (v5 + 1) h
def X10_dueFrom_b28 (rc10 : Nat → Int32 → Int32 → Int32 → KH → KO Int32) (rc28 : Nat → Int32 → Int32 → Int32 → Int32 → Int32 → KH → KO Int32) (v0 : Nat) (v1 : Int32) (v2 : Int32) (v3 : Int32) (v4 : Int32) (v5 : Int32) (h : KH) : KO Int32 := kif (v4 ≤ v5) (rc10 v0 v1 v2 (v3 + 1) h) (gN h v0 11 18 (fun a1 => kcallV 11 v0 h (f_X10_firstOf v0 v3 v5 h) (fun x1 h1 => gAI h1 a1 21 x1 (fun x2 => kcallV 11 v0 h1 (f_X10_holderAt v0 v3 x2 h1) (fun x3 h2 => kif (x3 = v1) (kcallV 11 v0 h2 (f_X10_tollOf v0 v3 v5 h2) (fun x4 h3 => X10_dueFrom_b68 rc10 rc28 v0 v1 v3 v4 v5 x4 v2 h3)) (X10_dueFrom_b68 rc10 rc28 v0 v1 v3 v4 v5 0 v2 h2))))))
def X10_dueFrom_L28 (rc10 : Nat → Int32 → Int32 → Int32 → KH → KO Int32) : Nat → Nat → Int32 → Int32 → Int32 → Int32 → Int32 → KH → KO Int32
  | 0, _, _, _, _, _, _, _ => none
  | n + 1, v0, v1, v2, v3, v4, v5, h => X10_dueFrom_b28 rc10 (X10_dueFrom_L28 rc10 n) v0 v1 v2 v3 v4 v5 h
def X10_dueFrom_b10 (rc10 : Nat → Int32 → Int32 → Int32 → KH → KO Int32) (v0 : Nat) (v1 : Int32) (v2 : Int32) (v3 : Int32) (h : KH) : KO Int32 := gI h v0 11 8 (fun x1 => kif (x1 ≤ v3) (kret v2 h) (kcallV 11 v0 h (f_X10_joinsAgain v0 v3 h) (fun x2 h1 => X10_dueFrom_L28 rc10 kF v0 v1 v2 v3 x2 0 h1)))
def X10_dueFrom_L10  : Nat → Nat → Int32 → Int32 → Int32 → KH → KO Int32
  | 0, _, _, _, _, _ => none
  | n + 1, v0, v1, v2, v3, h => X10_dueFrom_b10 (X10_dueFrom_L10  n) v0 v1 v2 v3 h
def f_X10_dueFrom (p0 : Nat) (p1 : Int32) (h : KH) : KO Int32 := kcallV 11 p0 h (f_X10_joins p0 ((-1)) h) (fun x1 h1 => X10_dueFrom_L10  kF p0 p1 0 0 h1)
def X10_due_b28  (s0 : Int32) (h : KH) : KO Int32 := kret s0 h
def X10_due_b13  (v0 : Nat) (v1 : Int32) (s0 : Int32) (s1 : Nat) (h : KH) : KO Int32 := kcallV 11 s1 h (f_X10_can s1 s0 h) (fun x1 h1 => kif (x1 = 0) (X10_due_b28  0 h1) (kcallV 11 v0 h1 (f_X10_dueFrom v0 v1 h1) (fun x2 h2 => X10_due_b28  x2 h2)))
def f_X10_due (p0 : Nat) (p1 : Int32) (h : KH) : KO Int32 := kbind (f_X10_isDriver p1 h) (fun x1 h1 => kif (x1 = 0) (X10_due_b13  p0 p1 1 p0 h1) (X10_due_b13  p0 p1 0 p0 h1))
def X10_dueAnew_b28  (s0 : Int32) (h : KH) : KO Int32 := kret s0 h
def X10_dueAnew_b13  (v0 : Nat) (v1 : Int32) (s0 : Int32) (s1 : Nat) (h : KH) : KO Int32 := kcallV 11 s1 h (f_X10_can s1 s0 h) (fun x1 h1 => kif (x1 = 0) (X10_dueAnew_b28  0 h1) (kcallV 11 v0 h1 (f_X10_dueFrom v0 v1 h1) (fun x2 h2 => X10_dueAnew_b28  x2 h2)))
def f_X10_dueAnew (p0 : Nat) (p1 : Int32) (h : KH) : KO Int32 := kbind (f_X10_isDriver p1 h) (fun x1 h1 => kif (x1 = 0) (X10_dueAnew_b13  p0 p1 1 p0 h1) (X10_dueAnew_b13  p0 p1 0 p0 h1))
def X10_settle_b91 (rc9 : Nat → Int32 → Int32 → KH → KO Int32) (v0 : Nat) (v2 : Int32) (s0 : Int32) (s1 : Int32) (h : KH) : KO Int32 := rc9 v0 (s1 + s0) (v2 + 1) h
def X10_settle_b75 (rc9 : Nat → Int32 → Int32 → KH → KO Int32) (v0 : Nat) (v1 : Int32) (v2 : Int32) (v3 : Int64) (s0 : Int64) (s1 : Int64) (s2 : Int32) (s3 : Nat) (h : KH) : KO Int32 := pAL h s3 22 s2 (s1 + s0) (fun h1 => kif (0 ≤ (lg_cmp v3 0)) (X10_settle_b91 rc9 v0 v2 0 v1 h1) (X10_settle_b91 rc9 v0 v2 ((-v3).toInt32) v1 h1))
def X10_settle_b54 (rc9 : Nat → Int32 → Int32 → KH → KO Int32) (v0 : Nat) (v1 : Int32) (v2 : Int32) (v3 : Int64) (s0 : Int64) (s1 : Int64) (s2 : Int32) (s3 : Nat) (h : KH) : KO Int32 := pAL h s3 22 s2 (s1 + s0) (fun h1 => gN h1 v0 11 26 (fun a1 => gAL h1 a1 22 v2 (fun x1 => kif (0 ≤ (lg_cmp v3 0)) (X10_settle_b75 rc9 v0 v1 v2 v3 0 x1 v2 a1 h1) (X10_settle_b75 rc9 v0 v1 v2 v3 (-v3) x1 v2 a1 h1))))
def X10_settle_b9 (rc9 : Nat → Int32 → Int32 → KH → KO Int32) (v0 : Nat) (v1 : Int32) (v2 : Int32) (h : KH) : KO Int32 := kif (6 ≤ v2) (kret v1 h) (kcallV 11 v0 h (f_X10_dueFrom v0 v2 h) (fun x1 h1 => gN h1 v0 11 25 (fun a1 => gAL h1 a1 22 v2 (fun x2 => gN h1 v0 11 26 (fun a2 => gAL h1 a2 22 v2 (fun x3 => gN h1 v0 11 25 (fun a3 => gAL h1 a3 22 v2 (fun x4 => kif ((lg_cmp (((x1.toInt64) - x2) + x3) 0) ≤ 0) (X10_settle_b54 rc9 v0 v1 v2 (((x1.toInt64) - x2) + x3) 0 x4 v2 a3 h1) (X10_settle_b54 rc9 v0 v1 v2 (((x1.toInt64) - x2) + x3) (((x1.toInt64) - x2) + x3) x4 v2 a3 h1)))))))))
def X10_settle_L9  : Nat → Nat → Int32 → Int32 → KH → KO Int32
  | 0, _, _, _, _ => none
  | n + 1, v0, v1, v2, h => X10_settle_b9 (X10_settle_L9  n) v0 v1 v2 h
def f_X10_settle (p0 : Nat) (h : KH) : KO Int32 := pI h p0 11 35 0 (fun h1 => X10_settle_L9  kF p0 0 0 h1)
def X10_billed_b29  (s0 : Int64) (h : KH) : KO Int64 := kret s0 h
def X10_billed_b13  (v0 : Nat) (v1 : Int32) (s0 : Int32) (s1 : Nat) (h : KH) : KO Int64 := kcallV 11 s1 h (f_X10_can s1 s0 h) (fun x1 h1 => kif (x1 = 0) (X10_billed_b29  0 h1) (gN h1 v0 11 25 (fun a1 => gAL h1 a1 22 v1 (fun x2 => X10_billed_b29  x2 h1))))
def f_X10_billed (p0 : Nat) (p1 : Int32) (h : KH) : KO Int64 := kbind (f_X10_isDriver p1 h) (fun x1 h1 => kif (x1 = 0) (X10_billed_b13  p0 p1 1 p0 h1) (X10_billed_b13  p0 p1 0 p0 h1))
def X10_paidBack_b29  (s0 : Int64) (h : KH) : KO Int64 := kret s0 h
def X10_paidBack_b13  (v0 : Nat) (v1 : Int32) (s0 : Int32) (s1 : Nat) (h : KH) : KO Int64 := kcallV 11 s1 h (f_X10_can s1 s0 h) (fun x1 h1 => kif (x1 = 0) (X10_paidBack_b29  0 h1) (gN h1 v0 11 26 (fun a1 => gAL h1 a1 22 v1 (fun x2 => X10_paidBack_b29  x2 h1))))
def f_X10_paidBack (p0 : Nat) (p1 : Int32) (h : KH) : KO Int64 := kbind (f_X10_isDriver p1 h) (fun x1 h1 => kif (x1 = 0) (X10_paidBack_b13  p0 p1 1 p0 h1) (X10_paidBack_b13  p0 p1 0 p0 h1))
def X10_warrant_b67  (v0 : Nat) (v1 : Int32) (v2 : Int32) (v3 : Int32) (s0 : Int32) (s1 : Nat) (h : KH) : KO Int32 := kcallV 11 s1 h (f_X10_can s1 s0 h) (fun x1 h1 => kif (x1 = 0) (kret 0 h1) (gN h1 v0 11 28 (fun a1 => gI h1 v0 11 27 (fun x2 => pAI h1 a1 21 x2 v1 (fun h2 => gN h2 v0 11 29 (fun a2 => gI h2 v0 11 27 (fun x3 => pAI h2 a2 21 x3 v2 (fun h3 => gN h3 v0 11 30 (fun a3 => gI h3 v0 11 27 (fun x4 => pAI h3 a3 21 x4 v3 (fun h4 => gI h4 v0 11 27 (fun x5 => pI h4 v0 11 27 (x5 + 1) (fun h5 => gI h5 v0 11 27 (fun x6 => kret (x6 - 1) h5))))))))))))))
def X10_warrant_b32  (v0 : Nat) (v1 : Int32) (v2 : Int32) (v3 : Int32) (v4 : Int32) (s0 : Int32) (h : KH) : KO Int32 := kif (v4 = 0) (X10_warrant_b67  v0 v1 v2 v3 1 v0 h) (kif (s0 = 0) (X10_warrant_b67  v0 v1 v2 v3 2 v0 h) (gI h v0 11 27 (fun x1 => kif (x1 = 8) (X10_warrant_b67  v0 v1 v2 v3 3 v0 h) (X10_warrant_b67  v0 v1 v2 v3 0 v0 h))))
def X10_warrant_b31  (v0 : Nat) (v1 : Int32) (v2 : Int32) (v3 : Int32) (v4 : Int32) (h : KH) : KO Int32 := X10_warrant_b32  v0 v1 v2 v3 v4 0 h
def f_X10_warrant (p0 : Nat) (p1 : Int32) (p2 : Int32) (p3 : Int32) (h : KH) : KO Int32 := kcallV 11 p0 h (f_X10_isPlate p0 p1 h) (fun x1 h1 => kbind (f_X10_isIn p2 0 34 h1) (fun x2 h2 => kif (x2 = 0) (X10_warrant_b31  p0 p1 p2 p3 x1 h2) (kbind (f_X10_isIn p3 p2 34 h2) (fun x3 h3 => kif (x3 = 0) (X10_warrant_b31  p0 p1 p2 p3 x1 h3) (X10_warrant_b32  p0 p1 p2 p3 x1 1 h3)))))
def X10_shows_b164  (v5 : Int32) (h : KH) : KO Int32 := kret v5 h
def X10_shows_b149 (rc33 : Nat → Int32 → Int32 → Int32 → Int32 → Int32 → Int32 → Int32 → Int32 → KH → KO Int32) (v0 : Nat) (v1 : Int32) (v2 : Int32) (v3 : Int32) (v5 : Int32) (v6 : Int32) (v7 : Int32) (v8 : Int32) (s0 : Int32) (s1 : Int32) (h : KH) : KO Int32 := kcallV 11 v0 h (f_X10_next v0 v3 v8 h) (fun x1 h1 => rc33 v0 v1 v2 v3 (s1 - s0) v5 v6 v7 x1 h1)
def X10_shows_b135 (rc33 : Nat → Int32 → Int32 → Int32 → Int32 → Int32 → Int32 → Int32 → Int32 → KH → KO Int32) (v0 : Nat) (v1 : Int32) (v2 : Int32) (v3 : Int32) (v4 : Int32) (v6 : Int32) (v7 : Int32) (v8 : Int32) (s0 : Int32) (h : KH) : KO Int32 := kif (v6 = 0) (X10_shows_b149 rc33 v0 v1 v2 v3 s0 v6 v7 v8 0 v4 h) (X10_shows_b149 rc33 v0 v1 v2 v3 s0 v6 v7 v8 1 v4 h)
def X10_shows_b134 (rc33 : Nat → Int32 → Int32 → Int32 → Int32 → Int32 → Int32 → Int32 → Int32 → KH → KO Int32) (v0 : Nat) (v1 : Int32) (v2 : Int32) (v3 : Int32) (v4 : Int32) (v6 : Int32) (v7 : Int32) (v8 : Int32) (h : KH) : KO Int32 := X10_shows_b135 rc33 v0 v1 v2 v3 v4 v6 v7 v8 ((-1)) h
def X10_shows_b92 (rc33 : Nat → Int32 → Int32 → Int32 → Int32 → Int32 → Int32 → Int32 → Int32 → KH → KO Int32) (v0 : Nat) (v1 : Int32) (v2 : Int32) (v3 : Int32) (v4 : Int32) (v8 : Int32) (s0 : Int32) (h : KH) : KO Int32 := gN h v0 11 24 (fun a1 => gAI h a1 21 v8 (fun x1 => kif (s0 = 0) (X10_shows_b134 rc33 v0 v1 v2 v3 v4 s0 x1 v8 h) (kif (v4 = 0) (gN h v0 11 17 (fun a2 => gAI h a2 21 v8 (fun x2 => gN h v0 11 18 (fun a3 => gAI h a3 21 v8 (fun x3 => X10_shows_b135 rc33 v0 v1 v2 v3 v4 s0 x1 v8 ((100000 * x2) + x3) h))))) (X10_shows_b134 rc33 v0 v1 v2 v3 v4 s0 x1 v8 h))))
def X10_shows_b33 (rc33 : Nat → Int32 → Int32 → Int32 → Int32 → Int32 → Int32 → Int32 → Int32 → KH → KO Int32) (v0 : Nat) (v1 : Int32) (v2 : Int32) (v3 : Int32) (v4 : Int32) (v5 : Int32) (v6 : Int32) (v7 : Int32) (v8 : Int32) (h : KH) : KO Int32 := kif (v8 = ((-1))) (X10_shows_b164  v5 h) (kif (v2 < 0) (X10_shows_b164  v5 h) (kif (v5 = ((-1))) (gN h v0 11 24 (fun a1 => gAI h a1 21 v8 (fun x1 => kif (x1 = v7) (X10_shows_b92 rc33 v0 v1 v2 v3 v4 v8 v6 h) (gN h v0 11 18 (fun a2 => gAI h a2 21 v8 (fun x2 => kdv 1440 (gN h v0 11 29 (fun a3 => gAI h a3 21 v1 (fun x3 => gN h v0 11 30 (fun a4 => gAI h a4 21 v1 (fun x4 => kbind (f_X10_isIn (x2 / 1440) x3 x4 h) (fun x5 h1 => X10_shows_b92 rc33 v0 v1 v2 v3 v4 v8 x5 h1)))))))))))) (X10_shows_b164  v5 h)))
def X10_shows_L33  : Nat → Nat → Int32 → Int32 → Int32 → Int32 → Int32 → Int32 → Int32 → Int32 → KH → KO Int32
  | 0, _, _, _, _, _, _, _, _, _, _ => none
  | n + 1, v0, v1, v2, v3, v4, v5, v6, v7, v8, h => X10_shows_b33 (X10_shows_L33  n) v0 v1 v2 v3 v4 v5 v6 v7 v8 h
def f_X10_shows (p0 : Nat) (p1 : Int32) (p2 : Int32) (h : KH) : KO Int32 := gN h p0 11 28 (fun a1 => gAI h a1 21 p1 (fun x1 => kcallV 11 p0 h (f_X10_joins p0 x1 h) (fun x2 h1 => kcallV 11 p0 h1 (f_X10_next p0 x1 ((-1)) h1) (fun x3 h2 => X10_shows_L33  kF p0 p1 p2 x1 p2 ((-1)) 0 ((-1)) x3 h2))))
def f_X10_isWarrant (p0 : Nat) (p1 : Int32) (h : KH) : KO Int32 := gI h p0 11 27 (fun x1 => kbind (f_X10_isIn p1 0 (x1 - 1) h) (fun x2 h1 => kretZ x2 h1))
def X10_ask_b72  (v0 : Nat) (v1 : Int32) (v2 : Int32) (v5 : Int32) (s0 : Int32) (s1 : Nat) (h : KH) : KO Int32 := kcallV 11 s1 h (f_X10_can s1 s0 h) (fun x1 h1 => kif (x1 = 0) (kret 0 h1) (gN h1 v0 11 32 (fun a1 => gI h1 v0 11 31 (fun x2 => pAI h1 a1 21 x2 v1 (fun h2 => gN h2 v0 11 33 (fun a2 => gI h2 v0 11 31 (fun x3 => pAI h2 a2 21 x3 v2 (fun h3 => gN h3 v0 11 34 (fun a3 => gI h3 v0 11 31 (fun x4 => pAI h3 a3 21 x4 v5 (fun h4 => gI h4 v0 11 31 (fun x5 => pI h4 v0 11 31 (x5 + 1) (fun h5 => kret v5 h5)))))))))))))
def X10_ask_b41  (v0 : Nat) (v1 : Int32) (v2 : Int32) (v3 : Int32) (v4 : Int32) (s0 : Int32) (h : KH) : KO Int32 := kif (v3 = 0) (X10_ask_b72  v0 v1 v2 s0 1 v0 h) (kif (v4 = 0) (kif (s0 = ((-1))) (X10_ask_b72  v0 v1 v2 s0 3 v0 h) (X10_ask_b72  v0 v1 v2 s0 0 v0 h)) (X10_ask_b72  v0 v1 v2 s0 2 v0 h))
def X10_ask_b40  (v0 : Nat) (v1 : Int32) (v2 : Int32) (v3 : Int32) (v4 : Int32) (h : KH) : KO Int32 := X10_ask_b41  v0 v1 v2 v3 v4 ((-1)) h
def X10_ask_b20  (v0 : Nat) (v1 : Int32) (v2 : Int32) (v3 : Int32) (s0 : Int32) (h : KH) : KO Int32 := kif (v3 = 0) (X10_ask_b40  v0 v1 v2 v3 s0 h) (kif (s0 = 0) (kcallV 11 v0 h (f_X10_shows v0 v1 v2 h) (fun x1 h1 => X10_ask_b41  v0 v1 v2 v3 s0 x1 h1)) (X10_ask_b40  v0 v1 v2 v3 s0 h))
def f_X10_ask (p0 : Nat) (p1 : Int32) (p2 : Int32) (h : KH) : KO Int32 := kcallV 11 p0 h (f_X10_isWarrant p0 p1 h) (fun x1 h1 => gI h1 p0 11 31 (fun x2 => kif (x2 = 40) (X10_ask_b20  p0 p1 p2 x1 1 h1) (X10_ask_b20  p0 p1 p2 x1 0 h1)))
def X10_stale_b70 (rc26 : Nat → Int32 → Int32 → Int32 → KH → KO Int32) (v0 : Nat) (v1 : Int32) (v3 : Int32) (s0 : Int32) (s1 : Int32) (h : KH) : KO Int32 := rc26 v0 v1 (s1 + s0) (v3 + 1) h
def X10_stale_b69 (rc26 : Nat → Int32 → Int32 → Int32 → KH → KO Int32) (v0 : Nat) (v1 : Int32) (v3 : Int32) (s0 : Int32) (h : KH) : KO Int32 := X10_stale_b70 rc26 v0 v1 v3 0 s0 h
def X10_stale_b26 (rc26 : Nat → Int32 → Int32 → Int32 → KH → KO Int32) (v0 : Nat) (v1 : Int32) (v2 : Int32) (v3 : Int32) (h : KH) : KO Int32 := gI h v0 11 31 (fun x1 => kif (x1 ≤ v3) (kret v2 h) (gN h v0 11 32 (fun a1 => gAI h a1 21 v3 (fun x2 => kif (x2 = v1) (gN h v0 11 33 (fun a2 => gAI h a2 21 v3 (fun x3 => kcallV 11 v0 h (f_X10_shows v0 v1 x3 h) (fun x4 h1 => gN h1 v0 11 34 (fun a3 => gAI h1 a3 21 v3 (fun x5 => kif (x4 = x5) (X10_stale_b69 rc26 v0 v1 v3 v2 h1) (X10_stale_b70 rc26 v0 v1 v3 1 v2 h1))))))) (X10_stale_b69 rc26 v0 v1 v3 v2 h)))))
def X10_stale_L26  : Nat → Nat → Int32 → Int32 → Int32 → KH → KO Int32
  | 0, _, _, _, _, _ => none
  | n + 1, v0, v1, v2, v3, h => X10_stale_b26 (X10_stale_L26  n) v0 v1 v2 v3 h
def X10_stale_b14  (v0 : Nat) (v1 : Int32) (s0 : Int32) (s1 : Nat) (h : KH) : KO Int32 := kcallV 11 s1 h (f_X10_can s1 s0 h) (fun x1 h1 => kif (x1 = 0) (kret 0 h1) (X10_stale_L26  kF v0 v1 0 0 h1))
def f_X10_stale (p0 : Nat) (p1 : Int32) (h : KH) : KO Int32 := kcallV 11 p0 h (f_X10_isWarrant p0 p1 h) (fun x1 h1 => kif (x1 = 0) (X10_stale_b14  p0 p1 1 p0 h1) (X10_stale_b14  p0 p1 0 p0 h1))
