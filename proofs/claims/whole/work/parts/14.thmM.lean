set_option maxHeartbeats 4000000 in
set_option maxRecDepth 100000 in
theorem t_X10_measures_b165 {X : KX} (hC : kC X RX10 cX10_measures 6 none) (hN : (xme X).name = yX10_measures.name) (hT : kT0 X) (hmc : xmc X = 0) (hms : xms X = 0) (hD : xD X = 0) (rc56 : Nat → Int32 → KH → KO Unit) (hr56 : ∀ (v0 : Nat) (v1 : Int32) (h : KH), kJ X (fun _ : Unit => none) 6 0 0 [(0, .inr (.inr (some v0))), (1, .inl v1)] [] 56 h (rc56 v0 v1 h)) (rc64 : Nat → Int32 → Int32 → KH → KO Unit) (hr64 : ∀ (v0 : Nat) (v1 : Int32) (v2 : Int32) (h : KH), kJ X (fun _ : Unit => none) 6 0 0 [(0, .inr (.inr (some v0))), (1, .inl v1), (2, .inl v2)] [] 64 h (rc64 v0 v1 v2 h)) (v0 : Nat) (v1 : Int32) (v2 : Int32) (s0 : Int32) (s1 : Int32) (s2 : Nat) (h : KH) : kJ X (fun _ : Unit => none) 6 0 0 [(0, .inr (.inr (some v0))), (1, .inl v1), (2, .inl v2)] [.inl s0, .inl s1, .inr (.inr (some s2))] 165 h (X10_measures_b165 rc56 rc64 v0 v1 v2 s0 s1 s2 h) := by
  unfold X10_measures_b165
  refine kj_pAI hC dX10_measures_165 (fun h1 => ?_)
  refine kj_iinc (v := v2 + 1) (L' := [(2, .inl (v2 + 1)), (0, .inr (.inr (some v0))), (1, .inl v1)]) hC 2 dX10_measures_166 rfl rfl (by decide) rfl ?_
  refine kj_goto (tgt := 64) hC dX10_measures_169 (by decide) ?_
  exact kj_sub [1, 2, 0] rfl (hr64 v0 v1 (v2 + 1) h1)
set_option maxHeartbeats 4000000 in
set_option maxRecDepth 100000 in
theorem t_X10_measures_b140 {X : KX} (hC : kC X RX10 cX10_measures 6 none) (hN : (xme X).name = yX10_measures.name) (hT : kT0 X) (hmc : xmc X = 0) (hms : xms X = 0) (hD : xD X = 0) (rc56 : Nat → Int32 → KH → KO Unit) (hr56 : ∀ (v0 : Nat) (v1 : Int32) (h : KH), kJ X (fun _ : Unit => none) 6 0 0 [(0, .inr (.inr (some v0))), (1, .inl v1)] [] 56 h (rc56 v0 v1 h)) (rc64 : Nat → Int32 → Int32 → KH → KO Unit) (hr64 : ∀ (v0 : Nat) (v1 : Int32) (v2 : Int32) (h : KH), kJ X (fun _ : Unit => none) 6 0 0 [(0, .inr (.inr (some v0))), (1, .inl v1), (2, .inl v2)] [] 64 h (rc64 v0 v1 v2 h)) (v0 : Nat) (v1 : Int32) (v2 : Int32) (v3 : Int32) (v4 : Int32) (s0 : Int32) (h : KH) : kJ X (fun _ : Unit => none) 6 0 0 [(0, .inr (.inr (some v0))), (1, .inl v1), (2, .inl v2), (3, .inl v3), (4, .inl v4)] [.inl s0] 140 h (X10_measures_b140 rc56 rc64 v0 v1 v2 v3 v4 s0 h) := by
  unfold X10_measures_b140
  refine kj_istore (L' := [(5, .inl s0), (0, .inr (.inr (some v0))), (1, .inl v1), (2, .inl v2), (3, .inl v3), (4, .inl v4)]) hC dX10_measures_140 (by decide) rfl ?_
  refine kj_aloadn hC 1 dX10_measures_142 rfl rfl ?_
  refine kj_gN (ci := 10) (k := 3) hC dX10_measures_143 kf_X10_17 rfl (fun a1 => ?_)
  refine kj_iloadn hC 3 dX10_measures_146 rfl rfl ?_
  refine kj_iload hC 0 dX10_measures_147 rfl ?_
  refine kj_if_eq (tgt := 159) hC dX10_measures_149 (by decide) (fun q1 => ?_) (fun q1 => ?_)
  · refine kj_aloadn hC 1 dX10_measures_159 rfl rfl ?_
    refine kj_gN (ci := 10) (k := 3) hC dX10_measures_160 kf_X10_17 rfl (fun a2 => ?_)
    refine kj_iloadn hC 3 dX10_measures_163 rfl rfl ?_
    refine kj_gAI hC dX10_measures_164 (fun x1 => ?_)
    exact kj_sub [1, 2, 3] rfl (t_X10_measures_b165 hC hN hT hmc hms hD rc56 hr56 rc64 hr64 v0 v1 v2 x1 v2 a1 h)
  · refine kj_iloadn hC 4 dX10_measures_152 rfl rfl ?_
    refine kj_iload hC 5 dX10_measures_153 rfl ?_
    refine kj_iadd hC dX10_measures_155 ?_
    refine kj_goto (tgt := 165) hC dX10_measures_156 (by decide) ?_
    exact kj_sub [1, 2, 3] rfl (t_X10_measures_b165 hC hN hT hmc hms hD rc56 hr56 rc64 hr64 v0 v1 v2 (v3 + v4) v2 a1 h)
set_option maxHeartbeats 4000000 in
set_option maxRecDepth 100000 in
theorem t_X10_measures_b139 {X : KX} (hC : kC X RX10 cX10_measures 6 none) (hN : (xme X).name = yX10_measures.name) (hT : kT0 X) (hmc : xmc X = 0) (hms : xms X = 0) (hD : xD X = 0) (rc56 : Nat → Int32 → KH → KO Unit) (hr56 : ∀ (v0 : Nat) (v1 : Int32) (h : KH), kJ X (fun _ : Unit => none) 6 0 0 [(0, .inr (.inr (some v0))), (1, .inl v1)] [] 56 h (rc56 v0 v1 h)) (rc64 : Nat → Int32 → Int32 → KH → KO Unit) (hr64 : ∀ (v0 : Nat) (v1 : Int32) (v2 : Int32) (h : KH), kJ X (fun _ : Unit => none) 6 0 0 [(0, .inr (.inr (some v0))), (1, .inl v1), (2, .inl v2)] [] 64 h (rc64 v0 v1 v2 h)) (v0 : Nat) (v1 : Int32) (v2 : Int32) (v3 : Int32) (v4 : Int32) (h : KH) : kJ X (fun _ : Unit => none) 6 0 0 [(0, .inr (.inr (some v0))), (1, .inl v1), (2, .inl v2), (3, .inl v3), (4, .inl v4)] [] 139 h (X10_measures_b139 rc56 rc64 v0 v1 v2 v3 v4 h) := by
  unfold X10_measures_b139
  refine kj_iconst (v := 0) hC dX10_measures_139 (by decide) ?_
  exact kj_sub [0, 1, 2, 3, 4] rfl (t_X10_measures_b140 hC hN hT hmc hms hD rc56 hr56 rc64 hr64 v0 v1 v2 v3 v4 0 h)
set_option maxHeartbeats 4000000 in
set_option maxRecDepth 100000 in
theorem t_X10_measures_b135 {X : KX} (hC : kC X RX10 cX10_measures 6 none) (hN : (xme X).name = yX10_measures.name) (hT : kT0 X) (hmc : xmc X = 0) (hms : xms X = 0) (hD : xD X = 0) (rc56 : Nat → Int32 → KH → KO Unit) (hr56 : ∀ (v0 : Nat) (v1 : Int32) (h : KH), kJ X (fun _ : Unit => none) 6 0 0 [(0, .inr (.inr (some v0))), (1, .inl v1)] [] 56 h (rc56 v0 v1 h)) (rc64 : Nat → Int32 → Int32 → KH → KO Unit) (hr64 : ∀ (v0 : Nat) (v1 : Int32) (v2 : Int32) (h : KH), kJ X (fun _ : Unit => none) 6 0 0 [(0, .inr (.inr (some v0))), (1, .inl v1), (2, .inl v2)] [] 64 h (rc64 v0 v1 v2 h)) (v0 : Nat) (v1 : Int32) (v2 : Int32) (v3 : Int32) (v4 : Int32) (h : KH) : kJ X (fun _ : Unit => none) 6 0 0 [(0, .inr (.inr (some v0))), (1, .inl v1), (2, .inl v2), (3, .inl v3), (4, .inl v4)] [] 135 h (X10_measures_b135 rc56 rc64 v0 v1 v2 v3 v4 h) := by
  unfold X10_measures_b135
  refine kj_iconst (v := 1) hC dX10_measures_135 (by decide) ?_
  refine kj_goto (tgt := 140) hC dX10_measures_136 (by decide) ?_
  exact kj_sub [0, 1, 2, 3, 4] rfl (t_X10_measures_b140 hC hN hT hmc hms hD rc56 hr56 rc64 hr64 v0 v1 v2 v3 v4 1 h)
set_option maxHeartbeats 4000000 in
set_option maxRecDepth 100000 in
theorem t_X10_measures_b64 {X : KX} (hC : kC X RX10 cX10_measures 6 none) (hN : (xme X).name = yX10_measures.name) (hT : kT0 X) (hmc : xmc X = 0) (hms : xms X = 0) (hD : xD X = 0) (rc56 : Nat → Int32 → KH → KO Unit) (hr56 : ∀ (v0 : Nat) (v1 : Int32) (h : KH), kJ X (fun _ : Unit => none) 6 0 0 [(0, .inr (.inr (some v0))), (1, .inl v1)] [] 56 h (rc56 v0 v1 h)) (rc64 : Nat → Int32 → Int32 → KH → KO Unit) (hr64 : ∀ (v0 : Nat) (v1 : Int32) (v2 : Int32) (h : KH), kJ X (fun _ : Unit => none) 6 0 0 [(0, .inr (.inr (some v0))), (1, .inl v1), (2, .inl v2)] [] 64 h (rc64 v0 v1 v2 h)) (v0 : Nat) (v1 : Int32) (v2 : Int32) (h : KH) : kJ X (fun _ : Unit => none) 6 0 0 [(0, .inr (.inr (some v0))), (1, .inl v1), (2, .inl v2)] [] 64 h (X10_measures_b64 rc56 rc64 v0 v1 v2 h) := by
  unfold X10_measures_b64
  refine kj_iloadn hC 2 dX10_measures_64 rfl rfl ?_
  refine kj_bipush (v := 64) hC dX10_measures_65 (by decide) ?_
  refine kj_icmp_ge (tgt := 172) hC dX10_measures_67 (by decide) (fun q1 => ?_) (fun q1 => ?_)
  · refine kj_iinc (v := v1 + 1) (L' := [(1, .inl (v1 + 1)), (0, .inr (.inr (some v0))), (2, .inl v2)]) hC 1 dX10_measures_172 rfl rfl (by decide) rfl ?_
    refine kj_goto (tgt := 56) hC dX10_measures_175 (by decide) ?_
    exact kj_sub [1, 0] rfl (hr56 v0 (v1 + 1) h)
  · refine kj_aloadn hC 0 dX10_measures_70 rfl rfl ?_
    refine kj_gN (ci := 10) (k := 3) hC dX10_measures_71 kf_X10_17 rfl (fun a1 => ?_)
    refine kj_bipush (v := 8) hC dX10_measures_74 (by decide) ?_
    refine kj_iloadn hC 2 dX10_measures_76 rfl rfl ?_
    refine kj_bipush (v := 8) hC dX10_measures_77 (by decide) ?_
    refine kj_idiv hC dX10_measures_79 ?_
    refine kj_imul hC dX10_measures_80 ?_
    refine kj_iloadn hC 1 dX10_measures_81 rfl rfl ?_
    refine kj_iadd hC dX10_measures_82 ?_
    refine kj_gAI hC dX10_measures_83 (fun x1 => ?_)
    refine kj_istoren (L' := [(3, .inl x1), (0, .inr (.inr (some v0))), (1, .inl v1), (2, .inl v2)]) hC dX10_measures_84 rfl (by decide) rfl ?_
    refine kj_aloadn hC 1 dX10_measures_85 rfl rfl ?_
    refine kj_gN (ci := 10) (k := 3) hC dX10_measures_86 kf_X10_17 rfl (fun a2 => ?_)
    refine kj_bipush (v := 8) hC dX10_measures_89 (by decide) ?_
    refine kj_iloadn hC 2 dX10_measures_91 rfl rfl ?_
    refine kj_imul hC dX10_measures_92 ?_
    refine kj_iloadn hC 3 dX10_measures_93 rfl rfl ?_
    refine kj_bipush (v := 8) hC dX10_measures_94 (by decide) ?_
    refine kj_irem hC dX10_measures_96 ?_
    refine kj_iadd hC dX10_measures_97 ?_
    refine kj_gAI hC dX10_measures_98 (fun x2 => ?_)
    refine kj_istore (L' := [(4, .inl x2), (3, .inl x1), (0, .inr (.inr (some v0))), (1, .inl v1), (2, .inl v2)]) hC dX10_measures_99 (by decide) rfl ?_
    refine kj_iloadn hC 1 dX10_measures_101 rfl rfl ?_
    refine kj_iconst (v := (-1)) hC dX10_measures_102 (by decide) ?_
    refine kj_icmp_eq (tgt := 139) hC dX10_measures_103 (by decide) (fun q2 => ?_) (fun q2 => ?_)
    · exact kj_sub [2, 3, 4, 1, 0] rfl (t_X10_measures_b139 hC hN hT hmc hms hD rc56 hr56 rc64 hr64 v0 v1 v2 x1 x2 h)
    · refine kj_iload hC 0 dX10_measures_106 rfl ?_
      refine kj_iconst (v := (-1)) hC dX10_measures_108 (by decide) ?_
      refine kj_icmp_eq (tgt := 139) hC dX10_measures_109 (by decide) (fun q3 => ?_) (fun q3 => ?_)
      · exact kj_sub [2, 3, 4, 1, 0] rfl (t_X10_measures_b139 hC hN hT hmc hms hD rc56 hr56 rc64 hr64 v0 v1 v2 x1 x2 h)
      · refine kj_aloadn hC 2 dX10_measures_112 rfl rfl ?_
        refine kj_gN (ci := 10) (k := 3) hC dX10_measures_113 kf_X10_17 rfl (fun a3 => ?_)
        refine kj_iloadn hC 4 dX10_measures_116 rfl rfl ?_
        refine kj_gAI hC dX10_measures_117 (fun x3 => ?_)
        refine kj_iconst (v := (-1)) hC dX10_measures_118 (by decide) ?_
        refine kj_icmp_eq (tgt := 135) hC dX10_measures_119 (by decide) (fun q4 => ?_) (fun q4 => ?_)
        · exact kj_sub [2, 3, 4, 1, 0] rfl (t_X10_measures_b135 hC hN hT hmc hms hD rc56 hr56 rc64 hr64 v0 v1 v2 x1 x2 h)
        · refine kj_iloadn hC 1 dX10_measures_122 rfl rfl ?_
          refine kj_iload hC 0 dX10_measures_123 rfl ?_
          refine kj_iadd hC dX10_measures_125 ?_
          refine kj_aloadn hC 2 dX10_measures_126 rfl rfl ?_
          refine kj_gN (ci := 10) (k := 3) hC dX10_measures_127 kf_X10_17 rfl (fun a4 => ?_)
          refine kj_iloadn hC 4 dX10_measures_130 rfl rfl ?_
          refine kj_gAI hC dX10_measures_131 (fun x4 => ?_)
          refine kj_icmp_ge (tgt := 139) hC dX10_measures_132 (by decide) (fun q5 => ?_) (fun q5 => ?_)
          · exact kj_sub [2, 3, 4, 1, 0] rfl (t_X10_measures_b139 hC hN hT hmc hms hD rc56 hr56 rc64 hr64 v0 v1 v2 x1 x2 h)
          · exact kj_sub [2, 3, 4, 1, 0] rfl (t_X10_measures_b135 hC hN hT hmc hms hD rc56 hr56 rc64 hr64 v0 v1 v2 x1 x2 h)
set_option maxHeartbeats 4000000 in
set_option maxRecDepth 100000 in
theorem t_X10_measures_L64 {X : KX} (hC : kC X RX10 cX10_measures 6 none) (hN : (xme X).name = yX10_measures.name) (hT : kT0 X) (hmc : xmc X = 0) (hms : xms X = 0) (hD : xD X = 0) (rc56 : Nat → Int32 → KH → KO Unit) (hr56 : ∀ (v0 : Nat) (v1 : Int32) (h : KH), kJ X (fun _ : Unit => none) 6 0 0 [(0, .inr (.inr (some v0))), (1, .inl v1)] [] 56 h (rc56 v0 v1 h)) : ∀ (n : Nat) (v0 : Nat) (v1 : Int32) (v2 : Int32) (h : KH), kJ X (fun _ : Unit => none) 6 0 0 [(0, .inr (.inr (some v0))), (1, .inl v1), (2, .inl v2)] [] 64 h (X10_measures_L64 rc56 n v0 v1 v2 h) := by
  intro n
  induction n with
  | zero => intro v0 v1 v2 h; exact kj_none
  | succ n ih => intro v0 v1 v2 h; exact t_X10_measures_b64 hC hN hT hmc hms hD rc56 hr56 (X10_measures_L64 rc56 n) ih v0 v1 v2 h
set_option maxHeartbeats 4000000 in
set_option maxRecDepth 100000 in
theorem t_X10_measures_b56 {X : KX} (hC : kC X RX10 cX10_measures 6 none) (hN : (xme X).name = yX10_measures.name) (hT : kT0 X) (hmc : xmc X = 0) (hms : xms X = 0) (hD : xD X = 0) (rc56 : Nat → Int32 → KH → KO Unit) (hr56 : ∀ (v0 : Nat) (v1 : Int32) (h : KH), kJ X (fun _ : Unit => none) 6 0 0 [(0, .inr (.inr (some v0))), (1, .inl v1)] [] 56 h (rc56 v0 v1 h)) (v0 : Nat) (v1 : Int32) (h : KH) : kJ X (fun _ : Unit => none) 6 0 0 [(0, .inr (.inr (some v0))), (1, .inl v1)] [] 56 h (X10_measures_b56 rc56 v0 v1 h) := by
  unfold X10_measures_b56
  refine kj_iloadn hC 1 dX10_measures_56 rfl rfl ?_
  refine kj_bipush (v := 8) hC dX10_measures_57 (by decide) ?_
  refine kj_icmp_ge (tgt := 178) hC dX10_measures_59 (by decide) (fun q1 => ?_) (fun q1 => ?_)
  · refine kj_fin hmc hms ?_
    exact kj_return hC dX10_measures_178
  · refine kj_iconst (v := 0) hC dX10_measures_62 (by decide) ?_
    refine kj_istoren (L' := [(2, .inl 0), (0, .inr (.inr (some v0))), (1, .inl v1)]) hC dX10_measures_63 rfl (by decide) rfl ?_
    exact kj_sub [1, 2, 0] rfl (t_X10_measures_L64 hC hN hT hmc hms hD rc56 hr56 kF v0 v1 0 h)
set_option maxHeartbeats 4000000 in
set_option maxRecDepth 100000 in
theorem t_X10_measures_L56 {X : KX} (hC : kC X RX10 cX10_measures 6 none) (hN : (xme X).name = yX10_measures.name) (hT : kT0 X) (hmc : xmc X = 0) (hms : xms X = 0) (hD : xD X = 0) : ∀ (n : Nat) (v0 : Nat) (v1 : Int32) (h : KH), kJ X (fun _ : Unit => none) 6 0 0 [(0, .inr (.inr (some v0))), (1, .inl v1)] [] 56 h (X10_measures_L56  n v0 v1 h) := by
  intro n
  induction n with
  | zero => intro v0 v1 h; exact kj_none
  | succ n ih => intro v0 v1 h; exact t_X10_measures_b56 hC hN hT hmc hms hD (X10_measures_L56  n) ih v0 v1 h
set_option maxHeartbeats 4000000 in
set_option maxRecDepth 100000 in
theorem t_X10_measures_b47 {X : KX} (hC : kC X RX10 cX10_measures 6 none) (hN : (xme X).name = yX10_measures.name) (hT : kT0 X) (hmc : xmc X = 0) (hms : xms X = 0) (hD : xD X = 0) (rc2 : Nat → Int32 → KH → KO Unit) (hr2 : ∀ (v0 : Nat) (v1 : Int32) (h : KH), kJ X (fun _ : Unit => none) 6 0 0 [(0, .inr (.inr (some v0))), (1, .inl v1)] [] 2 h (rc2 v0 v1 h)) (v0 : Nat) (v1 : Int32) (s0 : Int32) (s1 : Int32) (s2 : Nat) (h : KH) : kJ X (fun _ : Unit => none) 6 0 0 [(0, .inr (.inr (some v0))), (1, .inl v1)] [.inl s0, .inl s1, .inr (.inr (some s2))] 47 h (X10_measures_b47 rc2 v0 v1 s0 s1 s2 h) := by
  unfold X10_measures_b47
  refine kj_pAI hC dX10_measures_47 (fun h1 => ?_)
  refine kj_iinc (v := v1 + 1) (L' := [(1, .inl (v1 + 1)), (0, .inr (.inr (some v0)))]) hC 1 dX10_measures_48 rfl rfl (by decide) rfl ?_
  refine kj_goto (tgt := 2) hC dX10_measures_51 (by decide) ?_
  exact kj_sub [1, 0] rfl (hr2 v0 (v1 + 1) h1)
set_option maxHeartbeats 4000000 in
set_option maxRecDepth 100000 in
theorem t_X10_measures_b2 {X : KX} (hC : kC X RX10 cX10_measures 6 none) (hN : (xme X).name = yX10_measures.name) (hT : kT0 X) (hmc : xmc X = 0) (hms : xms X = 0) (hD : xD X = 0) (rc2 : Nat → Int32 → KH → KO Unit) (hr2 : ∀ (v0 : Nat) (v1 : Int32) (h : KH), kJ X (fun _ : Unit => none) 6 0 0 [(0, .inr (.inr (some v0))), (1, .inl v1)] [] 2 h (rc2 v0 v1 h)) (v0 : Nat) (v1 : Int32) (h : KH) : kJ X (fun _ : Unit => none) 6 0 0 [(0, .inr (.inr (some v0))), (1, .inl v1)] [] 2 h (X10_measures_b2 rc2 v0 v1 h) := by
  unfold X10_measures_b2
  refine kj_iloadn hC 1 dX10_measures_2 rfl rfl ?_
  refine kj_bipush (v := 64) hC dX10_measures_3 (by decide) ?_
  refine kj_icmp_ge (tgt := 54) hC dX10_measures_5 (by decide) (fun q1 => ?_) (fun q1 => ?_)
  · refine kj_iconst (v := 0) hC dX10_measures_54 (by decide) ?_
    refine kj_istoren (L' := [(1, .inl 0), (0, .inr (.inr (some v0)))]) hC dX10_measures_55 rfl (by decide) rfl ?_
    exact kj_sub [1, 0] rfl (t_X10_measures_L56 hC hN hT hmc hms hD  kF v0 0 h)
  · refine kj_aloadn hC 0 dX10_measures_8 rfl rfl ?_
    refine kj_gN (ci := 10) (k := 3) hC dX10_measures_9 kf_X10_17 rfl (fun a1 => ?_)
    refine kj_iloadn hC 1 dX10_measures_12 rfl rfl ?_
    refine kj_iloadn hC 1 dX10_measures_13 rfl rfl ?_
    refine kj_bipush (v := 8) hC dX10_measures_14 (by decide) ?_
    refine kj_idiv hC dX10_measures_16 ?_
    refine kj_iloadn hC 1 dX10_measures_17 rfl rfl ?_
    refine kj_bipush (v := 8) hC dX10_measures_18 (by decide) ?_
    refine kj_irem hC dX10_measures_20 ?_
    refine kj_icmp_ne (tgt := 28) hC dX10_measures_21 (by decide) (fun q2 => ?_) (fun q2 => ?_)
    · refine kj_iconst (v := 0) hC dX10_measures_24 (by decide) ?_
      refine kj_goto (tgt := 47) hC dX10_measures_25 (by decide) ?_
      exact kj_sub [0, 1] rfl (t_X10_measures_b47 hC hN hT hmc hms hD rc2 hr2 v0 v1 0 v1 a1 h)
    · refine kj_aloadn hC 0 dX10_measures_28 rfl rfl ?_
      refine kj_gN (ci := 10) (k := 2) hC dX10_measures_29 kf_X10_13 rfl (fun a2 => ?_)
      refine kj_iloadn hC 1 dX10_measures_32 rfl rfl ?_
      refine kj_gAI hC dX10_measures_33 (fun x1 => ?_)
      refine kj_if_ne (tgt := 41) hC dX10_measures_34 (by decide) (fun q3 => ?_) (fun q3 => ?_)
      · refine kj_iconst (v := (-1)) hC dX10_measures_37 (by decide) ?_
        refine kj_goto (tgt := 47) hC dX10_measures_38 (by decide) ?_
        exact kj_sub [0, 1] rfl (t_X10_measures_b47 hC hN hT hmc hms hD rc2 hr2 v0 v1 ((-1)) v1 a1 h)
      · refine kj_aloadn hC 0 dX10_measures_41 rfl rfl ?_
        refine kj_gN (ci := 10) (k := 2) hC dX10_measures_42 kf_X10_13 rfl (fun a3 => ?_)
        refine kj_iloadn hC 1 dX10_measures_45 rfl rfl ?_
        refine kj_gAI hC dX10_measures_46 (fun x2 => ?_)
        exact kj_sub [0, 1] rfl (t_X10_measures_b47 hC hN hT hmc hms hD rc2 hr2 v0 v1 x2 v1 a1 h)
set_option maxHeartbeats 4000000 in
set_option maxRecDepth 100000 in
theorem t_X10_measures_L2 {X : KX} (hC : kC X RX10 cX10_measures 6 none) (hN : (xme X).name = yX10_measures.name) (hT : kT0 X) (hmc : xmc X = 0) (hms : xms X = 0) (hD : xD X = 0) : ∀ (n : Nat) (v0 : Nat) (v1 : Int32) (h : KH), kJ X (fun _ : Unit => none) 6 0 0 [(0, .inr (.inr (some v0))), (1, .inl v1)] [] 2 h (X10_measures_L2  n v0 v1 h) := by
  intro n
  induction n with
  | zero => intro v0 v1 h; exact kj_none
  | succ n ih => intro v0 v1 h; exact t_X10_measures_b2 hC hN hT hmc hms hD (X10_measures_L2  n) ih v0 v1 h
set_option maxHeartbeats 4000000 in
set_option maxRecDepth 100000 in
theorem t_X10_measures (p0 : Nat) (h : KH) : kM yX10_measures cX10_measures 6 none 0 0 0 (fun _ : Unit => none) [.inr (.inr (some p0))] h (f_X10_measures p0 h) := by
  refine kM_of RX10 (by decide) rfl (Nat.le_of_ble_eq_true rfl) [(0, .inr (.inr (some p0)))] rfl (fun X hC hN hT hmc hms hD => ?_)
  unfold f_X10_measures
  refine kj_iconst (v := 0) hC dX10_measures_0 (by decide) ?_
  refine kj_istoren (L' := [(1, .inl 0), (0, .inr (.inr (some p0)))]) hC dX10_measures_1 rfl (by decide) rfl ?_
  exact kj_sub [1, 0] rfl (t_X10_measures_L2 hC hN hT hmc hms hD  kF p0 0 h)
set_option maxHeartbeats 4000000 in
set_option maxRecDepth 100000 in
theorem t_X10_init_b232 {X : KX} (hC : kC X RX10 cX10_init 2 none) (hN : (xme X).name = yX10_init.name) (hT : kT0 X) (hmc : xmc X = 27) (hms : xms X = 3479) (hD : xD X = 1) (rc232 : Nat → Int32 → KH → KO Unit) (hr232 : ∀ (v0 : Nat) (v1 : Int32) (h : KH), kJ X (fun _ : Unit => none) 2 27 3479 [(0, .inr (.inr (some v0))), (1, .inl v1)] [] 232 h (rc232 v0 v1 h)) (v0 : Nat) (v1 : Int32) (h : KH) : kJ X (fun _ : Unit => none) 2 27 3479 [(0, .inr (.inr (some v0))), (1, .inl v1)] [] 232 h (X10_init_b232 rc232 v0 v1 h) := by
  unfold X10_init_b232
  refine kj_iloadn hC 1 dX10_init_232 rfl rfl ?_
  refine kj_iconst (v := 4) hC dX10_init_233 (by decide) ?_
  refine kj_icmp_ge (tgt := 252) hC dX10_init_234 (by decide) (fun q1 => ?_) (fun q1 => ?_)
  · refine kj_aloadn hC 0 dX10_init_252 rfl rfl ?_
    refine kj_invV (ci := 10) (q := (RX10, TX10, 36)) (as := []) (rest := []) hC hT dX10_init_253 kw964 ky_X10_measures ky2_X10_measures rfl rfl (t_X10_measures v0 h) rfl rfl (Nat.le_of_ble_eq_true rfl) ⟨by rw [hD]; decide, by decide⟩ ⟨by rw [hmc]; exact Nat.le_of_ble_eq_true rfl, by rw [hms]; exact Nat.le_of_ble_eq_true rfl⟩ (fun _ h1 => ?_)
    refine kj_norm (st' := []) (c' := 27) (z' := 3479) rfl rfl rfl ?_
    refine kj_fin hmc hms ?_
    exact kj_return hC dX10_init_256
  · refine kj_aloadn hC 0 dX10_init_237 rfl rfl ?_
    refine kj_gN (ci := 10) (k := 4) hC dX10_init_238 kf_X10_20 rfl (fun a1 => ?_)
    refine kj_iloadn hC 1 dX10_init_241 rfl rfl ?_
    refine kj_iconst (v := 1) hC dX10_init_242 (by decide) ?_
    refine kj_iloadn hC 1 dX10_init_243 rfl rfl ?_
    refine kj_ishl hC dX10_init_244 ?_
    refine kj_pAI hC dX10_init_245 (fun h2 => ?_)
    refine kj_iinc (v := v1 + 1) (L' := [(1, .inl (v1 + 1)), (0, .inr (.inr (some v0)))]) hC 1 dX10_init_246 rfl rfl (by decide) rfl ?_
    refine kj_goto (tgt := 232) hC dX10_init_249 (by decide) ?_
    exact kj_sub [1, 0] rfl (hr232 v0 (v1 + 1) h2)
set_option maxHeartbeats 4000000 in
set_option maxRecDepth 100000 in
theorem t_X10_init_L232 {X : KX} (hC : kC X RX10 cX10_init 2 none) (hN : (xme X).name = yX10_init.name) (hT : kT0 X) (hmc : xmc X = 27) (hms : xms X = 3479) (hD : xD X = 1) : ∀ (n : Nat) (v0 : Nat) (v1 : Int32) (h : KH), kJ X (fun _ : Unit => none) 2 27 3479 [(0, .inr (.inr (some v0))), (1, .inl v1)] [] 232 h (X10_init_L232  n v0 v1 h) := by
  intro n
  induction n with
  | zero => intro v0 v1 h; exact kj_none
  | succ n ih => intro v0 v1 h; exact t_X10_init_b232 hC hN hT hmc hms hD (X10_init_L232  n) ih v0 v1 h
set_option maxHeartbeats 4000000 in
set_option maxRecDepth 100000 in
theorem t_X10_init (p0 : Nat) (h : KH) : kM yX10_init cX10_init 2 none 1 27 3479 (fun _ : Unit => none) [.inr (.inr (some p0))] h (f_X10_init p0 h) := by
  refine kM_of RX10 (by decide) rfl (Nat.le_of_ble_eq_true rfl) [(0, .inr (.inr (some p0)))] rfl (fun X hC hN hT hmc hms hD => ?_)
  unfold f_X10_init
  refine kj_aloadn hC 0 dX10_init_0 rfl rfl ?_
  refine kj_objInit hC dX10_init_1 kw963 kw75 kw76 (Nat.le_of_ble_eq_true rfl) (by rw [hD]; decide) ?_
  refine kj_aloadn hC 0 dX10_init_4 rfl rfl ?_
  refine kj_bipush (v := 30) hC dX10_init_5 (by decide) ?_
  refine kj_pI (ci := 10) (k := 1) hC dX10_init_7 kf_X10_7 (Or.inl (kNF_of (by decide))) rfl ⟨rfl, rfl⟩ (fun h1 => ?_)
  refine kj_aloadn hC 0 dX10_init_10 rfl rfl ?_
  refine kj_bipush (v := 64) hC dX10_init_11 (by decide) ?_
  refine kj_newa (c := 21) (N := 64) (ty := .int) hC dX10_init_13 rfl rfl (fun _ _ => rfl) kw115 ⟨by decide, by decide, by decide⟩ ⟨by rw [hmc]; exact Nat.le_of_ble_eq_true rfl, by rw [hms]; exact Nat.le_of_ble_eq_true rfl⟩ (fun a1 h2 => ?_)
  refine kj_norm (st' := [.inr (.inr (some a1)), .inr (.inr (some p0))]) (c' := 1) (z' := 64) rfl rfl rfl ?_
  refine kj_pR (ci := 10) (k := 2) hC dX10_init_15 kf_X10_13 (Or.inr ⟨hN, kFF_of (by decide)⟩) rfl (fun h3 => ?_)
  refine kj_aloadn hC 0 dX10_init_18 rfl rfl ?_
  refine kj_bipush (v := 64) hC dX10_init_19 (by decide) ?_
  refine kj_newa (c := 21) (N := 64) (ty := .int) hC dX10_init_21 rfl rfl (fun _ _ => rfl) kw115 ⟨by decide, by decide, by decide⟩ ⟨by rw [hmc]; exact Nat.le_of_ble_eq_true rfl, by rw [hms]; exact Nat.le_of_ble_eq_true rfl⟩ (fun a2 h4 => ?_)
  refine kj_norm (st' := [.inr (.inr (some a2)), .inr (.inr (some p0))]) (c' := 2) (z' := 128) rfl rfl rfl ?_
  refine kj_pR (ci := 10) (k := 3) hC dX10_init_23 kf_X10_17 (Or.inr ⟨hN, kFF_of (by decide)⟩) rfl (fun h5 => ?_)
  refine kj_aloadn hC 0 dX10_init_26 rfl rfl ?_
  refine kj_iconst (v := 4) hC dX10_init_27 (by decide) ?_
  refine kj_newa (c := 21) (N := 4) (ty := .int) hC dX10_init_28 rfl rfl (fun _ _ => rfl) kw115 ⟨by decide, by decide, by decide⟩ ⟨by rw [hmc]; exact Nat.le_of_ble_eq_true rfl, by rw [hms]; exact Nat.le_of_ble_eq_true rfl⟩ (fun a3 h6 => ?_)
  refine kj_norm (st' := [.inr (.inr (some a3)), .inr (.inr (some p0))]) (c' := 3) (z' := 132) rfl rfl rfl ?_
  refine kj_pR (ci := 10) (k := 4) hC dX10_init_30 kf_X10_20 (Or.inr ⟨hN, kFF_of (by decide)⟩) rfl (fun h7 => ?_)
  refine kj_aloadn hC 0 dX10_init_33 rfl rfl ?_
  refine kj_bipush (v := 6) hC dX10_init_34 (by decide) ?_
  refine kj_newa (c := 21) (N := 6) (ty := .int) hC dX10_init_36 rfl rfl (fun _ _ => rfl) kw115 ⟨by decide, by decide, by decide⟩ ⟨by rw [hmc]; exact Nat.le_of_ble_eq_true rfl, by rw [hms]; exact Nat.le_of_ble_eq_true rfl⟩ (fun a4 h8 => ?_)
  refine kj_norm (st' := [.inr (.inr (some a4)), .inr (.inr (some p0))]) (c' := 4) (z' := 138) rfl rfl rfl ?_
  refine kj_pR (ci := 10) (k := 6) hC dX10_init_38 kf_X10_23 (Or.inr ⟨hN, kFF_of (by decide)⟩) rfl (fun h9 => ?_)
  refine kj_aloadn hC 0 dX10_init_41 rfl rfl ?_
  refine kj_sipush (v := 225) hC dX10_init_42 (by decide) ?_
  refine kj_newa (c := 23) (N := 225) (ty := .boolean) hC dX10_init_45 rfl rfl (fun _ _ => rfl) kw116 ⟨by decide, by decide, by decide⟩ ⟨by rw [hmc]; exact Nat.le_of_ble_eq_true rfl, by rw [hms]; exact Nat.le_of_ble_eq_true rfl⟩ (fun a5 h10 => ?_)
  refine kj_norm (st' := [.inr (.inr (some a5)), .inr (.inr (some p0))]) (c' := 5) (z' := 363) rfl rfl rfl ?_
  refine kj_pR (ci := 10) (k := 7) hC dX10_init_47 kf_X10_26 (Or.inr ⟨hN, kFF_of (by decide)⟩) rfl (fun h11 => ?_)
  refine kj_aloadn hC 0 dX10_init_50 rfl rfl ?_
  refine kj_bipush (v := 10) hC dX10_init_51 (by decide) ?_
  refine kj_newa (c := 21) (N := 10) (ty := .int) hC dX10_init_53 rfl rfl (fun _ _ => rfl) kw115 ⟨by decide, by decide, by decide⟩ ⟨by rw [hmc]; exact Nat.le_of_ble_eq_true rfl, by rw [hms]; exact Nat.le_of_ble_eq_true rfl⟩ (fun a6 h12 => ?_)
  refine kj_norm (st' := [.inr (.inr (some a6)), .inr (.inr (some p0))]) (c' := 6) (z' := 373) rfl rfl rfl ?_
  refine kj_pR (ci := 10) (k := 9) hC dX10_init_55 kf_X10_30 (Or.inr ⟨hN, kFF_of (by decide)⟩) rfl (fun h13 => ?_)
  refine kj_aloadn hC 0 dX10_init_58 rfl rfl ?_
  refine kj_bipush (v := 60) hC dX10_init_59 (by decide) ?_
  refine kj_newa (c := 21) (N := 60) (ty := .int) hC dX10_init_61 rfl rfl (fun _ _ => rfl) kw115 ⟨by decide, by decide, by decide⟩ ⟨by rw [hmc]; exact Nat.le_of_ble_eq_true rfl, by rw [hms]; exact Nat.le_of_ble_eq_true rfl⟩ (fun a7 h14 => ?_)
  refine kj_norm (st' := [.inr (.inr (some a7)), .inr (.inr (some p0))]) (c' := 7) (z' := 433) rfl rfl rfl ?_
  refine kj_pR (ci := 10) (k := 10) hC dX10_init_63 kf_X10_33 (Or.inr ⟨hN, kFF_of (by decide)⟩) rfl (fun h15 => ?_)
  refine kj_aloadn hC 0 dX10_init_66 rfl rfl ?_
  refine kj_bipush (v := 10) hC dX10_init_67 (by decide) ?_
  refine kj_newa (c := 21) (N := 10) (ty := .int) hC dX10_init_69 rfl rfl (fun _ _ => rfl) kw115 ⟨by decide, by decide, by decide⟩ ⟨by rw [hmc]; exact Nat.le_of_ble_eq_true rfl, by rw [hms]; exact Nat.le_of_ble_eq_true rfl⟩ (fun a8 h16 => ?_)
  refine kj_norm (st' := [.inr (.inr (some a8)), .inr (.inr (some p0))]) (c' := 8) (z' := 443) rfl rfl rfl ?_
  refine kj_pR (ci := 10) (k := 11) hC dX10_init_71 kf_X10_36 (Or.inr ⟨hN, kFF_of (by decide)⟩) rfl (fun h17 => ?_)
  refine kj_aloadn hC 0 dX10_init_74 rfl rfl ?_
  refine kj_sipush (v := 700) hC dX10_init_75 (by decide) ?_
  refine kj_newa (c := 21) (N := 700) (ty := .int) hC dX10_init_78 rfl rfl (fun _ _ => rfl) kw115 ⟨by decide, by decide, by decide⟩ ⟨by rw [hmc]; exact Nat.le_of_ble_eq_true rfl, by rw [hms]; exact Nat.le_of_ble_eq_true rfl⟩ (fun a9 h18 => ?_)
  refine kj_norm (st' := [.inr (.inr (some a9)), .inr (.inr (some p0))]) (c' := 9) (z' := 1143) rfl rfl rfl ?_
  refine kj_pR (ci := 10) (k := 13) hC dX10_init_80 kf_X10_39 (Or.inr ⟨hN, kFF_of (by decide)⟩) rfl (fun h19 => ?_)
  refine kj_aloadn hC 0 dX10_init_83 rfl rfl ?_
  refine kj_sipush (v := 700) hC dX10_init_84 (by decide) ?_
  refine kj_newa (c := 21) (N := 700) (ty := .int) hC dX10_init_87 rfl rfl (fun _ _ => rfl) kw115 ⟨by decide, by decide, by decide⟩ ⟨by rw [hmc]; exact Nat.le_of_ble_eq_true rfl, by rw [hms]; exact Nat.le_of_ble_eq_true rfl⟩ (fun a10 h20 => ?_)
  refine kj_norm (st' := [.inr (.inr (some a10)), .inr (.inr (some p0))]) (c' := 10) (z' := 1843) rfl rfl rfl ?_
  refine kj_pR (ci := 10) (k := 14) hC dX10_init_89 kf_X10_42 (Or.inr ⟨hN, kFF_of (by decide)⟩) rfl (fun h21 => ?_)
  refine kj_aloadn hC 0 dX10_init_92 rfl rfl ?_
  refine kj_sipush (v := 700) hC dX10_init_93 (by decide) ?_
  refine kj_newa (c := 21) (N := 700) (ty := .int) hC dX10_init_96 rfl rfl (fun _ _ => rfl) kw115 ⟨by decide, by decide, by decide⟩ ⟨by rw [hmc]; exact Nat.le_of_ble_eq_true rfl, by rw [hms]; exact Nat.le_of_ble_eq_true rfl⟩ (fun a11 h22 => ?_)
  refine kj_norm (st' := [.inr (.inr (some a11)), .inr (.inr (some p0))]) (c' := 11) (z' := 2543) rfl rfl rfl ?_
  refine kj_pR (ci := 10) (k := 15) hC dX10_init_98 kf_X10_45 (Or.inr ⟨hN, kFF_of (by decide)⟩) rfl (fun h23 => ?_)
  refine kj_aloadn hC 0 dX10_init_101 rfl rfl ?_
  refine kj_bipush (v := 60) hC dX10_init_102 (by decide) ?_
  refine kj_newa (c := 21) (N := 60) (ty := .int) hC dX10_init_104 rfl rfl (fun _ _ => rfl) kw115 ⟨by decide, by decide, by decide⟩ ⟨by rw [hmc]; exact Nat.le_of_ble_eq_true rfl, by rw [hms]; exact Nat.le_of_ble_eq_true rfl⟩ (fun a12 h24 => ?_)
  refine kj_norm (st' := [.inr (.inr (some a12)), .inr (.inr (some p0))]) (c' := 12) (z' := 2603) rfl rfl rfl ?_
  refine kj_pR (ci := 10) (k := 17) hC dX10_init_106 kf_X10_48 (Or.inr ⟨hN, kFF_of (by decide)⟩) rfl (fun h25 => ?_)
  refine kj_aloadn hC 0 dX10_init_109 rfl rfl ?_
  refine kj_bipush (v := 60) hC dX10_init_110 (by decide) ?_
  refine kj_newa (c := 21) (N := 60) (ty := .int) hC dX10_init_112 rfl rfl (fun _ _ => rfl) kw115 ⟨by decide, by decide, by decide⟩ ⟨by rw [hmc]; exact Nat.le_of_ble_eq_true rfl, by rw [hms]; exact Nat.le_of_ble_eq_true rfl⟩ (fun a13 h26 => ?_)
  refine kj_norm (st' := [.inr (.inr (some a13)), .inr (.inr (some p0))]) (c' := 13) (z' := 2663) rfl rfl rfl ?_
  refine kj_pR (ci := 10) (k := 18) hC dX10_init_114 kf_X10_51 (Or.inr ⟨hN, kFF_of (by decide)⟩) rfl (fun h27 => ?_)
  refine kj_aloadn hC 0 dX10_init_117 rfl rfl ?_
  refine kj_bipush (v := 60) hC dX10_init_118 (by decide) ?_
  refine kj_newa (c := 21) (N := 60) (ty := .int) hC dX10_init_120 rfl rfl (fun _ _ => rfl) kw115 ⟨by decide, by decide, by decide⟩ ⟨by rw [hmc]; exact Nat.le_of_ble_eq_true rfl, by rw [hms]; exact Nat.le_of_ble_eq_true rfl⟩ (fun a14 h28 => ?_)
  refine kj_norm (st' := [.inr (.inr (some a14)), .inr (.inr (some p0))]) (c' := 14) (z' := 2723) rfl rfl rfl ?_
  refine kj_pR (ci := 10) (k := 19) hC dX10_init_122 kf_X10_54 (Or.inr ⟨hN, kFF_of (by decide)⟩) rfl (fun h29 => ?_)
  refine kj_aloadn hC 0 dX10_init_125 rfl rfl ?_
  refine kj_sipush (v := 360) hC dX10_init_126 (by decide) ?_
  refine kj_newa (c := 21) (N := 360) (ty := .int) hC dX10_init_129 rfl rfl (fun _ _ => rfl) kw115 ⟨by decide, by decide, by decide⟩ ⟨by rw [hmc]; exact Nat.le_of_ble_eq_true rfl, by rw [hms]; exact Nat.le_of_ble_eq_true rfl⟩ (fun a15 h30 => ?_)
  refine kj_norm (st' := [.inr (.inr (some a15)), .inr (.inr (some p0))]) (c' := 15) (z' := 3083) rfl rfl rfl ?_
  refine kj_pR (ci := 10) (k := 20) hC dX10_init_131 kf_X10_57 (Or.inr ⟨hN, kFF_of (by decide)⟩) rfl (fun h31 => ?_)
  refine kj_aloadn hC 0 dX10_init_134 rfl rfl ?_
  refine kj_bipush (v := 60) hC dX10_init_135 (by decide) ?_
  refine kj_newa (c := 23) (N := 60) (ty := .boolean) hC dX10_init_137 rfl rfl (fun _ _ => rfl) kw116 ⟨by decide, by decide, by decide⟩ ⟨by rw [hmc]; exact Nat.le_of_ble_eq_true rfl, by rw [hms]; exact Nat.le_of_ble_eq_true rfl⟩ (fun a16 h32 => ?_)
  refine kj_norm (st' := [.inr (.inr (some a16)), .inr (.inr (some p0))]) (c' := 16) (z' := 3143) rfl rfl rfl ?_
  refine kj_pR (ci := 10) (k := 21) hC dX10_init_139 kf_X10_60 (Or.inr ⟨hN, kFF_of (by decide)⟩) rfl (fun h33 => ?_)
  refine kj_aloadn hC 0 dX10_init_142 rfl rfl ?_
  refine kj_bipush (v := 60) hC dX10_init_143 (by decide) ?_
  refine kj_newa (c := 21) (N := 60) (ty := .int) hC dX10_init_145 rfl rfl (fun _ _ => rfl) kw115 ⟨by decide, by decide, by decide⟩ ⟨by rw [hmc]; exact Nat.le_of_ble_eq_true rfl, by rw [hms]; exact Nat.le_of_ble_eq_true rfl⟩ (fun a17 h34 => ?_)
  refine kj_norm (st' := [.inr (.inr (some a17)), .inr (.inr (some p0))]) (c' := 17) (z' := 3203) rfl rfl rfl ?_
  refine kj_pR (ci := 10) (k := 22) hC dX10_init_147 kf_X10_63 (Or.inr ⟨hN, kFF_of (by decide)⟩) rfl (fun h35 => ?_)
  refine kj_aloadn hC 0 dX10_init_150 rfl rfl ?_
  refine kj_bipush (v := 60) hC dX10_init_151 (by decide) ?_
  refine kj_newa (c := 21) (N := 60) (ty := .int) hC dX10_init_153 rfl rfl (fun _ _ => rfl) kw115 ⟨by decide, by decide, by decide⟩ ⟨by rw [hmc]; exact Nat.le_of_ble_eq_true rfl, by rw [hms]; exact Nat.le_of_ble_eq_true rfl⟩ (fun a18 h36 => ?_)
  refine kj_norm (st' := [.inr (.inr (some a18)), .inr (.inr (some p0))]) (c' := 18) (z' := 3263) rfl rfl rfl ?_
  refine kj_pR (ci := 10) (k := 23) hC dX10_init_155 kf_X10_66 (Or.inr ⟨hN, kFF_of (by decide)⟩) rfl (fun h37 => ?_)
  refine kj_aloadn hC 0 dX10_init_158 rfl rfl ?_
  refine kj_bipush (v := 60) hC dX10_init_159 (by decide) ?_
  refine kj_newa (c := 21) (N := 60) (ty := .int) hC dX10_init_161 rfl rfl (fun _ _ => rfl) kw115 ⟨by decide, by decide, by decide⟩ ⟨by rw [hmc]; exact Nat.le_of_ble_eq_true rfl, by rw [hms]; exact Nat.le_of_ble_eq_true rfl⟩ (fun a19 h38 => ?_)
  refine kj_norm (st' := [.inr (.inr (some a19)), .inr (.inr (some p0))]) (c' := 19) (z' := 3323) rfl rfl rfl ?_
  refine kj_pR (ci := 10) (k := 24) hC dX10_init_163 kf_X10_69 (Or.inr ⟨hN, kFF_of (by decide)⟩) rfl (fun h39 => ?_)
  refine kj_aloadn hC 0 dX10_init_166 rfl rfl ?_
  refine kj_bipush (v := 6) hC dX10_init_167 (by decide) ?_
  refine kj_newa (c := 22) (N := 6) (ty := .long) hC dX10_init_169 rfl rfl (fun _ _ => rfl) kw174 ⟨by decide, by decide, by decide⟩ ⟨by rw [hmc]; exact Nat.le_of_ble_eq_true rfl, by rw [hms]; exact Nat.le_of_ble_eq_true rfl⟩ (fun a20 h40 => ?_)
  refine kj_norm (st' := [.inr (.inr (some a20)), .inr (.inr (some p0))]) (c' := 20) (z' := 3329) rfl rfl rfl ?_
  refine kj_pR (ci := 10) (k := 25) hC dX10_init_171 kf_X10_72 (Or.inr ⟨hN, kFF_of (by decide)⟩) rfl (fun h41 => ?_)
  refine kj_aloadn hC 0 dX10_init_174 rfl rfl ?_
  refine kj_bipush (v := 6) hC dX10_init_175 (by decide) ?_
  refine kj_newa (c := 22) (N := 6) (ty := .long) hC dX10_init_177 rfl rfl (fun _ _ => rfl) kw174 ⟨by decide, by decide, by decide⟩ ⟨by rw [hmc]; exact Nat.le_of_ble_eq_true rfl, by rw [hms]; exact Nat.le_of_ble_eq_true rfl⟩ (fun a21 h42 => ?_)
  refine kj_norm (st' := [.inr (.inr (some a21)), .inr (.inr (some p0))]) (c' := 21) (z' := 3335) rfl rfl rfl ?_
  refine kj_pR (ci := 10) (k := 26) hC dX10_init_179 kf_X10_76 (Or.inr ⟨hN, kFF_of (by decide)⟩) rfl (fun h43 => ?_)
  refine kj_aloadn hC 0 dX10_init_182 rfl rfl ?_
  refine kj_bipush (v := 8) hC dX10_init_183 (by decide) ?_
  refine kj_newa (c := 21) (N := 8) (ty := .int) hC dX10_init_185 rfl rfl (fun _ _ => rfl) kw115 ⟨by decide, by decide, by decide⟩ ⟨by rw [hmc]; exact Nat.le_of_ble_eq_true rfl, by rw [hms]; exact Nat.le_of_ble_eq_true rfl⟩ (fun a22 h44 => ?_)
  refine kj_norm (st' := [.inr (.inr (some a22)), .inr (.inr (some p0))]) (c' := 22) (z' := 3343) rfl rfl rfl ?_
  refine kj_pR (ci := 10) (k := 28) hC dX10_init_187 kf_X10_79 (Or.inr ⟨hN, kFF_of (by decide)⟩) rfl (fun h45 => ?_)
  refine kj_aloadn hC 0 dX10_init_190 rfl rfl ?_
  refine kj_bipush (v := 8) hC dX10_init_191 (by decide) ?_
  refine kj_newa (c := 21) (N := 8) (ty := .int) hC dX10_init_193 rfl rfl (fun _ _ => rfl) kw115 ⟨by decide, by decide, by decide⟩ ⟨by rw [hmc]; exact Nat.le_of_ble_eq_true rfl, by rw [hms]; exact Nat.le_of_ble_eq_true rfl⟩ (fun a23 h46 => ?_)
  refine kj_norm (st' := [.inr (.inr (some a23)), .inr (.inr (some p0))]) (c' := 23) (z' := 3351) rfl rfl rfl ?_
  refine kj_pR (ci := 10) (k := 29) hC dX10_init_195 kf_X10_82 (Or.inr ⟨hN, kFF_of (by decide)⟩) rfl (fun h47 => ?_)
  refine kj_aloadn hC 0 dX10_init_198 rfl rfl ?_
  refine kj_bipush (v := 8) hC dX10_init_199 (by decide) ?_
  refine kj_newa (c := 21) (N := 8) (ty := .int) hC dX10_init_201 rfl rfl (fun _ _ => rfl) kw115 ⟨by decide, by decide, by decide⟩ ⟨by rw [hmc]; exact Nat.le_of_ble_eq_true rfl, by rw [hms]; exact Nat.le_of_ble_eq_true rfl⟩ (fun a24 h48 => ?_)
  refine kj_norm (st' := [.inr (.inr (some a24)), .inr (.inr (some p0))]) (c' := 24) (z' := 3359) rfl rfl rfl ?_
  refine kj_pR (ci := 10) (k := 30) hC dX10_init_203 kf_X10_85 (Or.inr ⟨hN, kFF_of (by decide)⟩) rfl (fun h49 => ?_)
  refine kj_aloadn hC 0 dX10_init_206 rfl rfl ?_
  refine kj_bipush (v := 40) hC dX10_init_207 (by decide) ?_
  refine kj_newa (c := 21) (N := 40) (ty := .int) hC dX10_init_209 rfl rfl (fun _ _ => rfl) kw115 ⟨by decide, by decide, by decide⟩ ⟨by rw [hmc]; exact Nat.le_of_ble_eq_true rfl, by rw [hms]; exact Nat.le_of_ble_eq_true rfl⟩ (fun a25 h50 => ?_)
  refine kj_norm (st' := [.inr (.inr (some a25)), .inr (.inr (some p0))]) (c' := 25) (z' := 3399) rfl rfl rfl ?_
  refine kj_pR (ci := 10) (k := 32) hC dX10_init_211 kf_X10_88 (Or.inr ⟨hN, kFF_of (by decide)⟩) rfl (fun h51 => ?_)
  refine kj_aloadn hC 0 dX10_init_214 rfl rfl ?_
  refine kj_bipush (v := 40) hC dX10_init_215 (by decide) ?_
  refine kj_newa (c := 21) (N := 40) (ty := .int) hC dX10_init_217 rfl rfl (fun _ _ => rfl) kw115 ⟨by decide, by decide, by decide⟩ ⟨by rw [hmc]; exact Nat.le_of_ble_eq_true rfl, by rw [hms]; exact Nat.le_of_ble_eq_true rfl⟩ (fun a26 h52 => ?_)
  refine kj_norm (st' := [.inr (.inr (some a26)), .inr (.inr (some p0))]) (c' := 26) (z' := 3439) rfl rfl rfl ?_
  refine kj_pR (ci := 10) (k := 33) hC dX10_init_219 kf_X10_91 (Or.inr ⟨hN, kFF_of (by decide)⟩) rfl (fun h53 => ?_)
  refine kj_aloadn hC 0 dX10_init_222 rfl rfl ?_
  refine kj_bipush (v := 40) hC dX10_init_223 (by decide) ?_
  refine kj_newa (c := 21) (N := 40) (ty := .int) hC dX10_init_225 rfl rfl (fun _ _ => rfl) kw115 ⟨by decide, by decide, by decide⟩ ⟨by rw [hmc]; exact Nat.le_of_ble_eq_true rfl, by rw [hms]; exact Nat.le_of_ble_eq_true rfl⟩ (fun a27 h54 => ?_)
  refine kj_norm (st' := [.inr (.inr (some a27)), .inr (.inr (some p0))]) (c' := 27) (z' := 3479) rfl rfl rfl ?_
  refine kj_pR (ci := 10) (k := 34) hC dX10_init_227 kf_X10_94 (Or.inr ⟨hN, kFF_of (by decide)⟩) rfl (fun h55 => ?_)
  refine kj_iconst (v := 0) hC dX10_init_230 (by decide) ?_
  refine kj_istoren (L' := [(1, .inl 0), (0, .inr (.inr (some p0)))]) hC dX10_init_231 rfl (by decide) rfl ?_
  exact kj_sub [1, 0] rfl (t_X10_init_L232 hC hN hT hmc hms hD  kF p0 0 h55)
set_option maxHeartbeats 4000000 in
set_option maxRecDepth 100000 in
theorem t_X10_thrown (p0 : Nat) (h : KH) : kM yX10_thrown cX10_thrown 1 (some .int) 0 0 0 (fun x : Int32 => some (.inl x)) [.inr (.inr (some p0))] h (f_X10_thrown p0 h) := by
  refine kM_of RX10 (by decide) rfl (Nat.le_of_ble_eq_true rfl) [(0, .inr (.inr (some p0)))] rfl (fun X hC hN hT hmc hms hD => ?_)
  unfold f_X10_thrown
  refine kj_aloadn hC 0 dX10_thrown_0 rfl rfl ?_
  refine kj_gI (ci := 10) (k := 35) hC dX10_thrown_1 kf_X10_100 rfl (fun x1 => ?_)
  refine kj_fin hmc hms ?_
  exact kj_ireturn hC dX10_thrown_4
set_option maxHeartbeats 4000000 in
set_option maxRecDepth 100000 in
theorem t_X10_can_b14 {X : KX} (hC : kC X RX10 cX10_can 2 (some .boolean)) (hN : (xme X).name = yX10_can.name) (hT : kT0 X) (hmc : xmc X = 0) (hms : xms X = 0) (hD : xD X = 0) (s0 : Int32) (h : KH) : kJ X (fun x : Int32 => some (.inl x)) 2 0 0 [] [.inl s0] 14 h (X10_can_b14  s0 h) := by
  unfold X10_can_b14
  refine kj_fin hmc hms ?_
  exact kj_zreturn hC dX10_can_14
set_option maxHeartbeats 4000000 in
set_option maxRecDepth 100000 in
theorem t_X10_can (p0 : Nat) (p1 : Int32) (h : KH) : kM yX10_can cX10_can 2 (some .boolean) 0 0 0 (fun x : Int32 => some (.inl x)) [.inr (.inr (some p0)), .inl p1] h (f_X10_can p0 p1 h) := by
  refine kM_of RX10 (by decide) rfl (Nat.le_of_ble_eq_true rfl) [(0, .inr (.inr (some p0))), (1, .inl p1)] rfl (fun X hC hN hT hmc hms hD => ?_)
  unfold f_X10_can
  refine kj_aloadn hC 0 dX10_can_0 rfl rfl ?_
  refine kj_iloadn hC 1 dX10_can_1 rfl rfl ?_
  refine kj_pI (ci := 10) (k := 35) hC dX10_can_2 kf_X10_100 (Or.inl (kNF_of (by decide))) rfl ⟨rfl, rfl⟩ (fun h1 => ?_)
  refine kj_iloadn hC 1 dX10_can_5 rfl rfl ?_
  refine kj_if_ne (tgt := 13) hC dX10_can_6 (by decide) (fun q1 => ?_) (fun q1 => ?_)
  · refine kj_iconst (v := 1) hC dX10_can_9 (by decide) ?_
    refine kj_goto (tgt := 14) hC dX10_can_10 (by decide) ?_
    exact kj_sub [] rfl (t_X10_can_b14 hC hN hT hmc hms hD  1 h1)
  · refine kj_iconst (v := 0) hC dX10_can_13 (by decide) ?_
    exact kj_sub [] rfl (t_X10_can_b14 hC hN hT hmc hms hD  0 h1)
set_option maxHeartbeats 4000000 in
set_option maxRecDepth 100000 in
theorem t_X10_isIn_b15 {X : KX} (hC : kC X RX10 cX10_isIn 3 (some .boolean)) (hN : (xme X).name = yX10_isIn.name) (hT : kT0 X) (hmc : xmc X = 0) (hms : xms X = 0) (hD : xD X = 0) (s0 : Int32) (h : KH) : kJ X (fun x : Int32 => some (.inl x)) 3 0 0 [] [.inl s0] 15 h (X10_isIn_b15  s0 h) := by
  unfold X10_isIn_b15
  refine kj_fin hmc hms ?_
  exact kj_zreturn hC dX10_isIn_15
set_option maxHeartbeats 4000000 in
set_option maxRecDepth 100000 in
theorem t_X10_isIn_b14 {X : KX} (hC : kC X RX10 cX10_isIn 3 (some .boolean)) (hN : (xme X).name = yX10_isIn.name) (hT : kT0 X) (hmc : xmc X = 0) (hms : xms X = 0) (hD : xD X = 0)  (h : KH) : kJ X (fun x : Int32 => some (.inl x)) 3 0 0 [] [] 14 h (X10_isIn_b14   h) := by
  unfold X10_isIn_b14
  refine kj_iconst (v := 0) hC dX10_isIn_14 (by decide) ?_
  exact kj_sub [] rfl (t_X10_isIn_b15 hC hN hT hmc hms hD  0 h)
set_option maxHeartbeats 4000000 in
set_option maxRecDepth 100000 in
theorem t_X10_isIn (p0 : Int32) (p1 : Int32) (p2 : Int32) (h : KH) : kM yX10_isIn cX10_isIn 3 (some .boolean) 0 0 0 (fun x : Int32 => some (.inl x)) [.inl p0, .inl p1, .inl p2] h (f_X10_isIn p0 p1 p2 h) := by
  refine kM_of RX10 (by decide) rfl (Nat.le_of_ble_eq_true rfl) [(0, .inl p0), (1, .inl p1), (2, .inl p2)] rfl (fun X hC hN hT hmc hms hD => ?_)
  unfold f_X10_isIn
  refine kj_iloadn hC 0 dX10_isIn_0 rfl rfl ?_
  refine kj_iloadn hC 1 dX10_isIn_1 rfl rfl ?_
  refine kj_icmp_lt (tgt := 14) hC dX10_isIn_2 (by decide) (fun q1 => ?_) (fun q1 => ?_)
  · exact kj_sub [] rfl (t_X10_isIn_b14 hC hN hT hmc hms hD   h)
  · refine kj_iloadn hC 0 dX10_isIn_5 rfl rfl ?_
    refine kj_iloadn hC 2 dX10_isIn_6 rfl rfl ?_
    refine kj_icmp_gt (tgt := 14) hC dX10_isIn_7 (by decide) (fun q2 => ?_) (fun q2 => ?_)
    · exact kj_sub [] rfl (t_X10_isIn_b14 hC hN hT hmc hms hD   h)
    · refine kj_iconst (v := 1) hC dX10_isIn_10 (by decide) ?_
      refine kj_goto (tgt := 15) hC dX10_isIn_11 (by decide) ?_
      exact kj_sub [] rfl (t_X10_isIn_b15 hC hN hT hmc hms hD  1 h)
set_option maxHeartbeats 4000000 in
set_option maxRecDepth 100000 in
theorem t_X10_isGate (p0 : Int32) (h : KH) : kM yX10_isGate cX10_isGate 1 (some .boolean) 1 0 0 (fun x : Int32 => some (.inl x)) [.inl p0] h (f_X10_isGate p0 h) := by
  refine kM_of RX10 (by decide) rfl (Nat.le_of_ble_eq_true rfl) [(0, .inl p0)] rfl (fun X hC hN hT hmc hms hD => ?_)
  unfold f_X10_isGate
  refine kj_iloadn hC 0 dX10_isGate_0 rfl rfl ?_
  refine kj_iconst (v := 0) hC dX10_isGate_1 (by decide) ?_
  refine kj_bipush (v := 7) hC dX10_isGate_2 (by decide) ?_
  refine kj_invS (as := [.inl p0, .inl 0, .inl 7]) (rest := []) hC hT dX10_isGate_4 kw1085 ky_X10_isIn ky2_X10_isIn (t_X10_isIn p0 0 7 h) rfl rfl (Nat.le_of_ble_eq_true rfl) ⟨by rw [hD]; decide, by decide⟩ ⟨by rw [hmc]; exact Nat.le_of_ble_eq_true rfl, by rw [hms]; exact Nat.le_of_ble_eq_true rfl⟩ (fun x1 h1 => ?_)
  refine kj_norm (st' := [.inl x1]) (c' := 0) (z' := 0) rfl rfl rfl ?_
  refine kj_fin hmc hms ?_
  exact kj_zreturn hC dX10_isGate_7
set_option maxHeartbeats 4000000 in
set_option maxRecDepth 100000 in
theorem t_X10_isPlate (p0 : Nat) (p1 : Int32) (h : KH) : kM yX10_isPlate cX10_isPlate 2 (some .boolean) 1 0 0 (fun x : Int32 => some (.inl x)) [.inr (.inr (some p0)), .inl p1] h (f_X10_isPlate p0 p1 h) := by
  refine kM_of RX10 (by decide) rfl (Nat.le_of_ble_eq_true rfl) [(0, .inr (.inr (some p0))), (1, .inl p1)] rfl (fun X hC hN hT hmc hms hD => ?_)
  unfold f_X10_isPlate
  refine kj_iloadn hC 1 dX10_isPlate_0 rfl rfl ?_
  refine kj_iconst (v := 0) hC dX10_isPlate_1 (by decide) ?_
  refine kj_aloadn hC 0 dX10_isPlate_2 rfl rfl ?_
  refine kj_gI (ci := 10) (k := 8) hC dX10_isPlate_3 kf_X10_107 rfl (fun x1 => ?_)
  refine kj_iconst (v := 1) hC dX10_isPlate_6 (by decide) ?_
  refine kj_isub hC dX10_isPlate_7 ?_
  refine kj_invS (as := [.inl p1, .inl 0, .inl (x1 - 1)]) (rest := []) hC hT dX10_isPlate_8 kw1085 ky_X10_isIn ky2_X10_isIn (t_X10_isIn p1 0 (x1 - 1) h) rfl rfl (Nat.le_of_ble_eq_true rfl) ⟨by rw [hD]; decide, by decide⟩ ⟨by rw [hmc]; exact Nat.le_of_ble_eq_true rfl, by rw [hms]; exact Nat.le_of_ble_eq_true rfl⟩ (fun x2 h1 => ?_)
  refine kj_norm (st' := [.inl x2]) (c' := 0) (z' := 0) rfl rfl rfl ?_
  refine kj_fin hmc hms ?_
  exact kj_zreturn hC dX10_isPlate_11
set_option maxHeartbeats 4000000 in
set_option maxRecDepth 100000 in
theorem t_X10_isDriver (p0 : Int32) (h : KH) : kM yX10_isDriver cX10_isDriver 1 (some .boolean) 1 0 0 (fun x : Int32 => some (.inl x)) [.inl p0] h (f_X10_isDriver p0 h) := by
  refine kM_of RX10 (by decide) rfl (Nat.le_of_ble_eq_true rfl) [(0, .inl p0)] rfl (fun X hC hN hT hmc hms hD => ?_)
  unfold f_X10_isDriver
  refine kj_iloadn hC 0 dX10_isDriver_0 rfl rfl ?_
  refine kj_iconst (v := 0) hC dX10_isDriver_1 (by decide) ?_
  refine kj_iconst (v := 5) hC dX10_isDriver_2 (by decide) ?_
  refine kj_invS (as := [.inl p0, .inl 0, .inl 5]) (rest := []) hC hT dX10_isDriver_3 kw1085 ky_X10_isIn ky2_X10_isIn (t_X10_isIn p0 0 5 h) rfl rfl (Nat.le_of_ble_eq_true rfl) ⟨by rw [hD]; decide, by decide⟩ ⟨by rw [hmc]; exact Nat.le_of_ble_eq_true rfl, by rw [hms]; exact Nat.le_of_ble_eq_true rfl⟩ (fun x1 h1 => ?_)
  refine kj_norm (st' := [.inl x1]) (c' := 0) (z' := 0) rfl rfl rfl ?_
  refine kj_fin hmc hms ?_
  exact kj_zreturn hC dX10_isDriver_6
set_option maxHeartbeats 4000000 in
set_option maxRecDepth 100000 in
theorem t_X10_isReading (p0 : Nat) (p1 : Int32) (h : KH) : kM yX10_isReading cX10_isReading 2 (some .boolean) 1 0 0 (fun x : Int32 => some (.inl x)) [.inr (.inr (some p0)), .inl p1] h (f_X10_isReading p0 p1 h) := by
  refine kM_of RX10 (by decide) rfl (Nat.le_of_ble_eq_true rfl) [(0, .inr (.inr (some p0))), (1, .inl p1)] rfl (fun X hC hN hT hmc hms hD => ?_)
  unfold f_X10_isReading
  refine kj_iloadn hC 1 dX10_isReading_0 rfl rfl ?_
  refine kj_iconst (v := 0) hC dX10_isReading_1 (by decide) ?_
  refine kj_aloadn hC 0 dX10_isReading_2 rfl rfl ?_
  refine kj_gI (ci := 10) (k := 16) hC dX10_isReading_3 kf_X10_110 rfl (fun x1 => ?_)
  refine kj_iconst (v := 1) hC dX10_isReading_6 (by decide) ?_
  refine kj_isub hC dX10_isReading_7 ?_
  refine kj_invS (as := [.inl p1, .inl 0, .inl (x1 - 1)]) (rest := []) hC hT dX10_isReading_8 kw1085 ky_X10_isIn ky2_X10_isIn (t_X10_isIn p1 0 (x1 - 1) h) rfl rfl (Nat.le_of_ble_eq_true rfl) ⟨by rw [hD]; decide, by decide⟩ ⟨by rw [hmc]; exact Nat.le_of_ble_eq_true rfl, by rw [hms]; exact Nat.le_of_ble_eq_true rfl⟩ (fun x2 h1 => ?_)
  refine kj_norm (st' := [.inl x2]) (c' := 0) (z' := 0) rfl rfl rfl ?_
  refine kj_fin hmc hms ?_
  exact kj_zreturn hC dX10_isReading_11
set_option maxHeartbeats 4000000 in
set_option maxRecDepth 100000 in
theorem t_X10_pass_b32 {X : KX} (hC : kC X RX10 cX10_pass 2 (some .int)) (hN : (xme X).name = yX10_pass.name) (hT : kT0 X) (hmc : xmc X = 0) (hms : xms X = 0) (hD : xD X = 1) (v0 : Nat) (v1 : Int32) (s0 : Int32) (s1 : Nat) (h : KH) : kJ X (fun x : Int32 => some (.inl x)) 2 0 0 [(0, .inr (.inr (some v0))), (1, .inl v1)] [.inl s0, .inr (.inr (some s1))] 32 h (X10_pass_b32  v0 v1 s0 s1 h) := by
  unfold X10_pass_b32
  refine kj_invV (ci := 10) (q := (RX10, TX10, 36)) (as := [.inl s0]) (rest := []) hC hT dX10_pass_32 kw1089 ky_X10_can ky2_X10_can rfl rfl (t_X10_can s1 s0 h) rfl rfl (Nat.le_of_ble_eq_true rfl) ⟨by rw [hD]; decide, by decide⟩ ⟨by rw [hmc]; exact Nat.le_of_ble_eq_true rfl, by rw [hms]; exact Nat.le_of_ble_eq_true rfl⟩ (fun x1 h1 => ?_)
  refine kj_norm (st' := [.inl x1]) (c' := 0) (z' := 0) rfl rfl rfl ?_
  refine kj_if_ne (tgt := 40) hC dX10_pass_35 (by decide) (fun q1 => ?_) (fun q1 => ?_)
  · refine kj_iconst (v := 0) hC dX10_pass_38 (by decide) ?_
    refine kj_fin hmc hms ?_
    exact kj_ireturn hC dX10_pass_39
  · refine kj_aloadn hC 0 dX10_pass_40 rfl rfl ?_
    refine kj_dup hC dX10_pass_41 rfl ?_
    refine kj_gI (ci := 10) (k := 0) hC dX10_pass_42 kf_X10_113 rfl (fun x2 => ?_)
    refine kj_iloadn hC 1 dX10_pass_45 rfl rfl ?_
    refine kj_iadd hC dX10_pass_46 ?_
    refine kj_pI (ci := 10) (k := 0) hC dX10_pass_47 kf_X10_113 (Or.inl (kNF_of (by decide))) rfl ⟨rfl, rfl⟩ (fun h2 => ?_)
    refine kj_aloadn hC 0 dX10_pass_50 rfl rfl ?_
    refine kj_gI (ci := 10) (k := 0) hC dX10_pass_51 kf_X10_113 rfl (fun x3 => ?_)
    refine kj_fin hmc hms ?_
    exact kj_ireturn hC dX10_pass_54
set_option maxHeartbeats 4000000 in
set_option maxRecDepth 100000 in
theorem t_X10_pass (p0 : Nat) (p1 : Int32) (h : KH) : kM yX10_pass cX10_pass 2 (some .int) 1 0 0 (fun x : Int32 => some (.inl x)) [.inr (.inr (some p0)), .inl p1] h (f_X10_pass p0 p1 h) := by
  refine kM_of RX10 (by decide) rfl (Nat.le_of_ble_eq_true rfl) [(0, .inr (.inr (some p0))), (1, .inl p1)] rfl (fun X hC hN hT hmc hms hD => ?_)
  unfold f_X10_pass
  refine kj_aloadn hC 0 dX10_pass_0 rfl rfl ?_
  refine kj_iloadn hC 1 dX10_pass_1 rfl rfl ?_
  refine kj_iconst (v := 1) hC dX10_pass_2 (by decide) ?_
  refine kj_sipush (v := 2000) hC dX10_pass_3 (by decide) ?_
  refine kj_invS (as := [.inl p1, .inl 1, .inl 2000]) (rest := [.inr (.inr (some p0))]) hC hT dX10_pass_6 kw1085 ky_X10_isIn ky2_X10_isIn (t_X10_isIn p1 1 2000 h) rfl rfl (Nat.le_of_ble_eq_true rfl) ⟨by rw [hD]; decide, by decide⟩ ⟨by rw [hmc]; exact Nat.le_of_ble_eq_true rfl, by rw [hms]; exact Nat.le_of_ble_eq_true rfl⟩ (fun x1 h1 => ?_)
  refine kj_norm (st' := [.inl x1, .inr (.inr (some p0))]) (c' := 0) (z' := 0) rfl rfl rfl ?_
  refine kj_if_ne (tgt := 16) hC dX10_pass_9 (by decide) (fun q1 => ?_) (fun q1 => ?_)
  · refine kj_iconst (v := 1) hC dX10_pass_12 (by decide) ?_
    refine kj_goto (tgt := 32) hC dX10_pass_13 (by decide) ?_
    exact kj_sub [0, 1] rfl (t_X10_pass_b32 hC hN hT hmc hms hD  p0 p1 1 p0 h1)
  · refine kj_aloadn hC 0 dX10_pass_16 rfl rfl ?_
    refine kj_gI (ci := 10) (k := 0) hC dX10_pass_17 kf_X10_113 rfl (fun x2 => ?_)
    refine kj_iloadn hC 1 dX10_pass_20 rfl rfl ?_
    refine kj_iadd hC dX10_pass_21 ?_
    refine kj_ldc (v := 50000) hC dX10_pass_22 kw1088 ?_
    refine kj_icmp_le (tgt := 31) hC dX10_pass_24 (by decide) (fun q2 => ?_) (fun q2 => ?_)
    · refine kj_iconst (v := 0) hC dX10_pass_31 (by decide) ?_
      exact kj_sub [0, 1] rfl (t_X10_pass_b32 hC hN hT hmc hms hD  p0 p1 0 p0 h1)
    · refine kj_iconst (v := 2) hC dX10_pass_27 (by decide) ?_
      refine kj_goto (tgt := 32) hC dX10_pass_28 (by decide) ?_
      exact kj_sub [0, 1] rfl (t_X10_pass_b32 hC hN hT hmc hms hD  p0 p1 2 p0 h1)
set_option maxHeartbeats 4000000 in
set_option maxRecDepth 100000 in
theorem t_X10_now (p0 : Nat) (h : KH) : kM yX10_now cX10_now 1 (some .int) 0 0 0 (fun x : Int32 => some (.inl x)) [.inr (.inr (some p0))] h (f_X10_now p0 h) := by
  refine kM_of RX10 (by decide) rfl (Nat.le_of_ble_eq_true rfl) [(0, .inr (.inr (some p0)))] rfl (fun X hC hN hT hmc hms hD => ?_)
  unfold f_X10_now
  refine kj_aloadn hC 0 dX10_now_0 rfl rfl ?_
  refine kj_iconst (v := 0) hC dX10_now_1 (by decide) ?_
  refine kj_pI (ci := 10) (k := 35) hC dX10_now_2 kf_X10_100 (Or.inl (kNF_of (by decide))) rfl ⟨rfl, rfl⟩ (fun h1 => ?_)
  refine kj_aloadn hC 0 dX10_now_5 rfl rfl ?_
  refine kj_gI (ci := 10) (k := 0) hC dX10_now_6 kf_X10_113 rfl (fun x1 => ?_)
  refine kj_fin hmc hms ?_
  exact kj_ireturn hC dX10_now_9
set_option maxHeartbeats 4000000 in
set_option maxRecDepth 100000 in
theorem t_X10_road_b52 {X : KX} (hC : kC X RX10 cX10_road 6 (some .int)) (hN : (xme X).name = yX10_road.name) (hT : kT0 X) (hmc : xmc X = 0) (hms : xms X = 0) (hD : xD X = 2) (v0 : Nat) (v1 : Int32) (v2 : Int32) (v3 : Int32) (s0 : Int32) (s1 : Nat) (h : KH) : kJ X (fun x : Int32 => some (.inl x)) 6 0 0 [(0, .inr (.inr (some v0))), (1, .inl v1), (2, .inl v2), (3, .inl v3)] [.inl s0, .inr (.inr (some s1))] 52 h (X10_road_b52  v0 v1 v2 v3 s0 s1 h) := by
  unfold X10_road_b52
  refine kj_invV (ci := 10) (q := (RX10, TX10, 36)) (as := [.inl s0]) (rest := []) hC hT dX10_road_52 kw1089 ky_X10_can ky2_X10_can rfl rfl (t_X10_can s1 s0 h) rfl rfl (Nat.le_of_ble_eq_true rfl) ⟨by rw [hD]; decide, by decide⟩ ⟨by rw [hmc]; exact Nat.le_of_ble_eq_true rfl, by rw [hms]; exact Nat.le_of_ble_eq_true rfl⟩ (fun x1 h1 => ?_)
  refine kj_norm (st' := [.inl x1]) (c' := 0) (z' := 0) rfl rfl rfl ?_
  refine kj_if_ne (tgt := 60) hC dX10_road_55 (by decide) (fun q1 => ?_) (fun q1 => ?_)
  · refine kj_iconst (v := 0) hC dX10_road_58 (by decide) ?_
    refine kj_fin hmc hms ?_
    exact kj_ireturn hC dX10_road_59
  · refine kj_aloadn hC 0 dX10_road_60 rfl rfl ?_
    refine kj_gN (ci := 10) (k := 2) hC dX10_road_61 kf_X10_13 rfl (fun a1 => ?_)
    refine kj_bipush (v := 8) hC dX10_road_64 (by decide) ?_
    refine kj_iloadn hC 1 dX10_road_66 rfl rfl ?_
    refine kj_imul hC dX10_road_67 ?_
    refine kj_iloadn hC 2 dX10_road_68 rfl rfl ?_
    refine kj_iadd hC dX10_road_69 ?_
    refine kj_gAI hC dX10_road_70 (fun x2 => ?_)
    refine kj_istore (L' := [(5, .inl x2), (0, .inr (.inr (some v0))), (1, .inl v1), (2, .inl v2), (3, .inl v3)]) hC dX10_road_71 (by decide) rfl ?_
    refine kj_aloadn hC 1 dX10_road_73 rfl rfl ?_
    refine kj_gN (ci := 10) (k := 2) hC dX10_road_74 kf_X10_13 rfl (fun a2 => ?_)
    refine kj_bipush (v := 8) hC dX10_road_77 (by decide) ?_
    refine kj_iloadn hC 2 dX10_road_79 rfl rfl ?_
    refine kj_imul hC dX10_road_80 ?_
    refine kj_iloadn hC 3 dX10_road_81 rfl rfl ?_
    refine kj_iadd hC dX10_road_82 ?_
    refine kj_iloadn hC 4 dX10_road_83 rfl rfl ?_
    refine kj_pAI hC dX10_road_84 (fun h2 => ?_)
    refine kj_aloadn hC 1 dX10_road_85 rfl rfl ?_
    refine kj_gN (ci := 10) (k := 2) hC dX10_road_86 kf_X10_13 rfl (fun a3 => ?_)
    refine kj_bipush (v := 8) hC dX10_road_89 (by decide) ?_
    refine kj_iloadn hC 3 dX10_road_91 rfl rfl ?_
    refine kj_imul hC dX10_road_92 ?_
    refine kj_iloadn hC 2 dX10_road_93 rfl rfl ?_
    refine kj_iadd hC dX10_road_94 ?_
    refine kj_iloadn hC 4 dX10_road_95 rfl rfl ?_
    refine kj_pAI hC dX10_road_96 (fun h3 => ?_)
    refine kj_aloadn hC 1 dX10_road_97 rfl rfl ?_
    refine kj_invV (ci := 10) (q := (RX10, TX10, 36)) (as := []) (rest := []) hC hT dX10_road_98 kw964 ky_X10_measures ky2_X10_measures rfl rfl (t_X10_measures v0 h3) rfl rfl (Nat.le_of_ble_eq_true rfl) ⟨by rw [hD]; decide, by decide⟩ ⟨by rw [hmc]; exact Nat.le_of_ble_eq_true rfl, by rw [hms]; exact Nat.le_of_ble_eq_true rfl⟩ (fun _ h4 => ?_)
    refine kj_norm (st' := []) (c' := 0) (z' := 0) rfl rfl rfl ?_
    refine kj_iload hC 0 dX10_road_101 rfl ?_
    refine kj_fin hmc hms ?_
    exact kj_ireturn hC dX10_road_103
set_option maxHeartbeats 4000000 in
set_option maxRecDepth 100000 in
theorem t_X10_road_b47 {X : KX} (hC : kC X RX10 cX10_road 6 (some .int)) (hN : (xme X).name = yX10_road.name) (hT : kT0 X) (hmc : xmc X = 0) (hms : xms X = 0) (hD : xD X = 2) (v0 : Nat) (v1 : Int32) (v2 : Int32) (v3 : Int32) (s0 : Nat) (h : KH) : kJ X (fun x : Int32 => some (.inl x)) 6 0 0 [(0, .inr (.inr (some v0))), (1, .inl v1), (2, .inl v2), (3, .inl v3)] [.inr (.inr (some s0))] 47 h (X10_road_b47  v0 v1 v2 v3 s0 h) := by
  unfold X10_road_b47
  refine kj_iconst (v := 2) hC dX10_road_47 (by decide) ?_
  refine kj_goto (tgt := 52) hC dX10_road_48 (by decide) ?_
  exact kj_sub [0, 1, 2, 3] rfl (t_X10_road_b52 hC hN hT hmc hms hD  v0 v1 v2 v3 2 s0 h)
set_option maxHeartbeats 4000000 in
set_option maxRecDepth 100000 in
theorem t_X10_road_b19 {X : KX} (hC : kC X RX10 cX10_road 6 (some .int)) (hN : (xme X).name = yX10_road.name) (hT : kT0 X) (hmc : xmc X = 0) (hms : xms X = 0) (hD : xD X = 2) (v0 : Nat) (v1 : Int32) (v2 : Int32) (v3 : Int32) (s0 : Int32) (h : KH) : kJ X (fun x : Int32 => some (.inl x)) 6 0 0 [(0, .inr (.inr (some v0))), (1, .inl v1), (2, .inl v2), (3, .inl v3)] [.inl s0] 19 h (X10_road_b19  v0 v1 v2 v3 s0 h) := by
  unfold X10_road_b19
  refine kj_istore (L' := [(4, .inl s0), (0, .inr (.inr (some v0))), (1, .inl v1), (2, .inl v2), (3, .inl v3)]) hC dX10_road_19 (by decide) rfl ?_
  refine kj_aloadn hC 1 dX10_road_21 rfl rfl ?_
  refine kj_iload hC 0 dX10_road_22 rfl ?_
  refine kj_if_ne (tgt := 31) hC dX10_road_24 (by decide) (fun q1 => ?_) (fun q1 => ?_)
  · refine kj_iconst (v := 1) hC dX10_road_27 (by decide) ?_
    refine kj_goto (tgt := 52) hC dX10_road_28 (by decide) ?_
    exact kj_sub [1, 2, 3, 4] rfl (t_X10_road_b52 hC hN hT hmc hms hD  v0 v1 v2 v3 1 v0 h)
  · refine kj_iloadn hC 2 dX10_road_31 rfl rfl ?_
    refine kj_iloadn hC 3 dX10_road_32 rfl rfl ?_
    refine kj_icmp_eq (tgt := 47) hC dX10_road_33 (by decide) (fun q2 => ?_) (fun q2 => ?_)
    · exact kj_sub [1, 2, 3, 4] rfl (t_X10_road_b47 hC hN hT hmc hms hD  v0 v1 v2 v3 v0 h)
    · refine kj_iloadn hC 4 dX10_road_36 rfl rfl ?_
      refine kj_iconst (v := 0) hC dX10_road_37 (by decide) ?_
      refine kj_sipush (v := 200) hC dX10_road_38 (by decide) ?_
      refine kj_invS (as := [.inl v3, .inl 0, .inl 200]) (rest := [.inr (.inr (some v0))]) hC hT dX10_road_41 kw1085 ky_X10_isIn ky2_X10_isIn (t_X10_isIn v3 0 200 h) rfl rfl (Nat.le_of_ble_eq_true rfl) ⟨by rw [hD]; decide, by decide⟩ ⟨by rw [hmc]; exact Nat.le_of_ble_eq_true rfl, by rw [hms]; exact Nat.le_of_ble_eq_true rfl⟩ (fun x1 h1 => ?_)
      refine kj_norm (st' := [.inl x1, .inr (.inr (some v0))]) (c' := 0) (z' := 0) rfl rfl rfl ?_
      refine kj_if_ne (tgt := 51) hC dX10_road_44 (by decide) (fun q3 => ?_) (fun q3 => ?_)
      · exact kj_sub [1, 2, 3, 4] rfl (t_X10_road_b47 hC hN hT hmc hms hD  v0 v1 v2 v3 v0 h1)
      · refine kj_iconst (v := 0) hC dX10_road_51 (by decide) ?_
        exact kj_sub [1, 2, 3, 4] rfl (t_X10_road_b52 hC hN hT hmc hms hD  v0 v1 v2 v3 0 v0 h1)
set_option maxHeartbeats 4000000 in
set_option maxRecDepth 100000 in
theorem t_X10_road_b18 {X : KX} (hC : kC X RX10 cX10_road 6 (some .int)) (hN : (xme X).name = yX10_road.name) (hT : kT0 X) (hmc : xmc X = 0) (hms : xms X = 0) (hD : xD X = 2) (v0 : Nat) (v1 : Int32) (v2 : Int32) (v3 : Int32) (h : KH) : kJ X (fun x : Int32 => some (.inl x)) 6 0 0 [(0, .inr (.inr (some v0))), (1, .inl v1), (2, .inl v2), (3, .inl v3)] [] 18 h (X10_road_b18  v0 v1 v2 v3 h) := by
  unfold X10_road_b18
  refine kj_iconst (v := 0) hC dX10_road_18 (by decide) ?_
  exact kj_sub [0, 1, 2, 3] rfl (t_X10_road_b19 hC hN hT hmc hms hD  v0 v1 v2 v3 0 h)
set_option maxHeartbeats 4000000 in
set_option maxRecDepth 100000 in
theorem t_X10_road (p0 : Nat) (p1 : Int32) (p2 : Int32) (p3 : Int32) (h : KH) : kM yX10_road cX10_road 6 (some .int) 2 0 0 (fun x : Int32 => some (.inl x)) [.inr (.inr (some p0)), .inl p1, .inl p2, .inl p3] h (f_X10_road p0 p1 p2 p3 h) := by
  refine kM_of RX10 (by decide) rfl (Nat.le_of_ble_eq_true rfl) [(0, .inr (.inr (some p0))), (1, .inl p1), (2, .inl p2), (3, .inl p3)] rfl (fun X hC hN hT hmc hms hD => ?_)
  unfold f_X10_road
  refine kj_iloadn hC 1 dX10_road_0 rfl rfl ?_
  refine kj_invS (as := [.inl p1]) (rest := []) hC hT dX10_road_1 kw1101 ky_X10_isGate ky2_X10_isGate (t_X10_isGate p1 h) rfl rfl (Nat.le_of_ble_eq_true rfl) ⟨by rw [hD]; decide, by decide⟩ ⟨by rw [hmc]; exact Nat.le_of_ble_eq_true rfl, by rw [hms]; exact Nat.le_of_ble_eq_true rfl⟩ (fun x1 h1 => ?_)
  refine kj_norm (st' := [.inl x1]) (c' := 0) (z' := 0) rfl rfl rfl ?_
  refine kj_if_eq (tgt := 18) hC dX10_road_4 (by decide) (fun q1 => ?_) (fun q1 => ?_)
  · exact kj_sub [0, 1, 2, 3] rfl (t_X10_road_b18 hC hN hT hmc hms hD  p0 p1 p2 p3 h1)
  · refine kj_iloadn hC 2 dX10_road_7 rfl rfl ?_
    refine kj_invS (as := [.inl p2]) (rest := []) hC hT dX10_road_8 kw1101 ky_X10_isGate ky2_X10_isGate (t_X10_isGate p2 h1) rfl rfl (Nat.le_of_ble_eq_true rfl) ⟨by rw [hD]; decide, by decide⟩ ⟨by rw [hmc]; exact Nat.le_of_ble_eq_true rfl, by rw [hms]; exact Nat.le_of_ble_eq_true rfl⟩ (fun x2 h2 => ?_)
    refine kj_norm (st' := [.inl x2]) (c' := 0) (z' := 0) rfl rfl rfl ?_
    refine kj_if_eq (tgt := 18) hC dX10_road_11 (by decide) (fun q2 => ?_) (fun q2 => ?_)
    · exact kj_sub [0, 1, 2, 3] rfl (t_X10_road_b18 hC hN hT hmc hms hD  p0 p1 p2 p3 h2)
    · refine kj_iconst (v := 1) hC dX10_road_14 (by decide) ?_
      refine kj_goto (tgt := 19) hC dX10_road_15 (by decide) ?_
      exact kj_sub [0, 1, 2, 3] rfl (t_X10_road_b19 hC hN hT hmc hms hD  p0 p1 p2 p3 1 h2)
set_option maxHeartbeats 4000000 in
set_option maxRecDepth 100000 in
theorem t_X10_distance_b41 {X : KX} (hC : kC X RX10 cX10_distance 3 (some .int)) (hN : (xme X).name = yX10_distance.name) (hT : kT0 X) (hmc : xmc X = 0) (hms : xms X = 0) (hD : xD X = 2) (s0 : Int32) (h : KH) : kJ X (fun x : Int32 => some (.inl x)) 3 0 0 [] [.inl s0] 41 h (X10_distance_b41  s0 h) := by
  unfold X10_distance_b41
  refine kj_fin hmc hms ?_
  exact kj_ireturn hC dX10_distance_41
set_option maxHeartbeats 4000000 in
set_option maxRecDepth 100000 in
theorem t_X10_distance_b20 {X : KX} (hC : kC X RX10 cX10_distance 3 (some .int)) (hN : (xme X).name = yX10_distance.name) (hT : kT0 X) (hmc : xmc X = 0) (hms : xms X = 0) (hD : xD X = 2) (v0 : Nat) (v1 : Int32) (v2 : Int32) (s0 : Int32) (s1 : Nat) (h : KH) : kJ X (fun x : Int32 => some (.inl x)) 3 0 0 [(0, .inr (.inr (some v0))), (1, .inl v1), (2, .inl v2)] [.inl s0, .inr (.inr (some s1))] 20 h (X10_distance_b20  v0 v1 v2 s0 s1 h) := by
  unfold X10_distance_b20
  refine kj_invV (ci := 10) (q := (RX10, TX10, 36)) (as := [.inl s0]) (rest := []) hC hT dX10_distance_20 kw1089 ky_X10_can ky2_X10_can rfl rfl (t_X10_can s1 s0 h) rfl rfl (Nat.le_of_ble_eq_true rfl) ⟨by rw [hD]; decide, by decide⟩ ⟨by rw [hmc]; exact Nat.le_of_ble_eq_true rfl, by rw [hms]; exact Nat.le_of_ble_eq_true rfl⟩ (fun x1 h1 => ?_)
  refine kj_norm (st' := [.inl x1]) (c' := 0) (z' := 0) rfl rfl rfl ?_
  refine kj_if_eq (tgt := 40) hC dX10_distance_23 (by decide) (fun q1 => ?_) (fun q1 => ?_)
  · refine kj_iconst (v := 0) hC dX10_distance_40 (by decide) ?_
    exact kj_sub [] rfl (t_X10_distance_b41 hC hN hT hmc hms hD  0 h1)
  · refine kj_aloadn hC 0 dX10_distance_26 rfl rfl ?_
    refine kj_gN (ci := 10) (k := 3) hC dX10_distance_27 kf_X10_17 rfl (fun a1 => ?_)
    refine kj_bipush (v := 8) hC dX10_distance_30 (by decide) ?_
    refine kj_iloadn hC 1 dX10_distance_32 rfl rfl ?_
    refine kj_imul hC dX10_distance_33 ?_
    refine kj_iloadn hC 2 dX10_distance_34 rfl rfl ?_
    refine kj_iadd hC dX10_distance_35 ?_
    refine kj_gAI hC dX10_distance_36 (fun x2 => ?_)
    refine kj_goto (tgt := 41) hC dX10_distance_37 (by decide) ?_
    exact kj_sub [] rfl (t_X10_distance_b41 hC hN hT hmc hms hD  x2 h1)
set_option maxHeartbeats 4000000 in
set_option maxRecDepth 100000 in
theorem t_X10_distance_b19 {X : KX} (hC : kC X RX10 cX10_distance 3 (some .int)) (hN : (xme X).name = yX10_distance.name) (hT : kT0 X) (hmc : xmc X = 0) (hms : xms X = 0) (hD : xD X = 2) (v0 : Nat) (v1 : Int32) (v2 : Int32) (s0 : Nat) (h : KH) : kJ X (fun x : Int32 => some (.inl x)) 3 0 0 [(0, .inr (.inr (some v0))), (1, .inl v1), (2, .inl v2)] [.inr (.inr (some s0))] 19 h (X10_distance_b19  v0 v1 v2 s0 h) := by
  unfold X10_distance_b19
  refine kj_iconst (v := 1) hC dX10_distance_19 (by decide) ?_
  exact kj_sub [0, 1, 2] rfl (t_X10_distance_b20 hC hN hT hmc hms hD  v0 v1 v2 1 s0 h)
set_option maxHeartbeats 4000000 in
set_option maxRecDepth 100000 in
theorem t_X10_distance (p0 : Nat) (p1 : Int32) (p2 : Int32) (h : KH) : kM yX10_distance cX10_distance 3 (some .int) 2 0 0 (fun x : Int32 => some (.inl x)) [.inr (.inr (some p0)), .inl p1, .inl p2] h (f_X10_distance p0 p1 p2 h) := by
  refine kM_of RX10 (by decide) rfl (Nat.le_of_ble_eq_true rfl) [(0, .inr (.inr (some p0))), (1, .inl p1), (2, .inl p2)] rfl (fun X hC hN hT hmc hms hD => ?_)
  unfold f_X10_distance
  refine kj_aloadn hC 0 dX10_distance_0 rfl rfl ?_
  refine kj_iloadn hC 1 dX10_distance_1 rfl rfl ?_
  refine kj_invS (as := [.inl p1]) (rest := [.inr (.inr (some p0))]) hC hT dX10_distance_2 kw1101 ky_X10_isGate ky2_X10_isGate (t_X10_isGate p1 h) rfl rfl (Nat.le_of_ble_eq_true rfl) ⟨by rw [hD]; decide, by decide⟩ ⟨by rw [hmc]; exact Nat.le_of_ble_eq_true rfl, by rw [hms]; exact Nat.le_of_ble_eq_true rfl⟩ (fun x1 h1 => ?_)
  refine kj_norm (st' := [.inl x1, .inr (.inr (some p0))]) (c' := 0) (z' := 0) rfl rfl rfl ?_
  refine kj_if_eq (tgt := 19) hC dX10_distance_5 (by decide) (fun q1 => ?_) (fun q1 => ?_)
  · exact kj_sub [0, 1, 2] rfl (t_X10_distance_b19 hC hN hT hmc hms hD  p0 p1 p2 p0 h1)
  · refine kj_iloadn hC 2 dX10_distance_8 rfl rfl ?_
    refine kj_invS (as := [.inl p2]) (rest := [.inr (.inr (some p0))]) hC hT dX10_distance_9 kw1101 ky_X10_isGate ky2_X10_isGate (t_X10_isGate p2 h1) rfl rfl (Nat.le_of_ble_eq_true rfl) ⟨by rw [hD]; decide, by decide⟩ ⟨by rw [hmc]; exact Nat.le_of_ble_eq_true rfl, by rw [hms]; exact Nat.le_of_ble_eq_true rfl⟩ (fun x2 h2 => ?_)
    refine kj_norm (st' := [.inl x2, .inr (.inr (some p0))]) (c' := 0) (z' := 0) rfl rfl rfl ?_
    refine kj_if_eq (tgt := 19) hC dX10_distance_12 (by decide) (fun q2 => ?_) (fun q2 => ?_)
    · exact kj_sub [0, 1, 2] rfl (t_X10_distance_b19 hC hN hT hmc hms hD  p0 p1 p2 p0 h2)
    · refine kj_iconst (v := 0) hC dX10_distance_15 (by decide) ?_
      refine kj_goto (tgt := 20) hC dX10_distance_16 (by decide) ?_
      exact kj_sub [0, 1, 2] rfl (t_X10_distance_b20 hC hN hT hmc hms hD  p0 p1 p2 0 p0 h2)
set_option maxHeartbeats 4000000 in
set_option maxRecDepth 100000 in
theorem t_X10_setPause_b17 {X : KX} (hC : kC X RX10 cX10_setPause 3 (some .int)) (hN : (xme X).name = yX10_setPause.name) (hT : kT0 X) (hmc : xmc X = 0) (hms : xms X = 0) (hD : xD X = 1) (v0 : Nat) (v1 : Int32) (s0 : Int32) (s1 : Nat) (h : KH) : kJ X (fun x : Int32 => some (.inl x)) 3 0 0 [(0, .inr (.inr (some v0))), (1, .inl v1)] [.inl s0, .inr (.inr (some s1))] 17 h (X10_setPause_b17  v0 v1 s0 s1 h) := by
  unfold X10_setPause_b17
  refine kj_invV (ci := 10) (q := (RX10, TX10, 36)) (as := [.inl s0]) (rest := []) hC hT dX10_setPause_17 kw1089 ky_X10_can ky2_X10_can rfl rfl (t_X10_can s1 s0 h) rfl rfl (Nat.le_of_ble_eq_true rfl) ⟨by rw [hD]; decide, by decide⟩ ⟨by rw [hmc]; exact Nat.le_of_ble_eq_true rfl, by rw [hms]; exact Nat.le_of_ble_eq_true rfl⟩ (fun x1 h1 => ?_)
  refine kj_norm (st' := [.inl x1]) (c' := 0) (z' := 0) rfl rfl rfl ?_
  refine kj_if_ne (tgt := 25) hC dX10_setPause_20 (by decide) (fun q1 => ?_) (fun q1 => ?_)
  · refine kj_iconst (v := 0) hC dX10_setPause_23 (by decide) ?_
    refine kj_fin hmc hms ?_
    exact kj_ireturn hC dX10_setPause_24
  · refine kj_aloadn hC 0 dX10_setPause_25 rfl rfl ?_
    refine kj_gI (ci := 10) (k := 1) hC dX10_setPause_26 kf_X10_7 rfl (fun x2 => ?_)
    refine kj_istoren (L' := [(2, .inl x2), (0, .inr (.inr (some v0))), (1, .inl v1)]) hC dX10_setPause_29 rfl (by decide) rfl ?_
    refine kj_aloadn hC 1 dX10_setPause_30 rfl rfl ?_
    refine kj_iloadn hC 2 dX10_setPause_31 rfl rfl ?_
    refine kj_pI (ci := 10) (k := 1) hC dX10_setPause_32 kf_X10_7 (Or.inl (kNF_of (by decide))) rfl ⟨rfl, rfl⟩ (fun h2 => ?_)
    refine kj_iloadn hC 0 dX10_setPause_35 rfl rfl ?_
    refine kj_fin hmc hms ?_
    exact kj_ireturn hC dX10_setPause_36
set_option maxHeartbeats 4000000 in
set_option maxRecDepth 100000 in
theorem t_X10_setPause (p0 : Nat) (p1 : Int32) (h : KH) : kM yX10_setPause cX10_setPause 3 (some .int) 1 0 0 (fun x : Int32 => some (.inl x)) [.inr (.inr (some p0)), .inl p1] h (f_X10_setPause p0 p1 h) := by
  refine kM_of RX10 (by decide) rfl (Nat.le_of_ble_eq_true rfl) [(0, .inr (.inr (some p0))), (1, .inl p1)] rfl (fun X hC hN hT hmc hms hD => ?_)
  unfold f_X10_setPause
  refine kj_aloadn hC 0 dX10_setPause_0 rfl rfl ?_
  refine kj_iloadn hC 1 dX10_setPause_1 rfl rfl ?_
  refine kj_iconst (v := 0) hC dX10_setPause_2 (by decide) ?_
  refine kj_sipush (v := 500) hC dX10_setPause_3 (by decide) ?_
  refine kj_invS (as := [.inl p1, .inl 0, .inl 500]) (rest := [.inr (.inr (some p0))]) hC hT dX10_setPause_6 kw1085 ky_X10_isIn ky2_X10_isIn (t_X10_isIn p1 0 500 h) rfl rfl (Nat.le_of_ble_eq_true rfl) ⟨by rw [hD]; decide, by decide⟩ ⟨by rw [hmc]; exact Nat.le_of_ble_eq_true rfl, by rw [hms]; exact Nat.le_of_ble_eq_true rfl⟩ (fun x1 h1 => ?_)
  refine kj_norm (st' := [.inl x1, .inr (.inr (some p0))]) (c' := 0) (z' := 0) rfl rfl rfl ?_
  refine kj_if_eq (tgt := 16) hC dX10_setPause_9 (by decide) (fun q1 => ?_) (fun q1 => ?_)
  · refine kj_iconst (v := 1) hC dX10_setPause_16 (by decide) ?_
    exact kj_sub [0, 1] rfl (t_X10_setPause_b17 hC hN hT hmc hms hD  p0 p1 1 p0 h1)
  · refine kj_iconst (v := 0) hC dX10_setPause_12 (by decide) ?_
    refine kj_goto (tgt := 17) hC dX10_setPause_13 (by decide) ?_
    exact kj_sub [0, 1] rfl (t_X10_setPause_b17 hC hN hT hmc hms hD  p0 p1 0 p0 h1)
set_option maxHeartbeats 4000000 in
set_option maxRecDepth 100000 in
theorem t_X10_setRate_b25 {X : KX} (hC : kC X RX10 cX10_setRate 4 (some .int)) (hN : (xme X).name = yX10_setRate.name) (hT : kT0 X) (hmc : xmc X = 0) (hms : xms X = 0) (hD : xD X = 1) (v0 : Nat) (v1 : Int32) (v2 : Int32) (s0 : Int32) (s1 : Nat) (h : KH) : kJ X (fun x : Int32 => some (.inl x)) 4 0 0 [(0, .inr (.inr (some v0))), (1, .inl v1), (2, .inl v2)] [.inl s0, .inr (.inr (some s1))] 25 h (X10_setRate_b25  v0 v1 v2 s0 s1 h) := by
  unfold X10_setRate_b25
  refine kj_invV (ci := 10) (q := (RX10, TX10, 36)) (as := [.inl s0]) (rest := []) hC hT dX10_setRate_25 kw1089 ky_X10_can ky2_X10_can rfl rfl (t_X10_can s1 s0 h) rfl rfl (Nat.le_of_ble_eq_true rfl) ⟨by rw [hD]; decide, by decide⟩ ⟨by rw [hmc]; exact Nat.le_of_ble_eq_true rfl, by rw [hms]; exact Nat.le_of_ble_eq_true rfl⟩ (fun x1 h1 => ?_)
  refine kj_norm (st' := [.inl x1]) (c' := 0) (z' := 0) rfl rfl rfl ?_
  refine kj_if_ne (tgt := 33) hC dX10_setRate_28 (by decide) (fun q1 => ?_) (fun q1 => ?_)
  · refine kj_iconst (v := 0) hC dX10_setRate_31 (by decide) ?_
    refine kj_fin hmc hms ?_
    exact kj_ireturn hC dX10_setRate_32
  · refine kj_aloadn hC 0 dX10_setRate_33 rfl rfl ?_
    refine kj_gN (ci := 10) (k := 4) hC dX10_setRate_34 kf_X10_20 rfl (fun a1 => ?_)
    refine kj_iloadn hC 1 dX10_setRate_37 rfl rfl ?_
    refine kj_gAI hC dX10_setRate_38 (fun x2 => ?_)
    refine kj_istoren (L' := [(3, .inl x2), (0, .inr (.inr (some v0))), (1, .inl v1), (2, .inl v2)]) hC dX10_setRate_39 rfl (by decide) rfl ?_
    refine kj_aloadn hC 1 dX10_setRate_40 rfl rfl ?_
    refine kj_gN (ci := 10) (k := 4) hC dX10_setRate_41 kf_X10_20 rfl (fun a2 => ?_)
    refine kj_iloadn hC 2 dX10_setRate_44 rfl rfl ?_
    refine kj_iloadn hC 3 dX10_setRate_45 rfl rfl ?_
    refine kj_pAI hC dX10_setRate_46 (fun h2 => ?_)
    refine kj_iloadn hC 0 dX10_setRate_47 rfl rfl ?_
    refine kj_fin hmc hms ?_
    exact kj_ireturn hC dX10_setRate_48
set_option maxHeartbeats 4000000 in
set_option maxRecDepth 100000 in
theorem t_X10_setRate_b24 {X : KX} (hC : kC X RX10 cX10_setRate 4 (some .int)) (hN : (xme X).name = yX10_setRate.name) (hT : kT0 X) (hmc : xmc X = 0) (hms : xms X = 0) (hD : xD X = 1) (v0 : Nat) (v1 : Int32) (v2 : Int32) (s0 : Nat) (h : KH) : kJ X (fun x : Int32 => some (.inl x)) 4 0 0 [(0, .inr (.inr (some v0))), (1, .inl v1), (2, .inl v2)] [.inr (.inr (some s0))] 24 h (X10_setRate_b24  v0 v1 v2 s0 h) := by
  unfold X10_setRate_b24
  refine kj_iconst (v := 1) hC dX10_setRate_24 (by decide) ?_
  exact kj_sub [0, 1, 2] rfl (t_X10_setRate_b25 hC hN hT hmc hms hD  v0 v1 v2 1 s0 h)
set_option maxHeartbeats 4000000 in
set_option maxRecDepth 100000 in
theorem t_X10_setRate (p0 : Nat) (p1 : Int32) (p2 : Int32) (h : KH) : kM yX10_setRate cX10_setRate 4 (some .int) 1 0 0 (fun x : Int32 => some (.inl x)) [.inr (.inr (some p0)), .inl p1, .inl p2] h (f_X10_setRate p0 p1 p2 h) := by
  refine kM_of RX10 (by decide) rfl (Nat.le_of_ble_eq_true rfl) [(0, .inr (.inr (some p0))), (1, .inl p1), (2, .inl p2)] rfl (fun X hC hN hT hmc hms hD => ?_)
  unfold f_X10_setRate
  refine kj_aloadn hC 0 dX10_setRate_0 rfl rfl ?_
  refine kj_iloadn hC 1 dX10_setRate_1 rfl rfl ?_
  refine kj_iconst (v := 0) hC dX10_setRate_2 (by decide) ?_
  refine kj_iconst (v := 3) hC dX10_setRate_3 (by decide) ?_
  refine kj_invS (as := [.inl p1, .inl 0, .inl 3]) (rest := [.inr (.inr (some p0))]) hC hT dX10_setRate_4 kw1085 ky_X10_isIn ky2_X10_isIn (t_X10_isIn p1 0 3 h) rfl rfl (Nat.le_of_ble_eq_true rfl) ⟨by rw [hD]; decide, by decide⟩ ⟨by rw [hmc]; exact Nat.le_of_ble_eq_true rfl, by rw [hms]; exact Nat.le_of_ble_eq_true rfl⟩ (fun x1 h1 => ?_)
  refine kj_norm (st' := [.inl x1, .inr (.inr (some p0))]) (c' := 0) (z' := 0) rfl rfl rfl ?_
  refine kj_if_eq (tgt := 24) hC dX10_setRate_7 (by decide) (fun q1 => ?_) (fun q1 => ?_)
  · exact kj_sub [0, 1, 2] rfl (t_X10_setRate_b24 hC hN hT hmc hms hD  p0 p1 p2 p0 h1)
  · refine kj_iloadn hC 2 dX10_setRate_10 rfl rfl ?_
    refine kj_iconst (v := 0) hC dX10_setRate_11 (by decide) ?_
    refine kj_bipush (v := 50) hC dX10_setRate_12 (by decide) ?_
    refine kj_invS (as := [.inl p2, .inl 0, .inl 50]) (rest := [.inr (.inr (some p0))]) hC hT dX10_setRate_14 kw1085 ky_X10_isIn ky2_X10_isIn (t_X10_isIn p2 0 50 h1) rfl rfl (Nat.le_of_ble_eq_true rfl) ⟨by rw [hD]; decide, by decide⟩ ⟨by rw [hmc]; exact Nat.le_of_ble_eq_true rfl, by rw [hms]; exact Nat.le_of_ble_eq_true rfl⟩ (fun x2 h2 => ?_)
    refine kj_norm (st' := [.inl x2, .inr (.inr (some p0))]) (c' := 0) (z' := 0) rfl rfl rfl ?_
    refine kj_if_eq (tgt := 24) hC dX10_setRate_17 (by decide) (fun q2 => ?_) (fun q2 => ?_)
    · exact kj_sub [0, 1, 2] rfl (t_X10_setRate_b24 hC hN hT hmc hms hD  p0 p1 p2 p0 h2)
    · refine kj_iconst (v := 0) hC dX10_setRate_20 (by decide) ?_
      refine kj_goto (tgt := 25) hC dX10_setRate_21 (by decide) ?_
      exact kj_sub [0, 1, 2] rfl (t_X10_setRate_b25 hC hN hT hmc hms hD  p0 p1 p2 0 p0 h2)
set_option maxHeartbeats 4000000 in
set_option maxRecDepth 100000 in
theorem t_X10_isSign (p0 : Int32) (h : KH) : kM yX10_isSign cX10_isSign 1 (some .boolean) 1 0 0 (fun x : Int32 => some (.inl x)) [.inl p0] h (f_X10_isSign p0 h) := by
  refine kM_of RX10 (by decide) rfl (Nat.le_of_ble_eq_true rfl) [(0, .inl p0)] rfl (fun X hC hN hT hmc hms hD => ?_)
  unfold f_X10_isSign
  refine kj_iloadn hC 0 dX10_isSign_0 rfl rfl ?_
  refine kj_iconst (v := 0) hC dX10_isSign_1 (by decide) ?_
  refine kj_bipush (v := 14) hC dX10_isSign_2 (by decide) ?_
  refine kj_invS (as := [.inl p0, .inl 0, .inl 14]) (rest := []) hC hT dX10_isSign_4 kw1085 ky_X10_isIn ky2_X10_isIn (t_X10_isIn p0 0 14 h) rfl rfl (Nat.le_of_ble_eq_true rfl) ⟨by rw [hD]; decide, by decide⟩ ⟨by rw [hmc]; exact Nat.le_of_ble_eq_true rfl, by rw [hms]; exact Nat.le_of_ble_eq_true rfl⟩ (fun x1 h1 => ?_)
  refine kj_norm (st' := [.inl x1]) (c' := 0) (z' := 0) rfl rfl rfl ?_
  refine kj_fin hmc hms ?_
  exact kj_zreturn hC dX10_isSign_7
set_option maxHeartbeats 4000000 in
set_option maxRecDepth 100000 in
theorem t_X10_isPair (p0 : Int32) (h : KH) : kM yX10_isPair cX10_isPair 1 (some .boolean) 1 0 0 (fun x : Int32 => some (.inl x)) [.inl p0] h (f_X10_isPair p0 h) := by
  refine kM_of RX10 (by decide) rfl (Nat.le_of_ble_eq_true rfl) [(0, .inl p0)] rfl (fun X hC hN hT hmc hms hD => ?_)
  unfold f_X10_isPair
  refine kj_iloadn hC 0 dX10_isPair_0 rfl rfl ?_
  refine kj_bipush (v := 10) hC dX10_isPair_1 (by decide) ?_
  refine kj_bipush (v := 13) hC dX10_isPair_3 (by decide) ?_
  refine kj_invS (as := [.inl p0, .inl 10, .inl 13]) (rest := []) hC hT dX10_isPair_5 kw1085 ky_X10_isIn ky2_X10_isIn (t_X10_isIn p0 10 13 h) rfl rfl (Nat.le_of_ble_eq_true rfl) ⟨by rw [hD]; decide, by decide⟩ ⟨by rw [hmc]; exact Nat.le_of_ble_eq_true rfl, by rw [hms]; exact Nat.le_of_ble_eq_true rfl⟩ (fun x1 h1 => ?_)
  refine kj_norm (st' := [.inl x1]) (c' := 0) (z' := 0) rfl rfl rfl ?_
  refine kj_fin hmc hms ?_
  exact kj_zreturn hC dX10_isPair_8
set_option maxHeartbeats 4000000 in
set_option maxRecDepth 100000 in
theorem t_X10_chars_b30 {X : KX} (hC : kC X RX10 cX10_chars 3 (some .int)) (hN : (xme X).name = yX10_chars.name) (hT : kT0 X) (hmc : xmc X = 0) (hms : xms X = 0) (hD : xD X = 2) (rc4 : Nat → Int32 → Int32 → KH → KO Int32) (hr4 : ∀ (v0 : Nat) (v1 : Int32) (v2 : Int32) (h : KH), kJ X (fun x : Int32 => some (.inl x)) 3 0 0 [(0, .inr (.inr (some v0))), (1, .inl v1), (2, .inl v2)] [] 4 h (rc4 v0 v1 v2 h)) (v0 : Nat) (v2 : Int32) (s0 : Int32) (s1 : Int32) (h : KH) : kJ X (fun x : Int32 => some (.inl x)) 3 0 0 [(0, .inr (.inr (some v0))), (2, .inl v2)] [.inl s0, .inl s1] 30 h (X10_chars_b30 rc4 v0 v2 s0 s1 h) := by
  unfold X10_chars_b30
  refine kj_iadd hC dX10_chars_30 ?_
  refine kj_istoren (L' := [(1, .inl (s1 + s0)), (0, .inr (.inr (some v0))), (2, .inl v2)]) hC dX10_chars_31 rfl (by decide) rfl ?_
  refine kj_iinc (v := v2 + 1) (L' := [(2, .inl (v2 + 1)), (1, .inl (s1 + s0)), (0, .inr (.inr (some v0)))]) hC 2 dX10_chars_32 rfl rfl (by decide) rfl ?_
  refine kj_goto (tgt := 4) hC dX10_chars_35 (by decide) ?_
  exact kj_sub [2, 1, 0] rfl (hr4 v0 (s1 + s0) (v2 + 1) h)
set_option maxHeartbeats 4000000 in
set_option maxRecDepth 100000 in
theorem t_X10_chars_b4 {X : KX} (hC : kC X RX10 cX10_chars 3 (some .int)) (hN : (xme X).name = yX10_chars.name) (hT : kT0 X) (hmc : xmc X = 0) (hms : xms X = 0) (hD : xD X = 2) (rc4 : Nat → Int32 → Int32 → KH → KO Int32) (hr4 : ∀ (v0 : Nat) (v1 : Int32) (v2 : Int32) (h : KH), kJ X (fun x : Int32 => some (.inl x)) 3 0 0 [(0, .inr (.inr (some v0))), (1, .inl v1), (2, .inl v2)] [] 4 h (rc4 v0 v1 v2 h)) (v0 : Nat) (v1 : Int32) (v2 : Int32) (h : KH) : kJ X (fun x : Int32 => some (.inl x)) 3 0 0 [(0, .inr (.inr (some v0))), (1, .inl v1), (2, .inl v2)] [] 4 h (X10_chars_b4 rc4 v0 v1 v2 h) := by
  unfold X10_chars_b4
  refine kj_iloadn hC 2 dX10_chars_4 rfl rfl ?_
  refine kj_aloadn hC 0 dX10_chars_5 rfl rfl ?_
  refine kj_gI (ci := 10) (k := 5) hC dX10_chars_6 kf_X10_124 rfl (fun x1 => ?_)
  refine kj_icmp_ge (tgt := 38) hC dX10_chars_9 (by decide) (fun q1 => ?_) (fun q1 => ?_)
  · refine kj_iloadn hC 1 dX10_chars_38 rfl rfl ?_
    refine kj_fin hmc hms ?_
    exact kj_ireturn hC dX10_chars_39
  · refine kj_iloadn hC 1 dX10_chars_12 rfl rfl ?_
    refine kj_aloadn hC 0 dX10_chars_13 rfl rfl ?_
    refine kj_gN (ci := 10) (k := 6) hC dX10_chars_14 kf_X10_23 rfl (fun a1 => ?_)
    refine kj_iloadn hC 2 dX10_chars_17 rfl rfl ?_
    refine kj_gAI hC dX10_chars_18 (fun x2 => ?_)
    refine kj_invS (as := [.inl x2]) (rest := [.inl v1]) hC hT dX10_chars_19 kw1131 ky_X10_isPair ky2_X10_isPair (t_X10_isPair x2 h) rfl rfl (Nat.le_of_ble_eq_true rfl) ⟨by rw [hD]; decide, by decide⟩ ⟨by rw [hmc]; exact Nat.le_of_ble_eq_true rfl, by rw [hms]; exact Nat.le_of_ble_eq_true rfl⟩ (fun x3 h1 => ?_)
    refine kj_norm (st' := [.inl x3, .inl v1]) (c' := 0) (z' := 0) rfl rfl rfl ?_
    refine kj_if_eq (tgt := 29) hC dX10_chars_22 (by decide) (fun q2 => ?_) (fun q2 => ?_)
    · refine kj_iconst (v := 1) hC dX10_chars_29 (by decide) ?_
      exact kj_sub [0, 2] rfl (t_X10_chars_b30 hC hN hT hmc hms hD rc4 hr4 v0 v2 1 v1 h1)
    · refine kj_iconst (v := 2) hC dX10_chars_25 (by decide) ?_
      refine kj_goto (tgt := 30) hC dX10_chars_26 (by decide) ?_
      exact kj_sub [0, 2] rfl (t_X10_chars_b30 hC hN hT hmc hms hD rc4 hr4 v0 v2 2 v1 h1)
set_option maxHeartbeats 4000000 in
set_option maxRecDepth 100000 in
theorem t_X10_chars_L4 {X : KX} (hC : kC X RX10 cX10_chars 3 (some .int)) (hN : (xme X).name = yX10_chars.name) (hT : kT0 X) (hmc : xmc X = 0) (hms : xms X = 0) (hD : xD X = 2) : ∀ (n : Nat) (v0 : Nat) (v1 : Int32) (v2 : Int32) (h : KH), kJ X (fun x : Int32 => some (.inl x)) 3 0 0 [(0, .inr (.inr (some v0))), (1, .inl v1), (2, .inl v2)] [] 4 h (X10_chars_L4  n v0 v1 v2 h) := by
  intro n
  induction n with
  | zero => intro v0 v1 v2 h; exact kj_none
  | succ n ih => intro v0 v1 v2 h; exact t_X10_chars_b4 hC hN hT hmc hms hD (X10_chars_L4  n) ih v0 v1 v2 h
set_option maxHeartbeats 4000000 in
set_option maxRecDepth 100000 in
theorem t_X10_chars (p0 : Nat) (h : KH) : kM yX10_chars cX10_chars 3 (some .int) 2 0 0 (fun x : Int32 => some (.inl x)) [.inr (.inr (some p0))] h (f_X10_chars p0 h) := by
  refine kM_of RX10 (by decide) rfl (Nat.le_of_ble_eq_true rfl) [(0, .inr (.inr (some p0)))] rfl (fun X hC hN hT hmc hms hD => ?_)
  unfold f_X10_chars
  refine kj_iconst (v := 0) hC dX10_chars_0 (by decide) ?_
  refine kj_istoren (L' := [(1, .inl 0), (0, .inr (.inr (some p0)))]) hC dX10_chars_1 rfl (by decide) rfl ?_
  refine kj_iconst (v := 0) hC dX10_chars_2 (by decide) ?_
  refine kj_istoren (L' := [(2, .inl 0), (1, .inl 0), (0, .inr (.inr (some p0)))]) hC dX10_chars_3 rfl (by decide) rfl ?_
  exact kj_sub [2, 1, 0] rfl (t_X10_chars_L4 hC hN hT hmc hms hD  kF p0 0 0 h)
set_option maxHeartbeats 4000000 in
set_option maxRecDepth 100000 in
theorem t_X10_puts_b5 {X : KX} (hC : kC X RX10 cX10_puts 4 (some .int)) (hN : (xme X).name = yX10_puts.name) (hT : kT0 X) (hmc : xmc X = 0) (hms : xms X = 0) (hD : xD X = 3) (rc5 : Nat → Int32 → Int32 → Int32 → KH → KO Int32) (hr5 : ∀ (v0 : Nat) (v1 : Int32) (v2 : Int32) (v3 : Int32) (h : KH), kJ X (fun x : Int32 => some (.inl x)) 4 0 0 [(0, .inr (.inr (some v0))), (1, .inl v1), (2, .inl v2), (3, .inl v3)] [] 5 h (rc5 v0 v1 v2 v3 h)) (v0 : Nat) (v1 : Int32) (v2 : Int32) (v3 : Int32) (h : KH) : kJ X (fun x : Int32 => some (.inl x)) 4 0 0 [(0, .inr (.inr (some v0))), (1, .inl v1), (2, .inl v2), (3, .inl v3)] [] 5 h (X10_puts_b5 rc5 v0 v1 v2 v3 h) := by
  unfold X10_puts_b5
  refine kj_iloadn hC 3 dX10_puts_5 rfl rfl ?_
  refine kj_iloadn hC 2 dX10_puts_6 rfl rfl ?_
  refine kj_icmp_le (tgt := 30) hC dX10_puts_7 (by decide) (fun q1 => ?_) (fun q1 => ?_)
  · refine kj_aloadn hC 0 dX10_puts_30 rfl rfl ?_
    refine kj_gN (ci := 10) (k := 6) hC dX10_puts_31 kf_X10_23 rfl (fun a1 => ?_)
    refine kj_iloadn hC 2 dX10_puts_34 rfl rfl ?_
    refine kj_iloadn hC 1 dX10_puts_35 rfl rfl ?_
    refine kj_pAI hC dX10_puts_36 (fun h1 => ?_)
    refine kj_aloadn hC 0 dX10_puts_37 rfl rfl ?_
    refine kj_dup hC dX10_puts_38 rfl ?_
    refine kj_gI (ci := 10) (k := 5) hC dX10_puts_39 kf_X10_124 rfl (fun x1 => ?_)
    refine kj_iconst (v := 1) hC dX10_puts_42 (by decide) ?_
    refine kj_iadd hC dX10_puts_43 ?_
    refine kj_pI (ci := 10) (k := 5) hC dX10_puts_44 kf_X10_124 (Or.inl (kNF_of (by decide))) rfl ⟨rfl, rfl⟩ (fun h2 => ?_)
    refine kj_aloadn hC 0 dX10_puts_47 rfl rfl ?_
    refine kj_invV (ci := 10) (q := (RX10, TX10, 36)) (as := []) (rest := []) hC hT dX10_puts_48 kw1127 ky_X10_chars ky2_X10_chars rfl rfl (t_X10_chars v0 h2) rfl rfl (Nat.le_of_ble_eq_true rfl) ⟨by rw [hD]; decide, by decide⟩ ⟨by rw [hmc]; exact Nat.le_of_ble_eq_true rfl, by rw [hms]; exact Nat.le_of_ble_eq_true rfl⟩ (fun x2 h3 => ?_)
    refine kj_norm (st' := [.inl x2]) (c' := 0) (z' := 0) rfl rfl rfl ?_
    refine kj_fin hmc hms ?_
    exact kj_ireturn hC dX10_puts_51
  · refine kj_aloadn hC 0 dX10_puts_10 rfl rfl ?_
    refine kj_gN (ci := 10) (k := 6) hC dX10_puts_11 kf_X10_23 rfl (fun a2 => ?_)
    refine kj_iloadn hC 3 dX10_puts_14 rfl rfl ?_
    refine kj_aloadn hC 0 dX10_puts_15 rfl rfl ?_
    refine kj_gN (ci := 10) (k := 6) hC dX10_puts_16 kf_X10_23 rfl (fun a3 => ?_)
    refine kj_iloadn hC 3 dX10_puts_19 rfl rfl ?_
    refine kj_iconst (v := 1) hC dX10_puts_20 (by decide) ?_
    refine kj_isub hC dX10_puts_21 ?_
    refine kj_gAI hC dX10_puts_22 (fun x3 => ?_)
    refine kj_pAI hC dX10_puts_23 (fun h4 => ?_)
    refine kj_iinc (v := v3 + (-1)) (L' := [(3, .inl (v3 + (-1))), (0, .inr (.inr (some v0))), (1, .inl v1), (2, .inl v2)]) hC 3 dX10_puts_24 rfl rfl (by decide) rfl ?_
    refine kj_goto (tgt := 5) hC dX10_puts_27 (by decide) ?_
    exact kj_sub [1, 2, 3, 0] rfl (hr5 v0 v1 v2 (v3 + (-1)) h4)
set_option maxHeartbeats 4000000 in
set_option maxRecDepth 100000 in
theorem t_X10_puts_L5 {X : KX} (hC : kC X RX10 cX10_puts 4 (some .int)) (hN : (xme X).name = yX10_puts.name) (hT : kT0 X) (hmc : xmc X = 0) (hms : xms X = 0) (hD : xD X = 3) : ∀ (n : Nat) (v0 : Nat) (v1 : Int32) (v2 : Int32) (v3 : Int32) (h : KH), kJ X (fun x : Int32 => some (.inl x)) 4 0 0 [(0, .inr (.inr (some v0))), (1, .inl v1), (2, .inl v2), (3, .inl v3)] [] 5 h (X10_puts_L5  n v0 v1 v2 v3 h) := by
  intro n
  induction n with
  | zero => intro v0 v1 v2 v3 h; exact kj_none
  | succ n ih => intro v0 v1 v2 v3 h; exact t_X10_puts_b5 hC hN hT hmc hms hD (X10_puts_L5  n) ih v0 v1 v2 v3 h
set_option maxHeartbeats 4000000 in
set_option maxRecDepth 100000 in
theorem t_X10_puts (p0 : Nat) (p1 : Int32) (p2 : Int32) (h : KH) : kM yX10_puts cX10_puts 4 (some .int) 3 0 0 (fun x : Int32 => some (.inl x)) [.inr (.inr (some p0)), .inl p1, .inl p2] h (f_X10_puts p0 p1 p2 h) := by
  refine kM_of RX10 (by decide) rfl (Nat.le_of_ble_eq_true rfl) [(0, .inr (.inr (some p0))), (1, .inl p1), (2, .inl p2)] rfl (fun X hC hN hT hmc hms hD => ?_)
  unfold f_X10_puts
  refine kj_aloadn hC 0 dX10_puts_0 rfl rfl ?_
  refine kj_gI (ci := 10) (k := 5) hC dX10_puts_1 kf_X10_124 rfl (fun x1 => ?_)
  refine kj_istoren (L' := [(3, .inl x1), (0, .inr (.inr (some p0))), (1, .inl p1), (2, .inl p2)]) hC dX10_puts_4 rfl (by decide) rfl ?_
  exact kj_sub [1, 2, 3, 0] rfl (t_X10_puts_L5 hC hN hT hmc hms hD  kF p0 p1 p2 x1 h)
set_option maxHeartbeats 4000000 in
set_option maxRecDepth 100000 in
theorem t_X10_spell_b45 {X : KX} (hC : kC X RX10 cX10_spell 2 (some .int)) (hN : (xme X).name = yX10_spell.name) (hT : kT0 X) (hmc : xmc X = 0) (hms : xms X = 0) (hD : xD X = 4) (s0 : Int32) (h : KH) : kJ X (fun x : Int32 => some (.inl x)) 2 0 0 [] [.inl s0] 45 h (X10_spell_b45  s0 h) := by
  unfold X10_spell_b45
  refine kj_fin hmc hms ?_
  exact kj_ireturn hC dX10_spell_45
set_option maxHeartbeats 4000000 in
set_option maxRecDepth 100000 in
theorem t_X10_spell_b26 {X : KX} (hC : kC X RX10 cX10_spell 2 (some .int)) (hN : (xme X).name = yX10_spell.name) (hT : kT0 X) (hmc : xmc X = 0) (hms : xms X = 0) (hD : xD X = 4) (v0 : Nat) (v1 : Int32) (s0 : Int32) (s1 : Nat) (h : KH) : kJ X (fun x : Int32 => some (.inl x)) 2 0 0 [(0, .inr (.inr (some v0))), (1, .inl v1)] [.inl s0, .inr (.inr (some s1))] 26 h (X10_spell_b26  v0 v1 s0 s1 h) := by
  unfold X10_spell_b26
  refine kj_invV (ci := 10) (q := (RX10, TX10, 36)) (as := [.inl s0]) (rest := []) hC hT dX10_spell_26 kw1089 ky_X10_can ky2_X10_can rfl rfl (t_X10_can s1 s0 h) rfl rfl (Nat.le_of_ble_eq_true rfl) ⟨by rw [hD]; decide, by decide⟩ ⟨by rw [hmc]; exact Nat.le_of_ble_eq_true rfl, by rw [hms]; exact Nat.le_of_ble_eq_true rfl⟩ (fun x1 h1 => ?_)
  refine kj_norm (st' := [.inl x1]) (c' := 0) (z' := 0) rfl rfl rfl ?_
  refine kj_if_eq (tgt := 44) hC dX10_spell_29 (by decide) (fun q1 => ?_) (fun q1 => ?_)
  · refine kj_iconst (v := 0) hC dX10_spell_44 (by decide) ?_
    exact kj_sub [] rfl (t_X10_spell_b45 hC hN hT hmc hms hD  0 h1)
  · refine kj_aloadn hC 0 dX10_spell_32 rfl rfl ?_
    refine kj_iloadn hC 1 dX10_spell_33 rfl rfl ?_
    refine kj_aloadn hC 0 dX10_spell_34 rfl rfl ?_
    refine kj_gI (ci := 10) (k := 5) hC dX10_spell_35 kf_X10_124 rfl (fun x2 => ?_)
    refine kj_invV (ci := 10) (q := (RX10, TX10, 36)) (as := [.inl v1, .inl x2]) (rest := []) hC hT dX10_spell_38 kw1123 ky_X10_puts ky2_X10_puts rfl rfl (t_X10_puts v0 v1 x2 h1) rfl rfl (Nat.le_of_ble_eq_true rfl) ⟨by rw [hD]; decide, by decide⟩ ⟨by rw [hmc]; exact Nat.le_of_ble_eq_true rfl, by rw [hms]; exact Nat.le_of_ble_eq_true rfl⟩ (fun x3 h2 => ?_)
    refine kj_norm (st' := [.inl x3]) (c' := 0) (z' := 0) rfl rfl rfl ?_
    refine kj_goto (tgt := 45) hC dX10_spell_41 (by decide) ?_
    exact kj_sub [] rfl (t_X10_spell_b45 hC hN hT hmc hms hD  x3 h2)
set_option maxHeartbeats 4000000 in
set_option maxRecDepth 100000 in
theorem t_X10_spell (p0 : Nat) (p1 : Int32) (h : KH) : kM yX10_spell cX10_spell 2 (some .int) 4 0 0 (fun x : Int32 => some (.inl x)) [.inr (.inr (some p0)), .inl p1] h (f_X10_spell p0 p1 h) := by
  refine kM_of RX10 (by decide) rfl (Nat.le_of_ble_eq_true rfl) [(0, .inr (.inr (some p0))), (1, .inl p1)] rfl (fun X hC hN hT hmc hms hD => ?_)
  unfold f_X10_spell
  refine kj_aloadn hC 0 dX10_spell_0 rfl rfl ?_
  refine kj_iloadn hC 1 dX10_spell_1 rfl rfl ?_
  refine kj_invS (as := [.inl p1]) (rest := [.inr (.inr (some p0))]) hC hT dX10_spell_2 kw1120 ky_X10_isSign ky2_X10_isSign (t_X10_isSign p1 h) rfl rfl (Nat.le_of_ble_eq_true rfl) ⟨by rw [hD]; decide, by decide⟩ ⟨by rw [hmc]; exact Nat.le_of_ble_eq_true rfl, by rw [hms]; exact Nat.le_of_ble_eq_true rfl⟩ (fun x1 h1 => ?_)
  refine kj_norm (st' := [.inl x1, .inr (.inr (some p0))]) (c' := 0) (z' := 0) rfl rfl rfl ?_
  refine kj_if_ne (tgt := 12) hC dX10_spell_5 (by decide) (fun q1 => ?_) (fun q1 => ?_)
  · refine kj_iconst (v := 1) hC dX10_spell_8 (by decide) ?_
    refine kj_goto (tgt := 26) hC dX10_spell_9 (by decide) ?_
    exact kj_sub [0, 1] rfl (t_X10_spell_b26 hC hN hT hmc hms hD  p0 p1 1 p0 h1)
  · refine kj_aloadn hC 0 dX10_spell_12 rfl rfl ?_
    refine kj_gI (ci := 10) (k := 5) hC dX10_spell_13 kf_X10_124 rfl (fun x2 => ?_)
    refine kj_bipush (v := 6) hC dX10_spell_16 (by decide) ?_
    refine kj_icmp_ne (tgt := 25) hC dX10_spell_18 (by decide) (fun q2 => ?_) (fun q2 => ?_)
    · refine kj_iconst (v := 2) hC dX10_spell_21 (by decide) ?_
      refine kj_goto (tgt := 26) hC dX10_spell_22 (by decide) ?_
      exact kj_sub [0, 1] rfl (t_X10_spell_b26 hC hN hT hmc hms hD  p0 p1 2 p0 h1)
    · refine kj_iconst (v := 0) hC dX10_spell_25 (by decide) ?_
      exact kj_sub [0, 1] rfl (t_X10_spell_b26 hC hN hT hmc hms hD  p0 p1 0 p0 h1)
set_option maxHeartbeats 4000000 in
set_option maxRecDepth 100000 in
theorem t_X10_insert_b60 {X : KX} (hC : kC X RX10 cX10_insert 3 (some .int)) (hN : (xme X).name = yX10_insert.name) (hT : kT0 X) (hmc : xmc X = 0) (hms : xms X = 0) (hD : xD X = 4) (s0 : Int32) (h : KH) : kJ X (fun x : Int32 => some (.inl x)) 3 0 0 [] [.inl s0] 60 h (X10_insert_b60  s0 h) := by
  unfold X10_insert_b60
  refine kj_fin hmc hms ?_
  exact kj_ireturn hC dX10_insert_60
set_option maxHeartbeats 4000000 in
set_option maxRecDepth 100000 in
theorem t_X10_insert_b44 {X : KX} (hC : kC X RX10 cX10_insert 3 (some .int)) (hN : (xme X).name = yX10_insert.name) (hT : kT0 X) (hmc : xmc X = 0) (hms : xms X = 0) (hD : xD X = 4) (v0 : Nat) (v1 : Int32) (v2 : Int32) (s0 : Int32) (s1 : Nat) (h : KH) : kJ X (fun x : Int32 => some (.inl x)) 3 0 0 [(0, .inr (.inr (some v0))), (1, .inl v1), (2, .inl v2)] [.inl s0, .inr (.inr (some s1))] 44 h (X10_insert_b44  v0 v1 v2 s0 s1 h) := by
  unfold X10_insert_b44
  refine kj_invV (ci := 10) (q := (RX10, TX10, 36)) (as := [.inl s0]) (rest := []) hC hT dX10_insert_44 kw1089 ky_X10_can ky2_X10_can rfl rfl (t_X10_can s1 s0 h) rfl rfl (Nat.le_of_ble_eq_true rfl) ⟨by rw [hD]; decide, by decide⟩ ⟨by rw [hmc]; exact Nat.le_of_ble_eq_true rfl, by rw [hms]; exact Nat.le_of_ble_eq_true rfl⟩ (fun x1 h1 => ?_)
  refine kj_norm (st' := [.inl x1]) (c' := 0) (z' := 0) rfl rfl rfl ?_
  refine kj_if_eq (tgt := 59) hC dX10_insert_47 (by decide) (fun q1 => ?_) (fun q1 => ?_)
  · refine kj_iconst (v := 0) hC dX10_insert_59 (by decide) ?_
    exact kj_sub [] rfl (t_X10_insert_b60 hC hN hT hmc hms hD  0 h1)
  · refine kj_aloadn hC 0 dX10_insert_50 rfl rfl ?_
    refine kj_iloadn hC 1 dX10_insert_51 rfl rfl ?_
    refine kj_iloadn hC 2 dX10_insert_52 rfl rfl ?_
    refine kj_invV (ci := 10) (q := (RX10, TX10, 36)) (as := [.inl v1, .inl v2]) (rest := []) hC hT dX10_insert_53 kw1123 ky_X10_puts ky2_X10_puts rfl rfl (t_X10_puts v0 v1 v2 h1) rfl rfl (Nat.le_of_ble_eq_true rfl) ⟨by rw [hD]; decide, by decide⟩ ⟨by rw [hmc]; exact Nat.le_of_ble_eq_true rfl, by rw [hms]; exact Nat.le_of_ble_eq_true rfl⟩ (fun x2 h2 => ?_)
    refine kj_norm (st' := [.inl x2]) (c' := 0) (z' := 0) rfl rfl rfl ?_
    refine kj_goto (tgt := 60) hC dX10_insert_56 (by decide) ?_
    exact kj_sub [] rfl (t_X10_insert_b60 hC hN hT hmc hms hD  x2 h2)
set_option maxHeartbeats 4000000 in
set_option maxRecDepth 100000 in
theorem t_X10_insert (p0 : Nat) (p1 : Int32) (p2 : Int32) (h : KH) : kM yX10_insert cX10_insert 3 (some .int) 4 0 0 (fun x : Int32 => some (.inl x)) [.inr (.inr (some p0)), .inl p1, .inl p2] h (f_X10_insert p0 p1 p2 h) := by
  refine kM_of RX10 (by decide) rfl (Nat.le_of_ble_eq_true rfl) [(0, .inr (.inr (some p0))), (1, .inl p1), (2, .inl p2)] rfl (fun X hC hN hT hmc hms hD => ?_)
  unfold f_X10_insert
  refine kj_aloadn hC 0 dX10_insert_0 rfl rfl ?_
  refine kj_iloadn hC 1 dX10_insert_1 rfl rfl ?_
  refine kj_invS (as := [.inl p1]) (rest := [.inr (.inr (some p0))]) hC hT dX10_insert_2 kw1120 ky_X10_isSign ky2_X10_isSign (t_X10_isSign p1 h) rfl rfl (Nat.le_of_ble_eq_true rfl) ⟨by rw [hD]; decide, by decide⟩ ⟨by rw [hmc]; exact Nat.le_of_ble_eq_true rfl, by rw [hms]; exact Nat.le_of_ble_eq_true rfl⟩ (fun x1 h1 => ?_)
  refine kj_norm (st' := [.inl x1, .inr (.inr (some p0))]) (c' := 0) (z' := 0) rfl rfl rfl ?_
  refine kj_if_ne (tgt := 12) hC dX10_insert_5 (by decide) (fun q1 => ?_) (fun q1 => ?_)
  · refine kj_iconst (v := 1) hC dX10_insert_8 (by decide) ?_
    refine kj_goto (tgt := 44) hC dX10_insert_9 (by decide) ?_
    exact kj_sub [0, 1, 2] rfl (t_X10_insert_b44 hC hN hT hmc hms hD  p0 p1 p2 1 p0 h1)
  · refine kj_iloadn hC 2 dX10_insert_12 rfl rfl ?_
    refine kj_iconst (v := 0) hC dX10_insert_13 (by decide) ?_
    refine kj_aloadn hC 0 dX10_insert_14 rfl rfl ?_
    refine kj_gI (ci := 10) (k := 5) hC dX10_insert_15 kf_X10_124 rfl (fun x2 => ?_)
    refine kj_iconst (v := 1) hC dX10_insert_18 (by decide) ?_
    refine kj_isub hC dX10_insert_19 ?_
    refine kj_invS (as := [.inl p2, .inl 0, .inl (x2 - 1)]) (rest := [.inr (.inr (some p0))]) hC hT dX10_insert_20 kw1085 ky_X10_isIn ky2_X10_isIn (t_X10_isIn p2 0 (x2 - 1) h1) rfl rfl (Nat.le_of_ble_eq_true rfl) ⟨by rw [hD]; decide, by decide⟩ ⟨by rw [hmc]; exact Nat.le_of_ble_eq_true rfl, by rw [hms]; exact Nat.le_of_ble_eq_true rfl⟩ (fun x3 h2 => ?_)
    refine kj_norm (st' := [.inl x3, .inr (.inr (some p0))]) (c' := 0) (z' := 0) rfl rfl rfl ?_
    refine kj_if_ne (tgt := 30) hC dX10_insert_23 (by decide) (fun q2 => ?_) (fun q2 => ?_)
    · refine kj_iconst (v := 2) hC dX10_insert_26 (by decide) ?_
      refine kj_goto (tgt := 44) hC dX10_insert_27 (by decide) ?_
      exact kj_sub [0, 1, 2] rfl (t_X10_insert_b44 hC hN hT hmc hms hD  p0 p1 p2 2 p0 h2)
    · refine kj_aloadn hC 0 dX10_insert_30 rfl rfl ?_
      refine kj_gI (ci := 10) (k := 5) hC dX10_insert_31 kf_X10_124 rfl (fun x4 => ?_)
      refine kj_bipush (v := 6) hC dX10_insert_34 (by decide) ?_
      refine kj_icmp_ne (tgt := 43) hC dX10_insert_36 (by decide) (fun q3 => ?_) (fun q3 => ?_)
      · refine kj_iconst (v := 3) hC dX10_insert_39 (by decide) ?_
        refine kj_goto (tgt := 44) hC dX10_insert_40 (by decide) ?_
        exact kj_sub [0, 1, 2] rfl (t_X10_insert_b44 hC hN hT hmc hms hD  p0 p1 p2 3 p0 h2)
      · refine kj_iconst (v := 0) hC dX10_insert_43 (by decide) ?_
        exact kj_sub [0, 1, 2] rfl (t_X10_insert_b44 hC hN hT hmc hms hD  p0 p1 p2 0 p0 h2)
set_option maxHeartbeats 4000000 in
set_option maxRecDepth 100000 in
theorem t_X10_mirror_b7 {X : KX} (hC : kC X RX10 cX10_mirror 3 (some .int)) (hN : (xme X).name = yX10_mirror.name) (hT : kT0 X) (hmc : xmc X = 0) (hms : xms X = 0) (hD : xD X = 0) (rc7 : Nat → Int32 → KH → KO Int32) (hr7 : ∀ (v0 : Nat) (v1 : Int32) (h : KH), kJ X (fun x : Int32 => some (.inl x)) 3 0 0 [(0, .inr (.inr (some v0))), (1, .inl v1)] [] 7 h (rc7 v0 v1 h)) (v0 : Nat) (v1 : Int32) (h : KH) : kJ X (fun x : Int32 => some (.inl x)) 3 0 0 [(0, .inr (.inr (some v0))), (1, .inl v1)] [] 7 h (X10_mirror_b7 rc7 v0 v1 h) := by
  unfold X10_mirror_b7
  refine kj_iloadn hC 1 dX10_mirror_7 rfl rfl ?_
  refine kj_aloadn hC 0 dX10_mirror_8 rfl rfl ?_
  refine kj_gI (ci := 10) (k := 5) hC dX10_mirror_9 kf_X10_124 rfl (fun x1 => ?_)
  refine kj_iconst (v := 2) hC dX10_mirror_12 (by decide) ?_
  refine kj_idiv hC dX10_mirror_13 ?_
  refine kj_icmp_ge (tgt := 63) hC dX10_mirror_14 (by decide) (fun q1 => ?_) (fun q1 => ?_)
  · refine kj_aloadn hC 0 dX10_mirror_63 rfl rfl ?_
    refine kj_gI (ci := 10) (k := 5) hC dX10_mirror_64 kf_X10_124 rfl (fun x2 => ?_)
    refine kj_fin hmc hms ?_
    exact kj_ireturn hC dX10_mirror_67
  · refine kj_aloadn hC 0 dX10_mirror_17 rfl rfl ?_
    refine kj_gN (ci := 10) (k := 6) hC dX10_mirror_18 kf_X10_23 rfl (fun a1 => ?_)
    refine kj_iloadn hC 1 dX10_mirror_21 rfl rfl ?_
    refine kj_gAI hC dX10_mirror_22 (fun x3 => ?_)
    refine kj_istoren (L' := [(2, .inl x3), (0, .inr (.inr (some v0))), (1, .inl v1)]) hC dX10_mirror_23 rfl (by decide) rfl ?_
    refine kj_aloadn hC 1 dX10_mirror_24 rfl rfl ?_
    refine kj_gN (ci := 10) (k := 6) hC dX10_mirror_25 kf_X10_23 rfl (fun a2 => ?_)
    refine kj_iloadn hC 2 dX10_mirror_28 rfl rfl ?_
    refine kj_aloadn hC 1 dX10_mirror_29 rfl rfl ?_
    refine kj_gN (ci := 10) (k := 6) hC dX10_mirror_30 kf_X10_23 rfl (fun a3 => ?_)
    refine kj_aloadn hC 1 dX10_mirror_33 rfl rfl ?_
    refine kj_gI (ci := 10) (k := 5) hC dX10_mirror_34 kf_X10_124 rfl (fun x4 => ?_)
    refine kj_iconst (v := 1) hC dX10_mirror_37 (by decide) ?_
    refine kj_isub hC dX10_mirror_38 ?_
    refine kj_iloadn hC 2 dX10_mirror_39 rfl rfl ?_
    refine kj_isub hC dX10_mirror_40 ?_
    refine kj_gAI hC dX10_mirror_41 (fun x5 => ?_)
    refine kj_pAI hC dX10_mirror_42 (fun h1 => ?_)
    refine kj_aloadn hC 1 dX10_mirror_43 rfl rfl ?_
    refine kj_gN (ci := 10) (k := 6) hC dX10_mirror_44 kf_X10_23 rfl (fun a4 => ?_)
    refine kj_aloadn hC 1 dX10_mirror_47 rfl rfl ?_
    refine kj_gI (ci := 10) (k := 5) hC dX10_mirror_48 kf_X10_124 rfl (fun x6 => ?_)
    refine kj_iconst (v := 1) hC dX10_mirror_51 (by decide) ?_
    refine kj_isub hC dX10_mirror_52 ?_
    refine kj_iloadn hC 2 dX10_mirror_53 rfl rfl ?_
    refine kj_isub hC dX10_mirror_54 ?_
    refine kj_iloadn hC 0 dX10_mirror_55 rfl rfl ?_
    refine kj_pAI hC dX10_mirror_56 (fun h2 => ?_)
    refine kj_iinc (v := v1 + 1) (L' := [(1, .inl (v1 + 1)), (2, .inl x3), (0, .inr (.inr (some v0)))]) hC 2 dX10_mirror_57 rfl rfl (by decide) rfl ?_
    refine kj_goto (tgt := 7) hC dX10_mirror_60 (by decide) ?_
    exact kj_sub [2, 0] rfl (hr7 v0 (v1 + 1) h2)
set_option maxHeartbeats 4000000 in
set_option maxRecDepth 100000 in
theorem t_X10_mirror_L7 {X : KX} (hC : kC X RX10 cX10_mirror 3 (some .int)) (hN : (xme X).name = yX10_mirror.name) (hT : kT0 X) (hmc : xmc X = 0) (hms : xms X = 0) (hD : xD X = 0) : ∀ (n : Nat) (v0 : Nat) (v1 : Int32) (h : KH), kJ X (fun x : Int32 => some (.inl x)) 3 0 0 [(0, .inr (.inr (some v0))), (1, .inl v1)] [] 7 h (X10_mirror_L7  n v0 v1 h) := by
  intro n
  induction n with
  | zero => intro v0 v1 h; exact kj_none
  | succ n ih => intro v0 v1 h; exact t_X10_mirror_b7 hC hN hT hmc hms hD (X10_mirror_L7  n) ih v0 v1 h
set_option maxHeartbeats 4000000 in
set_option maxRecDepth 100000 in
theorem t_X10_mirror (p0 : Nat) (h : KH) : kM yX10_mirror cX10_mirror 3 (some .int) 0 0 0 (fun x : Int32 => some (.inl x)) [.inr (.inr (some p0))] h (f_X10_mirror p0 h) := by
  refine kM_of RX10 (by decide) rfl (Nat.le_of_ble_eq_true rfl) [(0, .inr (.inr (some p0)))] rfl (fun X hC hN hT hmc hms hD => ?_)
  unfold f_X10_mirror
  refine kj_aloadn hC 0 dX10_mirror_0 rfl rfl ?_
  refine kj_iconst (v := 0) hC dX10_mirror_1 (by decide) ?_
  refine kj_pI (ci := 10) (k := 35) hC dX10_mirror_2 kf_X10_100 (Or.inl (kNF_of (by decide))) rfl ⟨rfl, rfl⟩ (fun h1 => ?_)
  refine kj_iconst (v := 0) hC dX10_mirror_5 (by decide) ?_
  refine kj_istoren (L' := [(1, .inl 0), (0, .inr (.inr (some p0)))]) hC dX10_mirror_6 rfl (by decide) rfl ?_
  exact kj_sub [1, 0] rfl (t_X10_mirror_L7 hC hN hT hmc hms hD  kF p0 0 h1)
set_option maxHeartbeats 4000000 in
set_option maxRecDepth 100000 in
theorem t_X10_clearSpelled (p0 : Nat) (h : KH) : kM yX10_clearSpelled cX10_clearSpelled 2 (some .int) 0 0 0 (fun x : Int32 => some (.inl x)) [.inr (.inr (some p0))] h (f_X10_clearSpelled p0 h) := by
  refine kM_of RX10 (by decide) rfl (Nat.le_of_ble_eq_true rfl) [(0, .inr (.inr (some p0)))] rfl (fun X hC hN hT hmc hms hD => ?_)
  unfold f_X10_clearSpelled
  refine kj_aloadn hC 0 dX10_clearSpelled_0 rfl rfl ?_
  refine kj_iconst (v := 0) hC dX10_clearSpelled_1 (by decide) ?_
  refine kj_pI (ci := 10) (k := 35) hC dX10_clearSpelled_2 kf_X10_100 (Or.inl (kNF_of (by decide))) rfl ⟨rfl, rfl⟩ (fun h1 => ?_)
  refine kj_aloadn hC 0 dX10_clearSpelled_5 rfl rfl ?_
  refine kj_gI (ci := 10) (k := 5) hC dX10_clearSpelled_6 kf_X10_124 rfl (fun x1 => ?_)
  refine kj_istoren (L' := [(1, .inl x1), (0, .inr (.inr (some p0)))]) hC dX10_clearSpelled_9 rfl (by decide) rfl ?_
  refine kj_aloadn hC 1 dX10_clearSpelled_10 rfl rfl ?_
  refine kj_iconst (v := 0) hC dX10_clearSpelled_11 (by decide) ?_
  refine kj_pI (ci := 10) (k := 5) hC dX10_clearSpelled_12 kf_X10_124 (Or.inl (kNF_of (by decide))) rfl ⟨rfl, rfl⟩ (fun h2 => ?_)
  refine kj_iloadn hC 0 dX10_clearSpelled_15 rfl rfl ?_
  refine kj_fin hmc hms ?_
  exact kj_ireturn hC dX10_clearSpelled_16
set_option maxHeartbeats 4000000 in
set_option maxRecDepth 100000 in
theorem t_X10_charAt_b107 {X : KX} (hC : kC X RX10 cX10_charAt 6 (some .char)) (hN : (xme X).name = yX10_charAt.name) (hT : kT0 X) (hmc : xmc X = 0) (hms : xms X = 0) (hD : xD X = 2) (v0 : Nat) (h : KH) : kJ X (fun x : Int32 => some (.inl x)) 6 0 0 [(0, .inr (.inr (some v0)))] [] 107 h (X10_charAt_b107  v0 h) := by
  unfold X10_charAt_b107
  refine kj_aloadn hC 0 dX10_charAt_107 rfl rfl ?_
  refine kj_iconst (v := 1) hC dX10_charAt_108 (by decide) ?_
  refine kj_pI (ci := 10) (k := 35) hC dX10_charAt_109 kf_X10_100 (Or.inl (kNF_of (by decide))) rfl ⟨rfl, rfl⟩ (fun h1 => ?_)
  refine kj_bipush (v := 97) hC dX10_charAt_112 (by decide) ?_
  refine kj_fin hmc hms ?_
  exact kj_creturn hC dX10_charAt_114
set_option maxHeartbeats 4000000 in
set_option maxRecDepth 100000 in
theorem t_X10_charAt_b94 {X : KX} (hC : kC X RX10 cX10_charAt 6 (some .char)) (hN : (xme X).name = yX10_charAt.name) (hT : kT0 X) (hmc : xmc X = 0) (hms : xms X = 0) (hD : xD X = 2) (s0 : Int32) (h : KH) : kJ X (fun x : Int32 => some (.inl x)) 6 0 0 [] [.inl s0] 94 h (X10_charAt_b94  s0 h) := by
  unfold X10_charAt_b94
  refine kj_i2c hC dX10_charAt_94 ?_
  refine kj_fin hmc hms ?_
  exact kj_creturn hC dX10_charAt_95
set_option maxHeartbeats 4000000 in
set_option maxRecDepth 100000 in
theorem t_X10_charAt_b37 {X : KX} (hC : kC X RX10 cX10_charAt 6 (some .char)) (hN : (xme X).name = yX10_charAt.name) (hT : kT0 X) (hmc : xmc X = 0) (hms : xms X = 0) (hD : xD X = 2) (rc4 : Nat → Int32 → Int32 → Int32 → KH → KO Int32) (hr4 : ∀ (v0 : Nat) (v1 : Int32) (v2 : Int32) (v3 : Int32) (h : KH), kJ X (fun x : Int32 => some (.inl x)) 6 0 0 [(0, .inr (.inr (some v0))), (1, .inl v1), (2, .inl v2), (3, .inl v3)] [] 4 h (rc4 v0 v1 v2 v3 h)) (v0 : Nat) (v1 : Int32) (v2 : Int32) (v3 : Int32) (v4 : Int32) (s0 : Int32) (h : KH) : kJ X (fun x : Int32 => some (.inl x)) 6 0 0 [(0, .inr (.inr (some v0))), (1, .inl v1), (2, .inl v2), (3, .inl v3), (4, .inl v4)] [.inl s0] 37 h (X10_charAt_b37 rc4 v0 v1 v2 v3 v4 s0 h) := by
  unfold X10_charAt_b37
  refine kj_istore (L' := [(5, .inl s0), (0, .inr (.inr (some v0))), (1, .inl v1), (2, .inl v2), (3, .inl v3), (4, .inl v4)]) hC dX10_charAt_37 (by decide) rfl ?_
  refine kj_iloadn hC 3 dX10_charAt_39 rfl rfl ?_
  refine kj_iload hC 0 dX10_charAt_40 rfl ?_
  refine kj_icmp_ge (tgt := 96) hC dX10_charAt_42 (by decide) (fun q1 => ?_) (fun q1 => ?_)
  · refine kj_iloadn hC 3 dX10_charAt_96 rfl rfl ?_
    refine kj_iload hC 0 dX10_charAt_97 rfl ?_
    refine kj_isub hC dX10_charAt_99 ?_
    refine kj_istoren (L' := [(2, .inl (v2 - s0)), (5, .inl s0), (0, .inr (.inr (some v0))), (1, .inl v1), (3, .inl v3), (4, .inl v4)]) hC dX10_charAt_100 rfl (by decide) rfl ?_
    refine kj_iinc (v := v3 + 1) (L' := [(3, .inl (v3 + 1)), (2, .inl (v2 - s0)), (5, .inl s0), (0, .inr (.inr (some v0))), (1, .inl v1), (4, .inl v4)]) hC 4 dX10_charAt_101 rfl rfl (by decide) rfl ?_
    refine kj_goto (tgt := 4) hC dX10_charAt_104 (by decide) ?_
    exact kj_sub [3, 4, 1, 0] rfl (hr4 v0 v1 (v2 - s0) (v3 + 1) h)
  · refine kj_aloadn hC 1 dX10_charAt_45 rfl rfl ?_
    refine kj_iconst (v := 0) hC dX10_charAt_46 (by decide) ?_
    refine kj_pI (ci := 10) (k := 35) hC dX10_charAt_47 kf_X10_100 (Or.inl (kNF_of (by decide))) rfl ⟨rfl, rfl⟩ (fun h1 => ?_)
    refine kj_iload hC 5 dX10_charAt_50 rfl ?_
    refine kj_bipush (v := 14) hC dX10_charAt_52 (by decide) ?_
    refine kj_icmp_ne (tgt := 62) hC dX10_charAt_54 (by decide) (fun q2 => ?_) (fun q2 => ?_)
    · refine kj_bipush (v := 63) hC dX10_charAt_57 (by decide) ?_
      refine kj_goto (tgt := 94) hC dX10_charAt_59 (by decide) ?_
      exact kj_sub [] rfl (t_X10_charAt_b94 hC hN hT hmc hms hD  63 h1)
    · refine kj_iload hC 5 dX10_charAt_62 rfl ?_
      refine kj_bipush (v := 10) hC dX10_charAt_64 (by decide) ?_
      refine kj_icmp_ge (tgt := 77) hC dX10_charAt_66 (by decide) (fun q3 => ?_) (fun q3 => ?_)
      · refine kj_iloadn hC 3 dX10_charAt_77 rfl rfl ?_
        refine kj_if_ne (tgt := 86) hC dX10_charAt_78 (by decide) (fun q4 => ?_) (fun q4 => ?_)
        · refine kj_ldc (v := 55357) hC dX10_charAt_81 kw1150 ?_
          refine kj_goto (tgt := 94) hC dX10_charAt_83 (by decide) ?_
          exact kj_sub [] rfl (t_X10_charAt_b94 hC hN hT hmc hms hD  55357 h1)
        · refine kj_ldc (v := 56976) hC dX10_charAt_86 kw1151 ?_
          refine kj_iload hC 5 dX10_charAt_88 rfl ?_
          refine kj_iadd hC dX10_charAt_90 ?_
          refine kj_bipush (v := 10) hC dX10_charAt_91 (by decide) ?_
          refine kj_isub hC dX10_charAt_93 ?_
          exact kj_sub [] rfl (t_X10_charAt_b94 hC hN hT hmc hms hD  ((56976 + v4) - 10) h1)
      · refine kj_bipush (v := 65) hC dX10_charAt_69 (by decide) ?_
        refine kj_iload hC 5 dX10_charAt_71 rfl ?_
        refine kj_iadd hC dX10_charAt_73 ?_
        refine kj_goto (tgt := 94) hC dX10_charAt_74 (by decide) ?_
        exact kj_sub [] rfl (t_X10_charAt_b94 hC hN hT hmc hms hD  (65 + v4) h1)
set_option maxHeartbeats 4000000 in
set_option maxRecDepth 100000 in
theorem t_X10_charAt_b4 {X : KX} (hC : kC X RX10 cX10_charAt 6 (some .char)) (hN : (xme X).name = yX10_charAt.name) (hT : kT0 X) (hmc : xmc X = 0) (hms : xms X = 0) (hD : xD X = 2) (rc4 : Nat → Int32 → Int32 → Int32 → KH → KO Int32) (hr4 : ∀ (v0 : Nat) (v1 : Int32) (v2 : Int32) (v3 : Int32) (h : KH), kJ X (fun x : Int32 => some (.inl x)) 6 0 0 [(0, .inr (.inr (some v0))), (1, .inl v1), (2, .inl v2), (3, .inl v3)] [] 4 h (rc4 v0 v1 v2 v3 h)) (v0 : Nat) (v1 : Int32) (v2 : Int32) (v3 : Int32) (h : KH) : kJ X (fun x : Int32 => some (.inl x)) 6 0 0 [(0, .inr (.inr (some v0))), (1, .inl v1), (2, .inl v2), (3, .inl v3)] [] 4 h (X10_charAt_b4 rc4 v0 v1 v2 v3 h) := by
  unfold X10_charAt_b4
  refine kj_iloadn hC 3 dX10_charAt_4 rfl rfl ?_
  refine kj_aloadn hC 0 dX10_charAt_5 rfl rfl ?_
  refine kj_gI (ci := 10) (k := 5) hC dX10_charAt_6 kf_X10_124 rfl (fun x1 => ?_)
  refine kj_icmp_ge (tgt := 107) hC dX10_charAt_9 (by decide) (fun q1 => ?_) (fun q1 => ?_)
  · exact kj_sub [0] rfl (t_X10_charAt_b107 hC hN hT hmc hms hD  v0 h)
  · refine kj_iloadn hC 1 dX10_charAt_12 rfl rfl ?_
    refine kj_if_lt (tgt := 107) hC dX10_charAt_13 (by decide) (fun q2 => ?_) (fun q2 => ?_)
    · exact kj_sub [0] rfl (t_X10_charAt_b107 hC hN hT hmc hms hD  v0 h)
    · refine kj_aloadn hC 0 dX10_charAt_16 rfl rfl ?_
      refine kj_gN (ci := 10) (k := 6) hC dX10_charAt_17 kf_X10_23 rfl (fun a1 => ?_)
      refine kj_iloadn hC 3 dX10_charAt_20 rfl rfl ?_
      refine kj_gAI hC dX10_charAt_21 (fun x2 => ?_)
      refine kj_istore (L' := [(4, .inl x2), (0, .inr (.inr (some v0))), (1, .inl v1), (2, .inl v2), (3, .inl v3)]) hC dX10_charAt_22 (by decide) rfl ?_
      refine kj_iload hC 0 dX10_charAt_24 rfl ?_
      refine kj_invS (as := [.inl x2]) (rest := []) hC hT dX10_charAt_26 kw1131 ky_X10_isPair ky2_X10_isPair (t_X10_isPair x2 h) rfl rfl (Nat.le_of_ble_eq_true rfl) ⟨by rw [hD]; decide, by decide⟩ ⟨by rw [hmc]; exact Nat.le_of_ble_eq_true rfl, by rw [hms]; exact Nat.le_of_ble_eq_true rfl⟩ (fun x3 h1 => ?_)
      refine kj_norm (st' := [.inl x3]) (c' := 0) (z' := 0) rfl rfl rfl ?_
      refine kj_if_eq (tgt := 36) hC dX10_charAt_29 (by decide) (fun q3 => ?_) (fun q3 => ?_)
      · refine kj_iconst (v := 1) hC dX10_charAt_36 (by decide) ?_
        exact kj_sub [1, 2, 3, 4, 0] rfl (t_X10_charAt_b37 hC hN hT hmc hms hD rc4 hr4 v0 v1 v2 v3 x2 1 h1)
      · refine kj_iconst (v := 2) hC dX10_charAt_32 (by decide) ?_
        refine kj_goto (tgt := 37) hC dX10_charAt_33 (by decide) ?_
        exact kj_sub [1, 2, 3, 4, 0] rfl (t_X10_charAt_b37 hC hN hT hmc hms hD rc4 hr4 v0 v1 v2 v3 x2 2 h1)
set_option maxHeartbeats 4000000 in
set_option maxRecDepth 100000 in
theorem t_X10_charAt_L4 {X : KX} (hC : kC X RX10 cX10_charAt 6 (some .char)) (hN : (xme X).name = yX10_charAt.name) (hT : kT0 X) (hmc : xmc X = 0) (hms : xms X = 0) (hD : xD X = 2) : ∀ (n : Nat) (v0 : Nat) (v1 : Int32) (v2 : Int32) (v3 : Int32) (h : KH), kJ X (fun x : Int32 => some (.inl x)) 6 0 0 [(0, .inr (.inr (some v0))), (1, .inl v1), (2, .inl v2), (3, .inl v3)] [] 4 h (X10_charAt_L4  n v0 v1 v2 v3 h) := by
  intro n
  induction n with
  | zero => intro v0 v1 v2 v3 h; exact kj_none
  | succ n ih => intro v0 v1 v2 v3 h; exact t_X10_charAt_b4 hC hN hT hmc hms hD (X10_charAt_L4  n) ih v0 v1 v2 v3 h
set_option maxHeartbeats 4000000 in
set_option maxRecDepth 100000 in
theorem t_X10_charAt (p0 : Nat) (p1 : Int32) (h : KH) : kM yX10_charAt cX10_charAt 6 (some .char) 2 0 0 (fun x : Int32 => some (.inl x)) [.inr (.inr (some p0)), .inl p1] h (f_X10_charAt p0 p1 h) := by
  refine kM_of RX10 (by decide) rfl (Nat.le_of_ble_eq_true rfl) [(0, .inr (.inr (some p0))), (1, .inl p1)] rfl (fun X hC hN hT hmc hms hD => ?_)
  unfold f_X10_charAt
  refine kj_iloadn hC 1 dX10_charAt_0 rfl rfl ?_
  refine kj_istoren (L' := [(2, .inl p1), (0, .inr (.inr (some p0))), (1, .inl p1)]) hC dX10_charAt_1 rfl (by decide) rfl ?_
  refine kj_iconst (v := 0) hC dX10_charAt_2 (by decide) ?_
  refine kj_istoren (L' := [(3, .inl 0), (2, .inl p1), (0, .inr (.inr (some p0))), (1, .inl p1)]) hC dX10_charAt_3 rfl (by decide) rfl ?_
  exact kj_sub [2, 3, 1, 0] rfl (t_X10_charAt_L4 hC hN hT hmc hms hD  kF p0 p1 p1 0 h)
set_option maxHeartbeats 4000000 in
set_option maxRecDepth 100000 in
theorem t_X10_alike_b78 {X : KX} (hC : kC X RX10 cX10_alike 5 (some .boolean)) (hN : (xme X).name = yX10_alike.name) (hT : kT0 X) (hmc : xmc X = 0) (hms : xms X = 0) (hD : xD X = 2) (v0 : Nat) (v1 : Int32) (v2 : Int32) (s0 : Int32) (h : KH) : kJ X (fun x : Int32 => some (.inl x)) 5 0 0 [(0, .inr (.inr (some v0))), (1, .inl v1), (2, .inl v2)] [.inl s0] 78 h (X10_alike_b78  v0 v1 v2 s0 h) := by
  unfold X10_alike_b78
  refine kj_istore (L' := [(4, .inl s0), (0, .inr (.inr (some v0))), (1, .inl v1), (2, .inl v2)]) hC dX10_alike_78 (by decide) rfl ?_
  refine kj_aloadn hC 1 dX10_alike_80 rfl rfl ?_
  refine kj_gN (ci := 10) (k := 7) hC dX10_alike_81 kf_X10_26 rfl (fun a1 => ?_)
  refine kj_bipush (v := 15) hC dX10_alike_84 (by decide) ?_
  refine kj_iloadn hC 2 dX10_alike_86 rfl rfl ?_
  refine kj_imul hC dX10_alike_87 ?_
  refine kj_iloadn hC 3 dX10_alike_88 rfl rfl ?_
  refine kj_iadd hC dX10_alike_89 ?_
  refine kj_iload hC 0 dX10_alike_90 rfl ?_
  refine kj_pAZ hC dX10_alike_92 (fun h1 => ?_)
  refine kj_aloadn hC 1 dX10_alike_93 rfl rfl ?_
  refine kj_gN (ci := 10) (k := 7) hC dX10_alike_94 kf_X10_26 rfl (fun a2 => ?_)
  refine kj_bipush (v := 15) hC dX10_alike_97 (by decide) ?_
  refine kj_iloadn hC 3 dX10_alike_99 rfl rfl ?_
  refine kj_imul hC dX10_alike_100 ?_
  refine kj_iloadn hC 2 dX10_alike_101 rfl rfl ?_
  refine kj_iadd hC dX10_alike_102 ?_
  refine kj_iload hC 0 dX10_alike_103 rfl ?_
  refine kj_pAZ hC dX10_alike_105 (fun h2 => ?_)
  refine kj_iload hC 0 dX10_alike_106 rfl ?_
  refine kj_fin hmc hms ?_
  exact kj_zreturn hC dX10_alike_108
set_option maxHeartbeats 4000000 in
set_option maxRecDepth 100000 in
theorem t_X10_alike_b51 {X : KX} (hC : kC X RX10 cX10_alike 5 (some .boolean)) (hN : (xme X).name = yX10_alike.name) (hT : kT0 X) (hmc : xmc X = 0) (hms : xms X = 0) (hD : xD X = 2) (v0 : Nat) (v1 : Int32) (v2 : Int32) (s0 : Int32) (s1 : Nat) (h : KH) : kJ X (fun x : Int32 => some (.inl x)) 5 0 0 [(0, .inr (.inr (some v0))), (1, .inl v1), (2, .inl v2)] [.inl s0, .inr (.inr (some s1))] 51 h (X10_alike_b51  v0 v1 v2 s0 s1 h) := by
  unfold X10_alike_b51
  refine kj_invV (ci := 10) (q := (RX10, TX10, 36)) (as := [.inl s0]) (rest := []) hC hT dX10_alike_51 kw1089 ky_X10_can ky2_X10_can rfl rfl (t_X10_can s1 s0 h) rfl rfl (Nat.le_of_ble_eq_true rfl) ⟨by rw [hD]; decide, by decide⟩ ⟨by rw [hmc]; exact Nat.le_of_ble_eq_true rfl, by rw [hms]; exact Nat.le_of_ble_eq_true rfl⟩ (fun x1 h1 => ?_)
  refine kj_norm (st' := [.inl x1]) (c' := 0) (z' := 0) rfl rfl rfl ?_
  refine kj_if_ne (tgt := 59) hC dX10_alike_54 (by decide) (fun q1 => ?_) (fun q1 => ?_)
  · refine kj_iconst (v := 0) hC dX10_alike_57 (by decide) ?_
    refine kj_fin hmc hms ?_
    exact kj_zreturn hC dX10_alike_58
  · refine kj_aloadn hC 0 dX10_alike_59 rfl rfl ?_
    refine kj_gN (ci := 10) (k := 7) hC dX10_alike_60 kf_X10_26 rfl (fun a1 => ?_)
    refine kj_bipush (v := 15) hC dX10_alike_63 (by decide) ?_
    refine kj_iloadn hC 1 dX10_alike_65 rfl rfl ?_
    refine kj_imul hC dX10_alike_66 ?_
    refine kj_iloadn hC 2 dX10_alike_67 rfl rfl ?_
    refine kj_iadd hC dX10_alike_68 ?_
    refine kj_gAZ hC dX10_alike_69 (fun x2 => ?_)
    refine kj_if_ne (tgt := 77) hC dX10_alike_70 (by decide) (fun q2 => ?_) (fun q2 => ?_)
    · refine kj_iconst (v := 1) hC dX10_alike_73 (by decide) ?_
      refine kj_goto (tgt := 78) hC dX10_alike_74 (by decide) ?_
      exact kj_sub [0, 1, 2] rfl (t_X10_alike_b78 hC hN hT hmc hms hD  v0 v1 v2 1 h1)
    · refine kj_iconst (v := 0) hC dX10_alike_77 (by decide) ?_
      exact kj_sub [0, 1, 2] rfl (t_X10_alike_b78 hC hN hT hmc hms hD  v0 v1 v2 0 h1)
set_option maxHeartbeats 4000000 in
set_option maxRecDepth 100000 in
theorem t_X10_alike_b46 {X : KX} (hC : kC X RX10 cX10_alike 5 (some .boolean)) (hN : (xme X).name = yX10_alike.name) (hT : kT0 X) (hmc : xmc X = 0) (hms : xms X = 0) (hD : xD X = 2) (v0 : Nat) (v1 : Int32) (v2 : Int32) (s0 : Nat) (h : KH) : kJ X (fun x : Int32 => some (.inl x)) 5 0 0 [(0, .inr (.inr (some v0))), (1, .inl v1), (2, .inl v2)] [.inr (.inr (some s0))] 46 h (X10_alike_b46  v0 v1 v2 s0 h) := by
  unfold X10_alike_b46
  refine kj_iconst (v := 2) hC dX10_alike_46 (by decide) ?_
  refine kj_goto (tgt := 51) hC dX10_alike_47 (by decide) ?_
  exact kj_sub [0, 1, 2] rfl (t_X10_alike_b51 hC hN hT hmc hms hD  v0 v1 v2 2 s0 h)
set_option maxHeartbeats 4000000 in
set_option maxRecDepth 100000 in
theorem t_X10_alike_b19 {X : KX} (hC : kC X RX10 cX10_alike 5 (some .boolean)) (hN : (xme X).name = yX10_alike.name) (hT : kT0 X) (hmc : xmc X = 0) (hms : xms X = 0) (hD : xD X = 2) (v0 : Nat) (v1 : Int32) (v2 : Int32) (s0 : Int32) (h : KH) : kJ X (fun x : Int32 => some (.inl x)) 5 0 0 [(0, .inr (.inr (some v0))), (1, .inl v1), (2, .inl v2)] [.inl s0] 19 h (X10_alike_b19  v0 v1 v2 s0 h) := by
  unfold X10_alike_b19
  refine kj_istoren (L' := [(3, .inl s0), (0, .inr (.inr (some v0))), (1, .inl v1), (2, .inl v2)]) hC dX10_alike_19 rfl (by decide) rfl ?_
  refine kj_aloadn hC 1 dX10_alike_20 rfl rfl ?_
  refine kj_iloadn hC 0 dX10_alike_21 rfl rfl ?_
  refine kj_if_ne (tgt := 29) hC dX10_alike_22 (by decide) (fun q1 => ?_) (fun q1 => ?_)
  · refine kj_iconst (v := 1) hC dX10_alike_25 (by decide) ?_
    refine kj_goto (tgt := 51) hC dX10_alike_26 (by decide) ?_
    exact kj_sub [1, 2, 3] rfl (t_X10_alike_b51 hC hN hT hmc hms hD  v0 v1 v2 1 v0 h)
  · refine kj_iloadn hC 2 dX10_alike_29 rfl rfl ?_
    refine kj_iloadn hC 3 dX10_alike_30 rfl rfl ?_
    refine kj_icmp_eq (tgt := 46) hC dX10_alike_31 (by decide) (fun q2 => ?_) (fun q2 => ?_)
    · exact kj_sub [1, 2, 3] rfl (t_X10_alike_b46 hC hN hT hmc hms hD  v0 v1 v2 v0 h)
    · refine kj_iloadn hC 2 dX10_alike_34 rfl rfl ?_
      refine kj_bipush (v := 14) hC dX10_alike_35 (by decide) ?_
      refine kj_icmp_eq (tgt := 46) hC dX10_alike_37 (by decide) (fun q3 => ?_) (fun q3 => ?_)
      · exact kj_sub [1, 2, 3] rfl (t_X10_alike_b46 hC hN hT hmc hms hD  v0 v1 v2 v0 h)
      · refine kj_iloadn hC 3 dX10_alike_40 rfl rfl ?_
        refine kj_bipush (v := 14) hC dX10_alike_41 (by decide) ?_
        refine kj_icmp_ne (tgt := 50) hC dX10_alike_43 (by decide) (fun q4 => ?_) (fun q4 => ?_)
        · exact kj_sub [1, 2, 3] rfl (t_X10_alike_b46 hC hN hT hmc hms hD  v0 v1 v2 v0 h)
        · refine kj_iconst (v := 0) hC dX10_alike_50 (by decide) ?_
          exact kj_sub [1, 2, 3] rfl (t_X10_alike_b51 hC hN hT hmc hms hD  v0 v1 v2 0 v0 h)
set_option maxHeartbeats 4000000 in
set_option maxRecDepth 100000 in
theorem t_X10_alike_b18 {X : KX} (hC : kC X RX10 cX10_alike 5 (some .boolean)) (hN : (xme X).name = yX10_alike.name) (hT : kT0 X) (hmc : xmc X = 0) (hms : xms X = 0) (hD : xD X = 2) (v0 : Nat) (v1 : Int32) (v2 : Int32) (h : KH) : kJ X (fun x : Int32 => some (.inl x)) 5 0 0 [(0, .inr (.inr (some v0))), (1, .inl v1), (2, .inl v2)] [] 18 h (X10_alike_b18  v0 v1 v2 h) := by
  unfold X10_alike_b18
  refine kj_iconst (v := 0) hC dX10_alike_18 (by decide) ?_
  exact kj_sub [0, 1, 2] rfl (t_X10_alike_b19 hC hN hT hmc hms hD  v0 v1 v2 0 h)
set_option maxHeartbeats 4000000 in
set_option maxRecDepth 100000 in
theorem t_X10_alike (p0 : Nat) (p1 : Int32) (p2 : Int32) (h : KH) : kM yX10_alike cX10_alike 5 (some .boolean) 2 0 0 (fun x : Int32 => some (.inl x)) [.inr (.inr (some p0)), .inl p1, .inl p2] h (f_X10_alike p0 p1 p2 h) := by
  refine kM_of RX10 (by decide) rfl (Nat.le_of_ble_eq_true rfl) [(0, .inr (.inr (some p0))), (1, .inl p1), (2, .inl p2)] rfl (fun X hC hN hT hmc hms hD => ?_)
  unfold f_X10_alike
  refine kj_iloadn hC 1 dX10_alike_0 rfl rfl ?_
  refine kj_invS (as := [.inl p1]) (rest := []) hC hT dX10_alike_1 kw1120 ky_X10_isSign ky2_X10_isSign (t_X10_isSign p1 h) rfl rfl (Nat.le_of_ble_eq_true rfl) ⟨by rw [hD]; decide, by decide⟩ ⟨by rw [hmc]; exact Nat.le_of_ble_eq_true rfl, by rw [hms]; exact Nat.le_of_ble_eq_true rfl⟩ (fun x1 h1 => ?_)
  refine kj_norm (st' := [.inl x1]) (c' := 0) (z' := 0) rfl rfl rfl ?_
  refine kj_if_eq (tgt := 18) hC dX10_alike_4 (by decide) (fun q1 => ?_) (fun q1 => ?_)
  · exact kj_sub [0, 1, 2] rfl (t_X10_alike_b18 hC hN hT hmc hms hD  p0 p1 p2 h1)
  · refine kj_iloadn hC 2 dX10_alike_7 rfl rfl ?_
    refine kj_invS (as := [.inl p2]) (rest := []) hC hT dX10_alike_8 kw1120 ky_X10_isSign ky2_X10_isSign (t_X10_isSign p2 h1) rfl rfl (Nat.le_of_ble_eq_true rfl) ⟨by rw [hD]; decide, by decide⟩ ⟨by rw [hmc]; exact Nat.le_of_ble_eq_true rfl, by rw [hms]; exact Nat.le_of_ble_eq_true rfl⟩ (fun x2 h2 => ?_)
    refine kj_norm (st' := [.inl x2]) (c' := 0) (z' := 0) rfl rfl rfl ?_
    refine kj_if_eq (tgt := 18) hC dX10_alike_11 (by decide) (fun q2 => ?_) (fun q2 => ?_)
    · exact kj_sub [0, 1, 2] rfl (t_X10_alike_b18 hC hN hT hmc hms hD  p0 p1 p2 h2)
    · refine kj_iconst (v := 1) hC dX10_alike_14 (by decide) ?_
      refine kj_goto (tgt := 19) hC dX10_alike_15 (by decide) ?_
      exact kj_sub [0, 1, 2] rfl (t_X10_alike_b19 hC hN hT hmc hms hD  p0 p1 p2 1 h2)
set_option maxHeartbeats 4000000 in
set_option maxRecDepth 100000 in
theorem t_X10_isTaken_b94 {X : KX} (hC : kC X RX10 cX10_isTaken 5 (some .boolean)) (hN : (xme X).name = yX10_isTaken.name) (hT : kT0 X) (hmc : xmc X = 0) (hms : xms X = 0) (hD : xD X = 0) (rc4 : Nat → Int32 → Int32 → KH → KO Int32) (hr4 : ∀ (v0 : Nat) (v1 : Int32) (v2 : Int32) (h : KH), kJ X (fun x : Int32 => some (.inl x)) 5 0 0 [(0, .inr (.inr (some v0))), (1, .inl v1), (2, .inl v2)] [] 4 h (rc4 v0 v1 v2 h)) (v0 : Nat) (v2 : Int32) (s0 : Int32) (h : KH) : kJ X (fun x : Int32 => some (.inl x)) 5 0 0 [(0, .inr (.inr (some v0))), (2, .inl v2)] [.inl s0] 94 h (X10_isTaken_b94 rc4 v0 v2 s0 h) := by
  unfold X10_isTaken_b94
  refine kj_istoren (L' := [(1, .inl s0), (0, .inr (.inr (some v0))), (2, .inl v2)]) hC dX10_isTaken_94 rfl (by decide) rfl ?_
  refine kj_iinc (v := v2 + 1) (L' := [(2, .inl (v2 + 1)), (1, .inl s0), (0, .inr (.inr (some v0)))]) hC 2 dX10_isTaken_95 rfl rfl (by decide) rfl ?_
  refine kj_goto (tgt := 4) hC dX10_isTaken_98 (by decide) ?_
  exact kj_sub [2, 1, 0] rfl (hr4 v0 s0 (v2 + 1) h)
set_option maxHeartbeats 4000000 in
set_option maxRecDepth 100000 in
theorem t_X10_isTaken_b89 {X : KX} (hC : kC X RX10 cX10_isTaken 5 (some .boolean)) (hN : (xme X).name = yX10_isTaken.name) (hT : kT0 X) (hmc : xmc X = 0) (hms : xms X = 0) (hD : xD X = 0) (rc4 : Nat → Int32 → Int32 → KH → KO Int32) (hr4 : ∀ (v0 : Nat) (v1 : Int32) (v2 : Int32) (h : KH), kJ X (fun x : Int32 => some (.inl x)) 5 0 0 [(0, .inr (.inr (some v0))), (1, .inl v1), (2, .inl v2)] [] 4 h (rc4 v0 v1 v2 h)) (v0 : Nat) (v2 : Int32) (h : KH) : kJ X (fun x : Int32 => some (.inl x)) 5 0 0 [(0, .inr (.inr (some v0))), (2, .inl v2)] [] 89 h (X10_isTaken_b89 rc4 v0 v2 h) := by
  unfold X10_isTaken_b89
  refine kj_iconst (v := 1) hC dX10_isTaken_89 (by decide) ?_
  refine kj_goto (tgt := 94) hC dX10_isTaken_90 (by decide) ?_
  exact kj_sub [0, 1] rfl (t_X10_isTaken_b94 hC hN hT hmc hms hD rc4 hr4 v0 v2 1 h)
set_option maxHeartbeats 4000000 in
set_option maxRecDepth 100000 in
theorem t_X10_isTaken_b81 {X : KX} (hC : kC X RX10 cX10_isTaken 5 (some .boolean)) (hN : (xme X).name = yX10_isTaken.name) (hT : kT0 X) (hmc : xmc X = 0) (hms : xms X = 0) (hD : xD X = 0) (rc4 : Nat → Int32 → Int32 → KH → KO Int32) (hr4 : ∀ (v0 : Nat) (v1 : Int32) (v2 : Int32) (h : KH), kJ X (fun x : Int32 => some (.inl x)) 5 0 0 [(0, .inr (.inr (some v0))), (1, .inl v1), (2, .inl v2)] [] 4 h (rc4 v0 v1 v2 h)) (v0 : Nat) (v1 : Int32) (v2 : Int32) (v3 : Int32) (h : KH) : kJ X (fun x : Int32 => some (.inl x)) 5 0 0 [(0, .inr (.inr (some v0))), (1, .inl v1), (2, .inl v2), (3, .inl v3)] [] 81 h (X10_isTaken_b81 rc4 v0 v1 v2 v3 h) := by
  unfold X10_isTaken_b81
  refine kj_iloadn hC 1 dX10_isTaken_81 rfl rfl ?_
  refine kj_if_ne (tgt := 89) hC dX10_isTaken_82 (by decide) (fun q1 => ?_) (fun q1 => ?_)
  · refine kj_iloadn hC 3 dX10_isTaken_85 rfl rfl ?_
    refine kj_if_eq (tgt := 93) hC dX10_isTaken_86 (by decide) (fun q2 => ?_) (fun q2 => ?_)
    · refine kj_iconst (v := 0) hC dX10_isTaken_93 (by decide) ?_
      exact kj_sub [0, 2] rfl (t_X10_isTaken_b94 hC hN hT hmc hms hD rc4 hr4 v0 v2 0 h)
    · exact kj_sub [0, 2] rfl (t_X10_isTaken_b89 hC hN hT hmc hms hD rc4 hr4 v0 v2 h)
  · exact kj_sub [0, 2] rfl (t_X10_isTaken_b89 hC hN hT hmc hms hD rc4 hr4 v0 v2 h)
set_option maxHeartbeats 4000000 in
set_option maxRecDepth 100000 in
theorem t_X10_isTaken_b74 {X : KX} (hC : kC X RX10 cX10_isTaken 5 (some .boolean)) (hN : (xme X).name = yX10_isTaken.name) (hT : kT0 X) (hmc : xmc X = 0) (hms : xms X = 0) (hD : xD X = 0) (rc4 : Nat → Int32 → Int32 → KH → KO Int32) (hr4 : ∀ (v0 : Nat) (v1 : Int32) (v2 : Int32) (h : KH), kJ X (fun x : Int32 => some (.inl x)) 5 0 0 [(0, .inr (.inr (some v0))), (1, .inl v1), (2, .inl v2)] [] 4 h (rc4 v0 v1 v2 h)) (rc34 : Nat → Int32 → Int32 → Int32 → Int32 → KH → KO Int32) (hr34 : ∀ (v0 : Nat) (v1 : Int32) (v2 : Int32) (v3 : Int32) (v4 : Int32) (h : KH), kJ X (fun x : Int32 => some (.inl x)) 5 0 0 [(0, .inr (.inr (some v0))), (1, .inl v1), (2, .inl v2), (3, .inl v3), (4, .inl v4)] [] 34 h (rc34 v0 v1 v2 v3 v4 h)) (v0 : Nat) (v1 : Int32) (v2 : Int32) (v4 : Int32) (s0 : Int32) (h : KH) : kJ X (fun x : Int32 => some (.inl x)) 5 0 0 [(0, .inr (.inr (some v0))), (1, .inl v1), (2, .inl v2), (4, .inl v4)] [.inl s0] 74 h (X10_isTaken_b74 rc4 rc34 v0 v1 v2 v4 s0 h) := by
  unfold X10_isTaken_b74
  refine kj_istoren (L' := [(3, .inl s0), (0, .inr (.inr (some v0))), (1, .inl v1), (2, .inl v2), (4, .inl v4)]) hC dX10_isTaken_74 rfl (by decide) rfl ?_
  refine kj_iinc (v := v4 + 1) (L' := [(4, .inl (v4 + 1)), (3, .inl s0), (0, .inr (.inr (some v0))), (1, .inl v1), (2, .inl v2)]) hC 4 dX10_isTaken_75 rfl rfl (by decide) rfl ?_
  refine kj_goto (tgt := 34) hC dX10_isTaken_78 (by decide) ?_
  exact kj_sub [2, 3, 4, 1, 0] rfl (hr34 v0 v1 v2 s0 (v4 + 1) h)
set_option maxHeartbeats 4000000 in
set_option maxRecDepth 100000 in
theorem t_X10_isTaken_b34 {X : KX} (hC : kC X RX10 cX10_isTaken 5 (some .boolean)) (hN : (xme X).name = yX10_isTaken.name) (hT : kT0 X) (hmc : xmc X = 0) (hms : xms X = 0) (hD : xD X = 0) (rc4 : Nat → Int32 → Int32 → KH → KO Int32) (hr4 : ∀ (v0 : Nat) (v1 : Int32) (v2 : Int32) (h : KH), kJ X (fun x : Int32 => some (.inl x)) 5 0 0 [(0, .inr (.inr (some v0))), (1, .inl v1), (2, .inl v2)] [] 4 h (rc4 v0 v1 v2 h)) (rc34 : Nat → Int32 → Int32 → Int32 → Int32 → KH → KO Int32) (hr34 : ∀ (v0 : Nat) (v1 : Int32) (v2 : Int32) (v3 : Int32) (v4 : Int32) (h : KH), kJ X (fun x : Int32 => some (.inl x)) 5 0 0 [(0, .inr (.inr (some v0))), (1, .inl v1), (2, .inl v2), (3, .inl v3), (4, .inl v4)] [] 34 h (rc34 v0 v1 v2 v3 v4 h)) (v0 : Nat) (v1 : Int32) (v2 : Int32) (v3 : Int32) (v4 : Int32) (h : KH) : kJ X (fun x : Int32 => some (.inl x)) 5 0 0 [(0, .inr (.inr (some v0))), (1, .inl v1), (2, .inl v2), (3, .inl v3), (4, .inl v4)] [] 34 h (X10_isTaken_b34 rc4 rc34 v0 v1 v2 v3 v4 h) := by
  unfold X10_isTaken_b34
  refine kj_iload hC 4 dX10_isTaken_34 rfl ?_
  refine kj_aloadn hC 0 dX10_isTaken_36 rfl rfl ?_
  refine kj_gI (ci := 10) (k := 5) hC dX10_isTaken_37 kf_X10_124 rfl (fun x1 => ?_)
  refine kj_icmp_ge (tgt := 81) hC dX10_isTaken_40 (by decide) (fun q1 => ?_) (fun q1 => ?_)
  · exact kj_sub [0, 1, 2, 3] rfl (t_X10_isTaken_b81 hC hN hT hmc hms hD rc4 hr4 v0 v1 v2 v3 h)
  · refine kj_iloadn hC 3 dX10_isTaken_43 rfl rfl ?_
    refine kj_if_eq (tgt := 81) hC dX10_isTaken_44 (by decide) (fun q2 => ?_) (fun q2 => ?_)
    · exact kj_sub [0, 1, 2, 3] rfl (t_X10_isTaken_b81 hC hN hT hmc hms hD rc4 hr4 v0 v1 v2 v3 h)
    · refine kj_aloadn hC 0 dX10_isTaken_47 rfl rfl ?_
      refine kj_gN (ci := 10) (k := 10) hC dX10_isTaken_48 kf_X10_33 rfl (fun a1 => ?_)
      refine kj_bipush (v := 6) hC dX10_isTaken_51 (by decide) ?_
      refine kj_iloadn hC 2 dX10_isTaken_53 rfl rfl ?_
      refine kj_imul hC dX10_isTaken_54 ?_
      refine kj_iload hC 4 dX10_isTaken_55 rfl ?_
      refine kj_iadd hC dX10_isTaken_57 ?_
      refine kj_gAI hC dX10_isTaken_58 (fun x2 => ?_)
      refine kj_aloadn hC 0 dX10_isTaken_59 rfl rfl ?_
      refine kj_gN (ci := 10) (k := 6) hC dX10_isTaken_60 kf_X10_23 rfl (fun a2 => ?_)
      refine kj_iload hC 4 dX10_isTaken_63 rfl ?_
      refine kj_gAI hC dX10_isTaken_65 (fun x3 => ?_)
      refine kj_icmp_ne (tgt := 73) hC dX10_isTaken_66 (by decide) (fun q3 => ?_) (fun q3 => ?_)
      · refine kj_iconst (v := 1) hC dX10_isTaken_69 (by decide) ?_
        refine kj_goto (tgt := 74) hC dX10_isTaken_70 (by decide) ?_
        exact kj_sub [0, 1, 2, 4] rfl (t_X10_isTaken_b74 hC hN hT hmc hms hD rc4 hr4 rc34 hr34 v0 v1 v2 v4 1 h)
      · refine kj_iconst (v := 0) hC dX10_isTaken_73 (by decide) ?_
        exact kj_sub [0, 1, 2, 4] rfl (t_X10_isTaken_b74 hC hN hT hmc hms hD rc4 hr4 rc34 hr34 v0 v1 v2 v4 0 h)
set_option maxHeartbeats 4000000 in
set_option maxRecDepth 100000 in
theorem t_X10_isTaken_L34 {X : KX} (hC : kC X RX10 cX10_isTaken 5 (some .boolean)) (hN : (xme X).name = yX10_isTaken.name) (hT : kT0 X) (hmc : xmc X = 0) (hms : xms X = 0) (hD : xD X = 0) (rc4 : Nat → Int32 → Int32 → KH → KO Int32) (hr4 : ∀ (v0 : Nat) (v1 : Int32) (v2 : Int32) (h : KH), kJ X (fun x : Int32 => some (.inl x)) 5 0 0 [(0, .inr (.inr (some v0))), (1, .inl v1), (2, .inl v2)] [] 4 h (rc4 v0 v1 v2 h)) : ∀ (n : Nat) (v0 : Nat) (v1 : Int32) (v2 : Int32) (v3 : Int32) (v4 : Int32) (h : KH), kJ X (fun x : Int32 => some (.inl x)) 5 0 0 [(0, .inr (.inr (some v0))), (1, .inl v1), (2, .inl v2), (3, .inl v3), (4, .inl v4)] [] 34 h (X10_isTaken_L34 rc4 n v0 v1 v2 v3 v4 h) := by
  intro n
  induction n with
  | zero => intro v0 v1 v2 v3 v4 h; exact kj_none
  | succ n ih => intro v0 v1 v2 v3 v4 h; exact t_X10_isTaken_b34 hC hN hT hmc hms hD rc4 hr4 (X10_isTaken_L34 rc4 n) ih v0 v1 v2 v3 v4 h
set_option maxHeartbeats 4000000 in
set_option maxRecDepth 100000 in
theorem t_X10_isTaken_b30 {X : KX} (hC : kC X RX10 cX10_isTaken 5 (some .boolean)) (hN : (xme X).name = yX10_isTaken.name) (hT : kT0 X) (hmc : xmc X = 0) (hms : xms X = 0) (hD : xD X = 0) (rc4 : Nat → Int32 → Int32 → KH → KO Int32) (hr4 : ∀ (v0 : Nat) (v1 : Int32) (v2 : Int32) (h : KH), kJ X (fun x : Int32 => some (.inl x)) 5 0 0 [(0, .inr (.inr (some v0))), (1, .inl v1), (2, .inl v2)] [] 4 h (rc4 v0 v1 v2 h)) (v0 : Nat) (v1 : Int32) (v2 : Int32) (s0 : Int32) (h : KH) : kJ X (fun x : Int32 => some (.inl x)) 5 0 0 [(0, .inr (.inr (some v0))), (1, .inl v1), (2, .inl v2)] [.inl s0] 30 h (X10_isTaken_b30 rc4 v0 v1 v2 s0 h) := by
  unfold X10_isTaken_b30
  refine kj_istoren (L' := [(3, .inl s0), (0, .inr (.inr (some v0))), (1, .inl v1), (2, .inl v2)]) hC dX10_isTaken_30 rfl (by decide) rfl ?_
  refine kj_iconst (v := 0) hC dX10_isTaken_31 (by decide) ?_
  refine kj_istore (L' := [(4, .inl 0), (3, .inl s0), (0, .inr (.inr (some v0))), (1, .inl v1), (2, .inl v2)]) hC dX10_isTaken_32 (by decide) rfl ?_
  exact kj_sub [2, 3, 4, 1, 0] rfl (t_X10_isTaken_L34 hC hN hT hmc hms hD rc4 hr4 kF v0 v1 v2 s0 0 h)
set_option maxHeartbeats 4000000 in
set_option maxRecDepth 100000 in
theorem t_X10_isTaken_b4 {X : KX} (hC : kC X RX10 cX10_isTaken 5 (some .boolean)) (hN : (xme X).name = yX10_isTaken.name) (hT : kT0 X) (hmc : xmc X = 0) (hms : xms X = 0) (hD : xD X = 0) (rc4 : Nat → Int32 → Int32 → KH → KO Int32) (hr4 : ∀ (v0 : Nat) (v1 : Int32) (v2 : Int32) (h : KH), kJ X (fun x : Int32 => some (.inl x)) 5 0 0 [(0, .inr (.inr (some v0))), (1, .inl v1), (2, .inl v2)] [] 4 h (rc4 v0 v1 v2 h)) (v0 : Nat) (v1 : Int32) (v2 : Int32) (h : KH) : kJ X (fun x : Int32 => some (.inl x)) 5 0 0 [(0, .inr (.inr (some v0))), (1, .inl v1), (2, .inl v2)] [] 4 h (X10_isTaken_b4 rc4 v0 v1 v2 h) := by
  unfold X10_isTaken_b4
  refine kj_iloadn hC 2 dX10_isTaken_4 rfl rfl ?_
  refine kj_aloadn hC 0 dX10_isTaken_5 rfl rfl ?_
  refine kj_gI (ci := 10) (k := 8) hC dX10_isTaken_6 kf_X10_107 rfl (fun x1 => ?_)
  refine kj_icmp_ge (tgt := 101) hC dX10_isTaken_9 (by decide) (fun q1 => ?_) (fun q1 => ?_)
  · refine kj_iloadn hC 1 dX10_isTaken_101 rfl rfl ?_
    refine kj_fin hmc hms ?_
    exact kj_zreturn hC dX10_isTaken_102
  · refine kj_aloadn hC 0 dX10_isTaken_12 rfl rfl ?_
    refine kj_gN (ci := 10) (k := 9) hC dX10_isTaken_13 kf_X10_30 rfl (fun a1 => ?_)
    refine kj_iloadn hC 2 dX10_isTaken_16 rfl rfl ?_
    refine kj_gAI hC dX10_isTaken_17 (fun x2 => ?_)
    refine kj_aloadn hC 0 dX10_isTaken_18 rfl rfl ?_
    refine kj_gI (ci := 10) (k := 5) hC dX10_isTaken_19 kf_X10_124 rfl (fun x3 => ?_)
    refine kj_icmp_ne (tgt := 29) hC dX10_isTaken_22 (by decide) (fun q2 => ?_) (fun q2 => ?_)
    · refine kj_iconst (v := 1) hC dX10_isTaken_25 (by decide) ?_
      refine kj_goto (tgt := 30) hC dX10_isTaken_26 (by decide) ?_
      exact kj_sub [0, 1, 2] rfl (t_X10_isTaken_b30 hC hN hT hmc hms hD rc4 hr4 v0 v1 v2 1 h)
    · refine kj_iconst (v := 0) hC dX10_isTaken_29 (by decide) ?_
      exact kj_sub [0, 1, 2] rfl (t_X10_isTaken_b30 hC hN hT hmc hms hD rc4 hr4 v0 v1 v2 0 h)
set_option maxHeartbeats 4000000 in
set_option maxRecDepth 100000 in
theorem t_X10_isTaken_L4 {X : KX} (hC : kC X RX10 cX10_isTaken 5 (some .boolean)) (hN : (xme X).name = yX10_isTaken.name) (hT : kT0 X) (hmc : xmc X = 0) (hms : xms X = 0) (hD : xD X = 0) : ∀ (n : Nat) (v0 : Nat) (v1 : Int32) (v2 : Int32) (h : KH), kJ X (fun x : Int32 => some (.inl x)) 5 0 0 [(0, .inr (.inr (some v0))), (1, .inl v1), (2, .inl v2)] [] 4 h (X10_isTaken_L4  n v0 v1 v2 h) := by
  intro n
  induction n with
  | zero => intro v0 v1 v2 h; exact kj_none
  | succ n ih => intro v0 v1 v2 h; exact t_X10_isTaken_b4 hC hN hT hmc hms hD (X10_isTaken_L4  n) ih v0 v1 v2 h
set_option maxHeartbeats 4000000 in
set_option maxRecDepth 100000 in
theorem t_X10_isTaken (p0 : Nat) (h : KH) : kM yX10_isTaken cX10_isTaken 5 (some .boolean) 0 0 0 (fun x : Int32 => some (.inl x)) [.inr (.inr (some p0))] h (f_X10_isTaken p0 h) := by
  refine kM_of RX10 (by decide) rfl (Nat.le_of_ble_eq_true rfl) [(0, .inr (.inr (some p0)))] rfl (fun X hC hN hT hmc hms hD => ?_)
  unfold f_X10_isTaken
  refine kj_iconst (v := 0) hC dX10_isTaken_0 (by decide) ?_
  refine kj_istoren (L' := [(1, .inl 0), (0, .inr (.inr (some p0)))]) hC dX10_isTaken_1 rfl (by decide) rfl ?_
  refine kj_iconst (v := 0) hC dX10_isTaken_2 (by decide) ?_
  refine kj_istoren (L' := [(2, .inl 0), (1, .inl 0), (0, .inr (.inr (some p0)))]) hC dX10_isTaken_3 rfl (by decide) rfl ?_
  exact kj_sub [2, 1, 0] rfl (t_X10_isTaken_L4 hC hN hT hmc hms hD  kF p0 0 0 h)
set_option maxHeartbeats 4000000 in
set_option maxRecDepth 100000 in
theorem t_X10_isPlain_b43 {X : KX} (hC : kC X RX10 cX10_isPlain 3 (some .boolean)) (hN : (xme X).name = yX10_isPlain.name) (hT : kT0 X) (hmc : xmc X = 0) (hms : xms X = 0) (hD : xD X = 0) (rc15 : Nat → Int32 → Int32 → KH → KO Int32) (hr15 : ∀ (v0 : Nat) (v1 : Int32) (v2 : Int32) (h : KH), kJ X (fun x : Int32 => some (.inl x)) 3 0 0 [(0, .inr (.inr (some v0))), (1, .inl v1), (2, .inl v2)] [] 15 h (rc15 v0 v1 v2 h)) (v0 : Nat) (v2 : Int32) (s0 : Int32) (h : KH) : kJ X (fun x : Int32 => some (.inl x)) 3 0 0 [(0, .inr (.inr (some v0))), (2, .inl v2)] [.inl s0] 43 h (X10_isPlain_b43 rc15 v0 v2 s0 h) := by
  unfold X10_isPlain_b43
  refine kj_istoren (L' := [(1, .inl s0), (0, .inr (.inr (some v0))), (2, .inl v2)]) hC dX10_isPlain_43 rfl (by decide) rfl ?_
  refine kj_iinc (v := v2 + 1) (L' := [(2, .inl (v2 + 1)), (1, .inl s0), (0, .inr (.inr (some v0)))]) hC 2 dX10_isPlain_44 rfl rfl (by decide) rfl ?_
  refine kj_goto (tgt := 15) hC dX10_isPlain_47 (by decide) ?_
  exact kj_sub [2, 1, 0] rfl (hr15 v0 s0 (v2 + 1) h)
set_option maxHeartbeats 4000000 in
set_option maxRecDepth 100000 in
theorem t_X10_isPlain_b42 {X : KX} (hC : kC X RX10 cX10_isPlain 3 (some .boolean)) (hN : (xme X).name = yX10_isPlain.name) (hT : kT0 X) (hmc : xmc X = 0) (hms : xms X = 0) (hD : xD X = 0) (rc15 : Nat → Int32 → Int32 → KH → KO Int32) (hr15 : ∀ (v0 : Nat) (v1 : Int32) (v2 : Int32) (h : KH), kJ X (fun x : Int32 => some (.inl x)) 3 0 0 [(0, .inr (.inr (some v0))), (1, .inl v1), (2, .inl v2)] [] 15 h (rc15 v0 v1 v2 h)) (v0 : Nat) (v2 : Int32) (h : KH) : kJ X (fun x : Int32 => some (.inl x)) 3 0 0 [(0, .inr (.inr (some v0))), (2, .inl v2)] [] 42 h (X10_isPlain_b42 rc15 v0 v2 h) := by
  unfold X10_isPlain_b42
  refine kj_iconst (v := 0) hC dX10_isPlain_42 (by decide) ?_
  exact kj_sub [0, 1] rfl (t_X10_isPlain_b43 hC hN hT hmc hms hD rc15 hr15 v0 v2 0 h)
set_option maxHeartbeats 4000000 in
set_option maxRecDepth 100000 in
theorem t_X10_isPlain_b15 {X : KX} (hC : kC X RX10 cX10_isPlain 3 (some .boolean)) (hN : (xme X).name = yX10_isPlain.name) (hT : kT0 X) (hmc : xmc X = 0) (hms : xms X = 0) (hD : xD X = 0) (rc15 : Nat → Int32 → Int32 → KH → KO Int32) (hr15 : ∀ (v0 : Nat) (v1 : Int32) (v2 : Int32) (h : KH), kJ X (fun x : Int32 => some (.inl x)) 3 0 0 [(0, .inr (.inr (some v0))), (1, .inl v1), (2, .inl v2)] [] 15 h (rc15 v0 v1 v2 h)) (v0 : Nat) (v1 : Int32) (v2 : Int32) (h : KH) : kJ X (fun x : Int32 => some (.inl x)) 3 0 0 [(0, .inr (.inr (some v0))), (1, .inl v1), (2, .inl v2)] [] 15 h (X10_isPlain_b15 rc15 v0 v1 v2 h) := by
  unfold X10_isPlain_b15
  refine kj_iloadn hC 2 dX10_isPlain_15 rfl rfl ?_
  refine kj_aloadn hC 0 dX10_isPlain_16 rfl rfl ?_
  refine kj_gI (ci := 10) (k := 5) hC dX10_isPlain_17 kf_X10_124 rfl (fun x1 => ?_)
  refine kj_icmp_ge (tgt := 50) hC dX10_isPlain_20 (by decide) (fun q1 => ?_) (fun q1 => ?_)
  · refine kj_iloadn hC 1 dX10_isPlain_50 rfl rfl ?_
    refine kj_fin hmc hms ?_
    exact kj_zreturn hC dX10_isPlain_51
  · refine kj_iloadn hC 1 dX10_isPlain_23 rfl rfl ?_
    refine kj_if_eq (tgt := 42) hC dX10_isPlain_24 (by decide) (fun q2 => ?_) (fun q2 => ?_)
    · exact kj_sub [0, 2] rfl (t_X10_isPlain_b42 hC hN hT hmc hms hD rc15 hr15 v0 v2 h)
    · refine kj_aloadn hC 0 dX10_isPlain_27 rfl rfl ?_
      refine kj_gN (ci := 10) (k := 6) hC dX10_isPlain_28 kf_X10_23 rfl (fun a1 => ?_)
      refine kj_iloadn hC 2 dX10_isPlain_31 rfl rfl ?_
      refine kj_gAI hC dX10_isPlain_32 (fun x2 => ?_)
      refine kj_bipush (v := 14) hC dX10_isPlain_33 (by decide) ?_
      refine kj_icmp_eq (tgt := 42) hC dX10_isPlain_35 (by decide) (fun q3 => ?_) (fun q3 => ?_)
      · exact kj_sub [0, 2] rfl (t_X10_isPlain_b42 hC hN hT hmc hms hD rc15 hr15 v0 v2 h)
      · refine kj_iconst (v := 1) hC dX10_isPlain_38 (by decide) ?_
        refine kj_goto (tgt := 43) hC dX10_isPlain_39 (by decide) ?_
        exact kj_sub [0, 2] rfl (t_X10_isPlain_b43 hC hN hT hmc hms hD rc15 hr15 v0 v2 1 h)
set_option maxHeartbeats 4000000 in
set_option maxRecDepth 100000 in
theorem t_X10_isPlain_L15 {X : KX} (hC : kC X RX10 cX10_isPlain 3 (some .boolean)) (hN : (xme X).name = yX10_isPlain.name) (hT : kT0 X) (hmc : xmc X = 0) (hms : xms X = 0) (hD : xD X = 0) : ∀ (n : Nat) (v0 : Nat) (v1 : Int32) (v2 : Int32) (h : KH), kJ X (fun x : Int32 => some (.inl x)) 3 0 0 [(0, .inr (.inr (some v0))), (1, .inl v1), (2, .inl v2)] [] 15 h (X10_isPlain_L15  n v0 v1 v2 h) := by
  intro n
  induction n with
  | zero => intro v0 v1 v2 h; exact kj_none
  | succ n ih => intro v0 v1 v2 h; exact t_X10_isPlain_b15 hC hN hT hmc hms hD (X10_isPlain_L15  n) ih v0 v1 v2 h
set_option maxHeartbeats 4000000 in
set_option maxRecDepth 100000 in
theorem t_X10_isPlain_b12 {X : KX} (hC : kC X RX10 cX10_isPlain 3 (some .boolean)) (hN : (xme X).name = yX10_isPlain.name) (hT : kT0 X) (hmc : xmc X = 0) (hms : xms X = 0) (hD : xD X = 0) (v0 : Nat) (s0 : Int32) (h : KH) : kJ X (fun x : Int32 => some (.inl x)) 3 0 0 [(0, .inr (.inr (some v0)))] [.inl s0] 12 h (X10_isPlain_b12  v0 s0 h) := by
  unfold X10_isPlain_b12
  refine kj_istoren (L' := [(1, .inl s0), (0, .inr (.inr (some v0)))]) hC dX10_isPlain_12 rfl (by decide) rfl ?_
  refine kj_iconst (v := 0) hC dX10_isPlain_13 (by decide) ?_
  refine kj_istoren (L' := [(2, .inl 0), (1, .inl s0), (0, .inr (.inr (some v0)))]) hC dX10_isPlain_14 rfl (by decide) rfl ?_
  exact kj_sub [2, 1, 0] rfl (t_X10_isPlain_L15 hC hN hT hmc hms hD  kF v0 s0 0 h)
set_option maxHeartbeats 4000000 in
set_option maxRecDepth 100000 in
theorem t_X10_isPlain (p0 : Nat) (h : KH) : kM yX10_isPlain cX10_isPlain 3 (some .boolean) 0 0 0 (fun x : Int32 => some (.inl x)) [.inr (.inr (some p0))] h (f_X10_isPlain p0 h) := by
  refine kM_of RX10 (by decide) rfl (Nat.le_of_ble_eq_true rfl) [(0, .inr (.inr (some p0)))] rfl (fun X hC hN hT hmc hms hD => ?_)
  unfold f_X10_isPlain
  refine kj_aloadn hC 0 dX10_isPlain_0 rfl rfl ?_
  refine kj_gI (ci := 10) (k := 5) hC dX10_isPlain_1 kf_X10_124 rfl (fun x1 => ?_)
  refine kj_if_le (tgt := 11) hC dX10_isPlain_4 (by decide) (fun q1 => ?_) (fun q1 => ?_)
  · refine kj_iconst (v := 0) hC dX10_isPlain_11 (by decide) ?_
    exact kj_sub [0] rfl (t_X10_isPlain_b12 hC hN hT hmc hms hD  p0 0 h)
  · refine kj_iconst (v := 1) hC dX10_isPlain_7 (by decide) ?_
    refine kj_goto (tgt := 12) hC dX10_isPlain_8 (by decide) ?_
    exact kj_sub [0] rfl (t_X10_isPlain_b12 hC hN hT hmc hms hD  p0 1 h)
set_option maxHeartbeats 4000000 in
set_option maxRecDepth 100000 in
theorem t_X10_holds (p0 : Nat) (p1 : Int32) (p2 : Int32) (h : KH) : kM yX10_holds cX10_holds 3 none 0 0 0 (fun _ : Unit => none) [.inr (.inr (some p0)), .inl p1, .inl p2] h (f_X10_holds p0 p1 p2 h) := by
  refine kM_of RX10 (by decide) rfl (Nat.le_of_ble_eq_true rfl) [(0, .inr (.inr (some p0))), (1, .inl p1), (2, .inl p2)] rfl (fun X hC hN hT hmc hms hD => ?_)
  unfold f_X10_holds
  refine kj_aloadn hC 0 dX10_holds_0 rfl rfl ?_
  refine kj_gN (ci := 10) (k := 13) hC dX10_holds_1 kf_X10_39 rfl (fun a1 => ?_)
  refine kj_aloadn hC 0 dX10_holds_4 rfl rfl ?_
  refine kj_gI (ci := 10) (k := 12) hC dX10_holds_5 kf_X10_143 rfl (fun x1 => ?_)
  refine kj_iloadn hC 1 dX10_holds_8 rfl rfl ?_
  refine kj_pAI hC dX10_holds_9 (fun h1 => ?_)
  refine kj_aloadn hC 0 dX10_holds_10 rfl rfl ?_
  refine kj_gN (ci := 10) (k := 14) hC dX10_holds_11 kf_X10_42 rfl (fun a2 => ?_)
  refine kj_aloadn hC 0 dX10_holds_14 rfl rfl ?_
  refine kj_gI (ci := 10) (k := 12) hC dX10_holds_15 kf_X10_143 rfl (fun x2 => ?_)
  refine kj_iloadn hC 2 dX10_holds_18 rfl rfl ?_
  refine kj_pAI hC dX10_holds_19 (fun h2 => ?_)
  refine kj_aloadn hC 0 dX10_holds_20 rfl rfl ?_
  refine kj_gN (ci := 10) (k := 15) hC dX10_holds_21 kf_X10_45 rfl (fun a3 => ?_)
  refine kj_aloadn hC 0 dX10_holds_24 rfl rfl ?_
  refine kj_gI (ci := 10) (k := 12) hC dX10_holds_25 kf_X10_143 rfl (fun x3 => ?_)
  refine kj_aloadn hC 0 dX10_holds_28 rfl rfl ?_
  refine kj_gI (ci := 10) (k := 0) hC dX10_holds_29 kf_X10_113 rfl (fun x4 => ?_)
  refine kj_pAI hC dX10_holds_32 (fun h3 => ?_)
  refine kj_aloadn hC 0 dX10_holds_33 rfl rfl ?_
  refine kj_dup hC dX10_holds_34 rfl ?_
  refine kj_gI (ci := 10) (k := 12) hC dX10_holds_35 kf_X10_143 rfl (fun x5 => ?_)
  refine kj_iconst (v := 1) hC dX10_holds_38 (by decide) ?_
  refine kj_iadd hC dX10_holds_39 ?_
  refine kj_pI (ci := 10) (k := 12) hC dX10_holds_40 kf_X10_143 (Or.inl (kNF_of (by decide))) rfl ⟨rfl, rfl⟩ (fun h4 => ?_)
  refine kj_fin hmc hms ?_
  exact kj_return hC dX10_holds_43
set_option maxHeartbeats 4000000 in
set_option maxRecDepth 100000 in
theorem t_X10_register_b83 {X : KX} (hC : kC X RX10 cX10_register 6 (some .int)) (hN : (xme X).name = yX10_register.name) (hT : kT0 X) (hmc : xmc X = 0) (hms : xms X = 0) (hD : xD X = 2) (rc83 : Nat → Int32 → Int32 → Int32 → KH → KO Int32) (hr83 : ∀ (v0 : Nat) (v1 : Int32) (v2 : Int32) (v5 : Int32) (h : KH), kJ X (fun x : Int32 => some (.inl x)) 6 0 0 [(0, .inr (.inr (some v0))), (1, .inl v1), (2, .inl v2), (5, .inl v5)] [] 83 h (rc83 v0 v1 v2 v5 h)) (v0 : Nat) (v1 : Int32) (v2 : Int32) (v5 : Int32) (h : KH) : kJ X (fun x : Int32 => some (.inl x)) 6 0 0 [(0, .inr (.inr (some v0))), (1, .inl v1), (2, .inl v2), (5, .inl v5)] [] 83 h (X10_register_b83 rc83 v0 v1 v2 v5 h) := by
  unfold X10_register_b83
  refine kj_iload hC 3 dX10_register_83 rfl ?_
  refine kj_aloadn hC 0 dX10_register_85 rfl rfl ?_
  refine kj_gI (ci := 10) (k := 5) hC dX10_register_86 kf_X10_124 rfl (fun x1 => ?_)
  refine kj_icmp_ge (tgt := 120) hC dX10_register_89 (by decide) (fun q1 => ?_) (fun q1 => ?_)
  · refine kj_aloadn hC 0 dX10_register_120 rfl rfl ?_
    refine kj_gN (ci := 10) (k := 11) hC dX10_register_121 kf_X10_36 rfl (fun a1 => ?_)
    refine kj_aloadn hC 0 dX10_register_124 rfl rfl ?_
    refine kj_gI (ci := 10) (k := 8) hC dX10_register_125 kf_X10_107 rfl (fun x2 => ?_)
    refine kj_iloadn hC 2 dX10_register_128 rfl rfl ?_
    refine kj_pAI hC dX10_register_129 (fun h1 => ?_)
    refine kj_aloadn hC 0 dX10_register_130 rfl rfl ?_
    refine kj_aloadn hC 0 dX10_register_131 rfl rfl ?_
    refine kj_gI (ci := 10) (k := 8) hC dX10_register_132 kf_X10_107 rfl (fun x3 => ?_)
    refine kj_iloadn hC 1 dX10_register_135 rfl rfl ?_
    refine kj_invV (ci := 10) (q := (RX10, TX10, 36)) (as := [.inl x3, .inl v1]) (rest := []) hC hT dX10_register_136 kw1171 ky_X10_holds ky2_X10_holds rfl rfl (t_X10_holds v0 x3 v1 h1) rfl rfl (Nat.le_of_ble_eq_true rfl) ⟨by rw [hD]; decide, by decide⟩ ⟨by rw [hmc]; exact Nat.le_of_ble_eq_true rfl, by rw [hms]; exact Nat.le_of_ble_eq_true rfl⟩ (fun _ h2 => ?_)
    refine kj_norm (st' := []) (c' := 0) (z' := 0) rfl rfl rfl ?_
    refine kj_aloadn hC 0 dX10_register_139 rfl rfl ?_
    refine kj_dup hC dX10_register_140 rfl ?_
    refine kj_gI (ci := 10) (k := 8) hC dX10_register_141 kf_X10_107 rfl (fun x4 => ?_)
    refine kj_iconst (v := 1) hC dX10_register_144 (by decide) ?_
    refine kj_iadd hC dX10_register_145 ?_
    refine kj_pI (ci := 10) (k := 8) hC dX10_register_146 kf_X10_107 (Or.inl (kNF_of (by decide))) rfl ⟨rfl, rfl⟩ (fun h3 => ?_)
    refine kj_aloadn hC 0 dX10_register_149 rfl rfl ?_
    refine kj_gI (ci := 10) (k := 8) hC dX10_register_150 kf_X10_107 rfl (fun x5 => ?_)
    refine kj_iconst (v := 1) hC dX10_register_153 (by decide) ?_
    refine kj_isub hC dX10_register_154 ?_
    refine kj_fin hmc hms ?_
    exact kj_ireturn hC dX10_register_155
  · refine kj_aloadn hC 0 dX10_register_92 rfl rfl ?_
    refine kj_gN (ci := 10) (k := 10) hC dX10_register_93 kf_X10_33 rfl (fun a2 => ?_)
    refine kj_bipush (v := 6) hC dX10_register_96 (by decide) ?_
    refine kj_aloadn hC 0 dX10_register_98 rfl rfl ?_
    refine kj_gI (ci := 10) (k := 8) hC dX10_register_99 kf_X10_107 rfl (fun x6 => ?_)
    refine kj_imul hC dX10_register_102 ?_
    refine kj_iload hC 3 dX10_register_103 rfl ?_
    refine kj_iadd hC dX10_register_105 ?_
    refine kj_aloadn hC 0 dX10_register_106 rfl rfl ?_
    refine kj_gN (ci := 10) (k := 6) hC dX10_register_107 kf_X10_23 rfl (fun a3 => ?_)
    refine kj_iload hC 3 dX10_register_110 rfl ?_
    refine kj_gAI hC dX10_register_112 (fun x7 => ?_)
    refine kj_pAI hC dX10_register_113 (fun h4 => ?_)
    refine kj_iinc (v := v5 + 1) (L' := [(5, .inl (v5 + 1)), (0, .inr (.inr (some v0))), (1, .inl v1), (2, .inl v2)]) hC 3 dX10_register_114 rfl rfl (by decide) rfl ?_
    refine kj_goto (tgt := 83) hC dX10_register_117 (by decide) ?_
    exact kj_sub [1, 2, 3, 0] rfl (hr83 v0 v1 v2 (v5 + 1) h4)
set_option maxHeartbeats 4000000 in
set_option maxRecDepth 100000 in
theorem t_X10_register_L83 {X : KX} (hC : kC X RX10 cX10_register 6 (some .int)) (hN : (xme X).name = yX10_register.name) (hT : kT0 X) (hmc : xmc X = 0) (hms : xms X = 0) (hD : xD X = 2) : ∀ (n : Nat) (v0 : Nat) (v1 : Int32) (v2 : Int32) (v5 : Int32) (h : KH), kJ X (fun x : Int32 => some (.inl x)) 6 0 0 [(0, .inr (.inr (some v0))), (1, .inl v1), (2, .inl v2), (5, .inl v5)] [] 83 h (X10_register_L83  n v0 v1 v2 v5 h) := by
  intro n
  induction n with
  | zero => intro v0 v1 v2 v5 h; exact kj_none
  | succ n ih => intro v0 v1 v2 v5 h; exact t_X10_register_b83 hC hN hT hmc hms hD (X10_register_L83  n) ih v0 v1 v2 v5 h
set_option maxHeartbeats 4000000 in
set_option maxRecDepth 100000 in
theorem t_X10_register_b59 {X : KX} (hC : kC X RX10 cX10_register 6 (some .int)) (hN : (xme X).name = yX10_register.name) (hT : kT0 X) (hmc : xmc X = 0) (hms : xms X = 0) (hD : xD X = 2) (v0 : Nat) (v1 : Int32) (v2 : Int32) (s0 : Int32) (s1 : Nat) (h : KH) : kJ X (fun x : Int32 => some (.inl x)) 6 0 0 [(0, .inr (.inr (some v0))), (1, .inl v1), (2, .inl v2)] [.inl s0, .inr (.inr (some s1))] 59 h (X10_register_b59  v0 v1 v2 s0 s1 h) := by
  unfold X10_register_b59
  refine kj_invV (ci := 10) (q := (RX10, TX10, 36)) (as := [.inl s0]) (rest := []) hC hT dX10_register_59 kw1089 ky_X10_can ky2_X10_can rfl rfl (t_X10_can s1 s0 h) rfl rfl (Nat.le_of_ble_eq_true rfl) ⟨by rw [hD]; decide, by decide⟩ ⟨by rw [hmc]; exact Nat.le_of_ble_eq_true rfl, by rw [hms]; exact Nat.le_of_ble_eq_true rfl⟩ (fun x1 h1 => ?_)
  refine kj_norm (st' := [.inl x1]) (c' := 0) (z' := 0) rfl rfl rfl ?_
  refine kj_if_ne (tgt := 67) hC dX10_register_62 (by decide) (fun q1 => ?_) (fun q1 => ?_)
  · refine kj_iconst (v := 0) hC dX10_register_65 (by decide) ?_
    refine kj_fin hmc hms ?_
    exact kj_ireturn hC dX10_register_66
  · refine kj_aloadn hC 0 dX10_register_67 rfl rfl ?_
    refine kj_gN (ci := 10) (k := 9) hC dX10_register_68 kf_X10_30 rfl (fun a1 => ?_)
    refine kj_aloadn hC 0 dX10_register_71 rfl rfl ?_
    refine kj_gI (ci := 10) (k := 8) hC dX10_register_72 kf_X10_107 rfl (fun x2 => ?_)
    refine kj_aloadn hC 0 dX10_register_75 rfl rfl ?_
    refine kj_gI (ci := 10) (k := 5) hC dX10_register_76 kf_X10_124 rfl (fun x3 => ?_)
    refine kj_pAI hC dX10_register_79 (fun h2 => ?_)
    refine kj_iconst (v := 0) hC dX10_register_80 (by decide) ?_
    refine kj_istore (L' := [(5, .inl 0), (0, .inr (.inr (some v0))), (1, .inl v1), (2, .inl v2)]) hC dX10_register_81 (by decide) rfl ?_
    exact kj_sub [1, 2, 3, 0] rfl (t_X10_register_L83 hC hN hT hmc hms hD  kF v0 v1 v2 0 h2)
set_option maxHeartbeats 4000000 in
set_option maxRecDepth 100000 in
theorem t_X10_register_b54 {X : KX} (hC : kC X RX10 cX10_register 6 (some .int)) (hN : (xme X).name = yX10_register.name) (hT : kT0 X) (hmc : xmc X = 0) (hms : xms X = 0) (hD : xD X = 2) (v0 : Nat) (v1 : Int32) (v2 : Int32) (s0 : Nat) (h : KH) : kJ X (fun x : Int32 => some (.inl x)) 6 0 0 [(0, .inr (.inr (some v0))), (1, .inl v1), (2, .inl v2)] [.inr (.inr (some s0))] 54 h (X10_register_b54  v0 v1 v2 s0 h) := by
  unfold X10_register_b54
  refine kj_iconst (v := 3) hC dX10_register_54 (by decide) ?_
  refine kj_goto (tgt := 59) hC dX10_register_55 (by decide) ?_
  exact kj_sub [0, 1, 2] rfl (t_X10_register_b59 hC hN hT hmc hms hD  v0 v1 v2 3 s0 h)
set_option maxHeartbeats 4000000 in
set_option maxRecDepth 100000 in
theorem t_X10_register (p0 : Nat) (p1 : Int32) (p2 : Int32) (h : KH) : kM yX10_register cX10_register 6 (some .int) 2 0 0 (fun x : Int32 => some (.inl x)) [.inr (.inr (some p0)), .inl p1, .inl p2] h (f_X10_register p0 p1 p2 h) := by
  refine kM_of RX10 (by decide) rfl (Nat.le_of_ble_eq_true rfl) [(0, .inr (.inr (some p0))), (1, .inl p1), (2, .inl p2)] rfl (fun X hC hN hT hmc hms hD => ?_)
  unfold f_X10_register
  refine kj_iloadn hC 1 dX10_register_0 rfl rfl ?_
  refine kj_invS (as := [.inl p1]) (rest := []) hC hT dX10_register_1 kw1160 ky_X10_isDriver ky2_X10_isDriver (t_X10_isDriver p1 h) rfl rfl (Nat.le_of_ble_eq_true rfl) ⟨by rw [hD]; decide, by decide⟩ ⟨by rw [hmc]; exact Nat.le_of_ble_eq_true rfl, by rw [hms]; exact Nat.le_of_ble_eq_true rfl⟩ (fun x1 h1 => ?_)
  refine kj_norm (st' := [.inl x1]) (c' := 0) (z' := 0) rfl rfl rfl ?_
  refine kj_istoren (L' := [(3, .inl x1), (0, .inr (.inr (some p0))), (1, .inl p1), (2, .inl p2)]) hC dX10_register_4 rfl (by decide) rfl ?_
  refine kj_iloadn hC 3 dX10_register_5 rfl rfl ?_
  refine kj_iconst (v := 0) hC dX10_register_6 (by decide) ?_
  refine kj_iconst (v := 3) hC dX10_register_7 (by decide) ?_
  refine kj_invS (as := [.inl p2, .inl 0, .inl 3]) (rest := []) hC hT dX10_register_8 kw1085 ky_X10_isIn ky2_X10_isIn (t_X10_isIn p2 0 3 h1) rfl rfl (Nat.le_of_ble_eq_true rfl) ⟨by rw [hD]; decide, by decide⟩ ⟨by rw [hmc]; exact Nat.le_of_ble_eq_true rfl, by rw [hms]; exact Nat.le_of_ble_eq_true rfl⟩ (fun x2 h2 => ?_)
  refine kj_norm (st' := [.inl x2]) (c' := 0) (z' := 0) rfl rfl rfl ?_
  refine kj_istore (L' := [(4, .inl x2), (3, .inl x1), (0, .inr (.inr (some p0))), (1, .inl p1), (2, .inl p2)]) hC dX10_register_11 (by decide) rfl ?_
  refine kj_aloadn hC 2 dX10_register_13 rfl rfl ?_
  refine kj_iloadn hC 1 dX10_register_14 rfl rfl ?_
  refine kj_if_ne (tgt := 22) hC dX10_register_15 (by decide) (fun q1 => ?_) (fun q1 => ?_)
  · refine kj_iconst (v := 1) hC dX10_register_18 (by decide) ?_
    refine kj_goto (tgt := 59) hC dX10_register_19 (by decide) ?_
    exact kj_sub [2, 3, 4] rfl (t_X10_register_b59 hC hN hT hmc hms hD  p0 p1 p2 1 p0 h2)
  · refine kj_iload hC 0 dX10_register_22 rfl ?_
    refine kj_if_ne (tgt := 31) hC dX10_register_24 (by decide) (fun q2 => ?_) (fun q2 => ?_)
    · refine kj_iconst (v := 2) hC dX10_register_27 (by decide) ?_
      refine kj_goto (tgt := 59) hC dX10_register_28 (by decide) ?_
      exact kj_sub [2, 3, 4] rfl (t_X10_register_b59 hC hN hT hmc hms hD  p0 p1 p2 2 p0 h2)
    · refine kj_aloadn hC 2 dX10_register_31 rfl rfl ?_
      refine kj_invV (ci := 10) (q := (RX10, TX10, 36)) (as := []) (rest := [.inr (.inr (some p0))]) hC hT dX10_register_32 kw1163 ky_X10_isPlain ky2_X10_isPlain rfl rfl (t_X10_isPlain p0 h2) rfl rfl (Nat.le_of_ble_eq_true rfl) ⟨by rw [hD]; decide, by decide⟩ ⟨by rw [hmc]; exact Nat.le_of_ble_eq_true rfl, by rw [hms]; exact Nat.le_of_ble_eq_true rfl⟩ (fun x3 h3 => ?_)
      refine kj_norm (st' := [.inl x3, .inr (.inr (some p0))]) (c' := 0) (z' := 0) rfl rfl rfl ?_
      refine kj_if_eq (tgt := 54) hC dX10_register_35 (by decide) (fun q3 => ?_) (fun q3 => ?_)
      · exact kj_sub [2, 3, 4] rfl (t_X10_register_b54 hC hN hT hmc hms hD  p0 p1 p2 p0 h3)
      · refine kj_aloadn hC 2 dX10_register_38 rfl rfl ?_
        refine kj_invV (ci := 10) (q := (RX10, TX10, 36)) (as := []) (rest := [.inr (.inr (some p0))]) hC hT dX10_register_39 kw1167 ky_X10_isTaken ky2_X10_isTaken rfl rfl (t_X10_isTaken p0 h3) rfl rfl (Nat.le_of_ble_eq_true rfl) ⟨by rw [hD]; decide, by decide⟩ ⟨by rw [hmc]; exact Nat.le_of_ble_eq_true rfl, by rw [hms]; exact Nat.le_of_ble_eq_true rfl⟩ (fun x4 h4 => ?_)
        refine kj_norm (st' := [.inl x4, .inr (.inr (some p0))]) (c' := 0) (z' := 0) rfl rfl rfl ?_
        refine kj_if_ne (tgt := 54) hC dX10_register_42 (by decide) (fun q4 => ?_) (fun q4 => ?_)
        · refine kj_aloadn hC 2 dX10_register_45 rfl rfl ?_
          refine kj_gI (ci := 10) (k := 8) hC dX10_register_46 kf_X10_107 rfl (fun x5 => ?_)
          refine kj_bipush (v := 10) hC dX10_register_49 (by decide) ?_
          refine kj_icmp_ne (tgt := 58) hC dX10_register_51 (by decide) (fun q5 => ?_) (fun q5 => ?_)
          · exact kj_sub [2, 3, 4] rfl (t_X10_register_b54 hC hN hT hmc hms hD  p0 p1 p2 p0 h4)
          · refine kj_iconst (v := 0) hC dX10_register_58 (by decide) ?_
            exact kj_sub [2, 3, 4] rfl (t_X10_register_b59 hC hN hT hmc hms hD  p0 p1 p2 0 p0 h4)
        · exact kj_sub [2, 3, 4] rfl (t_X10_register_b54 hC hN hT hmc hms hD  p0 p1 p2 p0 h4)
set_option maxHeartbeats 4000000 in
set_option maxRecDepth 100000 in
theorem t_X10_holderAt_b47 {X : KX} (hC : kC X RX10 cX10_holderAt 5 (some .int)) (hN : (xme X).name = yX10_holderAt.name) (hT : kT0 X) (hmc : xmc X = 0) (hms : xms X = 0) (hD : xD X = 0) (rc5 : Nat → Int32 → Int32 → Int32 → Int32 → KH → KO Int32) (hr5 : ∀ (v0 : Nat) (v1 : Int32) (v2 : Int32) (v3 : Int32) (v4 : Int32) (h : KH), kJ X (fun x : Int32 => some (.inl x)) 5 0 0 [(0, .inr (.inr (some v0))), (1, .inl v1), (2, .inl v2), (3, .inl v3), (4, .inl v4)] [] 5 h (rc5 v0 v1 v2 v3 v4 h)) (v0 : Nat) (v1 : Int32) (v2 : Int32) (v4 : Int32) (s0 : Int32) (h : KH) : kJ X (fun x : Int32 => some (.inl x)) 5 0 0 [(0, .inr (.inr (some v0))), (1, .inl v1), (2, .inl v2), (4, .inl v4)] [.inl s0] 47 h (X10_holderAt_b47 rc5 v0 v1 v2 v4 s0 h) := by
  unfold X10_holderAt_b47
  refine kj_istoren (L' := [(3, .inl s0), (0, .inr (.inr (some v0))), (1, .inl v1), (2, .inl v2), (4, .inl v4)]) hC dX10_holderAt_47 rfl (by decide) rfl ?_
  refine kj_iinc (v := v4 + 1) (L' := [(4, .inl (v4 + 1)), (3, .inl s0), (0, .inr (.inr (some v0))), (1, .inl v1), (2, .inl v2)]) hC 4 dX10_holderAt_48 rfl rfl (by decide) rfl ?_
  refine kj_goto (tgt := 5) hC dX10_holderAt_51 (by decide) ?_
  exact kj_sub [2, 3, 4, 1, 0] rfl (hr5 v0 v1 v2 s0 (v4 + 1) h)
set_option maxHeartbeats 4000000 in
set_option maxRecDepth 100000 in
theorem t_X10_holderAt_b46 {X : KX} (hC : kC X RX10 cX10_holderAt 5 (some .int)) (hN : (xme X).name = yX10_holderAt.name) (hT : kT0 X) (hmc : xmc X = 0) (hms : xms X = 0) (hD : xD X = 0) (rc5 : Nat → Int32 → Int32 → Int32 → Int32 → KH → KO Int32) (hr5 : ∀ (v0 : Nat) (v1 : Int32) (v2 : Int32) (v3 : Int32) (v4 : Int32) (h : KH), kJ X (fun x : Int32 => some (.inl x)) 5 0 0 [(0, .inr (.inr (some v0))), (1, .inl v1), (2, .inl v2), (3, .inl v3), (4, .inl v4)] [] 5 h (rc5 v0 v1 v2 v3 v4 h)) (v0 : Nat) (v1 : Int32) (v2 : Int32) (v3 : Int32) (v4 : Int32) (h : KH) : kJ X (fun x : Int32 => some (.inl x)) 5 0 0 [(0, .inr (.inr (some v0))), (1, .inl v1), (2, .inl v2), (3, .inl v3), (4, .inl v4)] [] 46 h (X10_holderAt_b46 rc5 v0 v1 v2 v3 v4 h) := by
  unfold X10_holderAt_b46
  refine kj_iloadn hC 3 dX10_holderAt_46 rfl rfl ?_
  exact kj_sub [0, 1, 2, 4] rfl (t_X10_holderAt_b47 hC hN hT hmc hms hD rc5 hr5 v0 v1 v2 v4 v3 h)
set_option maxHeartbeats 4000000 in
set_option maxRecDepth 100000 in
theorem t_X10_holderAt_b5 {X : KX} (hC : kC X RX10 cX10_holderAt 5 (some .int)) (hN : (xme X).name = yX10_holderAt.name) (hT : kT0 X) (hmc : xmc X = 0) (hms : xms X = 0) (hD : xD X = 0) (rc5 : Nat → Int32 → Int32 → Int32 → Int32 → KH → KO Int32) (hr5 : ∀ (v0 : Nat) (v1 : Int32) (v2 : Int32) (v3 : Int32) (v4 : Int32) (h : KH), kJ X (fun x : Int32 => some (.inl x)) 5 0 0 [(0, .inr (.inr (some v0))), (1, .inl v1), (2, .inl v2), (3, .inl v3), (4, .inl v4)] [] 5 h (rc5 v0 v1 v2 v3 v4 h)) (v0 : Nat) (v1 : Int32) (v2 : Int32) (v3 : Int32) (v4 : Int32) (h : KH) : kJ X (fun x : Int32 => some (.inl x)) 5 0 0 [(0, .inr (.inr (some v0))), (1, .inl v1), (2, .inl v2), (3, .inl v3), (4, .inl v4)] [] 5 h (X10_holderAt_b5 rc5 v0 v1 v2 v3 v4 h) := by
  unfold X10_holderAt_b5
  refine kj_iload hC 4 dX10_holderAt_5 rfl ?_
  refine kj_aloadn hC 0 dX10_holderAt_7 rfl rfl ?_
  refine kj_gI (ci := 10) (k := 12) hC dX10_holderAt_8 kf_X10_143 rfl (fun x1 => ?_)
  refine kj_icmp_ge (tgt := 54) hC dX10_holderAt_11 (by decide) (fun q1 => ?_) (fun q1 => ?_)
  · refine kj_iloadn hC 3 dX10_holderAt_54 rfl rfl ?_
    refine kj_fin hmc hms ?_
    exact kj_ireturn hC dX10_holderAt_55
  · refine kj_aloadn hC 0 dX10_holderAt_14 rfl rfl ?_
    refine kj_gN (ci := 10) (k := 13) hC dX10_holderAt_15 kf_X10_39 rfl (fun a1 => ?_)
    refine kj_iload hC 4 dX10_holderAt_18 rfl ?_
    refine kj_gAI hC dX10_holderAt_20 (fun x2 => ?_)
    refine kj_iloadn hC 1 dX10_holderAt_21 rfl rfl ?_
    refine kj_icmp_ne (tgt := 46) hC dX10_holderAt_22 (by decide) (fun q2 => ?_) (fun q2 => ?_)
    · refine kj_aloadn hC 0 dX10_holderAt_25 rfl rfl ?_
      refine kj_gN (ci := 10) (k := 15) hC dX10_holderAt_26 kf_X10_45 rfl (fun a2 => ?_)
      refine kj_iload hC 4 dX10_holderAt_29 rfl ?_
      refine kj_gAI hC dX10_holderAt_31 (fun x3 => ?_)
      refine kj_iloadn hC 2 dX10_holderAt_32 rfl rfl ?_
      refine kj_icmp_gt (tgt := 46) hC dX10_holderAt_33 (by decide) (fun q3 => ?_) (fun q3 => ?_)
      · exact kj_sub [0, 1, 2, 3, 4] rfl (t_X10_holderAt_b46 hC hN hT hmc hms hD rc5 hr5 v0 v1 v2 v3 v4 h)
      · refine kj_aloadn hC 0 dX10_holderAt_36 rfl rfl ?_
        refine kj_gN (ci := 10) (k := 14) hC dX10_holderAt_37 kf_X10_42 rfl (fun a3 => ?_)
        refine kj_iload hC 4 dX10_holderAt_40 rfl ?_
        refine kj_gAI hC dX10_holderAt_42 (fun x4 => ?_)
        refine kj_goto (tgt := 47) hC dX10_holderAt_43 (by decide) ?_
        exact kj_sub [0, 1, 2, 4] rfl (t_X10_holderAt_b47 hC hN hT hmc hms hD rc5 hr5 v0 v1 v2 v4 x4 h)
    · exact kj_sub [0, 1, 2, 3, 4] rfl (t_X10_holderAt_b46 hC hN hT hmc hms hD rc5 hr5 v0 v1 v2 v3 v4 h)
set_option maxHeartbeats 4000000 in
set_option maxRecDepth 100000 in
theorem t_X10_holderAt_L5 {X : KX} (hC : kC X RX10 cX10_holderAt 5 (some .int)) (hN : (xme X).name = yX10_holderAt.name) (hT : kT0 X) (hmc : xmc X = 0) (hms : xms X = 0) (hD : xD X = 0) : ∀ (n : Nat) (v0 : Nat) (v1 : Int32) (v2 : Int32) (v3 : Int32) (v4 : Int32) (h : KH), kJ X (fun x : Int32 => some (.inl x)) 5 0 0 [(0, .inr (.inr (some v0))), (1, .inl v1), (2, .inl v2), (3, .inl v3), (4, .inl v4)] [] 5 h (X10_holderAt_L5  n v0 v1 v2 v3 v4 h) := by
  intro n
  induction n with
  | zero => intro v0 v1 v2 v3 v4 h; exact kj_none
  | succ n ih => intro v0 v1 v2 v3 v4 h; exact t_X10_holderAt_b5 hC hN hT hmc hms hD (X10_holderAt_L5  n) ih v0 v1 v2 v3 v4 h
set_option maxHeartbeats 4000000 in
set_option maxRecDepth 100000 in
theorem t_X10_holderAt (p0 : Nat) (p1 : Int32) (p2 : Int32) (h : KH) : kM yX10_holderAt cX10_holderAt 5 (some .int) 0 0 0 (fun x : Int32 => some (.inl x)) [.inr (.inr (some p0)), .inl p1, .inl p2] h (f_X10_holderAt p0 p1 p2 h) := by
  refine kM_of RX10 (by decide) rfl (Nat.le_of_ble_eq_true rfl) [(0, .inr (.inr (some p0))), (1, .inl p1), (2, .inl p2)] rfl (fun X hC hN hT hmc hms hD => ?_)
  unfold f_X10_holderAt
  refine kj_iconst (v := (-1)) hC dX10_holderAt_0 (by decide) ?_
  refine kj_istoren (L' := [(3, .inl (-1)), (0, .inr (.inr (some p0))), (1, .inl p1), (2, .inl p2)]) hC dX10_holderAt_1 rfl (by decide) rfl ?_
  refine kj_iconst (v := 0) hC dX10_holderAt_2 (by decide) ?_
  refine kj_istore (L' := [(4, .inl 0), (3, .inl (-1)), (0, .inr (.inr (some p0))), (1, .inl p1), (2, .inl p2)]) hC dX10_holderAt_3 (by decide) rfl ?_
  exact kj_sub [2, 3, 4, 1, 0] rfl (t_X10_holderAt_L5 hC hN hT hmc hms hD  kF p0 p1 p2 ((-1)) 0 h)
set_option maxHeartbeats 4000000 in
set_option maxRecDepth 100000 in
theorem t_X10_sell_b21 {X : KX} (hC : kC X RX10 cX10_sell 4 (some .int)) (hN : (xme X).name = yX10_sell.name) (hT : kT0 X) (hmc : xmc X = 0) (hms : xms X = 0) (hD : xD X = 2) (v0 : Nat) (v1 : Int32) (v2 : Int32) (s0 : Int32) (s1 : Nat) (h : KH) : kJ X (fun x : Int32 => some (.inl x)) 4 0 0 [(0, .inr (.inr (some v0))), (1, .inl v1), (2, .inl v2)] [.inl s0, .inr (.inr (some s1))] 21 h (X10_sell_b21  v0 v1 v2 s0 s1 h) := by
  unfold X10_sell_b21
  refine kj_invV (ci := 10) (q := (RX10, TX10, 36)) (as := [.inl s0]) (rest := []) hC hT dX10_sell_21 kw1089 ky_X10_can ky2_X10_can rfl rfl (t_X10_can s1 s0 h) rfl rfl (Nat.le_of_ble_eq_true rfl) ⟨by rw [hD]; decide, by decide⟩ ⟨by rw [hmc]; exact Nat.le_of_ble_eq_true rfl, by rw [hms]; exact Nat.le_of_ble_eq_true rfl⟩ (fun x1 h1 => ?_)
  refine kj_norm (st' := [.inl x1]) (c' := 0) (z' := 0) rfl rfl rfl ?_
  refine kj_if_ne (tgt := 29) hC dX10_sell_24 (by decide) (fun q1 => ?_) (fun q1 => ?_)
  · refine kj_iconst (v := 0) hC dX10_sell_27 (by decide) ?_
    refine kj_fin hmc hms ?_
    exact kj_ireturn hC dX10_sell_28
  · refine kj_aloadn hC 0 dX10_sell_29 rfl rfl ?_
    refine kj_iloadn hC 1 dX10_sell_30 rfl rfl ?_
    refine kj_aloadn hC 0 dX10_sell_31 rfl rfl ?_
    refine kj_gI (ci := 10) (k := 0) hC dX10_sell_32 kf_X10_113 rfl (fun x2 => ?_)
    refine kj_invV (ci := 10) (q := (RX10, TX10, 36)) (as := [.inl v1, .inl x2]) (rest := []) hC hT dX10_sell_35 kw1183 ky_X10_holderAt ky2_X10_holderAt rfl rfl (t_X10_holderAt v0 v1 x2 h1) rfl rfl (Nat.le_of_ble_eq_true rfl) ⟨by rw [hD]; decide, by decide⟩ ⟨by rw [hmc]; exact Nat.le_of_ble_eq_true rfl, by rw [hms]; exact Nat.le_of_ble_eq_true rfl⟩ (fun x3 h2 => ?_)
    refine kj_norm (st' := [.inl x3]) (c' := 0) (z' := 0) rfl rfl rfl ?_
    refine kj_istoren (L' := [(3, .inl x3), (0, .inr (.inr (some v0))), (1, .inl v1), (2, .inl v2)]) hC dX10_sell_38 rfl (by decide) rfl ?_
    refine kj_aloadn hC 1 dX10_sell_39 rfl rfl ?_
    refine kj_iloadn hC 2 dX10_sell_40 rfl rfl ?_
    refine kj_iloadn hC 3 dX10_sell_41 rfl rfl ?_
    refine kj_invV (ci := 10) (q := (RX10, TX10, 36)) (as := [.inl v1, .inl v2]) (rest := []) hC hT dX10_sell_42 kw1171 ky_X10_holds ky2_X10_holds rfl rfl (t_X10_holds v0 v1 v2 h2) rfl rfl (Nat.le_of_ble_eq_true rfl) ⟨by rw [hD]; decide, by decide⟩ ⟨by rw [hmc]; exact Nat.le_of_ble_eq_true rfl, by rw [hms]; exact Nat.le_of_ble_eq_true rfl⟩ (fun _ h3 => ?_)
    refine kj_norm (st' := []) (c' := 0) (z' := 0) rfl rfl rfl ?_
    refine kj_iloadn hC 0 dX10_sell_45 rfl rfl ?_
    refine kj_fin hmc hms ?_
    exact kj_ireturn hC dX10_sell_46
set_option maxHeartbeats 4000000 in
set_option maxRecDepth 100000 in
theorem t_X10_sell_b20 {X : KX} (hC : kC X RX10 cX10_sell 4 (some .int)) (hN : (xme X).name = yX10_sell.name) (hT : kT0 X) (hmc : xmc X = 0) (hms : xms X = 0) (hD : xD X = 2) (v0 : Nat) (v1 : Int32) (v2 : Int32) (s0 : Nat) (h : KH) : kJ X (fun x : Int32 => some (.inl x)) 4 0 0 [(0, .inr (.inr (some v0))), (1, .inl v1), (2, .inl v2)] [.inr (.inr (some s0))] 20 h (X10_sell_b20  v0 v1 v2 s0 h) := by
  unfold X10_sell_b20
  refine kj_iconst (v := 1) hC dX10_sell_20 (by decide) ?_
  exact kj_sub [0, 1, 2] rfl (t_X10_sell_b21 hC hN hT hmc hms hD  v0 v1 v2 1 s0 h)
set_option maxHeartbeats 4000000 in
set_option maxRecDepth 100000 in
theorem t_X10_sell (p0 : Nat) (p1 : Int32) (p2 : Int32) (h : KH) : kM yX10_sell cX10_sell 4 (some .int) 2 0 0 (fun x : Int32 => some (.inl x)) [.inr (.inr (some p0)), .inl p1, .inl p2] h (f_X10_sell p0 p1 p2 h) := by
  refine kM_of RX10 (by decide) rfl (Nat.le_of_ble_eq_true rfl) [(0, .inr (.inr (some p0))), (1, .inl p1), (2, .inl p2)] rfl (fun X hC hN hT hmc hms hD => ?_)
  unfold f_X10_sell
  refine kj_aloadn hC 0 dX10_sell_0 rfl rfl ?_
  refine kj_aloadn hC 0 dX10_sell_1 rfl rfl ?_
  refine kj_iloadn hC 1 dX10_sell_2 rfl rfl ?_
  refine kj_invV (ci := 10) (q := (RX10, TX10, 36)) (as := [.inl p1]) (rest := [.inr (.inr (some p0))]) hC hT dX10_sell_3 kw1179 ky_X10_isPlate ky2_X10_isPlate rfl rfl (t_X10_isPlate p0 p1 h) rfl rfl (Nat.le_of_ble_eq_true rfl) ⟨by rw [hD]; decide, by decide⟩ ⟨by rw [hmc]; exact Nat.le_of_ble_eq_true rfl, by rw [hms]; exact Nat.le_of_ble_eq_true rfl⟩ (fun x1 h1 => ?_)
  refine kj_norm (st' := [.inl x1, .inr (.inr (some p0))]) (c' := 0) (z' := 0) rfl rfl rfl ?_
  refine kj_if_eq (tgt := 20) hC dX10_sell_6 (by decide) (fun q1 => ?_) (fun q1 => ?_)
  · exact kj_sub [0, 1, 2] rfl (t_X10_sell_b20 hC hN hT hmc hms hD  p0 p1 p2 p0 h1)
  · refine kj_iloadn hC 2 dX10_sell_9 rfl rfl ?_
    refine kj_invS (as := [.inl p2]) (rest := [.inr (.inr (some p0))]) hC hT dX10_sell_10 kw1160 ky_X10_isDriver ky2_X10_isDriver (t_X10_isDriver p2 h1) rfl rfl (Nat.le_of_ble_eq_true rfl) ⟨by rw [hD]; decide, by decide⟩ ⟨by rw [hmc]; exact Nat.le_of_ble_eq_true rfl, by rw [hms]; exact Nat.le_of_ble_eq_true rfl⟩ (fun x2 h2 => ?_)
    refine kj_norm (st' := [.inl x2, .inr (.inr (some p0))]) (c' := 0) (z' := 0) rfl rfl rfl ?_
    refine kj_if_eq (tgt := 20) hC dX10_sell_13 (by decide) (fun q2 => ?_) (fun q2 => ?_)
    · exact kj_sub [0, 1, 2] rfl (t_X10_sell_b20 hC hN hT hmc hms hD  p0 p1 p2 p0 h2)
    · refine kj_iconst (v := 0) hC dX10_sell_16 (by decide) ?_
      refine kj_goto (tgt := 21) hC dX10_sell_17 (by decide) ?_
      exact kj_sub [0, 1, 2] rfl (t_X10_sell_b21 hC hN hT hmc hms hD  p0 p1 p2 0 p0 h2)
set_option maxHeartbeats 4000000 in
set_option maxRecDepth 100000 in
theorem t_X10_plates (p0 : Nat) (h : KH) : kM yX10_plates cX10_plates 1 (some .int) 0 0 0 (fun x : Int32 => some (.inl x)) [.inr (.inr (some p0))] h (f_X10_plates p0 h) := by
  refine kM_of RX10 (by decide) rfl (Nat.le_of_ble_eq_true rfl) [(0, .inr (.inr (some p0)))] rfl (fun X hC hN hT hmc hms hD => ?_)
  unfold f_X10_plates
  refine kj_aloadn hC 0 dX10_plates_0 rfl rfl ?_
  refine kj_iconst (v := 0) hC dX10_plates_1 (by decide) ?_
  refine kj_pI (ci := 10) (k := 35) hC dX10_plates_2 kf_X10_100 (Or.inl (kNF_of (by decide))) rfl ⟨rfl, rfl⟩ (fun h1 => ?_)
  refine kj_aloadn hC 0 dX10_plates_5 rfl rfl ?_
  refine kj_gI (ci := 10) (k := 8) hC dX10_plates_6 kf_X10_107 rfl (fun x1 => ?_)
  refine kj_fin hmc hms ?_
  exact kj_ireturn hC dX10_plates_9
set_option maxHeartbeats 4000000 in
set_option maxRecDepth 100000 in
theorem t_X10_signAt (p0 : Nat) (p1 : Int32) (p2 : Int32) (h : KH) : kM yX10_signAt cX10_signAt 3 (some .int) 0 0 0 (fun x : Int32 => some (.inl x)) [.inr (.inr (some p0)), .inl p1, .inl p2] h (f_X10_signAt p0 p1 p2 h) := by
  refine kM_of RX10 (by decide) rfl (Nat.le_of_ble_eq_true rfl) [(0, .inr (.inr (some p0))), (1, .inl p1), (2, .inl p2)] rfl (fun X hC hN hT hmc hms hD => ?_)
  unfold f_X10_signAt
  refine kj_aloadn hC 0 dX10_signAt_0 rfl rfl ?_
  refine kj_gN (ci := 10) (k := 10) hC dX10_signAt_1 kf_X10_33 rfl (fun a1 => ?_)
  refine kj_bipush (v := 6) hC dX10_signAt_4 (by decide) ?_
  refine kj_iloadn hC 1 dX10_signAt_6 rfl rfl ?_
  refine kj_imul hC dX10_signAt_7 ?_
  refine kj_aloadn hC 0 dX10_signAt_8 rfl rfl ?_
  refine kj_gN (ci := 10) (k := 9) hC dX10_signAt_9 kf_X10_30 rfl (fun a2 => ?_)
  refine kj_iloadn hC 1 dX10_signAt_12 rfl rfl ?_
  refine kj_gAI hC dX10_signAt_13 (fun x1 => ?_)
  refine kj_iadd hC dX10_signAt_14 ?_
  refine kj_iloadn hC 2 dX10_signAt_15 rfl rfl ?_
  refine kj_isub hC dX10_signAt_16 ?_
  refine kj_gAI hC dX10_signAt_17 (fun x2 => ?_)
  refine kj_fin hmc hms ?_
  exact kj_ireturn hC dX10_signAt_18
set_option maxHeartbeats 4000000 in
set_option maxRecDepth 100000 in
theorem t_X10_isAhead_b118 {X : KX} (hC : kC X RX10 cX10_isAhead 5 (some .boolean)) (hN : (xme X).name = yX10_isAhead.name) (hT : kT0 X) (hmc : xmc X = 0) (hms : xms X = 0) (hD : xD X = 1) (s0 : Int32) (h : KH) : kJ X (fun x : Int32 => some (.inl x)) 5 0 0 [] [.inl s0] 118 h (X10_isAhead_b118  s0 h) := by
  unfold X10_isAhead_b118
  refine kj_fin hmc hms ?_
  exact kj_zreturn hC dX10_isAhead_118
set_option maxHeartbeats 4000000 in
set_option maxRecDepth 100000 in
theorem t_X10_isAhead_b68 {X : KX} (hC : kC X RX10 cX10_isAhead 5 (some .boolean)) (hN : (xme X).name = yX10_isAhead.name) (hT : kT0 X) (hmc : xmc X = 0) (hms : xms X = 0) (hD : xD X = 1) (v0 : Nat) (v1 : Int32) (v2 : Int32) (v3 : Int32) (s0 : Int32) (h : KH) : kJ X (fun x : Int32 => some (.inl x)) 5 0 0 [(0, .inr (.inr (some v0))), (1, .inl v1), (2, .inl v2), (3, .inl v3)] [.inl s0] 68 h (X10_isAhead_b68  v0 v1 v2 v3 s0 h) := by
  unfold X10_isAhead_b68
  refine kj_istore (L' := [(4, .inl s0), (0, .inr (.inr (some v0))), (1, .inl v1), (2, .inl v2), (3, .inl v3)]) hC dX10_isAhead_68 (by decide) rfl ?_
  refine kj_iload hC 0 dX10_isAhead_70 rfl ?_
  refine kj_if_eq (tgt := 98) hC dX10_isAhead_72 (by decide) (fun q1 => ?_) (fun q1 => ?_)
  · refine kj_aloadn hC 1 dX10_isAhead_98 rfl rfl ?_
    refine kj_iloadn hC 2 dX10_isAhead_99 rfl rfl ?_
    refine kj_iloadn hC 4 dX10_isAhead_100 rfl rfl ?_
    refine kj_invV (ci := 10) (q := (RX10, TX10, 36)) (as := [.inl v1, .inl v3]) (rest := []) hC hT dX10_isAhead_101 kw1199 ky_X10_signAt ky2_X10_signAt rfl rfl (t_X10_signAt v0 v1 v3 h) rfl rfl (Nat.le_of_ble_eq_true rfl) ⟨by rw [hD]; decide, by decide⟩ ⟨by rw [hmc]; exact Nat.le_of_ble_eq_true rfl, by rw [hms]; exact Nat.le_of_ble_eq_true rfl⟩ (fun x1 h1 => ?_)
    refine kj_norm (st' := [.inl x1]) (c' := 0) (z' := 0) rfl rfl rfl ?_
    refine kj_aloadn hC 1 dX10_isAhead_104 rfl rfl ?_
    refine kj_iloadn hC 3 dX10_isAhead_105 rfl rfl ?_
    refine kj_iloadn hC 4 dX10_isAhead_106 rfl rfl ?_
    refine kj_invV (ci := 10) (q := (RX10, TX10, 36)) (as := [.inl v2, .inl v3]) (rest := [.inl x1]) hC hT dX10_isAhead_107 kw1199 ky_X10_signAt ky2_X10_signAt rfl rfl (t_X10_signAt v0 v2 v3 h1) rfl rfl (Nat.le_of_ble_eq_true rfl) ⟨by rw [hD]; decide, by decide⟩ ⟨by rw [hmc]; exact Nat.le_of_ble_eq_true rfl, by rw [hms]; exact Nat.le_of_ble_eq_true rfl⟩ (fun x2 h2 => ?_)
    refine kj_norm (st' := [.inl x2, .inl x1]) (c' := 0) (z' := 0) rfl rfl rfl ?_
    refine kj_icmp_ge (tgt := 117) hC dX10_isAhead_110 (by decide) (fun q2 => ?_) (fun q2 => ?_)
    · refine kj_iconst (v := 0) hC dX10_isAhead_117 (by decide) ?_
      exact kj_sub [] rfl (t_X10_isAhead_b118 hC hN hT hmc hms hD  0 h2)
    · refine kj_iconst (v := 1) hC dX10_isAhead_113 (by decide) ?_
      refine kj_goto (tgt := 118) hC dX10_isAhead_114 (by decide) ?_
      exact kj_sub [] rfl (t_X10_isAhead_b118 hC hN hT hmc hms hD  1 h2)
  · refine kj_aloadn hC 1 dX10_isAhead_75 rfl rfl ?_
    refine kj_gN (ci := 10) (k := 9) hC dX10_isAhead_76 kf_X10_30 rfl (fun a1 => ?_)
    refine kj_iloadn hC 2 dX10_isAhead_79 rfl rfl ?_
    refine kj_gAI hC dX10_isAhead_80 (fun x3 => ?_)
    refine kj_aloadn hC 1 dX10_isAhead_81 rfl rfl ?_
    refine kj_gN (ci := 10) (k := 9) hC dX10_isAhead_82 kf_X10_30 rfl (fun a2 => ?_)
    refine kj_iloadn hC 3 dX10_isAhead_85 rfl rfl ?_
    refine kj_gAI hC dX10_isAhead_86 (fun x4 => ?_)
    refine kj_icmp_ge (tgt := 94) hC dX10_isAhead_87 (by decide) (fun q3 => ?_) (fun q3 => ?_)
    · refine kj_iconst (v := 0) hC dX10_isAhead_94 (by decide) ?_
      refine kj_goto (tgt := 118) hC dX10_isAhead_95 (by decide) ?_
      exact kj_sub [] rfl (t_X10_isAhead_b118 hC hN hT hmc hms hD  0 h)
    · refine kj_iconst (v := 1) hC dX10_isAhead_90 (by decide) ?_
      refine kj_goto (tgt := 118) hC dX10_isAhead_91 (by decide) ?_
      exact kj_sub [] rfl (t_X10_isAhead_b118 hC hN hT hmc hms hD  1 h)
set_option maxHeartbeats 4000000 in
set_option maxRecDepth 100000 in
theorem t_X10_isAhead_b63 {X : KX} (hC : kC X RX10 cX10_isAhead 5 (some .boolean)) (hN : (xme X).name = yX10_isAhead.name) (hT : kT0 X) (hmc : xmc X = 0) (hms : xms X = 0) (hD : xD X = 1) (v0 : Nat) (v1 : Int32) (v2 : Int32) (v3 : Int32) (h : KH) : kJ X (fun x : Int32 => some (.inl x)) 5 0 0 [(0, .inr (.inr (some v0))), (1, .inl v1), (2, .inl v2), (3, .inl v3)] [] 63 h (X10_isAhead_b63  v0 v1 v2 v3 h) := by
  unfold X10_isAhead_b63
  refine kj_iconst (v := 1) hC dX10_isAhead_63 (by decide) ?_
  refine kj_goto (tgt := 68) hC dX10_isAhead_64 (by decide) ?_
  exact kj_sub [0, 1, 2, 3] rfl (t_X10_isAhead_b68 hC hN hT hmc hms hD  v0 v1 v2 v3 1 h)
set_option maxHeartbeats 4000000 in
set_option maxRecDepth 100000 in
theorem t_X10_isAhead_b43 {X : KX} (hC : kC X RX10 cX10_isAhead 5 (some .boolean)) (hN : (xme X).name = yX10_isAhead.name) (hT : kT0 X) (hmc : xmc X = 0) (hms : xms X = 0) (hD : xD X = 1) (v0 : Nat) (v1 : Int32) (v2 : Int32) (v3 : Int32) (h : KH) : kJ X (fun x : Int32 => some (.inl x)) 5 0 0 [(0, .inr (.inr (some v0))), (1, .inl v1), (2, .inl v2), (3, .inl v3)] [] 43 h (X10_isAhead_b43  v0 v1 v2 v3 h) := by
  unfold X10_isAhead_b43
  refine kj_iloadn hC 3 dX10_isAhead_43 rfl rfl ?_
  refine kj_aloadn hC 0 dX10_isAhead_44 rfl rfl ?_
  refine kj_gN (ci := 10) (k := 9) hC dX10_isAhead_45 kf_X10_30 rfl (fun a1 => ?_)
  refine kj_iloadn hC 1 dX10_isAhead_48 rfl rfl ?_
  refine kj_gAI hC dX10_isAhead_49 (fun x1 => ?_)
  refine kj_icmp_gt (tgt := 63) hC dX10_isAhead_50 (by decide) (fun q1 => ?_) (fun q1 => ?_)
  · exact kj_sub [0, 1, 2, 3] rfl (t_X10_isAhead_b63 hC hN hT hmc hms hD  v0 v1 v2 v3 h)
  · refine kj_iloadn hC 3 dX10_isAhead_53 rfl rfl ?_
    refine kj_aloadn hC 0 dX10_isAhead_54 rfl rfl ?_
    refine kj_gN (ci := 10) (k := 9) hC dX10_isAhead_55 kf_X10_30 rfl (fun a2 => ?_)
    refine kj_iloadn hC 2 dX10_isAhead_58 rfl rfl ?_
    refine kj_gAI hC dX10_isAhead_59 (fun x2 => ?_)
    refine kj_icmp_le (tgt := 67) hC dX10_isAhead_60 (by decide) (fun q2 => ?_) (fun q2 => ?_)
    · refine kj_iconst (v := 0) hC dX10_isAhead_67 (by decide) ?_
      exact kj_sub [0, 1, 2, 3] rfl (t_X10_isAhead_b68 hC hN hT hmc hms hD  v0 v1 v2 v3 0 h)
    · exact kj_sub [0, 1, 2, 3] rfl (t_X10_isAhead_b63 hC hN hT hmc hms hD  v0 v1 v2 v3 h)
set_option maxHeartbeats 4000000 in
set_option maxRecDepth 100000 in
theorem t_X10_isAhead_b2 {X : KX} (hC : kC X RX10 cX10_isAhead 5 (some .boolean)) (hN : (xme X).name = yX10_isAhead.name) (hT : kT0 X) (hmc : xmc X = 0) (hms : xms X = 0) (hD : xD X = 1) (rc2 : Nat → Int32 → Int32 → Int32 → KH → KO Int32) (hr2 : ∀ (v0 : Nat) (v1 : Int32) (v2 : Int32) (v3 : Int32) (h : KH), kJ X (fun x : Int32 => some (.inl x)) 5 0 0 [(0, .inr (.inr (some v0))), (1, .inl v1), (2, .inl v2), (3, .inl v3)] [] 2 h (rc2 v0 v1 v2 v3 h)) (v0 : Nat) (v1 : Int32) (v2 : Int32) (v3 : Int32) (h : KH) : kJ X (fun x : Int32 => some (.inl x)) 5 0 0 [(0, .inr (.inr (some v0))), (1, .inl v1), (2, .inl v2), (3, .inl v3)] [] 2 h (X10_isAhead_b2 rc2 v0 v1 v2 v3 h) := by
  unfold X10_isAhead_b2
  refine kj_iloadn hC 3 dX10_isAhead_2 rfl rfl ?_
  refine kj_aloadn hC 0 dX10_isAhead_3 rfl rfl ?_
  refine kj_gN (ci := 10) (k := 9) hC dX10_isAhead_4 kf_X10_30 rfl (fun a1 => ?_)
  refine kj_iloadn hC 1 dX10_isAhead_7 rfl rfl ?_
  refine kj_gAI hC dX10_isAhead_8 (fun x1 => ?_)
  refine kj_icmp_gt (tgt := 43) hC dX10_isAhead_9 (by decide) (fun q1 => ?_) (fun q1 => ?_)
  · exact kj_sub [0, 1, 2, 3] rfl (t_X10_isAhead_b43 hC hN hT hmc hms hD  v0 v1 v2 v3 h)
  · refine kj_iloadn hC 3 dX10_isAhead_12 rfl rfl ?_
    refine kj_aloadn hC 0 dX10_isAhead_13 rfl rfl ?_
    refine kj_gN (ci := 10) (k := 9) hC dX10_isAhead_14 kf_X10_30 rfl (fun a2 => ?_)
    refine kj_iloadn hC 2 dX10_isAhead_17 rfl rfl ?_
    refine kj_gAI hC dX10_isAhead_18 (fun x2 => ?_)
    refine kj_icmp_gt (tgt := 43) hC dX10_isAhead_19 (by decide) (fun q2 => ?_) (fun q2 => ?_)
    · exact kj_sub [0, 1, 2, 3] rfl (t_X10_isAhead_b43 hC hN hT hmc hms hD  v0 v1 v2 v3 h)
    · refine kj_aloadn hC 0 dX10_isAhead_22 rfl rfl ?_
      refine kj_iloadn hC 1 dX10_isAhead_23 rfl rfl ?_
      refine kj_iloadn hC 3 dX10_isAhead_24 rfl rfl ?_
      refine kj_invV (ci := 10) (q := (RX10, TX10, 36)) (as := [.inl v1, .inl v3]) (rest := []) hC hT dX10_isAhead_25 kw1199 ky_X10_signAt ky2_X10_signAt rfl rfl (t_X10_signAt v0 v1 v3 h) rfl rfl (Nat.le_of_ble_eq_true rfl) ⟨by rw [hD]; decide, by decide⟩ ⟨by rw [hmc]; exact Nat.le_of_ble_eq_true rfl, by rw [hms]; exact Nat.le_of_ble_eq_true rfl⟩ (fun x3 h1 => ?_)
      refine kj_norm (st' := [.inl x3]) (c' := 0) (z' := 0) rfl rfl rfl ?_
      refine kj_aloadn hC 0 dX10_isAhead_28 rfl rfl ?_
      refine kj_iloadn hC 2 dX10_isAhead_29 rfl rfl ?_
      refine kj_iloadn hC 3 dX10_isAhead_30 rfl rfl ?_
      refine kj_invV (ci := 10) (q := (RX10, TX10, 36)) (as := [.inl v2, .inl v3]) (rest := [.inl x3]) hC hT dX10_isAhead_31 kw1199 ky_X10_signAt ky2_X10_signAt rfl rfl (t_X10_signAt v0 v2 v3 h1) rfl rfl (Nat.le_of_ble_eq_true rfl) ⟨by rw [hD]; decide, by decide⟩ ⟨by rw [hmc]; exact Nat.le_of_ble_eq_true rfl, by rw [hms]; exact Nat.le_of_ble_eq_true rfl⟩ (fun x4 h2 => ?_)
      refine kj_norm (st' := [.inl x4, .inl x3]) (c' := 0) (z' := 0) rfl rfl rfl ?_
      refine kj_icmp_ne (tgt := 43) hC dX10_isAhead_34 (by decide) (fun q3 => ?_) (fun q3 => ?_)
      · refine kj_iinc (v := v3 + 1) (L' := [(3, .inl (v3 + 1)), (0, .inr (.inr (some v0))), (1, .inl v1), (2, .inl v2)]) hC 3 dX10_isAhead_37 rfl rfl (by decide) rfl ?_
        refine kj_goto (tgt := 2) hC dX10_isAhead_40 (by decide) ?_
        exact kj_sub [1, 2, 3, 0] rfl (hr2 v0 v1 v2 (v3 + 1) h2)
      · exact kj_sub [0, 1, 2, 3] rfl (t_X10_isAhead_b43 hC hN hT hmc hms hD  v0 v1 v2 v3 h2)
set_option maxHeartbeats 4000000 in
set_option maxRecDepth 100000 in
theorem t_X10_isAhead_L2 {X : KX} (hC : kC X RX10 cX10_isAhead 5 (some .boolean)) (hN : (xme X).name = yX10_isAhead.name) (hT : kT0 X) (hmc : xmc X = 0) (hms : xms X = 0) (hD : xD X = 1) : ∀ (n : Nat) (v0 : Nat) (v1 : Int32) (v2 : Int32) (v3 : Int32) (h : KH), kJ X (fun x : Int32 => some (.inl x)) 5 0 0 [(0, .inr (.inr (some v0))), (1, .inl v1), (2, .inl v2), (3, .inl v3)] [] 2 h (X10_isAhead_L2  n v0 v1 v2 v3 h) := by
  intro n
  induction n with
  | zero => intro v0 v1 v2 v3 h; exact kj_none
  | succ n ih => intro v0 v1 v2 v3 h; exact t_X10_isAhead_b2 hC hN hT hmc hms hD (X10_isAhead_L2  n) ih v0 v1 v2 v3 h
set_option maxHeartbeats 4000000 in
set_option maxRecDepth 100000 in
theorem t_X10_isAhead (p0 : Nat) (p1 : Int32) (p2 : Int32) (h : KH) : kM yX10_isAhead cX10_isAhead 5 (some .boolean) 1 0 0 (fun x : Int32 => some (.inl x)) [.inr (.inr (some p0)), .inl p1, .inl p2] h (f_X10_isAhead p0 p1 p2 h) := by
  refine kM_of RX10 (by decide) rfl (Nat.le_of_ble_eq_true rfl) [(0, .inr (.inr (some p0))), (1, .inl p1), (2, .inl p2)] rfl (fun X hC hN hT hmc hms hD => ?_)
  unfold f_X10_isAhead
  refine kj_iconst (v := 1) hC dX10_isAhead_0 (by decide) ?_
  refine kj_istoren (L' := [(3, .inl 1), (0, .inr (.inr (some p0))), (1, .inl p1), (2, .inl p2)]) hC dX10_isAhead_1 rfl (by decide) rfl ?_
  exact kj_sub [1, 2, 3, 0] rfl (t_X10_isAhead_L2 hC hN hT hmc hms hD  kF p0 p1 p2 1 h)
set_option maxHeartbeats 4000000 in
set_option maxRecDepth 100000 in
theorem t_X10_plateAt_b93 {X : KX} (hC : kC X RX10 cX10_plateAt 6 (some .int)) (hN : (xme X).name = yX10_plateAt.name) (hT : kT0 X) (hmc : xmc X = 0) (hms : xms X = 0) (hD : xD X = 2) (s0 : Int32) (h : KH) : kJ X (fun x : Int32 => some (.inl x)) 6 0 0 [] [.inl s0] 93 h (X10_plateAt_b93  s0 h) := by
  unfold X10_plateAt_b93
  refine kj_fin hmc hms ?_
  exact kj_ireturn hC dX10_plateAt_93
set_option maxHeartbeats 4000000 in
set_option maxRecDepth 100000 in
theorem t_X10_plateAt_b82 {X : KX} (hC : kC X RX10 cX10_plateAt 6 (some .int)) (hN : (xme X).name = yX10_plateAt.name) (hT : kT0 X) (hmc : xmc X = 0) (hms : xms X = 0) (hD : xD X = 2) (v2 : Int32) (s0 : Int32) (s1 : Nat) (h : KH) : kJ X (fun x : Int32 => some (.inl x)) 6 0 0 [(2, .inl v2)] [.inl s0, .inr (.inr (some s1))] 82 h (X10_plateAt_b82  v2 s0 s1 h) := by
  unfold X10_plateAt_b82
  refine kj_invV (ci := 10) (q := (RX10, TX10, 36)) (as := [.inl s0]) (rest := []) hC hT dX10_plateAt_82 kw1089 ky_X10_can ky2_X10_can rfl rfl (t_X10_can s1 s0 h) rfl rfl (Nat.le_of_ble_eq_true rfl) ⟨by rw [hD]; decide, by decide⟩ ⟨by rw [hmc]; exact Nat.le_of_ble_eq_true rfl, by rw [hms]; exact Nat.le_of_ble_eq_true rfl⟩ (fun x1 h1 => ?_)
  refine kj_norm (st' := [.inl x1]) (c' := 0) (z' := 0) rfl rfl rfl ?_
  refine kj_if_eq (tgt := 92) hC dX10_plateAt_85 (by decide) (fun q1 => ?_) (fun q1 => ?_)
  · refine kj_iconst (v := 0) hC dX10_plateAt_92 (by decide) ?_
    exact kj_sub [] rfl (t_X10_plateAt_b93 hC hN hT hmc hms hD  0 h1)
  · refine kj_iloadn hC 0 dX10_plateAt_88 rfl rfl ?_
    refine kj_goto (tgt := 93) hC dX10_plateAt_89 (by decide) ?_
    exact kj_sub [] rfl (t_X10_plateAt_b93 hC hN hT hmc hms hD  v2 h1)
set_option maxHeartbeats 4000000 in
set_option maxRecDepth 100000 in
theorem t_X10_plateAt_b64 {X : KX} (hC : kC X RX10 cX10_plateAt 6 (some .int)) (hN : (xme X).name = yX10_plateAt.name) (hT : kT0 X) (hmc : xmc X = 0) (hms : xms X = 0) (hD : xD X = 2) (rc4 : Nat → Int32 → Int32 → Int32 → KH → KO Int32) (hr4 : ∀ (v0 : Nat) (v1 : Int32) (v2 : Int32) (v3 : Int32) (h : KH), kJ X (fun x : Int32 => some (.inl x)) 6 0 0 [(0, .inr (.inr (some v0))), (1, .inl v1), (2, .inl v2), (3, .inl v3)] [] 4 h (rc4 v0 v1 v2 v3 h)) (v0 : Nat) (v1 : Int32) (v3 : Int32) (s0 : Int32) (h : KH) : kJ X (fun x : Int32 => some (.inl x)) 6 0 0 [(0, .inr (.inr (some v0))), (1, .inl v1), (3, .inl v3)] [.inl s0] 64 h (X10_plateAt_b64 rc4 v0 v1 v3 s0 h) := by
  unfold X10_plateAt_b64
  refine kj_istoren (L' := [(2, .inl s0), (0, .inr (.inr (some v0))), (1, .inl v1), (3, .inl v3)]) hC dX10_plateAt_64 rfl (by decide) rfl ?_
  refine kj_iinc (v := v3 + 1) (L' := [(3, .inl (v3 + 1)), (2, .inl s0), (0, .inr (.inr (some v0))), (1, .inl v1)]) hC 3 dX10_plateAt_65 rfl rfl (by decide) rfl ?_
  refine kj_goto (tgt := 4) hC dX10_plateAt_68 (by decide) ?_
  exact kj_sub [2, 3, 1, 0] rfl (hr4 v0 v1 s0 (v3 + 1) h)
set_option maxHeartbeats 4000000 in
set_option maxRecDepth 100000 in
theorem t_X10_plateAt_b44 {X : KX} (hC : kC X RX10 cX10_plateAt 6 (some .int)) (hN : (xme X).name = yX10_plateAt.name) (hT : kT0 X) (hmc : xmc X = 0) (hms : xms X = 0) (hD : xD X = 2) (rc4 : Nat → Int32 → Int32 → Int32 → KH → KO Int32) (hr4 : ∀ (v0 : Nat) (v1 : Int32) (v2 : Int32) (v3 : Int32) (h : KH), kJ X (fun x : Int32 => some (.inl x)) 6 0 0 [(0, .inr (.inr (some v0))), (1, .inl v1), (2, .inl v2), (3, .inl v3)] [] 4 h (rc4 v0 v1 v2 v3 h)) (rc18 : Nat → Int32 → Int32 → Int32 → Int32 → Int32 → KH → KO Int32) (hr18 : ∀ (v0 : Nat) (v1 : Int32) (v2 : Int32) (v3 : Int32) (v4 : Int32) (v5 : Int32) (h : KH), kJ X (fun x : Int32 => some (.inl x)) 6 0 0 [(0, .inr (.inr (some v0))), (1, .inl v1), (2, .inl v2), (3, .inl v3), (4, .inl v4), (5, .inl v5)] [] 18 h (rc18 v0 v1 v2 v3 v4 v5 h)) (v0 : Nat) (v1 : Int32) (v2 : Int32) (v3 : Int32) (v5 : Int32) (s0 : Int32) (s1 : Int32) (h : KH) : kJ X (fun x : Int32 => some (.inl x)) 6 0 0 [(0, .inr (.inr (some v0))), (1, .inl v1), (2, .inl v2), (3, .inl v3), (5, .inl v5)] [.inl s0, .inl s1] 44 h (X10_plateAt_b44 rc4 rc18 v0 v1 v2 v3 v5 s0 s1 h) := by
  unfold X10_plateAt_b44
  refine kj_iadd hC dX10_plateAt_44 ?_
  refine kj_istore (L' := [(4, .inl (s1 + s0)), (0, .inr (.inr (some v0))), (1, .inl v1), (2, .inl v2), (3, .inl v3), (5, .inl v5)]) hC dX10_plateAt_45 (by decide) rfl ?_
  refine kj_iinc (v := v5 + 1) (L' := [(5, .inl (v5 + 1)), (4, .inl (s1 + s0)), (0, .inr (.inr (some v0))), (1, .inl v1), (2, .inl v2), (3, .inl v3)]) hC 5 dX10_plateAt_47 rfl rfl (by decide) rfl ?_
  refine kj_goto (tgt := 18) hC dX10_plateAt_50 (by decide) ?_
  exact kj_sub [2, 3, 4, 5, 1, 0] rfl (hr18 v0 v1 v2 v3 (s1 + s0) (v5 + 1) h)
set_option maxHeartbeats 4000000 in
set_option maxRecDepth 100000 in
theorem t_X10_plateAt_b18 {X : KX} (hC : kC X RX10 cX10_plateAt 6 (some .int)) (hN : (xme X).name = yX10_plateAt.name) (hT : kT0 X) (hmc : xmc X = 0) (hms : xms X = 0) (hD : xD X = 2) (rc4 : Nat → Int32 → Int32 → Int32 → KH → KO Int32) (hr4 : ∀ (v0 : Nat) (v1 : Int32) (v2 : Int32) (v3 : Int32) (h : KH), kJ X (fun x : Int32 => some (.inl x)) 6 0 0 [(0, .inr (.inr (some v0))), (1, .inl v1), (2, .inl v2), (3, .inl v3)] [] 4 h (rc4 v0 v1 v2 v3 h)) (rc18 : Nat → Int32 → Int32 → Int32 → Int32 → Int32 → KH → KO Int32) (hr18 : ∀ (v0 : Nat) (v1 : Int32) (v2 : Int32) (v3 : Int32) (v4 : Int32) (v5 : Int32) (h : KH), kJ X (fun x : Int32 => some (.inl x)) 6 0 0 [(0, .inr (.inr (some v0))), (1, .inl v1), (2, .inl v2), (3, .inl v3), (4, .inl v4), (5, .inl v5)] [] 18 h (rc18 v0 v1 v2 v3 v4 v5 h)) (v0 : Nat) (v1 : Int32) (v2 : Int32) (v3 : Int32) (v4 : Int32) (v5 : Int32) (h : KH) : kJ X (fun x : Int32 => some (.inl x)) 6 0 0 [(0, .inr (.inr (some v0))), (1, .inl v1), (2, .inl v2), (3, .inl v3), (4, .inl v4), (5, .inl v5)] [] 18 h (X10_plateAt_b18 rc4 rc18 v0 v1 v2 v3 v4 v5 h) := by
  unfold X10_plateAt_b18
  refine kj_iload hC 5 dX10_plateAt_18 rfl ?_
  refine kj_aloadn hC 0 dX10_plateAt_20 rfl rfl ?_
  refine kj_gI (ci := 10) (k := 8) hC dX10_plateAt_21 kf_X10_107 rfl (fun x1 => ?_)
  refine kj_icmp_ge (tgt := 53) hC dX10_plateAt_24 (by decide) (fun q1 => ?_) (fun q1 => ?_)
  · refine kj_iload hC 4 dX10_plateAt_53 rfl ?_
    refine kj_iloadn hC 1 dX10_plateAt_55 rfl rfl ?_
    refine kj_icmp_ne (tgt := 63) hC dX10_plateAt_56 (by decide) (fun q2 => ?_) (fun q2 => ?_)
    · refine kj_iloadn hC 3 dX10_plateAt_59 rfl rfl ?_
      refine kj_goto (tgt := 64) hC dX10_plateAt_60 (by decide) ?_
      exact kj_sub [0, 1, 3] rfl (t_X10_plateAt_b64 hC hN hT hmc hms hD rc4 hr4 v0 v1 v3 v3 h)
    · refine kj_iloadn hC 2 dX10_plateAt_63 rfl rfl ?_
      exact kj_sub [0, 1, 3] rfl (t_X10_plateAt_b64 hC hN hT hmc hms hD rc4 hr4 v0 v1 v3 v2 h)
  · refine kj_iload hC 4 dX10_plateAt_27 rfl ?_
    refine kj_aloadn hC 0 dX10_plateAt_29 rfl rfl ?_
    refine kj_iload hC 5 dX10_plateAt_30 rfl ?_
    refine kj_iloadn hC 3 dX10_plateAt_32 rfl rfl ?_
    refine kj_invV (ci := 10) (q := (RX10, TX10, 36)) (as := [.inl v5, .inl v3]) (rest := [.inl v4]) hC hT dX10_plateAt_33 kw1195 ky_X10_isAhead ky2_X10_isAhead rfl rfl (t_X10_isAhead v0 v5 v3 h) rfl rfl (Nat.le_of_ble_eq_true rfl) ⟨by rw [hD]; decide, by decide⟩ ⟨by rw [hmc]; exact Nat.le_of_ble_eq_true rfl, by rw [hms]; exact Nat.le_of_ble_eq_true rfl⟩ (fun x2 h1 => ?_)
    refine kj_norm (st' := [.inl x2, .inl v4]) (c' := 0) (z' := 0) rfl rfl rfl ?_
    refine kj_if_eq (tgt := 43) hC dX10_plateAt_36 (by decide) (fun q3 => ?_) (fun q3 => ?_)
    · refine kj_iconst (v := 0) hC dX10_plateAt_43 (by decide) ?_
      exact kj_sub [0, 1, 2, 3, 5] rfl (t_X10_plateAt_b44 hC hN hT hmc hms hD rc4 hr4 rc18 hr18 v0 v1 v2 v3 v5 0 v4 h1)
    · refine kj_iconst (v := 1) hC dX10_plateAt_39 (by decide) ?_
      refine kj_goto (tgt := 44) hC dX10_plateAt_40 (by decide) ?_
      exact kj_sub [0, 1, 2, 3, 5] rfl (t_X10_plateAt_b44 hC hN hT hmc hms hD rc4 hr4 rc18 hr18 v0 v1 v2 v3 v5 1 v4 h1)
set_option maxHeartbeats 4000000 in
set_option maxRecDepth 100000 in
theorem t_X10_plateAt_L18 {X : KX} (hC : kC X RX10 cX10_plateAt 6 (some .int)) (hN : (xme X).name = yX10_plateAt.name) (hT : kT0 X) (hmc : xmc X = 0) (hms : xms X = 0) (hD : xD X = 2) (rc4 : Nat → Int32 → Int32 → Int32 → KH → KO Int32) (hr4 : ∀ (v0 : Nat) (v1 : Int32) (v2 : Int32) (v3 : Int32) (h : KH), kJ X (fun x : Int32 => some (.inl x)) 6 0 0 [(0, .inr (.inr (some v0))), (1, .inl v1), (2, .inl v2), (3, .inl v3)] [] 4 h (rc4 v0 v1 v2 v3 h)) : ∀ (n : Nat) (v0 : Nat) (v1 : Int32) (v2 : Int32) (v3 : Int32) (v4 : Int32) (v5 : Int32) (h : KH), kJ X (fun x : Int32 => some (.inl x)) 6 0 0 [(0, .inr (.inr (some v0))), (1, .inl v1), (2, .inl v2), (3, .inl v3), (4, .inl v4), (5, .inl v5)] [] 18 h (X10_plateAt_L18 rc4 n v0 v1 v2 v3 v4 v5 h) := by
  intro n
  induction n with
  | zero => intro v0 v1 v2 v3 v4 v5 h; exact kj_none
  | succ n ih => intro v0 v1 v2 v3 v4 v5 h; exact t_X10_plateAt_b18 hC hN hT hmc hms hD rc4 hr4 (X10_plateAt_L18 rc4 n) ih v0 v1 v2 v3 v4 v5 h
set_option maxHeartbeats 4000000 in
set_option maxRecDepth 100000 in
theorem t_X10_plateAt_b4 {X : KX} (hC : kC X RX10 cX10_plateAt 6 (some .int)) (hN : (xme X).name = yX10_plateAt.name) (hT : kT0 X) (hmc : xmc X = 0) (hms : xms X = 0) (hD : xD X = 2) (rc4 : Nat → Int32 → Int32 → Int32 → KH → KO Int32) (hr4 : ∀ (v0 : Nat) (v1 : Int32) (v2 : Int32) (v3 : Int32) (h : KH), kJ X (fun x : Int32 => some (.inl x)) 6 0 0 [(0, .inr (.inr (some v0))), (1, .inl v1), (2, .inl v2), (3, .inl v3)] [] 4 h (rc4 v0 v1 v2 v3 h)) (v0 : Nat) (v1 : Int32) (v2 : Int32) (v3 : Int32) (h : KH) : kJ X (fun x : Int32 => some (.inl x)) 6 0 0 [(0, .inr (.inr (some v0))), (1, .inl v1), (2, .inl v2), (3, .inl v3)] [] 4 h (X10_plateAt_b4 rc4 v0 v1 v2 v3 h) := by
  unfold X10_plateAt_b4
  refine kj_iloadn hC 3 dX10_plateAt_4 rfl rfl ?_
  refine kj_aloadn hC 0 dX10_plateAt_5 rfl rfl ?_
  refine kj_gI (ci := 10) (k := 8) hC dX10_plateAt_6 kf_X10_107 rfl (fun x1 => ?_)
  refine kj_icmp_ge (tgt := 71) hC dX10_plateAt_9 (by decide) (fun q1 => ?_) (fun q1 => ?_)
  · refine kj_aloadn hC 0 dX10_plateAt_71 rfl rfl ?_
    refine kj_iloadn hC 2 dX10_plateAt_72 rfl rfl ?_
    refine kj_iconst (v := (-1)) hC dX10_plateAt_73 (by decide) ?_
    refine kj_icmp_ne (tgt := 81) hC dX10_plateAt_74 (by decide) (fun q2 => ?_) (fun q2 => ?_)
    · refine kj_iconst (v := 1) hC dX10_plateAt_77 (by decide) ?_
      refine kj_goto (tgt := 82) hC dX10_plateAt_78 (by decide) ?_
      exact kj_sub [2] rfl (t_X10_plateAt_b82 hC hN hT hmc hms hD  v2 1 v0 h)
    · refine kj_iconst (v := 0) hC dX10_plateAt_81 (by decide) ?_
      exact kj_sub [2] rfl (t_X10_plateAt_b82 hC hN hT hmc hms hD  v2 0 v0 h)
  · refine kj_iconst (v := 0) hC dX10_plateAt_12 (by decide) ?_
    refine kj_istore (L' := [(4, .inl 0), (0, .inr (.inr (some v0))), (1, .inl v1), (2, .inl v2), (3, .inl v3)]) hC dX10_plateAt_13 (by decide) rfl ?_
    refine kj_iconst (v := 0) hC dX10_plateAt_15 (by decide) ?_
    refine kj_istore (L' := [(5, .inl 0), (4, .inl 0), (0, .inr (.inr (some v0))), (1, .inl v1), (2, .inl v2), (3, .inl v3)]) hC dX10_plateAt_16 (by decide) rfl ?_
    exact kj_sub [2, 3, 4, 5, 1, 0] rfl (t_X10_plateAt_L18 hC hN hT hmc hms hD rc4 hr4 kF v0 v1 v2 v3 0 0 h)
set_option maxHeartbeats 4000000 in
set_option maxRecDepth 100000 in
theorem t_X10_plateAt_L4 {X : KX} (hC : kC X RX10 cX10_plateAt 6 (some .int)) (hN : (xme X).name = yX10_plateAt.name) (hT : kT0 X) (hmc : xmc X = 0) (hms : xms X = 0) (hD : xD X = 2) : ∀ (n : Nat) (v0 : Nat) (v1 : Int32) (v2 : Int32) (v3 : Int32) (h : KH), kJ X (fun x : Int32 => some (.inl x)) 6 0 0 [(0, .inr (.inr (some v0))), (1, .inl v1), (2, .inl v2), (3, .inl v3)] [] 4 h (X10_plateAt_L4  n v0 v1 v2 v3 h) := by
  intro n
  induction n with
  | zero => intro v0 v1 v2 v3 h; exact kj_none
  | succ n ih => intro v0 v1 v2 v3 h; exact t_X10_plateAt_b4 hC hN hT hmc hms hD (X10_plateAt_L4  n) ih v0 v1 v2 v3 h
set_option maxHeartbeats 4000000 in
set_option maxRecDepth 100000 in
theorem t_X10_plateAt (p0 : Nat) (p1 : Int32) (h : KH) : kM yX10_plateAt cX10_plateAt 6 (some .int) 2 0 0 (fun x : Int32 => some (.inl x)) [.inr (.inr (some p0)), .inl p1] h (f_X10_plateAt p0 p1 h) := by
  refine kM_of RX10 (by decide) rfl (Nat.le_of_ble_eq_true rfl) [(0, .inr (.inr (some p0))), (1, .inl p1)] rfl (fun X hC hN hT hmc hms hD => ?_)
  unfold f_X10_plateAt
  refine kj_iconst (v := (-1)) hC dX10_plateAt_0 (by decide) ?_
  refine kj_istoren (L' := [(2, .inl (-1)), (0, .inr (.inr (some p0))), (1, .inl p1)]) hC dX10_plateAt_1 rfl (by decide) rfl ?_
  refine kj_iconst (v := 0) hC dX10_plateAt_2 (by decide) ?_
  refine kj_istoren (L' := [(3, .inl 0), (2, .inl (-1)), (0, .inr (.inr (some p0))), (1, .inl p1)]) hC dX10_plateAt_3 rfl (by decide) rfl ?_
  exact kj_sub [2, 3, 1, 0] rfl (t_X10_plateAt_L4 hC hN hT hmc hms hD  kF p0 p1 ((-1)) 0 h)
set_option maxHeartbeats 4000000 in
set_option maxRecDepth 100000 in
theorem t_X10_holder_b46 {X : KX} (hC : kC X RX10 cX10_holder 3 (some .int)) (hN : (xme X).name = yX10_holder.name) (hT : kT0 X) (hmc : xmc X = 0) (hms : xms X = 0) (hD : xD X = 2) (s0 : Int32) (h : KH) : kJ X (fun x : Int32 => some (.inl x)) 3 0 0 [] [.inl s0] 46 h (X10_holder_b46  s0 h) := by
  unfold X10_holder_b46
  refine kj_fin hmc hms ?_
  exact kj_ireturn hC dX10_holder_46
set_option maxHeartbeats 4000000 in
set_option maxRecDepth 100000 in
theorem t_X10_holder_b30 {X : KX} (hC : kC X RX10 cX10_holder 3 (some .int)) (hN : (xme X).name = yX10_holder.name) (hT : kT0 X) (hmc : xmc X = 0) (hms : xms X = 0) (hD : xD X = 2) (v0 : Nat) (v1 : Int32) (v2 : Int32) (s0 : Int32) (s1 : Nat) (h : KH) : kJ X (fun x : Int32 => some (.inl x)) 3 0 0 [(0, .inr (.inr (some v0))), (1, .inl v1), (2, .inl v2)] [.inl s0, .inr (.inr (some s1))] 30 h (X10_holder_b30  v0 v1 v2 s0 s1 h) := by
  unfold X10_holder_b30
  refine kj_invV (ci := 10) (q := (RX10, TX10, 36)) (as := [.inl s0]) (rest := []) hC hT dX10_holder_30 kw1089 ky_X10_can ky2_X10_can rfl rfl (t_X10_can s1 s0 h) rfl rfl (Nat.le_of_ble_eq_true rfl) ⟨by rw [hD]; decide, by decide⟩ ⟨by rw [hmc]; exact Nat.le_of_ble_eq_true rfl, by rw [hms]; exact Nat.le_of_ble_eq_true rfl⟩ (fun x1 h1 => ?_)
  refine kj_norm (st' := [.inl x1]) (c' := 0) (z' := 0) rfl rfl rfl ?_
  refine kj_if_eq (tgt := 45) hC dX10_holder_33 (by decide) (fun q1 => ?_) (fun q1 => ?_)
  · refine kj_iconst (v := 0) hC dX10_holder_45 (by decide) ?_
    exact kj_sub [] rfl (t_X10_holder_b46 hC hN hT hmc hms hD  0 h1)
  · refine kj_aloadn hC 0 dX10_holder_36 rfl rfl ?_
    refine kj_iloadn hC 1 dX10_holder_37 rfl rfl ?_
    refine kj_iloadn hC 2 dX10_holder_38 rfl rfl ?_
    refine kj_invV (ci := 10) (q := (RX10, TX10, 36)) (as := [.inl v1, .inl v2]) (rest := []) hC hT dX10_holder_39 kw1183 ky_X10_holderAt ky2_X10_holderAt rfl rfl (t_X10_holderAt v0 v1 v2 h1) rfl rfl (Nat.le_of_ble_eq_true rfl) ⟨by rw [hD]; decide, by decide⟩ ⟨by rw [hmc]; exact Nat.le_of_ble_eq_true rfl, by rw [hms]; exact Nat.le_of_ble_eq_true rfl⟩ (fun x2 h2 => ?_)
    refine kj_norm (st' := [.inl x2]) (c' := 0) (z' := 0) rfl rfl rfl ?_
    refine kj_goto (tgt := 46) hC dX10_holder_42 (by decide) ?_
    exact kj_sub [] rfl (t_X10_holder_b46 hC hN hT hmc hms hD  x2 h2)
set_option maxHeartbeats 4000000 in
set_option maxRecDepth 100000 in
theorem t_X10_holder (p0 : Nat) (p1 : Int32) (p2 : Int32) (h : KH) : kM yX10_holder cX10_holder 3 (some .int) 2 0 0 (fun x : Int32 => some (.inl x)) [.inr (.inr (some p0)), .inl p1, .inl p2] h (f_X10_holder p0 p1 p2 h) := by
  refine kM_of RX10 (by decide) rfl (Nat.le_of_ble_eq_true rfl) [(0, .inr (.inr (some p0))), (1, .inl p1), (2, .inl p2)] rfl (fun X hC hN hT hmc hms hD => ?_)
  unfold f_X10_holder
  refine kj_aloadn hC 0 dX10_holder_0 rfl rfl ?_
  refine kj_aloadn hC 0 dX10_holder_1 rfl rfl ?_
  refine kj_iloadn hC 1 dX10_holder_2 rfl rfl ?_
  refine kj_invV (ci := 10) (q := (RX10, TX10, 36)) (as := [.inl p1]) (rest := [.inr (.inr (some p0))]) hC hT dX10_holder_3 kw1179 ky_X10_isPlate ky2_X10_isPlate rfl rfl (t_X10_isPlate p0 p1 h) rfl rfl (Nat.le_of_ble_eq_true rfl) ⟨by rw [hD]; decide, by decide⟩ ⟨by rw [hmc]; exact Nat.le_of_ble_eq_true rfl, by rw [hms]; exact Nat.le_of_ble_eq_true rfl⟩ (fun x1 h1 => ?_)
  refine kj_norm (st' := [.inl x1, .inr (.inr (some p0))]) (c' := 0) (z' := 0) rfl rfl rfl ?_
  refine kj_if_ne (tgt := 13) hC dX10_holder_6 (by decide) (fun q1 => ?_) (fun q1 => ?_)
  · refine kj_iconst (v := 1) hC dX10_holder_9 (by decide) ?_
    refine kj_goto (tgt := 30) hC dX10_holder_10 (by decide) ?_
    exact kj_sub [0, 1, 2] rfl (t_X10_holder_b30 hC hN hT hmc hms hD  p0 p1 p2 1 p0 h1)
  · refine kj_iloadn hC 2 dX10_holder_13 rfl rfl ?_
    refine kj_iconst (v := 0) hC dX10_holder_14 (by decide) ?_
    refine kj_aloadn hC 0 dX10_holder_15 rfl rfl ?_
    refine kj_gI (ci := 10) (k := 0) hC dX10_holder_16 kf_X10_113 rfl (fun x2 => ?_)
    refine kj_invS (as := [.inl p2, .inl 0, .inl x2]) (rest := [.inr (.inr (some p0))]) hC hT dX10_holder_19 kw1085 ky_X10_isIn ky2_X10_isIn (t_X10_isIn p2 0 x2 h1) rfl rfl (Nat.le_of_ble_eq_true rfl) ⟨by rw [hD]; decide, by decide⟩ ⟨by rw [hmc]; exact Nat.le_of_ble_eq_true rfl, by rw [hms]; exact Nat.le_of_ble_eq_true rfl⟩ (fun x3 h2 => ?_)
    refine kj_norm (st' := [.inl x3, .inr (.inr (some p0))]) (c' := 0) (z' := 0) rfl rfl rfl ?_
    refine kj_if_eq (tgt := 29) hC dX10_holder_22 (by decide) (fun q2 => ?_) (fun q2 => ?_)
    · refine kj_iconst (v := 2) hC dX10_holder_29 (by decide) ?_
      exact kj_sub [0, 1, 2] rfl (t_X10_holder_b30 hC hN hT hmc hms hD  p0 p1 p2 2 p0 h2)
    · refine kj_iconst (v := 0) hC dX10_holder_25 (by decide) ?_
      refine kj_goto (tgt := 30) hC dX10_holder_26 (by decide) ?_
      exact kj_sub [0, 1, 2] rfl (t_X10_holder_b30 hC hN hT hmc hms hD  p0 p1 p2 0 p0 h2)
set_option maxHeartbeats 4000000 in
set_option maxRecDepth 100000 in
theorem t_X10_read_b95 {X : KX} (hC : kC X RX10 cX10_read 5 (some .int)) (hN : (xme X).name = yX10_read.name) (hT : kT0 X) (hmc : xmc X = 0) (hms : xms X = 0) (hD : xD X = 2) (rc95 : Nat → Int32 → KH → KO Int32) (hr95 : ∀ (v0 : Nat) (v4 : Int32) (h : KH), kJ X (fun x : Int32 => some (.inl x)) 5 0 0 [(0, .inr (.inr (some v0))), (4, .inl v4)] [] 95 h (rc95 v0 v4 h)) (v0 : Nat) (v4 : Int32) (h : KH) : kJ X (fun x : Int32 => some (.inl x)) 5 0 0 [(0, .inr (.inr (some v0))), (4, .inl v4)] [] 95 h (X10_read_b95 rc95 v0 v4 h) := by
  unfold X10_read_b95
  refine kj_iload hC 1 dX10_read_95 rfl ?_
  refine kj_aloadn hC 0 dX10_read_97 rfl rfl ?_
  refine kj_gI (ci := 10) (k := 5) hC dX10_read_98 kf_X10_124 rfl (fun x1 => ?_)
  refine kj_icmp_ge (tgt := 132) hC dX10_read_101 (by decide) (fun q1 => ?_) (fun q1 => ?_)
  · refine kj_aloadn hC 0 dX10_read_132 rfl rfl ?_
    refine kj_dup hC dX10_read_133 rfl ?_
    refine kj_gI (ci := 10) (k := 16) hC dX10_read_134 kf_X10_110 rfl (fun x2 => ?_)
    refine kj_iconst (v := 1) hC dX10_read_137 (by decide) ?_
    refine kj_iadd hC dX10_read_138 ?_
    refine kj_pI (ci := 10) (k := 16) hC dX10_read_139 kf_X10_110 (Or.inl (kNF_of (by decide))) rfl ⟨rfl, rfl⟩ (fun h1 => ?_)
    refine kj_aloadn hC 0 dX10_read_142 rfl rfl ?_
    refine kj_gI (ci := 10) (k := 16) hC dX10_read_143 kf_X10_110 rfl (fun x3 => ?_)
    refine kj_iconst (v := 1) hC dX10_read_146 (by decide) ?_
    refine kj_isub hC dX10_read_147 ?_
    refine kj_fin hmc hms ?_
    exact kj_ireturn hC dX10_read_148
  · refine kj_aloadn hC 0 dX10_read_104 rfl rfl ?_
    refine kj_gN (ci := 10) (k := 20) hC dX10_read_105 kf_X10_57 rfl (fun a1 => ?_)
    refine kj_bipush (v := 6) hC dX10_read_108 (by decide) ?_
    refine kj_aloadn hC 0 dX10_read_110 rfl rfl ?_
    refine kj_gI (ci := 10) (k := 16) hC dX10_read_111 kf_X10_110 rfl (fun x4 => ?_)
    refine kj_imul hC dX10_read_114 ?_
    refine kj_iload hC 1 dX10_read_115 rfl ?_
    refine kj_iadd hC dX10_read_117 ?_
    refine kj_aloadn hC 0 dX10_read_118 rfl rfl ?_
    refine kj_gN (ci := 10) (k := 6) hC dX10_read_119 kf_X10_23 rfl (fun a2 => ?_)
    refine kj_iload hC 1 dX10_read_122 rfl ?_
    refine kj_gAI hC dX10_read_124 (fun x5 => ?_)
    refine kj_pAI hC dX10_read_125 (fun h2 => ?_)
    refine kj_iinc (v := v4 + 1) (L' := [(4, .inl (v4 + 1)), (0, .inr (.inr (some v0)))]) hC 1 dX10_read_126 rfl rfl (by decide) rfl ?_
    refine kj_goto (tgt := 95) hC dX10_read_129 (by decide) ?_
    exact kj_sub [1, 0] rfl (hr95 v0 (v4 + 1) h2)
set_option maxHeartbeats 4000000 in
set_option maxRecDepth 100000 in
theorem t_X10_read_L95 {X : KX} (hC : kC X RX10 cX10_read 5 (some .int)) (hN : (xme X).name = yX10_read.name) (hT : kT0 X) (hmc : xmc X = 0) (hms : xms X = 0) (hD : xD X = 2) : ∀ (n : Nat) (v0 : Nat) (v4 : Int32) (h : KH), kJ X (fun x : Int32 => some (.inl x)) 5 0 0 [(0, .inr (.inr (some v0))), (4, .inl v4)] [] 95 h (X10_read_L95  n v0 v4 h) := by
  intro n
  induction n with
  | zero => intro v0 v4 h; exact kj_none
  | succ n ih => intro v0 v4 h; exact t_X10_read_b95 hC hN hT hmc hms hD (X10_read_L95  n) ih v0 v4 h
set_option maxHeartbeats 4000000 in
set_option maxRecDepth 100000 in
theorem t_X10_read_b51 {X : KX} (hC : kC X RX10 cX10_read 5 (some .int)) (hN : (xme X).name = yX10_read.name) (hT : kT0 X) (hmc : xmc X = 0) (hms : xms X = 0) (hD : xD X = 2) (v0 : Nat) (v1 : Int32) (v2 : Int32) (s0 : Int32) (s1 : Nat) (h : KH) : kJ X (fun x : Int32 => some (.inl x)) 5 0 0 [(0, .inr (.inr (some v0))), (1, .inl v1), (2, .inl v2)] [.inl s0, .inr (.inr (some s1))] 51 h (X10_read_b51  v0 v1 v2 s0 s1 h) := by
  unfold X10_read_b51
  refine kj_invV (ci := 10) (q := (RX10, TX10, 36)) (as := [.inl s0]) (rest := []) hC hT dX10_read_51 kw1089 ky_X10_can ky2_X10_can rfl rfl (t_X10_can s1 s0 h) rfl rfl (Nat.le_of_ble_eq_true rfl) ⟨by rw [hD]; decide, by decide⟩ ⟨by rw [hmc]; exact Nat.le_of_ble_eq_true rfl, by rw [hms]; exact Nat.le_of_ble_eq_true rfl⟩ (fun x1 h1 => ?_)
  refine kj_norm (st' := [.inl x1]) (c' := 0) (z' := 0) rfl rfl rfl ?_
  refine kj_if_ne (tgt := 59) hC dX10_read_54 (by decide) (fun q1 => ?_) (fun q1 => ?_)
  · refine kj_iconst (v := 0) hC dX10_read_57 (by decide) ?_
    refine kj_fin hmc hms ?_
    exact kj_ireturn hC dX10_read_58
  · refine kj_aloadn hC 0 dX10_read_59 rfl rfl ?_
    refine kj_gN (ci := 10) (k := 17) hC dX10_read_60 kf_X10_48 rfl (fun a1 => ?_)
    refine kj_aloadn hC 0 dX10_read_63 rfl rfl ?_
    refine kj_gI (ci := 10) (k := 16) hC dX10_read_64 kf_X10_110 rfl (fun x2 => ?_)
    refine kj_iloadn hC 1 dX10_read_67 rfl rfl ?_
    refine kj_pAI hC dX10_read_68 (fun h2 => ?_)
    refine kj_aloadn hC 0 dX10_read_69 rfl rfl ?_
    refine kj_gN (ci := 10) (k := 18) hC dX10_read_70 kf_X10_51 rfl (fun a2 => ?_)
    refine kj_aloadn hC 0 dX10_read_73 rfl rfl ?_
    refine kj_gI (ci := 10) (k := 16) hC dX10_read_74 kf_X10_110 rfl (fun x3 => ?_)
    refine kj_iloadn hC 2 dX10_read_77 rfl rfl ?_
    refine kj_pAI hC dX10_read_78 (fun h3 => ?_)
    refine kj_aloadn hC 0 dX10_read_79 rfl rfl ?_
    refine kj_gN (ci := 10) (k := 19) hC dX10_read_80 kf_X10_54 rfl (fun a3 => ?_)
    refine kj_aloadn hC 0 dX10_read_83 rfl rfl ?_
    refine kj_gI (ci := 10) (k := 16) hC dX10_read_84 kf_X10_110 rfl (fun x4 => ?_)
    refine kj_aloadn hC 0 dX10_read_87 rfl rfl ?_
    refine kj_gI (ci := 10) (k := 5) hC dX10_read_88 kf_X10_124 rfl (fun x5 => ?_)
    refine kj_pAI hC dX10_read_91 (fun h4 => ?_)
    refine kj_iconst (v := 0) hC dX10_read_92 (by decide) ?_
    refine kj_istore (L' := [(4, .inl 0), (0, .inr (.inr (some v0))), (1, .inl v1), (2, .inl v2)]) hC dX10_read_93 (by decide) rfl ?_
    exact kj_sub [1, 0] rfl (t_X10_read_L95 hC hN hT hmc hms hD  kF v0 0 h4)
set_option maxHeartbeats 4000000 in
set_option maxRecDepth 100000 in
theorem t_X10_read_b46 {X : KX} (hC : kC X RX10 cX10_read 5 (some .int)) (hN : (xme X).name = yX10_read.name) (hT : kT0 X) (hmc : xmc X = 0) (hms : xms X = 0) (hD : xD X = 2) (v0 : Nat) (v1 : Int32) (v2 : Int32) (s0 : Nat) (h : KH) : kJ X (fun x : Int32 => some (.inl x)) 5 0 0 [(0, .inr (.inr (some v0))), (1, .inl v1), (2, .inl v2)] [.inr (.inr (some s0))] 46 h (X10_read_b46  v0 v1 v2 s0 h) := by
  unfold X10_read_b46
  refine kj_iconst (v := 3) hC dX10_read_46 (by decide) ?_
  refine kj_goto (tgt := 51) hC dX10_read_47 (by decide) ?_
  exact kj_sub [0, 1, 2] rfl (t_X10_read_b51 hC hN hT hmc hms hD  v0 v1 v2 3 s0 h)
set_option maxHeartbeats 4000000 in
set_option maxRecDepth 100000 in
theorem t_X10_read (p0 : Nat) (p1 : Int32) (p2 : Int32) (h : KH) : kM yX10_read cX10_read 5 (some .int) 2 0 0 (fun x : Int32 => some (.inl x)) [.inr (.inr (some p0)), .inl p1, .inl p2] h (f_X10_read p0 p1 p2 h) := by
  refine kM_of RX10 (by decide) rfl (Nat.le_of_ble_eq_true rfl) [(0, .inr (.inr (some p0))), (1, .inl p1), (2, .inl p2)] rfl (fun X hC hN hT hmc hms hD => ?_)
  unfold f_X10_read
  refine kj_iloadn hC 1 dX10_read_0 rfl rfl ?_
  refine kj_invS (as := [.inl p1]) (rest := []) hC hT dX10_read_1 kw1101 ky_X10_isGate ky2_X10_isGate (t_X10_isGate p1 h) rfl rfl (Nat.le_of_ble_eq_true rfl) ⟨by rw [hD]; decide, by decide⟩ ⟨by rw [hmc]; exact Nat.le_of_ble_eq_true rfl, by rw [hms]; exact Nat.le_of_ble_eq_true rfl⟩ (fun x1 h1 => ?_)
  refine kj_norm (st' := [.inl x1]) (c' := 0) (z' := 0) rfl rfl rfl ?_
  refine kj_istoren (L' := [(3, .inl x1), (0, .inr (.inr (some p0))), (1, .inl p1), (2, .inl p2)]) hC dX10_read_4 rfl (by decide) rfl ?_
  refine kj_aloadn hC 1 dX10_read_5 rfl rfl ?_
  refine kj_iloadn hC 0 dX10_read_6 rfl rfl ?_
  refine kj_if_ne (tgt := 14) hC dX10_read_7 (by decide) (fun q1 => ?_) (fun q1 => ?_)
  · refine kj_iconst (v := 1) hC dX10_read_10 (by decide) ?_
    refine kj_goto (tgt := 51) hC dX10_read_11 (by decide) ?_
    exact kj_sub [1, 2, 3] rfl (t_X10_read_b51 hC hN hT hmc hms hD  p0 p1 p2 1 p0 h1)
  · refine kj_iloadn hC 3 dX10_read_14 rfl rfl ?_
    refine kj_iconst (v := 0) hC dX10_read_15 (by decide) ?_
    refine kj_aloadn hC 1 dX10_read_16 rfl rfl ?_
    refine kj_gI (ci := 10) (k := 0) hC dX10_read_17 kf_X10_113 rfl (fun x2 => ?_)
    refine kj_invS (as := [.inl p2, .inl 0, .inl x2]) (rest := [.inr (.inr (some p0))]) hC hT dX10_read_20 kw1085 ky_X10_isIn ky2_X10_isIn (t_X10_isIn p2 0 x2 h1) rfl rfl (Nat.le_of_ble_eq_true rfl) ⟨by rw [hD]; decide, by decide⟩ ⟨by rw [hmc]; exact Nat.le_of_ble_eq_true rfl, by rw [hms]; exact Nat.le_of_ble_eq_true rfl⟩ (fun x3 h2 => ?_)
    refine kj_norm (st' := [.inl x3, .inr (.inr (some p0))]) (c' := 0) (z' := 0) rfl rfl rfl ?_
    refine kj_if_ne (tgt := 30) hC dX10_read_23 (by decide) (fun q2 => ?_) (fun q2 => ?_)
    · refine kj_iconst (v := 2) hC dX10_read_26 (by decide) ?_
      refine kj_goto (tgt := 51) hC dX10_read_27 (by decide) ?_
      exact kj_sub [1, 2, 3] rfl (t_X10_read_b51 hC hN hT hmc hms hD  p0 p1 p2 2 p0 h2)
    · refine kj_aloadn hC 1 dX10_read_30 rfl rfl ?_
      refine kj_gI (ci := 10) (k := 5) hC dX10_read_31 kf_X10_124 rfl (fun x4 => ?_)
      refine kj_if_eq (tgt := 46) hC dX10_read_34 (by decide) (fun q3 => ?_) (fun q3 => ?_)
      · exact kj_sub [1, 2, 3] rfl (t_X10_read_b46 hC hN hT hmc hms hD  p0 p1 p2 p0 h2)
      · refine kj_aloadn hC 1 dX10_read_37 rfl rfl ?_
        refine kj_gI (ci := 10) (k := 16) hC dX10_read_38 kf_X10_110 rfl (fun x5 => ?_)
        refine kj_bipush (v := 60) hC dX10_read_41 (by decide) ?_
        refine kj_icmp_ne (tgt := 50) hC dX10_read_43 (by decide) (fun q4 => ?_) (fun q4 => ?_)
        · exact kj_sub [1, 2, 3] rfl (t_X10_read_b46 hC hN hT hmc hms hD  p0 p1 p2 p0 h2)
        · refine kj_iconst (v := 0) hC dX10_read_50 (by decide) ?_
          exact kj_sub [1, 2, 3] rfl (t_X10_read_b51 hC hN hT hmc hms hD  p0 p1 p2 0 p0 h2)
set_option maxHeartbeats 4000000 in
set_option maxRecDepth 100000 in
theorem t_X10_costOf_b134 {X : KX} (hC : kC X RX10 cX10_costOf 8 (some .int)) (hN : (xme X).name = yX10_costOf.name) (hT : kT0 X) (hmc : xmc X = 0) (hms : xms X = 0) (hD : xD X = 0) (v3 : Int32) (h : KH) : kJ X (fun x : Int32 => some (.inl x)) 8 0 0 [(3, .inl v3)] [] 134 h (X10_costOf_b134  v3 h) := by
  unfold X10_costOf_b134
  refine kj_iloadn hC 0 dX10_costOf_134 rfl rfl ?_
  refine kj_fin hmc hms ?_
  exact kj_ireturn hC dX10_costOf_135
set_option maxHeartbeats 4000000 in
set_option maxRecDepth 100000 in
theorem t_X10_costOf_b127 {X : KX} (hC : kC X RX10 cX10_costOf 8 (some .int)) (hN : (xme X).name = yX10_costOf.name) (hT : kT0 X) (hmc : xmc X = 0) (hms : xms X = 0) (hD : xD X = 0) (rc24 : Nat → Int32 → Int32 → Int32 → Int32 → KH → KO Int32) (hr24 : ∀ (v0 : Nat) (v1 : Int32) (v2 : Int32) (v3 : Int32) (v4 : Int32) (h : KH), kJ X (fun x : Int32 => some (.inl x)) 8 0 0 [(0, .inr (.inr (some v0))), (1, .inl v1), (2, .inl v2), (3, .inl v3), (4, .inl v4)] [] 24 h (rc24 v0 v1 v2 v3 v4 h)) (v0 : Nat) (v1 : Int32) (v2 : Int32) (v4 : Int32) (s0 : Int32) (h : KH) : kJ X (fun x : Int32 => some (.inl x)) 8 0 0 [(0, .inr (.inr (some v0))), (1, .inl v1), (2, .inl v2), (4, .inl v4)] [.inl s0] 127 h (X10_costOf_b127 rc24 v0 v1 v2 v4 s0 h) := by
  unfold X10_costOf_b127
  refine kj_istoren (L' := [(3, .inl s0), (0, .inr (.inr (some v0))), (1, .inl v1), (2, .inl v2), (4, .inl v4)]) hC dX10_costOf_127 rfl (by decide) rfl ?_
  refine kj_iinc (v := v4 + 1) (L' := [(4, .inl (v4 + 1)), (3, .inl s0), (0, .inr (.inr (some v0))), (1, .inl v1), (2, .inl v2)]) hC 4 dX10_costOf_128 rfl rfl (by decide) rfl ?_
  refine kj_goto (tgt := 24) hC dX10_costOf_131 (by decide) ?_
  exact kj_sub [2, 3, 4, 1, 0] rfl (hr24 v0 v1 v2 s0 (v4 + 1) h)
set_option maxHeartbeats 4000000 in
set_option maxRecDepth 100000 in
theorem t_X10_costOf_b111 {X : KX} (hC : kC X RX10 cX10_costOf 8 (some .int)) (hN : (xme X).name = yX10_costOf.name) (hT : kT0 X) (hmc : xmc X = 0) (hms : xms X = 0) (hD : xD X = 0) (rc24 : Nat → Int32 → Int32 → Int32 → Int32 → KH → KO Int32) (hr24 : ∀ (v0 : Nat) (v1 : Int32) (v2 : Int32) (v3 : Int32) (v4 : Int32) (h : KH), kJ X (fun x : Int32 => some (.inl x)) 8 0 0 [(0, .inr (.inr (some v0))), (1, .inl v1), (2, .inl v2), (3, .inl v3), (4, .inl v4)] [] 24 h (rc24 v0 v1 v2 v3 v4 h)) (v0 : Nat) (v1 : Int32) (v2 : Int32) (v3 : Int32) (v4 : Int32) (s0 : Int32) (h : KH) : kJ X (fun x : Int32 => some (.inl x)) 8 0 0 [(0, .inr (.inr (some v0))), (1, .inl v1), (2, .inl v2), (3, .inl v3), (4, .inl v4)] [.inl s0] 111 h (X10_costOf_b111 rc24 v0 v1 v2 v3 v4 s0 h) := by
  unfold X10_costOf_b111
  refine kj_istore (L' := [(7, .inl s0), (0, .inr (.inr (some v0))), (1, .inl v1), (2, .inl v2), (3, .inl v3), (4, .inl v4)]) hC dX10_costOf_111 (by decide) rfl ?_
  refine kj_iload hC 0 dX10_costOf_113 rfl ?_
  refine kj_iconst (v := (-1)) hC dX10_costOf_115 (by decide) ?_
  refine kj_icmp_ne (tgt := 123) hC dX10_costOf_116 (by decide) (fun q1 => ?_) (fun q1 => ?_)
  · refine kj_iconst (v := (-1)) hC dX10_costOf_119 (by decide) ?_
    refine kj_goto (tgt := 127) hC dX10_costOf_120 (by decide) ?_
    exact kj_sub [1, 2, 3, 5] rfl (t_X10_costOf_b127 hC hN hT hmc hms hD rc24 hr24 v0 v1 v2 v4 ((-1)) h)
  · refine kj_iloadn hC 4 dX10_costOf_123 rfl rfl ?_
    refine kj_iload hC 0 dX10_costOf_124 rfl ?_
    refine kj_iadd hC dX10_costOf_126 ?_
    exact kj_sub [1, 2, 3, 5] rfl (t_X10_costOf_b127 hC hN hT hmc hms hD rc24 hr24 v0 v1 v2 v4 (v3 + s0) h)
set_option maxHeartbeats 4000000 in
set_option maxRecDepth 100000 in
theorem t_X10_costOf_b24 {X : KX} (hC : kC X RX10 cX10_costOf 8 (some .int)) (hN : (xme X).name = yX10_costOf.name) (hT : kT0 X) (hmc : xmc X = 0) (hms : xms X = 0) (hD : xD X = 0) (rc24 : Nat → Int32 → Int32 → Int32 → Int32 → KH → KO Int32) (hr24 : ∀ (v0 : Nat) (v1 : Int32) (v2 : Int32) (v3 : Int32) (v4 : Int32) (h : KH), kJ X (fun x : Int32 => some (.inl x)) 8 0 0 [(0, .inr (.inr (some v0))), (1, .inl v1), (2, .inl v2), (3, .inl v3), (4, .inl v4)] [] 24 h (rc24 v0 v1 v2 v3 v4 h)) (v0 : Nat) (v1 : Int32) (v2 : Int32) (v3 : Int32) (v4 : Int32) (h : KH) : kJ X (fun x : Int32 => some (.inl x)) 8 0 0 [(0, .inr (.inr (some v0))), (1, .inl v1), (2, .inl v2), (3, .inl v3), (4, .inl v4)] [] 24 h (X10_costOf_b24 rc24 v0 v1 v2 v3 v4 h) := by
  unfold X10_costOf_b24
  refine kj_iload hC 4 dX10_costOf_24 rfl ?_
  refine kj_aloadn hC 0 dX10_costOf_26 rfl rfl ?_
  refine kj_gN (ci := 10) (k := 19) hC dX10_costOf_27 kf_X10_54 rfl (fun a1 => ?_)
  refine kj_iloadn hC 1 dX10_costOf_30 rfl rfl ?_
  refine kj_gAI hC dX10_costOf_31 (fun x1 => ?_)
  refine kj_icmp_ge (tgt := 134) hC dX10_costOf_32 (by decide) (fun q1 => ?_) (fun q1 => ?_)
  · exact kj_sub [3] rfl (t_X10_costOf_b134 hC hN hT hmc hms hD  v3 h)
  · refine kj_iloadn hC 3 dX10_costOf_35 rfl rfl ?_
    refine kj_iconst (v := (-1)) hC dX10_costOf_36 (by decide) ?_
    refine kj_icmp_eq (tgt := 134) hC dX10_costOf_37 (by decide) (fun q2 => ?_) (fun q2 => ?_)
    · exact kj_sub [3] rfl (t_X10_costOf_b134 hC hN hT hmc hms hD  v3 h)
    · refine kj_aloadn hC 0 dX10_costOf_40 rfl rfl ?_
      refine kj_gN (ci := 10) (k := 20) hC dX10_costOf_41 kf_X10_57 rfl (fun a2 => ?_)
      refine kj_bipush (v := 6) hC dX10_costOf_44 (by decide) ?_
      refine kj_iloadn hC 1 dX10_costOf_46 rfl rfl ?_
      refine kj_imul hC dX10_costOf_47 ?_
      refine kj_iload hC 4 dX10_costOf_48 rfl ?_
      refine kj_iadd hC dX10_costOf_50 ?_
      refine kj_gAI hC dX10_costOf_51 (fun x2 => ?_)
      refine kj_istore (L' := [(5, .inl x2), (0, .inr (.inr (some v0))), (1, .inl v1), (2, .inl v2), (3, .inl v3), (4, .inl v4)]) hC dX10_costOf_52 (by decide) rfl ?_
      refine kj_aloadn hC 1 dX10_costOf_54 rfl rfl ?_
      refine kj_gN (ci := 10) (k := 10) hC dX10_costOf_55 kf_X10_33 rfl (fun a3 => ?_)
      refine kj_bipush (v := 6) hC dX10_costOf_58 (by decide) ?_
      refine kj_iloadn hC 3 dX10_costOf_60 rfl rfl ?_
      refine kj_imul hC dX10_costOf_61 ?_
      refine kj_iload hC 5 dX10_costOf_62 rfl ?_
      refine kj_iadd hC dX10_costOf_64 ?_
      refine kj_gAI hC dX10_costOf_65 (fun x3 => ?_)
      refine kj_istore (L' := [(6, .inl x3), (5, .inl x2), (0, .inr (.inr (some v0))), (1, .inl v1), (2, .inl v2), (3, .inl v3), (4, .inl v4)]) hC dX10_costOf_66 (by decide) rfl ?_
      refine kj_iload hC 1 dX10_costOf_68 rfl ?_
      refine kj_iload hC 0 dX10_costOf_70 rfl ?_
      refine kj_icmp_ne (tgt := 79) hC dX10_costOf_72 (by decide) (fun q3 => ?_) (fun q3 => ?_)
      · refine kj_iconst (v := 0) hC dX10_costOf_75 (by decide) ?_
        refine kj_goto (tgt := 111) hC dX10_costOf_76 (by decide) ?_
        exact kj_sub [2, 3, 4, 5, 6] rfl (t_X10_costOf_b111 hC hN hT hmc hms hD rc24 hr24 v0 v1 v2 v3 v4 0 h)
      · refine kj_iload hC 1 dX10_costOf_79 rfl ?_
        refine kj_bipush (v := 14) hC dX10_costOf_81 (by decide) ?_
        refine kj_icmp_ne (tgt := 90) hC dX10_costOf_83 (by decide) (fun q4 => ?_) (fun q4 => ?_)
        · refine kj_iconst (v := 2) hC dX10_costOf_86 (by decide) ?_
          refine kj_goto (tgt := 111) hC dX10_costOf_87 (by decide) ?_
          exact kj_sub [2, 3, 4, 5, 6] rfl (t_X10_costOf_b111 hC hN hT hmc hms hD rc24 hr24 v0 v1 v2 v3 v4 2 h)
        · refine kj_aloadn hC 2 dX10_costOf_90 rfl rfl ?_
          refine kj_gN (ci := 10) (k := 7) hC dX10_costOf_91 kf_X10_26 rfl (fun a4 => ?_)
          refine kj_bipush (v := 15) hC dX10_costOf_94 (by decide) ?_
          refine kj_iload hC 1 dX10_costOf_96 rfl ?_
          refine kj_imul hC dX10_costOf_98 ?_
          refine kj_iload hC 0 dX10_costOf_99 rfl ?_
          refine kj_iadd hC dX10_costOf_101 ?_
          refine kj_gAZ hC dX10_costOf_102 (fun x4 => ?_)
          refine kj_if_eq (tgt := 110) hC dX10_costOf_103 (by decide) (fun q5 => ?_) (fun q5 => ?_)
          · refine kj_iconst (v := (-1)) hC dX10_costOf_110 (by decide) ?_
            exact kj_sub [2, 3, 4, 5, 6] rfl (t_X10_costOf_b111 hC hN hT hmc hms hD rc24 hr24 v0 v1 v2 v3 v4 ((-1)) h)
          · refine kj_iconst (v := 1) hC dX10_costOf_106 (by decide) ?_
            refine kj_goto (tgt := 111) hC dX10_costOf_107 (by decide) ?_
            exact kj_sub [2, 3, 4, 5, 6] rfl (t_X10_costOf_b111 hC hN hT hmc hms hD rc24 hr24 v0 v1 v2 v3 v4 1 h)
set_option maxHeartbeats 4000000 in
set_option maxRecDepth 100000 in
theorem t_X10_costOf_L24 {X : KX} (hC : kC X RX10 cX10_costOf 8 (some .int)) (hN : (xme X).name = yX10_costOf.name) (hT : kT0 X) (hmc : xmc X = 0) (hms : xms X = 0) (hD : xD X = 0) : ∀ (n : Nat) (v0 : Nat) (v1 : Int32) (v2 : Int32) (v3 : Int32) (v4 : Int32) (h : KH), kJ X (fun x : Int32 => some (.inl x)) 8 0 0 [(0, .inr (.inr (some v0))), (1, .inl v1), (2, .inl v2), (3, .inl v3), (4, .inl v4)] [] 24 h (X10_costOf_L24  n v0 v1 v2 v3 v4 h) := by
  intro n
  induction n with
  | zero => intro v0 v1 v2 v3 v4 h; exact kj_none
  | succ n ih => intro v0 v1 v2 v3 v4 h; exact t_X10_costOf_b24 hC hN hT hmc hms hD (X10_costOf_L24  n) ih v0 v1 v2 v3 v4 h
set_option maxHeartbeats 4000000 in
set_option maxRecDepth 100000 in
theorem t_X10_costOf_b20 {X : KX} (hC : kC X RX10 cX10_costOf 8 (some .int)) (hN : (xme X).name = yX10_costOf.name) (hT : kT0 X) (hmc : xmc X = 0) (hms : xms X = 0) (hD : xD X = 0) (v0 : Nat) (v1 : Int32) (v2 : Int32) (s0 : Int32) (h : KH) : kJ X (fun x : Int32 => some (.inl x)) 8 0 0 [(0, .inr (.inr (some v0))), (1, .inl v1), (2, .inl v2)] [.inl s0] 20 h (X10_costOf_b20  v0 v1 v2 s0 h) := by
  unfold X10_costOf_b20
  refine kj_istoren (L' := [(3, .inl s0), (0, .inr (.inr (some v0))), (1, .inl v1), (2, .inl v2)]) hC dX10_costOf_20 rfl (by decide) rfl ?_
  refine kj_iconst (v := 0) hC dX10_costOf_21 (by decide) ?_
  refine kj_istore (L' := [(4, .inl 0), (3, .inl s0), (0, .inr (.inr (some v0))), (1, .inl v1), (2, .inl v2)]) hC dX10_costOf_22 (by decide) rfl ?_
  exact kj_sub [2, 3, 4, 1, 0] rfl (t_X10_costOf_L24 hC hN hT hmc hms hD  kF v0 v1 v2 s0 0 h)
set_option maxHeartbeats 4000000 in
set_option maxRecDepth 100000 in
theorem t_X10_costOf (p0 : Nat) (p1 : Int32) (p2 : Int32) (h : KH) : kM yX10_costOf cX10_costOf 8 (some .int) 0 0 0 (fun x : Int32 => some (.inl x)) [.inr (.inr (some p0)), .inl p1, .inl p2] h (f_X10_costOf p0 p1 p2 h) := by
  refine kM_of RX10 (by decide) rfl (Nat.le_of_ble_eq_true rfl) [(0, .inr (.inr (some p0))), (1, .inl p1), (2, .inl p2)] rfl (fun X hC hN hT hmc hms hD => ?_)
  unfold f_X10_costOf
  refine kj_aloadn hC 0 dX10_costOf_0 rfl rfl ?_
  refine kj_gN (ci := 10) (k := 19) hC dX10_costOf_1 kf_X10_54 rfl (fun a1 => ?_)
  refine kj_iloadn hC 1 dX10_costOf_4 rfl rfl ?_
  refine kj_gAI hC dX10_costOf_5 (fun x1 => ?_)
  refine kj_aloadn hC 0 dX10_costOf_6 rfl rfl ?_
  refine kj_gN (ci := 10) (k := 9) hC dX10_costOf_7 kf_X10_30 rfl (fun a2 => ?_)
  refine kj_iloadn hC 2 dX10_costOf_10 rfl rfl ?_
  refine kj_gAI hC dX10_costOf_11 (fun x2 => ?_)
  refine kj_icmp_ne (tgt := 19) hC dX10_costOf_12 (by decide) (fun q1 => ?_) (fun q1 => ?_)
  · refine kj_iconst (v := 0) hC dX10_costOf_15 (by decide) ?_
    refine kj_goto (tgt := 20) hC dX10_costOf_16 (by decide) ?_
    exact kj_sub [0, 1, 2] rfl (t_X10_costOf_b20 hC hN hT hmc hms hD  p0 p1 p2 0 h)
  · refine kj_iconst (v := (-1)) hC dX10_costOf_19 (by decide) ?_
    exact kj_sub [0, 1, 2] rfl (t_X10_costOf_b20 hC hN hT hmc hms hD  p0 p1 p2 ((-1)) h)
set_option maxHeartbeats 4000000 in
set_option maxRecDepth 100000 in
theorem t_X10_plateFor_b98 {X : KX} (hC : kC X RX10 cX10_plateFor 6 (some .int)) (hN : (xme X).name = yX10_plateFor.name) (hT : kT0 X) (hmc : xmc X = 0) (hms : xms X = 0) (hD : xD X = 2) (s0 : Int32) (h : KH) : kJ X (fun x : Int32 => some (.inl x)) 6 0 0 [] [.inl s0] 98 h (X10_plateFor_b98  s0 h) := by
  unfold X10_plateFor_b98
  refine kj_fin hmc hms ?_
  exact kj_ireturn hC dX10_plateFor_98
set_option maxHeartbeats 4000000 in
set_option maxRecDepth 100000 in
theorem t_X10_plateFor_b79 {X : KX} (hC : kC X RX10 cX10_plateFor 6 (some .int)) (hN : (xme X).name = yX10_plateFor.name) (hT : kT0 X) (hmc : xmc X = 0) (hms : xms X = 0) (hD : xD X = 2) (v0 : Nat) (v1 : Int32) (v2 : Int32) (h : KH) : kJ X (fun x : Int32 => some (.inl x)) 6 0 0 [(0, .inr (.inr (some v0))), (1, .inl v1), (2, .inl v2)] [] 79 h (X10_plateFor_b79  v0 v1 v2 h) := by
  unfold X10_plateFor_b79
  refine kj_aloadn hC 0 dX10_plateFor_79 rfl rfl ?_
  refine kj_gN (ci := 10) (k := 21) hC dX10_plateFor_80 kf_X10_60 rfl (fun a1 => ?_)
  refine kj_iloadn hC 1 dX10_plateFor_83 rfl rfl ?_
  refine kj_gAZ hC dX10_plateFor_84 (fun x1 => ?_)
  refine kj_if_eq (tgt := 97) hC dX10_plateFor_85 (by decide) (fun q1 => ?_) (fun q1 => ?_)
  · refine kj_iloadn hC 2 dX10_plateFor_97 rfl rfl ?_
    exact kj_sub [] rfl (t_X10_plateFor_b98 hC hN hT hmc hms hD  v2 h)
  · refine kj_aloadn hC 0 dX10_plateFor_88 rfl rfl ?_
    refine kj_gN (ci := 10) (k := 22) hC dX10_plateFor_89 kf_X10_63 rfl (fun a2 => ?_)
    refine kj_iloadn hC 1 dX10_plateFor_92 rfl rfl ?_
    refine kj_gAI hC dX10_plateFor_93 (fun x2 => ?_)
    refine kj_goto (tgt := 98) hC dX10_plateFor_94 (by decide) ?_
    exact kj_sub [] rfl (t_X10_plateFor_b98 hC hN hT hmc hms hD  x2 h)
set_option maxHeartbeats 4000000 in
set_option maxRecDepth 100000 in
theorem t_X10_plateFor_b73 {X : KX} (hC : kC X RX10 cX10_plateFor 6 (some .int)) (hN : (xme X).name = yX10_plateFor.name) (hT : kT0 X) (hmc : xmc X = 0) (hms : xms X = 0) (hD : xD X = 2) (rc7 : Nat → Int32 → Int32 → Int32 → Int32 → KH → KO Int32) (hr7 : ∀ (v0 : Nat) (v1 : Int32) (v2 : Int32) (v3 : Int32) (v4 : Int32) (h : KH), kJ X (fun x : Int32 => some (.inl x)) 6 0 0 [(0, .inr (.inr (some v0))), (1, .inl v1), (2, .inl v2), (3, .inl v3), (4, .inl v4)] [] 7 h (rc7 v0 v1 v2 v3 v4 h)) (v0 : Nat) (v1 : Int32) (v2 : Int32) (v3 : Int32) (v4 : Int32) (h : KH) : kJ X (fun x : Int32 => some (.inl x)) 6 0 0 [(0, .inr (.inr (some v0))), (1, .inl v1), (2, .inl v2), (3, .inl v3), (4, .inl v4)] [] 73 h (X10_plateFor_b73 rc7 v0 v1 v2 v3 v4 h) := by
  unfold X10_plateFor_b73
  refine kj_iinc (v := v4 + 1) (L' := [(4, .inl (v4 + 1)), (0, .inr (.inr (some v0))), (1, .inl v1), (2, .inl v2), (3, .inl v3)]) hC 4 dX10_plateFor_73 rfl rfl (by decide) rfl ?_
  refine kj_goto (tgt := 7) hC dX10_plateFor_76 (by decide) ?_
  exact kj_sub [1, 2, 3, 4, 0] rfl (hr7 v0 v1 v2 v3 (v4 + 1) h)
set_option maxHeartbeats 4000000 in
set_option maxRecDepth 100000 in
theorem t_X10_plateFor_b67 {X : KX} (hC : kC X RX10 cX10_plateFor 6 (some .int)) (hN : (xme X).name = yX10_plateFor.name) (hT : kT0 X) (hmc : xmc X = 0) (hms : xms X = 0) (hD : xD X = 2) (rc7 : Nat → Int32 → Int32 → Int32 → Int32 → KH → KO Int32) (hr7 : ∀ (v0 : Nat) (v1 : Int32) (v2 : Int32) (v3 : Int32) (v4 : Int32) (h : KH), kJ X (fun x : Int32 => some (.inl x)) 6 0 0 [(0, .inr (.inr (some v0))), (1, .inl v1), (2, .inl v2), (3, .inl v3), (4, .inl v4)] [] 7 h (rc7 v0 v1 v2 v3 v4 h)) (v0 : Nat) (v1 : Int32) (v4 : Int32) (v5 : Int32) (h : KH) : kJ X (fun x : Int32 => some (.inl x)) 6 0 0 [(0, .inr (.inr (some v0))), (1, .inl v1), (4, .inl v4), (5, .inl v5)] [] 67 h (X10_plateFor_b67 rc7 v0 v1 v4 v5 h) := by
  unfold X10_plateFor_b67
  refine kj_iload hC 2 dX10_plateFor_67 rfl ?_
  refine kj_istoren (L' := [(2, .inl v4), (0, .inr (.inr (some v0))), (1, .inl v1), (4, .inl v4), (5, .inl v5)]) hC dX10_plateFor_69 rfl (by decide) rfl ?_
  refine kj_iload hC 4 dX10_plateFor_70 rfl ?_
  refine kj_istoren (L' := [(3, .inl v5), (2, .inl v4), (0, .inr (.inr (some v0))), (1, .inl v1), (4, .inl v4), (5, .inl v5)]) hC dX10_plateFor_72 rfl (by decide) rfl ?_
  exact kj_sub [2, 3, 1, 0, 4] rfl (t_X10_plateFor_b73 hC hN hT hmc hms hD rc7 hr7 v0 v1 v4 v5 v4 h)
set_option maxHeartbeats 4000000 in
set_option maxRecDepth 100000 in
theorem t_X10_plateFor_b7 {X : KX} (hC : kC X RX10 cX10_plateFor 6 (some .int)) (hN : (xme X).name = yX10_plateFor.name) (hT : kT0 X) (hmc : xmc X = 0) (hms : xms X = 0) (hD : xD X = 2) (rc7 : Nat → Int32 → Int32 → Int32 → Int32 → KH → KO Int32) (hr7 : ∀ (v0 : Nat) (v1 : Int32) (v2 : Int32) (v3 : Int32) (v4 : Int32) (h : KH), kJ X (fun x : Int32 => some (.inl x)) 6 0 0 [(0, .inr (.inr (some v0))), (1, .inl v1), (2, .inl v2), (3, .inl v3), (4, .inl v4)] [] 7 h (rc7 v0 v1 v2 v3 v4 h)) (v0 : Nat) (v1 : Int32) (v2 : Int32) (v3 : Int32) (v4 : Int32) (h : KH) : kJ X (fun x : Int32 => some (.inl x)) 6 0 0 [(0, .inr (.inr (some v0))), (1, .inl v1), (2, .inl v2), (3, .inl v3), (4, .inl v4)] [] 7 h (X10_plateFor_b7 rc7 v0 v1 v2 v3 v4 h) := by
  unfold X10_plateFor_b7
  refine kj_iload hC 4 dX10_plateFor_7 rfl ?_
  refine kj_aloadn hC 0 dX10_plateFor_9 rfl rfl ?_
  refine kj_gI (ci := 10) (k := 8) hC dX10_plateFor_10 kf_X10_107 rfl (fun x1 => ?_)
  refine kj_icmp_ge (tgt := 79) hC dX10_plateFor_13 (by decide) (fun q1 => ?_) (fun q1 => ?_)
  · exact kj_sub [0, 1, 2] rfl (t_X10_plateFor_b79 hC hN hT hmc hms hD  v0 v1 v2 h)
  · refine kj_aloadn hC 0 dX10_plateFor_16 rfl rfl ?_
    refine kj_gN (ci := 10) (k := 21) hC dX10_plateFor_17 kf_X10_60 rfl (fun a1 => ?_)
    refine kj_iloadn hC 1 dX10_plateFor_20 rfl rfl ?_
    refine kj_gAZ hC dX10_plateFor_21 (fun x2 => ?_)
    refine kj_if_ne (tgt := 79) hC dX10_plateFor_22 (by decide) (fun q2 => ?_) (fun q2 => ?_)
    · refine kj_aloadn hC 0 dX10_plateFor_25 rfl rfl ?_
      refine kj_iloadn hC 1 dX10_plateFor_26 rfl rfl ?_
      refine kj_iload hC 4 dX10_plateFor_27 rfl ?_
      refine kj_invV (ci := 10) (q := (RX10, TX10, 36)) (as := [.inl v1, .inl v4]) (rest := []) hC hT dX10_plateFor_29 kw1223 ky_X10_costOf ky2_X10_costOf rfl rfl (t_X10_costOf v0 v1 v4 h) rfl rfl (Nat.le_of_ble_eq_true rfl) ⟨by rw [hD]; decide, by decide⟩ ⟨by rw [hmc]; exact Nat.le_of_ble_eq_true rfl, by rw [hms]; exact Nat.le_of_ble_eq_true rfl⟩ (fun x3 h1 => ?_)
      refine kj_norm (st' := [.inl x3]) (c' := 0) (z' := 0) rfl rfl rfl ?_
      refine kj_istore (L' := [(5, .inl x3), (0, .inr (.inr (some v0))), (1, .inl v1), (2, .inl v2), (3, .inl v3), (4, .inl v4)]) hC dX10_plateFor_32 (by decide) rfl ?_
      refine kj_iload hC 0 dX10_plateFor_34 rfl ?_
      refine kj_iconst (v := (-1)) hC dX10_plateFor_36 (by decide) ?_
      refine kj_icmp_eq (tgt := 73) hC dX10_plateFor_37 (by decide) (fun q3 => ?_) (fun q3 => ?_)
      · exact kj_sub [1, 2, 3, 4, 5] rfl (t_X10_plateFor_b73 hC hN hT hmc hms hD rc7 hr7 v0 v1 v2 v3 v4 h1)
      · refine kj_iloadn hC 3 dX10_plateFor_40 rfl rfl ?_
        refine kj_iconst (v := (-1)) hC dX10_plateFor_41 (by decide) ?_
        refine kj_icmp_eq (tgt := 67) hC dX10_plateFor_42 (by decide) (fun q4 => ?_) (fun q4 => ?_)
        · exact kj_sub [1, 2, 5, 0] rfl (t_X10_plateFor_b67 hC hN hT hmc hms hD rc7 hr7 v0 v1 v4 x3 h1)
        · refine kj_iload hC 0 dX10_plateFor_45 rfl ?_
          refine kj_iloadn hC 4 dX10_plateFor_47 rfl rfl ?_
          refine kj_icmp_lt (tgt := 67) hC dX10_plateFor_48 (by decide) (fun q5 => ?_) (fun q5 => ?_)
          · exact kj_sub [1, 2, 5, 0] rfl (t_X10_plateFor_b67 hC hN hT hmc hms hD rc7 hr7 v0 v1 v4 x3 h1)
          · refine kj_iload hC 0 dX10_plateFor_51 rfl ?_
            refine kj_iloadn hC 4 dX10_plateFor_53 rfl rfl ?_
            refine kj_icmp_ne (tgt := 73) hC dX10_plateFor_54 (by decide) (fun q6 => ?_) (fun q6 => ?_)
            · refine kj_aloadn hC 1 dX10_plateFor_57 rfl rfl ?_
              refine kj_iload hC 5 dX10_plateFor_58 rfl ?_
              refine kj_iloadn hC 3 dX10_plateFor_60 rfl rfl ?_
              refine kj_invV (ci := 10) (q := (RX10, TX10, 36)) (as := [.inl v4, .inl v2]) (rest := []) hC hT dX10_plateFor_61 kw1195 ky_X10_isAhead ky2_X10_isAhead rfl rfl (t_X10_isAhead v0 v4 v2 h1) rfl rfl (Nat.le_of_ble_eq_true rfl) ⟨by rw [hD]; decide, by decide⟩ ⟨by rw [hmc]; exact Nat.le_of_ble_eq_true rfl, by rw [hms]; exact Nat.le_of_ble_eq_true rfl⟩ (fun x4 h2 => ?_)
              refine kj_norm (st' := [.inl x4]) (c' := 0) (z' := 0) rfl rfl rfl ?_
              refine kj_if_eq (tgt := 73) hC dX10_plateFor_64 (by decide) (fun q7 => ?_) (fun q7 => ?_)
              · exact kj_sub [1, 2, 3, 4, 5] rfl (t_X10_plateFor_b73 hC hN hT hmc hms hD rc7 hr7 v0 v1 v2 v3 v4 h2)
              · exact kj_sub [1, 2, 5, 0] rfl (t_X10_plateFor_b67 hC hN hT hmc hms hD rc7 hr7 v0 v1 v4 x3 h2)
            · exact kj_sub [1, 2, 3, 4, 5] rfl (t_X10_plateFor_b73 hC hN hT hmc hms hD rc7 hr7 v0 v1 v2 v3 v4 h1)
    · exact kj_sub [0, 1, 2] rfl (t_X10_plateFor_b79 hC hN hT hmc hms hD  v0 v1 v2 h)
set_option maxHeartbeats 4000000 in
set_option maxRecDepth 100000 in
theorem t_X10_plateFor_L7 {X : KX} (hC : kC X RX10 cX10_plateFor 6 (some .int)) (hN : (xme X).name = yX10_plateFor.name) (hT : kT0 X) (hmc : xmc X = 0) (hms : xms X = 0) (hD : xD X = 2) : ∀ (n : Nat) (v0 : Nat) (v1 : Int32) (v2 : Int32) (v3 : Int32) (v4 : Int32) (h : KH), kJ X (fun x : Int32 => some (.inl x)) 6 0 0 [(0, .inr (.inr (some v0))), (1, .inl v1), (2, .inl v2), (3, .inl v3), (4, .inl v4)] [] 7 h (X10_plateFor_L7  n v0 v1 v2 v3 v4 h) := by
  intro n
  induction n with
  | zero => intro v0 v1 v2 v3 v4 h; exact kj_none
  | succ n ih => intro v0 v1 v2 v3 v4 h; exact t_X10_plateFor_b7 hC hN hT hmc hms hD (X10_plateFor_L7  n) ih v0 v1 v2 v3 v4 h
set_option maxHeartbeats 4000000 in
set_option maxRecDepth 100000 in
theorem t_X10_plateFor (p0 : Nat) (p1 : Int32) (h : KH) : kM yX10_plateFor cX10_plateFor 6 (some .int) 2 0 0 (fun x : Int32 => some (.inl x)) [.inr (.inr (some p0)), .inl p1] h (f_X10_plateFor p0 p1 h) := by
  refine kM_of RX10 (by decide) rfl (Nat.le_of_ble_eq_true rfl) [(0, .inr (.inr (some p0))), (1, .inl p1)] rfl (fun X hC hN hT hmc hms hD => ?_)
  unfold f_X10_plateFor
  refine kj_iconst (v := (-1)) hC dX10_plateFor_0 (by decide) ?_
  refine kj_istoren (L' := [(2, .inl (-1)), (0, .inr (.inr (some p0))), (1, .inl p1)]) hC dX10_plateFor_1 rfl (by decide) rfl ?_
  refine kj_iconst (v := (-1)) hC dX10_plateFor_2 (by decide) ?_
  refine kj_istoren (L' := [(3, .inl (-1)), (2, .inl (-1)), (0, .inr (.inr (some p0))), (1, .inl p1)]) hC dX10_plateFor_3 rfl (by decide) rfl ?_
  refine kj_iconst (v := 0) hC dX10_plateFor_4 (by decide) ?_
  refine kj_istore (L' := [(4, .inl 0), (3, .inl (-1)), (2, .inl (-1)), (0, .inr (.inr (some p0))), (1, .inl p1)]) hC dX10_plateFor_5 (by decide) rfl ?_
  exact kj_sub [3, 4, 2, 1, 0] rfl (t_X10_plateFor_L7 hC hN hT hmc hms hD  kF p0 p1 ((-1)) ((-1)) 0 h)
set_option maxHeartbeats 4000000 in
set_option maxRecDepth 100000 in
theorem t_X10_correct_b38 {X : KX} (hC : kC X RX10 cX10_correct 5 (some .int)) (hN : (xme X).name = yX10_correct.name) (hT : kT0 X) (hmc : xmc X = 0) (hms : xms X = 0) (hD : xD X = 3) (v0 : Nat) (v1 : Int32) (v2 : Int32) (s0 : Int32) (s1 : Nat) (h : KH) : kJ X (fun x : Int32 => some (.inl x)) 5 0 0 [(0, .inr (.inr (some v0))), (1, .inl v1), (2, .inl v2)] [.inl s0, .inr (.inr (some s1))] 38 h (X10_correct_b38  v0 v1 v2 s0 s1 h) := by
  unfold X10_correct_b38
  refine kj_invV (ci := 10) (q := (RX10, TX10, 36)) (as := [.inl s0]) (rest := []) hC hT dX10_correct_38 kw1089 ky_X10_can ky2_X10_can rfl rfl (t_X10_can s1 s0 h) rfl rfl (Nat.le_of_ble_eq_true rfl) ⟨by rw [hD]; decide, by decide⟩ ⟨by rw [hmc]; exact Nat.le_of_ble_eq_true rfl, by rw [hms]; exact Nat.le_of_ble_eq_true rfl⟩ (fun x1 h1 => ?_)
  refine kj_norm (st' := [.inl x1]) (c' := 0) (z' := 0) rfl rfl rfl ?_
  refine kj_if_ne (tgt := 46) hC dX10_correct_41 (by decide) (fun q1 => ?_) (fun q1 => ?_)
  · refine kj_iconst (v := 0) hC dX10_correct_44 (by decide) ?_
    refine kj_fin hmc hms ?_
    exact kj_ireturn hC dX10_correct_45
  · refine kj_aloadn hC 0 dX10_correct_46 rfl rfl ?_
    refine kj_iloadn hC 1 dX10_correct_47 rfl rfl ?_
    refine kj_invV (ci := 10) (q := (RX10, TX10, 36)) (as := [.inl v1]) (rest := []) hC hT dX10_correct_48 kw1219 ky_X10_plateFor ky2_X10_plateFor rfl rfl (t_X10_plateFor v0 v1 h1) rfl rfl (Nat.le_of_ble_eq_true rfl) ⟨by rw [hD]; decide, by decide⟩ ⟨by rw [hmc]; exact Nat.le_of_ble_eq_true rfl, by rw [hms]; exact Nat.le_of_ble_eq_true rfl⟩ (fun x2 h2 => ?_)
    refine kj_norm (st' := [.inl x2]) (c' := 0) (z' := 0) rfl rfl rfl ?_
    refine kj_istore (L' := [(4, .inl x2), (0, .inr (.inr (some v0))), (1, .inl v1), (2, .inl v2)]) hC dX10_correct_51 (by decide) rfl ?_
    refine kj_aloadn hC 1 dX10_correct_53 rfl rfl ?_
    refine kj_gN (ci := 10) (k := 21) hC dX10_correct_54 kf_X10_60 rfl (fun a1 => ?_)
    refine kj_iloadn hC 2 dX10_correct_57 rfl rfl ?_
    refine kj_iconst (v := 1) hC dX10_correct_58 (by decide) ?_
    refine kj_pAZ hC dX10_correct_59 (fun h3 => ?_)
    refine kj_aloadn hC 1 dX10_correct_60 rfl rfl ?_
    refine kj_gN (ci := 10) (k := 22) hC dX10_correct_61 kf_X10_63 rfl (fun a2 => ?_)
    refine kj_iloadn hC 2 dX10_correct_64 rfl rfl ?_
    refine kj_iloadn hC 3 dX10_correct_65 rfl rfl ?_
    refine kj_pAI hC dX10_correct_66 (fun h4 => ?_)
    refine kj_iload hC 0 dX10_correct_67 rfl ?_
    refine kj_fin hmc hms ?_
    exact kj_ireturn hC dX10_correct_69
set_option maxHeartbeats 4000000 in
set_option maxRecDepth 100000 in
theorem t_X10_correct_b27 {X : KX} (hC : kC X RX10 cX10_correct 5 (some .int)) (hN : (xme X).name = yX10_correct.name) (hT : kT0 X) (hmc : xmc X = 0) (hms : xms X = 0) (hD : xD X = 3) (v0 : Nat) (v1 : Int32) (v2 : Int32) (s0 : Int32) (h : KH) : kJ X (fun x : Int32 => some (.inl x)) 5 0 0 [(0, .inr (.inr (some v0))), (1, .inl v1), (2, .inl v2)] [.inl s0] 27 h (X10_correct_b27  v0 v1 v2 s0 h) := by
  unfold X10_correct_b27
  refine kj_istoren (L' := [(3, .inl s0), (0, .inr (.inr (some v0))), (1, .inl v1), (2, .inl v2)]) hC dX10_correct_27 rfl (by decide) rfl ?_
  refine kj_aloadn hC 1 dX10_correct_28 rfl rfl ?_
  refine kj_iloadn hC 0 dX10_correct_29 rfl rfl ?_
  refine kj_if_eq (tgt := 37) hC dX10_correct_30 (by decide) (fun q1 => ?_) (fun q1 => ?_)
  · refine kj_iconst (v := 1) hC dX10_correct_37 (by decide) ?_
    exact kj_sub [1, 2, 3] rfl (t_X10_correct_b38 hC hN hT hmc hms hD  v0 v1 v2 1 v0 h)
  · refine kj_iconst (v := 0) hC dX10_correct_33 (by decide) ?_
    refine kj_goto (tgt := 38) hC dX10_correct_34 (by decide) ?_
    exact kj_sub [1, 2, 3] rfl (t_X10_correct_b38 hC hN hT hmc hms hD  v0 v1 v2 0 v0 h)
set_option maxHeartbeats 4000000 in
set_option maxRecDepth 100000 in
theorem t_X10_correct_b26 {X : KX} (hC : kC X RX10 cX10_correct 5 (some .int)) (hN : (xme X).name = yX10_correct.name) (hT : kT0 X) (hmc : xmc X = 0) (hms : xms X = 0) (hD : xD X = 3) (v0 : Nat) (v1 : Int32) (v2 : Int32) (h : KH) : kJ X (fun x : Int32 => some (.inl x)) 5 0 0 [(0, .inr (.inr (some v0))), (1, .inl v1), (2, .inl v2)] [] 26 h (X10_correct_b26  v0 v1 v2 h) := by
  unfold X10_correct_b26
  refine kj_iconst (v := 0) hC dX10_correct_26 (by decide) ?_
  exact kj_sub [0, 1, 2] rfl (t_X10_correct_b27 hC hN hT hmc hms hD  v0 v1 v2 0 h)
set_option maxHeartbeats 4000000 in
set_option maxRecDepth 100000 in
theorem t_X10_correct (p0 : Nat) (p1 : Int32) (p2 : Int32) (h : KH) : kM yX10_correct cX10_correct 5 (some .int) 3 0 0 (fun x : Int32 => some (.inl x)) [.inr (.inr (some p0)), .inl p1, .inl p2] h (f_X10_correct p0 p1 p2 h) := by
  refine kM_of RX10 (by decide) rfl (Nat.le_of_ble_eq_true rfl) [(0, .inr (.inr (some p0))), (1, .inl p1), (2, .inl p2)] rfl (fun X hC hN hT hmc hms hD => ?_)
  unfold f_X10_correct
  refine kj_aloadn hC 0 dX10_correct_0 rfl rfl ?_
  refine kj_iloadn hC 1 dX10_correct_1 rfl rfl ?_
  refine kj_invV (ci := 10) (q := (RX10, TX10, 36)) (as := [.inl p1]) (rest := []) hC hT dX10_correct_2 kw1215 ky_X10_isReading ky2_X10_isReading rfl rfl (t_X10_isReading p0 p1 h) rfl rfl (Nat.le_of_ble_eq_true rfl) ⟨by rw [hD]; decide, by decide⟩ ⟨by rw [hmc]; exact Nat.le_of_ble_eq_true rfl, by rw [hms]; exact Nat.le_of_ble_eq_true rfl⟩ (fun x1 h1 => ?_)
  refine kj_norm (st' := [.inl x1]) (c' := 0) (z' := 0) rfl rfl rfl ?_
  refine kj_if_eq (tgt := 26) hC dX10_correct_5 (by decide) (fun q1 => ?_) (fun q1 => ?_)
  · exact kj_sub [0, 1, 2] rfl (t_X10_correct_b26 hC hN hT hmc hms hD  p0 p1 p2 h1)
  · refine kj_iloadn hC 2 dX10_correct_8 rfl rfl ?_
    refine kj_iconst (v := (-1)) hC dX10_correct_9 (by decide) ?_
    refine kj_aloadn hC 0 dX10_correct_10 rfl rfl ?_
    refine kj_gI (ci := 10) (k := 8) hC dX10_correct_11 kf_X10_107 rfl (fun x2 => ?_)
    refine kj_iconst (v := 1) hC dX10_correct_14 (by decide) ?_
    refine kj_isub hC dX10_correct_15 ?_
    refine kj_invS (as := [.inl p2, .inl (-1), .inl (x2 - 1)]) (rest := []) hC hT dX10_correct_16 kw1085 ky_X10_isIn ky2_X10_isIn (t_X10_isIn p2 ((-1)) (x2 - 1) h1) rfl rfl (Nat.le_of_ble_eq_true rfl) ⟨by rw [hD]; decide, by decide⟩ ⟨by rw [hmc]; exact Nat.le_of_ble_eq_true rfl, by rw [hms]; exact Nat.le_of_ble_eq_true rfl⟩ (fun x3 h2 => ?_)
    refine kj_norm (st' := [.inl x3]) (c' := 0) (z' := 0) rfl rfl rfl ?_
    refine kj_if_eq (tgt := 26) hC dX10_correct_19 (by decide) (fun q2 => ?_) (fun q2 => ?_)
    · exact kj_sub [0, 1, 2] rfl (t_X10_correct_b26 hC hN hT hmc hms hD  p0 p1 p2 h2)
    · refine kj_iconst (v := 1) hC dX10_correct_22 (by decide) ?_
      refine kj_goto (tgt := 27) hC dX10_correct_23 (by decide) ?_
      exact kj_sub [0, 1, 2] rfl (t_X10_correct_b27 hC hN hT hmc hms hD  p0 p1 p2 1 h2)
set_option maxHeartbeats 4000000 in
set_option maxRecDepth 100000 in
theorem t_X10_uncorrect_b27 {X : KX} (hC : kC X RX10 cX10_uncorrect 2 (some .int)) (hN : (xme X).name = yX10_uncorrect.name) (hT : kT0 X) (hmc : xmc X = 0) (hms : xms X = 0) (hD : xD X = 3) (v0 : Nat) (v1 : Int32) (s0 : Int32) (s1 : Nat) (h : KH) : kJ X (fun x : Int32 => some (.inl x)) 2 0 0 [(0, .inr (.inr (some v0))), (1, .inl v1)] [.inl s0, .inr (.inr (some s1))] 27 h (X10_uncorrect_b27  v0 v1 s0 s1 h) := by
  unfold X10_uncorrect_b27
  refine kj_invV (ci := 10) (q := (RX10, TX10, 36)) (as := [.inl s0]) (rest := []) hC hT dX10_uncorrect_27 kw1089 ky_X10_can ky2_X10_can rfl rfl (t_X10_can s1 s0 h) rfl rfl (Nat.le_of_ble_eq_true rfl) ⟨by rw [hD]; decide, by decide⟩ ⟨by rw [hmc]; exact Nat.le_of_ble_eq_true rfl, by rw [hms]; exact Nat.le_of_ble_eq_true rfl⟩ (fun x1 h1 => ?_)
  refine kj_norm (st' := [.inl x1]) (c' := 0) (z' := 0) rfl rfl rfl ?_
  refine kj_if_ne (tgt := 35) hC dX10_uncorrect_30 (by decide) (fun q1 => ?_) (fun q1 => ?_)
  · refine kj_iconst (v := 0) hC dX10_uncorrect_33 (by decide) ?_
    refine kj_fin hmc hms ?_
    exact kj_ireturn hC dX10_uncorrect_34
  · refine kj_aloadn hC 0 dX10_uncorrect_35 rfl rfl ?_
    refine kj_gN (ci := 10) (k := 21) hC dX10_uncorrect_36 kf_X10_60 rfl (fun a1 => ?_)
    refine kj_iloadn hC 1 dX10_uncorrect_39 rfl rfl ?_
    refine kj_iconst (v := 0) hC dX10_uncorrect_40 (by decide) ?_
    refine kj_pAZ hC dX10_uncorrect_41 (fun h2 => ?_)
    refine kj_aloadn hC 0 dX10_uncorrect_42 rfl rfl ?_
    refine kj_iloadn hC 1 dX10_uncorrect_43 rfl rfl ?_
    refine kj_invV (ci := 10) (q := (RX10, TX10, 36)) (as := [.inl v1]) (rest := []) hC hT dX10_uncorrect_44 kw1219 ky_X10_plateFor ky2_X10_plateFor rfl rfl (t_X10_plateFor v0 v1 h2) rfl rfl (Nat.le_of_ble_eq_true rfl) ⟨by rw [hD]; decide, by decide⟩ ⟨by rw [hmc]; exact Nat.le_of_ble_eq_true rfl, by rw [hms]; exact Nat.le_of_ble_eq_true rfl⟩ (fun x2 h3 => ?_)
    refine kj_norm (st' := [.inl x2]) (c' := 0) (z' := 0) rfl rfl rfl ?_
    refine kj_fin hmc hms ?_
    exact kj_ireturn hC dX10_uncorrect_47
set_option maxHeartbeats 4000000 in
set_option maxRecDepth 100000 in
theorem t_X10_uncorrect (p0 : Nat) (p1 : Int32) (h : KH) : kM yX10_uncorrect cX10_uncorrect 2 (some .int) 3 0 0 (fun x : Int32 => some (.inl x)) [.inr (.inr (some p0)), .inl p1] h (f_X10_uncorrect p0 p1 h) := by
  refine kM_of RX10 (by decide) rfl (Nat.le_of_ble_eq_true rfl) [(0, .inr (.inr (some p0))), (1, .inl p1)] rfl (fun X hC hN hT hmc hms hD => ?_)
  unfold f_X10_uncorrect
  refine kj_aloadn hC 0 dX10_uncorrect_0 rfl rfl ?_
  refine kj_aloadn hC 0 dX10_uncorrect_1 rfl rfl ?_
  refine kj_iloadn hC 1 dX10_uncorrect_2 rfl rfl ?_
  refine kj_invV (ci := 10) (q := (RX10, TX10, 36)) (as := [.inl p1]) (rest := [.inr (.inr (some p0))]) hC hT dX10_uncorrect_3 kw1215 ky_X10_isReading ky2_X10_isReading rfl rfl (t_X10_isReading p0 p1 h) rfl rfl (Nat.le_of_ble_eq_true rfl) ⟨by rw [hD]; decide, by decide⟩ ⟨by rw [hmc]; exact Nat.le_of_ble_eq_true rfl, by rw [hms]; exact Nat.le_of_ble_eq_true rfl⟩ (fun x1 h1 => ?_)
  refine kj_norm (st' := [.inl x1, .inr (.inr (some p0))]) (c' := 0) (z' := 0) rfl rfl rfl ?_
  refine kj_if_ne (tgt := 13) hC dX10_uncorrect_6 (by decide) (fun q1 => ?_) (fun q1 => ?_)
  · refine kj_iconst (v := 1) hC dX10_uncorrect_9 (by decide) ?_
    refine kj_goto (tgt := 27) hC dX10_uncorrect_10 (by decide) ?_
    exact kj_sub [0, 1] rfl (t_X10_uncorrect_b27 hC hN hT hmc hms hD  p0 p1 1 p0 h1)
  · refine kj_aloadn hC 0 dX10_uncorrect_13 rfl rfl ?_
    refine kj_gN (ci := 10) (k := 21) hC dX10_uncorrect_14 kf_X10_60 rfl (fun a1 => ?_)
    refine kj_iloadn hC 1 dX10_uncorrect_17 rfl rfl ?_
    refine kj_gAZ hC dX10_uncorrect_18 (fun x2 => ?_)
    refine kj_if_eq (tgt := 26) hC dX10_uncorrect_19 (by decide) (fun q2 => ?_) (fun q2 => ?_)
    · refine kj_iconst (v := 2) hC dX10_uncorrect_26 (by decide) ?_
      exact kj_sub [0, 1] rfl (t_X10_uncorrect_b27 hC hN hT hmc hms hD  p0 p1 2 p0 h1)
    · refine kj_iconst (v := 0) hC dX10_uncorrect_22 (by decide) ?_
      refine kj_goto (tgt := 27) hC dX10_uncorrect_23 (by decide) ?_
      exact kj_sub [0, 1] rfl (t_X10_uncorrect_b27 hC hN hT hmc hms hD  p0 p1 0 p0 h1)
set_option maxHeartbeats 4000000 in
set_option maxRecDepth 100000 in
theorem t_X10_plateOf_b29 {X : KX} (hC : kC X RX10 cX10_plateOf 2 (some .int)) (hN : (xme X).name = yX10_plateOf.name) (hT : kT0 X) (hmc : xmc X = 0) (hms : xms X = 0) (hD : xD X = 3) (s0 : Int32) (h : KH) : kJ X (fun x : Int32 => some (.inl x)) 2 0 0 [] [.inl s0] 29 h (X10_plateOf_b29  s0 h) := by
  unfold X10_plateOf_b29
  refine kj_fin hmc hms ?_
  exact kj_ireturn hC dX10_plateOf_29
set_option maxHeartbeats 4000000 in
set_option maxRecDepth 100000 in
theorem t_X10_plateOf_b14 {X : KX} (hC : kC X RX10 cX10_plateOf 2 (some .int)) (hN : (xme X).name = yX10_plateOf.name) (hT : kT0 X) (hmc : xmc X = 0) (hms : xms X = 0) (hD : xD X = 3) (v0 : Nat) (v1 : Int32) (s0 : Int32) (s1 : Nat) (h : KH) : kJ X (fun x : Int32 => some (.inl x)) 2 0 0 [(0, .inr (.inr (some v0))), (1, .inl v1)] [.inl s0, .inr (.inr (some s1))] 14 h (X10_plateOf_b14  v0 v1 s0 s1 h) := by
  unfold X10_plateOf_b14
  refine kj_invV (ci := 10) (q := (RX10, TX10, 36)) (as := [.inl s0]) (rest := []) hC hT dX10_plateOf_14 kw1089 ky_X10_can ky2_X10_can rfl rfl (t_X10_can s1 s0 h) rfl rfl (Nat.le_of_ble_eq_true rfl) ⟨by rw [hD]; decide, by decide⟩ ⟨by rw [hmc]; exact Nat.le_of_ble_eq_true rfl, by rw [hms]; exact Nat.le_of_ble_eq_true rfl⟩ (fun x1 h1 => ?_)
  refine kj_norm (st' := [.inl x1]) (c' := 0) (z' := 0) rfl rfl rfl ?_
  refine kj_if_eq (tgt := 28) hC dX10_plateOf_17 (by decide) (fun q1 => ?_) (fun q1 => ?_)
  · refine kj_iconst (v := 0) hC dX10_plateOf_28 (by decide) ?_
    exact kj_sub [] rfl (t_X10_plateOf_b29 hC hN hT hmc hms hD  0 h1)
  · refine kj_aloadn hC 0 dX10_plateOf_20 rfl rfl ?_
    refine kj_iloadn hC 1 dX10_plateOf_21 rfl rfl ?_
    refine kj_invV (ci := 10) (q := (RX10, TX10, 36)) (as := [.inl v1]) (rest := []) hC hT dX10_plateOf_22 kw1219 ky_X10_plateFor ky2_X10_plateFor rfl rfl (t_X10_plateFor v0 v1 h1) rfl rfl (Nat.le_of_ble_eq_true rfl) ⟨by rw [hD]; decide, by decide⟩ ⟨by rw [hmc]; exact Nat.le_of_ble_eq_true rfl, by rw [hms]; exact Nat.le_of_ble_eq_true rfl⟩ (fun x2 h2 => ?_)
    refine kj_norm (st' := [.inl x2]) (c' := 0) (z' := 0) rfl rfl rfl ?_
    refine kj_goto (tgt := 29) hC dX10_plateOf_25 (by decide) ?_
    exact kj_sub [] rfl (t_X10_plateOf_b29 hC hN hT hmc hms hD  x2 h2)
set_option maxHeartbeats 4000000 in
set_option maxRecDepth 100000 in
theorem t_X10_plateOf (p0 : Nat) (p1 : Int32) (h : KH) : kM yX10_plateOf cX10_plateOf 2 (some .int) 3 0 0 (fun x : Int32 => some (.inl x)) [.inr (.inr (some p0)), .inl p1] h (f_X10_plateOf p0 p1 h) := by
  refine kM_of RX10 (by decide) rfl (Nat.le_of_ble_eq_true rfl) [(0, .inr (.inr (some p0))), (1, .inl p1)] rfl (fun X hC hN hT hmc hms hD => ?_)
  unfold f_X10_plateOf
  refine kj_aloadn hC 0 dX10_plateOf_0 rfl rfl ?_
  refine kj_aloadn hC 0 dX10_plateOf_1 rfl rfl ?_
  refine kj_iloadn hC 1 dX10_plateOf_2 rfl rfl ?_
  refine kj_invV (ci := 10) (q := (RX10, TX10, 36)) (as := [.inl p1]) (rest := [.inr (.inr (some p0))]) hC hT dX10_plateOf_3 kw1215 ky_X10_isReading ky2_X10_isReading rfl rfl (t_X10_isReading p0 p1 h) rfl rfl (Nat.le_of_ble_eq_true rfl) ⟨by rw [hD]; decide, by decide⟩ ⟨by rw [hmc]; exact Nat.le_of_ble_eq_true rfl, by rw [hms]; exact Nat.le_of_ble_eq_true rfl⟩ (fun x1 h1 => ?_)
  refine kj_norm (st' := [.inl x1, .inr (.inr (some p0))]) (c' := 0) (z' := 0) rfl rfl rfl ?_
  refine kj_if_eq (tgt := 13) hC dX10_plateOf_6 (by decide) (fun q1 => ?_) (fun q1 => ?_)
  · refine kj_iconst (v := 1) hC dX10_plateOf_13 (by decide) ?_
    exact kj_sub [0, 1] rfl (t_X10_plateOf_b14 hC hN hT hmc hms hD  p0 p1 1 p0 h1)
  · refine kj_iconst (v := 0) hC dX10_plateOf_9 (by decide) ?_
    refine kj_goto (tgt := 14) hC dX10_plateOf_10 (by decide) ?_
    exact kj_sub [0, 1] rfl (t_X10_plateOf_b14 hC hN hT hmc hms hD  p0 p1 0 p0 h1)
set_option maxHeartbeats 4000000 in
set_option maxRecDepth 100000 in
theorem t_X10_cost_b38 {X : KX} (hC : kC X RX10 cX10_cost 3 (some .int)) (hN : (xme X).name = yX10_cost.name) (hT : kT0 X) (hmc : xmc X = 0) (hms : xms X = 0) (hD : xD X = 2) (s0 : Int32) (h : KH) : kJ X (fun x : Int32 => some (.inl x)) 3 0 0 [] [.inl s0] 38 h (X10_cost_b38  s0 h) := by
  unfold X10_cost_b38
  refine kj_fin hmc hms ?_
  exact kj_ireturn hC dX10_cost_38
set_option maxHeartbeats 4000000 in
set_option maxRecDepth 100000 in
theorem t_X10_cost_b22 {X : KX} (hC : kC X RX10 cX10_cost 3 (some .int)) (hN : (xme X).name = yX10_cost.name) (hT : kT0 X) (hmc : xmc X = 0) (hms : xms X = 0) (hD : xD X = 2) (v0 : Nat) (v1 : Int32) (v2 : Int32) (s0 : Int32) (s1 : Nat) (h : KH) : kJ X (fun x : Int32 => some (.inl x)) 3 0 0 [(0, .inr (.inr (some v0))), (1, .inl v1), (2, .inl v2)] [.inl s0, .inr (.inr (some s1))] 22 h (X10_cost_b22  v0 v1 v2 s0 s1 h) := by
  unfold X10_cost_b22
  refine kj_invV (ci := 10) (q := (RX10, TX10, 36)) (as := [.inl s0]) (rest := []) hC hT dX10_cost_22 kw1089 ky_X10_can ky2_X10_can rfl rfl (t_X10_can s1 s0 h) rfl rfl (Nat.le_of_ble_eq_true rfl) ⟨by rw [hD]; decide, by decide⟩ ⟨by rw [hmc]; exact Nat.le_of_ble_eq_true rfl, by rw [hms]; exact Nat.le_of_ble_eq_true rfl⟩ (fun x1 h1 => ?_)
  refine kj_norm (st' := [.inl x1]) (c' := 0) (z' := 0) rfl rfl rfl ?_
  refine kj_if_eq (tgt := 37) hC dX10_cost_25 (by decide) (fun q1 => ?_) (fun q1 => ?_)
  · refine kj_iconst (v := 0) hC dX10_cost_37 (by decide) ?_
    exact kj_sub [] rfl (t_X10_cost_b38 hC hN hT hmc hms hD  0 h1)
  · refine kj_aloadn hC 0 dX10_cost_28 rfl rfl ?_
    refine kj_iloadn hC 1 dX10_cost_29 rfl rfl ?_
    refine kj_iloadn hC 2 dX10_cost_30 rfl rfl ?_
    refine kj_invV (ci := 10) (q := (RX10, TX10, 36)) (as := [.inl v1, .inl v2]) (rest := []) hC hT dX10_cost_31 kw1223 ky_X10_costOf ky2_X10_costOf rfl rfl (t_X10_costOf v0 v1 v2 h1) rfl rfl (Nat.le_of_ble_eq_true rfl) ⟨by rw [hD]; decide, by decide⟩ ⟨by rw [hmc]; exact Nat.le_of_ble_eq_true rfl, by rw [hms]; exact Nat.le_of_ble_eq_true rfl⟩ (fun x2 h2 => ?_)
    refine kj_norm (st' := [.inl x2]) (c' := 0) (z' := 0) rfl rfl rfl ?_
    refine kj_goto (tgt := 38) hC dX10_cost_34 (by decide) ?_
    exact kj_sub [] rfl (t_X10_cost_b38 hC hN hT hmc hms hD  x2 h2)
set_option maxHeartbeats 4000000 in
set_option maxRecDepth 100000 in
theorem t_X10_cost_b21 {X : KX} (hC : kC X RX10 cX10_cost 3 (some .int)) (hN : (xme X).name = yX10_cost.name) (hT : kT0 X) (hmc : xmc X = 0) (hms : xms X = 0) (hD : xD X = 2) (v0 : Nat) (v1 : Int32) (v2 : Int32) (s0 : Nat) (h : KH) : kJ X (fun x : Int32 => some (.inl x)) 3 0 0 [(0, .inr (.inr (some v0))), (1, .inl v1), (2, .inl v2)] [.inr (.inr (some s0))] 21 h (X10_cost_b21  v0 v1 v2 s0 h) := by
  unfold X10_cost_b21
  refine kj_iconst (v := 1) hC dX10_cost_21 (by decide) ?_
  exact kj_sub [0, 1, 2] rfl (t_X10_cost_b22 hC hN hT hmc hms hD  v0 v1 v2 1 s0 h)
set_option maxHeartbeats 4000000 in
set_option maxRecDepth 100000 in
theorem t_X10_cost (p0 : Nat) (p1 : Int32) (p2 : Int32) (h : KH) : kM yX10_cost cX10_cost 3 (some .int) 2 0 0 (fun x : Int32 => some (.inl x)) [.inr (.inr (some p0)), .inl p1, .inl p2] h (f_X10_cost p0 p1 p2 h) := by
  refine kM_of RX10 (by decide) rfl (Nat.le_of_ble_eq_true rfl) [(0, .inr (.inr (some p0))), (1, .inl p1), (2, .inl p2)] rfl (fun X hC hN hT hmc hms hD => ?_)
  unfold f_X10_cost
  refine kj_aloadn hC 0 dX10_cost_0 rfl rfl ?_
  refine kj_aloadn hC 0 dX10_cost_1 rfl rfl ?_
  refine kj_iloadn hC 1 dX10_cost_2 rfl rfl ?_
  refine kj_invV (ci := 10) (q := (RX10, TX10, 36)) (as := [.inl p1]) (rest := [.inr (.inr (some p0))]) hC hT dX10_cost_3 kw1215 ky_X10_isReading ky2_X10_isReading rfl rfl (t_X10_isReading p0 p1 h) rfl rfl (Nat.le_of_ble_eq_true rfl) ⟨by rw [hD]; decide, by decide⟩ ⟨by rw [hmc]; exact Nat.le_of_ble_eq_true rfl, by rw [hms]; exact Nat.le_of_ble_eq_true rfl⟩ (fun x1 h1 => ?_)
  refine kj_norm (st' := [.inl x1, .inr (.inr (some p0))]) (c' := 0) (z' := 0) rfl rfl rfl ?_
  refine kj_if_eq (tgt := 21) hC dX10_cost_6 (by decide) (fun q1 => ?_) (fun q1 => ?_)
  · exact kj_sub [0, 1, 2] rfl (t_X10_cost_b21 hC hN hT hmc hms hD  p0 p1 p2 p0 h1)
  · refine kj_aloadn hC 0 dX10_cost_9 rfl rfl ?_
    refine kj_iloadn hC 2 dX10_cost_10 rfl rfl ?_
    refine kj_invV (ci := 10) (q := (RX10, TX10, 36)) (as := [.inl p2]) (rest := [.inr (.inr (some p0))]) hC hT dX10_cost_11 kw1179 ky_X10_isPlate ky2_X10_isPlate rfl rfl (t_X10_isPlate p0 p2 h1) rfl rfl (Nat.le_of_ble_eq_true rfl) ⟨by rw [hD]; decide, by decide⟩ ⟨by rw [hmc]; exact Nat.le_of_ble_eq_true rfl, by rw [hms]; exact Nat.le_of_ble_eq_true rfl⟩ (fun x2 h2 => ?_)
    refine kj_norm (st' := [.inl x2, .inr (.inr (some p0))]) (c' := 0) (z' := 0) rfl rfl rfl ?_
    refine kj_if_eq (tgt := 21) hC dX10_cost_14 (by decide) (fun q2 => ?_) (fun q2 => ?_)
    · exact kj_sub [0, 1, 2] rfl (t_X10_cost_b21 hC hN hT hmc hms hD  p0 p1 p2 p0 h2)
    · refine kj_iconst (v := 0) hC dX10_cost_17 (by decide) ?_
      refine kj_goto (tgt := 22) hC dX10_cost_18 (by decide) ?_
      exact kj_sub [0, 1, 2] rfl (t_X10_cost_b22 hC hN hT hmc hms hD  p0 p1 p2 0 p0 h2)
set_option maxHeartbeats 4000000 in
set_option maxRecDepth 100000 in
theorem t_X10_isBefore_b40 {X : KX} (hC : kC X RX10 cX10_isBefore 3 (some .boolean)) (hN : (xme X).name = yX10_isBefore.name) (hT : kT0 X) (hmc : xmc X = 0) (hms : xms X = 0) (hD : xD X = 0) (s0 : Int32) (h : KH) : kJ X (fun x : Int32 => some (.inl x)) 3 0 0 [] [.inl s0] 40 h (X10_isBefore_b40  s0 h) := by
  unfold X10_isBefore_b40
  refine kj_fin hmc hms ?_
  exact kj_zreturn hC dX10_isBefore_40
set_option maxHeartbeats 4000000 in
set_option maxRecDepth 100000 in
theorem t_X10_isBefore_b39 {X : KX} (hC : kC X RX10 cX10_isBefore 3 (some .boolean)) (hN : (xme X).name = yX10_isBefore.name) (hT : kT0 X) (hmc : xmc X = 0) (hms : xms X = 0) (hD : xD X = 0)  (h : KH) : kJ X (fun x : Int32 => some (.inl x)) 3 0 0 [] [] 39 h (X10_isBefore_b39   h) := by
  unfold X10_isBefore_b39
  refine kj_iconst (v := 0) hC dX10_isBefore_39 (by decide) ?_
  exact kj_sub [] rfl (t_X10_isBefore_b40 hC hN hT hmc hms hD  0 h)
set_option maxHeartbeats 4000000 in
set_option maxRecDepth 100000 in
theorem t_X10_isBefore_b35 {X : KX} (hC : kC X RX10 cX10_isBefore 3 (some .boolean)) (hN : (xme X).name = yX10_isBefore.name) (hT : kT0 X) (hmc : xmc X = 0) (hms : xms X = 0) (hD : xD X = 0)  (h : KH) : kJ X (fun x : Int32 => some (.inl x)) 3 0 0 [] [] 35 h (X10_isBefore_b35   h) := by
  unfold X10_isBefore_b35
  refine kj_iconst (v := 1) hC dX10_isBefore_35 (by decide) ?_
  refine kj_goto (tgt := 40) hC dX10_isBefore_36 (by decide) ?_
  exact kj_sub [] rfl (t_X10_isBefore_b40 hC hN hT hmc hms hD  1 h)
set_option maxHeartbeats 4000000 in
set_option maxRecDepth 100000 in
theorem t_X10_isBefore (p0 : Nat) (p1 : Int32) (p2 : Int32) (h : KH) : kM yX10_isBefore cX10_isBefore 3 (some .boolean) 0 0 0 (fun x : Int32 => some (.inl x)) [.inr (.inr (some p0)), .inl p1, .inl p2] h (f_X10_isBefore p0 p1 p2 h) := by
  refine kM_of RX10 (by decide) rfl (Nat.le_of_ble_eq_true rfl) [(0, .inr (.inr (some p0))), (1, .inl p1), (2, .inl p2)] rfl (fun X hC hN hT hmc hms hD => ?_)
  unfold f_X10_isBefore
  refine kj_aloadn hC 0 dX10_isBefore_0 rfl rfl ?_
  refine kj_gN (ci := 10) (k := 18) hC dX10_isBefore_1 kf_X10_51 rfl (fun a1 => ?_)
  refine kj_iloadn hC 1 dX10_isBefore_4 rfl rfl ?_
  refine kj_gAI hC dX10_isBefore_5 (fun x1 => ?_)
  refine kj_aloadn hC 0 dX10_isBefore_6 rfl rfl ?_
  refine kj_gN (ci := 10) (k := 18) hC dX10_isBefore_7 kf_X10_51 rfl (fun a2 => ?_)
  refine kj_iloadn hC 2 dX10_isBefore_10 rfl rfl ?_
  refine kj_gAI hC dX10_isBefore_11 (fun x2 => ?_)
  refine kj_icmp_lt (tgt := 35) hC dX10_isBefore_12 (by decide) (fun q1 => ?_) (fun q1 => ?_)
  · exact kj_sub [] rfl (t_X10_isBefore_b35 hC hN hT hmc hms hD   h)
  · refine kj_aloadn hC 0 dX10_isBefore_15 rfl rfl ?_
    refine kj_gN (ci := 10) (k := 18) hC dX10_isBefore_16 kf_X10_51 rfl (fun a3 => ?_)
    refine kj_iloadn hC 1 dX10_isBefore_19 rfl rfl ?_
    refine kj_gAI hC dX10_isBefore_20 (fun x3 => ?_)
    refine kj_aloadn hC 0 dX10_isBefore_21 rfl rfl ?_
    refine kj_gN (ci := 10) (k := 18) hC dX10_isBefore_22 kf_X10_51 rfl (fun a4 => ?_)
    refine kj_iloadn hC 2 dX10_isBefore_25 rfl rfl ?_
    refine kj_gAI hC dX10_isBefore_26 (fun x4 => ?_)
    refine kj_icmp_ne (tgt := 39) hC dX10_isBefore_27 (by decide) (fun q2 => ?_) (fun q2 => ?_)
    · refine kj_iloadn hC 1 dX10_isBefore_30 rfl rfl ?_
      refine kj_iloadn hC 2 dX10_isBefore_31 rfl rfl ?_
      refine kj_icmp_ge (tgt := 39) hC dX10_isBefore_32 (by decide) (fun q3 => ?_) (fun q3 => ?_)
      · exact kj_sub [] rfl (t_X10_isBefore_b39 hC hN hT hmc hms hD   h)
      · exact kj_sub [] rfl (t_X10_isBefore_b35 hC hN hT hmc hms hD   h)
    · exact kj_sub [] rfl (t_X10_isBefore_b39 hC hN hT hmc hms hD   h)
set_option maxHeartbeats 4000000 in
set_option maxRecDepth 100000 in
theorem t_X10_next_b73 {X : KX} (hC : kC X RX10 cX10_next 6 (some .int)) (hN : (xme X).name = yX10_next.name) (hT : kT0 X) (hmc : xmc X = 0) (hms : xms X = 0) (hD : xD X = 1) (rc5 : Nat → Int32 → Int32 → Int32 → Int32 → KH → KO Int32) (hr5 : ∀ (v0 : Nat) (v1 : Int32) (v2 : Int32) (v3 : Int32) (v4 : Int32) (h : KH), kJ X (fun x : Int32 => some (.inl x)) 6 0 0 [(0, .inr (.inr (some v0))), (1, .inl v1), (2, .inl v2), (3, .inl v3), (4, .inl v4)] [] 5 h (rc5 v0 v1 v2 v3 v4 h)) (v0 : Nat) (v1 : Int32) (v2 : Int32) (v4 : Int32) (s0 : Int32) (h : KH) : kJ X (fun x : Int32 => some (.inl x)) 6 0 0 [(0, .inr (.inr (some v0))), (1, .inl v1), (2, .inl v2), (4, .inl v4)] [.inl s0] 73 h (X10_next_b73 rc5 v0 v1 v2 v4 s0 h) := by
  unfold X10_next_b73
  refine kj_istoren (L' := [(3, .inl s0), (0, .inr (.inr (some v0))), (1, .inl v1), (2, .inl v2), (4, .inl v4)]) hC dX10_next_73 rfl (by decide) rfl ?_
  refine kj_iinc (v := v4 + 1) (L' := [(4, .inl (v4 + 1)), (3, .inl s0), (0, .inr (.inr (some v0))), (1, .inl v1), (2, .inl v2)]) hC 4 dX10_next_74 rfl rfl (by decide) rfl ?_
  refine kj_goto (tgt := 5) hC dX10_next_77 (by decide) ?_
  exact kj_sub [2, 3, 4, 1, 0] rfl (hr5 v0 v1 v2 s0 (v4 + 1) h)
set_option maxHeartbeats 4000000 in
set_option maxRecDepth 100000 in
theorem t_X10_next_b72 {X : KX} (hC : kC X RX10 cX10_next 6 (some .int)) (hN : (xme X).name = yX10_next.name) (hT : kT0 X) (hmc : xmc X = 0) (hms : xms X = 0) (hD : xD X = 1) (rc5 : Nat → Int32 → Int32 → Int32 → Int32 → KH → KO Int32) (hr5 : ∀ (v0 : Nat) (v1 : Int32) (v2 : Int32) (v3 : Int32) (v4 : Int32) (h : KH), kJ X (fun x : Int32 => some (.inl x)) 6 0 0 [(0, .inr (.inr (some v0))), (1, .inl v1), (2, .inl v2), (3, .inl v3), (4, .inl v4)] [] 5 h (rc5 v0 v1 v2 v3 v4 h)) (v0 : Nat) (v1 : Int32) (v2 : Int32) (v3 : Int32) (v4 : Int32) (h : KH) : kJ X (fun x : Int32 => some (.inl x)) 6 0 0 [(0, .inr (.inr (some v0))), (1, .inl v1), (2, .inl v2), (3, .inl v3), (4, .inl v4)] [] 72 h (X10_next_b72 rc5 v0 v1 v2 v3 v4 h) := by
  unfold X10_next_b72
  refine kj_iloadn hC 3 dX10_next_72 rfl rfl ?_
  exact kj_sub [0, 1, 2, 4] rfl (t_X10_next_b73 hC hN hT hmc hms hD rc5 hr5 v0 v1 v2 v4 v3 h)
set_option maxHeartbeats 4000000 in
set_option maxRecDepth 100000 in
theorem t_X10_next_b67 {X : KX} (hC : kC X RX10 cX10_next 6 (some .int)) (hN : (xme X).name = yX10_next.name) (hT : kT0 X) (hmc : xmc X = 0) (hms : xms X = 0) (hD : xD X = 1) (rc5 : Nat → Int32 → Int32 → Int32 → Int32 → KH → KO Int32) (hr5 : ∀ (v0 : Nat) (v1 : Int32) (v2 : Int32) (v3 : Int32) (v4 : Int32) (h : KH), kJ X (fun x : Int32 => some (.inl x)) 6 0 0 [(0, .inr (.inr (some v0))), (1, .inl v1), (2, .inl v2), (3, .inl v3), (4, .inl v4)] [] 5 h (rc5 v0 v1 v2 v3 v4 h)) (v0 : Nat) (v1 : Int32) (v2 : Int32) (v4 : Int32) (h : KH) : kJ X (fun x : Int32 => some (.inl x)) 6 0 0 [(0, .inr (.inr (some v0))), (1, .inl v1), (2, .inl v2), (4, .inl v4)] [] 67 h (X10_next_b67 rc5 v0 v1 v2 v4 h) := by
  unfold X10_next_b67
  refine kj_iload hC 3 dX10_next_67 rfl ?_
  refine kj_goto (tgt := 73) hC dX10_next_69 (by decide) ?_
  exact kj_sub [0, 1, 2, 3] rfl (t_X10_next_b73 hC hN hT hmc hms hD rc5 hr5 v0 v1 v2 v4 v4 h)
set_option maxHeartbeats 4000000 in
set_option maxRecDepth 100000 in
theorem t_X10_next_b45 {X : KX} (hC : kC X RX10 cX10_next 6 (some .int)) (hN : (xme X).name = yX10_next.name) (hT : kT0 X) (hmc : xmc X = 0) (hms : xms X = 0) (hD : xD X = 1) (rc5 : Nat → Int32 → Int32 → Int32 → Int32 → KH → KO Int32) (hr5 : ∀ (v0 : Nat) (v1 : Int32) (v2 : Int32) (v3 : Int32) (v4 : Int32) (h : KH), kJ X (fun x : Int32 => some (.inl x)) 6 0 0 [(0, .inr (.inr (some v0))), (1, .inl v1), (2, .inl v2), (3, .inl v3), (4, .inl v4)] [] 5 h (rc5 v0 v1 v2 v3 v4 h)) (v0 : Nat) (v1 : Int32) (v2 : Int32) (v3 : Int32) (v4 : Int32) (s0 : Int32) (h : KH) : kJ X (fun x : Int32 => some (.inl x)) 6 0 0 [(0, .inr (.inr (some v0))), (1, .inl v1), (2, .inl v2), (3, .inl v3), (4, .inl v4)] [.inl s0] 45 h (X10_next_b45 rc5 v0 v1 v2 v3 v4 s0 h) := by
  unfold X10_next_b45
  refine kj_istore (L' := [(5, .inl s0), (0, .inr (.inr (some v0))), (1, .inl v1), (2, .inl v2), (3, .inl v3), (4, .inl v4)]) hC dX10_next_45 (by decide) rfl ?_
  refine kj_iload hC 0 dX10_next_47 rfl ?_
  refine kj_if_eq (tgt := 72) hC dX10_next_49 (by decide) (fun q1 => ?_) (fun q1 => ?_)
  · exact kj_sub [1, 2, 3, 4, 5] rfl (t_X10_next_b72 hC hN hT hmc hms hD rc5 hr5 v0 v1 v2 v3 v4 h)
  · refine kj_iloadn hC 4 dX10_next_52 rfl rfl ?_
    refine kj_iconst (v := (-1)) hC dX10_next_53 (by decide) ?_
    refine kj_icmp_eq (tgt := 67) hC dX10_next_54 (by decide) (fun q2 => ?_) (fun q2 => ?_)
    · exact kj_sub [1, 2, 3, 5] rfl (t_X10_next_b67 hC hN hT hmc hms hD rc5 hr5 v0 v1 v2 v4 h)
    · refine kj_aloadn hC 1 dX10_next_57 rfl rfl ?_
      refine kj_iload hC 5 dX10_next_58 rfl ?_
      refine kj_iloadn hC 4 dX10_next_60 rfl rfl ?_
      refine kj_invV (ci := 10) (q := (RX10, TX10, 36)) (as := [.inl v4, .inl v3]) (rest := []) hC hT dX10_next_61 kw1255 ky_X10_isBefore ky2_X10_isBefore rfl rfl (t_X10_isBefore v0 v4 v3 h) rfl rfl (Nat.le_of_ble_eq_true rfl) ⟨by rw [hD]; decide, by decide⟩ ⟨by rw [hmc]; exact Nat.le_of_ble_eq_true rfl, by rw [hms]; exact Nat.le_of_ble_eq_true rfl⟩ (fun x1 h1 => ?_)
      refine kj_norm (st' := [.inl x1]) (c' := 0) (z' := 0) rfl rfl rfl ?_
      refine kj_if_eq (tgt := 72) hC dX10_next_64 (by decide) (fun q3 => ?_) (fun q3 => ?_)
      · exact kj_sub [1, 2, 3, 4, 5] rfl (t_X10_next_b72 hC hN hT hmc hms hD rc5 hr5 v0 v1 v2 v3 v4 h1)
      · exact kj_sub [1, 2, 3, 5] rfl (t_X10_next_b67 hC hN hT hmc hms hD rc5 hr5 v0 v1 v2 v4 h1)
set_option maxHeartbeats 4000000 in
set_option maxRecDepth 100000 in
theorem t_X10_next_b44 {X : KX} (hC : kC X RX10 cX10_next 6 (some .int)) (hN : (xme X).name = yX10_next.name) (hT : kT0 X) (hmc : xmc X = 0) (hms : xms X = 0) (hD : xD X = 1) (rc5 : Nat → Int32 → Int32 → Int32 → Int32 → KH → KO Int32) (hr5 : ∀ (v0 : Nat) (v1 : Int32) (v2 : Int32) (v3 : Int32) (v4 : Int32) (h : KH), kJ X (fun x : Int32 => some (.inl x)) 6 0 0 [(0, .inr (.inr (some v0))), (1, .inl v1), (2, .inl v2), (3, .inl v3), (4, .inl v4)] [] 5 h (rc5 v0 v1 v2 v3 v4 h)) (v0 : Nat) (v1 : Int32) (v2 : Int32) (v3 : Int32) (v4 : Int32) (h : KH) : kJ X (fun x : Int32 => some (.inl x)) 6 0 0 [(0, .inr (.inr (some v0))), (1, .inl v1), (2, .inl v2), (3, .inl v3), (4, .inl v4)] [] 44 h (X10_next_b44 rc5 v0 v1 v2 v3 v4 h) := by
  unfold X10_next_b44
  refine kj_iconst (v := 0) hC dX10_next_44 (by decide) ?_
  exact kj_sub [0, 1, 2, 3, 4] rfl (t_X10_next_b45 hC hN hT hmc hms hD rc5 hr5 v0 v1 v2 v3 v4 0 h)
set_option maxHeartbeats 4000000 in
set_option maxRecDepth 100000 in
theorem t_X10_next_b40 {X : KX} (hC : kC X RX10 cX10_next 6 (some .int)) (hN : (xme X).name = yX10_next.name) (hT : kT0 X) (hmc : xmc X = 0) (hms : xms X = 0) (hD : xD X = 1) (rc5 : Nat → Int32 → Int32 → Int32 → Int32 → KH → KO Int32) (hr5 : ∀ (v0 : Nat) (v1 : Int32) (v2 : Int32) (v3 : Int32) (v4 : Int32) (h : KH), kJ X (fun x : Int32 => some (.inl x)) 6 0 0 [(0, .inr (.inr (some v0))), (1, .inl v1), (2, .inl v2), (3, .inl v3), (4, .inl v4)] [] 5 h (rc5 v0 v1 v2 v3 v4 h)) (v0 : Nat) (v1 : Int32) (v2 : Int32) (v3 : Int32) (v4 : Int32) (h : KH) : kJ X (fun x : Int32 => some (.inl x)) 6 0 0 [(0, .inr (.inr (some v0))), (1, .inl v1), (2, .inl v2), (3, .inl v3), (4, .inl v4)] [] 40 h (X10_next_b40 rc5 v0 v1 v2 v3 v4 h) := by
  unfold X10_next_b40
  refine kj_iconst (v := 1) hC dX10_next_40 (by decide) ?_
  refine kj_goto (tgt := 45) hC dX10_next_41 (by decide) ?_
  exact kj_sub [0, 1, 2, 3, 4] rfl (t_X10_next_b45 hC hN hT hmc hms hD rc5 hr5 v0 v1 v2 v3 v4 1 h)
set_option maxHeartbeats 4000000 in
set_option maxRecDepth 100000 in
theorem t_X10_next_b5 {X : KX} (hC : kC X RX10 cX10_next 6 (some .int)) (hN : (xme X).name = yX10_next.name) (hT : kT0 X) (hmc : xmc X = 0) (hms : xms X = 0) (hD : xD X = 1) (rc5 : Nat → Int32 → Int32 → Int32 → Int32 → KH → KO Int32) (hr5 : ∀ (v0 : Nat) (v1 : Int32) (v2 : Int32) (v3 : Int32) (v4 : Int32) (h : KH), kJ X (fun x : Int32 => some (.inl x)) 6 0 0 [(0, .inr (.inr (some v0))), (1, .inl v1), (2, .inl v2), (3, .inl v3), (4, .inl v4)] [] 5 h (rc5 v0 v1 v2 v3 v4 h)) (v0 : Nat) (v1 : Int32) (v2 : Int32) (v3 : Int32) (v4 : Int32) (h : KH) : kJ X (fun x : Int32 => some (.inl x)) 6 0 0 [(0, .inr (.inr (some v0))), (1, .inl v1), (2, .inl v2), (3, .inl v3), (4, .inl v4)] [] 5 h (X10_next_b5 rc5 v0 v1 v2 v3 v4 h) := by
  unfold X10_next_b5
  refine kj_iload hC 4 dX10_next_5 rfl ?_
  refine kj_aloadn hC 0 dX10_next_7 rfl rfl ?_
  refine kj_gI (ci := 10) (k := 16) hC dX10_next_8 kf_X10_110 rfl (fun x1 => ?_)
  refine kj_icmp_ge (tgt := 80) hC dX10_next_11 (by decide) (fun q1 => ?_) (fun q1 => ?_)
  · refine kj_iloadn hC 3 dX10_next_80 rfl rfl ?_
    refine kj_fin hmc hms ?_
    exact kj_ireturn hC dX10_next_81
  · refine kj_aloadn hC 0 dX10_next_14 rfl rfl ?_
    refine kj_gN (ci := 10) (k := 23) hC dX10_next_15 kf_X10_66 rfl (fun a1 => ?_)
    refine kj_iload hC 4 dX10_next_18 rfl ?_
    refine kj_gAI hC dX10_next_20 (fun x2 => ?_)
    refine kj_iloadn hC 1 dX10_next_21 rfl rfl ?_
    refine kj_icmp_ne (tgt := 44) hC dX10_next_22 (by decide) (fun q2 => ?_) (fun q2 => ?_)
    · refine kj_iloadn hC 2 dX10_next_25 rfl rfl ?_
      refine kj_iconst (v := (-1)) hC dX10_next_26 (by decide) ?_
      refine kj_icmp_eq (tgt := 40) hC dX10_next_27 (by decide) (fun q3 => ?_) (fun q3 => ?_)
      · exact kj_sub [0, 1, 2, 3, 4] rfl (t_X10_next_b40 hC hN hT hmc hms hD rc5 hr5 v0 v1 v2 v3 v4 h)
      · refine kj_aloadn hC 0 dX10_next_30 rfl rfl ?_
        refine kj_iloadn hC 2 dX10_next_31 rfl rfl ?_
        refine kj_iload hC 4 dX10_next_32 rfl ?_
        refine kj_invV (ci := 10) (q := (RX10, TX10, 36)) (as := [.inl v2, .inl v4]) (rest := []) hC hT dX10_next_34 kw1255 ky_X10_isBefore ky2_X10_isBefore rfl rfl (t_X10_isBefore v0 v2 v4 h) rfl rfl (Nat.le_of_ble_eq_true rfl) ⟨by rw [hD]; decide, by decide⟩ ⟨by rw [hmc]; exact Nat.le_of_ble_eq_true rfl, by rw [hms]; exact Nat.le_of_ble_eq_true rfl⟩ (fun x3 h1 => ?_)
        refine kj_norm (st' := [.inl x3]) (c' := 0) (z' := 0) rfl rfl rfl ?_
        refine kj_if_eq (tgt := 44) hC dX10_next_37 (by decide) (fun q4 => ?_) (fun q4 => ?_)
        · exact kj_sub [0, 1, 2, 3, 4] rfl (t_X10_next_b44 hC hN hT hmc hms hD rc5 hr5 v0 v1 v2 v3 v4 h1)
        · exact kj_sub [0, 1, 2, 3, 4] rfl (t_X10_next_b40 hC hN hT hmc hms hD rc5 hr5 v0 v1 v2 v3 v4 h1)
    · exact kj_sub [0, 1, 2, 3, 4] rfl (t_X10_next_b44 hC hN hT hmc hms hD rc5 hr5 v0 v1 v2 v3 v4 h)
set_option maxHeartbeats 4000000 in
set_option maxRecDepth 100000 in
theorem t_X10_next_L5 {X : KX} (hC : kC X RX10 cX10_next 6 (some .int)) (hN : (xme X).name = yX10_next.name) (hT : kT0 X) (hmc : xmc X = 0) (hms : xms X = 0) (hD : xD X = 1) : ∀ (n : Nat) (v0 : Nat) (v1 : Int32) (v2 : Int32) (v3 : Int32) (v4 : Int32) (h : KH), kJ X (fun x : Int32 => some (.inl x)) 6 0 0 [(0, .inr (.inr (some v0))), (1, .inl v1), (2, .inl v2), (3, .inl v3), (4, .inl v4)] [] 5 h (X10_next_L5  n v0 v1 v2 v3 v4 h) := by
  intro n
  induction n with
  | zero => intro v0 v1 v2 v3 v4 h; exact kj_none
  | succ n ih => intro v0 v1 v2 v3 v4 h; exact t_X10_next_b5 hC hN hT hmc hms hD (X10_next_L5  n) ih v0 v1 v2 v3 v4 h
set_option maxHeartbeats 4000000 in
set_option maxRecDepth 100000 in
theorem t_X10_next (p0 : Nat) (p1 : Int32) (p2 : Int32) (h : KH) : kM yX10_next cX10_next 6 (some .int) 1 0 0 (fun x : Int32 => some (.inl x)) [.inr (.inr (some p0)), .inl p1, .inl p2] h (f_X10_next p0 p1 p2 h) := by
  refine kM_of RX10 (by decide) rfl (Nat.le_of_ble_eq_true rfl) [(0, .inr (.inr (some p0))), (1, .inl p1), (2, .inl p2)] rfl (fun X hC hN hT hmc hms hD => ?_)
  unfold f_X10_next
  refine kj_iconst (v := (-1)) hC dX10_next_0 (by decide) ?_
  refine kj_istoren (L' := [(3, .inl (-1)), (0, .inr (.inr (some p0))), (1, .inl p1), (2, .inl p2)]) hC dX10_next_1 rfl (by decide) rfl ?_
  refine kj_iconst (v := 0) hC dX10_next_2 (by decide) ?_
  refine kj_istore (L' := [(4, .inl 0), (3, .inl (-1)), (0, .inr (.inr (some p0))), (1, .inl p1), (2, .inl p2)]) hC dX10_next_3 (by decide) rfl ?_
  exact kj_sub [2, 3, 4, 1, 0] rfl (t_X10_next_L5 hC hN hT hmc hms hD  kF p0 p1 p2 ((-1)) 0 h)
set_option maxHeartbeats 4000000 in
set_option maxRecDepth 100000 in
theorem t_X10_begins_b75 {X : KX} (hC : kC X RX10 cX10_begins 5 (some .boolean)) (hN : (xme X).name = yX10_begins.name) (hT : kT0 X) (hmc : xmc X = 0) (hms : xms X = 0) (hD : xD X = 0) (s0 : Int32) (h : KH) : kJ X (fun x : Int32 => some (.inl x)) 5 0 0 [] [.inl s0] 75 h (X10_begins_b75  s0 h) := by
  unfold X10_begins_b75
  refine kj_fin hmc hms ?_
  exact kj_zreturn hC dX10_begins_75
set_option maxHeartbeats 4000000 in
set_option maxRecDepth 100000 in
theorem t_X10_begins_b70 {X : KX} (hC : kC X RX10 cX10_begins 5 (some .boolean)) (hN : (xme X).name = yX10_begins.name) (hT : kT0 X) (hmc : xmc X = 0) (hms : xms X = 0) (hD : xD X = 0)  (h : KH) : kJ X (fun x : Int32 => some (.inl x)) 5 0 0 [] [] 70 h (X10_begins_b70   h) := by
  unfold X10_begins_b70
  refine kj_iconst (v := 1) hC dX10_begins_70 (by decide) ?_
  refine kj_goto (tgt := 75) hC dX10_begins_71 (by decide) ?_
  exact kj_sub [] rfl (t_X10_begins_b75 hC hN hT hmc hms hD  1 h)
set_option maxHeartbeats 4000000 in
set_option maxRecDepth 100000 in
theorem t_X10_begins (p0 : Nat) (p1 : Int32) (p2 : Int32) (h : KH) : kM yX10_begins cX10_begins 5 (some .boolean) 0 0 0 (fun x : Int32 => some (.inl x)) [.inr (.inr (some p0)), .inl p1, .inl p2] h (f_X10_begins p0 p1 p2 h) := by
  refine kM_of RX10 (by decide) rfl (Nat.le_of_ble_eq_true rfl) [(0, .inr (.inr (some p0))), (1, .inl p1), (2, .inl p2)] rfl (fun X hC hN hT hmc hms hD => ?_)
  unfold f_X10_begins
  refine kj_iloadn hC 1 dX10_begins_0 rfl rfl ?_
  refine kj_iconst (v := (-1)) hC dX10_begins_1 (by decide) ?_
  refine kj_icmp_ne (tgt := 7) hC dX10_begins_2 (by decide) (fun q1 => ?_) (fun q1 => ?_)
  · refine kj_iconst (v := 1) hC dX10_begins_5 (by decide) ?_
    refine kj_fin hmc hms ?_
    exact kj_zreturn hC dX10_begins_6
  · refine kj_aloadn hC 0 dX10_begins_7 rfl rfl ?_
    refine kj_gN (ci := 10) (k := 3) hC dX10_begins_8 kf_X10_17 rfl (fun a1 => ?_)
    refine kj_bipush (v := 8) hC dX10_begins_11 (by decide) ?_
    refine kj_aloadn hC 0 dX10_begins_13 rfl rfl ?_
    refine kj_gN (ci := 10) (k := 17) hC dX10_begins_14 kf_X10_48 rfl (fun a2 => ?_)
    refine kj_iloadn hC 1 dX10_begins_17 rfl rfl ?_
    refine kj_gAI hC dX10_begins_18 (fun x1 => ?_)
    refine kj_imul hC dX10_begins_19 ?_
    refine kj_aloadn hC 0 dX10_begins_20 rfl rfl ?_
    refine kj_gN (ci := 10) (k := 17) hC dX10_begins_21 kf_X10_48 rfl (fun a3 => ?_)
    refine kj_iloadn hC 2 dX10_begins_24 rfl rfl ?_
    refine kj_gAI hC dX10_begins_25 (fun x2 => ?_)
    refine kj_iadd hC dX10_begins_26 ?_
    refine kj_gAI hC dX10_begins_27 (fun x3 => ?_)
    refine kj_istoren (L' := [(3, .inl x3), (0, .inr (.inr (some p0))), (1, .inl p1), (2, .inl p2)]) hC dX10_begins_28 rfl (by decide) rfl ?_
    refine kj_aloadn hC 1 dX10_begins_29 rfl rfl ?_
    refine kj_gN (ci := 10) (k := 18) hC dX10_begins_30 kf_X10_51 rfl (fun a4 => ?_)
    refine kj_iloadn hC 3 dX10_begins_33 rfl rfl ?_
    refine kj_gAI hC dX10_begins_34 (fun x4 => ?_)
    refine kj_aloadn hC 1 dX10_begins_35 rfl rfl ?_
    refine kj_gN (ci := 10) (k := 18) hC dX10_begins_36 kf_X10_51 rfl (fun a5 => ?_)
    refine kj_iloadn hC 2 dX10_begins_39 rfl rfl ?_
    refine kj_gAI hC dX10_begins_40 (fun x5 => ?_)
    refine kj_isub hC dX10_begins_41 ?_
    refine kj_istore (L' := [(4, .inl (x4 - x5)), (3, .inl x3), (0, .inr (.inr (some p0))), (1, .inl p1), (2, .inl p2)]) hC dX10_begins_42 (by decide) rfl ?_
    refine kj_iloadn hC 1 dX10_begins_44 rfl rfl ?_
    refine kj_iconst (v := (-1)) hC dX10_begins_45 (by decide) ?_
    refine kj_icmp_eq (tgt := 70) hC dX10_begins_46 (by decide) (fun q2 => ?_) (fun q2 => ?_)
    · exact kj_sub [] rfl (t_X10_begins_b70 hC hN hT hmc hms hD   h)
    · refine kj_iload hC 0 dX10_begins_49 rfl ?_
      refine kj_iconst (v := 2) hC dX10_begins_51 (by decide) ?_
      refine kj_iloadn hC 1 dX10_begins_52 rfl rfl ?_
      refine kj_imul hC dX10_begins_53 ?_
      refine kj_aloadn hC 2 dX10_begins_54 rfl rfl ?_
      refine kj_gI (ci := 10) (k := 1) hC dX10_begins_55 kf_X10_7 rfl (fun x6 => ?_)
      refine kj_iadd hC dX10_begins_58 ?_
      refine kj_icmp_gt (tgt := 70) hC dX10_begins_59 (by decide) (fun q3 => ?_) (fun q3 => ?_)
      · exact kj_sub [] rfl (t_X10_begins_b70 hC hN hT hmc hms hD   h)
      · refine kj_iconst (v := 4) hC dX10_begins_62 (by decide) ?_
        refine kj_iload hC 0 dX10_begins_63 rfl ?_
        refine kj_imul hC dX10_begins_65 ?_
        refine kj_iloadn hC 1 dX10_begins_66 rfl rfl ?_
        refine kj_icmp_ge (tgt := 74) hC dX10_begins_67 (by decide) (fun q4 => ?_) (fun q4 => ?_)
        · refine kj_iconst (v := 0) hC dX10_begins_74 (by decide) ?_
          exact kj_sub [] rfl (t_X10_begins_b75 hC hN hT hmc hms hD  0 h)
        · exact kj_sub [] rfl (t_X10_begins_b70 hC hN hT hmc hms hD   h)
set_option maxHeartbeats 4000000 in
set_option maxRecDepth 100000 in
theorem t_X10_joinsAgain_b34 {X : KX} (hC : kC X RX10 cX10_joinsAgain 5 (some .int)) (hN : (xme X).name = yX10_joinsAgain.name) (hT : kT0 X) (hmc : xmc X = 0) (hms : xms X = 0) (hD : xD X = 2) (rc12 : Nat → Int32 → Int32 → Int32 → Int32 → KH → KO Int32) (hr12 : ∀ (v0 : Nat) (v1 : Int32) (v2 : Int32) (v3 : Int32) (v4 : Int32) (h : KH), kJ X (fun x : Int32 => some (.inl x)) 5 0 0 [(0, .inr (.inr (some v0))), (1, .inl v1), (2, .inl v2), (3, .inl v3), (4, .inl v4)] [] 12 h (rc12 v0 v1 v2 v3 v4 h)) (v0 : Nat) (v1 : Int32) (v4 : Int32) (s0 : Int32) (s1 : Int32) (h : KH) : kJ X (fun x : Int32 => some (.inl x)) 5 0 0 [(0, .inr (.inr (some v0))), (1, .inl v1), (4, .inl v4)] [.inl s0, .inl s1] 34 h (X10_joinsAgain_b34 rc12 v0 v1 v4 s0 s1 h) := by
  unfold X10_joinsAgain_b34
  refine kj_iadd hC dX10_joinsAgain_34 ?_
  refine kj_istoren (L' := [(2, .inl (s1 + s0)), (0, .inr (.inr (some v0))), (1, .inl v1), (4, .inl v4)]) hC dX10_joinsAgain_35 rfl (by decide) rfl ?_
  refine kj_aloadn hC 1 dX10_joinsAgain_36 rfl rfl ?_
  refine kj_gN (ci := 10) (k := 24) hC dX10_joinsAgain_37 kf_X10_69 rfl (fun a1 => ?_)
  refine kj_iload hC 3 dX10_joinsAgain_40 rfl ?_
  refine kj_iloadn hC 0 dX10_joinsAgain_42 rfl rfl ?_
  refine kj_iconst (v := 1) hC dX10_joinsAgain_43 (by decide) ?_
  refine kj_isub hC dX10_joinsAgain_44 ?_
  refine kj_pAI hC dX10_joinsAgain_45 (fun h1 => ?_)
  refine kj_iload hC 3 dX10_joinsAgain_46 rfl ?_
  refine kj_istoren (L' := [(3, .inl v4), (2, .inl (s1 + s0)), (0, .inr (.inr (some v0))), (1, .inl v1), (4, .inl v4)]) hC dX10_joinsAgain_48 rfl (by decide) rfl ?_
  refine kj_aloadn hC 2 dX10_joinsAgain_49 rfl rfl ?_
  refine kj_iloadn hC 3 dX10_joinsAgain_50 rfl rfl ?_
  refine kj_iload hC 4 dX10_joinsAgain_51 rfl ?_
  refine kj_invV (ci := 10) (q := (RX10, TX10, 36)) (as := [.inl v1, .inl v4]) (rest := []) hC hT dX10_joinsAgain_53 kw1251 ky_X10_next ky2_X10_next rfl rfl (t_X10_next v0 v1 v4 h1) rfl rfl (Nat.le_of_ble_eq_true rfl) ⟨by rw [hD]; decide, by decide⟩ ⟨by rw [hmc]; exact Nat.le_of_ble_eq_true rfl, by rw [hms]; exact Nat.le_of_ble_eq_true rfl⟩ (fun x1 h2 => ?_)
  refine kj_norm (st' := [.inl x1]) (c' := 0) (z' := 0) rfl rfl rfl ?_
  refine kj_istore (L' := [(4, .inl x1), (3, .inl v4), (2, .inl (s1 + s0)), (0, .inr (.inr (some v0))), (1, .inl v1)]) hC dX10_joinsAgain_56 (by decide) rfl ?_
  refine kj_goto (tgt := 12) hC dX10_joinsAgain_58 (by decide) ?_
  exact kj_sub [3, 4, 2, 1, 0] rfl (hr12 v0 v1 (s1 + s0) v4 x1 h2)
set_option maxHeartbeats 4000000 in
set_option maxRecDepth 100000 in
theorem t_X10_joinsAgain_b12 {X : KX} (hC : kC X RX10 cX10_joinsAgain 5 (some .int)) (hN : (xme X).name = yX10_joinsAgain.name) (hT : kT0 X) (hmc : xmc X = 0) (hms : xms X = 0) (hD : xD X = 2) (rc12 : Nat → Int32 → Int32 → Int32 → Int32 → KH → KO Int32) (hr12 : ∀ (v0 : Nat) (v1 : Int32) (v2 : Int32) (v3 : Int32) (v4 : Int32) (h : KH), kJ X (fun x : Int32 => some (.inl x)) 5 0 0 [(0, .inr (.inr (some v0))), (1, .inl v1), (2, .inl v2), (3, .inl v3), (4, .inl v4)] [] 12 h (rc12 v0 v1 v2 v3 v4 h)) (v0 : Nat) (v1 : Int32) (v2 : Int32) (v3 : Int32) (v4 : Int32) (h : KH) : kJ X (fun x : Int32 => some (.inl x)) 5 0 0 [(0, .inr (.inr (some v0))), (1, .inl v1), (2, .inl v2), (3, .inl v3), (4, .inl v4)] [] 12 h (X10_joinsAgain_b12 rc12 v0 v1 v2 v3 v4 h) := by
  unfold X10_joinsAgain_b12
  refine kj_iload hC 4 dX10_joinsAgain_12 rfl ?_
  refine kj_iconst (v := (-1)) hC dX10_joinsAgain_14 (by decide) ?_
  refine kj_icmp_eq (tgt := 61) hC dX10_joinsAgain_15 (by decide) (fun q1 => ?_) (fun q1 => ?_)
  · refine kj_iloadn hC 2 dX10_joinsAgain_61 rfl rfl ?_
    refine kj_fin hmc hms ?_
    exact kj_ireturn hC dX10_joinsAgain_62
  · refine kj_iloadn hC 2 dX10_joinsAgain_18 rfl rfl ?_
    refine kj_aloadn hC 0 dX10_joinsAgain_19 rfl rfl ?_
    refine kj_iloadn hC 3 dX10_joinsAgain_20 rfl rfl ?_
    refine kj_iload hC 4 dX10_joinsAgain_21 rfl ?_
    refine kj_invV (ci := 10) (q := (RX10, TX10, 36)) (as := [.inl v3, .inl v4]) (rest := [.inl v2]) hC hT dX10_joinsAgain_23 kw1259 ky_X10_begins ky2_X10_begins rfl rfl (t_X10_begins v0 v3 v4 h) rfl rfl (Nat.le_of_ble_eq_true rfl) ⟨by rw [hD]; decide, by decide⟩ ⟨by rw [hmc]; exact Nat.le_of_ble_eq_true rfl, by rw [hms]; exact Nat.le_of_ble_eq_true rfl⟩ (fun x1 h1 => ?_)
    refine kj_norm (st' := [.inl x1, .inl v2]) (c' := 0) (z' := 0) rfl rfl rfl ?_
    refine kj_if_eq (tgt := 33) hC dX10_joinsAgain_26 (by decide) (fun q2 => ?_) (fun q2 => ?_)
    · refine kj_iconst (v := 0) hC dX10_joinsAgain_33 (by decide) ?_
      exact kj_sub [0, 1, 4] rfl (t_X10_joinsAgain_b34 hC hN hT hmc hms hD rc12 hr12 v0 v1 v4 0 v2 h1)
    · refine kj_iconst (v := 1) hC dX10_joinsAgain_29 (by decide) ?_
      refine kj_goto (tgt := 34) hC dX10_joinsAgain_30 (by decide) ?_
      exact kj_sub [0, 1, 4] rfl (t_X10_joinsAgain_b34 hC hN hT hmc hms hD rc12 hr12 v0 v1 v4 1 v2 h1)
set_option maxHeartbeats 4000000 in
set_option maxRecDepth 100000 in
theorem t_X10_joinsAgain_L12 {X : KX} (hC : kC X RX10 cX10_joinsAgain 5 (some .int)) (hN : (xme X).name = yX10_joinsAgain.name) (hT : kT0 X) (hmc : xmc X = 0) (hms : xms X = 0) (hD : xD X = 2) : ∀ (n : Nat) (v0 : Nat) (v1 : Int32) (v2 : Int32) (v3 : Int32) (v4 : Int32) (h : KH), kJ X (fun x : Int32 => some (.inl x)) 5 0 0 [(0, .inr (.inr (some v0))), (1, .inl v1), (2, .inl v2), (3, .inl v3), (4, .inl v4)] [] 12 h (X10_joinsAgain_L12  n v0 v1 v2 v3 v4 h) := by
  intro n
  induction n with
  | zero => intro v0 v1 v2 v3 v4 h; exact kj_none
  | succ n ih => intro v0 v1 v2 v3 v4 h; exact t_X10_joinsAgain_b12 hC hN hT hmc hms hD (X10_joinsAgain_L12  n) ih v0 v1 v2 v3 v4 h
set_option maxHeartbeats 4000000 in
set_option maxRecDepth 100000 in
theorem t_X10_joinsAgain (p0 : Nat) (p1 : Int32) (h : KH) : kM yX10_joinsAgain cX10_joinsAgain 5 (some .int) 2 0 0 (fun x : Int32 => some (.inl x)) [.inr (.inr (some p0)), .inl p1] h (f_X10_joinsAgain p0 p1 h) := by
  refine kM_of RX10 (by decide) rfl (Nat.le_of_ble_eq_true rfl) [(0, .inr (.inr (some p0))), (1, .inl p1)] rfl (fun X hC hN hT hmc hms hD => ?_)
  unfold f_X10_joinsAgain
  refine kj_iconst (v := 0) hC dX10_joinsAgain_0 (by decide) ?_
  refine kj_istoren (L' := [(2, .inl 0), (0, .inr (.inr (some p0))), (1, .inl p1)]) hC dX10_joinsAgain_1 rfl (by decide) rfl ?_
  refine kj_iconst (v := (-1)) hC dX10_joinsAgain_2 (by decide) ?_
  refine kj_istoren (L' := [(3, .inl (-1)), (2, .inl 0), (0, .inr (.inr (some p0))), (1, .inl p1)]) hC dX10_joinsAgain_3 rfl (by decide) rfl ?_
  refine kj_aloadn hC 2 dX10_joinsAgain_4 rfl rfl ?_
  refine kj_iloadn hC 3 dX10_joinsAgain_5 rfl rfl ?_
  refine kj_iconst (v := (-1)) hC dX10_joinsAgain_6 (by decide) ?_
  refine kj_invV (ci := 10) (q := (RX10, TX10, 36)) (as := [.inl p1, .inl (-1)]) (rest := []) hC hT dX10_joinsAgain_7 kw1251 ky_X10_next ky2_X10_next rfl rfl (t_X10_next p0 p1 ((-1)) h) rfl rfl (Nat.le_of_ble_eq_true rfl) ⟨by rw [hD]; decide, by decide⟩ ⟨by rw [hmc]; exact Nat.le_of_ble_eq_true rfl, by rw [hms]; exact Nat.le_of_ble_eq_true rfl⟩ (fun x1 h1 => ?_)
  refine kj_norm (st' := [.inl x1]) (c' := 0) (z' := 0) rfl rfl rfl ?_
  refine kj_istore (L' := [(4, .inl x1), (3, .inl (-1)), (2, .inl 0), (0, .inr (.inr (some p0))), (1, .inl p1)]) hC dX10_joinsAgain_10 (by decide) rfl ?_
  exact kj_sub [3, 4, 2, 1, 0] rfl (t_X10_joinsAgain_L12 hC hN hT hmc hms hD  kF p0 p1 0 ((-1)) x1 h1)
set_option maxHeartbeats 4000000 in
set_option maxRecDepth 100000 in
theorem t_X10_joins_b2 {X : KX} (hC : kC X RX10 cX10_joins 3 (some .int)) (hN : (xme X).name = yX10_joins.name) (hT : kT0 X) (hmc : xmc X = 0) (hms : xms X = 0) (hD : xD X = 3) (rc2 : Nat → Int32 → Int32 → KH → KO Int32) (hr2 : ∀ (v0 : Nat) (v1 : Int32) (v2 : Int32) (h : KH), kJ X (fun x : Int32 => some (.inl x)) 3 0 0 [(0, .inr (.inr (some v0))), (1, .inl v1), (2, .inl v2)] [] 2 h (rc2 v0 v1 v2 h)) (v0 : Nat) (v1 : Int32) (v2 : Int32) (h : KH) : kJ X (fun x : Int32 => some (.inl x)) 3 0 0 [(0, .inr (.inr (some v0))), (1, .inl v1), (2, .inl v2)] [] 2 h (X10_joins_b2 rc2 v0 v1 v2 h) := by
  unfold X10_joins_b2
  refine kj_iloadn hC 2 dX10_joins_2 rfl rfl ?_
  refine kj_aloadn hC 0 dX10_joins_3 rfl rfl ?_
  refine kj_gI (ci := 10) (k := 16) hC dX10_joins_4 kf_X10_110 rfl (fun x1 => ?_)
  refine kj_icmp_ge (tgt := 27) hC dX10_joins_7 (by decide) (fun q1 => ?_) (fun q1 => ?_)
  · refine kj_aloadn hC 0 dX10_joins_27 rfl rfl ?_
    refine kj_iloadn hC 1 dX10_joins_28 rfl rfl ?_
    refine kj_invV (ci := 10) (q := (RX10, TX10, 36)) (as := [.inl v1]) (rest := []) hC hT dX10_joins_29 kw1247 ky_X10_joinsAgain ky2_X10_joinsAgain rfl rfl (t_X10_joinsAgain v0 v1 h) rfl rfl (Nat.le_of_ble_eq_true rfl) ⟨by rw [hD]; decide, by decide⟩ ⟨by rw [hmc]; exact Nat.le_of_ble_eq_true rfl, by rw [hms]; exact Nat.le_of_ble_eq_true rfl⟩ (fun x2 h1 => ?_)
    refine kj_norm (st' := [.inl x2]) (c' := 0) (z' := 0) rfl rfl rfl ?_
    refine kj_fin hmc hms ?_
    exact kj_ireturn hC dX10_joins_32
  · refine kj_aloadn hC 0 dX10_joins_10 rfl rfl ?_
    refine kj_gN (ci := 10) (k := 23) hC dX10_joins_11 kf_X10_66 rfl (fun a1 => ?_)
    refine kj_iloadn hC 2 dX10_joins_14 rfl rfl ?_
    refine kj_aloadn hC 0 dX10_joins_15 rfl rfl ?_
    refine kj_iloadn hC 2 dX10_joins_16 rfl rfl ?_
    refine kj_invV (ci := 10) (q := (RX10, TX10, 36)) (as := [.inl v2]) (rest := [.inl v2, .inr (.inr (some a1))]) hC hT dX10_joins_17 kw1219 ky_X10_plateFor ky2_X10_plateFor rfl rfl (t_X10_plateFor v0 v2 h) rfl rfl (Nat.le_of_ble_eq_true rfl) ⟨by rw [hD]; decide, by decide⟩ ⟨by rw [hmc]; exact Nat.le_of_ble_eq_true rfl, by rw [hms]; exact Nat.le_of_ble_eq_true rfl⟩ (fun x3 h2 => ?_)
    refine kj_norm (st' := [.inl x3, .inl v2, .inr (.inr (some a1))]) (c' := 0) (z' := 0) rfl rfl rfl ?_
    refine kj_pAI hC dX10_joins_20 (fun h3 => ?_)
    refine kj_iinc (v := v2 + 1) (L' := [(2, .inl (v2 + 1)), (0, .inr (.inr (some v0))), (1, .inl v1)]) hC 2 dX10_joins_21 rfl rfl (by decide) rfl ?_
    refine kj_goto (tgt := 2) hC dX10_joins_24 (by decide) ?_
    exact kj_sub [1, 2, 0] rfl (hr2 v0 v1 (v2 + 1) h3)
set_option maxHeartbeats 4000000 in
set_option maxRecDepth 100000 in
theorem t_X10_joins_L2 {X : KX} (hC : kC X RX10 cX10_joins 3 (some .int)) (hN : (xme X).name = yX10_joins.name) (hT : kT0 X) (hmc : xmc X = 0) (hms : xms X = 0) (hD : xD X = 3) : ∀ (n : Nat) (v0 : Nat) (v1 : Int32) (v2 : Int32) (h : KH), kJ X (fun x : Int32 => some (.inl x)) 3 0 0 [(0, .inr (.inr (some v0))), (1, .inl v1), (2, .inl v2)] [] 2 h (X10_joins_L2  n v0 v1 v2 h) := by
  intro n
  induction n with
  | zero => intro v0 v1 v2 h; exact kj_none
  | succ n ih => intro v0 v1 v2 h; exact t_X10_joins_b2 hC hN hT hmc hms hD (X10_joins_L2  n) ih v0 v1 v2 h
set_option maxHeartbeats 4000000 in
set_option maxRecDepth 100000 in
theorem t_X10_joins (p0 : Nat) (p1 : Int32) (h : KH) : kM yX10_joins cX10_joins 3 (some .int) 3 0 0 (fun x : Int32 => some (.inl x)) [.inr (.inr (some p0)), .inl p1] h (f_X10_joins p0 p1 h) := by
  refine kM_of RX10 (by decide) rfl (Nat.le_of_ble_eq_true rfl) [(0, .inr (.inr (some p0))), (1, .inl p1)] rfl (fun X hC hN hT hmc hms hD => ?_)
  unfold f_X10_joins
  refine kj_iconst (v := 0) hC dX10_joins_0 (by decide) ?_
  refine kj_istoren (L' := [(2, .inl 0), (0, .inr (.inr (some p0))), (1, .inl p1)]) hC dX10_joins_1 rfl (by decide) rfl ?_
  exact kj_sub [1, 2, 0] rfl (t_X10_joins_L2 hC hN hT hmc hms hD  kF p0 p1 0 h)
set_option maxHeartbeats 4000000 in
set_option maxRecDepth 100000 in
theorem t_X10_trips_b29 {X : KX} (hC : kC X RX10 cX10_trips 2 (some .int)) (hN : (xme X).name = yX10_trips.name) (hT : kT0 X) (hmc : xmc X = 0) (hms : xms X = 0) (hD : xD X = 4) (s0 : Int32) (h : KH) : kJ X (fun x : Int32 => some (.inl x)) 2 0 0 [] [.inl s0] 29 h (X10_trips_b29  s0 h) := by
  unfold X10_trips_b29
  refine kj_fin hmc hms ?_
  exact kj_ireturn hC dX10_trips_29
set_option maxHeartbeats 4000000 in
set_option maxRecDepth 100000 in
theorem t_X10_trips_b14 {X : KX} (hC : kC X RX10 cX10_trips 2 (some .int)) (hN : (xme X).name = yX10_trips.name) (hT : kT0 X) (hmc : xmc X = 0) (hms : xms X = 0) (hD : xD X = 4) (v0 : Nat) (v1 : Int32) (s0 : Int32) (s1 : Nat) (h : KH) : kJ X (fun x : Int32 => some (.inl x)) 2 0 0 [(0, .inr (.inr (some v0))), (1, .inl v1)] [.inl s0, .inr (.inr (some s1))] 14 h (X10_trips_b14  v0 v1 s0 s1 h) := by
  unfold X10_trips_b14
  refine kj_invV (ci := 10) (q := (RX10, TX10, 36)) (as := [.inl s0]) (rest := []) hC hT dX10_trips_14 kw1089 ky_X10_can ky2_X10_can rfl rfl (t_X10_can s1 s0 h) rfl rfl (Nat.le_of_ble_eq_true rfl) ⟨by rw [hD]; decide, by decide⟩ ⟨by rw [hmc]; exact Nat.le_of_ble_eq_true rfl, by rw [hms]; exact Nat.le_of_ble_eq_true rfl⟩ (fun x1 h1 => ?_)
  refine kj_norm (st' := [.inl x1]) (c' := 0) (z' := 0) rfl rfl rfl ?_
  refine kj_if_eq (tgt := 28) hC dX10_trips_17 (by decide) (fun q1 => ?_) (fun q1 => ?_)
  · refine kj_iconst (v := 0) hC dX10_trips_28 (by decide) ?_
    exact kj_sub [] rfl (t_X10_trips_b29 hC hN hT hmc hms hD  0 h1)
  · refine kj_aloadn hC 0 dX10_trips_20 rfl rfl ?_
    refine kj_iloadn hC 1 dX10_trips_21 rfl rfl ?_
    refine kj_invV (ci := 10) (q := (RX10, TX10, 36)) (as := [.inl v1]) (rest := []) hC hT dX10_trips_22 kw1243 ky_X10_joins ky2_X10_joins rfl rfl (t_X10_joins v0 v1 h1) rfl rfl (Nat.le_of_ble_eq_true rfl) ⟨by rw [hD]; decide, by decide⟩ ⟨by rw [hmc]; exact Nat.le_of_ble_eq_true rfl, by rw [hms]; exact Nat.le_of_ble_eq_true rfl⟩ (fun x2 h2 => ?_)
    refine kj_norm (st' := [.inl x2]) (c' := 0) (z' := 0) rfl rfl rfl ?_
    refine kj_goto (tgt := 29) hC dX10_trips_25 (by decide) ?_
    exact kj_sub [] rfl (t_X10_trips_b29 hC hN hT hmc hms hD  x2 h2)
set_option maxHeartbeats 4000000 in
set_option maxRecDepth 100000 in
theorem t_X10_trips (p0 : Nat) (p1 : Int32) (h : KH) : kM yX10_trips cX10_trips 2 (some .int) 4 0 0 (fun x : Int32 => some (.inl x)) [.inr (.inr (some p0)), .inl p1] h (f_X10_trips p0 p1 h) := by
  refine kM_of RX10 (by decide) rfl (Nat.le_of_ble_eq_true rfl) [(0, .inr (.inr (some p0))), (1, .inl p1)] rfl (fun X hC hN hT hmc hms hD => ?_)
  unfold f_X10_trips
  refine kj_aloadn hC 0 dX10_trips_0 rfl rfl ?_
  refine kj_aloadn hC 0 dX10_trips_1 rfl rfl ?_
  refine kj_iloadn hC 1 dX10_trips_2 rfl rfl ?_
  refine kj_invV (ci := 10) (q := (RX10, TX10, 36)) (as := [.inl p1]) (rest := [.inr (.inr (some p0))]) hC hT dX10_trips_3 kw1179 ky_X10_isPlate ky2_X10_isPlate rfl rfl (t_X10_isPlate p0 p1 h) rfl rfl (Nat.le_of_ble_eq_true rfl) ⟨by rw [hD]; decide, by decide⟩ ⟨by rw [hmc]; exact Nat.le_of_ble_eq_true rfl, by rw [hms]; exact Nat.le_of_ble_eq_true rfl⟩ (fun x1 h1 => ?_)
  refine kj_norm (st' := [.inl x1, .inr (.inr (some p0))]) (c' := 0) (z' := 0) rfl rfl rfl ?_
  refine kj_if_eq (tgt := 13) hC dX10_trips_6 (by decide) (fun q1 => ?_) (fun q1 => ?_)
  · refine kj_iconst (v := 1) hC dX10_trips_13 (by decide) ?_
    exact kj_sub [0, 1] rfl (t_X10_trips_b14 hC hN hT hmc hms hD  p0 p1 1 p0 h1)
  · refine kj_iconst (v := 0) hC dX10_trips_9 (by decide) ?_
    refine kj_goto (tgt := 14) hC dX10_trips_10 (by decide) ?_
    exact kj_sub [0, 1] rfl (t_X10_trips_b14 hC hN hT hmc hms hD  p0 p1 0 p0 h1)
set_option maxHeartbeats 4000000 in
set_option maxRecDepth 100000 in
theorem t_X10_tripsAnew_b29 {X : KX} (hC : kC X RX10 cX10_tripsAnew 2 (some .int)) (hN : (xme X).name = yX10_tripsAnew.name) (hT : kT0 X) (hmc : xmc X = 0) (hms : xms X = 0) (hD : xD X = 4) (s0 : Int32) (h : KH) : kJ X (fun x : Int32 => some (.inl x)) 2 0 0 [] [.inl s0] 29 h (X10_tripsAnew_b29  s0 h) := by
  unfold X10_tripsAnew_b29
  refine kj_fin hmc hms ?_
  exact kj_ireturn hC dX10_tripsAnew_29
set_option maxHeartbeats 4000000 in
set_option maxRecDepth 100000 in
theorem t_X10_tripsAnew_b14 {X : KX} (hC : kC X RX10 cX10_tripsAnew 2 (some .int)) (hN : (xme X).name = yX10_tripsAnew.name) (hT : kT0 X) (hmc : xmc X = 0) (hms : xms X = 0) (hD : xD X = 4) (v0 : Nat) (v1 : Int32) (s0 : Int32) (s1 : Nat) (h : KH) : kJ X (fun x : Int32 => some (.inl x)) 2 0 0 [(0, .inr (.inr (some v0))), (1, .inl v1)] [.inl s0, .inr (.inr (some s1))] 14 h (X10_tripsAnew_b14  v0 v1 s0 s1 h) := by
  unfold X10_tripsAnew_b14
  refine kj_invV (ci := 10) (q := (RX10, TX10, 36)) (as := [.inl s0]) (rest := []) hC hT dX10_tripsAnew_14 kw1089 ky_X10_can ky2_X10_can rfl rfl (t_X10_can s1 s0 h) rfl rfl (Nat.le_of_ble_eq_true rfl) ⟨by rw [hD]; decide, by decide⟩ ⟨by rw [hmc]; exact Nat.le_of_ble_eq_true rfl, by rw [hms]; exact Nat.le_of_ble_eq_true rfl⟩ (fun x1 h1 => ?_)
  refine kj_norm (st' := [.inl x1]) (c' := 0) (z' := 0) rfl rfl rfl ?_
  refine kj_if_eq (tgt := 28) hC dX10_tripsAnew_17 (by decide) (fun q1 => ?_) (fun q1 => ?_)
  · refine kj_iconst (v := 0) hC dX10_tripsAnew_28 (by decide) ?_
    exact kj_sub [] rfl (t_X10_tripsAnew_b29 hC hN hT hmc hms hD  0 h1)
  · refine kj_aloadn hC 0 dX10_tripsAnew_20 rfl rfl ?_
    refine kj_iloadn hC 1 dX10_tripsAnew_21 rfl rfl ?_
    refine kj_invV (ci := 10) (q := (RX10, TX10, 36)) (as := [.inl v1]) (rest := []) hC hT dX10_tripsAnew_22 kw1243 ky_X10_joins ky2_X10_joins rfl rfl (t_X10_joins v0 v1 h1) rfl rfl (Nat.le_of_ble_eq_true rfl) ⟨by rw [hD]; decide, by decide⟩ ⟨by rw [hmc]; exact Nat.le_of_ble_eq_true rfl, by rw [hms]; exact Nat.le_of_ble_eq_true rfl⟩ (fun x2 h2 => ?_)
    refine kj_norm (st' := [.inl x2]) (c' := 0) (z' := 0) rfl rfl rfl ?_
    refine kj_goto (tgt := 29) hC dX10_tripsAnew_25 (by decide) ?_
    exact kj_sub [] rfl (t_X10_tripsAnew_b29 hC hN hT hmc hms hD  x2 h2)
set_option maxHeartbeats 4000000 in
set_option maxRecDepth 100000 in
theorem t_X10_tripsAnew (p0 : Nat) (p1 : Int32) (h : KH) : kM yX10_tripsAnew cX10_tripsAnew 2 (some .int) 4 0 0 (fun x : Int32 => some (.inl x)) [.inr (.inr (some p0)), .inl p1] h (f_X10_tripsAnew p0 p1 h) := by
  refine kM_of RX10 (by decide) rfl (Nat.le_of_ble_eq_true rfl) [(0, .inr (.inr (some p0))), (1, .inl p1)] rfl (fun X hC hN hT hmc hms hD => ?_)
  unfold f_X10_tripsAnew
  refine kj_aloadn hC 0 dX10_tripsAnew_0 rfl rfl ?_
  refine kj_aloadn hC 0 dX10_tripsAnew_1 rfl rfl ?_
  refine kj_iloadn hC 1 dX10_tripsAnew_2 rfl rfl ?_
  refine kj_invV (ci := 10) (q := (RX10, TX10, 36)) (as := [.inl p1]) (rest := [.inr (.inr (some p0))]) hC hT dX10_tripsAnew_3 kw1179 ky_X10_isPlate ky2_X10_isPlate rfl rfl (t_X10_isPlate p0 p1 h) rfl rfl (Nat.le_of_ble_eq_true rfl) ⟨by rw [hD]; decide, by decide⟩ ⟨by rw [hmc]; exact Nat.le_of_ble_eq_true rfl, by rw [hms]; exact Nat.le_of_ble_eq_true rfl⟩ (fun x1 h1 => ?_)
  refine kj_norm (st' := [.inl x1, .inr (.inr (some p0))]) (c' := 0) (z' := 0) rfl rfl rfl ?_
  refine kj_if_eq (tgt := 13) hC dX10_tripsAnew_6 (by decide) (fun q1 => ?_) (fun q1 => ?_)
  · refine kj_iconst (v := 1) hC dX10_tripsAnew_13 (by decide) ?_
    exact kj_sub [0, 1] rfl (t_X10_tripsAnew_b14 hC hN hT hmc hms hD  p0 p1 1 p0 h1)
  · refine kj_iconst (v := 0) hC dX10_tripsAnew_9 (by decide) ?_
    refine kj_goto (tgt := 14) hC dX10_tripsAnew_10 (by decide) ?_
    exact kj_sub [0, 1] rfl (t_X10_tripsAnew_b14 hC hN hT hmc hms hD  p0 p1 0 p0 h1)
set_option maxHeartbeats 4000000 in
set_option maxRecDepth 100000 in
theorem t_X10_tripOf_b14 {X : KX} (hC : kC X RX10 cX10_tripOf 3 (some .int)) (hN : (xme X).name = yX10_tripOf.name) (hT : kT0 X) (hmc : xmc X = 0) (hms : xms X = 0) (hD : xD X = 4) (v0 : Nat) (v1 : Int32) (s0 : Int32) (s1 : Nat) (h : KH) : kJ X (fun x : Int32 => some (.inl x)) 3 0 0 [(0, .inr (.inr (some v0))), (1, .inl v1)] [.inl s0, .inr (.inr (some s1))] 14 h (X10_tripOf_b14  v0 v1 s0 s1 h) := by
  unfold X10_tripOf_b14
  refine kj_invV (ci := 10) (q := (RX10, TX10, 36)) (as := [.inl s0]) (rest := []) hC hT dX10_tripOf_14 kw1089 ky_X10_can ky2_X10_can rfl rfl (t_X10_can s1 s0 h) rfl rfl (Nat.le_of_ble_eq_true rfl) ⟨by rw [hD]; decide, by decide⟩ ⟨by rw [hmc]; exact Nat.le_of_ble_eq_true rfl, by rw [hms]; exact Nat.le_of_ble_eq_true rfl⟩ (fun x1 h1 => ?_)
  refine kj_norm (st' := [.inl x1]) (c' := 0) (z' := 0) rfl rfl rfl ?_
  refine kj_if_ne (tgt := 22) hC dX10_tripOf_17 (by decide) (fun q1 => ?_) (fun q1 => ?_)
  · refine kj_iconst (v := 0) hC dX10_tripOf_20 (by decide) ?_
    refine kj_fin hmc hms ?_
    exact kj_ireturn hC dX10_tripOf_21
  · refine kj_aloadn hC 0 dX10_tripOf_22 rfl rfl ?_
    refine kj_iloadn hC 1 dX10_tripOf_23 rfl rfl ?_
    refine kj_invV (ci := 10) (q := (RX10, TX10, 36)) (as := [.inl v1]) (rest := []) hC hT dX10_tripOf_24 kw1219 ky_X10_plateFor ky2_X10_plateFor rfl rfl (t_X10_plateFor v0 v1 h1) rfl rfl (Nat.le_of_ble_eq_true rfl) ⟨by rw [hD]; decide, by decide⟩ ⟨by rw [hmc]; exact Nat.le_of_ble_eq_true rfl, by rw [hms]; exact Nat.le_of_ble_eq_true rfl⟩ (fun x2 h2 => ?_)
    refine kj_norm (st' := [.inl x2]) (c' := 0) (z' := 0) rfl rfl rfl ?_
    refine kj_istoren (L' := [(2, .inl x2), (0, .inr (.inr (some v0))), (1, .inl v1)]) hC dX10_tripOf_27 rfl (by decide) rfl ?_
    refine kj_iloadn hC 0 dX10_tripOf_28 rfl rfl ?_
    refine kj_iconst (v := (-1)) hC dX10_tripOf_29 (by decide) ?_
    refine kj_icmp_ne (tgt := 35) hC dX10_tripOf_30 (by decide) (fun q2 => ?_) (fun q2 => ?_)
    · refine kj_iconst (v := (-1)) hC dX10_tripOf_33 (by decide) ?_
      refine kj_fin hmc hms ?_
      exact kj_ireturn hC dX10_tripOf_34
    · refine kj_aloadn hC 1 dX10_tripOf_35 rfl rfl ?_
      refine kj_iloadn hC 0 dX10_tripOf_36 rfl rfl ?_
      refine kj_invV (ci := 10) (q := (RX10, TX10, 36)) (as := [.inl x2]) (rest := []) hC hT dX10_tripOf_37 kw1243 ky_X10_joins ky2_X10_joins rfl rfl (t_X10_joins v0 x2 h2) rfl rfl (Nat.le_of_ble_eq_true rfl) ⟨by rw [hD]; decide, by decide⟩ ⟨by rw [hmc]; exact Nat.le_of_ble_eq_true rfl, by rw [hms]; exact Nat.le_of_ble_eq_true rfl⟩ (fun x3 h3 => ?_)
      refine kj_norm (st' := [.inl x3]) (c' := 0) (z' := 0) rfl rfl rfl ?_
      refine kj_pop hC dX10_tripOf_40 rfl ?_
      refine kj_aloadn hC 1 dX10_tripOf_41 rfl rfl ?_
      refine kj_gN (ci := 10) (k := 24) hC dX10_tripOf_42 kf_X10_69 rfl (fun a1 => ?_)
      refine kj_iloadn hC 2 dX10_tripOf_45 rfl rfl ?_
      refine kj_gAI hC dX10_tripOf_46 (fun x4 => ?_)
      refine kj_fin hmc hms ?_
      exact kj_ireturn hC dX10_tripOf_47
set_option maxHeartbeats 4000000 in
set_option maxRecDepth 100000 in
theorem t_X10_tripOf (p0 : Nat) (p1 : Int32) (h : KH) : kM yX10_tripOf cX10_tripOf 3 (some .int) 4 0 0 (fun x : Int32 => some (.inl x)) [.inr (.inr (some p0)), .inl p1] h (f_X10_tripOf p0 p1 h) := by
  refine kM_of RX10 (by decide) rfl (Nat.le_of_ble_eq_true rfl) [(0, .inr (.inr (some p0))), (1, .inl p1)] rfl (fun X hC hN hT hmc hms hD => ?_)
  unfold f_X10_tripOf
  refine kj_aloadn hC 0 dX10_tripOf_0 rfl rfl ?_
  refine kj_aloadn hC 0 dX10_tripOf_1 rfl rfl ?_
  refine kj_iloadn hC 1 dX10_tripOf_2 rfl rfl ?_
  refine kj_invV (ci := 10) (q := (RX10, TX10, 36)) (as := [.inl p1]) (rest := [.inr (.inr (some p0))]) hC hT dX10_tripOf_3 kw1215 ky_X10_isReading ky2_X10_isReading rfl rfl (t_X10_isReading p0 p1 h) rfl rfl (Nat.le_of_ble_eq_true rfl) ⟨by rw [hD]; decide, by decide⟩ ⟨by rw [hmc]; exact Nat.le_of_ble_eq_true rfl, by rw [hms]; exact Nat.le_of_ble_eq_true rfl⟩ (fun x1 h1 => ?_)
  refine kj_norm (st' := [.inl x1, .inr (.inr (some p0))]) (c' := 0) (z' := 0) rfl rfl rfl ?_
  refine kj_if_eq (tgt := 13) hC dX10_tripOf_6 (by decide) (fun q1 => ?_) (fun q1 => ?_)
  · refine kj_iconst (v := 1) hC dX10_tripOf_13 (by decide) ?_
    exact kj_sub [0, 1] rfl (t_X10_tripOf_b14 hC hN hT hmc hms hD  p0 p1 1 p0 h1)
  · refine kj_iconst (v := 0) hC dX10_tripOf_9 (by decide) ?_
    refine kj_goto (tgt := 14) hC dX10_tripOf_10 (by decide) ?_
    exact kj_sub [0, 1] rfl (t_X10_tripOf_b14 hC hN hT hmc hms hD  p0 p1 0 p0 h1)
set_option maxHeartbeats 4000000 in
set_option maxRecDepth 100000 in
theorem t_X10_firstOf_b7 {X : KX} (hC : kC X RX10 cX10_firstOf 4 (some .int)) (hN : (xme X).name = yX10_firstOf.name) (hT : kT0 X) (hmc : xmc X = 0) (hms : xms X = 0) (hD : xD X = 2) (rc7 : Nat → Int32 → Int32 → Int32 → KH → KO Int32) (hr7 : ∀ (v0 : Nat) (v1 : Int32) (v2 : Int32) (v3 : Int32) (h : KH), kJ X (fun x : Int32 => some (.inl x)) 4 0 0 [(0, .inr (.inr (some v0))), (1, .inl v1), (2, .inl v2), (3, .inl v3)] [] 7 h (rc7 v0 v1 v2 v3 h)) (v0 : Nat) (v1 : Int32) (v2 : Int32) (v3 : Int32) (h : KH) : kJ X (fun x : Int32 => some (.inl x)) 4 0 0 [(0, .inr (.inr (some v0))), (1, .inl v1), (2, .inl v2), (3, .inl v3)] [] 7 h (X10_firstOf_b7 rc7 v0 v1 v2 v3 h) := by
  unfold X10_firstOf_b7
  refine kj_aloadn hC 0 dX10_firstOf_7 rfl rfl ?_
  refine kj_gN (ci := 10) (k := 24) hC dX10_firstOf_8 kf_X10_69 rfl (fun a1 => ?_)
  refine kj_iloadn hC 3 dX10_firstOf_11 rfl rfl ?_
  refine kj_gAI hC dX10_firstOf_12 (fun x1 => ?_)
  refine kj_iloadn hC 2 dX10_firstOf_13 rfl rfl ?_
  refine kj_icmp_eq (tgt := 27) hC dX10_firstOf_14 (by decide) (fun q1 => ?_) (fun q1 => ?_)
  · refine kj_iloadn hC 3 dX10_firstOf_27 rfl rfl ?_
    refine kj_fin hmc hms ?_
    exact kj_ireturn hC dX10_firstOf_28
  · refine kj_aloadn hC 0 dX10_firstOf_17 rfl rfl ?_
    refine kj_iloadn hC 1 dX10_firstOf_18 rfl rfl ?_
    refine kj_iloadn hC 3 dX10_firstOf_19 rfl rfl ?_
    refine kj_invV (ci := 10) (q := (RX10, TX10, 36)) (as := [.inl v1, .inl v3]) (rest := []) hC hT dX10_firstOf_20 kw1251 ky_X10_next ky2_X10_next rfl rfl (t_X10_next v0 v1 v3 h) rfl rfl (Nat.le_of_ble_eq_true rfl) ⟨by rw [hD]; decide, by decide⟩ ⟨by rw [hmc]; exact Nat.le_of_ble_eq_true rfl, by rw [hms]; exact Nat.le_of_ble_eq_true rfl⟩ (fun x2 h1 => ?_)
    refine kj_norm (st' := [.inl x2]) (c' := 0) (z' := 0) rfl rfl rfl ?_
    refine kj_istoren (L' := [(3, .inl x2), (0, .inr (.inr (some v0))), (1, .inl v1), (2, .inl v2)]) hC dX10_firstOf_23 rfl (by decide) rfl ?_
    refine kj_goto (tgt := 7) hC dX10_firstOf_24 (by decide) ?_
    exact kj_sub [1, 2, 3, 0] rfl (hr7 v0 v1 v2 x2 h1)
set_option maxHeartbeats 4000000 in
set_option maxRecDepth 100000 in
theorem t_X10_firstOf_L7 {X : KX} (hC : kC X RX10 cX10_firstOf 4 (some .int)) (hN : (xme X).name = yX10_firstOf.name) (hT : kT0 X) (hmc : xmc X = 0) (hms : xms X = 0) (hD : xD X = 2) : ∀ (n : Nat) (v0 : Nat) (v1 : Int32) (v2 : Int32) (v3 : Int32) (h : KH), kJ X (fun x : Int32 => some (.inl x)) 4 0 0 [(0, .inr (.inr (some v0))), (1, .inl v1), (2, .inl v2), (3, .inl v3)] [] 7 h (X10_firstOf_L7  n v0 v1 v2 v3 h) := by
  intro n
  induction n with
  | zero => intro v0 v1 v2 v3 h; exact kj_none
  | succ n ih => intro v0 v1 v2 v3 h; exact t_X10_firstOf_b7 hC hN hT hmc hms hD (X10_firstOf_L7  n) ih v0 v1 v2 v3 h
set_option maxHeartbeats 4000000 in
set_option maxRecDepth 100000 in
theorem t_X10_firstOf (p0 : Nat) (p1 : Int32) (p2 : Int32) (h : KH) : kM yX10_firstOf cX10_firstOf 4 (some .int) 2 0 0 (fun x : Int32 => some (.inl x)) [.inr (.inr (some p0)), .inl p1, .inl p2] h (f_X10_firstOf p0 p1 p2 h) := by
  refine kM_of RX10 (by decide) rfl (Nat.le_of_ble_eq_true rfl) [(0, .inr (.inr (some p0))), (1, .inl p1), (2, .inl p2)] rfl (fun X hC hN hT hmc hms hD => ?_)
  unfold f_X10_firstOf
  refine kj_aloadn hC 0 dX10_firstOf_0 rfl rfl ?_
  refine kj_iloadn hC 1 dX10_firstOf_1 rfl rfl ?_
  refine kj_iconst (v := (-1)) hC dX10_firstOf_2 (by decide) ?_
  refine kj_invV (ci := 10) (q := (RX10, TX10, 36)) (as := [.inl p1, .inl (-1)]) (rest := []) hC hT dX10_firstOf_3 kw1251 ky_X10_next ky2_X10_next rfl rfl (t_X10_next p0 p1 ((-1)) h) rfl rfl (Nat.le_of_ble_eq_true rfl) ⟨by rw [hD]; decide, by decide⟩ ⟨by rw [hmc]; exact Nat.le_of_ble_eq_true rfl, by rw [hms]; exact Nat.le_of_ble_eq_true rfl⟩ (fun x1 h1 => ?_)
  refine kj_norm (st' := [.inl x1]) (c' := 0) (z' := 0) rfl rfl rfl ?_
  refine kj_istoren (L' := [(3, .inl x1), (0, .inr (.inr (some p0))), (1, .inl p1), (2, .inl p2)]) hC dX10_firstOf_6 rfl (by decide) rfl ?_
  exact kj_sub [1, 2, 3, 0] rfl (t_X10_firstOf_L7 hC hN hT hmc hms hD  kF p0 p1 p2 x1 h1)
set_option maxHeartbeats 4000000 in
set_option maxRecDepth 100000 in
theorem t_X10_tollOf_b78 {X : KX} (hC : kC X RX10 cX10_tollOf 6 (some .int)) (hN : (xme X).name = yX10_tollOf.name) (hT : kT0 X) (hmc : xmc X = 0) (hms : xms X = 0) (hD : xD X = 3) (v0 : Nat) (v1 : Int32) (v3 : Int32) (h : KH) : kJ X (fun x : Int32 => some (.inl x)) 6 0 0 [(0, .inr (.inr (some v0))), (1, .inl v1), (3, .inl v3)] [] 78 h (X10_tollOf_b78  v0 v1 v3 h) := by
  unfold X10_tollOf_b78
  refine kj_aloadn hC 0 dX10_tollOf_78 rfl rfl ?_
  refine kj_gN (ci := 10) (k := 4) hC dX10_tollOf_79 kf_X10_20 rfl (fun a1 => ?_)
  refine kj_aloadn hC 0 dX10_tollOf_82 rfl rfl ?_
  refine kj_gN (ci := 10) (k := 11) hC dX10_tollOf_83 kf_X10_36 rfl (fun a2 => ?_)
  refine kj_iloadn hC 1 dX10_tollOf_86 rfl rfl ?_
  refine kj_gAI hC dX10_tollOf_87 (fun x1 => ?_)
  refine kj_gAI hC dX10_tollOf_88 (fun x2 => ?_)
  refine kj_iloadn hC 2 dX10_tollOf_89 rfl rfl ?_
  refine kj_imul hC dX10_tollOf_90 ?_
  refine kj_fin hmc hms ?_
  exact kj_ireturn hC dX10_tollOf_91
set_option maxHeartbeats 4000000 in
set_option maxRecDepth 100000 in
theorem t_X10_tollOf_b19 {X : KX} (hC : kC X RX10 cX10_tollOf 6 (some .int)) (hN : (xme X).name = yX10_tollOf.name) (hT : kT0 X) (hmc : xmc X = 0) (hms : xms X = 0) (hD : xD X = 3) (rc19 : Nat → Int32 → Int32 → Int32 → Int32 → Int32 → KH → KO Int32) (hr19 : ∀ (v0 : Nat) (v1 : Int32) (v2 : Int32) (v3 : Int32) (v4 : Int32) (v5 : Int32) (h : KH), kJ X (fun x : Int32 => some (.inl x)) 6 0 0 [(0, .inr (.inr (some v0))), (1, .inl v1), (2, .inl v2), (3, .inl v3), (4, .inl v4), (5, .inl v5)] [] 19 h (rc19 v0 v1 v2 v3 v4 v5 h)) (v0 : Nat) (v1 : Int32) (v2 : Int32) (v3 : Int32) (v4 : Int32) (v5 : Int32) (h : KH) : kJ X (fun x : Int32 => some (.inl x)) 6 0 0 [(0, .inr (.inr (some v0))), (1, .inl v1), (2, .inl v2), (3, .inl v3), (4, .inl v4), (5, .inl v5)] [] 19 h (X10_tollOf_b19 rc19 v0 v1 v2 v3 v4 v5 h) := by
  unfold X10_tollOf_b19
  refine kj_iload hC 5 dX10_tollOf_19 rfl ?_
  refine kj_iconst (v := (-1)) hC dX10_tollOf_21 (by decide) ?_
  refine kj_icmp_eq (tgt := 78) hC dX10_tollOf_22 (by decide) (fun q1 => ?_) (fun q1 => ?_)
  · exact kj_sub [0, 1, 3] rfl (t_X10_tollOf_b78 hC hN hT hmc hms hD  v0 v1 v3 h)
  · refine kj_aloadn hC 0 dX10_tollOf_25 rfl rfl ?_
    refine kj_gN (ci := 10) (k := 24) hC dX10_tollOf_26 kf_X10_69 rfl (fun a1 => ?_)
    refine kj_iload hC 5 dX10_tollOf_29 rfl ?_
    refine kj_gAI hC dX10_tollOf_31 (fun x1 => ?_)
    refine kj_iloadn hC 2 dX10_tollOf_32 rfl rfl ?_
    refine kj_icmp_ne (tgt := 78) hC dX10_tollOf_33 (by decide) (fun q2 => ?_) (fun q2 => ?_)
    · refine kj_iloadn hC 3 dX10_tollOf_36 rfl rfl ?_
      refine kj_aloadn hC 0 dX10_tollOf_37 rfl rfl ?_
      refine kj_gN (ci := 10) (k := 3) hC dX10_tollOf_38 kf_X10_17 rfl (fun a2 => ?_)
      refine kj_bipush (v := 8) hC dX10_tollOf_41 (by decide) ?_
      refine kj_aloadn hC 0 dX10_tollOf_43 rfl rfl ?_
      refine kj_gN (ci := 10) (k := 17) hC dX10_tollOf_44 kf_X10_48 rfl (fun a3 => ?_)
      refine kj_iload hC 4 dX10_tollOf_47 rfl ?_
      refine kj_gAI hC dX10_tollOf_49 (fun x2 => ?_)
      refine kj_imul hC dX10_tollOf_50 ?_
      refine kj_aloadn hC 0 dX10_tollOf_51 rfl rfl ?_
      refine kj_gN (ci := 10) (k := 17) hC dX10_tollOf_52 kf_X10_48 rfl (fun a4 => ?_)
      refine kj_iload hC 5 dX10_tollOf_55 rfl ?_
      refine kj_gAI hC dX10_tollOf_57 (fun x3 => ?_)
      refine kj_iadd hC dX10_tollOf_58 ?_
      refine kj_gAI hC dX10_tollOf_59 (fun x4 => ?_)
      refine kj_iadd hC dX10_tollOf_60 ?_
      refine kj_istoren (L' := [(3, .inl (v3 + x4)), (0, .inr (.inr (some v0))), (1, .inl v1), (2, .inl v2), (4, .inl v4), (5, .inl v5)]) hC dX10_tollOf_61 rfl (by decide) rfl ?_
      refine kj_iload hC 5 dX10_tollOf_62 rfl ?_
      refine kj_istore (L' := [(4, .inl v5), (3, .inl (v3 + x4)), (0, .inr (.inr (some v0))), (1, .inl v1), (2, .inl v2), (5, .inl v5)]) hC dX10_tollOf_64 (by decide) rfl ?_
      refine kj_aloadn hC 2 dX10_tollOf_66 rfl rfl ?_
      refine kj_iloadn hC 3 dX10_tollOf_67 rfl rfl ?_
      refine kj_iload hC 5 dX10_tollOf_68 rfl ?_
      refine kj_invV (ci := 10) (q := (RX10, TX10, 36)) (as := [.inl v1, .inl v5]) (rest := []) hC hT dX10_tollOf_70 kw1251 ky_X10_next ky2_X10_next rfl rfl (t_X10_next v0 v1 v5 h) rfl rfl (Nat.le_of_ble_eq_true rfl) ⟨by rw [hD]; decide, by decide⟩ ⟨by rw [hmc]; exact Nat.le_of_ble_eq_true rfl, by rw [hms]; exact Nat.le_of_ble_eq_true rfl⟩ (fun x5 h1 => ?_)
      refine kj_norm (st' := [.inl x5]) (c' := 0) (z' := 0) rfl rfl rfl ?_
      refine kj_istore (L' := [(5, .inl x5), (4, .inl v5), (3, .inl (v3 + x4)), (0, .inr (.inr (some v0))), (1, .inl v1), (2, .inl v2)]) hC dX10_tollOf_73 (by decide) rfl ?_
      refine kj_goto (tgt := 19) hC dX10_tollOf_75 (by decide) ?_
      exact kj_sub [3, 4, 5, 2, 1, 0] rfl (hr19 v0 v1 v2 (v3 + x4) v5 x5 h1)
    · exact kj_sub [0, 1, 3] rfl (t_X10_tollOf_b78 hC hN hT hmc hms hD  v0 v1 v3 h)
set_option maxHeartbeats 4000000 in
set_option maxRecDepth 100000 in
theorem t_X10_tollOf_L19 {X : KX} (hC : kC X RX10 cX10_tollOf 6 (some .int)) (hN : (xme X).name = yX10_tollOf.name) (hT : kT0 X) (hmc : xmc X = 0) (hms : xms X = 0) (hD : xD X = 3) : ∀ (n : Nat) (v0 : Nat) (v1 : Int32) (v2 : Int32) (v3 : Int32) (v4 : Int32) (v5 : Int32) (h : KH), kJ X (fun x : Int32 => some (.inl x)) 6 0 0 [(0, .inr (.inr (some v0))), (1, .inl v1), (2, .inl v2), (3, .inl v3), (4, .inl v4), (5, .inl v5)] [] 19 h (X10_tollOf_L19  n v0 v1 v2 v3 v4 v5 h) := by
  intro n
  induction n with
  | zero => intro v0 v1 v2 v3 v4 v5 h; exact kj_none
  | succ n ih => intro v0 v1 v2 v3 v4 v5 h; exact t_X10_tollOf_b19 hC hN hT hmc hms hD (X10_tollOf_L19  n) ih v0 v1 v2 v3 v4 v5 h
set_option maxHeartbeats 4000000 in
set_option maxRecDepth 100000 in
theorem t_X10_tollOf (p0 : Nat) (p1 : Int32) (p2 : Int32) (h : KH) : kM yX10_tollOf cX10_tollOf 6 (some .int) 3 0 0 (fun x : Int32 => some (.inl x)) [.inr (.inr (some p0)), .inl p1, .inl p2] h (f_X10_tollOf p0 p1 p2 h) := by
  refine kM_of RX10 (by decide) rfl (Nat.le_of_ble_eq_true rfl) [(0, .inr (.inr (some p0))), (1, .inl p1), (2, .inl p2)] rfl (fun X hC hN hT hmc hms hD => ?_)
  unfold f_X10_tollOf
  refine kj_iconst (v := 2) hC dX10_tollOf_0 (by decide) ?_
  refine kj_istoren (L' := [(3, .inl 2), (0, .inr (.inr (some p0))), (1, .inl p1), (2, .inl p2)]) hC dX10_tollOf_1 rfl (by decide) rfl ?_
  refine kj_aloadn hC 1 dX10_tollOf_2 rfl rfl ?_
  refine kj_iloadn hC 2 dX10_tollOf_3 rfl rfl ?_
  refine kj_iloadn hC 3 dX10_tollOf_4 rfl rfl ?_
  refine kj_invV (ci := 10) (q := (RX10, TX10, 36)) (as := [.inl p1, .inl p2]) (rest := []) hC hT dX10_tollOf_5 kw1283 ky_X10_firstOf ky2_X10_firstOf rfl rfl (t_X10_firstOf p0 p1 p2 h) rfl rfl (Nat.le_of_ble_eq_true rfl) ⟨by rw [hD]; decide, by decide⟩ ⟨by rw [hmc]; exact Nat.le_of_ble_eq_true rfl, by rw [hms]; exact Nat.le_of_ble_eq_true rfl⟩ (fun x1 h1 => ?_)
  refine kj_norm (st' := [.inl x1]) (c' := 0) (z' := 0) rfl rfl rfl ?_
  refine kj_istore (L' := [(4, .inl x1), (3, .inl 2), (0, .inr (.inr (some p0))), (1, .inl p1), (2, .inl p2)]) hC dX10_tollOf_8 (by decide) rfl ?_
  refine kj_aloadn hC 2 dX10_tollOf_10 rfl rfl ?_
  refine kj_iloadn hC 3 dX10_tollOf_11 rfl rfl ?_
  refine kj_iload hC 0 dX10_tollOf_12 rfl ?_
  refine kj_invV (ci := 10) (q := (RX10, TX10, 36)) (as := [.inl p1, .inl x1]) (rest := []) hC hT dX10_tollOf_14 kw1251 ky_X10_next ky2_X10_next rfl rfl (t_X10_next p0 p1 x1 h1) rfl rfl (Nat.le_of_ble_eq_true rfl) ⟨by rw [hD]; decide, by decide⟩ ⟨by rw [hmc]; exact Nat.le_of_ble_eq_true rfl, by rw [hms]; exact Nat.le_of_ble_eq_true rfl⟩ (fun x2 h2 => ?_)
  refine kj_norm (st' := [.inl x2]) (c' := 0) (z' := 0) rfl rfl rfl ?_
  refine kj_istore (L' := [(5, .inl x2), (4, .inl x1), (3, .inl 2), (0, .inr (.inr (some p0))), (1, .inl p1), (2, .inl p2)]) hC dX10_tollOf_17 (by decide) rfl ?_
  exact kj_sub [3, 4, 5, 2, 1, 0] rfl (t_X10_tollOf_L19 hC hN hT hmc hms hD  kF p0 p1 p2 2 x1 x2 h2)
set_option maxHeartbeats 4000000 in
set_option maxRecDepth 100000 in
theorem t_X10_isTrip_b27 {X : KX} (hC : kC X RX10 cX10_isTrip 3 (some .boolean)) (hN : (xme X).name = yX10_isTrip.name) (hT : kT0 X) (hmc : xmc X = 0) (hms : xms X = 0) (hD : xD X = 4) (s0 : Int32) (s1 : Nat) (h : KH) : kJ X (fun x : Int32 => some (.inl x)) 3 0 0 [] [.inl s0, .inr (.inr (some s1))] 27 h (X10_isTrip_b27  s0 s1 h) := by
  unfold X10_isTrip_b27
  refine kj_invV (ci := 10) (q := (RX10, TX10, 36)) (as := [.inl s0]) (rest := []) hC hT dX10_isTrip_27 kw1089 ky_X10_can ky2_X10_can rfl rfl (t_X10_can s1 s0 h) rfl rfl (Nat.le_of_ble_eq_true rfl) ⟨by rw [hD]; decide, by decide⟩ ⟨by rw [hmc]; exact Nat.le_of_ble_eq_true rfl, by rw [hms]; exact Nat.le_of_ble_eq_true rfl⟩ (fun x1 h1 => ?_)
  refine kj_norm (st' := [.inl x1]) (c' := 0) (z' := 0) rfl rfl rfl ?_
  refine kj_fin hmc hms ?_
  exact kj_zreturn hC dX10_isTrip_30
set_option maxHeartbeats 4000000 in
set_option maxRecDepth 100000 in
theorem t_X10_isTrip_b26 {X : KX} (hC : kC X RX10 cX10_isTrip 3 (some .boolean)) (hN : (xme X).name = yX10_isTrip.name) (hT : kT0 X) (hmc : xmc X = 0) (hms : xms X = 0) (hD : xD X = 4) (s0 : Nat) (h : KH) : kJ X (fun x : Int32 => some (.inl x)) 3 0 0 [] [.inr (.inr (some s0))] 26 h (X10_isTrip_b26  s0 h) := by
  unfold X10_isTrip_b26
  refine kj_iconst (v := 1) hC dX10_isTrip_26 (by decide) ?_
  exact kj_sub [] rfl (t_X10_isTrip_b27 hC hN hT hmc hms hD  1 s0 h)
set_option maxHeartbeats 4000000 in
set_option maxRecDepth 100000 in
theorem t_X10_isTrip (p0 : Nat) (p1 : Int32) (p2 : Int32) (h : KH) : kM yX10_isTrip cX10_isTrip 3 (some .boolean) 4 0 0 (fun x : Int32 => some (.inl x)) [.inr (.inr (some p0)), .inl p1, .inl p2] h (f_X10_isTrip p0 p1 p2 h) := by
  refine kM_of RX10 (by decide) rfl (Nat.le_of_ble_eq_true rfl) [(0, .inr (.inr (some p0))), (1, .inl p1), (2, .inl p2)] rfl (fun X hC hN hT hmc hms hD => ?_)
  unfold f_X10_isTrip
  refine kj_aloadn hC 0 dX10_isTrip_0 rfl rfl ?_
  refine kj_aloadn hC 0 dX10_isTrip_1 rfl rfl ?_
  refine kj_iloadn hC 1 dX10_isTrip_2 rfl rfl ?_
  refine kj_invV (ci := 10) (q := (RX10, TX10, 36)) (as := [.inl p1]) (rest := [.inr (.inr (some p0))]) hC hT dX10_isTrip_3 kw1179 ky_X10_isPlate ky2_X10_isPlate rfl rfl (t_X10_isPlate p0 p1 h) rfl rfl (Nat.le_of_ble_eq_true rfl) ⟨by rw [hD]; decide, by decide⟩ ⟨by rw [hmc]; exact Nat.le_of_ble_eq_true rfl, by rw [hms]; exact Nat.le_of_ble_eq_true rfl⟩ (fun x1 h1 => ?_)
  refine kj_norm (st' := [.inl x1, .inr (.inr (some p0))]) (c' := 0) (z' := 0) rfl rfl rfl ?_
  refine kj_if_eq (tgt := 26) hC dX10_isTrip_6 (by decide) (fun q1 => ?_) (fun q1 => ?_)
  · exact kj_sub [] rfl (t_X10_isTrip_b26 hC hN hT hmc hms hD  p0 h1)
  · refine kj_iloadn hC 2 dX10_isTrip_9 rfl rfl ?_
    refine kj_if_lt (tgt := 26) hC dX10_isTrip_10 (by decide) (fun q2 => ?_) (fun q2 => ?_)
    · exact kj_sub [] rfl (t_X10_isTrip_b26 hC hN hT hmc hms hD  p0 h1)
    · refine kj_iloadn hC 2 dX10_isTrip_13 rfl rfl ?_
      refine kj_aloadn hC 0 dX10_isTrip_14 rfl rfl ?_
      refine kj_iloadn hC 1 dX10_isTrip_15 rfl rfl ?_
      refine kj_invV (ci := 10) (q := (RX10, TX10, 36)) (as := [.inl p1]) (rest := [.inl p2, .inr (.inr (some p0))]) hC hT dX10_isTrip_16 kw1243 ky_X10_joins ky2_X10_joins rfl rfl (t_X10_joins p0 p1 h1) rfl rfl (Nat.le_of_ble_eq_true rfl) ⟨by rw [hD]; decide, by decide⟩ ⟨by rw [hmc]; exact Nat.le_of_ble_eq_true rfl, by rw [hms]; exact Nat.le_of_ble_eq_true rfl⟩ (fun x2 h2 => ?_)
      refine kj_norm (st' := [.inl x2, .inl p2, .inr (.inr (some p0))]) (c' := 0) (z' := 0) rfl rfl rfl ?_
      refine kj_icmp_ge (tgt := 26) hC dX10_isTrip_19 (by decide) (fun q3 => ?_) (fun q3 => ?_)
      · exact kj_sub [] rfl (t_X10_isTrip_b26 hC hN hT hmc hms hD  p0 h2)
      · refine kj_iconst (v := 0) hC dX10_isTrip_22 (by decide) ?_
        refine kj_goto (tgt := 27) hC dX10_isTrip_23 (by decide) ?_
        exact kj_sub [] rfl (t_X10_isTrip_b27 hC hN hT hmc hms hD  0 p0 h2)
set_option maxHeartbeats 4000000 in
set_option maxRecDepth 100000 in
theorem t_X10_toll_b19 {X : KX} (hC : kC X RX10 cX10_toll 3 (some .int)) (hN : (xme X).name = yX10_toll.name) (hT : kT0 X) (hmc : xmc X = 0) (hms : xms X = 0) (hD : xD X = 5) (s0 : Int32) (h : KH) : kJ X (fun x : Int32 => some (.inl x)) 3 0 0 [] [.inl s0] 19 h (X10_toll_b19  s0 h) := by
  unfold X10_toll_b19
  refine kj_fin hmc hms ?_
  exact kj_ireturn hC dX10_toll_19
set_option maxHeartbeats 4000000 in
set_option maxRecDepth 100000 in
theorem t_X10_toll (p0 : Nat) (p1 : Int32) (p2 : Int32) (h : KH) : kM yX10_toll cX10_toll 3 (some .int) 5 0 0 (fun x : Int32 => some (.inl x)) [.inr (.inr (some p0)), .inl p1, .inl p2] h (f_X10_toll p0 p1 p2 h) := by
  refine kM_of RX10 (by decide) rfl (Nat.le_of_ble_eq_true rfl) [(0, .inr (.inr (some p0))), (1, .inl p1), (2, .inl p2)] rfl (fun X hC hN hT hmc hms hD => ?_)
  unfold f_X10_toll
  refine kj_aloadn hC 0 dX10_toll_0 rfl rfl ?_
  refine kj_iloadn hC 1 dX10_toll_1 rfl rfl ?_
  refine kj_iloadn hC 2 dX10_toll_2 rfl rfl ?_
  refine kj_invV (ci := 10) (q := (RX10, TX10, 36)) (as := [.inl p1, .inl p2]) (rest := []) hC hT dX10_toll_3 kw1275 ky_X10_isTrip ky2_X10_isTrip rfl rfl (t_X10_isTrip p0 p1 p2 h) rfl rfl (Nat.le_of_ble_eq_true rfl) ⟨by rw [hD]; decide, by decide⟩ ⟨by rw [hmc]; exact Nat.le_of_ble_eq_true rfl, by rw [hms]; exact Nat.le_of_ble_eq_true rfl⟩ (fun x1 h1 => ?_)
  refine kj_norm (st' := [.inl x1]) (c' := 0) (z' := 0) rfl rfl rfl ?_
  refine kj_if_eq (tgt := 18) hC dX10_toll_6 (by decide) (fun q1 => ?_) (fun q1 => ?_)
  · refine kj_iconst (v := 0) hC dX10_toll_18 (by decide) ?_
    exact kj_sub [] rfl (t_X10_toll_b19 hC hN hT hmc hms hD  0 h1)
  · refine kj_aloadn hC 0 dX10_toll_9 rfl rfl ?_
    refine kj_iloadn hC 1 dX10_toll_10 rfl rfl ?_
    refine kj_iloadn hC 2 dX10_toll_11 rfl rfl ?_
    refine kj_invV (ci := 10) (q := (RX10, TX10, 36)) (as := [.inl p1, .inl p2]) (rest := []) hC hT dX10_toll_12 kw1279 ky_X10_tollOf ky2_X10_tollOf rfl rfl (t_X10_tollOf p0 p1 p2 h1) rfl rfl (Nat.le_of_ble_eq_true rfl) ⟨by rw [hD]; decide, by decide⟩ ⟨by rw [hmc]; exact Nat.le_of_ble_eq_true rfl, by rw [hms]; exact Nat.le_of_ble_eq_true rfl⟩ (fun x2 h2 => ?_)
    refine kj_norm (st' := [.inl x2]) (c' := 0) (z' := 0) rfl rfl rfl ?_
    refine kj_goto (tgt := 19) hC dX10_toll_15 (by decide) ?_
    exact kj_sub [] rfl (t_X10_toll_b19 hC hN hT hmc hms hD  x2 h2)
set_option maxHeartbeats 4000000 in
set_option maxRecDepth 100000 in
theorem t_X10_driverOf_b29 {X : KX} (hC : kC X RX10 cX10_driverOf 3 (some .int)) (hN : (xme X).name = yX10_driverOf.name) (hT : kT0 X) (hmc : xmc X = 0) (hms : xms X = 0) (hD : xD X = 5) (s0 : Int32) (h : KH) : kJ X (fun x : Int32 => some (.inl x)) 3 0 0 [] [.inl s0] 29 h (X10_driverOf_b29  s0 h) := by
  unfold X10_driverOf_b29
  refine kj_fin hmc hms ?_
  exact kj_ireturn hC dX10_driverOf_29
set_option maxHeartbeats 4000000 in
set_option maxRecDepth 100000 in
theorem t_X10_driverOf (p0 : Nat) (p1 : Int32) (p2 : Int32) (h : KH) : kM yX10_driverOf cX10_driverOf 3 (some .int) 5 0 0 (fun x : Int32 => some (.inl x)) [.inr (.inr (some p0)), .inl p1, .inl p2] h (f_X10_driverOf p0 p1 p2 h) := by
  refine kM_of RX10 (by decide) rfl (Nat.le_of_ble_eq_true rfl) [(0, .inr (.inr (some p0))), (1, .inl p1), (2, .inl p2)] rfl (fun X hC hN hT hmc hms hD => ?_)
  unfold f_X10_driverOf
  refine kj_aloadn hC 0 dX10_driverOf_0 rfl rfl ?_
  refine kj_iloadn hC 1 dX10_driverOf_1 rfl rfl ?_
  refine kj_iloadn hC 2 dX10_driverOf_2 rfl rfl ?_
  refine kj_invV (ci := 10) (q := (RX10, TX10, 36)) (as := [.inl p1, .inl p2]) (rest := []) hC hT dX10_driverOf_3 kw1275 ky_X10_isTrip ky2_X10_isTrip rfl rfl (t_X10_isTrip p0 p1 p2 h) rfl rfl (Nat.le_of_ble_eq_true rfl) ⟨by rw [hD]; decide, by decide⟩ ⟨by rw [hmc]; exact Nat.le_of_ble_eq_true rfl, by rw [hms]; exact Nat.le_of_ble_eq_true rfl⟩ (fun x1 h1 => ?_)
  refine kj_norm (st' := [.inl x1]) (c' := 0) (z' := 0) rfl rfl rfl ?_
  refine kj_if_eq (tgt := 28) hC dX10_driverOf_6 (by decide) (fun q1 => ?_) (fun q1 => ?_)
  · refine kj_iconst (v := 0) hC dX10_driverOf_28 (by decide) ?_
    exact kj_sub [] rfl (t_X10_driverOf_b29 hC hN hT hmc hms hD  0 h1)
  · refine kj_aloadn hC 0 dX10_driverOf_9 rfl rfl ?_
    refine kj_iloadn hC 1 dX10_driverOf_10 rfl rfl ?_
    refine kj_aloadn hC 0 dX10_driverOf_11 rfl rfl ?_
    refine kj_gN (ci := 10) (k := 18) hC dX10_driverOf_12 kf_X10_51 rfl (fun a1 => ?_)
    refine kj_aloadn hC 0 dX10_driverOf_15 rfl rfl ?_
    refine kj_iloadn hC 1 dX10_driverOf_16 rfl rfl ?_
    refine kj_iloadn hC 2 dX10_driverOf_17 rfl rfl ?_
    refine kj_invV (ci := 10) (q := (RX10, TX10, 36)) (as := [.inl p1, .inl p2]) (rest := [.inr (.inr (some a1)), .inl p1, .inr (.inr (some p0))]) hC hT dX10_driverOf_18 kw1283 ky_X10_firstOf ky2_X10_firstOf rfl rfl (t_X10_firstOf p0 p1 p2 h1) rfl rfl (Nat.le_of_ble_eq_true rfl) ⟨by rw [hD]; decide, by decide⟩ ⟨by rw [hmc]; exact Nat.le_of_ble_eq_true rfl, by rw [hms]; exact Nat.le_of_ble_eq_true rfl⟩ (fun x2 h2 => ?_)
    refine kj_norm (st' := [.inl x2, .inr (.inr (some a1)), .inl p1, .inr (.inr (some p0))]) (c' := 0) (z' := 0) rfl rfl rfl ?_
    refine kj_gAI hC dX10_driverOf_21 (fun x3 => ?_)
    refine kj_invV (ci := 10) (q := (RX10, TX10, 36)) (as := [.inl p1, .inl x3]) (rest := []) hC hT dX10_driverOf_22 kw1183 ky_X10_holderAt ky2_X10_holderAt rfl rfl (t_X10_holderAt p0 p1 x3 h2) rfl rfl (Nat.le_of_ble_eq_true rfl) ⟨by rw [hD]; decide, by decide⟩ ⟨by rw [hmc]; exact Nat.le_of_ble_eq_true rfl, by rw [hms]; exact Nat.le_of_ble_eq_true rfl⟩ (fun x4 h3 => ?_)
    refine kj_norm (st' := [.inl x4]) (c' := 0) (z' := 0) rfl rfl rfl ?_
    refine kj_goto (tgt := 29) hC dX10_driverOf_25 (by decide) ?_
    exact kj_sub [] rfl (t_X10_driverOf_b29 hC hN hT hmc hms hD  x4 h3)
set_option maxHeartbeats 4000000 in
set_option maxRecDepth 100000 in
theorem t_X10_dueFrom_b68 {X : KX} (hC : kC X RX10 cX10_dueFrom 6 (some .int)) (hN : (xme X).name = yX10_dueFrom.name) (hT : kT0 X) (hmc : xmc X = 0) (hms : xms X = 0) (hD : xD X = 4) (rc10 : Nat → Int32 → Int32 → Int32 → KH → KO Int32) (hr10 : ∀ (v0 : Nat) (v1 : Int32) (v2 : Int32) (v3 : Int32) (h : KH), kJ X (fun x : Int32 => some (.inl x)) 6 0 0 [(0, .inr (.inr (some v0))), (1, .inl v1), (2, .inl v2), (3, .inl v3)] [] 10 h (rc10 v0 v1 v2 v3 h)) (rc28 : Nat → Int32 → Int32 → Int32 → Int32 → Int32 → KH → KO Int32) (hr28 : ∀ (v0 : Nat) (v1 : Int32) (v2 : Int32) (v3 : Int32) (v4 : Int32) (v5 : Int32) (h : KH), kJ X (fun x : Int32 => some (.inl x)) 6 0 0 [(0, .inr (.inr (some v0))), (1, .inl v1), (2, .inl v2), (3, .inl v3), (4, .inl v4), (5, .inl v5)] [] 28 h (rc28 v0 v1 v2 v3 v4 v5 h)) (v0 : Nat) (v1 : Int32) (v3 : Int32) (v4 : Int32) (v5 : Int32) (s0 : Int32) (s1 : Int32) (h : KH) : kJ X (fun x : Int32 => some (.inl x)) 6 0 0 [(0, .inr (.inr (some v0))), (1, .inl v1), (3, .inl v3), (4, .inl v4), (5, .inl v5)] [.inl s0, .inl s1] 68 h (X10_dueFrom_b68 rc10 rc28 v0 v1 v3 v4 v5 s0 s1 h) := by
  unfold X10_dueFrom_b68
  refine kj_iadd hC dX10_dueFrom_68 ?_
  refine kj_istoren (L' := [(2, .inl (s1 + s0)), (0, .inr (.inr (some v0))), (1, .inl v1), (3, .inl v3), (4, .inl v4), (5, .inl v5)]) hC dX10_dueFrom_69 rfl (by decide) rfl ?_
  refine kj_iinc (v := v5 + 1) (L' := [(5, .inl (v5 + 1)), (2, .inl (s1 + s0)), (0, .inr (.inr (some v0))), (1, .inl v1), (3, .inl v3), (4, .inl v4)]) hC 5 dX10_dueFrom_70 rfl rfl (by decide) rfl ?_
  refine kj_goto (tgt := 28) hC dX10_dueFrom_73 (by decide) ?_
  exact kj_sub [2, 3, 1, 4, 5, 0] rfl (hr28 v0 v1 (s1 + s0) v3 v4 (v5 + 1) h)
set_option maxHeartbeats 4000000 in
set_option maxRecDepth 100000 in
theorem t_X10_dueFrom_b28 {X : KX} (hC : kC X RX10 cX10_dueFrom 6 (some .int)) (hN : (xme X).name = yX10_dueFrom.name) (hT : kT0 X) (hmc : xmc X = 0) (hms : xms X = 0) (hD : xD X = 4) (rc10 : Nat → Int32 → Int32 → Int32 → KH → KO Int32) (hr10 : ∀ (v0 : Nat) (v1 : Int32) (v2 : Int32) (v3 : Int32) (h : KH), kJ X (fun x : Int32 => some (.inl x)) 6 0 0 [(0, .inr (.inr (some v0))), (1, .inl v1), (2, .inl v2), (3, .inl v3)] [] 10 h (rc10 v0 v1 v2 v3 h)) (rc28 : Nat → Int32 → Int32 → Int32 → Int32 → Int32 → KH → KO Int32) (hr28 : ∀ (v0 : Nat) (v1 : Int32) (v2 : Int32) (v3 : Int32) (v4 : Int32) (v5 : Int32) (h : KH), kJ X (fun x : Int32 => some (.inl x)) 6 0 0 [(0, .inr (.inr (some v0))), (1, .inl v1), (2, .inl v2), (3, .inl v3), (4, .inl v4), (5, .inl v5)] [] 28 h (rc28 v0 v1 v2 v3 v4 v5 h)) (v0 : Nat) (v1 : Int32) (v2 : Int32) (v3 : Int32) (v4 : Int32) (v5 : Int32) (h : KH) : kJ X (fun x : Int32 => some (.inl x)) 6 0 0 [(0, .inr (.inr (some v0))), (1, .inl v1), (2, .inl v2), (3, .inl v3), (4, .inl v4), (5, .inl v5)] [] 28 h (X10_dueFrom_b28 rc10 rc28 v0 v1 v2 v3 v4 v5 h) := by
  unfold X10_dueFrom_b28
  refine kj_iload hC 5 dX10_dueFrom_28 rfl ?_
  refine kj_iload hC 4 dX10_dueFrom_30 rfl ?_
  refine kj_icmp_ge (tgt := 76) hC dX10_dueFrom_32 (by decide) (fun q1 => ?_) (fun q1 => ?_)
  · refine kj_iinc (v := v3 + 1) (L' := [(3, .inl (v3 + 1)), (0, .inr (.inr (some v0))), (1, .inl v1), (2, .inl v2), (4, .inl v4), (5, .inl v5)]) hC 3 dX10_dueFrom_76 rfl rfl (by decide) rfl ?_
    refine kj_goto (tgt := 10) hC dX10_dueFrom_79 (by decide) ?_
    exact kj_sub [1, 2, 3, 0] rfl (hr10 v0 v1 v2 (v3 + 1) h)
  · refine kj_iloadn hC 2 dX10_dueFrom_35 rfl rfl ?_
    refine kj_aloadn hC 0 dX10_dueFrom_36 rfl rfl ?_
    refine kj_iloadn hC 3 dX10_dueFrom_37 rfl rfl ?_
    refine kj_aloadn hC 0 dX10_dueFrom_38 rfl rfl ?_
    refine kj_gN (ci := 10) (k := 18) hC dX10_dueFrom_39 kf_X10_51 rfl (fun a1 => ?_)
    refine kj_aloadn hC 0 dX10_dueFrom_42 rfl rfl ?_
    refine kj_iloadn hC 3 dX10_dueFrom_43 rfl rfl ?_
    refine kj_iload hC 5 dX10_dueFrom_44 rfl ?_
    refine kj_invV (ci := 10) (q := (RX10, TX10, 36)) (as := [.inl v3, .inl v5]) (rest := [.inr (.inr (some a1)), .inl v3, .inr (.inr (some v0)), .inl v2]) hC hT dX10_dueFrom_46 kw1283 ky_X10_firstOf ky2_X10_firstOf rfl rfl (t_X10_firstOf v0 v3 v5 h) rfl rfl (Nat.le_of_ble_eq_true rfl) ⟨by rw [hD]; decide, by decide⟩ ⟨by rw [hmc]; exact Nat.le_of_ble_eq_true rfl, by rw [hms]; exact Nat.le_of_ble_eq_true rfl⟩ (fun x1 h1 => ?_)
    refine kj_norm (st' := [.inl x1, .inr (.inr (some a1)), .inl v3, .inr (.inr (some v0)), .inl v2]) (c' := 0) (z' := 0) rfl rfl rfl ?_
    refine kj_gAI hC dX10_dueFrom_49 (fun x2 => ?_)
    refine kj_invV (ci := 10) (q := (RX10, TX10, 36)) (as := [.inl v3, .inl x2]) (rest := [.inl v2]) hC hT dX10_dueFrom_50 kw1183 ky_X10_holderAt ky2_X10_holderAt rfl rfl (t_X10_holderAt v0 v3 x2 h1) rfl rfl (Nat.le_of_ble_eq_true rfl) ⟨by rw [hD]; decide, by decide⟩ ⟨by rw [hmc]; exact Nat.le_of_ble_eq_true rfl, by rw [hms]; exact Nat.le_of_ble_eq_true rfl⟩ (fun x3 h2 => ?_)
    refine kj_norm (st' := [.inl x3, .inl v2]) (c' := 0) (z' := 0) rfl rfl rfl ?_
    refine kj_iloadn hC 1 dX10_dueFrom_53 rfl rfl ?_
    refine kj_icmp_ne (tgt := 67) hC dX10_dueFrom_54 (by decide) (fun q2 => ?_) (fun q2 => ?_)
    · refine kj_aloadn hC 0 dX10_dueFrom_57 rfl rfl ?_
      refine kj_iloadn hC 3 dX10_dueFrom_58 rfl rfl ?_
      refine kj_iload hC 5 dX10_dueFrom_59 rfl ?_
      refine kj_invV (ci := 10) (q := (RX10, TX10, 36)) (as := [.inl v3, .inl v5]) (rest := [.inl v2]) hC hT dX10_dueFrom_61 kw1279 ky_X10_tollOf ky2_X10_tollOf rfl rfl (t_X10_tollOf v0 v3 v5 h2) rfl rfl (Nat.le_of_ble_eq_true rfl) ⟨by rw [hD]; decide, by decide⟩ ⟨by rw [hmc]; exact Nat.le_of_ble_eq_true rfl, by rw [hms]; exact Nat.le_of_ble_eq_true rfl⟩ (fun x4 h3 => ?_)
      refine kj_norm (st' := [.inl x4, .inl v2]) (c' := 0) (z' := 0) rfl rfl rfl ?_
      refine kj_goto (tgt := 68) hC dX10_dueFrom_64 (by decide) ?_
      exact kj_sub [0, 1, 3, 4, 5] rfl (t_X10_dueFrom_b68 hC hN hT hmc hms hD rc10 hr10 rc28 hr28 v0 v1 v3 v4 v5 x4 v2 h3)
    · refine kj_iconst (v := 0) hC dX10_dueFrom_67 (by decide) ?_
      exact kj_sub [0, 1, 3, 4, 5] rfl (t_X10_dueFrom_b68 hC hN hT hmc hms hD rc10 hr10 rc28 hr28 v0 v1 v3 v4 v5 0 v2 h2)
set_option maxHeartbeats 4000000 in
set_option maxRecDepth 100000 in
theorem t_X10_dueFrom_L28 {X : KX} (hC : kC X RX10 cX10_dueFrom 6 (some .int)) (hN : (xme X).name = yX10_dueFrom.name) (hT : kT0 X) (hmc : xmc X = 0) (hms : xms X = 0) (hD : xD X = 4) (rc10 : Nat → Int32 → Int32 → Int32 → KH → KO Int32) (hr10 : ∀ (v0 : Nat) (v1 : Int32) (v2 : Int32) (v3 : Int32) (h : KH), kJ X (fun x : Int32 => some (.inl x)) 6 0 0 [(0, .inr (.inr (some v0))), (1, .inl v1), (2, .inl v2), (3, .inl v3)] [] 10 h (rc10 v0 v1 v2 v3 h)) : ∀ (n : Nat) (v0 : Nat) (v1 : Int32) (v2 : Int32) (v3 : Int32) (v4 : Int32) (v5 : Int32) (h : KH), kJ X (fun x : Int32 => some (.inl x)) 6 0 0 [(0, .inr (.inr (some v0))), (1, .inl v1), (2, .inl v2), (3, .inl v3), (4, .inl v4), (5, .inl v5)] [] 28 h (X10_dueFrom_L28 rc10 n v0 v1 v2 v3 v4 v5 h) := by
  intro n
  induction n with
  | zero => intro v0 v1 v2 v3 v4 v5 h; exact kj_none
  | succ n ih => intro v0 v1 v2 v3 v4 v5 h; exact t_X10_dueFrom_b28 hC hN hT hmc hms hD rc10 hr10 (X10_dueFrom_L28 rc10 n) ih v0 v1 v2 v3 v4 v5 h
set_option maxHeartbeats 4000000 in
set_option maxRecDepth 100000 in
theorem t_X10_dueFrom_b10 {X : KX} (hC : kC X RX10 cX10_dueFrom 6 (some .int)) (hN : (xme X).name = yX10_dueFrom.name) (hT : kT0 X) (hmc : xmc X = 0) (hms : xms X = 0) (hD : xD X = 4) (rc10 : Nat → Int32 → Int32 → Int32 → KH → KO Int32) (hr10 : ∀ (v0 : Nat) (v1 : Int32) (v2 : Int32) (v3 : Int32) (h : KH), kJ X (fun x : Int32 => some (.inl x)) 6 0 0 [(0, .inr (.inr (some v0))), (1, .inl v1), (2, .inl v2), (3, .inl v3)] [] 10 h (rc10 v0 v1 v2 v3 h)) (v0 : Nat) (v1 : Int32) (v2 : Int32) (v3 : Int32) (h : KH) : kJ X (fun x : Int32 => some (.inl x)) 6 0 0 [(0, .inr (.inr (some v0))), (1, .inl v1), (2, .inl v2), (3, .inl v3)] [] 10 h (X10_dueFrom_b10 rc10 v0 v1 v2 v3 h) := by
  unfold X10_dueFrom_b10
  refine kj_iloadn hC 3 dX10_dueFrom_10 rfl rfl ?_
  refine kj_aloadn hC 0 dX10_dueFrom_11 rfl rfl ?_
  refine kj_gI (ci := 10) (k := 8) hC dX10_dueFrom_12 kf_X10_107 rfl (fun x1 => ?_)
  refine kj_icmp_ge (tgt := 82) hC dX10_dueFrom_15 (by decide) (fun q1 => ?_) (fun q1 => ?_)
  · refine kj_iloadn hC 2 dX10_dueFrom_82 rfl rfl ?_
    refine kj_fin hmc hms ?_
    exact kj_ireturn hC dX10_dueFrom_83
  · refine kj_aloadn hC 0 dX10_dueFrom_18 rfl rfl ?_
    refine kj_iloadn hC 3 dX10_dueFrom_19 rfl rfl ?_
    refine kj_invV (ci := 10) (q := (RX10, TX10, 36)) (as := [.inl v3]) (rest := []) hC hT dX10_dueFrom_20 kw1247 ky_X10_joinsAgain ky2_X10_joinsAgain rfl rfl (t_X10_joinsAgain v0 v3 h) rfl rfl (Nat.le_of_ble_eq_true rfl) ⟨by rw [hD]; decide, by decide⟩ ⟨by rw [hmc]; exact Nat.le_of_ble_eq_true rfl, by rw [hms]; exact Nat.le_of_ble_eq_true rfl⟩ (fun x2 h1 => ?_)
    refine kj_norm (st' := [.inl x2]) (c' := 0) (z' := 0) rfl rfl rfl ?_
    refine kj_istore (L' := [(4, .inl x2), (0, .inr (.inr (some v0))), (1, .inl v1), (2, .inl v2), (3, .inl v3)]) hC dX10_dueFrom_23 (by decide) rfl ?_
    refine kj_iconst (v := 0) hC dX10_dueFrom_25 (by decide) ?_
    refine kj_istore (L' := [(5, .inl 0), (4, .inl x2), (0, .inr (.inr (some v0))), (1, .inl v1), (2, .inl v2), (3, .inl v3)]) hC dX10_dueFrom_26 (by decide) rfl ?_
    exact kj_sub [2, 3, 4, 5, 1, 0] rfl (t_X10_dueFrom_L28 hC hN hT hmc hms hD rc10 hr10 kF v0 v1 v2 v3 x2 0 h1)
set_option maxHeartbeats 4000000 in
set_option maxRecDepth 100000 in
theorem t_X10_dueFrom_L10 {X : KX} (hC : kC X RX10 cX10_dueFrom 6 (some .int)) (hN : (xme X).name = yX10_dueFrom.name) (hT : kT0 X) (hmc : xmc X = 0) (hms : xms X = 0) (hD : xD X = 4) : ∀ (n : Nat) (v0 : Nat) (v1 : Int32) (v2 : Int32) (v3 : Int32) (h : KH), kJ X (fun x : Int32 => some (.inl x)) 6 0 0 [(0, .inr (.inr (some v0))), (1, .inl v1), (2, .inl v2), (3, .inl v3)] [] 10 h (X10_dueFrom_L10  n v0 v1 v2 v3 h) := by
  intro n
  induction n with
  | zero => intro v0 v1 v2 v3 h; exact kj_none
  | succ n ih => intro v0 v1 v2 v3 h; exact t_X10_dueFrom_b10 hC hN hT hmc hms hD (X10_dueFrom_L10  n) ih v0 v1 v2 v3 h
set_option maxHeartbeats 4000000 in
set_option maxRecDepth 100000 in
theorem t_X10_dueFrom (p0 : Nat) (p1 : Int32) (h : KH) : kM yX10_dueFrom cX10_dueFrom 6 (some .int) 4 0 0 (fun x : Int32 => some (.inl x)) [.inr (.inr (some p0)), .inl p1] h (f_X10_dueFrom p0 p1 h) := by
  refine kM_of RX10 (by decide) rfl (Nat.le_of_ble_eq_true rfl) [(0, .inr (.inr (some p0))), (1, .inl p1)] rfl (fun X hC hN hT hmc hms hD => ?_)
  unfold f_X10_dueFrom
  refine kj_iconst (v := 0) hC dX10_dueFrom_0 (by decide) ?_
  refine kj_istoren (L' := [(2, .inl 0), (0, .inr (.inr (some p0))), (1, .inl p1)]) hC dX10_dueFrom_1 rfl (by decide) rfl ?_
  refine kj_aloadn hC 1 dX10_dueFrom_2 rfl rfl ?_
  refine kj_iconst (v := (-1)) hC dX10_dueFrom_3 (by decide) ?_
  refine kj_invV (ci := 10) (q := (RX10, TX10, 36)) (as := [.inl (-1)]) (rest := []) hC hT dX10_dueFrom_4 kw1243 ky_X10_joins ky2_X10_joins rfl rfl (t_X10_joins p0 ((-1)) h) rfl rfl (Nat.le_of_ble_eq_true rfl) ⟨by rw [hD]; decide, by decide⟩ ⟨by rw [hmc]; exact Nat.le_of_ble_eq_true rfl, by rw [hms]; exact Nat.le_of_ble_eq_true rfl⟩ (fun x1 h1 => ?_)
  refine kj_norm (st' := [.inl x1]) (c' := 0) (z' := 0) rfl rfl rfl ?_
  refine kj_pop hC dX10_dueFrom_7 rfl ?_
  refine kj_iconst (v := 0) hC dX10_dueFrom_8 (by decide) ?_
  refine kj_istoren (L' := [(3, .inl 0), (2, .inl 0), (0, .inr (.inr (some p0))), (1, .inl p1)]) hC dX10_dueFrom_9 rfl (by decide) rfl ?_
  exact kj_sub [2, 3, 1, 0] rfl (t_X10_dueFrom_L10 hC hN hT hmc hms hD  kF p0 p1 0 0 h1)
set_option maxHeartbeats 4000000 in
set_option maxRecDepth 100000 in
theorem t_X10_due_b28 {X : KX} (hC : kC X RX10 cX10_due 2 (some .int)) (hN : (xme X).name = yX10_due.name) (hT : kT0 X) (hmc : xmc X = 0) (hms : xms X = 0) (hD : xD X = 5) (s0 : Int32) (h : KH) : kJ X (fun x : Int32 => some (.inl x)) 2 0 0 [] [.inl s0] 28 h (X10_due_b28  s0 h) := by
  unfold X10_due_b28
  refine kj_fin hmc hms ?_
  exact kj_ireturn hC dX10_due_28
set_option maxHeartbeats 4000000 in
set_option maxRecDepth 100000 in
theorem t_X10_due_b13 {X : KX} (hC : kC X RX10 cX10_due 2 (some .int)) (hN : (xme X).name = yX10_due.name) (hT : kT0 X) (hmc : xmc X = 0) (hms : xms X = 0) (hD : xD X = 5) (v0 : Nat) (v1 : Int32) (s0 : Int32) (s1 : Nat) (h : KH) : kJ X (fun x : Int32 => some (.inl x)) 2 0 0 [(0, .inr (.inr (some v0))), (1, .inl v1)] [.inl s0, .inr (.inr (some s1))] 13 h (X10_due_b13  v0 v1 s0 s1 h) := by
  unfold X10_due_b13
  refine kj_invV (ci := 10) (q := (RX10, TX10, 36)) (as := [.inl s0]) (rest := []) hC hT dX10_due_13 kw1089 ky_X10_can ky2_X10_can rfl rfl (t_X10_can s1 s0 h) rfl rfl (Nat.le_of_ble_eq_true rfl) ⟨by rw [hD]; decide, by decide⟩ ⟨by rw [hmc]; exact Nat.le_of_ble_eq_true rfl, by rw [hms]; exact Nat.le_of_ble_eq_true rfl⟩ (fun x1 h1 => ?_)
  refine kj_norm (st' := [.inl x1]) (c' := 0) (z' := 0) rfl rfl rfl ?_
  refine kj_if_eq (tgt := 27) hC dX10_due_16 (by decide) (fun q1 => ?_) (fun q1 => ?_)
  · refine kj_iconst (v := 0) hC dX10_due_27 (by decide) ?_
    exact kj_sub [] rfl (t_X10_due_b28 hC hN hT hmc hms hD  0 h1)
  · refine kj_aloadn hC 0 dX10_due_19 rfl rfl ?_
    refine kj_iloadn hC 1 dX10_due_20 rfl rfl ?_
    refine kj_invV (ci := 10) (q := (RX10, TX10, 36)) (as := [.inl v1]) (rest := []) hC hT dX10_due_21 kw1295 ky_X10_dueFrom ky2_X10_dueFrom rfl rfl (t_X10_dueFrom v0 v1 h1) rfl rfl (Nat.le_of_ble_eq_true rfl) ⟨by rw [hD]; decide, by decide⟩ ⟨by rw [hmc]; exact Nat.le_of_ble_eq_true rfl, by rw [hms]; exact Nat.le_of_ble_eq_true rfl⟩ (fun x2 h2 => ?_)
    refine kj_norm (st' := [.inl x2]) (c' := 0) (z' := 0) rfl rfl rfl ?_
    refine kj_goto (tgt := 28) hC dX10_due_24 (by decide) ?_
    exact kj_sub [] rfl (t_X10_due_b28 hC hN hT hmc hms hD  x2 h2)
set_option maxHeartbeats 4000000 in
set_option maxRecDepth 100000 in
theorem t_X10_due (p0 : Nat) (p1 : Int32) (h : KH) : kM yX10_due cX10_due 2 (some .int) 5 0 0 (fun x : Int32 => some (.inl x)) [.inr (.inr (some p0)), .inl p1] h (f_X10_due p0 p1 h) := by
  refine kM_of RX10 (by decide) rfl (Nat.le_of_ble_eq_true rfl) [(0, .inr (.inr (some p0))), (1, .inl p1)] rfl (fun X hC hN hT hmc hms hD => ?_)
  unfold f_X10_due
  refine kj_aloadn hC 0 dX10_due_0 rfl rfl ?_
  refine kj_iloadn hC 1 dX10_due_1 rfl rfl ?_
  refine kj_invS (as := [.inl p1]) (rest := [.inr (.inr (some p0))]) hC hT dX10_due_2 kw1160 ky_X10_isDriver ky2_X10_isDriver (t_X10_isDriver p1 h) rfl rfl (Nat.le_of_ble_eq_true rfl) ⟨by rw [hD]; decide, by decide⟩ ⟨by rw [hmc]; exact Nat.le_of_ble_eq_true rfl, by rw [hms]; exact Nat.le_of_ble_eq_true rfl⟩ (fun x1 h1 => ?_)
  refine kj_norm (st' := [.inl x1, .inr (.inr (some p0))]) (c' := 0) (z' := 0) rfl rfl rfl ?_
  refine kj_if_eq (tgt := 12) hC dX10_due_5 (by decide) (fun q1 => ?_) (fun q1 => ?_)
  · refine kj_iconst (v := 1) hC dX10_due_12 (by decide) ?_
    exact kj_sub [0, 1] rfl (t_X10_due_b13 hC hN hT hmc hms hD  p0 p1 1 p0 h1)
  · refine kj_iconst (v := 0) hC dX10_due_8 (by decide) ?_
    refine kj_goto (tgt := 13) hC dX10_due_9 (by decide) ?_
    exact kj_sub [0, 1] rfl (t_X10_due_b13 hC hN hT hmc hms hD  p0 p1 0 p0 h1)
set_option maxHeartbeats 4000000 in
set_option maxRecDepth 100000 in
theorem t_X10_dueAnew_b28 {X : KX} (hC : kC X RX10 cX10_dueAnew 2 (some .int)) (hN : (xme X).name = yX10_dueAnew.name) (hT : kT0 X) (hmc : xmc X = 0) (hms : xms X = 0) (hD : xD X = 5) (s0 : Int32) (h : KH) : kJ X (fun x : Int32 => some (.inl x)) 2 0 0 [] [.inl s0] 28 h (X10_dueAnew_b28  s0 h) := by
  unfold X10_dueAnew_b28
  refine kj_fin hmc hms ?_
  exact kj_ireturn hC dX10_dueAnew_28
set_option maxHeartbeats 4000000 in
set_option maxRecDepth 100000 in
theorem t_X10_dueAnew_b13 {X : KX} (hC : kC X RX10 cX10_dueAnew 2 (some .int)) (hN : (xme X).name = yX10_dueAnew.name) (hT : kT0 X) (hmc : xmc X = 0) (hms : xms X = 0) (hD : xD X = 5) (v0 : Nat) (v1 : Int32) (s0 : Int32) (s1 : Nat) (h : KH) : kJ X (fun x : Int32 => some (.inl x)) 2 0 0 [(0, .inr (.inr (some v0))), (1, .inl v1)] [.inl s0, .inr (.inr (some s1))] 13 h (X10_dueAnew_b13  v0 v1 s0 s1 h) := by
  unfold X10_dueAnew_b13
  refine kj_invV (ci := 10) (q := (RX10, TX10, 36)) (as := [.inl s0]) (rest := []) hC hT dX10_dueAnew_13 kw1089 ky_X10_can ky2_X10_can rfl rfl (t_X10_can s1 s0 h) rfl rfl (Nat.le_of_ble_eq_true rfl) ⟨by rw [hD]; decide, by decide⟩ ⟨by rw [hmc]; exact Nat.le_of_ble_eq_true rfl, by rw [hms]; exact Nat.le_of_ble_eq_true rfl⟩ (fun x1 h1 => ?_)
  refine kj_norm (st' := [.inl x1]) (c' := 0) (z' := 0) rfl rfl rfl ?_
  refine kj_if_eq (tgt := 27) hC dX10_dueAnew_16 (by decide) (fun q1 => ?_) (fun q1 => ?_)
  · refine kj_iconst (v := 0) hC dX10_dueAnew_27 (by decide) ?_
    exact kj_sub [] rfl (t_X10_dueAnew_b28 hC hN hT hmc hms hD  0 h1)
  · refine kj_aloadn hC 0 dX10_dueAnew_19 rfl rfl ?_
    refine kj_iloadn hC 1 dX10_dueAnew_20 rfl rfl ?_
    refine kj_invV (ci := 10) (q := (RX10, TX10, 36)) (as := [.inl v1]) (rest := []) hC hT dX10_dueAnew_21 kw1295 ky_X10_dueFrom ky2_X10_dueFrom rfl rfl (t_X10_dueFrom v0 v1 h1) rfl rfl (Nat.le_of_ble_eq_true rfl) ⟨by rw [hD]; decide, by decide⟩ ⟨by rw [hmc]; exact Nat.le_of_ble_eq_true rfl, by rw [hms]; exact Nat.le_of_ble_eq_true rfl⟩ (fun x2 h2 => ?_)
    refine kj_norm (st' := [.inl x2]) (c' := 0) (z' := 0) rfl rfl rfl ?_
    refine kj_goto (tgt := 28) hC dX10_dueAnew_24 (by decide) ?_
    exact kj_sub [] rfl (t_X10_dueAnew_b28 hC hN hT hmc hms hD  x2 h2)
set_option maxHeartbeats 4000000 in
set_option maxRecDepth 100000 in
theorem t_X10_dueAnew (p0 : Nat) (p1 : Int32) (h : KH) : kM yX10_dueAnew cX10_dueAnew 2 (some .int) 5 0 0 (fun x : Int32 => some (.inl x)) [.inr (.inr (some p0)), .inl p1] h (f_X10_dueAnew p0 p1 h) := by
  refine kM_of RX10 (by decide) rfl (Nat.le_of_ble_eq_true rfl) [(0, .inr (.inr (some p0))), (1, .inl p1)] rfl (fun X hC hN hT hmc hms hD => ?_)
  unfold f_X10_dueAnew
  refine kj_aloadn hC 0 dX10_dueAnew_0 rfl rfl ?_
  refine kj_iloadn hC 1 dX10_dueAnew_1 rfl rfl ?_
  refine kj_invS (as := [.inl p1]) (rest := [.inr (.inr (some p0))]) hC hT dX10_dueAnew_2 kw1160 ky_X10_isDriver ky2_X10_isDriver (t_X10_isDriver p1 h) rfl rfl (Nat.le_of_ble_eq_true rfl) ⟨by rw [hD]; decide, by decide⟩ ⟨by rw [hmc]; exact Nat.le_of_ble_eq_true rfl, by rw [hms]; exact Nat.le_of_ble_eq_true rfl⟩ (fun x1 h1 => ?_)
  refine kj_norm (st' := [.inl x1, .inr (.inr (some p0))]) (c' := 0) (z' := 0) rfl rfl rfl ?_
  refine kj_if_eq (tgt := 12) hC dX10_dueAnew_5 (by decide) (fun q1 => ?_) (fun q1 => ?_)
  · refine kj_iconst (v := 1) hC dX10_dueAnew_12 (by decide) ?_
    exact kj_sub [0, 1] rfl (t_X10_dueAnew_b13 hC hN hT hmc hms hD  p0 p1 1 p0 h1)
  · refine kj_iconst (v := 0) hC dX10_dueAnew_8 (by decide) ?_
    refine kj_goto (tgt := 13) hC dX10_dueAnew_9 (by decide) ?_
    exact kj_sub [0, 1] rfl (t_X10_dueAnew_b13 hC hN hT hmc hms hD  p0 p1 0 p0 h1)
set_option maxHeartbeats 4000000 in
set_option maxRecDepth 100000 in
theorem t_X10_settle_b91 {X : KX} (hC : kC X RX10 cX10_settle 5 (some .int)) (hN : (xme X).name = yX10_settle.name) (hT : kT0 X) (hmc : xmc X = 0) (hms : xms X = 0) (hD : xD X = 5) (rc9 : Nat → Int32 → Int32 → KH → KO Int32) (hr9 : ∀ (v0 : Nat) (v1 : Int32) (v2 : Int32) (h : KH), kJ X (fun x : Int32 => some (.inl x)) 5 0 0 [(0, .inr (.inr (some v0))), (1, .inl v1), (2, .inl v2)] [] 9 h (rc9 v0 v1 v2 h)) (v0 : Nat) (v2 : Int32) (s0 : Int32) (s1 : Int32) (h : KH) : kJ X (fun x : Int32 => some (.inl x)) 5 0 0 [(0, .inr (.inr (some v0))), (2, .inl v2)] [.inl s0, .inl s1] 91 h (X10_settle_b91 rc9 v0 v2 s0 s1 h) := by
  unfold X10_settle_b91
  refine kj_iadd hC dX10_settle_91 ?_
  refine kj_istoren (L' := [(1, .inl (s1 + s0)), (0, .inr (.inr (some v0))), (2, .inl v2)]) hC dX10_settle_92 rfl (by decide) rfl ?_
  refine kj_iinc (v := v2 + 1) (L' := [(2, .inl (v2 + 1)), (1, .inl (s1 + s0)), (0, .inr (.inr (some v0)))]) hC 2 dX10_settle_93 rfl rfl (by decide) rfl ?_
  refine kj_goto (tgt := 9) hC dX10_settle_96 (by decide) ?_
  exact kj_sub [2, 1, 0] rfl (hr9 v0 (s1 + s0) (v2 + 1) h)
set_option maxHeartbeats 4000000 in
set_option maxRecDepth 100000 in
theorem t_X10_settle_b75 {X : KX} (hC : kC X RX10 cX10_settle 5 (some .int)) (hN : (xme X).name = yX10_settle.name) (hT : kT0 X) (hmc : xmc X = 0) (hms : xms X = 0) (hD : xD X = 5) (rc9 : Nat → Int32 → Int32 → KH → KO Int32) (hr9 : ∀ (v0 : Nat) (v1 : Int32) (v2 : Int32) (h : KH), kJ X (fun x : Int32 => some (.inl x)) 5 0 0 [(0, .inr (.inr (some v0))), (1, .inl v1), (2, .inl v2)] [] 9 h (rc9 v0 v1 v2 h)) (v0 : Nat) (v1 : Int32) (v2 : Int32) (v3 : Int64) (s0 : Int64) (s1 : Int64) (s2 : Int32) (s3 : Nat) (h : KH) : kJ X (fun x : Int32 => some (.inl x)) 5 0 0 [(0, .inr (.inr (some v0))), (1, .inl v1), (2, .inl v2), (3, .inr (.inl (v3)))] [.inr (.inl (s0)), .inr (.inl (s1)), .inl s2, .inr (.inr (some s3))] 75 h (X10_settle_b75 rc9 v0 v1 v2 v3 s0 s1 s2 s3 h) := by
  unfold X10_settle_b75
  refine kj_ladd hC dX10_settle_75 ?_
  refine kj_pAL hC dX10_settle_76 (fun h1 => ?_)
  refine kj_iloadn hC 1 dX10_settle_77 rfl rfl ?_
  refine kj_lloadn hC 3 dX10_settle_78 rfl rfl ?_
  refine kj_lconst (v := 0) hC dX10_settle_79 (by decide) ?_
  refine kj_lcmp hC dX10_settle_80 ?_
  refine kj_if_ge (tgt := 90) hC dX10_settle_81 (by decide) (fun q1 => ?_) (fun q1 => ?_)
  · refine kj_iconst (v := 0) hC dX10_settle_90 (by decide) ?_
    exact kj_sub [0, 2] rfl (t_X10_settle_b91 hC hN hT hmc hms hD rc9 hr9 v0 v2 0 v1 h1)
  · refine kj_lloadn hC 3 dX10_settle_84 rfl rfl ?_
    refine kj_lneg hC dX10_settle_85 ?_
    refine kj_l2i hC dX10_settle_86 ?_
    refine kj_goto (tgt := 91) hC dX10_settle_87 (by decide) ?_
    exact kj_sub [0, 2] rfl (t_X10_settle_b91 hC hN hT hmc hms hD rc9 hr9 v0 v2 ((-v3).toInt32) v1 h1)
set_option maxHeartbeats 4000000 in
set_option maxRecDepth 100000 in
theorem t_X10_settle_b54 {X : KX} (hC : kC X RX10 cX10_settle 5 (some .int)) (hN : (xme X).name = yX10_settle.name) (hT : kT0 X) (hmc : xmc X = 0) (hms : xms X = 0) (hD : xD X = 5) (rc9 : Nat → Int32 → Int32 → KH → KO Int32) (hr9 : ∀ (v0 : Nat) (v1 : Int32) (v2 : Int32) (h : KH), kJ X (fun x : Int32 => some (.inl x)) 5 0 0 [(0, .inr (.inr (some v0))), (1, .inl v1), (2, .inl v2)] [] 9 h (rc9 v0 v1 v2 h)) (v0 : Nat) (v1 : Int32) (v2 : Int32) (v3 : Int64) (s0 : Int64) (s1 : Int64) (s2 : Int32) (s3 : Nat) (h : KH) : kJ X (fun x : Int32 => some (.inl x)) 5 0 0 [(0, .inr (.inr (some v0))), (1, .inl v1), (2, .inl v2), (3, .inr (.inl (v3)))] [.inr (.inl (s0)), .inr (.inl (s1)), .inl s2, .inr (.inr (some s3))] 54 h (X10_settle_b54 rc9 v0 v1 v2 v3 s0 s1 s2 s3 h) := by
  unfold X10_settle_b54
  refine kj_ladd hC dX10_settle_54 ?_
  refine kj_pAL hC dX10_settle_55 (fun h1 => ?_)
  refine kj_aloadn hC 0 dX10_settle_56 rfl rfl ?_
  refine kj_gN (ci := 10) (k := 26) hC dX10_settle_57 kf_X10_76 rfl (fun a1 => ?_)
  refine kj_iloadn hC 2 dX10_settle_60 rfl rfl ?_
  refine kj_dup2 hC dX10_settle_61 rfl rfl ?_
  refine kj_gAL hC dX10_settle_62 (fun x1 => ?_)
  refine kj_lloadn hC 3 dX10_settle_63 rfl rfl ?_
  refine kj_lconst (v := 0) hC dX10_settle_64 (by decide) ?_
  refine kj_lcmp hC dX10_settle_65 ?_
  refine kj_if_ge (tgt := 74) hC dX10_settle_66 (by decide) (fun q1 => ?_) (fun q1 => ?_)
  · refine kj_lconst (v := 0) hC dX10_settle_74 (by decide) ?_
    exact kj_sub [0, 1, 2, 3] rfl (t_X10_settle_b75 hC hN hT hmc hms hD rc9 hr9 v0 v1 v2 v3 0 x1 v2 a1 h1)
  · refine kj_lloadn hC 3 dX10_settle_69 rfl rfl ?_
    refine kj_lneg hC dX10_settle_70 ?_
    refine kj_goto (tgt := 75) hC dX10_settle_71 (by decide) ?_
    exact kj_sub [0, 1, 2, 3] rfl (t_X10_settle_b75 hC hN hT hmc hms hD rc9 hr9 v0 v1 v2 v3 (-v3) x1 v2 a1 h1)
set_option maxHeartbeats 4000000 in
set_option maxRecDepth 100000 in
theorem t_X10_settle_b9 {X : KX} (hC : kC X RX10 cX10_settle 5 (some .int)) (hN : (xme X).name = yX10_settle.name) (hT : kT0 X) (hmc : xmc X = 0) (hms : xms X = 0) (hD : xD X = 5) (rc9 : Nat → Int32 → Int32 → KH → KO Int32) (hr9 : ∀ (v0 : Nat) (v1 : Int32) (v2 : Int32) (h : KH), kJ X (fun x : Int32 => some (.inl x)) 5 0 0 [(0, .inr (.inr (some v0))), (1, .inl v1), (2, .inl v2)] [] 9 h (rc9 v0 v1 v2 h)) (v0 : Nat) (v1 : Int32) (v2 : Int32) (h : KH) : kJ X (fun x : Int32 => some (.inl x)) 5 0 0 [(0, .inr (.inr (some v0))), (1, .inl v1), (2, .inl v2)] [] 9 h (X10_settle_b9 rc9 v0 v1 v2 h) := by
  unfold X10_settle_b9
  refine kj_iloadn hC 2 dX10_settle_9 rfl rfl ?_
  refine kj_bipush (v := 6) hC dX10_settle_10 (by decide) ?_
  refine kj_icmp_ge (tgt := 99) hC dX10_settle_12 (by decide) (fun q1 => ?_) (fun q1 => ?_)
  · refine kj_iloadn hC 1 dX10_settle_99 rfl rfl ?_
    refine kj_fin hmc hms ?_
    exact kj_ireturn hC dX10_settle_100
  · refine kj_aloadn hC 0 dX10_settle_15 rfl rfl ?_
    refine kj_iloadn hC 2 dX10_settle_16 rfl rfl ?_
    refine kj_invV (ci := 10) (q := (RX10, TX10, 36)) (as := [.inl v2]) (rest := []) hC hT dX10_settle_17 kw1295 ky_X10_dueFrom ky2_X10_dueFrom rfl rfl (t_X10_dueFrom v0 v2 h) rfl rfl (Nat.le_of_ble_eq_true rfl) ⟨by rw [hD]; decide, by decide⟩ ⟨by rw [hmc]; exact Nat.le_of_ble_eq_true rfl, by rw [hms]; exact Nat.le_of_ble_eq_true rfl⟩ (fun x1 h1 => ?_)
    refine kj_norm (st' := [.inl x1]) (c' := 0) (z' := 0) rfl rfl rfl ?_
    refine kj_i2l hC dX10_settle_20 ?_
    refine kj_aloadn hC 0 dX10_settle_21 rfl rfl ?_
    refine kj_gN (ci := 10) (k := 25) hC dX10_settle_22 kf_X10_72 rfl (fun a1 => ?_)
    refine kj_iloadn hC 2 dX10_settle_25 rfl rfl ?_
    refine kj_gAL hC dX10_settle_26 (fun x2 => ?_)
    refine kj_lsub hC dX10_settle_27 ?_
    refine kj_aloadn hC 0 dX10_settle_28 rfl rfl ?_
    refine kj_gN (ci := 10) (k := 26) hC dX10_settle_29 kf_X10_76 rfl (fun a2 => ?_)
    refine kj_iloadn hC 2 dX10_settle_32 rfl rfl ?_
    refine kj_gAL hC dX10_settle_33 (fun x3 => ?_)
    refine kj_ladd hC dX10_settle_34 ?_
    refine kj_lstoren (L' := [(3, .inr (.inl (((x1.toInt64) - x2) + x3))), (0, .inr (.inr (some v0))), (1, .inl v1), (2, .inl v2)]) hC dX10_settle_35 rfl (by decide) rfl ?_
    refine kj_aloadn hC 1 dX10_settle_36 rfl rfl ?_
    refine kj_gN (ci := 10) (k := 25) hC dX10_settle_37 kf_X10_72 rfl (fun a3 => ?_)
    refine kj_iloadn hC 3 dX10_settle_40 rfl rfl ?_
    refine kj_dup2 hC dX10_settle_41 rfl rfl ?_
    refine kj_gAL hC dX10_settle_42 (fun x4 => ?_)
    refine kj_lloadn hC 0 dX10_settle_43 rfl rfl ?_
    refine kj_lconst (v := 0) hC dX10_settle_44 (by decide) ?_
    refine kj_lcmp hC dX10_settle_45 ?_
    refine kj_if_le (tgt := 53) hC dX10_settle_46 (by decide) (fun q2 => ?_) (fun q2 => ?_)
    · refine kj_lconst (v := 0) hC dX10_settle_53 (by decide) ?_
      exact kj_sub [1, 2, 3, 0] rfl (t_X10_settle_b54 hC hN hT hmc hms hD rc9 hr9 v0 v1 v2 (((x1.toInt64) - x2) + x3) 0 x4 v2 a3 h1)
    · refine kj_lloadn hC 0 dX10_settle_49 rfl rfl ?_
      refine kj_goto (tgt := 54) hC dX10_settle_50 (by decide) ?_
      exact kj_sub [1, 2, 3, 0] rfl (t_X10_settle_b54 hC hN hT hmc hms hD rc9 hr9 v0 v1 v2 (((x1.toInt64) - x2) + x3) (((x1.toInt64) - x2) + x3) x4 v2 a3 h1)
set_option maxHeartbeats 4000000 in
set_option maxRecDepth 100000 in
theorem t_X10_settle_L9 {X : KX} (hC : kC X RX10 cX10_settle 5 (some .int)) (hN : (xme X).name = yX10_settle.name) (hT : kT0 X) (hmc : xmc X = 0) (hms : xms X = 0) (hD : xD X = 5) : ∀ (n : Nat) (v0 : Nat) (v1 : Int32) (v2 : Int32) (h : KH), kJ X (fun x : Int32 => some (.inl x)) 5 0 0 [(0, .inr (.inr (some v0))), (1, .inl v1), (2, .inl v2)] [] 9 h (X10_settle_L9  n v0 v1 v2 h) := by
  intro n
  induction n with
  | zero => intro v0 v1 v2 h; exact kj_none
  | succ n ih => intro v0 v1 v2 h; exact t_X10_settle_b9 hC hN hT hmc hms hD (X10_settle_L9  n) ih v0 v1 v2 h
set_option maxHeartbeats 4000000 in
set_option maxRecDepth 100000 in
theorem t_X10_settle (p0 : Nat) (h : KH) : kM yX10_settle cX10_settle 5 (some .int) 5 0 0 (fun x : Int32 => some (.inl x)) [.inr (.inr (some p0))] h (f_X10_settle p0 h) := by
  refine kM_of RX10 (by decide) rfl (Nat.le_of_ble_eq_true rfl) [(0, .inr (.inr (some p0)))] rfl (fun X hC hN hT hmc hms hD => ?_)
  unfold f_X10_settle
  refine kj_aloadn hC 0 dX10_settle_0 rfl rfl ?_
  refine kj_iconst (v := 0) hC dX10_settle_1 (by decide) ?_
  refine kj_pI (ci := 10) (k := 35) hC dX10_settle_2 kf_X10_100 (Or.inl (kNF_of (by decide))) rfl ⟨rfl, rfl⟩ (fun h1 => ?_)
  refine kj_iconst (v := 0) hC dX10_settle_5 (by decide) ?_
  refine kj_istoren (L' := [(1, .inl 0), (0, .inr (.inr (some p0)))]) hC dX10_settle_6 rfl (by decide) rfl ?_
  refine kj_iconst (v := 0) hC dX10_settle_7 (by decide) ?_
  refine kj_istoren (L' := [(2, .inl 0), (1, .inl 0), (0, .inr (.inr (some p0)))]) hC dX10_settle_8 rfl (by decide) rfl ?_
  exact kj_sub [2, 1, 0] rfl (t_X10_settle_L9 hC hN hT hmc hms hD  kF p0 0 0 h1)
set_option maxHeartbeats 4000000 in
set_option maxRecDepth 100000 in
theorem t_X10_billed_b29 {X : KX} (hC : kC X RX10 cX10_billed 2 (some .long)) (hN : (xme X).name = yX10_billed.name) (hT : kT0 X) (hmc : xmc X = 0) (hms : xms X = 0) (hD : xD X = 2) (s0 : Int64) (h : KH) : kJ X (fun x : Int64 => some (.inr (.inl x))) 2 0 0 [] [.inr (.inl (s0))] 29 h (X10_billed_b29  s0 h) := by
  unfold X10_billed_b29
  refine kj_fin hmc hms ?_
  exact kj_lreturn hC dX10_billed_29
set_option maxHeartbeats 4000000 in
set_option maxRecDepth 100000 in
theorem t_X10_billed_b13 {X : KX} (hC : kC X RX10 cX10_billed 2 (some .long)) (hN : (xme X).name = yX10_billed.name) (hT : kT0 X) (hmc : xmc X = 0) (hms : xms X = 0) (hD : xD X = 2) (v0 : Nat) (v1 : Int32) (s0 : Int32) (s1 : Nat) (h : KH) : kJ X (fun x : Int64 => some (.inr (.inl x))) 2 0 0 [(0, .inr (.inr (some v0))), (1, .inl v1)] [.inl s0, .inr (.inr (some s1))] 13 h (X10_billed_b13  v0 v1 s0 s1 h) := by
  unfold X10_billed_b13
  refine kj_invV (ci := 10) (q := (RX10, TX10, 36)) (as := [.inl s0]) (rest := []) hC hT dX10_billed_13 kw1089 ky_X10_can ky2_X10_can rfl rfl (t_X10_can s1 s0 h) rfl rfl (Nat.le_of_ble_eq_true rfl) ⟨by rw [hD]; decide, by decide⟩ ⟨by rw [hmc]; exact Nat.le_of_ble_eq_true rfl, by rw [hms]; exact Nat.le_of_ble_eq_true rfl⟩ (fun x1 h1 => ?_)
  refine kj_norm (st' := [.inl x1]) (c' := 0) (z' := 0) rfl rfl rfl ?_
  refine kj_if_eq (tgt := 28) hC dX10_billed_16 (by decide) (fun q1 => ?_) (fun q1 => ?_)
  · refine kj_lconst (v := 0) hC dX10_billed_28 (by decide) ?_
    exact kj_sub [] rfl (t_X10_billed_b29 hC hN hT hmc hms hD  0 h1)
  · refine kj_aloadn hC 0 dX10_billed_19 rfl rfl ?_
    refine kj_gN (ci := 10) (k := 25) hC dX10_billed_20 kf_X10_72 rfl (fun a1 => ?_)
    refine kj_iloadn hC 1 dX10_billed_23 rfl rfl ?_
    refine kj_gAL hC dX10_billed_24 (fun x2 => ?_)
    refine kj_goto (tgt := 29) hC dX10_billed_25 (by decide) ?_
    exact kj_sub [] rfl (t_X10_billed_b29 hC hN hT hmc hms hD  x2 h1)
set_option maxHeartbeats 4000000 in
set_option maxRecDepth 100000 in
theorem t_X10_billed (p0 : Nat) (p1 : Int32) (h : KH) : kM yX10_billed cX10_billed 2 (some .long) 2 0 0 (fun x : Int64 => some (.inr (.inl x))) [.inr (.inr (some p0)), .inl p1] h (f_X10_billed p0 p1 h) := by
  refine kM_of RX10 (by decide) rfl (Nat.le_of_ble_eq_true rfl) [(0, .inr (.inr (some p0))), (1, .inl p1)] rfl (fun X hC hN hT hmc hms hD => ?_)
  unfold f_X10_billed
  refine kj_aloadn hC 0 dX10_billed_0 rfl rfl ?_
  refine kj_iloadn hC 1 dX10_billed_1 rfl rfl ?_
  refine kj_invS (as := [.inl p1]) (rest := [.inr (.inr (some p0))]) hC hT dX10_billed_2 kw1160 ky_X10_isDriver ky2_X10_isDriver (t_X10_isDriver p1 h) rfl rfl (Nat.le_of_ble_eq_true rfl) ⟨by rw [hD]; decide, by decide⟩ ⟨by rw [hmc]; exact Nat.le_of_ble_eq_true rfl, by rw [hms]; exact Nat.le_of_ble_eq_true rfl⟩ (fun x1 h1 => ?_)
  refine kj_norm (st' := [.inl x1, .inr (.inr (some p0))]) (c' := 0) (z' := 0) rfl rfl rfl ?_
  refine kj_if_eq (tgt := 12) hC dX10_billed_5 (by decide) (fun q1 => ?_) (fun q1 => ?_)
  · refine kj_iconst (v := 1) hC dX10_billed_12 (by decide) ?_
    exact kj_sub [0, 1] rfl (t_X10_billed_b13 hC hN hT hmc hms hD  p0 p1 1 p0 h1)
  · refine kj_iconst (v := 0) hC dX10_billed_8 (by decide) ?_
    refine kj_goto (tgt := 13) hC dX10_billed_9 (by decide) ?_
    exact kj_sub [0, 1] rfl (t_X10_billed_b13 hC hN hT hmc hms hD  p0 p1 0 p0 h1)
set_option maxHeartbeats 4000000 in
set_option maxRecDepth 100000 in
theorem t_X10_paidBack_b29 {X : KX} (hC : kC X RX10 cX10_paidBack 2 (some .long)) (hN : (xme X).name = yX10_paidBack.name) (hT : kT0 X) (hmc : xmc X = 0) (hms : xms X = 0) (hD : xD X = 2) (s0 : Int64) (h : KH) : kJ X (fun x : Int64 => some (.inr (.inl x))) 2 0 0 [] [.inr (.inl (s0))] 29 h (X10_paidBack_b29  s0 h) := by
  unfold X10_paidBack_b29
  refine kj_fin hmc hms ?_
  exact kj_lreturn hC dX10_paidBack_29
set_option maxHeartbeats 4000000 in
set_option maxRecDepth 100000 in
theorem t_X10_paidBack_b13 {X : KX} (hC : kC X RX10 cX10_paidBack 2 (some .long)) (hN : (xme X).name = yX10_paidBack.name) (hT : kT0 X) (hmc : xmc X = 0) (hms : xms X = 0) (hD : xD X = 2) (v0 : Nat) (v1 : Int32) (s0 : Int32) (s1 : Nat) (h : KH) : kJ X (fun x : Int64 => some (.inr (.inl x))) 2 0 0 [(0, .inr (.inr (some v0))), (1, .inl v1)] [.inl s0, .inr (.inr (some s1))] 13 h (X10_paidBack_b13  v0 v1 s0 s1 h) := by
  unfold X10_paidBack_b13
  refine kj_invV (ci := 10) (q := (RX10, TX10, 36)) (as := [.inl s0]) (rest := []) hC hT dX10_paidBack_13 kw1089 ky_X10_can ky2_X10_can rfl rfl (t_X10_can s1 s0 h) rfl rfl (Nat.le_of_ble_eq_true rfl) ⟨by rw [hD]; decide, by decide⟩ ⟨by rw [hmc]; exact Nat.le_of_ble_eq_true rfl, by rw [hms]; exact Nat.le_of_ble_eq_true rfl⟩ (fun x1 h1 => ?_)
  refine kj_norm (st' := [.inl x1]) (c' := 0) (z' := 0) rfl rfl rfl ?_
  refine kj_if_eq (tgt := 28) hC dX10_paidBack_16 (by decide) (fun q1 => ?_) (fun q1 => ?_)
  · refine kj_lconst (v := 0) hC dX10_paidBack_28 (by decide) ?_
    exact kj_sub [] rfl (t_X10_paidBack_b29 hC hN hT hmc hms hD  0 h1)
  · refine kj_aloadn hC 0 dX10_paidBack_19 rfl rfl ?_
    refine kj_gN (ci := 10) (k := 26) hC dX10_paidBack_20 kf_X10_76 rfl (fun a1 => ?_)
    refine kj_iloadn hC 1 dX10_paidBack_23 rfl rfl ?_
    refine kj_gAL hC dX10_paidBack_24 (fun x2 => ?_)
    refine kj_goto (tgt := 29) hC dX10_paidBack_25 (by decide) ?_
    exact kj_sub [] rfl (t_X10_paidBack_b29 hC hN hT hmc hms hD  x2 h1)
set_option maxHeartbeats 4000000 in
set_option maxRecDepth 100000 in
theorem t_X10_paidBack (p0 : Nat) (p1 : Int32) (h : KH) : kM yX10_paidBack cX10_paidBack 2 (some .long) 2 0 0 (fun x : Int64 => some (.inr (.inl x))) [.inr (.inr (some p0)), .inl p1] h (f_X10_paidBack p0 p1 h) := by
  refine kM_of RX10 (by decide) rfl (Nat.le_of_ble_eq_true rfl) [(0, .inr (.inr (some p0))), (1, .inl p1)] rfl (fun X hC hN hT hmc hms hD => ?_)
  unfold f_X10_paidBack
  refine kj_aloadn hC 0 dX10_paidBack_0 rfl rfl ?_
  refine kj_iloadn hC 1 dX10_paidBack_1 rfl rfl ?_
  refine kj_invS (as := [.inl p1]) (rest := [.inr (.inr (some p0))]) hC hT dX10_paidBack_2 kw1160 ky_X10_isDriver ky2_X10_isDriver (t_X10_isDriver p1 h) rfl rfl (Nat.le_of_ble_eq_true rfl) ⟨by rw [hD]; decide, by decide⟩ ⟨by rw [hmc]; exact Nat.le_of_ble_eq_true rfl, by rw [hms]; exact Nat.le_of_ble_eq_true rfl⟩ (fun x1 h1 => ?_)
  refine kj_norm (st' := [.inl x1, .inr (.inr (some p0))]) (c' := 0) (z' := 0) rfl rfl rfl ?_
  refine kj_if_eq (tgt := 12) hC dX10_paidBack_5 (by decide) (fun q1 => ?_) (fun q1 => ?_)
  · refine kj_iconst (v := 1) hC dX10_paidBack_12 (by decide) ?_
    exact kj_sub [0, 1] rfl (t_X10_paidBack_b13 hC hN hT hmc hms hD  p0 p1 1 p0 h1)
  · refine kj_iconst (v := 0) hC dX10_paidBack_8 (by decide) ?_
    refine kj_goto (tgt := 13) hC dX10_paidBack_9 (by decide) ?_
    exact kj_sub [0, 1] rfl (t_X10_paidBack_b13 hC hN hT hmc hms hD  p0 p1 0 p0 h1)
set_option maxHeartbeats 4000000 in
set_option maxRecDepth 100000 in
theorem t_X10_warrant_b67 {X : KX} (hC : kC X RX10 cX10_warrant 6 (some .int)) (hN : (xme X).name = yX10_warrant.name) (hT : kT0 X) (hmc : xmc X = 0) (hms : xms X = 0) (hD : xD X = 2) (v0 : Nat) (v1 : Int32) (v2 : Int32) (v3 : Int32) (s0 : Int32) (s1 : Nat) (h : KH) : kJ X (fun x : Int32 => some (.inl x)) 6 0 0 [(0, .inr (.inr (some v0))), (1, .inl v1), (2, .inl v2), (3, .inl v3)] [.inl s0, .inr (.inr (some s1))] 67 h (X10_warrant_b67  v0 v1 v2 v3 s0 s1 h) := by
  unfold X10_warrant_b67
  refine kj_invV (ci := 10) (q := (RX10, TX10, 36)) (as := [.inl s0]) (rest := []) hC hT dX10_warrant_67 kw1089 ky_X10_can ky2_X10_can rfl rfl (t_X10_can s1 s0 h) rfl rfl (Nat.le_of_ble_eq_true rfl) ⟨by rw [hD]; decide, by decide⟩ ⟨by rw [hmc]; exact Nat.le_of_ble_eq_true rfl, by rw [hms]; exact Nat.le_of_ble_eq_true rfl⟩ (fun x1 h1 => ?_)
  refine kj_norm (st' := [.inl x1]) (c' := 0) (z' := 0) rfl rfl rfl ?_
  refine kj_if_ne (tgt := 75) hC dX10_warrant_70 (by decide) (fun q1 => ?_) (fun q1 => ?_)
  · refine kj_iconst (v := 0) hC dX10_warrant_73 (by decide) ?_
    refine kj_fin hmc hms ?_
    exact kj_ireturn hC dX10_warrant_74
  · refine kj_aloadn hC 0 dX10_warrant_75 rfl rfl ?_
    refine kj_gN (ci := 10) (k := 28) hC dX10_warrant_76 kf_X10_79 rfl (fun a1 => ?_)
    refine kj_aloadn hC 0 dX10_warrant_79 rfl rfl ?_
    refine kj_gI (ci := 10) (k := 27) hC dX10_warrant_80 kf_X10_210 rfl (fun x2 => ?_)
    refine kj_iloadn hC 1 dX10_warrant_83 rfl rfl ?_
    refine kj_pAI hC dX10_warrant_84 (fun h2 => ?_)
    refine kj_aloadn hC 0 dX10_warrant_85 rfl rfl ?_
    refine kj_gN (ci := 10) (k := 29) hC dX10_warrant_86 kf_X10_82 rfl (fun a2 => ?_)
    refine kj_aloadn hC 0 dX10_warrant_89 rfl rfl ?_
    refine kj_gI (ci := 10) (k := 27) hC dX10_warrant_90 kf_X10_210 rfl (fun x3 => ?_)
    refine kj_iloadn hC 2 dX10_warrant_93 rfl rfl ?_
    refine kj_pAI hC dX10_warrant_94 (fun h3 => ?_)
    refine kj_aloadn hC 0 dX10_warrant_95 rfl rfl ?_
    refine kj_gN (ci := 10) (k := 30) hC dX10_warrant_96 kf_X10_85 rfl (fun a3 => ?_)
    refine kj_aloadn hC 0 dX10_warrant_99 rfl rfl ?_
    refine kj_gI (ci := 10) (k := 27) hC dX10_warrant_100 kf_X10_210 rfl (fun x4 => ?_)
    refine kj_iloadn hC 3 dX10_warrant_103 rfl rfl ?_
    refine kj_pAI hC dX10_warrant_104 (fun h4 => ?_)
    refine kj_aloadn hC 0 dX10_warrant_105 rfl rfl ?_
    refine kj_dup hC dX10_warrant_106 rfl ?_
    refine kj_gI (ci := 10) (k := 27) hC dX10_warrant_107 kf_X10_210 rfl (fun x5 => ?_)
    refine kj_iconst (v := 1) hC dX10_warrant_110 (by decide) ?_
    refine kj_iadd hC dX10_warrant_111 ?_
    refine kj_pI (ci := 10) (k := 27) hC dX10_warrant_112 kf_X10_210 (Or.inl (kNF_of (by decide))) rfl ⟨rfl, rfl⟩ (fun h5 => ?_)
    refine kj_aloadn hC 0 dX10_warrant_115 rfl rfl ?_
    refine kj_gI (ci := 10) (k := 27) hC dX10_warrant_116 kf_X10_210 rfl (fun x6 => ?_)
    refine kj_iconst (v := 1) hC dX10_warrant_119 (by decide) ?_
    refine kj_isub hC dX10_warrant_120 ?_
    refine kj_fin hmc hms ?_
    exact kj_ireturn hC dX10_warrant_121
set_option maxHeartbeats 4000000 in
set_option maxRecDepth 100000 in
theorem t_X10_warrant_b32 {X : KX} (hC : kC X RX10 cX10_warrant 6 (some .int)) (hN : (xme X).name = yX10_warrant.name) (hT : kT0 X) (hmc : xmc X = 0) (hms : xms X = 0) (hD : xD X = 2) (v0 : Nat) (v1 : Int32) (v2 : Int32) (v3 : Int32) (v4 : Int32) (s0 : Int32) (h : KH) : kJ X (fun x : Int32 => some (.inl x)) 6 0 0 [(0, .inr (.inr (some v0))), (1, .inl v1), (2, .inl v2), (3, .inl v3), (4, .inl v4)] [.inl s0] 32 h (X10_warrant_b32  v0 v1 v2 v3 v4 s0 h) := by
  unfold X10_warrant_b32
  refine kj_istore (L' := [(5, .inl s0), (0, .inr (.inr (some v0))), (1, .inl v1), (2, .inl v2), (3, .inl v3), (4, .inl v4)]) hC dX10_warrant_32 (by decide) rfl ?_
  refine kj_aloadn hC 1 dX10_warrant_34 rfl rfl ?_
  refine kj_iload hC 5 dX10_warrant_35 rfl ?_
  refine kj_if_ne (tgt := 44) hC dX10_warrant_37 (by decide) (fun q1 => ?_) (fun q1 => ?_)
  · refine kj_iconst (v := 1) hC dX10_warrant_40 (by decide) ?_
    refine kj_goto (tgt := 67) hC dX10_warrant_41 (by decide) ?_
    exact kj_sub [1, 2, 3, 4] rfl (t_X10_warrant_b67 hC hN hT hmc hms hD  v0 v1 v2 v3 1 v0 h)
  · refine kj_iload hC 0 dX10_warrant_44 rfl ?_
    refine kj_if_ne (tgt := 53) hC dX10_warrant_46 (by decide) (fun q2 => ?_) (fun q2 => ?_)
    · refine kj_iconst (v := 2) hC dX10_warrant_49 (by decide) ?_
      refine kj_goto (tgt := 67) hC dX10_warrant_50 (by decide) ?_
      exact kj_sub [1, 2, 3, 4] rfl (t_X10_warrant_b67 hC hN hT hmc hms hD  v0 v1 v2 v3 2 v0 h)
    · refine kj_aloadn hC 1 dX10_warrant_53 rfl rfl ?_
      refine kj_gI (ci := 10) (k := 27) hC dX10_warrant_54 kf_X10_210 rfl (fun x1 => ?_)
      refine kj_bipush (v := 8) hC dX10_warrant_57 (by decide) ?_
      refine kj_icmp_ne (tgt := 66) hC dX10_warrant_59 (by decide) (fun q3 => ?_) (fun q3 => ?_)
      · refine kj_iconst (v := 3) hC dX10_warrant_62 (by decide) ?_
        refine kj_goto (tgt := 67) hC dX10_warrant_63 (by decide) ?_
        exact kj_sub [1, 2, 3, 4] rfl (t_X10_warrant_b67 hC hN hT hmc hms hD  v0 v1 v2 v3 3 v0 h)
      · refine kj_iconst (v := 0) hC dX10_warrant_66 (by decide) ?_
        exact kj_sub [1, 2, 3, 4] rfl (t_X10_warrant_b67 hC hN hT hmc hms hD  v0 v1 v2 v3 0 v0 h)
set_option maxHeartbeats 4000000 in
set_option maxRecDepth 100000 in
theorem t_X10_warrant_b31 {X : KX} (hC : kC X RX10 cX10_warrant 6 (some .int)) (hN : (xme X).name = yX10_warrant.name) (hT : kT0 X) (hmc : xmc X = 0) (hms : xms X = 0) (hD : xD X = 2) (v0 : Nat) (v1 : Int32) (v2 : Int32) (v3 : Int32) (v4 : Int32) (h : KH) : kJ X (fun x : Int32 => some (.inl x)) 6 0 0 [(0, .inr (.inr (some v0))), (1, .inl v1), (2, .inl v2), (3, .inl v3), (4, .inl v4)] [] 31 h (X10_warrant_b31  v0 v1 v2 v3 v4 h) := by
  unfold X10_warrant_b31
  refine kj_iconst (v := 0) hC dX10_warrant_31 (by decide) ?_
  exact kj_sub [0, 1, 2, 3, 4] rfl (t_X10_warrant_b32 hC hN hT hmc hms hD  v0 v1 v2 v3 v4 0 h)
set_option maxHeartbeats 4000000 in
set_option maxRecDepth 100000 in
theorem t_X10_warrant (p0 : Nat) (p1 : Int32) (p2 : Int32) (p3 : Int32) (h : KH) : kM yX10_warrant cX10_warrant 6 (some .int) 2 0 0 (fun x : Int32 => some (.inl x)) [.inr (.inr (some p0)), .inl p1, .inl p2, .inl p3] h (f_X10_warrant p0 p1 p2 p3 h) := by
  refine kM_of RX10 (by decide) rfl (Nat.le_of_ble_eq_true rfl) [(0, .inr (.inr (some p0))), (1, .inl p1), (2, .inl p2), (3, .inl p3)] rfl (fun X hC hN hT hmc hms hD => ?_)
  unfold f_X10_warrant
  refine kj_aloadn hC 0 dX10_warrant_0 rfl rfl ?_
  refine kj_iloadn hC 1 dX10_warrant_1 rfl rfl ?_
  refine kj_invV (ci := 10) (q := (RX10, TX10, 36)) (as := [.inl p1]) (rest := []) hC hT dX10_warrant_2 kw1179 ky_X10_isPlate ky2_X10_isPlate rfl rfl (t_X10_isPlate p0 p1 h) rfl rfl (Nat.le_of_ble_eq_true rfl) ⟨by rw [hD]; decide, by decide⟩ ⟨by rw [hmc]; exact Nat.le_of_ble_eq_true rfl, by rw [hms]; exact Nat.le_of_ble_eq_true rfl⟩ (fun x1 h1 => ?_)
  refine kj_norm (st' := [.inl x1]) (c' := 0) (z' := 0) rfl rfl rfl ?_
  refine kj_istore (L' := [(4, .inl x1), (0, .inr (.inr (some p0))), (1, .inl p1), (2, .inl p2), (3, .inl p3)]) hC dX10_warrant_5 (by decide) rfl ?_
  refine kj_iloadn hC 3 dX10_warrant_7 rfl rfl ?_
  refine kj_iconst (v := 0) hC dX10_warrant_8 (by decide) ?_
  refine kj_bipush (v := 34) hC dX10_warrant_9 (by decide) ?_
  refine kj_invS (as := [.inl p2, .inl 0, .inl 34]) (rest := []) hC hT dX10_warrant_11 kw1085 ky_X10_isIn ky2_X10_isIn (t_X10_isIn p2 0 34 h1) rfl rfl (Nat.le_of_ble_eq_true rfl) ⟨by rw [hD]; decide, by decide⟩ ⟨by rw [hmc]; exact Nat.le_of_ble_eq_true rfl, by rw [hms]; exact Nat.le_of_ble_eq_true rfl⟩ (fun x2 h2 => ?_)
  refine kj_norm (st' := [.inl x2]) (c' := 0) (z' := 0) rfl rfl rfl ?_
  refine kj_if_eq (tgt := 31) hC dX10_warrant_14 (by decide) (fun q1 => ?_) (fun q1 => ?_)
  · exact kj_sub [1, 2, 3, 4, 0] rfl (t_X10_warrant_b31 hC hN hT hmc hms hD  p0 p1 p2 p3 x1 h2)
  · refine kj_iloadn hC 4 dX10_warrant_17 rfl rfl ?_
    refine kj_iloadn hC 3 dX10_warrant_18 rfl rfl ?_
    refine kj_bipush (v := 34) hC dX10_warrant_19 (by decide) ?_
    refine kj_invS (as := [.inl p3, .inl p2, .inl 34]) (rest := []) hC hT dX10_warrant_21 kw1085 ky_X10_isIn ky2_X10_isIn (t_X10_isIn p3 p2 34 h2) rfl rfl (Nat.le_of_ble_eq_true rfl) ⟨by rw [hD]; decide, by decide⟩ ⟨by rw [hmc]; exact Nat.le_of_ble_eq_true rfl, by rw [hms]; exact Nat.le_of_ble_eq_true rfl⟩ (fun x3 h3 => ?_)
    refine kj_norm (st' := [.inl x3]) (c' := 0) (z' := 0) rfl rfl rfl ?_
    refine kj_if_eq (tgt := 31) hC dX10_warrant_24 (by decide) (fun q2 => ?_) (fun q2 => ?_)
    · exact kj_sub [1, 2, 3, 4, 0] rfl (t_X10_warrant_b31 hC hN hT hmc hms hD  p0 p1 p2 p3 x1 h3)
    · refine kj_iconst (v := 1) hC dX10_warrant_27 (by decide) ?_
      refine kj_goto (tgt := 32) hC dX10_warrant_28 (by decide) ?_
      exact kj_sub [1, 2, 3, 4, 0] rfl (t_X10_warrant_b32 hC hN hT hmc hms hD  p0 p1 p2 p3 x1 1 h3)
set_option maxHeartbeats 4000000 in
set_option maxRecDepth 100000 in
theorem t_X10_shows_b164 {X : KX} (hC : kC X RX10 cX10_shows 9 (some .int)) (hN : (xme X).name = yX10_shows.name) (hT : kT0 X) (hmc : xmc X = 0) (hms : xms X = 0) (hD : xD X = 4) (v5 : Int32) (h : KH) : kJ X (fun x : Int32 => some (.inl x)) 9 0 0 [(5, .inl v5)] [] 164 h (X10_shows_b164  v5 h) := by
  unfold X10_shows_b164
  refine kj_iload hC 0 dX10_shows_164 rfl ?_
  refine kj_fin hmc hms ?_
  exact kj_ireturn hC dX10_shows_166
set_option maxHeartbeats 4000000 in
set_option maxRecDepth 100000 in
theorem t_X10_shows_b149 {X : KX} (hC : kC X RX10 cX10_shows 9 (some .int)) (hN : (xme X).name = yX10_shows.name) (hT : kT0 X) (hmc : xmc X = 0) (hms : xms X = 0) (hD : xD X = 4) (rc33 : Nat → Int32 → Int32 → Int32 → Int32 → Int32 → Int32 → Int32 → Int32 → KH → KO Int32) (hr33 : ∀ (v0 : Nat) (v1 : Int32) (v2 : Int32) (v3 : Int32) (v4 : Int32) (v5 : Int32) (v6 : Int32) (v7 : Int32) (v8 : Int32) (h : KH), kJ X (fun x : Int32 => some (.inl x)) 9 0 0 [(0, .inr (.inr (some v0))), (1, .inl v1), (2, .inl v2), (3, .inl v3), (4, .inl v4), (5, .inl v5), (6, .inl v6), (7, .inl v7), (8, .inl v8)] [] 33 h (rc33 v0 v1 v2 v3 v4 v5 v6 v7 v8 h)) (v0 : Nat) (v1 : Int32) (v2 : Int32) (v3 : Int32) (v5 : Int32) (v6 : Int32) (v7 : Int32) (v8 : Int32) (s0 : Int32) (s1 : Int32) (h : KH) : kJ X (fun x : Int32 => some (.inl x)) 9 0 0 [(0, .inr (.inr (some v0))), (1, .inl v1), (2, .inl v2), (3, .inl v3), (5, .inl v5), (6, .inl v6), (7, .inl v7), (8, .inl v8)] [.inl s0, .inl s1] 149 h (X10_shows_b149 rc33 v0 v1 v2 v3 v5 v6 v7 v8 s0 s1 h) := by
  unfold X10_shows_b149
  refine kj_isub hC dX10_shows_149 ?_
  refine kj_istore (L' := [(4, .inl (s1 - s0)), (0, .inr (.inr (some v0))), (1, .inl v1), (2, .inl v2), (3, .inl v3), (5, .inl v5), (6, .inl v6), (7, .inl v7), (8, .inl v8)]) hC dX10_shows_150 (by decide) rfl ?_
  refine kj_aloadn hC 1 dX10_shows_152 rfl rfl ?_
  refine kj_iloadn hC 4 dX10_shows_153 rfl rfl ?_
  refine kj_iload hC 8 dX10_shows_154 rfl ?_
  refine kj_invV (ci := 10) (q := (RX10, TX10, 36)) (as := [.inl v3, .inl v8]) (rest := []) hC hT dX10_shows_156 kw1251 ky_X10_next ky2_X10_next rfl rfl (t_X10_next v0 v3 v8 h) rfl rfl (Nat.le_of_ble_eq_true rfl) ⟨by rw [hD]; decide, by decide⟩ ⟨by rw [hmc]; exact Nat.le_of_ble_eq_true rfl, by rw [hms]; exact Nat.le_of_ble_eq_true rfl⟩ (fun x1 h1 => ?_)
  refine kj_norm (st' := [.inl x1]) (c' := 0) (z' := 0) rfl rfl rfl ?_
  refine kj_istore (L' := [(8, .inl x1), (4, .inl (s1 - s0)), (0, .inr (.inr (some v0))), (1, .inl v1), (2, .inl v2), (3, .inl v3), (5, .inl v5), (6, .inl v6), (7, .inl v7)]) hC dX10_shows_159 (by decide) rfl ?_
  refine kj_goto (tgt := 33) hC dX10_shows_161 (by decide) ?_
  exact kj_sub [2, 3, 4, 5, 1, 6, 7, 8, 0] rfl (hr33 v0 v1 v2 v3 (s1 - s0) v5 v6 v7 x1 h1)
set_option maxHeartbeats 4000000 in
set_option maxRecDepth 100000 in
theorem t_X10_shows_b135 {X : KX} (hC : kC X RX10 cX10_shows 9 (some .int)) (hN : (xme X).name = yX10_shows.name) (hT : kT0 X) (hmc : xmc X = 0) (hms : xms X = 0) (hD : xD X = 4) (rc33 : Nat → Int32 → Int32 → Int32 → Int32 → Int32 → Int32 → Int32 → Int32 → KH → KO Int32) (hr33 : ∀ (v0 : Nat) (v1 : Int32) (v2 : Int32) (v3 : Int32) (v4 : Int32) (v5 : Int32) (v6 : Int32) (v7 : Int32) (v8 : Int32) (h : KH), kJ X (fun x : Int32 => some (.inl x)) 9 0 0 [(0, .inr (.inr (some v0))), (1, .inl v1), (2, .inl v2), (3, .inl v3), (4, .inl v4), (5, .inl v5), (6, .inl v6), (7, .inl v7), (8, .inl v8)] [] 33 h (rc33 v0 v1 v2 v3 v4 v5 v6 v7 v8 h)) (v0 : Nat) (v1 : Int32) (v2 : Int32) (v3 : Int32) (v4 : Int32) (v6 : Int32) (v7 : Int32) (v8 : Int32) (s0 : Int32) (h : KH) : kJ X (fun x : Int32 => some (.inl x)) 9 0 0 [(0, .inr (.inr (some v0))), (1, .inl v1), (2, .inl v2), (3, .inl v3), (4, .inl v4), (6, .inl v6), (7, .inl v7), (8, .inl v8)] [.inl s0] 135 h (X10_shows_b135 rc33 v0 v1 v2 v3 v4 v6 v7 v8 s0 h) := by
  unfold X10_shows_b135
  refine kj_istore (L' := [(5, .inl s0), (0, .inr (.inr (some v0))), (1, .inl v1), (2, .inl v2), (3, .inl v3), (4, .inl v4), (6, .inl v6), (7, .inl v7), (8, .inl v8)]) hC dX10_shows_135 (by decide) rfl ?_
  refine kj_iload hC 5 dX10_shows_137 rfl ?_
  refine kj_iload hC 6 dX10_shows_139 rfl ?_
  refine kj_if_eq (tgt := 148) hC dX10_shows_141 (by decide) (fun q1 => ?_) (fun q1 => ?_)
  · refine kj_iconst (v := 0) hC dX10_shows_148 (by decide) ?_
    exact kj_sub [1, 2, 3, 4, 0, 6, 7, 8] rfl (t_X10_shows_b149 hC hN hT hmc hms hD rc33 hr33 v0 v1 v2 v3 s0 v6 v7 v8 0 v4 h)
  · refine kj_iconst (v := 1) hC dX10_shows_144 (by decide) ?_
    refine kj_goto (tgt := 149) hC dX10_shows_145 (by decide) ?_
    exact kj_sub [1, 2, 3, 4, 0, 6, 7, 8] rfl (t_X10_shows_b149 hC hN hT hmc hms hD rc33 hr33 v0 v1 v2 v3 s0 v6 v7 v8 1 v4 h)
set_option maxHeartbeats 4000000 in
set_option maxRecDepth 100000 in
theorem t_X10_shows_b134 {X : KX} (hC : kC X RX10 cX10_shows 9 (some .int)) (hN : (xme X).name = yX10_shows.name) (hT : kT0 X) (hmc : xmc X = 0) (hms : xms X = 0) (hD : xD X = 4) (rc33 : Nat → Int32 → Int32 → Int32 → Int32 → Int32 → Int32 → Int32 → Int32 → KH → KO Int32) (hr33 : ∀ (v0 : Nat) (v1 : Int32) (v2 : Int32) (v3 : Int32) (v4 : Int32) (v5 : Int32) (v6 : Int32) (v7 : Int32) (v8 : Int32) (h : KH), kJ X (fun x : Int32 => some (.inl x)) 9 0 0 [(0, .inr (.inr (some v0))), (1, .inl v1), (2, .inl v2), (3, .inl v3), (4, .inl v4), (5, .inl v5), (6, .inl v6), (7, .inl v7), (8, .inl v8)] [] 33 h (rc33 v0 v1 v2 v3 v4 v5 v6 v7 v8 h)) (v0 : Nat) (v1 : Int32) (v2 : Int32) (v3 : Int32) (v4 : Int32) (v6 : Int32) (v7 : Int32) (v8 : Int32) (h : KH) : kJ X (fun x : Int32 => some (.inl x)) 9 0 0 [(0, .inr (.inr (some v0))), (1, .inl v1), (2, .inl v2), (3, .inl v3), (4, .inl v4), (6, .inl v6), (7, .inl v7), (8, .inl v8)] [] 134 h (X10_shows_b134 rc33 v0 v1 v2 v3 v4 v6 v7 v8 h) := by
  unfold X10_shows_b134
  refine kj_iconst (v := (-1)) hC dX10_shows_134 (by decide) ?_
  exact kj_sub [0, 1, 2, 3, 4, 5, 6, 7] rfl (t_X10_shows_b135 hC hN hT hmc hms hD rc33 hr33 v0 v1 v2 v3 v4 v6 v7 v8 ((-1)) h)
set_option maxHeartbeats 4000000 in
set_option maxRecDepth 100000 in
theorem t_X10_shows_b92 {X : KX} (hC : kC X RX10 cX10_shows 9 (some .int)) (hN : (xme X).name = yX10_shows.name) (hT : kT0 X) (hmc : xmc X = 0) (hms : xms X = 0) (hD : xD X = 4) (rc33 : Nat → Int32 → Int32 → Int32 → Int32 → Int32 → Int32 → Int32 → Int32 → KH → KO Int32) (hr33 : ∀ (v0 : Nat) (v1 : Int32) (v2 : Int32) (v3 : Int32) (v4 : Int32) (v5 : Int32) (v6 : Int32) (v7 : Int32) (v8 : Int32) (h : KH), kJ X (fun x : Int32 => some (.inl x)) 9 0 0 [(0, .inr (.inr (some v0))), (1, .inl v1), (2, .inl v2), (3, .inl v3), (4, .inl v4), (5, .inl v5), (6, .inl v6), (7, .inl v7), (8, .inl v8)] [] 33 h (rc33 v0 v1 v2 v3 v4 v5 v6 v7 v8 h)) (v0 : Nat) (v1 : Int32) (v2 : Int32) (v3 : Int32) (v4 : Int32) (v8 : Int32) (s0 : Int32) (h : KH) : kJ X (fun x : Int32 => some (.inl x)) 9 0 0 [(0, .inr (.inr (some v0))), (1, .inl v1), (2, .inl v2), (3, .inl v3), (4, .inl v4), (8, .inl v8)] [.inl s0] 92 h (X10_shows_b92 rc33 v0 v1 v2 v3 v4 v8 s0 h) := by
  unfold X10_shows_b92
  refine kj_istore (L' := [(6, .inl s0), (0, .inr (.inr (some v0))), (1, .inl v1), (2, .inl v2), (3, .inl v3), (4, .inl v4), (8, .inl v8)]) hC dX10_shows_92 (by decide) rfl ?_
  refine kj_aloadn hC 1 dX10_shows_94 rfl rfl ?_
  refine kj_gN (ci := 10) (k := 24) hC dX10_shows_95 kf_X10_69 rfl (fun a1 => ?_)
  refine kj_iload hC 6 dX10_shows_98 rfl ?_
  refine kj_gAI hC dX10_shows_100 (fun x1 => ?_)
  refine kj_istore (L' := [(7, .inl x1), (6, .inl s0), (0, .inr (.inr (some v0))), (1, .inl v1), (2, .inl v2), (3, .inl v3), (4, .inl v4), (8, .inl v8)]) hC dX10_shows_101 (by decide) rfl ?_
  refine kj_iload hC 1 dX10_shows_103 rfl ?_
  refine kj_if_eq (tgt := 134) hC dX10_shows_105 (by decide) (fun q1 => ?_) (fun q1 => ?_)
  · exact kj_sub [2, 3, 4, 5, 6, 1, 0, 7] rfl (t_X10_shows_b134 hC hN hT hmc hms hD rc33 hr33 v0 v1 v2 v3 v4 s0 x1 v8 h)
  · refine kj_iload hC 6 dX10_shows_108 rfl ?_
    refine kj_if_ne (tgt := 134) hC dX10_shows_110 (by decide) (fun q2 => ?_) (fun q2 => ?_)
    · refine kj_ldc (v := 100000) hC dX10_shows_113 kw1331 ?_
      refine kj_aloadn hC 2 dX10_shows_115 rfl rfl ?_
      refine kj_gN (ci := 10) (k := 17) hC dX10_shows_116 kf_X10_48 rfl (fun a2 => ?_)
      refine kj_iload hC 7 dX10_shows_119 rfl ?_
      refine kj_gAI hC dX10_shows_121 (fun x2 => ?_)
      refine kj_imul hC dX10_shows_122 ?_
      refine kj_aloadn hC 2 dX10_shows_123 rfl rfl ?_
      refine kj_gN (ci := 10) (k := 18) hC dX10_shows_124 kf_X10_51 rfl (fun a3 => ?_)
      refine kj_iload hC 7 dX10_shows_127 rfl ?_
      refine kj_gAI hC dX10_shows_129 (fun x3 => ?_)
      refine kj_iadd hC dX10_shows_130 ?_
      refine kj_goto (tgt := 135) hC dX10_shows_131 (by decide) ?_
      exact kj_sub [2, 3, 4, 5, 6, 1, 0, 7] rfl (t_X10_shows_b135 hC hN hT hmc hms hD rc33 hr33 v0 v1 v2 v3 v4 s0 x1 v8 ((100000 * x2) + x3) h)
    · exact kj_sub [2, 3, 4, 5, 6, 1, 0, 7] rfl (t_X10_shows_b134 hC hN hT hmc hms hD rc33 hr33 v0 v1 v2 v3 v4 s0 x1 v8 h)
set_option maxHeartbeats 4000000 in
set_option maxRecDepth 100000 in
theorem t_X10_shows_b33 {X : KX} (hC : kC X RX10 cX10_shows 9 (some .int)) (hN : (xme X).name = yX10_shows.name) (hT : kT0 X) (hmc : xmc X = 0) (hms : xms X = 0) (hD : xD X = 4) (rc33 : Nat → Int32 → Int32 → Int32 → Int32 → Int32 → Int32 → Int32 → Int32 → KH → KO Int32) (hr33 : ∀ (v0 : Nat) (v1 : Int32) (v2 : Int32) (v3 : Int32) (v4 : Int32) (v5 : Int32) (v6 : Int32) (v7 : Int32) (v8 : Int32) (h : KH), kJ X (fun x : Int32 => some (.inl x)) 9 0 0 [(0, .inr (.inr (some v0))), (1, .inl v1), (2, .inl v2), (3, .inl v3), (4, .inl v4), (5, .inl v5), (6, .inl v6), (7, .inl v7), (8, .inl v8)] [] 33 h (rc33 v0 v1 v2 v3 v4 v5 v6 v7 v8 h)) (v0 : Nat) (v1 : Int32) (v2 : Int32) (v3 : Int32) (v4 : Int32) (v5 : Int32) (v6 : Int32) (v7 : Int32) (v8 : Int32) (h : KH) : kJ X (fun x : Int32 => some (.inl x)) 9 0 0 [(0, .inr (.inr (some v0))), (1, .inl v1), (2, .inl v2), (3, .inl v3), (4, .inl v4), (5, .inl v5), (6, .inl v6), (7, .inl v7), (8, .inl v8)] [] 33 h (X10_shows_b33 rc33 v0 v1 v2 v3 v4 v5 v6 v7 v8 h) := by
  unfold X10_shows_b33
  refine kj_iload hC 8 dX10_shows_33 rfl ?_
  refine kj_iconst (v := (-1)) hC dX10_shows_35 (by decide) ?_
  refine kj_icmp_eq (tgt := 164) hC dX10_shows_36 (by decide) (fun q1 => ?_) (fun q1 => ?_)
  · exact kj_sub [5] rfl (t_X10_shows_b164 hC hN hT hmc hms hD  v5 h)
  · refine kj_iloadn hC 2 dX10_shows_39 rfl rfl ?_
    refine kj_if_lt (tgt := 164) hC dX10_shows_40 (by decide) (fun q2 => ?_) (fun q2 => ?_)
    · exact kj_sub [5] rfl (t_X10_shows_b164 hC hN hT hmc hms hD  v5 h)
    · refine kj_iload hC 5 dX10_shows_43 rfl ?_
      refine kj_iconst (v := (-1)) hC dX10_shows_45 (by decide) ?_
      refine kj_icmp_ne (tgt := 164) hC dX10_shows_46 (by decide) (fun q3 => ?_) (fun q3 => ?_)
      · refine kj_aloadn hC 0 dX10_shows_49 rfl rfl ?_
        refine kj_gN (ci := 10) (k := 24) hC dX10_shows_50 kf_X10_69 rfl (fun a1 => ?_)
        refine kj_iload hC 8 dX10_shows_53 rfl ?_
        refine kj_gAI hC dX10_shows_55 (fun x1 => ?_)
        refine kj_iload hC 7 dX10_shows_56 rfl ?_
        refine kj_icmp_ne (tgt := 66) hC dX10_shows_58 (by decide) (fun q4 => ?_) (fun q4 => ?_)
        · refine kj_iload hC 6 dX10_shows_61 rfl ?_
          refine kj_goto (tgt := 92) hC dX10_shows_63 (by decide) ?_
          exact kj_sub [0, 1, 2, 3, 4, 8] rfl (t_X10_shows_b92 hC hN hT hmc hms hD rc33 hr33 v0 v1 v2 v3 v4 v8 v6 h)
        · refine kj_aloadn hC 0 dX10_shows_66 rfl rfl ?_
          refine kj_gN (ci := 10) (k := 18) hC dX10_shows_67 kf_X10_51 rfl (fun a2 => ?_)
          refine kj_iload hC 8 dX10_shows_70 rfl ?_
          refine kj_gAI hC dX10_shows_72 (fun x2 => ?_)
          refine kj_sipush (v := 1440) hC dX10_shows_73 (by decide) ?_
          refine kj_idiv hC dX10_shows_76 ?_
          refine kj_aloadn hC 0 dX10_shows_77 rfl rfl ?_
          refine kj_gN (ci := 10) (k := 29) hC dX10_shows_78 kf_X10_82 rfl (fun a3 => ?_)
          refine kj_iloadn hC 1 dX10_shows_81 rfl rfl ?_
          refine kj_gAI hC dX10_shows_82 (fun x3 => ?_)
          refine kj_aloadn hC 0 dX10_shows_83 rfl rfl ?_
          refine kj_gN (ci := 10) (k := 30) hC dX10_shows_84 kf_X10_85 rfl (fun a4 => ?_)
          refine kj_iloadn hC 1 dX10_shows_87 rfl rfl ?_
          refine kj_gAI hC dX10_shows_88 (fun x4 => ?_)
          refine kj_invS (as := [.inl (x2 / 1440), .inl x3, .inl x4]) (rest := []) hC hT dX10_shows_89 kw1085 ky_X10_isIn ky2_X10_isIn (t_X10_isIn (x2 / 1440) x3 x4 h) rfl rfl (Nat.le_of_ble_eq_true rfl) ⟨by rw [hD]; decide, by decide⟩ ⟨by rw [hmc]; exact Nat.le_of_ble_eq_true rfl, by rw [hms]; exact Nat.le_of_ble_eq_true rfl⟩ (fun x5 h1 => ?_)
          refine kj_norm (st' := [.inl x5]) (c' := 0) (z' := 0) rfl rfl rfl ?_
          exact kj_sub [0, 1, 2, 3, 4, 8] rfl (t_X10_shows_b92 hC hN hT hmc hms hD rc33 hr33 v0 v1 v2 v3 v4 v8 x5 h1)
      · exact kj_sub [5] rfl (t_X10_shows_b164 hC hN hT hmc hms hD  v5 h)
set_option maxHeartbeats 4000000 in
set_option maxRecDepth 100000 in
theorem t_X10_shows_L33 {X : KX} (hC : kC X RX10 cX10_shows 9 (some .int)) (hN : (xme X).name = yX10_shows.name) (hT : kT0 X) (hmc : xmc X = 0) (hms : xms X = 0) (hD : xD X = 4) : ∀ (n : Nat) (v0 : Nat) (v1 : Int32) (v2 : Int32) (v3 : Int32) (v4 : Int32) (v5 : Int32) (v6 : Int32) (v7 : Int32) (v8 : Int32) (h : KH), kJ X (fun x : Int32 => some (.inl x)) 9 0 0 [(0, .inr (.inr (some v0))), (1, .inl v1), (2, .inl v2), (3, .inl v3), (4, .inl v4), (5, .inl v5), (6, .inl v6), (7, .inl v7), (8, .inl v8)] [] 33 h (X10_shows_L33  n v0 v1 v2 v3 v4 v5 v6 v7 v8 h) := by
  intro n
  induction n with
  | zero => intro v0 v1 v2 v3 v4 v5 v6 v7 v8 h; exact kj_none
  | succ n ih => intro v0 v1 v2 v3 v4 v5 v6 v7 v8 h; exact t_X10_shows_b33 hC hN hT hmc hms hD (X10_shows_L33  n) ih v0 v1 v2 v3 v4 v5 v6 v7 v8 h
set_option maxHeartbeats 4000000 in
set_option maxRecDepth 100000 in
theorem t_X10_shows (p0 : Nat) (p1 : Int32) (p2 : Int32) (h : KH) : kM yX10_shows cX10_shows 9 (some .int) 4 0 0 (fun x : Int32 => some (.inl x)) [.inr (.inr (some p0)), .inl p1, .inl p2] h (f_X10_shows p0 p1 p2 h) := by
  refine kM_of RX10 (by decide) rfl (Nat.le_of_ble_eq_true rfl) [(0, .inr (.inr (some p0))), (1, .inl p1), (2, .inl p2)] rfl (fun X hC hN hT hmc hms hD => ?_)
  unfold f_X10_shows
  refine kj_aloadn hC 0 dX10_shows_0 rfl rfl ?_
  refine kj_gN (ci := 10) (k := 28) hC dX10_shows_1 kf_X10_79 rfl (fun a1 => ?_)
  refine kj_iloadn hC 1 dX10_shows_4 rfl rfl ?_
  refine kj_gAI hC dX10_shows_5 (fun x1 => ?_)
  refine kj_istoren (L' := [(3, .inl x1), (0, .inr (.inr (some p0))), (1, .inl p1), (2, .inl p2)]) hC dX10_shows_6 rfl (by decide) rfl ?_
  refine kj_iloadn hC 3 dX10_shows_7 rfl rfl ?_
  refine kj_istore (L' := [(4, .inl p2), (3, .inl x1), (0, .inr (.inr (some p0))), (1, .inl p1), (2, .inl p2)]) hC dX10_shows_8 (by decide) rfl ?_
  refine kj_iconst (v := (-1)) hC dX10_shows_10 (by decide) ?_
  refine kj_istore (L' := [(5, .inl (-1)), (4, .inl p2), (3, .inl x1), (0, .inr (.inr (some p0))), (1, .inl p1), (2, .inl p2)]) hC dX10_shows_11 (by decide) rfl ?_
  refine kj_iconst (v := 0) hC dX10_shows_13 (by decide) ?_
  refine kj_istore (L' := [(6, .inl 0), (5, .inl (-1)), (4, .inl p2), (3, .inl x1), (0, .inr (.inr (some p0))), (1, .inl p1), (2, .inl p2)]) hC dX10_shows_14 (by decide) rfl ?_
  refine kj_iconst (v := (-1)) hC dX10_shows_16 (by decide) ?_
  refine kj_istore (L' := [(7, .inl (-1)), (6, .inl 0), (5, .inl (-1)), (4, .inl p2), (3, .inl x1), (0, .inr (.inr (some p0))), (1, .inl p1), (2, .inl p2)]) hC dX10_shows_17 (by decide) rfl ?_
  refine kj_aloadn hC 5 dX10_shows_19 rfl rfl ?_
  refine kj_iloadn hC 4 dX10_shows_20 rfl rfl ?_
  refine kj_invV (ci := 10) (q := (RX10, TX10, 36)) (as := [.inl x1]) (rest := []) hC hT dX10_shows_21 kw1243 ky_X10_joins ky2_X10_joins rfl rfl (t_X10_joins p0 x1 h) rfl rfl (Nat.le_of_ble_eq_true rfl) ⟨by rw [hD]; decide, by decide⟩ ⟨by rw [hmc]; exact Nat.le_of_ble_eq_true rfl, by rw [hms]; exact Nat.le_of_ble_eq_true rfl⟩ (fun x2 h1 => ?_)
  refine kj_norm (st' := [.inl x2]) (c' := 0) (z' := 0) rfl rfl rfl ?_
  refine kj_pop hC dX10_shows_24 rfl ?_
  refine kj_aloadn hC 5 dX10_shows_25 rfl rfl ?_
  refine kj_iloadn hC 4 dX10_shows_26 rfl rfl ?_
  refine kj_iconst (v := (-1)) hC dX10_shows_27 (by decide) ?_
  refine kj_invV (ci := 10) (q := (RX10, TX10, 36)) (as := [.inl x1, .inl (-1)]) (rest := []) hC hT dX10_shows_28 kw1251 ky_X10_next ky2_X10_next rfl rfl (t_X10_next p0 x1 ((-1)) h1) rfl rfl (Nat.le_of_ble_eq_true rfl) ⟨by rw [hD]; decide, by decide⟩ ⟨by rw [hmc]; exact Nat.le_of_ble_eq_true rfl, by rw [hms]; exact Nat.le_of_ble_eq_true rfl⟩ (fun x3 h2 => ?_)
  refine kj_norm (st' := [.inl x3]) (c' := 0) (z' := 0) rfl rfl rfl ?_
  refine kj_istore (L' := [(8, .inl x3), (7, .inl (-1)), (6, .inl 0), (5, .inl (-1)), (4, .inl p2), (3, .inl x1), (0, .inr (.inr (some p0))), (1, .inl p1), (2, .inl p2)]) hC dX10_shows_31 (by decide) rfl ?_
  exact kj_sub [6, 7, 8, 5, 4, 3, 2, 1, 0] rfl (t_X10_shows_L33 hC hN hT hmc hms hD  kF p0 p1 p2 x1 p2 ((-1)) 0 ((-1)) x3 h2)
set_option maxHeartbeats 4000000 in
set_option maxRecDepth 100000 in
theorem t_X10_isWarrant (p0 : Nat) (p1 : Int32) (h : KH) : kM yX10_isWarrant cX10_isWarrant 2 (some .boolean) 1 0 0 (fun x : Int32 => some (.inl x)) [.inr (.inr (some p0)), .inl p1] h (f_X10_isWarrant p0 p1 h) := by
  refine kM_of RX10 (by decide) rfl (Nat.le_of_ble_eq_true rfl) [(0, .inr (.inr (some p0))), (1, .inl p1)] rfl (fun X hC hN hT hmc hms hD => ?_)
  unfold f_X10_isWarrant
  refine kj_iloadn hC 1 dX10_isWarrant_0 rfl rfl ?_
  refine kj_iconst (v := 0) hC dX10_isWarrant_1 (by decide) ?_
  refine kj_aloadn hC 0 dX10_isWarrant_2 rfl rfl ?_
  refine kj_gI (ci := 10) (k := 27) hC dX10_isWarrant_3 kf_X10_210 rfl (fun x1 => ?_)
  refine kj_iconst (v := 1) hC dX10_isWarrant_6 (by decide) ?_
  refine kj_isub hC dX10_isWarrant_7 ?_
  refine kj_invS (as := [.inl p1, .inl 0, .inl (x1 - 1)]) (rest := []) hC hT dX10_isWarrant_8 kw1085 ky_X10_isIn ky2_X10_isIn (t_X10_isIn p1 0 (x1 - 1) h) rfl rfl (Nat.le_of_ble_eq_true rfl) ⟨by rw [hD]; decide, by decide⟩ ⟨by rw [hmc]; exact Nat.le_of_ble_eq_true rfl, by rw [hms]; exact Nat.le_of_ble_eq_true rfl⟩ (fun x2 h1 => ?_)
  refine kj_norm (st' := [.inl x2]) (c' := 0) (z' := 0) rfl rfl rfl ?_
  refine kj_fin hmc hms ?_
  exact kj_zreturn hC dX10_isWarrant_11
set_option maxHeartbeats 4000000 in
set_option maxRecDepth 100000 in
theorem t_X10_ask_b72 {X : KX} (hC : kC X RX10 cX10_ask 6 (some .int)) (hN : (xme X).name = yX10_ask.name) (hT : kT0 X) (hmc : xmc X = 0) (hms : xms X = 0) (hD : xD X = 5) (v0 : Nat) (v1 : Int32) (v2 : Int32) (v5 : Int32) (s0 : Int32) (s1 : Nat) (h : KH) : kJ X (fun x : Int32 => some (.inl x)) 6 0 0 [(0, .inr (.inr (some v0))), (1, .inl v1), (2, .inl v2), (5, .inl v5)] [.inl s0, .inr (.inr (some s1))] 72 h (X10_ask_b72  v0 v1 v2 v5 s0 s1 h) := by
  unfold X10_ask_b72
  refine kj_invV (ci := 10) (q := (RX10, TX10, 36)) (as := [.inl s0]) (rest := []) hC hT dX10_ask_72 kw1089 ky_X10_can ky2_X10_can rfl rfl (t_X10_can s1 s0 h) rfl rfl (Nat.le_of_ble_eq_true rfl) ⟨by rw [hD]; decide, by decide⟩ ⟨by rw [hmc]; exact Nat.le_of_ble_eq_true rfl, by rw [hms]; exact Nat.le_of_ble_eq_true rfl⟩ (fun x1 h1 => ?_)
  refine kj_norm (st' := [.inl x1]) (c' := 0) (z' := 0) rfl rfl rfl ?_
  refine kj_if_ne (tgt := 80) hC dX10_ask_75 (by decide) (fun q1 => ?_) (fun q1 => ?_)
  · refine kj_iconst (v := 0) hC dX10_ask_78 (by decide) ?_
    refine kj_fin hmc hms ?_
    exact kj_ireturn hC dX10_ask_79
  · refine kj_aloadn hC 0 dX10_ask_80 rfl rfl ?_
    refine kj_gN (ci := 10) (k := 32) hC dX10_ask_81 kf_X10_88 rfl (fun a1 => ?_)
    refine kj_aloadn hC 0 dX10_ask_84 rfl rfl ?_
    refine kj_gI (ci := 10) (k := 31) hC dX10_ask_85 kf_X10_217 rfl (fun x2 => ?_)
    refine kj_iloadn hC 1 dX10_ask_88 rfl rfl ?_
    refine kj_pAI hC dX10_ask_89 (fun h2 => ?_)
    refine kj_aloadn hC 0 dX10_ask_90 rfl rfl ?_
    refine kj_gN (ci := 10) (k := 33) hC dX10_ask_91 kf_X10_91 rfl (fun a2 => ?_)
    refine kj_aloadn hC 0 dX10_ask_94 rfl rfl ?_
    refine kj_gI (ci := 10) (k := 31) hC dX10_ask_95 kf_X10_217 rfl (fun x3 => ?_)
    refine kj_iloadn hC 2 dX10_ask_98 rfl rfl ?_
    refine kj_pAI hC dX10_ask_99 (fun h3 => ?_)
    refine kj_aloadn hC 0 dX10_ask_100 rfl rfl ?_
    refine kj_gN (ci := 10) (k := 34) hC dX10_ask_101 kf_X10_94 rfl (fun a3 => ?_)
    refine kj_aloadn hC 0 dX10_ask_104 rfl rfl ?_
    refine kj_gI (ci := 10) (k := 31) hC dX10_ask_105 kf_X10_217 rfl (fun x4 => ?_)
    refine kj_iload hC 3 dX10_ask_108 rfl ?_
    refine kj_pAI hC dX10_ask_110 (fun h4 => ?_)
    refine kj_aloadn hC 0 dX10_ask_111 rfl rfl ?_
    refine kj_dup hC dX10_ask_112 rfl ?_
    refine kj_gI (ci := 10) (k := 31) hC dX10_ask_113 kf_X10_217 rfl (fun x5 => ?_)
    refine kj_iconst (v := 1) hC dX10_ask_116 (by decide) ?_
    refine kj_iadd hC dX10_ask_117 ?_
    refine kj_pI (ci := 10) (k := 31) hC dX10_ask_118 kf_X10_217 (Or.inl (kNF_of (by decide))) rfl ⟨rfl, rfl⟩ (fun h5 => ?_)
    refine kj_iload hC 3 dX10_ask_121 rfl ?_
    refine kj_fin hmc hms ?_
    exact kj_ireturn hC dX10_ask_123
set_option maxHeartbeats 4000000 in
set_option maxRecDepth 100000 in
theorem t_X10_ask_b41 {X : KX} (hC : kC X RX10 cX10_ask 6 (some .int)) (hN : (xme X).name = yX10_ask.name) (hT : kT0 X) (hmc : xmc X = 0) (hms : xms X = 0) (hD : xD X = 5) (v0 : Nat) (v1 : Int32) (v2 : Int32) (v3 : Int32) (v4 : Int32) (s0 : Int32) (h : KH) : kJ X (fun x : Int32 => some (.inl x)) 6 0 0 [(0, .inr (.inr (some v0))), (1, .inl v1), (2, .inl v2), (3, .inl v3), (4, .inl v4)] [.inl s0] 41 h (X10_ask_b41  v0 v1 v2 v3 v4 s0 h) := by
  unfold X10_ask_b41
  refine kj_istore (L' := [(5, .inl s0), (0, .inr (.inr (some v0))), (1, .inl v1), (2, .inl v2), (3, .inl v3), (4, .inl v4)]) hC dX10_ask_41 (by decide) rfl ?_
  refine kj_aloadn hC 1 dX10_ask_43 rfl rfl ?_
  refine kj_iloadn hC 4 dX10_ask_44 rfl rfl ?_
  refine kj_if_ne (tgt := 52) hC dX10_ask_45 (by decide) (fun q1 => ?_) (fun q1 => ?_)
  · refine kj_iconst (v := 1) hC dX10_ask_48 (by decide) ?_
    refine kj_goto (tgt := 72) hC dX10_ask_49 (by decide) ?_
    exact kj_sub [1, 2, 3, 0] rfl (t_X10_ask_b72 hC hN hT hmc hms hD  v0 v1 v2 s0 1 v0 h)
  · refine kj_iload hC 5 dX10_ask_52 rfl ?_
    refine kj_if_eq (tgt := 61) hC dX10_ask_54 (by decide) (fun q2 => ?_) (fun q2 => ?_)
    · refine kj_iload hC 0 dX10_ask_61 rfl ?_
      refine kj_iconst (v := (-1)) hC dX10_ask_63 (by decide) ?_
      refine kj_icmp_ne (tgt := 71) hC dX10_ask_64 (by decide) (fun q3 => ?_) (fun q3 => ?_)
      · refine kj_iconst (v := 3) hC dX10_ask_67 (by decide) ?_
        refine kj_goto (tgt := 72) hC dX10_ask_68 (by decide) ?_
        exact kj_sub [1, 2, 3, 0] rfl (t_X10_ask_b72 hC hN hT hmc hms hD  v0 v1 v2 s0 3 v0 h)
      · refine kj_iconst (v := 0) hC dX10_ask_71 (by decide) ?_
        exact kj_sub [1, 2, 3, 0] rfl (t_X10_ask_b72 hC hN hT hmc hms hD  v0 v1 v2 s0 0 v0 h)
    · refine kj_iconst (v := 2) hC dX10_ask_57 (by decide) ?_
      refine kj_goto (tgt := 72) hC dX10_ask_58 (by decide) ?_
      exact kj_sub [1, 2, 3, 0] rfl (t_X10_ask_b72 hC hN hT hmc hms hD  v0 v1 v2 s0 2 v0 h)
set_option maxHeartbeats 4000000 in
set_option maxRecDepth 100000 in
theorem t_X10_ask_b40 {X : KX} (hC : kC X RX10 cX10_ask 6 (some .int)) (hN : (xme X).name = yX10_ask.name) (hT : kT0 X) (hmc : xmc X = 0) (hms : xms X = 0) (hD : xD X = 5) (v0 : Nat) (v1 : Int32) (v2 : Int32) (v3 : Int32) (v4 : Int32) (h : KH) : kJ X (fun x : Int32 => some (.inl x)) 6 0 0 [(0, .inr (.inr (some v0))), (1, .inl v1), (2, .inl v2), (3, .inl v3), (4, .inl v4)] [] 40 h (X10_ask_b40  v0 v1 v2 v3 v4 h) := by
  unfold X10_ask_b40
  refine kj_iconst (v := (-1)) hC dX10_ask_40 (by decide) ?_
  exact kj_sub [0, 1, 2, 3, 4] rfl (t_X10_ask_b41 hC hN hT hmc hms hD  v0 v1 v2 v3 v4 ((-1)) h)
set_option maxHeartbeats 4000000 in
set_option maxRecDepth 100000 in
theorem t_X10_ask_b20 {X : KX} (hC : kC X RX10 cX10_ask 6 (some .int)) (hN : (xme X).name = yX10_ask.name) (hT : kT0 X) (hmc : xmc X = 0) (hms : xms X = 0) (hD : xD X = 5) (v0 : Nat) (v1 : Int32) (v2 : Int32) (v3 : Int32) (s0 : Int32) (h : KH) : kJ X (fun x : Int32 => some (.inl x)) 6 0 0 [(0, .inr (.inr (some v0))), (1, .inl v1), (2, .inl v2), (3, .inl v3)] [.inl s0] 20 h (X10_ask_b20  v0 v1 v2 v3 s0 h) := by
  unfold X10_ask_b20
  refine kj_istore (L' := [(4, .inl s0), (0, .inr (.inr (some v0))), (1, .inl v1), (2, .inl v2), (3, .inl v3)]) hC dX10_ask_20 (by decide) rfl ?_
  refine kj_iloadn hC 4 dX10_ask_22 rfl rfl ?_
  refine kj_if_eq (tgt := 40) hC dX10_ask_23 (by decide) (fun q1 => ?_) (fun q1 => ?_)
  · exact kj_sub [1, 2, 3, 4, 0] rfl (t_X10_ask_b40 hC hN hT hmc hms hD  v0 v1 v2 v3 s0 h)
  · refine kj_iload hC 0 dX10_ask_26 rfl ?_
    refine kj_if_ne (tgt := 40) hC dX10_ask_28 (by decide) (fun q2 => ?_) (fun q2 => ?_)
    · refine kj_aloadn hC 1 dX10_ask_31 rfl rfl ?_
      refine kj_iloadn hC 2 dX10_ask_32 rfl rfl ?_
      refine kj_iloadn hC 3 dX10_ask_33 rfl rfl ?_
      refine kj_invV (ci := 10) (q := (RX10, TX10, 36)) (as := [.inl v1, .inl v2]) (rest := []) hC hT dX10_ask_34 kw1327 ky_X10_shows ky2_X10_shows rfl rfl (t_X10_shows v0 v1 v2 h) rfl rfl (Nat.le_of_ble_eq_true rfl) ⟨by rw [hD]; decide, by decide⟩ ⟨by rw [hmc]; exact Nat.le_of_ble_eq_true rfl, by rw [hms]; exact Nat.le_of_ble_eq_true rfl⟩ (fun x1 h1 => ?_)
      refine kj_norm (st' := [.inl x1]) (c' := 0) (z' := 0) rfl rfl rfl ?_
      refine kj_goto (tgt := 41) hC dX10_ask_37 (by decide) ?_
      exact kj_sub [1, 2, 3, 4, 0] rfl (t_X10_ask_b41 hC hN hT hmc hms hD  v0 v1 v2 v3 s0 x1 h1)
    · exact kj_sub [1, 2, 3, 4, 0] rfl (t_X10_ask_b40 hC hN hT hmc hms hD  v0 v1 v2 v3 s0 h)
set_option maxHeartbeats 4000000 in
set_option maxRecDepth 100000 in
theorem t_X10_ask (p0 : Nat) (p1 : Int32) (p2 : Int32) (h : KH) : kM yX10_ask cX10_ask 6 (some .int) 5 0 0 (fun x : Int32 => some (.inl x)) [.inr (.inr (some p0)), .inl p1, .inl p2] h (f_X10_ask p0 p1 p2 h) := by
  refine kM_of RX10 (by decide) rfl (Nat.le_of_ble_eq_true rfl) [(0, .inr (.inr (some p0))), (1, .inl p1), (2, .inl p2)] rfl (fun X hC hN hT hmc hms hD => ?_)
  unfold f_X10_ask
  refine kj_aloadn hC 0 dX10_ask_0 rfl rfl ?_
  refine kj_iloadn hC 1 dX10_ask_1 rfl rfl ?_
  refine kj_invV (ci := 10) (q := (RX10, TX10, 36)) (as := [.inl p1]) (rest := []) hC hT dX10_ask_2 kw1323 ky_X10_isWarrant ky2_X10_isWarrant rfl rfl (t_X10_isWarrant p0 p1 h) rfl rfl (Nat.le_of_ble_eq_true rfl) ⟨by rw [hD]; decide, by decide⟩ ⟨by rw [hmc]; exact Nat.le_of_ble_eq_true rfl, by rw [hms]; exact Nat.le_of_ble_eq_true rfl⟩ (fun x1 h1 => ?_)
  refine kj_norm (st' := [.inl x1]) (c' := 0) (z' := 0) rfl rfl rfl ?_
  refine kj_istoren (L' := [(3, .inl x1), (0, .inr (.inr (some p0))), (1, .inl p1), (2, .inl p2)]) hC dX10_ask_5 rfl (by decide) rfl ?_
  refine kj_aloadn hC 1 dX10_ask_6 rfl rfl ?_
  refine kj_gI (ci := 10) (k := 31) hC dX10_ask_7 kf_X10_217 rfl (fun x2 => ?_)
  refine kj_bipush (v := 40) hC dX10_ask_10 (by decide) ?_
  refine kj_icmp_ne (tgt := 19) hC dX10_ask_12 (by decide) (fun q1 => ?_) (fun q1 => ?_)
  · refine kj_iconst (v := 1) hC dX10_ask_15 (by decide) ?_
    refine kj_goto (tgt := 20) hC dX10_ask_16 (by decide) ?_
    exact kj_sub [1, 2, 3, 0] rfl (t_X10_ask_b20 hC hN hT hmc hms hD  p0 p1 p2 x1 1 h1)
  · refine kj_iconst (v := 0) hC dX10_ask_19 (by decide) ?_
    exact kj_sub [1, 2, 3, 0] rfl (t_X10_ask_b20 hC hN hT hmc hms hD  p0 p1 p2 x1 0 h1)
set_option maxHeartbeats 4000000 in
set_option maxRecDepth 100000 in
theorem t_X10_stale_b70 {X : KX} (hC : kC X RX10 cX10_stale 4 (some .int)) (hN : (xme X).name = yX10_stale.name) (hT : kT0 X) (hmc : xmc X = 0) (hms : xms X = 0) (hD : xD X = 5) (rc26 : Nat → Int32 → Int32 → Int32 → KH → KO Int32) (hr26 : ∀ (v0 : Nat) (v1 : Int32) (v2 : Int32) (v3 : Int32) (h : KH), kJ X (fun x : Int32 => some (.inl x)) 4 0 0 [(0, .inr (.inr (some v0))), (1, .inl v1), (2, .inl v2), (3, .inl v3)] [] 26 h (rc26 v0 v1 v2 v3 h)) (v0 : Nat) (v1 : Int32) (v3 : Int32) (s0 : Int32) (s1 : Int32) (h : KH) : kJ X (fun x : Int32 => some (.inl x)) 4 0 0 [(0, .inr (.inr (some v0))), (1, .inl v1), (3, .inl v3)] [.inl s0, .inl s1] 70 h (X10_stale_b70 rc26 v0 v1 v3 s0 s1 h) := by
  unfold X10_stale_b70
  refine kj_iadd hC dX10_stale_70 ?_
  refine kj_istoren (L' := [(2, .inl (s1 + s0)), (0, .inr (.inr (some v0))), (1, .inl v1), (3, .inl v3)]) hC dX10_stale_71 rfl (by decide) rfl ?_
  refine kj_iinc (v := v3 + 1) (L' := [(3, .inl (v3 + 1)), (2, .inl (s1 + s0)), (0, .inr (.inr (some v0))), (1, .inl v1)]) hC 3 dX10_stale_72 rfl rfl (by decide) rfl ?_
  refine kj_goto (tgt := 26) hC dX10_stale_75 (by decide) ?_
  exact kj_sub [2, 3, 1, 0] rfl (hr26 v0 v1 (s1 + s0) (v3 + 1) h)
set_option maxHeartbeats 4000000 in
set_option maxRecDepth 100000 in
theorem t_X10_stale_b69 {X : KX} (hC : kC X RX10 cX10_stale 4 (some .int)) (hN : (xme X).name = yX10_stale.name) (hT : kT0 X) (hmc : xmc X = 0) (hms : xms X = 0) (hD : xD X = 5) (rc26 : Nat → Int32 → Int32 → Int32 → KH → KO Int32) (hr26 : ∀ (v0 : Nat) (v1 : Int32) (v2 : Int32) (v3 : Int32) (h : KH), kJ X (fun x : Int32 => some (.inl x)) 4 0 0 [(0, .inr (.inr (some v0))), (1, .inl v1), (2, .inl v2), (3, .inl v3)] [] 26 h (rc26 v0 v1 v2 v3 h)) (v0 : Nat) (v1 : Int32) (v3 : Int32) (s0 : Int32) (h : KH) : kJ X (fun x : Int32 => some (.inl x)) 4 0 0 [(0, .inr (.inr (some v0))), (1, .inl v1), (3, .inl v3)] [.inl s0] 69 h (X10_stale_b69 rc26 v0 v1 v3 s0 h) := by
  unfold X10_stale_b69
  refine kj_iconst (v := 0) hC dX10_stale_69 (by decide) ?_
  exact kj_sub [0, 1, 2] rfl (t_X10_stale_b70 hC hN hT hmc hms hD rc26 hr26 v0 v1 v3 0 s0 h)
set_option maxHeartbeats 4000000 in
set_option maxRecDepth 100000 in
theorem t_X10_stale_b26 {X : KX} (hC : kC X RX10 cX10_stale 4 (some .int)) (hN : (xme X).name = yX10_stale.name) (hT : kT0 X) (hmc : xmc X = 0) (hms : xms X = 0) (hD : xD X = 5) (rc26 : Nat → Int32 → Int32 → Int32 → KH → KO Int32) (hr26 : ∀ (v0 : Nat) (v1 : Int32) (v2 : Int32) (v3 : Int32) (h : KH), kJ X (fun x : Int32 => some (.inl x)) 4 0 0 [(0, .inr (.inr (some v0))), (1, .inl v1), (2, .inl v2), (3, .inl v3)] [] 26 h (rc26 v0 v1 v2 v3 h)) (v0 : Nat) (v1 : Int32) (v2 : Int32) (v3 : Int32) (h : KH) : kJ X (fun x : Int32 => some (.inl x)) 4 0 0 [(0, .inr (.inr (some v0))), (1, .inl v1), (2, .inl v2), (3, .inl v3)] [] 26 h (X10_stale_b26 rc26 v0 v1 v2 v3 h) := by
  unfold X10_stale_b26
  refine kj_iloadn hC 3 dX10_stale_26 rfl rfl ?_
  refine kj_aloadn hC 0 dX10_stale_27 rfl rfl ?_
  refine kj_gI (ci := 10) (k := 31) hC dX10_stale_28 kf_X10_217 rfl (fun x1 => ?_)
  refine kj_icmp_ge (tgt := 78) hC dX10_stale_31 (by decide) (fun q1 => ?_) (fun q1 => ?_)
  · refine kj_iloadn hC 2 dX10_stale_78 rfl rfl ?_
    refine kj_fin hmc hms ?_
    exact kj_ireturn hC dX10_stale_79
  · refine kj_iloadn hC 2 dX10_stale_34 rfl rfl ?_
    refine kj_aloadn hC 0 dX10_stale_35 rfl rfl ?_
    refine kj_gN (ci := 10) (k := 32) hC dX10_stale_36 kf_X10_88 rfl (fun a1 => ?_)
    refine kj_iloadn hC 3 dX10_stale_39 rfl rfl ?_
    refine kj_gAI hC dX10_stale_40 (fun x2 => ?_)
    refine kj_iloadn hC 1 dX10_stale_41 rfl rfl ?_
    refine kj_icmp_ne (tgt := 69) hC dX10_stale_42 (by decide) (fun q2 => ?_) (fun q2 => ?_)
    · refine kj_aloadn hC 0 dX10_stale_45 rfl rfl ?_
      refine kj_iloadn hC 1 dX10_stale_46 rfl rfl ?_
      refine kj_aloadn hC 0 dX10_stale_47 rfl rfl ?_
      refine kj_gN (ci := 10) (k := 33) hC dX10_stale_48 kf_X10_91 rfl (fun a2 => ?_)
      refine kj_iloadn hC 3 dX10_stale_51 rfl rfl ?_
      refine kj_gAI hC dX10_stale_52 (fun x3 => ?_)
      refine kj_invV (ci := 10) (q := (RX10, TX10, 36)) (as := [.inl v1, .inl x3]) (rest := [.inl v2]) hC hT dX10_stale_53 kw1327 ky_X10_shows ky2_X10_shows rfl rfl (t_X10_shows v0 v1 x3 h) rfl rfl (Nat.le_of_ble_eq_true rfl) ⟨by rw [hD]; decide, by decide⟩ ⟨by rw [hmc]; exact Nat.le_of_ble_eq_true rfl, by rw [hms]; exact Nat.le_of_ble_eq_true rfl⟩ (fun x4 h1 => ?_)
      refine kj_norm (st' := [.inl x4, .inl v2]) (c' := 0) (z' := 0) rfl rfl rfl ?_
      refine kj_aloadn hC 0 dX10_stale_56 rfl rfl ?_
      refine kj_gN (ci := 10) (k := 34) hC dX10_stale_57 kf_X10_94 rfl (fun a3 => ?_)
      refine kj_iloadn hC 3 dX10_stale_60 rfl rfl ?_
      refine kj_gAI hC dX10_stale_61 (fun x5 => ?_)
      refine kj_icmp_eq (tgt := 69) hC dX10_stale_62 (by decide) (fun q3 => ?_) (fun q3 => ?_)
      · exact kj_sub [0, 1, 3] rfl (t_X10_stale_b69 hC hN hT hmc hms hD rc26 hr26 v0 v1 v3 v2 h1)
      · refine kj_iconst (v := 1) hC dX10_stale_65 (by decide) ?_
        refine kj_goto (tgt := 70) hC dX10_stale_66 (by decide) ?_
        exact kj_sub [0, 1, 3] rfl (t_X10_stale_b70 hC hN hT hmc hms hD rc26 hr26 v0 v1 v3 1 v2 h1)
    · exact kj_sub [0, 1, 3] rfl (t_X10_stale_b69 hC hN hT hmc hms hD rc26 hr26 v0 v1 v3 v2 h)
set_option maxHeartbeats 4000000 in
set_option maxRecDepth 100000 in
theorem t_X10_stale_L26 {X : KX} (hC : kC X RX10 cX10_stale 4 (some .int)) (hN : (xme X).name = yX10_stale.name) (hT : kT0 X) (hmc : xmc X = 0) (hms : xms X = 0) (hD : xD X = 5) : ∀ (n : Nat) (v0 : Nat) (v1 : Int32) (v2 : Int32) (v3 : Int32) (h : KH), kJ X (fun x : Int32 => some (.inl x)) 4 0 0 [(0, .inr (.inr (some v0))), (1, .inl v1), (2, .inl v2), (3, .inl v3)] [] 26 h (X10_stale_L26  n v0 v1 v2 v3 h) := by
  intro n
  induction n with
  | zero => intro v0 v1 v2 v3 h; exact kj_none
  | succ n ih => intro v0 v1 v2 v3 h; exact t_X10_stale_b26 hC hN hT hmc hms hD (X10_stale_L26  n) ih v0 v1 v2 v3 h
set_option maxHeartbeats 4000000 in
set_option maxRecDepth 100000 in
theorem t_X10_stale_b14 {X : KX} (hC : kC X RX10 cX10_stale 4 (some .int)) (hN : (xme X).name = yX10_stale.name) (hT : kT0 X) (hmc : xmc X = 0) (hms : xms X = 0) (hD : xD X = 5) (v0 : Nat) (v1 : Int32) (s0 : Int32) (s1 : Nat) (h : KH) : kJ X (fun x : Int32 => some (.inl x)) 4 0 0 [(0, .inr (.inr (some v0))), (1, .inl v1)] [.inl s0, .inr (.inr (some s1))] 14 h (X10_stale_b14  v0 v1 s0 s1 h) := by
  unfold X10_stale_b14
  refine kj_invV (ci := 10) (q := (RX10, TX10, 36)) (as := [.inl s0]) (rest := []) hC hT dX10_stale_14 kw1089 ky_X10_can ky2_X10_can rfl rfl (t_X10_can s1 s0 h) rfl rfl (Nat.le_of_ble_eq_true rfl) ⟨by rw [hD]; decide, by decide⟩ ⟨by rw [hmc]; exact Nat.le_of_ble_eq_true rfl, by rw [hms]; exact Nat.le_of_ble_eq_true rfl⟩ (fun x1 h1 => ?_)
  refine kj_norm (st' := [.inl x1]) (c' := 0) (z' := 0) rfl rfl rfl ?_
  refine kj_if_ne (tgt := 22) hC dX10_stale_17 (by decide) (fun q1 => ?_) (fun q1 => ?_)
  · refine kj_iconst (v := 0) hC dX10_stale_20 (by decide) ?_
    refine kj_fin hmc hms ?_
    exact kj_ireturn hC dX10_stale_21
  · refine kj_iconst (v := 0) hC dX10_stale_22 (by decide) ?_
    refine kj_istoren (L' := [(2, .inl 0), (0, .inr (.inr (some v0))), (1, .inl v1)]) hC dX10_stale_23 rfl (by decide) rfl ?_
    refine kj_iconst (v := 0) hC dX10_stale_24 (by decide) ?_
    refine kj_istoren (L' := [(3, .inl 0), (2, .inl 0), (0, .inr (.inr (some v0))), (1, .inl v1)]) hC dX10_stale_25 rfl (by decide) rfl ?_
    exact kj_sub [2, 3, 1, 0] rfl (t_X10_stale_L26 hC hN hT hmc hms hD  kF v0 v1 0 0 h1)
set_option maxHeartbeats 4000000 in
set_option maxRecDepth 100000 in
theorem t_X10_stale (p0 : Nat) (p1 : Int32) (h : KH) : kM yX10_stale cX10_stale 4 (some .int) 5 0 0 (fun x : Int32 => some (.inl x)) [.inr (.inr (some p0)), .inl p1] h (f_X10_stale p0 p1 h) := by
  refine kM_of RX10 (by decide) rfl (Nat.le_of_ble_eq_true rfl) [(0, .inr (.inr (some p0))), (1, .inl p1)] rfl (fun X hC hN hT hmc hms hD => ?_)
  unfold f_X10_stale
  refine kj_aloadn hC 0 dX10_stale_0 rfl rfl ?_
  refine kj_aloadn hC 0 dX10_stale_1 rfl rfl ?_
  refine kj_iloadn hC 1 dX10_stale_2 rfl rfl ?_
  refine kj_invV (ci := 10) (q := (RX10, TX10, 36)) (as := [.inl p1]) (rest := [.inr (.inr (some p0))]) hC hT dX10_stale_3 kw1323 ky_X10_isWarrant ky2_X10_isWarrant rfl rfl (t_X10_isWarrant p0 p1 h) rfl rfl (Nat.le_of_ble_eq_true rfl) ⟨by rw [hD]; decide, by decide⟩ ⟨by rw [hmc]; exact Nat.le_of_ble_eq_true rfl, by rw [hms]; exact Nat.le_of_ble_eq_true rfl⟩ (fun x1 h1 => ?_)
  refine kj_norm (st' := [.inl x1, .inr (.inr (some p0))]) (c' := 0) (z' := 0) rfl rfl rfl ?_
  refine kj_if_eq (tgt := 13) hC dX10_stale_6 (by decide) (fun q1 => ?_) (fun q1 => ?_)
  · refine kj_iconst (v := 1) hC dX10_stale_13 (by decide) ?_
    exact kj_sub [0, 1] rfl (t_X10_stale_b14 hC hN hT hmc hms hD  p0 p1 1 p0 h1)
  · refine kj_iconst (v := 0) hC dX10_stale_9 (by decide) ?_
    refine kj_goto (tgt := 14) hC dX10_stale_10 (by decide) ?_
    exact kj_sub [0, 1] rfl (t_X10_stale_b14 hC hN hT hmc hms hD  p0 p1 0 p0 h1)
