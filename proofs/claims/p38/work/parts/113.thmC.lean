set_option maxHeartbeats 4000000 in
set_option maxRecDepth 100000 in
theorem t_X6_nearestOpen_b42 {X : KX} (hC : kC X RX6 cX6_nearestOpen 4 (some .int)) (hN : (xme X).name = yX6_nearestOpen.name) (hT : kT0 X) (hmc : xmc X = 0) (hms : xms X = 0) (hD : xD X = 0) (rc4 : Nat → Nat → Int32 → Int32 → KH → KO Int32) (hr4 : ∀ (v0 : Nat) (v1 : Nat) (v2 : Int32) (v3 : Int32) (h : KH), kJ X (fun x : Int32 => some (.inl x)) 4 0 0 [(0, .inr (.inr (some v0))), (1, .inr (.inr (some v1))), (2, .inl v2), (3, .inl v3)] [] 4 h (rc4 v0 v1 v2 v3 h)) (v0 : Nat) (v1 : Nat) (v2 : Int32) (v3 : Int32) (h : KH) : kJ X (fun x : Int32 => some (.inl x)) 4 0 0 [(0, .inr (.inr (some v0))), (1, .inr (.inr (some v1))), (2, .inl v2), (3, .inl v3)] [] 42 h (X6_nearestOpen_b42 rc4 v0 v1 v2 v3 h) := by
  unfold X6_nearestOpen_b42
  refine kj_iinc (v := v3 + 1) (L' := [(3, .inl (v3 + 1)), (0, .inr (.inr (some v0))), (1, .inr (.inr (some v1))), (2, .inl v2)]) hC 3 dX6_nearestOpen_42 rfl rfl (by decide) rfl ?_
  refine kj_goto (tgt := 4) hC dX6_nearestOpen_45 (by decide) ?_
  exact kj_sub [1, 2, 3, 0] rfl (hr4 v0 v1 v2 (v3 + 1) h)
set_option maxHeartbeats 4000000 in
set_option maxRecDepth 100000 in
theorem t_X6_nearestOpen_b40 {X : KX} (hC : kC X RX6 cX6_nearestOpen 4 (some .int)) (hN : (xme X).name = yX6_nearestOpen.name) (hT : kT0 X) (hmc : xmc X = 0) (hms : xms X = 0) (hD : xD X = 0) (rc4 : Nat → Nat → Int32 → Int32 → KH → KO Int32) (hr4 : ∀ (v0 : Nat) (v1 : Nat) (v2 : Int32) (v3 : Int32) (h : KH), kJ X (fun x : Int32 => some (.inl x)) 4 0 0 [(0, .inr (.inr (some v0))), (1, .inr (.inr (some v1))), (2, .inl v2), (3, .inl v3)] [] 4 h (rc4 v0 v1 v2 v3 h)) (v0 : Nat) (v1 : Nat) (v3 : Int32) (h : KH) : kJ X (fun x : Int32 => some (.inl x)) 4 0 0 [(0, .inr (.inr (some v0))), (1, .inr (.inr (some v1))), (3, .inl v3)] [] 40 h (X6_nearestOpen_b40 rc4 v0 v1 v3 h) := by
  unfold X6_nearestOpen_b40
  refine kj_iloadn hC 2 dX6_nearestOpen_40 rfl rfl ?_
  refine kj_istoren (L' := [(2, .inl v3), (0, .inr (.inr (some v0))), (1, .inr (.inr (some v1))), (3, .inl v3)]) hC dX6_nearestOpen_41 rfl (by decide) rfl ?_
  exact kj_sub [1, 2, 0, 3] rfl (t_X6_nearestOpen_b42 hC hN hT hmc hms hD rc4 hr4 v0 v1 v3 v3 h)
set_option maxHeartbeats 4000000 in
set_option maxRecDepth 100000 in
theorem t_X6_nearestOpen_b4 {X : KX} (hC : kC X RX6 cX6_nearestOpen 4 (some .int)) (hN : (xme X).name = yX6_nearestOpen.name) (hT : kT0 X) (hmc : xmc X = 0) (hms : xms X = 0) (hD : xD X = 0) (rc4 : Nat → Nat → Int32 → Int32 → KH → KO Int32) (hr4 : ∀ (v0 : Nat) (v1 : Nat) (v2 : Int32) (v3 : Int32) (h : KH), kJ X (fun x : Int32 => some (.inl x)) 4 0 0 [(0, .inr (.inr (some v0))), (1, .inr (.inr (some v1))), (2, .inl v2), (3, .inl v3)] [] 4 h (rc4 v0 v1 v2 v3 h)) (v0 : Nat) (v1 : Nat) (v2 : Int32) (v3 : Int32) (h : KH) : kJ X (fun x : Int32 => some (.inl x)) 4 0 0 [(0, .inr (.inr (some v0))), (1, .inr (.inr (some v1))), (2, .inl v2), (3, .inl v3)] [] 4 h (X6_nearestOpen_b4 rc4 v0 v1 v2 v3 h) := by
  unfold X6_nearestOpen_b4
  refine kj_iloadn hC 3 dX6_nearestOpen_4 rfl rfl ?_
  refine kj_bipush (v := 8) hC dX6_nearestOpen_5 (by decide) ?_
  refine kj_icmp_ge (tgt := 48) hC dX6_nearestOpen_7 (by decide) (fun q1 => ?_) (fun q1 => ?_)
  · refine kj_iloadn hC 2 dX6_nearestOpen_48 rfl rfl ?_
    refine kj_fin hmc hms ?_
    exact kj_ireturn hC dX6_nearestOpen_49
  · refine kj_aloadn hC 0 dX6_nearestOpen_10 rfl rfl ?_
    refine kj_gN (ci := 6) (k := 2) hC dX6_nearestOpen_11 kf_X6_19 rfl (fun a1 => ?_)
    refine kj_iloadn hC 3 dX6_nearestOpen_14 rfl rfl ?_
    refine kj_gAZ hC dX6_nearestOpen_15 (fun x1 => ?_)
    refine kj_if_ne (tgt := 42) hC dX6_nearestOpen_16 (by decide) (fun q2 => ?_) (fun q2 => ?_)
    · refine kj_aloadn hC 1 dX6_nearestOpen_19 rfl rfl ?_
      refine kj_iloadn hC 3 dX6_nearestOpen_20 rfl rfl ?_
      refine kj_gAI hC dX6_nearestOpen_21 (fun x2 => ?_)
      refine kj_iconst (v := (-1)) hC dX6_nearestOpen_22 (by decide) ?_
      refine kj_icmp_eq (tgt := 42) hC dX6_nearestOpen_23 (by decide) (fun q3 => ?_) (fun q3 => ?_)
      · exact kj_sub [0, 1, 2, 3] rfl (t_X6_nearestOpen_b42 hC hN hT hmc hms hD rc4 hr4 v0 v1 v2 v3 h)
      · refine kj_iloadn hC 2 dX6_nearestOpen_26 rfl rfl ?_
        refine kj_iconst (v := (-1)) hC dX6_nearestOpen_27 (by decide) ?_
        refine kj_icmp_eq (tgt := 40) hC dX6_nearestOpen_28 (by decide) (fun q4 => ?_) (fun q4 => ?_)
        · exact kj_sub [0, 1, 3] rfl (t_X6_nearestOpen_b40 hC hN hT hmc hms hD rc4 hr4 v0 v1 v3 h)
        · refine kj_aloadn hC 1 dX6_nearestOpen_31 rfl rfl ?_
          refine kj_iloadn hC 3 dX6_nearestOpen_32 rfl rfl ?_
          refine kj_gAI hC dX6_nearestOpen_33 (fun x3 => ?_)
          refine kj_aloadn hC 1 dX6_nearestOpen_34 rfl rfl ?_
          refine kj_iloadn hC 2 dX6_nearestOpen_35 rfl rfl ?_
          refine kj_gAI hC dX6_nearestOpen_36 (fun x4 => ?_)
          refine kj_icmp_ge (tgt := 42) hC dX6_nearestOpen_37 (by decide) (fun q5 => ?_) (fun q5 => ?_)
          · exact kj_sub [0, 1, 2, 3] rfl (t_X6_nearestOpen_b42 hC hN hT hmc hms hD rc4 hr4 v0 v1 v2 v3 h)
          · exact kj_sub [0, 1, 3] rfl (t_X6_nearestOpen_b40 hC hN hT hmc hms hD rc4 hr4 v0 v1 v3 h)
    · exact kj_sub [0, 1, 2, 3] rfl (t_X6_nearestOpen_b42 hC hN hT hmc hms hD rc4 hr4 v0 v1 v2 v3 h)
set_option maxHeartbeats 4000000 in
set_option maxRecDepth 100000 in
theorem t_X6_nearestOpen_L4 {X : KX} (hC : kC X RX6 cX6_nearestOpen 4 (some .int)) (hN : (xme X).name = yX6_nearestOpen.name) (hT : kT0 X) (hmc : xmc X = 0) (hms : xms X = 0) (hD : xD X = 0) : ∀ (n : Nat) (v0 : Nat) (v1 : Nat) (v2 : Int32) (v3 : Int32) (h : KH), kJ X (fun x : Int32 => some (.inl x)) 4 0 0 [(0, .inr (.inr (some v0))), (1, .inr (.inr (some v1))), (2, .inl v2), (3, .inl v3)] [] 4 h (X6_nearestOpen_L4  n v0 v1 v2 v3 h) := by
  intro n
  induction n with
  | zero => intro v0 v1 v2 v3 h; exact kj_none
  | succ n ih => intro v0 v1 v2 v3 h; exact t_X6_nearestOpen_b4 hC hN hT hmc hms hD (X6_nearestOpen_L4  n) ih v0 v1 v2 v3 h
set_option maxHeartbeats 4000000 in
set_option maxRecDepth 100000 in
theorem t_X6_nearestOpen (p0 : Nat) (p1 : Nat) (h : KH) : kM yX6_nearestOpen cX6_nearestOpen 4 (some .int) 0 0 0 (fun x : Int32 => some (.inl x)) [.inr (.inr (some p0)), .inr (.inr (some p1))] h (f_X6_nearestOpen p0 p1 h) := by
  refine kM_of RX6 (by decide) rfl (Nat.le_of_ble_eq_true rfl) [(0, .inr (.inr (some p0))), (1, .inr (.inr (some p1)))] rfl (fun X hC hN hT hmc hms hD => ?_)
  unfold f_X6_nearestOpen
  refine kj_iconst (v := (-1)) hC dX6_nearestOpen_0 (by decide) ?_
  refine kj_istoren (L' := [(2, .inl (-1)), (0, .inr (.inr (some p0))), (1, .inr (.inr (some p1)))]) hC dX6_nearestOpen_1 rfl (by decide) rfl ?_
  refine kj_iconst (v := 0) hC dX6_nearestOpen_2 (by decide) ?_
  refine kj_istoren (L' := [(3, .inl 0), (2, .inl (-1)), (0, .inr (.inr (some p0))), (1, .inr (.inr (some p1)))]) hC dX6_nearestOpen_3 rfl (by decide) rfl ?_
  exact kj_sub [2, 3, 1, 0] rfl (t_X6_nearestOpen_L4 hC hN hT hmc hms hD  kF p0 p1 ((-1)) 0 h)
set_option maxHeartbeats 4000000 in
set_option maxRecDepth 100000 in
theorem t_X6_goOnFrom_b51 {X : KX} (hC : kC X RX6 cX6_goOnFrom 6 none) (hN : (xme X).name = yX6_goOnFrom.name) (hT : kT0 X) (hmc : xmc X = 0) (hms : xms X = 0) (hD : xD X = 0) (rc2 : Nat → Int32 → Nat → Int32 → KH → KO Unit) (hr2 : ∀ (v0 : Nat) (v1 : Int32) (v2 : Nat) (v3 : Int32) (h : KH), kJ X (fun _ : Unit => none) 6 0 0 [(0, .inr (.inr (some v0))), (1, .inl v1), (2, .inr (.inr (some v2))), (3, .inl v3)] [] 2 h (rc2 v0 v1 v2 v3 h)) (v0 : Nat) (v1 : Int32) (v2 : Nat) (v3 : Int32) (h : KH) : kJ X (fun _ : Unit => none) 6 0 0 [(0, .inr (.inr (some v0))), (1, .inl v1), (2, .inr (.inr (some v2))), (3, .inl v3)] [] 51 h (X6_goOnFrom_b51 rc2 v0 v1 v2 v3 h) := by
  unfold X6_goOnFrom_b51
  refine kj_iinc (v := v3 + 1) (L' := [(3, .inl (v3 + 1)), (0, .inr (.inr (some v0))), (1, .inl v1), (2, .inr (.inr (some v2)))]) hC 3 dX6_goOnFrom_51 rfl rfl (by decide) rfl ?_
  refine kj_goto (tgt := 2) hC dX6_goOnFrom_54 (by decide) ?_
  exact kj_sub [1, 2, 3, 0] rfl (hr2 v0 v1 v2 (v3 + 1) h)
set_option maxHeartbeats 4000000 in
set_option maxRecDepth 100000 in
theorem t_X6_goOnFrom_b46 {X : KX} (hC : kC X RX6 cX6_goOnFrom 6 none) (hN : (xme X).name = yX6_goOnFrom.name) (hT : kT0 X) (hmc : xmc X = 0) (hms : xms X = 0) (hD : xD X = 0) (rc2 : Nat → Int32 → Nat → Int32 → KH → KO Unit) (hr2 : ∀ (v0 : Nat) (v1 : Int32) (v2 : Nat) (v3 : Int32) (h : KH), kJ X (fun _ : Unit => none) 6 0 0 [(0, .inr (.inr (some v0))), (1, .inl v1), (2, .inr (.inr (some v2))), (3, .inl v3)] [] 2 h (rc2 v0 v1 v2 v3 h)) (v0 : Nat) (v1 : Int32) (v2 : Nat) (v3 : Int32) (v5 : Int32) (h : KH) : kJ X (fun _ : Unit => none) 6 0 0 [(0, .inr (.inr (some v0))), (1, .inl v1), (2, .inr (.inr (some v2))), (3, .inl v3), (5, .inl v5)] [] 46 h (X6_goOnFrom_b46 rc2 v0 v1 v2 v3 v5 h) := by
  unfold X6_goOnFrom_b46
  refine kj_aloadn hC 2 dX6_goOnFrom_46 rfl rfl ?_
  refine kj_iloadn hC 3 dX6_goOnFrom_47 rfl rfl ?_
  refine kj_iload hC 4 dX6_goOnFrom_48 rfl ?_
  refine kj_pAI hC dX6_goOnFrom_50 (fun h1 => ?_)
  exact kj_sub [0, 1, 2, 3] rfl (t_X6_goOnFrom_b51 hC hN hT hmc hms hD rc2 hr2 v0 v1 v2 v3 h1)
set_option maxHeartbeats 4000000 in
set_option maxRecDepth 100000 in
theorem t_X6_goOnFrom_b2 {X : KX} (hC : kC X RX6 cX6_goOnFrom 6 none) (hN : (xme X).name = yX6_goOnFrom.name) (hT : kT0 X) (hmc : xmc X = 0) (hms : xms X = 0) (hD : xD X = 0) (rc2 : Nat → Int32 → Nat → Int32 → KH → KO Unit) (hr2 : ∀ (v0 : Nat) (v1 : Int32) (v2 : Nat) (v3 : Int32) (h : KH), kJ X (fun _ : Unit => none) 6 0 0 [(0, .inr (.inr (some v0))), (1, .inl v1), (2, .inr (.inr (some v2))), (3, .inl v3)] [] 2 h (rc2 v0 v1 v2 v3 h)) (v0 : Nat) (v1 : Int32) (v2 : Nat) (v3 : Int32) (h : KH) : kJ X (fun _ : Unit => none) 6 0 0 [(0, .inr (.inr (some v0))), (1, .inl v1), (2, .inr (.inr (some v2))), (3, .inl v3)] [] 2 h (X6_goOnFrom_b2 rc2 v0 v1 v2 v3 h) := by
  unfold X6_goOnFrom_b2
  refine kj_iloadn hC 3 dX6_goOnFrom_2 rfl rfl ?_
  refine kj_bipush (v := 8) hC dX6_goOnFrom_3 (by decide) ?_
  refine kj_icmp_ge (tgt := 57) hC dX6_goOnFrom_5 (by decide) (fun q1 => ?_) (fun q1 => ?_)
  · refine kj_fin hmc hms ?_
    exact kj_return hC dX6_goOnFrom_57
  · refine kj_aloadn hC 0 dX6_goOnFrom_8 rfl rfl ?_
    refine kj_gN (ci := 6) (k := 0) hC dX6_goOnFrom_9 kf_X6_11 rfl (fun a1 => ?_)
    refine kj_iloadn hC 1 dX6_goOnFrom_12 rfl rfl ?_
    refine kj_gAN (c := 24) hC dX6_goOnFrom_13 rfl ⟨rfl, rfl⟩ (fun a2 => ?_)
    refine kj_iloadn hC 3 dX6_goOnFrom_14 rfl rfl ?_
    refine kj_gAI hC dX6_goOnFrom_15 (fun x1 => ?_)
    refine kj_istore (L' := [(4, .inl x1), (0, .inr (.inr (some v0))), (1, .inl v1), (2, .inr (.inr (some v2))), (3, .inl v3)]) hC dX6_goOnFrom_16 (by decide) rfl ?_
    refine kj_aloadn hC 3 dX6_goOnFrom_18 rfl rfl ?_
    refine kj_iloadn hC 2 dX6_goOnFrom_19 rfl rfl ?_
    refine kj_gAI hC dX6_goOnFrom_20 (fun x2 => ?_)
    refine kj_iload hC 0 dX6_goOnFrom_21 rfl ?_
    refine kj_iadd hC dX6_goOnFrom_23 ?_
    refine kj_istore (L' := [(5, .inl (x2 + x1)), (4, .inl x1), (0, .inr (.inr (some v0))), (1, .inl v1), (2, .inr (.inr (some v2))), (3, .inl v3)]) hC dX6_goOnFrom_24 (by decide) rfl ?_
    refine kj_iload hC 1 dX6_goOnFrom_26 rfl ?_
    refine kj_if_eq (tgt := 51) hC dX6_goOnFrom_28 (by decide) (fun q2 => ?_) (fun q2 => ?_)
    · exact kj_sub [2, 3, 4, 5] rfl (t_X6_goOnFrom_b51 hC hN hT hmc hms hD rc2 hr2 v0 v1 v2 v3 h)
    · refine kj_aloadn hC 4 dX6_goOnFrom_31 rfl rfl ?_
      refine kj_iloadn hC 5 dX6_goOnFrom_32 rfl rfl ?_
      refine kj_gAI hC dX6_goOnFrom_33 (fun x3 => ?_)
      refine kj_iconst (v := (-1)) hC dX6_goOnFrom_34 (by decide) ?_
      refine kj_icmp_eq (tgt := 46) hC dX6_goOnFrom_35 (by decide) (fun q3 => ?_) (fun q3 => ?_)
      · exact kj_sub [2, 3, 4, 5, 0] rfl (t_X6_goOnFrom_b46 hC hN hT hmc hms hD rc2 hr2 v0 v1 v2 v3 (x2 + x1) h)
      · refine kj_iload hC 0 dX6_goOnFrom_38 rfl ?_
        refine kj_aloadn hC 4 dX6_goOnFrom_40 rfl rfl ?_
        refine kj_iloadn hC 5 dX6_goOnFrom_41 rfl rfl ?_
        refine kj_gAI hC dX6_goOnFrom_42 (fun x4 => ?_)
        refine kj_icmp_ge (tgt := 51) hC dX6_goOnFrom_43 (by decide) (fun q4 => ?_) (fun q4 => ?_)
        · exact kj_sub [2, 3, 4, 5] rfl (t_X6_goOnFrom_b51 hC hN hT hmc hms hD rc2 hr2 v0 v1 v2 v3 h)
        · exact kj_sub [2, 3, 4, 5, 0] rfl (t_X6_goOnFrom_b46 hC hN hT hmc hms hD rc2 hr2 v0 v1 v2 v3 (x2 + x1) h)
set_option maxHeartbeats 4000000 in
set_option maxRecDepth 100000 in
theorem t_X6_goOnFrom_L2 {X : KX} (hC : kC X RX6 cX6_goOnFrom 6 none) (hN : (xme X).name = yX6_goOnFrom.name) (hT : kT0 X) (hmc : xmc X = 0) (hms : xms X = 0) (hD : xD X = 0) : ∀ (n : Nat) (v0 : Nat) (v1 : Int32) (v2 : Nat) (v3 : Int32) (h : KH), kJ X (fun _ : Unit => none) 6 0 0 [(0, .inr (.inr (some v0))), (1, .inl v1), (2, .inr (.inr (some v2))), (3, .inl v3)] [] 2 h (X6_goOnFrom_L2  n v0 v1 v2 v3 h) := by
  intro n
  induction n with
  | zero => intro v0 v1 v2 v3 h; exact kj_none
  | succ n ih => intro v0 v1 v2 v3 h; exact t_X6_goOnFrom_b2 hC hN hT hmc hms hD (X6_goOnFrom_L2  n) ih v0 v1 v2 v3 h
set_option maxHeartbeats 4000000 in
set_option maxRecDepth 100000 in
theorem t_X6_goOnFrom (p0 : Nat) (p1 : Int32) (p2 : Nat) (h : KH) : kM yX6_goOnFrom cX6_goOnFrom 6 none 0 0 0 (fun _ : Unit => none) [.inr (.inr (some p0)), .inl p1, .inr (.inr (some p2))] h (f_X6_goOnFrom p0 p1 p2 h) := by
  refine kM_of RX6 (by decide) rfl (Nat.le_of_ble_eq_true rfl) [(0, .inr (.inr (some p0))), (1, .inl p1), (2, .inr (.inr (some p2)))] rfl (fun X hC hN hT hmc hms hD => ?_)
  unfold f_X6_goOnFrom
  refine kj_iconst (v := 0) hC dX6_goOnFrom_0 (by decide) ?_
  refine kj_istoren (L' := [(3, .inl 0), (0, .inr (.inr (some p0))), (1, .inl p1), (2, .inr (.inr (some p2)))]) hC dX6_goOnFrom_1 rfl (by decide) rfl ?_
  exact kj_sub [1, 2, 3, 0] rfl (t_X6_goOnFrom_L2 hC hN hT hmc hms hD  kF p0 p1 p2 0 h)
set_option maxHeartbeats 4000000 in
set_option maxRecDepth 100000 in
theorem t_X6_measureFrom_b38 {X : KX} (hC : kC X RX6 cX6_measureFrom 5 none) (hN : (xme X).name = yX6_measureFrom.name) (hT : kT0 X) (hmc : xmc X = 0) (hms : xms X = 0) (hD : xD X = 1) (rc38 : Nat → Nat → Int32 → KH → KO Unit) (hr38 : ∀ (v0 : Nat) (v2 : Nat) (v3 : Int32) (h : KH), kJ X (fun _ : Unit => none) 5 0 0 [(0, .inr (.inr (some v0))), (2, .inr (.inr (some v2))), (3, .inl v3)] [] 38 h (rc38 v0 v2 v3 h)) (v0 : Nat) (v2 : Nat) (v3 : Int32) (h : KH) : kJ X (fun _ : Unit => none) 5 0 0 [(0, .inr (.inr (some v0))), (2, .inr (.inr (some v2))), (3, .inl v3)] [] 38 h (X6_measureFrom_b38 rc38 v0 v2 v3 h) := by
  unfold X6_measureFrom_b38
  refine kj_iloadn hC 2 dX6_measureFrom_38 rfl rfl ?_
  refine kj_bipush (v := 8) hC dX6_measureFrom_39 (by decide) ?_
  refine kj_icmp_ge (tgt := 79) hC dX6_measureFrom_41 (by decide) (fun q1 => ?_) (fun q1 => ?_)
  · refine kj_fin hmc hms ?_
    exact kj_return hC dX6_measureFrom_79
  · refine kj_aloadn hC 0 dX6_measureFrom_44 rfl rfl ?_
    refine kj_aloadn hC 1 dX6_measureFrom_45 rfl rfl ?_
    refine kj_invV (ci := 6) (q := (RX6, TX6, 4)) (as := [.inr (.inr (some v2))]) (rest := []) hC hT dX6_measureFrom_46 kw67 ky_X6_nearestOpen ky2_X6_nearestOpen rfl rfl (t_X6_nearestOpen v0 v2 h) rfl rfl (Nat.le_of_ble_eq_true rfl) ⟨by rw [hD]; decide, by decide⟩ ⟨by rw [hmc]; exact Nat.le_of_ble_eq_true rfl, by rw [hms]; exact Nat.le_of_ble_eq_true rfl⟩ (fun x1 h1 => ?_)
    refine kj_norm (st' := [.inl x1]) (c' := 0) (z' := 0) rfl rfl rfl ?_
    refine kj_istore (L' := [(4, .inl x1), (0, .inr (.inr (some v0))), (2, .inr (.inr (some v2))), (3, .inl v3)]) hC dX6_measureFrom_49 (by decide) rfl ?_
    refine kj_iload hC 0 dX6_measureFrom_51 rfl ?_
    refine kj_iconst (v := (-1)) hC dX6_measureFrom_53 (by decide) ?_
    refine kj_icmp_ne (tgt := 58) hC dX6_measureFrom_54 (by decide) (fun q2 => ?_) (fun q2 => ?_)
    · refine kj_fin hmc hms ?_
      exact kj_return hC dX6_measureFrom_57
    · refine kj_aloadn hC 1 dX6_measureFrom_58 rfl rfl ?_
      refine kj_gN (ci := 6) (k := 2) hC dX6_measureFrom_59 kf_X6_19 rfl (fun a1 => ?_)
      refine kj_iload hC 0 dX6_measureFrom_62 rfl ?_
      refine kj_iconst (v := 1) hC dX6_measureFrom_64 (by decide) ?_
      refine kj_pAZ hC dX6_measureFrom_65 (fun h2 => ?_)
      refine kj_aloadn hC 1 dX6_measureFrom_66 rfl rfl ?_
      refine kj_iload hC 0 dX6_measureFrom_67 rfl ?_
      refine kj_aloadn hC 2 dX6_measureFrom_69 rfl rfl ?_
      refine kj_invV (ci := 6) (q := (RX6, TX6, 4)) (as := [.inl x1, .inr (.inr (some v2))]) (rest := []) hC hT dX6_measureFrom_70 kw71 ky_X6_goOnFrom ky2_X6_goOnFrom rfl rfl (t_X6_goOnFrom v0 x1 v2 h2) rfl rfl (Nat.le_of_ble_eq_true rfl) ⟨by rw [hD]; decide, by decide⟩ ⟨by rw [hmc]; exact Nat.le_of_ble_eq_true rfl, by rw [hms]; exact Nat.le_of_ble_eq_true rfl⟩ (fun _ h3 => ?_)
      refine kj_norm (st' := []) (c' := 0) (z' := 0) rfl rfl rfl ?_
      refine kj_iinc (v := v3 + 1) (L' := [(3, .inl (v3 + 1)), (4, .inl x1), (0, .inr (.inr (some v0))), (2, .inr (.inr (some v2)))]) hC 3 dX6_measureFrom_73 rfl rfl (by decide) rfl ?_
      refine kj_goto (tgt := 38) hC dX6_measureFrom_76 (by decide) ?_
      exact kj_sub [2, 3, 0] rfl (hr38 v0 v2 (v3 + 1) h3)
set_option maxHeartbeats 4000000 in
set_option maxRecDepth 100000 in
theorem t_X6_measureFrom_L38 {X : KX} (hC : kC X RX6 cX6_measureFrom 5 none) (hN : (xme X).name = yX6_measureFrom.name) (hT : kT0 X) (hmc : xmc X = 0) (hms : xms X = 0) (hD : xD X = 1) : ∀ (n : Nat) (v0 : Nat) (v2 : Nat) (v3 : Int32) (h : KH), kJ X (fun _ : Unit => none) 5 0 0 [(0, .inr (.inr (some v0))), (2, .inr (.inr (some v2))), (3, .inl v3)] [] 38 h (X6_measureFrom_L38  n v0 v2 v3 h) := by
  intro n
  induction n with
  | zero => intro v0 v2 v3 h; exact kj_none
  | succ n ih => intro v0 v2 v3 h; exact t_X6_measureFrom_b38 hC hN hT hmc hms hD (X6_measureFrom_L38  n) ih v0 v2 v3 h
set_option maxHeartbeats 4000000 in
set_option maxRecDepth 100000 in
theorem t_X6_measureFrom_b9 {X : KX} (hC : kC X RX6 cX6_measureFrom 5 none) (hN : (xme X).name = yX6_measureFrom.name) (hT : kT0 X) (hmc : xmc X = 0) (hms : xms X = 0) (hD : xD X = 1) (rc9 : Nat → Int32 → Nat → Int32 → KH → KO Unit) (hr9 : ∀ (v0 : Nat) (v1 : Int32) (v2 : Nat) (v3 : Int32) (h : KH), kJ X (fun _ : Unit => none) 5 0 0 [(0, .inr (.inr (some v0))), (1, .inl v1), (2, .inr (.inr (some v2))), (3, .inl v3)] [] 9 h (rc9 v0 v1 v2 v3 h)) (v0 : Nat) (v1 : Int32) (v2 : Nat) (v3 : Int32) (h : KH) : kJ X (fun _ : Unit => none) 5 0 0 [(0, .inr (.inr (some v0))), (1, .inl v1), (2, .inr (.inr (some v2))), (3, .inl v3)] [] 9 h (X6_measureFrom_b9 rc9 v0 v1 v2 v3 h) := by
  unfold X6_measureFrom_b9
  refine kj_iloadn hC 3 dX6_measureFrom_9 rfl rfl ?_
  refine kj_bipush (v := 8) hC dX6_measureFrom_10 (by decide) ?_
  refine kj_icmp_ge (tgt := 32) hC dX6_measureFrom_12 (by decide) (fun q1 => ?_) (fun q1 => ?_)
  · refine kj_aloadn hC 2 dX6_measureFrom_32 rfl rfl ?_
    refine kj_iloadn hC 1 dX6_measureFrom_33 rfl rfl ?_
    refine kj_iconst (v := 0) hC dX6_measureFrom_34 (by decide) ?_
    refine kj_pAI hC dX6_measureFrom_35 (fun h1 => ?_)
    refine kj_iconst (v := 0) hC dX6_measureFrom_36 (by decide) ?_
    refine kj_istoren (L' := [(3, .inl 0), (0, .inr (.inr (some v0))), (1, .inl v1), (2, .inr (.inr (some v2)))]) hC dX6_measureFrom_37 rfl (by decide) rfl ?_
    exact kj_sub [1, 3, 0] rfl (t_X6_measureFrom_L38 hC hN hT hmc hms hD  kF v0 v2 0 h1)
  · refine kj_aloadn hC 2 dX6_measureFrom_15 rfl rfl ?_
    refine kj_iloadn hC 3 dX6_measureFrom_16 rfl rfl ?_
    refine kj_iconst (v := (-1)) hC dX6_measureFrom_17 (by decide) ?_
    refine kj_pAI hC dX6_measureFrom_18 (fun h2 => ?_)
    refine kj_aloadn hC 0 dX6_measureFrom_19 rfl rfl ?_
    refine kj_gN (ci := 6) (k := 2) hC dX6_measureFrom_20 kf_X6_19 rfl (fun a1 => ?_)
    refine kj_iloadn hC 3 dX6_measureFrom_23 rfl rfl ?_
    refine kj_iconst (v := 0) hC dX6_measureFrom_24 (by decide) ?_
    refine kj_pAZ hC dX6_measureFrom_25 (fun h3 => ?_)
    refine kj_iinc (v := v3 + 1) (L' := [(3, .inl (v3 + 1)), (0, .inr (.inr (some v0))), (1, .inl v1), (2, .inr (.inr (some v2)))]) hC 3 dX6_measureFrom_26 rfl rfl (by decide) rfl ?_
    refine kj_goto (tgt := 9) hC dX6_measureFrom_29 (by decide) ?_
    exact kj_sub [1, 2, 3, 0] rfl (hr9 v0 v1 v2 (v3 + 1) h3)
set_option maxHeartbeats 4000000 in
set_option maxRecDepth 100000 in
theorem t_X6_measureFrom_L9 {X : KX} (hC : kC X RX6 cX6_measureFrom 5 none) (hN : (xme X).name = yX6_measureFrom.name) (hT : kT0 X) (hmc : xmc X = 0) (hms : xms X = 0) (hD : xD X = 1) : ∀ (n : Nat) (v0 : Nat) (v1 : Int32) (v2 : Nat) (v3 : Int32) (h : KH), kJ X (fun _ : Unit => none) 5 0 0 [(0, .inr (.inr (some v0))), (1, .inl v1), (2, .inr (.inr (some v2))), (3, .inl v3)] [] 9 h (X6_measureFrom_L9  n v0 v1 v2 v3 h) := by
  intro n
  induction n with
  | zero => intro v0 v1 v2 v3 h; exact kj_none
  | succ n ih => intro v0 v1 v2 v3 h; exact t_X6_measureFrom_b9 hC hN hT hmc hms hD (X6_measureFrom_L9  n) ih v0 v1 v2 v3 h
set_option maxHeartbeats 4000000 in
set_option maxRecDepth 100000 in
theorem t_X6_measureFrom (p0 : Nat) (p1 : Int32) (h : KH) : kM yX6_measureFrom cX6_measureFrom 5 none 1 0 0 (fun _ : Unit => none) [.inr (.inr (some p0)), .inl p1] h (f_X6_measureFrom p0 p1 h) := by
  refine kM_of RX6 (by decide) rfl (Nat.le_of_ble_eq_true rfl) [(0, .inr (.inr (some p0))), (1, .inl p1)] rfl (fun X hC hN hT hmc hms hD => ?_)
  unfold f_X6_measureFrom
  refine kj_aloadn hC 0 dX6_measureFrom_0 rfl rfl ?_
  refine kj_gN (ci := 6) (k := 1) hC dX6_measureFrom_1 kf_X6_16 rfl (fun a1 => ?_)
  refine kj_iloadn hC 1 dX6_measureFrom_4 rfl rfl ?_
  refine kj_gAN (c := 24) hC dX6_measureFrom_5 rfl ⟨rfl, rfl⟩ (fun a2 => ?_)
  refine kj_astoren (L' := [(2, .inr (.inr (some a2))), (0, .inr (.inr (some p0))), (1, .inl p1)]) hC dX6_measureFrom_6 rfl (by decide) rfl ?_
  refine kj_iconst (v := 0) hC dX6_measureFrom_7 (by decide) ?_
  refine kj_istoren (L' := [(3, .inl 0), (2, .inr (.inr (some a2))), (0, .inr (.inr (some p0))), (1, .inl p1)]) hC dX6_measureFrom_8 rfl (by decide) rfl ?_
  exact kj_sub [2, 3, 1, 0] rfl (t_X6_measureFrom_L9 hC hN hT hmc hms hD  kF p0 p1 a2 0 h)
set_option maxHeartbeats 4000000 in
set_option maxRecDepth 100000 in
theorem t_X6_measureAll_b2 {X : KX} (hC : kC X RX6 cX6_measureAll 2 none) (hN : (xme X).name = yX6_measureAll.name) (hT : kT0 X) (hmc : xmc X = 0) (hms : xms X = 0) (hD : xD X = 2) (rc2 : Nat → Int32 → KH → KO Unit) (hr2 : ∀ (v0 : Nat) (v1 : Int32) (h : KH), kJ X (fun _ : Unit => none) 2 0 0 [(0, .inr (.inr (some v0))), (1, .inl v1)] [] 2 h (rc2 v0 v1 h)) (v0 : Nat) (v1 : Int32) (h : KH) : kJ X (fun _ : Unit => none) 2 0 0 [(0, .inr (.inr (some v0))), (1, .inl v1)] [] 2 h (X6_measureAll_b2 rc2 v0 v1 h) := by
  unfold X6_measureAll_b2
  refine kj_iloadn hC 1 dX6_measureAll_2 rfl rfl ?_
  refine kj_bipush (v := 8) hC dX6_measureAll_3 (by decide) ?_
  refine kj_icmp_ge (tgt := 19) hC dX6_measureAll_5 (by decide) (fun q1 => ?_) (fun q1 => ?_)
  · refine kj_fin hmc hms ?_
    exact kj_return hC dX6_measureAll_19
  · refine kj_aloadn hC 0 dX6_measureAll_8 rfl rfl ?_
    refine kj_iloadn hC 1 dX6_measureAll_9 rfl rfl ?_
    refine kj_invV (ci := 6) (q := (RX6, TX6, 4)) (as := [.inl v1]) (rest := []) hC hT dX6_measureAll_10 kw63 ky_X6_measureFrom ky2_X6_measureFrom rfl rfl (t_X6_measureFrom v0 v1 h) rfl rfl (Nat.le_of_ble_eq_true rfl) ⟨by rw [hD]; decide, by decide⟩ ⟨by rw [hmc]; exact Nat.le_of_ble_eq_true rfl, by rw [hms]; exact Nat.le_of_ble_eq_true rfl⟩ (fun _ h1 => ?_)
    refine kj_norm (st' := []) (c' := 0) (z' := 0) rfl rfl rfl ?_
    refine kj_iinc (v := v1 + 1) (L' := [(1, .inl (v1 + 1)), (0, .inr (.inr (some v0)))]) hC 1 dX6_measureAll_13 rfl rfl (by decide) rfl ?_
    refine kj_goto (tgt := 2) hC dX6_measureAll_16 (by decide) ?_
    exact kj_sub [1, 0] rfl (hr2 v0 (v1 + 1) h1)
set_option maxHeartbeats 4000000 in
set_option maxRecDepth 100000 in
theorem t_X6_measureAll_L2 {X : KX} (hC : kC X RX6 cX6_measureAll 2 none) (hN : (xme X).name = yX6_measureAll.name) (hT : kT0 X) (hmc : xmc X = 0) (hms : xms X = 0) (hD : xD X = 2) : ∀ (n : Nat) (v0 : Nat) (v1 : Int32) (h : KH), kJ X (fun _ : Unit => none) 2 0 0 [(0, .inr (.inr (some v0))), (1, .inl v1)] [] 2 h (X6_measureAll_L2  n v0 v1 h) := by
  intro n
  induction n with
  | zero => intro v0 v1 h; exact kj_none
  | succ n ih => intro v0 v1 h; exact t_X6_measureAll_b2 hC hN hT hmc hms hD (X6_measureAll_L2  n) ih v0 v1 h
set_option maxHeartbeats 4000000 in
set_option maxRecDepth 100000 in
theorem t_X6_measureAll (p0 : Nat) (h : KH) : kM yX6_measureAll cX6_measureAll 2 none 2 0 0 (fun _ : Unit => none) [.inr (.inr (some p0))] h (f_X6_measureAll p0 h) := by
  refine kM_of RX6 (by decide) rfl (Nat.le_of_ble_eq_true rfl) [(0, .inr (.inr (some p0)))] rfl (fun X hC hN hT hmc hms hD => ?_)
  unfold f_X6_measureAll
  refine kj_iconst (v := 0) hC dX6_measureAll_0 (by decide) ?_
  refine kj_istoren (L' := [(1, .inl 0), (0, .inr (.inr (some p0)))]) hC dX6_measureAll_1 rfl (by decide) rfl ?_
  exact kj_sub [1, 0] rfl (t_X6_measureAll_L2 hC hN hT hmc hms hD  kF p0 0 h)
set_option maxHeartbeats 4000000 in
set_option maxRecDepth 100000 in
theorem t_X6_init (p0 : Nat) (h : KH) : kM yX6_init cX6_init 1 none 3 19 152 (fun _ : Unit => none) [.inr (.inr (some p0))] h (f_X6_init p0 h) := by
  refine kM_of RX6 (by decide) rfl (Nat.le_of_ble_eq_true rfl) [(0, .inr (.inr (some p0)))] rfl (fun X hC hN hT hmc hms hD => ?_)
  unfold f_X6_init
  refine kj_aloadn hC 0 dX6_init_0 rfl rfl ?_
  refine kj_objInit hC dX6_init_1 kw56 kw49 kw50 (Nat.le_of_ble_eq_true rfl) (by rw [hD]; decide) ?_
  refine kj_aloadn hC 0 dX6_init_4 rfl rfl ?_
  refine kj_bipush (v := 8) hC dX6_init_5 (by decide) ?_
  refine kj_bipush (v := 8) hC dX6_init_7 (by decide) ?_
  refine kj_newm (N := 8) (K := 8) hC dX6_init_9 kw57 kw89 ⟨by decide, by decide, by decide⟩ ⟨by decide, by decide, by decide⟩ ⟨by rw [hmc]; exact Nat.le_of_ble_eq_true rfl, by rw [hms]; exact Nat.le_of_ble_eq_true rfl⟩ (fun a1 h1 => ?_)
  refine kj_norm (st' := [.inr (.inr (some a1)), .inr (.inr (some p0))]) (c' := 9) (z' := 72) rfl rfl rfl ?_
  refine kj_pR (ci := 6) (k := 0) hC dX6_init_13 kf_X6_11 (Or.inr ⟨hN, kFF_of (by decide)⟩) rfl (fun h2 => ?_)
  refine kj_aloadn hC 0 dX6_init_16 rfl rfl ?_
  refine kj_bipush (v := 8) hC dX6_init_17 (by decide) ?_
  refine kj_bipush (v := 8) hC dX6_init_19 (by decide) ?_
  refine kj_newm (N := 8) (K := 8) hC dX6_init_21 kw57 kw89 ⟨by decide, by decide, by decide⟩ ⟨by decide, by decide, by decide⟩ ⟨by rw [hmc]; exact Nat.le_of_ble_eq_true rfl, by rw [hms]; exact Nat.le_of_ble_eq_true rfl⟩ (fun a2 h3 => ?_)
  refine kj_norm (st' := [.inr (.inr (some a2)), .inr (.inr (some p0))]) (c' := 18) (z' := 144) rfl rfl rfl ?_
  refine kj_pR (ci := 6) (k := 1) hC dX6_init_25 kf_X6_16 (Or.inr ⟨hN, kFF_of (by decide)⟩) rfl (fun h4 => ?_)
  refine kj_aloadn hC 0 dX6_init_28 rfl rfl ?_
  refine kj_bipush (v := 8) hC dX6_init_29 (by decide) ?_
  refine kj_newa (c := 23) (N := 8) (ty := .boolean) hC dX6_init_31 rfl rfl (fun _ _ => rfl) kw90 ⟨by decide, by decide, by decide⟩ ⟨by rw [hmc]; exact Nat.le_of_ble_eq_true rfl, by rw [hms]; exact Nat.le_of_ble_eq_true rfl⟩ (fun a3 h5 => ?_)
  refine kj_norm (st' := [.inr (.inr (some a3)), .inr (.inr (some p0))]) (c' := 19) (z' := 152) rfl rfl rfl ?_
  refine kj_pR (ci := 6) (k := 2) hC dX6_init_33 kf_X6_19 (Or.inr ⟨hN, kFF_of (by decide)⟩) rfl (fun h6 => ?_)
  refine kj_aloadn hC 0 dX6_init_36 rfl rfl ?_
  refine kj_bipush (v := 30) hC dX6_init_37 (by decide) ?_
  refine kj_pI (ci := 6) (k := 3) hC dX6_init_39 kf_X6_23 (Or.inl (kNF_of (by decide))) rfl ⟨rfl, rfl⟩ (fun h7 => ?_)
  refine kj_aloadn hC 0 dX6_init_42 rfl rfl ?_
  refine kj_invV (ci := 6) (q := (RX6, TX6, 4)) (as := []) (rest := []) hC hT dX6_init_43 kw59 ky_X6_measureAll ky2_X6_measureAll rfl rfl (t_X6_measureAll p0 h7) rfl rfl (Nat.le_of_ble_eq_true rfl) ⟨by rw [hD]; decide, by decide⟩ ⟨by rw [hmc]; exact Nat.le_of_ble_eq_true rfl, by rw [hms]; exact Nat.le_of_ble_eq_true rfl⟩ (fun _ h8 => ?_)
  refine kj_norm (st' := []) (c' := 19) (z' := 152) rfl rfl rfl ?_
  refine kj_fin hmc hms ?_
  exact kj_return hC dX6_init_46
set_option maxHeartbeats 4000000 in
set_option maxRecDepth 100000 in
theorem t_X7_init (p0 : Nat) (h : KH) : kM yX7_init cX7_init 1 none 1 1 6 (fun _ : Unit => none) [.inr (.inr (some p0))] h (f_X7_init p0 h) := by
  refine kM_of RX7 (by decide) rfl (Nat.le_of_ble_eq_true rfl) [(0, .inr (.inr (some p0)))] rfl (fun X hC hN hT hmc hms hD => ?_)
  unfold f_X7_init
  refine kj_aloadn hC 0 dX7_init_0 rfl rfl ?_
  refine kj_objInit hC dX7_init_1 kw96 kw49 kw50 (Nat.le_of_ble_eq_true rfl) (by rw [hD]; decide) ?_
  refine kj_aloadn hC 0 dX7_init_4 rfl rfl ?_
  refine kj_bipush (v := 6) hC dX7_init_5 (by decide) ?_
  refine kj_newa (c := 21) (N := 6) (ty := .int) hC dX7_init_7 rfl rfl (fun _ _ => rfl) kw89 ⟨by decide, by decide, by decide⟩ ⟨by rw [hmc]; exact Nat.le_of_ble_eq_true rfl, by rw [hms]; exact Nat.le_of_ble_eq_true rfl⟩ (fun a1 h1 => ?_)
  refine kj_norm (st' := [.inr (.inr (some a1)), .inr (.inr (some p0))]) (c' := 1) (z' := 6) rfl rfl rfl ?_
  refine kj_pR (ci := 7) (k := 0) hC dX7_init_9 kf_X7_9 (Or.inr ⟨hN, kFF_of (by decide)⟩) rfl (fun h2 => ?_)
  refine kj_aloadn hC 0 dX7_init_12 rfl rfl ?_
  refine kj_iconst (v := 0) hC dX7_init_13 (by decide) ?_
  refine kj_pI (ci := 7) (k := 1) hC dX7_init_14 kf_X7_15 (Or.inl (kNF_of (by decide))) rfl ⟨rfl, rfl⟩ (fun h3 => ?_)
  refine kj_fin hmc hms ?_
  exact kj_return hC dX7_init_17
set_option maxHeartbeats 4000000 in
set_option maxRecDepth 100000 in
theorem t_X2_init (p0 : Nat) (h : KH) : kM yX2_init cX2_init 1 none 1 1 15 (fun _ : Unit => none) [.inr (.inr (some p0))] h (f_X2_init p0 h) := by
  refine kM_of RX2 (by decide) rfl (Nat.le_of_ble_eq_true rfl) [(0, .inr (.inr (some p0)))] rfl (fun X hC hN hT hmc hms hD => ?_)
  unfold f_X2_init
  refine kj_aloadn hC 0 dX2_init_0 rfl rfl ?_
  refine kj_objInit hC dX2_init_1 kw112 kw49 kw50 (Nat.le_of_ble_eq_true rfl) (by rw [hD]; decide) ?_
  refine kj_aloadn hC 0 dX2_init_4 rfl rfl ?_
  refine kj_bipush (v := 15) hC dX2_init_5 (by decide) ?_
  refine kj_newa (c := 21) (N := 15) (ty := .int) hC dX2_init_7 rfl rfl (fun _ _ => rfl) kw89 ⟨by decide, by decide, by decide⟩ ⟨by rw [hmc]; exact Nat.le_of_ble_eq_true rfl, by rw [hms]; exact Nat.le_of_ble_eq_true rfl⟩ (fun a1 h1 => ?_)
  refine kj_norm (st' := [.inr (.inr (some a1)), .inr (.inr (some p0))]) (c' := 1) (z' := 15) rfl rfl rfl ?_
  refine kj_pR (ci := 2) (k := 0) hC dX2_init_9 kf_X2_9 (Or.inr ⟨hN, kFF_of (by decide)⟩) rfl (fun h2 => ?_)
  refine kj_fin hmc hms ?_
  exact kj_return hC dX2_init_12
set_option maxHeartbeats 4000000 in
set_option maxRecDepth 100000 in
theorem t_X3_init (p0 : Nat) (h : KH) : kM yX3_init cX3_init 1 none 1 2 120 (fun _ : Unit => none) [.inr (.inr (some p0))] h (f_X3_init p0 h) := by
  refine kM_of RX3 (by decide) rfl (Nat.le_of_ble_eq_true rfl) [(0, .inr (.inr (some p0)))] rfl (fun X hC hN hT hmc hms hD => ?_)
  unfold f_X3_init
  refine kj_aloadn hC 0 dX3_init_0 rfl rfl ?_
  refine kj_objInit hC dX3_init_1 kw130 kw49 kw50 (Nat.le_of_ble_eq_true rfl) (by rw [hD]; decide) ?_
  refine kj_aloadn hC 0 dX3_init_4 rfl rfl ?_
  refine kj_bipush (v := 60) hC dX3_init_5 (by decide) ?_
  refine kj_newo (c := 26) (N := 60) (C := "Tollkeeper$Reading") hC dX3_init_7 rfl (by decide) kw131 ⟨by decide, by decide, by decide⟩ ⟨by rw [hmc]; exact Nat.le_of_ble_eq_true rfl, by rw [hms]; exact Nat.le_of_ble_eq_true rfl⟩ (fun a1 h1 => ?_)
  refine kj_norm (st' := [.inr (.inr (some a1)), .inr (.inr (some p0))]) (c' := 1) (z' := 60) rfl rfl rfl ?_
  refine kj_pR (ci := 3) (k := 0) hC dX3_init_10 kf_X3_11 (Or.inr ⟨hN, kFF_of (by decide)⟩) rfl (fun h2 => ?_)
  refine kj_aloadn hC 0 dX3_init_13 rfl rfl ?_
  refine kj_bipush (v := 60) hC dX3_init_14 (by decide) ?_
  refine kj_newa (c := 23) (N := 60) (ty := .boolean) hC dX3_init_16 rfl rfl (fun _ _ => rfl) kw90 ⟨by decide, by decide, by decide⟩ ⟨by rw [hmc]; exact Nat.le_of_ble_eq_true rfl, by rw [hms]; exact Nat.le_of_ble_eq_true rfl⟩ (fun a2 h3 => ?_)
  refine kj_norm (st' := [.inr (.inr (some a2)), .inr (.inr (some p0))]) (c' := 2) (z' := 120) rfl rfl rfl ?_
  refine kj_pR (ci := 3) (k := 1) hC dX3_init_18 kf_X3_17 (Or.inr ⟨hN, kFF_of (by decide)⟩) rfl (fun h4 => ?_)
  refine kj_aloadn hC 0 dX3_init_21 rfl rfl ?_
  refine kj_iconst (v := 0) hC dX3_init_22 (by decide) ?_
  refine kj_pI (ci := 3) (k := 2) hC dX3_init_23 kf_X3_21 (Or.inl (kNF_of (by decide))) rfl ⟨rfl, rfl⟩ (fun h5 => ?_)
  refine kj_fin hmc hms ?_
  exact kj_return hC dX3_init_26
set_option maxHeartbeats 4000000 in
set_option maxRecDepth 100000 in
theorem t_X9_init (p0 : Nat) (h : KH) : kM yX9_init cX9_init 1 none 4 35 447 (fun _ : Unit => none) [.inr (.inr (some p0))] h (f_X9_init p0 h) := by
  refine kM_of RX9 (by decide) rfl (Nat.le_of_ble_eq_true rfl) [(0, .inr (.inr (some p0)))] rfl (fun X hC hN hT hmc hms hD => ?_)
  unfold f_X9_init
  refine kj_aloadn hC 0 dX9_init_0 rfl rfl ?_
  refine kj_objInit hC dX9_init_1 kw48 kw49 kw50 (Nat.le_of_ble_eq_true rfl) (by rw [hD]; decide) ?_
  refine kj_aloadn hC 0 dX9_init_4 rfl rfl ?_
  refine kj_new (ci := 6) (q := (RX6, TX6, 4)) hC dX9_init_5 rfl kw51 kw52 kw25 ⟨by rw [hmc]; exact Nat.le_of_ble_eq_true rfl, by rw [hms]; exact Nat.le_of_ble_eq_true rfl⟩ (fun a1 h1 => ?_)
  refine kj_norm (st' := [.inr (.inr (some a1)), .inr (.inr (some p0))]) (c' := 1) (z' := 4) rfl rfl rfl ?_
  refine kj_dup hC dX9_init_8 rfl ?_
  refine kj_invI (as := []) (rest := [.inr (.inr (some a1)), .inr (.inr (some p0))]) hC hT dX9_init_9 kw53 ky_X6_init ky2_X6_init rfl (t_X6_init a1 h1) rfl rfl (Nat.le_of_ble_eq_true rfl) ⟨by rw [hD]; decide, by decide⟩ ⟨by rw [hmc]; exact Nat.le_of_ble_eq_true rfl, by rw [hms]; exact Nat.le_of_ble_eq_true rfl⟩ (fun _ h2 => ?_)
  refine kj_norm (st' := [.inr (.inr (some a1)), .inr (.inr (some p0))]) (c' := 20) (z' := 156) rfl rfl rfl ?_
  refine kj_pR (ci := 9) (k := 0) hC dX9_init_12 kf_X9_10 (Or.inr ⟨hN, kFF_of (by decide)⟩) rfl (fun h3 => ?_)
  refine kj_aloadn hC 0 dX9_init_15 rfl rfl ?_
  refine kj_iconst (v := 4) hC dX9_init_16 (by decide) ?_
  refine kj_newa (c := 21) (N := 4) (ty := .int) hC dX9_init_17 rfl rfl (fun _ _ => rfl) kw89 ⟨by decide, by decide, by decide⟩ ⟨by rw [hmc]; exact Nat.le_of_ble_eq_true rfl, by rw [hms]; exact Nat.le_of_ble_eq_true rfl⟩ (fun a2 h4 => ?_)
  refine kj_norm (st' := [.inr (.inr (some a2)), .inr (.inr (some p0))]) (c' := 21) (z' := 160) rfl rfl rfl ?_
  refine kj_dup hC dX9_init_19 rfl ?_
  refine kj_iconst (v := 0) hC dX9_init_20 (by decide) ?_
  refine kj_iconst (v := 1) hC dX9_init_21 (by decide) ?_
  refine kj_pAI hC dX9_init_22 (fun h5 => ?_)
  refine kj_dup hC dX9_init_23 rfl ?_
  refine kj_iconst (v := 1) hC dX9_init_24 (by decide) ?_
  refine kj_iconst (v := 2) hC dX9_init_25 (by decide) ?_
  refine kj_pAI hC dX9_init_26 (fun h6 => ?_)
  refine kj_dup hC dX9_init_27 rfl ?_
  refine kj_iconst (v := 2) hC dX9_init_28 (by decide) ?_
  refine kj_iconst (v := 4) hC dX9_init_29 (by decide) ?_
  refine kj_pAI hC dX9_init_30 (fun h7 => ?_)
  refine kj_dup hC dX9_init_31 rfl ?_
  refine kj_iconst (v := 3) hC dX9_init_32 (by decide) ?_
  refine kj_bipush (v := 8) hC dX9_init_33 (by decide) ?_
  refine kj_pAI hC dX9_init_35 (fun h8 => ?_)
  refine kj_pR (ci := 9) (k := 1) hC dX9_init_36 kf_X9_16 (Or.inr ⟨hN, kFF_of (by decide)⟩) rfl (fun h9 => ?_)
  refine kj_aloadn hC 0 dX9_init_39 rfl rfl ?_
  refine kj_new (ci := 7) (q := (RX7, TX7, 2)) hC dX9_init_40 rfl kw91 kw92 kw26 ⟨by rw [hmc]; exact Nat.le_of_ble_eq_true rfl, by rw [hms]; exact Nat.le_of_ble_eq_true rfl⟩ (fun a3 h10 => ?_)
  refine kj_norm (st' := [.inr (.inr (some a3)), .inr (.inr (some p0))]) (c' := 22) (z' := 162) rfl rfl rfl ?_
  refine kj_dup hC dX9_init_43 rfl ?_
  refine kj_invIN (as := []) (rest := [.inr (.inr (some a3)), .inr (.inr (some p0))]) hC hT dX9_init_44 kz93 ky_X7_init ky2_X7_init rfl (t_X7_init a3 h10) rfl rfl (Nat.le_of_ble_eq_true rfl) ⟨by rw [hD]; decide, by decide⟩ ⟨by rw [hmc]; exact Nat.le_of_ble_eq_true rfl, by rw [hms]; exact Nat.le_of_ble_eq_true rfl⟩ (fun _ h11 => ?_)
  refine kj_norm (st' := [.inr (.inr (some a3)), .inr (.inr (some p0))]) (c' := 23) (z' := 168) rfl rfl rfl ?_
  refine kj_pR (ci := 9) (k := 2) hC dX9_init_47 kf_X9_23 (Or.inr ⟨hN, kFF_of (by decide)⟩) rfl (fun h12 => ?_)
  refine kj_aloadn hC 0 dX9_init_50 rfl rfl ?_
  refine kj_new (ci := 2) (q := (RX2, TX2, 1)) hC dX9_init_51 rfl kw107 kw108 kw27 ⟨by rw [hmc]; exact Nat.le_of_ble_eq_true rfl, by rw [hms]; exact Nat.le_of_ble_eq_true rfl⟩ (fun a4 h13 => ?_)
  refine kj_norm (st' := [.inr (.inr (some a4)), .inr (.inr (some p0))]) (c' := 24) (z' := 169) rfl rfl rfl ?_
  refine kj_dup hC dX9_init_54 rfl ?_
  refine kj_invIN (as := []) (rest := [.inr (.inr (some a4)), .inr (.inr (some p0))]) hC hT dX9_init_55 kz109 ky_X2_init ky2_X2_init rfl (t_X2_init a4 h13) rfl rfl (Nat.le_of_ble_eq_true rfl) ⟨by rw [hD]; decide, by decide⟩ ⟨by rw [hmc]; exact Nat.le_of_ble_eq_true rfl, by rw [hms]; exact Nat.le_of_ble_eq_true rfl⟩ (fun _ h14 => ?_)
  refine kj_norm (st' := [.inr (.inr (some a4)), .inr (.inr (some p0))]) (c' := 25) (z' := 184) rfl rfl rfl ?_
  refine kj_pR (ci := 9) (k := 3) hC dX9_init_58 kf_X9_30 (Or.inr ⟨hN, kFF_of (by decide)⟩) rfl (fun h15 => ?_)
  refine kj_aloadn hC 0 dX9_init_61 rfl rfl ?_
  refine kj_bipush (v := 10) hC dX9_init_62 (by decide) ?_
  refine kj_newo (c := 25) (N := 10) (C := "Tollkeeper$Plate") hC dX9_init_64 rfl (by decide) kw117 ⟨by decide, by decide, by decide⟩ ⟨by rw [hmc]; exact Nat.le_of_ble_eq_true rfl, by rw [hms]; exact Nat.le_of_ble_eq_true rfl⟩ (fun a5 h16 => ?_)
  refine kj_norm (st' := [.inr (.inr (some a5)), .inr (.inr (some p0))]) (c' := 26) (z' := 194) rfl rfl rfl ?_
  refine kj_pR (ci := 9) (k := 4) hC dX9_init_67 kf_X9_36 (Or.inr ⟨hN, kFF_of (by decide)⟩) rfl (fun h17 => ?_)
  refine kj_aloadn hC 0 dX9_init_70 rfl rfl ?_
  refine kj_bipush (v := 10) hC dX9_init_71 (by decide) ?_
  refine kj_newo (c := 25) (N := 10) (C := "Tollkeeper$Plate") hC dX9_init_73 rfl (by decide) kw117 ⟨by decide, by decide, by decide⟩ ⟨by rw [hmc]; exact Nat.le_of_ble_eq_true rfl, by rw [hms]; exact Nat.le_of_ble_eq_true rfl⟩ (fun a6 h18 => ?_)
  refine kj_norm (st' := [.inr (.inr (some a6)), .inr (.inr (some p0))]) (c' := 27) (z' := 204) rfl rfl rfl ?_
  refine kj_pR (ci := 9) (k := 5) hC dX9_init_76 kf_X9_40 (Or.inr ⟨hN, kFF_of (by decide)⟩) rfl (fun h19 => ?_)
  refine kj_aloadn hC 0 dX9_init_79 rfl rfl ?_
  refine kj_bipush (v := 60) hC dX9_init_80 (by decide) ?_
  refine kj_newo (c := 26) (N := 60) (C := "Tollkeeper$Reading") hC dX9_init_82 rfl (by decide) kw119 ⟨by decide, by decide, by decide⟩ ⟨by rw [hmc]; exact Nat.le_of_ble_eq_true rfl, by rw [hms]; exact Nat.le_of_ble_eq_true rfl⟩ (fun a7 h20 => ?_)
  refine kj_norm (st' := [.inr (.inr (some a7)), .inr (.inr (some p0))]) (c' := 28) (z' := 264) rfl rfl rfl ?_
  refine kj_pR (ci := 9) (k := 6) hC dX9_init_85 kf_X9_45 (Or.inr ⟨hN, kFF_of (by decide)⟩) rfl (fun h21 => ?_)
  refine kj_aloadn hC 0 dX9_init_88 rfl rfl ?_
  refine kj_bipush (v := 8) hC dX9_init_89 (by decide) ?_
  refine kj_newo (c := 27) (N := 8) (C := "Tollkeeper$Warrant") hC dX9_init_91 rfl (by decide) kw121 ⟨by decide, by decide, by decide⟩ ⟨by rw [hmc]; exact Nat.le_of_ble_eq_true rfl, by rw [hms]; exact Nat.le_of_ble_eq_true rfl⟩ (fun a8 h22 => ?_)
  refine kj_norm (st' := [.inr (.inr (some a8)), .inr (.inr (some p0))]) (c' := 29) (z' := 272) rfl rfl rfl ?_
  refine kj_pR (ci := 9) (k := 7) hC dX9_init_94 kf_X9_51 (Or.inr ⟨hN, kFF_of (by decide)⟩) rfl (fun h23 => ?_)
  refine kj_aloadn hC 0 dX9_init_97 rfl rfl ?_
  refine kj_bipush (v := 40) hC dX9_init_98 (by decide) ?_
  refine kj_newo (c := 28) (N := 40) (C := "Tollkeeper$Answer") hC dX9_init_100 rfl (by decide) kw123 ⟨by decide, by decide, by decide⟩ ⟨by rw [hmc]; exact Nat.le_of_ble_eq_true rfl, by rw [hms]; exact Nat.le_of_ble_eq_true rfl⟩ (fun a9 h24 => ?_)
  refine kj_norm (st' := [.inr (.inr (some a9)), .inr (.inr (some p0))]) (c' := 30) (z' := 312) rfl rfl rfl ?_
  refine kj_pR (ci := 9) (k := 8) hC dX9_init_103 kf_X9_57 (Or.inr ⟨hN, kFF_of (by decide)⟩) rfl (fun h25 => ?_)
  refine kj_aloadn hC 0 dX9_init_106 rfl rfl ?_
  refine kj_bipush (v := 6) hC dX9_init_107 (by decide) ?_
  refine kj_newa (c := 22) (N := 6) (ty := .long) hC dX9_init_109 rfl rfl (fun _ _ => rfl) kw145 ⟨by decide, by decide, by decide⟩ ⟨by rw [hmc]; exact Nat.le_of_ble_eq_true rfl, by rw [hms]; exact Nat.le_of_ble_eq_true rfl⟩ (fun a10 h26 => ?_)
  refine kj_norm (st' := [.inr (.inr (some a10)), .inr (.inr (some p0))]) (c' := 31) (z' := 318) rfl rfl rfl ?_
  refine kj_pR (ci := 9) (k := 9) hC dX9_init_111 kf_X9_61 (Or.inr ⟨hN, kFF_of (by decide)⟩) rfl (fun h27 => ?_)
  refine kj_aloadn hC 0 dX9_init_114 rfl rfl ?_
  refine kj_bipush (v := 6) hC dX9_init_115 (by decide) ?_
  refine kj_newa (c := 22) (N := 6) (ty := .long) hC dX9_init_117 rfl rfl (fun _ _ => rfl) kw145 ⟨by decide, by decide, by decide⟩ ⟨by rw [hmc]; exact Nat.le_of_ble_eq_true rfl, by rw [hms]; exact Nat.le_of_ble_eq_true rfl⟩ (fun a11 h28 => ?_)
  refine kj_norm (st' := [.inr (.inr (some a11)), .inr (.inr (some p0))]) (c' := 32) (z' := 324) rfl rfl rfl ?_
  refine kj_pR (ci := 9) (k := 10) hC dX9_init_119 kf_X9_65 (Or.inr ⟨hN, kFF_of (by decide)⟩) rfl (fun h29 => ?_)
  refine kj_aloadn hC 0 dX9_init_122 rfl rfl ?_
  refine kj_new (ci := 3) (q := (RX3, TX3, 3)) hC dX9_init_123 rfl kw125 kw126 kw28 ⟨by rw [hmc]; exact Nat.le_of_ble_eq_true rfl, by rw [hms]; exact Nat.le_of_ble_eq_true rfl⟩ (fun a12 h30 => ?_)
  refine kj_norm (st' := [.inr (.inr (some a12)), .inr (.inr (some p0))]) (c' := 33) (z' := 327) rfl rfl rfl ?_
  refine kj_dup hC dX9_init_126 rfl ?_
  refine kj_invIN (as := []) (rest := [.inr (.inr (some a12)), .inr (.inr (some p0))]) hC hT dX9_init_127 kz127 ky_X3_init ky2_X3_init rfl (t_X3_init a12 h30) rfl rfl (Nat.le_of_ble_eq_true rfl) ⟨by rw [hD]; decide, by decide⟩ ⟨by rw [hmc]; exact Nat.le_of_ble_eq_true rfl, by rw [hms]; exact Nat.le_of_ble_eq_true rfl⟩ (fun _ h31 => ?_)
  refine kj_norm (st' := [.inr (.inr (some a12)), .inr (.inr (some p0))]) (c' := 35) (z' := 447) rfl rfl rfl ?_
  refine kj_pR (ci := 9) (k := 11) hC dX9_init_130 kf_X9_71 (Or.inr ⟨hN, kFF_of (by decide)⟩) rfl (fun h32 => ?_)
  refine kj_aloadn hC 0 dX9_init_133 rfl rfl ?_
  refine kj_iconst (v := 0) hC dX9_init_134 (by decide) ?_
  refine kj_pI (ci := 9) (k := 12) hC dX9_init_135 kf_X9_75 (Or.inl (kNF_of (by decide))) rfl ⟨rfl, rfl⟩ (fun h33 => ?_)
  refine kj_aloadn hC 0 dX9_init_138 rfl rfl ?_
  refine kj_iconst (v := 0) hC dX9_init_139 (by decide) ?_
  refine kj_pI (ci := 9) (k := 13) hC dX9_init_140 kf_X9_79 (Or.inl (kNF_of (by decide))) rfl ⟨rfl, rfl⟩ (fun h34 => ?_)
  refine kj_aloadn hC 0 dX9_init_143 rfl rfl ?_
  refine kj_iconst (v := 0) hC dX9_init_144 (by decide) ?_
  refine kj_pI (ci := 9) (k := 14) hC dX9_init_145 kf_X9_82 (Or.inl (kNF_of (by decide))) rfl ⟨rfl, rfl⟩ (fun h35 => ?_)
  refine kj_aloadn hC 0 dX9_init_148 rfl rfl ?_
  refine kj_iconst (v := 0) hC dX9_init_149 (by decide) ?_
  refine kj_pI (ci := 9) (k := 15) hC dX9_init_150 kf_X9_85 (Or.inl (kNF_of (by decide))) rfl ⟨rfl, rfl⟩ (fun h36 => ?_)
  refine kj_aloadn hC 0 dX9_init_153 rfl rfl ?_
  refine kj_iconst (v := 0) hC dX9_init_154 (by decide) ?_
  refine kj_pI (ci := 9) (k := 16) hC dX9_init_155 kf_X9_88 (Or.inl (kNF_of (by decide))) rfl ⟨rfl, rfl⟩ (fun h37 => ?_)
  refine kj_fin hmc hms ?_
  exact kj_return hC dX9_init_158
set_option maxHeartbeats 4000000 in
set_option maxRecDepth 100000 in
theorem t_X9_isWithin_b15 {X : KX} (hC : kC X RX9 cX9_isWithin 3 (some .boolean)) (hN : (xme X).name = yX9_isWithin.name) (hT : kT0 X) (hmc : xmc X = 0) (hms : xms X = 0) (hD : xD X = 0) (s0 : Int32) (h : KH) : kJ X (fun x : Int32 => some (.inl x)) 3 0 0 [] [.inl s0] 15 h (X9_isWithin_b15  s0 h) := by
  unfold X9_isWithin_b15
  refine kj_fin hmc hms ?_
  exact kj_zreturn hC dX9_isWithin_15
set_option maxHeartbeats 4000000 in
set_option maxRecDepth 100000 in
theorem t_X9_isWithin_b14 {X : KX} (hC : kC X RX9 cX9_isWithin 3 (some .boolean)) (hN : (xme X).name = yX9_isWithin.name) (hT : kT0 X) (hmc : xmc X = 0) (hms : xms X = 0) (hD : xD X = 0)  (h : KH) : kJ X (fun x : Int32 => some (.inl x)) 3 0 0 [] [] 14 h (X9_isWithin_b14   h) := by
  unfold X9_isWithin_b14
  refine kj_iconst (v := 0) hC dX9_isWithin_14 (by decide) ?_
  exact kj_sub [] rfl (t_X9_isWithin_b15 hC hN hT hmc hms hD  0 h)
set_option maxHeartbeats 4000000 in
set_option maxRecDepth 100000 in
theorem t_X9_isWithin (p0 : Int32) (p1 : Int32) (p2 : Int32) (h : KH) : kM yX9_isWithin cX9_isWithin 3 (some .boolean) 0 0 0 (fun x : Int32 => some (.inl x)) [.inl p0, .inl p1, .inl p2] h (f_X9_isWithin p0 p1 p2 h) := by
  refine kM_of RX9 (by decide) rfl (Nat.le_of_ble_eq_true rfl) [(0, .inl p0), (1, .inl p1), (2, .inl p2)] rfl (fun X hC hN hT hmc hms hD => ?_)
  unfold f_X9_isWithin
  refine kj_iloadn hC 1 dX9_isWithin_0 rfl rfl ?_
  refine kj_iloadn hC 0 dX9_isWithin_1 rfl rfl ?_
  refine kj_icmp_gt (tgt := 14) hC dX9_isWithin_2 (by decide) (fun q1 => ?_) (fun q1 => ?_)
  · exact kj_sub [] rfl (t_X9_isWithin_b14 hC hN hT hmc hms hD   h)
  · refine kj_iloadn hC 0 dX9_isWithin_5 rfl rfl ?_
    refine kj_iloadn hC 2 dX9_isWithin_6 rfl rfl ?_
    refine kj_icmp_gt (tgt := 14) hC dX9_isWithin_7 (by decide) (fun q2 => ?_) (fun q2 => ?_)
    · exact kj_sub [] rfl (t_X9_isWithin_b14 hC hN hT hmc hms hD   h)
    · refine kj_iconst (v := 1) hC dX9_isWithin_10 (by decide) ?_
      refine kj_goto (tgt := 15) hC dX9_isWithin_11 (by decide) ?_
      exact kj_sub [] rfl (t_X9_isWithin_b15 hC hN hT hmc hms hD  1 h)
set_option maxHeartbeats 4000000 in
set_option maxRecDepth 100000 in
theorem t_X9_pass (p0 : Nat) (p1 : Int32) (h : KH) : kM yX9_pass cX9_pass 2 (some .int) 6 1 6 (fun x : Int32 => some (.inl x)) [.inr (.inr (some p0)), .inl p1] h (f_X9_pass p0 p1 h) := by
  refine kM_of RX9 (by decide) rfl (Nat.le_of_ble_eq_true rfl) [(0, .inr (.inr (some p0))), (1, .inl p1)] rfl (fun X hC hN hT hmc hms hD => ?_)
  unfold f_X9_pass
  refine kj_iloadn hC 1 dX9_pass_0 rfl rfl ?_
  refine kj_iconst (v := 1) hC dX9_pass_1 (by decide) ?_
  refine kj_sipush (v := 2000) hC dX9_pass_2 (by decide) ?_
  refine kj_invS (as := [.inl p1, .inl 1, .inl 2000]) (rest := []) hC hT dX9_pass_5 kw228 ky_X9_isWithin ky2_X9_isWithin (t_X9_isWithin p1 1 2000 h) rfl rfl (Nat.le_of_ble_eq_true rfl) ⟨by rw [hD]; decide, by decide⟩ ⟨by rw [hmc]; exact Nat.le_of_ble_eq_true rfl, by rw [hms]; exact Nat.le_of_ble_eq_true rfl⟩ (fun x1 h1 => ?_)
  refine kj_norm (st' := [.inl x1]) (c' := 0) (z' := 0) rfl rfl rfl ?_
  refine kj_if_ne (tgt := 21) hC dX9_pass_8 (by decide) (fun q1 => ?_) (fun q1 => ?_)
  · exact kj_throw (tx := "minutes out of range") (e := 1) hC hT (by decide) rfl kw345 kw34 kw355 (List.mem_of_getElem? (i := 665) (by decide +kernel)) dX9_pass_11 dX9_pass_14 dX9_pass_15 dX9_pass_17 dX9_pass_20 (Nat.le_of_ble_eq_true rfl) (by rw [hD]; decide) ⟨by rw [hmc]; exact Nat.le_of_ble_eq_true rfl, by rw [hms]; exact Nat.le_of_ble_eq_true rfl⟩
  · refine kj_aloadn hC 0 dX9_pass_21 rfl rfl ?_
    refine kj_gI (ci := 9) (k := 12) hC dX9_pass_22 kf_X9_75 rfl (fun x2 => ?_)
    refine kj_iloadn hC 1 dX9_pass_25 rfl rfl ?_
    refine kj_iadd hC dX9_pass_26 ?_
    refine kj_ldc (v := 50000) hC dX9_pass_27 kw666 ?_
    refine kj_icmp_le (tgt := 42) hC dX9_pass_29 (by decide) (fun q2 => ?_) (fun q2 => ?_)
    · refine kj_aloadn hC 0 dX9_pass_42 rfl rfl ?_
      refine kj_dup hC dX9_pass_43 rfl ?_
      refine kj_gI (ci := 9) (k := 12) hC dX9_pass_44 kf_X9_75 rfl (fun x3 => ?_)
      refine kj_iloadn hC 1 dX9_pass_47 rfl rfl ?_
      refine kj_iadd hC dX9_pass_48 ?_
      refine kj_pI (ci := 9) (k := 12) hC dX9_pass_49 kf_X9_75 (Or.inl (kNF_of (by decide))) rfl ⟨rfl, rfl⟩ (fun h2 => ?_)
      refine kj_aloadn hC 0 dX9_pass_52 rfl rfl ?_
      refine kj_gI (ci := 9) (k := 12) hC dX9_pass_53 kf_X9_75 rfl (fun x4 => ?_)
      refine kj_widen (k := 1) (n := 6) (Nat.le_of_ble_eq_true rfl) (Nat.le_of_ble_eq_true rfl) ?_
      refine kj_fin hmc hms ?_
      exact kj_ireturn hC dX9_pass_56
    · exact kj_throw (tx := "beyond the last minute") (e := 2) hC hT (by decide) rfl kw304 kw33 kw314 (List.mem_of_getElem? (i := 667) (by decide +kernel)) dX9_pass_32 dX9_pass_35 dX9_pass_36 dX9_pass_38 dX9_pass_41 (Nat.le_of_ble_eq_true rfl) (by rw [hD]; decide) ⟨by rw [hmc]; exact Nat.le_of_ble_eq_true rfl, by rw [hms]; exact Nat.le_of_ble_eq_true rfl⟩
set_option maxHeartbeats 4000000 in
set_option maxRecDepth 100000 in
theorem t_X9_now (p0 : Nat) (h : KH) : kM yX9_now cX9_now 1 (some .int) 0 0 0 (fun x : Int32 => some (.inl x)) [.inr (.inr (some p0))] h (f_X9_now p0 h) := by
  refine kM_of RX9 (by decide) rfl (Nat.le_of_ble_eq_true rfl) [(0, .inr (.inr (some p0)))] rfl (fun X hC hN hT hmc hms hD => ?_)
  unfold f_X9_now
  refine kj_aloadn hC 0 dX9_now_0 rfl rfl ?_
  refine kj_gI (ci := 9) (k := 12) hC dX9_now_1 kf_X9_75 rfl (fun x1 => ?_)
  refine kj_fin hmc hms ?_
  exact kj_ireturn hC dX9_now_4
set_option maxHeartbeats 4000000 in
set_option maxRecDepth 100000 in
theorem t_X9_requireGate (p0 : Int32) (h : KH) : kM yX9_requireGate cX9_requireGate 1 none 6 1 6 (fun _ : Unit => none) [.inl p0] h (f_X9_requireGate p0 h) := by
  refine kM_of RX9 (by decide) rfl (Nat.le_of_ble_eq_true rfl) [(0, .inl p0)] rfl (fun X hC hN hT hmc hms hD => ?_)
  unfold f_X9_requireGate
  refine kj_iloadn hC 0 dX9_requireGate_0 rfl rfl ?_
  refine kj_iconst (v := 0) hC dX9_requireGate_1 (by decide) ?_
  refine kj_bipush (v := 7) hC dX9_requireGate_2 (by decide) ?_
  refine kj_invS (as := [.inl p0, .inl 0, .inl 7]) (rest := []) hC hT dX9_requireGate_4 kw228 ky_X9_isWithin ky2_X9_isWithin (t_X9_isWithin p0 0 7 h) rfl rfl (Nat.le_of_ble_eq_true rfl) ⟨by rw [hD]; decide, by decide⟩ ⟨by rw [hmc]; exact Nat.le_of_ble_eq_true rfl, by rw [hms]; exact Nat.le_of_ble_eq_true rfl⟩ (fun x1 h1 => ?_)
  refine kj_norm (st' := [.inl x1]) (c' := 0) (z' := 0) rfl rfl rfl ?_
  refine kj_if_ne (tgt := 21) hC dX9_requireGate_7 (by decide) (fun q1 => ?_) (fun q1 => ?_)
  · exact kj_throwW (tx := "no such gate") (e := 3) hC hT (by decide) rfl kw231 kw32 kw274 (List.mem_of_getElem? (i := 505) (by decide +kernel)) dX9_requireGate_10 dX9_requireGate_13 dX9_requireGate_14 dX9_requireGate_17 dX9_requireGate_20 (Nat.le_of_ble_eq_true rfl) (by rw [hD]; decide) ⟨by rw [hmc]; exact Nat.le_of_ble_eq_true rfl, by rw [hms]; exact Nat.le_of_ble_eq_true rfl⟩
  · refine kj_widen (k := 1) (n := 6) (Nat.le_of_ble_eq_true rfl) (Nat.le_of_ble_eq_true rfl) ?_
    refine kj_fin hmc hms ?_
    exact kj_return hC dX9_requireGate_21
set_option maxHeartbeats 4000000 in
set_option maxRecDepth 100000 in
theorem t_X6_lengthOf (p0 : Nat) (p1 : Int32) (p2 : Int32) (h : KH) : kM yX6_lengthOf cX6_lengthOf 3 (some .int) 0 0 0 (fun x : Int32 => some (.inl x)) [.inr (.inr (some p0)), .inl p1, .inl p2] h (f_X6_lengthOf p0 p1 p2 h) := by
  refine kM_of RX6 (by decide) rfl (Nat.le_of_ble_eq_true rfl) [(0, .inr (.inr (some p0))), (1, .inl p1), (2, .inl p2)] rfl (fun X hC hN hT hmc hms hD => ?_)
  unfold f_X6_lengthOf
  refine kj_aloadn hC 0 dX6_lengthOf_0 rfl rfl ?_
  refine kj_gN (ci := 6) (k := 0) hC dX6_lengthOf_1 kf_X6_11 rfl (fun a1 => ?_)
  refine kj_iloadn hC 1 dX6_lengthOf_4 rfl rfl ?_
  refine kj_gAN (c := 24) hC dX6_lengthOf_5 rfl ⟨rfl, rfl⟩ (fun a2 => ?_)
  refine kj_iloadn hC 2 dX6_lengthOf_6 rfl rfl ?_
  refine kj_gAI hC dX6_lengthOf_7 (fun x1 => ?_)
  refine kj_fin hmc hms ?_
  exact kj_ireturn hC dX6_lengthOf_8
set_option maxHeartbeats 4000000 in
set_option maxRecDepth 100000 in
theorem t_X6_build (p0 : Nat) (p1 : Int32) (p2 : Int32) (p3 : Int32) (h : KH) : kM yX6_build cX6_build 4 none 3 0 0 (fun _ : Unit => none) [.inr (.inr (some p0)), .inl p1, .inl p2, .inl p3] h (f_X6_build p0 p1 p2 p3 h) := by
  refine kM_of RX6 (by decide) rfl (Nat.le_of_ble_eq_true rfl) [(0, .inr (.inr (some p0))), (1, .inl p1), (2, .inl p2), (3, .inl p3)] rfl (fun X hC hN hT hmc hms hD => ?_)
  unfold f_X6_build
  refine kj_aloadn hC 0 dX6_build_0 rfl rfl ?_
  refine kj_gN (ci := 6) (k := 0) hC dX6_build_1 kf_X6_11 rfl (fun a1 => ?_)
  refine kj_iloadn hC 1 dX6_build_4 rfl rfl ?_
  refine kj_gAN (c := 24) hC dX6_build_5 rfl ⟨rfl, rfl⟩ (fun a2 => ?_)
  refine kj_iloadn hC 2 dX6_build_6 rfl rfl ?_
  refine kj_iloadn hC 3 dX6_build_7 rfl rfl ?_
  refine kj_pAI hC dX6_build_8 (fun h1 => ?_)
  refine kj_aloadn hC 0 dX6_build_9 rfl rfl ?_
  refine kj_gN (ci := 6) (k := 0) hC dX6_build_10 kf_X6_11 rfl (fun a3 => ?_)
  refine kj_iloadn hC 2 dX6_build_13 rfl rfl ?_
  refine kj_gAN (c := 24) hC dX6_build_14 rfl ⟨rfl, rfl⟩ (fun a4 => ?_)
  refine kj_iloadn hC 1 dX6_build_15 rfl rfl ?_
  refine kj_iloadn hC 3 dX6_build_16 rfl rfl ?_
  refine kj_pAI hC dX6_build_17 (fun h2 => ?_)
  refine kj_aloadn hC 0 dX6_build_18 rfl rfl ?_
  refine kj_invV (ci := 6) (q := (RX6, TX6, 4)) (as := []) (rest := []) hC hT dX6_build_19 kw59 ky_X6_measureAll ky2_X6_measureAll rfl rfl (t_X6_measureAll p0 h2) rfl rfl (Nat.le_of_ble_eq_true rfl) ⟨by rw [hD]; decide, by decide⟩ ⟨by rw [hmc]; exact Nat.le_of_ble_eq_true rfl, by rw [hms]; exact Nat.le_of_ble_eq_true rfl⟩ (fun _ h3 => ?_)
  refine kj_norm (st' := []) (c' := 0) (z' := 0) rfl rfl rfl ?_
  refine kj_fin hmc hms ?_
  exact kj_return hC dX6_build_22
set_option maxHeartbeats 4000000 in
set_option maxRecDepth 100000 in
theorem t_X6_between (p0 : Nat) (p1 : Int32) (p2 : Int32) (h : KH) : kM yX6_between cX6_between 3 (some .int) 0 0 0 (fun x : Int32 => some (.inl x)) [.inr (.inr (some p0)), .inl p1, .inl p2] h (f_X6_between p0 p1 p2 h) := by
  refine kM_of RX6 (by decide) rfl (Nat.le_of_ble_eq_true rfl) [(0, .inr (.inr (some p0))), (1, .inl p1), (2, .inl p2)] rfl (fun X hC hN hT hmc hms hD => ?_)
  unfold f_X6_between
  refine kj_aloadn hC 0 dX6_between_0 rfl rfl ?_
  refine kj_gN (ci := 6) (k := 1) hC dX6_between_1 kf_X6_16 rfl (fun a1 => ?_)
  refine kj_iloadn hC 1 dX6_between_4 rfl rfl ?_
  refine kj_gAN (c := 24) hC dX6_between_5 rfl ⟨rfl, rfl⟩ (fun a2 => ?_)
  refine kj_iloadn hC 2 dX6_between_6 rfl rfl ?_
  refine kj_gAI hC dX6_between_7 (fun x1 => ?_)
  refine kj_fin hmc hms ?_
  exact kj_ireturn hC dX6_between_8
set_option maxHeartbeats 4000000 in
set_option maxRecDepth 100000 in
theorem t_X6_isOneTrip_b55 {X : KX} (hC : kC X RX6 cX6_isOneTrip 5 (some .boolean)) (hN : (xme X).name = yX6_isOneTrip.name) (hT : kT0 X) (hmc : xmc X = 0) (hms : xms X = 0) (hD : xD X = 1) (s0 : Int32) (h : KH) : kJ X (fun x : Int32 => some (.inl x)) 5 0 0 [] [.inl s0] 55 h (X6_isOneTrip_b55  s0 h) := by
  unfold X6_isOneTrip_b55
  refine kj_fin hmc hms ?_
  exact kj_zreturn hC dX6_isOneTrip_55
set_option maxHeartbeats 4000000 in
set_option maxRecDepth 100000 in
theorem t_X6_isOneTrip_b54 {X : KX} (hC : kC X RX6 cX6_isOneTrip 5 (some .boolean)) (hN : (xme X).name = yX6_isOneTrip.name) (hT : kT0 X) (hmc : xmc X = 0) (hms : xms X = 0) (hD : xD X = 1)  (h : KH) : kJ X (fun x : Int32 => some (.inl x)) 5 0 0 [] [] 54 h (X6_isOneTrip_b54   h) := by
  unfold X6_isOneTrip_b54
  refine kj_iconst (v := 0) hC dX6_isOneTrip_54 (by decide) ?_
  exact kj_sub [] rfl (t_X6_isOneTrip_b55 hC hN hT hmc hms hD  0 h)
set_option maxHeartbeats 4000000 in
set_option maxRecDepth 100000 in
theorem t_X6_isOneTrip (p0 : Nat) (p1 : Nat) (p2 : Nat) (h : KH) : kM yX6_isOneTrip cX6_isOneTrip 5 (some .boolean) 1 0 0 (fun x : Int32 => some (.inl x)) [.inr (.inr (some p0)), .inr (.inr (some p1)), .inr (.inr (some p2))] h (f_X6_isOneTrip p0 p1 p2 h) := by
  refine kM_of RX6 (by decide) rfl (Nat.le_of_ble_eq_true rfl) [(0, .inr (.inr (some p0))), (1, .inr (.inr (some p1))), (2, .inr (.inr (some p2)))] rfl (fun X hC hN hT hmc hms hD => ?_)
  unfold f_X6_isOneTrip
  refine kj_aloadn hC 0 dX6_isOneTrip_0 rfl rfl ?_
  refine kj_aloadn hC 1 dX6_isOneTrip_1 rfl rfl ?_
  refine kj_gI (ci := 5) (k := 1) hC dX6_isOneTrip_2 kf_X6_30 rfl (fun x1 => ?_)
  refine kj_aloadn hC 2 dX6_isOneTrip_5 rfl rfl ?_
  refine kj_gI (ci := 5) (k := 1) hC dX6_isOneTrip_6 kf_X6_30 rfl (fun x2 => ?_)
  refine kj_invV (ci := 6) (q := (RX6, TX6, 4)) (as := [.inl x1, .inl x2]) (rest := []) hC hT dX6_isOneTrip_9 kw482 ky_X6_between ky2_X6_between rfl rfl (t_X6_between p0 x1 x2 h) rfl rfl (Nat.le_of_ble_eq_true rfl) ⟨by rw [hD]; decide, by decide⟩ ⟨by rw [hmc]; exact Nat.le_of_ble_eq_true rfl, by rw [hms]; exact Nat.le_of_ble_eq_true rfl⟩ (fun x3 h1 => ?_)
  refine kj_norm (st' := [.inl x3]) (c' := 0) (z' := 0) rfl rfl rfl ?_
  refine kj_istoren (L' := [(3, .inl x3), (0, .inr (.inr (some p0))), (1, .inr (.inr (some p1))), (2, .inr (.inr (some p2)))]) hC dX6_isOneTrip_12 rfl (by decide) rfl ?_
  refine kj_aloadn hC 3 dX6_isOneTrip_13 rfl rfl ?_
  refine kj_gI (ci := 5) (k := 2) hC dX6_isOneTrip_14 kf_X6_39 rfl (fun x4 => ?_)
  refine kj_aloadn hC 2 dX6_isOneTrip_17 rfl rfl ?_
  refine kj_gI (ci := 5) (k := 2) hC dX6_isOneTrip_18 kf_X6_39 rfl (fun x5 => ?_)
  refine kj_isub hC dX6_isOneTrip_21 ?_
  refine kj_istore (L' := [(4, .inl (x4 - x5)), (3, .inl x3), (0, .inr (.inr (some p0))), (1, .inr (.inr (some p1))), (2, .inr (.inr (some p2)))]) hC dX6_isOneTrip_22 (by decide) rfl ?_
  refine kj_iloadn hC 1 dX6_isOneTrip_24 rfl rfl ?_
  refine kj_iconst (v := (-1)) hC dX6_isOneTrip_25 (by decide) ?_
  refine kj_icmp_eq (tgt := 54) hC dX6_isOneTrip_26 (by decide) (fun q1 => ?_) (fun q1 => ?_)
  · exact kj_sub [] rfl (t_X6_isOneTrip_b54 hC hN hT hmc hms hD   h1)
  · refine kj_iload hC 0 dX6_isOneTrip_29 rfl ?_
    refine kj_iconst (v := 2) hC dX6_isOneTrip_31 (by decide) ?_
    refine kj_iloadn hC 1 dX6_isOneTrip_32 rfl rfl ?_
    refine kj_imul hC dX6_isOneTrip_33 ?_
    refine kj_aloadn hC 2 dX6_isOneTrip_34 rfl rfl ?_
    refine kj_gI (ci := 6) (k := 3) hC dX6_isOneTrip_35 kf_X6_23 rfl (fun x6 => ?_)
    refine kj_iadd hC dX6_isOneTrip_38 ?_
    refine kj_icmp_gt (tgt := 54) hC dX6_isOneTrip_39 (by decide) (fun q2 => ?_) (fun q2 => ?_)
    · exact kj_sub [] rfl (t_X6_isOneTrip_b54 hC hN hT hmc hms hD   h1)
    · refine kj_iconst (v := 4) hC dX6_isOneTrip_42 (by decide) ?_
      refine kj_iload hC 0 dX6_isOneTrip_43 rfl ?_
      refine kj_imul hC dX6_isOneTrip_45 ?_
      refine kj_iloadn hC 1 dX6_isOneTrip_46 rfl rfl ?_
      refine kj_icmp_lt (tgt := 54) hC dX6_isOneTrip_47 (by decide) (fun q3 => ?_) (fun q3 => ?_)
      · exact kj_sub [] rfl (t_X6_isOneTrip_b54 hC hN hT hmc hms hD   h1)
      · refine kj_iconst (v := 1) hC dX6_isOneTrip_50 (by decide) ?_
        refine kj_goto (tgt := 55) hC dX6_isOneTrip_51 (by decide) ?_
        exact kj_sub [] rfl (t_X6_isOneTrip_b55 hC hN hT hmc hms hD  1 h1)
set_option maxHeartbeats 4000000 in
set_option maxRecDepth 100000 in
theorem t_X3_seeBeginning_b44 {X : KX} (hC : kC X RX3 cX3_seeBeginning 3 none) (hN : (xme X).name = yX3_seeBeginning.name) (hT : kT0 X) (hmc : xmc X = 0) (hms : xms X = 0) (hD : xD X = 2)  (h : KH) : kJ X (fun _ : Unit => none) 3 0 0 [] [] 44 h (X3_seeBeginning_b44   h) := by
  unfold X3_seeBeginning_b44
  refine kj_fin hmc hms ?_
  exact kj_return hC dX3_seeBeginning_44
set_option maxHeartbeats 4000000 in
set_option maxRecDepth 100000 in
theorem t_X3_seeBeginning_b43 {X : KX} (hC : kC X RX3 cX3_seeBeginning 3 none) (hN : (xme X).name = yX3_seeBeginning.name) (hT : kT0 X) (hmc : xmc X = 0) (hms : xms X = 0) (hD : xD X = 2) (s0 : Int32) (s1 : Int32) (s2 : Nat) (h : KH) : kJ X (fun _ : Unit => none) 3 0 0 [] [.inl s0, .inl s1, .inr (.inr (some s2))] 43 h (X3_seeBeginning_b43  s0 s1 s2 h) := by
  unfold X3_seeBeginning_b43
  refine kj_pAZ hC dX3_seeBeginning_43 (fun h1 => ?_)
  exact kj_sub [] rfl (t_X3_seeBeginning_b44 hC hN hT hmc hms hD   h1)
set_option maxHeartbeats 4000000 in
set_option maxRecDepth 100000 in
theorem t_X3_seeBeginning_b38 {X : KX} (hC : kC X RX3 cX3_seeBeginning 3 none) (hN : (xme X).name = yX3_seeBeginning.name) (hT : kT0 X) (hmc : xmc X = 0) (hms : xms X = 0) (hD : xD X = 2) (s0 : Int32) (s1 : Nat) (h : KH) : kJ X (fun _ : Unit => none) 3 0 0 [] [.inl s0, .inr (.inr (some s1))] 38 h (X3_seeBeginning_b38  s0 s1 h) := by
  unfold X3_seeBeginning_b38
  refine kj_iconst (v := 1) hC dX3_seeBeginning_38 (by decide) ?_
  refine kj_goto (tgt := 43) hC dX3_seeBeginning_39 (by decide) ?_
  exact kj_sub [] rfl (t_X3_seeBeginning_b43 hC hN hT hmc hms hD  1 s0 s1 h)
set_option maxHeartbeats 4000000 in
set_option maxRecDepth 100000 in
theorem t_X3_seeBeginning (p0 : Nat) (p1 : Int32) (p2 : Nat) (h : KH) : kM yX3_seeBeginning cX3_seeBeginning 3 none 2 0 0 (fun _ : Unit => none) [.inr (.inr (some p0)), .inl p1, .inr (.inr (some p2))] h (f_X3_seeBeginning p0 p1 p2 h) := by
  refine kM_of RX3 (by decide) rfl (Nat.le_of_ble_eq_true rfl) [(0, .inr (.inr (some p0))), (1, .inl p1), (2, .inr (.inr (some p2)))] rfl (fun X hC hN hT hmc hms hD => ?_)
  unfold f_X3_seeBeginning
  refine kj_iloadn hC 1 dX3_seeBeginning_0 rfl rfl ?_
  refine kj_aloadn hC 0 dX3_seeBeginning_1 rfl rfl ?_
  refine kj_gI (ci := 3) (k := 2) hC dX3_seeBeginning_2 kf_X3_21 rfl (fun x1 => ?_)
  refine kj_icmp_ge (tgt := 44) hC dX3_seeBeginning_5 (by decide) (fun q1 => ?_) (fun q1 => ?_)
  · exact kj_sub [] rfl (t_X3_seeBeginning_b44 hC hN hT hmc hms hD   h)
  · refine kj_aloadn hC 0 dX3_seeBeginning_8 rfl rfl ?_
    refine kj_gN (ci := 3) (k := 1) hC dX3_seeBeginning_9 kf_X3_17 rfl (fun a1 => ?_)
    refine kj_iloadn hC 1 dX3_seeBeginning_12 rfl rfl ?_
    refine kj_iloadn hC 1 dX3_seeBeginning_13 rfl rfl ?_
    refine kj_if_eq (tgt := 38) hC dX3_seeBeginning_14 (by decide) (fun q2 => ?_) (fun q2 => ?_)
    · exact kj_sub [] rfl (t_X3_seeBeginning_b38 hC hN hT hmc hms hD  p1 a1 h)
    · refine kj_aloadn hC 2 dX3_seeBeginning_17 rfl rfl ?_
      refine kj_aloadn hC 0 dX3_seeBeginning_18 rfl rfl ?_
      refine kj_gN (ci := 3) (k := 0) hC dX3_seeBeginning_19 kf_X3_11 rfl (fun a2 => ?_)
      refine kj_iloadn hC 1 dX3_seeBeginning_22 rfl rfl ?_
      refine kj_iconst (v := 1) hC dX3_seeBeginning_23 (by decide) ?_
      refine kj_isub hC dX3_seeBeginning_24 ?_
      refine kj_gAN (c := 26) hC dX3_seeBeginning_25 rfl ⟨rfl, rfl⟩ (fun a3 => ?_)
      refine kj_aloadn hC 0 dX3_seeBeginning_26 rfl rfl ?_
      refine kj_gN (ci := 3) (k := 0) hC dX3_seeBeginning_27 kf_X3_11 rfl (fun a4 => ?_)
      refine kj_iloadn hC 1 dX3_seeBeginning_30 rfl rfl ?_
      refine kj_gAN (c := 26) hC dX3_seeBeginning_31 rfl ⟨rfl, rfl⟩ (fun a5 => ?_)
      refine kj_invV (ci := 6) (q := (RX6, TX6, 4)) (as := [.inr (.inr (some a3)), .inr (.inr (some a5))]) (rest := [.inl p1, .inr (.inr (some a1))]) hC hT dX3_seeBeginning_32 kw478 ky_X6_isOneTrip ky2_X6_isOneTrip rfl rfl (t_X6_isOneTrip p2 a3 a5 h) rfl rfl (Nat.le_of_ble_eq_true rfl) ⟨by rw [hD]; decide, by decide⟩ ⟨by rw [hmc]; exact Nat.le_of_ble_eq_true rfl, by rw [hms]; exact Nat.le_of_ble_eq_true rfl⟩ (fun x2 h1 => ?_)
      refine kj_norm (st' := [.inl x2, .inl p1, .inr (.inr (some a1))]) (c' := 0) (z' := 0) rfl rfl rfl ?_
      refine kj_if_ne (tgt := 42) hC dX3_seeBeginning_35 (by decide) (fun q3 => ?_) (fun q3 => ?_)
      · exact kj_sub [] rfl (t_X3_seeBeginning_b38 hC hN hT hmc hms hD  p1 a1 h1)
      · refine kj_iconst (v := 0) hC dX3_seeBeginning_42 (by decide) ?_
        exact kj_sub [] rfl (t_X3_seeBeginning_b43 hC hN hT hmc hms hD  0 p1 a1 h1)
set_option maxHeartbeats 4000000 in
set_option maxRecDepth 100000 in
theorem t_X3_joinAll_b2 {X : KX} (hC : kC X RX3 cX3_joinAll 3 none) (hN : (xme X).name = yX3_joinAll.name) (hT : kT0 X) (hmc : xmc X = 0) (hms : xms X = 0) (hD : xD X = 3) (rc2 : Nat → Nat → Int32 → KH → KO Unit) (hr2 : ∀ (v0 : Nat) (v1 : Nat) (v2 : Int32) (h : KH), kJ X (fun _ : Unit => none) 3 0 0 [(0, .inr (.inr (some v0))), (1, .inr (.inr (some v1))), (2, .inl v2)] [] 2 h (rc2 v0 v1 v2 h)) (v0 : Nat) (v1 : Nat) (v2 : Int32) (h : KH) : kJ X (fun _ : Unit => none) 3 0 0 [(0, .inr (.inr (some v0))), (1, .inr (.inr (some v1))), (2, .inl v2)] [] 2 h (X3_joinAll_b2 rc2 v0 v1 v2 h) := by
  unfold X3_joinAll_b2
  refine kj_iloadn hC 2 dX3_joinAll_2 rfl rfl ?_
  refine kj_aloadn hC 0 dX3_joinAll_3 rfl rfl ?_
  refine kj_gI (ci := 3) (k := 2) hC dX3_joinAll_4 kf_X3_21 rfl (fun x1 => ?_)
  refine kj_icmp_ge (tgt := 22) hC dX3_joinAll_7 (by decide) (fun q1 => ?_) (fun q1 => ?_)
  · refine kj_fin hmc hms ?_
    exact kj_return hC dX3_joinAll_22
  · refine kj_aloadn hC 0 dX3_joinAll_10 rfl rfl ?_
    refine kj_iloadn hC 2 dX3_joinAll_11 rfl rfl ?_
    refine kj_aloadn hC 1 dX3_joinAll_12 rfl rfl ?_
    refine kj_invV (ci := 3) (q := (RX3, TX3, 3)) (as := [.inl v2, .inr (.inr (some v1))]) (rest := []) hC hT dX3_joinAll_13 kw474 ky_X3_seeBeginning ky2_X3_seeBeginning rfl rfl (t_X3_seeBeginning v0 v2 v1 h) rfl rfl (Nat.le_of_ble_eq_true rfl) ⟨by rw [hD]; decide, by decide⟩ ⟨by rw [hmc]; exact Nat.le_of_ble_eq_true rfl, by rw [hms]; exact Nat.le_of_ble_eq_true rfl⟩ (fun _ h1 => ?_)
    refine kj_norm (st' := []) (c' := 0) (z' := 0) rfl rfl rfl ?_
    refine kj_iinc (v := v2 + 1) (L' := [(2, .inl (v2 + 1)), (0, .inr (.inr (some v0))), (1, .inr (.inr (some v1)))]) hC 2 dX3_joinAll_16 rfl rfl (by decide) rfl ?_
    refine kj_goto (tgt := 2) hC dX3_joinAll_19 (by decide) ?_
    exact kj_sub [1, 2, 0] rfl (hr2 v0 v1 (v2 + 1) h1)
set_option maxHeartbeats 4000000 in
set_option maxRecDepth 100000 in
theorem t_X3_joinAll_L2 {X : KX} (hC : kC X RX3 cX3_joinAll 3 none) (hN : (xme X).name = yX3_joinAll.name) (hT : kT0 X) (hmc : xmc X = 0) (hms : xms X = 0) (hD : xD X = 3) : ∀ (n : Nat) (v0 : Nat) (v1 : Nat) (v2 : Int32) (h : KH), kJ X (fun _ : Unit => none) 3 0 0 [(0, .inr (.inr (some v0))), (1, .inr (.inr (some v1))), (2, .inl v2)] [] 2 h (X3_joinAll_L2  n v0 v1 v2 h) := by
  intro n
  induction n with
  | zero => intro v0 v1 v2 h; exact kj_none
  | succ n ih => intro v0 v1 v2 h; exact t_X3_joinAll_b2 hC hN hT hmc hms hD (X3_joinAll_L2  n) ih v0 v1 v2 h
set_option maxHeartbeats 4000000 in
set_option maxRecDepth 100000 in
theorem t_X3_joinAll (p0 : Nat) (p1 : Nat) (h : KH) : kM yX3_joinAll cX3_joinAll 3 none 3 0 0 (fun _ : Unit => none) [.inr (.inr (some p0)), .inr (.inr (some p1))] h (f_X3_joinAll p0 p1 h) := by
  refine kM_of RX3 (by decide) rfl (Nat.le_of_ble_eq_true rfl) [(0, .inr (.inr (some p0))), (1, .inr (.inr (some p1)))] rfl (fun X hC hN hT hmc hms hD => ?_)
  unfold f_X3_joinAll
  refine kj_iconst (v := 0) hC dX3_joinAll_0 (by decide) ?_
  refine kj_istoren (L' := [(2, .inl 0), (0, .inr (.inr (some p0))), (1, .inr (.inr (some p1)))]) hC dX3_joinAll_1 rfl (by decide) rfl ?_
  exact kj_sub [1, 2, 0] rfl (t_X3_joinAll_L2 hC hN hT hmc hms hD  kF p0 p1 0 h)
set_option maxHeartbeats 4000000 in
set_option maxRecDepth 100000 in
theorem t_X9_joinAllAgain_b2 {X : KX} (hC : kC X RX9 cX9_joinAllAgain 2 none) (hN : (xme X).name = yX9_joinAllAgain.name) (hT : kT0 X) (hmc : xmc X = 0) (hms : xms X = 0) (hD : xD X = 4) (rc2 : Nat → Int32 → KH → KO Unit) (hr2 : ∀ (v0 : Nat) (v1 : Int32) (h : KH), kJ X (fun _ : Unit => none) 2 0 0 [(0, .inr (.inr (some v0))), (1, .inl v1)] [] 2 h (rc2 v0 v1 h)) (v0 : Nat) (v1 : Int32) (h : KH) : kJ X (fun _ : Unit => none) 2 0 0 [(0, .inr (.inr (some v0))), (1, .inl v1)] [] 2 h (X9_joinAllAgain_b2 rc2 v0 v1 h) := by
  unfold X9_joinAllAgain_b2
  refine kj_iloadn hC 1 dX9_joinAllAgain_2 rfl rfl ?_
  refine kj_aloadn hC 0 dX9_joinAllAgain_3 rfl rfl ?_
  refine kj_gI (ci := 9) (k := 13) hC dX9_joinAllAgain_4 kf_X9_79 rfl (fun x1 => ?_)
  refine kj_icmp_ge (tgt := 32) hC dX9_joinAllAgain_7 (by decide) (fun q1 => ?_) (fun q1 => ?_)
  · refine kj_fin hmc hms ?_
    exact kj_return hC dX9_joinAllAgain_32
  · refine kj_aloadn hC 0 dX9_joinAllAgain_10 rfl rfl ?_
    refine kj_gN (ci := 9) (k := 4) hC dX9_joinAllAgain_11 kf_X9_36 rfl (fun a1 => ?_)
    refine kj_iloadn hC 1 dX9_joinAllAgain_14 rfl rfl ?_
    refine kj_gAN (c := 25) hC dX9_joinAllAgain_15 rfl ⟨rfl, rfl⟩ (fun a2 => ?_)
    refine kj_gN (ci := 4) (k := 3) hC dX9_joinAllAgain_16 kf_X9_275 rfl (fun a3 => ?_)
    refine kj_aloadn hC 0 dX9_joinAllAgain_19 rfl rfl ?_
    refine kj_gN (ci := 9) (k := 0) hC dX9_joinAllAgain_20 kf_X9_10 rfl (fun a4 => ?_)
    refine kj_invV (ci := 3) (q := (RX3, TX3, 3)) (as := [.inr (.inr (some a4))]) (rest := []) hC hT dX9_joinAllAgain_23 kw656 ky_X3_joinAll ky2_X3_joinAll rfl rfl (t_X3_joinAll a3 a4 h) rfl rfl (Nat.le_of_ble_eq_true rfl) ⟨by rw [hD]; decide, by decide⟩ ⟨by rw [hmc]; exact Nat.le_of_ble_eq_true rfl, by rw [hms]; exact Nat.le_of_ble_eq_true rfl⟩ (fun _ h1 => ?_)
    refine kj_norm (st' := []) (c' := 0) (z' := 0) rfl rfl rfl ?_
    refine kj_iinc (v := v1 + 1) (L' := [(1, .inl (v1 + 1)), (0, .inr (.inr (some v0)))]) hC 1 dX9_joinAllAgain_26 rfl rfl (by decide) rfl ?_
    refine kj_goto (tgt := 2) hC dX9_joinAllAgain_29 (by decide) ?_
    exact kj_sub [1, 0] rfl (hr2 v0 (v1 + 1) h1)
set_option maxHeartbeats 4000000 in
set_option maxRecDepth 100000 in
theorem t_X9_joinAllAgain_L2 {X : KX} (hC : kC X RX9 cX9_joinAllAgain 2 none) (hN : (xme X).name = yX9_joinAllAgain.name) (hT : kT0 X) (hmc : xmc X = 0) (hms : xms X = 0) (hD : xD X = 4) : ∀ (n : Nat) (v0 : Nat) (v1 : Int32) (h : KH), kJ X (fun _ : Unit => none) 2 0 0 [(0, .inr (.inr (some v0))), (1, .inl v1)] [] 2 h (X9_joinAllAgain_L2  n v0 v1 h) := by
  intro n
  induction n with
  | zero => intro v0 v1 h; exact kj_none
  | succ n ih => intro v0 v1 h; exact t_X9_joinAllAgain_b2 hC hN hT hmc hms hD (X9_joinAllAgain_L2  n) ih v0 v1 h
set_option maxHeartbeats 4000000 in
set_option maxRecDepth 100000 in
theorem t_X9_joinAllAgain (p0 : Nat) (h : KH) : kM yX9_joinAllAgain cX9_joinAllAgain 2 none 4 0 0 (fun _ : Unit => none) [.inr (.inr (some p0))] h (f_X9_joinAllAgain p0 h) := by
  refine kM_of RX9 (by decide) rfl (Nat.le_of_ble_eq_true rfl) [(0, .inr (.inr (some p0)))] rfl (fun X hC hN hT hmc hms hD => ?_)
  unfold f_X9_joinAllAgain
  refine kj_iconst (v := 0) hC dX9_joinAllAgain_0 (by decide) ?_
  refine kj_istoren (L' := [(1, .inl 0), (0, .inr (.inr (some p0)))]) hC dX9_joinAllAgain_1 rfl (by decide) rfl ?_
  exact kj_sub [1, 0] rfl (t_X9_joinAllAgain_L2 hC hN hT hmc hms hD  kF p0 0 h)
set_option maxHeartbeats 4000000 in
set_option maxRecDepth 100000 in
theorem t_X9_road_b24 {X : KX} (hC : kC X RX9 cX9_road 5 (some .int)) (hN : (xme X).name = yX9_road.name) (hT : kT0 X) (hmc : xmc X = 3) (hms : xms X = 18) (hD : xD X = 7)  (h : KH) : kJ X (fun x : Int32 => some (.inl x)) 5 2 12 [] [] 24 h (X9_road_b24   h) := by
  unfold X9_road_b24
  exact kj_throw (tx := "no such road") (e := 1) hC hT (by decide) rfl kw345 kw34 kw355 (List.mem_of_getElem? (i := 643) (by decide +kernel)) dX9_road_24 dX9_road_27 dX9_road_28 dX9_road_30 dX9_road_33 (Nat.le_of_ble_eq_true rfl) (by rw [hD]; decide) ⟨by rw [hmc]; exact Nat.le_of_ble_eq_true rfl, by rw [hms]; exact Nat.le_of_ble_eq_true rfl⟩
set_option maxHeartbeats 4000000 in
set_option maxRecDepth 100000 in
theorem t_X9_road (p0 : Nat) (p1 : Int32) (p2 : Int32) (p3 : Int32) (h : KH) : kM yX9_road cX9_road 5 (some .int) 7 3 18 (fun x : Int32 => some (.inl x)) [.inr (.inr (some p0)), .inl p1, .inl p2, .inl p3] h (f_X9_road p0 p1 p2 p3 h) := by
  refine kM_of RX9 (by decide) rfl (Nat.le_of_ble_eq_true rfl) [(0, .inr (.inr (some p0))), (1, .inl p1), (2, .inl p2), (3, .inl p3)] rfl (fun X hC hN hT hmc hms hD => ?_)
  unfold f_X9_road
  refine kj_iloadn hC 1 dX9_road_0 rfl rfl ?_
  refine kj_invS (as := [.inl p1]) (rest := []) hC hT dX9_road_1 kw502 ky_X9_requireGate ky2_X9_requireGate (t_X9_requireGate p1 h) rfl rfl (Nat.le_of_ble_eq_true rfl) ⟨by rw [hD]; decide, by decide⟩ ⟨by rw [hmc]; exact Nat.le_of_ble_eq_true rfl, by rw [hms]; exact Nat.le_of_ble_eq_true rfl⟩ (fun _ h1 => ?_)
  refine kj_norm (st' := []) (c' := 1) (z' := 6) rfl rfl rfl ?_
  refine kj_iloadn hC 2 dX9_road_4 rfl rfl ?_
  refine kj_invS (as := [.inl p2]) (rest := []) hC hT dX9_road_5 kw502 ky_X9_requireGate ky2_X9_requireGate (t_X9_requireGate p2 h1) rfl rfl (Nat.le_of_ble_eq_true rfl) ⟨by rw [hD]; decide, by decide⟩ ⟨by rw [hmc]; exact Nat.le_of_ble_eq_true rfl, by rw [hms]; exact Nat.le_of_ble_eq_true rfl⟩ (fun _ h2 => ?_)
  refine kj_norm (st' := []) (c' := 2) (z' := 12) rfl rfl rfl ?_
  refine kj_iloadn hC 1 dX9_road_8 rfl rfl ?_
  refine kj_iloadn hC 2 dX9_road_9 rfl rfl ?_
  refine kj_icmp_eq (tgt := 24) hC dX9_road_10 (by decide) (fun q1 => ?_) (fun q1 => ?_)
  · exact kj_sub [] rfl (t_X9_road_b24 hC hN hT hmc hms hD   h2)
  · refine kj_iloadn hC 3 dX9_road_13 rfl rfl ?_
    refine kj_iconst (v := 0) hC dX9_road_14 (by decide) ?_
    refine kj_sipush (v := 200) hC dX9_road_15 (by decide) ?_
    refine kj_invS (as := [.inl p3, .inl 0, .inl 200]) (rest := []) hC hT dX9_road_18 kw228 ky_X9_isWithin ky2_X9_isWithin (t_X9_isWithin p3 0 200 h2) rfl rfl (Nat.le_of_ble_eq_true rfl) ⟨by rw [hD]; decide, by decide⟩ ⟨by rw [hmc]; exact Nat.le_of_ble_eq_true rfl, by rw [hms]; exact Nat.le_of_ble_eq_true rfl⟩ (fun x1 h3 => ?_)
    refine kj_norm (st' := [.inl x1]) (c' := 2) (z' := 12) rfl rfl rfl ?_
    refine kj_if_ne (tgt := 34) hC dX9_road_21 (by decide) (fun q2 => ?_) (fun q2 => ?_)
    · exact kj_sub [] rfl (t_X9_road_b24 hC hN hT hmc hms hD   h3)
    · refine kj_aloadn hC 0 dX9_road_34 rfl rfl ?_
      refine kj_gN (ci := 9) (k := 0) hC dX9_road_35 kf_X9_10 rfl (fun a1 => ?_)
      refine kj_iloadn hC 1 dX9_road_38 rfl rfl ?_
      refine kj_iloadn hC 2 dX9_road_39 rfl rfl ?_
      refine kj_invV (ci := 6) (q := (RX6, TX6, 4)) (as := [.inl p1, .inl p2]) (rest := []) hC hT dX9_road_40 kw644 ky_X6_lengthOf ky2_X6_lengthOf rfl rfl (t_X6_lengthOf a1 p1 p2 h3) rfl rfl (Nat.le_of_ble_eq_true rfl) ⟨by rw [hD]; decide, by decide⟩ ⟨by rw [hmc]; exact Nat.le_of_ble_eq_true rfl, by rw [hms]; exact Nat.le_of_ble_eq_true rfl⟩ (fun x2 h4 => ?_)
      refine kj_norm (st' := [.inl x2]) (c' := 2) (z' := 12) rfl rfl rfl ?_
      refine kj_istore (L' := [(4, .inl x2), (0, .inr (.inr (some p0))), (1, .inl p1), (2, .inl p2), (3, .inl p3)]) hC dX9_road_43 (by decide) rfl ?_
      refine kj_aloadn hC 1 dX9_road_45 rfl rfl ?_
      refine kj_gN (ci := 9) (k := 0) hC dX9_road_46 kf_X9_10 rfl (fun a2 => ?_)
      refine kj_iloadn hC 2 dX9_road_49 rfl rfl ?_
      refine kj_iloadn hC 3 dX9_road_50 rfl rfl ?_
      refine kj_iloadn hC 4 dX9_road_51 rfl rfl ?_
      refine kj_invV (ci := 6) (q := (RX6, TX6, 4)) (as := [.inl p1, .inl p2, .inl p3]) (rest := []) hC hT dX9_road_52 kw648 ky_X6_build ky2_X6_build rfl rfl (t_X6_build a2 p1 p2 p3 h4) rfl rfl (Nat.le_of_ble_eq_true rfl) ⟨by rw [hD]; decide, by decide⟩ ⟨by rw [hmc]; exact Nat.le_of_ble_eq_true rfl, by rw [hms]; exact Nat.le_of_ble_eq_true rfl⟩ (fun _ h5 => ?_)
      refine kj_norm (st' := []) (c' := 2) (z' := 12) rfl rfl rfl ?_
      refine kj_aloadn hC 1 dX9_road_55 rfl rfl ?_
      refine kj_invV (ci := 9) (q := (RX9, TX9, 17)) (as := []) (rest := []) hC hT dX9_road_56 kw652 ky_X9_joinAllAgain ky2_X9_joinAllAgain rfl rfl (t_X9_joinAllAgain p0 h5) rfl rfl (Nat.le_of_ble_eq_true rfl) ⟨by rw [hD]; decide, by decide⟩ ⟨by rw [hmc]; exact Nat.le_of_ble_eq_true rfl, by rw [hms]; exact Nat.le_of_ble_eq_true rfl⟩ (fun _ h6 => ?_)
      refine kj_norm (st' := []) (c' := 2) (z' := 12) rfl rfl rfl ?_
      refine kj_iload hC 0 dX9_road_59 rfl ?_
      refine kj_widen (k := 3) (n := 18) (Nat.le_of_ble_eq_true rfl) (Nat.le_of_ble_eq_true rfl) ?_
      refine kj_fin hmc hms ?_
      exact kj_ireturn hC dX9_road_61
set_option maxHeartbeats 4000000 in
set_option maxRecDepth 100000 in
theorem t_X9_distance (p0 : Nat) (p1 : Int32) (p2 : Int32) (h : KH) : kM yX9_distance cX9_distance 3 (some .int) 7 2 12 (fun x : Int32 => some (.inl x)) [.inr (.inr (some p0)), .inl p1, .inl p2] h (f_X9_distance p0 p1 p2 h) := by
  refine kM_of RX9 (by decide) rfl (Nat.le_of_ble_eq_true rfl) [(0, .inr (.inr (some p0))), (1, .inl p1), (2, .inl p2)] rfl (fun X hC hN hT hmc hms hD => ?_)
  unfold f_X9_distance
  refine kj_iloadn hC 1 dX9_distance_0 rfl rfl ?_
  refine kj_invS (as := [.inl p1]) (rest := []) hC hT dX9_distance_1 kw502 ky_X9_requireGate ky2_X9_requireGate (t_X9_requireGate p1 h) rfl rfl (Nat.le_of_ble_eq_true rfl) ⟨by rw [hD]; decide, by decide⟩ ⟨by rw [hmc]; exact Nat.le_of_ble_eq_true rfl, by rw [hms]; exact Nat.le_of_ble_eq_true rfl⟩ (fun _ h1 => ?_)
  refine kj_norm (st' := []) (c' := 1) (z' := 6) rfl rfl rfl ?_
  refine kj_iloadn hC 2 dX9_distance_4 rfl rfl ?_
  refine kj_invS (as := [.inl p2]) (rest := []) hC hT dX9_distance_5 kw502 ky_X9_requireGate ky2_X9_requireGate (t_X9_requireGate p2 h1) rfl rfl (Nat.le_of_ble_eq_true rfl) ⟨by rw [hD]; decide, by decide⟩ ⟨by rw [hmc]; exact Nat.le_of_ble_eq_true rfl, by rw [hms]; exact Nat.le_of_ble_eq_true rfl⟩ (fun _ h2 => ?_)
  refine kj_norm (st' := []) (c' := 2) (z' := 12) rfl rfl rfl ?_
  refine kj_aloadn hC 0 dX9_distance_8 rfl rfl ?_
  refine kj_gN (ci := 9) (k := 0) hC dX9_distance_9 kf_X9_10 rfl (fun a1 => ?_)
  refine kj_iloadn hC 1 dX9_distance_12 rfl rfl ?_
  refine kj_iloadn hC 2 dX9_distance_13 rfl rfl ?_
  refine kj_invV (ci := 6) (q := (RX6, TX6, 4)) (as := [.inl p1, .inl p2]) (rest := []) hC hT dX9_distance_14 kw733 ky_X6_between ky2_X6_between rfl rfl (t_X6_between a1 p1 p2 h2) rfl rfl (Nat.le_of_ble_eq_true rfl) ⟨by rw [hD]; decide, by decide⟩ ⟨by rw [hmc]; exact Nat.le_of_ble_eq_true rfl, by rw [hms]; exact Nat.le_of_ble_eq_true rfl⟩ (fun x1 h3 => ?_)
  refine kj_norm (st' := [.inl x1]) (c' := 2) (z' := 12) rfl rfl rfl ?_
  refine kj_fin hmc hms ?_
  exact kj_ireturn hC dX9_distance_17
set_option maxHeartbeats 4000000 in
set_option maxRecDepth 100000 in
theorem t_X9_setPause (p0 : Nat) (p1 : Int32) (h : KH) : kM yX9_setPause cX9_setPause 3 (some .int) 6 1 6 (fun x : Int32 => some (.inl x)) [.inr (.inr (some p0)), .inl p1] h (f_X9_setPause p0 p1 h) := by
  refine kM_of RX9 (by decide) rfl (Nat.le_of_ble_eq_true rfl) [(0, .inr (.inr (some p0))), (1, .inl p1)] rfl (fun X hC hN hT hmc hms hD => ?_)
  unfold f_X9_setPause
  refine kj_iloadn hC 1 dX9_setPause_0 rfl rfl ?_
  refine kj_iconst (v := 0) hC dX9_setPause_1 (by decide) ?_
  refine kj_sipush (v := 500) hC dX9_setPause_2 (by decide) ?_
  refine kj_invS (as := [.inl p1, .inl 0, .inl 500]) (rest := []) hC hT dX9_setPause_5 kw228 ky_X9_isWithin ky2_X9_isWithin (t_X9_isWithin p1 0 500 h) rfl rfl (Nat.le_of_ble_eq_true rfl) ⟨by rw [hD]; decide, by decide⟩ ⟨by rw [hmc]; exact Nat.le_of_ble_eq_true rfl, by rw [hms]; exact Nat.le_of_ble_eq_true rfl⟩ (fun x1 h1 => ?_)
  refine kj_norm (st' := [.inl x1]) (c' := 0) (z' := 0) rfl rfl rfl ?_
  refine kj_if_ne (tgt := 21) hC dX9_setPause_8 (by decide) (fun q1 => ?_) (fun q1 => ?_)
  · exact kj_throw (tx := "pause out of range") (e := 1) hC hT (by decide) rfl kw345 kw34 kw355 (List.mem_of_getElem? (i := 686) (by decide +kernel)) dX9_setPause_11 dX9_setPause_14 dX9_setPause_15 dX9_setPause_17 dX9_setPause_20 (Nat.le_of_ble_eq_true rfl) (by rw [hD]; decide) ⟨by rw [hmc]; exact Nat.le_of_ble_eq_true rfl, by rw [hms]; exact Nat.le_of_ble_eq_true rfl⟩
  · refine kj_aloadn hC 0 dX9_setPause_21 rfl rfl ?_
    refine kj_gN (ci := 9) (k := 0) hC dX9_setPause_22 kf_X9_10 rfl (fun a1 => ?_)
    refine kj_gI (ci := 6) (k := 3) hC dX9_setPause_25 kf_X9_130 rfl (fun x2 => ?_)
    refine kj_istoren (L' := [(2, .inl x2), (0, .inr (.inr (some p0))), (1, .inl p1)]) hC dX9_setPause_28 rfl (by decide) rfl ?_
    refine kj_aloadn hC 1 dX9_setPause_29 rfl rfl ?_
    refine kj_gN (ci := 9) (k := 0) hC dX9_setPause_30 kf_X9_10 rfl (fun a2 => ?_)
    refine kj_iloadn hC 2 dX9_setPause_33 rfl rfl ?_
    refine kj_pI (ci := 6) (k := 3) hC dX9_setPause_34 kf_X9_130 (Or.inl (kNF_of (by decide))) rfl ⟨rfl, rfl⟩ (fun h2 => ?_)
    refine kj_aloadn hC 1 dX9_setPause_37 rfl rfl ?_
    refine kj_invV (ci := 9) (q := (RX9, TX9, 17)) (as := []) (rest := []) hC hT dX9_setPause_38 kw652 ky_X9_joinAllAgain ky2_X9_joinAllAgain rfl rfl (t_X9_joinAllAgain p0 h2) rfl rfl (Nat.le_of_ble_eq_true rfl) ⟨by rw [hD]; decide, by decide⟩ ⟨by rw [hmc]; exact Nat.le_of_ble_eq_true rfl, by rw [hms]; exact Nat.le_of_ble_eq_true rfl⟩ (fun _ h3 => ?_)
    refine kj_norm (st' := []) (c' := 0) (z' := 0) rfl rfl rfl ?_
    refine kj_iloadn hC 0 dX9_setPause_41 rfl rfl ?_
    refine kj_widen (k := 1) (n := 6) (Nat.le_of_ble_eq_true rfl) (Nat.le_of_ble_eq_true rfl) ?_
    refine kj_fin hmc hms ?_
    exact kj_ireturn hC dX9_setPause_42
set_option maxHeartbeats 4000000 in
set_option maxRecDepth 100000 in
theorem t_X9_requireClass (p0 : Int32) (h : KH) : kM yX9_requireClass cX9_requireClass 1 none 6 1 6 (fun _ : Unit => none) [.inl p0] h (f_X9_requireClass p0 h) := by
  refine kM_of RX9 (by decide) rfl (Nat.le_of_ble_eq_true rfl) [(0, .inl p0)] rfl (fun X hC hN hT hmc hms hD => ?_)
  unfold f_X9_requireClass
  refine kj_iloadn hC 0 dX9_requireClass_0 rfl rfl ?_
  refine kj_iconst (v := 0) hC dX9_requireClass_1 (by decide) ?_
  refine kj_iconst (v := 3) hC dX9_requireClass_2 (by decide) ?_
  refine kj_invS (as := [.inl p0, .inl 0, .inl 3]) (rest := []) hC hT dX9_requireClass_3 kw228 ky_X9_isWithin ky2_X9_isWithin (t_X9_isWithin p0 0 3 h) rfl rfl (Nat.le_of_ble_eq_true rfl) ⟨by rw [hD]; decide, by decide⟩ ⟨by rw [hmc]; exact Nat.le_of_ble_eq_true rfl, by rw [hms]; exact Nat.le_of_ble_eq_true rfl⟩ (fun x1 h1 => ?_)
  refine kj_norm (st' := [.inl x1]) (c' := 0) (z' := 0) rfl rfl rfl ?_
  refine kj_if_ne (tgt := 20) hC dX9_requireClass_6 (by decide) (fun q1 => ?_) (fun q1 => ?_)
  · exact kj_throwW (tx := "no such class") (e := 1) hC hT (by decide) rfl kw345 kw34 kw355 (List.mem_of_getElem? (i := 354) (by decide +kernel)) dX9_requireClass_9 dX9_requireClass_12 dX9_requireClass_13 dX9_requireClass_16 dX9_requireClass_19 (Nat.le_of_ble_eq_true rfl) (by rw [hD]; decide) ⟨by rw [hmc]; exact Nat.le_of_ble_eq_true rfl, by rw [hms]; exact Nat.le_of_ble_eq_true rfl⟩
  · refine kj_widen (k := 1) (n := 6) (Nat.le_of_ble_eq_true rfl) (Nat.le_of_ble_eq_true rfl) ?_
    refine kj_fin hmc hms ?_
    exact kj_return hC dX9_requireClass_20
set_option maxHeartbeats 4000000 in
set_option maxRecDepth 100000 in
theorem t_X9_setRate (p0 : Nat) (p1 : Int32) (p2 : Int32) (h : KH) : kM yX9_setRate cX9_setRate 4 (some .int) 7 2 12 (fun x : Int32 => some (.inl x)) [.inr (.inr (some p0)), .inl p1, .inl p2] h (f_X9_setRate p0 p1 p2 h) := by
  refine kM_of RX9 (by decide) rfl (Nat.le_of_ble_eq_true rfl) [(0, .inr (.inr (some p0))), (1, .inl p1), (2, .inl p2)] rfl (fun X hC hN hT hmc hms hD => ?_)
  unfold f_X9_setRate
  refine kj_iloadn hC 1 dX9_setRate_0 rfl rfl ?_
  refine kj_invS (as := [.inl p1]) (rest := []) hC hT dX9_setRate_1 kw342 ky_X9_requireClass ky2_X9_requireClass (t_X9_requireClass p1 h) rfl rfl (Nat.le_of_ble_eq_true rfl) ⟨by rw [hD]; decide, by decide⟩ ⟨by rw [hmc]; exact Nat.le_of_ble_eq_true rfl, by rw [hms]; exact Nat.le_of_ble_eq_true rfl⟩ (fun _ h1 => ?_)
  refine kj_norm (st' := []) (c' := 1) (z' := 6) rfl rfl rfl ?_
  refine kj_iloadn hC 2 dX9_setRate_4 rfl rfl ?_
  refine kj_iconst (v := 0) hC dX9_setRate_5 (by decide) ?_
  refine kj_bipush (v := 50) hC dX9_setRate_6 (by decide) ?_
  refine kj_invS (as := [.inl p2, .inl 0, .inl 50]) (rest := []) hC hT dX9_setRate_8 kw228 ky_X9_isWithin ky2_X9_isWithin (t_X9_isWithin p2 0 50 h1) rfl rfl (Nat.le_of_ble_eq_true rfl) ⟨by rw [hD]; decide, by decide⟩ ⟨by rw [hmc]; exact Nat.le_of_ble_eq_true rfl, by rw [hms]; exact Nat.le_of_ble_eq_true rfl⟩ (fun x1 h2 => ?_)
  refine kj_norm (st' := [.inl x1]) (c' := 1) (z' := 6) rfl rfl rfl ?_
  refine kj_if_ne (tgt := 24) hC dX9_setRate_11 (by decide) (fun q1 => ?_) (fun q1 => ?_)
  · exact kj_throw (tx := "rate out of range") (e := 1) hC hT (by decide) rfl kw345 kw34 kw355 (List.mem_of_getElem? (i := 691) (by decide +kernel)) dX9_setRate_14 dX9_setRate_17 dX9_setRate_18 dX9_setRate_20 dX9_setRate_23 (Nat.le_of_ble_eq_true rfl) (by rw [hD]; decide) ⟨by rw [hmc]; exact Nat.le_of_ble_eq_true rfl, by rw [hms]; exact Nat.le_of_ble_eq_true rfl⟩
  · refine kj_aloadn hC 0 dX9_setRate_24 rfl rfl ?_
    refine kj_gN (ci := 9) (k := 1) hC dX9_setRate_25 kf_X9_16 rfl (fun a1 => ?_)
    refine kj_iloadn hC 1 dX9_setRate_28 rfl rfl ?_
    refine kj_gAI hC dX9_setRate_29 (fun x2 => ?_)
    refine kj_istoren (L' := [(3, .inl x2), (0, .inr (.inr (some p0))), (1, .inl p1), (2, .inl p2)]) hC dX9_setRate_30 rfl (by decide) rfl ?_
    refine kj_aloadn hC 1 dX9_setRate_31 rfl rfl ?_
    refine kj_gN (ci := 9) (k := 1) hC dX9_setRate_32 kf_X9_16 rfl (fun a2 => ?_)
    refine kj_iloadn hC 2 dX9_setRate_35 rfl rfl ?_
    refine kj_iloadn hC 3 dX9_setRate_36 rfl rfl ?_
    refine kj_pAI hC dX9_setRate_37 (fun h3 => ?_)
    refine kj_iloadn hC 0 dX9_setRate_38 rfl rfl ?_
    refine kj_widen (k := 2) (n := 12) (Nat.le_of_ble_eq_true rfl) (Nat.le_of_ble_eq_true rfl) ?_
    refine kj_fin hmc hms ?_
    exact kj_ireturn hC dX9_setRate_39
set_option maxHeartbeats 4000000 in
set_option maxRecDepth 100000 in
theorem t_X9_requireSign (p0 : Int32) (h : KH) : kM yX9_requireSign cX9_requireSign 1 none 6 1 6 (fun _ : Unit => none) [.inl p0] h (f_X9_requireSign p0 h) := by
  refine kM_of RX9 (by decide) rfl (Nat.le_of_ble_eq_true rfl) [(0, .inl p0)] rfl (fun X hC hN hT hmc hms hD => ?_)
  unfold f_X9_requireSign
  refine kj_iloadn hC 0 dX9_requireSign_0 rfl rfl ?_
  refine kj_iconst (v := 0) hC dX9_requireSign_1 (by decide) ?_
  refine kj_bipush (v := 14) hC dX9_requireSign_2 (by decide) ?_
  refine kj_invS (as := [.inl p0, .inl 0, .inl 14]) (rest := []) hC hT dX9_requireSign_4 kw228 ky_X9_isWithin ky2_X9_isWithin (t_X9_isWithin p0 0 14 h) rfl rfl (Nat.le_of_ble_eq_true rfl) ⟨by rw [hD]; decide, by decide⟩ ⟨by rw [hmc]; exact Nat.le_of_ble_eq_true rfl, by rw [hms]; exact Nat.le_of_ble_eq_true rfl⟩ (fun x1 h1 => ?_)
  refine kj_norm (st' := [.inl x1]) (c' := 0) (z' := 0) rfl rfl rfl ?_
  refine kj_if_ne (tgt := 21) hC dX9_requireSign_7 (by decide) (fun q1 => ?_) (fun q1 => ?_)
  · exact kj_throwW (tx := "no such sign") (e := 3) hC hT (by decide) rfl kw231 kw32 kw274 (List.mem_of_getElem? (i := 273) (by decide +kernel)) dX9_requireSign_10 dX9_requireSign_13 dX9_requireSign_14 dX9_requireSign_17 dX9_requireSign_20 (Nat.le_of_ble_eq_true rfl) (by rw [hD]; decide) ⟨by rw [hmc]; exact Nat.le_of_ble_eq_true rfl, by rw [hms]; exact Nat.le_of_ble_eq_true rfl⟩
  · refine kj_widen (k := 1) (n := 6) (Nat.le_of_ble_eq_true rfl) (Nat.le_of_ble_eq_true rfl) ?_
    refine kj_fin hmc hms ?_
    exact kj_return hC dX9_requireSign_21
set_option maxHeartbeats 4000000 in
set_option maxRecDepth 100000 in
theorem t_X9_requireRoomForSign (p0 : Nat) (h : KH) : kM yX9_requireRoomForSign cX9_requireRoomForSign 1 none 6 1 6 (fun _ : Unit => none) [.inr (.inr (some p0))] h (f_X9_requireRoomForSign p0 h) := by
  refine kM_of RX9 (by decide) rfl (Nat.le_of_ble_eq_true rfl) [(0, .inr (.inr (some p0)))] rfl (fun X hC hN hT hmc hms hD => ?_)
  unfold f_X9_requireRoomForSign
  refine kj_aloadn hC 0 dX9_requireRoomForSign_0 rfl rfl ?_
  refine kj_gN (ci := 9) (k := 2) hC dX9_requireRoomForSign_1 kf_X9_23 rfl (fun a1 => ?_)
  refine kj_gI (ci := 7) (k := 1) hC dX9_requireRoomForSign_4 kf_X9_144 rfl (fun x1 => ?_)
  refine kj_bipush (v := 6) hC dX9_requireRoomForSign_7 (by decide) ?_
  refine kj_icmp_lt (tgt := 23) hC dX9_requireRoomForSign_9 (by decide) (fun q1 => ?_) (fun q1 => ?_)
  · refine kj_widen (k := 1) (n := 6) (Nat.le_of_ble_eq_true rfl) (Nat.le_of_ble_eq_true rfl) ?_
    refine kj_fin hmc hms ?_
    exact kj_return hC dX9_requireRoomForSign_23
  · exact kj_throwW (tx := "the text has all its signs") (e := 2) hC hT (by decide) rfl kw304 kw33 kw314 (List.mem_of_getElem? (i := 313) (by decide +kernel)) dX9_requireRoomForSign_12 dX9_requireRoomForSign_15 dX9_requireRoomForSign_16 dX9_requireRoomForSign_19 dX9_requireRoomForSign_22 (Nat.le_of_ble_eq_true rfl) (by rw [hD]; decide) ⟨by rw [hmc]; exact Nat.le_of_ble_eq_true rfl, by rw [hms]; exact Nat.le_of_ble_eq_true rfl⟩
set_option maxHeartbeats 4000000 in
set_option maxRecDepth 100000 in
theorem t_X7_put_b5 {X : KX} (hC : kC X RX7 cX7_put 4 none) (hN : (xme X).name = yX7_put.name) (hT : kT0 X) (hmc : xmc X = 0) (hms : xms X = 0) (hD : xD X = 0) (rc5 : Nat → Int32 → Int32 → Int32 → KH → KO Unit) (hr5 : ∀ (v0 : Nat) (v1 : Int32) (v2 : Int32) (v3 : Int32) (h : KH), kJ X (fun _ : Unit => none) 4 0 0 [(0, .inr (.inr (some v0))), (1, .inl v1), (2, .inl v2), (3, .inl v3)] [] 5 h (rc5 v0 v1 v2 v3 h)) (v0 : Nat) (v1 : Int32) (v2 : Int32) (v3 : Int32) (h : KH) : kJ X (fun _ : Unit => none) 4 0 0 [(0, .inr (.inr (some v0))), (1, .inl v1), (2, .inl v2), (3, .inl v3)] [] 5 h (X7_put_b5 rc5 v0 v1 v2 v3 h) := by
  unfold X7_put_b5
  refine kj_iloadn hC 3 dX7_put_5 rfl rfl ?_
  refine kj_iloadn hC 2 dX7_put_6 rfl rfl ?_
  refine kj_icmp_le (tgt := 30) hC dX7_put_7 (by decide) (fun q1 => ?_) (fun q1 => ?_)
  · refine kj_aloadn hC 0 dX7_put_30 rfl rfl ?_
    refine kj_gN (ci := 7) (k := 0) hC dX7_put_31 kf_X7_9 rfl (fun a1 => ?_)
    refine kj_iloadn hC 2 dX7_put_34 rfl rfl ?_
    refine kj_iloadn hC 1 dX7_put_35 rfl rfl ?_
    refine kj_pAI hC dX7_put_36 (fun h1 => ?_)
    refine kj_aloadn hC 0 dX7_put_37 rfl rfl ?_
    refine kj_dup hC dX7_put_38 rfl ?_
    refine kj_gI (ci := 7) (k := 1) hC dX7_put_39 kf_X7_15 rfl (fun x1 => ?_)
    refine kj_iconst (v := 1) hC dX7_put_42 (by decide) ?_
    refine kj_iadd hC dX7_put_43 ?_
    refine kj_pI (ci := 7) (k := 1) hC dX7_put_44 kf_X7_15 (Or.inl (kNF_of (by decide))) rfl ⟨rfl, rfl⟩ (fun h2 => ?_)
    refine kj_fin hmc hms ?_
    exact kj_return hC dX7_put_47
  · refine kj_aloadn hC 0 dX7_put_10 rfl rfl ?_
    refine kj_gN (ci := 7) (k := 0) hC dX7_put_11 kf_X7_9 rfl (fun a2 => ?_)
    refine kj_iloadn hC 3 dX7_put_14 rfl rfl ?_
    refine kj_aloadn hC 0 dX7_put_15 rfl rfl ?_
    refine kj_gN (ci := 7) (k := 0) hC dX7_put_16 kf_X7_9 rfl (fun a3 => ?_)
    refine kj_iloadn hC 3 dX7_put_19 rfl rfl ?_
    refine kj_iconst (v := 1) hC dX7_put_20 (by decide) ?_
    refine kj_isub hC dX7_put_21 ?_
    refine kj_gAI hC dX7_put_22 (fun x2 => ?_)
    refine kj_pAI hC dX7_put_23 (fun h3 => ?_)
    refine kj_iinc (v := v3 + (-1)) (L' := [(3, .inl (v3 + (-1))), (0, .inr (.inr (some v0))), (1, .inl v1), (2, .inl v2)]) hC 3 dX7_put_24 rfl rfl (by decide) rfl ?_
    refine kj_goto (tgt := 5) hC dX7_put_27 (by decide) ?_
    exact kj_sub [1, 2, 3, 0] rfl (hr5 v0 v1 v2 (v3 + (-1)) h3)
set_option maxHeartbeats 4000000 in
set_option maxRecDepth 100000 in
theorem t_X7_put_L5 {X : KX} (hC : kC X RX7 cX7_put 4 none) (hN : (xme X).name = yX7_put.name) (hT : kT0 X) (hmc : xmc X = 0) (hms : xms X = 0) (hD : xD X = 0) : ∀ (n : Nat) (v0 : Nat) (v1 : Int32) (v2 : Int32) (v3 : Int32) (h : KH), kJ X (fun _ : Unit => none) 4 0 0 [(0, .inr (.inr (some v0))), (1, .inl v1), (2, .inl v2), (3, .inl v3)] [] 5 h (X7_put_L5  n v0 v1 v2 v3 h) := by
  intro n
  induction n with
  | zero => intro v0 v1 v2 v3 h; exact kj_none
  | succ n ih => intro v0 v1 v2 v3 h; exact t_X7_put_b5 hC hN hT hmc hms hD (X7_put_L5  n) ih v0 v1 v2 v3 h
set_option maxHeartbeats 4000000 in
set_option maxRecDepth 100000 in
theorem t_X7_put (p0 : Nat) (p1 : Int32) (p2 : Int32) (h : KH) : kM yX7_put cX7_put 4 none 0 0 0 (fun _ : Unit => none) [.inr (.inr (some p0)), .inl p1, .inl p2] h (f_X7_put p0 p1 p2 h) := by
  refine kM_of RX7 (by decide) rfl (Nat.le_of_ble_eq_true rfl) [(0, .inr (.inr (some p0))), (1, .inl p1), (2, .inl p2)] rfl (fun X hC hN hT hmc hms hD => ?_)
  unfold f_X7_put
  refine kj_aloadn hC 0 dX7_put_0 rfl rfl ?_
  refine kj_gI (ci := 7) (k := 1) hC dX7_put_1 kf_X7_15 rfl (fun x1 => ?_)
  refine kj_istoren (L' := [(3, .inl x1), (0, .inr (.inr (some p0))), (1, .inl p1), (2, .inl p2)]) hC dX7_put_4 rfl (by decide) rfl ?_
  exact kj_sub [1, 2, 3, 0] rfl (t_X7_put_L5 hC hN hT hmc hms hD  kF p0 p1 p2 x1 h)
set_option maxHeartbeats 4000000 in
set_option maxRecDepth 100000 in
theorem t_X7_isPair_b17 {X : KX} (hC : kC X RX7 cX7_isPair 1 (some .boolean)) (hN : (xme X).name = yX7_isPair.name) (hT : kT0 X) (hmc : xmc X = 0) (hms : xms X = 0) (hD : xD X = 0) (s0 : Int32) (h : KH) : kJ X (fun x : Int32 => some (.inl x)) 1 0 0 [] [.inl s0] 17 h (X7_isPair_b17  s0 h) := by
  unfold X7_isPair_b17
  refine kj_fin hmc hms ?_
  exact kj_zreturn hC dX7_isPair_17
set_option maxHeartbeats 4000000 in
set_option maxRecDepth 100000 in
theorem t_X7_isPair_b16 {X : KX} (hC : kC X RX7 cX7_isPair 1 (some .boolean)) (hN : (xme X).name = yX7_isPair.name) (hT : kT0 X) (hmc : xmc X = 0) (hms : xms X = 0) (hD : xD X = 0)  (h : KH) : kJ X (fun x : Int32 => some (.inl x)) 1 0 0 [] [] 16 h (X7_isPair_b16   h) := by
  unfold X7_isPair_b16
  refine kj_iconst (v := 0) hC dX7_isPair_16 (by decide) ?_
  exact kj_sub [] rfl (t_X7_isPair_b17 hC hN hT hmc hms hD  0 h)
set_option maxHeartbeats 4000000 in
set_option maxRecDepth 100000 in
theorem t_X7_isPair (p0 : Int32) (h : KH) : kM yX7_isPair cX7_isPair 1 (some .boolean) 0 0 0 (fun x : Int32 => some (.inl x)) [.inl p0] h (f_X7_isPair p0 h) := by
  refine kM_of RX7 (by decide) rfl (Nat.le_of_ble_eq_true rfl) [(0, .inl p0)] rfl (fun X hC hN hT hmc hms hD => ?_)
  unfold f_X7_isPair
  refine kj_iloadn hC 0 dX7_isPair_0 rfl rfl ?_
  refine kj_bipush (v := 10) hC dX7_isPair_1 (by decide) ?_
  refine kj_icmp_lt (tgt := 16) hC dX7_isPair_3 (by decide) (fun q1 => ?_) (fun q1 => ?_)
  · exact kj_sub [] rfl (t_X7_isPair_b16 hC hN hT hmc hms hD   h)
  · refine kj_iloadn hC 0 dX7_isPair_6 rfl rfl ?_
    refine kj_bipush (v := 14) hC dX7_isPair_7 (by decide) ?_
    refine kj_icmp_ge (tgt := 16) hC dX7_isPair_9 (by decide) (fun q2 => ?_) (fun q2 => ?_)
    · exact kj_sub [] rfl (t_X7_isPair_b16 hC hN hT hmc hms hD   h)
    · refine kj_iconst (v := 1) hC dX7_isPair_12 (by decide) ?_
      refine kj_goto (tgt := 17) hC dX7_isPair_13 (by decide) ?_
      exact kj_sub [] rfl (t_X7_isPair_b17 hC hN hT hmc hms hD  1 h)
set_option maxHeartbeats 4000000 in
set_option maxRecDepth 100000 in
theorem t_X7_charsOf_b12 {X : KX} (hC : kC X RX7 cX7_charsOf 1 (some .int)) (hN : (xme X).name = yX7_charsOf.name) (hT : kT0 X) (hmc : xmc X = 0) (hms : xms X = 0) (hD : xD X = 1) (s0 : Int32) (h : KH) : kJ X (fun x : Int32 => some (.inl x)) 1 0 0 [] [.inl s0] 12 h (X7_charsOf_b12  s0 h) := by
  unfold X7_charsOf_b12
  refine kj_fin hmc hms ?_
  exact kj_ireturn hC dX7_charsOf_12
set_option maxHeartbeats 4000000 in
set_option maxRecDepth 100000 in
theorem t_X7_charsOf (p0 : Int32) (h : KH) : kM yX7_charsOf cX7_charsOf 1 (some .int) 1 0 0 (fun x : Int32 => some (.inl x)) [.inl p0] h (f_X7_charsOf p0 h) := by
  refine kM_of RX7 (by decide) rfl (Nat.le_of_ble_eq_true rfl) [(0, .inl p0)] rfl (fun X hC hN hT hmc hms hD => ?_)
  unfold f_X7_charsOf
  refine kj_iloadn hC 0 dX7_charsOf_0 rfl rfl ?_
  refine kj_invS (as := [.inl p0]) (rest := []) hC hT dX7_charsOf_1 kw331 ky_X7_isPair ky2_X7_isPair (t_X7_isPair p0 h) rfl rfl (Nat.le_of_ble_eq_true rfl) ⟨by rw [hD]; decide, by decide⟩ ⟨by rw [hmc]; exact Nat.le_of_ble_eq_true rfl, by rw [hms]; exact Nat.le_of_ble_eq_true rfl⟩ (fun x1 h1 => ?_)
  refine kj_norm (st' := [.inl x1]) (c' := 0) (z' := 0) rfl rfl rfl ?_
  refine kj_if_eq (tgt := 11) hC dX7_charsOf_4 (by decide) (fun q1 => ?_) (fun q1 => ?_)
  · refine kj_iconst (v := 1) hC dX7_charsOf_11 (by decide) ?_
    exact kj_sub [] rfl (t_X7_charsOf_b12 hC hN hT hmc hms hD  1 h1)
  · refine kj_iconst (v := 2) hC dX7_charsOf_7 (by decide) ?_
    refine kj_goto (tgt := 12) hC dX7_charsOf_8 (by decide) ?_
    exact kj_sub [] rfl (t_X7_charsOf_b12 hC hN hT hmc hms hD  2 h1)
set_option maxHeartbeats 4000000 in
set_option maxRecDepth 100000 in
theorem t_X7_charCount_b4 {X : KX} (hC : kC X RX7 cX7_charCount 3 (some .int)) (hN : (xme X).name = yX7_charCount.name) (hT : kT0 X) (hmc : xmc X = 0) (hms : xms X = 0) (hD : xD X = 2) (rc4 : Nat → Int32 → Int32 → KH → KO Int32) (hr4 : ∀ (v0 : Nat) (v1 : Int32) (v2 : Int32) (h : KH), kJ X (fun x : Int32 => some (.inl x)) 3 0 0 [(0, .inr (.inr (some v0))), (1, .inl v1), (2, .inl v2)] [] 4 h (rc4 v0 v1 v2 h)) (v0 : Nat) (v1 : Int32) (v2 : Int32) (h : KH) : kJ X (fun x : Int32 => some (.inl x)) 3 0 0 [(0, .inr (.inr (some v0))), (1, .inl v1), (2, .inl v2)] [] 4 h (X7_charCount_b4 rc4 v0 v1 v2 h) := by
  unfold X7_charCount_b4
  refine kj_iloadn hC 2 dX7_charCount_4 rfl rfl ?_
  refine kj_aloadn hC 0 dX7_charCount_5 rfl rfl ?_
  refine kj_gI (ci := 7) (k := 1) hC dX7_charCount_6 kf_X7_15 rfl (fun x1 => ?_)
  refine kj_icmp_ge (tgt := 30) hC dX7_charCount_9 (by decide) (fun q1 => ?_) (fun q1 => ?_)
  · refine kj_iloadn hC 1 dX7_charCount_30 rfl rfl ?_
    refine kj_fin hmc hms ?_
    exact kj_ireturn hC dX7_charCount_31
  · refine kj_iloadn hC 1 dX7_charCount_12 rfl rfl ?_
    refine kj_aloadn hC 0 dX7_charCount_13 rfl rfl ?_
    refine kj_gN (ci := 7) (k := 0) hC dX7_charCount_14 kf_X7_9 rfl (fun a1 => ?_)
    refine kj_iloadn hC 2 dX7_charCount_17 rfl rfl ?_
    refine kj_gAI hC dX7_charCount_18 (fun x2 => ?_)
    refine kj_invS (as := [.inl x2]) (rest := [.inl v1]) hC hT dX7_charCount_19 kw328 ky_X7_charsOf ky2_X7_charsOf (t_X7_charsOf x2 h) rfl rfl (Nat.le_of_ble_eq_true rfl) ⟨by rw [hD]; decide, by decide⟩ ⟨by rw [hmc]; exact Nat.le_of_ble_eq_true rfl, by rw [hms]; exact Nat.le_of_ble_eq_true rfl⟩ (fun x3 h1 => ?_)
    refine kj_norm (st' := [.inl x3, .inl v1]) (c' := 0) (z' := 0) rfl rfl rfl ?_
    refine kj_iadd hC dX7_charCount_22 ?_
    refine kj_istoren (L' := [(1, .inl (v1 + x3)), (0, .inr (.inr (some v0))), (2, .inl v2)]) hC dX7_charCount_23 rfl (by decide) rfl ?_
    refine kj_iinc (v := v2 + 1) (L' := [(2, .inl (v2 + 1)), (1, .inl (v1 + x3)), (0, .inr (.inr (some v0)))]) hC 2 dX7_charCount_24 rfl rfl (by decide) rfl ?_
    refine kj_goto (tgt := 4) hC dX7_charCount_27 (by decide) ?_
    exact kj_sub [2, 1, 0] rfl (hr4 v0 (v1 + x3) (v2 + 1) h1)
set_option maxHeartbeats 4000000 in
set_option maxRecDepth 100000 in
theorem t_X7_charCount_L4 {X : KX} (hC : kC X RX7 cX7_charCount 3 (some .int)) (hN : (xme X).name = yX7_charCount.name) (hT : kT0 X) (hmc : xmc X = 0) (hms : xms X = 0) (hD : xD X = 2) : ∀ (n : Nat) (v0 : Nat) (v1 : Int32) (v2 : Int32) (h : KH), kJ X (fun x : Int32 => some (.inl x)) 3 0 0 [(0, .inr (.inr (some v0))), (1, .inl v1), (2, .inl v2)] [] 4 h (X7_charCount_L4  n v0 v1 v2 h) := by
  intro n
  induction n with
  | zero => intro v0 v1 v2 h; exact kj_none
  | succ n ih => intro v0 v1 v2 h; exact t_X7_charCount_b4 hC hN hT hmc hms hD (X7_charCount_L4  n) ih v0 v1 v2 h
set_option maxHeartbeats 4000000 in
set_option maxRecDepth 100000 in
theorem t_X7_charCount (p0 : Nat) (h : KH) : kM yX7_charCount cX7_charCount 3 (some .int) 2 0 0 (fun x : Int32 => some (.inl x)) [.inr (.inr (some p0))] h (f_X7_charCount p0 h) := by
  refine kM_of RX7 (by decide) rfl (Nat.le_of_ble_eq_true rfl) [(0, .inr (.inr (some p0)))] rfl (fun X hC hN hT hmc hms hD => ?_)
  unfold f_X7_charCount
  refine kj_iconst (v := 0) hC dX7_charCount_0 (by decide) ?_
  refine kj_istoren (L' := [(1, .inl 0), (0, .inr (.inr (some p0)))]) hC dX7_charCount_1 rfl (by decide) rfl ?_
  refine kj_iconst (v := 0) hC dX7_charCount_2 (by decide) ?_
  refine kj_istoren (L' := [(2, .inl 0), (1, .inl 0), (0, .inr (.inr (some p0)))]) hC dX7_charCount_3 rfl (by decide) rfl ?_
  exact kj_sub [2, 1, 0] rfl (t_X7_charCount_L4 hC hN hT hmc hms hD  kF p0 0 0 h)
set_option maxHeartbeats 4000000 in
set_option maxRecDepth 100000 in
theorem t_X9_spell (p0 : Nat) (p1 : Int32) (h : KH) : kM yX9_spell cX9_spell 2 (some .int) 7 2 12 (fun x : Int32 => some (.inl x)) [.inr (.inr (some p0)), .inl p1] h (f_X9_spell p0 p1 h) := by
  refine kM_of RX9 (by decide) rfl (Nat.le_of_ble_eq_true rfl) [(0, .inr (.inr (some p0))), (1, .inl p1)] rfl (fun X hC hN hT hmc hms hD => ?_)
  unfold f_X9_spell
  refine kj_iloadn hC 1 dX9_spell_0 rfl rfl ?_
  refine kj_invS (as := [.inl p1]) (rest := []) hC hT dX9_spell_1 kw225 ky_X9_requireSign ky2_X9_requireSign (t_X9_requireSign p1 h) rfl rfl (Nat.le_of_ble_eq_true rfl) ⟨by rw [hD]; decide, by decide⟩ ⟨by rw [hmc]; exact Nat.le_of_ble_eq_true rfl, by rw [hms]; exact Nat.le_of_ble_eq_true rfl⟩ (fun _ h1 => ?_)
  refine kj_norm (st' := []) (c' := 1) (z' := 6) rfl rfl rfl ?_
  refine kj_aloadn hC 0 dX9_spell_4 rfl rfl ?_
  refine kj_invV (ci := 9) (q := (RX9, TX9, 17)) (as := []) (rest := []) hC hT dX9_spell_5 kw300 ky_X9_requireRoomForSign ky2_X9_requireRoomForSign rfl rfl (t_X9_requireRoomForSign p0 h1) rfl rfl (Nat.le_of_ble_eq_true rfl) ⟨by rw [hD]; decide, by decide⟩ ⟨by rw [hmc]; exact Nat.le_of_ble_eq_true rfl, by rw [hms]; exact Nat.le_of_ble_eq_true rfl⟩ (fun _ h2 => ?_)
  refine kj_norm (st' := []) (c' := 2) (z' := 12) rfl rfl rfl ?_
  refine kj_aloadn hC 0 dX9_spell_8 rfl rfl ?_
  refine kj_gN (ci := 9) (k := 2) hC dX9_spell_9 kf_X9_23 rfl (fun a1 => ?_)
  refine kj_iloadn hC 1 dX9_spell_12 rfl rfl ?_
  refine kj_aloadn hC 0 dX9_spell_13 rfl rfl ?_
  refine kj_gN (ci := 9) (k := 2) hC dX9_spell_14 kf_X9_23 rfl (fun a2 => ?_)
  refine kj_gI (ci := 7) (k := 1) hC dX9_spell_17 kf_X9_144 rfl (fun x1 => ?_)
  refine kj_invV (ci := 7) (q := (RX7, TX7, 2)) (as := [.inl p1, .inl x1]) (rest := []) hC hT dX9_spell_20 kw320 ky_X7_put ky2_X7_put rfl rfl (t_X7_put a1 p1 x1 h2) rfl rfl (Nat.le_of_ble_eq_true rfl) ⟨by rw [hD]; decide, by decide⟩ ⟨by rw [hmc]; exact Nat.le_of_ble_eq_true rfl, by rw [hms]; exact Nat.le_of_ble_eq_true rfl⟩ (fun _ h3 => ?_)
  refine kj_norm (st' := []) (c' := 2) (z' := 12) rfl rfl rfl ?_
  refine kj_aloadn hC 0 dX9_spell_23 rfl rfl ?_
  refine kj_gN (ci := 9) (k := 2) hC dX9_spell_24 kf_X9_23 rfl (fun a3 => ?_)
  refine kj_invV (ci := 7) (q := (RX7, TX7, 2)) (as := []) (rest := []) hC hT dX9_spell_27 kw324 ky_X7_charCount ky2_X7_charCount rfl rfl (t_X7_charCount a3 h3) rfl rfl (Nat.le_of_ble_eq_true rfl) ⟨by rw [hD]; decide, by decide⟩ ⟨by rw [hmc]; exact Nat.le_of_ble_eq_true rfl, by rw [hms]; exact Nat.le_of_ble_eq_true rfl⟩ (fun x2 h4 => ?_)
  refine kj_norm (st' := [.inl x2]) (c' := 2) (z' := 12) rfl rfl rfl ?_
  refine kj_fin hmc hms ?_
  exact kj_ireturn hC dX9_spell_30
set_option maxHeartbeats 4000000 in
set_option maxRecDepth 100000 in
theorem t_X9_insert (p0 : Nat) (p1 : Int32) (p2 : Int32) (h : KH) : kM yX9_insert cX9_insert 3 (some .int) 7 2 12 (fun x : Int32 => some (.inl x)) [.inr (.inr (some p0)), .inl p1, .inl p2] h (f_X9_insert p0 p1 p2 h) := by
  refine kM_of RX9 (by decide) rfl (Nat.le_of_ble_eq_true rfl) [(0, .inr (.inr (some p0))), (1, .inl p1), (2, .inl p2)] rfl (fun X hC hN hT hmc hms hD => ?_)
  unfold f_X9_insert
  refine kj_iloadn hC 1 dX9_insert_0 rfl rfl ?_
  refine kj_invS (as := [.inl p1]) (rest := []) hC hT dX9_insert_1 kw225 ky_X9_requireSign ky2_X9_requireSign (t_X9_requireSign p1 h) rfl rfl (Nat.le_of_ble_eq_true rfl) ⟨by rw [hD]; decide, by decide⟩ ⟨by rw [hmc]; exact Nat.le_of_ble_eq_true rfl, by rw [hms]; exact Nat.le_of_ble_eq_true rfl⟩ (fun _ h1 => ?_)
  refine kj_norm (st' := []) (c' := 1) (z' := 6) rfl rfl rfl ?_
  refine kj_iloadn hC 2 dX9_insert_4 rfl rfl ?_
  refine kj_iconst (v := 0) hC dX9_insert_5 (by decide) ?_
  refine kj_aloadn hC 0 dX9_insert_6 rfl rfl ?_
  refine kj_gN (ci := 9) (k := 2) hC dX9_insert_7 kf_X9_23 rfl (fun a1 => ?_)
  refine kj_gI (ci := 7) (k := 1) hC dX9_insert_10 kf_X9_144 rfl (fun x1 => ?_)
  refine kj_iconst (v := 1) hC dX9_insert_13 (by decide) ?_
  refine kj_isub hC dX9_insert_14 ?_
  refine kj_invS (as := [.inl p2, .inl 0, .inl (x1 - 1)]) (rest := []) hC hT dX9_insert_15 kw228 ky_X9_isWithin ky2_X9_isWithin (t_X9_isWithin p2 0 (x1 - 1) h1) rfl rfl (Nat.le_of_ble_eq_true rfl) ⟨by rw [hD]; decide, by decide⟩ ⟨by rw [hmc]; exact Nat.le_of_ble_eq_true rfl, by rw [hms]; exact Nat.le_of_ble_eq_true rfl⟩ (fun x2 h2 => ?_)
  refine kj_norm (st' := [.inl x2]) (c' := 1) (z' := 6) rfl rfl rfl ?_
  refine kj_if_ne (tgt := 31) hC dX9_insert_18 (by decide) (fun q1 => ?_) (fun q1 => ?_)
  · exact kj_throw (tx := "no such place") (e := 1) hC hT (by decide) rfl kw345 kw34 kw355 (List.mem_of_getElem? (i := 559) (by decide +kernel)) dX9_insert_21 dX9_insert_24 dX9_insert_25 dX9_insert_27 dX9_insert_30 (Nat.le_of_ble_eq_true rfl) (by rw [hD]; decide) ⟨by rw [hmc]; exact Nat.le_of_ble_eq_true rfl, by rw [hms]; exact Nat.le_of_ble_eq_true rfl⟩
  · refine kj_aloadn hC 0 dX9_insert_31 rfl rfl ?_
    refine kj_invV (ci := 9) (q := (RX9, TX9, 17)) (as := []) (rest := []) hC hT dX9_insert_32 kw300 ky_X9_requireRoomForSign ky2_X9_requireRoomForSign rfl rfl (t_X9_requireRoomForSign p0 h2) rfl rfl (Nat.le_of_ble_eq_true rfl) ⟨by rw [hD]; decide, by decide⟩ ⟨by rw [hmc]; exact Nat.le_of_ble_eq_true rfl, by rw [hms]; exact Nat.le_of_ble_eq_true rfl⟩ (fun _ h3 => ?_)
    refine kj_norm (st' := []) (c' := 2) (z' := 12) rfl rfl rfl ?_
    refine kj_aloadn hC 0 dX9_insert_35 rfl rfl ?_
    refine kj_gN (ci := 9) (k := 2) hC dX9_insert_36 kf_X9_23 rfl (fun a2 => ?_)
    refine kj_iloadn hC 1 dX9_insert_39 rfl rfl ?_
    refine kj_iloadn hC 2 dX9_insert_40 rfl rfl ?_
    refine kj_invV (ci := 7) (q := (RX7, TX7, 2)) (as := [.inl p1, .inl p2]) (rest := []) hC hT dX9_insert_41 kw320 ky_X7_put ky2_X7_put rfl rfl (t_X7_put a2 p1 p2 h3) rfl rfl (Nat.le_of_ble_eq_true rfl) ⟨by rw [hD]; decide, by decide⟩ ⟨by rw [hmc]; exact Nat.le_of_ble_eq_true rfl, by rw [hms]; exact Nat.le_of_ble_eq_true rfl⟩ (fun _ h4 => ?_)
    refine kj_norm (st' := []) (c' := 2) (z' := 12) rfl rfl rfl ?_
    refine kj_aloadn hC 0 dX9_insert_44 rfl rfl ?_
    refine kj_gN (ci := 9) (k := 2) hC dX9_insert_45 kf_X9_23 rfl (fun a3 => ?_)
    refine kj_invV (ci := 7) (q := (RX7, TX7, 2)) (as := []) (rest := []) hC hT dX9_insert_48 kw324 ky_X7_charCount ky2_X7_charCount rfl rfl (t_X7_charCount a3 h4) rfl rfl (Nat.le_of_ble_eq_true rfl) ⟨by rw [hD]; decide, by decide⟩ ⟨by rw [hmc]; exact Nat.le_of_ble_eq_true rfl, by rw [hms]; exact Nat.le_of_ble_eq_true rfl⟩ (fun x3 h5 => ?_)
    refine kj_norm (st' := [.inl x3]) (c' := 2) (z' := 12) rfl rfl rfl ?_
    refine kj_fin hmc hms ?_
    exact kj_ireturn hC dX9_insert_51
set_option maxHeartbeats 4000000 in
set_option maxRecDepth 100000 in
theorem t_X7_turnRound_b9 {X : KX} (hC : kC X RX7 cX7_turnRound 4 none) (hN : (xme X).name = yX7_turnRound.name) (hT : kT0 X) (hmc : xmc X = 0) (hms : xms X = 0) (hD : xD X = 0) (rc9 : Nat → Int32 → Int32 → KH → KO Unit) (hr9 : ∀ (v0 : Nat) (v1 : Int32) (v2 : Int32) (h : KH), kJ X (fun _ : Unit => none) 4 0 0 [(0, .inr (.inr (some v0))), (1, .inl v1), (2, .inl v2)] [] 9 h (rc9 v0 v1 v2 h)) (v0 : Nat) (v1 : Int32) (v2 : Int32) (h : KH) : kJ X (fun _ : Unit => none) 4 0 0 [(0, .inr (.inr (some v0))), (1, .inl v1), (2, .inl v2)] [] 9 h (X7_turnRound_b9 rc9 v0 v1 v2 h) := by
  unfold X7_turnRound_b9
  refine kj_iloadn hC 2 dX7_turnRound_9 rfl rfl ?_
  refine kj_iloadn hC 1 dX7_turnRound_10 rfl rfl ?_
  refine kj_icmp_ge (tgt := 49) hC dX7_turnRound_11 (by decide) (fun q1 => ?_) (fun q1 => ?_)
  · refine kj_fin hmc hms ?_
    exact kj_return hC dX7_turnRound_49
  · refine kj_aloadn hC 0 dX7_turnRound_14 rfl rfl ?_
    refine kj_gN (ci := 7) (k := 0) hC dX7_turnRound_15 kf_X7_9 rfl (fun a1 => ?_)
    refine kj_iloadn hC 2 dX7_turnRound_18 rfl rfl ?_
    refine kj_gAI hC dX7_turnRound_19 (fun x1 => ?_)
    refine kj_istoren (L' := [(3, .inl x1), (0, .inr (.inr (some v0))), (1, .inl v1), (2, .inl v2)]) hC dX7_turnRound_20 rfl (by decide) rfl ?_
    refine kj_aloadn hC 1 dX7_turnRound_21 rfl rfl ?_
    refine kj_gN (ci := 7) (k := 0) hC dX7_turnRound_22 kf_X7_9 rfl (fun a2 => ?_)
    refine kj_iloadn hC 3 dX7_turnRound_25 rfl rfl ?_
    refine kj_aloadn hC 1 dX7_turnRound_26 rfl rfl ?_
    refine kj_gN (ci := 7) (k := 0) hC dX7_turnRound_27 kf_X7_9 rfl (fun a3 => ?_)
    refine kj_iloadn hC 2 dX7_turnRound_30 rfl rfl ?_
    refine kj_gAI hC dX7_turnRound_31 (fun x2 => ?_)
    refine kj_pAI hC dX7_turnRound_32 (fun h1 => ?_)
    refine kj_aloadn hC 1 dX7_turnRound_33 rfl rfl ?_
    refine kj_gN (ci := 7) (k := 0) hC dX7_turnRound_34 kf_X7_9 rfl (fun a4 => ?_)
    refine kj_iloadn hC 2 dX7_turnRound_37 rfl rfl ?_
    refine kj_iloadn hC 0 dX7_turnRound_38 rfl rfl ?_
    refine kj_pAI hC dX7_turnRound_39 (fun h2 => ?_)
    refine kj_iinc (v := v1 + (-1)) (L' := [(1, .inl (v1 + (-1))), (3, .inl x1), (0, .inr (.inr (some v0))), (2, .inl v2)]) hC 2 dX7_turnRound_40 rfl rfl (by decide) rfl ?_
    refine kj_iinc (v := v2 + 1) (L' := [(2, .inl (v2 + 1)), (1, .inl (v1 + (-1))), (3, .inl x1), (0, .inr (.inr (some v0)))]) hC 3 dX7_turnRound_43 rfl rfl (by decide) rfl ?_
    refine kj_goto (tgt := 9) hC dX7_turnRound_46 (by decide) ?_
    exact kj_sub [3, 1, 0] rfl (hr9 v0 (v1 + (-1)) (v2 + 1) h2)
set_option maxHeartbeats 4000000 in
set_option maxRecDepth 100000 in
theorem t_X7_turnRound_L9 {X : KX} (hC : kC X RX7 cX7_turnRound 4 none) (hN : (xme X).name = yX7_turnRound.name) (hT : kT0 X) (hmc : xmc X = 0) (hms : xms X = 0) (hD : xD X = 0) : ∀ (n : Nat) (v0 : Nat) (v1 : Int32) (v2 : Int32) (h : KH), kJ X (fun _ : Unit => none) 4 0 0 [(0, .inr (.inr (some v0))), (1, .inl v1), (2, .inl v2)] [] 9 h (X7_turnRound_L9  n v0 v1 v2 h) := by
  intro n
  induction n with
  | zero => intro v0 v1 v2 h; exact kj_none
  | succ n ih => intro v0 v1 v2 h; exact t_X7_turnRound_b9 hC hN hT hmc hms hD (X7_turnRound_L9  n) ih v0 v1 v2 h
set_option maxHeartbeats 4000000 in
set_option maxRecDepth 100000 in
theorem t_X7_turnRound (p0 : Nat) (h : KH) : kM yX7_turnRound cX7_turnRound 4 none 0 0 0 (fun _ : Unit => none) [.inr (.inr (some p0))] h (f_X7_turnRound p0 h) := by
  refine kM_of RX7 (by decide) rfl (Nat.le_of_ble_eq_true rfl) [(0, .inr (.inr (some p0)))] rfl (fun X hC hN hT hmc hms hD => ?_)
  unfold f_X7_turnRound
  refine kj_aloadn hC 0 dX7_turnRound_0 rfl rfl ?_
  refine kj_gI (ci := 7) (k := 1) hC dX7_turnRound_1 kf_X7_15 rfl (fun x1 => ?_)
  refine kj_iconst (v := 1) hC dX7_turnRound_4 (by decide) ?_
  refine kj_isub hC dX7_turnRound_5 ?_
  refine kj_istoren (L' := [(1, .inl (x1 - 1)), (0, .inr (.inr (some p0)))]) hC dX7_turnRound_6 rfl (by decide) rfl ?_
  refine kj_iconst (v := 0) hC dX7_turnRound_7 (by decide) ?_
  refine kj_istoren (L' := [(2, .inl 0), (1, .inl (x1 - 1)), (0, .inr (.inr (some p0)))]) hC dX7_turnRound_8 rfl (by decide) rfl ?_
  exact kj_sub [2, 1, 0] rfl (t_X7_turnRound_L9 hC hN hT hmc hms hD  kF p0 (x1 - 1) 0 h)
set_option maxHeartbeats 4000000 in
set_option maxRecDepth 100000 in
theorem t_X9_mirror (p0 : Nat) (h : KH) : kM yX9_mirror cX9_mirror 1 (some .int) 1 0 0 (fun x : Int32 => some (.inl x)) [.inr (.inr (some p0))] h (f_X9_mirror p0 h) := by
  refine kM_of RX9 (by decide) rfl (Nat.le_of_ble_eq_true rfl) [(0, .inr (.inr (some p0)))] rfl (fun X hC hN hT hmc hms hD => ?_)
  unfold f_X9_mirror
  refine kj_aloadn hC 0 dX9_mirror_0 rfl rfl ?_
  refine kj_gN (ci := 9) (k := 2) hC dX9_mirror_1 kf_X9_23 rfl (fun a1 => ?_)
  refine kj_invV (ci := 7) (q := (RX7, TX7, 2)) (as := []) (rest := []) hC hT dX9_mirror_4 kw597 ky_X7_turnRound ky2_X7_turnRound rfl rfl (t_X7_turnRound a1 h) rfl rfl (Nat.le_of_ble_eq_true rfl) ⟨by rw [hD]; decide, by decide⟩ ⟨by rw [hmc]; exact Nat.le_of_ble_eq_true rfl, by rw [hms]; exact Nat.le_of_ble_eq_true rfl⟩ (fun _ h1 => ?_)
  refine kj_norm (st' := []) (c' := 0) (z' := 0) rfl rfl rfl ?_
  refine kj_aloadn hC 0 dX9_mirror_7 rfl rfl ?_
  refine kj_gN (ci := 9) (k := 2) hC dX9_mirror_8 kf_X9_23 rfl (fun a2 => ?_)
  refine kj_gI (ci := 7) (k := 1) hC dX9_mirror_11 kf_X9_144 rfl (fun x1 => ?_)
  refine kj_fin hmc hms ?_
  exact kj_ireturn hC dX9_mirror_14
set_option maxHeartbeats 4000000 in
set_option maxRecDepth 100000 in
theorem t_X9_clearSpelled (p0 : Nat) (h : KH) : kM yX9_clearSpelled cX9_clearSpelled 2 (some .int) 0 0 0 (fun x : Int32 => some (.inl x)) [.inr (.inr (some p0))] h (f_X9_clearSpelled p0 h) := by
  refine kM_of RX9 (by decide) rfl (Nat.le_of_ble_eq_true rfl) [(0, .inr (.inr (some p0)))] rfl (fun X hC hN hT hmc hms hD => ?_)
  unfold f_X9_clearSpelled
  refine kj_aloadn hC 0 dX9_clearSpelled_0 rfl rfl ?_
  refine kj_gN (ci := 9) (k := 2) hC dX9_clearSpelled_1 kf_X9_23 rfl (fun a1 => ?_)
  refine kj_gI (ci := 7) (k := 1) hC dX9_clearSpelled_4 kf_X9_144 rfl (fun x1 => ?_)
  refine kj_istoren (L' := [(1, .inl x1), (0, .inr (.inr (some p0)))]) hC dX9_clearSpelled_7 rfl (by decide) rfl ?_
  refine kj_aloadn hC 1 dX9_clearSpelled_8 rfl rfl ?_
  refine kj_gN (ci := 9) (k := 2) hC dX9_clearSpelled_9 kf_X9_23 rfl (fun a2 => ?_)
  refine kj_iconst (v := 0) hC dX9_clearSpelled_12 (by decide) ?_
  refine kj_pI (ci := 7) (k := 1) hC dX9_clearSpelled_13 kf_X9_144 (Or.inl (kNF_of (by decide))) rfl ⟨rfl, rfl⟩ (fun h1 => ?_)
  refine kj_iloadn hC 0 dX9_clearSpelled_16 rfl rfl ?_
  refine kj_fin hmc hms ?_
  exact kj_ireturn hC dX9_clearSpelled_17
set_option maxHeartbeats 4000000 in
set_option maxRecDepth 100000 in
theorem t_X7_charNumberOf_b37 {X : KX} (hC : kC X RX7 cX7_charNumberOf 2 (some .int)) (hN : (xme X).name = yX7_charNumberOf.name) (hT : kT0 X) (hmc : xmc X = 0) (hms : xms X = 0) (hD : xD X = 1) (s0 : Int32) (h : KH) : kJ X (fun x : Int32 => some (.inl x)) 2 0 0 [] [.inl s0] 37 h (X7_charNumberOf_b37  s0 h) := by
  unfold X7_charNumberOf_b37
  refine kj_fin hmc hms ?_
  exact kj_ireturn hC dX7_charNumberOf_37
set_option maxHeartbeats 4000000 in
set_option maxRecDepth 100000 in
theorem t_X7_charNumberOf (p0 : Int32) (p1 : Int32) (h : KH) : kM yX7_charNumberOf cX7_charNumberOf 2 (some .int) 1 0 0 (fun x : Int32 => some (.inl x)) [.inl p0, .inl p1] h (f_X7_charNumberOf p0 p1 h) := by
  refine kM_of RX7 (by decide) rfl (Nat.le_of_ble_eq_true rfl) [(0, .inl p0), (1, .inl p1)] rfl (fun X hC hN hT hmc hms hD => ?_)
  unfold f_X7_charNumberOf
  refine kj_iloadn hC 0 dX7_charNumberOf_0 rfl rfl ?_
  refine kj_bipush (v := 14) hC dX7_charNumberOf_1 (by decide) ?_
  refine kj_icmp_ne (tgt := 9) hC dX7_charNumberOf_3 (by decide) (fun q1 => ?_) (fun q1 => ?_)
  · refine kj_bipush (v := 63) hC dX7_charNumberOf_6 (by decide) ?_
    refine kj_fin hmc hms ?_
    exact kj_ireturn hC dX7_charNumberOf_8
  · refine kj_iloadn hC 0 dX7_charNumberOf_9 rfl rfl ?_
    refine kj_invS (as := [.inl p0]) (rest := []) hC hT dX7_charNumberOf_10 kw331 ky_X7_isPair ky2_X7_isPair (t_X7_isPair p0 h) rfl rfl (Nat.le_of_ble_eq_true rfl) ⟨by rw [hD]; decide, by decide⟩ ⟨by rw [hmc]; exact Nat.le_of_ble_eq_true rfl, by rw [hms]; exact Nat.le_of_ble_eq_true rfl⟩ (fun x1 h1 => ?_)
    refine kj_norm (st' := [.inl x1]) (c' := 0) (z' := 0) rfl rfl rfl ?_
    refine kj_if_ne (tgt := 21) hC dX7_charNumberOf_13 (by decide) (fun q2 => ?_) (fun q2 => ?_)
    · refine kj_bipush (v := 65) hC dX7_charNumberOf_16 (by decide) ?_
      refine kj_iloadn hC 0 dX7_charNumberOf_18 rfl rfl ?_
      refine kj_iadd hC dX7_charNumberOf_19 ?_
      refine kj_fin hmc hms ?_
      exact kj_ireturn hC dX7_charNumberOf_20
    · refine kj_iloadn hC 1 dX7_charNumberOf_21 rfl rfl ?_
      refine kj_if_ne (tgt := 30) hC dX7_charNumberOf_22 (by decide) (fun q3 => ?_) (fun q3 => ?_)
      · refine kj_ldc (v := 55357) hC dX7_charNumberOf_25 kw707 ?_
        refine kj_goto (tgt := 37) hC dX7_charNumberOf_27 (by decide) ?_
        exact kj_sub [] rfl (t_X7_charNumberOf_b37 hC hN hT hmc hms hD  55357 h1)
      · refine kj_ldc (v := 56976) hC dX7_charNumberOf_30 kw708 ?_
        refine kj_iloadn hC 0 dX7_charNumberOf_32 rfl rfl ?_
        refine kj_iadd hC dX7_charNumberOf_33 ?_
        refine kj_bipush (v := 10) hC dX7_charNumberOf_34 (by decide) ?_
        refine kj_isub hC dX7_charNumberOf_36 ?_
        exact kj_sub [] rfl (t_X7_charNumberOf_b37 hC hN hT hmc hms hD  ((56976 + p0) - 10) h1)
set_option maxHeartbeats 4000000 in
set_option maxRecDepth 100000 in
theorem t_X7_charNumberAt_b57 {X : KX} (hC : kC X RX7 cX7_charNumberAt 5 (some .int)) (hN : (xme X).name = yX7_charNumberAt.name) (hT : kT0 X) (hmc : xmc X = 0) (hms : xms X = 0) (hD : xD X = 2)  (h : KH) : kJ X (fun x : Int32 => some (.inl x)) 5 0 0 [] [] 57 h (X7_charNumberAt_b57   h) := by
  unfold X7_charNumberAt_b57
  refine kj_iconst (v := (-1)) hC dX7_charNumberAt_57 (by decide) ?_
  refine kj_fin hmc hms ?_
  exact kj_ireturn hC dX7_charNumberAt_58
set_option maxHeartbeats 4000000 in
set_option maxRecDepth 100000 in
theorem t_X7_charNumberAt_b4 {X : KX} (hC : kC X RX7 cX7_charNumberAt 5 (some .int)) (hN : (xme X).name = yX7_charNumberAt.name) (hT : kT0 X) (hmc : xmc X = 0) (hms : xms X = 0) (hD : xD X = 2) (rc4 : Nat → Int32 → Int32 → Int32 → KH → KO Int32) (hr4 : ∀ (v0 : Nat) (v1 : Int32) (v2 : Int32) (v3 : Int32) (h : KH), kJ X (fun x : Int32 => some (.inl x)) 5 0 0 [(0, .inr (.inr (some v0))), (1, .inl v1), (2, .inl v2), (3, .inl v3)] [] 4 h (rc4 v0 v1 v2 v3 h)) (v0 : Nat) (v1 : Int32) (v2 : Int32) (v3 : Int32) (h : KH) : kJ X (fun x : Int32 => some (.inl x)) 5 0 0 [(0, .inr (.inr (some v0))), (1, .inl v1), (2, .inl v2), (3, .inl v3)] [] 4 h (X7_charNumberAt_b4 rc4 v0 v1 v2 v3 h) := by
  unfold X7_charNumberAt_b4
  refine kj_iloadn hC 3 dX7_charNumberAt_4 rfl rfl ?_
  refine kj_aloadn hC 0 dX7_charNumberAt_5 rfl rfl ?_
  refine kj_gI (ci := 7) (k := 1) hC dX7_charNumberAt_6 kf_X7_15 rfl (fun x1 => ?_)
  refine kj_icmp_ge (tgt := 57) hC dX7_charNumberAt_9 (by decide) (fun q1 => ?_) (fun q1 => ?_)
  · exact kj_sub [] rfl (t_X7_charNumberAt_b57 hC hN hT hmc hms hD   h)
  · refine kj_iloadn hC 1 dX7_charNumberAt_12 rfl rfl ?_
    refine kj_iloadn hC 2 dX7_charNumberAt_13 rfl rfl ?_
    refine kj_icmp_lt (tgt := 57) hC dX7_charNumberAt_14 (by decide) (fun q2 => ?_) (fun q2 => ?_)
    · exact kj_sub [] rfl (t_X7_charNumberAt_b57 hC hN hT hmc hms hD   h)
    · refine kj_iloadn hC 2 dX7_charNumberAt_17 rfl rfl ?_
      refine kj_istore (L' := [(4, .inl v2), (0, .inr (.inr (some v0))), (1, .inl v1), (2, .inl v2), (3, .inl v3)]) hC dX7_charNumberAt_18 (by decide) rfl ?_
      refine kj_iloadn hC 3 dX7_charNumberAt_20 rfl rfl ?_
      refine kj_aloadn hC 1 dX7_charNumberAt_21 rfl rfl ?_
      refine kj_gN (ci := 7) (k := 0) hC dX7_charNumberAt_22 kf_X7_9 rfl (fun a1 => ?_)
      refine kj_iloadn hC 4 dX7_charNumberAt_25 rfl rfl ?_
      refine kj_gAI hC dX7_charNumberAt_26 (fun x2 => ?_)
      refine kj_invS (as := [.inl x2]) (rest := [.inl v2]) hC hT dX7_charNumberAt_27 kw328 ky_X7_charsOf ky2_X7_charsOf (t_X7_charsOf x2 h) rfl rfl (Nat.le_of_ble_eq_true rfl) ⟨by rw [hD]; decide, by decide⟩ ⟨by rw [hmc]; exact Nat.le_of_ble_eq_true rfl, by rw [hms]; exact Nat.le_of_ble_eq_true rfl⟩ (fun x3 h1 => ?_)
      refine kj_norm (st' := [.inl x3, .inl v2]) (c' := 0) (z' := 0) rfl rfl rfl ?_
      refine kj_iadd hC dX7_charNumberAt_30 ?_
      refine kj_istoren (L' := [(2, .inl (v2 + x3)), (4, .inl v2), (0, .inr (.inr (some v0))), (1, .inl v1), (3, .inl v3)]) hC dX7_charNumberAt_31 rfl (by decide) rfl ?_
      refine kj_iloadn hC 3 dX7_charNumberAt_32 rfl rfl ?_
      refine kj_iloadn hC 0 dX7_charNumberAt_33 rfl rfl ?_
      refine kj_icmp_ge (tgt := 51) hC dX7_charNumberAt_34 (by decide) (fun q3 => ?_) (fun q3 => ?_)
      · refine kj_iinc (v := v3 + 1) (L' := [(3, .inl (v3 + 1)), (2, .inl (v2 + x3)), (4, .inl v2), (0, .inr (.inr (some v0))), (1, .inl v1)]) hC 4 dX7_charNumberAt_51 rfl rfl (by decide) rfl ?_
        refine kj_goto (tgt := 4) hC dX7_charNumberAt_54 (by decide) ?_
        exact kj_sub [3, 4, 1, 0] rfl (hr4 v0 v1 (v2 + x3) (v3 + 1) h1)
      · refine kj_aloadn hC 2 dX7_charNumberAt_37 rfl rfl ?_
        refine kj_gN (ci := 7) (k := 0) hC dX7_charNumberAt_38 kf_X7_9 rfl (fun a2 => ?_)
        refine kj_iloadn hC 4 dX7_charNumberAt_41 rfl rfl ?_
        refine kj_gAI hC dX7_charNumberAt_42 (fun x4 => ?_)
        refine kj_iloadn hC 3 dX7_charNumberAt_43 rfl rfl ?_
        refine kj_iload hC 1 dX7_charNumberAt_44 rfl ?_
        refine kj_isub hC dX7_charNumberAt_46 ?_
        refine kj_invS (as := [.inl x4, .inl (v1 - v2)]) (rest := []) hC hT dX7_charNumberAt_47 kw704 ky_X7_charNumberOf ky2_X7_charNumberOf (t_X7_charNumberOf x4 (v1 - v2) h1) rfl rfl (Nat.le_of_ble_eq_true rfl) ⟨by rw [hD]; decide, by decide⟩ ⟨by rw [hmc]; exact Nat.le_of_ble_eq_true rfl, by rw [hms]; exact Nat.le_of_ble_eq_true rfl⟩ (fun x5 h2 => ?_)
        refine kj_norm (st' := [.inl x5]) (c' := 0) (z' := 0) rfl rfl rfl ?_
        refine kj_fin hmc hms ?_
        exact kj_ireturn hC dX7_charNumberAt_50
set_option maxHeartbeats 4000000 in
set_option maxRecDepth 100000 in
theorem t_X7_charNumberAt_L4 {X : KX} (hC : kC X RX7 cX7_charNumberAt 5 (some .int)) (hN : (xme X).name = yX7_charNumberAt.name) (hT : kT0 X) (hmc : xmc X = 0) (hms : xms X = 0) (hD : xD X = 2) : ∀ (n : Nat) (v0 : Nat) (v1 : Int32) (v2 : Int32) (v3 : Int32) (h : KH), kJ X (fun x : Int32 => some (.inl x)) 5 0 0 [(0, .inr (.inr (some v0))), (1, .inl v1), (2, .inl v2), (3, .inl v3)] [] 4 h (X7_charNumberAt_L4  n v0 v1 v2 v3 h) := by
  intro n
  induction n with
  | zero => intro v0 v1 v2 v3 h; exact kj_none
  | succ n ih => intro v0 v1 v2 v3 h; exact t_X7_charNumberAt_b4 hC hN hT hmc hms hD (X7_charNumberAt_L4  n) ih v0 v1 v2 v3 h
set_option maxHeartbeats 4000000 in
set_option maxRecDepth 100000 in
theorem t_X7_charNumberAt (p0 : Nat) (p1 : Int32) (h : KH) : kM yX7_charNumberAt cX7_charNumberAt 5 (some .int) 2 0 0 (fun x : Int32 => some (.inl x)) [.inr (.inr (some p0)), .inl p1] h (f_X7_charNumberAt p0 p1 h) := by
  refine kM_of RX7 (by decide) rfl (Nat.le_of_ble_eq_true rfl) [(0, .inr (.inr (some p0))), (1, .inl p1)] rfl (fun X hC hN hT hmc hms hD => ?_)
  unfold f_X7_charNumberAt
  refine kj_iconst (v := 0) hC dX7_charNumberAt_0 (by decide) ?_
  refine kj_istoren (L' := [(2, .inl 0), (0, .inr (.inr (some p0))), (1, .inl p1)]) hC dX7_charNumberAt_1 rfl (by decide) rfl ?_
  refine kj_iconst (v := 0) hC dX7_charNumberAt_2 (by decide) ?_
  refine kj_istoren (L' := [(3, .inl 0), (2, .inl 0), (0, .inr (.inr (some p0))), (1, .inl p1)]) hC dX7_charNumberAt_3 rfl (by decide) rfl ?_
  exact kj_sub [2, 3, 1, 0] rfl (t_X7_charNumberAt_L4 hC hN hT hmc hms hD  kF p0 p1 0 0 h)
set_option maxHeartbeats 4000000 in
set_option maxRecDepth 100000 in
theorem t_X9_charAt (p0 : Nat) (p1 : Int32) (h : KH) : kM yX9_charAt cX9_charAt 3 (some .char) 6 1 6 (fun x : Int32 => some (.inl x)) [.inr (.inr (some p0)), .inl p1] h (f_X9_charAt p0 p1 h) := by
  refine kM_of RX9 (by decide) rfl (Nat.le_of_ble_eq_true rfl) [(0, .inr (.inr (some p0))), (1, .inl p1)] rfl (fun X hC hN hT hmc hms hD => ?_)
  unfold f_X9_charAt
  refine kj_aloadn hC 0 dX9_charAt_0 rfl rfl ?_
  refine kj_gN (ci := 9) (k := 2) hC dX9_charAt_1 kf_X9_23 rfl (fun a1 => ?_)
  refine kj_iloadn hC 1 dX9_charAt_4 rfl rfl ?_
  refine kj_invV (ci := 7) (q := (RX7, TX7, 2)) (as := [.inl p1]) (rest := []) hC hT dX9_charAt_5 kw700 ky_X7_charNumberAt ky2_X7_charNumberAt rfl rfl (t_X7_charNumberAt a1 p1 h) rfl rfl (Nat.le_of_ble_eq_true rfl) ⟨by rw [hD]; decide, by decide⟩ ⟨by rw [hmc]; exact Nat.le_of_ble_eq_true rfl, by rw [hms]; exact Nat.le_of_ble_eq_true rfl⟩ (fun x1 h1 => ?_)
  refine kj_norm (st' := [.inl x1]) (c' := 0) (z' := 0) rfl rfl rfl ?_
  refine kj_istoren (L' := [(2, .inl x1), (0, .inr (.inr (some p0))), (1, .inl p1)]) hC dX9_charAt_8 rfl (by decide) rfl ?_
  refine kj_iloadn hC 0 dX9_charAt_9 rfl rfl ?_
  refine kj_iconst (v := (-1)) hC dX9_charAt_10 (by decide) ?_
  refine kj_icmp_ne (tgt := 24) hC dX9_charAt_11 (by decide) (fun q1 => ?_) (fun q1 => ?_)
  · exact kj_throwN (tx := "no such char") (e := 4) hC hT rfl kw709 kw39 kw719 (List.mem_of_getElem? (i := 718) (by decide +kernel)) dX9_charAt_14 dX9_charAt_17 dX9_charAt_18 dX9_charAt_20 dX9_charAt_23 (Nat.le_of_ble_eq_true rfl) (by rw [hD]; decide) ⟨by rw [hmc]; exact Nat.le_of_ble_eq_true rfl, by rw [hms]; exact Nat.le_of_ble_eq_true rfl⟩
  · refine kj_iloadn hC 0 dX9_charAt_24 rfl rfl ?_
    refine kj_i2c hC dX9_charAt_25 ?_
    refine kj_widen (k := 1) (n := 6) (Nat.le_of_ble_eq_true rfl) (Nat.le_of_ble_eq_true rfl) ?_
    refine kj_fin hmc hms ?_
    exact kj_creturn hC dX9_charAt_26
set_option maxHeartbeats 4000000 in
set_option maxRecDepth 100000 in
theorem t_X2_turn (p0 : Nat) (p1 : Int32) (p2 : Int32) (h : KH) : kM yX2_turn cX2_turn 3 none 0 0 0 (fun _ : Unit => none) [.inr (.inr (some p0)), .inl p1, .inl p2] h (f_X2_turn p0 p1 p2 h) := by
  refine kM_of RX2 (by decide) rfl (Nat.le_of_ble_eq_true rfl) [(0, .inr (.inr (some p0))), (1, .inl p1), (2, .inl p2)] rfl (fun X hC hN hT hmc hms hD => ?_)
  unfold f_X2_turn
  refine kj_aloadn hC 0 dX2_turn_0 rfl rfl ?_
  refine kj_gN (ci := 2) (k := 0) hC dX2_turn_1 kf_X2_9 rfl (fun a1 => ?_)
  refine kj_iloadn hC 1 dX2_turn_4 rfl rfl ?_
  refine kj_dup2 hC dX2_turn_5 rfl rfl ?_
  refine kj_gAI hC dX2_turn_6 (fun x1 => ?_)
  refine kj_iconst (v := 1) hC dX2_turn_7 (by decide) ?_
  refine kj_iloadn hC 2 dX2_turn_8 rfl rfl ?_
  refine kj_ishl hC dX2_turn_9 ?_
  refine kj_ixor hC dX2_turn_10 ?_
  refine kj_pAI hC dX2_turn_11 (fun h1 => ?_)
  refine kj_aloadn hC 0 dX2_turn_12 rfl rfl ?_
  refine kj_gN (ci := 2) (k := 0) hC dX2_turn_13 kf_X2_9 rfl (fun a2 => ?_)
  refine kj_iloadn hC 2 dX2_turn_16 rfl rfl ?_
  refine kj_dup2 hC dX2_turn_17 rfl rfl ?_
  refine kj_gAI hC dX2_turn_18 (fun x2 => ?_)
  refine kj_iconst (v := 1) hC dX2_turn_19 (by decide) ?_
  refine kj_iloadn hC 1 dX2_turn_20 rfl rfl ?_
  refine kj_ishl hC dX2_turn_21 ?_
  refine kj_ixor hC dX2_turn_22 ?_
  refine kj_pAI hC dX2_turn_23 (fun h2 => ?_)
  refine kj_fin hmc hms ?_
  exact kj_return hC dX2_turn_24
set_option maxHeartbeats 4000000 in
set_option maxRecDepth 100000 in
theorem t_X2_holds_b19 {X : KX} (hC : kC X RX2 cX2_holds 3 (some .boolean)) (hN : (xme X).name = yX2_holds.name) (hT : kT0 X) (hmc : xmc X = 0) (hms : xms X = 0) (hD : xD X = 0) (s0 : Int32) (h : KH) : kJ X (fun x : Int32 => some (.inl x)) 3 0 0 [] [.inl s0] 19 h (X2_holds_b19  s0 h) := by
  unfold X2_holds_b19
  refine kj_fin hmc hms ?_
  exact kj_zreturn hC dX2_holds_19
set_option maxHeartbeats 4000000 in
set_option maxRecDepth 100000 in
theorem t_X2_holds (p0 : Nat) (p1 : Int32) (p2 : Int32) (h : KH) : kM yX2_holds cX2_holds 3 (some .boolean) 0 0 0 (fun x : Int32 => some (.inl x)) [.inr (.inr (some p0)), .inl p1, .inl p2] h (f_X2_holds p0 p1 p2 h) := by
  refine kM_of RX2 (by decide) rfl (Nat.le_of_ble_eq_true rfl) [(0, .inr (.inr (some p0))), (1, .inl p1), (2, .inl p2)] rfl (fun X hC hN hT hmc hms hD => ?_)
  unfold f_X2_holds
  refine kj_aloadn hC 0 dX2_holds_0 rfl rfl ?_
  refine kj_gN (ci := 2) (k := 0) hC dX2_holds_1 kf_X2_9 rfl (fun a1 => ?_)
  refine kj_iloadn hC 1 dX2_holds_4 rfl rfl ?_
  refine kj_gAI hC dX2_holds_5 (fun x1 => ?_)
  refine kj_iloadn hC 2 dX2_holds_6 rfl rfl ?_
  refine kj_ishr hC dX2_holds_7 ?_
  refine kj_iconst (v := 1) hC dX2_holds_8 (by decide) ?_
  refine kj_iand hC dX2_holds_9 ?_
  refine kj_iconst (v := 1) hC dX2_holds_10 (by decide) ?_
  refine kj_icmp_ne (tgt := 18) hC dX2_holds_11 (by decide) (fun q1 => ?_) (fun q1 => ?_)
  · refine kj_iconst (v := 1) hC dX2_holds_14 (by decide) ?_
    refine kj_goto (tgt := 19) hC dX2_holds_15 (by decide) ?_
    exact kj_sub [] rfl (t_X2_holds_b19 hC hN hT hmc hms hD  1 h)
  · refine kj_iconst (v := 0) hC dX2_holds_18 (by decide) ?_
    exact kj_sub [] rfl (t_X2_holds_b19 hC hN hT hmc hms hD  0 h)
set_option maxHeartbeats 4000000 in
set_option maxRecDepth 100000 in
theorem t_X2_costOfSign_b29 {X : KX} (hC : kC X RX2 cX2_costOfSign 3 (some .int)) (hN : (xme X).name = yX2_costOfSign.name) (hT : kT0 X) (hmc : xmc X = 0) (hms : xms X = 0) (hD : xD X = 1) (s0 : Int32) (h : KH) : kJ X (fun x : Int32 => some (.inl x)) 3 0 0 [] [.inl s0] 29 h (X2_costOfSign_b29  s0 h) := by
  unfold X2_costOfSign_b29
  refine kj_fin hmc hms ?_
  exact kj_ireturn hC dX2_costOfSign_29
set_option maxHeartbeats 4000000 in
set_option maxRecDepth 100000 in
theorem t_X2_costOfSign (p0 : Nat) (p1 : Int32) (p2 : Int32) (h : KH) : kM yX2_costOfSign cX2_costOfSign 3 (some .int) 1 0 0 (fun x : Int32 => some (.inl x)) [.inr (.inr (some p0)), .inl p1, .inl p2] h (f_X2_costOfSign p0 p1 p2 h) := by
  refine kM_of RX2 (by decide) rfl (Nat.le_of_ble_eq_true rfl) [(0, .inr (.inr (some p0))), (1, .inl p1), (2, .inl p2)] rfl (fun X hC hN hT hmc hms hD => ?_)
  unfold f_X2_costOfSign
  refine kj_iloadn hC 1 dX2_costOfSign_0 rfl rfl ?_
  refine kj_iloadn hC 2 dX2_costOfSign_1 rfl rfl ?_
  refine kj_icmp_ne (tgt := 7) hC dX2_costOfSign_2 (by decide) (fun q1 => ?_) (fun q1 => ?_)
  · refine kj_iconst (v := 0) hC dX2_costOfSign_5 (by decide) ?_
    refine kj_fin hmc hms ?_
    exact kj_ireturn hC dX2_costOfSign_6
  · refine kj_iloadn hC 1 dX2_costOfSign_7 rfl rfl ?_
    refine kj_bipush (v := 14) hC dX2_costOfSign_8 (by decide) ?_
    refine kj_icmp_ne (tgt := 15) hC dX2_costOfSign_10 (by decide) (fun q2 => ?_) (fun q2 => ?_)
    · refine kj_iconst (v := 2) hC dX2_costOfSign_13 (by decide) ?_
      refine kj_fin hmc hms ?_
      exact kj_ireturn hC dX2_costOfSign_14
    · refine kj_aloadn hC 0 dX2_costOfSign_15 rfl rfl ?_
      refine kj_iloadn hC 1 dX2_costOfSign_16 rfl rfl ?_
      refine kj_iloadn hC 2 dX2_costOfSign_17 rfl rfl ?_
      refine kj_invV (ci := 2) (q := (RX2, TX2, 1)) (as := [.inl p1, .inl p2]) (rest := []) hC hT dX2_costOfSign_18 kw455 ky_X2_holds ky2_X2_holds rfl rfl (t_X2_holds p0 p1 p2 h) rfl rfl (Nat.le_of_ble_eq_true rfl) ⟨by rw [hD]; decide, by decide⟩ ⟨by rw [hmc]; exact Nat.le_of_ble_eq_true rfl, by rw [hms]; exact Nat.le_of_ble_eq_true rfl⟩ (fun x1 h1 => ?_)
      refine kj_norm (st' := [.inl x1]) (c' := 0) (z' := 0) rfl rfl rfl ?_
      refine kj_if_eq (tgt := 28) hC dX2_costOfSign_21 (by decide) (fun q3 => ?_) (fun q3 => ?_)
      · refine kj_iconst (v := (-1)) hC dX2_costOfSign_28 (by decide) ?_
        exact kj_sub [] rfl (t_X2_costOfSign_b29 hC hN hT hmc hms hD  ((-1)) h1)
      · refine kj_iconst (v := 1) hC dX2_costOfSign_24 (by decide) ?_
        refine kj_goto (tgt := 29) hC dX2_costOfSign_25 (by decide) ?_
        exact kj_sub [] rfl (t_X2_costOfSign_b29 hC hN hT hmc hms hD  1 h1)
set_option maxHeartbeats 4000000 in
set_option maxRecDepth 100000 in
theorem t_X2_costOf_b18 {X : KX} (hC : kC X RX2 cX2_costOf 6 (some .int)) (hN : (xme X).name = yX2_costOf.name) (hT : kT0 X) (hmc : xmc X = 0) (hms : xms X = 0) (hD : xD X = 2) (rc18 : Nat → Nat → Nat → Int32 → Int32 → KH → KO Int32) (hr18 : ∀ (v0 : Nat) (v1 : Nat) (v2 : Nat) (v3 : Int32) (v4 : Int32) (h : KH), kJ X (fun x : Int32 => some (.inl x)) 6 0 0 [(0, .inr (.inr (some v0))), (1, .inr (.inr (some v1))), (2, .inr (.inr (some v2))), (3, .inl v3), (4, .inl v4)] [] 18 h (rc18 v0 v1 v2 v3 v4 h)) (v0 : Nat) (v1 : Nat) (v2 : Nat) (v3 : Int32) (v4 : Int32) (h : KH) : kJ X (fun x : Int32 => some (.inl x)) 6 0 0 [(0, .inr (.inr (some v0))), (1, .inr (.inr (some v1))), (2, .inr (.inr (some v2))), (3, .inl v3), (4, .inl v4)] [] 18 h (X2_costOf_b18 rc18 v0 v1 v2 v3 v4 h) := by
  unfold X2_costOf_b18
  refine kj_iload hC 4 dX2_costOf_18 rfl ?_
  refine kj_aloadn hC 1 dX2_costOf_20 rfl rfl ?_
  refine kj_gI (ci := 7) (k := 1) hC dX2_costOf_21 kf_X2_15 rfl (fun x1 => ?_)
  refine kj_icmp_ge (tgt := 66) hC dX2_costOf_24 (by decide) (fun q1 => ?_) (fun q1 => ?_)
  · refine kj_iloadn hC 3 dX2_costOf_66 rfl rfl ?_
    refine kj_fin hmc hms ?_
    exact kj_ireturn hC dX2_costOf_67
  · refine kj_aloadn hC 0 dX2_costOf_27 rfl rfl ?_
    refine kj_aloadn hC 1 dX2_costOf_28 rfl rfl ?_
    refine kj_gNN (ci := 7) (k := 0) (q := (RX7, TX7, 2)) hC dX2_costOf_29 rfl (by decide) kz98 rfl (fun a1 => ?_)
    refine kj_iload hC 4 dX2_costOf_32 rfl ?_
    refine kj_gAI hC dX2_costOf_34 (fun x2 => ?_)
    refine kj_aloadn hC 2 dX2_costOf_35 rfl rfl ?_
    refine kj_gNN (ci := 7) (k := 0) (q := (RX7, TX7, 2)) hC dX2_costOf_36 rfl (by decide) kz98 rfl (fun a2 => ?_)
    refine kj_iload hC 4 dX2_costOf_39 rfl ?_
    refine kj_gAI hC dX2_costOf_41 (fun x3 => ?_)
    refine kj_invV (ci := 2) (q := (RX2, TX2, 1)) (as := [.inl x2, .inl x3]) (rest := []) hC hT dX2_costOf_42 kw451 ky_X2_costOfSign ky2_X2_costOfSign rfl rfl (t_X2_costOfSign v0 x2 x3 h) rfl rfl (Nat.le_of_ble_eq_true rfl) ⟨by rw [hD]; decide, by decide⟩ ⟨by rw [hmc]; exact Nat.le_of_ble_eq_true rfl, by rw [hms]; exact Nat.le_of_ble_eq_true rfl⟩ (fun x4 h1 => ?_)
    refine kj_norm (st' := [.inl x4]) (c' := 0) (z' := 0) rfl rfl rfl ?_
    refine kj_istore (L' := [(5, .inl x4), (0, .inr (.inr (some v0))), (1, .inr (.inr (some v1))), (2, .inr (.inr (some v2))), (3, .inl v3), (4, .inl v4)]) hC dX2_costOf_45 (by decide) rfl ?_
    refine kj_iload hC 0 dX2_costOf_47 rfl ?_
    refine kj_iconst (v := (-1)) hC dX2_costOf_49 (by decide) ?_
    refine kj_icmp_ne (tgt := 55) hC dX2_costOf_50 (by decide) (fun q2 => ?_) (fun q2 => ?_)
    · refine kj_iconst (v := (-1)) hC dX2_costOf_53 (by decide) ?_
      refine kj_fin hmc hms ?_
      exact kj_ireturn hC dX2_costOf_54
    · refine kj_iloadn hC 4 dX2_costOf_55 rfl rfl ?_
      refine kj_iload hC 0 dX2_costOf_56 rfl ?_
      refine kj_iadd hC dX2_costOf_58 ?_
      refine kj_istoren (L' := [(3, .inl (v3 + x4)), (5, .inl x4), (0, .inr (.inr (some v0))), (1, .inr (.inr (some v1))), (2, .inr (.inr (some v2))), (4, .inl v4)]) hC dX2_costOf_59 rfl (by decide) rfl ?_
      refine kj_iinc (v := v4 + 1) (L' := [(4, .inl (v4 + 1)), (3, .inl (v3 + x4)), (5, .inl x4), (0, .inr (.inr (some v0))), (1, .inr (.inr (some v1))), (2, .inr (.inr (some v2)))]) hC 5 dX2_costOf_60 rfl rfl (by decide) rfl ?_
      refine kj_goto (tgt := 18) hC dX2_costOf_63 (by decide) ?_
      exact kj_sub [3, 4, 5, 1, 0] rfl (hr18 v0 v1 v2 (v3 + x4) (v4 + 1) h1)
set_option maxHeartbeats 4000000 in
set_option maxRecDepth 100000 in
theorem t_X2_costOf_L18 {X : KX} (hC : kC X RX2 cX2_costOf 6 (some .int)) (hN : (xme X).name = yX2_costOf.name) (hT : kT0 X) (hmc : xmc X = 0) (hms : xms X = 0) (hD : xD X = 2) : ∀ (n : Nat) (v0 : Nat) (v1 : Nat) (v2 : Nat) (v3 : Int32) (v4 : Int32) (h : KH), kJ X (fun x : Int32 => some (.inl x)) 6 0 0 [(0, .inr (.inr (some v0))), (1, .inr (.inr (some v1))), (2, .inr (.inr (some v2))), (3, .inl v3), (4, .inl v4)] [] 18 h (X2_costOf_L18  n v0 v1 v2 v3 v4 h) := by
  intro n
  induction n with
  | zero => intro v0 v1 v2 v3 v4 h; exact kj_none
  | succ n ih => intro v0 v1 v2 v3 v4 h; exact t_X2_costOf_b18 hC hN hT hmc hms hD (X2_costOf_L18  n) ih v0 v1 v2 v3 v4 h
set_option maxHeartbeats 4000000 in
set_option maxRecDepth 100000 in
theorem t_X2_costOf (p0 : Nat) (p1 : Nat) (p2 : Nat) (h : KH) : kM yX2_costOf cX2_costOf 6 (some .int) 2 0 0 (fun x : Int32 => some (.inl x)) [.inr (.inr (some p0)), .inr (.inr (some p1)), .inr (.inr (some p2))] h (f_X2_costOf p0 p1 p2 h) := by
  refine kM_of RX2 (by decide) rfl (Nat.le_of_ble_eq_true rfl) [(0, .inr (.inr (some p0))), (1, .inr (.inr (some p1))), (2, .inr (.inr (some p2)))] rfl (fun X hC hN hT hmc hms hD => ?_)
  unfold f_X2_costOf
  refine kj_aloadn hC 1 dX2_costOf_0 rfl rfl ?_
  refine kj_gI (ci := 7) (k := 1) hC dX2_costOf_1 kf_X2_15 rfl (fun x1 => ?_)
  refine kj_aloadn hC 2 dX2_costOf_4 rfl rfl ?_
  refine kj_gI (ci := 7) (k := 1) hC dX2_costOf_5 kf_X2_15 rfl (fun x2 => ?_)
  refine kj_icmp_eq (tgt := 13) hC dX2_costOf_8 (by decide) (fun q1 => ?_) (fun q1 => ?_)
  · refine kj_iconst (v := 0) hC dX2_costOf_13 (by decide) ?_
    refine kj_istoren (L' := [(3, .inl 0), (0, .inr (.inr (some p0))), (1, .inr (.inr (some p1))), (2, .inr (.inr (some p2)))]) hC dX2_costOf_14 rfl (by decide) rfl ?_
    refine kj_iconst (v := 0) hC dX2_costOf_15 (by decide) ?_
    refine kj_istore (L' := [(4, .inl 0), (3, .inl 0), (0, .inr (.inr (some p0))), (1, .inr (.inr (some p1))), (2, .inr (.inr (some p2)))]) hC dX2_costOf_16 (by decide) rfl ?_
    exact kj_sub [2, 3, 4, 1, 0] rfl (t_X2_costOf_L18 hC hN hT hmc hms hD  kF p0 p1 p2 0 0 h)
  · refine kj_iconst (v := (-1)) hC dX2_costOf_11 (by decide) ?_
    refine kj_fin hmc hms ?_
    exact kj_ireturn hC dX2_costOf_12
set_option maxHeartbeats 4000000 in
set_option maxRecDepth 100000 in
theorem t_X9_plateByText_b65 {X : KX} (hC : kC X RX9 cX9_plateByText 7 (some (.object "Tollkeeper$Plate"))) (hN : (xme X).name = yX9_plateByText.name) (hT : kT0 X) (hmc : xmc X = 0) (hms : xms X = 0) (hD : xD X = 3) (rc7 : Nat → Nat → Option Nat → Int32 → Int32 → KH → KO (Option Nat)) (hr7 : ∀ (v0 : Nat) (v1 : Nat) (v2 : Option Nat) (v3 : Int32) (v4 : Int32) (h : KH), kJ X (fun o : Option Nat => some (.inr (.inr o))) 7 0 0 [(0, .inr (.inr (some v0))), (1, .inr (.inr (some v1))), (2, .inr (.inr v2)), (3, .inl v3), (4, .inl v4)] [] 7 h (rc7 v0 v1 v2 v3 v4 h)) (v0 : Nat) (v1 : Nat) (v2 : Option Nat) (v3 : Int32) (v4 : Int32) (h : KH) : kJ X (fun o : Option Nat => some (.inr (.inr o))) 7 0 0 [(0, .inr (.inr (some v0))), (1, .inr (.inr (some v1))), (2, .inr (.inr v2)), (3, .inl v3), (4, .inl v4)] [] 65 h (X9_plateByText_b65 rc7 v0 v1 v2 v3 v4 h) := by
  unfold X9_plateByText_b65
  refine kj_iinc (v := v4 + 1) (L' := [(4, .inl (v4 + 1)), (0, .inr (.inr (some v0))), (1, .inr (.inr (some v1))), (2, .inr (.inr v2)), (3, .inl v3)]) hC 4 dX9_plateByText_65 rfl rfl (by decide) rfl ?_
  refine kj_goto (tgt := 7) hC dX9_plateByText_68 (by decide) ?_
  exact kj_sub [1, 2, 3, 4, 0] rfl (hr7 v0 v1 v2 v3 (v4 + 1) h)
set_option maxHeartbeats 4000000 in
set_option maxRecDepth 100000 in
theorem t_X9_plateByText_b59 {X : KX} (hC : kC X RX9 cX9_plateByText 7 (some (.object "Tollkeeper$Plate"))) (hN : (xme X).name = yX9_plateByText.name) (hT : kT0 X) (hmc : xmc X = 0) (hms : xms X = 0) (hD : xD X = 3) (rc7 : Nat → Nat → Option Nat → Int32 → Int32 → KH → KO (Option Nat)) (hr7 : ∀ (v0 : Nat) (v1 : Nat) (v2 : Option Nat) (v3 : Int32) (v4 : Int32) (h : KH), kJ X (fun o : Option Nat => some (.inr (.inr o))) 7 0 0 [(0, .inr (.inr (some v0))), (1, .inr (.inr (some v1))), (2, .inr (.inr v2)), (3, .inl v3), (4, .inl v4)] [] 7 h (rc7 v0 v1 v2 v3 v4 h)) (v0 : Nat) (v1 : Nat) (v4 : Int32) (v5 : Nat) (v6 : Int32) (h : KH) : kJ X (fun o : Option Nat => some (.inr (.inr o))) 7 0 0 [(0, .inr (.inr (some v0))), (1, .inr (.inr (some v1))), (4, .inl v4), (5, .inr (.inr (some v5))), (6, .inl v6)] [] 59 h (X9_plateByText_b59 rc7 v0 v1 v4 v5 v6 h) := by
  unfold X9_plateByText_b59
  refine kj_aload hC 3 dX9_plateByText_59 rfl ?_
  refine kj_astoren (L' := [(2, .inr (.inr (some v5))), (0, .inr (.inr (some v0))), (1, .inr (.inr (some v1))), (4, .inl v4), (5, .inr (.inr (some v5))), (6, .inl v6)]) hC dX9_plateByText_61 rfl (by decide) rfl ?_
  refine kj_iload hC 5 dX9_plateByText_62 rfl ?_
  refine kj_istoren (L' := [(3, .inl v6), (2, .inr (.inr (some v5))), (0, .inr (.inr (some v0))), (1, .inr (.inr (some v1))), (4, .inl v4), (5, .inr (.inr (some v5))), (6, .inl v6)]) hC dX9_plateByText_64 rfl (by decide) rfl ?_
  exact kj_sub [2, 3, 1, 0, 4] rfl (t_X9_plateByText_b65 hC hN hT hmc hms hD rc7 hr7 v0 v1 (some v5) v6 v4 h)
set_option maxHeartbeats 4000000 in
set_option maxRecDepth 100000 in
theorem t_X9_plateByText_b7 {X : KX} (hC : kC X RX9 cX9_plateByText 7 (some (.object "Tollkeeper$Plate"))) (hN : (xme X).name = yX9_plateByText.name) (hT : kT0 X) (hmc : xmc X = 0) (hms : xms X = 0) (hD : xD X = 3) (rc7 : Nat → Nat → Option Nat → Int32 → Int32 → KH → KO (Option Nat)) (hr7 : ∀ (v0 : Nat) (v1 : Nat) (v2 : Option Nat) (v3 : Int32) (v4 : Int32) (h : KH), kJ X (fun o : Option Nat => some (.inr (.inr o))) 7 0 0 [(0, .inr (.inr (some v0))), (1, .inr (.inr (some v1))), (2, .inr (.inr v2)), (3, .inl v3), (4, .inl v4)] [] 7 h (rc7 v0 v1 v2 v3 v4 h)) (v0 : Nat) (v1 : Nat) (v2 : Option Nat) (v3 : Int32) (v4 : Int32) (h : KH) : kJ X (fun o : Option Nat => some (.inr (.inr o))) 7 0 0 [(0, .inr (.inr (some v0))), (1, .inr (.inr (some v1))), (2, .inr (.inr v2)), (3, .inl v3), (4, .inl v4)] [] 7 h (X9_plateByText_b7 rc7 v0 v1 v2 v3 v4 h) := by
  unfold X9_plateByText_b7
  refine kj_iload hC 4 dX9_plateByText_7 rfl ?_
  refine kj_aloadn hC 0 dX9_plateByText_9 rfl rfl ?_
  refine kj_gI (ci := 9) (k := 13) hC dX9_plateByText_10 kf_X9_79 rfl (fun x1 => ?_)
  refine kj_icmp_ge (tgt := 71) hC dX9_plateByText_13 (by decide) (fun q1 => ?_) (fun q1 => ?_)
  · refine kj_aloadn hC 2 dX9_plateByText_71 rfl rfl ?_
    refine kj_fin hmc hms ?_
    exact kj_areturn hC dX9_plateByText_72
  · refine kj_aloadn hC 0 dX9_plateByText_16 rfl rfl ?_
    refine kj_gN (ci := 9) (k := 5) hC dX9_plateByText_17 kf_X9_40 rfl (fun a1 => ?_)
    refine kj_iload hC 4 dX9_plateByText_20 rfl ?_
    refine kj_gAN (c := 25) hC dX9_plateByText_22 rfl ⟨rfl, rfl⟩ (fun a2 => ?_)
    refine kj_astore (L' := [(5, .inr (.inr (some a2))), (0, .inr (.inr (some v0))), (1, .inr (.inr (some v1))), (2, .inr (.inr v2)), (3, .inl v3), (4, .inl v4)]) hC dX9_plateByText_23 (by decide) rfl ?_
    refine kj_aloadn hC 1 dX9_plateByText_25 rfl rfl ?_
    refine kj_gN (ci := 9) (k := 3) hC dX9_plateByText_26 kf_X9_30 rfl (fun a3 => ?_)
    refine kj_aloadn hC 2 dX9_plateByText_29 rfl rfl ?_
    refine kj_gN (ci := 5) (k := 3) hC dX9_plateByText_30 kf_X9_267 rfl (fun a4 => ?_)
    refine kj_aload hC 0 dX9_plateByText_33 rfl ?_
    refine kj_gN (ci := 4) (k := 1) hC dX9_plateByText_35 kf_X9_270 rfl (fun a5 => ?_)
    refine kj_invV (ci := 2) (q := (RX2, TX2, 1)) (as := [.inr (.inr (some a4)), .inr (.inr (some a5))]) (rest := []) hC hT dX9_plateByText_38 kw447 ky_X2_costOf ky2_X2_costOf rfl rfl (t_X2_costOf a3 a4 a5 h) rfl rfl (Nat.le_of_ble_eq_true rfl) ⟨by rw [hD]; decide, by decide⟩ ⟨by rw [hmc]; exact Nat.le_of_ble_eq_true rfl, by rw [hms]; exact Nat.le_of_ble_eq_true rfl⟩ (fun x2 h1 => ?_)
    refine kj_norm (st' := [.inl x2]) (c' := 0) (z' := 0) rfl rfl rfl ?_
    refine kj_istore (L' := [(6, .inl x2), (5, .inr (.inr (some a2))), (0, .inr (.inr (some v0))), (1, .inr (.inr (some v1))), (2, .inr (.inr v2)), (3, .inl v3), (4, .inl v4)]) hC dX9_plateByText_41 (by decide) rfl ?_
    refine kj_iload hC 0 dX9_plateByText_43 rfl ?_
    refine kj_iconst (v := (-1)) hC dX9_plateByText_45 (by decide) ?_
    refine kj_icmp_eq (tgt := 65) hC dX9_plateByText_46 (by decide) (fun q2 => ?_) (fun q2 => ?_)
    · exact kj_sub [2, 3, 4, 5, 6] rfl (t_X9_plateByText_b65 hC hN hT hmc hms hD rc7 hr7 v0 v1 v2 v3 v4 h1)
    · refine kj_aloadn hC 4 dX9_plateByText_49 rfl rfl ?_
      refine kj_ifnull (tgt := 59) hC dX9_plateByText_50 (by decide) (fun q => ?_) (fun a6 q => ?_)
      · subst q
        exact kj_sub [2, 3, 6, 1, 0] rfl (t_X9_plateByText_b59 hC hN hT hmc hms hD rc7 hr7 v0 v1 v4 a2 x2 h1)
      · subst q
        refine kj_iload hC 0 dX9_plateByText_53 rfl ?_
        refine kj_iloadn hC 5 dX9_plateByText_55 rfl rfl ?_
        refine kj_icmp_ge (tgt := 65) hC dX9_plateByText_56 (by decide) (fun q3 => ?_) (fun q3 => ?_)
        · exact kj_sub [2, 3, 4, 5, 6] rfl (t_X9_plateByText_b65 hC hN hT hmc hms hD rc7 hr7 v0 v1 (some a6) v3 v4 h1)
        · exact kj_sub [2, 3, 6, 1, 0] rfl (t_X9_plateByText_b59 hC hN hT hmc hms hD rc7 hr7 v0 v1 v4 a2 x2 h1)
set_option maxHeartbeats 4000000 in
set_option maxRecDepth 100000 in
theorem t_X9_plateByText_L7 {X : KX} (hC : kC X RX9 cX9_plateByText 7 (some (.object "Tollkeeper$Plate"))) (hN : (xme X).name = yX9_plateByText.name) (hT : kT0 X) (hmc : xmc X = 0) (hms : xms X = 0) (hD : xD X = 3) : ∀ (n : Nat) (v0 : Nat) (v1 : Nat) (v2 : Option Nat) (v3 : Int32) (v4 : Int32) (h : KH), kJ X (fun o : Option Nat => some (.inr (.inr o))) 7 0 0 [(0, .inr (.inr (some v0))), (1, .inr (.inr (some v1))), (2, .inr (.inr v2)), (3, .inl v3), (4, .inl v4)] [] 7 h (X9_plateByText_L7  n v0 v1 v2 v3 v4 h) := by
  intro n
  induction n with
  | zero => intro v0 v1 v2 v3 v4 h; exact kj_none
  | succ n ih => intro v0 v1 v2 v3 v4 h; exact t_X9_plateByText_b7 hC hN hT hmc hms hD (X9_plateByText_L7  n) ih v0 v1 v2 v3 v4 h
set_option maxHeartbeats 4000000 in
set_option maxRecDepth 100000 in
theorem t_X9_plateByText (p0 : Nat) (p1 : Nat) (h : KH) : kM yX9_plateByText cX9_plateByText 7 (some (.object "Tollkeeper$Plate")) 3 0 0 (fun o : Option Nat => some (.inr (.inr o))) [.inr (.inr (some p0)), .inr (.inr (some p1))] h (f_X9_plateByText p0 p1 h) := by
  refine kM_of RX9 (by decide) rfl (Nat.le_of_ble_eq_true rfl) [(0, .inr (.inr (some p0))), (1, .inr (.inr (some p1)))] rfl (fun X hC hN hT hmc hms hD => ?_)
  unfold f_X9_plateByText
  refine kj_null hC dX9_plateByText_0 ?_
  refine kj_astoren (L' := [(2, .inr (.inr none)), (0, .inr (.inr (some p0))), (1, .inr (.inr (some p1)))]) hC dX9_plateByText_1 rfl (by decide) rfl ?_
  refine kj_iconst (v := 0) hC dX9_plateByText_2 (by decide) ?_
  refine kj_istoren (L' := [(3, .inl 0), (2, .inr (.inr none)), (0, .inr (.inr (some p0))), (1, .inr (.inr (some p1)))]) hC dX9_plateByText_3 rfl (by decide) rfl ?_
  refine kj_iconst (v := 0) hC dX9_plateByText_4 (by decide) ?_
  refine kj_istore (L' := [(4, .inl 0), (3, .inl 0), (2, .inr (.inr none)), (0, .inr (.inr (some p0))), (1, .inr (.inr (some p1)))]) hC dX9_plateByText_5 (by decide) rfl ?_
  exact kj_sub [3, 4, 2, 1, 0] rfl (t_X9_plateByText_L7 hC hN hT hmc hms hD  kF p0 p1 none 0 0 h)
set_option maxHeartbeats 4000000 in
set_option maxRecDepth 100000 in
theorem t_X9_numberOf_b12 {X : KX} (hC : kC X RX9 cX9_numberOf 1 (some .int)) (hN : (xme X).name = yX9_numberOf.name) (hT : kT0 X) (hmc : xmc X = 0) (hms : xms X = 0) (hD : xD X = 0) (s0 : Int32) (h : KH) : kJ X (fun x : Int32 => some (.inl x)) 1 0 0 [] [.inl s0] 12 h (X9_numberOf_b12  s0 h) := by
  unfold X9_numberOf_b12
  refine kj_fin hmc hms ?_
  exact kj_ireturn hC dX9_numberOf_12
set_option maxHeartbeats 4000000 in
set_option maxRecDepth 100000 in
theorem t_X9_numberOf (p0 : Option Nat) (h : KH) : kM yX9_numberOf cX9_numberOf 1 (some .int) 0 0 0 (fun x : Int32 => some (.inl x)) [.inr (.inr p0)] h (f_X9_numberOf p0 h) := by
  refine kM_of RX9 (by decide) rfl (Nat.le_of_ble_eq_true rfl) [(0, .inr (.inr p0))] rfl (fun X hC hN hT hmc hms hD => ?_)
  unfold f_X9_numberOf
  refine kj_aloadn hC 0 dX9_numberOf_0 rfl rfl ?_
  refine kj_ifnonnull (tgt := 8) hC dX9_numberOf_1 (by decide) (fun q => ?_) (fun a1 q => ?_)
  · subst q
    refine kj_iconst (v := (-1)) hC dX9_numberOf_4 (by decide) ?_
    refine kj_goto (tgt := 12) hC dX9_numberOf_5 (by decide) ?_
    exact kj_sub [] rfl (t_X9_numberOf_b12 hC hN hT hmc hms hD  ((-1)) h)
  · subst q
    refine kj_aloadn hC 0 dX9_numberOf_8 rfl rfl ?_
    refine kj_gI (ci := 4) (k := 0) hC dX9_numberOf_9 kf_X9_210 rfl (fun x1 => ?_)
    exact kj_sub [] rfl (t_X9_numberOf_b12 hC hN hT hmc hms hD  x1 h)
set_option maxHeartbeats 4000000 in
set_option maxRecDepth 100000 in
theorem t_X3_placeOf_b2 {X : KX} (hC : kC X RX3 cX3_placeOf 3 (some .int)) (hN : (xme X).name = yX3_placeOf.name) (hT : kT0 X) (hmc : xmc X = 0) (hms : xms X = 0) (hD : xD X = 0) (rc2 : Nat → Nat → Int32 → KH → KO Int32) (hr2 : ∀ (v0 : Nat) (v1 : Nat) (v2 : Int32) (h : KH), kJ X (fun x : Int32 => some (.inl x)) 3 0 0 [(0, .inr (.inr (some v0))), (1, .inr (.inr (some v1))), (2, .inl v2)] [] 2 h (rc2 v0 v1 v2 h)) (v0 : Nat) (v1 : Nat) (v2 : Int32) (h : KH) : kJ X (fun x : Int32 => some (.inl x)) 3 0 0 [(0, .inr (.inr (some v0))), (1, .inr (.inr (some v1))), (2, .inl v2)] [] 2 h (X3_placeOf_b2 rc2 v0 v1 v2 h) := by
  unfold X3_placeOf_b2
  refine kj_iloadn hC 2 dX3_placeOf_2 rfl rfl ?_
  refine kj_aloadn hC 0 dX3_placeOf_3 rfl rfl ?_
  refine kj_gI (ci := 3) (k := 2) hC dX3_placeOf_4 kf_X3_21 rfl (fun x1 => ?_)
  refine kj_icmp_ge (tgt := 34) hC dX3_placeOf_7 (by decide) (fun q1 => ?_) (fun q1 => ?_)
  · refine kj_iconst (v := (-1)) hC dX3_placeOf_34 (by decide) ?_
    refine kj_fin hmc hms ?_
    exact kj_ireturn hC dX3_placeOf_35
  · refine kj_aloadn hC 0 dX3_placeOf_10 rfl rfl ?_
    refine kj_gN (ci := 3) (k := 0) hC dX3_placeOf_11 kf_X3_11 rfl (fun a1 => ?_)
    refine kj_iloadn hC 2 dX3_placeOf_14 rfl rfl ?_
    refine kj_gAN (c := 26) hC dX3_placeOf_15 rfl ⟨rfl, rfl⟩ (fun a2 => ?_)
    refine kj_gI (ci := 5) (k := 0) hC dX3_placeOf_16 kf_X3_57 rfl (fun x2 => ?_)
    refine kj_aloadn hC 1 dX3_placeOf_19 rfl rfl ?_
    refine kj_gI (ci := 5) (k := 0) hC dX3_placeOf_20 kf_X3_57 rfl (fun x3 => ?_)
    refine kj_icmp_ne (tgt := 28) hC dX3_placeOf_23 (by decide) (fun q2 => ?_) (fun q2 => ?_)
    · refine kj_iloadn hC 2 dX3_placeOf_26 rfl rfl ?_
      refine kj_fin hmc hms ?_
      exact kj_ireturn hC dX3_placeOf_27
    · refine kj_iinc (v := v2 + 1) (L' := [(2, .inl (v2 + 1)), (0, .inr (.inr (some v0))), (1, .inr (.inr (some v1)))]) hC 2 dX3_placeOf_28 rfl rfl (by decide) rfl ?_
      refine kj_goto (tgt := 2) hC dX3_placeOf_31 (by decide) ?_
      exact kj_sub [1, 2, 0] rfl (hr2 v0 v1 (v2 + 1) h)
set_option maxHeartbeats 4000000 in
set_option maxRecDepth 100000 in
theorem t_X3_placeOf_L2 {X : KX} (hC : kC X RX3 cX3_placeOf 3 (some .int)) (hN : (xme X).name = yX3_placeOf.name) (hT : kT0 X) (hmc : xmc X = 0) (hms : xms X = 0) (hD : xD X = 0) : ∀ (n : Nat) (v0 : Nat) (v1 : Nat) (v2 : Int32) (h : KH), kJ X (fun x : Int32 => some (.inl x)) 3 0 0 [(0, .inr (.inr (some v0))), (1, .inr (.inr (some v1))), (2, .inl v2)] [] 2 h (X3_placeOf_L2  n v0 v1 v2 h) := by
  intro n
  induction n with
  | zero => intro v0 v1 v2 h; exact kj_none
  | succ n ih => intro v0 v1 v2 h; exact t_X3_placeOf_b2 hC hN hT hmc hms hD (X3_placeOf_L2  n) ih v0 v1 v2 h
set_option maxHeartbeats 4000000 in
set_option maxRecDepth 100000 in
theorem t_X3_placeOf (p0 : Nat) (p1 : Nat) (h : KH) : kM yX3_placeOf cX3_placeOf 3 (some .int) 0 0 0 (fun x : Int32 => some (.inl x)) [.inr (.inr (some p0)), .inr (.inr (some p1))] h (f_X3_placeOf p0 p1 h) := by
  refine kM_of RX3 (by decide) rfl (Nat.le_of_ble_eq_true rfl) [(0, .inr (.inr (some p0))), (1, .inr (.inr (some p1)))] rfl (fun X hC hN hT hmc hms hD => ?_)
  unfold f_X3_placeOf
  refine kj_iconst (v := 0) hC dX3_placeOf_0 (by decide) ?_
  refine kj_istoren (L' := [(2, .inl 0), (0, .inr (.inr (some p0))), (1, .inr (.inr (some p1)))]) hC dX3_placeOf_1 rfl (by decide) rfl ?_
  exact kj_sub [1, 2, 0] rfl (t_X3_placeOf_L2 hC hN hT hmc hms hD  kF p0 p1 0 h)
set_option maxHeartbeats 4000000 in
set_option maxRecDepth 100000 in
theorem t_X3_take_b25 {X : KX} (hC : kC X RX3 cX3_take 5 none) (hN : (xme X).name = yX3_take.name) (hT : kT0 X) (hmc : xmc X = 0) (hms : xms X = 0) (hD : xD X = 3) (rc25 : Nat → Nat → Int32 → Int32 → KH → KO Unit) (hr25 : ∀ (v0 : Nat) (v2 : Nat) (v3 : Int32) (v4 : Int32) (h : KH), kJ X (fun _ : Unit => none) 5 0 0 [(0, .inr (.inr (some v0))), (2, .inr (.inr (some v2))), (3, .inl v3), (4, .inl v4)] [] 25 h (rc25 v0 v2 v3 v4 h)) (v0 : Nat) (v2 : Nat) (v3 : Int32) (v4 : Int32) (h : KH) : kJ X (fun _ : Unit => none) 5 0 0 [(0, .inr (.inr (some v0))), (2, .inr (.inr (some v2))), (3, .inl v3), (4, .inl v4)] [] 25 h (X3_take_b25 rc25 v0 v2 v3 v4 h) := by
  unfold X3_take_b25
  refine kj_iload hC 3 dX3_take_25 rfl ?_
  refine kj_aloadn hC 0 dX3_take_27 rfl rfl ?_
  refine kj_gI (ci := 3) (k := 2) hC dX3_take_28 kf_X3_21 rfl (fun x1 => ?_)
  refine kj_icmp_ge (tgt := 72) hC dX3_take_31 (by decide) (fun q1 => ?_) (fun q1 => ?_)
  · refine kj_aloadn hC 0 dX3_take_72 rfl rfl ?_
    refine kj_iloadn hC 2 dX3_take_73 rfl rfl ?_
    refine kj_aloadn hC 1 dX3_take_74 rfl rfl ?_
    refine kj_invV (ci := 3) (q := (RX3, TX3, 3)) (as := [.inl v3, .inr (.inr (some v2))]) (rest := []) hC hT dX3_take_75 kw474 ky_X3_seeBeginning ky2_X3_seeBeginning rfl rfl (t_X3_seeBeginning v0 v3 v2 h) rfl rfl (Nat.le_of_ble_eq_true rfl) ⟨by rw [hD]; decide, by decide⟩ ⟨by rw [hmc]; exact Nat.le_of_ble_eq_true rfl, by rw [hms]; exact Nat.le_of_ble_eq_true rfl⟩ (fun _ h1 => ?_)
    refine kj_norm (st' := []) (c' := 0) (z' := 0) rfl rfl rfl ?_
    refine kj_fin hmc hms ?_
    exact kj_return hC dX3_take_78
  · refine kj_aloadn hC 0 dX3_take_34 rfl rfl ?_
    refine kj_gN (ci := 3) (k := 0) hC dX3_take_35 kf_X3_11 rfl (fun a1 => ?_)
    refine kj_iload hC 3 dX3_take_38 rfl ?_
    refine kj_aloadn hC 0 dX3_take_40 rfl rfl ?_
    refine kj_gN (ci := 3) (k := 0) hC dX3_take_41 kf_X3_11 rfl (fun a2 => ?_)
    refine kj_iload hC 3 dX3_take_44 rfl ?_
    refine kj_iconst (v := 1) hC dX3_take_46 (by decide) ?_
    refine kj_iadd hC dX3_take_47 ?_
    refine kj_gAN (c := 26) hC dX3_take_48 rfl ⟨rfl, rfl⟩ (fun a3 => ?_)
    refine kj_pAN (c := 26) (ci := 5) (q := (RX5, TX5, 6)) hC dX3_take_49 rfl rfl (fun h2 => ?_)
    refine kj_aloadn hC 0 dX3_take_50 rfl rfl ?_
    refine kj_gN (ci := 3) (k := 1) hC dX3_take_51 kf_X3_17 rfl (fun a4 => ?_)
    refine kj_iload hC 3 dX3_take_54 rfl ?_
    refine kj_aloadn hC 0 dX3_take_56 rfl rfl ?_
    refine kj_gN (ci := 3) (k := 1) hC dX3_take_57 kf_X3_17 rfl (fun a5 => ?_)
    refine kj_iload hC 3 dX3_take_60 rfl ?_
    refine kj_iconst (v := 1) hC dX3_take_62 (by decide) ?_
    refine kj_iadd hC dX3_take_63 ?_
    refine kj_gAZ hC dX3_take_64 (fun x2 => ?_)
    refine kj_pAZ hC dX3_take_65 (fun h3 => ?_)
    refine kj_iinc (v := v4 + 1) (L' := [(4, .inl (v4 + 1)), (0, .inr (.inr (some v0))), (2, .inr (.inr (some v2))), (3, .inl v3)]) hC 3 dX3_take_66 rfl rfl (by decide) rfl ?_
    refine kj_goto (tgt := 25) hC dX3_take_69 (by decide) ?_
    exact kj_sub [1, 2, 3, 0] rfl (hr25 v0 v2 v3 (v4 + 1) h3)
set_option maxHeartbeats 4000000 in
set_option maxRecDepth 100000 in
theorem t_X3_take_L25 {X : KX} (hC : kC X RX3 cX3_take 5 none) (hN : (xme X).name = yX3_take.name) (hT : kT0 X) (hmc : xmc X = 0) (hms : xms X = 0) (hD : xD X = 3) : ∀ (n : Nat) (v0 : Nat) (v2 : Nat) (v3 : Int32) (v4 : Int32) (h : KH), kJ X (fun _ : Unit => none) 5 0 0 [(0, .inr (.inr (some v0))), (2, .inr (.inr (some v2))), (3, .inl v3), (4, .inl v4)] [] 25 h (X3_take_L25  n v0 v2 v3 v4 h) := by
  intro n
  induction n with
  | zero => intro v0 v2 v3 v4 h; exact kj_none
  | succ n ih => intro v0 v2 v3 v4 h; exact t_X3_take_b25 hC hN hT hmc hms hD (X3_take_L25  n) ih v0 v2 v3 v4 h
set_option maxHeartbeats 4000000 in
set_option maxRecDepth 100000 in
theorem t_X3_take (p0 : Nat) (p1 : Nat) (p2 : Nat) (h : KH) : kM yX3_take cX3_take 5 none 3 0 0 (fun _ : Unit => none) [.inr (.inr (some p0)), .inr (.inr (some p1)), .inr (.inr (some p2))] h (f_X3_take p0 p1 p2 h) := by
  refine kM_of RX3 (by decide) rfl (Nat.le_of_ble_eq_true rfl) [(0, .inr (.inr (some p0))), (1, .inr (.inr (some p1))), (2, .inr (.inr (some p2)))] rfl (fun X hC hN hT hmc hms hD => ?_)
  unfold f_X3_take
  refine kj_aloadn hC 0 dX3_take_0 rfl rfl ?_
  refine kj_aloadn hC 1 dX3_take_1 rfl rfl ?_
  refine kj_invV (ci := 3) (q := (RX3, TX3, 3)) (as := [.inr (.inr (some p1))]) (rest := []) hC hT dX3_take_2 kw470 ky_X3_placeOf ky2_X3_placeOf rfl rfl (t_X3_placeOf p0 p1 h) rfl rfl (Nat.le_of_ble_eq_true rfl) ⟨by rw [hD]; decide, by decide⟩ ⟨by rw [hmc]; exact Nat.le_of_ble_eq_true rfl, by rw [hms]; exact Nat.le_of_ble_eq_true rfl⟩ (fun x1 h1 => ?_)
  refine kj_norm (st' := [.inl x1]) (c' := 0) (z' := 0) rfl rfl rfl ?_
  refine kj_istoren (L' := [(3, .inl x1), (0, .inr (.inr (some p0))), (1, .inr (.inr (some p1))), (2, .inr (.inr (some p2)))]) hC dX3_take_5 rfl (by decide) rfl ?_
  refine kj_iloadn hC 0 dX3_take_6 rfl rfl ?_
  refine kj_iconst (v := (-1)) hC dX3_take_7 (by decide) ?_
  refine kj_icmp_ne (tgt := 12) hC dX3_take_8 (by decide) (fun q1 => ?_) (fun q1 => ?_)
  · refine kj_fin hmc hms ?_
    exact kj_return hC dX3_take_11
  · refine kj_aloadn hC 1 dX3_take_12 rfl rfl ?_
    refine kj_dup hC dX3_take_13 rfl ?_
    refine kj_gI (ci := 3) (k := 2) hC dX3_take_14 kf_X3_21 rfl (fun x2 => ?_)
    refine kj_iconst (v := 1) hC dX3_take_17 (by decide) ?_
    refine kj_isub hC dX3_take_18 ?_
    refine kj_pI (ci := 3) (k := 2) hC dX3_take_19 kf_X3_21 (Or.inl (kNF_of (by decide))) rfl ⟨rfl, rfl⟩ (fun h2 => ?_)
    refine kj_iloadn hC 0 dX3_take_22 rfl rfl ?_
    refine kj_istore (L' := [(4, .inl x1), (3, .inl x1), (0, .inr (.inr (some p0))), (1, .inr (.inr (some p1))), (2, .inr (.inr (some p2)))]) hC dX3_take_23 (by decide) rfl ?_
    exact kj_sub [2, 4, 1, 0] rfl (t_X3_take_L25 hC hN hT hmc hms hD  kF p0 p2 x1 x1 h2)
set_option maxHeartbeats 4000000 in
set_option maxRecDepth 100000 in
theorem t_X5_isAheadOf_b38 {X : KX} (hC : kC X RX5 cX5_isAheadOf 2 (some .boolean)) (hN : (xme X).name = yX5_isAheadOf.name) (hT : kT0 X) (hmc : xmc X = 0) (hms : xms X = 0) (hD : xD X = 0) (s0 : Int32) (h : KH) : kJ X (fun x : Int32 => some (.inl x)) 2 0 0 [] [.inl s0] 38 h (X5_isAheadOf_b38  s0 h) := by
  unfold X5_isAheadOf_b38
  refine kj_fin hmc hms ?_
  exact kj_zreturn hC dX5_isAheadOf_38
set_option maxHeartbeats 4000000 in
set_option maxRecDepth 100000 in
theorem t_X5_isAheadOf_b37 {X : KX} (hC : kC X RX5 cX5_isAheadOf 2 (some .boolean)) (hN : (xme X).name = yX5_isAheadOf.name) (hT : kT0 X) (hmc : xmc X = 0) (hms : xms X = 0) (hD : xD X = 0)  (h : KH) : kJ X (fun x : Int32 => some (.inl x)) 2 0 0 [] [] 37 h (X5_isAheadOf_b37   h) := by
  unfold X5_isAheadOf_b37
  refine kj_iconst (v := 0) hC dX5_isAheadOf_37 (by decide) ?_
  exact kj_sub [] rfl (t_X5_isAheadOf_b38 hC hN hT hmc hms hD  0 h)
set_option maxHeartbeats 4000000 in
set_option maxRecDepth 100000 in
theorem t_X5_isAheadOf_b33 {X : KX} (hC : kC X RX5 cX5_isAheadOf 2 (some .boolean)) (hN : (xme X).name = yX5_isAheadOf.name) (hT : kT0 X) (hmc : xmc X = 0) (hms : xms X = 0) (hD : xD X = 0)  (h : KH) : kJ X (fun x : Int32 => some (.inl x)) 2 0 0 [] [] 33 h (X5_isAheadOf_b33   h) := by
  unfold X5_isAheadOf_b33
  refine kj_iconst (v := 1) hC dX5_isAheadOf_33 (by decide) ?_
  refine kj_goto (tgt := 38) hC dX5_isAheadOf_34 (by decide) ?_
  exact kj_sub [] rfl (t_X5_isAheadOf_b38 hC hN hT hmc hms hD  1 h)
set_option maxHeartbeats 4000000 in
set_option maxRecDepth 100000 in
theorem t_X5_isAheadOf (p0 : Nat) (p1 : Nat) (h : KH) : kM yX5_isAheadOf cX5_isAheadOf 2 (some .boolean) 0 0 0 (fun x : Int32 => some (.inl x)) [.inr (.inr (some p0)), .inr (.inr (some p1))] h (f_X5_isAheadOf p0 p1 h) := by
  refine kM_of RX5 (by decide) rfl (Nat.le_of_ble_eq_true rfl) [(0, .inr (.inr (some p0))), (1, .inr (.inr (some p1)))] rfl (fun X hC hN hT hmc hms hD => ?_)
  unfold f_X5_isAheadOf
  refine kj_aloadn hC 0 dX5_isAheadOf_0 rfl rfl ?_
  refine kj_gI (ci := 5) (k := 2) hC dX5_isAheadOf_1 kf_X5_24 rfl (fun x1 => ?_)
  refine kj_aloadn hC 1 dX5_isAheadOf_4 rfl rfl ?_
  refine kj_gI (ci := 5) (k := 2) hC dX5_isAheadOf_5 kf_X5_24 rfl (fun x2 => ?_)
  refine kj_icmp_lt (tgt := 33) hC dX5_isAheadOf_8 (by decide) (fun q1 => ?_) (fun q1 => ?_)
  · exact kj_sub [] rfl (t_X5_isAheadOf_b33 hC hN hT hmc hms hD   h)
  · refine kj_aloadn hC 0 dX5_isAheadOf_11 rfl rfl ?_
    refine kj_gI (ci := 5) (k := 2) hC dX5_isAheadOf_12 kf_X5_24 rfl (fun x3 => ?_)
    refine kj_aloadn hC 1 dX5_isAheadOf_15 rfl rfl ?_
    refine kj_gI (ci := 5) (k := 2) hC dX5_isAheadOf_16 kf_X5_24 rfl (fun x4 => ?_)
    refine kj_icmp_ne (tgt := 37) hC dX5_isAheadOf_19 (by decide) (fun q2 => ?_) (fun q2 => ?_)
    · refine kj_aloadn hC 0 dX5_isAheadOf_22 rfl rfl ?_
      refine kj_gI (ci := 5) (k := 0) hC dX5_isAheadOf_23 kf_X5_17 rfl (fun x5 => ?_)
      refine kj_aloadn hC 1 dX5_isAheadOf_26 rfl rfl ?_
      refine kj_gI (ci := 5) (k := 0) hC dX5_isAheadOf_27 kf_X5_17 rfl (fun x6 => ?_)
      refine kj_icmp_ge (tgt := 37) hC dX5_isAheadOf_30 (by decide) (fun q3 => ?_) (fun q3 => ?_)
      · exact kj_sub [] rfl (t_X5_isAheadOf_b37 hC hN hT hmc hms hD   h)
      · exact kj_sub [] rfl (t_X5_isAheadOf_b33 hC hN hT hmc hms hD   h)
    · exact kj_sub [] rfl (t_X5_isAheadOf_b37 hC hN hT hmc hms hD   h)
set_option maxHeartbeats 4000000 in
set_option maxRecDepth 100000 in
theorem t_X3_insertInOrder_b58 {X : KX} (hC : kC X RX3 cX3_insertInOrder 3 (some .int)) (hN : (xme X).name = yX3_insertInOrder.name) (hT : kT0 X) (hmc : xmc X = 0) (hms : xms X = 0) (hD : xD X = 1) (v0 : Nat) (v1 : Nat) (v2 : Int32) (h : KH) : kJ X (fun x : Int32 => some (.inl x)) 3 0 0 [(0, .inr (.inr (some v0))), (1, .inr (.inr (some v1))), (2, .inl v2)] [] 58 h (X3_insertInOrder_b58  v0 v1 v2 h) := by
  unfold X3_insertInOrder_b58
  refine kj_aloadn hC 0 dX3_insertInOrder_58 rfl rfl ?_
  refine kj_gN (ci := 3) (k := 0) hC dX3_insertInOrder_59 kf_X3_11 rfl (fun a1 => ?_)
  refine kj_iloadn hC 2 dX3_insertInOrder_62 rfl rfl ?_
  refine kj_aloadn hC 1 dX3_insertInOrder_63 rfl rfl ?_
  refine kj_pAN (c := 26) (ci := 5) (q := (RX5, TX5, 6)) hC dX3_insertInOrder_64 rfl rfl (fun h1 => ?_)
  refine kj_aloadn hC 0 dX3_insertInOrder_65 rfl rfl ?_
  refine kj_dup hC dX3_insertInOrder_66 rfl ?_
  refine kj_gI (ci := 3) (k := 2) hC dX3_insertInOrder_67 kf_X3_21 rfl (fun x1 => ?_)
  refine kj_iconst (v := 1) hC dX3_insertInOrder_70 (by decide) ?_
  refine kj_iadd hC dX3_insertInOrder_71 ?_
  refine kj_pI (ci := 3) (k := 2) hC dX3_insertInOrder_72 kf_X3_21 (Or.inl (kNF_of (by decide))) rfl ⟨rfl, rfl⟩ (fun h2 => ?_)
  refine kj_iloadn hC 2 dX3_insertInOrder_75 rfl rfl ?_
  refine kj_fin hmc hms ?_
  exact kj_ireturn hC dX3_insertInOrder_76
set_option maxHeartbeats 4000000 in
set_option maxRecDepth 100000 in
theorem t_X3_insertInOrder_b5 {X : KX} (hC : kC X RX3 cX3_insertInOrder 3 (some .int)) (hN : (xme X).name = yX3_insertInOrder.name) (hT : kT0 X) (hmc : xmc X = 0) (hms : xms X = 0) (hD : xD X = 1) (rc5 : Nat → Nat → Int32 → KH → KO Int32) (hr5 : ∀ (v0 : Nat) (v1 : Nat) (v2 : Int32) (h : KH), kJ X (fun x : Int32 => some (.inl x)) 3 0 0 [(0, .inr (.inr (some v0))), (1, .inr (.inr (some v1))), (2, .inl v2)] [] 5 h (rc5 v0 v1 v2 h)) (v0 : Nat) (v1 : Nat) (v2 : Int32) (h : KH) : kJ X (fun x : Int32 => some (.inl x)) 3 0 0 [(0, .inr (.inr (some v0))), (1, .inr (.inr (some v1))), (2, .inl v2)] [] 5 h (X3_insertInOrder_b5 rc5 v0 v1 v2 h) := by
  unfold X3_insertInOrder_b5
  refine kj_iloadn hC 2 dX3_insertInOrder_5 rfl rfl ?_
  refine kj_if_le (tgt := 58) hC dX3_insertInOrder_6 (by decide) (fun q1 => ?_) (fun q1 => ?_)
  · exact kj_sub [0, 1, 2] rfl (t_X3_insertInOrder_b58 hC hN hT hmc hms hD  v0 v1 v2 h)
  · refine kj_aloadn hC 1 dX3_insertInOrder_9 rfl rfl ?_
    refine kj_aloadn hC 0 dX3_insertInOrder_10 rfl rfl ?_
    refine kj_gN (ci := 3) (k := 0) hC dX3_insertInOrder_11 kf_X3_11 rfl (fun a1 => ?_)
    refine kj_iloadn hC 2 dX3_insertInOrder_14 rfl rfl ?_
    refine kj_iconst (v := 1) hC dX3_insertInOrder_15 (by decide) ?_
    refine kj_isub hC dX3_insertInOrder_16 ?_
    refine kj_gAN (c := 26) hC dX3_insertInOrder_17 rfl ⟨rfl, rfl⟩ (fun a2 => ?_)
    refine kj_invV (ci := 5) (q := (RX5, TX5, 6)) (as := [.inr (.inr (some a2))]) (rest := []) hC hT dX3_insertInOrder_18 kw494 ky_X5_isAheadOf ky2_X5_isAheadOf rfl rfl (t_X5_isAheadOf v1 a2 h) rfl rfl (Nat.le_of_ble_eq_true rfl) ⟨by rw [hD]; decide, by decide⟩ ⟨by rw [hmc]; exact Nat.le_of_ble_eq_true rfl, by rw [hms]; exact Nat.le_of_ble_eq_true rfl⟩ (fun x1 h1 => ?_)
    refine kj_norm (st' := [.inl x1]) (c' := 0) (z' := 0) rfl rfl rfl ?_
    refine kj_if_eq (tgt := 58) hC dX3_insertInOrder_21 (by decide) (fun q2 => ?_) (fun q2 => ?_)
    · exact kj_sub [0, 1, 2] rfl (t_X3_insertInOrder_b58 hC hN hT hmc hms hD  v0 v1 v2 h1)
    · refine kj_aloadn hC 0 dX3_insertInOrder_24 rfl rfl ?_
      refine kj_gN (ci := 3) (k := 0) hC dX3_insertInOrder_25 kf_X3_11 rfl (fun a3 => ?_)
      refine kj_iloadn hC 2 dX3_insertInOrder_28 rfl rfl ?_
      refine kj_aloadn hC 0 dX3_insertInOrder_29 rfl rfl ?_
      refine kj_gN (ci := 3) (k := 0) hC dX3_insertInOrder_30 kf_X3_11 rfl (fun a4 => ?_)
      refine kj_iloadn hC 2 dX3_insertInOrder_33 rfl rfl ?_
      refine kj_iconst (v := 1) hC dX3_insertInOrder_34 (by decide) ?_
      refine kj_isub hC dX3_insertInOrder_35 ?_
      refine kj_gAN (c := 26) hC dX3_insertInOrder_36 rfl ⟨rfl, rfl⟩ (fun a5 => ?_)
      refine kj_pAN (c := 26) (ci := 5) (q := (RX5, TX5, 6)) hC dX3_insertInOrder_37 rfl rfl (fun h2 => ?_)
      refine kj_aloadn hC 0 dX3_insertInOrder_38 rfl rfl ?_
      refine kj_gN (ci := 3) (k := 1) hC dX3_insertInOrder_39 kf_X3_17 rfl (fun a6 => ?_)
      refine kj_iloadn hC 2 dX3_insertInOrder_42 rfl rfl ?_
      refine kj_aloadn hC 0 dX3_insertInOrder_43 rfl rfl ?_
      refine kj_gN (ci := 3) (k := 1) hC dX3_insertInOrder_44 kf_X3_17 rfl (fun a7 => ?_)
      refine kj_iloadn hC 2 dX3_insertInOrder_47 rfl rfl ?_
      refine kj_iconst (v := 1) hC dX3_insertInOrder_48 (by decide) ?_
      refine kj_isub hC dX3_insertInOrder_49 ?_
      refine kj_gAZ hC dX3_insertInOrder_50 (fun x2 => ?_)
      refine kj_pAZ hC dX3_insertInOrder_51 (fun h3 => ?_)
      refine kj_iinc (v := v2 + (-1)) (L' := [(2, .inl (v2 + (-1))), (0, .inr (.inr (some v0))), (1, .inr (.inr (some v1)))]) hC 2 dX3_insertInOrder_52 rfl rfl (by decide) rfl ?_
      refine kj_goto (tgt := 5) hC dX3_insertInOrder_55 (by decide) ?_
      exact kj_sub [1, 2, 0] rfl (hr5 v0 v1 (v2 + (-1)) h3)
set_option maxHeartbeats 4000000 in
set_option maxRecDepth 100000 in
theorem t_X3_insertInOrder_L5 {X : KX} (hC : kC X RX3 cX3_insertInOrder 3 (some .int)) (hN : (xme X).name = yX3_insertInOrder.name) (hT : kT0 X) (hmc : xmc X = 0) (hms : xms X = 0) (hD : xD X = 1) : ∀ (n : Nat) (v0 : Nat) (v1 : Nat) (v2 : Int32) (h : KH), kJ X (fun x : Int32 => some (.inl x)) 3 0 0 [(0, .inr (.inr (some v0))), (1, .inr (.inr (some v1))), (2, .inl v2)] [] 5 h (X3_insertInOrder_L5  n v0 v1 v2 h) := by
  intro n
  induction n with
  | zero => intro v0 v1 v2 h; exact kj_none
  | succ n ih => intro v0 v1 v2 h; exact t_X3_insertInOrder_b5 hC hN hT hmc hms hD (X3_insertInOrder_L5  n) ih v0 v1 v2 h
set_option maxHeartbeats 4000000 in
set_option maxRecDepth 100000 in
theorem t_X3_insertInOrder (p0 : Nat) (p1 : Nat) (h : KH) : kM yX3_insertInOrder cX3_insertInOrder 3 (some .int) 1 0 0 (fun x : Int32 => some (.inl x)) [.inr (.inr (some p0)), .inr (.inr (some p1))] h (f_X3_insertInOrder p0 p1 h) := by
  refine kM_of RX3 (by decide) rfl (Nat.le_of_ble_eq_true rfl) [(0, .inr (.inr (some p0))), (1, .inr (.inr (some p1)))] rfl (fun X hC hN hT hmc hms hD => ?_)
  unfold f_X3_insertInOrder
  refine kj_aloadn hC 0 dX3_insertInOrder_0 rfl rfl ?_
  refine kj_gI (ci := 3) (k := 2) hC dX3_insertInOrder_1 kf_X3_21 rfl (fun x1 => ?_)
  refine kj_istoren (L' := [(2, .inl x1), (0, .inr (.inr (some p0))), (1, .inr (.inr (some p1)))]) hC dX3_insertInOrder_4 rfl (by decide) rfl ?_
  exact kj_sub [1, 2, 0] rfl (t_X3_insertInOrder_L5 hC hN hT hmc hms hD  kF p0 p1 x1 h)
set_option maxHeartbeats 4000000 in
set_option maxRecDepth 100000 in
theorem t_X3_put (p0 : Nat) (p1 : Nat) (p2 : Nat) (h : KH) : kM yX3_put cX3_put 4 none 3 0 0 (fun _ : Unit => none) [.inr (.inr (some p0)), .inr (.inr (some p1)), .inr (.inr (some p2))] h (f_X3_put p0 p1 p2 h) := by
  refine kM_of RX3 (by decide) rfl (Nat.le_of_ble_eq_true rfl) [(0, .inr (.inr (some p0))), (1, .inr (.inr (some p1))), (2, .inr (.inr (some p2)))] rfl (fun X hC hN hT hmc hms hD => ?_)
  unfold f_X3_put
  refine kj_aloadn hC 0 dX3_put_0 rfl rfl ?_
  refine kj_aloadn hC 1 dX3_put_1 rfl rfl ?_
  refine kj_invV (ci := 3) (q := (RX3, TX3, 3)) (as := [.inr (.inr (some p1))]) (rest := []) hC hT dX3_put_2 kw490 ky_X3_insertInOrder ky2_X3_insertInOrder rfl rfl (t_X3_insertInOrder p0 p1 h) rfl rfl (Nat.le_of_ble_eq_true rfl) ⟨by rw [hD]; decide, by decide⟩ ⟨by rw [hmc]; exact Nat.le_of_ble_eq_true rfl, by rw [hms]; exact Nat.le_of_ble_eq_true rfl⟩ (fun x1 h1 => ?_)
  refine kj_norm (st' := [.inl x1]) (c' := 0) (z' := 0) rfl rfl rfl ?_
  refine kj_istoren (L' := [(3, .inl x1), (0, .inr (.inr (some p0))), (1, .inr (.inr (some p1))), (2, .inr (.inr (some p2)))]) hC dX3_put_5 rfl (by decide) rfl ?_
  refine kj_aloadn hC 1 dX3_put_6 rfl rfl ?_
  refine kj_iloadn hC 0 dX3_put_7 rfl rfl ?_
  refine kj_aloadn hC 3 dX3_put_8 rfl rfl ?_
  refine kj_invV (ci := 3) (q := (RX3, TX3, 3)) (as := [.inl x1, .inr (.inr (some p2))]) (rest := []) hC hT dX3_put_9 kw474 ky_X3_seeBeginning ky2_X3_seeBeginning rfl rfl (t_X3_seeBeginning p0 x1 p2 h1) rfl rfl (Nat.le_of_ble_eq_true rfl) ⟨by rw [hD]; decide, by decide⟩ ⟨by rw [hmc]; exact Nat.le_of_ble_eq_true rfl, by rw [hms]; exact Nat.le_of_ble_eq_true rfl⟩ (fun _ h2 => ?_)
  refine kj_norm (st' := []) (c' := 0) (z' := 0) rfl rfl rfl ?_
  refine kj_aloadn hC 1 dX3_put_12 rfl rfl ?_
  refine kj_iloadn hC 0 dX3_put_13 rfl rfl ?_
  refine kj_iconst (v := 1) hC dX3_put_14 (by decide) ?_
  refine kj_iadd hC dX3_put_15 ?_
  refine kj_aloadn hC 3 dX3_put_16 rfl rfl ?_
  refine kj_invV (ci := 3) (q := (RX3, TX3, 3)) (as := [.inl (x1 + 1), .inr (.inr (some p2))]) (rest := []) hC hT dX3_put_17 kw474 ky_X3_seeBeginning ky2_X3_seeBeginning rfl rfl (t_X3_seeBeginning p0 (x1 + 1) p2 h2) rfl rfl (Nat.le_of_ble_eq_true rfl) ⟨by rw [hD]; decide, by decide⟩ ⟨by rw [hmc]; exact Nat.le_of_ble_eq_true rfl, by rw [hms]; exact Nat.le_of_ble_eq_true rfl⟩ (fun _ h3 => ?_)
  refine kj_norm (st' := []) (c' := 0) (z' := 0) rfl rfl rfl ?_
  refine kj_fin hmc hms ?_
  exact kj_return hC dX3_put_20
set_option maxHeartbeats 4000000 in
set_option maxRecDepth 100000 in
theorem t_X9_move_b58 {X : KX} (hC : kC X RX9 cX9_move 3 none) (hN : (xme X).name = yX9_move.name) (hT : kT0 X) (hmc : xmc X = 0) (hms : xms X = 0) (hD : xD X = 4)  (h : KH) : kJ X (fun _ : Unit => none) 3 0 0 [] [] 58 h (X9_move_b58   h) := by
  unfold X9_move_b58
  refine kj_fin hmc hms ?_
  exact kj_return hC dX9_move_58
set_option maxHeartbeats 4000000 in
set_option maxRecDepth 100000 in
theorem t_X9_move_b37 {X : KX} (hC : kC X RX9 cX9_move 3 none) (hN : (xme X).name = yX9_move.name) (hT : kT0 X) (hmc : xmc X = 0) (hms : xms X = 0) (hD : xD X = 4) (v0 : Nat) (v1 : Nat) (v2 : Option Nat) (h : KH) : kJ X (fun _ : Unit => none) 3 0 0 [(0, .inr (.inr (some v0))), (1, .inr (.inr (some v1))), (2, .inr (.inr v2))] [] 37 h (X9_move_b37  v0 v1 v2 h) := by
  unfold X9_move_b37
  refine kj_aloadn hC 1 dX9_move_37 rfl rfl ?_
  refine kj_aloadn hC 2 dX9_move_38 rfl rfl ?_
  refine kj_pR (ci := 5) (k := 5) hC dX9_move_39 kf_X9_253 (Or.inl (kNF_of (by decide))) rfl (fun h1 => ?_)
  refine kj_aloadn hC 2 dX9_move_42 rfl rfl ?_
  refine kj_ifnull (tgt := 58) hC dX9_move_43 (by decide) (fun q => ?_) (fun a1 q => ?_)
  · subst q
    exact kj_sub [] rfl (t_X9_move_b58 hC hN hT hmc hms hD   h1)
  · subst q
    refine kj_aloadn hC 2 dX9_move_46 rfl rfl ?_
    refine kj_gN (ci := 4) (k := 3) hC dX9_move_47 kf_X9_275 rfl (fun a2 => ?_)
    refine kj_aloadn hC 1 dX9_move_50 rfl rfl ?_
    refine kj_aloadn hC 0 dX9_move_51 rfl rfl ?_
    refine kj_gN (ci := 9) (k := 0) hC dX9_move_52 kf_X9_10 rfl (fun a3 => ?_)
    refine kj_invV (ci := 3) (q := (RX3, TX3, 3)) (as := [.inr (.inr (some v1)), .inr (.inr (some a3))]) (rest := []) hC hT dX9_move_55 kw486 ky_X3_put ky2_X3_put rfl rfl (t_X3_put a2 v1 a3 h1) rfl rfl (Nat.le_of_ble_eq_true rfl) ⟨by rw [hD]; decide, by decide⟩ ⟨by rw [hmc]; exact Nat.le_of_ble_eq_true rfl, by rw [hms]; exact Nat.le_of_ble_eq_true rfl⟩ (fun _ h2 => ?_)
    refine kj_norm (st' := []) (c' := 0) (z' := 0) rfl rfl rfl ?_
    exact kj_sub [] rfl (t_X9_move_b58 hC hN hT hmc hms hD   h2)
set_option maxHeartbeats 4000000 in
set_option maxRecDepth 100000 in
theorem t_X9_move (p0 : Nat) (p1 : Nat) (p2 : Option Nat) (h : KH) : kM yX9_move cX9_move 3 none 4 0 0 (fun _ : Unit => none) [.inr (.inr (some p0)), .inr (.inr (some p1)), .inr (.inr p2)] h (f_X9_move p0 p1 p2 h) := by
  refine kM_of RX9 (by decide) rfl (Nat.le_of_ble_eq_true rfl) [(0, .inr (.inr (some p0))), (1, .inr (.inr (some p1))), (2, .inr (.inr p2))] rfl (fun X hC hN hT hmc hms hD => ?_)
  unfold f_X9_move
  refine kj_aloadn hC 1 dX9_move_0 rfl rfl ?_
  refine kj_gR (ci := 5) (k := 5) hC dX9_move_1 kf_X9_253 rfl (fun o1 => ?_)
  refine kj_invS (as := [.inr (.inr o1)]) (rest := []) hC hT dX9_move_4 kw463 ky_X9_numberOf ky2_X9_numberOf (t_X9_numberOf o1 h) rfl rfl (Nat.le_of_ble_eq_true rfl) ⟨by rw [hD]; decide, by decide⟩ ⟨by rw [hmc]; exact Nat.le_of_ble_eq_true rfl, by rw [hms]; exact Nat.le_of_ble_eq_true rfl⟩ (fun x1 h1 => ?_)
  refine kj_norm (st' := [.inl x1]) (c' := 0) (z' := 0) rfl rfl rfl ?_
  refine kj_aloadn hC 2 dX9_move_7 rfl rfl ?_
  refine kj_invS (as := [.inr (.inr p2)]) (rest := [.inl x1]) hC hT dX9_move_8 kw463 ky_X9_numberOf ky2_X9_numberOf (t_X9_numberOf p2 h1) rfl rfl (Nat.le_of_ble_eq_true rfl) ⟨by rw [hD]; decide, by decide⟩ ⟨by rw [hmc]; exact Nat.le_of_ble_eq_true rfl, by rw [hms]; exact Nat.le_of_ble_eq_true rfl⟩ (fun x2 h2 => ?_)
  refine kj_norm (st' := [.inl x2, .inl x1]) (c' := 0) (z' := 0) rfl rfl rfl ?_
  refine kj_icmp_ne (tgt := 15) hC dX9_move_11 (by decide) (fun q1 => ?_) (fun q1 => ?_)
  · refine kj_fin hmc hms ?_
    exact kj_return hC dX9_move_14
  · refine kj_aloadn hC 1 dX9_move_15 rfl rfl ?_
    refine kj_gR (ci := 5) (k := 5) hC dX9_move_16 kf_X9_253 rfl (fun o2 => ?_)
    refine kj_ifnull (tgt := 37) hC dX9_move_19 (by decide) (fun q => ?_) (fun a1 q => ?_)
    · subst q
      exact kj_sub [0, 1, 2] rfl (t_X9_move_b37 hC hN hT hmc hms hD  p0 p1 p2 h2)
    · subst q
      refine kj_aloadn hC 1 dX9_move_22 rfl rfl ?_
      refine kj_gR (ci := 5) (k := 5) hC dX9_move_23 kf_X9_253 rfl (fun o3 => ?_)
      refine kj_may (fun a2 q => ?_)
      subst q
      refine kj_gN (ci := 4) (k := 3) hC dX9_move_26 kf_X9_275 rfl (fun a3 => ?_)
      refine kj_aloadn hC 1 dX9_move_29 rfl rfl ?_
      refine kj_aloadn hC 0 dX9_move_30 rfl rfl ?_
      refine kj_gN (ci := 9) (k := 0) hC dX9_move_31 kf_X9_10 rfl (fun a4 => ?_)
      refine kj_invV (ci := 3) (q := (RX3, TX3, 3)) (as := [.inr (.inr (some p1)), .inr (.inr (some a4))]) (rest := []) hC hT dX9_move_34 kw466 ky_X3_take ky2_X3_take rfl rfl (t_X3_take a3 p1 a4 h2) rfl rfl (Nat.le_of_ble_eq_true rfl) ⟨by rw [hD]; decide, by decide⟩ ⟨by rw [hmc]; exact Nat.le_of_ble_eq_true rfl, by rw [hms]; exact Nat.le_of_ble_eq_true rfl⟩ (fun _ h3 => ?_)
      refine kj_norm (st' := []) (c' := 0) (z' := 0) rfl rfl rfl ?_
      exact kj_sub [0, 1, 2] rfl (t_X9_move_b37 hC hN hT hmc hms hD  p0 p1 p2 h3)
set_option maxHeartbeats 4000000 in
set_option maxRecDepth 100000 in
theorem t_X9_leadAllBack_b34 {X : KX} (hC : kC X RX9 cX9_leadAllBack 3 none) (hN : (xme X).name = yX9_leadAllBack.name) (hT : kT0 X) (hmc : xmc X = 0) (hms : xms X = 0) (hD : xD X = 5) (rc2 : Nat → Int32 → KH → KO Unit) (hr2 : ∀ (v0 : Nat) (v1 : Int32) (h : KH), kJ X (fun _ : Unit => none) 3 0 0 [(0, .inr (.inr (some v0))), (1, .inl v1)] [] 2 h (rc2 v0 v1 h)) (v0 : Nat) (v1 : Int32) (h : KH) : kJ X (fun _ : Unit => none) 3 0 0 [(0, .inr (.inr (some v0))), (1, .inl v1)] [] 34 h (X9_leadAllBack_b34 rc2 v0 v1 h) := by
  unfold X9_leadAllBack_b34
  refine kj_iinc (v := v1 + 1) (L' := [(1, .inl (v1 + 1)), (0, .inr (.inr (some v0)))]) hC 1 dX9_leadAllBack_34 rfl rfl (by decide) rfl ?_
  refine kj_goto (tgt := 2) hC dX9_leadAllBack_37 (by decide) ?_
  exact kj_sub [1, 0] rfl (hr2 v0 (v1 + 1) h)
set_option maxHeartbeats 4000000 in
set_option maxRecDepth 100000 in
theorem t_X9_leadAllBack_b2 {X : KX} (hC : kC X RX9 cX9_leadAllBack 3 none) (hN : (xme X).name = yX9_leadAllBack.name) (hT : kT0 X) (hmc : xmc X = 0) (hms : xms X = 0) (hD : xD X = 5) (rc2 : Nat → Int32 → KH → KO Unit) (hr2 : ∀ (v0 : Nat) (v1 : Int32) (h : KH), kJ X (fun _ : Unit => none) 3 0 0 [(0, .inr (.inr (some v0))), (1, .inl v1)] [] 2 h (rc2 v0 v1 h)) (v0 : Nat) (v1 : Int32) (h : KH) : kJ X (fun _ : Unit => none) 3 0 0 [(0, .inr (.inr (some v0))), (1, .inl v1)] [] 2 h (X9_leadAllBack_b2 rc2 v0 v1 h) := by
  unfold X9_leadAllBack_b2
  refine kj_iloadn hC 1 dX9_leadAllBack_2 rfl rfl ?_
  refine kj_aloadn hC 0 dX9_leadAllBack_3 rfl rfl ?_
  refine kj_gI (ci := 9) (k := 14) hC dX9_leadAllBack_4 kf_X9_82 rfl (fun x1 => ?_)
  refine kj_icmp_ge (tgt := 40) hC dX9_leadAllBack_7 (by decide) (fun q1 => ?_) (fun q1 => ?_)
  · refine kj_fin hmc hms ?_
    exact kj_return hC dX9_leadAllBack_40
  · refine kj_aloadn hC 0 dX9_leadAllBack_10 rfl rfl ?_
    refine kj_gN (ci := 9) (k := 6) hC dX9_leadAllBack_11 kf_X9_45 rfl (fun a1 => ?_)
    refine kj_iloadn hC 1 dX9_leadAllBack_14 rfl rfl ?_
    refine kj_gAN (c := 26) hC dX9_leadAllBack_15 rfl ⟨rfl, rfl⟩ (fun a2 => ?_)
    refine kj_astoren (L' := [(2, .inr (.inr (some a2))), (0, .inr (.inr (some v0))), (1, .inl v1)]) hC dX9_leadAllBack_16 rfl (by decide) rfl ?_
    refine kj_aloadn hC 0 dX9_leadAllBack_17 rfl rfl ?_
    refine kj_gI (ci := 5) (k := 4) hC dX9_leadAllBack_18 kf_X9_261 rfl (fun x2 => ?_)
    refine kj_if_ne (tgt := 34) hC dX9_leadAllBack_21 (by decide) (fun q2 => ?_) (fun q2 => ?_)
    · refine kj_aloadn hC 1 dX9_leadAllBack_24 rfl rfl ?_
      refine kj_aloadn hC 0 dX9_leadAllBack_25 rfl rfl ?_
      refine kj_aloadn hC 1 dX9_leadAllBack_26 rfl rfl ?_
      refine kj_aloadn hC 0 dX9_leadAllBack_27 rfl rfl ?_
      refine kj_invV (ci := 9) (q := (RX9, TX9, 17)) (as := [.inr (.inr (some a2))]) (rest := [.inr (.inr (some a2)), .inr (.inr (some v0))]) hC hT dX9_leadAllBack_28 kw443 ky_X9_plateByText ky2_X9_plateByText rfl rfl (t_X9_plateByText v0 a2 h) rfl rfl (Nat.le_of_ble_eq_true rfl) ⟨by rw [hD]; decide, by decide⟩ ⟨by rw [hmc]; exact Nat.le_of_ble_eq_true rfl, by rw [hms]; exact Nat.le_of_ble_eq_true rfl⟩ (fun o1 h1 => ?_)
      refine kj_norm (st' := [.inr (.inr o1), .inr (.inr (some a2)), .inr (.inr (some v0))]) (c' := 0) (z' := 0) rfl rfl rfl ?_
      refine kj_invV (ci := 9) (q := (RX9, TX9, 17)) (as := [.inr (.inr (some a2)), .inr (.inr o1)]) (rest := []) hC hT dX9_leadAllBack_31 kw459 ky_X9_move ky2_X9_move rfl rfl (t_X9_move v0 a2 o1 h1) rfl rfl (Nat.le_of_ble_eq_true rfl) ⟨by rw [hD]; decide, by decide⟩ ⟨by rw [hmc]; exact Nat.le_of_ble_eq_true rfl, by rw [hms]; exact Nat.le_of_ble_eq_true rfl⟩ (fun _ h2 => ?_)
      refine kj_norm (st' := []) (c' := 0) (z' := 0) rfl rfl rfl ?_
      exact kj_sub [1, 2] rfl (t_X9_leadAllBack_b34 hC hN hT hmc hms hD rc2 hr2 v0 v1 h2)
    · exact kj_sub [1, 2] rfl (t_X9_leadAllBack_b34 hC hN hT hmc hms hD rc2 hr2 v0 v1 h)
set_option maxHeartbeats 4000000 in
set_option maxRecDepth 100000 in
theorem t_X9_leadAllBack_L2 {X : KX} (hC : kC X RX9 cX9_leadAllBack 3 none) (hN : (xme X).name = yX9_leadAllBack.name) (hT : kT0 X) (hmc : xmc X = 0) (hms : xms X = 0) (hD : xD X = 5) : ∀ (n : Nat) (v0 : Nat) (v1 : Int32) (h : KH), kJ X (fun _ : Unit => none) 3 0 0 [(0, .inr (.inr (some v0))), (1, .inl v1)] [] 2 h (X9_leadAllBack_L2  n v0 v1 h) := by
  intro n
  induction n with
  | zero => intro v0 v1 h; exact kj_none
  | succ n ih => intro v0 v1 h; exact t_X9_leadAllBack_b2 hC hN hT hmc hms hD (X9_leadAllBack_L2  n) ih v0 v1 h
set_option maxHeartbeats 4000000 in
set_option maxRecDepth 100000 in
theorem t_X9_leadAllBack (p0 : Nat) (h : KH) : kM yX9_leadAllBack cX9_leadAllBack 3 none 5 0 0 (fun _ : Unit => none) [.inr (.inr (some p0))] h (f_X9_leadAllBack p0 h) := by
  refine kM_of RX9 (by decide) rfl (Nat.le_of_ble_eq_true rfl) [(0, .inr (.inr (some p0)))] rfl (fun X hC hN hT hmc hms hD => ?_)
  unfold f_X9_leadAllBack
  refine kj_iconst (v := 0) hC dX9_leadAllBack_0 (by decide) ?_
  refine kj_istoren (L' := [(1, .inl 0), (0, .inr (.inr (some p0)))]) hC dX9_leadAllBack_1 rfl (by decide) rfl ?_
  exact kj_sub [1, 0] rfl (t_X9_leadAllBack_L2 hC hN hT hmc hms hD  kF p0 0 h)
set_option maxHeartbeats 4000000 in
set_option maxRecDepth 100000 in
theorem t_X9_alike_b25 {X : KX} (hC : kC X RX9 cX9_alike 3 (some .boolean)) (hN : (xme X).name = yX9_alike.name) (hT : kT0 X) (hmc : xmc X = 3) (hms : xms X = 18) (hD : xD X = 7)  (h : KH) : kJ X (fun x : Int32 => some (.inl x)) 3 2 12 [] [] 25 h (X9_alike_b25   h) := by
  unfold X9_alike_b25
  exact kj_throw (tx := "these signs can\'t be alike") (e := 1) hC hT (by decide) rfl kw345 kw34 kw355 (List.mem_of_getElem? (i := 676) (by decide +kernel)) dX9_alike_25 dX9_alike_28 dX9_alike_29 dX9_alike_31 dX9_alike_34 (Nat.le_of_ble_eq_true rfl) (by rw [hD]; decide) ⟨by rw [hmc]; exact Nat.le_of_ble_eq_true rfl, by rw [hms]; exact Nat.le_of_ble_eq_true rfl⟩
set_option maxHeartbeats 4000000 in
set_option maxRecDepth 100000 in
theorem t_X9_alike (p0 : Nat) (p1 : Int32) (p2 : Int32) (h : KH) : kM yX9_alike cX9_alike 3 (some .boolean) 7 3 18 (fun x : Int32 => some (.inl x)) [.inr (.inr (some p0)), .inl p1, .inl p2] h (f_X9_alike p0 p1 p2 h) := by
  refine kM_of RX9 (by decide) rfl (Nat.le_of_ble_eq_true rfl) [(0, .inr (.inr (some p0))), (1, .inl p1), (2, .inl p2)] rfl (fun X hC hN hT hmc hms hD => ?_)
  unfold f_X9_alike
  refine kj_iloadn hC 1 dX9_alike_0 rfl rfl ?_
  refine kj_invS (as := [.inl p1]) (rest := []) hC hT dX9_alike_1 kw225 ky_X9_requireSign ky2_X9_requireSign (t_X9_requireSign p1 h) rfl rfl (Nat.le_of_ble_eq_true rfl) ⟨by rw [hD]; decide, by decide⟩ ⟨by rw [hmc]; exact Nat.le_of_ble_eq_true rfl, by rw [hms]; exact Nat.le_of_ble_eq_true rfl⟩ (fun _ h1 => ?_)
  refine kj_norm (st' := []) (c' := 1) (z' := 6) rfl rfl rfl ?_
  refine kj_iloadn hC 2 dX9_alike_4 rfl rfl ?_
  refine kj_invS (as := [.inl p2]) (rest := []) hC hT dX9_alike_5 kw225 ky_X9_requireSign ky2_X9_requireSign (t_X9_requireSign p2 h1) rfl rfl (Nat.le_of_ble_eq_true rfl) ⟨by rw [hD]; decide, by decide⟩ ⟨by rw [hmc]; exact Nat.le_of_ble_eq_true rfl, by rw [hms]; exact Nat.le_of_ble_eq_true rfl⟩ (fun _ h2 => ?_)
  refine kj_norm (st' := []) (c' := 2) (z' := 12) rfl rfl rfl ?_
  refine kj_iloadn hC 1 dX9_alike_8 rfl rfl ?_
  refine kj_iloadn hC 2 dX9_alike_9 rfl rfl ?_
  refine kj_icmp_eq (tgt := 25) hC dX9_alike_10 (by decide) (fun q1 => ?_) (fun q1 => ?_)
  · exact kj_sub [] rfl (t_X9_alike_b25 hC hN hT hmc hms hD   h2)
  · refine kj_iloadn hC 1 dX9_alike_13 rfl rfl ?_
    refine kj_bipush (v := 14) hC dX9_alike_14 (by decide) ?_
    refine kj_icmp_eq (tgt := 25) hC dX9_alike_16 (by decide) (fun q2 => ?_) (fun q2 => ?_)
    · exact kj_sub [] rfl (t_X9_alike_b25 hC hN hT hmc hms hD   h2)
    · refine kj_iloadn hC 2 dX9_alike_19 rfl rfl ?_
      refine kj_bipush (v := 14) hC dX9_alike_20 (by decide) ?_
      refine kj_icmp_ne (tgt := 35) hC dX9_alike_22 (by decide) (fun q3 => ?_) (fun q3 => ?_)
      · exact kj_sub [] rfl (t_X9_alike_b25 hC hN hT hmc hms hD   h2)
      · refine kj_aloadn hC 0 dX9_alike_35 rfl rfl ?_
        refine kj_gN (ci := 9) (k := 3) hC dX9_alike_36 kf_X9_30 rfl (fun a1 => ?_)
        refine kj_iloadn hC 1 dX9_alike_39 rfl rfl ?_
        refine kj_iloadn hC 2 dX9_alike_40 rfl rfl ?_
        refine kj_invV (ci := 2) (q := (RX2, TX2, 1)) (as := [.inl p1, .inl p2]) (rest := []) hC hT dX9_alike_41 kw677 ky_X2_turn ky2_X2_turn rfl rfl (t_X2_turn a1 p1 p2 h2) rfl rfl (Nat.le_of_ble_eq_true rfl) ⟨by rw [hD]; decide, by decide⟩ ⟨by rw [hmc]; exact Nat.le_of_ble_eq_true rfl, by rw [hms]; exact Nat.le_of_ble_eq_true rfl⟩ (fun _ h3 => ?_)
        refine kj_norm (st' := []) (c' := 2) (z' := 12) rfl rfl rfl ?_
        refine kj_aloadn hC 0 dX9_alike_44 rfl rfl ?_
        refine kj_invV (ci := 9) (q := (RX9, TX9, 17)) (as := []) (rest := []) hC hT dX9_alike_45 kw439 ky_X9_leadAllBack ky2_X9_leadAllBack rfl rfl (t_X9_leadAllBack p0 h3) rfl rfl (Nat.le_of_ble_eq_true rfl) ⟨by rw [hD]; decide, by decide⟩ ⟨by rw [hmc]; exact Nat.le_of_ble_eq_true rfl, by rw [hms]; exact Nat.le_of_ble_eq_true rfl⟩ (fun _ h4 => ?_)
        refine kj_norm (st' := []) (c' := 2) (z' := 12) rfl rfl rfl ?_
        refine kj_aloadn hC 0 dX9_alike_48 rfl rfl ?_
        refine kj_gN (ci := 9) (k := 3) hC dX9_alike_49 kf_X9_30 rfl (fun a2 => ?_)
        refine kj_iloadn hC 1 dX9_alike_52 rfl rfl ?_
        refine kj_iloadn hC 2 dX9_alike_53 rfl rfl ?_
        refine kj_invV (ci := 2) (q := (RX2, TX2, 1)) (as := [.inl p1, .inl p2]) (rest := []) hC hT dX9_alike_54 kw681 ky_X2_holds ky2_X2_holds rfl rfl (t_X2_holds a2 p1 p2 h4) rfl rfl (Nat.le_of_ble_eq_true rfl) ⟨by rw [hD]; decide, by decide⟩ ⟨by rw [hmc]; exact Nat.le_of_ble_eq_true rfl, by rw [hms]; exact Nat.le_of_ble_eq_true rfl⟩ (fun x1 h5 => ?_)
        refine kj_norm (st' := [.inl x1]) (c' := 2) (z' := 12) rfl rfl rfl ?_
        refine kj_widen (k := 3) (n := 18) (Nat.le_of_ble_eq_true rfl) (Nat.le_of_ble_eq_true rfl) ?_
        refine kj_fin hmc hms ?_
        exact kj_zreturn hC dX9_alike_57
set_option maxHeartbeats 4000000 in
set_option maxRecDepth 100000 in
theorem t_X9_requireDriver (p0 : Int32) (h : KH) : kM yX9_requireDriver cX9_requireDriver 1 none 6 1 6 (fun _ : Unit => none) [.inl p0] h (f_X9_requireDriver p0 h) := by
  refine kM_of RX9 (by decide) rfl (Nat.le_of_ble_eq_true rfl) [(0, .inl p0)] rfl (fun X hC hN hT hmc hms hD => ?_)
  unfold f_X9_requireDriver
  refine kj_iloadn hC 0 dX9_requireDriver_0 rfl rfl ?_
  refine kj_iconst (v := 0) hC dX9_requireDriver_1 (by decide) ?_
  refine kj_iconst (v := 5) hC dX9_requireDriver_2 (by decide) ?_
  refine kj_invS (as := [.inl p0, .inl 0, .inl 5]) (rest := []) hC hT dX9_requireDriver_3 kw228 ky_X9_isWithin ky2_X9_isWithin (t_X9_isWithin p0 0 5 h) rfl rfl (Nat.le_of_ble_eq_true rfl) ⟨by rw [hD]; decide, by decide⟩ ⟨by rw [hmc]; exact Nat.le_of_ble_eq_true rfl, by rw [hms]; exact Nat.le_of_ble_eq_true rfl⟩ (fun x1 h1 => ?_)
  refine kj_norm (st' := [.inl x1]) (c' := 0) (z' := 0) rfl rfl rfl ?_
  refine kj_if_ne (tgt := 20) hC dX9_requireDriver_6 (by decide) (fun q1 => ?_) (fun q1 => ?_)
  · exact kj_throwW (tx := "no such driver") (e := 3) hC hT (by decide) rfl kw231 kw32 kw274 (List.mem_of_getElem? (i := 341) (by decide +kernel)) dX9_requireDriver_9 dX9_requireDriver_12 dX9_requireDriver_13 dX9_requireDriver_16 dX9_requireDriver_19 (Nat.le_of_ble_eq_true rfl) (by rw [hD]; decide) ⟨by rw [hmc]; exact Nat.le_of_ble_eq_true rfl, by rw [hms]; exact Nat.le_of_ble_eq_true rfl⟩
  · refine kj_widen (k := 1) (n := 6) (Nat.le_of_ble_eq_true rfl) (Nat.le_of_ble_eq_true rfl) ?_
    refine kj_fin hmc hms ?_
    exact kj_return hC dX9_requireDriver_20
set_option maxHeartbeats 4000000 in
set_option maxRecDepth 100000 in
theorem t_X7_hasQuestionMark_b2 {X : KX} (hC : kC X RX7 cX7_hasQuestionMark 2 (some .boolean)) (hN : (xme X).name = yX7_hasQuestionMark.name) (hT : kT0 X) (hmc : xmc X = 0) (hms : xms X = 0) (hD : xD X = 0) (rc2 : Nat → Int32 → KH → KO Int32) (hr2 : ∀ (v0 : Nat) (v1 : Int32) (h : KH), kJ X (fun x : Int32 => some (.inl x)) 2 0 0 [(0, .inr (.inr (some v0))), (1, .inl v1)] [] 2 h (rc2 v0 v1 h)) (v0 : Nat) (v1 : Int32) (h : KH) : kJ X (fun x : Int32 => some (.inl x)) 2 0 0 [(0, .inr (.inr (some v0))), (1, .inl v1)] [] 2 h (X7_hasQuestionMark_b2 rc2 v0 v1 h) := by
  unfold X7_hasQuestionMark_b2
  refine kj_iloadn hC 1 dX7_hasQuestionMark_2 rfl rfl ?_
  refine kj_aloadn hC 0 dX7_hasQuestionMark_3 rfl rfl ?_
  refine kj_gI (ci := 7) (k := 1) hC dX7_hasQuestionMark_4 kf_X7_15 rfl (fun x1 => ?_)
  refine kj_icmp_ge (tgt := 29) hC dX7_hasQuestionMark_7 (by decide) (fun q1 => ?_) (fun q1 => ?_)
  · refine kj_iconst (v := 0) hC dX7_hasQuestionMark_29 (by decide) ?_
    refine kj_fin hmc hms ?_
    exact kj_zreturn hC dX7_hasQuestionMark_30
  · refine kj_aloadn hC 0 dX7_hasQuestionMark_10 rfl rfl ?_
    refine kj_gN (ci := 7) (k := 0) hC dX7_hasQuestionMark_11 kf_X7_9 rfl (fun a1 => ?_)
    refine kj_iloadn hC 1 dX7_hasQuestionMark_14 rfl rfl ?_
    refine kj_gAI hC dX7_hasQuestionMark_15 (fun x2 => ?_)
    refine kj_bipush (v := 14) hC dX7_hasQuestionMark_16 (by decide) ?_
    refine kj_icmp_ne (tgt := 23) hC dX7_hasQuestionMark_18 (by decide) (fun q2 => ?_) (fun q2 => ?_)
    · refine kj_iconst (v := 1) hC dX7_hasQuestionMark_21 (by decide) ?_
      refine kj_fin hmc hms ?_
      exact kj_zreturn hC dX7_hasQuestionMark_22
    · refine kj_iinc (v := v1 + 1) (L' := [(1, .inl (v1 + 1)), (0, .inr (.inr (some v0)))]) hC 1 dX7_hasQuestionMark_23 rfl rfl (by decide) rfl ?_
      refine kj_goto (tgt := 2) hC dX7_hasQuestionMark_26 (by decide) ?_
      exact kj_sub [1, 0] rfl (hr2 v0 (v1 + 1) h)
set_option maxHeartbeats 4000000 in
set_option maxRecDepth 100000 in
theorem t_X7_hasQuestionMark_L2 {X : KX} (hC : kC X RX7 cX7_hasQuestionMark 2 (some .boolean)) (hN : (xme X).name = yX7_hasQuestionMark.name) (hT : kT0 X) (hmc : xmc X = 0) (hms : xms X = 0) (hD : xD X = 0) : ∀ (n : Nat) (v0 : Nat) (v1 : Int32) (h : KH), kJ X (fun x : Int32 => some (.inl x)) 2 0 0 [(0, .inr (.inr (some v0))), (1, .inl v1)] [] 2 h (X7_hasQuestionMark_L2  n v0 v1 h) := by
  intro n
  induction n with
  | zero => intro v0 v1 h; exact kj_none
  | succ n ih => intro v0 v1 h; exact t_X7_hasQuestionMark_b2 hC hN hT hmc hms hD (X7_hasQuestionMark_L2  n) ih v0 v1 h
set_option maxHeartbeats 4000000 in
set_option maxRecDepth 100000 in
theorem t_X7_hasQuestionMark (p0 : Nat) (h : KH) : kM yX7_hasQuestionMark cX7_hasQuestionMark 2 (some .boolean) 0 0 0 (fun x : Int32 => some (.inl x)) [.inr (.inr (some p0))] h (f_X7_hasQuestionMark p0 h) := by
  refine kM_of RX7 (by decide) rfl (Nat.le_of_ble_eq_true rfl) [(0, .inr (.inr (some p0)))] rfl (fun X hC hN hT hmc hms hD => ?_)
  unfold f_X7_hasQuestionMark
  refine kj_iconst (v := 0) hC dX7_hasQuestionMark_0 (by decide) ?_
  refine kj_istoren (L' := [(1, .inl 0), (0, .inr (.inr (some p0)))]) hC dX7_hasQuestionMark_1 rfl (by decide) rfl ?_
  exact kj_sub [1, 0] rfl (t_X7_hasQuestionMark_L2 hC hN hT hmc hms hD  kF p0 0 h)
set_option maxHeartbeats 4000000 in
set_option maxRecDepth 100000 in
theorem t_X7_equalsText_b15 {X : KX} (hC : kC X RX7 cX7_equalsText 3 (some .boolean)) (hN : (xme X).name = yX7_equalsText.name) (hT : kT0 X) (hmc : xmc X = 0) (hms : xms X = 0) (hD : xD X = 0) (rc15 : Nat → Nat → Int32 → KH → KO Int32) (hr15 : ∀ (v0 : Nat) (v1 : Nat) (v2 : Int32) (h : KH), kJ X (fun x : Int32 => some (.inl x)) 3 0 0 [(0, .inr (.inr (some v0))), (1, .inr (.inr (some v1))), (2, .inl v2)] [] 15 h (rc15 v0 v1 v2 h)) (v0 : Nat) (v1 : Nat) (v2 : Int32) (h : KH) : kJ X (fun x : Int32 => some (.inl x)) 3 0 0 [(0, .inr (.inr (some v0))), (1, .inr (.inr (some v1))), (2, .inl v2)] [] 15 h (X7_equalsText_b15 rc15 v0 v1 v2 h) := by
  unfold X7_equalsText_b15
  refine kj_iloadn hC 2 dX7_equalsText_15 rfl rfl ?_
  refine kj_aloadn hC 0 dX7_equalsText_16 rfl rfl ?_
  refine kj_gI (ci := 7) (k := 1) hC dX7_equalsText_17 kf_X7_15 rfl (fun x1 => ?_)
  refine kj_icmp_ge (tgt := 46) hC dX7_equalsText_20 (by decide) (fun q1 => ?_) (fun q1 => ?_)
  · refine kj_iconst (v := 1) hC dX7_equalsText_46 (by decide) ?_
    refine kj_fin hmc hms ?_
    exact kj_zreturn hC dX7_equalsText_47
  · refine kj_aloadn hC 0 dX7_equalsText_23 rfl rfl ?_
    refine kj_gN (ci := 7) (k := 0) hC dX7_equalsText_24 kf_X7_9 rfl (fun a1 => ?_)
    refine kj_iloadn hC 2 dX7_equalsText_27 rfl rfl ?_
    refine kj_gAI hC dX7_equalsText_28 (fun x2 => ?_)
    refine kj_aloadn hC 1 dX7_equalsText_29 rfl rfl ?_
    refine kj_gN (ci := 7) (k := 0) hC dX7_equalsText_30 kf_X7_9 rfl (fun a2 => ?_)
    refine kj_iloadn hC 2 dX7_equalsText_33 rfl rfl ?_
    refine kj_gAI hC dX7_equalsText_34 (fun x3 => ?_)
    refine kj_icmp_eq (tgt := 40) hC dX7_equalsText_35 (by decide) (fun q2 => ?_) (fun q2 => ?_)
    · refine kj_iinc (v := v2 + 1) (L' := [(2, .inl (v2 + 1)), (0, .inr (.inr (some v0))), (1, .inr (.inr (some v1)))]) hC 2 dX7_equalsText_40 rfl rfl (by decide) rfl ?_
      refine kj_goto (tgt := 15) hC dX7_equalsText_43 (by decide) ?_
      exact kj_sub [1, 2, 0] rfl (hr15 v0 v1 (v2 + 1) h)
    · refine kj_iconst (v := 0) hC dX7_equalsText_38 (by decide) ?_
      refine kj_fin hmc hms ?_
      exact kj_zreturn hC dX7_equalsText_39
set_option maxHeartbeats 4000000 in
set_option maxRecDepth 100000 in
theorem t_X7_equalsText_L15 {X : KX} (hC : kC X RX7 cX7_equalsText 3 (some .boolean)) (hN : (xme X).name = yX7_equalsText.name) (hT : kT0 X) (hmc : xmc X = 0) (hms : xms X = 0) (hD : xD X = 0) : ∀ (n : Nat) (v0 : Nat) (v1 : Nat) (v2 : Int32) (h : KH), kJ X (fun x : Int32 => some (.inl x)) 3 0 0 [(0, .inr (.inr (some v0))), (1, .inr (.inr (some v1))), (2, .inl v2)] [] 15 h (X7_equalsText_L15  n v0 v1 v2 h) := by
  intro n
  induction n with
  | zero => intro v0 v1 v2 h; exact kj_none
  | succ n ih => intro v0 v1 v2 h; exact t_X7_equalsText_b15 hC hN hT hmc hms hD (X7_equalsText_L15  n) ih v0 v1 v2 h
set_option maxHeartbeats 4000000 in
set_option maxRecDepth 100000 in
theorem t_X7_equalsText (p0 : Nat) (p1 : Nat) (h : KH) : kM yX7_equalsText cX7_equalsText 3 (some .boolean) 0 0 0 (fun x : Int32 => some (.inl x)) [.inr (.inr (some p0)), .inr (.inr (some p1))] h (f_X7_equalsText p0 p1 h) := by
  refine kM_of RX7 (by decide) rfl (Nat.le_of_ble_eq_true rfl) [(0, .inr (.inr (some p0))), (1, .inr (.inr (some p1)))] rfl (fun X hC hN hT hmc hms hD => ?_)
  unfold f_X7_equalsText
  refine kj_aloadn hC 0 dX7_equalsText_0 rfl rfl ?_
  refine kj_gI (ci := 7) (k := 1) hC dX7_equalsText_1 kf_X7_15 rfl (fun x1 => ?_)
  refine kj_aloadn hC 1 dX7_equalsText_4 rfl rfl ?_
  refine kj_gI (ci := 7) (k := 1) hC dX7_equalsText_5 kf_X7_15 rfl (fun x2 => ?_)
  refine kj_icmp_eq (tgt := 13) hC dX7_equalsText_8 (by decide) (fun q1 => ?_) (fun q1 => ?_)
  · refine kj_iconst (v := 0) hC dX7_equalsText_13 (by decide) ?_
    refine kj_istoren (L' := [(2, .inl 0), (0, .inr (.inr (some p0))), (1, .inr (.inr (some p1)))]) hC dX7_equalsText_14 rfl (by decide) rfl ?_
    exact kj_sub [1, 2, 0] rfl (t_X7_equalsText_L15 hC hN hT hmc hms hD  kF p0 p1 0 h)
  · refine kj_iconst (v := 0) hC dX7_equalsText_11 (by decide) ?_
    refine kj_fin hmc hms ?_
    exact kj_zreturn hC dX7_equalsText_12
set_option maxHeartbeats 4000000 in
set_option maxRecDepth 100000 in
theorem t_X9_isTaken_b2 {X : KX} (hC : kC X RX9 cX9_isTaken 3 (some .boolean)) (hN : (xme X).name = yX9_isTaken.name) (hT : kT0 X) (hmc : xmc X = 0) (hms : xms X = 0) (hD : xD X = 1) (rc2 : Nat → Nat → Int32 → KH → KO Int32) (hr2 : ∀ (v0 : Nat) (v1 : Nat) (v2 : Int32) (h : KH), kJ X (fun x : Int32 => some (.inl x)) 3 0 0 [(0, .inr (.inr (some v0))), (1, .inr (.inr (some v1))), (2, .inl v2)] [] 2 h (rc2 v0 v1 v2 h)) (v0 : Nat) (v1 : Nat) (v2 : Int32) (h : KH) : kJ X (fun x : Int32 => some (.inl x)) 3 0 0 [(0, .inr (.inr (some v0))), (1, .inr (.inr (some v1))), (2, .inl v2)] [] 2 h (X9_isTaken_b2 rc2 v0 v1 v2 h) := by
  unfold X9_isTaken_b2
  refine kj_iloadn hC 2 dX9_isTaken_2 rfl rfl ?_
  refine kj_aloadn hC 0 dX9_isTaken_3 rfl rfl ?_
  refine kj_gI (ci := 9) (k := 13) hC dX9_isTaken_4 kf_X9_79 rfl (fun x1 => ?_)
  refine kj_icmp_ge (tgt := 34) hC dX9_isTaken_7 (by decide) (fun q1 => ?_) (fun q1 => ?_)
  · refine kj_iconst (v := 0) hC dX9_isTaken_34 (by decide) ?_
    refine kj_fin hmc hms ?_
    exact kj_zreturn hC dX9_isTaken_35
  · refine kj_aloadn hC 0 dX9_isTaken_10 rfl rfl ?_
    refine kj_gN (ci := 9) (k := 4) hC dX9_isTaken_11 kf_X9_36 rfl (fun a1 => ?_)
    refine kj_iloadn hC 2 dX9_isTaken_14 rfl rfl ?_
    refine kj_gAN (c := 25) hC dX9_isTaken_15 rfl ⟨rfl, rfl⟩ (fun a2 => ?_)
    refine kj_gN (ci := 4) (k := 1) hC dX9_isTaken_16 kf_X9_270 rfl (fun a3 => ?_)
    refine kj_aloadn hC 1 dX9_isTaken_19 rfl rfl ?_
    refine kj_invV (ci := 7) (q := (RX7, TX7, 2)) (as := [.inr (.inr (some v1))]) (rest := []) hC hT dX9_isTaken_20 kw369 ky_X7_equalsText ky2_X7_equalsText rfl rfl (t_X7_equalsText a3 v1 h) rfl rfl (Nat.le_of_ble_eq_true rfl) ⟨by rw [hD]; decide, by decide⟩ ⟨by rw [hmc]; exact Nat.le_of_ble_eq_true rfl, by rw [hms]; exact Nat.le_of_ble_eq_true rfl⟩ (fun x2 h1 => ?_)
    refine kj_norm (st' := [.inl x2]) (c' := 0) (z' := 0) rfl rfl rfl ?_
    refine kj_if_eq (tgt := 28) hC dX9_isTaken_23 (by decide) (fun q2 => ?_) (fun q2 => ?_)
    · refine kj_iinc (v := v2 + 1) (L' := [(2, .inl (v2 + 1)), (0, .inr (.inr (some v0))), (1, .inr (.inr (some v1)))]) hC 2 dX9_isTaken_28 rfl rfl (by decide) rfl ?_
      refine kj_goto (tgt := 2) hC dX9_isTaken_31 (by decide) ?_
      exact kj_sub [1, 2, 0] rfl (hr2 v0 v1 (v2 + 1) h1)
    · refine kj_iconst (v := 1) hC dX9_isTaken_26 (by decide) ?_
      refine kj_fin hmc hms ?_
      exact kj_zreturn hC dX9_isTaken_27
set_option maxHeartbeats 4000000 in
set_option maxRecDepth 100000 in
theorem t_X9_isTaken_L2 {X : KX} (hC : kC X RX9 cX9_isTaken 3 (some .boolean)) (hN : (xme X).name = yX9_isTaken.name) (hT : kT0 X) (hmc : xmc X = 0) (hms : xms X = 0) (hD : xD X = 1) : ∀ (n : Nat) (v0 : Nat) (v1 : Nat) (v2 : Int32) (h : KH), kJ X (fun x : Int32 => some (.inl x)) 3 0 0 [(0, .inr (.inr (some v0))), (1, .inr (.inr (some v1))), (2, .inl v2)] [] 2 h (X9_isTaken_L2  n v0 v1 v2 h) := by
  intro n
  induction n with
  | zero => intro v0 v1 v2 h; exact kj_none
  | succ n ih => intro v0 v1 v2 h; exact t_X9_isTaken_b2 hC hN hT hmc hms hD (X9_isTaken_L2  n) ih v0 v1 v2 h
set_option maxHeartbeats 4000000 in
set_option maxRecDepth 100000 in
theorem t_X9_isTaken (p0 : Nat) (p1 : Nat) (h : KH) : kM yX9_isTaken cX9_isTaken 3 (some .boolean) 1 0 0 (fun x : Int32 => some (.inl x)) [.inr (.inr (some p0)), .inr (.inr (some p1))] h (f_X9_isTaken p0 p1 h) := by
  refine kM_of RX9 (by decide) rfl (Nat.le_of_ble_eq_true rfl) [(0, .inr (.inr (some p0))), (1, .inr (.inr (some p1)))] rfl (fun X hC hN hT hmc hms hD => ?_)
  unfold f_X9_isTaken
  refine kj_iconst (v := 0) hC dX9_isTaken_0 (by decide) ?_
  refine kj_istoren (L' := [(2, .inl 0), (0, .inr (.inr (some p0))), (1, .inr (.inr (some p1)))]) hC dX9_isTaken_1 rfl (by decide) rfl ?_
  exact kj_sub [1, 2, 0] rfl (t_X9_isTaken_L2 hC hN hT hmc hms hD  kF p0 p1 0 h)
set_option maxHeartbeats 4000000 in
set_option maxRecDepth 100000 in
theorem t_X7_copy_b10 {X : KX} (hC : kC X RX7 cX7_copy 3 (some (.object "Tollkeeper$Text"))) (hN : (xme X).name = yX7_copy.name) (hT : kT0 X) (hmc : xmc X = 2) (hms : xms X = 8) (hD : xD X = 2) (rc10 : Nat → Nat → Int32 → KH → KO Nat) (hr10 : ∀ (v0 : Nat) (v1 : Nat) (v2 : Int32) (h : KH), kJ X (fun a : Nat => some (.inr (.inr (some a)))) 3 2 8 [(0, .inr (.inr (some v0))), (1, .inr (.inr (some v1))), (2, .inl v2)] [] 10 h (rc10 v0 v1 v2 h)) (v0 : Nat) (v1 : Nat) (v2 : Int32) (h : KH) : kJ X (fun a : Nat => some (.inr (.inr (some a)))) 3 2 8 [(0, .inr (.inr (some v0))), (1, .inr (.inr (some v1))), (2, .inl v2)] [] 10 h (X7_copy_b10 rc10 v0 v1 v2 h) := by
  unfold X7_copy_b10
  refine kj_iloadn hC 2 dX7_copy_10 rfl rfl ?_
  refine kj_aloadn hC 0 dX7_copy_11 rfl rfl ?_
  refine kj_gI (ci := 7) (k := 1) hC dX7_copy_12 kf_X7_15 rfl (fun x1 => ?_)
  refine kj_icmp_ge (tgt := 36) hC dX7_copy_15 (by decide) (fun q1 => ?_) (fun q1 => ?_)
  · refine kj_aloadn hC 1 dX7_copy_36 rfl rfl ?_
    refine kj_aloadn hC 0 dX7_copy_37 rfl rfl ?_
    refine kj_gI (ci := 7) (k := 1) hC dX7_copy_38 kf_X7_15 rfl (fun x2 => ?_)
    refine kj_pI (ci := 7) (k := 1) hC dX7_copy_41 kf_X7_15 (Or.inl (kNF_of (by decide))) rfl ⟨rfl, rfl⟩ (fun h1 => ?_)
    refine kj_aloadn hC 1 dX7_copy_44 rfl rfl ?_
    refine kj_fin hmc hms ?_
    exact kj_areturnN hC dX7_copy_45
  · refine kj_aloadn hC 1 dX7_copy_18 rfl rfl ?_
    refine kj_gN (ci := 7) (k := 0) hC dX7_copy_19 kf_X7_9 rfl (fun a1 => ?_)
    refine kj_iloadn hC 2 dX7_copy_22 rfl rfl ?_
    refine kj_aloadn hC 0 dX7_copy_23 rfl rfl ?_
    refine kj_gN (ci := 7) (k := 0) hC dX7_copy_24 kf_X7_9 rfl (fun a2 => ?_)
    refine kj_iloadn hC 2 dX7_copy_27 rfl rfl ?_
    refine kj_gAI hC dX7_copy_28 (fun x3 => ?_)
    refine kj_pAI hC dX7_copy_29 (fun h2 => ?_)
    refine kj_iinc (v := v2 + 1) (L' := [(2, .inl (v2 + 1)), (0, .inr (.inr (some v0))), (1, .inr (.inr (some v1)))]) hC 2 dX7_copy_30 rfl rfl (by decide) rfl ?_
    refine kj_goto (tgt := 10) hC dX7_copy_33 (by decide) ?_
    exact kj_sub [1, 2, 0] rfl (hr10 v0 v1 (v2 + 1) h2)
set_option maxHeartbeats 4000000 in
set_option maxRecDepth 100000 in
theorem t_X7_copy_L10 {X : KX} (hC : kC X RX7 cX7_copy 3 (some (.object "Tollkeeper$Text"))) (hN : (xme X).name = yX7_copy.name) (hT : kT0 X) (hmc : xmc X = 2) (hms : xms X = 8) (hD : xD X = 2) : ∀ (n : Nat) (v0 : Nat) (v1 : Nat) (v2 : Int32) (h : KH), kJ X (fun a : Nat => some (.inr (.inr (some a)))) 3 2 8 [(0, .inr (.inr (some v0))), (1, .inr (.inr (some v1))), (2, .inl v2)] [] 10 h (X7_copy_L10  n v0 v1 v2 h) := by
  intro n
  induction n with
  | zero => intro v0 v1 v2 h; exact kj_none
  | succ n ih => intro v0 v1 v2 h; exact t_X7_copy_b10 hC hN hT hmc hms hD (X7_copy_L10  n) ih v0 v1 v2 h
set_option maxHeartbeats 4000000 in
set_option maxRecDepth 100000 in
theorem t_X7_copy (p0 : Nat) (h : KH) : kM yX7_copy cX7_copy 3 (some (.object "Tollkeeper$Text")) 2 2 8 (fun a : Nat => some (.inr (.inr (some a)))) [.inr (.inr (some p0))] h (f_X7_copy p0 h) := by
  refine kM_of RX7 (by decide) rfl (Nat.le_of_ble_eq_true rfl) [(0, .inr (.inr (some p0)))] rfl (fun X hC hN hT hmc hms hD => ?_)
  unfold f_X7_copy
  refine kj_new (ci := 7) (q := (RX7, TX7, 2)) hC dX7_copy_0 rfl kw379 kw92 kw26 ⟨by rw [hmc]; exact Nat.le_of_ble_eq_true rfl, by rw [hms]; exact Nat.le_of_ble_eq_true rfl⟩ (fun a1 h1 => ?_)
  refine kj_norm (st' := [.inr (.inr (some a1))]) (c' := 1) (z' := 2) rfl rfl rfl ?_
  refine kj_dup hC dX7_copy_3 rfl ?_
  refine kj_invI (as := []) (rest := [.inr (.inr (some a1))]) hC hT dX7_copy_4 kw380 ky_X7_init ky2_X7_init rfl (t_X7_init a1 h1) rfl rfl (Nat.le_of_ble_eq_true rfl) ⟨by rw [hD]; decide, by decide⟩ ⟨by rw [hmc]; exact Nat.le_of_ble_eq_true rfl, by rw [hms]; exact Nat.le_of_ble_eq_true rfl⟩ (fun _ h2 => ?_)
  refine kj_norm (st' := [.inr (.inr (some a1))]) (c' := 2) (z' := 8) rfl rfl rfl ?_
  refine kj_astoren (L' := [(1, .inr (.inr (some a1))), (0, .inr (.inr (some p0)))]) hC dX7_copy_7 rfl (by decide) rfl ?_
  refine kj_iconst (v := 0) hC dX7_copy_8 (by decide) ?_
  refine kj_istoren (L' := [(2, .inl 0), (1, .inr (.inr (some a1))), (0, .inr (.inr (some p0)))]) hC dX7_copy_9 rfl (by decide) rfl ?_
  exact kj_sub [2, 1, 0] rfl (t_X7_copy_L10 hC hN hT hmc hms hD  kF p0 a1 0 h2)
set_option maxHeartbeats 4000000 in
set_option maxRecDepth 100000 in
theorem t_X1_init (p0 : Nat) (p1 : Int32) (p2 : Int32) (p3 : Option Nat) (h : KH) : kM yX1_init cX1_init 4 none 1 0 0 (fun _ : Unit => none) [.inr (.inr (some p0)), .inl p1, .inl p2, .inr (.inr p3)] h (f_X1_init p0 p1 p2 p3 h) := by
  refine kM_of RX1 (by decide) rfl (Nat.le_of_ble_eq_true rfl) [(0, .inr (.inr (some p0))), (1, .inl p1), (2, .inl p2), (3, .inr (.inr p3))] rfl (fun X hC hN hT hmc hms hD => ?_)
  unfold f_X1_init
  refine kj_aloadn hC 0 dX1_init_0 rfl rfl ?_
  refine kj_objInit hC dX1_init_1 kw386 kw49 kw50 (Nat.le_of_ble_eq_true rfl) (by rw [hD]; decide) ?_
  refine kj_aloadn hC 0 dX1_init_4 rfl rfl ?_
  refine kj_iloadn hC 1 dX1_init_5 rfl rfl ?_
  refine kj_pI (ci := 1) (k := 0) hC dX1_init_6 kf_X1_7 (Or.inr ⟨hN, kFF_of (by decide)⟩) rfl ⟨rfl, rfl⟩ (fun h1 => ?_)
  refine kj_aloadn hC 0 dX1_init_9 rfl rfl ?_
  refine kj_iloadn hC 2 dX1_init_10 rfl rfl ?_
  refine kj_pI (ci := 1) (k := 1) hC dX1_init_11 kf_X1_13 (Or.inr ⟨hN, kFF_of (by decide)⟩) rfl ⟨rfl, rfl⟩ (fun h2 => ?_)
  refine kj_aloadn hC 0 dX1_init_14 rfl rfl ?_
  refine kj_aloadn hC 3 dX1_init_15 rfl rfl ?_
  refine kj_pR (ci := 1) (k := 2) hC dX1_init_16 kf_X1_16 (Or.inr ⟨hN, kFF_of (by decide)⟩) rfl (fun h3 => ?_)
  refine kj_fin hmc hms ?_
  exact kj_return hC dX1_init_19
set_option maxHeartbeats 4000000 in
set_option maxRecDepth 100000 in
theorem t_X4_init (p0 : Nat) (p1 : Int32) (p2 : Nat) (p3 : Int32) (p4 : Nat) (h : KH) : kM yX4_init cX4_init 5 none 2 3 123 (fun _ : Unit => none) [.inr (.inr (some p0)), .inl p1, .inr (.inr (some p2)), .inl p3, .inr (.inr (some p4))] h (f_X4_init p0 p1 p2 p3 p4 h) := by
  refine kM_of RX4 (by decide) rfl (Nat.le_of_ble_eq_true rfl) [(0, .inr (.inr (some p0))), (1, .inl p1), (2, .inr (.inr (some p2))), (3, .inl p3), (4, .inr (.inr (some p4)))] rfl (fun X hC hN hT hmc hms hD => ?_)
  unfold f_X4_init
  refine kj_aloadn hC 0 dX4_init_0 rfl rfl ?_
  refine kj_objInit hC dX4_init_1 kw404 kw49 kw50 (Nat.le_of_ble_eq_true rfl) (by rw [hD]; decide) ?_
  refine kj_aloadn hC 0 dX4_init_4 rfl rfl ?_
  refine kj_new (ci := 3) (q := (RX3, TX3, 3)) hC dX4_init_5 rfl kw405 kw126 kw28 ⟨by rw [hmc]; exact Nat.le_of_ble_eq_true rfl, by rw [hms]; exact Nat.le_of_ble_eq_true rfl⟩ (fun a1 h1 => ?_)
  refine kj_norm (st' := [.inr (.inr (some a1)), .inr (.inr (some p0))]) (c' := 1) (z' := 3) rfl rfl rfl ?_
  refine kj_dup hC dX4_init_8 rfl ?_
  refine kj_invIN (as := []) (rest := [.inr (.inr (some a1)), .inr (.inr (some p0))]) hC hT dX4_init_9 kz406 ky_X3_init ky2_X3_init rfl (t_X3_init a1 h1) rfl rfl (Nat.le_of_ble_eq_true rfl) ⟨by rw [hD]; decide, by decide⟩ ⟨by rw [hmc]; exact Nat.le_of_ble_eq_true rfl, by rw [hms]; exact Nat.le_of_ble_eq_true rfl⟩ (fun _ h2 => ?_)
  refine kj_norm (st' := [.inr (.inr (some a1)), .inr (.inr (some p0))]) (c' := 3) (z' := 123) rfl rfl rfl ?_
  refine kj_pR (ci := 4) (k := 3) hC dX4_init_12 kf_X4_12 (Or.inr ⟨hN, kFF_of (by decide)⟩) rfl (fun h3 => ?_)
  refine kj_aloadn hC 0 dX4_init_15 rfl rfl ?_
  refine kj_iloadn hC 1 dX4_init_16 rfl rfl ?_
  refine kj_pI (ci := 4) (k := 0) hC dX4_init_17 kf_X4_18 (Or.inr ⟨hN, kFF_of (by decide)⟩) rfl ⟨rfl, rfl⟩ (fun h4 => ?_)
  refine kj_aloadn hC 0 dX4_init_20 rfl rfl ?_
  refine kj_aloadn hC 2 dX4_init_21 rfl rfl ?_
  refine kj_pR (ci := 4) (k := 1) hC dX4_init_22 kf_X4_22 (Or.inr ⟨hN, kFF_of (by decide)⟩) rfl (fun h5 => ?_)
  refine kj_aloadn hC 0 dX4_init_25 rfl rfl ?_
  refine kj_iloadn hC 3 dX4_init_26 rfl rfl ?_
  refine kj_pI (ci := 4) (k := 2) hC dX4_init_27 kf_X4_26 (Or.inr ⟨hN, kFF_of (by decide)⟩) rfl ⟨rfl, rfl⟩ (fun h6 => ?_)
  refine kj_aloadn hC 0 dX4_init_30 rfl rfl ?_
  refine kj_aload hC 4 dX4_init_31 rfl ?_
  refine kj_pR (ci := 4) (k := 4) hC dX4_init_33 kf_X4_29 (Or.inl (kNF_of (by decide))) rfl (fun h7 => ?_)
  refine kj_fin hmc hms ?_
  exact kj_return hC dX4_init_36
set_option maxHeartbeats 4000000 in
set_option maxRecDepth 100000 in
theorem t_X7_comesBefore_b87 {X : KX} (hC : kC X RX7 cX7_comesBefore 6 (some .boolean)) (hN : (xme X).name = yX7_comesBefore.name) (hT : kT0 X) (hmc : xmc X = 0) (hms : xms X = 0) (hD : xD X = 1) (s0 : Int32) (h : KH) : kJ X (fun x : Int32 => some (.inl x)) 6 0 0 [] [.inl s0] 87 h (X7_comesBefore_b87  s0 h) := by
  unfold X7_comesBefore_b87
  refine kj_fin hmc hms ?_
  exact kj_zreturn hC dX7_comesBefore_87
set_option maxHeartbeats 4000000 in
set_option maxRecDepth 100000 in
theorem t_X7_comesBefore_b64 {X : KX} (hC : kC X RX7 cX7_comesBefore 6 (some .boolean)) (hN : (xme X).name = yX7_comesBefore.name) (hT : kT0 X) (hmc : xmc X = 0) (hms : xms X = 0) (hD : xD X = 1) (s0 : Int32) (h : KH) : kJ X (fun x : Int32 => some (.inl x)) 6 0 0 [] [.inl s0] 64 h (X7_comesBefore_b64  s0 h) := by
  unfold X7_comesBefore_b64
  refine kj_fin hmc hms ?_
  exact kj_zreturn hC dX7_comesBefore_64
set_option maxHeartbeats 4000000 in
set_option maxRecDepth 100000 in
theorem t_X7_comesBefore_b14 {X : KX} (hC : kC X RX7 cX7_comesBefore 6 (some .boolean)) (hN : (xme X).name = yX7_comesBefore.name) (hT : kT0 X) (hmc : xmc X = 0) (hms : xms X = 0) (hD : xD X = 1) (rc14 : Nat → Nat → Int32 → Int32 → KH → KO Int32) (hr14 : ∀ (v0 : Nat) (v1 : Nat) (v2 : Int32) (v3 : Int32) (h : KH), kJ X (fun x : Int32 => some (.inl x)) 6 0 0 [(0, .inr (.inr (some v0))), (1, .inr (.inr (some v1))), (2, .inl v2), (3, .inl v3)] [] 14 h (rc14 v0 v1 v2 v3 h)) (v0 : Nat) (v1 : Nat) (v2 : Int32) (v3 : Int32) (h : KH) : kJ X (fun x : Int32 => some (.inl x)) 6 0 0 [(0, .inr (.inr (some v0))), (1, .inr (.inr (some v1))), (2, .inl v2), (3, .inl v3)] [] 14 h (X7_comesBefore_b14 rc14 v0 v1 v2 v3 h) := by
  unfold X7_comesBefore_b14
  refine kj_iloadn hC 3 dX7_comesBefore_14 rfl rfl ?_
  refine kj_iloadn hC 2 dX7_comesBefore_15 rfl rfl ?_
  refine kj_icmp_gt (tgt := 71) hC dX7_comesBefore_16 (by decide) (fun q1 => ?_) (fun q1 => ?_)
  · refine kj_aloadn hC 0 dX7_comesBefore_71 rfl rfl ?_
    refine kj_gI (ci := 7) (k := 1) hC dX7_comesBefore_72 kf_X7_15 rfl (fun x1 => ?_)
    refine kj_aloadn hC 1 dX7_comesBefore_75 rfl rfl ?_
    refine kj_gI (ci := 7) (k := 1) hC dX7_comesBefore_76 kf_X7_15 rfl (fun x2 => ?_)
    refine kj_icmp_ge (tgt := 86) hC dX7_comesBefore_79 (by decide) (fun q2 => ?_) (fun q2 => ?_)
    · refine kj_iconst (v := 0) hC dX7_comesBefore_86 (by decide) ?_
      exact kj_sub [] rfl (t_X7_comesBefore_b87 hC hN hT hmc hms hD  0 h)
    · refine kj_iconst (v := 1) hC dX7_comesBefore_82 (by decide) ?_
      refine kj_goto (tgt := 87) hC dX7_comesBefore_83 (by decide) ?_
      exact kj_sub [] rfl (t_X7_comesBefore_b87 hC hN hT hmc hms hD  1 h)
  · refine kj_aloadn hC 0 dX7_comesBefore_19 rfl rfl ?_
    refine kj_gN (ci := 7) (k := 0) hC dX7_comesBefore_20 kf_X7_9 rfl (fun a1 => ?_)
    refine kj_aloadn hC 0 dX7_comesBefore_23 rfl rfl ?_
    refine kj_gI (ci := 7) (k := 1) hC dX7_comesBefore_24 kf_X7_15 rfl (fun x3 => ?_)
    refine kj_iloadn hC 3 dX7_comesBefore_27 rfl rfl ?_
    refine kj_isub hC dX7_comesBefore_28 ?_
    refine kj_gAI hC dX7_comesBefore_29 (fun x4 => ?_)
    refine kj_istore (L' := [(4, .inl x4), (0, .inr (.inr (some v0))), (1, .inr (.inr (some v1))), (2, .inl v2), (3, .inl v3)]) hC dX7_comesBefore_30 (by decide) rfl ?_
    refine kj_aloadn hC 2 dX7_comesBefore_32 rfl rfl ?_
    refine kj_gN (ci := 7) (k := 0) hC dX7_comesBefore_33 kf_X7_9 rfl (fun a2 => ?_)
    refine kj_aloadn hC 2 dX7_comesBefore_36 rfl rfl ?_
    refine kj_gI (ci := 7) (k := 1) hC dX7_comesBefore_37 kf_X7_15 rfl (fun x5 => ?_)
    refine kj_iloadn hC 4 dX7_comesBefore_40 rfl rfl ?_
    refine kj_isub hC dX7_comesBefore_41 ?_
    refine kj_gAI hC dX7_comesBefore_42 (fun x6 => ?_)
    refine kj_istore (L' := [(5, .inl x6), (4, .inl x4), (0, .inr (.inr (some v0))), (1, .inr (.inr (some v1))), (2, .inl v2), (3, .inl v3)]) hC dX7_comesBefore_43 (by decide) rfl ?_
    refine kj_iload hC 1 dX7_comesBefore_45 rfl ?_
    refine kj_iload hC 0 dX7_comesBefore_47 rfl ?_
    refine kj_icmp_eq (tgt := 65) hC dX7_comesBefore_49 (by decide) (fun q3 => ?_) (fun q3 => ?_)
    · refine kj_iinc (v := v3 + 1) (L' := [(3, .inl (v3 + 1)), (5, .inl x6), (4, .inl x4), (0, .inr (.inr (some v0))), (1, .inr (.inr (some v1))), (2, .inl v2)]) hC 5 dX7_comesBefore_65 rfl rfl (by decide) rfl ?_
      refine kj_goto (tgt := 14) hC dX7_comesBefore_68 (by decide) ?_
      exact kj_sub [3, 4, 5, 0] rfl (hr14 v0 v1 v2 (v3 + 1) h)
    · refine kj_iload hC 1 dX7_comesBefore_52 rfl ?_
      refine kj_iload hC 0 dX7_comesBefore_54 rfl ?_
      refine kj_icmp_ge (tgt := 63) hC dX7_comesBefore_56 (by decide) (fun q4 => ?_) (fun q4 => ?_)
      · refine kj_iconst (v := 0) hC dX7_comesBefore_63 (by decide) ?_
        exact kj_sub [] rfl (t_X7_comesBefore_b64 hC hN hT hmc hms hD  0 h)
      · refine kj_iconst (v := 1) hC dX7_comesBefore_59 (by decide) ?_
        refine kj_goto (tgt := 64) hC dX7_comesBefore_60 (by decide) ?_
        exact kj_sub [] rfl (t_X7_comesBefore_b64 hC hN hT hmc hms hD  1 h)
set_option maxHeartbeats 4000000 in
set_option maxRecDepth 100000 in
theorem t_X7_comesBefore_L14 {X : KX} (hC : kC X RX7 cX7_comesBefore 6 (some .boolean)) (hN : (xme X).name = yX7_comesBefore.name) (hT : kT0 X) (hmc : xmc X = 0) (hms : xms X = 0) (hD : xD X = 1) : ∀ (n : Nat) (v0 : Nat) (v1 : Nat) (v2 : Int32) (v3 : Int32) (h : KH), kJ X (fun x : Int32 => some (.inl x)) 6 0 0 [(0, .inr (.inr (some v0))), (1, .inr (.inr (some v1))), (2, .inl v2), (3, .inl v3)] [] 14 h (X7_comesBefore_L14  n v0 v1 v2 v3 h) := by
  intro n
  induction n with
  | zero => intro v0 v1 v2 v3 h; exact kj_none
  | succ n ih => intro v0 v1 v2 v3 h; exact t_X7_comesBefore_b14 hC hN hT hmc hms hD (X7_comesBefore_L14  n) ih v0 v1 v2 v3 h
set_option maxHeartbeats 4000000 in
set_option maxRecDepth 100000 in
theorem t_X7_comesBefore (p0 : Nat) (p1 : Nat) (h : KH) : kM yX7_comesBefore cX7_comesBefore 6 (some .boolean) 1 0 0 (fun x : Int32 => some (.inl x)) [.inr (.inr (some p0)), .inr (.inr (some p1))] h (f_X7_comesBefore p0 p1 h) := by
  refine kM_of RX7 (by decide) rfl (Nat.le_of_ble_eq_true rfl) [(0, .inr (.inr (some p0))), (1, .inr (.inr (some p1)))] rfl (fun X hC hN hT hmc hms hD => ?_)
  unfold f_X7_comesBefore
  refine kj_aloadn hC 0 dX7_comesBefore_0 rfl rfl ?_
  refine kj_gI (ci := 7) (k := 1) hC dX7_comesBefore_1 kf_X7_15 rfl (fun x1 => ?_)
  refine kj_aloadn hC 1 dX7_comesBefore_4 rfl rfl ?_
  refine kj_gI (ci := 7) (k := 1) hC dX7_comesBefore_5 kf_X7_15 rfl (fun x2 => ?_)
  refine kj_min hC dX7_comesBefore_8 kw436 kw437 kw37 kw438 (Nat.le_of_ble_eq_true rfl) (by rw [hD]; decide) ⟨Nat.zero_le _, Nat.zero_le _⟩ ?_
  refine kj_istoren (L' := [(2, .inl (if x2 < x1 then x2 else x1)), (0, .inr (.inr (some p0))), (1, .inr (.inr (some p1)))]) hC dX7_comesBefore_11 rfl (by decide) rfl ?_
  refine kj_iconst (v := 1) hC dX7_comesBefore_12 (by decide) ?_
  refine kj_istoren (L' := [(3, .inl 1), (2, .inl (if x2 < x1 then x2 else x1)), (0, .inr (.inr (some p0))), (1, .inr (.inr (some p1)))]) hC dX7_comesBefore_13 rfl (by decide) rfl ?_
  exact kj_sub [2, 3, 1, 0] rfl (t_X7_comesBefore_L14 hC hN hT hmc hms hD  kF p0 p1 (if x2 < x1 then x2 else x1) 1 h)
set_option maxHeartbeats 4000000 in
set_option maxRecDepth 100000 in
theorem t_X9_putInOrder_b50 {X : KX} (hC : kC X RX9 cX9_putInOrder 3 none) (hN : (xme X).name = yX9_putInOrder.name) (hT : kT0 X) (hmc : xmc X = 0) (hms : xms X = 0) (hD : xD X = 2) (v0 : Nat) (v1 : Nat) (v2 : Int32) (h : KH) : kJ X (fun _ : Unit => none) 3 0 0 [(0, .inr (.inr (some v0))), (1, .inr (.inr (some v1))), (2, .inl v2)] [] 50 h (X9_putInOrder_b50  v0 v1 v2 h) := by
  unfold X9_putInOrder_b50
  refine kj_aloadn hC 0 dX9_putInOrder_50 rfl rfl ?_
  refine kj_gN (ci := 9) (k := 5) hC dX9_putInOrder_51 kf_X9_40 rfl (fun a1 => ?_)
  refine kj_iloadn hC 2 dX9_putInOrder_54 rfl rfl ?_
  refine kj_aloadn hC 1 dX9_putInOrder_55 rfl rfl ?_
  refine kj_pAN (c := 25) (ci := 4) (q := (RX4, TX4, 5)) hC dX9_putInOrder_56 rfl rfl (fun h1 => ?_)
  refine kj_fin hmc hms ?_
  exact kj_return hC dX9_putInOrder_57
set_option maxHeartbeats 4000000 in
set_option maxRecDepth 100000 in
theorem t_X9_putInOrder_b5 {X : KX} (hC : kC X RX9 cX9_putInOrder 3 none) (hN : (xme X).name = yX9_putInOrder.name) (hT : kT0 X) (hmc : xmc X = 0) (hms : xms X = 0) (hD : xD X = 2) (rc5 : Nat → Nat → Int32 → KH → KO Unit) (hr5 : ∀ (v0 : Nat) (v1 : Nat) (v2 : Int32) (h : KH), kJ X (fun _ : Unit => none) 3 0 0 [(0, .inr (.inr (some v0))), (1, .inr (.inr (some v1))), (2, .inl v2)] [] 5 h (rc5 v0 v1 v2 h)) (v0 : Nat) (v1 : Nat) (v2 : Int32) (h : KH) : kJ X (fun _ : Unit => none) 3 0 0 [(0, .inr (.inr (some v0))), (1, .inr (.inr (some v1))), (2, .inl v2)] [] 5 h (X9_putInOrder_b5 rc5 v0 v1 v2 h) := by
  unfold X9_putInOrder_b5
  refine kj_iloadn hC 2 dX9_putInOrder_5 rfl rfl ?_
  refine kj_if_le (tgt := 50) hC dX9_putInOrder_6 (by decide) (fun q1 => ?_) (fun q1 => ?_)
  · exact kj_sub [0, 1, 2] rfl (t_X9_putInOrder_b50 hC hN hT hmc hms hD  v0 v1 v2 h)
  · refine kj_aloadn hC 1 dX9_putInOrder_9 rfl rfl ?_
    refine kj_gN (ci := 4) (k := 1) hC dX9_putInOrder_10 kf_X9_270 rfl (fun a1 => ?_)
    refine kj_aloadn hC 0 dX9_putInOrder_13 rfl rfl ?_
    refine kj_gN (ci := 9) (k := 5) hC dX9_putInOrder_14 kf_X9_40 rfl (fun a2 => ?_)
    refine kj_iloadn hC 2 dX9_putInOrder_17 rfl rfl ?_
    refine kj_iconst (v := 1) hC dX9_putInOrder_18 (by decide) ?_
    refine kj_isub hC dX9_putInOrder_19 ?_
    refine kj_gAN (c := 25) hC dX9_putInOrder_20 rfl ⟨rfl, rfl⟩ (fun a3 => ?_)
    refine kj_gN (ci := 4) (k := 1) hC dX9_putInOrder_21 kf_X9_270 rfl (fun a4 => ?_)
    refine kj_invV (ci := 7) (q := (RX7, TX7, 2)) (as := [.inr (.inr (some a4))]) (rest := []) hC hT dX9_putInOrder_24 kw432 ky_X7_comesBefore ky2_X7_comesBefore rfl rfl (t_X7_comesBefore a1 a4 h) rfl rfl (Nat.le_of_ble_eq_true rfl) ⟨by rw [hD]; decide, by decide⟩ ⟨by rw [hmc]; exact Nat.le_of_ble_eq_true rfl, by rw [hms]; exact Nat.le_of_ble_eq_true rfl⟩ (fun x1 h1 => ?_)
    refine kj_norm (st' := [.inl x1]) (c' := 0) (z' := 0) rfl rfl rfl ?_
    refine kj_if_eq (tgt := 50) hC dX9_putInOrder_27 (by decide) (fun q2 => ?_) (fun q2 => ?_)
    · exact kj_sub [0, 1, 2] rfl (t_X9_putInOrder_b50 hC hN hT hmc hms hD  v0 v1 v2 h1)
    · refine kj_aloadn hC 0 dX9_putInOrder_30 rfl rfl ?_
      refine kj_gN (ci := 9) (k := 5) hC dX9_putInOrder_31 kf_X9_40 rfl (fun a5 => ?_)
      refine kj_iloadn hC 2 dX9_putInOrder_34 rfl rfl ?_
      refine kj_aloadn hC 0 dX9_putInOrder_35 rfl rfl ?_
      refine kj_gN (ci := 9) (k := 5) hC dX9_putInOrder_36 kf_X9_40 rfl (fun a6 => ?_)
      refine kj_iloadn hC 2 dX9_putInOrder_39 rfl rfl ?_
      refine kj_iconst (v := 1) hC dX9_putInOrder_40 (by decide) ?_
      refine kj_isub hC dX9_putInOrder_41 ?_
      refine kj_gAN (c := 25) hC dX9_putInOrder_42 rfl ⟨rfl, rfl⟩ (fun a7 => ?_)
      refine kj_pAN (c := 25) (ci := 4) (q := (RX4, TX4, 5)) hC dX9_putInOrder_43 rfl rfl (fun h2 => ?_)
      refine kj_iinc (v := v2 + (-1)) (L' := [(2, .inl (v2 + (-1))), (0, .inr (.inr (some v0))), (1, .inr (.inr (some v1)))]) hC 2 dX9_putInOrder_44 rfl rfl (by decide) rfl ?_
      refine kj_goto (tgt := 5) hC dX9_putInOrder_47 (by decide) ?_
      exact kj_sub [1, 2, 0] rfl (hr5 v0 v1 (v2 + (-1)) h2)
set_option maxHeartbeats 4000000 in
set_option maxRecDepth 100000 in
theorem t_X9_putInOrder_L5 {X : KX} (hC : kC X RX9 cX9_putInOrder 3 none) (hN : (xme X).name = yX9_putInOrder.name) (hT : kT0 X) (hmc : xmc X = 0) (hms : xms X = 0) (hD : xD X = 2) : ∀ (n : Nat) (v0 : Nat) (v1 : Nat) (v2 : Int32) (h : KH), kJ X (fun _ : Unit => none) 3 0 0 [(0, .inr (.inr (some v0))), (1, .inr (.inr (some v1))), (2, .inl v2)] [] 5 h (X9_putInOrder_L5  n v0 v1 v2 h) := by
  intro n
  induction n with
  | zero => intro v0 v1 v2 h; exact kj_none
  | succ n ih => intro v0 v1 v2 h; exact t_X9_putInOrder_b5 hC hN hT hmc hms hD (X9_putInOrder_L5  n) ih v0 v1 v2 h
set_option maxHeartbeats 4000000 in
set_option maxRecDepth 100000 in
theorem t_X9_putInOrder (p0 : Nat) (p1 : Nat) (h : KH) : kM yX9_putInOrder cX9_putInOrder 3 none 2 0 0 (fun _ : Unit => none) [.inr (.inr (some p0)), .inr (.inr (some p1))] h (f_X9_putInOrder p0 p1 h) := by
  refine kM_of RX9 (by decide) rfl (Nat.le_of_ble_eq_true rfl) [(0, .inr (.inr (some p0))), (1, .inr (.inr (some p1)))] rfl (fun X hC hN hT hmc hms hD => ?_)
  unfold f_X9_putInOrder
  refine kj_aloadn hC 0 dX9_putInOrder_0 rfl rfl ?_
  refine kj_gI (ci := 9) (k := 13) hC dX9_putInOrder_1 kf_X9_79 rfl (fun x1 => ?_)
  refine kj_istoren (L' := [(2, .inl x1), (0, .inr (.inr (some p0))), (1, .inr (.inr (some p1)))]) hC dX9_putInOrder_4 rfl (by decide) rfl ?_
  exact kj_sub [1, 2, 0] rfl (t_X9_putInOrder_L5 hC hN hT hmc hms hD  kF p0 p1 x1 h)
set_option maxHeartbeats 4000000 in
set_option maxRecDepth 100000 in
theorem t_X9_register_b48 {X : KX} (hC : kC X RX9 cX9_register 4 (some .int)) (hN : (xme X).name = yX9_register.name) (hT : kT0 X) (hmc : xmc X = 9) (hms : xms X = 151) (hD : xD X = 7)  (h : KH) : kJ X (fun x : Int32 => some (.inl x)) 4 2 12 [] [] 48 h (X9_register_b48   h) := by
  unfold X9_register_b48
  exact kj_throw (tx := "no plate with this text") (e := 2) hC hT (by decide) rfl kw304 kw33 kw314 (List.mem_of_getElem? (i := 373) (by decide +kernel)) dX9_register_48 dX9_register_51 dX9_register_52 dX9_register_54 dX9_register_57 (Nat.le_of_ble_eq_true rfl) (by rw [hD]; decide) ⟨by rw [hmc]; exact Nat.le_of_ble_eq_true rfl, by rw [hms]; exact Nat.le_of_ble_eq_true rfl⟩
set_option maxHeartbeats 4000000 in
set_option maxRecDepth 100000 in
theorem t_X9_register (p0 : Nat) (p1 : Int32) (p2 : Int32) (h : KH) : kM yX9_register cX9_register 4 (some .int) 7 9 151 (fun x : Int32 => some (.inl x)) [.inr (.inr (some p0)), .inl p1, .inl p2] h (f_X9_register p0 p1 p2 h) := by
  refine kM_of RX9 (by decide) rfl (Nat.le_of_ble_eq_true rfl) [(0, .inr (.inr (some p0))), (1, .inl p1), (2, .inl p2)] rfl (fun X hC hN hT hmc hms hD => ?_)
  unfold f_X9_register
  refine kj_iloadn hC 1 dX9_register_0 rfl rfl ?_
  refine kj_invS (as := [.inl p1]) (rest := []) hC hT dX9_register_1 kw338 ky_X9_requireDriver ky2_X9_requireDriver (t_X9_requireDriver p1 h) rfl rfl (Nat.le_of_ble_eq_true rfl) ⟨by rw [hD]; decide, by decide⟩ ⟨by rw [hmc]; exact Nat.le_of_ble_eq_true rfl, by rw [hms]; exact Nat.le_of_ble_eq_true rfl⟩ (fun _ h1 => ?_)
  refine kj_norm (st' := []) (c' := 1) (z' := 6) rfl rfl rfl ?_
  refine kj_iloadn hC 2 dX9_register_4 rfl rfl ?_
  refine kj_invS (as := [.inl p2]) (rest := []) hC hT dX9_register_5 kw342 ky_X9_requireClass ky2_X9_requireClass (t_X9_requireClass p2 h1) rfl rfl (Nat.le_of_ble_eq_true rfl) ⟨by rw [hD]; decide, by decide⟩ ⟨by rw [hmc]; exact Nat.le_of_ble_eq_true rfl, by rw [hms]; exact Nat.le_of_ble_eq_true rfl⟩ (fun _ h2 => ?_)
  refine kj_norm (st' := []) (c' := 2) (z' := 12) rfl rfl rfl ?_
  refine kj_aloadn hC 0 dX9_register_8 rfl rfl ?_
  refine kj_gN (ci := 9) (k := 2) hC dX9_register_9 kf_X9_23 rfl (fun a1 => ?_)
  refine kj_gI (ci := 7) (k := 1) hC dX9_register_12 kf_X9_144 rfl (fun x1 => ?_)
  refine kj_if_eq (tgt := 48) hC dX9_register_15 (by decide) (fun q1 => ?_) (fun q1 => ?_)
  · exact kj_sub [] rfl (t_X9_register_b48 hC hN hT hmc hms hD   h2)
  · refine kj_aloadn hC 0 dX9_register_18 rfl rfl ?_
    refine kj_gN (ci := 9) (k := 2) hC dX9_register_19 kf_X9_23 rfl (fun a2 => ?_)
    refine kj_invV (ci := 7) (q := (RX7, TX7, 2)) (as := []) (rest := []) hC hT dX9_register_22 kw361 ky_X7_hasQuestionMark ky2_X7_hasQuestionMark rfl rfl (t_X7_hasQuestionMark a2 h2) rfl rfl (Nat.le_of_ble_eq_true rfl) ⟨by rw [hD]; decide, by decide⟩ ⟨by rw [hmc]; exact Nat.le_of_ble_eq_true rfl, by rw [hms]; exact Nat.le_of_ble_eq_true rfl⟩ (fun x2 h3 => ?_)
    refine kj_norm (st' := [.inl x2]) (c' := 2) (z' := 12) rfl rfl rfl ?_
    refine kj_if_ne (tgt := 48) hC dX9_register_25 (by decide) (fun q2 => ?_) (fun q2 => ?_)
    · refine kj_aloadn hC 0 dX9_register_28 rfl rfl ?_
      refine kj_aloadn hC 0 dX9_register_29 rfl rfl ?_
      refine kj_gN (ci := 9) (k := 2) hC dX9_register_30 kf_X9_23 rfl (fun a3 => ?_)
      refine kj_invV (ci := 9) (q := (RX9, TX9, 17)) (as := [.inr (.inr (some a3))]) (rest := []) hC hT dX9_register_33 kw365 ky_X9_isTaken ky2_X9_isTaken rfl rfl (t_X9_isTaken p0 a3 h3) rfl rfl (Nat.le_of_ble_eq_true rfl) ⟨by rw [hD]; decide, by decide⟩ ⟨by rw [hmc]; exact Nat.le_of_ble_eq_true rfl, by rw [hms]; exact Nat.le_of_ble_eq_true rfl⟩ (fun x3 h4 => ?_)
      refine kj_norm (st' := [.inl x3]) (c' := 2) (z' := 12) rfl rfl rfl ?_
      refine kj_if_ne (tgt := 48) hC dX9_register_36 (by decide) (fun q3 => ?_) (fun q3 => ?_)
      · refine kj_aloadn hC 0 dX9_register_39 rfl rfl ?_
        refine kj_gI (ci := 9) (k := 13) hC dX9_register_40 kf_X9_79 rfl (fun x4 => ?_)
        refine kj_bipush (v := 10) hC dX9_register_43 (by decide) ?_
        refine kj_icmp_lt (tgt := 58) hC dX9_register_45 (by decide) (fun q4 => ?_) (fun q4 => ?_)
        · refine kj_new (ci := 4) (q := (RX4, TX4, 5)) hC dX9_register_58 rfl kw117 kw374 kw35 ⟨by rw [hmc]; exact Nat.le_of_ble_eq_true rfl, by rw [hms]; exact Nat.le_of_ble_eq_true rfl⟩ (fun a4 h5 => ?_)
          refine kj_norm (st' := [.inr (.inr (some a4))]) (c' := 3) (z' := 17) rfl rfl rfl ?_
          refine kj_dup hC dX9_register_61 rfl ?_
          refine kj_aloadn hC 0 dX9_register_62 rfl rfl ?_
          refine kj_gI (ci := 9) (k := 13) hC dX9_register_63 kf_X9_79 rfl (fun x5 => ?_)
          refine kj_aloadn hC 0 dX9_register_66 rfl rfl ?_
          refine kj_gN (ci := 9) (k := 2) hC dX9_register_67 kf_X9_23 rfl (fun a5 => ?_)
          refine kj_invV (ci := 7) (q := (RX7, TX7, 2)) (as := []) (rest := [.inl x5, .inr (.inr (some a4)), .inr (.inr (some a4))]) hC hT dX9_register_70 kw375 ky_X7_copy ky2_X7_copy rfl rfl (t_X7_copy a5 h5) rfl rfl (Nat.le_of_ble_eq_true rfl) ⟨by rw [hD]; decide, by decide⟩ ⟨by rw [hmc]; exact Nat.le_of_ble_eq_true rfl, by rw [hms]; exact Nat.le_of_ble_eq_true rfl⟩ (fun a6 h6 => ?_)
          refine kj_norm (st' := [.inr (.inr (some a6)), .inl x5, .inr (.inr (some a4)), .inr (.inr (some a4))]) (c' := 5) (z' := 25) rfl rfl rfl ?_
          refine kj_iloadn hC 2 dX9_register_73 rfl rfl ?_
          refine kj_new (ci := 1) (q := (RX1, TX1, 3)) hC dX9_register_74 rfl kw381 kw382 kw36 ⟨by rw [hmc]; exact Nat.le_of_ble_eq_true rfl, by rw [hms]; exact Nat.le_of_ble_eq_true rfl⟩ (fun a7 h7 => ?_)
          refine kj_norm (st' := [.inr (.inr (some a7)), .inl p2, .inr (.inr (some a6)), .inl x5, .inr (.inr (some a4)), .inr (.inr (some a4))]) (c' := 6) (z' := 28) rfl rfl rfl ?_
          refine kj_dup hC dX9_register_77 rfl ?_
          refine kj_iloadn hC 1 dX9_register_78 rfl rfl ?_
          refine kj_aloadn hC 0 dX9_register_79 rfl rfl ?_
          refine kj_gI (ci := 9) (k := 12) hC dX9_register_80 kf_X9_75 rfl (fun x6 => ?_)
          refine kj_null hC dX9_register_83 ?_
          refine kj_invI (as := [.inl p1, .inl x6, .inr (.inr none)]) (rest := [.inr (.inr (some a7)), .inl p2, .inr (.inr (some a6)), .inl x5, .inr (.inr (some a4)), .inr (.inr (some a4))]) hC hT dX9_register_84 kw383 ky_X1_init ky2_X1_init rfl (t_X1_init a7 p1 x6 none h7) rfl rfl (Nat.le_of_ble_eq_true rfl) ⟨by rw [hD]; decide, by decide⟩ ⟨by rw [hmc]; exact Nat.le_of_ble_eq_true rfl, by rw [hms]; exact Nat.le_of_ble_eq_true rfl⟩ (fun _ h8 => ?_)
          refine kj_norm (st' := [.inr (.inr (some a7)), .inl p2, .inr (.inr (some a6)), .inl x5, .inr (.inr (some a4)), .inr (.inr (some a4))]) (c' := 6) (z' := 28) rfl rfl rfl ?_
          refine kj_invI (as := [.inl x5, .inr (.inr (some a6)), .inl p2, .inr (.inr (some a7))]) (rest := [.inr (.inr (some a4))]) hC hT dX9_register_87 kw401 ky_X4_init ky2_X4_init rfl (t_X4_init a4 x5 a6 p2 a7 h8) rfl rfl (Nat.le_of_ble_eq_true rfl) ⟨by rw [hD]; decide, by decide⟩ ⟨by rw [hmc]; exact Nat.le_of_ble_eq_true rfl, by rw [hms]; exact Nat.le_of_ble_eq_true rfl⟩ (fun _ h9 => ?_)
          refine kj_norm (st' := [.inr (.inr (some a4))]) (c' := 9) (z' := 151) rfl rfl rfl ?_
          refine kj_astoren (L' := [(3, .inr (.inr (some a4))), (0, .inr (.inr (some p0))), (1, .inl p1), (2, .inl p2)]) hC dX9_register_90 rfl (by decide) rfl ?_
          refine kj_aloadn hC 1 dX9_register_91 rfl rfl ?_
          refine kj_gN (ci := 9) (k := 4) hC dX9_register_92 kf_X9_36 rfl (fun a8 => ?_)
          refine kj_aloadn hC 1 dX9_register_95 rfl rfl ?_
          refine kj_gI (ci := 9) (k := 13) hC dX9_register_96 kf_X9_79 rfl (fun x7 => ?_)
          refine kj_aloadn hC 0 dX9_register_99 rfl rfl ?_
          refine kj_pAN (c := 25) (ci := 4) (q := (RX4, TX4, 5)) hC dX9_register_100 rfl rfl (fun h10 => ?_)
          refine kj_aloadn hC 1 dX9_register_101 rfl rfl ?_
          refine kj_aloadn hC 0 dX9_register_102 rfl rfl ?_
          refine kj_invV (ci := 9) (q := (RX9, TX9, 17)) (as := [.inr (.inr (some a4))]) (rest := []) hC hT dX9_register_103 kw428 ky_X9_putInOrder ky2_X9_putInOrder rfl rfl (t_X9_putInOrder p0 a4 h10) rfl rfl (Nat.le_of_ble_eq_true rfl) ⟨by rw [hD]; decide, by decide⟩ ⟨by rw [hmc]; exact Nat.le_of_ble_eq_true rfl, by rw [hms]; exact Nat.le_of_ble_eq_true rfl⟩ (fun _ h11 => ?_)
          refine kj_norm (st' := []) (c' := 9) (z' := 151) rfl rfl rfl ?_
          refine kj_aloadn hC 1 dX9_register_106 rfl rfl ?_
          refine kj_dup hC dX9_register_107 rfl ?_
          refine kj_gI (ci := 9) (k := 13) hC dX9_register_108 kf_X9_79 rfl (fun x8 => ?_)
          refine kj_iconst (v := 1) hC dX9_register_111 (by decide) ?_
          refine kj_iadd hC dX9_register_112 ?_
          refine kj_pI (ci := 9) (k := 13) hC dX9_register_113 kf_X9_79 (Or.inl (kNF_of (by decide))) rfl ⟨rfl, rfl⟩ (fun h12 => ?_)
          refine kj_aloadn hC 1 dX9_register_116 rfl rfl ?_
          refine kj_invV (ci := 9) (q := (RX9, TX9, 17)) (as := []) (rest := []) hC hT dX9_register_117 kw439 ky_X9_leadAllBack ky2_X9_leadAllBack rfl rfl (t_X9_leadAllBack p0 h12) rfl rfl (Nat.le_of_ble_eq_true rfl) ⟨by rw [hD]; decide, by decide⟩ ⟨by rw [hmc]; exact Nat.le_of_ble_eq_true rfl, by rw [hms]; exact Nat.le_of_ble_eq_true rfl⟩ (fun _ h13 => ?_)
          refine kj_norm (st' := []) (c' := 9) (z' := 151) rfl rfl rfl ?_
          refine kj_aloadn hC 0 dX9_register_120 rfl rfl ?_
          refine kj_gI (ci := 4) (k := 0) hC dX9_register_121 kf_X9_210 rfl (fun x9 => ?_)
          refine kj_fin hmc hms ?_
          exact kj_ireturn hC dX9_register_124
        · exact kj_sub [] rfl (t_X9_register_b48 hC hN hT hmc hms hD   h4)
      · exact kj_sub [] rfl (t_X9_register_b48 hC hN hT hmc hms hD   h4)
    · exact kj_sub [] rfl (t_X9_register_b48 hC hN hT hmc hms hD   h3)
set_option maxHeartbeats 4000000 in
set_option maxRecDepth 100000 in
theorem t_X9_plateNumbered (p0 : Nat) (p1 : Int32) (h : KH) : kM yX9_plateNumbered cX9_plateNumbered 2 (some (.object "Tollkeeper$Plate")) 6 1 6 (fun a : Nat => some (.inr (.inr (some a)))) [.inr (.inr (some p0)), .inl p1] h (f_X9_plateNumbered p0 p1 h) := by
  refine kM_of RX9 (by decide) rfl (Nat.le_of_ble_eq_true rfl) [(0, .inr (.inr (some p0))), (1, .inl p1)] rfl (fun X hC hN hT hmc hms hD => ?_)
  unfold f_X9_plateNumbered
  refine kj_iloadn hC 1 dX9_plateNumbered_0 rfl rfl ?_
  refine kj_iconst (v := 0) hC dX9_plateNumbered_1 (by decide) ?_
  refine kj_aloadn hC 0 dX9_plateNumbered_2 rfl rfl ?_
  refine kj_gI (ci := 9) (k := 13) hC dX9_plateNumbered_3 kf_X9_79 rfl (fun x1 => ?_)
  refine kj_iconst (v := 1) hC dX9_plateNumbered_6 (by decide) ?_
  refine kj_isub hC dX9_plateNumbered_7 ?_
  refine kj_invS (as := [.inl p1, .inl 0, .inl (x1 - 1)]) (rest := []) hC hT dX9_plateNumbered_8 kw228 ky_X9_isWithin ky2_X9_isWithin (t_X9_isWithin p1 0 (x1 - 1) h) rfl rfl (Nat.le_of_ble_eq_true rfl) ⟨by rw [hD]; decide, by decide⟩ ⟨by rw [hmc]; exact Nat.le_of_ble_eq_true rfl, by rw [hms]; exact Nat.le_of_ble_eq_true rfl⟩ (fun x2 h1 => ?_)
  refine kj_norm (st' := [.inl x2]) (c' := 0) (z' := 0) rfl rfl rfl ?_
  refine kj_if_ne (tgt := 25) hC dX9_plateNumbered_11 (by decide) (fun q1 => ?_) (fun q1 => ?_)
  · exact kj_throwW (tx := "no such plate") (e := 3) hC hT (by decide) rfl kw231 kw32 kw274 (List.mem_of_getElem? (i := 568) (by decide +kernel)) dX9_plateNumbered_14 dX9_plateNumbered_17 dX9_plateNumbered_18 dX9_plateNumbered_21 dX9_plateNumbered_24 (Nat.le_of_ble_eq_true rfl) (by rw [hD]; decide) ⟨by rw [hmc]; exact Nat.le_of_ble_eq_true rfl, by rw [hms]; exact Nat.le_of_ble_eq_true rfl⟩
  · refine kj_aloadn hC 0 dX9_plateNumbered_25 rfl rfl ?_
    refine kj_gN (ci := 9) (k := 4) hC dX9_plateNumbered_26 kf_X9_36 rfl (fun a1 => ?_)
    refine kj_iloadn hC 1 dX9_plateNumbered_29 rfl rfl ?_
    refine kj_gAN (c := 25) hC dX9_plateNumbered_30 rfl ⟨rfl, rfl⟩ (fun a2 => ?_)
    refine kj_widen (k := 1) (n := 6) (Nat.le_of_ble_eq_true rfl) (Nat.le_of_ble_eq_true rfl) ?_
    refine kj_fin hmc hms ?_
    exact kj_areturnN hC dX9_plateNumbered_31
set_option maxHeartbeats 4000000 in
set_option maxRecDepth 100000 in
theorem t_X4_sellTo_b25 {X : KX} (hC : kC X RX4 cX4_sellTo 4 none) (hN : (xme X).name = yX4_sellTo.name) (hT : kT0 X) (hmc : xmc X = 1) (hms : xms X = 3) (hD : xD X = 2) (v0 : Nat) (v1 : Int32) (v2 : Int32) (s0 : Option Nat) (h : KH) : kJ X (fun _ : Unit => none) 4 0 0 [(0, .inr (.inr (some v0))), (1, .inl v1), (2, .inl v2)] [.inr (.inr s0)] 25 h (X4_sellTo_b25  v0 v1 v2 s0 h) := by
  unfold X4_sellTo_b25
  refine kj_astoren (L' := [(3, .inr (.inr s0)), (0, .inr (.inr (some v0))), (1, .inl v1), (2, .inl v2)]) hC dX4_sellTo_25 rfl (by decide) rfl ?_
  refine kj_aloadn hC 1 dX4_sellTo_26 rfl rfl ?_
  refine kj_new (ci := 1) (q := (RX1, TX1, 3)) hC dX4_sellTo_27 rfl kw624 kw382 kw36 ⟨by rw [hmc]; exact Nat.le_of_ble_eq_true rfl, by rw [hms]; exact Nat.le_of_ble_eq_true rfl⟩ (fun a1 h1 => ?_)
  refine kj_norm (st' := [.inr (.inr (some a1)), .inr (.inr (some v0))]) (c' := 1) (z' := 3) rfl rfl rfl ?_
  refine kj_dup hC dX4_sellTo_30 rfl ?_
  refine kj_iloadn hC 2 dX4_sellTo_31 rfl rfl ?_
  refine kj_iloadn hC 3 dX4_sellTo_32 rfl rfl ?_
  refine kj_aloadn hC 0 dX4_sellTo_33 rfl rfl ?_
  refine kj_invI (as := [.inl v1, .inl v2, .inr (.inr s0)]) (rest := [.inr (.inr (some a1)), .inr (.inr (some v0))]) hC hT dX4_sellTo_34 kw625 ky_X1_init ky2_X1_init rfl (t_X1_init a1 v1 v2 s0 h1) rfl rfl (Nat.le_of_ble_eq_true rfl) ⟨by rw [hD]; decide, by decide⟩ ⟨by rw [hmc]; exact Nat.le_of_ble_eq_true rfl, by rw [hms]; exact Nat.le_of_ble_eq_true rfl⟩ (fun _ h2 => ?_)
  refine kj_norm (st' := [.inr (.inr (some a1)), .inr (.inr (some v0))]) (c' := 1) (z' := 3) rfl rfl rfl ?_
  refine kj_pR (ci := 4) (k := 4) hC dX4_sellTo_37 kf_X4_29 (Or.inl (kNF_of (by decide))) rfl (fun h3 => ?_)
  refine kj_fin hmc hms ?_
  exact kj_return hC dX4_sellTo_40
set_option maxHeartbeats 4000000 in
set_option maxRecDepth 100000 in
theorem t_X4_sellTo (p0 : Nat) (p1 : Int32) (p2 : Int32) (h : KH) : kM yX4_sellTo cX4_sellTo 4 none 2 1 3 (fun _ : Unit => none) [.inr (.inr (some p0)), .inl p1, .inl p2] h (f_X4_sellTo p0 p1 p2 h) := by
  refine kM_of RX4 (by decide) rfl (Nat.le_of_ble_eq_true rfl) [(0, .inr (.inr (some p0))), (1, .inl p1), (2, .inl p2)] rfl (fun X hC hN hT hmc hms hD => ?_)
  unfold f_X4_sellTo
  refine kj_aloadn hC 0 dX4_sellTo_0 rfl rfl ?_
  refine kj_gR (ci := 4) (k := 4) hC dX4_sellTo_1 kf_X4_29 rfl (fun o1 => ?_)
  refine kj_may (fun a1 q => ?_)
  subst q
  refine kj_gI (ci := 1) (k := 1) hC dX4_sellTo_4 kf_X4_33 rfl (fun x1 => ?_)
  refine kj_iloadn hC 2 dX4_sellTo_7 rfl rfl ?_
  refine kj_icmp_ne (tgt := 21) hC dX4_sellTo_8 (by decide) (fun q1 => ?_) (fun q1 => ?_)
  · refine kj_aloadn hC 0 dX4_sellTo_11 rfl rfl ?_
    refine kj_gR (ci := 4) (k := 4) hC dX4_sellTo_12 kf_X4_29 rfl (fun o3 => ?_)
    refine kj_may (fun a2 q => ?_)
    subst q
    refine kj_gR (ci := 1) (k := 2) hC dX4_sellTo_15 kf_X4_38 rfl (fun o4 => ?_)
    refine kj_goto (tgt := 25) hC dX4_sellTo_18 (by decide) ?_
    exact kj_sub [0, 1, 2] rfl (t_X4_sellTo_b25 hC hN hT hmc hms hD  p0 p1 p2 o4 h)
  · refine kj_aloadn hC 0 dX4_sellTo_21 rfl rfl ?_
    refine kj_gR (ci := 4) (k := 4) hC dX4_sellTo_22 kf_X4_29 rfl (fun o2 => ?_)
    exact kj_sub [0, 1, 2] rfl (t_X4_sellTo_b25 hC hN hT hmc hms hD  p0 p1 p2 o2 h)
set_option maxHeartbeats 4000000 in
set_option maxRecDepth 100000 in
theorem t_X9_sell (p0 : Nat) (p1 : Int32) (p2 : Int32) (h : KH) : kM yX9_sell cX9_sell 5 (some .int) 7 3 15 (fun x : Int32 => some (.inl x)) [.inr (.inr (some p0)), .inl p1, .inl p2] h (f_X9_sell p0 p1 p2 h) := by
  refine kM_of RX9 (by decide) rfl (Nat.le_of_ble_eq_true rfl) [(0, .inr (.inr (some p0))), (1, .inl p1), (2, .inl p2)] rfl (fun X hC hN hT hmc hms hD => ?_)
  unfold f_X9_sell
  refine kj_aloadn hC 0 dX9_sell_0 rfl rfl ?_
  refine kj_iloadn hC 1 dX9_sell_1 rfl rfl ?_
  refine kj_invV (ci := 9) (q := (RX9, TX9, 17)) (as := [.inl p1]) (rest := []) hC hT dX9_sell_2 kw564 ky_X9_plateNumbered ky2_X9_plateNumbered rfl rfl (t_X9_plateNumbered p0 p1 h) rfl rfl (Nat.le_of_ble_eq_true rfl) ⟨by rw [hD]; decide, by decide⟩ ⟨by rw [hmc]; exact Nat.le_of_ble_eq_true rfl, by rw [hms]; exact Nat.le_of_ble_eq_true rfl⟩ (fun a1 h1 => ?_)
  refine kj_norm (st' := [.inr (.inr (some a1))]) (c' := 1) (z' := 6) rfl rfl rfl ?_
  refine kj_astoren (L' := [(3, .inr (.inr (some a1))), (0, .inr (.inr (some p0))), (1, .inl p1), (2, .inl p2)]) hC dX9_sell_5 rfl (by decide) rfl ?_
  refine kj_iloadn hC 3 dX9_sell_6 rfl rfl ?_
  refine kj_invS (as := [.inl p2]) (rest := []) hC hT dX9_sell_7 kw338 ky_X9_requireDriver ky2_X9_requireDriver (t_X9_requireDriver p2 h1) rfl rfl (Nat.le_of_ble_eq_true rfl) ⟨by rw [hD]; decide, by decide⟩ ⟨by rw [hmc]; exact Nat.le_of_ble_eq_true rfl, by rw [hms]; exact Nat.le_of_ble_eq_true rfl⟩ (fun _ h2 => ?_)
  refine kj_norm (st' := []) (c' := 2) (z' := 12) rfl rfl rfl ?_
  refine kj_aloadn hC 0 dX9_sell_10 rfl rfl ?_
  refine kj_gR (ci := 4) (k := 4) hC dX9_sell_11 kf_X9_217 rfl (fun o1 => ?_)
  refine kj_may (fun a2 q => ?_)
  subst q
  refine kj_gI (ci := 1) (k := 0) hC dX9_sell_14 kf_X9_221 rfl (fun x1 => ?_)
  refine kj_istore (L' := [(4, .inl x1), (3, .inr (.inr (some a1))), (0, .inr (.inr (some p0))), (1, .inl p1), (2, .inl p2)]) hC dX9_sell_17 (by decide) rfl ?_
  refine kj_aloadn hC 1 dX9_sell_19 rfl rfl ?_
  refine kj_iloadn hC 4 dX9_sell_20 rfl rfl ?_
  refine kj_aloadn hC 2 dX9_sell_21 rfl rfl ?_
  refine kj_gI (ci := 9) (k := 12) hC dX9_sell_22 kf_X9_75 rfl (fun x2 => ?_)
  refine kj_invV (ci := 4) (q := (RX4, TX4, 5)) (as := [.inl p2, .inl x2]) (rest := []) hC hT dX9_sell_25 kw620 ky_X4_sellTo ky2_X4_sellTo rfl rfl (t_X4_sellTo a1 p2 x2 h2) rfl rfl (Nat.le_of_ble_eq_true rfl) ⟨by rw [hD]; decide, by decide⟩ ⟨by rw [hmc]; exact Nat.le_of_ble_eq_true rfl, by rw [hms]; exact Nat.le_of_ble_eq_true rfl⟩ (fun _ h3 => ?_)
  refine kj_norm (st' := []) (c' := 3) (z' := 15) rfl rfl rfl ?_
  refine kj_iload hC 0 dX9_sell_28 rfl ?_
  refine kj_fin hmc hms ?_
  exact kj_ireturn hC dX9_sell_30
set_option maxHeartbeats 4000000 in
set_option maxRecDepth 100000 in
theorem t_X9_plates (p0 : Nat) (h : KH) : kM yX9_plates cX9_plates 1 (some .int) 0 0 0 (fun x : Int32 => some (.inl x)) [.inr (.inr (some p0))] h (f_X9_plates p0 h) := by
  refine kM_of RX9 (by decide) rfl (Nat.le_of_ble_eq_true rfl) [(0, .inr (.inr (some p0)))] rfl (fun X hC hN hT hmc hms hD => ?_)
  unfold f_X9_plates
  refine kj_aloadn hC 0 dX9_plates_0 rfl rfl ?_
  refine kj_gI (ci := 9) (k := 13) hC dX9_plates_1 kf_X9_79 rfl (fun x1 => ?_)
  refine kj_fin hmc hms ?_
  exact kj_ireturn hC dX9_plates_4
set_option maxHeartbeats 4000000 in
set_option maxRecDepth 100000 in
theorem t_X9_plateAt (p0 : Nat) (p1 : Int32) (h : KH) : kM yX9_plateAt cX9_plateAt 2 (some .int) 6 1 6 (fun x : Int32 => some (.inl x)) [.inr (.inr (some p0)), .inl p1] h (f_X9_plateAt p0 p1 h) := by
  refine kM_of RX9 (by decide) rfl (Nat.le_of_ble_eq_true rfl) [(0, .inr (.inr (some p0))), (1, .inl p1)] rfl (fun X hC hN hT hmc hms hD => ?_)
  unfold f_X9_plateAt
  refine kj_iloadn hC 1 dX9_plateAt_0 rfl rfl ?_
  refine kj_iconst (v := 0) hC dX9_plateAt_1 (by decide) ?_
  refine kj_aloadn hC 0 dX9_plateAt_2 rfl rfl ?_
  refine kj_gI (ci := 9) (k := 13) hC dX9_plateAt_3 kf_X9_79 rfl (fun x1 => ?_)
  refine kj_iconst (v := 1) hC dX9_plateAt_6 (by decide) ?_
  refine kj_isub hC dX9_plateAt_7 ?_
  refine kj_invS (as := [.inl p1, .inl 0, .inl (x1 - 1)]) (rest := []) hC hT dX9_plateAt_8 kw228 ky_X9_isWithin ky2_X9_isWithin (t_X9_isWithin p1 0 (x1 - 1) h) rfl rfl (Nat.le_of_ble_eq_true rfl) ⟨by rw [hD]; decide, by decide⟩ ⟨by rw [hmc]; exact Nat.le_of_ble_eq_true rfl, by rw [hms]; exact Nat.le_of_ble_eq_true rfl⟩ (fun x2 h1 => ?_)
  refine kj_norm (st' := [.inl x2]) (c' := 0) (z' := 0) rfl rfl rfl ?_
  refine kj_if_ne (tgt := 24) hC dX9_plateAt_11 (by decide) (fun q1 => ?_) (fun q1 => ?_)
  · exact kj_throwN (tx := "no plate at this place") (e := 4) hC hT rfl kw709 kw39 kw719 (List.mem_of_getElem? (i := 741) (by decide +kernel)) dX9_plateAt_14 dX9_plateAt_17 dX9_plateAt_18 dX9_plateAt_20 dX9_plateAt_23 (Nat.le_of_ble_eq_true rfl) (by rw [hD]; decide) ⟨by rw [hmc]; exact Nat.le_of_ble_eq_true rfl, by rw [hms]; exact Nat.le_of_ble_eq_true rfl⟩
  · refine kj_aloadn hC 0 dX9_plateAt_24 rfl rfl ?_
    refine kj_gN (ci := 9) (k := 5) hC dX9_plateAt_25 kf_X9_40 rfl (fun a1 => ?_)
    refine kj_iloadn hC 1 dX9_plateAt_28 rfl rfl ?_
    refine kj_gAN (c := 25) hC dX9_plateAt_29 rfl ⟨rfl, rfl⟩ (fun a2 => ?_)
    refine kj_gI (ci := 4) (k := 0) hC dX9_plateAt_30 kf_X9_210 rfl (fun x3 => ?_)
    refine kj_widen (k := 1) (n := 6) (Nat.le_of_ble_eq_true rfl) (Nat.le_of_ble_eq_true rfl) ?_
    refine kj_fin hmc hms ?_
    exact kj_ireturn hC dX9_plateAt_33
set_option maxHeartbeats 4000000 in
set_option maxRecDepth 100000 in
theorem t_X9_requireMinute (p0 : Nat) (p1 : Int32) (h : KH) : kM yX9_requireMinute cX9_requireMinute 2 none 6 1 6 (fun _ : Unit => none) [.inr (.inr (some p0)), .inl p1] h (f_X9_requireMinute p0 p1 h) := by
  refine kM_of RX9 (by decide) rfl (Nat.le_of_ble_eq_true rfl) [(0, .inr (.inr (some p0))), (1, .inl p1)] rfl (fun X hC hN hT hmc hms hD => ?_)
  unfold f_X9_requireMinute
  refine kj_iloadn hC 1 dX9_requireMinute_0 rfl rfl ?_
  refine kj_iconst (v := 0) hC dX9_requireMinute_1 (by decide) ?_
  refine kj_aloadn hC 0 dX9_requireMinute_2 rfl rfl ?_
  refine kj_gI (ci := 9) (k := 12) hC dX9_requireMinute_3 kf_X9_75 rfl (fun x1 => ?_)
  refine kj_invS (as := [.inl p1, .inl 0, .inl x1]) (rest := []) hC hT dX9_requireMinute_6 kw228 ky_X9_isWithin ky2_X9_isWithin (t_X9_isWithin p1 0 x1 h) rfl rfl (Nat.le_of_ble_eq_true rfl) ⟨by rw [hD]; decide, by decide⟩ ⟨by rw [hmc]; exact Nat.le_of_ble_eq_true rfl, by rw [hms]; exact Nat.le_of_ble_eq_true rfl⟩ (fun x2 h1 => ?_)
  refine kj_norm (st' := [.inl x2]) (c' := 0) (z' := 0) rfl rfl rfl ?_
  refine kj_if_ne (tgt := 23) hC dX9_requireMinute_9 (by decide) (fun q1 => ?_) (fun q1 => ?_)
  · exact kj_throwW (tx := "minute out of range") (e := 1) hC hT (by decide) rfl kw345 kw34 kw355 (List.mem_of_getElem? (i := 510) (by decide +kernel)) dX9_requireMinute_12 dX9_requireMinute_15 dX9_requireMinute_16 dX9_requireMinute_19 dX9_requireMinute_22 (Nat.le_of_ble_eq_true rfl) (by rw [hD]; decide) ⟨by rw [hmc]; exact Nat.le_of_ble_eq_true rfl, by rw [hms]; exact Nat.le_of_ble_eq_true rfl⟩
  · refine kj_widen (k := 1) (n := 6) (Nat.le_of_ble_eq_true rfl) (Nat.le_of_ble_eq_true rfl) ?_
    refine kj_fin hmc hms ?_
    exact kj_return hC dX9_requireMinute_23
set_option maxHeartbeats 4000000 in
set_option maxRecDepth 100000 in
theorem t_X4_driverIn_b5 {X : KX} (hC : kC X RX4 cX4_driverIn 3 (some .int)) (hN : (xme X).name = yX4_driverIn.name) (hT : kT0 X) (hmc : xmc X = 0) (hms : xms X = 0) (hD : xD X = 0) (rc5 : Int32 → Option Nat → KH → KO Int32) (hr5 : ∀ (v1 : Int32) (v2 : Option Nat) (h : KH), kJ X (fun x : Int32 => some (.inl x)) 3 0 0 [(1, .inl v1), (2, .inr (.inr v2))] [] 5 h (rc5 v1 v2 h)) (v1 : Int32) (v2 : Option Nat) (h : KH) : kJ X (fun x : Int32 => some (.inl x)) 3 0 0 [(1, .inl v1), (2, .inr (.inr v2))] [] 5 h (X4_driverIn_b5 rc5 v1 v2 h) := by
  unfold X4_driverIn_b5
  refine kj_aloadn hC 1 dX4_driverIn_5 rfl rfl ?_
  refine kj_ifnull (tgt := 30) hC dX4_driverIn_6 (by decide) (fun q => ?_) (fun a1 q => ?_)
  · subst q
    refine kj_iconst (v := (-1)) hC dX4_driverIn_30 (by decide) ?_
    refine kj_fin hmc hms ?_
    exact kj_ireturn hC dX4_driverIn_31
  · subst q
    refine kj_aloadn hC 1 dX4_driverIn_9 rfl rfl ?_
    refine kj_gI (ci := 1) (k := 1) hC dX4_driverIn_10 kf_X4_33 rfl (fun x1 => ?_)
    refine kj_iloadn hC 0 dX4_driverIn_13 rfl rfl ?_
    refine kj_icmp_gt (tgt := 22) hC dX4_driverIn_14 (by decide) (fun q1 => ?_) (fun q1 => ?_)
    · refine kj_aloadn hC 1 dX4_driverIn_22 rfl rfl ?_
      refine kj_gR (ci := 1) (k := 2) hC dX4_driverIn_23 kf_X4_38 rfl (fun o1 => ?_)
      refine kj_astoren (L' := [(2, .inr (.inr o1)), (1, .inl v1)]) hC dX4_driverIn_26 rfl (by decide) rfl ?_
      refine kj_goto (tgt := 5) hC dX4_driverIn_27 (by decide) ?_
      exact kj_sub [1, 0] rfl (hr5 v1 o1 h)
    · refine kj_aloadn hC 1 dX4_driverIn_17 rfl rfl ?_
      refine kj_gI (ci := 1) (k := 0) hC dX4_driverIn_18 kf_X4_44 rfl (fun x2 => ?_)
      refine kj_fin hmc hms ?_
      exact kj_ireturn hC dX4_driverIn_21
set_option maxHeartbeats 4000000 in
set_option maxRecDepth 100000 in
theorem t_X4_driverIn_L5 {X : KX} (hC : kC X RX4 cX4_driverIn 3 (some .int)) (hN : (xme X).name = yX4_driverIn.name) (hT : kT0 X) (hmc : xmc X = 0) (hms : xms X = 0) (hD : xD X = 0) : ∀ (n : Nat) (v1 : Int32) (v2 : Option Nat) (h : KH), kJ X (fun x : Int32 => some (.inl x)) 3 0 0 [(1, .inl v1), (2, .inr (.inr v2))] [] 5 h (X4_driverIn_L5  n v1 v2 h) := by
  intro n
  induction n with
  | zero => intro v1 v2 h; exact kj_none
  | succ n ih => intro v1 v2 h; exact t_X4_driverIn_b5 hC hN hT hmc hms hD (X4_driverIn_L5  n) ih v1 v2 h
set_option maxHeartbeats 4000000 in
set_option maxRecDepth 100000 in
theorem t_X4_driverIn (p0 : Nat) (p1 : Int32) (h : KH) : kM yX4_driverIn cX4_driverIn 3 (some .int) 0 0 0 (fun x : Int32 => some (.inl x)) [.inr (.inr (some p0)), .inl p1] h (f_X4_driverIn p0 p1 h) := by
  refine kM_of RX4 (by decide) rfl (Nat.le_of_ble_eq_true rfl) [(0, .inr (.inr (some p0))), (1, .inl p1)] rfl (fun X hC hN hT hmc hms hD => ?_)
  unfold f_X4_driverIn
  refine kj_aloadn hC 0 dX4_driverIn_0 rfl rfl ?_
  refine kj_gR (ci := 4) (k := 4) hC dX4_driverIn_1 kf_X4_29 rfl (fun o1 => ?_)
  refine kj_astoren (L' := [(2, .inr (.inr o1)), (0, .inr (.inr (some p0))), (1, .inl p1)]) hC dX4_driverIn_4 rfl (by decide) rfl ?_
  exact kj_sub [2, 0] rfl (t_X4_driverIn_L5 hC hN hT hmc hms hD  kF p1 o1 h)
set_option maxHeartbeats 4000000 in
set_option maxRecDepth 100000 in
theorem t_X9_holder (p0 : Nat) (p1 : Int32) (p2 : Int32) (h : KH) : kM yX9_holder cX9_holder 4 (some .int) 7 2 12 (fun x : Int32 => some (.inl x)) [.inr (.inr (some p0)), .inl p1, .inl p2] h (f_X9_holder p0 p1 p2 h) := by
  refine kM_of RX9 (by decide) rfl (Nat.le_of_ble_eq_true rfl) [(0, .inr (.inr (some p0))), (1, .inl p1), (2, .inl p2)] rfl (fun X hC hN hT hmc hms hD => ?_)
  unfold f_X9_holder
  refine kj_aloadn hC 0 dX9_holder_0 rfl rfl ?_
  refine kj_iloadn hC 1 dX9_holder_1 rfl rfl ?_
  refine kj_invV (ci := 9) (q := (RX9, TX9, 17)) (as := [.inl p1]) (rest := []) hC hT dX9_holder_2 kw564 ky_X9_plateNumbered ky2_X9_plateNumbered rfl rfl (t_X9_plateNumbered p0 p1 h) rfl rfl (Nat.le_of_ble_eq_true rfl) ⟨by rw [hD]; decide, by decide⟩ ⟨by rw [hmc]; exact Nat.le_of_ble_eq_true rfl, by rw [hms]; exact Nat.le_of_ble_eq_true rfl⟩ (fun a1 h1 => ?_)
  refine kj_norm (st' := [.inr (.inr (some a1))]) (c' := 1) (z' := 6) rfl rfl rfl ?_
  refine kj_astoren (L' := [(3, .inr (.inr (some a1))), (0, .inr (.inr (some p0))), (1, .inl p1), (2, .inl p2)]) hC dX9_holder_5 rfl (by decide) rfl ?_
  refine kj_aloadn hC 1 dX9_holder_6 rfl rfl ?_
  refine kj_iloadn hC 3 dX9_holder_7 rfl rfl ?_
  refine kj_invV (ci := 9) (q := (RX9, TX9, 17)) (as := [.inl p2]) (rest := []) hC hT dX9_holder_8 kw506 ky_X9_requireMinute ky2_X9_requireMinute rfl rfl (t_X9_requireMinute p0 p2 h1) rfl rfl (Nat.le_of_ble_eq_true rfl) ⟨by rw [hD]; decide, by decide⟩ ⟨by rw [hmc]; exact Nat.le_of_ble_eq_true rfl, by rw [hms]; exact Nat.le_of_ble_eq_true rfl⟩ (fun _ h2 => ?_)
  refine kj_norm (st' := []) (c' := 2) (z' := 12) rfl rfl rfl ?_
  refine kj_aloadn hC 0 dX9_holder_11 rfl rfl ?_
  refine kj_iloadn hC 3 dX9_holder_12 rfl rfl ?_
  refine kj_invV (ci := 4) (q := (RX4, TX4, 5)) (as := [.inl p2]) (rest := []) hC hT dX9_holder_13 kw612 ky_X4_driverIn ky2_X4_driverIn rfl rfl (t_X4_driverIn a1 p2 h2) rfl rfl (Nat.le_of_ble_eq_true rfl) ⟨by rw [hD]; decide, by decide⟩ ⟨by rw [hmc]; exact Nat.le_of_ble_eq_true rfl, by rw [hms]; exact Nat.le_of_ble_eq_true rfl⟩ (fun x1 h3 => ?_)
  refine kj_norm (st' := [.inl x1]) (c' := 2) (z' := 12) rfl rfl rfl ?_
  refine kj_fin hmc hms ?_
  exact kj_ireturn hC dX9_holder_16
set_option maxHeartbeats 4000000 in
set_option maxRecDepth 100000 in
theorem t_X5_init (p0 : Nat) (p1 : Int32) (p2 : Int32) (p3 : Int32) (p4 : Nat) (h : KH) : kM yX5_init cX5_init 5 none 1 0 0 (fun _ : Unit => none) [.inr (.inr (some p0)), .inl p1, .inl p2, .inl p3, .inr (.inr (some p4))] h (f_X5_init p0 p1 p2 p3 p4 h) := by
  refine kM_of RX5 (by decide) rfl (Nat.le_of_ble_eq_true rfl) [(0, .inr (.inr (some p0))), (1, .inl p1), (2, .inl p2), (3, .inl p3), (4, .inr (.inr (some p4)))] rfl (fun X hC hN hT hmc hms hD => ?_)
  unfold f_X5_init
  refine kj_aloadn hC 0 dX5_init_0 rfl rfl ?_
  refine kj_objInit hC dX5_init_1 kw516 kw49 kw50 (Nat.le_of_ble_eq_true rfl) (by rw [hD]; decide) ?_
  refine kj_aloadn hC 0 dX5_init_4 rfl rfl ?_
  refine kj_iconst (v := 0) hC dX5_init_5 (by decide) ?_
  refine kj_pI (ci := 5) (k := 4) hC dX5_init_6 kf_X5_7 (Or.inl (kNF_of (by decide))) rfl ⟨rfl, rfl⟩ (fun h1 => ?_)
  refine kj_aloadn hC 0 dX5_init_9 rfl rfl ?_
  refine kj_null hC dX5_init_10 ?_
  refine kj_pR (ci := 5) (k := 5) hC dX5_init_11 kf_X5_13 (Or.inl (kNF_of (by decide))) rfl (fun h2 => ?_)
  refine kj_aloadn hC 0 dX5_init_14 rfl rfl ?_
  refine kj_iloadn hC 1 dX5_init_15 rfl rfl ?_
  refine kj_pI (ci := 5) (k := 0) hC dX5_init_16 kf_X5_17 (Or.inr ⟨hN, kFF_of (by decide)⟩) rfl ⟨rfl, rfl⟩ (fun h3 => ?_)
  refine kj_aloadn hC 0 dX5_init_19 rfl rfl ?_
  refine kj_iloadn hC 2 dX5_init_20 rfl rfl ?_
  refine kj_pI (ci := 5) (k := 1) hC dX5_init_21 kf_X5_21 (Or.inr ⟨hN, kFF_of (by decide)⟩) rfl ⟨rfl, rfl⟩ (fun h4 => ?_)
  refine kj_aloadn hC 0 dX5_init_24 rfl rfl ?_
  refine kj_iloadn hC 3 dX5_init_25 rfl rfl ?_
  refine kj_pI (ci := 5) (k := 2) hC dX5_init_26 kf_X5_24 (Or.inr ⟨hN, kFF_of (by decide)⟩) rfl ⟨rfl, rfl⟩ (fun h5 => ?_)
  refine kj_aloadn hC 0 dX5_init_29 rfl rfl ?_
  refine kj_aload hC 4 dX5_init_30 rfl ?_
  refine kj_pR (ci := 5) (k := 3) hC dX5_init_32 kf_X5_27 (Or.inr ⟨hN, kFF_of (by decide)⟩) rfl (fun h6 => ?_)
  refine kj_fin hmc hms ?_
  exact kj_return hC dX5_init_35
set_option maxHeartbeats 4000000 in
set_option maxRecDepth 100000 in
theorem t_X9_read_b28 {X : KX} (hC : kC X RX9 cX9_read 4 (some .int)) (hN : (xme X).name = yX9_read.name) (hT : kT0 X) (hmc : xmc X = 5) (hms : xms X = 26) (hD : xD X = 7)  (h : KH) : kJ X (fun x : Int32 => some (.inl x)) 4 2 12 [] [] 28 h (X9_read_b28   h) := by
  unfold X9_read_b28
  exact kj_throw (tx := "no reading of this text") (e := 2) hC hT (by decide) rfl kw304 kw33 kw314 (List.mem_of_getElem? (i := 511) (by decide +kernel)) dX9_read_28 dX9_read_31 dX9_read_32 dX9_read_34 dX9_read_37 (Nat.le_of_ble_eq_true rfl) (by rw [hD]; decide) ⟨by rw [hmc]; exact Nat.le_of_ble_eq_true rfl, by rw [hms]; exact Nat.le_of_ble_eq_true rfl⟩
set_option maxHeartbeats 4000000 in
set_option maxRecDepth 100000 in
theorem t_X9_read (p0 : Nat) (p1 : Int32) (p2 : Int32) (h : KH) : kM yX9_read cX9_read 4 (some .int) 7 5 26 (fun x : Int32 => some (.inl x)) [.inr (.inr (some p0)), .inl p1, .inl p2] h (f_X9_read p0 p1 p2 h) := by
  refine kM_of RX9 (by decide) rfl (Nat.le_of_ble_eq_true rfl) [(0, .inr (.inr (some p0))), (1, .inl p1), (2, .inl p2)] rfl (fun X hC hN hT hmc hms hD => ?_)
  unfold f_X9_read
  refine kj_iloadn hC 1 dX9_read_0 rfl rfl ?_
  refine kj_invS (as := [.inl p1]) (rest := []) hC hT dX9_read_1 kw502 ky_X9_requireGate ky2_X9_requireGate (t_X9_requireGate p1 h) rfl rfl (Nat.le_of_ble_eq_true rfl) ⟨by rw [hD]; decide, by decide⟩ ⟨by rw [hmc]; exact Nat.le_of_ble_eq_true rfl, by rw [hms]; exact Nat.le_of_ble_eq_true rfl⟩ (fun _ h1 => ?_)
  refine kj_norm (st' := []) (c' := 1) (z' := 6) rfl rfl rfl ?_
  refine kj_aloadn hC 0 dX9_read_4 rfl rfl ?_
  refine kj_iloadn hC 2 dX9_read_5 rfl rfl ?_
  refine kj_invV (ci := 9) (q := (RX9, TX9, 17)) (as := [.inl p2]) (rest := []) hC hT dX9_read_6 kw506 ky_X9_requireMinute ky2_X9_requireMinute rfl rfl (t_X9_requireMinute p0 p2 h1) rfl rfl (Nat.le_of_ble_eq_true rfl) ⟨by rw [hD]; decide, by decide⟩ ⟨by rw [hmc]; exact Nat.le_of_ble_eq_true rfl, by rw [hms]; exact Nat.le_of_ble_eq_true rfl⟩ (fun _ h2 => ?_)
  refine kj_norm (st' := []) (c' := 2) (z' := 12) rfl rfl rfl ?_
  refine kj_aloadn hC 0 dX9_read_9 rfl rfl ?_
  refine kj_gN (ci := 9) (k := 2) hC dX9_read_10 kf_X9_23 rfl (fun a1 => ?_)
  refine kj_gI (ci := 7) (k := 1) hC dX9_read_13 kf_X9_144 rfl (fun x1 => ?_)
  refine kj_if_eq (tgt := 28) hC dX9_read_16 (by decide) (fun q1 => ?_) (fun q1 => ?_)
  · exact kj_sub [] rfl (t_X9_read_b28 hC hN hT hmc hms hD   h2)
  · refine kj_aloadn hC 0 dX9_read_19 rfl rfl ?_
    refine kj_gI (ci := 9) (k := 14) hC dX9_read_20 kf_X9_82 rfl (fun x2 => ?_)
    refine kj_bipush (v := 60) hC dX9_read_23 (by decide) ?_
    refine kj_icmp_lt (tgt := 38) hC dX9_read_25 (by decide) (fun q2 => ?_) (fun q2 => ?_)
    · refine kj_new (ci := 5) (q := (RX5, TX5, 6)) hC dX9_read_38 rfl kw119 kw512 kw38 ⟨by rw [hmc]; exact Nat.le_of_ble_eq_true rfl, by rw [hms]; exact Nat.le_of_ble_eq_true rfl⟩ (fun a2 h3 => ?_)
      refine kj_norm (st' := [.inr (.inr (some a2))]) (c' := 3) (z' := 18) rfl rfl rfl ?_
      refine kj_dup hC dX9_read_41 rfl ?_
      refine kj_aloadn hC 0 dX9_read_42 rfl rfl ?_
      refine kj_gI (ci := 9) (k := 14) hC dX9_read_43 kf_X9_82 rfl (fun x3 => ?_)
      refine kj_iloadn hC 1 dX9_read_46 rfl rfl ?_
      refine kj_iloadn hC 2 dX9_read_47 rfl rfl ?_
      refine kj_aloadn hC 0 dX9_read_48 rfl rfl ?_
      refine kj_gN (ci := 9) (k := 2) hC dX9_read_49 kf_X9_23 rfl (fun a3 => ?_)
      refine kj_invV (ci := 7) (q := (RX7, TX7, 2)) (as := []) (rest := [.inl p2, .inl p1, .inl x3, .inr (.inr (some a2)), .inr (.inr (some a2))]) hC hT dX9_read_52 kw375 ky_X7_copy ky2_X7_copy rfl rfl (t_X7_copy a3 h3) rfl rfl (Nat.le_of_ble_eq_true rfl) ⟨by rw [hD]; decide, by decide⟩ ⟨by rw [hmc]; exact Nat.le_of_ble_eq_true rfl, by rw [hms]; exact Nat.le_of_ble_eq_true rfl⟩ (fun a4 h4 => ?_)
      refine kj_norm (st' := [.inr (.inr (some a4)), .inl p2, .inl p1, .inl x3, .inr (.inr (some a2)), .inr (.inr (some a2))]) (c' := 5) (z' := 26) rfl rfl rfl ?_
      refine kj_invI (as := [.inl x3, .inl p1, .inl p2, .inr (.inr (some a4))]) (rest := [.inr (.inr (some a2))]) hC hT dX9_read_55 kw513 ky_X5_init ky2_X5_init rfl (t_X5_init a2 x3 p1 p2 a4 h4) rfl rfl (Nat.le_of_ble_eq_true rfl) ⟨by rw [hD]; decide, by decide⟩ ⟨by rw [hmc]; exact Nat.le_of_ble_eq_true rfl, by rw [hms]; exact Nat.le_of_ble_eq_true rfl⟩ (fun _ h5 => ?_)
      refine kj_norm (st' := [.inr (.inr (some a2))]) (c' := 5) (z' := 26) rfl rfl rfl ?_
      refine kj_astoren (L' := [(3, .inr (.inr (some a2))), (0, .inr (.inr (some p0))), (1, .inl p1), (2, .inl p2)]) hC dX9_read_58 rfl (by decide) rfl ?_
      refine kj_aloadn hC 1 dX9_read_59 rfl rfl ?_
      refine kj_gN (ci := 9) (k := 6) hC dX9_read_60 kf_X9_45 rfl (fun a5 => ?_)
      refine kj_aloadn hC 1 dX9_read_63 rfl rfl ?_
      refine kj_gI (ci := 9) (k := 14) hC dX9_read_64 kf_X9_82 rfl (fun x4 => ?_)
      refine kj_aloadn hC 0 dX9_read_67 rfl rfl ?_
      refine kj_pAN (c := 26) (ci := 5) (q := (RX5, TX5, 6)) hC dX9_read_68 rfl rfl (fun h6 => ?_)
      refine kj_aloadn hC 1 dX9_read_69 rfl rfl ?_
      refine kj_dup hC dX9_read_70 rfl ?_
      refine kj_gI (ci := 9) (k := 14) hC dX9_read_71 kf_X9_82 rfl (fun x5 => ?_)
      refine kj_iconst (v := 1) hC dX9_read_74 (by decide) ?_
      refine kj_iadd hC dX9_read_75 ?_
      refine kj_pI (ci := 9) (k := 14) hC dX9_read_76 kf_X9_82 (Or.inl (kNF_of (by decide))) rfl ⟨rfl, rfl⟩ (fun h7 => ?_)
      refine kj_aloadn hC 1 dX9_read_79 rfl rfl ?_
      refine kj_aloadn hC 0 dX9_read_80 rfl rfl ?_
      refine kj_aloadn hC 1 dX9_read_81 rfl rfl ?_
      refine kj_aloadn hC 0 dX9_read_82 rfl rfl ?_
      refine kj_invV (ci := 9) (q := (RX9, TX9, 17)) (as := [.inr (.inr (some a2))]) (rest := [.inr (.inr (some a2)), .inr (.inr (some p0))]) hC hT dX9_read_83 kw443 ky_X9_plateByText ky2_X9_plateByText rfl rfl (t_X9_plateByText p0 a2 h7) rfl rfl (Nat.le_of_ble_eq_true rfl) ⟨by rw [hD]; decide, by decide⟩ ⟨by rw [hmc]; exact Nat.le_of_ble_eq_true rfl, by rw [hms]; exact Nat.le_of_ble_eq_true rfl⟩ (fun o1 h8 => ?_)
      refine kj_norm (st' := [.inr (.inr o1), .inr (.inr (some a2)), .inr (.inr (some p0))]) (c' := 5) (z' := 26) rfl rfl rfl ?_
      refine kj_invV (ci := 9) (q := (RX9, TX9, 17)) (as := [.inr (.inr (some a2)), .inr (.inr o1)]) (rest := []) hC hT dX9_read_86 kw459 ky_X9_move ky2_X9_move rfl rfl (t_X9_move p0 a2 o1 h8) rfl rfl (Nat.le_of_ble_eq_true rfl) ⟨by rw [hD]; decide, by decide⟩ ⟨by rw [hmc]; exact Nat.le_of_ble_eq_true rfl, by rw [hms]; exact Nat.le_of_ble_eq_true rfl⟩ (fun _ h9 => ?_)
      refine kj_norm (st' := []) (c' := 5) (z' := 26) rfl rfl rfl ?_
      refine kj_aloadn hC 0 dX9_read_89 rfl rfl ?_
      refine kj_gI (ci := 5) (k := 0) hC dX9_read_90 kf_X9_248 rfl (fun x6 => ?_)
      refine kj_fin hmc hms ?_
      exact kj_ireturn hC dX9_read_93
    · exact kj_sub [] rfl (t_X9_read_b28 hC hN hT hmc hms hD   h2)
set_option maxHeartbeats 4000000 in
set_option maxRecDepth 100000 in
theorem t_X9_readingNumbered (p0 : Nat) (p1 : Int32) (h : KH) : kM yX9_readingNumbered cX9_readingNumbered 2 (some (.object "Tollkeeper$Reading")) 6 1 6 (fun a : Nat => some (.inr (.inr (some a)))) [.inr (.inr (some p0)), .inl p1] h (f_X9_readingNumbered p0 p1 h) := by
  refine kM_of RX9 (by decide) rfl (Nat.le_of_ble_eq_true rfl) [(0, .inr (.inr (some p0))), (1, .inl p1)] rfl (fun X hC hN hT hmc hms hD => ?_)
  unfold f_X9_readingNumbered
  refine kj_iloadn hC 1 dX9_readingNumbered_0 rfl rfl ?_
  refine kj_iconst (v := 0) hC dX9_readingNumbered_1 (by decide) ?_
  refine kj_aloadn hC 0 dX9_readingNumbered_2 rfl rfl ?_
  refine kj_gI (ci := 9) (k := 14) hC dX9_readingNumbered_3 kf_X9_82 rfl (fun x1 => ?_)
  refine kj_iconst (v := 1) hC dX9_readingNumbered_6 (by decide) ?_
  refine kj_isub hC dX9_readingNumbered_7 ?_
  refine kj_invS (as := [.inl p1, .inl 0, .inl (x1 - 1)]) (rest := []) hC hT dX9_readingNumbered_8 kw228 ky_X9_isWithin ky2_X9_isWithin (t_X9_isWithin p1 0 (x1 - 1) h) rfl rfl (Nat.le_of_ble_eq_true rfl) ⟨by rw [hD]; decide, by decide⟩ ⟨by rw [hmc]; exact Nat.le_of_ble_eq_true rfl, by rw [hms]; exact Nat.le_of_ble_eq_true rfl⟩ (fun x2 h1 => ?_)
  refine kj_norm (st' := [.inl x2]) (c' := 0) (z' := 0) rfl rfl rfl ?_
  refine kj_if_ne (tgt := 25) hC dX9_readingNumbered_11 (by decide) (fun q1 => ?_) (fun q1 => ?_)
  · exact kj_throwW (tx := "no such reading") (e := 3) hC hT (by decide) rfl kw231 kw32 kw274 (List.mem_of_getElem? (i := 553) (by decide +kernel)) dX9_readingNumbered_14 dX9_readingNumbered_17 dX9_readingNumbered_18 dX9_readingNumbered_21 dX9_readingNumbered_24 (Nat.le_of_ble_eq_true rfl) (by rw [hD]; decide) ⟨by rw [hmc]; exact Nat.le_of_ble_eq_true rfl, by rw [hms]; exact Nat.le_of_ble_eq_true rfl⟩
  · refine kj_aloadn hC 0 dX9_readingNumbered_25 rfl rfl ?_
    refine kj_gN (ci := 9) (k := 6) hC dX9_readingNumbered_26 kf_X9_45 rfl (fun a1 => ?_)
    refine kj_iloadn hC 1 dX9_readingNumbered_29 rfl rfl ?_
    refine kj_gAN (c := 26) hC dX9_readingNumbered_30 rfl ⟨rfl, rfl⟩ (fun a2 => ?_)
    refine kj_widen (k := 1) (n := 6) (Nat.le_of_ble_eq_true rfl) (Nat.le_of_ble_eq_true rfl) ?_
    refine kj_fin hmc hms ?_
    exact kj_areturnN hC dX9_readingNumbered_31
set_option maxHeartbeats 4000000 in
set_option maxRecDepth 100000 in
theorem t_X9_correct_b20 {X : KX} (hC : kC X RX9 cX9_correct 6 (some .int)) (hN : (xme X).name = yX9_correct.name) (hT : kT0 X) (hmc : xmc X = 2) (hms : xms X = 12) (hD : xD X = 7) (v0 : Nat) (v3 : Nat) (s0 : Option Nat) (h : KH) : kJ X (fun x : Int32 => some (.inl x)) 6 2 12 [(0, .inr (.inr (some v0))), (3, .inr (.inr (some v3)))] [.inr (.inr s0)] 20 h (X9_correct_b20  v0 v3 s0 h) := by
  unfold X9_correct_b20
  refine kj_astore (L' := [(4, .inr (.inr s0)), (0, .inr (.inr (some v0))), (3, .inr (.inr (some v3)))]) hC dX9_correct_20 (by decide) rfl ?_
  refine kj_aloadn hC 2 dX9_correct_22 rfl rfl ?_
  refine kj_gR (ci := 5) (k := 5) hC dX9_correct_23 kf_X9_253 rfl (fun o1 => ?_)
  refine kj_invS (as := [.inr (.inr o1)]) (rest := []) hC hT dX9_correct_26 kw463 ky_X9_numberOf ky2_X9_numberOf (t_X9_numberOf o1 h) rfl rfl (Nat.le_of_ble_eq_true rfl) ⟨by rw [hD]; decide, by decide⟩ ⟨by rw [hmc]; exact Nat.le_of_ble_eq_true rfl, by rw [hms]; exact Nat.le_of_ble_eq_true rfl⟩ (fun x1 h1 => ?_)
  refine kj_norm (st' := [.inl x1]) (c' := 2) (z' := 12) rfl rfl rfl ?_
  refine kj_istore (L' := [(5, .inl x1), (4, .inr (.inr s0)), (0, .inr (.inr (some v0))), (3, .inr (.inr (some v3)))]) hC dX9_correct_29 (by decide) rfl ?_
  refine kj_aloadn hC 3 dX9_correct_31 rfl rfl ?_
  refine kj_iconst (v := 1) hC dX9_correct_32 (by decide) ?_
  refine kj_pI (ci := 5) (k := 4) hC dX9_correct_33 kf_X9_261 (Or.inl (kNF_of (by decide))) rfl ⟨rfl, rfl⟩ (fun h2 => ?_)
  refine kj_aloadn hC 2 dX9_correct_36 rfl rfl ?_
  refine kj_aloadn hC 3 dX9_correct_37 rfl rfl ?_
  refine kj_aload hC 1 dX9_correct_38 rfl ?_
  refine kj_invV (ci := 9) (q := (RX9, TX9, 17)) (as := [.inr (.inr (some v3)), .inr (.inr s0)]) (rest := []) hC hT dX9_correct_40 kw459 ky_X9_move ky2_X9_move rfl rfl (t_X9_move v0 v3 s0 h2) rfl rfl (Nat.le_of_ble_eq_true rfl) ⟨by rw [hD]; decide, by decide⟩ ⟨by rw [hmc]; exact Nat.le_of_ble_eq_true rfl, by rw [hms]; exact Nat.le_of_ble_eq_true rfl⟩ (fun _ h3 => ?_)
  refine kj_norm (st' := []) (c' := 2) (z' := 12) rfl rfl rfl ?_
  refine kj_iload hC 0 dX9_correct_43 rfl ?_
  refine kj_fin hmc hms ?_
  exact kj_ireturn hC dX9_correct_45
set_option maxHeartbeats 4000000 in
set_option maxRecDepth 100000 in
theorem t_X9_correct (p0 : Nat) (p1 : Int32) (p2 : Int32) (h : KH) : kM yX9_correct cX9_correct 6 (some .int) 7 2 12 (fun x : Int32 => some (.inl x)) [.inr (.inr (some p0)), .inl p1, .inl p2] h (f_X9_correct p0 p1 p2 h) := by
  refine kM_of RX9 (by decide) rfl (Nat.le_of_ble_eq_true rfl) [(0, .inr (.inr (some p0))), (1, .inl p1), (2, .inl p2)] rfl (fun X hC hN hT hmc hms hD => ?_)
  unfold f_X9_correct
  refine kj_aloadn hC 0 dX9_correct_0 rfl rfl ?_
  refine kj_iloadn hC 1 dX9_correct_1 rfl rfl ?_
  refine kj_invV (ci := 9) (q := (RX9, TX9, 17)) (as := [.inl p1]) (rest := []) hC hT dX9_correct_2 kw549 ky_X9_readingNumbered ky2_X9_readingNumbered rfl rfl (t_X9_readingNumbered p0 p1 h) rfl rfl (Nat.le_of_ble_eq_true rfl) ⟨by rw [hD]; decide, by decide⟩ ⟨by rw [hmc]; exact Nat.le_of_ble_eq_true rfl, by rw [hms]; exact Nat.le_of_ble_eq_true rfl⟩ (fun a1 h1 => ?_)
  refine kj_norm (st' := [.inr (.inr (some a1))]) (c' := 1) (z' := 6) rfl rfl rfl ?_
  refine kj_astoren (L' := [(3, .inr (.inr (some a1))), (0, .inr (.inr (some p0))), (1, .inl p1), (2, .inl p2)]) hC dX9_correct_5 rfl (by decide) rfl ?_
  refine kj_iloadn hC 3 dX9_correct_6 rfl rfl ?_
  refine kj_iconst (v := (-1)) hC dX9_correct_7 (by decide) ?_
  refine kj_icmp_ne (tgt := 15) hC dX9_correct_8 (by decide) (fun q1 => ?_) (fun q1 => ?_)
  · refine kj_null hC dX9_correct_11 ?_
    refine kj_goto (tgt := 20) hC dX9_correct_12 (by decide) ?_
    refine kj_widen (k := 2) (n := 12) (Nat.le_of_ble_eq_true rfl) (Nat.le_of_ble_eq_true rfl) ?_
    exact kj_sub [1, 0] rfl (t_X9_correct_b20 hC hN hT hmc hms hD  p0 a1 none h1)
  · refine kj_aloadn hC 1 dX9_correct_15 rfl rfl ?_
    refine kj_iloadn hC 3 dX9_correct_16 rfl rfl ?_
    refine kj_invV (ci := 9) (q := (RX9, TX9, 17)) (as := [.inl p2]) (rest := []) hC hT dX9_correct_17 kw564 ky_X9_plateNumbered ky2_X9_plateNumbered rfl rfl (t_X9_plateNumbered p0 p2 h1) rfl rfl (Nat.le_of_ble_eq_true rfl) ⟨by rw [hD]; decide, by decide⟩ ⟨by rw [hmc]; exact Nat.le_of_ble_eq_true rfl, by rw [hms]; exact Nat.le_of_ble_eq_true rfl⟩ (fun a2 h2 => ?_)
    refine kj_norm (st' := [.inr (.inr (some a2))]) (c' := 2) (z' := 12) rfl rfl rfl ?_
    exact kj_sub [1, 0] rfl (t_X9_correct_b20 hC hN hT hmc hms hD  p0 a1 (some a2) h2)
set_option maxHeartbeats 4000000 in
set_option maxRecDepth 100000 in
theorem t_X9_uncorrect (p0 : Nat) (p1 : Int32) (h : KH) : kM yX9_uncorrect cX9_uncorrect 3 (some .int) 7 2 12 (fun x : Int32 => some (.inl x)) [.inr (.inr (some p0)), .inl p1] h (f_X9_uncorrect p0 p1 h) := by
  refine kM_of RX9 (by decide) rfl (Nat.le_of_ble_eq_true rfl) [(0, .inr (.inr (some p0))), (1, .inl p1)] rfl (fun X hC hN hT hmc hms hD => ?_)
  unfold f_X9_uncorrect
  refine kj_aloadn hC 0 dX9_uncorrect_0 rfl rfl ?_
  refine kj_iloadn hC 1 dX9_uncorrect_1 rfl rfl ?_
  refine kj_invV (ci := 9) (q := (RX9, TX9, 17)) (as := [.inl p1]) (rest := []) hC hT dX9_uncorrect_2 kw549 ky_X9_readingNumbered ky2_X9_readingNumbered rfl rfl (t_X9_readingNumbered p0 p1 h) rfl rfl (Nat.le_of_ble_eq_true rfl) ⟨by rw [hD]; decide, by decide⟩ ⟨by rw [hmc]; exact Nat.le_of_ble_eq_true rfl, by rw [hms]; exact Nat.le_of_ble_eq_true rfl⟩ (fun a1 h1 => ?_)
  refine kj_norm (st' := [.inr (.inr (some a1))]) (c' := 1) (z' := 6) rfl rfl rfl ?_
  refine kj_astoren (L' := [(2, .inr (.inr (some a1))), (0, .inr (.inr (some p0))), (1, .inl p1)]) hC dX9_uncorrect_5 rfl (by decide) rfl ?_
  refine kj_aloadn hC 0 dX9_uncorrect_6 rfl rfl ?_
  refine kj_gI (ci := 5) (k := 4) hC dX9_uncorrect_7 kf_X9_261 rfl (fun x1 => ?_)
  refine kj_if_ne (tgt := 24) hC dX9_uncorrect_10 (by decide) (fun q1 => ?_) (fun q1 => ?_)
  · exact kj_throwW (tx := "not corrected") (e := 2) hC hT (by decide) rfl kw304 kw33 kw314 (List.mem_of_getElem? (i := 554) (by decide +kernel)) dX9_uncorrect_13 dX9_uncorrect_16 dX9_uncorrect_17 dX9_uncorrect_20 dX9_uncorrect_23 (Nat.le_of_ble_eq_true rfl) (by rw [hD]; decide) ⟨by rw [hmc]; exact Nat.le_of_ble_eq_true rfl, by rw [hms]; exact Nat.le_of_ble_eq_true rfl⟩
  · refine kj_aloadn hC 0 dX9_uncorrect_24 rfl rfl ?_
    refine kj_iconst (v := 0) hC dX9_uncorrect_25 (by decide) ?_
    refine kj_pI (ci := 5) (k := 4) hC dX9_uncorrect_26 kf_X9_261 (Or.inl (kNF_of (by decide))) rfl ⟨rfl, rfl⟩ (fun h2 => ?_)
    refine kj_aloadn hC 1 dX9_uncorrect_29 rfl rfl ?_
    refine kj_aloadn hC 0 dX9_uncorrect_30 rfl rfl ?_
    refine kj_aloadn hC 1 dX9_uncorrect_31 rfl rfl ?_
    refine kj_aloadn hC 0 dX9_uncorrect_32 rfl rfl ?_
    refine kj_invV (ci := 9) (q := (RX9, TX9, 17)) (as := [.inr (.inr (some a1))]) (rest := [.inr (.inr (some a1)), .inr (.inr (some p0))]) hC hT dX9_uncorrect_33 kw443 ky_X9_plateByText ky2_X9_plateByText rfl rfl (t_X9_plateByText p0 a1 h2) rfl rfl (Nat.le_of_ble_eq_true rfl) ⟨by rw [hD]; decide, by decide⟩ ⟨by rw [hmc]; exact Nat.le_of_ble_eq_true rfl, by rw [hms]; exact Nat.le_of_ble_eq_true rfl⟩ (fun o1 h3 => ?_)
    refine kj_norm (st' := [.inr (.inr o1), .inr (.inr (some a1)), .inr (.inr (some p0))]) (c' := 1) (z' := 6) rfl rfl rfl ?_
    refine kj_invV (ci := 9) (q := (RX9, TX9, 17)) (as := [.inr (.inr (some a1)), .inr (.inr o1)]) (rest := []) hC hT dX9_uncorrect_36 kw459 ky_X9_move ky2_X9_move rfl rfl (t_X9_move p0 a1 o1 h3) rfl rfl (Nat.le_of_ble_eq_true rfl) ⟨by rw [hD]; decide, by decide⟩ ⟨by rw [hmc]; exact Nat.le_of_ble_eq_true rfl, by rw [hms]; exact Nat.le_of_ble_eq_true rfl⟩ (fun _ h4 => ?_)
    refine kj_norm (st' := []) (c' := 1) (z' := 6) rfl rfl rfl ?_
    refine kj_aloadn hC 0 dX9_uncorrect_39 rfl rfl ?_
    refine kj_gR (ci := 5) (k := 5) hC dX9_uncorrect_40 kf_X9_253 rfl (fun o2 => ?_)
    refine kj_invS (as := [.inr (.inr o2)]) (rest := []) hC hT dX9_uncorrect_43 kw463 ky_X9_numberOf ky2_X9_numberOf (t_X9_numberOf o2 h4) rfl rfl (Nat.le_of_ble_eq_true rfl) ⟨by rw [hD]; decide, by decide⟩ ⟨by rw [hmc]; exact Nat.le_of_ble_eq_true rfl, by rw [hms]; exact Nat.le_of_ble_eq_true rfl⟩ (fun x2 h5 => ?_)
    refine kj_norm (st' := [.inl x2]) (c' := 1) (z' := 6) rfl rfl rfl ?_
    refine kj_widen (k := 2) (n := 12) (Nat.le_of_ble_eq_true rfl) (Nat.le_of_ble_eq_true rfl) ?_
    refine kj_fin hmc hms ?_
    exact kj_ireturn hC dX9_uncorrect_46
set_option maxHeartbeats 4000000 in
set_option maxRecDepth 100000 in
theorem t_X9_plateOf (p0 : Nat) (p1 : Int32) (h : KH) : kM yX9_plateOf cX9_plateOf 2 (some .int) 7 1 6 (fun x : Int32 => some (.inl x)) [.inr (.inr (some p0)), .inl p1] h (f_X9_plateOf p0 p1 h) := by
  refine kM_of RX9 (by decide) rfl (Nat.le_of_ble_eq_true rfl) [(0, .inr (.inr (some p0))), (1, .inl p1)] rfl (fun X hC hN hT hmc hms hD => ?_)
  unfold f_X9_plateOf
  refine kj_aloadn hC 0 dX9_plateOf_0 rfl rfl ?_
  refine kj_iloadn hC 1 dX9_plateOf_1 rfl rfl ?_
  refine kj_invV (ci := 9) (q := (RX9, TX9, 17)) (as := [.inl p1]) (rest := []) hC hT dX9_plateOf_2 kw549 ky_X9_readingNumbered ky2_X9_readingNumbered rfl rfl (t_X9_readingNumbered p0 p1 h) rfl rfl (Nat.le_of_ble_eq_true rfl) ⟨by rw [hD]; decide, by decide⟩ ⟨by rw [hmc]; exact Nat.le_of_ble_eq_true rfl, by rw [hms]; exact Nat.le_of_ble_eq_true rfl⟩ (fun a1 h1 => ?_)
  refine kj_norm (st' := [.inr (.inr (some a1))]) (c' := 1) (z' := 6) rfl rfl rfl ?_
  refine kj_gR (ci := 5) (k := 5) hC dX9_plateOf_5 kf_X9_253 rfl (fun o1 => ?_)
  refine kj_invS (as := [.inr (.inr o1)]) (rest := []) hC hT dX9_plateOf_8 kw463 ky_X9_numberOf ky2_X9_numberOf (t_X9_numberOf o1 h1) rfl rfl (Nat.le_of_ble_eq_true rfl) ⟨by rw [hD]; decide, by decide⟩ ⟨by rw [hmc]; exact Nat.le_of_ble_eq_true rfl, by rw [hms]; exact Nat.le_of_ble_eq_true rfl⟩ (fun x1 h2 => ?_)
  refine kj_norm (st' := [.inl x1]) (c' := 1) (z' := 6) rfl rfl rfl ?_
  refine kj_fin hmc hms ?_
  exact kj_ireturn hC dX9_plateOf_11
set_option maxHeartbeats 4000000 in
set_option maxRecDepth 100000 in
theorem t_X9_cost (p0 : Nat) (p1 : Int32) (p2 : Int32) (h : KH) : kM yX9_cost cX9_cost 4 (some .int) 7 2 12 (fun x : Int32 => some (.inl x)) [.inr (.inr (some p0)), .inl p1, .inl p2] h (f_X9_cost p0 p1 p2 h) := by
  refine kM_of RX9 (by decide) rfl (Nat.le_of_ble_eq_true rfl) [(0, .inr (.inr (some p0))), (1, .inl p1), (2, .inl p2)] rfl (fun X hC hN hT hmc hms hD => ?_)
  unfold f_X9_cost
  refine kj_aloadn hC 0 dX9_cost_0 rfl rfl ?_
  refine kj_iloadn hC 1 dX9_cost_1 rfl rfl ?_
  refine kj_invV (ci := 9) (q := (RX9, TX9, 17)) (as := [.inl p1]) (rest := []) hC hT dX9_cost_2 kw549 ky_X9_readingNumbered ky2_X9_readingNumbered rfl rfl (t_X9_readingNumbered p0 p1 h) rfl rfl (Nat.le_of_ble_eq_true rfl) ⟨by rw [hD]; decide, by decide⟩ ⟨by rw [hmc]; exact Nat.le_of_ble_eq_true rfl, by rw [hms]; exact Nat.le_of_ble_eq_true rfl⟩ (fun a1 h1 => ?_)
  refine kj_norm (st' := [.inr (.inr (some a1))]) (c' := 1) (z' := 6) rfl rfl rfl ?_
  refine kj_astoren (L' := [(3, .inr (.inr (some a1))), (0, .inr (.inr (some p0))), (1, .inl p1), (2, .inl p2)]) hC dX9_cost_5 rfl (by decide) rfl ?_
  refine kj_aloadn hC 1 dX9_cost_6 rfl rfl ?_
  refine kj_gN (ci := 9) (k := 3) hC dX9_cost_7 kf_X9_30 rfl (fun a2 => ?_)
  refine kj_aloadn hC 0 dX9_cost_10 rfl rfl ?_
  refine kj_gN (ci := 5) (k := 3) hC dX9_cost_11 kf_X9_267 rfl (fun a3 => ?_)
  refine kj_aloadn hC 1 dX9_cost_14 rfl rfl ?_
  refine kj_iloadn hC 3 dX9_cost_15 rfl rfl ?_
  refine kj_invV (ci := 9) (q := (RX9, TX9, 17)) (as := [.inl p2]) (rest := [.inr (.inr (some a3)), .inr (.inr (some a2))]) hC hT dX9_cost_16 kw564 ky_X9_plateNumbered ky2_X9_plateNumbered rfl rfl (t_X9_plateNumbered p0 p2 h1) rfl rfl (Nat.le_of_ble_eq_true rfl) ⟨by rw [hD]; decide, by decide⟩ ⟨by rw [hmc]; exact Nat.le_of_ble_eq_true rfl, by rw [hms]; exact Nat.le_of_ble_eq_true rfl⟩ (fun a4 h2 => ?_)
  refine kj_norm (st' := [.inr (.inr (some a4)), .inr (.inr (some a3)), .inr (.inr (some a2))]) (c' := 2) (z' := 12) rfl rfl rfl ?_
  refine kj_gN (ci := 4) (k := 1) hC dX9_cost_19 kf_X9_270 rfl (fun a5 => ?_)
  refine kj_invV (ci := 2) (q := (RX2, TX2, 1)) (as := [.inr (.inr (some a3)), .inr (.inr (some a5))]) (rest := []) hC hT dX9_cost_22 kw447 ky_X2_costOf ky2_X2_costOf rfl rfl (t_X2_costOf a2 a3 a5 h2) rfl rfl (Nat.le_of_ble_eq_true rfl) ⟨by rw [hD]; decide, by decide⟩ ⟨by rw [hmc]; exact Nat.le_of_ble_eq_true rfl, by rw [hms]; exact Nat.le_of_ble_eq_true rfl⟩ (fun x1 h3 => ?_)
  refine kj_norm (st' := [.inl x1]) (c' := 2) (z' := 12) rfl rfl rfl ?_
  refine kj_fin hmc hms ?_
  exact kj_ireturn hC dX9_cost_25
set_option maxHeartbeats 4000000 in
set_option maxRecDepth 100000 in
theorem t_X3_beginningsAhead_b21 {X : KX} (hC : kC X RX3 cX3_beginningsAhead 4 (some .int)) (hN : (xme X).name = yX3_beginningsAhead.name) (hT : kT0 X) (hmc : xmc X = 0) (hms : xms X = 0) (hD : xD X = 0) (rc4 : Nat → Int32 → Int32 → Int32 → KH → KO Int32) (hr4 : ∀ (v0 : Nat) (v1 : Int32) (v2 : Int32) (v3 : Int32) (h : KH), kJ X (fun x : Int32 => some (.inl x)) 4 0 0 [(0, .inr (.inr (some v0))), (1, .inl v1), (2, .inl v2), (3, .inl v3)] [] 4 h (rc4 v0 v1 v2 v3 h)) (v0 : Nat) (v1 : Int32) (v2 : Int32) (v3 : Int32) (h : KH) : kJ X (fun x : Int32 => some (.inl x)) 4 0 0 [(0, .inr (.inr (some v0))), (1, .inl v1), (2, .inl v2), (3, .inl v3)] [] 21 h (X3_beginningsAhead_b21 rc4 v0 v1 v2 v3 h) := by
  unfold X3_beginningsAhead_b21
  refine kj_iinc (v := v3 + 1) (L' := [(3, .inl (v3 + 1)), (0, .inr (.inr (some v0))), (1, .inl v1), (2, .inl v2)]) hC 3 dX3_beginningsAhead_21 rfl rfl (by decide) rfl ?_
  refine kj_goto (tgt := 4) hC dX3_beginningsAhead_24 (by decide) ?_
  exact kj_sub [1, 2, 3, 0] rfl (hr4 v0 v1 v2 (v3 + 1) h)
set_option maxHeartbeats 4000000 in
set_option maxRecDepth 100000 in
theorem t_X3_beginningsAhead_b4 {X : KX} (hC : kC X RX3 cX3_beginningsAhead 4 (some .int)) (hN : (xme X).name = yX3_beginningsAhead.name) (hT : kT0 X) (hmc : xmc X = 0) (hms : xms X = 0) (hD : xD X = 0) (rc4 : Nat → Int32 → Int32 → Int32 → KH → KO Int32) (hr4 : ∀ (v0 : Nat) (v1 : Int32) (v2 : Int32) (v3 : Int32) (h : KH), kJ X (fun x : Int32 => some (.inl x)) 4 0 0 [(0, .inr (.inr (some v0))), (1, .inl v1), (2, .inl v2), (3, .inl v3)] [] 4 h (rc4 v0 v1 v2 v3 h)) (v0 : Nat) (v1 : Int32) (v2 : Int32) (v3 : Int32) (h : KH) : kJ X (fun x : Int32 => some (.inl x)) 4 0 0 [(0, .inr (.inr (some v0))), (1, .inl v1), (2, .inl v2), (3, .inl v3)] [] 4 h (X3_beginningsAhead_b4 rc4 v0 v1 v2 v3 h) := by
  unfold X3_beginningsAhead_b4
  refine kj_iloadn hC 3 dX3_beginningsAhead_4 rfl rfl ?_
  refine kj_iloadn hC 1 dX3_beginningsAhead_5 rfl rfl ?_
  refine kj_icmp_ge (tgt := 27) hC dX3_beginningsAhead_6 (by decide) (fun q1 => ?_) (fun q1 => ?_)
  · refine kj_iloadn hC 2 dX3_beginningsAhead_27 rfl rfl ?_
    refine kj_fin hmc hms ?_
    exact kj_ireturn hC dX3_beginningsAhead_28
  · refine kj_aloadn hC 0 dX3_beginningsAhead_9 rfl rfl ?_
    refine kj_gN (ci := 3) (k := 1) hC dX3_beginningsAhead_10 kf_X3_17 rfl (fun a1 => ?_)
    refine kj_iloadn hC 3 dX3_beginningsAhead_13 rfl rfl ?_
    refine kj_gAZ hC dX3_beginningsAhead_14 (fun x1 => ?_)
    refine kj_if_eq (tgt := 21) hC dX3_beginningsAhead_15 (by decide) (fun q2 => ?_) (fun q2 => ?_)
    · exact kj_sub [0, 1, 2, 3] rfl (t_X3_beginningsAhead_b21 hC hN hT hmc hms hD rc4 hr4 v0 v1 v2 v3 h)
    · refine kj_iinc (v := v2 + 1) (L' := [(2, .inl (v2 + 1)), (0, .inr (.inr (some v0))), (1, .inl v1), (3, .inl v3)]) hC 2 dX3_beginningsAhead_18 rfl rfl (by decide) rfl ?_
      exact kj_sub [1, 2, 0, 3] rfl (t_X3_beginningsAhead_b21 hC hN hT hmc hms hD rc4 hr4 v0 v1 (v2 + 1) v3 h)
set_option maxHeartbeats 4000000 in
set_option maxRecDepth 100000 in
theorem t_X3_beginningsAhead_L4 {X : KX} (hC : kC X RX3 cX3_beginningsAhead 4 (some .int)) (hN : (xme X).name = yX3_beginningsAhead.name) (hT : kT0 X) (hmc : xmc X = 0) (hms : xms X = 0) (hD : xD X = 0) : ∀ (n : Nat) (v0 : Nat) (v1 : Int32) (v2 : Int32) (v3 : Int32) (h : KH), kJ X (fun x : Int32 => some (.inl x)) 4 0 0 [(0, .inr (.inr (some v0))), (1, .inl v1), (2, .inl v2), (3, .inl v3)] [] 4 h (X3_beginningsAhead_L4  n v0 v1 v2 v3 h) := by
  intro n
  induction n with
  | zero => intro v0 v1 v2 v3 h; exact kj_none
  | succ n ih => intro v0 v1 v2 v3 h; exact t_X3_beginningsAhead_b4 hC hN hT hmc hms hD (X3_beginningsAhead_L4  n) ih v0 v1 v2 v3 h
set_option maxHeartbeats 4000000 in
set_option maxRecDepth 100000 in
theorem t_X3_beginningsAhead (p0 : Nat) (p1 : Int32) (h : KH) : kM yX3_beginningsAhead cX3_beginningsAhead 4 (some .int) 0 0 0 (fun x : Int32 => some (.inl x)) [.inr (.inr (some p0)), .inl p1] h (f_X3_beginningsAhead p0 p1 h) := by
  refine kM_of RX3 (by decide) rfl (Nat.le_of_ble_eq_true rfl) [(0, .inr (.inr (some p0))), (1, .inl p1)] rfl (fun X hC hN hT hmc hms hD => ?_)
  unfold f_X3_beginningsAhead
  refine kj_iconst (v := 0) hC dX3_beginningsAhead_0 (by decide) ?_
  refine kj_istoren (L' := [(2, .inl 0), (0, .inr (.inr (some p0))), (1, .inl p1)]) hC dX3_beginningsAhead_1 rfl (by decide) rfl ?_
  refine kj_iconst (v := 0) hC dX3_beginningsAhead_2 (by decide) ?_
  refine kj_istoren (L' := [(3, .inl 0), (2, .inl 0), (0, .inr (.inr (some p0))), (1, .inl p1)]) hC dX3_beginningsAhead_3 rfl (by decide) rfl ?_
  exact kj_sub [2, 3, 1, 0] rfl (t_X3_beginningsAhead_L4 hC hN hT hmc hms hD  kF p0 p1 0 0 h)
set_option maxHeartbeats 4000000 in
set_option maxRecDepth 100000 in
theorem t_X3_tripCount (p0 : Nat) (h : KH) : kM yX3_tripCount cX3_tripCount 1 (some .int) 1 0 0 (fun x : Int32 => some (.inl x)) [.inr (.inr (some p0))] h (f_X3_tripCount p0 h) := by
  refine kM_of RX3 (by decide) rfl (Nat.le_of_ble_eq_true rfl) [(0, .inr (.inr (some p0)))] rfl (fun X hC hN hT hmc hms hD => ?_)
  unfold f_X3_tripCount
  refine kj_aloadn hC 0 dX3_tripCount_0 rfl rfl ?_
  refine kj_aloadn hC 0 dX3_tripCount_1 rfl rfl ?_
  refine kj_gI (ci := 3) (k := 2) hC dX3_tripCount_2 kf_X3_21 rfl (fun x1 => ?_)
  refine kj_invV (ci := 3) (q := (RX3, TX3, 3)) (as := [.inl x1]) (rest := []) hC hT dX3_tripCount_5 kw770 ky_X3_beginningsAhead ky2_X3_beginningsAhead rfl rfl (t_X3_beginningsAhead p0 x1 h) rfl rfl (Nat.le_of_ble_eq_true rfl) ⟨by rw [hD]; decide, by decide⟩ ⟨by rw [hmc]; exact Nat.le_of_ble_eq_true rfl, by rw [hms]; exact Nat.le_of_ble_eq_true rfl⟩ (fun x2 h1 => ?_)
  refine kj_norm (st' := [.inl x2]) (c' := 0) (z' := 0) rfl rfl rfl ?_
  refine kj_fin hmc hms ?_
  exact kj_ireturn hC dX3_tripCount_8
set_option maxHeartbeats 4000000 in
set_option maxRecDepth 100000 in
theorem t_X9_trips (p0 : Nat) (p1 : Int32) (h : KH) : kM yX9_trips cX9_trips 2 (some .int) 7 1 6 (fun x : Int32 => some (.inl x)) [.inr (.inr (some p0)), .inl p1] h (f_X9_trips p0 p1 h) := by
  refine kM_of RX9 (by decide) rfl (Nat.le_of_ble_eq_true rfl) [(0, .inr (.inr (some p0))), (1, .inl p1)] rfl (fun X hC hN hT hmc hms hD => ?_)
  unfold f_X9_trips
  refine kj_aloadn hC 0 dX9_trips_0 rfl rfl ?_
  refine kj_iloadn hC 1 dX9_trips_1 rfl rfl ?_
  refine kj_invV (ci := 9) (q := (RX9, TX9, 17)) (as := [.inl p1]) (rest := []) hC hT dX9_trips_2 kw564 ky_X9_plateNumbered ky2_X9_plateNumbered rfl rfl (t_X9_plateNumbered p0 p1 h) rfl rfl (Nat.le_of_ble_eq_true rfl) ⟨by rw [hD]; decide, by decide⟩ ⟨by rw [hmc]; exact Nat.le_of_ble_eq_true rfl, by rw [hms]; exact Nat.le_of_ble_eq_true rfl⟩ (fun a1 h1 => ?_)
  refine kj_norm (st' := [.inr (.inr (some a1))]) (c' := 1) (z' := 6) rfl rfl rfl ?_
  refine kj_gN (ci := 4) (k := 3) hC dX9_trips_5 kf_X9_275 rfl (fun a2 => ?_)
  refine kj_invV (ci := 3) (q := (RX3, TX3, 3)) (as := []) (rest := []) hC hT dX9_trips_8 kw766 ky_X3_tripCount ky2_X3_tripCount rfl rfl (t_X3_tripCount a2 h1) rfl rfl (Nat.le_of_ble_eq_true rfl) ⟨by rw [hD]; decide, by decide⟩ ⟨by rw [hmc]; exact Nat.le_of_ble_eq_true rfl, by rw [hms]; exact Nat.le_of_ble_eq_true rfl⟩ (fun x1 h2 => ?_)
  refine kj_norm (st' := [.inl x1]) (c' := 1) (z' := 6) rfl rfl rfl ?_
  refine kj_fin hmc hms ?_
  exact kj_ireturn hC dX9_trips_11
set_option maxHeartbeats 4000000 in
set_option maxRecDepth 100000 in
theorem t_X9_joinAnew_b48 {X : KX} (hC : kC X RX9 cX9_joinAnew 4 (some (.object "Tollkeeper$Passings"))) (hN : (xme X).name = yX9_joinAnew.name) (hT : kT0 X) (hmc : xmc X = 0) (hms : xms X = 0) (hD : xD X = 4) (rc10 : Nat → Nat → Int32 → KH → KO Nat) (hr10 : ∀ (v0 : Nat) (v1 : Nat) (v2 : Int32) (h : KH), kJ X (fun a : Nat => some (.inr (.inr (some a)))) 4 0 0 [(0, .inr (.inr (some v0))), (1, .inr (.inr (some v1))), (2, .inl v2)] [] 10 h (rc10 v0 v1 v2 h)) (v0 : Nat) (v1 : Nat) (v2 : Int32) (h : KH) : kJ X (fun a : Nat => some (.inr (.inr (some a)))) 4 0 0 [(0, .inr (.inr (some v0))), (1, .inr (.inr (some v1))), (2, .inl v2)] [] 48 h (X9_joinAnew_b48 rc10 v0 v1 v2 h) := by
  unfold X9_joinAnew_b48
  refine kj_iinc (v := v2 + 1) (L' := [(2, .inl (v2 + 1)), (0, .inr (.inr (some v0))), (1, .inr (.inr (some v1)))]) hC 2 dX9_joinAnew_48 rfl rfl (by decide) rfl ?_
  refine kj_goto (tgt := 10) hC dX9_joinAnew_51 (by decide) ?_
  exact kj_sub [1, 2, 0] rfl (hr10 v0 v1 (v2 + 1) h)
set_option maxHeartbeats 4000000 in
set_option maxRecDepth 100000 in
theorem t_X9_joinAnew_b10 {X : KX} (hC : kC X RX9 cX9_joinAnew 4 (some (.object "Tollkeeper$Passings"))) (hN : (xme X).name = yX9_joinAnew.name) (hT : kT0 X) (hmc : xmc X = 0) (hms : xms X = 0) (hD : xD X = 4) (rc10 : Nat → Nat → Int32 → KH → KO Nat) (hr10 : ∀ (v0 : Nat) (v1 : Nat) (v2 : Int32) (h : KH), kJ X (fun a : Nat => some (.inr (.inr (some a)))) 4 0 0 [(0, .inr (.inr (some v0))), (1, .inr (.inr (some v1))), (2, .inl v2)] [] 10 h (rc10 v0 v1 v2 h)) (v0 : Nat) (v1 : Nat) (v2 : Int32) (h : KH) : kJ X (fun a : Nat => some (.inr (.inr (some a)))) 4 0 0 [(0, .inr (.inr (some v0))), (1, .inr (.inr (some v1))), (2, .inl v2)] [] 10 h (X9_joinAnew_b10 rc10 v0 v1 v2 h) := by
  unfold X9_joinAnew_b10
  refine kj_iloadn hC 2 dX9_joinAnew_10 rfl rfl ?_
  refine kj_aloadn hC 0 dX9_joinAnew_11 rfl rfl ?_
  refine kj_gI (ci := 9) (k := 14) hC dX9_joinAnew_12 kf_X9_82 rfl (fun x1 => ?_)
  refine kj_icmp_ge (tgt := 54) hC dX9_joinAnew_15 (by decide) (fun q1 => ?_) (fun q1 => ?_)
  · refine kj_aloadn hC 0 dX9_joinAnew_54 rfl rfl ?_
    refine kj_gN (ci := 9) (k := 11) hC dX9_joinAnew_55 kf_X9_71 rfl (fun a1 => ?_)
    refine kj_aloadn hC 0 dX9_joinAnew_58 rfl rfl ?_
    refine kj_gN (ci := 9) (k := 0) hC dX9_joinAnew_59 kf_X9_10 rfl (fun a2 => ?_)
    refine kj_invV (ci := 3) (q := (RX3, TX3, 3)) (as := [.inr (.inr (some a2))]) (rest := []) hC hT dX9_joinAnew_62 kw656 ky_X3_joinAll ky2_X3_joinAll rfl rfl (t_X3_joinAll a1 a2 h) rfl rfl (Nat.le_of_ble_eq_true rfl) ⟨by rw [hD]; decide, by decide⟩ ⟨by rw [hmc]; exact Nat.le_of_ble_eq_true rfl, by rw [hms]; exact Nat.le_of_ble_eq_true rfl⟩ (fun _ h1 => ?_)
    refine kj_norm (st' := []) (c' := 0) (z' := 0) rfl rfl rfl ?_
    refine kj_aloadn hC 0 dX9_joinAnew_65 rfl rfl ?_
    refine kj_gN (ci := 9) (k := 11) hC dX9_joinAnew_66 kf_X9_71 rfl (fun a3 => ?_)
    refine kj_fin hmc hms ?_
    exact kj_areturnN hC dX9_joinAnew_69
  · refine kj_aloadn hC 0 dX9_joinAnew_18 rfl rfl ?_
    refine kj_gN (ci := 9) (k := 6) hC dX9_joinAnew_19 kf_X9_45 rfl (fun a4 => ?_)
    refine kj_iloadn hC 2 dX9_joinAnew_22 rfl rfl ?_
    refine kj_gAN (c := 26) hC dX9_joinAnew_23 rfl ⟨rfl, rfl⟩ (fun a5 => ?_)
    refine kj_astoren (L' := [(3, .inr (.inr (some a5))), (0, .inr (.inr (some v0))), (1, .inr (.inr (some v1))), (2, .inl v2)]) hC dX9_joinAnew_24 rfl (by decide) rfl ?_
    refine kj_aloadn hC 0 dX9_joinAnew_25 rfl rfl ?_
    refine kj_gR (ci := 5) (k := 5) hC dX9_joinAnew_26 kf_X9_253 rfl (fun o1 => ?_)
    refine kj_invS (as := [.inr (.inr o1)]) (rest := []) hC hT dX9_joinAnew_29 kw463 ky_X9_numberOf ky2_X9_numberOf (t_X9_numberOf o1 h) rfl rfl (Nat.le_of_ble_eq_true rfl) ⟨by rw [hD]; decide, by decide⟩ ⟨by rw [hmc]; exact Nat.le_of_ble_eq_true rfl, by rw [hms]; exact Nat.le_of_ble_eq_true rfl⟩ (fun x2 h2 => ?_)
    refine kj_norm (st' := [.inl x2]) (c' := 0) (z' := 0) rfl rfl rfl ?_
    refine kj_aloadn hC 2 dX9_joinAnew_32 rfl rfl ?_
    refine kj_gI (ci := 4) (k := 0) hC dX9_joinAnew_33 kf_X9_210 rfl (fun x3 => ?_)
    refine kj_icmp_ne (tgt := 48) hC dX9_joinAnew_36 (by decide) (fun q2 => ?_) (fun q2 => ?_)
    · refine kj_aloadn hC 1 dX9_joinAnew_39 rfl rfl ?_
      refine kj_gN (ci := 9) (k := 11) hC dX9_joinAnew_40 kf_X9_71 rfl (fun a6 => ?_)
      refine kj_aloadn hC 0 dX9_joinAnew_43 rfl rfl ?_
      refine kj_invV (ci := 3) (q := (RX3, TX3, 3)) (as := [.inr (.inr (some a5))]) (rest := []) hC hT dX9_joinAnew_44 kw806 ky_X3_insertInOrder ky2_X3_insertInOrder rfl rfl (t_X3_insertInOrder a6 a5 h2) rfl rfl (Nat.le_of_ble_eq_true rfl) ⟨by rw [hD]; decide, by decide⟩ ⟨by rw [hmc]; exact Nat.le_of_ble_eq_true rfl, by rw [hms]; exact Nat.le_of_ble_eq_true rfl⟩ (fun x4 h3 => ?_)
      refine kj_norm (st' := [.inl x4]) (c' := 0) (z' := 0) rfl rfl rfl ?_
      refine kj_pop hC dX9_joinAnew_47 rfl ?_
      exact kj_sub [1, 2, 3] rfl (t_X9_joinAnew_b48 hC hN hT hmc hms hD rc10 hr10 v0 v1 v2 h3)
    · exact kj_sub [1, 2, 3] rfl (t_X9_joinAnew_b48 hC hN hT hmc hms hD rc10 hr10 v0 v1 v2 h2)
set_option maxHeartbeats 4000000 in
set_option maxRecDepth 100000 in
theorem t_X9_joinAnew_L10 {X : KX} (hC : kC X RX9 cX9_joinAnew 4 (some (.object "Tollkeeper$Passings"))) (hN : (xme X).name = yX9_joinAnew.name) (hT : kT0 X) (hmc : xmc X = 0) (hms : xms X = 0) (hD : xD X = 4) : ∀ (n : Nat) (v0 : Nat) (v1 : Nat) (v2 : Int32) (h : KH), kJ X (fun a : Nat => some (.inr (.inr (some a)))) 4 0 0 [(0, .inr (.inr (some v0))), (1, .inr (.inr (some v1))), (2, .inl v2)] [] 10 h (X9_joinAnew_L10  n v0 v1 v2 h) := by
  intro n
  induction n with
  | zero => intro v0 v1 v2 h; exact kj_none
  | succ n ih => intro v0 v1 v2 h; exact t_X9_joinAnew_b10 hC hN hT hmc hms hD (X9_joinAnew_L10  n) ih v0 v1 v2 h
set_option maxHeartbeats 4000000 in
set_option maxRecDepth 100000 in
theorem t_X9_joinAnew (p0 : Nat) (p1 : Nat) (h : KH) : kM yX9_joinAnew cX9_joinAnew 4 (some (.object "Tollkeeper$Passings")) 4 0 0 (fun a : Nat => some (.inr (.inr (some a)))) [.inr (.inr (some p0)), .inr (.inr (some p1))] h (f_X9_joinAnew p0 p1 h) := by
  refine kM_of RX9 (by decide) rfl (Nat.le_of_ble_eq_true rfl) [(0, .inr (.inr (some p0))), (1, .inr (.inr (some p1)))] rfl (fun X hC hN hT hmc hms hD => ?_)
  unfold f_X9_joinAnew
  refine kj_aloadn hC 0 dX9_joinAnew_0 rfl rfl ?_
  refine kj_gN (ci := 9) (k := 11) hC dX9_joinAnew_1 kf_X9_71 rfl (fun a1 => ?_)
  refine kj_iconst (v := 0) hC dX9_joinAnew_4 (by decide) ?_
  refine kj_pI (ci := 3) (k := 2) hC dX9_joinAnew_5 kf_X9_388 (Or.inl (kNF_of (by decide))) rfl ⟨rfl, rfl⟩ (fun h1 => ?_)
  refine kj_iconst (v := 0) hC dX9_joinAnew_8 (by decide) ?_
  refine kj_istoren (L' := [(2, .inl 0), (0, .inr (.inr (some p0))), (1, .inr (.inr (some p1)))]) hC dX9_joinAnew_9 rfl (by decide) rfl ?_
  exact kj_sub [1, 2, 0] rfl (t_X9_joinAnew_L10 hC hN hT hmc hms hD  kF p0 p1 0 h1)
set_option maxHeartbeats 4000000 in
set_option maxRecDepth 100000 in
theorem t_X9_tripsAnew (p0 : Nat) (p1 : Int32) (h : KH) : kM yX9_tripsAnew cX9_tripsAnew 2 (some .int) 7 1 6 (fun x : Int32 => some (.inl x)) [.inr (.inr (some p0)), .inl p1] h (f_X9_tripsAnew p0 p1 h) := by
  refine kM_of RX9 (by decide) rfl (Nat.le_of_ble_eq_true rfl) [(0, .inr (.inr (some p0))), (1, .inl p1)] rfl (fun X hC hN hT hmc hms hD => ?_)
  unfold f_X9_tripsAnew
  refine kj_aloadn hC 0 dX9_tripsAnew_0 rfl rfl ?_
  refine kj_aloadn hC 0 dX9_tripsAnew_1 rfl rfl ?_
  refine kj_iloadn hC 1 dX9_tripsAnew_2 rfl rfl ?_
  refine kj_invV (ci := 9) (q := (RX9, TX9, 17)) (as := [.inl p1]) (rest := [.inr (.inr (some p0))]) hC hT dX9_tripsAnew_3 kw564 ky_X9_plateNumbered ky2_X9_plateNumbered rfl rfl (t_X9_plateNumbered p0 p1 h) rfl rfl (Nat.le_of_ble_eq_true rfl) ⟨by rw [hD]; decide, by decide⟩ ⟨by rw [hmc]; exact Nat.le_of_ble_eq_true rfl, by rw [hms]; exact Nat.le_of_ble_eq_true rfl⟩ (fun a1 h1 => ?_)
  refine kj_norm (st' := [.inr (.inr (some a1)), .inr (.inr (some p0))]) (c' := 1) (z' := 6) rfl rfl rfl ?_
  refine kj_invV (ci := 9) (q := (RX9, TX9, 17)) (as := [.inr (.inr (some a1))]) (rest := []) hC hT dX9_tripsAnew_6 kw802 ky_X9_joinAnew ky2_X9_joinAnew rfl rfl (t_X9_joinAnew p0 a1 h1) rfl rfl (Nat.le_of_ble_eq_true rfl) ⟨by rw [hD]; decide, by decide⟩ ⟨by rw [hmc]; exact Nat.le_of_ble_eq_true rfl, by rw [hms]; exact Nat.le_of_ble_eq_true rfl⟩ (fun a2 h2 => ?_)
  refine kj_norm (st' := [.inr (.inr (some a2))]) (c' := 1) (z' := 6) rfl rfl rfl ?_
  refine kj_invV (ci := 3) (q := (RX3, TX3, 3)) (as := []) (rest := []) hC hT dX9_tripsAnew_9 kw766 ky_X3_tripCount ky2_X3_tripCount rfl rfl (t_X3_tripCount a2 h2) rfl rfl (Nat.le_of_ble_eq_true rfl) ⟨by rw [hD]; decide, by decide⟩ ⟨by rw [hmc]; exact Nat.le_of_ble_eq_true rfl, by rw [hms]; exact Nat.le_of_ble_eq_true rfl⟩ (fun x1 h3 => ?_)
  refine kj_norm (st' := [.inl x1]) (c' := 1) (z' := 6) rfl rfl rfl ?_
  refine kj_fin hmc hms ?_
  exact kj_ireturn hC dX9_tripsAnew_12
set_option maxHeartbeats 4000000 in
set_option maxRecDepth 100000 in
theorem t_X3_tripWith (p0 : Nat) (p1 : Nat) (h : KH) : kM yX3_tripWith cX3_tripWith 2 (some .int) 1 0 0 (fun x : Int32 => some (.inl x)) [.inr (.inr (some p0)), .inr (.inr (some p1))] h (f_X3_tripWith p0 p1 h) := by
  refine kM_of RX3 (by decide) rfl (Nat.le_of_ble_eq_true rfl) [(0, .inr (.inr (some p0))), (1, .inr (.inr (some p1)))] rfl (fun X hC hN hT hmc hms hD => ?_)
  unfold f_X3_tripWith
  refine kj_aloadn hC 0 dX3_tripWith_0 rfl rfl ?_
  refine kj_aloadn hC 0 dX3_tripWith_1 rfl rfl ?_
  refine kj_aloadn hC 1 dX3_tripWith_2 rfl rfl ?_
  refine kj_invV (ci := 3) (q := (RX3, TX3, 3)) (as := [.inr (.inr (some p1))]) (rest := [.inr (.inr (some p0))]) hC hT dX3_tripWith_3 kw470 ky_X3_placeOf ky2_X3_placeOf rfl rfl (t_X3_placeOf p0 p1 h) rfl rfl (Nat.le_of_ble_eq_true rfl) ⟨by rw [hD]; decide, by decide⟩ ⟨by rw [hmc]; exact Nat.le_of_ble_eq_true rfl, by rw [hms]; exact Nat.le_of_ble_eq_true rfl⟩ (fun x1 h1 => ?_)
  refine kj_norm (st' := [.inl x1, .inr (.inr (some p0))]) (c' := 0) (z' := 0) rfl rfl rfl ?_
  refine kj_iconst (v := 1) hC dX3_tripWith_6 (by decide) ?_
  refine kj_iadd hC dX3_tripWith_7 ?_
  refine kj_invV (ci := 3) (q := (RX3, TX3, 3)) (as := [.inl (x1 + 1)]) (rest := []) hC hT dX3_tripWith_8 kw770 ky_X3_beginningsAhead ky2_X3_beginningsAhead rfl rfl (t_X3_beginningsAhead p0 (x1 + 1) h1) rfl rfl (Nat.le_of_ble_eq_true rfl) ⟨by rw [hD]; decide, by decide⟩ ⟨by rw [hmc]; exact Nat.le_of_ble_eq_true rfl, by rw [hms]; exact Nat.le_of_ble_eq_true rfl⟩ (fun x2 h2 => ?_)
  refine kj_norm (st' := [.inl x2]) (c' := 0) (z' := 0) rfl rfl rfl ?_
  refine kj_iconst (v := 1) hC dX3_tripWith_11 (by decide) ?_
  refine kj_isub hC dX3_tripWith_12 ?_
  refine kj_fin hmc hms ?_
  exact kj_ireturn hC dX3_tripWith_13
set_option maxHeartbeats 4000000 in
set_option maxRecDepth 100000 in
theorem t_X9_tripOf_b28 {X : KX} (hC : kC X RX9 cX9_tripOf 3 (some .int)) (hN : (xme X).name = yX9_tripOf.name) (hT : kT0 X) (hmc : xmc X = 1) (hms : xms X = 6) (hD : xD X = 7) (s0 : Int32) (h : KH) : kJ X (fun x : Int32 => some (.inl x)) 3 1 6 [] [.inl s0] 28 h (X9_tripOf_b28  s0 h) := by
  unfold X9_tripOf_b28
  refine kj_fin hmc hms ?_
  exact kj_ireturn hC dX9_tripOf_28
set_option maxHeartbeats 4000000 in
set_option maxRecDepth 100000 in
theorem t_X9_tripOf (p0 : Nat) (p1 : Int32) (h : KH) : kM yX9_tripOf cX9_tripOf 3 (some .int) 7 1 6 (fun x : Int32 => some (.inl x)) [.inr (.inr (some p0)), .inl p1] h (f_X9_tripOf p0 p1 h) := by
  refine kM_of RX9 (by decide) rfl (Nat.le_of_ble_eq_true rfl) [(0, .inr (.inr (some p0))), (1, .inl p1)] rfl (fun X hC hN hT hmc hms hD => ?_)
  unfold f_X9_tripOf
  refine kj_aloadn hC 0 dX9_tripOf_0 rfl rfl ?_
  refine kj_iloadn hC 1 dX9_tripOf_1 rfl rfl ?_
  refine kj_invV (ci := 9) (q := (RX9, TX9, 17)) (as := [.inl p1]) (rest := []) hC hT dX9_tripOf_2 kw549 ky_X9_readingNumbered ky2_X9_readingNumbered rfl rfl (t_X9_readingNumbered p0 p1 h) rfl rfl (Nat.le_of_ble_eq_true rfl) ⟨by rw [hD]; decide, by decide⟩ ⟨by rw [hmc]; exact Nat.le_of_ble_eq_true rfl, by rw [hms]; exact Nat.le_of_ble_eq_true rfl⟩ (fun a1 h1 => ?_)
  refine kj_norm (st' := [.inr (.inr (some a1))]) (c' := 1) (z' := 6) rfl rfl rfl ?_
  refine kj_astoren (L' := [(2, .inr (.inr (some a1))), (0, .inr (.inr (some p0))), (1, .inl p1)]) hC dX9_tripOf_5 rfl (by decide) rfl ?_
  refine kj_aloadn hC 0 dX9_tripOf_6 rfl rfl ?_
  refine kj_gR (ci := 5) (k := 5) hC dX9_tripOf_7 kf_X9_253 rfl (fun o1 => ?_)
  refine kj_ifnonnull (tgt := 17) hC dX9_tripOf_10 (by decide) (fun q => ?_) (fun a2 q => ?_)
  · subst q
    refine kj_iconst (v := (-1)) hC dX9_tripOf_13 (by decide) ?_
    refine kj_goto (tgt := 28) hC dX9_tripOf_14 (by decide) ?_
    exact kj_sub [] rfl (t_X9_tripOf_b28 hC hN hT hmc hms hD  ((-1)) h1)
  · subst q
    refine kj_aloadn hC 0 dX9_tripOf_17 rfl rfl ?_
    refine kj_gR (ci := 5) (k := 5) hC dX9_tripOf_18 kf_X9_253 rfl (fun o2 => ?_)
    refine kj_may (fun a3 q => ?_)
    subst q
    refine kj_gN (ci := 4) (k := 3) hC dX9_tripOf_21 kf_X9_275 rfl (fun a4 => ?_)
    refine kj_aloadn hC 0 dX9_tripOf_24 rfl rfl ?_
    refine kj_invV (ci := 3) (q := (RX3, TX3, 3)) (as := [.inr (.inr (some a1))]) (rest := []) hC hT dX9_tripOf_25 kw825 ky_X3_tripWith ky2_X3_tripWith rfl rfl (t_X3_tripWith a4 a1 h1) rfl rfl (Nat.le_of_ble_eq_true rfl) ⟨by rw [hD]; decide, by decide⟩ ⟨by rw [hmc]; exact Nat.le_of_ble_eq_true rfl, by rw [hms]; exact Nat.le_of_ble_eq_true rfl⟩ (fun x1 h2 => ?_)
    refine kj_norm (st' := [.inl x1]) (c' := 1) (z' := 6) rfl rfl rfl ?_
    exact kj_sub [] rfl (t_X9_tripOf_b28 hC hN hT hmc hms hD  x1 h2)
set_option maxHeartbeats 4000000 in
set_option maxRecDepth 100000 in
theorem t_X3_beginningOf_b31 {X : KX} (hC : kC X RX3 cX3_beginningOf 4 (some .int)) (hN : (xme X).name = yX3_beginningOf.name) (hT : kT0 X) (hmc : xmc X = 0) (hms : xms X = 0) (hD : xD X = 0) (rc4 : Nat → Int32 → Int32 → Int32 → KH → KO Int32) (hr4 : ∀ (v0 : Nat) (v1 : Int32) (v2 : Int32) (v3 : Int32) (h : KH), kJ X (fun x : Int32 => some (.inl x)) 4 0 0 [(0, .inr (.inr (some v0))), (1, .inl v1), (2, .inl v2), (3, .inl v3)] [] 4 h (rc4 v0 v1 v2 v3 h)) (v0 : Nat) (v1 : Int32) (v2 : Int32) (v3 : Int32) (h : KH) : kJ X (fun x : Int32 => some (.inl x)) 4 0 0 [(0, .inr (.inr (some v0))), (1, .inl v1), (2, .inl v2), (3, .inl v3)] [] 31 h (X3_beginningOf_b31 rc4 v0 v1 v2 v3 h) := by
  unfold X3_beginningOf_b31
  refine kj_iinc (v := v3 + 1) (L' := [(3, .inl (v3 + 1)), (0, .inr (.inr (some v0))), (1, .inl v1), (2, .inl v2)]) hC 3 dX3_beginningOf_31 rfl rfl (by decide) rfl ?_
  refine kj_goto (tgt := 4) hC dX3_beginningOf_34 (by decide) ?_
  exact kj_sub [1, 2, 3, 0] rfl (hr4 v0 v1 v2 (v3 + 1) h)
set_option maxHeartbeats 4000000 in
set_option maxRecDepth 100000 in
theorem t_X3_beginningOf_b4 {X : KX} (hC : kC X RX3 cX3_beginningOf 4 (some .int)) (hN : (xme X).name = yX3_beginningOf.name) (hT : kT0 X) (hmc : xmc X = 0) (hms : xms X = 0) (hD : xD X = 0) (rc4 : Nat → Int32 → Int32 → Int32 → KH → KO Int32) (hr4 : ∀ (v0 : Nat) (v1 : Int32) (v2 : Int32) (v3 : Int32) (h : KH), kJ X (fun x : Int32 => some (.inl x)) 4 0 0 [(0, .inr (.inr (some v0))), (1, .inl v1), (2, .inl v2), (3, .inl v3)] [] 4 h (rc4 v0 v1 v2 v3 h)) (v0 : Nat) (v1 : Int32) (v2 : Int32) (v3 : Int32) (h : KH) : kJ X (fun x : Int32 => some (.inl x)) 4 0 0 [(0, .inr (.inr (some v0))), (1, .inl v1), (2, .inl v2), (3, .inl v3)] [] 4 h (X3_beginningOf_b4 rc4 v0 v1 v2 v3 h) := by
  unfold X3_beginningOf_b4
  refine kj_iloadn hC 3 dX3_beginningOf_4 rfl rfl ?_
  refine kj_aloadn hC 0 dX3_beginningOf_5 rfl rfl ?_
  refine kj_gI (ci := 3) (k := 2) hC dX3_beginningOf_6 kf_X3_21 rfl (fun x1 => ?_)
  refine kj_icmp_ge (tgt := 37) hC dX3_beginningOf_9 (by decide) (fun q1 => ?_) (fun q1 => ?_)
  · refine kj_iconst (v := (-1)) hC dX3_beginningOf_37 (by decide) ?_
    refine kj_fin hmc hms ?_
    exact kj_ireturn hC dX3_beginningOf_38
  · refine kj_aloadn hC 0 dX3_beginningOf_12 rfl rfl ?_
    refine kj_gN (ci := 3) (k := 1) hC dX3_beginningOf_13 kf_X3_17 rfl (fun a1 => ?_)
    refine kj_iloadn hC 3 dX3_beginningOf_16 rfl rfl ?_
    refine kj_gAZ hC dX3_beginningOf_17 (fun x2 => ?_)
    refine kj_if_eq (tgt := 31) hC dX3_beginningOf_18 (by decide) (fun q2 => ?_) (fun q2 => ?_)
    · exact kj_sub [0, 1, 2, 3] rfl (t_X3_beginningOf_b31 hC hN hT hmc hms hD rc4 hr4 v0 v1 v2 v3 h)
    · refine kj_iloadn hC 2 dX3_beginningOf_21 rfl rfl ?_
      refine kj_iloadn hC 1 dX3_beginningOf_22 rfl rfl ?_
      refine kj_icmp_ne (tgt := 28) hC dX3_beginningOf_23 (by decide) (fun q3 => ?_) (fun q3 => ?_)
      · refine kj_iloadn hC 3 dX3_beginningOf_26 rfl rfl ?_
        refine kj_fin hmc hms ?_
        exact kj_ireturn hC dX3_beginningOf_27
      · refine kj_iinc (v := v2 + 1) (L' := [(2, .inl (v2 + 1)), (0, .inr (.inr (some v0))), (1, .inl v1), (3, .inl v3)]) hC 2 dX3_beginningOf_28 rfl rfl (by decide) rfl ?_
        exact kj_sub [1, 2, 0, 3] rfl (t_X3_beginningOf_b31 hC hN hT hmc hms hD rc4 hr4 v0 v1 (v2 + 1) v3 h)
set_option maxHeartbeats 4000000 in
set_option maxRecDepth 100000 in
theorem t_X3_beginningOf_L4 {X : KX} (hC : kC X RX3 cX3_beginningOf 4 (some .int)) (hN : (xme X).name = yX3_beginningOf.name) (hT : kT0 X) (hmc : xmc X = 0) (hms : xms X = 0) (hD : xD X = 0) : ∀ (n : Nat) (v0 : Nat) (v1 : Int32) (v2 : Int32) (v3 : Int32) (h : KH), kJ X (fun x : Int32 => some (.inl x)) 4 0 0 [(0, .inr (.inr (some v0))), (1, .inl v1), (2, .inl v2), (3, .inl v3)] [] 4 h (X3_beginningOf_L4  n v0 v1 v2 v3 h) := by
  intro n
  induction n with
  | zero => intro v0 v1 v2 v3 h; exact kj_none
  | succ n ih => intro v0 v1 v2 v3 h; exact t_X3_beginningOf_b4 hC hN hT hmc hms hD (X3_beginningOf_L4  n) ih v0 v1 v2 v3 h
set_option maxHeartbeats 4000000 in
set_option maxRecDepth 100000 in
theorem t_X3_beginningOf (p0 : Nat) (p1 : Int32) (h : KH) : kM yX3_beginningOf cX3_beginningOf 4 (some .int) 0 0 0 (fun x : Int32 => some (.inl x)) [.inr (.inr (some p0)), .inl p1] h (f_X3_beginningOf p0 p1 h) := by
  refine kM_of RX3 (by decide) rfl (Nat.le_of_ble_eq_true rfl) [(0, .inr (.inr (some p0))), (1, .inl p1)] rfl (fun X hC hN hT hmc hms hD => ?_)
  unfold f_X3_beginningOf
  refine kj_iconst (v := 0) hC dX3_beginningOf_0 (by decide) ?_
  refine kj_istoren (L' := [(2, .inl 0), (0, .inr (.inr (some p0))), (1, .inl p1)]) hC dX3_beginningOf_1 rfl (by decide) rfl ?_
  refine kj_iconst (v := 0) hC dX3_beginningOf_2 (by decide) ?_
  refine kj_istoren (L' := [(3, .inl 0), (2, .inl 0), (0, .inr (.inr (some p0))), (1, .inl p1)]) hC dX3_beginningOf_3 rfl (by decide) rfl ?_
  exact kj_sub [2, 3, 1, 0] rfl (t_X3_beginningOf_L4 hC hN hT hmc hms hD  kF p0 p1 0 0 h)
set_option maxHeartbeats 4000000 in
set_option maxRecDepth 100000 in
theorem t_X9_requiredBeginning (p0 : Nat) (p1 : Int32) (h : KH) : kM yX9_requiredBeginning cX9_requiredBeginning 3 (some .int) 6 1 6 (fun x : Int32 => some (.inl x)) [.inr (.inr (some p0)), .inl p1] h (f_X9_requiredBeginning p0 p1 h) := by
  refine kM_of RX9 (by decide) rfl (Nat.le_of_ble_eq_true rfl) [(0, .inr (.inr (some p0))), (1, .inl p1)] rfl (fun X hC hN hT hmc hms hD => ?_)
  unfold f_X9_requiredBeginning
  refine kj_aloadn hC 0 dX9_requiredBeginning_0 rfl rfl ?_
  refine kj_gN (ci := 4) (k := 3) hC dX9_requiredBeginning_1 kf_X9_275 rfl (fun a1 => ?_)
  refine kj_iloadn hC 1 dX9_requiredBeginning_4 rfl rfl ?_
  refine kj_invV (ci := 3) (q := (RX3, TX3, 3)) (as := [.inl p1]) (rest := []) hC hT dX9_requiredBeginning_5 kw572 ky_X3_beginningOf ky2_X3_beginningOf rfl rfl (t_X3_beginningOf a1 p1 h) rfl rfl (Nat.le_of_ble_eq_true rfl) ⟨by rw [hD]; decide, by decide⟩ ⟨by rw [hmc]; exact Nat.le_of_ble_eq_true rfl, by rw [hms]; exact Nat.le_of_ble_eq_true rfl⟩ (fun x1 h1 => ?_)
  refine kj_norm (st' := [.inl x1]) (c' := 0) (z' := 0) rfl rfl rfl ?_
  refine kj_istoren (L' := [(2, .inl x1), (0, .inr (.inr (some p0))), (1, .inl p1)]) hC dX9_requiredBeginning_8 rfl (by decide) rfl ?_
  refine kj_iloadn hC 0 dX9_requiredBeginning_9 rfl rfl ?_
  refine kj_iconst (v := (-1)) hC dX9_requiredBeginning_10 (by decide) ?_
  refine kj_icmp_ne (tgt := 25) hC dX9_requiredBeginning_11 (by decide) (fun q1 => ?_) (fun q1 => ?_)
  · exact kj_throwW (tx := "no such trip") (e := 3) hC hT (by decide) rfl kw231 kw32 kw274 (List.mem_of_getElem? (i := 576) (by decide +kernel)) dX9_requiredBeginning_14 dX9_requiredBeginning_17 dX9_requiredBeginning_18 dX9_requiredBeginning_21 dX9_requiredBeginning_24 (Nat.le_of_ble_eq_true rfl) (by rw [hD]; decide) ⟨by rw [hmc]; exact Nat.le_of_ble_eq_true rfl, by rw [hms]; exact Nat.le_of_ble_eq_true rfl⟩
  · refine kj_iloadn hC 0 dX9_requiredBeginning_25 rfl rfl ?_
    refine kj_widen (k := 1) (n := 6) (Nat.le_of_ble_eq_true rfl) (Nat.le_of_ble_eq_true rfl) ?_
    refine kj_fin hmc hms ?_
    exact kj_ireturn hC dX9_requiredBeginning_26
set_option maxHeartbeats 4000000 in
set_option maxRecDepth 100000 in
theorem t_X3_wayFrom_b61 {X : KX} (hC : kC X RX3 cX3_wayFrom 5 (some .int)) (hN : (xme X).name = yX3_wayFrom.name) (hT : kT0 X) (hmc : xmc X = 0) (hms : xms X = 0) (hD : xD X = 1) (v3 : Int32) (h : KH) : kJ X (fun x : Int32 => some (.inl x)) 5 0 0 [(3, .inl v3)] [] 61 h (X3_wayFrom_b61  v3 h) := by
  unfold X3_wayFrom_b61
  refine kj_iloadn hC 0 dX3_wayFrom_61 rfl rfl ?_
  refine kj_fin hmc hms ?_
  exact kj_ireturn hC dX3_wayFrom_62
set_option maxHeartbeats 4000000 in
set_option maxRecDepth 100000 in
theorem t_X3_wayFrom_b7 {X : KX} (hC : kC X RX3 cX3_wayFrom 5 (some .int)) (hN : (xme X).name = yX3_wayFrom.name) (hT : kT0 X) (hmc : xmc X = 0) (hms : xms X = 0) (hD : xD X = 1) (rc7 : Nat → Nat → Int32 → Int32 → KH → KO Int32) (hr7 : ∀ (v0 : Nat) (v2 : Nat) (v3 : Int32) (v4 : Int32) (h : KH), kJ X (fun x : Int32 => some (.inl x)) 5 0 0 [(0, .inr (.inr (some v0))), (2, .inr (.inr (some v2))), (3, .inl v3), (4, .inl v4)] [] 7 h (rc7 v0 v2 v3 v4 h)) (v0 : Nat) (v2 : Nat) (v3 : Int32) (v4 : Int32) (h : KH) : kJ X (fun x : Int32 => some (.inl x)) 5 0 0 [(0, .inr (.inr (some v0))), (2, .inr (.inr (some v2))), (3, .inl v3), (4, .inl v4)] [] 7 h (X3_wayFrom_b7 rc7 v0 v2 v3 v4 h) := by
  unfold X3_wayFrom_b7
  refine kj_iload hC 3 dX3_wayFrom_7 rfl ?_
  refine kj_aloadn hC 0 dX3_wayFrom_9 rfl rfl ?_
  refine kj_gI (ci := 3) (k := 2) hC dX3_wayFrom_10 kf_X3_21 rfl (fun x1 => ?_)
  refine kj_icmp_ge (tgt := 61) hC dX3_wayFrom_13 (by decide) (fun q1 => ?_) (fun q1 => ?_)
  · exact kj_sub [2] rfl (t_X3_wayFrom_b61 hC hN hT hmc hms hD  v3 h)
  · refine kj_aloadn hC 0 dX3_wayFrom_16 rfl rfl ?_
    refine kj_gN (ci := 3) (k := 1) hC dX3_wayFrom_17 kf_X3_17 rfl (fun a1 => ?_)
    refine kj_iload hC 3 dX3_wayFrom_20 rfl ?_
    refine kj_gAZ hC dX3_wayFrom_22 (fun x2 => ?_)
    refine kj_if_ne (tgt := 61) hC dX3_wayFrom_23 (by decide) (fun q2 => ?_) (fun q2 => ?_)
    · refine kj_iloadn hC 2 dX3_wayFrom_26 rfl rfl ?_
      refine kj_aloadn hC 1 dX3_wayFrom_27 rfl rfl ?_
      refine kj_aloadn hC 0 dX3_wayFrom_28 rfl rfl ?_
      refine kj_gN (ci := 3) (k := 0) hC dX3_wayFrom_29 kf_X3_11 rfl (fun a2 => ?_)
      refine kj_iload hC 3 dX3_wayFrom_32 rfl ?_
      refine kj_iconst (v := 1) hC dX3_wayFrom_34 (by decide) ?_
      refine kj_isub hC dX3_wayFrom_35 ?_
      refine kj_gAN (c := 26) hC dX3_wayFrom_36 rfl ⟨rfl, rfl⟩ (fun a3 => ?_)
      refine kj_gI (ci := 5) (k := 1) hC dX3_wayFrom_37 kf_X3_44 rfl (fun x3 => ?_)
      refine kj_aloadn hC 0 dX3_wayFrom_40 rfl rfl ?_
      refine kj_gN (ci := 3) (k := 0) hC dX3_wayFrom_41 kf_X3_11 rfl (fun a4 => ?_)
      refine kj_iload hC 3 dX3_wayFrom_44 rfl ?_
      refine kj_gAN (c := 26) hC dX3_wayFrom_46 rfl ⟨rfl, rfl⟩ (fun a5 => ?_)
      refine kj_gI (ci := 5) (k := 1) hC dX3_wayFrom_47 kf_X3_44 rfl (fun x4 => ?_)
      refine kj_invV (ci := 6) (q := (RX6, TX6, 4)) (as := [.inl x3, .inl x4]) (rest := [.inl v3]) hC hT dX3_wayFrom_50 kw585 ky_X6_between ky2_X6_between rfl rfl (t_X6_between v2 x3 x4 h) rfl rfl (Nat.le_of_ble_eq_true rfl) ⟨by rw [hD]; decide, by decide⟩ ⟨by rw [hmc]; exact Nat.le_of_ble_eq_true rfl, by rw [hms]; exact Nat.le_of_ble_eq_true rfl⟩ (fun x5 h1 => ?_)
      refine kj_norm (st' := [.inl x5, .inl v3]) (c' := 0) (z' := 0) rfl rfl rfl ?_
      refine kj_iadd hC dX3_wayFrom_53 ?_
      refine kj_istoren (L' := [(3, .inl (v3 + x5)), (0, .inr (.inr (some v0))), (2, .inr (.inr (some v2))), (4, .inl v4)]) hC dX3_wayFrom_54 rfl (by decide) rfl ?_
      refine kj_iinc (v := v4 + 1) (L' := [(4, .inl (v4 + 1)), (3, .inl (v3 + x5)), (0, .inr (.inr (some v0))), (2, .inr (.inr (some v2)))]) hC 3 dX3_wayFrom_55 rfl rfl (by decide) rfl ?_
      refine kj_goto (tgt := 7) hC dX3_wayFrom_58 (by decide) ?_
      exact kj_sub [2, 3, 1, 0] rfl (hr7 v0 v2 (v3 + x5) (v4 + 1) h1)
    · exact kj_sub [2] rfl (t_X3_wayFrom_b61 hC hN hT hmc hms hD  v3 h)
set_option maxHeartbeats 4000000 in
set_option maxRecDepth 100000 in
theorem t_X3_wayFrom_L7 {X : KX} (hC : kC X RX3 cX3_wayFrom 5 (some .int)) (hN : (xme X).name = yX3_wayFrom.name) (hT : kT0 X) (hmc : xmc X = 0) (hms : xms X = 0) (hD : xD X = 1) : ∀ (n : Nat) (v0 : Nat) (v2 : Nat) (v3 : Int32) (v4 : Int32) (h : KH), kJ X (fun x : Int32 => some (.inl x)) 5 0 0 [(0, .inr (.inr (some v0))), (2, .inr (.inr (some v2))), (3, .inl v3), (4, .inl v4)] [] 7 h (X3_wayFrom_L7  n v0 v2 v3 v4 h) := by
  intro n
  induction n with
  | zero => intro v0 v2 v3 v4 h; exact kj_none
  | succ n ih => intro v0 v2 v3 v4 h; exact t_X3_wayFrom_b7 hC hN hT hmc hms hD (X3_wayFrom_L7  n) ih v0 v2 v3 v4 h
set_option maxHeartbeats 4000000 in
set_option maxRecDepth 100000 in
theorem t_X3_wayFrom (p0 : Nat) (p1 : Int32) (p2 : Nat) (h : KH) : kM yX3_wayFrom cX3_wayFrom 5 (some .int) 1 0 0 (fun x : Int32 => some (.inl x)) [.inr (.inr (some p0)), .inl p1, .inr (.inr (some p2))] h (f_X3_wayFrom p0 p1 p2 h) := by
  refine kM_of RX3 (by decide) rfl (Nat.le_of_ble_eq_true rfl) [(0, .inr (.inr (some p0))), (1, .inl p1), (2, .inr (.inr (some p2)))] rfl (fun X hC hN hT hmc hms hD => ?_)
  unfold f_X3_wayFrom
  refine kj_iconst (v := 0) hC dX3_wayFrom_0 (by decide) ?_
  refine kj_istoren (L' := [(3, .inl 0), (0, .inr (.inr (some p0))), (1, .inl p1), (2, .inr (.inr (some p2)))]) hC dX3_wayFrom_1 rfl (by decide) rfl ?_
  refine kj_iloadn hC 2 dX3_wayFrom_2 rfl rfl ?_
  refine kj_iconst (v := 1) hC dX3_wayFrom_3 (by decide) ?_
  refine kj_iadd hC dX3_wayFrom_4 ?_
  refine kj_istore (L' := [(4, .inl (p1 + 1)), (3, .inl 0), (0, .inr (.inr (some p0))), (1, .inl p1), (2, .inr (.inr (some p2)))]) hC dX3_wayFrom_5 (by decide) rfl ?_
  exact kj_sub [2, 4, 1, 0] rfl (t_X3_wayFrom_L7 hC hN hT hmc hms hD  kF p0 p2 0 (p1 + 1) h)
set_option maxHeartbeats 4000000 in
set_option maxRecDepth 100000 in
theorem t_X9_tollFrom (p0 : Nat) (p1 : Nat) (p2 : Int32) (p3 : Nat) (h : KH) : kM yX9_tollFrom cX9_tollFrom 4 (some .int) 2 0 0 (fun x : Int32 => some (.inl x)) [.inr (.inr (some p0)), .inr (.inr (some p1)), .inl p2, .inr (.inr (some p3))] h (f_X9_tollFrom p0 p1 p2 p3 h) := by
  refine kM_of RX9 (by decide) rfl (Nat.le_of_ble_eq_true rfl) [(0, .inr (.inr (some p0))), (1, .inr (.inr (some p1))), (2, .inl p2), (3, .inr (.inr (some p3)))] rfl (fun X hC hN hT hmc hms hD => ?_)
  unfold f_X9_tollFrom
  refine kj_aloadn hC 0 dX9_tollFrom_0 rfl rfl ?_
  refine kj_gN (ci := 9) (k := 1) hC dX9_tollFrom_1 kf_X9_16 rfl (fun a1 => ?_)
  refine kj_aloadn hC 3 dX9_tollFrom_4 rfl rfl ?_
  refine kj_gI (ci := 4) (k := 2) hC dX9_tollFrom_5 kf_X9_396 rfl (fun x1 => ?_)
  refine kj_gAI hC dX9_tollFrom_8 (fun x2 => ?_)
  refine kj_aloadn hC 1 dX9_tollFrom_9 rfl rfl ?_
  refine kj_iloadn hC 2 dX9_tollFrom_10 rfl rfl ?_
  refine kj_aloadn hC 0 dX9_tollFrom_11 rfl rfl ?_
  refine kj_gN (ci := 9) (k := 0) hC dX9_tollFrom_12 kf_X9_10 rfl (fun a2 => ?_)
  refine kj_invV (ci := 3) (q := (RX3, TX3, 3)) (as := [.inl p2, .inr (.inr (some a2))]) (rest := [.inl x2]) hC hT dX9_tollFrom_15 kw581 ky_X3_wayFrom ky2_X3_wayFrom rfl rfl (t_X3_wayFrom p1 p2 a2 h) rfl rfl (Nat.le_of_ble_eq_true rfl) ⟨by rw [hD]; decide, by decide⟩ ⟨by rw [hmc]; exact Nat.le_of_ble_eq_true rfl, by rw [hms]; exact Nat.le_of_ble_eq_true rfl⟩ (fun x3 h1 => ?_)
  refine kj_norm (st' := [.inl x3, .inl x2]) (c' := 0) (z' := 0) rfl rfl rfl ?_
  refine kj_iconst (v := 2) hC dX9_tollFrom_18 (by decide) ?_
  refine kj_iadd hC dX9_tollFrom_19 ?_
  refine kj_imul hC dX9_tollFrom_20 ?_
  refine kj_fin hmc hms ?_
  exact kj_ireturn hC dX9_tollFrom_21
set_option maxHeartbeats 4000000 in
set_option maxRecDepth 100000 in
theorem t_X9_toll (p0 : Nat) (p1 : Int32) (p2 : Int32) (h : KH) : kM yX9_toll cX9_toll 4 (some .int) 7 2 12 (fun x : Int32 => some (.inl x)) [.inr (.inr (some p0)), .inl p1, .inl p2] h (f_X9_toll p0 p1 p2 h) := by
  refine kM_of RX9 (by decide) rfl (Nat.le_of_ble_eq_true rfl) [(0, .inr (.inr (some p0))), (1, .inl p1), (2, .inl p2)] rfl (fun X hC hN hT hmc hms hD => ?_)
  unfold f_X9_toll
  refine kj_aloadn hC 0 dX9_toll_0 rfl rfl ?_
  refine kj_iloadn hC 1 dX9_toll_1 rfl rfl ?_
  refine kj_invV (ci := 9) (q := (RX9, TX9, 17)) (as := [.inl p1]) (rest := []) hC hT dX9_toll_2 kw564 ky_X9_plateNumbered ky2_X9_plateNumbered rfl rfl (t_X9_plateNumbered p0 p1 h) rfl rfl (Nat.le_of_ble_eq_true rfl) ⟨by rw [hD]; decide, by decide⟩ ⟨by rw [hmc]; exact Nat.le_of_ble_eq_true rfl, by rw [hms]; exact Nat.le_of_ble_eq_true rfl⟩ (fun a1 h1 => ?_)
  refine kj_norm (st' := [.inr (.inr (some a1))]) (c' := 1) (z' := 6) rfl rfl rfl ?_
  refine kj_astoren (L' := [(3, .inr (.inr (some a1))), (0, .inr (.inr (some p0))), (1, .inl p1), (2, .inl p2)]) hC dX9_toll_5 rfl (by decide) rfl ?_
  refine kj_aloadn hC 1 dX9_toll_6 rfl rfl ?_
  refine kj_aloadn hC 0 dX9_toll_7 rfl rfl ?_
  refine kj_gN (ci := 4) (k := 3) hC dX9_toll_8 kf_X9_275 rfl (fun a2 => ?_)
  refine kj_aloadn hC 0 dX9_toll_11 rfl rfl ?_
  refine kj_iloadn hC 3 dX9_toll_12 rfl rfl ?_
  refine kj_invS (as := [.inr (.inr (some a1)), .inl p2]) (rest := [.inr (.inr (some a2)), .inr (.inr (some p0))]) hC hT dX9_toll_13 kw569 ky_X9_requiredBeginning ky2_X9_requiredBeginning (t_X9_requiredBeginning a1 p2 h1) rfl rfl (Nat.le_of_ble_eq_true rfl) ⟨by rw [hD]; decide, by decide⟩ ⟨by rw [hmc]; exact Nat.le_of_ble_eq_true rfl, by rw [hms]; exact Nat.le_of_ble_eq_true rfl⟩ (fun x1 h2 => ?_)
  refine kj_norm (st' := [.inl x1, .inr (.inr (some a2)), .inr (.inr (some p0))]) (c' := 2) (z' := 12) rfl rfl rfl ?_
  refine kj_aloadn hC 0 dX9_toll_16 rfl rfl ?_
  refine kj_invV (ci := 9) (q := (RX9, TX9, 17)) (as := [.inr (.inr (some a2)), .inl x1, .inr (.inr (some a1))]) (rest := []) hC hT dX9_toll_17 kw577 ky_X9_tollFrom ky2_X9_tollFrom rfl rfl (t_X9_tollFrom p0 a2 x1 a1 h2) rfl rfl (Nat.le_of_ble_eq_true rfl) ⟨by rw [hD]; decide, by decide⟩ ⟨by rw [hmc]; exact Nat.le_of_ble_eq_true rfl, by rw [hms]; exact Nat.le_of_ble_eq_true rfl⟩ (fun x2 h3 => ?_)
  refine kj_norm (st' := [.inl x2]) (c' := 2) (z' := 12) rfl rfl rfl ?_
  refine kj_fin hmc hms ?_
  exact kj_ireturn hC dX9_toll_20
set_option maxHeartbeats 4000000 in
set_option maxRecDepth 100000 in
theorem t_X9_driverOf (p0 : Nat) (p1 : Int32) (p2 : Int32) (h : KH) : kM yX9_driverOf cX9_driverOf 5 (some .int) 7 2 12 (fun x : Int32 => some (.inl x)) [.inr (.inr (some p0)), .inl p1, .inl p2] h (f_X9_driverOf p0 p1 p2 h) := by
  refine kM_of RX9 (by decide) rfl (Nat.le_of_ble_eq_true rfl) [(0, .inr (.inr (some p0))), (1, .inl p1), (2, .inl p2)] rfl (fun X hC hN hT hmc hms hD => ?_)
  unfold f_X9_driverOf
  refine kj_aloadn hC 0 dX9_driverOf_0 rfl rfl ?_
  refine kj_iloadn hC 1 dX9_driverOf_1 rfl rfl ?_
  refine kj_invV (ci := 9) (q := (RX9, TX9, 17)) (as := [.inl p1]) (rest := []) hC hT dX9_driverOf_2 kw564 ky_X9_plateNumbered ky2_X9_plateNumbered rfl rfl (t_X9_plateNumbered p0 p1 h) rfl rfl (Nat.le_of_ble_eq_true rfl) ⟨by rw [hD]; decide, by decide⟩ ⟨by rw [hmc]; exact Nat.le_of_ble_eq_true rfl, by rw [hms]; exact Nat.le_of_ble_eq_true rfl⟩ (fun a1 h1 => ?_)
  refine kj_norm (st' := [.inr (.inr (some a1))]) (c' := 1) (z' := 6) rfl rfl rfl ?_
  refine kj_astoren (L' := [(3, .inr (.inr (some a1))), (0, .inr (.inr (some p0))), (1, .inl p1), (2, .inl p2)]) hC dX9_driverOf_5 rfl (by decide) rfl ?_
  refine kj_aloadn hC 0 dX9_driverOf_6 rfl rfl ?_
  refine kj_iloadn hC 3 dX9_driverOf_7 rfl rfl ?_
  refine kj_invS (as := [.inr (.inr (some a1)), .inl p2]) (rest := []) hC hT dX9_driverOf_8 kw569 ky_X9_requiredBeginning ky2_X9_requiredBeginning (t_X9_requiredBeginning a1 p2 h1) rfl rfl (Nat.le_of_ble_eq_true rfl) ⟨by rw [hD]; decide, by decide⟩ ⟨by rw [hmc]; exact Nat.le_of_ble_eq_true rfl, by rw [hms]; exact Nat.le_of_ble_eq_true rfl⟩ (fun x1 h2 => ?_)
  refine kj_norm (st' := [.inl x1]) (c' := 2) (z' := 12) rfl rfl rfl ?_
  refine kj_istore (L' := [(4, .inl x1), (3, .inr (.inr (some a1))), (0, .inr (.inr (some p0))), (1, .inl p1), (2, .inl p2)]) hC dX9_driverOf_11 (by decide) rfl ?_
  refine kj_aloadn hC 1 dX9_driverOf_13 rfl rfl ?_
  refine kj_aloadn hC 1 dX9_driverOf_14 rfl rfl ?_
  refine kj_gN (ci := 4) (k := 3) hC dX9_driverOf_15 kf_X9_275 rfl (fun a2 => ?_)
  refine kj_gN (ci := 3) (k := 0) hC dX9_driverOf_18 kf_X9_297 rfl (fun a3 => ?_)
  refine kj_iload hC 0 dX9_driverOf_21 rfl ?_
  refine kj_gAN (c := 26) hC dX9_driverOf_23 rfl ⟨rfl, rfl⟩ (fun a4 => ?_)
  refine kj_gI (ci := 5) (k := 2) hC dX9_driverOf_24 kf_X9_300 rfl (fun x2 => ?_)
  refine kj_invV (ci := 4) (q := (RX4, TX4, 5)) (as := [.inl x2]) (rest := []) hC hT dX9_driverOf_27 kw612 ky_X4_driverIn ky2_X4_driverIn rfl rfl (t_X4_driverIn a1 x2 h2) rfl rfl (Nat.le_of_ble_eq_true rfl) ⟨by rw [hD]; decide, by decide⟩ ⟨by rw [hmc]; exact Nat.le_of_ble_eq_true rfl, by rw [hms]; exact Nat.le_of_ble_eq_true rfl⟩ (fun x3 h3 => ?_)
  refine kj_norm (st' := [.inl x3]) (c' := 2) (z' := 12) rfl rfl rfl ?_
  refine kj_fin hmc hms ?_
  exact kj_ireturn hC dX9_driverOf_30
set_option maxHeartbeats 4000000 in
set_option maxRecDepth 100000 in
theorem t_X9_dueFor_b56 {X : KX} (hC : kC X RX9 cX9_dueFor 6 (some .int)) (hN : (xme X).name = yX9_dueFor.name) (hT : kT0 X) (hmc : xmc X = 0) (hms : xms X = 0) (hD : xD X = 3) (rc6 : Nat → Nat → Nat → Int32 → Int32 → Int32 → KH → KO Int32) (hr6 : ∀ (v0 : Nat) (v1 : Nat) (v2 : Nat) (v3 : Int32) (v4 : Int32) (v5 : Int32) (h : KH), kJ X (fun x : Int32 => some (.inl x)) 6 0 0 [(0, .inr (.inr (some v0))), (1, .inr (.inr (some v1))), (2, .inr (.inr (some v2))), (3, .inl v3), (4, .inl v4), (5, .inl v5)] [] 6 h (rc6 v0 v1 v2 v3 v4 v5 h)) (v0 : Nat) (v1 : Nat) (v2 : Nat) (v3 : Int32) (v4 : Int32) (v5 : Int32) (h : KH) : kJ X (fun x : Int32 => some (.inl x)) 6 0 0 [(0, .inr (.inr (some v0))), (1, .inr (.inr (some v1))), (2, .inr (.inr (some v2))), (3, .inl v3), (4, .inl v4), (5, .inl v5)] [] 56 h (X9_dueFor_b56 rc6 v0 v1 v2 v3 v4 v5 h) := by
  unfold X9_dueFor_b56
  refine kj_iinc (v := v5 + 1) (L' := [(5, .inl (v5 + 1)), (0, .inr (.inr (some v0))), (1, .inr (.inr (some v1))), (2, .inr (.inr (some v2))), (3, .inl v3), (4, .inl v4)]) hC 5 dX9_dueFor_56 rfl rfl (by decide) rfl ?_
  refine kj_goto (tgt := 6) hC dX9_dueFor_59 (by decide) ?_
  exact kj_sub [1, 2, 3, 4, 5, 0] rfl (hr6 v0 v1 v2 v3 v4 (v5 + 1) h)
set_option maxHeartbeats 4000000 in
set_option maxRecDepth 100000 in
theorem t_X9_dueFor_b6 {X : KX} (hC : kC X RX9 cX9_dueFor 6 (some .int)) (hN : (xme X).name = yX9_dueFor.name) (hT : kT0 X) (hmc : xmc X = 0) (hms : xms X = 0) (hD : xD X = 3) (rc6 : Nat → Nat → Nat → Int32 → Int32 → Int32 → KH → KO Int32) (hr6 : ∀ (v0 : Nat) (v1 : Nat) (v2 : Nat) (v3 : Int32) (v4 : Int32) (v5 : Int32) (h : KH), kJ X (fun x : Int32 => some (.inl x)) 6 0 0 [(0, .inr (.inr (some v0))), (1, .inr (.inr (some v1))), (2, .inr (.inr (some v2))), (3, .inl v3), (4, .inl v4), (5, .inl v5)] [] 6 h (rc6 v0 v1 v2 v3 v4 v5 h)) (v0 : Nat) (v1 : Nat) (v2 : Nat) (v3 : Int32) (v4 : Int32) (v5 : Int32) (h : KH) : kJ X (fun x : Int32 => some (.inl x)) 6 0 0 [(0, .inr (.inr (some v0))), (1, .inr (.inr (some v1))), (2, .inr (.inr (some v2))), (3, .inl v3), (4, .inl v4), (5, .inl v5)] [] 6 h (X9_dueFor_b6 rc6 v0 v1 v2 v3 v4 v5 h) := by
  unfold X9_dueFor_b6
  refine kj_iload hC 5 dX9_dueFor_6 rfl ?_
  refine kj_aloadn hC 2 dX9_dueFor_8 rfl rfl ?_
  refine kj_gI (ci := 3) (k := 2) hC dX9_dueFor_9 kf_X9_388 rfl (fun x1 => ?_)
  refine kj_icmp_ge (tgt := 62) hC dX9_dueFor_12 (by decide) (fun q1 => ?_) (fun q1 => ?_)
  · refine kj_iload hC 4 dX9_dueFor_62 rfl ?_
    refine kj_fin hmc hms ?_
    exact kj_ireturn hC dX9_dueFor_64
  · refine kj_aloadn hC 2 dX9_dueFor_15 rfl rfl ?_
    refine kj_gN (ci := 3) (k := 1) hC dX9_dueFor_16 kf_X9_392 rfl (fun a1 => ?_)
    refine kj_iload hC 5 dX9_dueFor_19 rfl ?_
    refine kj_gAZ hC dX9_dueFor_21 (fun x2 => ?_)
    refine kj_if_eq (tgt := 56) hC dX9_dueFor_22 (by decide) (fun q2 => ?_) (fun q2 => ?_)
    · exact kj_sub [0, 1, 2, 3, 4, 5] rfl (t_X9_dueFor_b56 hC hN hT hmc hms hD rc6 hr6 v0 v1 v2 v3 v4 v5 h)
    · refine kj_aloadn hC 1 dX9_dueFor_25 rfl rfl ?_
      refine kj_aloadn hC 2 dX9_dueFor_26 rfl rfl ?_
      refine kj_gN (ci := 3) (k := 0) hC dX9_dueFor_27 kf_X9_297 rfl (fun a2 => ?_)
      refine kj_iload hC 5 dX9_dueFor_30 rfl ?_
      refine kj_gAN (c := 26) hC dX9_dueFor_32 rfl ⟨rfl, rfl⟩ (fun a3 => ?_)
      refine kj_gI (ci := 5) (k := 2) hC dX9_dueFor_33 kf_X9_300 rfl (fun x3 => ?_)
      refine kj_invV (ci := 4) (q := (RX4, TX4, 5)) (as := [.inl x3]) (rest := []) hC hT dX9_dueFor_36 kw612 ky_X4_driverIn ky2_X4_driverIn rfl rfl (t_X4_driverIn v1 x3 h) rfl rfl (Nat.le_of_ble_eq_true rfl) ⟨by rw [hD]; decide, by decide⟩ ⟨by rw [hmc]; exact Nat.le_of_ble_eq_true rfl, by rw [hms]; exact Nat.le_of_ble_eq_true rfl⟩ (fun x4 h1 => ?_)
      refine kj_norm (st' := [.inl x4]) (c' := 0) (z' := 0) rfl rfl rfl ?_
      refine kj_iloadn hC 3 dX9_dueFor_39 rfl rfl ?_
      refine kj_icmp_ne (tgt := 56) hC dX9_dueFor_40 (by decide) (fun q3 => ?_) (fun q3 => ?_)
      · refine kj_iload hC 4 dX9_dueFor_43 rfl ?_
        refine kj_aloadn hC 0 dX9_dueFor_45 rfl rfl ?_
        refine kj_aloadn hC 2 dX9_dueFor_46 rfl rfl ?_
        refine kj_iload hC 5 dX9_dueFor_47 rfl ?_
        refine kj_aloadn hC 1 dX9_dueFor_49 rfl rfl ?_
        refine kj_invV (ci := 9) (q := (RX9, TX9, 17)) (as := [.inr (.inr (some v2)), .inl v5, .inr (.inr (some v1))]) (rest := [.inl v4]) hC hT dX9_dueFor_50 kw577 ky_X9_tollFrom ky2_X9_tollFrom rfl rfl (t_X9_tollFrom v0 v2 v5 v1 h1) rfl rfl (Nat.le_of_ble_eq_true rfl) ⟨by rw [hD]; decide, by decide⟩ ⟨by rw [hmc]; exact Nat.le_of_ble_eq_true rfl, by rw [hms]; exact Nat.le_of_ble_eq_true rfl⟩ (fun x5 h2 => ?_)
        refine kj_norm (st' := [.inl x5, .inl v4]) (c' := 0) (z' := 0) rfl rfl rfl ?_
        refine kj_iadd hC dX9_dueFor_53 ?_
        refine kj_istore (L' := [(4, .inl (v4 + x5)), (0, .inr (.inr (some v0))), (1, .inr (.inr (some v1))), (2, .inr (.inr (some v2))), (3, .inl v3), (5, .inl v5)]) hC dX9_dueFor_54 (by decide) rfl ?_
        exact kj_sub [1, 2, 3, 4, 0, 5] rfl (t_X9_dueFor_b56 hC hN hT hmc hms hD rc6 hr6 v0 v1 v2 v3 (v4 + x5) v5 h2)
      · exact kj_sub [0, 1, 2, 3, 4, 5] rfl (t_X9_dueFor_b56 hC hN hT hmc hms hD rc6 hr6 v0 v1 v2 v3 v4 v5 h1)
set_option maxHeartbeats 4000000 in
set_option maxRecDepth 100000 in
theorem t_X9_dueFor_L6 {X : KX} (hC : kC X RX9 cX9_dueFor 6 (some .int)) (hN : (xme X).name = yX9_dueFor.name) (hT : kT0 X) (hmc : xmc X = 0) (hms : xms X = 0) (hD : xD X = 3) : ∀ (n : Nat) (v0 : Nat) (v1 : Nat) (v2 : Nat) (v3 : Int32) (v4 : Int32) (v5 : Int32) (h : KH), kJ X (fun x : Int32 => some (.inl x)) 6 0 0 [(0, .inr (.inr (some v0))), (1, .inr (.inr (some v1))), (2, .inr (.inr (some v2))), (3, .inl v3), (4, .inl v4), (5, .inl v5)] [] 6 h (X9_dueFor_L6  n v0 v1 v2 v3 v4 v5 h) := by
  intro n
  induction n with
  | zero => intro v0 v1 v2 v3 v4 v5 h; exact kj_none
  | succ n ih => intro v0 v1 v2 v3 v4 v5 h; exact t_X9_dueFor_b6 hC hN hT hmc hms hD (X9_dueFor_L6  n) ih v0 v1 v2 v3 v4 v5 h
set_option maxHeartbeats 4000000 in
set_option maxRecDepth 100000 in
theorem t_X9_dueFor (p0 : Nat) (p1 : Nat) (p2 : Nat) (p3 : Int32) (h : KH) : kM yX9_dueFor cX9_dueFor 6 (some .int) 3 0 0 (fun x : Int32 => some (.inl x)) [.inr (.inr (some p0)), .inr (.inr (some p1)), .inr (.inr (some p2)), .inl p3] h (f_X9_dueFor p0 p1 p2 p3 h) := by
  refine kM_of RX9 (by decide) rfl (Nat.le_of_ble_eq_true rfl) [(0, .inr (.inr (some p0))), (1, .inr (.inr (some p1))), (2, .inr (.inr (some p2))), (3, .inl p3)] rfl (fun X hC hN hT hmc hms hD => ?_)
  unfold f_X9_dueFor
  refine kj_iconst (v := 0) hC dX9_dueFor_0 (by decide) ?_
  refine kj_istore (L' := [(4, .inl 0), (0, .inr (.inr (some p0))), (1, .inr (.inr (some p1))), (2, .inr (.inr (some p2))), (3, .inl p3)]) hC dX9_dueFor_1 (by decide) rfl ?_
  refine kj_iconst (v := 0) hC dX9_dueFor_3 (by decide) ?_
  refine kj_istore (L' := [(5, .inl 0), (4, .inl 0), (0, .inr (.inr (some p0))), (1, .inr (.inr (some p1))), (2, .inr (.inr (some p2))), (3, .inl p3)]) hC dX9_dueFor_4 (by decide) rfl ?_
  exact kj_sub [2, 3, 4, 5, 1, 0] rfl (t_X9_dueFor_L6 hC hN hT hmc hms hD  kF p0 p1 p2 p3 0 0 h)
set_option maxHeartbeats 4000000 in
set_option maxRecDepth 100000 in
theorem t_X9_dueByKept_b4 {X : KX} (hC : kC X RX9 cX9_dueByKept 5 (some .int)) (hN : (xme X).name = yX9_dueByKept.name) (hT : kT0 X) (hmc : xmc X = 0) (hms : xms X = 0) (hD : xD X = 4) (rc4 : Nat → Int32 → Int32 → Int32 → KH → KO Int32) (hr4 : ∀ (v0 : Nat) (v1 : Int32) (v2 : Int32) (v3 : Int32) (h : KH), kJ X (fun x : Int32 => some (.inl x)) 5 0 0 [(0, .inr (.inr (some v0))), (1, .inl v1), (2, .inl v2), (3, .inl v3)] [] 4 h (rc4 v0 v1 v2 v3 h)) (v0 : Nat) (v1 : Int32) (v2 : Int32) (v3 : Int32) (h : KH) : kJ X (fun x : Int32 => some (.inl x)) 5 0 0 [(0, .inr (.inr (some v0))), (1, .inl v1), (2, .inl v2), (3, .inl v3)] [] 4 h (X9_dueByKept_b4 rc4 v0 v1 v2 v3 h) := by
  unfold X9_dueByKept_b4
  refine kj_iloadn hC 3 dX9_dueByKept_4 rfl rfl ?_
  refine kj_aloadn hC 0 dX9_dueByKept_5 rfl rfl ?_
  refine kj_gI (ci := 9) (k := 13) hC dX9_dueByKept_6 kf_X9_79 rfl (fun x1 => ?_)
  refine kj_icmp_ge (tgt := 41) hC dX9_dueByKept_9 (by decide) (fun q1 => ?_) (fun q1 => ?_)
  · refine kj_iloadn hC 2 dX9_dueByKept_41 rfl rfl ?_
    refine kj_fin hmc hms ?_
    exact kj_ireturn hC dX9_dueByKept_42
  · refine kj_aloadn hC 0 dX9_dueByKept_12 rfl rfl ?_
    refine kj_gN (ci := 9) (k := 4) hC dX9_dueByKept_13 kf_X9_36 rfl (fun a1 => ?_)
    refine kj_iloadn hC 3 dX9_dueByKept_16 rfl rfl ?_
    refine kj_gAN (c := 25) hC dX9_dueByKept_17 rfl ⟨rfl, rfl⟩ (fun a2 => ?_)
    refine kj_astore (L' := [(4, .inr (.inr (some a2))), (0, .inr (.inr (some v0))), (1, .inl v1), (2, .inl v2), (3, .inl v3)]) hC dX9_dueByKept_18 (by decide) rfl ?_
    refine kj_iloadn hC 3 dX9_dueByKept_20 rfl rfl ?_
    refine kj_aloadn hC 1 dX9_dueByKept_21 rfl rfl ?_
    refine kj_aload hC 0 dX9_dueByKept_22 rfl ?_
    refine kj_aload hC 0 dX9_dueByKept_24 rfl ?_
    refine kj_gN (ci := 4) (k := 3) hC dX9_dueByKept_26 kf_X9_275 rfl (fun a3 => ?_)
    refine kj_iloadn hC 2 dX9_dueByKept_29 rfl rfl ?_
    refine kj_invV (ci := 9) (q := (RX9, TX9, 17)) (as := [.inr (.inr (some a2)), .inr (.inr (some a3)), .inl v1]) (rest := [.inl v2]) hC hT dX9_dueByKept_30 kw794 ky_X9_dueFor ky2_X9_dueFor rfl rfl (t_X9_dueFor v0 a2 a3 v1 h) rfl rfl (Nat.le_of_ble_eq_true rfl) ⟨by rw [hD]; decide, by decide⟩ ⟨by rw [hmc]; exact Nat.le_of_ble_eq_true rfl, by rw [hms]; exact Nat.le_of_ble_eq_true rfl⟩ (fun x2 h1 => ?_)
    refine kj_norm (st' := [.inl x2, .inl v2]) (c' := 0) (z' := 0) rfl rfl rfl ?_
    refine kj_iadd hC dX9_dueByKept_33 ?_
    refine kj_istoren (L' := [(2, .inl (v2 + x2)), (4, .inr (.inr (some a2))), (0, .inr (.inr (some v0))), (1, .inl v1), (3, .inl v3)]) hC dX9_dueByKept_34 rfl (by decide) rfl ?_
    refine kj_iinc (v := v3 + 1) (L' := [(3, .inl (v3 + 1)), (2, .inl (v2 + x2)), (4, .inr (.inr (some a2))), (0, .inr (.inr (some v0))), (1, .inl v1)]) hC 4 dX9_dueByKept_35 rfl rfl (by decide) rfl ?_
    refine kj_goto (tgt := 4) hC dX9_dueByKept_38 (by decide) ?_
    exact kj_sub [3, 4, 1, 0] rfl (hr4 v0 v1 (v2 + x2) (v3 + 1) h1)
set_option maxHeartbeats 4000000 in
set_option maxRecDepth 100000 in
theorem t_X9_dueByKept_L4 {X : KX} (hC : kC X RX9 cX9_dueByKept 5 (some .int)) (hN : (xme X).name = yX9_dueByKept.name) (hT : kT0 X) (hmc : xmc X = 0) (hms : xms X = 0) (hD : xD X = 4) : ∀ (n : Nat) (v0 : Nat) (v1 : Int32) (v2 : Int32) (v3 : Int32) (h : KH), kJ X (fun x : Int32 => some (.inl x)) 5 0 0 [(0, .inr (.inr (some v0))), (1, .inl v1), (2, .inl v2), (3, .inl v3)] [] 4 h (X9_dueByKept_L4  n v0 v1 v2 v3 h) := by
  intro n
  induction n with
  | zero => intro v0 v1 v2 v3 h; exact kj_none
  | succ n ih => intro v0 v1 v2 v3 h; exact t_X9_dueByKept_b4 hC hN hT hmc hms hD (X9_dueByKept_L4  n) ih v0 v1 v2 v3 h
set_option maxHeartbeats 4000000 in
set_option maxRecDepth 100000 in
theorem t_X9_dueByKept (p0 : Nat) (p1 : Int32) (h : KH) : kM yX9_dueByKept cX9_dueByKept 5 (some .int) 4 0 0 (fun x : Int32 => some (.inl x)) [.inr (.inr (some p0)), .inl p1] h (f_X9_dueByKept p0 p1 h) := by
  refine kM_of RX9 (by decide) rfl (Nat.le_of_ble_eq_true rfl) [(0, .inr (.inr (some p0))), (1, .inl p1)] rfl (fun X hC hN hT hmc hms hD => ?_)
  unfold f_X9_dueByKept
  refine kj_iconst (v := 0) hC dX9_dueByKept_0 (by decide) ?_
  refine kj_istoren (L' := [(2, .inl 0), (0, .inr (.inr (some p0))), (1, .inl p1)]) hC dX9_dueByKept_1 rfl (by decide) rfl ?_
  refine kj_iconst (v := 0) hC dX9_dueByKept_2 (by decide) ?_
  refine kj_istoren (L' := [(3, .inl 0), (2, .inl 0), (0, .inr (.inr (some p0))), (1, .inl p1)]) hC dX9_dueByKept_3 rfl (by decide) rfl ?_
  exact kj_sub [2, 3, 1, 0] rfl (t_X9_dueByKept_L4 hC hN hT hmc hms hD  kF p0 p1 0 0 h)
set_option maxHeartbeats 4000000 in
set_option maxRecDepth 100000 in
theorem t_X9_due (p0 : Nat) (p1 : Int32) (h : KH) : kM yX9_due cX9_due 2 (some .int) 7 1 6 (fun x : Int32 => some (.inl x)) [.inr (.inr (some p0)), .inl p1] h (f_X9_due p0 p1 h) := by
  refine kM_of RX9 (by decide) rfl (Nat.le_of_ble_eq_true rfl) [(0, .inr (.inr (some p0))), (1, .inl p1)] rfl (fun X hC hN hT hmc hms hD => ?_)
  unfold f_X9_due
  refine kj_iloadn hC 1 dX9_due_0 rfl rfl ?_
  refine kj_invS (as := [.inl p1]) (rest := []) hC hT dX9_due_1 kw338 ky_X9_requireDriver ky2_X9_requireDriver (t_X9_requireDriver p1 h) rfl rfl (Nat.le_of_ble_eq_true rfl) ⟨by rw [hD]; decide, by decide⟩ ⟨by rw [hmc]; exact Nat.le_of_ble_eq_true rfl, by rw [hms]; exact Nat.le_of_ble_eq_true rfl⟩ (fun _ h1 => ?_)
  refine kj_norm (st' := []) (c' := 1) (z' := 6) rfl rfl rfl ?_
  refine kj_aloadn hC 0 dX9_due_4 rfl rfl ?_
  refine kj_iloadn hC 1 dX9_due_5 rfl rfl ?_
  refine kj_invV (ci := 9) (q := (RX9, TX9, 17)) (as := [.inl p1]) (rest := []) hC hT dX9_due_6 kw790 ky_X9_dueByKept ky2_X9_dueByKept rfl rfl (t_X9_dueByKept p0 p1 h1) rfl rfl (Nat.le_of_ble_eq_true rfl) ⟨by rw [hD]; decide, by decide⟩ ⟨by rw [hmc]; exact Nat.le_of_ble_eq_true rfl, by rw [hms]; exact Nat.le_of_ble_eq_true rfl⟩ (fun x1 h2 => ?_)
  refine kj_norm (st' := [.inl x1]) (c' := 1) (z' := 6) rfl rfl rfl ?_
  refine kj_fin hmc hms ?_
  exact kj_ireturn hC dX9_due_9
set_option maxHeartbeats 4000000 in
set_option maxRecDepth 100000 in
theorem t_X9_dueAnew_b8 {X : KX} (hC : kC X RX9 cX9_dueAnew 5 (some .int)) (hN : (xme X).name = yX9_dueAnew.name) (hT : kT0 X) (hmc : xmc X = 1) (hms : xms X = 6) (hD : xD X = 7) (rc8 : Nat → Int32 → Int32 → Int32 → KH → KO Int32) (hr8 : ∀ (v0 : Nat) (v1 : Int32) (v2 : Int32) (v3 : Int32) (h : KH), kJ X (fun x : Int32 => some (.inl x)) 5 1 6 [(0, .inr (.inr (some v0))), (1, .inl v1), (2, .inl v2), (3, .inl v3)] [] 8 h (rc8 v0 v1 v2 v3 h)) (v0 : Nat) (v1 : Int32) (v2 : Int32) (v3 : Int32) (h : KH) : kJ X (fun x : Int32 => some (.inl x)) 5 1 6 [(0, .inr (.inr (some v0))), (1, .inl v1), (2, .inl v2), (3, .inl v3)] [] 8 h (X9_dueAnew_b8 rc8 v0 v1 v2 v3 h) := by
  unfold X9_dueAnew_b8
  refine kj_iloadn hC 3 dX9_dueAnew_8 rfl rfl ?_
  refine kj_aloadn hC 0 dX9_dueAnew_9 rfl rfl ?_
  refine kj_gI (ci := 9) (k := 13) hC dX9_dueAnew_10 kf_X9_79 rfl (fun x1 => ?_)
  refine kj_icmp_ge (tgt := 46) hC dX9_dueAnew_13 (by decide) (fun q1 => ?_) (fun q1 => ?_)
  · refine kj_iloadn hC 2 dX9_dueAnew_46 rfl rfl ?_
    refine kj_fin hmc hms ?_
    exact kj_ireturn hC dX9_dueAnew_47
  · refine kj_aloadn hC 0 dX9_dueAnew_16 rfl rfl ?_
    refine kj_gN (ci := 9) (k := 4) hC dX9_dueAnew_17 kf_X9_36 rfl (fun a1 => ?_)
    refine kj_iloadn hC 3 dX9_dueAnew_20 rfl rfl ?_
    refine kj_gAN (c := 25) hC dX9_dueAnew_21 rfl ⟨rfl, rfl⟩ (fun a2 => ?_)
    refine kj_astore (L' := [(4, .inr (.inr (some a2))), (0, .inr (.inr (some v0))), (1, .inl v1), (2, .inl v2), (3, .inl v3)]) hC dX9_dueAnew_22 (by decide) rfl ?_
    refine kj_iloadn hC 3 dX9_dueAnew_24 rfl rfl ?_
    refine kj_aloadn hC 1 dX9_dueAnew_25 rfl rfl ?_
    refine kj_aload hC 0 dX9_dueAnew_26 rfl ?_
    refine kj_aloadn hC 1 dX9_dueAnew_28 rfl rfl ?_
    refine kj_aload hC 0 dX9_dueAnew_29 rfl ?_
    refine kj_invV (ci := 9) (q := (RX9, TX9, 17)) (as := [.inr (.inr (some a2))]) (rest := [.inr (.inr (some a2)), .inr (.inr (some v0)), .inl v2]) hC hT dX9_dueAnew_31 kw802 ky_X9_joinAnew ky2_X9_joinAnew rfl rfl (t_X9_joinAnew v0 a2 h) rfl rfl (Nat.le_of_ble_eq_true rfl) ⟨by rw [hD]; decide, by decide⟩ ⟨by rw [hmc]; exact Nat.le_of_ble_eq_true rfl, by rw [hms]; exact Nat.le_of_ble_eq_true rfl⟩ (fun a3 h1 => ?_)
    refine kj_norm (st' := [.inr (.inr (some a3)), .inr (.inr (some a2)), .inr (.inr (some v0)), .inl v2]) (c' := 1) (z' := 6) rfl rfl rfl ?_
    refine kj_iloadn hC 2 dX9_dueAnew_34 rfl rfl ?_
    refine kj_invV (ci := 9) (q := (RX9, TX9, 17)) (as := [.inr (.inr (some a2)), .inr (.inr (some a3)), .inl v1]) (rest := [.inl v2]) hC hT dX9_dueAnew_35 kw794 ky_X9_dueFor ky2_X9_dueFor rfl rfl (t_X9_dueFor v0 a2 a3 v1 h1) rfl rfl (Nat.le_of_ble_eq_true rfl) ⟨by rw [hD]; decide, by decide⟩ ⟨by rw [hmc]; exact Nat.le_of_ble_eq_true rfl, by rw [hms]; exact Nat.le_of_ble_eq_true rfl⟩ (fun x2 h2 => ?_)
    refine kj_norm (st' := [.inl x2, .inl v2]) (c' := 1) (z' := 6) rfl rfl rfl ?_
    refine kj_iadd hC dX9_dueAnew_38 ?_
    refine kj_istoren (L' := [(2, .inl (v2 + x2)), (4, .inr (.inr (some a2))), (0, .inr (.inr (some v0))), (1, .inl v1), (3, .inl v3)]) hC dX9_dueAnew_39 rfl (by decide) rfl ?_
    refine kj_iinc (v := v3 + 1) (L' := [(3, .inl (v3 + 1)), (2, .inl (v2 + x2)), (4, .inr (.inr (some a2))), (0, .inr (.inr (some v0))), (1, .inl v1)]) hC 4 dX9_dueAnew_40 rfl rfl (by decide) rfl ?_
    refine kj_goto (tgt := 8) hC dX9_dueAnew_43 (by decide) ?_
    exact kj_sub [3, 4, 1, 0] rfl (hr8 v0 v1 (v2 + x2) (v3 + 1) h2)
set_option maxHeartbeats 4000000 in
set_option maxRecDepth 100000 in
theorem t_X9_dueAnew_L8 {X : KX} (hC : kC X RX9 cX9_dueAnew 5 (some .int)) (hN : (xme X).name = yX9_dueAnew.name) (hT : kT0 X) (hmc : xmc X = 1) (hms : xms X = 6) (hD : xD X = 7) : ∀ (n : Nat) (v0 : Nat) (v1 : Int32) (v2 : Int32) (v3 : Int32) (h : KH), kJ X (fun x : Int32 => some (.inl x)) 5 1 6 [(0, .inr (.inr (some v0))), (1, .inl v1), (2, .inl v2), (3, .inl v3)] [] 8 h (X9_dueAnew_L8  n v0 v1 v2 v3 h) := by
  intro n
  induction n with
  | zero => intro v0 v1 v2 v3 h; exact kj_none
  | succ n ih => intro v0 v1 v2 v3 h; exact t_X9_dueAnew_b8 hC hN hT hmc hms hD (X9_dueAnew_L8  n) ih v0 v1 v2 v3 h
set_option maxHeartbeats 4000000 in
set_option maxRecDepth 100000 in
theorem t_X9_dueAnew (p0 : Nat) (p1 : Int32) (h : KH) : kM yX9_dueAnew cX9_dueAnew 5 (some .int) 7 1 6 (fun x : Int32 => some (.inl x)) [.inr (.inr (some p0)), .inl p1] h (f_X9_dueAnew p0 p1 h) := by
  refine kM_of RX9 (by decide) rfl (Nat.le_of_ble_eq_true rfl) [(0, .inr (.inr (some p0))), (1, .inl p1)] rfl (fun X hC hN hT hmc hms hD => ?_)
  unfold f_X9_dueAnew
  refine kj_iloadn hC 1 dX9_dueAnew_0 rfl rfl ?_
  refine kj_invS (as := [.inl p1]) (rest := []) hC hT dX9_dueAnew_1 kw338 ky_X9_requireDriver ky2_X9_requireDriver (t_X9_requireDriver p1 h) rfl rfl (Nat.le_of_ble_eq_true rfl) ⟨by rw [hD]; decide, by decide⟩ ⟨by rw [hmc]; exact Nat.le_of_ble_eq_true rfl, by rw [hms]; exact Nat.le_of_ble_eq_true rfl⟩ (fun _ h1 => ?_)
  refine kj_norm (st' := []) (c' := 1) (z' := 6) rfl rfl rfl ?_
  refine kj_iconst (v := 0) hC dX9_dueAnew_4 (by decide) ?_
  refine kj_istoren (L' := [(2, .inl 0), (0, .inr (.inr (some p0))), (1, .inl p1)]) hC dX9_dueAnew_5 rfl (by decide) rfl ?_
  refine kj_iconst (v := 0) hC dX9_dueAnew_6 (by decide) ?_
  refine kj_istoren (L' := [(3, .inl 0), (2, .inl 0), (0, .inr (.inr (some p0))), (1, .inl p1)]) hC dX9_dueAnew_7 rfl (by decide) rfl ?_
  exact kj_sub [2, 3, 1, 0] rfl (t_X9_dueAnew_L8 hC hN hT hmc hms hD  kF p0 p1 0 0 h1)
set_option maxHeartbeats 4000000 in
set_option maxRecDepth 100000 in
theorem t_X9_settle_b69 {X : KX} (hC : kC X RX9 cX9_settle 6 (some .int)) (hN : (xme X).name = yX9_settle.name) (hT : kT0 X) (hmc : xmc X = 0) (hms : xms X = 0) (hD : xD X = 5) (rc4 : Nat → Int64 → Int32 → KH → KO Int32) (hr4 : ∀ (v0 : Nat) (v1 : Int64) (v3 : Int32) (h : KH), kJ X (fun x : Int32 => some (.inl x)) 6 0 0 [(0, .inr (.inr (some v0))), (1, .inr (.inl (v1))), (3, .inl v3)] [] 4 h (rc4 v0 v1 v3 h)) (v0 : Nat) (v1 : Int64) (v3 : Int32) (h : KH) : kJ X (fun x : Int32 => some (.inl x)) 6 0 0 [(0, .inr (.inr (some v0))), (1, .inr (.inl (v1))), (3, .inl v3)] [] 69 h (X9_settle_b69 rc4 v0 v1 v3 h) := by
  unfold X9_settle_b69
  refine kj_iinc (v := v3 + 1) (L' := [(3, .inl (v3 + 1)), (0, .inr (.inr (some v0))), (1, .inr (.inl (v1)))]) hC 2 dX9_settle_69 rfl rfl (by decide) rfl ?_
  refine kj_goto (tgt := 4) hC dX9_settle_72 (by decide) ?_
  exact kj_sub [1, 2, 0] rfl (hr4 v0 v1 (v3 + 1) h)
set_option maxHeartbeats 4000000 in
set_option maxRecDepth 100000 in
theorem t_X9_settle_b4 {X : KX} (hC : kC X RX9 cX9_settle 6 (some .int)) (hN : (xme X).name = yX9_settle.name) (hT : kT0 X) (hmc : xmc X = 0) (hms : xms X = 0) (hD : xD X = 5) (rc4 : Nat → Int64 → Int32 → KH → KO Int32) (hr4 : ∀ (v0 : Nat) (v1 : Int64) (v3 : Int32) (h : KH), kJ X (fun x : Int32 => some (.inl x)) 6 0 0 [(0, .inr (.inr (some v0))), (1, .inr (.inl (v1))), (3, .inl v3)] [] 4 h (rc4 v0 v1 v3 h)) (v0 : Nat) (v1 : Int64) (v3 : Int32) (h : KH) : kJ X (fun x : Int32 => some (.inl x)) 6 0 0 [(0, .inr (.inr (some v0))), (1, .inr (.inl (v1))), (3, .inl v3)] [] 4 h (X9_settle_b4 rc4 v0 v1 v3 h) := by
  unfold X9_settle_b4
  refine kj_iloadn hC 2 dX9_settle_4 rfl rfl ?_
  refine kj_bipush (v := 6) hC dX9_settle_5 (by decide) ?_
  refine kj_icmp_ge (tgt := 75) hC dX9_settle_7 (by decide) (fun q1 => ?_) (fun q1 => ?_)
  · refine kj_lloadn hC 1 dX9_settle_75 rfl rfl ?_
    refine kj_l2i hC dX9_settle_76 ?_
    refine kj_fin hmc hms ?_
    exact kj_ireturn hC dX9_settle_77
  · refine kj_aloadn hC 0 dX9_settle_10 rfl rfl ?_
    refine kj_iloadn hC 2 dX9_settle_11 rfl rfl ?_
    refine kj_invV (ci := 9) (q := (RX9, TX9, 17)) (as := [.inl v3]) (rest := []) hC hT dX9_settle_12 kw790 ky_X9_dueByKept ky2_X9_dueByKept rfl rfl (t_X9_dueByKept v0 v3 h) rfl rfl (Nat.le_of_ble_eq_true rfl) ⟨by rw [hD]; decide, by decide⟩ ⟨by rw [hmc]; exact Nat.le_of_ble_eq_true rfl, by rw [hms]; exact Nat.le_of_ble_eq_true rfl⟩ (fun x1 h1 => ?_)
    refine kj_norm (st' := [.inl x1]) (c' := 0) (z' := 0) rfl rfl rfl ?_
    refine kj_i2l hC dX9_settle_15 ?_
    refine kj_aloadn hC 0 dX9_settle_16 rfl rfl ?_
    refine kj_gN (ci := 9) (k := 9) hC dX9_settle_17 kf_X9_61 rfl (fun a1 => ?_)
    refine kj_iloadn hC 2 dX9_settle_20 rfl rfl ?_
    refine kj_gAL hC dX9_settle_21 (fun x2 => ?_)
    refine kj_aloadn hC 0 dX9_settle_22 rfl rfl ?_
    refine kj_gN (ci := 9) (k := 10) hC dX9_settle_23 kf_X9_65 rfl (fun a2 => ?_)
    refine kj_iloadn hC 2 dX9_settle_26 rfl rfl ?_
    refine kj_gAL hC dX9_settle_27 (fun x3 => ?_)
    refine kj_lsub hC dX9_settle_28 ?_
    refine kj_lsub hC dX9_settle_29 ?_
    refine kj_lstore (L' := [(4, .inr (.inl ((x1.toInt64) - (x2 - x3)))), (0, .inr (.inr (some v0))), (1, .inr (.inl (v1))), (3, .inl v3)]) hC dX9_settle_30 (by decide) rfl ?_
    refine kj_lload hC 0 dX9_settle_32 rfl ?_
    refine kj_lconst (v := 0) hC dX9_settle_34 (by decide) ?_
    refine kj_lcmp hC dX9_settle_35 ?_
    refine kj_if_lt (tgt := 53) hC dX9_settle_36 (by decide) (fun q2 => ?_) (fun q2 => ?_)
    · refine kj_aloadn hC 1 dX9_settle_53 rfl rfl ?_
      refine kj_gN (ci := 9) (k := 10) hC dX9_settle_54 kf_X9_65 rfl (fun a3 => ?_)
      refine kj_iloadn hC 3 dX9_settle_57 rfl rfl ?_
      refine kj_dup2 hC dX9_settle_58 rfl rfl ?_
      refine kj_gAL hC dX9_settle_59 (fun x4 => ?_)
      refine kj_lload hC 0 dX9_settle_60 rfl ?_
      refine kj_lsub hC dX9_settle_62 ?_
      refine kj_pAL hC dX9_settle_63 (fun h2 => ?_)
      refine kj_lloadn hC 2 dX9_settle_64 rfl rfl ?_
      refine kj_lload hC 0 dX9_settle_65 rfl ?_
      refine kj_lsub hC dX9_settle_67 ?_
      refine kj_lstoren (L' := [(1, .inr (.inl (v1 - ((x1.toInt64) - (x2 - x3))))), (4, .inr (.inl ((x1.toInt64) - (x2 - x3)))), (0, .inr (.inr (some v0))), (3, .inl v3)]) hC dX9_settle_68 rfl (by decide) rfl ?_
      exact kj_sub [2, 0, 3] rfl (t_X9_settle_b69 hC hN hT hmc hms hD rc4 hr4 v0 (v1 - ((x1.toInt64) - (x2 - x3))) v3 h2)
    · refine kj_aloadn hC 1 dX9_settle_39 rfl rfl ?_
      refine kj_gN (ci := 9) (k := 9) hC dX9_settle_40 kf_X9_61 rfl (fun a4 => ?_)
      refine kj_iloadn hC 3 dX9_settle_43 rfl rfl ?_
      refine kj_dup2 hC dX9_settle_44 rfl rfl ?_
      refine kj_gAL hC dX9_settle_45 (fun x5 => ?_)
      refine kj_lload hC 0 dX9_settle_46 rfl ?_
      refine kj_ladd hC dX9_settle_48 ?_
      refine kj_pAL hC dX9_settle_49 (fun h3 => ?_)
      refine kj_goto (tgt := 69) hC dX9_settle_50 (by decide) ?_
      exact kj_sub [1, 2, 3] rfl (t_X9_settle_b69 hC hN hT hmc hms hD rc4 hr4 v0 v1 v3 h3)
set_option maxHeartbeats 4000000 in
set_option maxRecDepth 100000 in
theorem t_X9_settle_L4 {X : KX} (hC : kC X RX9 cX9_settle 6 (some .int)) (hN : (xme X).name = yX9_settle.name) (hT : kT0 X) (hmc : xmc X = 0) (hms : xms X = 0) (hD : xD X = 5) : ∀ (n : Nat) (v0 : Nat) (v1 : Int64) (v3 : Int32) (h : KH), kJ X (fun x : Int32 => some (.inl x)) 6 0 0 [(0, .inr (.inr (some v0))), (1, .inr (.inl (v1))), (3, .inl v3)] [] 4 h (X9_settle_L4  n v0 v1 v3 h) := by
  intro n
  induction n with
  | zero => intro v0 v1 v3 h; exact kj_none
  | succ n ih => intro v0 v1 v3 h; exact t_X9_settle_b4 hC hN hT hmc hms hD (X9_settle_L4  n) ih v0 v1 v3 h
set_option maxHeartbeats 4000000 in
set_option maxRecDepth 100000 in
theorem t_X9_settle (p0 : Nat) (h : KH) : kM yX9_settle cX9_settle 6 (some .int) 5 0 0 (fun x : Int32 => some (.inl x)) [.inr (.inr (some p0))] h (f_X9_settle p0 h) := by
  refine kM_of RX9 (by decide) rfl (Nat.le_of_ble_eq_true rfl) [(0, .inr (.inr (some p0)))] rfl (fun X hC hN hT hmc hms hD => ?_)
  unfold f_X9_settle
  refine kj_lconst (v := 0) hC dX9_settle_0 (by decide) ?_
  refine kj_lstoren (L' := [(1, .inr (.inl (0))), (0, .inr (.inr (some p0)))]) hC dX9_settle_1 rfl (by decide) rfl ?_
  refine kj_iconst (v := 0) hC dX9_settle_2 (by decide) ?_
  refine kj_istoren (L' := [(3, .inl 0), (1, .inr (.inl (0))), (0, .inr (.inr (some p0)))]) hC dX9_settle_3 rfl (by decide) rfl ?_
  exact kj_sub [2, 1, 0] rfl (t_X9_settle_L4 hC hN hT hmc hms hD  kF p0 0 0 h)
set_option maxHeartbeats 4000000 in
set_option maxRecDepth 100000 in
theorem t_X9_billed (p0 : Nat) (p1 : Int32) (h : KH) : kM yX9_billed cX9_billed 2 (some .long) 7 1 6 (fun x : Int64 => some (.inr (.inl x))) [.inr (.inr (some p0)), .inl p1] h (f_X9_billed p0 p1 h) := by
  refine kM_of RX9 (by decide) rfl (Nat.le_of_ble_eq_true rfl) [(0, .inr (.inr (some p0))), (1, .inl p1)] rfl (fun X hC hN hT hmc hms hD => ?_)
  unfold f_X9_billed
  refine kj_iloadn hC 1 dX9_billed_0 rfl rfl ?_
  refine kj_invS (as := [.inl p1]) (rest := []) hC hT dX9_billed_1 kw338 ky_X9_requireDriver ky2_X9_requireDriver (t_X9_requireDriver p1 h) rfl rfl (Nat.le_of_ble_eq_true rfl) ⟨by rw [hD]; decide, by decide⟩ ⟨by rw [hmc]; exact Nat.le_of_ble_eq_true rfl, by rw [hms]; exact Nat.le_of_ble_eq_true rfl⟩ (fun _ h1 => ?_)
  refine kj_norm (st' := []) (c' := 1) (z' := 6) rfl rfl rfl ?_
  refine kj_aloadn hC 0 dX9_billed_4 rfl rfl ?_
  refine kj_gN (ci := 9) (k := 9) hC dX9_billed_5 kf_X9_61 rfl (fun a1 => ?_)
  refine kj_iloadn hC 1 dX9_billed_8 rfl rfl ?_
  refine kj_gAL hC dX9_billed_9 (fun x1 => ?_)
  refine kj_fin hmc hms ?_
  exact kj_lreturn hC dX9_billed_10
set_option maxHeartbeats 4000000 in
set_option maxRecDepth 100000 in
theorem t_X9_paidBack (p0 : Nat) (p1 : Int32) (h : KH) : kM yX9_paidBack cX9_paidBack 2 (some .long) 7 1 6 (fun x : Int64 => some (.inr (.inl x))) [.inr (.inr (some p0)), .inl p1] h (f_X9_paidBack p0 p1 h) := by
  refine kM_of RX9 (by decide) rfl (Nat.le_of_ble_eq_true rfl) [(0, .inr (.inr (some p0))), (1, .inl p1)] rfl (fun X hC hN hT hmc hms hD => ?_)
  unfold f_X9_paidBack
  refine kj_iloadn hC 1 dX9_paidBack_0 rfl rfl ?_
  refine kj_invS (as := [.inl p1]) (rest := []) hC hT dX9_paidBack_1 kw338 ky_X9_requireDriver ky2_X9_requireDriver (t_X9_requireDriver p1 h) rfl rfl (Nat.le_of_ble_eq_true rfl) ⟨by rw [hD]; decide, by decide⟩ ⟨by rw [hmc]; exact Nat.le_of_ble_eq_true rfl, by rw [hms]; exact Nat.le_of_ble_eq_true rfl⟩ (fun _ h1 => ?_)
  refine kj_norm (st' := []) (c' := 1) (z' := 6) rfl rfl rfl ?_
  refine kj_aloadn hC 0 dX9_paidBack_4 rfl rfl ?_
  refine kj_gN (ci := 9) (k := 10) hC dX9_paidBack_5 kf_X9_65 rfl (fun a1 => ?_)
  refine kj_iloadn hC 1 dX9_paidBack_8 rfl rfl ?_
  refine kj_gAL hC dX9_paidBack_9 (fun x1 => ?_)
  refine kj_fin hmc hms ?_
  exact kj_lreturn hC dX9_paidBack_10
