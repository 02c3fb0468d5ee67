set_option maxHeartbeats 4000000 in
set_option maxRecDepth 100000 in
theorem t_zX9_pass (p0 : Nat) (p1 : Int32) (h : KH) : kM yX9_pass cX9_pass 2 (some .int) 1 0 0 (fun x : Int32 => some (.inl x)) [.inr (.inr (some p0)), .inl p1] h (f_zX9_pass p0 p1 h) := by
  refine kM_of RX9 (by decide) rfl (Nat.le_of_ble_eq_true rfl) [(0, .inr (.inr (some p0))), (1, .inl p1)] rfl (fun X hC hN hT hmc hms hD => ?_)
  unfold f_zX9_pass
  refine kj_iloadn hC 1 dX9_pass_0 rfl rfl ?_
  refine kj_iconst (v := 1) hC dX9_pass_1 (by decide) ?_
  refine kj_sipush (v := 2000) hC dX9_pass_2 (by decide) ?_
  refine kj_invS (as := [.inl p1, .inl 1, .inl 2000]) (rest := []) hC hT dX9_pass_5 kw228 ky_X9_isWithin ky2_X9_isWithin (t_X9_isWithin p1 1 2000 h) rfl rfl (Nat.le_of_ble_eq_true rfl) ⟨by rw [hD]; decide, by decide⟩ ⟨by rw [hmc]; exact Nat.le_of_ble_eq_true rfl, by rw [hms]; exact Nat.le_of_ble_eq_true rfl⟩ (fun x1 h1 => ?_)
  refine kj_norm (st' := [.inl x1]) (c' := 0) (z' := 0) rfl rfl rfl ?_
  refine kj_if_ne (tgt := 21) hC dX9_pass_8 (by decide) (fun q1 => ?_) (fun q1 => ?_)
  · exact kj_none
  · refine kj_aloadn hC 0 dX9_pass_21 rfl rfl ?_
    refine kj_gI (ci := 9) (k := 12) hC dX9_pass_22 kf_X9_75 rfl (fun x2 => ?_)
    refine kj_iloadn hC 1 dX9_pass_25 rfl rfl ?_
    refine kj_iadd hC dX9_pass_26 ?_
    refine kj_ldc (v := 50000) hC dX9_pass_27 kw666 ?_
    refine kj_icmp_le (tgt := 42) hC dX9_pass_29 (by decide) (fun q2 => ?_) (fun q2 => ?_)
    · refine kj_aloadn hC 0 dX9_pass_42 rfl rfl ?_
      refine kj_dup hC dX9_pass_43 rfl ?_
      refine kj_gI (ci := 9) (k := 12) hC dX9_pass_44 kf_X9_75 rfl (fun x3 => ?_)
      refine kj_iloadn hC 1 dX9_pass_47 rfl rfl ?_
      refine kj_iadd hC dX9_pass_48 ?_
      refine kj_pI (ci := 9) (k := 12) hC dX9_pass_49 kf_X9_75 (Or.inl (kNF_of (by decide))) rfl ⟨rfl, rfl⟩ (fun h2 => ?_)
      refine kj_aloadn hC 0 dX9_pass_52 rfl rfl ?_
      refine kj_gI (ci := 9) (k := 12) hC dX9_pass_53 kf_X9_75 rfl (fun x4 => ?_)
      refine kj_fin hmc hms ?_
      exact kj_ireturn hC dX9_pass_56
    · exact kj_none
set_option maxHeartbeats 4000000 in
set_option maxRecDepth 100000 in
theorem t_zX9_requireGate (p0 : Int32) (h : KH) : kM yX9_requireGate cX9_requireGate 1 none 1 0 0 (fun _ : Unit => none) [.inl p0] h (f_zX9_requireGate p0 h) := by
  refine kM_of RX9 (by decide) rfl (Nat.le_of_ble_eq_true rfl) [(0, .inl p0)] rfl (fun X hC hN hT hmc hms hD => ?_)
  unfold f_zX9_requireGate
  refine kj_iloadn hC 0 dX9_requireGate_0 rfl rfl ?_
  refine kj_iconst (v := 0) hC dX9_requireGate_1 (by decide) ?_
  refine kj_bipush (v := 7) hC dX9_requireGate_2 (by decide) ?_
  refine kj_invS (as := [.inl p0, .inl 0, .inl 7]) (rest := []) hC hT dX9_requireGate_4 kw228 ky_X9_isWithin ky2_X9_isWithin (t_X9_isWithin p0 0 7 h) rfl rfl (Nat.le_of_ble_eq_true rfl) ⟨by rw [hD]; decide, by decide⟩ ⟨by rw [hmc]; exact Nat.le_of_ble_eq_true rfl, by rw [hms]; exact Nat.le_of_ble_eq_true rfl⟩ (fun x1 h1 => ?_)
  refine kj_norm (st' := [.inl x1]) (c' := 0) (z' := 0) rfl rfl rfl ?_
  refine kj_if_ne (tgt := 21) hC dX9_requireGate_7 (by decide) (fun q1 => ?_) (fun q1 => ?_)
  · exact kj_none
  · refine kj_fin hmc hms ?_
    exact kj_return hC dX9_requireGate_21
set_option maxHeartbeats 4000000 in
set_option maxRecDepth 100000 in
theorem t_zX9_road_b24 {X : KX} (hC : kC X RX9 cX9_road 5 (some .int)) (hN : (xme X).name = yX9_road.name) (hT : kT0 X) (hmc : xmc X = 0) (hms : xms X = 0) (hD : xD X = 5)  (h : KH) : kJ X (fun x : Int32 => some (.inl x)) 5 0 0 [] [] 24 h (zX9_road_b24   h) := by
  unfold zX9_road_b24
  exact kj_none
set_option maxHeartbeats 4000000 in
set_option maxRecDepth 100000 in
theorem t_zX9_road (p0 : Nat) (p1 : Int32) (p2 : Int32) (p3 : Int32) (h : KH) : kM yX9_road cX9_road 5 (some .int) 5 0 0 (fun x : Int32 => some (.inl x)) [.inr (.inr (some p0)), .inl p1, .inl p2, .inl p3] h (f_zX9_road p0 p1 p2 p3 h) := by
  refine kM_of RX9 (by decide) rfl (Nat.le_of_ble_eq_true rfl) [(0, .inr (.inr (some p0))), (1, .inl p1), (2, .inl p2), (3, .inl p3)] rfl (fun X hC hN hT hmc hms hD => ?_)
  unfold f_zX9_road
  refine kj_iloadn hC 1 dX9_road_0 rfl rfl ?_
  refine kj_invS (as := [.inl p1]) (rest := []) hC hT dX9_road_1 kw502 ky_X9_requireGate ky2_X9_requireGate (t_zX9_requireGate p1 h) rfl rfl (Nat.le_of_ble_eq_true rfl) ⟨by rw [hD]; decide, by decide⟩ ⟨by rw [hmc]; exact Nat.le_of_ble_eq_true rfl, by rw [hms]; exact Nat.le_of_ble_eq_true rfl⟩ (fun _ h1 => ?_)
  refine kj_norm (st' := []) (c' := 0) (z' := 0) rfl rfl rfl ?_
  refine kj_iloadn hC 2 dX9_road_4 rfl rfl ?_
  refine kj_invS (as := [.inl p2]) (rest := []) hC hT dX9_road_5 kw502 ky_X9_requireGate ky2_X9_requireGate (t_zX9_requireGate p2 h1) rfl rfl (Nat.le_of_ble_eq_true rfl) ⟨by rw [hD]; decide, by decide⟩ ⟨by rw [hmc]; exact Nat.le_of_ble_eq_true rfl, by rw [hms]; exact Nat.le_of_ble_eq_true rfl⟩ (fun _ h2 => ?_)
  refine kj_norm (st' := []) (c' := 0) (z' := 0) rfl rfl rfl ?_
  refine kj_iloadn hC 1 dX9_road_8 rfl rfl ?_
  refine kj_iloadn hC 2 dX9_road_9 rfl rfl ?_
  refine kj_icmp_eq (tgt := 24) hC dX9_road_10 (by decide) (fun q1 => ?_) (fun q1 => ?_)
  · exact kj_sub [] rfl (t_zX9_road_b24 hC hN hT hmc hms hD   h2)
  · refine kj_iloadn hC 3 dX9_road_13 rfl rfl ?_
    refine kj_iconst (v := 0) hC dX9_road_14 (by decide) ?_
    refine kj_sipush (v := 200) hC dX9_road_15 (by decide) ?_
    refine kj_invS (as := [.inl p3, .inl 0, .inl 200]) (rest := []) hC hT dX9_road_18 kw228 ky_X9_isWithin ky2_X9_isWithin (t_X9_isWithin p3 0 200 h2) rfl rfl (Nat.le_of_ble_eq_true rfl) ⟨by rw [hD]; decide, by decide⟩ ⟨by rw [hmc]; exact Nat.le_of_ble_eq_true rfl, by rw [hms]; exact Nat.le_of_ble_eq_true rfl⟩ (fun x1 h3 => ?_)
    refine kj_norm (st' := [.inl x1]) (c' := 0) (z' := 0) rfl rfl rfl ?_
    refine kj_if_ne (tgt := 34) hC dX9_road_21 (by decide) (fun q2 => ?_) (fun q2 => ?_)
    · exact kj_sub [] rfl (t_zX9_road_b24 hC hN hT hmc hms hD   h3)
    · refine kj_aloadn hC 0 dX9_road_34 rfl rfl ?_
      refine kj_gN (ci := 9) (k := 0) hC dX9_road_35 kf_X9_10 rfl (fun a1 => ?_)
      refine kj_iloadn hC 1 dX9_road_38 rfl rfl ?_
      refine kj_iloadn hC 2 dX9_road_39 rfl rfl ?_
      refine kj_invV (ci := 6) (q := (RX6, TX6, 4)) (as := [.inl p1, .inl p2]) (rest := []) hC hT dX9_road_40 kw644 ky_X6_lengthOf ky2_X6_lengthOf rfl rfl (t_X6_lengthOf a1 p1 p2 h3) rfl rfl (Nat.le_of_ble_eq_true rfl) ⟨by rw [hD]; decide, by decide⟩ ⟨by rw [hmc]; exact Nat.le_of_ble_eq_true rfl, by rw [hms]; exact Nat.le_of_ble_eq_true rfl⟩ (fun x2 h4 => ?_)
      refine kj_norm (st' := [.inl x2]) (c' := 0) (z' := 0) rfl rfl rfl ?_
      refine kj_istore (L' := [(4, .inl x2), (0, .inr (.inr (some p0))), (1, .inl p1), (2, .inl p2), (3, .inl p3)]) hC dX9_road_43 (by decide) rfl ?_
      refine kj_aloadn hC 1 dX9_road_45 rfl rfl ?_
      refine kj_gN (ci := 9) (k := 0) hC dX9_road_46 kf_X9_10 rfl (fun a2 => ?_)
      refine kj_iloadn hC 2 dX9_road_49 rfl rfl ?_
      refine kj_iloadn hC 3 dX9_road_50 rfl rfl ?_
      refine kj_iloadn hC 4 dX9_road_51 rfl rfl ?_
      refine kj_invV (ci := 6) (q := (RX6, TX6, 4)) (as := [.inl p1, .inl p2, .inl p3]) (rest := []) hC hT dX9_road_52 kw648 ky_X6_build ky2_X6_build rfl rfl (t_X6_build a2 p1 p2 p3 h4) rfl rfl (Nat.le_of_ble_eq_true rfl) ⟨by rw [hD]; decide, by decide⟩ ⟨by rw [hmc]; exact Nat.le_of_ble_eq_true rfl, by rw [hms]; exact Nat.le_of_ble_eq_true rfl⟩ (fun _ h5 => ?_)
      refine kj_norm (st' := []) (c' := 0) (z' := 0) rfl rfl rfl ?_
      refine kj_aloadn hC 1 dX9_road_55 rfl rfl ?_
      refine kj_invV (ci := 9) (q := (RX9, TX9, 17)) (as := []) (rest := []) hC hT dX9_road_56 kw652 ky_X9_joinAllAgain ky2_X9_joinAllAgain rfl rfl (t_X9_joinAllAgain p0 h5) rfl rfl (Nat.le_of_ble_eq_true rfl) ⟨by rw [hD]; decide, by decide⟩ ⟨by rw [hmc]; exact Nat.le_of_ble_eq_true rfl, by rw [hms]; exact Nat.le_of_ble_eq_true rfl⟩ (fun _ h6 => ?_)
      refine kj_norm (st' := []) (c' := 0) (z' := 0) rfl rfl rfl ?_
      refine kj_iload hC 0 dX9_road_59 rfl ?_
      refine kj_fin hmc hms ?_
      exact kj_ireturn hC dX9_road_61
set_option maxHeartbeats 4000000 in
set_option maxRecDepth 100000 in
theorem t_zX9_distance (p0 : Nat) (p1 : Int32) (p2 : Int32) (h : KH) : kM yX9_distance cX9_distance 3 (some .int) 2 0 0 (fun x : Int32 => some (.inl x)) [.inr (.inr (some p0)), .inl p1, .inl p2] h (f_zX9_distance p0 p1 p2 h) := by
  refine kM_of RX9 (by decide) rfl (Nat.le_of_ble_eq_true rfl) [(0, .inr (.inr (some p0))), (1, .inl p1), (2, .inl p2)] rfl (fun X hC hN hT hmc hms hD => ?_)
  unfold f_zX9_distance
  refine kj_iloadn hC 1 dX9_distance_0 rfl rfl ?_
  refine kj_invS (as := [.inl p1]) (rest := []) hC hT dX9_distance_1 kw502 ky_X9_requireGate ky2_X9_requireGate (t_zX9_requireGate p1 h) rfl rfl (Nat.le_of_ble_eq_true rfl) ⟨by rw [hD]; decide, by decide⟩ ⟨by rw [hmc]; exact Nat.le_of_ble_eq_true rfl, by rw [hms]; exact Nat.le_of_ble_eq_true rfl⟩ (fun _ h1 => ?_)
  refine kj_norm (st' := []) (c' := 0) (z' := 0) rfl rfl rfl ?_
  refine kj_iloadn hC 2 dX9_distance_4 rfl rfl ?_
  refine kj_invS (as := [.inl p2]) (rest := []) hC hT dX9_distance_5 kw502 ky_X9_requireGate ky2_X9_requireGate (t_zX9_requireGate p2 h1) rfl rfl (Nat.le_of_ble_eq_true rfl) ⟨by rw [hD]; decide, by decide⟩ ⟨by rw [hmc]; exact Nat.le_of_ble_eq_true rfl, by rw [hms]; exact Nat.le_of_ble_eq_true rfl⟩ (fun _ h2 => ?_)
  refine kj_norm (st' := []) (c' := 0) (z' := 0) rfl rfl rfl ?_
  refine kj_aloadn hC 0 dX9_distance_8 rfl rfl ?_
  refine kj_gN (ci := 9) (k := 0) hC dX9_distance_9 kf_X9_10 rfl (fun a1 => ?_)
  refine kj_iloadn hC 1 dX9_distance_12 rfl rfl ?_
  refine kj_iloadn hC 2 dX9_distance_13 rfl rfl ?_
  refine kj_invV (ci := 6) (q := (RX6, TX6, 4)) (as := [.inl p1, .inl p2]) (rest := []) hC hT dX9_distance_14 kw733 ky_X6_between ky2_X6_between rfl rfl (t_X6_between a1 p1 p2 h2) rfl rfl (Nat.le_of_ble_eq_true rfl) ⟨by rw [hD]; decide, by decide⟩ ⟨by rw [hmc]; exact Nat.le_of_ble_eq_true rfl, by rw [hms]; exact Nat.le_of_ble_eq_true rfl⟩ (fun x1 h3 => ?_)
  refine kj_norm (st' := [.inl x1]) (c' := 0) (z' := 0) rfl rfl rfl ?_
  refine kj_fin hmc hms ?_
  exact kj_ireturn hC dX9_distance_17
set_option maxHeartbeats 4000000 in
set_option maxRecDepth 100000 in
theorem t_zX9_setPause (p0 : Nat) (p1 : Int32) (h : KH) : kM yX9_setPause cX9_setPause 3 (some .int) 5 0 0 (fun x : Int32 => some (.inl x)) [.inr (.inr (some p0)), .inl p1] h (f_zX9_setPause p0 p1 h) := by
  refine kM_of RX9 (by decide) rfl (Nat.le_of_ble_eq_true rfl) [(0, .inr (.inr (some p0))), (1, .inl p1)] rfl (fun X hC hN hT hmc hms hD => ?_)
  unfold f_zX9_setPause
  refine kj_iloadn hC 1 dX9_setPause_0 rfl rfl ?_
  refine kj_iconst (v := 0) hC dX9_setPause_1 (by decide) ?_
  refine kj_sipush (v := 500) hC dX9_setPause_2 (by decide) ?_
  refine kj_invS (as := [.inl p1, .inl 0, .inl 500]) (rest := []) hC hT dX9_setPause_5 kw228 ky_X9_isWithin ky2_X9_isWithin (t_X9_isWithin p1 0 500 h) rfl rfl (Nat.le_of_ble_eq_true rfl) ⟨by rw [hD]; decide, by decide⟩ ⟨by rw [hmc]; exact Nat.le_of_ble_eq_true rfl, by rw [hms]; exact Nat.le_of_ble_eq_true rfl⟩ (fun x1 h1 => ?_)
  refine kj_norm (st' := [.inl x1]) (c' := 0) (z' := 0) rfl rfl rfl ?_
  refine kj_if_ne (tgt := 21) hC dX9_setPause_8 (by decide) (fun q1 => ?_) (fun q1 => ?_)
  · exact kj_none
  · refine kj_aloadn hC 0 dX9_setPause_21 rfl rfl ?_
    refine kj_gN (ci := 9) (k := 0) hC dX9_setPause_22 kf_X9_10 rfl (fun a1 => ?_)
    refine kj_gI (ci := 6) (k := 3) hC dX9_setPause_25 kf_X9_130 rfl (fun x2 => ?_)
    refine kj_istoren (L' := [(2, .inl x2), (0, .inr (.inr (some p0))), (1, .inl p1)]) hC dX9_setPause_28 rfl (by decide) rfl ?_
    refine kj_aloadn hC 1 dX9_setPause_29 rfl rfl ?_
    refine kj_gN (ci := 9) (k := 0) hC dX9_setPause_30 kf_X9_10 rfl (fun a2 => ?_)
    refine kj_iloadn hC 2 dX9_setPause_33 rfl rfl ?_
    refine kj_pI (ci := 6) (k := 3) hC dX9_setPause_34 kf_X9_130 (Or.inl (kNF_of (by decide))) rfl ⟨rfl, rfl⟩ (fun h2 => ?_)
    refine kj_aloadn hC 1 dX9_setPause_37 rfl rfl ?_
    refine kj_invV (ci := 9) (q := (RX9, TX9, 17)) (as := []) (rest := []) hC hT dX9_setPause_38 kw652 ky_X9_joinAllAgain ky2_X9_joinAllAgain rfl rfl (t_X9_joinAllAgain p0 h2) rfl rfl (Nat.le_of_ble_eq_true rfl) ⟨by rw [hD]; decide, by decide⟩ ⟨by rw [hmc]; exact Nat.le_of_ble_eq_true rfl, by rw [hms]; exact Nat.le_of_ble_eq_true rfl⟩ (fun _ h3 => ?_)
    refine kj_norm (st' := []) (c' := 0) (z' := 0) rfl rfl rfl ?_
    refine kj_iloadn hC 0 dX9_setPause_41 rfl rfl ?_
    refine kj_fin hmc hms ?_
    exact kj_ireturn hC dX9_setPause_42
set_option maxHeartbeats 4000000 in
set_option maxRecDepth 100000 in
theorem t_zX9_requireClass (p0 : Int32) (h : KH) : kM yX9_requireClass cX9_requireClass 1 none 1 0 0 (fun _ : Unit => none) [.inl p0] h (f_zX9_requireClass p0 h) := by
  refine kM_of RX9 (by decide) rfl (Nat.le_of_ble_eq_true rfl) [(0, .inl p0)] rfl (fun X hC hN hT hmc hms hD => ?_)
  unfold f_zX9_requireClass
  refine kj_iloadn hC 0 dX9_requireClass_0 rfl rfl ?_
  refine kj_iconst (v := 0) hC dX9_requireClass_1 (by decide) ?_
  refine kj_iconst (v := 3) hC dX9_requireClass_2 (by decide) ?_
  refine kj_invS (as := [.inl p0, .inl 0, .inl 3]) (rest := []) hC hT dX9_requireClass_3 kw228 ky_X9_isWithin ky2_X9_isWithin (t_X9_isWithin p0 0 3 h) rfl rfl (Nat.le_of_ble_eq_true rfl) ⟨by rw [hD]; decide, by decide⟩ ⟨by rw [hmc]; exact Nat.le_of_ble_eq_true rfl, by rw [hms]; exact Nat.le_of_ble_eq_true rfl⟩ (fun x1 h1 => ?_)
  refine kj_norm (st' := [.inl x1]) (c' := 0) (z' := 0) rfl rfl rfl ?_
  refine kj_if_ne (tgt := 20) hC dX9_requireClass_6 (by decide) (fun q1 => ?_) (fun q1 => ?_)
  · exact kj_none
  · refine kj_fin hmc hms ?_
    exact kj_return hC dX9_requireClass_20
set_option maxHeartbeats 4000000 in
set_option maxRecDepth 100000 in
theorem t_zX9_setRate (p0 : Nat) (p1 : Int32) (p2 : Int32) (h : KH) : kM yX9_setRate cX9_setRate 4 (some .int) 2 0 0 (fun x : Int32 => some (.inl x)) [.inr (.inr (some p0)), .inl p1, .inl p2] h (f_zX9_setRate p0 p1 p2 h) := by
  refine kM_of RX9 (by decide) rfl (Nat.le_of_ble_eq_true rfl) [(0, .inr (.inr (some p0))), (1, .inl p1), (2, .inl p2)] rfl (fun X hC hN hT hmc hms hD => ?_)
  unfold f_zX9_setRate
  refine kj_iloadn hC 1 dX9_setRate_0 rfl rfl ?_
  refine kj_invS (as := [.inl p1]) (rest := []) hC hT dX9_setRate_1 kw342 ky_X9_requireClass ky2_X9_requireClass (t_zX9_requireClass p1 h) rfl rfl (Nat.le_of_ble_eq_true rfl) ⟨by rw [hD]; decide, by decide⟩ ⟨by rw [hmc]; exact Nat.le_of_ble_eq_true rfl, by rw [hms]; exact Nat.le_of_ble_eq_true rfl⟩ (fun _ h1 => ?_)
  refine kj_norm (st' := []) (c' := 0) (z' := 0) rfl rfl rfl ?_
  refine kj_iloadn hC 2 dX9_setRate_4 rfl rfl ?_
  refine kj_iconst (v := 0) hC dX9_setRate_5 (by decide) ?_
  refine kj_bipush (v := 50) hC dX9_setRate_6 (by decide) ?_
  refine kj_invS (as := [.inl p2, .inl 0, .inl 50]) (rest := []) hC hT dX9_setRate_8 kw228 ky_X9_isWithin ky2_X9_isWithin (t_X9_isWithin p2 0 50 h1) rfl rfl (Nat.le_of_ble_eq_true rfl) ⟨by rw [hD]; decide, by decide⟩ ⟨by rw [hmc]; exact Nat.le_of_ble_eq_true rfl, by rw [hms]; exact Nat.le_of_ble_eq_true rfl⟩ (fun x1 h2 => ?_)
  refine kj_norm (st' := [.inl x1]) (c' := 0) (z' := 0) rfl rfl rfl ?_
  refine kj_if_ne (tgt := 24) hC dX9_setRate_11 (by decide) (fun q1 => ?_) (fun q1 => ?_)
  · exact kj_none
  · refine kj_aloadn hC 0 dX9_setRate_24 rfl rfl ?_
    refine kj_gN (ci := 9) (k := 1) hC dX9_setRate_25 kf_X9_16 rfl (fun a1 => ?_)
    refine kj_iloadn hC 1 dX9_setRate_28 rfl rfl ?_
    refine kj_gAI hC dX9_setRate_29 (fun x2 => ?_)
    refine kj_istoren (L' := [(3, .inl x2), (0, .inr (.inr (some p0))), (1, .inl p1), (2, .inl p2)]) hC dX9_setRate_30 rfl (by decide) rfl ?_
    refine kj_aloadn hC 1 dX9_setRate_31 rfl rfl ?_
    refine kj_gN (ci := 9) (k := 1) hC dX9_setRate_32 kf_X9_16 rfl (fun a2 => ?_)
    refine kj_iloadn hC 2 dX9_setRate_35 rfl rfl ?_
    refine kj_iloadn hC 3 dX9_setRate_36 rfl rfl ?_
    refine kj_pAI hC dX9_setRate_37 (fun h3 => ?_)
    refine kj_iloadn hC 0 dX9_setRate_38 rfl rfl ?_
    refine kj_fin hmc hms ?_
    exact kj_ireturn hC dX9_setRate_39
set_option maxHeartbeats 4000000 in
set_option maxRecDepth 100000 in
theorem t_zX9_requireSign (p0 : Int32) (h : KH) : kM yX9_requireSign cX9_requireSign 1 none 1 0 0 (fun _ : Unit => none) [.inl p0] h (f_zX9_requireSign p0 h) := by
  refine kM_of RX9 (by decide) rfl (Nat.le_of_ble_eq_true rfl) [(0, .inl p0)] rfl (fun X hC hN hT hmc hms hD => ?_)
  unfold f_zX9_requireSign
  refine kj_iloadn hC 0 dX9_requireSign_0 rfl rfl ?_
  refine kj_iconst (v := 0) hC dX9_requireSign_1 (by decide) ?_
  refine kj_bipush (v := 14) hC dX9_requireSign_2 (by decide) ?_
  refine kj_invS (as := [.inl p0, .inl 0, .inl 14]) (rest := []) hC hT dX9_requireSign_4 kw228 ky_X9_isWithin ky2_X9_isWithin (t_X9_isWithin p0 0 14 h) rfl rfl (Nat.le_of_ble_eq_true rfl) ⟨by rw [hD]; decide, by decide⟩ ⟨by rw [hmc]; exact Nat.le_of_ble_eq_true rfl, by rw [hms]; exact Nat.le_of_ble_eq_true rfl⟩ (fun x1 h1 => ?_)
  refine kj_norm (st' := [.inl x1]) (c' := 0) (z' := 0) rfl rfl rfl ?_
  refine kj_if_ne (tgt := 21) hC dX9_requireSign_7 (by decide) (fun q1 => ?_) (fun q1 => ?_)
  · exact kj_none
  · refine kj_fin hmc hms ?_
    exact kj_return hC dX9_requireSign_21
set_option maxHeartbeats 4000000 in
set_option maxRecDepth 100000 in
theorem t_zX9_requireRoomForSign (p0 : Nat) (h : KH) : kM yX9_requireRoomForSign cX9_requireRoomForSign 1 none 0 0 0 (fun _ : Unit => none) [.inr (.inr (some p0))] h (f_zX9_requireRoomForSign p0 h) := by
  refine kM_of RX9 (by decide) rfl (Nat.le_of_ble_eq_true rfl) [(0, .inr (.inr (some p0)))] rfl (fun X hC hN hT hmc hms hD => ?_)
  unfold f_zX9_requireRoomForSign
  refine kj_aloadn hC 0 dX9_requireRoomForSign_0 rfl rfl ?_
  refine kj_gN (ci := 9) (k := 2) hC dX9_requireRoomForSign_1 kf_X9_23 rfl (fun a1 => ?_)
  refine kj_gI (ci := 7) (k := 1) hC dX9_requireRoomForSign_4 kf_X9_144 rfl (fun x1 => ?_)
  refine kj_bipush (v := 6) hC dX9_requireRoomForSign_7 (by decide) ?_
  refine kj_icmp_lt (tgt := 23) hC dX9_requireRoomForSign_9 (by decide) (fun q1 => ?_) (fun q1 => ?_)
  · refine kj_fin hmc hms ?_
    exact kj_return hC dX9_requireRoomForSign_23
  · exact kj_none
set_option maxHeartbeats 4000000 in
set_option maxRecDepth 100000 in
theorem t_zX9_spell (p0 : Nat) (p1 : Int32) (h : KH) : kM yX9_spell cX9_spell 2 (some .int) 3 0 0 (fun x : Int32 => some (.inl x)) [.inr (.inr (some p0)), .inl p1] h (f_zX9_spell p0 p1 h) := by
  refine kM_of RX9 (by decide) rfl (Nat.le_of_ble_eq_true rfl) [(0, .inr (.inr (some p0))), (1, .inl p1)] rfl (fun X hC hN hT hmc hms hD => ?_)
  unfold f_zX9_spell
  refine kj_iloadn hC 1 dX9_spell_0 rfl rfl ?_
  refine kj_invS (as := [.inl p1]) (rest := []) hC hT dX9_spell_1 kw225 ky_X9_requireSign ky2_X9_requireSign (t_zX9_requireSign p1 h) rfl rfl (Nat.le_of_ble_eq_true rfl) ⟨by rw [hD]; decide, by decide⟩ ⟨by rw [hmc]; exact Nat.le_of_ble_eq_true rfl, by rw [hms]; exact Nat.le_of_ble_eq_true rfl⟩ (fun _ h1 => ?_)
  refine kj_norm (st' := []) (c' := 0) (z' := 0) rfl rfl rfl ?_
  refine kj_aloadn hC 0 dX9_spell_4 rfl rfl ?_
  refine kj_invV (ci := 9) (q := (RX9, TX9, 17)) (as := []) (rest := []) hC hT dX9_spell_5 kw300 ky_X9_requireRoomForSign ky2_X9_requireRoomForSign rfl rfl (t_zX9_requireRoomForSign p0 h1) rfl rfl (Nat.le_of_ble_eq_true rfl) ⟨by rw [hD]; decide, by decide⟩ ⟨by rw [hmc]; exact Nat.le_of_ble_eq_true rfl, by rw [hms]; exact Nat.le_of_ble_eq_true rfl⟩ (fun _ h2 => ?_)
  refine kj_norm (st' := []) (c' := 0) (z' := 0) rfl rfl rfl ?_
  refine kj_aloadn hC 0 dX9_spell_8 rfl rfl ?_
  refine kj_gN (ci := 9) (k := 2) hC dX9_spell_9 kf_X9_23 rfl (fun a1 => ?_)
  refine kj_iloadn hC 1 dX9_spell_12 rfl rfl ?_
  refine kj_aloadn hC 0 dX9_spell_13 rfl rfl ?_
  refine kj_gN (ci := 9) (k := 2) hC dX9_spell_14 kf_X9_23 rfl (fun a2 => ?_)
  refine kj_gI (ci := 7) (k := 1) hC dX9_spell_17 kf_X9_144 rfl (fun x1 => ?_)
  refine kj_invV (ci := 7) (q := (RX7, TX7, 2)) (as := [.inl p1, .inl x1]) (rest := []) hC hT dX9_spell_20 kw320 ky_X7_put ky2_X7_put rfl rfl (t_X7_put a1 p1 x1 h2) rfl rfl (Nat.le_of_ble_eq_true rfl) ⟨by rw [hD]; decide, by decide⟩ ⟨by rw [hmc]; exact Nat.le_of_ble_eq_true rfl, by rw [hms]; exact Nat.le_of_ble_eq_true rfl⟩ (fun _ h3 => ?_)
  refine kj_norm (st' := []) (c' := 0) (z' := 0) rfl rfl rfl ?_
  refine kj_aloadn hC 0 dX9_spell_23 rfl rfl ?_
  refine kj_gN (ci := 9) (k := 2) hC dX9_spell_24 kf_X9_23 rfl (fun a3 => ?_)
  refine kj_invV (ci := 7) (q := (RX7, TX7, 2)) (as := []) (rest := []) hC hT dX9_spell_27 kw324 ky_X7_charCount ky2_X7_charCount rfl rfl (t_X7_charCount a3 h3) rfl rfl (Nat.le_of_ble_eq_true rfl) ⟨by rw [hD]; decide, by decide⟩ ⟨by rw [hmc]; exact Nat.le_of_ble_eq_true rfl, by rw [hms]; exact Nat.le_of_ble_eq_true rfl⟩ (fun x2 h4 => ?_)
  refine kj_norm (st' := [.inl x2]) (c' := 0) (z' := 0) rfl rfl rfl ?_
  refine kj_fin hmc hms ?_
  exact kj_ireturn hC dX9_spell_30
set_option maxHeartbeats 4000000 in
set_option maxRecDepth 100000 in
theorem t_zX9_insert (p0 : Nat) (p1 : Int32) (p2 : Int32) (h : KH) : kM yX9_insert cX9_insert 3 (some .int) 3 0 0 (fun x : Int32 => some (.inl x)) [.inr (.inr (some p0)), .inl p1, .inl p2] h (f_zX9_insert p0 p1 p2 h) := by
  refine kM_of RX9 (by decide) rfl (Nat.le_of_ble_eq_true rfl) [(0, .inr (.inr (some p0))), (1, .inl p1), (2, .inl p2)] rfl (fun X hC hN hT hmc hms hD => ?_)
  unfold f_zX9_insert
  refine kj_iloadn hC 1 dX9_insert_0 rfl rfl ?_
  refine kj_invS (as := [.inl p1]) (rest := []) hC hT dX9_insert_1 kw225 ky_X9_requireSign ky2_X9_requireSign (t_zX9_requireSign p1 h) rfl rfl (Nat.le_of_ble_eq_true rfl) ⟨by rw [hD]; decide, by decide⟩ ⟨by rw [hmc]; exact Nat.le_of_ble_eq_true rfl, by rw [hms]; exact Nat.le_of_ble_eq_true rfl⟩ (fun _ h1 => ?_)
  refine kj_norm (st' := []) (c' := 0) (z' := 0) rfl rfl rfl ?_
  refine kj_iloadn hC 2 dX9_insert_4 rfl rfl ?_
  refine kj_iconst (v := 0) hC dX9_insert_5 (by decide) ?_
  refine kj_aloadn hC 0 dX9_insert_6 rfl rfl ?_
  refine kj_gN (ci := 9) (k := 2) hC dX9_insert_7 kf_X9_23 rfl (fun a1 => ?_)
  refine kj_gI (ci := 7) (k := 1) hC dX9_insert_10 kf_X9_144 rfl (fun x1 => ?_)
  refine kj_iconst (v := 1) hC dX9_insert_13 (by decide) ?_
  refine kj_isub hC dX9_insert_14 ?_
  refine kj_invS (as := [.inl p2, .inl 0, .inl (x1 - 1)]) (rest := []) hC hT dX9_insert_15 kw228 ky_X9_isWithin ky2_X9_isWithin (t_X9_isWithin p2 0 (x1 - 1) h1) rfl rfl (Nat.le_of_ble_eq_true rfl) ⟨by rw [hD]; decide, by decide⟩ ⟨by rw [hmc]; exact Nat.le_of_ble_eq_true rfl, by rw [hms]; exact Nat.le_of_ble_eq_true rfl⟩ (fun x2 h2 => ?_)
  refine kj_norm (st' := [.inl x2]) (c' := 0) (z' := 0) rfl rfl rfl ?_
  refine kj_if_ne (tgt := 31) hC dX9_insert_18 (by decide) (fun q1 => ?_) (fun q1 => ?_)
  · exact kj_none
  · refine kj_aloadn hC 0 dX9_insert_31 rfl rfl ?_
    refine kj_invV (ci := 9) (q := (RX9, TX9, 17)) (as := []) (rest := []) hC hT dX9_insert_32 kw300 ky_X9_requireRoomForSign ky2_X9_requireRoomForSign rfl rfl (t_zX9_requireRoomForSign p0 h2) rfl rfl (Nat.le_of_ble_eq_true rfl) ⟨by rw [hD]; decide, by decide⟩ ⟨by rw [hmc]; exact Nat.le_of_ble_eq_true rfl, by rw [hms]; exact Nat.le_of_ble_eq_true rfl⟩ (fun _ h3 => ?_)
    refine kj_norm (st' := []) (c' := 0) (z' := 0) rfl rfl rfl ?_
    refine kj_aloadn hC 0 dX9_insert_35 rfl rfl ?_
    refine kj_gN (ci := 9) (k := 2) hC dX9_insert_36 kf_X9_23 rfl (fun a2 => ?_)
    refine kj_iloadn hC 1 dX9_insert_39 rfl rfl ?_
    refine kj_iloadn hC 2 dX9_insert_40 rfl rfl ?_
    refine kj_invV (ci := 7) (q := (RX7, TX7, 2)) (as := [.inl p1, .inl p2]) (rest := []) hC hT dX9_insert_41 kw320 ky_X7_put ky2_X7_put rfl rfl (t_X7_put a2 p1 p2 h3) rfl rfl (Nat.le_of_ble_eq_true rfl) ⟨by rw [hD]; decide, by decide⟩ ⟨by rw [hmc]; exact Nat.le_of_ble_eq_true rfl, by rw [hms]; exact Nat.le_of_ble_eq_true rfl⟩ (fun _ h4 => ?_)
    refine kj_norm (st' := []) (c' := 0) (z' := 0) rfl rfl rfl ?_
    refine kj_aloadn hC 0 dX9_insert_44 rfl rfl ?_
    refine kj_gN (ci := 9) (k := 2) hC dX9_insert_45 kf_X9_23 rfl (fun a3 => ?_)
    refine kj_invV (ci := 7) (q := (RX7, TX7, 2)) (as := []) (rest := []) hC hT dX9_insert_48 kw324 ky_X7_charCount ky2_X7_charCount rfl rfl (t_X7_charCount a3 h4) rfl rfl (Nat.le_of_ble_eq_true rfl) ⟨by rw [hD]; decide, by decide⟩ ⟨by rw [hmc]; exact Nat.le_of_ble_eq_true rfl, by rw [hms]; exact Nat.le_of_ble_eq_true rfl⟩ (fun x3 h5 => ?_)
    refine kj_norm (st' := [.inl x3]) (c' := 0) (z' := 0) rfl rfl rfl ?_
    refine kj_fin hmc hms ?_
    exact kj_ireturn hC dX9_insert_51
set_option maxHeartbeats 4000000 in
set_option maxRecDepth 100000 in
theorem t_zX9_charAt (p0 : Nat) (p1 : Int32) (h : KH) : kM yX9_charAt cX9_charAt 3 (some .char) 3 0 0 (fun x : Int32 => some (.inl x)) [.inr (.inr (some p0)), .inl p1] h (f_zX9_charAt p0 p1 h) := by
  refine kM_of RX9 (by decide) rfl (Nat.le_of_ble_eq_true rfl) [(0, .inr (.inr (some p0))), (1, .inl p1)] rfl (fun X hC hN hT hmc hms hD => ?_)
  unfold f_zX9_charAt
  refine kj_aloadn hC 0 dX9_charAt_0 rfl rfl ?_
  refine kj_gN (ci := 9) (k := 2) hC dX9_charAt_1 kf_X9_23 rfl (fun a1 => ?_)
  refine kj_iloadn hC 1 dX9_charAt_4 rfl rfl ?_
  refine kj_invV (ci := 7) (q := (RX7, TX7, 2)) (as := [.inl p1]) (rest := []) hC hT dX9_charAt_5 kw700 ky_X7_charNumberAt ky2_X7_charNumberAt rfl rfl (t_X7_charNumberAt a1 p1 h) rfl rfl (Nat.le_of_ble_eq_true rfl) ⟨by rw [hD]; decide, by decide⟩ ⟨by rw [hmc]; exact Nat.le_of_ble_eq_true rfl, by rw [hms]; exact Nat.le_of_ble_eq_true rfl⟩ (fun x1 h1 => ?_)
  refine kj_norm (st' := [.inl x1]) (c' := 0) (z' := 0) rfl rfl rfl ?_
  refine kj_istoren (L' := [(2, .inl x1), (0, .inr (.inr (some p0))), (1, .inl p1)]) hC dX9_charAt_8 rfl (by decide) rfl ?_
  refine kj_iloadn hC 0 dX9_charAt_9 rfl rfl ?_
  refine kj_iconst (v := (-1)) hC dX9_charAt_10 (by decide) ?_
  refine kj_icmp_ne (tgt := 24) hC dX9_charAt_11 (by decide) (fun q1 => ?_) (fun q1 => ?_)
  · exact kj_none
  · refine kj_iloadn hC 0 dX9_charAt_24 rfl rfl ?_
    refine kj_i2c hC dX9_charAt_25 ?_
    refine kj_fin hmc hms ?_
    exact kj_creturn hC dX9_charAt_26
set_option maxHeartbeats 4000000 in
set_option maxRecDepth 100000 in
theorem t_zX9_alike_b25 {X : KX} (hC : kC X RX9 cX9_alike 3 (some .boolean)) (hN : (xme X).name = yX9_alike.name) (hT : kT0 X) (hmc : xmc X = 0) (hms : xms X = 0) (hD : xD X = 6)  (h : KH) : kJ X (fun x : Int32 => some (.inl x)) 3 0 0 [] [] 25 h (zX9_alike_b25   h) := by
  unfold zX9_alike_b25
  exact kj_none
set_option maxHeartbeats 4000000 in
set_option maxRecDepth 100000 in
theorem t_zX9_alike (p0 : Nat) (p1 : Int32) (p2 : Int32) (h : KH) : kM yX9_alike cX9_alike 3 (some .boolean) 6 0 0 (fun x : Int32 => some (.inl x)) [.inr (.inr (some p0)), .inl p1, .inl p2] h (f_zX9_alike p0 p1 p2 h) := by
  refine kM_of RX9 (by decide) rfl (Nat.le_of_ble_eq_true rfl) [(0, .inr (.inr (some p0))), (1, .inl p1), (2, .inl p2)] rfl (fun X hC hN hT hmc hms hD => ?_)
  unfold f_zX9_alike
  refine kj_iloadn hC 1 dX9_alike_0 rfl rfl ?_
  refine kj_invS (as := [.inl p1]) (rest := []) hC hT dX9_alike_1 kw225 ky_X9_requireSign ky2_X9_requireSign (t_zX9_requireSign p1 h) rfl rfl (Nat.le_of_ble_eq_true rfl) ⟨by rw [hD]; decide, by decide⟩ ⟨by rw [hmc]; exact Nat.le_of_ble_eq_true rfl, by rw [hms]; exact Nat.le_of_ble_eq_true rfl⟩ (fun _ h1 => ?_)
  refine kj_norm (st' := []) (c' := 0) (z' := 0) rfl rfl rfl ?_
  refine kj_iloadn hC 2 dX9_alike_4 rfl rfl ?_
  refine kj_invS (as := [.inl p2]) (rest := []) hC hT dX9_alike_5 kw225 ky_X9_requireSign ky2_X9_requireSign (t_zX9_requireSign p2 h1) rfl rfl (Nat.le_of_ble_eq_true rfl) ⟨by rw [hD]; decide, by decide⟩ ⟨by rw [hmc]; exact Nat.le_of_ble_eq_true rfl, by rw [hms]; exact Nat.le_of_ble_eq_true rfl⟩ (fun _ h2 => ?_)
  refine kj_norm (st' := []) (c' := 0) (z' := 0) rfl rfl rfl ?_
  refine kj_iloadn hC 1 dX9_alike_8 rfl rfl ?_
  refine kj_iloadn hC 2 dX9_alike_9 rfl rfl ?_
  refine kj_icmp_eq (tgt := 25) hC dX9_alike_10 (by decide) (fun q1 => ?_) (fun q1 => ?_)
  · exact kj_sub [] rfl (t_zX9_alike_b25 hC hN hT hmc hms hD   h2)
  · refine kj_iloadn hC 1 dX9_alike_13 rfl rfl ?_
    refine kj_bipush (v := 14) hC dX9_alike_14 (by decide) ?_
    refine kj_icmp_eq (tgt := 25) hC dX9_alike_16 (by decide) (fun q2 => ?_) (fun q2 => ?_)
    · exact kj_sub [] rfl (t_zX9_alike_b25 hC hN hT hmc hms hD   h2)
    · refine kj_iloadn hC 2 dX9_alike_19 rfl rfl ?_
      refine kj_bipush (v := 14) hC dX9_alike_20 (by decide) ?_
      refine kj_icmp_ne (tgt := 35) hC dX9_alike_22 (by decide) (fun q3 => ?_) (fun q3 => ?_)
      · exact kj_sub [] rfl (t_zX9_alike_b25 hC hN hT hmc hms hD   h2)
      · refine kj_aloadn hC 0 dX9_alike_35 rfl rfl ?_
        refine kj_gN (ci := 9) (k := 3) hC dX9_alike_36 kf_X9_30 rfl (fun a1 => ?_)
        refine kj_iloadn hC 1 dX9_alike_39 rfl rfl ?_
        refine kj_iloadn hC 2 dX9_alike_40 rfl rfl ?_
        refine kj_invV (ci := 2) (q := (RX2, TX2, 1)) (as := [.inl p1, .inl p2]) (rest := []) hC hT dX9_alike_41 kw677 ky_X2_turn ky2_X2_turn rfl rfl (t_X2_turn a1 p1 p2 h2) rfl rfl (Nat.le_of_ble_eq_true rfl) ⟨by rw [hD]; decide, by decide⟩ ⟨by rw [hmc]; exact Nat.le_of_ble_eq_true rfl, by rw [hms]; exact Nat.le_of_ble_eq_true rfl⟩ (fun _ h3 => ?_)
        refine kj_norm (st' := []) (c' := 0) (z' := 0) rfl rfl rfl ?_
        refine kj_aloadn hC 0 dX9_alike_44 rfl rfl ?_
        refine kj_invV (ci := 9) (q := (RX9, TX9, 17)) (as := []) (rest := []) hC hT dX9_alike_45 kw439 ky_X9_leadAllBack ky2_X9_leadAllBack rfl rfl (t_X9_leadAllBack p0 h3) rfl rfl (Nat.le_of_ble_eq_true rfl) ⟨by rw [hD]; decide, by decide⟩ ⟨by rw [hmc]; exact Nat.le_of_ble_eq_true rfl, by rw [hms]; exact Nat.le_of_ble_eq_true rfl⟩ (fun _ h4 => ?_)
        refine kj_norm (st' := []) (c' := 0) (z' := 0) rfl rfl rfl ?_
        refine kj_aloadn hC 0 dX9_alike_48 rfl rfl ?_
        refine kj_gN (ci := 9) (k := 3) hC dX9_alike_49 kf_X9_30 rfl (fun a2 => ?_)
        refine kj_iloadn hC 1 dX9_alike_52 rfl rfl ?_
        refine kj_iloadn hC 2 dX9_alike_53 rfl rfl ?_
        refine kj_invV (ci := 2) (q := (RX2, TX2, 1)) (as := [.inl p1, .inl p2]) (rest := []) hC hT dX9_alike_54 kw681 ky_X2_holds ky2_X2_holds rfl rfl (t_X2_holds a2 p1 p2 h4) rfl rfl (Nat.le_of_ble_eq_true rfl) ⟨by rw [hD]; decide, by decide⟩ ⟨by rw [hmc]; exact Nat.le_of_ble_eq_true rfl, by rw [hms]; exact Nat.le_of_ble_eq_true rfl⟩ (fun x1 h5 => ?_)
        refine kj_norm (st' := [.inl x1]) (c' := 0) (z' := 0) rfl rfl rfl ?_
        refine kj_fin hmc hms ?_
        exact kj_zreturn hC dX9_alike_57
set_option maxHeartbeats 4000000 in
set_option maxRecDepth 100000 in
theorem t_zX9_requireDriver (p0 : Int32) (h : KH) : kM yX9_requireDriver cX9_requireDriver 1 none 1 0 0 (fun _ : Unit => none) [.inl p0] h (f_zX9_requireDriver p0 h) := by
  refine kM_of RX9 (by decide) rfl (Nat.le_of_ble_eq_true rfl) [(0, .inl p0)] rfl (fun X hC hN hT hmc hms hD => ?_)
  unfold f_zX9_requireDriver
  refine kj_iloadn hC 0 dX9_requireDriver_0 rfl rfl ?_
  refine kj_iconst (v := 0) hC dX9_requireDriver_1 (by decide) ?_
  refine kj_iconst (v := 5) hC dX9_requireDriver_2 (by decide) ?_
  refine kj_invS (as := [.inl p0, .inl 0, .inl 5]) (rest := []) hC hT dX9_requireDriver_3 kw228 ky_X9_isWithin ky2_X9_isWithin (t_X9_isWithin p0 0 5 h) rfl rfl (Nat.le_of_ble_eq_true rfl) ⟨by rw [hD]; decide, by decide⟩ ⟨by rw [hmc]; exact Nat.le_of_ble_eq_true rfl, by rw [hms]; exact Nat.le_of_ble_eq_true rfl⟩ (fun x1 h1 => ?_)
  refine kj_norm (st' := [.inl x1]) (c' := 0) (z' := 0) rfl rfl rfl ?_
  refine kj_if_ne (tgt := 20) hC dX9_requireDriver_6 (by decide) (fun q1 => ?_) (fun q1 => ?_)
  · exact kj_none
  · refine kj_fin hmc hms ?_
    exact kj_return hC dX9_requireDriver_20
set_option maxHeartbeats 4000000 in
set_option maxRecDepth 100000 in
theorem t_zX9_register_b48 {X : KX} (hC : kC X RX9 cX9_register 4 (some .int)) (hN : (xme X).name = yX9_register.name) (hT : kT0 X) (hmc : xmc X = 7) (hms : xms X = 139) (hD : xD X = 6)  (h : KH) : kJ X (fun x : Int32 => some (.inl x)) 4 0 0 [] [] 48 h (zX9_register_b48   h) := by
  unfold zX9_register_b48
  exact kj_none
set_option maxHeartbeats 4000000 in
set_option maxRecDepth 100000 in
theorem t_zX9_register (p0 : Nat) (p1 : Int32) (p2 : Int32) (h : KH) : kM yX9_register cX9_register 4 (some .int) 6 7 139 (fun x : Int32 => some (.inl x)) [.inr (.inr (some p0)), .inl p1, .inl p2] h (f_zX9_register p0 p1 p2 h) := by
  refine kM_of RX9 (by decide) rfl (Nat.le_of_ble_eq_true rfl) [(0, .inr (.inr (some p0))), (1, .inl p1), (2, .inl p2)] rfl (fun X hC hN hT hmc hms hD => ?_)
  unfold f_zX9_register
  refine kj_iloadn hC 1 dX9_register_0 rfl rfl ?_
  refine kj_invS (as := [.inl p1]) (rest := []) hC hT dX9_register_1 kw338 ky_X9_requireDriver ky2_X9_requireDriver (t_zX9_requireDriver p1 h) rfl rfl (Nat.le_of_ble_eq_true rfl) ⟨by rw [hD]; decide, by decide⟩ ⟨by rw [hmc]; exact Nat.le_of_ble_eq_true rfl, by rw [hms]; exact Nat.le_of_ble_eq_true rfl⟩ (fun _ h1 => ?_)
  refine kj_norm (st' := []) (c' := 0) (z' := 0) rfl rfl rfl ?_
  refine kj_iloadn hC 2 dX9_register_4 rfl rfl ?_
  refine kj_invS (as := [.inl p2]) (rest := []) hC hT dX9_register_5 kw342 ky_X9_requireClass ky2_X9_requireClass (t_zX9_requireClass p2 h1) rfl rfl (Nat.le_of_ble_eq_true rfl) ⟨by rw [hD]; decide, by decide⟩ ⟨by rw [hmc]; exact Nat.le_of_ble_eq_true rfl, by rw [hms]; exact Nat.le_of_ble_eq_true rfl⟩ (fun _ h2 => ?_)
  refine kj_norm (st' := []) (c' := 0) (z' := 0) rfl rfl rfl ?_
  refine kj_aloadn hC 0 dX9_register_8 rfl rfl ?_
  refine kj_gN (ci := 9) (k := 2) hC dX9_register_9 kf_X9_23 rfl (fun a1 => ?_)
  refine kj_gI (ci := 7) (k := 1) hC dX9_register_12 kf_X9_144 rfl (fun x1 => ?_)
  refine kj_if_eq (tgt := 48) hC dX9_register_15 (by decide) (fun q1 => ?_) (fun q1 => ?_)
  · exact kj_sub [] rfl (t_zX9_register_b48 hC hN hT hmc hms hD   h2)
  · refine kj_aloadn hC 0 dX9_register_18 rfl rfl ?_
    refine kj_gN (ci := 9) (k := 2) hC dX9_register_19 kf_X9_23 rfl (fun a2 => ?_)
    refine kj_invV (ci := 7) (q := (RX7, TX7, 2)) (as := []) (rest := []) hC hT dX9_register_22 kw361 ky_X7_hasQuestionMark ky2_X7_hasQuestionMark rfl rfl (t_X7_hasQuestionMark a2 h2) rfl rfl (Nat.le_of_ble_eq_true rfl) ⟨by rw [hD]; decide, by decide⟩ ⟨by rw [hmc]; exact Nat.le_of_ble_eq_true rfl, by rw [hms]; exact Nat.le_of_ble_eq_true rfl⟩ (fun x2 h3 => ?_)
    refine kj_norm (st' := [.inl x2]) (c' := 0) (z' := 0) rfl rfl rfl ?_
    refine kj_if_ne (tgt := 48) hC dX9_register_25 (by decide) (fun q2 => ?_) (fun q2 => ?_)
    · refine kj_aloadn hC 0 dX9_register_28 rfl rfl ?_
      refine kj_aloadn hC 0 dX9_register_29 rfl rfl ?_
      refine kj_gN (ci := 9) (k := 2) hC dX9_register_30 kf_X9_23 rfl (fun a3 => ?_)
      refine kj_invV (ci := 9) (q := (RX9, TX9, 17)) (as := [.inr (.inr (some a3))]) (rest := []) hC hT dX9_register_33 kw365 ky_X9_isTaken ky2_X9_isTaken rfl rfl (t_X9_isTaken p0 a3 h3) rfl rfl (Nat.le_of_ble_eq_true rfl) ⟨by rw [hD]; decide, by decide⟩ ⟨by rw [hmc]; exact Nat.le_of_ble_eq_true rfl, by rw [hms]; exact Nat.le_of_ble_eq_true rfl⟩ (fun x3 h4 => ?_)
      refine kj_norm (st' := [.inl x3]) (c' := 0) (z' := 0) rfl rfl rfl ?_
      refine kj_if_ne (tgt := 48) hC dX9_register_36 (by decide) (fun q3 => ?_) (fun q3 => ?_)
      · refine kj_aloadn hC 0 dX9_register_39 rfl rfl ?_
        refine kj_gI (ci := 9) (k := 13) hC dX9_register_40 kf_X9_79 rfl (fun x4 => ?_)
        refine kj_bipush (v := 10) hC dX9_register_43 (by decide) ?_
        refine kj_icmp_lt (tgt := 58) hC dX9_register_45 (by decide) (fun q4 => ?_) (fun q4 => ?_)
        · refine kj_new (ci := 4) (q := (RX4, TX4, 5)) hC dX9_register_58 rfl kw117 kw374 kw35 ⟨by rw [hmc]; exact Nat.le_of_ble_eq_true rfl, by rw [hms]; exact Nat.le_of_ble_eq_true rfl⟩ (fun a4 h5 => ?_)
          refine kj_norm (st' := [.inr (.inr (some a4))]) (c' := 1) (z' := 5) rfl rfl rfl ?_
          refine kj_dup hC dX9_register_61 rfl ?_
          refine kj_aloadn hC 0 dX9_register_62 rfl rfl ?_
          refine kj_gI (ci := 9) (k := 13) hC dX9_register_63 kf_X9_79 rfl (fun x5 => ?_)
          refine kj_aloadn hC 0 dX9_register_66 rfl rfl ?_
          refine kj_gN (ci := 9) (k := 2) hC dX9_register_67 kf_X9_23 rfl (fun a5 => ?_)
          refine kj_invV (ci := 7) (q := (RX7, TX7, 2)) (as := []) (rest := [.inl x5, .inr (.inr (some a4)), .inr (.inr (some a4))]) hC hT dX9_register_70 kw375 ky_X7_copy ky2_X7_copy rfl rfl (t_X7_copy a5 h5) rfl rfl (Nat.le_of_ble_eq_true rfl) ⟨by rw [hD]; decide, by decide⟩ ⟨by rw [hmc]; exact Nat.le_of_ble_eq_true rfl, by rw [hms]; exact Nat.le_of_ble_eq_true rfl⟩ (fun a6 h6 => ?_)
          refine kj_norm (st' := [.inr (.inr (some a6)), .inl x5, .inr (.inr (some a4)), .inr (.inr (some a4))]) (c' := 3) (z' := 13) rfl rfl rfl ?_
          refine kj_iloadn hC 2 dX9_register_73 rfl rfl ?_
          refine kj_new (ci := 1) (q := (RX1, TX1, 3)) hC dX9_register_74 rfl kw381 kw382 kw36 ⟨by rw [hmc]; exact Nat.le_of_ble_eq_true rfl, by rw [hms]; exact Nat.le_of_ble_eq_true rfl⟩ (fun a7 h7 => ?_)
          refine kj_norm (st' := [.inr (.inr (some a7)), .inl p2, .inr (.inr (some a6)), .inl x5, .inr (.inr (some a4)), .inr (.inr (some a4))]) (c' := 4) (z' := 16) rfl rfl rfl ?_
          refine kj_dup hC dX9_register_77 rfl ?_
          refine kj_iloadn hC 1 dX9_register_78 rfl rfl ?_
          refine kj_aloadn hC 0 dX9_register_79 rfl rfl ?_
          refine kj_gI (ci := 9) (k := 12) hC dX9_register_80 kf_X9_75 rfl (fun x6 => ?_)
          refine kj_null hC dX9_register_83 ?_
          refine kj_invI (as := [.inl p1, .inl x6, .inr (.inr none)]) (rest := [.inr (.inr (some a7)), .inl p2, .inr (.inr (some a6)), .inl x5, .inr (.inr (some a4)), .inr (.inr (some a4))]) hC hT dX9_register_84 kw383 ky_X1_init ky2_X1_init rfl (t_X1_init a7 p1 x6 none h7) rfl rfl (Nat.le_of_ble_eq_true rfl) ⟨by rw [hD]; decide, by decide⟩ ⟨by rw [hmc]; exact Nat.le_of_ble_eq_true rfl, by rw [hms]; exact Nat.le_of_ble_eq_true rfl⟩ (fun _ h8 => ?_)
          refine kj_norm (st' := [.inr (.inr (some a7)), .inl p2, .inr (.inr (some a6)), .inl x5, .inr (.inr (some a4)), .inr (.inr (some a4))]) (c' := 4) (z' := 16) rfl rfl rfl ?_
          refine kj_invI (as := [.inl x5, .inr (.inr (some a6)), .inl p2, .inr (.inr (some a7))]) (rest := [.inr (.inr (some a4))]) hC hT dX9_register_87 kw401 ky_X4_init ky2_X4_init rfl (t_X4_init a4 x5 a6 p2 a7 h8) rfl rfl (Nat.le_of_ble_eq_true rfl) ⟨by rw [hD]; decide, by decide⟩ ⟨by rw [hmc]; exact Nat.le_of_ble_eq_true rfl, by rw [hms]; exact Nat.le_of_ble_eq_true rfl⟩ (fun _ h9 => ?_)
          refine kj_norm (st' := [.inr (.inr (some a4))]) (c' := 7) (z' := 139) rfl rfl rfl ?_
          refine kj_astoren (L' := [(3, .inr (.inr (some a4))), (0, .inr (.inr (some p0))), (1, .inl p1), (2, .inl p2)]) hC dX9_register_90 rfl (by decide) rfl ?_
          refine kj_aloadn hC 1 dX9_register_91 rfl rfl ?_
          refine kj_gN (ci := 9) (k := 4) hC dX9_register_92 kf_X9_36 rfl (fun a8 => ?_)
          refine kj_aloadn hC 1 dX9_register_95 rfl rfl ?_
          refine kj_gI (ci := 9) (k := 13) hC dX9_register_96 kf_X9_79 rfl (fun x7 => ?_)
          refine kj_aloadn hC 0 dX9_register_99 rfl rfl ?_
          refine kj_pAN (c := 25) (ci := 4) (q := (RX4, TX4, 5)) hC dX9_register_100 rfl rfl (fun h10 => ?_)
          refine kj_aloadn hC 1 dX9_register_101 rfl rfl ?_
          refine kj_aloadn hC 0 dX9_register_102 rfl rfl ?_
          refine kj_invV (ci := 9) (q := (RX9, TX9, 17)) (as := [.inr (.inr (some a4))]) (rest := []) hC hT dX9_register_103 kw428 ky_X9_putInOrder ky2_X9_putInOrder rfl rfl (t_X9_putInOrder p0 a4 h10) rfl rfl (Nat.le_of_ble_eq_true rfl) ⟨by rw [hD]; decide, by decide⟩ ⟨by rw [hmc]; exact Nat.le_of_ble_eq_true rfl, by rw [hms]; exact Nat.le_of_ble_eq_true rfl⟩ (fun _ h11 => ?_)
          refine kj_norm (st' := []) (c' := 7) (z' := 139) rfl rfl rfl ?_
          refine kj_aloadn hC 1 dX9_register_106 rfl rfl ?_
          refine kj_dup hC dX9_register_107 rfl ?_
          refine kj_gI (ci := 9) (k := 13) hC dX9_register_108 kf_X9_79 rfl (fun x8 => ?_)
          refine kj_iconst (v := 1) hC dX9_register_111 (by decide) ?_
          refine kj_iadd hC dX9_register_112 ?_
          refine kj_pI (ci := 9) (k := 13) hC dX9_register_113 kf_X9_79 (Or.inl (kNF_of (by decide))) rfl ⟨rfl, rfl⟩ (fun h12 => ?_)
          refine kj_aloadn hC 1 dX9_register_116 rfl rfl ?_
          refine kj_invV (ci := 9) (q := (RX9, TX9, 17)) (as := []) (rest := []) hC hT dX9_register_117 kw439 ky_X9_leadAllBack ky2_X9_leadAllBack rfl rfl (t_X9_leadAllBack p0 h12) rfl rfl (Nat.le_of_ble_eq_true rfl) ⟨by rw [hD]; decide, by decide⟩ ⟨by rw [hmc]; exact Nat.le_of_ble_eq_true rfl, by rw [hms]; exact Nat.le_of_ble_eq_true rfl⟩ (fun _ h13 => ?_)
          refine kj_norm (st' := []) (c' := 7) (z' := 139) rfl rfl rfl ?_
          refine kj_aloadn hC 0 dX9_register_120 rfl rfl ?_
          refine kj_gI (ci := 4) (k := 0) hC dX9_register_121 kf_X9_210 rfl (fun x9 => ?_)
          refine kj_fin hmc hms ?_
          exact kj_ireturn hC dX9_register_124
        · exact kj_sub [] rfl (t_zX9_register_b48 hC hN hT hmc hms hD   h4)
      · exact kj_sub [] rfl (t_zX9_register_b48 hC hN hT hmc hms hD   h4)
    · exact kj_sub [] rfl (t_zX9_register_b48 hC hN hT hmc hms hD   h3)
set_option maxHeartbeats 4000000 in
set_option maxRecDepth 100000 in
theorem t_zX9_plateNumbered (p0 : Nat) (p1 : Int32) (h : KH) : kM yX9_plateNumbered cX9_plateNumbered 2 (some (.object "Tollkeeper$Plate")) 1 0 0 (fun a : Nat => some (.inr (.inr (some a)))) [.inr (.inr (some p0)), .inl p1] h (f_zX9_plateNumbered p0 p1 h) := by
  refine kM_of RX9 (by decide) rfl (Nat.le_of_ble_eq_true rfl) [(0, .inr (.inr (some p0))), (1, .inl p1)] rfl (fun X hC hN hT hmc hms hD => ?_)
  unfold f_zX9_plateNumbered
  refine kj_iloadn hC 1 dX9_plateNumbered_0 rfl rfl ?_
  refine kj_iconst (v := 0) hC dX9_plateNumbered_1 (by decide) ?_
  refine kj_aloadn hC 0 dX9_plateNumbered_2 rfl rfl ?_
  refine kj_gI (ci := 9) (k := 13) hC dX9_plateNumbered_3 kf_X9_79 rfl (fun x1 => ?_)
  refine kj_iconst (v := 1) hC dX9_plateNumbered_6 (by decide) ?_
  refine kj_isub hC dX9_plateNumbered_7 ?_
  refine kj_invS (as := [.inl p1, .inl 0, .inl (x1 - 1)]) (rest := []) hC hT dX9_plateNumbered_8 kw228 ky_X9_isWithin ky2_X9_isWithin (t_X9_isWithin p1 0 (x1 - 1) h) rfl rfl (Nat.le_of_ble_eq_true rfl) ⟨by rw [hD]; decide, by decide⟩ ⟨by rw [hmc]; exact Nat.le_of_ble_eq_true rfl, by rw [hms]; exact Nat.le_of_ble_eq_true rfl⟩ (fun x2 h1 => ?_)
  refine kj_norm (st' := [.inl x2]) (c' := 0) (z' := 0) rfl rfl rfl ?_
  refine kj_if_ne (tgt := 25) hC dX9_plateNumbered_11 (by decide) (fun q1 => ?_) (fun q1 => ?_)
  · exact kj_none
  · refine kj_aloadn hC 0 dX9_plateNumbered_25 rfl rfl ?_
    refine kj_gN (ci := 9) (k := 4) hC dX9_plateNumbered_26 kf_X9_36 rfl (fun a1 => ?_)
    refine kj_iloadn hC 1 dX9_plateNumbered_29 rfl rfl ?_
    refine kj_gAN (c := 25) hC dX9_plateNumbered_30 rfl ⟨rfl, rfl⟩ (fun a2 => ?_)
    refine kj_fin hmc hms ?_
    exact kj_areturnN hC dX9_plateNumbered_31
set_option maxHeartbeats 4000000 in
set_option maxRecDepth 100000 in
theorem t_zX9_sell (p0 : Nat) (p1 : Int32) (p2 : Int32) (h : KH) : kM yX9_sell cX9_sell 5 (some .int) 3 1 3 (fun x : Int32 => some (.inl x)) [.inr (.inr (some p0)), .inl p1, .inl p2] h (f_zX9_sell p0 p1 p2 h) := by
  refine kM_of RX9 (by decide) rfl (Nat.le_of_ble_eq_true rfl) [(0, .inr (.inr (some p0))), (1, .inl p1), (2, .inl p2)] rfl (fun X hC hN hT hmc hms hD => ?_)
  unfold f_zX9_sell
  refine kj_aloadn hC 0 dX9_sell_0 rfl rfl ?_
  refine kj_iloadn hC 1 dX9_sell_1 rfl rfl ?_
  refine kj_invV (ci := 9) (q := (RX9, TX9, 17)) (as := [.inl p1]) (rest := []) hC hT dX9_sell_2 kw564 ky_X9_plateNumbered ky2_X9_plateNumbered rfl rfl (t_zX9_plateNumbered p0 p1 h) rfl rfl (Nat.le_of_ble_eq_true rfl) ⟨by rw [hD]; decide, by decide⟩ ⟨by rw [hmc]; exact Nat.le_of_ble_eq_true rfl, by rw [hms]; exact Nat.le_of_ble_eq_true rfl⟩ (fun a1 h1 => ?_)
  refine kj_norm (st' := [.inr (.inr (some a1))]) (c' := 0) (z' := 0) rfl rfl rfl ?_
  refine kj_astoren (L' := [(3, .inr (.inr (some a1))), (0, .inr (.inr (some p0))), (1, .inl p1), (2, .inl p2)]) hC dX9_sell_5 rfl (by decide) rfl ?_
  refine kj_iloadn hC 3 dX9_sell_6 rfl rfl ?_
  refine kj_invS (as := [.inl p2]) (rest := []) hC hT dX9_sell_7 kw338 ky_X9_requireDriver ky2_X9_requireDriver (t_zX9_requireDriver p2 h1) rfl rfl (Nat.le_of_ble_eq_true rfl) ⟨by rw [hD]; decide, by decide⟩ ⟨by rw [hmc]; exact Nat.le_of_ble_eq_true rfl, by rw [hms]; exact Nat.le_of_ble_eq_true rfl⟩ (fun _ h2 => ?_)
  refine kj_norm (st' := []) (c' := 0) (z' := 0) rfl rfl rfl ?_
  refine kj_aloadn hC 0 dX9_sell_10 rfl rfl ?_
  refine kj_gR (ci := 4) (k := 4) hC dX9_sell_11 kf_X9_217 rfl (fun o1 => ?_)
  refine kj_may (fun a2 q => ?_)
  subst q
  refine kj_gI (ci := 1) (k := 0) hC dX9_sell_14 kf_X9_221 rfl (fun x1 => ?_)
  refine kj_istore (L' := [(4, .inl x1), (3, .inr (.inr (some a1))), (0, .inr (.inr (some p0))), (1, .inl p1), (2, .inl p2)]) hC dX9_sell_17 (by decide) rfl ?_
  refine kj_aloadn hC 1 dX9_sell_19 rfl rfl ?_
  refine kj_iloadn hC 4 dX9_sell_20 rfl rfl ?_
  refine kj_aloadn hC 2 dX9_sell_21 rfl rfl ?_
  refine kj_gI (ci := 9) (k := 12) hC dX9_sell_22 kf_X9_75 rfl (fun x2 => ?_)
  refine kj_invV (ci := 4) (q := (RX4, TX4, 5)) (as := [.inl p2, .inl x2]) (rest := []) hC hT dX9_sell_25 kw620 ky_X4_sellTo ky2_X4_sellTo rfl rfl (t_X4_sellTo a1 p2 x2 h2) rfl rfl (Nat.le_of_ble_eq_true rfl) ⟨by rw [hD]; decide, by decide⟩ ⟨by rw [hmc]; exact Nat.le_of_ble_eq_true rfl, by rw [hms]; exact Nat.le_of_ble_eq_true rfl⟩ (fun _ h3 => ?_)
  refine kj_norm (st' := []) (c' := 1) (z' := 3) rfl rfl rfl ?_
  refine kj_iload hC 0 dX9_sell_28 rfl ?_
  refine kj_fin hmc hms ?_
  exact kj_ireturn hC dX9_sell_30
set_option maxHeartbeats 4000000 in
set_option maxRecDepth 100000 in
theorem t_zX9_plateAt (p0 : Nat) (p1 : Int32) (h : KH) : kM yX9_plateAt cX9_plateAt 2 (some .int) 1 0 0 (fun x : Int32 => some (.inl x)) [.inr (.inr (some p0)), .inl p1] h (f_zX9_plateAt p0 p1 h) := by
  refine kM_of RX9 (by decide) rfl (Nat.le_of_ble_eq_true rfl) [(0, .inr (.inr (some p0))), (1, .inl p1)] rfl (fun X hC hN hT hmc hms hD => ?_)
  unfold f_zX9_plateAt
  refine kj_iloadn hC 1 dX9_plateAt_0 rfl rfl ?_
  refine kj_iconst (v := 0) hC dX9_plateAt_1 (by decide) ?_
  refine kj_aloadn hC 0 dX9_plateAt_2 rfl rfl ?_
  refine kj_gI (ci := 9) (k := 13) hC dX9_plateAt_3 kf_X9_79 rfl (fun x1 => ?_)
  refine kj_iconst (v := 1) hC dX9_plateAt_6 (by decide) ?_
  refine kj_isub hC dX9_plateAt_7 ?_
  refine kj_invS (as := [.inl p1, .inl 0, .inl (x1 - 1)]) (rest := []) hC hT dX9_plateAt_8 kw228 ky_X9_isWithin ky2_X9_isWithin (t_X9_isWithin p1 0 (x1 - 1) h) rfl rfl (Nat.le_of_ble_eq_true rfl) ⟨by rw [hD]; decide, by decide⟩ ⟨by rw [hmc]; exact Nat.le_of_ble_eq_true rfl, by rw [hms]; exact Nat.le_of_ble_eq_true rfl⟩ (fun x2 h1 => ?_)
  refine kj_norm (st' := [.inl x2]) (c' := 0) (z' := 0) rfl rfl rfl ?_
  refine kj_if_ne (tgt := 24) hC dX9_plateAt_11 (by decide) (fun q1 => ?_) (fun q1 => ?_)
  · exact kj_none
  · refine kj_aloadn hC 0 dX9_plateAt_24 rfl rfl ?_
    refine kj_gN (ci := 9) (k := 5) hC dX9_plateAt_25 kf_X9_40 rfl (fun a1 => ?_)
    refine kj_iloadn hC 1 dX9_plateAt_28 rfl rfl ?_
    refine kj_gAN (c := 25) hC dX9_plateAt_29 rfl ⟨rfl, rfl⟩ (fun a2 => ?_)
    refine kj_gI (ci := 4) (k := 0) hC dX9_plateAt_30 kf_X9_210 rfl (fun x3 => ?_)
    refine kj_fin hmc hms ?_
    exact kj_ireturn hC dX9_plateAt_33
set_option maxHeartbeats 4000000 in
set_option maxRecDepth 100000 in
theorem t_zX9_requireMinute (p0 : Nat) (p1 : Int32) (h : KH) : kM yX9_requireMinute cX9_requireMinute 2 none 1 0 0 (fun _ : Unit => none) [.inr (.inr (some p0)), .inl p1] h (f_zX9_requireMinute p0 p1 h) := by
  refine kM_of RX9 (by decide) rfl (Nat.le_of_ble_eq_true rfl) [(0, .inr (.inr (some p0))), (1, .inl p1)] rfl (fun X hC hN hT hmc hms hD => ?_)
  unfold f_zX9_requireMinute
  refine kj_iloadn hC 1 dX9_requireMinute_0 rfl rfl ?_
  refine kj_iconst (v := 0) hC dX9_requireMinute_1 (by decide) ?_
  refine kj_aloadn hC 0 dX9_requireMinute_2 rfl rfl ?_
  refine kj_gI (ci := 9) (k := 12) hC dX9_requireMinute_3 kf_X9_75 rfl (fun x1 => ?_)
  refine kj_invS (as := [.inl p1, .inl 0, .inl x1]) (rest := []) hC hT dX9_requireMinute_6 kw228 ky_X9_isWithin ky2_X9_isWithin (t_X9_isWithin p1 0 x1 h) rfl rfl (Nat.le_of_ble_eq_true rfl) ⟨by rw [hD]; decide, by decide⟩ ⟨by rw [hmc]; exact Nat.le_of_ble_eq_true rfl, by rw [hms]; exact Nat.le_of_ble_eq_true rfl⟩ (fun x2 h1 => ?_)
  refine kj_norm (st' := [.inl x2]) (c' := 0) (z' := 0) rfl rfl rfl ?_
  refine kj_if_ne (tgt := 23) hC dX9_requireMinute_9 (by decide) (fun q1 => ?_) (fun q1 => ?_)
  · exact kj_none
  · refine kj_fin hmc hms ?_
    exact kj_return hC dX9_requireMinute_23
set_option maxHeartbeats 4000000 in
set_option maxRecDepth 100000 in
theorem t_zX9_holder (p0 : Nat) (p1 : Int32) (p2 : Int32) (h : KH) : kM yX9_holder cX9_holder 4 (some .int) 2 0 0 (fun x : Int32 => some (.inl x)) [.inr (.inr (some p0)), .inl p1, .inl p2] h (f_zX9_holder p0 p1 p2 h) := by
  refine kM_of RX9 (by decide) rfl (Nat.le_of_ble_eq_true rfl) [(0, .inr (.inr (some p0))), (1, .inl p1), (2, .inl p2)] rfl (fun X hC hN hT hmc hms hD => ?_)
  unfold f_zX9_holder
  refine kj_aloadn hC 0 dX9_holder_0 rfl rfl ?_
  refine kj_iloadn hC 1 dX9_holder_1 rfl rfl ?_
  refine kj_invV (ci := 9) (q := (RX9, TX9, 17)) (as := [.inl p1]) (rest := []) hC hT dX9_holder_2 kw564 ky_X9_plateNumbered ky2_X9_plateNumbered rfl rfl (t_zX9_plateNumbered p0 p1 h) rfl rfl (Nat.le_of_ble_eq_true rfl) ⟨by rw [hD]; decide, by decide⟩ ⟨by rw [hmc]; exact Nat.le_of_ble_eq_true rfl, by rw [hms]; exact Nat.le_of_ble_eq_true rfl⟩ (fun a1 h1 => ?_)
  refine kj_norm (st' := [.inr (.inr (some a1))]) (c' := 0) (z' := 0) rfl rfl rfl ?_
  refine kj_astoren (L' := [(3, .inr (.inr (some a1))), (0, .inr (.inr (some p0))), (1, .inl p1), (2, .inl p2)]) hC dX9_holder_5 rfl (by decide) rfl ?_
  refine kj_aloadn hC 1 dX9_holder_6 rfl rfl ?_
  refine kj_iloadn hC 3 dX9_holder_7 rfl rfl ?_
  refine kj_invV (ci := 9) (q := (RX9, TX9, 17)) (as := [.inl p2]) (rest := []) hC hT dX9_holder_8 kw506 ky_X9_requireMinute ky2_X9_requireMinute rfl rfl (t_zX9_requireMinute p0 p2 h1) rfl rfl (Nat.le_of_ble_eq_true rfl) ⟨by rw [hD]; decide, by decide⟩ ⟨by rw [hmc]; exact Nat.le_of_ble_eq_true rfl, by rw [hms]; exact Nat.le_of_ble_eq_true rfl⟩ (fun _ h2 => ?_)
  refine kj_norm (st' := []) (c' := 0) (z' := 0) rfl rfl rfl ?_
  refine kj_aloadn hC 0 dX9_holder_11 rfl rfl ?_
  refine kj_iloadn hC 3 dX9_holder_12 rfl rfl ?_
  refine kj_invV (ci := 4) (q := (RX4, TX4, 5)) (as := [.inl p2]) (rest := []) hC hT dX9_holder_13 kw612 ky_X4_driverIn ky2_X4_driverIn rfl rfl (t_X4_driverIn a1 p2 h2) rfl rfl (Nat.le_of_ble_eq_true rfl) ⟨by rw [hD]; decide, by decide⟩ ⟨by rw [hmc]; exact Nat.le_of_ble_eq_true rfl, by rw [hms]; exact Nat.le_of_ble_eq_true rfl⟩ (fun x1 h3 => ?_)
  refine kj_norm (st' := [.inl x1]) (c' := 0) (z' := 0) rfl rfl rfl ?_
  refine kj_fin hmc hms ?_
  exact kj_ireturn hC dX9_holder_16
set_option maxHeartbeats 4000000 in
set_option maxRecDepth 100000 in
theorem t_zX9_read_b28 {X : KX} (hC : kC X RX9 cX9_read 4 (some .int)) (hN : (xme X).name = yX9_read.name) (hT : kT0 X) (hmc : xmc X = 3) (hms : xms X = 14) (hD : xD X = 5)  (h : KH) : kJ X (fun x : Int32 => some (.inl x)) 4 0 0 [] [] 28 h (zX9_read_b28   h) := by
  unfold zX9_read_b28
  exact kj_none
set_option maxHeartbeats 4000000 in
set_option maxRecDepth 100000 in
theorem t_zX9_read (p0 : Nat) (p1 : Int32) (p2 : Int32) (h : KH) : kM yX9_read cX9_read 4 (some .int) 5 3 14 (fun x : Int32 => some (.inl x)) [.inr (.inr (some p0)), .inl p1, .inl p2] h (f_zX9_read p0 p1 p2 h) := by
  refine kM_of RX9 (by decide) rfl (Nat.le_of_ble_eq_true rfl) [(0, .inr (.inr (some p0))), (1, .inl p1), (2, .inl p2)] rfl (fun X hC hN hT hmc hms hD => ?_)
  unfold f_zX9_read
  refine kj_iloadn hC 1 dX9_read_0 rfl rfl ?_
  refine kj_invS (as := [.inl p1]) (rest := []) hC hT dX9_read_1 kw502 ky_X9_requireGate ky2_X9_requireGate (t_zX9_requireGate p1 h) rfl rfl (Nat.le_of_ble_eq_true rfl) ⟨by rw [hD]; decide, by decide⟩ ⟨by rw [hmc]; exact Nat.le_of_ble_eq_true rfl, by rw [hms]; exact Nat.le_of_ble_eq_true rfl⟩ (fun _ h1 => ?_)
  refine kj_norm (st' := []) (c' := 0) (z' := 0) rfl rfl rfl ?_
  refine kj_aloadn hC 0 dX9_read_4 rfl rfl ?_
  refine kj_iloadn hC 2 dX9_read_5 rfl rfl ?_
  refine kj_invV (ci := 9) (q := (RX9, TX9, 17)) (as := [.inl p2]) (rest := []) hC hT dX9_read_6 kw506 ky_X9_requireMinute ky2_X9_requireMinute rfl rfl (t_zX9_requireMinute p0 p2 h1) rfl rfl (Nat.le_of_ble_eq_true rfl) ⟨by rw [hD]; decide, by decide⟩ ⟨by rw [hmc]; exact Nat.le_of_ble_eq_true rfl, by rw [hms]; exact Nat.le_of_ble_eq_true rfl⟩ (fun _ h2 => ?_)
  refine kj_norm (st' := []) (c' := 0) (z' := 0) rfl rfl rfl ?_
  refine kj_aloadn hC 0 dX9_read_9 rfl rfl ?_
  refine kj_gN (ci := 9) (k := 2) hC dX9_read_10 kf_X9_23 rfl (fun a1 => ?_)
  refine kj_gI (ci := 7) (k := 1) hC dX9_read_13 kf_X9_144 rfl (fun x1 => ?_)
  refine kj_if_eq (tgt := 28) hC dX9_read_16 (by decide) (fun q1 => ?_) (fun q1 => ?_)
  · exact kj_sub [] rfl (t_zX9_read_b28 hC hN hT hmc hms hD   h2)
  · refine kj_aloadn hC 0 dX9_read_19 rfl rfl ?_
    refine kj_gI (ci := 9) (k := 14) hC dX9_read_20 kf_X9_82 rfl (fun x2 => ?_)
    refine kj_bipush (v := 60) hC dX9_read_23 (by decide) ?_
    refine kj_icmp_lt (tgt := 38) hC dX9_read_25 (by decide) (fun q2 => ?_) (fun q2 => ?_)
    · refine kj_new (ci := 5) (q := (RX5, TX5, 6)) hC dX9_read_38 rfl kw119 kw512 kw38 ⟨by rw [hmc]; exact Nat.le_of_ble_eq_true rfl, by rw [hms]; exact Nat.le_of_ble_eq_true rfl⟩ (fun a2 h3 => ?_)
      refine kj_norm (st' := [.inr (.inr (some a2))]) (c' := 1) (z' := 6) rfl rfl rfl ?_
      refine kj_dup hC dX9_read_41 rfl ?_
      refine kj_aloadn hC 0 dX9_read_42 rfl rfl ?_
      refine kj_gI (ci := 9) (k := 14) hC dX9_read_43 kf_X9_82 rfl (fun x3 => ?_)
      refine kj_iloadn hC 1 dX9_read_46 rfl rfl ?_
      refine kj_iloadn hC 2 dX9_read_47 rfl rfl ?_
      refine kj_aloadn hC 0 dX9_read_48 rfl rfl ?_
      refine kj_gN (ci := 9) (k := 2) hC dX9_read_49 kf_X9_23 rfl (fun a3 => ?_)
      refine kj_invV (ci := 7) (q := (RX7, TX7, 2)) (as := []) (rest := [.inl p2, .inl p1, .inl x3, .inr (.inr (some a2)), .inr (.inr (some a2))]) hC hT dX9_read_52 kw375 ky_X7_copy ky2_X7_copy rfl rfl (t_X7_copy a3 h3) rfl rfl (Nat.le_of_ble_eq_true rfl) ⟨by rw [hD]; decide, by decide⟩ ⟨by rw [hmc]; exact Nat.le_of_ble_eq_true rfl, by rw [hms]; exact Nat.le_of_ble_eq_true rfl⟩ (fun a4 h4 => ?_)
      refine kj_norm (st' := [.inr (.inr (some a4)), .inl p2, .inl p1, .inl x3, .inr (.inr (some a2)), .inr (.inr (some a2))]) (c' := 3) (z' := 14) rfl rfl rfl ?_
      refine kj_invI (as := [.inl x3, .inl p1, .inl p2, .inr (.inr (some a4))]) (rest := [.inr (.inr (some a2))]) hC hT dX9_read_55 kw513 ky_X5_init ky2_X5_init rfl (t_X5_init a2 x3 p1 p2 a4 h4) rfl rfl (Nat.le_of_ble_eq_true rfl) ⟨by rw [hD]; decide, by decide⟩ ⟨by rw [hmc]; exact Nat.le_of_ble_eq_true rfl, by rw [hms]; exact Nat.le_of_ble_eq_true rfl⟩ (fun _ h5 => ?_)
      refine kj_norm (st' := [.inr (.inr (some a2))]) (c' := 3) (z' := 14) rfl rfl rfl ?_
      refine kj_astoren (L' := [(3, .inr (.inr (some a2))), (0, .inr (.inr (some p0))), (1, .inl p1), (2, .inl p2)]) hC dX9_read_58 rfl (by decide) rfl ?_
      refine kj_aloadn hC 1 dX9_read_59 rfl rfl ?_
      refine kj_gN (ci := 9) (k := 6) hC dX9_read_60 kf_X9_45 rfl (fun a5 => ?_)
      refine kj_aloadn hC 1 dX9_read_63 rfl rfl ?_
      refine kj_gI (ci := 9) (k := 14) hC dX9_read_64 kf_X9_82 rfl (fun x4 => ?_)
      refine kj_aloadn hC 0 dX9_read_67 rfl rfl ?_
      refine kj_pAN (c := 26) (ci := 5) (q := (RX5, TX5, 6)) hC dX9_read_68 rfl rfl (fun h6 => ?_)
      refine kj_aloadn hC 1 dX9_read_69 rfl rfl ?_
      refine kj_dup hC dX9_read_70 rfl ?_
      refine kj_gI (ci := 9) (k := 14) hC dX9_read_71 kf_X9_82 rfl (fun x5 => ?_)
      refine kj_iconst (v := 1) hC dX9_read_74 (by decide) ?_
      refine kj_iadd hC dX9_read_75 ?_
      refine kj_pI (ci := 9) (k := 14) hC dX9_read_76 kf_X9_82 (Or.inl (kNF_of (by decide))) rfl ⟨rfl, rfl⟩ (fun h7 => ?_)
      refine kj_aloadn hC 1 dX9_read_79 rfl rfl ?_
      refine kj_aloadn hC 0 dX9_read_80 rfl rfl ?_
      refine kj_aloadn hC 1 dX9_read_81 rfl rfl ?_
      refine kj_aloadn hC 0 dX9_read_82 rfl rfl ?_
      refine kj_invV (ci := 9) (q := (RX9, TX9, 17)) (as := [.inr (.inr (some a2))]) (rest := [.inr (.inr (some a2)), .inr (.inr (some p0))]) hC hT dX9_read_83 kw443 ky_X9_plateByText ky2_X9_plateByText rfl rfl (t_X9_plateByText p0 a2 h7) rfl rfl (Nat.le_of_ble_eq_true rfl) ⟨by rw [hD]; decide, by decide⟩ ⟨by rw [hmc]; exact Nat.le_of_ble_eq_true rfl, by rw [hms]; exact Nat.le_of_ble_eq_true rfl⟩ (fun o1 h8 => ?_)
      refine kj_norm (st' := [.inr (.inr o1), .inr (.inr (some a2)), .inr (.inr (some p0))]) (c' := 3) (z' := 14) rfl rfl rfl ?_
      refine kj_invV (ci := 9) (q := (RX9, TX9, 17)) (as := [.inr (.inr (some a2)), .inr (.inr o1)]) (rest := []) hC hT dX9_read_86 kw459 ky_X9_move ky2_X9_move rfl rfl (t_X9_move p0 a2 o1 h8) rfl rfl (Nat.le_of_ble_eq_true rfl) ⟨by rw [hD]; decide, by decide⟩ ⟨by rw [hmc]; exact Nat.le_of_ble_eq_true rfl, by rw [hms]; exact Nat.le_of_ble_eq_true rfl⟩ (fun _ h9 => ?_)
      refine kj_norm (st' := []) (c' := 3) (z' := 14) rfl rfl rfl ?_
      refine kj_aloadn hC 0 dX9_read_89 rfl rfl ?_
      refine kj_gI (ci := 5) (k := 0) hC dX9_read_90 kf_X9_248 rfl (fun x6 => ?_)
      refine kj_fin hmc hms ?_
      exact kj_ireturn hC dX9_read_93
    · exact kj_sub [] rfl (t_zX9_read_b28 hC hN hT hmc hms hD   h2)
set_option maxHeartbeats 4000000 in
set_option maxRecDepth 100000 in
theorem t_zX9_readingNumbered (p0 : Nat) (p1 : Int32) (h : KH) : kM yX9_readingNumbered cX9_readingNumbered 2 (some (.object "Tollkeeper$Reading")) 1 0 0 (fun a : Nat => some (.inr (.inr (some a)))) [.inr (.inr (some p0)), .inl p1] h (f_zX9_readingNumbered p0 p1 h) := by
  refine kM_of RX9 (by decide) rfl (Nat.le_of_ble_eq_true rfl) [(0, .inr (.inr (some p0))), (1, .inl p1)] rfl (fun X hC hN hT hmc hms hD => ?_)
  unfold f_zX9_readingNumbered
  refine kj_iloadn hC 1 dX9_readingNumbered_0 rfl rfl ?_
  refine kj_iconst (v := 0) hC dX9_readingNumbered_1 (by decide) ?_
  refine kj_aloadn hC 0 dX9_readingNumbered_2 rfl rfl ?_
  refine kj_gI (ci := 9) (k := 14) hC dX9_readingNumbered_3 kf_X9_82 rfl (fun x1 => ?_)
  refine kj_iconst (v := 1) hC dX9_readingNumbered_6 (by decide) ?_
  refine kj_isub hC dX9_readingNumbered_7 ?_
  refine kj_invS (as := [.inl p1, .inl 0, .inl (x1 - 1)]) (rest := []) hC hT dX9_readingNumbered_8 kw228 ky_X9_isWithin ky2_X9_isWithin (t_X9_isWithin p1 0 (x1 - 1) h) rfl rfl (Nat.le_of_ble_eq_true rfl) ⟨by rw [hD]; decide, by decide⟩ ⟨by rw [hmc]; exact Nat.le_of_ble_eq_true rfl, by rw [hms]; exact Nat.le_of_ble_eq_true rfl⟩ (fun x2 h1 => ?_)
  refine kj_norm (st' := [.inl x2]) (c' := 0) (z' := 0) rfl rfl rfl ?_
  refine kj_if_ne (tgt := 25) hC dX9_readingNumbered_11 (by decide) (fun q1 => ?_) (fun q1 => ?_)
  · exact kj_none
  · refine kj_aloadn hC 0 dX9_readingNumbered_25 rfl rfl ?_
    refine kj_gN (ci := 9) (k := 6) hC dX9_readingNumbered_26 kf_X9_45 rfl (fun a1 => ?_)
    refine kj_iloadn hC 1 dX9_readingNumbered_29 rfl rfl ?_
    refine kj_gAN (c := 26) hC dX9_readingNumbered_30 rfl ⟨rfl, rfl⟩ (fun a2 => ?_)
    refine kj_fin hmc hms ?_
    exact kj_areturnN hC dX9_readingNumbered_31
set_option maxHeartbeats 4000000 in
set_option maxRecDepth 100000 in
theorem t_zX9_correct_b20 {X : KX} (hC : kC X RX9 cX9_correct 6 (some .int)) (hN : (xme X).name = yX9_correct.name) (hT : kT0 X) (hmc : xmc X = 0) (hms : xms X = 0) (hD : xD X = 5) (v0 : Nat) (v3 : Nat) (s0 : Option Nat) (h : KH) : kJ X (fun x : Int32 => some (.inl x)) 6 0 0 [(0, .inr (.inr (some v0))), (3, .inr (.inr (some v3)))] [.inr (.inr s0)] 20 h (zX9_correct_b20  v0 v3 s0 h) := by
  unfold zX9_correct_b20
  refine kj_astore (L' := [(4, .inr (.inr s0)), (0, .inr (.inr (some v0))), (3, .inr (.inr (some v3)))]) hC dX9_correct_20 (by decide) rfl ?_
  refine kj_aloadn hC 2 dX9_correct_22 rfl rfl ?_
  refine kj_gR (ci := 5) (k := 5) hC dX9_correct_23 kf_X9_253 rfl (fun o1 => ?_)
  refine kj_invS (as := [.inr (.inr o1)]) (rest := []) hC hT dX9_correct_26 kw463 ky_X9_numberOf ky2_X9_numberOf (t_X9_numberOf o1 h) rfl rfl (Nat.le_of_ble_eq_true rfl) ⟨by rw [hD]; decide, by decide⟩ ⟨by rw [hmc]; exact Nat.le_of_ble_eq_true rfl, by rw [hms]; exact Nat.le_of_ble_eq_true rfl⟩ (fun x1 h1 => ?_)
  refine kj_norm (st' := [.inl x1]) (c' := 0) (z' := 0) rfl rfl rfl ?_
  refine kj_istore (L' := [(5, .inl x1), (4, .inr (.inr s0)), (0, .inr (.inr (some v0))), (3, .inr (.inr (some v3)))]) hC dX9_correct_29 (by decide) rfl ?_
  refine kj_aloadn hC 3 dX9_correct_31 rfl rfl ?_
  refine kj_iconst (v := 1) hC dX9_correct_32 (by decide) ?_
  refine kj_pI (ci := 5) (k := 4) hC dX9_correct_33 kf_X9_261 (Or.inl (kNF_of (by decide))) rfl ⟨rfl, rfl⟩ (fun h2 => ?_)
  refine kj_aloadn hC 2 dX9_correct_36 rfl rfl ?_
  refine kj_aloadn hC 3 dX9_correct_37 rfl rfl ?_
  refine kj_aload hC 1 dX9_correct_38 rfl ?_
  refine kj_invV (ci := 9) (q := (RX9, TX9, 17)) (as := [.inr (.inr (some v3)), .inr (.inr s0)]) (rest := []) hC hT dX9_correct_40 kw459 ky_X9_move ky2_X9_move rfl rfl (t_X9_move v0 v3 s0 h2) rfl rfl (Nat.le_of_ble_eq_true rfl) ⟨by rw [hD]; decide, by decide⟩ ⟨by rw [hmc]; exact Nat.le_of_ble_eq_true rfl, by rw [hms]; exact Nat.le_of_ble_eq_true rfl⟩ (fun _ h3 => ?_)
  refine kj_norm (st' := []) (c' := 0) (z' := 0) rfl rfl rfl ?_
  refine kj_iload hC 0 dX9_correct_43 rfl ?_
  refine kj_fin hmc hms ?_
  exact kj_ireturn hC dX9_correct_45
set_option maxHeartbeats 4000000 in
set_option maxRecDepth 100000 in
theorem t_zX9_correct (p0 : Nat) (p1 : Int32) (p2 : Int32) (h : KH) : kM yX9_correct cX9_correct 6 (some .int) 5 0 0 (fun x : Int32 => some (.inl x)) [.inr (.inr (some p0)), .inl p1, .inl p2] h (f_zX9_correct p0 p1 p2 h) := by
  refine kM_of RX9 (by decide) rfl (Nat.le_of_ble_eq_true rfl) [(0, .inr (.inr (some p0))), (1, .inl p1), (2, .inl p2)] rfl (fun X hC hN hT hmc hms hD => ?_)
  unfold f_zX9_correct
  refine kj_aloadn hC 0 dX9_correct_0 rfl rfl ?_
  refine kj_iloadn hC 1 dX9_correct_1 rfl rfl ?_
  refine kj_invV (ci := 9) (q := (RX9, TX9, 17)) (as := [.inl p1]) (rest := []) hC hT dX9_correct_2 kw549 ky_X9_readingNumbered ky2_X9_readingNumbered rfl rfl (t_zX9_readingNumbered p0 p1 h) rfl rfl (Nat.le_of_ble_eq_true rfl) ⟨by rw [hD]; decide, by decide⟩ ⟨by rw [hmc]; exact Nat.le_of_ble_eq_true rfl, by rw [hms]; exact Nat.le_of_ble_eq_true rfl⟩ (fun a1 h1 => ?_)
  refine kj_norm (st' := [.inr (.inr (some a1))]) (c' := 0) (z' := 0) rfl rfl rfl ?_
  refine kj_astoren (L' := [(3, .inr (.inr (some a1))), (0, .inr (.inr (some p0))), (1, .inl p1), (2, .inl p2)]) hC dX9_correct_5 rfl (by decide) rfl ?_
  refine kj_iloadn hC 3 dX9_correct_6 rfl rfl ?_
  refine kj_iconst (v := (-1)) hC dX9_correct_7 (by decide) ?_
  refine kj_icmp_ne (tgt := 15) hC dX9_correct_8 (by decide) (fun q1 => ?_) (fun q1 => ?_)
  · refine kj_null hC dX9_correct_11 ?_
    refine kj_goto (tgt := 20) hC dX9_correct_12 (by decide) ?_
    exact kj_sub [1, 0] rfl (t_zX9_correct_b20 hC hN hT hmc hms hD  p0 a1 none h1)
  · refine kj_aloadn hC 1 dX9_correct_15 rfl rfl ?_
    refine kj_iloadn hC 3 dX9_correct_16 rfl rfl ?_
    refine kj_invV (ci := 9) (q := (RX9, TX9, 17)) (as := [.inl p2]) (rest := []) hC hT dX9_correct_17 kw564 ky_X9_plateNumbered ky2_X9_plateNumbered rfl rfl (t_zX9_plateNumbered p0 p2 h1) rfl rfl (Nat.le_of_ble_eq_true rfl) ⟨by rw [hD]; decide, by decide⟩ ⟨by rw [hmc]; exact Nat.le_of_ble_eq_true rfl, by rw [hms]; exact Nat.le_of_ble_eq_true rfl⟩ (fun a2 h2 => ?_)
    refine kj_norm (st' := [.inr (.inr (some a2))]) (c' := 0) (z' := 0) rfl rfl rfl ?_
    exact kj_sub [1, 0] rfl (t_zX9_correct_b20 hC hN hT hmc hms hD  p0 a1 (some a2) h2)
set_option maxHeartbeats 4000000 in
set_option maxRecDepth 100000 in
theorem t_zX9_uncorrect (p0 : Nat) (p1 : Int32) (h : KH) : kM yX9_uncorrect cX9_uncorrect 3 (some .int) 5 0 0 (fun x : Int32 => some (.inl x)) [.inr (.inr (some p0)), .inl p1] h (f_zX9_uncorrect p0 p1 h) := by
  refine kM_of RX9 (by decide) rfl (Nat.le_of_ble_eq_true rfl) [(0, .inr (.inr (some p0))), (1, .inl p1)] rfl (fun X hC hN hT hmc hms hD => ?_)
  unfold f_zX9_uncorrect
  refine kj_aloadn hC 0 dX9_uncorrect_0 rfl rfl ?_
  refine kj_iloadn hC 1 dX9_uncorrect_1 rfl rfl ?_
  refine kj_invV (ci := 9) (q := (RX9, TX9, 17)) (as := [.inl p1]) (rest := []) hC hT dX9_uncorrect_2 kw549 ky_X9_readingNumbered ky2_X9_readingNumbered rfl rfl (t_zX9_readingNumbered p0 p1 h) rfl rfl (Nat.le_of_ble_eq_true rfl) ⟨by rw [hD]; decide, by decide⟩ ⟨by rw [hmc]; exact Nat.le_of_ble_eq_true rfl, by rw [hms]; exact Nat.le_of_ble_eq_true rfl⟩ (fun a1 h1 => ?_)
  refine kj_norm (st' := [.inr (.inr (some a1))]) (c' := 0) (z' := 0) rfl rfl rfl ?_
  refine kj_astoren (L' := [(2, .inr (.inr (some a1))), (0, .inr (.inr (some p0))), (1, .inl p1)]) hC dX9_uncorrect_5 rfl (by decide) rfl ?_
  refine kj_aloadn hC 0 dX9_uncorrect_6 rfl rfl ?_
  refine kj_gI (ci := 5) (k := 4) hC dX9_uncorrect_7 kf_X9_261 rfl (fun x1 => ?_)
  refine kj_if_ne (tgt := 24) hC dX9_uncorrect_10 (by decide) (fun q1 => ?_) (fun q1 => ?_)
  · exact kj_none
  · refine kj_aloadn hC 0 dX9_uncorrect_24 rfl rfl ?_
    refine kj_iconst (v := 0) hC dX9_uncorrect_25 (by decide) ?_
    refine kj_pI (ci := 5) (k := 4) hC dX9_uncorrect_26 kf_X9_261 (Or.inl (kNF_of (by decide))) rfl ⟨rfl, rfl⟩ (fun h2 => ?_)
    refine kj_aloadn hC 1 dX9_uncorrect_29 rfl rfl ?_
    refine kj_aloadn hC 0 dX9_uncorrect_30 rfl rfl ?_
    refine kj_aloadn hC 1 dX9_uncorrect_31 rfl rfl ?_
    refine kj_aloadn hC 0 dX9_uncorrect_32 rfl rfl ?_
    refine kj_invV (ci := 9) (q := (RX9, TX9, 17)) (as := [.inr (.inr (some a1))]) (rest := [.inr (.inr (some a1)), .inr (.inr (some p0))]) hC hT dX9_uncorrect_33 kw443 ky_X9_plateByText ky2_X9_plateByText rfl rfl (t_X9_plateByText p0 a1 h2) rfl rfl (Nat.le_of_ble_eq_true rfl) ⟨by rw [hD]; decide, by decide⟩ ⟨by rw [hmc]; exact Nat.le_of_ble_eq_true rfl, by rw [hms]; exact Nat.le_of_ble_eq_true rfl⟩ (fun o1 h3 => ?_)
    refine kj_norm (st' := [.inr (.inr o1), .inr (.inr (some a1)), .inr (.inr (some p0))]) (c' := 0) (z' := 0) rfl rfl rfl ?_
    refine kj_invV (ci := 9) (q := (RX9, TX9, 17)) (as := [.inr (.inr (some a1)), .inr (.inr o1)]) (rest := []) hC hT dX9_uncorrect_36 kw459 ky_X9_move ky2_X9_move rfl rfl (t_X9_move p0 a1 o1 h3) rfl rfl (Nat.le_of_ble_eq_true rfl) ⟨by rw [hD]; decide, by decide⟩ ⟨by rw [hmc]; exact Nat.le_of_ble_eq_true rfl, by rw [hms]; exact Nat.le_of_ble_eq_true rfl⟩ (fun _ h4 => ?_)
    refine kj_norm (st' := []) (c' := 0) (z' := 0) rfl rfl rfl ?_
    refine kj_aloadn hC 0 dX9_uncorrect_39 rfl rfl ?_
    refine kj_gR (ci := 5) (k := 5) hC dX9_uncorrect_40 kf_X9_253 rfl (fun o2 => ?_)
    refine kj_invS (as := [.inr (.inr o2)]) (rest := []) hC hT dX9_uncorrect_43 kw463 ky_X9_numberOf ky2_X9_numberOf (t_X9_numberOf o2 h4) rfl rfl (Nat.le_of_ble_eq_true rfl) ⟨by rw [hD]; decide, by decide⟩ ⟨by rw [hmc]; exact Nat.le_of_ble_eq_true rfl, by rw [hms]; exact Nat.le_of_ble_eq_true rfl⟩ (fun x2 h5 => ?_)
    refine kj_norm (st' := [.inl x2]) (c' := 0) (z' := 0) rfl rfl rfl ?_
    refine kj_fin hmc hms ?_
    exact kj_ireturn hC dX9_uncorrect_46
set_option maxHeartbeats 4000000 in
set_option maxRecDepth 100000 in
theorem t_zX9_plateOf (p0 : Nat) (p1 : Int32) (h : KH) : kM yX9_plateOf cX9_plateOf 2 (some .int) 2 0 0 (fun x : Int32 => some (.inl x)) [.inr (.inr (some p0)), .inl p1] h (f_zX9_plateOf p0 p1 h) := by
  refine kM_of RX9 (by decide) rfl (Nat.le_of_ble_eq_true rfl) [(0, .inr (.inr (some p0))), (1, .inl p1)] rfl (fun X hC hN hT hmc hms hD => ?_)
  unfold f_zX9_plateOf
  refine kj_aloadn hC 0 dX9_plateOf_0 rfl rfl ?_
  refine kj_iloadn hC 1 dX9_plateOf_1 rfl rfl ?_
  refine kj_invV (ci := 9) (q := (RX9, TX9, 17)) (as := [.inl p1]) (rest := []) hC hT dX9_plateOf_2 kw549 ky_X9_readingNumbered ky2_X9_readingNumbered rfl rfl (t_zX9_readingNumbered p0 p1 h) rfl rfl (Nat.le_of_ble_eq_true rfl) ⟨by rw [hD]; decide, by decide⟩ ⟨by rw [hmc]; exact Nat.le_of_ble_eq_true rfl, by rw [hms]; exact Nat.le_of_ble_eq_true rfl⟩ (fun a1 h1 => ?_)
  refine kj_norm (st' := [.inr (.inr (some a1))]) (c' := 0) (z' := 0) rfl rfl rfl ?_
  refine kj_gR (ci := 5) (k := 5) hC dX9_plateOf_5 kf_X9_253 rfl (fun o1 => ?_)
  refine kj_invS (as := [.inr (.inr o1)]) (rest := []) hC hT dX9_plateOf_8 kw463 ky_X9_numberOf ky2_X9_numberOf (t_X9_numberOf o1 h1) rfl rfl (Nat.le_of_ble_eq_true rfl) ⟨by rw [hD]; decide, by decide⟩ ⟨by rw [hmc]; exact Nat.le_of_ble_eq_true rfl, by rw [hms]; exact Nat.le_of_ble_eq_true rfl⟩ (fun x1 h2 => ?_)
  refine kj_norm (st' := [.inl x1]) (c' := 0) (z' := 0) rfl rfl rfl ?_
  refine kj_fin hmc hms ?_
  exact kj_ireturn hC dX9_plateOf_11
set_option maxHeartbeats 4000000 in
set_option maxRecDepth 100000 in
theorem t_zX9_cost (p0 : Nat) (p1 : Int32) (p2 : Int32) (h : KH) : kM yX9_cost cX9_cost 4 (some .int) 3 0 0 (fun x : Int32 => some (.inl x)) [.inr (.inr (some p0)), .inl p1, .inl p2] h (f_zX9_cost p0 p1 p2 h) := by
  refine kM_of RX9 (by decide) rfl (Nat.le_of_ble_eq_true rfl) [(0, .inr (.inr (some p0))), (1, .inl p1), (2, .inl p2)] rfl (fun X hC hN hT hmc hms hD => ?_)
  unfold f_zX9_cost
  refine kj_aloadn hC 0 dX9_cost_0 rfl rfl ?_
  refine kj_iloadn hC 1 dX9_cost_1 rfl rfl ?_
  refine kj_invV (ci := 9) (q := (RX9, TX9, 17)) (as := [.inl p1]) (rest := []) hC hT dX9_cost_2 kw549 ky_X9_readingNumbered ky2_X9_readingNumbered rfl rfl (t_zX9_readingNumbered p0 p1 h) rfl rfl (Nat.le_of_ble_eq_true rfl) ⟨by rw [hD]; decide, by decide⟩ ⟨by rw [hmc]; exact Nat.le_of_ble_eq_true rfl, by rw [hms]; exact Nat.le_of_ble_eq_true rfl⟩ (fun a1 h1 => ?_)
  refine kj_norm (st' := [.inr (.inr (some a1))]) (c' := 0) (z' := 0) rfl rfl rfl ?_
  refine kj_astoren (L' := [(3, .inr (.inr (some a1))), (0, .inr (.inr (some p0))), (1, .inl p1), (2, .inl p2)]) hC dX9_cost_5 rfl (by decide) rfl ?_
  refine kj_aloadn hC 1 dX9_cost_6 rfl rfl ?_
  refine kj_gN (ci := 9) (k := 3) hC dX9_cost_7 kf_X9_30 rfl (fun a2 => ?_)
  refine kj_aloadn hC 0 dX9_cost_10 rfl rfl ?_
  refine kj_gN (ci := 5) (k := 3) hC dX9_cost_11 kf_X9_267 rfl (fun a3 => ?_)
  refine kj_aloadn hC 1 dX9_cost_14 rfl rfl ?_
  refine kj_iloadn hC 3 dX9_cost_15 rfl rfl ?_
  refine kj_invV (ci := 9) (q := (RX9, TX9, 17)) (as := [.inl p2]) (rest := [.inr (.inr (some a3)), .inr (.inr (some a2))]) hC hT dX9_cost_16 kw564 ky_X9_plateNumbered ky2_X9_plateNumbered rfl rfl (t_zX9_plateNumbered p0 p2 h1) rfl rfl (Nat.le_of_ble_eq_true rfl) ⟨by rw [hD]; decide, by decide⟩ ⟨by rw [hmc]; exact Nat.le_of_ble_eq_true rfl, by rw [hms]; exact Nat.le_of_ble_eq_true rfl⟩ (fun a4 h2 => ?_)
  refine kj_norm (st' := [.inr (.inr (some a4)), .inr (.inr (some a3)), .inr (.inr (some a2))]) (c' := 0) (z' := 0) rfl rfl rfl ?_
  refine kj_gN (ci := 4) (k := 1) hC dX9_cost_19 kf_X9_270 rfl (fun a5 => ?_)
  refine kj_invV (ci := 2) (q := (RX2, TX2, 1)) (as := [.inr (.inr (some a3)), .inr (.inr (some a5))]) (rest := []) hC hT dX9_cost_22 kw447 ky_X2_costOf ky2_X2_costOf rfl rfl (t_X2_costOf a2 a3 a5 h2) rfl rfl (Nat.le_of_ble_eq_true rfl) ⟨by rw [hD]; decide, by decide⟩ ⟨by rw [hmc]; exact Nat.le_of_ble_eq_true rfl, by rw [hms]; exact Nat.le_of_ble_eq_true rfl⟩ (fun x1 h3 => ?_)
  refine kj_norm (st' := [.inl x1]) (c' := 0) (z' := 0) rfl rfl rfl ?_
  refine kj_fin hmc hms ?_
  exact kj_ireturn hC dX9_cost_25
set_option maxHeartbeats 4000000 in
set_option maxRecDepth 100000 in
theorem t_zX9_trips (p0 : Nat) (p1 : Int32) (h : KH) : kM yX9_trips cX9_trips 2 (some .int) 2 0 0 (fun x : Int32 => some (.inl x)) [.inr (.inr (some p0)), .inl p1] h (f_zX9_trips p0 p1 h) := by
  refine kM_of RX9 (by decide) rfl (Nat.le_of_ble_eq_true rfl) [(0, .inr (.inr (some p0))), (1, .inl p1)] rfl (fun X hC hN hT hmc hms hD => ?_)
  unfold f_zX9_trips
  refine kj_aloadn hC 0 dX9_trips_0 rfl rfl ?_
  refine kj_iloadn hC 1 dX9_trips_1 rfl rfl ?_
  refine kj_invV (ci := 9) (q := (RX9, TX9, 17)) (as := [.inl p1]) (rest := []) hC hT dX9_trips_2 kw564 ky_X9_plateNumbered ky2_X9_plateNumbered rfl rfl (t_zX9_plateNumbered p0 p1 h) rfl rfl (Nat.le_of_ble_eq_true rfl) ⟨by rw [hD]; decide, by decide⟩ ⟨by rw [hmc]; exact Nat.le_of_ble_eq_true rfl, by rw [hms]; exact Nat.le_of_ble_eq_true rfl⟩ (fun a1 h1 => ?_)
  refine kj_norm (st' := [.inr (.inr (some a1))]) (c' := 0) (z' := 0) rfl rfl rfl ?_
  refine kj_gN (ci := 4) (k := 3) hC dX9_trips_5 kf_X9_275 rfl (fun a2 => ?_)
  refine kj_invV (ci := 3) (q := (RX3, TX3, 3)) (as := []) (rest := []) hC hT dX9_trips_8 kw766 ky_X3_tripCount ky2_X3_tripCount rfl rfl (t_X3_tripCount a2 h1) rfl rfl (Nat.le_of_ble_eq_true rfl) ⟨by rw [hD]; decide, by decide⟩ ⟨by rw [hmc]; exact Nat.le_of_ble_eq_true rfl, by rw [hms]; exact Nat.le_of_ble_eq_true rfl⟩ (fun x1 h2 => ?_)
  refine kj_norm (st' := [.inl x1]) (c' := 0) (z' := 0) rfl rfl rfl ?_
  refine kj_fin hmc hms ?_
  exact kj_ireturn hC dX9_trips_11
set_option maxHeartbeats 4000000 in
set_option maxRecDepth 100000 in
theorem t_zX9_tripsAnew (p0 : Nat) (p1 : Int32) (h : KH) : kM yX9_tripsAnew cX9_tripsAnew 2 (some .int) 5 0 0 (fun x : Int32 => some (.inl x)) [.inr (.inr (some p0)), .inl p1] h (f_zX9_tripsAnew p0 p1 h) := by
  refine kM_of RX9 (by decide) rfl (Nat.le_of_ble_eq_true rfl) [(0, .inr (.inr (some p0))), (1, .inl p1)] rfl (fun X hC hN hT hmc hms hD => ?_)
  unfold f_zX9_tripsAnew
  refine kj_aloadn hC 0 dX9_tripsAnew_0 rfl rfl ?_
  refine kj_aloadn hC 0 dX9_tripsAnew_1 rfl rfl ?_
  refine kj_iloadn hC 1 dX9_tripsAnew_2 rfl rfl ?_
  refine kj_invV (ci := 9) (q := (RX9, TX9, 17)) (as := [.inl p1]) (rest := [.inr (.inr (some p0))]) hC hT dX9_tripsAnew_3 kw564 ky_X9_plateNumbered ky2_X9_plateNumbered rfl rfl (t_zX9_plateNumbered p0 p1 h) rfl rfl (Nat.le_of_ble_eq_true rfl) ⟨by rw [hD]; decide, by decide⟩ ⟨by rw [hmc]; exact Nat.le_of_ble_eq_true rfl, by rw [hms]; exact Nat.le_of_ble_eq_true rfl⟩ (fun a1 h1 => ?_)
  refine kj_norm (st' := [.inr (.inr (some a1)), .inr (.inr (some p0))]) (c' := 0) (z' := 0) rfl rfl rfl ?_
  refine kj_invV (ci := 9) (q := (RX9, TX9, 17)) (as := [.inr (.inr (some a1))]) (rest := []) hC hT dX9_tripsAnew_6 kw802 ky_X9_joinAnew ky2_X9_joinAnew rfl rfl (t_X9_joinAnew p0 a1 h1) rfl rfl (Nat.le_of_ble_eq_true rfl) ⟨by rw [hD]; decide, by decide⟩ ⟨by rw [hmc]; exact Nat.le_of_ble_eq_true rfl, by rw [hms]; exact Nat.le_of_ble_eq_true rfl⟩ (fun a2 h2 => ?_)
  refine kj_norm (st' := [.inr (.inr (some a2))]) (c' := 0) (z' := 0) rfl rfl rfl ?_
  refine kj_invV (ci := 3) (q := (RX3, TX3, 3)) (as := []) (rest := []) hC hT dX9_tripsAnew_9 kw766 ky_X3_tripCount ky2_X3_tripCount rfl rfl (t_X3_tripCount a2 h2) rfl rfl (Nat.le_of_ble_eq_true rfl) ⟨by rw [hD]; decide, by decide⟩ ⟨by rw [hmc]; exact Nat.le_of_ble_eq_true rfl, by rw [hms]; exact Nat.le_of_ble_eq_true rfl⟩ (fun x1 h3 => ?_)
  refine kj_norm (st' := [.inl x1]) (c' := 0) (z' := 0) rfl rfl rfl ?_
  refine kj_fin hmc hms ?_
  exact kj_ireturn hC dX9_tripsAnew_12
set_option maxHeartbeats 4000000 in
set_option maxRecDepth 100000 in
theorem t_zX9_tripOf_b28 {X : KX} (hC : kC X RX9 cX9_tripOf 3 (some .int)) (hN : (xme X).name = yX9_tripOf.name) (hT : kT0 X) (hmc : xmc X = 0) (hms : xms X = 0) (hD : xD X = 2) (s0 : Int32) (h : KH) : kJ X (fun x : Int32 => some (.inl x)) 3 0 0 [] [.inl s0] 28 h (zX9_tripOf_b28  s0 h) := by
  unfold zX9_tripOf_b28
  refine kj_fin hmc hms ?_
  exact kj_ireturn hC dX9_tripOf_28
set_option maxHeartbeats 4000000 in
set_option maxRecDepth 100000 in
theorem t_zX9_tripOf (p0 : Nat) (p1 : Int32) (h : KH) : kM yX9_tripOf cX9_tripOf 3 (some .int) 2 0 0 (fun x : Int32 => some (.inl x)) [.inr (.inr (some p0)), .inl p1] h (f_zX9_tripOf p0 p1 h) := by
  refine kM_of RX9 (by decide) rfl (Nat.le_of_ble_eq_true rfl) [(0, .inr (.inr (some p0))), (1, .inl p1)] rfl (fun X hC hN hT hmc hms hD => ?_)
  unfold f_zX9_tripOf
  refine kj_aloadn hC 0 dX9_tripOf_0 rfl rfl ?_
  refine kj_iloadn hC 1 dX9_tripOf_1 rfl rfl ?_
  refine kj_invV (ci := 9) (q := (RX9, TX9, 17)) (as := [.inl p1]) (rest := []) hC hT dX9_tripOf_2 kw549 ky_X9_readingNumbered ky2_X9_readingNumbered rfl rfl (t_zX9_readingNumbered p0 p1 h) rfl rfl (Nat.le_of_ble_eq_true rfl) ⟨by rw [hD]; decide, by decide⟩ ⟨by rw [hmc]; exact Nat.le_of_ble_eq_true rfl, by rw [hms]; exact Nat.le_of_ble_eq_true rfl⟩ (fun a1 h1 => ?_)
  refine kj_norm (st' := [.inr (.inr (some a1))]) (c' := 0) (z' := 0) rfl rfl rfl ?_
  refine kj_astoren (L' := [(2, .inr (.inr (some a1))), (0, .inr (.inr (some p0))), (1, .inl p1)]) hC dX9_tripOf_5 rfl (by decide) rfl ?_
  refine kj_aloadn hC 0 dX9_tripOf_6 rfl rfl ?_
  refine kj_gR (ci := 5) (k := 5) hC dX9_tripOf_7 kf_X9_253 rfl (fun o1 => ?_)
  refine kj_ifnonnull (tgt := 17) hC dX9_tripOf_10 (by decide) (fun q => ?_) (fun a2 q => ?_)
  · subst q
    refine kj_iconst (v := (-1)) hC dX9_tripOf_13 (by decide) ?_
    refine kj_goto (tgt := 28) hC dX9_tripOf_14 (by decide) ?_
    exact kj_sub [] rfl (t_zX9_tripOf_b28 hC hN hT hmc hms hD  ((-1)) h1)
  · subst q
    refine kj_aloadn hC 0 dX9_tripOf_17 rfl rfl ?_
    refine kj_gR (ci := 5) (k := 5) hC dX9_tripOf_18 kf_X9_253 rfl (fun o2 => ?_)
    refine kj_may (fun a3 q => ?_)
    subst q
    refine kj_gN (ci := 4) (k := 3) hC dX9_tripOf_21 kf_X9_275 rfl (fun a4 => ?_)
    refine kj_aloadn hC 0 dX9_tripOf_24 rfl rfl ?_
    refine kj_invV (ci := 3) (q := (RX3, TX3, 3)) (as := [.inr (.inr (some a1))]) (rest := []) hC hT dX9_tripOf_25 kw825 ky_X3_tripWith ky2_X3_tripWith rfl rfl (t_X3_tripWith a4 a1 h1) rfl rfl (Nat.le_of_ble_eq_true rfl) ⟨by rw [hD]; decide, by decide⟩ ⟨by rw [hmc]; exact Nat.le_of_ble_eq_true rfl, by rw [hms]; exact Nat.le_of_ble_eq_true rfl⟩ (fun x1 h2 => ?_)
    refine kj_norm (st' := [.inl x1]) (c' := 0) (z' := 0) rfl rfl rfl ?_
    exact kj_sub [] rfl (t_zX9_tripOf_b28 hC hN hT hmc hms hD  x1 h2)
set_option maxHeartbeats 4000000 in
set_option maxRecDepth 100000 in
theorem t_zX9_requiredBeginning (p0 : Nat) (p1 : Int32) (h : KH) : kM yX9_requiredBeginning cX9_requiredBeginning 3 (some .int) 1 0 0 (fun x : Int32 => some (.inl x)) [.inr (.inr (some p0)), .inl p1] h (f_zX9_requiredBeginning p0 p1 h) := by
  refine kM_of RX9 (by decide) rfl (Nat.le_of_ble_eq_true rfl) [(0, .inr (.inr (some p0))), (1, .inl p1)] rfl (fun X hC hN hT hmc hms hD => ?_)
  unfold f_zX9_requiredBeginning
  refine kj_aloadn hC 0 dX9_requiredBeginning_0 rfl rfl ?_
  refine kj_gN (ci := 4) (k := 3) hC dX9_requiredBeginning_1 kf_X9_275 rfl (fun a1 => ?_)
  refine kj_iloadn hC 1 dX9_requiredBeginning_4 rfl rfl ?_
  refine kj_invV (ci := 3) (q := (RX3, TX3, 3)) (as := [.inl p1]) (rest := []) hC hT dX9_requiredBeginning_5 kw572 ky_X3_beginningOf ky2_X3_beginningOf rfl rfl (t_X3_beginningOf a1 p1 h) rfl rfl (Nat.le_of_ble_eq_true rfl) ⟨by rw [hD]; decide, by decide⟩ ⟨by rw [hmc]; exact Nat.le_of_ble_eq_true rfl, by rw [hms]; exact Nat.le_of_ble_eq_true rfl⟩ (fun x1 h1 => ?_)
  refine kj_norm (st' := [.inl x1]) (c' := 0) (z' := 0) rfl rfl rfl ?_
  refine kj_istoren (L' := [(2, .inl x1), (0, .inr (.inr (some p0))), (1, .inl p1)]) hC dX9_requiredBeginning_8 rfl (by decide) rfl ?_
  refine kj_iloadn hC 0 dX9_requiredBeginning_9 rfl rfl ?_
  refine kj_iconst (v := (-1)) hC dX9_requiredBeginning_10 (by decide) ?_
  refine kj_icmp_ne (tgt := 25) hC dX9_requiredBeginning_11 (by decide) (fun q1 => ?_) (fun q1 => ?_)
  · exact kj_none
  · refine kj_iloadn hC 0 dX9_requiredBeginning_25 rfl rfl ?_
    refine kj_fin hmc hms ?_
    exact kj_ireturn hC dX9_requiredBeginning_26
set_option maxHeartbeats 4000000 in
set_option maxRecDepth 100000 in
theorem t_zX9_toll (p0 : Nat) (p1 : Int32) (p2 : Int32) (h : KH) : kM yX9_toll cX9_toll 4 (some .int) 3 0 0 (fun x : Int32 => some (.inl x)) [.inr (.inr (some p0)), .inl p1, .inl p2] h (f_zX9_toll p0 p1 p2 h) := by
  refine kM_of RX9 (by decide) rfl (Nat.le_of_ble_eq_true rfl) [(0, .inr (.inr (some p0))), (1, .inl p1), (2, .inl p2)] rfl (fun X hC hN hT hmc hms hD => ?_)
  unfold f_zX9_toll
  refine kj_aloadn hC 0 dX9_toll_0 rfl rfl ?_
  refine kj_iloadn hC 1 dX9_toll_1 rfl rfl ?_
  refine kj_invV (ci := 9) (q := (RX9, TX9, 17)) (as := [.inl p1]) (rest := []) hC hT dX9_toll_2 kw564 ky_X9_plateNumbered ky2_X9_plateNumbered rfl rfl (t_zX9_plateNumbered p0 p1 h) rfl rfl (Nat.le_of_ble_eq_true rfl) ⟨by rw [hD]; decide, by decide⟩ ⟨by rw [hmc]; exact Nat.le_of_ble_eq_true rfl, by rw [hms]; exact Nat.le_of_ble_eq_true rfl⟩ (fun a1 h1 => ?_)
  refine kj_norm (st' := [.inr (.inr (some a1))]) (c' := 0) (z' := 0) rfl rfl rfl ?_
  refine kj_astoren (L' := [(3, .inr (.inr (some a1))), (0, .inr (.inr (some p0))), (1, .inl p1), (2, .inl p2)]) hC dX9_toll_5 rfl (by decide) rfl ?_
  refine kj_aloadn hC 1 dX9_toll_6 rfl rfl ?_
  refine kj_aloadn hC 0 dX9_toll_7 rfl rfl ?_
  refine kj_gN (ci := 4) (k := 3) hC dX9_toll_8 kf_X9_275 rfl (fun a2 => ?_)
  refine kj_aloadn hC 0 dX9_toll_11 rfl rfl ?_
  refine kj_iloadn hC 3 dX9_toll_12 rfl rfl ?_
  refine kj_invS (as := [.inr (.inr (some a1)), .inl p2]) (rest := [.inr (.inr (some a2)), .inr (.inr (some p0))]) hC hT dX9_toll_13 kw569 ky_X9_requiredBeginning ky2_X9_requiredBeginning (t_zX9_requiredBeginning a1 p2 h1) rfl rfl (Nat.le_of_ble_eq_true rfl) ⟨by rw [hD]; decide, by decide⟩ ⟨by rw [hmc]; exact Nat.le_of_ble_eq_true rfl, by rw [hms]; exact Nat.le_of_ble_eq_true rfl⟩ (fun x1 h2 => ?_)
  refine kj_norm (st' := [.inl x1, .inr (.inr (some a2)), .inr (.inr (some p0))]) (c' := 0) (z' := 0) rfl rfl rfl ?_
  refine kj_aloadn hC 0 dX9_toll_16 rfl rfl ?_
  refine kj_invV (ci := 9) (q := (RX9, TX9, 17)) (as := [.inr (.inr (some a2)), .inl x1, .inr (.inr (some a1))]) (rest := []) hC hT dX9_toll_17 kw577 ky_X9_tollFrom ky2_X9_tollFrom rfl rfl (t_X9_tollFrom p0 a2 x1 a1 h2) rfl rfl (Nat.le_of_ble_eq_true rfl) ⟨by rw [hD]; decide, by decide⟩ ⟨by rw [hmc]; exact Nat.le_of_ble_eq_true rfl, by rw [hms]; exact Nat.le_of_ble_eq_true rfl⟩ (fun x2 h3 => ?_)
  refine kj_norm (st' := [.inl x2]) (c' := 0) (z' := 0) rfl rfl rfl ?_
  refine kj_fin hmc hms ?_
  exact kj_ireturn hC dX9_toll_20
set_option maxHeartbeats 4000000 in
set_option maxRecDepth 100000 in
theorem t_zX9_driverOf (p0 : Nat) (p1 : Int32) (p2 : Int32) (h : KH) : kM yX9_driverOf cX9_driverOf 5 (some .int) 2 0 0 (fun x : Int32 => some (.inl x)) [.inr (.inr (some p0)), .inl p1, .inl p2] h (f_zX9_driverOf p0 p1 p2 h) := by
  refine kM_of RX9 (by decide) rfl (Nat.le_of_ble_eq_true rfl) [(0, .inr (.inr (some p0))), (1, .inl p1), (2, .inl p2)] rfl (fun X hC hN hT hmc hms hD => ?_)
  unfold f_zX9_driverOf
  refine kj_aloadn hC 0 dX9_driverOf_0 rfl rfl ?_
  refine kj_iloadn hC 1 dX9_driverOf_1 rfl rfl ?_
  refine kj_invV (ci := 9) (q := (RX9, TX9, 17)) (as := [.inl p1]) (rest := []) hC hT dX9_driverOf_2 kw564 ky_X9_plateNumbered ky2_X9_plateNumbered rfl rfl (t_zX9_plateNumbered p0 p1 h) rfl rfl (Nat.le_of_ble_eq_true rfl) ⟨by rw [hD]; decide, by decide⟩ ⟨by rw [hmc]; exact Nat.le_of_ble_eq_true rfl, by rw [hms]; exact Nat.le_of_ble_eq_true rfl⟩ (fun a1 h1 => ?_)
  refine kj_norm (st' := [.inr (.inr (some a1))]) (c' := 0) (z' := 0) rfl rfl rfl ?_
  refine kj_astoren (L' := [(3, .inr (.inr (some a1))), (0, .inr (.inr (some p0))), (1, .inl p1), (2, .inl p2)]) hC dX9_driverOf_5 rfl (by decide) rfl ?_
  refine kj_aloadn hC 0 dX9_driverOf_6 rfl rfl ?_
  refine kj_iloadn hC 3 dX9_driverOf_7 rfl rfl ?_
  refine kj_invS (as := [.inr (.inr (some a1)), .inl p2]) (rest := []) hC hT dX9_driverOf_8 kw569 ky_X9_requiredBeginning ky2_X9_requiredBeginning (t_zX9_requiredBeginning a1 p2 h1) rfl rfl (Nat.le_of_ble_eq_true rfl) ⟨by rw [hD]; decide, by decide⟩ ⟨by rw [hmc]; exact Nat.le_of_ble_eq_true rfl, by rw [hms]; exact Nat.le_of_ble_eq_true rfl⟩ (fun x1 h2 => ?_)
  refine kj_norm (st' := [.inl x1]) (c' := 0) (z' := 0) rfl rfl rfl ?_
  refine kj_istore (L' := [(4, .inl x1), (3, .inr (.inr (some a1))), (0, .inr (.inr (some p0))), (1, .inl p1), (2, .inl p2)]) hC dX9_driverOf_11 (by decide) rfl ?_
  refine kj_aloadn hC 1 dX9_driverOf_13 rfl rfl ?_
  refine kj_aloadn hC 1 dX9_driverOf_14 rfl rfl ?_
  refine kj_gN (ci := 4) (k := 3) hC dX9_driverOf_15 kf_X9_275 rfl (fun a2 => ?_)
  refine kj_gN (ci := 3) (k := 0) hC dX9_driverOf_18 kf_X9_297 rfl (fun a3 => ?_)
  refine kj_iload hC 0 dX9_driverOf_21 rfl ?_
  refine kj_gAN (c := 26) hC dX9_driverOf_23 rfl ⟨rfl, rfl⟩ (fun a4 => ?_)
  refine kj_gI (ci := 5) (k := 2) hC dX9_driverOf_24 kf_X9_300 rfl (fun x2 => ?_)
  refine kj_invV (ci := 4) (q := (RX4, TX4, 5)) (as := [.inl x2]) (rest := []) hC hT dX9_driverOf_27 kw612 ky_X4_driverIn ky2_X4_driverIn rfl rfl (t_X4_driverIn a1 x2 h2) rfl rfl (Nat.le_of_ble_eq_true rfl) ⟨by rw [hD]; decide, by decide⟩ ⟨by rw [hmc]; exact Nat.le_of_ble_eq_true rfl, by rw [hms]; exact Nat.le_of_ble_eq_true rfl⟩ (fun x3 h3 => ?_)
  refine kj_norm (st' := [.inl x3]) (c' := 0) (z' := 0) rfl rfl rfl ?_
  refine kj_fin hmc hms ?_
  exact kj_ireturn hC dX9_driverOf_30
set_option maxHeartbeats 4000000 in
set_option maxRecDepth 100000 in
theorem t_zX9_due (p0 : Nat) (p1 : Int32) (h : KH) : kM yX9_due cX9_due 2 (some .int) 5 0 0 (fun x : Int32 => some (.inl x)) [.inr (.inr (some p0)), .inl p1] h (f_zX9_due p0 p1 h) := by
  refine kM_of RX9 (by decide) rfl (Nat.le_of_ble_eq_true rfl) [(0, .inr (.inr (some p0))), (1, .inl p1)] rfl (fun X hC hN hT hmc hms hD => ?_)
  unfold f_zX9_due
  refine kj_iloadn hC 1 dX9_due_0 rfl rfl ?_
  refine kj_invS (as := [.inl p1]) (rest := []) hC hT dX9_due_1 kw338 ky_X9_requireDriver ky2_X9_requireDriver (t_zX9_requireDriver p1 h) rfl rfl (Nat.le_of_ble_eq_true rfl) ⟨by rw [hD]; decide, by decide⟩ ⟨by rw [hmc]; exact Nat.le_of_ble_eq_true rfl, by rw [hms]; exact Nat.le_of_ble_eq_true rfl⟩ (fun _ h1 => ?_)
  refine kj_norm (st' := []) (c' := 0) (z' := 0) rfl rfl rfl ?_
  refine kj_aloadn hC 0 dX9_due_4 rfl rfl ?_
  refine kj_iloadn hC 1 dX9_due_5 rfl rfl ?_
  refine kj_invV (ci := 9) (q := (RX9, TX9, 17)) (as := [.inl p1]) (rest := []) hC hT dX9_due_6 kw790 ky_X9_dueByKept ky2_X9_dueByKept rfl rfl (t_X9_dueByKept p0 p1 h1) rfl rfl (Nat.le_of_ble_eq_true rfl) ⟨by rw [hD]; decide, by decide⟩ ⟨by rw [hmc]; exact Nat.le_of_ble_eq_true rfl, by rw [hms]; exact Nat.le_of_ble_eq_true rfl⟩ (fun x1 h2 => ?_)
  refine kj_norm (st' := [.inl x1]) (c' := 0) (z' := 0) rfl rfl rfl ?_
  refine kj_fin hmc hms ?_
  exact kj_ireturn hC dX9_due_9
set_option maxHeartbeats 4000000 in
set_option maxRecDepth 100000 in
theorem t_zX9_dueAnew_b8 {X : KX} (hC : kC X RX9 cX9_dueAnew 5 (some .int)) (hN : (xme X).name = yX9_dueAnew.name) (hT : kT0 X) (hmc : xmc X = 0) (hms : xms X = 0) (hD : xD X = 5) (rc8 : Nat → Int32 → Int32 → Int32 → KH → KO Int32) (hr8 : ∀ (v0 : Nat) (v1 : Int32) (v2 : Int32) (v3 : Int32) (h : KH), kJ X (fun x : Int32 => some (.inl x)) 5 0 0 [(0, .inr (.inr (some v0))), (1, .inl v1), (2, .inl v2), (3, .inl v3)] [] 8 h (rc8 v0 v1 v2 v3 h)) (v0 : Nat) (v1 : Int32) (v2 : Int32) (v3 : Int32) (h : KH) : kJ X (fun x : Int32 => some (.inl x)) 5 0 0 [(0, .inr (.inr (some v0))), (1, .inl v1), (2, .inl v2), (3, .inl v3)] [] 8 h (zX9_dueAnew_b8 rc8 v0 v1 v2 v3 h) := by
  unfold zX9_dueAnew_b8
  refine kj_iloadn hC 3 dX9_dueAnew_8 rfl rfl ?_
  refine kj_aloadn hC 0 dX9_dueAnew_9 rfl rfl ?_
  refine kj_gI (ci := 9) (k := 13) hC dX9_dueAnew_10 kf_X9_79 rfl (fun x1 => ?_)
  refine kj_icmp_ge (tgt := 46) hC dX9_dueAnew_13 (by decide) (fun q1 => ?_) (fun q1 => ?_)
  · refine kj_iloadn hC 2 dX9_dueAnew_46 rfl rfl ?_
    refine kj_fin hmc hms ?_
    exact kj_ireturn hC dX9_dueAnew_47
  · refine kj_aloadn hC 0 dX9_dueAnew_16 rfl rfl ?_
    refine kj_gN (ci := 9) (k := 4) hC dX9_dueAnew_17 kf_X9_36 rfl (fun a1 => ?_)
    refine kj_iloadn hC 3 dX9_dueAnew_20 rfl rfl ?_
    refine kj_gAN (c := 25) hC dX9_dueAnew_21 rfl ⟨rfl, rfl⟩ (fun a2 => ?_)
    refine kj_astore (L' := [(4, .inr (.inr (some a2))), (0, .inr (.inr (some v0))), (1, .inl v1), (2, .inl v2), (3, .inl v3)]) hC dX9_dueAnew_22 (by decide) rfl ?_
    refine kj_iloadn hC 3 dX9_dueAnew_24 rfl rfl ?_
    refine kj_aloadn hC 1 dX9_dueAnew_25 rfl rfl ?_
    refine kj_aload hC 0 dX9_dueAnew_26 rfl ?_
    refine kj_aloadn hC 1 dX9_dueAnew_28 rfl rfl ?_
    refine kj_aload hC 0 dX9_dueAnew_29 rfl ?_
    refine kj_invV (ci := 9) (q := (RX9, TX9, 17)) (as := [.inr (.inr (some a2))]) (rest := [.inr (.inr (some a2)), .inr (.inr (some v0)), .inl v2]) hC hT dX9_dueAnew_31 kw802 ky_X9_joinAnew ky2_X9_joinAnew rfl rfl (t_X9_joinAnew v0 a2 h) rfl rfl (Nat.le_of_ble_eq_true rfl) ⟨by rw [hD]; decide, by decide⟩ ⟨by rw [hmc]; exact Nat.le_of_ble_eq_true rfl, by rw [hms]; exact Nat.le_of_ble_eq_true rfl⟩ (fun a3 h1 => ?_)
    refine kj_norm (st' := [.inr (.inr (some a3)), .inr (.inr (some a2)), .inr (.inr (some v0)), .inl v2]) (c' := 0) (z' := 0) rfl rfl rfl ?_
    refine kj_iloadn hC 2 dX9_dueAnew_34 rfl rfl ?_
    refine kj_invV (ci := 9) (q := (RX9, TX9, 17)) (as := [.inr (.inr (some a2)), .inr (.inr (some a3)), .inl v1]) (rest := [.inl v2]) hC hT dX9_dueAnew_35 kw794 ky_X9_dueFor ky2_X9_dueFor rfl rfl (t_X9_dueFor v0 a2 a3 v1 h1) rfl rfl (Nat.le_of_ble_eq_true rfl) ⟨by rw [hD]; decide, by decide⟩ ⟨by rw [hmc]; exact Nat.le_of_ble_eq_true rfl, by rw [hms]; exact Nat.le_of_ble_eq_true rfl⟩ (fun x2 h2 => ?_)
    refine kj_norm (st' := [.inl x2, .inl v2]) (c' := 0) (z' := 0) rfl rfl rfl ?_
    refine kj_iadd hC dX9_dueAnew_38 ?_
    refine kj_istoren (L' := [(2, .inl (v2 + x2)), (4, .inr (.inr (some a2))), (0, .inr (.inr (some v0))), (1, .inl v1), (3, .inl v3)]) hC dX9_dueAnew_39 rfl (by decide) rfl ?_
    refine kj_iinc (v := v3 + 1) (L' := [(3, .inl (v3 + 1)), (2, .inl (v2 + x2)), (4, .inr (.inr (some a2))), (0, .inr (.inr (some v0))), (1, .inl v1)]) hC 4 dX9_dueAnew_40 rfl rfl (by decide) rfl ?_
    refine kj_goto (tgt := 8) hC dX9_dueAnew_43 (by decide) ?_
    exact kj_sub [3, 4, 1, 0] rfl (hr8 v0 v1 (v2 + x2) (v3 + 1) h2)
set_option maxHeartbeats 4000000 in
set_option maxRecDepth 100000 in
theorem t_zX9_dueAnew_L8 {X : KX} (hC : kC X RX9 cX9_dueAnew 5 (some .int)) (hN : (xme X).name = yX9_dueAnew.name) (hT : kT0 X) (hmc : xmc X = 0) (hms : xms X = 0) (hD : xD X = 5) : ∀ (n : Nat) (v0 : Nat) (v1 : Int32) (v2 : Int32) (v3 : Int32) (h : KH), kJ X (fun x : Int32 => some (.inl x)) 5 0 0 [(0, .inr (.inr (some v0))), (1, .inl v1), (2, .inl v2), (3, .inl v3)] [] 8 h (zX9_dueAnew_L8  n v0 v1 v2 v3 h) := by
  intro n
  induction n with
  | zero => intro v0 v1 v2 v3 h; exact kj_none
  | succ n ih => intro v0 v1 v2 v3 h; exact t_zX9_dueAnew_b8 hC hN hT hmc hms hD (zX9_dueAnew_L8  n) ih v0 v1 v2 v3 h
set_option maxHeartbeats 4000000 in
set_option maxRecDepth 100000 in
theorem t_zX9_dueAnew (p0 : Nat) (p1 : Int32) (h : KH) : kM yX9_dueAnew cX9_dueAnew 5 (some .int) 5 0 0 (fun x : Int32 => some (.inl x)) [.inr (.inr (some p0)), .inl p1] h (f_zX9_dueAnew p0 p1 h) := by
  refine kM_of RX9 (by decide) rfl (Nat.le_of_ble_eq_true rfl) [(0, .inr (.inr (some p0))), (1, .inl p1)] rfl (fun X hC hN hT hmc hms hD => ?_)
  unfold f_zX9_dueAnew
  refine kj_iloadn hC 1 dX9_dueAnew_0 rfl rfl ?_
  refine kj_invS (as := [.inl p1]) (rest := []) hC hT dX9_dueAnew_1 kw338 ky_X9_requireDriver ky2_X9_requireDriver (t_zX9_requireDriver p1 h) rfl rfl (Nat.le_of_ble_eq_true rfl) ⟨by rw [hD]; decide, by decide⟩ ⟨by rw [hmc]; exact Nat.le_of_ble_eq_true rfl, by rw [hms]; exact Nat.le_of_ble_eq_true rfl⟩ (fun _ h1 => ?_)
  refine kj_norm (st' := []) (c' := 0) (z' := 0) rfl rfl rfl ?_
  refine kj_iconst (v := 0) hC dX9_dueAnew_4 (by decide) ?_
  refine kj_istoren (L' := [(2, .inl 0), (0, .inr (.inr (some p0))), (1, .inl p1)]) hC dX9_dueAnew_5 rfl (by decide) rfl ?_
  refine kj_iconst (v := 0) hC dX9_dueAnew_6 (by decide) ?_
  refine kj_istoren (L' := [(3, .inl 0), (2, .inl 0), (0, .inr (.inr (some p0))), (1, .inl p1)]) hC dX9_dueAnew_7 rfl (by decide) rfl ?_
  exact kj_sub [2, 3, 1, 0] rfl (t_zX9_dueAnew_L8 hC hN hT hmc hms hD  kF p0 p1 0 0 h1)
set_option maxHeartbeats 4000000 in
set_option maxRecDepth 100000 in
theorem t_zX9_billed (p0 : Nat) (p1 : Int32) (h : KH) : kM yX9_billed cX9_billed 2 (some .long) 2 0 0 (fun x : Int64 => some (.inr (.inl x))) [.inr (.inr (some p0)), .inl p1] h (f_zX9_billed p0 p1 h) := by
  refine kM_of RX9 (by decide) rfl (Nat.le_of_ble_eq_true rfl) [(0, .inr (.inr (some p0))), (1, .inl p1)] rfl (fun X hC hN hT hmc hms hD => ?_)
  unfold f_zX9_billed
  refine kj_iloadn hC 1 dX9_billed_0 rfl rfl ?_
  refine kj_invS (as := [.inl p1]) (rest := []) hC hT dX9_billed_1 kw338 ky_X9_requireDriver ky2_X9_requireDriver (t_zX9_requireDriver p1 h) rfl rfl (Nat.le_of_ble_eq_true rfl) ⟨by rw [hD]; decide, by decide⟩ ⟨by rw [hmc]; exact Nat.le_of_ble_eq_true rfl, by rw [hms]; exact Nat.le_of_ble_eq_true rfl⟩ (fun _ h1 => ?_)
  refine kj_norm (st' := []) (c' := 0) (z' := 0) rfl rfl rfl ?_
  refine kj_aloadn hC 0 dX9_billed_4 rfl rfl ?_
  refine kj_gN (ci := 9) (k := 9) hC dX9_billed_5 kf_X9_61 rfl (fun a1 => ?_)
  refine kj_iloadn hC 1 dX9_billed_8 rfl rfl ?_
  refine kj_gAL hC dX9_billed_9 (fun x1 => ?_)
  refine kj_fin hmc hms ?_
  exact kj_lreturn hC dX9_billed_10
set_option maxHeartbeats 4000000 in
set_option maxRecDepth 100000 in
theorem t_zX9_paidBack (p0 : Nat) (p1 : Int32) (h : KH) : kM yX9_paidBack cX9_paidBack 2 (some .long) 2 0 0 (fun x : Int64 => some (.inr (.inl x))) [.inr (.inr (some p0)), .inl p1] h (f_zX9_paidBack p0 p1 h) := by
  refine kM_of RX9 (by decide) rfl (Nat.le_of_ble_eq_true rfl) [(0, .inr (.inr (some p0))), (1, .inl p1)] rfl (fun X hC hN hT hmc hms hD => ?_)
  unfold f_zX9_paidBack
  refine kj_iloadn hC 1 dX9_paidBack_0 rfl rfl ?_
  refine kj_invS (as := [.inl p1]) (rest := []) hC hT dX9_paidBack_1 kw338 ky_X9_requireDriver ky2_X9_requireDriver (t_zX9_requireDriver p1 h) rfl rfl (Nat.le_of_ble_eq_true rfl) ⟨by rw [hD]; decide, by decide⟩ ⟨by rw [hmc]; exact Nat.le_of_ble_eq_true rfl, by rw [hms]; exact Nat.le_of_ble_eq_true rfl⟩ (fun _ h1 => ?_)
  refine kj_norm (st' := []) (c' := 0) (z' := 0) rfl rfl rfl ?_
  refine kj_aloadn hC 0 dX9_paidBack_4 rfl rfl ?_
  refine kj_gN (ci := 9) (k := 10) hC dX9_paidBack_5 kf_X9_65 rfl (fun a1 => ?_)
  refine kj_iloadn hC 1 dX9_paidBack_8 rfl rfl ?_
  refine kj_gAL hC dX9_paidBack_9 (fun x1 => ?_)
  refine kj_fin hmc hms ?_
  exact kj_lreturn hC dX9_paidBack_10
