set_option maxHeartbeats 4000000 in
set_option maxRecDepth 100000 in
theorem t_L_pass (p0 : Nat) (p1 : Int32) (p2 : Nat) (h : KH) : kMX yL_pass cL_pass 4 (some .int) [(0, 9, 12, 13), (0, 9, 15, 15)] 7 1 6 encI [.inr (.inr (some p0)), .inl p1, .inr (.inr (some p2))] h (f_L_pass p0 p1 p2 h) := by
  refine kMX_of RL (by decide) rfl (Nat.le_of_ble_eq_true rfl) [(0, .inr (.inr (some p0))), (1, .inl p1), (2, .inr (.inr (some p2)))] rfl (fun X hC hT hmc hms hD => ?_)
  unfold f_L_pass
  refine kj_aloadn hC 2 dL_pass_0 rfl rfl ?_
  refine kj_iconst (v := 0) hC dL_pass_1 (by decide) ?_
  refine kj_aloadn hC 0 dL_pass_2 rfl rfl ?_
  refine kj_iloadn hC 1 dL_pass_3 rfl rfl ?_
  refine kj_tryV (ci := 9) (q := (RX9, TX9, 17)) (as := [.inl p1]) (rest := [.inl 0, .inr (.inr (some p2))]) hC hT dL_pass_4 kw280 ky_X9_pass ky2_X9_pass rfl rfl (t_X9_pass p0 p1 h) rfl rfl (Nat.le_of_ble_eq_true rfl) ⟨by rw [hD]; decide, by decide⟩ ⟨by rw [hmc]; exact Nat.le_of_ble_eq_true rfl, by rw [hms]; exact Nat.le_of_ble_eq_true rfl⟩ ?_ (fun x1 h1 => ?_)
  · intro e h1
    by_cases q0 : e = 1
    · subst q0; exact Or.inr ⟨1, rfl, [], ⟨0, 9, 12, 13⟩, [⟨0, 9, 15, 15⟩], rfl, (fun z hz => by cases hz), by decide, by decide, kw278, ⟨3, 13, 14, by decide, Or.inl ⟨3, rfl, dL_pass_12, rfl⟩, ⟨1, dL_pass_13, by decide⟩, rfl, dL_pass_14⟩⟩
    · skip
      by_cases q1 : e = 2
      · subst q1; exact Or.inr ⟨2, rfl, [⟨0, 9, 12, 13⟩], ⟨0, 9, 15, 15⟩, [], rfl, (fun z hz => by obtain rfl := List.mem_singleton.mp hz; exact ⟨by decide, "java/lang/IllegalArgumentException", kw278, by decide, by decide⟩), by decide, by decide, kw279, ⟨3, 16, 17, by decide, Or.inl ⟨3, rfl, dL_pass_15, rfl⟩, ⟨2, dL_pass_16, by decide⟩, rfl, dL_pass_17⟩⟩
      · left; simp only [q0, q1, if_false]
  · refine kj_norm (st' := [.inl x1, .inl 0, .inr (.inr (some p2))]) (c' := 1) (z' := 6) rfl rfl rfl ?_
    refine kj_i2l hC dL_pass_7 ?_
    refine kj_pAL hC dL_pass_8 (fun h2 => ?_)
    refine kj_goto (tgt := 18) hC dL_pass_9 (by decide) ?_
    refine kj_iconst (v := 0) hC dL_pass_18 (by decide) ?_
    refine kj_fin hmc hms ?_
    exact kj_ireturn hC dL_pass_19
set_option maxHeartbeats 4000000 in
set_option maxRecDepth 100000 in
theorem t_L_road (p0 : Nat) (p1 : Int32) (p2 : Int32) (p3 : Int32) (p4 : Nat) (h : KH) : kMX yL_road cL_road 6 (some .int) [(0, 12, 15, 21), (0, 12, 19, 13)] 8 3 18 encI [.inr (.inr (some p0)), .inl p1, .inl p2, .inl p3, .inr (.inr (some p4))] h (f_L_road p0 p1 p2 p3 p4 h) := by
  refine kMX_of RL (by decide) rfl (Nat.le_of_ble_eq_true rfl) [(0, .inr (.inr (some p0))), (1, .inl p1), (2, .inl p2), (3, .inl p3), (4, .inr (.inr (some p4)))] rfl (fun X hC hT hmc hms hD => ?_)
  unfold f_L_road
  refine kj_aload hC 4 dL_road_0 rfl ?_
  refine kj_iconst (v := 0) hC dL_road_2 (by decide) ?_
  refine kj_aloadn hC 0 dL_road_3 rfl rfl ?_
  refine kj_iloadn hC 1 dL_road_4 rfl rfl ?_
  refine kj_iloadn hC 2 dL_road_5 rfl rfl ?_
  refine kj_iloadn hC 3 dL_road_6 rfl rfl ?_
  refine kj_tryV (ci := 9) (q := (RX9, TX9, 17)) (as := [.inl p1, .inl p2, .inl p3]) (rest := [.inl 0, .inr (.inr (some p4))]) hC hT dL_road_7 kw377 ky_X9_road ky2_X9_road rfl rfl (t_X9_road p0 p1 p2 p3 h) rfl rfl (Nat.le_of_ble_eq_true rfl) ⟨by rw [hD]; decide, by decide⟩ ⟨by rw [hmc]; exact Nat.le_of_ble_eq_true rfl, by rw [hms]; exact Nat.le_of_ble_eq_true rfl⟩ ?_ (fun x1 h1 => ?_)
  · intro e h1
    by_cases q0 : e = 3
    · subst q0; exact Or.inr ⟨1, rfl, [], ⟨0, 12, 15, 21⟩, [⟨0, 12, 19, 13⟩], rfl, (fun z hz => by cases hz), by decide, by decide, kw376, ⟨5, 17, 18, by decide, Or.inr ⟨dL_road_15, rfl⟩, ⟨1, dL_road_17, by decide⟩, rfl, dL_road_18⟩⟩
    · skip
      by_cases q1 : e = 1
      · subst q1; exact Or.inr ⟨2, rfl, [⟨0, 12, 15, 21⟩], ⟨0, 12, 19, 13⟩, [], rfl, (fun z hz => by obtain rfl := List.mem_singleton.mp hz; exact ⟨by decide, "java/lang/IndexOutOfBoundsException", kw376, by decide, by decide⟩), by decide, by decide, kw278, ⟨5, 21, 22, by decide, Or.inr ⟨dL_road_19, rfl⟩, ⟨2, dL_road_21, by decide⟩, rfl, dL_road_22⟩⟩
      · left; simp only [q0, q1, if_false]
  · refine kj_norm (st' := [.inl x1, .inl 0, .inr (.inr (some p4))]) (c' := 3) (z' := 18) rfl rfl rfl ?_
    refine kj_i2l hC dL_road_10 ?_
    refine kj_pAL hC dL_road_11 (fun h2 => ?_)
    refine kj_goto (tgt := 23) hC dL_road_12 (by decide) ?_
    refine kj_iconst (v := 0) hC dL_road_23 (by decide) ?_
    refine kj_fin hmc hms ?_
    exact kj_ireturn hC dL_road_24
set_option maxHeartbeats 4000000 in
set_option maxRecDepth 100000 in
theorem t_L_distance (p0 : Nat) (p1 : Int32) (p2 : Int32) (p3 : Nat) (h : KH) : kMX yL_distance cL_distance 5 (some .int) [(0, 10, 13, 21)] 8 2 12 encI [.inr (.inr (some p0)), .inl p1, .inl p2, .inr (.inr (some p3))] h (f_L_distance p0 p1 p2 p3 h) := by
  refine kMX_of RL (by decide) rfl (Nat.le_of_ble_eq_true rfl) [(0, .inr (.inr (some p0))), (1, .inl p1), (2, .inl p2), (3, .inr (.inr (some p3)))] rfl (fun X hC hT hmc hms hD => ?_)
  unfold f_L_distance
  refine kj_aloadn hC 3 dL_distance_0 rfl rfl ?_
  refine kj_iconst (v := 0) hC dL_distance_1 (by decide) ?_
  refine kj_aloadn hC 0 dL_distance_2 rfl rfl ?_
  refine kj_iloadn hC 1 dL_distance_3 rfl rfl ?_
  refine kj_iloadn hC 2 dL_distance_4 rfl rfl ?_
  refine kj_tryV (ci := 9) (q := (RX9, TX9, 17)) (as := [.inl p1, .inl p2]) (rest := [.inl 0, .inr (.inr (some p3))]) hC hT dL_distance_5 kw429 ky_X9_distance ky2_X9_distance rfl rfl (t_X9_distance p0 p1 p2 h) rfl rfl (Nat.le_of_ble_eq_true rfl) ⟨by rw [hD]; decide, by decide⟩ ⟨by rw [hmc]; exact Nat.le_of_ble_eq_true rfl, by rw [hms]; exact Nat.le_of_ble_eq_true rfl⟩ ?_ (fun x1 h1 => ?_)
  · intro e h1
    by_cases q0 : e = 3
    · subst q0; exact Or.inr ⟨1, rfl, [], ⟨0, 10, 13, 21⟩, [], rfl, (fun z hz => by cases hz), by decide, by decide, kw376, ⟨4, 15, 16, by decide, Or.inr ⟨dL_distance_13, rfl⟩, ⟨1, dL_distance_15, by decide⟩, rfl, dL_distance_16⟩⟩
    · left; simp only [q0, if_false]
  · refine kj_norm (st' := [.inl x1, .inl 0, .inr (.inr (some p3))]) (c' := 2) (z' := 12) rfl rfl rfl ?_
    refine kj_i2l hC dL_distance_8 ?_
    refine kj_pAL hC dL_distance_9 (fun h2 => ?_)
    refine kj_goto (tgt := 17) hC dL_distance_10 (by decide) ?_
    refine kj_iconst (v := 0) hC dL_distance_17 (by decide) ?_
    refine kj_fin hmc hms ?_
    exact kj_ireturn hC dL_distance_18
set_option maxHeartbeats 4000000 in
set_option maxRecDepth 100000 in
theorem t_L_setPause (p0 : Nat) (p1 : Int32) (p2 : Nat) (h : KH) : kMX yL_setPause cL_setPause 4 (some .int) [(0, 9, 12, 13)] 7 1 6 encI [.inr (.inr (some p0)), .inl p1, .inr (.inr (some p2))] h (f_L_setPause p0 p1 p2 h) := by
  refine kMX_of RL (by decide) rfl (Nat.le_of_ble_eq_true rfl) [(0, .inr (.inr (some p0))), (1, .inl p1), (2, .inr (.inr (some p2)))] rfl (fun X hC hT hmc hms hD => ?_)
  unfold f_L_setPause
  refine kj_aloadn hC 2 dL_setPause_0 rfl rfl ?_
  refine kj_iconst (v := 0) hC dL_setPause_1 (by decide) ?_
  refine kj_aloadn hC 0 dL_setPause_2 rfl rfl ?_
  refine kj_iloadn hC 1 dL_setPause_3 rfl rfl ?_
  refine kj_tryV (ci := 9) (q := (RX9, TX9, 17)) (as := [.inl p1]) (rest := [.inl 0, .inr (.inr (some p2))]) hC hT dL_setPause_4 kw437 ky_X9_setPause ky2_X9_setPause rfl rfl (t_X9_setPause p0 p1 h) rfl rfl (Nat.le_of_ble_eq_true rfl) ⟨by rw [hD]; decide, by decide⟩ ⟨by rw [hmc]; exact Nat.le_of_ble_eq_true rfl, by rw [hms]; exact Nat.le_of_ble_eq_true rfl⟩ ?_ (fun x1 h1 => ?_)
  · intro e h1
    by_cases q0 : e = 1
    · subst q0; exact Or.inr ⟨1, rfl, [], ⟨0, 9, 12, 13⟩, [], rfl, (fun z hz => by cases hz), by decide, by decide, kw278, ⟨3, 13, 14, by decide, Or.inl ⟨3, rfl, dL_setPause_12, rfl⟩, ⟨1, dL_setPause_13, by decide⟩, rfl, dL_setPause_14⟩⟩
    · left; simp only [q0, if_false]
  · refine kj_norm (st' := [.inl x1, .inl 0, .inr (.inr (some p2))]) (c' := 1) (z' := 6) rfl rfl rfl ?_
    refine kj_i2l hC dL_setPause_7 ?_
    refine kj_pAL hC dL_setPause_8 (fun h2 => ?_)
    refine kj_goto (tgt := 15) hC dL_setPause_9 (by decide) ?_
    refine kj_iconst (v := 0) hC dL_setPause_15 (by decide) ?_
    refine kj_fin hmc hms ?_
    exact kj_ireturn hC dL_setPause_16
set_option maxHeartbeats 4000000 in
set_option maxRecDepth 100000 in
theorem t_L_setRate (p0 : Nat) (p1 : Int32) (p2 : Int32) (p3 : Nat) (h : KH) : kMX yL_setRate cL_setRate 5 (some .int) [(0, 10, 13, 13)] 8 2 12 encI [.inr (.inr (some p0)), .inl p1, .inl p2, .inr (.inr (some p3))] h (f_L_setRate p0 p1 p2 p3 h) := by
  refine kMX_of RL (by decide) rfl (Nat.le_of_ble_eq_true rfl) [(0, .inr (.inr (some p0))), (1, .inl p1), (2, .inl p2), (3, .inr (.inr (some p3)))] rfl (fun X hC hT hmc hms hD => ?_)
  unfold f_L_setRate
  refine kj_aloadn hC 3 dL_setRate_0 rfl rfl ?_
  refine kj_iconst (v := 0) hC dL_setRate_1 (by decide) ?_
  refine kj_aloadn hC 0 dL_setRate_2 rfl rfl ?_
  refine kj_iloadn hC 1 dL_setRate_3 rfl rfl ?_
  refine kj_iloadn hC 2 dL_setRate_4 rfl rfl ?_
  refine kj_tryV (ci := 9) (q := (RX9, TX9, 17)) (as := [.inl p1, .inl p2]) (rest := [.inl 0, .inr (.inr (some p3))]) hC hT dL_setRate_5 kw445 ky_X9_setRate ky2_X9_setRate rfl rfl (t_X9_setRate p0 p1 p2 h) rfl rfl (Nat.le_of_ble_eq_true rfl) ⟨by rw [hD]; decide, by decide⟩ ⟨by rw [hmc]; exact Nat.le_of_ble_eq_true rfl, by rw [hms]; exact Nat.le_of_ble_eq_true rfl⟩ ?_ (fun x1 h1 => ?_)
  · intro e h1
    by_cases q0 : e = 1
    · subst q0; exact Or.inr ⟨1, rfl, [], ⟨0, 10, 13, 13⟩, [], rfl, (fun z hz => by cases hz), by decide, by decide, kw278, ⟨4, 15, 16, by decide, Or.inr ⟨dL_setRate_13, rfl⟩, ⟨1, dL_setRate_15, by decide⟩, rfl, dL_setRate_16⟩⟩
    · left; simp only [q0, if_false]
  · refine kj_norm (st' := [.inl x1, .inl 0, .inr (.inr (some p3))]) (c' := 2) (z' := 12) rfl rfl rfl ?_
    refine kj_i2l hC dL_setRate_8 ?_
    refine kj_pAL hC dL_setRate_9 (fun h2 => ?_)
    refine kj_goto (tgt := 17) hC dL_setRate_10 (by decide) ?_
    refine kj_iconst (v := 0) hC dL_setRate_17 (by decide) ?_
    refine kj_fin hmc hms ?_
    exact kj_ireturn hC dL_setRate_18
set_option maxHeartbeats 4000000 in
set_option maxRecDepth 100000 in
theorem t_L_spell (p0 : Nat) (p1 : Int32) (p2 : Nat) (h : KH) : kMX yL_spell cL_spell 4 (some .int) [(0, 9, 12, 21), (0, 9, 15, 15)] 8 2 12 encI [.inr (.inr (some p0)), .inl p1, .inr (.inr (some p2))] h (f_L_spell p0 p1 p2 h) := by
  refine kMX_of RL (by decide) rfl (Nat.le_of_ble_eq_true rfl) [(0, .inr (.inr (some p0))), (1, .inl p1), (2, .inr (.inr (some p2)))] rfl (fun X hC hT hmc hms hD => ?_)
  unfold f_L_spell
  refine kj_aloadn hC 2 dL_spell_0 rfl rfl ?_
  refine kj_iconst (v := 0) hC dL_spell_1 (by decide) ?_
  refine kj_aloadn hC 0 dL_spell_2 rfl rfl ?_
  refine kj_iloadn hC 1 dL_spell_3 rfl rfl ?_
  refine kj_tryV (ci := 9) (q := (RX9, TX9, 17)) (as := [.inl p1]) (rest := [.inl 0, .inr (.inr (some p2))]) hC hT dL_spell_4 kw457 ky_X9_spell ky2_X9_spell rfl rfl (t_X9_spell p0 p1 h) rfl rfl (Nat.le_of_ble_eq_true rfl) ⟨by rw [hD]; decide, by decide⟩ ⟨by rw [hmc]; exact Nat.le_of_ble_eq_true rfl, by rw [hms]; exact Nat.le_of_ble_eq_true rfl⟩ ?_ (fun x1 h1 => ?_)
  · intro e h1
    by_cases q0 : e = 3
    · subst q0; exact Or.inr ⟨1, rfl, [], ⟨0, 9, 12, 21⟩, [⟨0, 9, 15, 15⟩], rfl, (fun z hz => by cases hz), by decide, by decide, kw376, ⟨3, 13, 14, by decide, Or.inl ⟨3, rfl, dL_spell_12, rfl⟩, ⟨1, dL_spell_13, by decide⟩, rfl, dL_spell_14⟩⟩
    · skip
      by_cases q1 : e = 2
      · subst q1; exact Or.inr ⟨2, rfl, [⟨0, 9, 12, 21⟩], ⟨0, 9, 15, 15⟩, [], rfl, (fun z hz => by obtain rfl := List.mem_singleton.mp hz; exact ⟨by decide, "java/lang/IndexOutOfBoundsException", kw376, by decide, by decide⟩), by decide, by decide, kw279, ⟨3, 16, 17, by decide, Or.inl ⟨3, rfl, dL_spell_15, rfl⟩, ⟨2, dL_spell_16, by decide⟩, rfl, dL_spell_17⟩⟩
      · left; simp only [q0, q1, if_false]
  · refine kj_norm (st' := [.inl x1, .inl 0, .inr (.inr (some p2))]) (c' := 2) (z' := 12) rfl rfl rfl ?_
    refine kj_i2l hC dL_spell_7 ?_
    refine kj_pAL hC dL_spell_8 (fun h2 => ?_)
    refine kj_goto (tgt := 18) hC dL_spell_9 (by decide) ?_
    refine kj_iconst (v := 0) hC dL_spell_18 (by decide) ?_
    refine kj_fin hmc hms ?_
    exact kj_ireturn hC dL_spell_19
set_option maxHeartbeats 4000000 in
set_option maxRecDepth 100000 in
theorem t_L_insert (p0 : Nat) (p1 : Int32) (p2 : Int32) (p3 : Nat) (h : KH) : kMX yL_insert cL_insert 5 (some .int) [(0, 10, 13, 21), (0, 10, 17, 13), (0, 10, 21, 15)] 8 2 12 encI [.inr (.inr (some p0)), .inl p1, .inl p2, .inr (.inr (some p3))] h (f_L_insert p0 p1 p2 p3 h) := by
  refine kMX_of RL (by decide) rfl (Nat.le_of_ble_eq_true rfl) [(0, .inr (.inr (some p0))), (1, .inl p1), (2, .inl p2), (3, .inr (.inr (some p3)))] rfl (fun X hC hT hmc hms hD => ?_)
  unfold f_L_insert
  refine kj_aloadn hC 3 dL_insert_0 rfl rfl ?_
  refine kj_iconst (v := 0) hC dL_insert_1 (by decide) ?_
  refine kj_aloadn hC 0 dL_insert_2 rfl rfl ?_
  refine kj_iloadn hC 1 dL_insert_3 rfl rfl ?_
  refine kj_iloadn hC 2 dL_insert_4 rfl rfl ?_
  refine kj_tryV (ci := 9) (q := (RX9, TX9, 17)) (as := [.inl p1, .inl p2]) (rest := [.inl 0, .inr (.inr (some p3))]) hC hT dL_insert_5 kw487 ky_X9_insert ky2_X9_insert rfl rfl (t_X9_insert p0 p1 p2 h) rfl rfl (Nat.le_of_ble_eq_true rfl) ⟨by rw [hD]; decide, by decide⟩ ⟨by rw [hmc]; exact Nat.le_of_ble_eq_true rfl, by rw [hms]; exact Nat.le_of_ble_eq_true rfl⟩ ?_ (fun x1 h1 => ?_)
  · intro e h1
    by_cases q0 : e = 3
    · subst q0; exact Or.inr ⟨1, rfl, [], ⟨0, 10, 13, 21⟩, [⟨0, 10, 17, 13⟩, ⟨0, 10, 21, 15⟩], rfl, (fun z hz => by cases hz), by decide, by decide, kw376, ⟨4, 15, 16, by decide, Or.inr ⟨dL_insert_13, rfl⟩, ⟨1, dL_insert_15, by decide⟩, rfl, dL_insert_16⟩⟩
    · skip
      by_cases q1 : e = 1
      · subst q1; exact Or.inr ⟨2, rfl, [⟨0, 10, 13, 21⟩], ⟨0, 10, 17, 13⟩, [⟨0, 10, 21, 15⟩], rfl, (fun z hz => by obtain rfl := List.mem_singleton.mp hz; exact ⟨by decide, "java/lang/IndexOutOfBoundsException", kw376, by decide, by decide⟩), by decide, by decide, kw278, ⟨4, 19, 20, by decide, Or.inr ⟨dL_insert_17, rfl⟩, ⟨2, dL_insert_19, by decide⟩, rfl, dL_insert_20⟩⟩
      · skip
        by_cases q2 : e = 2
        · subst q2; exact Or.inr ⟨3, rfl, [⟨0, 10, 13, 21⟩, ⟨0, 10, 17, 13⟩], ⟨0, 10, 21, 15⟩, [], rfl, (fun z hz => by rcases List.mem_cons.mp hz with rfl | hz; exact ⟨by decide, "java/lang/IndexOutOfBoundsException", kw376, by decide, by decide⟩; obtain rfl := List.mem_singleton.mp hz; exact ⟨by decide, "java/lang/IllegalArgumentException", kw278, by decide, by decide⟩), by decide, by decide, kw279, ⟨4, 23, 24, by decide, Or.inr ⟨dL_insert_21, rfl⟩, ⟨3, dL_insert_23, by decide⟩, rfl, dL_insert_24⟩⟩
        · left; simp only [q0, q1, q2, if_false]
  · refine kj_norm (st' := [.inl x1, .inl 0, .inr (.inr (some p3))]) (c' := 2) (z' := 12) rfl rfl rfl ?_
    refine kj_i2l hC dL_insert_8 ?_
    refine kj_pAL hC dL_insert_9 (fun h2 => ?_)
    refine kj_goto (tgt := 25) hC dL_insert_10 (by decide) ?_
    refine kj_iconst (v := 0) hC dL_insert_25 (by decide) ?_
    refine kj_fin hmc hms ?_
    exact kj_ireturn hC dL_insert_26
set_option maxHeartbeats 4000000 in
set_option maxRecDepth 100000 in
theorem t_L_charAt (p0 : Nat) (p1 : Int32) (p2 : Nat) (h : KH) : kMX yL_charAt cL_charAt 4 (some .int) [(0, 9, 12, 43)] 7 1 6 encI [.inr (.inr (some p0)), .inl p1, .inr (.inr (some p2))] h (f_L_charAt p0 p1 p2 h) := by
  refine kMX_of RL (by decide) rfl (Nat.le_of_ble_eq_true rfl) [(0, .inr (.inr (some p0))), (1, .inl p1), (2, .inr (.inr (some p2)))] rfl (fun X hC hT hmc hms hD => ?_)
  unfold f_L_charAt
  refine kj_aloadn hC 2 dL_charAt_0 rfl rfl ?_
  refine kj_iconst (v := 0) hC dL_charAt_1 (by decide) ?_
  refine kj_aloadn hC 0 dL_charAt_2 rfl rfl ?_
  refine kj_iloadn hC 1 dL_charAt_3 rfl rfl ?_
  refine kj_tryV (ci := 9) (q := (RX9, TX9, 17)) (as := [.inl p1]) (rest := [.inl 0, .inr (.inr (some p2))]) hC hT dL_charAt_4 kw496 ky_X9_charAt ky2_X9_charAt rfl rfl (t_X9_charAt p0 p1 h) rfl rfl (Nat.le_of_ble_eq_true rfl) ⟨by rw [hD]; decide, by decide⟩ ⟨by rw [hmc]; exact Nat.le_of_ble_eq_true rfl, by rw [hms]; exact Nat.le_of_ble_eq_true rfl⟩ ?_ (fun x1 h1 => ?_)
  · intro e h1
    by_cases q0 : e = 4
    · subst q0; exact Or.inr ⟨1, rfl, [], ⟨0, 9, 12, 43⟩, [], rfl, (fun z hz => by cases hz), by decide, by decide, kw495, ⟨3, 13, 14, by decide, Or.inl ⟨3, rfl, dL_charAt_12, rfl⟩, ⟨1, dL_charAt_13, by decide⟩, rfl, dL_charAt_14⟩⟩
    · left; simp only [q0, if_false]
  · refine kj_norm (st' := [.inl x1, .inl 0, .inr (.inr (some p2))]) (c' := 1) (z' := 6) rfl rfl rfl ?_
    refine kj_i2l hC dL_charAt_7 ?_
    refine kj_pAL hC dL_charAt_8 (fun h2 => ?_)
    refine kj_goto (tgt := 15) hC dL_charAt_9 (by decide) ?_
    refine kj_iconst (v := 0) hC dL_charAt_15 (by decide) ?_
    refine kj_fin hmc hms ?_
    exact kj_ireturn hC dL_charAt_16
set_option maxHeartbeats 4000000 in
set_option maxRecDepth 100000 in
theorem t_L_alike (p0 : Nat) (p1 : Int32) (p2 : Int32) (p3 : Nat) (h : KH) : kMX yL_alike cL_alike 5 (some .int) [(0, 17, 20, 21), (0, 17, 24, 13)] 8 3 18 encI [.inr (.inr (some p0)), .inl p1, .inl p2, .inr (.inr (some p3))] h (f_L_alike p0 p1 p2 p3 h) := by
  refine kMX_of RL (by decide) rfl (Nat.le_of_ble_eq_true rfl) [(0, .inr (.inr (some p0))), (1, .inl p1), (2, .inl p2), (3, .inr (.inr (some p3)))] rfl (fun X hC hT hmc hms hD => ?_)
  unfold f_L_alike
  refine kj_aloadn hC 3 dL_alike_0 rfl rfl ?_
  refine kj_iconst (v := 0) hC dL_alike_1 (by decide) ?_
  refine kj_aloadn hC 0 dL_alike_2 rfl rfl ?_
  refine kj_iloadn hC 1 dL_alike_3 rfl rfl ?_
  refine kj_iloadn hC 2 dL_alike_4 rfl rfl ?_
  refine kj_tryV (ci := 9) (q := (RX9, TX9, 17)) (as := [.inl p1, .inl p2]) (rest := [.inl 0, .inr (.inr (some p3))]) hC hT dL_alike_5 kw528 ky_X9_alike ky2_X9_alike rfl rfl (t_X9_alike p0 p1 p2 h) rfl rfl (Nat.le_of_ble_eq_true rfl) ⟨by rw [hD]; decide, by decide⟩ ⟨by rw [hmc]; exact Nat.le_of_ble_eq_true rfl, by rw [hms]; exact Nat.le_of_ble_eq_true rfl⟩ ?_ (fun x1 h1 => ?_)
  · intro e h1
    by_cases q0 : e = 3
    · subst q0; exact Or.inr ⟨1, rfl, [], ⟨0, 17, 20, 21⟩, [⟨0, 17, 24, 13⟩], rfl, (fun z hz => by cases hz), by decide, by decide, kw376, ⟨4, 22, 23, by decide, Or.inr ⟨dL_alike_20, rfl⟩, ⟨1, dL_alike_22, by decide⟩, rfl, dL_alike_23⟩⟩
    · skip
      by_cases q1 : e = 1
      · subst q1; exact Or.inr ⟨2, rfl, [⟨0, 17, 20, 21⟩], ⟨0, 17, 24, 13⟩, [], rfl, (fun z hz => by obtain rfl := List.mem_singleton.mp hz; exact ⟨by decide, "java/lang/IndexOutOfBoundsException", kw376, by decide, by decide⟩), by decide, by decide, kw278, ⟨4, 26, 27, by decide, Or.inr ⟨dL_alike_24, rfl⟩, ⟨2, dL_alike_26, by decide⟩, rfl, dL_alike_27⟩⟩
      · left; simp only [q0, q1, if_false]
  · refine kj_norm (st' := [.inl x1, .inl 0, .inr (.inr (some p3))]) (c' := 3) (z' := 18) rfl rfl rfl ?_
    refine kj_if_eq (tgt := 15) hC dL_alike_8 (by decide) (fun q1 => ?_) (fun q1 => ?_)
    · refine kj_lconst (v := 0) hC dL_alike_15 (by decide) ?_
      refine kj_pAL hC dL_alike_16 (fun h2 => ?_)
      refine kj_goto (tgt := 28) hC dL_alike_17 (by decide) ?_
      refine kj_iconst (v := 0) hC dL_alike_28 (by decide) ?_
      refine kj_fin hmc hms ?_
      exact kj_ireturn hC dL_alike_29
    · refine kj_lconst (v := 1) hC dL_alike_11 (by decide) ?_
      refine kj_goto (tgt := 16) hC dL_alike_12 (by decide) ?_
      refine kj_pAL hC dL_alike_16 (fun h2 => ?_)
      refine kj_goto (tgt := 28) hC dL_alike_17 (by decide) ?_
      refine kj_iconst (v := 0) hC dL_alike_28 (by decide) ?_
      refine kj_fin hmc hms ?_
      exact kj_ireturn hC dL_alike_29
set_option maxHeartbeats 4000000 in
set_option maxRecDepth 100000 in
theorem t_L_register (p0 : Nat) (p1 : Int32) (p2 : Int32) (p3 : Nat) (h : KH) : kMX yL_register cL_register 5 (some .int) [(0, 10, 13, 21), (0, 10, 17, 13), (0, 10, 21, 15)] 8 9 151 encI [.inr (.inr (some p0)), .inl p1, .inl p2, .inr (.inr (some p3))] h (f_L_register p0 p1 p2 p3 h) := by
  refine kMX_of RL (by decide) rfl (Nat.le_of_ble_eq_true rfl) [(0, .inr (.inr (some p0))), (1, .inl p1), (2, .inl p2), (3, .inr (.inr (some p3)))] rfl (fun X hC hT hmc hms hD => ?_)
  unfold f_L_register
  refine kj_aloadn hC 3 dL_register_0 rfl rfl ?_
  refine kj_iconst (v := 0) hC dL_register_1 (by decide) ?_
  refine kj_aloadn hC 0 dL_register_2 rfl rfl ?_
  refine kj_iloadn hC 1 dL_register_3 rfl rfl ?_
  refine kj_iloadn hC 2 dL_register_4 rfl rfl ?_
  refine kj_tryV (ci := 9) (q := (RX9, TX9, 17)) (as := [.inl p1, .inl p2]) (rest := [.inl 0, .inr (.inr (some p3))]) hC hT dL_register_5 kw588 ky_X9_register ky2_X9_register rfl rfl (t_X9_register p0 p1 p2 h) rfl rfl (Nat.le_of_ble_eq_true rfl) ⟨by rw [hD]; decide, by decide⟩ ⟨by rw [hmc]; exact Nat.le_of_ble_eq_true rfl, by rw [hms]; exact Nat.le_of_ble_eq_true rfl⟩ ?_ (fun x1 h1 => ?_)
  · intro e h1
    by_cases q0 : e = 3
    · subst q0; exact Or.inr ⟨1, rfl, [], ⟨0, 10, 13, 21⟩, [⟨0, 10, 17, 13⟩, ⟨0, 10, 21, 15⟩], rfl, (fun z hz => by cases hz), by decide, by decide, kw376, ⟨4, 15, 16, by decide, Or.inr ⟨dL_register_13, rfl⟩, ⟨1, dL_register_15, by decide⟩, rfl, dL_register_16⟩⟩
    · skip
      by_cases q1 : e = 1
      · subst q1; exact Or.inr ⟨2, rfl, [⟨0, 10, 13, 21⟩], ⟨0, 10, 17, 13⟩, [⟨0, 10, 21, 15⟩], rfl, (fun z hz => by obtain rfl := List.mem_singleton.mp hz; exact ⟨by decide, "java/lang/IndexOutOfBoundsException", kw376, by decide, by decide⟩), by decide, by decide, kw278, ⟨4, 19, 20, by decide, Or.inr ⟨dL_register_17, rfl⟩, ⟨2, dL_register_19, by decide⟩, rfl, dL_register_20⟩⟩
      · skip
        by_cases q2 : e = 2
        · subst q2; exact Or.inr ⟨3, rfl, [⟨0, 10, 13, 21⟩, ⟨0, 10, 17, 13⟩], ⟨0, 10, 21, 15⟩, [], rfl, (fun z hz => by rcases List.mem_cons.mp hz with rfl | hz; exact ⟨by decide, "java/lang/IndexOutOfBoundsException", kw376, by decide, by decide⟩; obtain rfl := List.mem_singleton.mp hz; exact ⟨by decide, "java/lang/IllegalArgumentException", kw278, by decide, by decide⟩), by decide, by decide, kw279, ⟨4, 23, 24, by decide, Or.inr ⟨dL_register_21, rfl⟩, ⟨3, dL_register_23, by decide⟩, rfl, dL_register_24⟩⟩
        · left; simp only [q0, q1, q2, if_false]
  · refine kj_norm (st' := [.inl x1, .inl 0, .inr (.inr (some p3))]) (c' := 9) (z' := 151) rfl rfl rfl ?_
    refine kj_i2l hC dL_register_8 ?_
    refine kj_pAL hC dL_register_9 (fun h2 => ?_)
    refine kj_goto (tgt := 25) hC dL_register_10 (by decide) ?_
    refine kj_iconst (v := 0) hC dL_register_25 (by decide) ?_
    refine kj_fin hmc hms ?_
    exact kj_ireturn hC dL_register_26
set_option maxHeartbeats 4000000 in
set_option maxRecDepth 100000 in
theorem t_L_sell (p0 : Nat) (p1 : Int32) (p2 : Int32) (p3 : Nat) (h : KH) : kMX yL_sell cL_sell 5 (some .int) [(0, 10, 13, 21)] 8 3 15 encI [.inr (.inr (some p0)), .inl p1, .inl p2, .inr (.inr (some p3))] h (f_L_sell p0 p1 p2 p3 h) := by
  refine kMX_of RL (by decide) rfl (Nat.le_of_ble_eq_true rfl) [(0, .inr (.inr (some p0))), (1, .inl p1), (2, .inl p2), (3, .inr (.inr (some p3)))] rfl (fun X hC hT hmc hms hD => ?_)
  unfold f_L_sell
  refine kj_aloadn hC 3 dL_sell_0 rfl rfl ?_
  refine kj_iconst (v := 0) hC dL_sell_1 (by decide) ?_
  refine kj_aloadn hC 0 dL_sell_2 rfl rfl ?_
  refine kj_iloadn hC 1 dL_sell_3 rfl rfl ?_
  refine kj_iloadn hC 2 dL_sell_4 rfl rfl ?_
  refine kj_tryV (ci := 9) (q := (RX9, TX9, 17)) (as := [.inl p1, .inl p2]) (rest := [.inl 0, .inr (.inr (some p3))]) hC hT dL_sell_5 kw677 ky_X9_sell ky2_X9_sell rfl rfl (t_X9_sell p0 p1 p2 h) rfl rfl (Nat.le_of_ble_eq_true rfl) ⟨by rw [hD]; decide, by decide⟩ ⟨by rw [hmc]; exact Nat.le_of_ble_eq_true rfl, by rw [hms]; exact Nat.le_of_ble_eq_true rfl⟩ ?_ (fun x1 h1 => ?_)
  · intro e h1
    by_cases q0 : e = 3
    · subst q0; exact Or.inr ⟨1, rfl, [], ⟨0, 10, 13, 21⟩, [], rfl, (fun z hz => by cases hz), by decide, by decide, kw376, ⟨4, 15, 16, by decide, Or.inr ⟨dL_sell_13, rfl⟩, ⟨1, dL_sell_15, by decide⟩, rfl, dL_sell_16⟩⟩
    · left; simp only [q0, if_false]
  · refine kj_norm (st' := [.inl x1, .inl 0, .inr (.inr (some p3))]) (c' := 3) (z' := 15) rfl rfl rfl ?_
    refine kj_i2l hC dL_sell_8 ?_
    refine kj_pAL hC dL_sell_9 (fun h2 => ?_)
    refine kj_goto (tgt := 17) hC dL_sell_10 (by decide) ?_
    refine kj_iconst (v := 0) hC dL_sell_17 (by decide) ?_
    refine kj_fin hmc hms ?_
    exact kj_ireturn hC dL_sell_18
set_option maxHeartbeats 4000000 in
set_option maxRecDepth 100000 in
theorem t_L_plateAt (p0 : Nat) (p1 : Int32) (p2 : Nat) (h : KH) : kMX yL_plateAt cL_plateAt 4 (some .int) [(0, 9, 12, 43)] 7 1 6 encI [.inr (.inr (some p0)), .inl p1, .inr (.inr (some p2))] h (f_L_plateAt p0 p1 p2 h) := by
  refine kMX_of RL (by decide) rfl (Nat.le_of_ble_eq_true rfl) [(0, .inr (.inr (some p0))), (1, .inl p1), (2, .inr (.inr (some p2)))] rfl (fun X hC hT hmc hms hD => ?_)
  unfold f_L_plateAt
  refine kj_aloadn hC 2 dL_plateAt_0 rfl rfl ?_
  refine kj_iconst (v := 0) hC dL_plateAt_1 (by decide) ?_
  refine kj_aloadn hC 0 dL_plateAt_2 rfl rfl ?_
  refine kj_iloadn hC 1 dL_plateAt_3 rfl rfl ?_
  refine kj_tryV (ci := 9) (q := (RX9, TX9, 17)) (as := [.inl p1]) (rest := [.inl 0, .inr (.inr (some p2))]) hC hT dL_plateAt_4 kw695 ky_X9_plateAt ky2_X9_plateAt rfl rfl (t_X9_plateAt p0 p1 h) rfl rfl (Nat.le_of_ble_eq_true rfl) ⟨by rw [hD]; decide, by decide⟩ ⟨by rw [hmc]; exact Nat.le_of_ble_eq_true rfl, by rw [hms]; exact Nat.le_of_ble_eq_true rfl⟩ ?_ (fun x1 h1 => ?_)
  · intro e h1
    by_cases q0 : e = 4
    · subst q0; exact Or.inr ⟨1, rfl, [], ⟨0, 9, 12, 43⟩, [], rfl, (fun z hz => by cases hz), by decide, by decide, kw495, ⟨3, 13, 14, by decide, Or.inl ⟨3, rfl, dL_plateAt_12, rfl⟩, ⟨1, dL_plateAt_13, by decide⟩, rfl, dL_plateAt_14⟩⟩
    · left; simp only [q0, if_false]
  · refine kj_norm (st' := [.inl x1, .inl 0, .inr (.inr (some p2))]) (c' := 1) (z' := 6) rfl rfl rfl ?_
    refine kj_i2l hC dL_plateAt_7 ?_
    refine kj_pAL hC dL_plateAt_8 (fun h2 => ?_)
    refine kj_goto (tgt := 15) hC dL_plateAt_9 (by decide) ?_
    refine kj_iconst (v := 0) hC dL_plateAt_15 (by decide) ?_
    refine kj_fin hmc hms ?_
    exact kj_ireturn hC dL_plateAt_16
set_option maxHeartbeats 4000000 in
set_option maxRecDepth 100000 in
theorem t_L_holder (p0 : Nat) (p1 : Int32) (p2 : Int32) (p3 : Nat) (h : KH) : kMX yL_holder cL_holder 5 (some .int) [(0, 10, 13, 21), (0, 10, 17, 13)] 8 2 12 encI [.inr (.inr (some p0)), .inl p1, .inl p2, .inr (.inr (some p3))] h (f_L_holder p0 p1 p2 p3 h) := by
  refine kMX_of RL (by decide) rfl (Nat.le_of_ble_eq_true rfl) [(0, .inr (.inr (some p0))), (1, .inl p1), (2, .inl p2), (3, .inr (.inr (some p3)))] rfl (fun X hC hT hmc hms hD => ?_)
  unfold f_L_holder
  refine kj_aloadn hC 3 dL_holder_0 rfl rfl ?_
  refine kj_iconst (v := 0) hC dL_holder_1 (by decide) ?_
  refine kj_aloadn hC 0 dL_holder_2 rfl rfl ?_
  refine kj_iloadn hC 1 dL_holder_3 rfl rfl ?_
  refine kj_iloadn hC 2 dL_holder_4 rfl rfl ?_
  refine kj_tryV (ci := 9) (q := (RX9, TX9, 17)) (as := [.inl p1, .inl p2]) (rest := [.inl 0, .inr (.inr (some p3))]) hC hT dL_holder_5 kw703 ky_X9_holder ky2_X9_holder rfl rfl (t_X9_holder p0 p1 p2 h) rfl rfl (Nat.le_of_ble_eq_true rfl) ⟨by rw [hD]; decide, by decide⟩ ⟨by rw [hmc]; exact Nat.le_of_ble_eq_true rfl, by rw [hms]; exact Nat.le_of_ble_eq_true rfl⟩ ?_ (fun x1 h1 => ?_)
  · intro e h1
    by_cases q0 : e = 3
    · subst q0; exact Or.inr ⟨1, rfl, [], ⟨0, 10, 13, 21⟩, [⟨0, 10, 17, 13⟩], rfl, (fun z hz => by cases hz), by decide, by decide, kw376, ⟨4, 15, 16, by decide, Or.inr ⟨dL_holder_13, rfl⟩, ⟨1, dL_holder_15, by decide⟩, rfl, dL_holder_16⟩⟩
    · skip
      by_cases q1 : e = 1
      · subst q1; exact Or.inr ⟨2, rfl, [⟨0, 10, 13, 21⟩], ⟨0, 10, 17, 13⟩, [], rfl, (fun z hz => by obtain rfl := List.mem_singleton.mp hz; exact ⟨by decide, "java/lang/IndexOutOfBoundsException", kw376, by decide, by decide⟩), by decide, by decide, kw278, ⟨4, 19, 20, by decide, Or.inr ⟨dL_holder_17, rfl⟩, ⟨2, dL_holder_19, by decide⟩, rfl, dL_holder_20⟩⟩
      · left; simp only [q0, q1, if_false]
  · refine kj_norm (st' := [.inl x1, .inl 0, .inr (.inr (some p3))]) (c' := 2) (z' := 12) rfl rfl rfl ?_
    refine kj_i2l hC dL_holder_8 ?_
    refine kj_pAL hC dL_holder_9 (fun h2 => ?_)
    refine kj_goto (tgt := 21) hC dL_holder_10 (by decide) ?_
    refine kj_iconst (v := 0) hC dL_holder_21 (by decide) ?_
    refine kj_fin hmc hms ?_
    exact kj_ireturn hC dL_holder_22
set_option maxHeartbeats 4000000 in
set_option maxRecDepth 100000 in
theorem t_L_read (p0 : Nat) (p1 : Int32) (p2 : Int32) (p3 : Nat) (h : KH) : kMX yL_read cL_read 5 (some .int) [(0, 10, 13, 21), (0, 10, 17, 13), (0, 10, 21, 15)] 8 5 26 encI [.inr (.inr (some p0)), .inl p1, .inl p2, .inr (.inr (some p3))] h (f_L_read p0 p1 p2 p3 h) := by
  refine kMX_of RL (by decide) rfl (Nat.le_of_ble_eq_true rfl) [(0, .inr (.inr (some p0))), (1, .inl p1), (2, .inl p2), (3, .inr (.inr (some p3)))] rfl (fun X hC hT hmc hms hD => ?_)
  unfold f_L_read
  refine kj_aloadn hC 3 dL_read_0 rfl rfl ?_
  refine kj_iconst (v := 0) hC dL_read_1 (by decide) ?_
  refine kj_aloadn hC 0 dL_read_2 rfl rfl ?_
  refine kj_iloadn hC 1 dL_read_3 rfl rfl ?_
  refine kj_iloadn hC 2 dL_read_4 rfl rfl ?_
  refine kj_tryV (ci := 9) (q := (RX9, TX9, 17)) (as := [.inl p1, .inl p2]) (rest := [.inl 0, .inr (.inr (some p3))]) hC hT dL_read_5 kw715 ky_X9_read ky2_X9_read rfl rfl (t_X9_read p0 p1 p2 h) rfl rfl (Nat.le_of_ble_eq_true rfl) ⟨by rw [hD]; decide, by decide⟩ ⟨by rw [hmc]; exact Nat.le_of_ble_eq_true rfl, by rw [hms]; exact Nat.le_of_ble_eq_true rfl⟩ ?_ (fun x1 h1 => ?_)
  · intro e h1
    by_cases q0 : e = 3
    · subst q0; exact Or.inr ⟨1, rfl, [], ⟨0, 10, 13, 21⟩, [⟨0, 10, 17, 13⟩, ⟨0, 10, 21, 15⟩], rfl, (fun z hz => by cases hz), by decide, by decide, kw376, ⟨4, 15, 16, by decide, Or.inr ⟨dL_read_13, rfl⟩, ⟨1, dL_read_15, by decide⟩, rfl, dL_read_16⟩⟩
    · skip
      by_cases q1 : e = 1
      · subst q1; exact Or.inr ⟨2, rfl, [⟨0, 10, 13, 21⟩], ⟨0, 10, 17, 13⟩, [⟨0, 10, 21, 15⟩], rfl, (fun z hz => by obtain rfl := List.mem_singleton.mp hz; exact ⟨by decide, "java/lang/IndexOutOfBoundsException", kw376, by decide, by decide⟩), by decide, by decide, kw278, ⟨4, 19, 20, by decide, Or.inr ⟨dL_read_17, rfl⟩, ⟨2, dL_read_19, by decide⟩, rfl, dL_read_20⟩⟩
      · skip
        by_cases q2 : e = 2
        · subst q2; exact Or.inr ⟨3, rfl, [⟨0, 10, 13, 21⟩, ⟨0, 10, 17, 13⟩], ⟨0, 10, 21, 15⟩, [], rfl, (fun z hz => by rcases List.mem_cons.mp hz with rfl | hz; exact ⟨by decide, "java/lang/IndexOutOfBoundsException", kw376, by decide, by decide⟩; obtain rfl := List.mem_singleton.mp hz; exact ⟨by decide, "java/lang/IllegalArgumentException", kw278, by decide, by decide⟩), by decide, by decide, kw279, ⟨4, 23, 24, by decide, Or.inr ⟨dL_read_21, rfl⟩, ⟨3, dL_read_23, by decide⟩, rfl, dL_read_24⟩⟩
        · left; simp only [q0, q1, q2, if_false]
  · refine kj_norm (st' := [.inl x1, .inl 0, .inr (.inr (some p3))]) (c' := 5) (z' := 26) rfl rfl rfl ?_
    refine kj_i2l hC dL_read_8 ?_
    refine kj_pAL hC dL_read_9 (fun h2 => ?_)
    refine kj_goto (tgt := 25) hC dL_read_10 (by decide) ?_
    refine kj_iconst (v := 0) hC dL_read_25 (by decide) ?_
    refine kj_fin hmc hms ?_
    exact kj_ireturn hC dL_read_26
set_option maxHeartbeats 4000000 in
set_option maxRecDepth 100000 in
theorem t_L_correct (p0 : Nat) (p1 : Int32) (p2 : Int32) (p3 : Nat) (h : KH) : kMX yL_correct cL_correct 5 (some .int) [(0, 10, 13, 21)] 8 2 12 encI [.inr (.inr (some p0)), .inl p1, .inl p2, .inr (.inr (some p3))] h (f_L_correct p0 p1 p2 p3 h) := by
  refine kMX_of RL (by decide) rfl (Nat.le_of_ble_eq_true rfl) [(0, .inr (.inr (some p0))), (1, .inl p1), (2, .inl p2), (3, .inr (.inr (some p3)))] rfl (fun X hC hT hmc hms hD => ?_)
  unfold f_L_correct
  refine kj_aloadn hC 3 dL_correct_0 rfl rfl ?_
  refine kj_iconst (v := 0) hC dL_correct_1 (by decide) ?_
  refine kj_aloadn hC 0 dL_correct_2 rfl rfl ?_
  refine kj_iloadn hC 1 dL_correct_3 rfl rfl ?_
  refine kj_iloadn hC 2 dL_correct_4 rfl rfl ?_
  refine kj_tryV (ci := 9) (q := (RX9, TX9, 17)) (as := [.inl p1, .inl p2]) (rest := [.inl 0, .inr (.inr (some p3))]) hC hT dL_correct_5 kw760 ky_X9_correct ky2_X9_correct rfl rfl (t_X9_correct p0 p1 p2 h) rfl rfl (Nat.le_of_ble_eq_true rfl) ⟨by rw [hD]; decide, by decide⟩ ⟨by rw [hmc]; exact Nat.le_of_ble_eq_true rfl, by rw [hms]; exact Nat.le_of_ble_eq_true rfl⟩ ?_ (fun x1 h1 => ?_)
  · intro e h1
    by_cases q0 : e = 3
    · subst q0; exact Or.inr ⟨1, rfl, [], ⟨0, 10, 13, 21⟩, [], rfl, (fun z hz => by cases hz), by decide, by decide, kw376, ⟨4, 15, 16, by decide, Or.inr ⟨dL_correct_13, rfl⟩, ⟨1, dL_correct_15, by decide⟩, rfl, dL_correct_16⟩⟩
    · left; simp only [q0, if_false]
  · refine kj_norm (st' := [.inl x1, .inl 0, .inr (.inr (some p3))]) (c' := 2) (z' := 12) rfl rfl rfl ?_
    refine kj_i2l hC dL_correct_8 ?_
    refine kj_pAL hC dL_correct_9 (fun h2 => ?_)
    refine kj_goto (tgt := 17) hC dL_correct_10 (by decide) ?_
    refine kj_iconst (v := 0) hC dL_correct_17 (by decide) ?_
    refine kj_fin hmc hms ?_
    exact kj_ireturn hC dL_correct_18
set_option maxHeartbeats 4000000 in
set_option maxRecDepth 100000 in
theorem t_L_uncorrect (p0 : Nat) (p1 : Int32) (p2 : Nat) (h : KH) : kMX yL_uncorrect cL_uncorrect 4 (some .int) [(0, 9, 12, 21), (0, 9, 15, 15)] 8 2 12 encI [.inr (.inr (some p0)), .inl p1, .inr (.inr (some p2))] h (f_L_uncorrect p0 p1 p2 h) := by
  refine kMX_of RL (by decide) rfl (Nat.le_of_ble_eq_true rfl) [(0, .inr (.inr (some p0))), (1, .inl p1), (2, .inr (.inr (some p2)))] rfl (fun X hC hT hmc hms hD => ?_)
  unfold f_L_uncorrect
  refine kj_aloadn hC 2 dL_uncorrect_0 rfl rfl ?_
  refine kj_iconst (v := 0) hC dL_uncorrect_1 (by decide) ?_
  refine kj_aloadn hC 0 dL_uncorrect_2 rfl rfl ?_
  refine kj_iloadn hC 1 dL_uncorrect_3 rfl rfl ?_
  refine kj_tryV (ci := 9) (q := (RX9, TX9, 17)) (as := [.inl p1]) (rest := [.inl 0, .inr (.inr (some p2))]) hC hT dL_uncorrect_4 kw772 ky_X9_uncorrect ky2_X9_uncorrect rfl rfl (t_X9_uncorrect p0 p1 h) rfl rfl (Nat.le_of_ble_eq_true rfl) ⟨by rw [hD]; decide, by decide⟩ ⟨by rw [hmc]; exact Nat.le_of_ble_eq_true rfl, by rw [hms]; exact Nat.le_of_ble_eq_true rfl⟩ ?_ (fun x1 h1 => ?_)
  · intro e h1
    by_cases q0 : e = 3
    · subst q0; exact Or.inr ⟨1, rfl, [], ⟨0, 9, 12, 21⟩, [⟨0, 9, 15, 15⟩], rfl, (fun z hz => by cases hz), by decide, by decide, kw376, ⟨3, 13, 14, by decide, Or.inl ⟨3, rfl, dL_uncorrect_12, rfl⟩, ⟨1, dL_uncorrect_13, by decide⟩, rfl, dL_uncorrect_14⟩⟩
    · skip
      by_cases q1 : e = 2
      · subst q1; exact Or.inr ⟨2, rfl, [⟨0, 9, 12, 21⟩], ⟨0, 9, 15, 15⟩, [], rfl, (fun z hz => by obtain rfl := List.mem_singleton.mp hz; exact ⟨by decide, "java/lang/IndexOutOfBoundsException", kw376, by decide, by decide⟩), by decide, by decide, kw279, ⟨3, 16, 17, by decide, Or.inl ⟨3, rfl, dL_uncorrect_15, rfl⟩, ⟨2, dL_uncorrect_16, by decide⟩, rfl, dL_uncorrect_17⟩⟩
      · left; simp only [q0, q1, if_false]
  · refine kj_norm (st' := [.inl x1, .inl 0, .inr (.inr (some p2))]) (c' := 2) (z' := 12) rfl rfl rfl ?_
    refine kj_i2l hC dL_uncorrect_7 ?_
    refine kj_pAL hC dL_uncorrect_8 (fun h2 => ?_)
    refine kj_goto (tgt := 18) hC dL_uncorrect_9 (by decide) ?_
    refine kj_iconst (v := 0) hC dL_uncorrect_18 (by decide) ?_
    refine kj_fin hmc hms ?_
    exact kj_ireturn hC dL_uncorrect_19
set_option maxHeartbeats 4000000 in
set_option maxRecDepth 100000 in
theorem t_L_plateOf (p0 : Nat) (p1 : Int32) (p2 : Nat) (h : KH) : kMX yL_plateOf cL_plateOf 4 (some .int) [(0, 9, 12, 21)] 8 1 6 encI [.inr (.inr (some p0)), .inl p1, .inr (.inr (some p2))] h (f_L_plateOf p0 p1 p2 h) := by
  refine kMX_of RL (by decide) rfl (Nat.le_of_ble_eq_true rfl) [(0, .inr (.inr (some p0))), (1, .inl p1), (2, .inr (.inr (some p2)))] rfl (fun X hC hT hmc hms hD => ?_)
  unfold f_L_plateOf
  refine kj_aloadn hC 2 dL_plateOf_0 rfl rfl ?_
  refine kj_iconst (v := 0) hC dL_plateOf_1 (by decide) ?_
  refine kj_aloadn hC 0 dL_plateOf_2 rfl rfl ?_
  refine kj_iloadn hC 1 dL_plateOf_3 rfl rfl ?_
  refine kj_tryV (ci := 9) (q := (RX9, TX9, 17)) (as := [.inl p1]) (rest := [.inl 0, .inr (.inr (some p2))]) hC hT dL_plateOf_4 kw780 ky_X9_plateOf ky2_X9_plateOf rfl rfl (t_X9_plateOf p0 p1 h) rfl rfl (Nat.le_of_ble_eq_true rfl) ⟨by rw [hD]; decide, by decide⟩ ⟨by rw [hmc]; exact Nat.le_of_ble_eq_true rfl, by rw [hms]; exact Nat.le_of_ble_eq_true rfl⟩ ?_ (fun x1 h1 => ?_)
  · intro e h1
    by_cases q0 : e = 3
    · subst q0; exact Or.inr ⟨1, rfl, [], ⟨0, 9, 12, 21⟩, [], rfl, (fun z hz => by cases hz), by decide, by decide, kw376, ⟨3, 13, 14, by decide, Or.inl ⟨3, rfl, dL_plateOf_12, rfl⟩, ⟨1, dL_plateOf_13, by decide⟩, rfl, dL_plateOf_14⟩⟩
    · left; simp only [q0, if_false]
  · refine kj_norm (st' := [.inl x1, .inl 0, .inr (.inr (some p2))]) (c' := 1) (z' := 6) rfl rfl rfl ?_
    refine kj_i2l hC dL_plateOf_7 ?_
    refine kj_pAL hC dL_plateOf_8 (fun h2 => ?_)
    refine kj_goto (tgt := 15) hC dL_plateOf_9 (by decide) ?_
    refine kj_iconst (v := 0) hC dL_plateOf_15 (by decide) ?_
    refine kj_fin hmc hms ?_
    exact kj_ireturn hC dL_plateOf_16
set_option maxHeartbeats 4000000 in
set_option maxRecDepth 100000 in
theorem t_L_cost (p0 : Nat) (p1 : Int32) (p2 : Int32) (p3 : Nat) (h : KH) : kMX yL_cost cL_cost 5 (some .int) [(0, 10, 13, 21)] 8 2 12 encI [.inr (.inr (some p0)), .inl p1, .inl p2, .inr (.inr (some p3))] h (f_L_cost p0 p1 p2 p3 h) := by
  refine kMX_of RL (by decide) rfl (Nat.le_of_ble_eq_true rfl) [(0, .inr (.inr (some p0))), (1, .inl p1), (2, .inl p2), (3, .inr (.inr (some p3)))] rfl (fun X hC hT hmc hms hD => ?_)
  unfold f_L_cost
  refine kj_aloadn hC 3 dL_cost_0 rfl rfl ?_
  refine kj_iconst (v := 0) hC dL_cost_1 (by decide) ?_
  refine kj_aloadn hC 0 dL_cost_2 rfl rfl ?_
  refine kj_iloadn hC 1 dL_cost_3 rfl rfl ?_
  refine kj_iloadn hC 2 dL_cost_4 rfl rfl ?_
  refine kj_tryV (ci := 9) (q := (RX9, TX9, 17)) (as := [.inl p1, .inl p2]) (rest := [.inl 0, .inr (.inr (some p3))]) hC hT dL_cost_5 kw787 ky_X9_cost ky2_X9_cost rfl rfl (t_X9_cost p0 p1 p2 h) rfl rfl (Nat.le_of_ble_eq_true rfl) ⟨by rw [hD]; decide, by decide⟩ ⟨by rw [hmc]; exact Nat.le_of_ble_eq_true rfl, by rw [hms]; exact Nat.le_of_ble_eq_true rfl⟩ ?_ (fun x1 h1 => ?_)
  · intro e h1
    by_cases q0 : e = 3
    · subst q0; exact Or.inr ⟨1, rfl, [], ⟨0, 10, 13, 21⟩, [], rfl, (fun z hz => by cases hz), by decide, by decide, kw376, ⟨4, 15, 16, by decide, Or.inr ⟨dL_cost_13, rfl⟩, ⟨1, dL_cost_15, by decide⟩, rfl, dL_cost_16⟩⟩
    · left; simp only [q0, if_false]
  · refine kj_norm (st' := [.inl x1, .inl 0, .inr (.inr (some p3))]) (c' := 2) (z' := 12) rfl rfl rfl ?_
    refine kj_i2l hC dL_cost_8 ?_
    refine kj_pAL hC dL_cost_9 (fun h2 => ?_)
    refine kj_goto (tgt := 17) hC dL_cost_10 (by decide) ?_
    refine kj_iconst (v := 0) hC dL_cost_17 (by decide) ?_
    refine kj_fin hmc hms ?_
    exact kj_ireturn hC dL_cost_18
set_option maxHeartbeats 4000000 in
set_option maxRecDepth 100000 in
theorem t_L_trips (p0 : Nat) (p1 : Int32) (p2 : Nat) (h : KH) : kMX yL_trips cL_trips 4 (some .int) [(0, 9, 12, 21)] 8 1 6 encI [.inr (.inr (some p0)), .inl p1, .inr (.inr (some p2))] h (f_L_trips p0 p1 p2 h) := by
  refine kMX_of RL (by decide) rfl (Nat.le_of_ble_eq_true rfl) [(0, .inr (.inr (some p0))), (1, .inl p1), (2, .inr (.inr (some p2)))] rfl (fun X hC hT hmc hms hD => ?_)
  unfold f_L_trips
  refine kj_aloadn hC 2 dL_trips_0 rfl rfl ?_
  refine kj_iconst (v := 0) hC dL_trips_1 (by decide) ?_
  refine kj_aloadn hC 0 dL_trips_2 rfl rfl ?_
  refine kj_iloadn hC 1 dL_trips_3 rfl rfl ?_
  refine kj_tryV (ci := 9) (q := (RX9, TX9, 17)) (as := [.inl p1]) (rest := [.inl 0, .inr (.inr (some p2))]) hC hT dL_trips_4 kw794 ky_X9_trips ky2_X9_trips rfl rfl (t_X9_trips p0 p1 h) rfl rfl (Nat.le_of_ble_eq_true rfl) ⟨by rw [hD]; decide, by decide⟩ ⟨by rw [hmc]; exact Nat.le_of_ble_eq_true rfl, by rw [hms]; exact Nat.le_of_ble_eq_true rfl⟩ ?_ (fun x1 h1 => ?_)
  · intro e h1
    by_cases q0 : e = 3
    · subst q0; exact Or.inr ⟨1, rfl, [], ⟨0, 9, 12, 21⟩, [], rfl, (fun z hz => by cases hz), by decide, by decide, kw376, ⟨3, 13, 14, by decide, Or.inl ⟨3, rfl, dL_trips_12, rfl⟩, ⟨1, dL_trips_13, by decide⟩, rfl, dL_trips_14⟩⟩
    · left; simp only [q0, if_false]
  · refine kj_norm (st' := [.inl x1, .inl 0, .inr (.inr (some p2))]) (c' := 1) (z' := 6) rfl rfl rfl ?_
    refine kj_i2l hC dL_trips_7 ?_
    refine kj_pAL hC dL_trips_8 (fun h2 => ?_)
    refine kj_goto (tgt := 15) hC dL_trips_9 (by decide) ?_
    refine kj_iconst (v := 0) hC dL_trips_15 (by decide) ?_
    refine kj_fin hmc hms ?_
    exact kj_ireturn hC dL_trips_16
set_option maxHeartbeats 4000000 in
set_option maxRecDepth 100000 in
theorem t_L_tripsAnew (p0 : Nat) (p1 : Int32) (p2 : Nat) (h : KH) : kMX yL_tripsAnew cL_tripsAnew 4 (some .int) [(0, 9, 12, 21)] 8 1 6 encI [.inr (.inr (some p0)), .inl p1, .inr (.inr (some p2))] h (f_L_tripsAnew p0 p1 p2 h) := by
  refine kMX_of RL (by decide) rfl (Nat.le_of_ble_eq_true rfl) [(0, .inr (.inr (some p0))), (1, .inl p1), (2, .inr (.inr (some p2)))] rfl (fun X hC hT hmc hms hD => ?_)
  unfold f_L_tripsAnew
  refine kj_aloadn hC 2 dL_tripsAnew_0 rfl rfl ?_
  refine kj_iconst (v := 0) hC dL_tripsAnew_1 (by decide) ?_
  refine kj_aloadn hC 0 dL_tripsAnew_2 rfl rfl ?_
  refine kj_iloadn hC 1 dL_tripsAnew_3 rfl rfl ?_
  refine kj_tryV (ci := 9) (q := (RX9, TX9, 17)) (as := [.inl p1]) (rest := [.inl 0, .inr (.inr (some p2))]) hC hT dL_tripsAnew_4 kw809 ky_X9_tripsAnew ky2_X9_tripsAnew rfl rfl (t_X9_tripsAnew p0 p1 h) rfl rfl (Nat.le_of_ble_eq_true rfl) ⟨by rw [hD]; decide, by decide⟩ ⟨by rw [hmc]; exact Nat.le_of_ble_eq_true rfl, by rw [hms]; exact Nat.le_of_ble_eq_true rfl⟩ ?_ (fun x1 h1 => ?_)
  · intro e h1
    by_cases q0 : e = 3
    · subst q0; exact Or.inr ⟨1, rfl, [], ⟨0, 9, 12, 21⟩, [], rfl, (fun z hz => by cases hz), by decide, by decide, kw376, ⟨3, 13, 14, by decide, Or.inl ⟨3, rfl, dL_tripsAnew_12, rfl⟩, ⟨1, dL_tripsAnew_13, by decide⟩, rfl, dL_tripsAnew_14⟩⟩
    · left; simp only [q0, if_false]
  · refine kj_norm (st' := [.inl x1, .inl 0, .inr (.inr (some p2))]) (c' := 1) (z' := 6) rfl rfl rfl ?_
    refine kj_i2l hC dL_tripsAnew_7 ?_
    refine kj_pAL hC dL_tripsAnew_8 (fun h2 => ?_)
    refine kj_goto (tgt := 15) hC dL_tripsAnew_9 (by decide) ?_
    refine kj_iconst (v := 0) hC dL_tripsAnew_15 (by decide) ?_
    refine kj_fin hmc hms ?_
    exact kj_ireturn hC dL_tripsAnew_16
set_option maxHeartbeats 4000000 in
set_option maxRecDepth 100000 in
theorem t_L_tripOf (p0 : Nat) (p1 : Int32) (p2 : Nat) (h : KH) : kMX yL_tripOf cL_tripOf 4 (some .int) [(0, 9, 12, 21)] 8 1 6 encI [.inr (.inr (some p0)), .inl p1, .inr (.inr (some p2))] h (f_L_tripOf p0 p1 p2 h) := by
  refine kMX_of RL (by decide) rfl (Nat.le_of_ble_eq_true rfl) [(0, .inr (.inr (some p0))), (1, .inl p1), (2, .inr (.inr (some p2)))] rfl (fun X hC hT hmc hms hD => ?_)
  unfold f_L_tripOf
  refine kj_aloadn hC 2 dL_tripOf_0 rfl rfl ?_
  refine kj_iconst (v := 0) hC dL_tripOf_1 (by decide) ?_
  refine kj_aloadn hC 0 dL_tripOf_2 rfl rfl ?_
  refine kj_iloadn hC 1 dL_tripOf_3 rfl rfl ?_
  refine kj_tryV (ci := 9) (q := (RX9, TX9, 17)) (as := [.inl p1]) (rest := [.inl 0, .inr (.inr (some p2))]) hC hT dL_tripOf_4 kw821 ky_X9_tripOf ky2_X9_tripOf rfl rfl (t_X9_tripOf p0 p1 h) rfl rfl (Nat.le_of_ble_eq_true rfl) ⟨by rw [hD]; decide, by decide⟩ ⟨by rw [hmc]; exact Nat.le_of_ble_eq_true rfl, by rw [hms]; exact Nat.le_of_ble_eq_true rfl⟩ ?_ (fun x1 h1 => ?_)
  · intro e h1
    by_cases q0 : e = 3
    · subst q0; exact Or.inr ⟨1, rfl, [], ⟨0, 9, 12, 21⟩, [], rfl, (fun z hz => by cases hz), by decide, by decide, kw376, ⟨3, 13, 14, by decide, Or.inl ⟨3, rfl, dL_tripOf_12, rfl⟩, ⟨1, dL_tripOf_13, by decide⟩, rfl, dL_tripOf_14⟩⟩
    · left; simp only [q0, if_false]
  · refine kj_norm (st' := [.inl x1, .inl 0, .inr (.inr (some p2))]) (c' := 1) (z' := 6) rfl rfl rfl ?_
    refine kj_i2l hC dL_tripOf_7 ?_
    refine kj_pAL hC dL_tripOf_8 (fun h2 => ?_)
    refine kj_goto (tgt := 15) hC dL_tripOf_9 (by decide) ?_
    refine kj_iconst (v := 0) hC dL_tripOf_15 (by decide) ?_
    refine kj_fin hmc hms ?_
    exact kj_ireturn hC dL_tripOf_16
set_option maxHeartbeats 4000000 in
set_option maxRecDepth 100000 in
theorem t_L_toll (p0 : Nat) (p1 : Int32) (p2 : Int32) (p3 : Nat) (h : KH) : kMX yL_toll cL_toll 5 (some .int) [(0, 10, 13, 21)] 8 2 12 encI [.inr (.inr (some p0)), .inl p1, .inl p2, .inr (.inr (some p3))] h (f_L_toll p0 p1 p2 p3 h) := by
  refine kMX_of RL (by decide) rfl (Nat.le_of_ble_eq_true rfl) [(0, .inr (.inr (some p0))), (1, .inl p1), (2, .inl p2), (3, .inr (.inr (some p3)))] rfl (fun X hC hT hmc hms hD => ?_)
  unfold f_L_toll
  refine kj_aloadn hC 3 dL_toll_0 rfl rfl ?_
  refine kj_iconst (v := 0) hC dL_toll_1 (by decide) ?_
  refine kj_aloadn hC 0 dL_toll_2 rfl rfl ?_
  refine kj_iloadn hC 1 dL_toll_3 rfl rfl ?_
  refine kj_iloadn hC 2 dL_toll_4 rfl rfl ?_
  refine kj_tryV (ci := 9) (q := (RX9, TX9, 17)) (as := [.inl p1, .inl p2]) (rest := [.inl 0, .inr (.inr (some p3))]) hC hT dL_toll_5 kw832 ky_X9_toll ky2_X9_toll rfl rfl (t_X9_toll p0 p1 p2 h) rfl rfl (Nat.le_of_ble_eq_true rfl) ⟨by rw [hD]; decide, by decide⟩ ⟨by rw [hmc]; exact Nat.le_of_ble_eq_true rfl, by rw [hms]; exact Nat.le_of_ble_eq_true rfl⟩ ?_ (fun x1 h1 => ?_)
  · intro e h1
    by_cases q0 : e = 3
    · subst q0; exact Or.inr ⟨1, rfl, [], ⟨0, 10, 13, 21⟩, [], rfl, (fun z hz => by cases hz), by decide, by decide, kw376, ⟨4, 15, 16, by decide, Or.inr ⟨dL_toll_13, rfl⟩, ⟨1, dL_toll_15, by decide⟩, rfl, dL_toll_16⟩⟩
    · left; simp only [q0, if_false]
  · refine kj_norm (st' := [.inl x1, .inl 0, .inr (.inr (some p3))]) (c' := 2) (z' := 12) rfl rfl rfl ?_
    refine kj_i2l hC dL_toll_8 ?_
    refine kj_pAL hC dL_toll_9 (fun h2 => ?_)
    refine kj_goto (tgt := 17) hC dL_toll_10 (by decide) ?_
    refine kj_iconst (v := 0) hC dL_toll_17 (by decide) ?_
    refine kj_fin hmc hms ?_
    exact kj_ireturn hC dL_toll_18
set_option maxHeartbeats 4000000 in
set_option maxRecDepth 100000 in
theorem t_L_driverOf (p0 : Nat) (p1 : Int32) (p2 : Int32) (p3 : Nat) (h : KH) : kMX yL_driverOf cL_driverOf 5 (some .int) [(0, 10, 13, 21)] 8 2 12 encI [.inr (.inr (some p0)), .inl p1, .inl p2, .inr (.inr (some p3))] h (f_L_driverOf p0 p1 p2 p3 h) := by
  refine kMX_of RL (by decide) rfl (Nat.le_of_ble_eq_true rfl) [(0, .inr (.inr (some p0))), (1, .inl p1), (2, .inl p2), (3, .inr (.inr (some p3)))] rfl (fun X hC hT hmc hms hD => ?_)
  unfold f_L_driverOf
  refine kj_aloadn hC 3 dL_driverOf_0 rfl rfl ?_
  refine kj_iconst (v := 0) hC dL_driverOf_1 (by decide) ?_
  refine kj_aloadn hC 0 dL_driverOf_2 rfl rfl ?_
  refine kj_iloadn hC 1 dL_driverOf_3 rfl rfl ?_
  refine kj_iloadn hC 2 dL_driverOf_4 rfl rfl ?_
  refine kj_tryV (ci := 9) (q := (RX9, TX9, 17)) (as := [.inl p1, .inl p2]) (rest := [.inl 0, .inr (.inr (some p3))]) hC hT dL_driverOf_5 kw847 ky_X9_driverOf ky2_X9_driverOf rfl rfl (t_X9_driverOf p0 p1 p2 h) rfl rfl (Nat.le_of_ble_eq_true rfl) ⟨by rw [hD]; decide, by decide⟩ ⟨by rw [hmc]; exact Nat.le_of_ble_eq_true rfl, by rw [hms]; exact Nat.le_of_ble_eq_true rfl⟩ ?_ (fun x1 h1 => ?_)
  · intro e h1
    by_cases q0 : e = 3
    · subst q0; exact Or.inr ⟨1, rfl, [], ⟨0, 10, 13, 21⟩, [], rfl, (fun z hz => by cases hz), by decide, by decide, kw376, ⟨4, 15, 16, by decide, Or.inr ⟨dL_driverOf_13, rfl⟩, ⟨1, dL_driverOf_15, by decide⟩, rfl, dL_driverOf_16⟩⟩
    · left; simp only [q0, if_false]
  · refine kj_norm (st' := [.inl x1, .inl 0, .inr (.inr (some p3))]) (c' := 2) (z' := 12) rfl rfl rfl ?_
    refine kj_i2l hC dL_driverOf_8 ?_
    refine kj_pAL hC dL_driverOf_9 (fun h2 => ?_)
    refine kj_goto (tgt := 17) hC dL_driverOf_10 (by decide) ?_
    refine kj_iconst (v := 0) hC dL_driverOf_17 (by decide) ?_
    refine kj_fin hmc hms ?_
    exact kj_ireturn hC dL_driverOf_18
set_option maxHeartbeats 4000000 in
set_option maxRecDepth 100000 in
theorem t_L_due (p0 : Nat) (p1 : Int32) (p2 : Nat) (h : KH) : kMX yL_due cL_due 4 (some .int) [(0, 9, 12, 21)] 8 1 6 encI [.inr (.inr (some p0)), .inl p1, .inr (.inr (some p2))] h (f_L_due p0 p1 p2 h) := by
  refine kMX_of RL (by decide) rfl (Nat.le_of_ble_eq_true rfl) [(0, .inr (.inr (some p0))), (1, .inl p1), (2, .inr (.inr (some p2)))] rfl (fun X hC hT hmc hms hD => ?_)
  unfold f_L_due
  refine kj_aloadn hC 2 dL_due_0 rfl rfl ?_
  refine kj_iconst (v := 0) hC dL_due_1 (by decide) ?_
  refine kj_aloadn hC 0 dL_due_2 rfl rfl ?_
  refine kj_iloadn hC 1 dL_due_3 rfl rfl ?_
  refine kj_tryV (ci := 9) (q := (RX9, TX9, 17)) (as := [.inl p1]) (rest := [.inl 0, .inr (.inr (some p2))]) hC hT dL_due_4 kw854 ky_X9_due ky2_X9_due rfl rfl (t_X9_due p0 p1 h) rfl rfl (Nat.le_of_ble_eq_true rfl) ⟨by rw [hD]; decide, by decide⟩ ⟨by rw [hmc]; exact Nat.le_of_ble_eq_true rfl, by rw [hms]; exact Nat.le_of_ble_eq_true rfl⟩ ?_ (fun x1 h1 => ?_)
  · intro e h1
    by_cases q0 : e = 3
    · subst q0; exact Or.inr ⟨1, rfl, [], ⟨0, 9, 12, 21⟩, [], rfl, (fun z hz => by cases hz), by decide, by decide, kw376, ⟨3, 13, 14, by decide, Or.inl ⟨3, rfl, dL_due_12, rfl⟩, ⟨1, dL_due_13, by decide⟩, rfl, dL_due_14⟩⟩
    · left; simp only [q0, if_false]
  · refine kj_norm (st' := [.inl x1, .inl 0, .inr (.inr (some p2))]) (c' := 1) (z' := 6) rfl rfl rfl ?_
    refine kj_i2l hC dL_due_7 ?_
    refine kj_pAL hC dL_due_8 (fun h2 => ?_)
    refine kj_goto (tgt := 15) hC dL_due_9 (by decide) ?_
    refine kj_iconst (v := 0) hC dL_due_15 (by decide) ?_
    refine kj_fin hmc hms ?_
    exact kj_ireturn hC dL_due_16
set_option maxHeartbeats 4000000 in
set_option maxRecDepth 100000 in
theorem t_L_dueAnew (p0 : Nat) (p1 : Int32) (p2 : Nat) (h : KH) : kMX yL_dueAnew cL_dueAnew 4 (some .int) [(0, 9, 12, 21)] 8 1 6 encI [.inr (.inr (some p0)), .inl p1, .inr (.inr (some p2))] h (f_L_dueAnew p0 p1 p2 h) := by
  refine kMX_of RL (by decide) rfl (Nat.le_of_ble_eq_true rfl) [(0, .inr (.inr (some p0))), (1, .inl p1), (2, .inr (.inr (some p2)))] rfl (fun X hC hT hmc hms hD => ?_)
  unfold f_L_dueAnew
  refine kj_aloadn hC 2 dL_dueAnew_0 rfl rfl ?_
  refine kj_iconst (v := 0) hC dL_dueAnew_1 (by decide) ?_
  refine kj_aloadn hC 0 dL_dueAnew_2 rfl rfl ?_
  refine kj_iloadn hC 1 dL_dueAnew_3 rfl rfl ?_
  refine kj_tryV (ci := 9) (q := (RX9, TX9, 17)) (as := [.inl p1]) (rest := [.inl 0, .inr (.inr (some p2))]) hC hT dL_dueAnew_4 kw861 ky_X9_dueAnew ky2_X9_dueAnew rfl rfl (t_X9_dueAnew p0 p1 h) rfl rfl (Nat.le_of_ble_eq_true rfl) ⟨by rw [hD]; decide, by decide⟩ ⟨by rw [hmc]; exact Nat.le_of_ble_eq_true rfl, by rw [hms]; exact Nat.le_of_ble_eq_true rfl⟩ ?_ (fun x1 h1 => ?_)
  · intro e h1
    by_cases q0 : e = 3
    · subst q0; exact Or.inr ⟨1, rfl, [], ⟨0, 9, 12, 21⟩, [], rfl, (fun z hz => by cases hz), by decide, by decide, kw376, ⟨3, 13, 14, by decide, Or.inl ⟨3, rfl, dL_dueAnew_12, rfl⟩, ⟨1, dL_dueAnew_13, by decide⟩, rfl, dL_dueAnew_14⟩⟩
    · left; simp only [q0, if_false]
  · refine kj_norm (st' := [.inl x1, .inl 0, .inr (.inr (some p2))]) (c' := 1) (z' := 6) rfl rfl rfl ?_
    refine kj_i2l hC dL_dueAnew_7 ?_
    refine kj_pAL hC dL_dueAnew_8 (fun h2 => ?_)
    refine kj_goto (tgt := 15) hC dL_dueAnew_9 (by decide) ?_
    refine kj_iconst (v := 0) hC dL_dueAnew_15 (by decide) ?_
    refine kj_fin hmc hms ?_
    exact kj_ireturn hC dL_dueAnew_16
set_option maxHeartbeats 4000000 in
set_option maxRecDepth 100000 in
theorem t_L_billed (p0 : Nat) (p1 : Int32) (p2 : Nat) (h : KH) : kMX yL_billed cL_billed 4 (some .int) [(0, 8, 11, 21)] 8 1 6 encI [.inr (.inr (some p0)), .inl p1, .inr (.inr (some p2))] h (f_L_billed p0 p1 p2 h) := by
  refine kMX_of RL (by decide) rfl (Nat.le_of_ble_eq_true rfl) [(0, .inr (.inr (some p0))), (1, .inl p1), (2, .inr (.inr (some p2)))] rfl (fun X hC hT hmc hms hD => ?_)
  unfold f_L_billed
  refine kj_aloadn hC 2 dL_billed_0 rfl rfl ?_
  refine kj_iconst (v := 0) hC dL_billed_1 (by decide) ?_
  refine kj_aloadn hC 0 dL_billed_2 rfl rfl ?_
  refine kj_iloadn hC 1 dL_billed_3 rfl rfl ?_
  refine kj_tryV (ci := 9) (q := (RX9, TX9, 17)) (as := [.inl p1]) (rest := [.inl 0, .inr (.inr (some p2))]) hC hT dL_billed_4 kw868 ky_X9_billed ky2_X9_billed rfl rfl (t_X9_billed p0 p1 h) rfl rfl (Nat.le_of_ble_eq_true rfl) ⟨by rw [hD]; decide, by decide⟩ ⟨by rw [hmc]; exact Nat.le_of_ble_eq_true rfl, by rw [hms]; exact Nat.le_of_ble_eq_true rfl⟩ ?_ (fun y1 h1 => ?_)
  · intro e h1
    by_cases q0 : e = 3
    · subst q0; exact Or.inr ⟨1, rfl, [], ⟨0, 8, 11, 21⟩, [], rfl, (fun z hz => by cases hz), by decide, by decide, kw376, ⟨3, 12, 13, by decide, Or.inl ⟨3, rfl, dL_billed_11, rfl⟩, ⟨1, dL_billed_12, by decide⟩, rfl, dL_billed_13⟩⟩
    · left; simp only [q0, if_false]
  · refine kj_norm (st' := [.inr (.inl (y1)), .inl 0, .inr (.inr (some p2))]) (c' := 1) (z' := 6) rfl rfl rfl ?_
    refine kj_pAL hC dL_billed_7 (fun h2 => ?_)
    refine kj_goto (tgt := 14) hC dL_billed_8 (by decide) ?_
    refine kj_iconst (v := 0) hC dL_billed_14 (by decide) ?_
    refine kj_fin hmc hms ?_
    exact kj_ireturn hC dL_billed_15
set_option maxHeartbeats 4000000 in
set_option maxRecDepth 100000 in
theorem t_L_paidBack (p0 : Nat) (p1 : Int32) (p2 : Nat) (h : KH) : kMX yL_paidBack cL_paidBack 4 (some .int) [(0, 8, 11, 21)] 8 1 6 encI [.inr (.inr (some p0)), .inl p1, .inr (.inr (some p2))] h (f_L_paidBack p0 p1 p2 h) := by
  refine kMX_of RL (by decide) rfl (Nat.le_of_ble_eq_true rfl) [(0, .inr (.inr (some p0))), (1, .inl p1), (2, .inr (.inr (some p2)))] rfl (fun X hC hT hmc hms hD => ?_)
  unfold f_L_paidBack
  refine kj_aloadn hC 2 dL_paidBack_0 rfl rfl ?_
  refine kj_iconst (v := 0) hC dL_paidBack_1 (by decide) ?_
  refine kj_aloadn hC 0 dL_paidBack_2 rfl rfl ?_
  refine kj_iloadn hC 1 dL_paidBack_3 rfl rfl ?_
  refine kj_tryV (ci := 9) (q := (RX9, TX9, 17)) (as := [.inl p1]) (rest := [.inl 0, .inr (.inr (some p2))]) hC hT dL_paidBack_4 kw875 ky_X9_paidBack ky2_X9_paidBack rfl rfl (t_X9_paidBack p0 p1 h) rfl rfl (Nat.le_of_ble_eq_true rfl) ⟨by rw [hD]; decide, by decide⟩ ⟨by rw [hmc]; exact Nat.le_of_ble_eq_true rfl, by rw [hms]; exact Nat.le_of_ble_eq_true rfl⟩ ?_ (fun y1 h1 => ?_)
  · intro e h1
    by_cases q0 : e = 3
    · subst q0; exact Or.inr ⟨1, rfl, [], ⟨0, 8, 11, 21⟩, [], rfl, (fun z hz => by cases hz), by decide, by decide, kw376, ⟨3, 12, 13, by decide, Or.inl ⟨3, rfl, dL_paidBack_11, rfl⟩, ⟨1, dL_paidBack_12, by decide⟩, rfl, dL_paidBack_13⟩⟩
    · left; simp only [q0, if_false]
  · refine kj_norm (st' := [.inr (.inl (y1)), .inl 0, .inr (.inr (some p2))]) (c' := 1) (z' := 6) rfl rfl rfl ?_
    refine kj_pAL hC dL_paidBack_7 (fun h2 => ?_)
    refine kj_goto (tgt := 14) hC dL_paidBack_8 (by decide) ?_
    refine kj_iconst (v := 0) hC dL_paidBack_14 (by decide) ?_
    refine kj_fin hmc hms ?_
    exact kj_ireturn hC dL_paidBack_15
set_option maxHeartbeats 4000000 in
set_option maxRecDepth 100000 in
theorem t_L_warrant (p0 : Nat) (p1 : Int32) (p2 : Int32) (p3 : Int32) (p4 : Nat) (h : KH) : kMX yL_warrant cL_warrant 6 (some .int) [(0, 12, 15, 21), (0, 12, 19, 13), (0, 12, 23, 15)] 8 2 12 encI [.inr (.inr (some p0)), .inl p1, .inl p2, .inl p3, .inr (.inr (some p4))] h (f_L_warrant p0 p1 p2 p3 p4 h) := by
  refine kMX_of RL (by decide) rfl (Nat.le_of_ble_eq_true rfl) [(0, .inr (.inr (some p0))), (1, .inl p1), (2, .inl p2), (3, .inl p3), (4, .inr (.inr (some p4)))] rfl (fun X hC hT hmc hms hD => ?_)
  unfold f_L_warrant
  refine kj_aload hC 4 dL_warrant_0 rfl ?_
  refine kj_iconst (v := 0) hC dL_warrant_2 (by decide) ?_
  refine kj_aloadn hC 0 dL_warrant_3 rfl rfl ?_
  refine kj_iloadn hC 1 dL_warrant_4 rfl rfl ?_
  refine kj_iloadn hC 2 dL_warrant_5 rfl rfl ?_
  refine kj_iloadn hC 3 dL_warrant_6 rfl rfl ?_
  refine kj_tryV (ci := 9) (q := (RX9, TX9, 17)) (as := [.inl p1, .inl p2, .inl p3]) (rest := [.inl 0, .inr (.inr (some p4))]) hC hT dL_warrant_7 kw882 ky_X9_warrant ky2_X9_warrant rfl rfl (t_X9_warrant p0 p1 p2 p3 h) rfl rfl (Nat.le_of_ble_eq_true rfl) ⟨by rw [hD]; decide, by decide⟩ ⟨by rw [hmc]; exact Nat.le_of_ble_eq_true rfl, by rw [hms]; exact Nat.le_of_ble_eq_true rfl⟩ ?_ (fun x1 h1 => ?_)
  · intro e h1
    by_cases q0 : e = 3
    · subst q0; exact Or.inr ⟨1, rfl, [], ⟨0, 12, 15, 21⟩, [⟨0, 12, 19, 13⟩, ⟨0, 12, 23, 15⟩], rfl, (fun z hz => by cases hz), by decide, by decide, kw376, ⟨5, 17, 18, by decide, Or.inr ⟨dL_warrant_15, rfl⟩, ⟨1, dL_warrant_17, by decide⟩, rfl, dL_warrant_18⟩⟩
    · skip
      by_cases q1 : e = 1
      · subst q1; exact Or.inr ⟨2, rfl, [⟨0, 12, 15, 21⟩], ⟨0, 12, 19, 13⟩, [⟨0, 12, 23, 15⟩], rfl, (fun z hz => by obtain rfl := List.mem_singleton.mp hz; exact ⟨by decide, "java/lang/IndexOutOfBoundsException", kw376, by decide, by decide⟩), by decide, by decide, kw278, ⟨5, 21, 22, by decide, Or.inr ⟨dL_warrant_19, rfl⟩, ⟨2, dL_warrant_21, by decide⟩, rfl, dL_warrant_22⟩⟩
      · skip
        by_cases q2 : e = 2
        · subst q2; exact Or.inr ⟨3, rfl, [⟨0, 12, 15, 21⟩, ⟨0, 12, 19, 13⟩], ⟨0, 12, 23, 15⟩, [], rfl, (fun z hz => by rcases List.mem_cons.mp hz with rfl | hz; exact ⟨by decide, "java/lang/IndexOutOfBoundsException", kw376, by decide, by decide⟩; obtain rfl := List.mem_singleton.mp hz; exact ⟨by decide, "java/lang/IllegalArgumentException", kw278, by decide, by decide⟩), by decide, by decide, kw279, ⟨5, 25, 26, by decide, Or.inr ⟨dL_warrant_23, rfl⟩, ⟨3, dL_warrant_25, by decide⟩, rfl, dL_warrant_26⟩⟩
        · left; simp only [q0, q1, q2, if_false]
  · refine kj_norm (st' := [.inl x1, .inl 0, .inr (.inr (some p4))]) (c' := 2) (z' := 12) rfl rfl rfl ?_
    refine kj_i2l hC dL_warrant_10 ?_
    refine kj_pAL hC dL_warrant_11 (fun h2 => ?_)
    refine kj_goto (tgt := 27) hC dL_warrant_12 (by decide) ?_
    refine kj_iconst (v := 0) hC dL_warrant_27 (by decide) ?_
    refine kj_fin hmc hms ?_
    exact kj_ireturn hC dL_warrant_28
set_option maxHeartbeats 4000000 in
set_option maxRecDepth 100000 in
theorem t_L_ask (p0 : Nat) (p1 : Int32) (p2 : Int32) (p3 : Nat) (h : KH) : kMX yL_ask cL_ask 5 (some .int) [(0, 10, 13, 21), (0, 10, 17, 15), (0, 10, 21, 43)] 8 2 12 encI [.inr (.inr (some p0)), .inl p1, .inl p2, .inr (.inr (some p3))] h (f_L_ask p0 p1 p2 p3 h) := by
  refine kMX_of RL (by decide) rfl (Nat.le_of_ble_eq_true rfl) [(0, .inr (.inr (some p0))), (1, .inl p1), (2, .inl p2), (3, .inr (.inr (some p3)))] rfl (fun X hC hT hmc hms hD => ?_)
  unfold f_L_ask
  refine kj_aloadn hC 3 dL_ask_0 rfl rfl ?_
  refine kj_iconst (v := 0) hC dL_ask_1 (by decide) ?_
  refine kj_aloadn hC 0 dL_ask_2 rfl rfl ?_
  refine kj_iloadn hC 1 dL_ask_3 rfl rfl ?_
  refine kj_iloadn hC 2 dL_ask_4 rfl rfl ?_
  refine kj_tryV (ci := 9) (q := (RX9, TX9, 17)) (as := [.inl p1, .inl p2]) (rest := [.inl 0, .inr (.inr (some p3))]) hC hT dL_ask_5 kw910 ky_X9_ask ky2_X9_ask rfl rfl (t_X9_ask p0 p1 p2 h) rfl rfl (Nat.le_of_ble_eq_true rfl) ⟨by rw [hD]; decide, by decide⟩ ⟨by rw [hmc]; exact Nat.le_of_ble_eq_true rfl, by rw [hms]; exact Nat.le_of_ble_eq_true rfl⟩ ?_ (fun x1 h1 => ?_)
  · intro e h1
    by_cases q0 : e = 3
    · subst q0; exact Or.inr ⟨1, rfl, [], ⟨0, 10, 13, 21⟩, [⟨0, 10, 17, 15⟩, ⟨0, 10, 21, 43⟩], rfl, (fun z hz => by cases hz), by decide, by decide, kw376, ⟨4, 15, 16, by decide, Or.inr ⟨dL_ask_13, rfl⟩, ⟨1, dL_ask_15, by decide⟩, rfl, dL_ask_16⟩⟩
    · skip
      by_cases q1 : e = 2
      · subst q1; exact Or.inr ⟨2, rfl, [⟨0, 10, 13, 21⟩], ⟨0, 10, 17, 15⟩, [⟨0, 10, 21, 43⟩], rfl, (fun z hz => by obtain rfl := List.mem_singleton.mp hz; exact ⟨by decide, "java/lang/IndexOutOfBoundsException", kw376, by decide, by decide⟩), by decide, by decide, kw279, ⟨4, 19, 20, by decide, Or.inr ⟨dL_ask_17, rfl⟩, ⟨2, dL_ask_19, by decide⟩, rfl, dL_ask_20⟩⟩
      · skip
        by_cases q2 : e = 4
        · subst q2; exact Or.inr ⟨3, rfl, [⟨0, 10, 13, 21⟩, ⟨0, 10, 17, 15⟩], ⟨0, 10, 21, 43⟩, [], rfl, (fun z hz => by rcases List.mem_cons.mp hz with rfl | hz; exact ⟨by decide, "java/lang/IndexOutOfBoundsException", kw376, by decide, by decide⟩; obtain rfl := List.mem_singleton.mp hz; exact ⟨by decide, "java/lang/IllegalStateException", kw279, by decide, by decide⟩), by decide, by decide, kw495, ⟨4, 23, 24, by decide, Or.inr ⟨dL_ask_21, rfl⟩, ⟨3, dL_ask_23, by decide⟩, rfl, dL_ask_24⟩⟩
        · left; simp only [q0, q1, q2, if_false]
  · refine kj_norm (st' := [.inl x1, .inl 0, .inr (.inr (some p3))]) (c' := 2) (z' := 12) rfl rfl rfl ?_
    refine kj_i2l hC dL_ask_8 ?_
    refine kj_pAL hC dL_ask_9 (fun h2 => ?_)
    refine kj_goto (tgt := 25) hC dL_ask_10 (by decide) ?_
    refine kj_iconst (v := 0) hC dL_ask_25 (by decide) ?_
    refine kj_fin hmc hms ?_
    exact kj_ireturn hC dL_ask_26
set_option maxHeartbeats 4000000 in
set_option maxRecDepth 100000 in
theorem t_L_stale (p0 : Nat) (p1 : Int32) (p2 : Nat) (h : KH) : kMX yL_stale cL_stale 4 (some .int) [(0, 9, 12, 21)] 8 1 6 encI [.inr (.inr (some p0)), .inl p1, .inr (.inr (some p2))] h (f_L_stale p0 p1 p2 h) := by
  refine kMX_of RL (by decide) rfl (Nat.le_of_ble_eq_true rfl) [(0, .inr (.inr (some p0))), (1, .inl p1), (2, .inr (.inr (some p2)))] rfl (fun X hC hT hmc hms hD => ?_)
  unfold f_L_stale
  refine kj_aloadn hC 2 dL_stale_0 rfl rfl ?_
  refine kj_iconst (v := 0) hC dL_stale_1 (by decide) ?_
  refine kj_aloadn hC 0 dL_stale_2 rfl rfl ?_
  refine kj_iloadn hC 1 dL_stale_3 rfl rfl ?_
  refine kj_tryV (ci := 9) (q := (RX9, TX9, 17)) (as := [.inl p1]) (rest := [.inl 0, .inr (.inr (some p2))]) hC hT dL_stale_4 kw950 ky_X9_stale ky2_X9_stale rfl rfl (t_X9_stale p0 p1 h) rfl rfl (Nat.le_of_ble_eq_true rfl) ⟨by rw [hD]; decide, by decide⟩ ⟨by rw [hmc]; exact Nat.le_of_ble_eq_true rfl, by rw [hms]; exact Nat.le_of_ble_eq_true rfl⟩ ?_ (fun x1 h1 => ?_)
  · intro e h1
    by_cases q0 : e = 3
    · subst q0; exact Or.inr ⟨1, rfl, [], ⟨0, 9, 12, 21⟩, [], rfl, (fun z hz => by cases hz), by decide, by decide, kw376, ⟨3, 13, 14, by decide, Or.inl ⟨3, rfl, dL_stale_12, rfl⟩, ⟨1, dL_stale_13, by decide⟩, rfl, dL_stale_14⟩⟩
    · left; simp only [q0, if_false]
  · refine kj_norm (st' := [.inl x1, .inl 0, .inr (.inr (some p2))]) (c' := 1) (z' := 6) rfl rfl rfl ?_
    refine kj_i2l hC dL_stale_7 ?_
    refine kj_pAL hC dL_stale_8 (fun h2 => ?_)
    refine kj_goto (tgt := 15) hC dL_stale_9 (by decide) ?_
    refine kj_iconst (v := 0) hC dL_stale_15 (by decide) ?_
    refine kj_fin hmc hms ?_
    exact kj_ireturn hC dL_stale_16
