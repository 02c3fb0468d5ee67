set_option maxHeartbeats 4000000 in
set_option maxRecDepth 100000 in
theorem t_L_draw_b23 {X : KX} (hC : kC X RL cL_draw 4 (some .int)) (hN : (xme X).name = yL_draw.name) (hT : kT0 X) (hmc : xmc X = 0) (hms : xms X = 0) (hD : xD X = 0) (v2 : Int32) (s0 : Int32) (h : KH) : kJ X (fun x : Int32 => some (.inl x)) 4 0 0 [(2, .inl v2)] [.inl s0] 23 h (L_draw_b23  v2 s0 h) := by
  unfold L_draw_b23
  refine kj_istoren (L' := [(3, .inl s0), (2, .inl v2)]) hC dL_draw_23 rfl (by decide) rfl ?_
  refine kj_iloadn hC 0 dL_draw_24 rfl rfl ?_
  refine kj_ldc (v := 2147483647) hC dL_draw_25 kw204 ?_
  refine kj_iand hC dL_draw_27 ?_
  refine kj_iloadn hC 1 dL_draw_28 rfl rfl ?_
  refine kj_irem hC dL_draw_29 ?_
  refine kj_fin hmc hms ?_
  exact kj_ireturn hC dL_draw_30
set_option maxHeartbeats 4000000 in
set_option maxRecDepth 100000 in
theorem t_L_draw (p0 : Nat) (p1 : Int32) (p2 : Int32) (h : KH) : kM yL_draw cL_draw 4 (some .int) 0 0 0 (fun x : Int32 => some (.inl x)) [.inr (.inr (some p0)), .inl p1, .inl p2] h (f_L_draw p0 p1 p2 h) := by
  refine kM_of RL (by decide) rfl (Nat.le_of_ble_eq_true rfl) [(0, .inr (.inr (some p0))), (1, .inl p1), (2, .inl p2)] rfl (fun X hC hN hT hmc hms hD => ?_)
  unfold f_L_draw
  refine kj_iloadn hC 1 dL_draw_0 rfl rfl ?_
  refine kj_aloadn hC 0 dL_draw_1 rfl rfl ?_
  refine kj_gLen hC dL_draw_2 (fun x1 => ?_)
  refine kj_icmp_ge (tgt := 12) hC dL_draw_3 (by decide) (fun q1 => ?_) (fun q1 => ?_)
  · refine kj_ldc (v := 1003612105) hC dL_draw_12 kw202 ?_
    refine kj_iloadn hC 1 dL_draw_14 rfl rfl ?_
    refine kj_sipush (v := 479) hC dL_draw_15 (by decide) ?_
    refine kj_iadd hC dL_draw_18 ?_
    refine kj_imul hC dL_draw_19 ?_
    refine kj_ldc (v := 667265521) hC dL_draw_20 kw203 ?_
    refine kj_iadd hC dL_draw_22 ?_
    exact kj_sub [2] rfl (t_L_draw_b23 hC hN hT hmc hms hD  p2 (((1003612105 : Int32) * (p1 + (479 : Int32))) + (667265521 : Int32)) h)
  · refine kj_aloadn hC 0 dL_draw_6 rfl rfl ?_
    refine kj_iloadn hC 1 dL_draw_7 rfl rfl ?_
    refine kj_gS hC dL_draw_8 (fun x2 => ?_)
    refine kj_goto (tgt := 23) hC dL_draw_9 (by decide) ?_
    exact kj_sub [2] rfl (t_L_draw_b23 hC hN hT hmc hms hD  p2 x2 h)
set_option maxHeartbeats 4000000 in
set_option maxRecDepth 100000 in
theorem t_L_part (p0 : Int32) (p1 : Int32) (p2 : Int32) (h : KH) : kM yL_part cL_part 3 (some .int) 0 0 0 (fun x : Int32 => some (.inl x)) [.inl p0, .inl p1, .inl p2] h (f_L_part p0 p1 p2 h) := by
  refine kM_of RL (by decide) rfl (Nat.le_of_ble_eq_true rfl) [(0, .inl p0), (1, .inl p1), (2, .inl p2)] rfl (fun X hC hN hT hmc hms hD => ?_)
  unfold f_L_part
  refine kj_iloadn hC 0 dL_part_0 rfl rfl ?_
  refine kj_iloadn hC 1 dL_part_1 rfl rfl ?_
  refine kj_ishr hC dL_part_2 ?_
  refine kj_iconst (v := 1) hC dL_part_3 (by decide) ?_
  refine kj_iloadn hC 2 dL_part_4 rfl rfl ?_
  refine kj_ishl hC dL_part_5 ?_
  refine kj_iconst (v := 1) hC dL_part_6 (by decide) ?_
  refine kj_isub hC dL_part_7 ?_
  refine kj_iand hC dL_part_8 ?_
  refine kj_fin hmc hms ?_
  exact kj_ireturn hC dL_part_9
set_option maxHeartbeats 4000000 in
set_option maxRecDepth 100000 in
theorem t_L_sign (p0 : Int32) (p1 : Int32) (h : KH) : kM yL_sign cL_sign 2 (some .int) 1 0 0 (fun x : Int32 => some (.inl x)) [.inl p0, .inl p1] h (f_L_sign p0 p1 h) := by
  refine kM_of RL (by decide) rfl (Nat.le_of_ble_eq_true rfl) [(0, .inl p0), (1, .inl p1)] rfl (fun X hC hN hT hmc hms hD => ?_)
  unfold f_L_sign
  refine kj_iloadn hC 0 dL_sign_0 rfl rfl ?_
  refine kj_iconst (v := 4) hC dL_sign_1 (by decide) ?_
  refine kj_iloadn hC 1 dL_sign_2 rfl rfl ?_
  refine kj_imul hC dL_sign_3 ?_
  refine kj_iconst (v := 4) hC dL_sign_4 (by decide) ?_
  refine kj_invS (as := [.inl p0, .inl ((4 : Int32) * p1), .inl 4]) (rest := []) hC hT dL_sign_5 kw590 ky_L_part ky2_L_part (t_L_part p0 ((4 : Int32) * p1) 4 h) rfl rfl (Nat.le_of_ble_eq_true rfl) ⟨by rw [hD]; decide, by decide⟩ ⟨by rw [hmc]; exact Nat.le_of_ble_eq_true rfl, by rw [hms]; exact Nat.le_of_ble_eq_true rfl⟩ (fun x1 h1 => ?_)
  refine kj_norm (st' := [.inl x1]) (c' := 0) (z' := 0) rfl rfl rfl ?_
  refine kj_fin hmc hms ?_
  exact kj_ireturn hC dL_sign_8
set_option maxHeartbeats 4000000 in
set_option maxRecDepth 100000 in
theorem t_L_size (p0 : Int32) (h : KH) : kM yL_size cL_size 1 (some .int) 0 0 0 (fun x : Int32 => some (.inl x)) [.inl p0] h (f_L_size p0 h) := by
  refine kM_of RL (by decide) rfl (Nat.le_of_ble_eq_true rfl) [(0, .inl p0)] rfl (fun X hC hN hT hmc hms hD => ?_)
  unfold f_L_size
  refine kj_iloadn hC 0 dL_size_0 rfl rfl ?_
  refine kj_bipush (v := 24) hC dL_size_1 (by decide) ?_
  refine kj_ishr hC dL_size_3 ?_
  refine kj_fin hmc hms ?_
  exact kj_ireturn hC dL_size_4
set_option maxHeartbeats 4000000 in
set_option maxRecDepth 100000 in
theorem t_L_minute (p0 : Nat) (p1 : Int32) (h : KH) : kM yL_minute cL_minute 2 (some .int) 1 0 0 (fun x : Int32 => some (.inl x)) [.inr (.inr (some p0)), .inl p1] h (f_L_minute p0 p1 h) := by
  refine kM_of RL (by decide) rfl (Nat.le_of_ble_eq_true rfl) [(0, .inr (.inr (some p0))), (1, .inl p1)] rfl (fun X hC hN hT hmc hms hD => ?_)
  unfold f_L_minute
  refine kj_aloadn hC 0 dL_minute_0 rfl rfl ?_
  refine kj_iloadn hC 1 dL_minute_1 rfl rfl ?_
  refine kj_gAIc (c := 31) hC rfl dL_minute_2 (fun x1 => ?_)
  refine kj_iconst (v := 3) hC dL_minute_3 (by decide) ?_
  refine kj_bipush (v := 16) hC dL_minute_4 (by decide) ?_
  refine kj_invS (as := [.inl x1, .inl 3, .inl 16]) (rest := []) hC hT dL_minute_6 kw590 ky_L_part ky2_L_part (t_L_part x1 3 16 h) rfl rfl (Nat.le_of_ble_eq_true rfl) ⟨by rw [hD]; decide, by decide⟩ ⟨by rw [hmc]; exact Nat.le_of_ble_eq_true rfl, by rw [hms]; exact Nat.le_of_ble_eq_true rfl⟩ (fun x2 h1 => ?_)
  refine kj_norm (st' := [.inl x2]) (c' := 0) (z' := 0) rfl rfl rfl ?_
  refine kj_fin hmc hms ?_
  exact kj_ireturn hC dL_minute_9
set_option maxHeartbeats 4000000 in
set_option maxRecDepth 100000 in
theorem t_L_asks_b73 {X : KX} (hC : kC X RL cL_asks 5 (some .int)) (hN : (xme X).name = yL_asks.name) (hT : (xc X).exceptionTable.toList = tableOf [(0, 73, 74, 38), (0, 73, 79, 40), (0, 73, 84, 42)]) (hmc : xmc X = 9) (hms : xms X = 151) (hD : xD X = 8) (s0 : Int32) (h : KH) : kJ X (fun x : Int32 => some (.inl x)) 5 9 151 [] [.inl s0] 73 h (L_asks_b73  s0 h) := by
  unfold L_asks_b73
  refine kj_fin hmc hms ?_
  exact kj_ireturn hC dL_asks_73
set_option maxHeartbeats 4000000 in
set_option maxRecDepth 100000 in
theorem t_L_asks (p0 : Nat) (p1 : Int32) (p2 : Int32) (p3 : Int32) (h : KH) : kMX yL_asks cL_asks 5 (some .int) [(0, 73, 74, 38), (0, 73, 79, 40), (0, 73, 84, 42)] 8 9 151 (fun x : Int32 => some (.inl x)) [.inr (.inr (some p0)), .inl p1, .inl p2, .inl p3] h (f_L_asks p0 p1 p2 p3 h) := by
  refine kMX_of RL (by decide) rfl (Nat.le_of_ble_eq_true rfl) [(0, .inr (.inr (some p0))), (1, .inl p1), (2, .inl p2), (3, .inl p3)] rfl (fun X hC hN hT hmc hms hD => ?_)
  unfold f_L_asks
  refine kj_iloadn hC 1 dL_asks_0 rfl rfl ?_
  refine kj_if_ne (tgt := 12) hC dL_asks_1 (by decide) (fun q1 => ?_) (fun q1 => ?_)
  · refine kj_aloadn hC 0 dL_asks_4 rfl rfl ?_
    refine kj_iloadn hC 2 dL_asks_5 rfl rfl ?_
    refine kj_ghost (n := 0) ?_
    refine kj_tryV (ci := 9) (q := (RX9, TX9, 17)) (as := [.inl p2]) (rest := []) hC hT dL_asks_6 kw221 ky_X9_spell ky2_X9_spell rfl rfl (t_X9_spell p0 p2 (sX h (0))) rfl rfl (Nat.le_of_ble_eq_true rfl) ⟨by rw [hD]; decide, by decide⟩ ⟨by rw [hmc]; exact Nat.le_of_ble_eq_true rfl, by rw [hms]; exact Nat.le_of_ble_eq_true rfl⟩ ?_ (fun x6 h6 => ?_)
    · intro e h1
      by_cases q0 : e = 3
      · subst q0; exact Or.inr ⟨-107, rfl, [], ⟨0, 73, 74, 38⟩, [⟨0, 73, 79, 40⟩, ⟨0, 73, 84, 42⟩], rfl, (fun z hz => by cases hz), by decide, by decide, kw218, ⟨4, 76, 78, by decide, Or.inr ⟨dL_asks_74, rfl⟩, Or.inr ⟨-107, dL_asks_76, by decide, rfl⟩, dL_asks_78⟩⟩
      · skip
        by_cases q1 : e = 2
        · subst q1; exact Or.inr ⟨-108, rfl, [⟨0, 73, 74, 38⟩], ⟨0, 73, 79, 40⟩, [⟨0, 73, 84, 42⟩], rfl, (fun z hz => by obtain rfl := List.mem_singleton.mp hz; exact ⟨by decide, "java/lang/IndexOutOfBoundsException", kw218, by decide, by decide⟩), by decide, by decide, kw219, ⟨4, 81, 83, by decide, Or.inr ⟨dL_asks_79, rfl⟩, Or.inr ⟨-108, dL_asks_81, by decide, rfl⟩, dL_asks_83⟩⟩
        · skip
          by_cases q2 : e = 1
          · subst q2; exact Or.inr ⟨-109, rfl, [⟨0, 73, 74, 38⟩, ⟨0, 73, 79, 40⟩], ⟨0, 73, 84, 42⟩, [], rfl, (fun z hz => by rcases List.mem_cons.mp hz with rfl | hz; exact ⟨by decide, "java/lang/IndexOutOfBoundsException", kw218, by decide, by decide⟩; obtain rfl := List.mem_singleton.mp hz; exact ⟨by decide, "java/lang/IllegalStateException", kw219, by decide, by decide⟩), by decide, by decide, kw220, ⟨4, 86, 88, by decide, Or.inr ⟨dL_asks_84, rfl⟩, Or.inr ⟨-109, dL_asks_86, by decide, rfl⟩, dL_asks_88⟩⟩
          · left; simp only [q0, q1, q2, if_false]
    · refine kj_norm (st' := [.inl x6]) (c' := 2) (z' := 12) rfl rfl rfl ?_
      refine kj_goto (tgt := 73) hC dL_asks_9 (by decide) ?_
      refine kj_widen (k := 9) (n := 151) (Nat.le_of_ble_eq_true rfl) (Nat.le_of_ble_eq_true rfl) ?_
      exact kj_sub [] rfl (t_L_asks_b73 hC hN hT hmc hms hD  x6 h6)
  · refine kj_iloadn hC 1 dL_asks_12 rfl rfl ?_
    refine kj_iconst (v := 1) hC dL_asks_13 (by decide) ?_
    refine kj_icmp_ne (tgt := 26) hC dL_asks_14 (by decide) (fun q2 => ?_) (fun q2 => ?_)
    · refine kj_aloadn hC 0 dL_asks_17 rfl rfl ?_
      refine kj_iloadn hC 2 dL_asks_18 rfl rfl ?_
      refine kj_iloadn hC 3 dL_asks_19 rfl rfl ?_
      refine kj_ghost (n := 100 + 8 * (kI h 0 13).toNatClampNeg) ?_
      refine kj_tryV (ci := 9) (q := (RX9, TX9, 17)) (as := [.inl p2, .inl p3]) (rest := []) hC hT dL_asks_20 kw334 ky_X9_register ky2_X9_register rfl rfl (t_X9_register p0 p2 p3 (sX h (100 + 8 * (kI h 0 13).toNatClampNeg))) rfl rfl (Nat.le_of_ble_eq_true rfl) ⟨by rw [hD]; decide, by decide⟩ ⟨by rw [hmc]; exact Nat.le_of_ble_eq_true rfl, by rw [hms]; exact Nat.le_of_ble_eq_true rfl⟩ ?_ (fun x5 h5 => ?_)
      · intro e h1
        by_cases q0 : e = 3
        · subst q0; exact Or.inr ⟨-107, rfl, [], ⟨0, 73, 74, 38⟩, [⟨0, 73, 79, 40⟩, ⟨0, 73, 84, 42⟩], rfl, (fun z hz => by cases hz), by decide, by decide, kw218, ⟨4, 76, 78, by decide, Or.inr ⟨dL_asks_74, rfl⟩, Or.inr ⟨-107, dL_asks_76, by decide, rfl⟩, dL_asks_78⟩⟩
        · skip
          by_cases q1 : e = 2
          · subst q1; exact Or.inr ⟨-108, rfl, [⟨0, 73, 74, 38⟩], ⟨0, 73, 79, 40⟩, [⟨0, 73, 84, 42⟩], rfl, (fun z hz => by obtain rfl := List.mem_singleton.mp hz; exact ⟨by decide, "java/lang/IndexOutOfBoundsException", kw218, by decide, by decide⟩), by decide, by decide, kw219, ⟨4, 81, 83, by decide, Or.inr ⟨dL_asks_79, rfl⟩, Or.inr ⟨-108, dL_asks_81, by decide, rfl⟩, dL_asks_83⟩⟩
          · skip
            by_cases q2 : e = 1
            · subst q2; exact Or.inr ⟨-109, rfl, [⟨0, 73, 74, 38⟩, ⟨0, 73, 79, 40⟩], ⟨0, 73, 84, 42⟩, [], rfl, (fun z hz => by rcases List.mem_cons.mp hz with rfl | hz; exact ⟨by decide, "java/lang/IndexOutOfBoundsException", kw218, by decide, by decide⟩; obtain rfl := List.mem_singleton.mp hz; exact ⟨by decide, "java/lang/IllegalStateException", kw219, by decide, by decide⟩), by decide, by decide, kw220, ⟨4, 86, 88, by decide, Or.inr ⟨dL_asks_84, rfl⟩, Or.inr ⟨-109, dL_asks_86, by decide, rfl⟩, dL_asks_88⟩⟩
            · left; simp only [q0, q1, q2, if_false]
      · refine kj_norm (st' := [.inl x5]) (c' := 9) (z' := 151) rfl rfl rfl ?_
        refine kj_goto (tgt := 73) hC dL_asks_23 (by decide) ?_
        exact kj_sub [] rfl (t_L_asks_b73 hC hN hT hmc hms hD  x5 h5)
    · refine kj_iloadn hC 1 dL_asks_26 rfl rfl ?_
      refine kj_iconst (v := 2) hC dL_asks_27 (by decide) ?_
      refine kj_icmp_ne (tgt := 40) hC dL_asks_28 (by decide) (fun q3 => ?_) (fun q3 => ?_)
      · refine kj_aloadn hC 0 dL_asks_31 rfl rfl ?_
        refine kj_iloadn hC 2 dL_asks_32 rfl rfl ?_
        refine kj_iloadn hC 3 dL_asks_33 rfl rfl ?_
        refine kj_ghost (n := 200 + 4 * (kI h 0 14).toNatClampNeg) ?_
        refine kj_tryV (ci := 9) (q := (RX9, TX9, 17)) (as := [.inl p2, .inl p3]) (rest := []) hC hT dL_asks_34 kw498 ky_X9_read ky2_X9_read rfl rfl (t_X9_read p0 p2 p3 (sX h (200 + 4 * (kI h 0 14).toNatClampNeg))) rfl rfl (Nat.le_of_ble_eq_true rfl) ⟨by rw [hD]; decide, by decide⟩ ⟨by rw [hmc]; exact Nat.le_of_ble_eq_true rfl, by rw [hms]; exact Nat.le_of_ble_eq_true rfl⟩ ?_ (fun x4 h4 => ?_)
        · intro e h1
          by_cases q0 : e = 3
          · subst q0; exact Or.inr ⟨-107, rfl, [], ⟨0, 73, 74, 38⟩, [⟨0, 73, 79, 40⟩, ⟨0, 73, 84, 42⟩], rfl, (fun z hz => by cases hz), by decide, by decide, kw218, ⟨4, 76, 78, by decide, Or.inr ⟨dL_asks_74, rfl⟩, Or.inr ⟨-107, dL_asks_76, by decide, rfl⟩, dL_asks_78⟩⟩
          · skip
            by_cases q1 : e = 2
            · subst q1; exact Or.inr ⟨-108, rfl, [⟨0, 73, 74, 38⟩], ⟨0, 73, 79, 40⟩, [⟨0, 73, 84, 42⟩], rfl, (fun z hz => by obtain rfl := List.mem_singleton.mp hz; exact ⟨by decide, "java/lang/IndexOutOfBoundsException", kw218, by decide, by decide⟩), by decide, by decide, kw219, ⟨4, 81, 83, by decide, Or.inr ⟨dL_asks_79, rfl⟩, Or.inr ⟨-108, dL_asks_81, by decide, rfl⟩, dL_asks_83⟩⟩
            · skip
              by_cases q2 : e = 1
              · subst q2; exact Or.inr ⟨-109, rfl, [⟨0, 73, 74, 38⟩, ⟨0, 73, 79, 40⟩], ⟨0, 73, 84, 42⟩, [], rfl, (fun z hz => by rcases List.mem_cons.mp hz with rfl | hz; exact ⟨by decide, "java/lang/IndexOutOfBoundsException", kw218, by decide, by decide⟩; obtain rfl := List.mem_singleton.mp hz; exact ⟨by decide, "java/lang/IllegalStateException", kw219, by decide, by decide⟩), by decide, by decide, kw220, ⟨4, 86, 88, by decide, Or.inr ⟨dL_asks_84, rfl⟩, Or.inr ⟨-109, dL_asks_86, by decide, rfl⟩, dL_asks_88⟩⟩
              · left; simp only [q0, q1, q2, if_false]
        · refine kj_norm (st' := [.inl x4]) (c' := 5) (z' := 26) rfl rfl rfl ?_
          refine kj_goto (tgt := 73) hC dL_asks_37 (by decide) ?_
          refine kj_widen (k := 9) (n := 151) (Nat.le_of_ble_eq_true rfl) (Nat.le_of_ble_eq_true rfl) ?_
          exact kj_sub [] rfl (t_L_asks_b73 hC hN hT hmc hms hD  x4 h4)
      · refine kj_iloadn hC 1 dL_asks_40 rfl rfl ?_
        refine kj_iconst (v := 3) hC dL_asks_41 (by decide) ?_
        refine kj_icmp_ne (tgt := 53) hC dL_asks_42 (by decide) (fun q4 => ?_) (fun q4 => ?_)
        · refine kj_aloadn hC 0 dL_asks_45 rfl rfl ?_
          refine kj_iloadn hC 2 dL_asks_46 rfl rfl ?_
          refine kj_ghost (n := 0) ?_
          refine kj_tryV (ci := 9) (q := (RX9, TX9, 17)) (as := [.inl p2]) (rest := []) hC hT dL_asks_47 kw545 ky_X9_uncorrect ky2_X9_uncorrect rfl rfl (t_X9_uncorrect p0 p2 (sX h (0))) rfl rfl (Nat.le_of_ble_eq_true rfl) ⟨by rw [hD]; decide, by decide⟩ ⟨by rw [hmc]; exact Nat.le_of_ble_eq_true rfl, by rw [hms]; exact Nat.le_of_ble_eq_true rfl⟩ ?_ (fun x3 h3 => ?_)
          · intro e h1
            by_cases q0 : e = 3
            · subst q0; exact Or.inr ⟨-107, rfl, [], ⟨0, 73, 74, 38⟩, [⟨0, 73, 79, 40⟩, ⟨0, 73, 84, 42⟩], rfl, (fun z hz => by cases hz), by decide, by decide, kw218, ⟨4, 76, 78, by decide, Or.inr ⟨dL_asks_74, rfl⟩, Or.inr ⟨-107, dL_asks_76, by decide, rfl⟩, dL_asks_78⟩⟩
            · skip
              by_cases q1 : e = 2
              · subst q1; exact Or.inr ⟨-108, rfl, [⟨0, 73, 74, 38⟩], ⟨0, 73, 79, 40⟩, [⟨0, 73, 84, 42⟩], rfl, (fun z hz => by obtain rfl := List.mem_singleton.mp hz; exact ⟨by decide, "java/lang/IndexOutOfBoundsException", kw218, by decide, by decide⟩), by decide, by decide, kw219, ⟨4, 81, 83, by decide, Or.inr ⟨dL_asks_79, rfl⟩, Or.inr ⟨-108, dL_asks_81, by decide, rfl⟩, dL_asks_83⟩⟩
              · skip
                by_cases q2 : e = 1
                · subst q2; exact Or.inr ⟨-109, rfl, [⟨0, 73, 74, 38⟩, ⟨0, 73, 79, 40⟩], ⟨0, 73, 84, 42⟩, [], rfl, (fun z hz => by rcases List.mem_cons.mp hz with rfl | hz; exact ⟨by decide, "java/lang/IndexOutOfBoundsException", kw218, by decide, by decide⟩; obtain rfl := List.mem_singleton.mp hz; exact ⟨by decide, "java/lang/IllegalStateException", kw219, by decide, by decide⟩), by decide, by decide, kw220, ⟨4, 86, 88, by decide, Or.inr ⟨dL_asks_84, rfl⟩, Or.inr ⟨-109, dL_asks_86, by decide, rfl⟩, dL_asks_88⟩⟩
                · left; simp only [q0, q1, q2, if_false]
          · refine kj_norm (st' := [.inl x3]) (c' := 2) (z' := 12) rfl rfl rfl ?_
            refine kj_goto (tgt := 73) hC dL_asks_50 (by decide) ?_
            refine kj_widen (k := 9) (n := 151) (Nat.le_of_ble_eq_true rfl) (Nat.le_of_ble_eq_true rfl) ?_
            exact kj_sub [] rfl (t_L_asks_b73 hC hN hT hmc hms hD  x3 h3)
        · refine kj_iloadn hC 1 dL_asks_53 rfl rfl ?_
          refine kj_iconst (v := 4) hC dL_asks_54 (by decide) ?_
          refine kj_icmp_ne (tgt := 67) hC dL_asks_55 (by decide) (fun q5 => ?_) (fun q5 => ?_)
          · refine kj_aloadn hC 0 dL_asks_58 rfl rfl ?_
            refine kj_iloadn hC 2 dL_asks_59 rfl rfl ?_
            refine kj_iloadn hC 3 dL_asks_60 rfl rfl ?_
            refine kj_ghost (n := 0) ?_
            refine kj_tryV (ci := 9) (q := (RX9, TX9, 17)) (as := [.inl p2, .inl p3]) (rest := []) hC hT dL_asks_61 kw555 ky_X9_insert ky2_X9_insert rfl rfl (t_X9_insert p0 p2 p3 (sX h (0))) rfl rfl (Nat.le_of_ble_eq_true rfl) ⟨by rw [hD]; decide, by decide⟩ ⟨by rw [hmc]; exact Nat.le_of_ble_eq_true rfl, by rw [hms]; exact Nat.le_of_ble_eq_true rfl⟩ ?_ (fun x2 h2 => ?_)
            · intro e h1
              by_cases q0 : e = 3
              · subst q0; exact Or.inr ⟨-107, rfl, [], ⟨0, 73, 74, 38⟩, [⟨0, 73, 79, 40⟩, ⟨0, 73, 84, 42⟩], rfl, (fun z hz => by cases hz), by decide, by decide, kw218, ⟨4, 76, 78, by decide, Or.inr ⟨dL_asks_74, rfl⟩, Or.inr ⟨-107, dL_asks_76, by decide, rfl⟩, dL_asks_78⟩⟩
              · skip
                by_cases q1 : e = 2
                · subst q1; exact Or.inr ⟨-108, rfl, [⟨0, 73, 74, 38⟩], ⟨0, 73, 79, 40⟩, [⟨0, 73, 84, 42⟩], rfl, (fun z hz => by obtain rfl := List.mem_singleton.mp hz; exact ⟨by decide, "java/lang/IndexOutOfBoundsException", kw218, by decide, by decide⟩), by decide, by decide, kw219, ⟨4, 81, 83, by decide, Or.inr ⟨dL_asks_79, rfl⟩, Or.inr ⟨-108, dL_asks_81, by decide, rfl⟩, dL_asks_83⟩⟩
                · skip
                  by_cases q2 : e = 1
                  · subst q2; exact Or.inr ⟨-109, rfl, [⟨0, 73, 74, 38⟩, ⟨0, 73, 79, 40⟩], ⟨0, 73, 84, 42⟩, [], rfl, (fun z hz => by rcases List.mem_cons.mp hz with rfl | hz; exact ⟨by decide, "java/lang/IndexOutOfBoundsException", kw218, by decide, by decide⟩; obtain rfl := List.mem_singleton.mp hz; exact ⟨by decide, "java/lang/IllegalStateException", kw219, by decide, by decide⟩), by decide, by decide, kw220, ⟨4, 86, 88, by decide, Or.inr ⟨dL_asks_84, rfl⟩, Or.inr ⟨-109, dL_asks_86, by decide, rfl⟩, dL_asks_88⟩⟩
                  · left; simp only [q0, q1, q2, if_false]
            · refine kj_norm (st' := [.inl x2]) (c' := 2) (z' := 12) rfl rfl rfl ?_
              refine kj_goto (tgt := 73) hC dL_asks_64 (by decide) ?_
              refine kj_widen (k := 9) (n := 151) (Nat.le_of_ble_eq_true rfl) (Nat.le_of_ble_eq_true rfl) ?_
              exact kj_sub [] rfl (t_L_asks_b73 hC hN hT hmc hms hD  x2 h2)
          · refine kj_aloadn hC 0 dL_asks_67 rfl rfl ?_
            refine kj_iloadn hC 2 dL_asks_68 rfl rfl ?_
            refine kj_iloadn hC 3 dL_asks_69 rfl rfl ?_
            refine kj_ghost (n := 0) ?_
            refine kj_tryV (ci := 9) (q := (RX9, TX9, 17)) (as := [.inl p2, .inl p3]) (rest := []) hC hT dL_asks_70 kw560 ky_X9_toll ky2_X9_toll rfl rfl (t_X9_toll p0 p2 p3 (sX h (0))) rfl rfl (Nat.le_of_ble_eq_true rfl) ⟨by rw [hD]; decide, by decide⟩ ⟨by rw [hmc]; exact Nat.le_of_ble_eq_true rfl, by rw [hms]; exact Nat.le_of_ble_eq_true rfl⟩ ?_ (fun x1 h1 => ?_)
            · intro e h1
              by_cases q0 : e = 3
              · subst q0; exact Or.inr ⟨-107, rfl, [], ⟨0, 73, 74, 38⟩, [⟨0, 73, 79, 40⟩, ⟨0, 73, 84, 42⟩], rfl, (fun z hz => by cases hz), by decide, by decide, kw218, ⟨4, 76, 78, by decide, Or.inr ⟨dL_asks_74, rfl⟩, Or.inr ⟨-107, dL_asks_76, by decide, rfl⟩, dL_asks_78⟩⟩
              · skip
                by_cases q1 : e = 2
                · subst q1; exact Or.inr ⟨-108, rfl, [⟨0, 73, 74, 38⟩], ⟨0, 73, 79, 40⟩, [⟨0, 73, 84, 42⟩], rfl, (fun z hz => by obtain rfl := List.mem_singleton.mp hz; exact ⟨by decide, "java/lang/IndexOutOfBoundsException", kw218, by decide, by decide⟩), by decide, by decide, kw219, ⟨4, 81, 83, by decide, Or.inr ⟨dL_asks_79, rfl⟩, Or.inr ⟨-108, dL_asks_81, by decide, rfl⟩, dL_asks_83⟩⟩
                · skip
                  by_cases q2 : e = 1
                  · subst q2; exact Or.inr ⟨-109, rfl, [⟨0, 73, 74, 38⟩, ⟨0, 73, 79, 40⟩], ⟨0, 73, 84, 42⟩, [], rfl, (fun z hz => by rcases List.mem_cons.mp hz with rfl | hz; exact ⟨by decide, "java/lang/IndexOutOfBoundsException", kw218, by decide, by decide⟩; obtain rfl := List.mem_singleton.mp hz; exact ⟨by decide, "java/lang/IllegalStateException", kw219, by decide, by decide⟩), by decide, by decide, kw220, ⟨4, 86, 88, by decide, Or.inr ⟨dL_asks_84, rfl⟩, Or.inr ⟨-109, dL_asks_86, by decide, rfl⟩, dL_asks_88⟩⟩
                  · left; simp only [q0, q1, q2, if_false]
            · refine kj_norm (st' := [.inl x1]) (c' := 2) (z' := 12) rfl rfl rfl ?_
              refine kj_widen (k := 9) (n := 151) (Nat.le_of_ble_eq_true rfl) (Nat.le_of_ble_eq_true rfl) ?_
              exact kj_sub [] rfl (t_L_asks_b73 hC hN hT hmc hms hD  x1 h1)
set_option maxHeartbeats 4000000 in
set_option maxRecDepth 100000 in
theorem t_L_areDistances_b176 {X : KX} (hC : kC X RL cL_areDistances 9 (some .boolean)) (hN : (xme X).name = yL_areDistances.name) (hT : kT0 X) (hmc : xmc X = 0) (hms : xms X = 0) (hD : xD X = 3) (v3 : Int32) (h : KH) : kJ X (fun x : Int32 => some (.inl x)) 9 0 0 [(3, .inl v3)] [] 176 h (L_areDistances_b176  v3 h) := by
  unfold L_areDistances_b176
  refine kj_iloadn hC 0 dL_areDistances_176 rfl rfl ?_
  refine kj_fin hmc hms ?_
  exact kj_zreturn hC dL_areDistances_177
set_option maxHeartbeats 4000000 in
set_option maxRecDepth 100000 in
theorem t_L_areDistances_b169 {X : KX} (hC : kC X RL cL_areDistances 9 (some .boolean)) (hN : (xme X).name = yL_areDistances.name) (hT : kT0 X) (hmc : xmc X = 0) (hms : xms X = 0) (hD : xD X = 3) (rc18 : Nat → Nat → Int32 → Int32 → Int32 → KH → KO Int32) (hr18 : ∀ (v0 : Nat) (v1 : Nat) (v2 : Int32) (v3 : Int32) (v4 : Int32) (h : KH), kJ X (fun x : Int32 => some (.inl x)) 9 0 0 [(0, .inr (.inr (some v0))), (1, .inr (.inr (some v1))), (2, .inl v2), (3, .inl v3), (4, .inl v4)] [] 18 h (rc18 v0 v1 v2 v3 v4 h)) (v0 : Nat) (v1 : Nat) (v2 : Int32) (v4 : Int32) (s0 : Int32) (h : KH) : kJ X (fun x : Int32 => some (.inl x)) 9 0 0 [(0, .inr (.inr (some v0))), (1, .inr (.inr (some v1))), (2, .inl v2), (4, .inl v4)] [.inl s0] 169 h (L_areDistances_b169 rc18 v0 v1 v2 v4 s0 h) := by
  unfold L_areDistances_b169
  refine kj_istoren (L' := [(3, .inl s0), (0, .inr (.inr (some v0))), (1, .inr (.inr (some v1))), (2, .inl v2), (4, .inl v4)]) hC dL_areDistances_169 rfl (by decide) rfl ?_
  refine kj_iinc (v := v4 + 1) (L' := [(4, .inl (v4 + 1)), (3, .inl s0), (0, .inr (.inr (some v0))), (1, .inr (.inr (some v1))), (2, .inl v2)]) hC 4 dL_areDistances_170 rfl rfl (by decide) rfl ?_
  refine kj_goto (tgt := 18) hC dL_areDistances_173 (by decide) ?_
  exact kj_sub [2, 3, 4, 1, 0] rfl (hr18 v0 v1 v2 s0 (v4 + 1) h)
set_option maxHeartbeats 4000000 in
set_option maxRecDepth 100000 in
theorem t_L_areDistances_b168 {X : KX} (hC : kC X RL cL_areDistances 9 (some .boolean)) (hN : (xme X).name = yL_areDistances.name) (hT : kT0 X) (hmc : xmc X = 0) (hms : xms X = 0) (hD : xD X = 3) (rc18 : Nat → Nat → Int32 → Int32 → Int32 → KH → KO Int32) (hr18 : ∀ (v0 : Nat) (v1 : Nat) (v2 : Int32) (v3 : Int32) (v4 : Int32) (h : KH), kJ X (fun x : Int32 => some (.inl x)) 9 0 0 [(0, .inr (.inr (some v0))), (1, .inr (.inr (some v1))), (2, .inl v2), (3, .inl v3), (4, .inl v4)] [] 18 h (rc18 v0 v1 v2 v3 v4 h)) (v0 : Nat) (v1 : Nat) (v2 : Int32) (v4 : Int32) (h : KH) : kJ X (fun x : Int32 => some (.inl x)) 9 0 0 [(0, .inr (.inr (some v0))), (1, .inr (.inr (some v1))), (2, .inl v2), (4, .inl v4)] [] 168 h (L_areDistances_b168 rc18 v0 v1 v2 v4 h) := by
  unfold L_areDistances_b168
  refine kj_iconst (v := 0) hC dL_areDistances_168 (by decide) ?_
  exact kj_sub [0, 1, 2, 3] rfl (t_L_areDistances_b169 hC hN hT hmc hms hD rc18 hr18 v0 v1 v2 v4 0 h)
set_option maxHeartbeats 4000000 in
set_option maxRecDepth 100000 in
theorem t_L_areDistances_b145 {X : KX} (hC : kC X RL cL_areDistances 9 (some .boolean)) (hN : (xme X).name = yL_areDistances.name) (hT : kT0 X) (hmc : xmc X = 0) (hms : xms X = 0) (hD : xD X = 3) (rc18 : Nat → Nat → Int32 → Int32 → Int32 → KH → KO Int32) (hr18 : ∀ (v0 : Nat) (v1 : Nat) (v2 : Int32) (v3 : Int32) (v4 : Int32) (h : KH), kJ X (fun x : Int32 => some (.inl x)) 9 0 0 [(0, .inr (.inr (some v0))), (1, .inr (.inr (some v1))), (2, .inl v2), (3, .inl v3), (4, .inl v4)] [] 18 h (rc18 v0 v1 v2 v3 v4 h)) (v0 : Nat) (v1 : Nat) (v2 : Int32) (v4 : Int32) (v5 : Int32) (v6 : Int32) (h : KH) : kJ X (fun x : Int32 => some (.inl x)) 9 0 0 [(0, .inr (.inr (some v0))), (1, .inr (.inr (some v1))), (2, .inl v2), (4, .inl v4), (5, .inl v5), (6, .inl v6)] [] 145 h (L_areDistances_b145 rc18 v0 v1 v2 v4 v5 v6 h) := by
  unfold L_areDistances_b145
  refine kj_iload hC 4 dL_areDistances_145 rfl ?_
  refine kj_iload hC 5 dL_areDistances_147 rfl ?_
  refine kj_icmp_ne (tgt := 168) hC dL_areDistances_149 (by decide) (fun q1 => ?_) (fun q1 => ?_)
  · refine kj_aloadn hC 0 dL_areDistances_152 rfl rfl ?_
    refine kj_iload hC 3 dL_areDistances_153 rfl ?_
    refine kj_iloadn hC 2 dL_areDistances_155 rfl rfl ?_
    refine kj_ghost (n := 0) ?_
    refine kj_invV (ci := 9) (q := (RX9, TX9, 17)) (as := [.inl v4, .inl v2]) (rest := []) hC hT dL_areDistances_156 kw729 ky_X9_distance ky2_X9_distance rfl rfl (t_zX9_distance v0 v4 v2 (sX h (0))) rfl rfl (Nat.le_of_ble_eq_true rfl) ⟨by rw [hD]; decide, by decide⟩ ⟨by rw [hmc]; exact Nat.le_of_ble_eq_true rfl, by rw [hms]; exact Nat.le_of_ble_eq_true rfl⟩ (fun x1 h1 => ?_)
    refine kj_norm (st' := [.inl x1]) (c' := 0) (z' := 0) rfl rfl rfl ?_
    refine kj_iload hC 4 dL_areDistances_159 rfl ?_
    refine kj_icmp_ne (tgt := 168) hC dL_areDistances_161 (by decide) (fun q2 => ?_) (fun q2 => ?_)
    · refine kj_iconst (v := 1) hC dL_areDistances_164 (by decide) ?_
      refine kj_goto (tgt := 169) hC dL_areDistances_165 (by decide) ?_
      exact kj_sub [0, 1, 2, 3] rfl (t_L_areDistances_b169 hC hN hT hmc hms hD rc18 hr18 v0 v1 v2 v4 1 h1)
    · exact kj_sub [0, 1, 2, 3] rfl (t_L_areDistances_b168 hC hN hT hmc hms hD rc18 hr18 v0 v1 v2 v4 h1)
  · exact kj_sub [0, 1, 2, 3] rfl (t_L_areDistances_b168 hC hN hT hmc hms hD rc18 hr18 v0 v1 v2 v4 h)
set_option maxHeartbeats 4000000 in
set_option maxRecDepth 100000 in
theorem t_L_areDistances_b137 {X : KX} (hC : kC X RL cL_areDistances 9 (some .boolean)) (hN : (xme X).name = yL_areDistances.name) (hT : kT0 X) (hmc : xmc X = 0) (hms : xms X = 0) (hD : xD X = 3) (rc18 : Nat → Nat → Int32 → Int32 → Int32 → KH → KO Int32) (hr18 : ∀ (v0 : Nat) (v1 : Nat) (v2 : Int32) (v3 : Int32) (v4 : Int32) (h : KH), kJ X (fun x : Int32 => some (.inl x)) 9 0 0 [(0, .inr (.inr (some v0))), (1, .inr (.inr (some v1))), (2, .inl v2), (3, .inl v3), (4, .inl v4)] [] 18 h (rc18 v0 v1 v2 v3 v4 h)) (rc54 : Nat → Nat → Int32 → Int32 → Int32 → Int32 → Int32 → KH → KO Int32) (hr54 : ∀ (v0 : Nat) (v1 : Nat) (v2 : Int32) (v4 : Int32) (v5 : Int32) (v6 : Int32) (v7 : Int32) (h : KH), kJ X (fun x : Int32 => some (.inl x)) 9 0 0 [(0, .inr (.inr (some v0))), (1, .inr (.inr (some v1))), (2, .inl v2), (4, .inl v4), (5, .inl v5), (6, .inl v6), (7, .inl v7)] [] 54 h (rc54 v0 v1 v2 v4 v5 v6 v7 h)) (v0 : Nat) (v1 : Nat) (v2 : Int32) (v4 : Int32) (v5 : Int32) (v7 : Int32) (s0 : Int32) (h : KH) : kJ X (fun x : Int32 => some (.inl x)) 9 0 0 [(0, .inr (.inr (some v0))), (1, .inr (.inr (some v1))), (2, .inl v2), (4, .inl v4), (5, .inl v5), (7, .inl v7)] [.inl s0] 137 h (L_areDistances_b137 rc18 rc54 v0 v1 v2 v4 v5 v7 s0 h) := by
  unfold L_areDistances_b137
  refine kj_istore (L' := [(6, .inl s0), (0, .inr (.inr (some v0))), (1, .inr (.inr (some v1))), (2, .inl v2), (4, .inl v4), (5, .inl v5), (7, .inl v7)]) hC dL_areDistances_137 (by decide) rfl ?_
  refine kj_iinc (v := v7 + 1) (L' := [(7, .inl (v7 + 1)), (6, .inl s0), (0, .inr (.inr (some v0))), (1, .inr (.inr (some v1))), (2, .inl v2), (4, .inl v4), (5, .inl v5)]) hC 6 dL_areDistances_139 rfl rfl (by decide) rfl ?_
  refine kj_goto (tgt := 54) hC dL_areDistances_142 (by decide) ?_
  exact kj_sub [2, 3, 4, 5, 6, 1, 0] rfl (hr54 v0 v1 v2 v4 v5 s0 (v7 + 1) h)
set_option maxHeartbeats 4000000 in
set_option maxRecDepth 100000 in
theorem t_L_areDistances_b135 {X : KX} (hC : kC X RL cL_areDistances 9 (some .boolean)) (hN : (xme X).name = yL_areDistances.name) (hT : kT0 X) (hmc : xmc X = 0) (hms : xms X = 0) (hD : xD X = 3) (rc18 : Nat → Nat → Int32 → Int32 → Int32 → KH → KO Int32) (hr18 : ∀ (v0 : Nat) (v1 : Nat) (v2 : Int32) (v3 : Int32) (v4 : Int32) (h : KH), kJ X (fun x : Int32 => some (.inl x)) 9 0 0 [(0, .inr (.inr (some v0))), (1, .inr (.inr (some v1))), (2, .inl v2), (3, .inl v3), (4, .inl v4)] [] 18 h (rc18 v0 v1 v2 v3 v4 h)) (rc54 : Nat → Nat → Int32 → Int32 → Int32 → Int32 → Int32 → KH → KO Int32) (hr54 : ∀ (v0 : Nat) (v1 : Nat) (v2 : Int32) (v4 : Int32) (v5 : Int32) (v6 : Int32) (v7 : Int32) (h : KH), kJ X (fun x : Int32 => some (.inl x)) 9 0 0 [(0, .inr (.inr (some v0))), (1, .inr (.inr (some v1))), (2, .inl v2), (4, .inl v4), (5, .inl v5), (6, .inl v6), (7, .inl v7)] [] 54 h (rc54 v0 v1 v2 v4 v5 v6 v7 h)) (v0 : Nat) (v1 : Nat) (v2 : Int32) (v4 : Int32) (v5 : Int32) (v6 : Int32) (v7 : Int32) (h : KH) : kJ X (fun x : Int32 => some (.inl x)) 9 0 0 [(0, .inr (.inr (some v0))), (1, .inr (.inr (some v1))), (2, .inl v2), (4, .inl v4), (5, .inl v5), (6, .inl v6), (7, .inl v7)] [] 135 h (L_areDistances_b135 rc18 rc54 v0 v1 v2 v4 v5 v6 v7 h) := by
  unfold L_areDistances_b135
  refine kj_iload hC 5 dL_areDistances_135 rfl ?_
  exact kj_sub [0, 1, 2, 3, 4, 6] rfl (t_L_areDistances_b137 hC hN hT hmc hms hD rc18 hr18 rc54 hr54 v0 v1 v2 v4 v5 v7 v6 h)
set_option maxHeartbeats 4000000 in
set_option maxRecDepth 100000 in
theorem t_L_areDistances_b120 {X : KX} (hC : kC X RL cL_areDistances 9 (some .boolean)) (hN : (xme X).name = yL_areDistances.name) (hT : kT0 X) (hmc : xmc X = 0) (hms : xms X = 0) (hD : xD X = 3) (rc18 : Nat → Nat → Int32 → Int32 → Int32 → KH → KO Int32) (hr18 : ∀ (v0 : Nat) (v1 : Nat) (v2 : Int32) (v3 : Int32) (v4 : Int32) (h : KH), kJ X (fun x : Int32 => some (.inl x)) 9 0 0 [(0, .inr (.inr (some v0))), (1, .inr (.inr (some v1))), (2, .inl v2), (3, .inl v3), (4, .inl v4)] [] 18 h (rc18 v0 v1 v2 v3 v4 h)) (rc54 : Nat → Nat → Int32 → Int32 → Int32 → Int32 → Int32 → KH → KO Int32) (hr54 : ∀ (v0 : Nat) (v1 : Nat) (v2 : Int32) (v4 : Int32) (v5 : Int32) (v6 : Int32) (v7 : Int32) (h : KH), kJ X (fun x : Int32 => some (.inl x)) 9 0 0 [(0, .inr (.inr (some v0))), (1, .inr (.inr (some v1))), (2, .inl v2), (4, .inl v4), (5, .inl v5), (6, .inl v6), (7, .inl v7)] [] 54 h (rc54 v0 v1 v2 v4 v5 v6 v7 h)) (v0 : Nat) (v1 : Nat) (v2 : Int32) (v4 : Int32) (v5 : Int32) (v7 : Int32) (v8 : Int32) (h : KH) : kJ X (fun x : Int32 => some (.inl x)) 9 0 0 [(0, .inr (.inr (some v0))), (1, .inr (.inr (some v1))), (2, .inl v2), (4, .inl v4), (5, .inl v5), (7, .inl v7), (8, .inl v8)] [] 120 h (L_areDistances_b120 rc18 rc54 v0 v1 v2 v4 v5 v7 v8 h) := by
  unfold L_areDistances_b120
  refine kj_aloadn hC 1 dL_areDistances_120 rfl rfl ?_
  refine kj_bipush (v := 8) hC dL_areDistances_121 (by decide) ?_
  refine kj_iloadn hC 2 dL_areDistances_123 rfl rfl ?_
  refine kj_imul hC dL_areDistances_124 ?_
  refine kj_iload hC 5 dL_areDistances_125 rfl ?_
  refine kj_iadd hC dL_areDistances_127 ?_
  refine kj_gAIc (c := 31) hC rfl dL_areDistances_128 (fun x1 => ?_)
  refine kj_iload hC 6 dL_areDistances_129 rfl ?_
  refine kj_iadd hC dL_areDistances_131 ?_
  refine kj_goto (tgt := 137) hC dL_areDistances_132 (by decide) ?_
  exact kj_sub [0, 1, 2, 3, 4, 5] rfl (t_L_areDistances_b137 hC hN hT hmc hms hD rc18 hr18 rc54 hr54 v0 v1 v2 v4 v5 v7 (x1 + v8) h)
set_option maxHeartbeats 4000000 in
set_option maxRecDepth 100000 in
theorem t_L_areDistances_b91 {X : KX} (hC : kC X RL cL_areDistances 9 (some .boolean)) (hN : (xme X).name = yL_areDistances.name) (hT : kT0 X) (hmc : xmc X = 0) (hms : xms X = 0) (hD : xD X = 3) (rc18 : Nat → Nat → Int32 → Int32 → Int32 → KH → KO Int32) (hr18 : ∀ (v0 : Nat) (v1 : Nat) (v2 : Int32) (v3 : Int32) (v4 : Int32) (h : KH), kJ X (fun x : Int32 => some (.inl x)) 9 0 0 [(0, .inr (.inr (some v0))), (1, .inr (.inr (some v1))), (2, .inl v2), (3, .inl v3), (4, .inl v4)] [] 18 h (rc18 v0 v1 v2 v3 v4 h)) (rc54 : Nat → Nat → Int32 → Int32 → Int32 → Int32 → Int32 → KH → KO Int32) (hr54 : ∀ (v0 : Nat) (v1 : Nat) (v2 : Int32) (v4 : Int32) (v5 : Int32) (v6 : Int32) (v7 : Int32) (h : KH), kJ X (fun x : Int32 => some (.inl x)) 9 0 0 [(0, .inr (.inr (some v0))), (1, .inr (.inr (some v1))), (2, .inl v2), (4, .inl v4), (5, .inl v5), (6, .inl v6), (7, .inl v7)] [] 54 h (rc54 v0 v1 v2 v4 v5 v6 v7 h)) (v0 : Nat) (v1 : Nat) (v2 : Int32) (v4 : Int32) (v5 : Int32) (v6 : Int32) (v7 : Int32) (s0 : Int32) (h : KH) : kJ X (fun x : Int32 => some (.inl x)) 9 0 0 [(0, .inr (.inr (some v0))), (1, .inr (.inr (some v1))), (2, .inl v2), (4, .inl v4), (5, .inl v5), (6, .inl v6), (7, .inl v7)] [.inl s0] 91 h (L_areDistances_b91 rc18 rc54 v0 v1 v2 v4 v5 v6 v7 s0 h) := by
  unfold L_areDistances_b91
  refine kj_istore (L' := [(8, .inl s0), (0, .inr (.inr (some v0))), (1, .inr (.inr (some v1))), (2, .inl v2), (4, .inl v4), (5, .inl v5), (6, .inl v6), (7, .inl v7)]) hC dL_areDistances_91 (by decide) rfl ?_
  refine kj_iload hC 0 dL_areDistances_93 rfl ?_
  refine kj_if_lt (tgt := 135) hC dL_areDistances_95 (by decide) (fun q1 => ?_) (fun q1 => ?_)
  · exact kj_sub [1, 2, 3, 4, 5, 6, 7] rfl (t_L_areDistances_b135 hC hN hT hmc hms hD rc18 hr18 rc54 hr54 v0 v1 v2 v4 v5 v6 v7 h)
  · refine kj_iload hC 6 dL_areDistances_98 rfl ?_
    refine kj_if_lt (tgt := 120) hC dL_areDistances_100 (by decide) (fun q2 => ?_) (fun q2 => ?_)
    · exact kj_sub [1, 2, 3, 4, 5, 7, 0] rfl (t_L_areDistances_b120 hC hN hT hmc hms hD rc18 hr18 rc54 hr54 v0 v1 v2 v4 v5 v7 s0 h)
    · refine kj_aloadn hC 2 dL_areDistances_103 rfl rfl ?_
      refine kj_bipush (v := 8) hC dL_areDistances_104 (by decide) ?_
      refine kj_iloadn hC 3 dL_areDistances_106 rfl rfl ?_
      refine kj_imul hC dL_areDistances_107 ?_
      refine kj_iload hC 7 dL_areDistances_108 rfl ?_
      refine kj_iadd hC dL_areDistances_110 ?_
      refine kj_gAIc (c := 31) hC rfl dL_areDistances_111 (fun x1 => ?_)
      refine kj_iload hC 0 dL_areDistances_112 rfl ?_
      refine kj_iadd hC dL_areDistances_114 ?_
      refine kj_iload hC 6 dL_areDistances_115 rfl ?_
      refine kj_icmp_ge (tgt := 135) hC dL_areDistances_117 (by decide) (fun q3 => ?_) (fun q3 => ?_)
      · exact kj_sub [1, 2, 3, 4, 5, 6, 7] rfl (t_L_areDistances_b135 hC hN hT hmc hms hD rc18 hr18 rc54 hr54 v0 v1 v2 v4 v5 v6 v7 h)
      · exact kj_sub [1, 2, 3, 4, 5, 7, 0] rfl (t_L_areDistances_b120 hC hN hT hmc hms hD rc18 hr18 rc54 hr54 v0 v1 v2 v4 v5 v7 s0 h)
set_option maxHeartbeats 4000000 in
set_option maxRecDepth 100000 in
theorem t_L_areDistances_b54 {X : KX} (hC : kC X RL cL_areDistances 9 (some .boolean)) (hN : (xme X).name = yL_areDistances.name) (hT : kT0 X) (hmc : xmc X = 0) (hms : xms X = 0) (hD : xD X = 3) (rc18 : Nat → Nat → Int32 → Int32 → Int32 → KH → KO Int32) (hr18 : ∀ (v0 : Nat) (v1 : Nat) (v2 : Int32) (v3 : Int32) (v4 : Int32) (h : KH), kJ X (fun x : Int32 => some (.inl x)) 9 0 0 [(0, .inr (.inr (some v0))), (1, .inr (.inr (some v1))), (2, .inl v2), (3, .inl v3), (4, .inl v4)] [] 18 h (rc18 v0 v1 v2 v3 v4 h)) (rc54 : Nat → Nat → Int32 → Int32 → Int32 → Int32 → Int32 → KH → KO Int32) (hr54 : ∀ (v0 : Nat) (v1 : Nat) (v2 : Int32) (v4 : Int32) (v5 : Int32) (v6 : Int32) (v7 : Int32) (h : KH), kJ X (fun x : Int32 => some (.inl x)) 9 0 0 [(0, .inr (.inr (some v0))), (1, .inr (.inr (some v1))), (2, .inl v2), (4, .inl v4), (5, .inl v5), (6, .inl v6), (7, .inl v7)] [] 54 h (rc54 v0 v1 v2 v4 v5 v6 v7 h)) (v0 : Nat) (v1 : Nat) (v2 : Int32) (v4 : Int32) (v5 : Int32) (v6 : Int32) (v7 : Int32) (h : KH) : kJ X (fun x : Int32 => some (.inl x)) 9 0 0 [(0, .inr (.inr (some v0))), (1, .inr (.inr (some v1))), (2, .inl v2), (4, .inl v4), (5, .inl v5), (6, .inl v6), (7, .inl v7)] [] 54 h (L_areDistances_b54 rc18 rc54 v0 v1 v2 v4 v5 v6 v7 h) := by
  unfold L_areDistances_b54
  refine kj_iload hC 6 dL_areDistances_54 rfl ?_
  refine kj_bipush (v := 8) hC dL_areDistances_56 (by decide) ?_
  refine kj_icmp_ge (tgt := 145) hC dL_areDistances_58 (by decide) (fun q1 => ?_) (fun q1 => ?_)
  · exact kj_sub [0, 1, 2, 3, 4, 5] rfl (t_L_areDistances_b145 hC hN hT hmc hms hD rc18 hr18 v0 v1 v2 v4 v5 v6 h)
  · refine kj_iloadn hC 2 dL_areDistances_61 rfl rfl ?_
    refine kj_iload hC 3 dL_areDistances_62 rfl ?_
    refine kj_icmp_eq (tgt := 145) hC dL_areDistances_64 (by decide) (fun q2 => ?_) (fun q2 => ?_)
    · exact kj_sub [0, 1, 2, 3, 4, 5] rfl (t_L_areDistances_b145 hC hN hT hmc hms hD rc18 hr18 v0 v1 v2 v4 v5 v6 h)
    · refine kj_aloadn hC 1 dL_areDistances_67 rfl rfl ?_
      refine kj_bipush (v := 8) hC dL_areDistances_68 (by decide) ?_
      refine kj_iloadn hC 2 dL_areDistances_70 rfl rfl ?_
      refine kj_imul hC dL_areDistances_71 ?_
      refine kj_iload hC 6 dL_areDistances_72 rfl ?_
      refine kj_iadd hC dL_areDistances_74 ?_
      refine kj_gAIc (c := 31) hC rfl dL_areDistances_75 (fun x1 => ?_)
      refine kj_if_ne (tgt := 83) hC dL_areDistances_76 (by decide) (fun q3 => ?_) (fun q3 => ?_)
      · refine kj_iconst (v := (-1)) hC dL_areDistances_79 (by decide) ?_
        refine kj_goto (tgt := 91) hC dL_areDistances_80 (by decide) ?_
        exact kj_sub [0, 1, 2, 3, 4, 5, 6] rfl (t_L_areDistances_b91 hC hN hT hmc hms hD rc18 hr18 rc54 hr54 v0 v1 v2 v4 v5 v6 v7 ((-1)) h)
      · refine kj_aloadn hC 0 dL_areDistances_83 rfl rfl ?_
        refine kj_iload hC 6 dL_areDistances_84 rfl ?_
        refine kj_iload hC 3 dL_areDistances_86 rfl ?_
        refine kj_ghost (n := 0) ?_
        refine kj_invV (ci := 9) (q := (RX9, TX9, 17)) (as := [.inl v7, .inl v4]) (rest := []) hC hT dL_areDistances_88 kw729 ky_X9_distance ky2_X9_distance rfl rfl (t_zX9_distance v0 v7 v4 (sX h (0))) rfl rfl (Nat.le_of_ble_eq_true rfl) ⟨by rw [hD]; decide, by decide⟩ ⟨by rw [hmc]; exact Nat.le_of_ble_eq_true rfl, by rw [hms]; exact Nat.le_of_ble_eq_true rfl⟩ (fun x2 h1 => ?_)
        refine kj_norm (st' := [.inl x2]) (c' := 0) (z' := 0) rfl rfl rfl ?_
        exact kj_sub [0, 1, 2, 3, 4, 5, 6] rfl (t_L_areDistances_b91 hC hN hT hmc hms hD rc18 hr18 rc54 hr54 v0 v1 v2 v4 v5 v6 v7 x2 h1)
set_option maxHeartbeats 4000000 in
set_option maxRecDepth 100000 in
theorem t_L_areDistances_L54 {X : KX} (hC : kC X RL cL_areDistances 9 (some .boolean)) (hN : (xme X).name = yL_areDistances.name) (hT : kT0 X) (hmc : xmc X = 0) (hms : xms X = 0) (hD : xD X = 3) (rc18 : Nat → Nat → Int32 → Int32 → Int32 → KH → KO Int32) (hr18 : ∀ (v0 : Nat) (v1 : Nat) (v2 : Int32) (v3 : Int32) (v4 : Int32) (h : KH), kJ X (fun x : Int32 => some (.inl x)) 9 0 0 [(0, .inr (.inr (some v0))), (1, .inr (.inr (some v1))), (2, .inl v2), (3, .inl v3), (4, .inl v4)] [] 18 h (rc18 v0 v1 v2 v3 v4 h)) : ∀ (n : Nat) (v0 : Nat) (v1 : Nat) (v2 : Int32) (v4 : Int32) (v5 : Int32) (v6 : Int32) (v7 : Int32) (h : KH), kJ X (fun x : Int32 => some (.inl x)) 9 0 0 [(0, .inr (.inr (some v0))), (1, .inr (.inr (some v1))), (2, .inl v2), (4, .inl v4), (5, .inl v5), (6, .inl v6), (7, .inl v7)] [] 54 h (L_areDistances_L54 rc18 n v0 v1 v2 v4 v5 v6 v7 h) := by
  intro n
  induction n with
  | zero => intro v0 v1 v2 v4 v5 v6 v7 h; exact kj_none
  | succ n ih => intro v0 v1 v2 v4 v5 v6 v7 h; exact t_L_areDistances_b54 hC hN hT hmc hms hD rc18 hr18 (L_areDistances_L54 rc18 n) ih v0 v1 v2 v4 v5 v6 v7 h
set_option maxHeartbeats 4000000 in
set_option maxRecDepth 100000 in
theorem t_L_areDistances_b49 {X : KX} (hC : kC X RL cL_areDistances 9 (some .boolean)) (hN : (xme X).name = yL_areDistances.name) (hT : kT0 X) (hmc : xmc X = 0) (hms : xms X = 0) (hD : xD X = 3) (rc18 : Nat → Nat → Int32 → Int32 → Int32 → KH → KO Int32) (hr18 : ∀ (v0 : Nat) (v1 : Nat) (v2 : Int32) (v3 : Int32) (v4 : Int32) (h : KH), kJ X (fun x : Int32 => some (.inl x)) 9 0 0 [(0, .inr (.inr (some v0))), (1, .inr (.inr (some v1))), (2, .inl v2), (3, .inl v3), (4, .inl v4)] [] 18 h (rc18 v0 v1 v2 v3 v4 h)) (v0 : Nat) (v1 : Nat) (v2 : Int32) (v4 : Int32) (v5 : Int32) (s0 : Int32) (h : KH) : kJ X (fun x : Int32 => some (.inl x)) 9 0 0 [(0, .inr (.inr (some v0))), (1, .inr (.inr (some v1))), (2, .inl v2), (4, .inl v4), (5, .inl v5)] [.inl s0] 49 h (L_areDistances_b49 rc18 v0 v1 v2 v4 v5 s0 h) := by
  unfold L_areDistances_b49
  refine kj_istore (L' := [(6, .inl s0), (0, .inr (.inr (some v0))), (1, .inr (.inr (some v1))), (2, .inl v2), (4, .inl v4), (5, .inl v5)]) hC dL_areDistances_49 (by decide) rfl ?_
  refine kj_iconst (v := 0) hC dL_areDistances_51 (by decide) ?_
  refine kj_istore (L' := [(7, .inl 0), (6, .inl s0), (0, .inr (.inr (some v0))), (1, .inr (.inr (some v1))), (2, .inl v2), (4, .inl v4), (5, .inl v5)]) hC dL_areDistances_52 (by decide) rfl ?_
  exact kj_sub [2, 3, 4, 5, 6, 1, 0] rfl (t_L_areDistances_L54 hC hN hT hmc hms hD rc18 hr18 kF v0 v1 v2 v4 v5 s0 0 h)
set_option maxHeartbeats 4000000 in
set_option maxRecDepth 100000 in
theorem t_L_areDistances_b18 {X : KX} (hC : kC X RL cL_areDistances 9 (some .boolean)) (hN : (xme X).name = yL_areDistances.name) (hT : kT0 X) (hmc : xmc X = 0) (hms : xms X = 0) (hD : xD X = 3) (rc18 : Nat → Nat → Int32 → Int32 → Int32 → KH → KO Int32) (hr18 : ∀ (v0 : Nat) (v1 : Nat) (v2 : Int32) (v3 : Int32) (v4 : Int32) (h : KH), kJ X (fun x : Int32 => some (.inl x)) 9 0 0 [(0, .inr (.inr (some v0))), (1, .inr (.inr (some v1))), (2, .inl v2), (3, .inl v3), (4, .inl v4)] [] 18 h (rc18 v0 v1 v2 v3 v4 h)) (v0 : Nat) (v1 : Nat) (v2 : Int32) (v3 : Int32) (v4 : Int32) (h : KH) : kJ X (fun x : Int32 => some (.inl x)) 9 0 0 [(0, .inr (.inr (some v0))), (1, .inr (.inr (some v1))), (2, .inl v2), (3, .inl v3), (4, .inl v4)] [] 18 h (L_areDistances_b18 rc18 v0 v1 v2 v3 v4 h) := by
  unfold L_areDistances_b18
  refine kj_iload hC 4 dL_areDistances_18 rfl ?_
  refine kj_bipush (v := 8) hC dL_areDistances_20 (by decide) ?_
  refine kj_icmp_ge (tgt := 176) hC dL_areDistances_22 (by decide) (fun q1 => ?_) (fun q1 => ?_)
  · exact kj_sub [3] rfl (t_L_areDistances_b176 hC hN hT hmc hms hD  v3 h)
  · refine kj_iloadn hC 3 dL_areDistances_25 rfl rfl ?_
    refine kj_if_eq (tgt := 176) hC dL_areDistances_26 (by decide) (fun q2 => ?_) (fun q2 => ?_)
    · exact kj_sub [3] rfl (t_L_areDistances_b176 hC hN hT hmc hms hD  v3 h)
    · refine kj_aloadn hC 0 dL_areDistances_29 rfl rfl ?_
      refine kj_iloadn hC 2 dL_areDistances_30 rfl rfl ?_
      refine kj_iload hC 4 dL_areDistances_31 rfl ?_
      refine kj_ghost (n := 0) ?_
      refine kj_invV (ci := 9) (q := (RX9, TX9, 17)) (as := [.inl v2, .inl v4]) (rest := []) hC hT dL_areDistances_33 kw729 ky_X9_distance ky2_X9_distance rfl rfl (t_zX9_distance v0 v2 v4 (sX h (0))) rfl rfl (Nat.le_of_ble_eq_true rfl) ⟨by rw [hD]; decide, by decide⟩ ⟨by rw [hmc]; exact Nat.le_of_ble_eq_true rfl, by rw [hms]; exact Nat.le_of_ble_eq_true rfl⟩ (fun x1 h1 => ?_)
      refine kj_norm (st' := [.inl x1]) (c' := 0) (z' := 0) rfl rfl rfl ?_
      refine kj_istore (L' := [(5, .inl x1), (0, .inr (.inr (some v0))), (1, .inr (.inr (some v1))), (2, .inl v2), (3, .inl v3), (4, .inl v4)]) hC dL_areDistances_36 (by decide) rfl ?_
      refine kj_iloadn hC 3 dL_areDistances_38 rfl rfl ?_
      refine kj_iload hC 5 dL_areDistances_39 rfl ?_
      refine kj_icmp_ne (tgt := 48) hC dL_areDistances_41 (by decide) (fun q3 => ?_) (fun q3 => ?_)
      · refine kj_iconst (v := 0) hC dL_areDistances_44 (by decide) ?_
        refine kj_goto (tgt := 49) hC dL_areDistances_45 (by decide) ?_
        exact kj_sub [1, 2, 3, 5, 0] rfl (t_L_areDistances_b49 hC hN hT hmc hms hD rc18 hr18 v0 v1 v2 v4 x1 0 h1)
      · refine kj_iconst (v := (-1)) hC dL_areDistances_48 (by decide) ?_
        exact kj_sub [1, 2, 3, 5, 0] rfl (t_L_areDistances_b49 hC hN hT hmc hms hD rc18 hr18 v0 v1 v2 v4 x1 ((-1)) h1)
set_option maxHeartbeats 4000000 in
set_option maxRecDepth 100000 in
theorem t_L_areDistances_L18 {X : KX} (hC : kC X RL cL_areDistances 9 (some .boolean)) (hN : (xme X).name = yL_areDistances.name) (hT : kT0 X) (hmc : xmc X = 0) (hms : xms X = 0) (hD : xD X = 3) : ∀ (n : Nat) (v0 : Nat) (v1 : Nat) (v2 : Int32) (v3 : Int32) (v4 : Int32) (h : KH), kJ X (fun x : Int32 => some (.inl x)) 9 0 0 [(0, .inr (.inr (some v0))), (1, .inr (.inr (some v1))), (2, .inl v2), (3, .inl v3), (4, .inl v4)] [] 18 h (L_areDistances_L18  n v0 v1 v2 v3 v4 h) := by
  intro n
  induction n with
  | zero => intro v0 v1 v2 v3 v4 h; exact kj_none
  | succ n ih => intro v0 v1 v2 v3 v4 h; exact t_L_areDistances_b18 hC hN hT hmc hms hD (L_areDistances_L18  n) ih v0 v1 v2 v3 v4 h
set_option maxHeartbeats 4000000 in
set_option maxRecDepth 100000 in
theorem t_L_areDistances_b14 {X : KX} (hC : kC X RL cL_areDistances 9 (some .boolean)) (hN : (xme X).name = yL_areDistances.name) (hT : kT0 X) (hmc : xmc X = 0) (hms : xms X = 0) (hD : xD X = 3) (v0 : Nat) (v1 : Nat) (v2 : Int32) (s0 : Int32) (h : KH) : kJ X (fun x : Int32 => some (.inl x)) 9 0 0 [(0, .inr (.inr (some v0))), (1, .inr (.inr (some v1))), (2, .inl v2)] [.inl s0] 14 h (L_areDistances_b14  v0 v1 v2 s0 h) := by
  unfold L_areDistances_b14
  refine kj_istoren (L' := [(3, .inl s0), (0, .inr (.inr (some v0))), (1, .inr (.inr (some v1))), (2, .inl v2)]) hC dL_areDistances_14 rfl (by decide) rfl ?_
  refine kj_iconst (v := 0) hC dL_areDistances_15 (by decide) ?_
  refine kj_istore (L' := [(4, .inl 0), (3, .inl s0), (0, .inr (.inr (some v0))), (1, .inr (.inr (some v1))), (2, .inl v2)]) hC dL_areDistances_16 (by decide) rfl ?_
  exact kj_sub [2, 3, 4, 1, 0] rfl (t_L_areDistances_L18 hC hN hT hmc hms hD  kF v0 v1 v2 s0 0 h)
set_option maxHeartbeats 4000000 in
set_option maxRecDepth 100000 in
theorem t_L_areDistances (p0 : Nat) (p1 : Nat) (p2 : Int32) (h : KH) : kM yL_areDistances cL_areDistances 9 (some .boolean) 3 0 0 (fun x : Int32 => some (.inl x)) [.inr (.inr (some p0)), .inr (.inr (some p1)), .inl p2] h (f_L_areDistances p0 p1 p2 h) := by
  refine kM_of RL (by decide) rfl (Nat.le_of_ble_eq_true rfl) [(0, .inr (.inr (some p0))), (1, .inr (.inr (some p1))), (2, .inl p2)] rfl (fun X hC hN hT hmc hms hD => ?_)
  unfold f_L_areDistances
  refine kj_aloadn hC 0 dL_areDistances_0 rfl rfl ?_
  refine kj_iloadn hC 2 dL_areDistances_1 rfl rfl ?_
  refine kj_iloadn hC 2 dL_areDistances_2 rfl rfl ?_
  refine kj_ghost (n := 0) ?_
  refine kj_invV (ci := 9) (q := (RX9, TX9, 17)) (as := [.inl p2, .inl p2]) (rest := []) hC hT dL_areDistances_3 kw729 ky_X9_distance ky2_X9_distance rfl rfl (t_zX9_distance p0 p2 p2 (sX h (0))) rfl rfl (Nat.le_of_ble_eq_true rfl) ⟨by rw [hD]; decide, by decide⟩ ⟨by rw [hmc]; exact Nat.le_of_ble_eq_true rfl, by rw [hms]; exact Nat.le_of_ble_eq_true rfl⟩ (fun x1 h1 => ?_)
  refine kj_norm (st' := [.inl x1]) (c' := 0) (z' := 0) rfl rfl rfl ?_
  refine kj_if_ne (tgt := 13) hC dL_areDistances_6 (by decide) (fun q1 => ?_) (fun q1 => ?_)
  · refine kj_iconst (v := 1) hC dL_areDistances_9 (by decide) ?_
    refine kj_goto (tgt := 14) hC dL_areDistances_10 (by decide) ?_
    exact kj_sub [0, 1, 2] rfl (t_L_areDistances_b14 hC hN hT hmc hms hD  p0 p1 p2 1 h1)
  · refine kj_iconst (v := 0) hC dL_areDistances_13 (by decide) ?_
    exact kj_sub [0, 1, 2] rfl (t_L_areDistances_b14 hC hN hT hmc hms hD  p0 p1 p2 0 h1)
set_option maxHeartbeats 4000000 in
set_option maxRecDepth 100000 in
theorem t_L_isSpelled_b149 {X : KX} (hC : kC X RL cL_isSpelled 7 (some .boolean)) (hN : (xme X).name = yL_isSpelled.name) (hT : kT0 X) (hmc : xmc X = 0) (hms : xms X = 0) (hD : xD X = 4) (s0 : Int32) (h : KH) : kJ X (fun x : Int32 => some (.inl x)) 7 0 0 [] [.inl s0] 149 h (L_isSpelled_b149  s0 h) := by
  unfold L_isSpelled_b149
  refine kj_fin hmc hms ?_
  exact kj_zreturn hC dL_isSpelled_149
set_option maxHeartbeats 4000000 in
set_option maxRecDepth 100000 in
theorem t_L_isSpelled_b148 {X : KX} (hC : kC X RL cL_isSpelled 7 (some .boolean)) (hN : (xme X).name = yL_isSpelled.name) (hT : kT0 X) (hmc : xmc X = 0) (hms : xms X = 0) (hD : xD X = 4)  (h : KH) : kJ X (fun x : Int32 => some (.inl x)) 7 0 0 [] [] 148 h (L_isSpelled_b148   h) := by
  unfold L_isSpelled_b148
  refine kj_iconst (v := 0) hC dL_isSpelled_148 (by decide) ?_
  exact kj_sub [] rfl (t_L_isSpelled_b149 hC hN hT hmc hms hD  0 h)
set_option maxHeartbeats 4000000 in
set_option maxRecDepth 100000 in
theorem t_L_isSpelled_b132 {X : KX} (hC : kC X RL cL_isSpelled 7 (some .boolean)) (hN : (xme X).name = yL_isSpelled.name) (hT : kT0 X) (hmc : xmc X = 0) (hms : xms X = 0) (hD : xD X = 4) (v1 : Int32) (v2 : Int32) (v3 : Int32) (h : KH) : kJ X (fun x : Int32 => some (.inl x)) 7 0 0 [(1, .inl v1), (2, .inl v2), (3, .inl v3)] [] 132 h (L_isSpelled_b132  v1 v2 v3 h) := by
  unfold L_isSpelled_b132
  refine kj_iloadn hC 2 dL_isSpelled_132 rfl rfl ?_
  refine kj_if_eq (tgt := 148) hC dL_isSpelled_133 (by decide) (fun q1 => ?_) (fun q1 => ?_)
  · exact kj_sub [] rfl (t_L_isSpelled_b148 hC hN hT hmc hms hD   h)
  · refine kj_iloadn hC 1 dL_isSpelled_136 rfl rfl ?_
    refine kj_iloadn hC 0 dL_isSpelled_137 rfl rfl ?_
    refine kj_invS (as := [.inl v1]) (rest := [.inl v2]) hC hT dL_isSpelled_138 kw211 ky_L_size ky2_L_size (t_L_size v1 h) rfl rfl (Nat.le_of_ble_eq_true rfl) ⟨by rw [hD]; decide, by decide⟩ ⟨by rw [hmc]; exact Nat.le_of_ble_eq_true rfl, by rw [hms]; exact Nat.le_of_ble_eq_true rfl⟩ (fun x1 h1 => ?_)
    refine kj_norm (st' := [.inl x1, .inl v2]) (c' := 0) (z' := 0) rfl rfl rfl ?_
    refine kj_icmp_lt (tgt := 148) hC dL_isSpelled_141 (by decide) (fun q2 => ?_) (fun q2 => ?_)
    · exact kj_sub [] rfl (t_L_isSpelled_b148 hC hN hT hmc hms hD   h1)
    · refine kj_iconst (v := 1) hC dL_isSpelled_144 (by decide) ?_
      refine kj_goto (tgt := 149) hC dL_isSpelled_145 (by decide) ?_
      exact kj_sub [] rfl (t_L_isSpelled_b149 hC hN hT hmc hms hD  1 h1)
set_option maxHeartbeats 4000000 in
set_option maxRecDepth 100000 in
theorem t_L_isSpelled_b124 {X : KX} (hC : kC X RL cL_isSpelled 7 (some .boolean)) (hN : (xme X).name = yL_isSpelled.name) (hT : kT0 X) (hmc : xmc X = 0) (hms : xms X = 0) (hD : xD X = 4) (rc7 : Nat → Int32 → Int32 → Int32 → Int32 → KH → KO Int32) (hr7 : ∀ (v0 : Nat) (v1 : Int32) (v2 : Int32) (v3 : Int32) (v4 : Int32) (h : KH), kJ X (fun x : Int32 => some (.inl x)) 7 0 0 [(0, .inr (.inr (some v0))), (1, .inl v1), (2, .inl v2), (3, .inl v3), (4, .inl v4)] [] 7 h (rc7 v0 v1 v2 v3 v4 h)) (v0 : Nat) (v1 : Int32) (v3 : Int32) (v4 : Int32) (s0 : Int32) (s1 : Int32) (h : KH) : kJ X (fun x : Int32 => some (.inl x)) 7 0 0 [(0, .inr (.inr (some v0))), (1, .inl v1), (3, .inl v3), (4, .inl v4)] [.inl s0, .inl s1] 124 h (L_isSpelled_b124 rc7 v0 v1 v3 v4 s0 s1 h) := by
  unfold L_isSpelled_b124
  refine kj_iadd hC dL_isSpelled_124 ?_
  refine kj_istoren (L' := [(2, .inl (s1 + s0)), (0, .inr (.inr (some v0))), (1, .inl v1), (3, .inl v3), (4, .inl v4)]) hC dL_isSpelled_125 rfl (by decide) rfl ?_
  refine kj_iinc (v := v4 + 1) (L' := [(4, .inl (v4 + 1)), (2, .inl (s1 + s0)), (0, .inr (.inr (some v0))), (1, .inl v1), (3, .inl v3)]) hC 4 dL_isSpelled_126 rfl rfl (by decide) rfl ?_
  refine kj_goto (tgt := 7) hC dL_isSpelled_129 (by decide) ?_
  exact kj_sub [2, 3, 1, 4, 0] rfl (hr7 v0 v1 (s1 + s0) v3 (v4 + 1) h)
set_option maxHeartbeats 4000000 in
set_option maxRecDepth 100000 in
theorem t_L_isSpelled_b123 {X : KX} (hC : kC X RL cL_isSpelled 7 (some .boolean)) (hN : (xme X).name = yL_isSpelled.name) (hT : kT0 X) (hmc : xmc X = 0) (hms : xms X = 0) (hD : xD X = 4) (rc7 : Nat → Int32 → Int32 → Int32 → Int32 → KH → KO Int32) (hr7 : ∀ (v0 : Nat) (v1 : Int32) (v2 : Int32) (v3 : Int32) (v4 : Int32) (h : KH), kJ X (fun x : Int32 => some (.inl x)) 7 0 0 [(0, .inr (.inr (some v0))), (1, .inl v1), (2, .inl v2), (3, .inl v3), (4, .inl v4)] [] 7 h (rc7 v0 v1 v2 v3 v4 h)) (v0 : Nat) (v1 : Int32) (v3 : Int32) (v4 : Int32) (s0 : Int32) (h : KH) : kJ X (fun x : Int32 => some (.inl x)) 7 0 0 [(0, .inr (.inr (some v0))), (1, .inl v1), (3, .inl v3), (4, .inl v4)] [.inl s0] 123 h (L_isSpelled_b123 rc7 v0 v1 v3 v4 s0 h) := by
  unfold L_isSpelled_b123
  refine kj_iconst (v := 1) hC dL_isSpelled_123 (by decide) ?_
  exact kj_sub [0, 1, 2, 3] rfl (t_L_isSpelled_b124 hC hN hT hmc hms hD rc7 hr7 v0 v1 v3 v4 1 s0 h)
set_option maxHeartbeats 4000000 in
set_option maxRecDepth 100000 in
theorem t_L_isSpelled_b103 {X : KX} (hC : kC X RL cL_isSpelled 7 (some .boolean)) (hN : (xme X).name = yL_isSpelled.name) (hT : kT0 X) (hmc : xmc X = 0) (hms : xms X = 0) (hD : xD X = 4) (rc7 : Nat → Int32 → Int32 → Int32 → Int32 → KH → KO Int32) (hr7 : ∀ (v0 : Nat) (v1 : Int32) (v2 : Int32) (v3 : Int32) (v4 : Int32) (h : KH), kJ X (fun x : Int32 => some (.inl x)) 7 0 0 [(0, .inr (.inr (some v0))), (1, .inl v1), (2, .inl v2), (3, .inl v3), (4, .inl v4)] [] 7 h (rc7 v0 v1 v2 v3 v4 h)) (v0 : Nat) (v1 : Int32) (v2 : Int32) (v4 : Int32) (v5 : Int32) (s0 : Int32) (h : KH) : kJ X (fun x : Int32 => some (.inl x)) 7 0 0 [(0, .inr (.inr (some v0))), (1, .inl v1), (2, .inl v2), (4, .inl v4), (5, .inl v5)] [.inl s0] 103 h (L_isSpelled_b103 rc7 v0 v1 v2 v4 v5 s0 h) := by
  unfold L_isSpelled_b103
  refine kj_istoren (L' := [(3, .inl s0), (0, .inr (.inr (some v0))), (1, .inl v1), (2, .inl v2), (4, .inl v4), (5, .inl v5)]) hC dL_isSpelled_103 rfl (by decide) rfl ?_
  refine kj_iloadn hC 3 dL_isSpelled_104 rfl rfl ?_
  refine kj_iload hC 5 dL_isSpelled_105 rfl ?_
  refine kj_bipush (v := 9) hC dL_isSpelled_107 (by decide) ?_
  refine kj_icmp_le (tgt := 123) hC dL_isSpelled_109 (by decide) (fun q1 => ?_) (fun q1 => ?_)
  · exact kj_sub [1, 2, 0, 4] rfl (t_L_isSpelled_b123 hC hN hT hmc hms hD rc7 hr7 v0 v1 s0 v4 v2 h)
  · refine kj_iload hC 5 dL_isSpelled_112 rfl ?_
    refine kj_bipush (v := 14) hC dL_isSpelled_114 (by decide) ?_
    refine kj_icmp_ge (tgt := 123) hC dL_isSpelled_116 (by decide) (fun q2 => ?_) (fun q2 => ?_)
    · exact kj_sub [1, 2, 0, 4] rfl (t_L_isSpelled_b123 hC hN hT hmc hms hD rc7 hr7 v0 v1 s0 v4 v2 h)
    · refine kj_iconst (v := 2) hC dL_isSpelled_119 (by decide) ?_
      refine kj_goto (tgt := 124) hC dL_isSpelled_120 (by decide) ?_
      exact kj_sub [1, 2, 0, 4] rfl (t_L_isSpelled_b124 hC hN hT hmc hms hD rc7 hr7 v0 v1 s0 v4 2 v2 h)
set_option maxHeartbeats 4000000 in
set_option maxRecDepth 100000 in
theorem t_L_isSpelled_b102 {X : KX} (hC : kC X RL cL_isSpelled 7 (some .boolean)) (hN : (xme X).name = yL_isSpelled.name) (hT : kT0 X) (hmc : xmc X = 0) (hms : xms X = 0) (hD : xD X = 4) (rc7 : Nat → Int32 → Int32 → Int32 → Int32 → KH → KO Int32) (hr7 : ∀ (v0 : Nat) (v1 : Int32) (v2 : Int32) (v3 : Int32) (v4 : Int32) (h : KH), kJ X (fun x : Int32 => some (.inl x)) 7 0 0 [(0, .inr (.inr (some v0))), (1, .inl v1), (2, .inl v2), (3, .inl v3), (4, .inl v4)] [] 7 h (rc7 v0 v1 v2 v3 v4 h)) (v0 : Nat) (v1 : Int32) (v2 : Int32) (v4 : Int32) (v5 : Int32) (h : KH) : kJ X (fun x : Int32 => some (.inl x)) 7 0 0 [(0, .inr (.inr (some v0))), (1, .inl v1), (2, .inl v2), (4, .inl v4), (5, .inl v5)] [] 102 h (L_isSpelled_b102 rc7 v0 v1 v2 v4 v5 h) := by
  unfold L_isSpelled_b102
  refine kj_iconst (v := 0) hC dL_isSpelled_102 (by decide) ?_
  exact kj_sub [0, 1, 2, 3, 4] rfl (t_L_isSpelled_b103 hC hN hT hmc hms hD rc7 hr7 v0 v1 v2 v4 v5 0 h)
set_option maxHeartbeats 4000000 in
set_option maxRecDepth 100000 in
theorem t_L_isSpelled_b98 {X : KX} (hC : kC X RL cL_isSpelled 7 (some .boolean)) (hN : (xme X).name = yL_isSpelled.name) (hT : kT0 X) (hmc : xmc X = 0) (hms : xms X = 0) (hD : xD X = 4) (rc7 : Nat → Int32 → Int32 → Int32 → Int32 → KH → KO Int32) (hr7 : ∀ (v0 : Nat) (v1 : Int32) (v2 : Int32) (v3 : Int32) (v4 : Int32) (h : KH), kJ X (fun x : Int32 => some (.inl x)) 7 0 0 [(0, .inr (.inr (some v0))), (1, .inl v1), (2, .inl v2), (3, .inl v3), (4, .inl v4)] [] 7 h (rc7 v0 v1 v2 v3 v4 h)) (v0 : Nat) (v1 : Int32) (v2 : Int32) (v4 : Int32) (v5 : Int32) (h : KH) : kJ X (fun x : Int32 => some (.inl x)) 7 0 0 [(0, .inr (.inr (some v0))), (1, .inl v1), (2, .inl v2), (4, .inl v4), (5, .inl v5)] [] 98 h (L_isSpelled_b98 rc7 v0 v1 v2 v4 v5 h) := by
  unfold L_isSpelled_b98
  refine kj_iconst (v := 1) hC dL_isSpelled_98 (by decide) ?_
  refine kj_goto (tgt := 103) hC dL_isSpelled_99 (by decide) ?_
  exact kj_sub [0, 1, 2, 3, 4] rfl (t_L_isSpelled_b103 hC hN hT hmc hms hD rc7 hr7 v0 v1 v2 v4 v5 1 h)
set_option maxHeartbeats 4000000 in
set_option maxRecDepth 100000 in
theorem t_L_isSpelled_b57 {X : KX} (hC : kC X RL cL_isSpelled 7 (some .boolean)) (hN : (xme X).name = yL_isSpelled.name) (hT : kT0 X) (hmc : xmc X = 0) (hms : xms X = 0) (hD : xD X = 4) (rc7 : Nat → Int32 → Int32 → Int32 → Int32 → KH → KO Int32) (hr7 : ∀ (v0 : Nat) (v1 : Int32) (v2 : Int32) (v3 : Int32) (v4 : Int32) (h : KH), kJ X (fun x : Int32 => some (.inl x)) 7 0 0 [(0, .inr (.inr (some v0))), (1, .inl v1), (2, .inl v2), (3, .inl v3), (4, .inl v4)] [] 7 h (rc7 v0 v1 v2 v3 v4 h)) (v0 : Nat) (v1 : Int32) (v2 : Int32) (v4 : Int32) (v5 : Int32) (s0 : Int32) (h : KH) : kJ X (fun x : Int32 => some (.inl x)) 7 0 0 [(0, .inr (.inr (some v0))), (1, .inl v1), (2, .inl v2), (4, .inl v4), (5, .inl v5)] [.inl s0] 57 h (L_isSpelled_b57 rc7 v0 v1 v2 v4 v5 s0 h) := by
  unfold L_isSpelled_b57
  refine kj_istore (L' := [(6, .inl s0), (0, .inr (.inr (some v0))), (1, .inl v1), (2, .inl v2), (4, .inl v4), (5, .inl v5)]) hC dL_isSpelled_57 (by decide) rfl ?_
  refine kj_aloadn hC 1 dL_isSpelled_59 rfl rfl ?_
  refine kj_iloadn hC 3 dL_isSpelled_60 rfl rfl ?_
  refine kj_ghost (n := 0) ?_
  refine kj_invV (ci := 9) (q := (RX9, TX9, 17)) (as := [.inl v2]) (rest := []) hC hT dL_isSpelled_61 kw696 ky_X9_charAt ky2_X9_charAt rfl rfl (t_zX9_charAt v0 v2 (sX h (0))) rfl rfl (Nat.le_of_ble_eq_true rfl) ⟨by rw [hD]; decide, by decide⟩ ⟨by rw [hmc]; exact Nat.le_of_ble_eq_true rfl, by rw [hms]; exact Nat.le_of_ble_eq_true rfl⟩ (fun x1 h1 => ?_)
  refine kj_norm (st' := [.inl x1]) (c' := 0) (z' := 0) rfl rfl rfl ?_
  refine kj_iload hC 0 dL_isSpelled_64 rfl ?_
  refine kj_icmp_ne (tgt := 102) hC dL_isSpelled_66 (by decide) (fun q1 => ?_) (fun q1 => ?_)
  · refine kj_iload hC 5 dL_isSpelled_69 rfl ?_
    refine kj_bipush (v := 10) hC dL_isSpelled_71 (by decide) ?_
    refine kj_icmp_lt (tgt := 98) hC dL_isSpelled_73 (by decide) (fun q2 => ?_) (fun q2 => ?_)
    · exact kj_sub [1, 2, 3, 4, 5] rfl (t_L_isSpelled_b98 hC hN hT hmc hms hD rc7 hr7 v0 v1 v2 v4 v5 h1)
    · refine kj_iload hC 5 dL_isSpelled_76 rfl ?_
      refine kj_bipush (v := 14) hC dL_isSpelled_78 (by decide) ?_
      refine kj_icmp_eq (tgt := 98) hC dL_isSpelled_80 (by decide) (fun q3 => ?_) (fun q3 => ?_)
      · exact kj_sub [1, 2, 3, 4, 5] rfl (t_L_isSpelled_b98 hC hN hT hmc hms hD rc7 hr7 v0 v1 v2 v4 v5 h1)
      · refine kj_aloadn hC 1 dL_isSpelled_83 rfl rfl ?_
        refine kj_iloadn hC 3 dL_isSpelled_84 rfl rfl ?_
        refine kj_iconst (v := 1) hC dL_isSpelled_85 (by decide) ?_
        refine kj_iadd hC dL_isSpelled_86 ?_
        refine kj_ghost (n := 0) ?_
        refine kj_invV (ci := 9) (q := (RX9, TX9, 17)) (as := [.inl (v2 + (1 : Int32))]) (rest := []) hC hT dL_isSpelled_87 kw696 ky_X9_charAt ky2_X9_charAt rfl rfl (t_zX9_charAt v0 (v2 + (1 : Int32)) (sX h1 (0))) rfl rfl (Nat.le_of_ble_eq_true rfl) ⟨by rw [hD]; decide, by decide⟩ ⟨by rw [hmc]; exact Nat.le_of_ble_eq_true rfl, by rw [hms]; exact Nat.le_of_ble_eq_true rfl⟩ (fun x2 h2 => ?_)
        refine kj_norm (st' := [.inl x2]) (c' := 0) (z' := 0) rfl rfl rfl ?_
        refine kj_ldc (v := 56966) hC dL_isSpelled_90 kw725 ?_
        refine kj_iload hC 5 dL_isSpelled_92 rfl ?_
        refine kj_iadd hC dL_isSpelled_94 ?_
        refine kj_icmp_ne (tgt := 102) hC dL_isSpelled_95 (by decide) (fun q4 => ?_) (fun q4 => ?_)
        · exact kj_sub [1, 2, 3, 4, 5] rfl (t_L_isSpelled_b98 hC hN hT hmc hms hD rc7 hr7 v0 v1 v2 v4 v5 h2)
        · exact kj_sub [1, 2, 3, 4, 5] rfl (t_L_isSpelled_b102 hC hN hT hmc hms hD rc7 hr7 v0 v1 v2 v4 v5 h2)
  · exact kj_sub [1, 2, 3, 4, 5] rfl (t_L_isSpelled_b102 hC hN hT hmc hms hD rc7 hr7 v0 v1 v2 v4 v5 h1)
set_option maxHeartbeats 4000000 in
set_option maxRecDepth 100000 in
theorem t_L_isSpelled_b7 {X : KX} (hC : kC X RL cL_isSpelled 7 (some .boolean)) (hN : (xme X).name = yL_isSpelled.name) (hT : kT0 X) (hmc : xmc X = 0) (hms : xms X = 0) (hD : xD X = 4) (rc7 : Nat → Int32 → Int32 → Int32 → Int32 → KH → KO Int32) (hr7 : ∀ (v0 : Nat) (v1 : Int32) (v2 : Int32) (v3 : Int32) (v4 : Int32) (h : KH), kJ X (fun x : Int32 => some (.inl x)) 7 0 0 [(0, .inr (.inr (some v0))), (1, .inl v1), (2, .inl v2), (3, .inl v3), (4, .inl v4)] [] 7 h (rc7 v0 v1 v2 v3 v4 h)) (v0 : Nat) (v1 : Int32) (v2 : Int32) (v3 : Int32) (v4 : Int32) (h : KH) : kJ X (fun x : Int32 => some (.inl x)) 7 0 0 [(0, .inr (.inr (some v0))), (1, .inl v1), (2, .inl v2), (3, .inl v3), (4, .inl v4)] [] 7 h (L_isSpelled_b7 rc7 v0 v1 v2 v3 v4 h) := by
  unfold L_isSpelled_b7
  refine kj_iload hC 4 dL_isSpelled_7 rfl ?_
  refine kj_iloadn hC 1 dL_isSpelled_9 rfl rfl ?_
  refine kj_invS (as := [.inl v1]) (rest := [.inl v4]) hC hT dL_isSpelled_10 kw211 ky_L_size ky2_L_size (t_L_size v1 h) rfl rfl (Nat.le_of_ble_eq_true rfl) ⟨by rw [hD]; decide, by decide⟩ ⟨by rw [hmc]; exact Nat.le_of_ble_eq_true rfl, by rw [hms]; exact Nat.le_of_ble_eq_true rfl⟩ (fun x1 h1 => ?_)
  refine kj_norm (st' := [.inl x1, .inl v4]) (c' := 0) (z' := 0) rfl rfl rfl ?_
  refine kj_icmp_ge (tgt := 132) hC dL_isSpelled_13 (by decide) (fun q1 => ?_) (fun q1 => ?_)
  · exact kj_sub [1, 2, 3] rfl (t_L_isSpelled_b132 hC hN hT hmc hms hD  v1 v2 v3 h1)
  · refine kj_iloadn hC 3 dL_isSpelled_16 rfl rfl ?_
    refine kj_if_eq (tgt := 132) hC dL_isSpelled_17 (by decide) (fun q2 => ?_) (fun q2 => ?_)
    · exact kj_sub [1, 2, 3] rfl (t_L_isSpelled_b132 hC hN hT hmc hms hD  v1 v2 v3 h1)
    · refine kj_iloadn hC 1 dL_isSpelled_20 rfl rfl ?_
      refine kj_iload hC 4 dL_isSpelled_21 rfl ?_
      refine kj_invS (as := [.inl v1, .inl v4]) (rest := []) hC hT dL_isSpelled_23 kw587 ky_L_sign ky2_L_sign (t_L_sign v1 v4 h1) rfl rfl (Nat.le_of_ble_eq_true rfl) ⟨by rw [hD]; decide, by decide⟩ ⟨by rw [hmc]; exact Nat.le_of_ble_eq_true rfl, by rw [hms]; exact Nat.le_of_ble_eq_true rfl⟩ (fun x2 h2 => ?_)
      refine kj_norm (st' := [.inl x2]) (c' := 0) (z' := 0) rfl rfl rfl ?_
      refine kj_istore (L' := [(5, .inl x2), (0, .inr (.inr (some v0))), (1, .inl v1), (2, .inl v2), (3, .inl v3), (4, .inl v4)]) hC dL_isSpelled_26 (by decide) rfl ?_
      refine kj_iload hC 0 dL_isSpelled_28 rfl ?_
      refine kj_bipush (v := 14) hC dL_isSpelled_30 (by decide) ?_
      refine kj_icmp_ne (tgt := 40) hC dL_isSpelled_32 (by decide) (fun q3 => ?_) (fun q3 => ?_)
      · refine kj_bipush (v := 63) hC dL_isSpelled_35 (by decide) ?_
        refine kj_goto (tgt := 57) hC dL_isSpelled_37 (by decide) ?_
        exact kj_sub [1, 2, 3, 5, 0] rfl (t_L_isSpelled_b57 hC hN hT hmc hms hD rc7 hr7 v0 v1 v2 v4 x2 63 h2)
      · refine kj_iload hC 0 dL_isSpelled_40 rfl ?_
        refine kj_bipush (v := 10) hC dL_isSpelled_42 (by decide) ?_
        refine kj_icmp_ge (tgt := 55) hC dL_isSpelled_44 (by decide) (fun q4 => ?_) (fun q4 => ?_)
        · refine kj_ldc (v := 55357) hC dL_isSpelled_55 kw695 ?_
          exact kj_sub [1, 2, 3, 5, 0] rfl (t_L_isSpelled_b57 hC hN hT hmc hms hD rc7 hr7 v0 v1 v2 v4 x2 55357 h2)
        · refine kj_bipush (v := 65) hC dL_isSpelled_47 (by decide) ?_
          refine kj_iload hC 0 dL_isSpelled_49 rfl ?_
          refine kj_iadd hC dL_isSpelled_51 ?_
          refine kj_goto (tgt := 57) hC dL_isSpelled_52 (by decide) ?_
          exact kj_sub [1, 2, 3, 5, 0] rfl (t_L_isSpelled_b57 hC hN hT hmc hms hD rc7 hr7 v0 v1 v2 v4 x2 ((65 : Int32) + x2) h2)
set_option maxHeartbeats 4000000 in
set_option maxRecDepth 100000 in
theorem t_L_isSpelled_L7 {X : KX} (hC : kC X RL cL_isSpelled 7 (some .boolean)) (hN : (xme X).name = yL_isSpelled.name) (hT : kT0 X) (hmc : xmc X = 0) (hms : xms X = 0) (hD : xD X = 4) : ∀ (n : Nat) (v0 : Nat) (v1 : Int32) (v2 : Int32) (v3 : Int32) (v4 : Int32) (h : KH), kJ X (fun x : Int32 => some (.inl x)) 7 0 0 [(0, .inr (.inr (some v0))), (1, .inl v1), (2, .inl v2), (3, .inl v3), (4, .inl v4)] [] 7 h (L_isSpelled_L7  n v0 v1 v2 v3 v4 h) := by
  intro n
  induction n with
  | zero => intro v0 v1 v2 v3 v4 h; exact kj_none
  | succ n ih => intro v0 v1 v2 v3 v4 h; exact t_L_isSpelled_b7 hC hN hT hmc hms hD (L_isSpelled_L7  n) ih v0 v1 v2 v3 v4 h
set_option maxHeartbeats 4000000 in
set_option maxRecDepth 100000 in
theorem t_L_isSpelled (p0 : Nat) (p1 : Int32) (h : KH) : kM yL_isSpelled cL_isSpelled 7 (some .boolean) 4 0 0 (fun x : Int32 => some (.inl x)) [.inr (.inr (some p0)), .inl p1] h (f_L_isSpelled p0 p1 h) := by
  refine kM_of RL (by decide) rfl (Nat.le_of_ble_eq_true rfl) [(0, .inr (.inr (some p0))), (1, .inl p1)] rfl (fun X hC hN hT hmc hms hD => ?_)
  unfold f_L_isSpelled
  refine kj_iconst (v := 0) hC dL_isSpelled_0 (by decide) ?_
  refine kj_istoren (L' := [(2, .inl 0), (0, .inr (.inr (some p0))), (1, .inl p1)]) hC dL_isSpelled_1 rfl (by decide) rfl ?_
  refine kj_iconst (v := 1) hC dL_isSpelled_2 (by decide) ?_
  refine kj_istoren (L' := [(3, .inl 1), (2, .inl 0), (0, .inr (.inr (some p0))), (1, .inl p1)]) hC dL_isSpelled_3 rfl (by decide) rfl ?_
  refine kj_iconst (v := 0) hC dL_isSpelled_4 (by decide) ?_
  refine kj_istore (L' := [(4, .inl 0), (3, .inl 1), (2, .inl 0), (0, .inr (.inr (some p0))), (1, .inl p1)]) hC dL_isSpelled_5 (by decide) rfl ?_
  exact kj_sub [3, 4, 2, 1, 0] rfl (t_L_isSpelled_L7 hC hN hT hmc hms hD  kF p0 p1 0 1 0 h)
set_option maxHeartbeats 4000000 in
set_option maxRecDepth 100000 in
theorem t_L_isAhead_b81 {X : KX} (hC : kC X RL cL_isAhead 5 (some .boolean)) (hN : (xme X).name = yL_isAhead.name) (hT : kT0 X) (hmc : xmc X = 0) (hms : xms X = 0) (hD : xD X = 2) (s0 : Int32) (h : KH) : kJ X (fun x : Int32 => some (.inl x)) 5 0 0 [] [.inl s0] 81 h (L_isAhead_b81  s0 h) := by
  unfold L_isAhead_b81
  refine kj_fin hmc hms ?_
  exact kj_zreturn hC dL_isAhead_81
set_option maxHeartbeats 4000000 in
set_option maxRecDepth 100000 in
theorem t_L_isAhead_b65 {X : KX} (hC : kC X RL cL_isAhead 5 (some .boolean)) (hN : (xme X).name = yL_isAhead.name) (hT : kT0 X) (hmc : xmc X = 0) (hms : xms X = 0) (hD : xD X = 2) (v0 : Int32) (v1 : Int32) (h : KH) : kJ X (fun x : Int32 => some (.inl x)) 5 0 0 [(0, .inl v0), (1, .inl v1)] [] 65 h (L_isAhead_b65  v0 v1 h) := by
  unfold L_isAhead_b65
  refine kj_iloadn hC 0 dL_isAhead_65 rfl rfl ?_
  refine kj_invS (as := [.inl v0]) (rest := []) hC hT dL_isAhead_66 kw211 ky_L_size ky2_L_size (t_L_size v0 h) rfl rfl (Nat.le_of_ble_eq_true rfl) ⟨by rw [hD]; decide, by decide⟩ ⟨by rw [hmc]; exact Nat.le_of_ble_eq_true rfl, by rw [hms]; exact Nat.le_of_ble_eq_true rfl⟩ (fun x1 h1 => ?_)
  refine kj_norm (st' := [.inl x1]) (c' := 0) (z' := 0) rfl rfl rfl ?_
  refine kj_iloadn hC 1 dL_isAhead_69 rfl rfl ?_
  refine kj_invS (as := [.inl v1]) (rest := [.inl x1]) hC hT dL_isAhead_70 kw211 ky_L_size ky2_L_size (t_L_size v1 h1) rfl rfl (Nat.le_of_ble_eq_true rfl) ⟨by rw [hD]; decide, by decide⟩ ⟨by rw [hmc]; exact Nat.le_of_ble_eq_true rfl, by rw [hms]; exact Nat.le_of_ble_eq_true rfl⟩ (fun x2 h2 => ?_)
  refine kj_norm (st' := [.inl x2, .inl x1]) (c' := 0) (z' := 0) rfl rfl rfl ?_
  refine kj_icmp_ge (tgt := 80) hC dL_isAhead_73 (by decide) (fun q1 => ?_) (fun q1 => ?_)
  · refine kj_iconst (v := 0) hC dL_isAhead_80 (by decide) ?_
    exact kj_sub [] rfl (t_L_isAhead_b81 hC hN hT hmc hms hD  0 h2)
  · refine kj_iconst (v := 1) hC dL_isAhead_76 (by decide) ?_
    refine kj_goto (tgt := 81) hC dL_isAhead_77 (by decide) ?_
    exact kj_sub [] rfl (t_L_isAhead_b81 hC hN hT hmc hms hD  1 h2)
set_option maxHeartbeats 4000000 in
set_option maxRecDepth 100000 in
theorem t_L_isAhead_b58 {X : KX} (hC : kC X RL cL_isAhead 5 (some .boolean)) (hN : (xme X).name = yL_isAhead.name) (hT : kT0 X) (hmc : xmc X = 0) (hms : xms X = 0) (hD : xD X = 2) (s0 : Int32) (h : KH) : kJ X (fun x : Int32 => some (.inl x)) 5 0 0 [] [.inl s0] 58 h (L_isAhead_b58  s0 h) := by
  unfold L_isAhead_b58
  refine kj_fin hmc hms ?_
  exact kj_zreturn hC dL_isAhead_58
set_option maxHeartbeats 4000000 in
set_option maxRecDepth 100000 in
theorem t_L_isAhead_b2 {X : KX} (hC : kC X RL cL_isAhead 5 (some .boolean)) (hN : (xme X).name = yL_isAhead.name) (hT : kT0 X) (hmc : xmc X = 0) (hms : xms X = 0) (hD : xD X = 2) (rc2 : Int32 → Int32 → Int32 → KH → KO Int32) (hr2 : ∀ (v0 : Int32) (v1 : Int32) (v2 : Int32) (h : KH), kJ X (fun x : Int32 => some (.inl x)) 5 0 0 [(0, .inl v0), (1, .inl v1), (2, .inl v2)] [] 2 h (rc2 v0 v1 v2 h)) (v0 : Int32) (v1 : Int32) (v2 : Int32) (h : KH) : kJ X (fun x : Int32 => some (.inl x)) 5 0 0 [(0, .inl v0), (1, .inl v1), (2, .inl v2)] [] 2 h (L_isAhead_b2 rc2 v0 v1 v2 h) := by
  unfold L_isAhead_b2
  refine kj_iloadn hC 2 dL_isAhead_2 rfl rfl ?_
  refine kj_iloadn hC 0 dL_isAhead_3 rfl rfl ?_
  refine kj_invS (as := [.inl v0]) (rest := [.inl v2]) hC hT dL_isAhead_4 kw211 ky_L_size ky2_L_size (t_L_size v0 h) rfl rfl (Nat.le_of_ble_eq_true rfl) ⟨by rw [hD]; decide, by decide⟩ ⟨by rw [hmc]; exact Nat.le_of_ble_eq_true rfl, by rw [hms]; exact Nat.le_of_ble_eq_true rfl⟩ (fun x1 h1 => ?_)
  refine kj_norm (st' := [.inl x1, .inl v2]) (c' := 0) (z' := 0) rfl rfl rfl ?_
  refine kj_icmp_gt (tgt := 65) hC dL_isAhead_7 (by decide) (fun q1 => ?_) (fun q1 => ?_)
  · exact kj_sub [0, 1] rfl (t_L_isAhead_b65 hC hN hT hmc hms hD  v0 v1 h1)
  · refine kj_iloadn hC 2 dL_isAhead_10 rfl rfl ?_
    refine kj_iloadn hC 1 dL_isAhead_11 rfl rfl ?_
    refine kj_invS (as := [.inl v1]) (rest := [.inl v2]) hC hT dL_isAhead_12 kw211 ky_L_size ky2_L_size (t_L_size v1 h1) rfl rfl (Nat.le_of_ble_eq_true rfl) ⟨by rw [hD]; decide, by decide⟩ ⟨by rw [hmc]; exact Nat.le_of_ble_eq_true rfl, by rw [hms]; exact Nat.le_of_ble_eq_true rfl⟩ (fun x2 h2 => ?_)
    refine kj_norm (st' := [.inl x2, .inl v2]) (c' := 0) (z' := 0) rfl rfl rfl ?_
    refine kj_icmp_gt (tgt := 65) hC dL_isAhead_15 (by decide) (fun q2 => ?_) (fun q2 => ?_)
    · exact kj_sub [0, 1] rfl (t_L_isAhead_b65 hC hN hT hmc hms hD  v0 v1 h2)
    · refine kj_iloadn hC 0 dL_isAhead_18 rfl rfl ?_
      refine kj_iloadn hC 0 dL_isAhead_19 rfl rfl ?_
      refine kj_invS (as := [.inl v0]) (rest := [.inl v0]) hC hT dL_isAhead_20 kw211 ky_L_size ky2_L_size (t_L_size v0 h2) rfl rfl (Nat.le_of_ble_eq_true rfl) ⟨by rw [hD]; decide, by decide⟩ ⟨by rw [hmc]; exact Nat.le_of_ble_eq_true rfl, by rw [hms]; exact Nat.le_of_ble_eq_true rfl⟩ (fun x3 h3 => ?_)
      refine kj_norm (st' := [.inl x3, .inl v0]) (c' := 0) (z' := 0) rfl rfl rfl ?_
      refine kj_iloadn hC 2 dL_isAhead_23 rfl rfl ?_
      refine kj_isub hC dL_isAhead_24 ?_
      refine kj_invS (as := [.inl v0, .inl (x3 - v2)]) (rest := []) hC hT dL_isAhead_25 kw587 ky_L_sign ky2_L_sign (t_L_sign v0 (x3 - v2) h3) rfl rfl (Nat.le_of_ble_eq_true rfl) ⟨by rw [hD]; decide, by decide⟩ ⟨by rw [hmc]; exact Nat.le_of_ble_eq_true rfl, by rw [hms]; exact Nat.le_of_ble_eq_true rfl⟩ (fun x4 h4 => ?_)
      refine kj_norm (st' := [.inl x4]) (c' := 0) (z' := 0) rfl rfl rfl ?_
      refine kj_istoren (L' := [(3, .inl x4), (0, .inl v0), (1, .inl v1), (2, .inl v2)]) hC dL_isAhead_28 rfl (by decide) rfl ?_
      refine kj_iloadn hC 2 dL_isAhead_29 rfl rfl ?_
      refine kj_iloadn hC 2 dL_isAhead_30 rfl rfl ?_
      refine kj_invS (as := [.inl v1]) (rest := [.inl v1]) hC hT dL_isAhead_31 kw211 ky_L_size ky2_L_size (t_L_size v1 h4) rfl rfl (Nat.le_of_ble_eq_true rfl) ⟨by rw [hD]; decide, by decide⟩ ⟨by rw [hmc]; exact Nat.le_of_ble_eq_true rfl, by rw [hms]; exact Nat.le_of_ble_eq_true rfl⟩ (fun x5 h5 => ?_)
      refine kj_norm (st' := [.inl x5, .inl v1]) (c' := 0) (z' := 0) rfl rfl rfl ?_
      refine kj_iloadn hC 3 dL_isAhead_34 rfl rfl ?_
      refine kj_isub hC dL_isAhead_35 ?_
      refine kj_invS (as := [.inl v1, .inl (x5 - v2)]) (rest := []) hC hT dL_isAhead_36 kw587 ky_L_sign ky2_L_sign (t_L_sign v1 (x5 - v2) h5) rfl rfl (Nat.le_of_ble_eq_true rfl) ⟨by rw [hD]; decide, by decide⟩ ⟨by rw [hmc]; exact Nat.le_of_ble_eq_true rfl, by rw [hms]; exact Nat.le_of_ble_eq_true rfl⟩ (fun x6 h6 => ?_)
      refine kj_norm (st' := [.inl x6]) (c' := 0) (z' := 0) rfl rfl rfl ?_
      refine kj_istore (L' := [(4, .inl x6), (3, .inl x4), (0, .inl v0), (1, .inl v1), (2, .inl v2)]) hC dL_isAhead_39 (by decide) rfl ?_
      refine kj_iloadn hC 1 dL_isAhead_41 rfl rfl ?_
      refine kj_iload hC 0 dL_isAhead_42 rfl ?_
      refine kj_icmp_eq (tgt := 59) hC dL_isAhead_44 (by decide) (fun q3 => ?_) (fun q3 => ?_)
      · refine kj_iinc (v := v2 + 1) (L' := [(2, .inl (v2 + 1)), (4, .inl x6), (3, .inl x4), (0, .inl v0), (1, .inl v1)]) hC 4 dL_isAhead_59 rfl rfl (by decide) rfl ?_
        refine kj_goto (tgt := 2) hC dL_isAhead_62 (by decide) ?_
        exact kj_sub [3, 4, 0] rfl (hr2 v0 v1 (v2 + 1) h6)
      · refine kj_iloadn hC 1 dL_isAhead_47 rfl rfl ?_
        refine kj_iload hC 0 dL_isAhead_48 rfl ?_
        refine kj_icmp_ge (tgt := 57) hC dL_isAhead_50 (by decide) (fun q4 => ?_) (fun q4 => ?_)
        · refine kj_iconst (v := 0) hC dL_isAhead_57 (by decide) ?_
          exact kj_sub [] rfl (t_L_isAhead_b58 hC hN hT hmc hms hD  0 h6)
        · refine kj_iconst (v := 1) hC dL_isAhead_53 (by decide) ?_
          refine kj_goto (tgt := 58) hC dL_isAhead_54 (by decide) ?_
          exact kj_sub [] rfl (t_L_isAhead_b58 hC hN hT hmc hms hD  1 h6)
set_option maxHeartbeats 4000000 in
set_option maxRecDepth 100000 in
theorem t_L_isAhead_L2 {X : KX} (hC : kC X RL cL_isAhead 5 (some .boolean)) (hN : (xme X).name = yL_isAhead.name) (hT : kT0 X) (hmc : xmc X = 0) (hms : xms X = 0) (hD : xD X = 2) : ∀ (n : Nat) (v0 : Int32) (v1 : Int32) (v2 : Int32) (h : KH), kJ X (fun x : Int32 => some (.inl x)) 5 0 0 [(0, .inl v0), (1, .inl v1), (2, .inl v2)] [] 2 h (L_isAhead_L2  n v0 v1 v2 h) := by
  intro n
  induction n with
  | zero => intro v0 v1 v2 h; exact kj_none
  | succ n ih => intro v0 v1 v2 h; exact t_L_isAhead_b2 hC hN hT hmc hms hD (L_isAhead_L2  n) ih v0 v1 v2 h
set_option maxHeartbeats 4000000 in
set_option maxRecDepth 100000 in
theorem t_L_isAhead (p0 : Int32) (p1 : Int32) (h : KH) : kM yL_isAhead cL_isAhead 5 (some .boolean) 2 0 0 (fun x : Int32 => some (.inl x)) [.inl p0, .inl p1] h (f_L_isAhead p0 p1 h) := by
  refine kM_of RL (by decide) rfl (Nat.le_of_ble_eq_true rfl) [(0, .inl p0), (1, .inl p1)] rfl (fun X hC hN hT hmc hms hD => ?_)
  unfold f_L_isAhead
  refine kj_iconst (v := 1) hC dL_isAhead_0 (by decide) ?_
  refine kj_istoren (L' := [(2, .inl 1), (0, .inl p0), (1, .inl p1)]) hC dL_isAhead_1 rfl (by decide) rfl ?_
  exact kj_sub [1, 2, 0] rfl (t_L_isAhead_L2 hC hN hT hmc hms hD  kF p0 p1 1 h)
set_option maxHeartbeats 4000000 in
set_option maxRecDepth 100000 in
theorem t_L_areOrdered_b114 {X : KX} (hC : kC X RL cL_areOrdered 7 (some .boolean)) (hN : (xme X).name = yL_areOrdered.name) (hT : kT0 X) (hmc : xmc X = 0) (hms : xms X = 0) (hD : xD X = 3) (v4 : Int32) (h : KH) : kJ X (fun x : Int32 => some (.inl x)) 7 0 0 [(4, .inl v4)] [] 114 h (L_areOrdered_b114  v4 h) := by
  unfold L_areOrdered_b114
  refine kj_iload hC 0 dL_areOrdered_114 rfl ?_
  refine kj_fin hmc hms ?_
  exact kj_zreturn hC dL_areOrdered_116
set_option maxHeartbeats 4000000 in
set_option maxRecDepth 100000 in
theorem t_L_areOrdered_b99 {X : KX} (hC : kC X RL cL_areOrdered 7 (some .boolean)) (hN : (xme X).name = yL_areOrdered.name) (hT : kT0 X) (hmc : xmc X = 0) (hms : xms X = 0) (hD : xD X = 3) (rc22 : Nat → Nat → Nat → Int32 → Int32 → Int32 → KH → KO Int32) (hr22 : ∀ (v0 : Nat) (v1 : Nat) (v2 : Nat) (v3 : Int32) (v4 : Int32) (v5 : Int32) (h : KH), kJ X (fun x : Int32 => some (.inl x)) 7 0 0 [(0, .inr (.inr (some v0))), (1, .inr (.inr (some v1))), (2, .inr (.inr (some v2))), (3, .inl v3), (4, .inl v4), (5, .inl v5)] [] 22 h (rc22 v0 v1 v2 v3 v4 v5 h)) (v0 : Nat) (v1 : Nat) (v2 : Nat) (v3 : Int32) (v5 : Int32) (v6 : Int32) (s0 : Int32) (h : KH) : kJ X (fun x : Int32 => some (.inl x)) 7 0 0 [(0, .inr (.inr (some v0))), (1, .inr (.inr (some v1))), (2, .inr (.inr (some v2))), (3, .inl v3), (5, .inl v5), (6, .inl v6)] [.inl s0] 99 h (L_areOrdered_b99 rc22 v0 v1 v2 v3 v5 v6 s0 h) := by
  unfold L_areOrdered_b99
  refine kj_istore (L' := [(4, .inl s0), (0, .inr (.inr (some v0))), (1, .inr (.inr (some v1))), (2, .inr (.inr (some v2))), (3, .inl v3), (5, .inl v5), (6, .inl v6)]) hC dL_areOrdered_99 (by decide) rfl ?_
  refine kj_iloadn hC 4 dL_areOrdered_101 rfl rfl ?_
  refine kj_iconst (v := 1) hC dL_areOrdered_102 (by decide) ?_
  refine kj_iload hC 6 dL_areOrdered_103 rfl ?_
  refine kj_ishl hC dL_areOrdered_105 ?_
  refine kj_ior hC dL_areOrdered_106 ?_
  refine kj_istoren (L' := [(3, .inl (v3 ||| ((1 : Int32) <<< (v6 &&& 31)))), (4, .inl s0), (0, .inr (.inr (some v0))), (1, .inr (.inr (some v1))), (2, .inr (.inr (some v2))), (5, .inl v5), (6, .inl v6)]) hC dL_areOrdered_107 rfl (by decide) rfl ?_
  refine kj_iinc (v := v5 + 1) (L' := [(5, .inl (v5 + 1)), (3, .inl (v3 ||| ((1 : Int32) <<< (v6 &&& 31)))), (4, .inl s0), (0, .inr (.inr (some v0))), (1, .inr (.inr (some v1))), (2, .inr (.inr (some v2))), (6, .inl v6)]) hC 5 dL_areOrdered_108 rfl rfl (by decide) rfl ?_
  refine kj_goto (tgt := 22) hC dL_areOrdered_111 (by decide) ?_
  exact kj_sub [3, 4, 5, 1, 2, 0] rfl (hr22 v0 v1 v2 (v3 ||| ((1 : Int32) <<< (v6 &&& 31))) s0 (v5 + 1) h)
set_option maxHeartbeats 4000000 in
set_option maxRecDepth 100000 in
theorem t_L_areOrdered_b98 {X : KX} (hC : kC X RL cL_areOrdered 7 (some .boolean)) (hN : (xme X).name = yL_areOrdered.name) (hT : kT0 X) (hmc : xmc X = 0) (hms : xms X = 0) (hD : xD X = 3) (rc22 : Nat → Nat → Nat → Int32 → Int32 → Int32 → KH → KO Int32) (hr22 : ∀ (v0 : Nat) (v1 : Nat) (v2 : Nat) (v3 : Int32) (v4 : Int32) (v5 : Int32) (h : KH), kJ X (fun x : Int32 => some (.inl x)) 7 0 0 [(0, .inr (.inr (some v0))), (1, .inr (.inr (some v1))), (2, .inr (.inr (some v2))), (3, .inl v3), (4, .inl v4), (5, .inl v5)] [] 22 h (rc22 v0 v1 v2 v3 v4 v5 h)) (v0 : Nat) (v1 : Nat) (v2 : Nat) (v3 : Int32) (v5 : Int32) (v6 : Int32) (h : KH) : kJ X (fun x : Int32 => some (.inl x)) 7 0 0 [(0, .inr (.inr (some v0))), (1, .inr (.inr (some v1))), (2, .inr (.inr (some v2))), (3, .inl v3), (5, .inl v5), (6, .inl v6)] [] 98 h (L_areOrdered_b98 rc22 v0 v1 v2 v3 v5 v6 h) := by
  unfold L_areOrdered_b98
  refine kj_iconst (v := 0) hC dL_areOrdered_98 (by decide) ?_
  exact kj_sub [0, 1, 2, 3, 4, 5] rfl (t_L_areOrdered_b99 hC hN hT hmc hms hD rc22 hr22 v0 v1 v2 v3 v5 v6 0 h)
set_option maxHeartbeats 4000000 in
set_option maxRecDepth 100000 in
theorem t_L_areOrdered_b94 {X : KX} (hC : kC X RL cL_areOrdered 7 (some .boolean)) (hN : (xme X).name = yL_areOrdered.name) (hT : kT0 X) (hmc : xmc X = 0) (hms : xms X = 0) (hD : xD X = 3) (rc22 : Nat → Nat → Nat → Int32 → Int32 → Int32 → KH → KO Int32) (hr22 : ∀ (v0 : Nat) (v1 : Nat) (v2 : Nat) (v3 : Int32) (v4 : Int32) (v5 : Int32) (h : KH), kJ X (fun x : Int32 => some (.inl x)) 7 0 0 [(0, .inr (.inr (some v0))), (1, .inr (.inr (some v1))), (2, .inr (.inr (some v2))), (3, .inl v3), (4, .inl v4), (5, .inl v5)] [] 22 h (rc22 v0 v1 v2 v3 v4 v5 h)) (v0 : Nat) (v1 : Nat) (v2 : Nat) (v3 : Int32) (v5 : Int32) (v6 : Int32) (h : KH) : kJ X (fun x : Int32 => some (.inl x)) 7 0 0 [(0, .inr (.inr (some v0))), (1, .inr (.inr (some v1))), (2, .inr (.inr (some v2))), (3, .inl v3), (5, .inl v5), (6, .inl v6)] [] 94 h (L_areOrdered_b94 rc22 v0 v1 v2 v3 v5 v6 h) := by
  unfold L_areOrdered_b94
  refine kj_iconst (v := 1) hC dL_areOrdered_94 (by decide) ?_
  refine kj_goto (tgt := 99) hC dL_areOrdered_95 (by decide) ?_
  exact kj_sub [0, 1, 2, 3, 4, 5] rfl (t_L_areOrdered_b99 hC hN hT hmc hms hD rc22 hr22 v0 v1 v2 v3 v5 v6 1 h)
set_option maxHeartbeats 4000000 in
set_option maxRecDepth 100000 in
theorem t_L_areOrdered_b22 {X : KX} (hC : kC X RL cL_areOrdered 7 (some .boolean)) (hN : (xme X).name = yL_areOrdered.name) (hT : kT0 X) (hmc : xmc X = 0) (hms : xms X = 0) (hD : xD X = 3) (rc22 : Nat → Nat → Nat → Int32 → Int32 → Int32 → KH → KO Int32) (hr22 : ∀ (v0 : Nat) (v1 : Nat) (v2 : Nat) (v3 : Int32) (v4 : Int32) (v5 : Int32) (h : KH), kJ X (fun x : Int32 => some (.inl x)) 7 0 0 [(0, .inr (.inr (some v0))), (1, .inr (.inr (some v1))), (2, .inr (.inr (some v2))), (3, .inl v3), (4, .inl v4), (5, .inl v5)] [] 22 h (rc22 v0 v1 v2 v3 v4 v5 h)) (v0 : Nat) (v1 : Nat) (v2 : Nat) (v3 : Int32) (v4 : Int32) (v5 : Int32) (h : KH) : kJ X (fun x : Int32 => some (.inl x)) 7 0 0 [(0, .inr (.inr (some v0))), (1, .inr (.inr (some v1))), (2, .inr (.inr (some v2))), (3, .inl v3), (4, .inl v4), (5, .inl v5)] [] 22 h (L_areOrdered_b22 rc22 v0 v1 v2 v3 v4 v5 h) := by
  unfold L_areOrdered_b22
  refine kj_iload hC 5 dL_areOrdered_22 rfl ?_
  refine kj_aloadn hC 2 dL_areOrdered_24 rfl rfl ?_
  refine kj_iconst (v := 2) hC dL_areOrdered_25 (by decide) ?_
  refine kj_gAIc (c := 31) hC rfl dL_areOrdered_26 (fun x1 => ?_)
  refine kj_icmp_ge (tgt := 114) hC dL_areOrdered_27 (by decide) (fun q1 => ?_) (fun q1 => ?_)
  · exact kj_sub [4] rfl (t_L_areOrdered_b114 hC hN hT hmc hms hD  v4 h)
  · refine kj_iload hC 4 dL_areOrdered_30 rfl ?_
    refine kj_if_eq (tgt := 114) hC dL_areOrdered_32 (by decide) (fun q2 => ?_) (fun q2 => ?_)
    · exact kj_sub [4] rfl (t_L_areOrdered_b114 hC hN hT hmc hms hD  v4 h)
    · refine kj_aloadn hC 0 dL_areOrdered_35 rfl rfl ?_
      refine kj_iload hC 5 dL_areOrdered_36 rfl ?_
      refine kj_ghost (n := 0) ?_
      refine kj_invV (ci := 9) (q := (RX9, TX9, 17)) (as := [.inl v5]) (rest := []) hC hT dL_areOrdered_38 kw737 ky_X9_plateAt ky2_X9_plateAt rfl rfl (t_zX9_plateAt v0 v5 (sX h (0))) rfl rfl (Nat.le_of_ble_eq_true rfl) ⟨by rw [hD]; decide, by decide⟩ ⟨by rw [hmc]; exact Nat.le_of_ble_eq_true rfl, by rw [hms]; exact Nat.le_of_ble_eq_true rfl⟩ (fun x2 h1 => ?_)
      refine kj_norm (st' := [.inl x2]) (c' := 0) (z' := 0) rfl rfl rfl ?_
      refine kj_istore (L' := [(6, .inl x2), (0, .inr (.inr (some v0))), (1, .inr (.inr (some v1))), (2, .inr (.inr (some v2))), (3, .inl v3), (4, .inl v4), (5, .inl v5)]) hC dL_areOrdered_41 (by decide) rfl ?_
      refine kj_iload hC 0 dL_areOrdered_43 rfl ?_
      refine kj_if_lt (tgt := 98) hC dL_areOrdered_45 (by decide) (fun q3 => ?_) (fun q3 => ?_)
      · exact kj_sub [1, 2, 3, 4, 6, 0] rfl (t_L_areOrdered_b98 hC hN hT hmc hms hD rc22 hr22 v0 v1 v2 v3 v5 x2 h1)
      · refine kj_iload hC 0 dL_areOrdered_48 rfl ?_
        refine kj_aloadn hC 3 dL_areOrdered_50 rfl rfl ?_
        refine kj_iconst (v := 2) hC dL_areOrdered_51 (by decide) ?_
        refine kj_gAIc (c := 31) hC rfl dL_areOrdered_52 (fun x3 => ?_)
        refine kj_icmp_ge (tgt := 98) hC dL_areOrdered_53 (by decide) (fun q4 => ?_) (fun q4 => ?_)
        · exact kj_sub [1, 2, 3, 4, 6, 0] rfl (t_L_areOrdered_b98 hC hN hT hmc hms hD rc22 hr22 v0 v1 v2 v3 v5 x2 h1)
        · refine kj_iloadn hC 4 dL_areOrdered_56 rfl rfl ?_
          refine kj_iload hC 0 dL_areOrdered_57 rfl ?_
          refine kj_ishr hC dL_areOrdered_59 ?_
          refine kj_iconst (v := 1) hC dL_areOrdered_60 (by decide) ?_
          refine kj_iand hC dL_areOrdered_61 ?_
          refine kj_if_ne (tgt := 98) hC dL_areOrdered_62 (by decide) (fun q5 => ?_) (fun q5 => ?_)
          · refine kj_iload hC 6 dL_areOrdered_65 rfl ?_
            refine kj_if_eq (tgt := 94) hC dL_areOrdered_67 (by decide) (fun q6 => ?_) (fun q6 => ?_)
            · exact kj_sub [1, 2, 3, 4, 6, 0] rfl (t_L_areOrdered_b94 hC hN hT hmc hms hD rc22 hr22 v0 v1 v2 v3 v5 x2 h1)
            · refine kj_aloadn hC 2 dL_areOrdered_70 rfl rfl ?_
              refine kj_iconst (v := 1) hC dL_areOrdered_71 (by decide) ?_
              refine kj_aloadn hC 1 dL_areOrdered_72 rfl rfl ?_
              refine kj_iload hC 6 dL_areOrdered_73 rfl ?_
              refine kj_iconst (v := 1) hC dL_areOrdered_75 (by decide) ?_
              refine kj_isub hC dL_areOrdered_76 ?_
              refine kj_ghost (n := 0) ?_
              refine kj_invV (ci := 9) (q := (RX9, TX9, 17)) (as := [.inl (v5 - (1 : Int32))]) (rest := [.inl 1, .inr (.inr (some v1))]) hC hT dL_areOrdered_77 kw737 ky_X9_plateAt ky2_X9_plateAt rfl rfl (t_zX9_plateAt v0 (v5 - (1 : Int32)) (sX h1 (0))) rfl rfl (Nat.le_of_ble_eq_true rfl) ⟨by rw [hD]; decide, by decide⟩ ⟨by rw [hmc]; exact Nat.le_of_ble_eq_true rfl, by rw [hms]; exact Nat.le_of_ble_eq_true rfl⟩ (fun x4 h2 => ?_)
              refine kj_norm (st' := [.inl x4, .inl 1, .inr (.inr (some v1))]) (c' := 0) (z' := 0) rfl rfl rfl ?_
              refine kj_iadd hC dL_areOrdered_80 ?_
              refine kj_gAIc (c := 31) hC rfl dL_areOrdered_81 (fun x5 => ?_)
              refine kj_aloadn hC 2 dL_areOrdered_82 rfl rfl ?_
              refine kj_iconst (v := 1) hC dL_areOrdered_83 (by decide) ?_
              refine kj_iload hC 0 dL_areOrdered_84 rfl ?_
              refine kj_iadd hC dL_areOrdered_86 ?_
              refine kj_gAIc (c := 31) hC rfl dL_areOrdered_87 (fun x6 => ?_)
              refine kj_invS (as := [.inl x5, .inl x6]) (rest := []) hC hT dL_areOrdered_88 kw756 ky_L_isAhead ky2_L_isAhead (t_L_isAhead x5 x6 h2) rfl rfl (Nat.le_of_ble_eq_true rfl) ⟨by rw [hD]; decide, by decide⟩ ⟨by rw [hmc]; exact Nat.le_of_ble_eq_true rfl, by rw [hms]; exact Nat.le_of_ble_eq_true rfl⟩ (fun x7 h3 => ?_)
              refine kj_norm (st' := [.inl x7]) (c' := 0) (z' := 0) rfl rfl rfl ?_
              refine kj_if_eq (tgt := 98) hC dL_areOrdered_91 (by decide) (fun q7 => ?_) (fun q7 => ?_)
              · exact kj_sub [1, 2, 3, 4, 6, 0] rfl (t_L_areOrdered_b98 hC hN hT hmc hms hD rc22 hr22 v0 v1 v2 v3 v5 x2 h3)
              · exact kj_sub [1, 2, 3, 4, 6, 0] rfl (t_L_areOrdered_b94 hC hN hT hmc hms hD rc22 hr22 v0 v1 v2 v3 v5 x2 h3)
          · exact kj_sub [1, 2, 3, 4, 6, 0] rfl (t_L_areOrdered_b98 hC hN hT hmc hms hD rc22 hr22 v0 v1 v2 v3 v5 x2 h1)
set_option maxHeartbeats 4000000 in
set_option maxRecDepth 100000 in
theorem t_L_areOrdered_L22 {X : KX} (hC : kC X RL cL_areOrdered 7 (some .boolean)) (hN : (xme X).name = yL_areOrdered.name) (hT : kT0 X) (hmc : xmc X = 0) (hms : xms X = 0) (hD : xD X = 3) : ∀ (n : Nat) (v0 : Nat) (v1 : Nat) (v2 : Nat) (v3 : Int32) (v4 : Int32) (v5 : Int32) (h : KH), kJ X (fun x : Int32 => some (.inl x)) 7 0 0 [(0, .inr (.inr (some v0))), (1, .inr (.inr (some v1))), (2, .inr (.inr (some v2))), (3, .inl v3), (4, .inl v4), (5, .inl v5)] [] 22 h (L_areOrdered_L22  n v0 v1 v2 v3 v4 v5 h) := by
  intro n
  induction n with
  | zero => intro v0 v1 v2 v3 v4 v5 h; exact kj_none
  | succ n ih => intro v0 v1 v2 v3 v4 v5 h; exact t_L_areOrdered_b22 hC hN hT hmc hms hD (L_areOrdered_L22  n) ih v0 v1 v2 v3 v4 v5 h
set_option maxHeartbeats 4000000 in
set_option maxRecDepth 100000 in
theorem t_L_areOrdered_b17 {X : KX} (hC : kC X RL cL_areOrdered 7 (some .boolean)) (hN : (xme X).name = yL_areOrdered.name) (hT : kT0 X) (hmc : xmc X = 0) (hms : xms X = 0) (hD : xD X = 3) (v0 : Nat) (v1 : Nat) (v2 : Nat) (v3 : Int32) (s0 : Int32) (h : KH) : kJ X (fun x : Int32 => some (.inl x)) 7 0 0 [(0, .inr (.inr (some v0))), (1, .inr (.inr (some v1))), (2, .inr (.inr (some v2))), (3, .inl v3)] [.inl s0] 17 h (L_areOrdered_b17  v0 v1 v2 v3 s0 h) := by
  unfold L_areOrdered_b17
  refine kj_istore (L' := [(4, .inl s0), (0, .inr (.inr (some v0))), (1, .inr (.inr (some v1))), (2, .inr (.inr (some v2))), (3, .inl v3)]) hC dL_areOrdered_17 (by decide) rfl ?_
  refine kj_iconst (v := 0) hC dL_areOrdered_19 (by decide) ?_
  refine kj_istore (L' := [(5, .inl 0), (4, .inl s0), (0, .inr (.inr (some v0))), (1, .inr (.inr (some v1))), (2, .inr (.inr (some v2))), (3, .inl v3)]) hC dL_areOrdered_20 (by decide) rfl ?_
  exact kj_sub [2, 3, 4, 5, 1, 0] rfl (t_L_areOrdered_L22 hC hN hT hmc hms hD  kF v0 v1 v2 v3 s0 0 h)
set_option maxHeartbeats 4000000 in
set_option maxRecDepth 100000 in
theorem t_L_areOrdered (p0 : Nat) (p1 : Nat) (p2 : Nat) (h : KH) : kM yL_areOrdered cL_areOrdered 7 (some .boolean) 3 0 0 (fun x : Int32 => some (.inl x)) [.inr (.inr (some p0)), .inr (.inr (some p1)), .inr (.inr (some p2))] h (f_L_areOrdered p0 p1 p2 h) := by
  refine kM_of RL (by decide) rfl (Nat.le_of_ble_eq_true rfl) [(0, .inr (.inr (some p0))), (1, .inr (.inr (some p1))), (2, .inr (.inr (some p2)))] rfl (fun X hC hN hT hmc hms hD => ?_)
  unfold f_L_areOrdered
  refine kj_iconst (v := 0) hC dL_areOrdered_0 (by decide) ?_
  refine kj_istoren (L' := [(3, .inl 0), (0, .inr (.inr (some p0))), (1, .inr (.inr (some p1))), (2, .inr (.inr (some p2)))]) hC dL_areOrdered_1 rfl (by decide) rfl ?_
  refine kj_aloadn hC 1 dL_areOrdered_2 rfl rfl ?_
  refine kj_ghost (n := 0) ?_
  refine kj_invV (ci := 9) (q := (RX9, TX9, 17)) (as := []) (rest := []) hC hT dL_areOrdered_3 kw752 ky_X9_plates ky2_X9_plates rfl rfl (t_X9_plates p0 (sX h (0))) rfl rfl (Nat.le_of_ble_eq_true rfl) ⟨by rw [hD]; decide, by decide⟩ ⟨by rw [hmc]; exact Nat.le_of_ble_eq_true rfl, by rw [hms]; exact Nat.le_of_ble_eq_true rfl⟩ (fun x1 h1 => ?_)
  refine kj_norm (st' := [.inl x1]) (c' := 0) (z' := 0) rfl rfl rfl ?_
  refine kj_aloadn hC 3 dL_areOrdered_6 rfl rfl ?_
  refine kj_iconst (v := 2) hC dL_areOrdered_7 (by decide) ?_
  refine kj_gAIc (c := 31) hC rfl dL_areOrdered_8 (fun x2 => ?_)
  refine kj_icmp_ne (tgt := 16) hC dL_areOrdered_9 (by decide) (fun q1 => ?_) (fun q1 => ?_)
  · refine kj_iconst (v := 1) hC dL_areOrdered_12 (by decide) ?_
    refine kj_goto (tgt := 17) hC dL_areOrdered_13 (by decide) ?_
    exact kj_sub [1, 2, 3, 0] rfl (t_L_areOrdered_b17 hC hN hT hmc hms hD  p0 p1 p2 0 1 h1)
  · refine kj_iconst (v := 0) hC dL_areOrdered_16 (by decide) ?_
    exact kj_sub [1, 2, 3, 0] rfl (t_L_areOrdered_b17 hC hN hT hmc hms hD  p0 p1 p2 0 0 h1)
set_option maxHeartbeats 4000000 in
set_option maxRecDepth 100000 in
theorem t_L_cost_b101 {X : KX} (hC : kC X RL cL_cost 7 (some .int)) (hN : (xme X).name = yL_cost.name) (hT : kT0 X) (hmc : xmc X = 0) (hms : xms X = 0) (hD : xD X = 2) (s0 : Int32) (h : KH) : kJ X (fun x : Int32 => some (.inl x)) 7 0 0 [] [.inl s0] 101 h (L_cost_b101  s0 h) := by
  unfold L_cost_b101
  refine kj_fin hmc hms ?_
  exact kj_ireturn hC dL_cost_101
set_option maxHeartbeats 4000000 in
set_option maxRecDepth 100000 in
theorem t_L_cost_b85 {X : KX} (hC : kC X RL cL_cost 7 (some .int)) (hN : (xme X).name = yL_cost.name) (hT : kT0 X) (hmc : xmc X = 0) (hms : xms X = 0) (hD : xD X = 2) (v1 : Int32) (v2 : Int32) (v3 : Int32) (h : KH) : kJ X (fun x : Int32 => some (.inl x)) 7 0 0 [(1, .inl v1), (2, .inl v2), (3, .inl v3)] [] 85 h (L_cost_b85  v1 v2 v3 h) := by
  unfold L_cost_b85
  refine kj_iloadn hC 0 dL_cost_85 rfl rfl ?_
  refine kj_invS (as := [.inl v1]) (rest := []) hC hT dL_cost_86 kw211 ky_L_size ky2_L_size (t_L_size v1 h) rfl rfl (Nat.le_of_ble_eq_true rfl) ⟨by rw [hD]; decide, by decide⟩ ⟨by rw [hmc]; exact Nat.le_of_ble_eq_true rfl, by rw [hms]; exact Nat.le_of_ble_eq_true rfl⟩ (fun x1 h1 => ?_)
  refine kj_norm (st' := [.inl x1]) (c' := 0) (z' := 0) rfl rfl rfl ?_
  refine kj_iloadn hC 1 dL_cost_89 rfl rfl ?_
  refine kj_invS (as := [.inl v2]) (rest := [.inl x1]) hC hT dL_cost_90 kw211 ky_L_size ky2_L_size (t_L_size v2 h1) rfl rfl (Nat.le_of_ble_eq_true rfl) ⟨by rw [hD]; decide, by decide⟩ ⟨by rw [hmc]; exact Nat.le_of_ble_eq_true rfl, by rw [hms]; exact Nat.le_of_ble_eq_true rfl⟩ (fun x2 h2 => ?_)
  refine kj_norm (st' := [.inl x2, .inl x1]) (c' := 0) (z' := 0) rfl rfl rfl ?_
  refine kj_icmp_ne (tgt := 100) hC dL_cost_93 (by decide) (fun q1 => ?_) (fun q1 => ?_)
  · refine kj_iloadn hC 2 dL_cost_96 rfl rfl ?_
    refine kj_goto (tgt := 101) hC dL_cost_97 (by decide) ?_
    exact kj_sub [] rfl (t_L_cost_b101 hC hN hT hmc hms hD  v3 h2)
  · refine kj_iconst (v := (-1)) hC dL_cost_100 (by decide) ?_
    exact kj_sub [] rfl (t_L_cost_b101 hC hN hT hmc hms hD  ((-1)) h2)
set_option maxHeartbeats 4000000 in
set_option maxRecDepth 100000 in
theorem t_L_cost_b78 {X : KX} (hC : kC X RL cL_cost 7 (some .int)) (hN : (xme X).name = yL_cost.name) (hT : kT0 X) (hmc : xmc X = 0) (hms : xms X = 0) (hD : xD X = 2) (rc5 : Nat → Int32 → Int32 → Int32 → Int32 → KH → KO Int32) (hr5 : ∀ (v0 : Nat) (v1 : Int32) (v2 : Int32) (v3 : Int32) (v4 : Int32) (h : KH), kJ X (fun x : Int32 => some (.inl x)) 7 0 0 [(0, .inr (.inr (some v0))), (1, .inl v1), (2, .inl v2), (3, .inl v3), (4, .inl v4)] [] 5 h (rc5 v0 v1 v2 v3 v4 h)) (v0 : Nat) (v1 : Int32) (v2 : Int32) (v4 : Int32) (s0 : Int32) (h : KH) : kJ X (fun x : Int32 => some (.inl x)) 7 0 0 [(0, .inr (.inr (some v0))), (1, .inl v1), (2, .inl v2), (4, .inl v4)] [.inl s0] 78 h (L_cost_b78 rc5 v0 v1 v2 v4 s0 h) := by
  unfold L_cost_b78
  refine kj_istoren (L' := [(3, .inl s0), (0, .inr (.inr (some v0))), (1, .inl v1), (2, .inl v2), (4, .inl v4)]) hC dL_cost_78 rfl (by decide) rfl ?_
  refine kj_iinc (v := v4 + 1) (L' := [(4, .inl (v4 + 1)), (3, .inl s0), (0, .inr (.inr (some v0))), (1, .inl v1), (2, .inl v2)]) hC 4 dL_cost_79 rfl rfl (by decide) rfl ?_
  refine kj_goto (tgt := 5) hC dL_cost_82 (by decide) ?_
  exact kj_sub [2, 3, 4, 1, 0] rfl (hr5 v0 v1 v2 s0 (v4 + 1) h)
set_option maxHeartbeats 4000000 in
set_option maxRecDepth 100000 in
theorem t_L_cost_b5 {X : KX} (hC : kC X RL cL_cost 7 (some .int)) (hN : (xme X).name = yL_cost.name) (hT : kT0 X) (hmc : xmc X = 0) (hms : xms X = 0) (hD : xD X = 2) (rc5 : Nat → Int32 → Int32 → Int32 → Int32 → KH → KO Int32) (hr5 : ∀ (v0 : Nat) (v1 : Int32) (v2 : Int32) (v3 : Int32) (v4 : Int32) (h : KH), kJ X (fun x : Int32 => some (.inl x)) 7 0 0 [(0, .inr (.inr (some v0))), (1, .inl v1), (2, .inl v2), (3, .inl v3), (4, .inl v4)] [] 5 h (rc5 v0 v1 v2 v3 v4 h)) (v0 : Nat) (v1 : Int32) (v2 : Int32) (v3 : Int32) (v4 : Int32) (h : KH) : kJ X (fun x : Int32 => some (.inl x)) 7 0 0 [(0, .inr (.inr (some v0))), (1, .inl v1), (2, .inl v2), (3, .inl v3), (4, .inl v4)] [] 5 h (L_cost_b5 rc5 v0 v1 v2 v3 v4 h) := by
  unfold L_cost_b5
  refine kj_iload hC 4 dL_cost_5 rfl ?_
  refine kj_iloadn hC 1 dL_cost_7 rfl rfl ?_
  refine kj_invS (as := [.inl v1]) (rest := [.inl v4]) hC hT dL_cost_8 kw211 ky_L_size ky2_L_size (t_L_size v1 h) rfl rfl (Nat.le_of_ble_eq_true rfl) ⟨by rw [hD]; decide, by decide⟩ ⟨by rw [hmc]; exact Nat.le_of_ble_eq_true rfl, by rw [hms]; exact Nat.le_of_ble_eq_true rfl⟩ (fun x1 h1 => ?_)
  refine kj_norm (st' := [.inl x1, .inl v4]) (c' := 0) (z' := 0) rfl rfl rfl ?_
  refine kj_icmp_ge (tgt := 85) hC dL_cost_11 (by decide) (fun q1 => ?_) (fun q1 => ?_)
  · exact kj_sub [1, 2, 3] rfl (t_L_cost_b85 hC hN hT hmc hms hD  v1 v2 v3 h1)
  · refine kj_iloadn hC 3 dL_cost_14 rfl rfl ?_
    refine kj_if_lt (tgt := 85) hC dL_cost_15 (by decide) (fun q2 => ?_) (fun q2 => ?_)
    · exact kj_sub [1, 2, 3] rfl (t_L_cost_b85 hC hN hT hmc hms hD  v1 v2 v3 h1)
    · refine kj_iloadn hC 1 dL_cost_18 rfl rfl ?_
      refine kj_iload hC 4 dL_cost_19 rfl ?_
      refine kj_invS (as := [.inl v1, .inl v4]) (rest := []) hC hT dL_cost_21 kw587 ky_L_sign ky2_L_sign (t_L_sign v1 v4 h1) rfl rfl (Nat.le_of_ble_eq_true rfl) ⟨by rw [hD]; decide, by decide⟩ ⟨by rw [hmc]; exact Nat.le_of_ble_eq_true rfl, by rw [hms]; exact Nat.le_of_ble_eq_true rfl⟩ (fun x2 h2 => ?_)
      refine kj_norm (st' := [.inl x2]) (c' := 0) (z' := 0) rfl rfl rfl ?_
      refine kj_istore (L' := [(5, .inl x2), (0, .inr (.inr (some v0))), (1, .inl v1), (2, .inl v2), (3, .inl v3), (4, .inl v4)]) hC dL_cost_24 (by decide) rfl ?_
      refine kj_iloadn hC 3 dL_cost_26 rfl rfl ?_
      refine kj_iload hC 5 dL_cost_27 rfl ?_
      refine kj_invS (as := [.inl v2, .inl v4]) (rest := []) hC hT dL_cost_29 kw587 ky_L_sign ky2_L_sign (t_L_sign v2 v4 h2) rfl rfl (Nat.le_of_ble_eq_true rfl) ⟨by rw [hD]; decide, by decide⟩ ⟨by rw [hmc]; exact Nat.le_of_ble_eq_true rfl, by rw [hms]; exact Nat.le_of_ble_eq_true rfl⟩ (fun x3 h3 => ?_)
      refine kj_norm (st' := [.inl x3]) (c' := 0) (z' := 0) rfl rfl rfl ?_
      refine kj_istore (L' := [(6, .inl x3), (5, .inl x2), (0, .inr (.inr (some v0))), (1, .inl v1), (2, .inl v2), (3, .inl v3), (4, .inl v4)]) hC dL_cost_32 (by decide) rfl ?_
      refine kj_iload hC 1 dL_cost_34 rfl ?_
      refine kj_iload hC 0 dL_cost_36 rfl ?_
      refine kj_icmp_ne (tgt := 45) hC dL_cost_38 (by decide) (fun q3 => ?_) (fun q3 => ?_)
      · refine kj_iloadn hC 5 dL_cost_41 rfl rfl ?_
        refine kj_goto (tgt := 78) hC dL_cost_42 (by decide) ?_
        exact kj_sub [2, 3, 4, 6] rfl (t_L_cost_b78 hC hN hT hmc hms hD rc5 hr5 v0 v1 v2 v4 v3 h3)
      · refine kj_iload hC 1 dL_cost_45 rfl ?_
        refine kj_bipush (v := 14) hC dL_cost_47 (by decide) ?_
        refine kj_icmp_ne (tgt := 58) hC dL_cost_49 (by decide) (fun q4 => ?_) (fun q4 => ?_)
        · refine kj_iloadn hC 5 dL_cost_52 rfl rfl ?_
          refine kj_iconst (v := 2) hC dL_cost_53 (by decide) ?_
          refine kj_iadd hC dL_cost_54 ?_
          refine kj_goto (tgt := 78) hC dL_cost_55 (by decide) ?_
          exact kj_sub [2, 3, 4, 6] rfl (t_L_cost_b78 hC hN hT hmc hms hD rc5 hr5 v0 v1 v2 v4 (v3 + (2 : Int32)) h3)
        · refine kj_aloadn hC 2 dL_cost_58 rfl rfl ?_
          refine kj_iload hC 1 dL_cost_59 rfl ?_
          refine kj_gAIc (c := 31) hC rfl dL_cost_61 (fun x4 => ?_)
          refine kj_iload hC 0 dL_cost_62 rfl ?_
          refine kj_ishr hC dL_cost_64 ?_
          refine kj_iconst (v := 1) hC dL_cost_65 (by decide) ?_
          refine kj_iand hC dL_cost_66 ?_
          refine kj_iconst (v := 1) hC dL_cost_67 (by decide) ?_
          refine kj_icmp_ne (tgt := 77) hC dL_cost_68 (by decide) (fun q5 => ?_) (fun q5 => ?_)
          · refine kj_iloadn hC 5 dL_cost_71 rfl rfl ?_
            refine kj_iconst (v := 1) hC dL_cost_72 (by decide) ?_
            refine kj_iadd hC dL_cost_73 ?_
            refine kj_goto (tgt := 78) hC dL_cost_74 (by decide) ?_
            exact kj_sub [2, 3, 4, 6] rfl (t_L_cost_b78 hC hN hT hmc hms hD rc5 hr5 v0 v1 v2 v4 (v3 + (1 : Int32)) h3)
          · refine kj_iconst (v := (-1)) hC dL_cost_77 (by decide) ?_
            exact kj_sub [2, 3, 4, 6] rfl (t_L_cost_b78 hC hN hT hmc hms hD rc5 hr5 v0 v1 v2 v4 ((-1)) h3)
set_option maxHeartbeats 4000000 in
set_option maxRecDepth 100000 in
theorem t_L_cost_L5 {X : KX} (hC : kC X RL cL_cost 7 (some .int)) (hN : (xme X).name = yL_cost.name) (hT : kT0 X) (hmc : xmc X = 0) (hms : xms X = 0) (hD : xD X = 2) : ∀ (n : Nat) (v0 : Nat) (v1 : Int32) (v2 : Int32) (v3 : Int32) (v4 : Int32) (h : KH), kJ X (fun x : Int32 => some (.inl x)) 7 0 0 [(0, .inr (.inr (some v0))), (1, .inl v1), (2, .inl v2), (3, .inl v3), (4, .inl v4)] [] 5 h (L_cost_L5  n v0 v1 v2 v3 v4 h) := by
  intro n
  induction n with
  | zero => intro v0 v1 v2 v3 v4 h; exact kj_none
  | succ n ih => intro v0 v1 v2 v3 v4 h; exact t_L_cost_b5 hC hN hT hmc hms hD (L_cost_L5  n) ih v0 v1 v2 v3 v4 h
set_option maxHeartbeats 4000000 in
set_option maxRecDepth 100000 in
theorem t_L_cost (p0 : Nat) (p1 : Int32) (p2 : Int32) (h : KH) : kM yL_cost cL_cost 7 (some .int) 2 0 0 (fun x : Int32 => some (.inl x)) [.inr (.inr (some p0)), .inl p1, .inl p2] h (f_L_cost p0 p1 p2 h) := by
  refine kM_of RL (by decide) rfl (Nat.le_of_ble_eq_true rfl) [(0, .inr (.inr (some p0))), (1, .inl p1), (2, .inl p2)] rfl (fun X hC hN hT hmc hms hD => ?_)
  unfold f_L_cost
  refine kj_iconst (v := 0) hC dL_cost_0 (by decide) ?_
  refine kj_istoren (L' := [(3, .inl 0), (0, .inr (.inr (some p0))), (1, .inl p1), (2, .inl p2)]) hC dL_cost_1 rfl (by decide) rfl ?_
  refine kj_iconst (v := 0) hC dL_cost_2 (by decide) ?_
  refine kj_istore (L' := [(4, .inl 0), (3, .inl 0), (0, .inr (.inr (some p0))), (1, .inl p1), (2, .inl p2)]) hC dL_cost_3 (by decide) rfl ?_
  exact kj_sub [2, 3, 4, 1, 0] rfl (t_L_cost_L5 hC hN hT hmc hms hD  kF p0 p1 p2 0 0 h)
set_option maxHeartbeats 4000000 in
set_option maxRecDepth 100000 in
theorem t_L_isReading_b169 {X : KX} (hC : kC X RL cL_isReading 13 (some .boolean)) (hN : (xme X).name = yL_isReading.name) (hT : kT0 X) (hmc : xmc X = 0) (hms : xms X = 0) (hD : xD X = 4) (s0 : Int32) (h : KH) : kJ X (fun x : Int32 => some (.inl x)) 13 0 0 [] [.inl s0] 169 h (L_isReading_b169  s0 h) := by
  unfold L_isReading_b169
  refine kj_fin hmc hms ?_
  exact kj_zreturn hC dL_isReading_169
set_option maxHeartbeats 4000000 in
set_option maxRecDepth 100000 in
theorem t_L_isReading_b168 {X : KX} (hC : kC X RL cL_isReading 13 (some .boolean)) (hN : (xme X).name = yL_isReading.name) (hT : kT0 X) (hmc : xmc X = 0) (hms : xms X = 0) (hD : xD X = 4)  (h : KH) : kJ X (fun x : Int32 => some (.inl x)) 13 0 0 [] [] 168 h (L_isReading_b168   h) := by
  unfold L_isReading_b168
  refine kj_iconst (v := 0) hC dL_isReading_168 (by decide) ?_
  exact kj_sub [] rfl (t_L_isReading_b169 hC hN hT hmc hms hD  0 h)
set_option maxHeartbeats 4000000 in
set_option maxRecDepth 100000 in
theorem t_L_isReading_b161 {X : KX} (hC : kC X RL cL_isReading 13 (some .boolean)) (hN : (xme X).name = yL_isReading.name) (hT : kT0 X) (hmc : xmc X = 0) (hms : xms X = 0) (hD : xD X = 4) (s0 : Int32) (s1 : Int32) (h : KH) : kJ X (fun x : Int32 => some (.inl x)) 13 0 0 [] [.inl s0, .inl s1] 161 h (L_isReading_b161  s0 s1 h) := by
  unfold L_isReading_b161
  refine kj_icmp_ne (tgt := 168) hC dL_isReading_161 (by decide) (fun q1 => ?_) (fun q1 => ?_)
  · refine kj_iconst (v := 1) hC dL_isReading_164 (by decide) ?_
    refine kj_goto (tgt := 169) hC dL_isReading_165 (by decide) ?_
    exact kj_sub [] rfl (t_L_isReading_b169 hC hN hT hmc hms hD  1 h)
  · exact kj_sub [] rfl (t_L_isReading_b168 hC hN hT hmc hms hD   h)
set_option maxHeartbeats 4000000 in
set_option maxRecDepth 100000 in
theorem t_L_isReading_b119 {X : KX} (hC : kC X RL cL_isReading 13 (some .boolean)) (hN : (xme X).name = yL_isReading.name) (hT : kT0 X) (hmc : xmc X = 0) (hms : xms X = 0) (hD : xD X = 4) (v0 : Nat) (v3 : Nat) (v6 : Int32) (v7 : Int32) (v9 : Int32) (h : KH) : kJ X (fun x : Int32 => some (.inl x)) 13 0 0 [(0, .inr (.inr (some v0))), (3, .inr (.inr (some v3))), (6, .inl v6), (7, .inl v7), (9, .inl v9)] [] 119 h (L_isReading_b119  v0 v3 v6 v7 v9 h) := by
  unfold L_isReading_b119
  refine kj_iload hC 4 dL_isReading_119 rfl ?_
  refine kj_if_eq (tgt := 168) hC dL_isReading_121 (by decide) (fun q1 => ?_) (fun q1 => ?_)
  · exact kj_sub [] rfl (t_L_isReading_b168 hC hN hT hmc hms hD   h)
  · refine kj_aloadn hC 0 dL_isReading_124 rfl rfl ?_
    refine kj_iload hC 2 dL_isReading_125 rfl ?_
    refine kj_ghost (n := 0) ?_
    refine kj_invV (ci := 9) (q := (RX9, TX9, 17)) (as := [.inl v6]) (rest := []) hC hT dL_isReading_127 kw629 ky_X9_plateOf ky2_X9_plateOf rfl rfl (t_zX9_plateOf v0 v6 (sX h (0))) rfl rfl (Nat.le_of_ble_eq_true rfl) ⟨by rw [hD]; decide, by decide⟩ ⟨by rw [hmc]; exact Nat.le_of_ble_eq_true rfl, by rw [hms]; exact Nat.le_of_ble_eq_true rfl⟩ (fun x1 h1 => ?_)
    refine kj_norm (st' := [.inl x1]) (c' := 0) (z' := 0) rfl rfl rfl ?_
    refine kj_aloadn hC 1 dL_isReading_130 rfl rfl ?_
    refine kj_iload hC 2 dL_isReading_131 rfl ?_
    refine kj_gAIc (c := 31) hC rfl dL_isReading_133 (fun x2 => ?_)
    refine kj_bipush (v := 19) hC dL_isReading_134 (by decide) ?_
    refine kj_iconst (v := 1) hC dL_isReading_136 (by decide) ?_
    refine kj_invS (as := [.inl x2, .inl 19, .inl 1]) (rest := [.inl x1]) hC hT dL_isReading_137 kw590 ky_L_part ky2_L_part (t_L_part x2 19 1 h1) rfl rfl (Nat.le_of_ble_eq_true rfl) ⟨by rw [hD]; decide, by decide⟩ ⟨by rw [hmc]; exact Nat.le_of_ble_eq_true rfl, by rw [hms]; exact Nat.le_of_ble_eq_true rfl⟩ (fun x3 h2 => ?_)
    refine kj_norm (st' := [.inl x3, .inl x1]) (c' := 0) (z' := 0) rfl rfl rfl ?_
    refine kj_iconst (v := 1) hC dL_isReading_140 (by decide) ?_
    refine kj_icmp_ne (tgt := 159) hC dL_isReading_141 (by decide) (fun q2 => ?_) (fun q2 => ?_)
    · refine kj_aloadn hC 1 dL_isReading_144 rfl rfl ?_
      refine kj_iload hC 2 dL_isReading_145 rfl ?_
      refine kj_gAIc (c := 31) hC rfl dL_isReading_147 (fun x4 => ?_)
      refine kj_bipush (v := 20) hC dL_isReading_148 (by decide) ?_
      refine kj_iconst (v := 4) hC dL_isReading_150 (by decide) ?_
      refine kj_invS (as := [.inl x4, .inl 20, .inl 4]) (rest := [.inl x1]) hC hT dL_isReading_151 kw590 ky_L_part ky2_L_part (t_L_part x4 20 4 h2) rfl rfl (Nat.le_of_ble_eq_true rfl) ⟨by rw [hD]; decide, by decide⟩ ⟨by rw [hmc]; exact Nat.le_of_ble_eq_true rfl, by rw [hms]; exact Nat.le_of_ble_eq_true rfl⟩ (fun x5 h3 => ?_)
      refine kj_norm (st' := [.inl x5, .inl x1]) (c' := 0) (z' := 0) rfl rfl rfl ?_
      refine kj_iconst (v := 1) hC dL_isReading_154 (by decide) ?_
      refine kj_isub hC dL_isReading_155 ?_
      refine kj_goto (tgt := 161) hC dL_isReading_156 (by decide) ?_
      exact kj_sub [] rfl (t_L_isReading_b161 hC hN hT hmc hms hD  (x5 - (1 : Int32)) x1 h3)
    · refine kj_iload hC 3 dL_isReading_159 rfl ?_
      exact kj_sub [] rfl (t_L_isReading_b161 hC hN hT hmc hms hD  v7 x1 h2)
set_option maxHeartbeats 4000000 in
set_option maxRecDepth 100000 in
theorem t_L_isReading_b111 {X : KX} (hC : kC X RL cL_isReading 13 (some .boolean)) (hN : (xme X).name = yL_isReading.name) (hT : kT0 X) (hmc : xmc X = 0) (hms : xms X = 0) (hD : xD X = 4) (rc12 : Nat → Nat → Nat → Nat → Nat → Nat → Int32 → Int32 → Int32 → Int32 → Int32 → KH → KO Int32) (hr12 : ∀ (v0 : Nat) (v1 : Nat) (v2 : Nat) (v3 : Nat) (v4 : Nat) (v5 : Nat) (v6 : Int32) (v7 : Int32) (v8 : Int32) (v9 : Int32) (v10 : Int32) (h : KH), kJ X (fun x : Int32 => some (.inl x)) 13 0 0 [(0, .inr (.inr (some v0))), (1, .inr (.inr (some v1))), (2, .inr (.inr (some v2))), (3, .inr (.inr (some v3))), (4, .inr (.inr (some v4))), (5, .inr (.inr (some v5))), (6, .inl v6), (7, .inl v7), (8, .inl v8), (9, .inl v9), (10, .inl v10)] [] 12 h (rc12 v0 v1 v2 v3 v4 v5 v6 v7 v8 v9 v10 h)) (v0 : Nat) (v1 : Nat) (v2 : Nat) (v3 : Nat) (v4 : Nat) (v5 : Nat) (v6 : Int32) (v7 : Int32) (v9 : Int32) (v10 : Int32) (s0 : Int32) (h : KH) : kJ X (fun x : Int32 => some (.inl x)) 13 0 0 [(0, .inr (.inr (some v0))), (1, .inr (.inr (some v1))), (2, .inr (.inr (some v2))), (3, .inr (.inr (some v3))), (4, .inr (.inr (some v4))), (5, .inr (.inr (some v5))), (6, .inl v6), (7, .inl v7), (9, .inl v9), (10, .inl v10)] [.inl s0] 111 h (L_isReading_b111 rc12 v0 v1 v2 v3 v4 v5 v6 v7 v9 v10 s0 h) := by
  unfold L_isReading_b111
  refine kj_istore (L' := [(8, .inl s0), (0, .inr (.inr (some v0))), (1, .inr (.inr (some v1))), (2, .inr (.inr (some v2))), (3, .inr (.inr (some v3))), (4, .inr (.inr (some v4))), (5, .inr (.inr (some v5))), (6, .inl v6), (7, .inl v7), (9, .inl v9), (10, .inl v10)]) hC dL_isReading_111 (by decide) rfl ?_
  refine kj_iinc (v := v10 + 1) (L' := [(10, .inl (v10 + 1)), (8, .inl s0), (0, .inr (.inr (some v0))), (1, .inr (.inr (some v1))), (2, .inr (.inr (some v2))), (3, .inr (.inr (some v3))), (4, .inr (.inr (some v4))), (5, .inr (.inr (some v5))), (6, .inl v6), (7, .inl v7), (9, .inl v9)]) hC 10 dL_isReading_113 rfl rfl (by decide) rfl ?_
  refine kj_goto (tgt := 12) hC dL_isReading_116 (by decide) ?_
  exact kj_sub [2, 3, 4, 5, 6, 7, 8, 9, 1, 10, 0] rfl (hr12 v0 v1 v2 v3 v4 v5 v6 v7 s0 v9 (v10 + 1) h)
set_option maxHeartbeats 4000000 in
set_option maxRecDepth 100000 in
theorem t_L_isReading_b95 {X : KX} (hC : kC X RL cL_isReading 13 (some .boolean)) (hN : (xme X).name = yL_isReading.name) (hT : kT0 X) (hmc : xmc X = 0) (hms : xms X = 0) (hD : xD X = 4) (rc12 : Nat → Nat → Nat → Nat → Nat → Nat → Int32 → Int32 → Int32 → Int32 → Int32 → KH → KO Int32) (hr12 : ∀ (v0 : Nat) (v1 : Nat) (v2 : Nat) (v3 : Nat) (v4 : Nat) (v5 : Nat) (v6 : Int32) (v7 : Int32) (v8 : Int32) (v9 : Int32) (v10 : Int32) (h : KH), kJ X (fun x : Int32 => some (.inl x)) 13 0 0 [(0, .inr (.inr (some v0))), (1, .inr (.inr (some v1))), (2, .inr (.inr (some v2))), (3, .inr (.inr (some v3))), (4, .inr (.inr (some v4))), (5, .inr (.inr (some v5))), (6, .inl v6), (7, .inl v7), (8, .inl v8), (9, .inl v9), (10, .inl v10)] [] 12 h (rc12 v0 v1 v2 v3 v4 v5 v6 v7 v8 v9 v10 h)) (v0 : Nat) (v1 : Nat) (v2 : Nat) (v3 : Nat) (v4 : Nat) (v5 : Nat) (v6 : Int32) (v8 : Int32) (v9 : Int32) (v10 : Int32) (v11 : Int32) (v12 : Int32) (s0 : Int32) (h : KH) : kJ X (fun x : Int32 => some (.inl x)) 13 0 0 [(0, .inr (.inr (some v0))), (1, .inr (.inr (some v1))), (2, .inr (.inr (some v2))), (3, .inr (.inr (some v3))), (4, .inr (.inr (some v4))), (5, .inr (.inr (some v5))), (6, .inl v6), (8, .inl v8), (9, .inl v9), (10, .inl v10), (11, .inl v11), (12, .inl v12)] [.inl s0] 95 h (L_isReading_b95 rc12 v0 v1 v2 v3 v4 v5 v6 v8 v9 v10 v11 v12 s0 h) := by
  unfold L_isReading_b95
  refine kj_istore (L' := [(7, .inl s0), (0, .inr (.inr (some v0))), (1, .inr (.inr (some v1))), (2, .inr (.inr (some v2))), (3, .inr (.inr (some v3))), (4, .inr (.inr (some v4))), (5, .inr (.inr (some v5))), (6, .inl v6), (8, .inl v8), (9, .inl v9), (10, .inl v10), (11, .inl v11), (12, .inl v12)]) hC dL_isReading_95 (by decide) rfl ?_
  refine kj_iload hC 0 dL_isReading_97 rfl ?_
  refine kj_iload hC 11 dL_isReading_99 rfl ?_
  refine kj_icmp_ne (tgt := 109) hC dL_isReading_101 (by decide) (fun q1 => ?_) (fun q1 => ?_)
  · refine kj_iload hC 12 dL_isReading_104 rfl ?_
    refine kj_goto (tgt := 111) hC dL_isReading_106 (by decide) ?_
    exact kj_sub [1, 2, 3, 4, 5, 6, 7, 0, 9, 10] rfl (t_L_isReading_b111 hC hN hT hmc hms hD rc12 hr12 v0 v1 v2 v3 v4 v5 v6 s0 v9 v10 v12 h)
  · refine kj_iload hC 8 dL_isReading_109 rfl ?_
    exact kj_sub [1, 2, 3, 4, 5, 6, 7, 0, 9, 10] rfl (t_L_isReading_b111 hC hN hT hmc hms hD rc12 hr12 v0 v1 v2 v3 v4 v5 v6 s0 v9 v10 v8 h)
set_option maxHeartbeats 4000000 in
set_option maxRecDepth 100000 in
theorem t_L_isReading_b93 {X : KX} (hC : kC X RL cL_isReading 13 (some .boolean)) (hN : (xme X).name = yL_isReading.name) (hT : kT0 X) (hmc : xmc X = 0) (hms : xms X = 0) (hD : xD X = 4) (rc12 : Nat → Nat → Nat → Nat → Nat → Nat → Int32 → Int32 → Int32 → Int32 → Int32 → KH → KO Int32) (hr12 : ∀ (v0 : Nat) (v1 : Nat) (v2 : Nat) (v3 : Nat) (v4 : Nat) (v5 : Nat) (v6 : Int32) (v7 : Int32) (v8 : Int32) (v9 : Int32) (v10 : Int32) (h : KH), kJ X (fun x : Int32 => some (.inl x)) 13 0 0 [(0, .inr (.inr (some v0))), (1, .inr (.inr (some v1))), (2, .inr (.inr (some v2))), (3, .inr (.inr (some v3))), (4, .inr (.inr (some v4))), (5, .inr (.inr (some v5))), (6, .inl v6), (7, .inl v7), (8, .inl v8), (9, .inl v9), (10, .inl v10)] [] 12 h (rc12 v0 v1 v2 v3 v4 v5 v6 v7 v8 v9 v10 h)) (v0 : Nat) (v1 : Nat) (v2 : Nat) (v3 : Nat) (v4 : Nat) (v5 : Nat) (v6 : Int32) (v7 : Int32) (v8 : Int32) (v9 : Int32) (v10 : Int32) (v11 : Int32) (v12 : Int32) (h : KH) : kJ X (fun x : Int32 => some (.inl x)) 13 0 0 [(0, .inr (.inr (some v0))), (1, .inr (.inr (some v1))), (2, .inr (.inr (some v2))), (3, .inr (.inr (some v3))), (4, .inr (.inr (some v4))), (5, .inr (.inr (some v5))), (6, .inl v6), (7, .inl v7), (8, .inl v8), (9, .inl v9), (10, .inl v10), (11, .inl v11), (12, .inl v12)] [] 93 h (L_isReading_b93 rc12 v0 v1 v2 v3 v4 v5 v6 v7 v8 v9 v10 v11 v12 h) := by
  unfold L_isReading_b93
  refine kj_iload hC 7 dL_isReading_93 rfl ?_
  exact kj_sub [0, 1, 2, 3, 4, 5, 6, 8, 9, 10, 11, 12] rfl (t_L_isReading_b95 hC hN hT hmc hms hD rc12 hr12 v0 v1 v2 v3 v4 v5 v6 v8 v9 v10 v11 v12 v7 h)
set_option maxHeartbeats 4000000 in
set_option maxRecDepth 100000 in
theorem t_L_isReading_b88 {X : KX} (hC : kC X RL cL_isReading 13 (some .boolean)) (hN : (xme X).name = yL_isReading.name) (hT : kT0 X) (hmc : xmc X = 0) (hms : xms X = 0) (hD : xD X = 4) (rc12 : Nat → Nat → Nat → Nat → Nat → Nat → Int32 → Int32 → Int32 → Int32 → Int32 → KH → KO Int32) (hr12 : ∀ (v0 : Nat) (v1 : Nat) (v2 : Nat) (v3 : Nat) (v4 : Nat) (v5 : Nat) (v6 : Int32) (v7 : Int32) (v8 : Int32) (v9 : Int32) (v10 : Int32) (h : KH), kJ X (fun x : Int32 => some (.inl x)) 13 0 0 [(0, .inr (.inr (some v0))), (1, .inr (.inr (some v1))), (2, .inr (.inr (some v2))), (3, .inr (.inr (some v3))), (4, .inr (.inr (some v4))), (5, .inr (.inr (some v5))), (6, .inl v6), (7, .inl v7), (8, .inl v8), (9, .inl v9), (10, .inl v10)] [] 12 h (rc12 v0 v1 v2 v3 v4 v5 v6 v7 v8 v9 v10 h)) (v0 : Nat) (v1 : Nat) (v2 : Nat) (v3 : Nat) (v4 : Nat) (v5 : Nat) (v6 : Int32) (v8 : Int32) (v9 : Int32) (v10 : Int32) (v11 : Int32) (v12 : Int32) (h : KH) : kJ X (fun x : Int32 => some (.inl x)) 13 0 0 [(0, .inr (.inr (some v0))), (1, .inr (.inr (some v1))), (2, .inr (.inr (some v2))), (3, .inr (.inr (some v3))), (4, .inr (.inr (some v4))), (5, .inr (.inr (some v5))), (6, .inl v6), (8, .inl v8), (9, .inl v9), (10, .inl v10), (11, .inl v11), (12, .inl v12)] [] 88 h (L_isReading_b88 rc12 v0 v1 v2 v3 v4 v5 v6 v8 v9 v10 v11 v12 h) := by
  unfold L_isReading_b88
  refine kj_iload hC 10 dL_isReading_88 rfl ?_
  refine kj_goto (tgt := 95) hC dL_isReading_90 (by decide) ?_
  exact kj_sub [0, 1, 2, 3, 4, 5, 6, 7, 8, 9, 10, 11] rfl (t_L_isReading_b95 hC hN hT hmc hms hD rc12 hr12 v0 v1 v2 v3 v4 v5 v6 v8 v9 v10 v11 v12 v11 h)
set_option maxHeartbeats 4000000 in
set_option maxRecDepth 100000 in
theorem t_L_isReading_b69 {X : KX} (hC : kC X RL cL_isReading 13 (some .boolean)) (hN : (xme X).name = yL_isReading.name) (hT : kT0 X) (hmc : xmc X = 0) (hms : xms X = 0) (hD : xD X = 4) (rc12 : Nat → Nat → Nat → Nat → Nat → Nat → Int32 → Int32 → Int32 → Int32 → Int32 → KH → KO Int32) (hr12 : ∀ (v0 : Nat) (v1 : Nat) (v2 : Nat) (v3 : Nat) (v4 : Nat) (v5 : Nat) (v6 : Int32) (v7 : Int32) (v8 : Int32) (v9 : Int32) (v10 : Int32) (h : KH), kJ X (fun x : Int32 => some (.inl x)) 13 0 0 [(0, .inr (.inr (some v0))), (1, .inr (.inr (some v1))), (2, .inr (.inr (some v2))), (3, .inr (.inr (some v3))), (4, .inr (.inr (some v4))), (5, .inr (.inr (some v5))), (6, .inl v6), (7, .inl v7), (8, .inl v8), (9, .inl v9), (10, .inl v10)] [] 12 h (rc12 v0 v1 v2 v3 v4 v5 v6 v7 v8 v9 v10 h)) (v0 : Nat) (v1 : Nat) (v2 : Nat) (v3 : Nat) (v4 : Nat) (v5 : Nat) (v6 : Int32) (v7 : Int32) (v8 : Int32) (v10 : Int32) (v11 : Int32) (v12 : Int32) (s0 : Int32) (h : KH) : kJ X (fun x : Int32 => some (.inl x)) 13 0 0 [(0, .inr (.inr (some v0))), (1, .inr (.inr (some v1))), (2, .inr (.inr (some v2))), (3, .inr (.inr (some v3))), (4, .inr (.inr (some v4))), (5, .inr (.inr (some v5))), (6, .inl v6), (7, .inl v7), (8, .inl v8), (10, .inl v10), (11, .inl v11), (12, .inl v12)] [.inl s0] 69 h (L_isReading_b69 rc12 v0 v1 v2 v3 v4 v5 v6 v7 v8 v10 v11 v12 s0 h) := by
  unfold L_isReading_b69
  refine kj_istore (L' := [(9, .inl s0), (0, .inr (.inr (some v0))), (1, .inr (.inr (some v1))), (2, .inr (.inr (some v2))), (3, .inr (.inr (some v3))), (4, .inr (.inr (some v4))), (5, .inr (.inr (some v5))), (6, .inl v6), (7, .inl v7), (8, .inl v8), (10, .inl v10), (11, .inl v11), (12, .inl v12)]) hC dL_isReading_69 (by decide) rfl ?_
  refine kj_iload hC 12 dL_isReading_71 rfl ?_
  refine kj_if_lt (tgt := 93) hC dL_isReading_73 (by decide) (fun q1 => ?_) (fun q1 => ?_)
  · exact kj_sub [1, 2, 3, 4, 5, 6, 7, 8, 9, 0, 10, 11, 12] rfl (t_L_isReading_b93 hC hN hT hmc hms hD rc12 hr12 v0 v1 v2 v3 v4 v5 v6 v7 v8 s0 v10 v11 v12 h)
  · refine kj_iload hC 8 dL_isReading_76 rfl ?_
    refine kj_if_lt (tgt := 88) hC dL_isReading_78 (by decide) (fun q2 => ?_) (fun q2 => ?_)
    · exact kj_sub [1, 2, 3, 4, 5, 6, 7, 9, 0, 10, 11, 12] rfl (t_L_isReading_b88 hC hN hT hmc hms hD rc12 hr12 v0 v1 v2 v3 v4 v5 v6 v8 s0 v10 v11 v12 h)
    · refine kj_iload hC 12 dL_isReading_81 rfl ?_
      refine kj_iload hC 9 dL_isReading_83 rfl ?_
      refine kj_icmp_ge (tgt := 93) hC dL_isReading_85 (by decide) (fun q3 => ?_) (fun q3 => ?_)
      · exact kj_sub [1, 2, 3, 4, 5, 6, 7, 8, 9, 0, 10, 11, 12] rfl (t_L_isReading_b93 hC hN hT hmc hms hD rc12 hr12 v0 v1 v2 v3 v4 v5 v6 v7 v8 s0 v10 v11 v12 h)
      · exact kj_sub [1, 2, 3, 4, 5, 6, 7, 9, 0, 10, 11, 12] rfl (t_L_isReading_b88 hC hN hT hmc hms hD rc12 hr12 v0 v1 v2 v3 v4 v5 v6 v8 s0 v10 v11 v12 h)
set_option maxHeartbeats 4000000 in
set_option maxRecDepth 100000 in
theorem t_L_isReading_b12 {X : KX} (hC : kC X RL cL_isReading 13 (some .boolean)) (hN : (xme X).name = yL_isReading.name) (hT : kT0 X) (hmc : xmc X = 0) (hms : xms X = 0) (hD : xD X = 4) (rc12 : Nat → Nat → Nat → Nat → Nat → Nat → Int32 → Int32 → Int32 → Int32 → Int32 → KH → KO Int32) (hr12 : ∀ (v0 : Nat) (v1 : Nat) (v2 : Nat) (v3 : Nat) (v4 : Nat) (v5 : Nat) (v6 : Int32) (v7 : Int32) (v8 : Int32) (v9 : Int32) (v10 : Int32) (h : KH), kJ X (fun x : Int32 => some (.inl x)) 13 0 0 [(0, .inr (.inr (some v0))), (1, .inr (.inr (some v1))), (2, .inr (.inr (some v2))), (3, .inr (.inr (some v3))), (4, .inr (.inr (some v4))), (5, .inr (.inr (some v5))), (6, .inl v6), (7, .inl v7), (8, .inl v8), (9, .inl v9), (10, .inl v10)] [] 12 h (rc12 v0 v1 v2 v3 v4 v5 v6 v7 v8 v9 v10 h)) (v0 : Nat) (v1 : Nat) (v2 : Nat) (v3 : Nat) (v4 : Nat) (v5 : Nat) (v6 : Int32) (v7 : Int32) (v8 : Int32) (v9 : Int32) (v10 : Int32) (h : KH) : kJ X (fun x : Int32 => some (.inl x)) 13 0 0 [(0, .inr (.inr (some v0))), (1, .inr (.inr (some v1))), (2, .inr (.inr (some v2))), (3, .inr (.inr (some v3))), (4, .inr (.inr (some v4))), (5, .inr (.inr (some v5))), (6, .inl v6), (7, .inl v7), (8, .inl v8), (9, .inl v9), (10, .inl v10)] [] 12 h (L_isReading_b12 rc12 v0 v1 v2 v3 v4 v5 v6 v7 v8 v9 v10 h) := by
  unfold L_isReading_b12
  refine kj_iload hC 10 dL_isReading_12 rfl ?_
  refine kj_aload hC 5 dL_isReading_14 rfl ?_
  refine kj_iconst (v := 2) hC dL_isReading_16 (by decide) ?_
  refine kj_gAIc (c := 31) hC rfl dL_isReading_17 (fun x1 => ?_)
  refine kj_icmp_ge (tgt := 119) hC dL_isReading_18 (by decide) (fun q1 => ?_) (fun q1 => ?_)
  · exact kj_sub [0, 3, 6, 7, 9] rfl (t_L_isReading_b119 hC hN hT hmc hms hD  v0 v3 v6 v7 v9 h)
  · refine kj_iload hC 9 dL_isReading_21 rfl ?_
    refine kj_if_eq (tgt := 119) hC dL_isReading_23 (by decide) (fun q2 => ?_) (fun q2 => ?_)
    · exact kj_sub [0, 3, 6, 7, 9] rfl (t_L_isReading_b119 hC hN hT hmc hms hD  v0 v3 v6 v7 v9 h)
    · refine kj_aloadn hC 0 dL_isReading_26 rfl rfl ?_
      refine kj_iload hC 10 dL_isReading_27 rfl ?_
      refine kj_ghost (n := 0) ?_
      refine kj_invV (ci := 9) (q := (RX9, TX9, 17)) (as := [.inl v10]) (rest := []) hC hT dL_isReading_29 kw737 ky_X9_plateAt ky2_X9_plateAt rfl rfl (t_zX9_plateAt v0 v10 (sX h (0))) rfl rfl (Nat.le_of_ble_eq_true rfl) ⟨by rw [hD]; decide, by decide⟩ ⟨by rw [hmc]; exact Nat.le_of_ble_eq_true rfl, by rw [hms]; exact Nat.le_of_ble_eq_true rfl⟩ (fun x2 h1 => ?_)
      refine kj_norm (st' := [.inl x2]) (c' := 0) (z' := 0) rfl rfl rfl ?_
      refine kj_istore (L' := [(11, .inl x2), (0, .inr (.inr (some v0))), (1, .inr (.inr (some v1))), (2, .inr (.inr (some v2))), (3, .inr (.inr (some v3))), (4, .inr (.inr (some v4))), (5, .inr (.inr (some v5))), (6, .inl v6), (7, .inl v7), (8, .inl v8), (9, .inl v9), (10, .inl v10)]) hC dL_isReading_32 (by decide) rfl ?_
      refine kj_aload hC 5 dL_isReading_34 rfl ?_
      refine kj_aloadn hC 3 dL_isReading_36 rfl rfl ?_
      refine kj_iload hC 7 dL_isReading_37 rfl ?_
      refine kj_gAIc (c := 31) hC rfl dL_isReading_39 (fun x3 => ?_)
      refine kj_aloadn hC 2 dL_isReading_40 rfl rfl ?_
      refine kj_iconst (v := 1) hC dL_isReading_41 (by decide) ?_
      refine kj_iload hC 0 dL_isReading_42 rfl ?_
      refine kj_iadd hC dL_isReading_44 ?_
      refine kj_gAIc (c := 31) hC rfl dL_isReading_45 (fun x4 => ?_)
      refine kj_invS (as := [.inr (.inr (some v4)), .inl x3, .inl x4]) (rest := []) hC hT dL_isReading_46 kw742 ky_L_cost ky2_L_cost (t_L_cost v4 x3 x4 h1) rfl rfl (Nat.le_of_ble_eq_true rfl) ⟨by rw [hD]; decide, by decide⟩ ⟨by rw [hmc]; exact Nat.le_of_ble_eq_true rfl, by rw [hms]; exact Nat.le_of_ble_eq_true rfl⟩ (fun x5 h2 => ?_)
      refine kj_norm (st' := [.inl x5]) (c' := 0) (z' := 0) rfl rfl rfl ?_
      refine kj_istore (L' := [(12, .inl x5), (11, .inl x2), (0, .inr (.inr (some v0))), (1, .inr (.inr (some v1))), (2, .inr (.inr (some v2))), (3, .inr (.inr (some v3))), (4, .inr (.inr (some v4))), (5, .inr (.inr (some v5))), (6, .inl v6), (7, .inl v7), (8, .inl v8), (9, .inl v9), (10, .inl v10)]) hC dL_isReading_49 (by decide) rfl ?_
      refine kj_aloadn hC 2 dL_isReading_51 rfl rfl ?_
      refine kj_iload hC 8 dL_isReading_52 rfl ?_
      refine kj_iload hC 1 dL_isReading_54 rfl ?_
      refine kj_ghost (n := 0) ?_
      refine kj_invV (ci := 9) (q := (RX9, TX9, 17)) (as := [.inl v6, .inl x2]) (rest := []) hC hT dL_isReading_56 kw745 ky_X9_cost ky2_X9_cost rfl rfl (t_zX9_cost v0 v6 x2 (sX h2 (0))) rfl rfl (Nat.le_of_ble_eq_true rfl) ⟨by rw [hD]; decide, by decide⟩ ⟨by rw [hmc]; exact Nat.le_of_ble_eq_true rfl, by rw [hms]; exact Nat.le_of_ble_eq_true rfl⟩ (fun x6 h3 => ?_)
      refine kj_norm (st' := [.inl x6]) (c' := 0) (z' := 0) rfl rfl rfl ?_
      refine kj_iload hC 0 dL_isReading_59 rfl ?_
      refine kj_icmp_ne (tgt := 68) hC dL_isReading_61 (by decide) (fun q3 => ?_) (fun q3 => ?_)
      · refine kj_iconst (v := 1) hC dL_isReading_64 (by decide) ?_
        refine kj_goto (tgt := 69) hC dL_isReading_65 (by decide) ?_
        exact kj_sub [2, 3, 4, 5, 6, 7, 8, 9, 10, 12, 1, 0] rfl (t_L_isReading_b69 hC hN hT hmc hms hD rc12 hr12 v0 v1 v2 v3 v4 v5 v6 v7 v8 v10 x2 x5 1 h3)
      · refine kj_iconst (v := 0) hC dL_isReading_68 (by decide) ?_
        exact kj_sub [2, 3, 4, 5, 6, 7, 8, 9, 10, 12, 1, 0] rfl (t_L_isReading_b69 hC hN hT hmc hms hD rc12 hr12 v0 v1 v2 v3 v4 v5 v6 v7 v8 v10 x2 x5 0 h3)
set_option maxHeartbeats 4000000 in
set_option maxRecDepth 100000 in
theorem t_L_isReading_L12 {X : KX} (hC : kC X RL cL_isReading 13 (some .boolean)) (hN : (xme X).name = yL_isReading.name) (hT : kT0 X) (hmc : xmc X = 0) (hms : xms X = 0) (hD : xD X = 4) : ∀ (n : Nat) (v0 : Nat) (v1 : Nat) (v2 : Nat) (v3 : Nat) (v4 : Nat) (v5 : Nat) (v6 : Int32) (v7 : Int32) (v8 : Int32) (v9 : Int32) (v10 : Int32) (h : KH), kJ X (fun x : Int32 => some (.inl x)) 13 0 0 [(0, .inr (.inr (some v0))), (1, .inr (.inr (some v1))), (2, .inr (.inr (some v2))), (3, .inr (.inr (some v3))), (4, .inr (.inr (some v4))), (5, .inr (.inr (some v5))), (6, .inl v6), (7, .inl v7), (8, .inl v8), (9, .inl v9), (10, .inl v10)] [] 12 h (L_isReading_L12  n v0 v1 v2 v3 v4 v5 v6 v7 v8 v9 v10 h) := by
  intro n
  induction n with
  | zero => intro v0 v1 v2 v3 v4 v5 v6 v7 v8 v9 v10 h; exact kj_none
  | succ n ih => intro v0 v1 v2 v3 v4 v5 v6 v7 v8 v9 v10 h; exact t_L_isReading_b12 hC hN hT hmc hms hD (L_isReading_L12  n) ih v0 v1 v2 v3 v4 v5 v6 v7 v8 v9 v10 h
set_option maxHeartbeats 4000000 in
set_option maxRecDepth 100000 in
theorem t_L_isReading (p0 : Nat) (p1 : Nat) (p2 : Nat) (p3 : Nat) (p4 : Nat) (p5 : Nat) (p6 : Int32) (h : KH) : kM yL_isReading cL_isReading 13 (some .boolean) 4 0 0 (fun x : Int32 => some (.inl x)) [.inr (.inr (some p0)), .inr (.inr (some p1)), .inr (.inr (some p2)), .inr (.inr (some p3)), .inr (.inr (some p4)), .inr (.inr (some p5)), .inl p6] h (f_L_isReading p0 p1 p2 p3 p4 p5 p6 h) := by
  refine kM_of RL (by decide) rfl (Nat.le_of_ble_eq_true rfl) [(0, .inr (.inr (some p0))), (1, .inr (.inr (some p1))), (2, .inr (.inr (some p2))), (3, .inr (.inr (some p3))), (4, .inr (.inr (some p4))), (5, .inr (.inr (some p5))), (6, .inl p6)] rfl (fun X hC hN hT hmc hms hD => ?_)
  unfold f_L_isReading
  refine kj_iconst (v := (-1)) hC dL_isReading_0 (by decide) ?_
  refine kj_istore (L' := [(7, .inl (-1)), (0, .inr (.inr (some p0))), (1, .inr (.inr (some p1))), (2, .inr (.inr (some p2))), (3, .inr (.inr (some p3))), (4, .inr (.inr (some p4))), (5, .inr (.inr (some p5))), (6, .inl p6)]) hC dL_isReading_1 (by decide) rfl ?_
  refine kj_iconst (v := (-1)) hC dL_isReading_3 (by decide) ?_
  refine kj_istore (L' := [(8, .inl (-1)), (7, .inl (-1)), (0, .inr (.inr (some p0))), (1, .inr (.inr (some p1))), (2, .inr (.inr (some p2))), (3, .inr (.inr (some p3))), (4, .inr (.inr (some p4))), (5, .inr (.inr (some p5))), (6, .inl p6)]) hC dL_isReading_4 (by decide) rfl ?_
  refine kj_iconst (v := 1) hC dL_isReading_6 (by decide) ?_
  refine kj_istore (L' := [(9, .inl 1), (8, .inl (-1)), (7, .inl (-1)), (0, .inr (.inr (some p0))), (1, .inr (.inr (some p1))), (2, .inr (.inr (some p2))), (3, .inr (.inr (some p3))), (4, .inr (.inr (some p4))), (5, .inr (.inr (some p5))), (6, .inl p6)]) hC dL_isReading_7 (by decide) rfl ?_
  refine kj_iconst (v := 0) hC dL_isReading_9 (by decide) ?_
  refine kj_istore (L' := [(10, .inl 0), (9, .inl 1), (8, .inl (-1)), (7, .inl (-1)), (0, .inr (.inr (some p0))), (1, .inr (.inr (some p1))), (2, .inr (.inr (some p2))), (3, .inr (.inr (some p3))), (4, .inr (.inr (some p4))), (5, .inr (.inr (some p5))), (6, .inl p6)]) hC dL_isReading_10 (by decide) rfl ?_
  exact kj_sub [4, 5, 6, 7, 8, 9, 10, 3, 2, 1, 0] rfl (t_L_isReading_L12 hC hN hT hmc hms hD  kF p0 p1 p2 p3 p4 p5 p6 ((-1)) ((-1)) 1 0 h)
set_option maxHeartbeats 4000000 in
set_option maxRecDepth 100000 in
theorem t_L_areTrips_b443 {X : KX} (hC : kC X RL cL_areTrips 15 (some .boolean)) (hN : (xme X).name = yL_areTrips.name) (hT : kT0 X) (hmc : xmc X = 9) (hms : xms X = 151) (hD : xD X = 9)  (h : KH) : kJ X (fun x : Int32 => some (.inl x)) 15 0 0 [] [] 443 h (L_areTrips_b443   h) := by
  unfold L_areTrips_b443
  refine kj_iconst (v := 0) hC dL_areTrips_443 (by decide) ?_
  refine kj_widen (k := 9) (n := 151) (Nat.le_of_ble_eq_true rfl) (Nat.le_of_ble_eq_true rfl) ?_
  refine kj_fin hmc hms ?_
  exact kj_zreturn hC dL_areTrips_444
set_option maxHeartbeats 4000000 in
set_option maxRecDepth 100000 in
theorem t_L_areTrips_b431 {X : KX} (hC : kC X RL cL_areTrips 15 (some .boolean)) (hN : (xme X).name = yL_areTrips.name) (hT : kT0 X) (hmc : xmc X = 9) (hms : xms X = 151) (hD : xD X = 9) (rc15 : Nat → Nat → Nat → Nat → Nat → Int32 → Int32 → Int32 → Int32 → Int32 → Int32 → KH → KO Int32) (hr15 : ∀ (v0 : Nat) (v1 : Nat) (v2 : Nat) (v3 : Nat) (v4 : Nat) (v5 : Int32) (v6 : Int32) (v7 : Int32) (v8 : Int32) (v9 : Int32) (v10 : Int32) (h : KH), kJ X (fun x : Int32 => some (.inl x)) 15 0 0 [(0, .inr (.inr (some v0))), (1, .inr (.inr (some v1))), (2, .inr (.inr (some v2))), (3, .inr (.inr (some v3))), (4, .inr (.inr (some v4))), (5, .inl v5), (6, .inl v6), (7, .inl v7), (8, .inl v8), (9, .inl v9), (10, .inl v10)] [] 15 h (rc15 v0 v1 v2 v3 v4 v5 v6 v7 v8 v9 v10 h)) (v0 : Nat) (v1 : Nat) (v2 : Nat) (v3 : Nat) (v4 : Nat) (v5 : Int32) (v6 : Int32) (v7 : Int32) (v10 : Int32) (v11 : Int32) (s0 : Int32) (h : KH) : kJ X (fun x : Int32 => some (.inl x)) 15 0 0 [(0, .inr (.inr (some v0))), (1, .inr (.inr (some v1))), (2, .inr (.inr (some v2))), (3, .inr (.inr (some v3))), (4, .inr (.inr (some v4))), (5, .inl v5), (6, .inl v6), (7, .inl v7), (10, .inl v10), (11, .inl v11)] [.inl s0] 431 h (L_areTrips_b431 rc15 v0 v1 v2 v3 v4 v5 v6 v7 v10 v11 s0 h) := by
  unfold L_areTrips_b431
  refine kj_istore (L' := [(9, .inl s0), (0, .inr (.inr (some v0))), (1, .inr (.inr (some v1))), (2, .inr (.inr (some v2))), (3, .inr (.inr (some v3))), (4, .inr (.inr (some v4))), (5, .inl v5), (6, .inl v6), (7, .inl v7), (10, .inl v10), (11, .inl v11)]) hC dL_areTrips_431 (by decide) rfl ?_
  refine kj_iload hC 10 dL_areTrips_433 rfl ?_
  refine kj_istore (L' := [(8, .inl v11), (9, .inl s0), (0, .inr (.inr (some v0))), (1, .inr (.inr (some v1))), (2, .inr (.inr (some v2))), (3, .inr (.inr (some v3))), (4, .inr (.inr (some v4))), (5, .inl v5), (6, .inl v6), (7, .inl v7), (10, .inl v10), (11, .inl v11)]) hC dL_areTrips_435 (by decide) rfl ?_
  refine kj_iinc (v := v10 + 1) (L' := [(10, .inl (v10 + 1)), (8, .inl v11), (9, .inl s0), (0, .inr (.inr (some v0))), (1, .inr (.inr (some v1))), (2, .inr (.inr (some v2))), (3, .inr (.inr (some v3))), (4, .inr (.inr (some v4))), (5, .inl v5), (6, .inl v6), (7, .inl v7), (11, .inl v11)]) hC 10 dL_areTrips_437 rfl rfl (by decide) rfl ?_
  refine kj_goto (tgt := 15) hC dL_areTrips_440 (by decide) ?_
  exact kj_sub [3, 4, 5, 6, 7, 8, 9, 10, 1, 2, 0] rfl (hr15 v0 v1 v2 v3 v4 v5 v6 v7 v11 s0 (v10 + 1) h)
set_option maxHeartbeats 4000000 in
set_option maxRecDepth 100000 in
theorem t_L_areTrips_b430 {X : KX} (hC : kC X RL cL_areTrips 15 (some .boolean)) (hN : (xme X).name = yL_areTrips.name) (hT : kT0 X) (hmc : xmc X = 9) (hms : xms X = 151) (hD : xD X = 9) (rc15 : Nat → Nat → Nat → Nat → Nat → Int32 → Int32 → Int32 → Int32 → Int32 → Int32 → KH → KO Int32) (hr15 : ∀ (v0 : Nat) (v1 : Nat) (v2 : Nat) (v3 : Nat) (v4 : Nat) (v5 : Int32) (v6 : Int32) (v7 : Int32) (v8 : Int32) (v9 : Int32) (v10 : Int32) (h : KH), kJ X (fun x : Int32 => some (.inl x)) 15 0 0 [(0, .inr (.inr (some v0))), (1, .inr (.inr (some v1))), (2, .inr (.inr (some v2))), (3, .inr (.inr (some v3))), (4, .inr (.inr (some v4))), (5, .inl v5), (6, .inl v6), (7, .inl v7), (8, .inl v8), (9, .inl v9), (10, .inl v10)] [] 15 h (rc15 v0 v1 v2 v3 v4 v5 v6 v7 v8 v9 v10 h)) (v0 : Nat) (v1 : Nat) (v2 : Nat) (v3 : Nat) (v4 : Nat) (v5 : Int32) (v6 : Int32) (v7 : Int32) (v10 : Int32) (v11 : Int32) (h : KH) : kJ X (fun x : Int32 => some (.inl x)) 15 0 0 [(0, .inr (.inr (some v0))), (1, .inr (.inr (some v1))), (2, .inr (.inr (some v2))), (3, .inr (.inr (some v3))), (4, .inr (.inr (some v4))), (5, .inl v5), (6, .inl v6), (7, .inl v7), (10, .inl v10), (11, .inl v11)] [] 430 h (L_areTrips_b430 rc15 v0 v1 v2 v3 v4 v5 v6 v7 v10 v11 h) := by
  unfold L_areTrips_b430
  refine kj_iconst (v := 0) hC dL_areTrips_430 (by decide) ?_
  exact kj_sub [0, 1, 2, 3, 4, 5, 6, 7, 8, 9] rfl (t_L_areTrips_b431 hC hN hT hmc hms hD rc15 hr15 v0 v1 v2 v3 v4 v5 v6 v7 v10 v11 0 h)
set_option maxHeartbeats 4000000 in
set_option maxRecDepth 100000 in
theorem t_L_areTrips_b426 {X : KX} (hC : kC X RL cL_areTrips 15 (some .boolean)) (hN : (xme X).name = yL_areTrips.name) (hT : kT0 X) (hmc : xmc X = 9) (hms : xms X = 151) (hD : xD X = 9) (rc15 : Nat → Nat → Nat → Nat → Nat → Int32 → Int32 → Int32 → Int32 → Int32 → Int32 → KH → KO Int32) (hr15 : ∀ (v0 : Nat) (v1 : Nat) (v2 : Nat) (v3 : Nat) (v4 : Nat) (v5 : Int32) (v6 : Int32) (v7 : Int32) (v8 : Int32) (v9 : Int32) (v10 : Int32) (h : KH), kJ X (fun x : Int32 => some (.inl x)) 15 0 0 [(0, .inr (.inr (some v0))), (1, .inr (.inr (some v1))), (2, .inr (.inr (some v2))), (3, .inr (.inr (some v3))), (4, .inr (.inr (some v4))), (5, .inl v5), (6, .inl v6), (7, .inl v7), (8, .inl v8), (9, .inl v9), (10, .inl v10)] [] 15 h (rc15 v0 v1 v2 v3 v4 v5 v6 v7 v8 v9 v10 h)) (v0 : Nat) (v1 : Nat) (v2 : Nat) (v3 : Nat) (v4 : Nat) (v5 : Int32) (v6 : Int32) (v7 : Int32) (v10 : Int32) (v11 : Int32) (h : KH) : kJ X (fun x : Int32 => some (.inl x)) 15 0 0 [(0, .inr (.inr (some v0))), (1, .inr (.inr (some v1))), (2, .inr (.inr (some v2))), (3, .inr (.inr (some v3))), (4, .inr (.inr (some v4))), (5, .inl v5), (6, .inl v6), (7, .inl v7), (10, .inl v10), (11, .inl v11)] [] 426 h (L_areTrips_b426 rc15 v0 v1 v2 v3 v4 v5 v6 v7 v10 v11 h) := by
  unfold L_areTrips_b426
  refine kj_iconst (v := 1) hC dL_areTrips_426 (by decide) ?_
  refine kj_goto (tgt := 431) hC dL_areTrips_427 (by decide) ?_
  exact kj_sub [0, 1, 2, 3, 4, 5, 6, 7, 8, 9] rfl (t_L_areTrips_b431 hC hN hT hmc hms hD rc15 hr15 v0 v1 v2 v3 v4 v5 v6 v7 v10 v11 1 h)
set_option maxHeartbeats 4000000 in
set_option maxRecDepth 100000 in
theorem t_L_areTrips_b376 {X : KX} (hC : kC X RL cL_areTrips 15 (some .boolean)) (hN : (xme X).name = yL_areTrips.name) (hT : kT0 X) (hmc : xmc X = 9) (hms : xms X = 151) (hD : xD X = 9) (rc15 : Nat → Nat → Nat → Nat → Nat → Int32 → Int32 → Int32 → Int32 → Int32 → Int32 → KH → KO Int32) (hr15 : ∀ (v0 : Nat) (v1 : Nat) (v2 : Nat) (v3 : Nat) (v4 : Nat) (v5 : Int32) (v6 : Int32) (v7 : Int32) (v8 : Int32) (v9 : Int32) (v10 : Int32) (h : KH), kJ X (fun x : Int32 => some (.inl x)) 15 0 0 [(0, .inr (.inr (some v0))), (1, .inr (.inr (some v1))), (2, .inr (.inr (some v2))), (3, .inr (.inr (some v3))), (4, .inr (.inr (some v4))), (5, .inl v5), (6, .inl v6), (7, .inl v7), (8, .inl v8), (9, .inl v9), (10, .inl v10)] [] 15 h (rc15 v0 v1 v2 v3 v4 v5 v6 v7 v8 v9 v10 h)) (v0 : Nat) (v1 : Nat) (v2 : Nat) (v3 : Nat) (v4 : Nat) (v5 : Int32) (v6 : Int32) (v9 : Int32) (v10 : Int32) (v11 : Int32) (v14 : Int32) (s0 : Int32) (h : KH) : kJ X (fun x : Int32 => some (.inl x)) 15 0 0 [(0, .inr (.inr (some v0))), (1, .inr (.inr (some v1))), (2, .inr (.inr (some v2))), (3, .inr (.inr (some v3))), (4, .inr (.inr (some v4))), (5, .inl v5), (6, .inl v6), (9, .inl v9), (10, .inl v10), (11, .inl v11), (14, .inl v14)] [.inl s0] 376 h (L_areTrips_b376 rc15 v0 v1 v2 v3 v4 v5 v6 v9 v10 v11 v14 s0 h) := by
  unfold L_areTrips_b376
  refine kj_istore (L' := [(7, .inl s0), (0, .inr (.inr (some v0))), (1, .inr (.inr (some v1))), (2, .inr (.inr (some v2))), (3, .inr (.inr (some v3))), (4, .inr (.inr (some v4))), (5, .inl v5), (6, .inl v6), (9, .inl v9), (10, .inl v10), (11, .inl v11), (14, .inl v14)]) hC dL_areTrips_376 (by decide) rfl ?_
  refine kj_iload hC 8 dL_areTrips_378 rfl ?_
  refine kj_if_eq (tgt := 430) hC dL_areTrips_380 (by decide) (fun q1 => ?_) (fun q1 => ?_)
  · exact kj_sub [1, 2, 3, 4, 5, 6, 7, 0, 9, 10] rfl (t_L_areTrips_b430 hC hN hT hmc hms hD rc15 hr15 v0 v1 v2 v3 v4 v5 v6 s0 v10 v11 h)
  · refine kj_aloadn hC 1 dL_areTrips_383 rfl rfl ?_
    refine kj_iload hC 10 dL_areTrips_384 rfl ?_
    refine kj_ghost (n := 0) ?_
    refine kj_invV (ci := 9) (q := (RX9, TX9, 17)) (as := [.inl v11]) (rest := []) hC hT dL_areTrips_386 kw821 ky_X9_tripOf ky2_X9_tripOf rfl rfl (t_zX9_tripOf v0 v11 (sX h (0))) rfl rfl (Nat.le_of_ble_eq_true rfl) ⟨by rw [hD]; decide, by decide⟩ ⟨by rw [hmc]; exact Nat.le_of_ble_eq_true rfl, by rw [hms]; exact Nat.le_of_ble_eq_true rfl⟩ (fun x1 h1 => ?_)
    refine kj_norm (st' := [.inl x1]) (c' := 0) (z' := 0) rfl rfl rfl ?_
    refine kj_iload hC 7 dL_areTrips_389 rfl ?_
    refine kj_iconst (v := 1) hC dL_areTrips_391 (by decide) ?_
    refine kj_isub hC dL_areTrips_392 ?_
    refine kj_icmp_ne (tgt := 430) hC dL_areTrips_393 (by decide) (fun q2 => ?_) (fun q2 => ?_)
    · refine kj_iload hC 11 dL_areTrips_396 rfl ?_
      refine kj_if_eq (tgt := 426) hC dL_areTrips_398 (by decide) (fun q3 => ?_) (fun q3 => ?_)
      · exact kj_sub [1, 2, 3, 4, 5, 6, 7, 0, 9, 10] rfl (t_L_areTrips_b426 hC hN hT hmc hms hD rc15 hr15 v0 v1 v2 v3 v4 v5 v6 s0 v10 v11 h1)
      · refine kj_aloadn hC 1 dL_areTrips_401 rfl rfl ?_
        refine kj_iload hC 6 dL_areTrips_402 rfl ?_
        refine kj_iload hC 7 dL_areTrips_404 rfl ?_
        refine kj_iconst (v := 1) hC dL_areTrips_406 (by decide) ?_
        refine kj_isub hC dL_areTrips_407 ?_
        refine kj_ghost (n := 0) ?_
        refine kj_invV (ci := 9) (q := (RX9, TX9, 17)) (as := [.inl v5, .inl (v6 - (1 : Int32))]) (rest := []) hC hT dL_areTrips_408 kw774 ky_X9_driverOf ky2_X9_driverOf rfl rfl (t_zX9_driverOf v0 v5 (v6 - (1 : Int32)) (sX h1 (0))) rfl rfl (Nat.le_of_ble_eq_true rfl) ⟨by rw [hD]; decide, by decide⟩ ⟨by rw [hmc]; exact Nat.le_of_ble_eq_true rfl, by rw [hms]; exact Nat.le_of_ble_eq_true rfl⟩ (fun x2 h2 => ?_)
        refine kj_norm (st' := [.inl x2]) (c' := 0) (z' := 0) rfl rfl rfl ?_
        refine kj_aloadn hC 1 dL_areTrips_411 rfl rfl ?_
        refine kj_iload hC 6 dL_areTrips_412 rfl ?_
        refine kj_aloadn hC 2 dL_areTrips_414 rfl rfl ?_
        refine kj_iload hC 10 dL_areTrips_415 rfl ?_
        refine kj_invS (as := [.inr (.inr (some v1)), .inl v11]) (rest := [.inl v5, .inr (.inr (some v0)), .inl x2]) hC hT dL_areTrips_417 kw814 ky_L_minute ky2_L_minute (t_L_minute v1 v11 h2) rfl rfl (Nat.le_of_ble_eq_true rfl) ⟨by rw [hD]; decide, by decide⟩ ⟨by rw [hmc]; exact Nat.le_of_ble_eq_true rfl, by rw [hms]; exact Nat.le_of_ble_eq_true rfl⟩ (fun x3 h3 => ?_)
        refine kj_norm (st' := [.inl x3, .inl v5, .inr (.inr (some v0)), .inl x2]) (c' := 0) (z' := 0) rfl rfl rfl ?_
        refine kj_ghost (n := 0) ?_
        refine kj_invV (ci := 9) (q := (RX9, TX9, 17)) (as := [.inl v5, .inl x3]) (rest := [.inl x2]) hC hT dL_areTrips_420 kw608 ky_X9_holder ky2_X9_holder rfl rfl (t_zX9_holder v0 v5 x3 (sX h3 (0))) rfl rfl (Nat.le_of_ble_eq_true rfl) ⟨by rw [hD]; decide, by decide⟩ ⟨by rw [hmc]; exact Nat.le_of_ble_eq_true rfl, by rw [hms]; exact Nat.le_of_ble_eq_true rfl⟩ (fun x4 h4 => ?_)
        refine kj_norm (st' := [.inl x4, .inl x2]) (c' := 0) (z' := 0) rfl rfl rfl ?_
        refine kj_icmp_ne (tgt := 430) hC dL_areTrips_423 (by decide) (fun q4 => ?_) (fun q4 => ?_)
        · exact kj_sub [1, 2, 3, 4, 5, 6, 7, 0, 9, 10] rfl (t_L_areTrips_b426 hC hN hT hmc hms hD rc15 hr15 v0 v1 v2 v3 v4 v5 v6 s0 v10 v11 h4)
        · exact kj_sub [1, 2, 3, 4, 5, 6, 7, 0, 9, 10] rfl (t_L_areTrips_b430 hC hN hT hmc hms hD rc15 hr15 v0 v1 v2 v3 v4 v5 v6 s0 v10 v11 h4)
    · exact kj_sub [1, 2, 3, 4, 5, 6, 7, 0, 9, 10] rfl (t_L_areTrips_b430 hC hN hT hmc hms hD rc15 hr15 v0 v1 v2 v3 v4 v5 v6 s0 v10 v11 h1)
set_option maxHeartbeats 4000000 in
set_option maxRecDepth 100000 in
theorem t_L_areTrips_b359 {X : KX} (hC : kC X RL cL_areTrips 15 (some .boolean)) (hN : (xme X).name = yL_areTrips.name) (hT : kT0 X) (hmc : xmc X = 9) (hms : xms X = 151) (hD : xD X = 9) (rc15 : Nat → Nat → Nat → Nat → Nat → Int32 → Int32 → Int32 → Int32 → Int32 → Int32 → KH → KO Int32) (hr15 : ∀ (v0 : Nat) (v1 : Nat) (v2 : Nat) (v3 : Nat) (v4 : Nat) (v5 : Int32) (v6 : Int32) (v7 : Int32) (v8 : Int32) (v9 : Int32) (v10 : Int32) (h : KH), kJ X (fun x : Int32 => some (.inl x)) 15 0 0 [(0, .inr (.inr (some v0))), (1, .inr (.inr (some v1))), (2, .inr (.inr (some v2))), (3, .inr (.inr (some v3))), (4, .inr (.inr (some v4))), (5, .inl v5), (6, .inl v6), (7, .inl v7), (8, .inl v8), (9, .inl v9), (10, .inl v10)] [] 15 h (rc15 v0 v1 v2 v3 v4 v5 v6 v7 v8 v9 v10 h)) (v0 : Nat) (v1 : Nat) (v2 : Nat) (v3 : Nat) (v4 : Nat) (v5 : Int32) (v7 : Int32) (v9 : Int32) (v10 : Int32) (v11 : Int32) (v12 : Int32) (v14 : Int32) (s0 : Int32) (s1 : Int32) (h : KH) : kJ X (fun x : Int32 => some (.inl x)) 15 0 0 [(0, .inr (.inr (some v0))), (1, .inr (.inr (some v1))), (2, .inr (.inr (some v2))), (3, .inr (.inr (some v3))), (4, .inr (.inr (some v4))), (5, .inl v5), (7, .inl v7), (9, .inl v9), (10, .inl v10), (11, .inl v11), (12, .inl v12), (14, .inl v14)] [.inl s0, .inl s1] 359 h (L_areTrips_b359 rc15 v0 v1 v2 v3 v4 v5 v7 v9 v10 v11 v12 v14 s0 s1 h) := by
  unfold L_areTrips_b359
  refine kj_iadd hC dL_areTrips_359 ?_
  refine kj_istore (L' := [(6, .inl (s1 + s0)), (0, .inr (.inr (some v0))), (1, .inr (.inr (some v1))), (2, .inr (.inr (some v2))), (3, .inr (.inr (some v3))), (4, .inr (.inr (some v4))), (5, .inl v5), (7, .inl v7), (9, .inl v9), (10, .inl v10), (11, .inl v11), (12, .inl v12), (14, .inl v14)]) hC dL_areTrips_360 (by decide) rfl ?_
  refine kj_iload hC 12 dL_areTrips_362 rfl ?_
  refine kj_if_eq (tgt := 371) hC dL_areTrips_364 (by decide) (fun q1 => ?_) (fun q1 => ?_)
  · refine kj_iload hC 7 dL_areTrips_371 rfl ?_
    refine kj_iload hC 11 dL_areTrips_373 rfl ?_
    refine kj_iadd hC dL_areTrips_375 ?_
    exact kj_sub [1, 2, 3, 4, 5, 6, 0, 8, 9, 10, 12] rfl (t_L_areTrips_b376 hC hN hT hmc hms hD rc15 hr15 v0 v1 v2 v3 v4 v5 (s1 + s0) v9 v10 v11 v14 (v7 + v12) h)
  · refine kj_iconst (v := 2) hC dL_areTrips_367 (by decide) ?_
    refine kj_goto (tgt := 376) hC dL_areTrips_368 (by decide) ?_
    exact kj_sub [1, 2, 3, 4, 5, 6, 0, 8, 9, 10, 12] rfl (t_L_areTrips_b376 hC hN hT hmc hms hD rc15 hr15 v0 v1 v2 v3 v4 v5 (s1 + s0) v9 v10 v11 v14 2 h)
set_option maxHeartbeats 4000000 in
set_option maxRecDepth 100000 in
theorem t_L_areTrips_b346 {X : KX} (hC : kC X RL cL_areTrips 15 (some .boolean)) (hN : (xme X).name = yL_areTrips.name) (hT : kT0 X) (hmc : xmc X = 9) (hms : xms X = 151) (hD : xD X = 9) (s0 : Int32) (h : KH) : kJ X (fun x : Int32 => some (.inl x)) 15 9 151 [] [.inl s0] 346 h (L_areTrips_b346  s0 h) := by
  unfold L_areTrips_b346
  refine kj_fin hmc hms ?_
  exact kj_zreturn hC dL_areTrips_346
set_option maxHeartbeats 4000000 in
set_option maxRecDepth 100000 in
theorem t_L_areTrips_b345 {X : KX} (hC : kC X RL cL_areTrips 15 (some .boolean)) (hN : (xme X).name = yL_areTrips.name) (hT : kT0 X) (hmc : xmc X = 9) (hms : xms X = 151) (hD : xD X = 9)  (h : KH) : kJ X (fun x : Int32 => some (.inl x)) 15 9 151 [] [] 345 h (L_areTrips_b345   h) := by
  unfold L_areTrips_b345
  refine kj_iconst (v := 0) hC dL_areTrips_345 (by decide) ?_
  exact kj_sub [] rfl (t_L_areTrips_b346 hC hN hT hmc hms hD  0 h)
set_option maxHeartbeats 4000000 in
set_option maxRecDepth 100000 in
theorem t_L_areTrips_b295 {X : KX} (hC : kC X RL cL_areTrips 15 (some .boolean)) (hN : (xme X).name = yL_areTrips.name) (hT : kT0 X) (hmc : xmc X = 9) (hms : xms X = 151) (hD : xD X = 9) (rc15 : Nat → Nat → Nat → Nat → Nat → Int32 → Int32 → Int32 → Int32 → Int32 → Int32 → KH → KO Int32) (hr15 : ∀ (v0 : Nat) (v1 : Nat) (v2 : Nat) (v3 : Nat) (v4 : Nat) (v5 : Int32) (v6 : Int32) (v7 : Int32) (v8 : Int32) (v9 : Int32) (v10 : Int32) (h : KH), kJ X (fun x : Int32 => some (.inl x)) 15 0 0 [(0, .inr (.inr (some v0))), (1, .inr (.inr (some v1))), (2, .inr (.inr (some v2))), (3, .inr (.inr (some v3))), (4, .inr (.inr (some v4))), (5, .inl v5), (6, .inl v6), (7, .inl v7), (8, .inl v8), (9, .inl v9), (10, .inl v10)] [] 15 h (rc15 v0 v1 v2 v3 v4 v5 v6 v7 v8 v9 v10 h)) (v0 : Nat) (v1 : Nat) (v2 : Nat) (v3 : Nat) (v4 : Nat) (v5 : Int32) (v6 : Int32) (v7 : Int32) (v9 : Int32) (v10 : Int32) (v11 : Int32) (v12 : Int32) (v14 : Int32) (h : KH) : kJ X (fun x : Int32 => some (.inl x)) 15 0 0 [(0, .inr (.inr (some v0))), (1, .inr (.inr (some v1))), (2, .inr (.inr (some v2))), (3, .inr (.inr (some v3))), (4, .inr (.inr (some v4))), (5, .inl v5), (6, .inl v6), (7, .inl v7), (9, .inl v9), (10, .inl v10), (11, .inl v11), (12, .inl v12), (14, .inl v14)] [] 295 h (L_areTrips_b295 rc15 v0 v1 v2 v3 v4 v5 v6 v7 v9 v10 v11 v12 v14 h) := by
  unfold L_areTrips_b295
  refine kj_iload hC 10 dL_areTrips_295 rfl ?_
  refine kj_if_ge (tgt := 347) hC dL_areTrips_297 (by decide) (fun q1 => ?_) (fun q1 => ?_)
  · refine kj_iload hC 6 dL_areTrips_347 rfl ?_
    refine kj_iload hC 12 dL_areTrips_349 rfl ?_
    refine kj_if_eq (tgt := 358) hC dL_areTrips_351 (by decide) (fun q2 => ?_) (fun q2 => ?_)
    · refine kj_iconst (v := 0) hC dL_areTrips_358 (by decide) ?_
      exact kj_sub [0, 1, 2, 3, 4, 5, 7, 8, 9, 10, 11, 12] rfl (t_L_areTrips_b359 hC hN hT hmc hms hD rc15 hr15 v0 v1 v2 v3 v4 v5 v7 v9 v10 v11 v12 v14 0 v6 h)
    · refine kj_iconst (v := 1) hC dL_areTrips_354 (by decide) ?_
      refine kj_goto (tgt := 359) hC dL_areTrips_355 (by decide) ?_
      exact kj_sub [0, 1, 2, 3, 4, 5, 7, 8, 9, 10, 11, 12] rfl (t_L_areTrips_b359 hC hN hT hmc hms hD rc15 hr15 v0 v1 v2 v3 v4 v5 v7 v9 v10 v11 v12 v14 1 v6 h)
  · refine kj_iload hC 8 dL_areTrips_300 rfl ?_
    refine kj_if_eq (tgt := 345) hC dL_areTrips_302 (by decide) (fun q3 => ?_) (fun q3 => ?_)
    · refine kj_widen (k := 9) (n := 151) (Nat.le_of_ble_eq_true rfl) (Nat.le_of_ble_eq_true rfl) ?_
      exact kj_sub [] rfl (t_L_areTrips_b345 hC hN hT hmc hms hD   h)
    · refine kj_aloadn hC 0 dL_areTrips_305 rfl rfl ?_
      refine kj_iload hC 5 dL_areTrips_306 rfl ?_
      refine kj_ghost (n := 0) ?_
      refine kj_invV (ci := 9) (q := (RX9, TX9, 17)) (as := [.inl v5]) (rest := []) hC hT dL_areTrips_308 kw762 ky_X9_trips ky2_X9_trips rfl rfl (t_zX9_trips v0 v5 (sX h (0))) rfl rfl (Nat.le_of_ble_eq_true rfl) ⟨by rw [hD]; decide, by decide⟩ ⟨by rw [hmc]; exact Nat.le_of_ble_eq_true rfl, by rw [hms]; exact Nat.le_of_ble_eq_true rfl⟩ (fun x1 h1 => ?_)
      refine kj_norm (st' := [.inl x1]) (c' := 0) (z' := 0) rfl rfl rfl ?_
      refine kj_iload hC 6 dL_areTrips_311 rfl ?_
      refine kj_icmp_ne (tgt := 345) hC dL_areTrips_313 (by decide) (fun q4 => ?_) (fun q4 => ?_)
      · refine kj_aloadn hC 0 dL_areTrips_316 rfl rfl ?_
        refine kj_iload hC 5 dL_areTrips_317 rfl ?_
        refine kj_ghost (n := 0) ?_
        refine kj_invV (ci := 9) (q := (RX9, TX9, 17)) (as := [.inl v5]) (rest := []) hC hT dL_areTrips_319 kw817 ky_X9_tripsAnew ky2_X9_tripsAnew rfl rfl (t_zX9_tripsAnew v0 v5 (sX h1 (0))) rfl rfl (Nat.le_of_ble_eq_true rfl) ⟨by rw [hD]; decide, by decide⟩ ⟨by rw [hmc]; exact Nat.le_of_ble_eq_true rfl, by rw [hms]; exact Nat.le_of_ble_eq_true rfl⟩ (fun x2 h2 => ?_)
        refine kj_norm (st' := [.inl x2]) (c' := 0) (z' := 0) rfl rfl rfl ?_
        refine kj_iload hC 6 dL_areTrips_322 rfl ?_
        refine kj_icmp_ne (tgt := 345) hC dL_areTrips_324 (by decide) (fun q5 => ?_) (fun q5 => ?_)
        · refine kj_aloadn hC 0 dL_areTrips_327 rfl rfl ?_
          refine kj_iconst (v := 5) hC dL_areTrips_328 (by decide) ?_
          refine kj_iload hC 5 dL_areTrips_329 rfl ?_
          refine kj_iload hC 6 dL_areTrips_331 rfl ?_
          refine kj_invSX (as := [.inr (.inr (some v0)), .inl 5, .inl v5, .inl v6]) (rest := []) hC hT dL_areTrips_333 kw215 kyX_L_asks ky2_L_asks (t_L_asks v0 5 v5 v6 h2) rfl rfl (Nat.le_of_ble_eq_true rfl) ⟨by rw [hD]; decide, by decide⟩ ⟨by rw [hmc]; exact Nat.le_of_ble_eq_true rfl, by rw [hms]; exact Nat.le_of_ble_eq_true rfl⟩ (fun x3 h3 => ?_)
          refine kj_norm (st' := [.inl x3]) (c' := 9) (z' := 151) rfl rfl rfl ?_
          refine kj_bipush (v := (-107)) hC dL_areTrips_336 (by decide) ?_
          refine kj_icmp_ne (tgt := 345) hC dL_areTrips_338 (by decide) (fun q6 => ?_) (fun q6 => ?_)
          · refine kj_iconst (v := 1) hC dL_areTrips_341 (by decide) ?_
            refine kj_goto (tgt := 346) hC dL_areTrips_342 (by decide) ?_
            exact kj_sub [] rfl (t_L_areTrips_b346 hC hN hT hmc hms hD  1 h3)
          · exact kj_sub [] rfl (t_L_areTrips_b345 hC hN hT hmc hms hD   h3)
        · refine kj_widen (k := 9) (n := 151) (Nat.le_of_ble_eq_true rfl) (Nat.le_of_ble_eq_true rfl) ?_
          exact kj_sub [] rfl (t_L_areTrips_b345 hC hN hT hmc hms hD   h2)
      · refine kj_widen (k := 9) (n := 151) (Nat.le_of_ble_eq_true rfl) (Nat.le_of_ble_eq_true rfl) ?_
        exact kj_sub [] rfl (t_L_areTrips_b345 hC hN hT hmc hms hD   h1)
set_option maxHeartbeats 4000000 in
set_option maxRecDepth 100000 in
theorem t_L_areTrips_b293 {X : KX} (hC : kC X RL cL_areTrips 15 (some .boolean)) (hN : (xme X).name = yL_areTrips.name) (hT : kT0 X) (hmc : xmc X = 9) (hms : xms X = 151) (hD : xD X = 9) (rc15 : Nat → Nat → Nat → Nat → Nat → Int32 → Int32 → Int32 → Int32 → Int32 → Int32 → KH → KO Int32) (hr15 : ∀ (v0 : Nat) (v1 : Nat) (v2 : Nat) (v3 : Nat) (v4 : Nat) (v5 : Int32) (v6 : Int32) (v7 : Int32) (v8 : Int32) (v9 : Int32) (v10 : Int32) (h : KH), kJ X (fun x : Int32 => some (.inl x)) 15 0 0 [(0, .inr (.inr (some v0))), (1, .inr (.inr (some v1))), (2, .inr (.inr (some v2))), (3, .inr (.inr (some v3))), (4, .inr (.inr (some v4))), (5, .inl v5), (6, .inl v6), (7, .inl v7), (8, .inl v8), (9, .inl v9), (10, .inl v10)] [] 15 h (rc15 v0 v1 v2 v3 v4 v5 v6 v7 v8 v9 v10 h)) (v0 : Nat) (v1 : Nat) (v2 : Nat) (v3 : Nat) (v4 : Nat) (v5 : Int32) (v6 : Int32) (v7 : Int32) (v10 : Int32) (v11 : Int32) (v12 : Int32) (v14 : Int32) (s0 : Int32) (h : KH) : kJ X (fun x : Int32 => some (.inl x)) 15 0 0 [(0, .inr (.inr (some v0))), (1, .inr (.inr (some v1))), (2, .inr (.inr (some v2))), (3, .inr (.inr (some v3))), (4, .inr (.inr (some v4))), (5, .inl v5), (6, .inl v6), (7, .inl v7), (10, .inl v10), (11, .inl v11), (12, .inl v12), (14, .inl v14)] [.inl s0] 293 h (L_areTrips_b293 rc15 v0 v1 v2 v3 v4 v5 v6 v7 v10 v11 v12 v14 s0 h) := by
  unfold L_areTrips_b293
  refine kj_istore (L' := [(9, .inl s0), (0, .inr (.inr (some v0))), (1, .inr (.inr (some v1))), (2, .inr (.inr (some v2))), (3, .inr (.inr (some v3))), (4, .inr (.inr (some v4))), (5, .inl v5), (6, .inl v6), (7, .inl v7), (10, .inl v10), (11, .inl v11), (12, .inl v12), (14, .inl v14)]) hC dL_areTrips_293 (by decide) rfl ?_
  exact kj_sub [1, 2, 3, 4, 5, 6, 7, 8, 0, 9, 10, 11, 12] rfl (t_L_areTrips_b295 hC hN hT hmc hms hD rc15 hr15 v0 v1 v2 v3 v4 v5 v6 v7 s0 v10 v11 v12 v14 h)
set_option maxHeartbeats 4000000 in
set_option maxRecDepth 100000 in
theorem t_L_areTrips_b253 {X : KX} (hC : kC X RL cL_areTrips 15 (some .boolean)) (hN : (xme X).name = yL_areTrips.name) (hT : kT0 X) (hmc : xmc X = 9) (hms : xms X = 151) (hD : xD X = 9) (rc15 : Nat → Nat → Nat → Nat → Nat → Int32 → Int32 → Int32 → Int32 → Int32 → Int32 → KH → KO Int32) (hr15 : ∀ (v0 : Nat) (v1 : Nat) (v2 : Nat) (v3 : Nat) (v4 : Nat) (v5 : Int32) (v6 : Int32) (v7 : Int32) (v8 : Int32) (v9 : Int32) (v10 : Int32) (h : KH), kJ X (fun x : Int32 => some (.inl x)) 15 0 0 [(0, .inr (.inr (some v0))), (1, .inr (.inr (some v1))), (2, .inr (.inr (some v2))), (3, .inr (.inr (some v3))), (4, .inr (.inr (some v4))), (5, .inl v5), (6, .inl v6), (7, .inl v7), (8, .inl v8), (9, .inl v9), (10, .inl v10)] [] 15 h (rc15 v0 v1 v2 v3 v4 v5 v6 v7 v8 v9 v10 h)) (v0 : Nat) (v1 : Nat) (v2 : Nat) (v3 : Nat) (v4 : Nat) (v5 : Int32) (v6 : Int32) (v7 : Int32) (v9 : Int32) (v10 : Int32) (v11 : Int32) (v12 : Int32) (s0 : Int32) (h : KH) : kJ X (fun x : Int32 => some (.inl x)) 15 0 0 [(0, .inr (.inr (some v0))), (1, .inr (.inr (some v1))), (2, .inr (.inr (some v2))), (3, .inr (.inr (some v3))), (4, .inr (.inr (some v4))), (5, .inl v5), (6, .inl v6), (7, .inl v7), (9, .inl v9), (10, .inl v10), (11, .inl v11), (12, .inl v12)] [.inl s0] 253 h (L_areTrips_b253 rc15 v0 v1 v2 v3 v4 v5 v6 v7 v9 v10 v11 v12 s0 h) := by
  unfold L_areTrips_b253
  refine kj_istore (L' := [(14, .inl s0), (0, .inr (.inr (some v0))), (1, .inr (.inr (some v1))), (2, .inr (.inr (some v2))), (3, .inr (.inr (some v3))), (4, .inr (.inr (some v4))), (5, .inl v5), (6, .inl v6), (7, .inl v7), (9, .inl v9), (10, .inl v10), (11, .inl v11), (12, .inl v12)]) hC dL_areTrips_253 (by decide) rfl ?_
  refine kj_iload hC 0 dL_areTrips_255 rfl ?_
  refine kj_if_eq (tgt := 295) hC dL_areTrips_257 (by decide) (fun q1 => ?_) (fun q1 => ?_)
  · exact kj_sub [1, 2, 3, 4, 5, 6, 7, 8, 9, 10, 11, 12, 0] rfl (t_L_areTrips_b295 hC hN hT hmc hms hD rc15 hr15 v0 v1 v2 v3 v4 v5 v6 v7 v9 v10 v11 v12 s0 h)
  · refine kj_iload hC 7 dL_areTrips_260 rfl ?_
    refine kj_if_le (tgt := 295) hC dL_areTrips_262 (by decide) (fun q2 => ?_) (fun q2 => ?_)
    · exact kj_sub [1, 2, 3, 4, 5, 6, 7, 8, 9, 10, 11, 12, 0] rfl (t_L_areTrips_b295 hC hN hT hmc hms hD rc15 hr15 v0 v1 v2 v3 v4 v5 v6 v7 v9 v10 v11 v12 s0 h)
    · refine kj_aloadn hC 1 dL_areTrips_265 rfl rfl ?_
      refine kj_iload hC 6 dL_areTrips_266 rfl ?_
      refine kj_iload hC 7 dL_areTrips_268 rfl ?_
      refine kj_iconst (v := 1) hC dL_areTrips_270 (by decide) ?_
      refine kj_isub hC dL_areTrips_271 ?_
      refine kj_ghost (n := 0) ?_
      refine kj_invV (ci := 9) (q := (RX9, TX9, 17)) (as := [.inl v5, .inl (v6 - (1 : Int32))]) (rest := []) hC hT dL_areTrips_272 kw560 ky_X9_toll ky2_X9_toll rfl rfl (t_zX9_toll v0 v5 (v6 - (1 : Int32)) (sX h (0))) rfl rfl (Nat.le_of_ble_eq_true rfl) ⟨by rw [hD]; decide, by decide⟩ ⟨by rw [hmc]; exact Nat.le_of_ble_eq_true rfl, by rw [hms]; exact Nat.le_of_ble_eq_true rfl⟩ (fun x1 h1 => ?_)
      refine kj_norm (st' := [.inl x1]) (c' := 0) (z' := 0) rfl rfl rfl ?_
      refine kj_aload hC 5 dL_areTrips_275 rfl ?_
      refine kj_aloadn hC 3 dL_areTrips_277 rfl rfl ?_
      refine kj_iload hC 6 dL_areTrips_278 rfl ?_
      refine kj_gAIc (c := 31) hC rfl dL_areTrips_280 (fun x2 => ?_)
      refine kj_gAIc (c := 31) hC rfl dL_areTrips_281 (fun x3 => ?_)
      refine kj_iload hC 8 dL_areTrips_282 rfl ?_
      refine kj_imul hC dL_areTrips_284 ?_
      refine kj_icmp_ne (tgt := 292) hC dL_areTrips_285 (by decide) (fun q3 => ?_) (fun q3 => ?_)
      · refine kj_iconst (v := 1) hC dL_areTrips_288 (by decide) ?_
        refine kj_goto (tgt := 293) hC dL_areTrips_289 (by decide) ?_
        exact kj_sub [1, 2, 3, 4, 5, 6, 7, 8, 10, 11, 12, 0] rfl (t_L_areTrips_b293 hC hN hT hmc hms hD rc15 hr15 v0 v1 v2 v3 v4 v5 v6 v7 v10 v11 v12 s0 1 h1)
      · refine kj_iconst (v := 0) hC dL_areTrips_292 (by decide) ?_
        exact kj_sub [1, 2, 3, 4, 5, 6, 7, 8, 10, 11, 12, 0] rfl (t_L_areTrips_b293 hC hN hT hmc hms hD rc15 hr15 v0 v1 v2 v3 v4 v5 v6 v7 v10 v11 v12 s0 0 h1)
set_option maxHeartbeats 4000000 in
set_option maxRecDepth 100000 in
theorem t_L_areTrips_b248 {X : KX} (hC : kC X RL cL_areTrips 15 (some .boolean)) (hN : (xme X).name = yL_areTrips.name) (hT : kT0 X) (hmc : xmc X = 9) (hms : xms X = 151) (hD : xD X = 9) (rc15 : Nat → Nat → Nat → Nat → Nat → Int32 → Int32 → Int32 → Int32 → Int32 → Int32 → KH → KO Int32) (hr15 : ∀ (v0 : Nat) (v1 : Nat) (v2 : Nat) (v3 : Nat) (v4 : Nat) (v5 : Int32) (v6 : Int32) (v7 : Int32) (v8 : Int32) (v9 : Int32) (v10 : Int32) (h : KH), kJ X (fun x : Int32 => some (.inl x)) 15 0 0 [(0, .inr (.inr (some v0))), (1, .inr (.inr (some v1))), (2, .inr (.inr (some v2))), (3, .inr (.inr (some v3))), (4, .inr (.inr (some v4))), (5, .inl v5), (6, .inl v6), (7, .inl v7), (8, .inl v8), (9, .inl v9), (10, .inl v10)] [] 15 h (rc15 v0 v1 v2 v3 v4 v5 v6 v7 v8 v9 v10 h)) (v0 : Nat) (v1 : Nat) (v2 : Nat) (v3 : Nat) (v4 : Nat) (v5 : Int32) (v6 : Int32) (v7 : Int32) (v9 : Int32) (v10 : Int32) (v11 : Int32) (v12 : Int32) (h : KH) : kJ X (fun x : Int32 => some (.inl x)) 15 0 0 [(0, .inr (.inr (some v0))), (1, .inr (.inr (some v1))), (2, .inr (.inr (some v2))), (3, .inr (.inr (some v3))), (4, .inr (.inr (some v4))), (5, .inl v5), (6, .inl v6), (7, .inl v7), (9, .inl v9), (10, .inl v10), (11, .inl v11), (12, .inl v12)] [] 248 h (L_areTrips_b248 rc15 v0 v1 v2 v3 v4 v5 v6 v7 v9 v10 v11 v12 h) := by
  unfold L_areTrips_b248
  refine kj_iconst (v := 1) hC dL_areTrips_248 (by decide) ?_
  refine kj_goto (tgt := 253) hC dL_areTrips_249 (by decide) ?_
  exact kj_sub [0, 1, 2, 3, 4, 5, 6, 7, 8, 9, 10, 11] rfl (t_L_areTrips_b253 hC hN hT hmc hms hD rc15 hr15 v0 v1 v2 v3 v4 v5 v6 v7 v9 v10 v11 v12 1 h)
set_option maxHeartbeats 4000000 in
set_option maxRecDepth 100000 in
theorem t_L_areTrips_b219 {X : KX} (hC : kC X RL cL_areTrips 15 (some .boolean)) (hN : (xme X).name = yL_areTrips.name) (hT : kT0 X) (hmc : xmc X = 9) (hms : xms X = 151) (hD : xD X = 9) (rc15 : Nat → Nat → Nat → Nat → Nat → Int32 → Int32 → Int32 → Int32 → Int32 → Int32 → KH → KO Int32) (hr15 : ∀ (v0 : Nat) (v1 : Nat) (v2 : Nat) (v3 : Nat) (v4 : Nat) (v5 : Int32) (v6 : Int32) (v7 : Int32) (v8 : Int32) (v9 : Int32) (v10 : Int32) (h : KH), kJ X (fun x : Int32 => some (.inl x)) 15 0 0 [(0, .inr (.inr (some v0))), (1, .inr (.inr (some v1))), (2, .inr (.inr (some v2))), (3, .inr (.inr (some v3))), (4, .inr (.inr (some v4))), (5, .inl v5), (6, .inl v6), (7, .inl v7), (8, .inl v8), (9, .inl v9), (10, .inl v10)] [] 15 h (rc15 v0 v1 v2 v3 v4 v5 v6 v7 v8 v9 v10 h)) (v0 : Nat) (v1 : Nat) (v2 : Nat) (v3 : Nat) (v4 : Nat) (v5 : Int32) (v6 : Int32) (v7 : Int32) (v9 : Int32) (v10 : Int32) (v11 : Int32) (v12 : Int32) (s0 : Int32) (h : KH) : kJ X (fun x : Int32 => some (.inl x)) 15 0 0 [(0, .inr (.inr (some v0))), (1, .inr (.inr (some v1))), (2, .inr (.inr (some v2))), (3, .inr (.inr (some v3))), (4, .inr (.inr (some v4))), (5, .inl v5), (6, .inl v6), (7, .inl v7), (9, .inl v9), (10, .inl v10), (11, .inl v11), (12, .inl v12)] [.inl s0] 219 h (L_areTrips_b219 rc15 v0 v1 v2 v3 v4 v5 v6 v7 v9 v10 v11 v12 s0 h) := by
  unfold L_areTrips_b219
  refine kj_istore (L' := [(13, .inl s0), (0, .inr (.inr (some v0))), (1, .inr (.inr (some v1))), (2, .inr (.inr (some v2))), (3, .inr (.inr (some v3))), (4, .inr (.inr (some v4))), (5, .inl v5), (6, .inl v6), (7, .inl v7), (9, .inl v9), (10, .inl v10), (11, .inl v11), (12, .inl v12)]) hC dL_areTrips_219 (by decide) rfl ?_
  refine kj_iload hC 12 dL_areTrips_221 rfl ?_
  refine kj_if_lt (tgt := 248) hC dL_areTrips_223 (by decide) (fun q1 => ?_) (fun q1 => ?_)
  · exact kj_sub [1, 2, 3, 4, 5, 6, 7, 8, 9, 10, 11, 12] rfl (t_L_areTrips_b248 hC hN hT hmc hms hD rc15 hr15 v0 v1 v2 v3 v4 v5 v6 v7 v9 v10 v11 v12 h)
  · refine kj_iload hC 0 dL_areTrips_226 rfl ?_
    refine kj_iconst (v := 2) hC dL_areTrips_228 (by decide) ?_
    refine kj_iload hC 12 dL_areTrips_229 rfl ?_
    refine kj_imul hC dL_areTrips_231 ?_
    refine kj_aloadn hC 4 dL_areTrips_232 rfl rfl ?_
    refine kj_iconst (v := 1) hC dL_areTrips_233 (by decide) ?_
    refine kj_gAIc (c := 31) hC rfl dL_areTrips_234 (fun x1 => ?_)
    refine kj_iadd hC dL_areTrips_235 ?_
    refine kj_icmp_gt (tgt := 248) hC dL_areTrips_236 (by decide) (fun q2 => ?_) (fun q2 => ?_)
    · exact kj_sub [1, 2, 3, 4, 5, 6, 7, 8, 9, 10, 11, 12] rfl (t_L_areTrips_b248 hC hN hT hmc hms hD rc15 hr15 v0 v1 v2 v3 v4 v5 v6 v7 v9 v10 v11 v12 h)
    · refine kj_iconst (v := 4) hC dL_areTrips_239 (by decide) ?_
      refine kj_iload hC 0 dL_areTrips_240 rfl ?_
      refine kj_imul hC dL_areTrips_242 ?_
      refine kj_iload hC 12 dL_areTrips_243 rfl ?_
      refine kj_icmp_ge (tgt := 252) hC dL_areTrips_245 (by decide) (fun q3 => ?_) (fun q3 => ?_)
      · refine kj_iconst (v := 0) hC dL_areTrips_252 (by decide) ?_
        exact kj_sub [1, 2, 3, 4, 5, 6, 7, 8, 9, 10, 11, 12] rfl (t_L_areTrips_b253 hC hN hT hmc hms hD rc15 hr15 v0 v1 v2 v3 v4 v5 v6 v7 v9 v10 v11 v12 0 h)
      · exact kj_sub [1, 2, 3, 4, 5, 6, 7, 8, 9, 10, 11, 12] rfl (t_L_areTrips_b248 hC hN hT hmc hms hD rc15 hr15 v0 v1 v2 v3 v4 v5 v6 v7 v9 v10 v11 v12 h)
set_option maxHeartbeats 4000000 in
set_option maxRecDepth 100000 in
theorem t_L_areTrips_b202 {X : KX} (hC : kC X RL cL_areTrips 15 (some .boolean)) (hN : (xme X).name = yL_areTrips.name) (hT : kT0 X) (hmc : xmc X = 9) (hms : xms X = 151) (hD : xD X = 9) (rc15 : Nat → Nat → Nat → Nat → Nat → Int32 → Int32 → Int32 → Int32 → Int32 → Int32 → KH → KO Int32) (hr15 : ∀ (v0 : Nat) (v1 : Nat) (v2 : Nat) (v3 : Nat) (v4 : Nat) (v5 : Int32) (v6 : Int32) (v7 : Int32) (v8 : Int32) (v9 : Int32) (v10 : Int32) (h : KH), kJ X (fun x : Int32 => some (.inl x)) 15 0 0 [(0, .inr (.inr (some v0))), (1, .inr (.inr (some v1))), (2, .inr (.inr (some v2))), (3, .inr (.inr (some v3))), (4, .inr (.inr (some v4))), (5, .inl v5), (6, .inl v6), (7, .inl v7), (8, .inl v8), (9, .inl v9), (10, .inl v10)] [] 15 h (rc15 v0 v1 v2 v3 v4 v5 v6 v7 v8 v9 v10 h)) (v0 : Nat) (v1 : Nat) (v2 : Nat) (v3 : Nat) (v4 : Nat) (v5 : Int32) (v6 : Int32) (v7 : Int32) (v9 : Int32) (v10 : Int32) (v11 : Int32) (v12 : Int32) (h : KH) : kJ X (fun x : Int32 => some (.inl x)) 15 0 0 [(0, .inr (.inr (some v0))), (1, .inr (.inr (some v1))), (2, .inr (.inr (some v2))), (3, .inr (.inr (some v3))), (4, .inr (.inr (some v4))), (5, .inl v5), (6, .inl v6), (7, .inl v7), (9, .inl v9), (10, .inl v10), (11, .inl v11), (12, .inl v12)] [] 202 h (L_areTrips_b202 rc15 v0 v1 v2 v3 v4 v5 v6 v7 v9 v10 v11 v12 h) := by
  unfold L_areTrips_b202
  refine kj_iconst (v := 0) hC dL_areTrips_202 (by decide) ?_
  refine kj_goto (tgt := 219) hC dL_areTrips_203 (by decide) ?_
  exact kj_sub [0, 1, 2, 3, 4, 5, 6, 7, 8, 9, 10, 11] rfl (t_L_areTrips_b219 hC hN hT hmc hms hD rc15 hr15 v0 v1 v2 v3 v4 v5 v6 v7 v9 v10 v11 v12 0 h)
set_option maxHeartbeats 4000000 in
set_option maxRecDepth 100000 in
theorem t_L_areTrips_b190 {X : KX} (hC : kC X RL cL_areTrips 15 (some .boolean)) (hN : (xme X).name = yL_areTrips.name) (hT : kT0 X) (hmc : xmc X = 9) (hms : xms X = 151) (hD : xD X = 9) (rc15 : Nat → Nat → Nat → Nat → Nat → Int32 → Int32 → Int32 → Int32 → Int32 → Int32 → KH → KO Int32) (hr15 : ∀ (v0 : Nat) (v1 : Nat) (v2 : Nat) (v3 : Nat) (v4 : Nat) (v5 : Int32) (v6 : Int32) (v7 : Int32) (v8 : Int32) (v9 : Int32) (v10 : Int32) (h : KH), kJ X (fun x : Int32 => some (.inl x)) 15 0 0 [(0, .inr (.inr (some v0))), (1, .inr (.inr (some v1))), (2, .inr (.inr (some v2))), (3, .inr (.inr (some v3))), (4, .inr (.inr (some v4))), (5, .inl v5), (6, .inl v6), (7, .inl v7), (8, .inl v8), (9, .inl v9), (10, .inl v10)] [] 15 h (rc15 v0 v1 v2 v3 v4 v5 v6 v7 v8 v9 v10 h)) (v0 : Nat) (v1 : Nat) (v2 : Nat) (v3 : Nat) (v4 : Nat) (v5 : Int32) (v6 : Int32) (v7 : Int32) (v8 : Int32) (v9 : Int32) (v10 : Int32) (v11 : Int32) (s0 : Int32) (h : KH) : kJ X (fun x : Int32 => some (.inl x)) 15 0 0 [(0, .inr (.inr (some v0))), (1, .inr (.inr (some v1))), (2, .inr (.inr (some v2))), (3, .inr (.inr (some v3))), (4, .inr (.inr (some v4))), (5, .inl v5), (6, .inl v6), (7, .inl v7), (8, .inl v8), (9, .inl v9), (10, .inl v10), (11, .inl v11)] [.inl s0] 190 h (L_areTrips_b190 rc15 v0 v1 v2 v3 v4 v5 v6 v7 v8 v9 v10 v11 s0 h) := by
  unfold L_areTrips_b190
  refine kj_istore (L' := [(12, .inl s0), (0, .inr (.inr (some v0))), (1, .inr (.inr (some v1))), (2, .inr (.inr (some v2))), (3, .inr (.inr (some v3))), (4, .inr (.inr (some v4))), (5, .inl v5), (6, .inl v6), (7, .inl v7), (8, .inl v8), (9, .inl v9), (10, .inl v10), (11, .inl v11)]) hC dL_areTrips_190 (by decide) rfl ?_
  refine kj_iload hC 9 dL_areTrips_192 rfl ?_
  refine kj_if_lt (tgt := 202) hC dL_areTrips_194 (by decide) (fun q1 => ?_) (fun q1 => ?_)
  · exact kj_sub [1, 2, 3, 4, 5, 6, 7, 8, 10, 11, 12, 0] rfl (t_L_areTrips_b202 hC hN hT hmc hms hD rc15 hr15 v0 v1 v2 v3 v4 v5 v6 v7 v9 v10 v11 s0 h)
  · refine kj_iload hC 12 dL_areTrips_197 rfl ?_
    refine kj_if_ge (tgt := 206) hC dL_areTrips_199 (by decide) (fun q2 => ?_) (fun q2 => ?_)
    · refine kj_aloadn hC 2 dL_areTrips_206 rfl rfl ?_
      refine kj_iload hC 12 dL_areTrips_207 rfl ?_
      refine kj_invS (as := [.inr (.inr (some v1)), .inl v11]) (rest := []) hC hT dL_areTrips_209 kw814 ky_L_minute ky2_L_minute (t_L_minute v1 v11 h) rfl rfl (Nat.le_of_ble_eq_true rfl) ⟨by rw [hD]; decide, by decide⟩ ⟨by rw [hmc]; exact Nat.le_of_ble_eq_true rfl, by rw [hms]; exact Nat.le_of_ble_eq_true rfl⟩ (fun x1 h1 => ?_)
      refine kj_norm (st' := [.inl x1]) (c' := 0) (z' := 0) rfl rfl rfl ?_
      refine kj_aloadn hC 2 dL_areTrips_212 rfl rfl ?_
      refine kj_iload hC 9 dL_areTrips_213 rfl ?_
      refine kj_invS (as := [.inr (.inr (some v1)), .inl v8]) (rest := [.inl x1]) hC hT dL_areTrips_215 kw814 ky_L_minute ky2_L_minute (t_L_minute v1 v8 h1) rfl rfl (Nat.le_of_ble_eq_true rfl) ⟨by rw [hD]; decide, by decide⟩ ⟨by rw [hmc]; exact Nat.le_of_ble_eq_true rfl, by rw [hms]; exact Nat.le_of_ble_eq_true rfl⟩ (fun x2 h2 => ?_)
      refine kj_norm (st' := [.inl x2, .inl x1]) (c' := 0) (z' := 0) rfl rfl rfl ?_
      refine kj_isub hC dL_areTrips_218 ?_
      exact kj_sub [1, 2, 3, 4, 5, 6, 7, 8, 10, 11, 12, 0] rfl (t_L_areTrips_b219 hC hN hT hmc hms hD rc15 hr15 v0 v1 v2 v3 v4 v5 v6 v7 v9 v10 v11 s0 (x1 - x2) h2)
    · exact kj_sub [1, 2, 3, 4, 5, 6, 7, 8, 10, 11, 12, 0] rfl (t_L_areTrips_b202 hC hN hT hmc hms hD rc15 hr15 v0 v1 v2 v3 v4 v5 v6 v7 v9 v10 v11 s0 h)
set_option maxHeartbeats 4000000 in
set_option maxRecDepth 100000 in
theorem t_L_areTrips_b164 {X : KX} (hC : kC X RL cL_areTrips 15 (some .boolean)) (hN : (xme X).name = yL_areTrips.name) (hT : kT0 X) (hmc : xmc X = 9) (hms : xms X = 151) (hD : xD X = 9) (rc15 : Nat → Nat → Nat → Nat → Nat → Int32 → Int32 → Int32 → Int32 → Int32 → Int32 → KH → KO Int32) (hr15 : ∀ (v0 : Nat) (v1 : Nat) (v2 : Nat) (v3 : Nat) (v4 : Nat) (v5 : Int32) (v6 : Int32) (v7 : Int32) (v8 : Int32) (v9 : Int32) (v10 : Int32) (h : KH), kJ X (fun x : Int32 => some (.inl x)) 15 0 0 [(0, .inr (.inr (some v0))), (1, .inr (.inr (some v1))), (2, .inr (.inr (some v2))), (3, .inr (.inr (some v3))), (4, .inr (.inr (some v4))), (5, .inl v5), (6, .inl v6), (7, .inl v7), (8, .inl v8), (9, .inl v9), (10, .inl v10)] [] 15 h (rc15 v0 v1 v2 v3 v4 v5 v6 v7 v8 v9 v10 h)) (v0 : Nat) (v1 : Nat) (v2 : Nat) (v3 : Nat) (v4 : Nat) (v5 : Int32) (v6 : Int32) (v7 : Int32) (v8 : Int32) (v9 : Int32) (v10 : Int32) (v11 : Int32) (h : KH) : kJ X (fun x : Int32 => some (.inl x)) 15 0 0 [(0, .inr (.inr (some v0))), (1, .inr (.inr (some v1))), (2, .inr (.inr (some v2))), (3, .inr (.inr (some v3))), (4, .inr (.inr (some v4))), (5, .inl v5), (6, .inl v6), (7, .inl v7), (8, .inl v8), (9, .inl v9), (10, .inl v10), (11, .inl v11)] [] 164 h (L_areTrips_b164 rc15 v0 v1 v2 v3 v4 v5 v6 v7 v8 v9 v10 v11 h) := by
  unfold L_areTrips_b164
  refine kj_iconst (v := (-1)) hC dL_areTrips_164 (by decide) ?_
  refine kj_goto (tgt := 190) hC dL_areTrips_165 (by decide) ?_
  exact kj_sub [0, 1, 2, 3, 4, 5, 6, 7, 8, 9, 10, 11] rfl (t_L_areTrips_b190 hC hN hT hmc hms hD rc15 hr15 v0 v1 v2 v3 v4 v5 v6 v7 v8 v9 v10 v11 ((-1)) h)
set_option maxHeartbeats 4000000 in
set_option maxRecDepth 100000 in
theorem t_L_areTrips_b146 {X : KX} (hC : kC X RL cL_areTrips 15 (some .boolean)) (hN : (xme X).name = yL_areTrips.name) (hT : kT0 X) (hmc : xmc X = 9) (hms : xms X = 151) (hD : xD X = 9) (rc15 : Nat → Nat → Nat → Nat → Nat → Int32 → Int32 → Int32 → Int32 → Int32 → Int32 → KH → KO Int32) (hr15 : ∀ (v0 : Nat) (v1 : Nat) (v2 : Nat) (v3 : Nat) (v4 : Nat) (v5 : Int32) (v6 : Int32) (v7 : Int32) (v8 : Int32) (v9 : Int32) (v10 : Int32) (h : KH), kJ X (fun x : Int32 => some (.inl x)) 15 0 0 [(0, .inr (.inr (some v0))), (1, .inr (.inr (some v1))), (2, .inr (.inr (some v2))), (3, .inr (.inr (some v3))), (4, .inr (.inr (some v4))), (5, .inl v5), (6, .inl v6), (7, .inl v7), (8, .inl v8), (9, .inl v9), (10, .inl v10)] [] 15 h (rc15 v0 v1 v2 v3 v4 v5 v6 v7 v8 v9 v10 h)) (rc34 : Nat → Nat → Nat → Nat → Nat → Int32 → Int32 → Int32 → Int32 → Int32 → Int32 → Int32 → Int32 → KH → KO Int32) (hr34 : ∀ (v0 : Nat) (v1 : Nat) (v2 : Nat) (v3 : Nat) (v4 : Nat) (v5 : Int32) (v6 : Int32) (v7 : Int32) (v8 : Int32) (v9 : Int32) (v10 : Int32) (v11 : Int32) (v12 : Int32) (h : KH), kJ X (fun x : Int32 => some (.inl x)) 15 0 0 [(0, .inr (.inr (some v0))), (1, .inr (.inr (some v1))), (2, .inr (.inr (some v2))), (3, .inr (.inr (some v3))), (4, .inr (.inr (some v4))), (5, .inl v5), (6, .inl v6), (7, .inl v7), (8, .inl v8), (9, .inl v9), (10, .inl v10), (11, .inl v11), (12, .inl v12)] [] 34 h (rc34 v0 v1 v2 v3 v4 v5 v6 v7 v8 v9 v10 v11 v12 h)) (v0 : Nat) (v1 : Nat) (v2 : Nat) (v3 : Nat) (v4 : Nat) (v5 : Int32) (v6 : Int32) (v7 : Int32) (v8 : Int32) (v9 : Int32) (v10 : Int32) (v12 : Int32) (s0 : Int32) (h : KH) : kJ X (fun x : Int32 => some (.inl x)) 15 0 0 [(0, .inr (.inr (some v0))), (1, .inr (.inr (some v1))), (2, .inr (.inr (some v2))), (3, .inr (.inr (some v3))), (4, .inr (.inr (some v4))), (5, .inl v5), (6, .inl v6), (7, .inl v7), (8, .inl v8), (9, .inl v9), (10, .inl v10), (12, .inl v12)] [.inl s0] 146 h (L_areTrips_b146 rc15 rc34 v0 v1 v2 v3 v4 v5 v6 v7 v8 v9 v10 v12 s0 h) := by
  unfold L_areTrips_b146
  refine kj_istore (L' := [(11, .inl s0), (0, .inr (.inr (some v0))), (1, .inr (.inr (some v1))), (2, .inr (.inr (some v2))), (3, .inr (.inr (some v3))), (4, .inr (.inr (some v4))), (5, .inl v5), (6, .inl v6), (7, .inl v7), (8, .inl v8), (9, .inl v9), (10, .inl v10), (12, .inl v12)]) hC dL_areTrips_146 (by decide) rfl ?_
  refine kj_iinc (v := v12 + 1) (L' := [(12, .inl (v12 + 1)), (11, .inl s0), (0, .inr (.inr (some v0))), (1, .inr (.inr (some v1))), (2, .inr (.inr (some v2))), (3, .inr (.inr (some v3))), (4, .inr (.inr (some v4))), (5, .inl v5), (6, .inl v6), (7, .inl v7), (8, .inl v8), (9, .inl v9), (10, .inl v10)]) hC 12 dL_areTrips_148 rfl rfl (by decide) rfl ?_
  refine kj_goto (tgt := 34) hC dL_areTrips_151 (by decide) ?_
  exact kj_sub [2, 3, 4, 5, 6, 7, 8, 9, 10, 11, 12, 1, 0] rfl (hr34 v0 v1 v2 v3 v4 v5 v6 v7 v8 v9 v10 s0 (v12 + 1) h)
set_option maxHeartbeats 4000000 in
set_option maxRecDepth 100000 in
theorem t_L_areTrips_b144 {X : KX} (hC : kC X RL cL_areTrips 15 (some .boolean)) (hN : (xme X).name = yL_areTrips.name) (hT : kT0 X) (hmc : xmc X = 9) (hms : xms X = 151) (hD : xD X = 9) (rc15 : Nat → Nat → Nat → Nat → Nat → Int32 → Int32 → Int32 → Int32 → Int32 → Int32 → KH → KO Int32) (hr15 : ∀ (v0 : Nat) (v1 : Nat) (v2 : Nat) (v3 : Nat) (v4 : Nat) (v5 : Int32) (v6 : Int32) (v7 : Int32) (v8 : Int32) (v9 : Int32) (v10 : Int32) (h : KH), kJ X (fun x : Int32 => some (.inl x)) 15 0 0 [(0, .inr (.inr (some v0))), (1, .inr (.inr (some v1))), (2, .inr (.inr (some v2))), (3, .inr (.inr (some v3))), (4, .inr (.inr (some v4))), (5, .inl v5), (6, .inl v6), (7, .inl v7), (8, .inl v8), (9, .inl v9), (10, .inl v10)] [] 15 h (rc15 v0 v1 v2 v3 v4 v5 v6 v7 v8 v9 v10 h)) (rc34 : Nat → Nat → Nat → Nat → Nat → Int32 → Int32 → Int32 → Int32 → Int32 → Int32 → Int32 → Int32 → KH → KO Int32) (hr34 : ∀ (v0 : Nat) (v1 : Nat) (v2 : Nat) (v3 : Nat) (v4 : Nat) (v5 : Int32) (v6 : Int32) (v7 : Int32) (v8 : Int32) (v9 : Int32) (v10 : Int32) (v11 : Int32) (v12 : Int32) (h : KH), kJ X (fun x : Int32 => some (.inl x)) 15 0 0 [(0, .inr (.inr (some v0))), (1, .inr (.inr (some v1))), (2, .inr (.inr (some v2))), (3, .inr (.inr (some v3))), (4, .inr (.inr (some v4))), (5, .inl v5), (6, .inl v6), (7, .inl v7), (8, .inl v8), (9, .inl v9), (10, .inl v10), (11, .inl v11), (12, .inl v12)] [] 34 h (rc34 v0 v1 v2 v3 v4 v5 v6 v7 v8 v9 v10 v11 v12 h)) (v0 : Nat) (v1 : Nat) (v2 : Nat) (v3 : Nat) (v4 : Nat) (v5 : Int32) (v6 : Int32) (v7 : Int32) (v8 : Int32) (v9 : Int32) (v10 : Int32) (v11 : Int32) (v12 : Int32) (h : KH) : kJ X (fun x : Int32 => some (.inl x)) 15 0 0 [(0, .inr (.inr (some v0))), (1, .inr (.inr (some v1))), (2, .inr (.inr (some v2))), (3, .inr (.inr (some v3))), (4, .inr (.inr (some v4))), (5, .inl v5), (6, .inl v6), (7, .inl v7), (8, .inl v8), (9, .inl v9), (10, .inl v10), (11, .inl v11), (12, .inl v12)] [] 144 h (L_areTrips_b144 rc15 rc34 v0 v1 v2 v3 v4 v5 v6 v7 v8 v9 v10 v11 v12 h) := by
  unfold L_areTrips_b144
  refine kj_iload hC 11 dL_areTrips_144 rfl ?_
  exact kj_sub [0, 1, 2, 3, 4, 5, 6, 7, 8, 9, 10, 12] rfl (t_L_areTrips_b146 hC hN hT hmc hms hD rc15 hr15 rc34 hr34 v0 v1 v2 v3 v4 v5 v6 v7 v8 v9 v10 v12 v11 h)
set_option maxHeartbeats 4000000 in
set_option maxRecDepth 100000 in
theorem t_L_areTrips_b116 {X : KX} (hC : kC X RL cL_areTrips 15 (some .boolean)) (hN : (xme X).name = yL_areTrips.name) (hT : kT0 X) (hmc : xmc X = 9) (hms : xms X = 151) (hD : xD X = 9) (rc15 : Nat → Nat → Nat → Nat → Nat → Int32 → Int32 → Int32 → Int32 → Int32 → Int32 → KH → KO Int32) (hr15 : ∀ (v0 : Nat) (v1 : Nat) (v2 : Nat) (v3 : Nat) (v4 : Nat) (v5 : Int32) (v6 : Int32) (v7 : Int32) (v8 : Int32) (v9 : Int32) (v10 : Int32) (h : KH), kJ X (fun x : Int32 => some (.inl x)) 15 0 0 [(0, .inr (.inr (some v0))), (1, .inr (.inr (some v1))), (2, .inr (.inr (some v2))), (3, .inr (.inr (some v3))), (4, .inr (.inr (some v4))), (5, .inl v5), (6, .inl v6), (7, .inl v7), (8, .inl v8), (9, .inl v9), (10, .inl v10)] [] 15 h (rc15 v0 v1 v2 v3 v4 v5 v6 v7 v8 v9 v10 h)) (rc34 : Nat → Nat → Nat → Nat → Nat → Int32 → Int32 → Int32 → Int32 → Int32 → Int32 → Int32 → Int32 → KH → KO Int32) (hr34 : ∀ (v0 : Nat) (v1 : Nat) (v2 : Nat) (v3 : Nat) (v4 : Nat) (v5 : Int32) (v6 : Int32) (v7 : Int32) (v8 : Int32) (v9 : Int32) (v10 : Int32) (v11 : Int32) (v12 : Int32) (h : KH), kJ X (fun x : Int32 => some (.inl x)) 15 0 0 [(0, .inr (.inr (some v0))), (1, .inr (.inr (some v1))), (2, .inr (.inr (some v2))), (3, .inr (.inr (some v3))), (4, .inr (.inr (some v4))), (5, .inl v5), (6, .inl v6), (7, .inl v7), (8, .inl v8), (9, .inl v9), (10, .inl v10), (11, .inl v11), (12, .inl v12)] [] 34 h (rc34 v0 v1 v2 v3 v4 v5 v6 v7 v8 v9 v10 v11 v12 h)) (v0 : Nat) (v1 : Nat) (v2 : Nat) (v3 : Nat) (v4 : Nat) (v5 : Int32) (v6 : Int32) (v7 : Int32) (v8 : Int32) (v9 : Int32) (v10 : Int32) (v11 : Int32) (v12 : Int32) (v13 : Int32) (s0 : Int32) (h : KH) : kJ X (fun x : Int32 => some (.inl x)) 15 0 0 [(0, .inr (.inr (some v0))), (1, .inr (.inr (some v1))), (2, .inr (.inr (some v2))), (3, .inr (.inr (some v3))), (4, .inr (.inr (some v4))), (5, .inl v5), (6, .inl v6), (7, .inl v7), (8, .inl v8), (9, .inl v9), (10, .inl v10), (11, .inl v11), (12, .inl v12), (13, .inl v13)] [.inl s0] 116 h (L_areTrips_b116 rc15 rc34 v0 v1 v2 v3 v4 v5 v6 v7 v8 v9 v10 v11 v12 v13 s0 h) := by
  unfold L_areTrips_b116
  refine kj_istore (L' := [(14, .inl s0), (0, .inr (.inr (some v0))), (1, .inr (.inr (some v1))), (2, .inr (.inr (some v2))), (3, .inr (.inr (some v3))), (4, .inr (.inr (some v4))), (5, .inl v5), (6, .inl v6), (7, .inl v7), (8, .inl v8), (9, .inl v9), (10, .inl v10), (11, .inl v11), (12, .inl v12), (13, .inl v13)]) hC dL_areTrips_116 (by decide) rfl ?_
  refine kj_aloadn hC 1 dL_areTrips_118 rfl rfl ?_
  refine kj_iload hC 13 dL_areTrips_119 rfl ?_
  refine kj_ghost (n := 0) ?_
  refine kj_invV (ci := 9) (q := (RX9, TX9, 17)) (as := [.inl v12]) (rest := []) hC hT dL_areTrips_121 kw629 ky_X9_plateOf ky2_X9_plateOf rfl rfl (t_zX9_plateOf v0 v12 (sX h (0))) rfl rfl (Nat.le_of_ble_eq_true rfl) ⟨by rw [hD]; decide, by decide⟩ ⟨by rw [hmc]; exact Nat.le_of_ble_eq_true rfl, by rw [hms]; exact Nat.le_of_ble_eq_true rfl⟩ (fun x1 h1 => ?_)
  refine kj_norm (st' := [.inl x1]) (c' := 0) (z' := 0) rfl rfl rfl ?_
  refine kj_iload hC 6 dL_areTrips_124 rfl ?_
  refine kj_icmp_ne (tgt := 144) hC dL_areTrips_126 (by decide) (fun q1 => ?_) (fun q1 => ?_)
  · refine kj_iload hC 14 dL_areTrips_129 rfl ?_
    refine kj_if_eq (tgt := 144) hC dL_areTrips_131 (by decide) (fun q2 => ?_) (fun q2 => ?_)
    · exact kj_sub [1, 2, 3, 4, 5, 6, 7, 8, 9, 10, 11, 12, 13] rfl (t_L_areTrips_b144 hC hN hT hmc hms hD rc15 hr15 rc34 hr34 v0 v1 v2 v3 v4 v5 v6 v7 v8 v9 v10 v11 v12 h1)
    · refine kj_iload hC 0 dL_areTrips_134 rfl ?_
      refine kj_if_eq (tgt := 144) hC dL_areTrips_136 (by decide) (fun q3 => ?_) (fun q3 => ?_)
      · exact kj_sub [1, 2, 3, 4, 5, 6, 7, 8, 9, 10, 11, 12, 13] rfl (t_L_areTrips_b144 hC hN hT hmc hms hD rc15 hr15 rc34 hr34 v0 v1 v2 v3 v4 v5 v6 v7 v8 v9 v10 v11 v12 h1)
      · refine kj_iload hC 13 dL_areTrips_139 rfl ?_
        refine kj_goto (tgt := 146) hC dL_areTrips_141 (by decide) ?_
        exact kj_sub [1, 2, 3, 4, 5, 6, 7, 8, 9, 10, 11, 13] rfl (t_L_areTrips_b146 hC hN hT hmc hms hD rc15 hr15 rc34 hr34 v0 v1 v2 v3 v4 v5 v6 v7 v8 v9 v10 v12 v12 h1)
  · exact kj_sub [1, 2, 3, 4, 5, 6, 7, 8, 9, 10, 11, 12, 13] rfl (t_L_areTrips_b144 hC hN hT hmc hms hD rc15 hr15 rc34 hr34 v0 v1 v2 v3 v4 v5 v6 v7 v8 v9 v10 v11 v12 h1)
set_option maxHeartbeats 4000000 in
set_option maxRecDepth 100000 in
theorem t_L_areTrips_b111 {X : KX} (hC : kC X RL cL_areTrips 15 (some .boolean)) (hN : (xme X).name = yL_areTrips.name) (hT : kT0 X) (hmc : xmc X = 9) (hms : xms X = 151) (hD : xD X = 9) (rc15 : Nat → Nat → Nat → Nat → Nat → Int32 → Int32 → Int32 → Int32 → Int32 → Int32 → KH → KO Int32) (hr15 : ∀ (v0 : Nat) (v1 : Nat) (v2 : Nat) (v3 : Nat) (v4 : Nat) (v5 : Int32) (v6 : Int32) (v7 : Int32) (v8 : Int32) (v9 : Int32) (v10 : Int32) (h : KH), kJ X (fun x : Int32 => some (.inl x)) 15 0 0 [(0, .inr (.inr (some v0))), (1, .inr (.inr (some v1))), (2, .inr (.inr (some v2))), (3, .inr (.inr (some v3))), (4, .inr (.inr (some v4))), (5, .inl v5), (6, .inl v6), (7, .inl v7), (8, .inl v8), (9, .inl v9), (10, .inl v10)] [] 15 h (rc15 v0 v1 v2 v3 v4 v5 v6 v7 v8 v9 v10 h)) (rc34 : Nat → Nat → Nat → Nat → Nat → Int32 → Int32 → Int32 → Int32 → Int32 → Int32 → Int32 → Int32 → KH → KO Int32) (hr34 : ∀ (v0 : Nat) (v1 : Nat) (v2 : Nat) (v3 : Nat) (v4 : Nat) (v5 : Int32) (v6 : Int32) (v7 : Int32) (v8 : Int32) (v9 : Int32) (v10 : Int32) (v11 : Int32) (v12 : Int32) (h : KH), kJ X (fun x : Int32 => some (.inl x)) 15 0 0 [(0, .inr (.inr (some v0))), (1, .inr (.inr (some v1))), (2, .inr (.inr (some v2))), (3, .inr (.inr (some v3))), (4, .inr (.inr (some v4))), (5, .inl v5), (6, .inl v6), (7, .inl v7), (8, .inl v8), (9, .inl v9), (10, .inl v10), (11, .inl v11), (12, .inl v12)] [] 34 h (rc34 v0 v1 v2 v3 v4 v5 v6 v7 v8 v9 v10 v11 v12 h)) (v0 : Nat) (v1 : Nat) (v2 : Nat) (v3 : Nat) (v4 : Nat) (v5 : Int32) (v6 : Int32) (v7 : Int32) (v8 : Int32) (v9 : Int32) (v10 : Int32) (v11 : Int32) (v12 : Int32) (v13 : Int32) (h : KH) : kJ X (fun x : Int32 => some (.inl x)) 15 0 0 [(0, .inr (.inr (some v0))), (1, .inr (.inr (some v1))), (2, .inr (.inr (some v2))), (3, .inr (.inr (some v3))), (4, .inr (.inr (some v4))), (5, .inl v5), (6, .inl v6), (7, .inl v7), (8, .inl v8), (9, .inl v9), (10, .inl v10), (11, .inl v11), (12, .inl v12), (13, .inl v13)] [] 111 h (L_areTrips_b111 rc15 rc34 v0 v1 v2 v3 v4 v5 v6 v7 v8 v9 v10 v11 v12 v13 h) := by
  unfold L_areTrips_b111
  refine kj_iconst (v := 1) hC dL_areTrips_111 (by decide) ?_
  refine kj_goto (tgt := 116) hC dL_areTrips_112 (by decide) ?_
  exact kj_sub [0, 1, 2, 3, 4, 5, 6, 7, 8, 9, 10, 11, 12, 13] rfl (t_L_areTrips_b116 hC hN hT hmc hms hD rc15 hr15 rc34 hr34 v0 v1 v2 v3 v4 v5 v6 v7 v8 v9 v10 v11 v12 v13 1 h)
set_option maxHeartbeats 4000000 in
set_option maxRecDepth 100000 in
theorem t_L_areTrips_b89 {X : KX} (hC : kC X RL cL_areTrips 15 (some .boolean)) (hN : (xme X).name = yL_areTrips.name) (hT : kT0 X) (hmc : xmc X = 9) (hms : xms X = 151) (hD : xD X = 9) (rc15 : Nat → Nat → Nat → Nat → Nat → Int32 → Int32 → Int32 → Int32 → Int32 → Int32 → KH → KO Int32) (hr15 : ∀ (v0 : Nat) (v1 : Nat) (v2 : Nat) (v3 : Nat) (v4 : Nat) (v5 : Int32) (v6 : Int32) (v7 : Int32) (v8 : Int32) (v9 : Int32) (v10 : Int32) (h : KH), kJ X (fun x : Int32 => some (.inl x)) 15 0 0 [(0, .inr (.inr (some v0))), (1, .inr (.inr (some v1))), (2, .inr (.inr (some v2))), (3, .inr (.inr (some v3))), (4, .inr (.inr (some v4))), (5, .inl v5), (6, .inl v6), (7, .inl v7), (8, .inl v8), (9, .inl v9), (10, .inl v10)] [] 15 h (rc15 v0 v1 v2 v3 v4 v5 v6 v7 v8 v9 v10 h)) (rc34 : Nat → Nat → Nat → Nat → Nat → Int32 → Int32 → Int32 → Int32 → Int32 → Int32 → Int32 → Int32 → KH → KO Int32) (hr34 : ∀ (v0 : Nat) (v1 : Nat) (v2 : Nat) (v3 : Nat) (v4 : Nat) (v5 : Int32) (v6 : Int32) (v7 : Int32) (v8 : Int32) (v9 : Int32) (v10 : Int32) (v11 : Int32) (v12 : Int32) (h : KH), kJ X (fun x : Int32 => some (.inl x)) 15 0 0 [(0, .inr (.inr (some v0))), (1, .inr (.inr (some v1))), (2, .inr (.inr (some v2))), (3, .inr (.inr (some v3))), (4, .inr (.inr (some v4))), (5, .inl v5), (6, .inl v6), (7, .inl v7), (8, .inl v8), (9, .inl v9), (10, .inl v10), (11, .inl v11), (12, .inl v12)] [] 34 h (rc34 v0 v1 v2 v3 v4 v5 v6 v7 v8 v9 v10 v11 v12 h)) (v0 : Nat) (v1 : Nat) (v2 : Nat) (v3 : Nat) (v4 : Nat) (v5 : Int32) (v6 : Int32) (v7 : Int32) (v8 : Int32) (v9 : Int32) (v10 : Int32) (v11 : Int32) (v12 : Int32) (s0 : Int32) (h : KH) : kJ X (fun x : Int32 => some (.inl x)) 15 0 0 [(0, .inr (.inr (some v0))), (1, .inr (.inr (some v1))), (2, .inr (.inr (some v2))), (3, .inr (.inr (some v3))), (4, .inr (.inr (some v4))), (5, .inl v5), (6, .inl v6), (7, .inl v7), (8, .inl v8), (9, .inl v9), (10, .inl v10), (11, .inl v11), (12, .inl v12)] [.inl s0] 89 h (L_areTrips_b89 rc15 rc34 v0 v1 v2 v3 v4 v5 v6 v7 v8 v9 v10 v11 v12 s0 h) := by
  unfold L_areTrips_b89
  refine kj_istore (L' := [(13, .inl s0), (0, .inr (.inr (some v0))), (1, .inr (.inr (some v1))), (2, .inr (.inr (some v2))), (3, .inr (.inr (some v3))), (4, .inr (.inr (some v4))), (5, .inl v5), (6, .inl v6), (7, .inl v7), (8, .inl v8), (9, .inl v9), (10, .inl v10), (11, .inl v11), (12, .inl v12)]) hC dL_areTrips_89 (by decide) rfl ?_
  refine kj_iload hC 12 dL_areTrips_91 rfl ?_
  refine kj_if_lt (tgt := 111) hC dL_areTrips_93 (by decide) (fun q1 => ?_) (fun q1 => ?_)
  · exact kj_sub [1, 2, 3, 4, 5, 6, 7, 8, 9, 10, 11, 12, 13, 0] rfl (t_L_areTrips_b111 hC hN hT hmc hms hD rc15 hr15 rc34 hr34 v0 v1 v2 v3 v4 v5 v6 v7 v8 v9 v10 v11 v12 s0 h)
  · refine kj_aloadn hC 2 dL_areTrips_96 rfl rfl ?_
    refine kj_iload hC 13 dL_areTrips_97 rfl ?_
    refine kj_invS (as := [.inr (.inr (some v1)), .inl v12]) (rest := []) hC hT dL_areTrips_99 kw814 ky_L_minute ky2_L_minute (t_L_minute v1 v12 h) rfl rfl (Nat.le_of_ble_eq_true rfl) ⟨by rw [hD]; decide, by decide⟩ ⟨by rw [hmc]; exact Nat.le_of_ble_eq_true rfl, by rw [hms]; exact Nat.le_of_ble_eq_true rfl⟩ (fun x1 h1 => ?_)
    refine kj_norm (st' := [.inl x1]) (c' := 0) (z' := 0) rfl rfl rfl ?_
    refine kj_aloadn hC 2 dL_areTrips_102 rfl rfl ?_
    refine kj_iload hC 12 dL_areTrips_103 rfl ?_
    refine kj_invS (as := [.inr (.inr (some v1)), .inl v11]) (rest := [.inl x1]) hC hT dL_areTrips_105 kw814 ky_L_minute ky2_L_minute (t_L_minute v1 v11 h1) rfl rfl (Nat.le_of_ble_eq_true rfl) ⟨by rw [hD]; decide, by decide⟩ ⟨by rw [hmc]; exact Nat.le_of_ble_eq_true rfl, by rw [hms]; exact Nat.le_of_ble_eq_true rfl⟩ (fun x2 h2 => ?_)
    refine kj_norm (st' := [.inl x2, .inl x1]) (c' := 0) (z' := 0) rfl rfl rfl ?_
    refine kj_icmp_ge (tgt := 115) hC dL_areTrips_108 (by decide) (fun q2 => ?_) (fun q2 => ?_)
    · refine kj_iconst (v := 0) hC dL_areTrips_115 (by decide) ?_
      exact kj_sub [1, 2, 3, 4, 5, 6, 7, 8, 9, 10, 11, 12, 13, 0] rfl (t_L_areTrips_b116 hC hN hT hmc hms hD rc15 hr15 rc34 hr34 v0 v1 v2 v3 v4 v5 v6 v7 v8 v9 v10 v11 v12 s0 0 h2)
    · exact kj_sub [1, 2, 3, 4, 5, 6, 7, 8, 9, 10, 11, 12, 13, 0] rfl (t_L_areTrips_b111 hC hN hT hmc hms hD rc15 hr15 rc34 hr34 v0 v1 v2 v3 v4 v5 v6 v7 v8 v9 v10 v11 v12 s0 h2)
set_option maxHeartbeats 4000000 in
set_option maxRecDepth 100000 in
theorem t_L_areTrips_b88 {X : KX} (hC : kC X RL cL_areTrips 15 (some .boolean)) (hN : (xme X).name = yL_areTrips.name) (hT : kT0 X) (hmc : xmc X = 9) (hms : xms X = 151) (hD : xD X = 9) (rc15 : Nat → Nat → Nat → Nat → Nat → Int32 → Int32 → Int32 → Int32 → Int32 → Int32 → KH → KO Int32) (hr15 : ∀ (v0 : Nat) (v1 : Nat) (v2 : Nat) (v3 : Nat) (v4 : Nat) (v5 : Int32) (v6 : Int32) (v7 : Int32) (v8 : Int32) (v9 : Int32) (v10 : Int32) (h : KH), kJ X (fun x : Int32 => some (.inl x)) 15 0 0 [(0, .inr (.inr (some v0))), (1, .inr (.inr (some v1))), (2, .inr (.inr (some v2))), (3, .inr (.inr (some v3))), (4, .inr (.inr (some v4))), (5, .inl v5), (6, .inl v6), (7, .inl v7), (8, .inl v8), (9, .inl v9), (10, .inl v10)] [] 15 h (rc15 v0 v1 v2 v3 v4 v5 v6 v7 v8 v9 v10 h)) (rc34 : Nat → Nat → Nat → Nat → Nat → Int32 → Int32 → Int32 → Int32 → Int32 → Int32 → Int32 → Int32 → KH → KO Int32) (hr34 : ∀ (v0 : Nat) (v1 : Nat) (v2 : Nat) (v3 : Nat) (v4 : Nat) (v5 : Int32) (v6 : Int32) (v7 : Int32) (v8 : Int32) (v9 : Int32) (v10 : Int32) (v11 : Int32) (v12 : Int32) (h : KH), kJ X (fun x : Int32 => some (.inl x)) 15 0 0 [(0, .inr (.inr (some v0))), (1, .inr (.inr (some v1))), (2, .inr (.inr (some v2))), (3, .inr (.inr (some v3))), (4, .inr (.inr (some v4))), (5, .inl v5), (6, .inl v6), (7, .inl v7), (8, .inl v8), (9, .inl v9), (10, .inl v10), (11, .inl v11), (12, .inl v12)] [] 34 h (rc34 v0 v1 v2 v3 v4 v5 v6 v7 v8 v9 v10 v11 v12 h)) (v0 : Nat) (v1 : Nat) (v2 : Nat) (v3 : Nat) (v4 : Nat) (v5 : Int32) (v6 : Int32) (v7 : Int32) (v8 : Int32) (v9 : Int32) (v10 : Int32) (v11 : Int32) (v12 : Int32) (h : KH) : kJ X (fun x : Int32 => some (.inl x)) 15 0 0 [(0, .inr (.inr (some v0))), (1, .inr (.inr (some v1))), (2, .inr (.inr (some v2))), (3, .inr (.inr (some v3))), (4, .inr (.inr (some v4))), (5, .inl v5), (6, .inl v6), (7, .inl v7), (8, .inl v8), (9, .inl v9), (10, .inl v10), (11, .inl v11), (12, .inl v12)] [] 88 h (L_areTrips_b88 rc15 rc34 v0 v1 v2 v3 v4 v5 v6 v7 v8 v9 v10 v11 v12 h) := by
  unfold L_areTrips_b88
  refine kj_iconst (v := 0) hC dL_areTrips_88 (by decide) ?_
  exact kj_sub [0, 1, 2, 3, 4, 5, 6, 7, 8, 9, 10, 11, 12] rfl (t_L_areTrips_b89 hC hN hT hmc hms hD rc15 hr15 rc34 hr34 v0 v1 v2 v3 v4 v5 v6 v7 v8 v9 v10 v11 v12 0 h)
set_option maxHeartbeats 4000000 in
set_option maxRecDepth 100000 in
theorem t_L_areTrips_b84 {X : KX} (hC : kC X RL cL_areTrips 15 (some .boolean)) (hN : (xme X).name = yL_areTrips.name) (hT : kT0 X) (hmc : xmc X = 9) (hms : xms X = 151) (hD : xD X = 9) (rc15 : Nat → Nat → Nat → Nat → Nat → Int32 → Int32 → Int32 → Int32 → Int32 → Int32 → KH → KO Int32) (hr15 : ∀ (v0 : Nat) (v1 : Nat) (v2 : Nat) (v3 : Nat) (v4 : Nat) (v5 : Int32) (v6 : Int32) (v7 : Int32) (v8 : Int32) (v9 : Int32) (v10 : Int32) (h : KH), kJ X (fun x : Int32 => some (.inl x)) 15 0 0 [(0, .inr (.inr (some v0))), (1, .inr (.inr (some v1))), (2, .inr (.inr (some v2))), (3, .inr (.inr (some v3))), (4, .inr (.inr (some v4))), (5, .inl v5), (6, .inl v6), (7, .inl v7), (8, .inl v8), (9, .inl v9), (10, .inl v10)] [] 15 h (rc15 v0 v1 v2 v3 v4 v5 v6 v7 v8 v9 v10 h)) (rc34 : Nat → Nat → Nat → Nat → Nat → Int32 → Int32 → Int32 → Int32 → Int32 → Int32 → Int32 → Int32 → KH → KO Int32) (hr34 : ∀ (v0 : Nat) (v1 : Nat) (v2 : Nat) (v3 : Nat) (v4 : Nat) (v5 : Int32) (v6 : Int32) (v7 : Int32) (v8 : Int32) (v9 : Int32) (v10 : Int32) (v11 : Int32) (v12 : Int32) (h : KH), kJ X (fun x : Int32 => some (.inl x)) 15 0 0 [(0, .inr (.inr (some v0))), (1, .inr (.inr (some v1))), (2, .inr (.inr (some v2))), (3, .inr (.inr (some v3))), (4, .inr (.inr (some v4))), (5, .inl v5), (6, .inl v6), (7, .inl v7), (8, .inl v8), (9, .inl v9), (10, .inl v10), (11, .inl v11), (12, .inl v12)] [] 34 h (rc34 v0 v1 v2 v3 v4 v5 v6 v7 v8 v9 v10 v11 v12 h)) (v0 : Nat) (v1 : Nat) (v2 : Nat) (v3 : Nat) (v4 : Nat) (v5 : Int32) (v6 : Int32) (v7 : Int32) (v8 : Int32) (v9 : Int32) (v10 : Int32) (v11 : Int32) (v12 : Int32) (h : KH) : kJ X (fun x : Int32 => some (.inl x)) 15 0 0 [(0, .inr (.inr (some v0))), (1, .inr (.inr (some v1))), (2, .inr (.inr (some v2))), (3, .inr (.inr (some v3))), (4, .inr (.inr (some v4))), (5, .inl v5), (6, .inl v6), (7, .inl v7), (8, .inl v8), (9, .inl v9), (10, .inl v10), (11, .inl v11), (12, .inl v12)] [] 84 h (L_areTrips_b84 rc15 rc34 v0 v1 v2 v3 v4 v5 v6 v7 v8 v9 v10 v11 v12 h) := by
  unfold L_areTrips_b84
  refine kj_iconst (v := 1) hC dL_areTrips_84 (by decide) ?_
  refine kj_goto (tgt := 89) hC dL_areTrips_85 (by decide) ?_
  exact kj_sub [0, 1, 2, 3, 4, 5, 6, 7, 8, 9, 10, 11, 12] rfl (t_L_areTrips_b89 hC hN hT hmc hms hD rc15 hr15 rc34 hr34 v0 v1 v2 v3 v4 v5 v6 v7 v8 v9 v10 v11 v12 1 h)
set_option maxHeartbeats 4000000 in
set_option maxRecDepth 100000 in
theorem t_L_areTrips_b34 {X : KX} (hC : kC X RL cL_areTrips 15 (some .boolean)) (hN : (xme X).name = yL_areTrips.name) (hT : kT0 X) (hmc : xmc X = 9) (hms : xms X = 151) (hD : xD X = 9) (rc15 : Nat → Nat → Nat → Nat → Nat → Int32 → Int32 → Int32 → Int32 → Int32 → Int32 → KH → KO Int32) (hr15 : ∀ (v0 : Nat) (v1 : Nat) (v2 : Nat) (v3 : Nat) (v4 : Nat) (v5 : Int32) (v6 : Int32) (v7 : Int32) (v8 : Int32) (v9 : Int32) (v10 : Int32) (h : KH), kJ X (fun x : Int32 => some (.inl x)) 15 0 0 [(0, .inr (.inr (some v0))), (1, .inr (.inr (some v1))), (2, .inr (.inr (some v2))), (3, .inr (.inr (some v3))), (4, .inr (.inr (some v4))), (5, .inl v5), (6, .inl v6), (7, .inl v7), (8, .inl v8), (9, .inl v9), (10, .inl v10)] [] 15 h (rc15 v0 v1 v2 v3 v4 v5 v6 v7 v8 v9 v10 h)) (rc34 : Nat → Nat → Nat → Nat → Nat → Int32 → Int32 → Int32 → Int32 → Int32 → Int32 → Int32 → Int32 → KH → KO Int32) (hr34 : ∀ (v0 : Nat) (v1 : Nat) (v2 : Nat) (v3 : Nat) (v4 : Nat) (v5 : Int32) (v6 : Int32) (v7 : Int32) (v8 : Int32) (v9 : Int32) (v10 : Int32) (v11 : Int32) (v12 : Int32) (h : KH), kJ X (fun x : Int32 => some (.inl x)) 15 0 0 [(0, .inr (.inr (some v0))), (1, .inr (.inr (some v1))), (2, .inr (.inr (some v2))), (3, .inr (.inr (some v3))), (4, .inr (.inr (some v4))), (5, .inl v5), (6, .inl v6), (7, .inl v7), (8, .inl v8), (9, .inl v9), (10, .inl v10), (11, .inl v11), (12, .inl v12)] [] 34 h (rc34 v0 v1 v2 v3 v4 v5 v6 v7 v8 v9 v10 v11 v12 h)) (v0 : Nat) (v1 : Nat) (v2 : Nat) (v3 : Nat) (v4 : Nat) (v5 : Int32) (v6 : Int32) (v7 : Int32) (v8 : Int32) (v9 : Int32) (v10 : Int32) (v11 : Int32) (v12 : Int32) (h : KH) : kJ X (fun x : Int32 => some (.inl x)) 15 0 0 [(0, .inr (.inr (some v0))), (1, .inr (.inr (some v1))), (2, .inr (.inr (some v2))), (3, .inr (.inr (some v3))), (4, .inr (.inr (some v4))), (5, .inl v5), (6, .inl v6), (7, .inl v7), (8, .inl v8), (9, .inl v9), (10, .inl v10), (11, .inl v11), (12, .inl v12)] [] 34 h (L_areTrips_b34 rc15 rc34 v0 v1 v2 v3 v4 v5 v6 v7 v8 v9 v10 v11 v12 h) := by
  unfold L_areTrips_b34
  refine kj_iload hC 12 dL_areTrips_34 rfl ?_
  refine kj_aloadn hC 3 dL_areTrips_36 rfl rfl ?_
  refine kj_iconst (v := 3) hC dL_areTrips_37 (by decide) ?_
  refine kj_gAIc (c := 31) hC rfl dL_areTrips_38 (fun x1 => ?_)
  refine kj_icmp_ge (tgt := 154) hC dL_areTrips_39 (by decide) (fun q1 => ?_) (fun q1 => ?_)
  · refine kj_iload hC 8 dL_areTrips_154 rfl ?_
    refine kj_if_lt (tgt := 164) hC dL_areTrips_156 (by decide) (fun q2 => ?_) (fun q2 => ?_)
    · exact kj_sub [0, 1, 2, 3, 4, 5, 6, 7, 8, 9, 10, 11] rfl (t_L_areTrips_b164 hC hN hT hmc hms hD rc15 hr15 v0 v1 v2 v3 v4 v5 v6 v7 v8 v9 v10 v11 h)
    · refine kj_iload hC 11 dL_areTrips_159 rfl ?_
      refine kj_if_ge (tgt := 168) hC dL_areTrips_161 (by decide) (fun q3 => ?_) (fun q3 => ?_)
      · refine kj_aloadn hC 0 dL_areTrips_168 rfl rfl ?_
        refine kj_aloadn hC 1 dL_areTrips_169 rfl rfl ?_
        refine kj_iload hC 8 dL_areTrips_170 rfl ?_
        refine kj_gAIc (c := 31) hC rfl dL_areTrips_172 (fun x2 => ?_)
        refine kj_iconst (v := 0) hC dL_areTrips_173 (by decide) ?_
        refine kj_iconst (v := 3) hC dL_areTrips_174 (by decide) ?_
        refine kj_invS (as := [.inl x2, .inl 0, .inl 3]) (rest := [.inr (.inr (some v0))]) hC hT dL_areTrips_175 kw590 ky_L_part ky2_L_part (t_L_part x2 0 3 h) rfl rfl (Nat.le_of_ble_eq_true rfl) ⟨by rw [hD]; decide, by decide⟩ ⟨by rw [hmc]; exact Nat.le_of_ble_eq_true rfl, by rw [hms]; exact Nat.le_of_ble_eq_true rfl⟩ (fun x3 h1 => ?_)
        refine kj_norm (st' := [.inl x3, .inr (.inr (some v0))]) (c' := 0) (z' := 0) rfl rfl rfl ?_
        refine kj_aloadn hC 1 dL_areTrips_178 rfl rfl ?_
        refine kj_iload hC 11 dL_areTrips_179 rfl ?_
        refine kj_gAIc (c := 31) hC rfl dL_areTrips_181 (fun x4 => ?_)
        refine kj_iconst (v := 0) hC dL_areTrips_182 (by decide) ?_
        refine kj_iconst (v := 3) hC dL_areTrips_183 (by decide) ?_
        refine kj_invS (as := [.inl x4, .inl 0, .inl 3]) (rest := [.inl x3, .inr (.inr (some v0))]) hC hT dL_areTrips_184 kw590 ky_L_part ky2_L_part (t_L_part x4 0 3 h1) rfl rfl (Nat.le_of_ble_eq_true rfl) ⟨by rw [hD]; decide, by decide⟩ ⟨by rw [hmc]; exact Nat.le_of_ble_eq_true rfl, by rw [hms]; exact Nat.le_of_ble_eq_true rfl⟩ (fun x5 h2 => ?_)
        refine kj_norm (st' := [.inl x5, .inl x3, .inr (.inr (some v0))]) (c' := 0) (z' := 0) rfl rfl rfl ?_
        refine kj_ghost (n := 0) ?_
        refine kj_invV (ci := 9) (q := (RX9, TX9, 17)) (as := [.inl x3, .inl x5]) (rest := []) hC hT dL_areTrips_187 kw729 ky_X9_distance ky2_X9_distance rfl rfl (t_zX9_distance v0 x3 x5 (sX h2 (0))) rfl rfl (Nat.le_of_ble_eq_true rfl) ⟨by rw [hD]; decide, by decide⟩ ⟨by rw [hmc]; exact Nat.le_of_ble_eq_true rfl, by rw [hms]; exact Nat.le_of_ble_eq_true rfl⟩ (fun x6 h3 => ?_)
        refine kj_norm (st' := [.inl x6]) (c' := 0) (z' := 0) rfl rfl rfl ?_
        exact kj_sub [0, 1, 2, 3, 4, 5, 6, 7, 8, 9, 10, 11] rfl (t_L_areTrips_b190 hC hN hT hmc hms hD rc15 hr15 v0 v1 v2 v3 v4 v5 v6 v7 v8 v9 v10 v11 x6 h3)
      · exact kj_sub [0, 1, 2, 3, 4, 5, 6, 7, 8, 9, 10, 11] rfl (t_L_areTrips_b164 hC hN hT hmc hms hD rc15 hr15 v0 v1 v2 v3 v4 v5 v6 v7 v8 v9 v10 v11 h)
  · refine kj_iload hC 8 dL_areTrips_42 rfl ?_
    refine kj_if_lt (tgt := 84) hC dL_areTrips_44 (by decide) (fun q4 => ?_) (fun q4 => ?_)
    · exact kj_sub [0, 1, 2, 3, 4, 5, 6, 7, 8, 9, 10, 11, 12] rfl (t_L_areTrips_b84 hC hN hT hmc hms hD rc15 hr15 rc34 hr34 v0 v1 v2 v3 v4 v5 v6 v7 v8 v9 v10 v11 v12 h)
    · refine kj_aloadn hC 1 dL_areTrips_47 rfl rfl ?_
      refine kj_iload hC 12 dL_areTrips_48 rfl ?_
      refine kj_invS (as := [.inr (.inr (some v1)), .inl v12]) (rest := []) hC hT dL_areTrips_50 kw814 ky_L_minute ky2_L_minute (t_L_minute v1 v12 h) rfl rfl (Nat.le_of_ble_eq_true rfl) ⟨by rw [hD]; decide, by decide⟩ ⟨by rw [hmc]; exact Nat.le_of_ble_eq_true rfl, by rw [hms]; exact Nat.le_of_ble_eq_true rfl⟩ (fun x7 h4 => ?_)
      refine kj_norm (st' := [.inl x7]) (c' := 0) (z' := 0) rfl rfl rfl ?_
      refine kj_aloadn hC 1 dL_areTrips_53 rfl rfl ?_
      refine kj_iload hC 8 dL_areTrips_54 rfl ?_
      refine kj_invS (as := [.inr (.inr (some v1)), .inl v8]) (rest := [.inl x7]) hC hT dL_areTrips_56 kw814 ky_L_minute ky2_L_minute (t_L_minute v1 v8 h4) rfl rfl (Nat.le_of_ble_eq_true rfl) ⟨by rw [hD]; decide, by decide⟩ ⟨by rw [hmc]; exact Nat.le_of_ble_eq_true rfl, by rw [hms]; exact Nat.le_of_ble_eq_true rfl⟩ (fun x8 h5 => ?_)
      refine kj_norm (st' := [.inl x8, .inl x7]) (c' := 0) (z' := 0) rfl rfl rfl ?_
      refine kj_icmp_gt (tgt := 84) hC dL_areTrips_59 (by decide) (fun q5 => ?_) (fun q5 => ?_)
      · exact kj_sub [0, 1, 2, 3, 4, 5, 6, 7, 8, 9, 10, 11, 12] rfl (t_L_areTrips_b84 hC hN hT hmc hms hD rc15 hr15 rc34 hr34 v0 v1 v2 v3 v4 v5 v6 v7 v8 v9 v10 v11 v12 h5)
      · refine kj_aloadn hC 1 dL_areTrips_62 rfl rfl ?_
        refine kj_iload hC 12 dL_areTrips_63 rfl ?_
        refine kj_invS (as := [.inr (.inr (some v1)), .inl v12]) (rest := []) hC hT dL_areTrips_65 kw814 ky_L_minute ky2_L_minute (t_L_minute v1 v12 h5) rfl rfl (Nat.le_of_ble_eq_true rfl) ⟨by rw [hD]; decide, by decide⟩ ⟨by rw [hmc]; exact Nat.le_of_ble_eq_true rfl, by rw [hms]; exact Nat.le_of_ble_eq_true rfl⟩ (fun x9 h6 => ?_)
        refine kj_norm (st' := [.inl x9]) (c' := 0) (z' := 0) rfl rfl rfl ?_
        refine kj_aloadn hC 1 dL_areTrips_68 rfl rfl ?_
        refine kj_iload hC 8 dL_areTrips_69 rfl ?_
        refine kj_invS (as := [.inr (.inr (some v1)), .inl v8]) (rest := [.inl x9]) hC hT dL_areTrips_71 kw814 ky_L_minute ky2_L_minute (t_L_minute v1 v8 h6) rfl rfl (Nat.le_of_ble_eq_true rfl) ⟨by rw [hD]; decide, by decide⟩ ⟨by rw [hmc]; exact Nat.le_of_ble_eq_true rfl, by rw [hms]; exact Nat.le_of_ble_eq_true rfl⟩ (fun x10 h7 => ?_)
        refine kj_norm (st' := [.inl x10, .inl x9]) (c' := 0) (z' := 0) rfl rfl rfl ?_
        refine kj_icmp_ne (tgt := 88) hC dL_areTrips_74 (by decide) (fun q6 => ?_) (fun q6 => ?_)
        · refine kj_iload hC 12 dL_areTrips_77 rfl ?_
          refine kj_iload hC 8 dL_areTrips_79 rfl ?_
          refine kj_icmp_le (tgt := 88) hC dL_areTrips_81 (by decide) (fun q7 => ?_) (fun q7 => ?_)
          · exact kj_sub [0, 1, 2, 3, 4, 5, 6, 7, 8, 9, 10, 11, 12] rfl (t_L_areTrips_b88 hC hN hT hmc hms hD rc15 hr15 rc34 hr34 v0 v1 v2 v3 v4 v5 v6 v7 v8 v9 v10 v11 v12 h7)
          · exact kj_sub [0, 1, 2, 3, 4, 5, 6, 7, 8, 9, 10, 11, 12] rfl (t_L_areTrips_b84 hC hN hT hmc hms hD rc15 hr15 rc34 hr34 v0 v1 v2 v3 v4 v5 v6 v7 v8 v9 v10 v11 v12 h7)
        · exact kj_sub [0, 1, 2, 3, 4, 5, 6, 7, 8, 9, 10, 11, 12] rfl (t_L_areTrips_b88 hC hN hT hmc hms hD rc15 hr15 rc34 hr34 v0 v1 v2 v3 v4 v5 v6 v7 v8 v9 v10 v11 v12 h7)
set_option maxHeartbeats 4000000 in
set_option maxRecDepth 100000 in
theorem t_L_areTrips_L34 {X : KX} (hC : kC X RL cL_areTrips 15 (some .boolean)) (hN : (xme X).name = yL_areTrips.name) (hT : kT0 X) (hmc : xmc X = 9) (hms : xms X = 151) (hD : xD X = 9) (rc15 : Nat → Nat → Nat → Nat → Nat → Int32 → Int32 → Int32 → Int32 → Int32 → Int32 → KH → KO Int32) (hr15 : ∀ (v0 : Nat) (v1 : Nat) (v2 : Nat) (v3 : Nat) (v4 : Nat) (v5 : Int32) (v6 : Int32) (v7 : Int32) (v8 : Int32) (v9 : Int32) (v10 : Int32) (h : KH), kJ X (fun x : Int32 => some (.inl x)) 15 0 0 [(0, .inr (.inr (some v0))), (1, .inr (.inr (some v1))), (2, .inr (.inr (some v2))), (3, .inr (.inr (some v3))), (4, .inr (.inr (some v4))), (5, .inl v5), (6, .inl v6), (7, .inl v7), (8, .inl v8), (9, .inl v9), (10, .inl v10)] [] 15 h (rc15 v0 v1 v2 v3 v4 v5 v6 v7 v8 v9 v10 h)) : ∀ (n : Nat) (v0 : Nat) (v1 : Nat) (v2 : Nat) (v3 : Nat) (v4 : Nat) (v5 : Int32) (v6 : Int32) (v7 : Int32) (v8 : Int32) (v9 : Int32) (v10 : Int32) (v11 : Int32) (v12 : Int32) (h : KH), kJ X (fun x : Int32 => some (.inl x)) 15 0 0 [(0, .inr (.inr (some v0))), (1, .inr (.inr (some v1))), (2, .inr (.inr (some v2))), (3, .inr (.inr (some v3))), (4, .inr (.inr (some v4))), (5, .inl v5), (6, .inl v6), (7, .inl v7), (8, .inl v8), (9, .inl v9), (10, .inl v10), (11, .inl v11), (12, .inl v12)] [] 34 h (L_areTrips_L34 rc15 n v0 v1 v2 v3 v4 v5 v6 v7 v8 v9 v10 v11 v12 h) := by
  intro n
  induction n with
  | zero => intro v0 v1 v2 v3 v4 v5 v6 v7 v8 v9 v10 v11 v12 h; exact kj_none
  | succ n ih => intro v0 v1 v2 v3 v4 v5 v6 v7 v8 v9 v10 v11 v12 h; exact t_L_areTrips_b34 hC hN hT hmc hms hD rc15 hr15 (L_areTrips_L34 rc15 n) ih v0 v1 v2 v3 v4 v5 v6 v7 v8 v9 v10 v11 v12 h
set_option maxHeartbeats 4000000 in
set_option maxRecDepth 100000 in
theorem t_L_areTrips_b15 {X : KX} (hC : kC X RL cL_areTrips 15 (some .boolean)) (hN : (xme X).name = yL_areTrips.name) (hT : kT0 X) (hmc : xmc X = 9) (hms : xms X = 151) (hD : xD X = 9) (rc15 : Nat → Nat → Nat → Nat → Nat → Int32 → Int32 → Int32 → Int32 → Int32 → Int32 → KH → KO Int32) (hr15 : ∀ (v0 : Nat) (v1 : Nat) (v2 : Nat) (v3 : Nat) (v4 : Nat) (v5 : Int32) (v6 : Int32) (v7 : Int32) (v8 : Int32) (v9 : Int32) (v10 : Int32) (h : KH), kJ X (fun x : Int32 => some (.inl x)) 15 0 0 [(0, .inr (.inr (some v0))), (1, .inr (.inr (some v1))), (2, .inr (.inr (some v2))), (3, .inr (.inr (some v3))), (4, .inr (.inr (some v4))), (5, .inl v5), (6, .inl v6), (7, .inl v7), (8, .inl v8), (9, .inl v9), (10, .inl v10)] [] 15 h (rc15 v0 v1 v2 v3 v4 v5 v6 v7 v8 v9 v10 h)) (v0 : Nat) (v1 : Nat) (v2 : Nat) (v3 : Nat) (v4 : Nat) (v5 : Int32) (v6 : Int32) (v7 : Int32) (v8 : Int32) (v9 : Int32) (v10 : Int32) (h : KH) : kJ X (fun x : Int32 => some (.inl x)) 15 0 0 [(0, .inr (.inr (some v0))), (1, .inr (.inr (some v1))), (2, .inr (.inr (some v2))), (3, .inr (.inr (some v3))), (4, .inr (.inr (some v4))), (5, .inl v5), (6, .inl v6), (7, .inl v7), (8, .inl v8), (9, .inl v9), (10, .inl v10)] [] 15 h (L_areTrips_b15 rc15 v0 v1 v2 v3 v4 v5 v6 v7 v8 v9 v10 h) := by
  unfold L_areTrips_b15
  refine kj_iload hC 10 dL_areTrips_15 rfl ?_
  refine kj_aloadn hC 3 dL_areTrips_17 rfl rfl ?_
  refine kj_iconst (v := 3) hC dL_areTrips_18 (by decide) ?_
  refine kj_gAIc (c := 31) hC rfl dL_areTrips_19 (fun x1 => ?_)
  refine kj_icmp_gt (tgt := 443) hC dL_areTrips_20 (by decide) (fun q1 => ?_) (fun q1 => ?_)
  · exact kj_sub [] rfl (t_L_areTrips_b443 hC hN hT hmc hms hD   h)
  · refine kj_iload hC 9 dL_areTrips_23 rfl ?_
    refine kj_if_eq (tgt := 443) hC dL_areTrips_25 (by decide) (fun q2 => ?_) (fun q2 => ?_)
    · exact kj_sub [] rfl (t_L_areTrips_b443 hC hN hT hmc hms hD   h)
    · refine kj_iconst (v := (-1)) hC dL_areTrips_28 (by decide) ?_
      refine kj_istore (L' := [(11, .inl (-1)), (0, .inr (.inr (some v0))), (1, .inr (.inr (some v1))), (2, .inr (.inr (some v2))), (3, .inr (.inr (some v3))), (4, .inr (.inr (some v4))), (5, .inl v5), (6, .inl v6), (7, .inl v7), (8, .inl v8), (9, .inl v9), (10, .inl v10)]) hC dL_areTrips_29 (by decide) rfl ?_
      refine kj_iconst (v := 0) hC dL_areTrips_31 (by decide) ?_
      refine kj_istore (L' := [(12, .inl 0), (11, .inl (-1)), (0, .inr (.inr (some v0))), (1, .inr (.inr (some v1))), (2, .inr (.inr (some v2))), (3, .inr (.inr (some v3))), (4, .inr (.inr (some v4))), (5, .inl v5), (6, .inl v6), (7, .inl v7), (8, .inl v8), (9, .inl v9), (10, .inl v10)]) hC dL_areTrips_32 (by decide) rfl ?_
      exact kj_sub [2, 3, 4, 5, 6, 7, 8, 9, 10, 11, 12, 1, 0] rfl (t_L_areTrips_L34 hC hN hT hmc hms hD rc15 hr15 kF v0 v1 v2 v3 v4 v5 v6 v7 v8 v9 v10 ((-1)) 0 h)
set_option maxHeartbeats 4000000 in
set_option maxRecDepth 100000 in
theorem t_L_areTrips_L15 {X : KX} (hC : kC X RL cL_areTrips 15 (some .boolean)) (hN : (xme X).name = yL_areTrips.name) (hT : kT0 X) (hmc : xmc X = 9) (hms : xms X = 151) (hD : xD X = 9) : ∀ (n : Nat) (v0 : Nat) (v1 : Nat) (v2 : Nat) (v3 : Nat) (v4 : Nat) (v5 : Int32) (v6 : Int32) (v7 : Int32) (v8 : Int32) (v9 : Int32) (v10 : Int32) (h : KH), kJ X (fun x : Int32 => some (.inl x)) 15 0 0 [(0, .inr (.inr (some v0))), (1, .inr (.inr (some v1))), (2, .inr (.inr (some v2))), (3, .inr (.inr (some v3))), (4, .inr (.inr (some v4))), (5, .inl v5), (6, .inl v6), (7, .inl v7), (8, .inl v8), (9, .inl v9), (10, .inl v10)] [] 15 h (L_areTrips_L15  n v0 v1 v2 v3 v4 v5 v6 v7 v8 v9 v10 h) := by
  intro n
  induction n with
  | zero => intro v0 v1 v2 v3 v4 v5 v6 v7 v8 v9 v10 h; exact kj_none
  | succ n ih => intro v0 v1 v2 v3 v4 v5 v6 v7 v8 v9 v10 h; exact t_L_areTrips_b15 hC hN hT hmc hms hD (L_areTrips_L15  n) ih v0 v1 v2 v3 v4 v5 v6 v7 v8 v9 v10 h
set_option maxHeartbeats 4000000 in
set_option maxRecDepth 100000 in
theorem t_L_areTrips (p0 : Nat) (p1 : Nat) (p2 : Nat) (p3 : Nat) (p4 : Nat) (p5 : Int32) (h : KH) : kM yL_areTrips cL_areTrips 15 (some .boolean) 9 9 151 (fun x : Int32 => some (.inl x)) [.inr (.inr (some p0)), .inr (.inr (some p1)), .inr (.inr (some p2)), .inr (.inr (some p3)), .inr (.inr (some p4)), .inl p5] h (f_L_areTrips p0 p1 p2 p3 p4 p5 h) := by
  refine kM_of RL (by decide) rfl (Nat.le_of_ble_eq_true rfl) [(0, .inr (.inr (some p0))), (1, .inr (.inr (some p1))), (2, .inr (.inr (some p2))), (3, .inr (.inr (some p3))), (4, .inr (.inr (some p4))), (5, .inl p5)] rfl (fun X hC hN hT hmc hms hD => ?_)
  unfold f_L_areTrips
  refine kj_iconst (v := 0) hC dL_areTrips_0 (by decide) ?_
  refine kj_istore (L' := [(6, .inl 0), (0, .inr (.inr (some p0))), (1, .inr (.inr (some p1))), (2, .inr (.inr (some p2))), (3, .inr (.inr (some p3))), (4, .inr (.inr (some p4))), (5, .inl p5)]) hC dL_areTrips_1 (by decide) rfl ?_
  refine kj_iconst (v := 2) hC dL_areTrips_3 (by decide) ?_
  refine kj_istore (L' := [(7, .inl 2), (6, .inl 0), (0, .inr (.inr (some p0))), (1, .inr (.inr (some p1))), (2, .inr (.inr (some p2))), (3, .inr (.inr (some p3))), (4, .inr (.inr (some p4))), (5, .inl p5)]) hC dL_areTrips_4 (by decide) rfl ?_
  refine kj_iconst (v := (-1)) hC dL_areTrips_6 (by decide) ?_
  refine kj_istore (L' := [(8, .inl (-1)), (7, .inl 2), (6, .inl 0), (0, .inr (.inr (some p0))), (1, .inr (.inr (some p1))), (2, .inr (.inr (some p2))), (3, .inr (.inr (some p3))), (4, .inr (.inr (some p4))), (5, .inl p5)]) hC dL_areTrips_7 (by decide) rfl ?_
  refine kj_iconst (v := 1) hC dL_areTrips_9 (by decide) ?_
  refine kj_istore (L' := [(9, .inl 1), (8, .inl (-1)), (7, .inl 2), (6, .inl 0), (0, .inr (.inr (some p0))), (1, .inr (.inr (some p1))), (2, .inr (.inr (some p2))), (3, .inr (.inr (some p3))), (4, .inr (.inr (some p4))), (5, .inl p5)]) hC dL_areTrips_10 (by decide) rfl ?_
  refine kj_iconst (v := 0) hC dL_areTrips_12 (by decide) ?_
  refine kj_istore (L' := [(10, .inl 0), (9, .inl 1), (8, .inl (-1)), (7, .inl 2), (6, .inl 0), (0, .inr (.inr (some p0))), (1, .inr (.inr (some p1))), (2, .inr (.inr (some p2))), (3, .inr (.inr (some p3))), (4, .inr (.inr (some p4))), (5, .inl p5)]) hC dL_areTrips_13 (by decide) rfl ?_
  exact kj_sub [5, 6, 7, 8, 9, 10, 4, 3, 2, 1, 0] rfl (t_L_areTrips_L15 hC hN hT hmc hms hD  kF p0 p1 p2 p3 p4 p5 0 2 ((-1)) 1 0 h)
set_option maxHeartbeats 4000000 in
set_option maxRecDepth 100000 in
theorem t_L_areBills_b321 {X : KX} (hC : kC X RL cL_areBills 12 (some .boolean)) (hN : (xme X).name = yL_areBills.name) (hT : kT0 X) (hmc : xmc X = 1) (hms : xms X = 7) (hD : xD X = 6) (s0 : Int32) (h : KH) : kJ X (fun x : Int32 => some (.inl x)) 12 1 7 [] [.inl s0] 321 h (L_areBills_b321  s0 h) := by
  unfold L_areBills_b321
  refine kj_fin hmc hms ?_
  exact kj_zreturn hC dL_areBills_321
set_option maxHeartbeats 4000000 in
set_option maxRecDepth 100000 in
theorem t_L_areBills_b320 {X : KX} (hC : kC X RL cL_areBills 12 (some .boolean)) (hN : (xme X).name = yL_areBills.name) (hT : kT0 X) (hmc : xmc X = 1) (hms : xms X = 7) (hD : xD X = 6)  (h : KH) : kJ X (fun x : Int32 => some (.inl x)) 12 1 7 [] [] 320 h (L_areBills_b320   h) := by
  unfold L_areBills_b320
  refine kj_iconst (v := 0) hC dL_areBills_320 (by decide) ?_
  exact kj_sub [] rfl (t_L_areBills_b321 hC hN hT hmc hms hD  0 h)
set_option maxHeartbeats 4000000 in
set_option maxRecDepth 100000 in
theorem t_L_areBills_b286 {X : KX} (hC : kC X RL cL_areBills 12 (some .boolean)) (hN : (xme X).name = yL_areBills.name) (hT : kT0 X) (hmc : xmc X = 1) (hms : xms X = 7) (hD : xD X = 6) (v0 : Nat) (v4 : Int64) (v6 : Int64) (v8 : Int32) (v9 : Int32) (h : KH) : kJ X (fun x : Int32 => some (.inl x)) 12 1 7 [(0, .inr (.inr (some v0))), (4, .inr (.inl (v4))), (6, .inr (.inl (v6))), (8, .inl v8), (9, .inl v9)] [] 286 h (L_areBills_b286  v0 v4 v6 v8 v9 h) := by
  unfold L_areBills_b286
  refine kj_iload hC 3 dL_areBills_286 rfl ?_
  refine kj_if_eq (tgt := 320) hC dL_areBills_288 (by decide) (fun q1 => ?_) (fun q1 => ?_)
  · exact kj_sub [] rfl (t_L_areBills_b320 hC hN hT hmc hms hD   h)
  · refine kj_iload hC 4 dL_areBills_291 rfl ?_
    refine kj_i2l hC dL_areBills_293 ?_
    refine kj_lload hC 1 dL_areBills_294 rfl ?_
    refine kj_lcmp hC dL_areBills_296 ?_
    refine kj_if_ne (tgt := 320) hC dL_areBills_297 (by decide) (fun q2 => ?_) (fun q2 => ?_)
    · refine kj_lload hC 2 dL_areBills_300 rfl ?_
      refine kj_lload hC 1 dL_areBills_302 rfl ?_
      refine kj_lneg hC dL_areBills_304 ?_
      refine kj_lcmp hC dL_areBills_305 ?_
      refine kj_if_ne (tgt := 320) hC dL_areBills_306 (by decide) (fun q3 => ?_) (fun q3 => ?_)
      · refine kj_aloadn hC 0 dL_areBills_309 rfl rfl ?_
        refine kj_ghost (n := 0) ?_
        refine kj_invV (ci := 9) (q := (RX9, TX9, 17)) (as := []) (rest := []) hC hT dL_areBills_310 kw807 ky_X9_settle ky2_X9_settle rfl rfl (t_X9_settle v0 (sX h (0))) rfl rfl (Nat.le_of_ble_eq_true rfl) ⟨by rw [hD]; decide, by decide⟩ ⟨by rw [hmc]; exact Nat.le_of_ble_eq_true rfl, by rw [hms]; exact Nat.le_of_ble_eq_true rfl⟩ (fun x1 h1 => ?_)
        refine kj_norm (st' := [.inl x1]) (c' := 1) (z' := 7) rfl rfl rfl ?_
        refine kj_if_ne (tgt := 320) hC dL_areBills_313 (by decide) (fun q4 => ?_) (fun q4 => ?_)
        · refine kj_iconst (v := 1) hC dL_areBills_316 (by decide) ?_
          refine kj_goto (tgt := 321) hC dL_areBills_317 (by decide) ?_
          exact kj_sub [] rfl (t_L_areBills_b321 hC hN hT hmc hms hD  1 h1)
        · exact kj_sub [] rfl (t_L_areBills_b320 hC hN hT hmc hms hD   h1)
      · exact kj_sub [] rfl (t_L_areBills_b320 hC hN hT hmc hms hD   h)
    · exact kj_sub [] rfl (t_L_areBills_b320 hC hN hT hmc hms hD   h)
set_option maxHeartbeats 4000000 in
set_option maxRecDepth 100000 in
theorem t_L_areBills_b267 {X : KX} (hC : kC X RL cL_areBills 12 (some .boolean)) (hN : (xme X).name = yL_areBills.name) (hT : kT0 X) (hmc : xmc X = 1) (hms : xms X = 7) (hD : xD X = 6) (rc226 : Nat → Nat → Int64 → Int64 → Int32 → Int32 → Int32 → KH → KO Int32) (hr226 : ∀ (v0 : Nat) (v3 : Nat) (v4 : Int64) (v6 : Int64) (v8 : Int32) (v9 : Int32) (v10 : Int32) (h : KH), kJ X (fun x : Int32 => some (.inl x)) 12 1 7 [(0, .inr (.inr (some v0))), (3, .inr (.inr (some v3))), (4, .inr (.inl (v4))), (6, .inr (.inl (v6))), (8, .inl v8), (9, .inl v9), (10, .inl v10)] [] 226 h (rc226 v0 v3 v4 v6 v8 v9 v10 h)) (v0 : Nat) (v3 : Nat) (v4 : Int64) (v6 : Int64) (v9 : Int32) (v10 : Int32) (s0 : Int32) (h : KH) : kJ X (fun x : Int32 => some (.inl x)) 12 1 7 [(0, .inr (.inr (some v0))), (3, .inr (.inr (some v3))), (4, .inr (.inl (v4))), (6, .inr (.inl (v6))), (9, .inl v9), (10, .inl v10)] [.inl s0] 267 h (L_areBills_b267 rc226 v0 v3 v4 v6 v9 v10 s0 h) := by
  unfold L_areBills_b267
  refine kj_istore (L' := [(8, .inl s0), (0, .inr (.inr (some v0))), (3, .inr (.inr (some v3))), (4, .inr (.inl (v4))), (6, .inr (.inl (v6))), (9, .inl v9), (10, .inl v10)]) hC dL_areBills_267 (by decide) rfl ?_
  refine kj_lload hC 4 dL_areBills_269 rfl ?_
  refine kj_aloadn hC 1 dL_areBills_271 rfl rfl ?_
  refine kj_iload hC 6 dL_areBills_272 rfl ?_
  refine kj_ghost (n := 0) ?_
  refine kj_invV (ci := 9) (q := (RX9, TX9, 17)) (as := [.inl v10]) (rest := [.inr (.inl (v6))]) hC hT dL_areBills_274 kw782 ky_X9_paidBack ky2_X9_paidBack rfl rfl (t_zX9_paidBack v0 v10 (sX h (0))) rfl rfl (Nat.le_of_ble_eq_true rfl) ⟨by rw [hD]; decide, by decide⟩ ⟨by rw [hmc]; exact Nat.le_of_ble_eq_true rfl, by rw [hms]; exact Nat.le_of_ble_eq_true rfl⟩ (fun y1 h1 => ?_)
  refine kj_norm (st' := [.inr (.inl (y1)), .inr (.inl (v6))]) (c' := 1) (z' := 7) rfl rfl rfl ?_
  refine kj_lsub hC dL_areBills_277 ?_
  refine kj_lstore (L' := [(6, .inr (.inl (v6 - y1))), (8, .inl s0), (0, .inr (.inr (some v0))), (3, .inr (.inr (some v3))), (4, .inr (.inl (v4))), (9, .inl v9), (10, .inl v10)]) hC dL_areBills_278 (by decide) rfl ?_
  refine kj_iinc (v := v10 + 1) (L' := [(10, .inl (v10 + 1)), (6, .inr (.inl (v6 - y1))), (8, .inl s0), (0, .inr (.inr (some v0))), (3, .inr (.inr (some v3))), (4, .inr (.inl (v4))), (9, .inl v9)]) hC 6 dL_areBills_280 rfl rfl (by decide) rfl ?_
  refine kj_goto (tgt := 226) hC dL_areBills_283 (by decide) ?_
  exact kj_sub [3, 4, 5, 1, 2, 6, 0] rfl (hr226 v0 v3 v4 (v6 - y1) s0 v9 (v10 + 1) h1)
set_option maxHeartbeats 4000000 in
set_option maxRecDepth 100000 in
theorem t_L_areBills_b226 {X : KX} (hC : kC X RL cL_areBills 12 (some .boolean)) (hN : (xme X).name = yL_areBills.name) (hT : kT0 X) (hmc : xmc X = 1) (hms : xms X = 7) (hD : xD X = 6) (rc226 : Nat → Nat → Int64 → Int64 → Int32 → Int32 → Int32 → KH → KO Int32) (hr226 : ∀ (v0 : Nat) (v3 : Nat) (v4 : Int64) (v6 : Int64) (v8 : Int32) (v9 : Int32) (v10 : Int32) (h : KH), kJ X (fun x : Int32 => some (.inl x)) 12 1 7 [(0, .inr (.inr (some v0))), (3, .inr (.inr (some v3))), (4, .inr (.inl (v4))), (6, .inr (.inl (v6))), (8, .inl v8), (9, .inl v9), (10, .inl v10)] [] 226 h (rc226 v0 v3 v4 v6 v8 v9 v10 h)) (v0 : Nat) (v3 : Nat) (v4 : Int64) (v6 : Int64) (v8 : Int32) (v9 : Int32) (v10 : Int32) (h : KH) : kJ X (fun x : Int32 => some (.inl x)) 12 1 7 [(0, .inr (.inr (some v0))), (3, .inr (.inr (some v3))), (4, .inr (.inl (v4))), (6, .inr (.inl (v6))), (8, .inl v8), (9, .inl v9), (10, .inl v10)] [] 226 h (L_areBills_b226 rc226 v0 v3 v4 v6 v8 v9 v10 h) := by
  unfold L_areBills_b226
  refine kj_iload hC 6 dL_areBills_226 rfl ?_
  refine kj_bipush (v := 6) hC dL_areBills_228 (by decide) ?_
  refine kj_icmp_ge (tgt := 286) hC dL_areBills_230 (by decide) (fun q1 => ?_) (fun q1 => ?_)
  · exact kj_sub [0, 2, 3, 4, 5] rfl (t_L_areBills_b286 hC hN hT hmc hms hD  v0 v4 v6 v8 v9 h)
  · refine kj_iload hC 4 dL_areBills_233 rfl ?_
    refine kj_if_eq (tgt := 286) hC dL_areBills_235 (by decide) (fun q2 => ?_) (fun q2 => ?_)
    · exact kj_sub [0, 2, 3, 4, 5] rfl (t_L_areBills_b286 hC hN hT hmc hms hD  v0 v4 v6 v8 v9 h)
    · refine kj_aloadn hC 0 dL_areBills_238 rfl rfl ?_
      refine kj_iload hC 6 dL_areBills_239 rfl ?_
      refine kj_ghost (n := 0) ?_
      refine kj_invV (ci := 9) (q := (RX9, TX9, 17)) (as := [.inl v10]) (rest := []) hC hT dL_areBills_241 kw778 ky_X9_billed ky2_X9_billed rfl rfl (t_zX9_billed v0 v10 (sX h (0))) rfl rfl (Nat.le_of_ble_eq_true rfl) ⟨by rw [hD]; decide, by decide⟩ ⟨by rw [hmc]; exact Nat.le_of_ble_eq_true rfl, by rw [hms]; exact Nat.le_of_ble_eq_true rfl⟩ (fun y1 h1 => ?_)
      refine kj_norm (st' := [.inr (.inl (y1))]) (c' := 1) (z' := 7) rfl rfl rfl ?_
      refine kj_aloadn hC 0 dL_areBills_244 rfl rfl ?_
      refine kj_iload hC 6 dL_areBills_245 rfl ?_
      refine kj_ghost (n := 0) ?_
      refine kj_invV (ci := 9) (q := (RX9, TX9, 17)) (as := [.inl v10]) (rest := [.inr (.inl (y1))]) hC hT dL_areBills_247 kw782 ky_X9_paidBack ky2_X9_paidBack rfl rfl (t_zX9_paidBack v0 v10 (sX h1 (0))) rfl rfl (Nat.le_of_ble_eq_true rfl) ⟨by rw [hD]; decide, by decide⟩ ⟨by rw [hmc]; exact Nat.le_of_ble_eq_true rfl, by rw [hms]; exact Nat.le_of_ble_eq_true rfl⟩ (fun y2 h2 => ?_)
      refine kj_norm (st' := [.inr (.inl (y2)), .inr (.inl (y1))]) (c' := 1) (z' := 7) rfl rfl rfl ?_
      refine kj_lsub hC dL_areBills_250 ?_
      refine kj_aloadn hC 1 dL_areBills_251 rfl rfl ?_
      refine kj_iconst (v := 1) hC dL_areBills_252 (by decide) ?_
      refine kj_iload hC 6 dL_areBills_253 rfl ?_
      refine kj_iadd hC dL_areBills_255 ?_
      refine kj_gAIc (c := 31) hC rfl dL_areBills_256 (fun x1 => ?_)
      refine kj_i2l hC dL_areBills_257 ?_
      refine kj_lcmp hC dL_areBills_258 ?_
      refine kj_if_ne (tgt := 266) hC dL_areBills_259 (by decide) (fun q3 => ?_) (fun q3 => ?_)
      · refine kj_iconst (v := 1) hC dL_areBills_262 (by decide) ?_
        refine kj_goto (tgt := 267) hC dL_areBills_263 (by decide) ?_
        exact kj_sub [0, 1, 2, 3, 5, 6] rfl (t_L_areBills_b267 hC hN hT hmc hms hD rc226 hr226 v0 v3 v4 v6 v9 v10 1 h2)
      · refine kj_iconst (v := 0) hC dL_areBills_266 (by decide) ?_
        exact kj_sub [0, 1, 2, 3, 5, 6] rfl (t_L_areBills_b267 hC hN hT hmc hms hD rc226 hr226 v0 v3 v4 v6 v9 v10 0 h2)
set_option maxHeartbeats 4000000 in
set_option maxRecDepth 100000 in
theorem t_L_areBills_L226 {X : KX} (hC : kC X RL cL_areBills 12 (some .boolean)) (hN : (xme X).name = yL_areBills.name) (hT : kT0 X) (hmc : xmc X = 1) (hms : xms X = 7) (hD : xD X = 6) : ∀ (n : Nat) (v0 : Nat) (v3 : Nat) (v4 : Int64) (v6 : Int64) (v8 : Int32) (v9 : Int32) (v10 : Int32) (h : KH), kJ X (fun x : Int32 => some (.inl x)) 12 1 7 [(0, .inr (.inr (some v0))), (3, .inr (.inr (some v3))), (4, .inr (.inl (v4))), (6, .inr (.inl (v6))), (8, .inl v8), (9, .inl v9), (10, .inl v10)] [] 226 h (L_areBills_L226  n v0 v3 v4 v6 v8 v9 v10 h) := by
  intro n
  induction n with
  | zero => intro v0 v3 v4 v6 v8 v9 v10 h; exact kj_none
  | succ n ih => intro v0 v3 v4 v6 v8 v9 v10 h; exact t_L_areBills_b226 hC hN hT hmc hms hD (L_areBills_L226  n) ih v0 v3 v4 v6 v8 v9 v10 h
set_option maxHeartbeats 4000000 in
set_option maxRecDepth 100000 in
theorem t_L_areBills_b214 {X : KX} (hC : kC X RL cL_areBills 12 (some .boolean)) (hN : (xme X).name = yL_areBills.name) (hT : kT0 X) (hmc : xmc X = 1) (hms : xms X = 7) (hD : xD X = 6) (v8 : Int32) (h : KH) : kJ X (fun x : Int32 => some (.inl x)) 12 1 7 [(8, .inl v8)] [] 214 h (L_areBills_b214  v8 h) := by
  unfold L_areBills_b214
  refine kj_iload hC 0 dL_areBills_214 rfl ?_
  refine kj_fin hmc hms ?_
  exact kj_zreturn hC dL_areBills_216
set_option maxHeartbeats 4000000 in
set_option maxRecDepth 100000 in
theorem t_L_areBills_b185 {X : KX} (hC : kC X RL cL_areBills 12 (some .boolean)) (hN : (xme X).name = yL_areBills.name) (hT : kT0 X) (hmc : xmc X = 1) (hms : xms X = 7) (hD : xD X = 6) (rc81 : Nat → Int32 → Nat → Int64 → Int64 → Int32 → Int32 → KH → KO Int32) (hr81 : ∀ (v0 : Nat) (v2 : Int32) (v3 : Nat) (v4 : Int64) (v6 : Int64) (v8 : Int32) (v9 : Int32) (h : KH), kJ X (fun x : Int32 => some (.inl x)) 12 1 7 [(0, .inr (.inr (some v0))), (2, .inl v2), (3, .inr (.inr (some v3))), (4, .inr (.inl (v4))), (6, .inr (.inl (v6))), (8, .inl v8), (9, .inl v9)] [] 81 h (rc81 v0 v2 v3 v4 v6 v8 v9 h)) (v0 : Nat) (v2 : Int32) (v3 : Nat) (v6 : Int64) (v8 : Int32) (v9 : Int32) (s0 : Int64) (s1 : Int64) (h : KH) : kJ X (fun x : Int32 => some (.inl x)) 12 1 7 [(0, .inr (.inr (some v0))), (2, .inl v2), (3, .inr (.inr (some v3))), (6, .inr (.inl (v6))), (8, .inl v8), (9, .inl v9)] [.inr (.inl (s0)), .inr (.inl (s1))] 185 h (L_areBills_b185 rc81 v0 v2 v3 v6 v8 v9 s0 s1 h) := by
  unfold L_areBills_b185
  refine kj_ladd hC dL_areBills_185 ?_
  refine kj_lstore (L' := [(4, .inr (.inl (s1 + s0))), (0, .inr (.inr (some v0))), (2, .inl v2), (3, .inr (.inr (some v3))), (6, .inr (.inl (v6))), (8, .inl v8), (9, .inl v9)]) hC dL_areBills_186 (by decide) rfl ?_
  refine kj_lload hC 4 dL_areBills_188 rfl ?_
  refine kj_aloadn hC 1 dL_areBills_190 rfl rfl ?_
  refine kj_iload hC 6 dL_areBills_191 rfl ?_
  refine kj_ghost (n := 0) ?_
  refine kj_invV (ci := 9) (q := (RX9, TX9, 17)) (as := [.inl v9]) (rest := [.inr (.inl (v6))]) hC hT dL_areBills_193 kw782 ky_X9_paidBack ky2_X9_paidBack rfl rfl (t_zX9_paidBack v0 v9 (sX h (0))) rfl rfl (Nat.le_of_ble_eq_true rfl) ⟨by rw [hD]; decide, by decide⟩ ⟨by rw [hmc]; exact Nat.le_of_ble_eq_true rfl, by rw [hms]; exact Nat.le_of_ble_eq_true rfl⟩ (fun y1 h1 => ?_)
  refine kj_norm (st' := [.inr (.inl (y1)), .inr (.inl (v6))]) (c' := 1) (z' := 7) rfl rfl rfl ?_
  refine kj_ladd hC dL_areBills_196 ?_
  refine kj_lstore (L' := [(6, .inr (.inl (v6 + y1))), (4, .inr (.inl (s1 + s0))), (0, .inr (.inr (some v0))), (2, .inl v2), (3, .inr (.inr (some v3))), (8, .inl v8), (9, .inl v9)]) hC dL_areBills_197 (by decide) rfl ?_
  refine kj_iinc (v := v9 + 1) (L' := [(9, .inl (v9 + 1)), (6, .inr (.inl (v6 + y1))), (4, .inr (.inl (s1 + s0))), (0, .inr (.inr (some v0))), (2, .inl v2), (3, .inr (.inr (some v3))), (8, .inl v8)]) hC 6 dL_areBills_199 rfl rfl (by decide) rfl ?_
  refine kj_goto (tgt := 81) hC dL_areBills_202 (by decide) ?_
  exact kj_sub [3, 4, 5, 2, 1, 6, 0] rfl (hr81 v0 v2 v3 (s1 + s0) (v6 + y1) v8 (v9 + 1) h1)
set_option maxHeartbeats 4000000 in
set_option maxRecDepth 100000 in
theorem t_L_areBills_b167 {X : KX} (hC : kC X RL cL_areBills 12 (some .boolean)) (hN : (xme X).name = yL_areBills.name) (hT : kT0 X) (hmc : xmc X = 1) (hms : xms X = 7) (hD : xD X = 6) (rc81 : Nat → Int32 → Nat → Int64 → Int64 → Int32 → Int32 → KH → KO Int32) (hr81 : ∀ (v0 : Nat) (v2 : Int32) (v3 : Nat) (v4 : Int64) (v6 : Int64) (v8 : Int32) (v9 : Int32) (h : KH), kJ X (fun x : Int32 => some (.inl x)) 12 1 7 [(0, .inr (.inr (some v0))), (2, .inl v2), (3, .inr (.inr (some v3))), (4, .inr (.inl (v4))), (6, .inr (.inl (v6))), (8, .inl v8), (9, .inl v9)] [] 81 h (rc81 v0 v2 v3 v4 v6 v8 v9 h)) (v0 : Nat) (v2 : Int32) (v3 : Nat) (v4 : Int64) (v6 : Int64) (v9 : Int32) (v10 : Int64) (s0 : Int32) (h : KH) : kJ X (fun x : Int32 => some (.inl x)) 12 1 7 [(0, .inr (.inr (some v0))), (2, .inl v2), (3, .inr (.inr (some v3))), (4, .inr (.inl (v4))), (6, .inr (.inl (v6))), (9, .inl v9), (10, .inr (.inl (v10)))] [.inl s0] 167 h (L_areBills_b167 rc81 v0 v2 v3 v4 v6 v9 v10 s0 h) := by
  unfold L_areBills_b167
  refine kj_istore (L' := [(8, .inl s0), (0, .inr (.inr (some v0))), (2, .inl v2), (3, .inr (.inr (some v3))), (4, .inr (.inl (v4))), (6, .inr (.inl (v6))), (9, .inl v9), (10, .inr (.inl (v10)))]) hC dL_areBills_167 (by decide) rfl ?_
  refine kj_lload hC 4 dL_areBills_169 rfl ?_
  refine kj_lload hC 7 dL_areBills_171 rfl ?_
  refine kj_lconst (v := 0) hC dL_areBills_173 (by decide) ?_
  refine kj_lcmp hC dL_areBills_174 ?_
  refine kj_if_ge (tgt := 184) hC dL_areBills_175 (by decide) (fun q1 => ?_) (fun q1 => ?_)
  · refine kj_lconst (v := 0) hC dL_areBills_184 (by decide) ?_
    exact kj_sub [1, 2, 3, 5, 0, 6] rfl (t_L_areBills_b185 hC hN hT hmc hms hD rc81 hr81 v0 v2 v3 v6 s0 v9 0 v4 h)
  · refine kj_lload hC 7 dL_areBills_178 rfl ?_
    refine kj_lneg hC dL_areBills_180 ?_
    refine kj_goto (tgt := 185) hC dL_areBills_181 (by decide) ?_
    exact kj_sub [1, 2, 3, 5, 0, 6] rfl (t_L_areBills_b185 hC hN hT hmc hms hD rc81 hr81 v0 v2 v3 v6 s0 v9 (-v10) v4 h)
set_option maxHeartbeats 4000000 in
set_option maxRecDepth 100000 in
theorem t_L_areBills_b166 {X : KX} (hC : kC X RL cL_areBills 12 (some .boolean)) (hN : (xme X).name = yL_areBills.name) (hT : kT0 X) (hmc : xmc X = 1) (hms : xms X = 7) (hD : xD X = 6) (rc81 : Nat → Int32 → Nat → Int64 → Int64 → Int32 → Int32 → KH → KO Int32) (hr81 : ∀ (v0 : Nat) (v2 : Int32) (v3 : Nat) (v4 : Int64) (v6 : Int64) (v8 : Int32) (v9 : Int32) (h : KH), kJ X (fun x : Int32 => some (.inl x)) 12 1 7 [(0, .inr (.inr (some v0))), (2, .inl v2), (3, .inr (.inr (some v3))), (4, .inr (.inl (v4))), (6, .inr (.inl (v6))), (8, .inl v8), (9, .inl v9)] [] 81 h (rc81 v0 v2 v3 v4 v6 v8 v9 h)) (v0 : Nat) (v2 : Int32) (v3 : Nat) (v4 : Int64) (v6 : Int64) (v9 : Int32) (v10 : Int64) (h : KH) : kJ X (fun x : Int32 => some (.inl x)) 12 1 7 [(0, .inr (.inr (some v0))), (2, .inl v2), (3, .inr (.inr (some v3))), (4, .inr (.inl (v4))), (6, .inr (.inl (v6))), (9, .inl v9), (10, .inr (.inl (v10)))] [] 166 h (L_areBills_b166 rc81 v0 v2 v3 v4 v6 v9 v10 h) := by
  unfold L_areBills_b166
  refine kj_iconst (v := 0) hC dL_areBills_166 (by decide) ?_
  exact kj_sub [0, 1, 2, 3, 4, 5, 6] rfl (t_L_areBills_b167 hC hN hT hmc hms hD rc81 hr81 v0 v2 v3 v4 v6 v9 v10 0 h)
set_option maxHeartbeats 4000000 in
set_option maxRecDepth 100000 in
theorem t_L_areBills_b81 {X : KX} (hC : kC X RL cL_areBills 12 (some .boolean)) (hN : (xme X).name = yL_areBills.name) (hT : kT0 X) (hmc : xmc X = 1) (hms : xms X = 7) (hD : xD X = 6) (rc81 : Nat → Int32 → Nat → Int64 → Int64 → Int32 → Int32 → KH → KO Int32) (hr81 : ∀ (v0 : Nat) (v2 : Int32) (v3 : Nat) (v4 : Int64) (v6 : Int64) (v8 : Int32) (v9 : Int32) (h : KH), kJ X (fun x : Int32 => some (.inl x)) 12 1 7 [(0, .inr (.inr (some v0))), (2, .inl v2), (3, .inr (.inr (some v3))), (4, .inr (.inl (v4))), (6, .inr (.inl (v6))), (8, .inl v8), (9, .inl v9)] [] 81 h (rc81 v0 v2 v3 v4 v6 v8 v9 h)) (v0 : Nat) (v2 : Int32) (v3 : Nat) (v4 : Int64) (v6 : Int64) (v8 : Int32) (v9 : Int32) (h : KH) : kJ X (fun x : Int32 => some (.inl x)) 12 1 7 [(0, .inr (.inr (some v0))), (2, .inl v2), (3, .inr (.inr (some v3))), (4, .inr (.inl (v4))), (6, .inr (.inl (v6))), (8, .inl v8), (9, .inl v9)] [] 81 h (L_areBills_b81 rc81 v0 v2 v3 v4 v6 v8 v9 h) := by
  unfold L_areBills_b81
  refine kj_iload hC 6 dL_areBills_81 rfl ?_
  refine kj_bipush (v := 6) hC dL_areBills_83 (by decide) ?_
  refine kj_icmp_ge (tgt := 205) hC dL_areBills_85 (by decide) (fun q1 => ?_) (fun q1 => ?_)
  · refine kj_iloadn hC 1 dL_areBills_205 rfl rfl ?_
    refine kj_if_eq (tgt := 214) hC dL_areBills_206 (by decide) (fun q2 => ?_) (fun q2 => ?_)
    · exact kj_sub [5] rfl (t_L_areBills_b214 hC hN hT hmc hms hD  v8 h)
    · refine kj_iload hC 5 dL_areBills_209 rfl ?_
      refine kj_if_ne (tgt := 217) hC dL_areBills_211 (by decide) (fun q3 => ?_) (fun q3 => ?_)
      · exact kj_sub [5] rfl (t_L_areBills_b214 hC hN hT hmc hms hD  v8 h)
      · refine kj_aloadn hC 0 dL_areBills_217 rfl rfl ?_
        refine kj_ghost (n := 0) ?_
        refine kj_invV (ci := 9) (q := (RX9, TX9, 17)) (as := []) (rest := []) hC hT dL_areBills_218 kw807 ky_X9_settle ky2_X9_settle rfl rfl (t_X9_settle v0 (sX h (0))) rfl rfl (Nat.le_of_ble_eq_true rfl) ⟨by rw [hD]; decide, by decide⟩ ⟨by rw [hmc]; exact Nat.le_of_ble_eq_true rfl, by rw [hms]; exact Nat.le_of_ble_eq_true rfl⟩ (fun x1 h1 => ?_)
        refine kj_norm (st' := [.inl x1]) (c' := 1) (z' := 7) rfl rfl rfl ?_
        refine kj_istore (L' := [(9, .inl x1), (0, .inr (.inr (some v0))), (2, .inl v2), (3, .inr (.inr (some v3))), (4, .inr (.inl (v4))), (6, .inr (.inl (v6))), (8, .inl v8)]) hC dL_areBills_221 (by decide) rfl ?_
        refine kj_iconst (v := 0) hC dL_areBills_223 (by decide) ?_
        refine kj_istore (L' := [(10, .inl 0), (9, .inl x1), (0, .inr (.inr (some v0))), (2, .inl v2), (3, .inr (.inr (some v3))), (4, .inr (.inl (v4))), (6, .inr (.inl (v6))), (8, .inl v8)]) hC dL_areBills_224 (by decide) rfl ?_
        exact kj_sub [2, 4, 5, 6, 7, 1, 0] rfl (t_L_areBills_L226 hC hN hT hmc hms hD  kF v0 v3 v4 v6 v8 x1 0 h1)
  · refine kj_aloadn hC 2 dL_areBills_88 rfl rfl ?_
    refine kj_iconst (v := 1) hC dL_areBills_89 (by decide) ?_
    refine kj_iload hC 6 dL_areBills_90 rfl ?_
    refine kj_iadd hC dL_areBills_92 ?_
    refine kj_gAIc (c := 31) hC rfl dL_areBills_93 (fun x2 => ?_)
    refine kj_i2l hC dL_areBills_94 ?_
    refine kj_aloadn hC 0 dL_areBills_95 rfl rfl ?_
    refine kj_iload hC 6 dL_areBills_96 rfl ?_
    refine kj_ghost (n := 0) ?_
    refine kj_invV (ci := 9) (q := (RX9, TX9, 17)) (as := [.inl v9]) (rest := [.inr (.inl (x2.toInt64))]) hC hT dL_areBills_98 kw778 ky_X9_billed ky2_X9_billed rfl rfl (t_zX9_billed v0 v9 (sX h (0))) rfl rfl (Nat.le_of_ble_eq_true rfl) ⟨by rw [hD]; decide, by decide⟩ ⟨by rw [hmc]; exact Nat.le_of_ble_eq_true rfl, by rw [hms]; exact Nat.le_of_ble_eq_true rfl⟩ (fun y1 h2 => ?_)
    refine kj_norm (st' := [.inr (.inl (y1)), .inr (.inl (x2.toInt64))]) (c' := 1) (z' := 7) rfl rfl rfl ?_
    refine kj_lsub hC dL_areBills_101 ?_
    refine kj_aloadn hC 0 dL_areBills_102 rfl rfl ?_
    refine kj_iload hC 6 dL_areBills_103 rfl ?_
    refine kj_ghost (n := 0) ?_
    refine kj_invV (ci := 9) (q := (RX9, TX9, 17)) (as := [.inl v9]) (rest := [.inr (.inl ((x2.toInt64) - y1))]) hC hT dL_areBills_105 kw782 ky_X9_paidBack ky2_X9_paidBack rfl rfl (t_zX9_paidBack v0 v9 (sX h2 (0))) rfl rfl (Nat.le_of_ble_eq_true rfl) ⟨by rw [hD]; decide, by decide⟩ ⟨by rw [hmc]; exact Nat.le_of_ble_eq_true rfl, by rw [hms]; exact Nat.le_of_ble_eq_true rfl⟩ (fun y2 h3 => ?_)
    refine kj_norm (st' := [.inr (.inl (y2)), .inr (.inl ((x2.toInt64) - y1))]) (c' := 1) (z' := 7) rfl rfl rfl ?_
    refine kj_ladd hC dL_areBills_108 ?_
    refine kj_lstore (L' := [(10, .inr (.inl (((x2.toInt64) - y1) + y2))), (0, .inr (.inr (some v0))), (2, .inl v2), (3, .inr (.inr (some v3))), (4, .inr (.inl (v4))), (6, .inr (.inl (v6))), (8, .inl v8), (9, .inl v9)]) hC dL_areBills_109 (by decide) rfl ?_
    refine kj_iload hC 6 dL_areBills_111 rfl ?_
    refine kj_if_eq (tgt := 166) hC dL_areBills_113 (by decide) (fun q4 => ?_) (fun q4 => ?_)
    · exact kj_sub [1, 2, 3, 4, 5, 7, 0] rfl (t_L_areBills_b166 hC hN hT hmc hms hD rc81 hr81 v0 v2 v3 v4 v6 v9 (((x2.toInt64) - y1) + y2) h3)
    · refine kj_aloadn hC 1 dL_areBills_116 rfl rfl ?_
      refine kj_iload hC 7 dL_areBills_117 rfl ?_
      refine kj_ghost (n := 0) ?_
      refine kj_invV (ci := 9) (q := (RX9, TX9, 17)) (as := [.inl v9]) (rest := []) hC hT dL_areBills_119 kw786 ky_X9_due ky2_X9_due rfl rfl (t_zX9_due v0 v9 (sX h3 (0))) rfl rfl (Nat.le_of_ble_eq_true rfl) ⟨by rw [hD]; decide, by decide⟩ ⟨by rw [hmc]; exact Nat.le_of_ble_eq_true rfl, by rw [hms]; exact Nat.le_of_ble_eq_true rfl⟩ (fun x3 h4 => ?_)
      refine kj_norm (st' := [.inl x3]) (c' := 1) (z' := 7) rfl rfl rfl ?_
      refine kj_aloadn hC 3 dL_areBills_122 rfl rfl ?_
      refine kj_iconst (v := 1) hC dL_areBills_123 (by decide) ?_
      refine kj_iload hC 7 dL_areBills_124 rfl ?_
      refine kj_iadd hC dL_areBills_126 ?_
      refine kj_gAIc (c := 31) hC rfl dL_areBills_127 (fun x4 => ?_)
      refine kj_icmp_ne (tgt := 166) hC dL_areBills_128 (by decide) (fun q5 => ?_) (fun q5 => ?_)
      · refine kj_aloadn hC 1 dL_areBills_131 rfl rfl ?_
        refine kj_iload hC 7 dL_areBills_132 rfl ?_
        refine kj_ghost (n := 0) ?_
        refine kj_invV (ci := 9) (q := (RX9, TX9, 17)) (as := [.inl v9]) (rest := []) hC hT dL_areBills_134 kw798 ky_X9_dueAnew ky2_X9_dueAnew rfl rfl (t_zX9_dueAnew v0 v9 (sX h4 (0))) rfl rfl (Nat.le_of_ble_eq_true rfl) ⟨by rw [hD]; decide, by decide⟩ ⟨by rw [hmc]; exact Nat.le_of_ble_eq_true rfl, by rw [hms]; exact Nat.le_of_ble_eq_true rfl⟩ (fun x5 h5 => ?_)
        refine kj_norm (st' := [.inl x5]) (c' := 1) (z' := 7) rfl rfl rfl ?_
        refine kj_aloadn hC 3 dL_areBills_137 rfl rfl ?_
        refine kj_iconst (v := 1) hC dL_areBills_138 (by decide) ?_
        refine kj_iload hC 7 dL_areBills_139 rfl ?_
        refine kj_iadd hC dL_areBills_141 ?_
        refine kj_gAIc (c := 31) hC rfl dL_areBills_142 (fun x6 => ?_)
        refine kj_icmp_ne (tgt := 166) hC dL_areBills_143 (by decide) (fun q6 => ?_) (fun q6 => ?_)
        · refine kj_aloadn hC 1 dL_areBills_146 rfl rfl ?_
          refine kj_iload hC 7 dL_areBills_147 rfl ?_
          refine kj_ghost (n := 0) ?_
          refine kj_invV (ci := 9) (q := (RX9, TX9, 17)) (as := [.inl v9]) (rest := []) hC hT dL_areBills_149 kw778 ky_X9_billed ky2_X9_billed rfl rfl (t_zX9_billed v0 v9 (sX h5 (0))) rfl rfl (Nat.le_of_ble_eq_true rfl) ⟨by rw [hD]; decide, by decide⟩ ⟨by rw [hmc]; exact Nat.le_of_ble_eq_true rfl, by rw [hms]; exact Nat.le_of_ble_eq_true rfl⟩ (fun y3 h6 => ?_)
          refine kj_norm (st' := [.inr (.inl (y3))]) (c' := 1) (z' := 7) rfl rfl rfl ?_
          refine kj_aloadn hC 1 dL_areBills_152 rfl rfl ?_
          refine kj_iload hC 7 dL_areBills_153 rfl ?_
          refine kj_ghost (n := 0) ?_
          refine kj_invV (ci := 9) (q := (RX9, TX9, 17)) (as := [.inl v9]) (rest := [.inr (.inl (y3))]) hC hT dL_areBills_155 kw782 ky_X9_paidBack ky2_X9_paidBack rfl rfl (t_zX9_paidBack v0 v9 (sX h6 (0))) rfl rfl (Nat.le_of_ble_eq_true rfl) ⟨by rw [hD]; decide, by decide⟩ ⟨by rw [hmc]; exact Nat.le_of_ble_eq_true rfl, by rw [hms]; exact Nat.le_of_ble_eq_true rfl⟩ (fun y4 h7 => ?_)
          refine kj_norm (st' := [.inr (.inl (y4)), .inr (.inl (y3))]) (c' := 1) (z' := 7) rfl rfl rfl ?_
          refine kj_lcmp hC dL_areBills_158 ?_
          refine kj_if_lt (tgt := 166) hC dL_areBills_159 (by decide) (fun q7 => ?_) (fun q7 => ?_)
          · exact kj_sub [1, 2, 3, 4, 5, 7, 0] rfl (t_L_areBills_b166 hC hN hT hmc hms hD rc81 hr81 v0 v2 v3 v4 v6 v9 (((x2.toInt64) - y1) + y2) h7)
          · refine kj_iconst (v := 1) hC dL_areBills_162 (by decide) ?_
            refine kj_goto (tgt := 167) hC dL_areBills_163 (by decide) ?_
            exact kj_sub [1, 2, 3, 4, 5, 7, 0] rfl (t_L_areBills_b167 hC hN hT hmc hms hD rc81 hr81 v0 v2 v3 v4 v6 v9 (((x2.toInt64) - y1) + y2) 1 h7)
        · exact kj_sub [1, 2, 3, 4, 5, 7, 0] rfl (t_L_areBills_b166 hC hN hT hmc hms hD rc81 hr81 v0 v2 v3 v4 v6 v9 (((x2.toInt64) - y1) + y2) h5)
      · exact kj_sub [1, 2, 3, 4, 5, 7, 0] rfl (t_L_areBills_b166 hC hN hT hmc hms hD rc81 hr81 v0 v2 v3 v4 v6 v9 (((x2.toInt64) - y1) + y2) h4)
set_option maxHeartbeats 4000000 in
set_option maxRecDepth 100000 in
theorem t_L_areBills_L81 {X : KX} (hC : kC X RL cL_areBills 12 (some .boolean)) (hN : (xme X).name = yL_areBills.name) (hT : kT0 X) (hmc : xmc X = 1) (hms : xms X = 7) (hD : xD X = 6) : ∀ (n : Nat) (v0 : Nat) (v2 : Int32) (v3 : Nat) (v4 : Int64) (v6 : Int64) (v8 : Int32) (v9 : Int32) (h : KH), kJ X (fun x : Int32 => some (.inl x)) 12 1 7 [(0, .inr (.inr (some v0))), (2, .inl v2), (3, .inr (.inr (some v3))), (4, .inr (.inl (v4))), (6, .inr (.inl (v6))), (8, .inl v8), (9, .inl v9)] [] 81 h (L_areBills_L81  n v0 v2 v3 v4 v6 v8 v9 h) := by
  intro n
  induction n with
  | zero => intro v0 v2 v3 v4 v6 v8 v9 h; exact kj_none
  | succ n ih => intro v0 v2 v3 v4 v6 v8 v9 h; exact t_L_areBills_b81 hC hN hT hmc hms hD (L_areBills_L81  n) ih v0 v2 v3 v4 v6 v8 v9 h
set_option maxHeartbeats 4000000 in
set_option maxRecDepth 100000 in
theorem t_L_areBills_b27 {X : KX} (hC : kC X RL cL_areBills 12 (some .boolean)) (hN : (xme X).name = yL_areBills.name) (hT : kT0 X) (hmc : xmc X = 1) (hms : xms X = 7) (hD : xD X = 6) (rc8 : Nat → Nat → Int32 → Nat → Int32 → KH → KO Int32) (hr8 : ∀ (v0 : Nat) (v1 : Nat) (v2 : Int32) (v3 : Nat) (v4 : Int32) (h : KH), kJ X (fun x : Int32 => some (.inl x)) 12 1 7 [(0, .inr (.inr (some v0))), (1, .inr (.inr (some v1))), (2, .inl v2), (3, .inr (.inr (some v3))), (4, .inl v4)] [] 8 h (rc8 v0 v1 v2 v3 v4 h)) (rc27 : Nat → Nat → Int32 → Nat → Int32 → Int32 → Int32 → KH → KO Int32) (hr27 : ∀ (v0 : Nat) (v1 : Nat) (v2 : Int32) (v3 : Nat) (v4 : Int32) (v5 : Int32) (v6 : Int32) (h : KH), kJ X (fun x : Int32 => some (.inl x)) 12 1 7 [(0, .inr (.inr (some v0))), (1, .inr (.inr (some v1))), (2, .inl v2), (3, .inr (.inr (some v3))), (4, .inl v4), (5, .inl v5), (6, .inl v6)] [] 27 h (rc27 v0 v1 v2 v3 v4 v5 v6 h)) (v0 : Nat) (v1 : Nat) (v2 : Int32) (v3 : Nat) (v4 : Int32) (v5 : Int32) (v6 : Int32) (h : KH) : kJ X (fun x : Int32 => some (.inl x)) 12 1 7 [(0, .inr (.inr (some v0))), (1, .inr (.inr (some v1))), (2, .inl v2), (3, .inr (.inr (some v3))), (4, .inl v4), (5, .inl v5), (6, .inl v6)] [] 27 h (L_areBills_b27 rc8 rc27 v0 v1 v2 v3 v4 v5 v6 h) := by
  unfold L_areBills_b27
  refine kj_iload hC 6 dL_areBills_27 rfl ?_
  refine kj_iload hC 5 dL_areBills_29 rfl ?_
  refine kj_icmp_ge (tgt := 63) hC dL_areBills_31 (by decide) (fun q1 => ?_) (fun q1 => ?_)
  · refine kj_iinc (v := v4 + 1) (L' := [(4, .inl (v4 + 1)), (0, .inr (.inr (some v0))), (1, .inr (.inr (some v1))), (2, .inl v2), (3, .inr (.inr (some v3))), (5, .inl v5), (6, .inl v6)]) hC 4 dL_areBills_63 rfl rfl (by decide) rfl ?_
    refine kj_goto (tgt := 8) hC dL_areBills_66 (by decide) ?_
    exact kj_sub [1, 2, 3, 4, 0] rfl (hr8 v0 v1 v2 v3 (v4 + 1) h)
  · refine kj_aloadn hC 3 dL_areBills_34 rfl rfl ?_
    refine kj_iconst (v := 1) hC dL_areBills_35 (by decide) ?_
    refine kj_aloadn hC 0 dL_areBills_36 rfl rfl ?_
    refine kj_iload hC 4 dL_areBills_37 rfl ?_
    refine kj_iload hC 6 dL_areBills_39 rfl ?_
    refine kj_ghost (n := 0) ?_
    refine kj_invV (ci := 9) (q := (RX9, TX9, 17)) (as := [.inl v4, .inl v6]) (rest := [.inl 1, .inr (.inr (some v3))]) hC hT dL_areBills_41 kw774 ky_X9_driverOf ky2_X9_driverOf rfl rfl (t_zX9_driverOf v0 v4 v6 (sX h (0))) rfl rfl (Nat.le_of_ble_eq_true rfl) ⟨by rw [hD]; decide, by decide⟩ ⟨by rw [hmc]; exact Nat.le_of_ble_eq_true rfl, by rw [hms]; exact Nat.le_of_ble_eq_true rfl⟩ (fun x1 h1 => ?_)
    refine kj_norm (st' := [.inl x1, .inl 1, .inr (.inr (some v3))]) (c' := 1) (z' := 7) rfl rfl rfl ?_
    refine kj_iadd hC dL_areBills_44 ?_
    refine kj_dup2 hC dL_areBills_45 rfl rfl ?_
    refine kj_gAIc (c := 31) hC rfl dL_areBills_46 (fun x2 => ?_)
    refine kj_aloadn hC 0 dL_areBills_47 rfl rfl ?_
    refine kj_iload hC 4 dL_areBills_48 rfl ?_
    refine kj_iload hC 6 dL_areBills_50 rfl ?_
    refine kj_ghost (n := 0) ?_
    refine kj_invV (ci := 9) (q := (RX9, TX9, 17)) (as := [.inl v4, .inl v6]) (rest := [.inl x2, .inl ((1 : Int32) + x1), .inr (.inr (some v3))]) hC hT dL_areBills_52 kw560 ky_X9_toll ky2_X9_toll rfl rfl (t_zX9_toll v0 v4 v6 (sX h1 (0))) rfl rfl (Nat.le_of_ble_eq_true rfl) ⟨by rw [hD]; decide, by decide⟩ ⟨by rw [hmc]; exact Nat.le_of_ble_eq_true rfl, by rw [hms]; exact Nat.le_of_ble_eq_true rfl⟩ (fun x3 h2 => ?_)
    refine kj_norm (st' := [.inl x3, .inl x2, .inl ((1 : Int32) + x1), .inr (.inr (some v3))]) (c' := 1) (z' := 7) rfl rfl rfl ?_
    refine kj_iadd hC dL_areBills_55 ?_
    refine kj_pAIc (c := 31) hC rfl (by decide) dL_areBills_56 (fun h3 => ?_)
    refine kj_iinc (v := v6 + 1) (L' := [(6, .inl (v6 + 1)), (0, .inr (.inr (some v0))), (1, .inr (.inr (some v1))), (2, .inl v2), (3, .inr (.inr (some v3))), (4, .inl v4), (5, .inl v5)]) hC 6 dL_areBills_57 rfl rfl (by decide) rfl ?_
    refine kj_goto (tgt := 27) hC dL_areBills_60 (by decide) ?_
    exact kj_sub [1, 2, 3, 4, 5, 6, 0] rfl (hr27 v0 v1 v2 v3 v4 v5 (v6 + 1) h3)
set_option maxHeartbeats 4000000 in
set_option maxRecDepth 100000 in
theorem t_L_areBills_L27 {X : KX} (hC : kC X RL cL_areBills 12 (some .boolean)) (hN : (xme X).name = yL_areBills.name) (hT : kT0 X) (hmc : xmc X = 1) (hms : xms X = 7) (hD : xD X = 6) (rc8 : Nat → Nat → Int32 → Nat → Int32 → KH → KO Int32) (hr8 : ∀ (v0 : Nat) (v1 : Nat) (v2 : Int32) (v3 : Nat) (v4 : Int32) (h : KH), kJ X (fun x : Int32 => some (.inl x)) 12 1 7 [(0, .inr (.inr (some v0))), (1, .inr (.inr (some v1))), (2, .inl v2), (3, .inr (.inr (some v3))), (4, .inl v4)] [] 8 h (rc8 v0 v1 v2 v3 v4 h)) : ∀ (n : Nat) (v0 : Nat) (v1 : Nat) (v2 : Int32) (v3 : Nat) (v4 : Int32) (v5 : Int32) (v6 : Int32) (h : KH), kJ X (fun x : Int32 => some (.inl x)) 12 1 7 [(0, .inr (.inr (some v0))), (1, .inr (.inr (some v1))), (2, .inl v2), (3, .inr (.inr (some v3))), (4, .inl v4), (5, .inl v5), (6, .inl v6)] [] 27 h (L_areBills_L27 rc8 n v0 v1 v2 v3 v4 v5 v6 h) := by
  intro n
  induction n with
  | zero => intro v0 v1 v2 v3 v4 v5 v6 h; exact kj_none
  | succ n ih => intro v0 v1 v2 v3 v4 v5 v6 h; exact t_L_areBills_b27 hC hN hT hmc hms hD rc8 hr8 (L_areBills_L27 rc8 n) ih v0 v1 v2 v3 v4 v5 v6 h
set_option maxHeartbeats 4000000 in
set_option maxRecDepth 100000 in
theorem t_L_areBills_b8 {X : KX} (hC : kC X RL cL_areBills 12 (some .boolean)) (hN : (xme X).name = yL_areBills.name) (hT : kT0 X) (hmc : xmc X = 1) (hms : xms X = 7) (hD : xD X = 6) (rc8 : Nat → Nat → Int32 → Nat → Int32 → KH → KO Int32) (hr8 : ∀ (v0 : Nat) (v1 : Nat) (v2 : Int32) (v3 : Nat) (v4 : Int32) (h : KH), kJ X (fun x : Int32 => some (.inl x)) 12 1 7 [(0, .inr (.inr (some v0))), (1, .inr (.inr (some v1))), (2, .inl v2), (3, .inr (.inr (some v3))), (4, .inl v4)] [] 8 h (rc8 v0 v1 v2 v3 v4 h)) (v0 : Nat) (v1 : Nat) (v2 : Int32) (v3 : Nat) (v4 : Int32) (h : KH) : kJ X (fun x : Int32 => some (.inl x)) 12 1 7 [(0, .inr (.inr (some v0))), (1, .inr (.inr (some v1))), (2, .inl v2), (3, .inr (.inr (some v3))), (4, .inl v4)] [] 8 h (L_areBills_b8 rc8 v0 v1 v2 v3 v4 h) := by
  unfold L_areBills_b8
  refine kj_iload hC 4 dL_areBills_8 rfl ?_
  refine kj_aloadn hC 1 dL_areBills_10 rfl rfl ?_
  refine kj_iconst (v := 2) hC dL_areBills_11 (by decide) ?_
  refine kj_gAIc (c := 31) hC rfl dL_areBills_12 (fun x1 => ?_)
  refine kj_icmp_ge (tgt := 69) hC dL_areBills_13 (by decide) (fun q1 => ?_) (fun q1 => ?_)
  · refine kj_lconst (v := 0) hC dL_areBills_69 (by decide) ?_
    refine kj_lstore (L' := [(4, .inr (.inl (0))), (0, .inr (.inr (some v0))), (1, .inr (.inr (some v1))), (2, .inl v2), (3, .inr (.inr (some v3)))]) hC dL_areBills_70 (by decide) rfl ?_
    refine kj_lconst (v := 0) hC dL_areBills_72 (by decide) ?_
    refine kj_lstore (L' := [(6, .inr (.inl (0))), (4, .inr (.inl (0))), (0, .inr (.inr (some v0))), (1, .inr (.inr (some v1))), (2, .inl v2), (3, .inr (.inr (some v3)))]) hC dL_areBills_73 (by decide) rfl ?_
    refine kj_iconst (v := 1) hC dL_areBills_75 (by decide) ?_
    refine kj_istore (L' := [(8, .inl 1), (6, .inr (.inl (0))), (4, .inr (.inl (0))), (0, .inr (.inr (some v0))), (1, .inr (.inr (some v1))), (2, .inl v2), (3, .inr (.inr (some v3)))]) hC dL_areBills_76 (by decide) rfl ?_
    refine kj_iconst (v := 0) hC dL_areBills_78 (by decide) ?_
    refine kj_istore (L' := [(9, .inl 0), (8, .inl 1), (6, .inr (.inl (0))), (4, .inr (.inl (0))), (0, .inr (.inr (some v0))), (1, .inr (.inr (some v1))), (2, .inl v2), (3, .inr (.inr (some v3)))]) hC dL_areBills_79 (by decide) rfl ?_
    exact kj_sub [4, 6, 7, 3, 2, 1, 0] rfl (t_L_areBills_L81 hC hN hT hmc hms hD  kF v0 v2 v3 0 0 1 0 h)
  · refine kj_aloadn hC 0 dL_areBills_16 rfl rfl ?_
    refine kj_iload hC 4 dL_areBills_17 rfl ?_
    refine kj_ghost (n := 0) ?_
    refine kj_invV (ci := 9) (q := (RX9, TX9, 17)) (as := [.inl v4]) (rest := []) hC hT dL_areBills_19 kw762 ky_X9_trips ky2_X9_trips rfl rfl (t_zX9_trips v0 v4 (sX h (0))) rfl rfl (Nat.le_of_ble_eq_true rfl) ⟨by rw [hD]; decide, by decide⟩ ⟨by rw [hmc]; exact Nat.le_of_ble_eq_true rfl, by rw [hms]; exact Nat.le_of_ble_eq_true rfl⟩ (fun x2 h1 => ?_)
    refine kj_norm (st' := [.inl x2]) (c' := 1) (z' := 7) rfl rfl rfl ?_
    refine kj_istore (L' := [(5, .inl x2), (0, .inr (.inr (some v0))), (1, .inr (.inr (some v1))), (2, .inl v2), (3, .inr (.inr (some v3))), (4, .inl v4)]) hC dL_areBills_22 (by decide) rfl ?_
    refine kj_iconst (v := 0) hC dL_areBills_24 (by decide) ?_
    refine kj_istore (L' := [(6, .inl 0), (5, .inl x2), (0, .inr (.inr (some v0))), (1, .inr (.inr (some v1))), (2, .inl v2), (3, .inr (.inr (some v3))), (4, .inl v4)]) hC dL_areBills_25 (by decide) rfl ?_
    exact kj_sub [2, 3, 4, 5, 6, 1, 0] rfl (t_L_areBills_L27 hC hN hT hmc hms hD rc8 hr8 kF v0 v1 v2 v3 v4 x2 0 h1)
set_option maxHeartbeats 4000000 in
set_option maxRecDepth 100000 in
theorem t_L_areBills_L8 {X : KX} (hC : kC X RL cL_areBills 12 (some .boolean)) (hN : (xme X).name = yL_areBills.name) (hT : kT0 X) (hmc : xmc X = 1) (hms : xms X = 7) (hD : xD X = 6) : ∀ (n : Nat) (v0 : Nat) (v1 : Nat) (v2 : Int32) (v3 : Nat) (v4 : Int32) (h : KH), kJ X (fun x : Int32 => some (.inl x)) 12 1 7 [(0, .inr (.inr (some v0))), (1, .inr (.inr (some v1))), (2, .inl v2), (3, .inr (.inr (some v3))), (4, .inl v4)] [] 8 h (L_areBills_L8  n v0 v1 v2 v3 v4 h) := by
  intro n
  induction n with
  | zero => intro v0 v1 v2 v3 v4 h; exact kj_none
  | succ n ih => intro v0 v1 v2 v3 v4 h; exact t_L_areBills_b8 hC hN hT hmc hms hD (L_areBills_L8  n) ih v0 v1 v2 v3 v4 h
set_option maxHeartbeats 4000000 in
set_option maxRecDepth 100000 in
theorem t_L_areBills (p0 : Nat) (p1 : Nat) (p2 : Int32) (h : KH) : kM yL_areBills cL_areBills 12 (some .boolean) 6 1 7 (fun x : Int32 => some (.inl x)) [.inr (.inr (some p0)), .inr (.inr (some p1)), .inl p2] h (f_L_areBills p0 p1 p2 h) := by
  refine kM_of RL (by decide) rfl (Nat.le_of_ble_eq_true rfl) [(0, .inr (.inr (some p0))), (1, .inr (.inr (some p1))), (2, .inl p2)] rfl (fun X hC hN hT hmc hms hD => ?_)
  unfold f_L_areBills
  refine kj_bipush (v := 7) hC dL_areBills_0 (by decide) ?_
  refine kj_newa (c := 31) (N := 7) (ty := .int) hC dL_areBills_2 rfl rfl (fun _ _ => rfl) kw89 ⟨by decide, by decide, by decide⟩ ⟨by rw [hmc]; exact Nat.le_of_ble_eq_true rfl, by rw [hms]; exact Nat.le_of_ble_eq_true rfl⟩ (fun a1 h1 => ?_)
  refine kj_norm (st' := [.inr (.inr (some a1))]) (c' := 1) (z' := 7) rfl rfl rfl ?_
  refine kj_astoren (L' := [(3, .inr (.inr (some a1))), (0, .inr (.inr (some p0))), (1, .inr (.inr (some p1))), (2, .inl p2)]) hC dL_areBills_4 rfl (by decide) rfl ?_
  refine kj_iconst (v := 0) hC dL_areBills_5 (by decide) ?_
  refine kj_istore (L' := [(4, .inl 0), (3, .inr (.inr (some a1))), (0, .inr (.inr (some p0))), (1, .inr (.inr (some p1))), (2, .inl p2)]) hC dL_areBills_6 (by decide) rfl ?_
  exact kj_sub [2, 3, 4, 1, 0] rfl (t_L_areBills_L8 hC hN hT hmc hms hD  kF p0 p1 p2 a1 0 h1)
set_option maxHeartbeats 4000000 in
set_option maxRecDepth 100000 in
theorem t_L_texts_b378 {X : KX} (hC : kC X RL cL_texts 13 (some .boolean)) (hN : (xme X).name = yL_texts.name) (hT : kT0 X) (hmc : xmc X = 9) (hms : xms X = 151) (hD : xD X = 9) (s0 : Int32) (h : KH) : kJ X (fun x : Int32 => some (.inl x)) 13 0 0 [] [.inl s0] 378 h (L_texts_b378  s0 h) := by
  unfold L_texts_b378
  refine kj_widen (k := 9) (n := 151) (Nat.le_of_ble_eq_true rfl) (Nat.le_of_ble_eq_true rfl) ?_
  refine kj_fin hmc hms ?_
  exact kj_zreturn hC dL_texts_378
set_option maxHeartbeats 4000000 in
set_option maxRecDepth 100000 in
theorem t_L_texts_b358 {X : KX} (hC : kC X RL cL_texts 13 (some .boolean)) (hN : (xme X).name = yL_texts.name) (hT : kT0 X) (hmc : xmc X = 9) (hms : xms X = 151) (hD : xD X = 9) (s0 : Int32) (h : KH) : kJ X (fun x : Int32 => some (.inl x)) 13 0 0 [] [.inl s0] 358 h (L_texts_b358  s0 h) := by
  unfold L_texts_b358
  refine kj_widen (k := 9) (n := 151) (Nat.le_of_ble_eq_true rfl) (Nat.le_of_ble_eq_true rfl) ?_
  refine kj_fin hmc hms ?_
  exact kj_zreturn hC dL_texts_358
set_option maxHeartbeats 4000000 in
set_option maxRecDepth 100000 in
theorem t_L_texts_b297 {X : KX} (hC : kC X RL cL_texts 13 (some .boolean)) (hN : (xme X).name = yL_texts.name) (hT : kT0 X) (hmc : xmc X = 9) (hms : xms X = 151) (hD : xD X = 9) (rc297 : Nat → Nat → Int32 → Int32 → Int32 → Int32 → KH → KO Int32) (hr297 : ∀ (v0 : Nat) (v4 : Nat) (v5 : Int32) (v6 : Int32) (v8 : Int32) (v9 : Int32) (h : KH), kJ X (fun x : Int32 => some (.inl x)) 13 0 0 [(0, .inr (.inr (some v0))), (4, .inr (.inr (some v4))), (5, .inl v5), (6, .inl v6), (8, .inl v8), (9, .inl v9)] [] 297 h (rc297 v0 v4 v5 v6 v8 v9 h)) (v0 : Nat) (v4 : Nat) (v5 : Int32) (v6 : Int32) (v8 : Int32) (v9 : Int32) (h : KH) : kJ X (fun x : Int32 => some (.inl x)) 13 0 0 [(0, .inr (.inr (some v0))), (4, .inr (.inr (some v4))), (5, .inl v5), (6, .inl v6), (8, .inl v8), (9, .inl v9)] [] 297 h (L_texts_b297 rc297 v0 v4 v5 v6 v8 v9 h) := by
  unfold L_texts_b297
  refine kj_iload hC 5 dL_texts_297 rfl ?_
  refine kj_iload hC 3 dL_texts_299 rfl ?_
  refine kj_icmp_ge (tgt := 332) hC dL_texts_301 (by decide) (fun q1 => ?_) (fun q1 => ?_)
  · refine kj_aload hC 1 dL_texts_332 rfl ?_
    refine kj_iconst (v := 0) hC dL_texts_334 (by decide) ?_
    refine kj_iload hC 4 dL_texts_335 rfl ?_
    refine kj_iload hC 3 dL_texts_337 rfl ?_
    refine kj_bipush (v := 24) hC dL_texts_339 (by decide) ?_
    refine kj_ishl hC dL_texts_341 ?_
    refine kj_ior hC dL_texts_342 ?_
    refine kj_pAIc (c := 31) hC rfl (by decide) dL_texts_343 (fun h1 => ?_)
    refine kj_aloadn hC 0 dL_texts_344 rfl rfl ?_
    refine kj_ghost (n := 0) ?_
    refine kj_invV (ci := 9) (q := (RX9, TX9, 17)) (as := []) (rest := []) hC hT dL_texts_345 kw593 ky_X9_mirror ky2_X9_mirror rfl rfl (t_X9_mirror v0 (sX h1 (0))) rfl rfl (Nat.le_of_ble_eq_true rfl) ⟨by rw [hD]; decide, by decide⟩ ⟨by rw [hmc]; exact Nat.le_of_ble_eq_true rfl, by rw [hms]; exact Nat.le_of_ble_eq_true rfl⟩ (fun x1 h2 => ?_)
    refine kj_norm (st' := [.inl x1]) (c' := 0) (z' := 0) rfl rfl rfl ?_
    refine kj_iload hC 3 dL_texts_348 rfl ?_
    refine kj_icmp_ne (tgt := 357) hC dL_texts_350 (by decide) (fun q2 => ?_) (fun q2 => ?_)
    · refine kj_iconst (v := 1) hC dL_texts_353 (by decide) ?_
      refine kj_goto (tgt := 358) hC dL_texts_354 (by decide) ?_
      exact kj_sub [] rfl (t_L_texts_b358 hC hN hT hmc hms hD  1 h2)
    · refine kj_iconst (v := 0) hC dL_texts_357 (by decide) ?_
      exact kj_sub [] rfl (t_L_texts_b358 hC hN hT hmc hms hD  0 h2)
  · refine kj_iload hC 4 dL_texts_304 rfl ?_
    refine kj_iload hC 2 dL_texts_306 rfl ?_
    refine kj_iload hC 5 dL_texts_308 rfl ?_
    refine kj_invS (as := [.inl v5, .inl v9]) (rest := [.inl v8]) hC hT dL_texts_310 kw587 ky_L_sign ky2_L_sign (t_L_sign v5 v9 h) rfl rfl (Nat.le_of_ble_eq_true rfl) ⟨by rw [hD]; decide, by decide⟩ ⟨by rw [hmc]; exact Nat.le_of_ble_eq_true rfl, by rw [hms]; exact Nat.le_of_ble_eq_true rfl⟩ (fun x2 h3 => ?_)
    refine kj_norm (st' := [.inl x2, .inl v8]) (c' := 0) (z' := 0) rfl rfl rfl ?_
    refine kj_iconst (v := 4) hC dL_texts_313 (by decide) ?_
    refine kj_iload hC 3 dL_texts_314 rfl ?_
    refine kj_iconst (v := 1) hC dL_texts_316 (by decide) ?_
    refine kj_isub hC dL_texts_317 ?_
    refine kj_iload hC 5 dL_texts_318 rfl ?_
    refine kj_isub hC dL_texts_320 ?_
    refine kj_imul hC dL_texts_321 ?_
    refine kj_ishl hC dL_texts_322 ?_
    refine kj_ior hC dL_texts_323 ?_
    refine kj_istore (L' := [(8, .inl (v8 ||| (x2 <<< (((4 : Int32) * ((v6 - (1 : Int32)) - v9)) &&& 31)))), (0, .inr (.inr (some v0))), (4, .inr (.inr (some v4))), (5, .inl v5), (6, .inl v6), (9, .inl v9)]) hC dL_texts_324 (by decide) rfl ?_
    refine kj_iinc (v := v9 + 1) (L' := [(9, .inl (v9 + 1)), (8, .inl (v8 ||| (x2 <<< (((4 : Int32) * ((v6 - (1 : Int32)) - v9)) &&& 31)))), (0, .inr (.inr (some v0))), (4, .inr (.inr (some v4))), (5, .inl v5), (6, .inl v6)]) hC 5 dL_texts_326 rfl rfl (by decide) rfl ?_
    refine kj_goto (tgt := 297) hC dL_texts_329 (by decide) ?_
    exact kj_sub [2, 3, 4, 5, 1, 0] rfl (hr297 v0 v4 v5 v6 (v8 ||| (x2 <<< (((4 : Int32) * ((v6 - (1 : Int32)) - v9)) &&& 31))) (v9 + 1) h3)
set_option maxHeartbeats 4000000 in
set_option maxRecDepth 100000 in
theorem t_L_texts_L297 {X : KX} (hC : kC X RL cL_texts 13 (some .boolean)) (hN : (xme X).name = yL_texts.name) (hT : kT0 X) (hmc : xmc X = 9) (hms : xms X = 151) (hD : xD X = 9) : ∀ (n : Nat) (v0 : Nat) (v4 : Nat) (v5 : Int32) (v6 : Int32) (v8 : Int32) (v9 : Int32) (h : KH), kJ X (fun x : Int32 => some (.inl x)) 13 0 0 [(0, .inr (.inr (some v0))), (4, .inr (.inr (some v4))), (5, .inl v5), (6, .inl v6), (8, .inl v8), (9, .inl v9)] [] 297 h (L_texts_L297  n v0 v4 v5 v6 v8 v9 h) := by
  intro n
  induction n with
  | zero => intro v0 v4 v5 v6 v8 v9 h; exact kj_none
  | succ n ih => intro v0 v4 v5 v6 v8 v9 h; exact t_L_texts_b297 hC hN hT hmc hms hD (L_texts_L297  n) ih v0 v4 v5 v6 v8 v9 h
set_option maxHeartbeats 4000000 in
set_option maxRecDepth 100000 in
theorem t_L_texts_b285 {X : KX} (hC : kC X RL cL_texts 13 (some .boolean)) (hN : (xme X).name = yL_texts.name) (hT : kT0 X) (hmc : xmc X = 9) (hms : xms X = 151) (hD : xD X = 9) (s0 : Int32) (h : KH) : kJ X (fun x : Int32 => some (.inl x)) 13 9 151 [] [.inl s0] 285 h (L_texts_b285  s0 h) := by
  unfold L_texts_b285
  refine kj_fin hmc hms ?_
  exact kj_zreturn hC dL_texts_285
set_option maxHeartbeats 4000000 in
set_option maxRecDepth 100000 in
theorem t_L_texts_b277 {X : KX} (hC : kC X RL cL_texts 13 (some .boolean)) (hN : (xme X).name = yL_texts.name) (hT : kT0 X) (hmc : xmc X = 9) (hms : xms X = 151) (hD : xD X = 9) (s0 : Int32) (s1 : Int32) (h : KH) : kJ X (fun x : Int32 => some (.inl x)) 13 9 151 [] [.inl s0, .inl s1] 277 h (L_texts_b277  s0 s1 h) := by
  unfold L_texts_b277
  refine kj_icmp_ne (tgt := 284) hC dL_texts_277 (by decide) (fun q1 => ?_) (fun q1 => ?_)
  · refine kj_iconst (v := 1) hC dL_texts_280 (by decide) ?_
    refine kj_goto (tgt := 285) hC dL_texts_281 (by decide) ?_
    exact kj_sub [] rfl (t_L_texts_b285 hC hN hT hmc hms hD  1 h)
  · refine kj_iconst (v := 0) hC dL_texts_284 (by decide) ?_
    exact kj_sub [] rfl (t_L_texts_b285 hC hN hT hmc hms hD  0 h)
set_option maxHeartbeats 4000000 in
set_option maxRecDepth 100000 in
theorem t_L_texts_b241 {X : KX} (hC : kC X RL cL_texts 13 (some .boolean)) (hN : (xme X).name = yL_texts.name) (hT : kT0 X) (hmc : xmc X = 9) (hms : xms X = 151) (hD : xD X = 9) (v6 : Int32) (v8 : Int32) (v9 : Int32) (v10 : Int32) (h : KH) : kJ X (fun x : Int32 => some (.inl x)) 13 9 151 [(6, .inl v6), (8, .inl v8), (9, .inl v9), (10, .inl v10)] [] 241 h (L_texts_b241  v6 v8 v9 v10 h) := by
  unfold L_texts_b241
  refine kj_iload hC 2 dL_texts_241 rfl ?_
  refine kj_if_eq (tgt := 261) hC dL_texts_243 (by decide) (fun q1 => ?_) (fun q1 => ?_)
  · refine kj_iload hC 3 dL_texts_261 rfl ?_
    refine kj_iload hC 1 dL_texts_263 rfl ?_
    refine kj_iload hC 0 dL_texts_265 rfl ?_
    refine kj_icmp_ne (tgt := 275) hC dL_texts_267 (by decide) (fun q2 => ?_) (fun q2 => ?_)
    · refine kj_bipush (v := (-109)) hC dL_texts_270 (by decide) ?_
      refine kj_goto (tgt := 277) hC dL_texts_272 (by decide) ?_
      exact kj_sub [] rfl (t_L_texts_b277 hC hN hT hmc hms hD  ((-109)) v10 h)
    · refine kj_bipush (v := (-108)) hC dL_texts_275 (by decide) ?_
      exact kj_sub [] rfl (t_L_texts_b277 hC hN hT hmc hms hD  ((-108)) v10 h)
  · refine kj_iload hC 3 dL_texts_246 rfl ?_
    refine kj_iload hC 0 dL_texts_248 rfl ?_
    refine kj_icmp_le (tgt := 257) hC dL_texts_250 (by decide) (fun q3 => ?_) (fun q3 => ?_)
    · refine kj_iconst (v := 0) hC dL_texts_257 (by decide) ?_
      refine kj_goto (tgt := 285) hC dL_texts_258 (by decide) ?_
      exact kj_sub [] rfl (t_L_texts_b285 hC hN hT hmc hms hD  0 h)
    · refine kj_iconst (v := 1) hC dL_texts_253 (by decide) ?_
      refine kj_goto (tgt := 285) hC dL_texts_254 (by decide) ?_
      exact kj_sub [] rfl (t_L_texts_b285 hC hN hT hmc hms hD  1 h)
set_option maxHeartbeats 4000000 in
set_option maxRecDepth 100000 in
theorem t_L_texts_b166 {X : KX} (hC : kC X RL cL_texts 13 (some .boolean)) (hN : (xme X).name = yL_texts.name) (hT : kT0 X) (hmc : xmc X = 9) (hms : xms X = 151) (hD : xD X = 9) (v0 : Nat) (v4 : Nat) (v5 : Int32) (v6 : Int32) (v7 : Int32) (v8 : Int32) (s0 : Int32) (h : KH) : kJ X (fun x : Int32 => some (.inl x)) 13 0 0 [(0, .inr (.inr (some v0))), (4, .inr (.inr (some v4))), (5, .inl v5), (6, .inl v6), (7, .inl v7), (8, .inl v8)] [.inl s0] 166 h (L_texts_b166  v0 v4 v5 v6 v7 v8 s0 h) := by
  unfold L_texts_b166
  refine kj_istore (L' := [(9, .inl s0), (0, .inr (.inr (some v0))), (4, .inr (.inr (some v4))), (5, .inl v5), (6, .inl v6), (7, .inl v7), (8, .inl v8)]) hC dL_texts_166 (by decide) rfl ?_
  refine kj_aloadn hC 1 dL_texts_168 rfl rfl ?_
  refine kj_iconst (v := 4) hC dL_texts_169 (by decide) ?_
  refine kj_iload hC 5 dL_texts_170 rfl ?_
  refine kj_iload hC 6 dL_texts_172 rfl ?_
  refine kj_invSX (as := [.inr (.inr (some v0)), .inl 4, .inl v7, .inl v8]) (rest := []) hC hT dL_texts_174 kw215 kyX_L_asks ky2_L_asks (t_L_asks v0 4 v7 v8 h) rfl rfl (Nat.le_of_ble_eq_true rfl) ⟨by rw [hD]; decide, by decide⟩ ⟨by rw [hmc]; exact Nat.le_of_ble_eq_true rfl, by rw [hms]; exact Nat.le_of_ble_eq_true rfl⟩ (fun x1 h1 => ?_)
  refine kj_norm (st' := [.inl x1]) (c' := 9) (z' := 151) rfl rfl rfl ?_
  refine kj_istore (L' := [(10, .inl x1), (9, .inl s0), (0, .inr (.inr (some v0))), (4, .inr (.inr (some v4))), (5, .inl v5), (6, .inl v6), (7, .inl v7), (8, .inl v8)]) hC dL_texts_177 (by decide) rfl ?_
  refine kj_iload hC 1 dL_texts_179 rfl ?_
  refine kj_if_eq (tgt := 241) hC dL_texts_181 (by decide) (fun q1 => ?_) (fun q1 => ?_)
  · exact kj_sub [5, 7, 1, 0] rfl (t_L_texts_b241 hC hN hT hmc hms hD  v6 v8 s0 x1 h1)
  · refine kj_iload hC 4 dL_texts_184 rfl ?_
    refine kj_iconst (v := 1) hC dL_texts_186 (by decide) ?_
    refine kj_iconst (v := 4) hC dL_texts_187 (by decide) ?_
    refine kj_iload hC 7 dL_texts_188 rfl ?_
    refine kj_imul hC dL_texts_190 ?_
    refine kj_ishl hC dL_texts_191 ?_
    refine kj_iconst (v := 1) hC dL_texts_192 (by decide) ?_
    refine kj_isub hC dL_texts_193 ?_
    refine kj_iand hC dL_texts_194 ?_
    refine kj_istore (L' := [(11, .inl (v5 &&& (((1 : Int32) <<< (((4 : Int32) * v8) &&& 31)) - (1 : Int32)))), (10, .inl x1), (9, .inl s0), (0, .inr (.inr (some v0))), (4, .inr (.inr (some v4))), (5, .inl v5), (6, .inl v6), (7, .inl v7), (8, .inl v8)]) hC dL_texts_195 (by decide) rfl ?_
    refine kj_iload hC 5 dL_texts_197 rfl ?_
    refine kj_ldc (v := 16777215) hC dL_texts_199 kw586 ?_
    refine kj_iand hC dL_texts_201 ?_
    refine kj_iconst (v := 4) hC dL_texts_202 (by decide) ?_
    refine kj_iload hC 8 dL_texts_203 rfl ?_
    refine kj_imul hC dL_texts_205 ?_
    refine kj_ishr hC dL_texts_206 ?_
    refine kj_istore (L' := [(12, .inl ((v5 &&& (16777215 : Int32)) >>> (((4 : Int32) * v8) &&& 31))), (11, .inl (v5 &&& (((1 : Int32) <<< (((4 : Int32) * v8) &&& 31)) - (1 : Int32)))), (10, .inl x1), (9, .inl s0), (0, .inr (.inr (some v0))), (4, .inr (.inr (some v4))), (5, .inl v5), (6, .inl v6), (7, .inl v7), (8, .inl v8)]) hC dL_texts_207 (by decide) rfl ?_
    refine kj_aload hC 5 dL_texts_209 rfl ?_
    refine kj_iconst (v := 0) hC dL_texts_211 (by decide) ?_
    refine kj_iload hC 1 dL_texts_212 rfl ?_
    refine kj_iload hC 8 dL_texts_214 rfl ?_
    refine kj_iconst (v := 4) hC dL_texts_216 (by decide) ?_
    refine kj_iload hC 9 dL_texts_217 rfl ?_
    refine kj_imul hC dL_texts_219 ?_
    refine kj_ishl hC dL_texts_220 ?_
    refine kj_ior hC dL_texts_221 ?_
    refine kj_iload hC 0 dL_texts_222 rfl ?_
    refine kj_iconst (v := 4) hC dL_texts_224 (by decide) ?_
    refine kj_iload hC 9 dL_texts_225 rfl ?_
    refine kj_imul hC dL_texts_227 ?_
    refine kj_iconst (v := 4) hC dL_texts_228 (by decide) ?_
    refine kj_iadd hC dL_texts_229 ?_
    refine kj_ishl hC dL_texts_230 ?_
    refine kj_ior hC dL_texts_231 ?_
    refine kj_iload hC 7 dL_texts_232 rfl ?_
    refine kj_iconst (v := 1) hC dL_texts_234 (by decide) ?_
    refine kj_iadd hC dL_texts_235 ?_
    refine kj_bipush (v := 24) hC dL_texts_236 (by decide) ?_
    refine kj_ishl hC dL_texts_238 ?_
    refine kj_ior hC dL_texts_239 ?_
    refine kj_pAIc (c := 31) hC rfl (by decide) dL_texts_240 (fun h2 => ?_)
    exact kj_sub [7, 9, 3, 2] rfl (t_L_texts_b241 hC hN hT hmc hms hD  v6 v8 s0 x1 h2)
set_option maxHeartbeats 4000000 in
set_option maxRecDepth 100000 in
theorem t_L_texts_b165 {X : KX} (hC : kC X RL cL_texts 13 (some .boolean)) (hN : (xme X).name = yL_texts.name) (hT : kT0 X) (hmc : xmc X = 9) (hms : xms X = 151) (hD : xD X = 9) (v0 : Nat) (v4 : Nat) (v5 : Int32) (v6 : Int32) (v7 : Int32) (v8 : Int32) (h : KH) : kJ X (fun x : Int32 => some (.inl x)) 13 0 0 [(0, .inr (.inr (some v0))), (4, .inr (.inr (some v4))), (5, .inl v5), (6, .inl v6), (7, .inl v7), (8, .inl v8)] [] 165 h (L_texts_b165  v0 v4 v5 v6 v7 v8 h) := by
  unfold L_texts_b165
  refine kj_iconst (v := 0) hC dL_texts_165 (by decide) ?_
  exact kj_sub [0, 1, 2, 3, 4, 5] rfl (t_L_texts_b166 hC hN hT hmc hms hD  v0 v4 v5 v6 v7 v8 0 h)
set_option maxHeartbeats 4000000 in
set_option maxRecDepth 100000 in
theorem t_L_texts_b133 {X : KX} (hC : kC X RL cL_texts 13 (some .boolean)) (hN : (xme X).name = yL_texts.name) (hT : kT0 X) (hmc : xmc X = 9) (hms : xms X = 151) (hD : xD X = 9) (s0 : Int32) (h : KH) : kJ X (fun x : Int32 => some (.inl x)) 13 9 151 [] [.inl s0] 133 h (L_texts_b133  s0 h) := by
  unfold L_texts_b133
  refine kj_fin hmc hms ?_
  exact kj_zreturn hC dL_texts_133
set_option maxHeartbeats 4000000 in
set_option maxRecDepth 100000 in
theorem t_L_texts_b117 {X : KX} (hC : kC X RL cL_texts 13 (some .boolean)) (hN : (xme X).name = yL_texts.name) (hT : kT0 X) (hmc : xmc X = 9) (hms : xms X = 151) (hD : xD X = 9)  (h : KH) : kJ X (fun x : Int32 => some (.inl x)) 13 9 151 [] [] 117 h (L_texts_b117   h) := by
  unfold L_texts_b117
  refine kj_iconst (v := 0) hC dL_texts_117 (by decide) ?_
  refine kj_goto (tgt := 133) hC dL_texts_118 (by decide) ?_
  exact kj_sub [] rfl (t_L_texts_b133 hC hN hT hmc hms hD  0 h)
set_option maxHeartbeats 4000000 in
set_option maxRecDepth 100000 in
theorem t_L_texts_b79 {X : KX} (hC : kC X RL cL_texts 13 (some .boolean)) (hN : (xme X).name = yL_texts.name) (hT : kT0 X) (hmc : xmc X = 9) (hms : xms X = 151) (hD : xD X = 9) (v0 : Nat) (v6 : Int32) (v7 : Int32) (v8 : Int32) (s0 : Int32) (s1 : Int32) (s2 : Nat) (h : KH) : kJ X (fun x : Int32 => some (.inl x)) 13 0 0 [(0, .inr (.inr (some v0))), (6, .inl v6), (7, .inl v7), (8, .inl v8)] [.inl s0, .inl s1, .inr (.inr (some s2))] 79 h (L_texts_b79  v0 v6 v7 v8 s0 s1 s2 h) := by
  unfold L_texts_b79
  refine kj_pAIc (c := 31) hC rfl (by decide) dL_texts_79 (fun h1 => ?_)
  refine kj_aloadn hC 0 dL_texts_80 rfl rfl ?_
  refine kj_iconst (v := 0) hC dL_texts_81 (by decide) ?_
  refine kj_iload hC 2 dL_texts_82 rfl ?_
  refine kj_iconst (v := 0) hC dL_texts_84 (by decide) ?_
  refine kj_invSX (as := [.inr (.inr (some v0)), .inl 0, .inl v7, .inl 0]) (rest := []) hC hT dL_texts_85 kw215 kyX_L_asks ky2_L_asks (t_L_asks v0 0 v7 0 h1) rfl rfl (Nat.le_of_ble_eq_true rfl) ⟨by rw [hD]; decide, by decide⟩ ⟨by rw [hmc]; exact Nat.le_of_ble_eq_true rfl, by rw [hms]; exact Nat.le_of_ble_eq_true rfl⟩ (fun x1 h2 => ?_)
  refine kj_norm (st' := [.inl x1]) (c' := 9) (z' := 151) rfl rfl rfl ?_
  refine kj_istore (L' := [(9, .inl x1), (0, .inr (.inr (some v0))), (6, .inl v6), (7, .inl v7), (8, .inl v8)]) hC dL_texts_88 (by decide) rfl ?_
  refine kj_iload hC 4 dL_texts_90 rfl ?_
  refine kj_if_eq (tgt := 121) hC dL_texts_92 (by decide) (fun q1 => ?_) (fun q1 => ?_)
  · refine kj_iload hC 0 dL_texts_121 rfl ?_
    refine kj_bipush (v := (-108)) hC dL_texts_123 (by decide) ?_
    refine kj_icmp_ne (tgt := 132) hC dL_texts_125 (by decide) (fun q2 => ?_) (fun q2 => ?_)
    · refine kj_iconst (v := 1) hC dL_texts_128 (by decide) ?_
      refine kj_goto (tgt := 133) hC dL_texts_129 (by decide) ?_
      exact kj_sub [] rfl (t_L_texts_b133 hC hN hT hmc hms hD  1 h2)
    · refine kj_iconst (v := 0) hC dL_texts_132 (by decide) ?_
      exact kj_sub [] rfl (t_L_texts_b133 hC hN hT hmc hms hD  0 h2)
  · refine kj_iload hC 0 dL_texts_95 rfl ?_
    refine kj_iload hC 2 dL_texts_97 rfl ?_
    refine kj_icmp_le (tgt := 117) hC dL_texts_99 (by decide) (fun q3 => ?_) (fun q3 => ?_)
    · exact kj_sub [] rfl (t_L_texts_b117 hC hN hT hmc hms hD   h2)
    · refine kj_iload hC 0 dL_texts_102 rfl ?_
      refine kj_iconst (v := 2) hC dL_texts_104 (by decide) ?_
      refine kj_iload hC 2 dL_texts_105 rfl ?_
      refine kj_imul hC dL_texts_107 ?_
      refine kj_iconst (v := 2) hC dL_texts_108 (by decide) ?_
      refine kj_iadd hC dL_texts_109 ?_
      refine kj_icmp_gt (tgt := 117) hC dL_texts_110 (by decide) (fun q4 => ?_) (fun q4 => ?_)
      · exact kj_sub [] rfl (t_L_texts_b117 hC hN hT hmc hms hD   h2)
      · refine kj_iconst (v := 1) hC dL_texts_113 (by decide) ?_
        refine kj_goto (tgt := 133) hC dL_texts_114 (by decide) ?_
        exact kj_sub [] rfl (t_L_texts_b133 hC hN hT hmc hms hD  1 h2)
set_option maxHeartbeats 4000000 in
set_option maxRecDepth 100000 in
theorem t_L_texts_b51 {X : KX} (hC : kC X RL cL_texts 13 (some .boolean)) (hN : (xme X).name = yL_texts.name) (hT : kT0 X) (hmc : xmc X = 9) (hms : xms X = 151) (hD : xD X = 9) (v0 : Nat) (v4 : Nat) (v5 : Int32) (v6 : Int32) (v7 : Int32) (s0 : Int32) (h : KH) : kJ X (fun x : Int32 => some (.inl x)) 13 0 0 [(0, .inr (.inr (some v0))), (4, .inr (.inr (some v4))), (5, .inl v5), (6, .inl v6), (7, .inl v7)] [.inl s0] 51 h (L_texts_b51  v0 v4 v5 v6 v7 s0 h) := by
  unfold L_texts_b51
  refine kj_istore (L' := [(8, .inl s0), (0, .inr (.inr (some v0))), (4, .inr (.inr (some v4))), (5, .inl v5), (6, .inl v6), (7, .inl v7)]) hC dL_texts_51 (by decide) rfl ?_
  refine kj_aload hC 2 dL_texts_53 rfl ?_
  refine kj_iconst (v := 0) hC dL_texts_55 (by decide) ?_
  refine kj_iload hC 0 dL_texts_56 rfl ?_
  refine kj_if_eq (tgt := 77) hC dL_texts_58 (by decide) (fun q1 => ?_) (fun q1 => ?_)
  · refine kj_iload hC 3 dL_texts_77 rfl ?_
    exact kj_sub [1, 4, 5, 0] rfl (t_L_texts_b79 hC hN hT hmc hms hD  v0 v6 v7 s0 v5 0 v4 h)
  · refine kj_iload hC 3 dL_texts_61 rfl ?_
    refine kj_ldc (v := 16777216) hC dL_texts_63 kw214 ?_
    refine kj_iadd hC dL_texts_65 ?_
    refine kj_iload hC 5 dL_texts_66 rfl ?_
    refine kj_iconst (v := 4) hC dL_texts_68 (by decide) ?_
    refine kj_iload hC 4 dL_texts_69 rfl ?_
    refine kj_imul hC dL_texts_71 ?_
    refine kj_ishl hC dL_texts_72 ?_
    refine kj_ior hC dL_texts_73 ?_
    refine kj_goto (tgt := 79) hC dL_texts_74 (by decide) ?_
    exact kj_sub [1, 4, 5, 0] rfl (t_L_texts_b79 hC hN hT hmc hms hD  v0 v6 v7 s0 ((v5 + (16777216 : Int32)) ||| (v7 <<< (((4 : Int32) * v6) &&& 31))) 0 v4 h)
set_option maxHeartbeats 4000000 in
set_option maxRecDepth 100000 in
theorem t_L_texts_b33 {X : KX} (hC : kC X RL cL_texts 13 (some .boolean)) (hN : (xme X).name = yL_texts.name) (hT : kT0 X) (hmc : xmc X = 9) (hms : xms X = 151) (hD : xD X = 9) (v0 : Nat) (v1 : Int32) (v3 : Int32) (v4 : Nat) (v5 : Int32) (v6 : Int32) (s0 : Int32) (h : KH) : kJ X (fun x : Int32 => some (.inl x)) 13 0 0 [(0, .inr (.inr (some v0))), (1, .inl v1), (3, .inl v3), (4, .inr (.inr (some v4))), (5, .inl v5), (6, .inl v6)] [.inl s0] 33 h (L_texts_b33  v0 v1 v3 v4 v5 v6 s0 h) := by
  unfold L_texts_b33
  refine kj_istore (L' := [(7, .inl s0), (0, .inr (.inr (some v0))), (1, .inl v1), (3, .inl v3), (4, .inr (.inr (some v4))), (5, .inl v5), (6, .inl v6)]) hC dL_texts_33 (by decide) rfl ?_
  refine kj_iloadn hC 2 dL_texts_35 rfl rfl ?_
  refine kj_if_ne (tgt := 134) hC dL_texts_36 (by decide) (fun q1 => ?_) (fun q1 => ?_)
  · refine kj_iload hC 6 dL_texts_39 rfl ?_
    refine kj_bipush (v := 6) hC dL_texts_41 (by decide) ?_
    refine kj_icmp_ge (tgt := 50) hC dL_texts_43 (by decide) (fun q7 => ?_) (fun q7 => ?_)
    · refine kj_iconst (v := 0) hC dL_texts_50 (by decide) ?_
      exact kj_sub [1, 4, 5, 6, 0] rfl (t_L_texts_b51 hC hN hT hmc hms hD  v0 v4 v5 v6 s0 0 h)
    · refine kj_iconst (v := 1) hC dL_texts_46 (by decide) ?_
      refine kj_goto (tgt := 51) hC dL_texts_47 (by decide) ?_
      exact kj_sub [1, 4, 5, 6, 0] rfl (t_L_texts_b51 hC hN hT hmc hms hD  v0 v4 v5 v6 s0 1 h)
  · refine kj_iloadn hC 2 dL_texts_134 rfl rfl ?_
    refine kj_iconst (v := 1) hC dL_texts_135 (by decide) ?_
    refine kj_icmp_ne (tgt := 286) hC dL_texts_136 (by decide) (fun q2 => ?_) (fun q2 => ?_)
    · refine kj_iloadn hC 3 dL_texts_139 rfl rfl ?_
      refine kj_iload hC 6 dL_texts_140 rfl ?_
      refine kj_iconst (v := 1) hC dL_texts_142 (by decide) ?_
      refine kj_iadd hC dL_texts_143 ?_
      refine kj_irem hC dL_texts_144 ?_
      refine kj_istore (L' := [(8, .inl (v3 - v3 / (v6 + (1 : Int32)) * (v6 + (1 : Int32)))), (7, .inl s0), (0, .inr (.inr (some v0))), (1, .inl v1), (3, .inl v3), (4, .inr (.inr (some v4))), (5, .inl v5), (6, .inl v6)]) hC dL_texts_145 (by decide) rfl ?_
      refine kj_iload hC 7 dL_texts_147 rfl ?_
      refine kj_bipush (v := 6) hC dL_texts_149 (by decide) ?_
      refine kj_icmp_ge (tgt := 165) hC dL_texts_151 (by decide) (fun q5 => ?_) (fun q5 => ?_)
      · exact kj_sub [2, 5, 6, 7, 1, 0] rfl (t_L_texts_b165 hC hN hT hmc hms hD  v0 v4 v5 v6 s0 (v3 - v3 / (v6 + (1 : Int32)) * (v6 + (1 : Int32))) h)
      · refine kj_iload hC 0 dL_texts_154 rfl ?_
        refine kj_iload hC 7 dL_texts_156 rfl ?_
        refine kj_icmp_ge (tgt := 165) hC dL_texts_158 (by decide) (fun q6 => ?_) (fun q6 => ?_)
        · exact kj_sub [2, 5, 6, 7, 1, 0] rfl (t_L_texts_b165 hC hN hT hmc hms hD  v0 v4 v5 v6 s0 (v3 - v3 / (v6 + (1 : Int32)) * (v6 + (1 : Int32))) h)
        · refine kj_iconst (v := 1) hC dL_texts_161 (by decide) ?_
          refine kj_goto (tgt := 166) hC dL_texts_162 (by decide) ?_
          exact kj_sub [2, 5, 6, 7, 1, 0] rfl (t_L_texts_b166 hC hN hT hmc hms hD  v0 v4 v5 v6 s0 (v3 - v3 / (v6 + (1 : Int32)) * (v6 + (1 : Int32))) 1 h)
    · refine kj_iloadn hC 2 dL_texts_286 rfl rfl ?_
      refine kj_iconst (v := 2) hC dL_texts_287 (by decide) ?_
      refine kj_icmp_ne (tgt := 359) hC dL_texts_288 (by decide) (fun q3 => ?_) (fun q3 => ?_)
      · refine kj_iconst (v := 0) hC dL_texts_291 (by decide) ?_
        refine kj_istore (L' := [(8, .inl 0), (7, .inl s0), (0, .inr (.inr (some v0))), (1, .inl v1), (3, .inl v3), (4, .inr (.inr (some v4))), (5, .inl v5), (6, .inl v6)]) hC dL_texts_292 (by decide) rfl ?_
        refine kj_iconst (v := 0) hC dL_texts_294 (by decide) ?_
        refine kj_istore (L' := [(9, .inl 0), (8, .inl 0), (7, .inl s0), (0, .inr (.inr (some v0))), (1, .inl v1), (3, .inl v3), (4, .inr (.inr (some v4))), (5, .inl v5), (6, .inl v6)]) hC dL_texts_295 (by decide) rfl ?_
        exact kj_sub [3, 6, 7, 8, 1, 0] rfl (t_L_texts_L297 hC hN hT hmc hms hD  kF v0 v4 v5 v6 0 0 h)
      · refine kj_aload hC 4 dL_texts_359 rfl ?_
        refine kj_iconst (v := 0) hC dL_texts_361 (by decide) ?_
        refine kj_iconst (v := 0) hC dL_texts_362 (by decide) ?_
        refine kj_pAIc (c := 31) hC rfl (by decide) dL_texts_363 (fun h1 => ?_)
        refine kj_aloadn hC 1 dL_texts_364 rfl rfl ?_
        refine kj_ghost (n := 0) ?_
        refine kj_invV (ci := 9) (q := (RX9, TX9, 17)) (as := []) (rest := []) hC hT dL_texts_365 kw601 ky_X9_clearSpelled ky2_X9_clearSpelled rfl rfl (t_X9_clearSpelled v0 (sX h1 (0))) rfl rfl (Nat.le_of_ble_eq_true rfl) ⟨by rw [hD]; decide, by decide⟩ ⟨by rw [hmc]; exact Nat.le_of_ble_eq_true rfl, by rw [hms]; exact Nat.le_of_ble_eq_true rfl⟩ (fun x1 h2 => ?_)
        refine kj_norm (st' := [.inl x1]) (c' := 0) (z' := 0) rfl rfl rfl ?_
        refine kj_iload hC 6 dL_texts_368 rfl ?_
        refine kj_icmp_ne (tgt := 377) hC dL_texts_370 (by decide) (fun q4 => ?_) (fun q4 => ?_)
        · refine kj_iconst (v := 1) hC dL_texts_373 (by decide) ?_
          refine kj_goto (tgt := 378) hC dL_texts_374 (by decide) ?_
          exact kj_sub [] rfl (t_L_texts_b378 hC hN hT hmc hms hD  1 h2)
        · refine kj_iconst (v := 0) hC dL_texts_377 (by decide) ?_
          exact kj_sub [] rfl (t_L_texts_b378 hC hN hT hmc hms hD  0 h2)
set_option maxHeartbeats 4000000 in
set_option maxRecDepth 100000 in
theorem t_L_texts (p0 : Nat) (p1 : Int32) (p2 : Int32) (p3 : Int32) (p4 : Nat) (h : KH) : kM yL_texts cL_texts 13 (some .boolean) 9 9 151 (fun x : Int32 => some (.inl x)) [.inr (.inr (some p0)), .inl p1, .inl p2, .inl p3, .inr (.inr (some p4))] h (f_L_texts p0 p1 p2 p3 p4 h) := by
  refine kM_of RL (by decide) rfl (Nat.le_of_ble_eq_true rfl) [(0, .inr (.inr (some p0))), (1, .inl p1), (2, .inl p2), (3, .inl p3), (4, .inr (.inr (some p4)))] rfl (fun X hC hN hT hmc hms hD => ?_)
  unfold f_L_texts
  refine kj_aload hC 4 dL_texts_0 rfl ?_
  refine kj_iconst (v := 0) hC dL_texts_2 (by decide) ?_
  refine kj_gAIc (c := 31) hC rfl dL_texts_3 (fun x1 => ?_)
  refine kj_istore (L' := [(5, .inl x1), (0, .inr (.inr (some p0))), (1, .inl p1), (2, .inl p2), (3, .inl p3), (4, .inr (.inr (some p4)))]) hC dL_texts_4 (by decide) rfl ?_
  refine kj_iload hC 0 dL_texts_6 rfl ?_
  refine kj_invS (as := [.inl x1]) (rest := []) hC hT dL_texts_8 kw211 ky_L_size ky2_L_size (t_L_size x1 h) rfl rfl (Nat.le_of_ble_eq_true rfl) ⟨by rw [hD]; decide, by decide⟩ ⟨by rw [hmc]; exact Nat.le_of_ble_eq_true rfl, by rw [hms]; exact Nat.le_of_ble_eq_true rfl⟩ (fun x2 h1 => ?_)
  refine kj_norm (st' := [.inl x2]) (c' := 0) (z' := 0) rfl rfl rfl ?_
  refine kj_istore (L' := [(6, .inl x2), (5, .inl x1), (0, .inr (.inr (some p0))), (1, .inl p1), (2, .inl p2), (3, .inl p3), (4, .inr (.inr (some p4)))]) hC dL_texts_11 (by decide) rfl ?_
  refine kj_iloadn hC 4 dL_texts_13 rfl rfl ?_
  refine kj_iconst (v := 4) hC dL_texts_14 (by decide) ?_
  refine kj_irem hC dL_texts_15 ?_
  refine kj_if_ne (tgt := 28) hC dL_texts_16 (by decide) (fun q1 => ?_) (fun q1 => ?_)
  · refine kj_iloadn hC 4 dL_texts_19 rfl rfl ?_
    refine kj_iconst (v := 4) hC dL_texts_20 (by decide) ?_
    refine kj_idiv hC dL_texts_21 ?_
    refine kj_bipush (v := 15) hC dL_texts_22 (by decide) ?_
    refine kj_irem hC dL_texts_24 ?_
    refine kj_goto (tgt := 33) hC dL_texts_25 (by decide) ?_
    exact kj_sub [2, 3, 5, 6, 1, 0] rfl (t_L_texts_b33 hC hN hT hmc hms hD  p0 p1 p3 p4 x1 x2 ((p2 / (4 : Int32)) - (p2 / (4 : Int32)) / (15 : Int32) * (15 : Int32)) h1)
  · refine kj_iloadn hC 4 dL_texts_28 rfl rfl ?_
    refine kj_iconst (v := 4) hC dL_texts_29 (by decide) ?_
    refine kj_idiv hC dL_texts_30 ?_
    refine kj_iconst (v := 3) hC dL_texts_31 (by decide) ?_
    refine kj_irem hC dL_texts_32 ?_
    exact kj_sub [2, 3, 5, 6, 1, 0] rfl (t_L_texts_b33 hC hN hT hmc hms hD  p0 p1 p3 p4 x1 x2 ((p2 / (4 : Int32)) - (p2 / (4 : Int32)) / (3 : Int32) * (3 : Int32)) h1)
set_option maxHeartbeats 4000000 in
set_option maxRecDepth 100000 in
theorem t_L_plates_b360 (g : Nat) {X : KX} (hC : kC X RL cL_plates 10 (some .boolean)) (hN : (xme X).name = yL_plates.name) (hT : kT0 X) (hmc : xmc X = 9) (hms : xms X = 151) (hD : xD X = 9) (s0 : Int32) (h : KH) : kJ X (fun x : Int32 => some (.inl x)) 10 1 3 [] [.inl s0] 360 h (L_plates_b360 g  s0 h) := by
  unfold L_plates_b360
  refine kj_widen (k := 9) (n := 151) (Nat.le_of_ble_eq_true rfl) (Nat.le_of_ble_eq_true rfl) ?_
  refine kj_fin hmc hms ?_
  exact kj_zreturn hC dL_plates_360
set_option maxHeartbeats 4000000 in
set_option maxRecDepth 100000 in
theorem t_L_plates_b359 (g : Nat) {X : KX} (hC : kC X RL cL_plates 10 (some .boolean)) (hN : (xme X).name = yL_plates.name) (hT : kT0 X) (hmc : xmc X = 9) (hms : xms X = 151) (hD : xD X = 9)  (h : KH) : kJ X (fun x : Int32 => some (.inl x)) 10 1 3 [] [] 359 h (L_plates_b359 g   h) := by
  unfold L_plates_b359
  refine kj_iconst (v := 0) hC dL_plates_359 (by decide) ?_
  exact kj_sub [] rfl (t_L_plates_b360 g hC hN hT hmc hms hD  0 h)
set_option maxHeartbeats 4000000 in
set_option maxRecDepth 100000 in
theorem t_L_plates_b355 (g : Nat) {X : KX} (hC : kC X RL cL_plates 10 (some .boolean)) (hN : (xme X).name = yL_plates.name) (hT : kT0 X) (hmc : xmc X = 9) (hms : xms X = 151) (hD : xD X = 9)  (h : KH) : kJ X (fun x : Int32 => some (.inl x)) 10 1 3 [] [] 355 h (L_plates_b355 g   h) := by
  unfold L_plates_b355
  refine kj_iconst (v := 1) hC dL_plates_355 (by decide) ?_
  refine kj_goto (tgt := 360) hC dL_plates_356 (by decide) ?_
  exact kj_sub [] rfl (t_L_plates_b360 g hC hN hT hmc hms hD  1 h)
set_option maxHeartbeats 4000000 in
set_option maxRecDepth 100000 in
theorem t_L_plates_b297 (g : Nat) {X : KX} (hC : kC X RL cL_plates 10 (some .boolean)) (hN : (xme X).name = yL_plates.name) (hT : kT0 X) (hmc : xmc X = 9) (hms : xms X = 151) (hD : xD X = 9) (v0 : Nat) (v3 : Int32) (v6 : Nat) (v7 : Int32) (v8 : Int32) (s0 : Int32) (h : KH) : kJ X (fun x : Int32 => some (.inl x)) 10 0 0 [(0, .inr (.inr (some v0))), (3, .inl v3), (6, .inr (.inr (some v6))), (7, .inl v7), (8, .inl v8)] [.inl s0] 297 h (L_plates_b297 g  v0 v3 v6 v7 v8 s0 h) := by
  unfold L_plates_b297
  refine kj_istore (L' := [(9, .inl s0), (0, .inr (.inr (some v0))), (3, .inl v3), (6, .inr (.inr (some v6))), (7, .inl v7), (8, .inl v8)]) hC dL_plates_297 (by decide) rfl ?_
  refine kj_aloadn hC 1 dL_plates_299 rfl rfl ?_
  refine kj_iload hC 4 dL_plates_300 rfl ?_
  refine kj_iloadn hC 2 dL_plates_302 rfl rfl ?_
  refine kj_bipush (v := 6) hC dL_plates_303 (by decide) ?_
  refine kj_irem hC dL_plates_305 ?_
  refine kj_ghost (n := 1000 + g) ?_
  refine kj_invV (ci := 9) (q := (RX9, TX9, 17)) (as := [.inl v7, .inl (v3 - v3 / (6 : Int32) * (6 : Int32))]) (rest := []) hC hT dL_plates_306 kw616 ky_X9_sell ky2_X9_sell rfl rfl (t_zX9_sell v0 v7 (v3 - v3 / (6 : Int32) * (6 : Int32)) (sX h (1000 + g))) rfl rfl (Nat.le_of_ble_eq_true rfl) ⟨by rw [hD]; decide, by decide⟩ ⟨by rw [hmc]; exact Nat.le_of_ble_eq_true rfl, by rw [hms]; exact Nat.le_of_ble_eq_true rfl⟩ (fun x1 h1 => ?_)
  refine kj_norm (st' := [.inl x1]) (c' := 1) (z' := 3) rfl rfl rfl ?_
  refine kj_iload hC 5 dL_plates_309 rfl ?_
  refine kj_icmp_ne (tgt := 359) hC dL_plates_311 (by decide) (fun q1 => ?_) (fun q1 => ?_)
  · refine kj_aloadn hC 1 dL_plates_314 rfl rfl ?_
    refine kj_iload hC 4 dL_plates_315 rfl ?_
    refine kj_aload hC 3 dL_plates_317 rfl ?_
    refine kj_iconst (v := 0) hC dL_plates_319 (by decide) ?_
    refine kj_gAIc (c := 31) hC rfl dL_plates_320 (fun x2 => ?_)
    refine kj_ghost (n := 0) ?_
    refine kj_invV (ci := 9) (q := (RX9, TX9, 17)) (as := [.inl v7, .inl x2]) (rest := []) hC hT dL_plates_321 kw608 ky_X9_holder ky2_X9_holder rfl rfl (t_zX9_holder v0 v7 x2 (sX h1 (0))) rfl rfl (Nat.le_of_ble_eq_true rfl) ⟨by rw [hD]; decide, by decide⟩ ⟨by rw [hmc]; exact Nat.le_of_ble_eq_true rfl, by rw [hms]; exact Nat.le_of_ble_eq_true rfl⟩ (fun x3 h2 => ?_)
    refine kj_norm (st' := [.inl x3]) (c' := 1) (z' := 3) rfl rfl rfl ?_
    refine kj_iloadn hC 2 dL_plates_324 rfl rfl ?_
    refine kj_bipush (v := 6) hC dL_plates_325 (by decide) ?_
    refine kj_irem hC dL_plates_327 ?_
    refine kj_icmp_ne (tgt := 359) hC dL_plates_328 (by decide) (fun q2 => ?_) (fun q2 => ?_)
    · refine kj_aload hC 3 dL_plates_331 rfl ?_
      refine kj_iconst (v := 0) hC dL_plates_333 (by decide) ?_
      refine kj_gAIc (c := 31) hC rfl dL_plates_334 (fun x4 => ?_)
      refine kj_if_eq (tgt := 355) hC dL_plates_335 (by decide) (fun q3 => ?_) (fun q3 => ?_)
      · exact kj_sub [] rfl (t_L_plates_b355 g hC hN hT hmc hms hD   h2)
      · refine kj_aloadn hC 1 dL_plates_338 rfl rfl ?_
        refine kj_iload hC 4 dL_plates_339 rfl ?_
        refine kj_aload hC 3 dL_plates_341 rfl ?_
        refine kj_iconst (v := 0) hC dL_plates_343 (by decide) ?_
        refine kj_gAIc (c := 31) hC rfl dL_plates_344 (fun x5 => ?_)
        refine kj_iconst (v := 1) hC dL_plates_345 (by decide) ?_
        refine kj_isub hC dL_plates_346 ?_
        refine kj_ghost (n := 0) ?_
        refine kj_invV (ci := 9) (q := (RX9, TX9, 17)) (as := [.inl v7, .inl (x5 - (1 : Int32))]) (rest := []) hC hT dL_plates_347 kw608 ky_X9_holder ky2_X9_holder rfl rfl (t_zX9_holder v0 v7 (x5 - (1 : Int32)) (sX h2 (0))) rfl rfl (Nat.le_of_ble_eq_true rfl) ⟨by rw [hD]; decide, by decide⟩ ⟨by rw [hmc]; exact Nat.le_of_ble_eq_true rfl, by rw [hms]; exact Nat.le_of_ble_eq_true rfl⟩ (fun x6 h3 => ?_)
        refine kj_norm (st' := [.inl x6]) (c' := 1) (z' := 3) rfl rfl rfl ?_
        refine kj_iload hC 0 dL_plates_350 rfl ?_
        refine kj_icmp_ne (tgt := 359) hC dL_plates_352 (by decide) (fun q4 => ?_) (fun q4 => ?_)
        · exact kj_sub [] rfl (t_L_plates_b355 g hC hN hT hmc hms hD   h3)
        · exact kj_sub [] rfl (t_L_plates_b359 g hC hN hT hmc hms hD   h3)
    · exact kj_sub [] rfl (t_L_plates_b359 g hC hN hT hmc hms hD   h2)
  · exact kj_sub [] rfl (t_L_plates_b359 g hC hN hT hmc hms hD   h1)
set_option maxHeartbeats 4000000 in
set_option maxRecDepth 100000 in
theorem t_L_plates_b244 (g : Nat) {X : KX} (hC : kC X RL cL_plates 10 (some .boolean)) (hN : (xme X).name = yL_plates.name) (hT : kT0 X) (hmc : xmc X = 9) (hms : xms X = 151) (hD : xD X = 9) (s0 : Int32) (h : KH) : kJ X (fun x : Int32 => some (.inl x)) 10 9 151 [] [.inl s0] 244 h (L_plates_b244 g  s0 h) := by
  unfold L_plates_b244
  refine kj_fin hmc hms ?_
  exact kj_zreturn hC dL_plates_244
set_option maxHeartbeats 4000000 in
set_option maxRecDepth 100000 in
theorem t_L_plates_b243 (g : Nat) {X : KX} (hC : kC X RL cL_plates 10 (some .boolean)) (hN : (xme X).name = yL_plates.name) (hT : kT0 X) (hmc : xmc X = 9) (hms : xms X = 151) (hD : xD X = 9)  (h : KH) : kJ X (fun x : Int32 => some (.inl x)) 10 9 151 [] [] 243 h (L_plates_b243 g   h) := by
  unfold L_plates_b243
  refine kj_iconst (v := 0) hC dL_plates_243 (by decide) ?_
  exact kj_sub [] rfl (t_L_plates_b244 g hC hN hT hmc hms hD  0 h)
set_option maxHeartbeats 4000000 in
set_option maxRecDepth 100000 in
theorem t_L_plates_b239 (g : Nat) {X : KX} (hC : kC X RL cL_plates 10 (some .boolean)) (hN : (xme X).name = yL_plates.name) (hT : kT0 X) (hmc : xmc X = 9) (hms : xms X = 151) (hD : xD X = 9)  (h : KH) : kJ X (fun x : Int32 => some (.inl x)) 10 9 151 [] [] 239 h (L_plates_b239 g   h) := by
  unfold L_plates_b239
  refine kj_iconst (v := 1) hC dL_plates_239 (by decide) ?_
  refine kj_goto (tgt := 244) hC dL_plates_240 (by decide) ?_
  exact kj_sub [] rfl (t_L_plates_b244 g hC hN hT hmc hms hD  1 h)
set_option maxHeartbeats 4000000 in
set_option maxRecDepth 100000 in
theorem t_L_plates_b183 (g : Nat) {X : KX} (hC : kC X RL cL_plates 10 (some .boolean)) (hN : (xme X).name = yL_plates.name) (hT : kT0 X) (hmc : xmc X = 9) (hms : xms X = 151) (hD : xD X = 9) (v0 : Nat) (v2 : Int32) (v6 : Nat) (v7 : Int32) (s0 : Int32) (s1 : Int32) (h : KH) : kJ X (fun x : Int32 => some (.inl x)) 10 9 151 [(0, .inr (.inr (some v0))), (2, .inl v2), (6, .inr (.inr (some v6))), (7, .inl v7)] [.inl s0, .inl s1] 183 h (L_plates_b183 g  v0 v2 v6 v7 s0 s1 h) := by
  unfold L_plates_b183
  refine kj_icmp_ne (tgt := 243) hC dL_plates_183 (by decide) (fun q1 => ?_) (fun q1 => ?_)
  · refine kj_iload hC 3 dL_plates_186 rfl ?_
    refine kj_if_eq (tgt := 239) hC dL_plates_188 (by decide) (fun q2 => ?_) (fun q2 => ?_)
    · exact kj_sub [] rfl (t_L_plates_b239 g hC hN hT hmc hms hD   h)
    · refine kj_aloadn hC 0 dL_plates_191 rfl rfl ?_
      refine kj_aload hC 2 dL_plates_192 rfl ?_
      refine kj_iconst (v := 2) hC dL_plates_194 (by decide) ?_
      refine kj_gAIc (c := 31) hC rfl dL_plates_195 (fun x1 => ?_)
      refine kj_iconst (v := 1) hC dL_plates_196 (by decide) ?_
      refine kj_isub hC dL_plates_197 ?_
      refine kj_aload hC 2 dL_plates_198 rfl ?_
      refine kj_iconst (v := 0) hC dL_plates_200 (by decide) ?_
      refine kj_gAIc (c := 31) hC rfl dL_plates_201 (fun x2 => ?_)
      refine kj_ghost (n := 0) ?_
      refine kj_invV (ci := 9) (q := (RX9, TX9, 17)) (as := [.inl (x1 - (1 : Int32)), .inl x2]) (rest := []) hC hT dL_plates_202 kw608 ky_X9_holder ky2_X9_holder rfl rfl (t_zX9_holder v0 (x1 - (1 : Int32)) x2 (sX h (0))) rfl rfl (Nat.le_of_ble_eq_true rfl) ⟨by rw [hD]; decide, by decide⟩ ⟨by rw [hmc]; exact Nat.le_of_ble_eq_true rfl, by rw [hms]; exact Nat.le_of_ble_eq_true rfl⟩ (fun x3 h1 => ?_)
      refine kj_norm (st' := [.inl x3]) (c' := 9) (z' := 151) rfl rfl rfl ?_
      refine kj_iloadn hC 1 dL_plates_205 rfl rfl ?_
      refine kj_bipush (v := 6) hC dL_plates_206 (by decide) ?_
      refine kj_irem hC dL_plates_208 ?_
      refine kj_icmp_ne (tgt := 243) hC dL_plates_209 (by decide) (fun q3 => ?_) (fun q3 => ?_)
      · refine kj_aload hC 2 dL_plates_212 rfl ?_
        refine kj_iconst (v := 0) hC dL_plates_214 (by decide) ?_
        refine kj_gAIc (c := 31) hC rfl dL_plates_215 (fun x4 => ?_)
        refine kj_if_eq (tgt := 239) hC dL_plates_216 (by decide) (fun q4 => ?_) (fun q4 => ?_)
        · exact kj_sub [] rfl (t_L_plates_b239 g hC hN hT hmc hms hD   h1)
        · refine kj_aloadn hC 0 dL_plates_219 rfl rfl ?_
          refine kj_aload hC 2 dL_plates_220 rfl ?_
          refine kj_iconst (v := 2) hC dL_plates_222 (by decide) ?_
          refine kj_gAIc (c := 31) hC rfl dL_plates_223 (fun x5 => ?_)
          refine kj_iconst (v := 1) hC dL_plates_224 (by decide) ?_
          refine kj_isub hC dL_plates_225 ?_
          refine kj_aload hC 2 dL_plates_226 rfl ?_
          refine kj_iconst (v := 0) hC dL_plates_228 (by decide) ?_
          refine kj_gAIc (c := 31) hC rfl dL_plates_229 (fun x6 => ?_)
          refine kj_iconst (v := 1) hC dL_plates_230 (by decide) ?_
          refine kj_isub hC dL_plates_231 ?_
          refine kj_ghost (n := 0) ?_
          refine kj_invV (ci := 9) (q := (RX9, TX9, 17)) (as := [.inl (x5 - (1 : Int32)), .inl (x6 - (1 : Int32))]) (rest := []) hC hT dL_plates_232 kw608 ky_X9_holder ky2_X9_holder rfl rfl (t_zX9_holder v0 (x5 - (1 : Int32)) (x6 - (1 : Int32)) (sX h1 (0))) rfl rfl (Nat.le_of_ble_eq_true rfl) ⟨by rw [hD]; decide, by decide⟩ ⟨by rw [hmc]; exact Nat.le_of_ble_eq_true rfl, by rw [hms]; exact Nat.le_of_ble_eq_true rfl⟩ (fun x7 h2 => ?_)
          refine kj_norm (st' := [.inl x7]) (c' := 9) (z' := 151) rfl rfl rfl ?_
          refine kj_iconst (v := (-1)) hC dL_plates_235 (by decide) ?_
          refine kj_icmp_ne (tgt := 243) hC dL_plates_236 (by decide) (fun q5 => ?_) (fun q5 => ?_)
          · exact kj_sub [] rfl (t_L_plates_b239 g hC hN hT hmc hms hD   h2)
          · exact kj_sub [] rfl (t_L_plates_b243 g hC hN hT hmc hms hD   h2)
      · exact kj_sub [] rfl (t_L_plates_b243 g hC hN hT hmc hms hD   h1)
  · exact kj_sub [] rfl (t_L_plates_b243 g hC hN hT hmc hms hD   h)
set_option maxHeartbeats 4000000 in
set_option maxRecDepth 100000 in
theorem t_L_plates_b155 (g : Nat) {X : KX} (hC : kC X RL cL_plates 10 (some .boolean)) (hN : (xme X).name = yL_plates.name) (hT : kT0 X) (hmc : xmc X = 9) (hms : xms X = 151) (hD : xD X = 9) (v0 : Nat) (v2 : Int32) (v3 : Int32) (v6 : Nat) (v7 : Int32) (h : KH) : kJ X (fun x : Int32 => some (.inl x)) 10 0 0 [(0, .inr (.inr (some v0))), (2, .inl v2), (3, .inl v3), (6, .inr (.inr (some v6))), (7, .inl v7)] [] 155 h (L_plates_b155 g  v0 v2 v3 v6 v7 h) := by
  unfold L_plates_b155
  refine kj_aloadn hC 0 dL_plates_155 rfl rfl ?_
  refine kj_iconst (v := 1) hC dL_plates_156 (by decide) ?_
  refine kj_iloadn hC 1 dL_plates_157 rfl rfl ?_
  refine kj_bipush (v := 6) hC dL_plates_158 (by decide) ?_
  refine kj_irem hC dL_plates_160 ?_
  refine kj_iloadn hC 2 dL_plates_161 rfl rfl ?_
  refine kj_iconst (v := 4) hC dL_plates_162 (by decide) ?_
  refine kj_irem hC dL_plates_163 ?_
  refine kj_invSX (as := [.inr (.inr (some v0)), .inl 1, .inl (v2 - v2 / (6 : Int32) * (6 : Int32)), .inl (v3 - v3 / (4 : Int32) * (4 : Int32))]) (rest := []) hC hT dL_plates_164 kw215 kyX_L_asks ky2_L_asks (t_L_asks v0 1 (v2 - v2 / (6 : Int32) * (6 : Int32)) (v3 - v3 / (4 : Int32) * (4 : Int32)) h) rfl rfl (Nat.le_of_ble_eq_true rfl) ⟨by rw [hD]; decide, by decide⟩ ⟨by rw [hmc]; exact Nat.le_of_ble_eq_true rfl, by rw [hms]; exact Nat.le_of_ble_eq_true rfl⟩ (fun x1 h1 => ?_)
  refine kj_norm (st' := [.inl x1]) (c' := 9) (z' := 151) rfl rfl rfl ?_
  refine kj_iload hC 4 dL_plates_167 rfl ?_
  refine kj_if_eq (tgt := 181) hC dL_plates_169 (by decide) (fun q1 => ?_) (fun q1 => ?_)
  · refine kj_bipush (v := (-108)) hC dL_plates_181 (by decide) ?_
    exact kj_sub [0, 1, 3, 4] rfl (t_L_plates_b183 g hC hN hT hmc hms hD  v0 v2 v6 v7 ((-108)) x1 h1)
  · refine kj_aload hC 3 dL_plates_172 rfl ?_
    refine kj_iconst (v := 2) hC dL_plates_174 (by decide) ?_
    refine kj_gAIc (c := 31) hC rfl dL_plates_175 (fun x2 => ?_)
    refine kj_iconst (v := 1) hC dL_plates_176 (by decide) ?_
    refine kj_isub hC dL_plates_177 ?_
    refine kj_goto (tgt := 183) hC dL_plates_178 (by decide) ?_
    exact kj_sub [0, 1, 3, 4] rfl (t_L_plates_b183 g hC hN hT hmc hms hD  v0 v2 v6 v7 (x2 - (1 : Int32)) x1 h1)
set_option maxHeartbeats 4000000 in
set_option maxRecDepth 100000 in
theorem t_L_plates_b111 (g : Nat) {X : KX} (hC : kC X RL cL_plates 10 (some .boolean)) (hN : (xme X).name = yL_plates.name) (hT : kT0 X) (hmc : xmc X = 9) (hms : xms X = 151) (hD : xD X = 9) (rc80 : Nat → Int32 → Int32 → Nat → Nat → Nat → Int32 → Int32 → KH → KO Int32) (hr80 : ∀ (v0 : Nat) (v2 : Int32) (v3 : Int32) (v4 : Nat) (v5 : Nat) (v6 : Nat) (v7 : Int32) (v8 : Int32) (h : KH), kJ X (fun x : Int32 => some (.inl x)) 10 0 0 [(0, .inr (.inr (some v0))), (2, .inl v2), (3, .inl v3), (4, .inr (.inr (some v4))), (5, .inr (.inr (some v5))), (6, .inr (.inr (some v6))), (7, .inl v7), (8, .inl v8)] [] 80 h (rc80 v0 v2 v3 v4 v5 v6 v7 v8 h)) (v0 : Nat) (v2 : Int32) (v3 : Int32) (v4 : Nat) (v5 : Nat) (v6 : Nat) (v8 : Int32) (s0 : Int32) (h : KH) : kJ X (fun x : Int32 => some (.inl x)) 10 0 0 [(0, .inr (.inr (some v0))), (2, .inl v2), (3, .inl v3), (4, .inr (.inr (some v4))), (5, .inr (.inr (some v5))), (6, .inr (.inr (some v6))), (8, .inl v8)] [.inl s0] 111 h (L_plates_b111 g rc80 v0 v2 v3 v4 v5 v6 v8 s0 h) := by
  unfold L_plates_b111
  refine kj_istore (L' := [(7, .inl s0), (0, .inr (.inr (some v0))), (2, .inl v2), (3, .inl v3), (4, .inr (.inr (some v4))), (5, .inr (.inr (some v5))), (6, .inr (.inr (some v6))), (8, .inl v8)]) hC dL_plates_111 (by decide) rfl ?_
  refine kj_iinc (v := v8 + 1) (L' := [(8, .inl (v8 + 1)), (7, .inl s0), (0, .inr (.inr (some v0))), (2, .inl v2), (3, .inl v3), (4, .inr (.inr (some v4))), (5, .inr (.inr (some v5))), (6, .inr (.inr (some v6)))]) hC 7 dL_plates_113 rfl rfl (by decide) rfl ?_
  refine kj_goto (tgt := 80) hC dL_plates_116 (by decide) ?_
  exact kj_sub [2, 3, 4, 5, 6, 7, 1, 0] rfl (hr80 v0 v2 v3 v4 v5 v6 s0 (v8 + 1) h)
set_option maxHeartbeats 4000000 in
set_option maxRecDepth 100000 in
theorem t_L_plates_b110 (g : Nat) {X : KX} (hC : kC X RL cL_plates 10 (some .boolean)) (hN : (xme X).name = yL_plates.name) (hT : kT0 X) (hmc : xmc X = 9) (hms : xms X = 151) (hD : xD X = 9) (rc80 : Nat → Int32 → Int32 → Nat → Nat → Nat → Int32 → Int32 → KH → KO Int32) (hr80 : ∀ (v0 : Nat) (v2 : Int32) (v3 : Int32) (v4 : Nat) (v5 : Nat) (v6 : Nat) (v7 : Int32) (v8 : Int32) (h : KH), kJ X (fun x : Int32 => some (.inl x)) 10 0 0 [(0, .inr (.inr (some v0))), (2, .inl v2), (3, .inl v3), (4, .inr (.inr (some v4))), (5, .inr (.inr (some v5))), (6, .inr (.inr (some v6))), (7, .inl v7), (8, .inl v8)] [] 80 h (rc80 v0 v2 v3 v4 v5 v6 v7 v8 h)) (v0 : Nat) (v2 : Int32) (v3 : Int32) (v4 : Nat) (v5 : Nat) (v6 : Nat) (v8 : Int32) (h : KH) : kJ X (fun x : Int32 => some (.inl x)) 10 0 0 [(0, .inr (.inr (some v0))), (2, .inl v2), (3, .inl v3), (4, .inr (.inr (some v4))), (5, .inr (.inr (some v5))), (6, .inr (.inr (some v6))), (8, .inl v8)] [] 110 h (L_plates_b110 g rc80 v0 v2 v3 v4 v5 v6 v8 h) := by
  unfold L_plates_b110
  refine kj_iconst (v := 0) hC dL_plates_110 (by decide) ?_
  exact kj_sub [0, 1, 2, 3, 4, 5, 6] rfl (t_L_plates_b111 g hC hN hT hmc hms hD rc80 hr80 v0 v2 v3 v4 v5 v6 v8 0 h)
set_option maxHeartbeats 4000000 in
set_option maxRecDepth 100000 in
theorem t_L_plates_b80 (g : Nat) {X : KX} (hC : kC X RL cL_plates 10 (some .boolean)) (hN : (xme X).name = yL_plates.name) (hT : kT0 X) (hmc : xmc X = 9) (hms : xms X = 151) (hD : xD X = 9) (rc80 : Nat → Int32 → Int32 → Nat → Nat → Nat → Int32 → Int32 → KH → KO Int32) (hr80 : ∀ (v0 : Nat) (v2 : Int32) (v3 : Int32) (v4 : Nat) (v5 : Nat) (v6 : Nat) (v7 : Int32) (v8 : Int32) (h : KH), kJ X (fun x : Int32 => some (.inl x)) 10 0 0 [(0, .inr (.inr (some v0))), (2, .inl v2), (3, .inl v3), (4, .inr (.inr (some v4))), (5, .inr (.inr (some v5))), (6, .inr (.inr (some v6))), (7, .inl v7), (8, .inl v8)] [] 80 h (rc80 v0 v2 v3 v4 v5 v6 v7 v8 h)) (v0 : Nat) (v2 : Int32) (v3 : Int32) (v4 : Nat) (v5 : Nat) (v6 : Nat) (v7 : Int32) (v8 : Int32) (h : KH) : kJ X (fun x : Int32 => some (.inl x)) 10 0 0 [(0, .inr (.inr (some v0))), (2, .inl v2), (3, .inl v3), (4, .inr (.inr (some v4))), (5, .inr (.inr (some v5))), (6, .inr (.inr (some v6))), (7, .inl v7), (8, .inl v8)] [] 80 h (L_plates_b80 g rc80 v0 v2 v3 v4 v5 v6 v7 v8 h) := by
  unfold L_plates_b80
  refine kj_iload hC 7 dL_plates_80 rfl ?_
  refine kj_aload hC 5 dL_plates_82 rfl ?_
  refine kj_iconst (v := 2) hC dL_plates_84 (by decide) ?_
  refine kj_gAIc (c := 31) hC rfl dL_plates_85 (fun x1 => ?_)
  refine kj_icmp_gt (tgt := 119) hC dL_plates_86 (by decide) (fun q1 => ?_) (fun q1 => ?_)
  · refine kj_iload hC 6 dL_plates_119 rfl ?_
    refine kj_if_eq (tgt := 155) hC dL_plates_121 (by decide) (fun q2 => ?_) (fun q2 => ?_)
    · exact kj_sub [0, 1, 2, 5, 6] rfl (t_L_plates_b155 g hC hN hT hmc hms hD  v0 v2 v3 v6 v7 h)
    · refine kj_aload hC 4 dL_plates_124 rfl ?_
      refine kj_aload hC 5 dL_plates_126 rfl ?_
      refine kj_iconst (v := 2) hC dL_plates_128 (by decide) ?_
      refine kj_gAIc (c := 31) hC rfl dL_plates_129 (fun x2 => ?_)
      refine kj_iloadn hC 2 dL_plates_130 rfl rfl ?_
      refine kj_iconst (v := 4) hC dL_plates_131 (by decide) ?_
      refine kj_irem hC dL_plates_132 ?_
      refine kj_pAIc (c := 31) hC rfl (by decide) dL_plates_133 (fun h1 => ?_)
      refine kj_aload hC 3 dL_plates_134 rfl ?_
      refine kj_iconst (v := 1) hC dL_plates_136 (by decide) ?_
      refine kj_aload hC 5 dL_plates_137 rfl ?_
      refine kj_iconst (v := 2) hC dL_plates_139 (by decide) ?_
      refine kj_gAIc (c := 31) hC rfl dL_plates_140 (fun x3 => ?_)
      refine kj_iadd hC dL_plates_141 ?_
      refine kj_aload hC 3 dL_plates_142 rfl ?_
      refine kj_iconst (v := 0) hC dL_plates_144 (by decide) ?_
      refine kj_gAIc (c := 31) hC rfl dL_plates_145 (fun x4 => ?_)
      refine kj_pAIc (c := 31) hC rfl (by decide) dL_plates_146 (fun h2 => ?_)
      refine kj_aload hC 5 dL_plates_147 rfl ?_
      refine kj_iconst (v := 2) hC dL_plates_149 (by decide) ?_
      refine kj_dup2 hC dL_plates_150 rfl rfl ?_
      refine kj_gAIc (c := 31) hC rfl dL_plates_151 (fun x5 => ?_)
      refine kj_iconst (v := 1) hC dL_plates_152 (by decide) ?_
      refine kj_iadd hC dL_plates_153 ?_
      refine kj_pAIc (c := 31) hC rfl (by decide) dL_plates_154 (fun h3 => ?_)
      exact kj_sub [0, 1, 2, 5, 6] rfl (t_L_plates_b155 g hC hN hT hmc hms hD  v0 v2 v3 v6 v7 h3)
  · refine kj_iload hC 6 dL_plates_89 rfl ?_
    refine kj_if_eq (tgt := 110) hC dL_plates_91 (by decide) (fun q3 => ?_) (fun q3 => ?_)
    · exact kj_sub [0, 1, 2, 3, 4, 5, 7] rfl (t_L_plates_b110 g hC hN hT hmc hms hD rc80 hr80 v0 v2 v3 v4 v5 v6 v8 h)
    · refine kj_aload hC 3 dL_plates_94 rfl ?_
      refine kj_iload hC 7 dL_plates_96 rfl ?_
      refine kj_gAIc (c := 31) hC rfl dL_plates_98 (fun x6 => ?_)
      refine kj_aload hC 3 dL_plates_99 rfl ?_
      refine kj_iconst (v := 0) hC dL_plates_101 (by decide) ?_
      refine kj_gAIc (c := 31) hC rfl dL_plates_102 (fun x7 => ?_)
      refine kj_icmp_eq (tgt := 110) hC dL_plates_103 (by decide) (fun q4 => ?_) (fun q4 => ?_)
      · exact kj_sub [0, 1, 2, 3, 4, 5, 7] rfl (t_L_plates_b110 g hC hN hT hmc hms hD rc80 hr80 v0 v2 v3 v4 v5 v6 v8 h)
      · refine kj_iconst (v := 1) hC dL_plates_106 (by decide) ?_
        refine kj_goto (tgt := 111) hC dL_plates_107 (by decide) ?_
        exact kj_sub [0, 1, 2, 3, 4, 5, 7] rfl (t_L_plates_b111 g hC hN hT hmc hms hD rc80 hr80 v0 v2 v3 v4 v5 v6 v8 1 h)
set_option maxHeartbeats 4000000 in
set_option maxRecDepth 100000 in
theorem t_L_plates_L80 (g : Nat) {X : KX} (hC : kC X RL cL_plates 10 (some .boolean)) (hN : (xme X).name = yL_plates.name) (hT : kT0 X) (hmc : xmc X = 9) (hms : xms X = 151) (hD : xD X = 9) : ∀ (n : Nat) (v0 : Nat) (v2 : Int32) (v3 : Int32) (v4 : Nat) (v5 : Nat) (v6 : Nat) (v7 : Int32) (v8 : Int32) (h : KH), kJ X (fun x : Int32 => some (.inl x)) 10 0 0 [(0, .inr (.inr (some v0))), (2, .inl v2), (3, .inl v3), (4, .inr (.inr (some v4))), (5, .inr (.inr (some v5))), (6, .inr (.inr (some v6))), (7, .inl v7), (8, .inl v8)] [] 80 h (L_plates_L80 g  n v0 v2 v3 v4 v5 v6 v7 v8 h) := by
  intro n
  induction n with
  | zero => intro v0 v2 v3 v4 v5 v6 v7 v8 h; exact kj_none
  | succ n ih => intro v0 v2 v3 v4 v5 v6 v7 v8 h; exact t_L_plates_b80 g hC hN hT hmc hms hD (L_plates_L80 g  n) ih v0 v2 v3 v4 v5 v6 v7 v8 h
set_option maxHeartbeats 4000000 in
set_option maxRecDepth 100000 in
theorem t_L_plates_b69 (g : Nat) {X : KX} (hC : kC X RL cL_plates 10 (some .boolean)) (hN : (xme X).name = yL_plates.name) (hT : kT0 X) (hmc : xmc X = 9) (hms : xms X = 151) (hD : xD X = 9) (rc33 : Nat → Int32 → Int32 → Nat → Nat → Nat → Int32 → Int32 → KH → KO Int32) (hr33 : ∀ (v0 : Nat) (v2 : Int32) (v3 : Int32) (v4 : Nat) (v5 : Nat) (v6 : Nat) (v7 : Int32) (v8 : Int32) (h : KH), kJ X (fun x : Int32 => some (.inl x)) 10 0 0 [(0, .inr (.inr (some v0))), (2, .inl v2), (3, .inl v3), (4, .inr (.inr (some v4))), (5, .inr (.inr (some v5))), (6, .inr (.inr (some v6))), (7, .inl v7), (8, .inl v8)] [] 33 h (rc33 v0 v2 v3 v4 v5 v6 v7 v8 h)) (v0 : Nat) (v2 : Int32) (v3 : Int32) (v4 : Nat) (v5 : Nat) (v6 : Nat) (v8 : Int32) (s0 : Int32) (h : KH) : kJ X (fun x : Int32 => some (.inl x)) 10 0 0 [(0, .inr (.inr (some v0))), (2, .inl v2), (3, .inl v3), (4, .inr (.inr (some v4))), (5, .inr (.inr (some v5))), (6, .inr (.inr (some v6))), (8, .inl v8)] [.inl s0] 69 h (L_plates_b69 g rc33 v0 v2 v3 v4 v5 v6 v8 s0 h) := by
  unfold L_plates_b69
  refine kj_istore (L' := [(7, .inl s0), (0, .inr (.inr (some v0))), (2, .inl v2), (3, .inl v3), (4, .inr (.inr (some v4))), (5, .inr (.inr (some v5))), (6, .inr (.inr (some v6))), (8, .inl v8)]) hC dL_plates_69 (by decide) rfl ?_
  refine kj_iinc (v := v8 + 1) (L' := [(8, .inl (v8 + 1)), (7, .inl s0), (0, .inr (.inr (some v0))), (2, .inl v2), (3, .inl v3), (4, .inr (.inr (some v4))), (5, .inr (.inr (some v5))), (6, .inr (.inr (some v6)))]) hC 7 dL_plates_71 rfl rfl (by decide) rfl ?_
  refine kj_goto (tgt := 33) hC dL_plates_74 (by decide) ?_
  exact kj_sub [2, 3, 4, 5, 6, 7, 1, 0] rfl (hr33 v0 v2 v3 v4 v5 v6 s0 (v8 + 1) h)
set_option maxHeartbeats 4000000 in
set_option maxRecDepth 100000 in
theorem t_L_plates_b68 (g : Nat) {X : KX} (hC : kC X RL cL_plates 10 (some .boolean)) (hN : (xme X).name = yL_plates.name) (hT : kT0 X) (hmc : xmc X = 9) (hms : xms X = 151) (hD : xD X = 9) (rc33 : Nat → Int32 → Int32 → Nat → Nat → Nat → Int32 → Int32 → KH → KO Int32) (hr33 : ∀ (v0 : Nat) (v2 : Int32) (v3 : Int32) (v4 : Nat) (v5 : Nat) (v6 : Nat) (v7 : Int32) (v8 : Int32) (h : KH), kJ X (fun x : Int32 => some (.inl x)) 10 0 0 [(0, .inr (.inr (some v0))), (2, .inl v2), (3, .inl v3), (4, .inr (.inr (some v4))), (5, .inr (.inr (some v5))), (6, .inr (.inr (some v6))), (7, .inl v7), (8, .inl v8)] [] 33 h (rc33 v0 v2 v3 v4 v5 v6 v7 v8 h)) (v0 : Nat) (v2 : Int32) (v3 : Int32) (v4 : Nat) (v5 : Nat) (v6 : Nat) (v8 : Int32) (h : KH) : kJ X (fun x : Int32 => some (.inl x)) 10 0 0 [(0, .inr (.inr (some v0))), (2, .inl v2), (3, .inl v3), (4, .inr (.inr (some v4))), (5, .inr (.inr (some v5))), (6, .inr (.inr (some v6))), (8, .inl v8)] [] 68 h (L_plates_b68 g rc33 v0 v2 v3 v4 v5 v6 v8 h) := by
  unfold L_plates_b68
  refine kj_iconst (v := 0) hC dL_plates_68 (by decide) ?_
  exact kj_sub [0, 1, 2, 3, 4, 5, 6] rfl (t_L_plates_b69 g hC hN hT hmc hms hD rc33 hr33 v0 v2 v3 v4 v5 v6 v8 0 h)
set_option maxHeartbeats 4000000 in
set_option maxRecDepth 100000 in
theorem t_L_plates_b33 (g : Nat) {X : KX} (hC : kC X RL cL_plates 10 (some .boolean)) (hN : (xme X).name = yL_plates.name) (hT : kT0 X) (hmc : xmc X = 9) (hms : xms X = 151) (hD : xD X = 9) (rc33 : Nat → Int32 → Int32 → Nat → Nat → Nat → Int32 → Int32 → KH → KO Int32) (hr33 : ∀ (v0 : Nat) (v2 : Int32) (v3 : Int32) (v4 : Nat) (v5 : Nat) (v6 : Nat) (v7 : Int32) (v8 : Int32) (h : KH), kJ X (fun x : Int32 => some (.inl x)) 10 0 0 [(0, .inr (.inr (some v0))), (2, .inl v2), (3, .inl v3), (4, .inr (.inr (some v4))), (5, .inr (.inr (some v5))), (6, .inr (.inr (some v6))), (7, .inl v7), (8, .inl v8)] [] 33 h (rc33 v0 v2 v3 v4 v5 v6 v7 v8 h)) (v0 : Nat) (v2 : Int32) (v3 : Int32) (v4 : Nat) (v5 : Nat) (v6 : Nat) (v7 : Int32) (v8 : Int32) (h : KH) : kJ X (fun x : Int32 => some (.inl x)) 10 0 0 [(0, .inr (.inr (some v0))), (2, .inl v2), (3, .inl v3), (4, .inr (.inr (some v4))), (5, .inr (.inr (some v5))), (6, .inr (.inr (some v6))), (7, .inl v7), (8, .inl v8)] [] 33 h (L_plates_b33 g rc33 v0 v2 v3 v4 v5 v6 v7 v8 h) := by
  unfold L_plates_b33
  refine kj_iload hC 7 dL_plates_33 rfl ?_
  refine kj_aload hC 3 dL_plates_35 rfl ?_
  refine kj_iconst (v := 0) hC dL_plates_37 (by decide) ?_
  refine kj_gAIc (c := 31) hC rfl dL_plates_38 (fun x1 => ?_)
  refine kj_invS (as := [.inl x1]) (rest := [.inl v8]) hC hT dL_plates_39 kw211 ky_L_size ky2_L_size (t_L_size x1 h) rfl rfl (Nat.le_of_ble_eq_true rfl) ⟨by rw [hD]; decide, by decide⟩ ⟨by rw [hmc]; exact Nat.le_of_ble_eq_true rfl, by rw [hms]; exact Nat.le_of_ble_eq_true rfl⟩ (fun x2 h1 => ?_)
  refine kj_norm (st' := [.inl x2, .inl v8]) (c' := 0) (z' := 0) rfl rfl rfl ?_
  refine kj_icmp_ge (tgt := 77) hC dL_plates_42 (by decide) (fun q1 => ?_) (fun q1 => ?_)
  · refine kj_iconst (v := 1) hC dL_plates_77 (by decide) ?_
    refine kj_istore (L' := [(8, .inl 1), (0, .inr (.inr (some v0))), (2, .inl v2), (3, .inl v3), (4, .inr (.inr (some v4))), (5, .inr (.inr (some v5))), (6, .inr (.inr (some v6))), (7, .inl v7)]) hC dL_plates_78 (by decide) rfl ?_
    exact kj_sub [1, 2, 3, 4, 5, 6, 7, 0] rfl (t_L_plates_L80 g hC hN hT hmc hms hD  kF v0 v2 v3 v4 v5 v6 v7 1 h1)
  · refine kj_iload hC 6 dL_plates_45 rfl ?_
    refine kj_if_eq (tgt := 68) hC dL_plates_47 (by decide) (fun q2 => ?_) (fun q2 => ?_)
    · exact kj_sub [0, 1, 2, 3, 4, 5, 7] rfl (t_L_plates_b68 g hC hN hT hmc hms hD rc33 hr33 v0 v2 v3 v4 v5 v6 v8 h1)
    · refine kj_aload hC 3 dL_plates_50 rfl ?_
      refine kj_iconst (v := 0) hC dL_plates_52 (by decide) ?_
      refine kj_gAIc (c := 31) hC rfl dL_plates_53 (fun x3 => ?_)
      refine kj_iload hC 7 dL_plates_54 rfl ?_
      refine kj_invS (as := [.inl x3, .inl v8]) (rest := []) hC hT dL_plates_56 kw587 ky_L_sign ky2_L_sign (t_L_sign x3 v8 h1) rfl rfl (Nat.le_of_ble_eq_true rfl) ⟨by rw [hD]; decide, by decide⟩ ⟨by rw [hmc]; exact Nat.le_of_ble_eq_true rfl, by rw [hms]; exact Nat.le_of_ble_eq_true rfl⟩ (fun x4 h2 => ?_)
      refine kj_norm (st' := [.inl x4]) (c' := 0) (z' := 0) rfl rfl rfl ?_
      refine kj_bipush (v := 14) hC dL_plates_59 (by decide) ?_
      refine kj_icmp_eq (tgt := 68) hC dL_plates_61 (by decide) (fun q3 => ?_) (fun q3 => ?_)
      · exact kj_sub [0, 1, 2, 3, 4, 5, 7] rfl (t_L_plates_b68 g hC hN hT hmc hms hD rc33 hr33 v0 v2 v3 v4 v5 v6 v8 h2)
      · refine kj_iconst (v := 1) hC dL_plates_64 (by decide) ?_
        refine kj_goto (tgt := 69) hC dL_plates_65 (by decide) ?_
        exact kj_sub [0, 1, 2, 3, 4, 5, 7] rfl (t_L_plates_b69 g hC hN hT hmc hms hD rc33 hr33 v0 v2 v3 v4 v5 v6 v8 1 h2)
set_option maxHeartbeats 4000000 in
set_option maxRecDepth 100000 in
theorem t_L_plates_L33 (g : Nat) {X : KX} (hC : kC X RL cL_plates 10 (some .boolean)) (hN : (xme X).name = yL_plates.name) (hT : kT0 X) (hmc : xmc X = 9) (hms : xms X = 151) (hD : xD X = 9) : ∀ (n : Nat) (v0 : Nat) (v2 : Int32) (v3 : Int32) (v4 : Nat) (v5 : Nat) (v6 : Nat) (v7 : Int32) (v8 : Int32) (h : KH), kJ X (fun x : Int32 => some (.inl x)) 10 0 0 [(0, .inr (.inr (some v0))), (2, .inl v2), (3, .inl v3), (4, .inr (.inr (some v4))), (5, .inr (.inr (some v5))), (6, .inr (.inr (some v6))), (7, .inl v7), (8, .inl v8)] [] 33 h (L_plates_L33 g  n v0 v2 v3 v4 v5 v6 v7 v8 h) := by
  intro n
  induction n with
  | zero => intro v0 v2 v3 v4 v5 v6 v7 v8 h; exact kj_none
  | succ n ih => intro v0 v2 v3 v4 v5 v6 v7 v8 h; exact t_L_plates_b33 g hC hN hT hmc hms hD (L_plates_L33 g  n) ih v0 v2 v3 v4 v5 v6 v7 v8 h
set_option maxHeartbeats 4000000 in
set_option maxRecDepth 100000 in
theorem t_L_plates_b28 (g : Nat) {X : KX} (hC : kC X RL cL_plates 10 (some .boolean)) (hN : (xme X).name = yL_plates.name) (hT : kT0 X) (hmc : xmc X = 9) (hms : xms X = 151) (hD : xD X = 9) (v0 : Nat) (v2 : Int32) (v3 : Int32) (v4 : Nat) (v5 : Nat) (v6 : Nat) (s0 : Int32) (h : KH) : kJ X (fun x : Int32 => some (.inl x)) 10 0 0 [(0, .inr (.inr (some v0))), (2, .inl v2), (3, .inl v3), (4, .inr (.inr (some v4))), (5, .inr (.inr (some v5))), (6, .inr (.inr (some v6)))] [.inl s0] 28 h (L_plates_b28 g  v0 v2 v3 v4 v5 v6 s0 h) := by
  unfold L_plates_b28
  refine kj_istore (L' := [(7, .inl s0), (0, .inr (.inr (some v0))), (2, .inl v2), (3, .inl v3), (4, .inr (.inr (some v4))), (5, .inr (.inr (some v5))), (6, .inr (.inr (some v6)))]) hC dL_plates_28 (by decide) rfl ?_
  refine kj_iconst (v := 0) hC dL_plates_30 (by decide) ?_
  refine kj_istore (L' := [(8, .inl 0), (7, .inl s0), (0, .inr (.inr (some v0))), (2, .inl v2), (3, .inl v3), (4, .inr (.inr (some v4))), (5, .inr (.inr (some v5))), (6, .inr (.inr (some v6)))]) hC dL_plates_31 (by decide) rfl ?_
  exact kj_sub [2, 3, 4, 5, 6, 7, 1, 0] rfl (t_L_plates_L33 g hC hN hT hmc hms hD  kF v0 v2 v3 v4 v5 v6 s0 0 h)
set_option maxHeartbeats 4000000 in
set_option maxRecDepth 100000 in
theorem t_L_plates_b27 (g : Nat) {X : KX} (hC : kC X RL cL_plates 10 (some .boolean)) (hN : (xme X).name = yL_plates.name) (hT : kT0 X) (hmc : xmc X = 9) (hms : xms X = 151) (hD : xD X = 9) (v0 : Nat) (v2 : Int32) (v3 : Int32) (v4 : Nat) (v5 : Nat) (v6 : Nat) (h : KH) : kJ X (fun x : Int32 => some (.inl x)) 10 0 0 [(0, .inr (.inr (some v0))), (2, .inl v2), (3, .inl v3), (4, .inr (.inr (some v4))), (5, .inr (.inr (some v5))), (6, .inr (.inr (some v6)))] [] 27 h (L_plates_b27 g  v0 v2 v3 v4 v5 v6 h) := by
  unfold L_plates_b27
  refine kj_iconst (v := 0) hC dL_plates_27 (by decide) ?_
  exact kj_sub [0, 1, 2, 3, 4, 5] rfl (t_L_plates_b28 g hC hN hT hmc hms hD  v0 v2 v3 v4 v5 v6 0 h)
set_option maxHeartbeats 4000000 in
set_option maxRecDepth 100000 in
theorem t_L_plates (g : Nat) (p0 : Nat) (p1 : Int32) (p2 : Int32) (p3 : Int32) (p4 : Nat) (p5 : Nat) (p6 : Nat) (h : KH) : kM yL_plates cL_plates 10 (some .boolean) 9 9 151 (fun x : Int32 => some (.inl x)) [.inr (.inr (some p0)), .inl p1, .inl p2, .inl p3, .inr (.inr (some p4)), .inr (.inr (some p5)), .inr (.inr (some p6))] h (f_L_plates g p0 p1 p2 p3 p4 p5 p6 h) := by
  refine kM_of RL (by decide) rfl (Nat.le_of_ble_eq_true rfl) [(0, .inr (.inr (some p0))), (1, .inl p1), (2, .inl p2), (3, .inl p3), (4, .inr (.inr (some p4))), (5, .inr (.inr (some p5))), (6, .inr (.inr (some p6)))] rfl (fun X hC hN hT hmc hms hD => ?_)
  unfold f_L_plates
  refine kj_iloadn hC 1 dL_plates_0 rfl rfl ?_
  refine kj_if_ne (tgt := 245) hC dL_plates_1 (by decide) (fun q1 => ?_) (fun q1 => ?_)
  · refine kj_aload hC 4 dL_plates_4 rfl ?_
    refine kj_iconst (v := 0) hC dL_plates_6 (by decide) ?_
    refine kj_gAIc (c := 31) hC rfl dL_plates_7 (fun x8 => ?_)
    refine kj_invS (as := [.inl x8]) (rest := []) hC hT dL_plates_8 kw211 ky_L_size ky2_L_size (t_L_size x8 h) rfl rfl (Nat.le_of_ble_eq_true rfl) ⟨by rw [hD]; decide, by decide⟩ ⟨by rw [hmc]; exact Nat.le_of_ble_eq_true rfl, by rw [hms]; exact Nat.le_of_ble_eq_true rfl⟩ (fun x9 h3 => ?_)
    refine kj_norm (st' := [.inl x9]) (c' := 0) (z' := 0) rfl rfl rfl ?_
    refine kj_if_le (tgt := 27) hC dL_plates_11 (by decide) (fun q4 => ?_) (fun q4 => ?_)
    · exact kj_sub [0, 2, 3, 4, 5, 6] rfl (t_L_plates_b27 g hC hN hT hmc hms hD  p0 p2 p3 p4 p5 p6 h3)
    · refine kj_aload hC 6 dL_plates_14 rfl ?_
      refine kj_iconst (v := 2) hC dL_plates_16 (by decide) ?_
      refine kj_gAIc (c := 31) hC rfl dL_plates_17 (fun x10 => ?_)
      refine kj_bipush (v := 10) hC dL_plates_18 (by decide) ?_
      refine kj_icmp_ge (tgt := 27) hC dL_plates_20 (by decide) (fun q5 => ?_) (fun q5 => ?_)
      · exact kj_sub [0, 2, 3, 4, 5, 6] rfl (t_L_plates_b27 g hC hN hT hmc hms hD  p0 p2 p3 p4 p5 p6 h3)
      · refine kj_iconst (v := 1) hC dL_plates_23 (by decide) ?_
        refine kj_goto (tgt := 28) hC dL_plates_24 (by decide) ?_
        exact kj_sub [0, 2, 3, 4, 5, 6] rfl (t_L_plates_b28 g hC hN hT hmc hms hD  p0 p2 p3 p4 p5 p6 1 h3)
  · refine kj_aload hC 6 dL_plates_245 rfl ?_
    refine kj_iconst (v := 2) hC dL_plates_247 (by decide) ?_
    refine kj_gAIc (c := 31) hC rfl dL_plates_248 (fun x1 => ?_)
    refine kj_if_ne (tgt := 254) hC dL_plates_249 (by decide) (fun q2 => ?_) (fun q2 => ?_)
    · refine kj_iconst (v := 1) hC dL_plates_252 (by decide) ?_
      refine kj_widen (k := 9) (n := 151) (Nat.le_of_ble_eq_true rfl) (Nat.le_of_ble_eq_true rfl) ?_
      refine kj_fin hmc hms ?_
      exact kj_zreturn hC dL_plates_253
    · refine kj_iloadn hC 2 dL_plates_254 rfl rfl ?_
      refine kj_aload hC 6 dL_plates_255 rfl ?_
      refine kj_iconst (v := 2) hC dL_plates_257 (by decide) ?_
      refine kj_gAIc (c := 31) hC rfl dL_plates_258 (fun x2 => ?_)
      refine kj_irem hC dL_plates_259 ?_
      refine kj_istore (L' := [(7, .inl (p2 - p2 / x2 * x2)), (0, .inr (.inr (some p0))), (1, .inl p1), (2, .inl p2), (3, .inl p3), (4, .inr (.inr (some p4))), (5, .inr (.inr (some p5))), (6, .inr (.inr (some p6)))]) hC dL_plates_260 (by decide) rfl ?_
      refine kj_aloadn hC 1 dL_plates_262 rfl rfl ?_
      refine kj_iload hC 0 dL_plates_263 rfl ?_
      refine kj_aload hC 7 dL_plates_265 rfl ?_
      refine kj_iconst (v := 0) hC dL_plates_267 (by decide) ?_
      refine kj_gAIc (c := 31) hC rfl dL_plates_268 (fun x3 => ?_)
      refine kj_ghost (n := 0) ?_
      refine kj_invV (ci := 9) (q := (RX9, TX9, 17)) (as := [.inl (p2 - p2 / x2 * x2), .inl x3]) (rest := []) hC hT dL_plates_269 kw608 ky_X9_holder ky2_X9_holder rfl rfl (t_zX9_holder p0 (p2 - p2 / x2 * x2) x3 (sX h (0))) rfl rfl (Nat.le_of_ble_eq_true rfl) ⟨by rw [hD]; decide, by decide⟩ ⟨by rw [hmc]; exact Nat.le_of_ble_eq_true rfl, by rw [hms]; exact Nat.le_of_ble_eq_true rfl⟩ (fun x4 h1 => ?_)
      refine kj_norm (st' := [.inl x4]) (c' := 0) (z' := 0) rfl rfl rfl ?_
      refine kj_istore (L' := [(8, .inl x4), (7, .inl (p2 - p2 / x2 * x2)), (0, .inr (.inr (some p0))), (1, .inl p1), (2, .inl p2), (3, .inl p3), (4, .inr (.inr (some p4))), (5, .inr (.inr (some p5))), (6, .inr (.inr (some p6)))]) hC dL_plates_272 (by decide) rfl ?_
      refine kj_aload hC 8 dL_plates_274 rfl ?_
      refine kj_iconst (v := 0) hC dL_plates_276 (by decide) ?_
      refine kj_gAIc (c := 31) hC rfl dL_plates_277 (fun x5 => ?_)
      refine kj_if_ne (tgt := 285) hC dL_plates_278 (by decide) (fun q3 => ?_) (fun q3 => ?_)
      · refine kj_iconst (v := (-1)) hC dL_plates_281 (by decide) ?_
        refine kj_goto (tgt := 297) hC dL_plates_282 (by decide) ?_
        exact kj_sub [2, 5, 8, 1, 0] rfl (t_L_plates_b297 g hC hN hT hmc hms hD  p0 p3 p6 (p2 - p2 / x2 * x2) x4 ((-1)) h1)
      · refine kj_aloadn hC 2 dL_plates_285 rfl rfl ?_
        refine kj_iload hC 1 dL_plates_286 rfl ?_
        refine kj_aload hC 8 dL_plates_288 rfl ?_
        refine kj_iconst (v := 0) hC dL_plates_290 (by decide) ?_
        refine kj_gAIc (c := 31) hC rfl dL_plates_291 (fun x6 => ?_)
        refine kj_iconst (v := 1) hC dL_plates_292 (by decide) ?_
        refine kj_isub hC dL_plates_293 ?_
        refine kj_ghost (n := 0) ?_
        refine kj_invV (ci := 9) (q := (RX9, TX9, 17)) (as := [.inl (p2 - p2 / x2 * x2), .inl (x6 - (1 : Int32))]) (rest := []) hC hT dL_plates_294 kw608 ky_X9_holder ky2_X9_holder rfl rfl (t_zX9_holder p0 (p2 - p2 / x2 * x2) (x6 - (1 : Int32)) (sX h1 (0))) rfl rfl (Nat.le_of_ble_eq_true rfl) ⟨by rw [hD]; decide, by decide⟩ ⟨by rw [hmc]; exact Nat.le_of_ble_eq_true rfl, by rw [hms]; exact Nat.le_of_ble_eq_true rfl⟩ (fun x7 h2 => ?_)
        refine kj_norm (st' := [.inl x7]) (c' := 0) (z' := 0) rfl rfl rfl ?_
        exact kj_sub [2, 5, 8, 1, 0] rfl (t_L_plates_b297 g hC hN hT hmc hms hD  p0 p3 p6 (p2 - p2 / x2 * x2) x4 x7 h2)
set_option maxHeartbeats 4000000 in
set_option maxRecDepth 100000 in
theorem t_L_readings_b338 {X : KX} (hC : kC X RL cL_readings 12 (some .boolean)) (hN : (xme X).name = yL_readings.name) (hT : kT0 X) (hmc : xmc X = 9) (hms : xms X = 151) (hD : xD X = 9) (s0 : Int32) (h : KH) : kJ X (fun x : Int32 => some (.inl x)) 12 9 151 [] [.inl s0] 338 h (L_readings_b338  s0 h) := by
  unfold L_readings_b338
  refine kj_fin hmc hms ?_
  exact kj_zreturn hC dL_readings_338
set_option maxHeartbeats 4000000 in
set_option maxRecDepth 100000 in
theorem t_L_readings_b281 {X : KX} (hC : kC X RL cL_readings 12 (some .boolean)) (hN : (xme X).name = yL_readings.name) (hT : kT0 X) (hmc : xmc X = 9) (hms : xms X = 151) (hD : xD X = 9) (s0 : Int32) (h : KH) : kJ X (fun x : Int32 => some (.inl x)) 12 0 0 [] [.inl s0] 281 h (L_readings_b281  s0 h) := by
  unfold L_readings_b281
  refine kj_widen (k := 9) (n := 151) (Nat.le_of_ble_eq_true rfl) (Nat.le_of_ble_eq_true rfl) ?_
  refine kj_fin hmc hms ?_
  exact kj_zreturn hC dL_readings_281
set_option maxHeartbeats 4000000 in
set_option maxRecDepth 100000 in
theorem t_L_readings_b280 {X : KX} (hC : kC X RL cL_readings 12 (some .boolean)) (hN : (xme X).name = yL_readings.name) (hT : kT0 X) (hmc : xmc X = 9) (hms : xms X = 151) (hD : xD X = 9)  (h : KH) : kJ X (fun x : Int32 => some (.inl x)) 12 0 0 [] [] 280 h (L_readings_b280   h) := by
  unfold L_readings_b280
  refine kj_iconst (v := 0) hC dL_readings_280 (by decide) ?_
  exact kj_sub [] rfl (t_L_readings_b281 hC hN hT hmc hms hD  0 h)
set_option maxHeartbeats 4000000 in
set_option maxRecDepth 100000 in
theorem t_L_readings_b201 {X : KX} (hC : kC X RL cL_readings 12 (some .boolean)) (hN : (xme X).name = yL_readings.name) (hT : kT0 X) (hmc : xmc X = 9) (hms : xms X = 151) (hD : xD X = 9) (v0 : Nat) (v1 : Int32) (v3 : Int32) (v6 : Nat) (v7 : Nat) (v8 : Int32) (s0 : Int32) (h : KH) : kJ X (fun x : Int32 => some (.inl x)) 12 0 0 [(0, .inr (.inr (some v0))), (1, .inl v1), (3, .inl v3), (6, .inr (.inr (some v6))), (7, .inr (.inr (some v7))), (8, .inl v8)] [.inl s0] 201 h (L_readings_b201  v0 v1 v3 v6 v7 v8 s0 h) := by
  unfold L_readings_b201
  refine kj_istore (L' := [(9, .inl s0), (0, .inr (.inr (some v0))), (1, .inl v1), (3, .inl v3), (6, .inr (.inr (some v6))), (7, .inr (.inr (some v7))), (8, .inl v8)]) hC dL_readings_201 (by decide) rfl ?_
  refine kj_iloadn hC 2 dL_readings_203 rfl rfl ?_
  refine kj_iconst (v := 3) hC dL_readings_204 (by decide) ?_
  refine kj_icmp_ne (tgt := 282) hC dL_readings_205 (by decide) (fun q1 => ?_) (fun q1 => ?_)
  · refine kj_iloadn hC 3 dL_readings_208 rfl rfl ?_
    refine kj_aload hC 5 dL_readings_209 rfl ?_
    refine kj_iconst (v := 2) hC dL_readings_211 (by decide) ?_
    refine kj_gAIc (c := 31) hC rfl dL_readings_212 (fun x4 => ?_)
    refine kj_iconst (v := 1) hC dL_readings_213 (by decide) ?_
    refine kj_iadd hC dL_readings_214 ?_
    refine kj_irem hC dL_readings_215 ?_
    refine kj_iconst (v := 1) hC dL_readings_216 (by decide) ?_
    refine kj_isub hC dL_readings_217 ?_
    refine kj_istore (L' := [(10, .inl ((v3 - v3 / (x4 + (1 : Int32)) * (x4 + (1 : Int32))) - (1 : Int32))), (9, .inl s0), (0, .inr (.inr (some v0))), (1, .inl v1), (3, .inl v3), (6, .inr (.inr (some v6))), (7, .inr (.inr (some v7))), (8, .inl v8)]) hC dL_readings_218 (by decide) rfl ?_
    refine kj_aloadn hC 2 dL_readings_220 rfl rfl ?_
    refine kj_iload hC 7 dL_readings_221 rfl ?_
    refine kj_ghost (n := 0) ?_
    refine kj_invV (ci := 9) (q := (RX9, TX9, 17)) (as := [.inl v8]) (rest := []) hC hT dL_readings_223 kw629 ky_X9_plateOf ky2_X9_plateOf rfl rfl (t_zX9_plateOf v0 v8 (sX h (0))) rfl rfl (Nat.le_of_ble_eq_true rfl) ⟨by rw [hD]; decide, by decide⟩ ⟨by rw [hmc]; exact Nat.le_of_ble_eq_true rfl, by rw [hms]; exact Nat.le_of_ble_eq_true rfl⟩ (fun x5 h4 => ?_)
    refine kj_norm (st' := [.inl x5]) (c' := 0) (z' := 0) rfl rfl rfl ?_
    refine kj_istore (L' := [(11, .inl x5), (10, .inl ((v3 - v3 / (x4 + (1 : Int32)) * (x4 + (1 : Int32))) - (1 : Int32))), (9, .inl s0), (0, .inr (.inr (some v0))), (1, .inl v1), (3, .inl v3), (6, .inr (.inr (some v6))), (7, .inr (.inr (some v7))), (8, .inl v8)]) hC dL_readings_226 (by decide) rfl ?_
    refine kj_aload hC 6 dL_readings_228 rfl ?_
    refine kj_iload hC 8 dL_readings_230 rfl ?_
    refine kj_aload hC 6 dL_readings_232 rfl ?_
    refine kj_iload hC 8 dL_readings_234 rfl ?_
    refine kj_gAIc (c := 31) hC rfl dL_readings_236 (fun x6 => ?_)
    refine kj_ldc (v := 524287) hC dL_readings_237 kw633 ?_
    refine kj_iand hC dL_readings_239 ?_
    refine kj_ldc (v := 524288) hC dL_readings_240 kw634 ?_
    refine kj_ior hC dL_readings_242 ?_
    refine kj_iload hC 1 dL_readings_243 rfl ?_
    refine kj_iconst (v := 1) hC dL_readings_245 (by decide) ?_
    refine kj_iadd hC dL_readings_246 ?_
    refine kj_bipush (v := 20) hC dL_readings_247 (by decide) ?_
    refine kj_ishl hC dL_readings_249 ?_
    refine kj_ior hC dL_readings_250 ?_
    refine kj_pAIc (c := 31) hC rfl (by decide) dL_readings_251 (fun h5 => ?_)
    refine kj_aloadn hC 3 dL_readings_252 rfl rfl ?_
    refine kj_iload hC 8 dL_readings_253 rfl ?_
    refine kj_iload hC 1 dL_readings_255 rfl ?_
    refine kj_ghost (n := 0) ?_
    refine kj_invV (ci := 9) (q := (RX9, TX9, 17)) (as := [.inl v8, .inl ((v3 - v3 / (x4 + (1 : Int32)) * (x4 + (1 : Int32))) - (1 : Int32))]) (rest := []) hC hT dL_readings_257 kw635 ky_X9_correct ky2_X9_correct rfl rfl (t_zX9_correct v0 v8 ((v3 - v3 / (x4 + (1 : Int32)) * (x4 + (1 : Int32))) - (1 : Int32)) (sX h5 (0))) rfl rfl (Nat.le_of_ble_eq_true rfl) ⟨by rw [hD]; decide, by decide⟩ ⟨by rw [hmc]; exact Nat.le_of_ble_eq_true rfl, by rw [hms]; exact Nat.le_of_ble_eq_true rfl⟩ (fun x7 h6 => ?_)
    refine kj_norm (st' := [.inl x7]) (c' := 0) (z' := 0) rfl rfl rfl ?_
    refine kj_iload hC 0 dL_readings_260 rfl ?_
    refine kj_icmp_ne (tgt := 280) hC dL_readings_262 (by decide) (fun q5 => ?_) (fun q5 => ?_)
    · refine kj_aloadn hC 3 dL_readings_265 rfl rfl ?_
      refine kj_iload hC 8 dL_readings_266 rfl ?_
      refine kj_ghost (n := 0) ?_
      refine kj_invV (ci := 9) (q := (RX9, TX9, 17)) (as := [.inl v8]) (rest := []) hC hT dL_readings_268 kw629 ky_X9_plateOf ky2_X9_plateOf rfl rfl (t_zX9_plateOf v0 v8 (sX h6 (0))) rfl rfl (Nat.le_of_ble_eq_true rfl) ⟨by rw [hD]; decide, by decide⟩ ⟨by rw [hmc]; exact Nat.le_of_ble_eq_true rfl, by rw [hms]; exact Nat.le_of_ble_eq_true rfl⟩ (fun x8 h7 => ?_)
      refine kj_norm (st' := [.inl x8]) (c' := 0) (z' := 0) rfl rfl rfl ?_
      refine kj_iload hC 1 dL_readings_271 rfl ?_
      refine kj_icmp_ne (tgt := 280) hC dL_readings_273 (by decide) (fun q6 => ?_) (fun q6 => ?_)
      · refine kj_iconst (v := 1) hC dL_readings_276 (by decide) ?_
        refine kj_goto (tgt := 281) hC dL_readings_277 (by decide) ?_
        exact kj_sub [] rfl (t_L_readings_b281 hC hN hT hmc hms hD  1 h7)
      · exact kj_sub [] rfl (t_L_readings_b280 hC hN hT hmc hms hD   h7)
    · exact kj_sub [] rfl (t_L_readings_b280 hC hN hT hmc hms hD   h6)
  · refine kj_aload hC 4 dL_readings_282 rfl ?_
    refine kj_iload hC 6 dL_readings_284 rfl ?_
    refine kj_dup2 hC dL_readings_286 rfl rfl ?_
    refine kj_gAIc (c := 31) hC rfl dL_readings_287 (fun x1 => ?_)
    refine kj_ldc (v := 524287) hC dL_readings_288 kw633 ?_
    refine kj_iand hC dL_readings_290 ?_
    refine kj_pAIc (c := 31) hC rfl (by decide) dL_readings_291 (fun h1 => ?_)
    refine kj_aloadn hC 1 dL_readings_292 rfl rfl ?_
    refine kj_iconst (v := 3) hC dL_readings_293 (by decide) ?_
    refine kj_iload hC 6 dL_readings_294 rfl ?_
    refine kj_iconst (v := 0) hC dL_readings_296 (by decide) ?_
    refine kj_invSX (as := [.inr (.inr (some v0)), .inl 3, .inl v8, .inl 0]) (rest := []) hC hT dL_readings_297 kw215 kyX_L_asks ky2_L_asks (t_L_asks v0 3 v8 0 h1) rfl rfl (Nat.le_of_ble_eq_true rfl) ⟨by rw [hD]; decide, by decide⟩ ⟨by rw [hmc]; exact Nat.le_of_ble_eq_true rfl, by rw [hms]; exact Nat.le_of_ble_eq_true rfl⟩ (fun x2 h2 => ?_)
    refine kj_norm (st' := [.inl x2]) (c' := 9) (z' := 151) rfl rfl rfl ?_
    refine kj_istore (L' := [(10, .inl x2), (9, .inl s0), (0, .inr (.inr (some v0))), (1, .inl v1), (3, .inl v3), (6, .inr (.inr (some v6))), (7, .inr (.inr (some v7))), (8, .inl v8)]) hC dL_readings_300 (by decide) rfl ?_
    refine kj_iload hC 1 dL_readings_302 rfl ?_
    refine kj_if_eq (tgt := 326) hC dL_readings_304 (by decide) (fun q2 => ?_) (fun q2 => ?_)
    · refine kj_iload hC 0 dL_readings_326 rfl ?_
      refine kj_bipush (v := (-108)) hC dL_readings_328 (by decide) ?_
      refine kj_icmp_ne (tgt := 337) hC dL_readings_330 (by decide) (fun q3 => ?_) (fun q3 => ?_)
      · refine kj_iconst (v := 1) hC dL_readings_333 (by decide) ?_
        refine kj_goto (tgt := 338) hC dL_readings_334 (by decide) ?_
        exact kj_sub [] rfl (t_L_readings_b338 hC hN hT hmc hms hD  1 h2)
      · refine kj_iconst (v := 0) hC dL_readings_337 (by decide) ?_
        exact kj_sub [] rfl (t_L_readings_b338 hC hN hT hmc hms hD  0 h2)
    · refine kj_iload hC 0 dL_readings_307 rfl ?_
      refine kj_aloadn hC 2 dL_readings_309 rfl rfl ?_
      refine kj_iload hC 7 dL_readings_310 rfl ?_
      refine kj_ghost (n := 0) ?_
      refine kj_invV (ci := 9) (q := (RX9, TX9, 17)) (as := [.inl v8]) (rest := [.inl x2]) hC hT dL_readings_312 kw629 ky_X9_plateOf ky2_X9_plateOf rfl rfl (t_zX9_plateOf v0 v8 (sX h2 (0))) rfl rfl (Nat.le_of_ble_eq_true rfl) ⟨by rw [hD]; decide, by decide⟩ ⟨by rw [hmc]; exact Nat.le_of_ble_eq_true rfl, by rw [hms]; exact Nat.le_of_ble_eq_true rfl⟩ (fun x3 h3 => ?_)
      refine kj_norm (st' := [.inl x3, .inl x2]) (c' := 9) (z' := 151) rfl rfl rfl ?_
      refine kj_icmp_ne (tgt := 322) hC dL_readings_315 (by decide) (fun q4 => ?_) (fun q4 => ?_)
      · refine kj_iconst (v := 1) hC dL_readings_318 (by decide) ?_
        refine kj_goto (tgt := 338) hC dL_readings_319 (by decide) ?_
        exact kj_sub [] rfl (t_L_readings_b338 hC hN hT hmc hms hD  1 h3)
      · refine kj_iconst (v := 0) hC dL_readings_322 (by decide) ?_
        refine kj_goto (tgt := 338) hC dL_readings_323 (by decide) ?_
        exact kj_sub [] rfl (t_L_readings_b338 hC hN hT hmc hms hD  0 h3)
set_option maxHeartbeats 4000000 in
set_option maxRecDepth 100000 in
theorem t_L_readings_b163 {X : KX} (hC : kC X RL cL_readings 12 (some .boolean)) (hN : (xme X).name = yL_readings.name) (hT : kT0 X) (hmc : xmc X = 9) (hms : xms X = 151) (hD : xD X = 9) (s0 : Int32) (h : KH) : kJ X (fun x : Int32 => some (.inl x)) 12 9 151 [] [.inl s0] 163 h (L_readings_b163  s0 h) := by
  unfold L_readings_b163
  refine kj_fin hmc hms ?_
  exact kj_zreturn hC dL_readings_163
set_option maxHeartbeats 4000000 in
set_option maxRecDepth 100000 in
theorem t_L_readings_b155 {X : KX} (hC : kC X RL cL_readings 12 (some .boolean)) (hN : (xme X).name = yL_readings.name) (hT : kT0 X) (hmc : xmc X = 9) (hms : xms X = 151) (hD : xD X = 9) (s0 : Int32) (s1 : Int32) (h : KH) : kJ X (fun x : Int32 => some (.inl x)) 12 9 151 [] [.inl s0, .inl s1] 155 h (L_readings_b155  s0 s1 h) := by
  unfold L_readings_b155
  refine kj_icmp_ne (tgt := 162) hC dL_readings_155 (by decide) (fun q1 => ?_) (fun q1 => ?_)
  · refine kj_iconst (v := 1) hC dL_readings_158 (by decide) ?_
    refine kj_goto (tgt := 163) hC dL_readings_159 (by decide) ?_
    exact kj_sub [] rfl (t_L_readings_b163 hC hN hT hmc hms hD  1 h)
  · refine kj_iconst (v := 0) hC dL_readings_162 (by decide) ?_
    exact kj_sub [] rfl (t_L_readings_b163 hC hN hT hmc hms hD  0 h)
set_option maxHeartbeats 4000000 in
set_option maxRecDepth 100000 in
theorem t_L_readings_b128 {X : KX} (hC : kC X RL cL_readings 12 (some .boolean)) (hN : (xme X).name = yL_readings.name) (hT : kT0 X) (hmc : xmc X = 9) (hms : xms X = 151) (hD : xD X = 9) (v0 : Nat) (v2 : Int32) (v7 : Nat) (v8 : Int32) (v9 : Int32) (h : KH) : kJ X (fun x : Int32 => some (.inl x)) 12 0 0 [(0, .inr (.inr (some v0))), (2, .inl v2), (7, .inr (.inr (some v7))), (8, .inl v8), (9, .inl v9)] [] 128 h (L_readings_b128  v0 v2 v7 v8 v9 h) := by
  unfold L_readings_b128
  refine kj_aloadn hC 0 dL_readings_128 rfl rfl ?_
  refine kj_iconst (v := 2) hC dL_readings_129 (by decide) ?_
  refine kj_iloadn hC 1 dL_readings_130 rfl rfl ?_
  refine kj_bipush (v := 8) hC dL_readings_131 (by decide) ?_
  refine kj_irem hC dL_readings_133 ?_
  refine kj_iload hC 3 dL_readings_134 rfl ?_
  refine kj_invSX (as := [.inr (.inr (some v0)), .inl 2, .inl (v2 - v2 / (8 : Int32) * (8 : Int32)), .inl v8]) (rest := []) hC hT dL_readings_136 kw215 kyX_L_asks ky2_L_asks (t_L_asks v0 2 (v2 - v2 / (8 : Int32) * (8 : Int32)) v8 h) rfl rfl (Nat.le_of_ble_eq_true rfl) ⟨by rw [hD]; decide, by decide⟩ ⟨by rw [hmc]; exact Nat.le_of_ble_eq_true rfl, by rw [hms]; exact Nat.le_of_ble_eq_true rfl⟩ (fun x1 h1 => ?_)
  refine kj_norm (st' := [.inl x1]) (c' := 9) (z' := 151) rfl rfl rfl ?_
  refine kj_iload hC 4 dL_readings_139 rfl ?_
  refine kj_if_eq (tgt := 153) hC dL_readings_141 (by decide) (fun q1 => ?_) (fun q1 => ?_)
  · refine kj_bipush (v := (-108)) hC dL_readings_153 (by decide) ?_
    exact kj_sub [] rfl (t_L_readings_b155 hC hN hT hmc hms hD  ((-108)) x1 h1)
  · refine kj_aload hC 2 dL_readings_144 rfl ?_
    refine kj_iconst (v := 3) hC dL_readings_146 (by decide) ?_
    refine kj_gAIc (c := 31) hC rfl dL_readings_147 (fun x2 => ?_)
    refine kj_iconst (v := 1) hC dL_readings_148 (by decide) ?_
    refine kj_isub hC dL_readings_149 ?_
    refine kj_goto (tgt := 155) hC dL_readings_150 (by decide) ?_
    exact kj_sub [] rfl (t_L_readings_b155 hC hN hT hmc hms hD  (x2 - (1 : Int32)) x1 h1)
set_option maxHeartbeats 4000000 in
set_option maxRecDepth 100000 in
theorem t_L_readings_b86 {X : KX} (hC : kC X RL cL_readings 12 (some .boolean)) (hN : (xme X).name = yL_readings.name) (hT : kT0 X) (hmc : xmc X = 9) (hms : xms X = 151) (hD : xD X = 9) (v0 : Nat) (v2 : Int32) (v4 : Nat) (v5 : Nat) (v6 : Nat) (v7 : Nat) (v8 : Int32) (s0 : Int32) (h : KH) : kJ X (fun x : Int32 => some (.inl x)) 12 0 0 [(0, .inr (.inr (some v0))), (2, .inl v2), (4, .inr (.inr (some v4))), (5, .inr (.inr (some v5))), (6, .inr (.inr (some v6))), (7, .inr (.inr (some v7))), (8, .inl v8)] [.inl s0] 86 h (L_readings_b86  v0 v2 v4 v5 v6 v7 v8 s0 h) := by
  unfold L_readings_b86
  refine kj_istore (L' := [(9, .inl s0), (0, .inr (.inr (some v0))), (2, .inl v2), (4, .inr (.inr (some v4))), (5, .inr (.inr (some v5))), (6, .inr (.inr (some v6))), (7, .inr (.inr (some v7))), (8, .inl v8)]) hC dL_readings_86 (by decide) rfl ?_
  refine kj_iload hC 0 dL_readings_88 rfl ?_
  refine kj_if_eq (tgt := 128) hC dL_readings_90 (by decide) (fun q1 => ?_) (fun q1 => ?_)
  · exact kj_sub [1, 2, 6, 7, 0] rfl (t_L_readings_b128 hC hN hT hmc hms hD  v0 v2 v7 v8 s0 h)
  · refine kj_aload hC 5 dL_readings_93 rfl ?_
    refine kj_aload hC 6 dL_readings_95 rfl ?_
    refine kj_iconst (v := 3) hC dL_readings_97 (by decide) ?_
    refine kj_gAIc (c := 31) hC rfl dL_readings_98 (fun x1 => ?_)
    refine kj_iloadn hC 2 dL_readings_99 rfl rfl ?_
    refine kj_bipush (v := 8) hC dL_readings_100 (by decide) ?_
    refine kj_irem hC dL_readings_102 ?_
    refine kj_iload hC 7 dL_readings_103 rfl ?_
    refine kj_iconst (v := 3) hC dL_readings_105 (by decide) ?_
    refine kj_ishl hC dL_readings_106 ?_
    refine kj_ior hC dL_readings_107 ?_
    refine kj_pAIc (c := 31) hC rfl (by decide) dL_readings_108 (fun h1 => ?_)
    refine kj_aload hC 4 dL_readings_109 rfl ?_
    refine kj_aload hC 6 dL_readings_111 rfl ?_
    refine kj_iconst (v := 3) hC dL_readings_113 (by decide) ?_
    refine kj_gAIc (c := 31) hC rfl dL_readings_114 (fun x2 => ?_)
    refine kj_aload hC 3 dL_readings_115 rfl ?_
    refine kj_iconst (v := 0) hC dL_readings_117 (by decide) ?_
    refine kj_gAIc (c := 31) hC rfl dL_readings_118 (fun x3 => ?_)
    refine kj_pAIc (c := 31) hC rfl (by decide) dL_readings_119 (fun h2 => ?_)
    refine kj_aload hC 6 dL_readings_120 rfl ?_
    refine kj_iconst (v := 3) hC dL_readings_122 (by decide) ?_
    refine kj_dup2 hC dL_readings_123 rfl rfl ?_
    refine kj_gAIc (c := 31) hC rfl dL_readings_124 (fun x4 => ?_)
    refine kj_iconst (v := 1) hC dL_readings_125 (by decide) ?_
    refine kj_iadd hC dL_readings_126 ?_
    refine kj_pAIc (c := 31) hC rfl (by decide) dL_readings_127 (fun h3 => ?_)
    exact kj_sub [1, 2, 6, 7, 0] rfl (t_L_readings_b128 hC hN hT hmc hms hD  v0 v2 v7 v8 s0 h3)
set_option maxHeartbeats 4000000 in
set_option maxRecDepth 100000 in
theorem t_L_readings_b85 {X : KX} (hC : kC X RL cL_readings 12 (some .boolean)) (hN : (xme X).name = yL_readings.name) (hT : kT0 X) (hmc : xmc X = 9) (hms : xms X = 151) (hD : xD X = 9) (v0 : Nat) (v2 : Int32) (v4 : Nat) (v5 : Nat) (v6 : Nat) (v7 : Nat) (v8 : Int32) (h : KH) : kJ X (fun x : Int32 => some (.inl x)) 12 0 0 [(0, .inr (.inr (some v0))), (2, .inl v2), (4, .inr (.inr (some v4))), (5, .inr (.inr (some v5))), (6, .inr (.inr (some v6))), (7, .inr (.inr (some v7))), (8, .inl v8)] [] 85 h (L_readings_b85  v0 v2 v4 v5 v6 v7 v8 h) := by
  unfold L_readings_b85
  refine kj_iconst (v := 0) hC dL_readings_85 (by decide) ?_
  exact kj_sub [0, 1, 2, 3, 4, 5, 6] rfl (t_L_readings_b86 hC hN hT hmc hms hD  v0 v2 v4 v5 v6 v7 v8 0 h)
set_option maxHeartbeats 4000000 in
set_option maxRecDepth 100000 in
theorem t_L_readings_b60 {X : KX} (hC : kC X RL cL_readings 12 (some .boolean)) (hN : (xme X).name = yL_readings.name) (hT : kT0 X) (hmc : xmc X = 9) (hms : xms X = 151) (hD : xD X = 9) (v0 : Nat) (v2 : Int32) (v4 : Nat) (v5 : Nat) (v6 : Nat) (v7 : Nat) (s0 : Int32) (h : KH) : kJ X (fun x : Int32 => some (.inl x)) 12 0 0 [(0, .inr (.inr (some v0))), (2, .inl v2), (4, .inr (.inr (some v4))), (5, .inr (.inr (some v5))), (6, .inr (.inr (some v6))), (7, .inr (.inr (some v7)))] [.inl s0] 60 h (L_readings_b60  v0 v2 v4 v5 v6 v7 s0 h) := by
  unfold L_readings_b60
  refine kj_istore (L' := [(8, .inl s0), (0, .inr (.inr (some v0))), (2, .inl v2), (4, .inr (.inr (some v4))), (5, .inr (.inr (some v5))), (6, .inr (.inr (some v6))), (7, .inr (.inr (some v7)))]) hC dL_readings_60 (by decide) rfl ?_
  refine kj_aload hC 3 dL_readings_62 rfl ?_
  refine kj_iconst (v := 0) hC dL_readings_64 (by decide) ?_
  refine kj_gAIc (c := 31) hC rfl dL_readings_65 (fun x1 => ?_)
  refine kj_invS (as := [.inl x1]) (rest := []) hC hT dL_readings_66 kw211 ky_L_size ky2_L_size (t_L_size x1 h) rfl rfl (Nat.le_of_ble_eq_true rfl) ⟨by rw [hD]; decide, by decide⟩ ⟨by rw [hmc]; exact Nat.le_of_ble_eq_true rfl, by rw [hms]; exact Nat.le_of_ble_eq_true rfl⟩ (fun x2 h1 => ?_)
  refine kj_norm (st' := [.inl x2]) (c' := 0) (z' := 0) rfl rfl rfl ?_
  refine kj_if_le (tgt := 85) hC dL_readings_69 (by decide) (fun q1 => ?_) (fun q1 => ?_)
  · exact kj_sub [1, 2, 3, 4, 5, 6, 0] rfl (t_L_readings_b85 hC hN hT hmc hms hD  v0 v2 v4 v5 v6 v7 s0 h1)
  · refine kj_aload hC 6 dL_readings_72 rfl ?_
    refine kj_iconst (v := 3) hC dL_readings_74 (by decide) ?_
    refine kj_gAIc (c := 31) hC rfl dL_readings_75 (fun x3 => ?_)
    refine kj_bipush (v := 60) hC dL_readings_76 (by decide) ?_
    refine kj_icmp_ge (tgt := 85) hC dL_readings_78 (by decide) (fun q2 => ?_) (fun q2 => ?_)
    · exact kj_sub [1, 2, 3, 4, 5, 6, 0] rfl (t_L_readings_b85 hC hN hT hmc hms hD  v0 v2 v4 v5 v6 v7 s0 h1)
    · refine kj_iconst (v := 1) hC dL_readings_81 (by decide) ?_
      refine kj_goto (tgt := 86) hC dL_readings_82 (by decide) ?_
      exact kj_sub [1, 2, 3, 4, 5, 6, 0] rfl (t_L_readings_b86 hC hN hT hmc hms hD  v0 v2 v4 v5 v6 v7 s0 1 h1)
set_option maxHeartbeats 4000000 in
set_option maxRecDepth 100000 in
theorem t_L_readings (p0 : Nat) (p1 : Int32) (p2 : Int32) (p3 : Int32) (p4 : Nat) (p5 : Nat) (p6 : Nat) (p7 : Nat) (h : KH) : kM yL_readings cL_readings 12 (some .boolean) 9 9 151 (fun x : Int32 => some (.inl x)) [.inr (.inr (some p0)), .inl p1, .inl p2, .inl p3, .inr (.inr (some p4)), .inr (.inr (some p5)), .inr (.inr (some p6)), .inr (.inr (some p7))] h (f_L_readings p0 p1 p2 p3 p4 p5 p6 p7 h) := by
  refine kM_of RL (by decide) rfl (Nat.le_of_ble_eq_true rfl) [(0, .inr (.inr (some p0))), (1, .inl p1), (2, .inl p2), (3, .inl p3), (4, .inr (.inr (some p4))), (5, .inr (.inr (some p5))), (6, .inr (.inr (some p6))), (7, .inr (.inr (some p7)))] rfl (fun X hC hN hT hmc hms hD => ?_)
  unfold f_L_readings
  refine kj_iloadn hC 1 dL_readings_0 rfl rfl ?_
  refine kj_iconst (v := 3) hC dL_readings_1 (by decide) ?_
  refine kj_icmp_ge (tgt := 164) hC dL_readings_2 (by decide) (fun q1 => ?_) (fun q1 => ?_)
  · refine kj_aload hC 7 dL_readings_164 rfl ?_
    refine kj_iconst (v := 3) hC dL_readings_166 (by decide) ?_
    refine kj_gAIc (c := 31) hC rfl dL_readings_167 (fun x1 => ?_)
    refine kj_if_ne (tgt := 173) hC dL_readings_168 (by decide) (fun q2 => ?_) (fun q2 => ?_)
    · refine kj_iconst (v := 1) hC dL_readings_171 (by decide) ?_
      refine kj_widen (k := 9) (n := 151) (Nat.le_of_ble_eq_true rfl) (Nat.le_of_ble_eq_true rfl) ?_
      refine kj_fin hmc hms ?_
      exact kj_zreturn hC dL_readings_172
    · refine kj_iloadn hC 2 dL_readings_173 rfl rfl ?_
      refine kj_aload hC 7 dL_readings_174 rfl ?_
      refine kj_iconst (v := 3) hC dL_readings_176 (by decide) ?_
      refine kj_gAIc (c := 31) hC rfl dL_readings_177 (fun x2 => ?_)
      refine kj_irem hC dL_readings_178 ?_
      refine kj_istore (L' := [(8, .inl (p2 - p2 / x2 * x2)), (0, .inr (.inr (some p0))), (1, .inl p1), (2, .inl p2), (3, .inl p3), (4, .inr (.inr (some p4))), (5, .inr (.inr (some p5))), (6, .inr (.inr (some p6))), (7, .inr (.inr (some p7)))]) hC dL_readings_179 (by decide) rfl ?_
      refine kj_aload hC 7 dL_readings_181 rfl ?_
      refine kj_iload hC 0 dL_readings_183 rfl ?_
      refine kj_gAIc (c := 31) hC rfl dL_readings_185 (fun x3 => ?_)
      refine kj_bipush (v := 19) hC dL_readings_186 (by decide) ?_
      refine kj_iconst (v := 1) hC dL_readings_188 (by decide) ?_
      refine kj_invS (as := [.inl x3, .inl 19, .inl 1]) (rest := []) hC hT dL_readings_189 kw590 ky_L_part ky2_L_part (t_L_part x3 19 1 h) rfl rfl (Nat.le_of_ble_eq_true rfl) ⟨by rw [hD]; decide, by decide⟩ ⟨by rw [hmc]; exact Nat.le_of_ble_eq_true rfl, by rw [hms]; exact Nat.le_of_ble_eq_true rfl⟩ (fun x4 h1 => ?_)
      refine kj_norm (st' := [.inl x4]) (c' := 0) (z' := 0) rfl rfl rfl ?_
      refine kj_iconst (v := 1) hC dL_readings_192 (by decide) ?_
      refine kj_icmp_ne (tgt := 200) hC dL_readings_193 (by decide) (fun q3 => ?_) (fun q3 => ?_)
      · refine kj_iconst (v := 1) hC dL_readings_196 (by decide) ?_
        refine kj_goto (tgt := 201) hC dL_readings_197 (by decide) ?_
        exact kj_sub [1, 2, 4, 7, 8, 0] rfl (t_L_readings_b201 hC hN hT hmc hms hD  p0 p1 p3 p6 p7 (p2 - p2 / x2 * x2) 1 h1)
      · refine kj_iconst (v := 0) hC dL_readings_200 (by decide) ?_
        exact kj_sub [1, 2, 4, 7, 8, 0] rfl (t_L_readings_b201 hC hN hT hmc hms hD  p0 p1 p3 p6 p7 (p2 - p2 / x2 * x2) 0 h1)
  · refine kj_iloadn hC 3 dL_readings_5 rfl rfl ?_
    refine kj_bipush (v := 6) hC dL_readings_6 (by decide) ?_
    refine kj_irem hC dL_readings_8 ?_
    refine kj_if_ne (tgt := 26) hC dL_readings_9 (by decide) (fun q4 => ?_) (fun q4 => ?_)
    · refine kj_iloadn hC 3 dL_readings_12 rfl rfl ?_
      refine kj_bipush (v := 6) hC dL_readings_13 (by decide) ?_
      refine kj_idiv hC dL_readings_15 ?_
      refine kj_aload hC 7 dL_readings_16 rfl ?_
      refine kj_iconst (v := 0) hC dL_readings_18 (by decide) ?_
      refine kj_gAIc (c := 31) hC rfl dL_readings_19 (fun x8 => ?_)
      refine kj_iconst (v := 1) hC dL_readings_20 (by decide) ?_
      refine kj_iadd hC dL_readings_21 ?_
      refine kj_irem hC dL_readings_22 ?_
      refine kj_goto (tgt := 60) hC dL_readings_23 (by decide) ?_
      exact kj_sub [0, 2, 4, 5, 6, 7] rfl (t_L_readings_b60 hC hN hT hmc hms hD  p0 p2 p4 p5 p6 p7 ((p3 / (6 : Int32)) - (p3 / (6 : Int32)) / (x8 + (1 : Int32)) * (x8 + (1 : Int32))) h)
    · refine kj_aload hC 7 dL_readings_26 rfl ?_
      refine kj_iconst (v := 0) hC dL_readings_28 (by decide) ?_
      refine kj_gAIc (c := 31) hC rfl dL_readings_29 (fun x5 => ?_)
      refine kj_iloadn hC 3 dL_readings_30 rfl rfl ?_
      refine kj_bipush (v := 6) hC dL_readings_31 (by decide) ?_
      refine kj_idiv hC dL_readings_33 ?_
      refine kj_bipush (v := 60) hC dL_readings_34 (by decide) ?_
      refine kj_irem hC dL_readings_36 ?_
      refine kj_isub hC dL_readings_37 ?_
      refine kj_if_ge (tgt := 48) hC dL_readings_38 (by decide) (fun q5 => ?_) (fun q5 => ?_)
      · refine kj_aload hC 7 dL_readings_48 rfl ?_
        refine kj_iconst (v := 0) hC dL_readings_50 (by decide) ?_
        refine kj_gAIc (c := 31) hC rfl dL_readings_51 (fun x6 => ?_)
        refine kj_iloadn hC 3 dL_readings_52 rfl rfl ?_
        refine kj_bipush (v := 6) hC dL_readings_53 (by decide) ?_
        refine kj_idiv hC dL_readings_55 ?_
        refine kj_bipush (v := 60) hC dL_readings_56 (by decide) ?_
        refine kj_irem hC dL_readings_58 ?_
        refine kj_isub hC dL_readings_59 ?_
        exact kj_sub [0, 2, 4, 5, 6, 7] rfl (t_L_readings_b60 hC hN hT hmc hms hD  p0 p2 p4 p5 p6 p7 (x6 - ((p3 / (6 : Int32)) - (p3 / (6 : Int32)) / (60 : Int32) * (60 : Int32))) h)
      · refine kj_aload hC 7 dL_readings_41 rfl ?_
        refine kj_iconst (v := 0) hC dL_readings_43 (by decide) ?_
        refine kj_gAIc (c := 31) hC rfl dL_readings_44 (fun x7 => ?_)
        refine kj_goto (tgt := 60) hC dL_readings_45 (by decide) ?_
        exact kj_sub [0, 2, 4, 5, 6, 7] rfl (t_L_readings_b60 hC hN hT hmc hms hD  p0 p2 p4 p5 p6 p7 x7 h)
set_option maxHeartbeats 4000000 in
set_option maxRecDepth 100000 in
theorem t_L_step_b504 (g : Nat) {X : KX} (hC : kC X RL cL_step 16 (some .boolean)) (hN : (xme X).name = yL_step.name) (hT : kT0 X) (hmc : xmc X = 9) (hms : xms X = 151) (hD : xD X = 10) (s0 : Int32) (h : KH) : kJ X (fun x : Int32 => some (.inl x)) 16 0 0 [] [.inl s0] 504 h (L_step_b504 g  s0 h) := by
  unfold L_step_b504
  refine kj_widen (k := 9) (n := 151) (Nat.le_of_ble_eq_true rfl) (Nat.le_of_ble_eq_true rfl) ?_
  refine kj_fin hmc hms ?_
  exact kj_zreturn hC dL_step_504
set_option maxHeartbeats 4000000 in
set_option maxRecDepth 100000 in
theorem t_L_step_b462 (g : Nat) {X : KX} (hC : kC X RL cL_step 16 (some .boolean)) (hN : (xme X).name = yL_step.name) (hT : kT0 X) (hmc : xmc X = 9) (hms : xms X = 151) (hD : xD X = 10) (s0 : Int32) (h : KH) : kJ X (fun x : Int32 => some (.inl x)) 16 0 0 [] [.inl s0] 462 h (L_step_b462 g  s0 h) := by
  unfold L_step_b462
  refine kj_widen (k := 9) (n := 151) (Nat.le_of_ble_eq_true rfl) (Nat.le_of_ble_eq_true rfl) ?_
  refine kj_fin hmc hms ?_
  exact kj_zreturn hC dL_step_462
set_option maxHeartbeats 4000000 in
set_option maxRecDepth 100000 in
theorem t_L_step_b423 (g : Nat) {X : KX} (hC : kC X RL cL_step 16 (some .boolean)) (hN : (xme X).name = yL_step.name) (hT : kT0 X) (hmc : xmc X = 9) (hms : xms X = 151) (hD : xD X = 10) (s0 : Int32) (h : KH) : kJ X (fun x : Int32 => some (.inl x)) 16 0 0 [] [.inl s0] 423 h (L_step_b423 g  s0 h) := by
  unfold L_step_b423
  refine kj_widen (k := 9) (n := 151) (Nat.le_of_ble_eq_true rfl) (Nat.le_of_ble_eq_true rfl) ?_
  refine kj_fin hmc hms ?_
  exact kj_zreturn hC dL_step_423
set_option maxHeartbeats 4000000 in
set_option maxRecDepth 100000 in
theorem t_L_step_b415 (g : Nat) {X : KX} (hC : kC X RL cL_step 16 (some .boolean)) (hN : (xme X).name = yL_step.name) (hT : kT0 X) (hmc : xmc X = 9) (hms : xms X = 151) (hD : xD X = 10) (s0 : Int32) (s1 : Int32) (h : KH) : kJ X (fun x : Int32 => some (.inl x)) 16 0 0 [] [.inl s0, .inl s1] 415 h (L_step_b415 g  s0 s1 h) := by
  unfold L_step_b415
  refine kj_icmp_ne (tgt := 422) hC dL_step_415 (by decide) (fun q1 => ?_) (fun q1 => ?_)
  · refine kj_iconst (v := 1) hC dL_step_418 (by decide) ?_
    refine kj_goto (tgt := 423) hC dL_step_419 (by decide) ?_
    exact kj_sub [] rfl (t_L_step_b423 g hC hN hT hmc hms hD  1 h)
  · refine kj_iconst (v := 0) hC dL_step_422 (by decide) ?_
    exact kj_sub [] rfl (t_L_step_b423 g hC hN hT hmc hms hD  0 h)
set_option maxHeartbeats 4000000 in
set_option maxRecDepth 100000 in
theorem t_L_step_b337 (g : Nat) {X : KX} (hC : kC X RL cL_step 16 (some .boolean)) (hN : (xme X).name = yL_step.name) (hT : kT0 X) (hmc : xmc X = 9) (hms : xms X = 151) (hD : xD X = 10) (s0 : Int32) (h : KH) : kJ X (fun x : Int32 => some (.inl x)) 16 0 0 [] [.inl s0] 337 h (L_step_b337 g  s0 h) := by
  unfold L_step_b337
  refine kj_widen (k := 9) (n := 151) (Nat.le_of_ble_eq_true rfl) (Nat.le_of_ble_eq_true rfl) ?_
  refine kj_fin hmc hms ?_
  exact kj_zreturn hC dL_step_337
set_option maxHeartbeats 4000000 in
set_option maxRecDepth 100000 in
theorem t_L_step_b336 (g : Nat) {X : KX} (hC : kC X RL cL_step 16 (some .boolean)) (hN : (xme X).name = yL_step.name) (hT : kT0 X) (hmc : xmc X = 9) (hms : xms X = 151) (hD : xD X = 10)  (h : KH) : kJ X (fun x : Int32 => some (.inl x)) 16 0 0 [] [] 336 h (L_step_b336 g   h) := by
  unfold L_step_b336
  refine kj_iconst (v := 0) hC dL_step_336 (by decide) ?_
  exact kj_sub [] rfl (t_L_step_b337 g hC hN hT hmc hms hD  0 h)
set_option maxHeartbeats 4000000 in
set_option maxRecDepth 100000 in
theorem t_L_step_b332 (g : Nat) {X : KX} (hC : kC X RL cL_step 16 (some .boolean)) (hN : (xme X).name = yL_step.name) (hT : kT0 X) (hmc : xmc X = 9) (hms : xms X = 151) (hD : xD X = 10)  (h : KH) : kJ X (fun x : Int32 => some (.inl x)) 16 0 0 [] [] 332 h (L_step_b332 g   h) := by
  unfold L_step_b332
  refine kj_iconst (v := 1) hC dL_step_332 (by decide) ?_
  refine kj_goto (tgt := 337) hC dL_step_333 (by decide) ?_
  exact kj_sub [] rfl (t_L_step_b337 g hC hN hT hmc hms hD  1 h)
set_option maxHeartbeats 4000000 in
set_option maxRecDepth 100000 in
theorem t_L_step_b301 (g : Nat) {X : KX} (hC : kC X RL cL_step 16 (some .boolean)) (hN : (xme X).name = yL_step.name) (hT : kT0 X) (hmc : xmc X = 9) (hms : xms X = 151) (hD : xD X = 10) (v0 : Nat) (v9 : Nat) (v12 : Int32) (v13 : Int32) (s0 : Int32) (s1 : Int32) (s2 : Int32) (s3 : Nat) (h : KH) : kJ X (fun x : Int32 => some (.inl x)) 16 0 0 [(0, .inr (.inr (some v0))), (9, .inr (.inr (some v9))), (12, .inl v12), (13, .inl v13)] [.inl s0, .inl s1, .inl s2, .inr (.inr (some s3))] 301 h (L_step_b301 g  v0 v9 v12 v13 s0 s1 s2 s3 h) := by
  unfold L_step_b301
  refine kj_iadd hC dL_step_301 ?_
  refine kj_pAIc (c := 31) hC rfl (by decide) dL_step_302 (fun h1 => ?_)
  refine kj_iload hC 3 dL_step_303 rfl ?_
  refine kj_if_eq (tgt := 332) hC dL_step_305 (by decide) (fun q1 => ?_) (fun q1 => ?_)
  · exact kj_sub [] rfl (t_L_step_b332 g hC hN hT hmc hms hD   h1)
  · refine kj_aloadn hC 0 dL_step_308 rfl rfl ?_
    refine kj_iload hC 2 dL_step_309 rfl ?_
    refine kj_ghost (n := 0) ?_
    refine kj_invV (ci := 9) (q := (RX9, TX9, 17)) (as := [.inl v12]) (rest := []) hC hT dL_step_311 kw661 ky_X9_pass ky2_X9_pass rfl rfl (t_zX9_pass v0 v12 (sX h1 (0))) rfl rfl (Nat.le_of_ble_eq_true rfl) ⟨by rw [hD]; decide, by decide⟩ ⟨by rw [hmc]; exact Nat.le_of_ble_eq_true rfl, by rw [hms]; exact Nat.le_of_ble_eq_true rfl⟩ (fun x1 h2 => ?_)
    refine kj_norm (st' := [.inl x1]) (c' := 0) (z' := 0) rfl rfl rfl ?_
    refine kj_aload hC 1 dL_step_314 rfl ?_
    refine kj_iconst (v := 0) hC dL_step_316 (by decide) ?_
    refine kj_gAIc (c := 31) hC rfl dL_step_317 (fun x2 => ?_)
    refine kj_icmp_ne (tgt := 336) hC dL_step_318 (by decide) (fun q2 => ?_) (fun q2 => ?_)
    · refine kj_aloadn hC 0 dL_step_321 rfl rfl ?_
      refine kj_ghost (n := 0) ?_
      refine kj_invV (ci := 9) (q := (RX9, TX9, 17)) (as := []) (rest := []) hC hT dL_step_322 kw668 ky_X9_now ky2_X9_now rfl rfl (t_X9_now v0 (sX h2 (0))) rfl rfl (Nat.le_of_ble_eq_true rfl) ⟨by rw [hD]; decide, by decide⟩ ⟨by rw [hmc]; exact Nat.le_of_ble_eq_true rfl, by rw [hms]; exact Nat.le_of_ble_eq_true rfl⟩ (fun x3 h3 => ?_)
      refine kj_norm (st' := [.inl x3]) (c' := 0) (z' := 0) rfl rfl rfl ?_
      refine kj_aload hC 1 dL_step_325 rfl ?_
      refine kj_iconst (v := 0) hC dL_step_327 (by decide) ?_
      refine kj_gAIc (c := 31) hC rfl dL_step_328 (fun x4 => ?_)
      refine kj_icmp_ne (tgt := 336) hC dL_step_329 (by decide) (fun q3 => ?_) (fun q3 => ?_)
      · exact kj_sub [] rfl (t_L_step_b332 g hC hN hT hmc hms hD   h3)
      · exact kj_sub [] rfl (t_L_step_b336 g hC hN hT hmc hms hD   h3)
    · exact kj_sub [] rfl (t_L_step_b336 g hC hN hT hmc hms hD   h2)
set_option maxHeartbeats 4000000 in
set_option maxRecDepth 100000 in
theorem t_L_step_b283 (g : Nat) {X : KX} (hC : kC X RL cL_step 16 (some .boolean)) (hN : (xme X).name = yL_step.name) (hT : kT0 X) (hmc : xmc X = 9) (hms : xms X = 151) (hD : xD X = 10) (v0 : Nat) (v9 : Nat) (v12 : Int32) (s0 : Int32) (h : KH) : kJ X (fun x : Int32 => some (.inl x)) 16 0 0 [(0, .inr (.inr (some v0))), (9, .inr (.inr (some v9))), (12, .inl v12)] [.inl s0] 283 h (L_step_b283 g  v0 v9 v12 s0 h) := by
  unfold L_step_b283
  refine kj_istore (L' := [(13, .inl s0), (0, .inr (.inr (some v0))), (9, .inr (.inr (some v9))), (12, .inl v12)]) hC dL_step_283 (by decide) rfl ?_
  refine kj_aload hC 2 dL_step_285 rfl ?_
  refine kj_iconst (v := 0) hC dL_step_287 (by decide) ?_
  refine kj_dup2 hC dL_step_288 rfl rfl ?_
  refine kj_gAIc (c := 31) hC rfl dL_step_289 (fun x1 => ?_)
  refine kj_iload hC 0 dL_step_290 rfl ?_
  refine kj_if_eq (tgt := 300) hC dL_step_292 (by decide) (fun q1 => ?_) (fun q1 => ?_)
  · refine kj_iconst (v := 0) hC dL_step_300 (by decide) ?_
    exact kj_sub [1, 2, 3, 0] rfl (t_L_step_b301 g hC hN hT hmc hms hD  v0 v9 v12 s0 0 x1 0 v9 h)
  · refine kj_iload hC 3 dL_step_295 rfl ?_
    refine kj_goto (tgt := 301) hC dL_step_297 (by decide) ?_
    exact kj_sub [1, 2, 3, 0] rfl (t_L_step_b301 g hC hN hT hmc hms hD  v0 v9 v12 s0 v12 x1 0 v9 h)
set_option maxHeartbeats 4000000 in
set_option maxRecDepth 100000 in
theorem t_L_step_b262 (g : Nat) {X : KX} (hC : kC X RL cL_step 16 (some .boolean)) (hN : (xme X).name = yL_step.name) (hT : kT0 X) (hmc : xmc X = 9) (hms : xms X = 151) (hD : xD X = 10) (v0 : Nat) (v9 : Nat) (s0 : Int32) (s1 : Int32) (s2 : Int32) (h : KH) : kJ X (fun x : Int32 => some (.inl x)) 16 0 0 [(0, .inr (.inr (some v0))), (9, .inr (.inr (some v9)))] [.inl s0, .inl s1, .inl s2] 262 h (L_step_b262 g  v0 v9 s0 s1 s2 h) := by
  unfold L_step_b262
  refine kj_irem hC dL_step_262 ?_
  refine kj_iadd hC dL_step_263 ?_
  refine kj_istore (L' := [(12, .inl (s2 + (s1 - s1 / s0 * s0))), (0, .inr (.inr (some v0))), (9, .inr (.inr (some v9)))]) hC dL_step_264 (by decide) rfl ?_
  refine kj_aload hC 2 dL_step_266 rfl ?_
  refine kj_iconst (v := 0) hC dL_step_268 (by decide) ?_
  refine kj_gAIc (c := 31) hC rfl dL_step_269 (fun x1 => ?_)
  refine kj_iload hC 0 dL_step_270 rfl ?_
  refine kj_iadd hC dL_step_272 ?_
  refine kj_ldc (v := 50000) hC dL_step_273 kw660 ?_
  refine kj_icmp_gt (tgt := 282) hC dL_step_275 (by decide) (fun q1 => ?_) (fun q1 => ?_)
  · refine kj_iconst (v := 0) hC dL_step_282 (by decide) ?_
    exact kj_sub [1, 2, 0] rfl (t_L_step_b283 g hC hN hT hmc hms hD  v0 v9 (s2 + (s1 - s1 / s0 * s0)) 0 h)
  · refine kj_iconst (v := 1) hC dL_step_278 (by decide) ?_
    refine kj_goto (tgt := 283) hC dL_step_279 (by decide) ?_
    exact kj_sub [1, 2, 0] rfl (t_L_step_b283 g hC hN hT hmc hms hD  v0 v9 (s2 + (s1 - s1 / s0 * s0)) 1 h)
set_option maxHeartbeats 4000000 in
set_option maxRecDepth 100000 in
theorem t_L_step_b239 (g : Nat) {X : KX} (hC : kC X RL cL_step 16 (some .boolean)) (hN : (xme X).name = yL_step.name) (hT : kT0 X) (hmc : xmc X = 9) (hms : xms X = 151) (hD : xD X = 10) (s0 : Int32) (h : KH) : kJ X (fun x : Int32 => some (.inl x)) 16 0 0 [] [.inl s0] 239 h (L_step_b239 g  s0 h) := by
  unfold L_step_b239
  refine kj_widen (k := 9) (n := 151) (Nat.le_of_ble_eq_true rfl) (Nat.le_of_ble_eq_true rfl) ?_
  refine kj_fin hmc hms ?_
  exact kj_zreturn hC dL_step_239
set_option maxHeartbeats 4000000 in
set_option maxRecDepth 100000 in
theorem t_L_step_b178 (g : Nat) {X : KX} (hC : kC X RL cL_step 16 (some .boolean)) (hN : (xme X).name = yL_step.name) (hT : kT0 X) (hmc : xmc X = 9) (hms : xms X = 151) (hD : xD X = 10) (v0 : Nat) (v10 : Nat) (v12 : Int32) (v13 : Int32) (s0 : Int32) (h : KH) : kJ X (fun x : Int32 => some (.inl x)) 16 0 0 [(0, .inr (.inr (some v0))), (10, .inr (.inr (some v10))), (12, .inl v12), (13, .inl v13)] [.inl s0] 178 h (L_step_b178 g  v0 v10 v12 v13 s0 h) := by
  unfold L_step_b178
  refine kj_istore (L' := [(14, .inl s0), (0, .inr (.inr (some v0))), (10, .inr (.inr (some v10))), (12, .inl v12), (13, .inl v13)]) hC dL_step_178 (by decide) rfl ?_
  refine kj_aload hC 2 dL_step_180 rfl ?_
  refine kj_bipush (v := 8) hC dL_step_182 (by decide) ?_
  refine kj_iload hC 3 dL_step_184 rfl ?_
  refine kj_imul hC dL_step_186 ?_
  refine kj_iload hC 4 dL_step_187 rfl ?_
  refine kj_iadd hC dL_step_189 ?_
  refine kj_gAIc (c := 31) hC rfl dL_step_190 (fun x1 => ?_)
  refine kj_istore (L' := [(15, .inl x1), (14, .inl s0), (0, .inr (.inr (some v0))), (10, .inr (.inr (some v10))), (12, .inl v12), (13, .inl v13)]) hC dL_step_191 (by decide) rfl ?_
  refine kj_aload hC 3 dL_step_193 rfl ?_
  refine kj_bipush (v := 8) hC dL_step_195 (by decide) ?_
  refine kj_iload hC 4 dL_step_197 rfl ?_
  refine kj_imul hC dL_step_199 ?_
  refine kj_iload hC 5 dL_step_200 rfl ?_
  refine kj_iadd hC dL_step_202 ?_
  refine kj_iload hC 1 dL_step_203 rfl ?_
  refine kj_pAIc (c := 31) hC rfl (by decide) dL_step_205 (fun h1 => ?_)
  refine kj_aload hC 3 dL_step_206 rfl ?_
  refine kj_bipush (v := 8) hC dL_step_208 (by decide) ?_
  refine kj_iload hC 5 dL_step_210 rfl ?_
  refine kj_imul hC dL_step_212 ?_
  refine kj_iload hC 4 dL_step_213 rfl ?_
  refine kj_iadd hC dL_step_215 ?_
  refine kj_iload hC 1 dL_step_216 rfl ?_
  refine kj_pAIc (c := 31) hC rfl (by decide) dL_step_218 (fun h2 => ?_)
  refine kj_aloadn hC 2 dL_step_219 rfl rfl ?_
  refine kj_iload hC 4 dL_step_220 rfl ?_
  refine kj_iload hC 5 dL_step_222 rfl ?_
  refine kj_iload hC 1 dL_step_224 rfl ?_
  refine kj_ghost (n := 0) ?_
  refine kj_invV (ci := 9) (q := (RX9, TX9, 17)) (as := [.inl v12, .inl v13, .inl s0]) (rest := []) hC hT dL_step_226 kw639 ky_X9_road ky2_X9_road rfl rfl (t_zX9_road v0 v12 v13 s0 (sX h2 (0))) rfl rfl (Nat.le_of_ble_eq_true rfl) ⟨by rw [hD]; decide, by decide⟩ ⟨by rw [hmc]; exact Nat.le_of_ble_eq_true rfl, by rw [hms]; exact Nat.le_of_ble_eq_true rfl⟩ (fun x2 h3 => ?_)
  refine kj_norm (st' := [.inl x2]) (c' := 0) (z' := 0) rfl rfl rfl ?_
  refine kj_iload hC 0 dL_step_229 rfl ?_
  refine kj_icmp_ne (tgt := 238) hC dL_step_231 (by decide) (fun q1 => ?_) (fun q1 => ?_)
  · refine kj_iconst (v := 1) hC dL_step_234 (by decide) ?_
    refine kj_goto (tgt := 239) hC dL_step_235 (by decide) ?_
    exact kj_sub [] rfl (t_L_step_b239 g hC hN hT hmc hms hD  1 h3)
  · refine kj_iconst (v := 0) hC dL_step_238 (by decide) ?_
    exact kj_sub [] rfl (t_L_step_b239 g hC hN hT hmc hms hD  0 h3)
set_option maxHeartbeats 4000000 in
set_option maxRecDepth 100000 in
theorem t_L_step_b176 (g : Nat) {X : KX} (hC : kC X RL cL_step 16 (some .boolean)) (hN : (xme X).name = yL_step.name) (hT : kT0 X) (hmc : xmc X = 9) (hms : xms X = 151) (hD : xD X = 10) (v0 : Nat) (v10 : Nat) (v12 : Int32) (v13 : Int32) (s0 : Int32) (s1 : Int32) (s2 : Int32) (h : KH) : kJ X (fun x : Int32 => some (.inl x)) 16 0 0 [(0, .inr (.inr (some v0))), (10, .inr (.inr (some v10))), (12, .inl v12), (13, .inl v13)] [.inl s0, .inl s1, .inl s2] 176 h (L_step_b176 g  v0 v10 v12 v13 s0 s1 s2 h) := by
  unfold L_step_b176
  refine kj_irem hC dL_step_176 ?_
  refine kj_iadd hC dL_step_177 ?_
  exact kj_sub [0, 1, 2, 3] rfl (t_L_step_b178 g hC hN hT hmc hms hD  v0 v10 v12 v13 (s2 + (s1 - s1 / s0 * s0)) h)
set_option maxHeartbeats 4000000 in
set_option maxRecDepth 100000 in
theorem t_L_step_b101 (g : Nat) {X : KX} (hC : kC X RL cL_step 16 (some .boolean)) (hN : (xme X).name = yL_step.name) (hT : kT0 X) (hmc : xmc X = 9) (hms : xms X = 151) (hD : xD X = 10) (v2 : Int32) (v3 : Int32) (v4 : Nat) (v5 : Nat) (v6 : Nat) (v9 : Nat) (s0 : Int32) (s1 : Nat) (h : KH) : kJ X (fun x : Int32 => some (.inl x)) 16 0 0 [(2, .inl v2), (3, .inl v3), (4, .inr (.inr (some v4))), (5, .inr (.inr (some v5))), (6, .inr (.inr (some v6))), (9, .inr (.inr (some v9)))] [.inl s0, .inr (.inr (some s1))] 101 h (L_step_b101 g  v2 v3 v4 v5 v6 v9 s0 s1 h) := by
  unfold L_step_b101
  refine kj_iloadn hC 0 dL_step_101 rfl rfl ?_
  refine kj_iloadn hC 1 dL_step_102 rfl rfl ?_
  refine kj_aload hC 2 dL_step_103 rfl ?_
  refine kj_aload hC 3 dL_step_105 rfl ?_
  refine kj_aload hC 4 dL_step_107 rfl ?_
  refine kj_aload hC 5 dL_step_109 rfl ?_
  refine kj_invS (as := [.inr (.inr (some s1)), .inl s0, .inl v2, .inl v3, .inr (.inr (some v4)), .inr (.inr (some v5)), .inr (.inr (some v6)), .inr (.inr (some v9))]) (rest := []) hC hT dL_step_111 kw626 ky_L_readings ky2_L_readings (t_L_readings s1 s0 v2 v3 v4 v5 v6 v9 h) rfl rfl (Nat.le_of_ble_eq_true rfl) ⟨by rw [hD]; decide, by decide⟩ ⟨by rw [hmc]; exact Nat.le_of_ble_eq_true rfl, by rw [hms]; exact Nat.le_of_ble_eq_true rfl⟩ (fun x1 h1 => ?_)
  refine kj_norm (st' := [.inl x1]) (c' := 9) (z' := 151) rfl rfl rfl ?_
  refine kj_fin hmc hms ?_
  exact kj_zreturn hC dL_step_114
set_option maxHeartbeats 4000000 in
set_option maxRecDepth 100000 in
theorem t_L_step_b68 (g : Nat) {X : KX} (hC : kC X RL cL_step 16 (some .boolean)) (hN : (xme X).name = yL_step.name) (hT : kT0 X) (hmc : xmc X = 9) (hms : xms X = 151) (hD : xD X = 10) (v2 : Int32) (v3 : Int32) (v4 : Nat) (v7 : Nat) (v9 : Nat) (s0 : Int32) (s1 : Nat) (h : KH) : kJ X (fun x : Int32 => some (.inl x)) 16 0 0 [(2, .inl v2), (3, .inl v3), (4, .inr (.inr (some v4))), (7, .inr (.inr (some v7))), (9, .inr (.inr (some v9)))] [.inl s0, .inr (.inr (some s1))] 68 h (L_step_b68 g  v2 v3 v4 v7 v9 s0 s1 h) := by
  unfold L_step_b68
  refine kj_iloadn hC 0 dL_step_68 rfl rfl ?_
  refine kj_iloadn hC 1 dL_step_69 rfl rfl ?_
  refine kj_aload hC 2 dL_step_70 rfl ?_
  refine kj_aload hC 3 dL_step_72 rfl ?_
  refine kj_aload hC 4 dL_step_74 rfl ?_
  refine kj_invS (as := [.inr (.inr (some s1)), .inl s0, .inl v2, .inl v3, .inr (.inr (some v4)), .inr (.inr (some v7)), .inr (.inr (some v9))]) (rest := []) hC hT dL_step_76 kw605 ky_L_plates ky2_L_plates (t_L_plates g s1 s0 v2 v3 v4 v7 v9 h) rfl rfl (Nat.le_of_ble_eq_true rfl) ⟨by rw [hD]; decide, by decide⟩ ⟨by rw [hmc]; exact Nat.le_of_ble_eq_true rfl, by rw [hms]; exact Nat.le_of_ble_eq_true rfl⟩ (fun x1 h1 => ?_)
  refine kj_norm (st' := [.inl x1]) (c' := 9) (z' := 151) rfl rfl rfl ?_
  refine kj_fin hmc hms ?_
  exact kj_zreturn hC dL_step_79
set_option maxHeartbeats 4000000 in
set_option maxRecDepth 100000 in
theorem t_L_step_b42 (g : Nat) {X : KX} (hC : kC X RL cL_step 16 (some .boolean)) (hN : (xme X).name = yL_step.name) (hT : kT0 X) (hmc : xmc X = 9) (hms : xms X = 151) (hD : xD X = 10) (v2 : Int32) (v3 : Int32) (v4 : Nat) (s0 : Int32) (s1 : Nat) (h : KH) : kJ X (fun x : Int32 => some (.inl x)) 16 0 0 [(2, .inl v2), (3, .inl v3), (4, .inr (.inr (some v4)))] [.inl s0, .inr (.inr (some s1))] 42 h (L_step_b42 g  v2 v3 v4 s0 s1 h) := by
  unfold L_step_b42
  refine kj_iloadn hC 0 dL_step_42 rfl rfl ?_
  refine kj_iloadn hC 1 dL_step_43 rfl rfl ?_
  refine kj_aload hC 2 dL_step_44 rfl ?_
  refine kj_invS (as := [.inr (.inr (some s1)), .inl s0, .inl v2, .inl v3, .inr (.inr (some v4))]) (rest := []) hC hT dL_step_46 kw208 ky_L_texts ky2_L_texts (t_L_texts s1 s0 v2 v3 v4 h) rfl rfl (Nat.le_of_ble_eq_true rfl) ⟨by rw [hD]; decide, by decide⟩ ⟨by rw [hmc]; exact Nat.le_of_ble_eq_true rfl, by rw [hms]; exact Nat.le_of_ble_eq_true rfl⟩ (fun x1 h1 => ?_)
  refine kj_norm (st' := [.inl x1]) (c' := 9) (z' := 151) rfl rfl rfl ?_
  refine kj_fin hmc hms ?_
  exact kj_zreturn hC dL_step_49
set_option maxHeartbeats 4000000 in
set_option maxRecDepth 100000 in
theorem t_L_step (g : Nat) (p0 : Nat) (p1 : Int32) (p2 : Int32) (p3 : Int32) (p4 : Nat) (p5 : Nat) (p6 : Nat) (p7 : Nat) (p8 : Nat) (p9 : Nat) (p10 : Nat) (p11 : Nat) (h : KH) : kM yL_step cL_step 16 (some .boolean) 10 9 151 (fun x : Int32 => some (.inl x)) [.inr (.inr (some p0)), .inl p1, .inl p2, .inl p3, .inr (.inr (some p4)), .inr (.inr (some p5)), .inr (.inr (some p6)), .inr (.inr (some p7)), .inr (.inr (some p8)), .inr (.inr (some p9)), .inr (.inr (some p10)), .inr (.inr (some p11))] h (f_L_step g p0 p1 p2 p3 p4 p5 p6 p7 p8 p9 p10 p11 h) := by
  refine kM_of RL (by decide) rfl (Nat.le_of_ble_eq_true rfl) [(0, .inr (.inr (some p0))), (1, .inl p1), (2, .inl p2), (3, .inl p3), (4, .inr (.inr (some p4))), (5, .inr (.inr (some p5))), (6, .inr (.inr (some p6))), (7, .inr (.inr (some p7))), (8, .inr (.inr (some p8))), (9, .inr (.inr (some p9))), (10, .inr (.inr (some p10))), (11, .inr (.inr (some p11)))] rfl (fun X hC hN hT hmc hms hD => ?_)
  unfold f_L_step
  refine kj_iloadn hC 1 dL_step_0 rfl rfl ?_
  refine kj_iconst (v := 5) hC dL_step_1 (by decide) ?_
  refine kj_icmp_ge (tgt := 50) hC dL_step_2 (by decide) (fun q1 => ?_) (fun q1 => ?_)
  · refine kj_iloadn hC 1 dL_step_50 rfl rfl ?_
    refine kj_bipush (v := 8) hC dL_step_51 (by decide) ?_
    refine kj_icmp_ge (tgt := 80) hC dL_step_53 (by decide) (fun q2 => ?_) (fun q2 => ?_)
    · refine kj_iloadn hC 1 dL_step_80 rfl rfl ?_
      refine kj_bipush (v := 15) hC dL_step_81 (by decide) ?_
      refine kj_icmp_ge (tgt := 115) hC dL_step_83 (by decide) (fun q3 => ?_) (fun q3 => ?_)
      · refine kj_iloadn hC 1 dL_step_115 rfl rfl ?_
        refine kj_bipush (v := 18) hC dL_step_116 (by decide) ?_
        refine kj_icmp_ge (tgt := 240) hC dL_step_118 (by decide) (fun q4 => ?_) (fun q4 => ?_)
        · refine kj_iloadn hC 1 dL_step_240 rfl rfl ?_
          refine kj_bipush (v := 20) hC dL_step_241 (by decide) ?_
          refine kj_icmp_ge (tgt := 338) hC dL_step_243 (by decide) (fun q5 => ?_) (fun q5 => ?_)
          · refine kj_iloadn hC 1 dL_step_338 rfl rfl ?_
            refine kj_bipush (v := 20) hC dL_step_339 (by decide) ?_
            refine kj_icmp_ne (tgt := 424) hC dL_step_341 (by decide) (fun q6 => ?_) (fun q6 => ?_)
            · refine kj_iloadn hC 2 dL_step_344 rfl rfl ?_
              refine kj_bipush (v := 14) hC dL_step_345 (by decide) ?_
              refine kj_irem hC dL_step_347 ?_
              refine kj_istore (L' := [(12, .inl (p2 - p2 / (14 : Int32) * (14 : Int32))), (0, .inr (.inr (some p0))), (1, .inl p1), (2, .inl p2), (3, .inl p3), (4, .inr (.inr (some p4))), (5, .inr (.inr (some p5))), (6, .inr (.inr (some p6))), (7, .inr (.inr (some p7))), (8, .inr (.inr (some p8))), (9, .inr (.inr (some p9))), (10, .inr (.inr (some p10))), (11, .inr (.inr (some p11)))]) hC dL_step_348 (by decide) rfl ?_
              refine kj_iload hC 0 dL_step_350 rfl ?_
              refine kj_iconst (v := 1) hC dL_step_352 (by decide) ?_
              refine kj_iadd hC dL_step_353 ?_
              refine kj_iloadn hC 4 dL_step_354 rfl rfl ?_
              refine kj_bipush (v := 13) hC dL_step_355 (by decide) ?_
              refine kj_irem hC dL_step_357 ?_
              refine kj_iadd hC dL_step_358 ?_
              refine kj_bipush (v := 14) hC dL_step_359 (by decide) ?_
              refine kj_irem hC dL_step_361 ?_
              refine kj_istore (L' := [(13, .inl ((((p2 - p2 / (14 : Int32) * (14 : Int32)) + (1 : Int32)) + (p3 - p3 / (13 : Int32) * (13 : Int32))) - (((p2 - p2 / (14 : Int32) * (14 : Int32)) + (1 : Int32)) + (p3 - p3 / (13 : Int32) * (13 : Int32))) / (14 : Int32) * (14 : Int32))), (12, .inl (p2 - p2 / (14 : Int32) * (14 : Int32))), (0, .inr (.inr (some p0))), (1, .inl p1), (2, .inl p2), (3, .inl p3), (4, .inr (.inr (some p4))), (5, .inr (.inr (some p5))), (6, .inr (.inr (some p6))), (7, .inr (.inr (some p7))), (8, .inr (.inr (some p8))), (9, .inr (.inr (some p9))), (10, .inr (.inr (some p10))), (11, .inr (.inr (some p11)))]) hC dL_step_362 (by decide) rfl ?_
              refine kj_aload hC 10 dL_step_364 rfl ?_
              refine kj_iload hC 1 dL_step_366 rfl ?_
              refine kj_dup2 hC dL_step_368 rfl rfl ?_
              refine kj_gAIc (c := 31) hC rfl dL_step_369 (fun x7 => ?_)
              refine kj_iconst (v := 1) hC dL_step_370 (by decide) ?_
              refine kj_iload hC 0 dL_step_371 rfl ?_
              refine kj_ishl hC dL_step_373 ?_
              refine kj_ixor hC dL_step_374 ?_
              refine kj_pAIc (c := 31) hC rfl (by decide) dL_step_375 (fun h5 => ?_)
              refine kj_aload hC 10 dL_step_376 rfl ?_
              refine kj_iload hC 0 dL_step_378 rfl ?_
              refine kj_dup2 hC dL_step_380 rfl rfl ?_
              refine kj_gAIc (c := 31) hC rfl dL_step_381 (fun x8 => ?_)
              refine kj_iconst (v := 1) hC dL_step_382 (by decide) ?_
              refine kj_iload hC 1 dL_step_383 rfl ?_
              refine kj_ishl hC dL_step_385 ?_
              refine kj_ixor hC dL_step_386 ?_
              refine kj_pAIc (c := 31) hC rfl (by decide) dL_step_387 (fun h6 => ?_)
              refine kj_aloadn hC 2 dL_step_388 rfl rfl ?_
              refine kj_iload hC 1 dL_step_389 rfl ?_
              refine kj_iload hC 0 dL_step_391 rfl ?_
              refine kj_ghost (n := 0) ?_
              refine kj_invV (ci := 9) (q := (RX9, TX9, 17)) (as := [.inl (p2 - p2 / (14 : Int32) * (14 : Int32)), .inl ((((p2 - p2 / (14 : Int32) * (14 : Int32)) + (1 : Int32)) + (p3 - p3 / (13 : Int32) * (13 : Int32))) - (((p2 - p2 / (14 : Int32) * (14 : Int32)) + (1 : Int32)) + (p3 - p3 / (13 : Int32) * (13 : Int32))) / (14 : Int32) * (14 : Int32))]) (rest := []) hC hT dL_step_393 kw672 ky_X9_alike ky2_X9_alike rfl rfl (t_zX9_alike p0 (p2 - p2 / (14 : Int32) * (14 : Int32)) ((((p2 - p2 / (14 : Int32) * (14 : Int32)) + (1 : Int32)) + (p3 - p3 / (13 : Int32) * (13 : Int32))) - (((p2 - p2 / (14 : Int32) * (14 : Int32)) + (1 : Int32)) + (p3 - p3 / (13 : Int32) * (13 : Int32))) / (14 : Int32) * (14 : Int32)) (sX h6 (0))) rfl rfl (Nat.le_of_ble_eq_true rfl) ⟨by rw [hD]; decide, by decide⟩ ⟨by rw [hmc]; exact Nat.le_of_ble_eq_true rfl, by rw [hms]; exact Nat.le_of_ble_eq_true rfl⟩ (fun x9 h7 => ?_)
              refine kj_norm (st' := [.inl x9]) (c' := 0) (z' := 0) rfl rfl rfl ?_
              refine kj_aload hC 10 dL_step_396 rfl ?_
              refine kj_iload hC 1 dL_step_398 rfl ?_
              refine kj_gAIc (c := 31) hC rfl dL_step_400 (fun x10 => ?_)
              refine kj_iload hC 0 dL_step_401 rfl ?_
              refine kj_ishr hC dL_step_403 ?_
              refine kj_iconst (v := 1) hC dL_step_404 (by decide) ?_
              refine kj_iand hC dL_step_405 ?_
              refine kj_iconst (v := 1) hC dL_step_406 (by decide) ?_
              refine kj_icmp_ne (tgt := 414) hC dL_step_407 (by decide) (fun q10 => ?_) (fun q10 => ?_)
              · refine kj_iconst (v := 1) hC dL_step_410 (by decide) ?_
                refine kj_goto (tgt := 415) hC dL_step_411 (by decide) ?_
                exact kj_sub [] rfl (t_L_step_b415 g hC hN hT hmc hms hD  1 x9 h7)
              · refine kj_iconst (v := 0) hC dL_step_414 (by decide) ?_
                exact kj_sub [] rfl (t_L_step_b415 g hC hN hT hmc hms hD  0 x9 h7)
            · refine kj_iloadn hC 1 dL_step_424 rfl rfl ?_
              refine kj_bipush (v := 21) hC dL_step_425 (by decide) ?_
              refine kj_icmp_ne (tgt := 463) hC dL_step_427 (by decide) (fun q7 => ?_) (fun q7 => ?_)
              · refine kj_aload hC 9 dL_step_430 rfl ?_
                refine kj_iconst (v := 1) hC dL_step_432 (by decide) ?_
                refine kj_gAIc (c := 31) hC rfl dL_step_433 (fun x4 => ?_)
                refine kj_istore (L' := [(12, .inl x4), (0, .inr (.inr (some p0))), (1, .inl p1), (2, .inl p2), (3, .inl p3), (4, .inr (.inr (some p4))), (5, .inr (.inr (some p5))), (6, .inr (.inr (some p6))), (7, .inr (.inr (some p7))), (8, .inr (.inr (some p8))), (9, .inr (.inr (some p9))), (10, .inr (.inr (some p10))), (11, .inr (.inr (some p11)))]) hC dL_step_434 (by decide) rfl ?_
                refine kj_aload hC 10 dL_step_436 rfl ?_
                refine kj_iconst (v := 1) hC dL_step_438 (by decide) ?_
                refine kj_iloadn hC 4 dL_step_439 rfl rfl ?_
                refine kj_bipush (v := 60) hC dL_step_440 (by decide) ?_
                refine kj_irem hC dL_step_442 ?_
                refine kj_pAIc (c := 31) hC rfl (by decide) dL_step_443 (fun h3 => ?_)
                refine kj_aloadn hC 1 dL_step_444 rfl rfl ?_
                refine kj_aload hC 10 dL_step_445 rfl ?_
                refine kj_iconst (v := 1) hC dL_step_447 (by decide) ?_
                refine kj_gAIc (c := 31) hC rfl dL_step_448 (fun x5 => ?_)
                refine kj_ghost (n := 0) ?_
                refine kj_invV (ci := 9) (q := (RX9, TX9, 17)) (as := [.inl x5]) (rest := []) hC hT dL_step_449 kw682 ky_X9_setPause ky2_X9_setPause rfl rfl (t_zX9_setPause p0 x5 (sX h3 (0))) rfl rfl (Nat.le_of_ble_eq_true rfl) ⟨by rw [hD]; decide, by decide⟩ ⟨by rw [hmc]; exact Nat.le_of_ble_eq_true rfl, by rw [hms]; exact Nat.le_of_ble_eq_true rfl⟩ (fun x6 h4 => ?_)
                refine kj_norm (st' := [.inl x6]) (c' := 0) (z' := 0) rfl rfl rfl ?_
                refine kj_iload hC 0 dL_step_452 rfl ?_
                refine kj_icmp_ne (tgt := 461) hC dL_step_454 (by decide) (fun q9 => ?_) (fun q9 => ?_)
                · refine kj_iconst (v := 1) hC dL_step_457 (by decide) ?_
                  refine kj_goto (tgt := 462) hC dL_step_458 (by decide) ?_
                  exact kj_sub [] rfl (t_L_step_b462 g hC hN hT hmc hms hD  1 h4)
                · refine kj_iconst (v := 0) hC dL_step_461 (by decide) ?_
                  exact kj_sub [] rfl (t_L_step_b462 g hC hN hT hmc hms hD  0 h4)
              · refine kj_aload hC 11 dL_step_463 rfl ?_
                refine kj_iloadn hC 2 dL_step_465 rfl rfl ?_
                refine kj_iconst (v := 4) hC dL_step_466 (by decide) ?_
                refine kj_irem hC dL_step_467 ?_
                refine kj_gAIc (c := 31) hC rfl dL_step_468 (fun x1 => ?_)
                refine kj_istore (L' := [(12, .inl x1), (0, .inr (.inr (some p0))), (1, .inl p1), (2, .inl p2), (3, .inl p3), (4, .inr (.inr (some p4))), (5, .inr (.inr (some p5))), (6, .inr (.inr (some p6))), (7, .inr (.inr (some p7))), (8, .inr (.inr (some p8))), (9, .inr (.inr (some p9))), (10, .inr (.inr (some p10))), (11, .inr (.inr (some p11)))]) hC dL_step_469 (by decide) rfl ?_
                refine kj_aload hC 12 dL_step_471 rfl ?_
                refine kj_iloadn hC 3 dL_step_473 rfl rfl ?_
                refine kj_iconst (v := 4) hC dL_step_474 (by decide) ?_
                refine kj_irem hC dL_step_475 ?_
                refine kj_iloadn hC 4 dL_step_476 rfl rfl ?_
                refine kj_bipush (v := 51) hC dL_step_477 (by decide) ?_
                refine kj_irem hC dL_step_479 ?_
                refine kj_pAIc (c := 31) hC rfl (by decide) dL_step_480 (fun h1 => ?_)
                refine kj_aloadn hC 1 dL_step_481 rfl rfl ?_
                refine kj_iloadn hC 3 dL_step_482 rfl rfl ?_
                refine kj_iconst (v := 4) hC dL_step_483 (by decide) ?_
                refine kj_irem hC dL_step_484 ?_
                refine kj_aload hC 12 dL_step_485 rfl ?_
                refine kj_iloadn hC 3 dL_step_487 rfl rfl ?_
                refine kj_iconst (v := 4) hC dL_step_488 (by decide) ?_
                refine kj_irem hC dL_step_489 ?_
                refine kj_gAIc (c := 31) hC rfl dL_step_490 (fun x2 => ?_)
                refine kj_ghost (n := 0) ?_
                refine kj_invV (ci := 9) (q := (RX9, TX9, 17)) (as := [.inl (p2 - p2 / (4 : Int32) * (4 : Int32)), .inl x2]) (rest := []) hC hT dL_step_491 kw687 ky_X9_setRate ky2_X9_setRate rfl rfl (t_zX9_setRate p0 (p2 - p2 / (4 : Int32) * (4 : Int32)) x2 (sX h1 (0))) rfl rfl (Nat.le_of_ble_eq_true rfl) ⟨by rw [hD]; decide, by decide⟩ ⟨by rw [hmc]; exact Nat.le_of_ble_eq_true rfl, by rw [hms]; exact Nat.le_of_ble_eq_true rfl⟩ (fun x3 h2 => ?_)
                refine kj_norm (st' := [.inl x3]) (c' := 0) (z' := 0) rfl rfl rfl ?_
                refine kj_iload hC 0 dL_step_494 rfl ?_
                refine kj_icmp_ne (tgt := 503) hC dL_step_496 (by decide) (fun q8 => ?_) (fun q8 => ?_)
                · refine kj_iconst (v := 1) hC dL_step_499 (by decide) ?_
                  refine kj_goto (tgt := 504) hC dL_step_500 (by decide) ?_
                  exact kj_sub [] rfl (t_L_step_b504 g hC hN hT hmc hms hD  1 h2)
                · refine kj_iconst (v := 0) hC dL_step_503 (by decide) ?_
                  exact kj_sub [] rfl (t_L_step_b504 g hC hN hT hmc hms hD  0 h2)
          · refine kj_iconst (v := 1) hC dL_step_246 (by decide) ?_
            refine kj_iloadn hC 3 dL_step_247 rfl rfl ?_
            refine kj_iloadn hC 3 dL_step_248 rfl rfl ?_
            refine kj_iconst (v := 5) hC dL_step_249 (by decide) ?_
            refine kj_irem hC dL_step_250 ?_
            refine kj_if_ne (tgt := 260) hC dL_step_251 (by decide) (fun q11 => ?_) (fun q11 => ?_)
            · refine kj_sipush (v := 2000) hC dL_step_254 (by decide) ?_
              refine kj_goto (tgt := 262) hC dL_step_257 (by decide) ?_
              exact kj_sub [0, 9] rfl (t_L_step_b262 g hC hN hT hmc hms hD  p0 p9 2000 p3 1 h)
            · refine kj_bipush (v := 40) hC dL_step_260 (by decide) ?_
              exact kj_sub [0, 9] rfl (t_L_step_b262 g hC hN hT hmc hms hD  p0 p9 40 p3 1 h)
        · refine kj_iloadn hC 2 dL_step_121 rfl rfl ?_
          refine kj_bipush (v := 8) hC dL_step_122 (by decide) ?_
          refine kj_irem hC dL_step_124 ?_
          refine kj_istore (L' := [(12, .inl (p2 - p2 / (8 : Int32) * (8 : Int32))), (0, .inr (.inr (some p0))), (1, .inl p1), (2, .inl p2), (3, .inl p3), (4, .inr (.inr (some p4))), (5, .inr (.inr (some p5))), (6, .inr (.inr (some p6))), (7, .inr (.inr (some p7))), (8, .inr (.inr (some p8))), (9, .inr (.inr (some p9))), (10, .inr (.inr (some p10))), (11, .inr (.inr (some p11)))]) hC dL_step_125 (by decide) rfl ?_
          refine kj_iload hC 0 dL_step_127 rfl ?_
          refine kj_iconst (v := 1) hC dL_step_129 (by decide) ?_
          refine kj_iadd hC dL_step_130 ?_
          refine kj_iloadn hC 3 dL_step_131 rfl rfl ?_
          refine kj_bipush (v := 8) hC dL_step_132 (by decide) ?_
          refine kj_idiv hC dL_step_134 ?_
          refine kj_bipush (v := 7) hC dL_step_135 (by decide) ?_
          refine kj_irem hC dL_step_137 ?_
          refine kj_iadd hC dL_step_138 ?_
          refine kj_bipush (v := 8) hC dL_step_139 (by decide) ?_
          refine kj_irem hC dL_step_141 ?_
          refine kj_istore (L' := [(13, .inl ((((p2 - p2 / (8 : Int32) * (8 : Int32)) + (1 : Int32)) + ((p2 / (8 : Int32)) - (p2 / (8 : Int32)) / (7 : Int32) * (7 : Int32))) - (((p2 - p2 / (8 : Int32) * (8 : Int32)) + (1 : Int32)) + ((p2 / (8 : Int32)) - (p2 / (8 : Int32)) / (7 : Int32) * (7 : Int32))) / (8 : Int32) * (8 : Int32))), (12, .inl (p2 - p2 / (8 : Int32) * (8 : Int32))), (0, .inr (.inr (some p0))), (1, .inl p1), (2, .inl p2), (3, .inl p3), (4, .inr (.inr (some p4))), (5, .inr (.inr (some p5))), (6, .inr (.inr (some p6))), (7, .inr (.inr (some p7))), (8, .inr (.inr (some p8))), (9, .inr (.inr (some p9))), (10, .inr (.inr (some p10))), (11, .inr (.inr (some p11)))]) hC dL_step_142 (by decide) rfl ?_
          refine kj_iloadn hC 5 dL_step_144 rfl rfl ?_
          refine kj_bipush (v := 6) hC dL_step_145 (by decide) ?_
          refine kj_irem hC dL_step_147 ?_
          refine kj_if_ne (tgt := 155) hC dL_step_148 (by decide) (fun q12 => ?_) (fun q12 => ?_)
          · refine kj_iconst (v := 0) hC dL_step_151 (by decide) ?_
            refine kj_goto (tgt := 178) hC dL_step_152 (by decide) ?_
            exact kj_sub [2, 12, 1, 0] rfl (t_L_step_b178 g hC hN hT hmc hms hD  p0 p10 (p2 - p2 / (8 : Int32) * (8 : Int32)) ((((p2 - p2 / (8 : Int32) * (8 : Int32)) + (1 : Int32)) + ((p2 / (8 : Int32)) - (p2 / (8 : Int32)) / (7 : Int32) * (7 : Int32))) - (((p2 - p2 / (8 : Int32) * (8 : Int32)) + (1 : Int32)) + ((p2 / (8 : Int32)) - (p2 / (8 : Int32)) / (7 : Int32) * (7 : Int32))) / (8 : Int32) * (8 : Int32)) 0 h)
          · refine kj_iconst (v := 1) hC dL_step_155 (by decide) ?_
            refine kj_iloadn hC 5 dL_step_156 rfl rfl ?_
            refine kj_bipush (v := 6) hC dL_step_157 (by decide) ?_
            refine kj_idiv hC dL_step_159 ?_
            refine kj_iloadn hC 5 dL_step_160 rfl rfl ?_
            refine kj_bipush (v := 6) hC dL_step_161 (by decide) ?_
            refine kj_irem hC dL_step_163 ?_
            refine kj_iconst (v := 1) hC dL_step_164 (by decide) ?_
            refine kj_icmp_ne (tgt := 174) hC dL_step_165 (by decide) (fun q13 => ?_) (fun q13 => ?_)
            · refine kj_sipush (v := 200) hC dL_step_168 (by decide) ?_
              refine kj_goto (tgt := 176) hC dL_step_171 (by decide) ?_
              exact kj_sub [2, 12, 1, 0] rfl (t_L_step_b176 g hC hN hT hmc hms hD  p0 p10 (p2 - p2 / (8 : Int32) * (8 : Int32)) ((((p2 - p2 / (8 : Int32) * (8 : Int32)) + (1 : Int32)) + ((p2 / (8 : Int32)) - (p2 / (8 : Int32)) / (7 : Int32) * (7 : Int32))) - (((p2 - p2 / (8 : Int32) * (8 : Int32)) + (1 : Int32)) + ((p2 / (8 : Int32)) - (p2 / (8 : Int32)) / (7 : Int32) * (7 : Int32))) / (8 : Int32) * (8 : Int32)) 200 (p3 / (6 : Int32)) 1 h)
            · refine kj_bipush (v := 20) hC dL_step_174 (by decide) ?_
              exact kj_sub [2, 12, 1, 0] rfl (t_L_step_b176 g hC hN hT hmc hms hD  p0 p10 (p2 - p2 / (8 : Int32) * (8 : Int32)) ((((p2 - p2 / (8 : Int32) * (8 : Int32)) + (1 : Int32)) + ((p2 / (8 : Int32)) - (p2 / (8 : Int32)) / (7 : Int32) * (7 : Int32))) - (((p2 - p2 / (8 : Int32) * (8 : Int32)) + (1 : Int32)) + ((p2 / (8 : Int32)) - (p2 / (8 : Int32)) / (7 : Int32) * (7 : Int32))) / (8 : Int32) * (8 : Int32)) 20 (p3 / (6 : Int32)) 1 h)
      · refine kj_aloadn hC 0 dL_step_86 rfl rfl ?_
        refine kj_iloadn hC 1 dL_step_87 rfl rfl ?_
        refine kj_bipush (v := 13) hC dL_step_88 (by decide) ?_
        refine kj_icmp_ge (tgt := 97) hC dL_step_90 (by decide) (fun q14 => ?_) (fun q14 => ?_)
        · refine kj_iloadn hC 1 dL_step_97 rfl rfl ?_
          refine kj_bipush (v := 10) hC dL_step_98 (by decide) ?_
          refine kj_isub hC dL_step_100 ?_
          exact kj_sub [2, 3, 4, 5, 6, 9] rfl (t_L_step_b101 g hC hN hT hmc hms hD  p2 p3 p4 p5 p6 p9 (p1 - (10 : Int32)) p0 h)
        · refine kj_iconst (v := 0) hC dL_step_93 (by decide) ?_
          refine kj_goto (tgt := 101) hC dL_step_94 (by decide) ?_
          exact kj_sub [2, 3, 4, 5, 6, 9] rfl (t_L_step_b101 g hC hN hT hmc hms hD  p2 p3 p4 p5 p6 p9 0 p0 h)
    · refine kj_aloadn hC 0 dL_step_56 rfl rfl ?_
      refine kj_iloadn hC 1 dL_step_57 rfl rfl ?_
      refine kj_bipush (v := 7) hC dL_step_58 (by decide) ?_
      refine kj_icmp_ge (tgt := 67) hC dL_step_60 (by decide) (fun q15 => ?_) (fun q15 => ?_)
      · refine kj_iconst (v := 1) hC dL_step_67 (by decide) ?_
        exact kj_sub [2, 3, 4, 7, 9] rfl (t_L_step_b68 g hC hN hT hmc hms hD  p2 p3 p4 p7 p9 1 p0 h)
      · refine kj_iconst (v := 0) hC dL_step_63 (by decide) ?_
        refine kj_goto (tgt := 68) hC dL_step_64 (by decide) ?_
        exact kj_sub [2, 3, 4, 7, 9] rfl (t_L_step_b68 g hC hN hT hmc hms hD  p2 p3 p4 p7 p9 0 p0 h)
  · refine kj_aloadn hC 0 dL_step_5 rfl rfl ?_
    refine kj_iloadn hC 1 dL_step_6 rfl rfl ?_
    refine kj_iconst (v := 3) hC dL_step_7 (by decide) ?_
    refine kj_icmp_ge (tgt := 15) hC dL_step_8 (by decide) (fun q16 => ?_) (fun q16 => ?_)
    · refine kj_iloadn hC 1 dL_step_15 rfl rfl ?_
      refine kj_iconst (v := 3) hC dL_step_16 (by decide) ?_
      refine kj_icmp_ne (tgt := 31) hC dL_step_17 (by decide) (fun q17 => ?_) (fun q17 => ?_)
      · refine kj_iconst (v := 1) hC dL_step_20 (by decide) ?_
        refine kj_iloadn hC 3 dL_step_21 rfl rfl ?_
        refine kj_bipush (v := 7) hC dL_step_22 (by decide) ?_
        refine kj_idiv hC dL_step_24 ?_
        refine kj_iconst (v := 2) hC dL_step_25 (by decide) ?_
        refine kj_irem hC dL_step_26 ?_
        refine kj_iadd hC dL_step_27 ?_
        refine kj_goto (tgt := 42) hC dL_step_28 (by decide) ?_
        exact kj_sub [2, 3, 4] rfl (t_L_step_b42 g hC hN hT hmc hms hD  p2 p3 p4 ((1 : Int32) + ((p3 / (7 : Int32)) - (p3 / (7 : Int32)) / (2 : Int32) * (2 : Int32))) p0 h)
      · refine kj_iloadn hC 3 dL_step_31 rfl rfl ?_
        refine kj_iconst (v := 2) hC dL_step_32 (by decide) ?_
        refine kj_irem hC dL_step_33 ?_
        refine kj_if_ne (tgt := 41) hC dL_step_34 (by decide) (fun q18 => ?_) (fun q18 => ?_)
        · refine kj_iconst (v := 3) hC dL_step_37 (by decide) ?_
          refine kj_goto (tgt := 42) hC dL_step_38 (by decide) ?_
          exact kj_sub [2, 3, 4] rfl (t_L_step_b42 g hC hN hT hmc hms hD  p2 p3 p4 3 p0 h)
        · refine kj_iconst (v := 0) hC dL_step_41 (by decide) ?_
          exact kj_sub [2, 3, 4] rfl (t_L_step_b42 g hC hN hT hmc hms hD  p2 p3 p4 0 p0 h)
    · refine kj_iconst (v := 0) hC dL_step_11 (by decide) ?_
      refine kj_goto (tgt := 42) hC dL_step_12 (by decide) ?_
      exact kj_sub [2, 3, 4] rfl (t_L_step_b42 g hC hN hT hmc hms hD  p2 p3 p4 0 p0 h)
set_option maxHeartbeats 4000000 in
set_option maxRecDepth 100000 in
theorem t_L_keeper_b373 {X : KX} (hC : kC X RL cL_keeper 15 (some .boolean)) (hN : (xme X).name = yL_keeper.name) (hT : kT0 X) (hmc : xmc X = 1564) (hms : xms X = 25412) (hD : xD X = 11) (c z : Nat) (hc : c + 19 ≤ 1564) (hz : z + 309 ≤ 25412) (rc86 : Nat → Int32 → Nat → Nat → Nat → Nat → Nat → Nat → Nat → Nat → Nat → Int32 → KH → KO Int32) (hr86 : ∀ (v0 : Nat) (v1 : Int32) (v2 : Nat) (v3 : Nat) (v4 : Nat) (v5 : Nat) (v6 : Nat) (v7 : Nat) (v8 : Nat) (v9 : Nat) (v10 : Nat) (v11 : Int32) (h : KH), kJ X (fun x : Int32 => some (.inl x)) 15 (c + 19) (z + 309) [(0, .inr (.inr (some v0))), (1, .inl v1), (2, .inr (.inr (some v2))), (3, .inr (.inr (some v3))), (4, .inr (.inr (some v4))), (5, .inr (.inr (some v5))), (6, .inr (.inr (some v6))), (7, .inr (.inr (some v7))), (8, .inr (.inr (some v8))), (9, .inr (.inr (some v9))), (10, .inr (.inr (some v10))), (11, .inl v11)] [] 86 h (rc86 v0 v1 v2 v3 v4 v5 v6 v7 v8 v9 v10 v11 h)) (v0 : Nat) (v1 : Int32) (v2 : Nat) (v3 : Nat) (v4 : Nat) (v5 : Nat) (v6 : Nat) (v7 : Nat) (v8 : Nat) (v9 : Nat) (v10 : Nat) (v11 : Int32) (h : KH) : kJ X (fun x : Int32 => some (.inl x)) 15 (c + 19) (z + 309) [(0, .inr (.inr (some v0))), (1, .inl v1), (2, .inr (.inr (some v2))), (3, .inr (.inr (some v3))), (4, .inr (.inr (some v4))), (5, .inr (.inr (some v5))), (6, .inr (.inr (some v6))), (7, .inr (.inr (some v7))), (8, .inr (.inr (some v8))), (9, .inr (.inr (some v9))), (10, .inr (.inr (some v10))), (11, .inl v11)] [] 373 h (L_keeper_b373 rc86 v0 v1 v2 v3 v4 v5 v6 v7 v8 v9 v10 v11 h) := by
  unfold L_keeper_b373
  refine kj_iinc (v := v11 + 1) (L' := [(11, .inl (v11 + 1)), (0, .inr (.inr (some v0))), (1, .inl v1), (2, .inr (.inr (some v2))), (3, .inr (.inr (some v3))), (4, .inr (.inr (some v4))), (5, .inr (.inr (some v5))), (6, .inr (.inr (some v6))), (7, .inr (.inr (some v7))), (8, .inr (.inr (some v8))), (9, .inr (.inr (some v9))), (10, .inr (.inr (some v10)))]) hC 11 dL_keeper_373 rfl rfl (by decide) rfl ?_
  refine kj_goto (tgt := 86) hC dL_keeper_376 (by decide) ?_
  exact kj_sub [1, 2, 3, 4, 5, 6, 7, 8, 9, 10, 11, 0] rfl (hr86 v0 v1 v2 v3 v4 v5 v6 v7 v8 v9 v10 (v11 + 1) h)
set_option maxHeartbeats 4000000 in
set_option maxRecDepth 100000 in
theorem t_L_keeper_b371 {X : KX} (hC : kC X RL cL_keeper 15 (some .boolean)) (hN : (xme X).name = yL_keeper.name) (hT : kT0 X) (hmc : xmc X = 1564) (hms : xms X = 25412) (hD : xD X = 11)  (h : KH) : kJ X (fun x : Int32 => some (.inl x)) 15 1564 25412 [] [] 371 h (L_keeper_b371   h) := by
  unfold L_keeper_b371
  refine kj_iconst (v := 0) hC dL_keeper_371 (by decide) ?_
  refine kj_fin hmc hms ?_
  exact kj_zreturn hC dL_keeper_372
set_option maxHeartbeats 4000000 in
set_option maxRecDepth 100000 in
theorem t_L_keeper_b331 {X : KX} (hC : kC X RL cL_keeper 15 (some .boolean)) (hN : (xme X).name = yL_keeper.name) (hT : kT0 X) (hmc : xmc X = 1564) (hms : xms X = 25412) (hD : xD X = 11) (c z : Nat) (hc : c + 19 ≤ 1564) (hz : z + 309 ≤ 25412) (rc86 : Nat → Int32 → Nat → Nat → Nat → Nat → Nat → Nat → Nat → Nat → Nat → Int32 → KH → KO Int32) (hr86 : ∀ (v0 : Nat) (v1 : Int32) (v2 : Nat) (v3 : Nat) (v4 : Nat) (v5 : Nat) (v6 : Nat) (v7 : Nat) (v8 : Nat) (v9 : Nat) (v10 : Nat) (v11 : Int32) (h : KH), kJ X (fun x : Int32 => some (.inl x)) 15 (c + 19) (z + 309) [(0, .inr (.inr (some v0))), (1, .inl v1), (2, .inr (.inr (some v2))), (3, .inr (.inr (some v3))), (4, .inr (.inr (some v4))), (5, .inr (.inr (some v5))), (6, .inr (.inr (some v6))), (7, .inr (.inr (some v7))), (8, .inr (.inr (some v8))), (9, .inr (.inr (some v9))), (10, .inr (.inr (some v10))), (11, .inl v11)] [] 86 h (rc86 v0 v1 v2 v3 v4 v5 v6 v7 v8 v9 v10 v11 h)) (v0 : Nat) (v1 : Int32) (v2 : Nat) (v3 : Nat) (v4 : Nat) (v5 : Nat) (v6 : Nat) (v7 : Nat) (v8 : Nat) (v9 : Nat) (v10 : Nat) (v11 : Int32) (v13 : Int32) (h : KH) : kJ X (fun x : Int32 => some (.inl x)) 15 (c + 10) (z + 158) [(0, .inr (.inr (some v0))), (1, .inl v1), (2, .inr (.inr (some v2))), (3, .inr (.inr (some v3))), (4, .inr (.inr (some v4))), (5, .inr (.inr (some v5))), (6, .inr (.inr (some v6))), (7, .inr (.inr (some v7))), (8, .inr (.inr (some v8))), (9, .inr (.inr (some v9))), (10, .inr (.inr (some v10))), (11, .inl v11), (13, .inl v13)] [] 331 h (L_keeper_b331 rc86 v0 v1 v2 v3 v4 v5 v6 v7 v8 v9 v10 v11 v13 h) := by
  unfold L_keeper_b331
  refine kj_iload hC 11 dL_keeper_331 rfl ?_
  refine kj_iconst (v := 5) hC dL_keeper_333 (by decide) ?_
  refine kj_irem hC dL_keeper_334 ?_
  refine kj_iconst (v := 4) hC dL_keeper_335 (by decide) ?_
  refine kj_icmp_ne (tgt := 373) hC dL_keeper_336 (by decide) (fun q1 => ?_) (fun q1 => ?_)
  · refine kj_aload hC 8 dL_keeper_339 rfl ?_
    refine kj_iconst (v := 2) hC dL_keeper_341 (by decide) ?_
    refine kj_gAIc (c := 31) hC rfl dL_keeper_342 (fun x1 => ?_)
    refine kj_if_le (tgt := 373) hC dL_keeper_343 (by decide) (fun q2 => ?_) (fun q2 => ?_)
    · refine kj_widen (k := (c + 19)) (n := (z + 309)) (by omega) (by omega) ?_
      exact kj_sub [0, 1, 2, 3, 4, 5, 6, 7, 8, 9, 10, 11] rfl (t_L_keeper_b373 hC hN hT hmc hms hD c z hc hz rc86 hr86 v0 v1 v2 v3 v4 v5 v6 v7 v8 v9 v10 v11 h)
    · refine kj_aloadn hC 2 dL_keeper_346 rfl rfl ?_
      refine kj_aload hC 5 dL_keeper_347 rfl ?_
      refine kj_aload hC 6 dL_keeper_349 rfl ?_
      refine kj_aload hC 8 dL_keeper_351 rfl ?_
      refine kj_aload hC 10 dL_keeper_353 rfl ?_
      refine kj_iload hC 12 dL_keeper_355 rfl ?_
      refine kj_bipush (v := 7) hC dL_keeper_357 (by decide) ?_
      refine kj_idiv hC dL_keeper_359 ?_
      refine kj_aload hC 8 dL_keeper_360 rfl ?_
      refine kj_iconst (v := 2) hC dL_keeper_362 (by decide) ?_
      refine kj_gAIc (c := 31) hC rfl dL_keeper_363 (fun x2 => ?_)
      refine kj_irem hC dL_keeper_364 ?_
      refine kj_invS (as := [.inr (.inr (some v2)), .inr (.inr (some v5)), .inr (.inr (some v6)), .inr (.inr (some v8)), .inr (.inr (some v10)), .inl ((v13 / (7 : Int32)) - (v13 / (7 : Int32)) / x2 * x2)]) (rest := []) hC hT dL_keeper_365 kw811 ky_L_areTrips ky2_L_areTrips (t_L_areTrips v2 v5 v6 v8 v10 ((v13 / (7 : Int32)) - (v13 / (7 : Int32)) / x2 * x2) h) rfl rfl (Nat.le_of_ble_eq_true rfl) ⟨by rw [hD]; decide, by decide⟩ ⟨by rw [hmc]; omega, by rw [hms]; omega⟩ (fun x3 h1 => ?_)
      refine kj_norm (st' := [.inl x3]) (c' := (c + 19)) (z' := (z + 309)) rfl rfl rfl ?_
      refine kj_if_ne (tgt := 373) hC dL_keeper_368 (by decide) (fun q3 => ?_) (fun q3 => ?_)
      · refine kj_widen (k := 1564) (n := 25412) (by omega) (by omega) ?_
        exact kj_sub [] rfl (t_L_keeper_b371 hC hN hT hmc hms hD   h1)
      · exact kj_sub [0, 1, 2, 3, 4, 5, 6, 7, 8, 9, 10, 11] rfl (t_L_keeper_b373 hC hN hT hmc hms hD c z hc hz rc86 hr86 v0 v1 v2 v3 v4 v5 v6 v7 v8 v9 v10 v11 h1)
  · refine kj_widen (k := (c + 19)) (n := (z + 309)) (by omega) (by omega) ?_
    exact kj_sub [0, 1, 2, 3, 4, 5, 6, 7, 8, 9, 10, 11] rfl (t_L_keeper_b373 hC hN hT hmc hms hD c z hc hz rc86 hr86 v0 v1 v2 v3 v4 v5 v6 v7 v8 v9 v10 v11 h)
set_option maxHeartbeats 4000000 in
set_option maxRecDepth 100000 in
theorem t_L_keeper_b325 {X : KX} (hC : kC X RL cL_keeper 15 (some .boolean)) (hN : (xme X).name = yL_keeper.name) (hT : kT0 X) (hmc : xmc X = 1564) (hms : xms X = 25412) (hD : xD X = 11) (c z : Nat) (hc : c + 19 ≤ 1564) (hz : z + 309 ≤ 25412) (rc86 : Nat → Int32 → Nat → Nat → Nat → Nat → Nat → Nat → Nat → Nat → Nat → Int32 → KH → KO Int32) (hr86 : ∀ (v0 : Nat) (v1 : Int32) (v2 : Nat) (v3 : Nat) (v4 : Nat) (v5 : Nat) (v6 : Nat) (v7 : Nat) (v8 : Nat) (v9 : Nat) (v10 : Nat) (v11 : Int32) (h : KH), kJ X (fun x : Int32 => some (.inl x)) 15 (c + 19) (z + 309) [(0, .inr (.inr (some v0))), (1, .inl v1), (2, .inr (.inr (some v2))), (3, .inr (.inr (some v3))), (4, .inr (.inr (some v4))), (5, .inr (.inr (some v5))), (6, .inr (.inr (some v6))), (7, .inr (.inr (some v7))), (8, .inr (.inr (some v8))), (9, .inr (.inr (some v9))), (10, .inr (.inr (some v10))), (11, .inl v11)] [] 86 h (rc86 v0 v1 v2 v3 v4 v5 v6 v7 v8 v9 v10 v11 h)) (v0 : Nat) (v1 : Int32) (v2 : Nat) (v3 : Nat) (v4 : Nat) (v5 : Nat) (v6 : Nat) (v7 : Nat) (v8 : Nat) (v9 : Nat) (v10 : Nat) (v11 : Int32) (v13 : Int32) (s0 : Int32) (s1 : Nat) (s2 : Nat) (h : KH) : kJ X (fun x : Int32 => some (.inl x)) 15 (c + 9) (z + 151) [(0, .inr (.inr (some v0))), (1, .inl v1), (2, .inr (.inr (some v2))), (3, .inr (.inr (some v3))), (4, .inr (.inr (some v4))), (5, .inr (.inr (some v5))), (6, .inr (.inr (some v6))), (7, .inr (.inr (some v7))), (8, .inr (.inr (some v8))), (9, .inr (.inr (some v9))), (10, .inr (.inr (some v10))), (11, .inl v11), (13, .inl v13)] [.inl s0, .inr (.inr (some s1)), .inr (.inr (some s2))] 325 h (L_keeper_b325 rc86 v0 v1 v2 v3 v4 v5 v6 v7 v8 v9 v10 v11 v13 s0 s1 s2 h) := by
  unfold L_keeper_b325
  refine kj_ghost (n := 700 + v11.toNatClampNeg) ?_
  refine kj_invS (as := [.inr (.inr (some s2)), .inr (.inr (some s1)), .inl s0]) (rest := []) hC hT dL_keeper_325 kw759 ky_L_areBills ky2_L_areBills (t_L_areBills s2 s1 s0 (sX h (700 + v11.toNatClampNeg))) rfl rfl (Nat.le_of_ble_eq_true rfl) ⟨by rw [hD]; decide, by decide⟩ ⟨by rw [hmc]; omega, by rw [hms]; omega⟩ (fun x1 h1 => ?_)
  refine kj_norm (st' := [.inl x1]) (c' := (c + 10)) (z' := (z + 158)) rfl rfl rfl ?_
  refine kj_if_eq (tgt := 371) hC dL_keeper_328 (by decide) (fun q1 => ?_) (fun q1 => ?_)
  · refine kj_widen (k := 1564) (n := 25412) (by omega) (by omega) ?_
    exact kj_sub [] rfl (t_L_keeper_b371 hC hN hT hmc hms hD   h1)
  · exact kj_sub [0, 1, 2, 3, 4, 5, 6, 7, 8, 9, 10, 11, 12] rfl (t_L_keeper_b331 hC hN hT hmc hms hD c z hc hz rc86 hr86 v0 v1 v2 v3 v4 v5 v6 v7 v8 v9 v10 v11 v13 h1)
set_option maxHeartbeats 4000000 in
set_option maxRecDepth 100000 in
theorem t_L_keeper_b288 {X : KX} (hC : kC X RL cL_keeper 15 (some .boolean)) (hN : (xme X).name = yL_keeper.name) (hT : kT0 X) (hmc : xmc X = 1564) (hms : xms X = 25412) (hD : xD X = 11) (c z : Nat) (hc : c + 19 ≤ 1564) (hz : z + 309 ≤ 25412) (rc86 : Nat → Int32 → Nat → Nat → Nat → Nat → Nat → Nat → Nat → Nat → Nat → Int32 → KH → KO Int32) (hr86 : ∀ (v0 : Nat) (v1 : Int32) (v2 : Nat) (v3 : Nat) (v4 : Nat) (v5 : Nat) (v6 : Nat) (v7 : Nat) (v8 : Nat) (v9 : Nat) (v10 : Nat) (v11 : Int32) (h : KH), kJ X (fun x : Int32 => some (.inl x)) 15 (c + 19) (z + 309) [(0, .inr (.inr (some v0))), (1, .inl v1), (2, .inr (.inr (some v2))), (3, .inr (.inr (some v3))), (4, .inr (.inr (some v4))), (5, .inr (.inr (some v5))), (6, .inr (.inr (some v6))), (7, .inr (.inr (some v7))), (8, .inr (.inr (some v8))), (9, .inr (.inr (some v9))), (10, .inr (.inr (some v10))), (11, .inl v11)] [] 86 h (rc86 v0 v1 v2 v3 v4 v5 v6 v7 v8 v9 v10 v11 h)) (v0 : Nat) (v1 : Int32) (v2 : Nat) (v3 : Nat) (v4 : Nat) (v5 : Nat) (v6 : Nat) (v7 : Nat) (v8 : Nat) (v9 : Nat) (v10 : Nat) (v11 : Int32) (v13 : Int32) (h : KH) : kJ X (fun x : Int32 => some (.inl x)) 15 (c + 9) (z + 151) [(0, .inr (.inr (some v0))), (1, .inl v1), (2, .inr (.inr (some v2))), (3, .inr (.inr (some v3))), (4, .inr (.inr (some v4))), (5, .inr (.inr (some v5))), (6, .inr (.inr (some v6))), (7, .inr (.inr (some v7))), (8, .inr (.inr (some v8))), (9, .inr (.inr (some v9))), (10, .inr (.inr (some v10))), (11, .inl v11), (13, .inl v13)] [] 288 h (L_keeper_b288 rc86 v0 v1 v2 v3 v4 v5 v6 v7 v8 v9 v10 v11 v13 h) := by
  unfold L_keeper_b288
  refine kj_iload hC 11 dL_keeper_288 rfl ?_
  refine kj_bipush (v := 6) hC dL_keeper_290 (by decide) ?_
  refine kj_irem hC dL_keeper_292 ?_
  refine kj_iconst (v := 5) hC dL_keeper_293 (by decide) ?_
  refine kj_icmp_ne (tgt := 331) hC dL_keeper_294 (by decide) (fun q1 => ?_) (fun q1 => ?_)
  · refine kj_aloadn hC 2 dL_keeper_297 rfl rfl ?_
    refine kj_aloadn hC 3 dL_keeper_298 rfl rfl ?_
    refine kj_aload hC 8 dL_keeper_299 rfl ?_
    refine kj_invS (as := [.inr (.inr (some v2)), .inr (.inr (some v3)), .inr (.inr (some v8))]) (rest := []) hC hT dL_keeper_301 kw749 ky_L_areOrdered ky2_L_areOrdered (t_L_areOrdered v2 v3 v8 h) rfl rfl (Nat.le_of_ble_eq_true rfl) ⟨by rw [hD]; decide, by decide⟩ ⟨by rw [hmc]; omega, by rw [hms]; omega⟩ (fun x1 h1 => ?_)
    refine kj_norm (st' := [.inl x1]) (c' := (c + 9)) (z' := (z + 151)) rfl rfl rfl ?_
    refine kj_if_eq (tgt := 371) hC dL_keeper_304 (by decide) (fun q2 => ?_) (fun q2 => ?_)
    · refine kj_widen (k := 1564) (n := 25412) (by omega) (by omega) ?_
      exact kj_sub [] rfl (t_L_keeper_b371 hC hN hT hmc hms hD   h1)
    · refine kj_aloadn hC 2 dL_keeper_307 rfl rfl ?_
      refine kj_aload hC 8 dL_keeper_308 rfl ?_
      refine kj_iload hC 11 dL_keeper_310 rfl ?_
      refine kj_bipush (v := 12) hC dL_keeper_312 (by decide) ?_
      refine kj_irem hC dL_keeper_314 ?_
      refine kj_bipush (v := 11) hC dL_keeper_315 (by decide) ?_
      refine kj_icmp_ne (tgt := 324) hC dL_keeper_317 (by decide) (fun q3 => ?_) (fun q3 => ?_)
      · refine kj_iconst (v := 1) hC dL_keeper_320 (by decide) ?_
        refine kj_goto (tgt := 325) hC dL_keeper_321 (by decide) ?_
        exact kj_sub [0, 1, 2, 3, 4, 5, 6, 7, 8, 9, 10, 11, 12] rfl (t_L_keeper_b325 hC hN hT hmc hms hD c z hc hz rc86 hr86 v0 v1 v2 v3 v4 v5 v6 v7 v8 v9 v10 v11 v13 1 v8 v2 h1)
      · refine kj_iconst (v := 0) hC dL_keeper_324 (by decide) ?_
        exact kj_sub [0, 1, 2, 3, 4, 5, 6, 7, 8, 9, 10, 11, 12] rfl (t_L_keeper_b325 hC hN hT hmc hms hD c z hc hz rc86 hr86 v0 v1 v2 v3 v4 v5 v6 v7 v8 v9 v10 v11 v13 0 v8 v2 h1)
  · refine kj_widen (k := (c + 10)) (n := (z + 158)) (by omega) (by omega) ?_
    exact kj_sub [0, 1, 2, 3, 4, 5, 6, 7, 8, 9, 10, 11, 12] rfl (t_L_keeper_b331 hC hN hT hmc hms hD c z hc hz rc86 hr86 v0 v1 v2 v3 v4 v5 v6 v7 v8 v9 v10 v11 v13 h)
set_option maxHeartbeats 4000000 in
set_option maxRecDepth 100000 in
theorem t_L_keeper_b256 {X : KX} (hC : kC X RL cL_keeper 15 (some .boolean)) (hN : (xme X).name = yL_keeper.name) (hT : kT0 X) (hmc : xmc X = 1564) (hms : xms X = 25412) (hD : xD X = 11) (c z : Nat) (hc : c + 19 ≤ 1564) (hz : z + 309 ≤ 25412) (rc86 : Nat → Int32 → Nat → Nat → Nat → Nat → Nat → Nat → Nat → Nat → Nat → Int32 → KH → KO Int32) (hr86 : ∀ (v0 : Nat) (v1 : Int32) (v2 : Nat) (v3 : Nat) (v4 : Nat) (v5 : Nat) (v6 : Nat) (v7 : Nat) (v8 : Nat) (v9 : Nat) (v10 : Nat) (v11 : Int32) (h : KH), kJ X (fun x : Int32 => some (.inl x)) 15 (c + 19) (z + 309) [(0, .inr (.inr (some v0))), (1, .inl v1), (2, .inr (.inr (some v2))), (3, .inr (.inr (some v3))), (4, .inr (.inr (some v4))), (5, .inr (.inr (some v5))), (6, .inr (.inr (some v6))), (7, .inr (.inr (some v7))), (8, .inr (.inr (some v8))), (9, .inr (.inr (some v9))), (10, .inr (.inr (some v10))), (11, .inl v11)] [] 86 h (rc86 v0 v1 v2 v3 v4 v5 v6 v7 v8 v9 v10 v11 h)) (v0 : Nat) (v1 : Int32) (v2 : Nat) (v3 : Nat) (v4 : Nat) (v5 : Nat) (v6 : Nat) (v7 : Nat) (v8 : Nat) (v9 : Nat) (v10 : Nat) (v11 : Int32) (v13 : Int32) (h : KH) : kJ X (fun x : Int32 => some (.inl x)) 15 (c + 9) (z + 151) [(0, .inr (.inr (some v0))), (1, .inl v1), (2, .inr (.inr (some v2))), (3, .inr (.inr (some v3))), (4, .inr (.inr (some v4))), (5, .inr (.inr (some v5))), (6, .inr (.inr (some v6))), (7, .inr (.inr (some v7))), (8, .inr (.inr (some v8))), (9, .inr (.inr (some v9))), (10, .inr (.inr (some v10))), (11, .inl v11), (13, .inl v13)] [] 256 h (L_keeper_b256 rc86 v0 v1 v2 v3 v4 v5 v6 v7 v8 v9 v10 v11 v13 h) := by
  unfold L_keeper_b256
  refine kj_aload hC 8 dL_keeper_256 rfl ?_
  refine kj_iconst (v := 3) hC dL_keeper_258 (by decide) ?_
  refine kj_gAIc (c := 31) hC rfl dL_keeper_259 (fun x1 => ?_)
  refine kj_if_le (tgt := 288) hC dL_keeper_260 (by decide) (fun q1 => ?_) (fun q1 => ?_)
  · exact kj_sub [0, 1, 2, 3, 4, 5, 6, 7, 8, 9, 10, 11, 12] rfl (t_L_keeper_b288 hC hN hT hmc hms hD c z hc hz rc86 hr86 v0 v1 v2 v3 v4 v5 v6 v7 v8 v9 v10 v11 v13 h)
  · refine kj_aloadn hC 2 dL_keeper_263 rfl rfl ?_
    refine kj_aloadn hC 3 dL_keeper_264 rfl rfl ?_
    refine kj_aload hC 4 dL_keeper_265 rfl ?_
    refine kj_aload hC 5 dL_keeper_267 rfl ?_
    refine kj_aload hC 7 dL_keeper_269 rfl ?_
    refine kj_aload hC 8 dL_keeper_271 rfl ?_
    refine kj_iload hC 12 dL_keeper_273 rfl ?_
    refine kj_iconst (v := 5) hC dL_keeper_275 (by decide) ?_
    refine kj_idiv hC dL_keeper_276 ?_
    refine kj_aload hC 8 dL_keeper_277 rfl ?_
    refine kj_iconst (v := 3) hC dL_keeper_279 (by decide) ?_
    refine kj_gAIc (c := 31) hC rfl dL_keeper_280 (fun x2 => ?_)
    refine kj_irem hC dL_keeper_281 ?_
    refine kj_invS (as := [.inr (.inr (some v2)), .inr (.inr (some v3)), .inr (.inr (some v4)), .inr (.inr (some v5)), .inr (.inr (some v7)), .inr (.inr (some v8)), .inl ((v13 / (5 : Int32)) - (v13 / (5 : Int32)) / x2 * x2)]) (rest := []) hC hT dL_keeper_282 kw734 ky_L_isReading ky2_L_isReading (t_L_isReading v2 v3 v4 v5 v7 v8 ((v13 / (5 : Int32)) - (v13 / (5 : Int32)) / x2 * x2) h) rfl rfl (Nat.le_of_ble_eq_true rfl) ⟨by rw [hD]; decide, by decide⟩ ⟨by rw [hmc]; omega, by rw [hms]; omega⟩ (fun x3 h1 => ?_)
    refine kj_norm (st' := [.inl x3]) (c' := (c + 9)) (z' := (z + 151)) rfl rfl rfl ?_
    refine kj_if_eq (tgt := 371) hC dL_keeper_285 (by decide) (fun q2 => ?_) (fun q2 => ?_)
    · refine kj_widen (k := 1564) (n := 25412) (by omega) (by omega) ?_
      exact kj_sub [] rfl (t_L_keeper_b371 hC hN hT hmc hms hD   h1)
    · exact kj_sub [0, 1, 2, 3, 4, 5, 6, 7, 8, 9, 10, 11, 12] rfl (t_L_keeper_b288 hC hN hT hmc hms hD c z hc hz rc86 hr86 v0 v1 v2 v3 v4 v5 v6 v7 v8 v9 v10 v11 v13 h1)
set_option maxHeartbeats 4000000 in
set_option maxRecDepth 100000 in
theorem t_L_keeper_b254 {X : KX} (hC : kC X RL cL_keeper 15 (some .boolean)) (hN : (xme X).name = yL_keeper.name) (hT : kT0 X) (hmc : xmc X = 1564) (hms : xms X = 25412) (hD : xD X = 11)  (h : KH) : kJ X (fun x : Int32 => some (.inl x)) 15 1564 25412 [] [] 254 h (L_keeper_b254   h) := by
  unfold L_keeper_b254
  refine kj_iconst (v := 0) hC dL_keeper_254 (by decide) ?_
  refine kj_fin hmc hms ?_
  exact kj_zreturn hC dL_keeper_255
set_option maxHeartbeats 4000000 in
set_option maxRecDepth 100000 in
theorem t_L_keeper_b193 {X : KX} (hC : kC X RL cL_keeper 15 (some .boolean)) (hN : (xme X).name = yL_keeper.name) (hT : kT0 X) (hmc : xmc X = 1564) (hms : xms X = 25412) (hD : xD X = 11) (c z : Nat) (hc : c + 19 ≤ 1564) (hz : z + 309 ≤ 25412) (rc86 : Nat → Int32 → Nat → Nat → Nat → Nat → Nat → Nat → Nat → Nat → Nat → Int32 → KH → KO Int32) (hr86 : ∀ (v0 : Nat) (v1 : Int32) (v2 : Nat) (v3 : Nat) (v4 : Nat) (v5 : Nat) (v6 : Nat) (v7 : Nat) (v8 : Nat) (v9 : Nat) (v10 : Nat) (v11 : Int32) (h : KH), kJ X (fun x : Int32 => some (.inl x)) 15 (c + 19) (z + 309) [(0, .inr (.inr (some v0))), (1, .inl v1), (2, .inr (.inr (some v2))), (3, .inr (.inr (some v3))), (4, .inr (.inr (some v4))), (5, .inr (.inr (some v5))), (6, .inr (.inr (some v6))), (7, .inr (.inr (some v7))), (8, .inr (.inr (some v8))), (9, .inr (.inr (some v9))), (10, .inr (.inr (some v10))), (11, .inl v11)] [] 86 h (rc86 v0 v1 v2 v3 v4 v5 v6 v7 v8 v9 v10 v11 h)) (v0 : Nat) (v1 : Int32) (v2 : Nat) (v3 : Nat) (v4 : Nat) (v5 : Nat) (v6 : Nat) (v7 : Nat) (v8 : Nat) (v9 : Nat) (v10 : Nat) (v11 : Int32) (v12 : Int32) (v13 : Int32) (s0 : Int32) (h : KH) : kJ X (fun x : Int32 => some (.inl x)) 15 (c + 0) (z + 0) [(0, .inr (.inr (some v0))), (1, .inl v1), (2, .inr (.inr (some v2))), (3, .inr (.inr (some v3))), (4, .inr (.inr (some v4))), (5, .inr (.inr (some v5))), (6, .inr (.inr (some v6))), (7, .inr (.inr (some v7))), (8, .inr (.inr (some v8))), (9, .inr (.inr (some v9))), (10, .inr (.inr (some v10))), (11, .inl v11), (12, .inl v12), (13, .inl v13)] [.inl s0] 193 h (L_keeper_b193 rc86 v0 v1 v2 v3 v4 v5 v6 v7 v8 v9 v10 v11 v12 v13 s0 h) := by
  unfold L_keeper_b193
  refine kj_istore (L' := [(14, .inl s0), (0, .inr (.inr (some v0))), (1, .inl v1), (2, .inr (.inr (some v2))), (3, .inr (.inr (some v3))), (4, .inr (.inr (some v4))), (5, .inr (.inr (some v5))), (6, .inr (.inr (some v6))), (7, .inr (.inr (some v7))), (8, .inr (.inr (some v8))), (9, .inr (.inr (some v9))), (10, .inr (.inr (some v10))), (11, .inl v11), (12, .inl v12), (13, .inl v13)]) hC dL_keeper_193 (by decide) rfl ?_
  refine kj_aloadn hC 3 dL_keeper_195 rfl rfl ?_
  refine kj_iload hC 0 dL_keeper_196 rfl ?_
  refine kj_iload hC 13 dL_keeper_198 rfl ?_
  refine kj_iload hC 14 dL_keeper_200 rfl ?_
  refine kj_aloadn hC 4 dL_keeper_202 rfl rfl ?_
  refine kj_aload hC 5 dL_keeper_203 rfl ?_
  refine kj_aload hC 6 dL_keeper_205 rfl ?_
  refine kj_aload hC 7 dL_keeper_207 rfl ?_
  refine kj_aload hC 8 dL_keeper_209 rfl ?_
  refine kj_aload hC 9 dL_keeper_211 rfl ?_
  refine kj_aload hC 10 dL_keeper_213 rfl ?_
  refine kj_aload hC 11 dL_keeper_215 rfl ?_
  refine kj_invS (as := [.inr (.inr (some v2)), .inl s0, .inl v12, .inl v13, .inr (.inr (some v3)), .inr (.inr (some v4)), .inr (.inr (some v5)), .inr (.inr (some v6)), .inr (.inr (some v7)), .inr (.inr (some v8)), .inr (.inr (some v9)), .inr (.inr (some v10))]) (rest := []) hC hT dL_keeper_217 kw205 ky_L_step ky2_L_step (t_L_step (4 * v11.toNatClampNeg) v2 s0 v12 v13 v3 v4 v5 v6 v7 v8 v9 v10 h) rfl rfl (Nat.le_of_ble_eq_true rfl) ⟨by rw [hD]; decide, by decide⟩ ⟨by rw [hmc]; omega, by rw [hms]; omega⟩ (fun x1 h1 => ?_)
  refine kj_norm (st' := [.inl x1]) (c' := (c + 9)) (z' := (z + 151)) rfl rfl rfl ?_
  refine kj_if_eq (tgt := 254) hC dL_keeper_220 (by decide) (fun q1 => ?_) (fun q1 => ?_)
  · refine kj_widen (k := 1564) (n := 25412) (by omega) (by omega) ?_
    exact kj_sub [] rfl (t_L_keeper_b254 hC hN hT hmc hms hD   h1)
  · refine kj_iload hC 12 dL_keeper_223 rfl ?_
    refine kj_iconst (v := 3) hC dL_keeper_225 (by decide) ?_
    refine kj_irem hC dL_keeper_226 ?_
    refine kj_if_ne (tgt := 256) hC dL_keeper_227 (by decide) (fun q2 => ?_) (fun q2 => ?_)
    · refine kj_aloadn hC 3 dL_keeper_230 rfl rfl ?_
      refine kj_aloadn hC 4 dL_keeper_231 rfl rfl ?_
      refine kj_iconst (v := 0) hC dL_keeper_232 (by decide) ?_
      refine kj_gAIc (c := 31) hC rfl dL_keeper_233 (fun x2 => ?_)
      refine kj_invS (as := [.inr (.inr (some v2)), .inl x2]) (rest := []) hC hT dL_keeper_234 kw692 ky_L_isSpelled ky2_L_isSpelled (t_L_isSpelled v2 x2 h1) rfl rfl (Nat.le_of_ble_eq_true rfl) ⟨by rw [hD]; decide, by decide⟩ ⟨by rw [hmc]; omega, by rw [hms]; omega⟩ (fun x3 h2 => ?_)
      refine kj_norm (st' := [.inl x3]) (c' := (c + 9)) (z' := (z + 151)) rfl rfl rfl ?_
      refine kj_if_eq (tgt := 254) hC dL_keeper_237 (by decide) (fun q3 => ?_) (fun q3 => ?_)
      · refine kj_widen (k := 1564) (n := 25412) (by omega) (by omega) ?_
        exact kj_sub [] rfl (t_L_keeper_b254 hC hN hT hmc hms hD   h2)
      · refine kj_aloadn hC 3 dL_keeper_240 rfl rfl ?_
        refine kj_aload hC 10 dL_keeper_241 rfl ?_
        refine kj_iload hC 13 dL_keeper_243 rfl ?_
        refine kj_bipush (v := 8) hC dL_keeper_245 (by decide) ?_
        refine kj_irem hC dL_keeper_247 ?_
        refine kj_invS (as := [.inr (.inr (some v2)), .inr (.inr (some v9)), .inl (v12 - v12 / (8 : Int32) * (8 : Int32))]) (rest := []) hC hT dL_keeper_248 kw726 ky_L_areDistances ky2_L_areDistances (t_L_areDistances v2 v9 (v12 - v12 / (8 : Int32) * (8 : Int32)) h2) rfl rfl (Nat.le_of_ble_eq_true rfl) ⟨by rw [hD]; decide, by decide⟩ ⟨by rw [hmc]; omega, by rw [hms]; omega⟩ (fun x4 h3 => ?_)
        refine kj_norm (st' := [.inl x4]) (c' := (c + 9)) (z' := (z + 151)) rfl rfl rfl ?_
        refine kj_if_ne (tgt := 256) hC dL_keeper_251 (by decide) (fun q4 => ?_) (fun q4 => ?_)
        · refine kj_widen (k := 1564) (n := 25412) (by omega) (by omega) ?_
          exact kj_sub [] rfl (t_L_keeper_b254 hC hN hT hmc hms hD   h3)
        · exact kj_sub [1, 2, 3, 4, 5, 6, 7, 8, 9, 10, 11, 12, 14] rfl (t_L_keeper_b256 hC hN hT hmc hms hD c z hc hz rc86 hr86 v0 v1 v2 v3 v4 v5 v6 v7 v8 v9 v10 v11 v13 h3)
    · exact kj_sub [1, 2, 3, 4, 5, 6, 7, 8, 9, 10, 11, 12, 14] rfl (t_L_keeper_b256 hC hN hT hmc hms hD c z hc hz rc86 hr86 v0 v1 v2 v3 v4 v5 v6 v7 v8 v9 v10 v11 v13 h1)
set_option maxHeartbeats 4000000 in
set_option maxRecDepth 100000 in
theorem t_L_keeper_b86 {X : KX} (hC : kC X RL cL_keeper 15 (some .boolean)) (hN : (xme X).name = yL_keeper.name) (hT : kT0 X) (hmc : xmc X = 1564) (hms : xms X = 25412) (hD : xD X = 11) (c z : Nat) (hc : c + 19 ≤ 1564) (hz : z + 309 ≤ 25412) (rc86 : Nat → Int32 → Nat → Nat → Nat → Nat → Nat → Nat → Nat → Nat → Nat → Int32 → KH → KO Int32) (hr86 : ∀ (v0 : Nat) (v1 : Int32) (v2 : Nat) (v3 : Nat) (v4 : Nat) (v5 : Nat) (v6 : Nat) (v7 : Nat) (v8 : Nat) (v9 : Nat) (v10 : Nat) (v11 : Int32) (h : KH), kJ X (fun x : Int32 => some (.inl x)) 15 (c + 19) (z + 309) [(0, .inr (.inr (some v0))), (1, .inl v1), (2, .inr (.inr (some v2))), (3, .inr (.inr (some v3))), (4, .inr (.inr (some v4))), (5, .inr (.inr (some v5))), (6, .inr (.inr (some v6))), (7, .inr (.inr (some v7))), (8, .inr (.inr (some v8))), (9, .inr (.inr (some v9))), (10, .inr (.inr (some v10))), (11, .inl v11)] [] 86 h (rc86 v0 v1 v2 v3 v4 v5 v6 v7 v8 v9 v10 v11 h)) (v0 : Nat) (v1 : Int32) (v2 : Nat) (v3 : Nat) (v4 : Nat) (v5 : Nat) (v6 : Nat) (v7 : Nat) (v8 : Nat) (v9 : Nat) (v10 : Nat) (v11 : Int32) (h : KH) : kJ X (fun x : Int32 => some (.inl x)) 15 c z [(0, .inr (.inr (some v0))), (1, .inl v1), (2, .inr (.inr (some v2))), (3, .inr (.inr (some v3))), (4, .inr (.inr (some v4))), (5, .inr (.inr (some v5))), (6, .inr (.inr (some v6))), (7, .inr (.inr (some v7))), (8, .inr (.inr (some v8))), (9, .inr (.inr (some v9))), (10, .inr (.inr (some v10))), (11, .inl v11)] [] 86 h (L_keeper_b86 rc86 v0 v1 v2 v3 v4 v5 v6 v7 v8 v9 v10 v11 h) := by
  unfold L_keeper_b86
  refine kj_iload hC 11 dL_keeper_86 rfl ?_
  refine kj_bipush (v := 78) hC dL_keeper_88 (by decide) ?_
  refine kj_icmp_ge (tgt := 379) hC dL_keeper_90 (by decide) (fun q1 => ?_) (fun q1 => ?_)
  · refine kj_aloadn hC 2 dL_keeper_379 rfl rfl ?_
    refine kj_aload hC 8 dL_keeper_380 rfl ?_
    refine kj_iconst (v := 1) hC dL_keeper_382 (by decide) ?_
    refine kj_ghost (n := 800) ?_
    refine kj_invS (as := [.inr (.inr (some v2)), .inr (.inr (some v8)), .inl 1]) (rest := []) hC hT dL_keeper_383 kw759 ky_L_areBills ky2_L_areBills (t_L_areBills v2 v8 1 (sX h (800))) rfl rfl (Nat.le_of_ble_eq_true rfl) ⟨by rw [hD]; decide, by decide⟩ ⟨by rw [hmc]; omega, by rw [hms]; omega⟩ (fun x1 h1 => ?_)
    refine kj_norm (st' := [.inl x1]) (c' := (c + 1)) (z' := (z + 7)) rfl rfl rfl ?_
    refine kj_widen (k := 1564) (n := 25412) (by omega) (by omega) ?_
    refine kj_fin hmc hms ?_
    exact kj_zreturn hC dL_keeper_386
  · refine kj_aloadn hC 0 dL_keeper_93 rfl rfl ?_
    refine kj_iloadn hC 1 dL_keeper_94 rfl rfl ?_
    refine kj_iconst (v := 3) hC dL_keeper_95 (by decide) ?_
    refine kj_iload hC 11 dL_keeper_96 rfl ?_
    refine kj_imul hC dL_keeper_98 ?_
    refine kj_iadd hC dL_keeper_99 ?_
    refine kj_iconst (v := 1) hC dL_keeper_100 (by decide) ?_
    refine kj_iadd hC dL_keeper_101 ?_
    refine kj_ldc (v := 1073741824) hC dL_keeper_102 kw198 ?_
    refine kj_invS (as := [.inr (.inr (some v0)), .inl ((v1 + ((3 : Int32) * v11)) + (1 : Int32)), .inl 1073741824]) (rest := []) hC hT dL_keeper_104 kw199 ky_L_draw ky2_L_draw (t_L_draw v0 ((v1 + ((3 : Int32) * v11)) + (1 : Int32)) 1073741824 h) rfl rfl (Nat.le_of_ble_eq_true rfl) ⟨by rw [hD]; decide, by decide⟩ ⟨by rw [hmc]; omega, by rw [hms]; omega⟩ (fun x2 h2 => ?_)
    refine kj_norm (st' := [.inl x2]) (c' := (c + 0)) (z' := (z + 0)) rfl rfl rfl ?_
    refine kj_istore (L' := [(12, .inl x2), (0, .inr (.inr (some v0))), (1, .inl v1), (2, .inr (.inr (some v2))), (3, .inr (.inr (some v3))), (4, .inr (.inr (some v4))), (5, .inr (.inr (some v5))), (6, .inr (.inr (some v6))), (7, .inr (.inr (some v7))), (8, .inr (.inr (some v8))), (9, .inr (.inr (some v9))), (10, .inr (.inr (some v10))), (11, .inl v11)]) hC dL_keeper_107 (by decide) rfl ?_
    refine kj_aloadn hC 1 dL_keeper_109 rfl rfl ?_
    refine kj_iloadn hC 2 dL_keeper_110 rfl rfl ?_
    refine kj_iconst (v := 3) hC dL_keeper_111 (by decide) ?_
    refine kj_iload hC 12 dL_keeper_112 rfl ?_
    refine kj_imul hC dL_keeper_114 ?_
    refine kj_iadd hC dL_keeper_115 ?_
    refine kj_iconst (v := 2) hC dL_keeper_116 (by decide) ?_
    refine kj_iadd hC dL_keeper_117 ?_
    refine kj_ldc (v := 1073741824) hC dL_keeper_118 kw198 ?_
    refine kj_invS (as := [.inr (.inr (some v0)), .inl ((v1 + ((3 : Int32) * v11)) + (2 : Int32)), .inl 1073741824]) (rest := []) hC hT dL_keeper_120 kw199 ky_L_draw ky2_L_draw (t_L_draw v0 ((v1 + ((3 : Int32) * v11)) + (2 : Int32)) 1073741824 h2) rfl rfl (Nat.le_of_ble_eq_true rfl) ⟨by rw [hD]; decide, by decide⟩ ⟨by rw [hmc]; omega, by rw [hms]; omega⟩ (fun x3 h3 => ?_)
    refine kj_norm (st' := [.inl x3]) (c' := (c + 0)) (z' := (z + 0)) rfl rfl rfl ?_
    refine kj_istore (L' := [(13, .inl x3), (12, .inl x2), (0, .inr (.inr (some v0))), (1, .inl v1), (2, .inr (.inr (some v2))), (3, .inr (.inr (some v3))), (4, .inr (.inr (some v4))), (5, .inr (.inr (some v5))), (6, .inr (.inr (some v6))), (7, .inr (.inr (some v7))), (8, .inr (.inr (some v8))), (9, .inr (.inr (some v9))), (10, .inr (.inr (some v10))), (11, .inl v11)]) hC dL_keeper_123 (by decide) rfl ?_
    refine kj_iload hC 13 dL_keeper_125 rfl ?_
    refine kj_iconst (v := 2) hC dL_keeper_127 (by decide) ?_
    refine kj_icmp_ge (tgt := 135) hC dL_keeper_128 (by decide) (fun q2 => ?_) (fun q2 => ?_)
    · refine kj_iload hC 13 dL_keeper_135 rfl ?_
      refine kj_iconst (v := 2) hC dL_keeper_137 (by decide) ?_
      refine kj_icmp_ne (tgt := 145) hC dL_keeper_138 (by decide) (fun q3 => ?_) (fun q3 => ?_)
      · refine kj_iconst (v := 5) hC dL_keeper_141 (by decide) ?_
        refine kj_goto (tgt := 193) hC dL_keeper_142 (by decide) ?_
        exact kj_sub [2, 3, 4, 5, 6, 7, 8, 9, 10, 11, 12, 13, 1, 0] rfl (t_L_keeper_b193 hC hN hT hmc hms hD c z hc hz rc86 hr86 v0 v1 v2 v3 v4 v5 v6 v7 v8 v9 v10 v11 x2 x3 5 h3)
      · refine kj_iload hC 13 dL_keeper_145 rfl ?_
        refine kj_bipush (v := 6) hC dL_keeper_147 (by decide) ?_
        refine kj_icmp_ge (tgt := 157) hC dL_keeper_149 (by decide) (fun q4 => ?_) (fun q4 => ?_)
        · refine kj_iload hC 13 dL_keeper_157 rfl ?_
          refine kj_bipush (v := 6) hC dL_keeper_159 (by decide) ?_
          refine kj_icmp_ne (tgt := 169) hC dL_keeper_161 (by decide) (fun q5 => ?_) (fun q5 => ?_)
          · refine kj_bipush (v := 19) hC dL_keeper_164 (by decide) ?_
            refine kj_goto (tgt := 193) hC dL_keeper_166 (by decide) ?_
            exact kj_sub [2, 3, 4, 5, 6, 7, 8, 9, 10, 11, 12, 13, 1, 0] rfl (t_L_keeper_b193 hC hN hT hmc hms hD c z hc hz rc86 hr86 v0 v1 v2 v3 v4 v5 v6 v7 v8 v9 v10 v11 x2 x3 19 h3)
          · refine kj_iload hC 13 dL_keeper_169 rfl ?_
            refine kj_bipush (v := 9) hC dL_keeper_171 (by decide) ?_
            refine kj_icmp_ge (tgt := 181) hC dL_keeper_173 (by decide) (fun q6 => ?_) (fun q6 => ?_)
            · refine kj_aloadn hC 2 dL_keeper_181 rfl rfl ?_
              refine kj_iloadn hC 3 dL_keeper_182 rfl rfl ?_
              refine kj_iconst (v := 3) hC dL_keeper_183 (by decide) ?_
              refine kj_iload hC 13 dL_keeper_184 rfl ?_
              refine kj_imul hC dL_keeper_186 ?_
              refine kj_iadd hC dL_keeper_187 ?_
              refine kj_bipush (v := 23) hC dL_keeper_188 (by decide) ?_
              refine kj_invS (as := [.inr (.inr (some v0)), .inl (v1 + ((3 : Int32) * v11)), .inl 23]) (rest := []) hC hT dL_keeper_190 kw199 ky_L_draw ky2_L_draw (t_L_draw v0 (v1 + ((3 : Int32) * v11)) 23 h3) rfl rfl (Nat.le_of_ble_eq_true rfl) ⟨by rw [hD]; decide, by decide⟩ ⟨by rw [hmc]; omega, by rw [hms]; omega⟩ (fun x4 h4 => ?_)
              refine kj_norm (st' := [.inl x4]) (c' := (c + 0)) (z' := (z + 0)) rfl rfl rfl ?_
              exact kj_sub [2, 3, 4, 5, 6, 7, 8, 9, 10, 11, 12, 13, 1, 0] rfl (t_L_keeper_b193 hC hN hT hmc hms hD c z hc hz rc86 hr86 v0 v1 v2 v3 v4 v5 v6 v7 v8 v9 v10 v11 x2 x3 x4 h4)
            · refine kj_bipush (v := 9) hC dL_keeper_176 (by decide) ?_
              refine kj_goto (tgt := 193) hC dL_keeper_178 (by decide) ?_
              exact kj_sub [2, 3, 4, 5, 6, 7, 8, 9, 10, 11, 12, 13, 1, 0] rfl (t_L_keeper_b193 hC hN hT hmc hms hD c z hc hz rc86 hr86 v0 v1 v2 v3 v4 v5 v6 v7 v8 v9 v10 v11 x2 x3 9 h3)
        · refine kj_bipush (v := 16) hC dL_keeper_152 (by decide) ?_
          refine kj_goto (tgt := 193) hC dL_keeper_154 (by decide) ?_
          exact kj_sub [2, 3, 4, 5, 6, 7, 8, 9, 10, 11, 12, 13, 1, 0] rfl (t_L_keeper_b193 hC hN hT hmc hms hD c z hc hz rc86 hr86 v0 v1 v2 v3 v4 v5 v6 v7 v8 v9 v10 v11 x2 x3 16 h3)
    · refine kj_iconst (v := 0) hC dL_keeper_131 (by decide) ?_
      refine kj_goto (tgt := 193) hC dL_keeper_132 (by decide) ?_
      exact kj_sub [2, 3, 4, 5, 6, 7, 8, 9, 10, 11, 12, 13, 1, 0] rfl (t_L_keeper_b193 hC hN hT hmc hms hD c z hc hz rc86 hr86 v0 v1 v2 v3 v4 v5 v6 v7 v8 v9 v10 v11 x2 x3 0 h3)
set_option maxHeartbeats 4000000 in
set_option maxRecDepth 100000 in
theorem t_L_keeper_L86 {X : KX} (hC : kC X RL cL_keeper 15 (some .boolean)) (hN : (xme X).name = yL_keeper.name) (hT : kT0 X) (hmc : xmc X = 1564) (hms : xms X = 25412) (hD : xD X = 11) : ∀ (n c z : Nat) (hc : c + 19 * n + 19 ≤ 1564) (hz : z + 309 * n + 309 ≤ 25412) (v0 : Nat) (v1 : Int32) (v2 : Nat) (v3 : Nat) (v4 : Nat) (v5 : Nat) (v6 : Nat) (v7 : Nat) (v8 : Nat) (v9 : Nat) (v10 : Nat) (v11 : Int32) (h : KH), kJ X (fun x : Int32 => some (.inl x)) 15 c z [(0, .inr (.inr (some v0))), (1, .inl v1), (2, .inr (.inr (some v2))), (3, .inr (.inr (some v3))), (4, .inr (.inr (some v4))), (5, .inr (.inr (some v5))), (6, .inr (.inr (some v6))), (7, .inr (.inr (some v7))), (8, .inr (.inr (some v8))), (9, .inr (.inr (some v9))), (10, .inr (.inr (some v10))), (11, .inl v11)] [] 86 h (L_keeper_L86  n v0 v1 v2 v3 v4 v5 v6 v7 v8 v9 v10 v11 h) := by
  intro n
  induction n with
  | zero => intro c z hc hz v0 v1 v2 v3 v4 v5 v6 v7 v8 v9 v10 v11 h; unfold L_keeper_L86; exact kj_none
  | succ n ih => intro c z hc hz v0 v1 v2 v3 v4 v5 v6 v7 v8 v9 v10 v11 h; unfold L_keeper_L86; exact t_L_keeper_b86 hC hN hT hmc hms hD c z (by omega) (by omega) (L_keeper_L86  n) (ih (c + 19) (z + 309) (by omega) (by omega)) v0 v1 v2 v3 v4 v5 v6 v7 v8 v9 v10 v11 h
set_option maxHeartbeats 4000000 in
set_option maxRecDepth 100000 in
theorem t_L_keeper_b62 {X : KX} (hC : kC X RL cL_keeper 15 (some .boolean)) (hN : (xme X).name = yL_keeper.name) (hT : kT0 X) (hmc : xmc X = 1564) (hms : xms X = 25412) (hD : xD X = 11) (rc62 : Nat → Int32 → Nat → Nat → Nat → Nat → Nat → Nat → Nat → Nat → Nat → Int32 → KH → KO Int32) (hr62 : ∀ (v0 : Nat) (v1 : Int32) (v2 : Nat) (v3 : Nat) (v4 : Nat) (v5 : Nat) (v6 : Nat) (v7 : Nat) (v8 : Nat) (v9 : Nat) (v10 : Nat) (v11 : Int32) (h : KH), kJ X (fun x : Int32 => some (.inl x)) 15 44 692 [(0, .inr (.inr (some v0))), (1, .inl v1), (2, .inr (.inr (some v2))), (3, .inr (.inr (some v3))), (4, .inr (.inr (some v4))), (5, .inr (.inr (some v5))), (6, .inr (.inr (some v6))), (7, .inr (.inr (some v7))), (8, .inr (.inr (some v8))), (9, .inr (.inr (some v9))), (10, .inr (.inr (some v10))), (11, .inl v11)] [] 62 h (rc62 v0 v1 v2 v3 v4 v5 v6 v7 v8 v9 v10 v11 h)) (v0 : Nat) (v1 : Int32) (v2 : Nat) (v3 : Nat) (v4 : Nat) (v5 : Nat) (v6 : Nat) (v7 : Nat) (v8 : Nat) (v9 : Nat) (v10 : Nat) (v11 : Int32) (h : KH) : kJ X (fun x : Int32 => some (.inl x)) 15 44 692 [(0, .inr (.inr (some v0))), (1, .inl v1), (2, .inr (.inr (some v2))), (3, .inr (.inr (some v3))), (4, .inr (.inr (some v4))), (5, .inr (.inr (some v5))), (6, .inr (.inr (some v6))), (7, .inr (.inr (some v7))), (8, .inr (.inr (some v8))), (9, .inr (.inr (some v9))), (10, .inr (.inr (some v10))), (11, .inl v11)] [] 62 h (L_keeper_b62 rc62 v0 v1 v2 v3 v4 v5 v6 v7 v8 v9 v10 v11 h) := by
  unfold L_keeper_b62
  refine kj_iload hC 11 dL_keeper_62 rfl ?_
  refine kj_iconst (v := 4) hC dL_keeper_64 (by decide) ?_
  refine kj_icmp_ge (tgt := 83) hC dL_keeper_65 (by decide) (fun q1 => ?_) (fun q1 => ?_)
  · refine kj_iconst (v := 0) hC dL_keeper_83 (by decide) ?_
    refine kj_istore (L' := [(11, .inl 0), (0, .inr (.inr (some v0))), (1, .inl v1), (2, .inr (.inr (some v2))), (3, .inr (.inr (some v3))), (4, .inr (.inr (some v4))), (5, .inr (.inr (some v5))), (6, .inr (.inr (some v6))), (7, .inr (.inr (some v7))), (8, .inr (.inr (some v8))), (9, .inr (.inr (some v9))), (10, .inr (.inr (some v10)))]) hC dL_keeper_84 (by decide) rfl ?_
    exact kj_sub [1, 2, 3, 4, 5, 6, 7, 8, 9, 10, 11, 0] rfl (t_L_keeper_L86 hC hN hT hmc hms hD  79 44 692 (Nat.le_of_ble_eq_true rfl) (Nat.le_of_ble_eq_true rfl) v0 v1 v2 v3 v4 v5 v6 v7 v8 v9 v10 0 h)
  · refine kj_aload hC 10 dL_keeper_68 rfl ?_
    refine kj_iload hC 11 dL_keeper_70 rfl ?_
    refine kj_iconst (v := 1) hC dL_keeper_72 (by decide) ?_
    refine kj_iload hC 11 dL_keeper_73 rfl ?_
    refine kj_ishl hC dL_keeper_75 ?_
    refine kj_pAIc (c := 31) hC rfl (by decide) dL_keeper_76 (fun h1 => ?_)
    refine kj_iinc (v := v11 + 1) (L' := [(11, .inl (v11 + 1)), (0, .inr (.inr (some v0))), (1, .inl v1), (2, .inr (.inr (some v2))), (3, .inr (.inr (some v3))), (4, .inr (.inr (some v4))), (5, .inr (.inr (some v5))), (6, .inr (.inr (some v6))), (7, .inr (.inr (some v7))), (8, .inr (.inr (some v8))), (9, .inr (.inr (some v9))), (10, .inr (.inr (some v10)))]) hC 11 dL_keeper_77 rfl rfl (by decide) rfl ?_
    refine kj_goto (tgt := 62) hC dL_keeper_80 (by decide) ?_
    exact kj_sub [1, 2, 3, 4, 5, 6, 7, 8, 9, 10, 11, 0] rfl (hr62 v0 v1 v2 v3 v4 v5 v6 v7 v8 v9 v10 (v11 + 1) h1)
set_option maxHeartbeats 4000000 in
set_option maxRecDepth 100000 in
theorem t_L_keeper_L62 {X : KX} (hC : kC X RL cL_keeper 15 (some .boolean)) (hN : (xme X).name = yL_keeper.name) (hT : kT0 X) (hmc : xmc X = 1564) (hms : xms X = 25412) (hD : xD X = 11) : ∀ (n : Nat) (v0 : Nat) (v1 : Int32) (v2 : Nat) (v3 : Nat) (v4 : Nat) (v5 : Nat) (v6 : Nat) (v7 : Nat) (v8 : Nat) (v9 : Nat) (v10 : Nat) (v11 : Int32) (h : KH), kJ X (fun x : Int32 => some (.inl x)) 15 44 692 [(0, .inr (.inr (some v0))), (1, .inl v1), (2, .inr (.inr (some v2))), (3, .inr (.inr (some v3))), (4, .inr (.inr (some v4))), (5, .inr (.inr (some v5))), (6, .inr (.inr (some v6))), (7, .inr (.inr (some v7))), (8, .inr (.inr (some v8))), (9, .inr (.inr (some v9))), (10, .inr (.inr (some v10))), (11, .inl v11)] [] 62 h (L_keeper_L62  n v0 v1 v2 v3 v4 v5 v6 v7 v8 v9 v10 v11 h) := by
  intro n
  induction n with
  | zero => intro v0 v1 v2 v3 v4 v5 v6 v7 v8 v9 v10 v11 h; unfold L_keeper_L62; exact kj_none
  | succ n ih => intro v0 v1 v2 v3 v4 v5 v6 v7 v8 v9 v10 v11 h; unfold L_keeper_L62; exact t_L_keeper_b62 hC hN hT hmc hms hD (L_keeper_L62  n) ih v0 v1 v2 v3 v4 v5 v6 v7 v8 v9 v10 v11 h
set_option maxHeartbeats 4000000 in
set_option maxRecDepth 100000 in
theorem t_L_keeper (p0 : Nat) (p1 : Int32) (h : KH) (hh : ∀ a, kd h a ≠ 0 → a = 41 ∧ kd h a = 32) : kM yL_keeper cL_keeper 15 (some .boolean) 11 1564 25412 (fun x : Int32 => some (.inl x)) [.inr (.inr (some p0)), .inl p1] h (f_L_keeper p0 p1 h) := by
  refine kM_of RL (by decide) rfl (Nat.le_of_ble_eq_true rfl) [(0, .inr (.inr (some p0))), (1, .inl p1)] rfl (fun X hC hN hT hmc hms hD => ?_)
  unfold f_L_keeper
  refine kj_born hC hT hh dL_keeper_0 dL_keeper_3 dL_keeper_4 kw43 kw44 kw24 kw45 ky_X9_init ky2_X9_init (t_X9_init 0 (al kE 10 0)) ⟨by rw [hD]; decide, by decide⟩ ⟨by rw [hmc]; exact Nat.le_of_ble_eq_true rfl, by rw [hms]; exact Nat.le_of_ble_eq_true rfl⟩ ⟨by rw [hmc]; exact Nat.le_of_ble_eq_true rfl, by rw [hms]; exact Nat.le_of_ble_eq_true rfl⟩ (fun h1 => ?_)
  refine kj_norm (st' := [.inr (.inr (some 0))]) (c' := 36) (z' := 464) rfl rfl rfl ?_
  refine kj_ghost (n := 42) ?_
  refine kj_astoren (L' := [(2, .inr (.inr (some 0))), (0, .inr (.inr (some p0))), (1, .inl p1)]) hC dL_keeper_7 rfl (by decide) rfl ?_
  refine kj_bipush (v := 11) hC dL_keeper_8 (by decide) ?_
  refine kj_newa (c := 31) (N := 11) (ty := .int) hC dL_keeper_10 rfl rfl (fun _ _ => rfl) kw89 ⟨by decide, by decide, by decide⟩ ⟨by rw [hmc]; exact Nat.le_of_ble_eq_true rfl, by rw [hms]; exact Nat.le_of_ble_eq_true rfl⟩ (fun a2 h2 => ?_)
  refine kj_norm (st' := [.inr (.inr (some a2))]) (c' := 37) (z' := 475) rfl rfl rfl ?_
  refine kj_astoren (L' := [(3, .inr (.inr (some a2))), (2, .inr (.inr (some 0))), (0, .inr (.inr (some p0))), (1, .inl p1)]) hC dL_keeper_12 rfl (by decide) rfl ?_
  refine kj_bipush (v := 60) hC dL_keeper_13 (by decide) ?_
  refine kj_newa (c := 31) (N := 60) (ty := .int) hC dL_keeper_15 rfl rfl (fun _ _ => rfl) kw89 ⟨by decide, by decide, by decide⟩ ⟨by rw [hmc]; exact Nat.le_of_ble_eq_true rfl, by rw [hms]; exact Nat.le_of_ble_eq_true rfl⟩ (fun a3 h3 => ?_)
  refine kj_norm (st' := [.inr (.inr (some a3))]) (c' := 38) (z' := 535) rfl rfl rfl ?_
  refine kj_astore (L' := [(4, .inr (.inr (some a3))), (3, .inr (.inr (some a2))), (2, .inr (.inr (some 0))), (0, .inr (.inr (some p0))), (1, .inl p1)]) hC dL_keeper_17 (by decide) rfl ?_
  refine kj_bipush (v := 60) hC dL_keeper_19 (by decide) ?_
  refine kj_newa (c := 31) (N := 60) (ty := .int) hC dL_keeper_21 rfl rfl (fun _ _ => rfl) kw89 ⟨by decide, by decide, by decide⟩ ⟨by rw [hmc]; exact Nat.le_of_ble_eq_true rfl, by rw [hms]; exact Nat.le_of_ble_eq_true rfl⟩ (fun a4 h4 => ?_)
  refine kj_norm (st' := [.inr (.inr (some a4))]) (c' := 39) (z' := 595) rfl rfl rfl ?_
  refine kj_astore (L' := [(5, .inr (.inr (some a4))), (4, .inr (.inr (some a3))), (3, .inr (.inr (some a2))), (2, .inr (.inr (some 0))), (0, .inr (.inr (some p0))), (1, .inl p1)]) hC dL_keeper_23 (by decide) rfl ?_
  refine kj_bipush (v := 10) hC dL_keeper_25 (by decide) ?_
  refine kj_newa (c := 31) (N := 10) (ty := .int) hC dL_keeper_27 rfl rfl (fun _ _ => rfl) kw89 ⟨by decide, by decide, by decide⟩ ⟨by rw [hmc]; exact Nat.le_of_ble_eq_true rfl, by rw [hms]; exact Nat.le_of_ble_eq_true rfl⟩ (fun a5 h5 => ?_)
  refine kj_norm (st' := [.inr (.inr (some a5))]) (c' := 40) (z' := 605) rfl rfl rfl ?_
  refine kj_astore (L' := [(6, .inr (.inr (some a5))), (5, .inr (.inr (some a4))), (4, .inr (.inr (some a3))), (3, .inr (.inr (some a2))), (2, .inr (.inr (some 0))), (0, .inr (.inr (some p0))), (1, .inl p1)]) hC dL_keeper_29 (by decide) rfl ?_
  refine kj_bipush (v := 15) hC dL_keeper_31 (by decide) ?_
  refine kj_newa (c := 31) (N := 15) (ty := .int) hC dL_keeper_33 rfl rfl (fun _ _ => rfl) kw89 ⟨by decide, by decide, by decide⟩ ⟨by rw [hmc]; exact Nat.le_of_ble_eq_true rfl, by rw [hms]; exact Nat.le_of_ble_eq_true rfl⟩ (fun a6 h6 => ?_)
  refine kj_norm (st' := [.inr (.inr (some a6))]) (c' := 41) (z' := 620) rfl rfl rfl ?_
  refine kj_astore (L' := [(7, .inr (.inr (some a6))), (6, .inr (.inr (some a5))), (5, .inr (.inr (some a4))), (4, .inr (.inr (some a3))), (3, .inr (.inr (some a2))), (2, .inr (.inr (some 0))), (0, .inr (.inr (some p0))), (1, .inl p1)]) hC dL_keeper_35 (by decide) rfl ?_
  refine kj_iconst (v := 4) hC dL_keeper_37 (by decide) ?_
  refine kj_newa (c := 31) (N := 4) (ty := .int) hC dL_keeper_38 rfl rfl (fun _ _ => rfl) kw89 ⟨by decide, by decide, by decide⟩ ⟨by rw [hmc]; exact Nat.le_of_ble_eq_true rfl, by rw [hms]; exact Nat.le_of_ble_eq_true rfl⟩ (fun a7 h7 => ?_)
  refine kj_norm (st' := [.inr (.inr (some a7))]) (c' := 42) (z' := 624) rfl rfl rfl ?_
  refine kj_astore (L' := [(8, .inr (.inr (some a7))), (7, .inr (.inr (some a6))), (6, .inr (.inr (some a5))), (5, .inr (.inr (some a4))), (4, .inr (.inr (some a3))), (3, .inr (.inr (some a2))), (2, .inr (.inr (some 0))), (0, .inr (.inr (some p0))), (1, .inl p1)]) hC dL_keeper_40 (by decide) rfl ?_
  refine kj_bipush (v := 64) hC dL_keeper_42 (by decide) ?_
  refine kj_newa (c := 31) (N := 64) (ty := .int) hC dL_keeper_44 rfl rfl (fun _ _ => rfl) kw89 ⟨by decide, by decide, by decide⟩ ⟨by rw [hmc]; exact Nat.le_of_ble_eq_true rfl, by rw [hms]; exact Nat.le_of_ble_eq_true rfl⟩ (fun a8 h8 => ?_)
  refine kj_norm (st' := [.inr (.inr (some a8))]) (c' := 43) (z' := 688) rfl rfl rfl ?_
  refine kj_astore (L' := [(9, .inr (.inr (some a8))), (8, .inr (.inr (some a7))), (7, .inr (.inr (some a6))), (6, .inr (.inr (some a5))), (5, .inr (.inr (some a4))), (4, .inr (.inr (some a3))), (3, .inr (.inr (some a2))), (2, .inr (.inr (some 0))), (0, .inr (.inr (some p0))), (1, .inl p1)]) hC dL_keeper_46 (by decide) rfl ?_
  refine kj_iconst (v := 4) hC dL_keeper_48 (by decide) ?_
  refine kj_newa (c := 31) (N := 4) (ty := .int) hC dL_keeper_49 rfl rfl (fun _ _ => rfl) kw89 ⟨by decide, by decide, by decide⟩ ⟨by rw [hmc]; exact Nat.le_of_ble_eq_true rfl, by rw [hms]; exact Nat.le_of_ble_eq_true rfl⟩ (fun a9 h9 => ?_)
  refine kj_norm (st' := [.inr (.inr (some a9))]) (c' := 44) (z' := 692) rfl rfl rfl ?_
  refine kj_astore (L' := [(10, .inr (.inr (some a9))), (9, .inr (.inr (some a8))), (8, .inr (.inr (some a7))), (7, .inr (.inr (some a6))), (6, .inr (.inr (some a5))), (5, .inr (.inr (some a4))), (4, .inr (.inr (some a3))), (3, .inr (.inr (some a2))), (2, .inr (.inr (some 0))), (0, .inr (.inr (some p0))), (1, .inl p1)]) hC dL_keeper_51 (by decide) rfl ?_
  refine kj_aload hC 2 dL_keeper_53 rfl ?_
  refine kj_iconst (v := 1) hC dL_keeper_55 (by decide) ?_
  refine kj_bipush (v := 30) hC dL_keeper_56 (by decide) ?_
  refine kj_pAIc (c := 31) hC rfl (by decide) dL_keeper_58 (fun h10 => ?_)
  refine kj_iconst (v := 0) hC dL_keeper_59 (by decide) ?_
  refine kj_istore (L' := [(11, .inl 0), (10, .inr (.inr (some a9))), (9, .inr (.inr (some a8))), (8, .inr (.inr (some a7))), (7, .inr (.inr (some a6))), (6, .inr (.inr (some a5))), (5, .inr (.inr (some a4))), (4, .inr (.inr (some a3))), (3, .inr (.inr (some a2))), (2, .inr (.inr (some 0))), (0, .inr (.inr (some p0))), (1, .inl p1)]) hC dL_keeper_60 (by decide) rfl ?_
  exact kj_sub [10, 11, 9, 8, 7, 6, 5, 4, 3, 2, 1, 0] rfl (t_L_keeper_L62 hC hN hT hmc hms hD  kF p0 p1 0 a2 a3 a4 a5 a6 a7 a8 a9 0 h10)
