/-! every call: the loop's facts, all of them -/
theorem st_bool (v : Int32) (h1 : KH) (e1 : kd h1 36 = 22) (e2 : kn h1 36 = 1) : kif (v = 0) (pAL h1 36 22 0 0 (fun h2 => kret (0 : Int32) h2)) (pAL h1 36 22 0 1 (fun h2 => kret (0 : Int32) h2)) = kret 0 (sL h1 36 0 (if v = 0 then 0 else 1)) := by
  by_cases h : v = 0
  · rw [kif_t h, if_pos h]
    unfold pAL
    rw [if_pos ⟨e1, by rw [e2]; decide⟩]
    rfl
  · rw [kif_f h, if_neg h]
    unfold pAL
    rw [if_pos ⟨e1, by rw [e2]; decide⟩]
    rfl
theorem pall_rr : PALL RR := ⟨RR.PB, PW_of (fun _ _ _ _ => rfl) hand2 st_int o_pass, pn_now, PW_of (fun _ _ _ _ => rfl) hand2 st_int o_road, PW_of (fun _ _ _ _ => rfl) hand1 st_int o_distance, PW_of (fun _ _ _ _ => rfl) hand1 st_int o_setPause, PW_of (fun _ _ _ _ => rfl) hand1 st_int o_setRate, PW_of (fun _ _ _ _ => rfl) hand2 st_int o_spell, PW_of (fun _ _ _ _ => rfl) hand3 st_int o_insert, pn_mirror, pn_clearSpelled, PW_of (fun _ _ _ _ => rfl) hand1 st_int o_charAt, PW_of (fun _ _ _ _ => rfl) hand2 st_bool o_alike, PW_of (fun _ _ _ _ => rfl) hand3 st_int o_register, PW_of (fun _ _ _ _ => rfl) hand1 st_int o_sell, pn_plates, PW_of (fun _ _ _ _ => rfl) hand1 st_int o_plateAt, PW_of (fun _ _ _ _ => rfl) hand2 st_int o_holder, PW_of (fun _ _ _ _ => rfl) hand3 st_int o_read, PW_of (fun _ _ _ _ => rfl) hand1 st_int o_correct, PW_of (fun _ _ _ _ => rfl) hand2 st_int o_uncorrect, PW_of (fun _ _ _ _ => rfl) hand1 st_int o_plateOf, PW_of (fun _ _ _ _ => rfl) hand1 st_int o_cost, PW_of (fun _ _ _ _ => rfl) hand1 st_int o_trips, PW_of (fun _ _ _ _ => rfl) hand1 st_int o_tripsAnew, PW_of (fun _ _ _ _ => rfl) hand1 st_int o_tripOf, PW_of (fun _ _ _ _ => rfl) hand1 st_int o_toll, PW_of (fun _ _ _ _ => rfl) hand1 st_int o_driverOf, PW_of (fun _ _ _ _ => rfl) hand1 st_int o_due, PW_of (fun _ _ _ _ => rfl) hand1 st_int o_dueAnew, pn_settle, PW_of (fun _ _ _ _ => rfl) hand1 st_long o_billed, PW_of (fun _ _ _ _ => rfl) hand1 st_long o_paidBack, PW_of (fun _ _ _ _ => rfl) hand3 st_int o_warrant, PW_of (fun _ _ _ _ => rfl) hand3 st_int o_ask, PW_of (fun _ _ _ _ => rfl) hand1 st_int o_stale⟩
