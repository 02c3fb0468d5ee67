set_option maxHeartbeats 4000000 in
set_option maxRecDepth 100000 in
theorem whole_start_of {RR : Nat → KH → KH → Prop} (PA : PALL RR) {x0 m0 : KH} (e1 : f_X9_init 0 (al kE 10 0) = some (.inr (), x0)) (e2 : f_X10_init 0 (al kE 11 0) = some (.inr (), m0)) (e3 : kx x0 = 36) (e4 : kd x0 36 = 0) (e5 : kd x0 0 = 10) (e6 : kd m0 0 = 11) (R0 : RR 0 (al x0 22 1) m0)
    {p : Program} {e : Env} {s : State} {m : MethodId} {below : List Frame} {meth : Method} {c : Code} (l : Launch) (hflags : l.flags = flags0) {b L : Nat} {xs : Nat → Int32} (hL : L ≤ 2048) (C0 : lw_At p s m meth c b L xs) : W p l e room_1 s m #[Value.ref b] below meth c s.heap [] 0 0 (lw_Z below #[Value.ref b] s) (entryFrame m ([Value.ref b] : List Value).toArray 8) := by
  obtain ⟨hx, hb, hr, hml, hown, hts, hX, hbl, hlocks, hgv⟩ := id C0
  obtain ⟨G, hK⟩ := kst_K hts hgv
  have hZ := kst_Z hts hgv
  let Y : KY := (p, l, e, s, m, below, meth, c, b, L, xs, G)
  have hC : kCL Y := ⟨hx, hb, hr, hml, hown, fun w hw => hts w (List.mem_filter.mp hw).1, hK, hZ, by show (!l.flags.contains noTraceFlag) = false; rw [hflags]; decide +kernel, hX, hbl, hlocks⟩
  have h0 : kL2 Y (fun _ => 0) kE (fun _ => 0) kE s.heap [] := ⟨⟨fun a ha => (ha rfl).elim, fun a b ha => (ha rfl).elim, fun a k b ha => (ha rfl).elim⟩, ⟨fun a ha => (ha rfl).elim, fun a b ha => (ha rfl).elim, fun a k b ha => (ha rfl).elim⟩, fun a b ha => (ha rfl).elim, va_S.rf, fun a ha => (ha rfl).elim, fun a ha => (ha rfl).elim⟩
  have hl := lv_entry ([.ref b]) (n := 8) (Nat.le_of_ble_eq_true rfl)
  rw [lg_entry_eq]
  generalize (lg_sl ([.ref b]) ++ List.replicate (8 - (lg_sl ([.ref b])).length) Slot.unset).toArray = ls at hl ⊢
  have hl : lv_has ls 8 [(0, .ref b)] := hl
  show kWL Y 0 0 s.heap [] (F0 m 0 ls [])
  refine kl2_new hC (ci := 9) h0 rfl dL_law_0 rfl (List.mem_filter.mpr ⟨by decide +kernel, rfl⟩) (List.mem_filter.mpr ⟨by decide +kernel, rfl⟩) (List.mem_filter.mpr ⟨by decide +kernel, rfl⟩) ⟨by decide, by decide⟩ (fun ρ1 H1 h1 _ => ?_)
  refine lv_dup hx hb dL_law_3 rfl ?_
  refine kl2_init hC h1 dL_law_4 (List.mem_filter.mpr ⟨by decide +kernel, rfl⟩) ⟨List.mem_filter.mpr ⟨by decide +kernel, rfl⟩, List.mem_filter.mpr ⟨by decide +kernel, rfl⟩, by decide, by decide, by decide +kernel⟩ (List.mem_filter.mpr ⟨by decide +kernel, rfl⟩) rfl (t_X9_init 0 (al kE 10 0)) e1 (by rw [kd_al, if_pos rfl]; decide) rfl hl ⟨by decide, by decide⟩ ⟨Nat.le_of_ble_eq_true rfl, Nat.le_of_ble_eq_true rfl⟩ (Nat.le_of_ble_eq_true rfl) (fun ρ2 H2 l2 h2 a2 => ?_)
  have q2 : ρ2 0 = ρ1 0 := (a2 0 (by rw [kd_al]; decide)).2
  refine lv_astore_n (lv' := [(1, .ref (ρ2 0)), (0, .ref b)]) hx hb dL_law_7 rfl hl (by decide) (by rw [q2]; rfl) (fun ls hl => ?_)
  refine kl2_new hC (ci := 10) h2.swap rfl dL_law_8 rfl (List.mem_filter.mpr ⟨by decide +kernel, rfl⟩) (List.mem_filter.mpr ⟨by decide +kernel, rfl⟩) (List.mem_filter.mpr ⟨by decide +kernel, rfl⟩) ⟨Nat.le_of_ble_eq_true rfl, Nat.le_of_ble_eq_true rfl⟩ (fun σ1 H3 h3 _ => ?_)
  refine lv_dup hx hb dL_law_11 rfl ?_
  refine kl2_init hC h3 dL_law_12 (List.mem_filter.mpr ⟨by decide +kernel, rfl⟩) ⟨List.mem_filter.mpr ⟨by decide +kernel, rfl⟩, List.mem_filter.mpr ⟨by decide +kernel, rfl⟩, by decide, by decide, by decide +kernel⟩ (List.mem_filter.mpr ⟨by decide +kernel, rfl⟩) rfl (t_X10_init 0 (al kE 11 0)) e2 (by rw [kd_al, if_pos rfl]; decide) rfl hl ⟨by decide, by decide⟩ ⟨Nat.le_of_ble_eq_true rfl, Nat.le_of_ble_eq_true rfl⟩ (Nat.le_of_ble_eq_true rfl) (fun σ2 H4 l4 h4 a4 => ?_)
  have q4 : σ2 0 = σ1 0 := (a4 0 (by rw [kd_al]; decide)).2
  refine lv_astore_n (lv' := [(2, .ref (σ2 0)), (1, .ref (ρ2 0)), (0, .ref b)]) hx hb dL_law_15 rfl hl (by decide) (by rw [q4]; rfl) (fun ls hl => ?_)
  refine lv_iconst (v := 1) hx hb dL_law_16 (by decide) ?_
  refine kl2_newa (c := 22) (N := 1) (ty := .long) hC h4.swap (by rw [e3]; exact e4) dL_law_17 rfl rfl (fun _ _ => rfl) (List.mem_filter.mpr ⟨by decide +kernel, rfl⟩) ⟨by decide, by decide, by decide⟩ ⟨Nat.le_of_ble_eq_true rfl, Nat.le_of_ble_eq_true rfl⟩ (fun ρ3 H5 h5 a5 => ?_)
  have q5 : ρ3 0 = ρ2 0 := a5 0 (by rw [e5]; decide)
  rw [e3]
  refine lv_astore_n (lv' := [(3, .ref (ρ3 36)), (2, .ref (σ2 0)), (1, .ref (ρ3 0)), (0, .ref b)]) hx hb dL_law_19 rfl hl (by decide) (by rw [q5]; rfl) (fun ls hl => ?_)
  refine lv_iconst (v := 0) hx hb dL_law_20 (by decide) ?_
  refine lv_istore (lv' := [(4, .int 0), (3, .ref (ρ3 36)), (2, .ref (σ2 0)), (1, .ref (ρ3 0)), (0, .ref b)]) hx hb dL_law_21 hl (by decide) rfl (fun ls hl => ?_)
  refine W.widen (k := 100) (n := 8000) (Nat.le_of_ble_eq_true rfl) (Nat.le_of_ble_eq_true rfl) ?_
  have hJ := lw_loop hC PA hL 513 0 (al x0 22 1) m0 (Nat.le_refl _) (by decide) R0
  exact hJ ρ3 σ2 H5 l4 ls h5 (by rw [kd_al, e3]; simp [e5]) (by rw [kd_al, e3]; simp) (by rw [e6]; decide) (lv_sub hl [4, 3, 2, 1, 0] rfl)
