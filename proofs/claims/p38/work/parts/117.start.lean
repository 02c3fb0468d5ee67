/-! the law's start: the words at the entry, the two objects, the answer's row -/
theorem kst_inst : ∀ ci, ci < 10 → ∀ q, kvCl[ci]? = some q → Cond.instantiable q.1 q.2.2 ∈ lw_tbl := by
  have h : ∀ ci, ci < 10 → ((kvCl[ci]?).all fun q => decide (Cond.instantiable q.1 q.2.2 ∈ lw_tbl)) = true := by decide +kernel
  intro ci hci q hq
  have h1 := h ci hci
  rw [hq] at h1
  exact of_decide_eq_true h1
theorem kst_nest : ∀ w ∈ kNest, w ∈ lw_tbl ∧ w.onTables = true := by
  have h : (kNest.all fun w => w.onTables) = true := by decide +kernel
  intro w hw
  exact ⟨(List.mem_filter.mp hw).1, List.all_eq_true.mp h w hw⟩
section KSTART
variable {b : Nat} {s : State}
theorem kst_cls (hts : ∀ w ∈ lw_tbl, w.before #[Value.ref b] s = true) : ∃ (dC : Nat → ClassId) (dI : Nat → Nat → Nat), ∀ ci q, kvCl[ci]? = some q → u_Kn s q.1 q.2.1 q.2.2 (dC ci) (dI ci) := by
  have h : ∀ ci : Nat, ∃ d : ClassId × (Nat → Nat), ∀ q : vw_C, kvCl[ci]? = some q → u_Kn s q.1 q.2.1 q.2.2 d.1 d.2 := by
    intro ci
    cases e : kvCl[ci]? with
    | none => exact ⟨(0, fun _ => 0), fun q h => by cases h⟩
    | some q =>
      obtain ⟨c, i, hk⟩ := u_known (ws := lw_tbl) hts (fun w hw => (List.mem_filter.mp (kcls_in ci (kCl_lt e) q e w hw)).1) (hts _ (kst_inst ci (kCl_lt e) q e))
      exact ⟨(c, i), fun q' h => by cases h; exact hk⟩
  exact ⟨fun ci => (Classical.choose (h ci)).1, fun ci => (Classical.choose (h ci)).2, fun ci q hq => Classical.choose_spec (h ci) q hq⟩
theorem kst_arr1 (hts : ∀ w ∈ lw_tbl, w.before #[Value.ref b] s = true) (t : Nat) : ∃ cA : ClassId, ∀ ty, kTy t = some ty → ArrOfT s cA ty ∧ va_RA s cA ty := by
  unfold kTy
  split
  · obtain ⟨c, k, comp, h1, h2, h3⟩ := Cond.arrayClass_spec (hts (.arrayClass .int) (by decide +kernel))
    exact ⟨c, fun ty h => by cases h; exact ⟨fun n z => ⟨(fun k h => by cases h), k, h2, comp, h3⟩, h1⟩⟩
  · obtain ⟨c, k, comp, h1, h2, h3⟩ := Cond.arrayClass_spec (hts (.arrayClass .long) (by decide +kernel))
    exact ⟨c, fun ty h => by cases h; exact ⟨fun n z => ⟨(fun k h => by cases h), k, h2, comp, h3⟩, h1⟩⟩
  · obtain ⟨c, k, comp, h1, h2, h3⟩ := Cond.arrayClass_spec (hts (.arrayClass .boolean) (by decide +kernel))
    exact ⟨c, fun ty h => by cases h; exact ⟨fun n z => ⟨(fun k h => by cases h), k, h2, comp, h3⟩, h1⟩⟩
  · obtain ⟨comp, c, k, h1, h2, h3, h4⟩ := Cond.arrayOver_specA (hts (.arrayOver (.array .int)) (by decide +kernel))
    exact ⟨c, fun ty h => by cases h; exact ⟨fun n z => ⟨(fun k h => by cases h), k, h2, comp, h3⟩, h4⟩⟩
  · obtain ⟨comp, c, k, h1, h2, h3, h4, h5⟩ := Cond.arrayOver_spec (hts (.arrayOver (.object "Tollkeeper$Plate")) (by decide +kernel))
    exact ⟨c, fun ty h => by cases h; exact ⟨fun n z => ⟨(fun k h => by cases h), k, h3, comp, h4⟩, k, comp, h3, h4, h1, h5⟩⟩
  · obtain ⟨comp, c, k, h1, h2, h3, h4, h5⟩ := Cond.arrayOver_spec (hts (.arrayOver (.object "Tollkeeper$Reading")) (by decide +kernel))
    exact ⟨c, fun ty h => by cases h; exact ⟨fun n z => ⟨(fun k h => by cases h), k, h3, comp, h4⟩, k, comp, h3, h4, h1, h5⟩⟩
  · obtain ⟨comp, c, k, h1, h2, h3, h4, h5⟩ := Cond.arrayOver_spec (hts (.arrayOver (.object "Tollkeeper$Warrant")) (by decide +kernel))
    exact ⟨c, fun ty h => by cases h; exact ⟨fun n z => ⟨(fun k h => by cases h), k, h3, comp, h4⟩, k, comp, h3, h4, h1, h5⟩⟩
  · obtain ⟨comp, c, k, h1, h2, h3, h4, h5⟩ := Cond.arrayOver_spec (hts (.arrayOver (.object "Tollkeeper$Answer")) (by decide +kernel))
    exact ⟨c, fun ty h => by cases h; exact ⟨fun n z => ⟨(fun k h => by cases h), k, h3, comp, h4⟩, k, comp, h3, h4, h1, h5⟩⟩
  · obtain ⟨c, k, comp, h1, h2, h3⟩ := Cond.arrayClass_spec (hts (.arrayClass .int) (by decide +kernel))
    exact ⟨c, fun ty h => by cases h; exact ⟨fun n z => ⟨(fun k h => by cases h), k, h2, comp, h3⟩, h1⟩⟩
  · exact ⟨0, fun ty h => by cases h⟩
theorem kst_str (hts : ∀ w ∈ lw_tbl, w.before #[Value.ref b] s = true) (own : String) (k : Nat) (tx : String) (hw : Cond.stringRef own k tx ∈ lw_tbl) : ∃ a, vk_R own k tx a s := by
  have h := hts _ hw
  cases e : s.vm.findClass own with
  | none => simp [Cond.before, Cond.holds, Cond.value, e] at h
  | some cur =>
    obtain ⟨kk, cf, i, a, -, -, -, -, -, hev⟩ := Cond.stringRef_spec e h
    exact ⟨a, vk_R.of h hev⟩
theorem kst_K (hts : ∀ w ∈ lw_tbl, w.before #[Value.ref b] s = true) (hgv : (Jvm.Cond.and given_1 narrow_1).before #[Value.ref b] s = true) {scr : Cell} (hscr : s.isArrayOf scr .int) : ∃ G : KG, kK G s ∧ G.2 32 = scr.cls := by
  obtain ⟨dC, dI, hcl⟩ := kst_cls hts
  have hs := flat_of_before _ hgv
  refine ⟨((dC, dI), fun t => if t = 32 then scr.cls else Classical.choose (kst_arr1 hts t)), ⟨hcl, fun t ty ht => by
    show ArrOfT s (if t = 32 then scr.cls else Classical.choose (kst_arr1 hts t)) ty ∧ va_RA s (if t = 32 then scr.cls else Classical.choose (kst_arr1 hts t)) ty
    rw [if_neg (kTy_32 ht)]
    exact Classical.choose_spec (kst_arr1 hts t) ty ht, fun w hw => va_Nw.of (kst_nest w hw).2 (hts w (kst_nest w hw).1), fun C hC => ?_, hts (.arrayOver (.array .int)) (by decide +kernel), fun own k tx hw => kst_str hts own k tx hw, fun C hC D hD hne => ?_, fun n z => ⟨(fun k h => by cases h), hscr.2⟩⟩, show (if (32 : Nat) = 32 then scr.cls else Classical.choose (kst_arr1 hts 32)) = scr.cls from if_pos rfl⟩
  · simp only [kArr, List.mem_cons, List.mem_nil_iff, or_false] at hC
    rcases hC with rfl | rfl | rfl | rfl
    · exact va_AO.of (hts (.arrayOver (.object "Tollkeeper$Plate")) (by decide +kernel))
    · exact va_AO.of (hts (.arrayOver (.object "Tollkeeper$Reading")) (by decide +kernel))
    · exact va_AO.of (hts (.arrayOver (.object "Tollkeeper$Warrant")) (by decide +kernel))
    · exact va_AO.of (hts (.arrayOver (.object "Tollkeeper$Answer")) (by decide +kernel))
  · simp only [kExs, List.mem_cons, List.mem_nil_iff, or_false] at hC
    simp only [kExc, List.mem_cons, List.mem_nil_iff, or_false] at hD
    rcases hC with rfl | rfl | rfl | rfl <;> rcases hD with rfl | rfl | rfl
    all_goals first
      | exact absurd rfl hne
      | exact va_Nc.of (hs _ (by decide +kernel))
theorem kst_Z (hts : ∀ w ∈ lw_tbl, w.before #[Value.ref b] s = true) (hgv : (Jvm.Cond.and given_1 narrow_1).before #[Value.ref b] s = true) : kZ (fun q => s.heap.size ≤ q) s s.heap := by
  have hs := flat_of_before _ hgv
  exact ⟨vx_Zqof (hts _ (by decide +kernel)) (hts _ (by decide +kernel)) (hs _ (by decide +kernel)) (fun a h1 h2 => absurd h1 (Nat.not_lt.mpr h2)),
    vx_Zqof (hts _ (by decide +kernel)) (hts _ (by decide +kernel)) (hs _ (by decide +kernel)) (fun a h1 h2 => absurd h1 (Nat.not_lt.mpr h2))⟩
end KSTART
section KSI
variable {α β : Type} {X : KX} {enc : α → Option KV} {encb : β → Option KV} {own : String} {cc : ByteArray} {nL : Nat} {ret : Option FieldType} {cells slots : Nat} {L : List (Nat × KV)} {st rest as : List KV} {pc : Nat} {h : KH}
variable {index maxL n D mcc msc : Nat} {y : MethodName} {bytes : ByteArray} {rt : Option FieldType} {wc : KO β} {cont : β → KH → KO α}
/-- a static call that doesn't throw, whatever tables the method has -/
theorem kj_invSI (hC : kC X own cc nL ret) (hd : decode cc pc = .ok (.invokestatic index, 3)) (hl : Cond.methodLink own index y ∈ kT) (hy : kYok y bytes maxL rt n) (hy2 : Cond.static y ∈ kT)
    (hM : kM y bytes maxL rt D mcc msc encb as h wc) (hn : as.length = n) (hst : as.reverse ++ rest = st) (hcat : (rest.map kcat).sum ≤ 8) (hroom : D + 1 ≤ xD X ∧ 19 + maxL ≤ 40) (hb : cells + mcc ≤ xmc X ∧ slots + msc ≤ xms X)
    (kk : ∀ v h1, kJ X enc nL (cells + mcc) (slots + msc) L ((encb v).toList ++ rest) (pc + 3) h1 (cont v h1)) : kJ X enc nL cells slots L st pc h (kbinI wc cont) := by
  subst hst
  intro r h' hw ρ H locs ls hI hlv hk
  obtain ⟨w0, hc, hwc, hw⟩ := kbinI_some hw
  have hts : ∀ w ∈ kT, w.before (xar X) (xs X) = true := hC.2.2.2.2.2.2.1
  have hok : ∀ v ∈ as, kOk h v := fun v hv => hk.2 v (List.mem_append_left _ (List.mem_reverse.mpr hv))
  have hMl := hM (xl X) (xG X) ρ H.size (.inr w0) hc hC.2.2.2.2.2.2.2.2.2.1 hwc hok
  have hr := vx_runS (p := xp X) (l := xl X) (e := xe X) (R := xR X) (s := xs X) (m := xm X) (args := xar X) (below := xbe X) (meth := xme X) (c := xc X) (H := H) (locs := locs) (cells := cells) (slots := slots) (As := as.map (ktr ρ)) (rest := rest.map (ktr ρ)) (g := F0 (xm X) pc ls (((as.reverse ++ rest)).map (ktr ρ)))
    (kFix hC) hMl ⟨kcallB (n := n) hC hl hy hroom, hts _ hy2⟩ (kPre (as := as) (D := 0) (mcc := 0) (msc := 0) (maxL := 0) hC hI) rfl (by rw [List.length_map]; exact hn) hlv.1 (by
      show ((as.reverse ++ rest)).map (ktr ρ) = _
      rw [List.map_append, krev]) (lv_room (by rw [kcat_sum]; exact hcat)) hd (kfits hC hb)
  have hk' : kOks h L rest := ⟨hk.1, fun v hv => hk.2 v (List.mem_append_right _ hv)⟩
  intro T hT0 Xs
  rcases hr T hT0 Xs with ⟨v, st₀, t, T', Lc, h0, X', hL, e1, e2, ⟨u, ρ', hu, hv, hok, hE⟩, stp⟩ | ⟨q, st₀, t, T', Lc, E, ce, h0, X', hL, e1, e2, ⟨e, ρ', he, -⟩, -⟩
  · cases hv
    cases hu
    have hI' := hI.back hC h0 e1 hE hL
    have hkd : ∀ a, kd h a ≠ 0 → kd hc a ≠ 0 := fun a ha => by rw [(hE.2.1 a ha).1]; exact ha
    have hag : ∀ a, kd h a ≠ 0 → ρ' a = ρ a := fun a ha => (hE.2.1 a ha).2
    have hk2 : kOks hc L ((encb w0).toList ++ rest) := ⟨fun q hq => (hk'.1 q hq).mono hkd, fun x hx => by
      rcases List.mem_append.mp hx with hx | hx
      · exact hok x (by simpa using hx)
      · exact (hk'.2 x hx).mono hkd⟩
    have hg := kk w0 hc r h' hw ρ' T'.heap (locs ++ Lc) ls hI' (by rw [klveq hk'.1 hag]; exact hlv) hk2
    obtain ⟨t2, a1, b1⟩ := hg T' rfl X'
    refine ⟨t2, stp t2 ?_, b1⟩
    have hst : (((encb w0).map (ktr ρ')).toList ++ rest.map (ktr ρ)) = ((encb w0).toList ++ rest).map (ktr ρ') := by
      rw [List.map_append, kmapeq hk'.2 hag]
      cases encb w0 <;> rfl
    show Steps _ _ _ (T'.setTop (F0 (xm X) (pc + 3) ls (((encb w0).map (ktr ρ')).toList ++ rest.map (ktr ρ)))) t2
    rw [hst]
    exact a1
  · cases he
end KSI
/-! the law itself: three keepers, each from the script alone -/
theorem kwKeep : Cond.methodLink RL 197 yL_keeper ∈ kT := kT_of 40 (by decide +kernel) (by decide +kernel)
def f_L_law (h : KH) : KO Int32 := kbinI (f_L_keeper 41 0 (kcut h)) (fun x1 h1 => kif (x1 = 0) (kretZ 0 h1) (kbinI (f_L_keeper 41 240 (kcut h1)) (fun x2 h2 => kif (x2 = 0) (kretZ 0 h2) (kbinI (f_L_keeper 41 480 (kcut h2)) (fun x3 h3 => kif (x3 = 0) (kretZ 0 h3) (kretZ 1 h3))))))
set_option maxHeartbeats 4000000 in
set_option maxRecDepth 100000 in
theorem t_L_law {X : KX} (hC : kC X RL cL_law 1 (some .boolean)) (hmc : xmc X = 600130) (hms : xms X = 7301080) (hD : xD X = 12) (hx : ∀ a, kd (xh X) a ≠ 0 → a = 41 ∧ kd (xh X) 41 = 32) (hx2 : kd (xh X) 41 ≠ 0) (h : KH) : kJ X encI 1 0 0 [(0, .inr (.inr (some 41)))] [] 0 h (f_L_law h) := by
  have hL : ∀ q ∈ ([(0, .inr (.inr (some 41)))] : List (Nat × KV)), ∀ a, q.2 = .inr (.inr (some a)) → a = 41 := by
    intro q hq a e
    obtain rfl := List.mem_singleton.mp hq
    cases e
    rfl
  have no : ∀ (cells slots : Nat) (h : KH), cells ≤ 600130 → slots ≤ 7301080 → kJ X encI 1 cells slots [(0, .inr (.inr (some 41)))] [] 32 h (kretZ 0 h) := by
    intro cells slots h h1 h2
    refine kj_iconst (v := 0) hC dL_law_32 (by decide) ?_
    refine kj_widen (k := 600130) (n := 7301080) h1 h2 ?_
    refine kj_fin hmc hms ?_
    exact kj_zreturn hC dL_law_33
  unfold f_L_law
  refine kj_cut hx hx2 hL (fun hh => ?_)
  refine kj_aloadn hC 0 dL_law_0 rfl rfl ?_
  refine kj_iconst (v := 0) hC dL_law_1 (by decide) ?_
  refine kj_invSI (as := [.inr (.inr (some 41)), .inl 0]) (rest := []) hC dL_law_2 kwKeep ky_L_keeper ky2_L_keeper (t_L_keeper 41 0 (kcut h) hh) rfl rfl (Nat.le_of_ble_eq_true rfl) ⟨by rw [hD]; decide, by decide⟩ ⟨by rw [hmc]; exact Nat.le_of_ble_eq_true rfl, by rw [hms]; exact Nat.le_of_ble_eq_true rfl⟩ (fun x1 h1 => ?_)
  refine kj_norm (st' := [.inl x1]) (c' := 1564) (z' := 25412) rfl rfl rfl ?_
  refine kj_if_eq (tgt := 32) hC dL_law_5 (by decide) (fun _ => ?_) (fun _ => ?_)
  · exact no _ _ _ (Nat.le_of_ble_eq_true rfl) (Nat.le_of_ble_eq_true rfl)
  refine kj_cut hx hx2 hL (fun hh => ?_)
  refine kj_aloadn hC 0 dL_law_8 rfl rfl ?_
  refine kj_sipush (v := 240) hC dL_law_9 (by decide) ?_
  refine kj_invSI (as := [.inr (.inr (some 41)), .inl 240]) (rest := []) hC dL_law_12 kwKeep ky_L_keeper ky2_L_keeper (t_L_keeper 41 240 (kcut h1) hh) rfl rfl (Nat.le_of_ble_eq_true rfl) ⟨by rw [hD]; decide, by decide⟩ ⟨by rw [hmc]; exact Nat.le_of_ble_eq_true rfl, by rw [hms]; exact Nat.le_of_ble_eq_true rfl⟩ (fun x2 h2 => ?_)
  refine kj_norm (st' := [.inl x2]) (c' := 3128) (z' := 50824) rfl rfl rfl ?_
  refine kj_if_eq (tgt := 32) hC dL_law_15 (by decide) (fun _ => ?_) (fun _ => ?_)
  · exact no _ _ _ (Nat.le_of_ble_eq_true rfl) (Nat.le_of_ble_eq_true rfl)
  refine kj_cut hx hx2 hL (fun hh => ?_)
  refine kj_aloadn hC 0 dL_law_18 rfl rfl ?_
  refine kj_sipush (v := 480) hC dL_law_19 (by decide) ?_
  refine kj_invSI (as := [.inr (.inr (some 41)), .inl 480]) (rest := []) hC dL_law_22 kwKeep ky_L_keeper ky2_L_keeper (t_L_keeper 41 480 (kcut h2) hh) rfl rfl (Nat.le_of_ble_eq_true rfl) ⟨by rw [hD]; decide, by decide⟩ ⟨by rw [hmc]; exact Nat.le_of_ble_eq_true rfl, by rw [hms]; exact Nat.le_of_ble_eq_true rfl⟩ (fun x3 h3 => ?_)
  refine kj_norm (st' := [.inl x3]) (c' := 4692) (z' := 76236) rfl rfl rfl ?_
  refine kj_if_eq (tgt := 32) hC dL_law_25 (by decide) (fun _ => ?_) (fun _ => ?_)
  · exact no _ _ _ (Nat.le_of_ble_eq_true rfl) (Nat.le_of_ble_eq_true rfl)
  refine kj_iconst (v := 1) hC dL_law_28 (by decide) ?_
  refine kj_goto (tgt := 33) hC dL_law_29 (by decide) ?_
  refine kj_widen (k := 600130) (n := 7301080) (Nat.le_of_ble_eq_true rfl) (Nat.le_of_ble_eq_true rfl) ?_
  refine kj_fin hmc hms ?_
  exact kj_zreturn hC dL_law_33
/-- the script's cell, and nothing else -/
def hS (L : Nat) (xs : Nat → Int32) : KH := kmk (fun a => if a = 41 then 32 else 0) (fun a => if a = 41 then L else 0) (fun a k => if a = 41 then xs k else 0) (fun _ _ => 0) (fun _ _ => none) 0
theorem hS_d {L : Nat} {xs : Nat → Int32} {a : Nat} (h : kd (hS L xs) a ≠ 0) : a = 41 := by
  by_cases e : a = 41
  · exact e
  · exact absurd (if_neg e) h
theorem hS_41 (L : Nat) (xs : Nat → Int32) : kd (hS L xs) 41 = 32 := by
  show (if (41 : Nat) = 41 then 32 else 0) = 32
  rw [if_pos rfl]
theorem frame_forget {s t : State} {o : Outcome} {L : List Loc} {k n : Nat} (h : FrameEnd s o t L k n) (hL : ∀ q ∈ L, s.heap.size ≤ q.base) : Framed s o t [] k n := by
  obtain ⟨h1, h2, h3, h4, h5, h6, h7, h8⟩ := h
  refine ⟨h1, h2, h3, h4, h5, h6, h7, fun a c hc => ?_⟩
  obtain ⟨c', g1, g2, g3, g4⟩ := h8 a c hc
  refine ⟨c', g1, g2, g3, fun i _ => g4 i (fun hm => ?_)⟩
  have h9 := hL _ hm
  have h10 := (Array.getElem?_eq_some_iff.mp hc).1
  exact absurd h10 (Nat.not_lt.mpr h9)
set_option maxHeartbeats 4000000 in
set_option maxRecDepth 100000 in
theorem whole_start_of (pure : ∀ (L : Nat) (xs : Nat → Int32), L ≤ 260 → ∃ h', f_L_law (hS L xs) = some (.inr 1, h'))
    {p : Program} {e : Env} {s : State} {m : MethodId} {below : List Frame} {meth : Method} {c : Code} (l : Launch) (hflags : l.flags = flags0) {b L : Nat} {xs : Nat → Int32} (hL : L ≤ 260) (C0 : lw_At p s m meth c b L xs) : W p l e room_1 s m #[Value.ref b] below meth c s.heap [] 0 0 (lw_Z below #[Value.ref b] s) (entryFrame m ([Value.ref b] : List Value).toArray 1) := by
  obtain ⟨hx, hb, hr, hml, hown, hts, ⟨scr, x1, x2, x3, x4, x5⟩, hbl, hlocks, hgv⟩ := id C0
  obtain ⟨G, hK, hG⟩ := kst_K hts hgv x2
  have hZ := kst_Z hts hgv
  let X : KX := (p, l, e, room_1, s, m, #[Value.ref b], below, meth, c, G, (fun q => s.heap.size ≤ q), hS L xs, (fun _ => b), 600130, 7301080, 12)
  have hC : kC X RL cL_law 1 (some .boolean) := ⟨hx, hb, hml, hr, hlocks, hown, fun w hw => hts w (List.mem_filter.mp hw).1, hK, hZ, by show (!l.flags.contains noTraceFlag) = false; rw [hflags]; decide +kernel, fun q hq => hq, by show 12 ≤ 14; decide, by show 40 * 12 ≤ 598; decide, Nat.le_refl _, Nat.le_refl _⟩
  obtain ⟨h', hp⟩ := pure L xs hL
  have hI : kInv X (fun _ => b) (hS L xs) s.heap [] := by
    refine ⟨⟨fun a ha => ?_, fun a a' ha ha' _ => (hS_d ha).trans (hS_d ha').symm, fun a k b ha hkr => by cases hkr⟩, va_S.rf, fun a ha ha2 => ?_, fun a _ => ⟨rfl, rfl⟩, fun a ha hb => absurd hb ha⟩
    · obtain rfl := hS_d ha
      refine ⟨hbl, fun ci q hq hk => ?_, fun ty hty => ?_, fun _ => ?_⟩
      · rw [hS_41] at hk
        have := kCl_lt hq
        omega
      · rw [hS_41] at hty
        cases hty
      · exact ⟨scr, x1, hG.symm, x2.1, x3, x4, x5⟩
    · obtain rfl := hS_d ha
      exact absurd (hS_41 L xs) ha2
  have hJ := t_L_law hC rfl rfl rfl (fun a ha => ⟨hS_d ha, hS_41 L xs⟩) (by show kd (hS L xs) 41 ≠ 0; rw [hS_41]; decide) (hS L xs)
  have hl := lv_entry ([.ref b]) (n := 1) (Nat.le_of_ble_eq_true rfl)
  rw [lg_entry_eq]
  have hW := hJ (.inr 1) h' hp (fun _ => b) s.heap [] _ hI hl ⟨fun q hq a ha => by
    obtain rfl := List.mem_singleton.mp hq
    cases ha
    show kd (hS L xs) 41 ≠ 0
    rw [hS_41]
    decide, fun v hv => by cases hv⟩
  intro T hT X0
  obtain ⟨t, a1, o, b1, b2, b3⟩ := hW T hT X0
  refine ⟨t, a1, o, b1, b2, ?_⟩
  rcases b3 with ⟨⟨v, ρ', e1, e2, -, -⟩, L', f1, f2⟩ | ⟨q, -, E, ce, L', ⟨e9, ρ', e1, -⟩, -⟩
  · cases e1
    exact ⟨e2, frame_forget f1 f2⟩
  · cases e1
