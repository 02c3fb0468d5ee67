def kYok (y : MethodName) (bytes : ByteArray) (maxL : Nat) (rt : Option FieldType) (n : Nat) : Prop := Cond.initialized y.cls ∈ kT ∧ Cond.code y bytes maxL rt ∈ kT ∧ y.cls ≠ "java/lang/invoke/MethodHandle" ∧ y.cls ≠ "java/lang/invoke/VarHandle" ∧ (parseMethodDescriptor y.desc).map (fun d => d.parameters.length) = some n
section KINV
variable {α β : Type} {X : KX} {enc : α → Option KV} {encb : β → Option KV} {own : String} {cc : ByteArray} {nL : Nat} {ret : Option FieldType} {cells slots : Nat} {L : List (Nat × KV)} {st rest as : List KV} {pc : Nat} {h : KH} {w : KO α}
variable {index maxL n D mcc msc b ci : Nat} {y : MethodName} {bytes : ByteArray} {rt : Option FieldType} {q : vw_C} {wc : KO β} {cont : β → KH → KO α}
theorem kcallB (hC : kC X own cc nL ret) (hl : Cond.methodLink own index y ∈ kT) (hy : kYok y bytes maxL rt n) (hroom : D + 1 ≤ xD X ∧ 19 + maxL ≤ 40) : CallB (xR X) (xs X) (xar X) own index y bytes maxL rt (Cond.code y bytes maxL rt :: kT) { frames := D, cells := mcc, slots := msc, locals := 40 * D } mcc msc n := by
  obtain ⟨h1, h2, h3, h4, h5⟩ := hy
  have hts : ∀ w ∈ kT, w.before (xar X) (xs X) = true := hC.2.2.2.2.2.2.1
  obtain ⟨r1, r2, -, -⟩ := hC.2.2.2.2.2.2.2.2.2.2.2
  exact callB_of (ws' := kT) n hts (kT_goodc h2) rfl rfl rfl (hts _ h1) (hts _ hl) ⟨h3, h4, h5⟩ ⟨Nat.le_trans hroom.1 r1, by show 8 + (maxL + 11) + 40 * D ≤ _; omega⟩
theorem kFix (hC : kC X own cc nL ret) : CallFix (xp X) (xm X) (xc X) cc nL (xs X) (xar X) kT own := ⟨hC.1, hC.2.1, hC.2.2.1, hC.2.2.2.2.2.1, hC.2.2.2.2.2.2.1⟩
theorem kfits (hC : kC X own cc nL ret) (hb : cells + mcc ≤ xmc X ∧ slots + msc ≤ xms X) : cells + mcc ≤ (xR X).cells ∧ slots + msc ≤ (xR X).slots := by
  obtain ⟨-, -, r3, r4⟩ := hC.2.2.2.2.2.2.2.2.2.2.2
  exact ⟨Nat.le_trans hb.1 r3, Nat.le_trans hb.2 r4⟩
theorem kbind_some {x : KO β} {k : β → KH → KO α} {u : (Nat ⊕ α) × KH} (hw : kbind x k = some u) : ∃ rc hc, x = some (rc, hc) := by
  rcases x with _ | ⟨e | v, hc⟩
  · cases hw
  · exact ⟨_, _, rfl⟩
  · exact ⟨_, _, rfl⟩
theorem kbinI_some {x : KO β} {k : β → KH → KO α} {u : (Nat ⊕ α) × KH} (hw : kbinI x k = some u) : ∃ v hc, x = some (.inr v, hc) ∧ k v hc = some u := by
  rcases x with _ | ⟨e | v, hc⟩
  · cases hw
  · cases hw
  · exact ⟨_, _, rfl, hw⟩
theorem krev (ρ : Nat → Nat) (as : List KV) : (as.reverse).map (ktr ρ) = (as.map (ktr ρ)).reverse := List.map_reverse
theorem kj_invV (hC : kC X own cc nL ret) (hT : kT0 X) (hd : decode cc pc = .ok (.invokevirtual index, 3)) (hl : Cond.methodLink own index y ∈ kT) (hy : kYok y bytes maxL rt n) (hy2 : Cond.instanceMethod y ∈ kT ∧ Cond.selects y.cls y y ∈ kT) (hq : kvCl[ci]? = some q) (hqc : q.1 = y.cls)
    (hM : kM y bytes maxL rt D mcc msc encb (.inr (.inr (some b)) :: as) h wc) (hn : as.length = n) (hst : as.reverse ++ .inr (.inr (some b)) :: rest = st) (hcat : (rest.map kcat).sum ≤ 8) (hroom : D + 1 ≤ xD X ∧ 19 + maxL ≤ 40) (hb : cells + mcc ≤ xmc X ∧ slots + msc ≤ xms X)
    (kk : ∀ v h1, kJ X enc nL (cells + mcc) (slots + msc) L ((encb v).toList ++ rest) (pc + 3) h1 (cont v h1)) : kJ X enc nL cells slots L st pc h (kcallV (ci + 1) b h wc cont) := by
  subst hst
  intro r h' hw ρ H locs ls hI hlv hk
  unfold kcallV at hw
  split at hw
  · rename_i ha
    obtain ⟨rc, hc, hwc⟩ := kbind_some hw
    rw [hwc] at hw
    have hts : ∀ w ∈ kT, w.before (xar X) (xs X) = true := hC.2.2.2.2.2.2.1
    have hok : ∀ v ∈ (.inr (.inr (some b)) :: as : List KV), kOk h v := fun v hv => hk.2 v (by
      rcases List.mem_cons.mp hv with rfl | hv
      · exact List.mem_append_right _ List.mem_cons_self
      · exact List.mem_append_left _ (List.mem_reverse.mpr hv))
    have hMl := hM (xl X) (xG X) ρ H.size rc hc hC.2.2.2.2.2.2.2.2.2.1 hwc hok
    obtain ⟨cell, q1, q2, q3, -⟩ := (hI.1.1 b (by rw [ha]; exact Nat.succ_ne_zero _)).2.1 ci q hq ha
    have hfc := (hC.2.2.2.2.2.2.2.1.1 ci q hq).2.1
    obtain ⟨p1, p2⟩ := kPre (as := .inr (.inr (some b)) :: as) (D := 0) (mcc := 0) (msc := 0) (maxL := 0) hC hI
    have hr := vx_runV (p := xp X) (l := xl X) (e := xe X) (R := xR X) (s := xs X) (m := xm X) (args := xar X) (below := xbe X) (meth := xme X) (c := xc X) (H := H) (locs := locs) (cells := cells) (slots := slots) (b := ρ b) (As := as.map (ktr ρ)) (rest := rest.map (ktr ρ)) (g := F0 (xm X) pc ls (((as.reverse ++ .inr (.inr (some b)) :: rest)).map (ktr ρ)))
      (kFix hC) hMl (C := y.cls) ⟨kcallB (n := n) hC hl hy hroom, hts _ hy2.1, hts _ hy2.2⟩ ⟨p1, ⟨cell, q1, by rw [q3]; rfl, by rw [q2, ← hqc]; exact hfc⟩, p2⟩ rfl (by rw [List.length_map]; exact hn) hlv.1 (by
        show ((as.reverse ++ .inr (.inr (some b)) :: rest)).map (ktr ρ) = _
        rw [List.map_append, krev]; rfl) (lv_room (by rw [kcat_sum]; exact hcat)) hd (kfits hC hb)
    exact kj_callK hC hT hr hI hlv ⟨hk.1, fun v hv => hk.2 v (List.mem_append_right _ (List.mem_cons_of_mem _ hv))⟩ hb hw (fun v hv => kk v hc)
  · cases hw
theorem kj_invS (hC : kC X own cc nL ret) (hT : kT0 X) (hd : decode cc pc = .ok (.invokestatic index, 3)) (hl : Cond.methodLink own index y ∈ kT) (hy : kYok y bytes maxL rt n) (hy2 : Cond.static y ∈ kT)
    (hM : kM y bytes maxL rt D mcc msc encb as h wc) (hn : as.length = n) (hst : as.reverse ++ rest = st) (hcat : (rest.map kcat).sum ≤ 8) (hroom : D + 1 ≤ xD X ∧ 19 + maxL ≤ 40) (hb : cells + mcc ≤ xmc X ∧ slots + msc ≤ xms X)
    (kk : ∀ v h1, kJ X enc nL (cells + mcc) (slots + msc) L ((encb v).toList ++ rest) (pc + 3) h1 (cont v h1)) : kJ X enc nL cells slots L st pc h (kbind wc cont) := by
  subst hst
  intro r h' hw ρ H locs ls hI hlv hk
  obtain ⟨rc, hc, hwc⟩ := kbind_some hw
  rw [hwc] at hw
  have hts : ∀ w ∈ kT, w.before (xar X) (xs X) = true := hC.2.2.2.2.2.2.1
  have hok : ∀ v ∈ as, kOk h v := fun v hv => hk.2 v (List.mem_append_left _ (List.mem_reverse.mpr hv))
  have hMl := hM (xl X) (xG X) ρ H.size rc hc hC.2.2.2.2.2.2.2.2.2.1 hwc hok
  have hr := vx_runS (p := xp X) (l := xl X) (e := xe X) (R := xR X) (s := xs X) (m := xm X) (args := xar X) (below := xbe X) (meth := xme X) (c := xc X) (H := H) (locs := locs) (cells := cells) (slots := slots) (As := as.map (ktr ρ)) (rest := rest.map (ktr ρ)) (g := F0 (xm X) pc ls (((as.reverse ++ rest)).map (ktr ρ)))
    (kFix hC) hMl ⟨kcallB (n := n) hC hl hy hroom, hts _ hy2⟩ (kPre (as := as) (D := 0) (mcc := 0) (msc := 0) (maxL := 0) hC hI) rfl (by rw [List.length_map]; exact hn) hlv.1 (by
      show ((as.reverse ++ rest)).map (ktr ρ) = _
      rw [List.map_append, krev]) (lv_room (by rw [kcat_sum]; exact hcat)) hd (kfits hC hb)
  exact kj_callK hC hT hr hI hlv ⟨hk.1, fun v hv => hk.2 v (List.mem_append_right _ hv)⟩ hb hw (fun v hv => kk v hc)
theorem kXC_no {G : KG} {A : Nat → Prop} {ρ : Nat → Nat} {v : β} {hc : KH} : ∀ E s t, ¬ kXC (α := β) G A h ρ (.inr v) hc E s t := fun E s t q => by
  obtain ⟨e, ρ', h1, -⟩ := q
  cases h1
theorem kj_invI (hC : kC X own cc nL ret) (hT : kT0 X) (hd : decode cc pc = .ok (.invokespecial index, 3)) (hl : Cond.methodLink own index y ∈ kT) (hy : kYok y bytes maxL none n) (hy2 : Cond.instanceMethod y ∈ kT) (hy3 : y.name = "<init>")
    (hM : kM y bytes maxL none D mcc msc encb (.inr (.inr (some b)) :: as) h wc) (hn : as.length = n) (hst : as.reverse ++ .inr (.inr (some b)) :: rest = st) (hcat : (rest.map kcat).sum ≤ 8) (hroom : D + 1 ≤ xD X ∧ 19 + maxL ≤ 40) (hb : cells + mcc ≤ xmc X ∧ slots + msc ≤ xms X)
    (kk : ∀ v h1, kJ X enc nL (cells + mcc) (slots + msc) L ((encb v).toList ++ rest) (pc + 3) h1 (cont v h1)) : kJ X enc nL cells slots L st pc h (kbinI wc cont) := by
  subst hst
  intro r h' hw ρ H locs ls hI hlv hk
  obtain ⟨v, hc, hwc, hw⟩ := kbinI_some hw
  have hts : ∀ w ∈ kT, w.before (xar X) (xs X) = true := hC.2.2.2.2.2.2.1
  have hok : ∀ v ∈ (.inr (.inr (some b)) :: as : List KV), kOk h v := fun v hv => hk.2 v (by
    rcases List.mem_cons.mp hv with rfl | hv
    · exact List.mem_append_right _ List.mem_cons_self
    · exact List.mem_append_left _ (List.mem_reverse.mpr hv))
  have hMl := kMet_of (hM (xl X) (xG X) ρ H.size (.inr v) hc hC.2.2.2.2.2.2.2.2.2.1 hwc hok) kXC_no
  have hr := va_runI (p := xp X) (l := xl X) (e := xe X) (R := xR X) (s := xs X) (m := xm X) (args := xar X) (below := xbe X) (meth := xme X) (c := xc X) (H := H) (locs := locs) (cells := cells) (slots := slots) (b := ρ b) (As := as.map (ktr ρ)) (rest := rest.map (ktr ρ)) (g := F0 (xm X) pc ls (((as.reverse ++ .inr (.inr (some b)) :: rest)).map (ktr ρ)))
    (kFix hC) hMl ⟨kcallB (n := n) hC hl hy hroom, hy3, hts _ hy2⟩ (kPre (as := .inr (.inr (some b)) :: as) (D := 0) (mcc := 0) (msc := 0) (maxL := 0) hC hI) rfl (by rw [List.length_map]; exact hn) hlv.1 (by
      show ((as.reverse ++ .inr (.inr (some b)) :: rest)).map (ktr ρ) = _
      rw [List.map_append, krev]; rfl) (lv_room (by rw [kcat_sum]; exact hcat)) hd (kfits hC hb)
  exact kj_callK (rc := .inr v) (cont := cont) hC hT (kRun_of hr) hI hlv ⟨hk.1, fun v hv => hk.2 v (List.mem_append_right _ (List.mem_cons_of_mem _ hv))⟩ hb hw (fun v hv => kk v hc)
/-! nest mates -/
theorem kcallN (hC : kC X own cc nL ret) {host : String} (hl : Cond.methodLinkNest own index y host ∈ kNest) (hy : kYok y bytes maxL rt n) (hroom : D + 1 ≤ xD X ∧ 19 + maxL ≤ 40) : va_CN (xR X) (xs X) (xar X) own index y host bytes maxL rt (Cond.code y bytes maxL rt :: kT) { frames := D, cells := mcc, slots := msc, locals := 40 * D } mcc msc n := by
  obtain ⟨h1, h2, h3, h4, h5⟩ := hy
  have hts : ∀ w ∈ kT, w.before (xar X) (xs X) = true := hC.2.2.2.2.2.2.1
  obtain ⟨r1, r2, -, -⟩ := hC.2.2.2.2.2.2.2.2.2.2.2
  exact va_cnB (ws' := kT) n hts (kT_goodc h2) rfl rfl rfl (hC.2.2.2.2.2.2.2.1.2.2.1 _ hl) (hts _ h1) ⟨h3, h4, h5⟩ ⟨Nat.le_trans hroom.1 r1, by show 8 + (maxL + 11) + 40 * D ≤ _; omega⟩
theorem kj_invIN (hC : kC X own cc nL ret) (hT : kT0 X) {host : String} (hd : decode cc pc = .ok (.invokespecial index, 3)) (hl : Cond.methodLinkNest own index y host ∈ kNest) (hy : kYok y bytes maxL none n) (hy2 : Cond.instanceMethod y ∈ kT) (hy3 : y.name = "<init>")
    (hM : kM y bytes maxL none D mcc msc encb (.inr (.inr (some b)) :: as) h wc) (hn : as.length = n) (hst : as.reverse ++ .inr (.inr (some b)) :: rest = st) (hcat : (rest.map kcat).sum ≤ 8) (hroom : D + 1 ≤ xD X ∧ 19 + maxL ≤ 40) (hb : cells + mcc ≤ xmc X ∧ slots + msc ≤ xms X)
    (kk : ∀ v h1, kJ X enc nL (cells + mcc) (slots + msc) L ((encb v).toList ++ rest) (pc + 3) h1 (cont v h1)) : kJ X enc nL cells slots L st pc h (kbinI wc cont) := by
  subst hst
  intro r h' hw ρ H locs ls hI hlv hk
  obtain ⟨v, hc, hwc, hw⟩ := kbinI_some hw
  have hts : ∀ w ∈ kT, w.before (xar X) (xs X) = true := hC.2.2.2.2.2.2.1
  have hok : ∀ v ∈ (.inr (.inr (some b)) :: as : List KV), kOk h v := fun v hv => hk.2 v (by
    rcases List.mem_cons.mp hv with rfl | hv
    · exact List.mem_append_right _ List.mem_cons_self
    · exact List.mem_append_left _ (List.mem_reverse.mpr hv))
  have hMl := kMet_of (hM (xl X) (xG X) ρ H.size (.inr v) hc hC.2.2.2.2.2.2.2.2.2.1 hwc hok) kXC_no
  have hr := va_runIN (p := xp X) (l := xl X) (e := xe X) (R := xR X) (s := xs X) (m := xm X) (args := xar X) (below := xbe X) (meth := xme X) (c := xc X) (H := H) (locs := locs) (cells := cells) (slots := slots) (b := ρ b) (As := as.map (ktr ρ)) (rest := rest.map (ktr ρ)) (g := F0 (xm X) pc ls (((as.reverse ++ .inr (.inr (some b)) :: rest)).map (ktr ρ)))
    (kFix hC) hMl ⟨kcallN (n := n) hC hl hy hroom, hy3, hts _ hy2⟩ (kPre (as := .inr (.inr (some b)) :: as) (D := 0) (mcc := 0) (msc := 0) (maxL := 0) hC hI) rfl (by rw [List.length_map]; exact hn) hlv.1 (by
      show ((as.reverse ++ .inr (.inr (some b)) :: rest)).map (ktr ρ) = _
      rw [List.map_append, krev]; rfl) (lv_room (by rw [kcat_sum]; exact hcat)) hd (kfits hC hb)
  exact kj_callK (rc := .inr v) (cont := cont) hC hT (kRun_of hr) hI hlv ⟨hk.1, fun v hv => hk.2 v (List.mem_append_right _ (List.mem_cons_of_mem _ hv))⟩ hb hw (fun v hv => kk v hc)
theorem kj_invSN (hC : kC X own cc nL ret) (hT : kT0 X) {host : String} (hd : decode cc pc = .ok (.invokestatic index, 3)) (hl : Cond.methodLinkNest own index y host ∈ kNest) (hy : kYok y bytes maxL rt n) (hy2 : Cond.static y ∈ kT)
    (hM : kM y bytes maxL rt D mcc msc encb as h wc) (hn : as.length = n) (hst : as.reverse ++ rest = st) (hcat : (rest.map kcat).sum ≤ 8) (hroom : D + 1 ≤ xD X ∧ 19 + maxL ≤ 40) (hb : cells + mcc ≤ xmc X ∧ slots + msc ≤ xms X)
    (kk : ∀ v h1, kJ X enc nL (cells + mcc) (slots + msc) L ((encb v).toList ++ rest) (pc + 3) h1 (cont v h1)) : kJ X enc nL cells slots L st pc h (kbinI wc cont) := by
  subst hst
  intro r h' hw ρ H locs ls hI hlv hk
  obtain ⟨v, hc, hwc, hw⟩ := kbinI_some hw
  have hts : ∀ w ∈ kT, w.before (xar X) (xs X) = true := hC.2.2.2.2.2.2.1
  have hok : ∀ v ∈ as, kOk h v := fun v hv => hk.2 v (List.mem_append_left _ (List.mem_reverse.mpr hv))
  have hMl := kMet_of (hM (xl X) (xG X) ρ H.size (.inr v) hc hC.2.2.2.2.2.2.2.2.2.1 hwc hok) kXC_no
  have hr := va_runSN (p := xp X) (l := xl X) (e := xe X) (R := xR X) (s := xs X) (m := xm X) (args := xar X) (below := xbe X) (meth := xme X) (c := xc X) (H := H) (locs := locs) (cells := cells) (slots := slots) (As := as.map (ktr ρ)) (rest := rest.map (ktr ρ)) (g := F0 (xm X) pc ls (((as.reverse ++ rest)).map (ktr ρ)))
    (kFix hC) hMl ⟨kcallN (n := n) hC hl hy hroom, hts _ hy2, trivial⟩ (kPre (as := as) (D := 0) (mcc := 0) (msc := 0) (maxL := 0) hC hI) rfl (by rw [List.length_map]; exact hn) hlv.1 (by
      show ((as.reverse ++ rest)).map (ktr ρ) = _
      rw [List.map_append, krev]) (lv_room (by rw [kcat_sum]; exact hcat)) hd (kfits hC hb)
  exact kj_callK (rc := .inr v) (cont := cont) hC hT (kRun_of hr) hI hlv ⟨hk.1, fun v hv => hk.2 v (List.mem_append_right _ hv)⟩ hb hw (fun v hv => kk v hc)
theorem kj_gNN (hC : kC X own cc nL ret) {idx ci k a : Nat} {host : String} {q : vw_C} {f : Nat → KO α} (hd : decode cc pc = .ok (.getfield idx, 3)) (hq : kvCl[ci]? = some q) (hk0 : k < q.2.2) (hf : Cond.fieldLinkNest own idx (q.2.1 k).1 (q.2.1 k).2.1 (q.2.1 k).2.2.1 host ∈ kNest) (hs : ksrt (kFt ci k) = 2) (kk : ∀ b, kJ X enc nL cells slots L (.inr (.inr (some b)) :: st) (pc + 3) h (f b)) : kJ X enc nL cells slots L (.inr (.inr (some a)) :: st) pc h (gN h a (ci + 1) k f) := by
  intro r h' hw ρ H locs ls hI hl hk
  unfold gN at hw
  split at hw
  · rename_i ha
    have hci := kCl_lt hq
    have ha0 : kd h a ≠ 0 := by rw [ha]; exact Nat.succ_ne_zero _
    obtain ⟨cell, q1, q2, q3, q4⟩ := (hI.1.1 a ha0).2.1 ci q hq ha
    obtain ⟨hS, hfc, kC, hkC, hkind⟩ := hC.2.2.2.2.2.2.2.1.1 ci q hq
    obtain ⟨cf, kf, fi, f0, hi, hsl⟩ := hS k hk0
    have hts : ∀ w ∈ kT, w.before (xar X) (xs X) = true := hC.2.2.2.2.2.2.1
    have hlk : (Cond.fieldLinkNest own idx (q.2.1 k).1 (q.2.1 k).2.1 (q.2.1 k).2.2.1 host).before (xar X) (xs X) = true := va_Nw.use rfl (hC.2.2.2.2.2.2.2.1.2.2.1 _ hf)
    cases ho : kR h a k with
    | none => rw [ho] at hw; cases hw
    | some b =>
      rw [ho] at hw
      refine va_Wgetf hC.1 hC.2.1 hC.2.2.2.2.2.1 hlk hi (u_facts hfc hkC (u_lays hts (kcls_in ci hci q hq) hk0) hi).1 q1 (by rw [q3]; exact fun h => by cases h) (v := kV ρ h a k (ksrt (kFt ci k))) (by rw [hsl, q4 k hk0]) rfl rfl hd ?_
      rw [hs, show kV ρ h a k 2 = va_rf ((kR h a k).map ρ) from rfl, ho]
      exact kk b r h' hw ρ H locs ls hI hl (hk.tail.push (kOk_r (hI.1.2.2 a k b ha0 ho)))
  · cases hw
end KINV
