/-! a method that calls under a table of its own, whose handlers are 'astore; iconst; ireturn' -/
def kMX {α : Type} (y : MethodName) (bytes : ByteArray) (maxL : Nat) (ret : Option FieldType) (hh : List (Nat × Nat × Nat × Nat)) (D mc ms : Nat) (enc : α → Option KV) (as : List KV) (h : KH) (w : KO α) : Prop :=
  ∀ (l : Launch) (G : KG) (ρ : Nat → Nat) (sz : Nat) (r : Nat ⊕ α) (h' : KH), l.stackTraces = false → w = some (r, h') → (∀ v ∈ as, kOk h v) →
    vx_Met l y (Cond.codeWith y bytes maxL ret hh :: kT) { frames := D, cells := mc, slots := ms, locals := 40 * D }
      (va_Pc (as.map (ktr ρ)) (fun U => U.heap.size = sz ∧ kRep G ρ h U.heap ∧ kK G U ∧ kZ (kA h ρ sz) U U.heap))
      (kQc enc G (kA h ρ sz) h ρ r h') (kXC G (kA h ρ sz) h ρ r h') mc ms (kA h ρ sz)
theorem kMX_of {α : Type} {y : MethodName} {bytes : ByteArray} {maxL : Nat} {ret : Option FieldType} {hh : List (Nat × Nat × Nat × Nat)} {D mc ms : Nat} {enc : α → Option KV} {as : List KV} {h : KH} {w : KO α} (own : String) (hy : plainName y.cls = true) (ho : y.cls = own) (hlen : (as.map kcat).sum ≤ maxL) (L : List (Nat × KV)) (hL : kargs 0 as = L)
    (body : ∀ X : KX, kC X own bytes maxL ret → (xme X).name = y.name → (xc X).exceptionTable.toList = tableOf hh → xmc X = mc → xms X = ms → xD X = D → kJ X enc maxL 0 0 L [] 0 h w) : kMX y bytes maxL ret hh D mc ms enc as h w := by
  subst hL
  subst ho
  intro l G ρ sz r h' hl hw hok
  refine vx_ofWH (cc := bytes) (maxL := maxL) (ret := ret) (hh := hh) hy rfl ?_
  intro p e s m args below meth c s₁ B hml hv
  obtain ⟨rfl, hsz, hrep, hK, hZ⟩ := hv
  subst hsz
  have hts := atoms_spec (ws := Cond.codeWith y bytes maxL ret hh :: kT) B.pre
  have hown : s.vm.findClass y.cls = some m.cls := findClass_of_methodNamed B.named
  have htab := vx_table (x := y) B (hts _ List.mem_cons_self)
  let X : KX := (p, l, e, { frames := D, cells := mc, slots := ms, locals := 40 * D }, s, m, ((as.map (ktr ρ)).toArray), below, meth, c, G, kA h ρ s.heap.size, h, ρ, mc, ms, D)
  have hC : kC X y.cls bytes maxL ret := ⟨B.exec, B.bytes, hml, B.returns, B.notSynchronized, hown, fun w hw => hts w (List.mem_cons_of_mem _ hw), hK, hZ, hl, fun q hq => Or.inr hq, Nat.le_refl _, Nat.le_refl _, Nat.le_refl _, Nat.le_refl _⟩
  have hJ := body X hC (name_of_methodNamed B.named B.method).1 htab rfl rfl rfl
  have hlv := lv_entry (as.map (ktr ρ)) (n := maxL) (by rw [klg]; exact hlen)
  rw [lg_entry_eq]
  rw [← kargs_ok] at hlv
  exact hJ r h' hw ρ s.heap [] _ ⟨hrep, va_S.rf, fun a ha h2 => Or.inl ⟨a, ha, h2, rfl⟩, fun a _ => ⟨rfl, rfl⟩, fun a h1 h2 => absurd h2 h1⟩ hlv ⟨fun q hq => hok _ (kargs_mem _ _ _ hq), fun v hv => by cases hv⟩
section KTRY
variable {β : Type} {X : KX} {encb : β → Option KV} {own : String} {cc : ByteArray} {nL : Nat} {cells slots : Nat} {L : List (Nat × KV)} {st rest as : List KV} {pc : Nat} {h : KH}
variable {index maxL n D mcc msc b ci : Nat} {y : MethodName} {bytes : ByteArray} {rt : Option FieldType} {q : vw_C} {wc : KO β} {cont : β → KH → KO Int32} {hand : Nat → KH → KO Int32}
abbrev encI : Int32 → Option KV := fun x => some (.inl x)
/-- what a handler does: it drops the exception and answers k -/
def kHand (cc : ByteArray) (nL hp : Nat) (k : Int32) : Prop := ∃ (i : Nat) (p1 p2 : Nat), i < nL ∧ ((∃ j : Fin 4, (j : Nat) = i ∧ decode cc hp = .ok (.astore_n j, 1) ∧ p1 = hp + 1) ∨ (decode cc hp = .ok (.astore i, 2) ∧ p1 = hp + 2)) ∧ ((∃ z : Int, decode cc p1 = .ok (.iconst z, 1) ∧ Int32.ofInt z = k ∧ p2 = p1 + 1) ∨ (∃ z : Int, decode cc p1 = .ok (.bipush z, 2) ∧ (Int8.ofInt z).toInt32 = k ∧ p2 = p1 + 2)) ∧ decode cc p2 = .ok (.ireturn, 1)
theorem kj_hand (hC : kC X own cc nL (some .int)) {hp : Nat} {k : Int32} (hH : kHand cc nL hp k) {r : Nat ⊕ Int32} {h' hc : KH} {ρ : Nat → Nat} {H : Heap} {locs : List Loc} {ls : Array Slot} {qa : Nat} (hI : kInv X ρ hc H locs) (hl : lv_has ls nL (klv ρ L)) (hw : (kret k hc : KO Int32) = some (r, h')) (hb : cells ≤ xmc X ∧ slots ≤ xms X) :
    kW X encI cells slots r h' H locs (F0 (xm X) hp ls [.ref qa]) := by
  cases hw
  obtain ⟨i, p1, p2, hi, h1, h2, h5⟩ := hH
  have fin : ∀ ls' : Array Slot, kW X encI cells slots (.inr k) h' H locs (F0 (xm X) p1 ls' []) := by
    intro ls'
    have back : kW X encI cells slots (.inr k) h' H locs (F0 (xm X) p2 ls' [.int k]) := by
      refine W.widen hb.1 hb.2 ?_
      exact vx_ret (W.iret hC.1 hC.2.1 hC.2.2.2.1 (kFin_of (enc := encI) (g := F0 (xm X) p2 ls' []) rfl hI (fun u hu => by cases hu; exact kOk_i _ _)) hI.2.1.2.2 h5 hC.2.2.2.2.1)
    rcases h2 with ⟨z, h2, h3, h4⟩ | ⟨z, h2, h3, h4⟩
    · subst h4
      exact lv_iconst (v := k) hC.1 hC.2.1 h2 h3 back
    · subst h4
      exact lv_bipush (v := k) hC.1 hC.2.1 h2 h3 back
  rcases h1 with ⟨j, hj, hd, rfl⟩ | ⟨hd, rfl⟩
  · exact lv_astore_n hC.1 hC.2.1 hd hj hl hi rfl (fun ls' _ => fin ls')
  · exact lv_astore hC.1 hC.2.1 hd hl hi rfl (fun ls' _ => fin ls')
/-- the handler that takes the exception e -/
def kTakes (own : String) (cc : ByteArray) (nL : Nat) (tab : List ExceptionTableEntry) (pc e : Nat) (k : Int32) : Prop :=
  ∃ (pre : List ExceptionTableEntry) (x : ExceptionTableEntry) (suf : List ExceptionTableEntry), tab = pre ++ x :: suf ∧ (∀ z ∈ pre, z.catchType ≠ 0 ∧ ∃ nm : String, Cond.classLink own z.catchType nm ∈ kT ∧ nm ∈ kExc ∧ kEx e ≠ nm) ∧ covers x pc = true ∧ x.catchType ≠ 0 ∧ Cond.classLink own x.catchType (kEx e) ∈ kT ∧ kHand cc nL x.handlerPc k
theorem kEx_exs (e : Nat) : kEx e ∈ kExs := by
  unfold kEx kExs
  split <;> simp
theorem kcast_in (e : Nat) : Cond.castable (kEx e) (kEx e) ∈ kNest := by
  have h : ∀ E ∈ kExs, Cond.castable E E ∈ lw_tbl := by decide +kernel
  exact List.mem_filter.mpr ⟨h _ (kEx_exs e), rfl⟩
theorem kj_tryV (hC : kC X own cc nL (some .int)) {tab : List ExceptionTableEntry} (hT : (xc X).exceptionTable.toList = tab) (hd : decode cc pc = .ok (.invokevirtual index, 3)) (hl : Cond.methodLink own index y ∈ kT) (hy : kYok y bytes maxL rt n) (hy2 : Cond.instanceMethod y ∈ kT ∧ Cond.selects y.cls y y ∈ kT) (hq : kvCl[ci]? = some q) (hqc : q.1 = y.cls)
    (hM : kM y bytes maxL rt D mcc msc encb (.inr (.inr (some b)) :: as) h wc) (hn : as.length = n) (hst : as.reverse ++ .inr (.inr (some b)) :: rest = st) (hcat : (rest.map kcat).sum ≤ 8) (hroom : D + 1 ≤ xD X ∧ 19 + maxL ≤ 40) (hb : cells + mcc ≤ xmc X ∧ slots + msc ≤ xms X)
    (hx : ∀ e h1, hand e h1 = none ∨ ∃ k, hand e h1 = kret k h1 ∧ kTakes own cc nL tab pc e k)
    (kk : ∀ v h1, kJ X encI nL (cells + mcc) (slots + msc) L ((encb v).toList ++ rest) (pc + 3) h1 (cont v h1)) : kJ X encI nL cells slots L st pc h (kcatchV (ci + 1) b h wc hand cont) := by
  subst hst
  subst hT
  intro r h' hw ρ H locs ls hI hlv hk
  unfold kcatchV at hw
  split at hw
  · rename_i ha
    have hts : ∀ w ∈ kT, w.before (xar X) (xs X) = true := hC.2.2.2.2.2.2.1
    obtain ⟨rc, hc, hwc⟩ : ∃ rc hc, wc = some (rc, hc) := by
      rcases wc with _ | ⟨rc, hc⟩
      · cases hw
      · exact ⟨_, _, rfl⟩
    rw [hwc] at hw
    have hok : ∀ v ∈ (.inr (.inr (some b)) :: as : List KV), kOk h v := fun v hv => hk.2 v (by
      rcases List.mem_cons.mp hv with rfl | hv
      · exact List.mem_append_right _ List.mem_cons_self
      · exact List.mem_append_left _ (List.mem_reverse.mpr hv))
    have hMl := hM (xl X) (xG X) ρ H.size rc hc hC.2.2.2.2.2.2.2.2.2.1 hwc hok
    obtain ⟨cell, q1, q2, q3, -⟩ := (hI.1.1 b (by rw [ha]; exact Nat.succ_ne_zero _)).2.1 ci q hq ha
    have hfc := (hC.2.2.2.2.2.2.2.1.1 ci q hq).2.1
    obtain ⟨p1, p2⟩ := kPre (as := .inr (.inr (some b)) :: as) (D := 0) (mcc := 0) (msc := 0) (maxL := 0) hC hI
    have hr := vx_runV (p := xp X) (l := xl X) (e := xe X) (R := xR X) (s := xs X) (m := xm X) (args := xar X) (below := xbe X) (meth := xme X) (c := xc X) (H := H) (locs := locs) (cells := cells) (slots := slots) (b := ρ b) (As := as.map (ktr ρ)) (rest := rest.map (ktr ρ)) (g := F0 (xm X) pc ls (((as.reverse ++ .inr (.inr (some b)) :: rest)).map (ktr ρ)))
      (kFix hC) hMl (C := y.cls) ⟨kcallB (n := n) hC hl hy hroom, hts _ hy2.1, hts _ hy2.2⟩ ⟨p1, ⟨cell, q1, by rw [q3]; rfl, by rw [q2, ← hqc]; exact hfc⟩, p2⟩ rfl (by rw [List.length_map]; exact hn) hlv.1 (by
        show ((as.reverse ++ .inr (.inr (some b)) :: rest)).map (ktr ρ) = _
        rw [List.map_append, krev]; rfl) (lv_room (by rw [kcat_sum]; exact hcat)) hd (kfits hC hb)
    have hkr : kOks h L rest := ⟨hk.1, fun v hv => hk.2 v (List.mem_append_right _ (List.mem_cons_of_mem _ hv))⟩
    intro T hT0 Xs
    rcases hr T hT0 Xs with ⟨v, st₀, t, T', Lc, h0, X', hL, e1, e2, ⟨u, ρ', hu, hv, hok', hE⟩, stp⟩ | ⟨qa, st₀, t, T', Lc, E, ce, h0, X', hL, e1, e2, ⟨e, ρ', he, hEx, hE⟩, hce, hcv, hcl, stp⟩
    · cases hv
      subst hu
      have hI' := hI.back hC h0 e1 hE hL
      have hkd : ∀ a, kd h a ≠ 0 → kd hc a ≠ 0 := fun a ha => by rw [(hE.2.1 a ha).1]; exact ha
      have hag : ∀ a, kd h a ≠ 0 → ρ' a = ρ a := fun a ha => (hE.2.1 a ha).2
      have hk' : kOks hc L ((encb u).toList ++ rest) := ⟨fun q hq => (hkr.1 q hq).mono hkd, fun x hx => by
        rcases List.mem_append.mp hx with hx | hx
        · exact hok' x (by simpa using hx)
        · exact (hkr.2 x hx).mono hkd⟩
      have hg := kk u hc r h' hw ρ' T'.heap (locs ++ Lc) ls hI' (by rw [klveq hkr.1 hag]; exact hlv) hk'
      obtain ⟨t2, a1, b1⟩ := hg T' rfl X'
      refine ⟨t2, stp t2 ?_, b1⟩
      have hst : (((encb u).map (ktr ρ')).toList ++ rest.map (ktr ρ)) = ((encb u).toList ++ rest).map (ktr ρ') := by
        rw [List.map_append, kmapeq hkr.2 hag]
        cases encb u <;> rfl
      show Steps _ _ _ (T'.setTop (F0 (xm X) (pc + 3) ls (((encb u).map (ktr ρ')).toList ++ rest.map (ktr ρ)))) t2
      rw [hst]
      exact a1
    · subst he
      have hI' := hI.back hC h0 e1 hE hL
      have hag : ∀ a, kd h a ≠ 0 → ρ' a = ρ a := fun a ha => (hE.2.1 a ha).2
      have hw' : hand e hc = some (r, h') := hw
      rcases hx e hc with hn | ⟨k, hk2, pre, x, suf, htab, hpre, hcov, hct, hlk, hH⟩
      · rw [hn] at hw'
        cases hw'
      · rw [hk2] at hw'
        have hNc : ∀ nm ∈ kExc, E ≠ nm → va_Nc E nm (xs X) := fun nm hnm hne => hC.2.2.2.2.2.2.2.1.2.2.2.2.2.2.1 E (by rw [hEx]; exact kEx_exs e) nm hnm hne
        have hcat9 := vx_catch (p := xp X) (l := xl X) (e := xe X) (R := xR X) (s := xs X) (m := xm X) (args := xar X) (below := xbe X) (meth := xme X) (c := xc X) (H := T'.heap) (locs := locs ++ Lc) (cells := cells + mcc) (slots := slots + msc) (Q := kFin X encI r h') (pc := pc) (ls := ls) (rest := rest.map (ktr ρ)) (name := kEx e) (E := E) (ce := ce) (q := qa) hC.2.2.2.2.2.1 pre x suf htab
          (fun z hz => Or.inr ⟨(hpre z hz).1, by
            obtain ⟨nm, g1, g2, g3⟩ := (hpre z hz).2
            exact ⟨nm, hts _ g1, hNc nm g2 (by rw [hEx]; exact g3)⟩⟩) hcov hct (hts _ hlk) (by rw [hEx]; exact va_Nw.use rfl (hC.2.2.2.2.2.2.2.1.2.2.1 _ (kcast_in e))) (by rw [e1]; exact hce) hcv hcl
          (kj_hand (L := L) hC hH hI' (by rw [klveq hkr.1 hag]; exact hlv) hw' hb)
        obtain ⟨t2, a1, b1⟩ := hcat9 T' rfl X'
        exact ⟨t2, stp.trans a1, b1⟩
  · cases hw
end KTRY
/-! a method that has a table is called -/
section KSX
variable {α β : Type} {X : KX} {enc : α → Option KV} {encb : β → Option KV} {own : String} {cc : ByteArray} {nL : Nat} {ret : Option FieldType} {cells slots : Nat} {L : List (Nat × KV)} {st rest as : List KV} {pc : Nat} {h : KH}
variable {index maxL n D mcc msc : Nat} {y : MethodName} {bytes : ByteArray} {rt : Option FieldType} {wc : KO β} {cont : β → KH → KO α}
theorem kj_invSX {hh : List (Nat × Nat × Nat × Nat)} (hC : kC X own cc nL ret) (hT : kT0 X) (hd : decode cc pc = .ok (.invokestatic index, 3)) (hl : Cond.methodLink own index y ∈ kT) (hy : kYokX y bytes maxL rt hh n) (hy2 : Cond.static y ∈ kT)
    (hM : kMX y bytes maxL rt hh D mcc msc encb as h wc) (hn : as.length = n) (hst : as.reverse ++ rest = st) (hcat : (rest.map kcat).sum ≤ 8) (hroom : D + 1 ≤ xD X ∧ 19 + maxL ≤ 40) (hb : cells + mcc ≤ xmc X ∧ slots + msc ≤ xms X)
    (kk : ∀ v h1, kJ X enc nL (cells + mcc) (slots + msc) L ((encb v).toList ++ rest) (pc + 3) h1 (cont v h1)) : kJ X enc nL cells slots L st pc h (kbind wc cont) := by
  subst hst
  intro r h' hw ρ H locs ls hI hlv hk
  obtain ⟨rc, hc, hwc⟩ := kbind_some hw
  rw [hwc] at hw
  have hts : ∀ w ∈ kT, w.before (xar X) (xs X) = true := hC.2.2.2.2.2.2.1
  have hok : ∀ v ∈ as, kOk h v := fun v hv => hk.2 v (List.mem_append_left _ (List.mem_reverse.mpr hv))
  have hMl := hM (xl X) (xG X) ρ H.size rc hc hC.2.2.2.2.2.2.2.2.2.1 hwc hok
  obtain ⟨h1, h2, h3, h4, h5⟩ := hy
  obtain ⟨r1, r2, -, -⟩ := hC.2.2.2.2.2.2.2.2.2.2.2
  have cw : vx_CSW (xR X) (xs X) (xar X) own index y bytes maxL rt hh (Cond.codeWith y bytes maxL rt hh :: kT) { frames := D, cells := mcc, slots := msc, locals := 40 * D } mcc msc n := by
    refine ⟨⟨rfl, rfl, Nat.le_trans hroom.1 r1, by show 8 + (maxL + 11) + 40 * D ≤ _; omega, pay_in hts (kT_goodc h2), List.mem_cons_self⟩, hts _ h2, hts _ h1, ⟨h3, h4⟩, fun sig hsig => ?_, hts _ hl, hts _ hy2⟩
    rw [hsig] at h5
    exact (Option.some.inj h5).symm
  have hr := vx_runSX (p := xp X) (l := xl X) (e := xe X) (R := xR X) (s := xs X) (m := xm X) (args := xar X) (below := xbe X) (meth := xme X) (c := xc X) (H := H) (locs := locs) (cells := cells) (slots := slots) (As := as.map (ktr ρ)) (rest := rest.map (ktr ρ)) (g := F0 (xm X) pc ls (((as.reverse ++ rest)).map (ktr ρ)))
    (kFix hC) hMl cw (kPre (as := as) (D := 0) (mcc := 0) (msc := 0) (maxL := 0) hC hI) rfl (by rw [List.length_map]; exact hn) hlv.1 (by
      show ((as.reverse ++ rest)).map (ktr ρ) = _
      rw [List.map_append, krev]) (lv_room (by rw [kcat_sum]; exact hcat)) hd (kfits hC hb)
  exact kj_callK hC hT hr hI hlv ⟨hk.1, fun v hv => hk.2 v (List.mem_append_right _ hv)⟩ hb hw (fun v hv => kk v hc)
end KSX
section KBORN
variable {α : Type} {X : KX} {enc : α → Option KV} {own : String} {cc : ByteArray} {nL : Nat} {ret : Option FieldType} {cells slots : Nat} {L : List (Nat × KV)} {st : List KV} {pc : Nat} {h : KH}
variable {index maxL D mcc msc : Nat} {y : MethodName} {bytes : ByteArray} {wc : KO Unit} {f : KH → KO α}
/-- the constructor, over its own cell alone; the script's cell (if any) stays -/
theorem kj_glue (hC : kC X own cc nL ret) (hh : ∀ a, kd h a ≠ 0 → a = 41 ∧ kd h a = 32) (hd : decode cc pc = .ok (.invokespecial index, 3)) (hl : Cond.methodLink own index y ∈ kT) (hy : kYok y bytes maxL none 0) (hy2 : Cond.instanceMethod y ∈ kT) (hy3 : y.name = "<init>")
    (hM : kM y bytes maxL none D mcc msc (fun _ : Unit => none) [.inr (.inr (some 0))] (al kE 10 0) wc) (hcat : ((.inr (.inr (some 0)) :: st : List KV).map kcat).sum ≤ 8) (hroom : D + 1 ≤ xD X ∧ 19 + maxL ≤ 40) (hb : cells + mcc ≤ xmc X ∧ slots + msc ≤ xms X)
    (kk : ∀ h2, kJ X enc nL (cells + mcc) (slots + msc) L (.inr (.inr (some 0)) :: st) (pc + 3) h2 (f h2)) : kJ X enc nL cells slots L (.inr (.inr (some 0)) :: .inr (.inr (some 0)) :: st) pc (al (sX h 0) 10 0) (kinitG h wc f) := by
  intro r h' hw ρ H locs ls hI hlv hk
  have hE0 : kd (al (sX h 0) 10 0) 0 = 10 := rfl
  have hE1 : ∀ a, a ≠ 0 → kd (al (sX h 0) 10 0) a = kd h a := fun a ha => by
    show (if a = 0 then 10 else kd h a) = kd h a
    exact if_neg ha
  obtain ⟨x0, hwc, hx41, hh0, hw⟩ : ∃ x0, wc = some (.inr (), x0) ∧ kd x0 41 = 0 ∧ kd h 0 = 0 ∧ f (kglue h x0) = some (r, h') := by
    unfold kinitG at hw
    split at hw
    · rename_i u x0
      split at hw
      · rename_i q
        exact ⟨x0, rfl, q.1, q.2, hw⟩
      · cases hw
    · cases hw
  have hts : ∀ w ∈ kT, w.before (xar X) (xs X) = true := hC.2.2.2.2.2.2.1
  have hA : ∀ q, (xs X).heap.size ≤ q → (xA X) q := hC.2.2.2.2.2.2.2.2.2.2.1
  obtain ⟨⟨r1, r2, r3⟩, i2, i3, i4, i5⟩ := hI
  -- the heap that the constructor sees
  have hk0 : ∀ a, kd (al kE 10 0) a ≠ 0 → a = 0 := fun a ha => by
    rw [kd_al] at ha
    by_cases e : a = kx kE
    · exact e
    · rw [if_neg e] at ha
      exact absurd rfl ha
  have hkE0 : kd (al kE 10 0) 0 = 10 := rfl
  have hkV : ∀ k s, kV ρ (al kE 10 0) 0 k s = kV ρ (al (sX h 0) 10 0) 0 k s := fun k s => (kal_V ρ kE 10 0 k s).trans (kal_V ρ (sX h 0) 10 0 k s).symm
  have hRs : kRep (xG X) ρ (al kE 10 0) H := by
    refine ⟨fun a ha => ?_, fun a b ha hb _ => (hk0 a ha).trans (hk0 b hb).symm, fun a k b ha hkr => ?_⟩
    · obtain rfl := hk0 a ha
      have q := r1 0 (by rw [hE0]; decide)
      exact ⟨q.1, q.2.same rfl (hkE0.trans hE0.symm) rfl (fun k s => hkV k s) rfl⟩
    · obtain rfl := hk0 a ha
      have e0 : kR (al kE 10 0) 0 k = none := by rw [kR_al]; exact if_pos rfl
      rw [e0] at hkr
      cases hkr
  have hPs : ∀ a, kd (al kE 10 0) a ≠ 0 → kd (al kE 10 0) a ≠ 32 → (xA X) (ρ a) := fun a ha _ => by
    obtain rfl := hk0 a ha
    exact i3 0 (by rw [hE0]; decide) (by rw [hE0]; decide)
  have hok : ∀ v ∈ ([.inr (.inr (some 0))] : List KV), kOk (al kE 10 0) v := fun v hv => by
    obtain rfl := List.mem_singleton.mp hv
    exact kOk_r (by rw [hkE0]; decide)
  have hMl := kMet_of (hM (xl X) (xG X) ρ H.size (.inr ()) x0 hC.2.2.2.2.2.2.2.2.2.1 hwc hok) kXC_no
  have hr := va_runI (p := xp X) (l := xl X) (e := xe X) (R := xR X) (s := xs X) (m := xm X) (args := xar X) (below := xbe X) (meth := xme X) (c := xc X) (H := H) (locs := locs) (cells := cells) (slots := slots) (b := ρ 0) (As := []) (rest := (.inr (.inr (some 0)) :: st : List KV).map (ktr ρ)) (g := F0 (xm X) pc ls ((.inr (.inr (some 0)) :: .inr (.inr (some 0)) :: st : List KV).map (ktr ρ)))
    (kFix hC) hMl ⟨kcallB (n := 0) hC hl hy hroom, hy3, hts _ hy2⟩ (kPre0 (as := [.inr (.inr (some 0))]) hC hRs i2 hPs) rfl rfl hlv.1 rfl (lv_room (by rw [kcat_sum]; exact hcat)) hd (kfits hC hb)
  intro T hT0 Xs
  obtain ⟨v, st₀, t, T', Lc, h0, X', hL, e1, e2, ⟨u, ρ', hu, hv, hok', hEnd⟩, stp⟩ := hr T hT0 Xs
  cases hv
  obtain ⟨j1, j2, j3, j4, j5⟩ := hEnd
  obtain ⟨s1, s2, s3⟩ := j1
  rw [h0] at j3 j4 j5
  have q0 := j2 0 (by rw [hkE0]; decide)
  have hx0 : kd x0 0 = 10 := q0.1.trans hkE0
  have h41 : kd h 41 ≠ 0 → ρ 41 < H.size ∧ ρ 41 ≠ ρ 0 := fun ha => by
    have ha' : kd (al (sX h 0) 10 0) 41 ≠ 0 := by rw [hE1 41 (by decide)]; exact ha
    exact ⟨(r1 41 ha').1, fun e => by have := r2 41 0 ha' (by rw [hE0]; decide) e; omega⟩
  have hnA : kd h 41 ≠ 0 → ¬ kA (al kE 10 0) ρ H.size (ρ 41) := fun ha hq => by
    rcases hq with ⟨a, ha1, -, e⟩ | hq
    · obtain rfl := hk0 a ha1
      exact (h41 ha).2 e.symm
    · exact absurd (h41 ha).1 (Nat.not_lt.mpr hq)
  have hsub : ∀ q, kA (al kE 10 0) ρ H.size q → (xA X) q := by
    intro q hq
    rcases hq with ⟨a, ha, ha2, rfl⟩ | hq
    · exact hPs a ha ha2
    · exact hA q (Nat.le_trans i2.1 hq)
  have hgl : ∀ a, kd (kglue h x0) a = if a = 41 then kd h 41 else kd x0 a := fun _ => rfl
  let σ : Nat → Nat := fun a => if a = 41 then ρ 41 else ρ' a
  have hσ : ∀ a, a ≠ 41 → σ a = ρ' a := fun a ha => if_neg ha
  have hσ1 : σ 41 = ρ 41 := if_pos rfl
  have hno : ∀ a k b, kd x0 a ≠ 0 → kR x0 a k = some b → b ≠ 41 := fun a k b ha hkr e => by
    subst e
    exact s3 a k 41 ha hkr hx41
  have hold : ∀ a, a ≠ 41 → kd x0 a ≠ 0 → a ≠ 0 → H.size ≤ ρ' a := fun a _ ha hne => j3 a ha (by
    rw [kd_al]
    exact if_neg hne)
  have hI' : kInv X σ (kglue h x0) T'.heap (locs ++ Lc) := by
    refine ⟨⟨fun a ha => ?_, fun a b ha hb hab => ?_, fun a k b ha hkr => ?_⟩, ⟨Nat.le_trans i2.1 (by rw [e1]; exact j4), fun q h1 h2 => ?_, fun q hq => ?_⟩, fun a ha ha2 => ?_, fun a ha => ?_, fun a ha hb => ?_⟩
    · by_cases e : a = 41
      · subst e
        rw [hgl, if_pos rfl] at ha
        have ha' : kd (al (sX h 0) 10 0) 41 ≠ 0 := by rw [hE1 41 (by decide)]; exact ha
        have q := r1 41 ha'
        have hcell : T'.heap[ρ 41]? = H[ρ 41]? := by rw [e1]; exact j5 _ q.1 (hnA ha)
        refine ⟨by rw [hσ1, e1]; exact Nat.lt_of_lt_of_le q.1 j4, ?_⟩
        refine ⟨fun ci q' hq' hkk => ?_, fun ty hty => ?_, fun _ => ?_⟩
        · have h32 := (hh 41 ha).2
          rw [hgl, if_pos rfl, h32] at hkk
          have := kCl_lt hq'
          omega
        · have h32 := (hh 41 ha).2
          rw [hgl, if_pos rfl, h32] at hty
          cases hty
        · obtain ⟨scr, g1, g2⟩ := q.2.2.2 ((hE1 41 (by decide)).trans (hh 41 ha).2)
          rw [hσ1]
          exact ⟨scr, hcell.trans g1, g2⟩
      · rw [hgl, if_neg e] at ha
        have q := s1 a ha
        refine ⟨by rw [hσ a e, e1]; exact q.1, q.2.same (hσ a e) (by rw [hgl, if_neg e]) (by show (if a = 41 then _ else _) = _; rw [if_neg e]) (fun k s => ?_) (by rw [e1])⟩
        unfold kV
        split
        · show Value.int (if a = 41 then _ else _) = _
          rw [if_neg e]
        · show Value.long (if a = 41 then _ else _) = _
          rw [if_neg e]
        · show va_rf (Option.map σ (if a = 41 then _ else _)) = _
          rw [if_neg e]
          congr 1
          cases hkr : kR x0 a k with
          | none => rfl
          | some b => rw [Option.map_some, Option.map_some, hσ b (hno a k b ha hkr)]
    · rw [hgl] at ha hb
      by_cases ea : a = 41 <;> by_cases eb : b = 41
      · rw [ea, eb]
      · rw [if_pos ea] at ha
        rw [if_neg eb] at hb
        rw [ea, hσ1, hσ b eb] at hab
        by_cases b0 : b = 0
        · rw [b0, q0.2] at hab
          exact absurd hab (h41 ha).2
        · have := hold b eb hb b0
          have := (h41 ha).1
          omega
      · rw [if_neg ea] at ha
        rw [if_pos eb] at hb
        rw [eb, hσ1, hσ a ea] at hab
        by_cases a0 : a = 0
        · rw [a0, q0.2] at hab
          exact absurd hab.symm (h41 hb).2
        · have := hold a ea ha a0
          have := (h41 hb).1
          omega
      · rw [if_neg ea] at ha
        rw [if_neg eb] at hb
        rw [hσ a ea, hσ b eb] at hab
        exact s2 a b ha hb hab
    · by_cases e : a = 41
      · subst e
        rw [hgl, if_pos rfl] at ha
        have hkr2 : kR h 41 k = some b := hkr
        have ha' : kd (al (sX h 0) 10 0) 41 ≠ 0 := by rw [hE1 41 (by decide)]; exact ha
        have hb := r3 41 k b ha' (by rw [kR_al, if_neg (by show ¬ (41 = 0); decide)]; exact hkr2)
        rw [hgl]
        by_cases eb : b = 41
        · rw [if_pos eb]; exact ha
        · rw [if_neg eb]
          by_cases b0 : b = 0
          · rw [b0, hx0]; decide
          · rw [hE1 b b0] at hb
            exact absurd (hh b hb).1 eb
      · rw [hgl, if_neg e] at ha
        have hkr2 : kR x0 a k = some b := by
          have : kR (kglue h x0) a k = kR x0 a k := if_neg e
          rw [← this]; exact hkr
        rw [hgl, if_neg (hno a k b ha hkr2)]
        exact s3 a k b ha hkr2
    · rw [e1, j5 q (Nat.lt_of_lt_of_le h1 i2.1) (fun z => h2 (hsub q z))]
      exact i2.2.1 q h1 h2
    · rcases List.mem_append.mp hq with h1 | h1
      · exact i2.2.2 q h1
      · exact hsub _ (hL q h1)
    · by_cases e : a = 41
      · rw [hgl, if_pos e] at ha ha2
        exact absurd (hh 41 ha).2 ha2
      · rw [hgl, if_neg e] at ha
        rw [hσ a e]
        by_cases a0 : a = 0
        · rw [a0, q0.2]
          exact i3 0 (by rw [hE0]; decide) (by rw [hE0]; decide)
        · exact hA _ (Nat.le_trans i2.1 (hold a e ha a0))
    · obtain ⟨k1, k2⟩ := i4 a ha
      by_cases e : a = 41
      · subst e
        exact ⟨by rw [hgl, if_pos rfl, ← hE1 41 (by decide)]; exact k1, by rw [hσ1]; exact k2⟩
      · by_cases a0 : a = 0
        · subst a0
          exact ⟨by rw [hgl, if_neg e, hx0, ← hE0]; exact k1, by rw [hσ 0 e, q0.2]; exact k2⟩
        · rw [hE1 a a0] at k1
          exact absurd (hh a (by rw [k1]; exact ha)).1 e
    · by_cases e : a = 41
      · subst e
        rw [hgl, if_pos rfl] at ha
        rw [hσ1]
        exact i5 41 (by rw [hE1 41 (by decide)]; exact ha) hb
      · rw [hgl, if_neg e] at ha
        rw [hσ a e]
        by_cases a0 : a = 0
        · subst a0
          rw [q0.2]
          exact i5 0 (by rw [hE0]; decide) hb
        · exact Nat.le_trans i2.1 (hold a e ha a0)
  have hag : ∀ a, kd (al (sX h 0) 10 0) a ≠ 0 → σ a = ρ a ∧ kd (kglue h x0) a ≠ 0 := fun a ha => by
    by_cases e : a = 41
    · subst e
      rw [hE1 41 (by decide)] at ha
      exact ⟨hσ1, ha⟩
    · by_cases a0 : a = 0
      · subst a0
        exact ⟨by rw [hσ 0 e, q0.2], by rw [hgl, if_neg e, hx0]; decide⟩
      · rw [hE1 a a0] at ha
        exact absurd (hh a ha).1 e
  have hk2 : kOks (al (sX h 0) 10 0) L (.inr (.inr (some 0)) :: st) := ⟨hk.1, fun v hv => hk.2 v (List.mem_cons_of_mem _ hv)⟩
  have hg := kk (kglue h x0) r h' hw σ T'.heap (locs ++ Lc) ls hI' (by rw [klveq hk2.1 (fun a ha => (hag a ha).1)]; exact hlv) (hk2.mono (fun a ha => (hag a ha).2))
  obtain ⟨t2, a1, b1⟩ := hg T' rfl X'
  refine ⟨t2, stp t2 ?_, b1⟩
  rw [kmapeq hk2.2 (fun a ha => (hag a ha).1)] at a1
  exact a1
theorem kj_born (hC : kC X own cc nL ret) (hT : kT0 X) (hh : ∀ a, kd h a ≠ 0 → a = 41 ∧ kd h a = 32) {idx : Nat} (d0 : decode cc pc = .ok (.new idx, 3)) (d3 : decode cc (pc + 3) = .ok (.dup, 1)) (d4 : decode cc (pc + 4) = .ok (.invokespecial index, 3)) (hcl : Cond.classLink own idx "Tollkeeper" ∈ kT) (hins : Cond.instantiable "Tollkeeper" 17 ∈ kT) (hini : Cond.initialized "Tollkeeper" ∈ kT) (hl : Cond.methodLink own index yX9_init ∈ kT) (hy : kYok yX9_init bytes maxL none 0) (hy2 : Cond.instanceMethod yX9_init ∈ kT)
    (hM : kM yX9_init bytes maxL none D mcc msc (fun _ : Unit => none) [.inr (.inr (some 0))] (al kE 10 0) wc) (hroom : D + 1 ≤ xD X ∧ 19 + maxL ≤ 40) (hb1 : cells + 1 ≤ xmc X ∧ slots + 17 ≤ xms X) (hb : cells + 1 + mcc ≤ xmc X ∧ slots + 17 + msc ≤ xms X)
    (kk : ∀ h2, kJ X enc nL (cells + 1 + mcc) (slots + 17 + msc) L [.inr (.inr (some 0))] (pc + 7) h2 (f h2)) : kJ X enc nL cells slots L [] pc h (kinitG h wc f) := by
  have hh0 : kd h 0 = 0 := by
    by_cases e : kd h 0 = 0
    · exact e
    · have := (hh 0 e).1
      omega
  have e : kinitG h wc f = nw (sX h 0) 10 0 (fun a h1 => @ite _ (a = 0 ∧ h1 = al (sX h 0) 10 0) (Classical.propDecidable _) (kinitG h wc f) none) := by
    unfold nw
    rw [if_pos (show kd (sX h 0) (kx (sX h 0)) = 0 from hh0)]
    exact (@if_pos _ (Classical.propDecidable _) (⟨rfl, rfl⟩ : (0 : Nat) = 0 ∧ al (sX h 0) 10 0 = al (sX h 0) 10 0) _ _ _).symm
  rw [e]
  refine kj_ghost (n := 0) ?_
  refine kj_new (ci := 9) (q := (RX9, TX9, 17)) hC d0 rfl hcl hins hini hb1 (fun a h1 => ?_)
  by_cases q : a = 0 ∧ h1 = al (sX h 0) 10 0
  · rw [if_pos q]
    obtain ⟨rfl, rfl⟩ := q
    refine kj_dup hC d3 rfl ?_
    exact kj_glue hC hh d4 hl hy hy2 rfl hM (Nat.le_of_ble_eq_true rfl) hroom hb kk
  · rw [if_neg q]
    exact kj_none
/-- all but the script's cell is forgotten -/
theorem kj_cut (hx : ∀ a, kd (xh X) a ≠ 0 → a = 41 ∧ kd (xh X) 41 = 32) (hx2 : kd (xh X) 41 ≠ 0) (hL : ∀ q ∈ L, ∀ a, q.2 = .inr (.inr (some a)) → a = 41) {w : KO α} (kk : (∀ a, kd (kcut h) a ≠ 0 → a = 41 ∧ kd (kcut h) a = 32) → kJ X enc nL cells slots L [] pc (kcut h) w) : kJ X enc nL cells slots L [] pc h w := by
  intro r h' hw ρ H locs ls hI hl hk
  obtain ⟨⟨r1, r2, r3⟩, i2, i3, i4, i5⟩ := hI
  have h41 : kd h 41 = 32 := (i4 41 hx2).1.trans (hx 41 hx2).2
  have hc : ∀ a, kd (kcut h) a ≠ 0 → a = 41 := fun a ha => by
    by_cases e : a = 41
    · exact e
    · exact absurd (if_neg e) ha
  have hc1 : kd (kcut h) 41 = kd h 41 := by
    show (if (41 : Nat) = 41 then kd h 41 else 0) = _
    rw [if_pos rfl]
  refine kk (fun a ha => ⟨hc a ha, by rw [hc a ha, hc1]; exact h41⟩) r h' hw ρ H locs ls ⟨⟨fun a ha => ?_, fun a b ha hb _ => (hc a ha).trans (hc b hb).symm, fun a k b ha hkr => by cases hkr⟩, i2, fun a ha ha2 => ?_, fun a ha => ?_, fun a ha hb => ?_⟩ hl ⟨fun q hq a ha => ?_, fun v hv => by cases hv⟩
  · obtain rfl := hc a ha
    have q := r1 41 (by rw [h41]; decide)
    refine ⟨q.1, fun ci q' hq' hkk => ?_, fun ty hty => ?_, fun _ => ?_⟩
    · rw [hc1, h41] at hkk
      have := kCl_lt hq'
      omega
    · rw [hc1, h41] at hty
      cases hty
    · exact q.2.2.2 h41
  · obtain rfl := hc a ha
    exact i3 41 (by rw [h41]; decide) (by rw [← hc1]; exact ha2)
  · obtain rfl := (hx a ha).1
    exact ⟨hc1.trans (i4 41 ha).1, (i4 41 ha).2⟩
  · obtain rfl := hc a ha
    exact i5 41 (by rw [h41]; decide) hb
  · rw [hL q hq a ha, hc1, h41]
    decide
end KBORN
