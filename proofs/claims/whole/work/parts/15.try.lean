/-! a method that calls under a table of its own, whose handlers are 'astore; iconst; ireturn' -/
def kcatchV {α β : Type} (c b : Nat) (h : KH) (x : KO α) (hand : Nat → KH → KO β) (k : α → KH → KO β) : KO β := if kd h b = c then kcatch x hand k else none
def kMX {α : Type} (y : MethodName) (bytes : ByteArray) (maxL : Nat) (ret : Option FieldType) (hh : List (Nat × Nat × Nat × Nat)) (D mc ms : Nat) (enc : α → Option KV) (as : List KV) (h : KH) (w : KO α) : Prop :=
  ∀ (l : Launch) (G : KG) (ρ : Nat → Nat) (sz : Nat) (r : Nat ⊕ α) (h' : KH), l.stackTraces = false → w = some (r, h') → (∀ v ∈ as, kOk h v) →
    vx_Met l y (Cond.codeWith y bytes maxL ret hh :: kT) { frames := D, cells := mc, slots := ms, locals := 30 * D }
      (va_Pc (as.map (ktr ρ)) (fun U => U.heap.size = sz ∧ kRep G ρ h U.heap ∧ kK G U ∧ kZ (kA h ρ sz) U U.heap))
      (kQc enc G (kA h ρ sz) h ρ r h') (kXC G (kA h ρ sz) h ρ r h') mc ms (kA h ρ sz)
theorem kMX_of {α : Type} {y : MethodName} {bytes : ByteArray} {maxL : Nat} {ret : Option FieldType} {hh : List (Nat × Nat × Nat × Nat)} {D mc ms : Nat} {enc : α → Option KV} {as : List KV} {h : KH} {w : KO α} (own : String) (hy : plainName y.cls = true) (ho : y.cls = own) (hlen : (as.map kcat).sum ≤ maxL) (L : List (Nat × KV)) (hL : kargs 0 as = L)
    (body : ∀ X : KX, kC X own bytes maxL ret → (xc X).exceptionTable.toList = tableOf hh → xmc X = mc → xms X = ms → xD X = D → kJ X enc maxL 0 0 L [] 0 h w) : kMX y bytes maxL ret hh D mc ms enc as h w := by
  subst hL
  subst ho
  intro l G ρ sz r h' hl hw hok
  refine vx_ofWH (cc := bytes) (maxL := maxL) (ret := ret) (hh := hh) hy rfl ?_
  intro p e s m args below meth c s₁ B hml hv
  obtain ⟨rfl, hsz, hrep, hK, hZ⟩ := hv
  subst hsz
  have hts := atoms_spec (ws := Cond.codeWith y bytes maxL ret hh :: kT) B.pre
  have hown : s.vm.findClass y.cls = some m.cls := findClass_of_methodNamed B.named
  have htab := vx_table (x := y) B (hts _ List.mem_cons_self)
  let X : KX := (p, l, e, { frames := D, cells := mc, slots := ms, locals := 30 * D }, s, m, ((as.map (ktr ρ)).toArray), below, meth, c, G, kA h ρ s.heap.size, h, ρ, mc, ms, D)
  have hC : kC X y.cls bytes maxL ret := ⟨B.exec, B.bytes, hml, B.returns, B.notSynchronized, hown, fun w hw => hts w (List.mem_cons_of_mem _ hw), hK, hZ, hl, fun q hq => Or.inr hq, Nat.le_refl _, Nat.le_refl _, Nat.le_refl _, Nat.le_refl _⟩
  have hJ := body X hC htab rfl rfl rfl
  have hlv := lv_entry (as.map (ktr ρ)) (n := maxL) (by rw [klg]; exact hlen)
  rw [lg_entry_eq]
  rw [← kargs_ok] at hlv
  exact hJ r h' hw ρ s.heap [] _ ⟨hrep, va_S.rf, fun a ha => Or.inl ⟨a, ha, rfl⟩, fun a _ => ⟨rfl, rfl⟩, fun a h1 h2 => absurd h2 h1⟩ hlv ⟨fun q hq => hok _ (kargs_mem _ _ _ hq), fun v hv => by cases hv⟩
section KTRY
variable {β : Type} {X : KX} {encb : β → Option KV} {own : String} {cc : ByteArray} {nL : Nat} {cells slots : Nat} {L : List (Nat × KV)} {st rest as : List KV} {pc : Nat} {h : KH}
variable {index maxL n D mcc msc b ci : Nat} {y : MethodName} {bytes : ByteArray} {rt : Option FieldType} {q : vw_C} {wc : KO β} {cont : β → KH → KO Int32} {hand : Nat → KH → KO Int32}
abbrev encI : Int32 → Option KV := fun x => some (.inl x)
/-- what a handler does: it drops the exception and answers k -/
def kHand (cc : ByteArray) (nL hp : Nat) (k : Int32) : Prop := ∃ (i : Nat) (p1 p2 : Nat), i < nL ∧ ((∃ j : Fin 4, (j : Nat) = i ∧ decode cc hp = .ok (.astore_n j, 1) ∧ p1 = hp + 1) ∨ (decode cc hp = .ok (.astore i, 2) ∧ p1 = hp + 2)) ∧ (∃ z : Int, decode cc p1 = .ok (.iconst z, 1) ∧ Int32.ofInt z = k) ∧ p2 = p1 + 1 ∧ decode cc p2 = .ok (.ireturn, 1)
theorem kj_hand (hC : kC X own cc nL (some .int)) {hp : Nat} {k : Int32} (hH : kHand cc nL hp k) {r : Nat ⊕ Int32} {h' hc : KH} {ρ : Nat → Nat} {H : Heap} {locs : List Loc} {ls : Array Slot} {qa : Nat} (hI : kInv X ρ hc H locs) (hl : lv_has ls nL (klv ρ L)) (hw : (kret k hc : KO Int32) = some (r, h')) (hb : cells ≤ xmc X ∧ slots ≤ xms X) :
    kW X encI cells slots r h' H locs (F0 (xm X) hp ls [.ref qa]) := by
  cases hw
  obtain ⟨i, p1, p2, hi, h1, ⟨z, h2, h3⟩, h4, h5⟩ := hH
  subst h4
  have fin : ∀ ls' : Array Slot, kW X encI cells slots (.inr k) h' H locs (F0 (xm X) p1 ls' []) := by
    intro ls'
    refine lv_iconst (v := k) hC.1 hC.2.1 h2 h3 ?_
    refine W.widen hb.1 hb.2 ?_
    exact vx_ret (W.iret hC.1 hC.2.1 hC.2.2.2.1 (kFin_of (enc := encI) (g := F0 (xm X) (p1 + 1) ls' []) rfl hI (fun u hu => by cases hu; exact kOk_i _ _)) hI.2.1.2.2 h5 hC.2.2.2.2.1)
  rcases h1 with ⟨j, hj, hd, rfl⟩ | ⟨hd, rfl⟩
  · exact lv_astore_n hC.1 hC.2.1 hd hj hl hi rfl (fun ls' _ => fin ls')
  · exact lv_astore hC.1 hC.2.1 hd hl hi rfl (fun ls' _ => fin ls')
/-- the handler that takes the exception e -/
def kTakes (own : String) (cc : ByteArray) (nL : Nat) (tab : List ExceptionTableEntry) (pc e : Nat) (k : Int32) : Prop :=
  ∃ (pre : List ExceptionTableEntry) (x : ExceptionTableEntry) (suf : List ExceptionTableEntry), tab = pre ++ x :: suf ∧ (∀ z ∈ pre, z.catchType ≠ 0 ∧ ∃ nm : String, Cond.classLink own z.catchType nm ∈ kT ∧ nm ∈ kExs ∧ kEx e ≠ nm) ∧ covers x pc = true ∧ x.catchType ≠ 0 ∧ Cond.classLink own x.catchType (kEx e) ∈ kT ∧ kHand cc nL x.handlerPc k
theorem kEx_exs (e : Nat) : kEx e ∈ kExs := by
  unfold kEx kExs
  split <;> simp
theorem kcast_in (e : Nat) : Cond.castable (kEx e) (kEx e) ∈ kNest := by
  have h : ∀ E ∈ kExs, Cond.castable E E ∈ lw_tbl := by decide +kernel
  exact List.mem_filter.mpr ⟨h _ (kEx_exs e), rfl⟩
theorem kj_tryV (hC : kC X own cc nL (some .int)) {tab : List ExceptionTableEntry} (hT : (xc X).exceptionTable.toList = tab) (hd : decode cc pc = .ok (.invokevirtual index, 3)) (hl : Cond.methodLink own index y ∈ kT) (hy : kYok y bytes maxL rt n) (hy2 : Cond.instanceMethod y ∈ kT ∧ Cond.selects y.cls y y ∈ kT) (hq : vwCl[ci]? = some q) (hqc : q.1 = y.cls)
    (hM : kM y bytes maxL rt D mcc msc encb (.inr (.inr (some b)) :: as) h wc) (hn : as.length = n) (hst : as.reverse ++ .inr (.inr (some b)) :: rest = st) (hcat : (rest.map kcat).sum ≤ 8) (hroom : D + 1 ≤ xD X ∧ 19 + maxL ≤ 30) (hb : cells + mcc ≤ xmc X ∧ slots + msc ≤ xms X)
    (hx : ∀ e h1, hand e h1 = none ∨ ∃ k, hand e h1 = kret k h1 ∧ kTakes own cc nL tab pc e k)
    (kk : ∀ v h1, kJ X encI nL (cells + mcc) (slots + msc) L ((encb v).toList ++ rest) (pc + 3) h1 (cont v h1)) : kJ X encI nL cells slots L st pc h (kcatchV (ci + 1) b h wc hand cont) := by
  subst hst
  subst hT
  intro r h' hw ρ H locs ls hI hlv hk
  unfold kcatchV at hw
  split at hw
  · rename_i ha
    have hts : ∀ w ∈ kT, w.before (xar X) (xs X) = true := hC.2.2.2.2.2.2.1
    obtain ⟨rc, hc, hwc⟩ : ∃ rc hc, wc = some (rc, hc) := by
      rcases wc with _ | ⟨rc, hc⟩
      · cases hw
      · exact ⟨_, _, rfl⟩
    rw [hwc] at hw
    have hok : ∀ v ∈ (.inr (.inr (some b)) :: as : List KV), kOk h v := fun v hv => hk.2 v (by
      rcases List.mem_cons.mp hv with rfl | hv
      · exact List.mem_append_right _ List.mem_cons_self
      · exact List.mem_append_left _ (List.mem_reverse.mpr hv))
    have hMl := hM (xl X) (xG X) ρ H.size rc hc hC.2.2.2.2.2.2.2.2.2.1 hwc hok
    obtain ⟨cell, q1, q2, q3, -⟩ := (hI.1.1 b (by rw [ha]; exact Nat.succ_ne_zero _)).2.1 ci q hq ha
    have hfc := (hC.2.2.2.2.2.2.2.1.1 ci q hq).2.1
    obtain ⟨p1, p2⟩ := kPre (as := .inr (.inr (some b)) :: as) (D := 0) (mcc := 0) (msc := 0) (maxL := 0) hC hI
    have hr := vx_runV (p := xp X) (l := xl X) (e := xe X) (R := xR X) (s := xs X) (m := xm X) (args := xar X) (below := xbe X) (meth := xme X) (c := xc X) (H := H) (locs := locs) (cells := cells) (slots := slots) (b := ρ b) (As := as.map (ktr ρ)) (rest := rest.map (ktr ρ)) (g := F0 (xm X) pc ls (((as.reverse ++ .inr (.inr (some b)) :: rest)).map (ktr ρ)))
      (kFix hC) hMl (C := y.cls) ⟨kcallB (n := n) hC hl hy hroom, hts _ hy2.1, hts _ hy2.2⟩ ⟨p1, ⟨cell, q1, by rw [q3]; rfl, by rw [q2, ← hqc]; exact hfc⟩, p2⟩ rfl (by rw [List.length_map]; exact hn) hlv.1 (by
        show ((as.reverse ++ .inr (.inr (some b)) :: rest)).map (ktr ρ) = _
        rw [List.map_append, krev]; rfl) (lv_room (by rw [kcat_sum]; exact hcat)) hd (kfits hC hb)
    have hkr : kOks h L rest := ⟨hk.1, fun v hv => hk.2 v (List.mem_append_right _ (List.mem_cons_of_mem _ hv))⟩
    intro T hT0 Xs
    rcases hr T hT0 Xs with ⟨v, st₀, t, T', Lc, h0, X', hL, e1, e2, ⟨u, ρ', hu, hv, hok', hE⟩, stp⟩ | ⟨qa, st₀, t, T', Lc, E, ce, h0, X', hL, e1, e2, ⟨e, ρ', he, hEx, hE⟩, hce, hcv, hcl, stp⟩
    · cases hv
      subst hu
      have hI' := hI.back hC h0 e1 hE hL
      have hkd : ∀ a, kd h a ≠ 0 → kd hc a ≠ 0 := fun a ha => by rw [(hE.2.1 a ha).1]; exact ha
      have hag : ∀ a, kd h a ≠ 0 → ρ' a = ρ a := fun a ha => (hE.2.1 a ha).2
      have hk' : kOks hc L ((encb u).toList ++ rest) := ⟨fun q hq => (hkr.1 q hq).mono hkd, fun x hx => by
        rcases List.mem_append.mp hx with hx | hx
        · exact hok' x (by simpa using hx)
        · exact (hkr.2 x hx).mono hkd⟩
      have hg := kk u hc r h' hw ρ' T'.heap (locs ++ Lc) ls hI' (by rw [klveq hkr.1 hag]; exact hlv) hk'
      obtain ⟨t2, a1, b1⟩ := hg T' rfl X'
      refine ⟨t2, stp t2 ?_, b1⟩
      have hst : (((encb u).map (ktr ρ')).toList ++ rest.map (ktr ρ)) = ((encb u).toList ++ rest).map (ktr ρ') := by
        rw [List.map_append, kmapeq hkr.2 hag]
        cases encb u <;> rfl
      show Steps _ _ _ (T'.setTop (F0 (xm X) (pc + 3) ls (((encb u).map (ktr ρ')).toList ++ rest.map (ktr ρ)))) t2
      rw [hst]
      exact a1
    · subst he
      have hI' := hI.back hC h0 e1 hE hL
      have hag : ∀ a, kd h a ≠ 0 → ρ' a = ρ a := fun a ha => (hE.2.1 a ha).2
      have hw' : hand e hc = some (r, h') := hw
      rcases hx e hc with hn | ⟨k, hk2, pre, x, suf, htab, hpre, hcov, hct, hlk, hH⟩
      · rw [hn] at hw'
        cases hw'
      · rw [hk2] at hw'
        have hNc : ∀ nm ∈ kExs, E ≠ nm → va_Nc E nm (xs X) := fun nm hnm hne => hC.2.2.2.2.2.2.2.1.2.2.2.2.2.2 E (by rw [hEx]; exact kEx_exs e) nm hnm hne
        have hcat9 := vx_catch (p := xp X) (l := xl X) (e := xe X) (R := xR X) (s := xs X) (m := xm X) (args := xar X) (below := xbe X) (meth := xme X) (c := xc X) (H := T'.heap) (locs := locs ++ Lc) (cells := cells + mcc) (slots := slots + msc) (Q := kFin X encI r h') (pc := pc) (ls := ls) (rest := rest.map (ktr ρ)) (name := kEx e) (E := E) (ce := ce) (q := qa) hC.2.2.2.2.2.1 pre x suf htab
          (fun z hz => Or.inr ⟨(hpre z hz).1, by
            obtain ⟨nm, g1, g2, g3⟩ := (hpre z hz).2
            exact ⟨nm, hts _ g1, hNc nm g2 (by rw [hEx]; exact g3)⟩⟩) hcov hct (hts _ hlk) (by rw [hEx]; exact va_Nw.use rfl (hC.2.2.2.2.2.2.2.1.2.2.1 _ (kcast_in e))) (by rw [e1]; exact hce) hcv hcl
          (kj_hand (L := L) hC hH hI' (by rw [klveq hkr.1 hag]; exact hlv) hw' hb)
        obtain ⟨t2, a1, b1⟩ := hcat9 T' rfl X'
        exact ⟨t2, stp.trans a1, b1⟩
  · cases hw
end KTRY
