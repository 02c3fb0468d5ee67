theorem kNw_decl {x : MethodName} {s U : State} (hW : s.WarmedH U.vm) (hz : va_Nw (.declares x) s) : va_Nw (.declares x) U := va_tabs rfl (rfl : (s.setVm U.vm).vm = U.vm) (by rw [Cond.declares_setVm hW.alike]; exact hz)
theorem kK.warm {G : KG} {s U : State} (hW : s.WarmedH U.vm) (h : kK G s) : kK G U := by
  obtain ⟨h1, h2, h3, h4, h5, h6, h7, h8⟩ := h
  refine ⟨fun ci q hq => u_Kn_moved hW.alike (h1 ci q hq), fun t ty ht => ⟨arrOfT_moved hW.alike (h2 t ty ht).1, (h2 t ty ht).2.moved hW.alike⟩, fun w hw => ?_, fun C hC => (h4 C hC).moved hW.alike, ?_, fun own k tx hm => ?_, ⟨fun C hC D hD hn => (h7 C hC D hD hn).moved hW.alike, arrOfT_moved hW.alike h8⟩⟩
  · have hw2 := (List.mem_filter.mp hw).2
    have hz := h3 w hw
    cases w <;> first
      | (cases hw2; done)
      | exact va_Nw.warmM hW hz
      | exact va_Nw.warmF hW hz
      | exact va_Nw.warmC hW hz
      | exact kNw_decl hW hz
  · obtain ⟨comp, c, k, g1, g2, g3, g4, g5⟩ := arrayOverA_spec h5
    obtain ⟨k', hk', he⟩ := hW.alike.2.2 _ _ g3
    have hi : (U.vm.classes.findIdx? fun (x : Class) => match x.kind with | .array component _ => component == comp | _ => false) = some c := by
      rw [hW.alike.findIdx?_eq _ (fun _ => rfl)]
      exact g2
    have hkind : k'.kind = .array comp (.array .int) := by rw [he]; exact g4
    have f1 : U.vm.findClass (FieldType.array .int).toString = some comp := by rw [hW.alike.findClass]; exact g1
    have f2 : U.vm.findClass ("[" ++ (FieldType.array .int).toString) = some c := by rw [hW.alike.findClass]; exact g5
    unfold Cond.before Cond.holds
    simp only [Cond.value]
    rw [f1, Option.bind_some]
    refine (congrArg (fun o : Option Nat => (o.bind (fun c => (U.vm.classes[c]?).map fun (k : Class) => match k.kind with | .array _ ty => decide (ty = FieldType.array .int) && decide (U.vm.findClass ("[" ++ (FieldType.array .int).toString) = some c) | _ => false) == some true)) hi).trans ?_
    simp [hk', hkind, f2]
  · obtain ⟨a, ha⟩ := h6 own k tx hm
    exact ⟨a, ha.warm hW⟩
/-- which cells a method may change: the abstract heap's, and those that come from sz on -/
def kA (h : KH) (ρ : Nat → Nat) (sz : Nat) : Nat → Prop := fun q => (∃ a, kd h a ≠ 0 ∧ kd h a ≠ 32 ∧ ρ a = q) ∨ sz ≤ q
/-- a method's contract: where w is defined, the machine comes to it -/
def kM {α : Type} (y : MethodName) (bytes : ByteArray) (maxL : Nat) (ret : Option FieldType) (D mc ms : Nat) (enc : α → Option KV) (as : List KV) (h : KH) (w : KO α) : Prop :=
  ∀ (l : Launch) (G : KG) (ρ : Nat → Nat) (sz : Nat) (r : Nat ⊕ α) (h' : KH), l.stackTraces = false → w = some (r, h') → (∀ v ∈ as, kOk h v) →
    vx_Met l y (Cond.code y bytes maxL ret :: kT) { frames := D, cells := mc, slots := ms, locals := 40 * D }
      (va_Pc (as.map (ktr ρ)) (fun U => U.heap.size = sz ∧ kRep G ρ h U.heap ∧ kK G U ∧ kZ (kA h ρ sz) U U.heap))
      (kQc enc G (kA h ρ sz) h ρ r h') (kXC G (kA h ρ sz) h ρ r h') mc ms (kA h ρ sz)
def kT0 (X : KX) : Prop := ∀ x ∈ (xc X).exceptionTable.toList, False
def kargs : Nat → List KV → List (Nat × KV)
  | _, [] => []
  | i, v :: vs => (i, v) :: kargs (if kcat v = 2 then i + 2 else i + 1) vs
theorem kargs_ok (ρ : Nat → Nat) : ∀ (vs : List KV) (i : Nat), klv ρ (kargs i vs) = lv_args i (vs.map (ktr ρ))
  | [], _ => rfl
  | v :: vs, i => by
    show (i, ktr ρ v) :: klv ρ (kargs _ vs) = (i, ktr ρ v) :: lv_args _ (vs.map (ktr ρ))
    rw [kargs_ok ρ vs, kcat_ok]
theorem kargs_mem : ∀ (vs : List KV) (i : Nat) (q : Nat × KV), q ∈ kargs i vs → q.2 ∈ vs
  | [], _, _, h => absurd h List.not_mem_nil
  | v :: vs, i, q, h => by
    rcases List.mem_cons.mp h with rfl | h
    · exact List.mem_cons_self
    · exact List.mem_cons_of_mem _ (kargs_mem vs _ q h)
theorem klg (ρ : Nat → Nat) : ∀ vs : List KV, (lg_sl (vs.map (ktr ρ))).length = (vs.map kcat).sum
  | [] => rfl
  | v :: vs => by
    have h := klg ρ vs
    rcases v with x | x | o <;> simp [lg_sl, ktr, kcat, Value.category] at h ⊢
    all_goals first
      | (cases o <;> simp [va_rf, Value.category, lg_sl] at h ⊢ <;> omega)
      | omega
theorem kM_of {α : Type} {y : MethodName} {bytes : ByteArray} {maxL : Nat} {ret : Option FieldType} {D mc ms : Nat} {enc : α → Option KV} {as : List KV} {h : KH} {w : KO α} (own : String) (hy : plainName y.cls = true) (ho : y.cls = own) (hlen : (as.map kcat).sum ≤ maxL) (L : List (Nat × KV)) (hL : kargs 0 as = L)
    (body : ∀ X : KX, kC X own bytes maxL ret → (xme X).name = y.name → kT0 X → xmc X = mc → xms X = ms → xD X = D → kJ X enc maxL 0 0 L [] 0 h w) : kM y bytes maxL ret D mc ms enc as h w := by
  subst hL
  subst ho
  intro l G ρ sz r h' hl hw hok
  refine vx_ofW (cc := bytes) (maxL := maxL) (ret := ret) hy rfl ?_
  intro p e s m args below meth c s₁ B hml hnt hv
  obtain ⟨rfl, hsz, hrep, hK, hZ⟩ := hv
  subst hsz
  have hts := atoms_spec (ws := Cond.code y bytes maxL ret :: kT) B.pre
  have hown : s.vm.findClass y.cls = some m.cls := findClass_of_methodNamed B.named
  let X : KX := (p, l, e, { frames := D, cells := mc, slots := ms, locals := 40 * D }, s, m, ((as.map (ktr ρ)).toArray), below, meth, c, G, kA h ρ s.heap.size, h, ρ, mc, ms, D)
  have hC : kC X y.cls bytes maxL ret := ⟨B.exec, B.bytes, hml, B.returns, B.notSynchronized, hown, fun w hw => hts w (List.mem_cons_of_mem _ hw), hK, hZ, hl, fun q hq => Or.inr hq, Nat.le_refl _, Nat.le_refl _, Nat.le_refl _, Nat.le_refl _⟩
  have hJ := body X hC (name_of_methodNamed B.named B.method).1 hnt rfl rfl rfl
  have hlv := lv_entry (as.map (ktr ρ)) (n := maxL) (by rw [klg]; exact hlen)
  rw [lg_entry_eq]
  rw [← kargs_ok] at hlv
  exact hJ r h' hw ρ s.heap [] _ ⟨hrep, va_S.rf, fun a ha h2 => Or.inl ⟨a, ha, h2, rfl⟩, fun a _ => ⟨rfl, rfl⟩, fun a h1 h2 => absurd h2 h1⟩ hlv ⟨fun q hq => hok _ (kargs_mem _ _ _ hq), fun v hv => by cases hv⟩
section KCALLS
variable {α β : Type} {X : KX} {enc : α → Option KV} {encb : β → Option KV} {own : String} {cc : ByteArray} {nL : Nat} {ret : Option FieldType} {cells slots : Nat} {L : List (Nat × KV)} {st : List KV} {pc : Nat} {h : KH} {w : KO α}
theorem kmapeq {ρ ρ' : Nat → Nat} {h : KH} {st : List KV} (hk : ∀ v ∈ st, kOk h v) (he : ∀ a, kd h a ≠ 0 → ρ' a = ρ a) : st.map (ktr ρ') = st.map (ktr ρ) := by
  apply List.map_congr_left
  intro v hv
  have := hk v hv
  rcases v with x | x | _ | a
  · rfl
  · rfl
  · rfl
  · show va_rf ((some a).map ρ') = va_rf ((some a).map ρ)
    rw [Option.map_some, Option.map_some, he a (this a rfl)]
theorem klveq {ρ ρ' : Nat → Nat} {h : KH} {L : List (Nat × KV)} (hk : ∀ q ∈ L, kOk h q.2) (he : ∀ a, kd h a ≠ 0 → ρ' a = ρ a) : klv ρ' L = klv ρ L := by
  apply List.map_congr_left
  intro q hq
  have := hk q hq
  obtain ⟨i, v⟩ := q
  rcases v with x | x | _ | a
  · rfl
  · rfl
  · rfl
  · show (i, va_rf ((some a).map ρ')) = (i, va_rf ((some a).map ρ))
    rw [Option.map_some, Option.map_some, he a (this a rfl)]
/-- the invariant behind a call -/
theorem kInv.back {ρ ρ' : Nat → Nat} {hc : KH} {H : Heap} {locs Lc : List Loc} {st₀ t T' : State} (hC : kC X own cc nL ret) (hI : kInv X ρ h H locs) (h0 : st₀.heap = H) (e1 : T'.heap = t.heap) (hE : kEnd (xG X) (kA h ρ H.size) h ρ hc ρ' st₀ t) (hL : ∀ q ∈ Lc, kA h ρ H.size q.base) : kInv X ρ' hc T'.heap (locs ++ Lc) := by
  obtain ⟨i1, i2, i3, i4, i5⟩ := hI
  obtain ⟨j1, j2, j3, j4, j5⟩ := hE
  have hA : ∀ q, (xs X).heap.size ≤ q → (xA X) q := hC.2.2.2.2.2.2.2.2.2.2.1
  have hsub : ∀ q, kA h ρ H.size q → (xA X) q := by
    intro q hq
    rcases hq with ⟨a, ha, ha2, rfl⟩ | hq
    · exact i3 a ha ha2
    · exact hA q (Nat.le_trans i2.1 hq)
  rw [h0] at j3 j4 j5
  refine ⟨by rw [e1]; exact j1, ⟨Nat.le_trans i2.1 (by rw [e1]; exact j4), fun q h1 h2 => ?_, fun q hq => ?_⟩, fun a ha ha2 => ?_, fun a ha => ?_, fun a ha hb => ?_⟩
  · rw [e1, j5 q (Nat.lt_of_lt_of_le h1 i2.1) (fun z => h2 (hsub q z))]
    exact i2.2.1 q h1 h2
  · rcases List.mem_append.mp hq with h1 | h1
    · exact i2.2.2 q h1
    · exact hsub _ (hL q h1)
  · by_cases hb : kd h a = 0
    · exact hA _ (Nat.le_trans i2.1 (j3 a ha hb))
    · rw [(j2 a hb).2]
      exact i3 a hb (by rw [← (j2 a hb).1]; exact ha2)
  · obtain ⟨k1, k2⟩ := i4 a ha
    have hb : kd h a ≠ 0 := by rw [k1]; exact ha
    exact ⟨(j2 a hb).1.trans k1, (j2 a hb).2.trans k2⟩
  · by_cases hd : kd h a = 0
    · exact Nat.le_trans i2.1 (j3 a ha hd)
    · rw [(j2 a hd).2]
      exact i5 a hd hb
/-- a call that may throw, in a method without a table -/
theorem kj_callK (hC : kC X own cc nL ret) (hT : kT0 X) {mcc msc : Nat} {rc : Nat ⊕ β} {hc h' : KH} {r : Nat ⊕ α} {cont : β → KH → KO α} {ρ : Nat → Nat} {H : Heap} {locs : List Loc} {ls : Array Slot} {st0 : List Value} {rest : List KV} {va : Array Value}
    (hr : vx_Run (xp X) (xl X) (xe X) (xR X) (xs X) (xm X) (xar X) (xbe X) (xme X) (xc X) H locs cells slots mcc msc (F0 (xm X) pc ls st0) (rest.map (ktr ρ)) (kQc encb (xG X) (kA h ρ H.size) h ρ rc hc va) (kXC (xG X) (kA h ρ H.size) h ρ rc hc) (kA h ρ H.size))
    (hI : kInv X ρ h H locs) (hl : lv_has ls nL (klv ρ L)) (hk : kOks h L rest) (hb : cells + mcc ≤ xmc X ∧ slots + msc ≤ xms X) (hw : kbind (some (rc, hc)) cont = some (r, h'))
    (kk : ∀ v, rc = .inr v → kJ X enc nL (cells + mcc) (slots + msc) L ((encb v).toList ++ rest) (pc + 3) hc (cont v hc)) : kW X enc cells slots r h' H locs (F0 (xm X) pc ls st0) := by
  intro T hT0 Xs
  rcases hr T hT0 Xs with ⟨v, st₀, t, T', Lc, h0, X', hL, e1, e2, ⟨u, ρ', hu, hv, hok, hE⟩, stp⟩ | ⟨q, st₀, t, T', Lc, E, ce, h0, X', hL, e1, e2, ⟨e, ρ', he, hEx, hE⟩, hce, hcv, hcl, stp⟩
  · cases hv
    subst hu
    have hI' := hI.back hC h0 e1 hE hL
    have hkd : ∀ a, kd h a ≠ 0 → kd hc a ≠ 0 := fun a ha => by rw [(hE.2.1 a ha).1]; exact ha
    have hag : ∀ a, kd h a ≠ 0 → ρ' a = ρ a := fun a ha => (hE.2.1 a ha).2
    have hk' : kOks hc L ((encb u).toList ++ rest) := ⟨fun q hq => (hk.1 q hq).mono hkd, fun x hx => by
      rcases List.mem_append.mp hx with hx | hx
      · exact hok x (by simpa using hx)
      · exact (hk.2 x hx).mono hkd⟩
    have hg := kk u rfl r h' hw ρ' T'.heap (locs ++ Lc) ls hI' (by rw [klveq hk.1 hag]; exact hl) hk'
    obtain ⟨t2, a1, b1⟩ := hg T' rfl X'
    refine ⟨t2, stp t2 ?_, b1⟩
    have hst : (((encb u).map (ktr ρ')).toList ++ rest.map (ktr ρ)) = ((encb u).toList ++ rest).map (ktr ρ') := by
      rw [List.map_append, kmapeq hk.2 hag]
      cases encb u <;> rfl
    have hst2 : ({ (F0 (xm X) pc ls st0) with pc := (F0 (xm X) pc ls st0).pc + 3, stack := ((encb u).map (ktr ρ')).toList ++ rest.map (ktr ρ) } : JFrame) = F0 (xm X) (pc + 3) ls (((encb u).toList ++ rest).map (ktr ρ')) := by
      rw [hst]
    rw [hst2]
    exact a1
  · subst he
    have hI' := hI.back hC h0 e1 hE hL
    cases hw
    have hout := vx_out (p := xp X) (l := xl X) (e := xe X) (R := xR X) (s := xs X) (m := xm X) (args := xar X) (below := xbe X) (meth := xme X) (c := xc X) (H := T'.heap) (locs := locs ++ Lc) (cells := cells + mcc) (slots := slots + msc) (ls := ls) (rest := rest.map (ktr ρ)) (Qc := kQc enc (xG X) (xA X) (xh X) (xr X) (.inl e) hc) (XC := kXC (xG X) (xA X) (xh X) (xr X) (.inl e : Nat ⊕ α) hc) (free := xA X)
      (pc := pc) (E := E) (ce := ce) (q := q) (mc := xmc X) (ms := xms X) (fun x hx => (hT x hx).elim) hC.2.2.2.2.1 (by rw [e1]; exact hce) hcv hcl
      (fun t9 ht9 _ => ⟨e, ρ', rfl, hEx, by rw [ht9]; exact hI'.1, hI'.2.2.2.1, hI'.2.2.2.2, hI'.2.1.F ht9⟩) (fun z hz => hI'.2.1.2.2 z hz) hb.1 hb.2
    obtain ⟨t2, a1, b1⟩ := hout T' rfl X'
    exact ⟨t2, stp.trans a1, b1⟩
/-- a call that doesn't throw -/
theorem kMet_of {l : Launch} {y : MethodName} {ws : List Cond} {rm : Room} {Pc : Array Value → State → Prop} {Qc : Array Value → State → Outcome → State → Prop} {XC : String → State → State → Prop} {mc ms : Nat} {free : Addr → Prop} (h : vx_Met l y ws rm Pc Qc XC mc ms free) (hx : ∀ E s t, ¬ XC E s t) : Met l y ws rm Pc Qc mc ms free := by
  intro p e ha hcas hclk s m args below hfr happ hP hK
  obtain ⟨n, o, h1, h2, h3, h4⟩ := h p e ha hcas hclk s m args below hfr happ hP hK
  refine ⟨n, o, h1, h2, h3, ?_⟩
  rcases h4 with h4 | ⟨q, -, E, ce, L, h5, -⟩
  · exact h4
  · exact (hx E _ _ h5).elim
theorem kRun_of {p : Program} {l : Launch} {e : Env} {R : Room} {s : State} {m : MethodId} {args : Array Value} {below : List Frame} {meth : Method} {c : Code} {H : Heap} {locs : List Loc} {cells slots mc ms : Nat} {g : JFrame} {rest : List Value} {Qa : State → Outcome → State → Prop} {XC : String → State → State → Prop} {free : Addr → Prop} (h : va_Run p l e R s m args below meth c H locs cells slots mc ms g rest Qa free) : vx_Run p l e R s m args below meth c H locs cells slots mc ms g rest Qa XC free :=
  fun T hT X => Or.inl (h T hT X)
/-- the callee's start, out of the caller's point -/
theorem kPre0 {ρ : Nat → Nat} {H : Heap} {locs : List Loc} {as : List KV} {h : KH} (hC : kC X own cc nL ret) (hR : kRep (xG X) ρ h H) (hS : va_S (xA X) (xs X).heap H locs) (hP : ∀ a, kd h a ≠ 0 → kd h a ≠ 32 → (xA X) (ρ a)) : FrameBlind (va_Pc (as.map (ktr ρ)) (fun U => U.heap.size = H.size ∧ kRep (xG X) ρ h U.heap ∧ kK (xG X) U ∧ kZ (kA h ρ H.size) U U.heap)) ∧ ∀ U : State, U.heap = H → (xs X).WarmedH U.vm → va_Pc (as.map (ktr ρ)) (fun U => U.heap.size = H.size ∧ kRep (xG X) ρ h U.heap ∧ kK (xG X) U ∧ kZ (kA h ρ H.size) U U.heap) (as.map (ktr ρ)).toArray U := by
  have hA : ∀ q, (xs X).heap.size ≤ q → (xA X) q := hC.2.2.2.2.2.2.2.2.2.2.1
  have hsub : ∀ q, kA h ρ H.size q → (xA X) q := by
    intro q hq
    rcases hq with ⟨a, ha, ha2, rfl⟩ | hq
    · exact hP a ha ha2
    · exact hA q (Nat.le_trans hS.1 hq)
  refine ⟨fun a U g mk q => ?_, fun U hU hW => ?_⟩
  · obtain ⟨q0, q1, q2, q3, q4, q5⟩ := q
    exact ⟨q0, q1, q2, q3.warm (U := U.calling g mk a) (State.WarmedH.refl U), vx_Zq.moved (u := U) (U := U.calling g mk a) (Vm.Alike.refl U.vm) q4, vx_Zq.moved (u := U) (U := U.calling g mk a) (Vm.Alike.refl U.vm) q5⟩
  · obtain ⟨z1, z2⟩ := hC.2.2.2.2.2.2.2.2.1
    have hK := hC.2.2.2.2.2.2.2.1.warm hW
    have hkept : ∀ a : Nat, a < (xs X).heap.size → ¬ (xA X) a → H[a]? = (xs X).heap[a]? := fun a h1 h2 => hS.2.1 a h1 h2
    refine ⟨rfl, by rw [hU], by rw [hU]; exact hR, hK, ?_, ?_⟩
    · rw [hU]
      exact vx_Zq.moved hW.alike ((vx_Zq.kept z1 hkept).narrow hsub)
    · rw [hU]
      exact vx_Zq.moved hW.alike ((vx_Zq.kept z2 hkept).narrow hsub)
theorem kPre {D mcc msc maxL : Nat} {ρ : Nat → Nat} {H : Heap} {locs : List Loc} {as : List KV} (hC : kC X own cc nL ret) (hI : kInv X ρ h H locs) : FrameBlind (va_Pc (as.map (ktr ρ)) (fun U => U.heap.size = H.size ∧ kRep (xG X) ρ h U.heap ∧ kK (xG X) U ∧ kZ (kA h ρ H.size) U U.heap)) ∧ ∀ U : State, U.heap = H → (xs X).WarmedH U.vm → va_Pc (as.map (ktr ρ)) (fun U => U.heap.size = H.size ∧ kRep (xG X) ρ h U.heap ∧ kK (xG X) U ∧ kZ (kA h ρ H.size) U U.heap) (as.map (ktr ρ)).toArray U := kPre0 hC hI.1 hI.2.1 hI.2.2.1
end KCALLS
