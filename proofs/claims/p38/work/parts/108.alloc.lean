/-! new cells -/
def kext (ρ : Nat → Nat) (o N sz : Nat) : Nat → Nat := fun a => if o ≤ a ∧ a < o + N then sz + (a - o) else ρ a
theorem kext_in {ρ : Nat → Nat} {o N sz a : Nat} (h : o ≤ a ∧ a < o + N) : kext ρ o N sz a = sz + (a - o) := if_pos h
theorem kext_out {ρ : Nat → Nat} {o N sz a : Nat} (h : ¬ (o ≤ a ∧ a < o + N)) : kext ρ o N sz a = ρ a := if_neg h
section KALLOC
variable {α β : Type} {X : KX} {enc : α → Option KV} {own : String} {cc : ByteArray} {nL : Nat} {ret : Option FieldType} {cells slots : Nat} {L : List (Nat × KV)} {st : List KV} {pc : Nat} {h : KH} {w : KO α}
theorem kInv.alloc {ρ : Nat → Nat} {h1 : KH} {H H1 : Heap} {locs : List Loc} {o N : Nat} (hC : kC X own cc nL ret) (hI : kInv X ρ h H locs) (hfree : ∀ a, o ≤ a ∧ a < o + N → kd h a = 0) (hsame : ∀ a, ¬ (o ≤ a ∧ a < o + N) → kd h1 a = kd h a ∧ kn h1 a = kn h a ∧ kI h1 a = kI h a ∧ kL h1 a = kL h a ∧ kR h1 a = kR h a)
    (hz : H1.size = H.size + N) (ho : ∀ q : Nat, q < H.size → H1[q]? = H[q]?) (hat : ∀ a, o ≤ a ∧ a < o + N → kAt (xG X) (kext ρ o N H.size) h1 a H1) (hr : ∀ a k b, o ≤ a ∧ a < o + N → kR h1 a k = some b → kd h1 b ≠ 0) :
    kInv X (kext ρ o N H.size) h1 H1 locs ∧ (∀ a, kd h a ≠ 0 → kd h1 a = kd h a ∧ kext ρ o N H.size a = ρ a) := by
  obtain ⟨⟨r1, r2, r3⟩, i2, i3, i4, i5⟩ := hI
  have hA : ∀ q, (xs X).heap.size ≤ q → (xA X) q := hC.2.2.2.2.2.2.2.2.2.2.1
  have hout : ∀ a, kd h a ≠ 0 → ¬ (o ≤ a ∧ a < o + N) := fun a ha hb => ha (hfree a hb)
  have hold : ∀ a, kd h a ≠ 0 → kd h1 a = kd h a ∧ kext ρ o N H.size a = ρ a := fun a ha => ⟨(hsame a (hout a ha)).1, kext_out (hout a ha)⟩
  refine ⟨⟨⟨fun a ha => ?_, fun a b ha hb hab => ?_, fun a k b ha hk => ?_⟩, ⟨Nat.le_trans i2.1 (by omega), fun q h1 h2 => (ho q (Nat.lt_of_lt_of_le h1 i2.1)).trans (i2.2.1 q h1 h2), i2.2.2⟩, fun a ha ha2 => ?_, fun a ha => ?_, fun a ha hb => ?_⟩, hold⟩
  · by_cases hin : o ≤ a ∧ a < o + N
    · exact ⟨by rw [kext_in hin]; omega, hat a hin⟩
    · obtain ⟨e1, e2, e3, e4, e5⟩ := hsame a hin
      rw [e1] at ha
      refine ⟨by rw [kext_out hin]; exact Nat.lt_of_lt_of_le (r1 a ha).1 (by omega), (r1 a ha).2.same (kext_out hin) e1 e2 (fun k s => ?_) (ho _ (r1 a ha).1)⟩
      unfold kV
      rw [e3, e4, e5]
      split
      · rfl
      · rfl
      · congr 1
        cases hb : kR h a k with
        | none => rfl
        | some b =>
          rw [Option.map_some, Option.map_some, (hold b (r3 a k b ha hb)).2]
  · by_cases h2 : o ≤ a ∧ a < o + N <;> by_cases h3 : o ≤ b ∧ b < o + N
    · rw [kext_in h2, kext_in h3] at hab
      omega
    · rw [kext_in h2, kext_out h3] at hab
      have := (r1 b (by rw [← (hsame b h3).1]; exact hb)).1
      omega
    · rw [kext_out h2, kext_in h3] at hab
      have := (r1 a (by rw [← (hsame a h2).1]; exact ha)).1
      omega
    · rw [kext_out h2, kext_out h3] at hab
      exact r2 a b (by rw [← (hsame a h2).1]; exact ha) (by rw [← (hsame b h3).1]; exact hb) hab
  · by_cases hin : o ≤ a ∧ a < o + N
    · exact hr a k b hin hk
    · obtain ⟨e1, e2, e3, e4, e5⟩ := hsame a hin
      rw [e1] at ha
      rw [e5] at hk
      have hb := r3 a k b ha hk
      rw [(hold b hb).1]
      exact hb
  · by_cases hin : o ≤ a ∧ a < o + N
    · rw [kext_in hin]
      exact hA _ (Nat.le_trans i2.1 (by omega))
    · rw [kext_out hin]
      exact i3 a (by rw [← (hsame a hin).1]; exact ha) (by rw [← (hsame a hin).1]; exact ha2)
  · obtain ⟨k1, k2⟩ := i4 a ha
    have hb : kd h a ≠ 0 := by rw [k1]; exact ha
    exact ⟨(hold a hb).1.trans k1, (hold a hb).2.trans k2⟩
  · by_cases hin : o ≤ a ∧ a < o + N
    · rw [kext_in hin]
      exact Nat.le_trans i2.1 (by omega)
    · rw [kext_out hin]
      exact i5 a (by rw [← (hsame a hin).1]; exact ha) hb
theorem kgo {ρ : Nat → Nat} {h1 h' : KH} {H H1 : Heap} {locs : List Loc} {ls : Array Slot} {o N : Nat} {r : Nat ⊕ α} {w1 : KO α} (hN : 0 < N) (hn : kInv X (kext ρ o N H.size) h1 H1 locs ∧ (∀ a, kd h a ≠ 0 → kd h1 a = kd h a ∧ kext ρ o N H.size a = ρ a)) (ho : kd h1 o ≠ 0) (hl : lv_has ls nL (klv ρ L)) (hk : kOks h L st) (hw : w1 = some (r, h'))
    (kk : kJ X enc nL cells slots L (.inr (.inr (some o)) :: st) pc h1 w1) : kW X enc cells slots r h' H1 locs (F0 (xm X) pc ls (.ref H.size :: st.map (ktr ρ))) := by
  have hag : ∀ a, kd h a ≠ 0 → kext ρ o N H.size a = ρ a := fun a ha => (hn.2 a ha).2
  have hm : kOks h1 L st := hk.mono (fun a ha => by rw [(hn.2 a ha).1]; exact ha)
  have hg := kk r h' hw (kext ρ o N H.size) H1 locs ls hn.1 (by rw [klveq hk.1 hag]; exact hl) (hm.push (kOk_r ho))
  have e : (.inr (.inr (some o)) :: st : List KV).map (ktr (kext ρ o N H.size)) = .ref H.size :: st.map (ktr ρ) := by
    rw [List.map_cons, kmapeq hk.2 hag]
    show va_rf (some (kext ρ o N H.size o)) :: _ = _
    rw [kext_in ⟨Nat.le_refl _, by omega⟩, Nat.sub_self]
    rfl
  rw [e] at hg
  exact hg
theorem kal_same (h : KH) (c n a : Nat) (ha : ¬ (kx h ≤ a ∧ a < kx h + 1)) : kd (al h c n) a = kd h a ∧ kn (al h c n) a = kn h a ∧ kI (al h c n) a = kI h a ∧ kL (al h c n) a = kL h a ∧ kR (al h c n) a = kR h a := by
  have hne : ¬ a = kx h := fun e => ha ⟨Nat.le_of_eq e.symm, by omega⟩
  refine ⟨by rw [kd_al, if_neg hne], by rw [kn_al, if_neg hne], ?_, ?_, ?_⟩ <;> funext j
  · rw [kI_al, if_neg hne]
  · rw [kL_al, if_neg hne]
  · rw [kR_al, if_neg hne]
theorem kal_V (ρ : Nat → Nat) (h : KH) (c n k s : Nat) : kV ρ (al h c n) (kx h) k s = (match s with | 0 => .int 0 | 1 => .long 0 | _ => .null) := by
  unfold kV
  split <;> simp [kI_al, kL_al, kR_al, va_rf]
def kdef (s : Nat) : Value := match s with
  | 0 => .int 0
  | 1 => .long 0
  | _ => .null
theorem kdef_cls : ∀ ci, ci < 10 → ∀ q, kvCl[ci]? = some q → ∀ k, k < q.2.2 → defaultValue (kFt ci k) = kdef (ksrt (kFt ci k)) := by
  have h : ∀ ci, ci < 10 → ((kvCl[ci]?).all fun q => (List.range q.2.2).all fun k => decide (defaultValue (kFt ci k) = kdef (ksrt (kFt ci k)))) = true := by decide +kernel
  intro ci hci q hq k hk
  have h1 := h ci hci
  rw [hq] at h1
  exact of_decide_eq_true (List.all_eq_true.mp h1 k (List.mem_range.mpr hk))
theorem kdef_arr {c : Nat} {ty : FieldType} (h : kTy c = some ty) : defaultValue ty = kdef (ksrt ty) := by
  unfold kTy at h
  split at h <;> cases h <;> rfl
theorem kj_new (hC : kC X own cc nL ret) {idx ci : Nat} {q : vw_C} {f : Nat → KH → KO α} (hd : decode cc pc = .ok (.new idx, 3)) (hq : kvCl[ci]? = some q) (hcl : Cond.classLink own idx q.1 ∈ kT) (hins : Cond.instantiable q.1 q.2.2 ∈ kT) (hini : Cond.initialized q.1 ∈ kT) (hb : cells + 1 ≤ xmc X ∧ slots + q.2.2 ≤ xms X)
    (kk : ∀ a h1, kJ X enc nL (cells + 1) (slots + q.2.2) L (.inr (.inr (some a)) :: st) (pc + 3) h1 (f a h1)) : kJ X enc nL cells slots L st pc h (nw h (ci + 1) 0 f) := by
  intro r h' hw ρ H locs ls hI hl hk
  unfold nw at hw
  split at hw
  · rename_i hfree
    have hts : ∀ w ∈ kT, w.before (xar X) (xs X) = true := hC.2.2.2.2.2.2.1
    have hci := kCl_lt hq
    have hKn := hC.2.2.2.2.2.2.2.1.1 ci q hq
    obtain ⟨-, -, r3, r4⟩ := hC.2.2.2.2.2.2.2.2.2.2.2
    refine W.newcK hC.1 hC.2.1 hC.2.2.2.2.2.1 (hts _ hcl) (hts _ hins) (hts _ hini) rfl hd (Nat.le_trans hb.1 r3) (Nat.le_trans hb.2 r4) hKn.2.1 rfl fun H1 kC0 hkC e1 z1 o1 => ?_
    have hborn := u_born (kFt ci) hts (kcls_in ci hci q hq) hKn hkC e1 (kcls_ty ci hci q hq)
    have hkd : kd (al h (ci + 1) 0) (kx h) = ci + 1 := by rw [kd_al, if_pos rfl]
    refine kgo (N := 1) (by omega) (hI.alloc (h1 := al h (ci + 1) 0) (o := kx h) (N := 1) hC (fun a ha => ?_) (fun a ha => kal_same h _ _ a ha) z1 o1 (fun a ha => ?_) (fun a k b ha hb => ?_)) (by rw [hkd]; exact Nat.succ_ne_zero _) hl hk hw (kk _ _)
    · rw [show a = kx h by omega]; exact hfree
    · have ea : a = kx h := by omega
      subst ea
      refine ⟨fun ci' q' hq' hk' => ?_, fun ty hty => ?_, fun h32 => absurd h32 (by rw [hkd]; omega)⟩
      · rw [hkd] at hk'
        have hcc : ci' = ci := by omega
        subst hcc
        have hqq : q' = q := Option.some.inj (hq'.symm.trans hq)
        subst hqq
        rw [kext_in ha, Nat.sub_self, Nat.add_zero]
        exact hborn.to (fun k hk => by rw [kdef_cls ci' hci q' hq k hk]; exact (kal_V _ h _ _ k _).symm)
      · rw [hkd, kTy_obj hq] at hty
        cases hty
    · rw [show a = kx h by omega, kR_al, if_pos rfl] at hb
      cases hb
  · cases hw
/-- an array comes -/
theorem kInv.allocA {ρ : Nat → Nat} {H H1 : Heap} {locs : List Loc} {c N : Nat} {ty : FieldType} (hC : kC X own cc nL ret) (hI : kInv X ρ h H locs) (hfree : kd h (kx h) = 0) (hty : kTy c = some ty) (hz : H1.size = H.size + 1) (ho : ∀ q : Nat, q < H.size → H1[q]? = H[q]?) (he : H1[H.size]? = some (arrV ((xG X).2 c) N (fun _ => defaultValue ty))) :
    kInv X (kext ρ (kx h) 1 H.size) (al h c N) H1 locs ∧ (∀ a, kd h a ≠ 0 → kd (al h c N) a = kd h a ∧ kext ρ (kx h) 1 H.size a = ρ a) := by
  have hkd : kd (al h c N) (kx h) = c := by rw [kd_al, if_pos rfl]
  refine hI.alloc hC (fun a ha => ?_) (fun a ha => kal_same h _ _ a ha) hz ho (fun a ha => ?_) (fun a k b ha hb => ?_)
  · rw [show a = kx h by omega]; exact hfree
  · have ea : a = kx h := by omega
    subst ea
    refine ⟨fun ci' q' hq' hk' => ?_, fun ty' hty' => ?_, fun h32 => absurd h32 (by rw [hkd]; exact kTy_32 hty)⟩
    · rw [hkd] at hk'
      rw [hk', kTy_obj hq'] at hty
      cases hty
    · rw [hkd] at hty'
      have htt : ty' = ty := Option.some.inj (hty'.symm.trans hty)
      subst htt
      rw [kext_in ha, Nat.sub_self, Nat.add_zero, he, hkd, kn_al, if_pos rfl]
      congr 2
      funext k
      rw [kdef_arr hty]
      exact (kal_V _ h _ _ k _).symm
  · rw [show a = kx h by omega, kR_al, if_pos rfl] at hb
    cases hb
theorem kj_newa (hC : kC X own cc nL ret) {atype : ArrayType} {c N : Nat} {n : Int32} {ty : FieldType} {f : Nat → KH → KO α} (hd : decode cc pc = .ok (.newarray atype, 2)) (hty : kTy c = some ty) (hat : newarray.typeOf atype = ty) (hra : ∀ U cA, va_RA U cA ty = (U.vm.findClass ("[" ++ ty.toString) = some cA)) (harr : Cond.arrayClass ty ∈ kT) (hn : ¬ n < 0 ∧ n.toNatClampNeg = N ∧ N * componentBytes ty ≤ 536870912) (hb : cells + 1 ≤ xmc X ∧ slots + N ≤ xms X)
    (kk : ∀ a h1, kJ X enc nL (cells + 1) (slots + N) L (.inr (.inr (some a)) :: st) (pc + 2) h1 (f a h1)) : kJ X enc nL cells slots L (.inl n :: st) pc h (nw h c N f) := by
  subst hat
  intro r h' hw ρ H locs ls hI hl hk
  unfold nw at hw
  split at hw
  · rename_i hfree
    have hts : ∀ w ∈ kT, w.before (xar X) (xs X) = true := hC.2.2.2.2.2.2.1
    obtain ⟨-, -, r3, r4⟩ := hC.2.2.2.2.2.2.2.2.2.2.2
    refine va_newaK hC.1 hC.2.1 (hts _ harr) rfl hd rfl hn.1 hn.2.1 hn.2.2 (Nat.le_trans hb.1 r3) (Nat.le_trans hb.2 r4) rfl fun H1 cA e1 z1 o1 hAr hNm => ?_
    have hcA : cA = (xG X).2 c := by
      have h9 := (hC.2.2.2.2.2.2.2.1.2.1 c _ hty).2
      rw [hra] at h9
      exact Option.some.inj (hNm.symm.trans h9)
    subst hcA
    exact kgo (N := 1) (by omega) (hI.allocA hC hfree hty z1 o1 e1) (by rw [kd_al, if_pos rfl]; have := kTy_arr hty; omega) hl hk.tail hw (kk _ _)
  · cases hw
theorem kj_newo (hC : kC X own cc nL ret) {idx c N : Nat} {n : Int32} {C : String} {f : Nat → KH → KO α} (hd : decode cc pc = .ok (.anewarray idx, 3)) (hty : kTy c = some (.object C)) (hin : C ∈ kArr) (hcl : Cond.classLink own idx C ∈ kT) (hn : ¬ n < 0 ∧ n.toNatClampNeg = N ∧ N * 4 ≤ 536870912) (hb : cells + 1 ≤ xmc X ∧ slots + N ≤ xms X)
    (kk : ∀ a h1, kJ X enc nL (cells + 1) (slots + N) L (.inr (.inr (some a)) :: st) (pc + 3) h1 (f a h1)) : kJ X enc nL cells slots L (.inl n :: st) pc h (nw h c N f) := by
  obtain ⟨hn0, rfl, hn2⟩ := hn
  intro r h' hw ρ H locs ls hI hl hk
  unfold nw at hw
  split at hw
  · rename_i hfree
    have hts : ∀ w ∈ kT, w.before (xar X) (xs X) = true := hC.2.2.2.2.2.2.1
    obtain ⟨-, -, r3, r4⟩ := hC.2.2.2.2.2.2.2.2.2.2.2
    refine W.anew hC.1 hC.2.1 hC.2.2.2.2.2.1 (hts _ hcl) (va_AO.use (hC.2.2.2.2.2.2.2.1.2.2.2.1 C hin)) rfl hd rfl hn0 hn2 (Nat.le_trans hb.1 r3) (Nat.le_trans hb.2 r4) fun cA kA comp f1 f2 f3 f4 => ?_
    generalize hH1 : H.push ({ cls := cA, slots := Array.replicate n.toNatClampNeg .null, vm := .none } : Cell) = H1
    have z1 : H1.size = H.size + 1 := by rw [← hH1, Array.size_push]
    have e1 : H1[H.size]? = some (arrV cA n.toNatClampNeg (fun _ => .null)) := by rw [← hH1, Array.getElem?_push_size, ← arrV_new]
    have o1 : ∀ q : Nat, q < H.size → H1[q]? = H[q]? := fun q hq => by rw [← hH1, Array.getElem?_push, if_neg (Nat.ne_of_lt hq)]
    have hcA : cA = (xG X).2 c := by
      obtain ⟨kA9, comp9, g1, g2, g3, g4⟩ := (hC.2.2.2.2.2.2.2.1.2.1 c _ hty).2
      exact Option.some.inj (f1.symm.trans g4)
    subst hcA
    exact kgo (N := 1) (by omega) (hI.allocA hC hfree hty z1 o1 e1) (by rw [kd_al, if_pos rfl]; have := kTy_arr hty; omega) hl hk.tail hw (kk _ _)
  · cases hw
/-- an array of arrays of ints -/
theorem kj_newm (hC : kC X own cc nL ret) {idx N K : Nat} {n k : Int32} {f : Nat → KH → KO α} (hd : decode cc pc = .ok (.multianewarray idx 2, 4)) (hcl : Cond.classLink own idx ("[" ++ (FieldType.array .int).toString) ∈ kT) (harr : Cond.arrayClass .int ∈ kT) (hn : ¬ n < 0 ∧ n.toNatClampNeg = N ∧ N * 4 ≤ 536870912) (hk0 : ¬ k < 0 ∧ k.toNatClampNeg = K ∧ K * 4 ≤ 536870912) (hb : cells + 1 + N ≤ xmc X ∧ slots + N + N * K ≤ xms X)
    (kk : ∀ a h1, kJ X enc nL (cells + 1 + N) (slots + N + N * K) L (.inr (.inr (some a)) :: st) (pc + 4) h1 (f a h1)) : kJ X enc nL cells slots L (.inl k :: .inl n :: st) pc h (nwM h N K f) := by
  obtain ⟨hn0, rfl, hn2⟩ := hn
  obtain ⟨hk1, rfl, hk2⟩ := hk0
  intro r h' hw ρ H locs ls hI hl hk
  unfold nwM at hw
  split at hw
  · rename_i hfree
    have hfree : ∀ i, i < 1 + n.toNatClampNeg → kd h (kx h + i) = 0 := fun i hi => of_decide_eq_true (List.all_eq_true.mp hfree i (List.mem_range.mpr hi))
    have hts : ∀ w ∈ kT, w.before (xar X) (xs X) = true := hC.2.2.2.2.2.2.1
    obtain ⟨-, -, r3, r4⟩ := hC.2.2.2.2.2.2.2.2.2.2.2
    intro T hT Xs
    obtain ⟨vm₁, cA, comp, -, fA, fC, hO, -, X', step⟩ := Xs.multianewarray2F hC.1 hC.2.2.2.2.2.1 (hts _ hcl) (hC.2.2.2.2.2.2.2.1.2.2.2.2.1) (hts _ harr) (g := F0 (xm X) pc ls ((.inl k :: .inl n :: st : List KV).map (ktr ρ))) rfl (by rw [hC.2.1]; exact hd) rfl hn0 hk1 hn2 (by show k.toNatClampNeg * 4 ≤ _; exact hk2) (by omega) rfl rfl (by omega) (by omega)
    have ecA : cA = (xG X).2 24 := Option.some.inj (fA.symm.trans (hC.2.2.2.2.2.2.2.1.2.1 24 _ rfl).2)
    have ecI : comp = (xG X).2 21 := Option.some.inj (fC.symm.trans (hC.2.2.2.2.2.2.2.1.2.1 21 _ rfl).2)
    subst ecA
    subst ecI
    generalize hF : Jvm.Free.Multi.fill (T.setVm vm₁) ((xG X).2 24) ((xG X).2 21) n.toNatClampNeg k.toNatClampNeg (defaultValue .int) n.toNatClampNeg = F at X' step
    have hTh : (T.setVm vm₁).heap = H := hT
    obtain ⟨f1, f2, -, -⟩ := Jvm.Free.Multi.fill_facts (T.setVm vm₁) ((xG X).2 24) ((xG X).2 21) n.toNatClampNeg k.toNatClampNeg (defaultValue .int) n.toNatClampNeg
    rw [hF, hTh] at f1 f2
    have hold : ∀ x : Nat, x < H.size → F.heap[x]? = H[x]? := fun x hx => by
      have := Jvm.Free.Multi.fill_old (T.setVm vm₁) ((xG X).2 24) ((xG X).2 21) n.toNatClampNeg k.toNatClampNeg (defaultValue .int) (a := x) (by rw [hTh]; exact hx) n.toNatClampNeg
      rw [hF, hTh] at this
      exact this
    have hrow : ∀ j : Nat, j < n.toNatClampNeg → F.heap[H.size + 1 + j]? = some (arrV ((xG X).2 21) k.toNatClampNeg (fun _ => .int 0)) := fun j hj => by
      have := Jvm.Free.Multi.fill_inner (T.setVm vm₁) ((xG X).2 24) ((xG X).2 21) n.toNatClampNeg k.toNatClampNeg (defaultValue .int) n.toNatClampNeg j hj
      rw [hF, hTh] at this
      rw [this]
      show some ({ cls := _, slots := Array.replicate _ _, vm := .none } : Cell) = _
      rw [arrV_new]
      rfl
    rw [vr_outer] at f2
    have hsz : F.heap.size = H.size + (1 + n.toNatClampNeg) := by rw [f1]; omega
    have hn' : kInv X (kext ρ (kx h) (1 + n.toNatClampNeg) H.size) (alM h n.toNatClampNeg k.toNatClampNeg) F.heap locs ∧ (∀ a, kd h a ≠ 0 → kd (alM h n.toNatClampNeg k.toNatClampNeg) a = kd h a ∧ kext ρ (kx h) (1 + n.toNatClampNeg) H.size a = ρ a) := by
      refine hI.alloc hC (fun a ha => ?_) (fun a ha => ?_) hsz hold (fun a ha => ?_) (fun a j b ha hb => ?_)
      · have := hfree (a - kx h) (by omega)
        rwa [show kx h + (a - kx h) = a by omega] at this
      · have h1 : ¬ a = kx h := by omega
        have h2 : ¬ (kx h < a ∧ a ≤ kx h + n.toNatClampNeg) := by omega
        have h3 : ¬ (kx h ≤ a ∧ a ≤ kx h + n.toNatClampNeg) := by omega
        refine ⟨?_, ?_, ?_, ?_, ?_⟩
        · show (if _ then _ else _) = _
          rw [if_neg h1, if_neg h2]
        · show (if _ then _ else _) = _
          rw [if_neg h1, if_neg h2]
        · funext j
          show (if _ then _ else _) = _
          rw [if_neg h3]
        · funext j
          show (if _ then _ else _) = _
          rw [if_neg h3]
        · funext j
          show (if _ then _ else _) = _
          rw [if_neg h1, if_neg h2]
      · by_cases h1 : a = kx h
        · subst h1
          have hkd : kd (alM h n.toNatClampNeg k.toNatClampNeg) (kx h) = 24 := by show (if _ then _ else _) = _; rw [if_pos rfl]
          refine ⟨fun ci' q' hq' hk' => ?_, fun ty' hty' => ?_, fun h32 => absurd h32 (by rw [hkd]; decide)⟩
          · have := kCl_lt hq'
            omega
          · rw [hkd] at hty' ⊢
            have htt : ty' = .array .int := (Option.some.inj hty').symm
            subst htt
            rw [kext_in ha, Nat.sub_self, Nat.add_zero, f2]
            have hkn : kn (alM h n.toNatClampNeg k.toNatClampNeg) (kx h) = n.toNatClampNeg := by show (if _ then _ else _) = _; rw [if_pos rfl]
            rw [hkn]
            congr 2
            funext j
            show _ = va_rf ((kR (alM h n.toNatClampNeg k.toNatClampNeg) (kx h) j).map _)
            have hkr : kR (alM h n.toNatClampNeg k.toNatClampNeg) (kx h) j = if j < n.toNatClampNeg then some (kx h + 1 + j) else none := by show (if _ then _ else _) = _; rw [if_pos rfl]
            rw [hkr]
            by_cases hj : j < n.toNatClampNeg
            · rw [if_pos hj, if_pos hj, Option.map_some, kext_in ⟨by omega, by omega⟩]
              congr 2
              omega
            · rw [if_neg hj, if_neg hj]
              rfl
        · have h2 : kx h < a ∧ a ≤ kx h + n.toNatClampNeg := by omega
          have hkd : kd (alM h n.toNatClampNeg k.toNatClampNeg) a = 21 := by show (if _ then _ else _) = _; rw [if_neg h1, if_pos h2]
          refine ⟨fun ci' q' hq' hk' => ?_, fun ty' hty' => ?_, fun h32 => absurd h32 (by rw [hkd]; decide)⟩
          · have := kCl_lt hq'
            omega
          · rw [hkd] at hty' ⊢
            have htt : ty' = .int := (Option.some.inj hty').symm
            subst htt
            have hr := hrow (a - kx h - 1) (by omega)
            rw [kext_in ha, show H.size + (a - kx h) = H.size + 1 + (a - kx h - 1) by omega, hr]
            have hkn : kn (alM h n.toNatClampNeg k.toNatClampNeg) a = k.toNatClampNeg := by show (if _ then _ else _) = _; rw [if_neg h1, if_pos h2]
            rw [hkn]
            congr 2
            funext j
            have hki : kI (alM h n.toNatClampNeg k.toNatClampNeg) a j = 0 := by show (if _ then _ else _) = _; rw [if_pos ⟨by omega, h2.2⟩]
            show _ = Value.int (kI (alM h n.toNatClampNeg k.toNatClampNeg) a j)
            rw [hki]
      · by_cases h1 : a = kx h
        · subst h1
          have hkr : kR (alM h n.toNatClampNeg k.toNatClampNeg) (kx h) j = if j < n.toNatClampNeg then some (kx h + 1 + j) else none := by show (if _ then _ else _) = _; rw [if_pos rfl]
          rw [hkr] at hb
          by_cases hj : j < n.toNatClampNeg
          · rw [if_pos hj] at hb
            cases hb
            show (if _ then _ else _) ≠ _
            rw [if_neg (by omega), if_pos ⟨by omega, by omega⟩]
            decide
          · rw [if_neg hj] at hb
            cases hb
        · have h2 : kx h < a ∧ a ≤ kx h + n.toNatClampNeg := by omega
          have hkr : kR (alM h n.toNatClampNeg k.toNatClampNeg) a j = none := by show (if _ then _ else _) = _; rw [if_neg h1, if_pos h2]
          rw [hkr] at hb
          cases hb
    have hko : kd (alM h n.toNatClampNeg k.toNatClampNeg) (kx h) ≠ 0 := by
      show (if _ then _ else _) ≠ _
      rw [if_pos rfl]
      decide
    have hg := kgo (X := X) (enc := enc) (cells := cells + 1 + n.toNatClampNeg) (slots := slots + n.toNatClampNeg + n.toNatClampNeg * k.toNatClampNeg) (N := 1 + n.toNatClampNeg) (by omega) hn' hko hl hk.tail.tail hw (kk _ _)
    obtain ⟨t2, a1, b1⟩ := hg F rfl X'
    refine ⟨t2, step t2 ?_, b1⟩
    rw [hT]
    exact a1
  · cases hw
theorem kj_objInit (hC : kC X own cc nL ret) {idx a : Nat} (hd : decode cc pc = .ok (.invokespecial idx, 3)) (hl0 : Cond.methodLink own idx Lib.objectInit ∈ kT) (hi : Cond.instanceMethod Lib.objectInit ∈ kT) (hc : Cond.code Lib.objectInit ⟨#[0xb1]⟩ 1 none ∈ kT) (hcat : (st.map kcat).sum ≤ 8) (hD : 1 ≤ xD X) (kk : kJ X enc nL cells slots L st (pc + 3) h w) : kJ X enc nL cells slots L (.inr (.inr (some a)) :: st) pc h w := by
  intro r h' hw ρ H locs ls hI hl hk
  have hts : ∀ w ∈ kT, w.before (xar X) (xs X) = true := hC.2.2.2.2.2.2.1
  obtain ⟨r1, r2, -, -⟩ := hC.2.2.2.2.2.2.2.2.2.2.2
  refine W.objInit hC.1 hC.2.1 hC.2.2.2.2.2.1 (hts _ hl0) (hts _ hi) (hts _ hc) rfl (by rw [hC.2.2.1]; exact hl.1) rfl hd (Nat.le_trans hD r1) ?_ (kk r h' hw ρ H locs ls hI hl hk.tail)
  have h9 := lv_room (m := xm X) (pc := pc) (ls := ls) (rest := (.inr (.inr (some a)) :: st : List KV).map (ktr ρ)) (st := st.map (ktr ρ)) (by rw [kcat_sum]; exact hcat)
  show 2 * (F0 (xm X) pc ls ((.inr (.inr (some a)) :: st : List KV).map (ktr ρ))).monitorRoom + ((st.map (ktr ρ)).map fun v => v.category).sum + 12 ≤ _
  omega
theorem kj_min (hC : kC X own cc nL ret) {idx : Nat} {x y : Int32} (hd : decode cc pc = .ok (.invokestatic idx, 3)) (hl0 : Cond.methodLink own idx Lib.Math.min.name ∈ kT) (hs : Cond.static Lib.Math.min.name ∈ kT) (hi : Cond.initialized "java/lang/Math" ∈ kT) (hc : Cond.code Lib.Math.min.name Lib.Math.min.code 2 (some .int) ∈ kT) (hcat : (st.map kcat).sum ≤ 8) (hD : 1 ≤ xD X) (hcs : cells ≤ xmc X ∧ slots ≤ xms X) (kk : kJ X enc nL cells slots L (.inl (if y < x then y else x) :: st) (pc + 3) h w) : kJ X enc nL cells slots L (.inl y :: .inl x :: st) pc h w := by
  intro r h' hw ρ H locs ls hI hl hk
  have hts : ∀ w ∈ kT, w.before (xar X) (xs X) = true := hC.2.2.2.2.2.2.1
  obtain ⟨r1, r2, r3, r4⟩ := hC.2.2.2.2.2.2.2.2.2.2.2
  exact va_mmin hC.1 hC.2.1 (by rw [hC.2.2.1]; exact hl.1.symm) hC.2.2.2.2.2.1 (hts _ hl0) (hts _ hs) (hts _ hi) (hts _ hc) (Nat.le_trans hD r1) (by rw [kcat_sum]; omega) (Nat.le_trans hcs.1 r3) (Nat.le_trans hcs.2 r4) hd (kk r h' hw ρ H locs ls hI hl (hk.tail.tail.push (kOk_i _ _)))
end KALLOC
