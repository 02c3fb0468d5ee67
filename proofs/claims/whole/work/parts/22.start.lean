/-! the law's start: the words at the entry, the two objects, the answer's row -/
theorem kst_inst : ∀ ci, ci < 11 → ∀ q, vwCl[ci]? = some q → Cond.instantiable q.1 q.2.2 ∈ lw_tbl := by
  have h : ∀ ci, ci < 11 → ((vwCl[ci]?).all fun q => decide (Cond.instantiable q.1 q.2.2 ∈ lw_tbl)) = true := by decide +kernel
  intro ci hci q hq
  have h1 := h ci hci
  rw [hq] at h1
  exact of_decide_eq_true h1
theorem kst_nest : ∀ w ∈ kNest, w ∈ lw_tbl ∧ w.onTables = true := by
  have h : (kNest.all fun w => w.onTables) = true := by decide +kernel
  intro w hw
  exact ⟨(List.mem_filter.mp hw).1, List.all_eq_true.mp h w hw⟩
section KSTART
variable {b : Nat} {s : State}
theorem kst_cls (hts : ∀ w ∈ lw_tbl, w.before #[Value.ref b] s = true) : ∃ (dC : Nat → ClassId) (dI : Nat → Nat → Nat), ∀ ci q, vwCl[ci]? = some q → u_Kn s q.1 q.2.1 q.2.2 (dC ci) (dI ci) := by
  have h : ∀ ci : Nat, ∃ d : ClassId × (Nat → Nat), ∀ q : vw_C, vwCl[ci]? = some q → u_Kn s q.1 q.2.1 q.2.2 d.1 d.2 := by
    intro ci
    cases e : vwCl[ci]? with
    | none => exact ⟨(0, fun _ => 0), fun q h => by cases h⟩
    | some q =>
      obtain ⟨c, i, hk⟩ := u_known (ws := lw_tbl) hts (fun w hw => (List.mem_filter.mp (kcls_in ci (kCl_lt e) q e w hw)).1) (hts _ (kst_inst ci (kCl_lt e) q e))
      exact ⟨(c, i), fun q' h => by cases h; exact hk⟩
  exact ⟨fun ci => (Classical.choose (h ci)).1, fun ci => (Classical.choose (h ci)).2, fun ci q hq => Classical.choose_spec (h ci) q hq⟩
theorem kst_arr1 (hts : ∀ w ∈ lw_tbl, w.before #[Value.ref b] s = true) (t : Nat) : ∃ cA : ClassId, ∀ ty, kTy t = some ty → ArrOfT s cA ty ∧ va_RA s cA ty := by
  unfold kTy
  split
  · obtain ⟨c, k, comp, h1, h2, h3⟩ := Cond.arrayClass_spec (hts (.arrayClass .int) (by decide +kernel))
    exact ⟨c, fun ty h => by cases h; exact ⟨fun n z => ⟨(fun k h => by cases h), k, h2, comp, h3⟩, h1⟩⟩
  · obtain ⟨c, k, comp, h1, h2, h3⟩ := Cond.arrayClass_spec (hts (.arrayClass .long) (by decide +kernel))
    exact ⟨c, fun ty h => by cases h; exact ⟨fun n z => ⟨(fun k h => by cases h), k, h2, comp, h3⟩, h1⟩⟩
  · obtain ⟨c, k, comp, h1, h2, h3⟩ := Cond.arrayClass_spec (hts (.arrayClass .boolean) (by decide +kernel))
    exact ⟨c, fun ty h => by cases h; exact ⟨fun n z => ⟨(fun k h => by cases h), k, h2, comp, h3⟩, h1⟩⟩
  · obtain ⟨comp, c, k, h1, h2, h3, h4⟩ := Cond.arrayOver_specA (hts (.arrayOver (.array .int)) (by decide +kernel))
    exact ⟨c, fun ty h => by cases h; exact ⟨fun n z => ⟨(fun k h => by cases h), k, h2, comp, h3⟩, h4⟩⟩
  · obtain ⟨comp, c, k, h1, h2, h3, h4, h5⟩ := Cond.arrayOver_spec (hts (.arrayOver (.object "Tollkeeper$Plate")) (by decide +kernel))
    exact ⟨c, fun ty h => by cases h; exact ⟨fun n z => ⟨(fun k h => by cases h), k, h3, comp, h4⟩, k, comp, h3, h4, h1, h5⟩⟩
  · obtain ⟨comp, c, k, h1, h2, h3, h4, h5⟩ := Cond.arrayOver_spec (hts (.arrayOver (.object "Tollkeeper$Reading")) (by decide +kernel))
    exact ⟨c, fun ty h => by cases h; exact ⟨fun n z => ⟨(fun k h => by cases h), k, h3, comp, h4⟩, k, comp, h3, h4, h1, h5⟩⟩
  · obtain ⟨comp, c, k, h1, h2, h3, h4, h5⟩ := Cond.arrayOver_spec (hts (.arrayOver (.object "Tollkeeper$Warrant")) (by decide +kernel))
    exact ⟨c, fun ty h => by cases h; exact ⟨fun n z => ⟨(fun k h => by cases h), k, h3, comp, h4⟩, k, comp, h3, h4, h1, h5⟩⟩
  · obtain ⟨comp, c, k, h1, h2, h3, h4, h5⟩ := Cond.arrayOver_spec (hts (.arrayOver (.object "Tollkeeper$Answer")) (by decide +kernel))
    exact ⟨c, fun ty h => by cases h; exact ⟨fun n z => ⟨(fun k h => by cases h), k, h3, comp, h4⟩, k, comp, h3, h4, h1, h5⟩⟩
  · exact ⟨0, fun ty h => by cases h⟩
theorem kst_str (hts : ∀ w ∈ lw_tbl, w.before #[Value.ref b] s = true) (own : String) (k : Nat) (tx : String) (hw : Cond.stringRef own k tx ∈ lw_tbl) : ∃ a, vk_R own k tx a s := by
  have h := hts _ hw
  cases e : s.vm.findClass own with
  | none => simp [Cond.before, Cond.holds, Cond.value, e] at h
  | some cur =>
    obtain ⟨kk, cf, i, a, -, -, -, -, -, hev⟩ := Cond.stringRef_spec e h
    exact ⟨a, vk_R.of h hev⟩
theorem kst_K (hts : ∀ w ∈ lw_tbl, w.before #[Value.ref b] s = true) (hgv : (Jvm.Cond.and given_1 narrow_1).before #[Value.ref b] s = true) : ∃ G : KG, kK G s := by
  obtain ⟨dC, dI, hcl⟩ := kst_cls hts
  have hs := flat_of_before _ hgv
  refine ⟨((dC, dI), fun t => Classical.choose (kst_arr1 hts t)), hcl, fun t ty ht => Classical.choose_spec (kst_arr1 hts t) ty ht, fun w hw => va_Nw.of (kst_nest w hw).2 (hts w (kst_nest w hw).1), fun C hC => ?_, hts (.arrayOver (.array .int)) (by decide +kernel), fun own k tx hw => kst_str hts own k tx hw, fun C hC D hD hne => ?_⟩
  · simp only [kArr, List.mem_cons, List.mem_nil_iff, or_false] at hC
    rcases hC with rfl | rfl | rfl | rfl
    · exact va_AO.of (hts (.arrayOver (.object "Tollkeeper$Plate")) (by decide +kernel))
    · exact va_AO.of (hts (.arrayOver (.object "Tollkeeper$Reading")) (by decide +kernel))
    · exact va_AO.of (hts (.arrayOver (.object "Tollkeeper$Warrant")) (by decide +kernel))
    · exact va_AO.of (hts (.arrayOver (.object "Tollkeeper$Answer")) (by decide +kernel))
  · simp only [kExs, List.mem_cons, List.mem_nil_iff, or_false] at hC hD
    rcases hC with rfl | rfl | rfl | rfl <;> rcases hD with rfl | rfl | rfl | rfl
    all_goals first
      | exact absurd rfl hne
      | exact va_Nc.of (hs _ (by decide +kernel))
theorem kst_Z (hts : ∀ w ∈ lw_tbl, w.before #[Value.ref b] s = true) (hgv : (Jvm.Cond.and given_1 narrow_1).before #[Value.ref b] s = true) : kZ (fun q => s.heap.size ≤ q) s s.heap := by
  have hs := flat_of_before _ hgv
  exact ⟨vx_Zqof (hts _ (by decide +kernel)) (hts _ (by decide +kernel)) (hs _ (by decide +kernel)) (fun a h1 h2 => absurd h1 (Nat.not_lt.mpr h2)),
    vx_Zqof (hts _ (by decide +kernel)) (hts _ (by decide +kernel)) (hs _ (by decide +kernel)) (fun a h1 h2 => absurd h1 (Nat.not_lt.mpr h2))⟩
end KSTART
/-- nothing -/
def kE : KH := kmk (fun _ => 0) (fun _ => 0) (fun _ _ => 0) (fun _ _ => 0) (fun _ _ => none) 0
def kYX (Y : KY) : KX := (yp Y, yl Y, ye Y, room_1, ys Y, ym Y, #[Value.ref (yb Y)], ybe Y, yme Y, yc Y, yG Y, yA Y, kE, fun _ => 0, 601024, 7293034, 11)
section KSTART2
variable {Y : KY} {cells slots pc : Nat} {h g : KH} {ρ σ : Nat → Nat} {H H1 : Heap} {locs : List Loc} {ls : Array Slot} {rest : List Value}
theorem kCL.kc (hC : kCL Y) : kC (kYX Y) RL cL_law 8 ret := by
  obtain ⟨a1, a2, a3, a4, a5, a6, a7, a8, a9, -, -, a10⟩ := hC
  exact ⟨a1, a2, a4, a3, a10, a5, a6, a7, a8, a9, fun q hq => hq, by show 11 ≤ 11; decide, by show 30 * 11 ≤ 390; decide, Nat.le_refl _, Nat.le_refl _⟩
theorem kL2.inv (hI : kL2 Y ρ h σ g H locs) : kInv (kYX Y) ρ h H locs := ⟨hI.1, hI.2.2.2.1, fun a ha => hI.2.2.2.2.1 a ha, fun a ha => (ha rfl).elim, fun a ha _ => hI.2.2.2.2.1 a ha⟩
theorem kL2.ext {h1 : KH} {o N : Nat} (hI : kL2 Y ρ h σ g H locs) (hn : kInv (kYX Y) (kext ρ o N H.size) h1 H1 locs) (hs : ∀ a, ¬ (o ≤ a ∧ a < o + N) → kd h1 a = kd h a) (z1 : H1.size = H.size + N) (o1 : ∀ q : Nat, q < H.size → H1[q]? = H[q]?) : kL2 Y (kext ρ o N H.size) h1 σ g H1 locs := by
  refine ⟨hn.1, hI.2.1.stay (by omega) (fun a ha => o1 _ (hI.2.1.1 a ha).1), fun a c ha hc he => ?_, hn.2.1, hn.2.2.1, hI.2.2.2.2.2⟩
  by_cases hin : o ≤ a ∧ a < o + N
  · rw [kext_in hin] at he
    have := (hI.2.1.1 c hc).1
    omega
  · rw [kext_out hin] at he
    rw [hs a hin] at ha
    exact hI.2.2.1 a c ha hc he
theorem kl2_new (hC : kCL Y) {idx ci : Nat} {q : vw_C} (hI : kL2 Y ρ h σ g H locs) (hfree : kd h (kx h) = 0) (hd : decode cL_law pc = .ok (.new idx, 3)) (hq : vwCl[ci]? = some q) (hcl : Cond.classLink RL idx q.1 ∈ kT) (hins : Cond.instantiable q.1 q.2.2 ∈ kT) (hini : Cond.initialized q.1 ∈ kT) (hb : cells + 1 ≤ 601024 ∧ slots + q.2.2 ≤ 7293034)
    (kk : ∀ (ρ' : Nat → Nat) (H' : Heap), kL2 Y ρ' (al h (ci + 1) 0) σ g H' locs → (∀ a, kd h a ≠ 0 → ρ' a = ρ a) → kWL Y (cells + 1) (slots + q.2.2) H' locs (F0 (ym Y) (pc + 3) ls (.ref (ρ' (kx h)) :: rest))) : kWL Y cells slots H locs (F0 (ym Y) pc ls rest) := by
  have hts : ∀ w ∈ kT, w.before #[Value.ref (yb Y)] (ys Y) = true := hC.2.2.2.2.2.1
  have hci := kCl_lt hq
  have hKn := hC.2.2.2.2.2.2.1.1 ci q hq
  refine W.newcK hC.1 hC.2.1 hC.2.2.2.2.1 (hts _ hcl) (hts _ hins) (hts _ hini) rfl hd hb.1 hb.2 hKn.2.1 rfl fun H1 kC0 hkC e1 z1 o1 => ?_
  have hborn := u_born (kFt ci) hts (kcls_in ci hci q hq) hKn hkC e1 (kcls_ty ci hci q hq)
  have hkd : kd (al h (ci + 1) 0) (kx h) = ci + 1 := by rw [kd_al, if_pos rfl]
  have hn := kInv.alloc (h1 := al h (ci + 1) 0) (o := kx h) (N := 1) hC.kc hI.inv (fun a ha => by rw [show a = kx h by omega]; exact hfree) (fun a ha => kal_same h _ _ a ha) z1 o1 (fun a ha => by
    have ea : a = kx h := by omega
    subst ea
    refine ⟨fun ci' q' hq' hk' => ?_, fun ty hty => ?_⟩
    · rw [hkd] at hk'
      have hcc : ci' = ci := by omega
      subst hcc
      have hqq : q' = q := Option.some.inj (hq'.symm.trans hq)
      subst hqq
      rw [kext_in ha, Nat.sub_self, Nat.add_zero]
      exact hborn.to (fun k hk => by rw [kdef_cls ci' hci q' hq k hk]; exact (kal_V _ h _ _ k _).symm)
    · rw [hkd, kTy_obj hq] at hty
      cases hty) (fun a k b ha hb => by
    rw [show a = kx h by omega, kR_al, if_pos rfl] at hb
    cases hb)
  have hg := kk _ H1 (hI.ext hn.1 (fun a ha => (kal_same h _ _ a ha).1) z1 o1) (fun a ha => (hn.2 a ha).2)
  rw [kext_in ⟨Nat.le_refl _, by omega⟩, Nat.sub_self, Nat.add_zero] at hg
  exact hg
theorem kl2_newa (hC : kCL Y) {atype : ArrayType} {c N : Nat} {n : Int32} {ty : FieldType} (hI : kL2 Y ρ h σ g H locs) (hfree : kd h (kx h) = 0) (hd : decode cL_law pc = .ok (.newarray atype, 2)) (hty : kTy c = some ty) (hat : newarray.typeOf atype = ty) (hra : ∀ U cA, va_RA U cA ty = (U.vm.findClass ("[" ++ ty.toString) = some cA)) (harr : Cond.arrayClass ty ∈ kT) (hn : ¬ n < 0 ∧ n.toNatClampNeg = N ∧ N * componentBytes ty ≤ 536870912) (hb : cells + 1 ≤ 601024 ∧ slots + N ≤ 7293034)
    (kk : ∀ (ρ' : Nat → Nat) (H' : Heap), kL2 Y ρ' (al h c N) σ g H' locs → (∀ a, kd h a ≠ 0 → ρ' a = ρ a) → kWL Y (cells + 1) (slots + N) H' locs (F0 (ym Y) (pc + 2) ls (.ref (ρ' (kx h)) :: rest))) : kWL Y cells slots H locs (F0 (ym Y) pc ls (.int n :: rest)) := by
  subst hat
  have hts : ∀ w ∈ kT, w.before #[Value.ref (yb Y)] (ys Y) = true := hC.2.2.2.2.2.1
  refine va_newaK hC.1 hC.2.1 (hts _ harr) rfl hd rfl hn.1 hn.2.1 hn.2.2 hb.1 hb.2 rfl fun H1 cA e1 z1 o1 hAr hNm => ?_
  have hcA : cA = (yG Y).2 c := by
    have h9 := (hC.2.2.2.2.2.2.1.2.1 c _ hty).2
    rw [hra] at h9
    exact Option.some.inj (hNm.symm.trans h9)
  subst hcA
  have hn2 := kInv.allocA hC.kc hI.inv hfree hty z1 o1 e1
  have hg := kk _ H1 (hI.ext hn2.1 (fun a ha => (kal_same h _ _ a ha).1) z1 o1) (fun a ha => (hn2.2 a ha).2)
  rw [kext_in ⟨Nat.le_refl _, by omega⟩, Nat.sub_self, Nat.add_zero] at hg
  exact hg
theorem kl2_init (hC : kCL Y) {β : Type} {encb : β → Option KV} {index maxL D mcc msc a : Nat} {y : MethodName} {bytes : ByteArray} {v : β} {hc : KH} {wc : KO β} {lv : List (Nat × Value)} (hI : kL2 Y ρ h σ g H locs) (hd : decode cL_law pc = .ok (.invokespecial index, 3)) (hl : Cond.methodLink RL index y ∈ kT) (hy : kYok y bytes maxL none 0) (hy2 : Cond.instanceMethod y ∈ kT) (hy3 : y.name = "<init>")
    (hM : kM y bytes maxL none D mcc msc encb [.inr (.inr (some a))] h wc) (hwc : wc = some (.inr v, hc)) (ha : kd h a ≠ 0) (henc : encb v = none) (hlv : lv_has ls 8 lv) (hroom : D + 1 ≤ 11 ∧ 19 + maxL ≤ 30) (hb : cells + mcc ≤ 601024 ∧ slots + msc ≤ 7293034) (hcat : (rest.map fun v => v.category).sum ≤ 8)
    (kk : ∀ (ρ' : Nat → Nat) (H' : Heap) (locs' : List Loc), kL2 Y ρ' hc σ g H' locs' → (∀ a, kd h a ≠ 0 → kd hc a = kd h a ∧ ρ' a = ρ a) → kWL Y (cells + mcc) (slots + msc) H' locs' (F0 (ym Y) (pc + 3) ls rest)) : kWL Y cells slots H locs (F0 (ym Y) pc ls (.ref (ρ a) :: rest)) := by
  have hts : ∀ w ∈ kT, w.before #[Value.ref (yb Y)] (ys Y) = true := hC.2.2.2.2.2.1
  have hMl := kMet_of (hM (yl Y) (yG Y) ρ H.size (.inr v) hc hC.2.2.2.2.2.2.2.2.1 hwc (fun u hu => by
    rw [List.mem_singleton.mp hu]
    exact kOk_r ha)) kXC_no
  obtain ⟨p1, p2⟩ := kPreL (vs := [.ref (ρ a)]) hC hI
  have hr := va_runI (p := yp Y) (l := yl Y) (e := ye Y) (R := room_1) (s := ys Y) (m := ym Y) (args := #[Value.ref (yb Y)]) (below := ybe Y) (meth := yme Y) (c := yc Y) (H := H) (locs := locs) (cells := cells) (slots := slots) (b := ρ a) (As := []) (rest := rest) (g := F0 (ym Y) pc ls (.ref (ρ a) :: rest))
    (kFixL hC) hMl ⟨kcallL (n := 0) hC hl hy hroom, hy3, hts _ hy2⟩ ⟨p1, p2⟩ rfl rfl hlv.1 rfl (lv_room hcat) hd hb
  refine kl_go (v := v) (kRun_of hr) hI (fun ρ' H' locs' hI' hag => ?_)
  have hg := kk ρ' H' locs' hI' hag
  rw [henc]
  exact hg
end KSTART2
