theorem kNF_of {ci k : Nat} (h : ((kvCl[ci]?).all fun q => (q.2.1 k).2.2.2 == false) = true) : kNF ci k := by
  intro q hq
  rw [hq] at h
  exact beq_iff_eq.mp h
theorem kFF_of {own : String} {ci k : Nat} (h : ((kvCl[ci]?).all fun q => (q.2.1 k).2.2.2 == true && q.1 == own) = true) : kFF own ci k := by
  intro q hq
  rw [hq] at h
  simp only [Option.all_some, Bool.and_eq_true, beq_iff_eq] at h
  exact h
/-! the words of the fourth exception -/
def kNE : String := "java/util/NoSuchElementException"
def kNrx : ByteArray := ⟨#[0x2a, 0x2b, 0xb7, 0x00, 0x0d, 0xb1]⟩
def kyA : List Cond := Bundle.throwableAtoms ++ Bundle.throwableSAtoms ++ Bundle.chainSAtomsX kNE 13 kNrx kNm
def kyT : List Cond := [.instantiable kNE 6, .castable kNE kNE, .selects kNE Bundle.tFill0 Bundle.tFill0, .selects kNE Bundle.tFill Bundle.tFill,
   .lays kNE Bundle.tN "cause" "Ljava/lang/Throwable;", .lays kNE Bundle.tN "stackTrace" Bundle.steD, .lays kNE Bundle.tN "suppressedExceptions" Bundle.listD, .lays kNE Bundle.tN "detailMessage" "Ljava/lang/String;",
   .isRef (.static Bundle.tN "UNASSIGNED_STACK" Bundle.steD), .isRef (.static Bundle.tN "SUPPRESSED_SENTINEL" Bundle.listD),
   .fieldLink Bundle.tN 198 Bundle.tN "backtrace" "Ljava/lang/Object;", .lays Bundle.tN Bundle.tN "backtrace" "Ljava/lang/Object;", .lays kNE Bundle.tN "backtrace" "Ljava/lang/Object;"]
def kyB : List Cond := (kyA ++ kyT).filter vx_no
theorem ky_split (own : String) (ic : Nat) : Bundle.ownAtomsX own ic kNE 13 kNrx kNm = kyA ++ (.methodLink own ic (Bundle.initS kNE) :: kyT) := rfl
theorem ky_in (own : String) (ic : Nat) : ∀ w ∈ vy_atS own ic kNE 13 kNrx kNm, w = .methodLink own ic (Bundle.initS kNE) ∨ w ∈ kyB := by
  intro w hw
  unfold vy_atS at hw
  rw [ky_split] at hw
  obtain ⟨h1, h2⟩ := List.mem_filter.mp hw
  rcases List.mem_append.mp h1 with h3 | h3
  · exact Or.inr (List.mem_filter.mpr ⟨List.mem_append_left _ h3, h2⟩)
  · rcases List.mem_cons.mp h3 with h3 | h3
    · exact Or.inl h3
    · exact Or.inr (List.mem_filter.mpr ⟨List.mem_append_right _ h3, h2⟩)
theorem ky_words : ∀ w ∈ kyB, w ∈ kT ∨ w ∈ kNest := by
  have h : (kyB.all fun w => decide (w ∈ lw_tbl) && (goodWord w || kthN w)) = true := by decide +kernel
  intro w hw
  have h1 := List.all_eq_true.mp h w hw
  simp only [Bool.or_eq_true, Bool.and_eq_true, decide_eq_true_eq] at h1
  rcases h1 with ⟨h1, h2 | h2⟩
  · exact Or.inl (List.mem_filter.mpr ⟨h1, h2⟩)
  · refine Or.inr (List.mem_filter.mpr ⟨h1, ?_⟩)
    cases w <;> first
      | (cases h2; done)
      | rfl
theorem ky_ot : ∀ w ∈ kyB, vx_ot w = true := by decide +kernel
theorem ky_ex (e : Nat) : kEx e ∈ kEx3 ∨ kEx e = kNE := by
  unfold kEx kEx3 kNE
  split <;> simp
section KMORE
variable {α β : Type} {X : KX} {enc : α → Option KV} {own : String} {cc : ByteArray} {nL : Nat} {ret : Option FieldType} {cells slots : Nat} {L : List (Nat × KV)} {st : List KV} {pc : Nat} {h : KH} {w : KO α}
theorem kj_norm {st' : List KV} {c' z' : Nat} (hs : st = st') (hc : cells = c') (hz : slots = z') (kk : kJ X enc nL c' z' L st' pc h w) : kJ X enc nL cells slots L st pc h w := by
  subst hs
  subst hc
  subst hz
  exact kk
theorem kj_fin (h1 : xmc X = cells) (h2 : xms X = slots) (kk : kJ X enc nL (xmc X) (xms X) L st pc h w) : kJ X enc nL cells slots L st pc h w := by
  subst h1
  subst h2
  exact kk
theorem kj_ldcw (hC : kC X own cc nL ret) {i : Nat} {v : Int32} (hd : decode cc pc = .ok (.ldc_w i, 3)) (hv : Cond.constant own i v ∈ kT) (k : kJ X enc nL cells slots L (.inl v :: st) (pc + 3) h w) : kJ X enc nL cells slots L st pc h w := by
  intro r h' hw ρ H locs ls hI hl hk
  exact lv_ldcw hC.1 hC.2.1 hC.2.2.2.2.2.1 (hC.2.2.2.2.2.2.1 _ hv) hd (k r h' hw ρ H locs ls hI hl (hk.push (kOk_i _ _)))
theorem ky_hat (hC : kC X own cc nL ret) {ic : Nat} (hm : Cond.methodLink own ic (Bundle.initS kNE) ∈ kT) : ∀ w ∈ vy_atS own ic kNE 13 kNrx kNm, w.before (xar X) (xs X) = true := by
  intro w hw
  have hts : ∀ w ∈ kT, w.before (xar X) (xs X) = true := hC.2.2.2.2.2.2.1
  rcases ky_in own ic w hw with rfl | h1
  · exact hts _ hm
  · rcases ky_words w h1 with h2 | h2
    · exact hts _ h2
    · have h3 := hC.2.2.2.2.2.2.2.1.2.2.1 _ h2
      have h4 := (List.mem_filter.mp h2).2
      cases w <;> first
        | (cases h4; done)
        | exact va_Nw.use rfl h3
theorem ky_good {ic ik : Nat} (hk : Cond.classLink own ik kNE ∈ kT) (hi : Cond.initialized kNE ∈ kT) (hm : Cond.methodLink own ic (Bundle.initS kNE) ∈ kT) : ∀ w ∈ Cond.classLink own ik kNE :: Cond.initialized kNE :: vy_atS own ic kNE 13 kNrx kNm, vx_ot w = true := by
  have hg : ∀ w ∈ kT, vx_ot w = true := fun w hw => by
    unfold vx_ot
    rw [(List.mem_filter.mp hw).2, Bool.or_true]
  intro w hw
  rcases List.mem_cons.mp hw with rfl | hw
  · exact hg _ hk
  · rcases List.mem_cons.mp hw with rfl | hw
    · exact hg _ hi
    · rcases ky_in own ic w hw with rfl | hw
      · exact hg _ hm
      · exact ky_ot w hw
theorem kj_throwN (hC : kC X own cc nL ret) (hT : kT0 X) {ik is ic e : Nat} {tx : String} (ho : own = RX9) (hk : Cond.classLink own ik (kEx e) ∈ kT) (hi : Cond.initialized (kEx e) ∈ kT) (hm : Cond.methodLink own ic (Bundle.initS (kEx e)) ∈ kT) (hs : Cond.stringRef own is tx ∈ lw_tbl)
    (d0 : decode cc pc = .ok (.new ik, 3)) (d3 : decode cc (pc + 3) = .ok (.dup, 1)) (d4 : decode cc (pc + 4) = .ok (.ldc is, 2)) (d6 : decode cc (pc + 6) = .ok (.invokespecial ic, 3)) (d9 : decode cc (pc + 9) = .ok (.athrow, 1))
    (hcat : (st.map kcat).sum ≤ 8) (hD : 6 ≤ xD X) (hb : cells + 1 ≤ xmc X ∧ slots + 6 ≤ xms X) : kJ X enc nL cells slots L st pc h (kthrow e h) := by
  rcases ky_ex e with he | he
  · exact kj_throw hC hT he ho hk hi hm hs d0 d3 d4 d6 d9 hcat hD hb
  · rw [he] at hk hi hm
    intro r h' hw ρ H locs ls hI hl hko
    have hts : ∀ w ∈ kT, w.before (xar X) (xs X) = true := hC.2.2.2.2.2.2.1
    obtain ⟨r1, r2, r3, r4⟩ := hC.2.2.2.2.2.2.2.2.2.2.2
    obtain ⟨z1, z2⟩ := hC.2.2.2.2.2.2.2.2.1
    obtain ⟨sa, hsa⟩ := hC.2.2.2.2.2.2.2.1.2.2.2.2.2.1 own is tx hs
    exact vy_throwS (names := kNm) (ix := 13) (rx := kNrx) (sa := sa) (text := tx) hC.1 hC.2.1 hC.2.2.2.2.2.2.2.2.2.1 (by decide +kernel) (by decide +kernel) (by decide +kernel) (by decide +kernel) hC.2.2.2.2.2.1 (by decide +kernel) kth_fit2 (hts _ hk) (hts _ hi) hsa (ky_hat hC hm) (ky_good hk hi hm) z1 z2 hI.2.1 (by rw [hC.2.2.1]; exact hl.1) d0 d3 d4 d6 d9 (fun x hx => (hT x hx).elim)
      (by show 2 + 3 < _; omega) (by rw [kcat_sum]; show _ + (13 * (2 + 1) + 43) ≤ _; omega) (Nat.le_trans hb.1 r3) (Nat.le_trans hb.2 r4) hC.2.2.2.2.1 (by rw [← he]; exact kth_end hC hI hw) hI.2.1.2.2 hb.1 hb.2
theorem kj_throwWN (hC : kC X own cc nL ret) (hT : kT0 X) {ik is ic e : Nat} {tx : String} (ho : own = RX9) (hk : Cond.classLink own ik (kEx e) ∈ kT) (hi : Cond.initialized (kEx e) ∈ kT) (hm : Cond.methodLink own ic (Bundle.initS (kEx e)) ∈ kT) (hs : Cond.stringRef own is tx ∈ lw_tbl)
    (d0 : decode cc pc = .ok (.new ik, 3)) (d3 : decode cc (pc + 3) = .ok (.dup, 1)) (d4 : decode cc (pc + 4) = .ok (.ldc_w is, 3)) (d6 : decode cc (pc + 7) = .ok (.invokespecial ic, 3)) (d9 : decode cc (pc + 10) = .ok (.athrow, 1))
    (hcat : (st.map kcat).sum ≤ 8) (hD : 6 ≤ xD X) (hb : cells + 1 ≤ xmc X ∧ slots + 6 ≤ xms X) : kJ X enc nL cells slots L st pc h (kthrow e h) := by
  rcases ky_ex e with he | he
  · exact kj_throwW hC hT he ho hk hi hm hs d0 d3 d4 d6 d9 hcat hD hb
  · rw [he] at hk hi hm
    intro r h' hw ρ H locs ls hI hl hko
    have hts : ∀ w ∈ kT, w.before (xar X) (xs X) = true := hC.2.2.2.2.2.2.1
    obtain ⟨r1, r2, r3, r4⟩ := hC.2.2.2.2.2.2.2.2.2.2.2
    obtain ⟨z1, z2⟩ := hC.2.2.2.2.2.2.2.2.1
    obtain ⟨sa, hsa⟩ := hC.2.2.2.2.2.2.2.1.2.2.2.2.2.1 own is tx hs
    exact vy_throwSW (names := kNm) (ix := 13) (rx := kNrx) (sa := sa) (text := tx) hC.1 hC.2.1 hC.2.2.2.2.2.2.2.2.2.1 (by decide +kernel) (by decide +kernel) (by decide +kernel) (by decide +kernel) hC.2.2.2.2.2.1 (by decide +kernel) kth_fit2 (hts _ hk) (hts _ hi) hsa (ky_hat hC hm) (ky_good hk hi hm) z1 z2 hI.2.1 (by rw [hC.2.2.1]; exact hl.1) d0 d3 d4 d6 d9 (fun x hx => (hT x hx).elim)
      (by show 2 + 3 < _; omega) (by rw [kcat_sum]; show _ + (13 * (2 + 1) + 43) ≤ _; omega) (Nat.le_trans hb.1 r3) (Nat.le_trans hb.2 r4) hC.2.2.2.2.1 (by rw [← he]; exact kth_end hC hI hw) hI.2.1.2.2 hb.1 hb.2
end KMORE
