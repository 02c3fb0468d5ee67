/-! exceptions made and thrown, out of a method without a table -/
def kNm : List String := ["java/lang/RuntimeException", "java/lang/Exception"]
def kEx3 : List String := ["java/lang/IllegalArgumentException", "java/lang/IllegalStateException", "java/lang/IndexOutOfBoundsException"]
def kthA (E : String) : List Cond := vx_atS RX9 350 E kNm
theorem kth_in (own : String) (ic : Nat) (E : String) : ∀ w ∈ vx_atS own ic E kNm, w = .methodLink own ic (Bundle.initS E) ∨ w ∈ kthA E := by
  intro w hw
  unfold vx_atS at hw
  obtain ⟨h1, h2⟩ := List.mem_filter.mp hw
  by_cases hm : w = .methodLink own ic (Bundle.initS E)
  · exact Or.inl hm
  · refine Or.inr (List.mem_filter.mpr ⟨?_, h2⟩)
    unfold Bundle.ownAtoms at h1 ⊢
    rcases List.mem_append.mp h1 with h3 | h3
    · exact List.mem_append_left _ h3
    · refine List.mem_append_right _ ?_
      rcases List.mem_cons.mp h3 with rfl | h3
      · exact absurd rfl hm
      · exact List.mem_cons_of_mem _ h3
def kthN (w : Cond) : Bool := match w with
  | .castable .. => true
  | .declares .. => true
  | _ => false
theorem kth_words : ∀ E ∈ kEx3, ∀ w ∈ kthA E, w = .methodLink RX9 350 (Bundle.initS E) ∨ w ∈ kT ∨ w ∈ kNest := by
  have h : (kEx3.all fun E => (kthA E).all fun w => decide (w = .methodLink RX9 350 (Bundle.initS E)) || (decide (w ∈ lw_tbl) && (goodWord w || kthN w))) = true := by decide +kernel
  intro E hE w hw
  have h1 := List.all_eq_true.mp (List.all_eq_true.mp h E hE) w hw
  simp only [Bool.or_eq_true, Bool.and_eq_true, decide_eq_true_eq] at h1
  rcases h1 with h1 | ⟨h1, h2 | h2⟩
  · exact Or.inl h1
  · exact Or.inr (Or.inl (List.mem_filter.mpr ⟨h1, h2⟩))
  · refine Or.inr (Or.inr (List.mem_filter.mpr ⟨h1, ?_⟩))
    cases w <;> first
      | (cases h2; done)
      | rfl
theorem kth_fit : ∀ E ∈ kEx3, Bundle.fit E = true := by decide +kernel
theorem kth_fit2 : ∀ n ∈ kNm, Bundle.fit n = true := by decide +kernel
theorem kth_ot : ∀ E ∈ kEx3, ∀ w ∈ kthA E, vx_ot w = true := by decide +kernel
section KTHROW
variable {α β : Type} {X : KX} {enc : α → Option KV} {own : String} {cc : ByteArray} {nL : Nat} {ret : Option FieldType} {cells slots : Nat} {L : List (Nat × KV)} {st : List KV} {pc : Nat} {h : KH} {w : KO α}
theorem kth_hat (hC : kC X own cc nL ret) {ic : Nat} {E : String} (hE : E ∈ kEx3) (hm : Cond.methodLink own ic (Bundle.initS E) ∈ kT) (ho : own = RX9) : ∀ w ∈ vx_atS own ic E kNm, w.before (xar X) (xs X) = true := by
  intro w hw
  have hts : ∀ w ∈ kT, w.before (xar X) (xs X) = true := hC.2.2.2.2.2.2.1
  rcases kth_in own ic E w hw with rfl | hw'
  · exact hts _ hm
  · by_cases hz : w = .methodLink RX9 350 (Bundle.initS E)
    · subst hz
      subst ho
      unfold vx_atS at hw
      have h1 := (List.mem_filter.mp hw).1
      rcases kth_words E hE _ hw' with _ | h2 | h2
      · by_cases hq : (Cond.methodLink RX9 350 (Bundle.initS E)) = .methodLink RX9 ic (Bundle.initS E)
        · rw [hq]
          exact hts _ hm
        · unfold Bundle.ownAtoms at h1
          rcases List.mem_append.mp h1 with h3 | h3
          · exfalso
            have h4 : ∀ E ∈ kEx3, (Cond.methodLink RX9 350 (Bundle.initS E)) ∉ Bundle.throwableAtoms ++ Bundle.throwableSAtoms ++ Bundle.chainSAtoms E kNm := by decide +kernel
            exact h4 E hE h3
          · exfalso
            rcases List.mem_cons.mp h3 with h5 | h5
            · exact hq h5
            · have h4 : ∀ E ∈ kEx3, (Cond.methodLink RX9 350 (Bundle.initS E)) ∉ ([.instantiable E 6, .castable E E, .selects E Bundle.tFill0 Bundle.tFill0, .selects E Bundle.tFill Bundle.tFill,
   .lays E Bundle.tN "cause" "Ljava/lang/Throwable;", .lays E Bundle.tN "stackTrace" Bundle.steD, .lays E Bundle.tN "suppressedExceptions" Bundle.listD, .lays E Bundle.tN "detailMessage" "Ljava/lang/String;",
   .isRef (.static Bundle.tN "UNASSIGNED_STACK" Bundle.steD), .isRef (.static Bundle.tN "SUPPRESSED_SENTINEL" Bundle.listD),
   .fieldLink Bundle.tN 198 Bundle.tN "backtrace" "Ljava/lang/Object;", .lays Bundle.tN Bundle.tN "backtrace" "Ljava/lang/Object;", .lays E Bundle.tN "backtrace" "Ljava/lang/Object;"] : List Cond) := by decide +kernel
              exact h4 E hE h5
      · exact hts _ h2
      · exact va_Nw.use rfl (hC.2.2.2.2.2.2.2.1.2.2.1 _ h2)
    · rcases kth_words E hE w hw' with h1 | h1 | h1
      · exact absurd h1 hz
      · exact hts _ h1
      · have h2 := hC.2.2.2.2.2.2.2.1.2.2.1 _ h1
        have h3 := (List.mem_filter.mp h1).2
        cases w <;> first
          | (cases h3; done)
          | exact va_Nw.use rfl h2
theorem kth_good {ic ik : Nat} {E : String} (hE : E ∈ kEx3) (hk : Cond.classLink own ik E ∈ kT) (hi : Cond.initialized E ∈ kT) (hm : Cond.methodLink own ic (Bundle.initS E) ∈ kT) : ∀ w ∈ Cond.classLink own ik E :: Cond.initialized E :: vx_atS own ic E kNm, vx_ot w = true := by
  have hg : ∀ w ∈ kT, vx_ot w = true := fun w hw => by
    unfold vx_ot
    rw [(List.mem_filter.mp hw).2, Bool.or_true]
  intro w hw
  rcases List.mem_cons.mp hw with rfl | hw
  · exact hg _ hk
  · rcases List.mem_cons.mp hw with rfl | hw
    · exact hg _ hi
    · rcases kth_in own ic E w hw with rfl | hw
      · exact hg _ hm
      · exact kth_ot E hE w hw
theorem kth_end (hC : kC X own cc nL ret) {ρ : Nat → Nat} {H : Heap} {locs : List Loc} {e : Nat} (hI : kInv X ρ h H locs) {r : Nat ⊕ α} {h' : KH} (hw : (kthrow e h : KO α) = some (r, h')) : ∀ t : State, (xs X).vm.Alike t.vm → H.size ≤ t.heap.size → (∀ q : Nat, q < H.size → t.heap[q]? = H[q]?) → kXC (xG X) (xA X) (xh X) (xr X) r h' (kEx e) (xs X) t := by
  cases hw
  obtain ⟨i1, i2, i3, i4, i5⟩ := hI
  intro t _ hz ho
  refine ⟨e, ρ, rfl, rfl, ⟨fun a ha => ⟨Nat.lt_of_lt_of_le (i1.1 a ha).1 hz, (i1.1 a ha).2.same rfl rfl rfl (fun _ _ => rfl) (ho _ (i1.1 a ha).1)⟩, i1.2.1, i1.2.2⟩, i4, i5, Nat.le_trans i2.1 hz, fun q h1 h2 => ?_⟩
  rw [ho q (Nat.lt_of_lt_of_le h1 i2.1)]
  exact i2.2.1 q h1 h2
theorem kj_throw (hC : kC X own cc nL ret) (hT : kT0 X) {ik is ic e : Nat} {tx : String} (he : kEx e ∈ kEx3) (ho : own = RX9) (hk : Cond.classLink own ik (kEx e) ∈ kT) (hi : Cond.initialized (kEx e) ∈ kT) (hm : Cond.methodLink own ic (Bundle.initS (kEx e)) ∈ kT) (hs : Cond.stringRef own is tx ∈ lw_tbl)
    (d0 : decode cc pc = .ok (.new ik, 3)) (d3 : decode cc (pc + 3) = .ok (.dup, 1)) (d4 : decode cc (pc + 4) = .ok (.ldc is, 2)) (d6 : decode cc (pc + 6) = .ok (.invokespecial ic, 3)) (d9 : decode cc (pc + 9) = .ok (.athrow, 1))
    (hcat : (st.map kcat).sum ≤ 8) (hD : 6 ≤ xD X) (hb : cells + 1 ≤ xmc X ∧ slots + 6 ≤ xms X) : kJ X enc nL cells slots L st pc h (kthrow e h) := by
  intro r h' hw ρ H locs ls hI hl hko
  have hts : ∀ w ∈ kT, w.before (xar X) (xs X) = true := hC.2.2.2.2.2.2.1
  obtain ⟨r1, r2, r3, r4⟩ := hC.2.2.2.2.2.2.2.2.2.2.2
  obtain ⟨z1, z2⟩ := hC.2.2.2.2.2.2.2.2.1
  obtain ⟨sa, hsa⟩ := hC.2.2.2.2.2.2.2.1.2.2.2.2.2.1 own is tx hs
  exact vx_throwS (names := kNm) (sa := sa) (text := tx) hC.1 hC.2.1 hC.2.2.2.2.2.2.2.2.2.1 hC.2.2.2.2.2.1 (kth_fit _ he) kth_fit2 (hts _ hk) (hts _ hi) hsa (kth_hat hC he hm ho) (kth_good he hk hi hm) z1 z2 hI.2.1 (by rw [hC.2.2.1]; exact hl.1) d0 d3 d4 d6 d9 (fun x hx => (hT x hx).elim)
    (by show 2 + 3 < _; omega) (by rw [kcat_sum]; show _ + (13 * (2 + 1) + 43) ≤ _; omega) (Nat.le_trans hb.1 r3) (Nat.le_trans hb.2 r4) hC.2.2.2.2.1 (kth_end hC hI hw) hI.2.1.2.2 hb.1 hb.2
theorem kj_throwW (hC : kC X own cc nL ret) (hT : kT0 X) {ik is ic e : Nat} {tx : String} (he : kEx e ∈ kEx3) (ho : own = RX9) (hk : Cond.classLink own ik (kEx e) ∈ kT) (hi : Cond.initialized (kEx e) ∈ kT) (hm : Cond.methodLink own ic (Bundle.initS (kEx e)) ∈ kT) (hs : Cond.stringRef own is tx ∈ lw_tbl)
    (d0 : decode cc pc = .ok (.new ik, 3)) (d3 : decode cc (pc + 3) = .ok (.dup, 1)) (d4 : decode cc (pc + 4) = .ok (.ldc_w is, 3)) (d6 : decode cc (pc + 7) = .ok (.invokespecial ic, 3)) (d9 : decode cc (pc + 10) = .ok (.athrow, 1))
    (hcat : (st.map kcat).sum ≤ 8) (hD : 6 ≤ xD X) (hb : cells + 1 ≤ xmc X ∧ slots + 6 ≤ xms X) : kJ X enc nL cells slots L st pc h (kthrow e h) := by
  intro r h' hw ρ H locs ls hI hl hko
  have hts : ∀ w ∈ kT, w.before (xar X) (xs X) = true := hC.2.2.2.2.2.2.1
  obtain ⟨r1, r2, r3, r4⟩ := hC.2.2.2.2.2.2.2.2.2.2.2
  obtain ⟨z1, z2⟩ := hC.2.2.2.2.2.2.2.2.1
  obtain ⟨sa, hsa⟩ := hC.2.2.2.2.2.2.2.1.2.2.2.2.2.1 own is tx hs
  exact vx_throwSW (names := kNm) (sa := sa) (text := tx) hC.1 hC.2.1 hC.2.2.2.2.2.2.2.2.2.1 hC.2.2.2.2.2.1 (kth_fit _ he) kth_fit2 (hts _ hk) (hts _ hi) hsa (kth_hat hC he hm ho) (kth_good he hk hi hm) z1 z2 hI.2.1 (by rw [hC.2.2.1]; exact hl.1) d0 d3 d4 d6 d9 (fun x hx => (hT x hx).elim)
    (by show 2 + 3 < _; omega) (by rw [kcat_sum]; show _ + (13 * (2 + 1) + 43) ≤ _; omega) (Nat.le_trans hb.1 r3) (Nat.le_trans hb.2 r4) hC.2.2.2.2.1 (kth_end hC hI hw) hI.2.1.2.2 hb.1 hb.2
end KTHROW
