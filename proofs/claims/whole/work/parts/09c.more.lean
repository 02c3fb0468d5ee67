theorem kNF_of {ci k : Nat} (h : ((vwCl[ci]?).all fun q => (q.2.1 k).2.2.2 == false) = true) : kNF ci k := by
  intro q hq
  rw [hq] at h
  exact beq_iff_eq.mp h
theorem kFF_of {own : String} {ci k : Nat} (h : ((vwCl[ci]?).all fun q => (q.2.1 k).2.2.2 == true && q.1 == own) = true) : kFF own ci k := by
  intro q hq
  rw [hq] at h
  simp only [Option.all_some, Bool.and_eq_true, beq_iff_eq] at h
  exact h
section KMORE
variable {α β : Type} {X : KX} {enc : α → Option KV} {own : String} {cc : ByteArray} {nL : Nat} {ret : Option FieldType} {cells slots : Nat} {L : List (Nat × KV)} {st : List KV} {pc : Nat} {h : KH} {w : KO α}
theorem kj_norm {st' : List KV} {c' z' : Nat} (hs : st = st') (hc : cells = c') (hz : slots = z') (kk : kJ X enc nL c' z' L st' pc h w) : kJ X enc nL cells slots L st pc h w := by
  subst hs
  subst hc
  subst hz
  exact kk
theorem kj_fin (h1 : xmc X = cells) (h2 : xms X = slots) (kk : kJ X enc nL (xmc X) (xms X) L st pc h w) : kJ X enc nL cells slots L st pc h w := by
  subst h1
  subst h2
  exact kk
theorem kj_ldcw (hC : kC X own cc nL ret) {i : Nat} {v : Int32} (hd : decode cc pc = .ok (.ldc_w i, 3)) (hv : Cond.constant own i v ∈ kT) (k : kJ X enc nL cells slots L (.inl v :: st) (pc + 3) h w) : kJ X enc nL cells slots L st pc h w := by
  intro r h' hw ρ H locs ls hI hl hk
  exact lv_ldcw hC.1 hC.2.1 hC.2.2.2.2.2.1 (hC.2.2.2.2.2.2.1 _ hv) hd (k r h' hw ρ H locs ls hI hl (hk.push (kOk_i _ _)))
theorem kj_throwN (hC : kC X own cc nL ret) (hT : kT0 X) {ik is ic e : Nat} {tx : String} (ho : own = RX9) (hk : Cond.classLink own ik (kEx e) ∈ kT) (hi : Cond.initialized (kEx e) ∈ kT) (hm : Cond.methodLink own ic (Bundle.initS (kEx e)) ∈ kT) (hs : Cond.stringRef own is tx ∈ lw_tbl)
    (d0 : decode cc pc = .ok (.new ik, 3)) (d3 : decode cc (pc + 3) = .ok (.dup, 1)) (d4 : decode cc (pc + 4) = .ok (.ldc is, 2)) (d6 : decode cc (pc + 6) = .ok (.invokespecial ic, 3)) (d9 : decode cc (pc + 9) = .ok (.athrow, 1))
    (hcat : (st.map kcat).sum ≤ 8) (hD : 6 ≤ xD X) (hb : cells + 1 ≤ xmc X ∧ slots + 6 ≤ xms X) : kJ X enc nL cells slots L st pc h (kthrow e h) := by
  sorry
theorem kj_throwWN (hC : kC X own cc nL ret) (hT : kT0 X) {ik is ic e : Nat} {tx : String} (ho : own = RX9) (hk : Cond.classLink own ik (kEx e) ∈ kT) (hi : Cond.initialized (kEx e) ∈ kT) (hm : Cond.methodLink own ic (Bundle.initS (kEx e)) ∈ kT) (hs : Cond.stringRef own is tx ∈ lw_tbl)
    (d0 : decode cc pc = .ok (.new ik, 3)) (d3 : decode cc (pc + 3) = .ok (.dup, 1)) (d4 : decode cc (pc + 4) = .ok (.ldc_w is, 3)) (d6 : decode cc (pc + 7) = .ok (.invokespecial ic, 3)) (d9 : decode cc (pc + 10) = .ok (.athrow, 1))
    (hcat : (st.map kcat).sum ≤ 8) (hD : 6 ≤ xD X) (hb : cells + 1 ≤ xmc X ∧ slots + 6 ≤ xms X) : kJ X enc nL cells slots L st pc h (kthrow e h) := by
  sorry
end KMORE
