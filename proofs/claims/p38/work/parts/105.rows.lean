section KROWS
variable {α β : Type} {X : KX} {enc : α → Option KV} {encb : β → Option KV} {own : String} {cc : ByteArray} {nL : Nat} {ret : Option FieldType} {cells slots : Nat} {L : List (Nat × KV)} {st : List KV} {pc : Nat} {h : KH} {w : KO α}
/-! constants -/
theorem kj_iconst (hC : kC X own cc nL ret) {n : Int} {v : Int32} (hd : decode cc pc = .ok (.iconst n, 1)) (hv : Int32.ofInt n = v) (k : kJ X enc nL cells slots L (.inl v :: st) (pc + 1) h w) : kJ X enc nL cells slots L st pc h w := by
  intro r h' hw ρ H locs ls hI hl hk
  exact lv_iconst hC.1 hC.2.1 hd hv (k r h' hw ρ H locs ls hI hl (hk.push (kOk_i _ _)))
theorem kj_bipush (hC : kC X own cc nL ret) {n : Int} {v : Int32} (hd : decode cc pc = .ok (.bipush n, 2)) (hv : (Int8.ofInt n).toInt32 = v) (k : kJ X enc nL cells slots L (.inl v :: st) (pc + 2) h w) : kJ X enc nL cells slots L st pc h w := by
  intro r h' hw ρ H locs ls hI hl hk
  exact lv_bipush hC.1 hC.2.1 hd hv (k r h' hw ρ H locs ls hI hl (hk.push (kOk_i _ _)))
theorem kj_sipush (hC : kC X own cc nL ret) {n : Int} {v : Int32} (hd : decode cc pc = .ok (.sipush n, 3)) (hv : (Int16.ofInt n).toInt32 = v) (k : kJ X enc nL cells slots L (.inl v :: st) (pc + 3) h w) : kJ X enc nL cells slots L st pc h w := by
  intro r h' hw ρ H locs ls hI hl hk
  exact lv_sipush hC.1 hC.2.1 hd hv (k r h' hw ρ H locs ls hI hl (hk.push (kOk_i _ _)))
theorem kj_ldc (hC : kC X own cc nL ret) {i : Nat} {v : Int32} (hd : decode cc pc = .ok (.ldc i, 2)) (hv : Cond.constant own i v ∈ kT) (k : kJ X enc nL cells slots L (.inl v :: st) (pc + 2) h w) : kJ X enc nL cells slots L st pc h w := by
  intro r h' hw ρ H locs ls hI hl hk
  exact lv_ldc hC.1 hC.2.1 hC.2.2.2.2.2.1 (hC.2.2.2.2.2.2.1 _ hv) hd (k r h' hw ρ H locs ls hI hl (hk.push (kOk_i _ _)))
theorem kj_lconst (hC : kC X own cc nL ret) {n : Fin 2} {v : Int64} (hd : decode cc pc = .ok (.lconst n, 1)) (hv : Int64.ofNat (n : Nat) = v) (k : kJ X enc nL cells slots L (.inr (.inl v) :: st) (pc + 1) h w) : kJ X enc nL cells slots L st pc h w := by
  intro r h' hw ρ H locs ls hI hl hk
  exact lv_lconst hC.1 hC.2.1 hd hv (k r h' hw ρ H locs ls hI hl (hk.push (kOk_l _ _)))
theorem kj_null (hC : kC X own cc nL ret) (hd : decode cc pc = .ok (.aconst_null, 1)) (k : kJ X enc nL cells slots L (.inr (.inr none) :: st) (pc + 1) h w) : kJ X enc nL cells slots L st pc h w := by
  intro r h' hw ρ H locs ls hI hl hk
  exact lv_null hC.1 hC.2.1 hd (k r h' hw ρ H locs ls hI hl (hk.push (kOk_n _)))
/-! loads -/
theorem kj_iloadn (hC : kC X own cc nL ret) {k : Fin 4} {i : Nat} {x : Int32} (q : Nat) (hd : decode cc pc = .ok (.iload_n k, 1)) (hi : (k : Nat) = i) (hq : L[q]? = some (i, .inl x)) (kk : kJ X enc nL cells slots L (.inl x :: st) (pc + 1) h w) : kJ X enc nL cells slots L st pc h w := by
  intro r h' hw ρ H locs ls hI hl hk
  exact lv_iload_n hC.1 hC.2.1 hd hi (lv_at hl q (klv_at hq)) (kk r h' hw ρ H locs ls hI hl (hk.push (kOk_i _ _)))
theorem kj_iload (hC : kC X own cc nL ret) {i : Nat} {x : Int32} (q : Nat) (hd : decode cc pc = .ok (.iload i, 2)) (hq : L[q]? = some (i, .inl x)) (kk : kJ X enc nL cells slots L (.inl x :: st) (pc + 2) h w) : kJ X enc nL cells slots L st pc h w := by
  intro r h' hw ρ H locs ls hI hl hk
  exact lv_iload hC.1 hC.2.1 hd (lv_at hl q (klv_at hq)) (kk r h' hw ρ H locs ls hI hl (hk.push (kOk_i _ _)))
theorem kj_lloadn (hC : kC X own cc nL ret) {k : Fin 4} {i : Nat} {x : Int64} (q : Nat) (hd : decode cc pc = .ok (.lload_n k, 1)) (hi : (k : Nat) = i) (hq : L[q]? = some (i, .inr (.inl x))) (kk : kJ X enc nL cells slots L (.inr (.inl x) :: st) (pc + 1) h w) : kJ X enc nL cells slots L st pc h w := by
  intro r h' hw ρ H locs ls hI hl hk
  exact lv_lload_n hC.1 hC.2.1 hd hi (lv_at hl q (klv_at hq)) (kk r h' hw ρ H locs ls hI hl (hk.push (kOk_l _ _)))
theorem kj_lload (hC : kC X own cc nL ret) {i : Nat} {x : Int64} (q : Nat) (hd : decode cc pc = .ok (.lload i, 2)) (hq : L[q]? = some (i, .inr (.inl x))) (kk : kJ X enc nL cells slots L (.inr (.inl x) :: st) (pc + 2) h w) : kJ X enc nL cells slots L st pc h w := by
  intro r h' hw ρ H locs ls hI hl hk
  exact lv_lload hC.1 hC.2.1 hd (lv_at hl q (klv_at hq)) (kk r h' hw ρ H locs ls hI hl (hk.push (kOk_l _ _)))
theorem kj_aloadn (hC : kC X own cc nL ret) {k : Fin 4} {i : Nat} {o : Option Nat} (q : Nat) (hd : decode cc pc = .ok (.aload_n k, 1)) (hi : (k : Nat) = i) (hq : L[q]? = some (i, .inr (.inr o))) (kk : kJ X enc nL cells slots L (.inr (.inr o) :: st) (pc + 1) h w) : kJ X enc nL cells slots L st pc h w := by
  intro r h' hw ρ H locs ls hI hl hk
  have hg := kk r h' hw ρ H locs ls hI hl (hk.push (hk.loc hq))
  cases o with
  | none => exact lv_aload_nN hC.1 hC.2.1 hd hi (lv_at hl q (klv_at hq)) hg
  | some a => exact lv_aload_n hC.1 hC.2.1 hd hi (lv_at hl q (klv_at hq)) hg
theorem kj_aload (hC : kC X own cc nL ret) {i : Nat} {o : Option Nat} (q : Nat) (hd : decode cc pc = .ok (.aload i, 2)) (hq : L[q]? = some (i, .inr (.inr o))) (kk : kJ X enc nL cells slots L (.inr (.inr o) :: st) (pc + 2) h w) : kJ X enc nL cells slots L st pc h w := by
  intro r h' hw ρ H locs ls hI hl hk
  have hg := kk r h' hw ρ H locs ls hI hl (hk.push (hk.loc hq))
  cases o with
  | none => exact lv_aloadN hC.1 hC.2.1 hd (lv_at hl q (klv_at hq)) hg
  | some a => exact lv_aload hC.1 hC.2.1 hd (lv_at hl q (klv_at hq)) hg
/-! stores -/
theorem kj_istoren (hC : kC X own cc nL ret) {k : Fin 4} {i : Nat} {x : Int32} {L' : List (Nat × KV)} (hd : decode cc pc = .ok (.istore_n k, 1)) (hi : (k : Nat) = i) (hn : i < nL) (hL : kst L i (.inl x) = L') (kk : kJ X enc nL cells slots L' st (pc + 1) h w) : kJ X enc nL cells slots L (.inl x :: st) pc h w := by
  subst hL
  intro r h' hw ρ H locs ls hI hl hk
  exact lv_istore_n hC.1 hC.2.1 hd hi hl hn (kst_ok ρ L i (.inl x)) (fun ls' hl' => kk r h' hw ρ H locs ls' hI hl' hk.st)
theorem kj_istore (hC : kC X own cc nL ret) {i : Nat} {x : Int32} {L' : List (Nat × KV)} (hd : decode cc pc = .ok (.istore i, 2)) (hn : i < nL) (hL : kst L i (.inl x) = L') (kk : kJ X enc nL cells slots L' st (pc + 2) h w) : kJ X enc nL cells slots L (.inl x :: st) pc h w := by
  subst hL
  intro r h' hw ρ H locs ls hI hl hk
  exact lv_istore hC.1 hC.2.1 hd hl hn (kst_ok ρ L i (.inl x)) (fun ls' hl' => kk r h' hw ρ H locs ls' hI hl' hk.st)
theorem kj_lstoren (hC : kC X own cc nL ret) {k : Fin 4} {i : Nat} {x : Int64} {L' : List (Nat × KV)} (hd : decode cc pc = .ok (.lstore_n k, 1)) (hi : (k : Nat) = i) (hn : i + 1 < nL) (hL : kst2 L i (.inr (.inl x)) = L') (kk : kJ X enc nL cells slots L' st (pc + 1) h w) : kJ X enc nL cells slots L (.inr (.inl x) :: st) pc h w := by
  subst hL
  intro r h' hw ρ H locs ls hI hl hk
  exact lv_lstore_n hC.1 hC.2.1 hd hi hl hn (kst2_ok ρ L i (.inr (.inl x))) (fun ls' hl' => kk r h' hw ρ H locs ls' hI hl' hk.st2)
theorem kj_lstore (hC : kC X own cc nL ret) {i : Nat} {x : Int64} {L' : List (Nat × KV)} (hd : decode cc pc = .ok (.lstore i, 2)) (hn : i + 1 < nL) (hL : kst2 L i (.inr (.inl x)) = L') (kk : kJ X enc nL cells slots L' st (pc + 2) h w) : kJ X enc nL cells slots L (.inr (.inl x) :: st) pc h w := by
  subst hL
  intro r h' hw ρ H locs ls hI hl hk
  exact lv_lstore hC.1 hC.2.1 hd hl hn (kst2_ok ρ L i (.inr (.inl x))) (fun ls' hl' => kk r h' hw ρ H locs ls' hI hl' hk.st2)
theorem kj_astoren (hC : kC X own cc nL ret) {k : Fin 4} {i : Nat} {o : Option Nat} {L' : List (Nat × KV)} (hd : decode cc pc = .ok (.astore_n k, 1)) (hi : (k : Nat) = i) (hn : i < nL) (hL : kst L i (.inr (.inr o)) = L') (kk : kJ X enc nL cells slots L' st (pc + 1) h w) : kJ X enc nL cells slots L (.inr (.inr o) :: st) pc h w := by
  subst hL
  intro r h' hw ρ H locs ls hI hl hk
  have e := kst_ok ρ L i (.inr (.inr o))
  have hg := fun (ls' : Array Slot) (hl' : lv_has ls' nL (klv ρ (kst L i (.inr (.inr o))))) => kk r h' hw ρ H locs ls' hI hl' hk.st
  cases o with
  | none => exact lv_astore_nN hC.1 hC.2.1 hd hi hl hn e hg
  | some a => exact lv_astore_n hC.1 hC.2.1 hd hi hl hn e hg
theorem kj_astore (hC : kC X own cc nL ret) {i : Nat} {o : Option Nat} {L' : List (Nat × KV)} (hd : decode cc pc = .ok (.astore i, 2)) (hn : i < nL) (hL : kst L i (.inr (.inr o)) = L') (kk : kJ X enc nL cells slots L' st (pc + 2) h w) : kJ X enc nL cells slots L (.inr (.inr o) :: st) pc h w := by
  subst hL
  intro r h' hw ρ H locs ls hI hl hk
  have e := kst_ok ρ L i (.inr (.inr o))
  have hg := fun (ls' : Array Slot) (hl' : lv_has ls' nL (klv ρ (kst L i (.inr (.inr o))))) => kk r h' hw ρ H locs ls' hI hl' hk.st
  cases o with
  | none => exact lv_astoreN hC.1 hC.2.1 hd hl hn e hg
  | some a => exact lv_astore hC.1 hC.2.1 hd hl hn e hg
theorem kj_iinc (hC : kC X own cc nL ret) {i : Nat} {n : Int} {x v : Int32} {L' : List (Nat × KV)} (q : Nat) (hd : decode cc pc = .ok (.iinc i n, 3)) (hq : L[q]? = some (i, .inl x)) (hv : x + Int32.ofInt n = v) (hn : i < nL) (hL : kst L i (.inl v) = L') (kk : kJ X enc nL cells slots L' st (pc + 3) h w) : kJ X enc nL cells slots L st pc h w := by
  subst hL
  intro r h' hw ρ H locs ls hI hl hk
  exact lv_iinc hC.1 hC.2.1 hd hl (klv_at hq) hv hn (kst_ok ρ L i (.inl v)) (fun ls' hl' => kk r h' hw ρ H locs ls' hI hl' (hk.push (kOk_i _ _)).st)
/-- fewer locals -/
theorem kj_sub {L' : List (Nat × KV)} (ks : List Nat) (hL : ks.filterMap (fun i => L[i]?) = L') (kk : kJ X enc nL cells slots L' st pc h w) : kJ X enc nL cells slots L st pc h w := by
  subst hL
  intro r h' hw ρ H locs ls hI hl hk
  refine kk r h' hw ρ H locs ls hI (lv_sub hl ks ?_) ⟨fun q hq => ?_, hk.2⟩
  · unfold lv_pick klv
    rw [List.map_filterMap]
    congr 1
    funext i
    rw [List.getElem?_map]
  · obtain ⟨i, -, hi⟩ := List.mem_filterMap.mp hq
    exact hk.1 q (List.mem_of_getElem? hi)
/-! arithmetic -/
theorem kj_iadd (hC : kC X own cc nL ret) {x y : Int32} (hd : decode cc pc = .ok (.iadd, 1)) (k : kJ X enc nL cells slots L (.inl (x + y) :: st) (pc + 1) h w) : kJ X enc nL cells slots L (.inl y :: .inl x :: st) pc h w := by
  intro r h' hw ρ H locs ls hI hl hk
  exact lv_iadd hC.1 hC.2.1 hd (k r h' hw ρ H locs ls hI hl (hk.tail.tail.push (kOk_i _ _)))
theorem kj_isub (hC : kC X own cc nL ret) {x y : Int32} (hd : decode cc pc = .ok (.isub, 1)) (k : kJ X enc nL cells slots L (.inl (x - y) :: st) (pc + 1) h w) : kJ X enc nL cells slots L (.inl y :: .inl x :: st) pc h w := by
  intro r h' hw ρ H locs ls hI hl hk
  exact lv_isub hC.1 hC.2.1 hd (k r h' hw ρ H locs ls hI hl (hk.tail.tail.push (kOk_i _ _)))
theorem kj_imul (hC : kC X own cc nL ret) {x y : Int32} (hd : decode cc pc = .ok (.imul, 1)) (k : kJ X enc nL cells slots L (.inl (x * y) :: st) (pc + 1) h w) : kJ X enc nL cells slots L (.inl y :: .inl x :: st) pc h w := by
  intro r h' hw ρ H locs ls hI hl hk
  exact lv_imul hC.1 hC.2.1 hd (k r h' hw ρ H locs ls hI hl (hk.tail.tail.push (kOk_i _ _)))
theorem kj_iand (hC : kC X own cc nL ret) {x y : Int32} (hd : decode cc pc = .ok (.iand, 1)) (k : kJ X enc nL cells slots L (.inl (x &&& y) :: st) (pc + 1) h w) : kJ X enc nL cells slots L (.inl y :: .inl x :: st) pc h w := by
  intro r h' hw ρ H locs ls hI hl hk
  exact lv_iand hC.1 hC.2.1 hd (k r h' hw ρ H locs ls hI hl (hk.tail.tail.push (kOk_i _ _)))
theorem kj_ixor (hC : kC X own cc nL ret) {x y : Int32} (hd : decode cc pc = .ok (.ixor, 1)) (k : kJ X enc nL cells slots L (.inl (x ^^^ y) :: st) (pc + 1) h w) : kJ X enc nL cells slots L (.inl y :: .inl x :: st) pc h w := by
  intro r h' hw ρ H locs ls hI hl hk
  exact lv_ixor hC.1 hC.2.1 hd (k r h' hw ρ H locs ls hI hl (hk.tail.tail.push (kOk_i _ _)))
theorem kj_ishl (hC : kC X own cc nL ret) {x y : Int32} (hd : decode cc pc = .ok (.ishl, 1)) (k : kJ X enc nL cells slots L (.inl (x <<< (y &&& 31)) :: st) (pc + 1) h w) : kJ X enc nL cells slots L (.inl y :: .inl x :: st) pc h w := by
  intro r h' hw ρ H locs ls hI hl hk
  exact lv_ishl hC.1 hC.2.1 hd (k r h' hw ρ H locs ls hI hl (hk.tail.tail.push (kOk_i _ _)))
theorem kj_ishr (hC : kC X own cc nL ret) {x y : Int32} (hd : decode cc pc = .ok (.ishr, 1)) (k : kJ X enc nL cells slots L (.inl (x >>> (y &&& 31)) :: st) (pc + 1) h w) : kJ X enc nL cells slots L (.inl y :: .inl x :: st) pc h w := by
  intro r h' hw ρ H locs ls hI hl hk
  exact lv_ishr hC.1 hC.2.1 hd (k r h' hw ρ H locs ls hI hl (hk.tail.tail.push (kOk_i _ _)))
theorem kj_irem (hC : kC X own cc nL ret) {x y : Int32} (hd : decode cc pc = .ok (.irem, 1)) (k : kJ X enc nL cells slots L (.inl (x - x / y * y) :: st) (pc + 1) h w) : kJ X enc nL cells slots L (.inl y :: .inl x :: st) pc h (kdv y w) := by
  intro r h' hw ρ H locs ls hI hl hk
  unfold kdv at hw
  split at hw
  · cases hw
  · rename_i hy
    exact lv_irem hC.1 hC.2.1 hd hy (k r h' hw ρ H locs ls hI hl (hk.tail.tail.push (kOk_i _ _)))
theorem kj_idiv (hC : kC X own cc nL ret) {x y : Int32} (hd : decode cc pc = .ok (.idiv, 1)) (k : kJ X enc nL cells slots L (.inl (x / y) :: st) (pc + 1) h w) : kJ X enc nL cells slots L (.inl y :: .inl x :: st) pc h (kdv y w) := by
  intro r h' hw ρ H locs ls hI hl hk
  unfold kdv at hw
  split at hw
  · cases hw
  · rename_i hy
    exact lv_idiv hC.1 hC.2.1 hd hy (k r h' hw ρ H locs ls hI hl (hk.tail.tail.push (kOk_i _ _)))
theorem kj_ladd (hC : kC X own cc nL ret) {x y : Int64} (hd : decode cc pc = .ok (.ladd, 1)) (k : kJ X enc nL cells slots L (.inr (.inl (x + y)) :: st) (pc + 1) h w) : kJ X enc nL cells slots L (.inr (.inl y) :: .inr (.inl x) :: st) pc h w := by
  intro r h' hw ρ H locs ls hI hl hk
  exact lv_ladd hC.1 hC.2.1 hd (k r h' hw ρ H locs ls hI hl (hk.tail.tail.push (kOk_l _ _)))
theorem kj_lsub (hC : kC X own cc nL ret) {x y : Int64} (hd : decode cc pc = .ok (.lsub, 1)) (k : kJ X enc nL cells slots L (.inr (.inl (x - y)) :: st) (pc + 1) h w) : kJ X enc nL cells slots L (.inr (.inl y) :: .inr (.inl x) :: st) pc h w := by
  intro r h' hw ρ H locs ls hI hl hk
  exact lv_lsub hC.1 hC.2.1 hd (k r h' hw ρ H locs ls hI hl (hk.tail.tail.push (kOk_l _ _)))
theorem kj_lneg (hC : kC X own cc nL ret) {x : Int64} (hd : decode cc pc = .ok (.lneg, 1)) (k : kJ X enc nL cells slots L (.inr (.inl (-x)) :: st) (pc + 1) h w) : kJ X enc nL cells slots L (.inr (.inl x) :: st) pc h w := by
  intro r h' hw ρ H locs ls hI hl hk
  exact lv_lneg hC.1 hC.2.1 hd (k r h' hw ρ H locs ls hI hl (hk.tail.push (kOk_l _ _)))
theorem kj_lcmp (hC : kC X own cc nL ret) {x y : Int64} (hd : decode cc pc = .ok (.lcmp, 1)) (k : kJ X enc nL cells slots L (.inl (lg_cmp x y) :: st) (pc + 1) h w) : kJ X enc nL cells slots L (.inr (.inl y) :: .inr (.inl x) :: st) pc h w := by
  intro r h' hw ρ H locs ls hI hl hk
  exact W.lcmp hC.1 hC.2.1 hd (k r h' hw ρ H locs ls hI hl (hk.tail.tail.push (kOk_i _ _)))
theorem kj_i2l (hC : kC X own cc nL ret) {x : Int32} (hd : decode cc pc = .ok (.i2l, 1)) (k : kJ X enc nL cells slots L (.inr (.inl x.toInt64) :: st) (pc + 1) h w) : kJ X enc nL cells slots L (.inl x :: st) pc h w := by
  intro r h' hw ρ H locs ls hI hl hk
  exact lv_i2l hC.1 hC.2.1 hd rfl (k r h' hw ρ H locs ls hI hl (hk.tail.push (kOk_l _ _)))
theorem kj_l2i (hC : kC X own cc nL ret) {x : Int64} (hd : decode cc pc = .ok (.l2i, 1)) (k : kJ X enc nL cells slots L (.inl x.toInt32 :: st) (pc + 1) h w) : kJ X enc nL cells slots L (.inr (.inl x) :: st) pc h w := by
  intro r h' hw ρ H locs ls hI hl hk
  exact lv_l2i hC.1 hC.2.1 hd rfl (k r h' hw ρ H locs ls hI hl (hk.tail.push (kOk_i _ _)))
theorem kj_i2c (hC : kC X own cc nL ret) {x : Int32} (hd : decode cc pc = .ok (.i2c, 1)) (k : kJ X enc nL cells slots L (.inl (x.toUInt32 % 65536).toInt32 :: st) (pc + 1) h w) : kJ X enc nL cells slots L (.inl x :: st) pc h w := by
  intro r h' hw ρ H locs ls hI hl hk
  exact lv_i2c hC.1 hC.2.1 hd rfl (k r h' hw ρ H locs ls hI hl (hk.tail.push (kOk_i _ _)))
theorem kj_dup (hC : kC X own cc nL ret) {v : KV} (hd : decode cc pc = .ok (.dup, 1)) (hv : kcat v = 1) (k : kJ X enc nL cells slots L (v :: v :: st) (pc + 1) h w) : kJ X enc nL cells slots L (v :: st) pc h w := by
  intro r h' hw ρ H locs ls hI hl hk
  exact lv_dup hC.1 hC.2.1 hd (by rw [kcat_ok]; exact hv) (k r h' hw ρ H locs ls hI hl (hk.push hk.head))
theorem kj_pop (hC : kC X own cc nL ret) {v : KV} (hd : decode cc pc = .ok (.pop, 1)) (hv : kcat v = 1) (k : kJ X enc nL cells slots L st (pc + 1) h w) : kJ X enc nL cells slots L (v :: st) pc h w := by
  intro r h' hw ρ H locs ls hI hl hk
  exact lv_pop hC.1 hC.2.1 hd (by rw [kcat_ok]; exact hv) (k r h' hw ρ H locs ls hI hl hk.tail)
theorem kj_dup2 (hC : kC X own cc nL ret) {v u : KV} (hd : decode cc pc = .ok (.dup2, 1)) (hv : kcat v = 1) (hu : kcat u = 1) (k : kJ X enc nL cells slots L (v :: u :: v :: u :: st) (pc + 1) h w) : kJ X enc nL cells slots L (v :: u :: st) pc h w := by
  intro r h' hw ρ H locs ls hI hl hk
  exact lv_dup2_11 hC.1 hC.2.1 hd (by rw [kcat_ok]; exact hv) (by rw [kcat_ok]; exact hu) (k r h' hw ρ H locs ls hI hl ((hk.push hk.tail.head).push hk.head))
theorem kj_dup2l (hC : kC X own cc nL ret) {v : KV} (hd : decode cc pc = .ok (.dup2, 1)) (hv : kcat v = 2) (k : kJ X enc nL cells slots L (v :: v :: st) (pc + 1) h w) : kJ X enc nL cells slots L (v :: st) pc h w := by
  intro r h' hw ρ H locs ls hI hl hk
  exact lv_dup2_2 hC.1 hC.2.1 hd (by rw [kcat_ok]; exact hv) (k r h' hw ρ H locs ls hI hl (hk.push hk.head))
/-! branches -/
theorem kj_goto (hC : kC X own cc nL ret) {off : Int} {tgt : Nat} (hd : decode cc pc = .ok (.goto off, 3)) (ht : (pc : Int) + off = (tgt : Int)) (k : kJ X enc nL cells slots L st tgt h w) : kJ X enc nL cells slots L st pc h w := by
  intro r h' hw ρ H locs ls hI hl hk
  exact lv_goto hC.1 hC.2.1 hd ht (k r h' hw ρ H locs ls hI hl hk)
theorem kj_if_eq (hC : kC X own cc nL ret) {x : Int32} {off : Int} {tgt : Nat} {w1 w2 : KO α} (hd : decode cc pc = .ok (.ifCond .eq off, 3)) (ht : (pc : Int) + off = (tgt : Int)) (k1 : x = 0 → kJ X enc nL cells slots L st tgt h w1) (k2 : ¬ x = 0 → kJ X enc nL cells slots L st (pc + 3) h w2) : kJ X enc nL cells slots L (.inl x :: st) pc h (kif (x = 0) w1 w2) := by
  intro r h' hw ρ H locs ls hI hl hk
  unfold kif at hw
  exact lv_if_eq hC.1 hC.2.1 hd ht (fun q => k1 q r h' (by rw [if_pos q] at hw; exact hw) ρ H locs ls hI hl hk.tail) (fun q => k2 q r h' (by rw [if_neg q] at hw; exact hw) ρ H locs ls hI hl hk.tail)
theorem kj_if_lt (hC : kC X own cc nL ret) {x : Int32} {off : Int} {tgt : Nat} {w1 w2 : KO α} (hd : decode cc pc = .ok (.ifCond .lt off, 3)) (ht : (pc : Int) + off = (tgt : Int)) (k1 : x < 0 → kJ X enc nL cells slots L st tgt h w1) (k2 : ¬ x < 0 → kJ X enc nL cells slots L st (pc + 3) h w2) : kJ X enc nL cells slots L (.inl x :: st) pc h (kif (x < 0) w1 w2) := by
  intro r h' hw ρ H locs ls hI hl hk
  unfold kif at hw
  exact lv_if_lt hC.1 hC.2.1 hd ht (fun q => k1 q r h' (by rw [if_pos q] at hw; exact hw) ρ H locs ls hI hl hk.tail) (fun q => k2 q r h' (by rw [if_neg q] at hw; exact hw) ρ H locs ls hI hl hk.tail)
theorem kj_if_ge (hC : kC X own cc nL ret) {x : Int32} {off : Int} {tgt : Nat} {w1 w2 : KO α} (hd : decode cc pc = .ok (.ifCond .ge off, 3)) (ht : (pc : Int) + off = (tgt : Int)) (k1 : 0 ≤ x → kJ X enc nL cells slots L st tgt h w1) (k2 : ¬ 0 ≤ x → kJ X enc nL cells slots L st (pc + 3) h w2) : kJ X enc nL cells slots L (.inl x :: st) pc h (kif (0 ≤ x) w1 w2) := by
  intro r h' hw ρ H locs ls hI hl hk
  unfold kif at hw
  exact lv_if_ge hC.1 hC.2.1 hd ht (fun q => k1 q r h' (by rw [if_pos q] at hw; exact hw) ρ H locs ls hI hl hk.tail) (fun q => k2 q r h' (by rw [if_neg q] at hw; exact hw) ρ H locs ls hI hl hk.tail)
theorem kj_if_gt (hC : kC X own cc nL ret) {x : Int32} {off : Int} {tgt : Nat} {w1 w2 : KO α} (hd : decode cc pc = .ok (.ifCond .gt off, 3)) (ht : (pc : Int) + off = (tgt : Int)) (k1 : 0 < x → kJ X enc nL cells slots L st tgt h w1) (k2 : ¬ 0 < x → kJ X enc nL cells slots L st (pc + 3) h w2) : kJ X enc nL cells slots L (.inl x :: st) pc h (kif (0 < x) w1 w2) := by
  intro r h' hw ρ H locs ls hI hl hk
  unfold kif at hw
  exact lv_if_gt hC.1 hC.2.1 hd ht (fun q => k1 q r h' (by rw [if_pos q] at hw; exact hw) ρ H locs ls hI hl hk.tail) (fun q => k2 q r h' (by rw [if_neg q] at hw; exact hw) ρ H locs ls hI hl hk.tail)
theorem kj_if_le (hC : kC X own cc nL ret) {x : Int32} {off : Int} {tgt : Nat} {w1 w2 : KO α} (hd : decode cc pc = .ok (.ifCond .le off, 3)) (ht : (pc : Int) + off = (tgt : Int)) (k1 : x ≤ 0 → kJ X enc nL cells slots L st tgt h w1) (k2 : ¬ x ≤ 0 → kJ X enc nL cells slots L st (pc + 3) h w2) : kJ X enc nL cells slots L (.inl x :: st) pc h (kif (x ≤ 0) w1 w2) := by
  intro r h' hw ρ H locs ls hI hl hk
  unfold kif at hw
  exact lv_if_le hC.1 hC.2.1 hd ht (fun q => k1 q r h' (by rw [if_pos q] at hw; exact hw) ρ H locs ls hI hl hk.tail) (fun q => k2 q r h' (by rw [if_neg q] at hw; exact hw) ρ H locs ls hI hl hk.tail)
theorem kj_if_ne (hC : kC X own cc nL ret) {x : Int32} {off : Int} {tgt : Nat} {w1 w2 : KO α} (hd : decode cc pc = .ok (.ifCond .ne off, 3)) (ht : (pc : Int) + off = (tgt : Int)) (k1 : x = 0 → kJ X enc nL cells slots L st (pc + 3) h w1) (k2 : ¬ x = 0 → kJ X enc nL cells slots L st tgt h w2) : kJ X enc nL cells slots L (.inl x :: st) pc h (kif (x = 0) w1 w2) := by
  intro r h' hw ρ H locs ls hI hl hk
  unfold kif at hw
  exact lv_if_ne hC.1 hC.2.1 hd ht (fun q => k2 q r h' (by rw [if_neg q] at hw; exact hw) ρ H locs ls hI hl hk.tail) (fun q => k1 q r h' (by rw [if_pos q] at hw; exact hw) ρ H locs ls hI hl hk.tail)
theorem kj_icmp_eq (hC : kC X own cc nL ret) {x y : Int32} {off : Int} {tgt : Nat} {w1 w2 : KO α} (hd : decode cc pc = .ok (.if_icmp .eq off, 3)) (ht : (pc : Int) + off = (tgt : Int)) (k1 : x = y → kJ X enc nL cells slots L st tgt h w1) (k2 : ¬ x = y → kJ X enc nL cells slots L st (pc + 3) h w2) : kJ X enc nL cells slots L (.inl y :: .inl x :: st) pc h (kif (x = y) w1 w2) := by
  intro r h' hw ρ H locs ls hI hl hk
  unfold kif at hw
  exact lv_icmp_eq hC.1 hC.2.1 hd ht (fun q => k1 q r h' (by rw [if_pos q] at hw; exact hw) ρ H locs ls hI hl hk.tail.tail) (fun q => k2 q r h' (by rw [if_neg q] at hw; exact hw) ρ H locs ls hI hl hk.tail.tail)
theorem kj_icmp_lt (hC : kC X own cc nL ret) {x y : Int32} {off : Int} {tgt : Nat} {w1 w2 : KO α} (hd : decode cc pc = .ok (.if_icmp .lt off, 3)) (ht : (pc : Int) + off = (tgt : Int)) (k1 : x < y → kJ X enc nL cells slots L st tgt h w1) (k2 : ¬ x < y → kJ X enc nL cells slots L st (pc + 3) h w2) : kJ X enc nL cells slots L (.inl y :: .inl x :: st) pc h (kif (x < y) w1 w2) := by
  intro r h' hw ρ H locs ls hI hl hk
  unfold kif at hw
  exact lv_icmp_lt hC.1 hC.2.1 hd ht (fun q => k1 q r h' (by rw [if_pos q] at hw; exact hw) ρ H locs ls hI hl hk.tail.tail) (fun q => k2 q r h' (by rw [if_neg q] at hw; exact hw) ρ H locs ls hI hl hk.tail.tail)
theorem kj_icmp_ge (hC : kC X own cc nL ret) {x y : Int32} {off : Int} {tgt : Nat} {w1 w2 : KO α} (hd : decode cc pc = .ok (.if_icmp .ge off, 3)) (ht : (pc : Int) + off = (tgt : Int)) (k1 : y ≤ x → kJ X enc nL cells slots L st tgt h w1) (k2 : ¬ y ≤ x → kJ X enc nL cells slots L st (pc + 3) h w2) : kJ X enc nL cells slots L (.inl y :: .inl x :: st) pc h (kif (y ≤ x) w1 w2) := by
  intro r h' hw ρ H locs ls hI hl hk
  unfold kif at hw
  exact lv_icmp_ge hC.1 hC.2.1 hd ht (fun q => k1 q r h' (by rw [if_pos q] at hw; exact hw) ρ H locs ls hI hl hk.tail.tail) (fun q => k2 q r h' (by rw [if_neg q] at hw; exact hw) ρ H locs ls hI hl hk.tail.tail)
theorem kj_icmp_gt (hC : kC X own cc nL ret) {x y : Int32} {off : Int} {tgt : Nat} {w1 w2 : KO α} (hd : decode cc pc = .ok (.if_icmp .gt off, 3)) (ht : (pc : Int) + off = (tgt : Int)) (k1 : y < x → kJ X enc nL cells slots L st tgt h w1) (k2 : ¬ y < x → kJ X enc nL cells slots L st (pc + 3) h w2) : kJ X enc nL cells slots L (.inl y :: .inl x :: st) pc h (kif (y < x) w1 w2) := by
  intro r h' hw ρ H locs ls hI hl hk
  unfold kif at hw
  exact lv_icmp_gt hC.1 hC.2.1 hd ht (fun q => k1 q r h' (by rw [if_pos q] at hw; exact hw) ρ H locs ls hI hl hk.tail.tail) (fun q => k2 q r h' (by rw [if_neg q] at hw; exact hw) ρ H locs ls hI hl hk.tail.tail)
theorem kj_icmp_le (hC : kC X own cc nL ret) {x y : Int32} {off : Int} {tgt : Nat} {w1 w2 : KO α} (hd : decode cc pc = .ok (.if_icmp .le off, 3)) (ht : (pc : Int) + off = (tgt : Int)) (k1 : x ≤ y → kJ X enc nL cells slots L st tgt h w1) (k2 : ¬ x ≤ y → kJ X enc nL cells slots L st (pc + 3) h w2) : kJ X enc nL cells slots L (.inl y :: .inl x :: st) pc h (kif (x ≤ y) w1 w2) := by
  intro r h' hw ρ H locs ls hI hl hk
  unfold kif at hw
  exact lv_icmp_le hC.1 hC.2.1 hd ht (fun q => k1 q r h' (by rw [if_pos q] at hw; exact hw) ρ H locs ls hI hl hk.tail.tail) (fun q => k2 q r h' (by rw [if_neg q] at hw; exact hw) ρ H locs ls hI hl hk.tail.tail)
theorem kj_icmp_ne (hC : kC X own cc nL ret) {x y : Int32} {off : Int} {tgt : Nat} {w1 w2 : KO α} (hd : decode cc pc = .ok (.if_icmp .ne off, 3)) (ht : (pc : Int) + off = (tgt : Int)) (k1 : x = y → kJ X enc nL cells slots L st (pc + 3) h w1) (k2 : ¬ x = y → kJ X enc nL cells slots L st tgt h w2) : kJ X enc nL cells slots L (.inl y :: .inl x :: st) pc h (kif (x = y) w1 w2) := by
  intro r h' hw ρ H locs ls hI hl hk
  unfold kif at hw
  exact lv_icmp_ne hC.1 hC.2.1 hd ht (fun q => k2 q r h' (by rw [if_neg q] at hw; exact hw) ρ H locs ls hI hl hk.tail.tail) (fun q => k1 q r h' (by rw [if_pos q] at hw; exact hw) ρ H locs ls hI hl hk.tail.tail)
theorem kj_ifnull (hC : kC X own cc nL ret) {o : Option Nat} {off : Int} {tgt : Nat} {w1 : KO α} {w2 : Nat → KO α} (hd : decode cc pc = .ok (.ifnull off, 3)) (ht : (pc : Int) + off = (tgt : Int)) (k1 : o = none → kJ X enc nL cells slots L st tgt h w1) (k2 : ∀ a, o = some a → kJ X enc nL cells slots L st (pc + 3) h (w2 a)) : kJ X enc nL cells slots L (.inr (.inr o) :: st) pc h (knul o w1 w2) := by
  intro r h' hw ρ H locs ls hI hl hk
  cases o with
  | none => exact lv_ifnullN hC.1 hC.2.1 hd ht (k1 rfl r h' hw ρ H locs ls hI hl hk.tail)
  | some a => exact lv_ifnull hC.1 hC.2.1 hd (k2 a rfl r h' hw ρ H locs ls hI hl hk.tail)
theorem kj_ifnonnull (hC : kC X own cc nL ret) {o : Option Nat} {off : Int} {tgt : Nat} {w1 : KO α} {w2 : Nat → KO α} (hd : decode cc pc = .ok (.ifnonnull off, 3)) (ht : (pc : Int) + off = (tgt : Int)) (k1 : o = none → kJ X enc nL cells slots L st (pc + 3) h w1) (k2 : ∀ a, o = some a → kJ X enc nL cells slots L st tgt h (w2 a)) : kJ X enc nL cells slots L (.inr (.inr o) :: st) pc h (knul o w1 w2) := by
  intro r h' hw ρ H locs ls hI hl hk
  cases o with
  | none => exact lv_ifnonnullN hC.1 hC.2.1 hd (k1 rfl r h' hw ρ H locs ls hI hl hk.tail)
  | some a => exact lv_ifnonnull hC.1 hC.2.1 hd ht (k2 a rfl r h' hw ρ H locs ls hI hl hk.tail)
/-- a reference that must not be null is used behind this -/
theorem kj_may {o : Option Nat} {f : Nat → KO α} (k : ∀ a, o = some a → kJ X enc nL cells slots L st pc h (f a)) : kJ X enc nL cells slots L st pc h (kmay o f) := by
  intro r h' hw ρ H locs ls hI hl hk
  cases o with
  | none => cases hw
  | some a => exact k a rfl r h' hw ρ H locs ls hI hl hk
theorem kj_kg {c : Prop} [Decidable c] (k : c → kJ X enc nL cells slots L st pc h w) : kJ X enc nL cells slots L st pc h (kg c w) := by
  intro r h' hw ρ H locs ls hI hl hk
  unfold kg at hw
  split at hw
  · rename_i q
    exact k q r h' hw ρ H locs ls hI hl hk
  · cases hw
theorem kj_eq {w1 : KO α} (e : w = w1) (k : kJ X enc nL cells slots L st pc h w1) : kJ X enc nL cells slots L st pc h w := e ▸ k
theorem kj_none : kJ X enc nL cells slots L st pc h (none : KO α) := fun r h' hw => by cases hw
theorem kj_widen {k n : Nat} (h1 : cells ≤ k) (h2 : slots ≤ n) (kk : kJ X enc nL k n L st pc h w) : kJ X enc nL cells slots L st pc h w := by
  intro r h' hw ρ H locs ls hI hl hk
  exact W.widen h1 h2 (kk r h' hw ρ H locs ls hI hl hk)
/-! fields -/
def kFL (own : String) (idx ci k : Nat) : Prop := ∃ q : vw_C, kvCl[ci]? = some q ∧ k < q.2.2 ∧ Cond.fieldLink own idx (q.2.1 k).1 (q.2.1 k).2.1 (q.2.1 k).2.2.1 ∈ kT
theorem kcls_in : ∀ ci, ci < 10 → ∀ q, kvCl[ci]? = some q → ∀ w ∈ u_ws q.1 q.2.1 q.2.2, w ∈ kT := by
  have h : ∀ ci, ci < 10 → ((kvCl[ci]?).all fun q => (u_ws q.1 q.2.1 q.2.2).all fun w => decide (w ∈ lw_tbl) && goodWord w) = true := by decide +kernel
  intro ci hci q hq w hw
  have h1 := h ci hci
  rw [hq] at h1
  have h2 := List.all_eq_true.mp h1 w hw
  simp only [Bool.and_eq_true, decide_eq_true_eq] at h2
  exact List.mem_filter.mpr h2
theorem kcls_ty : ∀ ci, ci < 10 → ∀ q, kvCl[ci]? = some q → ∀ k, k < q.2.2 → parseFieldDescriptor (q.2.1 k).2.2.1 = some (kFt ci k) := by
  have h : ∀ ci, ci < 10 → ((kvCl[ci]?).all fun q => (List.range q.2.2).all fun k => decide (parseFieldDescriptor (q.2.1 k).2.2.1 = some (kFt ci k))) = true := by decide +kernel
  intro ci hci q hq k hk
  have h1 := h ci hci
  rw [hq] at h1
  have h2 := List.all_eq_true.mp h1 k (List.mem_range.mpr hk)
  exact of_decide_eq_true h2
theorem kcls_nm : ∀ ci, ci < 10 → ∀ q, kvCl[ci]? = some q → ∀ a, a < q.2.2 → ∀ b, b < q.2.2 → a ≠ b → (q.2.1 a).2.1 ≠ (q.2.1 b).2.1 := by
  have h : ∀ ci, ci < 10 → ((kvCl[ci]?).all fun q => (List.range q.2.2).all fun a => (List.range q.2.2).all fun b => decide (a ≠ b → (q.2.1 a).2.1 ≠ (q.2.1 b).2.1)) = true := by decide +kernel
  intro ci hci q hq a ha b hb
  have h1 := h ci hci
  rw [hq] at h1
  have h2 := List.all_eq_true.mp (List.all_eq_true.mp h1 a (List.mem_range.mpr ha)) b (List.mem_range.mpr hb)
  exact of_decide_eq_true h2
theorem kcls_own : ∀ ci, ci < 10 → ∀ q, kvCl[ci]? = some q → ∀ k, k < q.2.2 → (q.2.1 k).1 = q.1 := by
  have h : ∀ ci, ci < 10 → ((kvCl[ci]?).all fun q => (List.range q.2.2).all fun k => decide ((q.2.1 k).1 = q.1)) = true := by decide +kernel
  intro ci hci q hq k hk
  have h1 := h ci hci
  rw [hq] at h1
  have h2 := List.all_eq_true.mp h1 k (List.mem_range.mpr hk)
  exact of_decide_eq_true h2
/-- a field is read: what the object's cell holds -/
theorem kj_getK (hC : kC X own cc nL ret) {idx ci k a : Nat} (hd : decode cc pc = .ok (.getfield idx, 3)) (hf : kFL own idx ci k) {r : Nat ⊕ α} {h' : KH} {ρ : Nat → Nat} {H : Heap} {locs : List Loc} {ls : Array Slot} {rest : List Value} (hI : kInv X ρ h H locs) (ha : kd h a = ci + 1)
    (kk : kW X enc cells slots r h' H locs (F0 (xm X) (pc + 3) ls (kV ρ h a k (ksrt (kFt ci k)) :: rest))) : kW X enc cells slots r h' H locs (F0 (xm X) pc ls (.ref (ρ a) :: rest)) := by
  obtain ⟨q, hq, hk, hl⟩ := hf
  have hci := kCl_lt hq
  obtain ⟨cell, q1, q2, q3, q4⟩ := (hI.1.1 a (by rw [ha]; exact Nat.succ_ne_zero _)).2.1 ci q hq ha
  obtain ⟨hS, hfc, kC, hkC, hkind⟩ := hC.2.2.2.2.2.2.2.1.1 ci q hq
  obtain ⟨cf, kf, fi, f, hi, hsl⟩ := hS k hk
  have hts : ∀ w ∈ kT, w.before (xar X) (xs X) = true := hC.2.2.2.2.2.2.1
  refine W.getf hC.1 hC.2.1 hC.2.2.2.2.2.1 (hts _ hl) hi (u_facts hfc hkC (u_lays hts (kcls_in ci hci q hq) hk) hi).1 q1 (by rw [q3]; exact fun h => by cases h) (v := kV ρ h a k (ksrt (kFt ci k))) ?_ rfl rfl hd kk
  rw [hsl, q4 k hk]
theorem kj_gI (hC : kC X own cc nL ret) {idx ci k a : Nat} {f : Int32 → KO α} (hd : decode cc pc = .ok (.getfield idx, 3)) (hf : kFL own idx ci k) (hs : ksrt (kFt ci k) = 0) (kk : ∀ x, kJ X enc nL cells slots L (.inl x :: st) (pc + 3) h (f x)) : kJ X enc nL cells slots L (.inr (.inr (some a)) :: st) pc h (gI h a (ci + 1) k f) := by
  intro r h' hw ρ H locs ls hI hl hk
  unfold gI at hw
  split at hw
  · rename_i ha
    refine kj_getK hC hd hf hI ha ?_
    rw [hs]
    exact kk _ r h' hw ρ H locs ls hI hl (hk.tail.push (kOk_i _ _))
  · cases hw
theorem kj_gR (hC : kC X own cc nL ret) {idx ci k a : Nat} {f : Option Nat → KO α} (hd : decode cc pc = .ok (.getfield idx, 3)) (hf : kFL own idx ci k) (hs : ksrt (kFt ci k) = 2) (kk : ∀ o, kJ X enc nL cells slots L (.inr (.inr o) :: st) (pc + 3) h (f o)) : kJ X enc nL cells slots L (.inr (.inr (some a)) :: st) pc h (gR h a (ci + 1) k f) := by
  intro r h' hw ρ H locs ls hI hl hk
  unfold gR at hw
  split at hw
  · rename_i ha
    refine kj_getK hC hd hf hI ha ?_
    rw [hs]
    exact kk _ r h' hw ρ H locs ls hI hl (hk.tail.push (fun b hb => hI.1.2.2 a k b (by rw [ha]; exact Nat.succ_ne_zero _) (Sum.inr.inj (Sum.inr.inj hb))))
  · cases hw
theorem kj_gN (hC : kC X own cc nL ret) {idx ci k a : Nat} {f : Nat → KO α} (hd : decode cc pc = .ok (.getfield idx, 3)) (hf : kFL own idx ci k) (hs : ksrt (kFt ci k) = 2) (kk : ∀ b, kJ X enc nL cells slots L (.inr (.inr (some b)) :: st) (pc + 3) h (f b)) : kJ X enc nL cells slots L (.inr (.inr (some a)) :: st) pc h (gN h a (ci + 1) k f) := by
  refine kj_gR hC (f := fun o => kmay o f) hd hf hs (fun o => ?_)
  refine kj_may (fun b e => ?_)
  subst e
  exact kk b

theorem kfit_ref {ty : FieldType} (h : ksrt ty = 2) (o : Option Nat) : narrow ty (va_rf o) = va_rf o ∧ fits ty (va_rf o) = true := by
  cases ty <;> first | (cases h; done) | (cases o <;> exact ⟨rfl, rfl⟩)
/-- a field is written -/
theorem kj_putK (hC : kC X own cc nL ret) {idx ci k a : Nat} (hd : decode cc pc = .ok (.putfield idx, 3)) (hf : kFL own idx ci k) (hfin : (∀ q : vw_C, kvCl[ci]? = some q → (q.2.1 k).2.2.2 = false) ∨ ((xme X).name = "<init>" ∧ ∀ q : vw_C, kvCl[ci]? = some q → (q.2.1 k).2.2.2 = true ∧ q.1 = own)) {v : KV} (hs : ksrtV v = ksrt (kFt ci k)) (hv : ∀ ρ, narrow (kFt ci k) (ktr ρ v) = ktr ρ v ∧ fits (kFt ci k) (ktr ρ v) = true)
    (kk : kJ X enc nL cells slots L st (pc + 3) (kset h a k v) w) (ha : kd h a = ci + 1) : kJ X enc nL cells slots L (v :: .inr (.inr (some a)) :: st) pc h w := by
  intro r h' hw ρ H locs ls hI hl hko
  obtain ⟨q, hq, hk, hlk⟩ := hf
  have hci := kCl_lt hq
  have ha0 : kd h a ≠ 0 := by rw [ha]; exact Nat.succ_ne_zero _
  have h32 : kd h a ≠ 32 := by rw [ha]; omega
  obtain ⟨cell, q1, q2, q3, q4⟩ := (hI.1.1 a ha0).2.1 ci q hq ha
  obtain ⟨hS, hfc, kC0, hkC, hkind⟩ := hC.2.2.2.2.2.2.2.1.1 ci q hq
  obtain ⟨cf, kf, fi, f, hi, hsl⟩ := hS k hk
  have hts : ∀ w ∈ kT, w.before (xar X) (xs X) = true := hC.2.2.2.2.2.2.1
  have hin := kcls_in ci hci q hq
  have hty := kcls_ty ci hci q hq
  have hap := va_apart (own := own) (cl := kvCl) (D := (xG X).1) (s := xs X) (args := xar X) (tys := []) hts hin (kFt ci) hty (kcls_nm ci hci q hq) ⟨hC.2.2.2.2.2.2.2.1.1, fun k q h => by simp at h⟩ hq
  have hlay := hts _ (hin _ (u_in_lay hk))
  have hst := (u_facts hfc hkC (u_lays hts hin hk) hi).1
  obtain ⟨hn, hfit⟩ := hv ρ
  have hkd : ∀ q, q < (xs X).heap.size → True := fun _ _ => trivial
  have key : ∀ H' : Heap, H'[ρ a]? = some (cell.setSlot (((xG X).1.2 ci) k) (ktr ρ v)) → H'.size = H.size → (∀ q, q ≠ ρ a → H'[q]? = H[q]?) → kW X enc cells slots r h' H' (locs ++ [⟨ρ a, ((xG X).1.2 ci) k⟩]) (F0 (xm X) (pc + 3) ls (st.map (ktr ρ))) := by
    intro H' e1 e2 e3
    obtain ⟨i1, i2, i3, i4, i5⟩ := hI
    have hkds : kd (kset h a k v) = kd h := kset_kd h a k v
    refine kk r h' hw ρ H' _ ls ⟨i1.upd a ha0 hkds (fun b hb => kset_ne h a k v hb) e2 e3 ⟨fun ci' q' hq' hk' => ?_, fun ty hty' => ?_, fun q32 => absurd (by rw [← hkds]; exact q32) h32⟩ (kset_R h a k v hko.head (fun k b => i1.2.2 a k b ha0)), i2.put e2 e3 (i3 a ha0 h32), fun b hb hb2 => i3 b (by rw [← hkds]; exact hb) (by rw [← hkds]; exact hb2), fun b hb => by rw [hkds]; exact i4 b hb, fun b hb hb0 => i5 b (by rw [← hkds]; exact hb) hb0⟩ hl (hko.tail.tail.eq hkds)
    · rw [hkds, ha] at hk'
      have hcc : ci' = ci := by omega
      subst hcc
      have hqq : q' = q := Option.some.inj (hq'.symm.trans hq)
      subst hqq
      have h9 : t_OB (ρ a) ((xG X).1.1 ci') q'.2.2 ((xG X).1.2 ci') H' (updV (fun j => kV ρ h a j (ksrt (kFt ci' j))) k (ktr ρ v)) := ⟨_, e1, q2, q3, t_set q4 hap hk (ktr ρ v)⟩
      refine h9.to (fun j hj => ?_)
      rw [kset_V ρ h a k v j _ (fun e => by rw [e]; exact hs.symm)]
      rfl
    · rw [hkds, ha] at hty'
      rw [kTy_obj hq] at hty'
      cases hty'
  rcases hfin with hfin | ⟨hinit, hfin⟩
  · have hf0 := hfin q hq
    unfold u_lay at hlay
    rw [if_neg (by rw [hf0]; decide)] at hlay
    have h6 := u_store hfc hkC hkind hlay hi (hty k hk) hn hfit
    refine W.putK hC.1 hC.2.1 (f := f) ⟨hC.2.2.2.2.2.1, hts _ hlk, ⟨_, _, _, hi⟩, hst⟩ (by rw [q2]; exact h6) q1 q3 (by rw [hsl]; exact k2_hasslot (q4 k hk)) rfl rfl hd fun H' e1 e2 e3 => ?_
    rw [hsl] at e1 ⊢
    exact key H' e1 e2 e3
  · obtain ⟨hf0, hqo⟩ := hfin q hq
    unfold u_lay at hlay
    rw [if_pos hf0] at hlay
    have hcf : (xm X).cls = cf := by
      obtain ⟨_, _, c', _, _, _, -, -, hf', -, -, -, hown2, -⟩ := Cond.laysFinal_spec hlay
      have e1 : c' = cf := by have := hi.symm.trans hf'; simp at this; exact this.1.symm
      rw [kcls_own ci hci q hq k hk, hqo] at hown2
      rw [← e1]; exact Option.some.inj (hC.2.2.2.2.2.1.symm.trans hown2)
    have h6 := u_fits hfc hkC hkind (Or.inr hlay) hi (hty k hk) hn hfit
    refine W.putFinK hC.1 hC.2.1 hC.2.2.2.2.2.1 (hts _ hlk) hi hst hcf hinit (by rw [q2]; exact h6) q1 q3 (by rw [hsl]; exact k2_hasslot (q4 k hk)) rfl rfl hd fun H' e1 e2 e3 => ?_
    rw [hsl] at e1 ⊢
    exact key H' e1 e2 e3
def kNF (ci k : Nat) : Prop := ∀ q : vw_C, kvCl[ci]? = some q → (q.2.1 k).2.2.2 = false
def kFF (own : String) (ci k : Nat) : Prop := ∀ q : vw_C, kvCl[ci]? = some q → (q.2.1 k).2.2.2 = true ∧ q.1 = own
theorem kj_pI (hC : kC X own cc nL ret) {idx ci k a : Nat} {v : Int32} {f : KH → KO α} (hd : decode cc pc = .ok (.putfield idx, 3)) (hf : kFL own idx ci k) (hfin : kNF ci k ∨ ((xme X).name = "<init>" ∧ kFF own ci k)) (hs : ksrt (kFt ci k) = 0) (hv : narrow (kFt ci k) (.int v) = .int v ∧ fits (kFt ci k) (.int v) = true)
    (kk : ∀ h1, kJ X enc nL cells slots L st (pc + 3) h1 (f h1)) : kJ X enc nL cells slots L (.inl v :: .inr (.inr (some a)) :: st) pc h (pI h a (ci + 1) k v f) := by
  unfold pI
  by_cases ha : kd h a = ci + 1
  · rw [if_pos ha]
    exact kj_putK hC hd hf hfin (v := .inl v) hs.symm (fun ρ => hv) (kk _) ha
  · rw [if_neg ha]
    exact kj_none
theorem kj_pR (hC : kC X own cc nL ret) {idx ci k a : Nat} {v : Option Nat} {f : KH → KO α} (hd : decode cc pc = .ok (.putfield idx, 3)) (hf : kFL own idx ci k) (hfin : kNF ci k ∨ ((xme X).name = "<init>" ∧ kFF own ci k)) (hs : ksrt (kFt ci k) = 2)
    (kk : ∀ h1, kJ X enc nL cells slots L st (pc + 3) h1 (f h1)) : kJ X enc nL cells slots L (.inr (.inr v) :: .inr (.inr (some a)) :: st) pc h (pR h a (ci + 1) k v f) := by
  unfold pR
  by_cases ha : kd h a = ci + 1
  · rw [if_pos ha]
    exact kj_putK hC hd hf hfin (v := .inr (.inr v)) hs.symm (fun ρ => kfit_ref hs _) (kk _) ha
  · rw [if_neg ha]
    exact kj_none
/-! arrays -/
theorem karr_len (cA : ClassId) (n : Nat) (f : Nat → Value) {i : Int32} (hin : ¬ (i < 0 ∨ n ≤ i.toNatClampNeg)) : ¬ (i < 0 ∨ (arrV cA n f).slots.size ≤ i.toNatClampNeg) := by
  rw [arrV_size]; exact hin
theorem karr_at (cA : ClassId) (n : Nat) (f : Nat → Value) {i : Int32} (hin : ¬ (i < 0 ∨ n ≤ i.toNatClampNeg)) : (arrV cA n f).slots[i.toNatClampNeg]? = some (f i.toNatClampNeg) := arrV_read _ _ (Nat.not_le.mp fun q => hin (Or.inr q))
theorem kj_gAI (hC : kC X own cc nL ret) {a : Nat} {i : Int32} {f : Int32 → KO α} (hd : decode cc pc = .ok (.iaload, 1)) (kk : ∀ x, kJ X enc nL cells slots L (.inl x :: st) (pc + 1) h (f x)) : kJ X enc nL cells slots L (.inl i :: .inr (.inr (some a)) :: st) pc h (gAI h a 21 i f) := by
  intro r h' hw ρ H locs ls hI hl hk
  unfold gAI at hw
  split at hw
  · rename_i hg
    obtain ⟨ha, hin⟩ := hg
    have hc := (hI.1.1 a (by rw [ha]; decide)).2.2.1 .int (by rw [ha]; rfl)
    rw [ha] at hc
    exact W.iald hC.1 hC.2.1 hc ((hC.2.2.2.2.2.2.2.1.2.1 21 .int rfl).1 _ _) (fun q => by cases q) (karr_len _ _ _ hin) (karr_at _ _ _ hin) rfl rfl hd (kk _ r h' hw ρ H locs ls hI hl (hk.tail.tail.push (kOk_i _ _)))
  · cases hw
theorem kj_gAZ (hC : kC X own cc nL ret) {a : Nat} {i : Int32} {f : Int32 → KO α} (hd : decode cc pc = .ok (.baload, 1)) (kk : ∀ x, kJ X enc nL cells slots L (.inl x :: st) (pc + 1) h (f x)) : kJ X enc nL cells slots L (.inl i :: .inr (.inr (some a)) :: st) pc h (gAI h a 23 i f) := by
  intro r h' hw ρ H locs ls hI hl hk
  unfold gAI at hw
  split at hw
  · rename_i hg
    obtain ⟨ha, hin⟩ := hg
    have hc := (hI.1.1 a (by rw [ha]; decide)).2.2.1 .boolean (by rw [ha]; rfl)
    rw [ha] at hc
    exact W.zald hC.1 hC.2.1 hc ((hC.2.2.2.2.2.2.2.1.2.1 23 .boolean rfl).1 _ _) (fun q => by cases q) (karr_len _ _ _ hin) (karr_at _ _ _ hin) rfl rfl hd (kk _ r h' hw ρ H locs ls hI hl (hk.tail.tail.push (kOk_i _ _)))
  · cases hw
theorem kj_gAL (hC : kC X own cc nL ret) {a : Nat} {i : Int32} {f : Int64 → KO α} (hd : decode cc pc = .ok (.laload, 1)) (kk : ∀ x, kJ X enc nL cells slots L (.inr (.inl x) :: st) (pc + 1) h (f x)) : kJ X enc nL cells slots L (.inl i :: .inr (.inr (some a)) :: st) pc h (gAL h a 22 i f) := by
  intro r h' hw ρ H locs ls hI hl hk
  unfold gAL at hw
  split at hw
  · rename_i hg
    obtain ⟨ha, hin⟩ := hg
    have hc := (hI.1.1 a (by rw [ha]; decide)).2.2.1 .long (by rw [ha]; rfl)
    rw [ha] at hc
    exact W.lald hC.1 hC.2.1 hc ((hC.2.2.2.2.2.2.2.1.2.1 22 .long rfl).1 _ _) (fun q => by cases q) (karr_len _ _ _ hin) (karr_at _ _ _ hin) rfl rfl hd (kk _ r h' hw ρ H locs ls hI hl (hk.tail.tail.push (kOk_l _ _)))
  · cases hw
theorem kj_gAN (hC : kC X own cc nL ret) {a c : Nat} {ty : FieldType} {i : Int32} {f : Nat → KO α} (hd : decode cc pc = .ok (.aaload, 1)) (hty : kTy c = some ty) (hr : ty.isReference = true ∧ ksrt ty = 2) (kk : ∀ b, kJ X enc nL cells slots L (.inr (.inr (some b)) :: st) (pc + 1) h (f b)) : kJ X enc nL cells slots L (.inl i :: .inr (.inr (some a)) :: st) pc h (gAN h a c i f) := by
  intro r h' hw ρ H locs ls hI hl hk
  unfold gAN at hw
  split at hw
  · rename_i hg
    obtain ⟨ha, hin⟩ := hg
    have ha0 : kd h a ≠ 0 := by rw [ha]; have := kTy_arr hty; omega
    have hc := (hI.1.1 a ha0).2.2.1 ty (by rw [ha]; exact hty)
    rw [ha] at hc
    cases ho : kR h a i.toNatClampNeg with
    | none => rw [ho] at hw; cases hw
    | some b =>
      rw [ho] at hw
      refine W.aald hC.1 hC.2.1 hc ((hC.2.2.2.2.2.2.2.1.2.1 c ty hty).1 _ _) hr.1 (fun q => by cases q) (karr_len _ _ _ hin) (karr_at _ _ _ hin) rfl rfl hd ?_
      rw [hr.2, show kV ρ h a i.toNatClampNeg 2 = va_rf ((kR h a i.toNatClampNeg).map ρ) from rfl, ho]
      exact kk b r h' hw ρ H locs ls hI hl (hk.tail.tail.push (kOk_r (hI.1.2.2 a _ b ha0 ho)))
  · cases hw
/-- an array's place is written -/
theorem kj_putA {c a : Nat} {ty : FieldType} {j : Nat} {v : KV} (h32' : c ≠ 32) (hty : kTy c = some ty) (ha : kd h a = c) (hs : ksrtV v = ksrt ty) (hv : kOk h v) {ρ : Nat → Nat} {H H' : Heap} {locs : List Loc} (hI : kInv X ρ h H locs)
    (e1 : H'[ρ a]? = some ((arrV ((xG X).2 c) (kn h a) (fun k => kV ρ h a k (ksrt ty))).setSlot j (ktr ρ v))) (e2 : H'.size = H.size) (e3 : ∀ q, q ≠ ρ a → H'[q]? = H[q]?) : kInv X ρ (kset h a j v) H' (locs ++ [⟨ρ a, j⟩]) := by
  have ha0 : kd h a ≠ 0 := by rw [ha]; have := kTy_arr hty; omega
  have h32 : kd h a ≠ 32 := by rw [ha]; exact h32'
  obtain ⟨i1, i2, i3, i4, i5⟩ := hI
  have hkds : kd (kset h a j v) = kd h := kset_kd h a j v
  refine ⟨i1.upd a ha0 hkds (fun b hb => kset_ne h a j v hb) e2 e3 ⟨fun ci' q' hq' hk' => ?_, fun ty' hty' => ?_, fun q32 => absurd (by rw [← hkds]; exact q32) h32⟩ (kset_R h a j v hv (fun k b => i1.2.2 a k b ha0)), i2.put e2 e3 (i3 a ha0 h32), fun b hb hb2 => i3 b (by rw [← hkds]; exact hb) (by rw [← hkds]; exact hb2), fun b hb => by rw [hkds]; exact i4 b hb, fun b hb hb0 => i5 b (by rw [← hkds]; exact hb) hb0⟩
  · rw [hkds, ha] at hk'
    rw [hk', kTy_obj hq'] at hty
    cases hty
  · rw [hkds, ha] at hty'
    have htt : ty' = ty := Option.some.inj (hty'.symm.trans hty)
    subst htt
    rw [e1, arrV_store, hkds, ha, kset_n]
    congr 2
    funext k
    rw [kset_V ρ h a j v k _ (fun _ => hs.symm)]
theorem kj_pAI (hC : kC X own cc nL ret) {a : Nat} {i x : Int32} {f : KH → KO α} (hd : decode cc pc = .ok (.iastore, 1)) (kk : ∀ h1, kJ X enc nL cells slots L st (pc + 1) h1 (f h1)) : kJ X enc nL cells slots L (.inl x :: .inl i :: .inr (.inr (some a)) :: st) pc h (pAI h a 21 i x f) := by
  intro r h' hw ρ H locs ls hI hl hk
  unfold pAI at hw
  split at hw
  · rename_i hg
    obtain ⟨ha, hin⟩ := hg
    have hc := (hI.1.1 a (by rw [ha]; decide)).2.2.1 .int (by rw [ha]; rfl)
    rw [ha] at hc
    refine W.iast hC.1 hC.2.1 hc ((hC.2.2.2.2.2.2.2.1.2.1 21 .int rfl).1 _ _) (fun q => by cases q) (karr_len _ _ _ hin) rfl rfl hd (fun H' e1 e2 e3 => ?_)
    exact kk _ r h' hw ρ H' _ ls (kj_putA (v := .inl x) (ty := .int) (c := 21) (by decide) rfl ha rfl (kOk_i _ _) hI e1 e2 e3) hl (hk.tail.tail.tail.eq rfl)
  · cases hw
theorem kj_gAIc (hC : kC X own cc nL ret) {a c : Nat} {i : Int32} {f : Int32 → KO α} (hty : kTy c = some .int) (hd : decode cc pc = .ok (.iaload, 1)) (kk : ∀ x, kJ X enc nL cells slots L (.inl x :: st) (pc + 1) h (f x)) : kJ X enc nL cells slots L (.inl i :: .inr (.inr (some a)) :: st) pc h (gAI h a c i f) := by
  intro r h' hw ρ H locs ls hI hl hk
  unfold gAI at hw
  split at hw
  · rename_i hg
    obtain ⟨ha, hin⟩ := hg
    have hc := (hI.1.1 a (by rw [ha]; have := kTy_arr hty; omega)).2.2.1 .int (by rw [ha]; exact hty)
    rw [ha] at hc
    exact W.iald hC.1 hC.2.1 hc ((hC.2.2.2.2.2.2.2.1.2.1 c .int hty).1 _ _) (fun q => by cases q) (karr_len _ _ _ hin) (karr_at _ _ _ hin) rfl rfl hd (kk _ r h' hw ρ H locs ls hI hl (hk.tail.tail.push (kOk_i _ _)))
  · cases hw
theorem kj_pAIc (hC : kC X own cc nL ret) {a c : Nat} {i x : Int32} {f : KH → KO α} (hty : kTy c = some .int) (h32 : c ≠ 32) (hd : decode cc pc = .ok (.iastore, 1)) (kk : ∀ h1, kJ X enc nL cells slots L st (pc + 1) h1 (f h1)) : kJ X enc nL cells slots L (.inl x :: .inl i :: .inr (.inr (some a)) :: st) pc h (pAI h a c i x f) := by
  intro r h' hw ρ H locs ls hI hl hk
  unfold pAI at hw
  split at hw
  · rename_i hg
    obtain ⟨ha, hin⟩ := hg
    have hc := (hI.1.1 a (by rw [ha]; have := kTy_arr hty; omega)).2.2.1 .int (by rw [ha]; exact hty)
    rw [ha] at hc
    refine W.iast hC.1 hC.2.1 hc ((hC.2.2.2.2.2.2.2.1.2.1 c .int hty).1 _ _) (fun q => by cases q) (karr_len _ _ _ hin) rfl rfl hd (fun H' e1 e2 e3 => ?_)
    exact kk _ r h' hw ρ H' _ ls (kj_putA (v := .inl x) (ty := .int) (c := c) h32 hty ha rfl (kOk_i _ _) hI e1 e2 e3) hl (hk.tail.tail.tail.eq rfl)
  · cases hw
theorem kj_gS (hC : kC X own cc nL ret) {a : Nat} {i : Int32} {f : Int32 → KO α} (hd : decode cc pc = .ok (.iaload, 1)) (kk : ∀ x, kJ X enc nL cells slots L (.inl x :: st) (pc + 1) h (f x)) : kJ X enc nL cells slots L (.inl i :: .inr (.inr (some a)) :: st) pc h (gAI h a 32 i f) := by
  intro r h' hw ρ H locs ls hI hl hk
  unfold gAI at hw
  split at hw
  · rename_i hg
    obtain ⟨ha, hin⟩ := hg
    obtain ⟨scr, g1, g2, g3, g4, g5, g6⟩ := (hI.1.1 a (by rw [ha]; decide)).2.2.2 ha
    have harr : (xs X).isArrayOf scr .int := ⟨g3, by
      have := (hC.2.2.2.2.2.2.2.1.2.2.2.2.2.2.2 0 (fun _ => .null)).2
      rw [g2]
      exact this⟩
    have hlt : i.toNatClampNeg < kn h a := Nat.not_le.mp fun q => hin (Or.inr q)
    exact W.iald (v := .int (kI h a i.toNatClampNeg)) hC.1 hC.2.1 g1 harr g4 (by rw [g5]; exact hin) (g6 _ hlt) rfl rfl hd (kk _ r h' hw ρ H locs ls hI hl (hk.tail.tail.push (kOk_i _ _)))
  · cases hw
theorem kj_gLen (hC : kC X own cc nL ret) {a : Nat} {f : Int32 → KO α} (hd : decode cc pc = .ok (.arraylength, 1)) (kk : ∀ x, kJ X enc nL cells slots L (.inl x :: st) (pc + 1) h (f x)) : kJ X enc nL cells slots L (.inr (.inr (some a)) :: st) pc h (gLen h a 32 f) := by
  intro r h' hw ρ H locs ls hI hl hk
  unfold gLen at hw
  split at hw
  · rename_i ha
    obtain ⟨scr, g1, g2, g3, g4, g5, g6⟩ := (hI.1.1 a (by rw [ha]; decide)).2.2.2 ha
    have harr : (xs X).isArrayOf scr .int := ⟨g3, by
      have := (hC.2.2.2.2.2.2.2.1.2.2.2.2.2.2.2 0 (fun _ => .null)).2
      rw [g2]
      exact this⟩
    exact W.alen (n := Int32.ofNat (kn h a)) hC.1 hC.2.1 g1 harr (by rw [g5]) rfl rfl hd (kk _ r h' hw ρ H locs ls hI hl (hk.tail.push (kOk_i _ _)))
  · cases hw
theorem kj_ior (hC : kC X own cc nL ret) {x y : Int32} (hd : decode cc pc = .ok (.ior, 1)) (k : kJ X enc nL cells slots L (.inl (x ||| y) :: st) (pc + 1) h w) : kJ X enc nL cells slots L (.inl y :: .inl x :: st) pc h w := by
  intro r h' hw ρ H locs ls hI hl hk
  exact lv_ior hC.1 hC.2.1 hd (k r h' hw ρ H locs ls hI hl (hk.tail.tail.push (kOk_i _ _)))
/-- the next address is free to choose -/
theorem kj_ghost {n : Nat} (k : kJ X enc nL cells slots L st pc (sX h n) w) : kJ X enc nL cells slots L st pc h w := by
  intro r h' hw ρ H locs ls hI hl hk
  exact k r h' hw ρ H locs ls hI hl hk
theorem kj_pAZ (hC : kC X own cc nL ret) {a : Nat} {i x : Int32} {f : KH → KO α} (hd : decode cc pc = .ok (.bastore, 1)) (kk : ∀ h1, kJ X enc nL cells slots L st (pc + 1) h1 (f h1)) : kJ X enc nL cells slots L (.inl x :: .inl i :: .inr (.inr (some a)) :: st) pc h (pAZ h a 23 i x f) := by
  intro r h' hw ρ H locs ls hI hl hk
  unfold pAZ at hw
  split at hw
  · rename_i hg
    obtain ⟨ha, hin, hx⟩ := hg
    have hc := (hI.1.1 a (by rw [ha]; decide)).2.2.1 .boolean (by rw [ha]; rfl)
    rw [ha] at hc
    have hnx : narrow .boolean (.int x) = .int x := by rcases hx with rfl | rfl <;> rfl
    refine W.zast hC.1 hC.2.1 hc ((hC.2.2.2.2.2.2.2.1.2.1 23 .boolean rfl).1 _ _) (fun q => by cases q) (karr_len _ _ _ hin) rfl rfl hd (fun H' e1 e2 e3 => ?_)
    rw [hnx] at e1
    exact kk _ r h' hw ρ H' _ ls (kj_putA (v := .inl x) (ty := .boolean) (c := 23) (by decide) rfl ha rfl (kOk_i _ _) hI e1 e2 e3) hl (hk.tail.tail.tail.eq rfl)
  · cases hw
theorem kj_pAL (hC : kC X own cc nL ret) {a : Nat} {i : Int32} {x : Int64} {f : KH → KO α} (hd : decode cc pc = .ok (.lastore, 1)) (kk : ∀ h1, kJ X enc nL cells slots L st (pc + 1) h1 (f h1)) : kJ X enc nL cells slots L (.inr (.inl x) :: .inl i :: .inr (.inr (some a)) :: st) pc h (pAL h a 22 i x f) := by
  intro r h' hw ρ H locs ls hI hl hk
  unfold pAL at hw
  split at hw
  · rename_i hg
    obtain ⟨ha, hin⟩ := hg
    have hc := (hI.1.1 a (by rw [ha]; decide)).2.2.1 .long (by rw [ha]; rfl)
    rw [ha] at hc
    refine W.last hC.1 hC.2.1 hc ((hC.2.2.2.2.2.2.2.1.2.1 22 .long rfl).1 _ _) (fun q => by cases q) (karr_len _ _ _ hin) rfl rfl hd (fun H' e1 e2 e3 => ?_)
    exact kk _ r h' hw ρ H' _ ls (kj_putA (v := .inr (.inl x)) (ty := .long) (c := 22) (by decide) rfl ha rfl (kOk_l _ _) hI e1 e2 e3) hl (hk.tail.tail.tail.eq rfl)
  · cases hw
theorem kj_pAN (hC : kC X own cc nL ret) {a c ci : Nat} {q : vw_C} {i : Int32} {v : Nat} {f : KH → KO α} (hd : decode cc pc = .ok (.aastore, 1)) (hq : kvCl[ci]? = some q) (hty : kTy c = some (.object q.1)) (kk : ∀ h1, kJ X enc nL cells slots L st (pc + 1) h1 (f h1)) : kJ X enc nL cells slots L (.inr (.inr (some v)) :: .inl i :: .inr (.inr (some a)) :: st) pc h (pAN h a c (ci + 1) i v f) := by
  intro r h' hw ρ H locs ls hI hl hk
  unfold pAN at hw
  split at hw
  · rename_i hg
    obtain ⟨ha, hin, hv⟩ := hg
    have ha0 : kd h a ≠ 0 := by rw [ha]; have := kTy_arr hty; omega
    have hv0 : kd h v ≠ 0 := by rw [hv]; exact Nat.succ_ne_zero _
    have hc := (hI.1.1 a ha0).2.2.1 _ (by rw [ha]; exact hty)
    rw [ha] at hc
    have hlt : i.toNatClampNeg < kn h a := Nat.not_le.mp fun q => hin (Or.inr q)
    obtain ⟨cellV, g1, g2, g3, -⟩ := (hI.1.1 v hv0).2.1 ci q hq hv
    have hcls := (hC.2.2.2.2.2.2.2.1.1 ci q hq).2
    obtain ⟨kA, comp, k1, k2, k3, -⟩ := (hC.2.2.2.2.2.2.2.1.2.1 c _ hty).2
    have hcomp : comp = (xG X).1.1 ci := Option.some.inj (k3.symm.trans hcls.1)
    subst hcomp
    obtain ⟨kC, hkC, -⟩ := hcls.2
    refine W.aast hC.1 hC.2.1 hc (fun q h => by cases h) (fun h => by cases h) k1 k2 rfl hkC ⟨fun q => hin (Or.inl q), by rw [arrV_size]; exact hlt⟩ g1 (fun q h => by rw [g3] at h; cases h) (by rw [g2]; exact hkC) (by rw [g2]; exact va_assign hcls) rfl rfl hd fun H' e1 e2 e3 => ?_
    exact kk _ r h' hw ρ H' _ ls (kj_putA (v := .inr (.inr (some v))) (ty := .object q.1) (c := c) (kTy_32 hty) hty ha rfl (kOk_r hv0) hI e1 e2 e3) hl (hk.tail.tail.tail.eq rfl)
  · cases hw
/-! returns -/
theorem kFin_of {r : Nat ⊕ α} {h' : KH} {v : α} (hr : r = .inr v) {g : JFrame} {ρ : Nat → Nat} {H : Heap} {locs : List Loc} (hI : kInv X ρ h' H locs) (hv : ∀ u, enc v = some u → kOk h' u) : ∀ t : State, t.heap = H → (xs X).WarmedH t.vm → kQc enc (xG X) (xA X) (xh X) (xr X) r h' (xar X) (xs X) (.returned ((enc v).map (ktr ρ))) t :=
  fun t ht _ => ⟨v, ρ, hr, rfl, hv, by rw [ht]; exact hI.1, hI.2.2.2.1, hI.2.2.2.2, hI.2.1.F ht⟩
theorem kj_ireturn {X : KX} {own : String} {cc : ByteArray} {nL : Nat} {L : List (Nat × KV)} {pc : Nat} {h : KH} (hC : kC X own cc nL (some .int)) {x : Int32} (hd : decode cc pc = .ok (.ireturn, 1)) : kJ X (fun x : Int32 => some (.inl x)) nL (xmc X) (xms X) L [.inl x] pc h (kret x h) := by
  intro r h' hw ρ H locs ls hI hl hk
  cases hw
  exact vx_ret (W.iret hC.1 hC.2.1 hC.2.2.2.1 (kFin_of (enc := fun x : Int32 => some (.inl x)) (g := F0 (xm X) pc ls []) rfl hI (fun u hu => by cases hu; exact kOk_i _ _)) hI.2.1.2.2 hd hC.2.2.2.2.1)
theorem kj_zreturn {X : KX} {own : String} {cc : ByteArray} {nL : Nat} {L : List (Nat × KV)} {pc : Nat} {h : KH} (hC : kC X own cc nL (some .boolean)) {x : Int32} (hd : decode cc pc = .ok (.ireturn, 1)) : kJ X (fun x : Int32 => some (.inl x)) nL (xmc X) (xms X) L [.inl x] pc h (kretZ x h) := by
  intro r h' hw ρ H locs ls hI hl hk
  unfold kretZ at hw
  split at hw
  · rename_i hx
    cases hw
    exact vx_ret (W.zret hC.1 hC.2.1 hC.2.2.2.1 (by rcases hx with rfl | rfl <;> rfl) (kFin_of (enc := fun x : Int32 => some (.inl x)) (g := F0 (xm X) pc ls []) rfl hI (fun u hu => by cases hu; exact kOk_i _ _)) hI.2.1.2.2 hd hC.2.2.2.2.1)
  · cases hw
theorem kj_creturn {X : KX} {own : String} {cc : ByteArray} {nL : Nat} {L : List (Nat × KV)} {pc : Nat} {h : KH} (hC : kC X own cc nL (some .char)) {x : Int32} (hd : decode cc pc = .ok (.ireturn, 1)) : kJ X (fun x : Int32 => some (.inl x)) nL (xmc X) (xms X) L [.inl x] pc h (kretC x h) := by
  intro r h' hw ρ H locs ls hI hl hk
  unfold kretC at hw
  split at hw
  · rename_i hx
    cases hw
    exact vx_ret (W.zret hC.1 hC.2.1 hC.2.2.2.1 (by have h9 := pk_nc x; rw [hx] at h9; exact h9) (kFin_of (enc := fun x : Int32 => some (.inl x)) (g := F0 (xm X) pc ls []) rfl hI (fun u hu => by cases hu; exact kOk_i _ _)) hI.2.1.2.2 hd hC.2.2.2.2.1)
  · cases hw
theorem kj_lreturn {X : KX} {own : String} {cc : ByteArray} {nL : Nat} {L : List (Nat × KV)} {pc : Nat} {h : KH} (hC : kC X own cc nL (some .long)) {x : Int64} (hd : decode cc pc = .ok (.lreturn, 1)) : kJ X (fun x : Int64 => some (.inr (.inl x))) nL (xmc X) (xms X) L [.inr (.inl x)] pc h (kret x h) := by
  intro r h' hw ρ H locs ls hI hl hk
  cases hw
  exact vx_ret (W.lret hC.1 hC.2.1 hC.2.2.2.1 (kFin_of (enc := fun x : Int64 => some (.inr (.inl x))) (g := F0 (xm X) pc ls []) rfl hI (fun u hu => by cases hu; exact kOk_l _ _)) hI.2.1.2.2 hd hC.2.2.2.2.1)
theorem kj_return {X : KX} {own : String} {cc : ByteArray} {nL : Nat} {L : List (Nat × KV)} {pc : Nat} {h : KH} (hC : kC X own cc nL none) (hd : decode cc pc = .ok (.return_, 1)) : kJ X (fun _ : Unit => none) nL (xmc X) (xms X) L [] pc h (kret () h) := by
  intro r h' hw ρ H locs ls hI hl hk
  cases hw
  exact vx_ret (W.vret hC.1 hC.2.1 hC.2.2.2.1 (kFin_of (enc := fun _ : Unit => none) (g := F0 (xm X) pc ls []) rfl hI (fun u hu => by cases hu)) hI.2.1.2.2 hd hC.2.2.2.2.1)
theorem kj_areturn {X : KX} {own : String} {cc : ByteArray} {nL : Nat} {L : List (Nat × KV)} {pc : Nat} {h : KH} {nm : String} (hC : kC X own cc nL (some (.object nm))) {o : Option Nat} (hd : decode cc pc = .ok (.areturn, 1)) : kJ X (fun o : Option Nat => some (.inr (.inr o))) nL (xmc X) (xms X) L [.inr (.inr o)] pc h (kret o h) := by
  intro r h' hw ρ H locs ls hI hl hk
  cases hw
  exact vx_ret (W.aret hC.1 hC.2.1 hC.2.2.2.1 (Or.inl ⟨_, rfl⟩) (by cases o with | none => exact Or.inl rfl | some a => exact Or.inr ⟨_, rfl⟩) (kFin_of (enc := fun o : Option Nat => some (.inr (.inr o))) (g := F0 (xm X) pc ls []) rfl hI (fun u hu => by cases hu; exact hk.head)) hI.2.1.2.2 hd hC.2.2.2.2.1)
theorem kj_areturnN {X : KX} {own : String} {cc : ByteArray} {nL : Nat} {L : List (Nat × KV)} {pc : Nat} {h : KH} {nm : String} (hC : kC X own cc nL (some (.object nm))) {a : Nat} (hd : decode cc pc = .ok (.areturn, 1)) : kJ X (fun a : Nat => some (.inr (.inr (some a)))) nL (xmc X) (xms X) L [.inr (.inr (some a))] pc h (kret a h) := by
  intro r h' hw ρ H locs ls hI hl hk
  cases hw
  exact vx_ret (W.aret hC.1 hC.2.1 hC.2.2.2.1 (Or.inl ⟨_, rfl⟩) (Or.inr ⟨_, rfl⟩) (kFin_of (enc := fun a : Nat => some (.inr (.inr (some a)))) (g := F0 (xm X) pc ls []) rfl hI (fun u hu => by cases hu; exact hk.head)) hI.2.1.2.2 hd hC.2.2.2.2.1)
end KROWS
