/-! the law's walk, over two abstract heaps: the class's and the model's -/
abbrev KY : Type := Program × Launch × Env × State × MethodId × List Frame × Method × Code × Nat × Nat × (Nat → Int32) × KG
abbrev yp (Y : KY) : Program := Y.1
abbrev yl (Y : KY) : Launch := Y.2.1
abbrev ye (Y : KY) : Env := Y.2.2.1
abbrev ys (Y : KY) : State := Y.2.2.2.1
abbrev ym (Y : KY) : MethodId := Y.2.2.2.2.1
abbrev ybe (Y : KY) : List Frame := Y.2.2.2.2.2.1
abbrev yme (Y : KY) : Method := Y.2.2.2.2.2.2.1
abbrev yc (Y : KY) : Code := Y.2.2.2.2.2.2.2.1
abbrev yb (Y : KY) : Nat := Y.2.2.2.2.2.2.2.2.1
abbrev yL (Y : KY) : Nat := Y.2.2.2.2.2.2.2.2.2.1
abbrev yx (Y : KY) : Nat → Int32 := Y.2.2.2.2.2.2.2.2.2.2.1
abbrev yG (Y : KY) : KG := Y.2.2.2.2.2.2.2.2.2.2.2
def yA (Y : KY) : Nat → Prop := fun q => (ys Y).heap.size ≤ q
def kCL (Y : KY) : Prop :=
  (yp Y).tables.exec = Jvm.exec ∧ (yc Y).code = cL_law ∧ (yme Y).sig.returnType = ret ∧ (yc Y).maxLocals = 8 ∧ (ys Y).vm.findClass RL = some (ym Y).cls ∧ (∀ w ∈ kT, w.before #[Value.ref (yb Y)] (ys Y) = true) ∧ kK (yG Y) (ys Y) ∧ kZ (yA Y) (ys Y) (ys Y).heap ∧ (yl Y).stackTraces = false ∧
  va_X (yb Y) (yL Y) (yx Y) (ys Y) (ys Y).heap ∧ (yb Y) < (ys Y).heap.size ∧ (yme Y).locks = false
/-- two heaps side by side -/
def kL2 (Y : KY) (ρ : Nat → Nat) (h : KH) (σ : Nat → Nat) (g : KH) (H : Heap) (locs : List Loc) : Prop :=
  kRep (yG Y) ρ h H ∧ kRep (yG Y) σ g H ∧ (∀ a b, kd h a ≠ 0 → kd g b ≠ 0 → ρ a ≠ σ b) ∧ va_S (yA Y) (ys Y).heap H locs ∧ (∀ a, kd h a ≠ 0 → (ys Y).heap.size ≤ ρ a) ∧ ∀ a, kd g a ≠ 0 → (ys Y).heap.size ≤ σ a
theorem kL2.swap {Y : KY} {ρ : Nat → Nat} {h : KH} {σ : Nat → Nat} {g : KH} {H : Heap} {locs : List Loc} (i : kL2 Y ρ h σ g H locs) : kL2 Y σ g ρ h H locs := ⟨i.2.1, i.1, fun a b ha hb e => i.2.2.1 b a hb ha e.symm, i.2.2.2.1, i.2.2.2.2.2, i.2.2.2.2.1⟩
abbrev kWL (Y : KY) (cells slots : Nat) (H : Heap) (locs : List Loc) (g : JFrame) : Prop :=
  W (yp Y) (yl Y) (ye Y) room_1 (ys Y) (ym Y) #[Value.ref (yb Y)] (ybe Y) (yme Y) (yc Y) H locs cells slots (lw_Z (ybe Y) #[Value.ref (yb Y)] (ys Y)) g
/-- where the law's four references lie: the script, the class's object, the model's, the answer's row -/
def kρL (Y : KY) (ρx ρm : Nat → Nat) : Nat → Nat := fun t => match t with
  | 0 => yb Y
  | 1 => ρx 0
  | 2 => ρm 0
  | _ => ρx 36
def kJL (Y : KY) (cells slots : Nat) (L : List (Nat × KV)) (st : List KV) (pc : Nat) (hx hm : KH) : Prop :=
  ∀ (ρx ρm : Nat → Nat) (H : Heap) (locs : List Loc) (ls : Array Slot), kL2 Y ρx hx ρm hm H locs → kd hx 0 ≠ 0 → kd hx 36 ≠ 0 → kd hm 0 ≠ 0 → lv_has ls 8 (klv (kρL Y ρx ρm) L) →
    kWL Y cells slots H locs (F0 (ym Y) pc ls (st.map (ktr (kρL Y ρx ρm))))
section KLAW
variable {Y : KY} {cells slots : Nat} {L : List (Nat × KV)} {st : List KV} {pc : Nat} {hx hm : KH}
theorem kl_iconst (hC : kCL Y) {n : Int} {v : Int32} (hd : decode cL_law pc = .ok (.iconst n, 1)) (hv : Int32.ofInt n = v) (k : kJL Y cells slots L (.inl v :: st) (pc + 1) hx hm) : kJL Y cells slots L st pc hx hm :=
  fun ρx ρm H locs ls hI h0 h1 h2 hl => lv_iconst hC.1 hC.2.1 hd hv (k ρx ρm H locs ls hI h0 h1 h2 hl)
theorem kl_bipush (hC : kCL Y) {n : Int} {v : Int32} (hd : decode cL_law pc = .ok (.bipush n, 2)) (hv : (Int8.ofInt n).toInt32 = v) (k : kJL Y cells slots L (.inl v :: st) (pc + 2) hx hm) : kJL Y cells slots L st pc hx hm :=
  fun ρx ρm H locs ls hI h0 h1 h2 hl => lv_bipush hC.1 hC.2.1 hd hv (k ρx ρm H locs ls hI h0 h1 h2 hl)
theorem kl_lconst (hC : kCL Y) {n : Fin 2} {v : Int64} (hd : decode cL_law pc = .ok (.lconst n, 1)) (hv : Int64.ofNat (n : Nat) = v) (k : kJL Y cells slots L (.inr (.inl v) :: st) (pc + 1) hx hm) : kJL Y cells slots L st pc hx hm :=
  fun ρx ρm H locs ls hI h0 h1 h2 hl => lv_lconst hC.1 hC.2.1 hd hv (k ρx ρm H locs ls hI h0 h1 h2 hl)
theorem kl_iload (hC : kCL Y) {i : Nat} {x : Int32} (q : Nat) (hd : decode cL_law pc = .ok (.iload i, 2)) (hq : L[q]? = some (i, .inl x)) (k : kJL Y cells slots L (.inl x :: st) (pc + 2) hx hm) : kJL Y cells slots L st pc hx hm :=
  fun ρx ρm H locs ls hI h0 h1 h2 hl => lv_iload hC.1 hC.2.1 hd (lv_at hl q (klv_at hq)) (k ρx ρm H locs ls hI h0 h1 h2 hl)
theorem kl_lload (hC : kCL Y) {i : Nat} {x : Int64} (q : Nat) (hd : decode cL_law pc = .ok (.lload i, 2)) (hq : L[q]? = some (i, .inr (.inl x))) (k : kJL Y cells slots L (.inr (.inl x) :: st) (pc + 2) hx hm) : kJL Y cells slots L st pc hx hm :=
  fun ρx ρm H locs ls hI h0 h1 h2 hl => lv_lload hC.1 hC.2.1 hd (lv_at hl q (klv_at hq)) (k ρx ρm H locs ls hI h0 h1 h2 hl)
theorem kl_aloadn (hC : kCL Y) {j : Fin 4} {i a : Nat} (q : Nat) (hd : decode cL_law pc = .ok (.aload_n j, 1)) (hi : (j : Nat) = i) (hq : L[q]? = some (i, .inr (.inr (some a)))) (k : kJL Y cells slots L (.inr (.inr (some a)) :: st) (pc + 1) hx hm) : kJL Y cells slots L st pc hx hm :=
  fun ρx ρm H locs ls hI h0 h1 h2 hl => lv_aload_n hC.1 hC.2.1 hd hi (lv_at hl q (klv_at hq)) (k ρx ρm H locs ls hI h0 h1 h2 hl)
theorem kl_istore (hC : kCL Y) {i : Nat} {x : Int32} {L' : List (Nat × KV)} (hd : decode cL_law pc = .ok (.istore i, 2)) (hn : i < 8) (hL : kst L i (.inl x) = L') (k : kJL Y cells slots L' st (pc + 2) hx hm) : kJL Y cells slots L (.inl x :: st) pc hx hm := by
  subst hL
  exact fun ρx ρm H locs ls hI h0 h1 h2 hl => lv_istore hC.1 hC.2.1 hd hl hn (kst_ok _ L i (.inl x)) (fun ls' hl' => k ρx ρm H locs ls' hI h0 h1 h2 hl')
theorem kl_lstore (hC : kCL Y) {i : Nat} {x : Int64} {L' : List (Nat × KV)} (hd : decode cL_law pc = .ok (.lstore i, 2)) (hn : i + 1 < 8) (hL : kst2 L i (.inr (.inl x)) = L') (k : kJL Y cells slots L' st (pc + 2) hx hm) : kJL Y cells slots L (.inr (.inl x) :: st) pc hx hm := by
  subst hL
  exact fun ρx ρm H locs ls hI h0 h1 h2 hl => lv_lstore hC.1 hC.2.1 hd hl hn (kst2_ok _ L i (.inr (.inl x))) (fun ls' hl' => k ρx ρm H locs ls' hI h0 h1 h2 hl')
theorem kl_iinc (hC : kCL Y) {i : Nat} {n : Int} {x v : Int32} {L' : List (Nat × KV)} (q : Nat) (hd : decode cL_law pc = .ok (.iinc i n, 3)) (hq : L[q]? = some (i, .inl x)) (hv : x + Int32.ofInt n = v) (hn : i < 8) (hL : kst L i (.inl v) = L') (k : kJL Y cells slots L' st (pc + 3) hx hm) : kJL Y cells slots L st pc hx hm := by
  subst hL
  exact fun ρx ρm H locs ls hI h0 h1 h2 hl => lv_iinc hC.1 hC.2.1 hd hl (klv_at hq) hv hn (kst_ok _ L i (.inl v)) (fun ls' hl' => k ρx ρm H locs ls' hI h0 h1 h2 hl')
theorem kl_iadd (hC : kCL Y) {x y : Int32} (hd : decode cL_law pc = .ok (.iadd, 1)) (k : kJL Y cells slots L (.inl (x + y) :: st) (pc + 1) hx hm) : kJL Y cells slots L (.inl y :: .inl x :: st) pc hx hm :=
  fun ρx ρm H locs ls hI h0 h1 h2 hl => lv_iadd hC.1 hC.2.1 hd (k ρx ρm H locs ls hI h0 h1 h2 hl)
theorem kl_isub (hC : kCL Y) {x y : Int32} (hd : decode cL_law pc = .ok (.isub, 1)) (k : kJL Y cells slots L (.inl (x - y) :: st) (pc + 1) hx hm) : kJL Y cells slots L (.inl y :: .inl x :: st) pc hx hm :=
  fun ρx ρm H locs ls hI h0 h1 h2 hl => lv_isub hC.1 hC.2.1 hd (k ρx ρm H locs ls hI h0 h1 h2 hl)
theorem kl_iand (hC : kCL Y) {x y : Int32} (hd : decode cL_law pc = .ok (.iand, 1)) (k : kJL Y cells slots L (.inl (x &&& y) :: st) (pc + 1) hx hm) : kJL Y cells slots L (.inl y :: .inl x :: st) pc hx hm :=
  fun ρx ρm H locs ls hI h0 h1 h2 hl => lv_iand hC.1 hC.2.1 hd (k ρx ρm H locs ls hI h0 h1 h2 hl)
theorem kl_i2l (hC : kCL Y) {x : Int32} (hd : decode cL_law pc = .ok (.i2l, 1)) (k : kJL Y cells slots L (.inr (.inl x.toInt64) :: st) (pc + 1) hx hm) : kJL Y cells slots L (.inl x :: st) pc hx hm :=
  fun ρx ρm H locs ls hI h0 h1 h2 hl => lv_i2l hC.1 hC.2.1 hd rfl (k ρx ρm H locs ls hI h0 h1 h2 hl)
theorem kl_lcmp (hC : kCL Y) {x y : Int64} (hd : decode cL_law pc = .ok (.lcmp, 1)) (k : kJL Y cells slots L (.inl (lg_cmp x y) :: st) (pc + 1) hx hm) : kJL Y cells slots L (.inr (.inl y) :: .inr (.inl x) :: st) pc hx hm :=
  fun ρx ρm H locs ls hI h0 h1 h2 hl => W.lcmp hC.1 hC.2.1 hd (k ρx ρm H locs ls hI h0 h1 h2 hl)
theorem kl_goto (hC : kCL Y) {off : Int} {tgt : Nat} (hd : decode cL_law pc = .ok (.goto off, 3)) (ht : (pc : Int) + off = (tgt : Int)) (k : kJL Y cells slots L st tgt hx hm) : kJL Y cells slots L st pc hx hm :=
  fun ρx ρm H locs ls hI h0 h1 h2 hl => lv_goto hC.1 hC.2.1 hd ht (k ρx ρm H locs ls hI h0 h1 h2 hl)
theorem kl_if_ne (hC : kCL Y) {x : Int32} {off : Int} {tgt : Nat} (hd : decode cL_law pc = .ok (.ifCond .ne off, 3)) (ht : (pc : Int) + off = (tgt : Int)) (k1 : x = 0 → kJL Y cells slots L st (pc + 3) hx hm) (k2 : ¬ x = 0 → kJL Y cells slots L st tgt hx hm) : kJL Y cells slots L (.inl x :: st) pc hx hm :=
  fun ρx ρm H locs ls hI h0 h1 h2 hl => lv_if_ne hC.1 hC.2.1 hd ht (fun q => k2 q ρx ρm H locs ls hI h0 h1 h2 hl) (fun q => k1 q ρx ρm H locs ls hI h0 h1 h2 hl)
theorem kl_if_eq (hC : kCL Y) {x : Int32} {off : Int} {tgt : Nat} (hd : decode cL_law pc = .ok (.ifCond .eq off, 3)) (ht : (pc : Int) + off = (tgt : Int)) (k1 : x = 0 → kJL Y cells slots L st tgt hx hm) (k2 : ¬ x = 0 → kJL Y cells slots L st (pc + 3) hx hm) : kJL Y cells slots L (.inl x :: st) pc hx hm :=
  fun ρx ρm H locs ls hI h0 h1 h2 hl => lv_if_eq hC.1 hC.2.1 hd ht (fun q => k1 q ρx ρm H locs ls hI h0 h1 h2 hl) (fun q => k2 q ρx ρm H locs ls hI h0 h1 h2 hl)
theorem kl_icmp_eq (hC : kCL Y) {x y : Int32} {off : Int} {tgt : Nat} (hd : decode cL_law pc = .ok (.if_icmp .eq off, 3)) (ht : (pc : Int) + off = (tgt : Int)) (k1 : x = y → kJL Y cells slots L st tgt hx hm) (k2 : ¬ x = y → kJL Y cells slots L st (pc + 3) hx hm) : kJL Y cells slots L (.inl y :: .inl x :: st) pc hx hm :=
  fun ρx ρm H locs ls hI h0 h1 h2 hl => lv_icmp_eq hC.1 hC.2.1 hd ht (fun q => k1 q ρx ρm H locs ls hI h0 h1 h2 hl) (fun q => k2 q ρx ρm H locs ls hI h0 h1 h2 hl)
theorem kl_icmp_gt (hC : kCL Y) {x y : Int32} {off : Int} {tgt : Nat} (hd : decode cL_law pc = .ok (.if_icmp .gt off, 3)) (ht : (pc : Int) + off = (tgt : Int)) (k1 : y < x → kJL Y cells slots L st tgt hx hm) (k2 : ¬ y < x → kJL Y cells slots L st (pc + 3) hx hm) : kJL Y cells slots L (.inl y :: .inl x :: st) pc hx hm :=
  fun ρx ρm H locs ls hI h0 h1 h2 hl => lv_icmp_gt hC.1 hC.2.1 hd ht (fun q => k1 q ρx ρm H locs ls hI h0 h1 h2 hl) (fun q => k2 q ρx ρm H locs ls hI h0 h1 h2 hl)
theorem kl_sub {L' : List (Nat × KV)} (ks : List Nat) (hL : ks.filterMap (fun i => L[i]?) = L') (k : kJL Y cells slots L' st pc hx hm) : kJL Y cells slots L st pc hx hm := by
  subst hL
  intro ρx ρm H locs ls hI h0 h1 h2 hl
  refine k ρx ρm H locs ls hI h0 h1 h2 (lv_sub hl ks ?_)
  unfold lv_pick klv
  rw [List.map_filterMap]
  congr 1
  funext i
  rw [List.getElem?_map]
theorem kl_widen {k n : Nat} (h1 : cells ≤ k) (h2 : slots ≤ n) (kk : kJL Y k n L st pc hx hm) : kJL Y cells slots L st pc hx hm :=
  fun ρx ρm H locs ls hI g0 g1 g2 hl => W.widen h1 h2 (kk ρx ρm H locs ls hI g0 g1 g2 hl)
theorem kl_sld (hC : kCL Y) {i : Int32} (hin : vp_in i (yL Y)) (hd : decode cL_law pc = .ok (.iaload, 1)) (k : kJL Y cells slots L (.inl ((yx Y) i.toNatClampNeg) :: st) (pc + 1) hx hm) : kJL Y cells slots L (.inl i :: .inr (.inr (some 0)) :: st) pc hx hm :=
  fun ρx ρm H locs ls hI h0 h1 h2 hl => va_sld (A := yA Y) hC.1 hC.2.1 hC.2.2.2.2.2.2.2.2.2.1 hC.2.2.2.2.2.2.2.2.2.2.1 (Nat.not_le.mpr hC.2.2.2.2.2.2.2.2.2.2.1) hI.2.2.2.1 hin hd (k ρx ρm H locs ls hI h0 h1 h2 hl)
theorem kl_slen (hC : kCL Y) (hd : decode cL_law pc = .ok (.arraylength, 1)) (k : kJL Y cells slots L (.inl (Int32.ofNat (yL Y)) :: st) (pc + 1) hx hm) : kJL Y cells slots L (.inr (.inr (some 0)) :: st) pc hx hm :=
  fun ρx ρm H locs ls hI h0 h1 h2 hl => va_slen (A := yA Y) hC.1 hC.2.1 hC.2.2.2.2.2.2.2.2.2.1 hC.2.2.2.2.2.2.2.2.2.2.1 (Nat.not_le.mpr hC.2.2.2.2.2.2.2.2.2.2.1) hI.2.2.2.1 hd (k ρx ρm H locs ls hI h0 h1 h2 hl)
theorem kl_switchIn (hC : kCL Y) {dflt lo hi : Int} {offs : Array Int} {len : Nat} {x : Int32} {off : Int} {tgt : Nat} (hd : decode cL_law pc = .ok (.tableswitch dflt lo hi offs, len)) (h1 : ¬ x.toInt < lo) (h2 : ¬ hi < x.toInt) (ho : offs[(x.toInt - lo).toNat]? = some off) (ht : (pc : Int) + off = (tgt : Int)) (k : kJL Y cells slots L st tgt hx hm) : kJL Y cells slots L (.inl x :: st) pc hx hm :=
  fun ρx ρm H locs ls hI g0 g1 g2 hl => lv_tableIn hC.1 hC.2.1 hd h1 h2 ho ht (k ρx ρm H locs ls hI g0 g1 g2 hl)
theorem kl_switchOut (hC : kCL Y) {dflt lo hi : Int} {offs : Array Int} {len : Nat} {x : Int32} {tgt : Nat} (hd : decode cL_law pc = .ok (.tableswitch dflt lo hi offs, len)) (h : x.toInt < lo ∨ hi < x.toInt) (ht : (pc : Int) + dflt = (tgt : Int)) (k : kJL Y cells slots L st tgt hx hm) : kJL Y cells slots L (.inl x :: st) pc hx hm :=
  fun ρx ρm H locs ls hI g0 g1 g2 hl => lv_tableOut hC.1 hC.2.1 hd h ht (k ρx ρm H locs ls hI g0 g1 g2 hl)
theorem kl_lald (hC : kCL Y) {i : Int32} (hg : kd hx 36 = 22 ∧ ¬ (i < 0 ∨ kn hx 36 ≤ i.toNatClampNeg)) (hd : decode cL_law pc = .ok (.laload, 1)) (k : kJL Y cells slots L (.inr (.inl (kL hx 36 i.toNatClampNeg)) :: st) (pc + 1) hx hm) : kJL Y cells slots L (.inl i :: .inr (.inr (some 3)) :: st) pc hx hm := by
  intro ρx ρm H locs ls hI h0 h1 h2 hl
  obtain ⟨ha, hin⟩ := hg
  have hc := (hI.1.1 36 h1).2.2 .long (by rw [ha]; rfl)
  rw [ha] at hc
  exact W.lald hC.1 hC.2.1 hc ((hC.2.2.2.2.2.2.1.2.1 22 .long rfl).1 _ _) (fun q => by cases q) (karr_len _ _ _ hin) (karr_at _ _ _ hin) rfl rfl hd (k ρx ρm H locs ls hI h0 h1 h2 hl)
theorem kl_ret (hC : kCL Y) (hd : decode cL_law pc = .ok (.ireturn, 1)) (hc : cells ≤ 601024 ∧ slots ≤ 7293034) : kJL Y cells slots L [.inl 1] pc hx hm := by
  intro ρx ρm H locs ls hI h0 h1 h2 hl
  refine va_forget (fun q hq => hI.2.2.2.1.2.2 q hq) ?_
  refine W.widen hc.1 hc.2 ?_
  exact lw_ret hC.1 hC.2.1 hC.2.2.1 hC.2.2.2.2.2.2.2.2.2.2.2 hd
/-! calls: on the class's heap, or on the model's -/
theorem kRep.stay {G : KG} {ρ : Nat → Nat} {h : KH} {H H' : Heap} (hr : kRep G ρ h H) (hz : H.size ≤ H'.size) (ho : ∀ a, kd h a ≠ 0 → H'[ρ a]? = H[ρ a]?) : kRep G ρ h H' :=
  ⟨fun a ha => ⟨Nat.lt_of_lt_of_le (hr.1 a ha).1 hz, (hr.1 a ha).2.same rfl rfl rfl (fun _ _ => rfl) (ho a ha)⟩, hr.2.1, hr.2.2⟩
theorem kL2.back {ρ ρ' σ : Nat → Nat} {h g hc : KH} {H : Heap} {locs Lc : List Loc} {st₀ t T' : State} (hI : kL2 Y ρ h σ g H locs) (h0 : st₀.heap = H) (e1 : T'.heap = t.heap) (hE : kEnd (yG Y) (kA h ρ H.size) h ρ hc ρ' st₀ t) (hL : ∀ q ∈ Lc, kA h ρ H.size q.base) : kL2 Y ρ' hc σ g T'.heap (locs ++ Lc) := by
  obtain ⟨i1, i2, i3, i4, i5, i6⟩ := hI
  obtain ⟨j1, j2, j3, j4, j5⟩ := hE
  have hsub : ∀ q, kA h ρ H.size q → yA Y q := by
    intro q hq
    rcases hq with ⟨a, ha, rfl⟩ | hq
    · exact i5 a ha
    · exact Nat.le_trans i4.1 hq
  rw [h0] at j3 j4 j5
  have hnot : ∀ b, kd g b ≠ 0 → ¬ kA h ρ H.size (σ b) := fun b hb hq => by
    rcases hq with ⟨a, ha, he⟩ | hq
    · exact i3 a b ha hb he
    · exact absurd (i2.1 b hb).1 (Nat.not_lt.mpr hq)
  refine ⟨by rw [e1]; exact j1, i2.stay (by rw [e1]; exact j4) (fun a ha => by rw [e1]; exact j5 _ (i2.1 a ha).1 (hnot a ha)), fun a b ha hb he => ?_, ⟨Nat.le_trans i4.1 (by rw [e1]; exact j4), fun q h1 h2 => ?_, fun q hq => ?_⟩, fun a ha => ?_, i6⟩
  · by_cases hd : kd h a = 0
    · have := j3 a ha hd
      have := (i2.1 b hb).1
      omega
    · rw [(j2 a hd).2] at he
      exact i3 a b hd hb he
  · rw [e1, j5 q (Nat.lt_of_lt_of_le h1 i4.1) (fun z => h2 (hsub q z))]
    exact i4.2.1 q h1 h2
  · rcases List.mem_append.mp hq with h1 | h1
    · exact i4.2.2 q h1
    · exact hsub _ (hL q h1)
  · by_cases hd : kd h a = 0
    · exact Nat.le_trans i4.1 (j3 a ha hd)
    · rw [(j2 a hd).2]
      exact i5 a hd
theorem kPreL {ρ σ : Nat → Nat} {h g : KH} {H : Heap} {locs : List Loc} {vs : List Value} (hC : kCL Y) (hI : kL2 Y ρ h σ g H locs) : FrameBlind (va_Pc vs (fun U => U.heap.size = H.size ∧ kRep (yG Y) ρ h U.heap ∧ kK (yG Y) U ∧ kZ (kA h ρ H.size) U U.heap)) ∧ ∀ U : State, U.heap = H → (ys Y).WarmedH U.vm → va_Pc vs (fun U => U.heap.size = H.size ∧ kRep (yG Y) ρ h U.heap ∧ kK (yG Y) U ∧ kZ (kA h ρ H.size) U U.heap) vs.toArray U := by
  have hsub : ∀ q, kA h ρ H.size q → yA Y q := by
    intro q hq
    rcases hq with ⟨a, ha, rfl⟩ | hq
    · exact hI.2.2.2.2.1 a ha
    · exact Nat.le_trans hI.2.2.2.1.1 hq
  refine ⟨fun a U g mk q => ?_, fun U hU hW => ?_⟩
  · obtain ⟨q0, q1, q2, q3, q4, q5⟩ := q
    exact ⟨q0, q1, q2, q3.warm (U := U.calling g mk a) (State.WarmedH.refl U), vx_Zq.moved (u := U) (U := U.calling g mk a) (Vm.Alike.refl U.vm) q4, vx_Zq.moved (u := U) (U := U.calling g mk a) (Vm.Alike.refl U.vm) q5⟩
  · obtain ⟨z1, z2⟩ := hC.2.2.2.2.2.2.2.1
    have hK := hC.2.2.2.2.2.2.1.warm hW
    have hkept : ∀ a : Nat, a < (ys Y).heap.size → ¬ yA Y a → H[a]? = (ys Y).heap[a]? := fun a h1 h2 => hI.2.2.2.1.2.1 a h1 h2
    refine ⟨rfl, by rw [hU], by rw [hU]; exact hI.1, hK, ?_, ?_⟩
    · rw [hU]
      exact vx_Zq.moved hW.alike ((vx_Zq.kept z1 hkept).narrow hsub)
    · rw [hU]
      exact vx_Zq.moved hW.alike ((vx_Zq.kept z2 hkept).narrow hsub)
variable {β : Type} {encb : β → Option KV} {index maxL n D mcc msc : Nat} {y : MethodName} {bytes : ByteArray} {rt : Option FieldType} {v : β} {hc : KH} {wc : KO β}
theorem kcallL (hC : kCL Y) (hl : Cond.methodLink RL index y ∈ kT) (hy : kYok y bytes maxL rt n) (hroom : D + 1 ≤ 11 ∧ 19 + maxL ≤ 30) : CallB room_1 (ys Y) #[Value.ref (yb Y)] RL index y bytes maxL rt (Cond.code y bytes maxL rt :: kT) { frames := D, cells := mcc, slots := msc, locals := 30 * D } mcc msc n := by
  obtain ⟨h1, h2, h3, h4, h5⟩ := hy
  have hts : ∀ w ∈ kT, w.before #[Value.ref (yb Y)] (ys Y) = true := hC.2.2.2.2.2.1
  exact callB_of (ws' := kT) n hts (kT_goodc h2) rfl rfl rfl (hts _ h1) (hts _ hl) ⟨h3, h4, h5⟩ ⟨hroom.1, by show 8 + (maxL + 11) + 30 * D ≤ 390; omega⟩
theorem kFixL (hC : kCL Y) : CallFix (yp Y) (ym Y) (yc Y) cL_law 8 (ys Y) #[Value.ref (yb Y)] kT RL := ⟨hC.1, hC.2.1, hC.2.2.2.1, hC.2.2.2.2.1, hC.2.2.2.2.2.1⟩
/-- behind a call on the first heap that returned -/
theorem kl_go {ρ σ : Nat → Nat} {h g : KH} {H : Heap} {locs : List Loc} {ls : Array Slot} {st0 rest : List Value} {va : Array Value}
    (hr : vx_Run (yp Y) (yl Y) (ye Y) room_1 (ys Y) (ym Y) #[Value.ref (yb Y)] (ybe Y) (yme Y) (yc Y) H locs cells slots mcc msc (F0 (ym Y) pc ls st0) rest (kQc encb (yG Y) (kA h ρ H.size) h ρ (.inr v) hc va) (kXC (α := β) (yG Y) (kA h ρ H.size) h ρ (.inr v) hc) (kA h ρ H.size))
    (hI : kL2 Y ρ h σ g H locs)
    (kk : ∀ (ρ' : Nat → Nat) (H' : Heap) (locs' : List Loc), kL2 Y ρ' hc σ g H' locs' → (∀ a, kd h a ≠ 0 → kd hc a = kd h a ∧ ρ' a = ρ a) → kWL Y (cells + mcc) (slots + msc) H' locs' (F0 (ym Y) (pc + 3) ls (((encb v).map (ktr ρ')).toList ++ rest))) : kWL Y cells slots H locs (F0 (ym Y) pc ls st0) := by
  intro T hT0 Xs
  rcases hr T hT0 Xs with ⟨v0, st₀, t, T', Lc, h0, X', hL, e1, e2, ⟨u, ρ', hu, hv, hok, hE⟩, stp⟩ | ⟨q, st₀, t, T', Lc, E, ce, h0, X', hL, e1, e2, ⟨e, ρ', he, hEx, hE⟩, hce, hcv, hcl, stp⟩
  · cases hu
    cases hv
    obtain ⟨t2, a1, b1⟩ := kk ρ' T'.heap (locs ++ Lc) (hI.back h0 e1 hE hL) hE.2.1 T' rfl X'
    exact ⟨t2, stp t2 a1, b1⟩
  · cases he
def kpure (u : Option KV) : Prop := ∀ o, u ≠ some (.inr (.inr o))
theorem kpure_tr {u : Option KV} (h : kpure u) (ρ ρ' : Nat → Nat) : u.map (ktr ρ) = u.map (ktr ρ') := by
  rcases u with _ | x | x | o
  · rfl
  · rfl
  · rfl
  · exact (h o rfl).elim
theorem klargs {as : List KV} (h : ∀ v ∈ as, ∀ o, v ≠ .inr (.inr o)) (ρ ρ' : Nat → Nat) : as.map (ktr ρ) = as.map (ktr ρ') := by
  apply List.map_congr_left
  intro v hv
  rcases v with x | x | o
  · rfl
  · rfl
  · exact (h _ hv o rfl).elim
theorem kok_args {as : List KV} {h : KH} (h1 : ∀ v ∈ as, ∀ o, v ≠ .inr (.inr o)) : ∀ v ∈ as, kOk h v := fun v hv a e => (h1 v hv _ e).elim
/-- x.m(..), the class's own method, that returns -/
theorem kl_invX {as rest : List KV} (hC : kCL Y) (hd : decode cL_law pc = .ok (.invokevirtual index, 3)) (hl : Cond.methodLink RL index y ∈ kT) (hy : kYok y bytes maxL rt n) (hy2 : Cond.instanceMethod y ∈ kT ∧ Cond.selects y.cls y y ∈ kT) (hyc : y.cls = RX9) (hkd : kd hx 0 = 10)
    (hM : kM y bytes maxL rt D mcc msc encb (.inr (.inr (some 0)) :: as) hx wc) (hwc : wc = some (.inr v, hc)) (hn : as.length = n) (has : ∀ v ∈ as, ∀ o, v ≠ .inr (.inr o)) (hst : as.reverse ++ .inr (.inr (some 1)) :: rest = st) (hcat : (rest.map kcat).sum ≤ 8) (hroom : D + 1 ≤ 11 ∧ 19 + maxL ≤ 30) (hb : cells + mcc ≤ 601024 ∧ slots + msc ≤ 7293034) (hp : kpure (encb v))
    (kk : kJL Y (cells + mcc) (slots + msc) L ((encb v).toList ++ rest) (pc + 3) hc hm) : kJL Y cells slots L st pc hx hm := by
  subst hst
  intro ρx ρm H locs ls hI h0 h1 h2 hlv
  have hts : ∀ w ∈ kT, w.before #[Value.ref (yb Y)] (ys Y) = true := hC.2.2.2.2.2.1
  have hMl := hM (yl Y) (yG Y) ρx H.size (.inr v) hc hC.2.2.2.2.2.2.2.2.1 hwc (fun u hu => by
    rcases List.mem_cons.mp hu with rfl | hu
    · exact kOk_r h0
    · exact kok_args has u hu)
  obtain ⟨cell, q1, q2, q3, -⟩ := (hI.1.1 0 h0).2.1 9 _ rfl hkd
  have hfc := (hC.2.2.2.2.2.2.1.1 9 _ rfl).2.1
  obtain ⟨p1, p2⟩ := kPreL (vs := (.inr (.inr (some 0)) :: as : List KV).map (ktr ρx)) hC hI
  have hr := vx_runV (p := yp Y) (l := yl Y) (e := ye Y) (R := room_1) (s := ys Y) (m := ym Y) (args := #[Value.ref (yb Y)]) (below := ybe Y) (meth := yme Y) (c := yc Y) (H := H) (locs := locs) (cells := cells) (slots := slots) (b := ρx 0) (As := as.map (ktr ρx)) (rest := rest.map (ktr (kρL Y ρx ρm))) (g := F0 (ym Y) pc ls ((as.reverse ++ .inr (.inr (some 1)) :: rest).map (ktr (kρL Y ρx ρm))))
    (kFixL hC) hMl (C := y.cls) ⟨kcallL (n := n) hC hl hy hroom, hts _ hy2.1, hts _ hy2.2⟩ ⟨p1, ⟨cell, q1, by rw [q3]; rfl, by rw [q2, hyc]; exact hfc⟩, p2⟩ rfl (by rw [List.length_map]; exact hn) hlv.1 (by
      show ((as.reverse ++ .inr (.inr (some 1)) :: rest)).map (ktr (kρL Y ρx ρm)) = _
      rw [List.map_append, krev, klargs has (kρL Y ρx ρm) ρx]; rfl) (lv_room (by rw [kcat_sum]; exact hcat)) hd hb
  refine kl_go hr hI (fun ρ' H' locs' hI' hag => ?_)
  have eρ : kρL Y ρ' ρm = kρL Y ρx ρm := by
    funext t
    unfold kρL
    split
    · rfl
    · exact (hag 0 h0).2
    · rfl
    · exact (hag 36 h1).2
  have hg := kk ρ' ρm H' locs' ls hI' (by rw [(hag 0 h0).1]; exact h0) (by rw [(hag 36 h1).1]; exact h1) h2 (by rw [eρ]; exact hlv)
  rw [eρ, List.map_append] at hg
  have e2 : ((encb v).map (ktr ρ')).toList = ((encb v).toList).map (ktr (kρL Y ρx ρm)) := by
    rw [kpure_tr hp ρ' (kρL Y ρx ρm)]
    cases encb v <;> rfl
  rw [e2]
  exact hg
/-- m.m(..), the model's method -/
theorem kl_invM {as rest : List KV} (hC : kCL Y) (hd : decode cL_law pc = .ok (.invokevirtual index, 3)) (hl : Cond.methodLink RL index y ∈ kT) (hy : kYok y bytes maxL rt n) (hy2 : Cond.instanceMethod y ∈ kT ∧ Cond.selects y.cls y y ∈ kT) (hyc : y.cls = RX10) (hkd : kd hm 0 = 11)
    (hM : kM y bytes maxL rt D mcc msc encb (.inr (.inr (some 0)) :: as) hm wc) (hwc : wc = some (.inr v, hc)) (hn : as.length = n) (has : ∀ v ∈ as, ∀ o, v ≠ .inr (.inr o)) (hst : as.reverse ++ .inr (.inr (some 2)) :: rest = st) (hcat : (rest.map kcat).sum ≤ 8) (hroom : D + 1 ≤ 11 ∧ 19 + maxL ≤ 30) (hb : cells + mcc ≤ 601024 ∧ slots + msc ≤ 7293034) (hp : kpure (encb v))
    (kk : kJL Y (cells + mcc) (slots + msc) L ((encb v).toList ++ rest) (pc + 3) hx hc) : kJL Y cells slots L st pc hx hm := by
  subst hst
  intro ρx ρm H locs ls hI h0 h1 h2 hlv
  have hts : ∀ w ∈ kT, w.before #[Value.ref (yb Y)] (ys Y) = true := hC.2.2.2.2.2.1
  have hMl := hM (yl Y) (yG Y) ρm H.size (.inr v) hc hC.2.2.2.2.2.2.2.2.1 hwc (fun u hu => by
    rcases List.mem_cons.mp hu with rfl | hu
    · exact kOk_r h2
    · exact kok_args has u hu)
  obtain ⟨cell, q1, q2, q3, -⟩ := (hI.2.1.1 0 h2).2.1 10 _ rfl hkd
  have hfc := (hC.2.2.2.2.2.2.1.1 10 _ rfl).2.1
  obtain ⟨p1, p2⟩ := kPreL (vs := (.inr (.inr (some 0)) :: as : List KV).map (ktr ρm)) hC hI.swap
  have hr := vx_runV (p := yp Y) (l := yl Y) (e := ye Y) (R := room_1) (s := ys Y) (m := ym Y) (args := #[Value.ref (yb Y)]) (below := ybe Y) (meth := yme Y) (c := yc Y) (H := H) (locs := locs) (cells := cells) (slots := slots) (b := ρm 0) (As := as.map (ktr ρm)) (rest := rest.map (ktr (kρL Y ρx ρm))) (g := F0 (ym Y) pc ls ((as.reverse ++ .inr (.inr (some 2)) :: rest).map (ktr (kρL Y ρx ρm))))
    (kFixL hC) hMl (C := y.cls) ⟨kcallL (n := n) hC hl hy hroom, hts _ hy2.1, hts _ hy2.2⟩ ⟨p1, ⟨cell, q1, by rw [q3]; rfl, by rw [q2, hyc]; exact hfc⟩, p2⟩ rfl (by rw [List.length_map]; exact hn) hlv.1 (by
      show ((as.reverse ++ .inr (.inr (some 2)) :: rest)).map (ktr (kρL Y ρx ρm)) = _
      rw [List.map_append, krev, klargs has (kρL Y ρx ρm) ρm]; rfl) (lv_room (by rw [kcat_sum]; exact hcat)) hd hb
  refine kl_go hr hI.swap (fun ρ' H' locs' hI' hag => ?_)
  have eρ : kρL Y ρx ρ' = kρL Y ρx ρm := by
    funext t
    unfold kρL
    split
    · rfl
    · rfl
    · exact (hag 0 h2).2
    · rfl
  have hg := kk ρx ρ' H' locs' ls hI'.swap h0 h1 (by rw [(hag 0 h2).1]; exact h2) (by rw [eρ]; exact hlv)
  rw [eρ, List.map_append] at hg
  have e2 : ((encb v).map (ktr ρ')).toList = ((encb v).toList).map (ktr (kρL Y ρx ρm)) := by
    rw [kpure_tr hp ρ' (kρL Y ρx ρm)]
    cases encb v <;> rfl
  rw [e2]
  exact hg
/-- a wrapper: m(x, .., out) -/
theorem kl_wrap {as : List KV} {hh : List (Nat × Nat × Nat × Nat)} {w1 : KO Int32} {kx : Int32} (hC : kCL Y) (hd : decode cL_law pc = .ok (.invokestatic index, 3)) (hl : Cond.methodLink RL index y ∈ kT) (hi : Cond.initialized y.cls ∈ kT) (hcode : Cond.codeWith y bytes maxL (some .int) hh ∈ kT) (hs : Cond.static y ∈ kT) (hy3 : y.cls ≠ "java/lang/invoke/MethodHandle" ∧ y.cls ≠ "java/lang/invoke/VarHandle") {N : Nat} (hN : as.length + 2 = N) (hpar : (parseMethodDescriptor y.desc).map (fun d => d.parameters.length) = some N)
    (hM : kMX y bytes maxL (some .int) hh D mcc msc encI (.inr (.inr (some 0)) :: as ++ [.inr (.inr (some 36))]) hx w1) (hwc : w1 = some (.inr kx, hc)) (has : ∀ v ∈ as, ∀ o, v ≠ .inr (.inr o)) (hst : .inr (.inr (some 3)) :: as.reverse ++ [.inr (.inr (some 1))] = st) (hroom : D + 1 ≤ 11 ∧ 19 + maxL ≤ 30) (hb : cells + mcc ≤ 601024 ∧ slots + msc ≤ 7293034)
    (kk : kJL Y (cells + mcc) (slots + msc) L [.inl kx] (pc + 3) hc hm) : kJL Y cells slots L st pc hx hm := by
  subst hN
  subst hst
  intro ρx ρm H locs ls hI h0 h1 h2 hlv
  have hts : ∀ w ∈ kT, w.before #[Value.ref (yb Y)] (ys Y) = true := hC.2.2.2.2.2.1
  have hMl := hM (yl Y) (yG Y) ρx H.size (.inr kx) hc hC.2.2.2.2.2.2.2.2.1 hwc (fun u hu => by
    rcases List.mem_append.mp hu with hu | hu
    · rcases List.mem_cons.mp hu with rfl | hu
      · exact kOk_r h0
      · exact kok_args has u hu
    · obtain rfl := List.mem_singleton.mp hu
      exact kOk_r h1)
  obtain ⟨p1, p2⟩ := kPreL (vs := (.inr (.inr (some 0)) :: as ++ [.inr (.inr (some 36))] : List KV).map (ktr ρx)) hC hI
  have hn : (as.length + 2) = ((.inr (.inr (some 0)) :: as ++ [.inr (.inr (some 36))] : List KV).map (ktr ρx)).length := by simp
  have cw : vx_CSW room_1 (ys Y) #[Value.ref (yb Y)] RL index y bytes maxL (some .int) hh (Cond.codeWith y bytes maxL (some .int) hh :: kT) { frames := D, cells := mcc, slots := msc, locals := 30 * D } mcc msc (as.length + 2) := by
    refine ⟨⟨rfl, rfl, hroom.1, by show 8 + (maxL + 11) + 30 * D ≤ 390; omega, pay_in hts (kT_goodc hcode), List.mem_cons_self⟩, hts _ hcode, hts _ hi, hy3, fun sig hsig => ?_, hts _ hl, hts _ hs⟩
    rw [hsig] at hpar
    exact (Option.some.inj hpar).symm
  have hr := vx_runSX (p := yp Y) (l := yl Y) (e := ye Y) (R := room_1) (s := ys Y) (m := ym Y) (args := #[Value.ref (yb Y)]) (below := ybe Y) (meth := yme Y) (c := yc Y) (H := H) (locs := locs) (cells := cells) (slots := slots) (As := (.inr (.inr (some 0)) :: as ++ [.inr (.inr (some 36))] : List KV).map (ktr ρx)) (rest := []) (g := F0 (ym Y) pc ls ((.inr (.inr (some 3)) :: as.reverse ++ [.inr (.inr (some 1))] : List KV).map (ktr (kρL Y ρx ρm))))
    (kFixL hC) hMl cw ⟨p1, p2⟩ rfl hn.symm hlv.1 (by
      show (.inr (.inr (some 3)) :: as.reverse ++ [.inr (.inr (some 1))] : List KV).map (ktr (kρL Y ρx ρm)) = _
      rw [List.append_nil, ← List.map_reverse]
      have hrv : (.inr (.inr (some 0)) :: as ++ [.inr (.inr (some 36))] : List KV).reverse = .inr (.inr (some 36)) :: as.reverse ++ [.inr (.inr (some 0))] := by simp
      rw [hrv, List.map_append, List.map_append, List.map_cons, List.map_cons, klargs (as := as.reverse) (fun v hv => has v (List.mem_reverse.mp hv)) (kρL Y ρx ρm) ρx]
      rfl) (lv_room (by exact Nat.zero_le _)) hd hb
  refine kl_go hr hI (fun ρ' H' locs' hI' hag => ?_)
  have eρ : kρL Y ρ' ρm = kρL Y ρx ρm := by
    funext t
    unfold kρL
    split
    · rfl
    · exact (hag 0 h0).2
    · rfl
    · exact (hag 36 h1).2
  have hg := kk ρ' ρm H' locs' ls hI' (by rw [(hag 0 h0).1]; exact h0) (by rw [(hag 36 h1).1]; exact h1) h2 (by rw [eρ]; exact hlv)
  exact hg
end KLAW
