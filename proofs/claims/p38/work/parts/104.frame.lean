/-! the words: those of the tables that every later state keeps -/
def kT : List Cond := lw_tbl.filter goodWord
theorem kT_of {w : Cond} (i : Nat) (h : lw_tbl[i]? = some w) (hg : goodWord w = true) : w ∈ kT := List.mem_filter.mpr ⟨List.mem_of_getElem? h, hg⟩
theorem kT_good : GoodIn kT kT := fun w h => ⟨h, good_of_word (List.mem_filter.mp h).2⟩
theorem kT_goodc {w : Cond} (h : w ∈ kT) : GoodIn kT (w :: kT) := fun w' h' => by
  rcases List.mem_cons.mp h' with rfl | h'
  · exact kT_good _ h
  · exact kT_good _ h'
abbrev KG : Type := va_G × (Nat → ClassId)
def ktr (ρ : Nat → Nat) (v : KV) : Value := match v with
  | .inl x => .int x
  | .inr (.inl x) => .long x
  | .inr (.inr o) => va_rf (o.map ρ)
def kcat (v : KV) : Nat := match v with
  | .inr (.inl _) => 2
  | _ => 1
theorem kcat_ok (ρ : Nat → Nat) (v : KV) : (ktr ρ v).category = kcat v := by
  rcases v with x | x | _ | a <;> rfl
theorem kcat_sum (ρ : Nat → Nat) (st : List KV) : ((st.map (ktr ρ)).map fun v => v.category).sum = (st.map kcat).sum := by
  rw [List.map_map]
  congr 1
  exact List.map_congr_left fun v _ => kcat_ok ρ v
def kV (ρ : Nat → Nat) (h : KH) (a k s : Nat) : Value := match s with
  | 0 => .int (kI h a k)
  | 1 => .long (kL h a k)
  | _ => va_rf ((kR h a k).map ρ)
/-- the script's row: read, never written -/
def kScr (G : KG) (b n : Nat) (x : Nat → Int32) (H : Heap) : Prop := ∃ scr : Cell, H[b]? = some scr ∧ scr.cls = G.2 32 ∧ (∀ k, scr.vm ≠ .statics k) ∧ scr.vm ≠ .unknown ∧ scr.slots.size = n ∧ ∀ j, j < n → scr.slots[j]? = some (.int (x j))
def kAt (G : KG) (ρ : Nat → Nat) (h : KH) (a : Nat) (H : Heap) : Prop :=
  (∀ (ci : Nat) (q : vw_C), kvCl[ci]? = some q → kd h a = ci + 1 → t_OB (ρ a) (G.1.1 ci) q.2.2 (G.1.2 ci) H (fun k => kV ρ h a k (ksrt (kFt ci k)))) ∧
  (∀ ty, kTy (kd h a) = some ty → H[ρ a]? = some (arrV (G.2 (kd h a)) (kn h a) (fun k => kV ρ h a k (ksrt ty)))) ∧
  (kd h a = 32 → kScr G (ρ a) (kn h a) (fun k => kI h a k) H)
def kRep (G : KG) (ρ : Nat → Nat) (h : KH) (H : Heap) : Prop :=
  (∀ a, kd h a ≠ 0 → ρ a < H.size ∧ kAt G ρ h a H) ∧ (∀ a b, kd h a ≠ 0 → kd h b ≠ 0 → ρ a = ρ b → a = b) ∧ ∀ a k b, kd h a ≠ 0 → kR h a k = some b → kd h b ≠ 0
theorem kTy_obj {ci : Nat} {q : vw_C} (h : kvCl[ci]? = some q) : kTy (ci + 1) = none := by
  have h1 : ci < 10 := (List.getElem?_eq_some_iff.mp h).1
  have h2 : ∀ i, i < 10 → (kTy (i + 1)).isNone = true := by decide
  exact Option.isNone_iff_eq_none.mp (h2 ci h1)
theorem kTy_32 {c : Nat} {ty : FieldType} (h : kTy c = some ty) : c ≠ 32 := by
  rintro rfl
  cases h
theorem kTy_arr {c : Nat} {ty : FieldType} (h : kTy c = some ty) : 21 ≤ c := by
  unfold kTy at h
  split at h
  all_goals first
    | (cases h; done)
    | omega
theorem kCl_lt {ci : Nat} {q : vw_C} (h : kvCl[ci]? = some q) : ci < 10 := (List.getElem?_eq_some_iff.mp h).1
theorem kAt.same {G : KG} {ρ ρ' : Nat → Nat} {h h' : KH} {a : Nat} {H H' : Heap} (hA : kAt G ρ h a H) (e0 : ρ' a = ρ a) (e1 : kd h' a = kd h a) (e2 : kn h' a = kn h a) (e3 : ∀ k s, kV ρ' h' a k s = kV ρ h a k s) (e4 : H'[ρ a]? = H[ρ a]?) : kAt G ρ' h' a H' := by
  refine ⟨fun ci q hq hk => ?_, fun ty hty => ?_, fun h32 => ?_⟩
  · rw [e0]
    exact ((hA.1 ci q hq (by rw [← e1]; exact hk)).kept e4).to (fun k _ => (e3 k _).symm)
  · rw [e0, e4, hA.2.1 ty (by rw [← e1]; exact hty), e1, e2]
    congr 2
    funext k
    exact (e3 k _).symm
  · have hx : (fun k => kI h' a k) = fun k => kI h a k := by
      funext k
      exact Value.int.inj (e3 k 0)
    rw [hx, e0, e2]
    obtain ⟨scr, g1, g2⟩ := hA.2.2 (by rw [← e1]; exact h32)
    exact ⟨scr, by rw [e4]; exact g1, g2⟩
/-- one cell is written -/
theorem kRep.upd {G : KG} {ρ : Nat → Nat} {h h' : KH} {H H' : Heap} (hr : kRep G ρ h H) (a : Nat) (ha : kd h a ≠ 0) (e1 : kd h' = kd h) (e2 : ∀ b, b ≠ a → kn h' b = kn h b ∧ kI h' b = kI h b ∧ kL h' b = kL h b ∧ kR h' b = kR h b)
    (hz : H'.size = H.size) (ho : ∀ q : Nat, q ≠ ρ a → H'[q]? = H[q]?) (hat : kAt G ρ h' a H') (hok : ∀ k b, kR h' a k = some b → kd h b ≠ 0) : kRep G ρ h' H' := by
  obtain ⟨r1, r2, r3⟩ := hr
  refine ⟨fun b hb => ?_, fun b d hb hd => r2 b d (by rw [← e1]; exact hb) (by rw [← e1]; exact hd), fun b k d hb hk => ?_⟩
  · rw [e1] at hb
    refine ⟨by rw [hz]; exact (r1 b hb).1, ?_⟩
    by_cases hba : b = a
    · subst hba
      exact hat
    · obtain ⟨f1, f2, f3, f4⟩ := e2 b hba
      refine (r1 b hb).2.same rfl (by rw [e1]) f1 (fun k s => ?_) (ho _ fun e => hba (r2 b a hb ha e))
      unfold kV
      rw [f2, f3, f4]
  · rw [e1] at hb ⊢
    by_cases hba : b = a
    · subst hba
      exact hok k d hk
    · rw [(e2 b hba).2.2.2] at hk
      exact r3 b k d hb hk
/-- a value put at a place -/
def kset (h : KH) (a k : Nat) (v : KV) : KH := match v with
  | .inl x => sI h a k x
  | .inr (.inl x) => sL h a k x
  | .inr (.inr o) => sR h a k o
def ksrtV (v : KV) : Nat := match v with
  | .inl _ => 0
  | .inr (.inl _) => 1
  | .inr (.inr _) => 2
def kOk (h : KH) (v : KV) : Prop := ∀ a, v = .inr (.inr (some a)) → kd h a ≠ 0
theorem kset_kd (h : KH) (a k : Nat) (v : KV) : kd (kset h a k v) = kd h := by rcases v with x | x | o <;> rfl
theorem kset_ne (h : KH) (a k : Nat) (v : KV) {b : Nat} (hb : b ≠ a) : kn (kset h a k v) b = kn h b ∧ kI (kset h a k v) b = kI h b ∧ kL (kset h a k v) b = kL h b ∧ kR (kset h a k v) b = kR h b := by
  rcases v with x | x | o <;> refine ⟨rfl, ?_, ?_, ?_⟩ <;> first | rfl | (funext j; simp [kset, kI_sI, kL_sL, kR_sR, hb])
theorem kset_n (h : KH) (a k : Nat) (v : KV) : kn (kset h a k v) = kn h := by rcases v with x | x | o <;> rfl
/-- what is read behind a write, of places of the same sort -/
theorem kset_V (ρ : Nat → Nat) (h : KH) (a k : Nat) (v : KV) (j s : Nat) (hs : j = k → s = ksrtV v) : kV ρ (kset h a k v) a j s = updV (fun j => kV ρ h a j s) k (ktr ρ v) j := by
  unfold updV
  by_cases hj : j = k
  · rw [if_pos hj]
    subst hj
    rw [hs rfl]
    rcases v with x | x | o <;> simp [kV, kset, ksrtV, ktr, kI_sI, kL_sL, kR_sR]
  · rw [if_neg hj]
    rcases v with x | x | o <;> unfold kV kset <;> split <;> simp [kI_sI, kL_sL, kR_sR, kI_sL, kI_sR, kL_sI, kL_sR, kR_sI, kR_sL, hj]
theorem kset_R (h : KH) (a k : Nat) (v : KV) (hv : kOk h v) (hr : ∀ k b, kR h a k = some b → kd h b ≠ 0) : ∀ j b, kR (kset h a k v) a j = some b → kd h b ≠ 0 := by
  intro j b hb
  rcases v with x | x | o
  · exact hr j b hb
  · exact hr j b hb
  · rw [show kset h a k (.inr (.inr o)) = sR h a k o from rfl, kR_sR] at hb
    by_cases hj : j = k
    · rw [if_pos ⟨rfl, hj⟩] at hb
      subst hb
      exact hv b rfl
    · rw [if_neg (fun q => hj q.2)] at hb
      exact hr j b hb
/-! what the tables say of the classes -/
def kNest : List Cond := lw_tbl.filter (fun w => match w with
  | .methodLinkNest .. => true
  | .fieldLinkNest .. => true
  | .castable .. => true
  | .declares .. => true
  | _ => false)
def kExs : List String := ["java/lang/IllegalArgumentException", "java/lang/IllegalStateException", "java/lang/IndexOutOfBoundsException", "java/util/NoSuchElementException"]
/-- those that the law catches -/
def kExc : List String := ["java/lang/IllegalArgumentException", "java/lang/IllegalStateException", "java/lang/IndexOutOfBoundsException"]
def kArr : List String := ["Tollkeeper$Plate", "Tollkeeper$Reading", "Tollkeeper$Warrant", "Tollkeeper$Answer"]
def kK (G : KG) (U : State) : Prop :=
  (∀ (ci : Nat) (q : vw_C), kvCl[ci]? = some q → u_Kn U q.1 q.2.1 q.2.2 (G.1.1 ci) (G.1.2 ci)) ∧
  (∀ (t : Nat) (ty : FieldType), kTy t = some ty → ArrOfT U (G.2 t) ty ∧ va_RA U (G.2 t) ty) ∧
  (∀ w ∈ kNest, va_Nw w U) ∧ (∀ C ∈ kArr, va_AO C U) ∧ (Cond.arrayOver (.array .int)).before #[] U = true ∧
  (∀ (own : String) (k : Nat) (tx : String), Cond.stringRef own k tx ∈ lw_tbl → ∃ a, vk_R own k tx a U) ∧
  (∀ C ∈ kExs, ∀ D ∈ kExc, C ≠ D → va_Nc C D U) ∧ ArrOfT U (G.2 32) .int
def kZ (A : Nat → Prop) (U : State) (H : Heap) : Prop := vx_Zq Bundle.tN "UNASSIGNED_STACK" Bundle.steD A U H ∧ vx_Zq Bundle.tN "SUPPRESSED_SENTINEL" Bundle.listD A U H
def kOks (h : KH) (L : List (Nat × KV)) (st : List KV) : Prop := (∀ q ∈ L, kOk h q.2) ∧ ∀ v ∈ st, kOk h v
def kEx (e : Nat) : String := match e with
  | 1 => "java/lang/IllegalArgumentException"
  | 2 => "java/lang/IllegalStateException"
  | 3 => "java/lang/IndexOutOfBoundsException"
  | _ => "java/util/NoSuchElementException"
def kEnd (G : KG) (A : Nat → Prop) (h0 : KH) (ρ0 : Nat → Nat) (h' : KH) (ρ' : Nat → Nat) (st t : State) : Prop :=
  kRep G ρ' h' t.heap ∧ (∀ a, kd h0 a ≠ 0 → kd h' a = kd h0 a ∧ ρ' a = ρ0 a) ∧ (∀ a, kd h' a ≠ 0 → kd h0 a = 0 → st.heap.size ≤ ρ' a) ∧ va_F A st t
def kQc {α : Type} (enc : α → Option KV) (G : KG) (A : Nat → Prop) (h0 : KH) (ρ0 : Nat → Nat) (r : Nat ⊕ α) (h' : KH) : Array Value → State → Outcome → State → Prop := fun _ st o t =>
  ∃ (v : α) (ρ' : Nat → Nat), r = .inr v ∧ o = .returned ((enc v).map (ktr ρ')) ∧ (∀ u, enc v = some u → kOk h' u) ∧ kEnd G A h0 ρ0 h' ρ' st t
def kXC {α : Type} (G : KG) (A : Nat → Prop) (h0 : KH) (ρ0 : Nat → Nat) (r : Nat ⊕ α) (h' : KH) : String → State → State → Prop := fun E st t =>
  ∃ (e : Nat) (ρ' : Nat → Nat), r = .inl e ∧ E = kEx e ∧ kEnd G A h0 ρ0 h' ρ' st t
/-! a point of a method's walk -/
abbrev KX : Type := Program × Launch × Env × Room × State × MethodId × Array Value × List Frame × Method × Code × KG × (Nat → Prop) × KH × (Nat → Nat) × Nat × Nat × Nat
abbrev xp (X : KX) : Program := X.1
abbrev xl (X : KX) : Launch := X.2.1
abbrev xe (X : KX) : Env := X.2.2.1
abbrev xR (X : KX) : Room := X.2.2.2.1
abbrev xs (X : KX) : State := X.2.2.2.2.1
abbrev xm (X : KX) : MethodId := X.2.2.2.2.2.1
abbrev xar (X : KX) : Array Value := X.2.2.2.2.2.2.1
abbrev xbe (X : KX) : List Frame := X.2.2.2.2.2.2.2.1
abbrev xme (X : KX) : Method := X.2.2.2.2.2.2.2.2.1
abbrev xc (X : KX) : Code := X.2.2.2.2.2.2.2.2.2.1
abbrev xG (X : KX) : KG := X.2.2.2.2.2.2.2.2.2.2.1
abbrev xA (X : KX) : Nat → Prop := X.2.2.2.2.2.2.2.2.2.2.2.1
abbrev xh (X : KX) : KH := X.2.2.2.2.2.2.2.2.2.2.2.2.1
abbrev xr (X : KX) : Nat → Nat := X.2.2.2.2.2.2.2.2.2.2.2.2.2.1
abbrev xmc (X : KX) : Nat := X.2.2.2.2.2.2.2.2.2.2.2.2.2.2.1
abbrev xms (X : KX) : Nat := X.2.2.2.2.2.2.2.2.2.2.2.2.2.2.2.1
abbrev xD (X : KX) : Nat := X.2.2.2.2.2.2.2.2.2.2.2.2.2.2.2.2
def kC (X : KX) (own : String) (cc : ByteArray) (nL : Nat) (ret : Option FieldType) : Prop :=
  (xp X).tables.exec = Jvm.exec ∧ (xc X).code = cc ∧ (xc X).maxLocals = nL ∧ (xme X).sig.returnType = ret ∧ (xme X).locks = false ∧ (xs X).vm.findClass own = some (xm X).cls ∧
  (∀ w ∈ kT, w.before (xar X) (xs X) = true) ∧ kK (xG X) (xs X) ∧ kZ (xA X) (xs X) (xs X).heap ∧ (xl X).stackTraces = false ∧ (∀ q, (xs X).heap.size ≤ q → (xA X) q) ∧
  ((xD X) ≤ (xR X).frames ∧ 40 * (xD X) ≤ (xR X).locals ∧ (xmc X) ≤ (xR X).cells ∧ (xms X) ≤ (xR X).slots)
def kInv (X : KX) (ρ : Nat → Nat) (h : KH) (H : Heap) (locs : List Loc) : Prop :=
  kRep (xG X) ρ h H ∧ va_S (xA X) (xs X).heap H locs ∧ (∀ a, kd h a ≠ 0 → kd h a ≠ 32 → (xA X) (ρ a)) ∧ (∀ a, kd (xh X) a ≠ 0 → kd h a = kd (xh X) a ∧ ρ a = (xr X) a) ∧ (∀ a, kd h a ≠ 0 → kd (xh X) a = 0 → (xs X).heap.size ≤ ρ a)
def kFin {α : Type} (X : KX) (enc : α → Option KV) (r : Nat ⊕ α) (h' : KH) : State → Prop :=
  vx_MQ (xbe X) (kQc enc (xG X) (xA X) (xh X) (xr X) r h') (kXC (xG X) (xA X) (xh X) (xr X) r h') (xar X) (xs X) (xmc X) (xms X) (xA X)
def klv (ρ : Nat → Nat) (L : List (Nat × KV)) : List (Nat × Value) := L.map (fun q => (q.1, ktr ρ q.2))
abbrev kW {α : Type} (X : KX) (enc : α → Option KV) (cells slots : Nat) (r : Nat ⊕ α) (h' : KH) (H : Heap) (locs : List Loc) (g : JFrame) : Prop :=
  W (xp X) (xl X) (xe X) (xR X) (xs X) (xm X) (xar X) (xbe X) (xme X) (xc X) H locs cells slots (kFin X enc r h') g
def kJ {α : Type} (X : KX) (enc : α → Option KV) (nL cells slots : Nat) (L : List (Nat × KV)) (st : List KV) (pc : Nat) (h : KH) (w : KO α) : Prop :=
  ∀ (r : Nat ⊕ α) (h' : KH), w = some (r, h') → ∀ (ρ : Nat → Nat) (H : Heap) (locs : List Loc) (ls : Array Slot), kInv X ρ h H locs → lv_has ls nL (klv ρ L) → kOks h L st →
    kW X enc cells slots r h' H locs (F0 (xm X) pc ls (st.map (ktr ρ)))
theorem kOks.push {h : KH} {L : List (Nat × KV)} {st : List KV} {v : KV} (hk : kOks h L st) (hv : kOk h v) : kOks h L (v :: st) := ⟨hk.1, fun u hu => by
  rcases List.mem_cons.mp hu with rfl | hu
  · exact hv
  · exact hk.2 u hu⟩
theorem kOks.tail {h : KH} {L : List (Nat × KV)} {st : List KV} {v : KV} (hk : kOks h L (v :: st)) : kOks h L st := ⟨hk.1, fun u hu => hk.2 u (List.mem_cons_of_mem _ hu)⟩
theorem kOks.head {h : KH} {L : List (Nat × KV)} {st : List KV} {v : KV} (hk : kOks h L (v :: st)) : kOk h v := hk.2 v List.mem_cons_self
theorem kOks.loc {h : KH} {L : List (Nat × KV)} {st : List KV} {k i : Nat} {v : KV} (hk : kOks h L st) (hl : L[k]? = some (i, v)) : kOk h v := hk.1 (i, v) (List.mem_of_getElem? hl)
theorem kOk_i (h : KH) (x : Int32) : kOk h (.inl x) := fun _ q => by cases q
theorem kOk_l (h : KH) (x : Int64) : kOk h (.inr (.inl x)) := fun _ q => by cases q
theorem kOk_n (h : KH) : kOk h (.inr (.inr none)) := fun _ q => by cases q
theorem kOk_r {h : KH} {a : Nat} (ha : kd h a ≠ 0) : kOk h (.inr (.inr (some a))) := fun b q => by cases q; exact ha
theorem kOk.mono {h h' : KH} {v : KV} (hv : kOk h v) (hk : ∀ a, kd h a ≠ 0 → kd h' a ≠ 0) : kOk h' v := fun a q => hk a (hv a q)
theorem kOks.mono {h h' : KH} {L : List (Nat × KV)} {st : List KV} (hs : kOks h L st) (hk : ∀ a, kd h a ≠ 0 → kd h' a ≠ 0) : kOks h' L st := ⟨fun q hq => (hs.1 q hq).mono hk, fun v hv => (hs.2 v hv).mono hk⟩
theorem kOks.eq {h h' : KH} {L : List (Nat × KV)} {st : List KV} (hs : kOks h L st) (hk : kd h' = kd h) : kOks h' L st := hs.mono (fun a q => by rw [hk]; exact q)
theorem klv_at {ρ : Nat → Nat} {L : List (Nat × KV)} {k i : Nat} {v : KV} (h : L[k]? = some (i, v)) : (klv ρ L)[k]? = some (i, ktr ρ v) := by
  unfold klv
  rw [List.getElem?_map, h]
  rfl
/-- a place of the locals is written -/
def kst (L : List (Nat × KV)) (i : Nat) (v : KV) : List (Nat × KV) := (i, v) :: L.filter (fun q => !(q.1 == i) && !(q.1 + 1 == i && kcat q.2 == 2))
def kst2 (L : List (Nat × KV)) (i : Nat) (v : KV) : List (Nat × KV) := (i, v) :: L.filter (fun q => !(q.1 == i) && (!(q.1 == i + 1) && !(q.1 + 1 == i && kcat q.2 == 2)))
theorem kst_ok (ρ : Nat → Nat) (L : List (Nat × KV)) (i : Nat) (v : KV) : (i, ktr ρ v) :: (klv ρ L).filter (fun q => !(q.1 == i) && !(q.1 + 1 == i && q.2.category == 2)) = klv ρ (kst L i v) := by
  unfold klv kst
  rw [List.map_cons, List.filter_map]
  congr 2
  apply List.filter_congr
  intro q _
  simp [kcat_ok]
theorem kst2_ok (ρ : Nat → Nat) (L : List (Nat × KV)) (i : Nat) (v : KV) : (i, ktr ρ v) :: (klv ρ L).filter (fun q => !(q.1 == i) && (!(q.1 == i + 1) && !(q.1 + 1 == i && q.2.category == 2))) = klv ρ (kst2 L i v) := by
  unfold klv kst2
  rw [List.map_cons, List.filter_map]
  congr 2
  apply List.filter_congr
  intro q _
  simp [kcat_ok]
theorem kOks.st {h : KH} {L : List (Nat × KV)} {st : List KV} {v : KV} {i : Nat} (hk : kOks h L (v :: st)) : kOks h (kst L i v) st := ⟨fun q hq => by
  rcases List.mem_cons.mp hq with rfl | hq
  · exact hk.head
  · exact hk.1 q (List.mem_filter.mp hq).1, hk.tail.2⟩
theorem kOks.st2 {h : KH} {L : List (Nat × KV)} {st : List KV} {v : KV} {i : Nat} (hk : kOks h L (v :: st)) : kOks h (kst2 L i v) st := ⟨fun q hq => by
  rcases List.mem_cons.mp hq with rfl | hq
  · exact hk.head
  · exact hk.1 q (List.mem_filter.mp hq).1, hk.tail.2⟩
