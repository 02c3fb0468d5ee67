/-! what every function of the class leaves alone: the law's arrays (kinds 31 and 32); which functions write nothing; the functions without throws -/
def FL (h h1 : KH) : Prop := ∀ a, kd h a = 31 ∨ kd h a = 32 → kd h1 a = kd h a ∧ kn h1 a = kn h a ∧ ∀ k, kI h1 a k = kI h a k
def FR {α : Type} (h : KH) (w : KO α) : Prop := ∀ r h1, w = some (r, h1) → FL h h1
theorem FL.rf (h : KH) : FL h h := fun _ _ => ⟨rfl, rfl, fun _ => rfl⟩
theorem FL.trans {h h1 h2 : KH} (a : FL h h1) (b : FL h1 h2) : FL h h2 := fun i q => by
  obtain ⟨x1, x2, x3⟩ := a i q
  obtain ⟨y1, y2, y3⟩ := b i (by rw [x1]; exact q)
  exact ⟨y1.trans x1, y2.trans x2, fun k => (y3 k).trans (x3 k)⟩
theorem FL.X (h : KH) (n : Nat) : FL h (sX h n) := fun _ _ => ⟨rfl, rfl, fun _ => rfl⟩
theorem FL.I {h : KH} {a k c : Nat} {v : Int32} (ha : kd h a = c) (h1 : c ≠ 31 ∧ c ≠ 32) : FL h (sI h a k v) := fun i q => by
  refine ⟨rfl, rfl, fun j => ?_⟩
  rw [kI_sI, if_neg]
  rintro ⟨rfl, -⟩
  rw [ha] at q
  exact q.elim h1.1 h1.2
theorem FL.L (h : KH) (a k : Nat) (v : Int64) : FL h (sL h a k v) := fun _ _ => ⟨rfl, rfl, fun _ => rfl⟩
theorem FL.R (h : KH) (a k : Nat) (v : Option Nat) : FL h (sR h a k v) := fun _ _ => ⟨rfl, rfl, fun _ => rfl⟩
theorem FL.al {h : KH} {c n : Nat} (hf : kd h (kx h) = 0) : FL h (al h c n) := fun i q => by
  have hi : i ≠ kx h := by
    rintro rfl
    rw [hf] at q
    omega
  exact ⟨by rw [kd_al, if_neg hi], by rw [kn_al, if_neg hi], fun k => by rw [kI_al, if_neg hi]⟩
theorem FL.M {h : KH} {n k : Nat} (hf : (List.range (1 + n)).all (fun i => decide (kd h (kx h + i) = 0)) = true) : FL h (alM h n k) := fun i q => by
  have hi : ¬ (kx h ≤ i ∧ i ≤ kx h + n) := by
    rintro ⟨h1, h2⟩
    have := of_decide_eq_true (List.all_eq_true.mp hf (i - kx h) (List.mem_range.mpr (by omega)))
    rw [show kx h + (i - kx h) = i by omega] at this
    rw [this] at q
    omega
  have h1 : i ≠ kx h := fun e => hi (by omega)
  have h2 : ¬ (kx h < i ∧ i ≤ kx h + n) := fun e => hi (by omega)
  exact ⟨by show (if _ then _ else if _ then _ else _) = _; rw [if_neg h1, if_neg h2], by show (if _ then _ else if _ then _ else _) = _; rw [if_neg h1, if_neg h2], fun j => by show (if _ then _ else _) = _; rw [if_neg hi]⟩
section FRR
variable {α β : Type} {h0 h : KH} {a c k : Nat}
theorem fr_none : FR h0 (none : KO α) := fun r h1 q => by cases q
theorem fr_ret {v : α} (q : FL h0 h) : FR h0 (kret v h) := fun r h1 e => by cases e; exact q
theorem fr_thr {e : Nat} (q : FL h0 h) : FR h0 (kthrow e h : KO α) := fun r h1 e => by cases e; exact q
theorem fr_retZ {v : Int32} (q : FL h0 h) : FR h0 (kretZ v h) := fun r h1 e => by
  unfold kretZ at e
  split at e
  · cases e; exact q
  · cases e
theorem fr_retC {v : Int32} (q : FL h0 h) : FR h0 (kretC v h) := fun r h1 e => by
  unfold kretC at e
  split at e
  · cases e; exact q
  · cases e
theorem fr_if {p : Prop} [Decidable p] {x y : KO α} (hx : FR h0 x) (hy : FR h0 y) : FR h0 (if p then x else y) := by split <;> assumption
theorem fr_kif {p : Prop} [Decidable p] {x y : KO α} (hx : FR h0 x) (hy : FR h0 y) : FR h0 (kif p x y) := fr_if hx hy
theorem fr_kdv {y : Int32} {x : KO α} (hx : FR h0 x) : FR h0 (kdv y x) := fr_if fr_none hx
theorem fr_may {o : Option β} {f : β → KO α} (hf : ∀ x, FR h0 (f x)) : FR h0 (kmay o f) := by
  cases o
  · exact fr_none
  · exact hf _
theorem fr_nul {o : Option β} {x : KO α} {f : β → KO α} (hx : FR h0 x) (hf : ∀ x, FR h0 (f x)) : FR h0 (knul o x f) := by
  cases o
  · exact hx
  · exact hf _
theorem fr_gI {f : Int32 → KO α} (hf : ∀ x, FR h0 (f x)) : FR h0 (gI h a c k f) := fr_if (hf _) fr_none
theorem fr_gR {f : Option Nat → KO α} (hf : ∀ x, FR h0 (f x)) : FR h0 (gR h a c k f) := fr_if (hf _) fr_none
theorem fr_gN {f : Nat → KO α} (hf : ∀ x, FR h0 (f x)) : FR h0 (gN h a c k f) := fr_if (fr_may hf) fr_none
theorem fr_gAI {i : Int32} {f : Int32 → KO α} (hf : ∀ x, FR h0 (f x)) : FR h0 (gAI h a c i f) := fr_if (hf _) fr_none
theorem fr_gAL {i : Int32} {f : Int64 → KO α} (hf : ∀ x, FR h0 (f x)) : FR h0 (gAL h a c i f) := fr_if (hf _) fr_none
theorem fr_gAN {i : Int32} {f : Nat → KO α} (hf : ∀ x, FR h0 (f x)) : FR h0 (gAN h a c i f) := fr_if (fr_may hf) fr_none
theorem fr_dite {p : Prop} [Decidable p] {x : KO α} (hx : p → FR h0 x) : FR h0 (if p then x else none) := by
  split
  · exact hx ‹_›
  · exact fr_none
theorem fr_pI {v : Int32} {f : KH → KO α} (q : FL h0 h) (hc : c ≠ 31 ∧ c ≠ 32) (hf : ∀ h1, FL h0 h1 → FR h0 (f h1)) : FR h0 (pI h a c k v f) := fr_dite (fun e => hf _ (q.trans (FL.I e hc)))
theorem fr_pR {v : Option Nat} {f : KH → KO α} (q : FL h0 h) (hf : ∀ h1, FL h0 h1 → FR h0 (f h1)) : FR h0 (pR h a c k v f) := fr_dite (fun e => hf _ (q.trans (FL.R _ _ _ _)))
theorem fr_pAI {i v : Int32} {f : KH → KO α} (q : FL h0 h) (hc : c ≠ 31 ∧ c ≠ 32) (hf : ∀ h1, FL h0 h1 → FR h0 (f h1)) : FR h0 (pAI h a c i v f) := fr_dite (fun e => hf _ (q.trans (FL.I e.1 hc)))
theorem fr_pAZ {i v : Int32} {f : KH → KO α} (q : FL h0 h) (hc : c ≠ 31 ∧ c ≠ 32) (hf : ∀ h1, FL h0 h1 → FR h0 (f h1)) : FR h0 (pAZ h a c i v f) := fr_dite (fun e => hf _ (q.trans (FL.I e.1 hc)))
theorem fr_pAL {i : Int32} {v : Int64} {f : KH → KO α} (q : FL h0 h) (hf : ∀ h1, FL h0 h1 → FR h0 (f h1)) : FR h0 (pAL h a c i v f) := fr_dite (fun e => hf _ (q.trans (FL.L _ _ _ _)))
theorem fr_pAN {i : Int32} {v cv : Nat} {f : KH → KO α} (q : FL h0 h) (hf : ∀ h1, FL h0 h1 → FR h0 (f h1)) : FR h0 (pAN h a c cv i v f) := fr_dite (fun e => hf _ (q.trans (FL.R _ _ _ _)))
theorem fr_nw {n : Nat} {f : Nat → KH → KO α} (q : FL h0 h) (hf : ∀ x h1, FL h0 h1 → FR h0 (f x h1)) : FR h0 (nw h c n f) := fr_dite (fun e => hf _ _ (q.trans (FL.al e)))
theorem fr_nwM {n m : Nat} {f : Nat → KH → KO α} (q : FL h0 h) (hf : ∀ x h1, FL h0 h1 → FR h0 (f x h1)) : FR h0 (nwM h n m f) := fr_dite (fun e => hf _ _ (q.trans (FL.M e)))
theorem fr_bind {x : KO β} {f : β → KH → KO α} (hx : FR h x) (q : FL h0 h) (hf : ∀ v h1, FL h0 h1 → FR h0 (f v h1)) : FR h0 (kbind x f) := by
  rcases x with _ | ⟨e | v, h1⟩
  · exact fr_none
  · exact fun r h2 w => by cases w; exact q.trans (hx _ _ rfl)
  · exact hf v h1 (q.trans (hx _ _ rfl))
theorem fr_binI {x : KO β} {f : β → KH → KO α} (hx : FR h x) (q : FL h0 h) (hf : ∀ v h1, FL h0 h1 → FR h0 (f v h1)) : FR h0 (kbinI x f) := by
  rcases x with _ | ⟨e | v, h1⟩
  · exact fr_none
  · exact fr_none
  · exact hf v h1 (q.trans (hx _ _ rfl))
theorem fr_callV {b : Nat} {x : KO β} {f : β → KH → KO α} (hx : FR h x) (q : FL h0 h) (hf : ∀ v h1, FL h0 h1 → FR h0 (f v h1)) : FR h0 (kcallV c b h x f) := fr_if (fr_bind hx q hf) fr_none
theorem fr_go {x : KO α} (hx : FR h x) (q : FL h0 h) : FR h0 x := fun r h1 e => q.trans (hx r h1 e)
end FRR
def RO {α : Type} (h : KH) (w : KO α) : Prop := ∀ r h1, w = some (r, h1) → h1 = h
section ROR
variable {α β : Type} {h0 h : KH} {a c k : Nat}
theorem ro_none : RO h0 (none : KO α) := fun r h1 q => by cases q
theorem ro_ret {v : α} : RO h (kret v h) := fun r h1 e => by cases e; rfl
theorem ro_thr {e : Nat} : RO h (kthrow e h : KO α) := fun r h1 e => by cases e; rfl
theorem ro_if {p : Prop} [Decidable p] {x y : KO α} (hx : RO h0 x) (hy : RO h0 y) : RO h0 (if p then x else y) := by split <;> assumption
theorem ro_retZ {v : Int32} : RO h (kretZ v h) := ro_if (fun r h1 e => by cases e; rfl) ro_none
theorem ro_retC {v : Int32} : RO h (kretC v h) := ro_if (fun r h1 e => by cases e; rfl) ro_none
theorem ro_kif {p : Prop} [Decidable p] {x y : KO α} (hx : RO h0 x) (hy : RO h0 y) : RO h0 (kif p x y) := ro_if hx hy
theorem ro_kdv {y : Int32} {x : KO α} (hx : RO h0 x) : RO h0 (kdv y x) := ro_if ro_none hx
theorem ro_may {o : Option β} {f : β → KO α} (hf : ∀ x, RO h0 (f x)) : RO h0 (kmay o f) := by
  cases o
  · exact ro_none
  · exact hf _
theorem ro_nul {o : Option β} {x : KO α} {f : β → KO α} (hx : RO h0 x) (hf : ∀ x, RO h0 (f x)) : RO h0 (knul o x f) := by
  cases o
  · exact hx
  · exact hf _
theorem ro_gI {f : Int32 → KO α} (hf : ∀ x, RO h0 (f x)) : RO h0 (gI h a c k f) := ro_if (hf _) ro_none
theorem ro_gR {f : Option Nat → KO α} (hf : ∀ x, RO h0 (f x)) : RO h0 (gR h a c k f) := ro_if (hf _) ro_none
theorem ro_gN {f : Nat → KO α} (hf : ∀ x, RO h0 (f x)) : RO h0 (gN h a c k f) := ro_if (ro_may hf) ro_none
theorem ro_gAI {i : Int32} {f : Int32 → KO α} (hf : ∀ x, RO h0 (f x)) : RO h0 (gAI h a c i f) := ro_if (hf _) ro_none
theorem ro_gAL {i : Int32} {f : Int64 → KO α} (hf : ∀ x, RO h0 (f x)) : RO h0 (gAL h a c i f) := ro_if (hf _) ro_none
theorem ro_gAN {i : Int32} {f : Nat → KO α} (hf : ∀ x, RO h0 (f x)) : RO h0 (gAN h a c i f) := ro_if (ro_may hf) ro_none
theorem ro_bind {x : KO β} {f : β → KH → KO α} (hx : RO h x) (hf : ∀ v, RO h (f v h)) : RO h (kbind x f) := by
  rcases x with _ | ⟨e | v, h1⟩
  · exact ro_none
  · exact fun r h2 w => by cases w; exact hx _ _ rfl
  · have := hx _ _ rfl
    subst this
    exact hf v
theorem ro_binI {x : KO β} {f : β → KH → KO α} (hx : RO h x) (hf : ∀ v, RO h (f v h)) : RO h (kbinI x f) := by
  rcases x with _ | ⟨e | v, h1⟩
  · exact ro_none
  · exact ro_none
  · have := hx _ _ rfl
    subst this
    exact hf v
theorem ro_callV {b : Nat} {x : KO β} {f : β → KH → KO α} (hx : RO h x) (hf : ∀ v, RO h (f v h)) : RO h (kcallV c b h x f) := ro_if (ro_bind hx hf) ro_none
end ROR
/-- where x answers, y answers the same -/
def ZR {α : Type} (x y : KO α) : Prop := ∀ v h1, x = some (.inr v, h1) → y = some (.inr v, h1)
section ZRR
variable {α β : Type} {h : KH} {a c k : Nat}
theorem zr_rf {x : KO α} : ZR x x := fun _ _ e => e
theorem zr_thr {e : Nat} {y : KO α} : ZR (kthrow e h) y := fun _ _ e => by cases e
theorem zr_kif {p : Prop} [Decidable p] {x y x' y' : KO α} (hx : ZR x x') (hy : ZR y y') : ZR (kif p x y) (kif p x' y') := by
  unfold kif
  split <;> assumption
theorem zr_if {p : Prop} [Decidable p] {x y x' y' : KO α} (hx : ZR x x') (hy : ZR y y') : ZR (if p then x else y) (if p then x' else y') := zr_kif hx hy
theorem zr_may {o : Option β} {f g : β → KO α} (hf : ∀ x, ZR (f x) (g x)) : ZR (kmay o f) (kmay o g) := by
  cases o
  · exact zr_rf
  · exact hf _
theorem zr_nul {o : Option β} {x x' : KO α} {f g : β → KO α} (hx : ZR x x') (hf : ∀ x, ZR (f x) (g x)) : ZR (knul o x f) (knul o x' g) := by
  cases o
  · exact hx
  · exact hf _
theorem zr_gI {f g : Int32 → KO α} (hf : ∀ x, ZR (f x) (g x)) : ZR (gI h a c k f) (gI h a c k g) := zr_if (hf _) zr_rf
theorem zr_gR {f g : Option Nat → KO α} (hf : ∀ x, ZR (f x) (g x)) : ZR (gR h a c k f) (gR h a c k g) := zr_if (hf _) zr_rf
theorem zr_gN {f g : Nat → KO α} (hf : ∀ x, ZR (f x) (g x)) : ZR (gN h a c k f) (gN h a c k g) := zr_if (zr_may hf) zr_rf
theorem zr_gAI {i : Int32} {f g : Int32 → KO α} (hf : ∀ x, ZR (f x) (g x)) : ZR (gAI h a c i f) (gAI h a c i g) := zr_if (hf _) zr_rf
theorem zr_gAL {i : Int32} {f g : Int64 → KO α} (hf : ∀ x, ZR (f x) (g x)) : ZR (gAL h a c i f) (gAL h a c i g) := zr_if (hf _) zr_rf
theorem zr_gAN {i : Int32} {f g : Nat → KO α} (hf : ∀ x, ZR (f x) (g x)) : ZR (gAN h a c i f) (gAN h a c i g) := zr_if (zr_may hf) zr_rf
theorem zr_pI {v : Int32} {f g : KH → KO α} (hf : ∀ h1, ZR (f h1) (g h1)) : ZR (pI h a c k v f) (pI h a c k v g) := zr_if (hf _) zr_rf
theorem zr_pR {v : Option Nat} {f g : KH → KO α} (hf : ∀ h1, ZR (f h1) (g h1)) : ZR (pR h a c k v f) (pR h a c k v g) := zr_if (hf _) zr_rf
theorem zr_pAI {i v : Int32} {f g : KH → KO α} (hf : ∀ h1, ZR (f h1) (g h1)) : ZR (pAI h a c i v f) (pAI h a c i v g) := zr_if (hf _) zr_rf
theorem zr_pAN {i : Int32} {v cv : Nat} {f g : KH → KO α} (hf : ∀ h1, ZR (f h1) (g h1)) : ZR (pAN h a c cv i v f) (pAN h a c cv i v g) := zr_if (hf _) zr_rf
theorem zr_nw {n : Nat} {f g : Nat → KH → KO α} (hf : ∀ x h1, ZR (f x h1) (g x h1)) : ZR (nw h c n f) (nw h c n g) := zr_if (hf _ _) zr_rf
theorem zr_bind {x x' : KO β} {f g : β → KH → KO α} (hx : ZR x x') (hf : ∀ v h1, ZR (f v h1) (g v h1)) : ZR (kbind x f) (kbind x' g) := by
  rcases x with _ | ⟨e | v, h1⟩
  · exact fun _ _ w => by cases w
  · exact fun _ _ w => by cases w
  · rw [hx v h1 rfl]
    exact hf v h1
theorem zr_binI {x x' : KO β} {f g : β → KH → KO α} (hx : ZR x x') (hf : ∀ v h1, ZR (f v h1) (g v h1)) : ZR (kbinI x f) (kbinI x' g) := by
  rcases x with _ | ⟨e | v, h1⟩
  · exact fun _ _ w => by cases w
  · exact fun _ _ w => by cases w
  · rw [hx v h1 rfl]
    exact hf v h1
theorem zr_callV {b : Nat} {x x' : KO β} {f g : β → KH → KO α} (hx : ZR x x') (hf : ∀ v h1, ZR (f v h1) (g v h1)) : ZR (kcallV c b h x f) (kcallV c b h x' g) := zr_if (zr_bind hx hf) zr_rf
end ZRR
theorem fr_X6_nearestOpen_b42 (rc4 : Nat → Nat → Int32 → Int32 → KH → KO Int32) (hr4 : ∀ (u0 : Nat) (u1 : Nat) (u2 : Int32) (u3 : Int32) (u4 : KH), FR u4 (rc4 u0 u1 u2 u3 u4)) (v0 : Nat) (v1 : Nat) (v2 : Int32) (v3 : Int32) (h : KH) : FR h (X6_nearestOpen_b42 rc4 v0 v1 v2 v3 h) := by
  unfold X6_nearestOpen_b42
  have q0 : FL h h := FL.rf h
  repeat' with_reducible (first
    | exact fr_ret (by assumption)
    | exact fr_retZ (by assumption)
    | exact fr_retC (by assumption)
    | exact fr_thr (by assumption)
    | exact fr_none
    | exact fr_go (hr4 _ _ _ _ _) (by assumption)
    | refine fr_gI (fun _ => ?_)
    | refine fr_gR (fun _ => ?_)
    | refine fr_gN (fun _ => ?_)
    | refine fr_gAI (fun _ => ?_)
    | refine fr_gAL (fun _ => ?_)
    | refine fr_gAN (fun _ => ?_)
    | refine fr_kif ?_ ?_
    | refine fr_nul ?_ (fun _ => ?_)
    | refine fr_may (fun _ => ?_)
    | refine fr_kdv ?_
    | refine fr_pI (by assumption) (by decide) (fun _ _ => ?_)
    | refine fr_pR (by assumption) (fun _ _ => ?_)
    | refine fr_pAI (by assumption) (by decide) (fun _ _ => ?_)
    | refine fr_pAZ (by assumption) (by decide) (fun _ _ => ?_)
    | refine fr_pAL (by assumption) (fun _ _ => ?_)
    | refine fr_pAN (by assumption) (fun _ _ => ?_)
    | refine fr_nw (by assumption) (fun _ _ _ => ?_)
    | refine fr_nwM (by assumption) (fun _ _ _ => ?_)
    | refine fr_callV (hr4 _ _ _ _ _) (by assumption) (fun _ _ _ => ?_)
    | refine fr_bind (hr4 _ _ _ _ _) (by assumption) (fun _ _ _ => ?_)
    | refine fr_binI (hr4 _ _ _ _ _) (by assumption) (fun _ _ _ => ?_))
theorem ro_X6_nearestOpen_b42 (rc4 : Nat → Nat → Int32 → Int32 → KH → KO Int32) (hr4 : ∀ (u0 : Nat) (u1 : Nat) (u2 : Int32) (u3 : Int32) (u4 : KH), RO u4 (rc4 u0 u1 u2 u3 u4)) (v0 : Nat) (v1 : Nat) (v2 : Int32) (v3 : Int32) (h : KH) : RO h (X6_nearestOpen_b42 rc4 v0 v1 v2 v3 h) := by
  unfold X6_nearestOpen_b42
  repeat' with_reducible (first
    | exact ro_ret
    | exact ro_retZ
    | exact ro_retC
    | exact ro_thr
    | exact ro_none
    | exact hr4 _ _ _ _ _
    | refine ro_gI (fun _ => ?_)
    | refine ro_gR (fun _ => ?_)
    | refine ro_gN (fun _ => ?_)
    | refine ro_gAI (fun _ => ?_)
    | refine ro_gAL (fun _ => ?_)
    | refine ro_gAN (fun _ => ?_)
    | refine ro_kif ?_ ?_
    | refine ro_nul ?_ (fun _ => ?_)
    | refine ro_may (fun _ => ?_)
    | refine ro_kdv ?_
    | refine ro_callV (hr4 _ _ _ _ _) (fun _ => ?_)
    | refine ro_bind (hr4 _ _ _ _ _) (fun _ => ?_)
    | refine ro_binI (hr4 _ _ _ _ _) (fun _ => ?_))
theorem fr_X6_nearestOpen_b40 (rc4 : Nat → Nat → Int32 → Int32 → KH → KO Int32) (hr4 : ∀ (u0 : Nat) (u1 : Nat) (u2 : Int32) (u3 : Int32) (u4 : KH), FR u4 (rc4 u0 u1 u2 u3 u4)) (v0 : Nat) (v1 : Nat) (v3 : Int32) (h : KH) : FR h (X6_nearestOpen_b40 rc4 v0 v1 v3 h) := by
  unfold X6_nearestOpen_b40
  have q0 : FL h h := FL.rf h
  repeat' with_reducible (first
    | exact fr_ret (by assumption)
    | exact fr_retZ (by assumption)
    | exact fr_retC (by assumption)
    | exact fr_thr (by assumption)
    | exact fr_none
    | exact fr_go (hr4 _ _ _ _ _) (by assumption)
    | exact fr_go (fr_X6_nearestOpen_b42 _ (by assumption) _ _ _ _ _) (by assumption)
    | refine fr_gI (fun _ => ?_)
    | refine fr_gR (fun _ => ?_)
    | refine fr_gN (fun _ => ?_)
    | refine fr_gAI (fun _ => ?_)
    | refine fr_gAL (fun _ => ?_)
    | refine fr_gAN (fun _ => ?_)
    | refine fr_kif ?_ ?_
    | refine fr_nul ?_ (fun _ => ?_)
    | refine fr_may (fun _ => ?_)
    | refine fr_kdv ?_
    | refine fr_pI (by assumption) (by decide) (fun _ _ => ?_)
    | refine fr_pR (by assumption) (fun _ _ => ?_)
    | refine fr_pAI (by assumption) (by decide) (fun _ _ => ?_)
    | refine fr_pAZ (by assumption) (by decide) (fun _ _ => ?_)
    | refine fr_pAL (by assumption) (fun _ _ => ?_)
    | refine fr_pAN (by assumption) (fun _ _ => ?_)
    | refine fr_nw (by assumption) (fun _ _ _ => ?_)
    | refine fr_nwM (by assumption) (fun _ _ _ => ?_)
    | refine fr_callV (hr4 _ _ _ _ _) (by assumption) (fun _ _ _ => ?_)
    | refine fr_bind (hr4 _ _ _ _ _) (by assumption) (fun _ _ _ => ?_)
    | refine fr_binI (hr4 _ _ _ _ _) (by assumption) (fun _ _ _ => ?_)
    | refine fr_callV (fr_X6_nearestOpen_b42 _ (by assumption) _ _ _ _ _) (by assumption) (fun _ _ _ => ?_)
    | refine fr_bind (fr_X6_nearestOpen_b42 _ (by assumption) _ _ _ _ _) (by assumption) (fun _ _ _ => ?_)
    | refine fr_binI (fr_X6_nearestOpen_b42 _ (by assumption) _ _ _ _ _) (by assumption) (fun _ _ _ => ?_))
theorem ro_X6_nearestOpen_b40 (rc4 : Nat → Nat → Int32 → Int32 → KH → KO Int32) (hr4 : ∀ (u0 : Nat) (u1 : Nat) (u2 : Int32) (u3 : Int32) (u4 : KH), RO u4 (rc4 u0 u1 u2 u3 u4)) (v0 : Nat) (v1 : Nat) (v3 : Int32) (h : KH) : RO h (X6_nearestOpen_b40 rc4 v0 v1 v3 h) := by
  unfold X6_nearestOpen_b40
  repeat' with_reducible (first
    | exact ro_ret
    | exact ro_retZ
    | exact ro_retC
    | exact ro_thr
    | exact ro_none
    | exact hr4 _ _ _ _ _
    | exact ro_X6_nearestOpen_b42 _ (by assumption) _ _ _ _ _
    | refine ro_gI (fun _ => ?_)
    | refine ro_gR (fun _ => ?_)
    | refine ro_gN (fun _ => ?_)
    | refine ro_gAI (fun _ => ?_)
    | refine ro_gAL (fun _ => ?_)
    | refine ro_gAN (fun _ => ?_)
    | refine ro_kif ?_ ?_
    | refine ro_nul ?_ (fun _ => ?_)
    | refine ro_may (fun _ => ?_)
    | refine ro_kdv ?_
    | refine ro_callV (hr4 _ _ _ _ _) (fun _ => ?_)
    | refine ro_bind (hr4 _ _ _ _ _) (fun _ => ?_)
    | refine ro_binI (hr4 _ _ _ _ _) (fun _ => ?_)
    | refine ro_callV (ro_X6_nearestOpen_b42 _ (by assumption) _ _ _ _ _) (fun _ => ?_)
    | refine ro_bind (ro_X6_nearestOpen_b42 _ (by assumption) _ _ _ _ _) (fun _ => ?_)
    | refine ro_binI (ro_X6_nearestOpen_b42 _ (by assumption) _ _ _ _ _) (fun _ => ?_))
theorem fr_X6_nearestOpen_b4 (rc4 : Nat → Nat → Int32 → Int32 → KH → KO Int32) (hr4 : ∀ (u0 : Nat) (u1 : Nat) (u2 : Int32) (u3 : Int32) (u4 : KH), FR u4 (rc4 u0 u1 u2 u3 u4)) (v0 : Nat) (v1 : Nat) (v2 : Int32) (v3 : Int32) (h : KH) : FR h (X6_nearestOpen_b4 rc4 v0 v1 v2 v3 h) := by
  unfold X6_nearestOpen_b4
  have q0 : FL h h := FL.rf h
  repeat' with_reducible (first
    | exact fr_ret (by assumption)
    | exact fr_retZ (by assumption)
    | exact fr_retC (by assumption)
    | exact fr_thr (by assumption)
    | exact fr_none
    | exact fr_go (hr4 _ _ _ _ _) (by assumption)
    | exact fr_go (fr_X6_nearestOpen_b42 _ (by assumption) _ _ _ _ _) (by assumption)
    | exact fr_go (fr_X6_nearestOpen_b40 _ (by assumption) _ _ _ _) (by assumption)
    | refine fr_gI (fun _ => ?_)
    | refine fr_gR (fun _ => ?_)
    | refine fr_gN (fun _ => ?_)
    | refine fr_gAI (fun _ => ?_)
    | refine fr_gAL (fun _ => ?_)
    | refine fr_gAN (fun _ => ?_)
    | refine fr_kif ?_ ?_
    | refine fr_nul ?_ (fun _ => ?_)
    | refine fr_may (fun _ => ?_)
    | refine fr_kdv ?_
    | refine fr_pI (by assumption) (by decide) (fun _ _ => ?_)
    | refine fr_pR (by assumption) (fun _ _ => ?_)
    | refine fr_pAI (by assumption) (by decide) (fun _ _ => ?_)
    | refine fr_pAZ (by assumption) (by decide) (fun _ _ => ?_)
    | refine fr_pAL (by assumption) (fun _ _ => ?_)
    | refine fr_pAN (by assumption) (fun _ _ => ?_)
    | refine fr_nw (by assumption) (fun _ _ _ => ?_)
    | refine fr_nwM (by assumption) (fun _ _ _ => ?_)
    | refine fr_callV (hr4 _ _ _ _ _) (by assumption) (fun _ _ _ => ?_)
    | refine fr_bind (hr4 _ _ _ _ _) (by assumption) (fun _ _ _ => ?_)
    | refine fr_binI (hr4 _ _ _ _ _) (by assumption) (fun _ _ _ => ?_)
    | refine fr_callV (fr_X6_nearestOpen_b42 _ (by assumption) _ _ _ _ _) (by assumption) (fun _ _ _ => ?_)
    | refine fr_bind (fr_X6_nearestOpen_b42 _ (by assumption) _ _ _ _ _) (by assumption) (fun _ _ _ => ?_)
    | refine fr_binI (fr_X6_nearestOpen_b42 _ (by assumption) _ _ _ _ _) (by assumption) (fun _ _ _ => ?_)
    | refine fr_callV (fr_X6_nearestOpen_b40 _ (by assumption) _ _ _ _) (by assumption) (fun _ _ _ => ?_)
    | refine fr_bind (fr_X6_nearestOpen_b40 _ (by assumption) _ _ _ _) (by assumption) (fun _ _ _ => ?_)
    | refine fr_binI (fr_X6_nearestOpen_b40 _ (by assumption) _ _ _ _) (by assumption) (fun _ _ _ => ?_))
theorem ro_X6_nearestOpen_b4 (rc4 : Nat → Nat → Int32 → Int32 → KH → KO Int32) (hr4 : ∀ (u0 : Nat) (u1 : Nat) (u2 : Int32) (u3 : Int32) (u4 : KH), RO u4 (rc4 u0 u1 u2 u3 u4)) (v0 : Nat) (v1 : Nat) (v2 : Int32) (v3 : Int32) (h : KH) : RO h (X6_nearestOpen_b4 rc4 v0 v1 v2 v3 h) := by
  unfold X6_nearestOpen_b4
  repeat' with_reducible (first
    | exact ro_ret
    | exact ro_retZ
    | exact ro_retC
    | exact ro_thr
    | exact ro_none
    | exact hr4 _ _ _ _ _
    | exact ro_X6_nearestOpen_b42 _ (by assumption) _ _ _ _ _
    | exact ro_X6_nearestOpen_b40 _ (by assumption) _ _ _ _
    | refine ro_gI (fun _ => ?_)
    | refine ro_gR (fun _ => ?_)
    | refine ro_gN (fun _ => ?_)
    | refine ro_gAI (fun _ => ?_)
    | refine ro_gAL (fun _ => ?_)
    | refine ro_gAN (fun _ => ?_)
    | refine ro_kif ?_ ?_
    | refine ro_nul ?_ (fun _ => ?_)
    | refine ro_may (fun _ => ?_)
    | refine ro_kdv ?_
    | refine ro_callV (hr4 _ _ _ _ _) (fun _ => ?_)
    | refine ro_bind (hr4 _ _ _ _ _) (fun _ => ?_)
    | refine ro_binI (hr4 _ _ _ _ _) (fun _ => ?_)
    | refine ro_callV (ro_X6_nearestOpen_b42 _ (by assumption) _ _ _ _ _) (fun _ => ?_)
    | refine ro_bind (ro_X6_nearestOpen_b42 _ (by assumption) _ _ _ _ _) (fun _ => ?_)
    | refine ro_binI (ro_X6_nearestOpen_b42 _ (by assumption) _ _ _ _ _) (fun _ => ?_)
    | refine ro_callV (ro_X6_nearestOpen_b40 _ (by assumption) _ _ _ _) (fun _ => ?_)
    | refine ro_bind (ro_X6_nearestOpen_b40 _ (by assumption) _ _ _ _) (fun _ => ?_)
    | refine ro_binI (ro_X6_nearestOpen_b40 _ (by assumption) _ _ _ _) (fun _ => ?_))
theorem fr_X6_nearestOpen_L4  : ∀ (m : Nat) (u0 : Nat) (u1 : Nat) (u2 : Int32) (u3 : Int32) (u4 : KH), FR u4 (X6_nearestOpen_L4  m u0 u1 u2 u3 u4) := by
  intro m
  induction m with
  | zero => intro u0 u1 u2 u3 u4; exact fr_none
  | succ m ih => intro u0 u1 u2 u3 u4; exact fr_X6_nearestOpen_b4 (X6_nearestOpen_L4  m) ih u0 u1 u2 u3 u4
theorem ro_X6_nearestOpen_L4  : ∀ (m : Nat) (u0 : Nat) (u1 : Nat) (u2 : Int32) (u3 : Int32) (u4 : KH), RO u4 (X6_nearestOpen_L4  m u0 u1 u2 u3 u4) := by
  intro m
  induction m with
  | zero => intro u0 u1 u2 u3 u4; exact ro_none
  | succ m ih => intro u0 u1 u2 u3 u4; exact ro_X6_nearestOpen_b4 (X6_nearestOpen_L4  m) ih u0 u1 u2 u3 u4
theorem fr_f_X6_nearestOpen  (p0 : Nat) (p1 : Nat) (h : KH) : FR h (f_X6_nearestOpen p0 p1 h) := by
  unfold f_X6_nearestOpen
  have q0 : FL h h := FL.rf h
  repeat' with_reducible (first
    | exact fr_ret (by assumption)
    | exact fr_retZ (by assumption)
    | exact fr_retC (by assumption)
    | exact fr_thr (by assumption)
    | exact fr_none
    | exact fr_go (fr_X6_nearestOpen_L4 _ _ _ _ _ _) (by assumption)
    | refine fr_gI (fun _ => ?_)
    | refine fr_gR (fun _ => ?_)
    | refine fr_gN (fun _ => ?_)
    | refine fr_gAI (fun _ => ?_)
    | refine fr_gAL (fun _ => ?_)
    | refine fr_gAN (fun _ => ?_)
    | refine fr_kif ?_ ?_
    | refine fr_nul ?_ (fun _ => ?_)
    | refine fr_may (fun _ => ?_)
    | refine fr_kdv ?_
    | refine fr_pI (by assumption) (by decide) (fun _ _ => ?_)
    | refine fr_pR (by assumption) (fun _ _ => ?_)
    | refine fr_pAI (by assumption) (by decide) (fun _ _ => ?_)
    | refine fr_pAZ (by assumption) (by decide) (fun _ _ => ?_)
    | refine fr_pAL (by assumption) (fun _ _ => ?_)
    | refine fr_pAN (by assumption) (fun _ _ => ?_)
    | refine fr_nw (by assumption) (fun _ _ _ => ?_)
    | refine fr_nwM (by assumption) (fun _ _ _ => ?_)
    | refine fr_callV (fr_X6_nearestOpen_L4 _ _ _ _ _ _) (by assumption) (fun _ _ _ => ?_)
    | refine fr_bind (fr_X6_nearestOpen_L4 _ _ _ _ _ _) (by assumption) (fun _ _ _ => ?_)
    | refine fr_binI (fr_X6_nearestOpen_L4 _ _ _ _ _ _) (by assumption) (fun _ _ _ => ?_))
theorem ro_f_X6_nearestOpen  (p0 : Nat) (p1 : Nat) (h : KH) : RO h (f_X6_nearestOpen p0 p1 h) := by
  unfold f_X6_nearestOpen
  repeat' with_reducible (first
    | exact ro_ret
    | exact ro_retZ
    | exact ro_retC
    | exact ro_thr
    | exact ro_none
    | exact ro_X6_nearestOpen_L4 _ _ _ _ _ _
    | refine ro_gI (fun _ => ?_)
    | refine ro_gR (fun _ => ?_)
    | refine ro_gN (fun _ => ?_)
    | refine ro_gAI (fun _ => ?_)
    | refine ro_gAL (fun _ => ?_)
    | refine ro_gAN (fun _ => ?_)
    | refine ro_kif ?_ ?_
    | refine ro_nul ?_ (fun _ => ?_)
    | refine ro_may (fun _ => ?_)
    | refine ro_kdv ?_
    | refine ro_callV (ro_X6_nearestOpen_L4 _ _ _ _ _ _) (fun _ => ?_)
    | refine ro_bind (ro_X6_nearestOpen_L4 _ _ _ _ _ _) (fun _ => ?_)
    | refine ro_binI (ro_X6_nearestOpen_L4 _ _ _ _ _ _) (fun _ => ?_))
theorem fr_X6_goOnFrom_b51 (rc2 : Nat → Int32 → Nat → Int32 → KH → KO Unit) (hr2 : ∀ (u0 : Nat) (u1 : Int32) (u2 : Nat) (u3 : Int32) (u4 : KH), FR u4 (rc2 u0 u1 u2 u3 u4)) (v0 : Nat) (v1 : Int32) (v2 : Nat) (v3 : Int32) (h : KH) : FR h (X6_goOnFrom_b51 rc2 v0 v1 v2 v3 h) := by
  unfold X6_goOnFrom_b51
  have q0 : FL h h := FL.rf h
  repeat' with_reducible (first
    | exact fr_ret (by assumption)
    | exact fr_retZ (by assumption)
    | exact fr_retC (by assumption)
    | exact fr_thr (by assumption)
    | exact fr_none
    | exact fr_go (hr2 _ _ _ _ _) (by assumption)
    | refine fr_gI (fun _ => ?_)
    | refine fr_gR (fun _ => ?_)
    | refine fr_gN (fun _ => ?_)
    | refine fr_gAI (fun _ => ?_)
    | refine fr_gAL (fun _ => ?_)
    | refine fr_gAN (fun _ => ?_)
    | refine fr_kif ?_ ?_
    | refine fr_nul ?_ (fun _ => ?_)
    | refine fr_may (fun _ => ?_)
    | refine fr_kdv ?_
    | refine fr_pI (by assumption) (by decide) (fun _ _ => ?_)
    | refine fr_pR (by assumption) (fun _ _ => ?_)
    | refine fr_pAI (by assumption) (by decide) (fun _ _ => ?_)
    | refine fr_pAZ (by assumption) (by decide) (fun _ _ => ?_)
    | refine fr_pAL (by assumption) (fun _ _ => ?_)
    | refine fr_pAN (by assumption) (fun _ _ => ?_)
    | refine fr_nw (by assumption) (fun _ _ _ => ?_)
    | refine fr_nwM (by assumption) (fun _ _ _ => ?_)
    | refine fr_callV (hr2 _ _ _ _ _) (by assumption) (fun _ _ _ => ?_)
    | refine fr_bind (hr2 _ _ _ _ _) (by assumption) (fun _ _ _ => ?_)
    | refine fr_binI (hr2 _ _ _ _ _) (by assumption) (fun _ _ _ => ?_))
theorem ro_X6_goOnFrom_b51 (rc2 : Nat → Int32 → Nat → Int32 → KH → KO Unit) (hr2 : ∀ (u0 : Nat) (u1 : Int32) (u2 : Nat) (u3 : Int32) (u4 : KH), RO u4 (rc2 u0 u1 u2 u3 u4)) (v0 : Nat) (v1 : Int32) (v2 : Nat) (v3 : Int32) (h : KH) : RO h (X6_goOnFrom_b51 rc2 v0 v1 v2 v3 h) := by
  unfold X6_goOnFrom_b51
  repeat' with_reducible (first
    | exact ro_ret
    | exact ro_retZ
    | exact ro_retC
    | exact ro_thr
    | exact ro_none
    | exact hr2 _ _ _ _ _
    | refine ro_gI (fun _ => ?_)
    | refine ro_gR (fun _ => ?_)
    | refine ro_gN (fun _ => ?_)
    | refine ro_gAI (fun _ => ?_)
    | refine ro_gAL (fun _ => ?_)
    | refine ro_gAN (fun _ => ?_)
    | refine ro_kif ?_ ?_
    | refine ro_nul ?_ (fun _ => ?_)
    | refine ro_may (fun _ => ?_)
    | refine ro_kdv ?_
    | refine ro_callV (hr2 _ _ _ _ _) (fun _ => ?_)
    | refine ro_bind (hr2 _ _ _ _ _) (fun _ => ?_)
    | refine ro_binI (hr2 _ _ _ _ _) (fun _ => ?_))
theorem fr_X6_goOnFrom_b46 (rc2 : Nat → Int32 → Nat → Int32 → KH → KO Unit) (hr2 : ∀ (u0 : Nat) (u1 : Int32) (u2 : Nat) (u3 : Int32) (u4 : KH), FR u4 (rc2 u0 u1 u2 u3 u4)) (v0 : Nat) (v1 : Int32) (v2 : Nat) (v3 : Int32) (v5 : Int32) (h : KH) : FR h (X6_goOnFrom_b46 rc2 v0 v1 v2 v3 v5 h) := by
  unfold X6_goOnFrom_b46
  have q0 : FL h h := FL.rf h
  repeat' with_reducible (first
    | exact fr_ret (by assumption)
    | exact fr_retZ (by assumption)
    | exact fr_retC (by assumption)
    | exact fr_thr (by assumption)
    | exact fr_none
    | exact fr_go (hr2 _ _ _ _ _) (by assumption)
    | exact fr_go (fr_X6_goOnFrom_b51 _ (by assumption) _ _ _ _ _) (by assumption)
    | refine fr_gI (fun _ => ?_)
    | refine fr_gR (fun _ => ?_)
    | refine fr_gN (fun _ => ?_)
    | refine fr_gAI (fun _ => ?_)
    | refine fr_gAL (fun _ => ?_)
    | refine fr_gAN (fun _ => ?_)
    | refine fr_kif ?_ ?_
    | refine fr_nul ?_ (fun _ => ?_)
    | refine fr_may (fun _ => ?_)
    | refine fr_kdv ?_
    | refine fr_pI (by assumption) (by decide) (fun _ _ => ?_)
    | refine fr_pR (by assumption) (fun _ _ => ?_)
    | refine fr_pAI (by assumption) (by decide) (fun _ _ => ?_)
    | refine fr_pAZ (by assumption) (by decide) (fun _ _ => ?_)
    | refine fr_pAL (by assumption) (fun _ _ => ?_)
    | refine fr_pAN (by assumption) (fun _ _ => ?_)
    | refine fr_nw (by assumption) (fun _ _ _ => ?_)
    | refine fr_nwM (by assumption) (fun _ _ _ => ?_)
    | refine fr_callV (hr2 _ _ _ _ _) (by assumption) (fun _ _ _ => ?_)
    | refine fr_bind (hr2 _ _ _ _ _) (by assumption) (fun _ _ _ => ?_)
    | refine fr_binI (hr2 _ _ _ _ _) (by assumption) (fun _ _ _ => ?_)
    | refine fr_callV (fr_X6_goOnFrom_b51 _ (by assumption) _ _ _ _ _) (by assumption) (fun _ _ _ => ?_)
    | refine fr_bind (fr_X6_goOnFrom_b51 _ (by assumption) _ _ _ _ _) (by assumption) (fun _ _ _ => ?_)
    | refine fr_binI (fr_X6_goOnFrom_b51 _ (by assumption) _ _ _ _ _) (by assumption) (fun _ _ _ => ?_))
theorem fr_X6_goOnFrom_b2 (rc2 : Nat → Int32 → Nat → Int32 → KH → KO Unit) (hr2 : ∀ (u0 : Nat) (u1 : Int32) (u2 : Nat) (u3 : Int32) (u4 : KH), FR u4 (rc2 u0 u1 u2 u3 u4)) (v0 : Nat) (v1 : Int32) (v2 : Nat) (v3 : Int32) (h : KH) : FR h (X6_goOnFrom_b2 rc2 v0 v1 v2 v3 h) := by
  unfold X6_goOnFrom_b2
  have q0 : FL h h := FL.rf h
  repeat' with_reducible (first
    | exact fr_ret (by assumption)
    | exact fr_retZ (by assumption)
    | exact fr_retC (by assumption)
    | exact fr_thr (by assumption)
    | exact fr_none
    | exact fr_go (hr2 _ _ _ _ _) (by assumption)
    | exact fr_go (fr_X6_goOnFrom_b51 _ (by assumption) _ _ _ _ _) (by assumption)
    | exact fr_go (fr_X6_goOnFrom_b46 _ (by assumption) _ _ _ _ _ _) (by assumption)
    | refine fr_gI (fun _ => ?_)
    | refine fr_gR (fun _ => ?_)
    | refine fr_gN (fun _ => ?_)
    | refine fr_gAI (fun _ => ?_)
    | refine fr_gAL (fun _ => ?_)
    | refine fr_gAN (fun _ => ?_)
    | refine fr_kif ?_ ?_
    | refine fr_nul ?_ (fun _ => ?_)
    | refine fr_may (fun _ => ?_)
    | refine fr_kdv ?_
    | refine fr_pI (by assumption) (by decide) (fun _ _ => ?_)
    | refine fr_pR (by assumption) (fun _ _ => ?_)
    | refine fr_pAI (by assumption) (by decide) (fun _ _ => ?_)
    | refine fr_pAZ (by assumption) (by decide) (fun _ _ => ?_)
    | refine fr_pAL (by assumption) (fun _ _ => ?_)
    | refine fr_pAN (by assumption) (fun _ _ => ?_)
    | refine fr_nw (by assumption) (fun _ _ _ => ?_)
    | refine fr_nwM (by assumption) (fun _ _ _ => ?_)
    | refine fr_callV (hr2 _ _ _ _ _) (by assumption) (fun _ _ _ => ?_)
    | refine fr_bind (hr2 _ _ _ _ _) (by assumption) (fun _ _ _ => ?_)
    | refine fr_binI (hr2 _ _ _ _ _) (by assumption) (fun _ _ _ => ?_)
    | refine fr_callV (fr_X6_goOnFrom_b51 _ (by assumption) _ _ _ _ _) (by assumption) (fun _ _ _ => ?_)
    | refine fr_bind (fr_X6_goOnFrom_b51 _ (by assumption) _ _ _ _ _) (by assumption) (fun _ _ _ => ?_)
    | refine fr_binI (fr_X6_goOnFrom_b51 _ (by assumption) _ _ _ _ _) (by assumption) (fun _ _ _ => ?_)
    | refine fr_callV (fr_X6_goOnFrom_b46 _ (by assumption) _ _ _ _ _ _) (by assumption) (fun _ _ _ => ?_)
    | refine fr_bind (fr_X6_goOnFrom_b46 _ (by assumption) _ _ _ _ _ _) (by assumption) (fun _ _ _ => ?_)
    | refine fr_binI (fr_X6_goOnFrom_b46 _ (by assumption) _ _ _ _ _ _) (by assumption) (fun _ _ _ => ?_))
theorem fr_X6_goOnFrom_L2  : ∀ (m : Nat) (u0 : Nat) (u1 : Int32) (u2 : Nat) (u3 : Int32) (u4 : KH), FR u4 (X6_goOnFrom_L2  m u0 u1 u2 u3 u4) := by
  intro m
  induction m with
  | zero => intro u0 u1 u2 u3 u4; exact fr_none
  | succ m ih => intro u0 u1 u2 u3 u4; exact fr_X6_goOnFrom_b2 (X6_goOnFrom_L2  m) ih u0 u1 u2 u3 u4
theorem fr_f_X6_goOnFrom  (p0 : Nat) (p1 : Int32) (p2 : Nat) (h : KH) : FR h (f_X6_goOnFrom p0 p1 p2 h) := by
  unfold f_X6_goOnFrom
  have q0 : FL h h := FL.rf h
  repeat' with_reducible (first
    | exact fr_ret (by assumption)
    | exact fr_retZ (by assumption)
    | exact fr_retC (by assumption)
    | exact fr_thr (by assumption)
    | exact fr_none
    | exact fr_go (fr_X6_goOnFrom_L2 _ _ _ _ _ _) (by assumption)
    | refine fr_gI (fun _ => ?_)
    | refine fr_gR (fun _ => ?_)
    | refine fr_gN (fun _ => ?_)
    | refine fr_gAI (fun _ => ?_)
    | refine fr_gAL (fun _ => ?_)
    | refine fr_gAN (fun _ => ?_)
    | refine fr_kif ?_ ?_
    | refine fr_nul ?_ (fun _ => ?_)
    | refine fr_may (fun _ => ?_)
    | refine fr_kdv ?_
    | refine fr_pI (by assumption) (by decide) (fun _ _ => ?_)
    | refine fr_pR (by assumption) (fun _ _ => ?_)
    | refine fr_pAI (by assumption) (by decide) (fun _ _ => ?_)
    | refine fr_pAZ (by assumption) (by decide) (fun _ _ => ?_)
    | refine fr_pAL (by assumption) (fun _ _ => ?_)
    | refine fr_pAN (by assumption) (fun _ _ => ?_)
    | refine fr_nw (by assumption) (fun _ _ _ => ?_)
    | refine fr_nwM (by assumption) (fun _ _ _ => ?_)
    | refine fr_callV (fr_X6_goOnFrom_L2 _ _ _ _ _ _) (by assumption) (fun _ _ _ => ?_)
    | refine fr_bind (fr_X6_goOnFrom_L2 _ _ _ _ _ _) (by assumption) (fun _ _ _ => ?_)
    | refine fr_binI (fr_X6_goOnFrom_L2 _ _ _ _ _ _) (by assumption) (fun _ _ _ => ?_))
theorem fr_X6_measureFrom_b38 (rc38 : Nat → Nat → Int32 → KH → KO Unit) (hr38 : ∀ (u0 : Nat) (u1 : Nat) (u2 : Int32) (u3 : KH), FR u3 (rc38 u0 u1 u2 u3)) (v0 : Nat) (v2 : Nat) (v3 : Int32) (h : KH) : FR h (X6_measureFrom_b38 rc38 v0 v2 v3 h) := by
  unfold X6_measureFrom_b38
  have q0 : FL h h := FL.rf h
  repeat' with_reducible (first
    | exact fr_ret (by assumption)
    | exact fr_retZ (by assumption)
    | exact fr_retC (by assumption)
    | exact fr_thr (by assumption)
    | exact fr_none
    | exact fr_go (hr38 _ _ _ _) (by assumption)
    | exact fr_go (fr_f_X6_nearestOpen _ _ _) (by assumption)
    | exact fr_go (fr_f_X6_goOnFrom _ _ _ _) (by assumption)
    | refine fr_gI (fun _ => ?_)
    | refine fr_gR (fun _ => ?_)
    | refine fr_gN (fun _ => ?_)
    | refine fr_gAI (fun _ => ?_)
    | refine fr_gAL (fun _ => ?_)
    | refine fr_gAN (fun _ => ?_)
    | refine fr_kif ?_ ?_
    | refine fr_nul ?_ (fun _ => ?_)
    | refine fr_may (fun _ => ?_)
    | refine fr_kdv ?_
    | refine fr_pI (by assumption) (by decide) (fun _ _ => ?_)
    | refine fr_pR (by assumption) (fun _ _ => ?_)
    | refine fr_pAI (by assumption) (by decide) (fun _ _ => ?_)
    | refine fr_pAZ (by assumption) (by decide) (fun _ _ => ?_)
    | refine fr_pAL (by assumption) (fun _ _ => ?_)
    | refine fr_pAN (by assumption) (fun _ _ => ?_)
    | refine fr_nw (by assumption) (fun _ _ _ => ?_)
    | refine fr_nwM (by assumption) (fun _ _ _ => ?_)
    | refine fr_callV (hr38 _ _ _ _) (by assumption) (fun _ _ _ => ?_)
    | refine fr_bind (hr38 _ _ _ _) (by assumption) (fun _ _ _ => ?_)
    | refine fr_binI (hr38 _ _ _ _) (by assumption) (fun _ _ _ => ?_)
    | refine fr_callV (fr_f_X6_nearestOpen _ _ _) (by assumption) (fun _ _ _ => ?_)
    | refine fr_bind (fr_f_X6_nearestOpen _ _ _) (by assumption) (fun _ _ _ => ?_)
    | refine fr_binI (fr_f_X6_nearestOpen _ _ _) (by assumption) (fun _ _ _ => ?_)
    | refine fr_callV (fr_f_X6_goOnFrom _ _ _ _) (by assumption) (fun _ _ _ => ?_)
    | refine fr_bind (fr_f_X6_goOnFrom _ _ _ _) (by assumption) (fun _ _ _ => ?_)
    | refine fr_binI (fr_f_X6_goOnFrom _ _ _ _) (by assumption) (fun _ _ _ => ?_))
theorem fr_X6_measureFrom_L38  : ∀ (m : Nat) (u0 : Nat) (u1 : Nat) (u2 : Int32) (u3 : KH), FR u3 (X6_measureFrom_L38  m u0 u1 u2 u3) := by
  intro m
  induction m with
  | zero => intro u0 u1 u2 u3; exact fr_none
  | succ m ih => intro u0 u1 u2 u3; exact fr_X6_measureFrom_b38 (X6_measureFrom_L38  m) ih u0 u1 u2 u3
theorem fr_X6_measureFrom_b9 (rc9 : Nat → Int32 → Nat → Int32 → KH → KO Unit) (hr9 : ∀ (u0 : Nat) (u1 : Int32) (u2 : Nat) (u3 : Int32) (u4 : KH), FR u4 (rc9 u0 u1 u2 u3 u4)) (v0 : Nat) (v1 : Int32) (v2 : Nat) (v3 : Int32) (h : KH) : FR h (X6_measureFrom_b9 rc9 v0 v1 v2 v3 h) := by
  unfold X6_measureFrom_b9
  have q0 : FL h h := FL.rf h
  repeat' with_reducible (first
    | exact fr_ret (by assumption)
    | exact fr_retZ (by assumption)
    | exact fr_retC (by assumption)
    | exact fr_thr (by assumption)
    | exact fr_none
    | exact fr_go (hr9 _ _ _ _ _) (by assumption)
    | exact fr_go (fr_X6_measureFrom_L38 _ _ _ _ _) (by assumption)
    | refine fr_gI (fun _ => ?_)
    | refine fr_gR (fun _ => ?_)
    | refine fr_gN (fun _ => ?_)
    | refine fr_gAI (fun _ => ?_)
    | refine fr_gAL (fun _ => ?_)
    | refine fr_gAN (fun _ => ?_)
    | refine fr_kif ?_ ?_
    | refine fr_nul ?_ (fun _ => ?_)
    | refine fr_may (fun _ => ?_)
    | refine fr_kdv ?_
    | refine fr_pI (by assumption) (by decide) (fun _ _ => ?_)
    | refine fr_pR (by assumption) (fun _ _ => ?_)
    | refine fr_pAI (by assumption) (by decide) (fun _ _ => ?_)
    | refine fr_pAZ (by assumption) (by decide) (fun _ _ => ?_)
    | refine fr_pAL (by assumption) (fun _ _ => ?_)
    | refine fr_pAN (by assumption) (fun _ _ => ?_)
    | refine fr_nw (by assumption) (fun _ _ _ => ?_)
    | refine fr_nwM (by assumption) (fun _ _ _ => ?_)
    | refine fr_callV (hr9 _ _ _ _ _) (by assumption) (fun _ _ _ => ?_)
    | refine fr_bind (hr9 _ _ _ _ _) (by assumption) (fun _ _ _ => ?_)
    | refine fr_binI (hr9 _ _ _ _ _) (by assumption) (fun _ _ _ => ?_)
    | refine fr_callV (fr_X6_measureFrom_L38 _ _ _ _ _) (by assumption) (fun _ _ _ => ?_)
    | refine fr_bind (fr_X6_measureFrom_L38 _ _ _ _ _) (by assumption) (fun _ _ _ => ?_)
    | refine fr_binI (fr_X6_measureFrom_L38 _ _ _ _ _) (by assumption) (fun _ _ _ => ?_))
theorem fr_X6_measureFrom_L9  : ∀ (m : Nat) (u0 : Nat) (u1 : Int32) (u2 : Nat) (u3 : Int32) (u4 : KH), FR u4 (X6_measureFrom_L9  m u0 u1 u2 u3 u4) := by
  intro m
  induction m with
  | zero => intro u0 u1 u2 u3 u4; exact fr_none
  | succ m ih => intro u0 u1 u2 u3 u4; exact fr_X6_measureFrom_b9 (X6_measureFrom_L9  m) ih u0 u1 u2 u3 u4
theorem fr_f_X6_measureFrom  (p0 : Nat) (p1 : Int32) (h : KH) : FR h (f_X6_measureFrom p0 p1 h) := by
  unfold f_X6_measureFrom
  have q0 : FL h h := FL.rf h
  repeat' with_reducible (first
    | exact fr_ret (by assumption)
    | exact fr_retZ (by assumption)
    | exact fr_retC (by assumption)
    | exact fr_thr (by assumption)
    | exact fr_none
    | exact fr_go (fr_X6_measureFrom_L9 _ _ _ _ _ _) (by assumption)
    | refine fr_gI (fun _ => ?_)
    | refine fr_gR (fun _ => ?_)
    | refine fr_gN (fun _ => ?_)
    | refine fr_gAI (fun _ => ?_)
    | refine fr_gAL (fun _ => ?_)
    | refine fr_gAN (fun _ => ?_)
    | refine fr_kif ?_ ?_
    | refine fr_nul ?_ (fun _ => ?_)
    | refine fr_may (fun _ => ?_)
    | refine fr_kdv ?_
    | refine fr_pI (by assumption) (by decide) (fun _ _ => ?_)
    | refine fr_pR (by assumption) (fun _ _ => ?_)
    | refine fr_pAI (by assumption) (by decide) (fun _ _ => ?_)
    | refine fr_pAZ (by assumption) (by decide) (fun _ _ => ?_)
    | refine fr_pAL (by assumption) (fun _ _ => ?_)
    | refine fr_pAN (by assumption) (fun _ _ => ?_)
    | refine fr_nw (by assumption) (fun _ _ _ => ?_)
    | refine fr_nwM (by assumption) (fun _ _ _ => ?_)
    | refine fr_callV (fr_X6_measureFrom_L9 _ _ _ _ _ _) (by assumption) (fun _ _ _ => ?_)
    | refine fr_bind (fr_X6_measureFrom_L9 _ _ _ _ _ _) (by assumption) (fun _ _ _ => ?_)
    | refine fr_binI (fr_X6_measureFrom_L9 _ _ _ _ _ _) (by assumption) (fun _ _ _ => ?_))
theorem fr_X6_measureAll_b2 (rc2 : Nat → Int32 → KH → KO Unit) (hr2 : ∀ (u0 : Nat) (u1 : Int32) (u2 : KH), FR u2 (rc2 u0 u1 u2)) (v0 : Nat) (v1 : Int32) (h : KH) : FR h (X6_measureAll_b2 rc2 v0 v1 h) := by
  unfold X6_measureAll_b2
  have q0 : FL h h := FL.rf h
  repeat' with_reducible (first
    | exact fr_ret (by assumption)
    | exact fr_retZ (by assumption)
    | exact fr_retC (by assumption)
    | exact fr_thr (by assumption)
    | exact fr_none
    | exact fr_go (hr2 _ _ _) (by assumption)
    | exact fr_go (fr_f_X6_measureFrom _ _ _) (by assumption)
    | refine fr_gI (fun _ => ?_)
    | refine fr_gR (fun _ => ?_)
    | refine fr_gN (fun _ => ?_)
    | refine fr_gAI (fun _ => ?_)
    | refine fr_gAL (fun _ => ?_)
    | refine fr_gAN (fun _ => ?_)
    | refine fr_kif ?_ ?_
    | refine fr_nul ?_ (fun _ => ?_)
    | refine fr_may (fun _ => ?_)
    | refine fr_kdv ?_
    | refine fr_pI (by assumption) (by decide) (fun _ _ => ?_)
    | refine fr_pR (by assumption) (fun _ _ => ?_)
    | refine fr_pAI (by assumption) (by decide) (fun _ _ => ?_)
    | refine fr_pAZ (by assumption) (by decide) (fun _ _ => ?_)
    | refine fr_pAL (by assumption) (fun _ _ => ?_)
    | refine fr_pAN (by assumption) (fun _ _ => ?_)
    | refine fr_nw (by assumption) (fun _ _ _ => ?_)
    | refine fr_nwM (by assumption) (fun _ _ _ => ?_)
    | refine fr_callV (hr2 _ _ _) (by assumption) (fun _ _ _ => ?_)
    | refine fr_bind (hr2 _ _ _) (by assumption) (fun _ _ _ => ?_)
    | refine fr_binI (hr2 _ _ _) (by assumption) (fun _ _ _ => ?_)
    | refine fr_callV (fr_f_X6_measureFrom _ _ _) (by assumption) (fun _ _ _ => ?_)
    | refine fr_bind (fr_f_X6_measureFrom _ _ _) (by assumption) (fun _ _ _ => ?_)
    | refine fr_binI (fr_f_X6_measureFrom _ _ _) (by assumption) (fun _ _ _ => ?_))
theorem fr_X6_measureAll_L2  : ∀ (m : Nat) (u0 : Nat) (u1 : Int32) (u2 : KH), FR u2 (X6_measureAll_L2  m u0 u1 u2) := by
  intro m
  induction m with
  | zero => intro u0 u1 u2; exact fr_none
  | succ m ih => intro u0 u1 u2; exact fr_X6_measureAll_b2 (X6_measureAll_L2  m) ih u0 u1 u2
theorem fr_f_X6_measureAll  (p0 : Nat) (h : KH) : FR h (f_X6_measureAll p0 h) := by
  unfold f_X6_measureAll
  have q0 : FL h h := FL.rf h
  repeat' with_reducible (first
    | exact fr_ret (by assumption)
    | exact fr_retZ (by assumption)
    | exact fr_retC (by assumption)
    | exact fr_thr (by assumption)
    | exact fr_none
    | exact fr_go (fr_X6_measureAll_L2 _ _ _ _) (by assumption)
    | refine fr_gI (fun _ => ?_)
    | refine fr_gR (fun _ => ?_)
    | refine fr_gN (fun _ => ?_)
    | refine fr_gAI (fun _ => ?_)
    | refine fr_gAL (fun _ => ?_)
    | refine fr_gAN (fun _ => ?_)
    | refine fr_kif ?_ ?_
    | refine fr_nul ?_ (fun _ => ?_)
    | refine fr_may (fun _ => ?_)
    | refine fr_kdv ?_
    | refine fr_pI (by assumption) (by decide) (fun _ _ => ?_)
    | refine fr_pR (by assumption) (fun _ _ => ?_)
    | refine fr_pAI (by assumption) (by decide) (fun _ _ => ?_)
    | refine fr_pAZ (by assumption) (by decide) (fun _ _ => ?_)
    | refine fr_pAL (by assumption) (fun _ _ => ?_)
    | refine fr_pAN (by assumption) (fun _ _ => ?_)
    | refine fr_nw (by assumption) (fun _ _ _ => ?_)
    | refine fr_nwM (by assumption) (fun _ _ _ => ?_)
    | refine fr_callV (fr_X6_measureAll_L2 _ _ _ _) (by assumption) (fun _ _ _ => ?_)
    | refine fr_bind (fr_X6_measureAll_L2 _ _ _ _) (by assumption) (fun _ _ _ => ?_)
    | refine fr_binI (fr_X6_measureAll_L2 _ _ _ _) (by assumption) (fun _ _ _ => ?_))
theorem fr_f_X6_init  (p0 : Nat) (h : KH) : FR h (f_X6_init p0 h) := by
  unfold f_X6_init
  have q0 : FL h h := FL.rf h
  repeat' with_reducible (first
    | exact fr_ret (by assumption)
    | exact fr_retZ (by assumption)
    | exact fr_retC (by assumption)
    | exact fr_thr (by assumption)
    | exact fr_none
    | exact fr_go (fr_f_X6_measureAll _ _) (by assumption)
    | refine fr_gI (fun _ => ?_)
    | refine fr_gR (fun _ => ?_)
    | refine fr_gN (fun _ => ?_)
    | refine fr_gAI (fun _ => ?_)
    | refine fr_gAL (fun _ => ?_)
    | refine fr_gAN (fun _ => ?_)
    | refine fr_kif ?_ ?_
    | refine fr_nul ?_ (fun _ => ?_)
    | refine fr_may (fun _ => ?_)
    | refine fr_kdv ?_
    | refine fr_pI (by assumption) (by decide) (fun _ _ => ?_)
    | refine fr_pR (by assumption) (fun _ _ => ?_)
    | refine fr_pAI (by assumption) (by decide) (fun _ _ => ?_)
    | refine fr_pAZ (by assumption) (by decide) (fun _ _ => ?_)
    | refine fr_pAL (by assumption) (fun _ _ => ?_)
    | refine fr_pAN (by assumption) (fun _ _ => ?_)
    | refine fr_nw (by assumption) (fun _ _ _ => ?_)
    | refine fr_nwM (by assumption) (fun _ _ _ => ?_)
    | refine fr_callV (fr_f_X6_measureAll _ _) (by assumption) (fun _ _ _ => ?_)
    | refine fr_bind (fr_f_X6_measureAll _ _) (by assumption) (fun _ _ _ => ?_)
    | refine fr_binI (fr_f_X6_measureAll _ _) (by assumption) (fun _ _ _ => ?_))
theorem fr_f_X7_init  (p0 : Nat) (h : KH) : FR h (f_X7_init p0 h) := by
  unfold f_X7_init
  have q0 : FL h h := FL.rf h
  repeat' with_reducible (first
    | exact fr_ret (by assumption)
    | exact fr_retZ (by assumption)
    | exact fr_retC (by assumption)
    | exact fr_thr (by assumption)
    | exact fr_none
    | refine fr_gI (fun _ => ?_)
    | refine fr_gR (fun _ => ?_)
    | refine fr_gN (fun _ => ?_)
    | refine fr_gAI (fun _ => ?_)
    | refine fr_gAL (fun _ => ?_)
    | refine fr_gAN (fun _ => ?_)
    | refine fr_kif ?_ ?_
    | refine fr_nul ?_ (fun _ => ?_)
    | refine fr_may (fun _ => ?_)
    | refine fr_kdv ?_
    | refine fr_pI (by assumption) (by decide) (fun _ _ => ?_)
    | refine fr_pR (by assumption) (fun _ _ => ?_)
    | refine fr_pAI (by assumption) (by decide) (fun _ _ => ?_)
    | refine fr_pAZ (by assumption) (by decide) (fun _ _ => ?_)
    | refine fr_pAL (by assumption) (fun _ _ => ?_)
    | refine fr_pAN (by assumption) (fun _ _ => ?_)
    | refine fr_nw (by assumption) (fun _ _ _ => ?_)
    | refine fr_nwM (by assumption) (fun _ _ _ => ?_))
theorem fr_f_X2_init  (p0 : Nat) (h : KH) : FR h (f_X2_init p0 h) := by
  unfold f_X2_init
  have q0 : FL h h := FL.rf h
  repeat' with_reducible (first
    | exact fr_ret (by assumption)
    | exact fr_retZ (by assumption)
    | exact fr_retC (by assumption)
    | exact fr_thr (by assumption)
    | exact fr_none
    | refine fr_gI (fun _ => ?_)
    | refine fr_gR (fun _ => ?_)
    | refine fr_gN (fun _ => ?_)
    | refine fr_gAI (fun _ => ?_)
    | refine fr_gAL (fun _ => ?_)
    | refine fr_gAN (fun _ => ?_)
    | refine fr_kif ?_ ?_
    | refine fr_nul ?_ (fun _ => ?_)
    | refine fr_may (fun _ => ?_)
    | refine fr_kdv ?_
    | refine fr_pI (by assumption) (by decide) (fun _ _ => ?_)
    | refine fr_pR (by assumption) (fun _ _ => ?_)
    | refine fr_pAI (by assumption) (by decide) (fun _ _ => ?_)
    | refine fr_pAZ (by assumption) (by decide) (fun _ _ => ?_)
    | refine fr_pAL (by assumption) (fun _ _ => ?_)
    | refine fr_pAN (by assumption) (fun _ _ => ?_)
    | refine fr_nw (by assumption) (fun _ _ _ => ?_)
    | refine fr_nwM (by assumption) (fun _ _ _ => ?_))
theorem fr_f_X3_init  (p0 : Nat) (h : KH) : FR h (f_X3_init p0 h) := by
  unfold f_X3_init
  have q0 : FL h h := FL.rf h
  repeat' with_reducible (first
    | exact fr_ret (by assumption)
    | exact fr_retZ (by assumption)
    | exact fr_retC (by assumption)
    | exact fr_thr (by assumption)
    | exact fr_none
    | refine fr_gI (fun _ => ?_)
    | refine fr_gR (fun _ => ?_)
    | refine fr_gN (fun _ => ?_)
    | refine fr_gAI (fun _ => ?_)
    | refine fr_gAL (fun _ => ?_)
    | refine fr_gAN (fun _ => ?_)
    | refine fr_kif ?_ ?_
    | refine fr_nul ?_ (fun _ => ?_)
    | refine fr_may (fun _ => ?_)
    | refine fr_kdv ?_
    | refine fr_pI (by assumption) (by decide) (fun _ _ => ?_)
    | refine fr_pR (by assumption) (fun _ _ => ?_)
    | refine fr_pAI (by assumption) (by decide) (fun _ _ => ?_)
    | refine fr_pAZ (by assumption) (by decide) (fun _ _ => ?_)
    | refine fr_pAL (by assumption) (fun _ _ => ?_)
    | refine fr_pAN (by assumption) (fun _ _ => ?_)
    | refine fr_nw (by assumption) (fun _ _ _ => ?_)
    | refine fr_nwM (by assumption) (fun _ _ _ => ?_))
theorem fr_f_X9_init  (p0 : Nat) (h : KH) : FR h (f_X9_init p0 h) := by
  unfold f_X9_init
  have q0 : FL h h := FL.rf h
  repeat' with_reducible (first
    | exact fr_ret (by assumption)
    | exact fr_retZ (by assumption)
    | exact fr_retC (by assumption)
    | exact fr_thr (by assumption)
    | exact fr_none
    | exact fr_go (fr_f_X6_init _ _) (by assumption)
    | exact fr_go (fr_f_X7_init _ _) (by assumption)
    | exact fr_go (fr_f_X2_init _ _) (by assumption)
    | exact fr_go (fr_f_X3_init _ _) (by assumption)
    | refine fr_gI (fun _ => ?_)
    | refine fr_gR (fun _ => ?_)
    | refine fr_gN (fun _ => ?_)
    | refine fr_gAI (fun _ => ?_)
    | refine fr_gAL (fun _ => ?_)
    | refine fr_gAN (fun _ => ?_)
    | refine fr_kif ?_ ?_
    | refine fr_nul ?_ (fun _ => ?_)
    | refine fr_may (fun _ => ?_)
    | refine fr_kdv ?_
    | refine fr_pI (by assumption) (by decide) (fun _ _ => ?_)
    | refine fr_pR (by assumption) (fun _ _ => ?_)
    | refine fr_pAI (by assumption) (by decide) (fun _ _ => ?_)
    | refine fr_pAZ (by assumption) (by decide) (fun _ _ => ?_)
    | refine fr_pAL (by assumption) (fun _ _ => ?_)
    | refine fr_pAN (by assumption) (fun _ _ => ?_)
    | refine fr_nw (by assumption) (fun _ _ _ => ?_)
    | refine fr_nwM (by assumption) (fun _ _ _ => ?_)
    | refine fr_callV (fr_f_X6_init _ _) (by assumption) (fun _ _ _ => ?_)
    | refine fr_bind (fr_f_X6_init _ _) (by assumption) (fun _ _ _ => ?_)
    | refine fr_binI (fr_f_X6_init _ _) (by assumption) (fun _ _ _ => ?_)
    | refine fr_callV (fr_f_X7_init _ _) (by assumption) (fun _ _ _ => ?_)
    | refine fr_bind (fr_f_X7_init _ _) (by assumption) (fun _ _ _ => ?_)
    | refine fr_binI (fr_f_X7_init _ _) (by assumption) (fun _ _ _ => ?_)
    | refine fr_callV (fr_f_X2_init _ _) (by assumption) (fun _ _ _ => ?_)
    | refine fr_bind (fr_f_X2_init _ _) (by assumption) (fun _ _ _ => ?_)
    | refine fr_binI (fr_f_X2_init _ _) (by assumption) (fun _ _ _ => ?_)
    | refine fr_callV (fr_f_X3_init _ _) (by assumption) (fun _ _ _ => ?_)
    | refine fr_bind (fr_f_X3_init _ _) (by assumption) (fun _ _ _ => ?_)
    | refine fr_binI (fr_f_X3_init _ _) (by assumption) (fun _ _ _ => ?_))
theorem fr_X9_isWithin_b15  (s0 : Int32) (h : KH) : FR h (X9_isWithin_b15 s0 h) := by
  unfold X9_isWithin_b15
  have q0 : FL h h := FL.rf h
  repeat' with_reducible (first
    | exact fr_ret (by assumption)
    | exact fr_retZ (by assumption)
    | exact fr_retC (by assumption)
    | exact fr_thr (by assumption)
    | exact fr_none
    | refine fr_gI (fun _ => ?_)
    | refine fr_gR (fun _ => ?_)
    | refine fr_gN (fun _ => ?_)
    | refine fr_gAI (fun _ => ?_)
    | refine fr_gAL (fun _ => ?_)
    | refine fr_gAN (fun _ => ?_)
    | refine fr_kif ?_ ?_
    | refine fr_nul ?_ (fun _ => ?_)
    | refine fr_may (fun _ => ?_)
    | refine fr_kdv ?_
    | refine fr_pI (by assumption) (by decide) (fun _ _ => ?_)
    | refine fr_pR (by assumption) (fun _ _ => ?_)
    | refine fr_pAI (by assumption) (by decide) (fun _ _ => ?_)
    | refine fr_pAZ (by assumption) (by decide) (fun _ _ => ?_)
    | refine fr_pAL (by assumption) (fun _ _ => ?_)
    | refine fr_pAN (by assumption) (fun _ _ => ?_)
    | refine fr_nw (by assumption) (fun _ _ _ => ?_)
    | refine fr_nwM (by assumption) (fun _ _ _ => ?_))
theorem ro_X9_isWithin_b15  (s0 : Int32) (h : KH) : RO h (X9_isWithin_b15 s0 h) := by
  unfold X9_isWithin_b15
  repeat' with_reducible (first
    | exact ro_ret
    | exact ro_retZ
    | exact ro_retC
    | exact ro_thr
    | exact ro_none
    | refine ro_gI (fun _ => ?_)
    | refine ro_gR (fun _ => ?_)
    | refine ro_gN (fun _ => ?_)
    | refine ro_gAI (fun _ => ?_)
    | refine ro_gAL (fun _ => ?_)
    | refine ro_gAN (fun _ => ?_)
    | refine ro_kif ?_ ?_
    | refine ro_nul ?_ (fun _ => ?_)
    | refine ro_may (fun _ => ?_)
    | refine ro_kdv ?_)
theorem fr_X9_isWithin_b14  (h : KH) : FR h (X9_isWithin_b14 h) := by
  unfold X9_isWithin_b14
  have q0 : FL h h := FL.rf h
  repeat' with_reducible (first
    | exact fr_ret (by assumption)
    | exact fr_retZ (by assumption)
    | exact fr_retC (by assumption)
    | exact fr_thr (by assumption)
    | exact fr_none
    | exact fr_go (fr_X9_isWithin_b15 _ _) (by assumption)
    | refine fr_gI (fun _ => ?_)
    | refine fr_gR (fun _ => ?_)
    | refine fr_gN (fun _ => ?_)
    | refine fr_gAI (fun _ => ?_)
    | refine fr_gAL (fun _ => ?_)
    | refine fr_gAN (fun _ => ?_)
    | refine fr_kif ?_ ?_
    | refine fr_nul ?_ (fun _ => ?_)
    | refine fr_may (fun _ => ?_)
    | refine fr_kdv ?_
    | refine fr_pI (by assumption) (by decide) (fun _ _ => ?_)
    | refine fr_pR (by assumption) (fun _ _ => ?_)
    | refine fr_pAI (by assumption) (by decide) (fun _ _ => ?_)
    | refine fr_pAZ (by assumption) (by decide) (fun _ _ => ?_)
    | refine fr_pAL (by assumption) (fun _ _ => ?_)
    | refine fr_pAN (by assumption) (fun _ _ => ?_)
    | refine fr_nw (by assumption) (fun _ _ _ => ?_)
    | refine fr_nwM (by assumption) (fun _ _ _ => ?_)
    | refine fr_callV (fr_X9_isWithin_b15 _ _) (by assumption) (fun _ _ _ => ?_)
    | refine fr_bind (fr_X9_isWithin_b15 _ _) (by assumption) (fun _ _ _ => ?_)
    | refine fr_binI (fr_X9_isWithin_b15 _ _) (by assumption) (fun _ _ _ => ?_))
theorem ro_X9_isWithin_b14  (h : KH) : RO h (X9_isWithin_b14 h) := by
  unfold X9_isWithin_b14
  repeat' with_reducible (first
    | exact ro_ret
    | exact ro_retZ
    | exact ro_retC
    | exact ro_thr
    | exact ro_none
    | exact ro_X9_isWithin_b15 _ _
    | refine ro_gI (fun _ => ?_)
    | refine ro_gR (fun _ => ?_)
    | refine ro_gN (fun _ => ?_)
    | refine ro_gAI (fun _ => ?_)
    | refine ro_gAL (fun _ => ?_)
    | refine ro_gAN (fun _ => ?_)
    | refine ro_kif ?_ ?_
    | refine ro_nul ?_ (fun _ => ?_)
    | refine ro_may (fun _ => ?_)
    | refine ro_kdv ?_
    | refine ro_callV (ro_X9_isWithin_b15 _ _) (fun _ => ?_)
    | refine ro_bind (ro_X9_isWithin_b15 _ _) (fun _ => ?_)
    | refine ro_binI (ro_X9_isWithin_b15 _ _) (fun _ => ?_))
theorem fr_f_X9_isWithin  (p0 : Int32) (p1 : Int32) (p2 : Int32) (h : KH) : FR h (f_X9_isWithin p0 p1 p2 h) := by
  unfold f_X9_isWithin
  have q0 : FL h h := FL.rf h
  repeat' with_reducible (first
    | exact fr_ret (by assumption)
    | exact fr_retZ (by assumption)
    | exact fr_retC (by assumption)
    | exact fr_thr (by assumption)
    | exact fr_none
    | exact fr_go (fr_X9_isWithin_b14 _) (by assumption)
    | exact fr_go (fr_X9_isWithin_b15 _ _) (by assumption)
    | refine fr_gI (fun _ => ?_)
    | refine fr_gR (fun _ => ?_)
    | refine fr_gN (fun _ => ?_)
    | refine fr_gAI (fun _ => ?_)
    | refine fr_gAL (fun _ => ?_)
    | refine fr_gAN (fun _ => ?_)
    | refine fr_kif ?_ ?_
    | refine fr_nul ?_ (fun _ => ?_)
    | refine fr_may (fun _ => ?_)
    | refine fr_kdv ?_
    | refine fr_pI (by assumption) (by decide) (fun _ _ => ?_)
    | refine fr_pR (by assumption) (fun _ _ => ?_)
    | refine fr_pAI (by assumption) (by decide) (fun _ _ => ?_)
    | refine fr_pAZ (by assumption) (by decide) (fun _ _ => ?_)
    | refine fr_pAL (by assumption) (fun _ _ => ?_)
    | refine fr_pAN (by assumption) (fun _ _ => ?_)
    | refine fr_nw (by assumption) (fun _ _ _ => ?_)
    | refine fr_nwM (by assumption) (fun _ _ _ => ?_)
    | refine fr_callV (fr_X9_isWithin_b14 _) (by assumption) (fun _ _ _ => ?_)
    | refine fr_bind (fr_X9_isWithin_b14 _) (by assumption) (fun _ _ _ => ?_)
    | refine fr_binI (fr_X9_isWithin_b14 _) (by assumption) (fun _ _ _ => ?_)
    | refine fr_callV (fr_X9_isWithin_b15 _ _) (by assumption) (fun _ _ _ => ?_)
    | refine fr_bind (fr_X9_isWithin_b15 _ _) (by assumption) (fun _ _ _ => ?_)
    | refine fr_binI (fr_X9_isWithin_b15 _ _) (by assumption) (fun _ _ _ => ?_))
theorem ro_f_X9_isWithin  (p0 : Int32) (p1 : Int32) (p2 : Int32) (h : KH) : RO h (f_X9_isWithin p0 p1 p2 h) := by
  unfold f_X9_isWithin
  repeat' with_reducible (first
    | exact ro_ret
    | exact ro_retZ
    | exact ro_retC
    | exact ro_thr
    | exact ro_none
    | exact ro_X9_isWithin_b14 _
    | exact ro_X9_isWithin_b15 _ _
    | refine ro_gI (fun _ => ?_)
    | refine ro_gR (fun _ => ?_)
    | refine ro_gN (fun _ => ?_)
    | refine ro_gAI (fun _ => ?_)
    | refine ro_gAL (fun _ => ?_)
    | refine ro_gAN (fun _ => ?_)
    | refine ro_kif ?_ ?_
    | refine ro_nul ?_ (fun _ => ?_)
    | refine ro_may (fun _ => ?_)
    | refine ro_kdv ?_
    | refine ro_callV (ro_X9_isWithin_b14 _) (fun _ => ?_)
    | refine ro_bind (ro_X9_isWithin_b14 _) (fun _ => ?_)
    | refine ro_binI (ro_X9_isWithin_b14 _) (fun _ => ?_)
    | refine ro_callV (ro_X9_isWithin_b15 _ _) (fun _ => ?_)
    | refine ro_bind (ro_X9_isWithin_b15 _ _) (fun _ => ?_)
    | refine ro_binI (ro_X9_isWithin_b15 _ _) (fun _ => ?_))
theorem fr_f_X9_pass  (p0 : Nat) (p1 : Int32) (h : KH) : FR h (f_X9_pass p0 p1 h) := by
  unfold f_X9_pass
  have q0 : FL h h := FL.rf h
  repeat' with_reducible (first
    | exact fr_ret (by assumption)
    | exact fr_retZ (by assumption)
    | exact fr_retC (by assumption)
    | exact fr_thr (by assumption)
    | exact fr_none
    | exact fr_go (fr_f_X9_isWithin _ _ _ _) (by assumption)
    | refine fr_gI (fun _ => ?_)
    | refine fr_gR (fun _ => ?_)
    | refine fr_gN (fun _ => ?_)
    | refine fr_gAI (fun _ => ?_)
    | refine fr_gAL (fun _ => ?_)
    | refine fr_gAN (fun _ => ?_)
    | refine fr_kif ?_ ?_
    | refine fr_nul ?_ (fun _ => ?_)
    | refine fr_may (fun _ => ?_)
    | refine fr_kdv ?_
    | refine fr_pI (by assumption) (by decide) (fun _ _ => ?_)
    | refine fr_pR (by assumption) (fun _ _ => ?_)
    | refine fr_pAI (by assumption) (by decide) (fun _ _ => ?_)
    | refine fr_pAZ (by assumption) (by decide) (fun _ _ => ?_)
    | refine fr_pAL (by assumption) (fun _ _ => ?_)
    | refine fr_pAN (by assumption) (fun _ _ => ?_)
    | refine fr_nw (by assumption) (fun _ _ _ => ?_)
    | refine fr_nwM (by assumption) (fun _ _ _ => ?_)
    | refine fr_callV (fr_f_X9_isWithin _ _ _ _) (by assumption) (fun _ _ _ => ?_)
    | refine fr_bind (fr_f_X9_isWithin _ _ _ _) (by assumption) (fun _ _ _ => ?_)
    | refine fr_binI (fr_f_X9_isWithin _ _ _ _) (by assumption) (fun _ _ _ => ?_))
theorem fr_f_X9_now  (p0 : Nat) (h : KH) : FR h (f_X9_now p0 h) := by
  unfold f_X9_now
  have q0 : FL h h := FL.rf h
  repeat' with_reducible (first
    | exact fr_ret (by assumption)
    | exact fr_retZ (by assumption)
    | exact fr_retC (by assumption)
    | exact fr_thr (by assumption)
    | exact fr_none
    | refine fr_gI (fun _ => ?_)
    | refine fr_gR (fun _ => ?_)
    | refine fr_gN (fun _ => ?_)
    | refine fr_gAI (fun _ => ?_)
    | refine fr_gAL (fun _ => ?_)
    | refine fr_gAN (fun _ => ?_)
    | refine fr_kif ?_ ?_
    | refine fr_nul ?_ (fun _ => ?_)
    | refine fr_may (fun _ => ?_)
    | refine fr_kdv ?_
    | refine fr_pI (by assumption) (by decide) (fun _ _ => ?_)
    | refine fr_pR (by assumption) (fun _ _ => ?_)
    | refine fr_pAI (by assumption) (by decide) (fun _ _ => ?_)
    | refine fr_pAZ (by assumption) (by decide) (fun _ _ => ?_)
    | refine fr_pAL (by assumption) (fun _ _ => ?_)
    | refine fr_pAN (by assumption) (fun _ _ => ?_)
    | refine fr_nw (by assumption) (fun _ _ _ => ?_)
    | refine fr_nwM (by assumption) (fun _ _ _ => ?_))
theorem ro_f_X9_now  (p0 : Nat) (h : KH) : RO h (f_X9_now p0 h) := by
  unfold f_X9_now
  repeat' with_reducible (first
    | exact ro_ret
    | exact ro_retZ
    | exact ro_retC
    | exact ro_thr
    | exact ro_none
    | refine ro_gI (fun _ => ?_)
    | refine ro_gR (fun _ => ?_)
    | refine ro_gN (fun _ => ?_)
    | refine ro_gAI (fun _ => ?_)
    | refine ro_gAL (fun _ => ?_)
    | refine ro_gAN (fun _ => ?_)
    | refine ro_kif ?_ ?_
    | refine ro_nul ?_ (fun _ => ?_)
    | refine ro_may (fun _ => ?_)
    | refine ro_kdv ?_)
theorem fr_f_X9_requireGate  (p0 : Int32) (h : KH) : FR h (f_X9_requireGate p0 h) := by
  unfold f_X9_requireGate
  have q0 : FL h h := FL.rf h
  repeat' with_reducible (first
    | exact fr_ret (by assumption)
    | exact fr_retZ (by assumption)
    | exact fr_retC (by assumption)
    | exact fr_thr (by assumption)
    | exact fr_none
    | exact fr_go (fr_f_X9_isWithin _ _ _ _) (by assumption)
    | refine fr_gI (fun _ => ?_)
    | refine fr_gR (fun _ => ?_)
    | refine fr_gN (fun _ => ?_)
    | refine fr_gAI (fun _ => ?_)
    | refine fr_gAL (fun _ => ?_)
    | refine fr_gAN (fun _ => ?_)
    | refine fr_kif ?_ ?_
    | refine fr_nul ?_ (fun _ => ?_)
    | refine fr_may (fun _ => ?_)
    | refine fr_kdv ?_
    | refine fr_pI (by assumption) (by decide) (fun _ _ => ?_)
    | refine fr_pR (by assumption) (fun _ _ => ?_)
    | refine fr_pAI (by assumption) (by decide) (fun _ _ => ?_)
    | refine fr_pAZ (by assumption) (by decide) (fun _ _ => ?_)
    | refine fr_pAL (by assumption) (fun _ _ => ?_)
    | refine fr_pAN (by assumption) (fun _ _ => ?_)
    | refine fr_nw (by assumption) (fun _ _ _ => ?_)
    | refine fr_nwM (by assumption) (fun _ _ _ => ?_)
    | refine fr_callV (fr_f_X9_isWithin _ _ _ _) (by assumption) (fun _ _ _ => ?_)
    | refine fr_bind (fr_f_X9_isWithin _ _ _ _) (by assumption) (fun _ _ _ => ?_)
    | refine fr_binI (fr_f_X9_isWithin _ _ _ _) (by assumption) (fun _ _ _ => ?_))
theorem ro_f_X9_requireGate  (p0 : Int32) (h : KH) : RO h (f_X9_requireGate p0 h) := by
  unfold f_X9_requireGate
  repeat' with_reducible (first
    | exact ro_ret
    | exact ro_retZ
    | exact ro_retC
    | exact ro_thr
    | exact ro_none
    | exact ro_f_X9_isWithin _ _ _ _
    | refine ro_gI (fun _ => ?_)
    | refine ro_gR (fun _ => ?_)
    | refine ro_gN (fun _ => ?_)
    | refine ro_gAI (fun _ => ?_)
    | refine ro_gAL (fun _ => ?_)
    | refine ro_gAN (fun _ => ?_)
    | refine ro_kif ?_ ?_
    | refine ro_nul ?_ (fun _ => ?_)
    | refine ro_may (fun _ => ?_)
    | refine ro_kdv ?_
    | refine ro_callV (ro_f_X9_isWithin _ _ _ _) (fun _ => ?_)
    | refine ro_bind (ro_f_X9_isWithin _ _ _ _) (fun _ => ?_)
    | refine ro_binI (ro_f_X9_isWithin _ _ _ _) (fun _ => ?_))
theorem fr_f_X6_lengthOf  (p0 : Nat) (p1 : Int32) (p2 : Int32) (h : KH) : FR h (f_X6_lengthOf p0 p1 p2 h) := by
  unfold f_X6_lengthOf
  have q0 : FL h h := FL.rf h
  repeat' with_reducible (first
    | exact fr_ret (by assumption)
    | exact fr_retZ (by assumption)
    | exact fr_retC (by assumption)
    | exact fr_thr (by assumption)
    | exact fr_none
    | refine fr_gI (fun _ => ?_)
    | refine fr_gR (fun _ => ?_)
    | refine fr_gN (fun _ => ?_)
    | refine fr_gAI (fun _ => ?_)
    | refine fr_gAL (fun _ => ?_)
    | refine fr_gAN (fun _ => ?_)
    | refine fr_kif ?_ ?_
    | refine fr_nul ?_ (fun _ => ?_)
    | refine fr_may (fun _ => ?_)
    | refine fr_kdv ?_
    | refine fr_pI (by assumption) (by decide) (fun _ _ => ?_)
    | refine fr_pR (by assumption) (fun _ _ => ?_)
    | refine fr_pAI (by assumption) (by decide) (fun _ _ => ?_)
    | refine fr_pAZ (by assumption) (by decide) (fun _ _ => ?_)
    | refine fr_pAL (by assumption) (fun _ _ => ?_)
    | refine fr_pAN (by assumption) (fun _ _ => ?_)
    | refine fr_nw (by assumption) (fun _ _ _ => ?_)
    | refine fr_nwM (by assumption) (fun _ _ _ => ?_))
theorem ro_f_X6_lengthOf  (p0 : Nat) (p1 : Int32) (p2 : Int32) (h : KH) : RO h (f_X6_lengthOf p0 p1 p2 h) := by
  unfold f_X6_lengthOf
  repeat' with_reducible (first
    | exact ro_ret
    | exact ro_retZ
    | exact ro_retC
    | exact ro_thr
    | exact ro_none
    | refine ro_gI (fun _ => ?_)
    | refine ro_gR (fun _ => ?_)
    | refine ro_gN (fun _ => ?_)
    | refine ro_gAI (fun _ => ?_)
    | refine ro_gAL (fun _ => ?_)
    | refine ro_gAN (fun _ => ?_)
    | refine ro_kif ?_ ?_
    | refine ro_nul ?_ (fun _ => ?_)
    | refine ro_may (fun _ => ?_)
    | refine ro_kdv ?_)
theorem fr_f_X6_build  (p0 : Nat) (p1 : Int32) (p2 : Int32) (p3 : Int32) (h : KH) : FR h (f_X6_build p0 p1 p2 p3 h) := by
  unfold f_X6_build
  have q0 : FL h h := FL.rf h
  repeat' with_reducible (first
    | exact fr_ret (by assumption)
    | exact fr_retZ (by assumption)
    | exact fr_retC (by assumption)
    | exact fr_thr (by assumption)
    | exact fr_none
    | exact fr_go (fr_f_X6_measureAll _ _) (by assumption)
    | refine fr_gI (fun _ => ?_)
    | refine fr_gR (fun _ => ?_)
    | refine fr_gN (fun _ => ?_)
    | refine fr_gAI (fun _ => ?_)
    | refine fr_gAL (fun _ => ?_)
    | refine fr_gAN (fun _ => ?_)
    | refine fr_kif ?_ ?_
    | refine fr_nul ?_ (fun _ => ?_)
    | refine fr_may (fun _ => ?_)
    | refine fr_kdv ?_
    | refine fr_pI (by assumption) (by decide) (fun _ _ => ?_)
    | refine fr_pR (by assumption) (fun _ _ => ?_)
    | refine fr_pAI (by assumption) (by decide) (fun _ _ => ?_)
    | refine fr_pAZ (by assumption) (by decide) (fun _ _ => ?_)
    | refine fr_pAL (by assumption) (fun _ _ => ?_)
    | refine fr_pAN (by assumption) (fun _ _ => ?_)
    | refine fr_nw (by assumption) (fun _ _ _ => ?_)
    | refine fr_nwM (by assumption) (fun _ _ _ => ?_)
    | refine fr_callV (fr_f_X6_measureAll _ _) (by assumption) (fun _ _ _ => ?_)
    | refine fr_bind (fr_f_X6_measureAll _ _) (by assumption) (fun _ _ _ => ?_)
    | refine fr_binI (fr_f_X6_measureAll _ _) (by assumption) (fun _ _ _ => ?_))
theorem fr_f_X6_between  (p0 : Nat) (p1 : Int32) (p2 : Int32) (h : KH) : FR h (f_X6_between p0 p1 p2 h) := by
  unfold f_X6_between
  have q0 : FL h h := FL.rf h
  repeat' with_reducible (first
    | exact fr_ret (by assumption)
    | exact fr_retZ (by assumption)
    | exact fr_retC (by assumption)
    | exact fr_thr (by assumption)
    | exact fr_none
    | refine fr_gI (fun _ => ?_)
    | refine fr_gR (fun _ => ?_)
    | refine fr_gN (fun _ => ?_)
    | refine fr_gAI (fun _ => ?_)
    | refine fr_gAL (fun _ => ?_)
    | refine fr_gAN (fun _ => ?_)
    | refine fr_kif ?_ ?_
    | refine fr_nul ?_ (fun _ => ?_)
    | refine fr_may (fun _ => ?_)
    | refine fr_kdv ?_
    | refine fr_pI (by assumption) (by decide) (fun _ _ => ?_)
    | refine fr_pR (by assumption) (fun _ _ => ?_)
    | refine fr_pAI (by assumption) (by decide) (fun _ _ => ?_)
    | refine fr_pAZ (by assumption) (by decide) (fun _ _ => ?_)
    | refine fr_pAL (by assumption) (fun _ _ => ?_)
    | refine fr_pAN (by assumption) (fun _ _ => ?_)
    | refine fr_nw (by assumption) (fun _ _ _ => ?_)
    | refine fr_nwM (by assumption) (fun _ _ _ => ?_))
theorem ro_f_X6_between  (p0 : Nat) (p1 : Int32) (p2 : Int32) (h : KH) : RO h (f_X6_between p0 p1 p2 h) := by
  unfold f_X6_between
  repeat' with_reducible (first
    | exact ro_ret
    | exact ro_retZ
    | exact ro_retC
    | exact ro_thr
    | exact ro_none
    | refine ro_gI (fun _ => ?_)
    | refine ro_gR (fun _ => ?_)
    | refine ro_gN (fun _ => ?_)
    | refine ro_gAI (fun _ => ?_)
    | refine ro_gAL (fun _ => ?_)
    | refine ro_gAN (fun _ => ?_)
    | refine ro_kif ?_ ?_
    | refine ro_nul ?_ (fun _ => ?_)
    | refine ro_may (fun _ => ?_)
    | refine ro_kdv ?_)
theorem fr_X6_isOneTrip_b55  (s0 : Int32) (h : KH) : FR h (X6_isOneTrip_b55 s0 h) := by
  unfold X6_isOneTrip_b55
  have q0 : FL h h := FL.rf h
  repeat' with_reducible (first
    | exact fr_ret (by assumption)
    | exact fr_retZ (by assumption)
    | exact fr_retC (by assumption)
    | exact fr_thr (by assumption)
    | exact fr_none
    | refine fr_gI (fun _ => ?_)
    | refine fr_gR (fun _ => ?_)
    | refine fr_gN (fun _ => ?_)
    | refine fr_gAI (fun _ => ?_)
    | refine fr_gAL (fun _ => ?_)
    | refine fr_gAN (fun _ => ?_)
    | refine fr_kif ?_ ?_
    | refine fr_nul ?_ (fun _ => ?_)
    | refine fr_may (fun _ => ?_)
    | refine fr_kdv ?_
    | refine fr_pI (by assumption) (by decide) (fun _ _ => ?_)
    | refine fr_pR (by assumption) (fun _ _ => ?_)
    | refine fr_pAI (by assumption) (by decide) (fun _ _ => ?_)
    | refine fr_pAZ (by assumption) (by decide) (fun _ _ => ?_)
    | refine fr_pAL (by assumption) (fun _ _ => ?_)
    | refine fr_pAN (by assumption) (fun _ _ => ?_)
    | refine fr_nw (by assumption) (fun _ _ _ => ?_)
    | refine fr_nwM (by assumption) (fun _ _ _ => ?_))
theorem ro_X6_isOneTrip_b55  (s0 : Int32) (h : KH) : RO h (X6_isOneTrip_b55 s0 h) := by
  unfold X6_isOneTrip_b55
  repeat' with_reducible (first
    | exact ro_ret
    | exact ro_retZ
    | exact ro_retC
    | exact ro_thr
    | exact ro_none
    | refine ro_gI (fun _ => ?_)
    | refine ro_gR (fun _ => ?_)
    | refine ro_gN (fun _ => ?_)
    | refine ro_gAI (fun _ => ?_)
    | refine ro_gAL (fun _ => ?_)
    | refine ro_gAN (fun _ => ?_)
    | refine ro_kif ?_ ?_
    | refine ro_nul ?_ (fun _ => ?_)
    | refine ro_may (fun _ => ?_)
    | refine ro_kdv ?_)
theorem fr_X6_isOneTrip_b54  (h : KH) : FR h (X6_isOneTrip_b54 h) := by
  unfold X6_isOneTrip_b54
  have q0 : FL h h := FL.rf h
  repeat' with_reducible (first
    | exact fr_ret (by assumption)
    | exact fr_retZ (by assumption)
    | exact fr_retC (by assumption)
    | exact fr_thr (by assumption)
    | exact fr_none
    | exact fr_go (fr_X6_isOneTrip_b55 _ _) (by assumption)
    | refine fr_gI (fun _ => ?_)
    | refine fr_gR (fun _ => ?_)
    | refine fr_gN (fun _ => ?_)
    | refine fr_gAI (fun _ => ?_)
    | refine fr_gAL (fun _ => ?_)
    | refine fr_gAN (fun _ => ?_)
    | refine fr_kif ?_ ?_
    | refine fr_nul ?_ (fun _ => ?_)
    | refine fr_may (fun _ => ?_)
    | refine fr_kdv ?_
    | refine fr_pI (by assumption) (by decide) (fun _ _ => ?_)
    | refine fr_pR (by assumption) (fun _ _ => ?_)
    | refine fr_pAI (by assumption) (by decide) (fun _ _ => ?_)
    | refine fr_pAZ (by assumption) (by decide) (fun _ _ => ?_)
    | refine fr_pAL (by assumption) (fun _ _ => ?_)
    | refine fr_pAN (by assumption) (fun _ _ => ?_)
    | refine fr_nw (by assumption) (fun _ _ _ => ?_)
    | refine fr_nwM (by assumption) (fun _ _ _ => ?_)
    | refine fr_callV (fr_X6_isOneTrip_b55 _ _) (by assumption) (fun _ _ _ => ?_)
    | refine fr_bind (fr_X6_isOneTrip_b55 _ _) (by assumption) (fun _ _ _ => ?_)
    | refine fr_binI (fr_X6_isOneTrip_b55 _ _) (by assumption) (fun _ _ _ => ?_))
theorem ro_X6_isOneTrip_b54  (h : KH) : RO h (X6_isOneTrip_b54 h) := by
  unfold X6_isOneTrip_b54
  repeat' with_reducible (first
    | exact ro_ret
    | exact ro_retZ
    | exact ro_retC
    | exact ro_thr
    | exact ro_none
    | exact ro_X6_isOneTrip_b55 _ _
    | refine ro_gI (fun _ => ?_)
    | refine ro_gR (fun _ => ?_)
    | refine ro_gN (fun _ => ?_)
    | refine ro_gAI (fun _ => ?_)
    | refine ro_gAL (fun _ => ?_)
    | refine ro_gAN (fun _ => ?_)
    | refine ro_kif ?_ ?_
    | refine ro_nul ?_ (fun _ => ?_)
    | refine ro_may (fun _ => ?_)
    | refine ro_kdv ?_
    | refine ro_callV (ro_X6_isOneTrip_b55 _ _) (fun _ => ?_)
    | refine ro_bind (ro_X6_isOneTrip_b55 _ _) (fun _ => ?_)
    | refine ro_binI (ro_X6_isOneTrip_b55 _ _) (fun _ => ?_))
theorem fr_f_X6_isOneTrip  (p0 : Nat) (p1 : Nat) (p2 : Nat) (h : KH) : FR h (f_X6_isOneTrip p0 p1 p2 h) := by
  unfold f_X6_isOneTrip
  have q0 : FL h h := FL.rf h
  repeat' with_reducible (first
    | exact fr_ret (by assumption)
    | exact fr_retZ (by assumption)
    | exact fr_retC (by assumption)
    | exact fr_thr (by assumption)
    | exact fr_none
    | exact fr_go (fr_f_X6_between _ _ _ _) (by assumption)
    | exact fr_go (fr_X6_isOneTrip_b54 _) (by assumption)
    | exact fr_go (fr_X6_isOneTrip_b55 _ _) (by assumption)
    | refine fr_gI (fun _ => ?_)
    | refine fr_gR (fun _ => ?_)
    | refine fr_gN (fun _ => ?_)
    | refine fr_gAI (fun _ => ?_)
    | refine fr_gAL (fun _ => ?_)
    | refine fr_gAN (fun _ => ?_)
    | refine fr_kif ?_ ?_
    | refine fr_nul ?_ (fun _ => ?_)
    | refine fr_may (fun _ => ?_)
    | refine fr_kdv ?_
    | refine fr_pI (by assumption) (by decide) (fun _ _ => ?_)
    | refine fr_pR (by assumption) (fun _ _ => ?_)
    | refine fr_pAI (by assumption) (by decide) (fun _ _ => ?_)
    | refine fr_pAZ (by assumption) (by decide) (fun _ _ => ?_)
    | refine fr_pAL (by assumption) (fun _ _ => ?_)
    | refine fr_pAN (by assumption) (fun _ _ => ?_)
    | refine fr_nw (by assumption) (fun _ _ _ => ?_)
    | refine fr_nwM (by assumption) (fun _ _ _ => ?_)
    | refine fr_callV (fr_f_X6_between _ _ _ _) (by assumption) (fun _ _ _ => ?_)
    | refine fr_bind (fr_f_X6_between _ _ _ _) (by assumption) (fun _ _ _ => ?_)
    | refine fr_binI (fr_f_X6_between _ _ _ _) (by assumption) (fun _ _ _ => ?_)
    | refine fr_callV (fr_X6_isOneTrip_b54 _) (by assumption) (fun _ _ _ => ?_)
    | refine fr_bind (fr_X6_isOneTrip_b54 _) (by assumption) (fun _ _ _ => ?_)
    | refine fr_binI (fr_X6_isOneTrip_b54 _) (by assumption) (fun _ _ _ => ?_)
    | refine fr_callV (fr_X6_isOneTrip_b55 _ _) (by assumption) (fun _ _ _ => ?_)
    | refine fr_bind (fr_X6_isOneTrip_b55 _ _) (by assumption) (fun _ _ _ => ?_)
    | refine fr_binI (fr_X6_isOneTrip_b55 _ _) (by assumption) (fun _ _ _ => ?_))
theorem ro_f_X6_isOneTrip  (p0 : Nat) (p1 : Nat) (p2 : Nat) (h : KH) : RO h (f_X6_isOneTrip p0 p1 p2 h) := by
  unfold f_X6_isOneTrip
  repeat' with_reducible (first
    | exact ro_ret
    | exact ro_retZ
    | exact ro_retC
    | exact ro_thr
    | exact ro_none
    | exact ro_f_X6_between _ _ _ _
    | exact ro_X6_isOneTrip_b54 _
    | exact ro_X6_isOneTrip_b55 _ _
    | refine ro_gI (fun _ => ?_)
    | refine ro_gR (fun _ => ?_)
    | refine ro_gN (fun _ => ?_)
    | refine ro_gAI (fun _ => ?_)
    | refine ro_gAL (fun _ => ?_)
    | refine ro_gAN (fun _ => ?_)
    | refine ro_kif ?_ ?_
    | refine ro_nul ?_ (fun _ => ?_)
    | refine ro_may (fun _ => ?_)
    | refine ro_kdv ?_
    | refine ro_callV (ro_f_X6_between _ _ _ _) (fun _ => ?_)
    | refine ro_bind (ro_f_X6_between _ _ _ _) (fun _ => ?_)
    | refine ro_binI (ro_f_X6_between _ _ _ _) (fun _ => ?_)
    | refine ro_callV (ro_X6_isOneTrip_b54 _) (fun _ => ?_)
    | refine ro_bind (ro_X6_isOneTrip_b54 _) (fun _ => ?_)
    | refine ro_binI (ro_X6_isOneTrip_b54 _) (fun _ => ?_)
    | refine ro_callV (ro_X6_isOneTrip_b55 _ _) (fun _ => ?_)
    | refine ro_bind (ro_X6_isOneTrip_b55 _ _) (fun _ => ?_)
    | refine ro_binI (ro_X6_isOneTrip_b55 _ _) (fun _ => ?_))
theorem fr_X3_seeBeginning_b44  (h : KH) : FR h (X3_seeBeginning_b44 h) := by
  unfold X3_seeBeginning_b44
  have q0 : FL h h := FL.rf h
  repeat' with_reducible (first
    | exact fr_ret (by assumption)
    | exact fr_retZ (by assumption)
    | exact fr_retC (by assumption)
    | exact fr_thr (by assumption)
    | exact fr_none
    | refine fr_gI (fun _ => ?_)
    | refine fr_gR (fun _ => ?_)
    | refine fr_gN (fun _ => ?_)
    | refine fr_gAI (fun _ => ?_)
    | refine fr_gAL (fun _ => ?_)
    | refine fr_gAN (fun _ => ?_)
    | refine fr_kif ?_ ?_
    | refine fr_nul ?_ (fun _ => ?_)
    | refine fr_may (fun _ => ?_)
    | refine fr_kdv ?_
    | refine fr_pI (by assumption) (by decide) (fun _ _ => ?_)
    | refine fr_pR (by assumption) (fun _ _ => ?_)
    | refine fr_pAI (by assumption) (by decide) (fun _ _ => ?_)
    | refine fr_pAZ (by assumption) (by decide) (fun _ _ => ?_)
    | refine fr_pAL (by assumption) (fun _ _ => ?_)
    | refine fr_pAN (by assumption) (fun _ _ => ?_)
    | refine fr_nw (by assumption) (fun _ _ _ => ?_)
    | refine fr_nwM (by assumption) (fun _ _ _ => ?_))
theorem ro_X3_seeBeginning_b44  (h : KH) : RO h (X3_seeBeginning_b44 h) := by
  unfold X3_seeBeginning_b44
  repeat' with_reducible (first
    | exact ro_ret
    | exact ro_retZ
    | exact ro_retC
    | exact ro_thr
    | exact ro_none
    | refine ro_gI (fun _ => ?_)
    | refine ro_gR (fun _ => ?_)
    | refine ro_gN (fun _ => ?_)
    | refine ro_gAI (fun _ => ?_)
    | refine ro_gAL (fun _ => ?_)
    | refine ro_gAN (fun _ => ?_)
    | refine ro_kif ?_ ?_
    | refine ro_nul ?_ (fun _ => ?_)
    | refine ro_may (fun _ => ?_)
    | refine ro_kdv ?_)
theorem fr_X3_seeBeginning_b43  (s0 : Int32) (s1 : Int32) (s2 : Nat) (h : KH) : FR h (X3_seeBeginning_b43 s0 s1 s2 h) := by
  unfold X3_seeBeginning_b43
  have q0 : FL h h := FL.rf h
  repeat' with_reducible (first
    | exact fr_ret (by assumption)
    | exact fr_retZ (by assumption)
    | exact fr_retC (by assumption)
    | exact fr_thr (by assumption)
    | exact fr_none
    | exact fr_go (fr_X3_seeBeginning_b44 _) (by assumption)
    | refine fr_gI (fun _ => ?_)
    | refine fr_gR (fun _ => ?_)
    | refine fr_gN (fun _ => ?_)
    | refine fr_gAI (fun _ => ?_)
    | refine fr_gAL (fun _ => ?_)
    | refine fr_gAN (fun _ => ?_)
    | refine fr_kif ?_ ?_
    | refine fr_nul ?_ (fun _ => ?_)
    | refine fr_may (fun _ => ?_)
    | refine fr_kdv ?_
    | refine fr_pI (by assumption) (by decide) (fun _ _ => ?_)
    | refine fr_pR (by assumption) (fun _ _ => ?_)
    | refine fr_pAI (by assumption) (by decide) (fun _ _ => ?_)
    | refine fr_pAZ (by assumption) (by decide) (fun _ _ => ?_)
    | refine fr_pAL (by assumption) (fun _ _ => ?_)
    | refine fr_pAN (by assumption) (fun _ _ => ?_)
    | refine fr_nw (by assumption) (fun _ _ _ => ?_)
    | refine fr_nwM (by assumption) (fun _ _ _ => ?_)
    | refine fr_callV (fr_X3_seeBeginning_b44 _) (by assumption) (fun _ _ _ => ?_)
    | refine fr_bind (fr_X3_seeBeginning_b44 _) (by assumption) (fun _ _ _ => ?_)
    | refine fr_binI (fr_X3_seeBeginning_b44 _) (by assumption) (fun _ _ _ => ?_))
theorem fr_X3_seeBeginning_b38  (s0 : Int32) (s1 : Nat) (h : KH) : FR h (X3_seeBeginning_b38 s0 s1 h) := by
  unfold X3_seeBeginning_b38
  have q0 : FL h h := FL.rf h
  repeat' with_reducible (first
    | exact fr_ret (by assumption)
    | exact fr_retZ (by assumption)
    | exact fr_retC (by assumption)
    | exact fr_thr (by assumption)
    | exact fr_none
    | exact fr_go (fr_X3_seeBeginning_b43 _ _ _ _) (by assumption)
    | refine fr_gI (fun _ => ?_)
    | refine fr_gR (fun _ => ?_)
    | refine fr_gN (fun _ => ?_)
    | refine fr_gAI (fun _ => ?_)
    | refine fr_gAL (fun _ => ?_)
    | refine fr_gAN (fun _ => ?_)
    | refine fr_kif ?_ ?_
    | refine fr_nul ?_ (fun _ => ?_)
    | refine fr_may (fun _ => ?_)
    | refine fr_kdv ?_
    | refine fr_pI (by assumption) (by decide) (fun _ _ => ?_)
    | refine fr_pR (by assumption) (fun _ _ => ?_)
    | refine fr_pAI (by assumption) (by decide) (fun _ _ => ?_)
    | refine fr_pAZ (by assumption) (by decide) (fun _ _ => ?_)
    | refine fr_pAL (by assumption) (fun _ _ => ?_)
    | refine fr_pAN (by assumption) (fun _ _ => ?_)
    | refine fr_nw (by assumption) (fun _ _ _ => ?_)
    | refine fr_nwM (by assumption) (fun _ _ _ => ?_)
    | refine fr_callV (fr_X3_seeBeginning_b43 _ _ _ _) (by assumption) (fun _ _ _ => ?_)
    | refine fr_bind (fr_X3_seeBeginning_b43 _ _ _ _) (by assumption) (fun _ _ _ => ?_)
    | refine fr_binI (fr_X3_seeBeginning_b43 _ _ _ _) (by assumption) (fun _ _ _ => ?_))
theorem fr_f_X3_seeBeginning  (p0 : Nat) (p1 : Int32) (p2 : Nat) (h : KH) : FR h (f_X3_seeBeginning p0 p1 p2 h) := by
  unfold f_X3_seeBeginning
  have q0 : FL h h := FL.rf h
  repeat' with_reducible (first
    | exact fr_ret (by assumption)
    | exact fr_retZ (by assumption)
    | exact fr_retC (by assumption)
    | exact fr_thr (by assumption)
    | exact fr_none
    | exact fr_go (fr_X3_seeBeginning_b44 _) (by assumption)
    | exact fr_go (fr_X3_seeBeginning_b38 _ _ _) (by assumption)
    | exact fr_go (fr_f_X6_isOneTrip _ _ _ _) (by assumption)
    | exact fr_go (fr_X3_seeBeginning_b43 _ _ _ _) (by assumption)
    | refine fr_gI (fun _ => ?_)
    | refine fr_gR (fun _ => ?_)
    | refine fr_gN (fun _ => ?_)
    | refine fr_gAI (fun _ => ?_)
    | refine fr_gAL (fun _ => ?_)
    | refine fr_gAN (fun _ => ?_)
    | refine fr_kif ?_ ?_
    | refine fr_nul ?_ (fun _ => ?_)
    | refine fr_may (fun _ => ?_)
    | refine fr_kdv ?_
    | refine fr_pI (by assumption) (by decide) (fun _ _ => ?_)
    | refine fr_pR (by assumption) (fun _ _ => ?_)
    | refine fr_pAI (by assumption) (by decide) (fun _ _ => ?_)
    | refine fr_pAZ (by assumption) (by decide) (fun _ _ => ?_)
    | refine fr_pAL (by assumption) (fun _ _ => ?_)
    | refine fr_pAN (by assumption) (fun _ _ => ?_)
    | refine fr_nw (by assumption) (fun _ _ _ => ?_)
    | refine fr_nwM (by assumption) (fun _ _ _ => ?_)
    | refine fr_callV (fr_X3_seeBeginning_b44 _) (by assumption) (fun _ _ _ => ?_)
    | refine fr_bind (fr_X3_seeBeginning_b44 _) (by assumption) (fun _ _ _ => ?_)
    | refine fr_binI (fr_X3_seeBeginning_b44 _) (by assumption) (fun _ _ _ => ?_)
    | refine fr_callV (fr_X3_seeBeginning_b38 _ _ _) (by assumption) (fun _ _ _ => ?_)
    | refine fr_bind (fr_X3_seeBeginning_b38 _ _ _) (by assumption) (fun _ _ _ => ?_)
    | refine fr_binI (fr_X3_seeBeginning_b38 _ _ _) (by assumption) (fun _ _ _ => ?_)
    | refine fr_callV (fr_f_X6_isOneTrip _ _ _ _) (by assumption) (fun _ _ _ => ?_)
    | refine fr_bind (fr_f_X6_isOneTrip _ _ _ _) (by assumption) (fun _ _ _ => ?_)
    | refine fr_binI (fr_f_X6_isOneTrip _ _ _ _) (by assumption) (fun _ _ _ => ?_)
    | refine fr_callV (fr_X3_seeBeginning_b43 _ _ _ _) (by assumption) (fun _ _ _ => ?_)
    | refine fr_bind (fr_X3_seeBeginning_b43 _ _ _ _) (by assumption) (fun _ _ _ => ?_)
    | refine fr_binI (fr_X3_seeBeginning_b43 _ _ _ _) (by assumption) (fun _ _ _ => ?_))
theorem fr_X3_joinAll_b2 (rc2 : Nat → Nat → Int32 → KH → KO Unit) (hr2 : ∀ (u0 : Nat) (u1 : Nat) (u2 : Int32) (u3 : KH), FR u3 (rc2 u0 u1 u2 u3)) (v0 : Nat) (v1 : Nat) (v2 : Int32) (h : KH) : FR h (X3_joinAll_b2 rc2 v0 v1 v2 h) := by
  unfold X3_joinAll_b2
  have q0 : FL h h := FL.rf h
  repeat' with_reducible (first
    | exact fr_ret (by assumption)
    | exact fr_retZ (by assumption)
    | exact fr_retC (by assumption)
    | exact fr_thr (by assumption)
    | exact fr_none
    | exact fr_go (hr2 _ _ _ _) (by assumption)
    | exact fr_go (fr_f_X3_seeBeginning _ _ _ _) (by assumption)
    | refine fr_gI (fun _ => ?_)
    | refine fr_gR (fun _ => ?_)
    | refine fr_gN (fun _ => ?_)
    | refine fr_gAI (fun _ => ?_)
    | refine fr_gAL (fun _ => ?_)
    | refine fr_gAN (fun _ => ?_)
    | refine fr_kif ?_ ?_
    | refine fr_nul ?_ (fun _ => ?_)
    | refine fr_may (fun _ => ?_)
    | refine fr_kdv ?_
    | refine fr_pI (by assumption) (by decide) (fun _ _ => ?_)
    | refine fr_pR (by assumption) (fun _ _ => ?_)
    | refine fr_pAI (by assumption) (by decide) (fun _ _ => ?_)
    | refine fr_pAZ (by assumption) (by decide) (fun _ _ => ?_)
    | refine fr_pAL (by assumption) (fun _ _ => ?_)
    | refine fr_pAN (by assumption) (fun _ _ => ?_)
    | refine fr_nw (by assumption) (fun _ _ _ => ?_)
    | refine fr_nwM (by assumption) (fun _ _ _ => ?_)
    | refine fr_callV (hr2 _ _ _ _) (by assumption) (fun _ _ _ => ?_)
    | refine fr_bind (hr2 _ _ _ _) (by assumption) (fun _ _ _ => ?_)
    | refine fr_binI (hr2 _ _ _ _) (by assumption) (fun _ _ _ => ?_)
    | refine fr_callV (fr_f_X3_seeBeginning _ _ _ _) (by assumption) (fun _ _ _ => ?_)
    | refine fr_bind (fr_f_X3_seeBeginning _ _ _ _) (by assumption) (fun _ _ _ => ?_)
    | refine fr_binI (fr_f_X3_seeBeginning _ _ _ _) (by assumption) (fun _ _ _ => ?_))
theorem fr_X3_joinAll_L2  : ∀ (m : Nat) (u0 : Nat) (u1 : Nat) (u2 : Int32) (u3 : KH), FR u3 (X3_joinAll_L2  m u0 u1 u2 u3) := by
  intro m
  induction m with
  | zero => intro u0 u1 u2 u3; exact fr_none
  | succ m ih => intro u0 u1 u2 u3; exact fr_X3_joinAll_b2 (X3_joinAll_L2  m) ih u0 u1 u2 u3
theorem fr_f_X3_joinAll  (p0 : Nat) (p1 : Nat) (h : KH) : FR h (f_X3_joinAll p0 p1 h) := by
  unfold f_X3_joinAll
  have q0 : FL h h := FL.rf h
  repeat' with_reducible (first
    | exact fr_ret (by assumption)
    | exact fr_retZ (by assumption)
    | exact fr_retC (by assumption)
    | exact fr_thr (by assumption)
    | exact fr_none
    | exact fr_go (fr_X3_joinAll_L2 _ _ _ _ _) (by assumption)
    | refine fr_gI (fun _ => ?_)
    | refine fr_gR (fun _ => ?_)
    | refine fr_gN (fun _ => ?_)
    | refine fr_gAI (fun _ => ?_)
    | refine fr_gAL (fun _ => ?_)
    | refine fr_gAN (fun _ => ?_)
    | refine fr_kif ?_ ?_
    | refine fr_nul ?_ (fun _ => ?_)
    | refine fr_may (fun _ => ?_)
    | refine fr_kdv ?_
    | refine fr_pI (by assumption) (by decide) (fun _ _ => ?_)
    | refine fr_pR (by assumption) (fun _ _ => ?_)
    | refine fr_pAI (by assumption) (by decide) (fun _ _ => ?_)
    | refine fr_pAZ (by assumption) (by decide) (fun _ _ => ?_)
    | refine fr_pAL (by assumption) (fun _ _ => ?_)
    | refine fr_pAN (by assumption) (fun _ _ => ?_)
    | refine fr_nw (by assumption) (fun _ _ _ => ?_)
    | refine fr_nwM (by assumption) (fun _ _ _ => ?_)
    | refine fr_callV (fr_X3_joinAll_L2 _ _ _ _ _) (by assumption) (fun _ _ _ => ?_)
    | refine fr_bind (fr_X3_joinAll_L2 _ _ _ _ _) (by assumption) (fun _ _ _ => ?_)
    | refine fr_binI (fr_X3_joinAll_L2 _ _ _ _ _) (by assumption) (fun _ _ _ => ?_))
theorem fr_X9_joinAllAgain_b2 (rc2 : Nat → Int32 → KH → KO Unit) (hr2 : ∀ (u0 : Nat) (u1 : Int32) (u2 : KH), FR u2 (rc2 u0 u1 u2)) (v0 : Nat) (v1 : Int32) (h : KH) : FR h (X9_joinAllAgain_b2 rc2 v0 v1 h) := by
  unfold X9_joinAllAgain_b2
  have q0 : FL h h := FL.rf h
  repeat' with_reducible (first
    | exact fr_ret (by assumption)
    | exact fr_retZ (by assumption)
    | exact fr_retC (by assumption)
    | exact fr_thr (by assumption)
    | exact fr_none
    | exact fr_go (hr2 _ _ _) (by assumption)
    | exact fr_go (fr_f_X3_joinAll _ _ _) (by assumption)
    | refine fr_gI (fun _ => ?_)
    | refine fr_gR (fun _ => ?_)
    | refine fr_gN (fun _ => ?_)
    | refine fr_gAI (fun _ => ?_)
    | refine fr_gAL (fun _ => ?_)
    | refine fr_gAN (fun _ => ?_)
    | refine fr_kif ?_ ?_
    | refine fr_nul ?_ (fun _ => ?_)
    | refine fr_may (fun _ => ?_)
    | refine fr_kdv ?_
    | refine fr_pI (by assumption) (by decide) (fun _ _ => ?_)
    | refine fr_pR (by assumption) (fun _ _ => ?_)
    | refine fr_pAI (by assumption) (by decide) (fun _ _ => ?_)
    | refine fr_pAZ (by assumption) (by decide) (fun _ _ => ?_)
    | refine fr_pAL (by assumption) (fun _ _ => ?_)
    | refine fr_pAN (by assumption) (fun _ _ => ?_)
    | refine fr_nw (by assumption) (fun _ _ _ => ?_)
    | refine fr_nwM (by assumption) (fun _ _ _ => ?_)
    | refine fr_callV (hr2 _ _ _) (by assumption) (fun _ _ _ => ?_)
    | refine fr_bind (hr2 _ _ _) (by assumption) (fun _ _ _ => ?_)
    | refine fr_binI (hr2 _ _ _) (by assumption) (fun _ _ _ => ?_)
    | refine fr_callV (fr_f_X3_joinAll _ _ _) (by assumption) (fun _ _ _ => ?_)
    | refine fr_bind (fr_f_X3_joinAll _ _ _) (by assumption) (fun _ _ _ => ?_)
    | refine fr_binI (fr_f_X3_joinAll _ _ _) (by assumption) (fun _ _ _ => ?_))
theorem fr_X9_joinAllAgain_L2  : ∀ (m : Nat) (u0 : Nat) (u1 : Int32) (u2 : KH), FR u2 (X9_joinAllAgain_L2  m u0 u1 u2) := by
  intro m
  induction m with
  | zero => intro u0 u1 u2; exact fr_none
  | succ m ih => intro u0 u1 u2; exact fr_X9_joinAllAgain_b2 (X9_joinAllAgain_L2  m) ih u0 u1 u2
theorem fr_f_X9_joinAllAgain  (p0 : Nat) (h : KH) : FR h (f_X9_joinAllAgain p0 h) := by
  unfold f_X9_joinAllAgain
  have q0 : FL h h := FL.rf h
  repeat' with_reducible (first
    | exact fr_ret (by assumption)
    | exact fr_retZ (by assumption)
    | exact fr_retC (by assumption)
    | exact fr_thr (by assumption)
    | exact fr_none
    | exact fr_go (fr_X9_joinAllAgain_L2 _ _ _ _) (by assumption)
    | refine fr_gI (fun _ => ?_)
    | refine fr_gR (fun _ => ?_)
    | refine fr_gN (fun _ => ?_)
    | refine fr_gAI (fun _ => ?_)
    | refine fr_gAL (fun _ => ?_)
    | refine fr_gAN (fun _ => ?_)
    | refine fr_kif ?_ ?_
    | refine fr_nul ?_ (fun _ => ?_)
    | refine fr_may (fun _ => ?_)
    | refine fr_kdv ?_
    | refine fr_pI (by assumption) (by decide) (fun _ _ => ?_)
    | refine fr_pR (by assumption) (fun _ _ => ?_)
    | refine fr_pAI (by assumption) (by decide) (fun _ _ => ?_)
    | refine fr_pAZ (by assumption) (by decide) (fun _ _ => ?_)
    | refine fr_pAL (by assumption) (fun _ _ => ?_)
    | refine fr_pAN (by assumption) (fun _ _ => ?_)
    | refine fr_nw (by assumption) (fun _ _ _ => ?_)
    | refine fr_nwM (by assumption) (fun _ _ _ => ?_)
    | refine fr_callV (fr_X9_joinAllAgain_L2 _ _ _ _) (by assumption) (fun _ _ _ => ?_)
    | refine fr_bind (fr_X9_joinAllAgain_L2 _ _ _ _) (by assumption) (fun _ _ _ => ?_)
    | refine fr_binI (fr_X9_joinAllAgain_L2 _ _ _ _) (by assumption) (fun _ _ _ => ?_))
theorem fr_X9_road_b24  (h : KH) : FR h (X9_road_b24 h) := by
  unfold X9_road_b24
  have q0 : FL h h := FL.rf h
  repeat' with_reducible (first
    | exact fr_ret (by assumption)
    | exact fr_retZ (by assumption)
    | exact fr_retC (by assumption)
    | exact fr_thr (by assumption)
    | exact fr_none
    | refine fr_gI (fun _ => ?_)
    | refine fr_gR (fun _ => ?_)
    | refine fr_gN (fun _ => ?_)
    | refine fr_gAI (fun _ => ?_)
    | refine fr_gAL (fun _ => ?_)
    | refine fr_gAN (fun _ => ?_)
    | refine fr_kif ?_ ?_
    | refine fr_nul ?_ (fun _ => ?_)
    | refine fr_may (fun _ => ?_)
    | refine fr_kdv ?_
    | refine fr_pI (by assumption) (by decide) (fun _ _ => ?_)
    | refine fr_pR (by assumption) (fun _ _ => ?_)
    | refine fr_pAI (by assumption) (by decide) (fun _ _ => ?_)
    | refine fr_pAZ (by assumption) (by decide) (fun _ _ => ?_)
    | refine fr_pAL (by assumption) (fun _ _ => ?_)
    | refine fr_pAN (by assumption) (fun _ _ => ?_)
    | refine fr_nw (by assumption) (fun _ _ _ => ?_)
    | refine fr_nwM (by assumption) (fun _ _ _ => ?_))
theorem ro_X9_road_b24  (h : KH) : RO h (X9_road_b24 h) := by
  unfold X9_road_b24
  repeat' with_reducible (first
    | exact ro_ret
    | exact ro_retZ
    | exact ro_retC
    | exact ro_thr
    | exact ro_none
    | refine ro_gI (fun _ => ?_)
    | refine ro_gR (fun _ => ?_)
    | refine ro_gN (fun _ => ?_)
    | refine ro_gAI (fun _ => ?_)
    | refine ro_gAL (fun _ => ?_)
    | refine ro_gAN (fun _ => ?_)
    | refine ro_kif ?_ ?_
    | refine ro_nul ?_ (fun _ => ?_)
    | refine ro_may (fun _ => ?_)
    | refine ro_kdv ?_)
theorem fr_f_X9_road  (p0 : Nat) (p1 : Int32) (p2 : Int32) (p3 : Int32) (h : KH) : FR h (f_X9_road p0 p1 p2 p3 h) := by
  unfold f_X9_road
  have q0 : FL h h := FL.rf h
  repeat' with_reducible (first
    | exact fr_ret (by assumption)
    | exact fr_retZ (by assumption)
    | exact fr_retC (by assumption)
    | exact fr_thr (by assumption)
    | exact fr_none
    | exact fr_go (fr_f_X9_requireGate _ _) (by assumption)
    | exact fr_go (fr_X9_road_b24 _) (by assumption)
    | exact fr_go (fr_f_X9_isWithin _ _ _ _) (by assumption)
    | exact fr_go (fr_f_X6_lengthOf _ _ _ _) (by assumption)
    | exact fr_go (fr_f_X6_build _ _ _ _ _) (by assumption)
    | exact fr_go (fr_f_X9_joinAllAgain _ _) (by assumption)
    | refine fr_gI (fun _ => ?_)
    | refine fr_gR (fun _ => ?_)
    | refine fr_gN (fun _ => ?_)
    | refine fr_gAI (fun _ => ?_)
    | refine fr_gAL (fun _ => ?_)
    | refine fr_gAN (fun _ => ?_)
    | refine fr_kif ?_ ?_
    | refine fr_nul ?_ (fun _ => ?_)
    | refine fr_may (fun _ => ?_)
    | refine fr_kdv ?_
    | refine fr_pI (by assumption) (by decide) (fun _ _ => ?_)
    | refine fr_pR (by assumption) (fun _ _ => ?_)
    | refine fr_pAI (by assumption) (by decide) (fun _ _ => ?_)
    | refine fr_pAZ (by assumption) (by decide) (fun _ _ => ?_)
    | refine fr_pAL (by assumption) (fun _ _ => ?_)
    | refine fr_pAN (by assumption) (fun _ _ => ?_)
    | refine fr_nw (by assumption) (fun _ _ _ => ?_)
    | refine fr_nwM (by assumption) (fun _ _ _ => ?_)
    | refine fr_callV (fr_f_X9_requireGate _ _) (by assumption) (fun _ _ _ => ?_)
    | refine fr_bind (fr_f_X9_requireGate _ _) (by assumption) (fun _ _ _ => ?_)
    | refine fr_binI (fr_f_X9_requireGate _ _) (by assumption) (fun _ _ _ => ?_)
    | refine fr_callV (fr_X9_road_b24 _) (by assumption) (fun _ _ _ => ?_)
    | refine fr_bind (fr_X9_road_b24 _) (by assumption) (fun _ _ _ => ?_)
    | refine fr_binI (fr_X9_road_b24 _) (by assumption) (fun _ _ _ => ?_)
    | refine fr_callV (fr_f_X9_isWithin _ _ _ _) (by assumption) (fun _ _ _ => ?_)
    | refine fr_bind (fr_f_X9_isWithin _ _ _ _) (by assumption) (fun _ _ _ => ?_)
    | refine fr_binI (fr_f_X9_isWithin _ _ _ _) (by assumption) (fun _ _ _ => ?_)
    | refine fr_callV (fr_f_X6_lengthOf _ _ _ _) (by assumption) (fun _ _ _ => ?_)
    | refine fr_bind (fr_f_X6_lengthOf _ _ _ _) (by assumption) (fun _ _ _ => ?_)
    | refine fr_binI (fr_f_X6_lengthOf _ _ _ _) (by assumption) (fun _ _ _ => ?_)
    | refine fr_callV (fr_f_X6_build _ _ _ _ _) (by assumption) (fun _ _ _ => ?_)
    | refine fr_bind (fr_f_X6_build _ _ _ _ _) (by assumption) (fun _ _ _ => ?_)
    | refine fr_binI (fr_f_X6_build _ _ _ _ _) (by assumption) (fun _ _ _ => ?_)
    | refine fr_callV (fr_f_X9_joinAllAgain _ _) (by assumption) (fun _ _ _ => ?_)
    | refine fr_bind (fr_f_X9_joinAllAgain _ _) (by assumption) (fun _ _ _ => ?_)
    | refine fr_binI (fr_f_X9_joinAllAgain _ _) (by assumption) (fun _ _ _ => ?_))
theorem fr_f_X9_distance  (p0 : Nat) (p1 : Int32) (p2 : Int32) (h : KH) : FR h (f_X9_distance p0 p1 p2 h) := by
  unfold f_X9_distance
  have q0 : FL h h := FL.rf h
  repeat' with_reducible (first
    | exact fr_ret (by assumption)
    | exact fr_retZ (by assumption)
    | exact fr_retC (by assumption)
    | exact fr_thr (by assumption)
    | exact fr_none
    | exact fr_go (fr_f_X9_requireGate _ _) (by assumption)
    | exact fr_go (fr_f_X6_between _ _ _ _) (by assumption)
    | refine fr_gI (fun _ => ?_)
    | refine fr_gR (fun _ => ?_)
    | refine fr_gN (fun _ => ?_)
    | refine fr_gAI (fun _ => ?_)
    | refine fr_gAL (fun _ => ?_)
    | refine fr_gAN (fun _ => ?_)
    | refine fr_kif ?_ ?_
    | refine fr_nul ?_ (fun _ => ?_)
    | refine fr_may (fun _ => ?_)
    | refine fr_kdv ?_
    | refine fr_pI (by assumption) (by decide) (fun _ _ => ?_)
    | refine fr_pR (by assumption) (fun _ _ => ?_)
    | refine fr_pAI (by assumption) (by decide) (fun _ _ => ?_)
    | refine fr_pAZ (by assumption) (by decide) (fun _ _ => ?_)
    | refine fr_pAL (by assumption) (fun _ _ => ?_)
    | refine fr_pAN (by assumption) (fun _ _ => ?_)
    | refine fr_nw (by assumption) (fun _ _ _ => ?_)
    | refine fr_nwM (by assumption) (fun _ _ _ => ?_)
    | refine fr_callV (fr_f_X9_requireGate _ _) (by assumption) (fun _ _ _ => ?_)
    | refine fr_bind (fr_f_X9_requireGate _ _) (by assumption) (fun _ _ _ => ?_)
    | refine fr_binI (fr_f_X9_requireGate _ _) (by assumption) (fun _ _ _ => ?_)
    | refine fr_callV (fr_f_X6_between _ _ _ _) (by assumption) (fun _ _ _ => ?_)
    | refine fr_bind (fr_f_X6_between _ _ _ _) (by assumption) (fun _ _ _ => ?_)
    | refine fr_binI (fr_f_X6_between _ _ _ _) (by assumption) (fun _ _ _ => ?_))
theorem ro_f_X9_distance  (p0 : Nat) (p1 : Int32) (p2 : Int32) (h : KH) : RO h (f_X9_distance p0 p1 p2 h) := by
  unfold f_X9_distance
  repeat' with_reducible (first
    | exact ro_ret
    | exact ro_retZ
    | exact ro_retC
    | exact ro_thr
    | exact ro_none
    | exact ro_f_X9_requireGate _ _
    | exact ro_f_X6_between _ _ _ _
    | refine ro_gI (fun _ => ?_)
    | refine ro_gR (fun _ => ?_)
    | refine ro_gN (fun _ => ?_)
    | refine ro_gAI (fun _ => ?_)
    | refine ro_gAL (fun _ => ?_)
    | refine ro_gAN (fun _ => ?_)
    | refine ro_kif ?_ ?_
    | refine ro_nul ?_ (fun _ => ?_)
    | refine ro_may (fun _ => ?_)
    | refine ro_kdv ?_
    | refine ro_callV (ro_f_X9_requireGate _ _) (fun _ => ?_)
    | refine ro_bind (ro_f_X9_requireGate _ _) (fun _ => ?_)
    | refine ro_binI (ro_f_X9_requireGate _ _) (fun _ => ?_)
    | refine ro_callV (ro_f_X6_between _ _ _ _) (fun _ => ?_)
    | refine ro_bind (ro_f_X6_between _ _ _ _) (fun _ => ?_)
    | refine ro_binI (ro_f_X6_between _ _ _ _) (fun _ => ?_))
theorem fr_f_X9_setPause  (p0 : Nat) (p1 : Int32) (h : KH) : FR h (f_X9_setPause p0 p1 h) := by
  unfold f_X9_setPause
  have q0 : FL h h := FL.rf h
  repeat' with_reducible (first
    | exact fr_ret (by assumption)
    | exact fr_retZ (by assumption)
    | exact fr_retC (by assumption)
    | exact fr_thr (by assumption)
    | exact fr_none
    | exact fr_go (fr_f_X9_isWithin _ _ _ _) (by assumption)
    | exact fr_go (fr_f_X9_joinAllAgain _ _) (by assumption)
    | refine fr_gI (fun _ => ?_)
    | refine fr_gR (fun _ => ?_)
    | refine fr_gN (fun _ => ?_)
    | refine fr_gAI (fun _ => ?_)
    | refine fr_gAL (fun _ => ?_)
    | refine fr_gAN (fun _ => ?_)
    | refine fr_kif ?_ ?_
    | refine fr_nul ?_ (fun _ => ?_)
    | refine fr_may (fun _ => ?_)
    | refine fr_kdv ?_
    | refine fr_pI (by assumption) (by decide) (fun _ _ => ?_)
    | refine fr_pR (by assumption) (fun _ _ => ?_)
    | refine fr_pAI (by assumption) (by decide) (fun _ _ => ?_)
    | refine fr_pAZ (by assumption) (by decide) (fun _ _ => ?_)
    | refine fr_pAL (by assumption) (fun _ _ => ?_)
    | refine fr_pAN (by assumption) (fun _ _ => ?_)
    | refine fr_nw (by assumption) (fun _ _ _ => ?_)
    | refine fr_nwM (by assumption) (fun _ _ _ => ?_)
    | refine fr_callV (fr_f_X9_isWithin _ _ _ _) (by assumption) (fun _ _ _ => ?_)
    | refine fr_bind (fr_f_X9_isWithin _ _ _ _) (by assumption) (fun _ _ _ => ?_)
    | refine fr_binI (fr_f_X9_isWithin _ _ _ _) (by assumption) (fun _ _ _ => ?_)
    | refine fr_callV (fr_f_X9_joinAllAgain _ _) (by assumption) (fun _ _ _ => ?_)
    | refine fr_bind (fr_f_X9_joinAllAgain _ _) (by assumption) (fun _ _ _ => ?_)
    | refine fr_binI (fr_f_X9_joinAllAgain _ _) (by assumption) (fun _ _ _ => ?_))
theorem fr_f_X9_requireClass  (p0 : Int32) (h : KH) : FR h (f_X9_requireClass p0 h) := by
  unfold f_X9_requireClass
  have q0 : FL h h := FL.rf h
  repeat' with_reducible (first
    | exact fr_ret (by assumption)
    | exact fr_retZ (by assumption)
    | exact fr_retC (by assumption)
    | exact fr_thr (by assumption)
    | exact fr_none
    | exact fr_go (fr_f_X9_isWithin _ _ _ _) (by assumption)
    | refine fr_gI (fun _ => ?_)
    | refine fr_gR (fun _ => ?_)
    | refine fr_gN (fun _ => ?_)
    | refine fr_gAI (fun _ => ?_)
    | refine fr_gAL (fun _ => ?_)
    | refine fr_gAN (fun _ => ?_)
    | refine fr_kif ?_ ?_
    | refine fr_nul ?_ (fun _ => ?_)
    | refine fr_may (fun _ => ?_)
    | refine fr_kdv ?_
    | refine fr_pI (by assumption) (by decide) (fun _ _ => ?_)
    | refine fr_pR (by assumption) (fun _ _ => ?_)
    | refine fr_pAI (by assumption) (by decide) (fun _ _ => ?_)
    | refine fr_pAZ (by assumption) (by decide) (fun _ _ => ?_)
    | refine fr_pAL (by assumption) (fun _ _ => ?_)
    | refine fr_pAN (by assumption) (fun _ _ => ?_)
    | refine fr_nw (by assumption) (fun _ _ _ => ?_)
    | refine fr_nwM (by assumption) (fun _ _ _ => ?_)
    | refine fr_callV (fr_f_X9_isWithin _ _ _ _) (by assumption) (fun _ _ _ => ?_)
    | refine fr_bind (fr_f_X9_isWithin _ _ _ _) (by assumption) (fun _ _ _ => ?_)
    | refine fr_binI (fr_f_X9_isWithin _ _ _ _) (by assumption) (fun _ _ _ => ?_))
theorem ro_f_X9_requireClass  (p0 : Int32) (h : KH) : RO h (f_X9_requireClass p0 h) := by
  unfold f_X9_requireClass
  repeat' with_reducible (first
    | exact ro_ret
    | exact ro_retZ
    | exact ro_retC
    | exact ro_thr
    | exact ro_none
    | exact ro_f_X9_isWithin _ _ _ _
    | refine ro_gI (fun _ => ?_)
    | refine ro_gR (fun _ => ?_)
    | refine ro_gN (fun _ => ?_)
    | refine ro_gAI (fun _ => ?_)
    | refine ro_gAL (fun _ => ?_)
    | refine ro_gAN (fun _ => ?_)
    | refine ro_kif ?_ ?_
    | refine ro_nul ?_ (fun _ => ?_)
    | refine ro_may (fun _ => ?_)
    | refine ro_kdv ?_
    | refine ro_callV (ro_f_X9_isWithin _ _ _ _) (fun _ => ?_)
    | refine ro_bind (ro_f_X9_isWithin _ _ _ _) (fun _ => ?_)
    | refine ro_binI (ro_f_X9_isWithin _ _ _ _) (fun _ => ?_))
theorem fr_f_X9_setRate  (p0 : Nat) (p1 : Int32) (p2 : Int32) (h : KH) : FR h (f_X9_setRate p0 p1 p2 h) := by
  unfold f_X9_setRate
  have q0 : FL h h := FL.rf h
  repeat' with_reducible (first
    | exact fr_ret (by assumption)
    | exact fr_retZ (by assumption)
    | exact fr_retC (by assumption)
    | exact fr_thr (by assumption)
    | exact fr_none
    | exact fr_go (fr_f_X9_requireClass _ _) (by assumption)
    | exact fr_go (fr_f_X9_isWithin _ _ _ _) (by assumption)
    | refine fr_gI (fun _ => ?_)
    | refine fr_gR (fun _ => ?_)
    | refine fr_gN (fun _ => ?_)
    | refine fr_gAI (fun _ => ?_)
    | refine fr_gAL (fun _ => ?_)
    | refine fr_gAN (fun _ => ?_)
    | refine fr_kif ?_ ?_
    | refine fr_nul ?_ (fun _ => ?_)
    | refine fr_may (fun _ => ?_)
    | refine fr_kdv ?_
    | refine fr_pI (by assumption) (by decide) (fun _ _ => ?_)
    | refine fr_pR (by assumption) (fun _ _ => ?_)
    | refine fr_pAI (by assumption) (by decide) (fun _ _ => ?_)
    | refine fr_pAZ (by assumption) (by decide) (fun _ _ => ?_)
    | refine fr_pAL (by assumption) (fun _ _ => ?_)
    | refine fr_pAN (by assumption) (fun _ _ => ?_)
    | refine fr_nw (by assumption) (fun _ _ _ => ?_)
    | refine fr_nwM (by assumption) (fun _ _ _ => ?_)
    | refine fr_callV (fr_f_X9_requireClass _ _) (by assumption) (fun _ _ _ => ?_)
    | refine fr_bind (fr_f_X9_requireClass _ _) (by assumption) (fun _ _ _ => ?_)
    | refine fr_binI (fr_f_X9_requireClass _ _) (by assumption) (fun _ _ _ => ?_)
    | refine fr_callV (fr_f_X9_isWithin _ _ _ _) (by assumption) (fun _ _ _ => ?_)
    | refine fr_bind (fr_f_X9_isWithin _ _ _ _) (by assumption) (fun _ _ _ => ?_)
    | refine fr_binI (fr_f_X9_isWithin _ _ _ _) (by assumption) (fun _ _ _ => ?_))
theorem fr_f_X9_requireSign  (p0 : Int32) (h : KH) : FR h (f_X9_requireSign p0 h) := by
  unfold f_X9_requireSign
  have q0 : FL h h := FL.rf h
  repeat' with_reducible (first
    | exact fr_ret (by assumption)
    | exact fr_retZ (by assumption)
    | exact fr_retC (by assumption)
    | exact fr_thr (by assumption)
    | exact fr_none
    | exact fr_go (fr_f_X9_isWithin _ _ _ _) (by assumption)
    | refine fr_gI (fun _ => ?_)
    | refine fr_gR (fun _ => ?_)
    | refine fr_gN (fun _ => ?_)
    | refine fr_gAI (fun _ => ?_)
    | refine fr_gAL (fun _ => ?_)
    | refine fr_gAN (fun _ => ?_)
    | refine fr_kif ?_ ?_
    | refine fr_nul ?_ (fun _ => ?_)
    | refine fr_may (fun _ => ?_)
    | refine fr_kdv ?_
    | refine fr_pI (by assumption) (by decide) (fun _ _ => ?_)
    | refine fr_pR (by assumption) (fun _ _ => ?_)
    | refine fr_pAI (by assumption) (by decide) (fun _ _ => ?_)
    | refine fr_pAZ (by assumption) (by decide) (fun _ _ => ?_)
    | refine fr_pAL (by assumption) (fun _ _ => ?_)
    | refine fr_pAN (by assumption) (fun _ _ => ?_)
    | refine fr_nw (by assumption) (fun _ _ _ => ?_)
    | refine fr_nwM (by assumption) (fun _ _ _ => ?_)
    | refine fr_callV (fr_f_X9_isWithin _ _ _ _) (by assumption) (fun _ _ _ => ?_)
    | refine fr_bind (fr_f_X9_isWithin _ _ _ _) (by assumption) (fun _ _ _ => ?_)
    | refine fr_binI (fr_f_X9_isWithin _ _ _ _) (by assumption) (fun _ _ _ => ?_))
theorem ro_f_X9_requireSign  (p0 : Int32) (h : KH) : RO h (f_X9_requireSign p0 h) := by
  unfold f_X9_requireSign
  repeat' with_reducible (first
    | exact ro_ret
    | exact ro_retZ
    | exact ro_retC
    | exact ro_thr
    | exact ro_none
    | exact ro_f_X9_isWithin _ _ _ _
    | refine ro_gI (fun _ => ?_)
    | refine ro_gR (fun _ => ?_)
    | refine ro_gN (fun _ => ?_)
    | refine ro_gAI (fun _ => ?_)
    | refine ro_gAL (fun _ => ?_)
    | refine ro_gAN (fun _ => ?_)
    | refine ro_kif ?_ ?_
    | refine ro_nul ?_ (fun _ => ?_)
    | refine ro_may (fun _ => ?_)
    | refine ro_kdv ?_
    | refine ro_callV (ro_f_X9_isWithin _ _ _ _) (fun _ => ?_)
    | refine ro_bind (ro_f_X9_isWithin _ _ _ _) (fun _ => ?_)
    | refine ro_binI (ro_f_X9_isWithin _ _ _ _) (fun _ => ?_))
theorem fr_f_X9_requireRoomForSign  (p0 : Nat) (h : KH) : FR h (f_X9_requireRoomForSign p0 h) := by
  unfold f_X9_requireRoomForSign
  have q0 : FL h h := FL.rf h
  repeat' with_reducible (first
    | exact fr_ret (by assumption)
    | exact fr_retZ (by assumption)
    | exact fr_retC (by assumption)
    | exact fr_thr (by assumption)
    | exact fr_none
    | refine fr_gI (fun _ => ?_)
    | refine fr_gR (fun _ => ?_)
    | refine fr_gN (fun _ => ?_)
    | refine fr_gAI (fun _ => ?_)
    | refine fr_gAL (fun _ => ?_)
    | refine fr_gAN (fun _ => ?_)
    | refine fr_kif ?_ ?_
    | refine fr_nul ?_ (fun _ => ?_)
    | refine fr_may (fun _ => ?_)
    | refine fr_kdv ?_
    | refine fr_pI (by assumption) (by decide) (fun _ _ => ?_)
    | refine fr_pR (by assumption) (fun _ _ => ?_)
    | refine fr_pAI (by assumption) (by decide) (fun _ _ => ?_)
    | refine fr_pAZ (by assumption) (by decide) (fun _ _ => ?_)
    | refine fr_pAL (by assumption) (fun _ _ => ?_)
    | refine fr_pAN (by assumption) (fun _ _ => ?_)
    | refine fr_nw (by assumption) (fun _ _ _ => ?_)
    | refine fr_nwM (by assumption) (fun _ _ _ => ?_))
theorem ro_f_X9_requireRoomForSign  (p0 : Nat) (h : KH) : RO h (f_X9_requireRoomForSign p0 h) := by
  unfold f_X9_requireRoomForSign
  repeat' with_reducible (first
    | exact ro_ret
    | exact ro_retZ
    | exact ro_retC
    | exact ro_thr
    | exact ro_none
    | refine ro_gI (fun _ => ?_)
    | refine ro_gR (fun _ => ?_)
    | refine ro_gN (fun _ => ?_)
    | refine ro_gAI (fun _ => ?_)
    | refine ro_gAL (fun _ => ?_)
    | refine ro_gAN (fun _ => ?_)
    | refine ro_kif ?_ ?_
    | refine ro_nul ?_ (fun _ => ?_)
    | refine ro_may (fun _ => ?_)
    | refine ro_kdv ?_)
theorem fr_X7_put_b5 (rc5 : Nat → Int32 → Int32 → Int32 → KH → KO Unit) (hr5 : ∀ (u0 : Nat) (u1 : Int32) (u2 : Int32) (u3 : Int32) (u4 : KH), FR u4 (rc5 u0 u1 u2 u3 u4)) (v0 : Nat) (v1 : Int32) (v2 : Int32) (v3 : Int32) (h : KH) : FR h (X7_put_b5 rc5 v0 v1 v2 v3 h) := by
  unfold X7_put_b5
  have q0 : FL h h := FL.rf h
  repeat' with_reducible (first
    | exact fr_ret (by assumption)
    | exact fr_retZ (by assumption)
    | exact fr_retC (by assumption)
    | exact fr_thr (by assumption)
    | exact fr_none
    | exact fr_go (hr5 _ _ _ _ _) (by assumption)
    | refine fr_gI (fun _ => ?_)
    | refine fr_gR (fun _ => ?_)
    | refine fr_gN (fun _ => ?_)
    | refine fr_gAI (fun _ => ?_)
    | refine fr_gAL (fun _ => ?_)
    | refine fr_gAN (fun _ => ?_)
    | refine fr_kif ?_ ?_
    | refine fr_nul ?_ (fun _ => ?_)
    | refine fr_may (fun _ => ?_)
    | refine fr_kdv ?_
    | refine fr_pI (by assumption) (by decide) (fun _ _ => ?_)
    | refine fr_pR (by assumption) (fun _ _ => ?_)
    | refine fr_pAI (by assumption) (by decide) (fun _ _ => ?_)
    | refine fr_pAZ (by assumption) (by decide) (fun _ _ => ?_)
    | refine fr_pAL (by assumption) (fun _ _ => ?_)
    | refine fr_pAN (by assumption) (fun _ _ => ?_)
    | refine fr_nw (by assumption) (fun _ _ _ => ?_)
    | refine fr_nwM (by assumption) (fun _ _ _ => ?_)
    | refine fr_callV (hr5 _ _ _ _ _) (by assumption) (fun _ _ _ => ?_)
    | refine fr_bind (hr5 _ _ _ _ _) (by assumption) (fun _ _ _ => ?_)
    | refine fr_binI (hr5 _ _ _ _ _) (by assumption) (fun _ _ _ => ?_))
theorem fr_X7_put_L5  : ∀ (m : Nat) (u0 : Nat) (u1 : Int32) (u2 : Int32) (u3 : Int32) (u4 : KH), FR u4 (X7_put_L5  m u0 u1 u2 u3 u4) := by
  intro m
  induction m with
  | zero => intro u0 u1 u2 u3 u4; exact fr_none
  | succ m ih => intro u0 u1 u2 u3 u4; exact fr_X7_put_b5 (X7_put_L5  m) ih u0 u1 u2 u3 u4
theorem fr_f_X7_put  (p0 : Nat) (p1 : Int32) (p2 : Int32) (h : KH) : FR h (f_X7_put p0 p1 p2 h) := by
  unfold f_X7_put
  have q0 : FL h h := FL.rf h
  repeat' with_reducible (first
    | exact fr_ret (by assumption)
    | exact fr_retZ (by assumption)
    | exact fr_retC (by assumption)
    | exact fr_thr (by assumption)
    | exact fr_none
    | exact fr_go (fr_X7_put_L5 _ _ _ _ _ _) (by assumption)
    | refine fr_gI (fun _ => ?_)
    | refine fr_gR (fun _ => ?_)
    | refine fr_gN (fun _ => ?_)
    | refine fr_gAI (fun _ => ?_)
    | refine fr_gAL (fun _ => ?_)
    | refine fr_gAN (fun _ => ?_)
    | refine fr_kif ?_ ?_
    | refine fr_nul ?_ (fun _ => ?_)
    | refine fr_may (fun _ => ?_)
    | refine fr_kdv ?_
    | refine fr_pI (by assumption) (by decide) (fun _ _ => ?_)
    | refine fr_pR (by assumption) (fun _ _ => ?_)
    | refine fr_pAI (by assumption) (by decide) (fun _ _ => ?_)
    | refine fr_pAZ (by assumption) (by decide) (fun _ _ => ?_)
    | refine fr_pAL (by assumption) (fun _ _ => ?_)
    | refine fr_pAN (by assumption) (fun _ _ => ?_)
    | refine fr_nw (by assumption) (fun _ _ _ => ?_)
    | refine fr_nwM (by assumption) (fun _ _ _ => ?_)
    | refine fr_callV (fr_X7_put_L5 _ _ _ _ _ _) (by assumption) (fun _ _ _ => ?_)
    | refine fr_bind (fr_X7_put_L5 _ _ _ _ _ _) (by assumption) (fun _ _ _ => ?_)
    | refine fr_binI (fr_X7_put_L5 _ _ _ _ _ _) (by assumption) (fun _ _ _ => ?_))
theorem fr_X7_isPair_b17  (s0 : Int32) (h : KH) : FR h (X7_isPair_b17 s0 h) := by
  unfold X7_isPair_b17
  have q0 : FL h h := FL.rf h
  repeat' with_reducible (first
    | exact fr_ret (by assumption)
    | exact fr_retZ (by assumption)
    | exact fr_retC (by assumption)
    | exact fr_thr (by assumption)
    | exact fr_none
    | refine fr_gI (fun _ => ?_)
    | refine fr_gR (fun _ => ?_)
    | refine fr_gN (fun _ => ?_)
    | refine fr_gAI (fun _ => ?_)
    | refine fr_gAL (fun _ => ?_)
    | refine fr_gAN (fun _ => ?_)
    | refine fr_kif ?_ ?_
    | refine fr_nul ?_ (fun _ => ?_)
    | refine fr_may (fun _ => ?_)
    | refine fr_kdv ?_
    | refine fr_pI (by assumption) (by decide) (fun _ _ => ?_)
    | refine fr_pR (by assumption) (fun _ _ => ?_)
    | refine fr_pAI (by assumption) (by decide) (fun _ _ => ?_)
    | refine fr_pAZ (by assumption) (by decide) (fun _ _ => ?_)
    | refine fr_pAL (by assumption) (fun _ _ => ?_)
    | refine fr_pAN (by assumption) (fun _ _ => ?_)
    | refine fr_nw (by assumption) (fun _ _ _ => ?_)
    | refine fr_nwM (by assumption) (fun _ _ _ => ?_))
theorem ro_X7_isPair_b17  (s0 : Int32) (h : KH) : RO h (X7_isPair_b17 s0 h) := by
  unfold X7_isPair_b17
  repeat' with_reducible (first
    | exact ro_ret
    | exact ro_retZ
    | exact ro_retC
    | exact ro_thr
    | exact ro_none
    | refine ro_gI (fun _ => ?_)
    | refine ro_gR (fun _ => ?_)
    | refine ro_gN (fun _ => ?_)
    | refine ro_gAI (fun _ => ?_)
    | refine ro_gAL (fun _ => ?_)
    | refine ro_gAN (fun _ => ?_)
    | refine ro_kif ?_ ?_
    | refine ro_nul ?_ (fun _ => ?_)
    | refine ro_may (fun _ => ?_)
    | refine ro_kdv ?_)
theorem fr_X7_isPair_b16  (h : KH) : FR h (X7_isPair_b16 h) := by
  unfold X7_isPair_b16
  have q0 : FL h h := FL.rf h
  repeat' with_reducible (first
    | exact fr_ret (by assumption)
    | exact fr_retZ (by assumption)
    | exact fr_retC (by assumption)
    | exact fr_thr (by assumption)
    | exact fr_none
    | exact fr_go (fr_X7_isPair_b17 _ _) (by assumption)
    | refine fr_gI (fun _ => ?_)
    | refine fr_gR (fun _ => ?_)
    | refine fr_gN (fun _ => ?_)
    | refine fr_gAI (fun _ => ?_)
    | refine fr_gAL (fun _ => ?_)
    | refine fr_gAN (fun _ => ?_)
    | refine fr_kif ?_ ?_
    | refine fr_nul ?_ (fun _ => ?_)
    | refine fr_may (fun _ => ?_)
    | refine fr_kdv ?_
    | refine fr_pI (by assumption) (by decide) (fun _ _ => ?_)
    | refine fr_pR (by assumption) (fun _ _ => ?_)
    | refine fr_pAI (by assumption) (by decide) (fun _ _ => ?_)
    | refine fr_pAZ (by assumption) (by decide) (fun _ _ => ?_)
    | refine fr_pAL (by assumption) (fun _ _ => ?_)
    | refine fr_pAN (by assumption) (fun _ _ => ?_)
    | refine fr_nw (by assumption) (fun _ _ _ => ?_)
    | refine fr_nwM (by assumption) (fun _ _ _ => ?_)
    | refine fr_callV (fr_X7_isPair_b17 _ _) (by assumption) (fun _ _ _ => ?_)
    | refine fr_bind (fr_X7_isPair_b17 _ _) (by assumption) (fun _ _ _ => ?_)
    | refine fr_binI (fr_X7_isPair_b17 _ _) (by assumption) (fun _ _ _ => ?_))
theorem ro_X7_isPair_b16  (h : KH) : RO h (X7_isPair_b16 h) := by
  unfold X7_isPair_b16
  repeat' with_reducible (first
    | exact ro_ret
    | exact ro_retZ
    | exact ro_retC
    | exact ro_thr
    | exact ro_none
    | exact ro_X7_isPair_b17 _ _
    | refine ro_gI (fun _ => ?_)
    | refine ro_gR (fun _ => ?_)
    | refine ro_gN (fun _ => ?_)
    | refine ro_gAI (fun _ => ?_)
    | refine ro_gAL (fun _ => ?_)
    | refine ro_gAN (fun _ => ?_)
    | refine ro_kif ?_ ?_
    | refine ro_nul ?_ (fun _ => ?_)
    | refine ro_may (fun _ => ?_)
    | refine ro_kdv ?_
    | refine ro_callV (ro_X7_isPair_b17 _ _) (fun _ => ?_)
    | refine ro_bind (ro_X7_isPair_b17 _ _) (fun _ => ?_)
    | refine ro_binI (ro_X7_isPair_b17 _ _) (fun _ => ?_))
theorem fr_f_X7_isPair  (p0 : Int32) (h : KH) : FR h (f_X7_isPair p0 h) := by
  unfold f_X7_isPair
  have q0 : FL h h := FL.rf h
  repeat' with_reducible (first
    | exact fr_ret (by assumption)
    | exact fr_retZ (by assumption)
    | exact fr_retC (by assumption)
    | exact fr_thr (by assumption)
    | exact fr_none
    | exact fr_go (fr_X7_isPair_b16 _) (by assumption)
    | exact fr_go (fr_X7_isPair_b17 _ _) (by assumption)
    | refine fr_gI (fun _ => ?_)
    | refine fr_gR (fun _ => ?_)
    | refine fr_gN (fun _ => ?_)
    | refine fr_gAI (fun _ => ?_)
    | refine fr_gAL (fun _ => ?_)
    | refine fr_gAN (fun _ => ?_)
    | refine fr_kif ?_ ?_
    | refine fr_nul ?_ (fun _ => ?_)
    | refine fr_may (fun _ => ?_)
    | refine fr_kdv ?_
    | refine fr_pI (by assumption) (by decide) (fun _ _ => ?_)
    | refine fr_pR (by assumption) (fun _ _ => ?_)
    | refine fr_pAI (by assumption) (by decide) (fun _ _ => ?_)
    | refine fr_pAZ (by assumption) (by decide) (fun _ _ => ?_)
    | refine fr_pAL (by assumption) (fun _ _ => ?_)
    | refine fr_pAN (by assumption) (fun _ _ => ?_)
    | refine fr_nw (by assumption) (fun _ _ _ => ?_)
    | refine fr_nwM (by assumption) (fun _ _ _ => ?_)
    | refine fr_callV (fr_X7_isPair_b16 _) (by assumption) (fun _ _ _ => ?_)
    | refine fr_bind (fr_X7_isPair_b16 _) (by assumption) (fun _ _ _ => ?_)
    | refine fr_binI (fr_X7_isPair_b16 _) (by assumption) (fun _ _ _ => ?_)
    | refine fr_callV (fr_X7_isPair_b17 _ _) (by assumption) (fun _ _ _ => ?_)
    | refine fr_bind (fr_X7_isPair_b17 _ _) (by assumption) (fun _ _ _ => ?_)
    | refine fr_binI (fr_X7_isPair_b17 _ _) (by assumption) (fun _ _ _ => ?_))
theorem ro_f_X7_isPair  (p0 : Int32) (h : KH) : RO h (f_X7_isPair p0 h) := by
  unfold f_X7_isPair
  repeat' with_reducible (first
    | exact ro_ret
    | exact ro_retZ
    | exact ro_retC
    | exact ro_thr
    | exact ro_none
    | exact ro_X7_isPair_b16 _
    | exact ro_X7_isPair_b17 _ _
    | refine ro_gI (fun _ => ?_)
    | refine ro_gR (fun _ => ?_)
    | refine ro_gN (fun _ => ?_)
    | refine ro_gAI (fun _ => ?_)
    | refine ro_gAL (fun _ => ?_)
    | refine ro_gAN (fun _ => ?_)
    | refine ro_kif ?_ ?_
    | refine ro_nul ?_ (fun _ => ?_)
    | refine ro_may (fun _ => ?_)
    | refine ro_kdv ?_
    | refine ro_callV (ro_X7_isPair_b16 _) (fun _ => ?_)
    | refine ro_bind (ro_X7_isPair_b16 _) (fun _ => ?_)
    | refine ro_binI (ro_X7_isPair_b16 _) (fun _ => ?_)
    | refine ro_callV (ro_X7_isPair_b17 _ _) (fun _ => ?_)
    | refine ro_bind (ro_X7_isPair_b17 _ _) (fun _ => ?_)
    | refine ro_binI (ro_X7_isPair_b17 _ _) (fun _ => ?_))
theorem fr_X7_charsOf_b12  (s0 : Int32) (h : KH) : FR h (X7_charsOf_b12 s0 h) := by
  unfold X7_charsOf_b12
  have q0 : FL h h := FL.rf h
  repeat' with_reducible (first
    | exact fr_ret (by assumption)
    | exact fr_retZ (by assumption)
    | exact fr_retC (by assumption)
    | exact fr_thr (by assumption)
    | exact fr_none
    | refine fr_gI (fun _ => ?_)
    | refine fr_gR (fun _ => ?_)
    | refine fr_gN (fun _ => ?_)
    | refine fr_gAI (fun _ => ?_)
    | refine fr_gAL (fun _ => ?_)
    | refine fr_gAN (fun _ => ?_)
    | refine fr_kif ?_ ?_
    | refine fr_nul ?_ (fun _ => ?_)
    | refine fr_may (fun _ => ?_)
    | refine fr_kdv ?_
    | refine fr_pI (by assumption) (by decide) (fun _ _ => ?_)
    | refine fr_pR (by assumption) (fun _ _ => ?_)
    | refine fr_pAI (by assumption) (by decide) (fun _ _ => ?_)
    | refine fr_pAZ (by assumption) (by decide) (fun _ _ => ?_)
    | refine fr_pAL (by assumption) (fun _ _ => ?_)
    | refine fr_pAN (by assumption) (fun _ _ => ?_)
    | refine fr_nw (by assumption) (fun _ _ _ => ?_)
    | refine fr_nwM (by assumption) (fun _ _ _ => ?_))
theorem ro_X7_charsOf_b12  (s0 : Int32) (h : KH) : RO h (X7_charsOf_b12 s0 h) := by
  unfold X7_charsOf_b12
  repeat' with_reducible (first
    | exact ro_ret
    | exact ro_retZ
    | exact ro_retC
    | exact ro_thr
    | exact ro_none
    | refine ro_gI (fun _ => ?_)
    | refine ro_gR (fun _ => ?_)
    | refine ro_gN (fun _ => ?_)
    | refine ro_gAI (fun _ => ?_)
    | refine ro_gAL (fun _ => ?_)
    | refine ro_gAN (fun _ => ?_)
    | refine ro_kif ?_ ?_
    | refine ro_nul ?_ (fun _ => ?_)
    | refine ro_may (fun _ => ?_)
    | refine ro_kdv ?_)
theorem fr_f_X7_charsOf  (p0 : Int32) (h : KH) : FR h (f_X7_charsOf p0 h) := by
  unfold f_X7_charsOf
  have q0 : FL h h := FL.rf h
  repeat' with_reducible (first
    | exact fr_ret (by assumption)
    | exact fr_retZ (by assumption)
    | exact fr_retC (by assumption)
    | exact fr_thr (by assumption)
    | exact fr_none
    | exact fr_go (fr_f_X7_isPair _ _) (by assumption)
    | exact fr_go (fr_X7_charsOf_b12 _ _) (by assumption)
    | refine fr_gI (fun _ => ?_)
    | refine fr_gR (fun _ => ?_)
    | refine fr_gN (fun _ => ?_)
    | refine fr_gAI (fun _ => ?_)
    | refine fr_gAL (fun _ => ?_)
    | refine fr_gAN (fun _ => ?_)
    | refine fr_kif ?_ ?_
    | refine fr_nul ?_ (fun _ => ?_)
    | refine fr_may (fun _ => ?_)
    | refine fr_kdv ?_
    | refine fr_pI (by assumption) (by decide) (fun _ _ => ?_)
    | refine fr_pR (by assumption) (fun _ _ => ?_)
    | refine fr_pAI (by assumption) (by decide) (fun _ _ => ?_)
    | refine fr_pAZ (by assumption) (by decide) (fun _ _ => ?_)
    | refine fr_pAL (by assumption) (fun _ _ => ?_)
    | refine fr_pAN (by assumption) (fun _ _ => ?_)
    | refine fr_nw (by assumption) (fun _ _ _ => ?_)
    | refine fr_nwM (by assumption) (fun _ _ _ => ?_)
    | refine fr_callV (fr_f_X7_isPair _ _) (by assumption) (fun _ _ _ => ?_)
    | refine fr_bind (fr_f_X7_isPair _ _) (by assumption) (fun _ _ _ => ?_)
    | refine fr_binI (fr_f_X7_isPair _ _) (by assumption) (fun _ _ _ => ?_)
    | refine fr_callV (fr_X7_charsOf_b12 _ _) (by assumption) (fun _ _ _ => ?_)
    | refine fr_bind (fr_X7_charsOf_b12 _ _) (by assumption) (fun _ _ _ => ?_)
    | refine fr_binI (fr_X7_charsOf_b12 _ _) (by assumption) (fun _ _ _ => ?_))
theorem ro_f_X7_charsOf  (p0 : Int32) (h : KH) : RO h (f_X7_charsOf p0 h) := by
  unfold f_X7_charsOf
  repeat' with_reducible (first
    | exact ro_ret
    | exact ro_retZ
    | exact ro_retC
    | exact ro_thr
    | exact ro_none
    | exact ro_f_X7_isPair _ _
    | exact ro_X7_charsOf_b12 _ _
    | refine ro_gI (fun _ => ?_)
    | refine ro_gR (fun _ => ?_)
    | refine ro_gN (fun _ => ?_)
    | refine ro_gAI (fun _ => ?_)
    | refine ro_gAL (fun _ => ?_)
    | refine ro_gAN (fun _ => ?_)
    | refine ro_kif ?_ ?_
    | refine ro_nul ?_ (fun _ => ?_)
    | refine ro_may (fun _ => ?_)
    | refine ro_kdv ?_
    | refine ro_callV (ro_f_X7_isPair _ _) (fun _ => ?_)
    | refine ro_bind (ro_f_X7_isPair _ _) (fun _ => ?_)
    | refine ro_binI (ro_f_X7_isPair _ _) (fun _ => ?_)
    | refine ro_callV (ro_X7_charsOf_b12 _ _) (fun _ => ?_)
    | refine ro_bind (ro_X7_charsOf_b12 _ _) (fun _ => ?_)
    | refine ro_binI (ro_X7_charsOf_b12 _ _) (fun _ => ?_))
theorem fr_X7_charCount_b4 (rc4 : Nat → Int32 → Int32 → KH → KO Int32) (hr4 : ∀ (u0 : Nat) (u1 : Int32) (u2 : Int32) (u3 : KH), FR u3 (rc4 u0 u1 u2 u3)) (v0 : Nat) (v1 : Int32) (v2 : Int32) (h : KH) : FR h (X7_charCount_b4 rc4 v0 v1 v2 h) := by
  unfold X7_charCount_b4
  have q0 : FL h h := FL.rf h
  repeat' with_reducible (first
    | exact fr_ret (by assumption)
    | exact fr_retZ (by assumption)
    | exact fr_retC (by assumption)
    | exact fr_thr (by assumption)
    | exact fr_none
    | exact fr_go (hr4 _ _ _ _) (by assumption)
    | exact fr_go (fr_f_X7_charsOf _ _) (by assumption)
    | refine fr_gI (fun _ => ?_)
    | refine fr_gR (fun _ => ?_)
    | refine fr_gN (fun _ => ?_)
    | refine fr_gAI (fun _ => ?_)
    | refine fr_gAL (fun _ => ?_)
    | refine fr_gAN (fun _ => ?_)
    | refine fr_kif ?_ ?_
    | refine fr_nul ?_ (fun _ => ?_)
    | refine fr_may (fun _ => ?_)
    | refine fr_kdv ?_
    | refine fr_pI (by assumption) (by decide) (fun _ _ => ?_)
    | refine fr_pR (by assumption) (fun _ _ => ?_)
    | refine fr_pAI (by assumption) (by decide) (fun _ _ => ?_)
    | refine fr_pAZ (by assumption) (by decide) (fun _ _ => ?_)
    | refine fr_pAL (by assumption) (fun _ _ => ?_)
    | refine fr_pAN (by assumption) (fun _ _ => ?_)
    | refine fr_nw (by assumption) (fun _ _ _ => ?_)
    | refine fr_nwM (by assumption) (fun _ _ _ => ?_)
    | refine fr_callV (hr4 _ _ _ _) (by assumption) (fun _ _ _ => ?_)
    | refine fr_bind (hr4 _ _ _ _) (by assumption) (fun _ _ _ => ?_)
    | refine fr_binI (hr4 _ _ _ _) (by assumption) (fun _ _ _ => ?_)
    | refine fr_callV (fr_f_X7_charsOf _ _) (by assumption) (fun _ _ _ => ?_)
    | refine fr_bind (fr_f_X7_charsOf _ _) (by assumption) (fun _ _ _ => ?_)
    | refine fr_binI (fr_f_X7_charsOf _ _) (by assumption) (fun _ _ _ => ?_))
theorem ro_X7_charCount_b4 (rc4 : Nat → Int32 → Int32 → KH → KO Int32) (hr4 : ∀ (u0 : Nat) (u1 : Int32) (u2 : Int32) (u3 : KH), RO u3 (rc4 u0 u1 u2 u3)) (v0 : Nat) (v1 : Int32) (v2 : Int32) (h : KH) : RO h (X7_charCount_b4 rc4 v0 v1 v2 h) := by
  unfold X7_charCount_b4
  repeat' with_reducible (first
    | exact ro_ret
    | exact ro_retZ
    | exact ro_retC
    | exact ro_thr
    | exact ro_none
    | exact hr4 _ _ _ _
    | exact ro_f_X7_charsOf _ _
    | refine ro_gI (fun _ => ?_)
    | refine ro_gR (fun _ => ?_)
    | refine ro_gN (fun _ => ?_)
    | refine ro_gAI (fun _ => ?_)
    | refine ro_gAL (fun _ => ?_)
    | refine ro_gAN (fun _ => ?_)
    | refine ro_kif ?_ ?_
    | refine ro_nul ?_ (fun _ => ?_)
    | refine ro_may (fun _ => ?_)
    | refine ro_kdv ?_
    | refine ro_callV (hr4 _ _ _ _) (fun _ => ?_)
    | refine ro_bind (hr4 _ _ _ _) (fun _ => ?_)
    | refine ro_binI (hr4 _ _ _ _) (fun _ => ?_)
    | refine ro_callV (ro_f_X7_charsOf _ _) (fun _ => ?_)
    | refine ro_bind (ro_f_X7_charsOf _ _) (fun _ => ?_)
    | refine ro_binI (ro_f_X7_charsOf _ _) (fun _ => ?_))
theorem fr_X7_charCount_L4  : ∀ (m : Nat) (u0 : Nat) (u1 : Int32) (u2 : Int32) (u3 : KH), FR u3 (X7_charCount_L4  m u0 u1 u2 u3) := by
  intro m
  induction m with
  | zero => intro u0 u1 u2 u3; exact fr_none
  | succ m ih => intro u0 u1 u2 u3; exact fr_X7_charCount_b4 (X7_charCount_L4  m) ih u0 u1 u2 u3
theorem ro_X7_charCount_L4  : ∀ (m : Nat) (u0 : Nat) (u1 : Int32) (u2 : Int32) (u3 : KH), RO u3 (X7_charCount_L4  m u0 u1 u2 u3) := by
  intro m
  induction m with
  | zero => intro u0 u1 u2 u3; exact ro_none
  | succ m ih => intro u0 u1 u2 u3; exact ro_X7_charCount_b4 (X7_charCount_L4  m) ih u0 u1 u2 u3
theorem fr_f_X7_charCount  (p0 : Nat) (h : KH) : FR h (f_X7_charCount p0 h) := by
  unfold f_X7_charCount
  have q0 : FL h h := FL.rf h
  repeat' with_reducible (first
    | exact fr_ret (by assumption)
    | exact fr_retZ (by assumption)
    | exact fr_retC (by assumption)
    | exact fr_thr (by assumption)
    | exact fr_none
    | exact fr_go (fr_X7_charCount_L4 _ _ _ _ _) (by assumption)
    | refine fr_gI (fun _ => ?_)
    | refine fr_gR (fun _ => ?_)
    | refine fr_gN (fun _ => ?_)
    | refine fr_gAI (fun _ => ?_)
    | refine fr_gAL (fun _ => ?_)
    | refine fr_gAN (fun _ => ?_)
    | refine fr_kif ?_ ?_
    | refine fr_nul ?_ (fun _ => ?_)
    | refine fr_may (fun _ => ?_)
    | refine fr_kdv ?_
    | refine fr_pI (by assumption) (by decide) (fun _ _ => ?_)
    | refine fr_pR (by assumption) (fun _ _ => ?_)
    | refine fr_pAI (by assumption) (by decide) (fun _ _ => ?_)
    | refine fr_pAZ (by assumption) (by decide) (fun _ _ => ?_)
    | refine fr_pAL (by assumption) (fun _ _ => ?_)
    | refine fr_pAN (by assumption) (fun _ _ => ?_)
    | refine fr_nw (by assumption) (fun _ _ _ => ?_)
    | refine fr_nwM (by assumption) (fun _ _ _ => ?_)
    | refine fr_callV (fr_X7_charCount_L4 _ _ _ _ _) (by assumption) (fun _ _ _ => ?_)
    | refine fr_bind (fr_X7_charCount_L4 _ _ _ _ _) (by assumption) (fun _ _ _ => ?_)
    | refine fr_binI (fr_X7_charCount_L4 _ _ _ _ _) (by assumption) (fun _ _ _ => ?_))
theorem ro_f_X7_charCount  (p0 : Nat) (h : KH) : RO h (f_X7_charCount p0 h) := by
  unfold f_X7_charCount
  repeat' with_reducible (first
    | exact ro_ret
    | exact ro_retZ
    | exact ro_retC
    | exact ro_thr
    | exact ro_none
    | exact ro_X7_charCount_L4 _ _ _ _ _
    | refine ro_gI (fun _ => ?_)
    | refine ro_gR (fun _ => ?_)
    | refine ro_gN (fun _ => ?_)
    | refine ro_gAI (fun _ => ?_)
    | refine ro_gAL (fun _ => ?_)
    | refine ro_gAN (fun _ => ?_)
    | refine ro_kif ?_ ?_
    | refine ro_nul ?_ (fun _ => ?_)
    | refine ro_may (fun _ => ?_)
    | refine ro_kdv ?_
    | refine ro_callV (ro_X7_charCount_L4 _ _ _ _ _) (fun _ => ?_)
    | refine ro_bind (ro_X7_charCount_L4 _ _ _ _ _) (fun _ => ?_)
    | refine ro_binI (ro_X7_charCount_L4 _ _ _ _ _) (fun _ => ?_))
theorem fr_f_X9_spell  (p0 : Nat) (p1 : Int32) (h : KH) : FR h (f_X9_spell p0 p1 h) := by
  unfold f_X9_spell
  have q0 : FL h h := FL.rf h
  repeat' with_reducible (first
    | exact fr_ret (by assumption)
    | exact fr_retZ (by assumption)
    | exact fr_retC (by assumption)
    | exact fr_thr (by assumption)
    | exact fr_none
    | exact fr_go (fr_f_X9_requireSign _ _) (by assumption)
    | exact fr_go (fr_f_X9_requireRoomForSign _ _) (by assumption)
    | exact fr_go (fr_f_X7_put _ _ _ _) (by assumption)
    | exact fr_go (fr_f_X7_charCount _ _) (by assumption)
    | refine fr_gI (fun _ => ?_)
    | refine fr_gR (fun _ => ?_)
    | refine fr_gN (fun _ => ?_)
    | refine fr_gAI (fun _ => ?_)
    | refine fr_gAL (fun _ => ?_)
    | refine fr_gAN (fun _ => ?_)
    | refine fr_kif ?_ ?_
    | refine fr_nul ?_ (fun _ => ?_)
    | refine fr_may (fun _ => ?_)
    | refine fr_kdv ?_
    | refine fr_pI (by assumption) (by decide) (fun _ _ => ?_)
    | refine fr_pR (by assumption) (fun _ _ => ?_)
    | refine fr_pAI (by assumption) (by decide) (fun _ _ => ?_)
    | refine fr_pAZ (by assumption) (by decide) (fun _ _ => ?_)
    | refine fr_pAL (by assumption) (fun _ _ => ?_)
    | refine fr_pAN (by assumption) (fun _ _ => ?_)
    | refine fr_nw (by assumption) (fun _ _ _ => ?_)
    | refine fr_nwM (by assumption) (fun _ _ _ => ?_)
    | refine fr_callV (fr_f_X9_requireSign _ _) (by assumption) (fun _ _ _ => ?_)
    | refine fr_bind (fr_f_X9_requireSign _ _) (by assumption) (fun _ _ _ => ?_)
    | refine fr_binI (fr_f_X9_requireSign _ _) (by assumption) (fun _ _ _ => ?_)
    | refine fr_callV (fr_f_X9_requireRoomForSign _ _) (by assumption) (fun _ _ _ => ?_)
    | refine fr_bind (fr_f_X9_requireRoomForSign _ _) (by assumption) (fun _ _ _ => ?_)
    | refine fr_binI (fr_f_X9_requireRoomForSign _ _) (by assumption) (fun _ _ _ => ?_)
    | refine fr_callV (fr_f_X7_put _ _ _ _) (by assumption) (fun _ _ _ => ?_)
    | refine fr_bind (fr_f_X7_put _ _ _ _) (by assumption) (fun _ _ _ => ?_)
    | refine fr_binI (fr_f_X7_put _ _ _ _) (by assumption) (fun _ _ _ => ?_)
    | refine fr_callV (fr_f_X7_charCount _ _) (by assumption) (fun _ _ _ => ?_)
    | refine fr_bind (fr_f_X7_charCount _ _) (by assumption) (fun _ _ _ => ?_)
    | refine fr_binI (fr_f_X7_charCount _ _) (by assumption) (fun _ _ _ => ?_))
theorem fr_f_X9_insert  (p0 : Nat) (p1 : Int32) (p2 : Int32) (h : KH) : FR h (f_X9_insert p0 p1 p2 h) := by
  unfold f_X9_insert
  have q0 : FL h h := FL.rf h
  repeat' with_reducible (first
    | exact fr_ret (by assumption)
    | exact fr_retZ (by assumption)
    | exact fr_retC (by assumption)
    | exact fr_thr (by assumption)
    | exact fr_none
    | exact fr_go (fr_f_X9_requireSign _ _) (by assumption)
    | exact fr_go (fr_f_X9_isWithin _ _ _ _) (by assumption)
    | exact fr_go (fr_f_X9_requireRoomForSign _ _) (by assumption)
    | exact fr_go (fr_f_X7_put _ _ _ _) (by assumption)
    | exact fr_go (fr_f_X7_charCount _ _) (by assumption)
    | refine fr_gI (fun _ => ?_)
    | refine fr_gR (fun _ => ?_)
    | refine fr_gN (fun _ => ?_)
    | refine fr_gAI (fun _ => ?_)
    | refine fr_gAL (fun _ => ?_)
    | refine fr_gAN (fun _ => ?_)
    | refine fr_kif ?_ ?_
    | refine fr_nul ?_ (fun _ => ?_)
    | refine fr_may (fun _ => ?_)
    | refine fr_kdv ?_
    | refine fr_pI (by assumption) (by decide) (fun _ _ => ?_)
    | refine fr_pR (by assumption) (fun _ _ => ?_)
    | refine fr_pAI (by assumption) (by decide) (fun _ _ => ?_)
    | refine fr_pAZ (by assumption) (by decide) (fun _ _ => ?_)
    | refine fr_pAL (by assumption) (fun _ _ => ?_)
    | refine fr_pAN (by assumption) (fun _ _ => ?_)
    | refine fr_nw (by assumption) (fun _ _ _ => ?_)
    | refine fr_nwM (by assumption) (fun _ _ _ => ?_)
    | refine fr_callV (fr_f_X9_requireSign _ _) (by assumption) (fun _ _ _ => ?_)
    | refine fr_bind (fr_f_X9_requireSign _ _) (by assumption) (fun _ _ _ => ?_)
    | refine fr_binI (fr_f_X9_requireSign _ _) (by assumption) (fun _ _ _ => ?_)
    | refine fr_callV (fr_f_X9_isWithin _ _ _ _) (by assumption) (fun _ _ _ => ?_)
    | refine fr_bind (fr_f_X9_isWithin _ _ _ _) (by assumption) (fun _ _ _ => ?_)
    | refine fr_binI (fr_f_X9_isWithin _ _ _ _) (by assumption) (fun _ _ _ => ?_)
    | refine fr_callV (fr_f_X9_requireRoomForSign _ _) (by assumption) (fun _ _ _ => ?_)
    | refine fr_bind (fr_f_X9_requireRoomForSign _ _) (by assumption) (fun _ _ _ => ?_)
    | refine fr_binI (fr_f_X9_requireRoomForSign _ _) (by assumption) (fun _ _ _ => ?_)
    | refine fr_callV (fr_f_X7_put _ _ _ _) (by assumption) (fun _ _ _ => ?_)
    | refine fr_bind (fr_f_X7_put _ _ _ _) (by assumption) (fun _ _ _ => ?_)
    | refine fr_binI (fr_f_X7_put _ _ _ _) (by assumption) (fun _ _ _ => ?_)
    | refine fr_callV (fr_f_X7_charCount _ _) (by assumption) (fun _ _ _ => ?_)
    | refine fr_bind (fr_f_X7_charCount _ _) (by assumption) (fun _ _ _ => ?_)
    | refine fr_binI (fr_f_X7_charCount _ _) (by assumption) (fun _ _ _ => ?_))
theorem fr_X7_turnRound_b9 (rc9 : Nat → Int32 → Int32 → KH → KO Unit) (hr9 : ∀ (u0 : Nat) (u1 : Int32) (u2 : Int32) (u3 : KH), FR u3 (rc9 u0 u1 u2 u3)) (v0 : Nat) (v1 : Int32) (v2 : Int32) (h : KH) : FR h (X7_turnRound_b9 rc9 v0 v1 v2 h) := by
  unfold X7_turnRound_b9
  have q0 : FL h h := FL.rf h
  repeat' with_reducible (first
    | exact fr_ret (by assumption)
    | exact fr_retZ (by assumption)
    | exact fr_retC (by assumption)
    | exact fr_thr (by assumption)
    | exact fr_none
    | exact fr_go (hr9 _ _ _ _) (by assumption)
    | refine fr_gI (fun _ => ?_)
    | refine fr_gR (fun _ => ?_)
    | refine fr_gN (fun _ => ?_)
    | refine fr_gAI (fun _ => ?_)
    | refine fr_gAL (fun _ => ?_)
    | refine fr_gAN (fun _ => ?_)
    | refine fr_kif ?_ ?_
    | refine fr_nul ?_ (fun _ => ?_)
    | refine fr_may (fun _ => ?_)
    | refine fr_kdv ?_
    | refine fr_pI (by assumption) (by decide) (fun _ _ => ?_)
    | refine fr_pR (by assumption) (fun _ _ => ?_)
    | refine fr_pAI (by assumption) (by decide) (fun _ _ => ?_)
    | refine fr_pAZ (by assumption) (by decide) (fun _ _ => ?_)
    | refine fr_pAL (by assumption) (fun _ _ => ?_)
    | refine fr_pAN (by assumption) (fun _ _ => ?_)
    | refine fr_nw (by assumption) (fun _ _ _ => ?_)
    | refine fr_nwM (by assumption) (fun _ _ _ => ?_)
    | refine fr_callV (hr9 _ _ _ _) (by assumption) (fun _ _ _ => ?_)
    | refine fr_bind (hr9 _ _ _ _) (by assumption) (fun _ _ _ => ?_)
    | refine fr_binI (hr9 _ _ _ _) (by assumption) (fun _ _ _ => ?_))
theorem fr_X7_turnRound_L9  : ∀ (m : Nat) (u0 : Nat) (u1 : Int32) (u2 : Int32) (u3 : KH), FR u3 (X7_turnRound_L9  m u0 u1 u2 u3) := by
  intro m
  induction m with
  | zero => intro u0 u1 u2 u3; exact fr_none
  | succ m ih => intro u0 u1 u2 u3; exact fr_X7_turnRound_b9 (X7_turnRound_L9  m) ih u0 u1 u2 u3
theorem fr_f_X7_turnRound  (p0 : Nat) (h : KH) : FR h (f_X7_turnRound p0 h) := by
  unfold f_X7_turnRound
  have q0 : FL h h := FL.rf h
  repeat' with_reducible (first
    | exact fr_ret (by assumption)
    | exact fr_retZ (by assumption)
    | exact fr_retC (by assumption)
    | exact fr_thr (by assumption)
    | exact fr_none
    | exact fr_go (fr_X7_turnRound_L9 _ _ _ _ _) (by assumption)
    | refine fr_gI (fun _ => ?_)
    | refine fr_gR (fun _ => ?_)
    | refine fr_gN (fun _ => ?_)
    | refine fr_gAI (fun _ => ?_)
    | refine fr_gAL (fun _ => ?_)
    | refine fr_gAN (fun _ => ?_)
    | refine fr_kif ?_ ?_
    | refine fr_nul ?_ (fun _ => ?_)
    | refine fr_may (fun _ => ?_)
    | refine fr_kdv ?_
    | refine fr_pI (by assumption) (by decide) (fun _ _ => ?_)
    | refine fr_pR (by assumption) (fun _ _ => ?_)
    | refine fr_pAI (by assumption) (by decide) (fun _ _ => ?_)
    | refine fr_pAZ (by assumption) (by decide) (fun _ _ => ?_)
    | refine fr_pAL (by assumption) (fun _ _ => ?_)
    | refine fr_pAN (by assumption) (fun _ _ => ?_)
    | refine fr_nw (by assumption) (fun _ _ _ => ?_)
    | refine fr_nwM (by assumption) (fun _ _ _ => ?_)
    | refine fr_callV (fr_X7_turnRound_L9 _ _ _ _ _) (by assumption) (fun _ _ _ => ?_)
    | refine fr_bind (fr_X7_turnRound_L9 _ _ _ _ _) (by assumption) (fun _ _ _ => ?_)
    | refine fr_binI (fr_X7_turnRound_L9 _ _ _ _ _) (by assumption) (fun _ _ _ => ?_))
theorem fr_f_X9_mirror  (p0 : Nat) (h : KH) : FR h (f_X9_mirror p0 h) := by
  unfold f_X9_mirror
  have q0 : FL h h := FL.rf h
  repeat' with_reducible (first
    | exact fr_ret (by assumption)
    | exact fr_retZ (by assumption)
    | exact fr_retC (by assumption)
    | exact fr_thr (by assumption)
    | exact fr_none
    | exact fr_go (fr_f_X7_turnRound _ _) (by assumption)
    | refine fr_gI (fun _ => ?_)
    | refine fr_gR (fun _ => ?_)
    | refine fr_gN (fun _ => ?_)
    | refine fr_gAI (fun _ => ?_)
    | refine fr_gAL (fun _ => ?_)
    | refine fr_gAN (fun _ => ?_)
    | refine fr_kif ?_ ?_
    | refine fr_nul ?_ (fun _ => ?_)
    | refine fr_may (fun _ => ?_)
    | refine fr_kdv ?_
    | refine fr_pI (by assumption) (by decide) (fun _ _ => ?_)
    | refine fr_pR (by assumption) (fun _ _ => ?_)
    | refine fr_pAI (by assumption) (by decide) (fun _ _ => ?_)
    | refine fr_pAZ (by assumption) (by decide) (fun _ _ => ?_)
    | refine fr_pAL (by assumption) (fun _ _ => ?_)
    | refine fr_pAN (by assumption) (fun _ _ => ?_)
    | refine fr_nw (by assumption) (fun _ _ _ => ?_)
    | refine fr_nwM (by assumption) (fun _ _ _ => ?_)
    | refine fr_callV (fr_f_X7_turnRound _ _) (by assumption) (fun _ _ _ => ?_)
    | refine fr_bind (fr_f_X7_turnRound _ _) (by assumption) (fun _ _ _ => ?_)
    | refine fr_binI (fr_f_X7_turnRound _ _) (by assumption) (fun _ _ _ => ?_))
theorem fr_f_X9_clearSpelled  (p0 : Nat) (h : KH) : FR h (f_X9_clearSpelled p0 h) := by
  unfold f_X9_clearSpelled
  have q0 : FL h h := FL.rf h
  repeat' with_reducible (first
    | exact fr_ret (by assumption)
    | exact fr_retZ (by assumption)
    | exact fr_retC (by assumption)
    | exact fr_thr (by assumption)
    | exact fr_none
    | refine fr_gI (fun _ => ?_)
    | refine fr_gR (fun _ => ?_)
    | refine fr_gN (fun _ => ?_)
    | refine fr_gAI (fun _ => ?_)
    | refine fr_gAL (fun _ => ?_)
    | refine fr_gAN (fun _ => ?_)
    | refine fr_kif ?_ ?_
    | refine fr_nul ?_ (fun _ => ?_)
    | refine fr_may (fun _ => ?_)
    | refine fr_kdv ?_
    | refine fr_pI (by assumption) (by decide) (fun _ _ => ?_)
    | refine fr_pR (by assumption) (fun _ _ => ?_)
    | refine fr_pAI (by assumption) (by decide) (fun _ _ => ?_)
    | refine fr_pAZ (by assumption) (by decide) (fun _ _ => ?_)
    | refine fr_pAL (by assumption) (fun _ _ => ?_)
    | refine fr_pAN (by assumption) (fun _ _ => ?_)
    | refine fr_nw (by assumption) (fun _ _ _ => ?_)
    | refine fr_nwM (by assumption) (fun _ _ _ => ?_))
theorem fr_X7_charNumberOf_b37  (s0 : Int32) (h : KH) : FR h (X7_charNumberOf_b37 s0 h) := by
  unfold X7_charNumberOf_b37
  have q0 : FL h h := FL.rf h
  repeat' with_reducible (first
    | exact fr_ret (by assumption)
    | exact fr_retZ (by assumption)
    | exact fr_retC (by assumption)
    | exact fr_thr (by assumption)
    | exact fr_none
    | refine fr_gI (fun _ => ?_)
    | refine fr_gR (fun _ => ?_)
    | refine fr_gN (fun _ => ?_)
    | refine fr_gAI (fun _ => ?_)
    | refine fr_gAL (fun _ => ?_)
    | refine fr_gAN (fun _ => ?_)
    | refine fr_kif ?_ ?_
    | refine fr_nul ?_ (fun _ => ?_)
    | refine fr_may (fun _ => ?_)
    | refine fr_kdv ?_
    | refine fr_pI (by assumption) (by decide) (fun _ _ => ?_)
    | refine fr_pR (by assumption) (fun _ _ => ?_)
    | refine fr_pAI (by assumption) (by decide) (fun _ _ => ?_)
    | refine fr_pAZ (by assumption) (by decide) (fun _ _ => ?_)
    | refine fr_pAL (by assumption) (fun _ _ => ?_)
    | refine fr_pAN (by assumption) (fun _ _ => ?_)
    | refine fr_nw (by assumption) (fun _ _ _ => ?_)
    | refine fr_nwM (by assumption) (fun _ _ _ => ?_))
theorem ro_X7_charNumberOf_b37  (s0 : Int32) (h : KH) : RO h (X7_charNumberOf_b37 s0 h) := by
  unfold X7_charNumberOf_b37
  repeat' with_reducible (first
    | exact ro_ret
    | exact ro_retZ
    | exact ro_retC
    | exact ro_thr
    | exact ro_none
    | refine ro_gI (fun _ => ?_)
    | refine ro_gR (fun _ => ?_)
    | refine ro_gN (fun _ => ?_)
    | refine ro_gAI (fun _ => ?_)
    | refine ro_gAL (fun _ => ?_)
    | refine ro_gAN (fun _ => ?_)
    | refine ro_kif ?_ ?_
    | refine ro_nul ?_ (fun _ => ?_)
    | refine ro_may (fun _ => ?_)
    | refine ro_kdv ?_)
theorem fr_f_X7_charNumberOf  (p0 : Int32) (p1 : Int32) (h : KH) : FR h (f_X7_charNumberOf p0 p1 h) := by
  unfold f_X7_charNumberOf
  have q0 : FL h h := FL.rf h
  repeat' with_reducible (first
    | exact fr_ret (by assumption)
    | exact fr_retZ (by assumption)
    | exact fr_retC (by assumption)
    | exact fr_thr (by assumption)
    | exact fr_none
    | exact fr_go (fr_f_X7_isPair _ _) (by assumption)
    | exact fr_go (fr_X7_charNumberOf_b37 _ _) (by assumption)
    | refine fr_gI (fun _ => ?_)
    | refine fr_gR (fun _ => ?_)
    | refine fr_gN (fun _ => ?_)
    | refine fr_gAI (fun _ => ?_)
    | refine fr_gAL (fun _ => ?_)
    | refine fr_gAN (fun _ => ?_)
    | refine fr_kif ?_ ?_
    | refine fr_nul ?_ (fun _ => ?_)
    | refine fr_may (fun _ => ?_)
    | refine fr_kdv ?_
    | refine fr_pI (by assumption) (by decide) (fun _ _ => ?_)
    | refine fr_pR (by assumption) (fun _ _ => ?_)
    | refine fr_pAI (by assumption) (by decide) (fun _ _ => ?_)
    | refine fr_pAZ (by assumption) (by decide) (fun _ _ => ?_)
    | refine fr_pAL (by assumption) (fun _ _ => ?_)
    | refine fr_pAN (by assumption) (fun _ _ => ?_)
    | refine fr_nw (by assumption) (fun _ _ _ => ?_)
    | refine fr_nwM (by assumption) (fun _ _ _ => ?_)
    | refine fr_callV (fr_f_X7_isPair _ _) (by assumption) (fun _ _ _ => ?_)
    | refine fr_bind (fr_f_X7_isPair _ _) (by assumption) (fun _ _ _ => ?_)
    | refine fr_binI (fr_f_X7_isPair _ _) (by assumption) (fun _ _ _ => ?_)
    | refine fr_callV (fr_X7_charNumberOf_b37 _ _) (by assumption) (fun _ _ _ => ?_)
    | refine fr_bind (fr_X7_charNumberOf_b37 _ _) (by assumption) (fun _ _ _ => ?_)
    | refine fr_binI (fr_X7_charNumberOf_b37 _ _) (by assumption) (fun _ _ _ => ?_))
theorem ro_f_X7_charNumberOf  (p0 : Int32) (p1 : Int32) (h : KH) : RO h (f_X7_charNumberOf p0 p1 h) := by
  unfold f_X7_charNumberOf
  repeat' with_reducible (first
    | exact ro_ret
    | exact ro_retZ
    | exact ro_retC
    | exact ro_thr
    | exact ro_none
    | exact ro_f_X7_isPair _ _
    | exact ro_X7_charNumberOf_b37 _ _
    | refine ro_gI (fun _ => ?_)
    | refine ro_gR (fun _ => ?_)
    | refine ro_gN (fun _ => ?_)
    | refine ro_gAI (fun _ => ?_)
    | refine ro_gAL (fun _ => ?_)
    | refine ro_gAN (fun _ => ?_)
    | refine ro_kif ?_ ?_
    | refine ro_nul ?_ (fun _ => ?_)
    | refine ro_may (fun _ => ?_)
    | refine ro_kdv ?_
    | refine ro_callV (ro_f_X7_isPair _ _) (fun _ => ?_)
    | refine ro_bind (ro_f_X7_isPair _ _) (fun _ => ?_)
    | refine ro_binI (ro_f_X7_isPair _ _) (fun _ => ?_)
    | refine ro_callV (ro_X7_charNumberOf_b37 _ _) (fun _ => ?_)
    | refine ro_bind (ro_X7_charNumberOf_b37 _ _) (fun _ => ?_)
    | refine ro_binI (ro_X7_charNumberOf_b37 _ _) (fun _ => ?_))
theorem fr_X7_charNumberAt_b57  (h : KH) : FR h (X7_charNumberAt_b57 h) := by
  unfold X7_charNumberAt_b57
  have q0 : FL h h := FL.rf h
  repeat' with_reducible (first
    | exact fr_ret (by assumption)
    | exact fr_retZ (by assumption)
    | exact fr_retC (by assumption)
    | exact fr_thr (by assumption)
    | exact fr_none
    | refine fr_gI (fun _ => ?_)
    | refine fr_gR (fun _ => ?_)
    | refine fr_gN (fun _ => ?_)
    | refine fr_gAI (fun _ => ?_)
    | refine fr_gAL (fun _ => ?_)
    | refine fr_gAN (fun _ => ?_)
    | refine fr_kif ?_ ?_
    | refine fr_nul ?_ (fun _ => ?_)
    | refine fr_may (fun _ => ?_)
    | refine fr_kdv ?_
    | refine fr_pI (by assumption) (by decide) (fun _ _ => ?_)
    | refine fr_pR (by assumption) (fun _ _ => ?_)
    | refine fr_pAI (by assumption) (by decide) (fun _ _ => ?_)
    | refine fr_pAZ (by assumption) (by decide) (fun _ _ => ?_)
    | refine fr_pAL (by assumption) (fun _ _ => ?_)
    | refine fr_pAN (by assumption) (fun _ _ => ?_)
    | refine fr_nw (by assumption) (fun _ _ _ => ?_)
    | refine fr_nwM (by assumption) (fun _ _ _ => ?_))
theorem ro_X7_charNumberAt_b57  (h : KH) : RO h (X7_charNumberAt_b57 h) := by
  unfold X7_charNumberAt_b57
  repeat' with_reducible (first
    | exact ro_ret
    | exact ro_retZ
    | exact ro_retC
    | exact ro_thr
    | exact ro_none
    | refine ro_gI (fun _ => ?_)
    | refine ro_gR (fun _ => ?_)
    | refine ro_gN (fun _ => ?_)
    | refine ro_gAI (fun _ => ?_)
    | refine ro_gAL (fun _ => ?_)
    | refine ro_gAN (fun _ => ?_)
    | refine ro_kif ?_ ?_
    | refine ro_nul ?_ (fun _ => ?_)
    | refine ro_may (fun _ => ?_)
    | refine ro_kdv ?_)
theorem fr_X7_charNumberAt_b4 (rc4 : Nat → Int32 → Int32 → Int32 → KH → KO Int32) (hr4 : ∀ (u0 : Nat) (u1 : Int32) (u2 : Int32) (u3 : Int32) (u4 : KH), FR u4 (rc4 u0 u1 u2 u3 u4)) (v0 : Nat) (v1 : Int32) (v2 : Int32) (v3 : Int32) (h : KH) : FR h (X7_charNumberAt_b4 rc4 v0 v1 v2 v3 h) := by
  unfold X7_charNumberAt_b4
  have q0 : FL h h := FL.rf h
  repeat' with_reducible (first
    | exact fr_ret (by assumption)
    | exact fr_retZ (by assumption)
    | exact fr_retC (by assumption)
    | exact fr_thr (by assumption)
    | exact fr_none
    | exact fr_go (hr4 _ _ _ _ _) (by assumption)
    | exact fr_go (fr_X7_charNumberAt_b57 _) (by assumption)
    | exact fr_go (fr_f_X7_charsOf _ _) (by assumption)
    | exact fr_go (fr_f_X7_charNumberOf _ _ _) (by assumption)
    | refine fr_gI (fun _ => ?_)
    | refine fr_gR (fun _ => ?_)
    | refine fr_gN (fun _ => ?_)
    | refine fr_gAI (fun _ => ?_)
    | refine fr_gAL (fun _ => ?_)
    | refine fr_gAN (fun _ => ?_)
    | refine fr_kif ?_ ?_
    | refine fr_nul ?_ (fun _ => ?_)
    | refine fr_may (fun _ => ?_)
    | refine fr_kdv ?_
    | refine fr_pI (by assumption) (by decide) (fun _ _ => ?_)
    | refine fr_pR (by assumption) (fun _ _ => ?_)
    | refine fr_pAI (by assumption) (by decide) (fun _ _ => ?_)
    | refine fr_pAZ (by assumption) (by decide) (fun _ _ => ?_)
    | refine fr_pAL (by assumption) (fun _ _ => ?_)
    | refine fr_pAN (by assumption) (fun _ _ => ?_)
    | refine fr_nw (by assumption) (fun _ _ _ => ?_)
    | refine fr_nwM (by assumption) (fun _ _ _ => ?_)
    | refine fr_callV (hr4 _ _ _ _ _) (by assumption) (fun _ _ _ => ?_)
    | refine fr_bind (hr4 _ _ _ _ _) (by assumption) (fun _ _ _ => ?_)
    | refine fr_binI (hr4 _ _ _ _ _) (by assumption) (fun _ _ _ => ?_)
    | refine fr_callV (fr_X7_charNumberAt_b57 _) (by assumption) (fun _ _ _ => ?_)
    | refine fr_bind (fr_X7_charNumberAt_b57 _) (by assumption) (fun _ _ _ => ?_)
    | refine fr_binI (fr_X7_charNumberAt_b57 _) (by assumption) (fun _ _ _ => ?_)
    | refine fr_callV (fr_f_X7_charsOf _ _) (by assumption) (fun _ _ _ => ?_)
    | refine fr_bind (fr_f_X7_charsOf _ _) (by assumption) (fun _ _ _ => ?_)
    | refine fr_binI (fr_f_X7_charsOf _ _) (by assumption) (fun _ _ _ => ?_)
    | refine fr_callV (fr_f_X7_charNumberOf _ _ _) (by assumption) (fun _ _ _ => ?_)
    | refine fr_bind (fr_f_X7_charNumberOf _ _ _) (by assumption) (fun _ _ _ => ?_)
    | refine fr_binI (fr_f_X7_charNumberOf _ _ _) (by assumption) (fun _ _ _ => ?_))
theorem ro_X7_charNumberAt_b4 (rc4 : Nat → Int32 → Int32 → Int32 → KH → KO Int32) (hr4 : ∀ (u0 : Nat) (u1 : Int32) (u2 : Int32) (u3 : Int32) (u4 : KH), RO u4 (rc4 u0 u1 u2 u3 u4)) (v0 : Nat) (v1 : Int32) (v2 : Int32) (v3 : Int32) (h : KH) : RO h (X7_charNumberAt_b4 rc4 v0 v1 v2 v3 h) := by
  unfold X7_charNumberAt_b4
  repeat' with_reducible (first
    | exact ro_ret
    | exact ro_retZ
    | exact ro_retC
    | exact ro_thr
    | exact ro_none
    | exact hr4 _ _ _ _ _
    | exact ro_X7_charNumberAt_b57 _
    | exact ro_f_X7_charsOf _ _
    | exact ro_f_X7_charNumberOf _ _ _
    | refine ro_gI (fun _ => ?_)
    | refine ro_gR (fun _ => ?_)
    | refine ro_gN (fun _ => ?_)
    | refine ro_gAI (fun _ => ?_)
    | refine ro_gAL (fun _ => ?_)
    | refine ro_gAN (fun _ => ?_)
    | refine ro_kif ?_ ?_
    | refine ro_nul ?_ (fun _ => ?_)
    | refine ro_may (fun _ => ?_)
    | refine ro_kdv ?_
    | refine ro_callV (hr4 _ _ _ _ _) (fun _ => ?_)
    | refine ro_bind (hr4 _ _ _ _ _) (fun _ => ?_)
    | refine ro_binI (hr4 _ _ _ _ _) (fun _ => ?_)
    | refine ro_callV (ro_X7_charNumberAt_b57 _) (fun _ => ?_)
    | refine ro_bind (ro_X7_charNumberAt_b57 _) (fun _ => ?_)
    | refine ro_binI (ro_X7_charNumberAt_b57 _) (fun _ => ?_)
    | refine ro_callV (ro_f_X7_charsOf _ _) (fun _ => ?_)
    | refine ro_bind (ro_f_X7_charsOf _ _) (fun _ => ?_)
    | refine ro_binI (ro_f_X7_charsOf _ _) (fun _ => ?_)
    | refine ro_callV (ro_f_X7_charNumberOf _ _ _) (fun _ => ?_)
    | refine ro_bind (ro_f_X7_charNumberOf _ _ _) (fun _ => ?_)
    | refine ro_binI (ro_f_X7_charNumberOf _ _ _) (fun _ => ?_))
theorem fr_X7_charNumberAt_L4  : ∀ (m : Nat) (u0 : Nat) (u1 : Int32) (u2 : Int32) (u3 : Int32) (u4 : KH), FR u4 (X7_charNumberAt_L4  m u0 u1 u2 u3 u4) := by
  intro m
  induction m with
  | zero => intro u0 u1 u2 u3 u4; exact fr_none
  | succ m ih => intro u0 u1 u2 u3 u4; exact fr_X7_charNumberAt_b4 (X7_charNumberAt_L4  m) ih u0 u1 u2 u3 u4
theorem ro_X7_charNumberAt_L4  : ∀ (m : Nat) (u0 : Nat) (u1 : Int32) (u2 : Int32) (u3 : Int32) (u4 : KH), RO u4 (X7_charNumberAt_L4  m u0 u1 u2 u3 u4) := by
  intro m
  induction m with
  | zero => intro u0 u1 u2 u3 u4; exact ro_none
  | succ m ih => intro u0 u1 u2 u3 u4; exact ro_X7_charNumberAt_b4 (X7_charNumberAt_L4  m) ih u0 u1 u2 u3 u4
theorem fr_f_X7_charNumberAt  (p0 : Nat) (p1 : Int32) (h : KH) : FR h (f_X7_charNumberAt p0 p1 h) := by
  unfold f_X7_charNumberAt
  have q0 : FL h h := FL.rf h
  repeat' with_reducible (first
    | exact fr_ret (by assumption)
    | exact fr_retZ (by assumption)
    | exact fr_retC (by assumption)
    | exact fr_thr (by assumption)
    | exact fr_none
    | exact fr_go (fr_X7_charNumberAt_L4 _ _ _ _ _ _) (by assumption)
    | refine fr_gI (fun _ => ?_)
    | refine fr_gR (fun _ => ?_)
    | refine fr_gN (fun _ => ?_)
    | refine fr_gAI (fun _ => ?_)
    | refine fr_gAL (fun _ => ?_)
    | refine fr_gAN (fun _ => ?_)
    | refine fr_kif ?_ ?_
    | refine fr_nul ?_ (fun _ => ?_)
    | refine fr_may (fun _ => ?_)
    | refine fr_kdv ?_
    | refine fr_pI (by assumption) (by decide) (fun _ _ => ?_)
    | refine fr_pR (by assumption) (fun _ _ => ?_)
    | refine fr_pAI (by assumption) (by decide) (fun _ _ => ?_)
    | refine fr_pAZ (by assumption) (by decide) (fun _ _ => ?_)
    | refine fr_pAL (by assumption) (fun _ _ => ?_)
    | refine fr_pAN (by assumption) (fun _ _ => ?_)
    | refine fr_nw (by assumption) (fun _ _ _ => ?_)
    | refine fr_nwM (by assumption) (fun _ _ _ => ?_)
    | refine fr_callV (fr_X7_charNumberAt_L4 _ _ _ _ _ _) (by assumption) (fun _ _ _ => ?_)
    | refine fr_bind (fr_X7_charNumberAt_L4 _ _ _ _ _ _) (by assumption) (fun _ _ _ => ?_)
    | refine fr_binI (fr_X7_charNumberAt_L4 _ _ _ _ _ _) (by assumption) (fun _ _ _ => ?_))
theorem ro_f_X7_charNumberAt  (p0 : Nat) (p1 : Int32) (h : KH) : RO h (f_X7_charNumberAt p0 p1 h) := by
  unfold f_X7_charNumberAt
  repeat' with_reducible (first
    | exact ro_ret
    | exact ro_retZ
    | exact ro_retC
    | exact ro_thr
    | exact ro_none
    | exact ro_X7_charNumberAt_L4 _ _ _ _ _ _
    | refine ro_gI (fun _ => ?_)
    | refine ro_gR (fun _ => ?_)
    | refine ro_gN (fun _ => ?_)
    | refine ro_gAI (fun _ => ?_)
    | refine ro_gAL (fun _ => ?_)
    | refine ro_gAN (fun _ => ?_)
    | refine ro_kif ?_ ?_
    | refine ro_nul ?_ (fun _ => ?_)
    | refine ro_may (fun _ => ?_)
    | refine ro_kdv ?_
    | refine ro_callV (ro_X7_charNumberAt_L4 _ _ _ _ _ _) (fun _ => ?_)
    | refine ro_bind (ro_X7_charNumberAt_L4 _ _ _ _ _ _) (fun _ => ?_)
    | refine ro_binI (ro_X7_charNumberAt_L4 _ _ _ _ _ _) (fun _ => ?_))
theorem fr_f_X9_charAt  (p0 : Nat) (p1 : Int32) (h : KH) : FR h (f_X9_charAt p0 p1 h) := by
  unfold f_X9_charAt
  have q0 : FL h h := FL.rf h
  repeat' with_reducible (first
    | exact fr_ret (by assumption)
    | exact fr_retZ (by assumption)
    | exact fr_retC (by assumption)
    | exact fr_thr (by assumption)
    | exact fr_none
    | exact fr_go (fr_f_X7_charNumberAt _ _ _) (by assumption)
    | refine fr_gI (fun _ => ?_)
    | refine fr_gR (fun _ => ?_)
    | refine fr_gN (fun _ => ?_)
    | refine fr_gAI (fun _ => ?_)
    | refine fr_gAL (fun _ => ?_)
    | refine fr_gAN (fun _ => ?_)
    | refine fr_kif ?_ ?_
    | refine fr_nul ?_ (fun _ => ?_)
    | refine fr_may (fun _ => ?_)
    | refine fr_kdv ?_
    | refine fr_pI (by assumption) (by decide) (fun _ _ => ?_)
    | refine fr_pR (by assumption) (fun _ _ => ?_)
    | refine fr_pAI (by assumption) (by decide) (fun _ _ => ?_)
    | refine fr_pAZ (by assumption) (by decide) (fun _ _ => ?_)
    | refine fr_pAL (by assumption) (fun _ _ => ?_)
    | refine fr_pAN (by assumption) (fun _ _ => ?_)
    | refine fr_nw (by assumption) (fun _ _ _ => ?_)
    | refine fr_nwM (by assumption) (fun _ _ _ => ?_)
    | refine fr_callV (fr_f_X7_charNumberAt _ _ _) (by assumption) (fun _ _ _ => ?_)
    | refine fr_bind (fr_f_X7_charNumberAt _ _ _) (by assumption) (fun _ _ _ => ?_)
    | refine fr_binI (fr_f_X7_charNumberAt _ _ _) (by assumption) (fun _ _ _ => ?_))
theorem ro_f_X9_charAt  (p0 : Nat) (p1 : Int32) (h : KH) : RO h (f_X9_charAt p0 p1 h) := by
  unfold f_X9_charAt
  repeat' with_reducible (first
    | exact ro_ret
    | exact ro_retZ
    | exact ro_retC
    | exact ro_thr
    | exact ro_none
    | exact ro_f_X7_charNumberAt _ _ _
    | refine ro_gI (fun _ => ?_)
    | refine ro_gR (fun _ => ?_)
    | refine ro_gN (fun _ => ?_)
    | refine ro_gAI (fun _ => ?_)
    | refine ro_gAL (fun _ => ?_)
    | refine ro_gAN (fun _ => ?_)
    | refine ro_kif ?_ ?_
    | refine ro_nul ?_ (fun _ => ?_)
    | refine ro_may (fun _ => ?_)
    | refine ro_kdv ?_
    | refine ro_callV (ro_f_X7_charNumberAt _ _ _) (fun _ => ?_)
    | refine ro_bind (ro_f_X7_charNumberAt _ _ _) (fun _ => ?_)
    | refine ro_binI (ro_f_X7_charNumberAt _ _ _) (fun _ => ?_))
theorem fr_f_X2_turn  (p0 : Nat) (p1 : Int32) (p2 : Int32) (h : KH) : FR h (f_X2_turn p0 p1 p2 h) := by
  unfold f_X2_turn
  have q0 : FL h h := FL.rf h
  repeat' with_reducible (first
    | exact fr_ret (by assumption)
    | exact fr_retZ (by assumption)
    | exact fr_retC (by assumption)
    | exact fr_thr (by assumption)
    | exact fr_none
    | refine fr_gI (fun _ => ?_)
    | refine fr_gR (fun _ => ?_)
    | refine fr_gN (fun _ => ?_)
    | refine fr_gAI (fun _ => ?_)
    | refine fr_gAL (fun _ => ?_)
    | refine fr_gAN (fun _ => ?_)
    | refine fr_kif ?_ ?_
    | refine fr_nul ?_ (fun _ => ?_)
    | refine fr_may (fun _ => ?_)
    | refine fr_kdv ?_
    | refine fr_pI (by assumption) (by decide) (fun _ _ => ?_)
    | refine fr_pR (by assumption) (fun _ _ => ?_)
    | refine fr_pAI (by assumption) (by decide) (fun _ _ => ?_)
    | refine fr_pAZ (by assumption) (by decide) (fun _ _ => ?_)
    | refine fr_pAL (by assumption) (fun _ _ => ?_)
    | refine fr_pAN (by assumption) (fun _ _ => ?_)
    | refine fr_nw (by assumption) (fun _ _ _ => ?_)
    | refine fr_nwM (by assumption) (fun _ _ _ => ?_))
theorem fr_X2_holds_b19  (s0 : Int32) (h : KH) : FR h (X2_holds_b19 s0 h) := by
  unfold X2_holds_b19
  have q0 : FL h h := FL.rf h
  repeat' with_reducible (first
    | exact fr_ret (by assumption)
    | exact fr_retZ (by assumption)
    | exact fr_retC (by assumption)
    | exact fr_thr (by assumption)
    | exact fr_none
    | refine fr_gI (fun _ => ?_)
    | refine fr_gR (fun _ => ?_)
    | refine fr_gN (fun _ => ?_)
    | refine fr_gAI (fun _ => ?_)
    | refine fr_gAL (fun _ => ?_)
    | refine fr_gAN (fun _ => ?_)
    | refine fr_kif ?_ ?_
    | refine fr_nul ?_ (fun _ => ?_)
    | refine fr_may (fun _ => ?_)
    | refine fr_kdv ?_
    | refine fr_pI (by assumption) (by decide) (fun _ _ => ?_)
    | refine fr_pR (by assumption) (fun _ _ => ?_)
    | refine fr_pAI (by assumption) (by decide) (fun _ _ => ?_)
    | refine fr_pAZ (by assumption) (by decide) (fun _ _ => ?_)
    | refine fr_pAL (by assumption) (fun _ _ => ?_)
    | refine fr_pAN (by assumption) (fun _ _ => ?_)
    | refine fr_nw (by assumption) (fun _ _ _ => ?_)
    | refine fr_nwM (by assumption) (fun _ _ _ => ?_))
theorem ro_X2_holds_b19  (s0 : Int32) (h : KH) : RO h (X2_holds_b19 s0 h) := by
  unfold X2_holds_b19
  repeat' with_reducible (first
    | exact ro_ret
    | exact ro_retZ
    | exact ro_retC
    | exact ro_thr
    | exact ro_none
    | refine ro_gI (fun _ => ?_)
    | refine ro_gR (fun _ => ?_)
    | refine ro_gN (fun _ => ?_)
    | refine ro_gAI (fun _ => ?_)
    | refine ro_gAL (fun _ => ?_)
    | refine ro_gAN (fun _ => ?_)
    | refine ro_kif ?_ ?_
    | refine ro_nul ?_ (fun _ => ?_)
    | refine ro_may (fun _ => ?_)
    | refine ro_kdv ?_)
theorem fr_f_X2_holds  (p0 : Nat) (p1 : Int32) (p2 : Int32) (h : KH) : FR h (f_X2_holds p0 p1 p2 h) := by
  unfold f_X2_holds
  have q0 : FL h h := FL.rf h
  repeat' with_reducible (first
    | exact fr_ret (by assumption)
    | exact fr_retZ (by assumption)
    | exact fr_retC (by assumption)
    | exact fr_thr (by assumption)
    | exact fr_none
    | exact fr_go (fr_X2_holds_b19 _ _) (by assumption)
    | refine fr_gI (fun _ => ?_)
    | refine fr_gR (fun _ => ?_)
    | refine fr_gN (fun _ => ?_)
    | refine fr_gAI (fun _ => ?_)
    | refine fr_gAL (fun _ => ?_)
    | refine fr_gAN (fun _ => ?_)
    | refine fr_kif ?_ ?_
    | refine fr_nul ?_ (fun _ => ?_)
    | refine fr_may (fun _ => ?_)
    | refine fr_kdv ?_
    | refine fr_pI (by assumption) (by decide) (fun _ _ => ?_)
    | refine fr_pR (by assumption) (fun _ _ => ?_)
    | refine fr_pAI (by assumption) (by decide) (fun _ _ => ?_)
    | refine fr_pAZ (by assumption) (by decide) (fun _ _ => ?_)
    | refine fr_pAL (by assumption) (fun _ _ => ?_)
    | refine fr_pAN (by assumption) (fun _ _ => ?_)
    | refine fr_nw (by assumption) (fun _ _ _ => ?_)
    | refine fr_nwM (by assumption) (fun _ _ _ => ?_)
    | refine fr_callV (fr_X2_holds_b19 _ _) (by assumption) (fun _ _ _ => ?_)
    | refine fr_bind (fr_X2_holds_b19 _ _) (by assumption) (fun _ _ _ => ?_)
    | refine fr_binI (fr_X2_holds_b19 _ _) (by assumption) (fun _ _ _ => ?_))
theorem ro_f_X2_holds  (p0 : Nat) (p1 : Int32) (p2 : Int32) (h : KH) : RO h (f_X2_holds p0 p1 p2 h) := by
  unfold f_X2_holds
  repeat' with_reducible (first
    | exact ro_ret
    | exact ro_retZ
    | exact ro_retC
    | exact ro_thr
    | exact ro_none
    | exact ro_X2_holds_b19 _ _
    | refine ro_gI (fun _ => ?_)
    | refine ro_gR (fun _ => ?_)
    | refine ro_gN (fun _ => ?_)
    | refine ro_gAI (fun _ => ?_)
    | refine ro_gAL (fun _ => ?_)
    | refine ro_gAN (fun _ => ?_)
    | refine ro_kif ?_ ?_
    | refine ro_nul ?_ (fun _ => ?_)
    | refine ro_may (fun _ => ?_)
    | refine ro_kdv ?_
    | refine ro_callV (ro_X2_holds_b19 _ _) (fun _ => ?_)
    | refine ro_bind (ro_X2_holds_b19 _ _) (fun _ => ?_)
    | refine ro_binI (ro_X2_holds_b19 _ _) (fun _ => ?_))
theorem fr_X2_costOfSign_b29  (s0 : Int32) (h : KH) : FR h (X2_costOfSign_b29 s0 h) := by
  unfold X2_costOfSign_b29
  have q0 : FL h h := FL.rf h
  repeat' with_reducible (first
    | exact fr_ret (by assumption)
    | exact fr_retZ (by assumption)
    | exact fr_retC (by assumption)
    | exact fr_thr (by assumption)
    | exact fr_none
    | refine fr_gI (fun _ => ?_)
    | refine fr_gR (fun _ => ?_)
    | refine fr_gN (fun _ => ?_)
    | refine fr_gAI (fun _ => ?_)
    | refine fr_gAL (fun _ => ?_)
    | refine fr_gAN (fun _ => ?_)
    | refine fr_kif ?_ ?_
    | refine fr_nul ?_ (fun _ => ?_)
    | refine fr_may (fun _ => ?_)
    | refine fr_kdv ?_
    | refine fr_pI (by assumption) (by decide) (fun _ _ => ?_)
    | refine fr_pR (by assumption) (fun _ _ => ?_)
    | refine fr_pAI (by assumption) (by decide) (fun _ _ => ?_)
    | refine fr_pAZ (by assumption) (by decide) (fun _ _ => ?_)
    | refine fr_pAL (by assumption) (fun _ _ => ?_)
    | refine fr_pAN (by assumption) (fun _ _ => ?_)
    | refine fr_nw (by assumption) (fun _ _ _ => ?_)
    | refine fr_nwM (by assumption) (fun _ _ _ => ?_))
theorem ro_X2_costOfSign_b29  (s0 : Int32) (h : KH) : RO h (X2_costOfSign_b29 s0 h) := by
  unfold X2_costOfSign_b29
  repeat' with_reducible (first
    | exact ro_ret
    | exact ro_retZ
    | exact ro_retC
    | exact ro_thr
    | exact ro_none
    | refine ro_gI (fun _ => ?_)
    | refine ro_gR (fun _ => ?_)
    | refine ro_gN (fun _ => ?_)
    | refine ro_gAI (fun _ => ?_)
    | refine ro_gAL (fun _ => ?_)
    | refine ro_gAN (fun _ => ?_)
    | refine ro_kif ?_ ?_
    | refine ro_nul ?_ (fun _ => ?_)
    | refine ro_may (fun _ => ?_)
    | refine ro_kdv ?_)
theorem fr_f_X2_costOfSign  (p0 : Nat) (p1 : Int32) (p2 : Int32) (h : KH) : FR h (f_X2_costOfSign p0 p1 p2 h) := by
  unfold f_X2_costOfSign
  have q0 : FL h h := FL.rf h
  repeat' with_reducible (first
    | exact fr_ret (by assumption)
    | exact fr_retZ (by assumption)
    | exact fr_retC (by assumption)
    | exact fr_thr (by assumption)
    | exact fr_none
    | exact fr_go (fr_f_X2_holds _ _ _ _) (by assumption)
    | exact fr_go (fr_X2_costOfSign_b29 _ _) (by assumption)
    | refine fr_gI (fun _ => ?_)
    | refine fr_gR (fun _ => ?_)
    | refine fr_gN (fun _ => ?_)
    | refine fr_gAI (fun _ => ?_)
    | refine fr_gAL (fun _ => ?_)
    | refine fr_gAN (fun _ => ?_)
    | refine fr_kif ?_ ?_
    | refine fr_nul ?_ (fun _ => ?_)
    | refine fr_may (fun _ => ?_)
    | refine fr_kdv ?_
    | refine fr_pI (by assumption) (by decide) (fun _ _ => ?_)
    | refine fr_pR (by assumption) (fun _ _ => ?_)
    | refine fr_pAI (by assumption) (by decide) (fun _ _ => ?_)
    | refine fr_pAZ (by assumption) (by decide) (fun _ _ => ?_)
    | refine fr_pAL (by assumption) (fun _ _ => ?_)
    | refine fr_pAN (by assumption) (fun _ _ => ?_)
    | refine fr_nw (by assumption) (fun _ _ _ => ?_)
    | refine fr_nwM (by assumption) (fun _ _ _ => ?_)
    | refine fr_callV (fr_f_X2_holds _ _ _ _) (by assumption) (fun _ _ _ => ?_)
    | refine fr_bind (fr_f_X2_holds _ _ _ _) (by assumption) (fun _ _ _ => ?_)
    | refine fr_binI (fr_f_X2_holds _ _ _ _) (by assumption) (fun _ _ _ => ?_)
    | refine fr_callV (fr_X2_costOfSign_b29 _ _) (by assumption) (fun _ _ _ => ?_)
    | refine fr_bind (fr_X2_costOfSign_b29 _ _) (by assumption) (fun _ _ _ => ?_)
    | refine fr_binI (fr_X2_costOfSign_b29 _ _) (by assumption) (fun _ _ _ => ?_))
theorem ro_f_X2_costOfSign  (p0 : Nat) (p1 : Int32) (p2 : Int32) (h : KH) : RO h (f_X2_costOfSign p0 p1 p2 h) := by
  unfold f_X2_costOfSign
  repeat' with_reducible (first
    | exact ro_ret
    | exact ro_retZ
    | exact ro_retC
    | exact ro_thr
    | exact ro_none
    | exact ro_f_X2_holds _ _ _ _
    | exact ro_X2_costOfSign_b29 _ _
    | refine ro_gI (fun _ => ?_)
    | refine ro_gR (fun _ => ?_)
    | refine ro_gN (fun _ => ?_)
    | refine ro_gAI (fun _ => ?_)
    | refine ro_gAL (fun _ => ?_)
    | refine ro_gAN (fun _ => ?_)
    | refine ro_kif ?_ ?_
    | refine ro_nul ?_ (fun _ => ?_)
    | refine ro_may (fun _ => ?_)
    | refine ro_kdv ?_
    | refine ro_callV (ro_f_X2_holds _ _ _ _) (fun _ => ?_)
    | refine ro_bind (ro_f_X2_holds _ _ _ _) (fun _ => ?_)
    | refine ro_binI (ro_f_X2_holds _ _ _ _) (fun _ => ?_)
    | refine ro_callV (ro_X2_costOfSign_b29 _ _) (fun _ => ?_)
    | refine ro_bind (ro_X2_costOfSign_b29 _ _) (fun _ => ?_)
    | refine ro_binI (ro_X2_costOfSign_b29 _ _) (fun _ => ?_))
theorem fr_X2_costOf_b18 (rc18 : Nat → Nat → Nat → Int32 → Int32 → KH → KO Int32) (hr18 : ∀ (u0 : Nat) (u1 : Nat) (u2 : Nat) (u3 : Int32) (u4 : Int32) (u5 : KH), FR u5 (rc18 u0 u1 u2 u3 u4 u5)) (v0 : Nat) (v1 : Nat) (v2 : Nat) (v3 : Int32) (v4 : Int32) (h : KH) : FR h (X2_costOf_b18 rc18 v0 v1 v2 v3 v4 h) := by
  unfold X2_costOf_b18
  have q0 : FL h h := FL.rf h
  repeat' with_reducible (first
    | exact fr_ret (by assumption)
    | exact fr_retZ (by assumption)
    | exact fr_retC (by assumption)
    | exact fr_thr (by assumption)
    | exact fr_none
    | exact fr_go (hr18 _ _ _ _ _ _) (by assumption)
    | exact fr_go (fr_f_X2_costOfSign _ _ _ _) (by assumption)
    | refine fr_gI (fun _ => ?_)
    | refine fr_gR (fun _ => ?_)
    | refine fr_gN (fun _ => ?_)
    | refine fr_gAI (fun _ => ?_)
    | refine fr_gAL (fun _ => ?_)
    | refine fr_gAN (fun _ => ?_)
    | refine fr_kif ?_ ?_
    | refine fr_nul ?_ (fun _ => ?_)
    | refine fr_may (fun _ => ?_)
    | refine fr_kdv ?_
    | refine fr_pI (by assumption) (by decide) (fun _ _ => ?_)
    | refine fr_pR (by assumption) (fun _ _ => ?_)
    | refine fr_pAI (by assumption) (by decide) (fun _ _ => ?_)
    | refine fr_pAZ (by assumption) (by decide) (fun _ _ => ?_)
    | refine fr_pAL (by assumption) (fun _ _ => ?_)
    | refine fr_pAN (by assumption) (fun _ _ => ?_)
    | refine fr_nw (by assumption) (fun _ _ _ => ?_)
    | refine fr_nwM (by assumption) (fun _ _ _ => ?_)
    | refine fr_callV (hr18 _ _ _ _ _ _) (by assumption) (fun _ _ _ => ?_)
    | refine fr_bind (hr18 _ _ _ _ _ _) (by assumption) (fun _ _ _ => ?_)
    | refine fr_binI (hr18 _ _ _ _ _ _) (by assumption) (fun _ _ _ => ?_)
    | refine fr_callV (fr_f_X2_costOfSign _ _ _ _) (by assumption) (fun _ _ _ => ?_)
    | refine fr_bind (fr_f_X2_costOfSign _ _ _ _) (by assumption) (fun _ _ _ => ?_)
    | refine fr_binI (fr_f_X2_costOfSign _ _ _ _) (by assumption) (fun _ _ _ => ?_))
theorem ro_X2_costOf_b18 (rc18 : Nat → Nat → Nat → Int32 → Int32 → KH → KO Int32) (hr18 : ∀ (u0 : Nat) (u1 : Nat) (u2 : Nat) (u3 : Int32) (u4 : Int32) (u5 : KH), RO u5 (rc18 u0 u1 u2 u3 u4 u5)) (v0 : Nat) (v1 : Nat) (v2 : Nat) (v3 : Int32) (v4 : Int32) (h : KH) : RO h (X2_costOf_b18 rc18 v0 v1 v2 v3 v4 h) := by
  unfold X2_costOf_b18
  repeat' with_reducible (first
    | exact ro_ret
    | exact ro_retZ
    | exact ro_retC
    | exact ro_thr
    | exact ro_none
    | exact hr18 _ _ _ _ _ _
    | exact ro_f_X2_costOfSign _ _ _ _
    | refine ro_gI (fun _ => ?_)
    | refine ro_gR (fun _ => ?_)
    | refine ro_gN (fun _ => ?_)
    | refine ro_gAI (fun _ => ?_)
    | refine ro_gAL (fun _ => ?_)
    | refine ro_gAN (fun _ => ?_)
    | refine ro_kif ?_ ?_
    | refine ro_nul ?_ (fun _ => ?_)
    | refine ro_may (fun _ => ?_)
    | refine ro_kdv ?_
    | refine ro_callV (hr18 _ _ _ _ _ _) (fun _ => ?_)
    | refine ro_bind (hr18 _ _ _ _ _ _) (fun _ => ?_)
    | refine ro_binI (hr18 _ _ _ _ _ _) (fun _ => ?_)
    | refine ro_callV (ro_f_X2_costOfSign _ _ _ _) (fun _ => ?_)
    | refine ro_bind (ro_f_X2_costOfSign _ _ _ _) (fun _ => ?_)
    | refine ro_binI (ro_f_X2_costOfSign _ _ _ _) (fun _ => ?_))
theorem fr_X2_costOf_L18  : ∀ (m : Nat) (u0 : Nat) (u1 : Nat) (u2 : Nat) (u3 : Int32) (u4 : Int32) (u5 : KH), FR u5 (X2_costOf_L18  m u0 u1 u2 u3 u4 u5) := by
  intro m
  induction m with
  | zero => intro u0 u1 u2 u3 u4 u5; exact fr_none
  | succ m ih => intro u0 u1 u2 u3 u4 u5; exact fr_X2_costOf_b18 (X2_costOf_L18  m) ih u0 u1 u2 u3 u4 u5
theorem ro_X2_costOf_L18  : ∀ (m : Nat) (u0 : Nat) (u1 : Nat) (u2 : Nat) (u3 : Int32) (u4 : Int32) (u5 : KH), RO u5 (X2_costOf_L18  m u0 u1 u2 u3 u4 u5) := by
  intro m
  induction m with
  | zero => intro u0 u1 u2 u3 u4 u5; exact ro_none
  | succ m ih => intro u0 u1 u2 u3 u4 u5; exact ro_X2_costOf_b18 (X2_costOf_L18  m) ih u0 u1 u2 u3 u4 u5
theorem fr_f_X2_costOf  (p0 : Nat) (p1 : Nat) (p2 : Nat) (h : KH) : FR h (f_X2_costOf p0 p1 p2 h) := by
  unfold f_X2_costOf
  have q0 : FL h h := FL.rf h
  repeat' with_reducible (first
    | exact fr_ret (by assumption)
    | exact fr_retZ (by assumption)
    | exact fr_retC (by assumption)
    | exact fr_thr (by assumption)
    | exact fr_none
    | exact fr_go (fr_X2_costOf_L18 _ _ _ _ _ _ _) (by assumption)
    | refine fr_gI (fun _ => ?_)
    | refine fr_gR (fun _ => ?_)
    | refine fr_gN (fun _ => ?_)
    | refine fr_gAI (fun _ => ?_)
    | refine fr_gAL (fun _ => ?_)
    | refine fr_gAN (fun _ => ?_)
    | refine fr_kif ?_ ?_
    | refine fr_nul ?_ (fun _ => ?_)
    | refine fr_may (fun _ => ?_)
    | refine fr_kdv ?_
    | refine fr_pI (by assumption) (by decide) (fun _ _ => ?_)
    | refine fr_pR (by assumption) (fun _ _ => ?_)
    | refine fr_pAI (by assumption) (by decide) (fun _ _ => ?_)
    | refine fr_pAZ (by assumption) (by decide) (fun _ _ => ?_)
    | refine fr_pAL (by assumption) (fun _ _ => ?_)
    | refine fr_pAN (by assumption) (fun _ _ => ?_)
    | refine fr_nw (by assumption) (fun _ _ _ => ?_)
    | refine fr_nwM (by assumption) (fun _ _ _ => ?_)
    | refine fr_callV (fr_X2_costOf_L18 _ _ _ _ _ _ _) (by assumption) (fun _ _ _ => ?_)
    | refine fr_bind (fr_X2_costOf_L18 _ _ _ _ _ _ _) (by assumption) (fun _ _ _ => ?_)
    | refine fr_binI (fr_X2_costOf_L18 _ _ _ _ _ _ _) (by assumption) (fun _ _ _ => ?_))
theorem ro_f_X2_costOf  (p0 : Nat) (p1 : Nat) (p2 : Nat) (h : KH) : RO h (f_X2_costOf p0 p1 p2 h) := by
  unfold f_X2_costOf
  repeat' with_reducible (first
    | exact ro_ret
    | exact ro_retZ
    | exact ro_retC
    | exact ro_thr
    | exact ro_none
    | exact ro_X2_costOf_L18 _ _ _ _ _ _ _
    | refine ro_gI (fun _ => ?_)
    | refine ro_gR (fun _ => ?_)
    | refine ro_gN (fun _ => ?_)
    | refine ro_gAI (fun _ => ?_)
    | refine ro_gAL (fun _ => ?_)
    | refine ro_gAN (fun _ => ?_)
    | refine ro_kif ?_ ?_
    | refine ro_nul ?_ (fun _ => ?_)
    | refine ro_may (fun _ => ?_)
    | refine ro_kdv ?_
    | refine ro_callV (ro_X2_costOf_L18 _ _ _ _ _ _ _) (fun _ => ?_)
    | refine ro_bind (ro_X2_costOf_L18 _ _ _ _ _ _ _) (fun _ => ?_)
    | refine ro_binI (ro_X2_costOf_L18 _ _ _ _ _ _ _) (fun _ => ?_))
theorem fr_X9_plateByText_b65 (rc7 : Nat → Nat → Option Nat → Int32 → Int32 → KH → KO (Option Nat)) (hr7 : ∀ (u0 : Nat) (u1 : Nat) (u2 : Option Nat) (u3 : Int32) (u4 : Int32) (u5 : KH), FR u5 (rc7 u0 u1 u2 u3 u4 u5)) (v0 : Nat) (v1 : Nat) (v2 : Option Nat) (v3 : Int32) (v4 : Int32) (h : KH) : FR h (X9_plateByText_b65 rc7 v0 v1 v2 v3 v4 h) := by
  unfold X9_plateByText_b65
  have q0 : FL h h := FL.rf h
  repeat' with_reducible (first
    | exact fr_ret (by assumption)
    | exact fr_retZ (by assumption)
    | exact fr_retC (by assumption)
    | exact fr_thr (by assumption)
    | exact fr_none
    | exact fr_go (hr7 _ _ _ _ _ _) (by assumption)
    | refine fr_gI (fun _ => ?_)
    | refine fr_gR (fun _ => ?_)
    | refine fr_gN (fun _ => ?_)
    | refine fr_gAI (fun _ => ?_)
    | refine fr_gAL (fun _ => ?_)
    | refine fr_gAN (fun _ => ?_)
    | refine fr_kif ?_ ?_
    | refine fr_nul ?_ (fun _ => ?_)
    | refine fr_may (fun _ => ?_)
    | refine fr_kdv ?_
    | refine fr_pI (by assumption) (by decide) (fun _ _ => ?_)
    | refine fr_pR (by assumption) (fun _ _ => ?_)
    | refine fr_pAI (by assumption) (by decide) (fun _ _ => ?_)
    | refine fr_pAZ (by assumption) (by decide) (fun _ _ => ?_)
    | refine fr_pAL (by assumption) (fun _ _ => ?_)
    | refine fr_pAN (by assumption) (fun _ _ => ?_)
    | refine fr_nw (by assumption) (fun _ _ _ => ?_)
    | refine fr_nwM (by assumption) (fun _ _ _ => ?_)
    | refine fr_callV (hr7 _ _ _ _ _ _) (by assumption) (fun _ _ _ => ?_)
    | refine fr_bind (hr7 _ _ _ _ _ _) (by assumption) (fun _ _ _ => ?_)
    | refine fr_binI (hr7 _ _ _ _ _ _) (by assumption) (fun _ _ _ => ?_))
theorem ro_X9_plateByText_b65 (rc7 : Nat → Nat → Option Nat → Int32 → Int32 → KH → KO (Option Nat)) (hr7 : ∀ (u0 : Nat) (u1 : Nat) (u2 : Option Nat) (u3 : Int32) (u4 : Int32) (u5 : KH), RO u5 (rc7 u0 u1 u2 u3 u4 u5)) (v0 : Nat) (v1 : Nat) (v2 : Option Nat) (v3 : Int32) (v4 : Int32) (h : KH) : RO h (X9_plateByText_b65 rc7 v0 v1 v2 v3 v4 h) := by
  unfold X9_plateByText_b65
  repeat' with_reducible (first
    | exact ro_ret
    | exact ro_retZ
    | exact ro_retC
    | exact ro_thr
    | exact ro_none
    | exact hr7 _ _ _ _ _ _
    | refine ro_gI (fun _ => ?_)
    | refine ro_gR (fun _ => ?_)
    | refine ro_gN (fun _ => ?_)
    | refine ro_gAI (fun _ => ?_)
    | refine ro_gAL (fun _ => ?_)
    | refine ro_gAN (fun _ => ?_)
    | refine ro_kif ?_ ?_
    | refine ro_nul ?_ (fun _ => ?_)
    | refine ro_may (fun _ => ?_)
    | refine ro_kdv ?_
    | refine ro_callV (hr7 _ _ _ _ _ _) (fun _ => ?_)
    | refine ro_bind (hr7 _ _ _ _ _ _) (fun _ => ?_)
    | refine ro_binI (hr7 _ _ _ _ _ _) (fun _ => ?_))
theorem fr_X9_plateByText_b59 (rc7 : Nat → Nat → Option Nat → Int32 → Int32 → KH → KO (Option Nat)) (hr7 : ∀ (u0 : Nat) (u1 : Nat) (u2 : Option Nat) (u3 : Int32) (u4 : Int32) (u5 : KH), FR u5 (rc7 u0 u1 u2 u3 u4 u5)) (v0 : Nat) (v1 : Nat) (v4 : Int32) (v5 : Nat) (v6 : Int32) (h : KH) : FR h (X9_plateByText_b59 rc7 v0 v1 v4 v5 v6 h) := by
  unfold X9_plateByText_b59
  have q0 : FL h h := FL.rf h
  repeat' with_reducible (first
    | exact fr_ret (by assumption)
    | exact fr_retZ (by assumption)
    | exact fr_retC (by assumption)
    | exact fr_thr (by assumption)
    | exact fr_none
    | exact fr_go (hr7 _ _ _ _ _ _) (by assumption)
    | exact fr_go (fr_X9_plateByText_b65 _ (by assumption) _ _ _ _ _ _) (by assumption)
    | refine fr_gI (fun _ => ?_)
    | refine fr_gR (fun _ => ?_)
    | refine fr_gN (fun _ => ?_)
    | refine fr_gAI (fun _ => ?_)
    | refine fr_gAL (fun _ => ?_)
    | refine fr_gAN (fun _ => ?_)
    | refine fr_kif ?_ ?_
    | refine fr_nul ?_ (fun _ => ?_)
    | refine fr_may (fun _ => ?_)
    | refine fr_kdv ?_
    | refine fr_pI (by assumption) (by decide) (fun _ _ => ?_)
    | refine fr_pR (by assumption) (fun _ _ => ?_)
    | refine fr_pAI (by assumption) (by decide) (fun _ _ => ?_)
    | refine fr_pAZ (by assumption) (by decide) (fun _ _ => ?_)
    | refine fr_pAL (by assumption) (fun _ _ => ?_)
    | refine fr_pAN (by assumption) (fun _ _ => ?_)
    | refine fr_nw (by assumption) (fun _ _ _ => ?_)
    | refine fr_nwM (by assumption) (fun _ _ _ => ?_)
    | refine fr_callV (hr7 _ _ _ _ _ _) (by assumption) (fun _ _ _ => ?_)
    | refine fr_bind (hr7 _ _ _ _ _ _) (by assumption) (fun _ _ _ => ?_)
    | refine fr_binI (hr7 _ _ _ _ _ _) (by assumption) (fun _ _ _ => ?_)
    | refine fr_callV (fr_X9_plateByText_b65 _ (by assumption) _ _ _ _ _ _) (by assumption) (fun _ _ _ => ?_)
    | refine fr_bind (fr_X9_plateByText_b65 _ (by assumption) _ _ _ _ _ _) (by assumption) (fun _ _ _ => ?_)
    | refine fr_binI (fr_X9_plateByText_b65 _ (by assumption) _ _ _ _ _ _) (by assumption) (fun _ _ _ => ?_))
theorem ro_X9_plateByText_b59 (rc7 : Nat → Nat → Option Nat → Int32 → Int32 → KH → KO (Option Nat)) (hr7 : ∀ (u0 : Nat) (u1 : Nat) (u2 : Option Nat) (u3 : Int32) (u4 : Int32) (u5 : KH), RO u5 (rc7 u0 u1 u2 u3 u4 u5)) (v0 : Nat) (v1 : Nat) (v4 : Int32) (v5 : Nat) (v6 : Int32) (h : KH) : RO h (X9_plateByText_b59 rc7 v0 v1 v4 v5 v6 h) := by
  unfold X9_plateByText_b59
  repeat' with_reducible (first
    | exact ro_ret
    | exact ro_retZ
    | exact ro_retC
    | exact ro_thr
    | exact ro_none
    | exact hr7 _ _ _ _ _ _
    | exact ro_X9_plateByText_b65 _ (by assumption) _ _ _ _ _ _
    | refine ro_gI (fun _ => ?_)
    | refine ro_gR (fun _ => ?_)
    | refine ro_gN (fun _ => ?_)
    | refine ro_gAI (fun _ => ?_)
    | refine ro_gAL (fun _ => ?_)
    | refine ro_gAN (fun _ => ?_)
    | refine ro_kif ?_ ?_
    | refine ro_nul ?_ (fun _ => ?_)
    | refine ro_may (fun _ => ?_)
    | refine ro_kdv ?_
    | refine ro_callV (hr7 _ _ _ _ _ _) (fun _ => ?_)
    | refine ro_bind (hr7 _ _ _ _ _ _) (fun _ => ?_)
    | refine ro_binI (hr7 _ _ _ _ _ _) (fun _ => ?_)
    | refine ro_callV (ro_X9_plateByText_b65 _ (by assumption) _ _ _ _ _ _) (fun _ => ?_)
    | refine ro_bind (ro_X9_plateByText_b65 _ (by assumption) _ _ _ _ _ _) (fun _ => ?_)
    | refine ro_binI (ro_X9_plateByText_b65 _ (by assumption) _ _ _ _ _ _) (fun _ => ?_))
theorem fr_X9_plateByText_b7 (rc7 : Nat → Nat → Option Nat → Int32 → Int32 → KH → KO (Option Nat)) (hr7 : ∀ (u0 : Nat) (u1 : Nat) (u2 : Option Nat) (u3 : Int32) (u4 : Int32) (u5 : KH), FR u5 (rc7 u0 u1 u2 u3 u4 u5)) (v0 : Nat) (v1 : Nat) (v2 : Option Nat) (v3 : Int32) (v4 : Int32) (h : KH) : FR h (X9_plateByText_b7 rc7 v0 v1 v2 v3 v4 h) := by
  unfold X9_plateByText_b7
  have q0 : FL h h := FL.rf h
  repeat' with_reducible (first
    | exact fr_ret (by assumption)
    | exact fr_retZ (by assumption)
    | exact fr_retC (by assumption)
    | exact fr_thr (by assumption)
    | exact fr_none
    | exact fr_go (hr7 _ _ _ _ _ _) (by assumption)
    | exact fr_go (fr_f_X2_costOf _ _ _ _) (by assumption)
    | exact fr_go (fr_X9_plateByText_b65 _ (by assumption) _ _ _ _ _ _) (by assumption)
    | exact fr_go (fr_X9_plateByText_b59 _ (by assumption) _ _ _ _ _ _) (by assumption)
    | refine fr_gI (fun _ => ?_)
    | refine fr_gR (fun _ => ?_)
    | refine fr_gN (fun _ => ?_)
    | refine fr_gAI (fun _ => ?_)
    | refine fr_gAL (fun _ => ?_)
    | refine fr_gAN (fun _ => ?_)
    | refine fr_kif ?_ ?_
    | refine fr_nul ?_ (fun _ => ?_)
    | refine fr_may (fun _ => ?_)
    | refine fr_kdv ?_
    | refine fr_pI (by assumption) (by decide) (fun _ _ => ?_)
    | refine fr_pR (by assumption) (fun _ _ => ?_)
    | refine fr_pAI (by assumption) (by decide) (fun _ _ => ?_)
    | refine fr_pAZ (by assumption) (by decide) (fun _ _ => ?_)
    | refine fr_pAL (by assumption) (fun _ _ => ?_)
    | refine fr_pAN (by assumption) (fun _ _ => ?_)
    | refine fr_nw (by assumption) (fun _ _ _ => ?_)
    | refine fr_nwM (by assumption) (fun _ _ _ => ?_)
    | refine fr_callV (hr7 _ _ _ _ _ _) (by assumption) (fun _ _ _ => ?_)
    | refine fr_bind (hr7 _ _ _ _ _ _) (by assumption) (fun _ _ _ => ?_)
    | refine fr_binI (hr7 _ _ _ _ _ _) (by assumption) (fun _ _ _ => ?_)
    | refine fr_callV (fr_f_X2_costOf _ _ _ _) (by assumption) (fun _ _ _ => ?_)
    | refine fr_bind (fr_f_X2_costOf _ _ _ _) (by assumption) (fun _ _ _ => ?_)
    | refine fr_binI (fr_f_X2_costOf _ _ _ _) (by assumption) (fun _ _ _ => ?_)
    | refine fr_callV (fr_X9_plateByText_b65 _ (by assumption) _ _ _ _ _ _) (by assumption) (fun _ _ _ => ?_)
    | refine fr_bind (fr_X9_plateByText_b65 _ (by assumption) _ _ _ _ _ _) (by assumption) (fun _ _ _ => ?_)
    | refine fr_binI (fr_X9_plateByText_b65 _ (by assumption) _ _ _ _ _ _) (by assumption) (fun _ _ _ => ?_)
    | refine fr_callV (fr_X9_plateByText_b59 _ (by assumption) _ _ _ _ _ _) (by assumption) (fun _ _ _ => ?_)
    | refine fr_bind (fr_X9_plateByText_b59 _ (by assumption) _ _ _ _ _ _) (by assumption) (fun _ _ _ => ?_)
    | refine fr_binI (fr_X9_plateByText_b59 _ (by assumption) _ _ _ _ _ _) (by assumption) (fun _ _ _ => ?_))
theorem ro_X9_plateByText_b7 (rc7 : Nat → Nat → Option Nat → Int32 → Int32 → KH → KO (Option Nat)) (hr7 : ∀ (u0 : Nat) (u1 : Nat) (u2 : Option Nat) (u3 : Int32) (u4 : Int32) (u5 : KH), RO u5 (rc7 u0 u1 u2 u3 u4 u5)) (v0 : Nat) (v1 : Nat) (v2 : Option Nat) (v3 : Int32) (v4 : Int32) (h : KH) : RO h (X9_plateByText_b7 rc7 v0 v1 v2 v3 v4 h) := by
  unfold X9_plateByText_b7
  repeat' with_reducible (first
    | exact ro_ret
    | exact ro_retZ
    | exact ro_retC
    | exact ro_thr
    | exact ro_none
    | exact hr7 _ _ _ _ _ _
    | exact ro_f_X2_costOf _ _ _ _
    | exact ro_X9_plateByText_b65 _ (by assumption) _ _ _ _ _ _
    | exact ro_X9_plateByText_b59 _ (by assumption) _ _ _ _ _ _
    | refine ro_gI (fun _ => ?_)
    | refine ro_gR (fun _ => ?_)
    | refine ro_gN (fun _ => ?_)
    | refine ro_gAI (fun _ => ?_)
    | refine ro_gAL (fun _ => ?_)
    | refine ro_gAN (fun _ => ?_)
    | refine ro_kif ?_ ?_
    | refine ro_nul ?_ (fun _ => ?_)
    | refine ro_may (fun _ => ?_)
    | refine ro_kdv ?_
    | refine ro_callV (hr7 _ _ _ _ _ _) (fun _ => ?_)
    | refine ro_bind (hr7 _ _ _ _ _ _) (fun _ => ?_)
    | refine ro_binI (hr7 _ _ _ _ _ _) (fun _ => ?_)
    | refine ro_callV (ro_f_X2_costOf _ _ _ _) (fun _ => ?_)
    | refine ro_bind (ro_f_X2_costOf _ _ _ _) (fun _ => ?_)
    | refine ro_binI (ro_f_X2_costOf _ _ _ _) (fun _ => ?_)
    | refine ro_callV (ro_X9_plateByText_b65 _ (by assumption) _ _ _ _ _ _) (fun _ => ?_)
    | refine ro_bind (ro_X9_plateByText_b65 _ (by assumption) _ _ _ _ _ _) (fun _ => ?_)
    | refine ro_binI (ro_X9_plateByText_b65 _ (by assumption) _ _ _ _ _ _) (fun _ => ?_)
    | refine ro_callV (ro_X9_plateByText_b59 _ (by assumption) _ _ _ _ _ _) (fun _ => ?_)
    | refine ro_bind (ro_X9_plateByText_b59 _ (by assumption) _ _ _ _ _ _) (fun _ => ?_)
    | refine ro_binI (ro_X9_plateByText_b59 _ (by assumption) _ _ _ _ _ _) (fun _ => ?_))
theorem fr_X9_plateByText_L7  : ∀ (m : Nat) (u0 : Nat) (u1 : Nat) (u2 : Option Nat) (u3 : Int32) (u4 : Int32) (u5 : KH), FR u5 (X9_plateByText_L7  m u0 u1 u2 u3 u4 u5) := by
  intro m
  induction m with
  | zero => intro u0 u1 u2 u3 u4 u5; exact fr_none
  | succ m ih => intro u0 u1 u2 u3 u4 u5; exact fr_X9_plateByText_b7 (X9_plateByText_L7  m) ih u0 u1 u2 u3 u4 u5
theorem ro_X9_plateByText_L7  : ∀ (m : Nat) (u0 : Nat) (u1 : Nat) (u2 : Option Nat) (u3 : Int32) (u4 : Int32) (u5 : KH), RO u5 (X9_plateByText_L7  m u0 u1 u2 u3 u4 u5) := by
  intro m
  induction m with
  | zero => intro u0 u1 u2 u3 u4 u5; exact ro_none
  | succ m ih => intro u0 u1 u2 u3 u4 u5; exact ro_X9_plateByText_b7 (X9_plateByText_L7  m) ih u0 u1 u2 u3 u4 u5
theorem fr_f_X9_plateByText  (p0 : Nat) (p1 : Nat) (h : KH) : FR h (f_X9_plateByText p0 p1 h) := by
  unfold f_X9_plateByText
  have q0 : FL h h := FL.rf h
  repeat' with_reducible (first
    | exact fr_ret (by assumption)
    | exact fr_retZ (by assumption)
    | exact fr_retC (by assumption)
    | exact fr_thr (by assumption)
    | exact fr_none
    | exact fr_go (fr_X9_plateByText_L7 _ _ _ _ _ _ _) (by assumption)
    | refine fr_gI (fun _ => ?_)
    | refine fr_gR (fun _ => ?_)
    | refine fr_gN (fun _ => ?_)
    | refine fr_gAI (fun _ => ?_)
    | refine fr_gAL (fun _ => ?_)
    | refine fr_gAN (fun _ => ?_)
    | refine fr_kif ?_ ?_
    | refine fr_nul ?_ (fun _ => ?_)
    | refine fr_may (fun _ => ?_)
    | refine fr_kdv ?_
    | refine fr_pI (by assumption) (by decide) (fun _ _ => ?_)
    | refine fr_pR (by assumption) (fun _ _ => ?_)
    | refine fr_pAI (by assumption) (by decide) (fun _ _ => ?_)
    | refine fr_pAZ (by assumption) (by decide) (fun _ _ => ?_)
    | refine fr_pAL (by assumption) (fun _ _ => ?_)
    | refine fr_pAN (by assumption) (fun _ _ => ?_)
    | refine fr_nw (by assumption) (fun _ _ _ => ?_)
    | refine fr_nwM (by assumption) (fun _ _ _ => ?_)
    | refine fr_callV (fr_X9_plateByText_L7 _ _ _ _ _ _ _) (by assumption) (fun _ _ _ => ?_)
    | refine fr_bind (fr_X9_plateByText_L7 _ _ _ _ _ _ _) (by assumption) (fun _ _ _ => ?_)
    | refine fr_binI (fr_X9_plateByText_L7 _ _ _ _ _ _ _) (by assumption) (fun _ _ _ => ?_))
theorem ro_f_X9_plateByText  (p0 : Nat) (p1 : Nat) (h : KH) : RO h (f_X9_plateByText p0 p1 h) := by
  unfold f_X9_plateByText
  repeat' with_reducible (first
    | exact ro_ret
    | exact ro_retZ
    | exact ro_retC
    | exact ro_thr
    | exact ro_none
    | exact ro_X9_plateByText_L7 _ _ _ _ _ _ _
    | refine ro_gI (fun _ => ?_)
    | refine ro_gR (fun _ => ?_)
    | refine ro_gN (fun _ => ?_)
    | refine ro_gAI (fun _ => ?_)
    | refine ro_gAL (fun _ => ?_)
    | refine ro_gAN (fun _ => ?_)
    | refine ro_kif ?_ ?_
    | refine ro_nul ?_ (fun _ => ?_)
    | refine ro_may (fun _ => ?_)
    | refine ro_kdv ?_
    | refine ro_callV (ro_X9_plateByText_L7 _ _ _ _ _ _ _) (fun _ => ?_)
    | refine ro_bind (ro_X9_plateByText_L7 _ _ _ _ _ _ _) (fun _ => ?_)
    | refine ro_binI (ro_X9_plateByText_L7 _ _ _ _ _ _ _) (fun _ => ?_))
theorem fr_X9_numberOf_b12  (s0 : Int32) (h : KH) : FR h (X9_numberOf_b12 s0 h) := by
  unfold X9_numberOf_b12
  have q0 : FL h h := FL.rf h
  repeat' with_reducible (first
    | exact fr_ret (by assumption)
    | exact fr_retZ (by assumption)
    | exact fr_retC (by assumption)
    | exact fr_thr (by assumption)
    | exact fr_none
    | refine fr_gI (fun _ => ?_)
    | refine fr_gR (fun _ => ?_)
    | refine fr_gN (fun _ => ?_)
    | refine fr_gAI (fun _ => ?_)
    | refine fr_gAL (fun _ => ?_)
    | refine fr_gAN (fun _ => ?_)
    | refine fr_kif ?_ ?_
    | refine fr_nul ?_ (fun _ => ?_)
    | refine fr_may (fun _ => ?_)
    | refine fr_kdv ?_
    | refine fr_pI (by assumption) (by decide) (fun _ _ => ?_)
    | refine fr_pR (by assumption) (fun _ _ => ?_)
    | refine fr_pAI (by assumption) (by decide) (fun _ _ => ?_)
    | refine fr_pAZ (by assumption) (by decide) (fun _ _ => ?_)
    | refine fr_pAL (by assumption) (fun _ _ => ?_)
    | refine fr_pAN (by assumption) (fun _ _ => ?_)
    | refine fr_nw (by assumption) (fun _ _ _ => ?_)
    | refine fr_nwM (by assumption) (fun _ _ _ => ?_))
theorem ro_X9_numberOf_b12  (s0 : Int32) (h : KH) : RO h (X9_numberOf_b12 s0 h) := by
  unfold X9_numberOf_b12
  repeat' with_reducible (first
    | exact ro_ret
    | exact ro_retZ
    | exact ro_retC
    | exact ro_thr
    | exact ro_none
    | refine ro_gI (fun _ => ?_)
    | refine ro_gR (fun _ => ?_)
    | refine ro_gN (fun _ => ?_)
    | refine ro_gAI (fun _ => ?_)
    | refine ro_gAL (fun _ => ?_)
    | refine ro_gAN (fun _ => ?_)
    | refine ro_kif ?_ ?_
    | refine ro_nul ?_ (fun _ => ?_)
    | refine ro_may (fun _ => ?_)
    | refine ro_kdv ?_)
theorem fr_f_X9_numberOf  (p0 : Option Nat) (h : KH) : FR h (f_X9_numberOf p0 h) := by
  unfold f_X9_numberOf
  have q0 : FL h h := FL.rf h
  repeat' with_reducible (first
    | exact fr_ret (by assumption)
    | exact fr_retZ (by assumption)
    | exact fr_retC (by assumption)
    | exact fr_thr (by assumption)
    | exact fr_none
    | exact fr_go (fr_X9_numberOf_b12 _ _) (by assumption)
    | refine fr_gI (fun _ => ?_)
    | refine fr_gR (fun _ => ?_)
    | refine fr_gN (fun _ => ?_)
    | refine fr_gAI (fun _ => ?_)
    | refine fr_gAL (fun _ => ?_)
    | refine fr_gAN (fun _ => ?_)
    | refine fr_kif ?_ ?_
    | refine fr_nul ?_ (fun _ => ?_)
    | refine fr_may (fun _ => ?_)
    | refine fr_kdv ?_
    | refine fr_pI (by assumption) (by decide) (fun _ _ => ?_)
    | refine fr_pR (by assumption) (fun _ _ => ?_)
    | refine fr_pAI (by assumption) (by decide) (fun _ _ => ?_)
    | refine fr_pAZ (by assumption) (by decide) (fun _ _ => ?_)
    | refine fr_pAL (by assumption) (fun _ _ => ?_)
    | refine fr_pAN (by assumption) (fun _ _ => ?_)
    | refine fr_nw (by assumption) (fun _ _ _ => ?_)
    | refine fr_nwM (by assumption) (fun _ _ _ => ?_)
    | refine fr_callV (fr_X9_numberOf_b12 _ _) (by assumption) (fun _ _ _ => ?_)
    | refine fr_bind (fr_X9_numberOf_b12 _ _) (by assumption) (fun _ _ _ => ?_)
    | refine fr_binI (fr_X9_numberOf_b12 _ _) (by assumption) (fun _ _ _ => ?_))
theorem ro_f_X9_numberOf  (p0 : Option Nat) (h : KH) : RO h (f_X9_numberOf p0 h) := by
  unfold f_X9_numberOf
  repeat' with_reducible (first
    | exact ro_ret
    | exact ro_retZ
    | exact ro_retC
    | exact ro_thr
    | exact ro_none
    | exact ro_X9_numberOf_b12 _ _
    | refine ro_gI (fun _ => ?_)
    | refine ro_gR (fun _ => ?_)
    | refine ro_gN (fun _ => ?_)
    | refine ro_gAI (fun _ => ?_)
    | refine ro_gAL (fun _ => ?_)
    | refine ro_gAN (fun _ => ?_)
    | refine ro_kif ?_ ?_
    | refine ro_nul ?_ (fun _ => ?_)
    | refine ro_may (fun _ => ?_)
    | refine ro_kdv ?_
    | refine ro_callV (ro_X9_numberOf_b12 _ _) (fun _ => ?_)
    | refine ro_bind (ro_X9_numberOf_b12 _ _) (fun _ => ?_)
    | refine ro_binI (ro_X9_numberOf_b12 _ _) (fun _ => ?_))
theorem fr_X3_placeOf_b2 (rc2 : Nat → Nat → Int32 → KH → KO Int32) (hr2 : ∀ (u0 : Nat) (u1 : Nat) (u2 : Int32) (u3 : KH), FR u3 (rc2 u0 u1 u2 u3)) (v0 : Nat) (v1 : Nat) (v2 : Int32) (h : KH) : FR h (X3_placeOf_b2 rc2 v0 v1 v2 h) := by
  unfold X3_placeOf_b2
  have q0 : FL h h := FL.rf h
  repeat' with_reducible (first
    | exact fr_ret (by assumption)
    | exact fr_retZ (by assumption)
    | exact fr_retC (by assumption)
    | exact fr_thr (by assumption)
    | exact fr_none
    | exact fr_go (hr2 _ _ _ _) (by assumption)
    | refine fr_gI (fun _ => ?_)
    | refine fr_gR (fun _ => ?_)
    | refine fr_gN (fun _ => ?_)
    | refine fr_gAI (fun _ => ?_)
    | refine fr_gAL (fun _ => ?_)
    | refine fr_gAN (fun _ => ?_)
    | refine fr_kif ?_ ?_
    | refine fr_nul ?_ (fun _ => ?_)
    | refine fr_may (fun _ => ?_)
    | refine fr_kdv ?_
    | refine fr_pI (by assumption) (by decide) (fun _ _ => ?_)
    | refine fr_pR (by assumption) (fun _ _ => ?_)
    | refine fr_pAI (by assumption) (by decide) (fun _ _ => ?_)
    | refine fr_pAZ (by assumption) (by decide) (fun _ _ => ?_)
    | refine fr_pAL (by assumption) (fun _ _ => ?_)
    | refine fr_pAN (by assumption) (fun _ _ => ?_)
    | refine fr_nw (by assumption) (fun _ _ _ => ?_)
    | refine fr_nwM (by assumption) (fun _ _ _ => ?_)
    | refine fr_callV (hr2 _ _ _ _) (by assumption) (fun _ _ _ => ?_)
    | refine fr_bind (hr2 _ _ _ _) (by assumption) (fun _ _ _ => ?_)
    | refine fr_binI (hr2 _ _ _ _) (by assumption) (fun _ _ _ => ?_))
theorem ro_X3_placeOf_b2 (rc2 : Nat → Nat → Int32 → KH → KO Int32) (hr2 : ∀ (u0 : Nat) (u1 : Nat) (u2 : Int32) (u3 : KH), RO u3 (rc2 u0 u1 u2 u3)) (v0 : Nat) (v1 : Nat) (v2 : Int32) (h : KH) : RO h (X3_placeOf_b2 rc2 v0 v1 v2 h) := by
  unfold X3_placeOf_b2
  repeat' with_reducible (first
    | exact ro_ret
    | exact ro_retZ
    | exact ro_retC
    | exact ro_thr
    | exact ro_none
    | exact hr2 _ _ _ _
    | refine ro_gI (fun _ => ?_)
    | refine ro_gR (fun _ => ?_)
    | refine ro_gN (fun _ => ?_)
    | refine ro_gAI (fun _ => ?_)
    | refine ro_gAL (fun _ => ?_)
    | refine ro_gAN (fun _ => ?_)
    | refine ro_kif ?_ ?_
    | refine ro_nul ?_ (fun _ => ?_)
    | refine ro_may (fun _ => ?_)
    | refine ro_kdv ?_
    | refine ro_callV (hr2 _ _ _ _) (fun _ => ?_)
    | refine ro_bind (hr2 _ _ _ _) (fun _ => ?_)
    | refine ro_binI (hr2 _ _ _ _) (fun _ => ?_))
theorem fr_X3_placeOf_L2  : ∀ (m : Nat) (u0 : Nat) (u1 : Nat) (u2 : Int32) (u3 : KH), FR u3 (X3_placeOf_L2  m u0 u1 u2 u3) := by
  intro m
  induction m with
  | zero => intro u0 u1 u2 u3; exact fr_none
  | succ m ih => intro u0 u1 u2 u3; exact fr_X3_placeOf_b2 (X3_placeOf_L2  m) ih u0 u1 u2 u3
theorem ro_X3_placeOf_L2  : ∀ (m : Nat) (u0 : Nat) (u1 : Nat) (u2 : Int32) (u3 : KH), RO u3 (X3_placeOf_L2  m u0 u1 u2 u3) := by
  intro m
  induction m with
  | zero => intro u0 u1 u2 u3; exact ro_none
  | succ m ih => intro u0 u1 u2 u3; exact ro_X3_placeOf_b2 (X3_placeOf_L2  m) ih u0 u1 u2 u3
theorem fr_f_X3_placeOf  (p0 : Nat) (p1 : Nat) (h : KH) : FR h (f_X3_placeOf p0 p1 h) := by
  unfold f_X3_placeOf
  have q0 : FL h h := FL.rf h
  repeat' with_reducible (first
    | exact fr_ret (by assumption)
    | exact fr_retZ (by assumption)
    | exact fr_retC (by assumption)
    | exact fr_thr (by assumption)
    | exact fr_none
    | exact fr_go (fr_X3_placeOf_L2 _ _ _ _ _) (by assumption)
    | refine fr_gI (fun _ => ?_)
    | refine fr_gR (fun _ => ?_)
    | refine fr_gN (fun _ => ?_)
    | refine fr_gAI (fun _ => ?_)
    | refine fr_gAL (fun _ => ?_)
    | refine fr_gAN (fun _ => ?_)
    | refine fr_kif ?_ ?_
    | refine fr_nul ?_ (fun _ => ?_)
    | refine fr_may (fun _ => ?_)
    | refine fr_kdv ?_
    | refine fr_pI (by assumption) (by decide) (fun _ _ => ?_)
    | refine fr_pR (by assumption) (fun _ _ => ?_)
    | refine fr_pAI (by assumption) (by decide) (fun _ _ => ?_)
    | refine fr_pAZ (by assumption) (by decide) (fun _ _ => ?_)
    | refine fr_pAL (by assumption) (fun _ _ => ?_)
    | refine fr_pAN (by assumption) (fun _ _ => ?_)
    | refine fr_nw (by assumption) (fun _ _ _ => ?_)
    | refine fr_nwM (by assumption) (fun _ _ _ => ?_)
    | refine fr_callV (fr_X3_placeOf_L2 _ _ _ _ _) (by assumption) (fun _ _ _ => ?_)
    | refine fr_bind (fr_X3_placeOf_L2 _ _ _ _ _) (by assumption) (fun _ _ _ => ?_)
    | refine fr_binI (fr_X3_placeOf_L2 _ _ _ _ _) (by assumption) (fun _ _ _ => ?_))
theorem ro_f_X3_placeOf  (p0 : Nat) (p1 : Nat) (h : KH) : RO h (f_X3_placeOf p0 p1 h) := by
  unfold f_X3_placeOf
  repeat' with_reducible (first
    | exact ro_ret
    | exact ro_retZ
    | exact ro_retC
    | exact ro_thr
    | exact ro_none
    | exact ro_X3_placeOf_L2 _ _ _ _ _
    | refine ro_gI (fun _ => ?_)
    | refine ro_gR (fun _ => ?_)
    | refine ro_gN (fun _ => ?_)
    | refine ro_gAI (fun _ => ?_)
    | refine ro_gAL (fun _ => ?_)
    | refine ro_gAN (fun _ => ?_)
    | refine ro_kif ?_ ?_
    | refine ro_nul ?_ (fun _ => ?_)
    | refine ro_may (fun _ => ?_)
    | refine ro_kdv ?_
    | refine ro_callV (ro_X3_placeOf_L2 _ _ _ _ _) (fun _ => ?_)
    | refine ro_bind (ro_X3_placeOf_L2 _ _ _ _ _) (fun _ => ?_)
    | refine ro_binI (ro_X3_placeOf_L2 _ _ _ _ _) (fun _ => ?_))
theorem fr_X3_take_b25 (rc25 : Nat → Nat → Int32 → Int32 → KH → KO Unit) (hr25 : ∀ (u0 : Nat) (u1 : Nat) (u2 : Int32) (u3 : Int32) (u4 : KH), FR u4 (rc25 u0 u1 u2 u3 u4)) (v0 : Nat) (v2 : Nat) (v3 : Int32) (v4 : Int32) (h : KH) : FR h (X3_take_b25 rc25 v0 v2 v3 v4 h) := by
  unfold X3_take_b25
  have q0 : FL h h := FL.rf h
  repeat' with_reducible (first
    | exact fr_ret (by assumption)
    | exact fr_retZ (by assumption)
    | exact fr_retC (by assumption)
    | exact fr_thr (by assumption)
    | exact fr_none
    | exact fr_go (hr25 _ _ _ _ _) (by assumption)
    | exact fr_go (fr_f_X3_seeBeginning _ _ _ _) (by assumption)
    | refine fr_gI (fun _ => ?_)
    | refine fr_gR (fun _ => ?_)
    | refine fr_gN (fun _ => ?_)
    | refine fr_gAI (fun _ => ?_)
    | refine fr_gAL (fun _ => ?_)
    | refine fr_gAN (fun _ => ?_)
    | refine fr_kif ?_ ?_
    | refine fr_nul ?_ (fun _ => ?_)
    | refine fr_may (fun _ => ?_)
    | refine fr_kdv ?_
    | refine fr_pI (by assumption) (by decide) (fun _ _ => ?_)
    | refine fr_pR (by assumption) (fun _ _ => ?_)
    | refine fr_pAI (by assumption) (by decide) (fun _ _ => ?_)
    | refine fr_pAZ (by assumption) (by decide) (fun _ _ => ?_)
    | refine fr_pAL (by assumption) (fun _ _ => ?_)
    | refine fr_pAN (by assumption) (fun _ _ => ?_)
    | refine fr_nw (by assumption) (fun _ _ _ => ?_)
    | refine fr_nwM (by assumption) (fun _ _ _ => ?_)
    | refine fr_callV (hr25 _ _ _ _ _) (by assumption) (fun _ _ _ => ?_)
    | refine fr_bind (hr25 _ _ _ _ _) (by assumption) (fun _ _ _ => ?_)
    | refine fr_binI (hr25 _ _ _ _ _) (by assumption) (fun _ _ _ => ?_)
    | refine fr_callV (fr_f_X3_seeBeginning _ _ _ _) (by assumption) (fun _ _ _ => ?_)
    | refine fr_bind (fr_f_X3_seeBeginning _ _ _ _) (by assumption) (fun _ _ _ => ?_)
    | refine fr_binI (fr_f_X3_seeBeginning _ _ _ _) (by assumption) (fun _ _ _ => ?_))
theorem fr_X3_take_L25  : ∀ (m : Nat) (u0 : Nat) (u1 : Nat) (u2 : Int32) (u3 : Int32) (u4 : KH), FR u4 (X3_take_L25  m u0 u1 u2 u3 u4) := by
  intro m
  induction m with
  | zero => intro u0 u1 u2 u3 u4; exact fr_none
  | succ m ih => intro u0 u1 u2 u3 u4; exact fr_X3_take_b25 (X3_take_L25  m) ih u0 u1 u2 u3 u4
theorem fr_f_X3_take  (p0 : Nat) (p1 : Nat) (p2 : Nat) (h : KH) : FR h (f_X3_take p0 p1 p2 h) := by
  unfold f_X3_take
  have q0 : FL h h := FL.rf h
  repeat' with_reducible (first
    | exact fr_ret (by assumption)
    | exact fr_retZ (by assumption)
    | exact fr_retC (by assumption)
    | exact fr_thr (by assumption)
    | exact fr_none
    | exact fr_go (fr_f_X3_placeOf _ _ _) (by assumption)
    | exact fr_go (fr_X3_take_L25 _ _ _ _ _ _) (by assumption)
    | refine fr_gI (fun _ => ?_)
    | refine fr_gR (fun _ => ?_)
    | refine fr_gN (fun _ => ?_)
    | refine fr_gAI (fun _ => ?_)
    | refine fr_gAL (fun _ => ?_)
    | refine fr_gAN (fun _ => ?_)
    | refine fr_kif ?_ ?_
    | refine fr_nul ?_ (fun _ => ?_)
    | refine fr_may (fun _ => ?_)
    | refine fr_kdv ?_
    | refine fr_pI (by assumption) (by decide) (fun _ _ => ?_)
    | refine fr_pR (by assumption) (fun _ _ => ?_)
    | refine fr_pAI (by assumption) (by decide) (fun _ _ => ?_)
    | refine fr_pAZ (by assumption) (by decide) (fun _ _ => ?_)
    | refine fr_pAL (by assumption) (fun _ _ => ?_)
    | refine fr_pAN (by assumption) (fun _ _ => ?_)
    | refine fr_nw (by assumption) (fun _ _ _ => ?_)
    | refine fr_nwM (by assumption) (fun _ _ _ => ?_)
    | refine fr_callV (fr_f_X3_placeOf _ _ _) (by assumption) (fun _ _ _ => ?_)
    | refine fr_bind (fr_f_X3_placeOf _ _ _) (by assumption) (fun _ _ _ => ?_)
    | refine fr_binI (fr_f_X3_placeOf _ _ _) (by assumption) (fun _ _ _ => ?_)
    | refine fr_callV (fr_X3_take_L25 _ _ _ _ _ _) (by assumption) (fun _ _ _ => ?_)
    | refine fr_bind (fr_X3_take_L25 _ _ _ _ _ _) (by assumption) (fun _ _ _ => ?_)
    | refine fr_binI (fr_X3_take_L25 _ _ _ _ _ _) (by assumption) (fun _ _ _ => ?_))
theorem fr_X5_isAheadOf_b38  (s0 : Int32) (h : KH) : FR h (X5_isAheadOf_b38 s0 h) := by
  unfold X5_isAheadOf_b38
  have q0 : FL h h := FL.rf h
  repeat' with_reducible (first
    | exact fr_ret (by assumption)
    | exact fr_retZ (by assumption)
    | exact fr_retC (by assumption)
    | exact fr_thr (by assumption)
    | exact fr_none
    | refine fr_gI (fun _ => ?_)
    | refine fr_gR (fun _ => ?_)
    | refine fr_gN (fun _ => ?_)
    | refine fr_gAI (fun _ => ?_)
    | refine fr_gAL (fun _ => ?_)
    | refine fr_gAN (fun _ => ?_)
    | refine fr_kif ?_ ?_
    | refine fr_nul ?_ (fun _ => ?_)
    | refine fr_may (fun _ => ?_)
    | refine fr_kdv ?_
    | refine fr_pI (by assumption) (by decide) (fun _ _ => ?_)
    | refine fr_pR (by assumption) (fun _ _ => ?_)
    | refine fr_pAI (by assumption) (by decide) (fun _ _ => ?_)
    | refine fr_pAZ (by assumption) (by decide) (fun _ _ => ?_)
    | refine fr_pAL (by assumption) (fun _ _ => ?_)
    | refine fr_pAN (by assumption) (fun _ _ => ?_)
    | refine fr_nw (by assumption) (fun _ _ _ => ?_)
    | refine fr_nwM (by assumption) (fun _ _ _ => ?_))
theorem ro_X5_isAheadOf_b38  (s0 : Int32) (h : KH) : RO h (X5_isAheadOf_b38 s0 h) := by
  unfold X5_isAheadOf_b38
  repeat' with_reducible (first
    | exact ro_ret
    | exact ro_retZ
    | exact ro_retC
    | exact ro_thr
    | exact ro_none
    | refine ro_gI (fun _ => ?_)
    | refine ro_gR (fun _ => ?_)
    | refine ro_gN (fun _ => ?_)
    | refine ro_gAI (fun _ => ?_)
    | refine ro_gAL (fun _ => ?_)
    | refine ro_gAN (fun _ => ?_)
    | refine ro_kif ?_ ?_
    | refine ro_nul ?_ (fun _ => ?_)
    | refine ro_may (fun _ => ?_)
    | refine ro_kdv ?_)
theorem fr_X5_isAheadOf_b37  (h : KH) : FR h (X5_isAheadOf_b37 h) := by
  unfold X5_isAheadOf_b37
  have q0 : FL h h := FL.rf h
  repeat' with_reducible (first
    | exact fr_ret (by assumption)
    | exact fr_retZ (by assumption)
    | exact fr_retC (by assumption)
    | exact fr_thr (by assumption)
    | exact fr_none
    | exact fr_go (fr_X5_isAheadOf_b38 _ _) (by assumption)
    | refine fr_gI (fun _ => ?_)
    | refine fr_gR (fun _ => ?_)
    | refine fr_gN (fun _ => ?_)
    | refine fr_gAI (fun _ => ?_)
    | refine fr_gAL (fun _ => ?_)
    | refine fr_gAN (fun _ => ?_)
    | refine fr_kif ?_ ?_
    | refine fr_nul ?_ (fun _ => ?_)
    | refine fr_may (fun _ => ?_)
    | refine fr_kdv ?_
    | refine fr_pI (by assumption) (by decide) (fun _ _ => ?_)
    | refine fr_pR (by assumption) (fun _ _ => ?_)
    | refine fr_pAI (by assumption) (by decide) (fun _ _ => ?_)
    | refine fr_pAZ (by assumption) (by decide) (fun _ _ => ?_)
    | refine fr_pAL (by assumption) (fun _ _ => ?_)
    | refine fr_pAN (by assumption) (fun _ _ => ?_)
    | refine fr_nw (by assumption) (fun _ _ _ => ?_)
    | refine fr_nwM (by assumption) (fun _ _ _ => ?_)
    | refine fr_callV (fr_X5_isAheadOf_b38 _ _) (by assumption) (fun _ _ _ => ?_)
    | refine fr_bind (fr_X5_isAheadOf_b38 _ _) (by assumption) (fun _ _ _ => ?_)
    | refine fr_binI (fr_X5_isAheadOf_b38 _ _) (by assumption) (fun _ _ _ => ?_))
theorem ro_X5_isAheadOf_b37  (h : KH) : RO h (X5_isAheadOf_b37 h) := by
  unfold X5_isAheadOf_b37
  repeat' with_reducible (first
    | exact ro_ret
    | exact ro_retZ
    | exact ro_retC
    | exact ro_thr
    | exact ro_none
    | exact ro_X5_isAheadOf_b38 _ _
    | refine ro_gI (fun _ => ?_)
    | refine ro_gR (fun _ => ?_)
    | refine ro_gN (fun _ => ?_)
    | refine ro_gAI (fun _ => ?_)
    | refine ro_gAL (fun _ => ?_)
    | refine ro_gAN (fun _ => ?_)
    | refine ro_kif ?_ ?_
    | refine ro_nul ?_ (fun _ => ?_)
    | refine ro_may (fun _ => ?_)
    | refine ro_kdv ?_
    | refine ro_callV (ro_X5_isAheadOf_b38 _ _) (fun _ => ?_)
    | refine ro_bind (ro_X5_isAheadOf_b38 _ _) (fun _ => ?_)
    | refine ro_binI (ro_X5_isAheadOf_b38 _ _) (fun _ => ?_))
theorem fr_X5_isAheadOf_b33  (h : KH) : FR h (X5_isAheadOf_b33 h) := by
  unfold X5_isAheadOf_b33
  have q0 : FL h h := FL.rf h
  repeat' with_reducible (first
    | exact fr_ret (by assumption)
    | exact fr_retZ (by assumption)
    | exact fr_retC (by assumption)
    | exact fr_thr (by assumption)
    | exact fr_none
    | exact fr_go (fr_X5_isAheadOf_b38 _ _) (by assumption)
    | refine fr_gI (fun _ => ?_)
    | refine fr_gR (fun _ => ?_)
    | refine fr_gN (fun _ => ?_)
    | refine fr_gAI (fun _ => ?_)
    | refine fr_gAL (fun _ => ?_)
    | refine fr_gAN (fun _ => ?_)
    | refine fr_kif ?_ ?_
    | refine fr_nul ?_ (fun _ => ?_)
    | refine fr_may (fun _ => ?_)
    | refine fr_kdv ?_
    | refine fr_pI (by assumption) (by decide) (fun _ _ => ?_)
    | refine fr_pR (by assumption) (fun _ _ => ?_)
    | refine fr_pAI (by assumption) (by decide) (fun _ _ => ?_)
    | refine fr_pAZ (by assumption) (by decide) (fun _ _ => ?_)
    | refine fr_pAL (by assumption) (fun _ _ => ?_)
    | refine fr_pAN (by assumption) (fun _ _ => ?_)
    | refine fr_nw (by assumption) (fun _ _ _ => ?_)
    | refine fr_nwM (by assumption) (fun _ _ _ => ?_)
    | refine fr_callV (fr_X5_isAheadOf_b38 _ _) (by assumption) (fun _ _ _ => ?_)
    | refine fr_bind (fr_X5_isAheadOf_b38 _ _) (by assumption) (fun _ _ _ => ?_)
    | refine fr_binI (fr_X5_isAheadOf_b38 _ _) (by assumption) (fun _ _ _ => ?_))
theorem ro_X5_isAheadOf_b33  (h : KH) : RO h (X5_isAheadOf_b33 h) := by
  unfold X5_isAheadOf_b33
  repeat' with_reducible (first
    | exact ro_ret
    | exact ro_retZ
    | exact ro_retC
    | exact ro_thr
    | exact ro_none
    | exact ro_X5_isAheadOf_b38 _ _
    | refine ro_gI (fun _ => ?_)
    | refine ro_gR (fun _ => ?_)
    | refine ro_gN (fun _ => ?_)
    | refine ro_gAI (fun _ => ?_)
    | refine ro_gAL (fun _ => ?_)
    | refine ro_gAN (fun _ => ?_)
    | refine ro_kif ?_ ?_
    | refine ro_nul ?_ (fun _ => ?_)
    | refine ro_may (fun _ => ?_)
    | refine ro_kdv ?_
    | refine ro_callV (ro_X5_isAheadOf_b38 _ _) (fun _ => ?_)
    | refine ro_bind (ro_X5_isAheadOf_b38 _ _) (fun _ => ?_)
    | refine ro_binI (ro_X5_isAheadOf_b38 _ _) (fun _ => ?_))
theorem fr_f_X5_isAheadOf  (p0 : Nat) (p1 : Nat) (h : KH) : FR h (f_X5_isAheadOf p0 p1 h) := by
  unfold f_X5_isAheadOf
  have q0 : FL h h := FL.rf h
  repeat' with_reducible (first
    | exact fr_ret (by assumption)
    | exact fr_retZ (by assumption)
    | exact fr_retC (by assumption)
    | exact fr_thr (by assumption)
    | exact fr_none
    | exact fr_go (fr_X5_isAheadOf_b33 _) (by assumption)
    | exact fr_go (fr_X5_isAheadOf_b37 _) (by assumption)
    | refine fr_gI (fun _ => ?_)
    | refine fr_gR (fun _ => ?_)
    | refine fr_gN (fun _ => ?_)
    | refine fr_gAI (fun _ => ?_)
    | refine fr_gAL (fun _ => ?_)
    | refine fr_gAN (fun _ => ?_)
    | refine fr_kif ?_ ?_
    | refine fr_nul ?_ (fun _ => ?_)
    | refine fr_may (fun _ => ?_)
    | refine fr_kdv ?_
    | refine fr_pI (by assumption) (by decide) (fun _ _ => ?_)
    | refine fr_pR (by assumption) (fun _ _ => ?_)
    | refine fr_pAI (by assumption) (by decide) (fun _ _ => ?_)
    | refine fr_pAZ (by assumption) (by decide) (fun _ _ => ?_)
    | refine fr_pAL (by assumption) (fun _ _ => ?_)
    | refine fr_pAN (by assumption) (fun _ _ => ?_)
    | refine fr_nw (by assumption) (fun _ _ _ => ?_)
    | refine fr_nwM (by assumption) (fun _ _ _ => ?_)
    | refine fr_callV (fr_X5_isAheadOf_b33 _) (by assumption) (fun _ _ _ => ?_)
    | refine fr_bind (fr_X5_isAheadOf_b33 _) (by assumption) (fun _ _ _ => ?_)
    | refine fr_binI (fr_X5_isAheadOf_b33 _) (by assumption) (fun _ _ _ => ?_)
    | refine fr_callV (fr_X5_isAheadOf_b37 _) (by assumption) (fun _ _ _ => ?_)
    | refine fr_bind (fr_X5_isAheadOf_b37 _) (by assumption) (fun _ _ _ => ?_)
    | refine fr_binI (fr_X5_isAheadOf_b37 _) (by assumption) (fun _ _ _ => ?_))
theorem ro_f_X5_isAheadOf  (p0 : Nat) (p1 : Nat) (h : KH) : RO h (f_X5_isAheadOf p0 p1 h) := by
  unfold f_X5_isAheadOf
  repeat' with_reducible (first
    | exact ro_ret
    | exact ro_retZ
    | exact ro_retC
    | exact ro_thr
    | exact ro_none
    | exact ro_X5_isAheadOf_b33 _
    | exact ro_X5_isAheadOf_b37 _
    | refine ro_gI (fun _ => ?_)
    | refine ro_gR (fun _ => ?_)
    | refine ro_gN (fun _ => ?_)
    | refine ro_gAI (fun _ => ?_)
    | refine ro_gAL (fun _ => ?_)
    | refine ro_gAN (fun _ => ?_)
    | refine ro_kif ?_ ?_
    | refine ro_nul ?_ (fun _ => ?_)
    | refine ro_may (fun _ => ?_)
    | refine ro_kdv ?_
    | refine ro_callV (ro_X5_isAheadOf_b33 _) (fun _ => ?_)
    | refine ro_bind (ro_X5_isAheadOf_b33 _) (fun _ => ?_)
    | refine ro_binI (ro_X5_isAheadOf_b33 _) (fun _ => ?_)
    | refine ro_callV (ro_X5_isAheadOf_b37 _) (fun _ => ?_)
    | refine ro_bind (ro_X5_isAheadOf_b37 _) (fun _ => ?_)
    | refine ro_binI (ro_X5_isAheadOf_b37 _) (fun _ => ?_))
theorem fr_X3_insertInOrder_b58  (v0 : Nat) (v1 : Nat) (v2 : Int32) (h : KH) : FR h (X3_insertInOrder_b58 v0 v1 v2 h) := by
  unfold X3_insertInOrder_b58
  have q0 : FL h h := FL.rf h
  repeat' with_reducible (first
    | exact fr_ret (by assumption)
    | exact fr_retZ (by assumption)
    | exact fr_retC (by assumption)
    | exact fr_thr (by assumption)
    | exact fr_none
    | refine fr_gI (fun _ => ?_)
    | refine fr_gR (fun _ => ?_)
    | refine fr_gN (fun _ => ?_)
    | refine fr_gAI (fun _ => ?_)
    | refine fr_gAL (fun _ => ?_)
    | refine fr_gAN (fun _ => ?_)
    | refine fr_kif ?_ ?_
    | refine fr_nul ?_ (fun _ => ?_)
    | refine fr_may (fun _ => ?_)
    | refine fr_kdv ?_
    | refine fr_pI (by assumption) (by decide) (fun _ _ => ?_)
    | refine fr_pR (by assumption) (fun _ _ => ?_)
    | refine fr_pAI (by assumption) (by decide) (fun _ _ => ?_)
    | refine fr_pAZ (by assumption) (by decide) (fun _ _ => ?_)
    | refine fr_pAL (by assumption) (fun _ _ => ?_)
    | refine fr_pAN (by assumption) (fun _ _ => ?_)
    | refine fr_nw (by assumption) (fun _ _ _ => ?_)
    | refine fr_nwM (by assumption) (fun _ _ _ => ?_))
theorem fr_X3_insertInOrder_b5 (rc5 : Nat → Nat → Int32 → KH → KO Int32) (hr5 : ∀ (u0 : Nat) (u1 : Nat) (u2 : Int32) (u3 : KH), FR u3 (rc5 u0 u1 u2 u3)) (v0 : Nat) (v1 : Nat) (v2 : Int32) (h : KH) : FR h (X3_insertInOrder_b5 rc5 v0 v1 v2 h) := by
  unfold X3_insertInOrder_b5
  have q0 : FL h h := FL.rf h
  repeat' with_reducible (first
    | exact fr_ret (by assumption)
    | exact fr_retZ (by assumption)
    | exact fr_retC (by assumption)
    | exact fr_thr (by assumption)
    | exact fr_none
    | exact fr_go (hr5 _ _ _ _) (by assumption)
    | exact fr_go (fr_X3_insertInOrder_b58 _ _ _ _) (by assumption)
    | exact fr_go (fr_f_X5_isAheadOf _ _ _) (by assumption)
    | refine fr_gI (fun _ => ?_)
    | refine fr_gR (fun _ => ?_)
    | refine fr_gN (fun _ => ?_)
    | refine fr_gAI (fun _ => ?_)
    | refine fr_gAL (fun _ => ?_)
    | refine fr_gAN (fun _ => ?_)
    | refine fr_kif ?_ ?_
    | refine fr_nul ?_ (fun _ => ?_)
    | refine fr_may (fun _ => ?_)
    | refine fr_kdv ?_
    | refine fr_pI (by assumption) (by decide) (fun _ _ => ?_)
    | refine fr_pR (by assumption) (fun _ _ => ?_)
    | refine fr_pAI (by assumption) (by decide) (fun _ _ => ?_)
    | refine fr_pAZ (by assumption) (by decide) (fun _ _ => ?_)
    | refine fr_pAL (by assumption) (fun _ _ => ?_)
    | refine fr_pAN (by assumption) (fun _ _ => ?_)
    | refine fr_nw (by assumption) (fun _ _ _ => ?_)
    | refine fr_nwM (by assumption) (fun _ _ _ => ?_)
    | refine fr_callV (hr5 _ _ _ _) (by assumption) (fun _ _ _ => ?_)
    | refine fr_bind (hr5 _ _ _ _) (by assumption) (fun _ _ _ => ?_)
    | refine fr_binI (hr5 _ _ _ _) (by assumption) (fun _ _ _ => ?_)
    | refine fr_callV (fr_X3_insertInOrder_b58 _ _ _ _) (by assumption) (fun _ _ _ => ?_)
    | refine fr_bind (fr_X3_insertInOrder_b58 _ _ _ _) (by assumption) (fun _ _ _ => ?_)
    | refine fr_binI (fr_X3_insertInOrder_b58 _ _ _ _) (by assumption) (fun _ _ _ => ?_)
    | refine fr_callV (fr_f_X5_isAheadOf _ _ _) (by assumption) (fun _ _ _ => ?_)
    | refine fr_bind (fr_f_X5_isAheadOf _ _ _) (by assumption) (fun _ _ _ => ?_)
    | refine fr_binI (fr_f_X5_isAheadOf _ _ _) (by assumption) (fun _ _ _ => ?_))
theorem fr_X3_insertInOrder_L5  : ∀ (m : Nat) (u0 : Nat) (u1 : Nat) (u2 : Int32) (u3 : KH), FR u3 (X3_insertInOrder_L5  m u0 u1 u2 u3) := by
  intro m
  induction m with
  | zero => intro u0 u1 u2 u3; exact fr_none
  | succ m ih => intro u0 u1 u2 u3; exact fr_X3_insertInOrder_b5 (X3_insertInOrder_L5  m) ih u0 u1 u2 u3
theorem fr_f_X3_insertInOrder  (p0 : Nat) (p1 : Nat) (h : KH) : FR h (f_X3_insertInOrder p0 p1 h) := by
  unfold f_X3_insertInOrder
  have q0 : FL h h := FL.rf h
  repeat' with_reducible (first
    | exact fr_ret (by assumption)
    | exact fr_retZ (by assumption)
    | exact fr_retC (by assumption)
    | exact fr_thr (by assumption)
    | exact fr_none
    | exact fr_go (fr_X3_insertInOrder_L5 _ _ _ _ _) (by assumption)
    | refine fr_gI (fun _ => ?_)
    | refine fr_gR (fun _ => ?_)
    | refine fr_gN (fun _ => ?_)
    | refine fr_gAI (fun _ => ?_)
    | refine fr_gAL (fun _ => ?_)
    | refine fr_gAN (fun _ => ?_)
    | refine fr_kif ?_ ?_
    | refine fr_nul ?_ (fun _ => ?_)
    | refine fr_may (fun _ => ?_)
    | refine fr_kdv ?_
    | refine fr_pI (by assumption) (by decide) (fun _ _ => ?_)
    | refine fr_pR (by assumption) (fun _ _ => ?_)
    | refine fr_pAI (by assumption) (by decide) (fun _ _ => ?_)
    | refine fr_pAZ (by assumption) (by decide) (fun _ _ => ?_)
    | refine fr_pAL (by assumption) (fun _ _ => ?_)
    | refine fr_pAN (by assumption) (fun _ _ => ?_)
    | refine fr_nw (by assumption) (fun _ _ _ => ?_)
    | refine fr_nwM (by assumption) (fun _ _ _ => ?_)
    | refine fr_callV (fr_X3_insertInOrder_L5 _ _ _ _ _) (by assumption) (fun _ _ _ => ?_)
    | refine fr_bind (fr_X3_insertInOrder_L5 _ _ _ _ _) (by assumption) (fun _ _ _ => ?_)
    | refine fr_binI (fr_X3_insertInOrder_L5 _ _ _ _ _) (by assumption) (fun _ _ _ => ?_))
theorem fr_f_X3_put  (p0 : Nat) (p1 : Nat) (p2 : Nat) (h : KH) : FR h (f_X3_put p0 p1 p2 h) := by
  unfold f_X3_put
  have q0 : FL h h := FL.rf h
  repeat' with_reducible (first
    | exact fr_ret (by assumption)
    | exact fr_retZ (by assumption)
    | exact fr_retC (by assumption)
    | exact fr_thr (by assumption)
    | exact fr_none
    | exact fr_go (fr_f_X3_insertInOrder _ _ _) (by assumption)
    | exact fr_go (fr_f_X3_seeBeginning _ _ _ _) (by assumption)
    | refine fr_gI (fun _ => ?_)
    | refine fr_gR (fun _ => ?_)
    | refine fr_gN (fun _ => ?_)
    | refine fr_gAI (fun _ => ?_)
    | refine fr_gAL (fun _ => ?_)
    | refine fr_gAN (fun _ => ?_)
    | refine fr_kif ?_ ?_
    | refine fr_nul ?_ (fun _ => ?_)
    | refine fr_may (fun _ => ?_)
    | refine fr_kdv ?_
    | refine fr_pI (by assumption) (by decide) (fun _ _ => ?_)
    | refine fr_pR (by assumption) (fun _ _ => ?_)
    | refine fr_pAI (by assumption) (by decide) (fun _ _ => ?_)
    | refine fr_pAZ (by assumption) (by decide) (fun _ _ => ?_)
    | refine fr_pAL (by assumption) (fun _ _ => ?_)
    | refine fr_pAN (by assumption) (fun _ _ => ?_)
    | refine fr_nw (by assumption) (fun _ _ _ => ?_)
    | refine fr_nwM (by assumption) (fun _ _ _ => ?_)
    | refine fr_callV (fr_f_X3_insertInOrder _ _ _) (by assumption) (fun _ _ _ => ?_)
    | refine fr_bind (fr_f_X3_insertInOrder _ _ _) (by assumption) (fun _ _ _ => ?_)
    | refine fr_binI (fr_f_X3_insertInOrder _ _ _) (by assumption) (fun _ _ _ => ?_)
    | refine fr_callV (fr_f_X3_seeBeginning _ _ _ _) (by assumption) (fun _ _ _ => ?_)
    | refine fr_bind (fr_f_X3_seeBeginning _ _ _ _) (by assumption) (fun _ _ _ => ?_)
    | refine fr_binI (fr_f_X3_seeBeginning _ _ _ _) (by assumption) (fun _ _ _ => ?_))
theorem fr_X9_move_b58  (h : KH) : FR h (X9_move_b58 h) := by
  unfold X9_move_b58
  have q0 : FL h h := FL.rf h
  repeat' with_reducible (first
    | exact fr_ret (by assumption)
    | exact fr_retZ (by assumption)
    | exact fr_retC (by assumption)
    | exact fr_thr (by assumption)
    | exact fr_none
    | refine fr_gI (fun _ => ?_)
    | refine fr_gR (fun _ => ?_)
    | refine fr_gN (fun _ => ?_)
    | refine fr_gAI (fun _ => ?_)
    | refine fr_gAL (fun _ => ?_)
    | refine fr_gAN (fun _ => ?_)
    | refine fr_kif ?_ ?_
    | refine fr_nul ?_ (fun _ => ?_)
    | refine fr_may (fun _ => ?_)
    | refine fr_kdv ?_
    | refine fr_pI (by assumption) (by decide) (fun _ _ => ?_)
    | refine fr_pR (by assumption) (fun _ _ => ?_)
    | refine fr_pAI (by assumption) (by decide) (fun _ _ => ?_)
    | refine fr_pAZ (by assumption) (by decide) (fun _ _ => ?_)
    | refine fr_pAL (by assumption) (fun _ _ => ?_)
    | refine fr_pAN (by assumption) (fun _ _ => ?_)
    | refine fr_nw (by assumption) (fun _ _ _ => ?_)
    | refine fr_nwM (by assumption) (fun _ _ _ => ?_))
theorem ro_X9_move_b58  (h : KH) : RO h (X9_move_b58 h) := by
  unfold X9_move_b58
  repeat' with_reducible (first
    | exact ro_ret
    | exact ro_retZ
    | exact ro_retC
    | exact ro_thr
    | exact ro_none
    | refine ro_gI (fun _ => ?_)
    | refine ro_gR (fun _ => ?_)
    | refine ro_gN (fun _ => ?_)
    | refine ro_gAI (fun _ => ?_)
    | refine ro_gAL (fun _ => ?_)
    | refine ro_gAN (fun _ => ?_)
    | refine ro_kif ?_ ?_
    | refine ro_nul ?_ (fun _ => ?_)
    | refine ro_may (fun _ => ?_)
    | refine ro_kdv ?_)
theorem fr_X9_move_b37  (v0 : Nat) (v1 : Nat) (v2 : Option Nat) (h : KH) : FR h (X9_move_b37 v0 v1 v2 h) := by
  unfold X9_move_b37
  have q0 : FL h h := FL.rf h
  repeat' with_reducible (first
    | exact fr_ret (by assumption)
    | exact fr_retZ (by assumption)
    | exact fr_retC (by assumption)
    | exact fr_thr (by assumption)
    | exact fr_none
    | exact fr_go (fr_X9_move_b58 _) (by assumption)
    | exact fr_go (fr_f_X3_put _ _ _ _) (by assumption)
    | refine fr_gI (fun _ => ?_)
    | refine fr_gR (fun _ => ?_)
    | refine fr_gN (fun _ => ?_)
    | refine fr_gAI (fun _ => ?_)
    | refine fr_gAL (fun _ => ?_)
    | refine fr_gAN (fun _ => ?_)
    | refine fr_kif ?_ ?_
    | refine fr_nul ?_ (fun _ => ?_)
    | refine fr_may (fun _ => ?_)
    | refine fr_kdv ?_
    | refine fr_pI (by assumption) (by decide) (fun _ _ => ?_)
    | refine fr_pR (by assumption) (fun _ _ => ?_)
    | refine fr_pAI (by assumption) (by decide) (fun _ _ => ?_)
    | refine fr_pAZ (by assumption) (by decide) (fun _ _ => ?_)
    | refine fr_pAL (by assumption) (fun _ _ => ?_)
    | refine fr_pAN (by assumption) (fun _ _ => ?_)
    | refine fr_nw (by assumption) (fun _ _ _ => ?_)
    | refine fr_nwM (by assumption) (fun _ _ _ => ?_)
    | refine fr_callV (fr_X9_move_b58 _) (by assumption) (fun _ _ _ => ?_)
    | refine fr_bind (fr_X9_move_b58 _) (by assumption) (fun _ _ _ => ?_)
    | refine fr_binI (fr_X9_move_b58 _) (by assumption) (fun _ _ _ => ?_)
    | refine fr_callV (fr_f_X3_put _ _ _ _) (by assumption) (fun _ _ _ => ?_)
    | refine fr_bind (fr_f_X3_put _ _ _ _) (by assumption) (fun _ _ _ => ?_)
    | refine fr_binI (fr_f_X3_put _ _ _ _) (by assumption) (fun _ _ _ => ?_))
theorem fr_f_X9_move  (p0 : Nat) (p1 : Nat) (p2 : Option Nat) (h : KH) : FR h (f_X9_move p0 p1 p2 h) := by
  unfold f_X9_move
  have q0 : FL h h := FL.rf h
  repeat' with_reducible (first
    | exact fr_ret (by assumption)
    | exact fr_retZ (by assumption)
    | exact fr_retC (by assumption)
    | exact fr_thr (by assumption)
    | exact fr_none
    | exact fr_go (fr_f_X9_numberOf _ _) (by assumption)
    | exact fr_go (fr_X9_move_b37 _ _ _ _) (by assumption)
    | exact fr_go (fr_f_X3_take _ _ _ _) (by assumption)
    | refine fr_gI (fun _ => ?_)
    | refine fr_gR (fun _ => ?_)
    | refine fr_gN (fun _ => ?_)
    | refine fr_gAI (fun _ => ?_)
    | refine fr_gAL (fun _ => ?_)
    | refine fr_gAN (fun _ => ?_)
    | refine fr_kif ?_ ?_
    | refine fr_nul ?_ (fun _ => ?_)
    | refine fr_may (fun _ => ?_)
    | refine fr_kdv ?_
    | refine fr_pI (by assumption) (by decide) (fun _ _ => ?_)
    | refine fr_pR (by assumption) (fun _ _ => ?_)
    | refine fr_pAI (by assumption) (by decide) (fun _ _ => ?_)
    | refine fr_pAZ (by assumption) (by decide) (fun _ _ => ?_)
    | refine fr_pAL (by assumption) (fun _ _ => ?_)
    | refine fr_pAN (by assumption) (fun _ _ => ?_)
    | refine fr_nw (by assumption) (fun _ _ _ => ?_)
    | refine fr_nwM (by assumption) (fun _ _ _ => ?_)
    | refine fr_callV (fr_f_X9_numberOf _ _) (by assumption) (fun _ _ _ => ?_)
    | refine fr_bind (fr_f_X9_numberOf _ _) (by assumption) (fun _ _ _ => ?_)
    | refine fr_binI (fr_f_X9_numberOf _ _) (by assumption) (fun _ _ _ => ?_)
    | refine fr_callV (fr_X9_move_b37 _ _ _ _) (by assumption) (fun _ _ _ => ?_)
    | refine fr_bind (fr_X9_move_b37 _ _ _ _) (by assumption) (fun _ _ _ => ?_)
    | refine fr_binI (fr_X9_move_b37 _ _ _ _) (by assumption) (fun _ _ _ => ?_)
    | refine fr_callV (fr_f_X3_take _ _ _ _) (by assumption) (fun _ _ _ => ?_)
    | refine fr_bind (fr_f_X3_take _ _ _ _) (by assumption) (fun _ _ _ => ?_)
    | refine fr_binI (fr_f_X3_take _ _ _ _) (by assumption) (fun _ _ _ => ?_))
theorem fr_X9_leadAllBack_b34 (rc2 : Nat → Int32 → KH → KO Unit) (hr2 : ∀ (u0 : Nat) (u1 : Int32) (u2 : KH), FR u2 (rc2 u0 u1 u2)) (v0 : Nat) (v1 : Int32) (h : KH) : FR h (X9_leadAllBack_b34 rc2 v0 v1 h) := by
  unfold X9_leadAllBack_b34
  have q0 : FL h h := FL.rf h
  repeat' with_reducible (first
    | exact fr_ret (by assumption)
    | exact fr_retZ (by assumption)
    | exact fr_retC (by assumption)
    | exact fr_thr (by assumption)
    | exact fr_none
    | exact fr_go (hr2 _ _ _) (by assumption)
    | refine fr_gI (fun _ => ?_)
    | refine fr_gR (fun _ => ?_)
    | refine fr_gN (fun _ => ?_)
    | refine fr_gAI (fun _ => ?_)
    | refine fr_gAL (fun _ => ?_)
    | refine fr_gAN (fun _ => ?_)
    | refine fr_kif ?_ ?_
    | refine fr_nul ?_ (fun _ => ?_)
    | refine fr_may (fun _ => ?_)
    | refine fr_kdv ?_
    | refine fr_pI (by assumption) (by decide) (fun _ _ => ?_)
    | refine fr_pR (by assumption) (fun _ _ => ?_)
    | refine fr_pAI (by assumption) (by decide) (fun _ _ => ?_)
    | refine fr_pAZ (by assumption) (by decide) (fun _ _ => ?_)
    | refine fr_pAL (by assumption) (fun _ _ => ?_)
    | refine fr_pAN (by assumption) (fun _ _ => ?_)
    | refine fr_nw (by assumption) (fun _ _ _ => ?_)
    | refine fr_nwM (by assumption) (fun _ _ _ => ?_)
    | refine fr_callV (hr2 _ _ _) (by assumption) (fun _ _ _ => ?_)
    | refine fr_bind (hr2 _ _ _) (by assumption) (fun _ _ _ => ?_)
    | refine fr_binI (hr2 _ _ _) (by assumption) (fun _ _ _ => ?_))
theorem ro_X9_leadAllBack_b34 (rc2 : Nat → Int32 → KH → KO Unit) (hr2 : ∀ (u0 : Nat) (u1 : Int32) (u2 : KH), RO u2 (rc2 u0 u1 u2)) (v0 : Nat) (v1 : Int32) (h : KH) : RO h (X9_leadAllBack_b34 rc2 v0 v1 h) := by
  unfold X9_leadAllBack_b34
  repeat' with_reducible (first
    | exact ro_ret
    | exact ro_retZ
    | exact ro_retC
    | exact ro_thr
    | exact ro_none
    | exact hr2 _ _ _
    | refine ro_gI (fun _ => ?_)
    | refine ro_gR (fun _ => ?_)
    | refine ro_gN (fun _ => ?_)
    | refine ro_gAI (fun _ => ?_)
    | refine ro_gAL (fun _ => ?_)
    | refine ro_gAN (fun _ => ?_)
    | refine ro_kif ?_ ?_
    | refine ro_nul ?_ (fun _ => ?_)
    | refine ro_may (fun _ => ?_)
    | refine ro_kdv ?_
    | refine ro_callV (hr2 _ _ _) (fun _ => ?_)
    | refine ro_bind (hr2 _ _ _) (fun _ => ?_)
    | refine ro_binI (hr2 _ _ _) (fun _ => ?_))
theorem fr_X9_leadAllBack_b2 (rc2 : Nat → Int32 → KH → KO Unit) (hr2 : ∀ (u0 : Nat) (u1 : Int32) (u2 : KH), FR u2 (rc2 u0 u1 u2)) (v0 : Nat) (v1 : Int32) (h : KH) : FR h (X9_leadAllBack_b2 rc2 v0 v1 h) := by
  unfold X9_leadAllBack_b2
  have q0 : FL h h := FL.rf h
  repeat' with_reducible (first
    | exact fr_ret (by assumption)
    | exact fr_retZ (by assumption)
    | exact fr_retC (by assumption)
    | exact fr_thr (by assumption)
    | exact fr_none
    | exact fr_go (hr2 _ _ _) (by assumption)
    | exact fr_go (fr_f_X9_plateByText _ _ _) (by assumption)
    | exact fr_go (fr_f_X9_move _ _ _ _) (by assumption)
    | exact fr_go (fr_X9_leadAllBack_b34 _ (by assumption) _ _ _) (by assumption)
    | refine fr_gI (fun _ => ?_)
    | refine fr_gR (fun _ => ?_)
    | refine fr_gN (fun _ => ?_)
    | refine fr_gAI (fun _ => ?_)
    | refine fr_gAL (fun _ => ?_)
    | refine fr_gAN (fun _ => ?_)
    | refine fr_kif ?_ ?_
    | refine fr_nul ?_ (fun _ => ?_)
    | refine fr_may (fun _ => ?_)
    | refine fr_kdv ?_
    | refine fr_pI (by assumption) (by decide) (fun _ _ => ?_)
    | refine fr_pR (by assumption) (fun _ _ => ?_)
    | refine fr_pAI (by assumption) (by decide) (fun _ _ => ?_)
    | refine fr_pAZ (by assumption) (by decide) (fun _ _ => ?_)
    | refine fr_pAL (by assumption) (fun _ _ => ?_)
    | refine fr_pAN (by assumption) (fun _ _ => ?_)
    | refine fr_nw (by assumption) (fun _ _ _ => ?_)
    | refine fr_nwM (by assumption) (fun _ _ _ => ?_)
    | refine fr_callV (hr2 _ _ _) (by assumption) (fun _ _ _ => ?_)
    | refine fr_bind (hr2 _ _ _) (by assumption) (fun _ _ _ => ?_)
    | refine fr_binI (hr2 _ _ _) (by assumption) (fun _ _ _ => ?_)
    | refine fr_callV (fr_f_X9_plateByText _ _ _) (by assumption) (fun _ _ _ => ?_)
    | refine fr_bind (fr_f_X9_plateByText _ _ _) (by assumption) (fun _ _ _ => ?_)
    | refine fr_binI (fr_f_X9_plateByText _ _ _) (by assumption) (fun _ _ _ => ?_)
    | refine fr_callV (fr_f_X9_move _ _ _ _) (by assumption) (fun _ _ _ => ?_)
    | refine fr_bind (fr_f_X9_move _ _ _ _) (by assumption) (fun _ _ _ => ?_)
    | refine fr_binI (fr_f_X9_move _ _ _ _) (by assumption) (fun _ _ _ => ?_)
    | refine fr_callV (fr_X9_leadAllBack_b34 _ (by assumption) _ _ _) (by assumption) (fun _ _ _ => ?_)
    | refine fr_bind (fr_X9_leadAllBack_b34 _ (by assumption) _ _ _) (by assumption) (fun _ _ _ => ?_)
    | refine fr_binI (fr_X9_leadAllBack_b34 _ (by assumption) _ _ _) (by assumption) (fun _ _ _ => ?_))
theorem fr_X9_leadAllBack_L2  : ∀ (m : Nat) (u0 : Nat) (u1 : Int32) (u2 : KH), FR u2 (X9_leadAllBack_L2  m u0 u1 u2) := by
  intro m
  induction m with
  | zero => intro u0 u1 u2; exact fr_none
  | succ m ih => intro u0 u1 u2; exact fr_X9_leadAllBack_b2 (X9_leadAllBack_L2  m) ih u0 u1 u2
theorem fr_f_X9_leadAllBack  (p0 : Nat) (h : KH) : FR h (f_X9_leadAllBack p0 h) := by
  unfold f_X9_leadAllBack
  have q0 : FL h h := FL.rf h
  repeat' with_reducible (first
    | exact fr_ret (by assumption)
    | exact fr_retZ (by assumption)
    | exact fr_retC (by assumption)
    | exact fr_thr (by assumption)
    | exact fr_none
    | exact fr_go (fr_X9_leadAllBack_L2 _ _ _ _) (by assumption)
    | refine fr_gI (fun _ => ?_)
    | refine fr_gR (fun _ => ?_)
    | refine fr_gN (fun _ => ?_)
    | refine fr_gAI (fun _ => ?_)
    | refine fr_gAL (fun _ => ?_)
    | refine fr_gAN (fun _ => ?_)
    | refine fr_kif ?_ ?_
    | refine fr_nul ?_ (fun _ => ?_)
    | refine fr_may (fun _ => ?_)
    | refine fr_kdv ?_
    | refine fr_pI (by assumption) (by decide) (fun _ _ => ?_)
    | refine fr_pR (by assumption) (fun _ _ => ?_)
    | refine fr_pAI (by assumption) (by decide) (fun _ _ => ?_)
    | refine fr_pAZ (by assumption) (by decide) (fun _ _ => ?_)
    | refine fr_pAL (by assumption) (fun _ _ => ?_)
    | refine fr_pAN (by assumption) (fun _ _ => ?_)
    | refine fr_nw (by assumption) (fun _ _ _ => ?_)
    | refine fr_nwM (by assumption) (fun _ _ _ => ?_)
    | refine fr_callV (fr_X9_leadAllBack_L2 _ _ _ _) (by assumption) (fun _ _ _ => ?_)
    | refine fr_bind (fr_X9_leadAllBack_L2 _ _ _ _) (by assumption) (fun _ _ _ => ?_)
    | refine fr_binI (fr_X9_leadAllBack_L2 _ _ _ _) (by assumption) (fun _ _ _ => ?_))
theorem fr_X9_alike_b25  (h : KH) : FR h (X9_alike_b25 h) := by
  unfold X9_alike_b25
  have q0 : FL h h := FL.rf h
  repeat' with_reducible (first
    | exact fr_ret (by assumption)
    | exact fr_retZ (by assumption)
    | exact fr_retC (by assumption)
    | exact fr_thr (by assumption)
    | exact fr_none
    | refine fr_gI (fun _ => ?_)
    | refine fr_gR (fun _ => ?_)
    | refine fr_gN (fun _ => ?_)
    | refine fr_gAI (fun _ => ?_)
    | refine fr_gAL (fun _ => ?_)
    | refine fr_gAN (fun _ => ?_)
    | refine fr_kif ?_ ?_
    | refine fr_nul ?_ (fun _ => ?_)
    | refine fr_may (fun _ => ?_)
    | refine fr_kdv ?_
    | refine fr_pI (by assumption) (by decide) (fun _ _ => ?_)
    | refine fr_pR (by assumption) (fun _ _ => ?_)
    | refine fr_pAI (by assumption) (by decide) (fun _ _ => ?_)
    | refine fr_pAZ (by assumption) (by decide) (fun _ _ => ?_)
    | refine fr_pAL (by assumption) (fun _ _ => ?_)
    | refine fr_pAN (by assumption) (fun _ _ => ?_)
    | refine fr_nw (by assumption) (fun _ _ _ => ?_)
    | refine fr_nwM (by assumption) (fun _ _ _ => ?_))
theorem ro_X9_alike_b25  (h : KH) : RO h (X9_alike_b25 h) := by
  unfold X9_alike_b25
  repeat' with_reducible (first
    | exact ro_ret
    | exact ro_retZ
    | exact ro_retC
    | exact ro_thr
    | exact ro_none
    | refine ro_gI (fun _ => ?_)
    | refine ro_gR (fun _ => ?_)
    | refine ro_gN (fun _ => ?_)
    | refine ro_gAI (fun _ => ?_)
    | refine ro_gAL (fun _ => ?_)
    | refine ro_gAN (fun _ => ?_)
    | refine ro_kif ?_ ?_
    | refine ro_nul ?_ (fun _ => ?_)
    | refine ro_may (fun _ => ?_)
    | refine ro_kdv ?_)
theorem fr_f_X9_alike  (p0 : Nat) (p1 : Int32) (p2 : Int32) (h : KH) : FR h (f_X9_alike p0 p1 p2 h) := by
  unfold f_X9_alike
  have q0 : FL h h := FL.rf h
  repeat' with_reducible (first
    | exact fr_ret (by assumption)
    | exact fr_retZ (by assumption)
    | exact fr_retC (by assumption)
    | exact fr_thr (by assumption)
    | exact fr_none
    | exact fr_go (fr_f_X9_requireSign _ _) (by assumption)
    | exact fr_go (fr_X9_alike_b25 _) (by assumption)
    | exact fr_go (fr_f_X2_turn _ _ _ _) (by assumption)
    | exact fr_go (fr_f_X9_leadAllBack _ _) (by assumption)
    | exact fr_go (fr_f_X2_holds _ _ _ _) (by assumption)
    | refine fr_gI (fun _ => ?_)
    | refine fr_gR (fun _ => ?_)
    | refine fr_gN (fun _ => ?_)
    | refine fr_gAI (fun _ => ?_)
    | refine fr_gAL (fun _ => ?_)
    | refine fr_gAN (fun _ => ?_)
    | refine fr_kif ?_ ?_
    | refine fr_nul ?_ (fun _ => ?_)
    | refine fr_may (fun _ => ?_)
    | refine fr_kdv ?_
    | refine fr_pI (by assumption) (by decide) (fun _ _ => ?_)
    | refine fr_pR (by assumption) (fun _ _ => ?_)
    | refine fr_pAI (by assumption) (by decide) (fun _ _ => ?_)
    | refine fr_pAZ (by assumption) (by decide) (fun _ _ => ?_)
    | refine fr_pAL (by assumption) (fun _ _ => ?_)
    | refine fr_pAN (by assumption) (fun _ _ => ?_)
    | refine fr_nw (by assumption) (fun _ _ _ => ?_)
    | refine fr_nwM (by assumption) (fun _ _ _ => ?_)
    | refine fr_callV (fr_f_X9_requireSign _ _) (by assumption) (fun _ _ _ => ?_)
    | refine fr_bind (fr_f_X9_requireSign _ _) (by assumption) (fun _ _ _ => ?_)
    | refine fr_binI (fr_f_X9_requireSign _ _) (by assumption) (fun _ _ _ => ?_)
    | refine fr_callV (fr_X9_alike_b25 _) (by assumption) (fun _ _ _ => ?_)
    | refine fr_bind (fr_X9_alike_b25 _) (by assumption) (fun _ _ _ => ?_)
    | refine fr_binI (fr_X9_alike_b25 _) (by assumption) (fun _ _ _ => ?_)
    | refine fr_callV (fr_f_X2_turn _ _ _ _) (by assumption) (fun _ _ _ => ?_)
    | refine fr_bind (fr_f_X2_turn _ _ _ _) (by assumption) (fun _ _ _ => ?_)
    | refine fr_binI (fr_f_X2_turn _ _ _ _) (by assumption) (fun _ _ _ => ?_)
    | refine fr_callV (fr_f_X9_leadAllBack _ _) (by assumption) (fun _ _ _ => ?_)
    | refine fr_bind (fr_f_X9_leadAllBack _ _) (by assumption) (fun _ _ _ => ?_)
    | refine fr_binI (fr_f_X9_leadAllBack _ _) (by assumption) (fun _ _ _ => ?_)
    | refine fr_callV (fr_f_X2_holds _ _ _ _) (by assumption) (fun _ _ _ => ?_)
    | refine fr_bind (fr_f_X2_holds _ _ _ _) (by assumption) (fun _ _ _ => ?_)
    | refine fr_binI (fr_f_X2_holds _ _ _ _) (by assumption) (fun _ _ _ => ?_))
theorem fr_f_X9_requireDriver  (p0 : Int32) (h : KH) : FR h (f_X9_requireDriver p0 h) := by
  unfold f_X9_requireDriver
  have q0 : FL h h := FL.rf h
  repeat' with_reducible (first
    | exact fr_ret (by assumption)
    | exact fr_retZ (by assumption)
    | exact fr_retC (by assumption)
    | exact fr_thr (by assumption)
    | exact fr_none
    | exact fr_go (fr_f_X9_isWithin _ _ _ _) (by assumption)
    | refine fr_gI (fun _ => ?_)
    | refine fr_gR (fun _ => ?_)
    | refine fr_gN (fun _ => ?_)
    | refine fr_gAI (fun _ => ?_)
    | refine fr_gAL (fun _ => ?_)
    | refine fr_gAN (fun _ => ?_)
    | refine fr_kif ?_ ?_
    | refine fr_nul ?_ (fun _ => ?_)
    | refine fr_may (fun _ => ?_)
    | refine fr_kdv ?_
    | refine fr_pI (by assumption) (by decide) (fun _ _ => ?_)
    | refine fr_pR (by assumption) (fun _ _ => ?_)
    | refine fr_pAI (by assumption) (by decide) (fun _ _ => ?_)
    | refine fr_pAZ (by assumption) (by decide) (fun _ _ => ?_)
    | refine fr_pAL (by assumption) (fun _ _ => ?_)
    | refine fr_pAN (by assumption) (fun _ _ => ?_)
    | refine fr_nw (by assumption) (fun _ _ _ => ?_)
    | refine fr_nwM (by assumption) (fun _ _ _ => ?_)
    | refine fr_callV (fr_f_X9_isWithin _ _ _ _) (by assumption) (fun _ _ _ => ?_)
    | refine fr_bind (fr_f_X9_isWithin _ _ _ _) (by assumption) (fun _ _ _ => ?_)
    | refine fr_binI (fr_f_X9_isWithin _ _ _ _) (by assumption) (fun _ _ _ => ?_))
theorem ro_f_X9_requireDriver  (p0 : Int32) (h : KH) : RO h (f_X9_requireDriver p0 h) := by
  unfold f_X9_requireDriver
  repeat' with_reducible (first
    | exact ro_ret
    | exact ro_retZ
    | exact ro_retC
    | exact ro_thr
    | exact ro_none
    | exact ro_f_X9_isWithin _ _ _ _
    | refine ro_gI (fun _ => ?_)
    | refine ro_gR (fun _ => ?_)
    | refine ro_gN (fun _ => ?_)
    | refine ro_gAI (fun _ => ?_)
    | refine ro_gAL (fun _ => ?_)
    | refine ro_gAN (fun _ => ?_)
    | refine ro_kif ?_ ?_
    | refine ro_nul ?_ (fun _ => ?_)
    | refine ro_may (fun _ => ?_)
    | refine ro_kdv ?_
    | refine ro_callV (ro_f_X9_isWithin _ _ _ _) (fun _ => ?_)
    | refine ro_bind (ro_f_X9_isWithin _ _ _ _) (fun _ => ?_)
    | refine ro_binI (ro_f_X9_isWithin _ _ _ _) (fun _ => ?_))
theorem fr_X7_hasQuestionMark_b2 (rc2 : Nat → Int32 → KH → KO Int32) (hr2 : ∀ (u0 : Nat) (u1 : Int32) (u2 : KH), FR u2 (rc2 u0 u1 u2)) (v0 : Nat) (v1 : Int32) (h : KH) : FR h (X7_hasQuestionMark_b2 rc2 v0 v1 h) := by
  unfold X7_hasQuestionMark_b2
  have q0 : FL h h := FL.rf h
  repeat' with_reducible (first
    | exact fr_ret (by assumption)
    | exact fr_retZ (by assumption)
    | exact fr_retC (by assumption)
    | exact fr_thr (by assumption)
    | exact fr_none
    | exact fr_go (hr2 _ _ _) (by assumption)
    | refine fr_gI (fun _ => ?_)
    | refine fr_gR (fun _ => ?_)
    | refine fr_gN (fun _ => ?_)
    | refine fr_gAI (fun _ => ?_)
    | refine fr_gAL (fun _ => ?_)
    | refine fr_gAN (fun _ => ?_)
    | refine fr_kif ?_ ?_
    | refine fr_nul ?_ (fun _ => ?_)
    | refine fr_may (fun _ => ?_)
    | refine fr_kdv ?_
    | refine fr_pI (by assumption) (by decide) (fun _ _ => ?_)
    | refine fr_pR (by assumption) (fun _ _ => ?_)
    | refine fr_pAI (by assumption) (by decide) (fun _ _ => ?_)
    | refine fr_pAZ (by assumption) (by decide) (fun _ _ => ?_)
    | refine fr_pAL (by assumption) (fun _ _ => ?_)
    | refine fr_pAN (by assumption) (fun _ _ => ?_)
    | refine fr_nw (by assumption) (fun _ _ _ => ?_)
    | refine fr_nwM (by assumption) (fun _ _ _ => ?_)
    | refine fr_callV (hr2 _ _ _) (by assumption) (fun _ _ _ => ?_)
    | refine fr_bind (hr2 _ _ _) (by assumption) (fun _ _ _ => ?_)
    | refine fr_binI (hr2 _ _ _) (by assumption) (fun _ _ _ => ?_))
theorem ro_X7_hasQuestionMark_b2 (rc2 : Nat → Int32 → KH → KO Int32) (hr2 : ∀ (u0 : Nat) (u1 : Int32) (u2 : KH), RO u2 (rc2 u0 u1 u2)) (v0 : Nat) (v1 : Int32) (h : KH) : RO h (X7_hasQuestionMark_b2 rc2 v0 v1 h) := by
  unfold X7_hasQuestionMark_b2
  repeat' with_reducible (first
    | exact ro_ret
    | exact ro_retZ
    | exact ro_retC
    | exact ro_thr
    | exact ro_none
    | exact hr2 _ _ _
    | refine ro_gI (fun _ => ?_)
    | refine ro_gR (fun _ => ?_)
    | refine ro_gN (fun _ => ?_)
    | refine ro_gAI (fun _ => ?_)
    | refine ro_gAL (fun _ => ?_)
    | refine ro_gAN (fun _ => ?_)
    | refine ro_kif ?_ ?_
    | refine ro_nul ?_ (fun _ => ?_)
    | refine ro_may (fun _ => ?_)
    | refine ro_kdv ?_
    | refine ro_callV (hr2 _ _ _) (fun _ => ?_)
    | refine ro_bind (hr2 _ _ _) (fun _ => ?_)
    | refine ro_binI (hr2 _ _ _) (fun _ => ?_))
theorem fr_X7_hasQuestionMark_L2  : ∀ (m : Nat) (u0 : Nat) (u1 : Int32) (u2 : KH), FR u2 (X7_hasQuestionMark_L2  m u0 u1 u2) := by
  intro m
  induction m with
  | zero => intro u0 u1 u2; exact fr_none
  | succ m ih => intro u0 u1 u2; exact fr_X7_hasQuestionMark_b2 (X7_hasQuestionMark_L2  m) ih u0 u1 u2
theorem ro_X7_hasQuestionMark_L2  : ∀ (m : Nat) (u0 : Nat) (u1 : Int32) (u2 : KH), RO u2 (X7_hasQuestionMark_L2  m u0 u1 u2) := by
  intro m
  induction m with
  | zero => intro u0 u1 u2; exact ro_none
  | succ m ih => intro u0 u1 u2; exact ro_X7_hasQuestionMark_b2 (X7_hasQuestionMark_L2  m) ih u0 u1 u2
theorem fr_f_X7_hasQuestionMark  (p0 : Nat) (h : KH) : FR h (f_X7_hasQuestionMark p0 h) := by
  unfold f_X7_hasQuestionMark
  have q0 : FL h h := FL.rf h
  repeat' with_reducible (first
    | exact fr_ret (by assumption)
    | exact fr_retZ (by assumption)
    | exact fr_retC (by assumption)
    | exact fr_thr (by assumption)
    | exact fr_none
    | exact fr_go (fr_X7_hasQuestionMark_L2 _ _ _ _) (by assumption)
    | refine fr_gI (fun _ => ?_)
    | refine fr_gR (fun _ => ?_)
    | refine fr_gN (fun _ => ?_)
    | refine fr_gAI (fun _ => ?_)
    | refine fr_gAL (fun _ => ?_)
    | refine fr_gAN (fun _ => ?_)
    | refine fr_kif ?_ ?_
    | refine fr_nul ?_ (fun _ => ?_)
    | refine fr_may (fun _ => ?_)
    | refine fr_kdv ?_
    | refine fr_pI (by assumption) (by decide) (fun _ _ => ?_)
    | refine fr_pR (by assumption) (fun _ _ => ?_)
    | refine fr_pAI (by assumption) (by decide) (fun _ _ => ?_)
    | refine fr_pAZ (by assumption) (by decide) (fun _ _ => ?_)
    | refine fr_pAL (by assumption) (fun _ _ => ?_)
    | refine fr_pAN (by assumption) (fun _ _ => ?_)
    | refine fr_nw (by assumption) (fun _ _ _ => ?_)
    | refine fr_nwM (by assumption) (fun _ _ _ => ?_)
    | refine fr_callV (fr_X7_hasQuestionMark_L2 _ _ _ _) (by assumption) (fun _ _ _ => ?_)
    | refine fr_bind (fr_X7_hasQuestionMark_L2 _ _ _ _) (by assumption) (fun _ _ _ => ?_)
    | refine fr_binI (fr_X7_hasQuestionMark_L2 _ _ _ _) (by assumption) (fun _ _ _ => ?_))
theorem ro_f_X7_hasQuestionMark  (p0 : Nat) (h : KH) : RO h (f_X7_hasQuestionMark p0 h) := by
  unfold f_X7_hasQuestionMark
  repeat' with_reducible (first
    | exact ro_ret
    | exact ro_retZ
    | exact ro_retC
    | exact ro_thr
    | exact ro_none
    | exact ro_X7_hasQuestionMark_L2 _ _ _ _
    | refine ro_gI (fun _ => ?_)
    | refine ro_gR (fun _ => ?_)
    | refine ro_gN (fun _ => ?_)
    | refine ro_gAI (fun _ => ?_)
    | refine ro_gAL (fun _ => ?_)
    | refine ro_gAN (fun _ => ?_)
    | refine ro_kif ?_ ?_
    | refine ro_nul ?_ (fun _ => ?_)
    | refine ro_may (fun _ => ?_)
    | refine ro_kdv ?_
    | refine ro_callV (ro_X7_hasQuestionMark_L2 _ _ _ _) (fun _ => ?_)
    | refine ro_bind (ro_X7_hasQuestionMark_L2 _ _ _ _) (fun _ => ?_)
    | refine ro_binI (ro_X7_hasQuestionMark_L2 _ _ _ _) (fun _ => ?_))
theorem fr_X7_equalsText_b15 (rc15 : Nat → Nat → Int32 → KH → KO Int32) (hr15 : ∀ (u0 : Nat) (u1 : Nat) (u2 : Int32) (u3 : KH), FR u3 (rc15 u0 u1 u2 u3)) (v0 : Nat) (v1 : Nat) (v2 : Int32) (h : KH) : FR h (X7_equalsText_b15 rc15 v0 v1 v2 h) := by
  unfold X7_equalsText_b15
  have q0 : FL h h := FL.rf h
  repeat' with_reducible (first
    | exact fr_ret (by assumption)
    | exact fr_retZ (by assumption)
    | exact fr_retC (by assumption)
    | exact fr_thr (by assumption)
    | exact fr_none
    | exact fr_go (hr15 _ _ _ _) (by assumption)
    | refine fr_gI (fun _ => ?_)
    | refine fr_gR (fun _ => ?_)
    | refine fr_gN (fun _ => ?_)
    | refine fr_gAI (fun _ => ?_)
    | refine fr_gAL (fun _ => ?_)
    | refine fr_gAN (fun _ => ?_)
    | refine fr_kif ?_ ?_
    | refine fr_nul ?_ (fun _ => ?_)
    | refine fr_may (fun _ => ?_)
    | refine fr_kdv ?_
    | refine fr_pI (by assumption) (by decide) (fun _ _ => ?_)
    | refine fr_pR (by assumption) (fun _ _ => ?_)
    | refine fr_pAI (by assumption) (by decide) (fun _ _ => ?_)
    | refine fr_pAZ (by assumption) (by decide) (fun _ _ => ?_)
    | refine fr_pAL (by assumption) (fun _ _ => ?_)
    | refine fr_pAN (by assumption) (fun _ _ => ?_)
    | refine fr_nw (by assumption) (fun _ _ _ => ?_)
    | refine fr_nwM (by assumption) (fun _ _ _ => ?_)
    | refine fr_callV (hr15 _ _ _ _) (by assumption) (fun _ _ _ => ?_)
    | refine fr_bind (hr15 _ _ _ _) (by assumption) (fun _ _ _ => ?_)
    | refine fr_binI (hr15 _ _ _ _) (by assumption) (fun _ _ _ => ?_))
theorem ro_X7_equalsText_b15 (rc15 : Nat → Nat → Int32 → KH → KO Int32) (hr15 : ∀ (u0 : Nat) (u1 : Nat) (u2 : Int32) (u3 : KH), RO u3 (rc15 u0 u1 u2 u3)) (v0 : Nat) (v1 : Nat) (v2 : Int32) (h : KH) : RO h (X7_equalsText_b15 rc15 v0 v1 v2 h) := by
  unfold X7_equalsText_b15
  repeat' with_reducible (first
    | exact ro_ret
    | exact ro_retZ
    | exact ro_retC
    | exact ro_thr
    | exact ro_none
    | exact hr15 _ _ _ _
    | refine ro_gI (fun _ => ?_)
    | refine ro_gR (fun _ => ?_)
    | refine ro_gN (fun _ => ?_)
    | refine ro_gAI (fun _ => ?_)
    | refine ro_gAL (fun _ => ?_)
    | refine ro_gAN (fun _ => ?_)
    | refine ro_kif ?_ ?_
    | refine ro_nul ?_ (fun _ => ?_)
    | refine ro_may (fun _ => ?_)
    | refine ro_kdv ?_
    | refine ro_callV (hr15 _ _ _ _) (fun _ => ?_)
    | refine ro_bind (hr15 _ _ _ _) (fun _ => ?_)
    | refine ro_binI (hr15 _ _ _ _) (fun _ => ?_))
theorem fr_X7_equalsText_L15  : ∀ (m : Nat) (u0 : Nat) (u1 : Nat) (u2 : Int32) (u3 : KH), FR u3 (X7_equalsText_L15  m u0 u1 u2 u3) := by
  intro m
  induction m with
  | zero => intro u0 u1 u2 u3; exact fr_none
  | succ m ih => intro u0 u1 u2 u3; exact fr_X7_equalsText_b15 (X7_equalsText_L15  m) ih u0 u1 u2 u3
theorem ro_X7_equalsText_L15  : ∀ (m : Nat) (u0 : Nat) (u1 : Nat) (u2 : Int32) (u3 : KH), RO u3 (X7_equalsText_L15  m u0 u1 u2 u3) := by
  intro m
  induction m with
  | zero => intro u0 u1 u2 u3; exact ro_none
  | succ m ih => intro u0 u1 u2 u3; exact ro_X7_equalsText_b15 (X7_equalsText_L15  m) ih u0 u1 u2 u3
theorem fr_f_X7_equalsText  (p0 : Nat) (p1 : Nat) (h : KH) : FR h (f_X7_equalsText p0 p1 h) := by
  unfold f_X7_equalsText
  have q0 : FL h h := FL.rf h
  repeat' with_reducible (first
    | exact fr_ret (by assumption)
    | exact fr_retZ (by assumption)
    | exact fr_retC (by assumption)
    | exact fr_thr (by assumption)
    | exact fr_none
    | exact fr_go (fr_X7_equalsText_L15 _ _ _ _ _) (by assumption)
    | refine fr_gI (fun _ => ?_)
    | refine fr_gR (fun _ => ?_)
    | refine fr_gN (fun _ => ?_)
    | refine fr_gAI (fun _ => ?_)
    | refine fr_gAL (fun _ => ?_)
    | refine fr_gAN (fun _ => ?_)
    | refine fr_kif ?_ ?_
    | refine fr_nul ?_ (fun _ => ?_)
    | refine fr_may (fun _ => ?_)
    | refine fr_kdv ?_
    | refine fr_pI (by assumption) (by decide) (fun _ _ => ?_)
    | refine fr_pR (by assumption) (fun _ _ => ?_)
    | refine fr_pAI (by assumption) (by decide) (fun _ _ => ?_)
    | refine fr_pAZ (by assumption) (by decide) (fun _ _ => ?_)
    | refine fr_pAL (by assumption) (fun _ _ => ?_)
    | refine fr_pAN (by assumption) (fun _ _ => ?_)
    | refine fr_nw (by assumption) (fun _ _ _ => ?_)
    | refine fr_nwM (by assumption) (fun _ _ _ => ?_)
    | refine fr_callV (fr_X7_equalsText_L15 _ _ _ _ _) (by assumption) (fun _ _ _ => ?_)
    | refine fr_bind (fr_X7_equalsText_L15 _ _ _ _ _) (by assumption) (fun _ _ _ => ?_)
    | refine fr_binI (fr_X7_equalsText_L15 _ _ _ _ _) (by assumption) (fun _ _ _ => ?_))
theorem ro_f_X7_equalsText  (p0 : Nat) (p1 : Nat) (h : KH) : RO h (f_X7_equalsText p0 p1 h) := by
  unfold f_X7_equalsText
  repeat' with_reducible (first
    | exact ro_ret
    | exact ro_retZ
    | exact ro_retC
    | exact ro_thr
    | exact ro_none
    | exact ro_X7_equalsText_L15 _ _ _ _ _
    | refine ro_gI (fun _ => ?_)
    | refine ro_gR (fun _ => ?_)
    | refine ro_gN (fun _ => ?_)
    | refine ro_gAI (fun _ => ?_)
    | refine ro_gAL (fun _ => ?_)
    | refine ro_gAN (fun _ => ?_)
    | refine ro_kif ?_ ?_
    | refine ro_nul ?_ (fun _ => ?_)
    | refine ro_may (fun _ => ?_)
    | refine ro_kdv ?_
    | refine ro_callV (ro_X7_equalsText_L15 _ _ _ _ _) (fun _ => ?_)
    | refine ro_bind (ro_X7_equalsText_L15 _ _ _ _ _) (fun _ => ?_)
    | refine ro_binI (ro_X7_equalsText_L15 _ _ _ _ _) (fun _ => ?_))
theorem fr_X9_isTaken_b2 (rc2 : Nat → Nat → Int32 → KH → KO Int32) (hr2 : ∀ (u0 : Nat) (u1 : Nat) (u2 : Int32) (u3 : KH), FR u3 (rc2 u0 u1 u2 u3)) (v0 : Nat) (v1 : Nat) (v2 : Int32) (h : KH) : FR h (X9_isTaken_b2 rc2 v0 v1 v2 h) := by
  unfold X9_isTaken_b2
  have q0 : FL h h := FL.rf h
  repeat' with_reducible (first
    | exact fr_ret (by assumption)
    | exact fr_retZ (by assumption)
    | exact fr_retC (by assumption)
    | exact fr_thr (by assumption)
    | exact fr_none
    | exact fr_go (hr2 _ _ _ _) (by assumption)
    | exact fr_go (fr_f_X7_equalsText _ _ _) (by assumption)
    | refine fr_gI (fun _ => ?_)
    | refine fr_gR (fun _ => ?_)
    | refine fr_gN (fun _ => ?_)
    | refine fr_gAI (fun _ => ?_)
    | refine fr_gAL (fun _ => ?_)
    | refine fr_gAN (fun _ => ?_)
    | refine fr_kif ?_ ?_
    | refine fr_nul ?_ (fun _ => ?_)
    | refine fr_may (fun _ => ?_)
    | refine fr_kdv ?_
    | refine fr_pI (by assumption) (by decide) (fun _ _ => ?_)
    | refine fr_pR (by assumption) (fun _ _ => ?_)
    | refine fr_pAI (by assumption) (by decide) (fun _ _ => ?_)
    | refine fr_pAZ (by assumption) (by decide) (fun _ _ => ?_)
    | refine fr_pAL (by assumption) (fun _ _ => ?_)
    | refine fr_pAN (by assumption) (fun _ _ => ?_)
    | refine fr_nw (by assumption) (fun _ _ _ => ?_)
    | refine fr_nwM (by assumption) (fun _ _ _ => ?_)
    | refine fr_callV (hr2 _ _ _ _) (by assumption) (fun _ _ _ => ?_)
    | refine fr_bind (hr2 _ _ _ _) (by assumption) (fun _ _ _ => ?_)
    | refine fr_binI (hr2 _ _ _ _) (by assumption) (fun _ _ _ => ?_)
    | refine fr_callV (fr_f_X7_equalsText _ _ _) (by assumption) (fun _ _ _ => ?_)
    | refine fr_bind (fr_f_X7_equalsText _ _ _) (by assumption) (fun _ _ _ => ?_)
    | refine fr_binI (fr_f_X7_equalsText _ _ _) (by assumption) (fun _ _ _ => ?_))
theorem ro_X9_isTaken_b2 (rc2 : Nat → Nat → Int32 → KH → KO Int32) (hr2 : ∀ (u0 : Nat) (u1 : Nat) (u2 : Int32) (u3 : KH), RO u3 (rc2 u0 u1 u2 u3)) (v0 : Nat) (v1 : Nat) (v2 : Int32) (h : KH) : RO h (X9_isTaken_b2 rc2 v0 v1 v2 h) := by
  unfold X9_isTaken_b2
  repeat' with_reducible (first
    | exact ro_ret
    | exact ro_retZ
    | exact ro_retC
    | exact ro_thr
    | exact ro_none
    | exact hr2 _ _ _ _
    | exact ro_f_X7_equalsText _ _ _
    | refine ro_gI (fun _ => ?_)
    | refine ro_gR (fun _ => ?_)
    | refine ro_gN (fun _ => ?_)
    | refine ro_gAI (fun _ => ?_)
    | refine ro_gAL (fun _ => ?_)
    | refine ro_gAN (fun _ => ?_)
    | refine ro_kif ?_ ?_
    | refine ro_nul ?_ (fun _ => ?_)
    | refine ro_may (fun _ => ?_)
    | refine ro_kdv ?_
    | refine ro_callV (hr2 _ _ _ _) (fun _ => ?_)
    | refine ro_bind (hr2 _ _ _ _) (fun _ => ?_)
    | refine ro_binI (hr2 _ _ _ _) (fun _ => ?_)
    | refine ro_callV (ro_f_X7_equalsText _ _ _) (fun _ => ?_)
    | refine ro_bind (ro_f_X7_equalsText _ _ _) (fun _ => ?_)
    | refine ro_binI (ro_f_X7_equalsText _ _ _) (fun _ => ?_))
theorem fr_X9_isTaken_L2  : ∀ (m : Nat) (u0 : Nat) (u1 : Nat) (u2 : Int32) (u3 : KH), FR u3 (X9_isTaken_L2  m u0 u1 u2 u3) := by
  intro m
  induction m with
  | zero => intro u0 u1 u2 u3; exact fr_none
  | succ m ih => intro u0 u1 u2 u3; exact fr_X9_isTaken_b2 (X9_isTaken_L2  m) ih u0 u1 u2 u3
theorem ro_X9_isTaken_L2  : ∀ (m : Nat) (u0 : Nat) (u1 : Nat) (u2 : Int32) (u3 : KH), RO u3 (X9_isTaken_L2  m u0 u1 u2 u3) := by
  intro m
  induction m with
  | zero => intro u0 u1 u2 u3; exact ro_none
  | succ m ih => intro u0 u1 u2 u3; exact ro_X9_isTaken_b2 (X9_isTaken_L2  m) ih u0 u1 u2 u3
theorem fr_f_X9_isTaken  (p0 : Nat) (p1 : Nat) (h : KH) : FR h (f_X9_isTaken p0 p1 h) := by
  unfold f_X9_isTaken
  have q0 : FL h h := FL.rf h
  repeat' with_reducible (first
    | exact fr_ret (by assumption)
    | exact fr_retZ (by assumption)
    | exact fr_retC (by assumption)
    | exact fr_thr (by assumption)
    | exact fr_none
    | exact fr_go (fr_X9_isTaken_L2 _ _ _ _ _) (by assumption)
    | refine fr_gI (fun _ => ?_)
    | refine fr_gR (fun _ => ?_)
    | refine fr_gN (fun _ => ?_)
    | refine fr_gAI (fun _ => ?_)
    | refine fr_gAL (fun _ => ?_)
    | refine fr_gAN (fun _ => ?_)
    | refine fr_kif ?_ ?_
    | refine fr_nul ?_ (fun _ => ?_)
    | refine fr_may (fun _ => ?_)
    | refine fr_kdv ?_
    | refine fr_pI (by assumption) (by decide) (fun _ _ => ?_)
    | refine fr_pR (by assumption) (fun _ _ => ?_)
    | refine fr_pAI (by assumption) (by decide) (fun _ _ => ?_)
    | refine fr_pAZ (by assumption) (by decide) (fun _ _ => ?_)
    | refine fr_pAL (by assumption) (fun _ _ => ?_)
    | refine fr_pAN (by assumption) (fun _ _ => ?_)
    | refine fr_nw (by assumption) (fun _ _ _ => ?_)
    | refine fr_nwM (by assumption) (fun _ _ _ => ?_)
    | refine fr_callV (fr_X9_isTaken_L2 _ _ _ _ _) (by assumption) (fun _ _ _ => ?_)
    | refine fr_bind (fr_X9_isTaken_L2 _ _ _ _ _) (by assumption) (fun _ _ _ => ?_)
    | refine fr_binI (fr_X9_isTaken_L2 _ _ _ _ _) (by assumption) (fun _ _ _ => ?_))
theorem ro_f_X9_isTaken  (p0 : Nat) (p1 : Nat) (h : KH) : RO h (f_X9_isTaken p0 p1 h) := by
  unfold f_X9_isTaken
  repeat' with_reducible (first
    | exact ro_ret
    | exact ro_retZ
    | exact ro_retC
    | exact ro_thr
    | exact ro_none
    | exact ro_X9_isTaken_L2 _ _ _ _ _
    | refine ro_gI (fun _ => ?_)
    | refine ro_gR (fun _ => ?_)
    | refine ro_gN (fun _ => ?_)
    | refine ro_gAI (fun _ => ?_)
    | refine ro_gAL (fun _ => ?_)
    | refine ro_gAN (fun _ => ?_)
    | refine ro_kif ?_ ?_
    | refine ro_nul ?_ (fun _ => ?_)
    | refine ro_may (fun _ => ?_)
    | refine ro_kdv ?_
    | refine ro_callV (ro_X9_isTaken_L2 _ _ _ _ _) (fun _ => ?_)
    | refine ro_bind (ro_X9_isTaken_L2 _ _ _ _ _) (fun _ => ?_)
    | refine ro_binI (ro_X9_isTaken_L2 _ _ _ _ _) (fun _ => ?_))
theorem fr_X7_copy_b10 (rc10 : Nat → Nat → Int32 → KH → KO Nat) (hr10 : ∀ (u0 : Nat) (u1 : Nat) (u2 : Int32) (u3 : KH), FR u3 (rc10 u0 u1 u2 u3)) (v0 : Nat) (v1 : Nat) (v2 : Int32) (h : KH) : FR h (X7_copy_b10 rc10 v0 v1 v2 h) := by
  unfold X7_copy_b10
  have q0 : FL h h := FL.rf h
  repeat' with_reducible (first
    | exact fr_ret (by assumption)
    | exact fr_retZ (by assumption)
    | exact fr_retC (by assumption)
    | exact fr_thr (by assumption)
    | exact fr_none
    | exact fr_go (hr10 _ _ _ _) (by assumption)
    | refine fr_gI (fun _ => ?_)
    | refine fr_gR (fun _ => ?_)
    | refine fr_gN (fun _ => ?_)
    | refine fr_gAI (fun _ => ?_)
    | refine fr_gAL (fun _ => ?_)
    | refine fr_gAN (fun _ => ?_)
    | refine fr_kif ?_ ?_
    | refine fr_nul ?_ (fun _ => ?_)
    | refine fr_may (fun _ => ?_)
    | refine fr_kdv ?_
    | refine fr_pI (by assumption) (by decide) (fun _ _ => ?_)
    | refine fr_pR (by assumption) (fun _ _ => ?_)
    | refine fr_pAI (by assumption) (by decide) (fun _ _ => ?_)
    | refine fr_pAZ (by assumption) (by decide) (fun _ _ => ?_)
    | refine fr_pAL (by assumption) (fun _ _ => ?_)
    | refine fr_pAN (by assumption) (fun _ _ => ?_)
    | refine fr_nw (by assumption) (fun _ _ _ => ?_)
    | refine fr_nwM (by assumption) (fun _ _ _ => ?_)
    | refine fr_callV (hr10 _ _ _ _) (by assumption) (fun _ _ _ => ?_)
    | refine fr_bind (hr10 _ _ _ _) (by assumption) (fun _ _ _ => ?_)
    | refine fr_binI (hr10 _ _ _ _) (by assumption) (fun _ _ _ => ?_))
theorem fr_X7_copy_L10  : ∀ (m : Nat) (u0 : Nat) (u1 : Nat) (u2 : Int32) (u3 : KH), FR u3 (X7_copy_L10  m u0 u1 u2 u3) := by
  intro m
  induction m with
  | zero => intro u0 u1 u2 u3; exact fr_none
  | succ m ih => intro u0 u1 u2 u3; exact fr_X7_copy_b10 (X7_copy_L10  m) ih u0 u1 u2 u3
theorem fr_f_X7_copy  (p0 : Nat) (h : KH) : FR h (f_X7_copy p0 h) := by
  unfold f_X7_copy
  have q0 : FL h h := FL.rf h
  repeat' with_reducible (first
    | exact fr_ret (by assumption)
    | exact fr_retZ (by assumption)
    | exact fr_retC (by assumption)
    | exact fr_thr (by assumption)
    | exact fr_none
    | exact fr_go (fr_f_X7_init _ _) (by assumption)
    | exact fr_go (fr_X7_copy_L10 _ _ _ _ _) (by assumption)
    | refine fr_gI (fun _ => ?_)
    | refine fr_gR (fun _ => ?_)
    | refine fr_gN (fun _ => ?_)
    | refine fr_gAI (fun _ => ?_)
    | refine fr_gAL (fun _ => ?_)
    | refine fr_gAN (fun _ => ?_)
    | refine fr_kif ?_ ?_
    | refine fr_nul ?_ (fun _ => ?_)
    | refine fr_may (fun _ => ?_)
    | refine fr_kdv ?_
    | refine fr_pI (by assumption) (by decide) (fun _ _ => ?_)
    | refine fr_pR (by assumption) (fun _ _ => ?_)
    | refine fr_pAI (by assumption) (by decide) (fun _ _ => ?_)
    | refine fr_pAZ (by assumption) (by decide) (fun _ _ => ?_)
    | refine fr_pAL (by assumption) (fun _ _ => ?_)
    | refine fr_pAN (by assumption) (fun _ _ => ?_)
    | refine fr_nw (by assumption) (fun _ _ _ => ?_)
    | refine fr_nwM (by assumption) (fun _ _ _ => ?_)
    | refine fr_callV (fr_f_X7_init _ _) (by assumption) (fun _ _ _ => ?_)
    | refine fr_bind (fr_f_X7_init _ _) (by assumption) (fun _ _ _ => ?_)
    | refine fr_binI (fr_f_X7_init _ _) (by assumption) (fun _ _ _ => ?_)
    | refine fr_callV (fr_X7_copy_L10 _ _ _ _ _) (by assumption) (fun _ _ _ => ?_)
    | refine fr_bind (fr_X7_copy_L10 _ _ _ _ _) (by assumption) (fun _ _ _ => ?_)
    | refine fr_binI (fr_X7_copy_L10 _ _ _ _ _) (by assumption) (fun _ _ _ => ?_))
theorem fr_f_X1_init  (p0 : Nat) (p1 : Int32) (p2 : Int32) (p3 : Option Nat) (h : KH) : FR h (f_X1_init p0 p1 p2 p3 h) := by
  unfold f_X1_init
  have q0 : FL h h := FL.rf h
  repeat' with_reducible (first
    | exact fr_ret (by assumption)
    | exact fr_retZ (by assumption)
    | exact fr_retC (by assumption)
    | exact fr_thr (by assumption)
    | exact fr_none
    | refine fr_gI (fun _ => ?_)
    | refine fr_gR (fun _ => ?_)
    | refine fr_gN (fun _ => ?_)
    | refine fr_gAI (fun _ => ?_)
    | refine fr_gAL (fun _ => ?_)
    | refine fr_gAN (fun _ => ?_)
    | refine fr_kif ?_ ?_
    | refine fr_nul ?_ (fun _ => ?_)
    | refine fr_may (fun _ => ?_)
    | refine fr_kdv ?_
    | refine fr_pI (by assumption) (by decide) (fun _ _ => ?_)
    | refine fr_pR (by assumption) (fun _ _ => ?_)
    | refine fr_pAI (by assumption) (by decide) (fun _ _ => ?_)
    | refine fr_pAZ (by assumption) (by decide) (fun _ _ => ?_)
    | refine fr_pAL (by assumption) (fun _ _ => ?_)
    | refine fr_pAN (by assumption) (fun _ _ => ?_)
    | refine fr_nw (by assumption) (fun _ _ _ => ?_)
    | refine fr_nwM (by assumption) (fun _ _ _ => ?_))
theorem fr_f_X4_init  (p0 : Nat) (p1 : Int32) (p2 : Nat) (p3 : Int32) (p4 : Nat) (h : KH) : FR h (f_X4_init p0 p1 p2 p3 p4 h) := by
  unfold f_X4_init
  have q0 : FL h h := FL.rf h
  repeat' with_reducible (first
    | exact fr_ret (by assumption)
    | exact fr_retZ (by assumption)
    | exact fr_retC (by assumption)
    | exact fr_thr (by assumption)
    | exact fr_none
    | exact fr_go (fr_f_X3_init _ _) (by assumption)
    | refine fr_gI (fun _ => ?_)
    | refine fr_gR (fun _ => ?_)
    | refine fr_gN (fun _ => ?_)
    | refine fr_gAI (fun _ => ?_)
    | refine fr_gAL (fun _ => ?_)
    | refine fr_gAN (fun _ => ?_)
    | refine fr_kif ?_ ?_
    | refine fr_nul ?_ (fun _ => ?_)
    | refine fr_may (fun _ => ?_)
    | refine fr_kdv ?_
    | refine fr_pI (by assumption) (by decide) (fun _ _ => ?_)
    | refine fr_pR (by assumption) (fun _ _ => ?_)
    | refine fr_pAI (by assumption) (by decide) (fun _ _ => ?_)
    | refine fr_pAZ (by assumption) (by decide) (fun _ _ => ?_)
    | refine fr_pAL (by assumption) (fun _ _ => ?_)
    | refine fr_pAN (by assumption) (fun _ _ => ?_)
    | refine fr_nw (by assumption) (fun _ _ _ => ?_)
    | refine fr_nwM (by assumption) (fun _ _ _ => ?_)
    | refine fr_callV (fr_f_X3_init _ _) (by assumption) (fun _ _ _ => ?_)
    | refine fr_bind (fr_f_X3_init _ _) (by assumption) (fun _ _ _ => ?_)
    | refine fr_binI (fr_f_X3_init _ _) (by assumption) (fun _ _ _ => ?_))
theorem fr_X7_comesBefore_b87  (s0 : Int32) (h : KH) : FR h (X7_comesBefore_b87 s0 h) := by
  unfold X7_comesBefore_b87
  have q0 : FL h h := FL.rf h
  repeat' with_reducible (first
    | exact fr_ret (by assumption)
    | exact fr_retZ (by assumption)
    | exact fr_retC (by assumption)
    | exact fr_thr (by assumption)
    | exact fr_none
    | refine fr_gI (fun _ => ?_)
    | refine fr_gR (fun _ => ?_)
    | refine fr_gN (fun _ => ?_)
    | refine fr_gAI (fun _ => ?_)
    | refine fr_gAL (fun _ => ?_)
    | refine fr_gAN (fun _ => ?_)
    | refine fr_kif ?_ ?_
    | refine fr_nul ?_ (fun _ => ?_)
    | refine fr_may (fun _ => ?_)
    | refine fr_kdv ?_
    | refine fr_pI (by assumption) (by decide) (fun _ _ => ?_)
    | refine fr_pR (by assumption) (fun _ _ => ?_)
    | refine fr_pAI (by assumption) (by decide) (fun _ _ => ?_)
    | refine fr_pAZ (by assumption) (by decide) (fun _ _ => ?_)
    | refine fr_pAL (by assumption) (fun _ _ => ?_)
    | refine fr_pAN (by assumption) (fun _ _ => ?_)
    | refine fr_nw (by assumption) (fun _ _ _ => ?_)
    | refine fr_nwM (by assumption) (fun _ _ _ => ?_))
theorem ro_X7_comesBefore_b87  (s0 : Int32) (h : KH) : RO h (X7_comesBefore_b87 s0 h) := by
  unfold X7_comesBefore_b87
  repeat' with_reducible (first
    | exact ro_ret
    | exact ro_retZ
    | exact ro_retC
    | exact ro_thr
    | exact ro_none
    | refine ro_gI (fun _ => ?_)
    | refine ro_gR (fun _ => ?_)
    | refine ro_gN (fun _ => ?_)
    | refine ro_gAI (fun _ => ?_)
    | refine ro_gAL (fun _ => ?_)
    | refine ro_gAN (fun _ => ?_)
    | refine ro_kif ?_ ?_
    | refine ro_nul ?_ (fun _ => ?_)
    | refine ro_may (fun _ => ?_)
    | refine ro_kdv ?_)
theorem fr_X7_comesBefore_b64  (s0 : Int32) (h : KH) : FR h (X7_comesBefore_b64 s0 h) := by
  unfold X7_comesBefore_b64
  have q0 : FL h h := FL.rf h
  repeat' with_reducible (first
    | exact fr_ret (by assumption)
    | exact fr_retZ (by assumption)
    | exact fr_retC (by assumption)
    | exact fr_thr (by assumption)
    | exact fr_none
    | refine fr_gI (fun _ => ?_)
    | refine fr_gR (fun _ => ?_)
    | refine fr_gN (fun _ => ?_)
    | refine fr_gAI (fun _ => ?_)
    | refine fr_gAL (fun _ => ?_)
    | refine fr_gAN (fun _ => ?_)
    | refine fr_kif ?_ ?_
    | refine fr_nul ?_ (fun _ => ?_)
    | refine fr_may (fun _ => ?_)
    | refine fr_kdv ?_
    | refine fr_pI (by assumption) (by decide) (fun _ _ => ?_)
    | refine fr_pR (by assumption) (fun _ _ => ?_)
    | refine fr_pAI (by assumption) (by decide) (fun _ _ => ?_)
    | refine fr_pAZ (by assumption) (by decide) (fun _ _ => ?_)
    | refine fr_pAL (by assumption) (fun _ _ => ?_)
    | refine fr_pAN (by assumption) (fun _ _ => ?_)
    | refine fr_nw (by assumption) (fun _ _ _ => ?_)
    | refine fr_nwM (by assumption) (fun _ _ _ => ?_))
theorem ro_X7_comesBefore_b64  (s0 : Int32) (h : KH) : RO h (X7_comesBefore_b64 s0 h) := by
  unfold X7_comesBefore_b64
  repeat' with_reducible (first
    | exact ro_ret
    | exact ro_retZ
    | exact ro_retC
    | exact ro_thr
    | exact ro_none
    | refine ro_gI (fun _ => ?_)
    | refine ro_gR (fun _ => ?_)
    | refine ro_gN (fun _ => ?_)
    | refine ro_gAI (fun _ => ?_)
    | refine ro_gAL (fun _ => ?_)
    | refine ro_gAN (fun _ => ?_)
    | refine ro_kif ?_ ?_
    | refine ro_nul ?_ (fun _ => ?_)
    | refine ro_may (fun _ => ?_)
    | refine ro_kdv ?_)
theorem fr_X7_comesBefore_b14 (rc14 : Nat → Nat → Int32 → Int32 → KH → KO Int32) (hr14 : ∀ (u0 : Nat) (u1 : Nat) (u2 : Int32) (u3 : Int32) (u4 : KH), FR u4 (rc14 u0 u1 u2 u3 u4)) (v0 : Nat) (v1 : Nat) (v2 : Int32) (v3 : Int32) (h : KH) : FR h (X7_comesBefore_b14 rc14 v0 v1 v2 v3 h) := by
  unfold X7_comesBefore_b14
  have q0 : FL h h := FL.rf h
  repeat' with_reducible (first
    | exact fr_ret (by assumption)
    | exact fr_retZ (by assumption)
    | exact fr_retC (by assumption)
    | exact fr_thr (by assumption)
    | exact fr_none
    | exact fr_go (hr14 _ _ _ _ _) (by assumption)
    | exact fr_go (fr_X7_comesBefore_b87 _ _) (by assumption)
    | exact fr_go (fr_X7_comesBefore_b64 _ _) (by assumption)
    | refine fr_gI (fun _ => ?_)
    | refine fr_gR (fun _ => ?_)
    | refine fr_gN (fun _ => ?_)
    | refine fr_gAI (fun _ => ?_)
    | refine fr_gAL (fun _ => ?_)
    | refine fr_gAN (fun _ => ?_)
    | refine fr_kif ?_ ?_
    | refine fr_nul ?_ (fun _ => ?_)
    | refine fr_may (fun _ => ?_)
    | refine fr_kdv ?_
    | refine fr_pI (by assumption) (by decide) (fun _ _ => ?_)
    | refine fr_pR (by assumption) (fun _ _ => ?_)
    | refine fr_pAI (by assumption) (by decide) (fun _ _ => ?_)
    | refine fr_pAZ (by assumption) (by decide) (fun _ _ => ?_)
    | refine fr_pAL (by assumption) (fun _ _ => ?_)
    | refine fr_pAN (by assumption) (fun _ _ => ?_)
    | refine fr_nw (by assumption) (fun _ _ _ => ?_)
    | refine fr_nwM (by assumption) (fun _ _ _ => ?_)
    | refine fr_callV (hr14 _ _ _ _ _) (by assumption) (fun _ _ _ => ?_)
    | refine fr_bind (hr14 _ _ _ _ _) (by assumption) (fun _ _ _ => ?_)
    | refine fr_binI (hr14 _ _ _ _ _) (by assumption) (fun _ _ _ => ?_)
    | refine fr_callV (fr_X7_comesBefore_b87 _ _) (by assumption) (fun _ _ _ => ?_)
    | refine fr_bind (fr_X7_comesBefore_b87 _ _) (by assumption) (fun _ _ _ => ?_)
    | refine fr_binI (fr_X7_comesBefore_b87 _ _) (by assumption) (fun _ _ _ => ?_)
    | refine fr_callV (fr_X7_comesBefore_b64 _ _) (by assumption) (fun _ _ _ => ?_)
    | refine fr_bind (fr_X7_comesBefore_b64 _ _) (by assumption) (fun _ _ _ => ?_)
    | refine fr_binI (fr_X7_comesBefore_b64 _ _) (by assumption) (fun _ _ _ => ?_))
theorem ro_X7_comesBefore_b14 (rc14 : Nat → Nat → Int32 → Int32 → KH → KO Int32) (hr14 : ∀ (u0 : Nat) (u1 : Nat) (u2 : Int32) (u3 : Int32) (u4 : KH), RO u4 (rc14 u0 u1 u2 u3 u4)) (v0 : Nat) (v1 : Nat) (v2 : Int32) (v3 : Int32) (h : KH) : RO h (X7_comesBefore_b14 rc14 v0 v1 v2 v3 h) := by
  unfold X7_comesBefore_b14
  repeat' with_reducible (first
    | exact ro_ret
    | exact ro_retZ
    | exact ro_retC
    | exact ro_thr
    | exact ro_none
    | exact hr14 _ _ _ _ _
    | exact ro_X7_comesBefore_b87 _ _
    | exact ro_X7_comesBefore_b64 _ _
    | refine ro_gI (fun _ => ?_)
    | refine ro_gR (fun _ => ?_)
    | refine ro_gN (fun _ => ?_)
    | refine ro_gAI (fun _ => ?_)
    | refine ro_gAL (fun _ => ?_)
    | refine ro_gAN (fun _ => ?_)
    | refine ro_kif ?_ ?_
    | refine ro_nul ?_ (fun _ => ?_)
    | refine ro_may (fun _ => ?_)
    | refine ro_kdv ?_
    | refine ro_callV (hr14 _ _ _ _ _) (fun _ => ?_)
    | refine ro_bind (hr14 _ _ _ _ _) (fun _ => ?_)
    | refine ro_binI (hr14 _ _ _ _ _) (fun _ => ?_)
    | refine ro_callV (ro_X7_comesBefore_b87 _ _) (fun _ => ?_)
    | refine ro_bind (ro_X7_comesBefore_b87 _ _) (fun _ => ?_)
    | refine ro_binI (ro_X7_comesBefore_b87 _ _) (fun _ => ?_)
    | refine ro_callV (ro_X7_comesBefore_b64 _ _) (fun _ => ?_)
    | refine ro_bind (ro_X7_comesBefore_b64 _ _) (fun _ => ?_)
    | refine ro_binI (ro_X7_comesBefore_b64 _ _) (fun _ => ?_))
theorem fr_X7_comesBefore_L14  : ∀ (m : Nat) (u0 : Nat) (u1 : Nat) (u2 : Int32) (u3 : Int32) (u4 : KH), FR u4 (X7_comesBefore_L14  m u0 u1 u2 u3 u4) := by
  intro m
  induction m with
  | zero => intro u0 u1 u2 u3 u4; exact fr_none
  | succ m ih => intro u0 u1 u2 u3 u4; exact fr_X7_comesBefore_b14 (X7_comesBefore_L14  m) ih u0 u1 u2 u3 u4
theorem ro_X7_comesBefore_L14  : ∀ (m : Nat) (u0 : Nat) (u1 : Nat) (u2 : Int32) (u3 : Int32) (u4 : KH), RO u4 (X7_comesBefore_L14  m u0 u1 u2 u3 u4) := by
  intro m
  induction m with
  | zero => intro u0 u1 u2 u3 u4; exact ro_none
  | succ m ih => intro u0 u1 u2 u3 u4; exact ro_X7_comesBefore_b14 (X7_comesBefore_L14  m) ih u0 u1 u2 u3 u4
theorem fr_f_X7_comesBefore  (p0 : Nat) (p1 : Nat) (h : KH) : FR h (f_X7_comesBefore p0 p1 h) := by
  unfold f_X7_comesBefore
  have q0 : FL h h := FL.rf h
  repeat' with_reducible (first
    | exact fr_ret (by assumption)
    | exact fr_retZ (by assumption)
    | exact fr_retC (by assumption)
    | exact fr_thr (by assumption)
    | exact fr_none
    | exact fr_go (fr_X7_comesBefore_L14 _ _ _ _ _ _) (by assumption)
    | refine fr_gI (fun _ => ?_)
    | refine fr_gR (fun _ => ?_)
    | refine fr_gN (fun _ => ?_)
    | refine fr_gAI (fun _ => ?_)
    | refine fr_gAL (fun _ => ?_)
    | refine fr_gAN (fun _ => ?_)
    | refine fr_kif ?_ ?_
    | refine fr_nul ?_ (fun _ => ?_)
    | refine fr_may (fun _ => ?_)
    | refine fr_kdv ?_
    | refine fr_pI (by assumption) (by decide) (fun _ _ => ?_)
    | refine fr_pR (by assumption) (fun _ _ => ?_)
    | refine fr_pAI (by assumption) (by decide) (fun _ _ => ?_)
    | refine fr_pAZ (by assumption) (by decide) (fun _ _ => ?_)
    | refine fr_pAL (by assumption) (fun _ _ => ?_)
    | refine fr_pAN (by assumption) (fun _ _ => ?_)
    | refine fr_nw (by assumption) (fun _ _ _ => ?_)
    | refine fr_nwM (by assumption) (fun _ _ _ => ?_)
    | refine fr_callV (fr_X7_comesBefore_L14 _ _ _ _ _ _) (by assumption) (fun _ _ _ => ?_)
    | refine fr_bind (fr_X7_comesBefore_L14 _ _ _ _ _ _) (by assumption) (fun _ _ _ => ?_)
    | refine fr_binI (fr_X7_comesBefore_L14 _ _ _ _ _ _) (by assumption) (fun _ _ _ => ?_))
theorem ro_f_X7_comesBefore  (p0 : Nat) (p1 : Nat) (h : KH) : RO h (f_X7_comesBefore p0 p1 h) := by
  unfold f_X7_comesBefore
  repeat' with_reducible (first
    | exact ro_ret
    | exact ro_retZ
    | exact ro_retC
    | exact ro_thr
    | exact ro_none
    | exact ro_X7_comesBefore_L14 _ _ _ _ _ _
    | refine ro_gI (fun _ => ?_)
    | refine ro_gR (fun _ => ?_)
    | refine ro_gN (fun _ => ?_)
    | refine ro_gAI (fun _ => ?_)
    | refine ro_gAL (fun _ => ?_)
    | refine ro_gAN (fun _ => ?_)
    | refine ro_kif ?_ ?_
    | refine ro_nul ?_ (fun _ => ?_)
    | refine ro_may (fun _ => ?_)
    | refine ro_kdv ?_
    | refine ro_callV (ro_X7_comesBefore_L14 _ _ _ _ _ _) (fun _ => ?_)
    | refine ro_bind (ro_X7_comesBefore_L14 _ _ _ _ _ _) (fun _ => ?_)
    | refine ro_binI (ro_X7_comesBefore_L14 _ _ _ _ _ _) (fun _ => ?_))
theorem fr_X9_putInOrder_b50  (v0 : Nat) (v1 : Nat) (v2 : Int32) (h : KH) : FR h (X9_putInOrder_b50 v0 v1 v2 h) := by
  unfold X9_putInOrder_b50
  have q0 : FL h h := FL.rf h
  repeat' with_reducible (first
    | exact fr_ret (by assumption)
    | exact fr_retZ (by assumption)
    | exact fr_retC (by assumption)
    | exact fr_thr (by assumption)
    | exact fr_none
    | refine fr_gI (fun _ => ?_)
    | refine fr_gR (fun _ => ?_)
    | refine fr_gN (fun _ => ?_)
    | refine fr_gAI (fun _ => ?_)
    | refine fr_gAL (fun _ => ?_)
    | refine fr_gAN (fun _ => ?_)
    | refine fr_kif ?_ ?_
    | refine fr_nul ?_ (fun _ => ?_)
    | refine fr_may (fun _ => ?_)
    | refine fr_kdv ?_
    | refine fr_pI (by assumption) (by decide) (fun _ _ => ?_)
    | refine fr_pR (by assumption) (fun _ _ => ?_)
    | refine fr_pAI (by assumption) (by decide) (fun _ _ => ?_)
    | refine fr_pAZ (by assumption) (by decide) (fun _ _ => ?_)
    | refine fr_pAL (by assumption) (fun _ _ => ?_)
    | refine fr_pAN (by assumption) (fun _ _ => ?_)
    | refine fr_nw (by assumption) (fun _ _ _ => ?_)
    | refine fr_nwM (by assumption) (fun _ _ _ => ?_))
theorem fr_X9_putInOrder_b5 (rc5 : Nat → Nat → Int32 → KH → KO Unit) (hr5 : ∀ (u0 : Nat) (u1 : Nat) (u2 : Int32) (u3 : KH), FR u3 (rc5 u0 u1 u2 u3)) (v0 : Nat) (v1 : Nat) (v2 : Int32) (h : KH) : FR h (X9_putInOrder_b5 rc5 v0 v1 v2 h) := by
  unfold X9_putInOrder_b5
  have q0 : FL h h := FL.rf h
  repeat' with_reducible (first
    | exact fr_ret (by assumption)
    | exact fr_retZ (by assumption)
    | exact fr_retC (by assumption)
    | exact fr_thr (by assumption)
    | exact fr_none
    | exact fr_go (hr5 _ _ _ _) (by assumption)
    | exact fr_go (fr_X9_putInOrder_b50 _ _ _ _) (by assumption)
    | exact fr_go (fr_f_X7_comesBefore _ _ _) (by assumption)
    | refine fr_gI (fun _ => ?_)
    | refine fr_gR (fun _ => ?_)
    | refine fr_gN (fun _ => ?_)
    | refine fr_gAI (fun _ => ?_)
    | refine fr_gAL (fun _ => ?_)
    | refine fr_gAN (fun _ => ?_)
    | refine fr_kif ?_ ?_
    | refine fr_nul ?_ (fun _ => ?_)
    | refine fr_may (fun _ => ?_)
    | refine fr_kdv ?_
    | refine fr_pI (by assumption) (by decide) (fun _ _ => ?_)
    | refine fr_pR (by assumption) (fun _ _ => ?_)
    | refine fr_pAI (by assumption) (by decide) (fun _ _ => ?_)
    | refine fr_pAZ (by assumption) (by decide) (fun _ _ => ?_)
    | refine fr_pAL (by assumption) (fun _ _ => ?_)
    | refine fr_pAN (by assumption) (fun _ _ => ?_)
    | refine fr_nw (by assumption) (fun _ _ _ => ?_)
    | refine fr_nwM (by assumption) (fun _ _ _ => ?_)
    | refine fr_callV (hr5 _ _ _ _) (by assumption) (fun _ _ _ => ?_)
    | refine fr_bind (hr5 _ _ _ _) (by assumption) (fun _ _ _ => ?_)
    | refine fr_binI (hr5 _ _ _ _) (by assumption) (fun _ _ _ => ?_)
    | refine fr_callV (fr_X9_putInOrder_b50 _ _ _ _) (by assumption) (fun _ _ _ => ?_)
    | refine fr_bind (fr_X9_putInOrder_b50 _ _ _ _) (by assumption) (fun _ _ _ => ?_)
    | refine fr_binI (fr_X9_putInOrder_b50 _ _ _ _) (by assumption) (fun _ _ _ => ?_)
    | refine fr_callV (fr_f_X7_comesBefore _ _ _) (by assumption) (fun _ _ _ => ?_)
    | refine fr_bind (fr_f_X7_comesBefore _ _ _) (by assumption) (fun _ _ _ => ?_)
    | refine fr_binI (fr_f_X7_comesBefore _ _ _) (by assumption) (fun _ _ _ => ?_))
theorem fr_X9_putInOrder_L5  : ∀ (m : Nat) (u0 : Nat) (u1 : Nat) (u2 : Int32) (u3 : KH), FR u3 (X9_putInOrder_L5  m u0 u1 u2 u3) := by
  intro m
  induction m with
  | zero => intro u0 u1 u2 u3; exact fr_none
  | succ m ih => intro u0 u1 u2 u3; exact fr_X9_putInOrder_b5 (X9_putInOrder_L5  m) ih u0 u1 u2 u3
theorem fr_f_X9_putInOrder  (p0 : Nat) (p1 : Nat) (h : KH) : FR h (f_X9_putInOrder p0 p1 h) := by
  unfold f_X9_putInOrder
  have q0 : FL h h := FL.rf h
  repeat' with_reducible (first
    | exact fr_ret (by assumption)
    | exact fr_retZ (by assumption)
    | exact fr_retC (by assumption)
    | exact fr_thr (by assumption)
    | exact fr_none
    | exact fr_go (fr_X9_putInOrder_L5 _ _ _ _ _) (by assumption)
    | refine fr_gI (fun _ => ?_)
    | refine fr_gR (fun _ => ?_)
    | refine fr_gN (fun _ => ?_)
    | refine fr_gAI (fun _ => ?_)
    | refine fr_gAL (fun _ => ?_)
    | refine fr_gAN (fun _ => ?_)
    | refine fr_kif ?_ ?_
    | refine fr_nul ?_ (fun _ => ?_)
    | refine fr_may (fun _ => ?_)
    | refine fr_kdv ?_
    | refine fr_pI (by assumption) (by decide) (fun _ _ => ?_)
    | refine fr_pR (by assumption) (fun _ _ => ?_)
    | refine fr_pAI (by assumption) (by decide) (fun _ _ => ?_)
    | refine fr_pAZ (by assumption) (by decide) (fun _ _ => ?_)
    | refine fr_pAL (by assumption) (fun _ _ => ?_)
    | refine fr_pAN (by assumption) (fun _ _ => ?_)
    | refine fr_nw (by assumption) (fun _ _ _ => ?_)
    | refine fr_nwM (by assumption) (fun _ _ _ => ?_)
    | refine fr_callV (fr_X9_putInOrder_L5 _ _ _ _ _) (by assumption) (fun _ _ _ => ?_)
    | refine fr_bind (fr_X9_putInOrder_L5 _ _ _ _ _) (by assumption) (fun _ _ _ => ?_)
    | refine fr_binI (fr_X9_putInOrder_L5 _ _ _ _ _) (by assumption) (fun _ _ _ => ?_))
theorem fr_X9_register_b48  (h : KH) : FR h (X9_register_b48 h) := by
  unfold X9_register_b48
  have q0 : FL h h := FL.rf h
  repeat' with_reducible (first
    | exact fr_ret (by assumption)
    | exact fr_retZ (by assumption)
    | exact fr_retC (by assumption)
    | exact fr_thr (by assumption)
    | exact fr_none
    | refine fr_gI (fun _ => ?_)
    | refine fr_gR (fun _ => ?_)
    | refine fr_gN (fun _ => ?_)
    | refine fr_gAI (fun _ => ?_)
    | refine fr_gAL (fun _ => ?_)
    | refine fr_gAN (fun _ => ?_)
    | refine fr_kif ?_ ?_
    | refine fr_nul ?_ (fun _ => ?_)
    | refine fr_may (fun _ => ?_)
    | refine fr_kdv ?_
    | refine fr_pI (by assumption) (by decide) (fun _ _ => ?_)
    | refine fr_pR (by assumption) (fun _ _ => ?_)
    | refine fr_pAI (by assumption) (by decide) (fun _ _ => ?_)
    | refine fr_pAZ (by assumption) (by decide) (fun _ _ => ?_)
    | refine fr_pAL (by assumption) (fun _ _ => ?_)
    | refine fr_pAN (by assumption) (fun _ _ => ?_)
    | refine fr_nw (by assumption) (fun _ _ _ => ?_)
    | refine fr_nwM (by assumption) (fun _ _ _ => ?_))
theorem ro_X9_register_b48  (h : KH) : RO h (X9_register_b48 h) := by
  unfold X9_register_b48
  repeat' with_reducible (first
    | exact ro_ret
    | exact ro_retZ
    | exact ro_retC
    | exact ro_thr
    | exact ro_none
    | refine ro_gI (fun _ => ?_)
    | refine ro_gR (fun _ => ?_)
    | refine ro_gN (fun _ => ?_)
    | refine ro_gAI (fun _ => ?_)
    | refine ro_gAL (fun _ => ?_)
    | refine ro_gAN (fun _ => ?_)
    | refine ro_kif ?_ ?_
    | refine ro_nul ?_ (fun _ => ?_)
    | refine ro_may (fun _ => ?_)
    | refine ro_kdv ?_)
theorem fr_f_X9_register  (p0 : Nat) (p1 : Int32) (p2 : Int32) (h : KH) : FR h (f_X9_register p0 p1 p2 h) := by
  unfold f_X9_register
  have q0 : FL h h := FL.rf h
  repeat' with_reducible (first
    | exact fr_ret (by assumption)
    | exact fr_retZ (by assumption)
    | exact fr_retC (by assumption)
    | exact fr_thr (by assumption)
    | exact fr_none
    | exact fr_go (fr_f_X9_requireDriver _ _) (by assumption)
    | exact fr_go (fr_f_X9_requireClass _ _) (by assumption)
    | exact fr_go (fr_X9_register_b48 _) (by assumption)
    | exact fr_go (fr_f_X7_hasQuestionMark _ _) (by assumption)
    | exact fr_go (fr_f_X9_isTaken _ _ _) (by assumption)
    | exact fr_go (fr_f_X7_copy _ _) (by assumption)
    | exact fr_go (fr_f_X1_init _ _ _ _ _) (by assumption)
    | exact fr_go (fr_f_X4_init _ _ _ _ _ _) (by assumption)
    | exact fr_go (fr_f_X9_putInOrder _ _ _) (by assumption)
    | exact fr_go (fr_f_X9_leadAllBack _ _) (by assumption)
    | refine fr_gI (fun _ => ?_)
    | refine fr_gR (fun _ => ?_)
    | refine fr_gN (fun _ => ?_)
    | refine fr_gAI (fun _ => ?_)
    | refine fr_gAL (fun _ => ?_)
    | refine fr_gAN (fun _ => ?_)
    | refine fr_kif ?_ ?_
    | refine fr_nul ?_ (fun _ => ?_)
    | refine fr_may (fun _ => ?_)
    | refine fr_kdv ?_
    | refine fr_pI (by assumption) (by decide) (fun _ _ => ?_)
    | refine fr_pR (by assumption) (fun _ _ => ?_)
    | refine fr_pAI (by assumption) (by decide) (fun _ _ => ?_)
    | refine fr_pAZ (by assumption) (by decide) (fun _ _ => ?_)
    | refine fr_pAL (by assumption) (fun _ _ => ?_)
    | refine fr_pAN (by assumption) (fun _ _ => ?_)
    | refine fr_nw (by assumption) (fun _ _ _ => ?_)
    | refine fr_nwM (by assumption) (fun _ _ _ => ?_)
    | refine fr_callV (fr_f_X9_requireDriver _ _) (by assumption) (fun _ _ _ => ?_)
    | refine fr_bind (fr_f_X9_requireDriver _ _) (by assumption) (fun _ _ _ => ?_)
    | refine fr_binI (fr_f_X9_requireDriver _ _) (by assumption) (fun _ _ _ => ?_)
    | refine fr_callV (fr_f_X9_requireClass _ _) (by assumption) (fun _ _ _ => ?_)
    | refine fr_bind (fr_f_X9_requireClass _ _) (by assumption) (fun _ _ _ => ?_)
    | refine fr_binI (fr_f_X9_requireClass _ _) (by assumption) (fun _ _ _ => ?_)
    | refine fr_callV (fr_X9_register_b48 _) (by assumption) (fun _ _ _ => ?_)
    | refine fr_bind (fr_X9_register_b48 _) (by assumption) (fun _ _ _ => ?_)
    | refine fr_binI (fr_X9_register_b48 _) (by assumption) (fun _ _ _ => ?_)
    | refine fr_callV (fr_f_X7_hasQuestionMark _ _) (by assumption) (fun _ _ _ => ?_)
    | refine fr_bind (fr_f_X7_hasQuestionMark _ _) (by assumption) (fun _ _ _ => ?_)
    | refine fr_binI (fr_f_X7_hasQuestionMark _ _) (by assumption) (fun _ _ _ => ?_)
    | refine fr_callV (fr_f_X9_isTaken _ _ _) (by assumption) (fun _ _ _ => ?_)
    | refine fr_bind (fr_f_X9_isTaken _ _ _) (by assumption) (fun _ _ _ => ?_)
    | refine fr_binI (fr_f_X9_isTaken _ _ _) (by assumption) (fun _ _ _ => ?_)
    | refine fr_callV (fr_f_X7_copy _ _) (by assumption) (fun _ _ _ => ?_)
    | refine fr_bind (fr_f_X7_copy _ _) (by assumption) (fun _ _ _ => ?_)
    | refine fr_binI (fr_f_X7_copy _ _) (by assumption) (fun _ _ _ => ?_)
    | refine fr_callV (fr_f_X1_init _ _ _ _ _) (by assumption) (fun _ _ _ => ?_)
    | refine fr_bind (fr_f_X1_init _ _ _ _ _) (by assumption) (fun _ _ _ => ?_)
    | refine fr_binI (fr_f_X1_init _ _ _ _ _) (by assumption) (fun _ _ _ => ?_)
    | refine fr_callV (fr_f_X4_init _ _ _ _ _ _) (by assumption) (fun _ _ _ => ?_)
    | refine fr_bind (fr_f_X4_init _ _ _ _ _ _) (by assumption) (fun _ _ _ => ?_)
    | refine fr_binI (fr_f_X4_init _ _ _ _ _ _) (by assumption) (fun _ _ _ => ?_)
    | refine fr_callV (fr_f_X9_putInOrder _ _ _) (by assumption) (fun _ _ _ => ?_)
    | refine fr_bind (fr_f_X9_putInOrder _ _ _) (by assumption) (fun _ _ _ => ?_)
    | refine fr_binI (fr_f_X9_putInOrder _ _ _) (by assumption) (fun _ _ _ => ?_)
    | refine fr_callV (fr_f_X9_leadAllBack _ _) (by assumption) (fun _ _ _ => ?_)
    | refine fr_bind (fr_f_X9_leadAllBack _ _) (by assumption) (fun _ _ _ => ?_)
    | refine fr_binI (fr_f_X9_leadAllBack _ _) (by assumption) (fun _ _ _ => ?_))
theorem fr_f_X9_plateNumbered  (p0 : Nat) (p1 : Int32) (h : KH) : FR h (f_X9_plateNumbered p0 p1 h) := by
  unfold f_X9_plateNumbered
  have q0 : FL h h := FL.rf h
  repeat' with_reducible (first
    | exact fr_ret (by assumption)
    | exact fr_retZ (by assumption)
    | exact fr_retC (by assumption)
    | exact fr_thr (by assumption)
    | exact fr_none
    | exact fr_go (fr_f_X9_isWithin _ _ _ _) (by assumption)
    | refine fr_gI (fun _ => ?_)
    | refine fr_gR (fun _ => ?_)
    | refine fr_gN (fun _ => ?_)
    | refine fr_gAI (fun _ => ?_)
    | refine fr_gAL (fun _ => ?_)
    | refine fr_gAN (fun _ => ?_)
    | refine fr_kif ?_ ?_
    | refine fr_nul ?_ (fun _ => ?_)
    | refine fr_may (fun _ => ?_)
    | refine fr_kdv ?_
    | refine fr_pI (by assumption) (by decide) (fun _ _ => ?_)
    | refine fr_pR (by assumption) (fun _ _ => ?_)
    | refine fr_pAI (by assumption) (by decide) (fun _ _ => ?_)
    | refine fr_pAZ (by assumption) (by decide) (fun _ _ => ?_)
    | refine fr_pAL (by assumption) (fun _ _ => ?_)
    | refine fr_pAN (by assumption) (fun _ _ => ?_)
    | refine fr_nw (by assumption) (fun _ _ _ => ?_)
    | refine fr_nwM (by assumption) (fun _ _ _ => ?_)
    | refine fr_callV (fr_f_X9_isWithin _ _ _ _) (by assumption) (fun _ _ _ => ?_)
    | refine fr_bind (fr_f_X9_isWithin _ _ _ _) (by assumption) (fun _ _ _ => ?_)
    | refine fr_binI (fr_f_X9_isWithin _ _ _ _) (by assumption) (fun _ _ _ => ?_))
theorem ro_f_X9_plateNumbered  (p0 : Nat) (p1 : Int32) (h : KH) : RO h (f_X9_plateNumbered p0 p1 h) := by
  unfold f_X9_plateNumbered
  repeat' with_reducible (first
    | exact ro_ret
    | exact ro_retZ
    | exact ro_retC
    | exact ro_thr
    | exact ro_none
    | exact ro_f_X9_isWithin _ _ _ _
    | refine ro_gI (fun _ => ?_)
    | refine ro_gR (fun _ => ?_)
    | refine ro_gN (fun _ => ?_)
    | refine ro_gAI (fun _ => ?_)
    | refine ro_gAL (fun _ => ?_)
    | refine ro_gAN (fun _ => ?_)
    | refine ro_kif ?_ ?_
    | refine ro_nul ?_ (fun _ => ?_)
    | refine ro_may (fun _ => ?_)
    | refine ro_kdv ?_
    | refine ro_callV (ro_f_X9_isWithin _ _ _ _) (fun _ => ?_)
    | refine ro_bind (ro_f_X9_isWithin _ _ _ _) (fun _ => ?_)
    | refine ro_binI (ro_f_X9_isWithin _ _ _ _) (fun _ => ?_))
theorem fr_X4_sellTo_b25  (v0 : Nat) (v1 : Int32) (v2 : Int32) (s0 : Option Nat) (h : KH) : FR h (X4_sellTo_b25 v0 v1 v2 s0 h) := by
  unfold X4_sellTo_b25
  have q0 : FL h h := FL.rf h
  repeat' with_reducible (first
    | exact fr_ret (by assumption)
    | exact fr_retZ (by assumption)
    | exact fr_retC (by assumption)
    | exact fr_thr (by assumption)
    | exact fr_none
    | exact fr_go (fr_f_X1_init _ _ _ _ _) (by assumption)
    | refine fr_gI (fun _ => ?_)
    | refine fr_gR (fun _ => ?_)
    | refine fr_gN (fun _ => ?_)
    | refine fr_gAI (fun _ => ?_)
    | refine fr_gAL (fun _ => ?_)
    | refine fr_gAN (fun _ => ?_)
    | refine fr_kif ?_ ?_
    | refine fr_nul ?_ (fun _ => ?_)
    | refine fr_may (fun _ => ?_)
    | refine fr_kdv ?_
    | refine fr_pI (by assumption) (by decide) (fun _ _ => ?_)
    | refine fr_pR (by assumption) (fun _ _ => ?_)
    | refine fr_pAI (by assumption) (by decide) (fun _ _ => ?_)
    | refine fr_pAZ (by assumption) (by decide) (fun _ _ => ?_)
    | refine fr_pAL (by assumption) (fun _ _ => ?_)
    | refine fr_pAN (by assumption) (fun _ _ => ?_)
    | refine fr_nw (by assumption) (fun _ _ _ => ?_)
    | refine fr_nwM (by assumption) (fun _ _ _ => ?_)
    | refine fr_callV (fr_f_X1_init _ _ _ _ _) (by assumption) (fun _ _ _ => ?_)
    | refine fr_bind (fr_f_X1_init _ _ _ _ _) (by assumption) (fun _ _ _ => ?_)
    | refine fr_binI (fr_f_X1_init _ _ _ _ _) (by assumption) (fun _ _ _ => ?_))
theorem fr_f_X4_sellTo  (p0 : Nat) (p1 : Int32) (p2 : Int32) (h : KH) : FR h (f_X4_sellTo p0 p1 p2 h) := by
  unfold f_X4_sellTo
  have q0 : FL h h := FL.rf h
  repeat' with_reducible (first
    | exact fr_ret (by assumption)
    | exact fr_retZ (by assumption)
    | exact fr_retC (by assumption)
    | exact fr_thr (by assumption)
    | exact fr_none
    | exact fr_go (fr_X4_sellTo_b25 _ _ _ _ _) (by assumption)
    | refine fr_gI (fun _ => ?_)
    | refine fr_gR (fun _ => ?_)
    | refine fr_gN (fun _ => ?_)
    | refine fr_gAI (fun _ => ?_)
    | refine fr_gAL (fun _ => ?_)
    | refine fr_gAN (fun _ => ?_)
    | refine fr_kif ?_ ?_
    | refine fr_nul ?_ (fun _ => ?_)
    | refine fr_may (fun _ => ?_)
    | refine fr_kdv ?_
    | refine fr_pI (by assumption) (by decide) (fun _ _ => ?_)
    | refine fr_pR (by assumption) (fun _ _ => ?_)
    | refine fr_pAI (by assumption) (by decide) (fun _ _ => ?_)
    | refine fr_pAZ (by assumption) (by decide) (fun _ _ => ?_)
    | refine fr_pAL (by assumption) (fun _ _ => ?_)
    | refine fr_pAN (by assumption) (fun _ _ => ?_)
    | refine fr_nw (by assumption) (fun _ _ _ => ?_)
    | refine fr_nwM (by assumption) (fun _ _ _ => ?_)
    | refine fr_callV (fr_X4_sellTo_b25 _ _ _ _ _) (by assumption) (fun _ _ _ => ?_)
    | refine fr_bind (fr_X4_sellTo_b25 _ _ _ _ _) (by assumption) (fun _ _ _ => ?_)
    | refine fr_binI (fr_X4_sellTo_b25 _ _ _ _ _) (by assumption) (fun _ _ _ => ?_))
theorem fr_f_X9_sell  (p0 : Nat) (p1 : Int32) (p2 : Int32) (h : KH) : FR h (f_X9_sell p0 p1 p2 h) := by
  unfold f_X9_sell
  have q0 : FL h h := FL.rf h
  repeat' with_reducible (first
    | exact fr_ret (by assumption)
    | exact fr_retZ (by assumption)
    | exact fr_retC (by assumption)
    | exact fr_thr (by assumption)
    | exact fr_none
    | exact fr_go (fr_f_X9_plateNumbered _ _ _) (by assumption)
    | exact fr_go (fr_f_X9_requireDriver _ _) (by assumption)
    | exact fr_go (fr_f_X4_sellTo _ _ _ _) (by assumption)
    | refine fr_gI (fun _ => ?_)
    | refine fr_gR (fun _ => ?_)
    | refine fr_gN (fun _ => ?_)
    | refine fr_gAI (fun _ => ?_)
    | refine fr_gAL (fun _ => ?_)
    | refine fr_gAN (fun _ => ?_)
    | refine fr_kif ?_ ?_
    | refine fr_nul ?_ (fun _ => ?_)
    | refine fr_may (fun _ => ?_)
    | refine fr_kdv ?_
    | refine fr_pI (by assumption) (by decide) (fun _ _ => ?_)
    | refine fr_pR (by assumption) (fun _ _ => ?_)
    | refine fr_pAI (by assumption) (by decide) (fun _ _ => ?_)
    | refine fr_pAZ (by assumption) (by decide) (fun _ _ => ?_)
    | refine fr_pAL (by assumption) (fun _ _ => ?_)
    | refine fr_pAN (by assumption) (fun _ _ => ?_)
    | refine fr_nw (by assumption) (fun _ _ _ => ?_)
    | refine fr_nwM (by assumption) (fun _ _ _ => ?_)
    | refine fr_callV (fr_f_X9_plateNumbered _ _ _) (by assumption) (fun _ _ _ => ?_)
    | refine fr_bind (fr_f_X9_plateNumbered _ _ _) (by assumption) (fun _ _ _ => ?_)
    | refine fr_binI (fr_f_X9_plateNumbered _ _ _) (by assumption) (fun _ _ _ => ?_)
    | refine fr_callV (fr_f_X9_requireDriver _ _) (by assumption) (fun _ _ _ => ?_)
    | refine fr_bind (fr_f_X9_requireDriver _ _) (by assumption) (fun _ _ _ => ?_)
    | refine fr_binI (fr_f_X9_requireDriver _ _) (by assumption) (fun _ _ _ => ?_)
    | refine fr_callV (fr_f_X4_sellTo _ _ _ _) (by assumption) (fun _ _ _ => ?_)
    | refine fr_bind (fr_f_X4_sellTo _ _ _ _) (by assumption) (fun _ _ _ => ?_)
    | refine fr_binI (fr_f_X4_sellTo _ _ _ _) (by assumption) (fun _ _ _ => ?_))
theorem fr_f_X9_plates  (p0 : Nat) (h : KH) : FR h (f_X9_plates p0 h) := by
  unfold f_X9_plates
  have q0 : FL h h := FL.rf h
  repeat' with_reducible (first
    | exact fr_ret (by assumption)
    | exact fr_retZ (by assumption)
    | exact fr_retC (by assumption)
    | exact fr_thr (by assumption)
    | exact fr_none
    | refine fr_gI (fun _ => ?_)
    | refine fr_gR (fun _ => ?_)
    | refine fr_gN (fun _ => ?_)
    | refine fr_gAI (fun _ => ?_)
    | refine fr_gAL (fun _ => ?_)
    | refine fr_gAN (fun _ => ?_)
    | refine fr_kif ?_ ?_
    | refine fr_nul ?_ (fun _ => ?_)
    | refine fr_may (fun _ => ?_)
    | refine fr_kdv ?_
    | refine fr_pI (by assumption) (by decide) (fun _ _ => ?_)
    | refine fr_pR (by assumption) (fun _ _ => ?_)
    | refine fr_pAI (by assumption) (by decide) (fun _ _ => ?_)
    | refine fr_pAZ (by assumption) (by decide) (fun _ _ => ?_)
    | refine fr_pAL (by assumption) (fun _ _ => ?_)
    | refine fr_pAN (by assumption) (fun _ _ => ?_)
    | refine fr_nw (by assumption) (fun _ _ _ => ?_)
    | refine fr_nwM (by assumption) (fun _ _ _ => ?_))
theorem ro_f_X9_plates  (p0 : Nat) (h : KH) : RO h (f_X9_plates p0 h) := by
  unfold f_X9_plates
  repeat' with_reducible (first
    | exact ro_ret
    | exact ro_retZ
    | exact ro_retC
    | exact ro_thr
    | exact ro_none
    | refine ro_gI (fun _ => ?_)
    | refine ro_gR (fun _ => ?_)
    | refine ro_gN (fun _ => ?_)
    | refine ro_gAI (fun _ => ?_)
    | refine ro_gAL (fun _ => ?_)
    | refine ro_gAN (fun _ => ?_)
    | refine ro_kif ?_ ?_
    | refine ro_nul ?_ (fun _ => ?_)
    | refine ro_may (fun _ => ?_)
    | refine ro_kdv ?_)
theorem fr_f_X9_plateAt  (p0 : Nat) (p1 : Int32) (h : KH) : FR h (f_X9_plateAt p0 p1 h) := by
  unfold f_X9_plateAt
  have q0 : FL h h := FL.rf h
  repeat' with_reducible (first
    | exact fr_ret (by assumption)
    | exact fr_retZ (by assumption)
    | exact fr_retC (by assumption)
    | exact fr_thr (by assumption)
    | exact fr_none
    | exact fr_go (fr_f_X9_isWithin _ _ _ _) (by assumption)
    | refine fr_gI (fun _ => ?_)
    | refine fr_gR (fun _ => ?_)
    | refine fr_gN (fun _ => ?_)
    | refine fr_gAI (fun _ => ?_)
    | refine fr_gAL (fun _ => ?_)
    | refine fr_gAN (fun _ => ?_)
    | refine fr_kif ?_ ?_
    | refine fr_nul ?_ (fun _ => ?_)
    | refine fr_may (fun _ => ?_)
    | refine fr_kdv ?_
    | refine fr_pI (by assumption) (by decide) (fun _ _ => ?_)
    | refine fr_pR (by assumption) (fun _ _ => ?_)
    | refine fr_pAI (by assumption) (by decide) (fun _ _ => ?_)
    | refine fr_pAZ (by assumption) (by decide) (fun _ _ => ?_)
    | refine fr_pAL (by assumption) (fun _ _ => ?_)
    | refine fr_pAN (by assumption) (fun _ _ => ?_)
    | refine fr_nw (by assumption) (fun _ _ _ => ?_)
    | refine fr_nwM (by assumption) (fun _ _ _ => ?_)
    | refine fr_callV (fr_f_X9_isWithin _ _ _ _) (by assumption) (fun _ _ _ => ?_)
    | refine fr_bind (fr_f_X9_isWithin _ _ _ _) (by assumption) (fun _ _ _ => ?_)
    | refine fr_binI (fr_f_X9_isWithin _ _ _ _) (by assumption) (fun _ _ _ => ?_))
theorem ro_f_X9_plateAt  (p0 : Nat) (p1 : Int32) (h : KH) : RO h (f_X9_plateAt p0 p1 h) := by
  unfold f_X9_plateAt
  repeat' with_reducible (first
    | exact ro_ret
    | exact ro_retZ
    | exact ro_retC
    | exact ro_thr
    | exact ro_none
    | exact ro_f_X9_isWithin _ _ _ _
    | refine ro_gI (fun _ => ?_)
    | refine ro_gR (fun _ => ?_)
    | refine ro_gN (fun _ => ?_)
    | refine ro_gAI (fun _ => ?_)
    | refine ro_gAL (fun _ => ?_)
    | refine ro_gAN (fun _ => ?_)
    | refine ro_kif ?_ ?_
    | refine ro_nul ?_ (fun _ => ?_)
    | refine ro_may (fun _ => ?_)
    | refine ro_kdv ?_
    | refine ro_callV (ro_f_X9_isWithin _ _ _ _) (fun _ => ?_)
    | refine ro_bind (ro_f_X9_isWithin _ _ _ _) (fun _ => ?_)
    | refine ro_binI (ro_f_X9_isWithin _ _ _ _) (fun _ => ?_))
theorem fr_f_X9_requireMinute  (p0 : Nat) (p1 : Int32) (h : KH) : FR h (f_X9_requireMinute p0 p1 h) := by
  unfold f_X9_requireMinute
  have q0 : FL h h := FL.rf h
  repeat' with_reducible (first
    | exact fr_ret (by assumption)
    | exact fr_retZ (by assumption)
    | exact fr_retC (by assumption)
    | exact fr_thr (by assumption)
    | exact fr_none
    | exact fr_go (fr_f_X9_isWithin _ _ _ _) (by assumption)
    | refine fr_gI (fun _ => ?_)
    | refine fr_gR (fun _ => ?_)
    | refine fr_gN (fun _ => ?_)
    | refine fr_gAI (fun _ => ?_)
    | refine fr_gAL (fun _ => ?_)
    | refine fr_gAN (fun _ => ?_)
    | refine fr_kif ?_ ?_
    | refine fr_nul ?_ (fun _ => ?_)
    | refine fr_may (fun _ => ?_)
    | refine fr_kdv ?_
    | refine fr_pI (by assumption) (by decide) (fun _ _ => ?_)
    | refine fr_pR (by assumption) (fun _ _ => ?_)
    | refine fr_pAI (by assumption) (by decide) (fun _ _ => ?_)
    | refine fr_pAZ (by assumption) (by decide) (fun _ _ => ?_)
    | refine fr_pAL (by assumption) (fun _ _ => ?_)
    | refine fr_pAN (by assumption) (fun _ _ => ?_)
    | refine fr_nw (by assumption) (fun _ _ _ => ?_)
    | refine fr_nwM (by assumption) (fun _ _ _ => ?_)
    | refine fr_callV (fr_f_X9_isWithin _ _ _ _) (by assumption) (fun _ _ _ => ?_)
    | refine fr_bind (fr_f_X9_isWithin _ _ _ _) (by assumption) (fun _ _ _ => ?_)
    | refine fr_binI (fr_f_X9_isWithin _ _ _ _) (by assumption) (fun _ _ _ => ?_))
theorem ro_f_X9_requireMinute  (p0 : Nat) (p1 : Int32) (h : KH) : RO h (f_X9_requireMinute p0 p1 h) := by
  unfold f_X9_requireMinute
  repeat' with_reducible (first
    | exact ro_ret
    | exact ro_retZ
    | exact ro_retC
    | exact ro_thr
    | exact ro_none
    | exact ro_f_X9_isWithin _ _ _ _
    | refine ro_gI (fun _ => ?_)
    | refine ro_gR (fun _ => ?_)
    | refine ro_gN (fun _ => ?_)
    | refine ro_gAI (fun _ => ?_)
    | refine ro_gAL (fun _ => ?_)
    | refine ro_gAN (fun _ => ?_)
    | refine ro_kif ?_ ?_
    | refine ro_nul ?_ (fun _ => ?_)
    | refine ro_may (fun _ => ?_)
    | refine ro_kdv ?_
    | refine ro_callV (ro_f_X9_isWithin _ _ _ _) (fun _ => ?_)
    | refine ro_bind (ro_f_X9_isWithin _ _ _ _) (fun _ => ?_)
    | refine ro_binI (ro_f_X9_isWithin _ _ _ _) (fun _ => ?_))
theorem fr_X4_driverIn_b5 (rc5 : Int32 → Option Nat → KH → KO Int32) (hr5 : ∀ (u0 : Int32) (u1 : Option Nat) (u2 : KH), FR u2 (rc5 u0 u1 u2)) (v1 : Int32) (v2 : Option Nat) (h : KH) : FR h (X4_driverIn_b5 rc5 v1 v2 h) := by
  unfold X4_driverIn_b5
  have q0 : FL h h := FL.rf h
  repeat' with_reducible (first
    | exact fr_ret (by assumption)
    | exact fr_retZ (by assumption)
    | exact fr_retC (by assumption)
    | exact fr_thr (by assumption)
    | exact fr_none
    | exact fr_go (hr5 _ _ _) (by assumption)
    | refine fr_gI (fun _ => ?_)
    | refine fr_gR (fun _ => ?_)
    | refine fr_gN (fun _ => ?_)
    | refine fr_gAI (fun _ => ?_)
    | refine fr_gAL (fun _ => ?_)
    | refine fr_gAN (fun _ => ?_)
    | refine fr_kif ?_ ?_
    | refine fr_nul ?_ (fun _ => ?_)
    | refine fr_may (fun _ => ?_)
    | refine fr_kdv ?_
    | refine fr_pI (by assumption) (by decide) (fun _ _ => ?_)
    | refine fr_pR (by assumption) (fun _ _ => ?_)
    | refine fr_pAI (by assumption) (by decide) (fun _ _ => ?_)
    | refine fr_pAZ (by assumption) (by decide) (fun _ _ => ?_)
    | refine fr_pAL (by assumption) (fun _ _ => ?_)
    | refine fr_pAN (by assumption) (fun _ _ => ?_)
    | refine fr_nw (by assumption) (fun _ _ _ => ?_)
    | refine fr_nwM (by assumption) (fun _ _ _ => ?_)
    | refine fr_callV (hr5 _ _ _) (by assumption) (fun _ _ _ => ?_)
    | refine fr_bind (hr5 _ _ _) (by assumption) (fun _ _ _ => ?_)
    | refine fr_binI (hr5 _ _ _) (by assumption) (fun _ _ _ => ?_))
theorem ro_X4_driverIn_b5 (rc5 : Int32 → Option Nat → KH → KO Int32) (hr5 : ∀ (u0 : Int32) (u1 : Option Nat) (u2 : KH), RO u2 (rc5 u0 u1 u2)) (v1 : Int32) (v2 : Option Nat) (h : KH) : RO h (X4_driverIn_b5 rc5 v1 v2 h) := by
  unfold X4_driverIn_b5
  repeat' with_reducible (first
    | exact ro_ret
    | exact ro_retZ
    | exact ro_retC
    | exact ro_thr
    | exact ro_none
    | exact hr5 _ _ _
    | refine ro_gI (fun _ => ?_)
    | refine ro_gR (fun _ => ?_)
    | refine ro_gN (fun _ => ?_)
    | refine ro_gAI (fun _ => ?_)
    | refine ro_gAL (fun _ => ?_)
    | refine ro_gAN (fun _ => ?_)
    | refine ro_kif ?_ ?_
    | refine ro_nul ?_ (fun _ => ?_)
    | refine ro_may (fun _ => ?_)
    | refine ro_kdv ?_
    | refine ro_callV (hr5 _ _ _) (fun _ => ?_)
    | refine ro_bind (hr5 _ _ _) (fun _ => ?_)
    | refine ro_binI (hr5 _ _ _) (fun _ => ?_))
theorem fr_X4_driverIn_L5  : ∀ (m : Nat) (u0 : Int32) (u1 : Option Nat) (u2 : KH), FR u2 (X4_driverIn_L5  m u0 u1 u2) := by
  intro m
  induction m with
  | zero => intro u0 u1 u2; exact fr_none
  | succ m ih => intro u0 u1 u2; exact fr_X4_driverIn_b5 (X4_driverIn_L5  m) ih u0 u1 u2
theorem ro_X4_driverIn_L5  : ∀ (m : Nat) (u0 : Int32) (u1 : Option Nat) (u2 : KH), RO u2 (X4_driverIn_L5  m u0 u1 u2) := by
  intro m
  induction m with
  | zero => intro u0 u1 u2; exact ro_none
  | succ m ih => intro u0 u1 u2; exact ro_X4_driverIn_b5 (X4_driverIn_L5  m) ih u0 u1 u2
theorem fr_f_X4_driverIn  (p0 : Nat) (p1 : Int32) (h : KH) : FR h (f_X4_driverIn p0 p1 h) := by
  unfold f_X4_driverIn
  have q0 : FL h h := FL.rf h
  repeat' with_reducible (first
    | exact fr_ret (by assumption)
    | exact fr_retZ (by assumption)
    | exact fr_retC (by assumption)
    | exact fr_thr (by assumption)
    | exact fr_none
    | exact fr_go (fr_X4_driverIn_L5 _ _ _ _) (by assumption)
    | refine fr_gI (fun _ => ?_)
    | refine fr_gR (fun _ => ?_)
    | refine fr_gN (fun _ => ?_)
    | refine fr_gAI (fun _ => ?_)
    | refine fr_gAL (fun _ => ?_)
    | refine fr_gAN (fun _ => ?_)
    | refine fr_kif ?_ ?_
    | refine fr_nul ?_ (fun _ => ?_)
    | refine fr_may (fun _ => ?_)
    | refine fr_kdv ?_
    | refine fr_pI (by assumption) (by decide) (fun _ _ => ?_)
    | refine fr_pR (by assumption) (fun _ _ => ?_)
    | refine fr_pAI (by assumption) (by decide) (fun _ _ => ?_)
    | refine fr_pAZ (by assumption) (by decide) (fun _ _ => ?_)
    | refine fr_pAL (by assumption) (fun _ _ => ?_)
    | refine fr_pAN (by assumption) (fun _ _ => ?_)
    | refine fr_nw (by assumption) (fun _ _ _ => ?_)
    | refine fr_nwM (by assumption) (fun _ _ _ => ?_)
    | refine fr_callV (fr_X4_driverIn_L5 _ _ _ _) (by assumption) (fun _ _ _ => ?_)
    | refine fr_bind (fr_X4_driverIn_L5 _ _ _ _) (by assumption) (fun _ _ _ => ?_)
    | refine fr_binI (fr_X4_driverIn_L5 _ _ _ _) (by assumption) (fun _ _ _ => ?_))
theorem ro_f_X4_driverIn  (p0 : Nat) (p1 : Int32) (h : KH) : RO h (f_X4_driverIn p0 p1 h) := by
  unfold f_X4_driverIn
  repeat' with_reducible (first
    | exact ro_ret
    | exact ro_retZ
    | exact ro_retC
    | exact ro_thr
    | exact ro_none
    | exact ro_X4_driverIn_L5 _ _ _ _
    | refine ro_gI (fun _ => ?_)
    | refine ro_gR (fun _ => ?_)
    | refine ro_gN (fun _ => ?_)
    | refine ro_gAI (fun _ => ?_)
    | refine ro_gAL (fun _ => ?_)
    | refine ro_gAN (fun _ => ?_)
    | refine ro_kif ?_ ?_
    | refine ro_nul ?_ (fun _ => ?_)
    | refine ro_may (fun _ => ?_)
    | refine ro_kdv ?_
    | refine ro_callV (ro_X4_driverIn_L5 _ _ _ _) (fun _ => ?_)
    | refine ro_bind (ro_X4_driverIn_L5 _ _ _ _) (fun _ => ?_)
    | refine ro_binI (ro_X4_driverIn_L5 _ _ _ _) (fun _ => ?_))
theorem fr_f_X9_holder  (p0 : Nat) (p1 : Int32) (p2 : Int32) (h : KH) : FR h (f_X9_holder p0 p1 p2 h) := by
  unfold f_X9_holder
  have q0 : FL h h := FL.rf h
  repeat' with_reducible (first
    | exact fr_ret (by assumption)
    | exact fr_retZ (by assumption)
    | exact fr_retC (by assumption)
    | exact fr_thr (by assumption)
    | exact fr_none
    | exact fr_go (fr_f_X9_plateNumbered _ _ _) (by assumption)
    | exact fr_go (fr_f_X9_requireMinute _ _ _) (by assumption)
    | exact fr_go (fr_f_X4_driverIn _ _ _) (by assumption)
    | refine fr_gI (fun _ => ?_)
    | refine fr_gR (fun _ => ?_)
    | refine fr_gN (fun _ => ?_)
    | refine fr_gAI (fun _ => ?_)
    | refine fr_gAL (fun _ => ?_)
    | refine fr_gAN (fun _ => ?_)
    | refine fr_kif ?_ ?_
    | refine fr_nul ?_ (fun _ => ?_)
    | refine fr_may (fun _ => ?_)
    | refine fr_kdv ?_
    | refine fr_pI (by assumption) (by decide) (fun _ _ => ?_)
    | refine fr_pR (by assumption) (fun _ _ => ?_)
    | refine fr_pAI (by assumption) (by decide) (fun _ _ => ?_)
    | refine fr_pAZ (by assumption) (by decide) (fun _ _ => ?_)
    | refine fr_pAL (by assumption) (fun _ _ => ?_)
    | refine fr_pAN (by assumption) (fun _ _ => ?_)
    | refine fr_nw (by assumption) (fun _ _ _ => ?_)
    | refine fr_nwM (by assumption) (fun _ _ _ => ?_)
    | refine fr_callV (fr_f_X9_plateNumbered _ _ _) (by assumption) (fun _ _ _ => ?_)
    | refine fr_bind (fr_f_X9_plateNumbered _ _ _) (by assumption) (fun _ _ _ => ?_)
    | refine fr_binI (fr_f_X9_plateNumbered _ _ _) (by assumption) (fun _ _ _ => ?_)
    | refine fr_callV (fr_f_X9_requireMinute _ _ _) (by assumption) (fun _ _ _ => ?_)
    | refine fr_bind (fr_f_X9_requireMinute _ _ _) (by assumption) (fun _ _ _ => ?_)
    | refine fr_binI (fr_f_X9_requireMinute _ _ _) (by assumption) (fun _ _ _ => ?_)
    | refine fr_callV (fr_f_X4_driverIn _ _ _) (by assumption) (fun _ _ _ => ?_)
    | refine fr_bind (fr_f_X4_driverIn _ _ _) (by assumption) (fun _ _ _ => ?_)
    | refine fr_binI (fr_f_X4_driverIn _ _ _) (by assumption) (fun _ _ _ => ?_))
theorem ro_f_X9_holder  (p0 : Nat) (p1 : Int32) (p2 : Int32) (h : KH) : RO h (f_X9_holder p0 p1 p2 h) := by
  unfold f_X9_holder
  repeat' with_reducible (first
    | exact ro_ret
    | exact ro_retZ
    | exact ro_retC
    | exact ro_thr
    | exact ro_none
    | exact ro_f_X9_plateNumbered _ _ _
    | exact ro_f_X9_requireMinute _ _ _
    | exact ro_f_X4_driverIn _ _ _
    | refine ro_gI (fun _ => ?_)
    | refine ro_gR (fun _ => ?_)
    | refine ro_gN (fun _ => ?_)
    | refine ro_gAI (fun _ => ?_)
    | refine ro_gAL (fun _ => ?_)
    | refine ro_gAN (fun _ => ?_)
    | refine ro_kif ?_ ?_
    | refine ro_nul ?_ (fun _ => ?_)
    | refine ro_may (fun _ => ?_)
    | refine ro_kdv ?_
    | refine ro_callV (ro_f_X9_plateNumbered _ _ _) (fun _ => ?_)
    | refine ro_bind (ro_f_X9_plateNumbered _ _ _) (fun _ => ?_)
    | refine ro_binI (ro_f_X9_plateNumbered _ _ _) (fun _ => ?_)
    | refine ro_callV (ro_f_X9_requireMinute _ _ _) (fun _ => ?_)
    | refine ro_bind (ro_f_X9_requireMinute _ _ _) (fun _ => ?_)
    | refine ro_binI (ro_f_X9_requireMinute _ _ _) (fun _ => ?_)
    | refine ro_callV (ro_f_X4_driverIn _ _ _) (fun _ => ?_)
    | refine ro_bind (ro_f_X4_driverIn _ _ _) (fun _ => ?_)
    | refine ro_binI (ro_f_X4_driverIn _ _ _) (fun _ => ?_))
theorem fr_f_X5_init  (p0 : Nat) (p1 : Int32) (p2 : Int32) (p3 : Int32) (p4 : Nat) (h : KH) : FR h (f_X5_init p0 p1 p2 p3 p4 h) := by
  unfold f_X5_init
  have q0 : FL h h := FL.rf h
  repeat' with_reducible (first
    | exact fr_ret (by assumption)
    | exact fr_retZ (by assumption)
    | exact fr_retC (by assumption)
    | exact fr_thr (by assumption)
    | exact fr_none
    | refine fr_gI (fun _ => ?_)
    | refine fr_gR (fun _ => ?_)
    | refine fr_gN (fun _ => ?_)
    | refine fr_gAI (fun _ => ?_)
    | refine fr_gAL (fun _ => ?_)
    | refine fr_gAN (fun _ => ?_)
    | refine fr_kif ?_ ?_
    | refine fr_nul ?_ (fun _ => ?_)
    | refine fr_may (fun _ => ?_)
    | refine fr_kdv ?_
    | refine fr_pI (by assumption) (by decide) (fun _ _ => ?_)
    | refine fr_pR (by assumption) (fun _ _ => ?_)
    | refine fr_pAI (by assumption) (by decide) (fun _ _ => ?_)
    | refine fr_pAZ (by assumption) (by decide) (fun _ _ => ?_)
    | refine fr_pAL (by assumption) (fun _ _ => ?_)
    | refine fr_pAN (by assumption) (fun _ _ => ?_)
    | refine fr_nw (by assumption) (fun _ _ _ => ?_)
    | refine fr_nwM (by assumption) (fun _ _ _ => ?_))
theorem fr_X9_read_b28  (h : KH) : FR h (X9_read_b28 h) := by
  unfold X9_read_b28
  have q0 : FL h h := FL.rf h
  repeat' with_reducible (first
    | exact fr_ret (by assumption)
    | exact fr_retZ (by assumption)
    | exact fr_retC (by assumption)
    | exact fr_thr (by assumption)
    | exact fr_none
    | refine fr_gI (fun _ => ?_)
    | refine fr_gR (fun _ => ?_)
    | refine fr_gN (fun _ => ?_)
    | refine fr_gAI (fun _ => ?_)
    | refine fr_gAL (fun _ => ?_)
    | refine fr_gAN (fun _ => ?_)
    | refine fr_kif ?_ ?_
    | refine fr_nul ?_ (fun _ => ?_)
    | refine fr_may (fun _ => ?_)
    | refine fr_kdv ?_
    | refine fr_pI (by assumption) (by decide) (fun _ _ => ?_)
    | refine fr_pR (by assumption) (fun _ _ => ?_)
    | refine fr_pAI (by assumption) (by decide) (fun _ _ => ?_)
    | refine fr_pAZ (by assumption) (by decide) (fun _ _ => ?_)
    | refine fr_pAL (by assumption) (fun _ _ => ?_)
    | refine fr_pAN (by assumption) (fun _ _ => ?_)
    | refine fr_nw (by assumption) (fun _ _ _ => ?_)
    | refine fr_nwM (by assumption) (fun _ _ _ => ?_))
theorem ro_X9_read_b28  (h : KH) : RO h (X9_read_b28 h) := by
  unfold X9_read_b28
  repeat' with_reducible (first
    | exact ro_ret
    | exact ro_retZ
    | exact ro_retC
    | exact ro_thr
    | exact ro_none
    | refine ro_gI (fun _ => ?_)
    | refine ro_gR (fun _ => ?_)
    | refine ro_gN (fun _ => ?_)
    | refine ro_gAI (fun _ => ?_)
    | refine ro_gAL (fun _ => ?_)
    | refine ro_gAN (fun _ => ?_)
    | refine ro_kif ?_ ?_
    | refine ro_nul ?_ (fun _ => ?_)
    | refine ro_may (fun _ => ?_)
    | refine ro_kdv ?_)
theorem fr_f_X9_read  (p0 : Nat) (p1 : Int32) (p2 : Int32) (h : KH) : FR h (f_X9_read p0 p1 p2 h) := by
  unfold f_X9_read
  have q0 : FL h h := FL.rf h
  repeat' with_reducible (first
    | exact fr_ret (by assumption)
    | exact fr_retZ (by assumption)
    | exact fr_retC (by assumption)
    | exact fr_thr (by assumption)
    | exact fr_none
    | exact fr_go (fr_f_X9_requireGate _ _) (by assumption)
    | exact fr_go (fr_f_X9_requireMinute _ _ _) (by assumption)
    | exact fr_go (fr_X9_read_b28 _) (by assumption)
    | exact fr_go (fr_f_X7_copy _ _) (by assumption)
    | exact fr_go (fr_f_X5_init _ _ _ _ _ _) (by assumption)
    | exact fr_go (fr_f_X9_plateByText _ _ _) (by assumption)
    | exact fr_go (fr_f_X9_move _ _ _ _) (by assumption)
    | refine fr_gI (fun _ => ?_)
    | refine fr_gR (fun _ => ?_)
    | refine fr_gN (fun _ => ?_)
    | refine fr_gAI (fun _ => ?_)
    | refine fr_gAL (fun _ => ?_)
    | refine fr_gAN (fun _ => ?_)
    | refine fr_kif ?_ ?_
    | refine fr_nul ?_ (fun _ => ?_)
    | refine fr_may (fun _ => ?_)
    | refine fr_kdv ?_
    | refine fr_pI (by assumption) (by decide) (fun _ _ => ?_)
    | refine fr_pR (by assumption) (fun _ _ => ?_)
    | refine fr_pAI (by assumption) (by decide) (fun _ _ => ?_)
    | refine fr_pAZ (by assumption) (by decide) (fun _ _ => ?_)
    | refine fr_pAL (by assumption) (fun _ _ => ?_)
    | refine fr_pAN (by assumption) (fun _ _ => ?_)
    | refine fr_nw (by assumption) (fun _ _ _ => ?_)
    | refine fr_nwM (by assumption) (fun _ _ _ => ?_)
    | refine fr_callV (fr_f_X9_requireGate _ _) (by assumption) (fun _ _ _ => ?_)
    | refine fr_bind (fr_f_X9_requireGate _ _) (by assumption) (fun _ _ _ => ?_)
    | refine fr_binI (fr_f_X9_requireGate _ _) (by assumption) (fun _ _ _ => ?_)
    | refine fr_callV (fr_f_X9_requireMinute _ _ _) (by assumption) (fun _ _ _ => ?_)
    | refine fr_bind (fr_f_X9_requireMinute _ _ _) (by assumption) (fun _ _ _ => ?_)
    | refine fr_binI (fr_f_X9_requireMinute _ _ _) (by assumption) (fun _ _ _ => ?_)
    | refine fr_callV (fr_X9_read_b28 _) (by assumption) (fun _ _ _ => ?_)
    | refine fr_bind (fr_X9_read_b28 _) (by assumption) (fun _ _ _ => ?_)
    | refine fr_binI (fr_X9_read_b28 _) (by assumption) (fun _ _ _ => ?_)
    | refine fr_callV (fr_f_X7_copy _ _) (by assumption) (fun _ _ _ => ?_)
    | refine fr_bind (fr_f_X7_copy _ _) (by assumption) (fun _ _ _ => ?_)
    | refine fr_binI (fr_f_X7_copy _ _) (by assumption) (fun _ _ _ => ?_)
    | refine fr_callV (fr_f_X5_init _ _ _ _ _ _) (by assumption) (fun _ _ _ => ?_)
    | refine fr_bind (fr_f_X5_init _ _ _ _ _ _) (by assumption) (fun _ _ _ => ?_)
    | refine fr_binI (fr_f_X5_init _ _ _ _ _ _) (by assumption) (fun _ _ _ => ?_)
    | refine fr_callV (fr_f_X9_plateByText _ _ _) (by assumption) (fun _ _ _ => ?_)
    | refine fr_bind (fr_f_X9_plateByText _ _ _) (by assumption) (fun _ _ _ => ?_)
    | refine fr_binI (fr_f_X9_plateByText _ _ _) (by assumption) (fun _ _ _ => ?_)
    | refine fr_callV (fr_f_X9_move _ _ _ _) (by assumption) (fun _ _ _ => ?_)
    | refine fr_bind (fr_f_X9_move _ _ _ _) (by assumption) (fun _ _ _ => ?_)
    | refine fr_binI (fr_f_X9_move _ _ _ _) (by assumption) (fun _ _ _ => ?_))
theorem fr_f_X9_readingNumbered  (p0 : Nat) (p1 : Int32) (h : KH) : FR h (f_X9_readingNumbered p0 p1 h) := by
  unfold f_X9_readingNumbered
  have q0 : FL h h := FL.rf h
  repeat' with_reducible (first
    | exact fr_ret (by assumption)
    | exact fr_retZ (by assumption)
    | exact fr_retC (by assumption)
    | exact fr_thr (by assumption)
    | exact fr_none
    | exact fr_go (fr_f_X9_isWithin _ _ _ _) (by assumption)
    | refine fr_gI (fun _ => ?_)
    | refine fr_gR (fun _ => ?_)
    | refine fr_gN (fun _ => ?_)
    | refine fr_gAI (fun _ => ?_)
    | refine fr_gAL (fun _ => ?_)
    | refine fr_gAN (fun _ => ?_)
    | refine fr_kif ?_ ?_
    | refine fr_nul ?_ (fun _ => ?_)
    | refine fr_may (fun _ => ?_)
    | refine fr_kdv ?_
    | refine fr_pI (by assumption) (by decide) (fun _ _ => ?_)
    | refine fr_pR (by assumption) (fun _ _ => ?_)
    | refine fr_pAI (by assumption) (by decide) (fun _ _ => ?_)
    | refine fr_pAZ (by assumption) (by decide) (fun _ _ => ?_)
    | refine fr_pAL (by assumption) (fun _ _ => ?_)
    | refine fr_pAN (by assumption) (fun _ _ => ?_)
    | refine fr_nw (by assumption) (fun _ _ _ => ?_)
    | refine fr_nwM (by assumption) (fun _ _ _ => ?_)
    | refine fr_callV (fr_f_X9_isWithin _ _ _ _) (by assumption) (fun _ _ _ => ?_)
    | refine fr_bind (fr_f_X9_isWithin _ _ _ _) (by assumption) (fun _ _ _ => ?_)
    | refine fr_binI (fr_f_X9_isWithin _ _ _ _) (by assumption) (fun _ _ _ => ?_))
theorem ro_f_X9_readingNumbered  (p0 : Nat) (p1 : Int32) (h : KH) : RO h (f_X9_readingNumbered p0 p1 h) := by
  unfold f_X9_readingNumbered
  repeat' with_reducible (first
    | exact ro_ret
    | exact ro_retZ
    | exact ro_retC
    | exact ro_thr
    | exact ro_none
    | exact ro_f_X9_isWithin _ _ _ _
    | refine ro_gI (fun _ => ?_)
    | refine ro_gR (fun _ => ?_)
    | refine ro_gN (fun _ => ?_)
    | refine ro_gAI (fun _ => ?_)
    | refine ro_gAL (fun _ => ?_)
    | refine ro_gAN (fun _ => ?_)
    | refine ro_kif ?_ ?_
    | refine ro_nul ?_ (fun _ => ?_)
    | refine ro_may (fun _ => ?_)
    | refine ro_kdv ?_
    | refine ro_callV (ro_f_X9_isWithin _ _ _ _) (fun _ => ?_)
    | refine ro_bind (ro_f_X9_isWithin _ _ _ _) (fun _ => ?_)
    | refine ro_binI (ro_f_X9_isWithin _ _ _ _) (fun _ => ?_))
theorem fr_X9_correct_b20  (v0 : Nat) (v3 : Nat) (s0 : Option Nat) (h : KH) : FR h (X9_correct_b20 v0 v3 s0 h) := by
  unfold X9_correct_b20
  have q0 : FL h h := FL.rf h
  repeat' with_reducible (first
    | exact fr_ret (by assumption)
    | exact fr_retZ (by assumption)
    | exact fr_retC (by assumption)
    | exact fr_thr (by assumption)
    | exact fr_none
    | exact fr_go (fr_f_X9_numberOf _ _) (by assumption)
    | exact fr_go (fr_f_X9_move _ _ _ _) (by assumption)
    | refine fr_gI (fun _ => ?_)
    | refine fr_gR (fun _ => ?_)
    | refine fr_gN (fun _ => ?_)
    | refine fr_gAI (fun _ => ?_)
    | refine fr_gAL (fun _ => ?_)
    | refine fr_gAN (fun _ => ?_)
    | refine fr_kif ?_ ?_
    | refine fr_nul ?_ (fun _ => ?_)
    | refine fr_may (fun _ => ?_)
    | refine fr_kdv ?_
    | refine fr_pI (by assumption) (by decide) (fun _ _ => ?_)
    | refine fr_pR (by assumption) (fun _ _ => ?_)
    | refine fr_pAI (by assumption) (by decide) (fun _ _ => ?_)
    | refine fr_pAZ (by assumption) (by decide) (fun _ _ => ?_)
    | refine fr_pAL (by assumption) (fun _ _ => ?_)
    | refine fr_pAN (by assumption) (fun _ _ => ?_)
    | refine fr_nw (by assumption) (fun _ _ _ => ?_)
    | refine fr_nwM (by assumption) (fun _ _ _ => ?_)
    | refine fr_callV (fr_f_X9_numberOf _ _) (by assumption) (fun _ _ _ => ?_)
    | refine fr_bind (fr_f_X9_numberOf _ _) (by assumption) (fun _ _ _ => ?_)
    | refine fr_binI (fr_f_X9_numberOf _ _) (by assumption) (fun _ _ _ => ?_)
    | refine fr_callV (fr_f_X9_move _ _ _ _) (by assumption) (fun _ _ _ => ?_)
    | refine fr_bind (fr_f_X9_move _ _ _ _) (by assumption) (fun _ _ _ => ?_)
    | refine fr_binI (fr_f_X9_move _ _ _ _) (by assumption) (fun _ _ _ => ?_))
theorem fr_f_X9_correct  (p0 : Nat) (p1 : Int32) (p2 : Int32) (h : KH) : FR h (f_X9_correct p0 p1 p2 h) := by
  unfold f_X9_correct
  have q0 : FL h h := FL.rf h
  repeat' with_reducible (first
    | exact fr_ret (by assumption)
    | exact fr_retZ (by assumption)
    | exact fr_retC (by assumption)
    | exact fr_thr (by assumption)
    | exact fr_none
    | exact fr_go (fr_f_X9_readingNumbered _ _ _) (by assumption)
    | exact fr_go (fr_X9_correct_b20 _ _ _ _) (by assumption)
    | exact fr_go (fr_f_X9_plateNumbered _ _ _) (by assumption)
    | refine fr_gI (fun _ => ?_)
    | refine fr_gR (fun _ => ?_)
    | refine fr_gN (fun _ => ?_)
    | refine fr_gAI (fun _ => ?_)
    | refine fr_gAL (fun _ => ?_)
    | refine fr_gAN (fun _ => ?_)
    | refine fr_kif ?_ ?_
    | refine fr_nul ?_ (fun _ => ?_)
    | refine fr_may (fun _ => ?_)
    | refine fr_kdv ?_
    | refine fr_pI (by assumption) (by decide) (fun _ _ => ?_)
    | refine fr_pR (by assumption) (fun _ _ => ?_)
    | refine fr_pAI (by assumption) (by decide) (fun _ _ => ?_)
    | refine fr_pAZ (by assumption) (by decide) (fun _ _ => ?_)
    | refine fr_pAL (by assumption) (fun _ _ => ?_)
    | refine fr_pAN (by assumption) (fun _ _ => ?_)
    | refine fr_nw (by assumption) (fun _ _ _ => ?_)
    | refine fr_nwM (by assumption) (fun _ _ _ => ?_)
    | refine fr_callV (fr_f_X9_readingNumbered _ _ _) (by assumption) (fun _ _ _ => ?_)
    | refine fr_bind (fr_f_X9_readingNumbered _ _ _) (by assumption) (fun _ _ _ => ?_)
    | refine fr_binI (fr_f_X9_readingNumbered _ _ _) (by assumption) (fun _ _ _ => ?_)
    | refine fr_callV (fr_X9_correct_b20 _ _ _ _) (by assumption) (fun _ _ _ => ?_)
    | refine fr_bind (fr_X9_correct_b20 _ _ _ _) (by assumption) (fun _ _ _ => ?_)
    | refine fr_binI (fr_X9_correct_b20 _ _ _ _) (by assumption) (fun _ _ _ => ?_)
    | refine fr_callV (fr_f_X9_plateNumbered _ _ _) (by assumption) (fun _ _ _ => ?_)
    | refine fr_bind (fr_f_X9_plateNumbered _ _ _) (by assumption) (fun _ _ _ => ?_)
    | refine fr_binI (fr_f_X9_plateNumbered _ _ _) (by assumption) (fun _ _ _ => ?_))
theorem fr_f_X9_uncorrect  (p0 : Nat) (p1 : Int32) (h : KH) : FR h (f_X9_uncorrect p0 p1 h) := by
  unfold f_X9_uncorrect
  have q0 : FL h h := FL.rf h
  repeat' with_reducible (first
    | exact fr_ret (by assumption)
    | exact fr_retZ (by assumption)
    | exact fr_retC (by assumption)
    | exact fr_thr (by assumption)
    | exact fr_none
    | exact fr_go (fr_f_X9_readingNumbered _ _ _) (by assumption)
    | exact fr_go (fr_f_X9_plateByText _ _ _) (by assumption)
    | exact fr_go (fr_f_X9_move _ _ _ _) (by assumption)
    | exact fr_go (fr_f_X9_numberOf _ _) (by assumption)
    | refine fr_gI (fun _ => ?_)
    | refine fr_gR (fun _ => ?_)
    | refine fr_gN (fun _ => ?_)
    | refine fr_gAI (fun _ => ?_)
    | refine fr_gAL (fun _ => ?_)
    | refine fr_gAN (fun _ => ?_)
    | refine fr_kif ?_ ?_
    | refine fr_nul ?_ (fun _ => ?_)
    | refine fr_may (fun _ => ?_)
    | refine fr_kdv ?_
    | refine fr_pI (by assumption) (by decide) (fun _ _ => ?_)
    | refine fr_pR (by assumption) (fun _ _ => ?_)
    | refine fr_pAI (by assumption) (by decide) (fun _ _ => ?_)
    | refine fr_pAZ (by assumption) (by decide) (fun _ _ => ?_)
    | refine fr_pAL (by assumption) (fun _ _ => ?_)
    | refine fr_pAN (by assumption) (fun _ _ => ?_)
    | refine fr_nw (by assumption) (fun _ _ _ => ?_)
    | refine fr_nwM (by assumption) (fun _ _ _ => ?_)
    | refine fr_callV (fr_f_X9_readingNumbered _ _ _) (by assumption) (fun _ _ _ => ?_)
    | refine fr_bind (fr_f_X9_readingNumbered _ _ _) (by assumption) (fun _ _ _ => ?_)
    | refine fr_binI (fr_f_X9_readingNumbered _ _ _) (by assumption) (fun _ _ _ => ?_)
    | refine fr_callV (fr_f_X9_plateByText _ _ _) (by assumption) (fun _ _ _ => ?_)
    | refine fr_bind (fr_f_X9_plateByText _ _ _) (by assumption) (fun _ _ _ => ?_)
    | refine fr_binI (fr_f_X9_plateByText _ _ _) (by assumption) (fun _ _ _ => ?_)
    | refine fr_callV (fr_f_X9_move _ _ _ _) (by assumption) (fun _ _ _ => ?_)
    | refine fr_bind (fr_f_X9_move _ _ _ _) (by assumption) (fun _ _ _ => ?_)
    | refine fr_binI (fr_f_X9_move _ _ _ _) (by assumption) (fun _ _ _ => ?_)
    | refine fr_callV (fr_f_X9_numberOf _ _) (by assumption) (fun _ _ _ => ?_)
    | refine fr_bind (fr_f_X9_numberOf _ _) (by assumption) (fun _ _ _ => ?_)
    | refine fr_binI (fr_f_X9_numberOf _ _) (by assumption) (fun _ _ _ => ?_))
theorem fr_f_X9_plateOf  (p0 : Nat) (p1 : Int32) (h : KH) : FR h (f_X9_plateOf p0 p1 h) := by
  unfold f_X9_plateOf
  have q0 : FL h h := FL.rf h
  repeat' with_reducible (first
    | exact fr_ret (by assumption)
    | exact fr_retZ (by assumption)
    | exact fr_retC (by assumption)
    | exact fr_thr (by assumption)
    | exact fr_none
    | exact fr_go (fr_f_X9_readingNumbered _ _ _) (by assumption)
    | exact fr_go (fr_f_X9_numberOf _ _) (by assumption)
    | refine fr_gI (fun _ => ?_)
    | refine fr_gR (fun _ => ?_)
    | refine fr_gN (fun _ => ?_)
    | refine fr_gAI (fun _ => ?_)
    | refine fr_gAL (fun _ => ?_)
    | refine fr_gAN (fun _ => ?_)
    | refine fr_kif ?_ ?_
    | refine fr_nul ?_ (fun _ => ?_)
    | refine fr_may (fun _ => ?_)
    | refine fr_kdv ?_
    | refine fr_pI (by assumption) (by decide) (fun _ _ => ?_)
    | refine fr_pR (by assumption) (fun _ _ => ?_)
    | refine fr_pAI (by assumption) (by decide) (fun _ _ => ?_)
    | refine fr_pAZ (by assumption) (by decide) (fun _ _ => ?_)
    | refine fr_pAL (by assumption) (fun _ _ => ?_)
    | refine fr_pAN (by assumption) (fun _ _ => ?_)
    | refine fr_nw (by assumption) (fun _ _ _ => ?_)
    | refine fr_nwM (by assumption) (fun _ _ _ => ?_)
    | refine fr_callV (fr_f_X9_readingNumbered _ _ _) (by assumption) (fun _ _ _ => ?_)
    | refine fr_bind (fr_f_X9_readingNumbered _ _ _) (by assumption) (fun _ _ _ => ?_)
    | refine fr_binI (fr_f_X9_readingNumbered _ _ _) (by assumption) (fun _ _ _ => ?_)
    | refine fr_callV (fr_f_X9_numberOf _ _) (by assumption) (fun _ _ _ => ?_)
    | refine fr_bind (fr_f_X9_numberOf _ _) (by assumption) (fun _ _ _ => ?_)
    | refine fr_binI (fr_f_X9_numberOf _ _) (by assumption) (fun _ _ _ => ?_))
theorem ro_f_X9_plateOf  (p0 : Nat) (p1 : Int32) (h : KH) : RO h (f_X9_plateOf p0 p1 h) := by
  unfold f_X9_plateOf
  repeat' with_reducible (first
    | exact ro_ret
    | exact ro_retZ
    | exact ro_retC
    | exact ro_thr
    | exact ro_none
    | exact ro_f_X9_readingNumbered _ _ _
    | exact ro_f_X9_numberOf _ _
    | refine ro_gI (fun _ => ?_)
    | refine ro_gR (fun _ => ?_)
    | refine ro_gN (fun _ => ?_)
    | refine ro_gAI (fun _ => ?_)
    | refine ro_gAL (fun _ => ?_)
    | refine ro_gAN (fun _ => ?_)
    | refine ro_kif ?_ ?_
    | refine ro_nul ?_ (fun _ => ?_)
    | refine ro_may (fun _ => ?_)
    | refine ro_kdv ?_
    | refine ro_callV (ro_f_X9_readingNumbered _ _ _) (fun _ => ?_)
    | refine ro_bind (ro_f_X9_readingNumbered _ _ _) (fun _ => ?_)
    | refine ro_binI (ro_f_X9_readingNumbered _ _ _) (fun _ => ?_)
    | refine ro_callV (ro_f_X9_numberOf _ _) (fun _ => ?_)
    | refine ro_bind (ro_f_X9_numberOf _ _) (fun _ => ?_)
    | refine ro_binI (ro_f_X9_numberOf _ _) (fun _ => ?_))
theorem fr_f_X9_cost  (p0 : Nat) (p1 : Int32) (p2 : Int32) (h : KH) : FR h (f_X9_cost p0 p1 p2 h) := by
  unfold f_X9_cost
  have q0 : FL h h := FL.rf h
  repeat' with_reducible (first
    | exact fr_ret (by assumption)
    | exact fr_retZ (by assumption)
    | exact fr_retC (by assumption)
    | exact fr_thr (by assumption)
    | exact fr_none
    | exact fr_go (fr_f_X9_readingNumbered _ _ _) (by assumption)
    | exact fr_go (fr_f_X9_plateNumbered _ _ _) (by assumption)
    | exact fr_go (fr_f_X2_costOf _ _ _ _) (by assumption)
    | refine fr_gI (fun _ => ?_)
    | refine fr_gR (fun _ => ?_)
    | refine fr_gN (fun _ => ?_)
    | refine fr_gAI (fun _ => ?_)
    | refine fr_gAL (fun _ => ?_)
    | refine fr_gAN (fun _ => ?_)
    | refine fr_kif ?_ ?_
    | refine fr_nul ?_ (fun _ => ?_)
    | refine fr_may (fun _ => ?_)
    | refine fr_kdv ?_
    | refine fr_pI (by assumption) (by decide) (fun _ _ => ?_)
    | refine fr_pR (by assumption) (fun _ _ => ?_)
    | refine fr_pAI (by assumption) (by decide) (fun _ _ => ?_)
    | refine fr_pAZ (by assumption) (by decide) (fun _ _ => ?_)
    | refine fr_pAL (by assumption) (fun _ _ => ?_)
    | refine fr_pAN (by assumption) (fun _ _ => ?_)
    | refine fr_nw (by assumption) (fun _ _ _ => ?_)
    | refine fr_nwM (by assumption) (fun _ _ _ => ?_)
    | refine fr_callV (fr_f_X9_readingNumbered _ _ _) (by assumption) (fun _ _ _ => ?_)
    | refine fr_bind (fr_f_X9_readingNumbered _ _ _) (by assumption) (fun _ _ _ => ?_)
    | refine fr_binI (fr_f_X9_readingNumbered _ _ _) (by assumption) (fun _ _ _ => ?_)
    | refine fr_callV (fr_f_X9_plateNumbered _ _ _) (by assumption) (fun _ _ _ => ?_)
    | refine fr_bind (fr_f_X9_plateNumbered _ _ _) (by assumption) (fun _ _ _ => ?_)
    | refine fr_binI (fr_f_X9_plateNumbered _ _ _) (by assumption) (fun _ _ _ => ?_)
    | refine fr_callV (fr_f_X2_costOf _ _ _ _) (by assumption) (fun _ _ _ => ?_)
    | refine fr_bind (fr_f_X2_costOf _ _ _ _) (by assumption) (fun _ _ _ => ?_)
    | refine fr_binI (fr_f_X2_costOf _ _ _ _) (by assumption) (fun _ _ _ => ?_))
theorem ro_f_X9_cost  (p0 : Nat) (p1 : Int32) (p2 : Int32) (h : KH) : RO h (f_X9_cost p0 p1 p2 h) := by
  unfold f_X9_cost
  repeat' with_reducible (first
    | exact ro_ret
    | exact ro_retZ
    | exact ro_retC
    | exact ro_thr
    | exact ro_none
    | exact ro_f_X9_readingNumbered _ _ _
    | exact ro_f_X9_plateNumbered _ _ _
    | exact ro_f_X2_costOf _ _ _ _
    | refine ro_gI (fun _ => ?_)
    | refine ro_gR (fun _ => ?_)
    | refine ro_gN (fun _ => ?_)
    | refine ro_gAI (fun _ => ?_)
    | refine ro_gAL (fun _ => ?_)
    | refine ro_gAN (fun _ => ?_)
    | refine ro_kif ?_ ?_
    | refine ro_nul ?_ (fun _ => ?_)
    | refine ro_may (fun _ => ?_)
    | refine ro_kdv ?_
    | refine ro_callV (ro_f_X9_readingNumbered _ _ _) (fun _ => ?_)
    | refine ro_bind (ro_f_X9_readingNumbered _ _ _) (fun _ => ?_)
    | refine ro_binI (ro_f_X9_readingNumbered _ _ _) (fun _ => ?_)
    | refine ro_callV (ro_f_X9_plateNumbered _ _ _) (fun _ => ?_)
    | refine ro_bind (ro_f_X9_plateNumbered _ _ _) (fun _ => ?_)
    | refine ro_binI (ro_f_X9_plateNumbered _ _ _) (fun _ => ?_)
    | refine ro_callV (ro_f_X2_costOf _ _ _ _) (fun _ => ?_)
    | refine ro_bind (ro_f_X2_costOf _ _ _ _) (fun _ => ?_)
    | refine ro_binI (ro_f_X2_costOf _ _ _ _) (fun _ => ?_))
theorem fr_X3_beginningsAhead_b21 (rc4 : Nat → Int32 → Int32 → Int32 → KH → KO Int32) (hr4 : ∀ (u0 : Nat) (u1 : Int32) (u2 : Int32) (u3 : Int32) (u4 : KH), FR u4 (rc4 u0 u1 u2 u3 u4)) (v0 : Nat) (v1 : Int32) (v2 : Int32) (v3 : Int32) (h : KH) : FR h (X3_beginningsAhead_b21 rc4 v0 v1 v2 v3 h) := by
  unfold X3_beginningsAhead_b21
  have q0 : FL h h := FL.rf h
  repeat' with_reducible (first
    | exact fr_ret (by assumption)
    | exact fr_retZ (by assumption)
    | exact fr_retC (by assumption)
    | exact fr_thr (by assumption)
    | exact fr_none
    | exact fr_go (hr4 _ _ _ _ _) (by assumption)
    | refine fr_gI (fun _ => ?_)
    | refine fr_gR (fun _ => ?_)
    | refine fr_gN (fun _ => ?_)
    | refine fr_gAI (fun _ => ?_)
    | refine fr_gAL (fun _ => ?_)
    | refine fr_gAN (fun _ => ?_)
    | refine fr_kif ?_ ?_
    | refine fr_nul ?_ (fun _ => ?_)
    | refine fr_may (fun _ => ?_)
    | refine fr_kdv ?_
    | refine fr_pI (by assumption) (by decide) (fun _ _ => ?_)
    | refine fr_pR (by assumption) (fun _ _ => ?_)
    | refine fr_pAI (by assumption) (by decide) (fun _ _ => ?_)
    | refine fr_pAZ (by assumption) (by decide) (fun _ _ => ?_)
    | refine fr_pAL (by assumption) (fun _ _ => ?_)
    | refine fr_pAN (by assumption) (fun _ _ => ?_)
    | refine fr_nw (by assumption) (fun _ _ _ => ?_)
    | refine fr_nwM (by assumption) (fun _ _ _ => ?_)
    | refine fr_callV (hr4 _ _ _ _ _) (by assumption) (fun _ _ _ => ?_)
    | refine fr_bind (hr4 _ _ _ _ _) (by assumption) (fun _ _ _ => ?_)
    | refine fr_binI (hr4 _ _ _ _ _) (by assumption) (fun _ _ _ => ?_))
theorem ro_X3_beginningsAhead_b21 (rc4 : Nat → Int32 → Int32 → Int32 → KH → KO Int32) (hr4 : ∀ (u0 : Nat) (u1 : Int32) (u2 : Int32) (u3 : Int32) (u4 : KH), RO u4 (rc4 u0 u1 u2 u3 u4)) (v0 : Nat) (v1 : Int32) (v2 : Int32) (v3 : Int32) (h : KH) : RO h (X3_beginningsAhead_b21 rc4 v0 v1 v2 v3 h) := by
  unfold X3_beginningsAhead_b21
  repeat' with_reducible (first
    | exact ro_ret
    | exact ro_retZ
    | exact ro_retC
    | exact ro_thr
    | exact ro_none
    | exact hr4 _ _ _ _ _
    | refine ro_gI (fun _ => ?_)
    | refine ro_gR (fun _ => ?_)
    | refine ro_gN (fun _ => ?_)
    | refine ro_gAI (fun _ => ?_)
    | refine ro_gAL (fun _ => ?_)
    | refine ro_gAN (fun _ => ?_)
    | refine ro_kif ?_ ?_
    | refine ro_nul ?_ (fun _ => ?_)
    | refine ro_may (fun _ => ?_)
    | refine ro_kdv ?_
    | refine ro_callV (hr4 _ _ _ _ _) (fun _ => ?_)
    | refine ro_bind (hr4 _ _ _ _ _) (fun _ => ?_)
    | refine ro_binI (hr4 _ _ _ _ _) (fun _ => ?_))
theorem fr_X3_beginningsAhead_b4 (rc4 : Nat → Int32 → Int32 → Int32 → KH → KO Int32) (hr4 : ∀ (u0 : Nat) (u1 : Int32) (u2 : Int32) (u3 : Int32) (u4 : KH), FR u4 (rc4 u0 u1 u2 u3 u4)) (v0 : Nat) (v1 : Int32) (v2 : Int32) (v3 : Int32) (h : KH) : FR h (X3_beginningsAhead_b4 rc4 v0 v1 v2 v3 h) := by
  unfold X3_beginningsAhead_b4
  have q0 : FL h h := FL.rf h
  repeat' with_reducible (first
    | exact fr_ret (by assumption)
    | exact fr_retZ (by assumption)
    | exact fr_retC (by assumption)
    | exact fr_thr (by assumption)
    | exact fr_none
    | exact fr_go (hr4 _ _ _ _ _) (by assumption)
    | exact fr_go (fr_X3_beginningsAhead_b21 _ (by assumption) _ _ _ _ _) (by assumption)
    | refine fr_gI (fun _ => ?_)
    | refine fr_gR (fun _ => ?_)
    | refine fr_gN (fun _ => ?_)
    | refine fr_gAI (fun _ => ?_)
    | refine fr_gAL (fun _ => ?_)
    | refine fr_gAN (fun _ => ?_)
    | refine fr_kif ?_ ?_
    | refine fr_nul ?_ (fun _ => ?_)
    | refine fr_may (fun _ => ?_)
    | refine fr_kdv ?_
    | refine fr_pI (by assumption) (by decide) (fun _ _ => ?_)
    | refine fr_pR (by assumption) (fun _ _ => ?_)
    | refine fr_pAI (by assumption) (by decide) (fun _ _ => ?_)
    | refine fr_pAZ (by assumption) (by decide) (fun _ _ => ?_)
    | refine fr_pAL (by assumption) (fun _ _ => ?_)
    | refine fr_pAN (by assumption) (fun _ _ => ?_)
    | refine fr_nw (by assumption) (fun _ _ _ => ?_)
    | refine fr_nwM (by assumption) (fun _ _ _ => ?_)
    | refine fr_callV (hr4 _ _ _ _ _) (by assumption) (fun _ _ _ => ?_)
    | refine fr_bind (hr4 _ _ _ _ _) (by assumption) (fun _ _ _ => ?_)
    | refine fr_binI (hr4 _ _ _ _ _) (by assumption) (fun _ _ _ => ?_)
    | refine fr_callV (fr_X3_beginningsAhead_b21 _ (by assumption) _ _ _ _ _) (by assumption) (fun _ _ _ => ?_)
    | refine fr_bind (fr_X3_beginningsAhead_b21 _ (by assumption) _ _ _ _ _) (by assumption) (fun _ _ _ => ?_)
    | refine fr_binI (fr_X3_beginningsAhead_b21 _ (by assumption) _ _ _ _ _) (by assumption) (fun _ _ _ => ?_))
theorem ro_X3_beginningsAhead_b4 (rc4 : Nat → Int32 → Int32 → Int32 → KH → KO Int32) (hr4 : ∀ (u0 : Nat) (u1 : Int32) (u2 : Int32) (u3 : Int32) (u4 : KH), RO u4 (rc4 u0 u1 u2 u3 u4)) (v0 : Nat) (v1 : Int32) (v2 : Int32) (v3 : Int32) (h : KH) : RO h (X3_beginningsAhead_b4 rc4 v0 v1 v2 v3 h) := by
  unfold X3_beginningsAhead_b4
  repeat' with_reducible (first
    | exact ro_ret
    | exact ro_retZ
    | exact ro_retC
    | exact ro_thr
    | exact ro_none
    | exact hr4 _ _ _ _ _
    | exact ro_X3_beginningsAhead_b21 _ (by assumption) _ _ _ _ _
    | refine ro_gI (fun _ => ?_)
    | refine ro_gR (fun _ => ?_)
    | refine ro_gN (fun _ => ?_)
    | refine ro_gAI (fun _ => ?_)
    | refine ro_gAL (fun _ => ?_)
    | refine ro_gAN (fun _ => ?_)
    | refine ro_kif ?_ ?_
    | refine ro_nul ?_ (fun _ => ?_)
    | refine ro_may (fun _ => ?_)
    | refine ro_kdv ?_
    | refine ro_callV (hr4 _ _ _ _ _) (fun _ => ?_)
    | refine ro_bind (hr4 _ _ _ _ _) (fun _ => ?_)
    | refine ro_binI (hr4 _ _ _ _ _) (fun _ => ?_)
    | refine ro_callV (ro_X3_beginningsAhead_b21 _ (by assumption) _ _ _ _ _) (fun _ => ?_)
    | refine ro_bind (ro_X3_beginningsAhead_b21 _ (by assumption) _ _ _ _ _) (fun _ => ?_)
    | refine ro_binI (ro_X3_beginningsAhead_b21 _ (by assumption) _ _ _ _ _) (fun _ => ?_))
theorem fr_X3_beginningsAhead_L4  : ∀ (m : Nat) (u0 : Nat) (u1 : Int32) (u2 : Int32) (u3 : Int32) (u4 : KH), FR u4 (X3_beginningsAhead_L4  m u0 u1 u2 u3 u4) := by
  intro m
  induction m with
  | zero => intro u0 u1 u2 u3 u4; exact fr_none
  | succ m ih => intro u0 u1 u2 u3 u4; exact fr_X3_beginningsAhead_b4 (X3_beginningsAhead_L4  m) ih u0 u1 u2 u3 u4
theorem ro_X3_beginningsAhead_L4  : ∀ (m : Nat) (u0 : Nat) (u1 : Int32) (u2 : Int32) (u3 : Int32) (u4 : KH), RO u4 (X3_beginningsAhead_L4  m u0 u1 u2 u3 u4) := by
  intro m
  induction m with
  | zero => intro u0 u1 u2 u3 u4; exact ro_none
  | succ m ih => intro u0 u1 u2 u3 u4; exact ro_X3_beginningsAhead_b4 (X3_beginningsAhead_L4  m) ih u0 u1 u2 u3 u4
theorem fr_f_X3_beginningsAhead  (p0 : Nat) (p1 : Int32) (h : KH) : FR h (f_X3_beginningsAhead p0 p1 h) := by
  unfold f_X3_beginningsAhead
  have q0 : FL h h := FL.rf h
  repeat' with_reducible (first
    | exact fr_ret (by assumption)
    | exact fr_retZ (by assumption)
    | exact fr_retC (by assumption)
    | exact fr_thr (by assumption)
    | exact fr_none
    | exact fr_go (fr_X3_beginningsAhead_L4 _ _ _ _ _ _) (by assumption)
    | refine fr_gI (fun _ => ?_)
    | refine fr_gR (fun _ => ?_)
    | refine fr_gN (fun _ => ?_)
    | refine fr_gAI (fun _ => ?_)
    | refine fr_gAL (fun _ => ?_)
    | refine fr_gAN (fun _ => ?_)
    | refine fr_kif ?_ ?_
    | refine fr_nul ?_ (fun _ => ?_)
    | refine fr_may (fun _ => ?_)
    | refine fr_kdv ?_
    | refine fr_pI (by assumption) (by decide) (fun _ _ => ?_)
    | refine fr_pR (by assumption) (fun _ _ => ?_)
    | refine fr_pAI (by assumption) (by decide) (fun _ _ => ?_)
    | refine fr_pAZ (by assumption) (by decide) (fun _ _ => ?_)
    | refine fr_pAL (by assumption) (fun _ _ => ?_)
    | refine fr_pAN (by assumption) (fun _ _ => ?_)
    | refine fr_nw (by assumption) (fun _ _ _ => ?_)
    | refine fr_nwM (by assumption) (fun _ _ _ => ?_)
    | refine fr_callV (fr_X3_beginningsAhead_L4 _ _ _ _ _ _) (by assumption) (fun _ _ _ => ?_)
    | refine fr_bind (fr_X3_beginningsAhead_L4 _ _ _ _ _ _) (by assumption) (fun _ _ _ => ?_)
    | refine fr_binI (fr_X3_beginningsAhead_L4 _ _ _ _ _ _) (by assumption) (fun _ _ _ => ?_))
theorem ro_f_X3_beginningsAhead  (p0 : Nat) (p1 : Int32) (h : KH) : RO h (f_X3_beginningsAhead p0 p1 h) := by
  unfold f_X3_beginningsAhead
  repeat' with_reducible (first
    | exact ro_ret
    | exact ro_retZ
    | exact ro_retC
    | exact ro_thr
    | exact ro_none
    | exact ro_X3_beginningsAhead_L4 _ _ _ _ _ _
    | refine ro_gI (fun _ => ?_)
    | refine ro_gR (fun _ => ?_)
    | refine ro_gN (fun _ => ?_)
    | refine ro_gAI (fun _ => ?_)
    | refine ro_gAL (fun _ => ?_)
    | refine ro_gAN (fun _ => ?_)
    | refine ro_kif ?_ ?_
    | refine ro_nul ?_ (fun _ => ?_)
    | refine ro_may (fun _ => ?_)
    | refine ro_kdv ?_
    | refine ro_callV (ro_X3_beginningsAhead_L4 _ _ _ _ _ _) (fun _ => ?_)
    | refine ro_bind (ro_X3_beginningsAhead_L4 _ _ _ _ _ _) (fun _ => ?_)
    | refine ro_binI (ro_X3_beginningsAhead_L4 _ _ _ _ _ _) (fun _ => ?_))
theorem fr_f_X3_tripCount  (p0 : Nat) (h : KH) : FR h (f_X3_tripCount p0 h) := by
  unfold f_X3_tripCount
  have q0 : FL h h := FL.rf h
  repeat' with_reducible (first
    | exact fr_ret (by assumption)
    | exact fr_retZ (by assumption)
    | exact fr_retC (by assumption)
    | exact fr_thr (by assumption)
    | exact fr_none
    | exact fr_go (fr_f_X3_beginningsAhead _ _ _) (by assumption)
    | refine fr_gI (fun _ => ?_)
    | refine fr_gR (fun _ => ?_)
    | refine fr_gN (fun _ => ?_)
    | refine fr_gAI (fun _ => ?_)
    | refine fr_gAL (fun _ => ?_)
    | refine fr_gAN (fun _ => ?_)
    | refine fr_kif ?_ ?_
    | refine fr_nul ?_ (fun _ => ?_)
    | refine fr_may (fun _ => ?_)
    | refine fr_kdv ?_
    | refine fr_pI (by assumption) (by decide) (fun _ _ => ?_)
    | refine fr_pR (by assumption) (fun _ _ => ?_)
    | refine fr_pAI (by assumption) (by decide) (fun _ _ => ?_)
    | refine fr_pAZ (by assumption) (by decide) (fun _ _ => ?_)
    | refine fr_pAL (by assumption) (fun _ _ => ?_)
    | refine fr_pAN (by assumption) (fun _ _ => ?_)
    | refine fr_nw (by assumption) (fun _ _ _ => ?_)
    | refine fr_nwM (by assumption) (fun _ _ _ => ?_)
    | refine fr_callV (fr_f_X3_beginningsAhead _ _ _) (by assumption) (fun _ _ _ => ?_)
    | refine fr_bind (fr_f_X3_beginningsAhead _ _ _) (by assumption) (fun _ _ _ => ?_)
    | refine fr_binI (fr_f_X3_beginningsAhead _ _ _) (by assumption) (fun _ _ _ => ?_))
theorem ro_f_X3_tripCount  (p0 : Nat) (h : KH) : RO h (f_X3_tripCount p0 h) := by
  unfold f_X3_tripCount
  repeat' with_reducible (first
    | exact ro_ret
    | exact ro_retZ
    | exact ro_retC
    | exact ro_thr
    | exact ro_none
    | exact ro_f_X3_beginningsAhead _ _ _
    | refine ro_gI (fun _ => ?_)
    | refine ro_gR (fun _ => ?_)
    | refine ro_gN (fun _ => ?_)
    | refine ro_gAI (fun _ => ?_)
    | refine ro_gAL (fun _ => ?_)
    | refine ro_gAN (fun _ => ?_)
    | refine ro_kif ?_ ?_
    | refine ro_nul ?_ (fun _ => ?_)
    | refine ro_may (fun _ => ?_)
    | refine ro_kdv ?_
    | refine ro_callV (ro_f_X3_beginningsAhead _ _ _) (fun _ => ?_)
    | refine ro_bind (ro_f_X3_beginningsAhead _ _ _) (fun _ => ?_)
    | refine ro_binI (ro_f_X3_beginningsAhead _ _ _) (fun _ => ?_))
theorem fr_f_X9_trips  (p0 : Nat) (p1 : Int32) (h : KH) : FR h (f_X9_trips p0 p1 h) := by
  unfold f_X9_trips
  have q0 : FL h h := FL.rf h
  repeat' with_reducible (first
    | exact fr_ret (by assumption)
    | exact fr_retZ (by assumption)
    | exact fr_retC (by assumption)
    | exact fr_thr (by assumption)
    | exact fr_none
    | exact fr_go (fr_f_X9_plateNumbered _ _ _) (by assumption)
    | exact fr_go (fr_f_X3_tripCount _ _) (by assumption)
    | refine fr_gI (fun _ => ?_)
    | refine fr_gR (fun _ => ?_)
    | refine fr_gN (fun _ => ?_)
    | refine fr_gAI (fun _ => ?_)
    | refine fr_gAL (fun _ => ?_)
    | refine fr_gAN (fun _ => ?_)
    | refine fr_kif ?_ ?_
    | refine fr_nul ?_ (fun _ => ?_)
    | refine fr_may (fun _ => ?_)
    | refine fr_kdv ?_
    | refine fr_pI (by assumption) (by decide) (fun _ _ => ?_)
    | refine fr_pR (by assumption) (fun _ _ => ?_)
    | refine fr_pAI (by assumption) (by decide) (fun _ _ => ?_)
    | refine fr_pAZ (by assumption) (by decide) (fun _ _ => ?_)
    | refine fr_pAL (by assumption) (fun _ _ => ?_)
    | refine fr_pAN (by assumption) (fun _ _ => ?_)
    | refine fr_nw (by assumption) (fun _ _ _ => ?_)
    | refine fr_nwM (by assumption) (fun _ _ _ => ?_)
    | refine fr_callV (fr_f_X9_plateNumbered _ _ _) (by assumption) (fun _ _ _ => ?_)
    | refine fr_bind (fr_f_X9_plateNumbered _ _ _) (by assumption) (fun _ _ _ => ?_)
    | refine fr_binI (fr_f_X9_plateNumbered _ _ _) (by assumption) (fun _ _ _ => ?_)
    | refine fr_callV (fr_f_X3_tripCount _ _) (by assumption) (fun _ _ _ => ?_)
    | refine fr_bind (fr_f_X3_tripCount _ _) (by assumption) (fun _ _ _ => ?_)
    | refine fr_binI (fr_f_X3_tripCount _ _) (by assumption) (fun _ _ _ => ?_))
theorem ro_f_X9_trips  (p0 : Nat) (p1 : Int32) (h : KH) : RO h (f_X9_trips p0 p1 h) := by
  unfold f_X9_trips
  repeat' with_reducible (first
    | exact ro_ret
    | exact ro_retZ
    | exact ro_retC
    | exact ro_thr
    | exact ro_none
    | exact ro_f_X9_plateNumbered _ _ _
    | exact ro_f_X3_tripCount _ _
    | refine ro_gI (fun _ => ?_)
    | refine ro_gR (fun _ => ?_)
    | refine ro_gN (fun _ => ?_)
    | refine ro_gAI (fun _ => ?_)
    | refine ro_gAL (fun _ => ?_)
    | refine ro_gAN (fun _ => ?_)
    | refine ro_kif ?_ ?_
    | refine ro_nul ?_ (fun _ => ?_)
    | refine ro_may (fun _ => ?_)
    | refine ro_kdv ?_
    | refine ro_callV (ro_f_X9_plateNumbered _ _ _) (fun _ => ?_)
    | refine ro_bind (ro_f_X9_plateNumbered _ _ _) (fun _ => ?_)
    | refine ro_binI (ro_f_X9_plateNumbered _ _ _) (fun _ => ?_)
    | refine ro_callV (ro_f_X3_tripCount _ _) (fun _ => ?_)
    | refine ro_bind (ro_f_X3_tripCount _ _) (fun _ => ?_)
    | refine ro_binI (ro_f_X3_tripCount _ _) (fun _ => ?_))
theorem fr_X9_joinAnew_b48 (rc10 : Nat → Nat → Int32 → KH → KO Nat) (hr10 : ∀ (u0 : Nat) (u1 : Nat) (u2 : Int32) (u3 : KH), FR u3 (rc10 u0 u1 u2 u3)) (v0 : Nat) (v1 : Nat) (v2 : Int32) (h : KH) : FR h (X9_joinAnew_b48 rc10 v0 v1 v2 h) := by
  unfold X9_joinAnew_b48
  have q0 : FL h h := FL.rf h
  repeat' with_reducible (first
    | exact fr_ret (by assumption)
    | exact fr_retZ (by assumption)
    | exact fr_retC (by assumption)
    | exact fr_thr (by assumption)
    | exact fr_none
    | exact fr_go (hr10 _ _ _ _) (by assumption)
    | refine fr_gI (fun _ => ?_)
    | refine fr_gR (fun _ => ?_)
    | refine fr_gN (fun _ => ?_)
    | refine fr_gAI (fun _ => ?_)
    | refine fr_gAL (fun _ => ?_)
    | refine fr_gAN (fun _ => ?_)
    | refine fr_kif ?_ ?_
    | refine fr_nul ?_ (fun _ => ?_)
    | refine fr_may (fun _ => ?_)
    | refine fr_kdv ?_
    | refine fr_pI (by assumption) (by decide) (fun _ _ => ?_)
    | refine fr_pR (by assumption) (fun _ _ => ?_)
    | refine fr_pAI (by assumption) (by decide) (fun _ _ => ?_)
    | refine fr_pAZ (by assumption) (by decide) (fun _ _ => ?_)
    | refine fr_pAL (by assumption) (fun _ _ => ?_)
    | refine fr_pAN (by assumption) (fun _ _ => ?_)
    | refine fr_nw (by assumption) (fun _ _ _ => ?_)
    | refine fr_nwM (by assumption) (fun _ _ _ => ?_)
    | refine fr_callV (hr10 _ _ _ _) (by assumption) (fun _ _ _ => ?_)
    | refine fr_bind (hr10 _ _ _ _) (by assumption) (fun _ _ _ => ?_)
    | refine fr_binI (hr10 _ _ _ _) (by assumption) (fun _ _ _ => ?_))
theorem ro_X9_joinAnew_b48 (rc10 : Nat → Nat → Int32 → KH → KO Nat) (hr10 : ∀ (u0 : Nat) (u1 : Nat) (u2 : Int32) (u3 : KH), RO u3 (rc10 u0 u1 u2 u3)) (v0 : Nat) (v1 : Nat) (v2 : Int32) (h : KH) : RO h (X9_joinAnew_b48 rc10 v0 v1 v2 h) := by
  unfold X9_joinAnew_b48
  repeat' with_reducible (first
    | exact ro_ret
    | exact ro_retZ
    | exact ro_retC
    | exact ro_thr
    | exact ro_none
    | exact hr10 _ _ _ _
    | refine ro_gI (fun _ => ?_)
    | refine ro_gR (fun _ => ?_)
    | refine ro_gN (fun _ => ?_)
    | refine ro_gAI (fun _ => ?_)
    | refine ro_gAL (fun _ => ?_)
    | refine ro_gAN (fun _ => ?_)
    | refine ro_kif ?_ ?_
    | refine ro_nul ?_ (fun _ => ?_)
    | refine ro_may (fun _ => ?_)
    | refine ro_kdv ?_
    | refine ro_callV (hr10 _ _ _ _) (fun _ => ?_)
    | refine ro_bind (hr10 _ _ _ _) (fun _ => ?_)
    | refine ro_binI (hr10 _ _ _ _) (fun _ => ?_))
theorem fr_X9_joinAnew_b10 (rc10 : Nat → Nat → Int32 → KH → KO Nat) (hr10 : ∀ (u0 : Nat) (u1 : Nat) (u2 : Int32) (u3 : KH), FR u3 (rc10 u0 u1 u2 u3)) (v0 : Nat) (v1 : Nat) (v2 : Int32) (h : KH) : FR h (X9_joinAnew_b10 rc10 v0 v1 v2 h) := by
  unfold X9_joinAnew_b10
  have q0 : FL h h := FL.rf h
  repeat' with_reducible (first
    | exact fr_ret (by assumption)
    | exact fr_retZ (by assumption)
    | exact fr_retC (by assumption)
    | exact fr_thr (by assumption)
    | exact fr_none
    | exact fr_go (hr10 _ _ _ _) (by assumption)
    | exact fr_go (fr_f_X3_joinAll _ _ _) (by assumption)
    | exact fr_go (fr_f_X9_numberOf _ _) (by assumption)
    | exact fr_go (fr_f_X3_insertInOrder _ _ _) (by assumption)
    | exact fr_go (fr_X9_joinAnew_b48 _ (by assumption) _ _ _ _) (by assumption)
    | refine fr_gI (fun _ => ?_)
    | refine fr_gR (fun _ => ?_)
    | refine fr_gN (fun _ => ?_)
    | refine fr_gAI (fun _ => ?_)
    | refine fr_gAL (fun _ => ?_)
    | refine fr_gAN (fun _ => ?_)
    | refine fr_kif ?_ ?_
    | refine fr_nul ?_ (fun _ => ?_)
    | refine fr_may (fun _ => ?_)
    | refine fr_kdv ?_
    | refine fr_pI (by assumption) (by decide) (fun _ _ => ?_)
    | refine fr_pR (by assumption) (fun _ _ => ?_)
    | refine fr_pAI (by assumption) (by decide) (fun _ _ => ?_)
    | refine fr_pAZ (by assumption) (by decide) (fun _ _ => ?_)
    | refine fr_pAL (by assumption) (fun _ _ => ?_)
    | refine fr_pAN (by assumption) (fun _ _ => ?_)
    | refine fr_nw (by assumption) (fun _ _ _ => ?_)
    | refine fr_nwM (by assumption) (fun _ _ _ => ?_)
    | refine fr_callV (hr10 _ _ _ _) (by assumption) (fun _ _ _ => ?_)
    | refine fr_bind (hr10 _ _ _ _) (by assumption) (fun _ _ _ => ?_)
    | refine fr_binI (hr10 _ _ _ _) (by assumption) (fun _ _ _ => ?_)
    | refine fr_callV (fr_f_X3_joinAll _ _ _) (by assumption) (fun _ _ _ => ?_)
    | refine fr_bind (fr_f_X3_joinAll _ _ _) (by assumption) (fun _ _ _ => ?_)
    | refine fr_binI (fr_f_X3_joinAll _ _ _) (by assumption) (fun _ _ _ => ?_)
    | refine fr_callV (fr_f_X9_numberOf _ _) (by assumption) (fun _ _ _ => ?_)
    | refine fr_bind (fr_f_X9_numberOf _ _) (by assumption) (fun _ _ _ => ?_)
    | refine fr_binI (fr_f_X9_numberOf _ _) (by assumption) (fun _ _ _ => ?_)
    | refine fr_callV (fr_f_X3_insertInOrder _ _ _) (by assumption) (fun _ _ _ => ?_)
    | refine fr_bind (fr_f_X3_insertInOrder _ _ _) (by assumption) (fun _ _ _ => ?_)
    | refine fr_binI (fr_f_X3_insertInOrder _ _ _) (by assumption) (fun _ _ _ => ?_)
    | refine fr_callV (fr_X9_joinAnew_b48 _ (by assumption) _ _ _ _) (by assumption) (fun _ _ _ => ?_)
    | refine fr_bind (fr_X9_joinAnew_b48 _ (by assumption) _ _ _ _) (by assumption) (fun _ _ _ => ?_)
    | refine fr_binI (fr_X9_joinAnew_b48 _ (by assumption) _ _ _ _) (by assumption) (fun _ _ _ => ?_))
theorem fr_X9_joinAnew_L10  : ∀ (m : Nat) (u0 : Nat) (u1 : Nat) (u2 : Int32) (u3 : KH), FR u3 (X9_joinAnew_L10  m u0 u1 u2 u3) := by
  intro m
  induction m with
  | zero => intro u0 u1 u2 u3; exact fr_none
  | succ m ih => intro u0 u1 u2 u3; exact fr_X9_joinAnew_b10 (X9_joinAnew_L10  m) ih u0 u1 u2 u3
theorem fr_f_X9_joinAnew  (p0 : Nat) (p1 : Nat) (h : KH) : FR h (f_X9_joinAnew p0 p1 h) := by
  unfold f_X9_joinAnew
  have q0 : FL h h := FL.rf h
  repeat' with_reducible (first
    | exact fr_ret (by assumption)
    | exact fr_retZ (by assumption)
    | exact fr_retC (by assumption)
    | exact fr_thr (by assumption)
    | exact fr_none
    | exact fr_go (fr_X9_joinAnew_L10 _ _ _ _ _) (by assumption)
    | refine fr_gI (fun _ => ?_)
    | refine fr_gR (fun _ => ?_)
    | refine fr_gN (fun _ => ?_)
    | refine fr_gAI (fun _ => ?_)
    | refine fr_gAL (fun _ => ?_)
    | refine fr_gAN (fun _ => ?_)
    | refine fr_kif ?_ ?_
    | refine fr_nul ?_ (fun _ => ?_)
    | refine fr_may (fun _ => ?_)
    | refine fr_kdv ?_
    | refine fr_pI (by assumption) (by decide) (fun _ _ => ?_)
    | refine fr_pR (by assumption) (fun _ _ => ?_)
    | refine fr_pAI (by assumption) (by decide) (fun _ _ => ?_)
    | refine fr_pAZ (by assumption) (by decide) (fun _ _ => ?_)
    | refine fr_pAL (by assumption) (fun _ _ => ?_)
    | refine fr_pAN (by assumption) (fun _ _ => ?_)
    | refine fr_nw (by assumption) (fun _ _ _ => ?_)
    | refine fr_nwM (by assumption) (fun _ _ _ => ?_)
    | refine fr_callV (fr_X9_joinAnew_L10 _ _ _ _ _) (by assumption) (fun _ _ _ => ?_)
    | refine fr_bind (fr_X9_joinAnew_L10 _ _ _ _ _) (by assumption) (fun _ _ _ => ?_)
    | refine fr_binI (fr_X9_joinAnew_L10 _ _ _ _ _) (by assumption) (fun _ _ _ => ?_))
theorem fr_f_X9_tripsAnew  (p0 : Nat) (p1 : Int32) (h : KH) : FR h (f_X9_tripsAnew p0 p1 h) := by
  unfold f_X9_tripsAnew
  have q0 : FL h h := FL.rf h
  repeat' with_reducible (first
    | exact fr_ret (by assumption)
    | exact fr_retZ (by assumption)
    | exact fr_retC (by assumption)
    | exact fr_thr (by assumption)
    | exact fr_none
    | exact fr_go (fr_f_X9_plateNumbered _ _ _) (by assumption)
    | exact fr_go (fr_f_X9_joinAnew _ _ _) (by assumption)
    | exact fr_go (fr_f_X3_tripCount _ _) (by assumption)
    | refine fr_gI (fun _ => ?_)
    | refine fr_gR (fun _ => ?_)
    | refine fr_gN (fun _ => ?_)
    | refine fr_gAI (fun _ => ?_)
    | refine fr_gAL (fun _ => ?_)
    | refine fr_gAN (fun _ => ?_)
    | refine fr_kif ?_ ?_
    | refine fr_nul ?_ (fun _ => ?_)
    | refine fr_may (fun _ => ?_)
    | refine fr_kdv ?_
    | refine fr_pI (by assumption) (by decide) (fun _ _ => ?_)
    | refine fr_pR (by assumption) (fun _ _ => ?_)
    | refine fr_pAI (by assumption) (by decide) (fun _ _ => ?_)
    | refine fr_pAZ (by assumption) (by decide) (fun _ _ => ?_)
    | refine fr_pAL (by assumption) (fun _ _ => ?_)
    | refine fr_pAN (by assumption) (fun _ _ => ?_)
    | refine fr_nw (by assumption) (fun _ _ _ => ?_)
    | refine fr_nwM (by assumption) (fun _ _ _ => ?_)
    | refine fr_callV (fr_f_X9_plateNumbered _ _ _) (by assumption) (fun _ _ _ => ?_)
    | refine fr_bind (fr_f_X9_plateNumbered _ _ _) (by assumption) (fun _ _ _ => ?_)
    | refine fr_binI (fr_f_X9_plateNumbered _ _ _) (by assumption) (fun _ _ _ => ?_)
    | refine fr_callV (fr_f_X9_joinAnew _ _ _) (by assumption) (fun _ _ _ => ?_)
    | refine fr_bind (fr_f_X9_joinAnew _ _ _) (by assumption) (fun _ _ _ => ?_)
    | refine fr_binI (fr_f_X9_joinAnew _ _ _) (by assumption) (fun _ _ _ => ?_)
    | refine fr_callV (fr_f_X3_tripCount _ _) (by assumption) (fun _ _ _ => ?_)
    | refine fr_bind (fr_f_X3_tripCount _ _) (by assumption) (fun _ _ _ => ?_)
    | refine fr_binI (fr_f_X3_tripCount _ _) (by assumption) (fun _ _ _ => ?_))
theorem fr_f_X3_tripWith  (p0 : Nat) (p1 : Nat) (h : KH) : FR h (f_X3_tripWith p0 p1 h) := by
  unfold f_X3_tripWith
  have q0 : FL h h := FL.rf h
  repeat' with_reducible (first
    | exact fr_ret (by assumption)
    | exact fr_retZ (by assumption)
    | exact fr_retC (by assumption)
    | exact fr_thr (by assumption)
    | exact fr_none
    | exact fr_go (fr_f_X3_placeOf _ _ _) (by assumption)
    | exact fr_go (fr_f_X3_beginningsAhead _ _ _) (by assumption)
    | refine fr_gI (fun _ => ?_)
    | refine fr_gR (fun _ => ?_)
    | refine fr_gN (fun _ => ?_)
    | refine fr_gAI (fun _ => ?_)
    | refine fr_gAL (fun _ => ?_)
    | refine fr_gAN (fun _ => ?_)
    | refine fr_kif ?_ ?_
    | refine fr_nul ?_ (fun _ => ?_)
    | refine fr_may (fun _ => ?_)
    | refine fr_kdv ?_
    | refine fr_pI (by assumption) (by decide) (fun _ _ => ?_)
    | refine fr_pR (by assumption) (fun _ _ => ?_)
    | refine fr_pAI (by assumption) (by decide) (fun _ _ => ?_)
    | refine fr_pAZ (by assumption) (by decide) (fun _ _ => ?_)
    | refine fr_pAL (by assumption) (fun _ _ => ?_)
    | refine fr_pAN (by assumption) (fun _ _ => ?_)
    | refine fr_nw (by assumption) (fun _ _ _ => ?_)
    | refine fr_nwM (by assumption) (fun _ _ _ => ?_)
    | refine fr_callV (fr_f_X3_placeOf _ _ _) (by assumption) (fun _ _ _ => ?_)
    | refine fr_bind (fr_f_X3_placeOf _ _ _) (by assumption) (fun _ _ _ => ?_)
    | refine fr_binI (fr_f_X3_placeOf _ _ _) (by assumption) (fun _ _ _ => ?_)
    | refine fr_callV (fr_f_X3_beginningsAhead _ _ _) (by assumption) (fun _ _ _ => ?_)
    | refine fr_bind (fr_f_X3_beginningsAhead _ _ _) (by assumption) (fun _ _ _ => ?_)
    | refine fr_binI (fr_f_X3_beginningsAhead _ _ _) (by assumption) (fun _ _ _ => ?_))
theorem ro_f_X3_tripWith  (p0 : Nat) (p1 : Nat) (h : KH) : RO h (f_X3_tripWith p0 p1 h) := by
  unfold f_X3_tripWith
  repeat' with_reducible (first
    | exact ro_ret
    | exact ro_retZ
    | exact ro_retC
    | exact ro_thr
    | exact ro_none
    | exact ro_f_X3_placeOf _ _ _
    | exact ro_f_X3_beginningsAhead _ _ _
    | refine ro_gI (fun _ => ?_)
    | refine ro_gR (fun _ => ?_)
    | refine ro_gN (fun _ => ?_)
    | refine ro_gAI (fun _ => ?_)
    | refine ro_gAL (fun _ => ?_)
    | refine ro_gAN (fun _ => ?_)
    | refine ro_kif ?_ ?_
    | refine ro_nul ?_ (fun _ => ?_)
    | refine ro_may (fun _ => ?_)
    | refine ro_kdv ?_
    | refine ro_callV (ro_f_X3_placeOf _ _ _) (fun _ => ?_)
    | refine ro_bind (ro_f_X3_placeOf _ _ _) (fun _ => ?_)
    | refine ro_binI (ro_f_X3_placeOf _ _ _) (fun _ => ?_)
    | refine ro_callV (ro_f_X3_beginningsAhead _ _ _) (fun _ => ?_)
    | refine ro_bind (ro_f_X3_beginningsAhead _ _ _) (fun _ => ?_)
    | refine ro_binI (ro_f_X3_beginningsAhead _ _ _) (fun _ => ?_))
theorem fr_X9_tripOf_b28  (s0 : Int32) (h : KH) : FR h (X9_tripOf_b28 s0 h) := by
  unfold X9_tripOf_b28
  have q0 : FL h h := FL.rf h
  repeat' with_reducible (first
    | exact fr_ret (by assumption)
    | exact fr_retZ (by assumption)
    | exact fr_retC (by assumption)
    | exact fr_thr (by assumption)
    | exact fr_none
    | refine fr_gI (fun _ => ?_)
    | refine fr_gR (fun _ => ?_)
    | refine fr_gN (fun _ => ?_)
    | refine fr_gAI (fun _ => ?_)
    | refine fr_gAL (fun _ => ?_)
    | refine fr_gAN (fun _ => ?_)
    | refine fr_kif ?_ ?_
    | refine fr_nul ?_ (fun _ => ?_)
    | refine fr_may (fun _ => ?_)
    | refine fr_kdv ?_
    | refine fr_pI (by assumption) (by decide) (fun _ _ => ?_)
    | refine fr_pR (by assumption) (fun _ _ => ?_)
    | refine fr_pAI (by assumption) (by decide) (fun _ _ => ?_)
    | refine fr_pAZ (by assumption) (by decide) (fun _ _ => ?_)
    | refine fr_pAL (by assumption) (fun _ _ => ?_)
    | refine fr_pAN (by assumption) (fun _ _ => ?_)
    | refine fr_nw (by assumption) (fun _ _ _ => ?_)
    | refine fr_nwM (by assumption) (fun _ _ _ => ?_))
theorem ro_X9_tripOf_b28  (s0 : Int32) (h : KH) : RO h (X9_tripOf_b28 s0 h) := by
  unfold X9_tripOf_b28
  repeat' with_reducible (first
    | exact ro_ret
    | exact ro_retZ
    | exact ro_retC
    | exact ro_thr
    | exact ro_none
    | refine ro_gI (fun _ => ?_)
    | refine ro_gR (fun _ => ?_)
    | refine ro_gN (fun _ => ?_)
    | refine ro_gAI (fun _ => ?_)
    | refine ro_gAL (fun _ => ?_)
    | refine ro_gAN (fun _ => ?_)
    | refine ro_kif ?_ ?_
    | refine ro_nul ?_ (fun _ => ?_)
    | refine ro_may (fun _ => ?_)
    | refine ro_kdv ?_)
theorem fr_f_X9_tripOf  (p0 : Nat) (p1 : Int32) (h : KH) : FR h (f_X9_tripOf p0 p1 h) := by
  unfold f_X9_tripOf
  have q0 : FL h h := FL.rf h
  repeat' with_reducible (first
    | exact fr_ret (by assumption)
    | exact fr_retZ (by assumption)
    | exact fr_retC (by assumption)
    | exact fr_thr (by assumption)
    | exact fr_none
    | exact fr_go (fr_f_X9_readingNumbered _ _ _) (by assumption)
    | exact fr_go (fr_X9_tripOf_b28 _ _) (by assumption)
    | exact fr_go (fr_f_X3_tripWith _ _ _) (by assumption)
    | refine fr_gI (fun _ => ?_)
    | refine fr_gR (fun _ => ?_)
    | refine fr_gN (fun _ => ?_)
    | refine fr_gAI (fun _ => ?_)
    | refine fr_gAL (fun _ => ?_)
    | refine fr_gAN (fun _ => ?_)
    | refine fr_kif ?_ ?_
    | refine fr_nul ?_ (fun _ => ?_)
    | refine fr_may (fun _ => ?_)
    | refine fr_kdv ?_
    | refine fr_pI (by assumption) (by decide) (fun _ _ => ?_)
    | refine fr_pR (by assumption) (fun _ _ => ?_)
    | refine fr_pAI (by assumption) (by decide) (fun _ _ => ?_)
    | refine fr_pAZ (by assumption) (by decide) (fun _ _ => ?_)
    | refine fr_pAL (by assumption) (fun _ _ => ?_)
    | refine fr_pAN (by assumption) (fun _ _ => ?_)
    | refine fr_nw (by assumption) (fun _ _ _ => ?_)
    | refine fr_nwM (by assumption) (fun _ _ _ => ?_)
    | refine fr_callV (fr_f_X9_readingNumbered _ _ _) (by assumption) (fun _ _ _ => ?_)
    | refine fr_bind (fr_f_X9_readingNumbered _ _ _) (by assumption) (fun _ _ _ => ?_)
    | refine fr_binI (fr_f_X9_readingNumbered _ _ _) (by assumption) (fun _ _ _ => ?_)
    | refine fr_callV (fr_X9_tripOf_b28 _ _) (by assumption) (fun _ _ _ => ?_)
    | refine fr_bind (fr_X9_tripOf_b28 _ _) (by assumption) (fun _ _ _ => ?_)
    | refine fr_binI (fr_X9_tripOf_b28 _ _) (by assumption) (fun _ _ _ => ?_)
    | refine fr_callV (fr_f_X3_tripWith _ _ _) (by assumption) (fun _ _ _ => ?_)
    | refine fr_bind (fr_f_X3_tripWith _ _ _) (by assumption) (fun _ _ _ => ?_)
    | refine fr_binI (fr_f_X3_tripWith _ _ _) (by assumption) (fun _ _ _ => ?_))
theorem ro_f_X9_tripOf  (p0 : Nat) (p1 : Int32) (h : KH) : RO h (f_X9_tripOf p0 p1 h) := by
  unfold f_X9_tripOf
  repeat' with_reducible (first
    | exact ro_ret
    | exact ro_retZ
    | exact ro_retC
    | exact ro_thr
    | exact ro_none
    | exact ro_f_X9_readingNumbered _ _ _
    | exact ro_X9_tripOf_b28 _ _
    | exact ro_f_X3_tripWith _ _ _
    | refine ro_gI (fun _ => ?_)
    | refine ro_gR (fun _ => ?_)
    | refine ro_gN (fun _ => ?_)
    | refine ro_gAI (fun _ => ?_)
    | refine ro_gAL (fun _ => ?_)
    | refine ro_gAN (fun _ => ?_)
    | refine ro_kif ?_ ?_
    | refine ro_nul ?_ (fun _ => ?_)
    | refine ro_may (fun _ => ?_)
    | refine ro_kdv ?_
    | refine ro_callV (ro_f_X9_readingNumbered _ _ _) (fun _ => ?_)
    | refine ro_bind (ro_f_X9_readingNumbered _ _ _) (fun _ => ?_)
    | refine ro_binI (ro_f_X9_readingNumbered _ _ _) (fun _ => ?_)
    | refine ro_callV (ro_X9_tripOf_b28 _ _) (fun _ => ?_)
    | refine ro_bind (ro_X9_tripOf_b28 _ _) (fun _ => ?_)
    | refine ro_binI (ro_X9_tripOf_b28 _ _) (fun _ => ?_)
    | refine ro_callV (ro_f_X3_tripWith _ _ _) (fun _ => ?_)
    | refine ro_bind (ro_f_X3_tripWith _ _ _) (fun _ => ?_)
    | refine ro_binI (ro_f_X3_tripWith _ _ _) (fun _ => ?_))
theorem fr_X3_beginningOf_b31 (rc4 : Nat → Int32 → Int32 → Int32 → KH → KO Int32) (hr4 : ∀ (u0 : Nat) (u1 : Int32) (u2 : Int32) (u3 : Int32) (u4 : KH), FR u4 (rc4 u0 u1 u2 u3 u4)) (v0 : Nat) (v1 : Int32) (v2 : Int32) (v3 : Int32) (h : KH) : FR h (X3_beginningOf_b31 rc4 v0 v1 v2 v3 h) := by
  unfold X3_beginningOf_b31
  have q0 : FL h h := FL.rf h
  repeat' with_reducible (first
    | exact fr_ret (by assumption)
    | exact fr_retZ (by assumption)
    | exact fr_retC (by assumption)
    | exact fr_thr (by assumption)
    | exact fr_none
    | exact fr_go (hr4 _ _ _ _ _) (by assumption)
    | refine fr_gI (fun _ => ?_)
    | refine fr_gR (fun _ => ?_)
    | refine fr_gN (fun _ => ?_)
    | refine fr_gAI (fun _ => ?_)
    | refine fr_gAL (fun _ => ?_)
    | refine fr_gAN (fun _ => ?_)
    | refine fr_kif ?_ ?_
    | refine fr_nul ?_ (fun _ => ?_)
    | refine fr_may (fun _ => ?_)
    | refine fr_kdv ?_
    | refine fr_pI (by assumption) (by decide) (fun _ _ => ?_)
    | refine fr_pR (by assumption) (fun _ _ => ?_)
    | refine fr_pAI (by assumption) (by decide) (fun _ _ => ?_)
    | refine fr_pAZ (by assumption) (by decide) (fun _ _ => ?_)
    | refine fr_pAL (by assumption) (fun _ _ => ?_)
    | refine fr_pAN (by assumption) (fun _ _ => ?_)
    | refine fr_nw (by assumption) (fun _ _ _ => ?_)
    | refine fr_nwM (by assumption) (fun _ _ _ => ?_)
    | refine fr_callV (hr4 _ _ _ _ _) (by assumption) (fun _ _ _ => ?_)
    | refine fr_bind (hr4 _ _ _ _ _) (by assumption) (fun _ _ _ => ?_)
    | refine fr_binI (hr4 _ _ _ _ _) (by assumption) (fun _ _ _ => ?_))
theorem ro_X3_beginningOf_b31 (rc4 : Nat → Int32 → Int32 → Int32 → KH → KO Int32) (hr4 : ∀ (u0 : Nat) (u1 : Int32) (u2 : Int32) (u3 : Int32) (u4 : KH), RO u4 (rc4 u0 u1 u2 u3 u4)) (v0 : Nat) (v1 : Int32) (v2 : Int32) (v3 : Int32) (h : KH) : RO h (X3_beginningOf_b31 rc4 v0 v1 v2 v3 h) := by
  unfold X3_beginningOf_b31
  repeat' with_reducible (first
    | exact ro_ret
    | exact ro_retZ
    | exact ro_retC
    | exact ro_thr
    | exact ro_none
    | exact hr4 _ _ _ _ _
    | refine ro_gI (fun _ => ?_)
    | refine ro_gR (fun _ => ?_)
    | refine ro_gN (fun _ => ?_)
    | refine ro_gAI (fun _ => ?_)
    | refine ro_gAL (fun _ => ?_)
    | refine ro_gAN (fun _ => ?_)
    | refine ro_kif ?_ ?_
    | refine ro_nul ?_ (fun _ => ?_)
    | refine ro_may (fun _ => ?_)
    | refine ro_kdv ?_
    | refine ro_callV (hr4 _ _ _ _ _) (fun _ => ?_)
    | refine ro_bind (hr4 _ _ _ _ _) (fun _ => ?_)
    | refine ro_binI (hr4 _ _ _ _ _) (fun _ => ?_))
theorem fr_X3_beginningOf_b4 (rc4 : Nat → Int32 → Int32 → Int32 → KH → KO Int32) (hr4 : ∀ (u0 : Nat) (u1 : Int32) (u2 : Int32) (u3 : Int32) (u4 : KH), FR u4 (rc4 u0 u1 u2 u3 u4)) (v0 : Nat) (v1 : Int32) (v2 : Int32) (v3 : Int32) (h : KH) : FR h (X3_beginningOf_b4 rc4 v0 v1 v2 v3 h) := by
  unfold X3_beginningOf_b4
  have q0 : FL h h := FL.rf h
  repeat' with_reducible (first
    | exact fr_ret (by assumption)
    | exact fr_retZ (by assumption)
    | exact fr_retC (by assumption)
    | exact fr_thr (by assumption)
    | exact fr_none
    | exact fr_go (hr4 _ _ _ _ _) (by assumption)
    | exact fr_go (fr_X3_beginningOf_b31 _ (by assumption) _ _ _ _ _) (by assumption)
    | refine fr_gI (fun _ => ?_)
    | refine fr_gR (fun _ => ?_)
    | refine fr_gN (fun _ => ?_)
    | refine fr_gAI (fun _ => ?_)
    | refine fr_gAL (fun _ => ?_)
    | refine fr_gAN (fun _ => ?_)
    | refine fr_kif ?_ ?_
    | refine fr_nul ?_ (fun _ => ?_)
    | refine fr_may (fun _ => ?_)
    | refine fr_kdv ?_
    | refine fr_pI (by assumption) (by decide) (fun _ _ => ?_)
    | refine fr_pR (by assumption) (fun _ _ => ?_)
    | refine fr_pAI (by assumption) (by decide) (fun _ _ => ?_)
    | refine fr_pAZ (by assumption) (by decide) (fun _ _ => ?_)
    | refine fr_pAL (by assumption) (fun _ _ => ?_)
    | refine fr_pAN (by assumption) (fun _ _ => ?_)
    | refine fr_nw (by assumption) (fun _ _ _ => ?_)
    | refine fr_nwM (by assumption) (fun _ _ _ => ?_)
    | refine fr_callV (hr4 _ _ _ _ _) (by assumption) (fun _ _ _ => ?_)
    | refine fr_bind (hr4 _ _ _ _ _) (by assumption) (fun _ _ _ => ?_)
    | refine fr_binI (hr4 _ _ _ _ _) (by assumption) (fun _ _ _ => ?_)
    | refine fr_callV (fr_X3_beginningOf_b31 _ (by assumption) _ _ _ _ _) (by assumption) (fun _ _ _ => ?_)
    | refine fr_bind (fr_X3_beginningOf_b31 _ (by assumption) _ _ _ _ _) (by assumption) (fun _ _ _ => ?_)
    | refine fr_binI (fr_X3_beginningOf_b31 _ (by assumption) _ _ _ _ _) (by assumption) (fun _ _ _ => ?_))
theorem ro_X3_beginningOf_b4 (rc4 : Nat → Int32 → Int32 → Int32 → KH → KO Int32) (hr4 : ∀ (u0 : Nat) (u1 : Int32) (u2 : Int32) (u3 : Int32) (u4 : KH), RO u4 (rc4 u0 u1 u2 u3 u4)) (v0 : Nat) (v1 : Int32) (v2 : Int32) (v3 : Int32) (h : KH) : RO h (X3_beginningOf_b4 rc4 v0 v1 v2 v3 h) := by
  unfold X3_beginningOf_b4
  repeat' with_reducible (first
    | exact ro_ret
    | exact ro_retZ
    | exact ro_retC
    | exact ro_thr
    | exact ro_none
    | exact hr4 _ _ _ _ _
    | exact ro_X3_beginningOf_b31 _ (by assumption) _ _ _ _ _
    | refine ro_gI (fun _ => ?_)
    | refine ro_gR (fun _ => ?_)
    | refine ro_gN (fun _ => ?_)
    | refine ro_gAI (fun _ => ?_)
    | refine ro_gAL (fun _ => ?_)
    | refine ro_gAN (fun _ => ?_)
    | refine ro_kif ?_ ?_
    | refine ro_nul ?_ (fun _ => ?_)
    | refine ro_may (fun _ => ?_)
    | refine ro_kdv ?_
    | refine ro_callV (hr4 _ _ _ _ _) (fun _ => ?_)
    | refine ro_bind (hr4 _ _ _ _ _) (fun _ => ?_)
    | refine ro_binI (hr4 _ _ _ _ _) (fun _ => ?_)
    | refine ro_callV (ro_X3_beginningOf_b31 _ (by assumption) _ _ _ _ _) (fun _ => ?_)
    | refine ro_bind (ro_X3_beginningOf_b31 _ (by assumption) _ _ _ _ _) (fun _ => ?_)
    | refine ro_binI (ro_X3_beginningOf_b31 _ (by assumption) _ _ _ _ _) (fun _ => ?_))
theorem fr_X3_beginningOf_L4  : ∀ (m : Nat) (u0 : Nat) (u1 : Int32) (u2 : Int32) (u3 : Int32) (u4 : KH), FR u4 (X3_beginningOf_L4  m u0 u1 u2 u3 u4) := by
  intro m
  induction m with
  | zero => intro u0 u1 u2 u3 u4; exact fr_none
  | succ m ih => intro u0 u1 u2 u3 u4; exact fr_X3_beginningOf_b4 (X3_beginningOf_L4  m) ih u0 u1 u2 u3 u4
theorem ro_X3_beginningOf_L4  : ∀ (m : Nat) (u0 : Nat) (u1 : Int32) (u2 : Int32) (u3 : Int32) (u4 : KH), RO u4 (X3_beginningOf_L4  m u0 u1 u2 u3 u4) := by
  intro m
  induction m with
  | zero => intro u0 u1 u2 u3 u4; exact ro_none
  | succ m ih => intro u0 u1 u2 u3 u4; exact ro_X3_beginningOf_b4 (X3_beginningOf_L4  m) ih u0 u1 u2 u3 u4
theorem fr_f_X3_beginningOf  (p0 : Nat) (p1 : Int32) (h : KH) : FR h (f_X3_beginningOf p0 p1 h) := by
  unfold f_X3_beginningOf
  have q0 : FL h h := FL.rf h
  repeat' with_reducible (first
    | exact fr_ret (by assumption)
    | exact fr_retZ (by assumption)
    | exact fr_retC (by assumption)
    | exact fr_thr (by assumption)
    | exact fr_none
    | exact fr_go (fr_X3_beginningOf_L4 _ _ _ _ _ _) (by assumption)
    | refine fr_gI (fun _ => ?_)
    | refine fr_gR (fun _ => ?_)
    | refine fr_gN (fun _ => ?_)
    | refine fr_gAI (fun _ => ?_)
    | refine fr_gAL (fun _ => ?_)
    | refine fr_gAN (fun _ => ?_)
    | refine fr_kif ?_ ?_
    | refine fr_nul ?_ (fun _ => ?_)
    | refine fr_may (fun _ => ?_)
    | refine fr_kdv ?_
    | refine fr_pI (by assumption) (by decide) (fun _ _ => ?_)
    | refine fr_pR (by assumption) (fun _ _ => ?_)
    | refine fr_pAI (by assumption) (by decide) (fun _ _ => ?_)
    | refine fr_pAZ (by assumption) (by decide) (fun _ _ => ?_)
    | refine fr_pAL (by assumption) (fun _ _ => ?_)
    | refine fr_pAN (by assumption) (fun _ _ => ?_)
    | refine fr_nw (by assumption) (fun _ _ _ => ?_)
    | refine fr_nwM (by assumption) (fun _ _ _ => ?_)
    | refine fr_callV (fr_X3_beginningOf_L4 _ _ _ _ _ _) (by assumption) (fun _ _ _ => ?_)
    | refine fr_bind (fr_X3_beginningOf_L4 _ _ _ _ _ _) (by assumption) (fun _ _ _ => ?_)
    | refine fr_binI (fr_X3_beginningOf_L4 _ _ _ _ _ _) (by assumption) (fun _ _ _ => ?_))
theorem ro_f_X3_beginningOf  (p0 : Nat) (p1 : Int32) (h : KH) : RO h (f_X3_beginningOf p0 p1 h) := by
  unfold f_X3_beginningOf
  repeat' with_reducible (first
    | exact ro_ret
    | exact ro_retZ
    | exact ro_retC
    | exact ro_thr
    | exact ro_none
    | exact ro_X3_beginningOf_L4 _ _ _ _ _ _
    | refine ro_gI (fun _ => ?_)
    | refine ro_gR (fun _ => ?_)
    | refine ro_gN (fun _ => ?_)
    | refine ro_gAI (fun _ => ?_)
    | refine ro_gAL (fun _ => ?_)
    | refine ro_gAN (fun _ => ?_)
    | refine ro_kif ?_ ?_
    | refine ro_nul ?_ (fun _ => ?_)
    | refine ro_may (fun _ => ?_)
    | refine ro_kdv ?_
    | refine ro_callV (ro_X3_beginningOf_L4 _ _ _ _ _ _) (fun _ => ?_)
    | refine ro_bind (ro_X3_beginningOf_L4 _ _ _ _ _ _) (fun _ => ?_)
    | refine ro_binI (ro_X3_beginningOf_L4 _ _ _ _ _ _) (fun _ => ?_))
theorem fr_f_X9_requiredBeginning  (p0 : Nat) (p1 : Int32) (h : KH) : FR h (f_X9_requiredBeginning p0 p1 h) := by
  unfold f_X9_requiredBeginning
  have q0 : FL h h := FL.rf h
  repeat' with_reducible (first
    | exact fr_ret (by assumption)
    | exact fr_retZ (by assumption)
    | exact fr_retC (by assumption)
    | exact fr_thr (by assumption)
    | exact fr_none
    | exact fr_go (fr_f_X3_beginningOf _ _ _) (by assumption)
    | refine fr_gI (fun _ => ?_)
    | refine fr_gR (fun _ => ?_)
    | refine fr_gN (fun _ => ?_)
    | refine fr_gAI (fun _ => ?_)
    | refine fr_gAL (fun _ => ?_)
    | refine fr_gAN (fun _ => ?_)
    | refine fr_kif ?_ ?_
    | refine fr_nul ?_ (fun _ => ?_)
    | refine fr_may (fun _ => ?_)
    | refine fr_kdv ?_
    | refine fr_pI (by assumption) (by decide) (fun _ _ => ?_)
    | refine fr_pR (by assumption) (fun _ _ => ?_)
    | refine fr_pAI (by assumption) (by decide) (fun _ _ => ?_)
    | refine fr_pAZ (by assumption) (by decide) (fun _ _ => ?_)
    | refine fr_pAL (by assumption) (fun _ _ => ?_)
    | refine fr_pAN (by assumption) (fun _ _ => ?_)
    | refine fr_nw (by assumption) (fun _ _ _ => ?_)
    | refine fr_nwM (by assumption) (fun _ _ _ => ?_)
    | refine fr_callV (fr_f_X3_beginningOf _ _ _) (by assumption) (fun _ _ _ => ?_)
    | refine fr_bind (fr_f_X3_beginningOf _ _ _) (by assumption) (fun _ _ _ => ?_)
    | refine fr_binI (fr_f_X3_beginningOf _ _ _) (by assumption) (fun _ _ _ => ?_))
theorem ro_f_X9_requiredBeginning  (p0 : Nat) (p1 : Int32) (h : KH) : RO h (f_X9_requiredBeginning p0 p1 h) := by
  unfold f_X9_requiredBeginning
  repeat' with_reducible (first
    | exact ro_ret
    | exact ro_retZ
    | exact ro_retC
    | exact ro_thr
    | exact ro_none
    | exact ro_f_X3_beginningOf _ _ _
    | refine ro_gI (fun _ => ?_)
    | refine ro_gR (fun _ => ?_)
    | refine ro_gN (fun _ => ?_)
    | refine ro_gAI (fun _ => ?_)
    | refine ro_gAL (fun _ => ?_)
    | refine ro_gAN (fun _ => ?_)
    | refine ro_kif ?_ ?_
    | refine ro_nul ?_ (fun _ => ?_)
    | refine ro_may (fun _ => ?_)
    | refine ro_kdv ?_
    | refine ro_callV (ro_f_X3_beginningOf _ _ _) (fun _ => ?_)
    | refine ro_bind (ro_f_X3_beginningOf _ _ _) (fun _ => ?_)
    | refine ro_binI (ro_f_X3_beginningOf _ _ _) (fun _ => ?_))
theorem fr_X3_wayFrom_b61  (v3 : Int32) (h : KH) : FR h (X3_wayFrom_b61 v3 h) := by
  unfold X3_wayFrom_b61
  have q0 : FL h h := FL.rf h
  repeat' with_reducible (first
    | exact fr_ret (by assumption)
    | exact fr_retZ (by assumption)
    | exact fr_retC (by assumption)
    | exact fr_thr (by assumption)
    | exact fr_none
    | refine fr_gI (fun _ => ?_)
    | refine fr_gR (fun _ => ?_)
    | refine fr_gN (fun _ => ?_)
    | refine fr_gAI (fun _ => ?_)
    | refine fr_gAL (fun _ => ?_)
    | refine fr_gAN (fun _ => ?_)
    | refine fr_kif ?_ ?_
    | refine fr_nul ?_ (fun _ => ?_)
    | refine fr_may (fun _ => ?_)
    | refine fr_kdv ?_
    | refine fr_pI (by assumption) (by decide) (fun _ _ => ?_)
    | refine fr_pR (by assumption) (fun _ _ => ?_)
    | refine fr_pAI (by assumption) (by decide) (fun _ _ => ?_)
    | refine fr_pAZ (by assumption) (by decide) (fun _ _ => ?_)
    | refine fr_pAL (by assumption) (fun _ _ => ?_)
    | refine fr_pAN (by assumption) (fun _ _ => ?_)
    | refine fr_nw (by assumption) (fun _ _ _ => ?_)
    | refine fr_nwM (by assumption) (fun _ _ _ => ?_))
theorem ro_X3_wayFrom_b61  (v3 : Int32) (h : KH) : RO h (X3_wayFrom_b61 v3 h) := by
  unfold X3_wayFrom_b61
  repeat' with_reducible (first
    | exact ro_ret
    | exact ro_retZ
    | exact ro_retC
    | exact ro_thr
    | exact ro_none
    | refine ro_gI (fun _ => ?_)
    | refine ro_gR (fun _ => ?_)
    | refine ro_gN (fun _ => ?_)
    | refine ro_gAI (fun _ => ?_)
    | refine ro_gAL (fun _ => ?_)
    | refine ro_gAN (fun _ => ?_)
    | refine ro_kif ?_ ?_
    | refine ro_nul ?_ (fun _ => ?_)
    | refine ro_may (fun _ => ?_)
    | refine ro_kdv ?_)
theorem fr_X3_wayFrom_b7 (rc7 : Nat → Nat → Int32 → Int32 → KH → KO Int32) (hr7 : ∀ (u0 : Nat) (u1 : Nat) (u2 : Int32) (u3 : Int32) (u4 : KH), FR u4 (rc7 u0 u1 u2 u3 u4)) (v0 : Nat) (v2 : Nat) (v3 : Int32) (v4 : Int32) (h : KH) : FR h (X3_wayFrom_b7 rc7 v0 v2 v3 v4 h) := by
  unfold X3_wayFrom_b7
  have q0 : FL h h := FL.rf h
  repeat' with_reducible (first
    | exact fr_ret (by assumption)
    | exact fr_retZ (by assumption)
    | exact fr_retC (by assumption)
    | exact fr_thr (by assumption)
    | exact fr_none
    | exact fr_go (hr7 _ _ _ _ _) (by assumption)
    | exact fr_go (fr_X3_wayFrom_b61 _ _) (by assumption)
    | exact fr_go (fr_f_X6_between _ _ _ _) (by assumption)
    | refine fr_gI (fun _ => ?_)
    | refine fr_gR (fun _ => ?_)
    | refine fr_gN (fun _ => ?_)
    | refine fr_gAI (fun _ => ?_)
    | refine fr_gAL (fun _ => ?_)
    | refine fr_gAN (fun _ => ?_)
    | refine fr_kif ?_ ?_
    | refine fr_nul ?_ (fun _ => ?_)
    | refine fr_may (fun _ => ?_)
    | refine fr_kdv ?_
    | refine fr_pI (by assumption) (by decide) (fun _ _ => ?_)
    | refine fr_pR (by assumption) (fun _ _ => ?_)
    | refine fr_pAI (by assumption) (by decide) (fun _ _ => ?_)
    | refine fr_pAZ (by assumption) (by decide) (fun _ _ => ?_)
    | refine fr_pAL (by assumption) (fun _ _ => ?_)
    | refine fr_pAN (by assumption) (fun _ _ => ?_)
    | refine fr_nw (by assumption) (fun _ _ _ => ?_)
    | refine fr_nwM (by assumption) (fun _ _ _ => ?_)
    | refine fr_callV (hr7 _ _ _ _ _) (by assumption) (fun _ _ _ => ?_)
    | refine fr_bind (hr7 _ _ _ _ _) (by assumption) (fun _ _ _ => ?_)
    | refine fr_binI (hr7 _ _ _ _ _) (by assumption) (fun _ _ _ => ?_)
    | refine fr_callV (fr_X3_wayFrom_b61 _ _) (by assumption) (fun _ _ _ => ?_)
    | refine fr_bind (fr_X3_wayFrom_b61 _ _) (by assumption) (fun _ _ _ => ?_)
    | refine fr_binI (fr_X3_wayFrom_b61 _ _) (by assumption) (fun _ _ _ => ?_)
    | refine fr_callV (fr_f_X6_between _ _ _ _) (by assumption) (fun _ _ _ => ?_)
    | refine fr_bind (fr_f_X6_between _ _ _ _) (by assumption) (fun _ _ _ => ?_)
    | refine fr_binI (fr_f_X6_between _ _ _ _) (by assumption) (fun _ _ _ => ?_))
theorem ro_X3_wayFrom_b7 (rc7 : Nat → Nat → Int32 → Int32 → KH → KO Int32) (hr7 : ∀ (u0 : Nat) (u1 : Nat) (u2 : Int32) (u3 : Int32) (u4 : KH), RO u4 (rc7 u0 u1 u2 u3 u4)) (v0 : Nat) (v2 : Nat) (v3 : Int32) (v4 : Int32) (h : KH) : RO h (X3_wayFrom_b7 rc7 v0 v2 v3 v4 h) := by
  unfold X3_wayFrom_b7
  repeat' with_reducible (first
    | exact ro_ret
    | exact ro_retZ
    | exact ro_retC
    | exact ro_thr
    | exact ro_none
    | exact hr7 _ _ _ _ _
    | exact ro_X3_wayFrom_b61 _ _
    | exact ro_f_X6_between _ _ _ _
    | refine ro_gI (fun _ => ?_)
    | refine ro_gR (fun _ => ?_)
    | refine ro_gN (fun _ => ?_)
    | refine ro_gAI (fun _ => ?_)
    | refine ro_gAL (fun _ => ?_)
    | refine ro_gAN (fun _ => ?_)
    | refine ro_kif ?_ ?_
    | refine ro_nul ?_ (fun _ => ?_)
    | refine ro_may (fun _ => ?_)
    | refine ro_kdv ?_
    | refine ro_callV (hr7 _ _ _ _ _) (fun _ => ?_)
    | refine ro_bind (hr7 _ _ _ _ _) (fun _ => ?_)
    | refine ro_binI (hr7 _ _ _ _ _) (fun _ => ?_)
    | refine ro_callV (ro_X3_wayFrom_b61 _ _) (fun _ => ?_)
    | refine ro_bind (ro_X3_wayFrom_b61 _ _) (fun _ => ?_)
    | refine ro_binI (ro_X3_wayFrom_b61 _ _) (fun _ => ?_)
    | refine ro_callV (ro_f_X6_between _ _ _ _) (fun _ => ?_)
    | refine ro_bind (ro_f_X6_between _ _ _ _) (fun _ => ?_)
    | refine ro_binI (ro_f_X6_between _ _ _ _) (fun _ => ?_))
theorem fr_X3_wayFrom_L7  : ∀ (m : Nat) (u0 : Nat) (u1 : Nat) (u2 : Int32) (u3 : Int32) (u4 : KH), FR u4 (X3_wayFrom_L7  m u0 u1 u2 u3 u4) := by
  intro m
  induction m with
  | zero => intro u0 u1 u2 u3 u4; exact fr_none
  | succ m ih => intro u0 u1 u2 u3 u4; exact fr_X3_wayFrom_b7 (X3_wayFrom_L7  m) ih u0 u1 u2 u3 u4
theorem ro_X3_wayFrom_L7  : ∀ (m : Nat) (u0 : Nat) (u1 : Nat) (u2 : Int32) (u3 : Int32) (u4 : KH), RO u4 (X3_wayFrom_L7  m u0 u1 u2 u3 u4) := by
  intro m
  induction m with
  | zero => intro u0 u1 u2 u3 u4; exact ro_none
  | succ m ih => intro u0 u1 u2 u3 u4; exact ro_X3_wayFrom_b7 (X3_wayFrom_L7  m) ih u0 u1 u2 u3 u4
theorem fr_f_X3_wayFrom  (p0 : Nat) (p1 : Int32) (p2 : Nat) (h : KH) : FR h (f_X3_wayFrom p0 p1 p2 h) := by
  unfold f_X3_wayFrom
  have q0 : FL h h := FL.rf h
  repeat' with_reducible (first
    | exact fr_ret (by assumption)
    | exact fr_retZ (by assumption)
    | exact fr_retC (by assumption)
    | exact fr_thr (by assumption)
    | exact fr_none
    | exact fr_go (fr_X3_wayFrom_L7 _ _ _ _ _ _) (by assumption)
    | refine fr_gI (fun _ => ?_)
    | refine fr_gR (fun _ => ?_)
    | refine fr_gN (fun _ => ?_)
    | refine fr_gAI (fun _ => ?_)
    | refine fr_gAL (fun _ => ?_)
    | refine fr_gAN (fun _ => ?_)
    | refine fr_kif ?_ ?_
    | refine fr_nul ?_ (fun _ => ?_)
    | refine fr_may (fun _ => ?_)
    | refine fr_kdv ?_
    | refine fr_pI (by assumption) (by decide) (fun _ _ => ?_)
    | refine fr_pR (by assumption) (fun _ _ => ?_)
    | refine fr_pAI (by assumption) (by decide) (fun _ _ => ?_)
    | refine fr_pAZ (by assumption) (by decide) (fun _ _ => ?_)
    | refine fr_pAL (by assumption) (fun _ _ => ?_)
    | refine fr_pAN (by assumption) (fun _ _ => ?_)
    | refine fr_nw (by assumption) (fun _ _ _ => ?_)
    | refine fr_nwM (by assumption) (fun _ _ _ => ?_)
    | refine fr_callV (fr_X3_wayFrom_L7 _ _ _ _ _ _) (by assumption) (fun _ _ _ => ?_)
    | refine fr_bind (fr_X3_wayFrom_L7 _ _ _ _ _ _) (by assumption) (fun _ _ _ => ?_)
    | refine fr_binI (fr_X3_wayFrom_L7 _ _ _ _ _ _) (by assumption) (fun _ _ _ => ?_))
theorem ro_f_X3_wayFrom  (p0 : Nat) (p1 : Int32) (p2 : Nat) (h : KH) : RO h (f_X3_wayFrom p0 p1 p2 h) := by
  unfold f_X3_wayFrom
  repeat' with_reducible (first
    | exact ro_ret
    | exact ro_retZ
    | exact ro_retC
    | exact ro_thr
    | exact ro_none
    | exact ro_X3_wayFrom_L7 _ _ _ _ _ _
    | refine ro_gI (fun _ => ?_)
    | refine ro_gR (fun _ => ?_)
    | refine ro_gN (fun _ => ?_)
    | refine ro_gAI (fun _ => ?_)
    | refine ro_gAL (fun _ => ?_)
    | refine ro_gAN (fun _ => ?_)
    | refine ro_kif ?_ ?_
    | refine ro_nul ?_ (fun _ => ?_)
    | refine ro_may (fun _ => ?_)
    | refine ro_kdv ?_
    | refine ro_callV (ro_X3_wayFrom_L7 _ _ _ _ _ _) (fun _ => ?_)
    | refine ro_bind (ro_X3_wayFrom_L7 _ _ _ _ _ _) (fun _ => ?_)
    | refine ro_binI (ro_X3_wayFrom_L7 _ _ _ _ _ _) (fun _ => ?_))
theorem fr_f_X9_tollFrom  (p0 : Nat) (p1 : Nat) (p2 : Int32) (p3 : Nat) (h : KH) : FR h (f_X9_tollFrom p0 p1 p2 p3 h) := by
  unfold f_X9_tollFrom
  have q0 : FL h h := FL.rf h
  repeat' with_reducible (first
    | exact fr_ret (by assumption)
    | exact fr_retZ (by assumption)
    | exact fr_retC (by assumption)
    | exact fr_thr (by assumption)
    | exact fr_none
    | exact fr_go (fr_f_X3_wayFrom _ _ _ _) (by assumption)
    | refine fr_gI (fun _ => ?_)
    | refine fr_gR (fun _ => ?_)
    | refine fr_gN (fun _ => ?_)
    | refine fr_gAI (fun _ => ?_)
    | refine fr_gAL (fun _ => ?_)
    | refine fr_gAN (fun _ => ?_)
    | refine fr_kif ?_ ?_
    | refine fr_nul ?_ (fun _ => ?_)
    | refine fr_may (fun _ => ?_)
    | refine fr_kdv ?_
    | refine fr_pI (by assumption) (by decide) (fun _ _ => ?_)
    | refine fr_pR (by assumption) (fun _ _ => ?_)
    | refine fr_pAI (by assumption) (by decide) (fun _ _ => ?_)
    | refine fr_pAZ (by assumption) (by decide) (fun _ _ => ?_)
    | refine fr_pAL (by assumption) (fun _ _ => ?_)
    | refine fr_pAN (by assumption) (fun _ _ => ?_)
    | refine fr_nw (by assumption) (fun _ _ _ => ?_)
    | refine fr_nwM (by assumption) (fun _ _ _ => ?_)
    | refine fr_callV (fr_f_X3_wayFrom _ _ _ _) (by assumption) (fun _ _ _ => ?_)
    | refine fr_bind (fr_f_X3_wayFrom _ _ _ _) (by assumption) (fun _ _ _ => ?_)
    | refine fr_binI (fr_f_X3_wayFrom _ _ _ _) (by assumption) (fun _ _ _ => ?_))
theorem ro_f_X9_tollFrom  (p0 : Nat) (p1 : Nat) (p2 : Int32) (p3 : Nat) (h : KH) : RO h (f_X9_tollFrom p0 p1 p2 p3 h) := by
  unfold f_X9_tollFrom
  repeat' with_reducible (first
    | exact ro_ret
    | exact ro_retZ
    | exact ro_retC
    | exact ro_thr
    | exact ro_none
    | exact ro_f_X3_wayFrom _ _ _ _
    | refine ro_gI (fun _ => ?_)
    | refine ro_gR (fun _ => ?_)
    | refine ro_gN (fun _ => ?_)
    | refine ro_gAI (fun _ => ?_)
    | refine ro_gAL (fun _ => ?_)
    | refine ro_gAN (fun _ => ?_)
    | refine ro_kif ?_ ?_
    | refine ro_nul ?_ (fun _ => ?_)
    | refine ro_may (fun _ => ?_)
    | refine ro_kdv ?_
    | refine ro_callV (ro_f_X3_wayFrom _ _ _ _) (fun _ => ?_)
    | refine ro_bind (ro_f_X3_wayFrom _ _ _ _) (fun _ => ?_)
    | refine ro_binI (ro_f_X3_wayFrom _ _ _ _) (fun _ => ?_))
theorem fr_f_X9_toll  (p0 : Nat) (p1 : Int32) (p2 : Int32) (h : KH) : FR h (f_X9_toll p0 p1 p2 h) := by
  unfold f_X9_toll
  have q0 : FL h h := FL.rf h
  repeat' with_reducible (first
    | exact fr_ret (by assumption)
    | exact fr_retZ (by assumption)
    | exact fr_retC (by assumption)
    | exact fr_thr (by assumption)
    | exact fr_none
    | exact fr_go (fr_f_X9_plateNumbered _ _ _) (by assumption)
    | exact fr_go (fr_f_X9_requiredBeginning _ _ _) (by assumption)
    | exact fr_go (fr_f_X9_tollFrom _ _ _ _ _) (by assumption)
    | refine fr_gI (fun _ => ?_)
    | refine fr_gR (fun _ => ?_)
    | refine fr_gN (fun _ => ?_)
    | refine fr_gAI (fun _ => ?_)
    | refine fr_gAL (fun _ => ?_)
    | refine fr_gAN (fun _ => ?_)
    | refine fr_kif ?_ ?_
    | refine fr_nul ?_ (fun _ => ?_)
    | refine fr_may (fun _ => ?_)
    | refine fr_kdv ?_
    | refine fr_pI (by assumption) (by decide) (fun _ _ => ?_)
    | refine fr_pR (by assumption) (fun _ _ => ?_)
    | refine fr_pAI (by assumption) (by decide) (fun _ _ => ?_)
    | refine fr_pAZ (by assumption) (by decide) (fun _ _ => ?_)
    | refine fr_pAL (by assumption) (fun _ _ => ?_)
    | refine fr_pAN (by assumption) (fun _ _ => ?_)
    | refine fr_nw (by assumption) (fun _ _ _ => ?_)
    | refine fr_nwM (by assumption) (fun _ _ _ => ?_)
    | refine fr_callV (fr_f_X9_plateNumbered _ _ _) (by assumption) (fun _ _ _ => ?_)
    | refine fr_bind (fr_f_X9_plateNumbered _ _ _) (by assumption) (fun _ _ _ => ?_)
    | refine fr_binI (fr_f_X9_plateNumbered _ _ _) (by assumption) (fun _ _ _ => ?_)
    | refine fr_callV (fr_f_X9_requiredBeginning _ _ _) (by assumption) (fun _ _ _ => ?_)
    | refine fr_bind (fr_f_X9_requiredBeginning _ _ _) (by assumption) (fun _ _ _ => ?_)
    | refine fr_binI (fr_f_X9_requiredBeginning _ _ _) (by assumption) (fun _ _ _ => ?_)
    | refine fr_callV (fr_f_X9_tollFrom _ _ _ _ _) (by assumption) (fun _ _ _ => ?_)
    | refine fr_bind (fr_f_X9_tollFrom _ _ _ _ _) (by assumption) (fun _ _ _ => ?_)
    | refine fr_binI (fr_f_X9_tollFrom _ _ _ _ _) (by assumption) (fun _ _ _ => ?_))
theorem ro_f_X9_toll  (p0 : Nat) (p1 : Int32) (p2 : Int32) (h : KH) : RO h (f_X9_toll p0 p1 p2 h) := by
  unfold f_X9_toll
  repeat' with_reducible (first
    | exact ro_ret
    | exact ro_retZ
    | exact ro_retC
    | exact ro_thr
    | exact ro_none
    | exact ro_f_X9_plateNumbered _ _ _
    | exact ro_f_X9_requiredBeginning _ _ _
    | exact ro_f_X9_tollFrom _ _ _ _ _
    | refine ro_gI (fun _ => ?_)
    | refine ro_gR (fun _ => ?_)
    | refine ro_gN (fun _ => ?_)
    | refine ro_gAI (fun _ => ?_)
    | refine ro_gAL (fun _ => ?_)
    | refine ro_gAN (fun _ => ?_)
    | refine ro_kif ?_ ?_
    | refine ro_nul ?_ (fun _ => ?_)
    | refine ro_may (fun _ => ?_)
    | refine ro_kdv ?_
    | refine ro_callV (ro_f_X9_plateNumbered _ _ _) (fun _ => ?_)
    | refine ro_bind (ro_f_X9_plateNumbered _ _ _) (fun _ => ?_)
    | refine ro_binI (ro_f_X9_plateNumbered _ _ _) (fun _ => ?_)
    | refine ro_callV (ro_f_X9_requiredBeginning _ _ _) (fun _ => ?_)
    | refine ro_bind (ro_f_X9_requiredBeginning _ _ _) (fun _ => ?_)
    | refine ro_binI (ro_f_X9_requiredBeginning _ _ _) (fun _ => ?_)
    | refine ro_callV (ro_f_X9_tollFrom _ _ _ _ _) (fun _ => ?_)
    | refine ro_bind (ro_f_X9_tollFrom _ _ _ _ _) (fun _ => ?_)
    | refine ro_binI (ro_f_X9_tollFrom _ _ _ _ _) (fun _ => ?_))
theorem fr_f_X9_driverOf  (p0 : Nat) (p1 : Int32) (p2 : Int32) (h : KH) : FR h (f_X9_driverOf p0 p1 p2 h) := by
  unfold f_X9_driverOf
  have q0 : FL h h := FL.rf h
  repeat' with_reducible (first
    | exact fr_ret (by assumption)
    | exact fr_retZ (by assumption)
    | exact fr_retC (by assumption)
    | exact fr_thr (by assumption)
    | exact fr_none
    | exact fr_go (fr_f_X9_plateNumbered _ _ _) (by assumption)
    | exact fr_go (fr_f_X9_requiredBeginning _ _ _) (by assumption)
    | exact fr_go (fr_f_X4_driverIn _ _ _) (by assumption)
    | refine fr_gI (fun _ => ?_)
    | refine fr_gR (fun _ => ?_)
    | refine fr_gN (fun _ => ?_)
    | refine fr_gAI (fun _ => ?_)
    | refine fr_gAL (fun _ => ?_)
    | refine fr_gAN (fun _ => ?_)
    | refine fr_kif ?_ ?_
    | refine fr_nul ?_ (fun _ => ?_)
    | refine fr_may (fun _ => ?_)
    | refine fr_kdv ?_
    | refine fr_pI (by assumption) (by decide) (fun _ _ => ?_)
    | refine fr_pR (by assumption) (fun _ _ => ?_)
    | refine fr_pAI (by assumption) (by decide) (fun _ _ => ?_)
    | refine fr_pAZ (by assumption) (by decide) (fun _ _ => ?_)
    | refine fr_pAL (by assumption) (fun _ _ => ?_)
    | refine fr_pAN (by assumption) (fun _ _ => ?_)
    | refine fr_nw (by assumption) (fun _ _ _ => ?_)
    | refine fr_nwM (by assumption) (fun _ _ _ => ?_)
    | refine fr_callV (fr_f_X9_plateNumbered _ _ _) (by assumption) (fun _ _ _ => ?_)
    | refine fr_bind (fr_f_X9_plateNumbered _ _ _) (by assumption) (fun _ _ _ => ?_)
    | refine fr_binI (fr_f_X9_plateNumbered _ _ _) (by assumption) (fun _ _ _ => ?_)
    | refine fr_callV (fr_f_X9_requiredBeginning _ _ _) (by assumption) (fun _ _ _ => ?_)
    | refine fr_bind (fr_f_X9_requiredBeginning _ _ _) (by assumption) (fun _ _ _ => ?_)
    | refine fr_binI (fr_f_X9_requiredBeginning _ _ _) (by assumption) (fun _ _ _ => ?_)
    | refine fr_callV (fr_f_X4_driverIn _ _ _) (by assumption) (fun _ _ _ => ?_)
    | refine fr_bind (fr_f_X4_driverIn _ _ _) (by assumption) (fun _ _ _ => ?_)
    | refine fr_binI (fr_f_X4_driverIn _ _ _) (by assumption) (fun _ _ _ => ?_))
theorem ro_f_X9_driverOf  (p0 : Nat) (p1 : Int32) (p2 : Int32) (h : KH) : RO h (f_X9_driverOf p0 p1 p2 h) := by
  unfold f_X9_driverOf
  repeat' with_reducible (first
    | exact ro_ret
    | exact ro_retZ
    | exact ro_retC
    | exact ro_thr
    | exact ro_none
    | exact ro_f_X9_plateNumbered _ _ _
    | exact ro_f_X9_requiredBeginning _ _ _
    | exact ro_f_X4_driverIn _ _ _
    | refine ro_gI (fun _ => ?_)
    | refine ro_gR (fun _ => ?_)
    | refine ro_gN (fun _ => ?_)
    | refine ro_gAI (fun _ => ?_)
    | refine ro_gAL (fun _ => ?_)
    | refine ro_gAN (fun _ => ?_)
    | refine ro_kif ?_ ?_
    | refine ro_nul ?_ (fun _ => ?_)
    | refine ro_may (fun _ => ?_)
    | refine ro_kdv ?_
    | refine ro_callV (ro_f_X9_plateNumbered _ _ _) (fun _ => ?_)
    | refine ro_bind (ro_f_X9_plateNumbered _ _ _) (fun _ => ?_)
    | refine ro_binI (ro_f_X9_plateNumbered _ _ _) (fun _ => ?_)
    | refine ro_callV (ro_f_X9_requiredBeginning _ _ _) (fun _ => ?_)
    | refine ro_bind (ro_f_X9_requiredBeginning _ _ _) (fun _ => ?_)
    | refine ro_binI (ro_f_X9_requiredBeginning _ _ _) (fun _ => ?_)
    | refine ro_callV (ro_f_X4_driverIn _ _ _) (fun _ => ?_)
    | refine ro_bind (ro_f_X4_driverIn _ _ _) (fun _ => ?_)
    | refine ro_binI (ro_f_X4_driverIn _ _ _) (fun _ => ?_))
theorem fr_X9_dueFor_b56 (rc6 : Nat → Nat → Nat → Int32 → Int32 → Int32 → KH → KO Int32) (hr6 : ∀ (u0 : Nat) (u1 : Nat) (u2 : Nat) (u3 : Int32) (u4 : Int32) (u5 : Int32) (u6 : KH), FR u6 (rc6 u0 u1 u2 u3 u4 u5 u6)) (v0 : Nat) (v1 : Nat) (v2 : Nat) (v3 : Int32) (v4 : Int32) (v5 : Int32) (h : KH) : FR h (X9_dueFor_b56 rc6 v0 v1 v2 v3 v4 v5 h) := by
  unfold X9_dueFor_b56
  have q0 : FL h h := FL.rf h
  repeat' with_reducible (first
    | exact fr_ret (by assumption)
    | exact fr_retZ (by assumption)
    | exact fr_retC (by assumption)
    | exact fr_thr (by assumption)
    | exact fr_none
    | exact fr_go (hr6 _ _ _ _ _ _ _) (by assumption)
    | refine fr_gI (fun _ => ?_)
    | refine fr_gR (fun _ => ?_)
    | refine fr_gN (fun _ => ?_)
    | refine fr_gAI (fun _ => ?_)
    | refine fr_gAL (fun _ => ?_)
    | refine fr_gAN (fun _ => ?_)
    | refine fr_kif ?_ ?_
    | refine fr_nul ?_ (fun _ => ?_)
    | refine fr_may (fun _ => ?_)
    | refine fr_kdv ?_
    | refine fr_pI (by assumption) (by decide) (fun _ _ => ?_)
    | refine fr_pR (by assumption) (fun _ _ => ?_)
    | refine fr_pAI (by assumption) (by decide) (fun _ _ => ?_)
    | refine fr_pAZ (by assumption) (by decide) (fun _ _ => ?_)
    | refine fr_pAL (by assumption) (fun _ _ => ?_)
    | refine fr_pAN (by assumption) (fun _ _ => ?_)
    | refine fr_nw (by assumption) (fun _ _ _ => ?_)
    | refine fr_nwM (by assumption) (fun _ _ _ => ?_)
    | refine fr_callV (hr6 _ _ _ _ _ _ _) (by assumption) (fun _ _ _ => ?_)
    | refine fr_bind (hr6 _ _ _ _ _ _ _) (by assumption) (fun _ _ _ => ?_)
    | refine fr_binI (hr6 _ _ _ _ _ _ _) (by assumption) (fun _ _ _ => ?_))
theorem ro_X9_dueFor_b56 (rc6 : Nat → Nat → Nat → Int32 → Int32 → Int32 → KH → KO Int32) (hr6 : ∀ (u0 : Nat) (u1 : Nat) (u2 : Nat) (u3 : Int32) (u4 : Int32) (u5 : Int32) (u6 : KH), RO u6 (rc6 u0 u1 u2 u3 u4 u5 u6)) (v0 : Nat) (v1 : Nat) (v2 : Nat) (v3 : Int32) (v4 : Int32) (v5 : Int32) (h : KH) : RO h (X9_dueFor_b56 rc6 v0 v1 v2 v3 v4 v5 h) := by
  unfold X9_dueFor_b56
  repeat' with_reducible (first
    | exact ro_ret
    | exact ro_retZ
    | exact ro_retC
    | exact ro_thr
    | exact ro_none
    | exact hr6 _ _ _ _ _ _ _
    | refine ro_gI (fun _ => ?_)
    | refine ro_gR (fun _ => ?_)
    | refine ro_gN (fun _ => ?_)
    | refine ro_gAI (fun _ => ?_)
    | refine ro_gAL (fun _ => ?_)
    | refine ro_gAN (fun _ => ?_)
    | refine ro_kif ?_ ?_
    | refine ro_nul ?_ (fun _ => ?_)
    | refine ro_may (fun _ => ?_)
    | refine ro_kdv ?_
    | refine ro_callV (hr6 _ _ _ _ _ _ _) (fun _ => ?_)
    | refine ro_bind (hr6 _ _ _ _ _ _ _) (fun _ => ?_)
    | refine ro_binI (hr6 _ _ _ _ _ _ _) (fun _ => ?_))
theorem fr_X9_dueFor_b6 (rc6 : Nat → Nat → Nat → Int32 → Int32 → Int32 → KH → KO Int32) (hr6 : ∀ (u0 : Nat) (u1 : Nat) (u2 : Nat) (u3 : Int32) (u4 : Int32) (u5 : Int32) (u6 : KH), FR u6 (rc6 u0 u1 u2 u3 u4 u5 u6)) (v0 : Nat) (v1 : Nat) (v2 : Nat) (v3 : Int32) (v4 : Int32) (v5 : Int32) (h : KH) : FR h (X9_dueFor_b6 rc6 v0 v1 v2 v3 v4 v5 h) := by
  unfold X9_dueFor_b6
  have q0 : FL h h := FL.rf h
  repeat' with_reducible (first
    | exact fr_ret (by assumption)
    | exact fr_retZ (by assumption)
    | exact fr_retC (by assumption)
    | exact fr_thr (by assumption)
    | exact fr_none
    | exact fr_go (hr6 _ _ _ _ _ _ _) (by assumption)
    | exact fr_go (fr_X9_dueFor_b56 _ (by assumption) _ _ _ _ _ _ _) (by assumption)
    | exact fr_go (fr_f_X4_driverIn _ _ _) (by assumption)
    | exact fr_go (fr_f_X9_tollFrom _ _ _ _ _) (by assumption)
    | refine fr_gI (fun _ => ?_)
    | refine fr_gR (fun _ => ?_)
    | refine fr_gN (fun _ => ?_)
    | refine fr_gAI (fun _ => ?_)
    | refine fr_gAL (fun _ => ?_)
    | refine fr_gAN (fun _ => ?_)
    | refine fr_kif ?_ ?_
    | refine fr_nul ?_ (fun _ => ?_)
    | refine fr_may (fun _ => ?_)
    | refine fr_kdv ?_
    | refine fr_pI (by assumption) (by decide) (fun _ _ => ?_)
    | refine fr_pR (by assumption) (fun _ _ => ?_)
    | refine fr_pAI (by assumption) (by decide) (fun _ _ => ?_)
    | refine fr_pAZ (by assumption) (by decide) (fun _ _ => ?_)
    | refine fr_pAL (by assumption) (fun _ _ => ?_)
    | refine fr_pAN (by assumption) (fun _ _ => ?_)
    | refine fr_nw (by assumption) (fun _ _ _ => ?_)
    | refine fr_nwM (by assumption) (fun _ _ _ => ?_)
    | refine fr_callV (hr6 _ _ _ _ _ _ _) (by assumption) (fun _ _ _ => ?_)
    | refine fr_bind (hr6 _ _ _ _ _ _ _) (by assumption) (fun _ _ _ => ?_)
    | refine fr_binI (hr6 _ _ _ _ _ _ _) (by assumption) (fun _ _ _ => ?_)
    | refine fr_callV (fr_X9_dueFor_b56 _ (by assumption) _ _ _ _ _ _ _) (by assumption) (fun _ _ _ => ?_)
    | refine fr_bind (fr_X9_dueFor_b56 _ (by assumption) _ _ _ _ _ _ _) (by assumption) (fun _ _ _ => ?_)
    | refine fr_binI (fr_X9_dueFor_b56 _ (by assumption) _ _ _ _ _ _ _) (by assumption) (fun _ _ _ => ?_)
    | refine fr_callV (fr_f_X4_driverIn _ _ _) (by assumption) (fun _ _ _ => ?_)
    | refine fr_bind (fr_f_X4_driverIn _ _ _) (by assumption) (fun _ _ _ => ?_)
    | refine fr_binI (fr_f_X4_driverIn _ _ _) (by assumption) (fun _ _ _ => ?_)
    | refine fr_callV (fr_f_X9_tollFrom _ _ _ _ _) (by assumption) (fun _ _ _ => ?_)
    | refine fr_bind (fr_f_X9_tollFrom _ _ _ _ _) (by assumption) (fun _ _ _ => ?_)
    | refine fr_binI (fr_f_X9_tollFrom _ _ _ _ _) (by assumption) (fun _ _ _ => ?_))
theorem ro_X9_dueFor_b6 (rc6 : Nat → Nat → Nat → Int32 → Int32 → Int32 → KH → KO Int32) (hr6 : ∀ (u0 : Nat) (u1 : Nat) (u2 : Nat) (u3 : Int32) (u4 : Int32) (u5 : Int32) (u6 : KH), RO u6 (rc6 u0 u1 u2 u3 u4 u5 u6)) (v0 : Nat) (v1 : Nat) (v2 : Nat) (v3 : Int32) (v4 : Int32) (v5 : Int32) (h : KH) : RO h (X9_dueFor_b6 rc6 v0 v1 v2 v3 v4 v5 h) := by
  unfold X9_dueFor_b6
  repeat' with_reducible (first
    | exact ro_ret
    | exact ro_retZ
    | exact ro_retC
    | exact ro_thr
    | exact ro_none
    | exact hr6 _ _ _ _ _ _ _
    | exact ro_X9_dueFor_b56 _ (by assumption) _ _ _ _ _ _ _
    | exact ro_f_X4_driverIn _ _ _
    | exact ro_f_X9_tollFrom _ _ _ _ _
    | refine ro_gI (fun _ => ?_)
    | refine ro_gR (fun _ => ?_)
    | refine ro_gN (fun _ => ?_)
    | refine ro_gAI (fun _ => ?_)
    | refine ro_gAL (fun _ => ?_)
    | refine ro_gAN (fun _ => ?_)
    | refine ro_kif ?_ ?_
    | refine ro_nul ?_ (fun _ => ?_)
    | refine ro_may (fun _ => ?_)
    | refine ro_kdv ?_
    | refine ro_callV (hr6 _ _ _ _ _ _ _) (fun _ => ?_)
    | refine ro_bind (hr6 _ _ _ _ _ _ _) (fun _ => ?_)
    | refine ro_binI (hr6 _ _ _ _ _ _ _) (fun _ => ?_)
    | refine ro_callV (ro_X9_dueFor_b56 _ (by assumption) _ _ _ _ _ _ _) (fun _ => ?_)
    | refine ro_bind (ro_X9_dueFor_b56 _ (by assumption) _ _ _ _ _ _ _) (fun _ => ?_)
    | refine ro_binI (ro_X9_dueFor_b56 _ (by assumption) _ _ _ _ _ _ _) (fun _ => ?_)
    | refine ro_callV (ro_f_X4_driverIn _ _ _) (fun _ => ?_)
    | refine ro_bind (ro_f_X4_driverIn _ _ _) (fun _ => ?_)
    | refine ro_binI (ro_f_X4_driverIn _ _ _) (fun _ => ?_)
    | refine ro_callV (ro_f_X9_tollFrom _ _ _ _ _) (fun _ => ?_)
    | refine ro_bind (ro_f_X9_tollFrom _ _ _ _ _) (fun _ => ?_)
    | refine ro_binI (ro_f_X9_tollFrom _ _ _ _ _) (fun _ => ?_))
theorem fr_X9_dueFor_L6  : ∀ (m : Nat) (u0 : Nat) (u1 : Nat) (u2 : Nat) (u3 : Int32) (u4 : Int32) (u5 : Int32) (u6 : KH), FR u6 (X9_dueFor_L6  m u0 u1 u2 u3 u4 u5 u6) := by
  intro m
  induction m with
  | zero => intro u0 u1 u2 u3 u4 u5 u6; exact fr_none
  | succ m ih => intro u0 u1 u2 u3 u4 u5 u6; exact fr_X9_dueFor_b6 (X9_dueFor_L6  m) ih u0 u1 u2 u3 u4 u5 u6
theorem ro_X9_dueFor_L6  : ∀ (m : Nat) (u0 : Nat) (u1 : Nat) (u2 : Nat) (u3 : Int32) (u4 : Int32) (u5 : Int32) (u6 : KH), RO u6 (X9_dueFor_L6  m u0 u1 u2 u3 u4 u5 u6) := by
  intro m
  induction m with
  | zero => intro u0 u1 u2 u3 u4 u5 u6; exact ro_none
  | succ m ih => intro u0 u1 u2 u3 u4 u5 u6; exact ro_X9_dueFor_b6 (X9_dueFor_L6  m) ih u0 u1 u2 u3 u4 u5 u6
theorem fr_f_X9_dueFor  (p0 : Nat) (p1 : Nat) (p2 : Nat) (p3 : Int32) (h : KH) : FR h (f_X9_dueFor p0 p1 p2 p3 h) := by
  unfold f_X9_dueFor
  have q0 : FL h h := FL.rf h
  repeat' with_reducible (first
    | exact fr_ret (by assumption)
    | exact fr_retZ (by assumption)
    | exact fr_retC (by assumption)
    | exact fr_thr (by assumption)
    | exact fr_none
    | exact fr_go (fr_X9_dueFor_L6 _ _ _ _ _ _ _ _) (by assumption)
    | refine fr_gI (fun _ => ?_)
    | refine fr_gR (fun _ => ?_)
    | refine fr_gN (fun _ => ?_)
    | refine fr_gAI (fun _ => ?_)
    | refine fr_gAL (fun _ => ?_)
    | refine fr_gAN (fun _ => ?_)
    | refine fr_kif ?_ ?_
    | refine fr_nul ?_ (fun _ => ?_)
    | refine fr_may (fun _ => ?_)
    | refine fr_kdv ?_
    | refine fr_pI (by assumption) (by decide) (fun _ _ => ?_)
    | refine fr_pR (by assumption) (fun _ _ => ?_)
    | refine fr_pAI (by assumption) (by decide) (fun _ _ => ?_)
    | refine fr_pAZ (by assumption) (by decide) (fun _ _ => ?_)
    | refine fr_pAL (by assumption) (fun _ _ => ?_)
    | refine fr_pAN (by assumption) (fun _ _ => ?_)
    | refine fr_nw (by assumption) (fun _ _ _ => ?_)
    | refine fr_nwM (by assumption) (fun _ _ _ => ?_)
    | refine fr_callV (fr_X9_dueFor_L6 _ _ _ _ _ _ _ _) (by assumption) (fun _ _ _ => ?_)
    | refine fr_bind (fr_X9_dueFor_L6 _ _ _ _ _ _ _ _) (by assumption) (fun _ _ _ => ?_)
    | refine fr_binI (fr_X9_dueFor_L6 _ _ _ _ _ _ _ _) (by assumption) (fun _ _ _ => ?_))
theorem ro_f_X9_dueFor  (p0 : Nat) (p1 : Nat) (p2 : Nat) (p3 : Int32) (h : KH) : RO h (f_X9_dueFor p0 p1 p2 p3 h) := by
  unfold f_X9_dueFor
  repeat' with_reducible (first
    | exact ro_ret
    | exact ro_retZ
    | exact ro_retC
    | exact ro_thr
    | exact ro_none
    | exact ro_X9_dueFor_L6 _ _ _ _ _ _ _ _
    | refine ro_gI (fun _ => ?_)
    | refine ro_gR (fun _ => ?_)
    | refine ro_gN (fun _ => ?_)
    | refine ro_gAI (fun _ => ?_)
    | refine ro_gAL (fun _ => ?_)
    | refine ro_gAN (fun _ => ?_)
    | refine ro_kif ?_ ?_
    | refine ro_nul ?_ (fun _ => ?_)
    | refine ro_may (fun _ => ?_)
    | refine ro_kdv ?_
    | refine ro_callV (ro_X9_dueFor_L6 _ _ _ _ _ _ _ _) (fun _ => ?_)
    | refine ro_bind (ro_X9_dueFor_L6 _ _ _ _ _ _ _ _) (fun _ => ?_)
    | refine ro_binI (ro_X9_dueFor_L6 _ _ _ _ _ _ _ _) (fun _ => ?_))
theorem fr_X9_dueByKept_b4 (rc4 : Nat → Int32 → Int32 → Int32 → KH → KO Int32) (hr4 : ∀ (u0 : Nat) (u1 : Int32) (u2 : Int32) (u3 : Int32) (u4 : KH), FR u4 (rc4 u0 u1 u2 u3 u4)) (v0 : Nat) (v1 : Int32) (v2 : Int32) (v3 : Int32) (h : KH) : FR h (X9_dueByKept_b4 rc4 v0 v1 v2 v3 h) := by
  unfold X9_dueByKept_b4
  have q0 : FL h h := FL.rf h
  repeat' with_reducible (first
    | exact fr_ret (by assumption)
    | exact fr_retZ (by assumption)
    | exact fr_retC (by assumption)
    | exact fr_thr (by assumption)
    | exact fr_none
    | exact fr_go (hr4 _ _ _ _ _) (by assumption)
    | exact fr_go (fr_f_X9_dueFor _ _ _ _ _) (by assumption)
    | refine fr_gI (fun _ => ?_)
    | refine fr_gR (fun _ => ?_)
    | refine fr_gN (fun _ => ?_)
    | refine fr_gAI (fun _ => ?_)
    | refine fr_gAL (fun _ => ?_)
    | refine fr_gAN (fun _ => ?_)
    | refine fr_kif ?_ ?_
    | refine fr_nul ?_ (fun _ => ?_)
    | refine fr_may (fun _ => ?_)
    | refine fr_kdv ?_
    | refine fr_pI (by assumption) (by decide) (fun _ _ => ?_)
    | refine fr_pR (by assumption) (fun _ _ => ?_)
    | refine fr_pAI (by assumption) (by decide) (fun _ _ => ?_)
    | refine fr_pAZ (by assumption) (by decide) (fun _ _ => ?_)
    | refine fr_pAL (by assumption) (fun _ _ => ?_)
    | refine fr_pAN (by assumption) (fun _ _ => ?_)
    | refine fr_nw (by assumption) (fun _ _ _ => ?_)
    | refine fr_nwM (by assumption) (fun _ _ _ => ?_)
    | refine fr_callV (hr4 _ _ _ _ _) (by assumption) (fun _ _ _ => ?_)
    | refine fr_bind (hr4 _ _ _ _ _) (by assumption) (fun _ _ _ => ?_)
    | refine fr_binI (hr4 _ _ _ _ _) (by assumption) (fun _ _ _ => ?_)
    | refine fr_callV (fr_f_X9_dueFor _ _ _ _ _) (by assumption) (fun _ _ _ => ?_)
    | refine fr_bind (fr_f_X9_dueFor _ _ _ _ _) (by assumption) (fun _ _ _ => ?_)
    | refine fr_binI (fr_f_X9_dueFor _ _ _ _ _) (by assumption) (fun _ _ _ => ?_))
theorem ro_X9_dueByKept_b4 (rc4 : Nat → Int32 → Int32 → Int32 → KH → KO Int32) (hr4 : ∀ (u0 : Nat) (u1 : Int32) (u2 : Int32) (u3 : Int32) (u4 : KH), RO u4 (rc4 u0 u1 u2 u3 u4)) (v0 : Nat) (v1 : Int32) (v2 : Int32) (v3 : Int32) (h : KH) : RO h (X9_dueByKept_b4 rc4 v0 v1 v2 v3 h) := by
  unfold X9_dueByKept_b4
  repeat' with_reducible (first
    | exact ro_ret
    | exact ro_retZ
    | exact ro_retC
    | exact ro_thr
    | exact ro_none
    | exact hr4 _ _ _ _ _
    | exact ro_f_X9_dueFor _ _ _ _ _
    | refine ro_gI (fun _ => ?_)
    | refine ro_gR (fun _ => ?_)
    | refine ro_gN (fun _ => ?_)
    | refine ro_gAI (fun _ => ?_)
    | refine ro_gAL (fun _ => ?_)
    | refine ro_gAN (fun _ => ?_)
    | refine ro_kif ?_ ?_
    | refine ro_nul ?_ (fun _ => ?_)
    | refine ro_may (fun _ => ?_)
    | refine ro_kdv ?_
    | refine ro_callV (hr4 _ _ _ _ _) (fun _ => ?_)
    | refine ro_bind (hr4 _ _ _ _ _) (fun _ => ?_)
    | refine ro_binI (hr4 _ _ _ _ _) (fun _ => ?_)
    | refine ro_callV (ro_f_X9_dueFor _ _ _ _ _) (fun _ => ?_)
    | refine ro_bind (ro_f_X9_dueFor _ _ _ _ _) (fun _ => ?_)
    | refine ro_binI (ro_f_X9_dueFor _ _ _ _ _) (fun _ => ?_))
theorem fr_X9_dueByKept_L4  : ∀ (m : Nat) (u0 : Nat) (u1 : Int32) (u2 : Int32) (u3 : Int32) (u4 : KH), FR u4 (X9_dueByKept_L4  m u0 u1 u2 u3 u4) := by
  intro m
  induction m with
  | zero => intro u0 u1 u2 u3 u4; exact fr_none
  | succ m ih => intro u0 u1 u2 u3 u4; exact fr_X9_dueByKept_b4 (X9_dueByKept_L4  m) ih u0 u1 u2 u3 u4
theorem ro_X9_dueByKept_L4  : ∀ (m : Nat) (u0 : Nat) (u1 : Int32) (u2 : Int32) (u3 : Int32) (u4 : KH), RO u4 (X9_dueByKept_L4  m u0 u1 u2 u3 u4) := by
  intro m
  induction m with
  | zero => intro u0 u1 u2 u3 u4; exact ro_none
  | succ m ih => intro u0 u1 u2 u3 u4; exact ro_X9_dueByKept_b4 (X9_dueByKept_L4  m) ih u0 u1 u2 u3 u4
theorem fr_f_X9_dueByKept  (p0 : Nat) (p1 : Int32) (h : KH) : FR h (f_X9_dueByKept p0 p1 h) := by
  unfold f_X9_dueByKept
  have q0 : FL h h := FL.rf h
  repeat' with_reducible (first
    | exact fr_ret (by assumption)
    | exact fr_retZ (by assumption)
    | exact fr_retC (by assumption)
    | exact fr_thr (by assumption)
    | exact fr_none
    | exact fr_go (fr_X9_dueByKept_L4 _ _ _ _ _ _) (by assumption)
    | refine fr_gI (fun _ => ?_)
    | refine fr_gR (fun _ => ?_)
    | refine fr_gN (fun _ => ?_)
    | refine fr_gAI (fun _ => ?_)
    | refine fr_gAL (fun _ => ?_)
    | refine fr_gAN (fun _ => ?_)
    | refine fr_kif ?_ ?_
    | refine fr_nul ?_ (fun _ => ?_)
    | refine fr_may (fun _ => ?_)
    | refine fr_kdv ?_
    | refine fr_pI (by assumption) (by decide) (fun _ _ => ?_)
    | refine fr_pR (by assumption) (fun _ _ => ?_)
    | refine fr_pAI (by assumption) (by decide) (fun _ _ => ?_)
    | refine fr_pAZ (by assumption) (by decide) (fun _ _ => ?_)
    | refine fr_pAL (by assumption) (fun _ _ => ?_)
    | refine fr_pAN (by assumption) (fun _ _ => ?_)
    | refine fr_nw (by assumption) (fun _ _ _ => ?_)
    | refine fr_nwM (by assumption) (fun _ _ _ => ?_)
    | refine fr_callV (fr_X9_dueByKept_L4 _ _ _ _ _ _) (by assumption) (fun _ _ _ => ?_)
    | refine fr_bind (fr_X9_dueByKept_L4 _ _ _ _ _ _) (by assumption) (fun _ _ _ => ?_)
    | refine fr_binI (fr_X9_dueByKept_L4 _ _ _ _ _ _) (by assumption) (fun _ _ _ => ?_))
theorem ro_f_X9_dueByKept  (p0 : Nat) (p1 : Int32) (h : KH) : RO h (f_X9_dueByKept p0 p1 h) := by
  unfold f_X9_dueByKept
  repeat' with_reducible (first
    | exact ro_ret
    | exact ro_retZ
    | exact ro_retC
    | exact ro_thr
    | exact ro_none
    | exact ro_X9_dueByKept_L4 _ _ _ _ _ _
    | refine ro_gI (fun _ => ?_)
    | refine ro_gR (fun _ => ?_)
    | refine ro_gN (fun _ => ?_)
    | refine ro_gAI (fun _ => ?_)
    | refine ro_gAL (fun _ => ?_)
    | refine ro_gAN (fun _ => ?_)
    | refine ro_kif ?_ ?_
    | refine ro_nul ?_ (fun _ => ?_)
    | refine ro_may (fun _ => ?_)
    | refine ro_kdv ?_
    | refine ro_callV (ro_X9_dueByKept_L4 _ _ _ _ _ _) (fun _ => ?_)
    | refine ro_bind (ro_X9_dueByKept_L4 _ _ _ _ _ _) (fun _ => ?_)
    | refine ro_binI (ro_X9_dueByKept_L4 _ _ _ _ _ _) (fun _ => ?_))
theorem fr_f_X9_due  (p0 : Nat) (p1 : Int32) (h : KH) : FR h (f_X9_due p0 p1 h) := by
  unfold f_X9_due
  have q0 : FL h h := FL.rf h
  repeat' with_reducible (first
    | exact fr_ret (by assumption)
    | exact fr_retZ (by assumption)
    | exact fr_retC (by assumption)
    | exact fr_thr (by assumption)
    | exact fr_none
    | exact fr_go (fr_f_X9_requireDriver _ _) (by assumption)
    | exact fr_go (fr_f_X9_dueByKept _ _ _) (by assumption)
    | refine fr_gI (fun _ => ?_)
    | refine fr_gR (fun _ => ?_)
    | refine fr_gN (fun _ => ?_)
    | refine fr_gAI (fun _ => ?_)
    | refine fr_gAL (fun _ => ?_)
    | refine fr_gAN (fun _ => ?_)
    | refine fr_kif ?_ ?_
    | refine fr_nul ?_ (fun _ => ?_)
    | refine fr_may (fun _ => ?_)
    | refine fr_kdv ?_
    | refine fr_pI (by assumption) (by decide) (fun _ _ => ?_)
    | refine fr_pR (by assumption) (fun _ _ => ?_)
    | refine fr_pAI (by assumption) (by decide) (fun _ _ => ?_)
    | refine fr_pAZ (by assumption) (by decide) (fun _ _ => ?_)
    | refine fr_pAL (by assumption) (fun _ _ => ?_)
    | refine fr_pAN (by assumption) (fun _ _ => ?_)
    | refine fr_nw (by assumption) (fun _ _ _ => ?_)
    | refine fr_nwM (by assumption) (fun _ _ _ => ?_)
    | refine fr_callV (fr_f_X9_requireDriver _ _) (by assumption) (fun _ _ _ => ?_)
    | refine fr_bind (fr_f_X9_requireDriver _ _) (by assumption) (fun _ _ _ => ?_)
    | refine fr_binI (fr_f_X9_requireDriver _ _) (by assumption) (fun _ _ _ => ?_)
    | refine fr_callV (fr_f_X9_dueByKept _ _ _) (by assumption) (fun _ _ _ => ?_)
    | refine fr_bind (fr_f_X9_dueByKept _ _ _) (by assumption) (fun _ _ _ => ?_)
    | refine fr_binI (fr_f_X9_dueByKept _ _ _) (by assumption) (fun _ _ _ => ?_))
theorem ro_f_X9_due  (p0 : Nat) (p1 : Int32) (h : KH) : RO h (f_X9_due p0 p1 h) := by
  unfold f_X9_due
  repeat' with_reducible (first
    | exact ro_ret
    | exact ro_retZ
    | exact ro_retC
    | exact ro_thr
    | exact ro_none
    | exact ro_f_X9_requireDriver _ _
    | exact ro_f_X9_dueByKept _ _ _
    | refine ro_gI (fun _ => ?_)
    | refine ro_gR (fun _ => ?_)
    | refine ro_gN (fun _ => ?_)
    | refine ro_gAI (fun _ => ?_)
    | refine ro_gAL (fun _ => ?_)
    | refine ro_gAN (fun _ => ?_)
    | refine ro_kif ?_ ?_
    | refine ro_nul ?_ (fun _ => ?_)
    | refine ro_may (fun _ => ?_)
    | refine ro_kdv ?_
    | refine ro_callV (ro_f_X9_requireDriver _ _) (fun _ => ?_)
    | refine ro_bind (ro_f_X9_requireDriver _ _) (fun _ => ?_)
    | refine ro_binI (ro_f_X9_requireDriver _ _) (fun _ => ?_)
    | refine ro_callV (ro_f_X9_dueByKept _ _ _) (fun _ => ?_)
    | refine ro_bind (ro_f_X9_dueByKept _ _ _) (fun _ => ?_)
    | refine ro_binI (ro_f_X9_dueByKept _ _ _) (fun _ => ?_))
theorem fr_X9_dueAnew_b8 (rc8 : Nat → Int32 → Int32 → Int32 → KH → KO Int32) (hr8 : ∀ (u0 : Nat) (u1 : Int32) (u2 : Int32) (u3 : Int32) (u4 : KH), FR u4 (rc8 u0 u1 u2 u3 u4)) (v0 : Nat) (v1 : Int32) (v2 : Int32) (v3 : Int32) (h : KH) : FR h (X9_dueAnew_b8 rc8 v0 v1 v2 v3 h) := by
  unfold X9_dueAnew_b8
  have q0 : FL h h := FL.rf h
  repeat' with_reducible (first
    | exact fr_ret (by assumption)
    | exact fr_retZ (by assumption)
    | exact fr_retC (by assumption)
    | exact fr_thr (by assumption)
    | exact fr_none
    | exact fr_go (hr8 _ _ _ _ _) (by assumption)
    | exact fr_go (fr_f_X9_joinAnew _ _ _) (by assumption)
    | exact fr_go (fr_f_X9_dueFor _ _ _ _ _) (by assumption)
    | refine fr_gI (fun _ => ?_)
    | refine fr_gR (fun _ => ?_)
    | refine fr_gN (fun _ => ?_)
    | refine fr_gAI (fun _ => ?_)
    | refine fr_gAL (fun _ => ?_)
    | refine fr_gAN (fun _ => ?_)
    | refine fr_kif ?_ ?_
    | refine fr_nul ?_ (fun _ => ?_)
    | refine fr_may (fun _ => ?_)
    | refine fr_kdv ?_
    | refine fr_pI (by assumption) (by decide) (fun _ _ => ?_)
    | refine fr_pR (by assumption) (fun _ _ => ?_)
    | refine fr_pAI (by assumption) (by decide) (fun _ _ => ?_)
    | refine fr_pAZ (by assumption) (by decide) (fun _ _ => ?_)
    | refine fr_pAL (by assumption) (fun _ _ => ?_)
    | refine fr_pAN (by assumption) (fun _ _ => ?_)
    | refine fr_nw (by assumption) (fun _ _ _ => ?_)
    | refine fr_nwM (by assumption) (fun _ _ _ => ?_)
    | refine fr_callV (hr8 _ _ _ _ _) (by assumption) (fun _ _ _ => ?_)
    | refine fr_bind (hr8 _ _ _ _ _) (by assumption) (fun _ _ _ => ?_)
    | refine fr_binI (hr8 _ _ _ _ _) (by assumption) (fun _ _ _ => ?_)
    | refine fr_callV (fr_f_X9_joinAnew _ _ _) (by assumption) (fun _ _ _ => ?_)
    | refine fr_bind (fr_f_X9_joinAnew _ _ _) (by assumption) (fun _ _ _ => ?_)
    | refine fr_binI (fr_f_X9_joinAnew _ _ _) (by assumption) (fun _ _ _ => ?_)
    | refine fr_callV (fr_f_X9_dueFor _ _ _ _ _) (by assumption) (fun _ _ _ => ?_)
    | refine fr_bind (fr_f_X9_dueFor _ _ _ _ _) (by assumption) (fun _ _ _ => ?_)
    | refine fr_binI (fr_f_X9_dueFor _ _ _ _ _) (by assumption) (fun _ _ _ => ?_))
theorem fr_X9_dueAnew_L8  : ∀ (m : Nat) (u0 : Nat) (u1 : Int32) (u2 : Int32) (u3 : Int32) (u4 : KH), FR u4 (X9_dueAnew_L8  m u0 u1 u2 u3 u4) := by
  intro m
  induction m with
  | zero => intro u0 u1 u2 u3 u4; exact fr_none
  | succ m ih => intro u0 u1 u2 u3 u4; exact fr_X9_dueAnew_b8 (X9_dueAnew_L8  m) ih u0 u1 u2 u3 u4
theorem fr_f_X9_dueAnew  (p0 : Nat) (p1 : Int32) (h : KH) : FR h (f_X9_dueAnew p0 p1 h) := by
  unfold f_X9_dueAnew
  have q0 : FL h h := FL.rf h
  repeat' with_reducible (first
    | exact fr_ret (by assumption)
    | exact fr_retZ (by assumption)
    | exact fr_retC (by assumption)
    | exact fr_thr (by assumption)
    | exact fr_none
    | exact fr_go (fr_f_X9_requireDriver _ _) (by assumption)
    | exact fr_go (fr_X9_dueAnew_L8 _ _ _ _ _ _) (by assumption)
    | refine fr_gI (fun _ => ?_)
    | refine fr_gR (fun _ => ?_)
    | refine fr_gN (fun _ => ?_)
    | refine fr_gAI (fun _ => ?_)
    | refine fr_gAL (fun _ => ?_)
    | refine fr_gAN (fun _ => ?_)
    | refine fr_kif ?_ ?_
    | refine fr_nul ?_ (fun _ => ?_)
    | refine fr_may (fun _ => ?_)
    | refine fr_kdv ?_
    | refine fr_pI (by assumption) (by decide) (fun _ _ => ?_)
    | refine fr_pR (by assumption) (fun _ _ => ?_)
    | refine fr_pAI (by assumption) (by decide) (fun _ _ => ?_)
    | refine fr_pAZ (by assumption) (by decide) (fun _ _ => ?_)
    | refine fr_pAL (by assumption) (fun _ _ => ?_)
    | refine fr_pAN (by assumption) (fun _ _ => ?_)
    | refine fr_nw (by assumption) (fun _ _ _ => ?_)
    | refine fr_nwM (by assumption) (fun _ _ _ => ?_)
    | refine fr_callV (fr_f_X9_requireDriver _ _) (by assumption) (fun _ _ _ => ?_)
    | refine fr_bind (fr_f_X9_requireDriver _ _) (by assumption) (fun _ _ _ => ?_)
    | refine fr_binI (fr_f_X9_requireDriver _ _) (by assumption) (fun _ _ _ => ?_)
    | refine fr_callV (fr_X9_dueAnew_L8 _ _ _ _ _ _) (by assumption) (fun _ _ _ => ?_)
    | refine fr_bind (fr_X9_dueAnew_L8 _ _ _ _ _ _) (by assumption) (fun _ _ _ => ?_)
    | refine fr_binI (fr_X9_dueAnew_L8 _ _ _ _ _ _) (by assumption) (fun _ _ _ => ?_))
theorem fr_X9_settle_b69 (rc4 : Nat → Int64 → Int32 → KH → KO Int32) (hr4 : ∀ (u0 : Nat) (u1 : Int64) (u2 : Int32) (u3 : KH), FR u3 (rc4 u0 u1 u2 u3)) (v0 : Nat) (v1 : Int64) (v3 : Int32) (h : KH) : FR h (X9_settle_b69 rc4 v0 v1 v3 h) := by
  unfold X9_settle_b69
  have q0 : FL h h := FL.rf h
  repeat' with_reducible (first
    | exact fr_ret (by assumption)
    | exact fr_retZ (by assumption)
    | exact fr_retC (by assumption)
    | exact fr_thr (by assumption)
    | exact fr_none
    | exact fr_go (hr4 _ _ _ _) (by assumption)
    | refine fr_gI (fun _ => ?_)
    | refine fr_gR (fun _ => ?_)
    | refine fr_gN (fun _ => ?_)
    | refine fr_gAI (fun _ => ?_)
    | refine fr_gAL (fun _ => ?_)
    | refine fr_gAN (fun _ => ?_)
    | refine fr_kif ?_ ?_
    | refine fr_nul ?_ (fun _ => ?_)
    | refine fr_may (fun _ => ?_)
    | refine fr_kdv ?_
    | refine fr_pI (by assumption) (by decide) (fun _ _ => ?_)
    | refine fr_pR (by assumption) (fun _ _ => ?_)
    | refine fr_pAI (by assumption) (by decide) (fun _ _ => ?_)
    | refine fr_pAZ (by assumption) (by decide) (fun _ _ => ?_)
    | refine fr_pAL (by assumption) (fun _ _ => ?_)
    | refine fr_pAN (by assumption) (fun _ _ => ?_)
    | refine fr_nw (by assumption) (fun _ _ _ => ?_)
    | refine fr_nwM (by assumption) (fun _ _ _ => ?_)
    | refine fr_callV (hr4 _ _ _ _) (by assumption) (fun _ _ _ => ?_)
    | refine fr_bind (hr4 _ _ _ _) (by assumption) (fun _ _ _ => ?_)
    | refine fr_binI (hr4 _ _ _ _) (by assumption) (fun _ _ _ => ?_))
theorem ro_X9_settle_b69 (rc4 : Nat → Int64 → Int32 → KH → KO Int32) (hr4 : ∀ (u0 : Nat) (u1 : Int64) (u2 : Int32) (u3 : KH), RO u3 (rc4 u0 u1 u2 u3)) (v0 : Nat) (v1 : Int64) (v3 : Int32) (h : KH) : RO h (X9_settle_b69 rc4 v0 v1 v3 h) := by
  unfold X9_settle_b69
  repeat' with_reducible (first
    | exact ro_ret
    | exact ro_retZ
    | exact ro_retC
    | exact ro_thr
    | exact ro_none
    | exact hr4 _ _ _ _
    | refine ro_gI (fun _ => ?_)
    | refine ro_gR (fun _ => ?_)
    | refine ro_gN (fun _ => ?_)
    | refine ro_gAI (fun _ => ?_)
    | refine ro_gAL (fun _ => ?_)
    | refine ro_gAN (fun _ => ?_)
    | refine ro_kif ?_ ?_
    | refine ro_nul ?_ (fun _ => ?_)
    | refine ro_may (fun _ => ?_)
    | refine ro_kdv ?_
    | refine ro_callV (hr4 _ _ _ _) (fun _ => ?_)
    | refine ro_bind (hr4 _ _ _ _) (fun _ => ?_)
    | refine ro_binI (hr4 _ _ _ _) (fun _ => ?_))
theorem fr_X9_settle_b4 (rc4 : Nat → Int64 → Int32 → KH → KO Int32) (hr4 : ∀ (u0 : Nat) (u1 : Int64) (u2 : Int32) (u3 : KH), FR u3 (rc4 u0 u1 u2 u3)) (v0 : Nat) (v1 : Int64) (v3 : Int32) (h : KH) : FR h (X9_settle_b4 rc4 v0 v1 v3 h) := by
  unfold X9_settle_b4
  have q0 : FL h h := FL.rf h
  repeat' with_reducible (first
    | exact fr_ret (by assumption)
    | exact fr_retZ (by assumption)
    | exact fr_retC (by assumption)
    | exact fr_thr (by assumption)
    | exact fr_none
    | exact fr_go (hr4 _ _ _ _) (by assumption)
    | exact fr_go (fr_f_X9_dueByKept _ _ _) (by assumption)
    | exact fr_go (fr_X9_settle_b69 _ (by assumption) _ _ _ _) (by assumption)
    | refine fr_gI (fun _ => ?_)
    | refine fr_gR (fun _ => ?_)
    | refine fr_gN (fun _ => ?_)
    | refine fr_gAI (fun _ => ?_)
    | refine fr_gAL (fun _ => ?_)
    | refine fr_gAN (fun _ => ?_)
    | refine fr_kif ?_ ?_
    | refine fr_nul ?_ (fun _ => ?_)
    | refine fr_may (fun _ => ?_)
    | refine fr_kdv ?_
    | refine fr_pI (by assumption) (by decide) (fun _ _ => ?_)
    | refine fr_pR (by assumption) (fun _ _ => ?_)
    | refine fr_pAI (by assumption) (by decide) (fun _ _ => ?_)
    | refine fr_pAZ (by assumption) (by decide) (fun _ _ => ?_)
    | refine fr_pAL (by assumption) (fun _ _ => ?_)
    | refine fr_pAN (by assumption) (fun _ _ => ?_)
    | refine fr_nw (by assumption) (fun _ _ _ => ?_)
    | refine fr_nwM (by assumption) (fun _ _ _ => ?_)
    | refine fr_callV (hr4 _ _ _ _) (by assumption) (fun _ _ _ => ?_)
    | refine fr_bind (hr4 _ _ _ _) (by assumption) (fun _ _ _ => ?_)
    | refine fr_binI (hr4 _ _ _ _) (by assumption) (fun _ _ _ => ?_)
    | refine fr_callV (fr_f_X9_dueByKept _ _ _) (by assumption) (fun _ _ _ => ?_)
    | refine fr_bind (fr_f_X9_dueByKept _ _ _) (by assumption) (fun _ _ _ => ?_)
    | refine fr_binI (fr_f_X9_dueByKept _ _ _) (by assumption) (fun _ _ _ => ?_)
    | refine fr_callV (fr_X9_settle_b69 _ (by assumption) _ _ _ _) (by assumption) (fun _ _ _ => ?_)
    | refine fr_bind (fr_X9_settle_b69 _ (by assumption) _ _ _ _) (by assumption) (fun _ _ _ => ?_)
    | refine fr_binI (fr_X9_settle_b69 _ (by assumption) _ _ _ _) (by assumption) (fun _ _ _ => ?_))
theorem fr_X9_settle_L4  : ∀ (m : Nat) (u0 : Nat) (u1 : Int64) (u2 : Int32) (u3 : KH), FR u3 (X9_settle_L4  m u0 u1 u2 u3) := by
  intro m
  induction m with
  | zero => intro u0 u1 u2 u3; exact fr_none
  | succ m ih => intro u0 u1 u2 u3; exact fr_X9_settle_b4 (X9_settle_L4  m) ih u0 u1 u2 u3
theorem fr_f_X9_settle  (p0 : Nat) (h : KH) : FR h (f_X9_settle p0 h) := by
  unfold f_X9_settle
  have q0 : FL h h := FL.rf h
  repeat' with_reducible (first
    | exact fr_ret (by assumption)
    | exact fr_retZ (by assumption)
    | exact fr_retC (by assumption)
    | exact fr_thr (by assumption)
    | exact fr_none
    | exact fr_go (fr_X9_settle_L4 _ _ _ _ _) (by assumption)
    | refine fr_gI (fun _ => ?_)
    | refine fr_gR (fun _ => ?_)
    | refine fr_gN (fun _ => ?_)
    | refine fr_gAI (fun _ => ?_)
    | refine fr_gAL (fun _ => ?_)
    | refine fr_gAN (fun _ => ?_)
    | refine fr_kif ?_ ?_
    | refine fr_nul ?_ (fun _ => ?_)
    | refine fr_may (fun _ => ?_)
    | refine fr_kdv ?_
    | refine fr_pI (by assumption) (by decide) (fun _ _ => ?_)
    | refine fr_pR (by assumption) (fun _ _ => ?_)
    | refine fr_pAI (by assumption) (by decide) (fun _ _ => ?_)
    | refine fr_pAZ (by assumption) (by decide) (fun _ _ => ?_)
    | refine fr_pAL (by assumption) (fun _ _ => ?_)
    | refine fr_pAN (by assumption) (fun _ _ => ?_)
    | refine fr_nw (by assumption) (fun _ _ _ => ?_)
    | refine fr_nwM (by assumption) (fun _ _ _ => ?_)
    | refine fr_callV (fr_X9_settle_L4 _ _ _ _ _) (by assumption) (fun _ _ _ => ?_)
    | refine fr_bind (fr_X9_settle_L4 _ _ _ _ _) (by assumption) (fun _ _ _ => ?_)
    | refine fr_binI (fr_X9_settle_L4 _ _ _ _ _) (by assumption) (fun _ _ _ => ?_))
theorem fr_f_X9_billed  (p0 : Nat) (p1 : Int32) (h : KH) : FR h (f_X9_billed p0 p1 h) := by
  unfold f_X9_billed
  have q0 : FL h h := FL.rf h
  repeat' with_reducible (first
    | exact fr_ret (by assumption)
    | exact fr_retZ (by assumption)
    | exact fr_retC (by assumption)
    | exact fr_thr (by assumption)
    | exact fr_none
    | exact fr_go (fr_f_X9_requireDriver _ _) (by assumption)
    | refine fr_gI (fun _ => ?_)
    | refine fr_gR (fun _ => ?_)
    | refine fr_gN (fun _ => ?_)
    | refine fr_gAI (fun _ => ?_)
    | refine fr_gAL (fun _ => ?_)
    | refine fr_gAN (fun _ => ?_)
    | refine fr_kif ?_ ?_
    | refine fr_nul ?_ (fun _ => ?_)
    | refine fr_may (fun _ => ?_)
    | refine fr_kdv ?_
    | refine fr_pI (by assumption) (by decide) (fun _ _ => ?_)
    | refine fr_pR (by assumption) (fun _ _ => ?_)
    | refine fr_pAI (by assumption) (by decide) (fun _ _ => ?_)
    | refine fr_pAZ (by assumption) (by decide) (fun _ _ => ?_)
    | refine fr_pAL (by assumption) (fun _ _ => ?_)
    | refine fr_pAN (by assumption) (fun _ _ => ?_)
    | refine fr_nw (by assumption) (fun _ _ _ => ?_)
    | refine fr_nwM (by assumption) (fun _ _ _ => ?_)
    | refine fr_callV (fr_f_X9_requireDriver _ _) (by assumption) (fun _ _ _ => ?_)
    | refine fr_bind (fr_f_X9_requireDriver _ _) (by assumption) (fun _ _ _ => ?_)
    | refine fr_binI (fr_f_X9_requireDriver _ _) (by assumption) (fun _ _ _ => ?_))
theorem ro_f_X9_billed  (p0 : Nat) (p1 : Int32) (h : KH) : RO h (f_X9_billed p0 p1 h) := by
  unfold f_X9_billed
  repeat' with_reducible (first
    | exact ro_ret
    | exact ro_retZ
    | exact ro_retC
    | exact ro_thr
    | exact ro_none
    | exact ro_f_X9_requireDriver _ _
    | refine ro_gI (fun _ => ?_)
    | refine ro_gR (fun _ => ?_)
    | refine ro_gN (fun _ => ?_)
    | refine ro_gAI (fun _ => ?_)
    | refine ro_gAL (fun _ => ?_)
    | refine ro_gAN (fun _ => ?_)
    | refine ro_kif ?_ ?_
    | refine ro_nul ?_ (fun _ => ?_)
    | refine ro_may (fun _ => ?_)
    | refine ro_kdv ?_
    | refine ro_callV (ro_f_X9_requireDriver _ _) (fun _ => ?_)
    | refine ro_bind (ro_f_X9_requireDriver _ _) (fun _ => ?_)
    | refine ro_binI (ro_f_X9_requireDriver _ _) (fun _ => ?_))
theorem fr_f_X9_paidBack  (p0 : Nat) (p1 : Int32) (h : KH) : FR h (f_X9_paidBack p0 p1 h) := by
  unfold f_X9_paidBack
  have q0 : FL h h := FL.rf h
  repeat' with_reducible (first
    | exact fr_ret (by assumption)
    | exact fr_retZ (by assumption)
    | exact fr_retC (by assumption)
    | exact fr_thr (by assumption)
    | exact fr_none
    | exact fr_go (fr_f_X9_requireDriver _ _) (by assumption)
    | refine fr_gI (fun _ => ?_)
    | refine fr_gR (fun _ => ?_)
    | refine fr_gN (fun _ => ?_)
    | refine fr_gAI (fun _ => ?_)
    | refine fr_gAL (fun _ => ?_)
    | refine fr_gAN (fun _ => ?_)
    | refine fr_kif ?_ ?_
    | refine fr_nul ?_ (fun _ => ?_)
    | refine fr_may (fun _ => ?_)
    | refine fr_kdv ?_
    | refine fr_pI (by assumption) (by decide) (fun _ _ => ?_)
    | refine fr_pR (by assumption) (fun _ _ => ?_)
    | refine fr_pAI (by assumption) (by decide) (fun _ _ => ?_)
    | refine fr_pAZ (by assumption) (by decide) (fun _ _ => ?_)
    | refine fr_pAL (by assumption) (fun _ _ => ?_)
    | refine fr_pAN (by assumption) (fun _ _ => ?_)
    | refine fr_nw (by assumption) (fun _ _ _ => ?_)
    | refine fr_nwM (by assumption) (fun _ _ _ => ?_)
    | refine fr_callV (fr_f_X9_requireDriver _ _) (by assumption) (fun _ _ _ => ?_)
    | refine fr_bind (fr_f_X9_requireDriver _ _) (by assumption) (fun _ _ _ => ?_)
    | refine fr_binI (fr_f_X9_requireDriver _ _) (by assumption) (fun _ _ _ => ?_))
theorem ro_f_X9_paidBack  (p0 : Nat) (p1 : Int32) (h : KH) : RO h (f_X9_paidBack p0 p1 h) := by
  unfold f_X9_paidBack
  repeat' with_reducible (first
    | exact ro_ret
    | exact ro_retZ
    | exact ro_retC
    | exact ro_thr
    | exact ro_none
    | exact ro_f_X9_requireDriver _ _
    | refine ro_gI (fun _ => ?_)
    | refine ro_gR (fun _ => ?_)
    | refine ro_gN (fun _ => ?_)
    | refine ro_gAI (fun _ => ?_)
    | refine ro_gAL (fun _ => ?_)
    | refine ro_gAN (fun _ => ?_)
    | refine ro_kif ?_ ?_
    | refine ro_nul ?_ (fun _ => ?_)
    | refine ro_may (fun _ => ?_)
    | refine ro_kdv ?_
    | refine ro_callV (ro_f_X9_requireDriver _ _) (fun _ => ?_)
    | refine ro_bind (ro_f_X9_requireDriver _ _) (fun _ => ?_)
    | refine ro_binI (ro_f_X9_requireDriver _ _) (fun _ => ?_))
theorem zr_f_zX9_pass  (p0 : Nat) (p1 : Int32) (h : KH) : ZR (f_X9_pass p0 p1 h) (f_zX9_pass p0 p1 h) := by
  unfold f_X9_pass f_zX9_pass
  repeat' with_reducible (first
    | exact zr_thr
    | refine zr_gI (fun _ => ?_)
    | refine zr_gR (fun _ => ?_)
    | refine zr_gN (fun _ => ?_)
    | refine zr_gAI (fun _ => ?_)
    | refine zr_gAL (fun _ => ?_)
    | refine zr_gAN (fun _ => ?_)
    | refine zr_kif ?_ ?_
    | refine zr_nul ?_ (fun _ => ?_)
    | refine zr_may (fun _ => ?_)
    | refine zr_pI (fun _ => ?_)
    | refine zr_pR (fun _ => ?_)
    | refine zr_pAI (fun _ => ?_)
    | refine zr_pAN (fun _ => ?_)
    | refine zr_nw (fun _ _ => ?_)
    | refine zr_callV zr_rf (fun _ _ => ?_)
    | refine zr_bind zr_rf (fun _ _ => ?_)
    | refine zr_binI zr_rf (fun _ _ => ?_)
    | exact zr_rf)
theorem zr_f_zX9_requireGate  (p0 : Int32) (h : KH) : ZR (f_X9_requireGate p0 h) (f_zX9_requireGate p0 h) := by
  unfold f_X9_requireGate f_zX9_requireGate
  repeat' with_reducible (first
    | exact zr_thr
    | refine zr_gI (fun _ => ?_)
    | refine zr_gR (fun _ => ?_)
    | refine zr_gN (fun _ => ?_)
    | refine zr_gAI (fun _ => ?_)
    | refine zr_gAL (fun _ => ?_)
    | refine zr_gAN (fun _ => ?_)
    | refine zr_kif ?_ ?_
    | refine zr_nul ?_ (fun _ => ?_)
    | refine zr_may (fun _ => ?_)
    | refine zr_pI (fun _ => ?_)
    | refine zr_pR (fun _ => ?_)
    | refine zr_pAI (fun _ => ?_)
    | refine zr_pAN (fun _ => ?_)
    | refine zr_nw (fun _ _ => ?_)
    | refine zr_callV zr_rf (fun _ _ => ?_)
    | refine zr_bind zr_rf (fun _ _ => ?_)
    | refine zr_binI zr_rf (fun _ _ => ?_)
    | exact zr_rf)
theorem zr_zX9_road_b24  (h : KH) : ZR (X9_road_b24 h) (zX9_road_b24 h) := by
  unfold X9_road_b24 zX9_road_b24
  repeat' with_reducible (first
    | exact zr_thr
    | refine zr_gI (fun _ => ?_)
    | refine zr_gR (fun _ => ?_)
    | refine zr_gN (fun _ => ?_)
    | refine zr_gAI (fun _ => ?_)
    | refine zr_gAL (fun _ => ?_)
    | refine zr_gAN (fun _ => ?_)
    | refine zr_kif ?_ ?_
    | refine zr_nul ?_ (fun _ => ?_)
    | refine zr_may (fun _ => ?_)
    | refine zr_pI (fun _ => ?_)
    | refine zr_pR (fun _ => ?_)
    | refine zr_pAI (fun _ => ?_)
    | refine zr_pAN (fun _ => ?_)
    | refine zr_nw (fun _ _ => ?_)
    | refine zr_callV zr_rf (fun _ _ => ?_)
    | refine zr_bind zr_rf (fun _ _ => ?_)
    | refine zr_binI zr_rf (fun _ _ => ?_)
    | exact zr_rf)
theorem zr_f_zX9_road  (p0 : Nat) (p1 : Int32) (p2 : Int32) (p3 : Int32) (h : KH) : ZR (f_X9_road p0 p1 p2 p3 h) (f_zX9_road p0 p1 p2 p3 h) := by
  unfold f_X9_road f_zX9_road
  repeat' with_reducible (first
    | exact zr_thr
    | exact zr_f_zX9_requireGate _ _
    | exact zr_zX9_road_b24 _
    | refine zr_gI (fun _ => ?_)
    | refine zr_gR (fun _ => ?_)
    | refine zr_gN (fun _ => ?_)
    | refine zr_gAI (fun _ => ?_)
    | refine zr_gAL (fun _ => ?_)
    | refine zr_gAN (fun _ => ?_)
    | refine zr_kif ?_ ?_
    | refine zr_nul ?_ (fun _ => ?_)
    | refine zr_may (fun _ => ?_)
    | refine zr_pI (fun _ => ?_)
    | refine zr_pR (fun _ => ?_)
    | refine zr_pAI (fun _ => ?_)
    | refine zr_pAN (fun _ => ?_)
    | refine zr_nw (fun _ _ => ?_)
    | refine zr_callV (zr_f_zX9_requireGate _ _) (fun _ _ => ?_)
    | refine zr_bind (zr_f_zX9_requireGate _ _) (fun _ _ => ?_)
    | refine zr_binI (zr_f_zX9_requireGate _ _) (fun _ _ => ?_)
    | refine zr_callV (zr_zX9_road_b24 _) (fun _ _ => ?_)
    | refine zr_bind (zr_zX9_road_b24 _) (fun _ _ => ?_)
    | refine zr_binI (zr_zX9_road_b24 _) (fun _ _ => ?_)
    | refine zr_callV zr_rf (fun _ _ => ?_)
    | refine zr_bind zr_rf (fun _ _ => ?_)
    | refine zr_binI zr_rf (fun _ _ => ?_)
    | exact zr_rf)
theorem zr_f_zX9_distance  (p0 : Nat) (p1 : Int32) (p2 : Int32) (h : KH) : ZR (f_X9_distance p0 p1 p2 h) (f_zX9_distance p0 p1 p2 h) := by
  unfold f_X9_distance f_zX9_distance
  repeat' with_reducible (first
    | exact zr_thr
    | exact zr_f_zX9_requireGate _ _
    | refine zr_gI (fun _ => ?_)
    | refine zr_gR (fun _ => ?_)
    | refine zr_gN (fun _ => ?_)
    | refine zr_gAI (fun _ => ?_)
    | refine zr_gAL (fun _ => ?_)
    | refine zr_gAN (fun _ => ?_)
    | refine zr_kif ?_ ?_
    | refine zr_nul ?_ (fun _ => ?_)
    | refine zr_may (fun _ => ?_)
    | refine zr_pI (fun _ => ?_)
    | refine zr_pR (fun _ => ?_)
    | refine zr_pAI (fun _ => ?_)
    | refine zr_pAN (fun _ => ?_)
    | refine zr_nw (fun _ _ => ?_)
    | refine zr_callV (zr_f_zX9_requireGate _ _) (fun _ _ => ?_)
    | refine zr_bind (zr_f_zX9_requireGate _ _) (fun _ _ => ?_)
    | refine zr_binI (zr_f_zX9_requireGate _ _) (fun _ _ => ?_)
    | refine zr_callV zr_rf (fun _ _ => ?_)
    | refine zr_bind zr_rf (fun _ _ => ?_)
    | refine zr_binI zr_rf (fun _ _ => ?_)
    | exact zr_rf)
theorem zr_f_zX9_setPause  (p0 : Nat) (p1 : Int32) (h : KH) : ZR (f_X9_setPause p0 p1 h) (f_zX9_setPause p0 p1 h) := by
  unfold f_X9_setPause f_zX9_setPause
  repeat' with_reducible (first
    | exact zr_thr
    | refine zr_gI (fun _ => ?_)
    | refine zr_gR (fun _ => ?_)
    | refine zr_gN (fun _ => ?_)
    | refine zr_gAI (fun _ => ?_)
    | refine zr_gAL (fun _ => ?_)
    | refine zr_gAN (fun _ => ?_)
    | refine zr_kif ?_ ?_
    | refine zr_nul ?_ (fun _ => ?_)
    | refine zr_may (fun _ => ?_)
    | refine zr_pI (fun _ => ?_)
    | refine zr_pR (fun _ => ?_)
    | refine zr_pAI (fun _ => ?_)
    | refine zr_pAN (fun _ => ?_)
    | refine zr_nw (fun _ _ => ?_)
    | refine zr_callV zr_rf (fun _ _ => ?_)
    | refine zr_bind zr_rf (fun _ _ => ?_)
    | refine zr_binI zr_rf (fun _ _ => ?_)
    | exact zr_rf)
theorem zr_f_zX9_requireClass  (p0 : Int32) (h : KH) : ZR (f_X9_requireClass p0 h) (f_zX9_requireClass p0 h) := by
  unfold f_X9_requireClass f_zX9_requireClass
  repeat' with_reducible (first
    | exact zr_thr
    | refine zr_gI (fun _ => ?_)
    | refine zr_gR (fun _ => ?_)
    | refine zr_gN (fun _ => ?_)
    | refine zr_gAI (fun _ => ?_)
    | refine zr_gAL (fun _ => ?_)
    | refine zr_gAN (fun _ => ?_)
    | refine zr_kif ?_ ?_
    | refine zr_nul ?_ (fun _ => ?_)
    | refine zr_may (fun _ => ?_)
    | refine zr_pI (fun _ => ?_)
    | refine zr_pR (fun _ => ?_)
    | refine zr_pAI (fun _ => ?_)
    | refine zr_pAN (fun _ => ?_)
    | refine zr_nw (fun _ _ => ?_)
    | refine zr_callV zr_rf (fun _ _ => ?_)
    | refine zr_bind zr_rf (fun _ _ => ?_)
    | refine zr_binI zr_rf (fun _ _ => ?_)
    | exact zr_rf)
theorem zr_f_zX9_setRate  (p0 : Nat) (p1 : Int32) (p2 : Int32) (h : KH) : ZR (f_X9_setRate p0 p1 p2 h) (f_zX9_setRate p0 p1 p2 h) := by
  unfold f_X9_setRate f_zX9_setRate
  repeat' with_reducible (first
    | exact zr_thr
    | exact zr_f_zX9_requireClass _ _
    | refine zr_gI (fun _ => ?_)
    | refine zr_gR (fun _ => ?_)
    | refine zr_gN (fun _ => ?_)
    | refine zr_gAI (fun _ => ?_)
    | refine zr_gAL (fun _ => ?_)
    | refine zr_gAN (fun _ => ?_)
    | refine zr_kif ?_ ?_
    | refine zr_nul ?_ (fun _ => ?_)
    | refine zr_may (fun _ => ?_)
    | refine zr_pI (fun _ => ?_)
    | refine zr_pR (fun _ => ?_)
    | refine zr_pAI (fun _ => ?_)
    | refine zr_pAN (fun _ => ?_)
    | refine zr_nw (fun _ _ => ?_)
    | refine zr_callV (zr_f_zX9_requireClass _ _) (fun _ _ => ?_)
    | refine zr_bind (zr_f_zX9_requireClass _ _) (fun _ _ => ?_)
    | refine zr_binI (zr_f_zX9_requireClass _ _) (fun _ _ => ?_)
    | refine zr_callV zr_rf (fun _ _ => ?_)
    | refine zr_bind zr_rf (fun _ _ => ?_)
    | refine zr_binI zr_rf (fun _ _ => ?_)
    | exact zr_rf)
theorem zr_f_zX9_requireSign  (p0 : Int32) (h : KH) : ZR (f_X9_requireSign p0 h) (f_zX9_requireSign p0 h) := by
  unfold f_X9_requireSign f_zX9_requireSign
  repeat' with_reducible (first
    | exact zr_thr
    | refine zr_gI (fun _ => ?_)
    | refine zr_gR (fun _ => ?_)
    | refine zr_gN (fun _ => ?_)
    | refine zr_gAI (fun _ => ?_)
    | refine zr_gAL (fun _ => ?_)
    | refine zr_gAN (fun _ => ?_)
    | refine zr_kif ?_ ?_
    | refine zr_nul ?_ (fun _ => ?_)
    | refine zr_may (fun _ => ?_)
    | refine zr_pI (fun _ => ?_)
    | refine zr_pR (fun _ => ?_)
    | refine zr_pAI (fun _ => ?_)
    | refine zr_pAN (fun _ => ?_)
    | refine zr_nw (fun _ _ => ?_)
    | refine zr_callV zr_rf (fun _ _ => ?_)
    | refine zr_bind zr_rf (fun _ _ => ?_)
    | refine zr_binI zr_rf (fun _ _ => ?_)
    | exact zr_rf)
theorem zr_f_zX9_requireRoomForSign  (p0 : Nat) (h : KH) : ZR (f_X9_requireRoomForSign p0 h) (f_zX9_requireRoomForSign p0 h) := by
  unfold f_X9_requireRoomForSign f_zX9_requireRoomForSign
  repeat' with_reducible (first
    | exact zr_thr
    | refine zr_gI (fun _ => ?_)
    | refine zr_gR (fun _ => ?_)
    | refine zr_gN (fun _ => ?_)
    | refine zr_gAI (fun _ => ?_)
    | refine zr_gAL (fun _ => ?_)
    | refine zr_gAN (fun _ => ?_)
    | refine zr_kif ?_ ?_
    | refine zr_nul ?_ (fun _ => ?_)
    | refine zr_may (fun _ => ?_)
    | refine zr_pI (fun _ => ?_)
    | refine zr_pR (fun _ => ?_)
    | refine zr_pAI (fun _ => ?_)
    | refine zr_pAN (fun _ => ?_)
    | refine zr_nw (fun _ _ => ?_)
    | refine zr_callV zr_rf (fun _ _ => ?_)
    | refine zr_bind zr_rf (fun _ _ => ?_)
    | refine zr_binI zr_rf (fun _ _ => ?_)
    | exact zr_rf)
theorem zr_f_zX9_spell  (p0 : Nat) (p1 : Int32) (h : KH) : ZR (f_X9_spell p0 p1 h) (f_zX9_spell p0 p1 h) := by
  unfold f_X9_spell f_zX9_spell
  repeat' with_reducible (first
    | exact zr_thr
    | exact zr_f_zX9_requireSign _ _
    | exact zr_f_zX9_requireRoomForSign _ _
    | refine zr_gI (fun _ => ?_)
    | refine zr_gR (fun _ => ?_)
    | refine zr_gN (fun _ => ?_)
    | refine zr_gAI (fun _ => ?_)
    | refine zr_gAL (fun _ => ?_)
    | refine zr_gAN (fun _ => ?_)
    | refine zr_kif ?_ ?_
    | refine zr_nul ?_ (fun _ => ?_)
    | refine zr_may (fun _ => ?_)
    | refine zr_pI (fun _ => ?_)
    | refine zr_pR (fun _ => ?_)
    | refine zr_pAI (fun _ => ?_)
    | refine zr_pAN (fun _ => ?_)
    | refine zr_nw (fun _ _ => ?_)
    | refine zr_callV (zr_f_zX9_requireSign _ _) (fun _ _ => ?_)
    | refine zr_bind (zr_f_zX9_requireSign _ _) (fun _ _ => ?_)
    | refine zr_binI (zr_f_zX9_requireSign _ _) (fun _ _ => ?_)
    | refine zr_callV (zr_f_zX9_requireRoomForSign _ _) (fun _ _ => ?_)
    | refine zr_bind (zr_f_zX9_requireRoomForSign _ _) (fun _ _ => ?_)
    | refine zr_binI (zr_f_zX9_requireRoomForSign _ _) (fun _ _ => ?_)
    | refine zr_callV zr_rf (fun _ _ => ?_)
    | refine zr_bind zr_rf (fun _ _ => ?_)
    | refine zr_binI zr_rf (fun _ _ => ?_)
    | exact zr_rf)
theorem zr_f_zX9_insert  (p0 : Nat) (p1 : Int32) (p2 : Int32) (h : KH) : ZR (f_X9_insert p0 p1 p2 h) (f_zX9_insert p0 p1 p2 h) := by
  unfold f_X9_insert f_zX9_insert
  repeat' with_reducible (first
    | exact zr_thr
    | exact zr_f_zX9_requireSign _ _
    | exact zr_f_zX9_requireRoomForSign _ _
    | refine zr_gI (fun _ => ?_)
    | refine zr_gR (fun _ => ?_)
    | refine zr_gN (fun _ => ?_)
    | refine zr_gAI (fun _ => ?_)
    | refine zr_gAL (fun _ => ?_)
    | refine zr_gAN (fun _ => ?_)
    | refine zr_kif ?_ ?_
    | refine zr_nul ?_ (fun _ => ?_)
    | refine zr_may (fun _ => ?_)
    | refine zr_pI (fun _ => ?_)
    | refine zr_pR (fun _ => ?_)
    | refine zr_pAI (fun _ => ?_)
    | refine zr_pAN (fun _ => ?_)
    | refine zr_nw (fun _ _ => ?_)
    | refine zr_callV (zr_f_zX9_requireSign _ _) (fun _ _ => ?_)
    | refine zr_bind (zr_f_zX9_requireSign _ _) (fun _ _ => ?_)
    | refine zr_binI (zr_f_zX9_requireSign _ _) (fun _ _ => ?_)
    | refine zr_callV (zr_f_zX9_requireRoomForSign _ _) (fun _ _ => ?_)
    | refine zr_bind (zr_f_zX9_requireRoomForSign _ _) (fun _ _ => ?_)
    | refine zr_binI (zr_f_zX9_requireRoomForSign _ _) (fun _ _ => ?_)
    | refine zr_callV zr_rf (fun _ _ => ?_)
    | refine zr_bind zr_rf (fun _ _ => ?_)
    | refine zr_binI zr_rf (fun _ _ => ?_)
    | exact zr_rf)
theorem zr_f_zX9_charAt  (p0 : Nat) (p1 : Int32) (h : KH) : ZR (f_X9_charAt p0 p1 h) (f_zX9_charAt p0 p1 h) := by
  unfold f_X9_charAt f_zX9_charAt
  repeat' with_reducible (first
    | exact zr_thr
    | refine zr_gI (fun _ => ?_)
    | refine zr_gR (fun _ => ?_)
    | refine zr_gN (fun _ => ?_)
    | refine zr_gAI (fun _ => ?_)
    | refine zr_gAL (fun _ => ?_)
    | refine zr_gAN (fun _ => ?_)
    | refine zr_kif ?_ ?_
    | refine zr_nul ?_ (fun _ => ?_)
    | refine zr_may (fun _ => ?_)
    | refine zr_pI (fun _ => ?_)
    | refine zr_pR (fun _ => ?_)
    | refine zr_pAI (fun _ => ?_)
    | refine zr_pAN (fun _ => ?_)
    | refine zr_nw (fun _ _ => ?_)
    | refine zr_callV zr_rf (fun _ _ => ?_)
    | refine zr_bind zr_rf (fun _ _ => ?_)
    | refine zr_binI zr_rf (fun _ _ => ?_)
    | exact zr_rf)
theorem zr_zX9_alike_b25  (h : KH) : ZR (X9_alike_b25 h) (zX9_alike_b25 h) := by
  unfold X9_alike_b25 zX9_alike_b25
  repeat' with_reducible (first
    | exact zr_thr
    | refine zr_gI (fun _ => ?_)
    | refine zr_gR (fun _ => ?_)
    | refine zr_gN (fun _ => ?_)
    | refine zr_gAI (fun _ => ?_)
    | refine zr_gAL (fun _ => ?_)
    | refine zr_gAN (fun _ => ?_)
    | refine zr_kif ?_ ?_
    | refine zr_nul ?_ (fun _ => ?_)
    | refine zr_may (fun _ => ?_)
    | refine zr_pI (fun _ => ?_)
    | refine zr_pR (fun _ => ?_)
    | refine zr_pAI (fun _ => ?_)
    | refine zr_pAN (fun _ => ?_)
    | refine zr_nw (fun _ _ => ?_)
    | refine zr_callV zr_rf (fun _ _ => ?_)
    | refine zr_bind zr_rf (fun _ _ => ?_)
    | refine zr_binI zr_rf (fun _ _ => ?_)
    | exact zr_rf)
theorem zr_f_zX9_alike  (p0 : Nat) (p1 : Int32) (p2 : Int32) (h : KH) : ZR (f_X9_alike p0 p1 p2 h) (f_zX9_alike p0 p1 p2 h) := by
  unfold f_X9_alike f_zX9_alike
  repeat' with_reducible (first
    | exact zr_thr
    | exact zr_f_zX9_requireSign _ _
    | exact zr_zX9_alike_b25 _
    | refine zr_gI (fun _ => ?_)
    | refine zr_gR (fun _ => ?_)
    | refine zr_gN (fun _ => ?_)
    | refine zr_gAI (fun _ => ?_)
    | refine zr_gAL (fun _ => ?_)
    | refine zr_gAN (fun _ => ?_)
    | refine zr_kif ?_ ?_
    | refine zr_nul ?_ (fun _ => ?_)
    | refine zr_may (fun _ => ?_)
    | refine zr_pI (fun _ => ?_)
    | refine zr_pR (fun _ => ?_)
    | refine zr_pAI (fun _ => ?_)
    | refine zr_pAN (fun _ => ?_)
    | refine zr_nw (fun _ _ => ?_)
    | refine zr_callV (zr_f_zX9_requireSign _ _) (fun _ _ => ?_)
    | refine zr_bind (zr_f_zX9_requireSign _ _) (fun _ _ => ?_)
    | refine zr_binI (zr_f_zX9_requireSign _ _) (fun _ _ => ?_)
    | refine zr_callV (zr_zX9_alike_b25 _) (fun _ _ => ?_)
    | refine zr_bind (zr_zX9_alike_b25 _) (fun _ _ => ?_)
    | refine zr_binI (zr_zX9_alike_b25 _) (fun _ _ => ?_)
    | refine zr_callV zr_rf (fun _ _ => ?_)
    | refine zr_bind zr_rf (fun _ _ => ?_)
    | refine zr_binI zr_rf (fun _ _ => ?_)
    | exact zr_rf)
theorem zr_f_zX9_requireDriver  (p0 : Int32) (h : KH) : ZR (f_X9_requireDriver p0 h) (f_zX9_requireDriver p0 h) := by
  unfold f_X9_requireDriver f_zX9_requireDriver
  repeat' with_reducible (first
    | exact zr_thr
    | refine zr_gI (fun _ => ?_)
    | refine zr_gR (fun _ => ?_)
    | refine zr_gN (fun _ => ?_)
    | refine zr_gAI (fun _ => ?_)
    | refine zr_gAL (fun _ => ?_)
    | refine zr_gAN (fun _ => ?_)
    | refine zr_kif ?_ ?_
    | refine zr_nul ?_ (fun _ => ?_)
    | refine zr_may (fun _ => ?_)
    | refine zr_pI (fun _ => ?_)
    | refine zr_pR (fun _ => ?_)
    | refine zr_pAI (fun _ => ?_)
    | refine zr_pAN (fun _ => ?_)
    | refine zr_nw (fun _ _ => ?_)
    | refine zr_callV zr_rf (fun _ _ => ?_)
    | refine zr_bind zr_rf (fun _ _ => ?_)
    | refine zr_binI zr_rf (fun _ _ => ?_)
    | exact zr_rf)
theorem zr_zX9_register_b48  (h : KH) : ZR (X9_register_b48 h) (zX9_register_b48 h) := by
  unfold X9_register_b48 zX9_register_b48
  repeat' with_reducible (first
    | exact zr_thr
    | refine zr_gI (fun _ => ?_)
    | refine zr_gR (fun _ => ?_)
    | refine zr_gN (fun _ => ?_)
    | refine zr_gAI (fun _ => ?_)
    | refine zr_gAL (fun _ => ?_)
    | refine zr_gAN (fun _ => ?_)
    | refine zr_kif ?_ ?_
    | refine zr_nul ?_ (fun _ => ?_)
    | refine zr_may (fun _ => ?_)
    | refine zr_pI (fun _ => ?_)
    | refine zr_pR (fun _ => ?_)
    | refine zr_pAI (fun _ => ?_)
    | refine zr_pAN (fun _ => ?_)
    | refine zr_nw (fun _ _ => ?_)
    | refine zr_callV zr_rf (fun _ _ => ?_)
    | refine zr_bind zr_rf (fun _ _ => ?_)
    | refine zr_binI zr_rf (fun _ _ => ?_)
    | exact zr_rf)
theorem zr_f_zX9_register  (p0 : Nat) (p1 : Int32) (p2 : Int32) (h : KH) : ZR (f_X9_register p0 p1 p2 h) (f_zX9_register p0 p1 p2 h) := by
  unfold f_X9_register f_zX9_register
  repeat' with_reducible (first
    | exact zr_thr
    | exact zr_f_zX9_requireDriver _ _
    | exact zr_f_zX9_requireClass _ _
    | exact zr_zX9_register_b48 _
    | refine zr_gI (fun _ => ?_)
    | refine zr_gR (fun _ => ?_)
    | refine zr_gN (fun _ => ?_)
    | refine zr_gAI (fun _ => ?_)
    | refine zr_gAL (fun _ => ?_)
    | refine zr_gAN (fun _ => ?_)
    | refine zr_kif ?_ ?_
    | refine zr_nul ?_ (fun _ => ?_)
    | refine zr_may (fun _ => ?_)
    | refine zr_pI (fun _ => ?_)
    | refine zr_pR (fun _ => ?_)
    | refine zr_pAI (fun _ => ?_)
    | refine zr_pAN (fun _ => ?_)
    | refine zr_nw (fun _ _ => ?_)
    | refine zr_callV (zr_f_zX9_requireDriver _ _) (fun _ _ => ?_)
    | refine zr_bind (zr_f_zX9_requireDriver _ _) (fun _ _ => ?_)
    | refine zr_binI (zr_f_zX9_requireDriver _ _) (fun _ _ => ?_)
    | refine zr_callV (zr_f_zX9_requireClass _ _) (fun _ _ => ?_)
    | refine zr_bind (zr_f_zX9_requireClass _ _) (fun _ _ => ?_)
    | refine zr_binI (zr_f_zX9_requireClass _ _) (fun _ _ => ?_)
    | refine zr_callV (zr_zX9_register_b48 _) (fun _ _ => ?_)
    | refine zr_bind (zr_zX9_register_b48 _) (fun _ _ => ?_)
    | refine zr_binI (zr_zX9_register_b48 _) (fun _ _ => ?_)
    | refine zr_callV zr_rf (fun _ _ => ?_)
    | refine zr_bind zr_rf (fun _ _ => ?_)
    | refine zr_binI zr_rf (fun _ _ => ?_)
    | exact zr_rf)
theorem zr_f_zX9_plateNumbered  (p0 : Nat) (p1 : Int32) (h : KH) : ZR (f_X9_plateNumbered p0 p1 h) (f_zX9_plateNumbered p0 p1 h) := by
  unfold f_X9_plateNumbered f_zX9_plateNumbered
  repeat' with_reducible (first
    | exact zr_thr
    | refine zr_gI (fun _ => ?_)
    | refine zr_gR (fun _ => ?_)
    | refine zr_gN (fun _ => ?_)
    | refine zr_gAI (fun _ => ?_)
    | refine zr_gAL (fun _ => ?_)
    | refine zr_gAN (fun _ => ?_)
    | refine zr_kif ?_ ?_
    | refine zr_nul ?_ (fun _ => ?_)
    | refine zr_may (fun _ => ?_)
    | refine zr_pI (fun _ => ?_)
    | refine zr_pR (fun _ => ?_)
    | refine zr_pAI (fun _ => ?_)
    | refine zr_pAN (fun _ => ?_)
    | refine zr_nw (fun _ _ => ?_)
    | refine zr_callV zr_rf (fun _ _ => ?_)
    | refine zr_bind zr_rf (fun _ _ => ?_)
    | refine zr_binI zr_rf (fun _ _ => ?_)
    | exact zr_rf)
theorem zr_f_zX9_sell  (p0 : Nat) (p1 : Int32) (p2 : Int32) (h : KH) : ZR (f_X9_sell p0 p1 p2 h) (f_zX9_sell p0 p1 p2 h) := by
  unfold f_X9_sell f_zX9_sell
  repeat' with_reducible (first
    | exact zr_thr
    | exact zr_f_zX9_plateNumbered _ _ _
    | exact zr_f_zX9_requireDriver _ _
    | refine zr_gI (fun _ => ?_)
    | refine zr_gR (fun _ => ?_)
    | refine zr_gN (fun _ => ?_)
    | refine zr_gAI (fun _ => ?_)
    | refine zr_gAL (fun _ => ?_)
    | refine zr_gAN (fun _ => ?_)
    | refine zr_kif ?_ ?_
    | refine zr_nul ?_ (fun _ => ?_)
    | refine zr_may (fun _ => ?_)
    | refine zr_pI (fun _ => ?_)
    | refine zr_pR (fun _ => ?_)
    | refine zr_pAI (fun _ => ?_)
    | refine zr_pAN (fun _ => ?_)
    | refine zr_nw (fun _ _ => ?_)
    | refine zr_callV (zr_f_zX9_plateNumbered _ _ _) (fun _ _ => ?_)
    | refine zr_bind (zr_f_zX9_plateNumbered _ _ _) (fun _ _ => ?_)
    | refine zr_binI (zr_f_zX9_plateNumbered _ _ _) (fun _ _ => ?_)
    | refine zr_callV (zr_f_zX9_requireDriver _ _) (fun _ _ => ?_)
    | refine zr_bind (zr_f_zX9_requireDriver _ _) (fun _ _ => ?_)
    | refine zr_binI (zr_f_zX9_requireDriver _ _) (fun _ _ => ?_)
    | refine zr_callV zr_rf (fun _ _ => ?_)
    | refine zr_bind zr_rf (fun _ _ => ?_)
    | refine zr_binI zr_rf (fun _ _ => ?_)
    | exact zr_rf)
theorem zr_f_zX9_plateAt  (p0 : Nat) (p1 : Int32) (h : KH) : ZR (f_X9_plateAt p0 p1 h) (f_zX9_plateAt p0 p1 h) := by
  unfold f_X9_plateAt f_zX9_plateAt
  repeat' with_reducible (first
    | exact zr_thr
    | refine zr_gI (fun _ => ?_)
    | refine zr_gR (fun _ => ?_)
    | refine zr_gN (fun _ => ?_)
    | refine zr_gAI (fun _ => ?_)
    | refine zr_gAL (fun _ => ?_)
    | refine zr_gAN (fun _ => ?_)
    | refine zr_kif ?_ ?_
    | refine zr_nul ?_ (fun _ => ?_)
    | refine zr_may (fun _ => ?_)
    | refine zr_pI (fun _ => ?_)
    | refine zr_pR (fun _ => ?_)
    | refine zr_pAI (fun _ => ?_)
    | refine zr_pAN (fun _ => ?_)
    | refine zr_nw (fun _ _ => ?_)
    | refine zr_callV zr_rf (fun _ _ => ?_)
    | refine zr_bind zr_rf (fun _ _ => ?_)
    | refine zr_binI zr_rf (fun _ _ => ?_)
    | exact zr_rf)
theorem zr_f_zX9_requireMinute  (p0 : Nat) (p1 : Int32) (h : KH) : ZR (f_X9_requireMinute p0 p1 h) (f_zX9_requireMinute p0 p1 h) := by
  unfold f_X9_requireMinute f_zX9_requireMinute
  repeat' with_reducible (first
    | exact zr_thr
    | refine zr_gI (fun _ => ?_)
    | refine zr_gR (fun _ => ?_)
    | refine zr_gN (fun _ => ?_)
    | refine zr_gAI (fun _ => ?_)
    | refine zr_gAL (fun _ => ?_)
    | refine zr_gAN (fun _ => ?_)
    | refine zr_kif ?_ ?_
    | refine zr_nul ?_ (fun _ => ?_)
    | refine zr_may (fun _ => ?_)
    | refine zr_pI (fun _ => ?_)
    | refine zr_pR (fun _ => ?_)
    | refine zr_pAI (fun _ => ?_)
    | refine zr_pAN (fun _ => ?_)
    | refine zr_nw (fun _ _ => ?_)
    | refine zr_callV zr_rf (fun _ _ => ?_)
    | refine zr_bind zr_rf (fun _ _ => ?_)
    | refine zr_binI zr_rf (fun _ _ => ?_)
    | exact zr_rf)
theorem zr_f_zX9_holder  (p0 : Nat) (p1 : Int32) (p2 : Int32) (h : KH) : ZR (f_X9_holder p0 p1 p2 h) (f_zX9_holder p0 p1 p2 h) := by
  unfold f_X9_holder f_zX9_holder
  repeat' with_reducible (first
    | exact zr_thr
    | exact zr_f_zX9_plateNumbered _ _ _
    | exact zr_f_zX9_requireMinute _ _ _
    | refine zr_gI (fun _ => ?_)
    | refine zr_gR (fun _ => ?_)
    | refine zr_gN (fun _ => ?_)
    | refine zr_gAI (fun _ => ?_)
    | refine zr_gAL (fun _ => ?_)
    | refine zr_gAN (fun _ => ?_)
    | refine zr_kif ?_ ?_
    | refine zr_nul ?_ (fun _ => ?_)
    | refine zr_may (fun _ => ?_)
    | refine zr_pI (fun _ => ?_)
    | refine zr_pR (fun _ => ?_)
    | refine zr_pAI (fun _ => ?_)
    | refine zr_pAN (fun _ => ?_)
    | refine zr_nw (fun _ _ => ?_)
    | refine zr_callV (zr_f_zX9_plateNumbered _ _ _) (fun _ _ => ?_)
    | refine zr_bind (zr_f_zX9_plateNumbered _ _ _) (fun _ _ => ?_)
    | refine zr_binI (zr_f_zX9_plateNumbered _ _ _) (fun _ _ => ?_)
    | refine zr_callV (zr_f_zX9_requireMinute _ _ _) (fun _ _ => ?_)
    | refine zr_bind (zr_f_zX9_requireMinute _ _ _) (fun _ _ => ?_)
    | refine zr_binI (zr_f_zX9_requireMinute _ _ _) (fun _ _ => ?_)
    | refine zr_callV zr_rf (fun _ _ => ?_)
    | refine zr_bind zr_rf (fun _ _ => ?_)
    | refine zr_binI zr_rf (fun _ _ => ?_)
    | exact zr_rf)
theorem zr_zX9_read_b28  (h : KH) : ZR (X9_read_b28 h) (zX9_read_b28 h) := by
  unfold X9_read_b28 zX9_read_b28
  repeat' with_reducible (first
    | exact zr_thr
    | refine zr_gI (fun _ => ?_)
    | refine zr_gR (fun _ => ?_)
    | refine zr_gN (fun _ => ?_)
    | refine zr_gAI (fun _ => ?_)
    | refine zr_gAL (fun _ => ?_)
    | refine zr_gAN (fun _ => ?_)
    | refine zr_kif ?_ ?_
    | refine zr_nul ?_ (fun _ => ?_)
    | refine zr_may (fun _ => ?_)
    | refine zr_pI (fun _ => ?_)
    | refine zr_pR (fun _ => ?_)
    | refine zr_pAI (fun _ => ?_)
    | refine zr_pAN (fun _ => ?_)
    | refine zr_nw (fun _ _ => ?_)
    | refine zr_callV zr_rf (fun _ _ => ?_)
    | refine zr_bind zr_rf (fun _ _ => ?_)
    | refine zr_binI zr_rf (fun _ _ => ?_)
    | exact zr_rf)
theorem zr_f_zX9_read  (p0 : Nat) (p1 : Int32) (p2 : Int32) (h : KH) : ZR (f_X9_read p0 p1 p2 h) (f_zX9_read p0 p1 p2 h) := by
  unfold f_X9_read f_zX9_read
  repeat' with_reducible (first
    | exact zr_thr
    | exact zr_f_zX9_requireGate _ _
    | exact zr_f_zX9_requireMinute _ _ _
    | exact zr_zX9_read_b28 _
    | refine zr_gI (fun _ => ?_)
    | refine zr_gR (fun _ => ?_)
    | refine zr_gN (fun _ => ?_)
    | refine zr_gAI (fun _ => ?_)
    | refine zr_gAL (fun _ => ?_)
    | refine zr_gAN (fun _ => ?_)
    | refine zr_kif ?_ ?_
    | refine zr_nul ?_ (fun _ => ?_)
    | refine zr_may (fun _ => ?_)
    | refine zr_pI (fun _ => ?_)
    | refine zr_pR (fun _ => ?_)
    | refine zr_pAI (fun _ => ?_)
    | refine zr_pAN (fun _ => ?_)
    | refine zr_nw (fun _ _ => ?_)
    | refine zr_callV (zr_f_zX9_requireGate _ _) (fun _ _ => ?_)
    | refine zr_bind (zr_f_zX9_requireGate _ _) (fun _ _ => ?_)
    | refine zr_binI (zr_f_zX9_requireGate _ _) (fun _ _ => ?_)
    | refine zr_callV (zr_f_zX9_requireMinute _ _ _) (fun _ _ => ?_)
    | refine zr_bind (zr_f_zX9_requireMinute _ _ _) (fun _ _ => ?_)
    | refine zr_binI (zr_f_zX9_requireMinute _ _ _) (fun _ _ => ?_)
    | refine zr_callV (zr_zX9_read_b28 _) (fun _ _ => ?_)
    | refine zr_bind (zr_zX9_read_b28 _) (fun _ _ => ?_)
    | refine zr_binI (zr_zX9_read_b28 _) (fun _ _ => ?_)
    | refine zr_callV zr_rf (fun _ _ => ?_)
    | refine zr_bind zr_rf (fun _ _ => ?_)
    | refine zr_binI zr_rf (fun _ _ => ?_)
    | exact zr_rf)
theorem zr_f_zX9_readingNumbered  (p0 : Nat) (p1 : Int32) (h : KH) : ZR (f_X9_readingNumbered p0 p1 h) (f_zX9_readingNumbered p0 p1 h) := by
  unfold f_X9_readingNumbered f_zX9_readingNumbered
  repeat' with_reducible (first
    | exact zr_thr
    | refine zr_gI (fun _ => ?_)
    | refine zr_gR (fun _ => ?_)
    | refine zr_gN (fun _ => ?_)
    | refine zr_gAI (fun _ => ?_)
    | refine zr_gAL (fun _ => ?_)
    | refine zr_gAN (fun _ => ?_)
    | refine zr_kif ?_ ?_
    | refine zr_nul ?_ (fun _ => ?_)
    | refine zr_may (fun _ => ?_)
    | refine zr_pI (fun _ => ?_)
    | refine zr_pR (fun _ => ?_)
    | refine zr_pAI (fun _ => ?_)
    | refine zr_pAN (fun _ => ?_)
    | refine zr_nw (fun _ _ => ?_)
    | refine zr_callV zr_rf (fun _ _ => ?_)
    | refine zr_bind zr_rf (fun _ _ => ?_)
    | refine zr_binI zr_rf (fun _ _ => ?_)
    | exact zr_rf)
theorem zr_zX9_correct_b20  (v0 : Nat) (v3 : Nat) (s0 : Option Nat) (h : KH) : ZR (X9_correct_b20 v0 v3 s0 h) (zX9_correct_b20 v0 v3 s0 h) := by
  unfold X9_correct_b20 zX9_correct_b20
  repeat' with_reducible (first
    | exact zr_thr
    | refine zr_gI (fun _ => ?_)
    | refine zr_gR (fun _ => ?_)
    | refine zr_gN (fun _ => ?_)
    | refine zr_gAI (fun _ => ?_)
    | refine zr_gAL (fun _ => ?_)
    | refine zr_gAN (fun _ => ?_)
    | refine zr_kif ?_ ?_
    | refine zr_nul ?_ (fun _ => ?_)
    | refine zr_may (fun _ => ?_)
    | refine zr_pI (fun _ => ?_)
    | refine zr_pR (fun _ => ?_)
    | refine zr_pAI (fun _ => ?_)
    | refine zr_pAN (fun _ => ?_)
    | refine zr_nw (fun _ _ => ?_)
    | refine zr_callV zr_rf (fun _ _ => ?_)
    | refine zr_bind zr_rf (fun _ _ => ?_)
    | refine zr_binI zr_rf (fun _ _ => ?_)
    | exact zr_rf)
theorem zr_f_zX9_correct  (p0 : Nat) (p1 : Int32) (p2 : Int32) (h : KH) : ZR (f_X9_correct p0 p1 p2 h) (f_zX9_correct p0 p1 p2 h) := by
  unfold f_X9_correct f_zX9_correct
  repeat' with_reducible (first
    | exact zr_thr
    | exact zr_f_zX9_readingNumbered _ _ _
    | exact zr_zX9_correct_b20 _ _ _ _
    | exact zr_f_zX9_plateNumbered _ _ _
    | refine zr_gI (fun _ => ?_)
    | refine zr_gR (fun _ => ?_)
    | refine zr_gN (fun _ => ?_)
    | refine zr_gAI (fun _ => ?_)
    | refine zr_gAL (fun _ => ?_)
    | refine zr_gAN (fun _ => ?_)
    | refine zr_kif ?_ ?_
    | refine zr_nul ?_ (fun _ => ?_)
    | refine zr_may (fun _ => ?_)
    | refine zr_pI (fun _ => ?_)
    | refine zr_pR (fun _ => ?_)
    | refine zr_pAI (fun _ => ?_)
    | refine zr_pAN (fun _ => ?_)
    | refine zr_nw (fun _ _ => ?_)
    | refine zr_callV (zr_f_zX9_readingNumbered _ _ _) (fun _ _ => ?_)
    | refine zr_bind (zr_f_zX9_readingNumbered _ _ _) (fun _ _ => ?_)
    | refine zr_binI (zr_f_zX9_readingNumbered _ _ _) (fun _ _ => ?_)
    | refine zr_callV (zr_zX9_correct_b20 _ _ _ _) (fun _ _ => ?_)
    | refine zr_bind (zr_zX9_correct_b20 _ _ _ _) (fun _ _ => ?_)
    | refine zr_binI (zr_zX9_correct_b20 _ _ _ _) (fun _ _ => ?_)
    | refine zr_callV (zr_f_zX9_plateNumbered _ _ _) (fun _ _ => ?_)
    | refine zr_bind (zr_f_zX9_plateNumbered _ _ _) (fun _ _ => ?_)
    | refine zr_binI (zr_f_zX9_plateNumbered _ _ _) (fun _ _ => ?_)
    | refine zr_callV zr_rf (fun _ _ => ?_)
    | refine zr_bind zr_rf (fun _ _ => ?_)
    | refine zr_binI zr_rf (fun _ _ => ?_)
    | exact zr_rf)
theorem zr_f_zX9_uncorrect  (p0 : Nat) (p1 : Int32) (h : KH) : ZR (f_X9_uncorrect p0 p1 h) (f_zX9_uncorrect p0 p1 h) := by
  unfold f_X9_uncorrect f_zX9_uncorrect
  repeat' with_reducible (first
    | exact zr_thr
    | exact zr_f_zX9_readingNumbered _ _ _
    | refine zr_gI (fun _ => ?_)
    | refine zr_gR (fun _ => ?_)
    | refine zr_gN (fun _ => ?_)
    | refine zr_gAI (fun _ => ?_)
    | refine zr_gAL (fun _ => ?_)
    | refine zr_gAN (fun _ => ?_)
    | refine zr_kif ?_ ?_
    | refine zr_nul ?_ (fun _ => ?_)
    | refine zr_may (fun _ => ?_)
    | refine zr_pI (fun _ => ?_)
    | refine zr_pR (fun _ => ?_)
    | refine zr_pAI (fun _ => ?_)
    | refine zr_pAN (fun _ => ?_)
    | refine zr_nw (fun _ _ => ?_)
    | refine zr_callV (zr_f_zX9_readingNumbered _ _ _) (fun _ _ => ?_)
    | refine zr_bind (zr_f_zX9_readingNumbered _ _ _) (fun _ _ => ?_)
    | refine zr_binI (zr_f_zX9_readingNumbered _ _ _) (fun _ _ => ?_)
    | refine zr_callV zr_rf (fun _ _ => ?_)
    | refine zr_bind zr_rf (fun _ _ => ?_)
    | refine zr_binI zr_rf (fun _ _ => ?_)
    | exact zr_rf)
theorem zr_f_zX9_plateOf  (p0 : Nat) (p1 : Int32) (h : KH) : ZR (f_X9_plateOf p0 p1 h) (f_zX9_plateOf p0 p1 h) := by
  unfold f_X9_plateOf f_zX9_plateOf
  repeat' with_reducible (first
    | exact zr_thr
    | exact zr_f_zX9_readingNumbered _ _ _
    | refine zr_gI (fun _ => ?_)
    | refine zr_gR (fun _ => ?_)
    | refine zr_gN (fun _ => ?_)
    | refine zr_gAI (fun _ => ?_)
    | refine zr_gAL (fun _ => ?_)
    | refine zr_gAN (fun _ => ?_)
    | refine zr_kif ?_ ?_
    | refine zr_nul ?_ (fun _ => ?_)
    | refine zr_may (fun _ => ?_)
    | refine zr_pI (fun _ => ?_)
    | refine zr_pR (fun _ => ?_)
    | refine zr_pAI (fun _ => ?_)
    | refine zr_pAN (fun _ => ?_)
    | refine zr_nw (fun _ _ => ?_)
    | refine zr_callV (zr_f_zX9_readingNumbered _ _ _) (fun _ _ => ?_)
    | refine zr_bind (zr_f_zX9_readingNumbered _ _ _) (fun _ _ => ?_)
    | refine zr_binI (zr_f_zX9_readingNumbered _ _ _) (fun _ _ => ?_)
    | refine zr_callV zr_rf (fun _ _ => ?_)
    | refine zr_bind zr_rf (fun _ _ => ?_)
    | refine zr_binI zr_rf (fun _ _ => ?_)
    | exact zr_rf)
theorem zr_f_zX9_cost  (p0 : Nat) (p1 : Int32) (p2 : Int32) (h : KH) : ZR (f_X9_cost p0 p1 p2 h) (f_zX9_cost p0 p1 p2 h) := by
  unfold f_X9_cost f_zX9_cost
  repeat' with_reducible (first
    | exact zr_thr
    | exact zr_f_zX9_readingNumbered _ _ _
    | exact zr_f_zX9_plateNumbered _ _ _
    | refine zr_gI (fun _ => ?_)
    | refine zr_gR (fun _ => ?_)
    | refine zr_gN (fun _ => ?_)
    | refine zr_gAI (fun _ => ?_)
    | refine zr_gAL (fun _ => ?_)
    | refine zr_gAN (fun _ => ?_)
    | refine zr_kif ?_ ?_
    | refine zr_nul ?_ (fun _ => ?_)
    | refine zr_may (fun _ => ?_)
    | refine zr_pI (fun _ => ?_)
    | refine zr_pR (fun _ => ?_)
    | refine zr_pAI (fun _ => ?_)
    | refine zr_pAN (fun _ => ?_)
    | refine zr_nw (fun _ _ => ?_)
    | refine zr_callV (zr_f_zX9_readingNumbered _ _ _) (fun _ _ => ?_)
    | refine zr_bind (zr_f_zX9_readingNumbered _ _ _) (fun _ _ => ?_)
    | refine zr_binI (zr_f_zX9_readingNumbered _ _ _) (fun _ _ => ?_)
    | refine zr_callV (zr_f_zX9_plateNumbered _ _ _) (fun _ _ => ?_)
    | refine zr_bind (zr_f_zX9_plateNumbered _ _ _) (fun _ _ => ?_)
    | refine zr_binI (zr_f_zX9_plateNumbered _ _ _) (fun _ _ => ?_)
    | refine zr_callV zr_rf (fun _ _ => ?_)
    | refine zr_bind zr_rf (fun _ _ => ?_)
    | refine zr_binI zr_rf (fun _ _ => ?_)
    | exact zr_rf)
theorem zr_f_zX9_trips  (p0 : Nat) (p1 : Int32) (h : KH) : ZR (f_X9_trips p0 p1 h) (f_zX9_trips p0 p1 h) := by
  unfold f_X9_trips f_zX9_trips
  repeat' with_reducible (first
    | exact zr_thr
    | exact zr_f_zX9_plateNumbered _ _ _
    | refine zr_gI (fun _ => ?_)
    | refine zr_gR (fun _ => ?_)
    | refine zr_gN (fun _ => ?_)
    | refine zr_gAI (fun _ => ?_)
    | refine zr_gAL (fun _ => ?_)
    | refine zr_gAN (fun _ => ?_)
    | refine zr_kif ?_ ?_
    | refine zr_nul ?_ (fun _ => ?_)
    | refine zr_may (fun _ => ?_)
    | refine zr_pI (fun _ => ?_)
    | refine zr_pR (fun _ => ?_)
    | refine zr_pAI (fun _ => ?_)
    | refine zr_pAN (fun _ => ?_)
    | refine zr_nw (fun _ _ => ?_)
    | refine zr_callV (zr_f_zX9_plateNumbered _ _ _) (fun _ _ => ?_)
    | refine zr_bind (zr_f_zX9_plateNumbered _ _ _) (fun _ _ => ?_)
    | refine zr_binI (zr_f_zX9_plateNumbered _ _ _) (fun _ _ => ?_)
    | refine zr_callV zr_rf (fun _ _ => ?_)
    | refine zr_bind zr_rf (fun _ _ => ?_)
    | refine zr_binI zr_rf (fun _ _ => ?_)
    | exact zr_rf)
theorem zr_f_zX9_tripsAnew  (p0 : Nat) (p1 : Int32) (h : KH) : ZR (f_X9_tripsAnew p0 p1 h) (f_zX9_tripsAnew p0 p1 h) := by
  unfold f_X9_tripsAnew f_zX9_tripsAnew
  repeat' with_reducible (first
    | exact zr_thr
    | exact zr_f_zX9_plateNumbered _ _ _
    | refine zr_gI (fun _ => ?_)
    | refine zr_gR (fun _ => ?_)
    | refine zr_gN (fun _ => ?_)
    | refine zr_gAI (fun _ => ?_)
    | refine zr_gAL (fun _ => ?_)
    | refine zr_gAN (fun _ => ?_)
    | refine zr_kif ?_ ?_
    | refine zr_nul ?_ (fun _ => ?_)
    | refine zr_may (fun _ => ?_)
    | refine zr_pI (fun _ => ?_)
    | refine zr_pR (fun _ => ?_)
    | refine zr_pAI (fun _ => ?_)
    | refine zr_pAN (fun _ => ?_)
    | refine zr_nw (fun _ _ => ?_)
    | refine zr_callV (zr_f_zX9_plateNumbered _ _ _) (fun _ _ => ?_)
    | refine zr_bind (zr_f_zX9_plateNumbered _ _ _) (fun _ _ => ?_)
    | refine zr_binI (zr_f_zX9_plateNumbered _ _ _) (fun _ _ => ?_)
    | refine zr_callV zr_rf (fun _ _ => ?_)
    | refine zr_bind zr_rf (fun _ _ => ?_)
    | refine zr_binI zr_rf (fun _ _ => ?_)
    | exact zr_rf)
theorem zr_zX9_tripOf_b28  (s0 : Int32) (h : KH) : ZR (X9_tripOf_b28 s0 h) (zX9_tripOf_b28 s0 h) := by
  unfold X9_tripOf_b28 zX9_tripOf_b28
  repeat' with_reducible (first
    | exact zr_thr
    | refine zr_gI (fun _ => ?_)
    | refine zr_gR (fun _ => ?_)
    | refine zr_gN (fun _ => ?_)
    | refine zr_gAI (fun _ => ?_)
    | refine zr_gAL (fun _ => ?_)
    | refine zr_gAN (fun _ => ?_)
    | refine zr_kif ?_ ?_
    | refine zr_nul ?_ (fun _ => ?_)
    | refine zr_may (fun _ => ?_)
    | refine zr_pI (fun _ => ?_)
    | refine zr_pR (fun _ => ?_)
    | refine zr_pAI (fun _ => ?_)
    | refine zr_pAN (fun _ => ?_)
    | refine zr_nw (fun _ _ => ?_)
    | refine zr_callV zr_rf (fun _ _ => ?_)
    | refine zr_bind zr_rf (fun _ _ => ?_)
    | refine zr_binI zr_rf (fun _ _ => ?_)
    | exact zr_rf)
theorem zr_f_zX9_tripOf  (p0 : Nat) (p1 : Int32) (h : KH) : ZR (f_X9_tripOf p0 p1 h) (f_zX9_tripOf p0 p1 h) := by
  unfold f_X9_tripOf f_zX9_tripOf
  repeat' with_reducible (first
    | exact zr_thr
    | exact zr_f_zX9_readingNumbered _ _ _
    | exact zr_zX9_tripOf_b28 _ _
    | refine zr_gI (fun _ => ?_)
    | refine zr_gR (fun _ => ?_)
    | refine zr_gN (fun _ => ?_)
    | refine zr_gAI (fun _ => ?_)
    | refine zr_gAL (fun _ => ?_)
    | refine zr_gAN (fun _ => ?_)
    | refine zr_kif ?_ ?_
    | refine zr_nul ?_ (fun _ => ?_)
    | refine zr_may (fun _ => ?_)
    | refine zr_pI (fun _ => ?_)
    | refine zr_pR (fun _ => ?_)
    | refine zr_pAI (fun _ => ?_)
    | refine zr_pAN (fun _ => ?_)
    | refine zr_nw (fun _ _ => ?_)
    | refine zr_callV (zr_f_zX9_readingNumbered _ _ _) (fun _ _ => ?_)
    | refine zr_bind (zr_f_zX9_readingNumbered _ _ _) (fun _ _ => ?_)
    | refine zr_binI (zr_f_zX9_readingNumbered _ _ _) (fun _ _ => ?_)
    | refine zr_callV (zr_zX9_tripOf_b28 _ _) (fun _ _ => ?_)
    | refine zr_bind (zr_zX9_tripOf_b28 _ _) (fun _ _ => ?_)
    | refine zr_binI (zr_zX9_tripOf_b28 _ _) (fun _ _ => ?_)
    | refine zr_callV zr_rf (fun _ _ => ?_)
    | refine zr_bind zr_rf (fun _ _ => ?_)
    | refine zr_binI zr_rf (fun _ _ => ?_)
    | exact zr_rf)
theorem zr_f_zX9_requiredBeginning  (p0 : Nat) (p1 : Int32) (h : KH) : ZR (f_X9_requiredBeginning p0 p1 h) (f_zX9_requiredBeginning p0 p1 h) := by
  unfold f_X9_requiredBeginning f_zX9_requiredBeginning
  repeat' with_reducible (first
    | exact zr_thr
    | refine zr_gI (fun _ => ?_)
    | refine zr_gR (fun _ => ?_)
    | refine zr_gN (fun _ => ?_)
    | refine zr_gAI (fun _ => ?_)
    | refine zr_gAL (fun _ => ?_)
    | refine zr_gAN (fun _ => ?_)
    | refine zr_kif ?_ ?_
    | refine zr_nul ?_ (fun _ => ?_)
    | refine zr_may (fun _ => ?_)
    | refine zr_pI (fun _ => ?_)
    | refine zr_pR (fun _ => ?_)
    | refine zr_pAI (fun _ => ?_)
    | refine zr_pAN (fun _ => ?_)
    | refine zr_nw (fun _ _ => ?_)
    | refine zr_callV zr_rf (fun _ _ => ?_)
    | refine zr_bind zr_rf (fun _ _ => ?_)
    | refine zr_binI zr_rf (fun _ _ => ?_)
    | exact zr_rf)
theorem zr_f_zX9_toll  (p0 : Nat) (p1 : Int32) (p2 : Int32) (h : KH) : ZR (f_X9_toll p0 p1 p2 h) (f_zX9_toll p0 p1 p2 h) := by
  unfold f_X9_toll f_zX9_toll
  repeat' with_reducible (first
    | exact zr_thr
    | exact zr_f_zX9_plateNumbered _ _ _
    | exact zr_f_zX9_requiredBeginning _ _ _
    | refine zr_gI (fun _ => ?_)
    | refine zr_gR (fun _ => ?_)
    | refine zr_gN (fun _ => ?_)
    | refine zr_gAI (fun _ => ?_)
    | refine zr_gAL (fun _ => ?_)
    | refine zr_gAN (fun _ => ?_)
    | refine zr_kif ?_ ?_
    | refine zr_nul ?_ (fun _ => ?_)
    | refine zr_may (fun _ => ?_)
    | refine zr_pI (fun _ => ?_)
    | refine zr_pR (fun _ => ?_)
    | refine zr_pAI (fun _ => ?_)
    | refine zr_pAN (fun _ => ?_)
    | refine zr_nw (fun _ _ => ?_)
    | refine zr_callV (zr_f_zX9_plateNumbered _ _ _) (fun _ _ => ?_)
    | refine zr_bind (zr_f_zX9_plateNumbered _ _ _) (fun _ _ => ?_)
    | refine zr_binI (zr_f_zX9_plateNumbered _ _ _) (fun _ _ => ?_)
    | refine zr_callV (zr_f_zX9_requiredBeginning _ _ _) (fun _ _ => ?_)
    | refine zr_bind (zr_f_zX9_requiredBeginning _ _ _) (fun _ _ => ?_)
    | refine zr_binI (zr_f_zX9_requiredBeginning _ _ _) (fun _ _ => ?_)
    | refine zr_callV zr_rf (fun _ _ => ?_)
    | refine zr_bind zr_rf (fun _ _ => ?_)
    | refine zr_binI zr_rf (fun _ _ => ?_)
    | exact zr_rf)
theorem zr_f_zX9_driverOf  (p0 : Nat) (p1 : Int32) (p2 : Int32) (h : KH) : ZR (f_X9_driverOf p0 p1 p2 h) (f_zX9_driverOf p0 p1 p2 h) := by
  unfold f_X9_driverOf f_zX9_driverOf
  repeat' with_reducible (first
    | exact zr_thr
    | exact zr_f_zX9_plateNumbered _ _ _
    | exact zr_f_zX9_requiredBeginning _ _ _
    | refine zr_gI (fun _ => ?_)
    | refine zr_gR (fun _ => ?_)
    | refine zr_gN (fun _ => ?_)
    | refine zr_gAI (fun _ => ?_)
    | refine zr_gAL (fun _ => ?_)
    | refine zr_gAN (fun _ => ?_)
    | refine zr_kif ?_ ?_
    | refine zr_nul ?_ (fun _ => ?_)
    | refine zr_may (fun _ => ?_)
    | refine zr_pI (fun _ => ?_)
    | refine zr_pR (fun _ => ?_)
    | refine zr_pAI (fun _ => ?_)
    | refine zr_pAN (fun _ => ?_)
    | refine zr_nw (fun _ _ => ?_)
    | refine zr_callV (zr_f_zX9_plateNumbered _ _ _) (fun _ _ => ?_)
    | refine zr_bind (zr_f_zX9_plateNumbered _ _ _) (fun _ _ => ?_)
    | refine zr_binI (zr_f_zX9_plateNumbered _ _ _) (fun _ _ => ?_)
    | refine zr_callV (zr_f_zX9_requiredBeginning _ _ _) (fun _ _ => ?_)
    | refine zr_bind (zr_f_zX9_requiredBeginning _ _ _) (fun _ _ => ?_)
    | refine zr_binI (zr_f_zX9_requiredBeginning _ _ _) (fun _ _ => ?_)
    | refine zr_callV zr_rf (fun _ _ => ?_)
    | refine zr_bind zr_rf (fun _ _ => ?_)
    | refine zr_binI zr_rf (fun _ _ => ?_)
    | exact zr_rf)
theorem zr_f_zX9_due  (p0 : Nat) (p1 : Int32) (h : KH) : ZR (f_X9_due p0 p1 h) (f_zX9_due p0 p1 h) := by
  unfold f_X9_due f_zX9_due
  repeat' with_reducible (first
    | exact zr_thr
    | exact zr_f_zX9_requireDriver _ _
    | refine zr_gI (fun _ => ?_)
    | refine zr_gR (fun _ => ?_)
    | refine zr_gN (fun _ => ?_)
    | refine zr_gAI (fun _ => ?_)
    | refine zr_gAL (fun _ => ?_)
    | refine zr_gAN (fun _ => ?_)
    | refine zr_kif ?_ ?_
    | refine zr_nul ?_ (fun _ => ?_)
    | refine zr_may (fun _ => ?_)
    | refine zr_pI (fun _ => ?_)
    | refine zr_pR (fun _ => ?_)
    | refine zr_pAI (fun _ => ?_)
    | refine zr_pAN (fun _ => ?_)
    | refine zr_nw (fun _ _ => ?_)
    | refine zr_callV (zr_f_zX9_requireDriver _ _) (fun _ _ => ?_)
    | refine zr_bind (zr_f_zX9_requireDriver _ _) (fun _ _ => ?_)
    | refine zr_binI (zr_f_zX9_requireDriver _ _) (fun _ _ => ?_)
    | refine zr_callV zr_rf (fun _ _ => ?_)
    | refine zr_bind zr_rf (fun _ _ => ?_)
    | refine zr_binI zr_rf (fun _ _ => ?_)
    | exact zr_rf)
theorem zr_zX9_dueAnew_b8  (rc8 : Nat → Int32 → Int32 → Int32 → KH → KO Int32) (rc8' : Nat → Int32 → Int32 → Int32 → KH → KO Int32) (hr8 : ∀ (u0 : Nat) (u1 : Int32) (u2 : Int32) (u3 : Int32) (u4 : KH), ZR (rc8 u0 u1 u2 u3 u4) (rc8' u0 u1 u2 u3 u4)) (v0 : Nat) (v1 : Int32) (v2 : Int32) (v3 : Int32) (h : KH) : ZR (X9_dueAnew_b8 rc8 v0 v1 v2 v3 h) (zX9_dueAnew_b8 rc8' v0 v1 v2 v3 h) := by
  unfold X9_dueAnew_b8 zX9_dueAnew_b8
  repeat' with_reducible (first
    | exact zr_thr
    | exact hr8 _ _ _ _ _
    | refine zr_gI (fun _ => ?_)
    | refine zr_gR (fun _ => ?_)
    | refine zr_gN (fun _ => ?_)
    | refine zr_gAI (fun _ => ?_)
    | refine zr_gAL (fun _ => ?_)
    | refine zr_gAN (fun _ => ?_)
    | refine zr_kif ?_ ?_
    | refine zr_nul ?_ (fun _ => ?_)
    | refine zr_may (fun _ => ?_)
    | refine zr_pI (fun _ => ?_)
    | refine zr_pR (fun _ => ?_)
    | refine zr_pAI (fun _ => ?_)
    | refine zr_pAN (fun _ => ?_)
    | refine zr_nw (fun _ _ => ?_)
    | refine zr_callV (hr8 _ _ _ _ _) (fun _ _ => ?_)
    | refine zr_bind (hr8 _ _ _ _ _) (fun _ _ => ?_)
    | refine zr_binI (hr8 _ _ _ _ _) (fun _ _ => ?_)
    | refine zr_callV zr_rf (fun _ _ => ?_)
    | refine zr_bind zr_rf (fun _ _ => ?_)
    | refine zr_binI zr_rf (fun _ _ => ?_)
    | exact zr_rf)
theorem zr_zX9_dueAnew_L8 : ∀ (m : Nat) (u0 : Nat) (u1 : Int32) (u2 : Int32) (u3 : Int32) (u4 : KH), ZR (X9_dueAnew_L8 m u0 u1 u2 u3 u4) (zX9_dueAnew_L8 m u0 u1 u2 u3 u4) := by
  intro m
  induction m with
  | zero => intro u0 u1 u2 u3 u4; exact zr_rf
  | succ m ih => intro u0 u1 u2 u3 u4; exact zr_zX9_dueAnew_b8 (X9_dueAnew_L8 m) (zX9_dueAnew_L8 m) ih u0 u1 u2 u3 u4
theorem zr_f_zX9_dueAnew  (p0 : Nat) (p1 : Int32) (h : KH) : ZR (f_X9_dueAnew p0 p1 h) (f_zX9_dueAnew p0 p1 h) := by
  unfold f_X9_dueAnew f_zX9_dueAnew
  repeat' with_reducible (first
    | exact zr_thr
    | exact zr_f_zX9_requireDriver _ _
    | exact zr_zX9_dueAnew_L8 _ _ _ _ _ _
    | refine zr_gI (fun _ => ?_)
    | refine zr_gR (fun _ => ?_)
    | refine zr_gN (fun _ => ?_)
    | refine zr_gAI (fun _ => ?_)
    | refine zr_gAL (fun _ => ?_)
    | refine zr_gAN (fun _ => ?_)
    | refine zr_kif ?_ ?_
    | refine zr_nul ?_ (fun _ => ?_)
    | refine zr_may (fun _ => ?_)
    | refine zr_pI (fun _ => ?_)
    | refine zr_pR (fun _ => ?_)
    | refine zr_pAI (fun _ => ?_)
    | refine zr_pAN (fun _ => ?_)
    | refine zr_nw (fun _ _ => ?_)
    | refine zr_callV (zr_f_zX9_requireDriver _ _) (fun _ _ => ?_)
    | refine zr_bind (zr_f_zX9_requireDriver _ _) (fun _ _ => ?_)
    | refine zr_binI (zr_f_zX9_requireDriver _ _) (fun _ _ => ?_)
    | refine zr_callV (zr_zX9_dueAnew_L8 _ _ _ _ _ _) (fun _ _ => ?_)
    | refine zr_bind (zr_zX9_dueAnew_L8 _ _ _ _ _ _) (fun _ _ => ?_)
    | refine zr_binI (zr_zX9_dueAnew_L8 _ _ _ _ _ _) (fun _ _ => ?_)
    | refine zr_callV zr_rf (fun _ _ => ?_)
    | refine zr_bind zr_rf (fun _ _ => ?_)
    | refine zr_binI zr_rf (fun _ _ => ?_)
    | exact zr_rf)
theorem zr_f_zX9_billed  (p0 : Nat) (p1 : Int32) (h : KH) : ZR (f_X9_billed p0 p1 h) (f_zX9_billed p0 p1 h) := by
  unfold f_X9_billed f_zX9_billed
  repeat' with_reducible (first
    | exact zr_thr
    | exact zr_f_zX9_requireDriver _ _
    | refine zr_gI (fun _ => ?_)
    | refine zr_gR (fun _ => ?_)
    | refine zr_gN (fun _ => ?_)
    | refine zr_gAI (fun _ => ?_)
    | refine zr_gAL (fun _ => ?_)
    | refine zr_gAN (fun _ => ?_)
    | refine zr_kif ?_ ?_
    | refine zr_nul ?_ (fun _ => ?_)
    | refine zr_may (fun _ => ?_)
    | refine zr_pI (fun _ => ?_)
    | refine zr_pR (fun _ => ?_)
    | refine zr_pAI (fun _ => ?_)
    | refine zr_pAN (fun _ => ?_)
    | refine zr_nw (fun _ _ => ?_)
    | refine zr_callV (zr_f_zX9_requireDriver _ _) (fun _ _ => ?_)
    | refine zr_bind (zr_f_zX9_requireDriver _ _) (fun _ _ => ?_)
    | refine zr_binI (zr_f_zX9_requireDriver _ _) (fun _ _ => ?_)
    | refine zr_callV zr_rf (fun _ _ => ?_)
    | refine zr_bind zr_rf (fun _ _ => ?_)
    | refine zr_binI zr_rf (fun _ _ => ?_)
    | exact zr_rf)
theorem zr_f_zX9_paidBack  (p0 : Nat) (p1 : Int32) (h : KH) : ZR (f_X9_paidBack p0 p1 h) (f_zX9_paidBack p0 p1 h) := by
  unfold f_X9_paidBack f_zX9_paidBack
  repeat' with_reducible (first
    | exact zr_thr
    | exact zr_f_zX9_requireDriver _ _
    | refine zr_gI (fun _ => ?_)
    | refine zr_gR (fun _ => ?_)
    | refine zr_gN (fun _ => ?_)
    | refine zr_gAI (fun _ => ?_)
    | refine zr_gAL (fun _ => ?_)
    | refine zr_gAN (fun _ => ?_)
    | refine zr_kif ?_ ?_
    | refine zr_nul ?_ (fun _ => ?_)
    | refine zr_may (fun _ => ?_)
    | refine zr_pI (fun _ => ?_)
    | refine zr_pR (fun _ => ?_)
    | refine zr_pAI (fun _ => ?_)
    | refine zr_pAN (fun _ => ?_)
    | refine zr_nw (fun _ _ => ?_)
    | refine zr_callV (zr_f_zX9_requireDriver _ _) (fun _ _ => ?_)
    | refine zr_bind (zr_f_zX9_requireDriver _ _) (fun _ _ => ?_)
    | refine zr_binI (zr_f_zX9_requireDriver _ _) (fun _ _ => ?_)
    | refine zr_callV zr_rf (fun _ _ => ?_)
    | refine zr_bind zr_rf (fun _ _ => ?_)
    | refine zr_binI zr_rf (fun _ _ => ?_)
    | exact zr_rf)
