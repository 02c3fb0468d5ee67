/-! what is made lies between the next address before and the next address behind -/
def FK (h h1 : KH) : Prop := kx h ≤ kx h1 ∧ (∀ a, kd h a ≠ 0 → kd h1 a ≠ 0) ∧ (∀ a, kx h ≤ a → a < kx h1 → kd h1 a ≠ 0) ∧ ∀ a, kd h a = 0 → kd h1 a ≠ 0 → kx h ≤ a ∧ a < kx h1
def FW {α : Type} (h : KH) (w : KO α) : Prop := ∀ r h1, w = some (r, h1) → FK h h1
theorem FK.rf (h : KH) : FK h h := ⟨Nat.le_refl _, fun _ q => q, fun a q1 q2 => by omega, fun a q1 q2 => absurd q1 q2⟩
theorem FK.trans {h h1 h2 : KH} (a : FK h h1) (b : FK h1 h2) : FK h h2 := by
  obtain ⟨a1, a2, a3, a4⟩ := a
  obtain ⟨b1, b2, b3, b4⟩ := b
  refine ⟨by omega, fun i q => b2 i (a2 i q), fun i q1 q2 => ?_, fun i q1 q2 => ?_⟩
  · by_cases c : i < kx h1
    · exact b2 i (a3 i q1 c)
    · exact b3 i (by omega) q2
  · by_cases c : kd h1 i = 0
    · have := b4 i c q2
      omega
    · have := a4 i q1 c
      omega
theorem FK.same {h h1 : KH} (e1 : kd h1 = kd h) (e2 : kx h1 = kx h) : FK h h1 := by
  refine ⟨by omega, fun a q => by rw [e1]; exact q, fun a q1 q2 => by omega, fun a q1 q2 => ?_⟩
  rw [e1] at q2
  exact absurd q1 q2
theorem FK.mk1 {h : KH} {c n : Nat} (hc : c ≠ 0) : FK h (al h c n) := by
  have e1 : kx (al h c n) = kx h + 1 := rfl
  refine ⟨by omega, fun a q => ?_, fun a q1 q2 => ?_, fun a q1 q2 => ?_⟩
  · rw [kd_al]
    split
    · exact hc
    · exact q
  · rw [kd_al, if_pos (by omega)]
    exact hc
  · rw [kd_al] at q2
    split at q2
    · omega
    · exact absurd q1 q2
theorem FK.M {h : KH} {n k : Nat} : FK h (alM h n k) := by
  have e1 : kx (alM h n k) = kx h + 1 + n := rfl
  have e2 : ∀ a, kd (alM h n k) a = if a = kx h then 24 else if kx h < a ∧ a ≤ kx h + n then 21 else kd h a := fun _ => rfl
  refine ⟨by omega, fun a q => ?_, fun a q1 q2 => ?_, fun a q1 q2 => ?_⟩
  · rw [e2]
    split
    · decide
    · split
      · decide
      · exact q
  · rw [e2]
    split
    · decide
    · rw [if_pos (by omega)]
      decide
  · rw [e2] at q2
    split at q2
    · omega
    · split at q2
      · omega
      · exact absurd q1 q2
section FKR
variable {α β : Type} {h0 h : KH} {a c k : Nat}
theorem fk_none : FW h0 (none : KO α) := fun r h1 q => by cases q
theorem fk_ret {v : α} (q : FK h0 h) : FW h0 (kret v h) := fun r h1 e => by cases e; exact q
theorem fk_thr {e : Nat} (q : FK h0 h) : FW h0 (kthrow e h : KO α) := fun r h1 e => by cases e; exact q
theorem fk_retZ {v : Int32} (q : FK h0 h) : FW h0 (kretZ v h) := fun r h1 e => by
  unfold kretZ at e
  split at e
  · cases e; exact q
  · cases e
theorem fk_retC {v : Int32} (q : FK h0 h) : FW h0 (kretC v h) := fun r h1 e => by
  unfold kretC at e
  split at e
  · cases e; exact q
  · cases e
theorem fk_if {p : Prop} [Decidable p] {x y : KO α} (hx : FW h0 x) (hy : FW h0 y) : FW h0 (if p then x else y) := by split <;> assumption
theorem fk_kif {p : Prop} [Decidable p] {x y : KO α} (hx : FW h0 x) (hy : FW h0 y) : FW h0 (kif p x y) := fk_if hx hy
theorem fk_kdv {y : Int32} {x : KO α} (hx : FW h0 x) : FW h0 (kdv y x) := fk_if fk_none hx
theorem fk_may {o : Option β} {f : β → KO α} (hf : ∀ x, FW h0 (f x)) : FW h0 (kmay o f) := by
  cases o
  · exact fk_none
  · exact hf _
theorem fk_nul {o : Option β} {x : KO α} {f : β → KO α} (hx : FW h0 x) (hf : ∀ x, FW h0 (f x)) : FW h0 (knul o x f) := by
  cases o
  · exact hx
  · exact hf _
theorem fk_gI {f : Int32 → KO α} (hf : ∀ x, FW h0 (f x)) : FW h0 (gI h a c k f) := fk_if (hf _) fk_none
theorem fk_gR {f : Option Nat → KO α} (hf : ∀ x, FW h0 (f x)) : FW h0 (gR h a c k f) := fk_if (hf _) fk_none
theorem fk_gN {f : Nat → KO α} (hf : ∀ x, FW h0 (f x)) : FW h0 (gN h a c k f) := fk_if (fk_may hf) fk_none
theorem fk_gAI {i : Int32} {f : Int32 → KO α} (hf : ∀ x, FW h0 (f x)) : FW h0 (gAI h a c i f) := fk_if (hf _) fk_none
theorem fk_gAL {i : Int32} {f : Int64 → KO α} (hf : ∀ x, FW h0 (f x)) : FW h0 (gAL h a c i f) := fk_if (hf _) fk_none
theorem fk_gAN {i : Int32} {f : Nat → KO α} (hf : ∀ x, FW h0 (f x)) : FW h0 (gAN h a c i f) := fk_if (fk_may hf) fk_none
theorem fk_dite {p : Prop} [Decidable p] {x : KO α} (hx : p → FW h0 x) : FW h0 (if p then x else none) := by
  split
  · exact hx ‹_›
  · exact fk_none
theorem fk_pI {v : Int32} {f : KH → KO α} (q : FK h0 h) (hc : c ≠ 31 ∧ c ≠ 32) (hf : ∀ h1, FK h0 h1 → FW h0 (f h1)) : FW h0 (pI h a c k v f) := fk_dite (fun e => hf _ (q.trans (FK.same rfl rfl)))
theorem fk_pR {v : Option Nat} {f : KH → KO α} (q : FK h0 h) (hf : ∀ h1, FK h0 h1 → FW h0 (f h1)) : FW h0 (pR h a c k v f) := fk_dite (fun e => hf _ (q.trans (FK.same rfl rfl)))
theorem fk_pAI {i v : Int32} {f : KH → KO α} (q : FK h0 h) (hc : c ≠ 31 ∧ c ≠ 32) (hf : ∀ h1, FK h0 h1 → FW h0 (f h1)) : FW h0 (pAI h a c i v f) := fk_dite (fun e => hf _ (q.trans (FK.same rfl rfl)))
theorem fk_pAZ {i v : Int32} {f : KH → KO α} (q : FK h0 h) (hc : c ≠ 31 ∧ c ≠ 32) (hf : ∀ h1, FK h0 h1 → FW h0 (f h1)) : FW h0 (pAZ h a c i v f) := fk_dite (fun e => hf _ (q.trans (FK.same rfl rfl)))
theorem fk_pAL {i : Int32} {v : Int64} {f : KH → KO α} (q : FK h0 h) (hf : ∀ h1, FK h0 h1 → FW h0 (f h1)) : FW h0 (pAL h a c i v f) := fk_dite (fun e => hf _ (q.trans (FK.same rfl rfl)))
theorem fk_pAN {i : Int32} {v cv : Nat} {f : KH → KO α} (q : FK h0 h) (hf : ∀ h1, FK h0 h1 → FW h0 (f h1)) : FW h0 (pAN h a c cv i v f) := fk_dite (fun e => hf _ (q.trans (FK.same rfl rfl)))
theorem fk_nw {n : Nat} {f : Nat → KH → KO α} (q : FK h0 h) (hc : c ≠ 0) (hf : ∀ x h1, FK h0 h1 → FW h0 (f x h1)) : FW h0 (nw h c n f) := fk_dite (fun e => hf _ _ (q.trans (FK.mk1 hc)))
theorem fk_nwM {n m : Nat} {f : Nat → KH → KO α} (q : FK h0 h) (hf : ∀ x h1, FK h0 h1 → FW h0 (f x h1)) : FW h0 (nwM h n m f) := fk_dite (fun e => hf _ _ (q.trans FK.M))
theorem fk_bind {x : KO β} {f : β → KH → KO α} (hx : FW h x) (q : FK h0 h) (hf : ∀ v h1, FK h0 h1 → FW h0 (f v h1)) : FW h0 (kbind x f) := by
  rcases x with _ | ⟨e | v, h1⟩
  · exact fk_none
  · exact fun r h2 w => by cases w; exact q.trans (hx _ _ rfl)
  · exact hf v h1 (q.trans (hx _ _ rfl))
theorem fk_binI {x : KO β} {f : β → KH → KO α} (hx : FW h x) (q : FK h0 h) (hf : ∀ v h1, FK h0 h1 → FW h0 (f v h1)) : FW h0 (kbinI x f) := by
  rcases x with _ | ⟨e | v, h1⟩
  · exact fk_none
  · exact fk_none
  · exact hf v h1 (q.trans (hx _ _ rfl))
theorem fk_callV {b : Nat} {x : KO β} {f : β → KH → KO α} (hx : FW h x) (q : FK h0 h) (hf : ∀ v h1, FK h0 h1 → FW h0 (f v h1)) : FW h0 (kcallV c b h x f) := fk_if (fk_bind hx q hf) fk_none
theorem fk_go {x : KO α} (hx : FW h x) (q : FK h0 h) : FW h0 x := fun r h1 e => q.trans (hx r h1 e)
end FKR
theorem fk_X6_nearestOpen_b42 (rc4 : Nat → Nat → Int32 → Int32 → KH → KO Int32) (hr4 : ∀ (u0 : Nat) (u1 : Nat) (u2 : Int32) (u3 : Int32) (u4 : KH), FW u4 (rc4 u0 u1 u2 u3 u4)) (v0 : Nat) (v1 : Nat) (v2 : Int32) (v3 : Int32) (h : KH) : FW h (X6_nearestOpen_b42 rc4 v0 v1 v2 v3 h) := by
  unfold X6_nearestOpen_b42
  have q0 : FK h h := FK.rf h
  repeat' with_reducible (first
    | exact fk_ret (by assumption)
    | exact fk_retZ (by assumption)
    | exact fk_retC (by assumption)
    | exact fk_thr (by assumption)
    | exact fk_none
    | exact fk_go (hr4 _ _ _ _ _) (by assumption)
    | refine fk_gI (fun _ => ?_)
    | refine fk_gR (fun _ => ?_)
    | refine fk_gN (fun _ => ?_)
    | refine fk_gAI (fun _ => ?_)
    | refine fk_gAL (fun _ => ?_)
    | refine fk_gAN (fun _ => ?_)
    | refine fk_kif ?_ ?_
    | refine fk_nul ?_ (fun _ => ?_)
    | refine fk_may (fun _ => ?_)
    | refine fk_kdv ?_
    | refine fk_pI (by assumption) (by decide) (fun _ _ => ?_)
    | refine fk_pR (by assumption) (fun _ _ => ?_)
    | refine fk_pAI (by assumption) (by decide) (fun _ _ => ?_)
    | refine fk_pAZ (by assumption) (by decide) (fun _ _ => ?_)
    | refine fk_pAL (by assumption) (fun _ _ => ?_)
    | refine fk_pAN (by assumption) (fun _ _ => ?_)
    | refine fk_nw (by assumption) (by decide) (fun _ _ _ => ?_)
    | refine fk_nwM (by assumption) (fun _ _ _ => ?_)
    | refine fk_callV (hr4 _ _ _ _ _) (by assumption) (fun _ _ _ => ?_)
    | refine fk_bind (hr4 _ _ _ _ _) (by assumption) (fun _ _ _ => ?_)
    | refine fk_binI (hr4 _ _ _ _ _) (by assumption) (fun _ _ _ => ?_))
theorem fk_X6_nearestOpen_b40 (rc4 : Nat → Nat → Int32 → Int32 → KH → KO Int32) (hr4 : ∀ (u0 : Nat) (u1 : Nat) (u2 : Int32) (u3 : Int32) (u4 : KH), FW u4 (rc4 u0 u1 u2 u3 u4)) (v0 : Nat) (v1 : Nat) (v3 : Int32) (h : KH) : FW h (X6_nearestOpen_b40 rc4 v0 v1 v3 h) := by
  unfold X6_nearestOpen_b40
  have q0 : FK h h := FK.rf h
  repeat' with_reducible (first
    | exact fk_ret (by assumption)
    | exact fk_retZ (by assumption)
    | exact fk_retC (by assumption)
    | exact fk_thr (by assumption)
    | exact fk_none
    | exact fk_go (hr4 _ _ _ _ _) (by assumption)
    | exact fk_go (fk_X6_nearestOpen_b42 _ (by assumption) _ _ _ _ _) (by assumption)
    | refine fk_gI (fun _ => ?_)
    | refine fk_gR (fun _ => ?_)
    | refine fk_gN (fun _ => ?_)
    | refine fk_gAI (fun _ => ?_)
    | refine fk_gAL (fun _ => ?_)
    | refine fk_gAN (fun _ => ?_)
    | refine fk_kif ?_ ?_
    | refine fk_nul ?_ (fun _ => ?_)
    | refine fk_may (fun _ => ?_)
    | refine fk_kdv ?_
    | refine fk_pI (by assumption) (by decide) (fun _ _ => ?_)
    | refine fk_pR (by assumption) (fun _ _ => ?_)
    | refine fk_pAI (by assumption) (by decide) (fun _ _ => ?_)
    | refine fk_pAZ (by assumption) (by decide) (fun _ _ => ?_)
    | refine fk_pAL (by assumption) (fun _ _ => ?_)
    | refine fk_pAN (by assumption) (fun _ _ => ?_)
    | refine fk_nw (by assumption) (by decide) (fun _ _ _ => ?_)
    | refine fk_nwM (by assumption) (fun _ _ _ => ?_)
    | refine fk_callV (hr4 _ _ _ _ _) (by assumption) (fun _ _ _ => ?_)
    | refine fk_bind (hr4 _ _ _ _ _) (by assumption) (fun _ _ _ => ?_)
    | refine fk_binI (hr4 _ _ _ _ _) (by assumption) (fun _ _ _ => ?_)
    | refine fk_callV (fk_X6_nearestOpen_b42 _ (by assumption) _ _ _ _ _) (by assumption) (fun _ _ _ => ?_)
    | refine fk_bind (fk_X6_nearestOpen_b42 _ (by assumption) _ _ _ _ _) (by assumption) (fun _ _ _ => ?_)
    | refine fk_binI (fk_X6_nearestOpen_b42 _ (by assumption) _ _ _ _ _) (by assumption) (fun _ _ _ => ?_))
theorem fk_X6_nearestOpen_b4 (rc4 : Nat → Nat → Int32 → Int32 → KH → KO Int32) (hr4 : ∀ (u0 : Nat) (u1 : Nat) (u2 : Int32) (u3 : Int32) (u4 : KH), FW u4 (rc4 u0 u1 u2 u3 u4)) (v0 : Nat) (v1 : Nat) (v2 : Int32) (v3 : Int32) (h : KH) : FW h (X6_nearestOpen_b4 rc4 v0 v1 v2 v3 h) := by
  unfold X6_nearestOpen_b4
  have q0 : FK h h := FK.rf h
  repeat' with_reducible (first
    | exact fk_ret (by assumption)
    | exact fk_retZ (by assumption)
    | exact fk_retC (by assumption)
    | exact fk_thr (by assumption)
    | exact fk_none
    | exact fk_go (hr4 _ _ _ _ _) (by assumption)
    | exact fk_go (fk_X6_nearestOpen_b42 _ (by assumption) _ _ _ _ _) (by assumption)
    | exact fk_go (fk_X6_nearestOpen_b40 _ (by assumption) _ _ _ _) (by assumption)
    | refine fk_gI (fun _ => ?_)
    | refine fk_gR (fun _ => ?_)
    | refine fk_gN (fun _ => ?_)
    | refine fk_gAI (fun _ => ?_)
    | refine fk_gAL (fun _ => ?_)
    | refine fk_gAN (fun _ => ?_)
    | refine fk_kif ?_ ?_
    | refine fk_nul ?_ (fun _ => ?_)
    | refine fk_may (fun _ => ?_)
    | refine fk_kdv ?_
    | refine fk_pI (by assumption) (by decide) (fun _ _ => ?_)
    | refine fk_pR (by assumption) (fun _ _ => ?_)
    | refine fk_pAI (by assumption) (by decide) (fun _ _ => ?_)
    | refine fk_pAZ (by assumption) (by decide) (fun _ _ => ?_)
    | refine fk_pAL (by assumption) (fun _ _ => ?_)
    | refine fk_pAN (by assumption) (fun _ _ => ?_)
    | refine fk_nw (by assumption) (by decide) (fun _ _ _ => ?_)
    | refine fk_nwM (by assumption) (fun _ _ _ => ?_)
    | refine fk_callV (hr4 _ _ _ _ _) (by assumption) (fun _ _ _ => ?_)
    | refine fk_bind (hr4 _ _ _ _ _) (by assumption) (fun _ _ _ => ?_)
    | refine fk_binI (hr4 _ _ _ _ _) (by assumption) (fun _ _ _ => ?_)
    | refine fk_callV (fk_X6_nearestOpen_b42 _ (by assumption) _ _ _ _ _) (by assumption) (fun _ _ _ => ?_)
    | refine fk_bind (fk_X6_nearestOpen_b42 _ (by assumption) _ _ _ _ _) (by assumption) (fun _ _ _ => ?_)
    | refine fk_binI (fk_X6_nearestOpen_b42 _ (by assumption) _ _ _ _ _) (by assumption) (fun _ _ _ => ?_)
    | refine fk_callV (fk_X6_nearestOpen_b40 _ (by assumption) _ _ _ _) (by assumption) (fun _ _ _ => ?_)
    | refine fk_bind (fk_X6_nearestOpen_b40 _ (by assumption) _ _ _ _) (by assumption) (fun _ _ _ => ?_)
    | refine fk_binI (fk_X6_nearestOpen_b40 _ (by assumption) _ _ _ _) (by assumption) (fun _ _ _ => ?_))
theorem fk_X6_nearestOpen_L4  : ∀ (m : Nat) (u0 : Nat) (u1 : Nat) (u2 : Int32) (u3 : Int32) (u4 : KH), FW u4 (X6_nearestOpen_L4  m u0 u1 u2 u3 u4) := by
  intro m
  induction m with
  | zero => intro u0 u1 u2 u3 u4; exact fk_none
  | succ m ih => intro u0 u1 u2 u3 u4; exact fk_X6_nearestOpen_b4 (X6_nearestOpen_L4  m) ih u0 u1 u2 u3 u4
theorem fk_f_X6_nearestOpen  (p0 : Nat) (p1 : Nat) (h : KH) : FW h (f_X6_nearestOpen p0 p1 h) := by
  unfold f_X6_nearestOpen
  have q0 : FK h h := FK.rf h
  repeat' with_reducible (first
    | exact fk_ret (by assumption)
    | exact fk_retZ (by assumption)
    | exact fk_retC (by assumption)
    | exact fk_thr (by assumption)
    | exact fk_none
    | exact fk_go (fk_X6_nearestOpen_L4 _ _ _ _ _ _) (by assumption)
    | refine fk_gI (fun _ => ?_)
    | refine fk_gR (fun _ => ?_)
    | refine fk_gN (fun _ => ?_)
    | refine fk_gAI (fun _ => ?_)
    | refine fk_gAL (fun _ => ?_)
    | refine fk_gAN (fun _ => ?_)
    | refine fk_kif ?_ ?_
    | refine fk_nul ?_ (fun _ => ?_)
    | refine fk_may (fun _ => ?_)
    | refine fk_kdv ?_
    | refine fk_pI (by assumption) (by decide) (fun _ _ => ?_)
    | refine fk_pR (by assumption) (fun _ _ => ?_)
    | refine fk_pAI (by assumption) (by decide) (fun _ _ => ?_)
    | refine fk_pAZ (by assumption) (by decide) (fun _ _ => ?_)
    | refine fk_pAL (by assumption) (fun _ _ => ?_)
    | refine fk_pAN (by assumption) (fun _ _ => ?_)
    | refine fk_nw (by assumption) (by decide) (fun _ _ _ => ?_)
    | refine fk_nwM (by assumption) (fun _ _ _ => ?_)
    | refine fk_callV (fk_X6_nearestOpen_L4 _ _ _ _ _ _) (by assumption) (fun _ _ _ => ?_)
    | refine fk_bind (fk_X6_nearestOpen_L4 _ _ _ _ _ _) (by assumption) (fun _ _ _ => ?_)
    | refine fk_binI (fk_X6_nearestOpen_L4 _ _ _ _ _ _) (by assumption) (fun _ _ _ => ?_))
theorem fk_X6_goOnFrom_b51 (rc2 : Nat → Int32 → Nat → Int32 → KH → KO Unit) (hr2 : ∀ (u0 : Nat) (u1 : Int32) (u2 : Nat) (u3 : Int32) (u4 : KH), FW u4 (rc2 u0 u1 u2 u3 u4)) (v0 : Nat) (v1 : Int32) (v2 : Nat) (v3 : Int32) (h : KH) : FW h (X6_goOnFrom_b51 rc2 v0 v1 v2 v3 h) := by
  unfold X6_goOnFrom_b51
  have q0 : FK h h := FK.rf h
  repeat' with_reducible (first
    | exact fk_ret (by assumption)
    | exact fk_retZ (by assumption)
    | exact fk_retC (by assumption)
    | exact fk_thr (by assumption)
    | exact fk_none
    | exact fk_go (hr2 _ _ _ _ _) (by assumption)
    | refine fk_gI (fun _ => ?_)
    | refine fk_gR (fun _ => ?_)
    | refine fk_gN (fun _ => ?_)
    | refine fk_gAI (fun _ => ?_)
    | refine fk_gAL (fun _ => ?_)
    | refine fk_gAN (fun _ => ?_)
    | refine fk_kif ?_ ?_
    | refine fk_nul ?_ (fun _ => ?_)
    | refine fk_may (fun _ => ?_)
    | refine fk_kdv ?_
    | refine fk_pI (by assumption) (by decide) (fun _ _ => ?_)
    | refine fk_pR (by assumption) (fun _ _ => ?_)
    | refine fk_pAI (by assumption) (by decide) (fun _ _ => ?_)
    | refine fk_pAZ (by assumption) (by decide) (fun _ _ => ?_)
    | refine fk_pAL (by assumption) (fun _ _ => ?_)
    | refine fk_pAN (by assumption) (fun _ _ => ?_)
    | refine fk_nw (by assumption) (by decide) (fun _ _ _ => ?_)
    | refine fk_nwM (by assumption) (fun _ _ _ => ?_)
    | refine fk_callV (hr2 _ _ _ _ _) (by assumption) (fun _ _ _ => ?_)
    | refine fk_bind (hr2 _ _ _ _ _) (by assumption) (fun _ _ _ => ?_)
    | refine fk_binI (hr2 _ _ _ _ _) (by assumption) (fun _ _ _ => ?_))
theorem fk_X6_goOnFrom_b46 (rc2 : Nat → Int32 → Nat → Int32 → KH → KO Unit) (hr2 : ∀ (u0 : Nat) (u1 : Int32) (u2 : Nat) (u3 : Int32) (u4 : KH), FW u4 (rc2 u0 u1 u2 u3 u4)) (v0 : Nat) (v1 : Int32) (v2 : Nat) (v3 : Int32) (v5 : Int32) (h : KH) : FW h (X6_goOnFrom_b46 rc2 v0 v1 v2 v3 v5 h) := by
  unfold X6_goOnFrom_b46
  have q0 : FK h h := FK.rf h
  repeat' with_reducible (first
    | exact fk_ret (by assumption)
    | exact fk_retZ (by assumption)
    | exact fk_retC (by assumption)
    | exact fk_thr (by assumption)
    | exact fk_none
    | exact fk_go (hr2 _ _ _ _ _) (by assumption)
    | exact fk_go (fk_X6_goOnFrom_b51 _ (by assumption) _ _ _ _ _) (by assumption)
    | refine fk_gI (fun _ => ?_)
    | refine fk_gR (fun _ => ?_)
    | refine fk_gN (fun _ => ?_)
    | refine fk_gAI (fun _ => ?_)
    | refine fk_gAL (fun _ => ?_)
    | refine fk_gAN (fun _ => ?_)
    | refine fk_kif ?_ ?_
    | refine fk_nul ?_ (fun _ => ?_)
    | refine fk_may (fun _ => ?_)
    | refine fk_kdv ?_
    | refine fk_pI (by assumption) (by decide) (fun _ _ => ?_)
    | refine fk_pR (by assumption) (fun _ _ => ?_)
    | refine fk_pAI (by assumption) (by decide) (fun _ _ => ?_)
    | refine fk_pAZ (by assumption) (by decide) (fun _ _ => ?_)
    | refine fk_pAL (by assumption) (fun _ _ => ?_)
    | refine fk_pAN (by assumption) (fun _ _ => ?_)
    | refine fk_nw (by assumption) (by decide) (fun _ _ _ => ?_)
    | refine fk_nwM (by assumption) (fun _ _ _ => ?_)
    | refine fk_callV (hr2 _ _ _ _ _) (by assumption) (fun _ _ _ => ?_)
    | refine fk_bind (hr2 _ _ _ _ _) (by assumption) (fun _ _ _ => ?_)
    | refine fk_binI (hr2 _ _ _ _ _) (by assumption) (fun _ _ _ => ?_)
    | refine fk_callV (fk_X6_goOnFrom_b51 _ (by assumption) _ _ _ _ _) (by assumption) (fun _ _ _ => ?_)
    | refine fk_bind (fk_X6_goOnFrom_b51 _ (by assumption) _ _ _ _ _) (by assumption) (fun _ _ _ => ?_)
    | refine fk_binI (fk_X6_goOnFrom_b51 _ (by assumption) _ _ _ _ _) (by assumption) (fun _ _ _ => ?_))
theorem fk_X6_goOnFrom_b2 (rc2 : Nat → Int32 → Nat → Int32 → KH → KO Unit) (hr2 : ∀ (u0 : Nat) (u1 : Int32) (u2 : Nat) (u3 : Int32) (u4 : KH), FW u4 (rc2 u0 u1 u2 u3 u4)) (v0 : Nat) (v1 : Int32) (v2 : Nat) (v3 : Int32) (h : KH) : FW h (X6_goOnFrom_b2 rc2 v0 v1 v2 v3 h) := by
  unfold X6_goOnFrom_b2
  have q0 : FK h h := FK.rf h
  repeat' with_reducible (first
    | exact fk_ret (by assumption)
    | exact fk_retZ (by assumption)
    | exact fk_retC (by assumption)
    | exact fk_thr (by assumption)
    | exact fk_none
    | exact fk_go (hr2 _ _ _ _ _) (by assumption)
    | exact fk_go (fk_X6_goOnFrom_b51 _ (by assumption) _ _ _ _ _) (by assumption)
    | exact fk_go (fk_X6_goOnFrom_b46 _ (by assumption) _ _ _ _ _ _) (by assumption)
    | refine fk_gI (fun _ => ?_)
    | refine fk_gR (fun _ => ?_)
    | refine fk_gN (fun _ => ?_)
    | refine fk_gAI (fun _ => ?_)
    | refine fk_gAL (fun _ => ?_)
    | refine fk_gAN (fun _ => ?_)
    | refine fk_kif ?_ ?_
    | refine fk_nul ?_ (fun _ => ?_)
    | refine fk_may (fun _ => ?_)
    | refine fk_kdv ?_
    | refine fk_pI (by assumption) (by decide) (fun _ _ => ?_)
    | refine fk_pR (by assumption) (fun _ _ => ?_)
    | refine fk_pAI (by assumption) (by decide) (fun _ _ => ?_)
    | refine fk_pAZ (by assumption) (by decide) (fun _ _ => ?_)
    | refine fk_pAL (by assumption) (fun _ _ => ?_)
    | refine fk_pAN (by assumption) (fun _ _ => ?_)
    | refine fk_nw (by assumption) (by decide) (fun _ _ _ => ?_)
    | refine fk_nwM (by assumption) (fun _ _ _ => ?_)
    | refine fk_callV (hr2 _ _ _ _ _) (by assumption) (fun _ _ _ => ?_)
    | refine fk_bind (hr2 _ _ _ _ _) (by assumption) (fun _ _ _ => ?_)
    | refine fk_binI (hr2 _ _ _ _ _) (by assumption) (fun _ _ _ => ?_)
    | refine fk_callV (fk_X6_goOnFrom_b51 _ (by assumption) _ _ _ _ _) (by assumption) (fun _ _ _ => ?_)
    | refine fk_bind (fk_X6_goOnFrom_b51 _ (by assumption) _ _ _ _ _) (by assumption) (fun _ _ _ => ?_)
    | refine fk_binI (fk_X6_goOnFrom_b51 _ (by assumption) _ _ _ _ _) (by assumption) (fun _ _ _ => ?_)
    | refine fk_callV (fk_X6_goOnFrom_b46 _ (by assumption) _ _ _ _ _ _) (by assumption) (fun _ _ _ => ?_)
    | refine fk_bind (fk_X6_goOnFrom_b46 _ (by assumption) _ _ _ _ _ _) (by assumption) (fun _ _ _ => ?_)
    | refine fk_binI (fk_X6_goOnFrom_b46 _ (by assumption) _ _ _ _ _ _) (by assumption) (fun _ _ _ => ?_))
theorem fk_X6_goOnFrom_L2  : ∀ (m : Nat) (u0 : Nat) (u1 : Int32) (u2 : Nat) (u3 : Int32) (u4 : KH), FW u4 (X6_goOnFrom_L2  m u0 u1 u2 u3 u4) := by
  intro m
  induction m with
  | zero => intro u0 u1 u2 u3 u4; exact fk_none
  | succ m ih => intro u0 u1 u2 u3 u4; exact fk_X6_goOnFrom_b2 (X6_goOnFrom_L2  m) ih u0 u1 u2 u3 u4
theorem fk_f_X6_goOnFrom  (p0 : Nat) (p1 : Int32) (p2 : Nat) (h : KH) : FW h (f_X6_goOnFrom p0 p1 p2 h) := by
  unfold f_X6_goOnFrom
  have q0 : FK h h := FK.rf h
  repeat' with_reducible (first
    | exact fk_ret (by assumption)
    | exact fk_retZ (by assumption)
    | exact fk_retC (by assumption)
    | exact fk_thr (by assumption)
    | exact fk_none
    | exact fk_go (fk_X6_goOnFrom_L2 _ _ _ _ _ _) (by assumption)
    | refine fk_gI (fun _ => ?_)
    | refine fk_gR (fun _ => ?_)
    | refine fk_gN (fun _ => ?_)
    | refine fk_gAI (fun _ => ?_)
    | refine fk_gAL (fun _ => ?_)
    | refine fk_gAN (fun _ => ?_)
    | refine fk_kif ?_ ?_
    | refine fk_nul ?_ (fun _ => ?_)
    | refine fk_may (fun _ => ?_)
    | refine fk_kdv ?_
    | refine fk_pI (by assumption) (by decide) (fun _ _ => ?_)
    | refine fk_pR (by assumption) (fun _ _ => ?_)
    | refine fk_pAI (by assumption) (by decide) (fun _ _ => ?_)
    | refine fk_pAZ (by assumption) (by decide) (fun _ _ => ?_)
    | refine fk_pAL (by assumption) (fun _ _ => ?_)
    | refine fk_pAN (by assumption) (fun _ _ => ?_)
    | refine fk_nw (by assumption) (by decide) (fun _ _ _ => ?_)
    | refine fk_nwM (by assumption) (fun _ _ _ => ?_)
    | refine fk_callV (fk_X6_goOnFrom_L2 _ _ _ _ _ _) (by assumption) (fun _ _ _ => ?_)
    | refine fk_bind (fk_X6_goOnFrom_L2 _ _ _ _ _ _) (by assumption) (fun _ _ _ => ?_)
    | refine fk_binI (fk_X6_goOnFrom_L2 _ _ _ _ _ _) (by assumption) (fun _ _ _ => ?_))
theorem fk_X6_measureFrom_b38 (rc38 : Nat → Nat → Int32 → KH → KO Unit) (hr38 : ∀ (u0 : Nat) (u1 : Nat) (u2 : Int32) (u3 : KH), FW u3 (rc38 u0 u1 u2 u3)) (v0 : Nat) (v2 : Nat) (v3 : Int32) (h : KH) : FW h (X6_measureFrom_b38 rc38 v0 v2 v3 h) := by
  unfold X6_measureFrom_b38
  have q0 : FK h h := FK.rf h
  repeat' with_reducible (first
    | exact fk_ret (by assumption)
    | exact fk_retZ (by assumption)
    | exact fk_retC (by assumption)
    | exact fk_thr (by assumption)
    | exact fk_none
    | exact fk_go (hr38 _ _ _ _) (by assumption)
    | exact fk_go (fk_f_X6_nearestOpen _ _ _) (by assumption)
    | exact fk_go (fk_f_X6_goOnFrom _ _ _ _) (by assumption)
    | refine fk_gI (fun _ => ?_)
    | refine fk_gR (fun _ => ?_)
    | refine fk_gN (fun _ => ?_)
    | refine fk_gAI (fun _ => ?_)
    | refine fk_gAL (fun _ => ?_)
    | refine fk_gAN (fun _ => ?_)
    | refine fk_kif ?_ ?_
    | refine fk_nul ?_ (fun _ => ?_)
    | refine fk_may (fun _ => ?_)
    | refine fk_kdv ?_
    | refine fk_pI (by assumption) (by decide) (fun _ _ => ?_)
    | refine fk_pR (by assumption) (fun _ _ => ?_)
    | refine fk_pAI (by assumption) (by decide) (fun _ _ => ?_)
    | refine fk_pAZ (by assumption) (by decide) (fun _ _ => ?_)
    | refine fk_pAL (by assumption) (fun _ _ => ?_)
    | refine fk_pAN (by assumption) (fun _ _ => ?_)
    | refine fk_nw (by assumption) (by decide) (fun _ _ _ => ?_)
    | refine fk_nwM (by assumption) (fun _ _ _ => ?_)
    | refine fk_callV (hr38 _ _ _ _) (by assumption) (fun _ _ _ => ?_)
    | refine fk_bind (hr38 _ _ _ _) (by assumption) (fun _ _ _ => ?_)
    | refine fk_binI (hr38 _ _ _ _) (by assumption) (fun _ _ _ => ?_)
    | refine fk_callV (fk_f_X6_nearestOpen _ _ _) (by assumption) (fun _ _ _ => ?_)
    | refine fk_bind (fk_f_X6_nearestOpen _ _ _) (by assumption) (fun _ _ _ => ?_)
    | refine fk_binI (fk_f_X6_nearestOpen _ _ _) (by assumption) (fun _ _ _ => ?_)
    | refine fk_callV (fk_f_X6_goOnFrom _ _ _ _) (by assumption) (fun _ _ _ => ?_)
    | refine fk_bind (fk_f_X6_goOnFrom _ _ _ _) (by assumption) (fun _ _ _ => ?_)
    | refine fk_binI (fk_f_X6_goOnFrom _ _ _ _) (by assumption) (fun _ _ _ => ?_))
theorem fk_X6_measureFrom_L38  : ∀ (m : Nat) (u0 : Nat) (u1 : Nat) (u2 : Int32) (u3 : KH), FW u3 (X6_measureFrom_L38  m u0 u1 u2 u3) := by
  intro m
  induction m with
  | zero => intro u0 u1 u2 u3; exact fk_none
  | succ m ih => intro u0 u1 u2 u3; exact fk_X6_measureFrom_b38 (X6_measureFrom_L38  m) ih u0 u1 u2 u3
theorem fk_X6_measureFrom_b9 (rc9 : Nat → Int32 → Nat → Int32 → KH → KO Unit) (hr9 : ∀ (u0 : Nat) (u1 : Int32) (u2 : Nat) (u3 : Int32) (u4 : KH), FW u4 (rc9 u0 u1 u2 u3 u4)) (v0 : Nat) (v1 : Int32) (v2 : Nat) (v3 : Int32) (h : KH) : FW h (X6_measureFrom_b9 rc9 v0 v1 v2 v3 h) := by
  unfold X6_measureFrom_b9
  have q0 : FK h h := FK.rf h
  repeat' with_reducible (first
    | exact fk_ret (by assumption)
    | exact fk_retZ (by assumption)
    | exact fk_retC (by assumption)
    | exact fk_thr (by assumption)
    | exact fk_none
    | exact fk_go (hr9 _ _ _ _ _) (by assumption)
    | exact fk_go (fk_X6_measureFrom_L38 _ _ _ _ _) (by assumption)
    | refine fk_gI (fun _ => ?_)
    | refine fk_gR (fun _ => ?_)
    | refine fk_gN (fun _ => ?_)
    | refine fk_gAI (fun _ => ?_)
    | refine fk_gAL (fun _ => ?_)
    | refine fk_gAN (fun _ => ?_)
    | refine fk_kif ?_ ?_
    | refine fk_nul ?_ (fun _ => ?_)
    | refine fk_may (fun _ => ?_)
    | refine fk_kdv ?_
    | refine fk_pI (by assumption) (by decide) (fun _ _ => ?_)
    | refine fk_pR (by assumption) (fun _ _ => ?_)
    | refine fk_pAI (by assumption) (by decide) (fun _ _ => ?_)
    | refine fk_pAZ (by assumption) (by decide) (fun _ _ => ?_)
    | refine fk_pAL (by assumption) (fun _ _ => ?_)
    | refine fk_pAN (by assumption) (fun _ _ => ?_)
    | refine fk_nw (by assumption) (by decide) (fun _ _ _ => ?_)
    | refine fk_nwM (by assumption) (fun _ _ _ => ?_)
    | refine fk_callV (hr9 _ _ _ _ _) (by assumption) (fun _ _ _ => ?_)
    | refine fk_bind (hr9 _ _ _ _ _) (by assumption) (fun _ _ _ => ?_)
    | refine fk_binI (hr9 _ _ _ _ _) (by assumption) (fun _ _ _ => ?_)
    | refine fk_callV (fk_X6_measureFrom_L38 _ _ _ _ _) (by assumption) (fun _ _ _ => ?_)
    | refine fk_bind (fk_X6_measureFrom_L38 _ _ _ _ _) (by assumption) (fun _ _ _ => ?_)
    | refine fk_binI (fk_X6_measureFrom_L38 _ _ _ _ _) (by assumption) (fun _ _ _ => ?_))
theorem fk_X6_measureFrom_L9  : ∀ (m : Nat) (u0 : Nat) (u1 : Int32) (u2 : Nat) (u3 : Int32) (u4 : KH), FW u4 (X6_measureFrom_L9  m u0 u1 u2 u3 u4) := by
  intro m
  induction m with
  | zero => intro u0 u1 u2 u3 u4; exact fk_none
  | succ m ih => intro u0 u1 u2 u3 u4; exact fk_X6_measureFrom_b9 (X6_measureFrom_L9  m) ih u0 u1 u2 u3 u4
theorem fk_f_X6_measureFrom  (p0 : Nat) (p1 : Int32) (h : KH) : FW h (f_X6_measureFrom p0 p1 h) := by
  unfold f_X6_measureFrom
  have q0 : FK h h := FK.rf h
  repeat' with_reducible (first
    | exact fk_ret (by assumption)
    | exact fk_retZ (by assumption)
    | exact fk_retC (by assumption)
    | exact fk_thr (by assumption)
    | exact fk_none
    | exact fk_go (fk_X6_measureFrom_L9 _ _ _ _ _ _) (by assumption)
    | refine fk_gI (fun _ => ?_)
    | refine fk_gR (fun _ => ?_)
    | refine fk_gN (fun _ => ?_)
    | refine fk_gAI (fun _ => ?_)
    | refine fk_gAL (fun _ => ?_)
    | refine fk_gAN (fun _ => ?_)
    | refine fk_kif ?_ ?_
    | refine fk_nul ?_ (fun _ => ?_)
    | refine fk_may (fun _ => ?_)
    | refine fk_kdv ?_
    | refine fk_pI (by assumption) (by decide) (fun _ _ => ?_)
    | refine fk_pR (by assumption) (fun _ _ => ?_)
    | refine fk_pAI (by assumption) (by decide) (fun _ _ => ?_)
    | refine fk_pAZ (by assumption) (by decide) (fun _ _ => ?_)
    | refine fk_pAL (by assumption) (fun _ _ => ?_)
    | refine fk_pAN (by assumption) (fun _ _ => ?_)
    | refine fk_nw (by assumption) (by decide) (fun _ _ _ => ?_)
    | refine fk_nwM (by assumption) (fun _ _ _ => ?_)
    | refine fk_callV (fk_X6_measureFrom_L9 _ _ _ _ _ _) (by assumption) (fun _ _ _ => ?_)
    | refine fk_bind (fk_X6_measureFrom_L9 _ _ _ _ _ _) (by assumption) (fun _ _ _ => ?_)
    | refine fk_binI (fk_X6_measureFrom_L9 _ _ _ _ _ _) (by assumption) (fun _ _ _ => ?_))
theorem fk_X6_measureAll_b2 (rc2 : Nat → Int32 → KH → KO Unit) (hr2 : ∀ (u0 : Nat) (u1 : Int32) (u2 : KH), FW u2 (rc2 u0 u1 u2)) (v0 : Nat) (v1 : Int32) (h : KH) : FW h (X6_measureAll_b2 rc2 v0 v1 h) := by
  unfold X6_measureAll_b2
  have q0 : FK h h := FK.rf h
  repeat' with_reducible (first
    | exact fk_ret (by assumption)
    | exact fk_retZ (by assumption)
    | exact fk_retC (by assumption)
    | exact fk_thr (by assumption)
    | exact fk_none
    | exact fk_go (hr2 _ _ _) (by assumption)
    | exact fk_go (fk_f_X6_measureFrom _ _ _) (by assumption)
    | refine fk_gI (fun _ => ?_)
    | refine fk_gR (fun _ => ?_)
    | refine fk_gN (fun _ => ?_)
    | refine fk_gAI (fun _ => ?_)
    | refine fk_gAL (fun _ => ?_)
    | refine fk_gAN (fun _ => ?_)
    | refine fk_kif ?_ ?_
    | refine fk_nul ?_ (fun _ => ?_)
    | refine fk_may (fun _ => ?_)
    | refine fk_kdv ?_
    | refine fk_pI (by assumption) (by decide) (fun _ _ => ?_)
    | refine fk_pR (by assumption) (fun _ _ => ?_)
    | refine fk_pAI (by assumption) (by decide) (fun _ _ => ?_)
    | refine fk_pAZ (by assumption) (by decide) (fun _ _ => ?_)
    | refine fk_pAL (by assumption) (fun _ _ => ?_)
    | refine fk_pAN (by assumption) (fun _ _ => ?_)
    | refine fk_nw (by assumption) (by decide) (fun _ _ _ => ?_)
    | refine fk_nwM (by assumption) (fun _ _ _ => ?_)
    | refine fk_callV (hr2 _ _ _) (by assumption) (fun _ _ _ => ?_)
    | refine fk_bind (hr2 _ _ _) (by assumption) (fun _ _ _ => ?_)
    | refine fk_binI (hr2 _ _ _) (by assumption) (fun _ _ _ => ?_)
    | refine fk_callV (fk_f_X6_measureFrom _ _ _) (by assumption) (fun _ _ _ => ?_)
    | refine fk_bind (fk_f_X6_measureFrom _ _ _) (by assumption) (fun _ _ _ => ?_)
    | refine fk_binI (fk_f_X6_measureFrom _ _ _) (by assumption) (fun _ _ _ => ?_))
theorem fk_X6_measureAll_L2  : ∀ (m : Nat) (u0 : Nat) (u1 : Int32) (u2 : KH), FW u2 (X6_measureAll_L2  m u0 u1 u2) := by
  intro m
  induction m with
  | zero => intro u0 u1 u2; exact fk_none
  | succ m ih => intro u0 u1 u2; exact fk_X6_measureAll_b2 (X6_measureAll_L2  m) ih u0 u1 u2
theorem fk_f_X6_measureAll  (p0 : Nat) (h : KH) : FW h (f_X6_measureAll p0 h) := by
  unfold f_X6_measureAll
  have q0 : FK h h := FK.rf h
  repeat' with_reducible (first
    | exact fk_ret (by assumption)
    | exact fk_retZ (by assumption)
    | exact fk_retC (by assumption)
    | exact fk_thr (by assumption)
    | exact fk_none
    | exact fk_go (fk_X6_measureAll_L2 _ _ _ _) (by assumption)
    | refine fk_gI (fun _ => ?_)
    | refine fk_gR (fun _ => ?_)
    | refine fk_gN (fun _ => ?_)
    | refine fk_gAI (fun _ => ?_)
    | refine fk_gAL (fun _ => ?_)
    | refine fk_gAN (fun _ => ?_)
    | refine fk_kif ?_ ?_
    | refine fk_nul ?_ (fun _ => ?_)
    | refine fk_may (fun _ => ?_)
    | refine fk_kdv ?_
    | refine fk_pI (by assumption) (by decide) (fun _ _ => ?_)
    | refine fk_pR (by assumption) (fun _ _ => ?_)
    | refine fk_pAI (by assumption) (by decide) (fun _ _ => ?_)
    | refine fk_pAZ (by assumption) (by decide) (fun _ _ => ?_)
    | refine fk_pAL (by assumption) (fun _ _ => ?_)
    | refine fk_pAN (by assumption) (fun _ _ => ?_)
    | refine fk_nw (by assumption) (by decide) (fun _ _ _ => ?_)
    | refine fk_nwM (by assumption) (fun _ _ _ => ?_)
    | refine fk_callV (fk_X6_measureAll_L2 _ _ _ _) (by assumption) (fun _ _ _ => ?_)
    | refine fk_bind (fk_X6_measureAll_L2 _ _ _ _) (by assumption) (fun _ _ _ => ?_)
    | refine fk_binI (fk_X6_measureAll_L2 _ _ _ _) (by assumption) (fun _ _ _ => ?_))
theorem fk_f_X6_init  (p0 : Nat) (h : KH) : FW h (f_X6_init p0 h) := by
  unfold f_X6_init
  have q0 : FK h h := FK.rf h
  repeat' with_reducible (first
    | exact fk_ret (by assumption)
    | exact fk_retZ (by assumption)
    | exact fk_retC (by assumption)
    | exact fk_thr (by assumption)
    | exact fk_none
    | exact fk_go (fk_f_X6_measureAll _ _) (by assumption)
    | refine fk_gI (fun _ => ?_)
    | refine fk_gR (fun _ => ?_)
    | refine fk_gN (fun _ => ?_)
    | refine fk_gAI (fun _ => ?_)
    | refine fk_gAL (fun _ => ?_)
    | refine fk_gAN (fun _ => ?_)
    | refine fk_kif ?_ ?_
    | refine fk_nul ?_ (fun _ => ?_)
    | refine fk_may (fun _ => ?_)
    | refine fk_kdv ?_
    | refine fk_pI (by assumption) (by decide) (fun _ _ => ?_)
    | refine fk_pR (by assumption) (fun _ _ => ?_)
    | refine fk_pAI (by assumption) (by decide) (fun _ _ => ?_)
    | refine fk_pAZ (by assumption) (by decide) (fun _ _ => ?_)
    | refine fk_pAL (by assumption) (fun _ _ => ?_)
    | refine fk_pAN (by assumption) (fun _ _ => ?_)
    | refine fk_nw (by assumption) (by decide) (fun _ _ _ => ?_)
    | refine fk_nwM (by assumption) (fun _ _ _ => ?_)
    | refine fk_callV (fk_f_X6_measureAll _ _) (by assumption) (fun _ _ _ => ?_)
    | refine fk_bind (fk_f_X6_measureAll _ _) (by assumption) (fun _ _ _ => ?_)
    | refine fk_binI (fk_f_X6_measureAll _ _) (by assumption) (fun _ _ _ => ?_))
theorem fk_f_X7_init  (p0 : Nat) (h : KH) : FW h (f_X7_init p0 h) := by
  unfold f_X7_init
  have q0 : FK h h := FK.rf h
  repeat' with_reducible (first
    | exact fk_ret (by assumption)
    | exact fk_retZ (by assumption)
    | exact fk_retC (by assumption)
    | exact fk_thr (by assumption)
    | exact fk_none
    | refine fk_gI (fun _ => ?_)
    | refine fk_gR (fun _ => ?_)
    | refine fk_gN (fun _ => ?_)
    | refine fk_gAI (fun _ => ?_)
    | refine fk_gAL (fun _ => ?_)
    | refine fk_gAN (fun _ => ?_)
    | refine fk_kif ?_ ?_
    | refine fk_nul ?_ (fun _ => ?_)
    | refine fk_may (fun _ => ?_)
    | refine fk_kdv ?_
    | refine fk_pI (by assumption) (by decide) (fun _ _ => ?_)
    | refine fk_pR (by assumption) (fun _ _ => ?_)
    | refine fk_pAI (by assumption) (by decide) (fun _ _ => ?_)
    | refine fk_pAZ (by assumption) (by decide) (fun _ _ => ?_)
    | refine fk_pAL (by assumption) (fun _ _ => ?_)
    | refine fk_pAN (by assumption) (fun _ _ => ?_)
    | refine fk_nw (by assumption) (by decide) (fun _ _ _ => ?_)
    | refine fk_nwM (by assumption) (fun _ _ _ => ?_))
theorem fk_f_X2_init  (p0 : Nat) (h : KH) : FW h (f_X2_init p0 h) := by
  unfold f_X2_init
  have q0 : FK h h := FK.rf h
  repeat' with_reducible (first
    | exact fk_ret (by assumption)
    | exact fk_retZ (by assumption)
    | exact fk_retC (by assumption)
    | exact fk_thr (by assumption)
    | exact fk_none
    | refine fk_gI (fun _ => ?_)
    | refine fk_gR (fun _ => ?_)
    | refine fk_gN (fun _ => ?_)
    | refine fk_gAI (fun _ => ?_)
    | refine fk_gAL (fun _ => ?_)
    | refine fk_gAN (fun _ => ?_)
    | refine fk_kif ?_ ?_
    | refine fk_nul ?_ (fun _ => ?_)
    | refine fk_may (fun _ => ?_)
    | refine fk_kdv ?_
    | refine fk_pI (by assumption) (by decide) (fun _ _ => ?_)
    | refine fk_pR (by assumption) (fun _ _ => ?_)
    | refine fk_pAI (by assumption) (by decide) (fun _ _ => ?_)
    | refine fk_pAZ (by assumption) (by decide) (fun _ _ => ?_)
    | refine fk_pAL (by assumption) (fun _ _ => ?_)
    | refine fk_pAN (by assumption) (fun _ _ => ?_)
    | refine fk_nw (by assumption) (by decide) (fun _ _ _ => ?_)
    | refine fk_nwM (by assumption) (fun _ _ _ => ?_))
theorem fk_f_X3_init  (p0 : Nat) (h : KH) : FW h (f_X3_init p0 h) := by
  unfold f_X3_init
  have q0 : FK h h := FK.rf h
  repeat' with_reducible (first
    | exact fk_ret (by assumption)
    | exact fk_retZ (by assumption)
    | exact fk_retC (by assumption)
    | exact fk_thr (by assumption)
    | exact fk_none
    | refine fk_gI (fun _ => ?_)
    | refine fk_gR (fun _ => ?_)
    | refine fk_gN (fun _ => ?_)
    | refine fk_gAI (fun _ => ?_)
    | refine fk_gAL (fun _ => ?_)
    | refine fk_gAN (fun _ => ?_)
    | refine fk_kif ?_ ?_
    | refine fk_nul ?_ (fun _ => ?_)
    | refine fk_may (fun _ => ?_)
    | refine fk_kdv ?_
    | refine fk_pI (by assumption) (by decide) (fun _ _ => ?_)
    | refine fk_pR (by assumption) (fun _ _ => ?_)
    | refine fk_pAI (by assumption) (by decide) (fun _ _ => ?_)
    | refine fk_pAZ (by assumption) (by decide) (fun _ _ => ?_)
    | refine fk_pAL (by assumption) (fun _ _ => ?_)
    | refine fk_pAN (by assumption) (fun _ _ => ?_)
    | refine fk_nw (by assumption) (by decide) (fun _ _ _ => ?_)
    | refine fk_nwM (by assumption) (fun _ _ _ => ?_))
theorem fk_f_X9_init  (p0 : Nat) (h : KH) : FW h (f_X9_init p0 h) := by
  unfold f_X9_init
  have q0 : FK h h := FK.rf h
  repeat' with_reducible (first
    | exact fk_ret (by assumption)
    | exact fk_retZ (by assumption)
    | exact fk_retC (by assumption)
    | exact fk_thr (by assumption)
    | exact fk_none
    | exact fk_go (fk_f_X6_init _ _) (by assumption)
    | exact fk_go (fk_f_X7_init _ _) (by assumption)
    | exact fk_go (fk_f_X2_init _ _) (by assumption)
    | exact fk_go (fk_f_X3_init _ _) (by assumption)
    | refine fk_gI (fun _ => ?_)
    | refine fk_gR (fun _ => ?_)
    | refine fk_gN (fun _ => ?_)
    | refine fk_gAI (fun _ => ?_)
    | refine fk_gAL (fun _ => ?_)
    | refine fk_gAN (fun _ => ?_)
    | refine fk_kif ?_ ?_
    | refine fk_nul ?_ (fun _ => ?_)
    | refine fk_may (fun _ => ?_)
    | refine fk_kdv ?_
    | refine fk_pI (by assumption) (by decide) (fun _ _ => ?_)
    | refine fk_pR (by assumption) (fun _ _ => ?_)
    | refine fk_pAI (by assumption) (by decide) (fun _ _ => ?_)
    | refine fk_pAZ (by assumption) (by decide) (fun _ _ => ?_)
    | refine fk_pAL (by assumption) (fun _ _ => ?_)
    | refine fk_pAN (by assumption) (fun _ _ => ?_)
    | refine fk_nw (by assumption) (by decide) (fun _ _ _ => ?_)
    | refine fk_nwM (by assumption) (fun _ _ _ => ?_)
    | refine fk_callV (fk_f_X6_init _ _) (by assumption) (fun _ _ _ => ?_)
    | refine fk_bind (fk_f_X6_init _ _) (by assumption) (fun _ _ _ => ?_)
    | refine fk_binI (fk_f_X6_init _ _) (by assumption) (fun _ _ _ => ?_)
    | refine fk_callV (fk_f_X7_init _ _) (by assumption) (fun _ _ _ => ?_)
    | refine fk_bind (fk_f_X7_init _ _) (by assumption) (fun _ _ _ => ?_)
    | refine fk_binI (fk_f_X7_init _ _) (by assumption) (fun _ _ _ => ?_)
    | refine fk_callV (fk_f_X2_init _ _) (by assumption) (fun _ _ _ => ?_)
    | refine fk_bind (fk_f_X2_init _ _) (by assumption) (fun _ _ _ => ?_)
    | refine fk_binI (fk_f_X2_init _ _) (by assumption) (fun _ _ _ => ?_)
    | refine fk_callV (fk_f_X3_init _ _) (by assumption) (fun _ _ _ => ?_)
    | refine fk_bind (fk_f_X3_init _ _) (by assumption) (fun _ _ _ => ?_)
    | refine fk_binI (fk_f_X3_init _ _) (by assumption) (fun _ _ _ => ?_))
theorem fk_X9_isWithin_b15  (s0 : Int32) (h : KH) : FW h (X9_isWithin_b15 s0 h) := by
  unfold X9_isWithin_b15
  have q0 : FK h h := FK.rf h
  repeat' with_reducible (first
    | exact fk_ret (by assumption)
    | exact fk_retZ (by assumption)
    | exact fk_retC (by assumption)
    | exact fk_thr (by assumption)
    | exact fk_none
    | refine fk_gI (fun _ => ?_)
    | refine fk_gR (fun _ => ?_)
    | refine fk_gN (fun _ => ?_)
    | refine fk_gAI (fun _ => ?_)
    | refine fk_gAL (fun _ => ?_)
    | refine fk_gAN (fun _ => ?_)
    | refine fk_kif ?_ ?_
    | refine fk_nul ?_ (fun _ => ?_)
    | refine fk_may (fun _ => ?_)
    | refine fk_kdv ?_
    | refine fk_pI (by assumption) (by decide) (fun _ _ => ?_)
    | refine fk_pR (by assumption) (fun _ _ => ?_)
    | refine fk_pAI (by assumption) (by decide) (fun _ _ => ?_)
    | refine fk_pAZ (by assumption) (by decide) (fun _ _ => ?_)
    | refine fk_pAL (by assumption) (fun _ _ => ?_)
    | refine fk_pAN (by assumption) (fun _ _ => ?_)
    | refine fk_nw (by assumption) (by decide) (fun _ _ _ => ?_)
    | refine fk_nwM (by assumption) (fun _ _ _ => ?_))
theorem fk_X9_isWithin_b14  (h : KH) : FW h (X9_isWithin_b14 h) := by
  unfold X9_isWithin_b14
  have q0 : FK h h := FK.rf h
  repeat' with_reducible (first
    | exact fk_ret (by assumption)
    | exact fk_retZ (by assumption)
    | exact fk_retC (by assumption)
    | exact fk_thr (by assumption)
    | exact fk_none
    | exact fk_go (fk_X9_isWithin_b15 _ _) (by assumption)
    | refine fk_gI (fun _ => ?_)
    | refine fk_gR (fun _ => ?_)
    | refine fk_gN (fun _ => ?_)
    | refine fk_gAI (fun _ => ?_)
    | refine fk_gAL (fun _ => ?_)
    | refine fk_gAN (fun _ => ?_)
    | refine fk_kif ?_ ?_
    | refine fk_nul ?_ (fun _ => ?_)
    | refine fk_may (fun _ => ?_)
    | refine fk_kdv ?_
    | refine fk_pI (by assumption) (by decide) (fun _ _ => ?_)
    | refine fk_pR (by assumption) (fun _ _ => ?_)
    | refine fk_pAI (by assumption) (by decide) (fun _ _ => ?_)
    | refine fk_pAZ (by assumption) (by decide) (fun _ _ => ?_)
    | refine fk_pAL (by assumption) (fun _ _ => ?_)
    | refine fk_pAN (by assumption) (fun _ _ => ?_)
    | refine fk_nw (by assumption) (by decide) (fun _ _ _ => ?_)
    | refine fk_nwM (by assumption) (fun _ _ _ => ?_)
    | refine fk_callV (fk_X9_isWithin_b15 _ _) (by assumption) (fun _ _ _ => ?_)
    | refine fk_bind (fk_X9_isWithin_b15 _ _) (by assumption) (fun _ _ _ => ?_)
    | refine fk_binI (fk_X9_isWithin_b15 _ _) (by assumption) (fun _ _ _ => ?_))
theorem fk_f_X9_isWithin  (p0 : Int32) (p1 : Int32) (p2 : Int32) (h : KH) : FW h (f_X9_isWithin p0 p1 p2 h) := by
  unfold f_X9_isWithin
  have q0 : FK h h := FK.rf h
  repeat' with_reducible (first
    | exact fk_ret (by assumption)
    | exact fk_retZ (by assumption)
    | exact fk_retC (by assumption)
    | exact fk_thr (by assumption)
    | exact fk_none
    | exact fk_go (fk_X9_isWithin_b14 _) (by assumption)
    | exact fk_go (fk_X9_isWithin_b15 _ _) (by assumption)
    | refine fk_gI (fun _ => ?_)
    | refine fk_gR (fun _ => ?_)
    | refine fk_gN (fun _ => ?_)
    | refine fk_gAI (fun _ => ?_)
    | refine fk_gAL (fun _ => ?_)
    | refine fk_gAN (fun _ => ?_)
    | refine fk_kif ?_ ?_
    | refine fk_nul ?_ (fun _ => ?_)
    | refine fk_may (fun _ => ?_)
    | refine fk_kdv ?_
    | refine fk_pI (by assumption) (by decide) (fun _ _ => ?_)
    | refine fk_pR (by assumption) (fun _ _ => ?_)
    | refine fk_pAI (by assumption) (by decide) (fun _ _ => ?_)
    | refine fk_pAZ (by assumption) (by decide) (fun _ _ => ?_)
    | refine fk_pAL (by assumption) (fun _ _ => ?_)
    | refine fk_pAN (by assumption) (fun _ _ => ?_)
    | refine fk_nw (by assumption) (by decide) (fun _ _ _ => ?_)
    | refine fk_nwM (by assumption) (fun _ _ _ => ?_)
    | refine fk_callV (fk_X9_isWithin_b14 _) (by assumption) (fun _ _ _ => ?_)
    | refine fk_bind (fk_X9_isWithin_b14 _) (by assumption) (fun _ _ _ => ?_)
    | refine fk_binI (fk_X9_isWithin_b14 _) (by assumption) (fun _ _ _ => ?_)
    | refine fk_callV (fk_X9_isWithin_b15 _ _) (by assumption) (fun _ _ _ => ?_)
    | refine fk_bind (fk_X9_isWithin_b15 _ _) (by assumption) (fun _ _ _ => ?_)
    | refine fk_binI (fk_X9_isWithin_b15 _ _) (by assumption) (fun _ _ _ => ?_))
theorem fk_f_X9_pass  (p0 : Nat) (p1 : Int32) (h : KH) : FW h (f_X9_pass p0 p1 h) := by
  unfold f_X9_pass
  have q0 : FK h h := FK.rf h
  repeat' with_reducible (first
    | exact fk_ret (by assumption)
    | exact fk_retZ (by assumption)
    | exact fk_retC (by assumption)
    | exact fk_thr (by assumption)
    | exact fk_none
    | exact fk_go (fk_f_X9_isWithin _ _ _ _) (by assumption)
    | refine fk_gI (fun _ => ?_)
    | refine fk_gR (fun _ => ?_)
    | refine fk_gN (fun _ => ?_)
    | refine fk_gAI (fun _ => ?_)
    | refine fk_gAL (fun _ => ?_)
    | refine fk_gAN (fun _ => ?_)
    | refine fk_kif ?_ ?_
    | refine fk_nul ?_ (fun _ => ?_)
    | refine fk_may (fun _ => ?_)
    | refine fk_kdv ?_
    | refine fk_pI (by assumption) (by decide) (fun _ _ => ?_)
    | refine fk_pR (by assumption) (fun _ _ => ?_)
    | refine fk_pAI (by assumption) (by decide) (fun _ _ => ?_)
    | refine fk_pAZ (by assumption) (by decide) (fun _ _ => ?_)
    | refine fk_pAL (by assumption) (fun _ _ => ?_)
    | refine fk_pAN (by assumption) (fun _ _ => ?_)
    | refine fk_nw (by assumption) (by decide) (fun _ _ _ => ?_)
    | refine fk_nwM (by assumption) (fun _ _ _ => ?_)
    | refine fk_callV (fk_f_X9_isWithin _ _ _ _) (by assumption) (fun _ _ _ => ?_)
    | refine fk_bind (fk_f_X9_isWithin _ _ _ _) (by assumption) (fun _ _ _ => ?_)
    | refine fk_binI (fk_f_X9_isWithin _ _ _ _) (by assumption) (fun _ _ _ => ?_))
theorem fk_f_X9_now  (p0 : Nat) (h : KH) : FW h (f_X9_now p0 h) := by
  unfold f_X9_now
  have q0 : FK h h := FK.rf h
  repeat' with_reducible (first
    | exact fk_ret (by assumption)
    | exact fk_retZ (by assumption)
    | exact fk_retC (by assumption)
    | exact fk_thr (by assumption)
    | exact fk_none
    | refine fk_gI (fun _ => ?_)
    | refine fk_gR (fun _ => ?_)
    | refine fk_gN (fun _ => ?_)
    | refine fk_gAI (fun _ => ?_)
    | refine fk_gAL (fun _ => ?_)
    | refine fk_gAN (fun _ => ?_)
    | refine fk_kif ?_ ?_
    | refine fk_nul ?_ (fun _ => ?_)
    | refine fk_may (fun _ => ?_)
    | refine fk_kdv ?_
    | refine fk_pI (by assumption) (by decide) (fun _ _ => ?_)
    | refine fk_pR (by assumption) (fun _ _ => ?_)
    | refine fk_pAI (by assumption) (by decide) (fun _ _ => ?_)
    | refine fk_pAZ (by assumption) (by decide) (fun _ _ => ?_)
    | refine fk_pAL (by assumption) (fun _ _ => ?_)
    | refine fk_pAN (by assumption) (fun _ _ => ?_)
    | refine fk_nw (by assumption) (by decide) (fun _ _ _ => ?_)
    | refine fk_nwM (by assumption) (fun _ _ _ => ?_))
theorem fk_f_X9_requireGate  (p0 : Int32) (h : KH) : FW h (f_X9_requireGate p0 h) := by
  unfold f_X9_requireGate
  have q0 : FK h h := FK.rf h
  repeat' with_reducible (first
    | exact fk_ret (by assumption)
    | exact fk_retZ (by assumption)
    | exact fk_retC (by assumption)
    | exact fk_thr (by assumption)
    | exact fk_none
    | exact fk_go (fk_f_X9_isWithin _ _ _ _) (by assumption)
    | refine fk_gI (fun _ => ?_)
    | refine fk_gR (fun _ => ?_)
    | refine fk_gN (fun _ => ?_)
    | refine fk_gAI (fun _ => ?_)
    | refine fk_gAL (fun _ => ?_)
    | refine fk_gAN (fun _ => ?_)
    | refine fk_kif ?_ ?_
    | refine fk_nul ?_ (fun _ => ?_)
    | refine fk_may (fun _ => ?_)
    | refine fk_kdv ?_
    | refine fk_pI (by assumption) (by decide) (fun _ _ => ?_)
    | refine fk_pR (by assumption) (fun _ _ => ?_)
    | refine fk_pAI (by assumption) (by decide) (fun _ _ => ?_)
    | refine fk_pAZ (by assumption) (by decide) (fun _ _ => ?_)
    | refine fk_pAL (by assumption) (fun _ _ => ?_)
    | refine fk_pAN (by assumption) (fun _ _ => ?_)
    | refine fk_nw (by assumption) (by decide) (fun _ _ _ => ?_)
    | refine fk_nwM (by assumption) (fun _ _ _ => ?_)
    | refine fk_callV (fk_f_X9_isWithin _ _ _ _) (by assumption) (fun _ _ _ => ?_)
    | refine fk_bind (fk_f_X9_isWithin _ _ _ _) (by assumption) (fun _ _ _ => ?_)
    | refine fk_binI (fk_f_X9_isWithin _ _ _ _) (by assumption) (fun _ _ _ => ?_))
theorem fk_f_X6_lengthOf  (p0 : Nat) (p1 : Int32) (p2 : Int32) (h : KH) : FW h (f_X6_lengthOf p0 p1 p2 h) := by
  unfold f_X6_lengthOf
  have q0 : FK h h := FK.rf h
  repeat' with_reducible (first
    | exact fk_ret (by assumption)
    | exact fk_retZ (by assumption)
    | exact fk_retC (by assumption)
    | exact fk_thr (by assumption)
    | exact fk_none
    | refine fk_gI (fun _ => ?_)
    | refine fk_gR (fun _ => ?_)
    | refine fk_gN (fun _ => ?_)
    | refine fk_gAI (fun _ => ?_)
    | refine fk_gAL (fun _ => ?_)
    | refine fk_gAN (fun _ => ?_)
    | refine fk_kif ?_ ?_
    | refine fk_nul ?_ (fun _ => ?_)
    | refine fk_may (fun _ => ?_)
    | refine fk_kdv ?_
    | refine fk_pI (by assumption) (by decide) (fun _ _ => ?_)
    | refine fk_pR (by assumption) (fun _ _ => ?_)
    | refine fk_pAI (by assumption) (by decide) (fun _ _ => ?_)
    | refine fk_pAZ (by assumption) (by decide) (fun _ _ => ?_)
    | refine fk_pAL (by assumption) (fun _ _ => ?_)
    | refine fk_pAN (by assumption) (fun _ _ => ?_)
    | refine fk_nw (by assumption) (by decide) (fun _ _ _ => ?_)
    | refine fk_nwM (by assumption) (fun _ _ _ => ?_))
theorem fk_f_X6_build  (p0 : Nat) (p1 : Int32) (p2 : Int32) (p3 : Int32) (h : KH) : FW h (f_X6_build p0 p1 p2 p3 h) := by
  unfold f_X6_build
  have q0 : FK h h := FK.rf h
  repeat' with_reducible (first
    | exact fk_ret (by assumption)
    | exact fk_retZ (by assumption)
    | exact fk_retC (by assumption)
    | exact fk_thr (by assumption)
    | exact fk_none
    | exact fk_go (fk_f_X6_measureAll _ _) (by assumption)
    | refine fk_gI (fun _ => ?_)
    | refine fk_gR (fun _ => ?_)
    | refine fk_gN (fun _ => ?_)
    | refine fk_gAI (fun _ => ?_)
    | refine fk_gAL (fun _ => ?_)
    | refine fk_gAN (fun _ => ?_)
    | refine fk_kif ?_ ?_
    | refine fk_nul ?_ (fun _ => ?_)
    | refine fk_may (fun _ => ?_)
    | refine fk_kdv ?_
    | refine fk_pI (by assumption) (by decide) (fun _ _ => ?_)
    | refine fk_pR (by assumption) (fun _ _ => ?_)
    | refine fk_pAI (by assumption) (by decide) (fun _ _ => ?_)
    | refine fk_pAZ (by assumption) (by decide) (fun _ _ => ?_)
    | refine fk_pAL (by assumption) (fun _ _ => ?_)
    | refine fk_pAN (by assumption) (fun _ _ => ?_)
    | refine fk_nw (by assumption) (by decide) (fun _ _ _ => ?_)
    | refine fk_nwM (by assumption) (fun _ _ _ => ?_)
    | refine fk_callV (fk_f_X6_measureAll _ _) (by assumption) (fun _ _ _ => ?_)
    | refine fk_bind (fk_f_X6_measureAll _ _) (by assumption) (fun _ _ _ => ?_)
    | refine fk_binI (fk_f_X6_measureAll _ _) (by assumption) (fun _ _ _ => ?_))
theorem fk_f_X6_between  (p0 : Nat) (p1 : Int32) (p2 : Int32) (h : KH) : FW h (f_X6_between p0 p1 p2 h) := by
  unfold f_X6_between
  have q0 : FK h h := FK.rf h
  repeat' with_reducible (first
    | exact fk_ret (by assumption)
    | exact fk_retZ (by assumption)
    | exact fk_retC (by assumption)
    | exact fk_thr (by assumption)
    | exact fk_none
    | refine fk_gI (fun _ => ?_)
    | refine fk_gR (fun _ => ?_)
    | refine fk_gN (fun _ => ?_)
    | refine fk_gAI (fun _ => ?_)
    | refine fk_gAL (fun _ => ?_)
    | refine fk_gAN (fun _ => ?_)
    | refine fk_kif ?_ ?_
    | refine fk_nul ?_ (fun _ => ?_)
    | refine fk_may (fun _ => ?_)
    | refine fk_kdv ?_
    | refine fk_pI (by assumption) (by decide) (fun _ _ => ?_)
    | refine fk_pR (by assumption) (fun _ _ => ?_)
    | refine fk_pAI (by assumption) (by decide) (fun _ _ => ?_)
    | refine fk_pAZ (by assumption) (by decide) (fun _ _ => ?_)
    | refine fk_pAL (by assumption) (fun _ _ => ?_)
    | refine fk_pAN (by assumption) (fun _ _ => ?_)
    | refine fk_nw (by assumption) (by decide) (fun _ _ _ => ?_)
    | refine fk_nwM (by assumption) (fun _ _ _ => ?_))
theorem fk_X6_isOneTrip_b55  (s0 : Int32) (h : KH) : FW h (X6_isOneTrip_b55 s0 h) := by
  unfold X6_isOneTrip_b55
  have q0 : FK h h := FK.rf h
  repeat' with_reducible (first
    | exact fk_ret (by assumption)
    | exact fk_retZ (by assumption)
    | exact fk_retC (by assumption)
    | exact fk_thr (by assumption)
    | exact fk_none
    | refine fk_gI (fun _ => ?_)
    | refine fk_gR (fun _ => ?_)
    | refine fk_gN (fun _ => ?_)
    | refine fk_gAI (fun _ => ?_)
    | refine fk_gAL (fun _ => ?_)
    | refine fk_gAN (fun _ => ?_)
    | refine fk_kif ?_ ?_
    | refine fk_nul ?_ (fun _ => ?_)
    | refine fk_may (fun _ => ?_)
    | refine fk_kdv ?_
    | refine fk_pI (by assumption) (by decide) (fun _ _ => ?_)
    | refine fk_pR (by assumption) (fun _ _ => ?_)
    | refine fk_pAI (by assumption) (by decide) (fun _ _ => ?_)
    | refine fk_pAZ (by assumption) (by decide) (fun _ _ => ?_)
    | refine fk_pAL (by assumption) (fun _ _ => ?_)
    | refine fk_pAN (by assumption) (fun _ _ => ?_)
    | refine fk_nw (by assumption) (by decide) (fun _ _ _ => ?_)
    | refine fk_nwM (by assumption) (fun _ _ _ => ?_))
theorem fk_X6_isOneTrip_b54  (h : KH) : FW h (X6_isOneTrip_b54 h) := by
  unfold X6_isOneTrip_b54
  have q0 : FK h h := FK.rf h
  repeat' with_reducible (first
    | exact fk_ret (by assumption)
    | exact fk_retZ (by assumption)
    | exact fk_retC (by assumption)
    | exact fk_thr (by assumption)
    | exact fk_none
    | exact fk_go (fk_X6_isOneTrip_b55 _ _) (by assumption)
    | refine fk_gI (fun _ => ?_)
    | refine fk_gR (fun _ => ?_)
    | refine fk_gN (fun _ => ?_)
    | refine fk_gAI (fun _ => ?_)
    | refine fk_gAL (fun _ => ?_)
    | refine fk_gAN (fun _ => ?_)
    | refine fk_kif ?_ ?_
    | refine fk_nul ?_ (fun _ => ?_)
    | refine fk_may (fun _ => ?_)
    | refine fk_kdv ?_
    | refine fk_pI (by assumption) (by decide) (fun _ _ => ?_)
    | refine fk_pR (by assumption) (fun _ _ => ?_)
    | refine fk_pAI (by assumption) (by decide) (fun _ _ => ?_)
    | refine fk_pAZ (by assumption) (by decide) (fun _ _ => ?_)
    | refine fk_pAL (by assumption) (fun _ _ => ?_)
    | refine fk_pAN (by assumption) (fun _ _ => ?_)
    | refine fk_nw (by assumption) (by decide) (fun _ _ _ => ?_)
    | refine fk_nwM (by assumption) (fun _ _ _ => ?_)
    | refine fk_callV (fk_X6_isOneTrip_b55 _ _) (by assumption) (fun _ _ _ => ?_)
    | refine fk_bind (fk_X6_isOneTrip_b55 _ _) (by assumption) (fun _ _ _ => ?_)
    | refine fk_binI (fk_X6_isOneTrip_b55 _ _) (by assumption) (fun _ _ _ => ?_))
theorem fk_f_X6_isOneTrip  (p0 : Nat) (p1 : Nat) (p2 : Nat) (h : KH) : FW h (f_X6_isOneTrip p0 p1 p2 h) := by
  unfold f_X6_isOneTrip
  have q0 : FK h h := FK.rf h
  repeat' with_reducible (first
    | exact fk_ret (by assumption)
    | exact fk_retZ (by assumption)
    | exact fk_retC (by assumption)
    | exact fk_thr (by assumption)
    | exact fk_none
    | exact fk_go (fk_f_X6_between _ _ _ _) (by assumption)
    | exact fk_go (fk_X6_isOneTrip_b54 _) (by assumption)
    | exact fk_go (fk_X6_isOneTrip_b55 _ _) (by assumption)
    | refine fk_gI (fun _ => ?_)
    | refine fk_gR (fun _ => ?_)
    | refine fk_gN (fun _ => ?_)
    | refine fk_gAI (fun _ => ?_)
    | refine fk_gAL (fun _ => ?_)
    | refine fk_gAN (fun _ => ?_)
    | refine fk_kif ?_ ?_
    | refine fk_nul ?_ (fun _ => ?_)
    | refine fk_may (fun _ => ?_)
    | refine fk_kdv ?_
    | refine fk_pI (by assumption) (by decide) (fun _ _ => ?_)
    | refine fk_pR (by assumption) (fun _ _ => ?_)
    | refine fk_pAI (by assumption) (by decide) (fun _ _ => ?_)
    | refine fk_pAZ (by assumption) (by decide) (fun _ _ => ?_)
    | refine fk_pAL (by assumption) (fun _ _ => ?_)
    | refine fk_pAN (by assumption) (fun _ _ => ?_)
    | refine fk_nw (by assumption) (by decide) (fun _ _ _ => ?_)
    | refine fk_nwM (by assumption) (fun _ _ _ => ?_)
    | refine fk_callV (fk_f_X6_between _ _ _ _) (by assumption) (fun _ _ _ => ?_)
    | refine fk_bind (fk_f_X6_between _ _ _ _) (by assumption) (fun _ _ _ => ?_)
    | refine fk_binI (fk_f_X6_between _ _ _ _) (by assumption) (fun _ _ _ => ?_)
    | refine fk_callV (fk_X6_isOneTrip_b54 _) (by assumption) (fun _ _ _ => ?_)
    | refine fk_bind (fk_X6_isOneTrip_b54 _) (by assumption) (fun _ _ _ => ?_)
    | refine fk_binI (fk_X6_isOneTrip_b54 _) (by assumption) (fun _ _ _ => ?_)
    | refine fk_callV (fk_X6_isOneTrip_b55 _ _) (by assumption) (fun _ _ _ => ?_)
    | refine fk_bind (fk_X6_isOneTrip_b55 _ _) (by assumption) (fun _ _ _ => ?_)
    | refine fk_binI (fk_X6_isOneTrip_b55 _ _) (by assumption) (fun _ _ _ => ?_))
theorem fk_X3_seeBeginning_b44  (h : KH) : FW h (X3_seeBeginning_b44 h) := by
  unfold X3_seeBeginning_b44
  have q0 : FK h h := FK.rf h
  repeat' with_reducible (first
    | exact fk_ret (by assumption)
    | exact fk_retZ (by assumption)
    | exact fk_retC (by assumption)
    | exact fk_thr (by assumption)
    | exact fk_none
    | refine fk_gI (fun _ => ?_)
    | refine fk_gR (fun _ => ?_)
    | refine fk_gN (fun _ => ?_)
    | refine fk_gAI (fun _ => ?_)
    | refine fk_gAL (fun _ => ?_)
    | refine fk_gAN (fun _ => ?_)
    | refine fk_kif ?_ ?_
    | refine fk_nul ?_ (fun _ => ?_)
    | refine fk_may (fun _ => ?_)
    | refine fk_kdv ?_
    | refine fk_pI (by assumption) (by decide) (fun _ _ => ?_)
    | refine fk_pR (by assumption) (fun _ _ => ?_)
    | refine fk_pAI (by assumption) (by decide) (fun _ _ => ?_)
    | refine fk_pAZ (by assumption) (by decide) (fun _ _ => ?_)
    | refine fk_pAL (by assumption) (fun _ _ => ?_)
    | refine fk_pAN (by assumption) (fun _ _ => ?_)
    | refine fk_nw (by assumption) (by decide) (fun _ _ _ => ?_)
    | refine fk_nwM (by assumption) (fun _ _ _ => ?_))
theorem fk_X3_seeBeginning_b43  (s0 : Int32) (s1 : Int32) (s2 : Nat) (h : KH) : FW h (X3_seeBeginning_b43 s0 s1 s2 h) := by
  unfold X3_seeBeginning_b43
  have q0 : FK h h := FK.rf h
  repeat' with_reducible (first
    | exact fk_ret (by assumption)
    | exact fk_retZ (by assumption)
    | exact fk_retC (by assumption)
    | exact fk_thr (by assumption)
    | exact fk_none
    | exact fk_go (fk_X3_seeBeginning_b44 _) (by assumption)
    | refine fk_gI (fun _ => ?_)
    | refine fk_gR (fun _ => ?_)
    | refine fk_gN (fun _ => ?_)
    | refine fk_gAI (fun _ => ?_)
    | refine fk_gAL (fun _ => ?_)
    | refine fk_gAN (fun _ => ?_)
    | refine fk_kif ?_ ?_
    | refine fk_nul ?_ (fun _ => ?_)
    | refine fk_may (fun _ => ?_)
    | refine fk_kdv ?_
    | refine fk_pI (by assumption) (by decide) (fun _ _ => ?_)
    | refine fk_pR (by assumption) (fun _ _ => ?_)
    | refine fk_pAI (by assumption) (by decide) (fun _ _ => ?_)
    | refine fk_pAZ (by assumption) (by decide) (fun _ _ => ?_)
    | refine fk_pAL (by assumption) (fun _ _ => ?_)
    | refine fk_pAN (by assumption) (fun _ _ => ?_)
    | refine fk_nw (by assumption) (by decide) (fun _ _ _ => ?_)
    | refine fk_nwM (by assumption) (fun _ _ _ => ?_)
    | refine fk_callV (fk_X3_seeBeginning_b44 _) (by assumption) (fun _ _ _ => ?_)
    | refine fk_bind (fk_X3_seeBeginning_b44 _) (by assumption) (fun _ _ _ => ?_)
    | refine fk_binI (fk_X3_seeBeginning_b44 _) (by assumption) (fun _ _ _ => ?_))
theorem fk_X3_seeBeginning_b38  (s0 : Int32) (s1 : Nat) (h : KH) : FW h (X3_seeBeginning_b38 s0 s1 h) := by
  unfold X3_seeBeginning_b38
  have q0 : FK h h := FK.rf h
  repeat' with_reducible (first
    | exact fk_ret (by assumption)
    | exact fk_retZ (by assumption)
    | exact fk_retC (by assumption)
    | exact fk_thr (by assumption)
    | exact fk_none
    | exact fk_go (fk_X3_seeBeginning_b43 _ _ _ _) (by assumption)
    | refine fk_gI (fun _ => ?_)
    | refine fk_gR (fun _ => ?_)
    | refine fk_gN (fun _ => ?_)
    | refine fk_gAI (fun _ => ?_)
    | refine fk_gAL (fun _ => ?_)
    | refine fk_gAN (fun _ => ?_)
    | refine fk_kif ?_ ?_
    | refine fk_nul ?_ (fun _ => ?_)
    | refine fk_may (fun _ => ?_)
    | refine fk_kdv ?_
    | refine fk_pI (by assumption) (by decide) (fun _ _ => ?_)
    | refine fk_pR (by assumption) (fun _ _ => ?_)
    | refine fk_pAI (by assumption) (by decide) (fun _ _ => ?_)
    | refine fk_pAZ (by assumption) (by decide) (fun _ _ => ?_)
    | refine fk_pAL (by assumption) (fun _ _ => ?_)
    | refine fk_pAN (by assumption) (fun _ _ => ?_)
    | refine fk_nw (by assumption) (by decide) (fun _ _ _ => ?_)
    | refine fk_nwM (by assumption) (fun _ _ _ => ?_)
    | refine fk_callV (fk_X3_seeBeginning_b43 _ _ _ _) (by assumption) (fun _ _ _ => ?_)
    | refine fk_bind (fk_X3_seeBeginning_b43 _ _ _ _) (by assumption) (fun _ _ _ => ?_)
    | refine fk_binI (fk_X3_seeBeginning_b43 _ _ _ _) (by assumption) (fun _ _ _ => ?_))
theorem fk_f_X3_seeBeginning  (p0 : Nat) (p1 : Int32) (p2 : Nat) (h : KH) : FW h (f_X3_seeBeginning p0 p1 p2 h) := by
  unfold f_X3_seeBeginning
  have q0 : FK h h := FK.rf h
  repeat' with_reducible (first
    | exact fk_ret (by assumption)
    | exact fk_retZ (by assumption)
    | exact fk_retC (by assumption)
    | exact fk_thr (by assumption)
    | exact fk_none
    | exact fk_go (fk_X3_seeBeginning_b44 _) (by assumption)
    | exact fk_go (fk_X3_seeBeginning_b38 _ _ _) (by assumption)
    | exact fk_go (fk_f_X6_isOneTrip _ _ _ _) (by assumption)
    | exact fk_go (fk_X3_seeBeginning_b43 _ _ _ _) (by assumption)
    | refine fk_gI (fun _ => ?_)
    | refine fk_gR (fun _ => ?_)
    | refine fk_gN (fun _ => ?_)
    | refine fk_gAI (fun _ => ?_)
    | refine fk_gAL (fun _ => ?_)
    | refine fk_gAN (fun _ => ?_)
    | refine fk_kif ?_ ?_
    | refine fk_nul ?_ (fun _ => ?_)
    | refine fk_may (fun _ => ?_)
    | refine fk_kdv ?_
    | refine fk_pI (by assumption) (by decide) (fun _ _ => ?_)
    | refine fk_pR (by assumption) (fun _ _ => ?_)
    | refine fk_pAI (by assumption) (by decide) (fun _ _ => ?_)
    | refine fk_pAZ (by assumption) (by decide) (fun _ _ => ?_)
    | refine fk_pAL (by assumption) (fun _ _ => ?_)
    | refine fk_pAN (by assumption) (fun _ _ => ?_)
    | refine fk_nw (by assumption) (by decide) (fun _ _ _ => ?_)
    | refine fk_nwM (by assumption) (fun _ _ _ => ?_)
    | refine fk_callV (fk_X3_seeBeginning_b44 _) (by assumption) (fun _ _ _ => ?_)
    | refine fk_bind (fk_X3_seeBeginning_b44 _) (by assumption) (fun _ _ _ => ?_)
    | refine fk_binI (fk_X3_seeBeginning_b44 _) (by assumption) (fun _ _ _ => ?_)
    | refine fk_callV (fk_X3_seeBeginning_b38 _ _ _) (by assumption) (fun _ _ _ => ?_)
    | refine fk_bind (fk_X3_seeBeginning_b38 _ _ _) (by assumption) (fun _ _ _ => ?_)
    | refine fk_binI (fk_X3_seeBeginning_b38 _ _ _) (by assumption) (fun _ _ _ => ?_)
    | refine fk_callV (fk_f_X6_isOneTrip _ _ _ _) (by assumption) (fun _ _ _ => ?_)
    | refine fk_bind (fk_f_X6_isOneTrip _ _ _ _) (by assumption) (fun _ _ _ => ?_)
    | refine fk_binI (fk_f_X6_isOneTrip _ _ _ _) (by assumption) (fun _ _ _ => ?_)
    | refine fk_callV (fk_X3_seeBeginning_b43 _ _ _ _) (by assumption) (fun _ _ _ => ?_)
    | refine fk_bind (fk_X3_seeBeginning_b43 _ _ _ _) (by assumption) (fun _ _ _ => ?_)
    | refine fk_binI (fk_X3_seeBeginning_b43 _ _ _ _) (by assumption) (fun _ _ _ => ?_))
theorem fk_X3_joinAll_b2 (rc2 : Nat → Nat → Int32 → KH → KO Unit) (hr2 : ∀ (u0 : Nat) (u1 : Nat) (u2 : Int32) (u3 : KH), FW u3 (rc2 u0 u1 u2 u3)) (v0 : Nat) (v1 : Nat) (v2 : Int32) (h : KH) : FW h (X3_joinAll_b2 rc2 v0 v1 v2 h) := by
  unfold X3_joinAll_b2
  have q0 : FK h h := FK.rf h
  repeat' with_reducible (first
    | exact fk_ret (by assumption)
    | exact fk_retZ (by assumption)
    | exact fk_retC (by assumption)
    | exact fk_thr (by assumption)
    | exact fk_none
    | exact fk_go (hr2 _ _ _ _) (by assumption)
    | exact fk_go (fk_f_X3_seeBeginning _ _ _ _) (by assumption)
    | refine fk_gI (fun _ => ?_)
    | refine fk_gR (fun _ => ?_)
    | refine fk_gN (fun _ => ?_)
    | refine fk_gAI (fun _ => ?_)
    | refine fk_gAL (fun _ => ?_)
    | refine fk_gAN (fun _ => ?_)
    | refine fk_kif ?_ ?_
    | refine fk_nul ?_ (fun _ => ?_)
    | refine fk_may (fun _ => ?_)
    | refine fk_kdv ?_
    | refine fk_pI (by assumption) (by decide) (fun _ _ => ?_)
    | refine fk_pR (by assumption) (fun _ _ => ?_)
    | refine fk_pAI (by assumption) (by decide) (fun _ _ => ?_)
    | refine fk_pAZ (by assumption) (by decide) (fun _ _ => ?_)
    | refine fk_pAL (by assumption) (fun _ _ => ?_)
    | refine fk_pAN (by assumption) (fun _ _ => ?_)
    | refine fk_nw (by assumption) (by decide) (fun _ _ _ => ?_)
    | refine fk_nwM (by assumption) (fun _ _ _ => ?_)
    | refine fk_callV (hr2 _ _ _ _) (by assumption) (fun _ _ _ => ?_)
    | refine fk_bind (hr2 _ _ _ _) (by assumption) (fun _ _ _ => ?_)
    | refine fk_binI (hr2 _ _ _ _) (by assumption) (fun _ _ _ => ?_)
    | refine fk_callV (fk_f_X3_seeBeginning _ _ _ _) (by assumption) (fun _ _ _ => ?_)
    | refine fk_bind (fk_f_X3_seeBeginning _ _ _ _) (by assumption) (fun _ _ _ => ?_)
    | refine fk_binI (fk_f_X3_seeBeginning _ _ _ _) (by assumption) (fun _ _ _ => ?_))
theorem fk_X3_joinAll_L2  : ∀ (m : Nat) (u0 : Nat) (u1 : Nat) (u2 : Int32) (u3 : KH), FW u3 (X3_joinAll_L2  m u0 u1 u2 u3) := by
  intro m
  induction m with
  | zero => intro u0 u1 u2 u3; exact fk_none
  | succ m ih => intro u0 u1 u2 u3; exact fk_X3_joinAll_b2 (X3_joinAll_L2  m) ih u0 u1 u2 u3
theorem fk_f_X3_joinAll  (p0 : Nat) (p1 : Nat) (h : KH) : FW h (f_X3_joinAll p0 p1 h) := by
  unfold f_X3_joinAll
  have q0 : FK h h := FK.rf h
  repeat' with_reducible (first
    | exact fk_ret (by assumption)
    | exact fk_retZ (by assumption)
    | exact fk_retC (by assumption)
    | exact fk_thr (by assumption)
    | exact fk_none
    | exact fk_go (fk_X3_joinAll_L2 _ _ _ _ _) (by assumption)
    | refine fk_gI (fun _ => ?_)
    | refine fk_gR (fun _ => ?_)
    | refine fk_gN (fun _ => ?_)
    | refine fk_gAI (fun _ => ?_)
    | refine fk_gAL (fun _ => ?_)
    | refine fk_gAN (fun _ => ?_)
    | refine fk_kif ?_ ?_
    | refine fk_nul ?_ (fun _ => ?_)
    | refine fk_may (fun _ => ?_)
    | refine fk_kdv ?_
    | refine fk_pI (by assumption) (by decide) (fun _ _ => ?_)
    | refine fk_pR (by assumption) (fun _ _ => ?_)
    | refine fk_pAI (by assumption) (by decide) (fun _ _ => ?_)
    | refine fk_pAZ (by assumption) (by decide) (fun _ _ => ?_)
    | refine fk_pAL (by assumption) (fun _ _ => ?_)
    | refine fk_pAN (by assumption) (fun _ _ => ?_)
    | refine fk_nw (by assumption) (by decide) (fun _ _ _ => ?_)
    | refine fk_nwM (by assumption) (fun _ _ _ => ?_)
    | refine fk_callV (fk_X3_joinAll_L2 _ _ _ _ _) (by assumption) (fun _ _ _ => ?_)
    | refine fk_bind (fk_X3_joinAll_L2 _ _ _ _ _) (by assumption) (fun _ _ _ => ?_)
    | refine fk_binI (fk_X3_joinAll_L2 _ _ _ _ _) (by assumption) (fun _ _ _ => ?_))
theorem fk_X9_joinAllAgain_b2 (rc2 : Nat → Int32 → KH → KO Unit) (hr2 : ∀ (u0 : Nat) (u1 : Int32) (u2 : KH), FW u2 (rc2 u0 u1 u2)) (v0 : Nat) (v1 : Int32) (h : KH) : FW h (X9_joinAllAgain_b2 rc2 v0 v1 h) := by
  unfold X9_joinAllAgain_b2
  have q0 : FK h h := FK.rf h
  repeat' with_reducible (first
    | exact fk_ret (by assumption)
    | exact fk_retZ (by assumption)
    | exact fk_retC (by assumption)
    | exact fk_thr (by assumption)
    | exact fk_none
    | exact fk_go (hr2 _ _ _) (by assumption)
    | exact fk_go (fk_f_X3_joinAll _ _ _) (by assumption)
    | refine fk_gI (fun _ => ?_)
    | refine fk_gR (fun _ => ?_)
    | refine fk_gN (fun _ => ?_)
    | refine fk_gAI (fun _ => ?_)
    | refine fk_gAL (fun _ => ?_)
    | refine fk_gAN (fun _ => ?_)
    | refine fk_kif ?_ ?_
    | refine fk_nul ?_ (fun _ => ?_)
    | refine fk_may (fun _ => ?_)
    | refine fk_kdv ?_
    | refine fk_pI (by assumption) (by decide) (fun _ _ => ?_)
    | refine fk_pR (by assumption) (fun _ _ => ?_)
    | refine fk_pAI (by assumption) (by decide) (fun _ _ => ?_)
    | refine fk_pAZ (by assumption) (by decide) (fun _ _ => ?_)
    | refine fk_pAL (by assumption) (fun _ _ => ?_)
    | refine fk_pAN (by assumption) (fun _ _ => ?_)
    | refine fk_nw (by assumption) (by decide) (fun _ _ _ => ?_)
    | refine fk_nwM (by assumption) (fun _ _ _ => ?_)
    | refine fk_callV (hr2 _ _ _) (by assumption) (fun _ _ _ => ?_)
    | refine fk_bind (hr2 _ _ _) (by assumption) (fun _ _ _ => ?_)
    | refine fk_binI (hr2 _ _ _) (by assumption) (fun _ _ _ => ?_)
    | refine fk_callV (fk_f_X3_joinAll _ _ _) (by assumption) (fun _ _ _ => ?_)
    | refine fk_bind (fk_f_X3_joinAll _ _ _) (by assumption) (fun _ _ _ => ?_)
    | refine fk_binI (fk_f_X3_joinAll _ _ _) (by assumption) (fun _ _ _ => ?_))
theorem fk_X9_joinAllAgain_L2  : ∀ (m : Nat) (u0 : Nat) (u1 : Int32) (u2 : KH), FW u2 (X9_joinAllAgain_L2  m u0 u1 u2) := by
  intro m
  induction m with
  | zero => intro u0 u1 u2; exact fk_none
  | succ m ih => intro u0 u1 u2; exact fk_X9_joinAllAgain_b2 (X9_joinAllAgain_L2  m) ih u0 u1 u2
theorem fk_f_X9_joinAllAgain  (p0 : Nat) (h : KH) : FW h (f_X9_joinAllAgain p0 h) := by
  unfold f_X9_joinAllAgain
  have q0 : FK h h := FK.rf h
  repeat' with_reducible (first
    | exact fk_ret (by assumption)
    | exact fk_retZ (by assumption)
    | exact fk_retC (by assumption)
    | exact fk_thr (by assumption)
    | exact fk_none
    | exact fk_go (fk_X9_joinAllAgain_L2 _ _ _ _) (by assumption)
    | refine fk_gI (fun _ => ?_)
    | refine fk_gR (fun _ => ?_)
    | refine fk_gN (fun _ => ?_)
    | refine fk_gAI (fun _ => ?_)
    | refine fk_gAL (fun _ => ?_)
    | refine fk_gAN (fun _ => ?_)
    | refine fk_kif ?_ ?_
    | refine fk_nul ?_ (fun _ => ?_)
    | refine fk_may (fun _ => ?_)
    | refine fk_kdv ?_
    | refine fk_pI (by assumption) (by decide) (fun _ _ => ?_)
    | refine fk_pR (by assumption) (fun _ _ => ?_)
    | refine fk_pAI (by assumption) (by decide) (fun _ _ => ?_)
    | refine fk_pAZ (by assumption) (by decide) (fun _ _ => ?_)
    | refine fk_pAL (by assumption) (fun _ _ => ?_)
    | refine fk_pAN (by assumption) (fun _ _ => ?_)
    | refine fk_nw (by assumption) (by decide) (fun _ _ _ => ?_)
    | refine fk_nwM (by assumption) (fun _ _ _ => ?_)
    | refine fk_callV (fk_X9_joinAllAgain_L2 _ _ _ _) (by assumption) (fun _ _ _ => ?_)
    | refine fk_bind (fk_X9_joinAllAgain_L2 _ _ _ _) (by assumption) (fun _ _ _ => ?_)
    | refine fk_binI (fk_X9_joinAllAgain_L2 _ _ _ _) (by assumption) (fun _ _ _ => ?_))
theorem fk_X9_road_b24  (h : KH) : FW h (X9_road_b24 h) := by
  unfold X9_road_b24
  have q0 : FK h h := FK.rf h
  repeat' with_reducible (first
    | exact fk_ret (by assumption)
    | exact fk_retZ (by assumption)
    | exact fk_retC (by assumption)
    | exact fk_thr (by assumption)
    | exact fk_none
    | refine fk_gI (fun _ => ?_)
    | refine fk_gR (fun _ => ?_)
    | refine fk_gN (fun _ => ?_)
    | refine fk_gAI (fun _ => ?_)
    | refine fk_gAL (fun _ => ?_)
    | refine fk_gAN (fun _ => ?_)
    | refine fk_kif ?_ ?_
    | refine fk_nul ?_ (fun _ => ?_)
    | refine fk_may (fun _ => ?_)
    | refine fk_kdv ?_
    | refine fk_pI (by assumption) (by decide) (fun _ _ => ?_)
    | refine fk_pR (by assumption) (fun _ _ => ?_)
    | refine fk_pAI (by assumption) (by decide) (fun _ _ => ?_)
    | refine fk_pAZ (by assumption) (by decide) (fun _ _ => ?_)
    | refine fk_pAL (by assumption) (fun _ _ => ?_)
    | refine fk_pAN (by assumption) (fun _ _ => ?_)
    | refine fk_nw (by assumption) (by decide) (fun _ _ _ => ?_)
    | refine fk_nwM (by assumption) (fun _ _ _ => ?_))
theorem fk_f_X9_road  (p0 : Nat) (p1 : Int32) (p2 : Int32) (p3 : Int32) (h : KH) : FW h (f_X9_road p0 p1 p2 p3 h) := by
  unfold f_X9_road
  have q0 : FK h h := FK.rf h
  repeat' with_reducible (first
    | exact fk_ret (by assumption)
    | exact fk_retZ (by assumption)
    | exact fk_retC (by assumption)
    | exact fk_thr (by assumption)
    | exact fk_none
    | exact fk_go (fk_f_X9_requireGate _ _) (by assumption)
    | exact fk_go (fk_X9_road_b24 _) (by assumption)
    | exact fk_go (fk_f_X9_isWithin _ _ _ _) (by assumption)
    | exact fk_go (fk_f_X6_lengthOf _ _ _ _) (by assumption)
    | exact fk_go (fk_f_X6_build _ _ _ _ _) (by assumption)
    | exact fk_go (fk_f_X9_joinAllAgain _ _) (by assumption)
    | refine fk_gI (fun _ => ?_)
    | refine fk_gR (fun _ => ?_)
    | refine fk_gN (fun _ => ?_)
    | refine fk_gAI (fun _ => ?_)
    | refine fk_gAL (fun _ => ?_)
    | refine fk_gAN (fun _ => ?_)
    | refine fk_kif ?_ ?_
    | refine fk_nul ?_ (fun _ => ?_)
    | refine fk_may (fun _ => ?_)
    | refine fk_kdv ?_
    | refine fk_pI (by assumption) (by decide) (fun _ _ => ?_)
    | refine fk_pR (by assumption) (fun _ _ => ?_)
    | refine fk_pAI (by assumption) (by decide) (fun _ _ => ?_)
    | refine fk_pAZ (by assumption) (by decide) (fun _ _ => ?_)
    | refine fk_pAL (by assumption) (fun _ _ => ?_)
    | refine fk_pAN (by assumption) (fun _ _ => ?_)
    | refine fk_nw (by assumption) (by decide) (fun _ _ _ => ?_)
    | refine fk_nwM (by assumption) (fun _ _ _ => ?_)
    | refine fk_callV (fk_f_X9_requireGate _ _) (by assumption) (fun _ _ _ => ?_)
    | refine fk_bind (fk_f_X9_requireGate _ _) (by assumption) (fun _ _ _ => ?_)
    | refine fk_binI (fk_f_X9_requireGate _ _) (by assumption) (fun _ _ _ => ?_)
    | refine fk_callV (fk_X9_road_b24 _) (by assumption) (fun _ _ _ => ?_)
    | refine fk_bind (fk_X9_road_b24 _) (by assumption) (fun _ _ _ => ?_)
    | refine fk_binI (fk_X9_road_b24 _) (by assumption) (fun _ _ _ => ?_)
    | refine fk_callV (fk_f_X9_isWithin _ _ _ _) (by assumption) (fun _ _ _ => ?_)
    | refine fk_bind (fk_f_X9_isWithin _ _ _ _) (by assumption) (fun _ _ _ => ?_)
    | refine fk_binI (fk_f_X9_isWithin _ _ _ _) (by assumption) (fun _ _ _ => ?_)
    | refine fk_callV (fk_f_X6_lengthOf _ _ _ _) (by assumption) (fun _ _ _ => ?_)
    | refine fk_bind (fk_f_X6_lengthOf _ _ _ _) (by assumption) (fun _ _ _ => ?_)
    | refine fk_binI (fk_f_X6_lengthOf _ _ _ _) (by assumption) (fun _ _ _ => ?_)
    | refine fk_callV (fk_f_X6_build _ _ _ _ _) (by assumption) (fun _ _ _ => ?_)
    | refine fk_bind (fk_f_X6_build _ _ _ _ _) (by assumption) (fun _ _ _ => ?_)
    | refine fk_binI (fk_f_X6_build _ _ _ _ _) (by assumption) (fun _ _ _ => ?_)
    | refine fk_callV (fk_f_X9_joinAllAgain _ _) (by assumption) (fun _ _ _ => ?_)
    | refine fk_bind (fk_f_X9_joinAllAgain _ _) (by assumption) (fun _ _ _ => ?_)
    | refine fk_binI (fk_f_X9_joinAllAgain _ _) (by assumption) (fun _ _ _ => ?_))
theorem fk_f_X9_distance  (p0 : Nat) (p1 : Int32) (p2 : Int32) (h : KH) : FW h (f_X9_distance p0 p1 p2 h) := by
  unfold f_X9_distance
  have q0 : FK h h := FK.rf h
  repeat' with_reducible (first
    | exact fk_ret (by assumption)
    | exact fk_retZ (by assumption)
    | exact fk_retC (by assumption)
    | exact fk_thr (by assumption)
    | exact fk_none
    | exact fk_go (fk_f_X9_requireGate _ _) (by assumption)
    | exact fk_go (fk_f_X6_between _ _ _ _) (by assumption)
    | refine fk_gI (fun _ => ?_)
    | refine fk_gR (fun _ => ?_)
    | refine fk_gN (fun _ => ?_)
    | refine fk_gAI (fun _ => ?_)
    | refine fk_gAL (fun _ => ?_)
    | refine fk_gAN (fun _ => ?_)
    | refine fk_kif ?_ ?_
    | refine fk_nul ?_ (fun _ => ?_)
    | refine fk_may (fun _ => ?_)
    | refine fk_kdv ?_
    | refine fk_pI (by assumption) (by decide) (fun _ _ => ?_)
    | refine fk_pR (by assumption) (fun _ _ => ?_)
    | refine fk_pAI (by assumption) (by decide) (fun _ _ => ?_)
    | refine fk_pAZ (by assumption) (by decide) (fun _ _ => ?_)
    | refine fk_pAL (by assumption) (fun _ _ => ?_)
    | refine fk_pAN (by assumption) (fun _ _ => ?_)
    | refine fk_nw (by assumption) (by decide) (fun _ _ _ => ?_)
    | refine fk_nwM (by assumption) (fun _ _ _ => ?_)
    | refine fk_callV (fk_f_X9_requireGate _ _) (by assumption) (fun _ _ _ => ?_)
    | refine fk_bind (fk_f_X9_requireGate _ _) (by assumption) (fun _ _ _ => ?_)
    | refine fk_binI (fk_f_X9_requireGate _ _) (by assumption) (fun _ _ _ => ?_)
    | refine fk_callV (fk_f_X6_between _ _ _ _) (by assumption) (fun _ _ _ => ?_)
    | refine fk_bind (fk_f_X6_between _ _ _ _) (by assumption) (fun _ _ _ => ?_)
    | refine fk_binI (fk_f_X6_between _ _ _ _) (by assumption) (fun _ _ _ => ?_))
theorem fk_f_X9_setPause  (p0 : Nat) (p1 : Int32) (h : KH) : FW h (f_X9_setPause p0 p1 h) := by
  unfold f_X9_setPause
  have q0 : FK h h := FK.rf h
  repeat' with_reducible (first
    | exact fk_ret (by assumption)
    | exact fk_retZ (by assumption)
    | exact fk_retC (by assumption)
    | exact fk_thr (by assumption)
    | exact fk_none
    | exact fk_go (fk_f_X9_isWithin _ _ _ _) (by assumption)
    | exact fk_go (fk_f_X9_joinAllAgain _ _) (by assumption)
    | refine fk_gI (fun _ => ?_)
    | refine fk_gR (fun _ => ?_)
    | refine fk_gN (fun _ => ?_)
    | refine fk_gAI (fun _ => ?_)
    | refine fk_gAL (fun _ => ?_)
    | refine fk_gAN (fun _ => ?_)
    | refine fk_kif ?_ ?_
    | refine fk_nul ?_ (fun _ => ?_)
    | refine fk_may (fun _ => ?_)
    | refine fk_kdv ?_
    | refine fk_pI (by assumption) (by decide) (fun _ _ => ?_)
    | refine fk_pR (by assumption) (fun _ _ => ?_)
    | refine fk_pAI (by assumption) (by decide) (fun _ _ => ?_)
    | refine fk_pAZ (by assumption) (by decide) (fun _ _ => ?_)
    | refine fk_pAL (by assumption) (fun _ _ => ?_)
    | refine fk_pAN (by assumption) (fun _ _ => ?_)
    | refine fk_nw (by assumption) (by decide) (fun _ _ _ => ?_)
    | refine fk_nwM (by assumption) (fun _ _ _ => ?_)
    | refine fk_callV (fk_f_X9_isWithin _ _ _ _) (by assumption) (fun _ _ _ => ?_)
    | refine fk_bind (fk_f_X9_isWithin _ _ _ _) (by assumption) (fun _ _ _ => ?_)
    | refine fk_binI (fk_f_X9_isWithin _ _ _ _) (by assumption) (fun _ _ _ => ?_)
    | refine fk_callV (fk_f_X9_joinAllAgain _ _) (by assumption) (fun _ _ _ => ?_)
    | refine fk_bind (fk_f_X9_joinAllAgain _ _) (by assumption) (fun _ _ _ => ?_)
    | refine fk_binI (fk_f_X9_joinAllAgain _ _) (by assumption) (fun _ _ _ => ?_))
theorem fk_f_X9_requireClass  (p0 : Int32) (h : KH) : FW h (f_X9_requireClass p0 h) := by
  unfold f_X9_requireClass
  have q0 : FK h h := FK.rf h
  repeat' with_reducible (first
    | exact fk_ret (by assumption)
    | exact fk_retZ (by assumption)
    | exact fk_retC (by assumption)
    | exact fk_thr (by assumption)
    | exact fk_none
    | exact fk_go (fk_f_X9_isWithin _ _ _ _) (by assumption)
    | refine fk_gI (fun _ => ?_)
    | refine fk_gR (fun _ => ?_)
    | refine fk_gN (fun _ => ?_)
    | refine fk_gAI (fun _ => ?_)
    | refine fk_gAL (fun _ => ?_)
    | refine fk_gAN (fun _ => ?_)
    | refine fk_kif ?_ ?_
    | refine fk_nul ?_ (fun _ => ?_)
    | refine fk_may (fun _ => ?_)
    | refine fk_kdv ?_
    | refine fk_pI (by assumption) (by decide) (fun _ _ => ?_)
    | refine fk_pR (by assumption) (fun _ _ => ?_)
    | refine fk_pAI (by assumption) (by decide) (fun _ _ => ?_)
    | refine fk_pAZ (by assumption) (by decide) (fun _ _ => ?_)
    | refine fk_pAL (by assumption) (fun _ _ => ?_)
    | refine fk_pAN (by assumption) (fun _ _ => ?_)
    | refine fk_nw (by assumption) (by decide) (fun _ _ _ => ?_)
    | refine fk_nwM (by assumption) (fun _ _ _ => ?_)
    | refine fk_callV (fk_f_X9_isWithin _ _ _ _) (by assumption) (fun _ _ _ => ?_)
    | refine fk_bind (fk_f_X9_isWithin _ _ _ _) (by assumption) (fun _ _ _ => ?_)
    | refine fk_binI (fk_f_X9_isWithin _ _ _ _) (by assumption) (fun _ _ _ => ?_))
theorem fk_f_X9_setRate  (p0 : Nat) (p1 : Int32) (p2 : Int32) (h : KH) : FW h (f_X9_setRate p0 p1 p2 h) := by
  unfold f_X9_setRate
  have q0 : FK h h := FK.rf h
  repeat' with_reducible (first
    | exact fk_ret (by assumption)
    | exact fk_retZ (by assumption)
    | exact fk_retC (by assumption)
    | exact fk_thr (by assumption)
    | exact fk_none
    | exact fk_go (fk_f_X9_requireClass _ _) (by assumption)
    | exact fk_go (fk_f_X9_isWithin _ _ _ _) (by assumption)
    | refine fk_gI (fun _ => ?_)
    | refine fk_gR (fun _ => ?_)
    | refine fk_gN (fun _ => ?_)
    | refine fk_gAI (fun _ => ?_)
    | refine fk_gAL (fun _ => ?_)
    | refine fk_gAN (fun _ => ?_)
    | refine fk_kif ?_ ?_
    | refine fk_nul ?_ (fun _ => ?_)
    | refine fk_may (fun _ => ?_)
    | refine fk_kdv ?_
    | refine fk_pI (by assumption) (by decide) (fun _ _ => ?_)
    | refine fk_pR (by assumption) (fun _ _ => ?_)
    | refine fk_pAI (by assumption) (by decide) (fun _ _ => ?_)
    | refine fk_pAZ (by assumption) (by decide) (fun _ _ => ?_)
    | refine fk_pAL (by assumption) (fun _ _ => ?_)
    | refine fk_pAN (by assumption) (fun _ _ => ?_)
    | refine fk_nw (by assumption) (by decide) (fun _ _ _ => ?_)
    | refine fk_nwM (by assumption) (fun _ _ _ => ?_)
    | refine fk_callV (fk_f_X9_requireClass _ _) (by assumption) (fun _ _ _ => ?_)
    | refine fk_bind (fk_f_X9_requireClass _ _) (by assumption) (fun _ _ _ => ?_)
    | refine fk_binI (fk_f_X9_requireClass _ _) (by assumption) (fun _ _ _ => ?_)
    | refine fk_callV (fk_f_X9_isWithin _ _ _ _) (by assumption) (fun _ _ _ => ?_)
    | refine fk_bind (fk_f_X9_isWithin _ _ _ _) (by assumption) (fun _ _ _ => ?_)
    | refine fk_binI (fk_f_X9_isWithin _ _ _ _) (by assumption) (fun _ _ _ => ?_))
theorem fk_f_X9_requireSign  (p0 : Int32) (h : KH) : FW h (f_X9_requireSign p0 h) := by
  unfold f_X9_requireSign
  have q0 : FK h h := FK.rf h
  repeat' with_reducible (first
    | exact fk_ret (by assumption)
    | exact fk_retZ (by assumption)
    | exact fk_retC (by assumption)
    | exact fk_thr (by assumption)
    | exact fk_none
    | exact fk_go (fk_f_X9_isWithin _ _ _ _) (by assumption)
    | refine fk_gI (fun _ => ?_)
    | refine fk_gR (fun _ => ?_)
    | refine fk_gN (fun _ => ?_)
    | refine fk_gAI (fun _ => ?_)
    | refine fk_gAL (fun _ => ?_)
    | refine fk_gAN (fun _ => ?_)
    | refine fk_kif ?_ ?_
    | refine fk_nul ?_ (fun _ => ?_)
    | refine fk_may (fun _ => ?_)
    | refine fk_kdv ?_
    | refine fk_pI (by assumption) (by decide) (fun _ _ => ?_)
    | refine fk_pR (by assumption) (fun _ _ => ?_)
    | refine fk_pAI (by assumption) (by decide) (fun _ _ => ?_)
    | refine fk_pAZ (by assumption) (by decide) (fun _ _ => ?_)
    | refine fk_pAL (by assumption) (fun _ _ => ?_)
    | refine fk_pAN (by assumption) (fun _ _ => ?_)
    | refine fk_nw (by assumption) (by decide) (fun _ _ _ => ?_)
    | refine fk_nwM (by assumption) (fun _ _ _ => ?_)
    | refine fk_callV (fk_f_X9_isWithin _ _ _ _) (by assumption) (fun _ _ _ => ?_)
    | refine fk_bind (fk_f_X9_isWithin _ _ _ _) (by assumption) (fun _ _ _ => ?_)
    | refine fk_binI (fk_f_X9_isWithin _ _ _ _) (by assumption) (fun _ _ _ => ?_))
theorem fk_f_X9_requireRoomForSign  (p0 : Nat) (h : KH) : FW h (f_X9_requireRoomForSign p0 h) := by
  unfold f_X9_requireRoomForSign
  have q0 : FK h h := FK.rf h
  repeat' with_reducible (first
    | exact fk_ret (by assumption)
    | exact fk_retZ (by assumption)
    | exact fk_retC (by assumption)
    | exact fk_thr (by assumption)
    | exact fk_none
    | refine fk_gI (fun _ => ?_)
    | refine fk_gR (fun _ => ?_)
    | refine fk_gN (fun _ => ?_)
    | refine fk_gAI (fun _ => ?_)
    | refine fk_gAL (fun _ => ?_)
    | refine fk_gAN (fun _ => ?_)
    | refine fk_kif ?_ ?_
    | refine fk_nul ?_ (fun _ => ?_)
    | refine fk_may (fun _ => ?_)
    | refine fk_kdv ?_
    | refine fk_pI (by assumption) (by decide) (fun _ _ => ?_)
    | refine fk_pR (by assumption) (fun _ _ => ?_)
    | refine fk_pAI (by assumption) (by decide) (fun _ _ => ?_)
    | refine fk_pAZ (by assumption) (by decide) (fun _ _ => ?_)
    | refine fk_pAL (by assumption) (fun _ _ => ?_)
    | refine fk_pAN (by assumption) (fun _ _ => ?_)
    | refine fk_nw (by assumption) (by decide) (fun _ _ _ => ?_)
    | refine fk_nwM (by assumption) (fun _ _ _ => ?_))
theorem fk_X7_put_b5 (rc5 : Nat → Int32 → Int32 → Int32 → KH → KO Unit) (hr5 : ∀ (u0 : Nat) (u1 : Int32) (u2 : Int32) (u3 : Int32) (u4 : KH), FW u4 (rc5 u0 u1 u2 u3 u4)) (v0 : Nat) (v1 : Int32) (v2 : Int32) (v3 : Int32) (h : KH) : FW h (X7_put_b5 rc5 v0 v1 v2 v3 h) := by
  unfold X7_put_b5
  have q0 : FK h h := FK.rf h
  repeat' with_reducible (first
    | exact fk_ret (by assumption)
    | exact fk_retZ (by assumption)
    | exact fk_retC (by assumption)
    | exact fk_thr (by assumption)
    | exact fk_none
    | exact fk_go (hr5 _ _ _ _ _) (by assumption)
    | refine fk_gI (fun _ => ?_)
    | refine fk_gR (fun _ => ?_)
    | refine fk_gN (fun _ => ?_)
    | refine fk_gAI (fun _ => ?_)
    | refine fk_gAL (fun _ => ?_)
    | refine fk_gAN (fun _ => ?_)
    | refine fk_kif ?_ ?_
    | refine fk_nul ?_ (fun _ => ?_)
    | refine fk_may (fun _ => ?_)
    | refine fk_kdv ?_
    | refine fk_pI (by assumption) (by decide) (fun _ _ => ?_)
    | refine fk_pR (by assumption) (fun _ _ => ?_)
    | refine fk_pAI (by assumption) (by decide) (fun _ _ => ?_)
    | refine fk_pAZ (by assumption) (by decide) (fun _ _ => ?_)
    | refine fk_pAL (by assumption) (fun _ _ => ?_)
    | refine fk_pAN (by assumption) (fun _ _ => ?_)
    | refine fk_nw (by assumption) (by decide) (fun _ _ _ => ?_)
    | refine fk_nwM (by assumption) (fun _ _ _ => ?_)
    | refine fk_callV (hr5 _ _ _ _ _) (by assumption) (fun _ _ _ => ?_)
    | refine fk_bind (hr5 _ _ _ _ _) (by assumption) (fun _ _ _ => ?_)
    | refine fk_binI (hr5 _ _ _ _ _) (by assumption) (fun _ _ _ => ?_))
theorem fk_X7_put_L5  : ∀ (m : Nat) (u0 : Nat) (u1 : Int32) (u2 : Int32) (u3 : Int32) (u4 : KH), FW u4 (X7_put_L5  m u0 u1 u2 u3 u4) := by
  intro m
  induction m with
  | zero => intro u0 u1 u2 u3 u4; exact fk_none
  | succ m ih => intro u0 u1 u2 u3 u4; exact fk_X7_put_b5 (X7_put_L5  m) ih u0 u1 u2 u3 u4
theorem fk_f_X7_put  (p0 : Nat) (p1 : Int32) (p2 : Int32) (h : KH) : FW h (f_X7_put p0 p1 p2 h) := by
  unfold f_X7_put
  have q0 : FK h h := FK.rf h
  repeat' with_reducible (first
    | exact fk_ret (by assumption)
    | exact fk_retZ (by assumption)
    | exact fk_retC (by assumption)
    | exact fk_thr (by assumption)
    | exact fk_none
    | exact fk_go (fk_X7_put_L5 _ _ _ _ _ _) (by assumption)
    | refine fk_gI (fun _ => ?_)
    | refine fk_gR (fun _ => ?_)
    | refine fk_gN (fun _ => ?_)
    | refine fk_gAI (fun _ => ?_)
    | refine fk_gAL (fun _ => ?_)
    | refine fk_gAN (fun _ => ?_)
    | refine fk_kif ?_ ?_
    | refine fk_nul ?_ (fun _ => ?_)
    | refine fk_may (fun _ => ?_)
    | refine fk_kdv ?_
    | refine fk_pI (by assumption) (by decide) (fun _ _ => ?_)
    | refine fk_pR (by assumption) (fun _ _ => ?_)
    | refine fk_pAI (by assumption) (by decide) (fun _ _ => ?_)
    | refine fk_pAZ (by assumption) (by decide) (fun _ _ => ?_)
    | refine fk_pAL (by assumption) (fun _ _ => ?_)
    | refine fk_pAN (by assumption) (fun _ _ => ?_)
    | refine fk_nw (by assumption) (by decide) (fun _ _ _ => ?_)
    | refine fk_nwM (by assumption) (fun _ _ _ => ?_)
    | refine fk_callV (fk_X7_put_L5 _ _ _ _ _ _) (by assumption) (fun _ _ _ => ?_)
    | refine fk_bind (fk_X7_put_L5 _ _ _ _ _ _) (by assumption) (fun _ _ _ => ?_)
    | refine fk_binI (fk_X7_put_L5 _ _ _ _ _ _) (by assumption) (fun _ _ _ => ?_))
theorem fk_X7_isPair_b17  (s0 : Int32) (h : KH) : FW h (X7_isPair_b17 s0 h) := by
  unfold X7_isPair_b17
  have q0 : FK h h := FK.rf h
  repeat' with_reducible (first
    | exact fk_ret (by assumption)
    | exact fk_retZ (by assumption)
    | exact fk_retC (by assumption)
    | exact fk_thr (by assumption)
    | exact fk_none
    | refine fk_gI (fun _ => ?_)
    | refine fk_gR (fun _ => ?_)
    | refine fk_gN (fun _ => ?_)
    | refine fk_gAI (fun _ => ?_)
    | refine fk_gAL (fun _ => ?_)
    | refine fk_gAN (fun _ => ?_)
    | refine fk_kif ?_ ?_
    | refine fk_nul ?_ (fun _ => ?_)
    | refine fk_may (fun _ => ?_)
    | refine fk_kdv ?_
    | refine fk_pI (by assumption) (by decide) (fun _ _ => ?_)
    | refine fk_pR (by assumption) (fun _ _ => ?_)
    | refine fk_pAI (by assumption) (by decide) (fun _ _ => ?_)
    | refine fk_pAZ (by assumption) (by decide) (fun _ _ => ?_)
    | refine fk_pAL (by assumption) (fun _ _ => ?_)
    | refine fk_pAN (by assumption) (fun _ _ => ?_)
    | refine fk_nw (by assumption) (by decide) (fun _ _ _ => ?_)
    | refine fk_nwM (by assumption) (fun _ _ _ => ?_))
theorem fk_X7_isPair_b16  (h : KH) : FW h (X7_isPair_b16 h) := by
  unfold X7_isPair_b16
  have q0 : FK h h := FK.rf h
  repeat' with_reducible (first
    | exact fk_ret (by assumption)
    | exact fk_retZ (by assumption)
    | exact fk_retC (by assumption)
    | exact fk_thr (by assumption)
    | exact fk_none
    | exact fk_go (fk_X7_isPair_b17 _ _) (by assumption)
    | refine fk_gI (fun _ => ?_)
    | refine fk_gR (fun _ => ?_)
    | refine fk_gN (fun _ => ?_)
    | refine fk_gAI (fun _ => ?_)
    | refine fk_gAL (fun _ => ?_)
    | refine fk_gAN (fun _ => ?_)
    | refine fk_kif ?_ ?_
    | refine fk_nul ?_ (fun _ => ?_)
    | refine fk_may (fun _ => ?_)
    | refine fk_kdv ?_
    | refine fk_pI (by assumption) (by decide) (fun _ _ => ?_)
    | refine fk_pR (by assumption) (fun _ _ => ?_)
    | refine fk_pAI (by assumption) (by decide) (fun _ _ => ?_)
    | refine fk_pAZ (by assumption) (by decide) (fun _ _ => ?_)
    | refine fk_pAL (by assumption) (fun _ _ => ?_)
    | refine fk_pAN (by assumption) (fun _ _ => ?_)
    | refine fk_nw (by assumption) (by decide) (fun _ _ _ => ?_)
    | refine fk_nwM (by assumption) (fun _ _ _ => ?_)
    | refine fk_callV (fk_X7_isPair_b17 _ _) (by assumption) (fun _ _ _ => ?_)
    | refine fk_bind (fk_X7_isPair_b17 _ _) (by assumption) (fun _ _ _ => ?_)
    | refine fk_binI (fk_X7_isPair_b17 _ _) (by assumption) (fun _ _ _ => ?_))
theorem fk_f_X7_isPair  (p0 : Int32) (h : KH) : FW h (f_X7_isPair p0 h) := by
  unfold f_X7_isPair
  have q0 : FK h h := FK.rf h
  repeat' with_reducible (first
    | exact fk_ret (by assumption)
    | exact fk_retZ (by assumption)
    | exact fk_retC (by assumption)
    | exact fk_thr (by assumption)
    | exact fk_none
    | exact fk_go (fk_X7_isPair_b16 _) (by assumption)
    | exact fk_go (fk_X7_isPair_b17 _ _) (by assumption)
    | refine fk_gI (fun _ => ?_)
    | refine fk_gR (fun _ => ?_)
    | refine fk_gN (fun _ => ?_)
    | refine fk_gAI (fun _ => ?_)
    | refine fk_gAL (fun _ => ?_)
    | refine fk_gAN (fun _ => ?_)
    | refine fk_kif ?_ ?_
    | refine fk_nul ?_ (fun _ => ?_)
    | refine fk_may (fun _ => ?_)
    | refine fk_kdv ?_
    | refine fk_pI (by assumption) (by decide) (fun _ _ => ?_)
    | refine fk_pR (by assumption) (fun _ _ => ?_)
    | refine fk_pAI (by assumption) (by decide) (fun _ _ => ?_)
    | refine fk_pAZ (by assumption) (by decide) (fun _ _ => ?_)
    | refine fk_pAL (by assumption) (fun _ _ => ?_)
    | refine fk_pAN (by assumption) (fun _ _ => ?_)
    | refine fk_nw (by assumption) (by decide) (fun _ _ _ => ?_)
    | refine fk_nwM (by assumption) (fun _ _ _ => ?_)
    | refine fk_callV (fk_X7_isPair_b16 _) (by assumption) (fun _ _ _ => ?_)
    | refine fk_bind (fk_X7_isPair_b16 _) (by assumption) (fun _ _ _ => ?_)
    | refine fk_binI (fk_X7_isPair_b16 _) (by assumption) (fun _ _ _ => ?_)
    | refine fk_callV (fk_X7_isPair_b17 _ _) (by assumption) (fun _ _ _ => ?_)
    | refine fk_bind (fk_X7_isPair_b17 _ _) (by assumption) (fun _ _ _ => ?_)
    | refine fk_binI (fk_X7_isPair_b17 _ _) (by assumption) (fun _ _ _ => ?_))
theorem fk_X7_charsOf_b12  (s0 : Int32) (h : KH) : FW h (X7_charsOf_b12 s0 h) := by
  unfold X7_charsOf_b12
  have q0 : FK h h := FK.rf h
  repeat' with_reducible (first
    | exact fk_ret (by assumption)
    | exact fk_retZ (by assumption)
    | exact fk_retC (by assumption)
    | exact fk_thr (by assumption)
    | exact fk_none
    | refine fk_gI (fun _ => ?_)
    | refine fk_gR (fun _ => ?_)
    | refine fk_gN (fun _ => ?_)
    | refine fk_gAI (fun _ => ?_)
    | refine fk_gAL (fun _ => ?_)
    | refine fk_gAN (fun _ => ?_)
    | refine fk_kif ?_ ?_
    | refine fk_nul ?_ (fun _ => ?_)
    | refine fk_may (fun _ => ?_)
    | refine fk_kdv ?_
    | refine fk_pI (by assumption) (by decide) (fun _ _ => ?_)
    | refine fk_pR (by assumption) (fun _ _ => ?_)
    | refine fk_pAI (by assumption) (by decide) (fun _ _ => ?_)
    | refine fk_pAZ (by assumption) (by decide) (fun _ _ => ?_)
    | refine fk_pAL (by assumption) (fun _ _ => ?_)
    | refine fk_pAN (by assumption) (fun _ _ => ?_)
    | refine fk_nw (by assumption) (by decide) (fun _ _ _ => ?_)
    | refine fk_nwM (by assumption) (fun _ _ _ => ?_))
theorem fk_f_X7_charsOf  (p0 : Int32) (h : KH) : FW h (f_X7_charsOf p0 h) := by
  unfold f_X7_charsOf
  have q0 : FK h h := FK.rf h
  repeat' with_reducible (first
    | exact fk_ret (by assumption)
    | exact fk_retZ (by assumption)
    | exact fk_retC (by assumption)
    | exact fk_thr (by assumption)
    | exact fk_none
    | exact fk_go (fk_f_X7_isPair _ _) (by assumption)
    | exact fk_go (fk_X7_charsOf_b12 _ _) (by assumption)
    | refine fk_gI (fun _ => ?_)
    | refine fk_gR (fun _ => ?_)
    | refine fk_gN (fun _ => ?_)
    | refine fk_gAI (fun _ => ?_)
    | refine fk_gAL (fun _ => ?_)
    | refine fk_gAN (fun _ => ?_)
    | refine fk_kif ?_ ?_
    | refine fk_nul ?_ (fun _ => ?_)
    | refine fk_may (fun _ => ?_)
    | refine fk_kdv ?_
    | refine fk_pI (by assumption) (by decide) (fun _ _ => ?_)
    | refine fk_pR (by assumption) (fun _ _ => ?_)
    | refine fk_pAI (by assumption) (by decide) (fun _ _ => ?_)
    | refine fk_pAZ (by assumption) (by decide) (fun _ _ => ?_)
    | refine fk_pAL (by assumption) (fun _ _ => ?_)
    | refine fk_pAN (by assumption) (fun _ _ => ?_)
    | refine fk_nw (by assumption) (by decide) (fun _ _ _ => ?_)
    | refine fk_nwM (by assumption) (fun _ _ _ => ?_)
    | refine fk_callV (fk_f_X7_isPair _ _) (by assumption) (fun _ _ _ => ?_)
    | refine fk_bind (fk_f_X7_isPair _ _) (by assumption) (fun _ _ _ => ?_)
    | refine fk_binI (fk_f_X7_isPair _ _) (by assumption) (fun _ _ _ => ?_)
    | refine fk_callV (fk_X7_charsOf_b12 _ _) (by assumption) (fun _ _ _ => ?_)
    | refine fk_bind (fk_X7_charsOf_b12 _ _) (by assumption) (fun _ _ _ => ?_)
    | refine fk_binI (fk_X7_charsOf_b12 _ _) (by assumption) (fun _ _ _ => ?_))
theorem fk_X7_charCount_b4 (rc4 : Nat → Int32 → Int32 → KH → KO Int32) (hr4 : ∀ (u0 : Nat) (u1 : Int32) (u2 : Int32) (u3 : KH), FW u3 (rc4 u0 u1 u2 u3)) (v0 : Nat) (v1 : Int32) (v2 : Int32) (h : KH) : FW h (X7_charCount_b4 rc4 v0 v1 v2 h) := by
  unfold X7_charCount_b4
  have q0 : FK h h := FK.rf h
  repeat' with_reducible (first
    | exact fk_ret (by assumption)
    | exact fk_retZ (by assumption)
    | exact fk_retC (by assumption)
    | exact fk_thr (by assumption)
    | exact fk_none
    | exact fk_go (hr4 _ _ _ _) (by assumption)
    | exact fk_go (fk_f_X7_charsOf _ _) (by assumption)
    | refine fk_gI (fun _ => ?_)
    | refine fk_gR (fun _ => ?_)
    | refine fk_gN (fun _ => ?_)
    | refine fk_gAI (fun _ => ?_)
    | refine fk_gAL (fun _ => ?_)
    | refine fk_gAN (fun _ => ?_)
    | refine fk_kif ?_ ?_
    | refine fk_nul ?_ (fun _ => ?_)
    | refine fk_may (fun _ => ?_)
    | refine fk_kdv ?_
    | refine fk_pI (by assumption) (by decide) (fun _ _ => ?_)
    | refine fk_pR (by assumption) (fun _ _ => ?_)
    | refine fk_pAI (by assumption) (by decide) (fun _ _ => ?_)
    | refine fk_pAZ (by assumption) (by decide) (fun _ _ => ?_)
    | refine fk_pAL (by assumption) (fun _ _ => ?_)
    | refine fk_pAN (by assumption) (fun _ _ => ?_)
    | refine fk_nw (by assumption) (by decide) (fun _ _ _ => ?_)
    | refine fk_nwM (by assumption) (fun _ _ _ => ?_)
    | refine fk_callV (hr4 _ _ _ _) (by assumption) (fun _ _ _ => ?_)
    | refine fk_bind (hr4 _ _ _ _) (by assumption) (fun _ _ _ => ?_)
    | refine fk_binI (hr4 _ _ _ _) (by assumption) (fun _ _ _ => ?_)
    | refine fk_callV (fk_f_X7_charsOf _ _) (by assumption) (fun _ _ _ => ?_)
    | refine fk_bind (fk_f_X7_charsOf _ _) (by assumption) (fun _ _ _ => ?_)
    | refine fk_binI (fk_f_X7_charsOf _ _) (by assumption) (fun _ _ _ => ?_))
theorem fk_X7_charCount_L4  : ∀ (m : Nat) (u0 : Nat) (u1 : Int32) (u2 : Int32) (u3 : KH), FW u3 (X7_charCount_L4  m u0 u1 u2 u3) := by
  intro m
  induction m with
  | zero => intro u0 u1 u2 u3; exact fk_none
  | succ m ih => intro u0 u1 u2 u3; exact fk_X7_charCount_b4 (X7_charCount_L4  m) ih u0 u1 u2 u3
theorem fk_f_X7_charCount  (p0 : Nat) (h : KH) : FW h (f_X7_charCount p0 h) := by
  unfold f_X7_charCount
  have q0 : FK h h := FK.rf h
  repeat' with_reducible (first
    | exact fk_ret (by assumption)
    | exact fk_retZ (by assumption)
    | exact fk_retC (by assumption)
    | exact fk_thr (by assumption)
    | exact fk_none
    | exact fk_go (fk_X7_charCount_L4 _ _ _ _ _) (by assumption)
    | refine fk_gI (fun _ => ?_)
    | refine fk_gR (fun _ => ?_)
    | refine fk_gN (fun _ => ?_)
    | refine fk_gAI (fun _ => ?_)
    | refine fk_gAL (fun _ => ?_)
    | refine fk_gAN (fun _ => ?_)
    | refine fk_kif ?_ ?_
    | refine fk_nul ?_ (fun _ => ?_)
    | refine fk_may (fun _ => ?_)
    | refine fk_kdv ?_
    | refine fk_pI (by assumption) (by decide) (fun _ _ => ?_)
    | refine fk_pR (by assumption) (fun _ _ => ?_)
    | refine fk_pAI (by assumption) (by decide) (fun _ _ => ?_)
    | refine fk_pAZ (by assumption) (by decide) (fun _ _ => ?_)
    | refine fk_pAL (by assumption) (fun _ _ => ?_)
    | refine fk_pAN (by assumption) (fun _ _ => ?_)
    | refine fk_nw (by assumption) (by decide) (fun _ _ _ => ?_)
    | refine fk_nwM (by assumption) (fun _ _ _ => ?_)
    | refine fk_callV (fk_X7_charCount_L4 _ _ _ _ _) (by assumption) (fun _ _ _ => ?_)
    | refine fk_bind (fk_X7_charCount_L4 _ _ _ _ _) (by assumption) (fun _ _ _ => ?_)
    | refine fk_binI (fk_X7_charCount_L4 _ _ _ _ _) (by assumption) (fun _ _ _ => ?_))
theorem fk_f_X9_spell  (p0 : Nat) (p1 : Int32) (h : KH) : FW h (f_X9_spell p0 p1 h) := by
  unfold f_X9_spell
  have q0 : FK h h := FK.rf h
  repeat' with_reducible (first
    | exact fk_ret (by assumption)
    | exact fk_retZ (by assumption)
    | exact fk_retC (by assumption)
    | exact fk_thr (by assumption)
    | exact fk_none
    | exact fk_go (fk_f_X9_requireSign _ _) (by assumption)
    | exact fk_go (fk_f_X9_requireRoomForSign _ _) (by assumption)
    | exact fk_go (fk_f_X7_put _ _ _ _) (by assumption)
    | exact fk_go (fk_f_X7_charCount _ _) (by assumption)
    | refine fk_gI (fun _ => ?_)
    | refine fk_gR (fun _ => ?_)
    | refine fk_gN (fun _ => ?_)
    | refine fk_gAI (fun _ => ?_)
    | refine fk_gAL (fun _ => ?_)
    | refine fk_gAN (fun _ => ?_)
    | refine fk_kif ?_ ?_
    | refine fk_nul ?_ (fun _ => ?_)
    | refine fk_may (fun _ => ?_)
    | refine fk_kdv ?_
    | refine fk_pI (by assumption) (by decide) (fun _ _ => ?_)
    | refine fk_pR (by assumption) (fun _ _ => ?_)
    | refine fk_pAI (by assumption) (by decide) (fun _ _ => ?_)
    | refine fk_pAZ (by assumption) (by decide) (fun _ _ => ?_)
    | refine fk_pAL (by assumption) (fun _ _ => ?_)
    | refine fk_pAN (by assumption) (fun _ _ => ?_)
    | refine fk_nw (by assumption) (by decide) (fun _ _ _ => ?_)
    | refine fk_nwM (by assumption) (fun _ _ _ => ?_)
    | refine fk_callV (fk_f_X9_requireSign _ _) (by assumption) (fun _ _ _ => ?_)
    | refine fk_bind (fk_f_X9_requireSign _ _) (by assumption) (fun _ _ _ => ?_)
    | refine fk_binI (fk_f_X9_requireSign _ _) (by assumption) (fun _ _ _ => ?_)
    | refine fk_callV (fk_f_X9_requireRoomForSign _ _) (by assumption) (fun _ _ _ => ?_)
    | refine fk_bind (fk_f_X9_requireRoomForSign _ _) (by assumption) (fun _ _ _ => ?_)
    | refine fk_binI (fk_f_X9_requireRoomForSign _ _) (by assumption) (fun _ _ _ => ?_)
    | refine fk_callV (fk_f_X7_put _ _ _ _) (by assumption) (fun _ _ _ => ?_)
    | refine fk_bind (fk_f_X7_put _ _ _ _) (by assumption) (fun _ _ _ => ?_)
    | refine fk_binI (fk_f_X7_put _ _ _ _) (by assumption) (fun _ _ _ => ?_)
    | refine fk_callV (fk_f_X7_charCount _ _) (by assumption) (fun _ _ _ => ?_)
    | refine fk_bind (fk_f_X7_charCount _ _) (by assumption) (fun _ _ _ => ?_)
    | refine fk_binI (fk_f_X7_charCount _ _) (by assumption) (fun _ _ _ => ?_))
theorem fk_f_X9_insert  (p0 : Nat) (p1 : Int32) (p2 : Int32) (h : KH) : FW h (f_X9_insert p0 p1 p2 h) := by
  unfold f_X9_insert
  have q0 : FK h h := FK.rf h
  repeat' with_reducible (first
    | exact fk_ret (by assumption)
    | exact fk_retZ (by assumption)
    | exact fk_retC (by assumption)
    | exact fk_thr (by assumption)
    | exact fk_none
    | exact fk_go (fk_f_X9_requireSign _ _) (by assumption)
    | exact fk_go (fk_f_X9_isWithin _ _ _ _) (by assumption)
    | exact fk_go (fk_f_X9_requireRoomForSign _ _) (by assumption)
    | exact fk_go (fk_f_X7_put _ _ _ _) (by assumption)
    | exact fk_go (fk_f_X7_charCount _ _) (by assumption)
    | refine fk_gI (fun _ => ?_)
    | refine fk_gR (fun _ => ?_)
    | refine fk_gN (fun _ => ?_)
    | refine fk_gAI (fun _ => ?_)
    | refine fk_gAL (fun _ => ?_)
    | refine fk_gAN (fun _ => ?_)
    | refine fk_kif ?_ ?_
    | refine fk_nul ?_ (fun _ => ?_)
    | refine fk_may (fun _ => ?_)
    | refine fk_kdv ?_
    | refine fk_pI (by assumption) (by decide) (fun _ _ => ?_)
    | refine fk_pR (by assumption) (fun _ _ => ?_)
    | refine fk_pAI (by assumption) (by decide) (fun _ _ => ?_)
    | refine fk_pAZ (by assumption) (by decide) (fun _ _ => ?_)
    | refine fk_pAL (by assumption) (fun _ _ => ?_)
    | refine fk_pAN (by assumption) (fun _ _ => ?_)
    | refine fk_nw (by assumption) (by decide) (fun _ _ _ => ?_)
    | refine fk_nwM (by assumption) (fun _ _ _ => ?_)
    | refine fk_callV (fk_f_X9_requireSign _ _) (by assumption) (fun _ _ _ => ?_)
    | refine fk_bind (fk_f_X9_requireSign _ _) (by assumption) (fun _ _ _ => ?_)
    | refine fk_binI (fk_f_X9_requireSign _ _) (by assumption) (fun _ _ _ => ?_)
    | refine fk_callV (fk_f_X9_isWithin _ _ _ _) (by assumption) (fun _ _ _ => ?_)
    | refine fk_bind (fk_f_X9_isWithin _ _ _ _) (by assumption) (fun _ _ _ => ?_)
    | refine fk_binI (fk_f_X9_isWithin _ _ _ _) (by assumption) (fun _ _ _ => ?_)
    | refine fk_callV (fk_f_X9_requireRoomForSign _ _) (by assumption) (fun _ _ _ => ?_)
    | refine fk_bind (fk_f_X9_requireRoomForSign _ _) (by assumption) (fun _ _ _ => ?_)
    | refine fk_binI (fk_f_X9_requireRoomForSign _ _) (by assumption) (fun _ _ _ => ?_)
    | refine fk_callV (fk_f_X7_put _ _ _ _) (by assumption) (fun _ _ _ => ?_)
    | refine fk_bind (fk_f_X7_put _ _ _ _) (by assumption) (fun _ _ _ => ?_)
    | refine fk_binI (fk_f_X7_put _ _ _ _) (by assumption) (fun _ _ _ => ?_)
    | refine fk_callV (fk_f_X7_charCount _ _) (by assumption) (fun _ _ _ => ?_)
    | refine fk_bind (fk_f_X7_charCount _ _) (by assumption) (fun _ _ _ => ?_)
    | refine fk_binI (fk_f_X7_charCount _ _) (by assumption) (fun _ _ _ => ?_))
theorem fk_X7_turnRound_b9 (rc9 : Nat → Int32 → Int32 → KH → KO Unit) (hr9 : ∀ (u0 : Nat) (u1 : Int32) (u2 : Int32) (u3 : KH), FW u3 (rc9 u0 u1 u2 u3)) (v0 : Nat) (v1 : Int32) (v2 : Int32) (h : KH) : FW h (X7_turnRound_b9 rc9 v0 v1 v2 h) := by
  unfold X7_turnRound_b9
  have q0 : FK h h := FK.rf h
  repeat' with_reducible (first
    | exact fk_ret (by assumption)
    | exact fk_retZ (by assumption)
    | exact fk_retC (by assumption)
    | exact fk_thr (by assumption)
    | exact fk_none
    | exact fk_go (hr9 _ _ _ _) (by assumption)
    | refine fk_gI (fun _ => ?_)
    | refine fk_gR (fun _ => ?_)
    | refine fk_gN (fun _ => ?_)
    | refine fk_gAI (fun _ => ?_)
    | refine fk_gAL (fun _ => ?_)
    | refine fk_gAN (fun _ => ?_)
    | refine fk_kif ?_ ?_
    | refine fk_nul ?_ (fun _ => ?_)
    | refine fk_may (fun _ => ?_)
    | refine fk_kdv ?_
    | refine fk_pI (by assumption) (by decide) (fun _ _ => ?_)
    | refine fk_pR (by assumption) (fun _ _ => ?_)
    | refine fk_pAI (by assumption) (by decide) (fun _ _ => ?_)
    | refine fk_pAZ (by assumption) (by decide) (fun _ _ => ?_)
    | refine fk_pAL (by assumption) (fun _ _ => ?_)
    | refine fk_pAN (by assumption) (fun _ _ => ?_)
    | refine fk_nw (by assumption) (by decide) (fun _ _ _ => ?_)
    | refine fk_nwM (by assumption) (fun _ _ _ => ?_)
    | refine fk_callV (hr9 _ _ _ _) (by assumption) (fun _ _ _ => ?_)
    | refine fk_bind (hr9 _ _ _ _) (by assumption) (fun _ _ _ => ?_)
    | refine fk_binI (hr9 _ _ _ _) (by assumption) (fun _ _ _ => ?_))
theorem fk_X7_turnRound_L9  : ∀ (m : Nat) (u0 : Nat) (u1 : Int32) (u2 : Int32) (u3 : KH), FW u3 (X7_turnRound_L9  m u0 u1 u2 u3) := by
  intro m
  induction m with
  | zero => intro u0 u1 u2 u3; exact fk_none
  | succ m ih => intro u0 u1 u2 u3; exact fk_X7_turnRound_b9 (X7_turnRound_L9  m) ih u0 u1 u2 u3
theorem fk_f_X7_turnRound  (p0 : Nat) (h : KH) : FW h (f_X7_turnRound p0 h) := by
  unfold f_X7_turnRound
  have q0 : FK h h := FK.rf h
  repeat' with_reducible (first
    | exact fk_ret (by assumption)
    | exact fk_retZ (by assumption)
    | exact fk_retC (by assumption)
    | exact fk_thr (by assumption)
    | exact fk_none
    | exact fk_go (fk_X7_turnRound_L9 _ _ _ _ _) (by assumption)
    | refine fk_gI (fun _ => ?_)
    | refine fk_gR (fun _ => ?_)
    | refine fk_gN (fun _ => ?_)
    | refine fk_gAI (fun _ => ?_)
    | refine fk_gAL (fun _ => ?_)
    | refine fk_gAN (fun _ => ?_)
    | refine fk_kif ?_ ?_
    | refine fk_nul ?_ (fun _ => ?_)
    | refine fk_may (fun _ => ?_)
    | refine fk_kdv ?_
    | refine fk_pI (by assumption) (by decide) (fun _ _ => ?_)
    | refine fk_pR (by assumption) (fun _ _ => ?_)
    | refine fk_pAI (by assumption) (by decide) (fun _ _ => ?_)
    | refine fk_pAZ (by assumption) (by decide) (fun _ _ => ?_)
    | refine fk_pAL (by assumption) (fun _ _ => ?_)
    | refine fk_pAN (by assumption) (fun _ _ => ?_)
    | refine fk_nw (by assumption) (by decide) (fun _ _ _ => ?_)
    | refine fk_nwM (by assumption) (fun _ _ _ => ?_)
    | refine fk_callV (fk_X7_turnRound_L9 _ _ _ _ _) (by assumption) (fun _ _ _ => ?_)
    | refine fk_bind (fk_X7_turnRound_L9 _ _ _ _ _) (by assumption) (fun _ _ _ => ?_)
    | refine fk_binI (fk_X7_turnRound_L9 _ _ _ _ _) (by assumption) (fun _ _ _ => ?_))
theorem fk_f_X9_mirror  (p0 : Nat) (h : KH) : FW h (f_X9_mirror p0 h) := by
  unfold f_X9_mirror
  have q0 : FK h h := FK.rf h
  repeat' with_reducible (first
    | exact fk_ret (by assumption)
    | exact fk_retZ (by assumption)
    | exact fk_retC (by assumption)
    | exact fk_thr (by assumption)
    | exact fk_none
    | exact fk_go (fk_f_X7_turnRound _ _) (by assumption)
    | refine fk_gI (fun _ => ?_)
    | refine fk_gR (fun _ => ?_)
    | refine fk_gN (fun _ => ?_)
    | refine fk_gAI (fun _ => ?_)
    | refine fk_gAL (fun _ => ?_)
    | refine fk_gAN (fun _ => ?_)
    | refine fk_kif ?_ ?_
    | refine fk_nul ?_ (fun _ => ?_)
    | refine fk_may (fun _ => ?_)
    | refine fk_kdv ?_
    | refine fk_pI (by assumption) (by decide) (fun _ _ => ?_)
    | refine fk_pR (by assumption) (fun _ _ => ?_)
    | refine fk_pAI (by assumption) (by decide) (fun _ _ => ?_)
    | refine fk_pAZ (by assumption) (by decide) (fun _ _ => ?_)
    | refine fk_pAL (by assumption) (fun _ _ => ?_)
    | refine fk_pAN (by assumption) (fun _ _ => ?_)
    | refine fk_nw (by assumption) (by decide) (fun _ _ _ => ?_)
    | refine fk_nwM (by assumption) (fun _ _ _ => ?_)
    | refine fk_callV (fk_f_X7_turnRound _ _) (by assumption) (fun _ _ _ => ?_)
    | refine fk_bind (fk_f_X7_turnRound _ _) (by assumption) (fun _ _ _ => ?_)
    | refine fk_binI (fk_f_X7_turnRound _ _) (by assumption) (fun _ _ _ => ?_))
theorem fk_f_X9_clearSpelled  (p0 : Nat) (h : KH) : FW h (f_X9_clearSpelled p0 h) := by
  unfold f_X9_clearSpelled
  have q0 : FK h h := FK.rf h
  repeat' with_reducible (first
    | exact fk_ret (by assumption)
    | exact fk_retZ (by assumption)
    | exact fk_retC (by assumption)
    | exact fk_thr (by assumption)
    | exact fk_none
    | refine fk_gI (fun _ => ?_)
    | refine fk_gR (fun _ => ?_)
    | refine fk_gN (fun _ => ?_)
    | refine fk_gAI (fun _ => ?_)
    | refine fk_gAL (fun _ => ?_)
    | refine fk_gAN (fun _ => ?_)
    | refine fk_kif ?_ ?_
    | refine fk_nul ?_ (fun _ => ?_)
    | refine fk_may (fun _ => ?_)
    | refine fk_kdv ?_
    | refine fk_pI (by assumption) (by decide) (fun _ _ => ?_)
    | refine fk_pR (by assumption) (fun _ _ => ?_)
    | refine fk_pAI (by assumption) (by decide) (fun _ _ => ?_)
    | refine fk_pAZ (by assumption) (by decide) (fun _ _ => ?_)
    | refine fk_pAL (by assumption) (fun _ _ => ?_)
    | refine fk_pAN (by assumption) (fun _ _ => ?_)
    | refine fk_nw (by assumption) (by decide) (fun _ _ _ => ?_)
    | refine fk_nwM (by assumption) (fun _ _ _ => ?_))
theorem fk_X7_charNumberOf_b37  (s0 : Int32) (h : KH) : FW h (X7_charNumberOf_b37 s0 h) := by
  unfold X7_charNumberOf_b37
  have q0 : FK h h := FK.rf h
  repeat' with_reducible (first
    | exact fk_ret (by assumption)
    | exact fk_retZ (by assumption)
    | exact fk_retC (by assumption)
    | exact fk_thr (by assumption)
    | exact fk_none
    | refine fk_gI (fun _ => ?_)
    | refine fk_gR (fun _ => ?_)
    | refine fk_gN (fun _ => ?_)
    | refine fk_gAI (fun _ => ?_)
    | refine fk_gAL (fun _ => ?_)
    | refine fk_gAN (fun _ => ?_)
    | refine fk_kif ?_ ?_
    | refine fk_nul ?_ (fun _ => ?_)
    | refine fk_may (fun _ => ?_)
    | refine fk_kdv ?_
    | refine fk_pI (by assumption) (by decide) (fun _ _ => ?_)
    | refine fk_pR (by assumption) (fun _ _ => ?_)
    | refine fk_pAI (by assumption) (by decide) (fun _ _ => ?_)
    | refine fk_pAZ (by assumption) (by decide) (fun _ _ => ?_)
    | refine fk_pAL (by assumption) (fun _ _ => ?_)
    | refine fk_pAN (by assumption) (fun _ _ => ?_)
    | refine fk_nw (by assumption) (by decide) (fun _ _ _ => ?_)
    | refine fk_nwM (by assumption) (fun _ _ _ => ?_))
theorem fk_f_X7_charNumberOf  (p0 : Int32) (p1 : Int32) (h : KH) : FW h (f_X7_charNumberOf p0 p1 h) := by
  unfold f_X7_charNumberOf
  have q0 : FK h h := FK.rf h
  repeat' with_reducible (first
    | exact fk_ret (by assumption)
    | exact fk_retZ (by assumption)
    | exact fk_retC (by assumption)
    | exact fk_thr (by assumption)
    | exact fk_none
    | exact fk_go (fk_f_X7_isPair _ _) (by assumption)
    | exact fk_go (fk_X7_charNumberOf_b37 _ _) (by assumption)
    | refine fk_gI (fun _ => ?_)
    | refine fk_gR (fun _ => ?_)
    | refine fk_gN (fun _ => ?_)
    | refine fk_gAI (fun _ => ?_)
    | refine fk_gAL (fun _ => ?_)
    | refine fk_gAN (fun _ => ?_)
    | refine fk_kif ?_ ?_
    | refine fk_nul ?_ (fun _ => ?_)
    | refine fk_may (fun _ => ?_)
    | refine fk_kdv ?_
    | refine fk_pI (by assumption) (by decide) (fun _ _ => ?_)
    | refine fk_pR (by assumption) (fun _ _ => ?_)
    | refine fk_pAI (by assumption) (by decide) (fun _ _ => ?_)
    | refine fk_pAZ (by assumption) (by decide) (fun _ _ => ?_)
    | refine fk_pAL (by assumption) (fun _ _ => ?_)
    | refine fk_pAN (by assumption) (fun _ _ => ?_)
    | refine fk_nw (by assumption) (by decide) (fun _ _ _ => ?_)
    | refine fk_nwM (by assumption) (fun _ _ _ => ?_)
    | refine fk_callV (fk_f_X7_isPair _ _) (by assumption) (fun _ _ _ => ?_)
    | refine fk_bind (fk_f_X7_isPair _ _) (by assumption) (fun _ _ _ => ?_)
    | refine fk_binI (fk_f_X7_isPair _ _) (by assumption) (fun _ _ _ => ?_)
    | refine fk_callV (fk_X7_charNumberOf_b37 _ _) (by assumption) (fun _ _ _ => ?_)
    | refine fk_bind (fk_X7_charNumberOf_b37 _ _) (by assumption) (fun _ _ _ => ?_)
    | refine fk_binI (fk_X7_charNumberOf_b37 _ _) (by assumption) (fun _ _ _ => ?_))
theorem fk_X7_charNumberAt_b57  (h : KH) : FW h (X7_charNumberAt_b57 h) := by
  unfold X7_charNumberAt_b57
  have q0 : FK h h := FK.rf h
  repeat' with_reducible (first
    | exact fk_ret (by assumption)
    | exact fk_retZ (by assumption)
    | exact fk_retC (by assumption)
    | exact fk_thr (by assumption)
    | exact fk_none
    | refine fk_gI (fun _ => ?_)
    | refine fk_gR (fun _ => ?_)
    | refine fk_gN (fun _ => ?_)
    | refine fk_gAI (fun _ => ?_)
    | refine fk_gAL (fun _ => ?_)
    | refine fk_gAN (fun _ => ?_)
    | refine fk_kif ?_ ?_
    | refine fk_nul ?_ (fun _ => ?_)
    | refine fk_may (fun _ => ?_)
    | refine fk_kdv ?_
    | refine fk_pI (by assumption) (by decide) (fun _ _ => ?_)
    | refine fk_pR (by assumption) (fun _ _ => ?_)
    | refine fk_pAI (by assumption) (by decide) (fun _ _ => ?_)
    | refine fk_pAZ (by assumption) (by decide) (fun _ _ => ?_)
    | refine fk_pAL (by assumption) (fun _ _ => ?_)
    | refine fk_pAN (by assumption) (fun _ _ => ?_)
    | refine fk_nw (by assumption) (by decide) (fun _ _ _ => ?_)
    | refine fk_nwM (by assumption) (fun _ _ _ => ?_))
theorem fk_X7_charNumberAt_b4 (rc4 : Nat → Int32 → Int32 → Int32 → KH → KO Int32) (hr4 : ∀ (u0 : Nat) (u1 : Int32) (u2 : Int32) (u3 : Int32) (u4 : KH), FW u4 (rc4 u0 u1 u2 u3 u4)) (v0 : Nat) (v1 : Int32) (v2 : Int32) (v3 : Int32) (h : KH) : FW h (X7_charNumberAt_b4 rc4 v0 v1 v2 v3 h) := by
  unfold X7_charNumberAt_b4
  have q0 : FK h h := FK.rf h
  repeat' with_reducible (first
    | exact fk_ret (by assumption)
    | exact fk_retZ (by assumption)
    | exact fk_retC (by assumption)
    | exact fk_thr (by assumption)
    | exact fk_none
    | exact fk_go (hr4 _ _ _ _ _) (by assumption)
    | exact fk_go (fk_X7_charNumberAt_b57 _) (by assumption)
    | exact fk_go (fk_f_X7_charsOf _ _) (by assumption)
    | exact fk_go (fk_f_X7_charNumberOf _ _ _) (by assumption)
    | refine fk_gI (fun _ => ?_)
    | refine fk_gR (fun _ => ?_)
    | refine fk_gN (fun _ => ?_)
    | refine fk_gAI (fun _ => ?_)
    | refine fk_gAL (fun _ => ?_)
    | refine fk_gAN (fun _ => ?_)
    | refine fk_kif ?_ ?_
    | refine fk_nul ?_ (fun _ => ?_)
    | refine fk_may (fun _ => ?_)
    | refine fk_kdv ?_
    | refine fk_pI (by assumption) (by decide) (fun _ _ => ?_)
    | refine fk_pR (by assumption) (fun _ _ => ?_)
    | refine fk_pAI (by assumption) (by decide) (fun _ _ => ?_)
    | refine fk_pAZ (by assumption) (by decide) (fun _ _ => ?_)
    | refine fk_pAL (by assumption) (fun _ _ => ?_)
    | refine fk_pAN (by assumption) (fun _ _ => ?_)
    | refine fk_nw (by assumption) (by decide) (fun _ _ _ => ?_)
    | refine fk_nwM (by assumption) (fun _ _ _ => ?_)
    | refine fk_callV (hr4 _ _ _ _ _) (by assumption) (fun _ _ _ => ?_)
    | refine fk_bind (hr4 _ _ _ _ _) (by assumption) (fun _ _ _ => ?_)
    | refine fk_binI (hr4 _ _ _ _ _) (by assumption) (fun _ _ _ => ?_)
    | refine fk_callV (fk_X7_charNumberAt_b57 _) (by assumption) (fun _ _ _ => ?_)
    | refine fk_bind (fk_X7_charNumberAt_b57 _) (by assumption) (fun _ _ _ => ?_)
    | refine fk_binI (fk_X7_charNumberAt_b57 _) (by assumption) (fun _ _ _ => ?_)
    | refine fk_callV (fk_f_X7_charsOf _ _) (by assumption) (fun _ _ _ => ?_)
    | refine fk_bind (fk_f_X7_charsOf _ _) (by assumption) (fun _ _ _ => ?_)
    | refine fk_binI (fk_f_X7_charsOf _ _) (by assumption) (fun _ _ _ => ?_)
    | refine fk_callV (fk_f_X7_charNumberOf _ _ _) (by assumption) (fun _ _ _ => ?_)
    | refine fk_bind (fk_f_X7_charNumberOf _ _ _) (by assumption) (fun _ _ _ => ?_)
    | refine fk_binI (fk_f_X7_charNumberOf _ _ _) (by assumption) (fun _ _ _ => ?_))
theorem fk_X7_charNumberAt_L4  : ∀ (m : Nat) (u0 : Nat) (u1 : Int32) (u2 : Int32) (u3 : Int32) (u4 : KH), FW u4 (X7_charNumberAt_L4  m u0 u1 u2 u3 u4) := by
  intro m
  induction m with
  | zero => intro u0 u1 u2 u3 u4; exact fk_none
  | succ m ih => intro u0 u1 u2 u3 u4; exact fk_X7_charNumberAt_b4 (X7_charNumberAt_L4  m) ih u0 u1 u2 u3 u4
theorem fk_f_X7_charNumberAt  (p0 : Nat) (p1 : Int32) (h : KH) : FW h (f_X7_charNumberAt p0 p1 h) := by
  unfold f_X7_charNumberAt
  have q0 : FK h h := FK.rf h
  repeat' with_reducible (first
    | exact fk_ret (by assumption)
    | exact fk_retZ (by assumption)
    | exact fk_retC (by assumption)
    | exact fk_thr (by assumption)
    | exact fk_none
    | exact fk_go (fk_X7_charNumberAt_L4 _ _ _ _ _ _) (by assumption)
    | refine fk_gI (fun _ => ?_)
    | refine fk_gR (fun _ => ?_)
    | refine fk_gN (fun _ => ?_)
    | refine fk_gAI (fun _ => ?_)
    | refine fk_gAL (fun _ => ?_)
    | refine fk_gAN (fun _ => ?_)
    | refine fk_kif ?_ ?_
    | refine fk_nul ?_ (fun _ => ?_)
    | refine fk_may (fun _ => ?_)
    | refine fk_kdv ?_
    | refine fk_pI (by assumption) (by decide) (fun _ _ => ?_)
    | refine fk_pR (by assumption) (fun _ _ => ?_)
    | refine fk_pAI (by assumption) (by decide) (fun _ _ => ?_)
    | refine fk_pAZ (by assumption) (by decide) (fun _ _ => ?_)
    | refine fk_pAL (by assumption) (fun _ _ => ?_)
    | refine fk_pAN (by assumption) (fun _ _ => ?_)
    | refine fk_nw (by assumption) (by decide) (fun _ _ _ => ?_)
    | refine fk_nwM (by assumption) (fun _ _ _ => ?_)
    | refine fk_callV (fk_X7_charNumberAt_L4 _ _ _ _ _ _) (by assumption) (fun _ _ _ => ?_)
    | refine fk_bind (fk_X7_charNumberAt_L4 _ _ _ _ _ _) (by assumption) (fun _ _ _ => ?_)
    | refine fk_binI (fk_X7_charNumberAt_L4 _ _ _ _ _ _) (by assumption) (fun _ _ _ => ?_))
theorem fk_f_X9_charAt  (p0 : Nat) (p1 : Int32) (h : KH) : FW h (f_X9_charAt p0 p1 h) := by
  unfold f_X9_charAt
  have q0 : FK h h := FK.rf h
  repeat' with_reducible (first
    | exact fk_ret (by assumption)
    | exact fk_retZ (by assumption)
    | exact fk_retC (by assumption)
    | exact fk_thr (by assumption)
    | exact fk_none
    | exact fk_go (fk_f_X7_charNumberAt _ _ _) (by assumption)
    | refine fk_gI (fun _ => ?_)
    | refine fk_gR (fun _ => ?_)
    | refine fk_gN (fun _ => ?_)
    | refine fk_gAI (fun _ => ?_)
    | refine fk_gAL (fun _ => ?_)
    | refine fk_gAN (fun _ => ?_)
    | refine fk_kif ?_ ?_
    | refine fk_nul ?_ (fun _ => ?_)
    | refine fk_may (fun _ => ?_)
    | refine fk_kdv ?_
    | refine fk_pI (by assumption) (by decide) (fun _ _ => ?_)
    | refine fk_pR (by assumption) (fun _ _ => ?_)
    | refine fk_pAI (by assumption) (by decide) (fun _ _ => ?_)
    | refine fk_pAZ (by assumption) (by decide) (fun _ _ => ?_)
    | refine fk_pAL (by assumption) (fun _ _ => ?_)
    | refine fk_pAN (by assumption) (fun _ _ => ?_)
    | refine fk_nw (by assumption) (by decide) (fun _ _ _ => ?_)
    | refine fk_nwM (by assumption) (fun _ _ _ => ?_)
    | refine fk_callV (fk_f_X7_charNumberAt _ _ _) (by assumption) (fun _ _ _ => ?_)
    | refine fk_bind (fk_f_X7_charNumberAt _ _ _) (by assumption) (fun _ _ _ => ?_)
    | refine fk_binI (fk_f_X7_charNumberAt _ _ _) (by assumption) (fun _ _ _ => ?_))
theorem fk_f_X2_turn  (p0 : Nat) (p1 : Int32) (p2 : Int32) (h : KH) : FW h (f_X2_turn p0 p1 p2 h) := by
  unfold f_X2_turn
  have q0 : FK h h := FK.rf h
  repeat' with_reducible (first
    | exact fk_ret (by assumption)
    | exact fk_retZ (by assumption)
    | exact fk_retC (by assumption)
    | exact fk_thr (by assumption)
    | exact fk_none
    | refine fk_gI (fun _ => ?_)
    | refine fk_gR (fun _ => ?_)
    | refine fk_gN (fun _ => ?_)
    | refine fk_gAI (fun _ => ?_)
    | refine fk_gAL (fun _ => ?_)
    | refine fk_gAN (fun _ => ?_)
    | refine fk_kif ?_ ?_
    | refine fk_nul ?_ (fun _ => ?_)
    | refine fk_may (fun _ => ?_)
    | refine fk_kdv ?_
    | refine fk_pI (by assumption) (by decide) (fun _ _ => ?_)
    | refine fk_pR (by assumption) (fun _ _ => ?_)
    | refine fk_pAI (by assumption) (by decide) (fun _ _ => ?_)
    | refine fk_pAZ (by assumption) (by decide) (fun _ _ => ?_)
    | refine fk_pAL (by assumption) (fun _ _ => ?_)
    | refine fk_pAN (by assumption) (fun _ _ => ?_)
    | refine fk_nw (by assumption) (by decide) (fun _ _ _ => ?_)
    | refine fk_nwM (by assumption) (fun _ _ _ => ?_))
theorem fk_X2_holds_b19  (s0 : Int32) (h : KH) : FW h (X2_holds_b19 s0 h) := by
  unfold X2_holds_b19
  have q0 : FK h h := FK.rf h
  repeat' with_reducible (first
    | exact fk_ret (by assumption)
    | exact fk_retZ (by assumption)
    | exact fk_retC (by assumption)
    | exact fk_thr (by assumption)
    | exact fk_none
    | refine fk_gI (fun _ => ?_)
    | refine fk_gR (fun _ => ?_)
    | refine fk_gN (fun _ => ?_)
    | refine fk_gAI (fun _ => ?_)
    | refine fk_gAL (fun _ => ?_)
    | refine fk_gAN (fun _ => ?_)
    | refine fk_kif ?_ ?_
    | refine fk_nul ?_ (fun _ => ?_)
    | refine fk_may (fun _ => ?_)
    | refine fk_kdv ?_
    | refine fk_pI (by assumption) (by decide) (fun _ _ => ?_)
    | refine fk_pR (by assumption) (fun _ _ => ?_)
    | refine fk_pAI (by assumption) (by decide) (fun _ _ => ?_)
    | refine fk_pAZ (by assumption) (by decide) (fun _ _ => ?_)
    | refine fk_pAL (by assumption) (fun _ _ => ?_)
    | refine fk_pAN (by assumption) (fun _ _ => ?_)
    | refine fk_nw (by assumption) (by decide) (fun _ _ _ => ?_)
    | refine fk_nwM (by assumption) (fun _ _ _ => ?_))
theorem fk_f_X2_holds  (p0 : Nat) (p1 : Int32) (p2 : Int32) (h : KH) : FW h (f_X2_holds p0 p1 p2 h) := by
  unfold f_X2_holds
  have q0 : FK h h := FK.rf h
  repeat' with_reducible (first
    | exact fk_ret (by assumption)
    | exact fk_retZ (by assumption)
    | exact fk_retC (by assumption)
    | exact fk_thr (by assumption)
    | exact fk_none
    | exact fk_go (fk_X2_holds_b19 _ _) (by assumption)
    | refine fk_gI (fun _ => ?_)
    | refine fk_gR (fun _ => ?_)
    | refine fk_gN (fun _ => ?_)
    | refine fk_gAI (fun _ => ?_)
    | refine fk_gAL (fun _ => ?_)
    | refine fk_gAN (fun _ => ?_)
    | refine fk_kif ?_ ?_
    | refine fk_nul ?_ (fun _ => ?_)
    | refine fk_may (fun _ => ?_)
    | refine fk_kdv ?_
    | refine fk_pI (by assumption) (by decide) (fun _ _ => ?_)
    | refine fk_pR (by assumption) (fun _ _ => ?_)
    | refine fk_pAI (by assumption) (by decide) (fun _ _ => ?_)
    | refine fk_pAZ (by assumption) (by decide) (fun _ _ => ?_)
    | refine fk_pAL (by assumption) (fun _ _ => ?_)
    | refine fk_pAN (by assumption) (fun _ _ => ?_)
    | refine fk_nw (by assumption) (by decide) (fun _ _ _ => ?_)
    | refine fk_nwM (by assumption) (fun _ _ _ => ?_)
    | refine fk_callV (fk_X2_holds_b19 _ _) (by assumption) (fun _ _ _ => ?_)
    | refine fk_bind (fk_X2_holds_b19 _ _) (by assumption) (fun _ _ _ => ?_)
    | refine fk_binI (fk_X2_holds_b19 _ _) (by assumption) (fun _ _ _ => ?_))
theorem fk_X2_costOfSign_b29  (s0 : Int32) (h : KH) : FW h (X2_costOfSign_b29 s0 h) := by
  unfold X2_costOfSign_b29
  have q0 : FK h h := FK.rf h
  repeat' with_reducible (first
    | exact fk_ret (by assumption)
    | exact fk_retZ (by assumption)
    | exact fk_retC (by assumption)
    | exact fk_thr (by assumption)
    | exact fk_none
    | refine fk_gI (fun _ => ?_)
    | refine fk_gR (fun _ => ?_)
    | refine fk_gN (fun _ => ?_)
    | refine fk_gAI (fun _ => ?_)
    | refine fk_gAL (fun _ => ?_)
    | refine fk_gAN (fun _ => ?_)
    | refine fk_kif ?_ ?_
    | refine fk_nul ?_ (fun _ => ?_)
    | refine fk_may (fun _ => ?_)
    | refine fk_kdv ?_
    | refine fk_pI (by assumption) (by decide) (fun _ _ => ?_)
    | refine fk_pR (by assumption) (fun _ _ => ?_)
    | refine fk_pAI (by assumption) (by decide) (fun _ _ => ?_)
    | refine fk_pAZ (by assumption) (by decide) (fun _ _ => ?_)
    | refine fk_pAL (by assumption) (fun _ _ => ?_)
    | refine fk_pAN (by assumption) (fun _ _ => ?_)
    | refine fk_nw (by assumption) (by decide) (fun _ _ _ => ?_)
    | refine fk_nwM (by assumption) (fun _ _ _ => ?_))
theorem fk_f_X2_costOfSign  (p0 : Nat) (p1 : Int32) (p2 : Int32) (h : KH) : FW h (f_X2_costOfSign p0 p1 p2 h) := by
  unfold f_X2_costOfSign
  have q0 : FK h h := FK.rf h
  repeat' with_reducible (first
    | exact fk_ret (by assumption)
    | exact fk_retZ (by assumption)
    | exact fk_retC (by assumption)
    | exact fk_thr (by assumption)
    | exact fk_none
    | exact fk_go (fk_f_X2_holds _ _ _ _) (by assumption)
    | exact fk_go (fk_X2_costOfSign_b29 _ _) (by assumption)
    | refine fk_gI (fun _ => ?_)
    | refine fk_gR (fun _ => ?_)
    | refine fk_gN (fun _ => ?_)
    | refine fk_gAI (fun _ => ?_)
    | refine fk_gAL (fun _ => ?_)
    | refine fk_gAN (fun _ => ?_)
    | refine fk_kif ?_ ?_
    | refine fk_nul ?_ (fun _ => ?_)
    | refine fk_may (fun _ => ?_)
    | refine fk_kdv ?_
    | refine fk_pI (by assumption) (by decide) (fun _ _ => ?_)
    | refine fk_pR (by assumption) (fun _ _ => ?_)
    | refine fk_pAI (by assumption) (by decide) (fun _ _ => ?_)
    | refine fk_pAZ (by assumption) (by decide) (fun _ _ => ?_)
    | refine fk_pAL (by assumption) (fun _ _ => ?_)
    | refine fk_pAN (by assumption) (fun _ _ => ?_)
    | refine fk_nw (by assumption) (by decide) (fun _ _ _ => ?_)
    | refine fk_nwM (by assumption) (fun _ _ _ => ?_)
    | refine fk_callV (fk_f_X2_holds _ _ _ _) (by assumption) (fun _ _ _ => ?_)
    | refine fk_bind (fk_f_X2_holds _ _ _ _) (by assumption) (fun _ _ _ => ?_)
    | refine fk_binI (fk_f_X2_holds _ _ _ _) (by assumption) (fun _ _ _ => ?_)
    | refine fk_callV (fk_X2_costOfSign_b29 _ _) (by assumption) (fun _ _ _ => ?_)
    | refine fk_bind (fk_X2_costOfSign_b29 _ _) (by assumption) (fun _ _ _ => ?_)
    | refine fk_binI (fk_X2_costOfSign_b29 _ _) (by assumption) (fun _ _ _ => ?_))
theorem fk_X2_costOf_b18 (rc18 : Nat → Nat → Nat → Int32 → Int32 → KH → KO Int32) (hr18 : ∀ (u0 : Nat) (u1 : Nat) (u2 : Nat) (u3 : Int32) (u4 : Int32) (u5 : KH), FW u5 (rc18 u0 u1 u2 u3 u4 u5)) (v0 : Nat) (v1 : Nat) (v2 : Nat) (v3 : Int32) (v4 : Int32) (h : KH) : FW h (X2_costOf_b18 rc18 v0 v1 v2 v3 v4 h) := by
  unfold X2_costOf_b18
  have q0 : FK h h := FK.rf h
  repeat' with_reducible (first
    | exact fk_ret (by assumption)
    | exact fk_retZ (by assumption)
    | exact fk_retC (by assumption)
    | exact fk_thr (by assumption)
    | exact fk_none
    | exact fk_go (hr18 _ _ _ _ _ _) (by assumption)
    | exact fk_go (fk_f_X2_costOfSign _ _ _ _) (by assumption)
    | refine fk_gI (fun _ => ?_)
    | refine fk_gR (fun _ => ?_)
    | refine fk_gN (fun _ => ?_)
    | refine fk_gAI (fun _ => ?_)
    | refine fk_gAL (fun _ => ?_)
    | refine fk_gAN (fun _ => ?_)
    | refine fk_kif ?_ ?_
    | refine fk_nul ?_ (fun _ => ?_)
    | refine fk_may (fun _ => ?_)
    | refine fk_kdv ?_
    | refine fk_pI (by assumption) (by decide) (fun _ _ => ?_)
    | refine fk_pR (by assumption) (fun _ _ => ?_)
    | refine fk_pAI (by assumption) (by decide) (fun _ _ => ?_)
    | refine fk_pAZ (by assumption) (by decide) (fun _ _ => ?_)
    | refine fk_pAL (by assumption) (fun _ _ => ?_)
    | refine fk_pAN (by assumption) (fun _ _ => ?_)
    | refine fk_nw (by assumption) (by decide) (fun _ _ _ => ?_)
    | refine fk_nwM (by assumption) (fun _ _ _ => ?_)
    | refine fk_callV (hr18 _ _ _ _ _ _) (by assumption) (fun _ _ _ => ?_)
    | refine fk_bind (hr18 _ _ _ _ _ _) (by assumption) (fun _ _ _ => ?_)
    | refine fk_binI (hr18 _ _ _ _ _ _) (by assumption) (fun _ _ _ => ?_)
    | refine fk_callV (fk_f_X2_costOfSign _ _ _ _) (by assumption) (fun _ _ _ => ?_)
    | refine fk_bind (fk_f_X2_costOfSign _ _ _ _) (by assumption) (fun _ _ _ => ?_)
    | refine fk_binI (fk_f_X2_costOfSign _ _ _ _) (by assumption) (fun _ _ _ => ?_))
theorem fk_X2_costOf_L18  : ∀ (m : Nat) (u0 : Nat) (u1 : Nat) (u2 : Nat) (u3 : Int32) (u4 : Int32) (u5 : KH), FW u5 (X2_costOf_L18  m u0 u1 u2 u3 u4 u5) := by
  intro m
  induction m with
  | zero => intro u0 u1 u2 u3 u4 u5; exact fk_none
  | succ m ih => intro u0 u1 u2 u3 u4 u5; exact fk_X2_costOf_b18 (X2_costOf_L18  m) ih u0 u1 u2 u3 u4 u5
theorem fk_f_X2_costOf  (p0 : Nat) (p1 : Nat) (p2 : Nat) (h : KH) : FW h (f_X2_costOf p0 p1 p2 h) := by
  unfold f_X2_costOf
  have q0 : FK h h := FK.rf h
  repeat' with_reducible (first
    | exact fk_ret (by assumption)
    | exact fk_retZ (by assumption)
    | exact fk_retC (by assumption)
    | exact fk_thr (by assumption)
    | exact fk_none
    | exact fk_go (fk_X2_costOf_L18 _ _ _ _ _ _ _) (by assumption)
    | refine fk_gI (fun _ => ?_)
    | refine fk_gR (fun _ => ?_)
    | refine fk_gN (fun _ => ?_)
    | refine fk_gAI (fun _ => ?_)
    | refine fk_gAL (fun _ => ?_)
    | refine fk_gAN (fun _ => ?_)
    | refine fk_kif ?_ ?_
    | refine fk_nul ?_ (fun _ => ?_)
    | refine fk_may (fun _ => ?_)
    | refine fk_kdv ?_
    | refine fk_pI (by assumption) (by decide) (fun _ _ => ?_)
    | refine fk_pR (by assumption) (fun _ _ => ?_)
    | refine fk_pAI (by assumption) (by decide) (fun _ _ => ?_)
    | refine fk_pAZ (by assumption) (by decide) (fun _ _ => ?_)
    | refine fk_pAL (by assumption) (fun _ _ => ?_)
    | refine fk_pAN (by assumption) (fun _ _ => ?_)
    | refine fk_nw (by assumption) (by decide) (fun _ _ _ => ?_)
    | refine fk_nwM (by assumption) (fun _ _ _ => ?_)
    | refine fk_callV (fk_X2_costOf_L18 _ _ _ _ _ _ _) (by assumption) (fun _ _ _ => ?_)
    | refine fk_bind (fk_X2_costOf_L18 _ _ _ _ _ _ _) (by assumption) (fun _ _ _ => ?_)
    | refine fk_binI (fk_X2_costOf_L18 _ _ _ _ _ _ _) (by assumption) (fun _ _ _ => ?_))
theorem fk_X9_plateByText_b65 (rc7 : Nat → Nat → Option Nat → Int32 → Int32 → KH → KO (Option Nat)) (hr7 : ∀ (u0 : Nat) (u1 : Nat) (u2 : Option Nat) (u3 : Int32) (u4 : Int32) (u5 : KH), FW u5 (rc7 u0 u1 u2 u3 u4 u5)) (v0 : Nat) (v1 : Nat) (v2 : Option Nat) (v3 : Int32) (v4 : Int32) (h : KH) : FW h (X9_plateByText_b65 rc7 v0 v1 v2 v3 v4 h) := by
  unfold X9_plateByText_b65
  have q0 : FK h h := FK.rf h
  repeat' with_reducible (first
    | exact fk_ret (by assumption)
    | exact fk_retZ (by assumption)
    | exact fk_retC (by assumption)
    | exact fk_thr (by assumption)
    | exact fk_none
    | exact fk_go (hr7 _ _ _ _ _ _) (by assumption)
    | refine fk_gI (fun _ => ?_)
    | refine fk_gR (fun _ => ?_)
    | refine fk_gN (fun _ => ?_)
    | refine fk_gAI (fun _ => ?_)
    | refine fk_gAL (fun _ => ?_)
    | refine fk_gAN (fun _ => ?_)
    | refine fk_kif ?_ ?_
    | refine fk_nul ?_ (fun _ => ?_)
    | refine fk_may (fun _ => ?_)
    | refine fk_kdv ?_
    | refine fk_pI (by assumption) (by decide) (fun _ _ => ?_)
    | refine fk_pR (by assumption) (fun _ _ => ?_)
    | refine fk_pAI (by assumption) (by decide) (fun _ _ => ?_)
    | refine fk_pAZ (by assumption) (by decide) (fun _ _ => ?_)
    | refine fk_pAL (by assumption) (fun _ _ => ?_)
    | refine fk_pAN (by assumption) (fun _ _ => ?_)
    | refine fk_nw (by assumption) (by decide) (fun _ _ _ => ?_)
    | refine fk_nwM (by assumption) (fun _ _ _ => ?_)
    | refine fk_callV (hr7 _ _ _ _ _ _) (by assumption) (fun _ _ _ => ?_)
    | refine fk_bind (hr7 _ _ _ _ _ _) (by assumption) (fun _ _ _ => ?_)
    | refine fk_binI (hr7 _ _ _ _ _ _) (by assumption) (fun _ _ _ => ?_))
theorem fk_X9_plateByText_b59 (rc7 : Nat → Nat → Option Nat → Int32 → Int32 → KH → KO (Option Nat)) (hr7 : ∀ (u0 : Nat) (u1 : Nat) (u2 : Option Nat) (u3 : Int32) (u4 : Int32) (u5 : KH), FW u5 (rc7 u0 u1 u2 u3 u4 u5)) (v0 : Nat) (v1 : Nat) (v4 : Int32) (v5 : Nat) (v6 : Int32) (h : KH) : FW h (X9_plateByText_b59 rc7 v0 v1 v4 v5 v6 h) := by
  unfold X9_plateByText_b59
  have q0 : FK h h := FK.rf h
  repeat' with_reducible (first
    | exact fk_ret (by assumption)
    | exact fk_retZ (by assumption)
    | exact fk_retC (by assumption)
    | exact fk_thr (by assumption)
    | exact fk_none
    | exact fk_go (hr7 _ _ _ _ _ _) (by assumption)
    | exact fk_go (fk_X9_plateByText_b65 _ (by assumption) _ _ _ _ _ _) (by assumption)
    | refine fk_gI (fun _ => ?_)
    | refine fk_gR (fun _ => ?_)
    | refine fk_gN (fun _ => ?_)
    | refine fk_gAI (fun _ => ?_)
    | refine fk_gAL (fun _ => ?_)
    | refine fk_gAN (fun _ => ?_)
    | refine fk_kif ?_ ?_
    | refine fk_nul ?_ (fun _ => ?_)
    | refine fk_may (fun _ => ?_)
    | refine fk_kdv ?_
    | refine fk_pI (by assumption) (by decide) (fun _ _ => ?_)
    | refine fk_pR (by assumption) (fun _ _ => ?_)
    | refine fk_pAI (by assumption) (by decide) (fun _ _ => ?_)
    | refine fk_pAZ (by assumption) (by decide) (fun _ _ => ?_)
    | refine fk_pAL (by assumption) (fun _ _ => ?_)
    | refine fk_pAN (by assumption) (fun _ _ => ?_)
    | refine fk_nw (by assumption) (by decide) (fun _ _ _ => ?_)
    | refine fk_nwM (by assumption) (fun _ _ _ => ?_)
    | refine fk_callV (hr7 _ _ _ _ _ _) (by assumption) (fun _ _ _ => ?_)
    | refine fk_bind (hr7 _ _ _ _ _ _) (by assumption) (fun _ _ _ => ?_)
    | refine fk_binI (hr7 _ _ _ _ _ _) (by assumption) (fun _ _ _ => ?_)
    | refine fk_callV (fk_X9_plateByText_b65 _ (by assumption) _ _ _ _ _ _) (by assumption) (fun _ _ _ => ?_)
    | refine fk_bind (fk_X9_plateByText_b65 _ (by assumption) _ _ _ _ _ _) (by assumption) (fun _ _ _ => ?_)
    | refine fk_binI (fk_X9_plateByText_b65 _ (by assumption) _ _ _ _ _ _) (by assumption) (fun _ _ _ => ?_))
theorem fk_X9_plateByText_b7 (rc7 : Nat → Nat → Option Nat → Int32 → Int32 → KH → KO (Option Nat)) (hr7 : ∀ (u0 : Nat) (u1 : Nat) (u2 : Option Nat) (u3 : Int32) (u4 : Int32) (u5 : KH), FW u5 (rc7 u0 u1 u2 u3 u4 u5)) (v0 : Nat) (v1 : Nat) (v2 : Option Nat) (v3 : Int32) (v4 : Int32) (h : KH) : FW h (X9_plateByText_b7 rc7 v0 v1 v2 v3 v4 h) := by
  unfold X9_plateByText_b7
  have q0 : FK h h := FK.rf h
  repeat' with_reducible (first
    | exact fk_ret (by assumption)
    | exact fk_retZ (by assumption)
    | exact fk_retC (by assumption)
    | exact fk_thr (by assumption)
    | exact fk_none
    | exact fk_go (hr7 _ _ _ _ _ _) (by assumption)
    | exact fk_go (fk_f_X2_costOf _ _ _ _) (by assumption)
    | exact fk_go (fk_X9_plateByText_b65 _ (by assumption) _ _ _ _ _ _) (by assumption)
    | exact fk_go (fk_X9_plateByText_b59 _ (by assumption) _ _ _ _ _ _) (by assumption)
    | refine fk_gI (fun _ => ?_)
    | refine fk_gR (fun _ => ?_)
    | refine fk_gN (fun _ => ?_)
    | refine fk_gAI (fun _ => ?_)
    | refine fk_gAL (fun _ => ?_)
    | refine fk_gAN (fun _ => ?_)
    | refine fk_kif ?_ ?_
    | refine fk_nul ?_ (fun _ => ?_)
    | refine fk_may (fun _ => ?_)
    | refine fk_kdv ?_
    | refine fk_pI (by assumption) (by decide) (fun _ _ => ?_)
    | refine fk_pR (by assumption) (fun _ _ => ?_)
    | refine fk_pAI (by assumption) (by decide) (fun _ _ => ?_)
    | refine fk_pAZ (by assumption) (by decide) (fun _ _ => ?_)
    | refine fk_pAL (by assumption) (fun _ _ => ?_)
    | refine fk_pAN (by assumption) (fun _ _ => ?_)
    | refine fk_nw (by assumption) (by decide) (fun _ _ _ => ?_)
    | refine fk_nwM (by assumption) (fun _ _ _ => ?_)
    | refine fk_callV (hr7 _ _ _ _ _ _) (by assumption) (fun _ _ _ => ?_)
    | refine fk_bind (hr7 _ _ _ _ _ _) (by assumption) (fun _ _ _ => ?_)
    | refine fk_binI (hr7 _ _ _ _ _ _) (by assumption) (fun _ _ _ => ?_)
    | refine fk_callV (fk_f_X2_costOf _ _ _ _) (by assumption) (fun _ _ _ => ?_)
    | refine fk_bind (fk_f_X2_costOf _ _ _ _) (by assumption) (fun _ _ _ => ?_)
    | refine fk_binI (fk_f_X2_costOf _ _ _ _) (by assumption) (fun _ _ _ => ?_)
    | refine fk_callV (fk_X9_plateByText_b65 _ (by assumption) _ _ _ _ _ _) (by assumption) (fun _ _ _ => ?_)
    | refine fk_bind (fk_X9_plateByText_b65 _ (by assumption) _ _ _ _ _ _) (by assumption) (fun _ _ _ => ?_)
    | refine fk_binI (fk_X9_plateByText_b65 _ (by assumption) _ _ _ _ _ _) (by assumption) (fun _ _ _ => ?_)
    | refine fk_callV (fk_X9_plateByText_b59 _ (by assumption) _ _ _ _ _ _) (by assumption) (fun _ _ _ => ?_)
    | refine fk_bind (fk_X9_plateByText_b59 _ (by assumption) _ _ _ _ _ _) (by assumption) (fun _ _ _ => ?_)
    | refine fk_binI (fk_X9_plateByText_b59 _ (by assumption) _ _ _ _ _ _) (by assumption) (fun _ _ _ => ?_))
theorem fk_X9_plateByText_L7  : ∀ (m : Nat) (u0 : Nat) (u1 : Nat) (u2 : Option Nat) (u3 : Int32) (u4 : Int32) (u5 : KH), FW u5 (X9_plateByText_L7  m u0 u1 u2 u3 u4 u5) := by
  intro m
  induction m with
  | zero => intro u0 u1 u2 u3 u4 u5; exact fk_none
  | succ m ih => intro u0 u1 u2 u3 u4 u5; exact fk_X9_plateByText_b7 (X9_plateByText_L7  m) ih u0 u1 u2 u3 u4 u5
theorem fk_f_X9_plateByText  (p0 : Nat) (p1 : Nat) (h : KH) : FW h (f_X9_plateByText p0 p1 h) := by
  unfold f_X9_plateByText
  have q0 : FK h h := FK.rf h
  repeat' with_reducible (first
    | exact fk_ret (by assumption)
    | exact fk_retZ (by assumption)
    | exact fk_retC (by assumption)
    | exact fk_thr (by assumption)
    | exact fk_none
    | exact fk_go (fk_X9_plateByText_L7 _ _ _ _ _ _ _) (by assumption)
    | refine fk_gI (fun _ => ?_)
    | refine fk_gR (fun _ => ?_)
    | refine fk_gN (fun _ => ?_)
    | refine fk_gAI (fun _ => ?_)
    | refine fk_gAL (fun _ => ?_)
    | refine fk_gAN (fun _ => ?_)
    | refine fk_kif ?_ ?_
    | refine fk_nul ?_ (fun _ => ?_)
    | refine fk_may (fun _ => ?_)
    | refine fk_kdv ?_
    | refine fk_pI (by assumption) (by decide) (fun _ _ => ?_)
    | refine fk_pR (by assumption) (fun _ _ => ?_)
    | refine fk_pAI (by assumption) (by decide) (fun _ _ => ?_)
    | refine fk_pAZ (by assumption) (by decide) (fun _ _ => ?_)
    | refine fk_pAL (by assumption) (fun _ _ => ?_)
    | refine fk_pAN (by assumption) (fun _ _ => ?_)
    | refine fk_nw (by assumption) (by decide) (fun _ _ _ => ?_)
    | refine fk_nwM (by assumption) (fun _ _ _ => ?_)
    | refine fk_callV (fk_X9_plateByText_L7 _ _ _ _ _ _ _) (by assumption) (fun _ _ _ => ?_)
    | refine fk_bind (fk_X9_plateByText_L7 _ _ _ _ _ _ _) (by assumption) (fun _ _ _ => ?_)
    | refine fk_binI (fk_X9_plateByText_L7 _ _ _ _ _ _ _) (by assumption) (fun _ _ _ => ?_))
theorem fk_X9_numberOf_b12  (s0 : Int32) (h : KH) : FW h (X9_numberOf_b12 s0 h) := by
  unfold X9_numberOf_b12
  have q0 : FK h h := FK.rf h
  repeat' with_reducible (first
    | exact fk_ret (by assumption)
    | exact fk_retZ (by assumption)
    | exact fk_retC (by assumption)
    | exact fk_thr (by assumption)
    | exact fk_none
    | refine fk_gI (fun _ => ?_)
    | refine fk_gR (fun _ => ?_)
    | refine fk_gN (fun _ => ?_)
    | refine fk_gAI (fun _ => ?_)
    | refine fk_gAL (fun _ => ?_)
    | refine fk_gAN (fun _ => ?_)
    | refine fk_kif ?_ ?_
    | refine fk_nul ?_ (fun _ => ?_)
    | refine fk_may (fun _ => ?_)
    | refine fk_kdv ?_
    | refine fk_pI (by assumption) (by decide) (fun _ _ => ?_)
    | refine fk_pR (by assumption) (fun _ _ => ?_)
    | refine fk_pAI (by assumption) (by decide) (fun _ _ => ?_)
    | refine fk_pAZ (by assumption) (by decide) (fun _ _ => ?_)
    | refine fk_pAL (by assumption) (fun _ _ => ?_)
    | refine fk_pAN (by assumption) (fun _ _ => ?_)
    | refine fk_nw (by assumption) (by decide) (fun _ _ _ => ?_)
    | refine fk_nwM (by assumption) (fun _ _ _ => ?_))
theorem fk_f_X9_numberOf  (p0 : Option Nat) (h : KH) : FW h (f_X9_numberOf p0 h) := by
  unfold f_X9_numberOf
  have q0 : FK h h := FK.rf h
  repeat' with_reducible (first
    | exact fk_ret (by assumption)
    | exact fk_retZ (by assumption)
    | exact fk_retC (by assumption)
    | exact fk_thr (by assumption)
    | exact fk_none
    | exact fk_go (fk_X9_numberOf_b12 _ _) (by assumption)
    | refine fk_gI (fun _ => ?_)
    | refine fk_gR (fun _ => ?_)
    | refine fk_gN (fun _ => ?_)
    | refine fk_gAI (fun _ => ?_)
    | refine fk_gAL (fun _ => ?_)
    | refine fk_gAN (fun _ => ?_)
    | refine fk_kif ?_ ?_
    | refine fk_nul ?_ (fun _ => ?_)
    | refine fk_may (fun _ => ?_)
    | refine fk_kdv ?_
    | refine fk_pI (by assumption) (by decide) (fun _ _ => ?_)
    | refine fk_pR (by assumption) (fun _ _ => ?_)
    | refine fk_pAI (by assumption) (by decide) (fun _ _ => ?_)
    | refine fk_pAZ (by assumption) (by decide) (fun _ _ => ?_)
    | refine fk_pAL (by assumption) (fun _ _ => ?_)
    | refine fk_pAN (by assumption) (fun _ _ => ?_)
    | refine fk_nw (by assumption) (by decide) (fun _ _ _ => ?_)
    | refine fk_nwM (by assumption) (fun _ _ _ => ?_)
    | refine fk_callV (fk_X9_numberOf_b12 _ _) (by assumption) (fun _ _ _ => ?_)
    | refine fk_bind (fk_X9_numberOf_b12 _ _) (by assumption) (fun _ _ _ => ?_)
    | refine fk_binI (fk_X9_numberOf_b12 _ _) (by assumption) (fun _ _ _ => ?_))
theorem fk_X3_placeOf_b2 (rc2 : Nat → Nat → Int32 → KH → KO Int32) (hr2 : ∀ (u0 : Nat) (u1 : Nat) (u2 : Int32) (u3 : KH), FW u3 (rc2 u0 u1 u2 u3)) (v0 : Nat) (v1 : Nat) (v2 : Int32) (h : KH) : FW h (X3_placeOf_b2 rc2 v0 v1 v2 h) := by
  unfold X3_placeOf_b2
  have q0 : FK h h := FK.rf h
  repeat' with_reducible (first
    | exact fk_ret (by assumption)
    | exact fk_retZ (by assumption)
    | exact fk_retC (by assumption)
    | exact fk_thr (by assumption)
    | exact fk_none
    | exact fk_go (hr2 _ _ _ _) (by assumption)
    | refine fk_gI (fun _ => ?_)
    | refine fk_gR (fun _ => ?_)
    | refine fk_gN (fun _ => ?_)
    | refine fk_gAI (fun _ => ?_)
    | refine fk_gAL (fun _ => ?_)
    | refine fk_gAN (fun _ => ?_)
    | refine fk_kif ?_ ?_
    | refine fk_nul ?_ (fun _ => ?_)
    | refine fk_may (fun _ => ?_)
    | refine fk_kdv ?_
    | refine fk_pI (by assumption) (by decide) (fun _ _ => ?_)
    | refine fk_pR (by assumption) (fun _ _ => ?_)
    | refine fk_pAI (by assumption) (by decide) (fun _ _ => ?_)
    | refine fk_pAZ (by assumption) (by decide) (fun _ _ => ?_)
    | refine fk_pAL (by assumption) (fun _ _ => ?_)
    | refine fk_pAN (by assumption) (fun _ _ => ?_)
    | refine fk_nw (by assumption) (by decide) (fun _ _ _ => ?_)
    | refine fk_nwM (by assumption) (fun _ _ _ => ?_)
    | refine fk_callV (hr2 _ _ _ _) (by assumption) (fun _ _ _ => ?_)
    | refine fk_bind (hr2 _ _ _ _) (by assumption) (fun _ _ _ => ?_)
    | refine fk_binI (hr2 _ _ _ _) (by assumption) (fun _ _ _ => ?_))
theorem fk_X3_placeOf_L2  : ∀ (m : Nat) (u0 : Nat) (u1 : Nat) (u2 : Int32) (u3 : KH), FW u3 (X3_placeOf_L2  m u0 u1 u2 u3) := by
  intro m
  induction m with
  | zero => intro u0 u1 u2 u3; exact fk_none
  | succ m ih => intro u0 u1 u2 u3; exact fk_X3_placeOf_b2 (X3_placeOf_L2  m) ih u0 u1 u2 u3
theorem fk_f_X3_placeOf  (p0 : Nat) (p1 : Nat) (h : KH) : FW h (f_X3_placeOf p0 p1 h) := by
  unfold f_X3_placeOf
  have q0 : FK h h := FK.rf h
  repeat' with_reducible (first
    | exact fk_ret (by assumption)
    | exact fk_retZ (by assumption)
    | exact fk_retC (by assumption)
    | exact fk_thr (by assumption)
    | exact fk_none
    | exact fk_go (fk_X3_placeOf_L2 _ _ _ _ _) (by assumption)
    | refine fk_gI (fun _ => ?_)
    | refine fk_gR (fun _ => ?_)
    | refine fk_gN (fun _ => ?_)
    | refine fk_gAI (fun _ => ?_)
    | refine fk_gAL (fun _ => ?_)
    | refine fk_gAN (fun _ => ?_)
    | refine fk_kif ?_ ?_
    | refine fk_nul ?_ (fun _ => ?_)
    | refine fk_may (fun _ => ?_)
    | refine fk_kdv ?_
    | refine fk_pI (by assumption) (by decide) (fun _ _ => ?_)
    | refine fk_pR (by assumption) (fun _ _ => ?_)
    | refine fk_pAI (by assumption) (by decide) (fun _ _ => ?_)
    | refine fk_pAZ (by assumption) (by decide) (fun _ _ => ?_)
    | refine fk_pAL (by assumption) (fun _ _ => ?_)
    | refine fk_pAN (by assumption) (fun _ _ => ?_)
    | refine fk_nw (by assumption) (by decide) (fun _ _ _ => ?_)
    | refine fk_nwM (by assumption) (fun _ _ _ => ?_)
    | refine fk_callV (fk_X3_placeOf_L2 _ _ _ _ _) (by assumption) (fun _ _ _ => ?_)
    | refine fk_bind (fk_X3_placeOf_L2 _ _ _ _ _) (by assumption) (fun _ _ _ => ?_)
    | refine fk_binI (fk_X3_placeOf_L2 _ _ _ _ _) (by assumption) (fun _ _ _ => ?_))
theorem fk_X3_take_b25 (rc25 : Nat → Nat → Int32 → Int32 → KH → KO Unit) (hr25 : ∀ (u0 : Nat) (u1 : Nat) (u2 : Int32) (u3 : Int32) (u4 : KH), FW u4 (rc25 u0 u1 u2 u3 u4)) (v0 : Nat) (v2 : Nat) (v3 : Int32) (v4 : Int32) (h : KH) : FW h (X3_take_b25 rc25 v0 v2 v3 v4 h) := by
  unfold X3_take_b25
  have q0 : FK h h := FK.rf h
  repeat' with_reducible (first
    | exact fk_ret (by assumption)
    | exact fk_retZ (by assumption)
    | exact fk_retC (by assumption)
    | exact fk_thr (by assumption)
    | exact fk_none
    | exact fk_go (hr25 _ _ _ _ _) (by assumption)
    | exact fk_go (fk_f_X3_seeBeginning _ _ _ _) (by assumption)
    | refine fk_gI (fun _ => ?_)
    | refine fk_gR (fun _ => ?_)
    | refine fk_gN (fun _ => ?_)
    | refine fk_gAI (fun _ => ?_)
    | refine fk_gAL (fun _ => ?_)
    | refine fk_gAN (fun _ => ?_)
    | refine fk_kif ?_ ?_
    | refine fk_nul ?_ (fun _ => ?_)
    | refine fk_may (fun _ => ?_)
    | refine fk_kdv ?_
    | refine fk_pI (by assumption) (by decide) (fun _ _ => ?_)
    | refine fk_pR (by assumption) (fun _ _ => ?_)
    | refine fk_pAI (by assumption) (by decide) (fun _ _ => ?_)
    | refine fk_pAZ (by assumption) (by decide) (fun _ _ => ?_)
    | refine fk_pAL (by assumption) (fun _ _ => ?_)
    | refine fk_pAN (by assumption) (fun _ _ => ?_)
    | refine fk_nw (by assumption) (by decide) (fun _ _ _ => ?_)
    | refine fk_nwM (by assumption) (fun _ _ _ => ?_)
    | refine fk_callV (hr25 _ _ _ _ _) (by assumption) (fun _ _ _ => ?_)
    | refine fk_bind (hr25 _ _ _ _ _) (by assumption) (fun _ _ _ => ?_)
    | refine fk_binI (hr25 _ _ _ _ _) (by assumption) (fun _ _ _ => ?_)
    | refine fk_callV (fk_f_X3_seeBeginning _ _ _ _) (by assumption) (fun _ _ _ => ?_)
    | refine fk_bind (fk_f_X3_seeBeginning _ _ _ _) (by assumption) (fun _ _ _ => ?_)
    | refine fk_binI (fk_f_X3_seeBeginning _ _ _ _) (by assumption) (fun _ _ _ => ?_))
theorem fk_X3_take_L25  : ∀ (m : Nat) (u0 : Nat) (u1 : Nat) (u2 : Int32) (u3 : Int32) (u4 : KH), FW u4 (X3_take_L25  m u0 u1 u2 u3 u4) := by
  intro m
  induction m with
  | zero => intro u0 u1 u2 u3 u4; exact fk_none
  | succ m ih => intro u0 u1 u2 u3 u4; exact fk_X3_take_b25 (X3_take_L25  m) ih u0 u1 u2 u3 u4
theorem fk_f_X3_take  (p0 : Nat) (p1 : Nat) (p2 : Nat) (h : KH) : FW h (f_X3_take p0 p1 p2 h) := by
  unfold f_X3_take
  have q0 : FK h h := FK.rf h
  repeat' with_reducible (first
    | exact fk_ret (by assumption)
    | exact fk_retZ (by assumption)
    | exact fk_retC (by assumption)
    | exact fk_thr (by assumption)
    | exact fk_none
    | exact fk_go (fk_f_X3_placeOf _ _ _) (by assumption)
    | exact fk_go (fk_X3_take_L25 _ _ _ _ _ _) (by assumption)
    | refine fk_gI (fun _ => ?_)
    | refine fk_gR (fun _ => ?_)
    | refine fk_gN (fun _ => ?_)
    | refine fk_gAI (fun _ => ?_)
    | refine fk_gAL (fun _ => ?_)
    | refine fk_gAN (fun _ => ?_)
    | refine fk_kif ?_ ?_
    | refine fk_nul ?_ (fun _ => ?_)
    | refine fk_may (fun _ => ?_)
    | refine fk_kdv ?_
    | refine fk_pI (by assumption) (by decide) (fun _ _ => ?_)
    | refine fk_pR (by assumption) (fun _ _ => ?_)
    | refine fk_pAI (by assumption) (by decide) (fun _ _ => ?_)
    | refine fk_pAZ (by assumption) (by decide) (fun _ _ => ?_)
    | refine fk_pAL (by assumption) (fun _ _ => ?_)
    | refine fk_pAN (by assumption) (fun _ _ => ?_)
    | refine fk_nw (by assumption) (by decide) (fun _ _ _ => ?_)
    | refine fk_nwM (by assumption) (fun _ _ _ => ?_)
    | refine fk_callV (fk_f_X3_placeOf _ _ _) (by assumption) (fun _ _ _ => ?_)
    | refine fk_bind (fk_f_X3_placeOf _ _ _) (by assumption) (fun _ _ _ => ?_)
    | refine fk_binI (fk_f_X3_placeOf _ _ _) (by assumption) (fun _ _ _ => ?_)
    | refine fk_callV (fk_X3_take_L25 _ _ _ _ _ _) (by assumption) (fun _ _ _ => ?_)
    | refine fk_bind (fk_X3_take_L25 _ _ _ _ _ _) (by assumption) (fun _ _ _ => ?_)
    | refine fk_binI (fk_X3_take_L25 _ _ _ _ _ _) (by assumption) (fun _ _ _ => ?_))
theorem fk_X5_isAheadOf_b38  (s0 : Int32) (h : KH) : FW h (X5_isAheadOf_b38 s0 h) := by
  unfold X5_isAheadOf_b38
  have q0 : FK h h := FK.rf h
  repeat' with_reducible (first
    | exact fk_ret (by assumption)
    | exact fk_retZ (by assumption)
    | exact fk_retC (by assumption)
    | exact fk_thr (by assumption)
    | exact fk_none
    | refine fk_gI (fun _ => ?_)
    | refine fk_gR (fun _ => ?_)
    | refine fk_gN (fun _ => ?_)
    | refine fk_gAI (fun _ => ?_)
    | refine fk_gAL (fun _ => ?_)
    | refine fk_gAN (fun _ => ?_)
    | refine fk_kif ?_ ?_
    | refine fk_nul ?_ (fun _ => ?_)
    | refine fk_may (fun _ => ?_)
    | refine fk_kdv ?_
    | refine fk_pI (by assumption) (by decide) (fun _ _ => ?_)
    | refine fk_pR (by assumption) (fun _ _ => ?_)
    | refine fk_pAI (by assumption) (by decide) (fun _ _ => ?_)
    | refine fk_pAZ (by assumption) (by decide) (fun _ _ => ?_)
    | refine fk_pAL (by assumption) (fun _ _ => ?_)
    | refine fk_pAN (by assumption) (fun _ _ => ?_)
    | refine fk_nw (by assumption) (by decide) (fun _ _ _ => ?_)
    | refine fk_nwM (by assumption) (fun _ _ _ => ?_))
theorem fk_X5_isAheadOf_b37  (h : KH) : FW h (X5_isAheadOf_b37 h) := by
  unfold X5_isAheadOf_b37
  have q0 : FK h h := FK.rf h
  repeat' with_reducible (first
    | exact fk_ret (by assumption)
    | exact fk_retZ (by assumption)
    | exact fk_retC (by assumption)
    | exact fk_thr (by assumption)
    | exact fk_none
    | exact fk_go (fk_X5_isAheadOf_b38 _ _) (by assumption)
    | refine fk_gI (fun _ => ?_)
    | refine fk_gR (fun _ => ?_)
    | refine fk_gN (fun _ => ?_)
    | refine fk_gAI (fun _ => ?_)
    | refine fk_gAL (fun _ => ?_)
    | refine fk_gAN (fun _ => ?_)
    | refine fk_kif ?_ ?_
    | refine fk_nul ?_ (fun _ => ?_)
    | refine fk_may (fun _ => ?_)
    | refine fk_kdv ?_
    | refine fk_pI (by assumption) (by decide) (fun _ _ => ?_)
    | refine fk_pR (by assumption) (fun _ _ => ?_)
    | refine fk_pAI (by assumption) (by decide) (fun _ _ => ?_)
    | refine fk_pAZ (by assumption) (by decide) (fun _ _ => ?_)
    | refine fk_pAL (by assumption) (fun _ _ => ?_)
    | refine fk_pAN (by assumption) (fun _ _ => ?_)
    | refine fk_nw (by assumption) (by decide) (fun _ _ _ => ?_)
    | refine fk_nwM (by assumption) (fun _ _ _ => ?_)
    | refine fk_callV (fk_X5_isAheadOf_b38 _ _) (by assumption) (fun _ _ _ => ?_)
    | refine fk_bind (fk_X5_isAheadOf_b38 _ _) (by assumption) (fun _ _ _ => ?_)
    | refine fk_binI (fk_X5_isAheadOf_b38 _ _) (by assumption) (fun _ _ _ => ?_))
theorem fk_X5_isAheadOf_b33  (h : KH) : FW h (X5_isAheadOf_b33 h) := by
  unfold X5_isAheadOf_b33
  have q0 : FK h h := FK.rf h
  repeat' with_reducible (first
    | exact fk_ret (by assumption)
    | exact fk_retZ (by assumption)
    | exact fk_retC (by assumption)
    | exact fk_thr (by assumption)
    | exact fk_none
    | exact fk_go (fk_X5_isAheadOf_b38 _ _) (by assumption)
    | refine fk_gI (fun _ => ?_)
    | refine fk_gR (fun _ => ?_)
    | refine fk_gN (fun _ => ?_)
    | refine fk_gAI (fun _ => ?_)
    | refine fk_gAL (fun _ => ?_)
    | refine fk_gAN (fun _ => ?_)
    | refine fk_kif ?_ ?_
    | refine fk_nul ?_ (fun _ => ?_)
    | refine fk_may (fun _ => ?_)
    | refine fk_kdv ?_
    | refine fk_pI (by assumption) (by decide) (fun _ _ => ?_)
    | refine fk_pR (by assumption) (fun _ _ => ?_)
    | refine fk_pAI (by assumption) (by decide) (fun _ _ => ?_)
    | refine fk_pAZ (by assumption) (by decide) (fun _ _ => ?_)
    | refine fk_pAL (by assumption) (fun _ _ => ?_)
    | refine fk_pAN (by assumption) (fun _ _ => ?_)
    | refine fk_nw (by assumption) (by decide) (fun _ _ _ => ?_)
    | refine fk_nwM (by assumption) (fun _ _ _ => ?_)
    | refine fk_callV (fk_X5_isAheadOf_b38 _ _) (by assumption) (fun _ _ _ => ?_)
    | refine fk_bind (fk_X5_isAheadOf_b38 _ _) (by assumption) (fun _ _ _ => ?_)
    | refine fk_binI (fk_X5_isAheadOf_b38 _ _) (by assumption) (fun _ _ _ => ?_))
theorem fk_f_X5_isAheadOf  (p0 : Nat) (p1 : Nat) (h : KH) : FW h (f_X5_isAheadOf p0 p1 h) := by
  unfold f_X5_isAheadOf
  have q0 : FK h h := FK.rf h
  repeat' with_reducible (first
    | exact fk_ret (by assumption)
    | exact fk_retZ (by assumption)
    | exact fk_retC (by assumption)
    | exact fk_thr (by assumption)
    | exact fk_none
    | exact fk_go (fk_X5_isAheadOf_b33 _) (by assumption)
    | exact fk_go (fk_X5_isAheadOf_b37 _) (by assumption)
    | refine fk_gI (fun _ => ?_)
    | refine fk_gR (fun _ => ?_)
    | refine fk_gN (fun _ => ?_)
    | refine fk_gAI (fun _ => ?_)
    | refine fk_gAL (fun _ => ?_)
    | refine fk_gAN (fun _ => ?_)
    | refine fk_kif ?_ ?_
    | refine fk_nul ?_ (fun _ => ?_)
    | refine fk_may (fun _ => ?_)
    | refine fk_kdv ?_
    | refine fk_pI (by assumption) (by decide) (fun _ _ => ?_)
    | refine fk_pR (by assumption) (fun _ _ => ?_)
    | refine fk_pAI (by assumption) (by decide) (fun _ _ => ?_)
    | refine fk_pAZ (by assumption) (by decide) (fun _ _ => ?_)
    | refine fk_pAL (by assumption) (fun _ _ => ?_)
    | refine fk_pAN (by assumption) (fun _ _ => ?_)
    | refine fk_nw (by assumption) (by decide) (fun _ _ _ => ?_)
    | refine fk_nwM (by assumption) (fun _ _ _ => ?_)
    | refine fk_callV (fk_X5_isAheadOf_b33 _) (by assumption) (fun _ _ _ => ?_)
    | refine fk_bind (fk_X5_isAheadOf_b33 _) (by assumption) (fun _ _ _ => ?_)
    | refine fk_binI (fk_X5_isAheadOf_b33 _) (by assumption) (fun _ _ _ => ?_)
    | refine fk_callV (fk_X5_isAheadOf_b37 _) (by assumption) (fun _ _ _ => ?_)
    | refine fk_bind (fk_X5_isAheadOf_b37 _) (by assumption) (fun _ _ _ => ?_)
    | refine fk_binI (fk_X5_isAheadOf_b37 _) (by assumption) (fun _ _ _ => ?_))
theorem fk_X3_insertInOrder_b58  (v0 : Nat) (v1 : Nat) (v2 : Int32) (h : KH) : FW h (X3_insertInOrder_b58 v0 v1 v2 h) := by
  unfold X3_insertInOrder_b58
  have q0 : FK h h := FK.rf h
  repeat' with_reducible (first
    | exact fk_ret (by assumption)
    | exact fk_retZ (by assumption)
    | exact fk_retC (by assumption)
    | exact fk_thr (by assumption)
    | exact fk_none
    | refine fk_gI (fun _ => ?_)
    | refine fk_gR (fun _ => ?_)
    | refine fk_gN (fun _ => ?_)
    | refine fk_gAI (fun _ => ?_)
    | refine fk_gAL (fun _ => ?_)
    | refine fk_gAN (fun _ => ?_)
    | refine fk_kif ?_ ?_
    | refine fk_nul ?_ (fun _ => ?_)
    | refine fk_may (fun _ => ?_)
    | refine fk_kdv ?_
    | refine fk_pI (by assumption) (by decide) (fun _ _ => ?_)
    | refine fk_pR (by assumption) (fun _ _ => ?_)
    | refine fk_pAI (by assumption) (by decide) (fun _ _ => ?_)
    | refine fk_pAZ (by assumption) (by decide) (fun _ _ => ?_)
    | refine fk_pAL (by assumption) (fun _ _ => ?_)
    | refine fk_pAN (by assumption) (fun _ _ => ?_)
    | refine fk_nw (by assumption) (by decide) (fun _ _ _ => ?_)
    | refine fk_nwM (by assumption) (fun _ _ _ => ?_))
theorem fk_X3_insertInOrder_b5 (rc5 : Nat → Nat → Int32 → KH → KO Int32) (hr5 : ∀ (u0 : Nat) (u1 : Nat) (u2 : Int32) (u3 : KH), FW u3 (rc5 u0 u1 u2 u3)) (v0 : Nat) (v1 : Nat) (v2 : Int32) (h : KH) : FW h (X3_insertInOrder_b5 rc5 v0 v1 v2 h) := by
  unfold X3_insertInOrder_b5
  have q0 : FK h h := FK.rf h
  repeat' with_reducible (first
    | exact fk_ret (by assumption)
    | exact fk_retZ (by assumption)
    | exact fk_retC (by assumption)
    | exact fk_thr (by assumption)
    | exact fk_none
    | exact fk_go (hr5 _ _ _ _) (by assumption)
    | exact fk_go (fk_X3_insertInOrder_b58 _ _ _ _) (by assumption)
    | exact fk_go (fk_f_X5_isAheadOf _ _ _) (by assumption)
    | refine fk_gI (fun _ => ?_)
    | refine fk_gR (fun _ => ?_)
    | refine fk_gN (fun _ => ?_)
    | refine fk_gAI (fun _ => ?_)
    | refine fk_gAL (fun _ => ?_)
    | refine fk_gAN (fun _ => ?_)
    | refine fk_kif ?_ ?_
    | refine fk_nul ?_ (fun _ => ?_)
    | refine fk_may (fun _ => ?_)
    | refine fk_kdv ?_
    | refine fk_pI (by assumption) (by decide) (fun _ _ => ?_)
    | refine fk_pR (by assumption) (fun _ _ => ?_)
    | refine fk_pAI (by assumption) (by decide) (fun _ _ => ?_)
    | refine fk_pAZ (by assumption) (by decide) (fun _ _ => ?_)
    | refine fk_pAL (by assumption) (fun _ _ => ?_)
    | refine fk_pAN (by assumption) (fun _ _ => ?_)
    | refine fk_nw (by assumption) (by decide) (fun _ _ _ => ?_)
    | refine fk_nwM (by assumption) (fun _ _ _ => ?_)
    | refine fk_callV (hr5 _ _ _ _) (by assumption) (fun _ _ _ => ?_)
    | refine fk_bind (hr5 _ _ _ _) (by assumption) (fun _ _ _ => ?_)
    | refine fk_binI (hr5 _ _ _ _) (by assumption) (fun _ _ _ => ?_)
    | refine fk_callV (fk_X3_insertInOrder_b58 _ _ _ _) (by assumption) (fun _ _ _ => ?_)
    | refine fk_bind (fk_X3_insertInOrder_b58 _ _ _ _) (by assumption) (fun _ _ _ => ?_)
    | refine fk_binI (fk_X3_insertInOrder_b58 _ _ _ _) (by assumption) (fun _ _ _ => ?_)
    | refine fk_callV (fk_f_X5_isAheadOf _ _ _) (by assumption) (fun _ _ _ => ?_)
    | refine fk_bind (fk_f_X5_isAheadOf _ _ _) (by assumption) (fun _ _ _ => ?_)
    | refine fk_binI (fk_f_X5_isAheadOf _ _ _) (by assumption) (fun _ _ _ => ?_))
theorem fk_X3_insertInOrder_L5  : ∀ (m : Nat) (u0 : Nat) (u1 : Nat) (u2 : Int32) (u3 : KH), FW u3 (X3_insertInOrder_L5  m u0 u1 u2 u3) := by
  intro m
  induction m with
  | zero => intro u0 u1 u2 u3; exact fk_none
  | succ m ih => intro u0 u1 u2 u3; exact fk_X3_insertInOrder_b5 (X3_insertInOrder_L5  m) ih u0 u1 u2 u3
theorem fk_f_X3_insertInOrder  (p0 : Nat) (p1 : Nat) (h : KH) : FW h (f_X3_insertInOrder p0 p1 h) := by
  unfold f_X3_insertInOrder
  have q0 : FK h h := FK.rf h
  repeat' with_reducible (first
    | exact fk_ret (by assumption)
    | exact fk_retZ (by assumption)
    | exact fk_retC (by assumption)
    | exact fk_thr (by assumption)
    | exact fk_none
    | exact fk_go (fk_X3_insertInOrder_L5 _ _ _ _ _) (by assumption)
    | refine fk_gI (fun _ => ?_)
    | refine fk_gR (fun _ => ?_)
    | refine fk_gN (fun _ => ?_)
    | refine fk_gAI (fun _ => ?_)
    | refine fk_gAL (fun _ => ?_)
    | refine fk_gAN (fun _ => ?_)
    | refine fk_kif ?_ ?_
    | refine fk_nul ?_ (fun _ => ?_)
    | refine fk_may (fun _ => ?_)
    | refine fk_kdv ?_
    | refine fk_pI (by assumption) (by decide) (fun _ _ => ?_)
    | refine fk_pR (by assumption) (fun _ _ => ?_)
    | refine fk_pAI (by assumption) (by decide) (fun _ _ => ?_)
    | refine fk_pAZ (by assumption) (by decide) (fun _ _ => ?_)
    | refine fk_pAL (by assumption) (fun _ _ => ?_)
    | refine fk_pAN (by assumption) (fun _ _ => ?_)
    | refine fk_nw (by assumption) (by decide) (fun _ _ _ => ?_)
    | refine fk_nwM (by assumption) (fun _ _ _ => ?_)
    | refine fk_callV (fk_X3_insertInOrder_L5 _ _ _ _ _) (by assumption) (fun _ _ _ => ?_)
    | refine fk_bind (fk_X3_insertInOrder_L5 _ _ _ _ _) (by assumption) (fun _ _ _ => ?_)
    | refine fk_binI (fk_X3_insertInOrder_L5 _ _ _ _ _) (by assumption) (fun _ _ _ => ?_))
theorem fk_f_X3_put  (p0 : Nat) (p1 : Nat) (p2 : Nat) (h : KH) : FW h (f_X3_put p0 p1 p2 h) := by
  unfold f_X3_put
  have q0 : FK h h := FK.rf h
  repeat' with_reducible (first
    | exact fk_ret (by assumption)
    | exact fk_retZ (by assumption)
    | exact fk_retC (by assumption)
    | exact fk_thr (by assumption)
    | exact fk_none
    | exact fk_go (fk_f_X3_insertInOrder _ _ _) (by assumption)
    | exact fk_go (fk_f_X3_seeBeginning _ _ _ _) (by assumption)
    | refine fk_gI (fun _ => ?_)
    | refine fk_gR (fun _ => ?_)
    | refine fk_gN (fun _ => ?_)
    | refine fk_gAI (fun _ => ?_)
    | refine fk_gAL (fun _ => ?_)
    | refine fk_gAN (fun _ => ?_)
    | refine fk_kif ?_ ?_
    | refine fk_nul ?_ (fun _ => ?_)
    | refine fk_may (fun _ => ?_)
    | refine fk_kdv ?_
    | refine fk_pI (by assumption) (by decide) (fun _ _ => ?_)
    | refine fk_pR (by assumption) (fun _ _ => ?_)
    | refine fk_pAI (by assumption) (by decide) (fun _ _ => ?_)
    | refine fk_pAZ (by assumption) (by decide) (fun _ _ => ?_)
    | refine fk_pAL (by assumption) (fun _ _ => ?_)
    | refine fk_pAN (by assumption) (fun _ _ => ?_)
    | refine fk_nw (by assumption) (by decide) (fun _ _ _ => ?_)
    | refine fk_nwM (by assumption) (fun _ _ _ => ?_)
    | refine fk_callV (fk_f_X3_insertInOrder _ _ _) (by assumption) (fun _ _ _ => ?_)
    | refine fk_bind (fk_f_X3_insertInOrder _ _ _) (by assumption) (fun _ _ _ => ?_)
    | refine fk_binI (fk_f_X3_insertInOrder _ _ _) (by assumption) (fun _ _ _ => ?_)
    | refine fk_callV (fk_f_X3_seeBeginning _ _ _ _) (by assumption) (fun _ _ _ => ?_)
    | refine fk_bind (fk_f_X3_seeBeginning _ _ _ _) (by assumption) (fun _ _ _ => ?_)
    | refine fk_binI (fk_f_X3_seeBeginning _ _ _ _) (by assumption) (fun _ _ _ => ?_))
theorem fk_X9_move_b58  (h : KH) : FW h (X9_move_b58 h) := by
  unfold X9_move_b58
  have q0 : FK h h := FK.rf h
  repeat' with_reducible (first
    | exact fk_ret (by assumption)
    | exact fk_retZ (by assumption)
    | exact fk_retC (by assumption)
    | exact fk_thr (by assumption)
    | exact fk_none
    | refine fk_gI (fun _ => ?_)
    | refine fk_gR (fun _ => ?_)
    | refine fk_gN (fun _ => ?_)
    | refine fk_gAI (fun _ => ?_)
    | refine fk_gAL (fun _ => ?_)
    | refine fk_gAN (fun _ => ?_)
    | refine fk_kif ?_ ?_
    | refine fk_nul ?_ (fun _ => ?_)
    | refine fk_may (fun _ => ?_)
    | refine fk_kdv ?_
    | refine fk_pI (by assumption) (by decide) (fun _ _ => ?_)
    | refine fk_pR (by assumption) (fun _ _ => ?_)
    | refine fk_pAI (by assumption) (by decide) (fun _ _ => ?_)
    | refine fk_pAZ (by assumption) (by decide) (fun _ _ => ?_)
    | refine fk_pAL (by assumption) (fun _ _ => ?_)
    | refine fk_pAN (by assumption) (fun _ _ => ?_)
    | refine fk_nw (by assumption) (by decide) (fun _ _ _ => ?_)
    | refine fk_nwM (by assumption) (fun _ _ _ => ?_))
theorem fk_X9_move_b37  (v0 : Nat) (v1 : Nat) (v2 : Option Nat) (h : KH) : FW h (X9_move_b37 v0 v1 v2 h) := by
  unfold X9_move_b37
  have q0 : FK h h := FK.rf h
  repeat' with_reducible (first
    | exact fk_ret (by assumption)
    | exact fk_retZ (by assumption)
    | exact fk_retC (by assumption)
    | exact fk_thr (by assumption)
    | exact fk_none
    | exact fk_go (fk_X9_move_b58 _) (by assumption)
    | exact fk_go (fk_f_X3_put _ _ _ _) (by assumption)
    | refine fk_gI (fun _ => ?_)
    | refine fk_gR (fun _ => ?_)
    | refine fk_gN (fun _ => ?_)
    | refine fk_gAI (fun _ => ?_)
    | refine fk_gAL (fun _ => ?_)
    | refine fk_gAN (fun _ => ?_)
    | refine fk_kif ?_ ?_
    | refine fk_nul ?_ (fun _ => ?_)
    | refine fk_may (fun _ => ?_)
    | refine fk_kdv ?_
    | refine fk_pI (by assumption) (by decide) (fun _ _ => ?_)
    | refine fk_pR (by assumption) (fun _ _ => ?_)
    | refine fk_pAI (by assumption) (by decide) (fun _ _ => ?_)
    | refine fk_pAZ (by assumption) (by decide) (fun _ _ => ?_)
    | refine fk_pAL (by assumption) (fun _ _ => ?_)
    | refine fk_pAN (by assumption) (fun _ _ => ?_)
    | refine fk_nw (by assumption) (by decide) (fun _ _ _ => ?_)
    | refine fk_nwM (by assumption) (fun _ _ _ => ?_)
    | refine fk_callV (fk_X9_move_b58 _) (by assumption) (fun _ _ _ => ?_)
    | refine fk_bind (fk_X9_move_b58 _) (by assumption) (fun _ _ _ => ?_)
    | refine fk_binI (fk_X9_move_b58 _) (by assumption) (fun _ _ _ => ?_)
    | refine fk_callV (fk_f_X3_put _ _ _ _) (by assumption) (fun _ _ _ => ?_)
    | refine fk_bind (fk_f_X3_put _ _ _ _) (by assumption) (fun _ _ _ => ?_)
    | refine fk_binI (fk_f_X3_put _ _ _ _) (by assumption) (fun _ _ _ => ?_))
theorem fk_f_X9_move  (p0 : Nat) (p1 : Nat) (p2 : Option Nat) (h : KH) : FW h (f_X9_move p0 p1 p2 h) := by
  unfold f_X9_move
  have q0 : FK h h := FK.rf h
  repeat' with_reducible (first
    | exact fk_ret (by assumption)
    | exact fk_retZ (by assumption)
    | exact fk_retC (by assumption)
    | exact fk_thr (by assumption)
    | exact fk_none
    | exact fk_go (fk_f_X9_numberOf _ _) (by assumption)
    | exact fk_go (fk_X9_move_b37 _ _ _ _) (by assumption)
    | exact fk_go (fk_f_X3_take _ _ _ _) (by assumption)
    | refine fk_gI (fun _ => ?_)
    | refine fk_gR (fun _ => ?_)
    | refine fk_gN (fun _ => ?_)
    | refine fk_gAI (fun _ => ?_)
    | refine fk_gAL (fun _ => ?_)
    | refine fk_gAN (fun _ => ?_)
    | refine fk_kif ?_ ?_
    | refine fk_nul ?_ (fun _ => ?_)
    | refine fk_may (fun _ => ?_)
    | refine fk_kdv ?_
    | refine fk_pI (by assumption) (by decide) (fun _ _ => ?_)
    | refine fk_pR (by assumption) (fun _ _ => ?_)
    | refine fk_pAI (by assumption) (by decide) (fun _ _ => ?_)
    | refine fk_pAZ (by assumption) (by decide) (fun _ _ => ?_)
    | refine fk_pAL (by assumption) (fun _ _ => ?_)
    | refine fk_pAN (by assumption) (fun _ _ => ?_)
    | refine fk_nw (by assumption) (by decide) (fun _ _ _ => ?_)
    | refine fk_nwM (by assumption) (fun _ _ _ => ?_)
    | refine fk_callV (fk_f_X9_numberOf _ _) (by assumption) (fun _ _ _ => ?_)
    | refine fk_bind (fk_f_X9_numberOf _ _) (by assumption) (fun _ _ _ => ?_)
    | refine fk_binI (fk_f_X9_numberOf _ _) (by assumption) (fun _ _ _ => ?_)
    | refine fk_callV (fk_X9_move_b37 _ _ _ _) (by assumption) (fun _ _ _ => ?_)
    | refine fk_bind (fk_X9_move_b37 _ _ _ _) (by assumption) (fun _ _ _ => ?_)
    | refine fk_binI (fk_X9_move_b37 _ _ _ _) (by assumption) (fun _ _ _ => ?_)
    | refine fk_callV (fk_f_X3_take _ _ _ _) (by assumption) (fun _ _ _ => ?_)
    | refine fk_bind (fk_f_X3_take _ _ _ _) (by assumption) (fun _ _ _ => ?_)
    | refine fk_binI (fk_f_X3_take _ _ _ _) (by assumption) (fun _ _ _ => ?_))
theorem fk_X9_leadAllBack_b34 (rc2 : Nat → Int32 → KH → KO Unit) (hr2 : ∀ (u0 : Nat) (u1 : Int32) (u2 : KH), FW u2 (rc2 u0 u1 u2)) (v0 : Nat) (v1 : Int32) (h : KH) : FW h (X9_leadAllBack_b34 rc2 v0 v1 h) := by
  unfold X9_leadAllBack_b34
  have q0 : FK h h := FK.rf h
  repeat' with_reducible (first
    | exact fk_ret (by assumption)
    | exact fk_retZ (by assumption)
    | exact fk_retC (by assumption)
    | exact fk_thr (by assumption)
    | exact fk_none
    | exact fk_go (hr2 _ _ _) (by assumption)
    | refine fk_gI (fun _ => ?_)
    | refine fk_gR (fun _ => ?_)
    | refine fk_gN (fun _ => ?_)
    | refine fk_gAI (fun _ => ?_)
    | refine fk_gAL (fun _ => ?_)
    | refine fk_gAN (fun _ => ?_)
    | refine fk_kif ?_ ?_
    | refine fk_nul ?_ (fun _ => ?_)
    | refine fk_may (fun _ => ?_)
    | refine fk_kdv ?_
    | refine fk_pI (by assumption) (by decide) (fun _ _ => ?_)
    | refine fk_pR (by assumption) (fun _ _ => ?_)
    | refine fk_pAI (by assumption) (by decide) (fun _ _ => ?_)
    | refine fk_pAZ (by assumption) (by decide) (fun _ _ => ?_)
    | refine fk_pAL (by assumption) (fun _ _ => ?_)
    | refine fk_pAN (by assumption) (fun _ _ => ?_)
    | refine fk_nw (by assumption) (by decide) (fun _ _ _ => ?_)
    | refine fk_nwM (by assumption) (fun _ _ _ => ?_)
    | refine fk_callV (hr2 _ _ _) (by assumption) (fun _ _ _ => ?_)
    | refine fk_bind (hr2 _ _ _) (by assumption) (fun _ _ _ => ?_)
    | refine fk_binI (hr2 _ _ _) (by assumption) (fun _ _ _ => ?_))
theorem fk_X9_leadAllBack_b2 (rc2 : Nat → Int32 → KH → KO Unit) (hr2 : ∀ (u0 : Nat) (u1 : Int32) (u2 : KH), FW u2 (rc2 u0 u1 u2)) (v0 : Nat) (v1 : Int32) (h : KH) : FW h (X9_leadAllBack_b2 rc2 v0 v1 h) := by
  unfold X9_leadAllBack_b2
  have q0 : FK h h := FK.rf h
  repeat' with_reducible (first
    | exact fk_ret (by assumption)
    | exact fk_retZ (by assumption)
    | exact fk_retC (by assumption)
    | exact fk_thr (by assumption)
    | exact fk_none
    | exact fk_go (hr2 _ _ _) (by assumption)
    | exact fk_go (fk_f_X9_plateByText _ _ _) (by assumption)
    | exact fk_go (fk_f_X9_move _ _ _ _) (by assumption)
    | exact fk_go (fk_X9_leadAllBack_b34 _ (by assumption) _ _ _) (by assumption)
    | refine fk_gI (fun _ => ?_)
    | refine fk_gR (fun _ => ?_)
    | refine fk_gN (fun _ => ?_)
    | refine fk_gAI (fun _ => ?_)
    | refine fk_gAL (fun _ => ?_)
    | refine fk_gAN (fun _ => ?_)
    | refine fk_kif ?_ ?_
    | refine fk_nul ?_ (fun _ => ?_)
    | refine fk_may (fun _ => ?_)
    | refine fk_kdv ?_
    | refine fk_pI (by assumption) (by decide) (fun _ _ => ?_)
    | refine fk_pR (by assumption) (fun _ _ => ?_)
    | refine fk_pAI (by assumption) (by decide) (fun _ _ => ?_)
    | refine fk_pAZ (by assumption) (by decide) (fun _ _ => ?_)
    | refine fk_pAL (by assumption) (fun _ _ => ?_)
    | refine fk_pAN (by assumption) (fun _ _ => ?_)
    | refine fk_nw (by assumption) (by decide) (fun _ _ _ => ?_)
    | refine fk_nwM (by assumption) (fun _ _ _ => ?_)
    | refine fk_callV (hr2 _ _ _) (by assumption) (fun _ _ _ => ?_)
    | refine fk_bind (hr2 _ _ _) (by assumption) (fun _ _ _ => ?_)
    | refine fk_binI (hr2 _ _ _) (by assumption) (fun _ _ _ => ?_)
    | refine fk_callV (fk_f_X9_plateByText _ _ _) (by assumption) (fun _ _ _ => ?_)
    | refine fk_bind (fk_f_X9_plateByText _ _ _) (by assumption) (fun _ _ _ => ?_)
    | refine fk_binI (fk_f_X9_plateByText _ _ _) (by assumption) (fun _ _ _ => ?_)
    | refine fk_callV (fk_f_X9_move _ _ _ _) (by assumption) (fun _ _ _ => ?_)
    | refine fk_bind (fk_f_X9_move _ _ _ _) (by assumption) (fun _ _ _ => ?_)
    | refine fk_binI (fk_f_X9_move _ _ _ _) (by assumption) (fun _ _ _ => ?_)
    | refine fk_callV (fk_X9_leadAllBack_b34 _ (by assumption) _ _ _) (by assumption) (fun _ _ _ => ?_)
    | refine fk_bind (fk_X9_leadAllBack_b34 _ (by assumption) _ _ _) (by assumption) (fun _ _ _ => ?_)
    | refine fk_binI (fk_X9_leadAllBack_b34 _ (by assumption) _ _ _) (by assumption) (fun _ _ _ => ?_))
theorem fk_X9_leadAllBack_L2  : ∀ (m : Nat) (u0 : Nat) (u1 : Int32) (u2 : KH), FW u2 (X9_leadAllBack_L2  m u0 u1 u2) := by
  intro m
  induction m with
  | zero => intro u0 u1 u2; exact fk_none
  | succ m ih => intro u0 u1 u2; exact fk_X9_leadAllBack_b2 (X9_leadAllBack_L2  m) ih u0 u1 u2
theorem fk_f_X9_leadAllBack  (p0 : Nat) (h : KH) : FW h (f_X9_leadAllBack p0 h) := by
  unfold f_X9_leadAllBack
  have q0 : FK h h := FK.rf h
  repeat' with_reducible (first
    | exact fk_ret (by assumption)
    | exact fk_retZ (by assumption)
    | exact fk_retC (by assumption)
    | exact fk_thr (by assumption)
    | exact fk_none
    | exact fk_go (fk_X9_leadAllBack_L2 _ _ _ _) (by assumption)
    | refine fk_gI (fun _ => ?_)
    | refine fk_gR (fun _ => ?_)
    | refine fk_gN (fun _ => ?_)
    | refine fk_gAI (fun _ => ?_)
    | refine fk_gAL (fun _ => ?_)
    | refine fk_gAN (fun _ => ?_)
    | refine fk_kif ?_ ?_
    | refine fk_nul ?_ (fun _ => ?_)
    | refine fk_may (fun _ => ?_)
    | refine fk_kdv ?_
    | refine fk_pI (by assumption) (by decide) (fun _ _ => ?_)
    | refine fk_pR (by assumption) (fun _ _ => ?_)
    | refine fk_pAI (by assumption) (by decide) (fun _ _ => ?_)
    | refine fk_pAZ (by assumption) (by decide) (fun _ _ => ?_)
    | refine fk_pAL (by assumption) (fun _ _ => ?_)
    | refine fk_pAN (by assumption) (fun _ _ => ?_)
    | refine fk_nw (by assumption) (by decide) (fun _ _ _ => ?_)
    | refine fk_nwM (by assumption) (fun _ _ _ => ?_)
    | refine fk_callV (fk_X9_leadAllBack_L2 _ _ _ _) (by assumption) (fun _ _ _ => ?_)
    | refine fk_bind (fk_X9_leadAllBack_L2 _ _ _ _) (by assumption) (fun _ _ _ => ?_)
    | refine fk_binI (fk_X9_leadAllBack_L2 _ _ _ _) (by assumption) (fun _ _ _ => ?_))
theorem fk_X9_alike_b25  (h : KH) : FW h (X9_alike_b25 h) := by
  unfold X9_alike_b25
  have q0 : FK h h := FK.rf h
  repeat' with_reducible (first
    | exact fk_ret (by assumption)
    | exact fk_retZ (by assumption)
    | exact fk_retC (by assumption)
    | exact fk_thr (by assumption)
    | exact fk_none
    | refine fk_gI (fun _ => ?_)
    | refine fk_gR (fun _ => ?_)
    | refine fk_gN (fun _ => ?_)
    | refine fk_gAI (fun _ => ?_)
    | refine fk_gAL (fun _ => ?_)
    | refine fk_gAN (fun _ => ?_)
    | refine fk_kif ?_ ?_
    | refine fk_nul ?_ (fun _ => ?_)
    | refine fk_may (fun _ => ?_)
    | refine fk_kdv ?_
    | refine fk_pI (by assumption) (by decide) (fun _ _ => ?_)
    | refine fk_pR (by assumption) (fun _ _ => ?_)
    | refine fk_pAI (by assumption) (by decide) (fun _ _ => ?_)
    | refine fk_pAZ (by assumption) (by decide) (fun _ _ => ?_)
    | refine fk_pAL (by assumption) (fun _ _ => ?_)
    | refine fk_pAN (by assumption) (fun _ _ => ?_)
    | refine fk_nw (by assumption) (by decide) (fun _ _ _ => ?_)
    | refine fk_nwM (by assumption) (fun _ _ _ => ?_))
theorem fk_f_X9_alike  (p0 : Nat) (p1 : Int32) (p2 : Int32) (h : KH) : FW h (f_X9_alike p0 p1 p2 h) := by
  unfold f_X9_alike
  have q0 : FK h h := FK.rf h
  repeat' with_reducible (first
    | exact fk_ret (by assumption)
    | exact fk_retZ (by assumption)
    | exact fk_retC (by assumption)
    | exact fk_thr (by assumption)
    | exact fk_none
    | exact fk_go (fk_f_X9_requireSign _ _) (by assumption)
    | exact fk_go (fk_X9_alike_b25 _) (by assumption)
    | exact fk_go (fk_f_X2_turn _ _ _ _) (by assumption)
    | exact fk_go (fk_f_X9_leadAllBack _ _) (by assumption)
    | exact fk_go (fk_f_X2_holds _ _ _ _) (by assumption)
    | refine fk_gI (fun _ => ?_)
    | refine fk_gR (fun _ => ?_)
    | refine fk_gN (fun _ => ?_)
    | refine fk_gAI (fun _ => ?_)
    | refine fk_gAL (fun _ => ?_)
    | refine fk_gAN (fun _ => ?_)
    | refine fk_kif ?_ ?_
    | refine fk_nul ?_ (fun _ => ?_)
    | refine fk_may (fun _ => ?_)
    | refine fk_kdv ?_
    | refine fk_pI (by assumption) (by decide) (fun _ _ => ?_)
    | refine fk_pR (by assumption) (fun _ _ => ?_)
    | refine fk_pAI (by assumption) (by decide) (fun _ _ => ?_)
    | refine fk_pAZ (by assumption) (by decide) (fun _ _ => ?_)
    | refine fk_pAL (by assumption) (fun _ _ => ?_)
    | refine fk_pAN (by assumption) (fun _ _ => ?_)
    | refine fk_nw (by assumption) (by decide) (fun _ _ _ => ?_)
    | refine fk_nwM (by assumption) (fun _ _ _ => ?_)
    | refine fk_callV (fk_f_X9_requireSign _ _) (by assumption) (fun _ _ _ => ?_)
    | refine fk_bind (fk_f_X9_requireSign _ _) (by assumption) (fun _ _ _ => ?_)
    | refine fk_binI (fk_f_X9_requireSign _ _) (by assumption) (fun _ _ _ => ?_)
    | refine fk_callV (fk_X9_alike_b25 _) (by assumption) (fun _ _ _ => ?_)
    | refine fk_bind (fk_X9_alike_b25 _) (by assumption) (fun _ _ _ => ?_)
    | refine fk_binI (fk_X9_alike_b25 _) (by assumption) (fun _ _ _ => ?_)
    | refine fk_callV (fk_f_X2_turn _ _ _ _) (by assumption) (fun _ _ _ => ?_)
    | refine fk_bind (fk_f_X2_turn _ _ _ _) (by assumption) (fun _ _ _ => ?_)
    | refine fk_binI (fk_f_X2_turn _ _ _ _) (by assumption) (fun _ _ _ => ?_)
    | refine fk_callV (fk_f_X9_leadAllBack _ _) (by assumption) (fun _ _ _ => ?_)
    | refine fk_bind (fk_f_X9_leadAllBack _ _) (by assumption) (fun _ _ _ => ?_)
    | refine fk_binI (fk_f_X9_leadAllBack _ _) (by assumption) (fun _ _ _ => ?_)
    | refine fk_callV (fk_f_X2_holds _ _ _ _) (by assumption) (fun _ _ _ => ?_)
    | refine fk_bind (fk_f_X2_holds _ _ _ _) (by assumption) (fun _ _ _ => ?_)
    | refine fk_binI (fk_f_X2_holds _ _ _ _) (by assumption) (fun _ _ _ => ?_))
theorem fk_f_X9_requireDriver  (p0 : Int32) (h : KH) : FW h (f_X9_requireDriver p0 h) := by
  unfold f_X9_requireDriver
  have q0 : FK h h := FK.rf h
  repeat' with_reducible (first
    | exact fk_ret (by assumption)
    | exact fk_retZ (by assumption)
    | exact fk_retC (by assumption)
    | exact fk_thr (by assumption)
    | exact fk_none
    | exact fk_go (fk_f_X9_isWithin _ _ _ _) (by assumption)
    | refine fk_gI (fun _ => ?_)
    | refine fk_gR (fun _ => ?_)
    | refine fk_gN (fun _ => ?_)
    | refine fk_gAI (fun _ => ?_)
    | refine fk_gAL (fun _ => ?_)
    | refine fk_gAN (fun _ => ?_)
    | refine fk_kif ?_ ?_
    | refine fk_nul ?_ (fun _ => ?_)
    | refine fk_may (fun _ => ?_)
    | refine fk_kdv ?_
    | refine fk_pI (by assumption) (by decide) (fun _ _ => ?_)
    | refine fk_pR (by assumption) (fun _ _ => ?_)
    | refine fk_pAI (by assumption) (by decide) (fun _ _ => ?_)
    | refine fk_pAZ (by assumption) (by decide) (fun _ _ => ?_)
    | refine fk_pAL (by assumption) (fun _ _ => ?_)
    | refine fk_pAN (by assumption) (fun _ _ => ?_)
    | refine fk_nw (by assumption) (by decide) (fun _ _ _ => ?_)
    | refine fk_nwM (by assumption) (fun _ _ _ => ?_)
    | refine fk_callV (fk_f_X9_isWithin _ _ _ _) (by assumption) (fun _ _ _ => ?_)
    | refine fk_bind (fk_f_X9_isWithin _ _ _ _) (by assumption) (fun _ _ _ => ?_)
    | refine fk_binI (fk_f_X9_isWithin _ _ _ _) (by assumption) (fun _ _ _ => ?_))
theorem fk_X7_hasQuestionMark_b2 (rc2 : Nat → Int32 → KH → KO Int32) (hr2 : ∀ (u0 : Nat) (u1 : Int32) (u2 : KH), FW u2 (rc2 u0 u1 u2)) (v0 : Nat) (v1 : Int32) (h : KH) : FW h (X7_hasQuestionMark_b2 rc2 v0 v1 h) := by
  unfold X7_hasQuestionMark_b2
  have q0 : FK h h := FK.rf h
  repeat' with_reducible (first
    | exact fk_ret (by assumption)
    | exact fk_retZ (by assumption)
    | exact fk_retC (by assumption)
    | exact fk_thr (by assumption)
    | exact fk_none
    | exact fk_go (hr2 _ _ _) (by assumption)
    | refine fk_gI (fun _ => ?_)
    | refine fk_gR (fun _ => ?_)
    | refine fk_gN (fun _ => ?_)
    | refine fk_gAI (fun _ => ?_)
    | refine fk_gAL (fun _ => ?_)
    | refine fk_gAN (fun _ => ?_)
    | refine fk_kif ?_ ?_
    | refine fk_nul ?_ (fun _ => ?_)
    | refine fk_may (fun _ => ?_)
    | refine fk_kdv ?_
    | refine fk_pI (by assumption) (by decide) (fun _ _ => ?_)
    | refine fk_pR (by assumption) (fun _ _ => ?_)
    | refine fk_pAI (by assumption) (by decide) (fun _ _ => ?_)
    | refine fk_pAZ (by assumption) (by decide) (fun _ _ => ?_)
    | refine fk_pAL (by assumption) (fun _ _ => ?_)
    | refine fk_pAN (by assumption) (fun _ _ => ?_)
    | refine fk_nw (by assumption) (by decide) (fun _ _ _ => ?_)
    | refine fk_nwM (by assumption) (fun _ _ _ => ?_)
    | refine fk_callV (hr2 _ _ _) (by assumption) (fun _ _ _ => ?_)
    | refine fk_bind (hr2 _ _ _) (by assumption) (fun _ _ _ => ?_)
    | refine fk_binI (hr2 _ _ _) (by assumption) (fun _ _ _ => ?_))
theorem fk_X7_hasQuestionMark_L2  : ∀ (m : Nat) (u0 : Nat) (u1 : Int32) (u2 : KH), FW u2 (X7_hasQuestionMark_L2  m u0 u1 u2) := by
  intro m
  induction m with
  | zero => intro u0 u1 u2; exact fk_none
  | succ m ih => intro u0 u1 u2; exact fk_X7_hasQuestionMark_b2 (X7_hasQuestionMark_L2  m) ih u0 u1 u2
theorem fk_f_X7_hasQuestionMark  (p0 : Nat) (h : KH) : FW h (f_X7_hasQuestionMark p0 h) := by
  unfold f_X7_hasQuestionMark
  have q0 : FK h h := FK.rf h
  repeat' with_reducible (first
    | exact fk_ret (by assumption)
    | exact fk_retZ (by assumption)
    | exact fk_retC (by assumption)
    | exact fk_thr (by assumption)
    | exact fk_none
    | exact fk_go (fk_X7_hasQuestionMark_L2 _ _ _ _) (by assumption)
    | refine fk_gI (fun _ => ?_)
    | refine fk_gR (fun _ => ?_)
    | refine fk_gN (fun _ => ?_)
    | refine fk_gAI (fun _ => ?_)
    | refine fk_gAL (fun _ => ?_)
    | refine fk_gAN (fun _ => ?_)
    | refine fk_kif ?_ ?_
    | refine fk_nul ?_ (fun _ => ?_)
    | refine fk_may (fun _ => ?_)
    | refine fk_kdv ?_
    | refine fk_pI (by assumption) (by decide) (fun _ _ => ?_)
    | refine fk_pR (by assumption) (fun _ _ => ?_)
    | refine fk_pAI (by assumption) (by decide) (fun _ _ => ?_)
    | refine fk_pAZ (by assumption) (by decide) (fun _ _ => ?_)
    | refine fk_pAL (by assumption) (fun _ _ => ?_)
    | refine fk_pAN (by assumption) (fun _ _ => ?_)
    | refine fk_nw (by assumption) (by decide) (fun _ _ _ => ?_)
    | refine fk_nwM (by assumption) (fun _ _ _ => ?_)
    | refine fk_callV (fk_X7_hasQuestionMark_L2 _ _ _ _) (by assumption) (fun _ _ _ => ?_)
    | refine fk_bind (fk_X7_hasQuestionMark_L2 _ _ _ _) (by assumption) (fun _ _ _ => ?_)
    | refine fk_binI (fk_X7_hasQuestionMark_L2 _ _ _ _) (by assumption) (fun _ _ _ => ?_))
theorem fk_X7_equalsText_b15 (rc15 : Nat → Nat → Int32 → KH → KO Int32) (hr15 : ∀ (u0 : Nat) (u1 : Nat) (u2 : Int32) (u3 : KH), FW u3 (rc15 u0 u1 u2 u3)) (v0 : Nat) (v1 : Nat) (v2 : Int32) (h : KH) : FW h (X7_equalsText_b15 rc15 v0 v1 v2 h) := by
  unfold X7_equalsText_b15
  have q0 : FK h h := FK.rf h
  repeat' with_reducible (first
    | exact fk_ret (by assumption)
    | exact fk_retZ (by assumption)
    | exact fk_retC (by assumption)
    | exact fk_thr (by assumption)
    | exact fk_none
    | exact fk_go (hr15 _ _ _ _) (by assumption)
    | refine fk_gI (fun _ => ?_)
    | refine fk_gR (fun _ => ?_)
    | refine fk_gN (fun _ => ?_)
    | refine fk_gAI (fun _ => ?_)
    | refine fk_gAL (fun _ => ?_)
    | refine fk_gAN (fun _ => ?_)
    | refine fk_kif ?_ ?_
    | refine fk_nul ?_ (fun _ => ?_)
    | refine fk_may (fun _ => ?_)
    | refine fk_kdv ?_
    | refine fk_pI (by assumption) (by decide) (fun _ _ => ?_)
    | refine fk_pR (by assumption) (fun _ _ => ?_)
    | refine fk_pAI (by assumption) (by decide) (fun _ _ => ?_)
    | refine fk_pAZ (by assumption) (by decide) (fun _ _ => ?_)
    | refine fk_pAL (by assumption) (fun _ _ => ?_)
    | refine fk_pAN (by assumption) (fun _ _ => ?_)
    | refine fk_nw (by assumption) (by decide) (fun _ _ _ => ?_)
    | refine fk_nwM (by assumption) (fun _ _ _ => ?_)
    | refine fk_callV (hr15 _ _ _ _) (by assumption) (fun _ _ _ => ?_)
    | refine fk_bind (hr15 _ _ _ _) (by assumption) (fun _ _ _ => ?_)
    | refine fk_binI (hr15 _ _ _ _) (by assumption) (fun _ _ _ => ?_))
theorem fk_X7_equalsText_L15  : ∀ (m : Nat) (u0 : Nat) (u1 : Nat) (u2 : Int32) (u3 : KH), FW u3 (X7_equalsText_L15  m u0 u1 u2 u3) := by
  intro m
  induction m with
  | zero => intro u0 u1 u2 u3; exact fk_none
  | succ m ih => intro u0 u1 u2 u3; exact fk_X7_equalsText_b15 (X7_equalsText_L15  m) ih u0 u1 u2 u3
theorem fk_f_X7_equalsText  (p0 : Nat) (p1 : Nat) (h : KH) : FW h (f_X7_equalsText p0 p1 h) := by
  unfold f_X7_equalsText
  have q0 : FK h h := FK.rf h
  repeat' with_reducible (first
    | exact fk_ret (by assumption)
    | exact fk_retZ (by assumption)
    | exact fk_retC (by assumption)
    | exact fk_thr (by assumption)
    | exact fk_none
    | exact fk_go (fk_X7_equalsText_L15 _ _ _ _ _) (by assumption)
    | refine fk_gI (fun _ => ?_)
    | refine fk_gR (fun _ => ?_)
    | refine fk_gN (fun _ => ?_)
    | refine fk_gAI (fun _ => ?_)
    | refine fk_gAL (fun _ => ?_)
    | refine fk_gAN (fun _ => ?_)
    | refine fk_kif ?_ ?_
    | refine fk_nul ?_ (fun _ => ?_)
    | refine fk_may (fun _ => ?_)
    | refine fk_kdv ?_
    | refine fk_pI (by assumption) (by decide) (fun _ _ => ?_)
    | refine fk_pR (by assumption) (fun _ _ => ?_)
    | refine fk_pAI (by assumption) (by decide) (fun _ _ => ?_)
    | refine fk_pAZ (by assumption) (by decide) (fun _ _ => ?_)
    | refine fk_pAL (by assumption) (fun _ _ => ?_)
    | refine fk_pAN (by assumption) (fun _ _ => ?_)
    | refine fk_nw (by assumption) (by decide) (fun _ _ _ => ?_)
    | refine fk_nwM (by assumption) (fun _ _ _ => ?_)
    | refine fk_callV (fk_X7_equalsText_L15 _ _ _ _ _) (by assumption) (fun _ _ _ => ?_)
    | refine fk_bind (fk_X7_equalsText_L15 _ _ _ _ _) (by assumption) (fun _ _ _ => ?_)
    | refine fk_binI (fk_X7_equalsText_L15 _ _ _ _ _) (by assumption) (fun _ _ _ => ?_))
theorem fk_X9_isTaken_b2 (rc2 : Nat → Nat → Int32 → KH → KO Int32) (hr2 : ∀ (u0 : Nat) (u1 : Nat) (u2 : Int32) (u3 : KH), FW u3 (rc2 u0 u1 u2 u3)) (v0 : Nat) (v1 : Nat) (v2 : Int32) (h : KH) : FW h (X9_isTaken_b2 rc2 v0 v1 v2 h) := by
  unfold X9_isTaken_b2
  have q0 : FK h h := FK.rf h
  repeat' with_reducible (first
    | exact fk_ret (by assumption)
    | exact fk_retZ (by assumption)
    | exact fk_retC (by assumption)
    | exact fk_thr (by assumption)
    | exact fk_none
    | exact fk_go (hr2 _ _ _ _) (by assumption)
    | exact fk_go (fk_f_X7_equalsText _ _ _) (by assumption)
    | refine fk_gI (fun _ => ?_)
    | refine fk_gR (fun _ => ?_)
    | refine fk_gN (fun _ => ?_)
    | refine fk_gAI (fun _ => ?_)
    | refine fk_gAL (fun _ => ?_)
    | refine fk_gAN (fun _ => ?_)
    | refine fk_kif ?_ ?_
    | refine fk_nul ?_ (fun _ => ?_)
    | refine fk_may (fun _ => ?_)
    | refine fk_kdv ?_
    | refine fk_pI (by assumption) (by decide) (fun _ _ => ?_)
    | refine fk_pR (by assumption) (fun _ _ => ?_)
    | refine fk_pAI (by assumption) (by decide) (fun _ _ => ?_)
    | refine fk_pAZ (by assumption) (by decide) (fun _ _ => ?_)
    | refine fk_pAL (by assumption) (fun _ _ => ?_)
    | refine fk_pAN (by assumption) (fun _ _ => ?_)
    | refine fk_nw (by assumption) (by decide) (fun _ _ _ => ?_)
    | refine fk_nwM (by assumption) (fun _ _ _ => ?_)
    | refine fk_callV (hr2 _ _ _ _) (by assumption) (fun _ _ _ => ?_)
    | refine fk_bind (hr2 _ _ _ _) (by assumption) (fun _ _ _ => ?_)
    | refine fk_binI (hr2 _ _ _ _) (by assumption) (fun _ _ _ => ?_)
    | refine fk_callV (fk_f_X7_equalsText _ _ _) (by assumption) (fun _ _ _ => ?_)
    | refine fk_bind (fk_f_X7_equalsText _ _ _) (by assumption) (fun _ _ _ => ?_)
    | refine fk_binI (fk_f_X7_equalsText _ _ _) (by assumption) (fun _ _ _ => ?_))
theorem fk_X9_isTaken_L2  : ∀ (m : Nat) (u0 : Nat) (u1 : Nat) (u2 : Int32) (u3 : KH), FW u3 (X9_isTaken_L2  m u0 u1 u2 u3) := by
  intro m
  induction m with
  | zero => intro u0 u1 u2 u3; exact fk_none
  | succ m ih => intro u0 u1 u2 u3; exact fk_X9_isTaken_b2 (X9_isTaken_L2  m) ih u0 u1 u2 u3
theorem fk_f_X9_isTaken  (p0 : Nat) (p1 : Nat) (h : KH) : FW h (f_X9_isTaken p0 p1 h) := by
  unfold f_X9_isTaken
  have q0 : FK h h := FK.rf h
  repeat' with_reducible (first
    | exact fk_ret (by assumption)
    | exact fk_retZ (by assumption)
    | exact fk_retC (by assumption)
    | exact fk_thr (by assumption)
    | exact fk_none
    | exact fk_go (fk_X9_isTaken_L2 _ _ _ _ _) (by assumption)
    | refine fk_gI (fun _ => ?_)
    | refine fk_gR (fun _ => ?_)
    | refine fk_gN (fun _ => ?_)
    | refine fk_gAI (fun _ => ?_)
    | refine fk_gAL (fun _ => ?_)
    | refine fk_gAN (fun _ => ?_)
    | refine fk_kif ?_ ?_
    | refine fk_nul ?_ (fun _ => ?_)
    | refine fk_may (fun _ => ?_)
    | refine fk_kdv ?_
    | refine fk_pI (by assumption) (by decide) (fun _ _ => ?_)
    | refine fk_pR (by assumption) (fun _ _ => ?_)
    | refine fk_pAI (by assumption) (by decide) (fun _ _ => ?_)
    | refine fk_pAZ (by assumption) (by decide) (fun _ _ => ?_)
    | refine fk_pAL (by assumption) (fun _ _ => ?_)
    | refine fk_pAN (by assumption) (fun _ _ => ?_)
    | refine fk_nw (by assumption) (by decide) (fun _ _ _ => ?_)
    | refine fk_nwM (by assumption) (fun _ _ _ => ?_)
    | refine fk_callV (fk_X9_isTaken_L2 _ _ _ _ _) (by assumption) (fun _ _ _ => ?_)
    | refine fk_bind (fk_X9_isTaken_L2 _ _ _ _ _) (by assumption) (fun _ _ _ => ?_)
    | refine fk_binI (fk_X9_isTaken_L2 _ _ _ _ _) (by assumption) (fun _ _ _ => ?_))
theorem fk_X7_copy_b10 (rc10 : Nat → Nat → Int32 → KH → KO Nat) (hr10 : ∀ (u0 : Nat) (u1 : Nat) (u2 : Int32) (u3 : KH), FW u3 (rc10 u0 u1 u2 u3)) (v0 : Nat) (v1 : Nat) (v2 : Int32) (h : KH) : FW h (X7_copy_b10 rc10 v0 v1 v2 h) := by
  unfold X7_copy_b10
  have q0 : FK h h := FK.rf h
  repeat' with_reducible (first
    | exact fk_ret (by assumption)
    | exact fk_retZ (by assumption)
    | exact fk_retC (by assumption)
    | exact fk_thr (by assumption)
    | exact fk_none
    | exact fk_go (hr10 _ _ _ _) (by assumption)
    | refine fk_gI (fun _ => ?_)
    | refine fk_gR (fun _ => ?_)
    | refine fk_gN (fun _ => ?_)
    | refine fk_gAI (fun _ => ?_)
    | refine fk_gAL (fun _ => ?_)
    | refine fk_gAN (fun _ => ?_)
    | refine fk_kif ?_ ?_
    | refine fk_nul ?_ (fun _ => ?_)
    | refine fk_may (fun _ => ?_)
    | refine fk_kdv ?_
    | refine fk_pI (by assumption) (by decide) (fun _ _ => ?_)
    | refine fk_pR (by assumption) (fun _ _ => ?_)
    | refine fk_pAI (by assumption) (by decide) (fun _ _ => ?_)
    | refine fk_pAZ (by assumption) (by decide) (fun _ _ => ?_)
    | refine fk_pAL (by assumption) (fun _ _ => ?_)
    | refine fk_pAN (by assumption) (fun _ _ => ?_)
    | refine fk_nw (by assumption) (by decide) (fun _ _ _ => ?_)
    | refine fk_nwM (by assumption) (fun _ _ _ => ?_)
    | refine fk_callV (hr10 _ _ _ _) (by assumption) (fun _ _ _ => ?_)
    | refine fk_bind (hr10 _ _ _ _) (by assumption) (fun _ _ _ => ?_)
    | refine fk_binI (hr10 _ _ _ _) (by assumption) (fun _ _ _ => ?_))
theorem fk_X7_copy_L10  : ∀ (m : Nat) (u0 : Nat) (u1 : Nat) (u2 : Int32) (u3 : KH), FW u3 (X7_copy_L10  m u0 u1 u2 u3) := by
  intro m
  induction m with
  | zero => intro u0 u1 u2 u3; exact fk_none
  | succ m ih => intro u0 u1 u2 u3; exact fk_X7_copy_b10 (X7_copy_L10  m) ih u0 u1 u2 u3
theorem fk_f_X7_copy  (p0 : Nat) (h : KH) : FW h (f_X7_copy p0 h) := by
  unfold f_X7_copy
  have q0 : FK h h := FK.rf h
  repeat' with_reducible (first
    | exact fk_ret (by assumption)
    | exact fk_retZ (by assumption)
    | exact fk_retC (by assumption)
    | exact fk_thr (by assumption)
    | exact fk_none
    | exact fk_go (fk_f_X7_init _ _) (by assumption)
    | exact fk_go (fk_X7_copy_L10 _ _ _ _ _) (by assumption)
    | refine fk_gI (fun _ => ?_)
    | refine fk_gR (fun _ => ?_)
    | refine fk_gN (fun _ => ?_)
    | refine fk_gAI (fun _ => ?_)
    | refine fk_gAL (fun _ => ?_)
    | refine fk_gAN (fun _ => ?_)
    | refine fk_kif ?_ ?_
    | refine fk_nul ?_ (fun _ => ?_)
    | refine fk_may (fun _ => ?_)
    | refine fk_kdv ?_
    | refine fk_pI (by assumption) (by decide) (fun _ _ => ?_)
    | refine fk_pR (by assumption) (fun _ _ => ?_)
    | refine fk_pAI (by assumption) (by decide) (fun _ _ => ?_)
    | refine fk_pAZ (by assumption) (by decide) (fun _ _ => ?_)
    | refine fk_pAL (by assumption) (fun _ _ => ?_)
    | refine fk_pAN (by assumption) (fun _ _ => ?_)
    | refine fk_nw (by assumption) (by decide) (fun _ _ _ => ?_)
    | refine fk_nwM (by assumption) (fun _ _ _ => ?_)
    | refine fk_callV (fk_f_X7_init _ _) (by assumption) (fun _ _ _ => ?_)
    | refine fk_bind (fk_f_X7_init _ _) (by assumption) (fun _ _ _ => ?_)
    | refine fk_binI (fk_f_X7_init _ _) (by assumption) (fun _ _ _ => ?_)
    | refine fk_callV (fk_X7_copy_L10 _ _ _ _ _) (by assumption) (fun _ _ _ => ?_)
    | refine fk_bind (fk_X7_copy_L10 _ _ _ _ _) (by assumption) (fun _ _ _ => ?_)
    | refine fk_binI (fk_X7_copy_L10 _ _ _ _ _) (by assumption) (fun _ _ _ => ?_))
theorem fk_f_X1_init  (p0 : Nat) (p1 : Int32) (p2 : Int32) (p3 : Option Nat) (h : KH) : FW h (f_X1_init p0 p1 p2 p3 h) := by
  unfold f_X1_init
  have q0 : FK h h := FK.rf h
  repeat' with_reducible (first
    | exact fk_ret (by assumption)
    | exact fk_retZ (by assumption)
    | exact fk_retC (by assumption)
    | exact fk_thr (by assumption)
    | exact fk_none
    | refine fk_gI (fun _ => ?_)
    | refine fk_gR (fun _ => ?_)
    | refine fk_gN (fun _ => ?_)
    | refine fk_gAI (fun _ => ?_)
    | refine fk_gAL (fun _ => ?_)
    | refine fk_gAN (fun _ => ?_)
    | refine fk_kif ?_ ?_
    | refine fk_nul ?_ (fun _ => ?_)
    | refine fk_may (fun _ => ?_)
    | refine fk_kdv ?_
    | refine fk_pI (by assumption) (by decide) (fun _ _ => ?_)
    | refine fk_pR (by assumption) (fun _ _ => ?_)
    | refine fk_pAI (by assumption) (by decide) (fun _ _ => ?_)
    | refine fk_pAZ (by assumption) (by decide) (fun _ _ => ?_)
    | refine fk_pAL (by assumption) (fun _ _ => ?_)
    | refine fk_pAN (by assumption) (fun _ _ => ?_)
    | refine fk_nw (by assumption) (by decide) (fun _ _ _ => ?_)
    | refine fk_nwM (by assumption) (fun _ _ _ => ?_))
theorem fk_f_X4_init  (p0 : Nat) (p1 : Int32) (p2 : Nat) (p3 : Int32) (p4 : Nat) (h : KH) : FW h (f_X4_init p0 p1 p2 p3 p4 h) := by
  unfold f_X4_init
  have q0 : FK h h := FK.rf h
  repeat' with_reducible (first
    | exact fk_ret (by assumption)
    | exact fk_retZ (by assumption)
    | exact fk_retC (by assumption)
    | exact fk_thr (by assumption)
    | exact fk_none
    | exact fk_go (fk_f_X3_init _ _) (by assumption)
    | refine fk_gI (fun _ => ?_)
    | refine fk_gR (fun _ => ?_)
    | refine fk_gN (fun _ => ?_)
    | refine fk_gAI (fun _ => ?_)
    | refine fk_gAL (fun _ => ?_)
    | refine fk_gAN (fun _ => ?_)
    | refine fk_kif ?_ ?_
    | refine fk_nul ?_ (fun _ => ?_)
    | refine fk_may (fun _ => ?_)
    | refine fk_kdv ?_
    | refine fk_pI (by assumption) (by decide) (fun _ _ => ?_)
    | refine fk_pR (by assumption) (fun _ _ => ?_)
    | refine fk_pAI (by assumption) (by decide) (fun _ _ => ?_)
    | refine fk_pAZ (by assumption) (by decide) (fun _ _ => ?_)
    | refine fk_pAL (by assumption) (fun _ _ => ?_)
    | refine fk_pAN (by assumption) (fun _ _ => ?_)
    | refine fk_nw (by assumption) (by decide) (fun _ _ _ => ?_)
    | refine fk_nwM (by assumption) (fun _ _ _ => ?_)
    | refine fk_callV (fk_f_X3_init _ _) (by assumption) (fun _ _ _ => ?_)
    | refine fk_bind (fk_f_X3_init _ _) (by assumption) (fun _ _ _ => ?_)
    | refine fk_binI (fk_f_X3_init _ _) (by assumption) (fun _ _ _ => ?_))
theorem fk_X7_comesBefore_b87  (s0 : Int32) (h : KH) : FW h (X7_comesBefore_b87 s0 h) := by
  unfold X7_comesBefore_b87
  have q0 : FK h h := FK.rf h
  repeat' with_reducible (first
    | exact fk_ret (by assumption)
    | exact fk_retZ (by assumption)
    | exact fk_retC (by assumption)
    | exact fk_thr (by assumption)
    | exact fk_none
    | refine fk_gI (fun _ => ?_)
    | refine fk_gR (fun _ => ?_)
    | refine fk_gN (fun _ => ?_)
    | refine fk_gAI (fun _ => ?_)
    | refine fk_gAL (fun _ => ?_)
    | refine fk_gAN (fun _ => ?_)
    | refine fk_kif ?_ ?_
    | refine fk_nul ?_ (fun _ => ?_)
    | refine fk_may (fun _ => ?_)
    | refine fk_kdv ?_
    | refine fk_pI (by assumption) (by decide) (fun _ _ => ?_)
    | refine fk_pR (by assumption) (fun _ _ => ?_)
    | refine fk_pAI (by assumption) (by decide) (fun _ _ => ?_)
    | refine fk_pAZ (by assumption) (by decide) (fun _ _ => ?_)
    | refine fk_pAL (by assumption) (fun _ _ => ?_)
    | refine fk_pAN (by assumption) (fun _ _ => ?_)
    | refine fk_nw (by assumption) (by decide) (fun _ _ _ => ?_)
    | refine fk_nwM (by assumption) (fun _ _ _ => ?_))
theorem fk_X7_comesBefore_b64  (s0 : Int32) (h : KH) : FW h (X7_comesBefore_b64 s0 h) := by
  unfold X7_comesBefore_b64
  have q0 : FK h h := FK.rf h
  repeat' with_reducible (first
    | exact fk_ret (by assumption)
    | exact fk_retZ (by assumption)
    | exact fk_retC (by assumption)
    | exact fk_thr (by assumption)
    | exact fk_none
    | refine fk_gI (fun _ => ?_)
    | refine fk_gR (fun _ => ?_)
    | refine fk_gN (fun _ => ?_)
    | refine fk_gAI (fun _ => ?_)
    | refine fk_gAL (fun _ => ?_)
    | refine fk_gAN (fun _ => ?_)
    | refine fk_kif ?_ ?_
    | refine fk_nul ?_ (fun _ => ?_)
    | refine fk_may (fun _ => ?_)
    | refine fk_kdv ?_
    | refine fk_pI (by assumption) (by decide) (fun _ _ => ?_)
    | refine fk_pR (by assumption) (fun _ _ => ?_)
    | refine fk_pAI (by assumption) (by decide) (fun _ _ => ?_)
    | refine fk_pAZ (by assumption) (by decide) (fun _ _ => ?_)
    | refine fk_pAL (by assumption) (fun _ _ => ?_)
    | refine fk_pAN (by assumption) (fun _ _ => ?_)
    | refine fk_nw (by assumption) (by decide) (fun _ _ _ => ?_)
    | refine fk_nwM (by assumption) (fun _ _ _ => ?_))
theorem fk_X7_comesBefore_b14 (rc14 : Nat → Nat → Int32 → Int32 → KH → KO Int32) (hr14 : ∀ (u0 : Nat) (u1 : Nat) (u2 : Int32) (u3 : Int32) (u4 : KH), FW u4 (rc14 u0 u1 u2 u3 u4)) (v0 : Nat) (v1 : Nat) (v2 : Int32) (v3 : Int32) (h : KH) : FW h (X7_comesBefore_b14 rc14 v0 v1 v2 v3 h) := by
  unfold X7_comesBefore_b14
  have q0 : FK h h := FK.rf h
  repeat' with_reducible (first
    | exact fk_ret (by assumption)
    | exact fk_retZ (by assumption)
    | exact fk_retC (by assumption)
    | exact fk_thr (by assumption)
    | exact fk_none
    | exact fk_go (hr14 _ _ _ _ _) (by assumption)
    | exact fk_go (fk_X7_comesBefore_b87 _ _) (by assumption)
    | exact fk_go (fk_X7_comesBefore_b64 _ _) (by assumption)
    | refine fk_gI (fun _ => ?_)
    | refine fk_gR (fun _ => ?_)
    | refine fk_gN (fun _ => ?_)
    | refine fk_gAI (fun _ => ?_)
    | refine fk_gAL (fun _ => ?_)
    | refine fk_gAN (fun _ => ?_)
    | refine fk_kif ?_ ?_
    | refine fk_nul ?_ (fun _ => ?_)
    | refine fk_may (fun _ => ?_)
    | refine fk_kdv ?_
    | refine fk_pI (by assumption) (by decide) (fun _ _ => ?_)
    | refine fk_pR (by assumption) (fun _ _ => ?_)
    | refine fk_pAI (by assumption) (by decide) (fun _ _ => ?_)
    | refine fk_pAZ (by assumption) (by decide) (fun _ _ => ?_)
    | refine fk_pAL (by assumption) (fun _ _ => ?_)
    | refine fk_pAN (by assumption) (fun _ _ => ?_)
    | refine fk_nw (by assumption) (by decide) (fun _ _ _ => ?_)
    | refine fk_nwM (by assumption) (fun _ _ _ => ?_)
    | refine fk_callV (hr14 _ _ _ _ _) (by assumption) (fun _ _ _ => ?_)
    | refine fk_bind (hr14 _ _ _ _ _) (by assumption) (fun _ _ _ => ?_)
    | refine fk_binI (hr14 _ _ _ _ _) (by assumption) (fun _ _ _ => ?_)
    | refine fk_callV (fk_X7_comesBefore_b87 _ _) (by assumption) (fun _ _ _ => ?_)
    | refine fk_bind (fk_X7_comesBefore_b87 _ _) (by assumption) (fun _ _ _ => ?_)
    | refine fk_binI (fk_X7_comesBefore_b87 _ _) (by assumption) (fun _ _ _ => ?_)
    | refine fk_callV (fk_X7_comesBefore_b64 _ _) (by assumption) (fun _ _ _ => ?_)
    | refine fk_bind (fk_X7_comesBefore_b64 _ _) (by assumption) (fun _ _ _ => ?_)
    | refine fk_binI (fk_X7_comesBefore_b64 _ _) (by assumption) (fun _ _ _ => ?_))
theorem fk_X7_comesBefore_L14  : ∀ (m : Nat) (u0 : Nat) (u1 : Nat) (u2 : Int32) (u3 : Int32) (u4 : KH), FW u4 (X7_comesBefore_L14  m u0 u1 u2 u3 u4) := by
  intro m
  induction m with
  | zero => intro u0 u1 u2 u3 u4; exact fk_none
  | succ m ih => intro u0 u1 u2 u3 u4; exact fk_X7_comesBefore_b14 (X7_comesBefore_L14  m) ih u0 u1 u2 u3 u4
theorem fk_f_X7_comesBefore  (p0 : Nat) (p1 : Nat) (h : KH) : FW h (f_X7_comesBefore p0 p1 h) := by
  unfold f_X7_comesBefore
  have q0 : FK h h := FK.rf h
  repeat' with_reducible (first
    | exact fk_ret (by assumption)
    | exact fk_retZ (by assumption)
    | exact fk_retC (by assumption)
    | exact fk_thr (by assumption)
    | exact fk_none
    | exact fk_go (fk_X7_comesBefore_L14 _ _ _ _ _ _) (by assumption)
    | refine fk_gI (fun _ => ?_)
    | refine fk_gR (fun _ => ?_)
    | refine fk_gN (fun _ => ?_)
    | refine fk_gAI (fun _ => ?_)
    | refine fk_gAL (fun _ => ?_)
    | refine fk_gAN (fun _ => ?_)
    | refine fk_kif ?_ ?_
    | refine fk_nul ?_ (fun _ => ?_)
    | refine fk_may (fun _ => ?_)
    | refine fk_kdv ?_
    | refine fk_pI (by assumption) (by decide) (fun _ _ => ?_)
    | refine fk_pR (by assumption) (fun _ _ => ?_)
    | refine fk_pAI (by assumption) (by decide) (fun _ _ => ?_)
    | refine fk_pAZ (by assumption) (by decide) (fun _ _ => ?_)
    | refine fk_pAL (by assumption) (fun _ _ => ?_)
    | refine fk_pAN (by assumption) (fun _ _ => ?_)
    | refine fk_nw (by assumption) (by decide) (fun _ _ _ => ?_)
    | refine fk_nwM (by assumption) (fun _ _ _ => ?_)
    | refine fk_callV (fk_X7_comesBefore_L14 _ _ _ _ _ _) (by assumption) (fun _ _ _ => ?_)
    | refine fk_bind (fk_X7_comesBefore_L14 _ _ _ _ _ _) (by assumption) (fun _ _ _ => ?_)
    | refine fk_binI (fk_X7_comesBefore_L14 _ _ _ _ _ _) (by assumption) (fun _ _ _ => ?_))
theorem fk_X9_putInOrder_b50  (v0 : Nat) (v1 : Nat) (v2 : Int32) (h : KH) : FW h (X9_putInOrder_b50 v0 v1 v2 h) := by
  unfold X9_putInOrder_b50
  have q0 : FK h h := FK.rf h
  repeat' with_reducible (first
    | exact fk_ret (by assumption)
    | exact fk_retZ (by assumption)
    | exact fk_retC (by assumption)
    | exact fk_thr (by assumption)
    | exact fk_none
    | refine fk_gI (fun _ => ?_)
    | refine fk_gR (fun _ => ?_)
    | refine fk_gN (fun _ => ?_)
    | refine fk_gAI (fun _ => ?_)
    | refine fk_gAL (fun _ => ?_)
    | refine fk_gAN (fun _ => ?_)
    | refine fk_kif ?_ ?_
    | refine fk_nul ?_ (fun _ => ?_)
    | refine fk_may (fun _ => ?_)
    | refine fk_kdv ?_
    | refine fk_pI (by assumption) (by decide) (fun _ _ => ?_)
    | refine fk_pR (by assumption) (fun _ _ => ?_)
    | refine fk_pAI (by assumption) (by decide) (fun _ _ => ?_)
    | refine fk_pAZ (by assumption) (by decide) (fun _ _ => ?_)
    | refine fk_pAL (by assumption) (fun _ _ => ?_)
    | refine fk_pAN (by assumption) (fun _ _ => ?_)
    | refine fk_nw (by assumption) (by decide) (fun _ _ _ => ?_)
    | refine fk_nwM (by assumption) (fun _ _ _ => ?_))
theorem fk_X9_putInOrder_b5 (rc5 : Nat → Nat → Int32 → KH → KO Unit) (hr5 : ∀ (u0 : Nat) (u1 : Nat) (u2 : Int32) (u3 : KH), FW u3 (rc5 u0 u1 u2 u3)) (v0 : Nat) (v1 : Nat) (v2 : Int32) (h : KH) : FW h (X9_putInOrder_b5 rc5 v0 v1 v2 h) := by
  unfold X9_putInOrder_b5
  have q0 : FK h h := FK.rf h
  repeat' with_reducible (first
    | exact fk_ret (by assumption)
    | exact fk_retZ (by assumption)
    | exact fk_retC (by assumption)
    | exact fk_thr (by assumption)
    | exact fk_none
    | exact fk_go (hr5 _ _ _ _) (by assumption)
    | exact fk_go (fk_X9_putInOrder_b50 _ _ _ _) (by assumption)
    | exact fk_go (fk_f_X7_comesBefore _ _ _) (by assumption)
    | refine fk_gI (fun _ => ?_)
    | refine fk_gR (fun _ => ?_)
    | refine fk_gN (fun _ => ?_)
    | refine fk_gAI (fun _ => ?_)
    | refine fk_gAL (fun _ => ?_)
    | refine fk_gAN (fun _ => ?_)
    | refine fk_kif ?_ ?_
    | refine fk_nul ?_ (fun _ => ?_)
    | refine fk_may (fun _ => ?_)
    | refine fk_kdv ?_
    | refine fk_pI (by assumption) (by decide) (fun _ _ => ?_)
    | refine fk_pR (by assumption) (fun _ _ => ?_)
    | refine fk_pAI (by assumption) (by decide) (fun _ _ => ?_)
    | refine fk_pAZ (by assumption) (by decide) (fun _ _ => ?_)
    | refine fk_pAL (by assumption) (fun _ _ => ?_)
    | refine fk_pAN (by assumption) (fun _ _ => ?_)
    | refine fk_nw (by assumption) (by decide) (fun _ _ _ => ?_)
    | refine fk_nwM (by assumption) (fun _ _ _ => ?_)
    | refine fk_callV (hr5 _ _ _ _) (by assumption) (fun _ _ _ => ?_)
    | refine fk_bind (hr5 _ _ _ _) (by assumption) (fun _ _ _ => ?_)
    | refine fk_binI (hr5 _ _ _ _) (by assumption) (fun _ _ _ => ?_)
    | refine fk_callV (fk_X9_putInOrder_b50 _ _ _ _) (by assumption) (fun _ _ _ => ?_)
    | refine fk_bind (fk_X9_putInOrder_b50 _ _ _ _) (by assumption) (fun _ _ _ => ?_)
    | refine fk_binI (fk_X9_putInOrder_b50 _ _ _ _) (by assumption) (fun _ _ _ => ?_)
    | refine fk_callV (fk_f_X7_comesBefore _ _ _) (by assumption) (fun _ _ _ => ?_)
    | refine fk_bind (fk_f_X7_comesBefore _ _ _) (by assumption) (fun _ _ _ => ?_)
    | refine fk_binI (fk_f_X7_comesBefore _ _ _) (by assumption) (fun _ _ _ => ?_))
theorem fk_X9_putInOrder_L5  : ∀ (m : Nat) (u0 : Nat) (u1 : Nat) (u2 : Int32) (u3 : KH), FW u3 (X9_putInOrder_L5  m u0 u1 u2 u3) := by
  intro m
  induction m with
  | zero => intro u0 u1 u2 u3; exact fk_none
  | succ m ih => intro u0 u1 u2 u3; exact fk_X9_putInOrder_b5 (X9_putInOrder_L5  m) ih u0 u1 u2 u3
theorem fk_f_X9_putInOrder  (p0 : Nat) (p1 : Nat) (h : KH) : FW h (f_X9_putInOrder p0 p1 h) := by
  unfold f_X9_putInOrder
  have q0 : FK h h := FK.rf h
  repeat' with_reducible (first
    | exact fk_ret (by assumption)
    | exact fk_retZ (by assumption)
    | exact fk_retC (by assumption)
    | exact fk_thr (by assumption)
    | exact fk_none
    | exact fk_go (fk_X9_putInOrder_L5 _ _ _ _ _) (by assumption)
    | refine fk_gI (fun _ => ?_)
    | refine fk_gR (fun _ => ?_)
    | refine fk_gN (fun _ => ?_)
    | refine fk_gAI (fun _ => ?_)
    | refine fk_gAL (fun _ => ?_)
    | refine fk_gAN (fun _ => ?_)
    | refine fk_kif ?_ ?_
    | refine fk_nul ?_ (fun _ => ?_)
    | refine fk_may (fun _ => ?_)
    | refine fk_kdv ?_
    | refine fk_pI (by assumption) (by decide) (fun _ _ => ?_)
    | refine fk_pR (by assumption) (fun _ _ => ?_)
    | refine fk_pAI (by assumption) (by decide) (fun _ _ => ?_)
    | refine fk_pAZ (by assumption) (by decide) (fun _ _ => ?_)
    | refine fk_pAL (by assumption) (fun _ _ => ?_)
    | refine fk_pAN (by assumption) (fun _ _ => ?_)
    | refine fk_nw (by assumption) (by decide) (fun _ _ _ => ?_)
    | refine fk_nwM (by assumption) (fun _ _ _ => ?_)
    | refine fk_callV (fk_X9_putInOrder_L5 _ _ _ _ _) (by assumption) (fun _ _ _ => ?_)
    | refine fk_bind (fk_X9_putInOrder_L5 _ _ _ _ _) (by assumption) (fun _ _ _ => ?_)
    | refine fk_binI (fk_X9_putInOrder_L5 _ _ _ _ _) (by assumption) (fun _ _ _ => ?_))
theorem fk_X9_register_b48  (h : KH) : FW h (X9_register_b48 h) := by
  unfold X9_register_b48
  have q0 : FK h h := FK.rf h
  repeat' with_reducible (first
    | exact fk_ret (by assumption)
    | exact fk_retZ (by assumption)
    | exact fk_retC (by assumption)
    | exact fk_thr (by assumption)
    | exact fk_none
    | refine fk_gI (fun _ => ?_)
    | refine fk_gR (fun _ => ?_)
    | refine fk_gN (fun _ => ?_)
    | refine fk_gAI (fun _ => ?_)
    | refine fk_gAL (fun _ => ?_)
    | refine fk_gAN (fun _ => ?_)
    | refine fk_kif ?_ ?_
    | refine fk_nul ?_ (fun _ => ?_)
    | refine fk_may (fun _ => ?_)
    | refine fk_kdv ?_
    | refine fk_pI (by assumption) (by decide) (fun _ _ => ?_)
    | refine fk_pR (by assumption) (fun _ _ => ?_)
    | refine fk_pAI (by assumption) (by decide) (fun _ _ => ?_)
    | refine fk_pAZ (by assumption) (by decide) (fun _ _ => ?_)
    | refine fk_pAL (by assumption) (fun _ _ => ?_)
    | refine fk_pAN (by assumption) (fun _ _ => ?_)
    | refine fk_nw (by assumption) (by decide) (fun _ _ _ => ?_)
    | refine fk_nwM (by assumption) (fun _ _ _ => ?_))
theorem fk_f_X9_register  (p0 : Nat) (p1 : Int32) (p2 : Int32) (h : KH) : FW h (f_X9_register p0 p1 p2 h) := by
  unfold f_X9_register
  have q0 : FK h h := FK.rf h
  repeat' with_reducible (first
    | exact fk_ret (by assumption)
    | exact fk_retZ (by assumption)
    | exact fk_retC (by assumption)
    | exact fk_thr (by assumption)
    | exact fk_none
    | exact fk_go (fk_f_X9_requireDriver _ _) (by assumption)
    | exact fk_go (fk_f_X9_requireClass _ _) (by assumption)
    | exact fk_go (fk_X9_register_b48 _) (by assumption)
    | exact fk_go (fk_f_X7_hasQuestionMark _ _) (by assumption)
    | exact fk_go (fk_f_X9_isTaken _ _ _) (by assumption)
    | exact fk_go (fk_f_X7_copy _ _) (by assumption)
    | exact fk_go (fk_f_X1_init _ _ _ _ _) (by assumption)
    | exact fk_go (fk_f_X4_init _ _ _ _ _ _) (by assumption)
    | exact fk_go (fk_f_X9_putInOrder _ _ _) (by assumption)
    | exact fk_go (fk_f_X9_leadAllBack _ _) (by assumption)
    | refine fk_gI (fun _ => ?_)
    | refine fk_gR (fun _ => ?_)
    | refine fk_gN (fun _ => ?_)
    | refine fk_gAI (fun _ => ?_)
    | refine fk_gAL (fun _ => ?_)
    | refine fk_gAN (fun _ => ?_)
    | refine fk_kif ?_ ?_
    | refine fk_nul ?_ (fun _ => ?_)
    | refine fk_may (fun _ => ?_)
    | refine fk_kdv ?_
    | refine fk_pI (by assumption) (by decide) (fun _ _ => ?_)
    | refine fk_pR (by assumption) (fun _ _ => ?_)
    | refine fk_pAI (by assumption) (by decide) (fun _ _ => ?_)
    | refine fk_pAZ (by assumption) (by decide) (fun _ _ => ?_)
    | refine fk_pAL (by assumption) (fun _ _ => ?_)
    | refine fk_pAN (by assumption) (fun _ _ => ?_)
    | refine fk_nw (by assumption) (by decide) (fun _ _ _ => ?_)
    | refine fk_nwM (by assumption) (fun _ _ _ => ?_)
    | refine fk_callV (fk_f_X9_requireDriver _ _) (by assumption) (fun _ _ _ => ?_)
    | refine fk_bind (fk_f_X9_requireDriver _ _) (by assumption) (fun _ _ _ => ?_)
    | refine fk_binI (fk_f_X9_requireDriver _ _) (by assumption) (fun _ _ _ => ?_)
    | refine fk_callV (fk_f_X9_requireClass _ _) (by assumption) (fun _ _ _ => ?_)
    | refine fk_bind (fk_f_X9_requireClass _ _) (by assumption) (fun _ _ _ => ?_)
    | refine fk_binI (fk_f_X9_requireClass _ _) (by assumption) (fun _ _ _ => ?_)
    | refine fk_callV (fk_X9_register_b48 _) (by assumption) (fun _ _ _ => ?_)
    | refine fk_bind (fk_X9_register_b48 _) (by assumption) (fun _ _ _ => ?_)
    | refine fk_binI (fk_X9_register_b48 _) (by assumption) (fun _ _ _ => ?_)
    | refine fk_callV (fk_f_X7_hasQuestionMark _ _) (by assumption) (fun _ _ _ => ?_)
    | refine fk_bind (fk_f_X7_hasQuestionMark _ _) (by assumption) (fun _ _ _ => ?_)
    | refine fk_binI (fk_f_X7_hasQuestionMark _ _) (by assumption) (fun _ _ _ => ?_)
    | refine fk_callV (fk_f_X9_isTaken _ _ _) (by assumption) (fun _ _ _ => ?_)
    | refine fk_bind (fk_f_X9_isTaken _ _ _) (by assumption) (fun _ _ _ => ?_)
    | refine fk_binI (fk_f_X9_isTaken _ _ _) (by assumption) (fun _ _ _ => ?_)
    | refine fk_callV (fk_f_X7_copy _ _) (by assumption) (fun _ _ _ => ?_)
    | refine fk_bind (fk_f_X7_copy _ _) (by assumption) (fun _ _ _ => ?_)
    | refine fk_binI (fk_f_X7_copy _ _) (by assumption) (fun _ _ _ => ?_)
    | refine fk_callV (fk_f_X1_init _ _ _ _ _) (by assumption) (fun _ _ _ => ?_)
    | refine fk_bind (fk_f_X1_init _ _ _ _ _) (by assumption) (fun _ _ _ => ?_)
    | refine fk_binI (fk_f_X1_init _ _ _ _ _) (by assumption) (fun _ _ _ => ?_)
    | refine fk_callV (fk_f_X4_init _ _ _ _ _ _) (by assumption) (fun _ _ _ => ?_)
    | refine fk_bind (fk_f_X4_init _ _ _ _ _ _) (by assumption) (fun _ _ _ => ?_)
    | refine fk_binI (fk_f_X4_init _ _ _ _ _ _) (by assumption) (fun _ _ _ => ?_)
    | refine fk_callV (fk_f_X9_putInOrder _ _ _) (by assumption) (fun _ _ _ => ?_)
    | refine fk_bind (fk_f_X9_putInOrder _ _ _) (by assumption) (fun _ _ _ => ?_)
    | refine fk_binI (fk_f_X9_putInOrder _ _ _) (by assumption) (fun _ _ _ => ?_)
    | refine fk_callV (fk_f_X9_leadAllBack _ _) (by assumption) (fun _ _ _ => ?_)
    | refine fk_bind (fk_f_X9_leadAllBack _ _) (by assumption) (fun _ _ _ => ?_)
    | refine fk_binI (fk_f_X9_leadAllBack _ _) (by assumption) (fun _ _ _ => ?_))
theorem fk_f_X9_plateNumbered  (p0 : Nat) (p1 : Int32) (h : KH) : FW h (f_X9_plateNumbered p0 p1 h) := by
  unfold f_X9_plateNumbered
  have q0 : FK h h := FK.rf h
  repeat' with_reducible (first
    | exact fk_ret (by assumption)
    | exact fk_retZ (by assumption)
    | exact fk_retC (by assumption)
    | exact fk_thr (by assumption)
    | exact fk_none
    | exact fk_go (fk_f_X9_isWithin _ _ _ _) (by assumption)
    | refine fk_gI (fun _ => ?_)
    | refine fk_gR (fun _ => ?_)
    | refine fk_gN (fun _ => ?_)
    | refine fk_gAI (fun _ => ?_)
    | refine fk_gAL (fun _ => ?_)
    | refine fk_gAN (fun _ => ?_)
    | refine fk_kif ?_ ?_
    | refine fk_nul ?_ (fun _ => ?_)
    | refine fk_may (fun _ => ?_)
    | refine fk_kdv ?_
    | refine fk_pI (by assumption) (by decide) (fun _ _ => ?_)
    | refine fk_pR (by assumption) (fun _ _ => ?_)
    | refine fk_pAI (by assumption) (by decide) (fun _ _ => ?_)
    | refine fk_pAZ (by assumption) (by decide) (fun _ _ => ?_)
    | refine fk_pAL (by assumption) (fun _ _ => ?_)
    | refine fk_pAN (by assumption) (fun _ _ => ?_)
    | refine fk_nw (by assumption) (by decide) (fun _ _ _ => ?_)
    | refine fk_nwM (by assumption) (fun _ _ _ => ?_)
    | refine fk_callV (fk_f_X9_isWithin _ _ _ _) (by assumption) (fun _ _ _ => ?_)
    | refine fk_bind (fk_f_X9_isWithin _ _ _ _) (by assumption) (fun _ _ _ => ?_)
    | refine fk_binI (fk_f_X9_isWithin _ _ _ _) (by assumption) (fun _ _ _ => ?_))
theorem fk_X4_sellTo_b25  (v0 : Nat) (v1 : Int32) (v2 : Int32) (s0 : Option Nat) (h : KH) : FW h (X4_sellTo_b25 v0 v1 v2 s0 h) := by
  unfold X4_sellTo_b25
  have q0 : FK h h := FK.rf h
  repeat' with_reducible (first
    | exact fk_ret (by assumption)
    | exact fk_retZ (by assumption)
    | exact fk_retC (by assumption)
    | exact fk_thr (by assumption)
    | exact fk_none
    | exact fk_go (fk_f_X1_init _ _ _ _ _) (by assumption)
    | refine fk_gI (fun _ => ?_)
    | refine fk_gR (fun _ => ?_)
    | refine fk_gN (fun _ => ?_)
    | refine fk_gAI (fun _ => ?_)
    | refine fk_gAL (fun _ => ?_)
    | refine fk_gAN (fun _ => ?_)
    | refine fk_kif ?_ ?_
    | refine fk_nul ?_ (fun _ => ?_)
    | refine fk_may (fun _ => ?_)
    | refine fk_kdv ?_
    | refine fk_pI (by assumption) (by decide) (fun _ _ => ?_)
    | refine fk_pR (by assumption) (fun _ _ => ?_)
    | refine fk_pAI (by assumption) (by decide) (fun _ _ => ?_)
    | refine fk_pAZ (by assumption) (by decide) (fun _ _ => ?_)
    | refine fk_pAL (by assumption) (fun _ _ => ?_)
    | refine fk_pAN (by assumption) (fun _ _ => ?_)
    | refine fk_nw (by assumption) (by decide) (fun _ _ _ => ?_)
    | refine fk_nwM (by assumption) (fun _ _ _ => ?_)
    | refine fk_callV (fk_f_X1_init _ _ _ _ _) (by assumption) (fun _ _ _ => ?_)
    | refine fk_bind (fk_f_X1_init _ _ _ _ _) (by assumption) (fun _ _ _ => ?_)
    | refine fk_binI (fk_f_X1_init _ _ _ _ _) (by assumption) (fun _ _ _ => ?_))
theorem fk_f_X4_sellTo  (p0 : Nat) (p1 : Int32) (p2 : Int32) (h : KH) : FW h (f_X4_sellTo p0 p1 p2 h) := by
  unfold f_X4_sellTo
  have q0 : FK h h := FK.rf h
  repeat' with_reducible (first
    | exact fk_ret (by assumption)
    | exact fk_retZ (by assumption)
    | exact fk_retC (by assumption)
    | exact fk_thr (by assumption)
    | exact fk_none
    | exact fk_go (fk_X4_sellTo_b25 _ _ _ _ _) (by assumption)
    | refine fk_gI (fun _ => ?_)
    | refine fk_gR (fun _ => ?_)
    | refine fk_gN (fun _ => ?_)
    | refine fk_gAI (fun _ => ?_)
    | refine fk_gAL (fun _ => ?_)
    | refine fk_gAN (fun _ => ?_)
    | refine fk_kif ?_ ?_
    | refine fk_nul ?_ (fun _ => ?_)
    | refine fk_may (fun _ => ?_)
    | refine fk_kdv ?_
    | refine fk_pI (by assumption) (by decide) (fun _ _ => ?_)
    | refine fk_pR (by assumption) (fun _ _ => ?_)
    | refine fk_pAI (by assumption) (by decide) (fun _ _ => ?_)
    | refine fk_pAZ (by assumption) (by decide) (fun _ _ => ?_)
    | refine fk_pAL (by assumption) (fun _ _ => ?_)
    | refine fk_pAN (by assumption) (fun _ _ => ?_)
    | refine fk_nw (by assumption) (by decide) (fun _ _ _ => ?_)
    | refine fk_nwM (by assumption) (fun _ _ _ => ?_)
    | refine fk_callV (fk_X4_sellTo_b25 _ _ _ _ _) (by assumption) (fun _ _ _ => ?_)
    | refine fk_bind (fk_X4_sellTo_b25 _ _ _ _ _) (by assumption) (fun _ _ _ => ?_)
    | refine fk_binI (fk_X4_sellTo_b25 _ _ _ _ _) (by assumption) (fun _ _ _ => ?_))
theorem fk_f_X9_sell  (p0 : Nat) (p1 : Int32) (p2 : Int32) (h : KH) : FW h (f_X9_sell p0 p1 p2 h) := by
  unfold f_X9_sell
  have q0 : FK h h := FK.rf h
  repeat' with_reducible (first
    | exact fk_ret (by assumption)
    | exact fk_retZ (by assumption)
    | exact fk_retC (by assumption)
    | exact fk_thr (by assumption)
    | exact fk_none
    | exact fk_go (fk_f_X9_plateNumbered _ _ _) (by assumption)
    | exact fk_go (fk_f_X9_requireDriver _ _) (by assumption)
    | exact fk_go (fk_f_X4_sellTo _ _ _ _) (by assumption)
    | refine fk_gI (fun _ => ?_)
    | refine fk_gR (fun _ => ?_)
    | refine fk_gN (fun _ => ?_)
    | refine fk_gAI (fun _ => ?_)
    | refine fk_gAL (fun _ => ?_)
    | refine fk_gAN (fun _ => ?_)
    | refine fk_kif ?_ ?_
    | refine fk_nul ?_ (fun _ => ?_)
    | refine fk_may (fun _ => ?_)
    | refine fk_kdv ?_
    | refine fk_pI (by assumption) (by decide) (fun _ _ => ?_)
    | refine fk_pR (by assumption) (fun _ _ => ?_)
    | refine fk_pAI (by assumption) (by decide) (fun _ _ => ?_)
    | refine fk_pAZ (by assumption) (by decide) (fun _ _ => ?_)
    | refine fk_pAL (by assumption) (fun _ _ => ?_)
    | refine fk_pAN (by assumption) (fun _ _ => ?_)
    | refine fk_nw (by assumption) (by decide) (fun _ _ _ => ?_)
    | refine fk_nwM (by assumption) (fun _ _ _ => ?_)
    | refine fk_callV (fk_f_X9_plateNumbered _ _ _) (by assumption) (fun _ _ _ => ?_)
    | refine fk_bind (fk_f_X9_plateNumbered _ _ _) (by assumption) (fun _ _ _ => ?_)
    | refine fk_binI (fk_f_X9_plateNumbered _ _ _) (by assumption) (fun _ _ _ => ?_)
    | refine fk_callV (fk_f_X9_requireDriver _ _) (by assumption) (fun _ _ _ => ?_)
    | refine fk_bind (fk_f_X9_requireDriver _ _) (by assumption) (fun _ _ _ => ?_)
    | refine fk_binI (fk_f_X9_requireDriver _ _) (by assumption) (fun _ _ _ => ?_)
    | refine fk_callV (fk_f_X4_sellTo _ _ _ _) (by assumption) (fun _ _ _ => ?_)
    | refine fk_bind (fk_f_X4_sellTo _ _ _ _) (by assumption) (fun _ _ _ => ?_)
    | refine fk_binI (fk_f_X4_sellTo _ _ _ _) (by assumption) (fun _ _ _ => ?_))
theorem fk_f_X9_plates  (p0 : Nat) (h : KH) : FW h (f_X9_plates p0 h) := by
  unfold f_X9_plates
  have q0 : FK h h := FK.rf h
  repeat' with_reducible (first
    | exact fk_ret (by assumption)
    | exact fk_retZ (by assumption)
    | exact fk_retC (by assumption)
    | exact fk_thr (by assumption)
    | exact fk_none
    | refine fk_gI (fun _ => ?_)
    | refine fk_gR (fun _ => ?_)
    | refine fk_gN (fun _ => ?_)
    | refine fk_gAI (fun _ => ?_)
    | refine fk_gAL (fun _ => ?_)
    | refine fk_gAN (fun _ => ?_)
    | refine fk_kif ?_ ?_
    | refine fk_nul ?_ (fun _ => ?_)
    | refine fk_may (fun _ => ?_)
    | refine fk_kdv ?_
    | refine fk_pI (by assumption) (by decide) (fun _ _ => ?_)
    | refine fk_pR (by assumption) (fun _ _ => ?_)
    | refine fk_pAI (by assumption) (by decide) (fun _ _ => ?_)
    | refine fk_pAZ (by assumption) (by decide) (fun _ _ => ?_)
    | refine fk_pAL (by assumption) (fun _ _ => ?_)
    | refine fk_pAN (by assumption) (fun _ _ => ?_)
    | refine fk_nw (by assumption) (by decide) (fun _ _ _ => ?_)
    | refine fk_nwM (by assumption) (fun _ _ _ => ?_))
theorem fk_f_X9_plateAt  (p0 : Nat) (p1 : Int32) (h : KH) : FW h (f_X9_plateAt p0 p1 h) := by
  unfold f_X9_plateAt
  have q0 : FK h h := FK.rf h
  repeat' with_reducible (first
    | exact fk_ret (by assumption)
    | exact fk_retZ (by assumption)
    | exact fk_retC (by assumption)
    | exact fk_thr (by assumption)
    | exact fk_none
    | exact fk_go (fk_f_X9_isWithin _ _ _ _) (by assumption)
    | refine fk_gI (fun _ => ?_)
    | refine fk_gR (fun _ => ?_)
    | refine fk_gN (fun _ => ?_)
    | refine fk_gAI (fun _ => ?_)
    | refine fk_gAL (fun _ => ?_)
    | refine fk_gAN (fun _ => ?_)
    | refine fk_kif ?_ ?_
    | refine fk_nul ?_ (fun _ => ?_)
    | refine fk_may (fun _ => ?_)
    | refine fk_kdv ?_
    | refine fk_pI (by assumption) (by decide) (fun _ _ => ?_)
    | refine fk_pR (by assumption) (fun _ _ => ?_)
    | refine fk_pAI (by assumption) (by decide) (fun _ _ => ?_)
    | refine fk_pAZ (by assumption) (by decide) (fun _ _ => ?_)
    | refine fk_pAL (by assumption) (fun _ _ => ?_)
    | refine fk_pAN (by assumption) (fun _ _ => ?_)
    | refine fk_nw (by assumption) (by decide) (fun _ _ _ => ?_)
    | refine fk_nwM (by assumption) (fun _ _ _ => ?_)
    | refine fk_callV (fk_f_X9_isWithin _ _ _ _) (by assumption) (fun _ _ _ => ?_)
    | refine fk_bind (fk_f_X9_isWithin _ _ _ _) (by assumption) (fun _ _ _ => ?_)
    | refine fk_binI (fk_f_X9_isWithin _ _ _ _) (by assumption) (fun _ _ _ => ?_))
theorem fk_f_X9_requireMinute  (p0 : Nat) (p1 : Int32) (h : KH) : FW h (f_X9_requireMinute p0 p1 h) := by
  unfold f_X9_requireMinute
  have q0 : FK h h := FK.rf h
  repeat' with_reducible (first
    | exact fk_ret (by assumption)
    | exact fk_retZ (by assumption)
    | exact fk_retC (by assumption)
    | exact fk_thr (by assumption)
    | exact fk_none
    | exact fk_go (fk_f_X9_isWithin _ _ _ _) (by assumption)
    | refine fk_gI (fun _ => ?_)
    | refine fk_gR (fun _ => ?_)
    | refine fk_gN (fun _ => ?_)
    | refine fk_gAI (fun _ => ?_)
    | refine fk_gAL (fun _ => ?_)
    | refine fk_gAN (fun _ => ?_)
    | refine fk_kif ?_ ?_
    | refine fk_nul ?_ (fun _ => ?_)
    | refine fk_may (fun _ => ?_)
    | refine fk_kdv ?_
    | refine fk_pI (by assumption) (by decide) (fun _ _ => ?_)
    | refine fk_pR (by assumption) (fun _ _ => ?_)
    | refine fk_pAI (by assumption) (by decide) (fun _ _ => ?_)
    | refine fk_pAZ (by assumption) (by decide) (fun _ _ => ?_)
    | refine fk_pAL (by assumption) (fun _ _ => ?_)
    | refine fk_pAN (by assumption) (fun _ _ => ?_)
    | refine fk_nw (by assumption) (by decide) (fun _ _ _ => ?_)
    | refine fk_nwM (by assumption) (fun _ _ _ => ?_)
    | refine fk_callV (fk_f_X9_isWithin _ _ _ _) (by assumption) (fun _ _ _ => ?_)
    | refine fk_bind (fk_f_X9_isWithin _ _ _ _) (by assumption) (fun _ _ _ => ?_)
    | refine fk_binI (fk_f_X9_isWithin _ _ _ _) (by assumption) (fun _ _ _ => ?_))
theorem fk_X4_driverIn_b5 (rc5 : Int32 → Option Nat → KH → KO Int32) (hr5 : ∀ (u0 : Int32) (u1 : Option Nat) (u2 : KH), FW u2 (rc5 u0 u1 u2)) (v1 : Int32) (v2 : Option Nat) (h : KH) : FW h (X4_driverIn_b5 rc5 v1 v2 h) := by
  unfold X4_driverIn_b5
  have q0 : FK h h := FK.rf h
  repeat' with_reducible (first
    | exact fk_ret (by assumption)
    | exact fk_retZ (by assumption)
    | exact fk_retC (by assumption)
    | exact fk_thr (by assumption)
    | exact fk_none
    | exact fk_go (hr5 _ _ _) (by assumption)
    | refine fk_gI (fun _ => ?_)
    | refine fk_gR (fun _ => ?_)
    | refine fk_gN (fun _ => ?_)
    | refine fk_gAI (fun _ => ?_)
    | refine fk_gAL (fun _ => ?_)
    | refine fk_gAN (fun _ => ?_)
    | refine fk_kif ?_ ?_
    | refine fk_nul ?_ (fun _ => ?_)
    | refine fk_may (fun _ => ?_)
    | refine fk_kdv ?_
    | refine fk_pI (by assumption) (by decide) (fun _ _ => ?_)
    | refine fk_pR (by assumption) (fun _ _ => ?_)
    | refine fk_pAI (by assumption) (by decide) (fun _ _ => ?_)
    | refine fk_pAZ (by assumption) (by decide) (fun _ _ => ?_)
    | refine fk_pAL (by assumption) (fun _ _ => ?_)
    | refine fk_pAN (by assumption) (fun _ _ => ?_)
    | refine fk_nw (by assumption) (by decide) (fun _ _ _ => ?_)
    | refine fk_nwM (by assumption) (fun _ _ _ => ?_)
    | refine fk_callV (hr5 _ _ _) (by assumption) (fun _ _ _ => ?_)
    | refine fk_bind (hr5 _ _ _) (by assumption) (fun _ _ _ => ?_)
    | refine fk_binI (hr5 _ _ _) (by assumption) (fun _ _ _ => ?_))
theorem fk_X4_driverIn_L5  : ∀ (m : Nat) (u0 : Int32) (u1 : Option Nat) (u2 : KH), FW u2 (X4_driverIn_L5  m u0 u1 u2) := by
  intro m
  induction m with
  | zero => intro u0 u1 u2; exact fk_none
  | succ m ih => intro u0 u1 u2; exact fk_X4_driverIn_b5 (X4_driverIn_L5  m) ih u0 u1 u2
theorem fk_f_X4_driverIn  (p0 : Nat) (p1 : Int32) (h : KH) : FW h (f_X4_driverIn p0 p1 h) := by
  unfold f_X4_driverIn
  have q0 : FK h h := FK.rf h
  repeat' with_reducible (first
    | exact fk_ret (by assumption)
    | exact fk_retZ (by assumption)
    | exact fk_retC (by assumption)
    | exact fk_thr (by assumption)
    | exact fk_none
    | exact fk_go (fk_X4_driverIn_L5 _ _ _ _) (by assumption)
    | refine fk_gI (fun _ => ?_)
    | refine fk_gR (fun _ => ?_)
    | refine fk_gN (fun _ => ?_)
    | refine fk_gAI (fun _ => ?_)
    | refine fk_gAL (fun _ => ?_)
    | refine fk_gAN (fun _ => ?_)
    | refine fk_kif ?_ ?_
    | refine fk_nul ?_ (fun _ => ?_)
    | refine fk_may (fun _ => ?_)
    | refine fk_kdv ?_
    | refine fk_pI (by assumption) (by decide) (fun _ _ => ?_)
    | refine fk_pR (by assumption) (fun _ _ => ?_)
    | refine fk_pAI (by assumption) (by decide) (fun _ _ => ?_)
    | refine fk_pAZ (by assumption) (by decide) (fun _ _ => ?_)
    | refine fk_pAL (by assumption) (fun _ _ => ?_)
    | refine fk_pAN (by assumption) (fun _ _ => ?_)
    | refine fk_nw (by assumption) (by decide) (fun _ _ _ => ?_)
    | refine fk_nwM (by assumption) (fun _ _ _ => ?_)
    | refine fk_callV (fk_X4_driverIn_L5 _ _ _ _) (by assumption) (fun _ _ _ => ?_)
    | refine fk_bind (fk_X4_driverIn_L5 _ _ _ _) (by assumption) (fun _ _ _ => ?_)
    | refine fk_binI (fk_X4_driverIn_L5 _ _ _ _) (by assumption) (fun _ _ _ => ?_))
theorem fk_f_X9_holder  (p0 : Nat) (p1 : Int32) (p2 : Int32) (h : KH) : FW h (f_X9_holder p0 p1 p2 h) := by
  unfold f_X9_holder
  have q0 : FK h h := FK.rf h
  repeat' with_reducible (first
    | exact fk_ret (by assumption)
    | exact fk_retZ (by assumption)
    | exact fk_retC (by assumption)
    | exact fk_thr (by assumption)
    | exact fk_none
    | exact fk_go (fk_f_X9_plateNumbered _ _ _) (by assumption)
    | exact fk_go (fk_f_X9_requireMinute _ _ _) (by assumption)
    | exact fk_go (fk_f_X4_driverIn _ _ _) (by assumption)
    | refine fk_gI (fun _ => ?_)
    | refine fk_gR (fun _ => ?_)
    | refine fk_gN (fun _ => ?_)
    | refine fk_gAI (fun _ => ?_)
    | refine fk_gAL (fun _ => ?_)
    | refine fk_gAN (fun _ => ?_)
    | refine fk_kif ?_ ?_
    | refine fk_nul ?_ (fun _ => ?_)
    | refine fk_may (fun _ => ?_)
    | refine fk_kdv ?_
    | refine fk_pI (by assumption) (by decide) (fun _ _ => ?_)
    | refine fk_pR (by assumption) (fun _ _ => ?_)
    | refine fk_pAI (by assumption) (by decide) (fun _ _ => ?_)
    | refine fk_pAZ (by assumption) (by decide) (fun _ _ => ?_)
    | refine fk_pAL (by assumption) (fun _ _ => ?_)
    | refine fk_pAN (by assumption) (fun _ _ => ?_)
    | refine fk_nw (by assumption) (by decide) (fun _ _ _ => ?_)
    | refine fk_nwM (by assumption) (fun _ _ _ => ?_)
    | refine fk_callV (fk_f_X9_plateNumbered _ _ _) (by assumption) (fun _ _ _ => ?_)
    | refine fk_bind (fk_f_X9_plateNumbered _ _ _) (by assumption) (fun _ _ _ => ?_)
    | refine fk_binI (fk_f_X9_plateNumbered _ _ _) (by assumption) (fun _ _ _ => ?_)
    | refine fk_callV (fk_f_X9_requireMinute _ _ _) (by assumption) (fun _ _ _ => ?_)
    | refine fk_bind (fk_f_X9_requireMinute _ _ _) (by assumption) (fun _ _ _ => ?_)
    | refine fk_binI (fk_f_X9_requireMinute _ _ _) (by assumption) (fun _ _ _ => ?_)
    | refine fk_callV (fk_f_X4_driverIn _ _ _) (by assumption) (fun _ _ _ => ?_)
    | refine fk_bind (fk_f_X4_driverIn _ _ _) (by assumption) (fun _ _ _ => ?_)
    | refine fk_binI (fk_f_X4_driverIn _ _ _) (by assumption) (fun _ _ _ => ?_))
theorem fk_f_X5_init  (p0 : Nat) (p1 : Int32) (p2 : Int32) (p3 : Int32) (p4 : Nat) (h : KH) : FW h (f_X5_init p0 p1 p2 p3 p4 h) := by
  unfold f_X5_init
  have q0 : FK h h := FK.rf h
  repeat' with_reducible (first
    | exact fk_ret (by assumption)
    | exact fk_retZ (by assumption)
    | exact fk_retC (by assumption)
    | exact fk_thr (by assumption)
    | exact fk_none
    | refine fk_gI (fun _ => ?_)
    | refine fk_gR (fun _ => ?_)
    | refine fk_gN (fun _ => ?_)
    | refine fk_gAI (fun _ => ?_)
    | refine fk_gAL (fun _ => ?_)
    | refine fk_gAN (fun _ => ?_)
    | refine fk_kif ?_ ?_
    | refine fk_nul ?_ (fun _ => ?_)
    | refine fk_may (fun _ => ?_)
    | refine fk_kdv ?_
    | refine fk_pI (by assumption) (by decide) (fun _ _ => ?_)
    | refine fk_pR (by assumption) (fun _ _ => ?_)
    | refine fk_pAI (by assumption) (by decide) (fun _ _ => ?_)
    | refine fk_pAZ (by assumption) (by decide) (fun _ _ => ?_)
    | refine fk_pAL (by assumption) (fun _ _ => ?_)
    | refine fk_pAN (by assumption) (fun _ _ => ?_)
    | refine fk_nw (by assumption) (by decide) (fun _ _ _ => ?_)
    | refine fk_nwM (by assumption) (fun _ _ _ => ?_))
theorem fk_X9_read_b28  (h : KH) : FW h (X9_read_b28 h) := by
  unfold X9_read_b28
  have q0 : FK h h := FK.rf h
  repeat' with_reducible (first
    | exact fk_ret (by assumption)
    | exact fk_retZ (by assumption)
    | exact fk_retC (by assumption)
    | exact fk_thr (by assumption)
    | exact fk_none
    | refine fk_gI (fun _ => ?_)
    | refine fk_gR (fun _ => ?_)
    | refine fk_gN (fun _ => ?_)
    | refine fk_gAI (fun _ => ?_)
    | refine fk_gAL (fun _ => ?_)
    | refine fk_gAN (fun _ => ?_)
    | refine fk_kif ?_ ?_
    | refine fk_nul ?_ (fun _ => ?_)
    | refine fk_may (fun _ => ?_)
    | refine fk_kdv ?_
    | refine fk_pI (by assumption) (by decide) (fun _ _ => ?_)
    | refine fk_pR (by assumption) (fun _ _ => ?_)
    | refine fk_pAI (by assumption) (by decide) (fun _ _ => ?_)
    | refine fk_pAZ (by assumption) (by decide) (fun _ _ => ?_)
    | refine fk_pAL (by assumption) (fun _ _ => ?_)
    | refine fk_pAN (by assumption) (fun _ _ => ?_)
    | refine fk_nw (by assumption) (by decide) (fun _ _ _ => ?_)
    | refine fk_nwM (by assumption) (fun _ _ _ => ?_))
theorem fk_f_X9_read  (p0 : Nat) (p1 : Int32) (p2 : Int32) (h : KH) : FW h (f_X9_read p0 p1 p2 h) := by
  unfold f_X9_read
  have q0 : FK h h := FK.rf h
  repeat' with_reducible (first
    | exact fk_ret (by assumption)
    | exact fk_retZ (by assumption)
    | exact fk_retC (by assumption)
    | exact fk_thr (by assumption)
    | exact fk_none
    | exact fk_go (fk_f_X9_requireGate _ _) (by assumption)
    | exact fk_go (fk_f_X9_requireMinute _ _ _) (by assumption)
    | exact fk_go (fk_X9_read_b28 _) (by assumption)
    | exact fk_go (fk_f_X7_copy _ _) (by assumption)
    | exact fk_go (fk_f_X5_init _ _ _ _ _ _) (by assumption)
    | exact fk_go (fk_f_X9_plateByText _ _ _) (by assumption)
    | exact fk_go (fk_f_X9_move _ _ _ _) (by assumption)
    | refine fk_gI (fun _ => ?_)
    | refine fk_gR (fun _ => ?_)
    | refine fk_gN (fun _ => ?_)
    | refine fk_gAI (fun _ => ?_)
    | refine fk_gAL (fun _ => ?_)
    | refine fk_gAN (fun _ => ?_)
    | refine fk_kif ?_ ?_
    | refine fk_nul ?_ (fun _ => ?_)
    | refine fk_may (fun _ => ?_)
    | refine fk_kdv ?_
    | refine fk_pI (by assumption) (by decide) (fun _ _ => ?_)
    | refine fk_pR (by assumption) (fun _ _ => ?_)
    | refine fk_pAI (by assumption) (by decide) (fun _ _ => ?_)
    | refine fk_pAZ (by assumption) (by decide) (fun _ _ => ?_)
    | refine fk_pAL (by assumption) (fun _ _ => ?_)
    | refine fk_pAN (by assumption) (fun _ _ => ?_)
    | refine fk_nw (by assumption) (by decide) (fun _ _ _ => ?_)
    | refine fk_nwM (by assumption) (fun _ _ _ => ?_)
    | refine fk_callV (fk_f_X9_requireGate _ _) (by assumption) (fun _ _ _ => ?_)
    | refine fk_bind (fk_f_X9_requireGate _ _) (by assumption) (fun _ _ _ => ?_)
    | refine fk_binI (fk_f_X9_requireGate _ _) (by assumption) (fun _ _ _ => ?_)
    | refine fk_callV (fk_f_X9_requireMinute _ _ _) (by assumption) (fun _ _ _ => ?_)
    | refine fk_bind (fk_f_X9_requireMinute _ _ _) (by assumption) (fun _ _ _ => ?_)
    | refine fk_binI (fk_f_X9_requireMinute _ _ _) (by assumption) (fun _ _ _ => ?_)
    | refine fk_callV (fk_X9_read_b28 _) (by assumption) (fun _ _ _ => ?_)
    | refine fk_bind (fk_X9_read_b28 _) (by assumption) (fun _ _ _ => ?_)
    | refine fk_binI (fk_X9_read_b28 _) (by assumption) (fun _ _ _ => ?_)
    | refine fk_callV (fk_f_X7_copy _ _) (by assumption) (fun _ _ _ => ?_)
    | refine fk_bind (fk_f_X7_copy _ _) (by assumption) (fun _ _ _ => ?_)
    | refine fk_binI (fk_f_X7_copy _ _) (by assumption) (fun _ _ _ => ?_)
    | refine fk_callV (fk_f_X5_init _ _ _ _ _ _) (by assumption) (fun _ _ _ => ?_)
    | refine fk_bind (fk_f_X5_init _ _ _ _ _ _) (by assumption) (fun _ _ _ => ?_)
    | refine fk_binI (fk_f_X5_init _ _ _ _ _ _) (by assumption) (fun _ _ _ => ?_)
    | refine fk_callV (fk_f_X9_plateByText _ _ _) (by assumption) (fun _ _ _ => ?_)
    | refine fk_bind (fk_f_X9_plateByText _ _ _) (by assumption) (fun _ _ _ => ?_)
    | refine fk_binI (fk_f_X9_plateByText _ _ _) (by assumption) (fun _ _ _ => ?_)
    | refine fk_callV (fk_f_X9_move _ _ _ _) (by assumption) (fun _ _ _ => ?_)
    | refine fk_bind (fk_f_X9_move _ _ _ _) (by assumption) (fun _ _ _ => ?_)
    | refine fk_binI (fk_f_X9_move _ _ _ _) (by assumption) (fun _ _ _ => ?_))
theorem fk_f_X9_readingNumbered  (p0 : Nat) (p1 : Int32) (h : KH) : FW h (f_X9_readingNumbered p0 p1 h) := by
  unfold f_X9_readingNumbered
  have q0 : FK h h := FK.rf h
  repeat' with_reducible (first
    | exact fk_ret (by assumption)
    | exact fk_retZ (by assumption)
    | exact fk_retC (by assumption)
    | exact fk_thr (by assumption)
    | exact fk_none
    | exact fk_go (fk_f_X9_isWithin _ _ _ _) (by assumption)
    | refine fk_gI (fun _ => ?_)
    | refine fk_gR (fun _ => ?_)
    | refine fk_gN (fun _ => ?_)
    | refine fk_gAI (fun _ => ?_)
    | refine fk_gAL (fun _ => ?_)
    | refine fk_gAN (fun _ => ?_)
    | refine fk_kif ?_ ?_
    | refine fk_nul ?_ (fun _ => ?_)
    | refine fk_may (fun _ => ?_)
    | refine fk_kdv ?_
    | refine fk_pI (by assumption) (by decide) (fun _ _ => ?_)
    | refine fk_pR (by assumption) (fun _ _ => ?_)
    | refine fk_pAI (by assumption) (by decide) (fun _ _ => ?_)
    | refine fk_pAZ (by assumption) (by decide) (fun _ _ => ?_)
    | refine fk_pAL (by assumption) (fun _ _ => ?_)
    | refine fk_pAN (by assumption) (fun _ _ => ?_)
    | refine fk_nw (by assumption) (by decide) (fun _ _ _ => ?_)
    | refine fk_nwM (by assumption) (fun _ _ _ => ?_)
    | refine fk_callV (fk_f_X9_isWithin _ _ _ _) (by assumption) (fun _ _ _ => ?_)
    | refine fk_bind (fk_f_X9_isWithin _ _ _ _) (by assumption) (fun _ _ _ => ?_)
    | refine fk_binI (fk_f_X9_isWithin _ _ _ _) (by assumption) (fun _ _ _ => ?_))
theorem fk_X9_correct_b20  (v0 : Nat) (v3 : Nat) (s0 : Option Nat) (h : KH) : FW h (X9_correct_b20 v0 v3 s0 h) := by
  unfold X9_correct_b20
  have q0 : FK h h := FK.rf h
  repeat' with_reducible (first
    | exact fk_ret (by assumption)
    | exact fk_retZ (by assumption)
    | exact fk_retC (by assumption)
    | exact fk_thr (by assumption)
    | exact fk_none
    | exact fk_go (fk_f_X9_numberOf _ _) (by assumption)
    | exact fk_go (fk_f_X9_move _ _ _ _) (by assumption)
    | refine fk_gI (fun _ => ?_)
    | refine fk_gR (fun _ => ?_)
    | refine fk_gN (fun _ => ?_)
    | refine fk_gAI (fun _ => ?_)
    | refine fk_gAL (fun _ => ?_)
    | refine fk_gAN (fun _ => ?_)
    | refine fk_kif ?_ ?_
    | refine fk_nul ?_ (fun _ => ?_)
    | refine fk_may (fun _ => ?_)
    | refine fk_kdv ?_
    | refine fk_pI (by assumption) (by decide) (fun _ _ => ?_)
    | refine fk_pR (by assumption) (fun _ _ => ?_)
    | refine fk_pAI (by assumption) (by decide) (fun _ _ => ?_)
    | refine fk_pAZ (by assumption) (by decide) (fun _ _ => ?_)
    | refine fk_pAL (by assumption) (fun _ _ => ?_)
    | refine fk_pAN (by assumption) (fun _ _ => ?_)
    | refine fk_nw (by assumption) (by decide) (fun _ _ _ => ?_)
    | refine fk_nwM (by assumption) (fun _ _ _ => ?_)
    | refine fk_callV (fk_f_X9_numberOf _ _) (by assumption) (fun _ _ _ => ?_)
    | refine fk_bind (fk_f_X9_numberOf _ _) (by assumption) (fun _ _ _ => ?_)
    | refine fk_binI (fk_f_X9_numberOf _ _) (by assumption) (fun _ _ _ => ?_)
    | refine fk_callV (fk_f_X9_move _ _ _ _) (by assumption) (fun _ _ _ => ?_)
    | refine fk_bind (fk_f_X9_move _ _ _ _) (by assumption) (fun _ _ _ => ?_)
    | refine fk_binI (fk_f_X9_move _ _ _ _) (by assumption) (fun _ _ _ => ?_))
theorem fk_f_X9_correct  (p0 : Nat) (p1 : Int32) (p2 : Int32) (h : KH) : FW h (f_X9_correct p0 p1 p2 h) := by
  unfold f_X9_correct
  have q0 : FK h h := FK.rf h
  repeat' with_reducible (first
    | exact fk_ret (by assumption)
    | exact fk_retZ (by assumption)
    | exact fk_retC (by assumption)
    | exact fk_thr (by assumption)
    | exact fk_none
    | exact fk_go (fk_f_X9_readingNumbered _ _ _) (by assumption)
    | exact fk_go (fk_X9_correct_b20 _ _ _ _) (by assumption)
    | exact fk_go (fk_f_X9_plateNumbered _ _ _) (by assumption)
    | refine fk_gI (fun _ => ?_)
    | refine fk_gR (fun _ => ?_)
    | refine fk_gN (fun _ => ?_)
    | refine fk_gAI (fun _ => ?_)
    | refine fk_gAL (fun _ => ?_)
    | refine fk_gAN (fun _ => ?_)
    | refine fk_kif ?_ ?_
    | refine fk_nul ?_ (fun _ => ?_)
    | refine fk_may (fun _ => ?_)
    | refine fk_kdv ?_
    | refine fk_pI (by assumption) (by decide) (fun _ _ => ?_)
    | refine fk_pR (by assumption) (fun _ _ => ?_)
    | refine fk_pAI (by assumption) (by decide) (fun _ _ => ?_)
    | refine fk_pAZ (by assumption) (by decide) (fun _ _ => ?_)
    | refine fk_pAL (by assumption) (fun _ _ => ?_)
    | refine fk_pAN (by assumption) (fun _ _ => ?_)
    | refine fk_nw (by assumption) (by decide) (fun _ _ _ => ?_)
    | refine fk_nwM (by assumption) (fun _ _ _ => ?_)
    | refine fk_callV (fk_f_X9_readingNumbered _ _ _) (by assumption) (fun _ _ _ => ?_)
    | refine fk_bind (fk_f_X9_readingNumbered _ _ _) (by assumption) (fun _ _ _ => ?_)
    | refine fk_binI (fk_f_X9_readingNumbered _ _ _) (by assumption) (fun _ _ _ => ?_)
    | refine fk_callV (fk_X9_correct_b20 _ _ _ _) (by assumption) (fun _ _ _ => ?_)
    | refine fk_bind (fk_X9_correct_b20 _ _ _ _) (by assumption) (fun _ _ _ => ?_)
    | refine fk_binI (fk_X9_correct_b20 _ _ _ _) (by assumption) (fun _ _ _ => ?_)
    | refine fk_callV (fk_f_X9_plateNumbered _ _ _) (by assumption) (fun _ _ _ => ?_)
    | refine fk_bind (fk_f_X9_plateNumbered _ _ _) (by assumption) (fun _ _ _ => ?_)
    | refine fk_binI (fk_f_X9_plateNumbered _ _ _) (by assumption) (fun _ _ _ => ?_))
theorem fk_f_X9_uncorrect  (p0 : Nat) (p1 : Int32) (h : KH) : FW h (f_X9_uncorrect p0 p1 h) := by
  unfold f_X9_uncorrect
  have q0 : FK h h := FK.rf h
  repeat' with_reducible (first
    | exact fk_ret (by assumption)
    | exact fk_retZ (by assumption)
    | exact fk_retC (by assumption)
    | exact fk_thr (by assumption)
    | exact fk_none
    | exact fk_go (fk_f_X9_readingNumbered _ _ _) (by assumption)
    | exact fk_go (fk_f_X9_plateByText _ _ _) (by assumption)
    | exact fk_go (fk_f_X9_move _ _ _ _) (by assumption)
    | exact fk_go (fk_f_X9_numberOf _ _) (by assumption)
    | refine fk_gI (fun _ => ?_)
    | refine fk_gR (fun _ => ?_)
    | refine fk_gN (fun _ => ?_)
    | refine fk_gAI (fun _ => ?_)
    | refine fk_gAL (fun _ => ?_)
    | refine fk_gAN (fun _ => ?_)
    | refine fk_kif ?_ ?_
    | refine fk_nul ?_ (fun _ => ?_)
    | refine fk_may (fun _ => ?_)
    | refine fk_kdv ?_
    | refine fk_pI (by assumption) (by decide) (fun _ _ => ?_)
    | refine fk_pR (by assumption) (fun _ _ => ?_)
    | refine fk_pAI (by assumption) (by decide) (fun _ _ => ?_)
    | refine fk_pAZ (by assumption) (by decide) (fun _ _ => ?_)
    | refine fk_pAL (by assumption) (fun _ _ => ?_)
    | refine fk_pAN (by assumption) (fun _ _ => ?_)
    | refine fk_nw (by assumption) (by decide) (fun _ _ _ => ?_)
    | refine fk_nwM (by assumption) (fun _ _ _ => ?_)
    | refine fk_callV (fk_f_X9_readingNumbered _ _ _) (by assumption) (fun _ _ _ => ?_)
    | refine fk_bind (fk_f_X9_readingNumbered _ _ _) (by assumption) (fun _ _ _ => ?_)
    | refine fk_binI (fk_f_X9_readingNumbered _ _ _) (by assumption) (fun _ _ _ => ?_)
    | refine fk_callV (fk_f_X9_plateByText _ _ _) (by assumption) (fun _ _ _ => ?_)
    | refine fk_bind (fk_f_X9_plateByText _ _ _) (by assumption) (fun _ _ _ => ?_)
    | refine fk_binI (fk_f_X9_plateByText _ _ _) (by assumption) (fun _ _ _ => ?_)
    | refine fk_callV (fk_f_X9_move _ _ _ _) (by assumption) (fun _ _ _ => ?_)
    | refine fk_bind (fk_f_X9_move _ _ _ _) (by assumption) (fun _ _ _ => ?_)
    | refine fk_binI (fk_f_X9_move _ _ _ _) (by assumption) (fun _ _ _ => ?_)
    | refine fk_callV (fk_f_X9_numberOf _ _) (by assumption) (fun _ _ _ => ?_)
    | refine fk_bind (fk_f_X9_numberOf _ _) (by assumption) (fun _ _ _ => ?_)
    | refine fk_binI (fk_f_X9_numberOf _ _) (by assumption) (fun _ _ _ => ?_))
theorem fk_f_X9_plateOf  (p0 : Nat) (p1 : Int32) (h : KH) : FW h (f_X9_plateOf p0 p1 h) := by
  unfold f_X9_plateOf
  have q0 : FK h h := FK.rf h
  repeat' with_reducible (first
    | exact fk_ret (by assumption)
    | exact fk_retZ (by assumption)
    | exact fk_retC (by assumption)
    | exact fk_thr (by assumption)
    | exact fk_none
    | exact fk_go (fk_f_X9_readingNumbered _ _ _) (by assumption)
    | exact fk_go (fk_f_X9_numberOf _ _) (by assumption)
    | refine fk_gI (fun _ => ?_)
    | refine fk_gR (fun _ => ?_)
    | refine fk_gN (fun _ => ?_)
    | refine fk_gAI (fun _ => ?_)
    | refine fk_gAL (fun _ => ?_)
    | refine fk_gAN (fun _ => ?_)
    | refine fk_kif ?_ ?_
    | refine fk_nul ?_ (fun _ => ?_)
    | refine fk_may (fun _ => ?_)
    | refine fk_kdv ?_
    | refine fk_pI (by assumption) (by decide) (fun _ _ => ?_)
    | refine fk_pR (by assumption) (fun _ _ => ?_)
    | refine fk_pAI (by assumption) (by decide) (fun _ _ => ?_)
    | refine fk_pAZ (by assumption) (by decide) (fun _ _ => ?_)
    | refine fk_pAL (by assumption) (fun _ _ => ?_)
    | refine fk_pAN (by assumption) (fun _ _ => ?_)
    | refine fk_nw (by assumption) (by decide) (fun _ _ _ => ?_)
    | refine fk_nwM (by assumption) (fun _ _ _ => ?_)
    | refine fk_callV (fk_f_X9_readingNumbered _ _ _) (by assumption) (fun _ _ _ => ?_)
    | refine fk_bind (fk_f_X9_readingNumbered _ _ _) (by assumption) (fun _ _ _ => ?_)
    | refine fk_binI (fk_f_X9_readingNumbered _ _ _) (by assumption) (fun _ _ _ => ?_)
    | refine fk_callV (fk_f_X9_numberOf _ _) (by assumption) (fun _ _ _ => ?_)
    | refine fk_bind (fk_f_X9_numberOf _ _) (by assumption) (fun _ _ _ => ?_)
    | refine fk_binI (fk_f_X9_numberOf _ _) (by assumption) (fun _ _ _ => ?_))
theorem fk_f_X9_cost  (p0 : Nat) (p1 : Int32) (p2 : Int32) (h : KH) : FW h (f_X9_cost p0 p1 p2 h) := by
  unfold f_X9_cost
  have q0 : FK h h := FK.rf h
  repeat' with_reducible (first
    | exact fk_ret (by assumption)
    | exact fk_retZ (by assumption)
    | exact fk_retC (by assumption)
    | exact fk_thr (by assumption)
    | exact fk_none
    | exact fk_go (fk_f_X9_readingNumbered _ _ _) (by assumption)
    | exact fk_go (fk_f_X9_plateNumbered _ _ _) (by assumption)
    | exact fk_go (fk_f_X2_costOf _ _ _ _) (by assumption)
    | refine fk_gI (fun _ => ?_)
    | refine fk_gR (fun _ => ?_)
    | refine fk_gN (fun _ => ?_)
    | refine fk_gAI (fun _ => ?_)
    | refine fk_gAL (fun _ => ?_)
    | refine fk_gAN (fun _ => ?_)
    | refine fk_kif ?_ ?_
    | refine fk_nul ?_ (fun _ => ?_)
    | refine fk_may (fun _ => ?_)
    | refine fk_kdv ?_
    | refine fk_pI (by assumption) (by decide) (fun _ _ => ?_)
    | refine fk_pR (by assumption) (fun _ _ => ?_)
    | refine fk_pAI (by assumption) (by decide) (fun _ _ => ?_)
    | refine fk_pAZ (by assumption) (by decide) (fun _ _ => ?_)
    | refine fk_pAL (by assumption) (fun _ _ => ?_)
    | refine fk_pAN (by assumption) (fun _ _ => ?_)
    | refine fk_nw (by assumption) (by decide) (fun _ _ _ => ?_)
    | refine fk_nwM (by assumption) (fun _ _ _ => ?_)
    | refine fk_callV (fk_f_X9_readingNumbered _ _ _) (by assumption) (fun _ _ _ => ?_)
    | refine fk_bind (fk_f_X9_readingNumbered _ _ _) (by assumption) (fun _ _ _ => ?_)
    | refine fk_binI (fk_f_X9_readingNumbered _ _ _) (by assumption) (fun _ _ _ => ?_)
    | refine fk_callV (fk_f_X9_plateNumbered _ _ _) (by assumption) (fun _ _ _ => ?_)
    | refine fk_bind (fk_f_X9_plateNumbered _ _ _) (by assumption) (fun _ _ _ => ?_)
    | refine fk_binI (fk_f_X9_plateNumbered _ _ _) (by assumption) (fun _ _ _ => ?_)
    | refine fk_callV (fk_f_X2_costOf _ _ _ _) (by assumption) (fun _ _ _ => ?_)
    | refine fk_bind (fk_f_X2_costOf _ _ _ _) (by assumption) (fun _ _ _ => ?_)
    | refine fk_binI (fk_f_X2_costOf _ _ _ _) (by assumption) (fun _ _ _ => ?_))
theorem fk_X3_beginningsAhead_b21 (rc4 : Nat → Int32 → Int32 → Int32 → KH → KO Int32) (hr4 : ∀ (u0 : Nat) (u1 : Int32) (u2 : Int32) (u3 : Int32) (u4 : KH), FW u4 (rc4 u0 u1 u2 u3 u4)) (v0 : Nat) (v1 : Int32) (v2 : Int32) (v3 : Int32) (h : KH) : FW h (X3_beginningsAhead_b21 rc4 v0 v1 v2 v3 h) := by
  unfold X3_beginningsAhead_b21
  have q0 : FK h h := FK.rf h
  repeat' with_reducible (first
    | exact fk_ret (by assumption)
    | exact fk_retZ (by assumption)
    | exact fk_retC (by assumption)
    | exact fk_thr (by assumption)
    | exact fk_none
    | exact fk_go (hr4 _ _ _ _ _) (by assumption)
    | refine fk_gI (fun _ => ?_)
    | refine fk_gR (fun _ => ?_)
    | refine fk_gN (fun _ => ?_)
    | refine fk_gAI (fun _ => ?_)
    | refine fk_gAL (fun _ => ?_)
    | refine fk_gAN (fun _ => ?_)
    | refine fk_kif ?_ ?_
    | refine fk_nul ?_ (fun _ => ?_)
    | refine fk_may (fun _ => ?_)
    | refine fk_kdv ?_
    | refine fk_pI (by assumption) (by decide) (fun _ _ => ?_)
    | refine fk_pR (by assumption) (fun _ _ => ?_)
    | refine fk_pAI (by assumption) (by decide) (fun _ _ => ?_)
    | refine fk_pAZ (by assumption) (by decide) (fun _ _ => ?_)
    | refine fk_pAL (by assumption) (fun _ _ => ?_)
    | refine fk_pAN (by assumption) (fun _ _ => ?_)
    | refine fk_nw (by assumption) (by decide) (fun _ _ _ => ?_)
    | refine fk_nwM (by assumption) (fun _ _ _ => ?_)
    | refine fk_callV (hr4 _ _ _ _ _) (by assumption) (fun _ _ _ => ?_)
    | refine fk_bind (hr4 _ _ _ _ _) (by assumption) (fun _ _ _ => ?_)
    | refine fk_binI (hr4 _ _ _ _ _) (by assumption) (fun _ _ _ => ?_))
theorem fk_X3_beginningsAhead_b4 (rc4 : Nat → Int32 → Int32 → Int32 → KH → KO Int32) (hr4 : ∀ (u0 : Nat) (u1 : Int32) (u2 : Int32) (u3 : Int32) (u4 : KH), FW u4 (rc4 u0 u1 u2 u3 u4)) (v0 : Nat) (v1 : Int32) (v2 : Int32) (v3 : Int32) (h : KH) : FW h (X3_beginningsAhead_b4 rc4 v0 v1 v2 v3 h) := by
  unfold X3_beginningsAhead_b4
  have q0 : FK h h := FK.rf h
  repeat' with_reducible (first
    | exact fk_ret (by assumption)
    | exact fk_retZ (by assumption)
    | exact fk_retC (by assumption)
    | exact fk_thr (by assumption)
    | exact fk_none
    | exact fk_go (hr4 _ _ _ _ _) (by assumption)
    | exact fk_go (fk_X3_beginningsAhead_b21 _ (by assumption) _ _ _ _ _) (by assumption)
    | refine fk_gI (fun _ => ?_)
    | refine fk_gR (fun _ => ?_)
    | refine fk_gN (fun _ => ?_)
    | refine fk_gAI (fun _ => ?_)
    | refine fk_gAL (fun _ => ?_)
    | refine fk_gAN (fun _ => ?_)
    | refine fk_kif ?_ ?_
    | refine fk_nul ?_ (fun _ => ?_)
    | refine fk_may (fun _ => ?_)
    | refine fk_kdv ?_
    | refine fk_pI (by assumption) (by decide) (fun _ _ => ?_)
    | refine fk_pR (by assumption) (fun _ _ => ?_)
    | refine fk_pAI (by assumption) (by decide) (fun _ _ => ?_)
    | refine fk_pAZ (by assumption) (by decide) (fun _ _ => ?_)
    | refine fk_pAL (by assumption) (fun _ _ => ?_)
    | refine fk_pAN (by assumption) (fun _ _ => ?_)
    | refine fk_nw (by assumption) (by decide) (fun _ _ _ => ?_)
    | refine fk_nwM (by assumption) (fun _ _ _ => ?_)
    | refine fk_callV (hr4 _ _ _ _ _) (by assumption) (fun _ _ _ => ?_)
    | refine fk_bind (hr4 _ _ _ _ _) (by assumption) (fun _ _ _ => ?_)
    | refine fk_binI (hr4 _ _ _ _ _) (by assumption) (fun _ _ _ => ?_)
    | refine fk_callV (fk_X3_beginningsAhead_b21 _ (by assumption) _ _ _ _ _) (by assumption) (fun _ _ _ => ?_)
    | refine fk_bind (fk_X3_beginningsAhead_b21 _ (by assumption) _ _ _ _ _) (by assumption) (fun _ _ _ => ?_)
    | refine fk_binI (fk_X3_beginningsAhead_b21 _ (by assumption) _ _ _ _ _) (by assumption) (fun _ _ _ => ?_))
theorem fk_X3_beginningsAhead_L4  : ∀ (m : Nat) (u0 : Nat) (u1 : Int32) (u2 : Int32) (u3 : Int32) (u4 : KH), FW u4 (X3_beginningsAhead_L4  m u0 u1 u2 u3 u4) := by
  intro m
  induction m with
  | zero => intro u0 u1 u2 u3 u4; exact fk_none
  | succ m ih => intro u0 u1 u2 u3 u4; exact fk_X3_beginningsAhead_b4 (X3_beginningsAhead_L4  m) ih u0 u1 u2 u3 u4
theorem fk_f_X3_beginningsAhead  (p0 : Nat) (p1 : Int32) (h : KH) : FW h (f_X3_beginningsAhead p0 p1 h) := by
  unfold f_X3_beginningsAhead
  have q0 : FK h h := FK.rf h
  repeat' with_reducible (first
    | exact fk_ret (by assumption)
    | exact fk_retZ (by assumption)
    | exact fk_retC (by assumption)
    | exact fk_thr (by assumption)
    | exact fk_none
    | exact fk_go (fk_X3_beginningsAhead_L4 _ _ _ _ _ _) (by assumption)
    | refine fk_gI (fun _ => ?_)
    | refine fk_gR (fun _ => ?_)
    | refine fk_gN (fun _ => ?_)
    | refine fk_gAI (fun _ => ?_)
    | refine fk_gAL (fun _ => ?_)
    | refine fk_gAN (fun _ => ?_)
    | refine fk_kif ?_ ?_
    | refine fk_nul ?_ (fun _ => ?_)
    | refine fk_may (fun _ => ?_)
    | refine fk_kdv ?_
    | refine fk_pI (by assumption) (by decide) (fun _ _ => ?_)
    | refine fk_pR (by assumption) (fun _ _ => ?_)
    | refine fk_pAI (by assumption) (by decide) (fun _ _ => ?_)
    | refine fk_pAZ (by assumption) (by decide) (fun _ _ => ?_)
    | refine fk_pAL (by assumption) (fun _ _ => ?_)
    | refine fk_pAN (by assumption) (fun _ _ => ?_)
    | refine fk_nw (by assumption) (by decide) (fun _ _ _ => ?_)
    | refine fk_nwM (by assumption) (fun _ _ _ => ?_)
    | refine fk_callV (fk_X3_beginningsAhead_L4 _ _ _ _ _ _) (by assumption) (fun _ _ _ => ?_)
    | refine fk_bind (fk_X3_beginningsAhead_L4 _ _ _ _ _ _) (by assumption) (fun _ _ _ => ?_)
    | refine fk_binI (fk_X3_beginningsAhead_L4 _ _ _ _ _ _) (by assumption) (fun _ _ _ => ?_))
theorem fk_f_X3_tripCount  (p0 : Nat) (h : KH) : FW h (f_X3_tripCount p0 h) := by
  unfold f_X3_tripCount
  have q0 : FK h h := FK.rf h
  repeat' with_reducible (first
    | exact fk_ret (by assumption)
    | exact fk_retZ (by assumption)
    | exact fk_retC (by assumption)
    | exact fk_thr (by assumption)
    | exact fk_none
    | exact fk_go (fk_f_X3_beginningsAhead _ _ _) (by assumption)
    | refine fk_gI (fun _ => ?_)
    | refine fk_gR (fun _ => ?_)
    | refine fk_gN (fun _ => ?_)
    | refine fk_gAI (fun _ => ?_)
    | refine fk_gAL (fun _ => ?_)
    | refine fk_gAN (fun _ => ?_)
    | refine fk_kif ?_ ?_
    | refine fk_nul ?_ (fun _ => ?_)
    | refine fk_may (fun _ => ?_)
    | refine fk_kdv ?_
    | refine fk_pI (by assumption) (by decide) (fun _ _ => ?_)
    | refine fk_pR (by assumption) (fun _ _ => ?_)
    | refine fk_pAI (by assumption) (by decide) (fun _ _ => ?_)
    | refine fk_pAZ (by assumption) (by decide) (fun _ _ => ?_)
    | refine fk_pAL (by assumption) (fun _ _ => ?_)
    | refine fk_pAN (by assumption) (fun _ _ => ?_)
    | refine fk_nw (by assumption) (by decide) (fun _ _ _ => ?_)
    | refine fk_nwM (by assumption) (fun _ _ _ => ?_)
    | refine fk_callV (fk_f_X3_beginningsAhead _ _ _) (by assumption) (fun _ _ _ => ?_)
    | refine fk_bind (fk_f_X3_beginningsAhead _ _ _) (by assumption) (fun _ _ _ => ?_)
    | refine fk_binI (fk_f_X3_beginningsAhead _ _ _) (by assumption) (fun _ _ _ => ?_))
theorem fk_f_X9_trips  (p0 : Nat) (p1 : Int32) (h : KH) : FW h (f_X9_trips p0 p1 h) := by
  unfold f_X9_trips
  have q0 : FK h h := FK.rf h
  repeat' with_reducible (first
    | exact fk_ret (by assumption)
    | exact fk_retZ (by assumption)
    | exact fk_retC (by assumption)
    | exact fk_thr (by assumption)
    | exact fk_none
    | exact fk_go (fk_f_X9_plateNumbered _ _ _) (by assumption)
    | exact fk_go (fk_f_X3_tripCount _ _) (by assumption)
    | refine fk_gI (fun _ => ?_)
    | refine fk_gR (fun _ => ?_)
    | refine fk_gN (fun _ => ?_)
    | refine fk_gAI (fun _ => ?_)
    | refine fk_gAL (fun _ => ?_)
    | refine fk_gAN (fun _ => ?_)
    | refine fk_kif ?_ ?_
    | refine fk_nul ?_ (fun _ => ?_)
    | refine fk_may (fun _ => ?_)
    | refine fk_kdv ?_
    | refine fk_pI (by assumption) (by decide) (fun _ _ => ?_)
    | refine fk_pR (by assumption) (fun _ _ => ?_)
    | refine fk_pAI (by assumption) (by decide) (fun _ _ => ?_)
    | refine fk_pAZ (by assumption) (by decide) (fun _ _ => ?_)
    | refine fk_pAL (by assumption) (fun _ _ => ?_)
    | refine fk_pAN (by assumption) (fun _ _ => ?_)
    | refine fk_nw (by assumption) (by decide) (fun _ _ _ => ?_)
    | refine fk_nwM (by assumption) (fun _ _ _ => ?_)
    | refine fk_callV (fk_f_X9_plateNumbered _ _ _) (by assumption) (fun _ _ _ => ?_)
    | refine fk_bind (fk_f_X9_plateNumbered _ _ _) (by assumption) (fun _ _ _ => ?_)
    | refine fk_binI (fk_f_X9_plateNumbered _ _ _) (by assumption) (fun _ _ _ => ?_)
    | refine fk_callV (fk_f_X3_tripCount _ _) (by assumption) (fun _ _ _ => ?_)
    | refine fk_bind (fk_f_X3_tripCount _ _) (by assumption) (fun _ _ _ => ?_)
    | refine fk_binI (fk_f_X3_tripCount _ _) (by assumption) (fun _ _ _ => ?_))
theorem fk_X9_joinAnew_b48 (rc10 : Nat → Nat → Int32 → KH → KO Nat) (hr10 : ∀ (u0 : Nat) (u1 : Nat) (u2 : Int32) (u3 : KH), FW u3 (rc10 u0 u1 u2 u3)) (v0 : Nat) (v1 : Nat) (v2 : Int32) (h : KH) : FW h (X9_joinAnew_b48 rc10 v0 v1 v2 h) := by
  unfold X9_joinAnew_b48
  have q0 : FK h h := FK.rf h
  repeat' with_reducible (first
    | exact fk_ret (by assumption)
    | exact fk_retZ (by assumption)
    | exact fk_retC (by assumption)
    | exact fk_thr (by assumption)
    | exact fk_none
    | exact fk_go (hr10 _ _ _ _) (by assumption)
    | refine fk_gI (fun _ => ?_)
    | refine fk_gR (fun _ => ?_)
    | refine fk_gN (fun _ => ?_)
    | refine fk_gAI (fun _ => ?_)
    | refine fk_gAL (fun _ => ?_)
    | refine fk_gAN (fun _ => ?_)
    | refine fk_kif ?_ ?_
    | refine fk_nul ?_ (fun _ => ?_)
    | refine fk_may (fun _ => ?_)
    | refine fk_kdv ?_
    | refine fk_pI (by assumption) (by decide) (fun _ _ => ?_)
    | refine fk_pR (by assumption) (fun _ _ => ?_)
    | refine fk_pAI (by assumption) (by decide) (fun _ _ => ?_)
    | refine fk_pAZ (by assumption) (by decide) (fun _ _ => ?_)
    | refine fk_pAL (by assumption) (fun _ _ => ?_)
    | refine fk_pAN (by assumption) (fun _ _ => ?_)
    | refine fk_nw (by assumption) (by decide) (fun _ _ _ => ?_)
    | refine fk_nwM (by assumption) (fun _ _ _ => ?_)
    | refine fk_callV (hr10 _ _ _ _) (by assumption) (fun _ _ _ => ?_)
    | refine fk_bind (hr10 _ _ _ _) (by assumption) (fun _ _ _ => ?_)
    | refine fk_binI (hr10 _ _ _ _) (by assumption) (fun _ _ _ => ?_))
theorem fk_X9_joinAnew_b10 (rc10 : Nat → Nat → Int32 → KH → KO Nat) (hr10 : ∀ (u0 : Nat) (u1 : Nat) (u2 : Int32) (u3 : KH), FW u3 (rc10 u0 u1 u2 u3)) (v0 : Nat) (v1 : Nat) (v2 : Int32) (h : KH) : FW h (X9_joinAnew_b10 rc10 v0 v1 v2 h) := by
  unfold X9_joinAnew_b10
  have q0 : FK h h := FK.rf h
  repeat' with_reducible (first
    | exact fk_ret (by assumption)
    | exact fk_retZ (by assumption)
    | exact fk_retC (by assumption)
    | exact fk_thr (by assumption)
    | exact fk_none
    | exact fk_go (hr10 _ _ _ _) (by assumption)
    | exact fk_go (fk_f_X3_joinAll _ _ _) (by assumption)
    | exact fk_go (fk_f_X9_numberOf _ _) (by assumption)
    | exact fk_go (fk_f_X3_insertInOrder _ _ _) (by assumption)
    | exact fk_go (fk_X9_joinAnew_b48 _ (by assumption) _ _ _ _) (by assumption)
    | refine fk_gI (fun _ => ?_)
    | refine fk_gR (fun _ => ?_)
    | refine fk_gN (fun _ => ?_)
    | refine fk_gAI (fun _ => ?_)
    | refine fk_gAL (fun _ => ?_)
    | refine fk_gAN (fun _ => ?_)
    | refine fk_kif ?_ ?_
    | refine fk_nul ?_ (fun _ => ?_)
    | refine fk_may (fun _ => ?_)
    | refine fk_kdv ?_
    | refine fk_pI (by assumption) (by decide) (fun _ _ => ?_)
    | refine fk_pR (by assumption) (fun _ _ => ?_)
    | refine fk_pAI (by assumption) (by decide) (fun _ _ => ?_)
    | refine fk_pAZ (by assumption) (by decide) (fun _ _ => ?_)
    | refine fk_pAL (by assumption) (fun _ _ => ?_)
    | refine fk_pAN (by assumption) (fun _ _ => ?_)
    | refine fk_nw (by assumption) (by decide) (fun _ _ _ => ?_)
    | refine fk_nwM (by assumption) (fun _ _ _ => ?_)
    | refine fk_callV (hr10 _ _ _ _) (by assumption) (fun _ _ _ => ?_)
    | refine fk_bind (hr10 _ _ _ _) (by assumption) (fun _ _ _ => ?_)
    | refine fk_binI (hr10 _ _ _ _) (by assumption) (fun _ _ _ => ?_)
    | refine fk_callV (fk_f_X3_joinAll _ _ _) (by assumption) (fun _ _ _ => ?_)
    | refine fk_bind (fk_f_X3_joinAll _ _ _) (by assumption) (fun _ _ _ => ?_)
    | refine fk_binI (fk_f_X3_joinAll _ _ _) (by assumption) (fun _ _ _ => ?_)
    | refine fk_callV (fk_f_X9_numberOf _ _) (by assumption) (fun _ _ _ => ?_)
    | refine fk_bind (fk_f_X9_numberOf _ _) (by assumption) (fun _ _ _ => ?_)
    | refine fk_binI (fk_f_X9_numberOf _ _) (by assumption) (fun _ _ _ => ?_)
    | refine fk_callV (fk_f_X3_insertInOrder _ _ _) (by assumption) (fun _ _ _ => ?_)
    | refine fk_bind (fk_f_X3_insertInOrder _ _ _) (by assumption) (fun _ _ _ => ?_)
    | refine fk_binI (fk_f_X3_insertInOrder _ _ _) (by assumption) (fun _ _ _ => ?_)
    | refine fk_callV (fk_X9_joinAnew_b48 _ (by assumption) _ _ _ _) (by assumption) (fun _ _ _ => ?_)
    | refine fk_bind (fk_X9_joinAnew_b48 _ (by assumption) _ _ _ _) (by assumption) (fun _ _ _ => ?_)
    | refine fk_binI (fk_X9_joinAnew_b48 _ (by assumption) _ _ _ _) (by assumption) (fun _ _ _ => ?_))
theorem fk_X9_joinAnew_L10  : ∀ (m : Nat) (u0 : Nat) (u1 : Nat) (u2 : Int32) (u3 : KH), FW u3 (X9_joinAnew_L10  m u0 u1 u2 u3) := by
  intro m
  induction m with
  | zero => intro u0 u1 u2 u3; exact fk_none
  | succ m ih => intro u0 u1 u2 u3; exact fk_X9_joinAnew_b10 (X9_joinAnew_L10  m) ih u0 u1 u2 u3
theorem fk_f_X9_joinAnew  (p0 : Nat) (p1 : Nat) (h : KH) : FW h (f_X9_joinAnew p0 p1 h) := by
  unfold f_X9_joinAnew
  have q0 : FK h h := FK.rf h
  repeat' with_reducible (first
    | exact fk_ret (by assumption)
    | exact fk_retZ (by assumption)
    | exact fk_retC (by assumption)
    | exact fk_thr (by assumption)
    | exact fk_none
    | exact fk_go (fk_X9_joinAnew_L10 _ _ _ _ _) (by assumption)
    | refine fk_gI (fun _ => ?_)
    | refine fk_gR (fun _ => ?_)
    | refine fk_gN (fun _ => ?_)
    | refine fk_gAI (fun _ => ?_)
    | refine fk_gAL (fun _ => ?_)
    | refine fk_gAN (fun _ => ?_)
    | refine fk_kif ?_ ?_
    | refine fk_nul ?_ (fun _ => ?_)
    | refine fk_may (fun _ => ?_)
    | refine fk_kdv ?_
    | refine fk_pI (by assumption) (by decide) (fun _ _ => ?_)
    | refine fk_pR (by assumption) (fun _ _ => ?_)
    | refine fk_pAI (by assumption) (by decide) (fun _ _ => ?_)
    | refine fk_pAZ (by assumption) (by decide) (fun _ _ => ?_)
    | refine fk_pAL (by assumption) (fun _ _ => ?_)
    | refine fk_pAN (by assumption) (fun _ _ => ?_)
    | refine fk_nw (by assumption) (by decide) (fun _ _ _ => ?_)
    | refine fk_nwM (by assumption) (fun _ _ _ => ?_)
    | refine fk_callV (fk_X9_joinAnew_L10 _ _ _ _ _) (by assumption) (fun _ _ _ => ?_)
    | refine fk_bind (fk_X9_joinAnew_L10 _ _ _ _ _) (by assumption) (fun _ _ _ => ?_)
    | refine fk_binI (fk_X9_joinAnew_L10 _ _ _ _ _) (by assumption) (fun _ _ _ => ?_))
theorem fk_f_X9_tripsAnew  (p0 : Nat) (p1 : Int32) (h : KH) : FW h (f_X9_tripsAnew p0 p1 h) := by
  unfold f_X9_tripsAnew
  have q0 : FK h h := FK.rf h
  repeat' with_reducible (first
    | exact fk_ret (by assumption)
    | exact fk_retZ (by assumption)
    | exact fk_retC (by assumption)
    | exact fk_thr (by assumption)
    | exact fk_none
    | exact fk_go (fk_f_X9_plateNumbered _ _ _) (by assumption)
    | exact fk_go (fk_f_X9_joinAnew _ _ _) (by assumption)
    | exact fk_go (fk_f_X3_tripCount _ _) (by assumption)
    | refine fk_gI (fun _ => ?_)
    | refine fk_gR (fun _ => ?_)
    | refine fk_gN (fun _ => ?_)
    | refine fk_gAI (fun _ => ?_)
    | refine fk_gAL (fun _ => ?_)
    | refine fk_gAN (fun _ => ?_)
    | refine fk_kif ?_ ?_
    | refine fk_nul ?_ (fun _ => ?_)
    | refine fk_may (fun _ => ?_)
    | refine fk_kdv ?_
    | refine fk_pI (by assumption) (by decide) (fun _ _ => ?_)
    | refine fk_pR (by assumption) (fun _ _ => ?_)
    | refine fk_pAI (by assumption) (by decide) (fun _ _ => ?_)
    | refine fk_pAZ (by assumption) (by decide) (fun _ _ => ?_)
    | refine fk_pAL (by assumption) (fun _ _ => ?_)
    | refine fk_pAN (by assumption) (fun _ _ => ?_)
    | refine fk_nw (by assumption) (by decide) (fun _ _ _ => ?_)
    | refine fk_nwM (by assumption) (fun _ _ _ => ?_)
    | refine fk_callV (fk_f_X9_plateNumbered _ _ _) (by assumption) (fun _ _ _ => ?_)
    | refine fk_bind (fk_f_X9_plateNumbered _ _ _) (by assumption) (fun _ _ _ => ?_)
    | refine fk_binI (fk_f_X9_plateNumbered _ _ _) (by assumption) (fun _ _ _ => ?_)
    | refine fk_callV (fk_f_X9_joinAnew _ _ _) (by assumption) (fun _ _ _ => ?_)
    | refine fk_bind (fk_f_X9_joinAnew _ _ _) (by assumption) (fun _ _ _ => ?_)
    | refine fk_binI (fk_f_X9_joinAnew _ _ _) (by assumption) (fun _ _ _ => ?_)
    | refine fk_callV (fk_f_X3_tripCount _ _) (by assumption) (fun _ _ _ => ?_)
    | refine fk_bind (fk_f_X3_tripCount _ _) (by assumption) (fun _ _ _ => ?_)
    | refine fk_binI (fk_f_X3_tripCount _ _) (by assumption) (fun _ _ _ => ?_))
theorem fk_f_X3_tripWith  (p0 : Nat) (p1 : Nat) (h : KH) : FW h (f_X3_tripWith p0 p1 h) := by
  unfold f_X3_tripWith
  have q0 : FK h h := FK.rf h
  repeat' with_reducible (first
    | exact fk_ret (by assumption)
    | exact fk_retZ (by assumption)
    | exact fk_retC (by assumption)
    | exact fk_thr (by assumption)
    | exact fk_none
    | exact fk_go (fk_f_X3_placeOf _ _ _) (by assumption)
    | exact fk_go (fk_f_X3_beginningsAhead _ _ _) (by assumption)
    | refine fk_gI (fun _ => ?_)
    | refine fk_gR (fun _ => ?_)
    | refine fk_gN (fun _ => ?_)
    | refine fk_gAI (fun _ => ?_)
    | refine fk_gAL (fun _ => ?_)
    | refine fk_gAN (fun _ => ?_)
    | refine fk_kif ?_ ?_
    | refine fk_nul ?_ (fun _ => ?_)
    | refine fk_may (fun _ => ?_)
    | refine fk_kdv ?_
    | refine fk_pI (by assumption) (by decide) (fun _ _ => ?_)
    | refine fk_pR (by assumption) (fun _ _ => ?_)
    | refine fk_pAI (by assumption) (by decide) (fun _ _ => ?_)
    | refine fk_pAZ (by assumption) (by decide) (fun _ _ => ?_)
    | refine fk_pAL (by assumption) (fun _ _ => ?_)
    | refine fk_pAN (by assumption) (fun _ _ => ?_)
    | refine fk_nw (by assumption) (by decide) (fun _ _ _ => ?_)
    | refine fk_nwM (by assumption) (fun _ _ _ => ?_)
    | refine fk_callV (fk_f_X3_placeOf _ _ _) (by assumption) (fun _ _ _ => ?_)
    | refine fk_bind (fk_f_X3_placeOf _ _ _) (by assumption) (fun _ _ _ => ?_)
    | refine fk_binI (fk_f_X3_placeOf _ _ _) (by assumption) (fun _ _ _ => ?_)
    | refine fk_callV (fk_f_X3_beginningsAhead _ _ _) (by assumption) (fun _ _ _ => ?_)
    | refine fk_bind (fk_f_X3_beginningsAhead _ _ _) (by assumption) (fun _ _ _ => ?_)
    | refine fk_binI (fk_f_X3_beginningsAhead _ _ _) (by assumption) (fun _ _ _ => ?_))
theorem fk_X9_tripOf_b28  (s0 : Int32) (h : KH) : FW h (X9_tripOf_b28 s0 h) := by
  unfold X9_tripOf_b28
  have q0 : FK h h := FK.rf h
  repeat' with_reducible (first
    | exact fk_ret (by assumption)
    | exact fk_retZ (by assumption)
    | exact fk_retC (by assumption)
    | exact fk_thr (by assumption)
    | exact fk_none
    | refine fk_gI (fun _ => ?_)
    | refine fk_gR (fun _ => ?_)
    | refine fk_gN (fun _ => ?_)
    | refine fk_gAI (fun _ => ?_)
    | refine fk_gAL (fun _ => ?_)
    | refine fk_gAN (fun _ => ?_)
    | refine fk_kif ?_ ?_
    | refine fk_nul ?_ (fun _ => ?_)
    | refine fk_may (fun _ => ?_)
    | refine fk_kdv ?_
    | refine fk_pI (by assumption) (by decide) (fun _ _ => ?_)
    | refine fk_pR (by assumption) (fun _ _ => ?_)
    | refine fk_pAI (by assumption) (by decide) (fun _ _ => ?_)
    | refine fk_pAZ (by assumption) (by decide) (fun _ _ => ?_)
    | refine fk_pAL (by assumption) (fun _ _ => ?_)
    | refine fk_pAN (by assumption) (fun _ _ => ?_)
    | refine fk_nw (by assumption) (by decide) (fun _ _ _ => ?_)
    | refine fk_nwM (by assumption) (fun _ _ _ => ?_))
theorem fk_f_X9_tripOf  (p0 : Nat) (p1 : Int32) (h : KH) : FW h (f_X9_tripOf p0 p1 h) := by
  unfold f_X9_tripOf
  have q0 : FK h h := FK.rf h
  repeat' with_reducible (first
    | exact fk_ret (by assumption)
    | exact fk_retZ (by assumption)
    | exact fk_retC (by assumption)
    | exact fk_thr (by assumption)
    | exact fk_none
    | exact fk_go (fk_f_X9_readingNumbered _ _ _) (by assumption)
    | exact fk_go (fk_X9_tripOf_b28 _ _) (by assumption)
    | exact fk_go (fk_f_X3_tripWith _ _ _) (by assumption)
    | refine fk_gI (fun _ => ?_)
    | refine fk_gR (fun _ => ?_)
    | refine fk_gN (fun _ => ?_)
    | refine fk_gAI (fun _ => ?_)
    | refine fk_gAL (fun _ => ?_)
    | refine fk_gAN (fun _ => ?_)
    | refine fk_kif ?_ ?_
    | refine fk_nul ?_ (fun _ => ?_)
    | refine fk_may (fun _ => ?_)
    | refine fk_kdv ?_
    | refine fk_pI (by assumption) (by decide) (fun _ _ => ?_)
    | refine fk_pR (by assumption) (fun _ _ => ?_)
    | refine fk_pAI (by assumption) (by decide) (fun _ _ => ?_)
    | refine fk_pAZ (by assumption) (by decide) (fun _ _ => ?_)
    | refine fk_pAL (by assumption) (fun _ _ => ?_)
    | refine fk_pAN (by assumption) (fun _ _ => ?_)
    | refine fk_nw (by assumption) (by decide) (fun _ _ _ => ?_)
    | refine fk_nwM (by assumption) (fun _ _ _ => ?_)
    | refine fk_callV (fk_f_X9_readingNumbered _ _ _) (by assumption) (fun _ _ _ => ?_)
    | refine fk_bind (fk_f_X9_readingNumbered _ _ _) (by assumption) (fun _ _ _ => ?_)
    | refine fk_binI (fk_f_X9_readingNumbered _ _ _) (by assumption) (fun _ _ _ => ?_)
    | refine fk_callV (fk_X9_tripOf_b28 _ _) (by assumption) (fun _ _ _ => ?_)
    | refine fk_bind (fk_X9_tripOf_b28 _ _) (by assumption) (fun _ _ _ => ?_)
    | refine fk_binI (fk_X9_tripOf_b28 _ _) (by assumption) (fun _ _ _ => ?_)
    | refine fk_callV (fk_f_X3_tripWith _ _ _) (by assumption) (fun _ _ _ => ?_)
    | refine fk_bind (fk_f_X3_tripWith _ _ _) (by assumption) (fun _ _ _ => ?_)
    | refine fk_binI (fk_f_X3_tripWith _ _ _) (by assumption) (fun _ _ _ => ?_))
theorem fk_X3_beginningOf_b31 (rc4 : Nat → Int32 → Int32 → Int32 → KH → KO Int32) (hr4 : ∀ (u0 : Nat) (u1 : Int32) (u2 : Int32) (u3 : Int32) (u4 : KH), FW u4 (rc4 u0 u1 u2 u3 u4)) (v0 : Nat) (v1 : Int32) (v2 : Int32) (v3 : Int32) (h : KH) : FW h (X3_beginningOf_b31 rc4 v0 v1 v2 v3 h) := by
  unfold X3_beginningOf_b31
  have q0 : FK h h := FK.rf h
  repeat' with_reducible (first
    | exact fk_ret (by assumption)
    | exact fk_retZ (by assumption)
    | exact fk_retC (by assumption)
    | exact fk_thr (by assumption)
    | exact fk_none
    | exact fk_go (hr4 _ _ _ _ _) (by assumption)
    | refine fk_gI (fun _ => ?_)
    | refine fk_gR (fun _ => ?_)
    | refine fk_gN (fun _ => ?_)
    | refine fk_gAI (fun _ => ?_)
    | refine fk_gAL (fun _ => ?_)
    | refine fk_gAN (fun _ => ?_)
    | refine fk_kif ?_ ?_
    | refine fk_nul ?_ (fun _ => ?_)
    | refine fk_may (fun _ => ?_)
    | refine fk_kdv ?_
    | refine fk_pI (by assumption) (by decide) (fun _ _ => ?_)
    | refine fk_pR (by assumption) (fun _ _ => ?_)
    | refine fk_pAI (by assumption) (by decide) (fun _ _ => ?_)
    | refine fk_pAZ (by assumption) (by decide) (fun _ _ => ?_)
    | refine fk_pAL (by assumption) (fun _ _ => ?_)
    | refine fk_pAN (by assumption) (fun _ _ => ?_)
    | refine fk_nw (by assumption) (by decide) (fun _ _ _ => ?_)
    | refine fk_nwM (by assumption) (fun _ _ _ => ?_)
    | refine fk_callV (hr4 _ _ _ _ _) (by assumption) (fun _ _ _ => ?_)
    | refine fk_bind (hr4 _ _ _ _ _) (by assumption) (fun _ _ _ => ?_)
    | refine fk_binI (hr4 _ _ _ _ _) (by assumption) (fun _ _ _ => ?_))
theorem fk_X3_beginningOf_b4 (rc4 : Nat → Int32 → Int32 → Int32 → KH → KO Int32) (hr4 : ∀ (u0 : Nat) (u1 : Int32) (u2 : Int32) (u3 : Int32) (u4 : KH), FW u4 (rc4 u0 u1 u2 u3 u4)) (v0 : Nat) (v1 : Int32) (v2 : Int32) (v3 : Int32) (h : KH) : FW h (X3_beginningOf_b4 rc4 v0 v1 v2 v3 h) := by
  unfold X3_beginningOf_b4
  have q0 : FK h h := FK.rf h
  repeat' with_reducible (first
    | exact fk_ret (by assumption)
    | exact fk_retZ (by assumption)
    | exact fk_retC (by assumption)
    | exact fk_thr (by assumption)
    | exact fk_none
    | exact fk_go (hr4 _ _ _ _ _) (by assumption)
    | exact fk_go (fk_X3_beginningOf_b31 _ (by assumption) _ _ _ _ _) (by assumption)
    | refine fk_gI (fun _ => ?_)
    | refine fk_gR (fun _ => ?_)
    | refine fk_gN (fun _ => ?_)
    | refine fk_gAI (fun _ => ?_)
    | refine fk_gAL (fun _ => ?_)
    | refine fk_gAN (fun _ => ?_)
    | refine fk_kif ?_ ?_
    | refine fk_nul ?_ (fun _ => ?_)
    | refine fk_may (fun _ => ?_)
    | refine fk_kdv ?_
    | refine fk_pI (by assumption) (by decide) (fun _ _ => ?_)
    | refine fk_pR (by assumption) (fun _ _ => ?_)
    | refine fk_pAI (by assumption) (by decide) (fun _ _ => ?_)
    | refine fk_pAZ (by assumption) (by decide) (fun _ _ => ?_)
    | refine fk_pAL (by assumption) (fun _ _ => ?_)
    | refine fk_pAN (by assumption) (fun _ _ => ?_)
    | refine fk_nw (by assumption) (by decide) (fun _ _ _ => ?_)
    | refine fk_nwM (by assumption) (fun _ _ _ => ?_)
    | refine fk_callV (hr4 _ _ _ _ _) (by assumption) (fun _ _ _ => ?_)
    | refine fk_bind (hr4 _ _ _ _ _) (by assumption) (fun _ _ _ => ?_)
    | refine fk_binI (hr4 _ _ _ _ _) (by assumption) (fun _ _ _ => ?_)
    | refine fk_callV (fk_X3_beginningOf_b31 _ (by assumption) _ _ _ _ _) (by assumption) (fun _ _ _ => ?_)
    | refine fk_bind (fk_X3_beginningOf_b31 _ (by assumption) _ _ _ _ _) (by assumption) (fun _ _ _ => ?_)
    | refine fk_binI (fk_X3_beginningOf_b31 _ (by assumption) _ _ _ _ _) (by assumption) (fun _ _ _ => ?_))
theorem fk_X3_beginningOf_L4  : ∀ (m : Nat) (u0 : Nat) (u1 : Int32) (u2 : Int32) (u3 : Int32) (u4 : KH), FW u4 (X3_beginningOf_L4  m u0 u1 u2 u3 u4) := by
  intro m
  induction m with
  | zero => intro u0 u1 u2 u3 u4; exact fk_none
  | succ m ih => intro u0 u1 u2 u3 u4; exact fk_X3_beginningOf_b4 (X3_beginningOf_L4  m) ih u0 u1 u2 u3 u4
theorem fk_f_X3_beginningOf  (p0 : Nat) (p1 : Int32) (h : KH) : FW h (f_X3_beginningOf p0 p1 h) := by
  unfold f_X3_beginningOf
  have q0 : FK h h := FK.rf h
  repeat' with_reducible (first
    | exact fk_ret (by assumption)
    | exact fk_retZ (by assumption)
    | exact fk_retC (by assumption)
    | exact fk_thr (by assumption)
    | exact fk_none
    | exact fk_go (fk_X3_beginningOf_L4 _ _ _ _ _ _) (by assumption)
    | refine fk_gI (fun _ => ?_)
    | refine fk_gR (fun _ => ?_)
    | refine fk_gN (fun _ => ?_)
    | refine fk_gAI (fun _ => ?_)
    | refine fk_gAL (fun _ => ?_)
    | refine fk_gAN (fun _ => ?_)
    | refine fk_kif ?_ ?_
    | refine fk_nul ?_ (fun _ => ?_)
    | refine fk_may (fun _ => ?_)
    | refine fk_kdv ?_
    | refine fk_pI (by assumption) (by decide) (fun _ _ => ?_)
    | refine fk_pR (by assumption) (fun _ _ => ?_)
    | refine fk_pAI (by assumption) (by decide) (fun _ _ => ?_)
    | refine fk_pAZ (by assumption) (by decide) (fun _ _ => ?_)
    | refine fk_pAL (by assumption) (fun _ _ => ?_)
    | refine fk_pAN (by assumption) (fun _ _ => ?_)
    | refine fk_nw (by assumption) (by decide) (fun _ _ _ => ?_)
    | refine fk_nwM (by assumption) (fun _ _ _ => ?_)
    | refine fk_callV (fk_X3_beginningOf_L4 _ _ _ _ _ _) (by assumption) (fun _ _ _ => ?_)
    | refine fk_bind (fk_X3_beginningOf_L4 _ _ _ _ _ _) (by assumption) (fun _ _ _ => ?_)
    | refine fk_binI (fk_X3_beginningOf_L4 _ _ _ _ _ _) (by assumption) (fun _ _ _ => ?_))
theorem fk_f_X9_requiredBeginning  (p0 : Nat) (p1 : Int32) (h : KH) : FW h (f_X9_requiredBeginning p0 p1 h) := by
  unfold f_X9_requiredBeginning
  have q0 : FK h h := FK.rf h
  repeat' with_reducible (first
    | exact fk_ret (by assumption)
    | exact fk_retZ (by assumption)
    | exact fk_retC (by assumption)
    | exact fk_thr (by assumption)
    | exact fk_none
    | exact fk_go (fk_f_X3_beginningOf _ _ _) (by assumption)
    | refine fk_gI (fun _ => ?_)
    | refine fk_gR (fun _ => ?_)
    | refine fk_gN (fun _ => ?_)
    | refine fk_gAI (fun _ => ?_)
    | refine fk_gAL (fun _ => ?_)
    | refine fk_gAN (fun _ => ?_)
    | refine fk_kif ?_ ?_
    | refine fk_nul ?_ (fun _ => ?_)
    | refine fk_may (fun _ => ?_)
    | refine fk_kdv ?_
    | refine fk_pI (by assumption) (by decide) (fun _ _ => ?_)
    | refine fk_pR (by assumption) (fun _ _ => ?_)
    | refine fk_pAI (by assumption) (by decide) (fun _ _ => ?_)
    | refine fk_pAZ (by assumption) (by decide) (fun _ _ => ?_)
    | refine fk_pAL (by assumption) (fun _ _ => ?_)
    | refine fk_pAN (by assumption) (fun _ _ => ?_)
    | refine fk_nw (by assumption) (by decide) (fun _ _ _ => ?_)
    | refine fk_nwM (by assumption) (fun _ _ _ => ?_)
    | refine fk_callV (fk_f_X3_beginningOf _ _ _) (by assumption) (fun _ _ _ => ?_)
    | refine fk_bind (fk_f_X3_beginningOf _ _ _) (by assumption) (fun _ _ _ => ?_)
    | refine fk_binI (fk_f_X3_beginningOf _ _ _) (by assumption) (fun _ _ _ => ?_))
theorem fk_X3_wayFrom_b61  (v3 : Int32) (h : KH) : FW h (X3_wayFrom_b61 v3 h) := by
  unfold X3_wayFrom_b61
  have q0 : FK h h := FK.rf h
  repeat' with_reducible (first
    | exact fk_ret (by assumption)
    | exact fk_retZ (by assumption)
    | exact fk_retC (by assumption)
    | exact fk_thr (by assumption)
    | exact fk_none
    | refine fk_gI (fun _ => ?_)
    | refine fk_gR (fun _ => ?_)
    | refine fk_gN (fun _ => ?_)
    | refine fk_gAI (fun _ => ?_)
    | refine fk_gAL (fun _ => ?_)
    | refine fk_gAN (fun _ => ?_)
    | refine fk_kif ?_ ?_
    | refine fk_nul ?_ (fun _ => ?_)
    | refine fk_may (fun _ => ?_)
    | refine fk_kdv ?_
    | refine fk_pI (by assumption) (by decide) (fun _ _ => ?_)
    | refine fk_pR (by assumption) (fun _ _ => ?_)
    | refine fk_pAI (by assumption) (by decide) (fun _ _ => ?_)
    | refine fk_pAZ (by assumption) (by decide) (fun _ _ => ?_)
    | refine fk_pAL (by assumption) (fun _ _ => ?_)
    | refine fk_pAN (by assumption) (fun _ _ => ?_)
    | refine fk_nw (by assumption) (by decide) (fun _ _ _ => ?_)
    | refine fk_nwM (by assumption) (fun _ _ _ => ?_))
theorem fk_X3_wayFrom_b7 (rc7 : Nat → Nat → Int32 → Int32 → KH → KO Int32) (hr7 : ∀ (u0 : Nat) (u1 : Nat) (u2 : Int32) (u3 : Int32) (u4 : KH), FW u4 (rc7 u0 u1 u2 u3 u4)) (v0 : Nat) (v2 : Nat) (v3 : Int32) (v4 : Int32) (h : KH) : FW h (X3_wayFrom_b7 rc7 v0 v2 v3 v4 h) := by
  unfold X3_wayFrom_b7
  have q0 : FK h h := FK.rf h
  repeat' with_reducible (first
    | exact fk_ret (by assumption)
    | exact fk_retZ (by assumption)
    | exact fk_retC (by assumption)
    | exact fk_thr (by assumption)
    | exact fk_none
    | exact fk_go (hr7 _ _ _ _ _) (by assumption)
    | exact fk_go (fk_X3_wayFrom_b61 _ _) (by assumption)
    | exact fk_go (fk_f_X6_between _ _ _ _) (by assumption)
    | refine fk_gI (fun _ => ?_)
    | refine fk_gR (fun _ => ?_)
    | refine fk_gN (fun _ => ?_)
    | refine fk_gAI (fun _ => ?_)
    | refine fk_gAL (fun _ => ?_)
    | refine fk_gAN (fun _ => ?_)
    | refine fk_kif ?_ ?_
    | refine fk_nul ?_ (fun _ => ?_)
    | refine fk_may (fun _ => ?_)
    | refine fk_kdv ?_
    | refine fk_pI (by assumption) (by decide) (fun _ _ => ?_)
    | refine fk_pR (by assumption) (fun _ _ => ?_)
    | refine fk_pAI (by assumption) (by decide) (fun _ _ => ?_)
    | refine fk_pAZ (by assumption) (by decide) (fun _ _ => ?_)
    | refine fk_pAL (by assumption) (fun _ _ => ?_)
    | refine fk_pAN (by assumption) (fun _ _ => ?_)
    | refine fk_nw (by assumption) (by decide) (fun _ _ _ => ?_)
    | refine fk_nwM (by assumption) (fun _ _ _ => ?_)
    | refine fk_callV (hr7 _ _ _ _ _) (by assumption) (fun _ _ _ => ?_)
    | refine fk_bind (hr7 _ _ _ _ _) (by assumption) (fun _ _ _ => ?_)
    | refine fk_binI (hr7 _ _ _ _ _) (by assumption) (fun _ _ _ => ?_)
    | refine fk_callV (fk_X3_wayFrom_b61 _ _) (by assumption) (fun _ _ _ => ?_)
    | refine fk_bind (fk_X3_wayFrom_b61 _ _) (by assumption) (fun _ _ _ => ?_)
    | refine fk_binI (fk_X3_wayFrom_b61 _ _) (by assumption) (fun _ _ _ => ?_)
    | refine fk_callV (fk_f_X6_between _ _ _ _) (by assumption) (fun _ _ _ => ?_)
    | refine fk_bind (fk_f_X6_between _ _ _ _) (by assumption) (fun _ _ _ => ?_)
    | refine fk_binI (fk_f_X6_between _ _ _ _) (by assumption) (fun _ _ _ => ?_))
theorem fk_X3_wayFrom_L7  : ∀ (m : Nat) (u0 : Nat) (u1 : Nat) (u2 : Int32) (u3 : Int32) (u4 : KH), FW u4 (X3_wayFrom_L7  m u0 u1 u2 u3 u4) := by
  intro m
  induction m with
  | zero => intro u0 u1 u2 u3 u4; exact fk_none
  | succ m ih => intro u0 u1 u2 u3 u4; exact fk_X3_wayFrom_b7 (X3_wayFrom_L7  m) ih u0 u1 u2 u3 u4
theorem fk_f_X3_wayFrom  (p0 : Nat) (p1 : Int32) (p2 : Nat) (h : KH) : FW h (f_X3_wayFrom p0 p1 p2 h) := by
  unfold f_X3_wayFrom
  have q0 : FK h h := FK.rf h
  repeat' with_reducible (first
    | exact fk_ret (by assumption)
    | exact fk_retZ (by assumption)
    | exact fk_retC (by assumption)
    | exact fk_thr (by assumption)
    | exact fk_none
    | exact fk_go (fk_X3_wayFrom_L7 _ _ _ _ _ _) (by assumption)
    | refine fk_gI (fun _ => ?_)
    | refine fk_gR (fun _ => ?_)
    | refine fk_gN (fun _ => ?_)
    | refine fk_gAI (fun _ => ?_)
    | refine fk_gAL (fun _ => ?_)
    | refine fk_gAN (fun _ => ?_)
    | refine fk_kif ?_ ?_
    | refine fk_nul ?_ (fun _ => ?_)
    | refine fk_may (fun _ => ?_)
    | refine fk_kdv ?_
    | refine fk_pI (by assumption) (by decide) (fun _ _ => ?_)
    | refine fk_pR (by assumption) (fun _ _ => ?_)
    | refine fk_pAI (by assumption) (by decide) (fun _ _ => ?_)
    | refine fk_pAZ (by assumption) (by decide) (fun _ _ => ?_)
    | refine fk_pAL (by assumption) (fun _ _ => ?_)
    | refine fk_pAN (by assumption) (fun _ _ => ?_)
    | refine fk_nw (by assumption) (by decide) (fun _ _ _ => ?_)
    | refine fk_nwM (by assumption) (fun _ _ _ => ?_)
    | refine fk_callV (fk_X3_wayFrom_L7 _ _ _ _ _ _) (by assumption) (fun _ _ _ => ?_)
    | refine fk_bind (fk_X3_wayFrom_L7 _ _ _ _ _ _) (by assumption) (fun _ _ _ => ?_)
    | refine fk_binI (fk_X3_wayFrom_L7 _ _ _ _ _ _) (by assumption) (fun _ _ _ => ?_))
theorem fk_f_X9_tollFrom  (p0 : Nat) (p1 : Nat) (p2 : Int32) (p3 : Nat) (h : KH) : FW h (f_X9_tollFrom p0 p1 p2 p3 h) := by
  unfold f_X9_tollFrom
  have q0 : FK h h := FK.rf h
  repeat' with_reducible (first
    | exact fk_ret (by assumption)
    | exact fk_retZ (by assumption)
    | exact fk_retC (by assumption)
    | exact fk_thr (by assumption)
    | exact fk_none
    | exact fk_go (fk_f_X3_wayFrom _ _ _ _) (by assumption)
    | refine fk_gI (fun _ => ?_)
    | refine fk_gR (fun _ => ?_)
    | refine fk_gN (fun _ => ?_)
    | refine fk_gAI (fun _ => ?_)
    | refine fk_gAL (fun _ => ?_)
    | refine fk_gAN (fun _ => ?_)
    | refine fk_kif ?_ ?_
    | refine fk_nul ?_ (fun _ => ?_)
    | refine fk_may (fun _ => ?_)
    | refine fk_kdv ?_
    | refine fk_pI (by assumption) (by decide) (fun _ _ => ?_)
    | refine fk_pR (by assumption) (fun _ _ => ?_)
    | refine fk_pAI (by assumption) (by decide) (fun _ _ => ?_)
    | refine fk_pAZ (by assumption) (by decide) (fun _ _ => ?_)
    | refine fk_pAL (by assumption) (fun _ _ => ?_)
    | refine fk_pAN (by assumption) (fun _ _ => ?_)
    | refine fk_nw (by assumption) (by decide) (fun _ _ _ => ?_)
    | refine fk_nwM (by assumption) (fun _ _ _ => ?_)
    | refine fk_callV (fk_f_X3_wayFrom _ _ _ _) (by assumption) (fun _ _ _ => ?_)
    | refine fk_bind (fk_f_X3_wayFrom _ _ _ _) (by assumption) (fun _ _ _ => ?_)
    | refine fk_binI (fk_f_X3_wayFrom _ _ _ _) (by assumption) (fun _ _ _ => ?_))
theorem fk_f_X9_toll  (p0 : Nat) (p1 : Int32) (p2 : Int32) (h : KH) : FW h (f_X9_toll p0 p1 p2 h) := by
  unfold f_X9_toll
  have q0 : FK h h := FK.rf h
  repeat' with_reducible (first
    | exact fk_ret (by assumption)
    | exact fk_retZ (by assumption)
    | exact fk_retC (by assumption)
    | exact fk_thr (by assumption)
    | exact fk_none
    | exact fk_go (fk_f_X9_plateNumbered _ _ _) (by assumption)
    | exact fk_go (fk_f_X9_requiredBeginning _ _ _) (by assumption)
    | exact fk_go (fk_f_X9_tollFrom _ _ _ _ _) (by assumption)
    | refine fk_gI (fun _ => ?_)
    | refine fk_gR (fun _ => ?_)
    | refine fk_gN (fun _ => ?_)
    | refine fk_gAI (fun _ => ?_)
    | refine fk_gAL (fun _ => ?_)
    | refine fk_gAN (fun _ => ?_)
    | refine fk_kif ?_ ?_
    | refine fk_nul ?_ (fun _ => ?_)
    | refine fk_may (fun _ => ?_)
    | refine fk_kdv ?_
    | refine fk_pI (by assumption) (by decide) (fun _ _ => ?_)
    | refine fk_pR (by assumption) (fun _ _ => ?_)
    | refine fk_pAI (by assumption) (by decide) (fun _ _ => ?_)
    | refine fk_pAZ (by assumption) (by decide) (fun _ _ => ?_)
    | refine fk_pAL (by assumption) (fun _ _ => ?_)
    | refine fk_pAN (by assumption) (fun _ _ => ?_)
    | refine fk_nw (by assumption) (by decide) (fun _ _ _ => ?_)
    | refine fk_nwM (by assumption) (fun _ _ _ => ?_)
    | refine fk_callV (fk_f_X9_plateNumbered _ _ _) (by assumption) (fun _ _ _ => ?_)
    | refine fk_bind (fk_f_X9_plateNumbered _ _ _) (by assumption) (fun _ _ _ => ?_)
    | refine fk_binI (fk_f_X9_plateNumbered _ _ _) (by assumption) (fun _ _ _ => ?_)
    | refine fk_callV (fk_f_X9_requiredBeginning _ _ _) (by assumption) (fun _ _ _ => ?_)
    | refine fk_bind (fk_f_X9_requiredBeginning _ _ _) (by assumption) (fun _ _ _ => ?_)
    | refine fk_binI (fk_f_X9_requiredBeginning _ _ _) (by assumption) (fun _ _ _ => ?_)
    | refine fk_callV (fk_f_X9_tollFrom _ _ _ _ _) (by assumption) (fun _ _ _ => ?_)
    | refine fk_bind (fk_f_X9_tollFrom _ _ _ _ _) (by assumption) (fun _ _ _ => ?_)
    | refine fk_binI (fk_f_X9_tollFrom _ _ _ _ _) (by assumption) (fun _ _ _ => ?_))
theorem fk_f_X9_driverOf  (p0 : Nat) (p1 : Int32) (p2 : Int32) (h : KH) : FW h (f_X9_driverOf p0 p1 p2 h) := by
  unfold f_X9_driverOf
  have q0 : FK h h := FK.rf h
  repeat' with_reducible (first
    | exact fk_ret (by assumption)
    | exact fk_retZ (by assumption)
    | exact fk_retC (by assumption)
    | exact fk_thr (by assumption)
    | exact fk_none
    | exact fk_go (fk_f_X9_plateNumbered _ _ _) (by assumption)
    | exact fk_go (fk_f_X9_requiredBeginning _ _ _) (by assumption)
    | exact fk_go (fk_f_X4_driverIn _ _ _) (by assumption)
    | refine fk_gI (fun _ => ?_)
    | refine fk_gR (fun _ => ?_)
    | refine fk_gN (fun _ => ?_)
    | refine fk_gAI (fun _ => ?_)
    | refine fk_gAL (fun _ => ?_)
    | refine fk_gAN (fun _ => ?_)
    | refine fk_kif ?_ ?_
    | refine fk_nul ?_ (fun _ => ?_)
    | refine fk_may (fun _ => ?_)
    | refine fk_kdv ?_
    | refine fk_pI (by assumption) (by decide) (fun _ _ => ?_)
    | refine fk_pR (by assumption) (fun _ _ => ?_)
    | refine fk_pAI (by assumption) (by decide) (fun _ _ => ?_)
    | refine fk_pAZ (by assumption) (by decide) (fun _ _ => ?_)
    | refine fk_pAL (by assumption) (fun _ _ => ?_)
    | refine fk_pAN (by assumption) (fun _ _ => ?_)
    | refine fk_nw (by assumption) (by decide) (fun _ _ _ => ?_)
    | refine fk_nwM (by assumption) (fun _ _ _ => ?_)
    | refine fk_callV (fk_f_X9_plateNumbered _ _ _) (by assumption) (fun _ _ _ => ?_)
    | refine fk_bind (fk_f_X9_plateNumbered _ _ _) (by assumption) (fun _ _ _ => ?_)
    | refine fk_binI (fk_f_X9_plateNumbered _ _ _) (by assumption) (fun _ _ _ => ?_)
    | refine fk_callV (fk_f_X9_requiredBeginning _ _ _) (by assumption) (fun _ _ _ => ?_)
    | refine fk_bind (fk_f_X9_requiredBeginning _ _ _) (by assumption) (fun _ _ _ => ?_)
    | refine fk_binI (fk_f_X9_requiredBeginning _ _ _) (by assumption) (fun _ _ _ => ?_)
    | refine fk_callV (fk_f_X4_driverIn _ _ _) (by assumption) (fun _ _ _ => ?_)
    | refine fk_bind (fk_f_X4_driverIn _ _ _) (by assumption) (fun _ _ _ => ?_)
    | refine fk_binI (fk_f_X4_driverIn _ _ _) (by assumption) (fun _ _ _ => ?_))
theorem fk_X9_dueFor_b56 (rc6 : Nat → Nat → Nat → Int32 → Int32 → Int32 → KH → KO Int32) (hr6 : ∀ (u0 : Nat) (u1 : Nat) (u2 : Nat) (u3 : Int32) (u4 : Int32) (u5 : Int32) (u6 : KH), FW u6 (rc6 u0 u1 u2 u3 u4 u5 u6)) (v0 : Nat) (v1 : Nat) (v2 : Nat) (v3 : Int32) (v4 : Int32) (v5 : Int32) (h : KH) : FW h (X9_dueFor_b56 rc6 v0 v1 v2 v3 v4 v5 h) := by
  unfold X9_dueFor_b56
  have q0 : FK h h := FK.rf h
  repeat' with_reducible (first
    | exact fk_ret (by assumption)
    | exact fk_retZ (by assumption)
    | exact fk_retC (by assumption)
    | exact fk_thr (by assumption)
    | exact fk_none
    | exact fk_go (hr6 _ _ _ _ _ _ _) (by assumption)
    | refine fk_gI (fun _ => ?_)
    | refine fk_gR (fun _ => ?_)
    | refine fk_gN (fun _ => ?_)
    | refine fk_gAI (fun _ => ?_)
    | refine fk_gAL (fun _ => ?_)
    | refine fk_gAN (fun _ => ?_)
    | refine fk_kif ?_ ?_
    | refine fk_nul ?_ (fun _ => ?_)
    | refine fk_may (fun _ => ?_)
    | refine fk_kdv ?_
    | refine fk_pI (by assumption) (by decide) (fun _ _ => ?_)
    | refine fk_pR (by assumption) (fun _ _ => ?_)
    | refine fk_pAI (by assumption) (by decide) (fun _ _ => ?_)
    | refine fk_pAZ (by assumption) (by decide) (fun _ _ => ?_)
    | refine fk_pAL (by assumption) (fun _ _ => ?_)
    | refine fk_pAN (by assumption) (fun _ _ => ?_)
    | refine fk_nw (by assumption) (by decide) (fun _ _ _ => ?_)
    | refine fk_nwM (by assumption) (fun _ _ _ => ?_)
    | refine fk_callV (hr6 _ _ _ _ _ _ _) (by assumption) (fun _ _ _ => ?_)
    | refine fk_bind (hr6 _ _ _ _ _ _ _) (by assumption) (fun _ _ _ => ?_)
    | refine fk_binI (hr6 _ _ _ _ _ _ _) (by assumption) (fun _ _ _ => ?_))
theorem fk_X9_dueFor_b6 (rc6 : Nat → Nat → Nat → Int32 → Int32 → Int32 → KH → KO Int32) (hr6 : ∀ (u0 : Nat) (u1 : Nat) (u2 : Nat) (u3 : Int32) (u4 : Int32) (u5 : Int32) (u6 : KH), FW u6 (rc6 u0 u1 u2 u3 u4 u5 u6)) (v0 : Nat) (v1 : Nat) (v2 : Nat) (v3 : Int32) (v4 : Int32) (v5 : Int32) (h : KH) : FW h (X9_dueFor_b6 rc6 v0 v1 v2 v3 v4 v5 h) := by
  unfold X9_dueFor_b6
  have q0 : FK h h := FK.rf h
  repeat' with_reducible (first
    | exact fk_ret (by assumption)
    | exact fk_retZ (by assumption)
    | exact fk_retC (by assumption)
    | exact fk_thr (by assumption)
    | exact fk_none
    | exact fk_go (hr6 _ _ _ _ _ _ _) (by assumption)
    | exact fk_go (fk_X9_dueFor_b56 _ (by assumption) _ _ _ _ _ _ _) (by assumption)
    | exact fk_go (fk_f_X4_driverIn _ _ _) (by assumption)
    | exact fk_go (fk_f_X9_tollFrom _ _ _ _ _) (by assumption)
    | refine fk_gI (fun _ => ?_)
    | refine fk_gR (fun _ => ?_)
    | refine fk_gN (fun _ => ?_)
    | refine fk_gAI (fun _ => ?_)
    | refine fk_gAL (fun _ => ?_)
    | refine fk_gAN (fun _ => ?_)
    | refine fk_kif ?_ ?_
    | refine fk_nul ?_ (fun _ => ?_)
    | refine fk_may (fun _ => ?_)
    | refine fk_kdv ?_
    | refine fk_pI (by assumption) (by decide) (fun _ _ => ?_)
    | refine fk_pR (by assumption) (fun _ _ => ?_)
    | refine fk_pAI (by assumption) (by decide) (fun _ _ => ?_)
    | refine fk_pAZ (by assumption) (by decide) (fun _ _ => ?_)
    | refine fk_pAL (by assumption) (fun _ _ => ?_)
    | refine fk_pAN (by assumption) (fun _ _ => ?_)
    | refine fk_nw (by assumption) (by decide) (fun _ _ _ => ?_)
    | refine fk_nwM (by assumption) (fun _ _ _ => ?_)
    | refine fk_callV (hr6 _ _ _ _ _ _ _) (by assumption) (fun _ _ _ => ?_)
    | refine fk_bind (hr6 _ _ _ _ _ _ _) (by assumption) (fun _ _ _ => ?_)
    | refine fk_binI (hr6 _ _ _ _ _ _ _) (by assumption) (fun _ _ _ => ?_)
    | refine fk_callV (fk_X9_dueFor_b56 _ (by assumption) _ _ _ _ _ _ _) (by assumption) (fun _ _ _ => ?_)
    | refine fk_bind (fk_X9_dueFor_b56 _ (by assumption) _ _ _ _ _ _ _) (by assumption) (fun _ _ _ => ?_)
    | refine fk_binI (fk_X9_dueFor_b56 _ (by assumption) _ _ _ _ _ _ _) (by assumption) (fun _ _ _ => ?_)
    | refine fk_callV (fk_f_X4_driverIn _ _ _) (by assumption) (fun _ _ _ => ?_)
    | refine fk_bind (fk_f_X4_driverIn _ _ _) (by assumption) (fun _ _ _ => ?_)
    | refine fk_binI (fk_f_X4_driverIn _ _ _) (by assumption) (fun _ _ _ => ?_)
    | refine fk_callV (fk_f_X9_tollFrom _ _ _ _ _) (by assumption) (fun _ _ _ => ?_)
    | refine fk_bind (fk_f_X9_tollFrom _ _ _ _ _) (by assumption) (fun _ _ _ => ?_)
    | refine fk_binI (fk_f_X9_tollFrom _ _ _ _ _) (by assumption) (fun _ _ _ => ?_))
theorem fk_X9_dueFor_L6  : ∀ (m : Nat) (u0 : Nat) (u1 : Nat) (u2 : Nat) (u3 : Int32) (u4 : Int32) (u5 : Int32) (u6 : KH), FW u6 (X9_dueFor_L6  m u0 u1 u2 u3 u4 u5 u6) := by
  intro m
  induction m with
  | zero => intro u0 u1 u2 u3 u4 u5 u6; exact fk_none
  | succ m ih => intro u0 u1 u2 u3 u4 u5 u6; exact fk_X9_dueFor_b6 (X9_dueFor_L6  m) ih u0 u1 u2 u3 u4 u5 u6
theorem fk_f_X9_dueFor  (p0 : Nat) (p1 : Nat) (p2 : Nat) (p3 : Int32) (h : KH) : FW h (f_X9_dueFor p0 p1 p2 p3 h) := by
  unfold f_X9_dueFor
  have q0 : FK h h := FK.rf h
  repeat' with_reducible (first
    | exact fk_ret (by assumption)
    | exact fk_retZ (by assumption)
    | exact fk_retC (by assumption)
    | exact fk_thr (by assumption)
    | exact fk_none
    | exact fk_go (fk_X9_dueFor_L6 _ _ _ _ _ _ _ _) (by assumption)
    | refine fk_gI (fun _ => ?_)
    | refine fk_gR (fun _ => ?_)
    | refine fk_gN (fun _ => ?_)
    | refine fk_gAI (fun _ => ?_)
    | refine fk_gAL (fun _ => ?_)
    | refine fk_gAN (fun _ => ?_)
    | refine fk_kif ?_ ?_
    | refine fk_nul ?_ (fun _ => ?_)
    | refine fk_may (fun _ => ?_)
    | refine fk_kdv ?_
    | refine fk_pI (by assumption) (by decide) (fun _ _ => ?_)
    | refine fk_pR (by assumption) (fun _ _ => ?_)
    | refine fk_pAI (by assumption) (by decide) (fun _ _ => ?_)
    | refine fk_pAZ (by assumption) (by decide) (fun _ _ => ?_)
    | refine fk_pAL (by assumption) (fun _ _ => ?_)
    | refine fk_pAN (by assumption) (fun _ _ => ?_)
    | refine fk_nw (by assumption) (by decide) (fun _ _ _ => ?_)
    | refine fk_nwM (by assumption) (fun _ _ _ => ?_)
    | refine fk_callV (fk_X9_dueFor_L6 _ _ _ _ _ _ _ _) (by assumption) (fun _ _ _ => ?_)
    | refine fk_bind (fk_X9_dueFor_L6 _ _ _ _ _ _ _ _) (by assumption) (fun _ _ _ => ?_)
    | refine fk_binI (fk_X9_dueFor_L6 _ _ _ _ _ _ _ _) (by assumption) (fun _ _ _ => ?_))
theorem fk_X9_dueByKept_b4 (rc4 : Nat → Int32 → Int32 → Int32 → KH → KO Int32) (hr4 : ∀ (u0 : Nat) (u1 : Int32) (u2 : Int32) (u3 : Int32) (u4 : KH), FW u4 (rc4 u0 u1 u2 u3 u4)) (v0 : Nat) (v1 : Int32) (v2 : Int32) (v3 : Int32) (h : KH) : FW h (X9_dueByKept_b4 rc4 v0 v1 v2 v3 h) := by
  unfold X9_dueByKept_b4
  have q0 : FK h h := FK.rf h
  repeat' with_reducible (first
    | exact fk_ret (by assumption)
    | exact fk_retZ (by assumption)
    | exact fk_retC (by assumption)
    | exact fk_thr (by assumption)
    | exact fk_none
    | exact fk_go (hr4 _ _ _ _ _) (by assumption)
    | exact fk_go (fk_f_X9_dueFor _ _ _ _ _) (by assumption)
    | refine fk_gI (fun _ => ?_)
    | refine fk_gR (fun _ => ?_)
    | refine fk_gN (fun _ => ?_)
    | refine fk_gAI (fun _ => ?_)
    | refine fk_gAL (fun _ => ?_)
    | refine fk_gAN (fun _ => ?_)
    | refine fk_kif ?_ ?_
    | refine fk_nul ?_ (fun _ => ?_)
    | refine fk_may (fun _ => ?_)
    | refine fk_kdv ?_
    | refine fk_pI (by assumption) (by decide) (fun _ _ => ?_)
    | refine fk_pR (by assumption) (fun _ _ => ?_)
    | refine fk_pAI (by assumption) (by decide) (fun _ _ => ?_)
    | refine fk_pAZ (by assumption) (by decide) (fun _ _ => ?_)
    | refine fk_pAL (by assumption) (fun _ _ => ?_)
    | refine fk_pAN (by assumption) (fun _ _ => ?_)
    | refine fk_nw (by assumption) (by decide) (fun _ _ _ => ?_)
    | refine fk_nwM (by assumption) (fun _ _ _ => ?_)
    | refine fk_callV (hr4 _ _ _ _ _) (by assumption) (fun _ _ _ => ?_)
    | refine fk_bind (hr4 _ _ _ _ _) (by assumption) (fun _ _ _ => ?_)
    | refine fk_binI (hr4 _ _ _ _ _) (by assumption) (fun _ _ _ => ?_)
    | refine fk_callV (fk_f_X9_dueFor _ _ _ _ _) (by assumption) (fun _ _ _ => ?_)
    | refine fk_bind (fk_f_X9_dueFor _ _ _ _ _) (by assumption) (fun _ _ _ => ?_)
    | refine fk_binI (fk_f_X9_dueFor _ _ _ _ _) (by assumption) (fun _ _ _ => ?_))
theorem fk_X9_dueByKept_L4  : ∀ (m : Nat) (u0 : Nat) (u1 : Int32) (u2 : Int32) (u3 : Int32) (u4 : KH), FW u4 (X9_dueByKept_L4  m u0 u1 u2 u3 u4) := by
  intro m
  induction m with
  | zero => intro u0 u1 u2 u3 u4; exact fk_none
  | succ m ih => intro u0 u1 u2 u3 u4; exact fk_X9_dueByKept_b4 (X9_dueByKept_L4  m) ih u0 u1 u2 u3 u4
theorem fk_f_X9_dueByKept  (p0 : Nat) (p1 : Int32) (h : KH) : FW h (f_X9_dueByKept p0 p1 h) := by
  unfold f_X9_dueByKept
  have q0 : FK h h := FK.rf h
  repeat' with_reducible (first
    | exact fk_ret (by assumption)
    | exact fk_retZ (by assumption)
    | exact fk_retC (by assumption)
    | exact fk_thr (by assumption)
    | exact fk_none
    | exact fk_go (fk_X9_dueByKept_L4 _ _ _ _ _ _) (by assumption)
    | refine fk_gI (fun _ => ?_)
    | refine fk_gR (fun _ => ?_)
    | refine fk_gN (fun _ => ?_)
    | refine fk_gAI (fun _ => ?_)
    | refine fk_gAL (fun _ => ?_)
    | refine fk_gAN (fun _ => ?_)
    | refine fk_kif ?_ ?_
    | refine fk_nul ?_ (fun _ => ?_)
    | refine fk_may (fun _ => ?_)
    | refine fk_kdv ?_
    | refine fk_pI (by assumption) (by decide) (fun _ _ => ?_)
    | refine fk_pR (by assumption) (fun _ _ => ?_)
    | refine fk_pAI (by assumption) (by decide) (fun _ _ => ?_)
    | refine fk_pAZ (by assumption) (by decide) (fun _ _ => ?_)
    | refine fk_pAL (by assumption) (fun _ _ => ?_)
    | refine fk_pAN (by assumption) (fun _ _ => ?_)
    | refine fk_nw (by assumption) (by decide) (fun _ _ _ => ?_)
    | refine fk_nwM (by assumption) (fun _ _ _ => ?_)
    | refine fk_callV (fk_X9_dueByKept_L4 _ _ _ _ _ _) (by assumption) (fun _ _ _ => ?_)
    | refine fk_bind (fk_X9_dueByKept_L4 _ _ _ _ _ _) (by assumption) (fun _ _ _ => ?_)
    | refine fk_binI (fk_X9_dueByKept_L4 _ _ _ _ _ _) (by assumption) (fun _ _ _ => ?_))
theorem fk_f_X9_due  (p0 : Nat) (p1 : Int32) (h : KH) : FW h (f_X9_due p0 p1 h) := by
  unfold f_X9_due
  have q0 : FK h h := FK.rf h
  repeat' with_reducible (first
    | exact fk_ret (by assumption)
    | exact fk_retZ (by assumption)
    | exact fk_retC (by assumption)
    | exact fk_thr (by assumption)
    | exact fk_none
    | exact fk_go (fk_f_X9_requireDriver _ _) (by assumption)
    | exact fk_go (fk_f_X9_dueByKept _ _ _) (by assumption)
    | refine fk_gI (fun _ => ?_)
    | refine fk_gR (fun _ => ?_)
    | refine fk_gN (fun _ => ?_)
    | refine fk_gAI (fun _ => ?_)
    | refine fk_gAL (fun _ => ?_)
    | refine fk_gAN (fun _ => ?_)
    | refine fk_kif ?_ ?_
    | refine fk_nul ?_ (fun _ => ?_)
    | refine fk_may (fun _ => ?_)
    | refine fk_kdv ?_
    | refine fk_pI (by assumption) (by decide) (fun _ _ => ?_)
    | refine fk_pR (by assumption) (fun _ _ => ?_)
    | refine fk_pAI (by assumption) (by decide) (fun _ _ => ?_)
    | refine fk_pAZ (by assumption) (by decide) (fun _ _ => ?_)
    | refine fk_pAL (by assumption) (fun _ _ => ?_)
    | refine fk_pAN (by assumption) (fun _ _ => ?_)
    | refine fk_nw (by assumption) (by decide) (fun _ _ _ => ?_)
    | refine fk_nwM (by assumption) (fun _ _ _ => ?_)
    | refine fk_callV (fk_f_X9_requireDriver _ _) (by assumption) (fun _ _ _ => ?_)
    | refine fk_bind (fk_f_X9_requireDriver _ _) (by assumption) (fun _ _ _ => ?_)
    | refine fk_binI (fk_f_X9_requireDriver _ _) (by assumption) (fun _ _ _ => ?_)
    | refine fk_callV (fk_f_X9_dueByKept _ _ _) (by assumption) (fun _ _ _ => ?_)
    | refine fk_bind (fk_f_X9_dueByKept _ _ _) (by assumption) (fun _ _ _ => ?_)
    | refine fk_binI (fk_f_X9_dueByKept _ _ _) (by assumption) (fun _ _ _ => ?_))
theorem fk_X9_dueAnew_b8 (rc8 : Nat → Int32 → Int32 → Int32 → KH → KO Int32) (hr8 : ∀ (u0 : Nat) (u1 : Int32) (u2 : Int32) (u3 : Int32) (u4 : KH), FW u4 (rc8 u0 u1 u2 u3 u4)) (v0 : Nat) (v1 : Int32) (v2 : Int32) (v3 : Int32) (h : KH) : FW h (X9_dueAnew_b8 rc8 v0 v1 v2 v3 h) := by
  unfold X9_dueAnew_b8
  have q0 : FK h h := FK.rf h
  repeat' with_reducible (first
    | exact fk_ret (by assumption)
    | exact fk_retZ (by assumption)
    | exact fk_retC (by assumption)
    | exact fk_thr (by assumption)
    | exact fk_none
    | exact fk_go (hr8 _ _ _ _ _) (by assumption)
    | exact fk_go (fk_f_X9_joinAnew _ _ _) (by assumption)
    | exact fk_go (fk_f_X9_dueFor _ _ _ _ _) (by assumption)
    | refine fk_gI (fun _ => ?_)
    | refine fk_gR (fun _ => ?_)
    | refine fk_gN (fun _ => ?_)
    | refine fk_gAI (fun _ => ?_)
    | refine fk_gAL (fun _ => ?_)
    | refine fk_gAN (fun _ => ?_)
    | refine fk_kif ?_ ?_
    | refine fk_nul ?_ (fun _ => ?_)
    | refine fk_may (fun _ => ?_)
    | refine fk_kdv ?_
    | refine fk_pI (by assumption) (by decide) (fun _ _ => ?_)
    | refine fk_pR (by assumption) (fun _ _ => ?_)
    | refine fk_pAI (by assumption) (by decide) (fun _ _ => ?_)
    | refine fk_pAZ (by assumption) (by decide) (fun _ _ => ?_)
    | refine fk_pAL (by assumption) (fun _ _ => ?_)
    | refine fk_pAN (by assumption) (fun _ _ => ?_)
    | refine fk_nw (by assumption) (by decide) (fun _ _ _ => ?_)
    | refine fk_nwM (by assumption) (fun _ _ _ => ?_)
    | refine fk_callV (hr8 _ _ _ _ _) (by assumption) (fun _ _ _ => ?_)
    | refine fk_bind (hr8 _ _ _ _ _) (by assumption) (fun _ _ _ => ?_)
    | refine fk_binI (hr8 _ _ _ _ _) (by assumption) (fun _ _ _ => ?_)
    | refine fk_callV (fk_f_X9_joinAnew _ _ _) (by assumption) (fun _ _ _ => ?_)
    | refine fk_bind (fk_f_X9_joinAnew _ _ _) (by assumption) (fun _ _ _ => ?_)
    | refine fk_binI (fk_f_X9_joinAnew _ _ _) (by assumption) (fun _ _ _ => ?_)
    | refine fk_callV (fk_f_X9_dueFor _ _ _ _ _) (by assumption) (fun _ _ _ => ?_)
    | refine fk_bind (fk_f_X9_dueFor _ _ _ _ _) (by assumption) (fun _ _ _ => ?_)
    | refine fk_binI (fk_f_X9_dueFor _ _ _ _ _) (by assumption) (fun _ _ _ => ?_))
theorem fk_X9_dueAnew_L8  : ∀ (m : Nat) (u0 : Nat) (u1 : Int32) (u2 : Int32) (u3 : Int32) (u4 : KH), FW u4 (X9_dueAnew_L8  m u0 u1 u2 u3 u4) := by
  intro m
  induction m with
  | zero => intro u0 u1 u2 u3 u4; exact fk_none
  | succ m ih => intro u0 u1 u2 u3 u4; exact fk_X9_dueAnew_b8 (X9_dueAnew_L8  m) ih u0 u1 u2 u3 u4
theorem fk_f_X9_dueAnew  (p0 : Nat) (p1 : Int32) (h : KH) : FW h (f_X9_dueAnew p0 p1 h) := by
  unfold f_X9_dueAnew
  have q0 : FK h h := FK.rf h
  repeat' with_reducible (first
    | exact fk_ret (by assumption)
    | exact fk_retZ (by assumption)
    | exact fk_retC (by assumption)
    | exact fk_thr (by assumption)
    | exact fk_none
    | exact fk_go (fk_f_X9_requireDriver _ _) (by assumption)
    | exact fk_go (fk_X9_dueAnew_L8 _ _ _ _ _ _) (by assumption)
    | refine fk_gI (fun _ => ?_)
    | refine fk_gR (fun _ => ?_)
    | refine fk_gN (fun _ => ?_)
    | refine fk_gAI (fun _ => ?_)
    | refine fk_gAL (fun _ => ?_)
    | refine fk_gAN (fun _ => ?_)
    | refine fk_kif ?_ ?_
    | refine fk_nul ?_ (fun _ => ?_)
    | refine fk_may (fun _ => ?_)
    | refine fk_kdv ?_
    | refine fk_pI (by assumption) (by decide) (fun _ _ => ?_)
    | refine fk_pR (by assumption) (fun _ _ => ?_)
    | refine fk_pAI (by assumption) (by decide) (fun _ _ => ?_)
    | refine fk_pAZ (by assumption) (by decide) (fun _ _ => ?_)
    | refine fk_pAL (by assumption) (fun _ _ => ?_)
    | refine fk_pAN (by assumption) (fun _ _ => ?_)
    | refine fk_nw (by assumption) (by decide) (fun _ _ _ => ?_)
    | refine fk_nwM (by assumption) (fun _ _ _ => ?_)
    | refine fk_callV (fk_f_X9_requireDriver _ _) (by assumption) (fun _ _ _ => ?_)
    | refine fk_bind (fk_f_X9_requireDriver _ _) (by assumption) (fun _ _ _ => ?_)
    | refine fk_binI (fk_f_X9_requireDriver _ _) (by assumption) (fun _ _ _ => ?_)
    | refine fk_callV (fk_X9_dueAnew_L8 _ _ _ _ _ _) (by assumption) (fun _ _ _ => ?_)
    | refine fk_bind (fk_X9_dueAnew_L8 _ _ _ _ _ _) (by assumption) (fun _ _ _ => ?_)
    | refine fk_binI (fk_X9_dueAnew_L8 _ _ _ _ _ _) (by assumption) (fun _ _ _ => ?_))
theorem fk_X9_settle_b69 (rc4 : Nat → Int64 → Int32 → KH → KO Int32) (hr4 : ∀ (u0 : Nat) (u1 : Int64) (u2 : Int32) (u3 : KH), FW u3 (rc4 u0 u1 u2 u3)) (v0 : Nat) (v1 : Int64) (v3 : Int32) (h : KH) : FW h (X9_settle_b69 rc4 v0 v1 v3 h) := by
  unfold X9_settle_b69
  have q0 : FK h h := FK.rf h
  repeat' with_reducible (first
    | exact fk_ret (by assumption)
    | exact fk_retZ (by assumption)
    | exact fk_retC (by assumption)
    | exact fk_thr (by assumption)
    | exact fk_none
    | exact fk_go (hr4 _ _ _ _) (by assumption)
    | refine fk_gI (fun _ => ?_)
    | refine fk_gR (fun _ => ?_)
    | refine fk_gN (fun _ => ?_)
    | refine fk_gAI (fun _ => ?_)
    | refine fk_gAL (fun _ => ?_)
    | refine fk_gAN (fun _ => ?_)
    | refine fk_kif ?_ ?_
    | refine fk_nul ?_ (fun _ => ?_)
    | refine fk_may (fun _ => ?_)
    | refine fk_kdv ?_
    | refine fk_pI (by assumption) (by decide) (fun _ _ => ?_)
    | refine fk_pR (by assumption) (fun _ _ => ?_)
    | refine fk_pAI (by assumption) (by decide) (fun _ _ => ?_)
    | refine fk_pAZ (by assumption) (by decide) (fun _ _ => ?_)
    | refine fk_pAL (by assumption) (fun _ _ => ?_)
    | refine fk_pAN (by assumption) (fun _ _ => ?_)
    | refine fk_nw (by assumption) (by decide) (fun _ _ _ => ?_)
    | refine fk_nwM (by assumption) (fun _ _ _ => ?_)
    | refine fk_callV (hr4 _ _ _ _) (by assumption) (fun _ _ _ => ?_)
    | refine fk_bind (hr4 _ _ _ _) (by assumption) (fun _ _ _ => ?_)
    | refine fk_binI (hr4 _ _ _ _) (by assumption) (fun _ _ _ => ?_))
theorem fk_X9_settle_b4 (rc4 : Nat → Int64 → Int32 → KH → KO Int32) (hr4 : ∀ (u0 : Nat) (u1 : Int64) (u2 : Int32) (u3 : KH), FW u3 (rc4 u0 u1 u2 u3)) (v0 : Nat) (v1 : Int64) (v3 : Int32) (h : KH) : FW h (X9_settle_b4 rc4 v0 v1 v3 h) := by
  unfold X9_settle_b4
  have q0 : FK h h := FK.rf h
  repeat' with_reducible (first
    | exact fk_ret (by assumption)
    | exact fk_retZ (by assumption)
    | exact fk_retC (by assumption)
    | exact fk_thr (by assumption)
    | exact fk_none
    | exact fk_go (hr4 _ _ _ _) (by assumption)
    | exact fk_go (fk_f_X9_dueByKept _ _ _) (by assumption)
    | exact fk_go (fk_X9_settle_b69 _ (by assumption) _ _ _ _) (by assumption)
    | refine fk_gI (fun _ => ?_)
    | refine fk_gR (fun _ => ?_)
    | refine fk_gN (fun _ => ?_)
    | refine fk_gAI (fun _ => ?_)
    | refine fk_gAL (fun _ => ?_)
    | refine fk_gAN (fun _ => ?_)
    | refine fk_kif ?_ ?_
    | refine fk_nul ?_ (fun _ => ?_)
    | refine fk_may (fun _ => ?_)
    | refine fk_kdv ?_
    | refine fk_pI (by assumption) (by decide) (fun _ _ => ?_)
    | refine fk_pR (by assumption) (fun _ _ => ?_)
    | refine fk_pAI (by assumption) (by decide) (fun _ _ => ?_)
    | refine fk_pAZ (by assumption) (by decide) (fun _ _ => ?_)
    | refine fk_pAL (by assumption) (fun _ _ => ?_)
    | refine fk_pAN (by assumption) (fun _ _ => ?_)
    | refine fk_nw (by assumption) (by decide) (fun _ _ _ => ?_)
    | refine fk_nwM (by assumption) (fun _ _ _ => ?_)
    | refine fk_callV (hr4 _ _ _ _) (by assumption) (fun _ _ _ => ?_)
    | refine fk_bind (hr4 _ _ _ _) (by assumption) (fun _ _ _ => ?_)
    | refine fk_binI (hr4 _ _ _ _) (by assumption) (fun _ _ _ => ?_)
    | refine fk_callV (fk_f_X9_dueByKept _ _ _) (by assumption) (fun _ _ _ => ?_)
    | refine fk_bind (fk_f_X9_dueByKept _ _ _) (by assumption) (fun _ _ _ => ?_)
    | refine fk_binI (fk_f_X9_dueByKept _ _ _) (by assumption) (fun _ _ _ => ?_)
    | refine fk_callV (fk_X9_settle_b69 _ (by assumption) _ _ _ _) (by assumption) (fun _ _ _ => ?_)
    | refine fk_bind (fk_X9_settle_b69 _ (by assumption) _ _ _ _) (by assumption) (fun _ _ _ => ?_)
    | refine fk_binI (fk_X9_settle_b69 _ (by assumption) _ _ _ _) (by assumption) (fun _ _ _ => ?_))
theorem fk_X9_settle_L4  : ∀ (m : Nat) (u0 : Nat) (u1 : Int64) (u2 : Int32) (u3 : KH), FW u3 (X9_settle_L4  m u0 u1 u2 u3) := by
  intro m
  induction m with
  | zero => intro u0 u1 u2 u3; exact fk_none
  | succ m ih => intro u0 u1 u2 u3; exact fk_X9_settle_b4 (X9_settle_L4  m) ih u0 u1 u2 u3
theorem fk_f_X9_settle  (p0 : Nat) (h : KH) : FW h (f_X9_settle p0 h) := by
  unfold f_X9_settle
  have q0 : FK h h := FK.rf h
  repeat' with_reducible (first
    | exact fk_ret (by assumption)
    | exact fk_retZ (by assumption)
    | exact fk_retC (by assumption)
    | exact fk_thr (by assumption)
    | exact fk_none
    | exact fk_go (fk_X9_settle_L4 _ _ _ _ _) (by assumption)
    | refine fk_gI (fun _ => ?_)
    | refine fk_gR (fun _ => ?_)
    | refine fk_gN (fun _ => ?_)
    | refine fk_gAI (fun _ => ?_)
    | refine fk_gAL (fun _ => ?_)
    | refine fk_gAN (fun _ => ?_)
    | refine fk_kif ?_ ?_
    | refine fk_nul ?_ (fun _ => ?_)
    | refine fk_may (fun _ => ?_)
    | refine fk_kdv ?_
    | refine fk_pI (by assumption) (by decide) (fun _ _ => ?_)
    | refine fk_pR (by assumption) (fun _ _ => ?_)
    | refine fk_pAI (by assumption) (by decide) (fun _ _ => ?_)
    | refine fk_pAZ (by assumption) (by decide) (fun _ _ => ?_)
    | refine fk_pAL (by assumption) (fun _ _ => ?_)
    | refine fk_pAN (by assumption) (fun _ _ => ?_)
    | refine fk_nw (by assumption) (by decide) (fun _ _ _ => ?_)
    | refine fk_nwM (by assumption) (fun _ _ _ => ?_)
    | refine fk_callV (fk_X9_settle_L4 _ _ _ _ _) (by assumption) (fun _ _ _ => ?_)
    | refine fk_bind (fk_X9_settle_L4 _ _ _ _ _) (by assumption) (fun _ _ _ => ?_)
    | refine fk_binI (fk_X9_settle_L4 _ _ _ _ _) (by assumption) (fun _ _ _ => ?_))
theorem fk_f_X9_billed  (p0 : Nat) (p1 : Int32) (h : KH) : FW h (f_X9_billed p0 p1 h) := by
  unfold f_X9_billed
  have q0 : FK h h := FK.rf h
  repeat' with_reducible (first
    | exact fk_ret (by assumption)
    | exact fk_retZ (by assumption)
    | exact fk_retC (by assumption)
    | exact fk_thr (by assumption)
    | exact fk_none
    | exact fk_go (fk_f_X9_requireDriver _ _) (by assumption)
    | refine fk_gI (fun _ => ?_)
    | refine fk_gR (fun _ => ?_)
    | refine fk_gN (fun _ => ?_)
    | refine fk_gAI (fun _ => ?_)
    | refine fk_gAL (fun _ => ?_)
    | refine fk_gAN (fun _ => ?_)
    | refine fk_kif ?_ ?_
    | refine fk_nul ?_ (fun _ => ?_)
    | refine fk_may (fun _ => ?_)
    | refine fk_kdv ?_
    | refine fk_pI (by assumption) (by decide) (fun _ _ => ?_)
    | refine fk_pR (by assumption) (fun _ _ => ?_)
    | refine fk_pAI (by assumption) (by decide) (fun _ _ => ?_)
    | refine fk_pAZ (by assumption) (by decide) (fun _ _ => ?_)
    | refine fk_pAL (by assumption) (fun _ _ => ?_)
    | refine fk_pAN (by assumption) (fun _ _ => ?_)
    | refine fk_nw (by assumption) (by decide) (fun _ _ _ => ?_)
    | refine fk_nwM (by assumption) (fun _ _ _ => ?_)
    | refine fk_callV (fk_f_X9_requireDriver _ _) (by assumption) (fun _ _ _ => ?_)
    | refine fk_bind (fk_f_X9_requireDriver _ _) (by assumption) (fun _ _ _ => ?_)
    | refine fk_binI (fk_f_X9_requireDriver _ _) (by assumption) (fun _ _ _ => ?_))
theorem fk_f_X9_paidBack  (p0 : Nat) (p1 : Int32) (h : KH) : FW h (f_X9_paidBack p0 p1 h) := by
  unfold f_X9_paidBack
  have q0 : FK h h := FK.rf h
  repeat' with_reducible (first
    | exact fk_ret (by assumption)
    | exact fk_retZ (by assumption)
    | exact fk_retC (by assumption)
    | exact fk_thr (by assumption)
    | exact fk_none
    | exact fk_go (fk_f_X9_requireDriver _ _) (by assumption)
    | refine fk_gI (fun _ => ?_)
    | refine fk_gR (fun _ => ?_)
    | refine fk_gN (fun _ => ?_)
    | refine fk_gAI (fun _ => ?_)
    | refine fk_gAL (fun _ => ?_)
    | refine fk_gAN (fun _ => ?_)
    | refine fk_kif ?_ ?_
    | refine fk_nul ?_ (fun _ => ?_)
    | refine fk_may (fun _ => ?_)
    | refine fk_kdv ?_
    | refine fk_pI (by assumption) (by decide) (fun _ _ => ?_)
    | refine fk_pR (by assumption) (fun _ _ => ?_)
    | refine fk_pAI (by assumption) (by decide) (fun _ _ => ?_)
    | refine fk_pAZ (by assumption) (by decide) (fun _ _ => ?_)
    | refine fk_pAL (by assumption) (fun _ _ => ?_)
    | refine fk_pAN (by assumption) (fun _ _ => ?_)
    | refine fk_nw (by assumption) (by decide) (fun _ _ _ => ?_)
    | refine fk_nwM (by assumption) (fun _ _ _ => ?_)
    | refine fk_callV (fk_f_X9_requireDriver _ _) (by assumption) (fun _ _ _ => ?_)
    | refine fk_bind (fk_f_X9_requireDriver _ _) (by assumption) (fun _ _ _ => ?_)
    | refine fk_binI (fk_f_X9_requireDriver _ _) (by assumption) (fun _ _ _ => ?_))
/-- what was free between 640 and 1000 is free behind an operation -/
def FF (h h1 : KH) : Prop := ∀ a, 640 ≤ a → a < 1000 → kd h a = 0 → kd h1 a = 0
theorem FF.rf (h : KH) : FF h h := fun _ _ _ q => q
theorem FF.X (h : KH) (n : Nat) : FF h (sX h n) := fun _ _ _ q => q
theorem FF.trans {h h1 h2 : KH} (a : FF h h1) (b : FF h1 h2) : FF h h2 := fun i q1 q2 q3 => b i q1 q2 (a i q1 q2 q3)
theorem fresh_of {j n : Nat} {h g hm : KH} (f : FK (sX h n) g) (hn : n ≤ 507 ∨ 1000 ≤ n) (R : RR j g hm) (hw : mn hm 0 27 ≤ 7) : FF h g := by
  intro a h1 h2 h3
  have e : kx (sX h n) = n := rfl
  by_cases c : kd g a = 0
  · exact c
  · have h4 := f.2.2.2 a h3 c
    rw [e] at h4
    have h5 := R.2.2.2.2.2.2.2.2.2.2.2.2.2.2.2.2 507 (by omega)
    exact absurd h5 (f.2.2.1 507 (by rw [e]; omega) (by omega))
