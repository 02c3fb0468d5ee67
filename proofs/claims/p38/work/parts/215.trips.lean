/-! the trips' check: the row, passing by passing -/
section TRIPS
variable {j : Nat} {h hm : KH}
/-- the way of a trip so far, and two -/
def wT (g : KH) (l : List Nat) : Nat → Nat
  | 0 => 2
  | i + 1 => if sBegAt g l i = true then 2 else wT g l i + mn g 2 (8 * mn g 12 (l.getD (i - 1) 0) + mn g 12 (l.getD i 0))
theorem wT_wS {g : KH} {l : List Nat} {e : Nat} (he : e ≤ l.length) (hend : e = l.length ∨ sBegAt g l e = true) : ∀ (m i n : Nat), i + m = e → m ≤ n → (∀ q, i ≤ q → q < e → sBegAt g l q = false) → wT g l i + wS g l n i = wT g l e := by
  intro m
  induction m with
  | zero =>
    intro i n h1 h2 h3
    obtain rfl : i = e := by omega
    have : wS g l n i = 0 := by
      cases n with
      | zero => rfl
      | succ n =>
        unfold wS
        rw [if_neg]
        rintro ⟨q1, q2⟩
        rcases hend with q | q
        · omega
        · rw [q] at q2; cases q2
    omega
  | succ m ih =>
    intro i n h1 h2 h3
    cases n with
    | zero => omega
    | succ n =>
      have hb := h3 i (Nat.le_refl _) (by omega)
      have e1 : wS g l (n + 1) i = mn g 2 (8 * mn g 12 (l.getD (i - 1) 0) + mn g 12 (l.getD i 0)) + wS g l n (i + 1) := if_pos ⟨by omega, hb⟩
      have e2 : wT g l (i + 1) = wT g l i + mn g 2 (8 * mn g 12 (l.getD (i - 1) 0) + mn g 12 (l.getD i 0)) := if_neg (by rw [hb]; decide)
      have := ih (i + 1) n (by omega) (by omega) (fun q q1 q2 => h3 q (by omega) q2)
      omega
theorem lastB (g : KH) (l : List Nat) : ∀ i, ∃ k, k < i + 1 ∧ sBegAt g l k = true ∧ (∀ q, k < q → q < i + 1 → sBegAt g l q = false) ∧ cB g l (i + 1) = cB g l k + 1 := by
  intro i
  induction i with
  | zero => exact ⟨0, by omega, rfl, fun q q1 q2 => by omega, rfl⟩
  | succ i ih =>
    cases hb : sBegAt g l (i + 1) with
    | true => exact ⟨i + 1, by omega, hb, fun q q1 q2 => by omega, by
        show cB g l (i + 1) + (if sBegAt g l (i + 1) = true then 1 else 0) = _
        rw [if_pos hb]⟩
    | false =>
      obtain ⟨k, k1, k2, k3, k4⟩ := ih
      refine ⟨k, by omega, k2, fun q q1 q2 => ?_, ?_⟩
      · by_cases e : q = i + 1
        · rw [e]; exact hb
        · exact k3 q q1 (by omega)
      · show cB g l (i + 1) + (if sBegAt g l (i + 1) = true then 1 else 0) = _
        rw [if_neg (by rw [hb]; decide), k4]
def RM (hm : KH) : Prop := ∀ r, r < mn hm 0 16 → mn hm 13 r ≤ mn hm 0 0
theorem law_trips253 (R : RR j h hm) (hj : j < 512) (T : TT h hm) {p : Nat} (hp : p < mn hm 0 8) {l : List Nat} (el : rwL hm (some p) = l) (rc : Nat → Nat → Nat → Nat → Nat → Int32 → Int32 → Int32 → Int32 → Int32 → Int32 → KH → KO Int32) {i : Nat} (hi : i ≤ l.length) (v10 v11 v12 s0 : Int32) (m : Nat) (hs : s0 = 0 ∨ s0 = 1 ∧ (i = l.length ∨ sBegAt hm l i = true)) : ∃ m', L_areTrips_b253 rc 0 44 45 47 49 (nI p) (nI (cB hm l i)) (nI (wT hm l i)) 1 v10 v11 v12 s0 (sX h m) = L_areTrips_b295 rc 0 44 45 47 49 (nI p) (nI (cB hm l i)) (nI (wT hm l i)) 1 v10 v11 v12 s0 (sX h m') := by
  have RX := R.X 0
  have S := RX.1.1
  have TX := T.X 0
  have N := R.NX hj
  have hP := R.P
  obtain ⟨P, W, L, B⟩ := RX.rw hj hp
  rw [el] at W L
  have hlen := W.1
  unfold L_areTrips_b253
  rcases hs with e | ⟨e, hend⟩
  · rw [kif_t e]
    exact ⟨m, rfl⟩
  · rw [kif_f (by rw [e]; decide)]
    have hcb := cB_le hm l i
    by_cases h0 : i = 0
    · subst h0
      rw [kif_t (by exact (show nI 0 ≤ 0 by decide))]
      exact ⟨m, rfl⟩
    · obtain ⟨i', rfl⟩ : ∃ i', i = i' + 1 := ⟨i - 1, by omega⟩
      obtain ⟨k, k1, k2, k3, k4⟩ := lastB hm l i'
      have hw := wT_wS (g := hm) (l := l) hi hend (i' - k) (k + 1) 60 (by omega) (by omega) (fun q q1 q2 => k3 q (by omega) q2)
      have ew : wT hm l (k + 1) = 2 := if_pos k2
      have ht := rd_tollZ RX hj hp (k := k) (by rw [el]; omega) (by rw [el]; exact k2)
      rw [el] at ht
      obtain ⟨k8, k8'⟩ := N.2.2.2.2.1 p hp
      rw [kif_f (by rw [show (0 : Int32) = nI 0 from rfl, ka_le (by omega) (by omega)]; omega), sX_X, kV_k S.d0, ka_pred (by omega), k4, show cB hm l k + 1 - 1 = cB hm l k by omega, ht, kb_ret, gAI_k TX.1.2.2.2.1.1 (by rw [TX.1.2.2.2.1.2]; omega) (by omega), TX.2.2.2.1 p hp, k8', gAI_k TX.1.2.2.2.2.2.2.2.1 (by rw [TX.1.2.2.2.2.2.2.2.2]; omega) (by omega), TX.2.2.2.2.2.2.2 _ k8, (N.2.2.2.1 _ k8).2, ka_mul, kif_t (by unfold tolF; rw [← hw, ew, Nat.add_comm 2])]
      unfold L_areTrips_b293
      exact ⟨0, rfl⟩
theorem law_trips219 (R : RR j h hm) (hj : j < 512) (T : TT h hm) (rc : Nat → Nat → Nat → Nat → Nat → Int32 → Int32 → Int32 → Int32 → Int32 → Int32 → KH → KO Int32) {a c : Nat} (ha : a < mn hm 0 16) (hc : c < mn hm 0 16) (hac : mn hm 13 a ≤ mn hm 13 c) (v5 v6 v7 v9 v10 v11 : Int32) : L_areTrips_b219 rc 0 44 45 47 49 v5 v6 v7 v9 v10 v11 (kI hm 2 (8 * mn hm 12 a + mn hm 12 c)) (nI (mn hm 13 c) - nI (mn hm 13 a)) h = L_areTrips_b253 rc 0 44 45 47 49 v5 v6 v7 v9 v10 v11 (kI hm 2 (8 * mn hm 12 a + mn hm 12 c)) (if sBeg hm a c = true then 1 else 0) h := by
  have N := R.NX hj
  have M := R.MX
  have hm13 : ∀ r, r < mn hm 0 16 → mn hm 13 r ≤ 50000 := fun r hr => (M.2.2.2.2.1 r hr).2.1.1
  have h1 := hm13 a ha
  have h2 := hm13 c hc
  obtain ⟨g1, g2, -, -⟩ := N.dist ha hc
  obtain ⟨hp, hp'⟩ := N.2.2.1
  obtain ⟨k47, n47⟩ := T.1.2.2.2.2.2.1
  rw [ka_sub hac]
  unfold L_areTrips_b219 sBeg
  rcases N.2.1 _ _ g1 g2 with w | ⟨d, hd, w⟩
  · rw [w, kif_t (by decide), if_pos (by simp)]
    rfl
  · have wd := mn_of w (show d < 2147483648 by omega)
    rw [w, wd, kif_f (by rw [ka_neg (by omega)]; exact fun z => z), show (1 : Int32) = nI 1 from rfl, gAI_k k47 (by omega) (by omega), T.2.2.2.2.2.1.2.1, hp', show (2 : Int32) * nI d = nI (2 * d) from ka_mul 2 d, ka_add, show (4 : Int32) * nI (mn hm 13 c - mn hm 13 a) = nI (4 * (mn hm 13 c - mn hm 13 a)) from ka_mul 4 _]
    have hn1 : ¬ nI d = -1 := by rw [ka_n1 (by omega)]; exact fun z => z
    by_cases c1 : 2 * d + mn hm 0 1 < mn hm 13 c - mn hm 13 a
    · rw [kif_t (by rw [ka_lt (by omega) (by omega)]; exact c1), if_pos (by simp [c1])]
      rfl
    · rw [kif_f (by rw [ka_lt (by omega) (by omega)]; exact c1)]
      by_cases c2 : d ≤ 4 * (mn hm 13 c - mn hm 13 a)
      · rw [kif_t (by rw [ka_le (by omega) (by omega)]; exact c2), if_neg (by simp only [Bool.or_eq_true, decide_eq_true_iff, not_or]; exact ⟨⟨hn1, c1⟩, by omega⟩)]
      · rw [kif_f (by rw [ka_le (by omega) (by omega)]; exact c2), if_pos (by simp only [Bool.or_eq_true, decide_eq_true_iff]; exact Or.inr (by omega))]
        rfl
theorem law_asks5 (R : RR j h hm) (hj : j < 512) {p : Nat} (hp : p < mn hm 0 8) : f_L_asks 0 5 (nI p) (nI (cB hm (rwL hm (some p)) (rwL hm (some p)).length)) h = kret (-107) (sX h 0) := by
  have RX := R.X 0
  have S := RX.1.1
  unfold f_L_asks
  rw [kif_f (by decide), kif_f (by decide), kif_f (by decide), kif_f (by decide), kif_f (by decide)]
  unfold kcatchV
  rw [if_pos S.d0, rd_tollNo RX hj hp]
  rfl
theorem law_tripsL (R : RR j h hm) (hj : j < 512) (T : TT h hm) (Q : RM hm) (hw : mn hm 0 27 ≤ 7) {p : Nat} (hp : p < mn hm 0 8) {l : List Nat} (el : rwL hm (some p) = l) : ∀ (f i m : Nat), i ≤ l.length → l.length < i + f → ∃ h1, L_areTrips_L15 f 0 44 45 47 49 (nI p) (nI (cB hm l i)) (nI (wT hm l i)) (cOf (pvo l i)) 1 (nI i) (sX h m) = kret 1 h1 ∧ RR j h1 hm ∧ FL h h1 ∧ FF h h1 := by
  have RX := R.X 0
  have S := RX.1.1
  have M := R.MX
  have N := R.NX hj
  have hP := R.P
  have hR := M.2.2.1.1
  obtain ⟨P, W, L, B⟩ := RX.rw hj hp
  rw [el] at W L B
  have hlen := W.1
  have hlR := L.len'
  have hsr : sRw hm (some p) l := by rw [← el]; exact rwL_s hm (some p)
  intro f
  induction f with
  | zero => intro i m h1 h2; omega
  | succ f ih =>
    intro i m h1 h2
    have TX := fun m => T.X m
    have e3 : ∀ m, kI (sX h m) 47 3 = nI (mn hm 0 16) := fun m => by
      rw [(TX m).2.2.2.2.2.1.2.2.2]
      exact M.2.2.1.2
    have cbi := cB_le hm l i
    unfold L_areTrips_L15 L_areTrips_b15
    rw [show (3 : Int32) = nI 3 from rfl, gAI_k (TX m).1.2.2.2.2.2.1.1 (by rw [(TX m).1.2.2.2.2.2.1.2]; omega) (by omega), e3, kif_f (by rw [ka_lt (by omega) (by omega)]; omega), kif_f (by decide)]
    obtain ⟨f', o', m1, ho, e1⟩ := law_nextL R T hp (la := pvo l i) (fun q e => by
      cases i with
      | zero => cases e
      | succ i => cases e; exact L.1 _ (by omega)) (L_areTrips_L15 f) (nI (cB hm l i)) (nI (wT hm l i)) (nI i) kF 0 m none (by omega) (by unfold kF; omega) (fun c hc => by omega)
    rw [show (-1 : Int32) = cOf none from rfl, show L_areTrips_L34 (L_areTrips_L15 f) kF 0 44 45 47 49 (nI p) (nI (cB hm l i)) (nI (wT hm l i)) (cOf (pvo l i)) 1 (nI i) (cOf none) 0 (sX h m) = _ from e1, nxO_row hsr h1 ho]
    -- behind the check of the toll: another passing
    have next : ∀ (hil : i < l.length) (v12 : Int32) m, (sBegAt hm l i = false → v12 = nI (mn hm 2 (8 * mn hm 12 (l.getD (i - 1) 0) + mn hm 12 (l.getD i 0)))) → ∃ h1, L_areTrips_b295 (L_areTrips_L15 f) 0 44 45 47 49 (nI p) (nI (cB hm l i)) (nI (wT hm l i)) 1 (nI i) (nI (l.getD i 0)) v12 (if sBegAt hm l i = true then 1 else 0) (sX h m) = kret 1 h1 ∧ RR j h1 hm ∧ FL h h1 ∧ FF h h1 := fun hil v12 m hv => by
      have hc := L.1 i hil
      have hto := rd_tripOf RX hj hp (i := i) (by rw [el]; exact hil)
      rw [el] at hto
      have hcp := cB_pos hm l i
      have hcl := cB_le hm l (i + 1)
      have hgo := ih (i + 1) 0 (by omega) (by omega)
      unfold L_areTrips_b295
      rw [kif_t (by rw [show (0 : Int32) = nI 0 from rfl, ka_le (by omega) (by omega)]; omega)]
      have esc : cB hm l (i + 1) = cB hm l i + if sBegAt hm l i = true then 1 else 0 := rfl
      cases hb : sBegAt hm l i with
      | false =>
        rw [hb] at esc
        have ew : wT hm l (i + 1) = wT hm l i + mn hm 2 (8 * mn hm 12 (l.getD (i - 1) 0) + mn hm 12 (l.getD i 0)) := if_neg (by rw [hb]; decide)
        rw [if_neg (by decide), kif_t rfl]
        unfold L_areTrips_b359
        rw [kif_t rfl, hv hb, ka_add, ← ew]
        unfold L_areTrips_b376
        rw [kif_f (by decide), sX_X, kV_k S.d0, hto, kb_ret, show (0 : Int32) = nI 0 from rfl, ka_add, show cB hm l i + 0 = cB hm l (i + 1) by rw [esc]; rfl, kif_t (by rw [ka_pred (by omega)]), kif_t rfl]
        unfold L_areTrips_b426 L_areTrips_b431
        rw [nI_1]
        exact hgo
      | true =>
        rw [hb] at esc
        have ew : wT hm l (i + 1) = 2 := if_pos hb
        rw [if_pos rfl, kif_f (by decide)]
        unfold L_areTrips_b359
        rw [kif_f (by decide)]
        unfold L_areTrips_b376
        obtain ⟨n, n1, n2, n3⟩ := rd_driverOf RX hj
        obtain ⟨n', n1', n2', -, n3'⟩ := rd_holder RX hj
        obtain rfl : n = n' := nI_inj (n2.symm.trans n2') (by omega) (by omega)
        have hdr := n3 p i hp (by rw [el]; exact hil) (by rw [el]; exact hb)
        rw [el] at hdr
        rw [kif_f (by decide), sX_X, kV_k S.d0, hto, kb_ret, show (1 : Int32) = nI 1 from rfl, ka_add, show cB hm l i + 1 = cB hm l (i + 1) by rw [esc]; rfl, kif_t (by rw [ka_sub (by omega)]), kif_f (by decide), sX_X, kV_k S.d0, ka_sub (by omega), show cB hm l (i + 1) - 1 = cB hm l i by rw [esc]; rfl, hdr, kb_ret, law_minute M (TX 0) hc, kb_ret, sX_X, kV_k S.d0, n3' p _ hp (Q _ hc), kb_ret, kif_t rfl]
        unfold L_areTrips_b426 L_areTrips_b431
        rw [show (2 : Int32) = nI (wT hm l (i + 1)) by rw [ew]; rfl, nI_1]
        exact hgo
    -- the end
    have fin : ∀ (hil : i = l.length) (v12 : Int32) m, ∃ h1, L_areTrips_b295 (L_areTrips_L15 f) 0 44 45 47 49 (nI p) (nI (cB hm l i)) (nI (wT hm l i)) 1 (nI i) (-1) v12 1 (sX h m) = kret 1 h1 ∧ RR j h1 hm ∧ FL h h1 ∧ FF h h1 := fun hil v12 m => by
      have ht := rd_trips RX hj hp
      obtain ⟨h1, a1, a2, a3, a5⟩ := rd_tripsAnew R hj hp
      have a4 := law_asks5 a2 hj hp
      rw [el] at ht a1 a4
      refine ⟨sX h1 0, ?_, a2.X 0, a3.trans (FL.X h1 0), (fresh_of a5 (Or.inl (by omega)) a2 hw).trans (FF.X h1 0)⟩
      unfold L_areTrips_b295
      rw [kif_f (by decide), kif_f (by decide), sX_X, kV_k S.d0, ht, kb_ret, hil, kif_t rfl, sX_X, kV_k S.d0, a1, kb_ret, kif_t rfl, a4, kb_ret, kif_t rfl]
      rfl
    have h0 : ∀ v : Int32, (if (true : Bool) = true then (1 : Int32) else 0) = 1 := fun _ => rfl
    unfold L_areTrips_b34
    rw [show (3 : Int32) = nI 3 from rfl, gAI_k (TX m1).1.2.2.2.2.2.1.1 (by rw [(TX m1).1.2.2.2.2.2.1.2]; omega) (by omega), e3, kif_t (by rw [ka_le (by omega) (by omega)]; omega)]
    by_cases hil : i < l.length
    · have elst : lst l i = some (l.getD i 0) := if_pos hil
      have hc := L.1 i hil
      rw [elst, show cOf (some (l.getD i 0)) = nI (l.getD i 0) from rfl]
      cases i with
      | zero =>
        rw [kif_t (show cOf (pvo l 0) < 0 from (by decide : cOf none < 0))]
        unfold L_areTrips_b164 L_areTrips_b190
        rw [kif_t (show cOf (pvo l 0) < 0 from (by decide : cOf none < 0))]
        unfold L_areTrips_b202 L_areTrips_b219
        rw [kif_t (by decide)]
        unfold L_areTrips_b248
        obtain ⟨m2, e2⟩ := law_trips253 R hj T hp el (L_areTrips_L15 f) h1 (nI 0) (nI (l.getD 0 0)) (-1) 1 m1 (Or.inr ⟨rfl, Or.inr rfl⟩)
        rw [e2]
        exact next hil (-1) m2 (fun z => by cases z)
      | succ i =>
        have ha := L.1 i (by omega)
        have hac : mn hm 13 (l.getD i 0) ≤ mn hm 13 (l.getD (i + 1) 0) := by
          have := L.2 i (i + 1) (by omega) hil
          unfold sBef at this
          omega
        obtain ⟨g1, g2, -, -⟩ := N.dist ha hc
        obtain ⟨k44, n44⟩ := (TX m1).1.2.2.1
        rw [show cOf (pvo l (i + 1)) = nI (l.getD i 0) from rfl, kif_f (by rw [ka_neg (by omega)]; exact fun z => z), kif_t (by rw [show (0 : Int32) = nI 0 from rfl, ka_le (by omega) (by omega)]; omega), show nI 3 = (3 : Int32) from rfl, gAI_k k44 (by omega) (by omega), ((TX m1).2.2.1 _ ha).2, M.rbGate ha, kb_ret, gAI_k k44 (by omega) (by omega), ((TX m1).2.2.1 _ hc).2, M.rbGate hc, kb_ret, sX_X, kV_k S.d0, rd_distance RX g1 g2, kb_ret]
        unfold L_areTrips_b190
        rw [kif_f (by rw [ka_neg (by omega)]; exact fun z => z), kif_t (by rw [show (0 : Int32) = nI 0 from rfl, ka_le (by omega) (by omega)]; omega), law_minute M (TX 0) hc, kb_ret, law_minute M (TX 0) ha, kb_ret, law_trips219 RX hj (TX 0) _ ha hc hac]
        have esb : sBegAt hm l (i + 1) = sBeg hm (l.getD i 0) (l.getD (i + 1) 0) := rfl
        rw [← esb]
        obtain ⟨m2, e2⟩ := law_trips253 R hj T hp el (L_areTrips_L15 f) h1 (nI (i + 1)) (nI (l.getD (i + 1) 0)) (kI hm 2 (8 * mn hm 12 (l.getD i 0) + mn hm 12 (l.getD (i + 1) 0))) (if sBegAt hm l (i + 1) = true then 1 else 0) 0 (by
          cases hb : sBegAt hm l (i + 1) with
          | false => exact Or.inl (if_neg (by decide))
          | true => exact Or.inr ⟨if_pos rfl, Or.inr rfl⟩)
        rw [e2]
        exact next hil _ m2 (fun z => sBeg_far N ha hc (by rw [← esb]; exact z))
    · have hie : i = l.length := by omega
      have elst : lst l i = none := if_neg hil
      rw [elst, show cOf none = -1 from rfl]
      have b253 : ∀ m, ∃ h1, L_areTrips_b253 (L_areTrips_L15 f) 0 44 45 47 49 (nI p) (nI (cB hm l i)) (nI (wT hm l i)) 1 (nI i) (-1) (-1) 1 (sX h m) = kret 1 h1 ∧ RR j h1 hm ∧ FL h h1 ∧ FF h h1 := fun m => by
        obtain ⟨m2, e2⟩ := law_trips253 R hj T hp el (L_areTrips_L15 f) h1 (nI i) (-1) (-1) 1 m (Or.inr ⟨rfl, Or.inl hie⟩)
        rw [e2]
        exact fin hie (-1) m2
      have b164 : ∃ h1, L_areTrips_b164 (L_areTrips_L15 f) 0 44 45 47 49 (nI p) (nI (cB hm l i)) (nI (wT hm l i)) (cOf (pvo l i)) 1 (nI i) (-1) (sX h m1) = kret 1 h1 ∧ RR j h1 hm ∧ FL h h1 ∧ FF h h1 := by
        have e202 : L_areTrips_b202 (L_areTrips_L15 f) 0 44 45 47 49 (nI p) (nI (cB hm l i)) (nI (wT hm l i)) 1 (nI i) (-1) (-1) (sX h m1) = L_areTrips_b253 (L_areTrips_L15 f) 0 44 45 47 49 (nI p) (nI (cB hm l i)) (nI (wT hm l i)) 1 (nI i) (-1) (-1) 1 (sX h m1) := by
          unfold L_areTrips_b202 L_areTrips_b219
          rw [kif_t (by decide)]
          rfl
        unfold L_areTrips_b164 L_areTrips_b190
        rw [e202, kif_f (show ¬ (0 : Int32) ≤ -1 by decide)]
        unfold kif
        split
        · exact b253 m1
        · exact b253 m1
      rw [kif_f (show ¬ (0 : Int32) ≤ -1 by decide)]
      unfold kif
      split
      · exact b164
      · exact b164
theorem law_areTrips (R : RR j h hm) (hj : j < 512) (T : TT h hm) (Q : RM hm) (hw : mn hm 0 27 ≤ 7) {p : Nat} (hp : p < mn hm 0 8) : ∃ h1, f_L_areTrips 0 44 45 47 49 (nI p) h = kret 1 h1 ∧ RR j h1 hm ∧ FL h h1 ∧ FF h h1 := by
  have hlen := ((R.X 0).rw hj hp).2.1.1
  unfold f_L_areTrips
  exact law_tripsL R hj T Q hw hp rfl kF 0 (kx h) (by omega) (by unfold kF; omega)
end TRIPS
