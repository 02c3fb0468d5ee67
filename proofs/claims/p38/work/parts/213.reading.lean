/-! a reading's costs, and its plate -/
section READING
variable {j : Nat} {h hm : KH}
theorem MX.rtx15 (M : MX hm) {r : Nat} (hr : r < mn hm 0 16) : ∀ k, k < mn hm 14 r → mn hm 15 (6 * r + k) < 16 := fun k hk => by
  have := ((M.2.2.2.2.1 r hr).2.2.2.2 k hk).1
  omega
theorem MX.rtx_lt (M : MX hm) {r : Nat} (hr : r < mn hm 0 16) : rtx hm r < 117440512 := pkT_lt (M.2.2.2.2.1 r hr).2.2.1.2 (M.rtx15 hr)
theorem MX.rsz (M : MX hm) {r : Nat} (hr : r < mn hm 0 16) (g : KH) : f_L_size (nI (rtx hm r)) g = kret (nI (mn hm 14 r)) g := by
  rw [fl_size (by have := M.rtx_lt hr; omega), show rtx hm r / 16777216 = mn hm 14 r from pkT_size (M.2.2.2.2.1 r hr).2.2.1.2 (M.rtx15 hr)]
theorem MX.rsg (M : MX hm) {r k : Nat} (hr : r < mn hm 0 16) (hk : k < mn hm 14 r) (g : KH) : f_L_sign (nI (rtx hm r)) (nI k) g = kret (nI (mn hm 15 (6 * r + k))) g := by
  have h6 := (M.2.2.2.2.1 r hr).2.2.1.2
  rw [fl_sign (by have := M.rtx_lt hr; omega) (by omega), show rtx hm r / 2 ^ (4 * k) % 16 = mn hm 15 (6 * r + k) from pkT_at h6 (M.rtx15 hr) hk]
theorem law_costNe (M : MX hm) (T : TT h hm) {r p : Nat} (hr : r < mn hm 0 16) (hp : p < mn hm 0 8) (hne : mn hm 14 r ≠ mn hm 6 p) : ∀ (f k : Nat) (v : Int32), k ≤ mn hm 14 r → mn hm 14 r < k + f → L_cost_L5 f 46 (nI (rtx hm r)) (nI (ptx hm p)) v (nI k) h = kret (-1) h := by
  obtain ⟨k46, n46⟩ := T.1.2.2.2.2.1
  have h6 := (M.2.2.2.2.1 r hr).2.2.1.2
  have g6 := (M.2.2.2.1 p hp).1.2
  have fin : ∀ v, L_cost_b85 (nI (rtx hm r)) (nI (ptx hm p)) v h = kret (-1) h := fun v => by
    unfold L_cost_b85
    rw [M.rsz hr, kb_ret, M.psz hp, kb_ret, kif_f (by rw [ka_eq (by omega) (by omega)]; exact hne)]
    rfl
  intro f
  induction f with
  | zero => intro k v h1 h2; omega
  | succ f ih =>
    intro k v h1 h2
    unfold L_cost_L5 L_cost_b5
    rw [M.rsz hr, kb_ret]
    by_cases hk : mn hm 14 r ≤ k
    · rw [kif_t (by rw [ka_le (by omega) (by omega)]; exact hk), fin]
    · rw [kif_f (by rw [ka_le (by omega) (by omega)]; exact hk)]
      have go : ∀ v', L_cost_b78 (L_cost_L5 f) 46 (nI (rtx hm r)) (nI (ptx hm p)) (nI k) v' h = kret (-1) h := fun v' => by
        unfold L_cost_b78
        rw [nI_1]
        exact ih (k + 1) v' (by omega) (by omega)
      have hx := ((M.2.2.2.2.1 r hr).2.2.2.2 k (by omega)).1
      by_cases hv : v < 0
      · rw [kif_t hv, fin]
      · rw [kif_f hv, M.rsg hr (by omega), kb_ret, fl_sign (by have := M.ptx_lt hp; omega) (by omega), kb_ret]
        unfold kif
        split
        · exact go _
        · split
          · exact go _
          · rw [gAI_k k46 (by omega) (by omega)]
            split
            · exact go _
            · exact go _
theorem law_costL (M : MX hm) (T : TT h hm) {r p : Nat} (hr : r < mn hm 0 16) (hp : p < mn hm 0 8) (he : mn hm 14 r = mn hm 6 p) : ∀ (f k : Nat), k ≤ mn hm 14 r → mn hm 14 r < k + f → L_cost_L5 f 46 (nI (rtx hm r)) (nI (ptx hm p)) (cOf (sCst (mn hm) r p k)) (nI k) h = kret (cOf (sCst (mn hm) r p (mn hm 14 r))) h := by
  obtain ⟨k46, n46⟩ := T.1.2.2.2.2.1
  have h6 := (M.2.2.2.2.1 r hr).2.2.1.2
  have fin : ∀ v, L_cost_b85 (nI (rtx hm r)) (nI (ptx hm p)) v h = kret v h := fun v => by
    unfold L_cost_b85
    rw [M.rsz hr, kb_ret, M.psz hp, kb_ret, kif_t (by rw [he])]
    rfl
  intro f
  induction f with
  | zero => intro k h1 h2; omega
  | succ f ih =>
    intro k h1 h2
    unfold L_cost_L5 L_cost_b5
    rw [M.rsz hr, kb_ret]
    by_cases hk : mn hm 14 r ≤ k
    · obtain rfl : k = mn hm 14 r := by omega
      rw [kif_t (by rw [ka_le (by omega) (by omega)]; exact hk), fin]
    · have hkl : k < mn hm 14 r := by omega
      rw [kif_f (by rw [ka_le (by omega) (by omega)]; exact hk)]
      have hx := ((M.2.2.2.2.1 r hr).2.2.2.2 k hkl).1
      have hy := ((M.2.2.2.1 p hp).2.2 k (by omega)).1
      have hst : sCst (mn hm) r p (k + 1) = match sCst (mn hm) r p k, sPart (mn hm) (mn hm 15 (6 * r + k)) (mn hm 7 (6 * p + k)) with
        | some s, some t => some (s + t)
        | _, _ => none := rfl
      cases es : sCst (mn hm) r p k with
      | none =>
        rw [kif_t (show cOf none < 0 by decide), fin, sCst_nn es _ h1]
      | some s =>
        have hs := sCst_le k s es
        have go : ∀ t, sPart (mn hm) (mn hm 15 (6 * r + k)) (mn hm 7 (6 * p + k)) = t → ∀ v, v = cOf (match t with | some t => some (s + t) | none => none) → L_cost_b78 (L_cost_L5 f) 46 (nI (rtx hm r)) (nI (ptx hm p)) (nI k) v h = kret (cOf (sCst (mn hm) r p (mn hm 14 r))) h := fun t et v ev => by
          unfold L_cost_b78
          rw [nI_1]
          have := ih (k + 1) (by omega) (by omega)
          rw [hst, es, et] at this
          rw [ev]
          cases t with
          | none => exact this
          | some t => exact this
        rw [kif_f (by show ¬ nI s < 0; rw [ka_neg (by omega)]; exact fun z => z), M.rsg hr hkl, kb_ret, M.psg hp (by omega), kb_ret]
        by_cases c1 : mn hm 15 (6 * r + k) = mn hm 7 (6 * p + k)
        · rw [kif_t (by rw [c1])]
          exact go (some 0) (by unfold sPart; rw [if_pos c1]) _ rfl
        · rw [kif_f (by rw [ka_eq (by omega) (by omega)]; exact c1)]
          by_cases c2 : mn hm 15 (6 * r + k) = 14
          · rw [kif_t (by rw [c2]; rfl)]
            exact go (some 2) (by unfold sPart; rw [if_neg c1, if_pos c2]) _ (show nI s + 2 = nI (s + 2) from ka_add s 2)
          · obtain ⟨Mk, m1, m2, m3⟩ := T.2.2.2.2.1 _ hx
            rw [kif_f (by rw [show (14 : Int32) = nI 14 from rfl, ka_eq (by omega) (by omega)]; exact c2), gAI_k k46 (by omega) (by omega), m2]
            by_cases c3 : mn hm 5 (15 * mn hm 15 (6 * r + k) + mn hm 7 (6 * p + k)) = 0
            · rw [kif_f (by rw [kb_bit m1 (by omega), m3 _ (by omega)]; exact fun z => z c3)]
              exact go none (by unfold sPart; rw [if_neg c1, if_neg c2, if_pos c3]) _ rfl
            · rw [kif_t (by rw [kb_bit m1 (by omega), m3 _ (by omega)]; exact c3)]
              exact go (some 1) (by unfold sPart; rw [if_neg c1, if_neg c2, if_neg c3]) _ (show nI s + 1 = nI (s + 1) from ka_add s 1)
theorem law_cost (M : MX hm) (T : TT h hm) {r p : Nat} (hr : r < mn hm 0 16) (hp : p < mn hm 0 8) : f_L_cost 46 (nI (rtx hm r)) (nI (ptx hm p)) h = kret (cOf (sCost (mn hm) r p)) h := by
  unfold f_L_cost sCost
  have h6 := (M.2.2.2.2.1 r hr).2.2.1.2
  by_cases he : mn hm 14 r = mn hm 6 p
  · rw [if_pos he]
    exact law_costL M T hr hp he kF 0 (by omega) (by unfold kF; omega)
  · rw [if_neg he]
    exact law_costNe M T hr hp he kF 0 0 (by omega) (by unfold kF; omega)
/-! the best of a row's first -/
theorem bo_none {m : Nat → Nat → Nat} {r i : Nat} {o : List Nat} {b : Option Nat} (e1 : sCost m r (o.getD i 0) = none) (h3 : bestOf m r (fun q => ∃ k, k < i ∧ q = o.getD k 0) b) : bestOf m r (fun q => ∃ k, k < i + 1 ∧ q = o.getD k 0) b := by
  cases b with
  | none =>
    rintro q ⟨k, hk, rfl⟩
    by_cases hki : k = i
    · rw [hki]; exact e1
    · exact h3 _ ⟨k, by omega, rfl⟩
  | some b =>
    obtain ⟨⟨k0, hk0, hb0⟩, cb, s2, s3⟩ := h3
    refine ⟨⟨k0, by omega, hb0⟩, cb, s2, ?_⟩
    rintro q c ⟨k, hk, rfl⟩ hc
    by_cases hki : k = i
    · rw [hki, e1] at hc; cases hc
    · exact s3 _ c ⟨k, by omega, rfl⟩ hc
theorem bo_first {m : Nat → Nat → Nat} {r i c : Nat} {o : List Nat} (e1 : sCost m r (o.getD i 0) = some c) (h3 : bestOf m r (fun q => ∃ k, k < i ∧ q = o.getD k 0) none) : bestOf m r (fun q => ∃ k, k < i + 1 ∧ q = o.getD k 0) (some (o.getD i 0)) := by
  refine ⟨⟨i, by omega, rfl⟩, c, e1, ?_⟩
  rintro q c' ⟨k, hk, rfl⟩ hc'
  by_cases hki : k = i
  · rw [hki, e1] at hc'
    cases hc'
    exact Or.inr ⟨rfl, Or.inl (by rw [hki])⟩
  · rw [h3 _ ⟨k, by omega, rfl⟩] at hc'
    cases hc'
theorem bo_keep {m : Nat → Nat → Nat} {r i c b cb : Nat} {o : List Nat} (e1 : sCost m r (o.getD i 0) = some c) (e2 : sCost m r b = some cb) (g : cb ≤ c) (hlt : ∀ k, k < i → sTl m (o.getD k 0) < sTl m (o.getD i 0)) (h3 : bestOf m r (fun q => ∃ k, k < i ∧ q = o.getD k 0) (some b)) : bestOf m r (fun q => ∃ k, k < i + 1 ∧ q = o.getD k 0) (some b) := by
  obtain ⟨⟨k0, hk0, hb0⟩, cb', s2, s3⟩ := h3
  rw [e2] at s2
  cases s2
  refine ⟨⟨k0, by omega, hb0⟩, cb, e2, ?_⟩
  rintro q c' ⟨k, hk, rfl⟩ hc'
  by_cases hki : k = i
  · rw [hki] at hc' ⊢
    rw [e1] at hc'
    cases hc'
    by_cases g2 : cb < c
    · exact Or.inl g2
    · exact Or.inr ⟨by omega, Or.inr (by rw [hb0]; exact hlt k0 hk0)⟩
  · exact s3 _ c' ⟨k, by omega, rfl⟩ hc'
theorem bo_new {m : Nat → Nat → Nat} {r i c b cb : Nat} {o : List Nat} (e1 : sCost m r (o.getD i 0) = some c) (e2 : sCost m r b = some cb) (g : c < cb) (h3 : bestOf m r (fun q => ∃ k, k < i ∧ q = o.getD k 0) (some b)) : bestOf m r (fun q => ∃ k, k < i + 1 ∧ q = o.getD k 0) (some (o.getD i 0)) := by
  obtain ⟨⟨k0, hk0, hb0⟩, cb', s2, s3⟩ := h3
  rw [e2] at s2
  cases s2
  refine ⟨⟨i, by omega, rfl⟩, c, e1, ?_⟩
  rintro q c' ⟨k, hk, rfl⟩ hc'
  by_cases hki : k = i
  · rw [hki, e1] at hc'
    cases hc'
    exact Or.inr ⟨rfl, Or.inl (by rw [hki])⟩
  · have h4 := s3 _ c' ⟨k, by omega, rfl⟩ hc'
    left
    omega
def bC (m : Nat → Nat → Nat) (r : Nat) (o : Option Nat) : Int32 := match o with
  | some b => cOf (sCost m r b)
  | none => -1
/-! the row of a reading's bits -/
theorem MX.tld_lt (M : MX hm) {r : Nat} (hr : r < mn hm 0 16) (h1 : mn hm 16 r ≠ 0) : tld hm r < 16 ∧ nI (tld hm r) - 1 = kI hm 17 r := by
  have hP := M.2.1.1
  rcases M.2.2.2.2.2.1 r hr with ⟨-, e⟩ | ⟨-, -, e | ⟨q, hq, e⟩⟩
  · exact absurd e h1
  · unfold tld
    rw [if_pos e, e]
    exact ⟨by omega, by decide⟩
  · unfold tld
    rw [if_neg (by rw [e, ka_n1 (by omega)]; exact fun z => z), mn_of e (by omega), ka_pred (by omega), e]
    exact ⟨by omega, by rw [show q + 1 - 1 = q by omega]⟩
theorem MX.rbt_lt (M : MX hm) {r : Nat} (hr : r < mn hm 0 16) : rbt hm r < 2147483648 := by
  obtain ⟨⟨a1, -⟩, ⟨a2, -⟩, -⟩ := M.2.2.2.2.1 r hr
  unfold rbt
  by_cases h1 : mn hm 16 r = 0
  · rw [if_pos h1]; omega
  · rw [if_neg h1]
    have := (M.tld_lt hr h1).1
    omega
theorem MX.rb19 (M : MX hm) {r : Nat} (hr : r < mn hm 0 16) (g : KH) : f_L_part (nI (rbt hm r)) 19 1 g = kret (if mn hm 16 r = 0 then 0 else 1) g := by
  obtain ⟨⟨a1, -⟩, ⟨a2, -⟩, -⟩ := M.2.2.2.2.1 r hr
  rw [show (19 : Int32) = nI 19 from rfl, show (1 : Int32) = nI 1 from rfl, fl_part (M.rbt_lt hr) (by omega) (by omega)]
  unfold rbt
  rw [show (2 : Nat) ^ 19 = 524288 from by decide, show (2 : Nat) ^ 1 = 2 from rfl]
  by_cases h1 : mn hm 16 r = 0
  · rw [if_pos h1, if_pos h1, show (mn hm 12 r + mn hm 13 r * 8 + 0) / 524288 % 2 = 0 by omega]
    rfl
  · rw [if_neg h1, if_neg h1, show (mn hm 12 r + mn hm 13 r * 8 + (524288 + tld hm r * 1048576)) / 524288 % 2 = 1 by omega]
theorem MX.rb20 (M : MX hm) {r : Nat} (hr : r < mn hm 0 16) (h1 : mn hm 16 r ≠ 0) (g : KH) : f_L_part (nI (rbt hm r)) 20 4 g = kret (nI (tld hm r)) g := by
  obtain ⟨⟨a1, -⟩, ⟨a2, -⟩, -⟩ := M.2.2.2.2.1 r hr
  have ht := (M.tld_lt hr h1).1
  rw [show (20 : Int32) = nI 20 from rfl, show (4 : Int32) = nI 4 from rfl, fl_part (M.rbt_lt hr) (by omega) (by omega)]
  unfold rbt
  rw [show (2 : Nat) ^ 20 = 1048576 from by decide, show (2 : Nat) ^ 4 = 16 from rfl, if_neg h1, show (mn hm 12 r + mn hm 13 r * 8 + (524288 + tld hm r * 1048576)) / 1048576 % 16 = tld hm r by omega]
theorem law_readL (R : RR j h hm) (T : TT h hm) {r : Nat} (hr : r < mn hm 0 16) {o : List Nat} (ol : o.length = mn hm 0 8) (om : ∀ p, p ∈ o ↔ p < mn hm 0 8) (op : o.Pairwise (fun p q => sTl (mn hm) p < sTl (mn hm) q)) (oe : ∀ k, k < mn hm 0 8 → f_zX9_plateAt 0 (nI k) (sX h 0) = kret (nI (o.getD k 0)) (sX h 0)) : ∀ (f k m : Nat) (b : Option Nat), k ≤ mn hm 0 8 → mn hm 0 8 < k + f → bestOf (mn hm) r (fun q => ∃ l, l < k ∧ q = o.getD l 0) b → ∃ m', L_isReading_L12 f 0 42 43 44 46 47 (nI r) (cOf b) (bC (mn hm) r b) 1 (nI k) (sX h m) = kret 1 (sX h m') := by
  have RX := R.X 0
  have S := RX.1.1
  have MX := R.MX
  have TX := T.X 0
  obtain ⟨k42, n42⟩ := TX.1.1
  obtain ⟨k43, n43⟩ := TX.1.2.1
  obtain ⟨k44, n44⟩ := TX.1.2.2.1
  have hP := R.P
  have hR := MX.2.2.1.1
  have inj : ∀ a b, a < b → b < mn hm 0 8 → sTl (mn hm) (o.getD a 0) < sTl (mn hm) (o.getD b 0) := fun a b h1 h2 => by
    have := List.pairwise_iff_getElem.1 op a b (by omega) (by omega) h1
    rw [List.getD_eq_getElem?_getD, List.getD_eq_getElem?_getD, List.getElem?_eq_getElem (by omega), List.getElem?_eq_getElem (by omega)]
    exact this
  have lt : ∀ k, k < mn hm 0 8 → o.getD k 0 < mn hm 0 8 := fun k hk => (om _).1 (gD_mem.2 ⟨k, by omega, rfl⟩)
  intro f
  induction f with
  | zero => intro k m b h1 h2; omega
  | succ f ih =>
    intro k m b h1 h2 hb
    have e2 : kI (sX h m) 47 2 = nI (mn hm 0 8) := by
      rw [show kI (sX h m) 47 2 = kI (sX h 0) 47 2 from rfl, TX.2.2.2.2.2.1.2.2.1]
      exact R.cnt.2.1
    unfold L_isReading_L12 L_isReading_b12
    rw [show (2 : Int32) = nI 2 from rfl, gAI_k (T.X m).1.2.2.2.2.2.1.1 (by rw [(T.X m).1.2.2.2.2.2.1.2]; omega) (by omega), e2]
    by_cases hk : mn hm 0 8 ≤ k
    · obtain rfl : k = mn hm 0 8 := by omega
      have hbs : b = sBest (mn hm) r (mn hm 0 8) := by
        refine bestOf_uniq (bestOf_sub hb (S' := fun q => q < mn hm 0 8) (fun q => ⟨?_, fun hq => ?_⟩)) (sBest_of (P := mn hm 0 8) R.kCx.2.2.2.2.1.2.2 (mn hm 0 8) (Nat.le_refl _))
        · rintro ⟨k, hk, rfl⟩
          exact lt k hk
        · obtain ⟨k, hk, e⟩ := gD_mem.1 ((om q).2 hq)
          exact ⟨k, by omega, e.symm⟩
      rw [kif_t (by rw [ka_le (by omega) (by omega)]; exact hk)]
      unfold L_isReading_b119
      rw [kif_f (by decide), sX_X, kV_k S.d0, rd_plateOf RX hr, kb_ret, gAI_k k44 (by omega) (by omega), (TX.2.2.1 r hr).2, MX.rb19 hr, kb_ret]
      by_cases h16 : mn hm 16 r = 0
      · rw [if_pos h16, kif_f (by decide)]
        unfold L_isReading_b161 sPF
        rw [if_pos h16, hbs, kif_t rfl]
        exact ⟨0, rfl⟩
      · rw [if_neg h16, kif_t rfl, gAI_k k44 (by omega) (by omega), (TX.2.2.1 r hr).2, MX.rb20 hr h16, kb_ret, (MX.tld_lt hr h16).2]
        unfold L_isReading_b161 sPF
        rw [if_neg h16]
        have e : cOf (if kI hm 17 r = -1 then none else some (mn hm 17 r)) = kI hm 17 r := by
          rcases MX.2.2.2.2.2.1 r hr with ⟨-, z⟩ | ⟨-, -, z | ⟨q, hq, z⟩⟩
          · exact absurd z h16
          · rw [if_pos z, z]
            rfl
          · rw [if_neg (by rw [z, ka_n1 (by omega)]; exact fun z => z), mn_of z (by omega), z]
            rfl
        rw [kif_t e]
        exact ⟨0, rfl⟩
    · have hkl : k < mn hm 0 8 := by omega
      have hq := lt k hkl
      rw [kif_f (by rw [ka_le (by omega) (by omega)]; exact hk), kif_f (by decide), sX_X, kV_k S.d0, oe k hkl, kb_ret, gAI_k k43 (by omega) (by omega), show (1 : Int32) + nI (o.getD k 0) = nI (1 + o.getD k 0) from ka_add 1 _, gAI_k k42 (by omega) (by omega), (TX.2.2.1 r hr).1, TX.2.1.2 _ hq, law_cost MX TX hr hq, kb_ret, sX_X, kV_k S.d0, rd_cost RX hr hq, kb_ret, kif_t rfl]
      have g14 := (MX.2.2.2.2.1 r hr).2.2.1.2
      have go : ∀ b', bestOf (mn hm) r (fun q => ∃ l, l < k + 1 ∧ q = o.getD l 0) b' → ∃ m', L_isReading_b111 (L_isReading_L12 f) 0 42 43 44 46 47 (nI r) (cOf b') 1 (nI k) (bC (mn hm) r b') (sX h 0) = kret 1 (sX h m') := fun b' hb' => by
        unfold L_isReading_b111
        rw [nI_1]
        exact ih (k + 1) 0 b' (by omega) (by omega) hb'
      -- kept
      have keep : bestOf (mn hm) r (fun q => ∃ l, l < k + 1 ∧ q = o.getD l 0) b → ∃ m', L_isReading_b93 (L_isReading_L12 f) 0 42 43 44 46 47 (nI r) (cOf b) (bC (mn hm) r b) 1 (nI k) (nI (o.getD k 0)) (cOf (sCost (mn hm) r (o.getD k 0))) (sX h 0) = kret 1 (sX h m') := fun hb' => by
        unfold L_isReading_b93 L_isReading_b95
        have hne : ¬ cOf b = nI (o.getD k 0) := by
          cases b with
          | none => exact fun z => by rw [show cOf none = -1 from rfl, ka_n1' (by omega)] at z; exact z
          | some b =>
            obtain ⟨⟨k0, hk0, hb0⟩, -⟩ := hb
            have := lt k0 (by omega)
            show ¬ nI b = _
            rw [ka_eq (by omega) (by omega)]
            intro z
            have q := inj k0 k hk0 hkl
            rw [← hb0, z] at q
            exact List.lt_irrefl _ q
        rw [kif_f hne]
        exact go b hb'
      have put : bestOf (mn hm) r (fun q => ∃ l, l < k + 1 ∧ q = o.getD l 0) (some (o.getD k 0)) → ∃ m', L_isReading_b88 (L_isReading_L12 f) 0 42 43 44 46 47 (nI r) (bC (mn hm) r b) 1 (nI k) (nI (o.getD k 0)) (cOf (sCost (mn hm) r (o.getD k 0))) (sX h 0) = kret 1 (sX h m') := fun hb' => by
        unfold L_isReading_b88 L_isReading_b95
        rw [kif_t rfl]
        exact go (some (o.getD k 0)) hb'
      unfold L_isReading_b69
      cases e1 : sCost (mn hm) r (o.getD k 0) with
      | none =>
        rw [kif_t (show cOf none < 0 by decide)]
        rw [e1] at keep
        exact keep (bo_none e1 hb)
      | some c =>
        have hc := sCost_le e1
        rw [e1] at keep put
        rw [kif_f (by show ¬ nI c < 0; rw [ka_neg (by omega)]; exact fun z => z)]
        cases b with
        | none =>
          rw [kif_t (show cOf none < 0 by decide)]
          exact put (bo_first e1 hb)
        | some b =>
          have hb2 := hb
          obtain ⟨⟨k0, hk0, hb0⟩, cb, s2, s3⟩ := hb
          have hcb := sCost_le s2
          have := lt k0 (by omega)
          rw [kif_f (by show ¬ nI b < 0; rw [ka_neg (by omega)]; exact fun z => z)]
          have eb : bC (mn hm) r (some b) = nI cb := by
            show cOf (sCost (mn hm) r b) = _
            rw [s2]
            rfl
          by_cases g : cb ≤ c
          · rw [kif_t (by rw [eb]; show nI cb ≤ nI c; rw [ka_le (by omega) (by omega)]; exact g)]
            exact keep (bo_keep e1 s2 g (fun l hl => inj l k hl hkl) hb2)
          · rw [kif_f (by rw [eb]; show ¬ nI cb ≤ nI c; rw [ka_le (by omega) (by omega)]; exact g)]
            exact put (bo_new e1 s2 (by omega) hb2)
theorem law_isReading (R : RR j h hm) (T : TT h hm) {r : Nat} (hr : r < mn hm 0 16) : ∃ m, f_L_isReading 0 42 43 44 46 47 (nI r) h = kret 1 (sX h m) := by
  obtain ⟨o, ol, om, op, oe⟩ := rd_plateAt (R.X 0)
  have hP := R.P
  unfold f_L_isReading
  exact law_readL R T hr ol om op oe kF 0 (kx h) none (by omega) (by unfold kF; omega) (by rintro q ⟨l, hl, -⟩; omega)
end READING
