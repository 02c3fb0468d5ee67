/-! the trips' check: the next passing -/
section NEXTP
variable {j : Nat} {h hm : KH}
theorem MX.rbMin (M : MX hm) {r : Nat} (hr : r < mn hm 0 16) (g : KH) : f_L_part (nI (rbt hm r)) 3 16 g = kret (nI (mn hm 13 r)) g := by
  obtain ⟨⟨a1, -⟩, ⟨a2, -⟩, -⟩ := M.2.2.2.2.1 r hr
  rw [show (3 : Int32) = nI 3 from rfl, show (16 : Int32) = nI 16 from rfl, fl_part (M.rbt_lt hr) (by omega) (by omega)]
  unfold rbt
  rw [show (2 : Nat) ^ 3 = 8 from rfl, show (2 : Nat) ^ 16 = 65536 from by decide]
  by_cases h1 : mn hm 16 r = 0
  · rw [if_pos h1, show (mn hm 12 r + mn hm 13 r * 8 + 0) / 8 % 65536 = mn hm 13 r by omega]
  · rw [if_neg h1, show (mn hm 12 r + mn hm 13 r * 8 + (524288 + tld hm r * 1048576)) / 8 % 65536 = mn hm 13 r by omega]
theorem MX.rbGate (M : MX hm) {r : Nat} (hr : r < mn hm 0 16) (g : KH) : f_L_part (nI (rbt hm r)) 0 3 g = kret (nI (mn hm 12 r)) g := by
  obtain ⟨⟨a1, -⟩, ⟨a2, -⟩, -⟩ := M.2.2.2.2.1 r hr
  rw [show (0 : Int32) = nI 0 from rfl, show (3 : Int32) = nI 3 from rfl, fl_part (M.rbt_lt hr) (by omega) (by omega)]
  unfold rbt
  rw [show (2 : Nat) ^ 0 = 1 from rfl, show (2 : Nat) ^ 3 = 8 from rfl]
  by_cases h1 : mn hm 16 r = 0
  · rw [if_pos h1, show (mn hm 12 r + mn hm 13 r * 8 + 0) / 1 % 8 = mn hm 12 r by omega]
  · rw [if_neg h1, show (mn hm 12 r + mn hm 13 r * 8 + (524288 + tld hm r * 1048576)) / 1 % 8 = mn hm 12 r by omega]
theorem law_minute (M : MX hm) (T : TT h hm) {r : Nat} (hr : r < mn hm 0 16) : f_L_minute 44 (nI r) h = kret (nI (mn hm 13 r)) h := by
  have hR := M.2.2.1.1
  unfold f_L_minute
  rw [gAI_k T.1.2.2.1.1 (by rw [T.1.2.2.1.2]; omega) (by omega), (T.2.2.1 r hr).2, M.rbMin hr]
  rfl
def nxA (hm : KH) (p : Nat) (la : Option Nat) (c : Nat) : Prop := sPF hm c = some p ∧ ∀ q, la = some q → sBef (mn hm) q c
def nxO (hm : KH) (p : Nat) (la : Option Nat) (n : Nat) (o : Option Nat) : Prop := match o with
  | none => ∀ c, c < n → ¬ nxA hm p la c
  | some b => b < n ∧ nxA hm p la b ∧ ∀ c, c < n → nxA hm p la c → c = b ∨ sBef (mn hm) b c
theorem nxO_no {p n : Nat} {la o : Option Nat} (hA : ¬ nxA hm p la n) (ho : nxO hm p la n o) : nxO hm p la (n + 1) o := by
  cases o with
  | none =>
    intro c hc
    by_cases e : c = n
    · rw [e]; exact hA
    · exact ho c (by omega)
  | some b =>
    obtain ⟨b1, b2, b3⟩ := ho
    refine ⟨by omega, b2, fun c hc hc2 => ?_⟩
    by_cases e : c = n
    · rw [e] at hc2; exact absurd hc2 hA
    · exact b3 c (by omega) hc2
theorem nxO_keep {p n b : Nat} {la : Option Nat} (hle : mn hm 13 b ≤ mn hm 13 n) (ho : nxO hm p la n (some b)) : nxO hm p la (n + 1) (some b) := by
  obtain ⟨b1, b2, b3⟩ := ho
  refine ⟨by omega, b2, fun c hc hc2 => ?_⟩
  by_cases e : c = n
  · right
    rw [e]
    unfold sBef
    omega
  · exact b3 c (by omega) hc2
theorem nxO_new {p n : Nat} {la o : Option Nat} (hA : nxA hm p la n) (hlt : ∀ b, o = some b → mn hm 13 n < mn hm 13 b) (ho : nxO hm p la n o) : nxO hm p la (n + 1) (some n) := by
  refine ⟨by omega, hA, fun c hc hc2 => ?_⟩
  by_cases e : c = n
  · exact Or.inl e
  · right
    cases o with
    | none => exact absurd hc2 (ho c (by omega))
    | some b =>
      have := hlt b rfl
      rcases ho.2.2 c (by omega) hc2 with q | q
      · rw [q]; unfold sBef; omega
      · unfold sBef at q ⊢; omega
theorem law_nextL (R : RR j h hm) (T : TT h hm) {p : Nat} (hp : p < mn hm 0 8) {la : Option Nat} (hla : ∀ q, la = some q → q < mn hm 0 16) (rc : Nat → Nat → Nat → Nat → Nat → Int32 → Int32 → Int32 → Int32 → Int32 → Int32 → KH → KO Int32) (v6 v7 v10 : Int32) : ∀ (f n m : Nat) (o : Option Nat), n ≤ mn hm 0 16 → mn hm 0 16 < n + f → nxO hm p la n o → ∃ f' o' m', nxO hm p la (mn hm 0 16) o' ∧ L_areTrips_L34 rc f 0 44 45 47 49 (nI p) v6 v7 (cOf la) 1 v10 (cOf o) (nI n) (sX h m) = L_areTrips_b34 rc (L_areTrips_L34 rc f') 0 44 45 47 49 (nI p) v6 v7 (cOf la) 1 v10 (cOf o') (nI (mn hm 0 16)) (sX h m') := by
  have RX := R.X 0
  have S := RX.1.1
  have M := R.MX
  have hP := R.P
  have hR := M.2.2.1.1
  intro f
  induction f with
  | zero => intro n m o h1 h2; omega
  | succ f ih =>
    intro n m o h1 h2 ho
    by_cases hn : mn hm 0 16 ≤ n
    · obtain rfl : n = mn hm 0 16 := by omega
      exact ⟨f, o, m, ho, rfl⟩
    · have hnl : n < mn hm 0 16 := by omega
      have TX := T.X m
      obtain ⟨k47, n47⟩ := TX.1.2.2.2.2.2.1
      have e3 : kI (sX h m) 47 3 = nI (mn hm 0 16) := by
        rw [TX.2.2.2.2.2.1.2.2.2]
        exact M.2.2.1.2
      have hmn : ∀ r, r < mn hm 0 16 → f_L_minute 44 (nI r) (sX h m) = kret (nI (mn hm 13 r)) (sX h m) := fun r hr => law_minute M TX hr
      have hml : ∀ r, r < mn hm 0 16 → mn hm 13 r ≤ 50000 := fun r hr => (M.2.2.2.2.1 r hr).2.1.1
      have hol : ∀ b, o = some b → b < mn hm 0 16 := fun b e => by
        rw [e] at ho
        have := ho.1
        omega
      unfold L_areTrips_L34 L_areTrips_b34
      rw [show (3 : Int32) = nI 3 from rfl, gAI_k k47 (by rw [n47]; omega) (by omega), e3, kif_f (by rw [ka_le (by omega) (by omega)]; exact hn)]
      -- what comes behind
      have go : ∀ (o' : Option Nat) m', nxO hm p la (n + 1) o' → ∃ f' o'' m'', nxO hm p la (mn hm 0 16) o'' ∧ L_areTrips_b146 rc (L_areTrips_L34 rc f) 0 44 45 47 49 (nI p) v6 v7 (cOf la) 1 v10 (nI n) (cOf o') (sX h m') = L_areTrips_b34 rc (L_areTrips_L34 rc f') 0 44 45 47 49 (nI p) v6 v7 (cOf la) 1 v10 (cOf o'') (nI (mn hm 0 16)) (sX h m'') := fun o' m' ho' => by
        unfold L_areTrips_b146
        rw [nI_1]
        exact ih (n + 1) m' o' (by omega) (by omega) ho'
      have g116 : ∀ v13 s0 : Int32, (v13 ≠ 0 ∧ s0 ≠ 0 ∧ (∀ q, la = some q → sBef (mn hm) q n) ∧ (∀ b, o = some b → mn hm 13 n < mn hm 13 b) ∨ v13 = 0 ∧ ¬ (∀ q, la = some q → sBef (mn hm) q n) ∨ s0 = 0 ∧ ∃ b, o = some b ∧ mn hm 13 b ≤ mn hm 13 n) → ∃ f' o'' m'', nxO hm p la (mn hm 0 16) o'' ∧ L_areTrips_b116 rc (L_areTrips_L34 rc f) 0 44 45 47 49 (nI p) v6 v7 (cOf la) 1 v10 (cOf o) (nI n) v13 s0 (sX h m) = L_areTrips_b34 rc (L_areTrips_L34 rc f') 0 44 45 47 49 (nI p) v6 v7 (cOf la) 1 v10 (cOf o'') (nI (mn hm 0 16)) (sX h m'') := fun v13 s0 hc => by
        unfold L_areTrips_b116
        rw [sX_X, kV_k S.d0, rd_plateOf RX hnl, kb_ret]
        by_cases e : sPF hm n = some p
        · rw [kif_t (by rw [e]; rfl)]
          rcases hc with ⟨c1, c2, c3, c4⟩ | ⟨c1, c2⟩ | ⟨c1, b, c2, c3⟩
          · rw [kif_f c1, kif_f c2]
            exact go (some n) 0 (nxO_new ⟨e, c3⟩ c4 ho)
          · rw [kif_t c1]
            unfold L_areTrips_b144
            exact go o 0 (nxO_no (fun z => c2 z.2) ho)
          · have hk : nxO hm p la (n + 1) o := by
              rw [c2] at ho ⊢
              exact nxO_keep c3 ho
            unfold kif
            split
            · unfold L_areTrips_b144
              exact go o 0 hk
            · unfold L_areTrips_b144
              exact go o 0 hk
        · have hne : ¬ cOf (sPF hm n) = nI p := by
            rw [show nI p = cOf (some p) from rfl, cOf_inj (fun q hq => by have := M.pf_lt hnl hq; omega) (fun q hq => by cases hq; omega)]
            exact e
          rw [kif_f hne]
          unfold L_areTrips_b144
          exact go o 0 (nxO_no (fun z => e z.1) ho)
      have g89 : ∀ v13 : Int32, (v13 ≠ 0 ∧ (∀ q, la = some q → sBef (mn hm) q n) ∨ v13 = 0 ∧ ¬ (∀ q, la = some q → sBef (mn hm) q n)) → ∃ f' o'' m'', nxO hm p la (mn hm 0 16) o'' ∧ L_areTrips_b89 rc (L_areTrips_L34 rc f) 0 44 45 47 49 (nI p) v6 v7 (cOf la) 1 v10 (cOf o) (nI n) v13 (sX h m) = L_areTrips_b34 rc (L_areTrips_L34 rc f') 0 44 45 47 49 (nI p) v6 v7 (cOf la) 1 v10 (cOf o'') (nI (mn hm 0 16)) (sX h m'') := fun v13 hv => by
        have hyes : (∀ b, o = some b → mn hm 13 n < mn hm 13 b) → ∃ f' o'' m'', nxO hm p la (mn hm 0 16) o'' ∧ L_areTrips_b111 rc (L_areTrips_L34 rc f) 0 44 45 47 49 (nI p) v6 v7 (cOf la) 1 v10 (cOf o) (nI n) v13 (sX h m) = L_areTrips_b34 rc (L_areTrips_L34 rc f') 0 44 45 47 49 (nI p) v6 v7 (cOf la) 1 v10 (cOf o'') (nI (mn hm 0 16)) (sX h m'') := fun hb => by
          unfold L_areTrips_b111
          refine g116 v13 1 ?_
          rcases hv with ⟨w1, w2⟩ | ⟨w1, w2⟩
          · exact Or.inl ⟨w1, by decide, w2, hb⟩
          · exact Or.inr (Or.inl ⟨w1, w2⟩)
        unfold L_areTrips_b89
        by_cases eo : o = none
        · rw [kif_t (by rw [eo]; exact (show cOf none < 0 by decide))]
          exact hyes (fun b e => by rw [eo] at e; cases e)
        · obtain ⟨b, eb⟩ : ∃ b, o = some b := by
            cases o with
            | none => exact absurd rfl eo
            | some b => exact ⟨b, rfl⟩
          have hb := hol b eb
          have hbm := hml b hb
          have hnm := hml n hnl
          have ecb : cOf o = nI b := by rw [eb]; rfl
          rw [kif_f (by rw [ecb, ka_neg (by omega)]; exact fun z => z), hmn n hnl, kb_ret, show f_L_minute 44 (cOf o) (sX h m) = kret (nI (mn hm 13 b)) (sX h m) by rw [ecb]; exact hmn b hb, kb_ret]
          by_cases g : mn hm 13 b ≤ mn hm 13 n
          · rw [kif_t (by rw [ka_le (by omega) (by omega)]; exact g)]
            exact g116 v13 0 (Or.inr (Or.inr ⟨rfl, b, eb, g⟩))
          · rw [kif_f (by rw [ka_le (by omega) (by omega)]; exact g)]
            exact hyes (fun b' e => by rw [eb] at e; cases e; omega)
      have g84 : (∀ q, la = some q → sBef (mn hm) q n) → ∃ f' o'' m'', nxO hm p la (mn hm 0 16) o'' ∧ L_areTrips_b84 rc (L_areTrips_L34 rc f) 0 44 45 47 49 (nI p) v6 v7 (cOf la) 1 v10 (cOf o) (nI n) (sX h m) = L_areTrips_b34 rc (L_areTrips_L34 rc f') 0 44 45 47 49 (nI p) v6 v7 (cOf la) 1 v10 (cOf o'') (nI (mn hm 0 16)) (sX h m'') := fun hq => by
        unfold L_areTrips_b84
        exact g89 1 (Or.inl ⟨by decide, hq⟩)
      have g88 : ¬ (∀ q, la = some q → sBef (mn hm) q n) → ∃ f' o'' m'', nxO hm p la (mn hm 0 16) o'' ∧ L_areTrips_b88 rc (L_areTrips_L34 rc f) 0 44 45 47 49 (nI p) v6 v7 (cOf la) 1 v10 (cOf o) (nI n) (sX h m) = L_areTrips_b34 rc (L_areTrips_L34 rc f') 0 44 45 47 49 (nI p) v6 v7 (cOf la) 1 v10 (cOf o'') (nI (mn hm 0 16)) (sX h m'') := fun hq => by
        unfold L_areTrips_b88
        exact g89 0 (Or.inr ⟨rfl, hq⟩)
      by_cases ela : la = none
      · rw [kif_t (by rw [ela]; exact (show cOf none < 0 by decide))]
        exact g84 (fun q e => by rw [ela] at e; cases e)
      · obtain ⟨a, ea⟩ : ∃ a, la = some a := by
          cases la with
          | none => exact absurd rfl ela
          | some a => exact ⟨a, rfl⟩
        have ha := hla a ea
        have ham := hml a ha
        have hnm := hml n hnl
        have eca : cOf la = nI a := by rw [ea]; rfl
        have hma : f_L_minute 44 (cOf la) (sX h m) = kret (nI (mn hm 13 a)) (sX h m) := by rw [eca]; exact hmn a ha
        have hyes : sBef (mn hm) a n → ∀ q, la = some q → sBef (mn hm) q n := fun z q e => by rw [ea] at e; cases e; exact z
        have hno : ¬ sBef (mn hm) a n → ¬ ∀ q, la = some q → sBef (mn hm) q n := fun z q => z (q a ea)
        rw [kif_f (by rw [eca, ka_neg (by omega)]; exact fun z => z), hmn n hnl, kb_ret, hma, kb_ret]
        by_cases c1 : mn hm 13 a < mn hm 13 n
        · rw [kif_t (by rw [ka_lt (by omega) (by omega)]; exact c1)]
          exact g84 (hyes (by unfold sBef; omega))
        · rw [kif_f (by rw [ka_lt (by omega) (by omega)]; exact c1), hmn n hnl, kb_ret, hma, kb_ret]
          by_cases c2 : mn hm 13 n = mn hm 13 a
          · rw [kif_t (by rw [c2])]
            by_cases c3 : n ≤ a
            · rw [kif_t (by rw [eca, ka_le (by omega) (by omega)]; exact c3)]
              exact g88 (hno (by unfold sBef; omega))
            · rw [kif_f (by rw [eca, ka_le (by omega) (by omega)]; exact c3)]
              exact g84 (hyes (by unfold sBef; omega))
          · rw [kif_f (by rw [ka_eq (by omega) (by omega)]; exact c2)]
            exact g88 (hno (by unfold sBef; omega))
/-- the row's next -/
def pvo (l : List Nat) : Nat → Option Nat
  | 0 => none
  | i + 1 => some (l.getD i 0)
theorem nxO_row {p i : Nat} {l : List Nat} {o : Option Nat} (hl : sRw hm (some p) l) (hi : i ≤ l.length) (ho : nxO hm p (pvo l i) (mn hm 0 16) o) : o = lst l i := by
  obtain ⟨⟨L1, L2⟩, L3⟩ := hl
  have fw : ∀ c, c < mn hm 0 16 → nxA hm p (pvo l i) c → ∃ k, i ≤ k ∧ k < l.length ∧ l.getD k 0 = c := fun c hc hA => by
    obtain ⟨k, k1, k2⟩ := (L3 c hc).1 hA.1
    refine ⟨k, ?_, k1, k2⟩
    cases i with
    | zero => omega
    | succ i =>
      have hb := hA.2 (l.getD i 0) rfl
      by_cases hk : k < i + 1
      · exfalso
        by_cases hki : k = i
        · rw [← k2, hki] at hb
          unfold sBef at hb
          omega
        · have := L2 k i (by omega) (by omega)
          rw [k2] at this
          unfold sBef at this hb
          omega
      · omega
  have bw : ∀ k, i ≤ k → k < l.length → nxA hm p (pvo l i) (l.getD k 0) := fun k h1 h2 => by
    refine ⟨(L3 _ (L1 k h2)).2 ⟨k, h2, rfl⟩, fun q e => ?_⟩
    cases i with
    | zero => cases e
    | succ i =>
      cases e
      exact L2 i k (by omega) h2
  unfold lst
  cases o with
  | none =>
    by_cases h1 : i < l.length
    · exact absurd (bw i (Nat.le_refl _) h1) (ho _ (L1 i h1))
    · rw [if_neg h1]
  | some b =>
    obtain ⟨b1, b2, b3⟩ := ho
    obtain ⟨k, k1, k2, k3⟩ := fw b b1 b2
    have h1 : i < l.length := by omega
    rw [if_pos h1]
    rcases b3 _ (L1 i h1) (bw i (Nat.le_refl _) h1) with q | q
    · rw [q]
    · exfalso
      by_cases hk : k = i
      · rw [← k3, hk] at q
        unfold sBef at q
        omega
      · have := L2 i k (by omega) k2
        rw [k3] at this
        unfold sBef at q this
        omega
end NEXTP
