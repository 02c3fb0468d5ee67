/-! a keeper's turns -/
theorem nI_ex (x : Int32) : ∃ n, x = nI n := ⟨x.toBitVec.toNat, by
  unfold nI
  rw [← Int32.toBitVec_inj, Int32.toBitVec_ofNat']
  apply BitVec.eq_of_toNat_eq
  rw [BitVec.toNat_ofNat, Nat.mod_eq_of_lt x.toBitVec.isLt]⟩
theorem dr_23 (most : Nat) (h0 : 0 < most) (h1 : most < 2147483648) (x : Int32) (h : KH) : ∃ n, n < most ∧ L_draw_b23 (nI most) x h = kret (nI n) h := by
  obtain ⟨m, rfl⟩ := nI_ex x
  have e : nI m &&& (2147483647 : Int32) = nI (m % 2147483648) := by
    rw [show (2147483647 : Int32) = nI (2 ^ 31 - 1) from by decide, nI_and, Nat.and_two_pow_sub_one_eq_mod, show (2 : Nat) ^ 31 = 2147483648 from by decide]
  have hm : m % 2147483648 < 2147483648 := Nat.mod_lt _ (by omega)
  refine ⟨m % 2147483648 % most, Nat.mod_lt _ h0, ?_⟩
  unfold L_draw_b23
  rw [kdv_k h0 h1, e, nI_mod hm h1]
def C41 (L : Nat) (xs : Nat → Int32) (g : KH) : Prop := kd g 41 = 32 ∧ kn g 41 = L ∧ ∀ k, kI g 41 k = xs k
theorem C41.to {L : Nat} {xs : Nat → Int32} {g g' : KH} (C : C41 L xs g) (f : F41 g g') : C41 L xs g' := by
  obtain ⟨c1, c2, c3⟩ := C
  obtain ⟨f1, f2, f3⟩ := f c1
  exact ⟨f1, f2.trans c2, fun k => (f3 k).trans (c3 k)⟩
theorem law_draw {L : Nat} {xs : Nat → Int32} {h : KH} (C : C41 L xs h) (hL : L ≤ 260) {P most : Nat} (hP : P < 2147483648) (h0 : 0 < most) (h1 : most < 2147483648) : ∃ n, n < most ∧ f_L_draw 41 (nI P) (nI most) h = kret (nI n) h := by
  obtain ⟨c1, c2, -⟩ := C
  unfold f_L_draw gLen
  rw [if_pos c1, show Int32.ofNat (kn h 41) = nI L from by rw [c2]; rfl]
  dsimp only
  by_cases hlt : L ≤ P
  · rw [kif_t (by rw [ka_le (by omega) (by omega)]; exact hlt)]
    exact dr_23 most h0 h1 _ h
  · rw [kif_f (by rw [ka_le (by omega) (by omega)]; exact hlt), gAI_k c1 (by omega) (by omega)]
    exact dr_23 most h0 h1 _ h
/-- the state between the checks -/
def KS (L : Nat) (xs : Nat → Int32) (j c n : Nat) (g : KH) : Prop := ∃ hm, RR j g hm ∧ TT g hm ∧ GI hm c ∧ C41 L xs g ∧ ∀ a, n ≤ a → a < 1000 → kd g a = 0
section KEEP
variable {L : Nat} {xs : Nat → Int32}
theorem KS.X {j c n : Nat} {g : KH} (K : KS L xs j c n g) (m : Nat) : KS L xs j c n (sX g m) := by
  obtain ⟨hm, k1, k2, k3, k4, k5⟩ := K
  exact ⟨hm, k1.X m, k2.X m, k3, k4, k5⟩
def QQ (L : Nat) (xs : Nat → Int32) (w : KO Int32) : Prop := ∃ g', w = kret 1 g' ∧ C41 L xs g'
theorem GI.up {hm : KH} {c : Nat} (G : GI hm c) : GI hm (c + 1) := by
  obtain ⟨g1, g2, g3, a, b, b1, b2, b3⟩ := G
  exact ⟨g1, g2, g3, a, b, b1, fun d hd => ⟨(b2 d hd).1, Nat.le_trans (b2 d hd).2 (Nat.mul_le_mul_right _ (Nat.le_succ c))⟩, b3⟩
theorem GI.eI {hm hm1 : KH} {c c' : Nat} (G : GI hm c) (e : kI hm1 = kI hm) (b : BLok hm1 c') : GI hm1 c' := by
  obtain ⟨g1, g2, g3, -⟩ := G
  refine ⟨g1.cg (fun k => by rw [e]) (fun k => by rw [e]), fun r hr => ?_, ?_, b⟩
  · rw [mn_e e] at hr ⊢
    exact g2 r hr
  · rw [mn_e e]
    exact g3
variable (rc : Nat → Int32 → Nat → Nat → Nat → Nat → Nat → Nat → Nat → Nat → Nat → Int32 → KH → KO Int32)
theorem k331 {i : Nat} {v1 v13 : Int32} (hi : i < 78) (hn : ∃ b, v13 = nI b ∧ b < 2147483648) (ih : ∀ g, KS L xs (4 * (i + 1)) (i + 1) (700 + (i + 1)) g → QQ L xs (rc 41 v1 0 42 43 44 45 46 47 48 49 (nI (i + 1)) g)) {g : KH} (K : KS L xs (4 * i + 4) (i + 1) (700 + (i + 1)) g) : QQ L xs (L_keeper_b331 rc 41 v1 0 42 43 44 45 46 47 48 49 (nI i) v13 g) := by
  have fin : ∀ g, KS L xs (4 * i + 4) (i + 1) (700 + (i + 1)) g → QQ L xs (L_keeper_b373 rc 41 v1 0 42 43 44 45 46 47 48 49 (nI i) g) := fun g K => by
    unfold L_keeper_b373
    rw [nI_1]
    exact ih g (by rw [show 4 * (i + 1) = 4 * i + 4 by omega]; exact K)
  unfold L_keeper_b331
  rw [kd4 (by decide)]
  unfold kif
  split
  · have K0 := K
    obtain ⟨hm, R, T, G, C, F⟩ := K
    obtain ⟨k47, n47⟩ := T.1.2.2.2.2.2.1
    have hP := R.P
    have e2 : kI g 47 2 = nI (mn hm 0 8) := T.2.2.2.2.2.1.2.2.1.trans R.cnt.2.1
    rw [gAI_2 k47 (by omega), e2]
    split
    · exact fin g K0
    · rename_i hne
      have h0 : 0 < mn hm 0 8 := by
        rw [show (0 : Int32) = nI 0 from rfl, ka_le (by omega) (by omega)] at hne
        omega
      obtain ⟨b, eb, hb⟩ := hn
      have d7 : nI b / (7 : Int32) = nI (b / 7) := nI_div (b := 7) hb (by omega)
      rw [kd4 (by decide), gAI_2 k47 (by omega), e2, kdv_k h0 (by omega), eb, d7, nI_mod (by omega) (by omega)]
      obtain ⟨h1, e1, R1, f1, ff⟩ := law_areTrips R (by omega) T G.2.1 G.2.2.1 (Nat.mod_lt (b / 7) h0)
      rw [e1, kb_ret]
      rw [if_neg (by decide)]
      exact fin h1 ⟨hm, R1, T.fl f1, G, C.to (F41.of f1), fun a q1 q2 => ff a (by omega) q2 (F a q1 q2)⟩
  · exact fin g K
theorem k288 {i : Nat} {v1 v13 : Int32} (hi : i < 78) (hn : ∃ b, v13 = nI b ∧ b < 2147483648) (ih : ∀ g, KS L xs (4 * (i + 1)) (i + 1) (700 + (i + 1)) g → QQ L xs (rc 41 v1 0 42 43 44 45 46 47 48 49 (nI (i + 1)) g)) {g : KH} (K : KS L xs (4 * i + 4) i (700 + i) g) : QQ L xs (L_keeper_b288 rc 41 v1 0 42 43 44 45 46 47 48 49 (nI i) v13 g) := by
  have bills : ∀ (s0 : Int32) g, KS L xs (4 * i + 4) i (700 + i) g → QQ L xs (L_keeper_b325 rc 41 v1 0 42 43 44 45 46 47 48 49 (nI i) v13 s0 47 0 g) := fun s0 g K => by
    obtain ⟨hm, R, T, G, C, F⟩ := K
    obtain ⟨h1, hm1, e1, R1, T1, f1, eI, b1, ff⟩ := law_areBills (A := 700 + i) R (by omega) T G.2.2.1 (k := i) (by omega) G.2.2.2 (by omega) (by omega) (F _ (by omega) (by omega)) s0
    unfold L_keeper_b325
    rw [nI_clamp (by omega), e1, kb_ret, kif_f (by decide)]
    exact k331 rc hi hn ih ⟨hm1, R1, T1, G.eI eI b1, C.to (F41.of f1), fun a q1 q2 => ff a (by omega) q2 (by omega) (F a (by omega) q2)⟩
  unfold L_keeper_b288
  rw [kd4 (by decide)]
  unfold kif
  split
  · obtain ⟨hm, R, T, G, C, F⟩ := K
    obtain ⟨m, e1⟩ := law_areOrdered R T
    have K1 : KS L xs (4 * i + 4) i (700 + i) (sX g m) := KS.X ⟨hm, R, T, G, C, F⟩ m
    rw [e1, kb_ret, if_neg (by decide), kd4 (by decide)]
    split
    · exact bills 1 _ K1
    · exact bills 0 _ K1
  · obtain ⟨hm, R, T, G, C, F⟩ := K
    exact k331 rc hi hn ih ⟨hm, R, T, G.up, C, fun a q1 q2 => F a (by omega) q2⟩
theorem k256 {i : Nat} {v1 v13 : Int32} (hi : i < 78) (hn : ∃ b, v13 = nI b ∧ b < 2147483648) (ih : ∀ g, KS L xs (4 * (i + 1)) (i + 1) (700 + (i + 1)) g → QQ L xs (rc 41 v1 0 42 43 44 45 46 47 48 49 (nI (i + 1)) g)) {g : KH} (K : KS L xs (4 * i + 4) i (700 + i) g) : QQ L xs (L_keeper_b256 rc 41 v1 0 42 43 44 45 46 47 48 49 (nI i) v13 g) := by
  have K0 := K
  obtain ⟨hm, R, T, G, C, F⟩ := K
  obtain ⟨k47, n47⟩ := T.1.2.2.2.2.2.1
  have M := R.MX
  have hR := M.2.2.1.1
  have e3 : kI g 47 3 = nI (mn hm 0 16) := T.2.2.2.2.2.1.2.2.2.trans M.2.2.1.2
  unfold L_keeper_b256
  rw [gAI_3 k47 (by omega), e3]
  by_cases h0 : mn hm 0 16 = 0
  · rw [kif_t (by rw [h0]; decide)]
    exact k288 rc hi hn ih K0
  · obtain ⟨b, eb, hb⟩ := hn
    have d5 : nI b / (5 : Int32) = nI (b / 5) := nI_div (b := 5) hb (by omega)
    obtain ⟨m, e1⟩ := law_isReading R T (Nat.mod_lt (b / 5) (show 0 < mn hm 0 16 by omega))
    rw [kif_f (by rw [show (0 : Int32) = nI 0 from rfl, ka_le (by omega) (by omega)]; omega), kd4 (by decide), gAI_3 k47 (by omega), e3, kdv_k (by omega) (by omega), eb, d5, nI_mod (by omega) (by omega), e1, kb_ret, kif_f (by decide)]
    exact k288 rc hi ⟨b, rfl, hb⟩ ih (K0.X m)
theorem k193 {i a b K : Nat} {v1 : Int32} (hi : i < 78) (ha : a < 1073741824) (hb : b < 1073741824) (hK : K < 23) (ih : ∀ g, KS L xs (4 * (i + 1)) (i + 1) (700 + (i + 1)) g → QQ L xs (rc 41 v1 0 42 43 44 45 46 47 48 49 (nI (i + 1)) g)) {g : KH} (Ks : KS L xs (4 * i) i (700 + i) g) : QQ L xs (L_keeper_b193 rc 41 v1 0 42 43 44 45 46 47 48 49 (nI i) (nI a) (nI b) (nI K) g) := by
  obtain ⟨hm, R, T, G, C, F⟩ := Ks
  obtain ⟨h1, hm1, e1, R1, T1, G1, q1, q2⟩ := law_step (j := 4 * i) R (by omega) T G hK ha hb
  have K1 : KS L xs (4 * i + 4) i (700 + i) h1 := ⟨hm1, R1, T1, G1, C.to q1, fun a z1 z2 => q2 a (by omega) z2 (F a z1 z2)⟩
  unfold L_keeper_b193
  rw [nI_clamp (by omega), e1, kb_ret, kif_f (by decide), kd4 (by decide)]
  unfold kif
  split
  · obtain ⟨k42, n42⟩ := T1.1.1
    obtain ⟨m, e2⟩ := law_isSpelled R1 T1
    have m8 : nI a - nI a / (8 : Int32) * (8 : Int32) = nI (a % 8) := nI_mod (b := 8) (by omega) (by omega)
    rw [gAI_0 k42 (by omega), e2, kb_ret, if_neg (by decide), kd4 (by decide), m8, law_areDistances (R1.X m) (T1.X m) G1.1 (Nat.mod_lt _ (by omega)), kb_ret, if_neg (by decide)]
    exact k256 rc hi ⟨b, rfl, by omega⟩ ih ((K1.X m).X 0)
  · exact k256 rc hi ⟨b, rfl, by omega⟩ ih K1
theorem law_86 (hL : L ≤ 260) {v : Nat} (hv : v ≤ 480) : ∀ (f i : Nat) (g : KH), i ≤ 78 → 78 < i + f → KS L xs (4 * i) i (700 + i) g → QQ L xs (L_keeper_L86 f 41 (nI v) 0 42 43 44 45 46 47 48 49 (nI i) g) := by
  intro f
  induction f with
  | zero => intro i g h1 h2; omega
  | succ f ih =>
    intro i g h1 h2 K
    unfold L_keeper_L86 L_keeper_b86
    by_cases hi : 78 ≤ i
    · obtain rfl : i = 78 := by omega
      obtain ⟨hm, R, T, G, C, F⟩ := K
      obtain ⟨g1, hm1, e1, R1, T1, f1, eI, b1, ff⟩ := law_areBills (A := 800) R (by omega) T G.2.2.1 (k := 78) (by omega) G.2.2.2 (by omega) (by omega) (F _ (by omega) (by omega)) 1
      rw [kif_t (by decide), e1, kb_ret]
      exact ⟨g1, rfl, C.to (F41.of f1)⟩
    · have hi78 : i < 78 := by omega
      have K0 := K
      obtain ⟨hm, R, T, G, C, F⟩ := K
      have p3 : nI v + (3 : Int32) * nI i = nI (v + 3 * i) := by rw [show (3 : Int32) * nI i = nI (3 * i) from ka_mul 3 i, ka_add]
      have p1 : nI (v + 3 * i) + (1 : Int32) = nI (v + 3 * i + 1) := ka_add _ 1
      have p2 : nI (v + 3 * i) + (2 : Int32) = nI (v + 3 * i + 2) := ka_add _ 2
      obtain ⟨a, ha, e1⟩ := law_draw C hL (P := v + 3 * i + 1) (most := 1073741824) (by omega) (by omega) (by omega)
      obtain ⟨b, hb, e2⟩ := law_draw C hL (P := v + 3 * i + 2) (most := 1073741824) (by omega) (by omega) (by omega)
      obtain ⟨K, hK, e4⟩ := law_draw C hL (P := v + 3 * i) (most := 23) (by omega) (by omega) (by omega)
      have key : ∀ K, K < 23 → QQ L xs (L_keeper_b193 (L_keeper_L86 f) 41 (nI v) 0 42 43 44 45 46 47 48 49 (nI i) (nI a) (nI b) (nI K) g) := fun K hK => k193 (L_keeper_L86 f) hi78 ha hb hK (fun g K => ih (i + 1) g (by omega) (by omega) K) K0
      rw [kif_f (by rw [show (78 : Int32) = nI 78 from rfl, ka_le (by omega) (by omega)]; exact hi), p3, p1, show f_L_draw 41 (nI (v + 3 * i + 1)) 1073741824 g = _ from e1, kb_ret, p2, show f_L_draw 41 (nI (v + 3 * i + 2)) 1073741824 g = _ from e2, kb_ret]
      unfold kif
      split
      · split
        · exact key 5 (by omega)
        · split
          · split
            · exact key 19 (by omega)
            · split
              · rw [show f_L_draw 41 (nI (v + 3 * i)) 23 g = _ from e4, kb_ret]
                exact key K hK
              · exact key 9 (by omega)
          · exact key 16 (by omega)
      · exact key 0 (by omega)
end KEEP
