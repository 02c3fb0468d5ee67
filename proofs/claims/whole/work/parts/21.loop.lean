def PW (RR : Nat → KH → KH → Prop) (w : Int32 → Int32 → Int32 → KH → KO Int32) {τ : Type} (m : Int32 → Int32 → Int32 → KH → KO τ) (conv : τ → Int64) : Prop :=
  ∀ (j : Nat) (hx hm : KH) (a b c : Int32), j < 512 → RR j hx hm → ∃ (n : Nat) (kx : Int32) (bv : τ) (hx1 hm1 : KH), w a b c (sX hx n) = some (.inr kx, hx1) ∧ m a b c hm = some (.inr bv, hm1) ∧ f_X10_thrown 0 hm1 = some (.inr kx, hm1) ∧ (kx = 0 → kL hx1 36 0 = conv bv) ∧ RR (j + 1) hx1 hm1
def PN (RR : Nat → KH → KH → Prop) (w m : KH → KO Int32) : Prop :=
  ∀ (j : Nat) (hx hm : KH), j < 512 → RR j hx hm → ∃ (n : Nat) (bv : Int32) (hx1 hm1 : KH), w (sX hx n) = some (.inr bv, hx1) ∧ m hm = some (.inr bv, hm1) ∧ RR (j + 1) hx1 hm1
def PB (RR : Nat → KH → KH → Prop) : Prop := (∀ j hx hm, RR j hx hm → kd hx 0 = 10 ∧ kd hx 36 = 22 ∧ kn hx 36 = 1 ∧ kd hm 0 = 11) ∧ ∀ j hx hm, RR j hx hm → RR (j + 1) hx hm
theorem PB.k3 {RR : Nat → KH → KH → Prop} (B : PB RR) {j hx hm} (h : RR j hx hm) : kd hx 36 = 22 ∧ ¬ ((0 : Int32) < 0 ∨ kn hx 36 ≤ (0 : Int32).toNatClampNeg) := by
  obtain ⟨-, h2, h3, -⟩ := B.1 j hx hm h
  refine ⟨h2, ?_⟩
  rw [h3]
  decide
theorem klen_sub {L i : Nat} (hL : L ≤ 2048) (hi : i ≤ 2048) (h : ¬ (Int32.ofNat L - 4) < nI i) : i + 4 ≤ L := by
  rw [Int32.lt_iff_toInt_lt, Int32.toInt_sub, nI_toInt (by omega)] at h
  have e : (Int32.ofNat L).toInt = (L : Int) := nI_toInt (n := L) (by omega)
  rw [e, show (4 : Int32).toInt = 4 from by decide] at h
  have e2 : ((L : Int) - 4).bmod (2 ^ 32) = (L : Int) - 4 := by
    rw [Int.bmod_eq_of_le] <;> omega
  rw [e2] at h
  omega
set_option maxHeartbeats 4000000 in
set_option maxRecDepth 100000 in
theorem kand63 (x : Int32) : ∃ k : Nat, k < 64 ∧ x &&& 63 = nI k := pk_andE x 6 (by decide)

def PALL (RR : Nat → KH → KH → Prop) : Prop := PB RR ∧ PW RR (fun a b c h => f_L_pass 0 a 36 h) (fun a b c h => f_X10_pass 0 a h) Int32.toInt64 ∧ PN RR (f_X9_now 0) (f_X10_now 0) ∧ PW RR (fun a b c h => f_L_road 0 a b c 36 h) (fun a b c h => f_X10_road 0 a b c h) Int32.toInt64 ∧ PW RR (fun a b c h => f_L_distance 0 a b 36 h) (fun a b c h => f_X10_distance 0 a b h) Int32.toInt64 ∧ PW RR (fun a b c h => f_L_setPause 0 a 36 h) (fun a b c h => f_X10_setPause 0 a h) Int32.toInt64 ∧ PW RR (fun a b c h => f_L_setRate 0 a b 36 h) (fun a b c h => f_X10_setRate 0 a b h) Int32.toInt64 ∧ PW RR (fun a b c h => f_L_spell 0 a 36 h) (fun a b c h => f_X10_spell 0 a h) Int32.toInt64 ∧ PW RR (fun a b c h => f_L_insert 0 a b 36 h) (fun a b c h => f_X10_insert 0 a b h) Int32.toInt64 ∧ PN RR (f_X9_mirror 0) (f_X10_mirror 0) ∧ PN RR (f_X9_clearSpelled 0) (f_X10_clearSpelled 0) ∧ PW RR (fun a b c h => f_L_charAt 0 a 36 h) (fun a b c h => f_X10_charAt 0 a h) Int32.toInt64 ∧ PW RR (fun a b c h => f_L_alike 0 a b 36 h) (fun a b c h => f_X10_alike 0 a b h) (fun b : Int32 => if b = 0 then 0 else 1) ∧ PW RR (fun a b c h => f_L_register 0 a b 36 h) (fun a b c h => f_X10_register 0 a b h) Int32.toInt64 ∧ PW RR (fun a b c h => f_L_sell 0 a b 36 h) (fun a b c h => f_X10_sell 0 a b h) Int32.toInt64 ∧ PN RR (f_X9_plates 0) (f_X10_plates 0) ∧ PW RR (fun a b c h => f_L_plateAt 0 a 36 h) (fun a b c h => f_X10_plateAt 0 a h) Int32.toInt64 ∧ PW RR (fun a b c h => f_L_holder 0 a b 36 h) (fun a b c h => f_X10_holder 0 a b h) Int32.toInt64 ∧ PW RR (fun a b c h => f_L_read 0 a b 36 h) (fun a b c h => f_X10_read 0 a b h) Int32.toInt64 ∧ PW RR (fun a b c h => f_L_correct 0 a b 36 h) (fun a b c h => f_X10_correct 0 a b h) Int32.toInt64 ∧ PW RR (fun a b c h => f_L_uncorrect 0 a 36 h) (fun a b c h => f_X10_uncorrect 0 a h) Int32.toInt64 ∧ PW RR (fun a b c h => f_L_plateOf 0 a 36 h) (fun a b c h => f_X10_plateOf 0 a h) Int32.toInt64 ∧ PW RR (fun a b c h => f_L_cost 0 a b 36 h) (fun a b c h => f_X10_cost 0 a b h) Int32.toInt64 ∧ PW RR (fun a b c h => f_L_trips 0 a 36 h) (fun a b c h => f_X10_trips 0 a h) Int32.toInt64 ∧ PW RR (fun a b c h => f_L_tripsAnew 0 a 36 h) (fun a b c h => f_X10_tripsAnew 0 a h) Int32.toInt64 ∧ PW RR (fun a b c h => f_L_tripOf 0 a 36 h) (fun a b c h => f_X10_tripOf 0 a h) Int32.toInt64 ∧ PW RR (fun a b c h => f_L_toll 0 a b 36 h) (fun a b c h => f_X10_toll 0 a b h) Int32.toInt64 ∧ PW RR (fun a b c h => f_L_driverOf 0 a b 36 h) (fun a b c h => f_X10_driverOf 0 a b h) Int32.toInt64 ∧ PW RR (fun a b c h => f_L_due 0 a 36 h) (fun a b c h => f_X10_due 0 a h) Int32.toInt64 ∧ PW RR (fun a b c h => f_L_dueAnew 0 a 36 h) (fun a b c h => f_X10_dueAnew 0 a h) Int32.toInt64 ∧ PN RR (f_X9_settle 0) (f_X10_settle 0) ∧ PW RR (fun a b c h => f_L_billed 0 a 36 h) (fun a b c h => f_X10_billed 0 a h) id ∧ PW RR (fun a b c h => f_L_paidBack 0 a 36 h) (fun a b c h => f_X10_paidBack 0 a h) id ∧ PW RR (fun a b c h => f_L_warrant 0 a b c 36 h) (fun a b c h => f_X10_warrant 0 a b c h) Int32.toInt64 ∧ PW RR (fun a b c h => f_L_ask 0 a b 36 h) (fun a b c h => f_X10_ask 0 a b h) Int32.toInt64 ∧ PW RR (fun a b c h => f_L_stale 0 a 36 h) (fun a b c h => f_X10_stale 0 a h) Int32.toInt64
set_option maxHeartbeats 8000000 in
set_option maxRecDepth 100000 in
theorem lw_loop {Y : KY} (hC : kCL Y) {RR : Nat → KH → KH → Prop} (PA : PALL RR) (hL : yL Y ≤ 2048) : ∀ (f j : Nat) (hx hm : KH), 513 ≤ j + f → 4 * j ≤ 2048 → RR j hx hm → kJL Y (100 + 16 * j) (8000 + 200 * j) [(0, .inr (.inr (some 0))), (1, .inr (.inr (some 1))), (2, .inr (.inr (some 2))), (3, .inr (.inr (some 3))), (4, .inl (nI (4 * j)))] [] 23 hx hm := by
  obtain ⟨B, p0, p1, p2, p3, p4, p5, p6, p7, p8, p9, p10, p11, p12, p13, p14, p15, p16, p17, p18, p19, p20, p21, p22, p23, p24, p25, p26, p27, p28, p29, p30, p31, p32, p33, p34⟩ := PA
  intro f
  induction f with
  | zero =>
    intro j hx hm h1 h2
    omega
  | succ f ih =>
    intro j hx hm hf hj hR
    refine kl_iload hC 4 dL_law_23 rfl ?_
    refine kl_aloadn hC 0 dL_law_25 rfl rfl ?_
    refine kl_slen hC dL_law_26 ?_
    refine kl_iconst (v := 4) hC dL_law_27 (by decide) ?_
    refine kl_isub hC dL_law_28 ?_
    refine kl_icmp_gt (tgt := 2152) hC dL_law_29 (by decide) (fun _ => ?_) (fun hlen => ?_)
    · refine kl_iconst (v := 1) hC dL_law_2152 (by decide) ?_
      exact kl_ret hC dL_law_2153 ⟨by omega, by omega⟩
    · have hin : 4 * j + 4 ≤ yL Y := klen_sub hL hj hlen
      have hi0 : vp_in (nI (4 * j)) (yL Y) := vp_in_nI (by omega) (by omega)
      have hi1 : vp_in (nI (4 * j) + 1) (yL Y) := by rw [nI_1]; exact vp_in_nI (by omega) (by omega)
      have hi2 : vp_in (nI (4 * j) + 2) (yL Y) := by rw [show (2 : Int32) = nI 2 from rfl, nI_add]; exact vp_in_nI (by omega) (by omega)
      have hi3 : vp_in (nI (4 * j) + 3) (yL Y) := by rw [show (3 : Int32) = nI 3 from rfl, nI_add]; exact vp_in_nI (by omega) (by omega)
      obtain ⟨hk0, hk36, hkn, hk1⟩ := B.1 j hx hm hR
      have back : ∀ (cells slots : Nat) (hx1 hm1 : KH), cells ≤ 100 + 16 * (j + 1) → slots ≤ 8000 + 200 * (j + 1) → RR (j + 1) hx1 hm1 → kJL Y cells slots [(0, .inr (.inr (some 0))), (1, .inr (.inr (some 1))), (2, .inr (.inr (some 2))), (3, .inr (.inr (some 3))), (4, .inl (nI (4 * j)))] [] 2146 hx1 hm1 := by
        intro cells slots hx1 hm1 hc hs hR1
        refine kl_widen hc hs ?_
        refine kl_iinc (v := nI (4 * (j + 1))) (L' := [(4, .inl (nI (4 * (j + 1)))), (0, .inr (.inr (some 0))), (1, .inr (.inr (some 1))), (2, .inr (.inr (some 2))), (3, .inr (.inr (some 3)))]) hC 4 dL_law_2146 rfl (by rw [show Int32.ofInt 4 = nI 4 from rfl, nI_add]; congr 1) (by decide) rfl ?_
        refine kl_goto (tgt := 23) hC dL_law_2149 (by decide) ?_
        exact kl_sub [1, 2, 3, 4, 0] rfl (ih (j + 1) hx1 hm1 (by omega) (by omega) hR1)
      have hjj : j < 512 := by omega
      refine kl_aloadn hC 0 dL_law_32 rfl rfl ?_
      refine kl_iload hC 4 dL_law_33 rfl ?_
      refine kl_sld hC hi0 dL_law_35 ?_
      refine kl_bipush (v := 63) hC dL_law_36 (by decide) ?_
      refine kl_iand hC dL_law_38 ?_
      obtain ⟨k, hk, ek⟩ := kand63 ((yx Y) (nI (4 * j)).toNatClampNeg)
      rw [ek]
      have hsplit : k = 0 ∨ k = 1 ∨ k = 2 ∨ k = 3 ∨ k = 4 ∨ k = 5 ∨ k = 6 ∨ k = 7 ∨ k = 8 ∨ k = 9 ∨ k = 10 ∨ k = 11 ∨ k = 12 ∨ k = 13 ∨ k = 14 ∨ k = 15 ∨ k = 16 ∨ k = 17 ∨ k = 18 ∨ k = 19 ∨ k = 20 ∨ k = 21 ∨ k = 22 ∨ k = 23 ∨ k = 24 ∨ k = 25 ∨ k = 26 ∨ k = 27 ∨ k = 28 ∨ k = 29 ∨ k = 30 ∨ k = 31 ∨ k = 32 ∨ k = 33 ∨ k = 34 ∨ 35 ≤ k := by omega
      rcases hsplit with rfl | rfl | rfl | rfl | rfl | rfl | rfl | rfl | rfl | rfl | rfl | rfl | rfl | rfl | rfl | rfl | rfl | rfl | rfl | rfl | rfl | rfl | rfl | rfl | rfl | rfl | rfl | rfl | rfl | rfl | rfl | rfl | rfl | rfl | rfl | hk35
      · refine kl_switchIn (tgt := 192) hC dL_law_39 (by decide) (by decide) rfl (by decide) ?_
        obtain ⟨n, kx, bv, hx1, hm1, e1, e2, e3, e4, hR1⟩ := p0 j hx hm ((yx Y) (nI (4 * j) + 1).toNatClampNeg) 0 0 hjj hR
        refine kl_ghost n ?_
        exact lw_case_0 hC hi1 hk0 hk1 e1 e2 e3 e4 (B.1 _ _ _ hR1).2.2.2 (B.k3 hR1) ⟨by omega, by omega⟩ ⟨by omega, by omega⟩ (back _ _ hx1 hm1 (by omega) (by omega) hR1)
      · refine kl_switchIn (tgt := 248) hC dL_law_39 (by decide) (by decide) rfl (by decide) ?_
        obtain ⟨n, bv, hx1, hm1, e1, e2, hR1⟩ := p1 j hx hm hjj hR
        refine kl_ghost n ?_
        exact lw_case_1 hC hk0 hk1 e1 e2 ⟨by omega, by omega⟩ ⟨by omega, by omega⟩ (back _ _ hx1 hm1 (by omega) (by omega) hR1)
      · refine kl_switchIn (tgt := 261) hC dL_law_39 (by decide) (by decide) rfl (by decide) ?_
        obtain ⟨n, kx, bv, hx1, hm1, e1, e2, e3, e4, hR1⟩ := p2 j hx hm ((yx Y) (nI (4 * j) + 1).toNatClampNeg) ((yx Y) (nI (4 * j) + 2).toNatClampNeg) ((yx Y) (nI (4 * j) + 3).toNatClampNeg) hjj hR
        refine kl_ghost n ?_
        exact lw_case_2 hC hi1 hi2 hi3 hk0 hk1 e1 e2 e3 e4 (B.1 _ _ _ hR1).2.2.2 (B.k3 hR1) ⟨by omega, by omega⟩ ⟨by omega, by omega⟩ (back _ _ hx1 hm1 (by omega) (by omega) hR1)
      · refine kl_switchIn (tgt := 341) hC dL_law_39 (by decide) (by decide) rfl (by decide) ?_
        obtain ⟨n, kx, bv, hx1, hm1, e1, e2, e3, e4, hR1⟩ := p3 j hx hm ((yx Y) (nI (4 * j) + 1).toNatClampNeg) ((yx Y) (nI (4 * j) + 2).toNatClampNeg) 0 hjj hR
        refine kl_ghost n ?_
        exact lw_case_3 hC hi1 hi2 hk0 hk1 e1 e2 e3 e4 (B.1 _ _ _ hR1).2.2.2 (B.k3 hR1) ⟨by omega, by omega⟩ ⟨by omega, by omega⟩ (back _ _ hx1 hm1 (by omega) (by omega) hR1)
      · refine kl_switchIn (tgt := 409) hC dL_law_39 (by decide) (by decide) rfl (by decide) ?_
        obtain ⟨n, kx, bv, hx1, hm1, e1, e2, e3, e4, hR1⟩ := p4 j hx hm ((yx Y) (nI (4 * j) + 1).toNatClampNeg) 0 0 hjj hR
        refine kl_ghost n ?_
        exact lw_case_4 hC hi1 hk0 hk1 e1 e2 e3 e4 (B.1 _ _ _ hR1).2.2.2 (B.k3 hR1) ⟨by omega, by omega⟩ ⟨by omega, by omega⟩ (back _ _ hx1 hm1 (by omega) (by omega) hR1)
      · refine kl_switchIn (tgt := 465) hC dL_law_39 (by decide) (by decide) rfl (by decide) ?_
        obtain ⟨n, kx, bv, hx1, hm1, e1, e2, e3, e4, hR1⟩ := p5 j hx hm ((yx Y) (nI (4 * j) + 1).toNatClampNeg) ((yx Y) (nI (4 * j) + 2).toNatClampNeg) 0 hjj hR
        refine kl_ghost n ?_
        exact lw_case_5 hC hi1 hi2 hk0 hk1 e1 e2 e3 e4 (B.1 _ _ _ hR1).2.2.2 (B.k3 hR1) ⟨by omega, by omega⟩ ⟨by omega, by omega⟩ (back _ _ hx1 hm1 (by omega) (by omega) hR1)
      · refine kl_switchIn (tgt := 533) hC dL_law_39 (by decide) (by decide) rfl (by decide) ?_
        obtain ⟨n, kx, bv, hx1, hm1, e1, e2, e3, e4, hR1⟩ := p6 j hx hm ((yx Y) (nI (4 * j) + 1).toNatClampNeg) 0 0 hjj hR
        refine kl_ghost n ?_
        exact lw_case_6 hC hi1 hk0 hk1 e1 e2 e3 e4 (B.1 _ _ _ hR1).2.2.2 (B.k3 hR1) ⟨by omega, by omega⟩ ⟨by omega, by omega⟩ (back _ _ hx1 hm1 (by omega) (by omega) hR1)
      · refine kl_switchIn (tgt := 589) hC dL_law_39 (by decide) (by decide) rfl (by decide) ?_
        obtain ⟨n, kx, bv, hx1, hm1, e1, e2, e3, e4, hR1⟩ := p7 j hx hm ((yx Y) (nI (4 * j) + 1).toNatClampNeg) ((yx Y) (nI (4 * j) + 2).toNatClampNeg) 0 hjj hR
        refine kl_ghost n ?_
        exact lw_case_7 hC hi1 hi2 hk0 hk1 e1 e2 e3 e4 (B.1 _ _ _ hR1).2.2.2 (B.k3 hR1) ⟨by omega, by omega⟩ ⟨by omega, by omega⟩ (back _ _ hx1 hm1 (by omega) (by omega) hR1)
      · refine kl_switchIn (tgt := 657) hC dL_law_39 (by decide) (by decide) rfl (by decide) ?_
        obtain ⟨n, bv, hx1, hm1, e1, e2, hR1⟩ := p8 j hx hm hjj hR
        refine kl_ghost n ?_
        exact lw_case_8 hC hk0 hk1 e1 e2 ⟨by omega, by omega⟩ ⟨by omega, by omega⟩ (back _ _ hx1 hm1 (by omega) (by omega) hR1)
      · refine kl_switchIn (tgt := 670) hC dL_law_39 (by decide) (by decide) rfl (by decide) ?_
        obtain ⟨n, bv, hx1, hm1, e1, e2, hR1⟩ := p9 j hx hm hjj hR
        refine kl_ghost n ?_
        exact lw_case_9 hC hk0 hk1 e1 e2 ⟨by omega, by omega⟩ ⟨by omega, by omega⟩ (back _ _ hx1 hm1 (by omega) (by omega) hR1)
      · refine kl_switchIn (tgt := 683) hC dL_law_39 (by decide) (by decide) rfl (by decide) ?_
        obtain ⟨n, kx, bv, hx1, hm1, e1, e2, e3, e4, hR1⟩ := p10 j hx hm ((yx Y) (nI (4 * j) + 1).toNatClampNeg) 0 0 hjj hR
        refine kl_ghost n ?_
        exact lw_case_10 hC hi1 hk0 hk1 e1 e2 e3 e4 (B.1 _ _ _ hR1).2.2.2 (B.k3 hR1) ⟨by omega, by omega⟩ ⟨by omega, by omega⟩ (back _ _ hx1 hm1 (by omega) (by omega) hR1)
      · refine kl_switchIn (tgt := 739) hC dL_law_39 (by decide) (by decide) rfl (by decide) ?_
        obtain ⟨n, kx, bv, hx1, hm1, e1, e2, e3, e4, hR1⟩ := p11 j hx hm ((yx Y) (nI (4 * j) + 1).toNatClampNeg) ((yx Y) (nI (4 * j) + 2).toNatClampNeg) 0 hjj hR
        refine kl_ghost n ?_
        exact lw_case_11 hC hi1 hi2 hk0 hk1 e1 e2 e3 (fun q z => by have h := e4 q; rw [z] at h; exact h) (fun q z => (e4 q).trans (if_neg z)) (B.1 _ _ _ hR1).2.2.2 (B.k3 hR1) ⟨by omega, by omega⟩ ⟨by omega, by omega⟩ (back _ _ hx1 hm1 (by omega) (by omega) hR1)
      · refine kl_switchIn (tgt := 814) hC dL_law_39 (by decide) (by decide) rfl (by decide) ?_
        obtain ⟨n, kx, bv, hx1, hm1, e1, e2, e3, e4, hR1⟩ := p12 j hx hm ((yx Y) (nI (4 * j) + 1).toNatClampNeg) ((yx Y) (nI (4 * j) + 2).toNatClampNeg) 0 hjj hR
        refine kl_ghost n ?_
        exact lw_case_12 hC hi1 hi2 hk0 hk1 e1 e2 e3 e4 (B.1 _ _ _ hR1).2.2.2 (B.k3 hR1) ⟨by omega, by omega⟩ ⟨by omega, by omega⟩ (back _ _ hx1 hm1 (by omega) (by omega) hR1)
      · refine kl_switchIn (tgt := 882) hC dL_law_39 (by decide) (by decide) rfl (by decide) ?_
        obtain ⟨n, kx, bv, hx1, hm1, e1, e2, e3, e4, hR1⟩ := p13 j hx hm ((yx Y) (nI (4 * j) + 1).toNatClampNeg) ((yx Y) (nI (4 * j) + 2).toNatClampNeg) 0 hjj hR
        refine kl_ghost n ?_
        exact lw_case_13 hC hi1 hi2 hk0 hk1 e1 e2 e3 e4 (B.1 _ _ _ hR1).2.2.2 (B.k3 hR1) ⟨by omega, by omega⟩ ⟨by omega, by omega⟩ (back _ _ hx1 hm1 (by omega) (by omega) hR1)
      · refine kl_switchIn (tgt := 950) hC dL_law_39 (by decide) (by decide) rfl (by decide) ?_
        obtain ⟨n, bv, hx1, hm1, e1, e2, hR1⟩ := p14 j hx hm hjj hR
        refine kl_ghost n ?_
        exact lw_case_14 hC hk0 hk1 e1 e2 ⟨by omega, by omega⟩ ⟨by omega, by omega⟩ (back _ _ hx1 hm1 (by omega) (by omega) hR1)
      · refine kl_switchIn (tgt := 963) hC dL_law_39 (by decide) (by decide) rfl (by decide) ?_
        obtain ⟨n, kx, bv, hx1, hm1, e1, e2, e3, e4, hR1⟩ := p15 j hx hm ((yx Y) (nI (4 * j) + 1).toNatClampNeg) 0 0 hjj hR
        refine kl_ghost n ?_
        exact lw_case_15 hC hi1 hk0 hk1 e1 e2 e3 e4 (B.1 _ _ _ hR1).2.2.2 (B.k3 hR1) ⟨by omega, by omega⟩ ⟨by omega, by omega⟩ (back _ _ hx1 hm1 (by omega) (by omega) hR1)
      · refine kl_switchIn (tgt := 1019) hC dL_law_39 (by decide) (by decide) rfl (by decide) ?_
        obtain ⟨n, kx, bv, hx1, hm1, e1, e2, e3, e4, hR1⟩ := p16 j hx hm ((yx Y) (nI (4 * j) + 1).toNatClampNeg) ((yx Y) (nI (4 * j) + 2).toNatClampNeg) 0 hjj hR
        refine kl_ghost n ?_
        exact lw_case_16 hC hi1 hi2 hk0 hk1 e1 e2 e3 e4 (B.1 _ _ _ hR1).2.2.2 (B.k3 hR1) ⟨by omega, by omega⟩ ⟨by omega, by omega⟩ (back _ _ hx1 hm1 (by omega) (by omega) hR1)
      · refine kl_switchIn (tgt := 1087) hC dL_law_39 (by decide) (by decide) rfl (by decide) ?_
        obtain ⟨n, kx, bv, hx1, hm1, e1, e2, e3, e4, hR1⟩ := p17 j hx hm ((yx Y) (nI (4 * j) + 1).toNatClampNeg) ((yx Y) (nI (4 * j) + 2).toNatClampNeg) 0 hjj hR
        refine kl_ghost n ?_
        exact lw_case_17 hC hi1 hi2 hk0 hk1 e1 e2 e3 e4 (B.1 _ _ _ hR1).2.2.2 (B.k3 hR1) ⟨by omega, by omega⟩ ⟨by omega, by omega⟩ (back _ _ hx1 hm1 (by omega) (by omega) hR1)
      · refine kl_switchIn (tgt := 1155) hC dL_law_39 (by decide) (by decide) rfl (by decide) ?_
        obtain ⟨n, kx, bv, hx1, hm1, e1, e2, e3, e4, hR1⟩ := p18 j hx hm ((yx Y) (nI (4 * j) + 1).toNatClampNeg) ((yx Y) (nI (4 * j) + 2).toNatClampNeg) 0 hjj hR
        refine kl_ghost n ?_
        exact lw_case_18 hC hi1 hi2 hk0 hk1 e1 e2 e3 e4 (B.1 _ _ _ hR1).2.2.2 (B.k3 hR1) ⟨by omega, by omega⟩ ⟨by omega, by omega⟩ (back _ _ hx1 hm1 (by omega) (by omega) hR1)
      · refine kl_switchIn (tgt := 1223) hC dL_law_39 (by decide) (by decide) rfl (by decide) ?_
        obtain ⟨n, kx, bv, hx1, hm1, e1, e2, e3, e4, hR1⟩ := p19 j hx hm ((yx Y) (nI (4 * j) + 1).toNatClampNeg) 0 0 hjj hR
        refine kl_ghost n ?_
        exact lw_case_19 hC hi1 hk0 hk1 e1 e2 e3 e4 (B.1 _ _ _ hR1).2.2.2 (B.k3 hR1) ⟨by omega, by omega⟩ ⟨by omega, by omega⟩ (back _ _ hx1 hm1 (by omega) (by omega) hR1)
      · refine kl_switchIn (tgt := 1279) hC dL_law_39 (by decide) (by decide) rfl (by decide) ?_
        obtain ⟨n, kx, bv, hx1, hm1, e1, e2, e3, e4, hR1⟩ := p20 j hx hm ((yx Y) (nI (4 * j) + 1).toNatClampNeg) 0 0 hjj hR
        refine kl_ghost n ?_
        exact lw_case_20 hC hi1 hk0 hk1 e1 e2 e3 e4 (B.1 _ _ _ hR1).2.2.2 (B.k3 hR1) ⟨by omega, by omega⟩ ⟨by omega, by omega⟩ (back _ _ hx1 hm1 (by omega) (by omega) hR1)
      · refine kl_switchIn (tgt := 1335) hC dL_law_39 (by decide) (by decide) rfl (by decide) ?_
        obtain ⟨n, kx, bv, hx1, hm1, e1, e2, e3, e4, hR1⟩ := p21 j hx hm ((yx Y) (nI (4 * j) + 1).toNatClampNeg) ((yx Y) (nI (4 * j) + 2).toNatClampNeg) 0 hjj hR
        refine kl_ghost n ?_
        exact lw_case_21 hC hi1 hi2 hk0 hk1 e1 e2 e3 e4 (B.1 _ _ _ hR1).2.2.2 (B.k3 hR1) ⟨by omega, by omega⟩ ⟨by omega, by omega⟩ (back _ _ hx1 hm1 (by omega) (by omega) hR1)
      · refine kl_switchIn (tgt := 1403) hC dL_law_39 (by decide) (by decide) rfl (by decide) ?_
        obtain ⟨n, kx, bv, hx1, hm1, e1, e2, e3, e4, hR1⟩ := p22 j hx hm ((yx Y) (nI (4 * j) + 1).toNatClampNeg) 0 0 hjj hR
        refine kl_ghost n ?_
        exact lw_case_22 hC hi1 hk0 hk1 e1 e2 e3 e4 (B.1 _ _ _ hR1).2.2.2 (B.k3 hR1) ⟨by omega, by omega⟩ ⟨by omega, by omega⟩ (back _ _ hx1 hm1 (by omega) (by omega) hR1)
      · refine kl_switchIn (tgt := 1459) hC dL_law_39 (by decide) (by decide) rfl (by decide) ?_
        obtain ⟨n, kx, bv, hx1, hm1, e1, e2, e3, e4, hR1⟩ := p23 j hx hm ((yx Y) (nI (4 * j) + 1).toNatClampNeg) 0 0 hjj hR
        refine kl_ghost n ?_
        exact lw_case_23 hC hi1 hk0 hk1 e1 e2 e3 e4 (B.1 _ _ _ hR1).2.2.2 (B.k3 hR1) ⟨by omega, by omega⟩ ⟨by omega, by omega⟩ (back _ _ hx1 hm1 (by omega) (by omega) hR1)
      · refine kl_switchIn (tgt := 1515) hC dL_law_39 (by decide) (by decide) rfl (by decide) ?_
        obtain ⟨n, kx, bv, hx1, hm1, e1, e2, e3, e4, hR1⟩ := p24 j hx hm ((yx Y) (nI (4 * j) + 1).toNatClampNeg) 0 0 hjj hR
        refine kl_ghost n ?_
        exact lw_case_24 hC hi1 hk0 hk1 e1 e2 e3 e4 (B.1 _ _ _ hR1).2.2.2 (B.k3 hR1) ⟨by omega, by omega⟩ ⟨by omega, by omega⟩ (back _ _ hx1 hm1 (by omega) (by omega) hR1)
      · refine kl_switchIn (tgt := 1571) hC dL_law_39 (by decide) (by decide) rfl (by decide) ?_
        obtain ⟨n, kx, bv, hx1, hm1, e1, e2, e3, e4, hR1⟩ := p25 j hx hm ((yx Y) (nI (4 * j) + 1).toNatClampNeg) ((yx Y) (nI (4 * j) + 2).toNatClampNeg) 0 hjj hR
        refine kl_ghost n ?_
        exact lw_case_25 hC hi1 hi2 hk0 hk1 e1 e2 e3 e4 (B.1 _ _ _ hR1).2.2.2 (B.k3 hR1) ⟨by omega, by omega⟩ ⟨by omega, by omega⟩ (back _ _ hx1 hm1 (by omega) (by omega) hR1)
      · refine kl_switchIn (tgt := 1639) hC dL_law_39 (by decide) (by decide) rfl (by decide) ?_
        obtain ⟨n, kx, bv, hx1, hm1, e1, e2, e3, e4, hR1⟩ := p26 j hx hm ((yx Y) (nI (4 * j) + 1).toNatClampNeg) ((yx Y) (nI (4 * j) + 2).toNatClampNeg) 0 hjj hR
        refine kl_ghost n ?_
        exact lw_case_26 hC hi1 hi2 hk0 hk1 e1 e2 e3 e4 (B.1 _ _ _ hR1).2.2.2 (B.k3 hR1) ⟨by omega, by omega⟩ ⟨by omega, by omega⟩ (back _ _ hx1 hm1 (by omega) (by omega) hR1)
      · refine kl_switchIn (tgt := 1707) hC dL_law_39 (by decide) (by decide) rfl (by decide) ?_
        obtain ⟨n, kx, bv, hx1, hm1, e1, e2, e3, e4, hR1⟩ := p27 j hx hm ((yx Y) (nI (4 * j) + 1).toNatClampNeg) 0 0 hjj hR
        refine kl_ghost n ?_
        exact lw_case_27 hC hi1 hk0 hk1 e1 e2 e3 e4 (B.1 _ _ _ hR1).2.2.2 (B.k3 hR1) ⟨by omega, by omega⟩ ⟨by omega, by omega⟩ (back _ _ hx1 hm1 (by omega) (by omega) hR1)
      · refine kl_switchIn (tgt := 1763) hC dL_law_39 (by decide) (by decide) rfl (by decide) ?_
        obtain ⟨n, kx, bv, hx1, hm1, e1, e2, e3, e4, hR1⟩ := p28 j hx hm ((yx Y) (nI (4 * j) + 1).toNatClampNeg) 0 0 hjj hR
        refine kl_ghost n ?_
        exact lw_case_28 hC hi1 hk0 hk1 e1 e2 e3 e4 (B.1 _ _ _ hR1).2.2.2 (B.k3 hR1) ⟨by omega, by omega⟩ ⟨by omega, by omega⟩ (back _ _ hx1 hm1 (by omega) (by omega) hR1)
      · refine kl_switchIn (tgt := 1819) hC dL_law_39 (by decide) (by decide) rfl (by decide) ?_
        obtain ⟨n, bv, hx1, hm1, e1, e2, hR1⟩ := p29 j hx hm hjj hR
        refine kl_ghost n ?_
        exact lw_case_29 hC hk0 hk1 e1 e2 ⟨by omega, by omega⟩ ⟨by omega, by omega⟩ (back _ _ hx1 hm1 (by omega) (by omega) hR1)
      · refine kl_switchIn (tgt := 1832) hC dL_law_39 (by decide) (by decide) rfl (by decide) ?_
        obtain ⟨n, kx, bv, hx1, hm1, e1, e2, e3, e4, hR1⟩ := p30 j hx hm ((yx Y) (nI (4 * j) + 1).toNatClampNeg) 0 0 hjj hR
        refine kl_ghost n ?_
        exact lw_case_30 hC hi1 hk0 hk1 e1 e2 e3 e4 (B.1 _ _ _ hR1).2.2.2 (B.k3 hR1) ⟨by omega, by omega⟩ ⟨by omega, by omega⟩ (back _ _ hx1 hm1 (by omega) (by omega) hR1)
      · refine kl_switchIn (tgt := 1887) hC dL_law_39 (by decide) (by decide) rfl (by decide) ?_
        obtain ⟨n, kx, bv, hx1, hm1, e1, e2, e3, e4, hR1⟩ := p31 j hx hm ((yx Y) (nI (4 * j) + 1).toNatClampNeg) 0 0 hjj hR
        refine kl_ghost n ?_
        exact lw_case_31 hC hi1 hk0 hk1 e1 e2 e3 e4 (B.1 _ _ _ hR1).2.2.2 (B.k3 hR1) ⟨by omega, by omega⟩ ⟨by omega, by omega⟩ (back _ _ hx1 hm1 (by omega) (by omega) hR1)
      · refine kl_switchIn (tgt := 1942) hC dL_law_39 (by decide) (by decide) rfl (by decide) ?_
        obtain ⟨n, kx, bv, hx1, hm1, e1, e2, e3, e4, hR1⟩ := p32 j hx hm ((yx Y) (nI (4 * j) + 1).toNatClampNeg) ((yx Y) (nI (4 * j) + 2).toNatClampNeg) ((yx Y) (nI (4 * j) + 3).toNatClampNeg) hjj hR
        refine kl_ghost n ?_
        exact lw_case_32 hC hi1 hi2 hi3 hk0 hk1 e1 e2 e3 e4 (B.1 _ _ _ hR1).2.2.2 (B.k3 hR1) ⟨by omega, by omega⟩ ⟨by omega, by omega⟩ (back _ _ hx1 hm1 (by omega) (by omega) hR1)
      · refine kl_switchIn (tgt := 2022) hC dL_law_39 (by decide) (by decide) rfl (by decide) ?_
        obtain ⟨n, kx, bv, hx1, hm1, e1, e2, e3, e4, hR1⟩ := p33 j hx hm ((yx Y) (nI (4 * j) + 1).toNatClampNeg) ((yx Y) (nI (4 * j) + 2).toNatClampNeg) 0 hjj hR
        refine kl_ghost n ?_
        exact lw_case_33 hC hi1 hi2 hk0 hk1 e1 e2 e3 e4 (B.1 _ _ _ hR1).2.2.2 (B.k3 hR1) ⟨by omega, by omega⟩ ⟨by omega, by omega⟩ (back _ _ hx1 hm1 (by omega) (by omega) hR1)
      · refine kl_switchIn (tgt := 2090) hC dL_law_39 (by decide) (by decide) rfl (by decide) ?_
        obtain ⟨n, kx, bv, hx1, hm1, e1, e2, e3, e4, hR1⟩ := p34 j hx hm ((yx Y) (nI (4 * j) + 1).toNatClampNeg) 0 0 hjj hR
        refine kl_ghost n ?_
        exact lw_case_34 hC hi1 hk0 hk1 e1 e2 e3 e4 (B.1 _ _ _ hR1).2.2.2 (B.k3 hR1) ⟨by omega, by omega⟩ ⟨by omega, by omega⟩ (back _ _ hx1 hm1 (by omega) (by omega) hR1)
      · refine kl_switchOut (tgt := 2146) hC dL_law_39 (Or.inr (by rw [nI_toInt (by omega)]; omega)) (by decide) ?_
        exact back _ _ hx hm (by omega) (by omega) (B.2 j hx hm hR)

