/-! THE LAW's LOOP -/
theorem and63 (v : Int32) : ∃ n, n < 64 ∧ v &&& 63 = nI n := by
  refine ⟨(v &&& 63).toBitVec.toNat, ?_, ?_⟩
  · rw [Int32.toBitVec_and, BitVec.toNat_and]
    exact Nat.lt_of_le_of_lt Nat.and_le_right (by decide)
  · apply Int32.toBitVec_inj.mp
    show _ = (Int32.ofNat _).toBitVec
    have e : ∀ k : Nat, (Int32.ofNat k).toBitVec = BitVec.ofNat 32 k := fun k => rfl
    rw [e, BitVec.ofNat_toNat, BitVec.setWidth_eq]
theorem room6 {L t : Nat} (hL : L ≤ 3072) (ht : t ≤ 3072) (h : ¬ nI L - 6 < nI t) : t + 6 ≤ L := by
  by_cases h6 : 6 ≤ L
  · have e : nI L - 6 = nI (L - 6) := by
      have := nI_add (L - 6) 6
      rw [Nat.sub_add_cancel h6] at this
      rw [← this]
      show nI (L - 6) + 6 - 6 = nI (L - 6)
      exact Int32.add_sub_cancel _ _
    rw [e, nI_ltI (by omega) (by omega)] at h
    omega
  · exfalso
    have h1 : ∀ L, L < 6 → nI L - 6 < 0 := by decide +kernel
    exact h (Int32.lt_of_lt_of_le (h1 L (by omega)) (nI_pos' (by omega)))
theorem vin {t k L : Nat} (h : t + k < L) (hL : L ≤ 3072) : vp_in (nI t + nI k) L := by
  rw [nI_add]
  exact inb_s (inb_k rfl h (by omega))
theorem nI_int {n : Nat} (h : n < 2 ^ 31) : (nI n).toInt = n := by
  show (Int32.ofNat n).toInt = n
  exact Int32.toInt_ofNat_of_lt h
theorem law_sw {X : Cx} {b L : Nat} {xs : Nat → Int32} {i : Int32} {M1 M2 : Mem} {kc ks : Nat} (hX : OkX X code R_law 13 480) (hA : ∀ a, X.B ≤ a → X.A a) (hs : va_X b L xs X.s X.H0) (hb : b < X.H0.size) (hn : ¬ X.A b) (v1 : vp_in (i + 1) L) (v2 : vp_in (i + 2) L) (v3 : vp_in (i + 3) L) (v4 : vp_in (i + 4) L) (v5 : vp_in (i + 5) L) (hR : Rel M1 M2) (hk : kc ≤ X.R.cells ∧ ks ≤ X.R.slots) (K : ∀ N1 N2, Rel N1 N2 → GoP X (PL X N1 N2) kc ks 1706 [some (.ref b), some (.ref (X.B + 0)), some (.ref (X.B + nC + 0)), some (.int i)] []) : ∀ n, n < 64 → GoP X (PL X M1 M2) kc ks 33 [some (.ref b), some (.ref (X.B + 0)), some (.ref (X.B + nC + 0)), some (.int i)] [.int (nI n)] := fun n h64 =>
  match n, h64 with
    | 0, _ => p_tabIn (x := nI 0) hX e_L_law_33 (by decide +kernel) (by decide +kernel) (off := 191) (by decide +kernel) (by decide) (lcs_0 hX hA hs hb hn v1 v2 v3 v4 v5 hR hk K)
    | 1, _ => p_tabIn (x := nI 1) hX e_L_law_33 (by decide +kernel) (by decide +kernel) (off := 254) (by decide +kernel) (by decide) (lcs_1 hX hA hs hb hn v1 v2 v3 v4 v5 hR hk K)
    | 2, _ => p_tabIn (x := nI 2) hX e_L_law_33 (by decide +kernel) (by decide +kernel) (off := 277) (by decide +kernel) (by decide) (lcs_2 hX hA hs hb hn v1 v2 v3 v4 v5 hR hk K)
    | 3, _ => p_tabIn (x := nI 3) hX e_L_law_33 (by decide +kernel) (by decide +kernel) (off := 290) (by decide +kernel) (by decide) (lcs_3 hX hA hs hb hn v1 v2 v3 v4 v5 hR hk K)
    | 4, _ => p_tabIn (x := nI 4) hX e_L_law_33 (by decide +kernel) (by decide +kernel) (off := 313) (by decide +kernel) (by decide) (lcs_4 hX hA hs hb hn v1 v2 v3 v4 v5 hR hk K)
    | 5, _ => p_tabIn (x := nI 5) hX e_L_law_33 (by decide +kernel) (by decide +kernel) (off := 346) (by decide +kernel) (by decide) (lcs_5 hX hA hs hb hn v1 v2 v3 v4 v5 hR hk K)
    | 6, _ => p_tabIn (x := nI 6) hX e_L_law_33 (by decide +kernel) (by decide +kernel) (off := 379) (by decide +kernel) (by decide) (lcs_6 hX hA hs hb hn v1 v2 v3 v4 v5 hR hk K)
    | 7, _ => p_tabIn (x := nI 7) hX e_L_law_33 (by decide +kernel) (by decide +kernel) (off := 422) (by decide +kernel) (by decide) (lcs_7 hX hA hs hb hn v1 v2 v3 v4 v5 hR hk K)
    | 8, _ => p_tabIn (x := nI 8) hX e_L_law_33 (by decide +kernel) (by decide +kernel) (off := 455) (by decide +kernel) (by decide) (lcs_8 hX hA hs hb hn v1 v2 v3 v4 v5 hR hk K)
    | 9, _ => p_tabIn (x := nI 9) hX e_L_law_33 (by decide +kernel) (by decide +kernel) (off := 498) (by decide +kernel) (by decide) (lcs_9 hX hA hs hb hn v1 v2 v3 v4 v5 hR hk K)
    | 10, _ => p_tabIn (x := nI 10) hX e_L_law_33 (by decide +kernel) (by decide +kernel) (off := 541) (by decide +kernel) (by decide) (lcs_10 hX hA hs hb hn v1 v2 v3 v4 v5 hR hk K)
    | 11, _ => p_tabIn (x := nI 11) hX e_L_law_33 (by decide +kernel) (by decide +kernel) (off := 584) (by decide +kernel) (by decide) (lcs_11 hX hA hs hb hn v1 v2 v3 v4 v5 hR hk K)
    | 12, _ => p_tabIn (x := nI 12) hX e_L_law_33 (by decide +kernel) (by decide +kernel) (off := 617) (by decide +kernel) (by decide) (lcs_12 hX hA hs hb hn v1 v2 v3 v4 v5 hR hk K)
    | 13, _ => p_tabIn (x := nI 13) hX e_L_law_33 (by decide +kernel) (by decide +kernel) (off := 650) (by decide +kernel) (by decide) (lcs_13 hX hA hs hb hn v1 v2 v3 v4 v5 hR hk K)
    | 14, _ => p_tabIn (x := nI 14) hX e_L_law_33 (by decide +kernel) (by decide +kernel) (off := 683) (by decide +kernel) (by decide) (lcs_14 hX hA hs hb hn v1 v2 v3 v4 v5 hR hk K)
    | 15, _ => p_tabIn (x := nI 15) hX e_L_law_33 (by decide +kernel) (by decide +kernel) (off := 716) (by decide +kernel) (by decide) (lcs_15 hX hA hs hb hn v1 v2 v3 v4 v5 hR hk K)
    | 16, _ => p_tabIn (x := nI 16) hX e_L_law_33 (by decide +kernel) (by decide +kernel) (off := 749) (by decide +kernel) (by decide) (lcs_16 hX hA hs hb hn v1 v2 v3 v4 v5 hR hk K)
    | 17, _ => p_tabIn (x := nI 17) hX e_L_law_33 (by decide +kernel) (by decide +kernel) (off := 782) (by decide +kernel) (by decide) (lcs_17 hX hA hs hb hn v1 v2 v3 v4 v5 hR hk K)
    | 18, _ => p_tabIn (x := nI 18) hX e_L_law_33 (by decide +kernel) (by decide +kernel) (off := 815) (by decide +kernel) (by decide) (lcs_18 hX hA hs hb hn v1 v2 v3 v4 v5 hR hk K)
    | 19, _ => p_tabIn (x := nI 19) hX e_L_law_33 (by decide +kernel) (by decide +kernel) (off := 838) (by decide +kernel) (by decide) (lcs_19 hX hA hs hb hn v1 v2 v3 v4 v5 hR hk K)
    | 20, _ => p_tabIn (x := nI 20) hX e_L_law_33 (by decide +kernel) (by decide +kernel) (off := 861) (by decide +kernel) (by decide) (lcs_20 hX hA hs hb hn v1 v2 v3 v4 v5 hR hk K)
    | 21, _ => p_tabIn (x := nI 21) hX e_L_law_33 (by decide +kernel) (by decide +kernel) (off := 884) (by decide +kernel) (by decide) (lcs_21 hX hA hs hb hn v1 v2 v3 v4 v5 hR hk K)
    | 22, _ => p_tabIn (x := nI 22) hX e_L_law_33 (by decide +kernel) (by decide +kernel) (off := 917) (by decide +kernel) (by decide) (lcs_22 hX hA hs hb hn v1 v2 v3 v4 v5 hR hk K)
    | 23, _ => p_tabIn (x := nI 23) hX e_L_law_33 (by decide +kernel) (by decide +kernel) (off := 940) (by decide +kernel) (by decide) (lcs_23 hX hA hs hb hn v1 v2 v3 v4 v5 hR hk K)
    | 24, _ => p_tabIn (x := nI 24) hX e_L_law_33 (by decide +kernel) (by decide +kernel) (off := 993) (by decide +kernel) (by decide) (lcs_24 hX hA hs hb hn v1 v2 v3 v4 v5 hR hk K)
    | 25, _ => p_tabIn (x := nI 25) hX e_L_law_33 (by decide +kernel) (by decide +kernel) (off := 1026) (by decide +kernel) (by decide) (lcs_25 hX hA hs hb hn v1 v2 v3 v4 v5 hR hk K)
    | 26, _ => p_tabIn (x := nI 26) hX e_L_law_33 (by decide +kernel) (by decide +kernel) (off := 1049) (by decide +kernel) (by decide) (lcs_26 hX hA hs hb hn v1 v2 v3 v4 v5 hR hk K)
    | 27, _ => p_tabIn (x := nI 27) hX e_L_law_33 (by decide +kernel) (by decide +kernel) (off := 1082) (by decide +kernel) (by decide) (lcs_27 hX hA hs hb hn v1 v2 v3 v4 v5 hR hk K)
    | 28, _ => p_tabIn (x := nI 28) hX e_L_law_33 (by decide +kernel) (by decide +kernel) (off := 1115) (by decide +kernel) (by decide) (lcs_28 hX hA hs hb hn v1 v2 v3 v4 v5 hR hk K)
    | 29, _ => p_tabIn (x := nI 29) hX e_L_law_33 (by decide +kernel) (by decide +kernel) (off := 1138) (by decide +kernel) (by decide) (lcs_29 hX hA hs hb hn v1 v2 v3 v4 v5 hR hk K)
    | 30, _ => p_tabIn (x := nI 30) hX e_L_law_33 (by decide +kernel) (by decide +kernel) (off := 1171) (by decide +kernel) (by decide) (lcs_30 hX hA hs hb hn v1 v2 v3 v4 v5 hR hk K)
    | 31, _ => p_tabIn (x := nI 31) hX e_L_law_33 (by decide +kernel) (by decide +kernel) (off := 1214) (by decide +kernel) (by decide) (lcs_31 hX hA hs hb hn v1 v2 v3 v4 v5 hR hk K)
    | 32, _ => p_tabIn (x := nI 32) hX e_L_law_33 (by decide +kernel) (by decide +kernel) (off := 1247) (by decide +kernel) (by decide) (lcs_32 hX hA hs hb hn v1 v2 v3 v4 v5 hR hk K)
    | 33, _ => p_tabIn (x := nI 33) hX e_L_law_33 (by decide +kernel) (by decide +kernel) (off := 1270) (by decide +kernel) (by decide) (lcs_33 hX hA hs hb hn v1 v2 v3 v4 v5 hR hk K)
    | 34, _ => p_tabIn (x := nI 34) hX e_L_law_33 (by decide +kernel) (by decide +kernel) (off := 1303) (by decide +kernel) (by decide) (lcs_34 hX hA hs hb hn v1 v2 v3 v4 v5 hR hk K)
    | 35, _ => p_tabIn (x := nI 35) hX e_L_law_33 (by decide +kernel) (by decide +kernel) (off := 1316) (by decide +kernel) (by decide) (lcs_35 hX hA hs hb hn v1 v2 v3 v4 v5 hR hk K)
    | 36, _ => p_tabIn (x := nI 36) hX e_L_law_33 (by decide +kernel) (by decide +kernel) (off := 1349) (by decide +kernel) (by decide) (lcs_36 hX hA hs hb hn v1 v2 v3 v4 v5 hR hk K)
    | 37, _ => p_tabIn (x := nI 37) hX e_L_law_33 (by decide +kernel) (by decide +kernel) (off := 1402) (by decide +kernel) (by decide) (lcs_37 hX hA hs hb hn v1 v2 v3 v4 v5 hR hk K)
    | 38, _ => p_tabIn (x := nI 38) hX e_L_law_33 (by decide +kernel) (by decide +kernel) (off := 1425) (by decide +kernel) (by decide) (lcs_38 hX hA hs hb hn v1 v2 v3 v4 v5 hR hk K)
    | 39, _ => p_tabIn (x := nI 39) hX e_L_law_33 (by decide +kernel) (by decide +kernel) (off := 1448) (by decide +kernel) (by decide) (lcs_39 hX hA hs hb hn v1 v2 v3 v4 v5 hR hk K)
    | 40, _ => p_tabIn (x := nI 40) hX e_L_law_33 (by decide +kernel) (by decide +kernel) (off := 1471) (by decide +kernel) (by decide) (lcs_40 hX hA hs hb hn v1 v2 v3 v4 v5 hR hk K)
    | 41, _ => p_tabIn (x := nI 41) hX e_L_law_33 (by decide +kernel) (by decide +kernel) (off := 1494) (by decide +kernel) (by decide) (lcs_41 hX hA hs hb hn v1 v2 v3 v4 v5 hR hk K)
    | 42, _ => p_tabIn (x := nI 42) hX e_L_law_33 (by decide +kernel) (by decide +kernel) (off := 1537) (by decide +kernel) (by decide) (lcs_42 hX hA hs hb hn v1 v2 v3 v4 v5 hR hk K)
    | 43, _ => p_tabIn (x := nI 43) hX e_L_law_33 (by decide +kernel) (by decide +kernel) (off := 1610) (by decide +kernel) (by decide) (lcs_43 hX hA hs hb hn v1 v2 v3 v4 v5 hR hk K)
    | n + 44, h => p_tabOut (x := nI (n + 44)) hX e_L_law_33 (Or.inr (by rw [nI_int (by omega)]; omega)) (by decide) (K _ _ hR)
theorem law_loop {X : Cx} {b L : Nat} {xs : Nat → Int32} {kc ks : Nat} (hX : OkX X code R_law 13 480) (hA : ∀ a, X.B ≤ a → X.A a) (hs : va_X b L xs X.s X.H0) (hb : b < X.H0.size) (hn : ¬ X.A b) (hL : L ≤ 3072) (hk : kc ≤ X.R.cells ∧ ks ≤ X.R.slots) (kEnd : ∀ M1 M2 i, GoP X (PL X M1 M2) kc ks 1712 [some (.ref b), some (.ref (X.B + 0)), some (.ref (X.B + nC + 0)), some (.int i)] []) :
    ∀ (fuel t : Nat) (M1 M2 : Mem), L < t + fuel → t ≤ 3072 → Rel M1 M2 → GoP X (PL X M1 M2) kc ks 18 [some (.ref b), some (.ref (X.B + 0)), some (.ref (X.B + nC + 0)), some (.int (nI t))] [] := by
  intro fuel
  induction fuel with
  | zero =>
    intro t M1 M2 hf ht hR
    refine p_iload_n (i := 3) hX e_L_law_18 rfl rfl ?_
    refine p_aload_n (i := 0) hX e_L_law_19 rfl rfl ?_
    refine p_slen hX hs hb hn e_L_law_20 ?_
    refine p_bipush (v := 6) hX e_L_law_21 (by decide +kernel) ?_
    refine p_isub hX e_L_law_23 ?_
    refine p_icmp_gt hX e_L_law_24 (fun _ => kEnd _ _ _) (fun hc => ?_)
    have := room6 hL ht hc
    omega
  | succ fuel ih =>
    intro t M1 M2 hf ht hR
    refine p_iload_n (i := 3) hX e_L_law_18 rfl rfl ?_
    refine p_aload_n (i := 0) hX e_L_law_19 rfl rfl ?_
    refine p_slen hX hs hb hn e_L_law_20 ?_
    refine p_bipush (v := 6) hX e_L_law_21 (by decide +kernel) ?_
    refine p_isub hX e_L_law_23 ?_
    refine p_icmp_gt hX e_L_law_24 (fun _ => kEnd _ _ _) (fun hc => ?_)
    have h6 := room6 hL ht hc
    have K : ∀ N1 N2, Rel N1 N2 → GoP X (PL X N1 N2) kc ks 1706 [some (.ref b), some (.ref (X.B + 0)), some (.ref (X.B + nC + 0)), some (.int (nI t))] [] := by
      intro N1 N2 hN
      refine p_iinc (v := nI (t + 6)) hX e_L_law_1706 rfl (nI_add t 6) (Nat.le_of_ble_eq_true rfl) rfl ?_
      refine p_goto hX e_L_law_1709 ?_
      exact ih (t + 6) N1 N2 (by omega) (by omega) hN
    have v1 : vp_in (nI t + 1) L := vin (k := 1) (by omega) hL
    have v2 : vp_in (nI t + 2) L := vin (k := 2) (by omega) hL
    have v3 : vp_in (nI t + 3) L := vin (k := 3) (by omega) hL
    have v4 : vp_in (nI t + 4) L := vin (k := 4) (by omega) hL
    have v5 : vp_in (nI t + 5) L := vin (k := 5) (by omega) hL
    refine p_aload_n (i := 0) hX e_L_law_27 rfl rfl ?_
    refine p_iload_n (i := 3) hX e_L_law_28 rfl rfl ?_
    refine p_sld hX hs hb hn (inb_s (inb_k rfl (show t < L by omega) (by omega))) e_L_law_29 ?_
    refine p_bipush (v := 63) hX e_L_law_30 (by decide +kernel) ?_
    refine p_iand hX e_L_law_32 ?_
    obtain ⟨n, hn64, en⟩ := and63 (xs (nI t).toNatClampNeg)
    rw [en]
    clear en
    exact law_sw hX hA hs hb hn v1 v2 v3 v4 v5 hR hk K n hn64
