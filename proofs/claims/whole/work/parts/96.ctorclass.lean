def bk_X10 : List (Nat × Nat) := [(10, 10), (6, 9), (103, 2000), (4, 9), (104, 3), (105, 8), (106, 6), (7, 3), (7, 3), (7, 3), (9, 7), (9, 7), (9, 7), (9, 7), (9, 7), (9, 7), (9, 7), (9, 7), (1, 7), (100, 3), (100, 3), (100, 3), (1, 7), (100, 3), (100, 3), (100, 3), (1, 7), (100, 3), (100, 3), (100, 3), (1, 7), (100, 3), (100, 3), (100, 3), (1, 7), (100, 3), (100, 3), (100, 3), (1, 7), (100, 3), (100, 3), (100, 3), (4, 9), (104, 3), (105, 8), (106, 6), (7, 3), (7, 3), (7, 3), (9, 7), (9, 7), (9, 7), (9, 7), (9, 7), (9, 7), (9, 7), (9, 7), (1, 7), (100, 3), (100, 3), (100, 3), (1, 7), (100, 3), (100, 3), (100, 3), (1, 7), (100, 3), (100, 3), (100, 3), (1, 7), (100, 3), (100, 3), (100, 3), (1, 7), (100, 3), (100, 3), (100, 3), (1, 7), (100, 3), (100, 3), (100, 3), (107, 3), (102, 3), (108, 4), (3, 18), (2, 2), (109, 3), (100, 60), (100, 60), (100, 60), (109, 8), (100, 60), (100, 60), (100, 60), (100, 60), (100, 60), (100, 60), (100, 60), (100, 60), (109, 8), (100, 60), (100, 60), (100, 60), (100, 60), (100, 60), (100, 60), (100, 60), (100, 60), (109, 8), (100, 60), (100, 60), (100, 60), (100, 60), (100, 60), (100, 60), (100, 60), (100, 60), (109, 6), (100, 60), (100, 60), (100, 60), (100, 60), (100, 60), (100, 60), (100, 160), (100, 160), (100, 160), (100, 160), (100, 6), (100, 8), (100, 8), (102, 8), (102, 8), (100, 6), (109, 6), (100, 3), (100, 3), (100, 3), (100, 3), (100, 3), (100, 3), (100, 6), (0, 11), (100, 60), (100, 3), (101, 8), (5, 4), (100, 12), (100, 8), (4, 9), (104, 3), (105, 8), (106, 6), (7, 3), (7, 3), (7, 3), (9, 7), (9, 7), (9, 7), (9, 7), (9, 7), (9, 7), (9, 7), (9, 7), (1, 7), (100, 3), (100, 3), (100, 3), (1, 7), (100, 3), (100, 3), (100, 3), (1, 7), (100, 3), (100, 3), (100, 3), (1, 7), (100, 3), (100, 3), (100, 3), (1, 7), (100, 3), (100, 3), (100, 3), (1, 7), (100, 3), (100, 3), (100, 3), (4, 9), (104, 3), (105, 8), (106, 6), (7, 3), (7, 3), (7, 3), (9, 7), (9, 7), (9, 7), (9, 7), (9, 7), (9, 7), (9, 7), (9, 7), (1, 7), (100, 3), (100, 3), (100, 3), (1, 7), (100, 3), (100, 3), (100, 3), (1, 7), (100, 3), (100, 3), (100, 3), (1, 7), (100, 3), (100, 3), (100, 3), (1, 7), (100, 3), (100, 3), (100, 3), (1, 7), (100, 3), (100, 3), (100, 3), (4, 9), (104, 3), (105, 8), (106, 6), (7, 3), (7, 3), (7, 3), (9, 7), (9, 7), (9, 7), (9, 7), (9, 7), (9, 7), (9, 7), (9, 7), (1, 7), (100, 3), (100, 3), (100, 3), (1, 7), (100, 3), (100, 3), (100, 3), (1, 7), (100, 3), (100, 3), (100, 3), (1, 7), (100, 3), (100, 3), (100, 3), (1, 7), (100, 3), (100, 3), (100, 3), (1, 7), (100, 3), (100, 3), (100, 3), (8, 4), (101, 60), (8, 4), (101, 60), (8, 4), (101, 60), (8, 4), (101, 60)]
def k_X10_0 (M : Mem) (q : Nat) : Mem := (sR (sR (sR (sR (k_X4 (sR (k_X4 (sR (k_X6 M (q + 1)) q 0 (some (q + 1))) (q + 3)) q 1 (some (q + 3))) (q + 42)) q 2 (some (q + 42))) q 3 (some (q + 81))) q 4 (some (q + 82))) q 5 (some (q + 83)))
theorem z_X10_0 {M : Mem} {q n : Nat} (h : Z0 M n) (hn : q + 84 ≤ n) : Z0 (k_X10_0 M q) n := by
  unfold k_X10_0
  exact (((((z_X4 ((z_X4 ((z_X6 h (show (q + 1) + 2 ≤ n by omega)).r (show q < n by omega)) (show (q + 3) + 39 ≤ n by omega)).r (show q < n by omega)) (show (q + 42) + 39 ≤ n by omega)).r (show q < n by omega)).r (show q < n by omega)).r (show q < n by omega)).r (show q < n by omega))
theorem n_X10_0 {M : Mem} {q b j : Nat} {x : Option Nat} (h : gR M b j = x) (hb : b < q) : gR (k_X10_0 M q) b j = x := by
  unfold k_X10_0
  exact (gR_sRn (gR_sRn (gR_sRn (gR_sRn (n_X4 (gR_sRn (n_X4 (gR_sRn (n_X6 h (by omega)) (fun z => absurd z.1 (by omega))) (by omega)) (fun z => absurd z.1 (by omega))) (by omega)) (fun z => absurd z.1 (by omega))) (fun z => absurd z.1 (by omega))) (fun z => absurd z.1 (by omega))) (fun z => absurd z.1 (by omega)))
theorem nc_10_9 : NC RX10 9 6 9 := ⟨_, tyX6, rfl, ly6, tyX6_ok, wk_29, wk_30, wk_2, by decide, rfl, fun j hj => match j, hj with | 0, _ => ⟨_, rfl, rfl⟩ | 1, _ => ⟨_, rfl, rfl⟩ | 2, _ => ⟨_, rfl, rfl⟩ | 3, _ => ⟨_, rfl, rfl⟩ | 4, _ => ⟨_, rfl, rfl⟩ | 5, _ => ⟨_, rfl, rfl⟩ | 6, _ => ⟨_, rfl, rfl⟩ | 7, _ => ⟨_, rfl, rfl⟩ | 8, _ => ⟨_, rfl, rfl⟩ | j + 9, h => absurd h (by omega)⟩
theorem nw_10_11 : Cond.methodLinkNest RX10 11 yX6_init "TurningMarket" ∈ NESTW := List.mem_filter.mpr ⟨List.mem_of_getElem? (i := 129) (by decide +kernel), rfl⟩
theorem fpf_10_0 : FPF 10 0 (.object "TurningMarket$Reader") := ⟨_, tyX10, rfl, tyX10_ok, nmX10, rfl, by decide +kernel⟩
theorem nc_10_16 : NC RX10 16 4 9 := ⟨_, tyX4, rfl, ly4, tyX4_ok, wk_67, wk_68, wk_3, by decide, rfl, fun j hj => match j, hj with | 0, _ => ⟨_, rfl, rfl⟩ | 1, _ => ⟨_, rfl, rfl⟩ | 2, _ => ⟨_, rfl, rfl⟩ | 3, _ => ⟨_, rfl, rfl⟩ | 4, _ => ⟨_, rfl, rfl⟩ | 5, _ => ⟨_, rfl, rfl⟩ | 6, _ => ⟨_, rfl, rfl⟩ | 7, _ => ⟨_, rfl, rfl⟩ | 8, _ => ⟨_, rfl, rfl⟩ | j + 9, h => absurd h (by omega)⟩
theorem ov_Market : Cond.arrayOver (.object "TurningMarket$Market") ∈ lw_tbl := List.mem_of_getElem? (i := 369) (by decide +kernel)
theorem fpf_10_3 : FPF 10 3 (.array (.object "TurningMarket$Market")) := ⟨_, tyX10, rfl, tyX10_ok, nmX10, rfl, by decide +kernel⟩
theorem fpf_10_4 : FPF 10 4 (.array .boolean) := ⟨_, tyX10, rfl, tyX10_ok, nmX10, rfl, by decide +kernel⟩
theorem ov_Row : Cond.arrayOver (.object "TurningMarket$Row") ∈ lw_tbl := List.mem_of_getElem? (i := 371) (by decide +kernel)
theorem fpf_10_5 : FPF 10 5 (.array (.object "TurningMarket$Row")) := ⟨_, tyX10, rfl, tyX10_ok, nmX10, rfl, by decide +kernel⟩
set_option maxHeartbeats 4000000 in
theorem s_X10_0 {X : Cx} {S : Shp} {q : Nat} {M : Mem} (hX : OkX X cX10_init RX10 3 53) (hG : OkG X (q + 1) 0) (hin : X.meth.name = "<init>") (hc : X.R.cells = 273) (hs : X.R.slots = 6063) (hS : Blk S q bk_X10) (hZ : Z0 M (q + 1))  (k : gR (k_X10_0 M q) q 3 = some (q + 81) → gR (k_X10_0 M q) q 5 = some (q + 83) → Z0 (k_X10_0 M q) (q + 84) → GoN X (cut S (q + 84)) (q + 84) 83 2393 (k_X10_0 M q) 60 [some (.ref (X.B + q)), none] []) : GoN X (cut S (q + 1)) (q + 1) 0 0 M 0 [some (.ref (X.B + q)), none] [] := by
  refine r_aload_n (i := 0) hX e_X10_init_0 rfl rfl ?_
  refine g_obj hX e_X10_init_1 wk_26 (by decide) (by decide) ?_
  refine r_aload_n (i := 0) hX e_X10_init_4 rfl rfl ?_
  have z1 := hZ
  refine h_new (n' := q + 2) (kc' := 1) (ks' := 9) hX (hG.up 0) e_X10_init_5 nc_10_9 z1 (hS 1 _ rfl) rfl rfl rfl (by rw [hc]; exact Nat.le_of_ble_eq_true rfl) (by rw [hs]; exact Nat.le_of_ble_eq_true rfl) ?_
  refine r_dup hX e_X10_init_8 rfl ?_
  have z2 := (z1.m (show q + 1 ≤ q + 2 by omega))
  refine h_init (q := (q + 1)) (mc := 1) (ms := 2000) (n' := q + 3) (kc' := 2) (ks' := 2009) hX (hG.up 1) rfl e_X10_init_9 rfl (i_X6 (hS.sub (k := 1) (l' := bk_X6) (by decide +kernel)) z2) cw_X6_init rfl wk_32 nw_10_11 ⟨by decide, by decide⟩ (Nat.le_of_ble_eq_true rfl) rfl rfl (by rw [hc]; exact Nat.le_of_ble_eq_true rfl) (by rw [hs]; exact Nat.le_of_ble_eq_true rfl) ?_
  refine g_putRF (r := (q + 1)) hX (hG.up 2).fit hin e_X10_init_12 fl_10_12 fpf_10_0 (fun r h => by cases h; rfl) rfl (cut_o (hS 0 _ rfl) (by omega)) rfl rfl ?_
  refine r_aload_n (i := 0) hX e_X10_init_15 rfl rfl ?_
  have z3 := ((z_X6 (z2.m (show q + 2 ≤ q + 3 by omega)) (show (q + 1) + 2 ≤ q + 3 by omega)).r (k := 0) (v := some (q + 1)) (show q < q + 3 by omega))
  refine h_new (n' := q + 4) (kc' := 3) (ks' := 2018) hX (hG.up 2) e_X10_init_16 nc_10_16 z3 (hS 3 _ rfl) rfl rfl rfl (by rw [hc]; exact Nat.le_of_ble_eq_true rfl) (by rw [hs]; exact Nat.le_of_ble_eq_true rfl) ?_
  refine r_dup hX e_X10_init_19 rfl ?_
  have z4 := (z3.m (show q + 3 ≤ q + 4 by omega))
  refine h_initP (q := (q + 3)) (mc := 38) (ms := 178) (n' := q + 42) (kc' := 41) (ks' := 2196) hX (hG.up 3) rfl e_X10_init_20 rfl (i_X4 (hS.sub (k := 3) (l' := bk_X4) (by decide +kernel)) z4) cw_X4_init rfl wk_70 wk_69 ⟨by decide, by decide⟩ (Nat.le_of_ble_eq_true rfl) rfl rfl (by rw [hc]; exact Nat.le_of_ble_eq_true rfl) (by rw [hs]; exact Nat.le_of_ble_eq_true rfl) ?_
  refine r_putR (r := (q + 3)) hX (hG.up 41).fit rfl e_X10_init_23 fl_10_19 fp_10_1 rfl (cut_o (hS 0 _ rfl) (by omega)) rfl rfl ?_
  refine r_aload_n (i := 0) hX e_X10_init_26 rfl rfl ?_
  have z5 := ((z_X4 (z4.m (show q + 4 ≤ q + 42 by omega)) (show (q + 3) + 39 ≤ q + 42 by omega)).r (k := 1) (v := some (q + 3)) (show q < q + 42 by omega))
  refine h_new (n' := q + 43) (kc' := 42) (ks' := 2205) hX (hG.up 41) e_X10_init_27 nc_10_16 z5 (hS 42 _ rfl) rfl rfl rfl (by rw [hc]; exact Nat.le_of_ble_eq_true rfl) (by rw [hs]; exact Nat.le_of_ble_eq_true rfl) ?_
  refine r_dup hX e_X10_init_30 rfl ?_
  have z6 := (z5.m (show q + 42 ≤ q + 43 by omega))
  refine h_initP (q := (q + 42)) (mc := 38) (ms := 178) (n' := q + 81) (kc' := 80) (ks' := 2383) hX (hG.up 42) rfl e_X10_init_31 rfl (i_X4 (hS.sub (k := 42) (l' := bk_X4) (by decide +kernel)) z6) cw_X4_init rfl wk_70 wk_69 ⟨by decide, by decide⟩ (Nat.le_of_ble_eq_true rfl) rfl rfl (by rw [hc]; exact Nat.le_of_ble_eq_true rfl) (by rw [hs]; exact Nat.le_of_ble_eq_true rfl) ?_
  refine r_putR (r := (q + 42)) hX (hG.up 80).fit rfl e_X10_init_34 fl_10_23 fp_10_2 rfl (cut_o (hS 0 _ rfl) (by omega)) rfl rfl ?_
  refine r_aload_n (i := 0) hX e_X10_init_37 rfl rfl ?_
  refine r_iconst (v := 3) hX e_X10_init_38 (by decide +kernel) ?_
  have z7 := ((z_X4 (z6.m (show q + 43 ≤ q + 81 by omega)) (show (q + 42) + 39 ≤ q + 81 by omega)).r (k := 2) (v := some (q + 42)) (show q < q + 81 by omega))
  refine h_newQ (t := 7) (n' := q + 82) (kc' := 81) (ks' := 2386) hX (hG.up 80) e_X10_init_39 rfl rfl wk_67 ov_Market z7 (hS 81 _ rfl) (by decide) (by decide +kernel) (Nat.le_of_ble_eq_true rfl) rfl rfl rfl (by rw [hc]; exact Nat.le_of_ble_eq_true rfl) (by rw [hs]; exact Nat.le_of_ble_eq_true rfl) ?_
  refine g_putRF (r := (q + 81)) hX (hG.up 81).fit hin e_X10_init_42 fl_10_26 fpf_10_3 (fun r h => by cases h; rfl) rfl (cut_o (hS 0 _ rfl) (by omega)) rfl rfl ?_
  have f1 := gR_sRs (sR (k_X4 (sR (k_X4 (sR (k_X6 M (q + 1)) q 0 (some (q + 1))) (q + 3)) q 1 (some (q + 3))) (q + 42)) q 2 (some (q + 42))) q 3 (some (q + 81))
  refine r_aload_n (i := 0) hX e_X10_init_45 rfl rfl ?_
  refine r_iconst (v := 3) hX e_X10_init_46 (by decide +kernel) ?_
  have z8 := ((z7.r (k := 3) (v := some (q + 81)) (show q < q + 81 by omega)).m (show q + 81 ≤ q + 82 by omega))
  refine h_newI (t := 2) (n' := q + 83) (kc' := 82) (ks' := 2389) hX (hG.up 81) e_X10_init_47 rfl rfl rfl rfl (fun _ _ h => h) wk_299 z8 (hS 82 _ rfl) (by decide) (by decide +kernel) (Nat.le_of_ble_eq_true rfl) rfl rfl rfl (by rw [hc]; exact Nat.le_of_ble_eq_true rfl) (by rw [hs]; exact Nat.le_of_ble_eq_true rfl) ?_
  refine g_putRF (r := (q + 82)) hX (hG.up 82).fit hin e_X10_init_49 fl_10_30 fpf_10_4 (fun r h => by cases h; rfl) rfl (cut_o (hS 0 _ rfl) (by omega)) rfl rfl ?_
  have f2 := gR_sRn (k := 4) (v := some (q + 82)) f1 (show ¬ (q = q ∧ 3 = 4) by omega)
  refine r_aload_n (i := 0) hX e_X10_init_52 rfl rfl ?_
  refine r_iconst (v := 4) hX e_X10_init_53 (by decide +kernel) ?_
  have z9 := ((z8.r (k := 4) (v := some (q + 82)) (show q < q + 82 by omega)).m (show q + 82 ≤ q + 83 by omega))
  refine h_newQ (t := 8) (n' := q + 84) (kc' := 83) (ks' := 2393) hX (hG.up 82) e_X10_init_54 rfl rfl wk_272 ov_Row z9 (hS 83 _ rfl) (by decide) (by decide +kernel) (Nat.le_of_ble_eq_true rfl) rfl rfl rfl (by rw [hc]; exact Nat.le_of_ble_eq_true rfl) (by rw [hs]; exact Nat.le_of_ble_eq_true rfl) ?_
  refine g_putRF (r := (q + 83)) hX (hG.up 83).fit hin e_X10_init_57 fl_10_36 fpf_10_5 (fun r h => by cases h; rfl) rfl (cut_o (hS 0 _ rfl) (by omega)) rfl rfl ?_
  have f3 := gR_sRn (k := 5) (v := some (q + 83)) f2 (show ¬ (q = q ∧ 3 = 5) by omega)
  have f4 := gR_sRs (sR (sR (sR (k_X4 (sR (k_X4 (sR (k_X6 M (q + 1)) q 0 (some (q + 1))) (q + 3)) q 1 (some (q + 3))) (q + 42)) q 2 (some (q + 42))) q 3 (some (q + 81))) q 4 (some (q + 82))) q 5 (some (q + 83))
  exact k f3 f4 ((z9.r (k := 5) (v := some (q + 83)) (show q < q + 83 by omega)).m (show q + 83 ≤ q + 84 by omega))
def k_X10_1 (M : Mem) (q : Nat) : Mem := (sR (k_X5 (sR (k_X0 (sI (sR (k_X3 M (q + 84)) q 6 (some (q + 84))) q 7 (0)) (q + 142)) q 8 (some (q + 142))) (q + 146)) q 9 (some (q + 146)))
theorem z_X10_1 {M : Mem} {q n : Nat} (h : Z0 M n) (hn : q + 149 ≤ n) : Z0 (k_X10_1 M q) n := by
  unfold k_X10_1
  exact ((z_X5 ((z_X0 (((z_X3 h (show (q + 84) + 58 ≤ n by omega)).r (show q < n by omega)).i (show q < n by omega)) (show (q + 142) + 4 ≤ n by omega)).r (show q < n by omega)) (show (q + 146) + 3 ≤ n by omega)).r (show q < n by omega))
theorem n_X10_1 {M : Mem} {q b j : Nat} {x : Option Nat} (h : gR M b j = x) (hb : b < q) : gR (k_X10_1 M q) b j = x := by
  unfold k_X10_1
  exact (gR_sRn (n_X5 (gR_sRn (n_X0 (gR_sIn (gR_sRn (n_X3 h (by omega)) (fun z => absurd z.1 (by omega))) (fun z => absurd z.1 (by omega))) (by omega)) (fun z => absurd z.1 (by omega))) (by omega)) (fun z => absurd z.1 (by omega)))
theorem nc_10_40 : NC RX10 40 3 18 := ⟨_, tyX3, rfl, ly3, tyX3_ok, wk_274, wk_275, wk_7, by decide, rfl, fun j hj => match j, hj with | 0, _ => ⟨_, rfl, rfl⟩ | 1, _ => ⟨_, rfl, rfl⟩ | 2, _ => ⟨_, rfl, rfl⟩ | 3, _ => ⟨_, rfl, rfl⟩ | 4, _ => ⟨_, rfl, rfl⟩ | 5, _ => ⟨_, rfl, rfl⟩ | 6, _ => ⟨_, rfl, rfl⟩ | 7, _ => ⟨_, rfl, rfl⟩ | 8, _ => ⟨_, rfl, rfl⟩ | 9, _ => ⟨_, rfl, rfl⟩ | 10, _ => ⟨_, rfl, rfl⟩ | 11, _ => ⟨_, rfl, rfl⟩ | 12, _ => ⟨_, rfl, rfl⟩ | 13, _ => ⟨_, rfl, rfl⟩ | 14, _ => ⟨_, rfl, rfl⟩ | 15, _ => ⟨_, rfl, rfl⟩ | 16, _ => ⟨_, rfl, rfl⟩ | 17, _ => ⟨_, rfl, rfl⟩ | j + 18, h => absurd h (by omega)⟩
theorem nw_10_42 : Cond.methodLinkNest RX10 42 yX3_init "TurningMarket" ∈ NESTW := List.mem_filter.mpr ⟨List.mem_of_getElem? (i := 374) (by decide +kernel), rfl⟩
theorem fpf_10_6 : FPF 10 6 (.object "TurningMarket$Hour") := ⟨_, tyX10, rfl, tyX10_ok, nmX10, rfl, by decide +kernel⟩
theorem nc_10_51 : NC RX10 51 0 11 := ⟨_, tyX0, rfl, ly0, tyX0_ok, wk_366, wk_367, wk_9, by decide, rfl, fun j hj => match j, hj with | 0, _ => ⟨_, rfl, rfl⟩ | 1, _ => ⟨_, rfl, rfl⟩ | 2, _ => ⟨_, rfl, rfl⟩ | 3, _ => ⟨_, rfl, rfl⟩ | 4, _ => ⟨_, rfl, rfl⟩ | 5, _ => ⟨_, rfl, rfl⟩ | 6, _ => ⟨_, rfl, rfl⟩ | 7, _ => ⟨_, rfl, rfl⟩ | 8, _ => ⟨_, rfl, rfl⟩ | 9, _ => ⟨_, rfl, rfl⟩ | 10, _ => ⟨_, rfl, rfl⟩ | j + 11, h => absurd h (by omega)⟩
theorem nw_10_53 : Cond.methodLinkNest RX10 53 yX0_init "TurningMarket" ∈ NESTW := List.mem_filter.mpr ⟨List.mem_of_getElem? (i := 466) (by decide +kernel), rfl⟩
theorem fpf_10_8 : FPF 10 8 (.object "TurningMarket$Alone") := ⟨_, tyX10, rfl, tyX10_ok, nmX10, rfl, by decide +kernel⟩
theorem nc_10_58 : NC RX10 58 5 4 := ⟨_, tyX5, rfl, ly5, tyX5_ok, wk_410, wk_411, wk_10, by decide, rfl, fun j hj => match j, hj with | 0, _ => ⟨_, rfl, rfl⟩ | 1, _ => ⟨_, rfl, rfl⟩ | 2, _ => ⟨_, rfl, rfl⟩ | 3, _ => ⟨_, rfl, rfl⟩ | j + 4, h => absurd h (by omega)⟩
theorem nw_10_60 : Cond.methodLinkNest RX10 60 yX5_init "TurningMarket" ∈ NESTW := List.mem_filter.mpr ⟨List.mem_of_getElem? (i := 510) (by decide +kernel), rfl⟩
theorem fpf_10_9 : FPF 10 9 (.object "TurningMarket$Post") := ⟨_, tyX10, rfl, tyX10_ok, nmX10, rfl, by decide +kernel⟩
set_option maxHeartbeats 4000000 in
theorem s_X10_1 {X : Cx} {S : Shp} {q : Nat} {M : Mem} (hX : OkX X cX10_init RX10 3 53) (hG : OkG X (q + 1) 0) (hin : X.meth.name = "<init>") (hc : X.R.cells = 273) (hs : X.R.slots = 6063) (hS : Blk S q bk_X10) (hZ : Z0 M (q + 84)) (h0 : gR M q 3 = some (q + 81)) (h1 : gR M q 5 = some (q + 83)) (k : gR (k_X10_1 M q) q 3 = some (q + 81) → gR (k_X10_1 M q) q 5 = some (q + 83) → Z0 (k_X10_1 M q) (q + 149) → GoN X (cut S (q + 149)) (q + 149) 148 5246 (k_X10_1 M q) 100 [some (.ref (X.B + q)), some (.int (0))] []) : GoN X (cut S (q + 84)) (q + 84) 83 2393 M 60 [some (.ref (X.B + q)), none] [] := by
  refine r_aload_n (i := 0) hX e_X10_init_60 rfl rfl ?_
  have z1 := hZ
  refine h_new (n' := q + 85) (kc' := 84) (ks' := 2411) hX (hG.up 83) e_X10_init_61 nc_10_40 z1 (hS 84 _ rfl) rfl rfl rfl (by rw [hc]; exact Nat.le_of_ble_eq_true rfl) (by rw [hs]; exact Nat.le_of_ble_eq_true rfl) ?_
  refine r_dup hX e_X10_init_64 rfl ?_
  have z2 := (z1.m (show q + 84 ≤ q + 85 by omega))
  refine h_init (q := (q + 84)) (mc := 57) (ms := 2729) (n' := q + 142) (kc' := 141) (ks' := 5140) hX (hG.up 84) rfl e_X10_init_65 rfl (i_X3 (hS.sub (k := 84) (l' := bk_X3) (by decide +kernel)) z2) cw_X3_init rfl wk_277 nw_10_42 ⟨by decide, by decide⟩ (Nat.le_of_ble_eq_true rfl) rfl rfl (by rw [hc]; exact Nat.le_of_ble_eq_true rfl) (by rw [hs]; exact Nat.le_of_ble_eq_true rfl) ?_
  have f1 := n_X3  h0 (show q < (q + 84) by omega)
  have f2 := n_X3  h1 (show q < (q + 84) by omega)
  refine g_putRF (r := (q + 84)) hX (hG.up 141).fit hin e_X10_init_68 fl_10_43 fpf_10_6 (fun r h => by cases h; rfl) rfl (cut_o (hS 0 _ rfl) (by omega)) rfl rfl ?_
  have f3 := gR_sRn (k := 6) (v := some (q + 84)) f1 (show ¬ (q = q ∧ 3 = 6) by omega)
  have f4 := gR_sRn (k := 6) (v := some (q + 84)) f2 (show ¬ (q = q ∧ 5 = 6) by omega)
  refine r_aload_n (i := 0) hX e_X10_init_71 rfl rfl ?_
  refine r_iconst (v := 0) hX e_X10_init_72 (by decide +kernel) ?_
  refine r_putZ hX (hG.up 141).fit rfl rfl e_X10_init_73 fl_10_47 fp_10_7 rfl (cut_o (hS 0 _ rfl) (by omega)) ?_
  have f5 := gR_sIn (a := q) (k := 7) (v := 0) f3 (show ¬ (q = q ∧ 3 = 7) by omega)
  have f6 := gR_sIn (a := q) (k := 7) (v := 0) f4 (show ¬ (q = q ∧ 5 = 7) by omega)
  refine r_aload_n (i := 0) hX e_X10_init_76 rfl rfl ?_
  have z3 := (((z_X3 (z2.m (show q + 85 ≤ q + 142 by omega)) (show (q + 84) + 58 ≤ q + 142 by omega)).r (k := 6) (v := some (q + 84)) (show q < q + 142 by omega)).i (k := 7) (v := 0) (show q < q + 142 by omega))
  refine h_new (n' := q + 143) (kc' := 142) (ks' := 5151) hX (hG.up 141) e_X10_init_77 nc_10_51 z3 (hS 142 _ rfl) rfl rfl rfl (by rw [hc]; exact Nat.le_of_ble_eq_true rfl) (by rw [hs]; exact Nat.le_of_ble_eq_true rfl) ?_
  refine r_dup hX e_X10_init_80 rfl ?_
  have z4 := (z3.m (show q + 142 ≤ q + 143 by omega))
  refine h_init (q := (q + 142)) (mc := 3) (ms := 71) (n' := q + 146) (kc' := 145) (ks' := 5222) hX (hG.up 142) rfl e_X10_init_81 rfl (i_X0 (hS.sub (k := 142) (l' := bk_X0) (by decide +kernel)) z4) cw_X0_init rfl wk_369 nw_10_53 ⟨by decide, by decide⟩ (Nat.le_of_ble_eq_true rfl) rfl rfl (by rw [hc]; exact Nat.le_of_ble_eq_true rfl) (by rw [hs]; exact Nat.le_of_ble_eq_true rfl) ?_
  have f7 := n_X0  f5 (show q < (q + 142) by omega)
  have f8 := n_X0  f6 (show q < (q + 142) by omega)
  refine g_putRF (r := (q + 142)) hX (hG.up 145).fit hin e_X10_init_84 fl_10_54 fpf_10_8 (fun r h => by cases h; rfl) rfl (cut_o (hS 0 _ rfl) (by omega)) rfl rfl ?_
  have f9 := gR_sRn (k := 8) (v := some (q + 142)) f7 (show ¬ (q = q ∧ 3 = 8) by omega)
  have f10 := gR_sRn (k := 8) (v := some (q + 142)) f8 (show ¬ (q = q ∧ 5 = 8) by omega)
  refine r_aload_n (i := 0) hX e_X10_init_87 rfl rfl ?_
  have z5 := ((z_X0 (z4.m (show q + 143 ≤ q + 146 by omega)) (show (q + 142) + 4 ≤ q + 146 by omega)).r (k := 8) (v := some (q + 142)) (show q < q + 146 by omega))
  refine h_new (n' := q + 147) (kc' := 146) (ks' := 5226) hX (hG.up 145) e_X10_init_88 nc_10_58 z5 (hS 146 _ rfl) rfl rfl rfl (by rw [hc]; exact Nat.le_of_ble_eq_true rfl) (by rw [hs]; exact Nat.le_of_ble_eq_true rfl) ?_
  refine r_dup hX e_X10_init_91 rfl ?_
  have z6 := (z5.m (show q + 146 ≤ q + 147 by omega))
  refine h_init (q := (q + 146)) (mc := 2) (ms := 20) (n' := q + 149) (kc' := 148) (ks' := 5246) hX (hG.up 146) rfl e_X10_init_92 rfl (i_X5 (hS.sub (k := 146) (l' := bk_X5) (by decide +kernel)) z6) cw_X5_init rfl wk_413 nw_10_60 ⟨by decide, by decide⟩ (Nat.le_of_ble_eq_true rfl) rfl rfl (by rw [hc]; exact Nat.le_of_ble_eq_true rfl) (by rw [hs]; exact Nat.le_of_ble_eq_true rfl) ?_
  have f11 := n_X5  f9 (show q < (q + 146) by omega)
  have f12 := n_X5  f10 (show q < (q + 146) by omega)
  refine g_putRF (r := (q + 146)) hX (hG.up 148).fit hin e_X10_init_95 fl_10_61 fpf_10_9 (fun r h => by cases h; rfl) rfl (cut_o (hS 0 _ rfl) (by omega)) rfl rfl ?_
  have f13 := gR_sRn (k := 9) (v := some (q + 146)) f11 (show ¬ (q = q ∧ 3 = 9) by omega)
  have f14 := gR_sRn (k := 9) (v := some (q + 146)) f12 (show ¬ (q = q ∧ 5 = 9) by omega)
  refine r_iconst (v := 0) hX e_X10_init_98 (by decide +kernel) ?_
  refine r_istore_n (i := 1) hX e_X10_init_99 rfl (Nat.le_of_ble_eq_true rfl) rfl ?_
  exact k f13 f14 ((z_X5 (z6.m (show q + 147 ≤ q + 149 by omega)) (show (q + 146) + 3 ≤ q + 149 by omega)).r (k := 9) (v := some (q + 146)) (show q < q + 149 by omega))
def k_X10_2 (M : Mem) (q : Nat) : Mem := (sR (k_X4 (sR (k_X4 (sR (k_X4 M (q + 149)) (q + 81) 0 (some (q + 149))) (q + 188)) (q + 81) 1 (some (q + 188))) (q + 227)) (q + 81) 2 (some (q + 227)))
theorem z_X10_2 {M : Mem} {q n : Nat} (h : Z0 M n) (hn : q + 266 ≤ n) : Z0 (k_X10_2 M q) n := by
  unfold k_X10_2
  exact ((z_X4 ((z_X4 ((z_X4 h (show (q + 149) + 39 ≤ n by omega)).r (show (q + 81) < n by omega)) (show (q + 188) + 39 ≤ n by omega)).r (show (q + 81) < n by omega)) (show (q + 227) + 39 ≤ n by omega)).r (show (q + 81) < n by omega))
theorem n_X10_2 {M : Mem} {q b j : Nat} {x : Option Nat} (h : gR M b j = x) (hb : b < q) : gR (k_X10_2 M q) b j = x := by
  unfold k_X10_2
  exact (gR_sRn (n_X4 (gR_sRn (n_X4 (gR_sRn (n_X4 h (by omega)) (fun z => absurd z.1 (by omega))) (by omega)) (fun z => absurd z.1 (by omega))) (by omega)) (fun z => absurd z.1 (by omega)))
set_option maxHeartbeats 4000000 in
theorem s_X10_2 {X : Cx} {S : Shp} {q : Nat} {M : Mem} (hX : OkX X cX10_init RX10 3 53) (hG : OkG X (q + 1) 0) (hin : X.meth.name = "<init>") (hc : X.R.cells = 273) (hs : X.R.slots = 6063) (hS : Blk S q bk_X10) (hZ : Z0 M (q + 149)) (h0 : gR M q 3 = some (q + 81)) (h1 : gR M q 5 = some (q + 83)) (k : gR (k_X10_2 M q) q 5 = some (q + 83) → Z0 (k_X10_2 M q) (q + 266) → GoN X (cut S (q + 266)) (q + 266) 265 5807 (k_X10_2 M q) 118 [some (.ref (X.B + q)), some (.int (2))] []) : GoN X (cut S (q + 149)) (q + 149) 148 5246 M 100 [some (.ref (X.B + q)), some (.int (0))] [] := by
  refine r_iload_n (i := 1) hX e_X10_init_100 rfl rfl ?_
  refine r_iconst (v := 3) hX e_X10_init_101 (by decide +kernel) ?_
  refine r_icmp_ge hX e_X10_init_102 (fun h => absurd h (by decide)) (fun _ => ?_)
  refine r_aload_n (i := 0) hX e_X10_init_105 rfl rfl ?_
  refine r_getR (r := (q + 81)) hX (hG.up 148).fit e_X10_init_106 fl_10_26 rfl (cut_o (hS 0 _ rfl) (by omega)) h0 ?_
  refine r_iload_n (i := 1) hX e_X10_init_109 rfl rfl ?_
  have z1 := hZ
  refine h_new (n' := q + 150) (kc' := 149) (ks' := 5255) hX (hG.up 148) e_X10_init_110 nc_10_16 z1 (hS 149 _ rfl) rfl rfl rfl (by rw [hc]; exact Nat.le_of_ble_eq_true rfl) (by rw [hs]; exact Nat.le_of_ble_eq_true rfl) ?_
  refine r_dup hX e_X10_init_113 rfl ?_
  have z2 := (z1.m (show q + 149 ≤ q + 150 by omega))
  refine h_initP (q := (q + 149)) (mc := 38) (ms := 178) (n' := q + 188) (kc' := 187) (ks' := 5433) hX (hG.up 149) rfl e_X10_init_114 rfl (i_X4 (hS.sub (k := 149) (l' := bk_X4) (by decide +kernel)) z2) cw_X4_init rfl wk_70 wk_69 ⟨by decide, by decide⟩ (Nat.le_of_ble_eq_true rfl) rfl rfl (by rw [hc]; exact Nat.le_of_ble_eq_true rfl) (by rw [hs]; exact Nat.le_of_ble_eq_true rfl) ?_
  have f1 := n_X4  h0 (show q < (q + 149) by omega)
  have f2 := n_X4  h1 (show q < (q + 149) by omega)
  refine h_aast (j := 0) (t := 7) (qk := (q + 149)) hX (hG.up 187).fit e_X10_init_117 (cut_a (hS 81 _ rfl) (by omega) (by decide +kernel)) (by decide) rfl rfl (show cls[4]? = some (RX4, TX4, 9) from rfl) (by decide) (cut_o (hS 149 _ rfl) (by omega)) (by decide +kernel) ?_
  have f3 := gR_sRn (k := 0) (v := some (q + 149)) f1 (show ¬ (q = (q + 81) ∧ 3 = 0) by omega)
  have f4 := gR_sRn (k := 0) (v := some (q + 149)) f2 (show ¬ (q = (q + 81) ∧ 5 = 0) by omega)
  refine r_iinc (v := 1) hX e_X10_init_118 rfl (by decide +kernel) (Nat.le_of_ble_eq_true rfl) rfl ?_
  refine r_goto hX e_X10_init_121 ?_
  refine r_iload_n (i := 1) hX e_X10_init_100 rfl rfl ?_
  refine r_iconst (v := 3) hX e_X10_init_101 (by decide +kernel) ?_
  refine r_icmp_ge hX e_X10_init_102 (fun h => absurd h (by decide)) (fun _ => ?_)
  refine r_aload_n (i := 0) hX e_X10_init_105 rfl rfl ?_
  refine r_getR (r := (q + 81)) hX (hG.up 187).fit e_X10_init_106 fl_10_26 rfl (cut_o (hS 0 _ rfl) (by omega)) f3 ?_
  refine r_iload_n (i := 1) hX e_X10_init_109 rfl rfl ?_
  have z3 := ((z_X4 (z2.m (show q + 150 ≤ q + 188 by omega)) (show (q + 149) + 39 ≤ q + 188 by omega)).r (k := 0) (v := some (q + 149)) (show (q + 81) < q + 188 by omega))
  refine h_new (n' := q + 189) (kc' := 188) (ks' := 5442) hX (hG.up 187) e_X10_init_110 nc_10_16 z3 (hS 188 _ rfl) rfl rfl rfl (by rw [hc]; exact Nat.le_of_ble_eq_true rfl) (by rw [hs]; exact Nat.le_of_ble_eq_true rfl) ?_
  refine r_dup hX e_X10_init_113 rfl ?_
  have z4 := (z3.m (show q + 188 ≤ q + 189 by omega))
  refine h_initP (q := (q + 188)) (mc := 38) (ms := 178) (n' := q + 227) (kc' := 226) (ks' := 5620) hX (hG.up 188) rfl e_X10_init_114 rfl (i_X4 (hS.sub (k := 188) (l' := bk_X4) (by decide +kernel)) z4) cw_X4_init rfl wk_70 wk_69 ⟨by decide, by decide⟩ (Nat.le_of_ble_eq_true rfl) rfl rfl (by rw [hc]; exact Nat.le_of_ble_eq_true rfl) (by rw [hs]; exact Nat.le_of_ble_eq_true rfl) ?_
  have f5 := n_X4  f3 (show q < (q + 188) by omega)
  have f6 := n_X4  f4 (show q < (q + 188) by omega)
  refine h_aast (j := 1) (t := 7) (qk := (q + 188)) hX (hG.up 226).fit e_X10_init_117 (cut_a (hS 81 _ rfl) (by omega) (by decide +kernel)) (by decide) rfl rfl (show cls[4]? = some (RX4, TX4, 9) from rfl) (by decide) (cut_o (hS 188 _ rfl) (by omega)) (by decide +kernel) ?_
  have f7 := gR_sRn (k := 1) (v := some (q + 188)) f5 (show ¬ (q = (q + 81) ∧ 3 = 1) by omega)
  have f8 := gR_sRn (k := 1) (v := some (q + 188)) f6 (show ¬ (q = (q + 81) ∧ 5 = 1) by omega)
  refine r_iinc (v := 2) hX e_X10_init_118 rfl (by decide +kernel) (Nat.le_of_ble_eq_true rfl) rfl ?_
  refine r_goto hX e_X10_init_121 ?_
  refine r_iload_n (i := 1) hX e_X10_init_100 rfl rfl ?_
  refine r_iconst (v := 3) hX e_X10_init_101 (by decide +kernel) ?_
  refine r_icmp_ge hX e_X10_init_102 (fun h => absurd h (by decide)) (fun _ => ?_)
  refine r_aload_n (i := 0) hX e_X10_init_105 rfl rfl ?_
  refine r_getR (r := (q + 81)) hX (hG.up 226).fit e_X10_init_106 fl_10_26 rfl (cut_o (hS 0 _ rfl) (by omega)) f7 ?_
  refine r_iload_n (i := 1) hX e_X10_init_109 rfl rfl ?_
  have z5 := ((z_X4 (z4.m (show q + 189 ≤ q + 227 by omega)) (show (q + 188) + 39 ≤ q + 227 by omega)).r (k := 1) (v := some (q + 188)) (show (q + 81) < q + 227 by omega))
  refine h_new (n' := q + 228) (kc' := 227) (ks' := 5629) hX (hG.up 226) e_X10_init_110 nc_10_16 z5 (hS 227 _ rfl) rfl rfl rfl (by rw [hc]; exact Nat.le_of_ble_eq_true rfl) (by rw [hs]; exact Nat.le_of_ble_eq_true rfl) ?_
  refine r_dup hX e_X10_init_113 rfl ?_
  have z6 := (z5.m (show q + 227 ≤ q + 228 by omega))
  refine h_initP (q := (q + 227)) (mc := 38) (ms := 178) (n' := q + 266) (kc' := 265) (ks' := 5807) hX (hG.up 227) rfl e_X10_init_114 rfl (i_X4 (hS.sub (k := 227) (l' := bk_X4) (by decide +kernel)) z6) cw_X4_init rfl wk_70 wk_69 ⟨by decide, by decide⟩ (Nat.le_of_ble_eq_true rfl) rfl rfl (by rw [hc]; exact Nat.le_of_ble_eq_true rfl) (by rw [hs]; exact Nat.le_of_ble_eq_true rfl) ?_
  have f9 := n_X4  f8 (show q < (q + 227) by omega)
  refine h_aast (j := 2) (t := 7) (qk := (q + 227)) hX (hG.up 265).fit e_X10_init_117 (cut_a (hS 81 _ rfl) (by omega) (by decide +kernel)) (by decide) rfl rfl (show cls[4]? = some (RX4, TX4, 9) from rfl) (by decide) (cut_o (hS 227 _ rfl) (by omega)) (by decide +kernel) ?_
  have f10 := gR_sRn (k := 2) (v := some (q + 227)) f9 (show ¬ (q = (q + 81) ∧ 5 = 2) by omega)
  exact k f10 ((z_X4 (z6.m (show q + 228 ≤ q + 266 by omega)) (show (q + 227) + 39 ≤ q + 266 by omega)).r (k := 2) (v := some (q + 227)) (show (q + 81) < q + 266 by omega))
def k_X10_3 (M : Mem) (q : Nat) : Mem := (sR (k_X8 (sR (k_X8 M (q + 266)) (q + 83) 0 (some (q + 266))) (q + 268)) (q + 83) 1 (some (q + 268)))
theorem z_X10_3 {M : Mem} {q n : Nat} (h : Z0 M n) (hn : q + 270 ≤ n) : Z0 (k_X10_3 M q) n := by
  unfold k_X10_3
  exact ((z_X8 ((z_X8 h (show (q + 266) + 2 ≤ n by omega)).r (show (q + 83) < n by omega)) (show (q + 268) + 2 ≤ n by omega)).r (show (q + 83) < n by omega))
theorem n_X10_3 {M : Mem} {q b j : Nat} {x : Option Nat} (h : gR M b j = x) (hb : b < q) : gR (k_X10_3 M q) b j = x := by
  unfold k_X10_3
  exact (gR_sRn (n_X8 (gR_sRn (n_X8 h (by omega)) (fun z => absurd z.1 (by omega))) (by omega)) (fun z => absurd z.1 (by omega)))
theorem nc_10_34 : NC RX10 34 8 4 := ⟨_, tyX8, rfl, ly8, tyX8_ok, wk_272, wk_431, wk_11, by decide, rfl, fun j hj => match j, hj with | 0, _ => ⟨_, rfl, rfl⟩ | 1, _ => ⟨_, rfl, rfl⟩ | 2, _ => ⟨_, rfl, rfl⟩ | 3, _ => ⟨_, rfl, rfl⟩ | j + 4, h => absurd h (by omega)⟩
theorem nw_10_65 : Cond.methodLinkNest RX10 65 yX8_init "TurningMarket" ∈ NESTW := List.mem_filter.mpr ⟨List.mem_of_getElem? (i := 530) (by decide +kernel), rfl⟩
set_option maxHeartbeats 4000000 in
theorem s_X10_3 {X : Cx} {S : Shp} {q : Nat} {M : Mem} (hX : OkX X cX10_init RX10 3 53) (hG : OkG X (q + 1) 0) (hin : X.meth.name = "<init>") (hc : X.R.cells = 273) (hs : X.R.slots = 6063) (hS : Blk S q bk_X10) (hZ : Z0 M (q + 266)) (h0 : gR M q 5 = some (q + 83)) (k : gR (k_X10_3 M q) q 5 = some (q + 83) → Z0 (k_X10_3 M q) (q + 270) → GoN X (cut S (q + 270)) (q + 270) 269 5935 (k_X10_3 M q) 131 [some (.ref (X.B + q)), some (.int (2))] []) : GoN X (cut S (q + 266)) (q + 266) 265 5807 M 118 [some (.ref (X.B + q)), some (.int (2))] [] := by
  refine r_iinc (v := 3) hX e_X10_init_118 rfl (by decide +kernel) (Nat.le_of_ble_eq_true rfl) rfl ?_
  refine r_goto hX e_X10_init_121 ?_
  refine r_iload_n (i := 1) hX e_X10_init_100 rfl rfl ?_
  refine r_iconst (v := 3) hX e_X10_init_101 (by decide +kernel) ?_
  refine r_icmp_ge hX e_X10_init_102 (fun _ => ?_) (fun h => absurd (by decide) h)
  refine r_iconst (v := 0) hX e_X10_init_124 (by decide +kernel) ?_
  refine r_istore_n (i := 1) hX e_X10_init_125 rfl (Nat.le_of_ble_eq_true rfl) rfl ?_
  refine r_iload_n (i := 1) hX e_X10_init_126 rfl rfl ?_
  refine r_iconst (v := 4) hX e_X10_init_127 (by decide +kernel) ?_
  refine r_icmp_ge hX e_X10_init_128 (fun h => absurd h (by decide)) (fun _ => ?_)
  refine r_aload_n (i := 0) hX e_X10_init_131 rfl rfl ?_
  refine r_getR (r := (q + 83)) hX (hG.up 265).fit e_X10_init_132 fl_10_36 rfl (cut_o (hS 0 _ rfl) (by omega)) h0 ?_
  refine r_iload_n (i := 1) hX e_X10_init_135 rfl rfl ?_
  have z1 := hZ
  refine h_new (n' := q + 267) (kc' := 266) (ks' := 5811) hX (hG.up 265) e_X10_init_136 nc_10_34 z1 (hS 266 _ rfl) rfl rfl rfl (by rw [hc]; exact Nat.le_of_ble_eq_true rfl) (by rw [hs]; exact Nat.le_of_ble_eq_true rfl) ?_
  refine r_dup hX e_X10_init_139 rfl ?_
  have z2 := (z1.m (show q + 266 ≤ q + 267 by omega))
  refine h_init (q := (q + 266)) (mc := 1) (ms := 60) (n' := q + 268) (kc' := 267) (ks' := 5871) hX (hG.up 266) rfl e_X10_init_140 rfl (i_X8 (hS.sub (k := 266) (l' := bk_X8) (by decide +kernel)) z2) cw_X8_init rfl wk_433 nw_10_65 ⟨by decide, by decide⟩ (Nat.le_of_ble_eq_true rfl) rfl rfl (by rw [hc]; exact Nat.le_of_ble_eq_true rfl) (by rw [hs]; exact Nat.le_of_ble_eq_true rfl) ?_
  have f1 := n_X8  h0 (show q < (q + 266) by omega)
  refine h_aast (j := 0) (t := 8) (qk := (q + 266)) hX (hG.up 267).fit e_X10_init_143 (cut_a (hS 83 _ rfl) (by omega) (by decide +kernel)) (by decide) rfl rfl (show cls[8]? = some (RX8, TX8, 4) from rfl) (by decide) (cut_o (hS 266 _ rfl) (by omega)) (by decide +kernel) ?_
  have f2 := gR_sRn (k := 0) (v := some (q + 266)) f1 (show ¬ (q = (q + 83) ∧ 5 = 0) by omega)
  refine r_iinc (v := 1) hX e_X10_init_144 rfl (by decide +kernel) (Nat.le_of_ble_eq_true rfl) rfl ?_
  refine r_goto hX e_X10_init_147 ?_
  refine r_iload_n (i := 1) hX e_X10_init_126 rfl rfl ?_
  refine r_iconst (v := 4) hX e_X10_init_127 (by decide +kernel) ?_
  refine r_icmp_ge hX e_X10_init_128 (fun h => absurd h (by decide)) (fun _ => ?_)
  refine r_aload_n (i := 0) hX e_X10_init_131 rfl rfl ?_
  refine r_getR (r := (q + 83)) hX (hG.up 267).fit e_X10_init_132 fl_10_36 rfl (cut_o (hS 0 _ rfl) (by omega)) f2 ?_
  refine r_iload_n (i := 1) hX e_X10_init_135 rfl rfl ?_
  have z3 := ((z_X8 (z2.m (show q + 267 ≤ q + 268 by omega)) (show (q + 266) + 2 ≤ q + 268 by omega)).r (k := 0) (v := some (q + 266)) (show (q + 83) < q + 268 by omega))
  refine h_new (n' := q + 269) (kc' := 268) (ks' := 5875) hX (hG.up 267) e_X10_init_136 nc_10_34 z3 (hS 268 _ rfl) rfl rfl rfl (by rw [hc]; exact Nat.le_of_ble_eq_true rfl) (by rw [hs]; exact Nat.le_of_ble_eq_true rfl) ?_
  refine r_dup hX e_X10_init_139 rfl ?_
  have z4 := (z3.m (show q + 268 ≤ q + 269 by omega))
  refine h_init (q := (q + 268)) (mc := 1) (ms := 60) (n' := q + 270) (kc' := 269) (ks' := 5935) hX (hG.up 268) rfl e_X10_init_140 rfl (i_X8 (hS.sub (k := 268) (l' := bk_X8) (by decide +kernel)) z4) cw_X8_init rfl wk_433 nw_10_65 ⟨by decide, by decide⟩ (Nat.le_of_ble_eq_true rfl) rfl rfl (by rw [hc]; exact Nat.le_of_ble_eq_true rfl) (by rw [hs]; exact Nat.le_of_ble_eq_true rfl) ?_
  have f3 := n_X8  f2 (show q < (q + 268) by omega)
  refine h_aast (j := 1) (t := 8) (qk := (q + 268)) hX (hG.up 269).fit e_X10_init_143 (cut_a (hS 83 _ rfl) (by omega) (by decide +kernel)) (by decide) rfl rfl (show cls[8]? = some (RX8, TX8, 4) from rfl) (by decide) (cut_o (hS 268 _ rfl) (by omega)) (by decide +kernel) ?_
  have f4 := gR_sRn (k := 1) (v := some (q + 268)) f3 (show ¬ (q = (q + 83) ∧ 5 = 1) by omega)
  refine r_iinc (v := 2) hX e_X10_init_144 rfl (by decide +kernel) (Nat.le_of_ble_eq_true rfl) rfl ?_
  refine r_goto hX e_X10_init_147 ?_
  refine r_iload_n (i := 1) hX e_X10_init_126 rfl rfl ?_
  refine r_iconst (v := 4) hX e_X10_init_127 (by decide +kernel) ?_
  refine r_icmp_ge hX e_X10_init_128 (fun h => absurd h (by decide)) (fun _ => ?_)
  exact k f4 ((z_X8 (z4.m (show q + 269 ≤ q + 270 by omega)) (show (q + 268) + 2 ≤ q + 270 by omega)).r (k := 1) (v := some (q + 268)) (show (q + 83) < q + 270 by omega))
def k_X10_4 (M : Mem) (q : Nat) : Mem := (sR (k_X8 (sR (k_X8 M (q + 270)) (q + 83) 2 (some (q + 270))) (q + 272)) (q + 83) 3 (some (q + 272)))
theorem z_X10_4 {M : Mem} {q n : Nat} (h : Z0 M n) (hn : q + 274 ≤ n) : Z0 (k_X10_4 M q) n := by
  unfold k_X10_4
  exact ((z_X8 ((z_X8 h (show (q + 270) + 2 ≤ n by omega)).r (show (q + 83) < n by omega)) (show (q + 272) + 2 ≤ n by omega)).r (show (q + 83) < n by omega))
theorem n_X10_4 {M : Mem} {q b j : Nat} {x : Option Nat} (h : gR M b j = x) (hb : b < q) : gR (k_X10_4 M q) b j = x := by
  unfold k_X10_4
  exact (gR_sRn (n_X8 (gR_sRn (n_X8 h (by omega)) (fun z => absurd z.1 (by omega))) (by omega)) (fun z => absurd z.1 (by omega)))
set_option maxHeartbeats 4000000 in
theorem s_X10_4 {X : Cx} {S : Shp} {q : Nat} {M : Mem} (hX : OkX X cX10_init RX10 3 53) (hG : OkG X (q + 1) 0) (hin : X.meth.name = "<init>") (hc : X.R.cells = 273) (hs : X.R.slots = 6063) (hS : Blk S q bk_X10) (hZ : Z0 M (q + 270)) (h0 : gR M q 5 = some (q + 83)) (k : Z0 (k_X10_4 M q) (q + 274) → GoN X (cut S (q + 274)) (q + 274) 273 6063 (k_X10_4 M q) 150 [some (.ref (X.B + q)), some (.int (4))] []) : GoN X (cut S (q + 270)) (q + 270) 269 5935 M 131 [some (.ref (X.B + q)), some (.int (2))] [] := by
  refine r_aload_n (i := 0) hX e_X10_init_131 rfl rfl ?_
  refine r_getR (r := (q + 83)) hX (hG.up 269).fit e_X10_init_132 fl_10_36 rfl (cut_o (hS 0 _ rfl) (by omega)) h0 ?_
  refine r_iload_n (i := 1) hX e_X10_init_135 rfl rfl ?_
  have z1 := hZ
  refine h_new (n' := q + 271) (kc' := 270) (ks' := 5939) hX (hG.up 269) e_X10_init_136 nc_10_34 z1 (hS 270 _ rfl) rfl rfl rfl (by rw [hc]; exact Nat.le_of_ble_eq_true rfl) (by rw [hs]; exact Nat.le_of_ble_eq_true rfl) ?_
  refine r_dup hX e_X10_init_139 rfl ?_
  have z2 := (z1.m (show q + 270 ≤ q + 271 by omega))
  refine h_init (q := (q + 270)) (mc := 1) (ms := 60) (n' := q + 272) (kc' := 271) (ks' := 5999) hX (hG.up 270) rfl e_X10_init_140 rfl (i_X8 (hS.sub (k := 270) (l' := bk_X8) (by decide +kernel)) z2) cw_X8_init rfl wk_433 nw_10_65 ⟨by decide, by decide⟩ (Nat.le_of_ble_eq_true rfl) rfl rfl (by rw [hc]; exact Nat.le_of_ble_eq_true rfl) (by rw [hs]; exact Nat.le_of_ble_eq_true rfl) ?_
  have f1 := n_X8  h0 (show q < (q + 270) by omega)
  refine h_aast (j := 2) (t := 8) (qk := (q + 270)) hX (hG.up 271).fit e_X10_init_143 (cut_a (hS 83 _ rfl) (by omega) (by decide +kernel)) (by decide) rfl rfl (show cls[8]? = some (RX8, TX8, 4) from rfl) (by decide) (cut_o (hS 270 _ rfl) (by omega)) (by decide +kernel) ?_
  have f2 := gR_sRn (k := 2) (v := some (q + 270)) f1 (show ¬ (q = (q + 83) ∧ 5 = 2) by omega)
  refine r_iinc (v := 3) hX e_X10_init_144 rfl (by decide +kernel) (Nat.le_of_ble_eq_true rfl) rfl ?_
  refine r_goto hX e_X10_init_147 ?_
  refine r_iload_n (i := 1) hX e_X10_init_126 rfl rfl ?_
  refine r_iconst (v := 4) hX e_X10_init_127 (by decide +kernel) ?_
  refine r_icmp_ge hX e_X10_init_128 (fun h => absurd h (by decide)) (fun _ => ?_)
  refine r_aload_n (i := 0) hX e_X10_init_131 rfl rfl ?_
  refine r_getR (r := (q + 83)) hX (hG.up 271).fit e_X10_init_132 fl_10_36 rfl (cut_o (hS 0 _ rfl) (by omega)) f2 ?_
  refine r_iload_n (i := 1) hX e_X10_init_135 rfl rfl ?_
  have z3 := ((z_X8 (z2.m (show q + 271 ≤ q + 272 by omega)) (show (q + 270) + 2 ≤ q + 272 by omega)).r (k := 2) (v := some (q + 270)) (show (q + 83) < q + 272 by omega))
  refine h_new (n' := q + 273) (kc' := 272) (ks' := 6003) hX (hG.up 271) e_X10_init_136 nc_10_34 z3 (hS 272 _ rfl) rfl rfl rfl (by rw [hc]; exact Nat.le_of_ble_eq_true rfl) (by rw [hs]; exact Nat.le_of_ble_eq_true rfl) ?_
  refine r_dup hX e_X10_init_139 rfl ?_
  have z4 := (z3.m (show q + 272 ≤ q + 273 by omega))
  refine h_init (q := (q + 272)) (mc := 1) (ms := 60) (n' := q + 274) (kc' := 273) (ks' := 6063) hX (hG.up 272) rfl e_X10_init_140 rfl (i_X8 (hS.sub (k := 272) (l' := bk_X8) (by decide +kernel)) z4) cw_X8_init rfl wk_433 nw_10_65 ⟨by decide, by decide⟩ (Nat.le_of_ble_eq_true rfl) rfl rfl (by rw [hc]; exact Nat.le_of_ble_eq_true rfl) (by rw [hs]; exact Nat.le_of_ble_eq_true rfl) ?_
  refine h_aast (j := 3) (t := 8) (qk := (q + 272)) hX (hG.up 273).fit e_X10_init_143 (cut_a (hS 83 _ rfl) (by omega) (by decide +kernel)) (by decide) rfl rfl (show cls[8]? = some (RX8, TX8, 4) from rfl) (by decide) (cut_o (hS 272 _ rfl) (by omega)) (by decide +kernel) ?_
  refine r_iinc (v := 4) hX e_X10_init_144 rfl (by decide +kernel) (Nat.le_of_ble_eq_true rfl) rfl ?_
  refine r_goto hX e_X10_init_147 ?_
  refine r_iload_n (i := 1) hX e_X10_init_126 rfl rfl ?_
  refine r_iconst (v := 4) hX e_X10_init_127 (by decide +kernel) ?_
  refine r_icmp_ge hX e_X10_init_128 (fun _ => ?_) (fun h => absurd (by decide) h)
  exact k  ((z_X8 (z4.m (show q + 273 ≤ q + 274 by omega)) (show (q + 272) + 2 ≤ q + 274 by omega)).r (k := 3) (v := some (q + 272)) (show (q + 83) < q + 274 by omega))
def k_X10 (M : Mem) (q : Nat) : Mem := (k_X10_4 (k_X10_3 (k_X10_2 (k_X10_1 (k_X10_0 M q) q) q) q) q)
theorem z_X10 {M : Mem} {q n : Nat} (h : Z0 M n) (hn : q + 274 ≤ n) : Z0 (k_X10 M q) n := by
  unfold k_X10
  exact (z_X10_4 (z_X10_3 (z_X10_2 (z_X10_1 (z_X10_0 h (by omega)) (by omega)) (by omega)) (by omega)) (by omega))
theorem n_X10 {M : Mem} {q b j : Nat} {x : Option Nat} (h : gR M b j = x) (hb : b < q) : gR (k_X10 M q) b j = x := by
  unfold k_X10
  exact (n_X10_4 (n_X10_3 (n_X10_2 (n_X10_1 (n_X10_0 h hb) hb) hb) hb) hb)
set_option maxHeartbeats 4000000 in
theorem i_X10 {l : Launch} {S : Shp} {q : Nat} {M : Mem} (hS : Blk S q bk_X10) (hZ : Z0 M (q + 1)) : CG l yX10_init cX10_init 2 3 53 273 6063 S q (q + 274) M (k_X10 M q) := by
  refine met_g (own := RX10) (by decide +kernel) rfl rfl (by decide) (fun X hX hG hl hin hc hs hR => ?_)
  subst hl
  refine s_X10_0 hX hG hin hc hs hS hZ  (fun g0_0 g0_1 zz0 => ?_)
  refine s_X10_1 hX hG hin hc hs hS zz0 g0_0 g0_1 (fun g1_0 g1_1 zz1 => ?_)
  refine s_X10_2 hX hG hin hc hs hS zz1 g1_0 g1_1 (fun g2_0 zz2 => ?_)
  refine s_X10_3 hX hG hin hc hs hS zz2 g2_0 (fun g3_0 zz3 => ?_)
  refine s_X10_4 hX hG hin hc hs hS zz3 g3_0 (fun  zz4 => ?_)
  exact g_ret hX hG.1 hR e_X10_init_150
