def bk_X3 : List (Nat × Nat) := [(3, 18), (2, 2), (109, 3), (100, 60), (100, 60), (100, 60), (109, 8), (100, 60), (100, 60), (100, 60), (100, 60), (100, 60), (100, 60), (100, 60), (100, 60), (109, 8), (100, 60), (100, 60), (100, 60), (100, 60), (100, 60), (100, 60), (100, 60), (100, 60), (109, 8), (100, 60), (100, 60), (100, 60), (100, 60), (100, 60), (100, 60), (100, 60), (100, 60), (109, 6), (100, 60), (100, 60), (100, 60), (100, 60), (100, 60), (100, 60), (100, 160), (100, 160), (100, 160), (100, 160), (100, 6), (100, 8), (100, 8), (102, 8), (102, 8), (100, 6), (109, 6), (100, 3), (100, 3), (100, 3), (100, 3), (100, 3), (100, 3), (100, 6)]
def k_X3_0 (M : Mem) (q : Nat) : Mem := (sR (sR (sR (sR (mulR (sR (mulR (sR (mulR (sR (k_X2 M (q + 1)) q 0 (some (q + 1))) (q + 15) 8) q 1 (some (q + 15))) (q + 24) 8) q 2 (some (q + 24))) (q + 33) 6) q 3 (some (q + 33))) q 5 (some (q + 40))) q 6 (some (q + 41))) q 7 (some (q + 42)))
theorem z_X3_0 {M : Mem} {q n : Nat} (h : Z0 M n) (hn : q + 43 ≤ n) : Z0 (k_X3_0 M q) n := by
  unfold k_X3_0
  exact (((((((((((z_X2 h (show (q + 1) + 14 ≤ n by omega)).r (show q < n by omega)).mu (show (q + 15) < n by omega)).r (show q < n by omega)).mu (show (q + 24) < n by omega)).r (show q < n by omega)).mu (show (q + 33) < n by omega)).r (show q < n by omega)).r (show q < n by omega)).r (show q < n by omega)).r (show q < n by omega))
theorem n_X3_0 {M : Mem} {q b j : Nat} {x : Option Nat} (h : gR M b j = x) (hb : b < q) : gR (k_X3_0 M q) b j = x := by
  unfold k_X3_0
  exact (gR_sRn (gR_sRn (gR_sRn (gR_sRn (gR_mun (gR_sRn (gR_mun (gR_sRn (gR_mun (gR_sRn (n_X2 h (by omega)) (fun z => absurd z.1 (by omega))) (by omega)) (fun z => absurd z.1 (by omega))) (by omega)) (fun z => absurd z.1 (by omega))) (by omega)) (fun z => absurd z.1 (by omega))) (fun z => absurd z.1 (by omega))) (fun z => absurd z.1 (by omega))) (fun z => absurd z.1 (by omega)))
theorem nc_3_9 : NC RX3 9 2 2 := ⟨_, tyX2, rfl, ly2, tyX2_ok, wk_280, wk_281, wk_8, by decide, rfl, fun j hj => match j, hj with | 0, _ => ⟨_, rfl, rfl⟩ | 1, _ => ⟨_, rfl, rfl⟩ | j + 2, h => absurd h (by omega)⟩
theorem nw_3_11 : Cond.methodLinkNest RX3 11 yX2_init "TurningMarket" ∈ NESTW := List.mem_filter.mpr ⟨List.mem_of_getElem? (i := 380) (by decide +kernel), rfl⟩
theorem fpf_3_0 : FPF 3 0 (.object "TurningMarket$Course") := ⟨_, tyX3, rfl, tyX3_ok, nmX3, rfl, by decide +kernel⟩
theorem fpf_3_1 : FPF 3 1 (.array (.array .int)) := ⟨_, tyX3, rfl, tyX3_ok, nmX3, rfl, by decide +kernel⟩
theorem fpf_3_2 : FPF 3 2 (.array (.array .int)) := ⟨_, tyX3, rfl, tyX3_ok, nmX3, rfl, by decide +kernel⟩
theorem fpf_3_3 : FPF 3 3 (.array (.array .int)) := ⟨_, tyX3, rfl, tyX3_ok, nmX3, rfl, by decide +kernel⟩
theorem fpf_3_5 : FPF 3 5 (.array .int) := ⟨_, tyX3, rfl, tyX3_ok, nmX3, rfl, by decide +kernel⟩
theorem fpf_3_6 : FPF 3 6 (.array .int) := ⟨_, tyX3, rfl, tyX3_ok, nmX3, rfl, by decide +kernel⟩
theorem fpf_3_7 : FPF 3 7 (.array .int) := ⟨_, tyX3, rfl, tyX3_ok, nmX3, rfl, by decide +kernel⟩
set_option maxHeartbeats 4000000 in
theorem s_X3_0 {X : Cx} {S : Shp} {q : Nat} {M : Mem} (hX : OkX X cX3_init RX3 2 32) (hG : OkG X (q + 1) 0) (hin : X.meth.name = "<init>") (hc : X.R.cells = 57) (hs : X.R.slots = 2729) (hS : Blk S q bk_X3) (hZ : Z0 M (q + 1))  (k : Z0 (k_X3_0 M q) (q + 43) → GoN X (cut S (q + 43)) (q + 43) 42 2495 (k_X3_0 M q) 78 [some (.ref (X.B + q))] []) : GoN X (cut S (q + 1)) (q + 1) 0 0 M 0 [some (.ref (X.B + q))] [] := by
  refine r_aload_n (i := 0) hX e_X3_init_0 rfl rfl ?_
  refine g_obj hX e_X3_init_1 wk_279 (by decide) (by decide) ?_
  refine r_aload_n (i := 0) hX e_X3_init_4 rfl rfl ?_
  have z1 := hZ
  refine h_new (n' := q + 2) (kc' := 1) (ks' := 2) hX (hG.up 0) e_X3_init_5 nc_3_9 z1 (hS 1 _ rfl) rfl rfl rfl (by rw [hc]; exact Nat.le_of_ble_eq_true rfl) (by rw [hs]; exact Nat.le_of_ble_eq_true rfl) ?_
  refine r_dup hX e_X3_init_8 rfl ?_
  have z2 := (z1.m (show q + 1 ≤ q + 2 by omega))
  refine h_init (q := (q + 1)) (mc := 13) (ms := 671) (n' := q + 15) (kc' := 14) (ks' := 673) hX (hG.up 1) rfl e_X3_init_9 rfl (i_X2 (hS.sub (k := 1) (l' := bk_X2) (by decide +kernel)) z2) cw_X2_init rfl wk_283 nw_3_11 ⟨by decide, by decide⟩ (Nat.le_of_ble_eq_true rfl) rfl rfl (by rw [hc]; exact Nat.le_of_ble_eq_true rfl) (by rw [hs]; exact Nat.le_of_ble_eq_true rfl) ?_
  refine g_putRF (r := (q + 1)) hX (hG.up 14).fit hin e_X3_init_12 fl_3_12 fpf_3_0 (fun r h => by cases h; rfl) rfl (cut_o (hS 0 _ rfl) (by omega)) rfl rfl ?_
  refine r_aload_n (i := 0) hX e_X3_init_15 rfl rfl ?_
  refine r_bipush (v := 8) hX e_X3_init_16 (by decide +kernel) ?_
  refine r_bipush (v := 60) hX e_X3_init_18 (by decide +kernel) ?_
  have z3 := ((z_X2 (z2.m (show q + 2 ≤ q + 15 by omega)) (show (q + 1) + 14 ≤ q + 15 by omega)).r (k := 0) (v := some (q + 1)) (show q < q + 15 by omega))
  refine h_multi (N := 8) (L := 60) (n' := q + 24) (kc' := 23) (ks' := 1161) hX (hG.up 14) e_X3_init_20 wk_300 wk_206 z3 (hS 15 _ rfl) (fun j hj => hS.tab 15 8 (100, 60) (by decide +kernel) j hj) (by decide) (by decide +kernel) (by decide) (by decide +kernel) (Nat.le_of_ble_eq_true rfl) (Nat.le_of_ble_eq_true rfl) rfl rfl rfl (by rw [hc]; exact Nat.le_of_ble_eq_true rfl) (by rw [hs]; exact Nat.le_of_ble_eq_true rfl) ?_
  refine g_putRF (r := (q + 15)) hX (hG.up 23).fit hin e_X3_init_24 fl_3_20 fpf_3_1 (fun r h => by cases h; rfl) rfl (cut_o (hS 0 _ rfl) (by omega)) rfl rfl ?_
  refine r_aload_n (i := 0) hX e_X3_init_27 rfl rfl ?_
  refine r_bipush (v := 8) hX e_X3_init_28 (by decide +kernel) ?_
  refine r_bipush (v := 60) hX e_X3_init_30 (by decide +kernel) ?_
  have z4 := (((z3.m (show q + 15 ≤ q + 24 by omega)).mu (N := 8) (show (q + 15) < q + 24 by omega)).r (k := 1) (v := some (q + 15)) (show q < q + 24 by omega))
  refine h_multi (N := 8) (L := 60) (n' := q + 33) (kc' := 32) (ks' := 1649) hX (hG.up 23) e_X3_init_32 wk_300 wk_206 z4 (hS 24 _ rfl) (fun j hj => hS.tab 24 8 (100, 60) (by decide +kernel) j hj) (by decide) (by decide +kernel) (by decide) (by decide +kernel) (Nat.le_of_ble_eq_true rfl) (Nat.le_of_ble_eq_true rfl) rfl rfl rfl (by rw [hc]; exact Nat.le_of_ble_eq_true rfl) (by rw [hs]; exact Nat.le_of_ble_eq_true rfl) ?_
  refine g_putRF (r := (q + 24)) hX (hG.up 32).fit hin e_X3_init_36 fl_3_23 fpf_3_2 (fun r h => by cases h; rfl) rfl (cut_o (hS 0 _ rfl) (by omega)) rfl rfl ?_
  refine r_aload_n (i := 0) hX e_X3_init_39 rfl rfl ?_
  refine r_bipush (v := 6) hX e_X3_init_40 (by decide +kernel) ?_
  refine r_bipush (v := 60) hX e_X3_init_42 (by decide +kernel) ?_
  have z5 := (((z4.m (show q + 24 ≤ q + 33 by omega)).mu (N := 8) (show (q + 24) < q + 33 by omega)).r (k := 2) (v := some (q + 24)) (show q < q + 33 by omega))
  refine h_multi (N := 6) (L := 60) (n' := q + 40) (kc' := 39) (ks' := 2015) hX (hG.up 32) e_X3_init_44 wk_300 wk_206 z5 (hS 33 _ rfl) (fun j hj => hS.tab 33 6 (100, 60) (by decide +kernel) j hj) (by decide) (by decide +kernel) (by decide) (by decide +kernel) (Nat.le_of_ble_eq_true rfl) (Nat.le_of_ble_eq_true rfl) rfl rfl rfl (by rw [hc]; exact Nat.le_of_ble_eq_true rfl) (by rw [hs]; exact Nat.le_of_ble_eq_true rfl) ?_
  refine g_putRF (r := (q + 33)) hX (hG.up 39).fit hin e_X3_init_48 fl_3_26 fpf_3_3 (fun r h => by cases h; rfl) rfl (cut_o (hS 0 _ rfl) (by omega)) rfl rfl ?_
  refine r_aload_n (i := 0) hX e_X3_init_51 rfl rfl ?_
  refine r_sipush (v := 160) hX e_X3_init_52 (by decide +kernel) ?_
  have z6 := (((z5.m (show q + 33 ≤ q + 40 by omega)).mu (N := 6) (show (q + 33) < q + 40 by omega)).r (k := 3) (v := some (q + 33)) (show q < q + 40 by omega))
  refine h_newI (t := 0) (n' := q + 41) (kc' := 40) (ks' := 2175) hX (hG.up 39) e_X3_init_55 rfl rfl rfl rfl (fun _ _ h => h) wk_206 z6 (hS 40 _ rfl) (by decide) (by decide +kernel) (Nat.le_of_ble_eq_true rfl) rfl rfl rfl (by rw [hc]; exact Nat.le_of_ble_eq_true rfl) (by rw [hs]; exact Nat.le_of_ble_eq_true rfl) ?_
  refine g_putRF (r := (q + 40)) hX (hG.up 40).fit hin e_X3_init_57 fl_3_29 fpf_3_5 (fun r h => by cases h; rfl) rfl (cut_o (hS 0 _ rfl) (by omega)) rfl rfl ?_
  refine r_aload_n (i := 0) hX e_X3_init_60 rfl rfl ?_
  refine r_sipush (v := 160) hX e_X3_init_61 (by decide +kernel) ?_
  have z7 := ((z6.r (k := 5) (v := some (q + 40)) (show q < q + 40 by omega)).m (show q + 40 ≤ q + 41 by omega))
  refine h_newI (t := 0) (n' := q + 42) (kc' := 41) (ks' := 2335) hX (hG.up 40) e_X3_init_64 rfl rfl rfl rfl (fun _ _ h => h) wk_206 z7 (hS 41 _ rfl) (by decide) (by decide +kernel) (Nat.le_of_ble_eq_true rfl) rfl rfl rfl (by rw [hc]; exact Nat.le_of_ble_eq_true rfl) (by rw [hs]; exact Nat.le_of_ble_eq_true rfl) ?_
  refine g_putRF (r := (q + 41)) hX (hG.up 41).fit hin e_X3_init_66 fl_3_33 fpf_3_6 (fun r h => by cases h; rfl) rfl (cut_o (hS 0 _ rfl) (by omega)) rfl rfl ?_
  refine r_aload_n (i := 0) hX e_X3_init_69 rfl rfl ?_
  refine r_sipush (v := 160) hX e_X3_init_70 (by decide +kernel) ?_
  have z8 := ((z7.r (k := 6) (v := some (q + 41)) (show q < q + 41 by omega)).m (show q + 41 ≤ q + 42 by omega))
  refine h_newI (t := 0) (n' := q + 43) (kc' := 42) (ks' := 2495) hX (hG.up 41) e_X3_init_73 rfl rfl rfl rfl (fun _ _ h => h) wk_206 z8 (hS 42 _ rfl) (by decide) (by decide +kernel) (Nat.le_of_ble_eq_true rfl) rfl rfl rfl (by rw [hc]; exact Nat.le_of_ble_eq_true rfl) (by rw [hs]; exact Nat.le_of_ble_eq_true rfl) ?_
  refine g_putRF (r := (q + 42)) hX (hG.up 42).fit hin e_X3_init_75 fl_3_36 fpf_3_7 (fun r h => by cases h; rfl) rfl (cut_o (hS 0 _ rfl) (by omega)) rfl rfl ?_
  exact k  ((z8.r (k := 7) (v := some (q + 42)) (show q < q + 42 by omega)).m (show q + 42 ≤ q + 43 by omega))
def k_X3_1 (M : Mem) (q : Nat) : Mem := (sR (mulR (sR (sR (sR (sR (sR (sR (sR M q 8 (some (q + 43))) q 9 (some (q + 44))) q 11 (some (q + 45))) q 12 (some (q + 46))) q 13 (some (q + 47))) q 14 (some (q + 48))) q 15 (some (q + 49))) (q + 50) 6) q 16 (some (q + 50)))
theorem z_X3_1 {M : Mem} {q n : Nat} (h : Z0 M n) (hn : q + 57 ≤ n) : Z0 (k_X3_1 M q) n := by
  unfold k_X3_1
  exact (((((((((h.r (show q < n by omega)).r (show q < n by omega)).r (show q < n by omega)).r (show q < n by omega)).r (show q < n by omega)).r (show q < n by omega)).r (show q < n by omega)).mu (show (q + 50) < n by omega)).r (show q < n by omega))
theorem n_X3_1 {M : Mem} {q b j : Nat} {x : Option Nat} (h : gR M b j = x) (hb : b < q) : gR (k_X3_1 M q) b j = x := by
  unfold k_X3_1
  exact (gR_sRn (gR_mun (gR_sRn (gR_sRn (gR_sRn (gR_sRn (gR_sRn (gR_sRn (gR_sRn h (fun z => absurd z.1 (by omega))) (fun z => absurd z.1 (by omega))) (fun z => absurd z.1 (by omega))) (fun z => absurd z.1 (by omega))) (fun z => absurd z.1 (by omega))) (fun z => absurd z.1 (by omega))) (fun z => absurd z.1 (by omega))) (by omega)) (fun z => absurd z.1 (by omega)))
theorem fpf_3_8 : FPF 3 8 (.array .int) := ⟨_, tyX3, rfl, tyX3_ok, nmX3, rfl, by decide +kernel⟩
theorem fpf_3_9 : FPF 3 9 (.array .int) := ⟨_, tyX3, rfl, tyX3_ok, nmX3, rfl, by decide +kernel⟩
theorem fpf_3_11 : FPF 3 11 (.array .int) := ⟨_, tyX3, rfl, tyX3_ok, nmX3, rfl, by decide +kernel⟩
theorem fpf_3_12 : FPF 3 12 (.array .int) := ⟨_, tyX3, rfl, tyX3_ok, nmX3, rfl, by decide +kernel⟩
theorem fpf_3_13 : FPF 3 13 (.array .boolean) := ⟨_, tyX3, rfl, tyX3_ok, nmX3, rfl, by decide +kernel⟩
theorem fpf_3_14 : FPF 3 14 (.array .boolean) := ⟨_, tyX3, rfl, tyX3_ok, nmX3, rfl, by decide +kernel⟩
theorem fpf_3_15 : FPF 3 15 (.array .int) := ⟨_, tyX3, rfl, tyX3_ok, nmX3, rfl, by decide +kernel⟩
theorem fpf_3_16 : FPF 3 16 (.array (.array .int)) := ⟨_, tyX3, rfl, tyX3_ok, nmX3, rfl, by decide +kernel⟩
set_option maxHeartbeats 4000000 in
theorem s_X3_1 {X : Cx} {S : Shp} {q : Nat} {M : Mem} (hX : OkX X cX3_init RX3 2 32) (hG : OkG X (q + 1) 0) (hin : X.meth.name = "<init>") (hc : X.R.cells = 57) (hs : X.R.slots = 2729) (hS : Blk S q bk_X3) (hZ : Z0 M (q + 43))  (k : Z0 (k_X3_1 M q) (q + 57) → GoN X (cut S (q + 57)) (q + 57) 56 2723 (k_X3_1 M q) 146 [some (.ref (X.B + q))] []) : GoN X (cut S (q + 43)) (q + 43) 42 2495 M 78 [some (.ref (X.B + q))] [] := by
  refine r_aload_n (i := 0) hX e_X3_init_78 rfl rfl ?_
  refine r_sipush (v := 160) hX e_X3_init_79 (by decide +kernel) ?_
  have z1 := hZ
  refine h_newI (t := 0) (n' := q + 44) (kc' := 43) (ks' := 2655) hX (hG.up 42) e_X3_init_82 rfl rfl rfl rfl (fun _ _ h => h) wk_206 z1 (hS 43 _ rfl) (by decide) (by decide +kernel) (Nat.le_of_ble_eq_true rfl) rfl rfl rfl (by rw [hc]; exact Nat.le_of_ble_eq_true rfl) (by rw [hs]; exact Nat.le_of_ble_eq_true rfl) ?_
  refine g_putRF (r := (q + 43)) hX (hG.up 43).fit hin e_X3_init_84 fl_3_39 fpf_3_8 (fun r h => by cases h; rfl) rfl (cut_o (hS 0 _ rfl) (by omega)) rfl rfl ?_
  refine r_aload_n (i := 0) hX e_X3_init_87 rfl rfl ?_
  refine r_bipush (v := 6) hX e_X3_init_88 (by decide +kernel) ?_
  have z2 := ((z1.r (k := 8) (v := some (q + 43)) (show q < q + 43 by omega)).m (show q + 43 ≤ q + 44 by omega))
  refine h_newI (t := 0) (n' := q + 45) (kc' := 44) (ks' := 2661) hX (hG.up 43) e_X3_init_90 rfl rfl rfl rfl (fun _ _ h => h) wk_206 z2 (hS 44 _ rfl) (by decide) (by decide +kernel) (Nat.le_of_ble_eq_true rfl) rfl rfl rfl (by rw [hc]; exact Nat.le_of_ble_eq_true rfl) (by rw [hs]; exact Nat.le_of_ble_eq_true rfl) ?_
  refine g_putRF (r := (q + 44)) hX (hG.up 44).fit hin e_X3_init_92 fl_3_42 fpf_3_9 (fun r h => by cases h; rfl) rfl (cut_o (hS 0 _ rfl) (by omega)) rfl rfl ?_
  refine r_aload_n (i := 0) hX e_X3_init_95 rfl rfl ?_
  refine r_bipush (v := 8) hX e_X3_init_96 (by decide +kernel) ?_
  have z3 := ((z2.r (k := 9) (v := some (q + 44)) (show q < q + 44 by omega)).m (show q + 44 ≤ q + 45 by omega))
  refine h_newI (t := 0) (n' := q + 46) (kc' := 45) (ks' := 2669) hX (hG.up 44) e_X3_init_98 rfl rfl rfl rfl (fun _ _ h => h) wk_206 z3 (hS 45 _ rfl) (by decide) (by decide +kernel) (Nat.le_of_ble_eq_true rfl) rfl rfl rfl (by rw [hc]; exact Nat.le_of_ble_eq_true rfl) (by rw [hs]; exact Nat.le_of_ble_eq_true rfl) ?_
  refine g_putRF (r := (q + 45)) hX (hG.up 45).fit hin e_X3_init_100 fl_3_45 fpf_3_11 (fun r h => by cases h; rfl) rfl (cut_o (hS 0 _ rfl) (by omega)) rfl rfl ?_
  refine r_aload_n (i := 0) hX e_X3_init_103 rfl rfl ?_
  refine r_bipush (v := 8) hX e_X3_init_104 (by decide +kernel) ?_
  have z4 := ((z3.r (k := 11) (v := some (q + 45)) (show q < q + 45 by omega)).m (show q + 45 ≤ q + 46 by omega))
  refine h_newI (t := 0) (n' := q + 47) (kc' := 46) (ks' := 2677) hX (hG.up 45) e_X3_init_106 rfl rfl rfl rfl (fun _ _ h => h) wk_206 z4 (hS 46 _ rfl) (by decide) (by decide +kernel) (Nat.le_of_ble_eq_true rfl) rfl rfl rfl (by rw [hc]; exact Nat.le_of_ble_eq_true rfl) (by rw [hs]; exact Nat.le_of_ble_eq_true rfl) ?_
  refine g_putRF (r := (q + 46)) hX (hG.up 46).fit hin e_X3_init_108 fl_3_48 fpf_3_12 (fun r h => by cases h; rfl) rfl (cut_o (hS 0 _ rfl) (by omega)) rfl rfl ?_
  refine r_aload_n (i := 0) hX e_X3_init_111 rfl rfl ?_
  refine r_bipush (v := 8) hX e_X3_init_112 (by decide +kernel) ?_
  have z5 := ((z4.r (k := 12) (v := some (q + 46)) (show q < q + 46 by omega)).m (show q + 46 ≤ q + 47 by omega))
  refine h_newI (t := 2) (n' := q + 48) (kc' := 47) (ks' := 2685) hX (hG.up 46) e_X3_init_114 rfl rfl rfl rfl (fun _ _ h => h) wk_299 z5 (hS 47 _ rfl) (by decide) (by decide +kernel) (Nat.le_of_ble_eq_true rfl) rfl rfl rfl (by rw [hc]; exact Nat.le_of_ble_eq_true rfl) (by rw [hs]; exact Nat.le_of_ble_eq_true rfl) ?_
  refine g_putRF (r := (q + 47)) hX (hG.up 47).fit hin e_X3_init_116 fl_3_51 fpf_3_13 (fun r h => by cases h; rfl) rfl (cut_o (hS 0 _ rfl) (by omega)) rfl rfl ?_
  refine r_aload_n (i := 0) hX e_X3_init_119 rfl rfl ?_
  refine r_bipush (v := 8) hX e_X3_init_120 (by decide +kernel) ?_
  have z6 := ((z5.r (k := 13) (v := some (q + 47)) (show q < q + 47 by omega)).m (show q + 47 ≤ q + 48 by omega))
  refine h_newI (t := 2) (n' := q + 49) (kc' := 48) (ks' := 2693) hX (hG.up 47) e_X3_init_122 rfl rfl rfl rfl (fun _ _ h => h) wk_299 z6 (hS 48 _ rfl) (by decide) (by decide +kernel) (Nat.le_of_ble_eq_true rfl) rfl rfl rfl (by rw [hc]; exact Nat.le_of_ble_eq_true rfl) (by rw [hs]; exact Nat.le_of_ble_eq_true rfl) ?_
  refine g_putRF (r := (q + 48)) hX (hG.up 48).fit hin e_X3_init_124 fl_3_55 fpf_3_14 (fun r h => by cases h; rfl) rfl (cut_o (hS 0 _ rfl) (by omega)) rfl rfl ?_
  refine r_aload_n (i := 0) hX e_X3_init_127 rfl rfl ?_
  refine r_bipush (v := 6) hX e_X3_init_128 (by decide +kernel) ?_
  have z7 := ((z6.r (k := 14) (v := some (q + 48)) (show q < q + 48 by omega)).m (show q + 48 ≤ q + 49 by omega))
  refine h_newI (t := 0) (n' := q + 50) (kc' := 49) (ks' := 2699) hX (hG.up 48) e_X3_init_130 rfl rfl rfl rfl (fun _ _ h => h) wk_206 z7 (hS 49 _ rfl) (by decide) (by decide +kernel) (Nat.le_of_ble_eq_true rfl) rfl rfl rfl (by rw [hc]; exact Nat.le_of_ble_eq_true rfl) (by rw [hs]; exact Nat.le_of_ble_eq_true rfl) ?_
  refine g_putRF (r := (q + 49)) hX (hG.up 49).fit hin e_X3_init_132 fl_3_58 fpf_3_15 (fun r h => by cases h; rfl) rfl (cut_o (hS 0 _ rfl) (by omega)) rfl rfl ?_
  refine r_aload_n (i := 0) hX e_X3_init_135 rfl rfl ?_
  refine r_bipush (v := 6) hX e_X3_init_136 (by decide +kernel) ?_
  refine r_iconst (v := 3) hX e_X3_init_138 (by decide +kernel) ?_
  have z8 := ((z7.r (k := 15) (v := some (q + 49)) (show q < q + 49 by omega)).m (show q + 49 ≤ q + 50 by omega))
  refine h_multi (N := 6) (L := 3) (n' := q + 57) (kc' := 56) (ks' := 2723) hX (hG.up 49) e_X3_init_139 wk_300 wk_206 z8 (hS 50 _ rfl) (fun j hj => hS.tab 50 6 (100, 3) (by decide +kernel) j hj) (by decide) (by decide +kernel) (by decide) (by decide +kernel) (Nat.le_of_ble_eq_true rfl) (Nat.le_of_ble_eq_true rfl) rfl rfl rfl (by rw [hc]; exact Nat.le_of_ble_eq_true rfl) (by rw [hs]; exact Nat.le_of_ble_eq_true rfl) ?_
  refine g_putRF (r := (q + 50)) hX (hG.up 56).fit hin e_X3_init_143 fl_3_61 fpf_3_16 (fun r h => by cases h; rfl) rfl (cut_o (hS 0 _ rfl) (by omega)) rfl rfl ?_
  exact k  (((z8.m (show q + 50 ≤ q + 57 by omega)).mu (N := 6) (show (q + 50) < q + 57 by omega)).r (k := 16) (v := some (q + 50)) (show q < q + 57 by omega))
def k_X3_2 (M : Mem) (q : Nat) : Mem := (sR M q 17 (some (q + 57)))
theorem z_X3_2 {M : Mem} {q n : Nat} (h : Z0 M n) (hn : q + 58 ≤ n) : Z0 (k_X3_2 M q) n := by
  unfold k_X3_2
  exact (h.r (show q < n by omega))
theorem n_X3_2 {M : Mem} {q b j : Nat} {x : Option Nat} (h : gR M b j = x) (hb : b < q) : gR (k_X3_2 M q) b j = x := by
  unfold k_X3_2
  exact (gR_sRn h (fun z => absurd z.1 (by omega)))
theorem fpf_3_17 : FPF 3 17 (.array .int) := ⟨_, tyX3, rfl, tyX3_ok, nmX3, rfl, by decide +kernel⟩
set_option maxHeartbeats 4000000 in
theorem s_X3_2 {X : Cx} {S : Shp} {q : Nat} {M : Mem} (hX : OkX X cX3_init RX3 2 32) (hG : OkG X (q + 1) 0) (hin : X.meth.name = "<init>") (hc : X.R.cells = 57) (hs : X.R.slots = 2729) (hS : Blk S q bk_X3) (hZ : Z0 M (q + 57))  (k : Z0 (k_X3_2 M q) (q + 58) → GoN X (cut S (q + 58)) (q + 58) 57 2729 (k_X3_2 M q) 154 [some (.ref (X.B + q))] []) : GoN X (cut S (q + 57)) (q + 57) 56 2723 M 146 [some (.ref (X.B + q))] [] := by
  refine r_aload_n (i := 0) hX e_X3_init_146 rfl rfl ?_
  refine r_bipush (v := 6) hX e_X3_init_147 (by decide +kernel) ?_
  have z1 := hZ
  refine h_newI (t := 0) (n' := q + 58) (kc' := 57) (ks' := 2729) hX (hG.up 56) e_X3_init_149 rfl rfl rfl rfl (fun _ _ h => h) wk_206 z1 (hS 57 _ rfl) (by decide) (by decide +kernel) (Nat.le_of_ble_eq_true rfl) rfl rfl rfl (by rw [hc]; exact Nat.le_of_ble_eq_true rfl) (by rw [hs]; exact Nat.le_of_ble_eq_true rfl) ?_
  refine g_putRF (r := (q + 57)) hX (hG.up 57).fit hin e_X3_init_151 fl_3_64 fpf_3_17 (fun r h => by cases h; rfl) rfl (cut_o (hS 0 _ rfl) (by omega)) rfl rfl ?_
  exact k  ((z1.r (k := 17) (v := some (q + 57)) (show q < q + 57 by omega)).m (show q + 57 ≤ q + 58 by omega))
def k_X3 (M : Mem) (q : Nat) : Mem := (k_X3_2 (k_X3_1 (k_X3_0 M q) q) q)
theorem z_X3 {M : Mem} {q n : Nat} (h : Z0 M n) (hn : q + 58 ≤ n) : Z0 (k_X3 M q) n := by
  unfold k_X3
  exact (z_X3_2 (z_X3_1 (z_X3_0 h (by omega)) (by omega)) (by omega))
theorem n_X3 {M : Mem} {q b j : Nat} {x : Option Nat} (h : gR M b j = x) (hb : b < q) : gR (k_X3 M q) b j = x := by
  unfold k_X3
  exact (n_X3_2 (n_X3_1 (n_X3_0 h hb) hb) hb)
set_option maxHeartbeats 4000000 in
theorem i_X3 {l : Launch} {S : Shp} {q : Nat} {M : Mem} (hS : Blk S q bk_X3) (hZ : Z0 M (q + 1)) : CG l yX3_init cX3_init 1 2 32 57 2729 S q (q + 58) M (k_X3 M q) := by
  refine met_g (own := RX3) (by decide +kernel) rfl rfl (by decide) (fun X hX hG hl hin hc hs hR => ?_)
  subst hl
  refine s_X3_0 hX hG hin hc hs hS hZ  (fun  zz0 => ?_)
  refine s_X3_1 hX hG hin hc hs hS zz0  (fun  zz1 => ?_)
  refine s_X3_2 hX hG hin hc hs hS zz1  (fun  zz2 => ?_)
  exact g_ret hX hG.1 hR e_X3_init_154
