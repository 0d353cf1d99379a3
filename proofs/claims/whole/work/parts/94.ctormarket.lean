def bk_X4 : List (Nat × Nat) := [(4, 9), (104, 3), (105, 8), (106, 6), (7, 3), (7, 3), (7, 3), (9, 7), (9, 7), (9, 7), (9, 7), (9, 7), (9, 7), (9, 7), (9, 7), (1, 7), (100, 3), (100, 3), (100, 3), (1, 7), (100, 3), (100, 3), (100, 3), (1, 7), (100, 3), (100, 3), (100, 3), (1, 7), (100, 3), (100, 3), (100, 3), (1, 7), (100, 3), (100, 3), (100, 3), (1, 7), (100, 3), (100, 3), (100, 3)]
def k_X4_0 (M : Mem) (q : Nat) : Mem := (sR (sR (sR (sR M q 6 (some (q + 1))) q 7 (some (q + 2))) q 8 (some (q + 3))) (q + 1) 0 (some (q + 4)))
theorem z_X4_0 {M : Mem} {q n : Nat} (h : Z0 M n) (hn : q + 5 ≤ n) : Z0 (k_X4_0 M q) n := by
  unfold k_X4_0
  exact ((((h.r (show q < n by omega)).r (show q < n by omega)).r (show q < n by omega)).r (show (q + 1) < n by omega))
theorem n_X4_0 {M : Mem} {q b j : Nat} {x : Option Nat} (h : gR M b j = x) (hb : b < q) : gR (k_X4_0 M q) b j = x := by
  unfold k_X4_0
  exact (gR_sRn (gR_sRn (gR_sRn (gR_sRn h (fun z => absurd z.1 (by omega))) (fun z => absurd z.1 (by omega))) (fun z => absurd z.1 (by omega))) (fun z => absurd z.1 (by omega)))
theorem ov_Ring : Cond.arrayOver (.object "TurningMarket$Ring") ∈ lw_tbl := List.mem_of_getElem? (i := 172) (by decide +kernel)
theorem fpf_4_6 : FPF 4 6 (.array (.object "TurningMarket$Ring")) := ⟨_, tyX4, rfl, tyX4_ok, nmX4, rfl, by decide +kernel⟩
theorem ov_Stall : Cond.arrayOver (.object "TurningMarket$Stall") ∈ lw_tbl := List.mem_of_getElem? (i := 174) (by decide +kernel)
theorem fpf_4_7 : FPF 4 7 (.array (.object "TurningMarket$Stall")) := ⟨_, tyX4, rfl, tyX4_ok, nmX4, rfl, by decide +kernel⟩
theorem ov_Buyer : Cond.arrayOver (.object "TurningMarket$Buyer") ∈ lw_tbl := List.mem_of_getElem? (i := 176) (by decide +kernel)
theorem fpf_4_8 : FPF 4 8 (.array (.object "TurningMarket$Buyer")) := ⟨_, tyX4, rfl, tyX4_ok, nmX4, rfl, by decide +kernel⟩
theorem nc_4_9 : NC RX4 9 7 3 := ⟨_, tyX7, rfl, ly7, tyX7_ok, wk_73, wk_79, wk_4, by decide, rfl, fun j hj => match j, hj with | 0, _ => ⟨_, rfl, rfl⟩ | 1, _ => ⟨_, rfl, rfl⟩ | 2, _ => ⟨_, rfl, rfl⟩ | j + 3, h => absurd h (by omega)⟩
theorem nw_4_29 : Cond.methodLinkNest RX4 29 yX7_init "TurningMarket" ∈ NESTW := List.mem_filter.mpr ⟨List.mem_of_getElem? (i := 178) (by decide +kernel), rfl⟩
set_option maxHeartbeats 4000000 in
theorem s_X4_0 {X : Cx} {S : Shp} {q : Nat} {M : Mem} (hX : OkX X cX4_init RX4 2 32) (hG : OkG X (q + 1) 0) (hin : X.meth.name = "<init>") (hc : X.R.cells = 38) (hs : X.R.slots = 178) (hS : Blk S q bk_X4) (hZ : Z0 M (q + 1))  (k : gR (k_X4_0 M q) q 6 = some (q + 1) → gR (k_X4_0 M q) q 7 = some (q + 2) → gR (k_X4_0 M q) q 8 = some (q + 3) → Z0 (k_X4_0 M q) (q + 5) → GoN X (cut S (q + 5)) (q + 5) 4 20 (k_X4_0 M q) 50 [some (.ref (X.B + q)), some (.int (0))] []) : GoN X (cut S (q + 1)) (q + 1) 0 0 M 0 [some (.ref (X.B + q)), none] [] := by
  refine r_aload_n (i := 0) hX e_X4_init_0 rfl rfl ?_
  refine g_obj hX e_X4_init_1 wk_72 (by decide) (by decide) ?_
  refine r_aload_n (i := 0) hX e_X4_init_4 rfl rfl ?_
  refine r_iconst (v := 3) hX e_X4_init_5 (by decide +kernel) ?_
  have z1 := hZ
  refine h_newQ (t := 4) (n' := q + 2) (kc' := 1) (ks' := 3) hX (hG.up 0) e_X4_init_6 rfl rfl wk_73 ov_Ring z1 (hS 1 _ rfl) (by decide) (by decide +kernel) (Nat.le_of_ble_eq_true rfl) rfl rfl rfl (by rw [hc]; exact Nat.le_of_ble_eq_true rfl) (by rw [hs]; exact Nat.le_of_ble_eq_true rfl) ?_
  refine g_putRF (r := (q + 1)) hX (hG.up 1).fit hin e_X4_init_9 fl_4_11 fpf_4_6 (fun r h => by cases h; rfl) rfl (cut_o (hS 0 _ rfl) (by omega)) rfl rfl ?_
  have f1 := gR_sRs M q 6 (some (q + 1))
  refine r_aload_n (i := 0) hX e_X4_init_12 rfl rfl ?_
  refine r_bipush (v := 8) hX e_X4_init_13 (by decide +kernel) ?_
  have z2 := ((z1.r (k := 6) (v := some (q + 1)) (show q < q + 1 by omega)).m (show q + 1 ≤ q + 2 by omega))
  refine h_newQ (t := 5) (n' := q + 3) (kc' := 2) (ks' := 11) hX (hG.up 1) e_X4_init_15 rfl rfl wk_75 ov_Stall z2 (hS 2 _ rfl) (by decide) (by decide +kernel) (Nat.le_of_ble_eq_true rfl) rfl rfl rfl (by rw [hc]; exact Nat.le_of_ble_eq_true rfl) (by rw [hs]; exact Nat.le_of_ble_eq_true rfl) ?_
  refine g_putRF (r := (q + 2)) hX (hG.up 2).fit hin e_X4_init_18 fl_4_19 fpf_4_7 (fun r h => by cases h; rfl) rfl (cut_o (hS 0 _ rfl) (by omega)) rfl rfl ?_
  have f2 := gR_sRn (k := 7) (v := some (q + 2)) f1 (show ¬ (q = q ∧ 6 = 7) by omega)
  have f3 := gR_sRs (sR M q 6 (some (q + 1))) q 7 (some (q + 2))
  refine r_aload_n (i := 0) hX e_X4_init_21 rfl rfl ?_
  refine r_bipush (v := 6) hX e_X4_init_22 (by decide +kernel) ?_
  have z3 := ((z2.r (k := 7) (v := some (q + 2)) (show q < q + 2 by omega)).m (show q + 2 ≤ q + 3 by omega))
  refine h_newQ (t := 6) (n' := q + 4) (kc' := 3) (ks' := 17) hX (hG.up 2) e_X4_init_24 rfl rfl wk_77 ov_Buyer z3 (hS 3 _ rfl) (by decide) (by decide +kernel) (Nat.le_of_ble_eq_true rfl) rfl rfl rfl (by rw [hc]; exact Nat.le_of_ble_eq_true rfl) (by rw [hs]; exact Nat.le_of_ble_eq_true rfl) ?_
  refine g_putRF (r := (q + 3)) hX (hG.up 3).fit hin e_X4_init_27 fl_4_25 fpf_4_8 (fun r h => by cases h; rfl) rfl (cut_o (hS 0 _ rfl) (by omega)) rfl rfl ?_
  have f4 := gR_sRn (k := 8) (v := some (q + 3)) f2 (show ¬ (q = q ∧ 6 = 8) by omega)
  have f5 := gR_sRn (k := 8) (v := some (q + 3)) f3 (show ¬ (q = q ∧ 7 = 8) by omega)
  have f6 := gR_sRs (sR (sR M q 6 (some (q + 1))) q 7 (some (q + 2))) q 8 (some (q + 3))
  refine r_iconst (v := 0) hX e_X4_init_30 (by decide +kernel) ?_
  refine r_istore_n (i := 1) hX e_X4_init_31 rfl (Nat.le_of_ble_eq_true rfl) rfl ?_
  refine r_iload_n (i := 1) hX e_X4_init_32 rfl rfl ?_
  refine r_iconst (v := 3) hX e_X4_init_33 (by decide +kernel) ?_
  refine r_icmp_ge hX e_X4_init_34 (fun h => absurd h (by decide)) (fun _ => ?_)
  refine r_aload_n (i := 0) hX e_X4_init_37 rfl rfl ?_
  refine r_getR (r := (q + 1)) hX (hG.up 3).fit e_X4_init_38 fl_4_11 rfl (cut_o (hS 0 _ rfl) (by omega)) f4 ?_
  refine r_iload_n (i := 1) hX e_X4_init_41 rfl rfl ?_
  have z4 := ((z3.r (k := 8) (v := some (q + 3)) (show q < q + 3 by omega)).m (show q + 3 ≤ q + 4 by omega))
  refine h_new (n' := q + 5) (kc' := 4) (ks' := 20) hX (hG.up 3) e_X4_init_42 nc_4_9 z4 (hS 4 _ rfl) rfl rfl rfl (by rw [hc]; exact Nat.le_of_ble_eq_true rfl) (by rw [hs]; exact Nat.le_of_ble_eq_true rfl) ?_
  refine r_dup hX e_X4_init_45 rfl ?_
  have z5 := (z4.m (show q + 4 ≤ q + 5 by omega))
  refine h_init (q := (q + 4)) (mc := 0) (ms := 0) (n' := q + 5) (kc' := 4) (ks' := 20) hX (hG.up 4) rfl e_X4_init_46 rfl (i_X7 (hS.sub (k := 4) (l' := bk_X7) (by decide +kernel)) z5) cw_X7_init rfl wk_81 nw_4_29 ⟨by decide, by decide⟩ (Nat.le_of_ble_eq_true rfl) rfl rfl (by rw [hc]; exact Nat.le_of_ble_eq_true rfl) (by rw [hs]; exact Nat.le_of_ble_eq_true rfl) ?_
  refine h_aast (j := 0) (t := 4) (qk := (q + 4)) hX (hG.up 4).fit e_X4_init_49 (cut_a (hS 1 _ rfl) (by omega) (by decide +kernel)) (by decide) rfl rfl (show cls[7]? = some (RX7, TX7, 3) from rfl) (by decide) (cut_o (hS 4 _ rfl) (by omega)) (by decide +kernel) ?_
  have f7 := gR_sRn (k := 0) (v := some (q + 4)) f4 (show ¬ (q = (q + 1) ∧ 6 = 0) by omega)
  have f8 := gR_sRn (k := 0) (v := some (q + 4)) f5 (show ¬ (q = (q + 1) ∧ 7 = 0) by omega)
  have f9 := gR_sRn (k := 0) (v := some (q + 4)) f6 (show ¬ (q = (q + 1) ∧ 8 = 0) by omega)
  exact k f7 f8 f9 (z5.r (k := 0) (v := some (q + 4)) (show (q + 1) < q + 5 by omega))
def k_X4_1 (M : Mem) (q : Nat) : Mem := (sR (sR M (q + 1) 1 (some (q + 5))) (q + 1) 2 (some (q + 6)))
theorem z_X4_1 {M : Mem} {q n : Nat} (h : Z0 M n) (hn : q + 7 ≤ n) : Z0 (k_X4_1 M q) n := by
  unfold k_X4_1
  exact ((h.r (show (q + 1) < n by omega)).r (show (q + 1) < n by omega))
theorem n_X4_1 {M : Mem} {q b j : Nat} {x : Option Nat} (h : gR M b j = x) (hb : b < q) : gR (k_X4_1 M q) b j = x := by
  unfold k_X4_1
  exact (gR_sRn (gR_sRn h (fun z => absurd z.1 (by omega))) (fun z => absurd z.1 (by omega)))
set_option maxHeartbeats 4000000 in
theorem s_X4_1 {X : Cx} {S : Shp} {q : Nat} {M : Mem} (hX : OkX X cX4_init RX4 2 32) (hG : OkG X (q + 1) 0) (hin : X.meth.name = "<init>") (hc : X.R.cells = 38) (hs : X.R.slots = 178) (hS : Blk S q bk_X4) (hZ : Z0 M (q + 5)) (h0 : gR M q 6 = some (q + 1)) (h1 : gR M q 7 = some (q + 2)) (h2 : gR M q 8 = some (q + 3)) (k : gR (k_X4_1 M q) q 7 = some (q + 2) → gR (k_X4_1 M q) q 8 = some (q + 3) → Z0 (k_X4_1 M q) (q + 7) → GoN X (cut S (q + 7)) (q + 7) 6 26 (k_X4_1 M q) 58 [some (.ref (X.B + q)), some (.int (0))] []) : GoN X (cut S (q + 5)) (q + 5) 4 20 M 50 [some (.ref (X.B + q)), some (.int (0))] [] := by
  refine r_iinc (v := 1) hX e_X4_init_50 rfl (by decide +kernel) (Nat.le_of_ble_eq_true rfl) rfl ?_
  refine r_goto hX e_X4_init_53 ?_
  refine r_iload_n (i := 1) hX e_X4_init_32 rfl rfl ?_
  refine r_iconst (v := 3) hX e_X4_init_33 (by decide +kernel) ?_
  refine r_icmp_ge hX e_X4_init_34 (fun h => absurd h (by decide)) (fun _ => ?_)
  refine r_aload_n (i := 0) hX e_X4_init_37 rfl rfl ?_
  refine r_getR (r := (q + 1)) hX (hG.up 4).fit e_X4_init_38 fl_4_11 rfl (cut_o (hS 0 _ rfl) (by omega)) h0 ?_
  refine r_iload_n (i := 1) hX e_X4_init_41 rfl rfl ?_
  have z1 := hZ
  refine h_new (n' := q + 6) (kc' := 5) (ks' := 23) hX (hG.up 4) e_X4_init_42 nc_4_9 z1 (hS 5 _ rfl) rfl rfl rfl (by rw [hc]; exact Nat.le_of_ble_eq_true rfl) (by rw [hs]; exact Nat.le_of_ble_eq_true rfl) ?_
  refine r_dup hX e_X4_init_45 rfl ?_
  have z2 := (z1.m (show q + 5 ≤ q + 6 by omega))
  refine h_init (q := (q + 5)) (mc := 0) (ms := 0) (n' := q + 6) (kc' := 5) (ks' := 23) hX (hG.up 5) rfl e_X4_init_46 rfl (i_X7 (hS.sub (k := 5) (l' := bk_X7) (by decide +kernel)) z2) cw_X7_init rfl wk_81 nw_4_29 ⟨by decide, by decide⟩ (Nat.le_of_ble_eq_true rfl) rfl rfl (by rw [hc]; exact Nat.le_of_ble_eq_true rfl) (by rw [hs]; exact Nat.le_of_ble_eq_true rfl) ?_
  refine h_aast (j := 1) (t := 4) (qk := (q + 5)) hX (hG.up 5).fit e_X4_init_49 (cut_a (hS 1 _ rfl) (by omega) (by decide +kernel)) (by decide) rfl rfl (show cls[7]? = some (RX7, TX7, 3) from rfl) (by decide) (cut_o (hS 5 _ rfl) (by omega)) (by decide +kernel) ?_
  have f1 := gR_sRn (k := 1) (v := some (q + 5)) h0 (show ¬ (q = (q + 1) ∧ 6 = 1) by omega)
  have f2 := gR_sRn (k := 1) (v := some (q + 5)) h1 (show ¬ (q = (q + 1) ∧ 7 = 1) by omega)
  have f3 := gR_sRn (k := 1) (v := some (q + 5)) h2 (show ¬ (q = (q + 1) ∧ 8 = 1) by omega)
  refine r_iinc (v := 2) hX e_X4_init_50 rfl (by decide +kernel) (Nat.le_of_ble_eq_true rfl) rfl ?_
  refine r_goto hX e_X4_init_53 ?_
  refine r_iload_n (i := 1) hX e_X4_init_32 rfl rfl ?_
  refine r_iconst (v := 3) hX e_X4_init_33 (by decide +kernel) ?_
  refine r_icmp_ge hX e_X4_init_34 (fun h => absurd h (by decide)) (fun _ => ?_)
  refine r_aload_n (i := 0) hX e_X4_init_37 rfl rfl ?_
  refine r_getR (r := (q + 1)) hX (hG.up 5).fit e_X4_init_38 fl_4_11 rfl (cut_o (hS 0 _ rfl) (by omega)) f1 ?_
  refine r_iload_n (i := 1) hX e_X4_init_41 rfl rfl ?_
  have z3 := (z2.r (k := 1) (v := some (q + 5)) (show (q + 1) < q + 6 by omega))
  refine h_new (n' := q + 7) (kc' := 6) (ks' := 26) hX (hG.up 5) e_X4_init_42 nc_4_9 z3 (hS 6 _ rfl) rfl rfl rfl (by rw [hc]; exact Nat.le_of_ble_eq_true rfl) (by rw [hs]; exact Nat.le_of_ble_eq_true rfl) ?_
  refine r_dup hX e_X4_init_45 rfl ?_
  have z4 := (z3.m (show q + 6 ≤ q + 7 by omega))
  refine h_init (q := (q + 6)) (mc := 0) (ms := 0) (n' := q + 7) (kc' := 6) (ks' := 26) hX (hG.up 6) rfl e_X4_init_46 rfl (i_X7 (hS.sub (k := 6) (l' := bk_X7) (by decide +kernel)) z4) cw_X7_init rfl wk_81 nw_4_29 ⟨by decide, by decide⟩ (Nat.le_of_ble_eq_true rfl) rfl rfl (by rw [hc]; exact Nat.le_of_ble_eq_true rfl) (by rw [hs]; exact Nat.le_of_ble_eq_true rfl) ?_
  refine h_aast (j := 2) (t := 4) (qk := (q + 6)) hX (hG.up 6).fit e_X4_init_49 (cut_a (hS 1 _ rfl) (by omega) (by decide +kernel)) (by decide) rfl rfl (show cls[7]? = some (RX7, TX7, 3) from rfl) (by decide) (cut_o (hS 6 _ rfl) (by omega)) (by decide +kernel) ?_
  have f4 := gR_sRn (k := 2) (v := some (q + 6)) f2 (show ¬ (q = (q + 1) ∧ 7 = 2) by omega)
  have f5 := gR_sRn (k := 2) (v := some (q + 6)) f3 (show ¬ (q = (q + 1) ∧ 8 = 2) by omega)
  refine r_iinc (v := 3) hX e_X4_init_50 rfl (by decide +kernel) (Nat.le_of_ble_eq_true rfl) rfl ?_
  refine r_goto hX e_X4_init_53 ?_
  refine r_iload_n (i := 1) hX e_X4_init_32 rfl rfl ?_
  refine r_iconst (v := 3) hX e_X4_init_33 (by decide +kernel) ?_
  refine r_icmp_ge hX e_X4_init_34 (fun _ => ?_) (fun h => absurd (by decide) h)
  refine r_iconst (v := 0) hX e_X4_init_56 (by decide +kernel) ?_
  refine r_istore_n (i := 1) hX e_X4_init_57 rfl (Nat.le_of_ble_eq_true rfl) rfl ?_
  exact k f4 f5 (z4.r (k := 2) (v := some (q + 6)) (show (q + 1) < q + 7 by omega))
def k_X4_2 (M : Mem) (q : Nat) : Mem := (sR (sR (sR M (q + 2) 0 (some (q + 7))) (q + 2) 1 (some (q + 8))) (q + 2) 2 (some (q + 9)))
theorem z_X4_2 {M : Mem} {q n : Nat} (h : Z0 M n) (hn : q + 10 ≤ n) : Z0 (k_X4_2 M q) n := by
  unfold k_X4_2
  exact (((h.r (show (q + 2) < n by omega)).r (show (q + 2) < n by omega)).r (show (q + 2) < n by omega))
theorem n_X4_2 {M : Mem} {q b j : Nat} {x : Option Nat} (h : gR M b j = x) (hb : b < q) : gR (k_X4_2 M q) b j = x := by
  unfold k_X4_2
  exact (gR_sRn (gR_sRn (gR_sRn h (fun z => absurd z.1 (by omega))) (fun z => absurd z.1 (by omega))) (fun z => absurd z.1 (by omega)))
theorem nc_4_17 : NC RX4 17 9 7 := ⟨_, tyX9, rfl, ly9, tyX9_ok, wk_75, wk_103, wk_5, by decide, rfl, fun j hj => match j, hj with | 0, _ => ⟨_, rfl, rfl⟩ | 1, _ => ⟨_, rfl, rfl⟩ | 2, _ => ⟨_, rfl, rfl⟩ | 3, _ => ⟨_, rfl, rfl⟩ | 4, _ => ⟨_, rfl, rfl⟩ | 5, _ => ⟨_, rfl, rfl⟩ | 6, _ => ⟨_, rfl, rfl⟩ | j + 7, h => absurd h (by omega)⟩
theorem nw_4_30 : Cond.methodLinkNest RX4 30 yX9_init "TurningMarket" ∈ NESTW := List.mem_filter.mpr ⟨List.mem_of_getElem? (i := 202) (by decide +kernel), rfl⟩
set_option maxHeartbeats 4000000 in
theorem s_X4_2 {X : Cx} {S : Shp} {q : Nat} {M : Mem} (hX : OkX X cX4_init RX4 2 32) (hG : OkG X (q + 1) 0) (hin : X.meth.name = "<init>") (hc : X.R.cells = 38) (hs : X.R.slots = 178) (hS : Blk S q bk_X4) (hZ : Z0 M (q + 7)) (h0 : gR M q 7 = some (q + 2)) (h1 : gR M q 8 = some (q + 3)) (k : gR (k_X4_2 M q) q 7 = some (q + 2) → gR (k_X4_2 M q) q 8 = some (q + 3) → Z0 (k_X4_2 M q) (q + 10) → GoN X (cut S (q + 10)) (q + 10) 9 47 (k_X4_2 M q) 77 [some (.ref (X.B + q)), some (.int (2))] []) : GoN X (cut S (q + 7)) (q + 7) 6 26 M 58 [some (.ref (X.B + q)), some (.int (0))] [] := by
  refine r_iload_n (i := 1) hX e_X4_init_58 rfl rfl ?_
  refine r_bipush (v := 8) hX e_X4_init_59 (by decide +kernel) ?_
  refine r_icmp_ge hX e_X4_init_61 (fun h => absurd h (by decide)) (fun _ => ?_)
  refine r_aload_n (i := 0) hX e_X4_init_64 rfl rfl ?_
  refine r_getR (r := (q + 2)) hX (hG.up 6).fit e_X4_init_65 fl_4_19 rfl (cut_o (hS 0 _ rfl) (by omega)) h0 ?_
  refine r_iload_n (i := 1) hX e_X4_init_68 rfl rfl ?_
  have z1 := hZ
  refine h_new (n' := q + 8) (kc' := 7) (ks' := 33) hX (hG.up 6) e_X4_init_69 nc_4_17 z1 (hS 7 _ rfl) rfl rfl rfl (by rw [hc]; exact Nat.le_of_ble_eq_true rfl) (by rw [hs]; exact Nat.le_of_ble_eq_true rfl) ?_
  refine r_dup hX e_X4_init_72 rfl ?_
  have z2 := (z1.m (show q + 7 ≤ q + 8 by omega))
  refine h_init (q := (q + 7)) (mc := 0) (ms := 0) (n' := q + 8) (kc' := 7) (ks' := 33) hX (hG.up 7) rfl e_X4_init_73 rfl (i_X9 (hS.sub (k := 7) (l' := bk_X9) (by decide +kernel)) z2) cw_X9_init rfl wk_105 nw_4_30 ⟨by decide, by decide⟩ (Nat.le_of_ble_eq_true rfl) rfl rfl (by rw [hc]; exact Nat.le_of_ble_eq_true rfl) (by rw [hs]; exact Nat.le_of_ble_eq_true rfl) ?_
  refine h_aast (j := 0) (t := 5) (qk := (q + 7)) hX (hG.up 7).fit e_X4_init_76 (cut_a (hS 2 _ rfl) (by omega) (by decide +kernel)) (by decide) rfl rfl (show cls[9]? = some (RX9, TX9, 7) from rfl) (by decide) (cut_o (hS 7 _ rfl) (by omega)) (by decide +kernel) ?_
  have f1 := gR_sRn (k := 0) (v := some (q + 7)) h0 (show ¬ (q = (q + 2) ∧ 7 = 0) by omega)
  have f2 := gR_sRn (k := 0) (v := some (q + 7)) h1 (show ¬ (q = (q + 2) ∧ 8 = 0) by omega)
  refine r_iinc (v := 1) hX e_X4_init_77 rfl (by decide +kernel) (Nat.le_of_ble_eq_true rfl) rfl ?_
  refine r_goto hX e_X4_init_80 ?_
  refine r_iload_n (i := 1) hX e_X4_init_58 rfl rfl ?_
  refine r_bipush (v := 8) hX e_X4_init_59 (by decide +kernel) ?_
  refine r_icmp_ge hX e_X4_init_61 (fun h => absurd h (by decide)) (fun _ => ?_)
  refine r_aload_n (i := 0) hX e_X4_init_64 rfl rfl ?_
  refine r_getR (r := (q + 2)) hX (hG.up 7).fit e_X4_init_65 fl_4_19 rfl (cut_o (hS 0 _ rfl) (by omega)) f1 ?_
  refine r_iload_n (i := 1) hX e_X4_init_68 rfl rfl ?_
  have z3 := (z2.r (k := 0) (v := some (q + 7)) (show (q + 2) < q + 8 by omega))
  refine h_new (n' := q + 9) (kc' := 8) (ks' := 40) hX (hG.up 7) e_X4_init_69 nc_4_17 z3 (hS 8 _ rfl) rfl rfl rfl (by rw [hc]; exact Nat.le_of_ble_eq_true rfl) (by rw [hs]; exact Nat.le_of_ble_eq_true rfl) ?_
  refine r_dup hX e_X4_init_72 rfl ?_
  have z4 := (z3.m (show q + 8 ≤ q + 9 by omega))
  refine h_init (q := (q + 8)) (mc := 0) (ms := 0) (n' := q + 9) (kc' := 8) (ks' := 40) hX (hG.up 8) rfl e_X4_init_73 rfl (i_X9 (hS.sub (k := 8) (l' := bk_X9) (by decide +kernel)) z4) cw_X9_init rfl wk_105 nw_4_30 ⟨by decide, by decide⟩ (Nat.le_of_ble_eq_true rfl) rfl rfl (by rw [hc]; exact Nat.le_of_ble_eq_true rfl) (by rw [hs]; exact Nat.le_of_ble_eq_true rfl) ?_
  refine h_aast (j := 1) (t := 5) (qk := (q + 8)) hX (hG.up 8).fit e_X4_init_76 (cut_a (hS 2 _ rfl) (by omega) (by decide +kernel)) (by decide) rfl rfl (show cls[9]? = some (RX9, TX9, 7) from rfl) (by decide) (cut_o (hS 8 _ rfl) (by omega)) (by decide +kernel) ?_
  have f3 := gR_sRn (k := 1) (v := some (q + 8)) f1 (show ¬ (q = (q + 2) ∧ 7 = 1) by omega)
  have f4 := gR_sRn (k := 1) (v := some (q + 8)) f2 (show ¬ (q = (q + 2) ∧ 8 = 1) by omega)
  refine r_iinc (v := 2) hX e_X4_init_77 rfl (by decide +kernel) (Nat.le_of_ble_eq_true rfl) rfl ?_
  refine r_goto hX e_X4_init_80 ?_
  refine r_iload_n (i := 1) hX e_X4_init_58 rfl rfl ?_
  refine r_bipush (v := 8) hX e_X4_init_59 (by decide +kernel) ?_
  refine r_icmp_ge hX e_X4_init_61 (fun h => absurd h (by decide)) (fun _ => ?_)
  refine r_aload_n (i := 0) hX e_X4_init_64 rfl rfl ?_
  refine r_getR (r := (q + 2)) hX (hG.up 8).fit e_X4_init_65 fl_4_19 rfl (cut_o (hS 0 _ rfl) (by omega)) f3 ?_
  refine r_iload_n (i := 1) hX e_X4_init_68 rfl rfl ?_
  have z5 := (z4.r (k := 1) (v := some (q + 8)) (show (q + 2) < q + 9 by omega))
  refine h_new (n' := q + 10) (kc' := 9) (ks' := 47) hX (hG.up 8) e_X4_init_69 nc_4_17 z5 (hS 9 _ rfl) rfl rfl rfl (by rw [hc]; exact Nat.le_of_ble_eq_true rfl) (by rw [hs]; exact Nat.le_of_ble_eq_true rfl) ?_
  refine r_dup hX e_X4_init_72 rfl ?_
  have z6 := (z5.m (show q + 9 ≤ q + 10 by omega))
  refine h_init (q := (q + 9)) (mc := 0) (ms := 0) (n' := q + 10) (kc' := 9) (ks' := 47) hX (hG.up 9) rfl e_X4_init_73 rfl (i_X9 (hS.sub (k := 9) (l' := bk_X9) (by decide +kernel)) z6) cw_X9_init rfl wk_105 nw_4_30 ⟨by decide, by decide⟩ (Nat.le_of_ble_eq_true rfl) rfl rfl (by rw [hc]; exact Nat.le_of_ble_eq_true rfl) (by rw [hs]; exact Nat.le_of_ble_eq_true rfl) ?_
  refine h_aast (j := 2) (t := 5) (qk := (q + 9)) hX (hG.up 9).fit e_X4_init_76 (cut_a (hS 2 _ rfl) (by omega) (by decide +kernel)) (by decide) rfl rfl (show cls[9]? = some (RX9, TX9, 7) from rfl) (by decide) (cut_o (hS 9 _ rfl) (by omega)) (by decide +kernel) ?_
  have f5 := gR_sRn (k := 2) (v := some (q + 9)) f3 (show ¬ (q = (q + 2) ∧ 7 = 2) by omega)
  have f6 := gR_sRn (k := 2) (v := some (q + 9)) f4 (show ¬ (q = (q + 2) ∧ 8 = 2) by omega)
  exact k f5 f6 (z6.r (k := 2) (v := some (q + 9)) (show (q + 2) < q + 10 by omega))
def k_X4_3 (M : Mem) (q : Nat) : Mem := (sR (sR (sR M (q + 2) 3 (some (q + 10))) (q + 2) 4 (some (q + 11))) (q + 2) 5 (some (q + 12)))
theorem z_X4_3 {M : Mem} {q n : Nat} (h : Z0 M n) (hn : q + 13 ≤ n) : Z0 (k_X4_3 M q) n := by
  unfold k_X4_3
  exact (((h.r (show (q + 2) < n by omega)).r (show (q + 2) < n by omega)).r (show (q + 2) < n by omega))
theorem n_X4_3 {M : Mem} {q b j : Nat} {x : Option Nat} (h : gR M b j = x) (hb : b < q) : gR (k_X4_3 M q) b j = x := by
  unfold k_X4_3
  exact (gR_sRn (gR_sRn (gR_sRn h (fun z => absurd z.1 (by omega))) (fun z => absurd z.1 (by omega))) (fun z => absurd z.1 (by omega)))
set_option maxHeartbeats 4000000 in
theorem s_X4_3 {X : Cx} {S : Shp} {q : Nat} {M : Mem} (hX : OkX X cX4_init RX4 2 32) (hG : OkG X (q + 1) 0) (hin : X.meth.name = "<init>") (hc : X.R.cells = 38) (hs : X.R.slots = 178) (hS : Blk S q bk_X4) (hZ : Z0 M (q + 10)) (h0 : gR M q 7 = some (q + 2)) (h1 : gR M q 8 = some (q + 3)) (k : gR (k_X4_3 M q) q 7 = some (q + 2) → gR (k_X4_3 M q) q 8 = some (q + 3) → Z0 (k_X4_3 M q) (q + 13) → GoN X (cut S (q + 13)) (q + 13) 12 68 (k_X4_3 M q) 77 [some (.ref (X.B + q)), some (.int (5))] []) : GoN X (cut S (q + 10)) (q + 10) 9 47 M 77 [some (.ref (X.B + q)), some (.int (2))] [] := by
  refine r_iinc (v := 3) hX e_X4_init_77 rfl (by decide +kernel) (Nat.le_of_ble_eq_true rfl) rfl ?_
  refine r_goto hX e_X4_init_80 ?_
  refine r_iload_n (i := 1) hX e_X4_init_58 rfl rfl ?_
  refine r_bipush (v := 8) hX e_X4_init_59 (by decide +kernel) ?_
  refine r_icmp_ge hX e_X4_init_61 (fun h => absurd h (by decide)) (fun _ => ?_)
  refine r_aload_n (i := 0) hX e_X4_init_64 rfl rfl ?_
  refine r_getR (r := (q + 2)) hX (hG.up 9).fit e_X4_init_65 fl_4_19 rfl (cut_o (hS 0 _ rfl) (by omega)) h0 ?_
  refine r_iload_n (i := 1) hX e_X4_init_68 rfl rfl ?_
  have z1 := hZ
  refine h_new (n' := q + 11) (kc' := 10) (ks' := 54) hX (hG.up 9) e_X4_init_69 nc_4_17 z1 (hS 10 _ rfl) rfl rfl rfl (by rw [hc]; exact Nat.le_of_ble_eq_true rfl) (by rw [hs]; exact Nat.le_of_ble_eq_true rfl) ?_
  refine r_dup hX e_X4_init_72 rfl ?_
  have z2 := (z1.m (show q + 10 ≤ q + 11 by omega))
  refine h_init (q := (q + 10)) (mc := 0) (ms := 0) (n' := q + 11) (kc' := 10) (ks' := 54) hX (hG.up 10) rfl e_X4_init_73 rfl (i_X9 (hS.sub (k := 10) (l' := bk_X9) (by decide +kernel)) z2) cw_X9_init rfl wk_105 nw_4_30 ⟨by decide, by decide⟩ (Nat.le_of_ble_eq_true rfl) rfl rfl (by rw [hc]; exact Nat.le_of_ble_eq_true rfl) (by rw [hs]; exact Nat.le_of_ble_eq_true rfl) ?_
  refine h_aast (j := 3) (t := 5) (qk := (q + 10)) hX (hG.up 10).fit e_X4_init_76 (cut_a (hS 2 _ rfl) (by omega) (by decide +kernel)) (by decide) rfl rfl (show cls[9]? = some (RX9, TX9, 7) from rfl) (by decide) (cut_o (hS 10 _ rfl) (by omega)) (by decide +kernel) ?_
  have f1 := gR_sRn (k := 3) (v := some (q + 10)) h0 (show ¬ (q = (q + 2) ∧ 7 = 3) by omega)
  have f2 := gR_sRn (k := 3) (v := some (q + 10)) h1 (show ¬ (q = (q + 2) ∧ 8 = 3) by omega)
  refine r_iinc (v := 4) hX e_X4_init_77 rfl (by decide +kernel) (Nat.le_of_ble_eq_true rfl) rfl ?_
  refine r_goto hX e_X4_init_80 ?_
  refine r_iload_n (i := 1) hX e_X4_init_58 rfl rfl ?_
  refine r_bipush (v := 8) hX e_X4_init_59 (by decide +kernel) ?_
  refine r_icmp_ge hX e_X4_init_61 (fun h => absurd h (by decide)) (fun _ => ?_)
  refine r_aload_n (i := 0) hX e_X4_init_64 rfl rfl ?_
  refine r_getR (r := (q + 2)) hX (hG.up 10).fit e_X4_init_65 fl_4_19 rfl (cut_o (hS 0 _ rfl) (by omega)) f1 ?_
  refine r_iload_n (i := 1) hX e_X4_init_68 rfl rfl ?_
  have z3 := (z2.r (k := 3) (v := some (q + 10)) (show (q + 2) < q + 11 by omega))
  refine h_new (n' := q + 12) (kc' := 11) (ks' := 61) hX (hG.up 10) e_X4_init_69 nc_4_17 z3 (hS 11 _ rfl) rfl rfl rfl (by rw [hc]; exact Nat.le_of_ble_eq_true rfl) (by rw [hs]; exact Nat.le_of_ble_eq_true rfl) ?_
  refine r_dup hX e_X4_init_72 rfl ?_
  have z4 := (z3.m (show q + 11 ≤ q + 12 by omega))
  refine h_init (q := (q + 11)) (mc := 0) (ms := 0) (n' := q + 12) (kc' := 11) (ks' := 61) hX (hG.up 11) rfl e_X4_init_73 rfl (i_X9 (hS.sub (k := 11) (l' := bk_X9) (by decide +kernel)) z4) cw_X9_init rfl wk_105 nw_4_30 ⟨by decide, by decide⟩ (Nat.le_of_ble_eq_true rfl) rfl rfl (by rw [hc]; exact Nat.le_of_ble_eq_true rfl) (by rw [hs]; exact Nat.le_of_ble_eq_true rfl) ?_
  refine h_aast (j := 4) (t := 5) (qk := (q + 11)) hX (hG.up 11).fit e_X4_init_76 (cut_a (hS 2 _ rfl) (by omega) (by decide +kernel)) (by decide) rfl rfl (show cls[9]? = some (RX9, TX9, 7) from rfl) (by decide) (cut_o (hS 11 _ rfl) (by omega)) (by decide +kernel) ?_
  have f3 := gR_sRn (k := 4) (v := some (q + 11)) f1 (show ¬ (q = (q + 2) ∧ 7 = 4) by omega)
  have f4 := gR_sRn (k := 4) (v := some (q + 11)) f2 (show ¬ (q = (q + 2) ∧ 8 = 4) by omega)
  refine r_iinc (v := 5) hX e_X4_init_77 rfl (by decide +kernel) (Nat.le_of_ble_eq_true rfl) rfl ?_
  refine r_goto hX e_X4_init_80 ?_
  refine r_iload_n (i := 1) hX e_X4_init_58 rfl rfl ?_
  refine r_bipush (v := 8) hX e_X4_init_59 (by decide +kernel) ?_
  refine r_icmp_ge hX e_X4_init_61 (fun h => absurd h (by decide)) (fun _ => ?_)
  refine r_aload_n (i := 0) hX e_X4_init_64 rfl rfl ?_
  refine r_getR (r := (q + 2)) hX (hG.up 11).fit e_X4_init_65 fl_4_19 rfl (cut_o (hS 0 _ rfl) (by omega)) f3 ?_
  refine r_iload_n (i := 1) hX e_X4_init_68 rfl rfl ?_
  have z5 := (z4.r (k := 4) (v := some (q + 11)) (show (q + 2) < q + 12 by omega))
  refine h_new (n' := q + 13) (kc' := 12) (ks' := 68) hX (hG.up 11) e_X4_init_69 nc_4_17 z5 (hS 12 _ rfl) rfl rfl rfl (by rw [hc]; exact Nat.le_of_ble_eq_true rfl) (by rw [hs]; exact Nat.le_of_ble_eq_true rfl) ?_
  refine r_dup hX e_X4_init_72 rfl ?_
  have z6 := (z5.m (show q + 12 ≤ q + 13 by omega))
  refine h_init (q := (q + 12)) (mc := 0) (ms := 0) (n' := q + 13) (kc' := 12) (ks' := 68) hX (hG.up 12) rfl e_X4_init_73 rfl (i_X9 (hS.sub (k := 12) (l' := bk_X9) (by decide +kernel)) z6) cw_X9_init rfl wk_105 nw_4_30 ⟨by decide, by decide⟩ (Nat.le_of_ble_eq_true rfl) rfl rfl (by rw [hc]; exact Nat.le_of_ble_eq_true rfl) (by rw [hs]; exact Nat.le_of_ble_eq_true rfl) ?_
  refine h_aast (j := 5) (t := 5) (qk := (q + 12)) hX (hG.up 12).fit e_X4_init_76 (cut_a (hS 2 _ rfl) (by omega) (by decide +kernel)) (by decide) rfl rfl (show cls[9]? = some (RX9, TX9, 7) from rfl) (by decide) (cut_o (hS 12 _ rfl) (by omega)) (by decide +kernel) ?_
  have f5 := gR_sRn (k := 5) (v := some (q + 12)) f3 (show ¬ (q = (q + 2) ∧ 7 = 5) by omega)
  have f6 := gR_sRn (k := 5) (v := some (q + 12)) f4 (show ¬ (q = (q + 2) ∧ 8 = 5) by omega)
  exact k f5 f6 (z6.r (k := 5) (v := some (q + 12)) (show (q + 2) < q + 13 by omega))
def k_X4_4 (M : Mem) (q : Nat) : Mem := (sR (sR M (q + 2) 6 (some (q + 13))) (q + 2) 7 (some (q + 14)))
theorem z_X4_4 {M : Mem} {q n : Nat} (h : Z0 M n) (hn : q + 15 ≤ n) : Z0 (k_X4_4 M q) n := by
  unfold k_X4_4
  exact ((h.r (show (q + 2) < n by omega)).r (show (q + 2) < n by omega))
theorem n_X4_4 {M : Mem} {q b j : Nat} {x : Option Nat} (h : gR M b j = x) (hb : b < q) : gR (k_X4_4 M q) b j = x := by
  unfold k_X4_4
  exact (gR_sRn (gR_sRn h (fun z => absurd z.1 (by omega))) (fun z => absurd z.1 (by omega)))
set_option maxHeartbeats 4000000 in
theorem s_X4_4 {X : Cx} {S : Shp} {q : Nat} {M : Mem} (hX : OkX X cX4_init RX4 2 32) (hG : OkG X (q + 1) 0) (hin : X.meth.name = "<init>") (hc : X.R.cells = 38) (hs : X.R.slots = 178) (hS : Blk S q bk_X4) (hZ : Z0 M (q + 13)) (h0 : gR M q 7 = some (q + 2)) (h1 : gR M q 8 = some (q + 3)) (k : gR (k_X4_4 M q) q 8 = some (q + 3) → Z0 (k_X4_4 M q) (q + 15) → GoN X (cut S (q + 15)) (q + 15) 14 82 (k_X4_4 M q) 91 [some (.ref (X.B + q)), some (.int (0))] []) : GoN X (cut S (q + 13)) (q + 13) 12 68 M 77 [some (.ref (X.B + q)), some (.int (5))] [] := by
  refine r_iinc (v := 6) hX e_X4_init_77 rfl (by decide +kernel) (Nat.le_of_ble_eq_true rfl) rfl ?_
  refine r_goto hX e_X4_init_80 ?_
  refine r_iload_n (i := 1) hX e_X4_init_58 rfl rfl ?_
  refine r_bipush (v := 8) hX e_X4_init_59 (by decide +kernel) ?_
  refine r_icmp_ge hX e_X4_init_61 (fun h => absurd h (by decide)) (fun _ => ?_)
  refine r_aload_n (i := 0) hX e_X4_init_64 rfl rfl ?_
  refine r_getR (r := (q + 2)) hX (hG.up 12).fit e_X4_init_65 fl_4_19 rfl (cut_o (hS 0 _ rfl) (by omega)) h0 ?_
  refine r_iload_n (i := 1) hX e_X4_init_68 rfl rfl ?_
  have z1 := hZ
  refine h_new (n' := q + 14) (kc' := 13) (ks' := 75) hX (hG.up 12) e_X4_init_69 nc_4_17 z1 (hS 13 _ rfl) rfl rfl rfl (by rw [hc]; exact Nat.le_of_ble_eq_true rfl) (by rw [hs]; exact Nat.le_of_ble_eq_true rfl) ?_
  refine r_dup hX e_X4_init_72 rfl ?_
  have z2 := (z1.m (show q + 13 ≤ q + 14 by omega))
  refine h_init (q := (q + 13)) (mc := 0) (ms := 0) (n' := q + 14) (kc' := 13) (ks' := 75) hX (hG.up 13) rfl e_X4_init_73 rfl (i_X9 (hS.sub (k := 13) (l' := bk_X9) (by decide +kernel)) z2) cw_X9_init rfl wk_105 nw_4_30 ⟨by decide, by decide⟩ (Nat.le_of_ble_eq_true rfl) rfl rfl (by rw [hc]; exact Nat.le_of_ble_eq_true rfl) (by rw [hs]; exact Nat.le_of_ble_eq_true rfl) ?_
  refine h_aast (j := 6) (t := 5) (qk := (q + 13)) hX (hG.up 13).fit e_X4_init_76 (cut_a (hS 2 _ rfl) (by omega) (by decide +kernel)) (by decide) rfl rfl (show cls[9]? = some (RX9, TX9, 7) from rfl) (by decide) (cut_o (hS 13 _ rfl) (by omega)) (by decide +kernel) ?_
  have f1 := gR_sRn (k := 6) (v := some (q + 13)) h0 (show ¬ (q = (q + 2) ∧ 7 = 6) by omega)
  have f2 := gR_sRn (k := 6) (v := some (q + 13)) h1 (show ¬ (q = (q + 2) ∧ 8 = 6) by omega)
  refine r_iinc (v := 7) hX e_X4_init_77 rfl (by decide +kernel) (Nat.le_of_ble_eq_true rfl) rfl ?_
  refine r_goto hX e_X4_init_80 ?_
  refine r_iload_n (i := 1) hX e_X4_init_58 rfl rfl ?_
  refine r_bipush (v := 8) hX e_X4_init_59 (by decide +kernel) ?_
  refine r_icmp_ge hX e_X4_init_61 (fun h => absurd h (by decide)) (fun _ => ?_)
  refine r_aload_n (i := 0) hX e_X4_init_64 rfl rfl ?_
  refine r_getR (r := (q + 2)) hX (hG.up 13).fit e_X4_init_65 fl_4_19 rfl (cut_o (hS 0 _ rfl) (by omega)) f1 ?_
  refine r_iload_n (i := 1) hX e_X4_init_68 rfl rfl ?_
  have z3 := (z2.r (k := 6) (v := some (q + 13)) (show (q + 2) < q + 14 by omega))
  refine h_new (n' := q + 15) (kc' := 14) (ks' := 82) hX (hG.up 13) e_X4_init_69 nc_4_17 z3 (hS 14 _ rfl) rfl rfl rfl (by rw [hc]; exact Nat.le_of_ble_eq_true rfl) (by rw [hs]; exact Nat.le_of_ble_eq_true rfl) ?_
  refine r_dup hX e_X4_init_72 rfl ?_
  have z4 := (z3.m (show q + 14 ≤ q + 15 by omega))
  refine h_init (q := (q + 14)) (mc := 0) (ms := 0) (n' := q + 15) (kc' := 14) (ks' := 82) hX (hG.up 14) rfl e_X4_init_73 rfl (i_X9 (hS.sub (k := 14) (l' := bk_X9) (by decide +kernel)) z4) cw_X9_init rfl wk_105 nw_4_30 ⟨by decide, by decide⟩ (Nat.le_of_ble_eq_true rfl) rfl rfl (by rw [hc]; exact Nat.le_of_ble_eq_true rfl) (by rw [hs]; exact Nat.le_of_ble_eq_true rfl) ?_
  refine h_aast (j := 7) (t := 5) (qk := (q + 14)) hX (hG.up 14).fit e_X4_init_76 (cut_a (hS 2 _ rfl) (by omega) (by decide +kernel)) (by decide) rfl rfl (show cls[9]? = some (RX9, TX9, 7) from rfl) (by decide) (cut_o (hS 14 _ rfl) (by omega)) (by decide +kernel) ?_
  have f3 := gR_sRn (k := 7) (v := some (q + 14)) f2 (show ¬ (q = (q + 2) ∧ 8 = 7) by omega)
  refine r_iinc (v := 8) hX e_X4_init_77 rfl (by decide +kernel) (Nat.le_of_ble_eq_true rfl) rfl ?_
  refine r_goto hX e_X4_init_80 ?_
  refine r_iload_n (i := 1) hX e_X4_init_58 rfl rfl ?_
  refine r_bipush (v := 8) hX e_X4_init_59 (by decide +kernel) ?_
  refine r_icmp_ge hX e_X4_init_61 (fun _ => ?_) (fun h => absurd (by decide) h)
  refine r_iconst (v := 0) hX e_X4_init_83 (by decide +kernel) ?_
  refine r_istore_n (i := 1) hX e_X4_init_84 rfl (Nat.le_of_ble_eq_true rfl) rfl ?_
  refine r_iload_n (i := 1) hX e_X4_init_85 rfl rfl ?_
  refine r_bipush (v := 6) hX e_X4_init_86 (by decide +kernel) ?_
  refine r_icmp_ge hX e_X4_init_88 (fun h => absurd h (by decide)) (fun _ => ?_)
  exact k f3 (z4.r (k := 7) (v := some (q + 14)) (show (q + 2) < q + 15 by omega))
def k_X4_5 (M : Mem) (q : Nat) : Mem := (sR (k_X1 (sR (k_X1 (sR (k_X1 M (q + 15)) (q + 3) 0 (some (q + 15))) (q + 19)) (q + 3) 1 (some (q + 19))) (q + 23)) (q + 3) 2 (some (q + 23)))
theorem z_X4_5 {M : Mem} {q n : Nat} (h : Z0 M n) (hn : q + 27 ≤ n) : Z0 (k_X4_5 M q) n := by
  unfold k_X4_5
  exact ((z_X1 ((z_X1 ((z_X1 h (show (q + 15) + 4 ≤ n by omega)).r (show (q + 3) < n by omega)) (show (q + 19) + 4 ≤ n by omega)).r (show (q + 3) < n by omega)) (show (q + 23) + 4 ≤ n by omega)).r (show (q + 3) < n by omega))
theorem n_X4_5 {M : Mem} {q b j : Nat} {x : Option Nat} (h : gR M b j = x) (hb : b < q) : gR (k_X4_5 M q) b j = x := by
  unfold k_X4_5
  exact (gR_sRn (n_X1 (gR_sRn (n_X1 (gR_sRn (n_X1 h (by omega)) (fun z => absurd z.1 (by omega))) (by omega)) (fun z => absurd z.1 (by omega))) (by omega)) (fun z => absurd z.1 (by omega)))
theorem nc_4_23 : NC RX4 23 1 7 := ⟨_, tyX1, rfl, ly1, tyX1_ok, wk_77, wk_156, wk_6, by decide, rfl, fun j hj => match j, hj with | 0, _ => ⟨_, rfl, rfl⟩ | 1, _ => ⟨_, rfl, rfl⟩ | 2, _ => ⟨_, rfl, rfl⟩ | 3, _ => ⟨_, rfl, rfl⟩ | 4, _ => ⟨_, rfl, rfl⟩ | 5, _ => ⟨_, rfl, rfl⟩ | 6, _ => ⟨_, rfl, rfl⟩ | j + 7, h => absurd h (by omega)⟩
theorem nw_4_31 : Cond.methodLinkNest RX4 31 yX1_init "TurningMarket" ∈ NESTW := List.mem_filter.mpr ⟨List.mem_of_getElem? (i := 255) (by decide +kernel), rfl⟩
set_option maxHeartbeats 4000000 in
theorem s_X4_5 {X : Cx} {S : Shp} {q : Nat} {M : Mem} (hX : OkX X cX4_init RX4 2 32) (hG : OkG X (q + 1) 0) (hin : X.meth.name = "<init>") (hc : X.R.cells = 38) (hs : X.R.slots = 178) (hS : Blk S q bk_X4) (hZ : Z0 M (q + 15)) (h0 : gR M q 8 = some (q + 3)) (k : gR (k_X4_5 M q) q 8 = some (q + 3) → Z0 (k_X4_5 M q) (q + 27) → GoN X (cut S (q + 27)) (q + 27) 26 130 (k_X4_5 M q) 104 [some (.ref (X.B + q)), some (.int (2))] []) : GoN X (cut S (q + 15)) (q + 15) 14 82 M 91 [some (.ref (X.B + q)), some (.int (0))] [] := by
  refine r_aload_n (i := 0) hX e_X4_init_91 rfl rfl ?_
  refine r_getR (r := (q + 3)) hX (hG.up 14).fit e_X4_init_92 fl_4_25 rfl (cut_o (hS 0 _ rfl) (by omega)) h0 ?_
  refine r_iload_n (i := 1) hX e_X4_init_95 rfl rfl ?_
  have z1 := hZ
  refine h_new (n' := q + 16) (kc' := 15) (ks' := 89) hX (hG.up 14) e_X4_init_96 nc_4_23 z1 (hS 15 _ rfl) rfl rfl rfl (by rw [hc]; exact Nat.le_of_ble_eq_true rfl) (by rw [hs]; exact Nat.le_of_ble_eq_true rfl) ?_
  refine r_dup hX e_X4_init_99 rfl ?_
  have z2 := (z1.m (show q + 15 ≤ q + 16 by omega))
  refine h_init (q := (q + 15)) (mc := 3) (ms := 9) (n' := q + 19) (kc' := 18) (ks' := 98) hX (hG.up 15) rfl e_X4_init_100 rfl (i_X1 (hS.sub (k := 15) (l' := bk_X1) (by decide +kernel)) z2) cw_X1_init rfl wk_158 nw_4_31 ⟨by decide, by decide⟩ (Nat.le_of_ble_eq_true rfl) rfl rfl (by rw [hc]; exact Nat.le_of_ble_eq_true rfl) (by rw [hs]; exact Nat.le_of_ble_eq_true rfl) ?_
  have f1 := n_X1  h0 (show q < (q + 15) by omega)
  refine h_aast (j := 0) (t := 6) (qk := (q + 15)) hX (hG.up 18).fit e_X4_init_103 (cut_a (hS 3 _ rfl) (by omega) (by decide +kernel)) (by decide) rfl rfl (show cls[1]? = some (RX1, TX1, 7) from rfl) (by decide) (cut_o (hS 15 _ rfl) (by omega)) (by decide +kernel) ?_
  have f2 := gR_sRn (k := 0) (v := some (q + 15)) f1 (show ¬ (q = (q + 3) ∧ 8 = 0) by omega)
  refine r_iinc (v := 1) hX e_X4_init_104 rfl (by decide +kernel) (Nat.le_of_ble_eq_true rfl) rfl ?_
  refine r_goto hX e_X4_init_107 ?_
  refine r_iload_n (i := 1) hX e_X4_init_85 rfl rfl ?_
  refine r_bipush (v := 6) hX e_X4_init_86 (by decide +kernel) ?_
  refine r_icmp_ge hX e_X4_init_88 (fun h => absurd h (by decide)) (fun _ => ?_)
  refine r_aload_n (i := 0) hX e_X4_init_91 rfl rfl ?_
  refine r_getR (r := (q + 3)) hX (hG.up 18).fit e_X4_init_92 fl_4_25 rfl (cut_o (hS 0 _ rfl) (by omega)) f2 ?_
  refine r_iload_n (i := 1) hX e_X4_init_95 rfl rfl ?_
  have z3 := ((z_X1 (z2.m (show q + 16 ≤ q + 19 by omega)) (show (q + 15) + 4 ≤ q + 19 by omega)).r (k := 0) (v := some (q + 15)) (show (q + 3) < q + 19 by omega))
  refine h_new (n' := q + 20) (kc' := 19) (ks' := 105) hX (hG.up 18) e_X4_init_96 nc_4_23 z3 (hS 19 _ rfl) rfl rfl rfl (by rw [hc]; exact Nat.le_of_ble_eq_true rfl) (by rw [hs]; exact Nat.le_of_ble_eq_true rfl) ?_
  refine r_dup hX e_X4_init_99 rfl ?_
  have z4 := (z3.m (show q + 19 ≤ q + 20 by omega))
  refine h_init (q := (q + 19)) (mc := 3) (ms := 9) (n' := q + 23) (kc' := 22) (ks' := 114) hX (hG.up 19) rfl e_X4_init_100 rfl (i_X1 (hS.sub (k := 19) (l' := bk_X1) (by decide +kernel)) z4) cw_X1_init rfl wk_158 nw_4_31 ⟨by decide, by decide⟩ (Nat.le_of_ble_eq_true rfl) rfl rfl (by rw [hc]; exact Nat.le_of_ble_eq_true rfl) (by rw [hs]; exact Nat.le_of_ble_eq_true rfl) ?_
  have f3 := n_X1  f2 (show q < (q + 19) by omega)
  refine h_aast (j := 1) (t := 6) (qk := (q + 19)) hX (hG.up 22).fit e_X4_init_103 (cut_a (hS 3 _ rfl) (by omega) (by decide +kernel)) (by decide) rfl rfl (show cls[1]? = some (RX1, TX1, 7) from rfl) (by decide) (cut_o (hS 19 _ rfl) (by omega)) (by decide +kernel) ?_
  have f4 := gR_sRn (k := 1) (v := some (q + 19)) f3 (show ¬ (q = (q + 3) ∧ 8 = 1) by omega)
  refine r_iinc (v := 2) hX e_X4_init_104 rfl (by decide +kernel) (Nat.le_of_ble_eq_true rfl) rfl ?_
  refine r_goto hX e_X4_init_107 ?_
  refine r_iload_n (i := 1) hX e_X4_init_85 rfl rfl ?_
  refine r_bipush (v := 6) hX e_X4_init_86 (by decide +kernel) ?_
  refine r_icmp_ge hX e_X4_init_88 (fun h => absurd h (by decide)) (fun _ => ?_)
  refine r_aload_n (i := 0) hX e_X4_init_91 rfl rfl ?_
  refine r_getR (r := (q + 3)) hX (hG.up 22).fit e_X4_init_92 fl_4_25 rfl (cut_o (hS 0 _ rfl) (by omega)) f4 ?_
  refine r_iload_n (i := 1) hX e_X4_init_95 rfl rfl ?_
  have z5 := ((z_X1 (z4.m (show q + 20 ≤ q + 23 by omega)) (show (q + 19) + 4 ≤ q + 23 by omega)).r (k := 1) (v := some (q + 19)) (show (q + 3) < q + 23 by omega))
  refine h_new (n' := q + 24) (kc' := 23) (ks' := 121) hX (hG.up 22) e_X4_init_96 nc_4_23 z5 (hS 23 _ rfl) rfl rfl rfl (by rw [hc]; exact Nat.le_of_ble_eq_true rfl) (by rw [hs]; exact Nat.le_of_ble_eq_true rfl) ?_
  refine r_dup hX e_X4_init_99 rfl ?_
  have z6 := (z5.m (show q + 23 ≤ q + 24 by omega))
  refine h_init (q := (q + 23)) (mc := 3) (ms := 9) (n' := q + 27) (kc' := 26) (ks' := 130) hX (hG.up 23) rfl e_X4_init_100 rfl (i_X1 (hS.sub (k := 23) (l' := bk_X1) (by decide +kernel)) z6) cw_X1_init rfl wk_158 nw_4_31 ⟨by decide, by decide⟩ (Nat.le_of_ble_eq_true rfl) rfl rfl (by rw [hc]; exact Nat.le_of_ble_eq_true rfl) (by rw [hs]; exact Nat.le_of_ble_eq_true rfl) ?_
  have f5 := n_X1  f4 (show q < (q + 23) by omega)
  refine h_aast (j := 2) (t := 6) (qk := (q + 23)) hX (hG.up 26).fit e_X4_init_103 (cut_a (hS 3 _ rfl) (by omega) (by decide +kernel)) (by decide) rfl rfl (show cls[1]? = some (RX1, TX1, 7) from rfl) (by decide) (cut_o (hS 23 _ rfl) (by omega)) (by decide +kernel) ?_
  have f6 := gR_sRn (k := 2) (v := some (q + 23)) f5 (show ¬ (q = (q + 3) ∧ 8 = 2) by omega)
  exact k f6 ((z_X1 (z6.m (show q + 24 ≤ q + 27 by omega)) (show (q + 23) + 4 ≤ q + 27 by omega)).r (k := 2) (v := some (q + 23)) (show (q + 3) < q + 27 by omega))
def k_X4_6 (M : Mem) (q : Nat) : Mem := (sR (k_X1 (sR (k_X1 (sR (k_X1 M (q + 27)) (q + 3) 3 (some (q + 27))) (q + 31)) (q + 3) 4 (some (q + 31))) (q + 35)) (q + 3) 5 (some (q + 35)))
theorem z_X4_6 {M : Mem} {q n : Nat} (h : Z0 M n) (hn : q + 39 ≤ n) : Z0 (k_X4_6 M q) n := by
  unfold k_X4_6
  exact ((z_X1 ((z_X1 ((z_X1 h (show (q + 27) + 4 ≤ n by omega)).r (show (q + 3) < n by omega)) (show (q + 31) + 4 ≤ n by omega)).r (show (q + 3) < n by omega)) (show (q + 35) + 4 ≤ n by omega)).r (show (q + 3) < n by omega))
theorem n_X4_6 {M : Mem} {q b j : Nat} {x : Option Nat} (h : gR M b j = x) (hb : b < q) : gR (k_X4_6 M q) b j = x := by
  unfold k_X4_6
  exact (gR_sRn (n_X1 (gR_sRn (n_X1 (gR_sRn (n_X1 h (by omega)) (fun z => absurd z.1 (by omega))) (by omega)) (fun z => absurd z.1 (by omega))) (by omega)) (fun z => absurd z.1 (by omega)))
set_option maxHeartbeats 4000000 in
theorem s_X4_6 {X : Cx} {S : Shp} {q : Nat} {M : Mem} (hX : OkX X cX4_init RX4 2 32) (hG : OkG X (q + 1) 0) (hin : X.meth.name = "<init>") (hc : X.R.cells = 38) (hs : X.R.slots = 178) (hS : Blk S q bk_X4) (hZ : Z0 M (q + 27)) (h0 : gR M q 8 = some (q + 3)) (k : Z0 (k_X4_6 M q) (q + 39) → GoN X (cut S (q + 39)) (q + 39) 38 178 (k_X4_6 M q) 104 [some (.ref (X.B + q)), some (.int (5))] []) : GoN X (cut S (q + 27)) (q + 27) 26 130 M 104 [some (.ref (X.B + q)), some (.int (2))] [] := by
  refine r_iinc (v := 3) hX e_X4_init_104 rfl (by decide +kernel) (Nat.le_of_ble_eq_true rfl) rfl ?_
  refine r_goto hX e_X4_init_107 ?_
  refine r_iload_n (i := 1) hX e_X4_init_85 rfl rfl ?_
  refine r_bipush (v := 6) hX e_X4_init_86 (by decide +kernel) ?_
  refine r_icmp_ge hX e_X4_init_88 (fun h => absurd h (by decide)) (fun _ => ?_)
  refine r_aload_n (i := 0) hX e_X4_init_91 rfl rfl ?_
  refine r_getR (r := (q + 3)) hX (hG.up 26).fit e_X4_init_92 fl_4_25 rfl (cut_o (hS 0 _ rfl) (by omega)) h0 ?_
  refine r_iload_n (i := 1) hX e_X4_init_95 rfl rfl ?_
  have z1 := hZ
  refine h_new (n' := q + 28) (kc' := 27) (ks' := 137) hX (hG.up 26) e_X4_init_96 nc_4_23 z1 (hS 27 _ rfl) rfl rfl rfl (by rw [hc]; exact Nat.le_of_ble_eq_true rfl) (by rw [hs]; exact Nat.le_of_ble_eq_true rfl) ?_
  refine r_dup hX e_X4_init_99 rfl ?_
  have z2 := (z1.m (show q + 27 ≤ q + 28 by omega))
  refine h_init (q := (q + 27)) (mc := 3) (ms := 9) (n' := q + 31) (kc' := 30) (ks' := 146) hX (hG.up 27) rfl e_X4_init_100 rfl (i_X1 (hS.sub (k := 27) (l' := bk_X1) (by decide +kernel)) z2) cw_X1_init rfl wk_158 nw_4_31 ⟨by decide, by decide⟩ (Nat.le_of_ble_eq_true rfl) rfl rfl (by rw [hc]; exact Nat.le_of_ble_eq_true rfl) (by rw [hs]; exact Nat.le_of_ble_eq_true rfl) ?_
  have f1 := n_X1  h0 (show q < (q + 27) by omega)
  refine h_aast (j := 3) (t := 6) (qk := (q + 27)) hX (hG.up 30).fit e_X4_init_103 (cut_a (hS 3 _ rfl) (by omega) (by decide +kernel)) (by decide) rfl rfl (show cls[1]? = some (RX1, TX1, 7) from rfl) (by decide) (cut_o (hS 27 _ rfl) (by omega)) (by decide +kernel) ?_
  have f2 := gR_sRn (k := 3) (v := some (q + 27)) f1 (show ¬ (q = (q + 3) ∧ 8 = 3) by omega)
  refine r_iinc (v := 4) hX e_X4_init_104 rfl (by decide +kernel) (Nat.le_of_ble_eq_true rfl) rfl ?_
  refine r_goto hX e_X4_init_107 ?_
  refine r_iload_n (i := 1) hX e_X4_init_85 rfl rfl ?_
  refine r_bipush (v := 6) hX e_X4_init_86 (by decide +kernel) ?_
  refine r_icmp_ge hX e_X4_init_88 (fun h => absurd h (by decide)) (fun _ => ?_)
  refine r_aload_n (i := 0) hX e_X4_init_91 rfl rfl ?_
  refine r_getR (r := (q + 3)) hX (hG.up 30).fit e_X4_init_92 fl_4_25 rfl (cut_o (hS 0 _ rfl) (by omega)) f2 ?_
  refine r_iload_n (i := 1) hX e_X4_init_95 rfl rfl ?_
  have z3 := ((z_X1 (z2.m (show q + 28 ≤ q + 31 by omega)) (show (q + 27) + 4 ≤ q + 31 by omega)).r (k := 3) (v := some (q + 27)) (show (q + 3) < q + 31 by omega))
  refine h_new (n' := q + 32) (kc' := 31) (ks' := 153) hX (hG.up 30) e_X4_init_96 nc_4_23 z3 (hS 31 _ rfl) rfl rfl rfl (by rw [hc]; exact Nat.le_of_ble_eq_true rfl) (by rw [hs]; exact Nat.le_of_ble_eq_true rfl) ?_
  refine r_dup hX e_X4_init_99 rfl ?_
  have z4 := (z3.m (show q + 31 ≤ q + 32 by omega))
  refine h_init (q := (q + 31)) (mc := 3) (ms := 9) (n' := q + 35) (kc' := 34) (ks' := 162) hX (hG.up 31) rfl e_X4_init_100 rfl (i_X1 (hS.sub (k := 31) (l' := bk_X1) (by decide +kernel)) z4) cw_X1_init rfl wk_158 nw_4_31 ⟨by decide, by decide⟩ (Nat.le_of_ble_eq_true rfl) rfl rfl (by rw [hc]; exact Nat.le_of_ble_eq_true rfl) (by rw [hs]; exact Nat.le_of_ble_eq_true rfl) ?_
  have f3 := n_X1  f2 (show q < (q + 31) by omega)
  refine h_aast (j := 4) (t := 6) (qk := (q + 31)) hX (hG.up 34).fit e_X4_init_103 (cut_a (hS 3 _ rfl) (by omega) (by decide +kernel)) (by decide) rfl rfl (show cls[1]? = some (RX1, TX1, 7) from rfl) (by decide) (cut_o (hS 31 _ rfl) (by omega)) (by decide +kernel) ?_
  have f4 := gR_sRn (k := 4) (v := some (q + 31)) f3 (show ¬ (q = (q + 3) ∧ 8 = 4) by omega)
  refine r_iinc (v := 5) hX e_X4_init_104 rfl (by decide +kernel) (Nat.le_of_ble_eq_true rfl) rfl ?_
  refine r_goto hX e_X4_init_107 ?_
  refine r_iload_n (i := 1) hX e_X4_init_85 rfl rfl ?_
  refine r_bipush (v := 6) hX e_X4_init_86 (by decide +kernel) ?_
  refine r_icmp_ge hX e_X4_init_88 (fun h => absurd h (by decide)) (fun _ => ?_)
  refine r_aload_n (i := 0) hX e_X4_init_91 rfl rfl ?_
  refine r_getR (r := (q + 3)) hX (hG.up 34).fit e_X4_init_92 fl_4_25 rfl (cut_o (hS 0 _ rfl) (by omega)) f4 ?_
  refine r_iload_n (i := 1) hX e_X4_init_95 rfl rfl ?_
  have z5 := ((z_X1 (z4.m (show q + 32 ≤ q + 35 by omega)) (show (q + 31) + 4 ≤ q + 35 by omega)).r (k := 4) (v := some (q + 31)) (show (q + 3) < q + 35 by omega))
  refine h_new (n' := q + 36) (kc' := 35) (ks' := 169) hX (hG.up 34) e_X4_init_96 nc_4_23 z5 (hS 35 _ rfl) rfl rfl rfl (by rw [hc]; exact Nat.le_of_ble_eq_true rfl) (by rw [hs]; exact Nat.le_of_ble_eq_true rfl) ?_
  refine r_dup hX e_X4_init_99 rfl ?_
  have z6 := (z5.m (show q + 35 ≤ q + 36 by omega))
  refine h_init (q := (q + 35)) (mc := 3) (ms := 9) (n' := q + 39) (kc' := 38) (ks' := 178) hX (hG.up 35) rfl e_X4_init_100 rfl (i_X1 (hS.sub (k := 35) (l' := bk_X1) (by decide +kernel)) z6) cw_X1_init rfl wk_158 nw_4_31 ⟨by decide, by decide⟩ (Nat.le_of_ble_eq_true rfl) rfl rfl (by rw [hc]; exact Nat.le_of_ble_eq_true rfl) (by rw [hs]; exact Nat.le_of_ble_eq_true rfl) ?_
  refine h_aast (j := 5) (t := 6) (qk := (q + 35)) hX (hG.up 38).fit e_X4_init_103 (cut_a (hS 3 _ rfl) (by omega) (by decide +kernel)) (by decide) rfl rfl (show cls[1]? = some (RX1, TX1, 7) from rfl) (by decide) (cut_o (hS 35 _ rfl) (by omega)) (by decide +kernel) ?_
  exact k  ((z_X1 (z6.m (show q + 36 ≤ q + 39 by omega)) (show (q + 35) + 4 ≤ q + 39 by omega)).r (k := 5) (v := some (q + 35)) (show (q + 3) < q + 39 by omega))
set_option maxHeartbeats 4000000 in
theorem s_X4_7 {X : Cx} {S : Shp} {q : Nat} {M : Mem} (hX : OkX X cX4_init RX4 2 32) (hG : OkG X (q + 1) 0) (hin : X.meth.name = "<init>") (hc : X.R.cells = 38) (hs : X.R.slots = 178) (hS : Blk S q bk_X4) (hZ : Z0 M (q + 39))  (k : Z0 M (q + 39) → GoN X (cut S (q + 39)) (q + 39) 38 178 M 110 [some (.ref (X.B + q)), some (.int (6))] []) : GoN X (cut S (q + 39)) (q + 39) 38 178 M 104 [some (.ref (X.B + q)), some (.int (5))] [] := by
  refine r_iinc (v := 6) hX e_X4_init_104 rfl (by decide +kernel) (Nat.le_of_ble_eq_true rfl) rfl ?_
  refine r_goto hX e_X4_init_107 ?_
  refine r_iload_n (i := 1) hX e_X4_init_85 rfl rfl ?_
  refine r_bipush (v := 6) hX e_X4_init_86 (by decide +kernel) ?_
  refine r_icmp_ge hX e_X4_init_88 (fun _ => ?_) (fun h => absurd (by decide) h)
  exact k  hZ
def k_X4 (M : Mem) (q : Nat) : Mem := (k_X4_6 (k_X4_5 (k_X4_4 (k_X4_3 (k_X4_2 (k_X4_1 (k_X4_0 M q) q) q) q) q) q) q)
theorem z_X4 {M : Mem} {q n : Nat} (h : Z0 M n) (hn : q + 39 ≤ n) : Z0 (k_X4 M q) n := by
  unfold k_X4
  exact (z_X4_6 (z_X4_5 (z_X4_4 (z_X4_3 (z_X4_2 (z_X4_1 (z_X4_0 h (by omega)) (by omega)) (by omega)) (by omega)) (by omega)) (by omega)) (by omega))
theorem n_X4 {M : Mem} {q b j : Nat} {x : Option Nat} (h : gR M b j = x) (hb : b < q) : gR (k_X4 M q) b j = x := by
  unfold k_X4
  exact (n_X4_6 (n_X4_5 (n_X4_4 (n_X4_3 (n_X4_2 (n_X4_1 (n_X4_0 h hb) hb) hb) hb) hb) hb) hb)
set_option maxHeartbeats 4000000 in
theorem i_X4 {l : Launch} {S : Shp} {q : Nat} {M : Mem} (hS : Blk S q bk_X4) (hZ : Z0 M (q + 1)) : CG l yX4_init cX4_init 2 2 32 38 178 S q (q + 39) M (k_X4 M q) := by
  refine met_g (own := RX4) (by decide +kernel) rfl rfl (by decide) (fun X hX hG hl hin hc hs hR => ?_)
  subst hl
  refine s_X4_0 hX hG hin hc hs hS hZ  (fun g0_0 g0_1 g0_2 zz0 => ?_)
  refine s_X4_1 hX hG hin hc hs hS zz0 g0_0 g0_1 g0_2 (fun g1_0 g1_1 zz1 => ?_)
  refine s_X4_2 hX hG hin hc hs hS zz1 g1_0 g1_1 (fun g2_0 g2_1 zz2 => ?_)
  refine s_X4_3 hX hG hin hc hs hS zz2 g2_0 g2_1 (fun g3_0 g3_1 zz3 => ?_)
  refine s_X4_4 hX hG hin hc hs hS zz3 g3_0 g3_1 (fun g4_0 zz4 => ?_)
  refine s_X4_5 hX hG hin hc hs hS zz4 g4_0 (fun g5_0 zz5 => ?_)
  refine s_X4_6 hX hG hin hc hs hS zz5 g5_0 (fun  zz6 => ?_)
  refine s_X4_7 hX hG hin hc hs hS zz6  (fun  zz7 => ?_)
  exact g_ret hX hG.1 hR e_X4_init_110
