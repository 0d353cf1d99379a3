def bk_X11 : List (Nat × Nat) := [(11, 54), (100, 4), (100, 4), (101, 240), (101, 60), (103, 2000), (100, 5), (100, 30), (100, 30), (100, 280), (100, 120), (100, 270), (100, 60), (102, 3), (100, 180), (100, 3), (100, 8), (100, 8), (100, 8), (100, 8), (100, 8), (102, 8), (102, 8), (100, 6), (100, 6), (100, 6), (100, 18), (102, 360), (100, 480), (100, 480), (100, 360), (100, 640), (100, 60), (102, 480), (100, 12), (100, 12)]
def k_X11_0 (M : Mem) (q : Nat) : Mem := (sR (sI (sR (sR (sR (sR (sR M q 1 (some (q + 1))) q 2 (some (q + 2))) q 3 (some (q + 3))) q 4 (some (q + 4))) q 5 (some (q + 5))) q 15 (-1)) q 16 (some (q + 6)))
theorem z_X11_0 {M : Mem} {q n : Nat} (h : Z0 M n) (hn : q + 7 ≤ n) : Z0 (k_X11_0 M q) n := by
  unfold k_X11_0
  exact (((((((h.r (show q < n by omega)).r (show q < n by omega)).r (show q < n by omega)).r (show q < n by omega)).r (show q < n by omega)).i (show q < n by omega)).r (show q < n by omega))
theorem n_X11_0 {M : Mem} {q b j : Nat} {x : Option Nat} (h : gR M b j = x) (hb : b < q) : gR (k_X11_0 M q) b j = x := by
  unfold k_X11_0
  exact (gR_sRn (gR_sIn (gR_sRn (gR_sRn (gR_sRn (gR_sRn (gR_sRn h (fun z => absurd z.1 (by omega))) (fun z => absurd z.1 (by omega))) (fun z => absurd z.1 (by omega))) (fun z => absurd z.1 (by omega))) (fun z => absurd z.1 (by omega))) (fun z => absurd z.1 (by omega))) (fun z => absurd z.1 (by omega)))
theorem fpf_11_1 : FPF 11 1 (.array .int) := ⟨_, tyX11, rfl, tyX11_ok, nmX11, rfl, by decide +kernel⟩
theorem fpf_11_2 : FPF 11 2 (.array .int) := ⟨_, tyX11, rfl, tyX11_ok, nmX11, rfl, by decide +kernel⟩
theorem fpf_11_3 : FPF 11 3 (.array .long) := ⟨_, tyX11, rfl, tyX11_ok, nmX11, rfl, by decide +kernel⟩
theorem fpf_11_4 : FPF 11 4 (.array .long) := ⟨_, tyX11, rfl, tyX11_ok, nmX11, rfl, by decide +kernel⟩
theorem fpf_11_5 : FPF 11 5 (.array .byte) := ⟨_, tyX11, rfl, tyX11_ok, nmX11, rfl, by decide +kernel⟩
theorem fpf_11_16 : FPF 11 16 (.array .int) := ⟨_, tyX11, rfl, tyX11_ok, nmX11, rfl, by decide +kernel⟩
set_option maxHeartbeats 4000000 in
theorem s_X11_0 {X : Cx} {S : Shp} {q : Nat} {M : Mem} (hX : OkX X cX11_init RX11 1 12) (hG : OkG X (q + 1) 0) (hin : X.meth.name = "<init>") (hc : X.R.cells = 35) (hs : X.R.slots = 6265) (hS : Blk S q bk_X11) (hZ : Z0 M (q + 1))  (k : gR (k_X11_0 M q) q 1 = some (q + 1) → Z0 (k_X11_0 M q) (q + 7) → GoN X (cut S (q + 7)) (q + 7) 6 2313 (k_X11_0 M q) 56 [some (.ref (X.B + q)), none] []) : GoN X (cut S (q + 1)) (q + 1) 0 0 M 0 [some (.ref (X.B + q)), none] [] := by
  refine r_aload_n (i := 0) hX e_X11_init_0 rfl rfl ?_
  refine g_obj hX e_X11_init_1 wk_1122 (by decide) (by decide) ?_
  refine r_aload_n (i := 0) hX e_X11_init_4 rfl rfl ?_
  refine r_iconst (v := 4) hX e_X11_init_5 (by decide +kernel) ?_
  have z1 := hZ
  refine h_newI (t := 0) (n' := q + 2) (kc' := 1) (ks' := 4) hX (hG.up 0) e_X11_init_6 rfl rfl rfl rfl (fun _ _ h => h) wk_206 z1 (hS 1 _ rfl) (by decide) (by decide +kernel) (Nat.le_of_ble_eq_true rfl) rfl rfl rfl (by rw [hc]; exact Nat.le_of_ble_eq_true rfl) (by rw [hs]; exact Nat.le_of_ble_eq_true rfl) ?_
  refine g_putRF (r := (q + 1)) hX (hG.up 1).fit hin e_X11_init_8 fl_11_7 fpf_11_1 (fun r h => by cases h; rfl) rfl (cut_o (hS 0 _ rfl) (by omega)) rfl rfl ?_
  have f1 := gR_sRs M q 1 (some (q + 1))
  refine r_aload_n (i := 0) hX e_X11_init_11 rfl rfl ?_
  refine r_iconst (v := 4) hX e_X11_init_12 (by decide +kernel) ?_
  have z2 := ((z1.r (k := 1) (v := some (q + 1)) (show q < q + 1 by omega)).m (show q + 1 ≤ q + 2 by omega))
  refine h_newI (t := 0) (n' := q + 3) (kc' := 2) (ks' := 8) hX (hG.up 1) e_X11_init_13 rfl rfl rfl rfl (fun _ _ h => h) wk_206 z2 (hS 2 _ rfl) (by decide) (by decide +kernel) (Nat.le_of_ble_eq_true rfl) rfl rfl rfl (by rw [hc]; exact Nat.le_of_ble_eq_true rfl) (by rw [hs]; exact Nat.le_of_ble_eq_true rfl) ?_
  refine g_putRF (r := (q + 2)) hX (hG.up 2).fit hin e_X11_init_15 fl_11_13 fpf_11_2 (fun r h => by cases h; rfl) rfl (cut_o (hS 0 _ rfl) (by omega)) rfl rfl ?_
  have f2 := gR_sRn (k := 2) (v := some (q + 2)) f1 (show ¬ (q = q ∧ 1 = 2) by omega)
  refine r_aload_n (i := 0) hX e_X11_init_18 rfl rfl ?_
  refine r_sipush (v := 240) hX e_X11_init_19 (by decide +kernel) ?_
  have z3 := ((z2.r (k := 2) (v := some (q + 2)) (show q < q + 2 by omega)).m (show q + 2 ≤ q + 3 by omega))
  refine h_newL (n' := q + 4) (kc' := 3) (ks' := 248) hX (hG.up 2) e_X11_init_22 wk_409 z3 (hS 3 _ rfl) (by decide) (by decide +kernel) (Nat.le_of_ble_eq_true rfl) rfl rfl rfl (by rw [hc]; exact Nat.le_of_ble_eq_true rfl) (by rw [hs]; exact Nat.le_of_ble_eq_true rfl) ?_
  refine g_putRF (r := (q + 3)) hX (hG.up 3).fit hin e_X11_init_24 fl_11_16 fpf_11_3 (fun r h => by cases h; rfl) rfl (cut_o (hS 0 _ rfl) (by omega)) rfl rfl ?_
  have f3 := gR_sRn (k := 3) (v := some (q + 3)) f2 (show ¬ (q = q ∧ 1 = 3) by omega)
  refine r_aload_n (i := 0) hX e_X11_init_27 rfl rfl ?_
  refine r_bipush (v := 60) hX e_X11_init_28 (by decide +kernel) ?_
  have z4 := ((z3.r (k := 3) (v := some (q + 3)) (show q < q + 3 by omega)).m (show q + 3 ≤ q + 4 by omega))
  refine h_newL (n' := q + 5) (kc' := 4) (ks' := 308) hX (hG.up 3) e_X11_init_30 wk_409 z4 (hS 4 _ rfl) (by decide) (by decide +kernel) (Nat.le_of_ble_eq_true rfl) rfl rfl rfl (by rw [hc]; exact Nat.le_of_ble_eq_true rfl) (by rw [hs]; exact Nat.le_of_ble_eq_true rfl) ?_
  refine g_putRF (r := (q + 4)) hX (hG.up 4).fit hin e_X11_init_32 fl_11_20 fpf_11_4 (fun r h => by cases h; rfl) rfl (cut_o (hS 0 _ rfl) (by omega)) rfl rfl ?_
  have f4 := gR_sRn (k := 4) (v := some (q + 4)) f3 (show ¬ (q = q ∧ 1 = 4) by omega)
  refine r_aload_n (i := 0) hX e_X11_init_35 rfl rfl ?_
  refine r_sipush (v := 2000) hX e_X11_init_36 (by decide +kernel) ?_
  have z5 := ((z4.r (k := 4) (v := some (q + 4)) (show q < q + 4 by omega)).m (show q + 4 ≤ q + 5 by omega))
  refine h_newI (t := 3) (n' := q + 6) (kc' := 5) (ks' := 2308) hX (hG.up 4) e_X11_init_39 rfl rfl rfl rfl (fun _ _ h => h) wk_66 z5 (hS 5 _ rfl) (by decide) (by decide +kernel) (Nat.le_of_ble_eq_true rfl) rfl rfl rfl (by rw [hc]; exact Nat.le_of_ble_eq_true rfl) (by rw [hs]; exact Nat.le_of_ble_eq_true rfl) ?_
  refine g_putRF (r := (q + 5)) hX (hG.up 5).fit hin e_X11_init_41 fl_11_23 fpf_11_5 (fun r h => by cases h; rfl) rfl (cut_o (hS 0 _ rfl) (by omega)) rfl rfl ?_
  have f5 := gR_sRn (k := 5) (v := some (q + 5)) f4 (show ¬ (q = q ∧ 1 = 5) by omega)
  refine r_aload_n (i := 0) hX e_X11_init_44 rfl rfl ?_
  refine r_iconst (v := -1) hX e_X11_init_45 (by decide +kernel) ?_
  refine r_putI hX (hG.up 5).fit rfl e_X11_init_46 fl_11_27 fp_11_15 rfl (cut_o (hS 0 _ rfl) (by omega)) ?_
  have f6 := gR_sIn (a := q) (k := 15) (v := -1) f5 (show ¬ (q = q ∧ 1 = 15) by omega)
  refine r_aload_n (i := 0) hX e_X11_init_49 rfl rfl ?_
  refine r_iconst (v := 5) hX e_X11_init_50 (by decide +kernel) ?_
  have z6 := (((z5.r (k := 5) (v := some (q + 5)) (show q < q + 5 by omega)).i (k := 15) (v := -1) (show q < q + 5 by omega)).m (show q + 5 ≤ q + 6 by omega))
  refine h_newI (t := 0) (n' := q + 7) (kc' := 6) (ks' := 2313) hX (hG.up 5) e_X11_init_51 rfl rfl rfl rfl (fun _ _ h => h) wk_206 z6 (hS 6 _ rfl) (by decide) (by decide +kernel) (Nat.le_of_ble_eq_true rfl) rfl rfl rfl (by rw [hc]; exact Nat.le_of_ble_eq_true rfl) (by rw [hs]; exact Nat.le_of_ble_eq_true rfl) ?_
  refine g_putRF (r := (q + 6)) hX (hG.up 6).fit hin e_X11_init_53 fl_11_31 fpf_11_16 (fun r h => by cases h; rfl) rfl (cut_o (hS 0 _ rfl) (by omega)) rfl rfl ?_
  have f7 := gR_sRn (k := 16) (v := some (q + 6)) f6 (show ¬ (q = q ∧ 1 = 16) by omega)
  exact k f7 ((z6.r (k := 16) (v := some (q + 6)) (show q < q + 6 by omega)).m (show q + 6 ≤ q + 7 by omega))
def k_X11_1 (M : Mem) (q : Nat) : Mem := (sR (sR (sR (sR (sR (sR (sR M q 17 (some (q + 7))) q 18 (some (q + 8))) q 19 (some (q + 9))) q 20 (some (q + 10))) q 21 (some (q + 11))) q 22 (some (q + 12))) q 23 (some (q + 13)))
theorem z_X11_1 {M : Mem} {q n : Nat} (h : Z0 M n) (hn : q + 14 ≤ n) : Z0 (k_X11_1 M q) n := by
  unfold k_X11_1
  exact (((((((h.r (show q < n by omega)).r (show q < n by omega)).r (show q < n by omega)).r (show q < n by omega)).r (show q < n by omega)).r (show q < n by omega)).r (show q < n by omega))
theorem n_X11_1 {M : Mem} {q b j : Nat} {x : Option Nat} (h : gR M b j = x) (hb : b < q) : gR (k_X11_1 M q) b j = x := by
  unfold k_X11_1
  exact (gR_sRn (gR_sRn (gR_sRn (gR_sRn (gR_sRn (gR_sRn (gR_sRn h (fun z => absurd z.1 (by omega))) (fun z => absurd z.1 (by omega))) (fun z => absurd z.1 (by omega))) (fun z => absurd z.1 (by omega))) (fun z => absurd z.1 (by omega))) (fun z => absurd z.1 (by omega))) (fun z => absurd z.1 (by omega)))
theorem fpf_11_17 : FPF 11 17 (.array .int) := ⟨_, tyX11, rfl, tyX11_ok, nmX11, rfl, by decide +kernel⟩
theorem fpf_11_18 : FPF 11 18 (.array .int) := ⟨_, tyX11, rfl, tyX11_ok, nmX11, rfl, by decide +kernel⟩
theorem fpf_11_19 : FPF 11 19 (.array .int) := ⟨_, tyX11, rfl, tyX11_ok, nmX11, rfl, by decide +kernel⟩
theorem fpf_11_20 : FPF 11 20 (.array .int) := ⟨_, tyX11, rfl, tyX11_ok, nmX11, rfl, by decide +kernel⟩
theorem fpf_11_21 : FPF 11 21 (.array .int) := ⟨_, tyX11, rfl, tyX11_ok, nmX11, rfl, by decide +kernel⟩
theorem fpf_11_22 : FPF 11 22 (.array .int) := ⟨_, tyX11, rfl, tyX11_ok, nmX11, rfl, by decide +kernel⟩
theorem fpf_11_23 : FPF 11 23 (.array .boolean) := ⟨_, tyX11, rfl, tyX11_ok, nmX11, rfl, by decide +kernel⟩
set_option maxHeartbeats 4000000 in
theorem s_X11_1 {X : Cx} {S : Shp} {q : Nat} {M : Mem} (hX : OkX X cX11_init RX11 1 12) (hG : OkG X (q + 1) 0) (hin : X.meth.name = "<init>") (hc : X.R.cells = 35) (hs : X.R.slots = 6265) (hS : Blk S q bk_X11) (hZ : Z0 M (q + 7)) (h0 : gR M q 1 = some (q + 1)) (k : gR (k_X11_1 M q) q 1 = some (q + 1) → Z0 (k_X11_1 M q) (q + 14) → GoN X (cut S (q + 14)) (q + 14) 13 3106 (k_X11_1 M q) 113 [some (.ref (X.B + q)), none] []) : GoN X (cut S (q + 7)) (q + 7) 6 2313 M 56 [some (.ref (X.B + q)), none] [] := by
  refine r_aload_n (i := 0) hX e_X11_init_56 rfl rfl ?_
  refine r_bipush (v := 30) hX e_X11_init_57 (by decide +kernel) ?_
  have z1 := hZ
  refine h_newI (t := 0) (n' := q + 8) (kc' := 7) (ks' := 2343) hX (hG.up 6) e_X11_init_59 rfl rfl rfl rfl (fun _ _ h => h) wk_206 z1 (hS 7 _ rfl) (by decide) (by decide +kernel) (Nat.le_of_ble_eq_true rfl) rfl rfl rfl (by rw [hc]; exact Nat.le_of_ble_eq_true rfl) (by rw [hs]; exact Nat.le_of_ble_eq_true rfl) ?_
  refine g_putRF (r := (q + 7)) hX (hG.up 7).fit hin e_X11_init_61 fl_11_34 fpf_11_17 (fun r h => by cases h; rfl) rfl (cut_o (hS 0 _ rfl) (by omega)) rfl rfl ?_
  have f1 := gR_sRn (k := 17) (v := some (q + 7)) h0 (show ¬ (q = q ∧ 1 = 17) by omega)
  refine r_aload_n (i := 0) hX e_X11_init_64 rfl rfl ?_
  refine r_bipush (v := 30) hX e_X11_init_65 (by decide +kernel) ?_
  have z2 := ((z1.r (k := 17) (v := some (q + 7)) (show q < q + 7 by omega)).m (show q + 7 ≤ q + 8 by omega))
  refine h_newI (t := 0) (n' := q + 9) (kc' := 8) (ks' := 2373) hX (hG.up 7) e_X11_init_67 rfl rfl rfl rfl (fun _ _ h => h) wk_206 z2 (hS 8 _ rfl) (by decide) (by decide +kernel) (Nat.le_of_ble_eq_true rfl) rfl rfl rfl (by rw [hc]; exact Nat.le_of_ble_eq_true rfl) (by rw [hs]; exact Nat.le_of_ble_eq_true rfl) ?_
  refine g_putRF (r := (q + 8)) hX (hG.up 8).fit hin e_X11_init_69 fl_11_37 fpf_11_18 (fun r h => by cases h; rfl) rfl (cut_o (hS 0 _ rfl) (by omega)) rfl rfl ?_
  have f2 := gR_sRn (k := 18) (v := some (q + 8)) f1 (show ¬ (q = q ∧ 1 = 18) by omega)
  refine r_aload_n (i := 0) hX e_X11_init_72 rfl rfl ?_
  refine r_sipush (v := 280) hX e_X11_init_73 (by decide +kernel) ?_
  have z3 := ((z2.r (k := 18) (v := some (q + 8)) (show q < q + 8 by omega)).m (show q + 8 ≤ q + 9 by omega))
  refine h_newI (t := 0) (n' := q + 10) (kc' := 9) (ks' := 2653) hX (hG.up 8) e_X11_init_76 rfl rfl rfl rfl (fun _ _ h => h) wk_206 z3 (hS 9 _ rfl) (by decide) (by decide +kernel) (Nat.le_of_ble_eq_true rfl) rfl rfl rfl (by rw [hc]; exact Nat.le_of_ble_eq_true rfl) (by rw [hs]; exact Nat.le_of_ble_eq_true rfl) ?_
  refine g_putRF (r := (q + 9)) hX (hG.up 9).fit hin e_X11_init_78 fl_11_40 fpf_11_19 (fun r h => by cases h; rfl) rfl (cut_o (hS 0 _ rfl) (by omega)) rfl rfl ?_
  have f3 := gR_sRn (k := 19) (v := some (q + 9)) f2 (show ¬ (q = q ∧ 1 = 19) by omega)
  refine r_aload_n (i := 0) hX e_X11_init_81 rfl rfl ?_
  refine r_bipush (v := 120) hX e_X11_init_82 (by decide +kernel) ?_
  have z4 := ((z3.r (k := 19) (v := some (q + 9)) (show q < q + 9 by omega)).m (show q + 9 ≤ q + 10 by omega))
  refine h_newI (t := 0) (n' := q + 11) (kc' := 10) (ks' := 2773) hX (hG.up 9) e_X11_init_84 rfl rfl rfl rfl (fun _ _ h => h) wk_206 z4 (hS 10 _ rfl) (by decide) (by decide +kernel) (Nat.le_of_ble_eq_true rfl) rfl rfl rfl (by rw [hc]; exact Nat.le_of_ble_eq_true rfl) (by rw [hs]; exact Nat.le_of_ble_eq_true rfl) ?_
  refine g_putRF (r := (q + 10)) hX (hG.up 10).fit hin e_X11_init_86 fl_11_43 fpf_11_20 (fun r h => by cases h; rfl) rfl (cut_o (hS 0 _ rfl) (by omega)) rfl rfl ?_
  have f4 := gR_sRn (k := 20) (v := some (q + 10)) f3 (show ¬ (q = q ∧ 1 = 20) by omega)
  refine r_aload_n (i := 0) hX e_X11_init_89 rfl rfl ?_
  refine r_sipush (v := 270) hX e_X11_init_90 (by decide +kernel) ?_
  have z5 := ((z4.r (k := 20) (v := some (q + 10)) (show q < q + 10 by omega)).m (show q + 10 ≤ q + 11 by omega))
  refine h_newI (t := 0) (n' := q + 12) (kc' := 11) (ks' := 3043) hX (hG.up 10) e_X11_init_93 rfl rfl rfl rfl (fun _ _ h => h) wk_206 z5 (hS 11 _ rfl) (by decide) (by decide +kernel) (Nat.le_of_ble_eq_true rfl) rfl rfl rfl (by rw [hc]; exact Nat.le_of_ble_eq_true rfl) (by rw [hs]; exact Nat.le_of_ble_eq_true rfl) ?_
  refine g_putRF (r := (q + 11)) hX (hG.up 11).fit hin e_X11_init_95 fl_11_46 fpf_11_21 (fun r h => by cases h; rfl) rfl (cut_o (hS 0 _ rfl) (by omega)) rfl rfl ?_
  have f5 := gR_sRn (k := 21) (v := some (q + 11)) f4 (show ¬ (q = q ∧ 1 = 21) by omega)
  refine r_aload_n (i := 0) hX e_X11_init_98 rfl rfl ?_
  refine r_bipush (v := 60) hX e_X11_init_99 (by decide +kernel) ?_
  have z6 := ((z5.r (k := 21) (v := some (q + 11)) (show q < q + 11 by omega)).m (show q + 11 ≤ q + 12 by omega))
  refine h_newI (t := 0) (n' := q + 13) (kc' := 12) (ks' := 3103) hX (hG.up 11) e_X11_init_101 rfl rfl rfl rfl (fun _ _ h => h) wk_206 z6 (hS 12 _ rfl) (by decide) (by decide +kernel) (Nat.le_of_ble_eq_true rfl) rfl rfl rfl (by rw [hc]; exact Nat.le_of_ble_eq_true rfl) (by rw [hs]; exact Nat.le_of_ble_eq_true rfl) ?_
  refine g_putRF (r := (q + 12)) hX (hG.up 12).fit hin e_X11_init_103 fl_11_49 fpf_11_22 (fun r h => by cases h; rfl) rfl (cut_o (hS 0 _ rfl) (by omega)) rfl rfl ?_
  have f6 := gR_sRn (k := 22) (v := some (q + 12)) f5 (show ¬ (q = q ∧ 1 = 22) by omega)
  refine r_aload_n (i := 0) hX e_X11_init_106 rfl rfl ?_
  refine r_iconst (v := 3) hX e_X11_init_107 (by decide +kernel) ?_
  have z7 := ((z6.r (k := 22) (v := some (q + 12)) (show q < q + 12 by omega)).m (show q + 12 ≤ q + 13 by omega))
  refine h_newI (t := 2) (n' := q + 14) (kc' := 13) (ks' := 3106) hX (hG.up 12) e_X11_init_108 rfl rfl rfl rfl (fun _ _ h => h) wk_299 z7 (hS 13 _ rfl) (by decide) (by decide +kernel) (Nat.le_of_ble_eq_true rfl) rfl rfl rfl (by rw [hc]; exact Nat.le_of_ble_eq_true rfl) (by rw [hs]; exact Nat.le_of_ble_eq_true rfl) ?_
  refine g_putRF (r := (q + 13)) hX (hG.up 13).fit hin e_X11_init_110 fl_11_52 fpf_11_23 (fun r h => by cases h; rfl) rfl (cut_o (hS 0 _ rfl) (by omega)) rfl rfl ?_
  have f7 := gR_sRn (k := 23) (v := some (q + 13)) f6 (show ¬ (q = q ∧ 1 = 23) by omega)
  exact k f7 ((z7.r (k := 23) (v := some (q + 13)) (show q < q + 13 by omega)).m (show q + 13 ≤ q + 14 by omega))
def k_X11_2 (M : Mem) (q : Nat) : Mem := (sR (sR (sR (sR (sR (sR (sR M q 24 (some (q + 14))) q 29 (some (q + 15))) q 30 (some (q + 16))) q 31 (some (q + 17))) q 32 (some (q + 18))) q 33 (some (q + 19))) q 34 (some (q + 20)))
theorem z_X11_2 {M : Mem} {q n : Nat} (h : Z0 M n) (hn : q + 21 ≤ n) : Z0 (k_X11_2 M q) n := by
  unfold k_X11_2
  exact (((((((h.r (show q < n by omega)).r (show q < n by omega)).r (show q < n by omega)).r (show q < n by omega)).r (show q < n by omega)).r (show q < n by omega)).r (show q < n by omega))
theorem n_X11_2 {M : Mem} {q b j : Nat} {x : Option Nat} (h : gR M b j = x) (hb : b < q) : gR (k_X11_2 M q) b j = x := by
  unfold k_X11_2
  exact (gR_sRn (gR_sRn (gR_sRn (gR_sRn (gR_sRn (gR_sRn (gR_sRn h (fun z => absurd z.1 (by omega))) (fun z => absurd z.1 (by omega))) (fun z => absurd z.1 (by omega))) (fun z => absurd z.1 (by omega))) (fun z => absurd z.1 (by omega))) (fun z => absurd z.1 (by omega))) (fun z => absurd z.1 (by omega)))
theorem fpf_11_24 : FPF 11 24 (.array .int) := ⟨_, tyX11, rfl, tyX11_ok, nmX11, rfl, by decide +kernel⟩
theorem fpf_11_29 : FPF 11 29 (.array .int) := ⟨_, tyX11, rfl, tyX11_ok, nmX11, rfl, by decide +kernel⟩
theorem fpf_11_30 : FPF 11 30 (.array .int) := ⟨_, tyX11, rfl, tyX11_ok, nmX11, rfl, by decide +kernel⟩
theorem fpf_11_31 : FPF 11 31 (.array .int) := ⟨_, tyX11, rfl, tyX11_ok, nmX11, rfl, by decide +kernel⟩
theorem fpf_11_32 : FPF 11 32 (.array .int) := ⟨_, tyX11, rfl, tyX11_ok, nmX11, rfl, by decide +kernel⟩
theorem fpf_11_33 : FPF 11 33 (.array .int) := ⟨_, tyX11, rfl, tyX11_ok, nmX11, rfl, by decide +kernel⟩
theorem fpf_11_34 : FPF 11 34 (.array .int) := ⟨_, tyX11, rfl, tyX11_ok, nmX11, rfl, by decide +kernel⟩
set_option maxHeartbeats 4000000 in
theorem s_X11_2 {X : Cx} {S : Shp} {q : Nat} {M : Mem} (hX : OkX X cX11_init RX11 1 12) (hG : OkG X (q + 1) 0) (hin : X.meth.name = "<init>") (hc : X.R.cells = 35) (hs : X.R.slots = 6265) (hS : Blk S q bk_X11) (hZ : Z0 M (q + 14)) (h0 : gR M q 1 = some (q + 1)) (k : gR (k_X11_2 M q) q 1 = some (q + 1) → Z0 (k_X11_2 M q) (q + 21) → GoN X (cut S (q + 21)) (q + 21) 20 3329 (k_X11_2 M q) 169 [some (.ref (X.B + q)), none] []) : GoN X (cut S (q + 14)) (q + 14) 13 3106 M 113 [some (.ref (X.B + q)), none] [] := by
  refine r_aload_n (i := 0) hX e_X11_init_113 rfl rfl ?_
  refine r_sipush (v := 180) hX e_X11_init_114 (by decide +kernel) ?_
  have z1 := hZ
  refine h_newI (t := 0) (n' := q + 15) (kc' := 14) (ks' := 3286) hX (hG.up 13) e_X11_init_117 rfl rfl rfl rfl (fun _ _ h => h) wk_206 z1 (hS 14 _ rfl) (by decide) (by decide +kernel) (Nat.le_of_ble_eq_true rfl) rfl rfl rfl (by rw [hc]; exact Nat.le_of_ble_eq_true rfl) (by rw [hs]; exact Nat.le_of_ble_eq_true rfl) ?_
  refine g_putRF (r := (q + 14)) hX (hG.up 14).fit hin e_X11_init_119 fl_11_56 fpf_11_24 (fun r h => by cases h; rfl) rfl (cut_o (hS 0 _ rfl) (by omega)) rfl rfl ?_
  have f1 := gR_sRn (k := 24) (v := some (q + 14)) h0 (show ¬ (q = q ∧ 1 = 24) by omega)
  refine r_aload_n (i := 0) hX e_X11_init_122 rfl rfl ?_
  refine r_iconst (v := 3) hX e_X11_init_123 (by decide +kernel) ?_
  have z2 := ((z1.r (k := 24) (v := some (q + 14)) (show q < q + 14 by omega)).m (show q + 14 ≤ q + 15 by omega))
  refine h_newI (t := 0) (n' := q + 16) (kc' := 15) (ks' := 3289) hX (hG.up 14) e_X11_init_124 rfl rfl rfl rfl (fun _ _ h => h) wk_206 z2 (hS 15 _ rfl) (by decide) (by decide +kernel) (Nat.le_of_ble_eq_true rfl) rfl rfl rfl (by rw [hc]; exact Nat.le_of_ble_eq_true rfl) (by rw [hs]; exact Nat.le_of_ble_eq_true rfl) ?_
  refine g_putRF (r := (q + 15)) hX (hG.up 15).fit hin e_X11_init_126 fl_11_59 fpf_11_29 (fun r h => by cases h; rfl) rfl (cut_o (hS 0 _ rfl) (by omega)) rfl rfl ?_
  have f2 := gR_sRn (k := 29) (v := some (q + 15)) f1 (show ¬ (q = q ∧ 1 = 29) by omega)
  refine r_aload_n (i := 0) hX e_X11_init_129 rfl rfl ?_
  refine r_bipush (v := 8) hX e_X11_init_130 (by decide +kernel) ?_
  have z3 := ((z2.r (k := 29) (v := some (q + 15)) (show q < q + 15 by omega)).m (show q + 15 ≤ q + 16 by omega))
  refine h_newI (t := 0) (n' := q + 17) (kc' := 16) (ks' := 3297) hX (hG.up 15) e_X11_init_132 rfl rfl rfl rfl (fun _ _ h => h) wk_206 z3 (hS 16 _ rfl) (by decide) (by decide +kernel) (Nat.le_of_ble_eq_true rfl) rfl rfl rfl (by rw [hc]; exact Nat.le_of_ble_eq_true rfl) (by rw [hs]; exact Nat.le_of_ble_eq_true rfl) ?_
  refine g_putRF (r := (q + 16)) hX (hG.up 16).fit hin e_X11_init_134 fl_11_62 fpf_11_30 (fun r h => by cases h; rfl) rfl (cut_o (hS 0 _ rfl) (by omega)) rfl rfl ?_
  have f3 := gR_sRn (k := 30) (v := some (q + 16)) f2 (show ¬ (q = q ∧ 1 = 30) by omega)
  refine r_aload_n (i := 0) hX e_X11_init_137 rfl rfl ?_
  refine r_bipush (v := 8) hX e_X11_init_138 (by decide +kernel) ?_
  have z4 := ((z3.r (k := 30) (v := some (q + 16)) (show q < q + 16 by omega)).m (show q + 16 ≤ q + 17 by omega))
  refine h_newI (t := 0) (n' := q + 18) (kc' := 17) (ks' := 3305) hX (hG.up 16) e_X11_init_140 rfl rfl rfl rfl (fun _ _ h => h) wk_206 z4 (hS 17 _ rfl) (by decide) (by decide +kernel) (Nat.le_of_ble_eq_true rfl) rfl rfl rfl (by rw [hc]; exact Nat.le_of_ble_eq_true rfl) (by rw [hs]; exact Nat.le_of_ble_eq_true rfl) ?_
  refine g_putRF (r := (q + 17)) hX (hG.up 17).fit hin e_X11_init_142 fl_11_65 fpf_11_31 (fun r h => by cases h; rfl) rfl (cut_o (hS 0 _ rfl) (by omega)) rfl rfl ?_
  have f4 := gR_sRn (k := 31) (v := some (q + 17)) f3 (show ¬ (q = q ∧ 1 = 31) by omega)
  refine r_aload_n (i := 0) hX e_X11_init_145 rfl rfl ?_
  refine r_bipush (v := 8) hX e_X11_init_146 (by decide +kernel) ?_
  have z5 := ((z4.r (k := 31) (v := some (q + 17)) (show q < q + 17 by omega)).m (show q + 17 ≤ q + 18 by omega))
  refine h_newI (t := 0) (n' := q + 19) (kc' := 18) (ks' := 3313) hX (hG.up 17) e_X11_init_148 rfl rfl rfl rfl (fun _ _ h => h) wk_206 z5 (hS 18 _ rfl) (by decide) (by decide +kernel) (Nat.le_of_ble_eq_true rfl) rfl rfl rfl (by rw [hc]; exact Nat.le_of_ble_eq_true rfl) (by rw [hs]; exact Nat.le_of_ble_eq_true rfl) ?_
  refine g_putRF (r := (q + 18)) hX (hG.up 18).fit hin e_X11_init_150 fl_11_68 fpf_11_32 (fun r h => by cases h; rfl) rfl (cut_o (hS 0 _ rfl) (by omega)) rfl rfl ?_
  have f5 := gR_sRn (k := 32) (v := some (q + 18)) f4 (show ¬ (q = q ∧ 1 = 32) by omega)
  refine r_aload_n (i := 0) hX e_X11_init_153 rfl rfl ?_
  refine r_bipush (v := 8) hX e_X11_init_154 (by decide +kernel) ?_
  have z6 := ((z5.r (k := 32) (v := some (q + 18)) (show q < q + 18 by omega)).m (show q + 18 ≤ q + 19 by omega))
  refine h_newI (t := 0) (n' := q + 20) (kc' := 19) (ks' := 3321) hX (hG.up 18) e_X11_init_156 rfl rfl rfl rfl (fun _ _ h => h) wk_206 z6 (hS 19 _ rfl) (by decide) (by decide +kernel) (Nat.le_of_ble_eq_true rfl) rfl rfl rfl (by rw [hc]; exact Nat.le_of_ble_eq_true rfl) (by rw [hs]; exact Nat.le_of_ble_eq_true rfl) ?_
  refine g_putRF (r := (q + 19)) hX (hG.up 19).fit hin e_X11_init_158 fl_11_71 fpf_11_33 (fun r h => by cases h; rfl) rfl (cut_o (hS 0 _ rfl) (by omega)) rfl rfl ?_
  have f6 := gR_sRn (k := 33) (v := some (q + 19)) f5 (show ¬ (q = q ∧ 1 = 33) by omega)
  refine r_aload_n (i := 0) hX e_X11_init_161 rfl rfl ?_
  refine r_bipush (v := 8) hX e_X11_init_162 (by decide +kernel) ?_
  have z7 := ((z6.r (k := 33) (v := some (q + 19)) (show q < q + 19 by omega)).m (show q + 19 ≤ q + 20 by omega))
  refine h_newI (t := 0) (n' := q + 21) (kc' := 20) (ks' := 3329) hX (hG.up 19) e_X11_init_164 rfl rfl rfl rfl (fun _ _ h => h) wk_206 z7 (hS 20 _ rfl) (by decide) (by decide +kernel) (Nat.le_of_ble_eq_true rfl) rfl rfl rfl (by rw [hc]; exact Nat.le_of_ble_eq_true rfl) (by rw [hs]; exact Nat.le_of_ble_eq_true rfl) ?_
  refine g_putRF (r := (q + 20)) hX (hG.up 20).fit hin e_X11_init_166 fl_11_74 fpf_11_34 (fun r h => by cases h; rfl) rfl (cut_o (hS 0 _ rfl) (by omega)) rfl rfl ?_
  have f7 := gR_sRn (k := 34) (v := some (q + 20)) f6 (show ¬ (q = q ∧ 1 = 34) by omega)
  exact k f7 ((z7.r (k := 34) (v := some (q + 20)) (show q < q + 20 by omega)).m (show q + 20 ≤ q + 21 by omega))
def k_X11_3 (M : Mem) (q : Nat) : Mem := (sR (sR (sR (sR (sR (sR (sR M q 35 (some (q + 21))) q 36 (some (q + 22))) q 37 (some (q + 23))) q 38 (some (q + 24))) q 39 (some (q + 25))) q 40 (some (q + 26))) q 41 (some (q + 27)))
theorem z_X11_3 {M : Mem} {q n : Nat} (h : Z0 M n) (hn : q + 28 ≤ n) : Z0 (k_X11_3 M q) n := by
  unfold k_X11_3
  exact (((((((h.r (show q < n by omega)).r (show q < n by omega)).r (show q < n by omega)).r (show q < n by omega)).r (show q < n by omega)).r (show q < n by omega)).r (show q < n by omega))
theorem n_X11_3 {M : Mem} {q b j : Nat} {x : Option Nat} (h : gR M b j = x) (hb : b < q) : gR (k_X11_3 M q) b j = x := by
  unfold k_X11_3
  exact (gR_sRn (gR_sRn (gR_sRn (gR_sRn (gR_sRn (gR_sRn (gR_sRn h (fun z => absurd z.1 (by omega))) (fun z => absurd z.1 (by omega))) (fun z => absurd z.1 (by omega))) (fun z => absurd z.1 (by omega))) (fun z => absurd z.1 (by omega))) (fun z => absurd z.1 (by omega))) (fun z => absurd z.1 (by omega)))
theorem fpf_11_35 : FPF 11 35 (.array .boolean) := ⟨_, tyX11, rfl, tyX11_ok, nmX11, rfl, by decide +kernel⟩
theorem fpf_11_36 : FPF 11 36 (.array .boolean) := ⟨_, tyX11, rfl, tyX11_ok, nmX11, rfl, by decide +kernel⟩
theorem fpf_11_37 : FPF 11 37 (.array .int) := ⟨_, tyX11, rfl, tyX11_ok, nmX11, rfl, by decide +kernel⟩
theorem fpf_11_38 : FPF 11 38 (.array .int) := ⟨_, tyX11, rfl, tyX11_ok, nmX11, rfl, by decide +kernel⟩
theorem fpf_11_39 : FPF 11 39 (.array .int) := ⟨_, tyX11, rfl, tyX11_ok, nmX11, rfl, by decide +kernel⟩
theorem fpf_11_40 : FPF 11 40 (.array .int) := ⟨_, tyX11, rfl, tyX11_ok, nmX11, rfl, by decide +kernel⟩
theorem fpf_11_41 : FPF 11 41 (.array .boolean) := ⟨_, tyX11, rfl, tyX11_ok, nmX11, rfl, by decide +kernel⟩
set_option maxHeartbeats 4000000 in
theorem s_X11_3 {X : Cx} {S : Shp} {q : Nat} {M : Mem} (hX : OkX X cX11_init RX11 1 12) (hG : OkG X (q + 1) 0) (hin : X.meth.name = "<init>") (hc : X.R.cells = 35) (hs : X.R.slots = 6265) (hS : Blk S q bk_X11) (hZ : Z0 M (q + 21)) (h0 : gR M q 1 = some (q + 1)) (k : gR (k_X11_3 M q) q 1 = some (q + 1) → Z0 (k_X11_3 M q) (q + 28) → GoN X (cut S (q + 28)) (q + 28) 27 3741 (k_X11_3 M q) 226 [some (.ref (X.B + q)), none] []) : GoN X (cut S (q + 21)) (q + 21) 20 3329 M 169 [some (.ref (X.B + q)), none] [] := by
  refine r_aload_n (i := 0) hX e_X11_init_169 rfl rfl ?_
  refine r_bipush (v := 8) hX e_X11_init_170 (by decide +kernel) ?_
  have z1 := hZ
  refine h_newI (t := 2) (n' := q + 22) (kc' := 21) (ks' := 3337) hX (hG.up 20) e_X11_init_172 rfl rfl rfl rfl (fun _ _ h => h) wk_299 z1 (hS 21 _ rfl) (by decide) (by decide +kernel) (Nat.le_of_ble_eq_true rfl) rfl rfl rfl (by rw [hc]; exact Nat.le_of_ble_eq_true rfl) (by rw [hs]; exact Nat.le_of_ble_eq_true rfl) ?_
  refine g_putRF (r := (q + 21)) hX (hG.up 21).fit hin e_X11_init_174 fl_11_77 fpf_11_35 (fun r h => by cases h; rfl) rfl (cut_o (hS 0 _ rfl) (by omega)) rfl rfl ?_
  have f1 := gR_sRn (k := 35) (v := some (q + 21)) h0 (show ¬ (q = q ∧ 1 = 35) by omega)
  refine r_aload_n (i := 0) hX e_X11_init_177 rfl rfl ?_
  refine r_bipush (v := 8) hX e_X11_init_178 (by decide +kernel) ?_
  have z2 := ((z1.r (k := 35) (v := some (q + 21)) (show q < q + 21 by omega)).m (show q + 21 ≤ q + 22 by omega))
  refine h_newI (t := 2) (n' := q + 23) (kc' := 22) (ks' := 3345) hX (hG.up 21) e_X11_init_180 rfl rfl rfl rfl (fun _ _ h => h) wk_299 z2 (hS 22 _ rfl) (by decide) (by decide +kernel) (Nat.le_of_ble_eq_true rfl) rfl rfl rfl (by rw [hc]; exact Nat.le_of_ble_eq_true rfl) (by rw [hs]; exact Nat.le_of_ble_eq_true rfl) ?_
  refine g_putRF (r := (q + 22)) hX (hG.up 22).fit hin e_X11_init_182 fl_11_80 fpf_11_36 (fun r h => by cases h; rfl) rfl (cut_o (hS 0 _ rfl) (by omega)) rfl rfl ?_
  have f2 := gR_sRn (k := 36) (v := some (q + 22)) f1 (show ¬ (q = q ∧ 1 = 36) by omega)
  refine r_aload_n (i := 0) hX e_X11_init_185 rfl rfl ?_
  refine r_bipush (v := 6) hX e_X11_init_186 (by decide +kernel) ?_
  have z3 := ((z2.r (k := 36) (v := some (q + 22)) (show q < q + 22 by omega)).m (show q + 22 ≤ q + 23 by omega))
  refine h_newI (t := 0) (n' := q + 24) (kc' := 23) (ks' := 3351) hX (hG.up 22) e_X11_init_188 rfl rfl rfl rfl (fun _ _ h => h) wk_206 z3 (hS 23 _ rfl) (by decide) (by decide +kernel) (Nat.le_of_ble_eq_true rfl) rfl rfl rfl (by rw [hc]; exact Nat.le_of_ble_eq_true rfl) (by rw [hs]; exact Nat.le_of_ble_eq_true rfl) ?_
  refine g_putRF (r := (q + 23)) hX (hG.up 23).fit hin e_X11_init_190 fl_11_83 fpf_11_37 (fun r h => by cases h; rfl) rfl (cut_o (hS 0 _ rfl) (by omega)) rfl rfl ?_
  have f3 := gR_sRn (k := 37) (v := some (q + 23)) f2 (show ¬ (q = q ∧ 1 = 37) by omega)
  refine r_aload_n (i := 0) hX e_X11_init_193 rfl rfl ?_
  refine r_bipush (v := 6) hX e_X11_init_194 (by decide +kernel) ?_
  have z4 := ((z3.r (k := 37) (v := some (q + 23)) (show q < q + 23 by omega)).m (show q + 23 ≤ q + 24 by omega))
  refine h_newI (t := 0) (n' := q + 25) (kc' := 24) (ks' := 3357) hX (hG.up 23) e_X11_init_196 rfl rfl rfl rfl (fun _ _ h => h) wk_206 z4 (hS 24 _ rfl) (by decide) (by decide +kernel) (Nat.le_of_ble_eq_true rfl) rfl rfl rfl (by rw [hc]; exact Nat.le_of_ble_eq_true rfl) (by rw [hs]; exact Nat.le_of_ble_eq_true rfl) ?_
  refine g_putRF (r := (q + 24)) hX (hG.up 24).fit hin e_X11_init_198 fl_11_86 fpf_11_38 (fun r h => by cases h; rfl) rfl (cut_o (hS 0 _ rfl) (by omega)) rfl rfl ?_
  have f4 := gR_sRn (k := 38) (v := some (q + 24)) f3 (show ¬ (q = q ∧ 1 = 38) by omega)
  refine r_aload_n (i := 0) hX e_X11_init_201 rfl rfl ?_
  refine r_bipush (v := 6) hX e_X11_init_202 (by decide +kernel) ?_
  have z5 := ((z4.r (k := 38) (v := some (q + 24)) (show q < q + 24 by omega)).m (show q + 24 ≤ q + 25 by omega))
  refine h_newI (t := 0) (n' := q + 26) (kc' := 25) (ks' := 3363) hX (hG.up 24) e_X11_init_204 rfl rfl rfl rfl (fun _ _ h => h) wk_206 z5 (hS 25 _ rfl) (by decide) (by decide +kernel) (Nat.le_of_ble_eq_true rfl) rfl rfl rfl (by rw [hc]; exact Nat.le_of_ble_eq_true rfl) (by rw [hs]; exact Nat.le_of_ble_eq_true rfl) ?_
  refine g_putRF (r := (q + 25)) hX (hG.up 25).fit hin e_X11_init_206 fl_11_89 fpf_11_39 (fun r h => by cases h; rfl) rfl (cut_o (hS 0 _ rfl) (by omega)) rfl rfl ?_
  have f5 := gR_sRn (k := 39) (v := some (q + 25)) f4 (show ¬ (q = q ∧ 1 = 39) by omega)
  refine r_aload_n (i := 0) hX e_X11_init_209 rfl rfl ?_
  refine r_bipush (v := 18) hX e_X11_init_210 (by decide +kernel) ?_
  have z6 := ((z5.r (k := 39) (v := some (q + 25)) (show q < q + 25 by omega)).m (show q + 25 ≤ q + 26 by omega))
  refine h_newI (t := 0) (n' := q + 27) (kc' := 26) (ks' := 3381) hX (hG.up 25) e_X11_init_212 rfl rfl rfl rfl (fun _ _ h => h) wk_206 z6 (hS 26 _ rfl) (by decide) (by decide +kernel) (Nat.le_of_ble_eq_true rfl) rfl rfl rfl (by rw [hc]; exact Nat.le_of_ble_eq_true rfl) (by rw [hs]; exact Nat.le_of_ble_eq_true rfl) ?_
  refine g_putRF (r := (q + 26)) hX (hG.up 26).fit hin e_X11_init_214 fl_11_92 fpf_11_40 (fun r h => by cases h; rfl) rfl (cut_o (hS 0 _ rfl) (by omega)) rfl rfl ?_
  have f6 := gR_sRn (k := 40) (v := some (q + 26)) f5 (show ¬ (q = q ∧ 1 = 40) by omega)
  refine r_aload_n (i := 0) hX e_X11_init_217 rfl rfl ?_
  refine r_sipush (v := 360) hX e_X11_init_218 (by decide +kernel) ?_
  have z7 := ((z6.r (k := 40) (v := some (q + 26)) (show q < q + 26 by omega)).m (show q + 26 ≤ q + 27 by omega))
  refine h_newI (t := 2) (n' := q + 28) (kc' := 27) (ks' := 3741) hX (hG.up 26) e_X11_init_221 rfl rfl rfl rfl (fun _ _ h => h) wk_299 z7 (hS 27 _ rfl) (by decide) (by decide +kernel) (Nat.le_of_ble_eq_true rfl) rfl rfl rfl (by rw [hc]; exact Nat.le_of_ble_eq_true rfl) (by rw [hs]; exact Nat.le_of_ble_eq_true rfl) ?_
  refine g_putRF (r := (q + 27)) hX (hG.up 27).fit hin e_X11_init_223 fl_11_95 fpf_11_41 (fun r h => by cases h; rfl) rfl (cut_o (hS 0 _ rfl) (by omega)) rfl rfl ?_
  have f7 := gR_sRn (k := 41) (v := some (q + 27)) f6 (show ¬ (q = q ∧ 1 = 41) by omega)
  exact k f7 ((z7.r (k := 41) (v := some (q + 27)) (show q < q + 27 by omega)).m (show q + 27 ≤ q + 28 by omega))
def k_X11_4 (M : Mem) (q : Nat) : Mem := (sR (sR (sR (sR (sR (sR (sR M q 42 (some (q + 28))) q 43 (some (q + 29))) q 44 (some (q + 30))) q 45 (some (q + 31))) q 50 (some (q + 32))) q 51 (some (q + 33))) q 52 (some (q + 34)))
theorem z_X11_4 {M : Mem} {q n : Nat} (h : Z0 M n) (hn : q + 35 ≤ n) : Z0 (k_X11_4 M q) n := by
  unfold k_X11_4
  exact (((((((h.r (show q < n by omega)).r (show q < n by omega)).r (show q < n by omega)).r (show q < n by omega)).r (show q < n by omega)).r (show q < n by omega)).r (show q < n by omega))
theorem n_X11_4 {M : Mem} {q b j : Nat} {x : Option Nat} (h : gR M b j = x) (hb : b < q) : gR (k_X11_4 M q) b j = x := by
  unfold k_X11_4
  exact (gR_sRn (gR_sRn (gR_sRn (gR_sRn (gR_sRn (gR_sRn (gR_sRn h (fun z => absurd z.1 (by omega))) (fun z => absurd z.1 (by omega))) (fun z => absurd z.1 (by omega))) (fun z => absurd z.1 (by omega))) (fun z => absurd z.1 (by omega))) (fun z => absurd z.1 (by omega))) (fun z => absurd z.1 (by omega)))
theorem fpf_11_42 : FPF 11 42 (.array .int) := ⟨_, tyX11, rfl, tyX11_ok, nmX11, rfl, by decide +kernel⟩
theorem fpf_11_43 : FPF 11 43 (.array .int) := ⟨_, tyX11, rfl, tyX11_ok, nmX11, rfl, by decide +kernel⟩
theorem fpf_11_44 : FPF 11 44 (.array .int) := ⟨_, tyX11, rfl, tyX11_ok, nmX11, rfl, by decide +kernel⟩
theorem fpf_11_45 : FPF 11 45 (.array .int) := ⟨_, tyX11, rfl, tyX11_ok, nmX11, rfl, by decide +kernel⟩
theorem fpf_11_50 : FPF 11 50 (.array .int) := ⟨_, tyX11, rfl, tyX11_ok, nmX11, rfl, by decide +kernel⟩
theorem fpf_11_51 : FPF 11 51 (.array .boolean) := ⟨_, tyX11, rfl, tyX11_ok, nmX11, rfl, by decide +kernel⟩
theorem fpf_11_52 : FPF 11 52 (.array .int) := ⟨_, tyX11, rfl, tyX11_ok, nmX11, rfl, by decide +kernel⟩
set_option maxHeartbeats 4000000 in
theorem s_X11_4 {X : Cx} {S : Shp} {q : Nat} {M : Mem} (hX : OkX X cX11_init RX11 1 12) (hG : OkG X (q + 1) 0) (hin : X.meth.name = "<init>") (hc : X.R.cells = 35) (hs : X.R.slots = 6265) (hS : Blk S q bk_X11) (hZ : Z0 M (q + 28)) (h0 : gR M q 1 = some (q + 1)) (k : gR (k_X11_4 M q) q 1 = some (q + 1) → Z0 (k_X11_4 M q) (q + 35) → GoN X (cut S (q + 35)) (q + 35) 34 6253 (k_X11_4 M q) 287 [some (.ref (X.B + q)), none] []) : GoN X (cut S (q + 28)) (q + 28) 27 3741 M 226 [some (.ref (X.B + q)), none] [] := by
  refine r_aload_n (i := 0) hX e_X11_init_226 rfl rfl ?_
  refine r_sipush (v := 480) hX e_X11_init_227 (by decide +kernel) ?_
  have z1 := hZ
  refine h_newI (t := 0) (n' := q + 29) (kc' := 28) (ks' := 4221) hX (hG.up 27) e_X11_init_230 rfl rfl rfl rfl (fun _ _ h => h) wk_206 z1 (hS 28 _ rfl) (by decide) (by decide +kernel) (Nat.le_of_ble_eq_true rfl) rfl rfl rfl (by rw [hc]; exact Nat.le_of_ble_eq_true rfl) (by rw [hs]; exact Nat.le_of_ble_eq_true rfl) ?_
  refine g_putRF (r := (q + 28)) hX (hG.up 28).fit hin e_X11_init_232 fl_11_98 fpf_11_42 (fun r h => by cases h; rfl) rfl (cut_o (hS 0 _ rfl) (by omega)) rfl rfl ?_
  have f1 := gR_sRn (k := 42) (v := some (q + 28)) h0 (show ¬ (q = q ∧ 1 = 42) by omega)
  refine r_aload_n (i := 0) hX e_X11_init_235 rfl rfl ?_
  refine r_sipush (v := 480) hX e_X11_init_236 (by decide +kernel) ?_
  have z2 := ((z1.r (k := 42) (v := some (q + 28)) (show q < q + 28 by omega)).m (show q + 28 ≤ q + 29 by omega))
  refine h_newI (t := 0) (n' := q + 30) (kc' := 29) (ks' := 4701) hX (hG.up 28) e_X11_init_239 rfl rfl rfl rfl (fun _ _ h => h) wk_206 z2 (hS 29 _ rfl) (by decide) (by decide +kernel) (Nat.le_of_ble_eq_true rfl) rfl rfl rfl (by rw [hc]; exact Nat.le_of_ble_eq_true rfl) (by rw [hs]; exact Nat.le_of_ble_eq_true rfl) ?_
  refine g_putRF (r := (q + 29)) hX (hG.up 29).fit hin e_X11_init_241 fl_11_101 fpf_11_43 (fun r h => by cases h; rfl) rfl (cut_o (hS 0 _ rfl) (by omega)) rfl rfl ?_
  have f2 := gR_sRn (k := 43) (v := some (q + 29)) f1 (show ¬ (q = q ∧ 1 = 43) by omega)
  refine r_aload_n (i := 0) hX e_X11_init_244 rfl rfl ?_
  refine r_sipush (v := 360) hX e_X11_init_245 (by decide +kernel) ?_
  have z3 := ((z2.r (k := 43) (v := some (q + 29)) (show q < q + 29 by omega)).m (show q + 29 ≤ q + 30 by omega))
  refine h_newI (t := 0) (n' := q + 31) (kc' := 30) (ks' := 5061) hX (hG.up 29) e_X11_init_248 rfl rfl rfl rfl (fun _ _ h => h) wk_206 z3 (hS 30 _ rfl) (by decide) (by decide +kernel) (Nat.le_of_ble_eq_true rfl) rfl rfl rfl (by rw [hc]; exact Nat.le_of_ble_eq_true rfl) (by rw [hs]; exact Nat.le_of_ble_eq_true rfl) ?_
  refine g_putRF (r := (q + 30)) hX (hG.up 30).fit hin e_X11_init_250 fl_11_104 fpf_11_44 (fun r h => by cases h; rfl) rfl (cut_o (hS 0 _ rfl) (by omega)) rfl rfl ?_
  have f3 := gR_sRn (k := 44) (v := some (q + 30)) f2 (show ¬ (q = q ∧ 1 = 44) by omega)
  refine r_aload_n (i := 0) hX e_X11_init_253 rfl rfl ?_
  refine r_sipush (v := 640) hX e_X11_init_254 (by decide +kernel) ?_
  have z4 := ((z3.r (k := 44) (v := some (q + 30)) (show q < q + 30 by omega)).m (show q + 30 ≤ q + 31 by omega))
  refine h_newI (t := 0) (n' := q + 32) (kc' := 31) (ks' := 5701) hX (hG.up 30) e_X11_init_257 rfl rfl rfl rfl (fun _ _ h => h) wk_206 z4 (hS 31 _ rfl) (by decide) (by decide +kernel) (Nat.le_of_ble_eq_true rfl) rfl rfl rfl (by rw [hc]; exact Nat.le_of_ble_eq_true rfl) (by rw [hs]; exact Nat.le_of_ble_eq_true rfl) ?_
  refine g_putRF (r := (q + 31)) hX (hG.up 31).fit hin e_X11_init_259 fl_11_107 fpf_11_45 (fun r h => by cases h; rfl) rfl (cut_o (hS 0 _ rfl) (by omega)) rfl rfl ?_
  have f4 := gR_sRn (k := 45) (v := some (q + 31)) f3 (show ¬ (q = q ∧ 1 = 45) by omega)
  refine r_aload_n (i := 0) hX e_X11_init_262 rfl rfl ?_
  refine r_bipush (v := 60) hX e_X11_init_263 (by decide +kernel) ?_
  have z5 := ((z4.r (k := 45) (v := some (q + 31)) (show q < q + 31 by omega)).m (show q + 31 ≤ q + 32 by omega))
  refine h_newI (t := 0) (n' := q + 33) (kc' := 32) (ks' := 5761) hX (hG.up 31) e_X11_init_265 rfl rfl rfl rfl (fun _ _ h => h) wk_206 z5 (hS 32 _ rfl) (by decide) (by decide +kernel) (Nat.le_of_ble_eq_true rfl) rfl rfl rfl (by rw [hc]; exact Nat.le_of_ble_eq_true rfl) (by rw [hs]; exact Nat.le_of_ble_eq_true rfl) ?_
  refine g_putRF (r := (q + 32)) hX (hG.up 32).fit hin e_X11_init_267 fl_11_110 fpf_11_50 (fun r h => by cases h; rfl) rfl (cut_o (hS 0 _ rfl) (by omega)) rfl rfl ?_
  have f5 := gR_sRn (k := 50) (v := some (q + 32)) f4 (show ¬ (q = q ∧ 1 = 50) by omega)
  refine r_aload_n (i := 0) hX e_X11_init_270 rfl rfl ?_
  refine r_sipush (v := 480) hX e_X11_init_271 (by decide +kernel) ?_
  have z6 := ((z5.r (k := 50) (v := some (q + 32)) (show q < q + 32 by omega)).m (show q + 32 ≤ q + 33 by omega))
  refine h_newI (t := 2) (n' := q + 34) (kc' := 33) (ks' := 6241) hX (hG.up 32) e_X11_init_274 rfl rfl rfl rfl (fun _ _ h => h) wk_299 z6 (hS 33 _ rfl) (by decide) (by decide +kernel) (Nat.le_of_ble_eq_true rfl) rfl rfl rfl (by rw [hc]; exact Nat.le_of_ble_eq_true rfl) (by rw [hs]; exact Nat.le_of_ble_eq_true rfl) ?_
  refine g_putRF (r := (q + 33)) hX (hG.up 33).fit hin e_X11_init_276 fl_11_113 fpf_11_51 (fun r h => by cases h; rfl) rfl (cut_o (hS 0 _ rfl) (by omega)) rfl rfl ?_
  have f6 := gR_sRn (k := 51) (v := some (q + 33)) f5 (show ¬ (q = q ∧ 1 = 51) by omega)
  refine r_aload_n (i := 0) hX e_X11_init_279 rfl rfl ?_
  refine r_bipush (v := 12) hX e_X11_init_280 (by decide +kernel) ?_
  have z7 := ((z6.r (k := 51) (v := some (q + 33)) (show q < q + 33 by omega)).m (show q + 33 ≤ q + 34 by omega))
  refine h_newI (t := 0) (n' := q + 35) (kc' := 34) (ks' := 6253) hX (hG.up 33) e_X11_init_282 rfl rfl rfl rfl (fun _ _ h => h) wk_206 z7 (hS 34 _ rfl) (by decide) (by decide +kernel) (Nat.le_of_ble_eq_true rfl) rfl rfl rfl (by rw [hc]; exact Nat.le_of_ble_eq_true rfl) (by rw [hs]; exact Nat.le_of_ble_eq_true rfl) ?_
  refine g_putRF (r := (q + 34)) hX (hG.up 34).fit hin e_X11_init_284 fl_11_116 fpf_11_52 (fun r h => by cases h; rfl) rfl (cut_o (hS 0 _ rfl) (by omega)) rfl rfl ?_
  have f7 := gR_sRn (k := 52) (v := some (q + 34)) f6 (show ¬ (q = q ∧ 1 = 52) by omega)
  exact k f7 ((z7.r (k := 52) (v := some (q + 34)) (show q < q + 34 by omega)).m (show q + 34 ≤ q + 35 by omega))
def k_X11_5 (M : Mem) (q : Nat) : Mem := (sI (sI (sI (sR M q 53 (some (q + 35))) (q + 1) 0 (-1)) (q + 1) 1 (-1)) (q + 1) 2 (-1))
theorem z_X11_5 {M : Mem} {q n : Nat} (h : Z0 M n) (hn : q + 36 ≤ n) : Z0 (k_X11_5 M q) n := by
  unfold k_X11_5
  exact ((((h.r (show q < n by omega)).i (show (q + 1) < n by omega)).i (show (q + 1) < n by omega)).i (show (q + 1) < n by omega))
theorem n_X11_5 {M : Mem} {q b j : Nat} {x : Option Nat} (h : gR M b j = x) (hb : b < q) : gR (k_X11_5 M q) b j = x := by
  unfold k_X11_5
  exact (gR_sIn (gR_sIn (gR_sIn (gR_sRn h (fun z => absurd z.1 (by omega))) (fun z => absurd z.1 (by omega))) (fun z => absurd z.1 (by omega))) (fun z => absurd z.1 (by omega)))
theorem fpf_11_53 : FPF 11 53 (.array .int) := ⟨_, tyX11, rfl, tyX11_ok, nmX11, rfl, by decide +kernel⟩
set_option maxHeartbeats 4000000 in
theorem s_X11_5 {X : Cx} {S : Shp} {q : Nat} {M : Mem} (hX : OkX X cX11_init RX11 1 12) (hG : OkG X (q + 1) 0) (hin : X.meth.name = "<init>") (hc : X.R.cells = 35) (hs : X.R.slots = 6265) (hS : Blk S q bk_X11) (hZ : Z0 M (q + 35)) (h0 : gR M q 1 = some (q + 1)) (k : gR (k_X11_5 M q) q 1 = some (q + 1) → Z0 (k_X11_5 M q) (q + 36) → GoN X (cut S (q + 36)) (q + 36) 35 6265 (k_X11_5 M q) 312 [some (.ref (X.B + q)), some (.int (3))] []) : GoN X (cut S (q + 35)) (q + 35) 34 6253 M 287 [some (.ref (X.B + q)), none] [] := by
  refine r_aload_n (i := 0) hX e_X11_init_287 rfl rfl ?_
  refine r_bipush (v := 12) hX e_X11_init_288 (by decide +kernel) ?_
  have z1 := hZ
  refine h_newI (t := 0) (n' := q + 36) (kc' := 35) (ks' := 6265) hX (hG.up 34) e_X11_init_290 rfl rfl rfl rfl (fun _ _ h => h) wk_206 z1 (hS 35 _ rfl) (by decide) (by decide +kernel) (Nat.le_of_ble_eq_true rfl) rfl rfl rfl (by rw [hc]; exact Nat.le_of_ble_eq_true rfl) (by rw [hs]; exact Nat.le_of_ble_eq_true rfl) ?_
  refine g_putRF (r := (q + 35)) hX (hG.up 35).fit hin e_X11_init_292 fl_11_119 fpf_11_53 (fun r h => by cases h; rfl) rfl (cut_o (hS 0 _ rfl) (by omega)) rfl rfl ?_
  have f1 := gR_sRn (k := 53) (v := some (q + 35)) h0 (show ¬ (q = q ∧ 1 = 53) by omega)
  refine r_iconst (v := 0) hX e_X11_init_295 (by decide +kernel) ?_
  refine r_istore_n (i := 1) hX e_X11_init_296 rfl (Nat.le_of_ble_eq_true rfl) rfl ?_
  refine r_iload_n (i := 1) hX e_X11_init_297 rfl rfl ?_
  refine r_iconst (v := 4) hX e_X11_init_298 (by decide +kernel) ?_
  refine r_icmp_ge hX e_X11_init_299 (fun h => absurd h (by decide)) (fun _ => ?_)
  refine r_aload_n (i := 0) hX e_X11_init_302 rfl rfl ?_
  refine r_getR (r := (q + 1)) hX (hG.up 35).fit e_X11_init_303 fl_11_7 rfl (cut_o (hS 0 _ rfl) (by omega)) f1 ?_
  refine r_iload_n (i := 1) hX e_X11_init_306 rfl rfl ?_
  refine r_iconst (v := -1) hX e_X11_init_307 (by decide +kernel) ?_
  refine h_iast (j := 0) hX (hG.up 35).fit e_X11_init_308 (cut_a (hS 1 _ rfl) (by omega) (by decide +kernel)) (by decide +kernel) ?_
  have f2 := gR_sIn (a := (q + 1)) (k := 0) (v := -1) f1 (show ¬ (q = (q + 1) ∧ 1 = 0) by omega)
  refine r_iinc (v := 1) hX e_X11_init_309 rfl (by decide +kernel) (Nat.le_of_ble_eq_true rfl) rfl ?_
  refine r_goto hX e_X11_init_312 ?_
  refine r_iload_n (i := 1) hX e_X11_init_297 rfl rfl ?_
  refine r_iconst (v := 4) hX e_X11_init_298 (by decide +kernel) ?_
  refine r_icmp_ge hX e_X11_init_299 (fun h => absurd h (by decide)) (fun _ => ?_)
  refine r_aload_n (i := 0) hX e_X11_init_302 rfl rfl ?_
  refine r_getR (r := (q + 1)) hX (hG.up 35).fit e_X11_init_303 fl_11_7 rfl (cut_o (hS 0 _ rfl) (by omega)) f2 ?_
  refine r_iload_n (i := 1) hX e_X11_init_306 rfl rfl ?_
  refine r_iconst (v := -1) hX e_X11_init_307 (by decide +kernel) ?_
  refine h_iast (j := 1) hX (hG.up 35).fit e_X11_init_308 (cut_a (hS 1 _ rfl) (by omega) (by decide +kernel)) (by decide +kernel) ?_
  have f3 := gR_sIn (a := (q + 1)) (k := 1) (v := -1) f2 (show ¬ (q = (q + 1) ∧ 1 = 1) by omega)
  refine r_iinc (v := 2) hX e_X11_init_309 rfl (by decide +kernel) (Nat.le_of_ble_eq_true rfl) rfl ?_
  refine r_goto hX e_X11_init_312 ?_
  refine r_iload_n (i := 1) hX e_X11_init_297 rfl rfl ?_
  refine r_iconst (v := 4) hX e_X11_init_298 (by decide +kernel) ?_
  refine r_icmp_ge hX e_X11_init_299 (fun h => absurd h (by decide)) (fun _ => ?_)
  refine r_aload_n (i := 0) hX e_X11_init_302 rfl rfl ?_
  refine r_getR (r := (q + 1)) hX (hG.up 35).fit e_X11_init_303 fl_11_7 rfl (cut_o (hS 0 _ rfl) (by omega)) f3 ?_
  refine r_iload_n (i := 1) hX e_X11_init_306 rfl rfl ?_
  refine r_iconst (v := -1) hX e_X11_init_307 (by decide +kernel) ?_
  refine h_iast (j := 2) hX (hG.up 35).fit e_X11_init_308 (cut_a (hS 1 _ rfl) (by omega) (by decide +kernel)) (by decide +kernel) ?_
  have f4 := gR_sIn (a := (q + 1)) (k := 2) (v := -1) f3 (show ¬ (q = (q + 1) ∧ 1 = 2) by omega)
  refine r_iinc (v := 3) hX e_X11_init_309 rfl (by decide +kernel) (Nat.le_of_ble_eq_true rfl) rfl ?_
  exact k f4 (((((z1.r (k := 53) (v := some (q + 35)) (show q < q + 35 by omega)).i (k := 0) (v := (-1)) (show (q + 1) < q + 35 by omega)).i (k := 1) (v := (-1)) (show (q + 1) < q + 35 by omega)).i (k := 2) (v := (-1)) (show (q + 1) < q + 35 by omega)).m (show q + 35 ≤ q + 36 by omega))
def k_X11_6 (M : Mem) (q : Nat) : Mem := (sI M (q + 1) 3 (-1))
theorem z_X11_6 {M : Mem} {q n : Nat} (h : Z0 M n) (hn : q + 36 ≤ n) : Z0 (k_X11_6 M q) n := by
  unfold k_X11_6
  exact (h.i (show (q + 1) < n by omega))
theorem n_X11_6 {M : Mem} {q b j : Nat} {x : Option Nat} (h : gR M b j = x) (hb : b < q) : gR (k_X11_6 M q) b j = x := by
  unfold k_X11_6
  exact (gR_sIn h (fun z => absurd z.1 (by omega)))
set_option maxHeartbeats 4000000 in
theorem s_X11_6 {X : Cx} {S : Shp} {q : Nat} {M : Mem} (hX : OkX X cX11_init RX11 1 12) (hG : OkG X (q + 1) 0) (hin : X.meth.name = "<init>") (hc : X.R.cells = 35) (hs : X.R.slots = 6265) (hS : Blk S q bk_X11) (hZ : Z0 M (q + 36)) (h0 : gR M q 1 = some (q + 1)) (k : Z0 (k_X11_6 M q) (q + 36) → GoN X (cut S (q + 36)) (q + 36) 35 6265 (k_X11_6 M q) 315 [some (.ref (X.B + q)), some (.int (4))] []) : GoN X (cut S (q + 36)) (q + 36) 35 6265 M 312 [some (.ref (X.B + q)), some (.int (3))] [] := by
  refine r_goto hX e_X11_init_312 ?_
  refine r_iload_n (i := 1) hX e_X11_init_297 rfl rfl ?_
  refine r_iconst (v := 4) hX e_X11_init_298 (by decide +kernel) ?_
  refine r_icmp_ge hX e_X11_init_299 (fun h => absurd h (by decide)) (fun _ => ?_)
  refine r_aload_n (i := 0) hX e_X11_init_302 rfl rfl ?_
  refine r_getR (r := (q + 1)) hX (hG.up 35).fit e_X11_init_303 fl_11_7 rfl (cut_o (hS 0 _ rfl) (by omega)) h0 ?_
  refine r_iload_n (i := 1) hX e_X11_init_306 rfl rfl ?_
  refine r_iconst (v := -1) hX e_X11_init_307 (by decide +kernel) ?_
  refine h_iast (j := 3) hX (hG.up 35).fit e_X11_init_308 (cut_a (hS 1 _ rfl) (by omega) (by decide +kernel)) (by decide +kernel) ?_
  refine r_iinc (v := 4) hX e_X11_init_309 rfl (by decide +kernel) (Nat.le_of_ble_eq_true rfl) rfl ?_
  refine r_goto hX e_X11_init_312 ?_
  refine r_iload_n (i := 1) hX e_X11_init_297 rfl rfl ?_
  refine r_iconst (v := 4) hX e_X11_init_298 (by decide +kernel) ?_
  refine r_icmp_ge hX e_X11_init_299 (fun _ => ?_) (fun h => absurd (by decide) h)
  exact k  (hZ.i (k := 3) (v := (-1)) (show (q + 1) < q + 36 by omega))
def k_X11 (M : Mem) (q : Nat) : Mem := (k_X11_6 (k_X11_5 (k_X11_4 (k_X11_3 (k_X11_2 (k_X11_1 (k_X11_0 M q) q) q) q) q) q) q)
theorem z_X11 {M : Mem} {q n : Nat} (h : Z0 M n) (hn : q + 36 ≤ n) : Z0 (k_X11 M q) n := by
  unfold k_X11
  exact (z_X11_6 (z_X11_5 (z_X11_4 (z_X11_3 (z_X11_2 (z_X11_1 (z_X11_0 h (by omega)) (by omega)) (by omega)) (by omega)) (by omega)) (by omega)) (by omega))
theorem n_X11 {M : Mem} {q b j : Nat} {x : Option Nat} (h : gR M b j = x) (hb : b < q) : gR (k_X11 M q) b j = x := by
  unfold k_X11
  exact (n_X11_6 (n_X11_5 (n_X11_4 (n_X11_3 (n_X11_2 (n_X11_1 (n_X11_0 h hb) hb) hb) hb) hb) hb) hb)
set_option maxHeartbeats 4000000 in
theorem i_X11 {l : Launch} {S : Shp} {q : Nat} {M : Mem} (hS : Blk S q bk_X11) (hZ : Z0 M (q + 1)) : CG l yX11_init cX11_init 2 1 12 35 6265 S q (q + 36) M (k_X11 M q) := by
  refine met_g (own := RX11) (by decide +kernel) rfl rfl (by decide) (fun X hX hG hl hin hc hs hR => ?_)
  subst hl
  refine s_X11_0 hX hG hin hc hs hS hZ  (fun g0_0 zz0 => ?_)
  refine s_X11_1 hX hG hin hc hs hS zz0 g0_0 (fun g1_0 zz1 => ?_)
  refine s_X11_2 hX hG hin hc hs hS zz1 g1_0 (fun g2_0 zz2 => ?_)
  refine s_X11_3 hX hG hin hc hs hS zz2 g2_0 (fun g3_0 zz3 => ?_)
  refine s_X11_4 hX hG hin hc hs hS zz3 g3_0 (fun g4_0 zz4 => ?_)
  refine s_X11_5 hX hG hin hc hs hS zz4 g4_0 (fun g5_0 zz5 => ?_)
  refine s_X11_6 hX hG hin hc hs hS zz5 g5_0 (fun  zz6 => ?_)
  exact g_ret hX hG.1 hR e_X11_init_315
