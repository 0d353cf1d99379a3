/-! CONSTRUCTORS, walked by program -/
theorem gR_sRn {M : Mem} {a k b j : Nat} {v x : Option Nat} (h : gR M b j = x) (hn : ¬ (b = a ∧ j = k)) : gR (sR M a k v) b j = x := by
  rw [gR_sR, if_neg hn]
  exact h
theorem gR_sRs (M : Mem) (a k : Nat) (v : Option Nat) : gR (sR M a k v) a k = v := by rw [gR_sR, if_pos ⟨rfl, rfl⟩]
theorem gR_sIn {M : Mem} {a k b j : Nat} {v : Int32} {x : Option Nat} (h : gR M b j = x) (_ : ¬ (b = a ∧ j = k)) : gR (sI M a k v) b j = x := h
theorem gR_mun {M : Mem} {a N b j : Nat} {x : Option Nat} (h : gR M b j = x) (hn : b < a) : gR (mulR M a N) b j = x := by
  have e : gR (mulR M a N) b j = if b = a ∧ j < N then some (a + 1 + j) else gR M b j := rfl
  rw [e, if_neg (fun z => by have := z.1; omega)]
  exact h
theorem Blk.tab {S : Shp} {q : Nat} {l : List (Nat × Nat)} (h : Blk S q l) (k N : Nat) (x : Nat × Nat) (h2 : (l.drop (k + 1)).take N = List.replicate N x) (j : Nat) (hj : j < N) : S (q + k + 1 + j) = x := by
  have e : l[k + 1 + j]? = some x := by
    have a : ((l.drop (k + 1)).take N)[j]? = some x := by rw [h2, List.getElem?_replicate, if_pos hj]
    rw [List.getElem?_take, if_pos hj, List.getElem?_drop] at a
    exact a
  have := h (k + 1 + j) x e
  rw [← this]
  congr 1
  omega
def bk_X7 : List (Nat × Nat) := [(7, 3)]
set_option maxHeartbeats 4000000 in
theorem s_X7_0 {X : Cx} {S : Shp} {q : Nat} {M : Mem} (hX : OkX X cX7_init RX7 1 12) (hG : OkG X (q + 1) 0) (hin : X.meth.name = "<init>") (hc : X.R.cells = 0) (hs : X.R.slots = 0) (hS : Blk S q bk_X7) (hZ : Z0 M (q + 1))  (k : Z0 M (q + 1) → GoN X (cut S (q + 1)) (q + 1) 0 0 M 4 [some (.ref (X.B + q))] []) : GoN X (cut S (q + 1)) (q + 1) 0 0 M 0 [some (.ref (X.B + q))] [] := by
  refine r_aload_n (i := 0) hX e_X7_init_0 rfl rfl ?_
  refine g_obj hX e_X7_init_1 wk_83 (by decide) (by decide) ?_
  exact k  hZ
set_option maxHeartbeats 4000000 in
theorem i_X7 {l : Launch} {S : Shp} {q : Nat} {M : Mem} (hS : Blk S q bk_X7) (hZ : Z0 M (q + 1)) : CG l yX7_init cX7_init 1 1 12 0 0 S q (q + 1) M M := by
  refine met_g (own := RX7) (by decide +kernel) rfl rfl (by decide) (fun X hX hG hl hin hc hs hR => ?_)
  subst hl
  refine s_X7_0 hX hG hin hc hs hS hZ  (fun  zz0 => ?_)
  exact g_ret hX hG.1 hR e_X7_init_4
def bk_X9 : List (Nat × Nat) := [(9, 7)]
set_option maxHeartbeats 4000000 in
theorem s_X9_0 {X : Cx} {S : Shp} {q : Nat} {M : Mem} (hX : OkX X cX9_init RX9 1 12) (hG : OkG X (q + 1) 0) (hin : X.meth.name = "<init>") (hc : X.R.cells = 0) (hs : X.R.slots = 0) (hS : Blk S q bk_X9) (hZ : Z0 M (q + 1))  (k : Z0 M (q + 1) → GoN X (cut S (q + 1)) (q + 1) 0 0 M 4 [some (.ref (X.B + q))] []) : GoN X (cut S (q + 1)) (q + 1) 0 0 M 0 [some (.ref (X.B + q))] [] := by
  refine r_aload_n (i := 0) hX e_X9_init_0 rfl rfl ?_
  refine g_obj hX e_X9_init_1 wk_107 (by decide) (by decide) ?_
  exact k  hZ
set_option maxHeartbeats 4000000 in
theorem i_X9 {l : Launch} {S : Shp} {q : Nat} {M : Mem} (hS : Blk S q bk_X9) (hZ : Z0 M (q + 1)) : CG l yX9_init cX9_init 1 1 12 0 0 S q (q + 1) M M := by
  refine met_g (own := RX9) (by decide +kernel) rfl rfl (by decide) (fun X hX hG hl hin hc hs hR => ?_)
  subst hl
  refine s_X9_0 hX hG hin hc hs hS hZ  (fun  zz0 => ?_)
  exact g_ret hX hG.1 hR e_X9_init_4
def bk_X1 : List (Nat × Nat) := [(1, 7), (100, 3), (100, 3), (100, 3)]
def k_X1_0 (M : Mem) (q : Nat) : Mem := (sR (sR (sR M q 4 (some (q + 1))) q 5 (some (q + 2))) q 6 (some (q + 3)))
theorem z_X1_0 {M : Mem} {q n : Nat} (h : Z0 M n) (hn : q + 4 ≤ n) : Z0 (k_X1_0 M q) n := by
  unfold k_X1_0
  exact (((h.r (show q < n by omega)).r (show q < n by omega)).r (show q < n by omega))
theorem n_X1_0 {M : Mem} {q b j : Nat} {x : Option Nat} (h : gR M b j = x) (hb : b < q) : gR (k_X1_0 M q) b j = x := by
  unfold k_X1_0
  exact (gR_sRn (gR_sRn (gR_sRn h (fun z => absurd z.1 (by omega))) (fun z => absurd z.1 (by omega))) (fun z => absurd z.1 (by omega)))
theorem fpf_1_4 : FPF 1 4 (.array .int) := ⟨_, tyX1, rfl, tyX1_ok, nmX1, rfl, by decide +kernel⟩
theorem fpf_1_5 : FPF 1 5 (.array .int) := ⟨_, tyX1, rfl, tyX1_ok, nmX1, rfl, by decide +kernel⟩
theorem fpf_1_6 : FPF 1 6 (.array .int) := ⟨_, tyX1, rfl, tyX1_ok, nmX1, rfl, by decide +kernel⟩
set_option maxHeartbeats 4000000 in
theorem s_X1_0 {X : Cx} {S : Shp} {q : Nat} {M : Mem} (hX : OkX X cX1_init RX1 1 12) (hG : OkG X (q + 1) 0) (hin : X.meth.name = "<init>") (hc : X.R.cells = 3) (hs : X.R.slots = 9) (hS : Blk S q bk_X1) (hZ : Z0 M (q + 1))  (k : Z0 (k_X1_0 M q) (q + 4) → GoN X (cut S (q + 4)) (q + 4) 3 9 (k_X1_0 M q) 25 [some (.ref (X.B + q))] []) : GoN X (cut S (q + 1)) (q + 1) 0 0 M 0 [some (.ref (X.B + q))] [] := by
  refine r_aload_n (i := 0) hX e_X1_init_0 rfl rfl ?_
  refine g_obj hX e_X1_init_1 wk_160 (by decide) (by decide) ?_
  refine r_aload_n (i := 0) hX e_X1_init_4 rfl rfl ?_
  refine r_iconst (v := 3) hX e_X1_init_5 (by decide +kernel) ?_
  have z1 := hZ
  refine h_newI (t := 0) (n' := q + 2) (kc' := 1) (ks' := 3) hX (hG.up 0) e_X1_init_6 rfl rfl rfl rfl (fun _ _ h => h) wk_206 z1 (hS 1 _ rfl) (by decide) (by decide +kernel) (Nat.le_of_ble_eq_true rfl) rfl rfl rfl (by rw [hc]; exact Nat.le_of_ble_eq_true rfl) (by rw [hs]; exact Nat.le_of_ble_eq_true rfl) ?_
  refine g_putRF (r := (q + 1)) hX (hG.up 1).fit hin e_X1_init_8 fl_1_9 fpf_1_4 (fun r h => by cases h; rfl) rfl (cut_o (hS 0 _ rfl) (by omega)) rfl rfl ?_
  refine r_aload_n (i := 0) hX e_X1_init_11 rfl rfl ?_
  refine r_iconst (v := 3) hX e_X1_init_12 (by decide +kernel) ?_
  have z2 := ((z1.r (k := 4) (v := some (q + 1)) (show q < q + 1 by omega)).m (show q + 1 ≤ q + 2 by omega))
  refine h_newI (t := 0) (n' := q + 3) (kc' := 2) (ks' := 6) hX (hG.up 1) e_X1_init_13 rfl rfl rfl rfl (fun _ _ h => h) wk_206 z2 (hS 2 _ rfl) (by decide) (by decide +kernel) (Nat.le_of_ble_eq_true rfl) rfl rfl rfl (by rw [hc]; exact Nat.le_of_ble_eq_true rfl) (by rw [hs]; exact Nat.le_of_ble_eq_true rfl) ?_
  refine g_putRF (r := (q + 2)) hX (hG.up 2).fit hin e_X1_init_15 fl_1_15 fpf_1_5 (fun r h => by cases h; rfl) rfl (cut_o (hS 0 _ rfl) (by omega)) rfl rfl ?_
  refine r_aload_n (i := 0) hX e_X1_init_18 rfl rfl ?_
  refine r_iconst (v := 3) hX e_X1_init_19 (by decide +kernel) ?_
  have z3 := ((z2.r (k := 5) (v := some (q + 2)) (show q < q + 2 by omega)).m (show q + 2 ≤ q + 3 by omega))
  refine h_newI (t := 0) (n' := q + 4) (kc' := 3) (ks' := 9) hX (hG.up 2) e_X1_init_20 rfl rfl rfl rfl (fun _ _ h => h) wk_206 z3 (hS 3 _ rfl) (by decide) (by decide +kernel) (Nat.le_of_ble_eq_true rfl) rfl rfl rfl (by rw [hc]; exact Nat.le_of_ble_eq_true rfl) (by rw [hs]; exact Nat.le_of_ble_eq_true rfl) ?_
  refine g_putRF (r := (q + 3)) hX (hG.up 3).fit hin e_X1_init_22 fl_1_18 fpf_1_6 (fun r h => by cases h; rfl) rfl (cut_o (hS 0 _ rfl) (by omega)) rfl rfl ?_
  exact k  ((z3.r (k := 6) (v := some (q + 3)) (show q < q + 3 by omega)).m (show q + 3 ≤ q + 4 by omega))
def k_X1 (M : Mem) (q : Nat) : Mem := (k_X1_0 M q)
theorem z_X1 {M : Mem} {q n : Nat} (h : Z0 M n) (hn : q + 4 ≤ n) : Z0 (k_X1 M q) n := by
  unfold k_X1
  exact (z_X1_0 h (by omega))
theorem n_X1 {M : Mem} {q b j : Nat} {x : Option Nat} (h : gR M b j = x) (hb : b < q) : gR (k_X1 M q) b j = x := by
  unfold k_X1
  exact (n_X1_0 h hb)
set_option maxHeartbeats 4000000 in
theorem i_X1 {l : Launch} {S : Shp} {q : Nat} {M : Mem} (hS : Blk S q bk_X1) (hZ : Z0 M (q + 1)) : CG l yX1_init cX1_init 1 1 12 3 9 S q (q + 4) M (k_X1 M q) := by
  refine met_g (own := RX1) (by decide +kernel) rfl rfl (by decide) (fun X hX hG hl hin hc hs hR => ?_)
  subst hl
  refine s_X1_0 hX hG hin hc hs hS hZ  (fun  zz0 => ?_)
  exact g_ret hX hG.1 hR e_X1_init_25
def bk_X2 : List (Nat × Nat) := [(2, 2), (109, 3), (100, 60), (100, 60), (100, 60), (109, 8), (100, 60), (100, 60), (100, 60), (100, 60), (100, 60), (100, 60), (100, 60), (100, 60)]
def k_X2_0 (M : Mem) (q : Nat) : Mem := (sR (mulR (sR (mulR M (q + 1) 3) q 0 (some (q + 1))) (q + 5) 8) q 1 (some (q + 5)))
theorem z_X2_0 {M : Mem} {q n : Nat} (h : Z0 M n) (hn : q + 14 ≤ n) : Z0 (k_X2_0 M q) n := by
  unfold k_X2_0
  exact ((((h.mu (show (q + 1) < n by omega)).r (show q < n by omega)).mu (show (q + 5) < n by omega)).r (show q < n by omega))
theorem n_X2_0 {M : Mem} {q b j : Nat} {x : Option Nat} (h : gR M b j = x) (hb : b < q) : gR (k_X2_0 M q) b j = x := by
  unfold k_X2_0
  exact (gR_sRn (gR_mun (gR_sRn (gR_mun h (by omega)) (fun z => absurd z.1 (by omega))) (by omega)) (fun z => absurd z.1 (by omega)))
theorem fpf_2_0 : FPF 2 0 (.array (.array .int)) := ⟨_, tyX2, rfl, tyX2_ok, nmX2, rfl, by decide +kernel⟩
theorem fpf_2_1 : FPF 2 1 (.array (.array .int)) := ⟨_, tyX2, rfl, tyX2_ok, nmX2, rfl, by decide +kernel⟩
set_option maxHeartbeats 4000000 in
theorem s_X2_0 {X : Cx} {S : Shp} {q : Nat} {M : Mem} (hX : OkX X cX2_init RX2 1 12) (hG : OkG X (q + 1) 0) (hin : X.meth.name = "<init>") (hc : X.R.cells = 13) (hs : X.R.slots = 671) (hS : Blk S q bk_X2) (hZ : Z0 M (q + 1))  (k : Z0 (k_X2_0 M q) (q + 14) → GoN X (cut S (q + 14)) (q + 14) 13 671 (k_X2_0 M q) 27 [some (.ref (X.B + q))] []) : GoN X (cut S (q + 1)) (q + 1) 0 0 M 0 [some (.ref (X.B + q))] [] := by
  refine r_aload_n (i := 0) hX e_X2_init_0 rfl rfl ?_
  refine g_obj hX e_X2_init_1 wk_285 (by decide) (by decide) ?_
  refine r_aload_n (i := 0) hX e_X2_init_4 rfl rfl ?_
  refine r_iconst (v := 3) hX e_X2_init_5 (by decide +kernel) ?_
  refine r_bipush (v := 60) hX e_X2_init_6 (by decide +kernel) ?_
  have z1 := hZ
  refine h_multi (N := 3) (L := 60) (n' := q + 5) (kc' := 4) (ks' := 183) hX (hG.up 0) e_X2_init_8 wk_286 wk_206 z1 (hS 1 _ rfl) (fun j hj => hS.tab 1 3 (100, 60) (by decide +kernel) j hj) (by decide) (by decide +kernel) (by decide) (by decide +kernel) (Nat.le_of_ble_eq_true rfl) (Nat.le_of_ble_eq_true rfl) rfl rfl rfl (by rw [hc]; exact Nat.le_of_ble_eq_true rfl) (by rw [hs]; exact Nat.le_of_ble_eq_true rfl) ?_
  refine g_putRF (r := (q + 1)) hX (hG.up 4).fit hin e_X2_init_12 fl_2_11 fpf_2_0 (fun r h => by cases h; rfl) rfl (cut_o (hS 0 _ rfl) (by omega)) rfl rfl ?_
  refine r_aload_n (i := 0) hX e_X2_init_15 rfl rfl ?_
  refine r_bipush (v := 8) hX e_X2_init_16 (by decide +kernel) ?_
  refine r_bipush (v := 60) hX e_X2_init_18 (by decide +kernel) ?_
  have z2 := (((z1.m (show q + 1 ≤ q + 5 by omega)).mu (N := 3) (show (q + 1) < q + 5 by omega)).r (k := 0) (v := some (q + 1)) (show q < q + 5 by omega))
  refine h_multi (N := 8) (L := 60) (n' := q + 14) (kc' := 13) (ks' := 671) hX (hG.up 4) e_X2_init_20 wk_286 wk_206 z2 (hS 5 _ rfl) (fun j hj => hS.tab 5 8 (100, 60) (by decide +kernel) j hj) (by decide) (by decide +kernel) (by decide) (by decide +kernel) (Nat.le_of_ble_eq_true rfl) (Nat.le_of_ble_eq_true rfl) rfl rfl rfl (by rw [hc]; exact Nat.le_of_ble_eq_true rfl) (by rw [hs]; exact Nat.le_of_ble_eq_true rfl) ?_
  refine g_putRF (r := (q + 5)) hX (hG.up 13).fit hin e_X2_init_24 fl_2_16 fpf_2_1 (fun r h => by cases h; rfl) rfl (cut_o (hS 0 _ rfl) (by omega)) rfl rfl ?_
  exact k  (((z2.m (show q + 5 ≤ q + 14 by omega)).mu (N := 8) (show (q + 5) < q + 14 by omega)).r (k := 1) (v := some (q + 5)) (show q < q + 14 by omega))
def k_X2 (M : Mem) (q : Nat) : Mem := (k_X2_0 M q)
theorem z_X2 {M : Mem} {q n : Nat} (h : Z0 M n) (hn : q + 14 ≤ n) : Z0 (k_X2 M q) n := by
  unfold k_X2
  exact (z_X2_0 h (by omega))
theorem n_X2 {M : Mem} {q b j : Nat} {x : Option Nat} (h : gR M b j = x) (hb : b < q) : gR (k_X2 M q) b j = x := by
  unfold k_X2
  exact (n_X2_0 h hb)
set_option maxHeartbeats 4000000 in
theorem i_X2 {l : Launch} {S : Shp} {q : Nat} {M : Mem} (hS : Blk S q bk_X2) (hZ : Z0 M (q + 1)) : CG l yX2_init cX2_init 1 1 12 13 671 S q (q + 14) M (k_X2 M q) := by
  refine met_g (own := RX2) (by decide +kernel) rfl rfl (by decide) (fun X hX hG hl hin hc hs hR => ?_)
  subst hl
  refine s_X2_0 hX hG hin hc hs hS hZ  (fun  zz0 => ?_)
  exact g_ret hX hG.1 hR e_X2_init_27
def bk_X6 : List (Nat × Nat) := [(6, 9), (103, 2000)]
def k_X6_0 (M : Mem) (q : Nat) : Mem := (sI (sI (sI (sR M q 0 (some (q + 1))) q 1 (0)) q 2 (0)) q 3 (-1))
theorem z_X6_0 {M : Mem} {q n : Nat} (h : Z0 M n) (hn : q + 2 ≤ n) : Z0 (k_X6_0 M q) n := by
  unfold k_X6_0
  exact ((((h.r (show q < n by omega)).i (show q < n by omega)).i (show q < n by omega)).i (show q < n by omega))
theorem n_X6_0 {M : Mem} {q b j : Nat} {x : Option Nat} (h : gR M b j = x) (hb : b < q) : gR (k_X6_0 M q) b j = x := by
  unfold k_X6_0
  exact (gR_sIn (gR_sIn (gR_sIn (gR_sRn h (fun z => absurd z.1 (by omega))) (fun z => absurd z.1 (by omega))) (fun z => absurd z.1 (by omega))) (fun z => absurd z.1 (by omega)))
theorem fpf_6_0 : FPF 6 0 (.array .byte) := ⟨_, tyX6, rfl, tyX6_ok, nmX6, rfl, by decide +kernel⟩
set_option maxHeartbeats 4000000 in
theorem s_X6_0 {X : Cx} {S : Shp} {q : Nat} {M : Mem} (hX : OkX X cX6_init RX6 1 12) (hG : OkG X (q + 1) 0) (hin : X.meth.name = "<init>") (hc : X.R.cells = 1) (hs : X.R.slots = 2000) (hS : Blk S q bk_X6) (hZ : Z0 M (q + 1))  (k : Z0 (k_X6_0 M q) (q + 2) → GoN X (cut S (q + 2)) (q + 2) 1 2000 (k_X6_0 M q) 28 [some (.ref (X.B + q))] []) : GoN X (cut S (q + 1)) (q + 1) 0 0 M 0 [some (.ref (X.B + q))] [] := by
  refine r_aload_n (i := 0) hX e_X6_init_0 rfl rfl ?_
  refine g_obj hX e_X6_init_1 wk_34 (by decide) (by decide) ?_
  refine r_aload_n (i := 0) hX e_X6_init_4 rfl rfl ?_
  refine r_sipush (v := 2000) hX e_X6_init_5 (by decide +kernel) ?_
  have z1 := hZ
  refine h_newI (t := 3) (n' := q + 2) (kc' := 1) (ks' := 2000) hX (hG.up 0) e_X6_init_8 rfl rfl rfl rfl (fun _ _ h => h) wk_66 z1 (hS 1 _ rfl) (by decide) (by decide +kernel) (Nat.le_of_ble_eq_true rfl) rfl rfl rfl (by rw [hc]; exact Nat.le_of_ble_eq_true rfl) (by rw [hs]; exact Nat.le_of_ble_eq_true rfl) ?_
  refine g_putRF (r := (q + 1)) hX (hG.up 1).fit hin e_X6_init_10 fl_6_9 fpf_6_0 (fun r h => by cases h; rfl) rfl (cut_o (hS 0 _ rfl) (by omega)) rfl rfl ?_
  refine r_aload_n (i := 0) hX e_X6_init_13 rfl rfl ?_
  refine r_iconst (v := 0) hX e_X6_init_14 (by decide +kernel) ?_
  refine r_putI hX (hG.up 1).fit rfl e_X6_init_15 fl_6_15 fp_6_1 rfl (cut_o (hS 0 _ rfl) (by omega)) ?_
  refine r_aload_n (i := 0) hX e_X6_init_18 rfl rfl ?_
  refine r_iconst (v := 0) hX e_X6_init_19 (by decide +kernel) ?_
  refine r_putI hX (hG.up 1).fit rfl e_X6_init_20 fl_6_19 fp_6_2 rfl (cut_o (hS 0 _ rfl) (by omega)) ?_
  refine r_aload_n (i := 0) hX e_X6_init_23 rfl rfl ?_
  refine r_iconst (v := -1) hX e_X6_init_24 (by decide +kernel) ?_
  refine r_putI hX (hG.up 1).fit rfl e_X6_init_25 fl_6_22 fp_6_3 rfl (cut_o (hS 0 _ rfl) (by omega)) ?_
  exact k  (((((z1.r (k := 0) (v := some (q + 1)) (show q < q + 1 by omega)).i (k := 1) (v := 0) (show q < q + 1 by omega)).i (k := 2) (v := 0) (show q < q + 1 by omega)).i (k := 3) (v := -1) (show q < q + 1 by omega)).m (show q + 1 ≤ q + 2 by omega))
def k_X6 (M : Mem) (q : Nat) : Mem := (k_X6_0 M q)
theorem z_X6 {M : Mem} {q n : Nat} (h : Z0 M n) (hn : q + 2 ≤ n) : Z0 (k_X6 M q) n := by
  unfold k_X6
  exact (z_X6_0 h (by omega))
theorem n_X6 {M : Mem} {q b j : Nat} {x : Option Nat} (h : gR M b j = x) (hb : b < q) : gR (k_X6 M q) b j = x := by
  unfold k_X6
  exact (n_X6_0 h hb)
set_option maxHeartbeats 4000000 in
theorem i_X6 {l : Launch} {S : Shp} {q : Nat} {M : Mem} (hS : Blk S q bk_X6) (hZ : Z0 M (q + 1)) : CG l yX6_init cX6_init 1 1 12 1 2000 S q (q + 2) M (k_X6 M q) := by
  refine met_g (own := RX6) (by decide +kernel) rfl rfl (by decide) (fun X hX hG hl hin hc hs hR => ?_)
  subst hl
  refine s_X6_0 hX hG hin hc hs hS hZ  (fun  zz0 => ?_)
  exact g_ret hX hG.1 hR e_X6_init_28
def bk_X0 : List (Nat × Nat) := [(0, 11), (100, 60), (100, 3), (101, 8)]
def k_X0_0 (M : Mem) (q : Nat) : Mem := (sR (sR (sR M q 2 (some (q + 1))) q 6 (some (q + 2))) q 7 (some (q + 3)))
theorem z_X0_0 {M : Mem} {q n : Nat} (h : Z0 M n) (hn : q + 4 ≤ n) : Z0 (k_X0_0 M q) n := by
  unfold k_X0_0
  exact (((h.r (show q < n by omega)).r (show q < n by omega)).r (show q < n by omega))
theorem n_X0_0 {M : Mem} {q b j : Nat} {x : Option Nat} (h : gR M b j = x) (hb : b < q) : gR (k_X0_0 M q) b j = x := by
  unfold k_X0_0
  exact (gR_sRn (gR_sRn (gR_sRn h (fun z => absurd z.1 (by omega))) (fun z => absurd z.1 (by omega))) (fun z => absurd z.1 (by omega)))
theorem fpf_0_2 : FPF 0 2 (.array .int) := ⟨_, tyX0, rfl, tyX0_ok, nmX0, rfl, by decide +kernel⟩
theorem fpf_0_6 : FPF 0 6 (.array .int) := ⟨_, tyX0, rfl, tyX0_ok, nmX0, rfl, by decide +kernel⟩
theorem fpf_0_7 : FPF 0 7 (.array .long) := ⟨_, tyX0, rfl, tyX0_ok, nmX0, rfl, by decide +kernel⟩
set_option maxHeartbeats 4000000 in
theorem s_X0_0 {X : Cx} {S : Shp} {q : Nat} {M : Mem} (hX : OkX X cX0_init RX0 1 12) (hG : OkG X (q + 1) 0) (hin : X.meth.name = "<init>") (hc : X.R.cells = 3) (hs : X.R.slots = 71) (hS : Blk S q bk_X0) (hZ : Z0 M (q + 1))  (k : Z0 (k_X0_0 M q) (q + 4) → GoN X (cut S (q + 4)) (q + 4) 3 71 (k_X0_0 M q) 27 [some (.ref (X.B + q))] []) : GoN X (cut S (q + 1)) (q + 1) 0 0 M 0 [some (.ref (X.B + q))] [] := by
  refine r_aload_n (i := 0) hX e_X0_init_0 rfl rfl ?_
  refine g_obj hX e_X0_init_1 wk_371 (by decide) (by decide) ?_
  refine r_aload_n (i := 0) hX e_X0_init_4 rfl rfl ?_
  refine r_bipush (v := 60) hX e_X0_init_5 (by decide +kernel) ?_
  have z1 := hZ
  refine h_newI (t := 0) (n' := q + 2) (kc' := 1) (ks' := 60) hX (hG.up 0) e_X0_init_7 rfl rfl rfl rfl (fun _ _ h => h) wk_206 z1 (hS 1 _ rfl) (by decide) (by decide +kernel) (Nat.le_of_ble_eq_true rfl) rfl rfl rfl (by rw [hc]; exact Nat.le_of_ble_eq_true rfl) (by rw [hs]; exact Nat.le_of_ble_eq_true rfl) ?_
  refine g_putRF (r := (q + 1)) hX (hG.up 1).fit hin e_X0_init_9 fl_0_9 fpf_0_2 (fun r h => by cases h; rfl) rfl (cut_o (hS 0 _ rfl) (by omega)) rfl rfl ?_
  refine r_aload_n (i := 0) hX e_X0_init_12 rfl rfl ?_
  refine r_iconst (v := 3) hX e_X0_init_13 (by decide +kernel) ?_
  have z2 := ((z1.r (k := 2) (v := some (q + 1)) (show q < q + 1 by omega)).m (show q + 1 ≤ q + 2 by omega))
  refine h_newI (t := 0) (n' := q + 3) (kc' := 2) (ks' := 63) hX (hG.up 1) e_X0_init_14 rfl rfl rfl rfl (fun _ _ h => h) wk_206 z2 (hS 2 _ rfl) (by decide) (by decide +kernel) (Nat.le_of_ble_eq_true rfl) rfl rfl rfl (by rw [hc]; exact Nat.le_of_ble_eq_true rfl) (by rw [hs]; exact Nat.le_of_ble_eq_true rfl) ?_
  refine g_putRF (r := (q + 2)) hX (hG.up 2).fit hin e_X0_init_16 fl_0_15 fpf_0_6 (fun r h => by cases h; rfl) rfl (cut_o (hS 0 _ rfl) (by omega)) rfl rfl ?_
  refine r_aload_n (i := 0) hX e_X0_init_19 rfl rfl ?_
  refine r_bipush (v := 8) hX e_X0_init_20 (by decide +kernel) ?_
  have z3 := ((z2.r (k := 6) (v := some (q + 2)) (show q < q + 2 by omega)).m (show q + 2 ≤ q + 3 by omega))
  refine h_newL (n' := q + 4) (kc' := 3) (ks' := 71) hX (hG.up 2) e_X0_init_22 wk_409 z3 (hS 3 _ rfl) (by decide) (by decide +kernel) (Nat.le_of_ble_eq_true rfl) rfl rfl rfl (by rw [hc]; exact Nat.le_of_ble_eq_true rfl) (by rw [hs]; exact Nat.le_of_ble_eq_true rfl) ?_
  refine g_putRF (r := (q + 3)) hX (hG.up 3).fit hin e_X0_init_24 fl_0_18 fpf_0_7 (fun r h => by cases h; rfl) rfl (cut_o (hS 0 _ rfl) (by omega)) rfl rfl ?_
  exact k  ((z3.r (k := 7) (v := some (q + 3)) (show q < q + 3 by omega)).m (show q + 3 ≤ q + 4 by omega))
def k_X0 (M : Mem) (q : Nat) : Mem := (k_X0_0 M q)
theorem z_X0 {M : Mem} {q n : Nat} (h : Z0 M n) (hn : q + 4 ≤ n) : Z0 (k_X0 M q) n := by
  unfold k_X0
  exact (z_X0_0 h (by omega))
theorem n_X0 {M : Mem} {q b j : Nat} {x : Option Nat} (h : gR M b j = x) (hb : b < q) : gR (k_X0 M q) b j = x := by
  unfold k_X0
  exact (n_X0_0 h hb)
set_option maxHeartbeats 4000000 in
theorem i_X0 {l : Launch} {S : Shp} {q : Nat} {M : Mem} (hS : Blk S q bk_X0) (hZ : Z0 M (q + 1)) : CG l yX0_init cX0_init 1 1 12 3 71 S q (q + 4) M (k_X0 M q) := by
  refine met_g (own := RX0) (by decide +kernel) rfl rfl (by decide) (fun X hX hG hl hin hc hs hR => ?_)
  subst hl
  refine s_X0_0 hX hG hin hc hs hS hZ  (fun  zz0 => ?_)
  exact g_ret hX hG.1 hR e_X0_init_27
def bk_X5 : List (Nat × Nat) := [(5, 4), (100, 12), (100, 8)]
def k_X5_0 (M : Mem) (q : Nat) : Mem := (sR (sR M q 2 (some (q + 1))) q 3 (some (q + 2)))
theorem z_X5_0 {M : Mem} {q n : Nat} (h : Z0 M n) (hn : q + 3 ≤ n) : Z0 (k_X5_0 M q) n := by
  unfold k_X5_0
  exact ((h.r (show q < n by omega)).r (show q < n by omega))
theorem n_X5_0 {M : Mem} {q b j : Nat} {x : Option Nat} (h : gR M b j = x) (hb : b < q) : gR (k_X5_0 M q) b j = x := by
  unfold k_X5_0
  exact (gR_sRn (gR_sRn h (fun z => absurd z.1 (by omega))) (fun z => absurd z.1 (by omega)))
theorem fpf_5_2 : FPF 5 2 (.array .int) := ⟨_, tyX5, rfl, tyX5_ok, nmX5, rfl, by decide +kernel⟩
theorem fpf_5_3 : FPF 5 3 (.array .int) := ⟨_, tyX5, rfl, tyX5_ok, nmX5, rfl, by decide +kernel⟩
set_option maxHeartbeats 4000000 in
theorem s_X5_0 {X : Cx} {S : Shp} {q : Nat} {M : Mem} (hX : OkX X cX5_init RX5 1 12) (hG : OkG X (q + 1) 0) (hin : X.meth.name = "<init>") (hc : X.R.cells = 2) (hs : X.R.slots = 20) (hS : Blk S q bk_X5) (hZ : Z0 M (q + 1))  (k : Z0 (k_X5_0 M q) (q + 3) → GoN X (cut S (q + 3)) (q + 3) 2 20 (k_X5_0 M q) 20 [some (.ref (X.B + q))] []) : GoN X (cut S (q + 1)) (q + 1) 0 0 M 0 [some (.ref (X.B + q))] [] := by
  refine r_aload_n (i := 0) hX e_X5_init_0 rfl rfl ?_
  refine g_obj hX e_X5_init_1 wk_415 (by decide) (by decide) ?_
  refine r_aload_n (i := 0) hX e_X5_init_4 rfl rfl ?_
  refine r_bipush (v := 12) hX e_X5_init_5 (by decide +kernel) ?_
  have z1 := hZ
  refine h_newI (t := 0) (n' := q + 2) (kc' := 1) (ks' := 12) hX (hG.up 0) e_X5_init_7 rfl rfl rfl rfl (fun _ _ h => h) wk_206 z1 (hS 1 _ rfl) (by decide) (by decide +kernel) (Nat.le_of_ble_eq_true rfl) rfl rfl rfl (by rw [hc]; exact Nat.le_of_ble_eq_true rfl) (by rw [hs]; exact Nat.le_of_ble_eq_true rfl) ?_
  refine g_putRF (r := (q + 1)) hX (hG.up 1).fit hin e_X5_init_9 fl_5_9 fpf_5_2 (fun r h => by cases h; rfl) rfl (cut_o (hS 0 _ rfl) (by omega)) rfl rfl ?_
  refine r_aload_n (i := 0) hX e_X5_init_12 rfl rfl ?_
  refine r_bipush (v := 8) hX e_X5_init_13 (by decide +kernel) ?_
  have z2 := ((z1.r (k := 2) (v := some (q + 1)) (show q < q + 1 by omega)).m (show q + 1 ≤ q + 2 by omega))
  refine h_newI (t := 0) (n' := q + 3) (kc' := 2) (ks' := 20) hX (hG.up 1) e_X5_init_15 rfl rfl rfl rfl (fun _ _ h => h) wk_206 z2 (hS 2 _ rfl) (by decide) (by decide +kernel) (Nat.le_of_ble_eq_true rfl) rfl rfl rfl (by rw [hc]; exact Nat.le_of_ble_eq_true rfl) (by rw [hs]; exact Nat.le_of_ble_eq_true rfl) ?_
  refine g_putRF (r := (q + 2)) hX (hG.up 2).fit hin e_X5_init_17 fl_5_15 fpf_5_3 (fun r h => by cases h; rfl) rfl (cut_o (hS 0 _ rfl) (by omega)) rfl rfl ?_
  exact k  ((z2.r (k := 3) (v := some (q + 2)) (show q < q + 2 by omega)).m (show q + 2 ≤ q + 3 by omega))
def k_X5 (M : Mem) (q : Nat) : Mem := (k_X5_0 M q)
theorem z_X5 {M : Mem} {q n : Nat} (h : Z0 M n) (hn : q + 3 ≤ n) : Z0 (k_X5 M q) n := by
  unfold k_X5
  exact (z_X5_0 h (by omega))
theorem n_X5 {M : Mem} {q b j : Nat} {x : Option Nat} (h : gR M b j = x) (hb : b < q) : gR (k_X5 M q) b j = x := by
  unfold k_X5
  exact (n_X5_0 h hb)
set_option maxHeartbeats 4000000 in
theorem i_X5 {l : Launch} {S : Shp} {q : Nat} {M : Mem} (hS : Blk S q bk_X5) (hZ : Z0 M (q + 1)) : CG l yX5_init cX5_init 1 1 12 2 20 S q (q + 3) M (k_X5 M q) := by
  refine met_g (own := RX5) (by decide +kernel) rfl rfl (by decide) (fun X hX hG hl hin hc hs hR => ?_)
  subst hl
  refine s_X5_0 hX hG hin hc hs hS hZ  (fun  zz0 => ?_)
  exact g_ret hX hG.1 hR e_X5_init_20
def bk_X8 : List (Nat × Nat) := [(8, 4), (101, 60)]
def k_X8_0 (M : Mem) (q : Nat) : Mem := (sR (sI M q 0 (0)) q 3 (some (q + 1)))
theorem z_X8_0 {M : Mem} {q n : Nat} (h : Z0 M n) (hn : q + 2 ≤ n) : Z0 (k_X8_0 M q) n := by
  unfold k_X8_0
  exact ((h.i (show q < n by omega)).r (show q < n by omega))
theorem n_X8_0 {M : Mem} {q b j : Nat} {x : Option Nat} (h : gR M b j = x) (hb : b < q) : gR (k_X8_0 M q) b j = x := by
  unfold k_X8_0
  exact (gR_sRn (gR_sIn h (fun z => absurd z.1 (by omega))) (fun z => absurd z.1 (by omega)))
theorem fpf_8_3 : FPF 8 3 (.array .long) := ⟨_, tyX8, rfl, tyX8_ok, nmX8, rfl, by decide +kernel⟩
set_option maxHeartbeats 4000000 in
theorem s_X8_0 {X : Cx} {S : Shp} {q : Nat} {M : Mem} (hX : OkX X cX8_init RX8 1 12) (hG : OkG X (q + 1) 0) (hin : X.meth.name = "<init>") (hc : X.R.cells = 1) (hs : X.R.slots = 60) (hS : Blk S q bk_X8) (hZ : Z0 M (q + 1))  (k : Z0 (k_X8_0 M q) (q + 2) → GoN X (cut S (q + 2)) (q + 2) 1 60 (k_X8_0 M q) 17 [some (.ref (X.B + q))] []) : GoN X (cut S (q + 1)) (q + 1) 0 0 M 0 [some (.ref (X.B + q))] [] := by
  refine r_aload_n (i := 0) hX e_X8_init_0 rfl rfl ?_
  refine g_obj hX e_X8_init_1 wk_435 (by decide) (by decide) ?_
  refine r_aload_n (i := 0) hX e_X8_init_4 rfl rfl ?_
  refine r_iconst (v := 0) hX e_X8_init_5 (by decide +kernel) ?_
  refine r_putZ hX (hG.up 0).fit rfl rfl e_X8_init_6 fl_8_9 fp_8_0 rfl (cut_o (hS 0 _ rfl) (by omega)) ?_
  refine r_aload_n (i := 0) hX e_X8_init_9 rfl rfl ?_
  refine r_bipush (v := 60) hX e_X8_init_10 (by decide +kernel) ?_
  have z1 := (hZ.i (k := 0) (v := 0) (show q < q + 1 by omega))
  refine h_newL (n' := q + 2) (kc' := 1) (ks' := 60) hX (hG.up 0) e_X8_init_12 wk_409 z1 (hS 1 _ rfl) (by decide) (by decide +kernel) (Nat.le_of_ble_eq_true rfl) rfl rfl rfl (by rw [hc]; exact Nat.le_of_ble_eq_true rfl) (by rw [hs]; exact Nat.le_of_ble_eq_true rfl) ?_
  refine g_putRF (r := (q + 1)) hX (hG.up 1).fit hin e_X8_init_14 fl_8_15 fpf_8_3 (fun r h => by cases h; rfl) rfl (cut_o (hS 0 _ rfl) (by omega)) rfl rfl ?_
  exact k  ((z1.r (k := 3) (v := some (q + 1)) (show q < q + 1 by omega)).m (show q + 1 ≤ q + 2 by omega))
def k_X8 (M : Mem) (q : Nat) : Mem := (k_X8_0 M q)
theorem z_X8 {M : Mem} {q n : Nat} (h : Z0 M n) (hn : q + 2 ≤ n) : Z0 (k_X8 M q) n := by
  unfold k_X8
  exact (z_X8_0 h (by omega))
theorem n_X8 {M : Mem} {q b j : Nat} {x : Option Nat} (h : gR M b j = x) (hb : b < q) : gR (k_X8 M q) b j = x := by
  unfold k_X8
  exact (n_X8_0 h hb)
set_option maxHeartbeats 4000000 in
theorem i_X8 {l : Launch} {S : Shp} {q : Nat} {M : Mem} (hS : Blk S q bk_X8) (hZ : Z0 M (q + 1)) : CG l yX8_init cX8_init 1 1 12 1 60 S q (q + 2) M (k_X8 M q) := by
  refine met_g (own := RX8) (by decide +kernel) rfl rfl (by decide) (fun X hX hG hl hin hc hs hR => ?_)
  subst hl
  refine s_X8_0 hX hG hin hc hs hS hZ  (fun  zz0 => ?_)
  exact g_ret hX hG.1 hR e_X8_init_17
