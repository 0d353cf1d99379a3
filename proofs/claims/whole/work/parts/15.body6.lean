def f_X11_isDraw (M : Mem) (a0 : Nat) (a1 : Int32) (a2 : Int32) : Option (Int32) :=
  gd (oB shR a0 11) <| bd (f_X11_isMarket M a0) fun v2 => if v2 = 0 then some 0 else bd (f_X11_in M ((a1 : Int32).toInt64) 0 2000000000) fun v3 => if v3 = 0 then some 0 else bd (f_X11_in M ((a2 : Int32).toInt64) 0 100) fun v4 => if v4 = 0 then some 0 else some 1
theorem t_X11_isDraw {l : Launch} {M : Mem} {a0 : Nat} {a1 a2 : Int32} {res : Int32} (hf : f_X11_isDraw M a0 a1 a2 = some res) : Ci l yX11_isDraw cX11_isDraw 3 (some .boolean) 1 25 shR nR (fun B => [.ref (B + a0), .int a1, .int a2]) M (M, res) := by
  refine met_i (own := RX11) (lo := fun B => [some (.ref (B + a0)), some (.int a1), some (.int a2)]) (by decide +kernel) rfl shR_ok (fun _ => rfl) (fun _ => rfl) (fun _ => Nat.le_of_ble_eq_true rfl) (fun X hX hn hlx hR => ?_)
  refine r_aload_n (i := 0) hX e_X11_isDraw_0 rfl rfl ?_
  obtain ⟨g1, hf⟩ := gd_s hf
  obtain ⟨v2, hv2, hf⟩ := bd_s hf
  refine r_cvi (As := fun B => []) hX hn (t_X11_isMarket hv2) e_X11_isDraw_1 cw_X11_isMarket cv_X11_isMarket lk_11_403 ⟨Nat.le_of_ble_eq_true rfl, Nat.le_of_ble_eq_true rfl⟩ (ci := 11) rfl rfl (Nat.le_of_ble_eq_true rfl) g1 rfl rfl (Nat.le_of_ble_eq_true rfl) ⟨Nat.zero_le _, Nat.zero_le _⟩ ?_
  refine r_if_eq hX e_X11_isDraw_4 (fun hc => ?_) (fun hc => ?_)
  · have hf := ite_t hf hc
    refine r_iconst hX e_X11_isDraw_35 ic_0 ?_
    exact r_zret hX hR rfl e_X11_isDraw_36 (ro_s hf)
  · have hf := ite_f hf hc
    refine r_iload_n (i := 1) hX e_X11_isDraw_7 rfl rfl ?_
    refine r_i2l hX e_X11_isDraw_8 ?_
    refine r_lconst hX e_X11_isDraw_9 lc_0 ?_
    refine r_ldc2 hX e_X11_isDraw_10 wk_1714 ?_
    obtain ⟨v3, hv3, hf⟩ := bd_s hf
    refine r_csi (As := fun B => [.long ((a1 : Int32).toInt64), .long (0), .long (2000000000)]) hX hn (t_X11_in hv3) e_X11_isDraw_13 cw_X11_in cv_X11_in lk_11_127 ⟨Nat.le_of_ble_eq_true rfl, Nat.le_of_ble_eq_true rfl⟩ rfl rfl (Nat.le_of_ble_eq_true rfl) ⟨Nat.zero_le _, Nat.zero_le _⟩ ?_
    refine r_if_eq hX e_X11_isDraw_16 (fun hc => ?_) (fun hc => ?_)
    · have hf := ite_t hf hc
      refine r_iconst hX e_X11_isDraw_35 ic_0 ?_
      exact r_zret hX hR rfl e_X11_isDraw_36 (ro_s hf)
    · have hf := ite_f hf hc
      refine r_iload_n (i := 2) hX e_X11_isDraw_19 rfl rfl ?_
      refine r_i2l hX e_X11_isDraw_20 ?_
      refine r_lconst hX e_X11_isDraw_21 lc_0 ?_
      refine r_ldc2 hX e_X11_isDraw_22 wk_1500 ?_
      obtain ⟨v4, hv4, hf⟩ := bd_s hf
      refine r_csi (As := fun B => [.long ((a2 : Int32).toInt64), .long (0), .long (100)]) hX hn (t_X11_in hv4) e_X11_isDraw_25 cw_X11_in cv_X11_in lk_11_127 ⟨Nat.le_of_ble_eq_true rfl, Nat.le_of_ble_eq_true rfl⟩ rfl rfl (Nat.le_of_ble_eq_true rfl) ⟨Nat.zero_le _, Nat.zero_le _⟩ ?_
      refine r_if_eq hX e_X11_isDraw_28 (fun hc => ?_) (fun hc => ?_)
      · have hf := ite_t hf hc
        refine r_iconst hX e_X11_isDraw_35 ic_0 ?_
        exact r_zret hX hR rfl e_X11_isDraw_36 (ro_s hf)
      · have hf := ite_f hf hc
        refine r_iconst hX e_X11_isDraw_31 ic_1 ?_
        refine r_goto hX e_X11_isDraw_32 ?_
        exact r_zret hX hR rfl e_X11_isDraw_36 (ro_s hf)
def f_X11_drawn (M : Mem) (a0 : Nat) (a1 : Int32) (a2 : Int32) : Option (Mem × Int32) :=
  gd (oB shR a0 11) <| nx (sI M a0 0 0) fun M2 => bd (f_X11_isDraw M2 a0 a1 a2) fun v3 => if v3 = 0 then some (M2, (-2)) else bd (f_X11_draws M2 a0 ((a1 : Int32).toInt64) a2) fun u4 => some (u4, (gI u4 a0 46))
theorem t_X11_drawn {l : Launch} {M : Mem} {a0 : Nat} {a1 a2 : Int32} {res : Mem × Int32} (hf : f_X11_drawn M a0 a1 a2 = some res) : Ci l yX11_drawn cX11_drawn 3 (some .int) 5 119 shR nR (fun B => [.ref (B + a0), .int a1, .int a2]) M res := by
  refine met_i (own := RX11) (lo := fun B => [some (.ref (B + a0)), some (.int a1), some (.int a2)]) (by decide +kernel) rfl shR_ok (fun _ => rfl) (fun _ => rfl) (fun _ => Nat.le_of_ble_eq_true rfl) (fun X hX hn hlx hR => ?_)
  refine r_aload_n (i := 0) hX e_X11_drawn_0 rfl rfl ?_
  refine r_iconst hX e_X11_drawn_1 ic_0 ?_
  obtain ⟨g1, hf⟩ := gd_s hf
  obtain ⟨M2, hM2, hf⟩ := nx_s hf
  refine r_putI hX hn hM2 e_X11_drawn_2 fl_11_122 fp_11_0 rfl g1 ?_
  refine r_aload_n (i := 0) hX e_X11_drawn_5 rfl rfl ?_
  refine r_iload_n (i := 1) hX e_X11_drawn_6 rfl rfl ?_
  refine r_iload_n (i := 2) hX e_X11_drawn_7 rfl rfl ?_
  obtain ⟨v3, hv3, hf⟩ := bd_s hf
  refine r_cvi (As := fun B => [.int (a1), .int (a2)]) hX hn (t_X11_isDraw hv3) e_X11_drawn_8 cw_X11_isDraw cv_X11_isDraw lk_11_451 ⟨Nat.le_of_ble_eq_true rfl, Nat.le_of_ble_eq_true rfl⟩ (ci := 11) rfl rfl (Nat.le_of_ble_eq_true rfl) g1 rfl rfl (Nat.le_of_ble_eq_true rfl) ⟨Nat.zero_le _, Nat.zero_le _⟩ ?_
  refine r_if_ne hX e_X11_drawn_11 (fun hc => ?_) (fun hc => ?_)
  · have hf := ite_f hf hc
    refine r_aload_n (i := 0) hX e_X11_drawn_17 rfl rfl ?_
    refine r_iload_n (i := 1) hX e_X11_drawn_18 rfl rfl ?_
    refine r_i2l hX e_X11_drawn_19 ?_
    refine r_iload_n (i := 2) hX e_X11_drawn_20 rfl rfl ?_
    obtain ⟨u4, hu4, hf⟩ := bd_s hf
    refine r_cvv (As := fun B => [.long ((a1 : Int32).toInt64), .int (a2)]) hX hn (t_X11_draws hu4) e_X11_drawn_21 cw_X11_draws cv_X11_draws lk_11_454 ⟨Nat.le_of_ble_eq_true rfl, Nat.le_of_ble_eq_true rfl⟩ (ci := 11) rfl rfl (Nat.le_of_ble_eq_true rfl) g1 rfl rfl (Nat.le_of_ble_eq_true rfl) ⟨Nat.zero_le _, Nat.zero_le _⟩ ?_
    refine r_aload_n (i := 0) hX e_X11_drawn_24 rfl rfl ?_
    refine r_getI hX hn e_X11_drawn_25 fl_11_371 rfl g1 ?_
    exact r_iret hX hR e_X11_drawn_28 hf
  · have hf := ite_t hf hc
    refine r_bipush hX e_X11_drawn_14 bc_m2 ?_
    exact r_iret hX hR e_X11_drawn_16 hf
def s_X11_chance_44 (k44 : Mem → Nat → Int32 → Int32 → Int32 → Int32 → Int32 → Int32 → Option (Mem × Int32)) (M : Mem) (x0 : Nat) (x1 : Int32) (x2 : Int32) (x3 : Int32) (x4 : Int32) (x5 : Int32) (x6 : Int32) : Option (Mem × Int32) :=
  if x2 ≤ x6 then some (M, x5) else gd (oB shR x0 11) <| bd (f_X11_draws M x0 ((x1 : Int32).toInt64 + (x6 : Int32).toInt64) x3) fun u2 => bd (f_X11_lackOf u2 x0 x4) fun v3 => if v3 = 0 then k44 u2 (x0) (x1) (x2) (x3) (x4) ((x5 + 1)) ((x6 + 1)) else k44 u2 (x0) (x1) (x2) (x3) (x4) ((x5 + 0)) ((x6 + 1))
def f_X11_chance_44  : Nat → Mem → Nat → Int32 → Int32 → Int32 → Int32 → Int32 → Int32 → Option (Mem × Int32)
  | 0 => fun _ _ _ _ _ _ _ _ => none
  | n + 1 => fun y0 y1 y2 y3 y4 y5 y6 y7 => s_X11_chance_44  (f_X11_chance_44  n) y0 y1 y2 y3 y4 y5 y6 y7
def f_X11_chance (M : Mem) (a0 : Nat) (a1 : Int32) (a2 : Int32) (a3 : Int32) (a4 : Int32) : Option (Mem × Int32) :=
  gd (oB shR a0 11) <| nx (sI M a0 0 0) fun M2 => bd (f_X11_isDraw M2 a0 a1 a3) fun v3 => if v3 = 0 then some (M2, (-2)) else bd (f_X11_in M2 ((a2 : Int32).toInt64) 1 20) fun v4 => if v4 = 0 then some (M2, (-2)) else bd (f_X11_isBuyer M2 a0 a4) fun v5 => if v5 = 0 then some (M2, (-2)) else f_X11_chance_44 FU M2 (a0) (a1) (a2) (a3) (a4) (0) (0)
theorem t_s_X11_chance_44 {X : Cx} {res : Mem × Int32} {k44 : Mem → Nat → Int32 → Int32 → Int32 → Int32 → Int32 → Int32 → Option (Mem × Int32)} (hX : OkX X cX11_chance RX11 5 119) (hn : Fit X shR nR) (hR : RetI X shR nR .int res) (hk44 : ∀ M x0 x1 x2 x3 x4 x5 x6, k44 M x0 x1 x2 x3 x4 x5 x6 = some res → GoN X shR nR 0 0 M 44 [some (.ref (X.B + x0)), some (.int (x1)), some (.int (x2)), some (.int (x3)), some (.int (x4)), some (.int (x5)), some (.int (x6))] []) (M : Mem) (x0 : Nat) (x1 : Int32) (x2 : Int32) (x3 : Int32) (x4 : Int32) (x5 : Int32) (x6 : Int32) (hf : s_X11_chance_44 k44 M x0 x1 x2 x3 x4 x5 x6 = some res) : GoN X shR nR 0 0 M 44 [some (.ref (X.B + x0)), some (.int (x1)), some (.int (x2)), some (.int (x3)), some (.int (x4)), some (.int (x5)), some (.int (x6))] [] := by
  refine r_iload hX e_X11_chance_44 rfl ?_
  refine r_iload_n (i := 2) hX e_X11_chance_46 rfl rfl ?_
  refine r_icmp_ge hX e_X11_chance_47 (fun hc => ?_) (fun hc => ?_)
  · have hf := ite_t hf hc
    refine r_iload hX e_X11_chance_86 rfl ?_
    exact r_iret hX hR e_X11_chance_88 hf
  · have hf := ite_f hf hc
    refine r_aload_n (i := 0) hX e_X11_chance_50 rfl rfl ?_
    refine r_iload_n (i := 1) hX e_X11_chance_51 rfl rfl ?_
    refine r_i2l hX e_X11_chance_52 ?_
    refine r_iload hX e_X11_chance_53 rfl ?_
    refine r_i2l hX e_X11_chance_55 ?_
    refine r_ladd hX e_X11_chance_56 ?_
    refine r_iload_n (i := 3) hX e_X11_chance_57 rfl rfl ?_
    obtain ⟨g1, hf⟩ := gd_s hf
    obtain ⟨u2, hu2, hf⟩ := bd_s hf
    refine r_cvv (As := fun B => [.long (((x1 : Int32).toInt64 + (x6 : Int32).toInt64)), .int (x3)]) hX hn (t_X11_draws hu2) e_X11_chance_58 cw_X11_draws cv_X11_draws lk_11_454 ⟨Nat.le_of_ble_eq_true rfl, Nat.le_of_ble_eq_true rfl⟩ (ci := 11) rfl rfl (Nat.le_of_ble_eq_true rfl) g1 rfl rfl (Nat.le_of_ble_eq_true rfl) ⟨Nat.zero_le _, Nat.zero_le _⟩ ?_
    refine r_iload hX e_X11_chance_61 rfl ?_
    refine r_aload_n (i := 0) hX e_X11_chance_63 rfl rfl ?_
    refine r_iload hX e_X11_chance_64 rfl ?_
    obtain ⟨v3, hv3, hf⟩ := bd_s hf
    refine r_cvi (As := fun B => [.int (x4)]) hX hn (t_X11_lackOf hv3) e_X11_chance_66 cw_X11_lackOf cv_X11_lackOf lk_11_368 ⟨Nat.le_of_ble_eq_true rfl, Nat.le_of_ble_eq_true rfl⟩ (ci := 11) rfl rfl (Nat.le_of_ble_eq_true rfl) g1 rfl rfl (Nat.le_of_ble_eq_true rfl) ⟨Nat.zero_le _, Nat.zero_le _⟩ ?_
    refine r_if_ne hX e_X11_chance_69 (fun hc => ?_) (fun hc => ?_)
    · have hf := ite_f hf hc
      refine r_iconst hX e_X11_chance_76 ic_0 ?_
      refine r_iadd hX e_X11_chance_77 ?_
      refine r_istore hX e_X11_chance_78 (Nat.le_of_ble_eq_true rfl) rfl ?_
      refine r_iinc (v := x6 + 1) hX e_X11_chance_80 rfl (ii_s ic_1) (Nat.le_of_ble_eq_true rfl) rfl ?_
      refine r_goto hX e_X11_chance_83 ?_
      exact GoN.weak (hk44 u2 (x0) (x1) (x2) (x3) (x4) ((x5 + 0)) ((x6 + 1)) hf) rfl (sb_s (sb_s (sb_s (sb_s (sb_s (sb_s (sb_s (sb_z _))))))))
    · have hf := ite_t hf hc
      refine r_iconst hX e_X11_chance_72 ic_1 ?_
      refine r_goto hX e_X11_chance_73 ?_
      refine r_iadd hX e_X11_chance_77 ?_
      refine r_istore hX e_X11_chance_78 (Nat.le_of_ble_eq_true rfl) rfl ?_
      refine r_iinc (v := x6 + 1) hX e_X11_chance_80 rfl (ii_s ic_1) (Nat.le_of_ble_eq_true rfl) rfl ?_
      refine r_goto hX e_X11_chance_83 ?_
      exact GoN.weak (hk44 u2 (x0) (x1) (x2) (x3) (x4) ((x5 + 1)) ((x6 + 1)) hf) rfl (sb_s (sb_s (sb_s (sb_s (sb_s (sb_s (sb_s (sb_z _))))))))
theorem t_X11_chance_44 {X : Cx} {res : Mem × Int32}  (hX : OkX X cX11_chance RX11 5 119) (hn : Fit X shR nR) (hR : RetI X shR nR .int res)  : ∀ (n : Nat) (M : Mem) (x0 : Nat) (x1 : Int32) (x2 : Int32) (x3 : Int32) (x4 : Int32) (x5 : Int32) (x6 : Int32),  f_X11_chance_44  n M x0 x1 x2 x3 x4 x5 x6 = some res → GoN X shR nR 0 0 M 44 [some (.ref (X.B + x0)), some (.int (x1)), some (.int (x2)), some (.int (x3)), some (.int (x4)), some (.int (x5)), some (.int (x6))] [] := by
  intro n
  induction n with
  | zero => intro M x0 x1 x2 x3 x4 x5 x6 hf; cases hf
  | succ n ih => intro M x0 x1 x2 x3 x4 x5 x6 hf; exact t_s_X11_chance_44 hX hn hR  ih M x0 x1 x2 x3 x4 x5 x6 hf
theorem t_X11_chance {l : Launch} {M : Mem} {a0 : Nat} {a1 a2 a3 a4 : Int32} {res : Mem × Int32} (hf : f_X11_chance M a0 a1 a2 a3 a4 = some res) : Ci l yX11_chance cX11_chance 7 (some .int) 5 119 shR nR (fun B => [.ref (B + a0), .int a1, .int a2, .int a3, .int a4]) M res := by
  refine met_i (own := RX11) (lo := fun B => [some (.ref (B + a0)), some (.int a1), some (.int a2), some (.int a3), some (.int a4), none, none]) (by decide +kernel) rfl shR_ok (fun _ => rfl) (fun _ => rfl) (fun _ => Nat.le_of_ble_eq_true rfl) (fun X hX hn hlx hR => ?_)
  refine r_aload_n (i := 0) hX e_X11_chance_0 rfl rfl ?_
  refine r_iconst hX e_X11_chance_1 ic_0 ?_
  obtain ⟨g1, hf⟩ := gd_s hf
  obtain ⟨M2, hM2, hf⟩ := nx_s hf
  refine r_putI hX hn hM2 e_X11_chance_2 fl_11_122 fp_11_0 rfl g1 ?_
  refine r_aload_n (i := 0) hX e_X11_chance_5 rfl rfl ?_
  refine r_iload_n (i := 1) hX e_X11_chance_6 rfl rfl ?_
  refine r_iload_n (i := 3) hX e_X11_chance_7 rfl rfl ?_
  obtain ⟨v3, hv3, hf⟩ := bd_s hf
  refine r_cvi (As := fun B => [.int (a1), .int (a3)]) hX hn (t_X11_isDraw hv3) e_X11_chance_8 cw_X11_isDraw cv_X11_isDraw lk_11_451 ⟨Nat.le_of_ble_eq_true rfl, Nat.le_of_ble_eq_true rfl⟩ (ci := 11) rfl rfl (Nat.le_of_ble_eq_true rfl) g1 rfl rfl (Nat.le_of_ble_eq_true rfl) ⟨Nat.zero_le _, Nat.zero_le _⟩ ?_
  refine r_if_eq hX e_X11_chance_11 (fun hc => ?_) (fun hc => ?_)
  · have hf := ite_t hf hc
    refine r_bipush hX e_X11_chance_35 bc_m2 ?_
    exact r_iret hX hR e_X11_chance_37 hf
  · have hf := ite_f hf hc
    refine r_iload_n (i := 2) hX e_X11_chance_14 rfl rfl ?_
    refine r_i2l hX e_X11_chance_15 ?_
    refine r_lconst hX e_X11_chance_16 lc_1 ?_
    refine r_ldc2 hX e_X11_chance_17 wk_1675 ?_
    obtain ⟨v4, hv4, hf⟩ := bd_s hf
    refine r_csi (As := fun B => [.long ((a2 : Int32).toInt64), .long (1), .long (20)]) hX hn (t_X11_in hv4) e_X11_chance_20 cw_X11_in cv_X11_in lk_11_127 ⟨Nat.le_of_ble_eq_true rfl, Nat.le_of_ble_eq_true rfl⟩ rfl rfl (Nat.le_of_ble_eq_true rfl) ⟨Nat.zero_le _, Nat.zero_le _⟩ ?_
    refine r_if_eq hX e_X11_chance_23 (fun hc => ?_) (fun hc => ?_)
    · have hf := ite_t hf hc
      refine r_bipush hX e_X11_chance_35 bc_m2 ?_
      exact r_iret hX hR e_X11_chance_37 hf
    · have hf := ite_f hf hc
      refine r_aload_n (i := 0) hX e_X11_chance_26 rfl rfl ?_
      refine r_iload hX e_X11_chance_27 rfl ?_
      obtain ⟨v5, hv5, hf⟩ := bd_s hf
      refine r_cvi (As := fun B => [.int (a4)]) hX hn (t_X11_isBuyer hv5) e_X11_chance_29 cw_X11_isBuyer cv_X11_isBuyer lk_11_313 ⟨Nat.le_of_ble_eq_true rfl, Nat.le_of_ble_eq_true rfl⟩ (ci := 11) rfl rfl (Nat.le_of_ble_eq_true rfl) g1 rfl rfl (Nat.le_of_ble_eq_true rfl) ⟨Nat.zero_le _, Nat.zero_le _⟩ ?_
      refine r_if_ne hX e_X11_chance_32 (fun hc => ?_) (fun hc => ?_)
      · have hf := ite_f hf hc
        refine r_iconst hX e_X11_chance_38 ic_0 ?_
        refine r_istore hX e_X11_chance_39 (Nat.le_of_ble_eq_true rfl) rfl ?_
        refine r_iconst hX e_X11_chance_41 ic_0 ?_
        refine r_istore hX e_X11_chance_42 (Nat.le_of_ble_eq_true rfl) rfl ?_
        exact GoN.weak (t_X11_chance_44 hX hn hR FU M2 (a0) (a1) (a2) (a3) (a4) (0) (0) hf) rfl (sb_s (sb_s (sb_s (sb_s (sb_s (sb_s (sb_s (sb_z _))))))))
      · have hf := ite_t hf hc
        refine r_bipush hX e_X11_chance_35 bc_m2 ?_
        exact r_iret hX hR e_X11_chance_37 hf
def s_X11_judge_41 (k41 : Mem → Nat → Int32 → Int32 → Option (Mem × Int32)) (M : Mem) (x0 : Nat) (x1 : Int32) (x2 : Int32) : Option (Mem × Int32) :=
  gd (oB shR x0 11) <| bd (gR M x0 2) fun r2 => gd (aB shR r2 0 x1) <| if (gI M r2 (x1 : Int32).toNatClampNeg) ≤ x2 then some (M, x2) else if (gI M x0 46) ≤ x2 then some (M, x2) else bd (gR M x0 3) fun r4 => gd (aB shR r4 1 ((60 * x1) + x2)) <| nx ((gL M r4 (((60 * x1) + x2) : Int32).toNatClampNeg)) fun v6 => bd (gR M x0 45) fun r7 => gd (aB shR r7 0 ((4 * x2) + 3)) <| nx ((gI M r7 (((4 * x2) + 3) : Int32).toNatClampNeg)) fun v9 => if (lg_cmp v6 ((v9 : Int32).toInt64)) = 0 then k41 M (x0) (x1) ((x2 + 1)) else some (M, x2)
def f_X11_judge_41  : Nat → Mem → Nat → Int32 → Int32 → Option (Mem × Int32)
  | 0 => fun _ _ _ _ => none
  | n + 1 => fun y0 y1 y2 y3 => s_X11_judge_41  (f_X11_judge_41  n) y0 y1 y2 y3
def f_X11_judge (M : Mem) (a0 : Nat) (a1 : Int32) : Option (Mem × Int32) :=
  gd (oB shR a0 11) <| nx (sI M a0 0 0) fun M2 => bd (f_X11_isSlot M2 a1) fun v3 => if v3 = 0 then some (M2, (-2)) else bd (f_X11_isMarket M2 a0) fun v4 => if v4 = 0 then some (M2, (-2)) else bd (gR M2 a0 1) fun r5 => gd (aB shR r5 0 a1) <| if (gI M2 r5 (a1 : Int32).toNatClampNeg) = (-1) then some (M2, (-6)) else bd (f_X11_plainHour M2 a0) fun u7 => f_X11_judge_41 FU u7 (a0) (a1) (0)
theorem t_s_X11_judge_41 {X : Cx} {res : Mem × Int32} {k41 : Mem → Nat → Int32 → Int32 → Option (Mem × Int32)} (hX : OkX X cX11_judge RX11 5 116) (hn : Fit X shR nR) (hR : RetI X shR nR .int res) (hk41 : ∀ M x0 x1 x2, k41 M x0 x1 x2 = some res → GoN X shR nR 0 0 M 41 [some (.ref (X.B + x0)), some (.int (x1)), some (.int (x2))] []) (M : Mem) (x0 : Nat) (x1 : Int32) (x2 : Int32) (hf : s_X11_judge_41 k41 M x0 x1 x2 = some res) : GoN X shR nR 0 0 M 41 [some (.ref (X.B + x0)), some (.int (x1)), some (.int (x2))] [] := by
  refine r_iload_n (i := 2) hX e_X11_judge_41 rfl rfl ?_
  refine r_aload_n (i := 0) hX e_X11_judge_42 rfl rfl ?_
  obtain ⟨g1, hf⟩ := gd_s hf
  obtain ⟨r2, hr2, hf⟩ := bd_s hf
  refine r_getR hX hn e_X11_judge_43 fl_11_13 rfl g1 hr2 ?_
  refine r_iload_n (i := 1) hX e_X11_judge_46 rfl rfl ?_
  obtain ⟨g3, hf⟩ := gd_s hf
  refine r_iald hX hn e_X11_judge_47 g3 ?_
  refine r_icmp_ge hX e_X11_judge_48 (fun hc => ?_) (fun hc => ?_)
  · have hf := ite_t hf hc
    refine r_iload_n (i := 2) hX e_X11_judge_91 rfl rfl ?_
    exact r_iret hX hR e_X11_judge_92 hf
  · have hf := ite_f hf hc
    refine r_iload_n (i := 2) hX e_X11_judge_51 rfl rfl ?_
    refine r_aload_n (i := 0) hX e_X11_judge_52 rfl rfl ?_
    refine r_getI hX hn e_X11_judge_53 fl_11_371 rfl g1 ?_
    refine r_icmp_ge hX e_X11_judge_56 (fun hc => ?_) (fun hc => ?_)
    · have hf := ite_t hf hc
      refine r_iload_n (i := 2) hX e_X11_judge_91 rfl rfl ?_
      exact r_iret hX hR e_X11_judge_92 hf
    · have hf := ite_f hf hc
      refine r_aload_n (i := 0) hX e_X11_judge_59 rfl rfl ?_
      obtain ⟨r4, hr4, hf⟩ := bd_s hf
      refine r_getR hX hn e_X11_judge_60 fl_11_16 rfl g1 hr4 ?_
      refine r_bipush hX e_X11_judge_63 bc_60 ?_
      refine r_iload_n (i := 1) hX e_X11_judge_65 rfl rfl ?_
      refine r_imul hX e_X11_judge_66 ?_
      refine r_iload_n (i := 2) hX e_X11_judge_67 rfl rfl ?_
      refine r_iadd hX e_X11_judge_68 ?_
      obtain ⟨g5, hf⟩ := gd_s hf
      refine r_lald hX hn e_X11_judge_69 g5 ?_
      obtain ⟨v6, hv6, hf⟩ := nx_s hf
      refine top_l hv6 ?_
      refine r_aload_n (i := 0) hX e_X11_judge_70 rfl rfl ?_
      obtain ⟨r7, hr7, hf⟩ := bd_s hf
      refine r_getR hX hn e_X11_judge_71 fl_11_107 rfl g1 hr7 ?_
      refine r_iconst hX e_X11_judge_74 ic_4 ?_
      refine r_iload_n (i := 2) hX e_X11_judge_75 rfl rfl ?_
      refine r_imul hX e_X11_judge_76 ?_
      refine r_iconst hX e_X11_judge_77 ic_3 ?_
      refine r_iadd hX e_X11_judge_78 ?_
      obtain ⟨g8, hf⟩ := gd_s hf
      refine r_iald hX hn e_X11_judge_79 g8 ?_
      obtain ⟨v9, hv9, hf⟩ := nx_s hf
      refine top_i hv9 ?_
      refine r_i2l hX e_X11_judge_80 ?_
      refine r_lcmp hX e_X11_judge_81 ?_
      refine r_if_ne hX e_X11_judge_82 (fun hc => ?_) (fun hc => ?_)
      · have hf := ite_f hf hc
        refine r_iload_n (i := 2) hX e_X11_judge_91 rfl rfl ?_
        exact r_iret hX hR e_X11_judge_92 hf
      · have hf := ite_t hf hc
        refine r_iinc (v := x2 + 1) hX e_X11_judge_85 rfl (ii_s ic_1) (Nat.le_of_ble_eq_true rfl) rfl ?_
        refine r_goto hX e_X11_judge_88 ?_
        exact GoN.weak (hk41 M (x0) (x1) ((x2 + 1)) hf) rfl (sb_s (sb_s (sb_s (sb_z _))))
theorem t_X11_judge_41 {X : Cx} {res : Mem × Int32}  (hX : OkX X cX11_judge RX11 5 116) (hn : Fit X shR nR) (hR : RetI X shR nR .int res)  : ∀ (n : Nat) (M : Mem) (x0 : Nat) (x1 : Int32) (x2 : Int32),  f_X11_judge_41  n M x0 x1 x2 = some res → GoN X shR nR 0 0 M 41 [some (.ref (X.B + x0)), some (.int (x1)), some (.int (x2))] [] := by
  intro n
  induction n with
  | zero => intro M x0 x1 x2 hf; cases hf
  | succ n ih => intro M x0 x1 x2 hf; exact t_s_X11_judge_41 hX hn hR  ih M x0 x1 x2 hf
theorem t_X11_judge {l : Launch} {M : Mem} {a0 : Nat} {a1 : Int32} {res : Mem × Int32} (hf : f_X11_judge M a0 a1 = some res) : Ci l yX11_judge cX11_judge 3 (some .int) 5 116 shR nR (fun B => [.ref (B + a0), .int a1]) M res := by
  refine met_i (own := RX11) (lo := fun B => [some (.ref (B + a0)), some (.int a1), none]) (by decide +kernel) rfl shR_ok (fun _ => rfl) (fun _ => rfl) (fun _ => Nat.le_of_ble_eq_true rfl) (fun X hX hn hlx hR => ?_)
  refine r_aload_n (i := 0) hX e_X11_judge_0 rfl rfl ?_
  refine r_iconst hX e_X11_judge_1 ic_0 ?_
  obtain ⟨g1, hf⟩ := gd_s hf
  obtain ⟨M2, hM2, hf⟩ := nx_s hf
  refine r_putI hX hn hM2 e_X11_judge_2 fl_11_122 fp_11_0 rfl g1 ?_
  refine r_iload_n (i := 1) hX e_X11_judge_5 rfl rfl ?_
  obtain ⟨v3, hv3, hf⟩ := bd_s hf
  refine r_csi (As := fun B => [.int (a1)]) hX hn (t_X11_isSlot hv3) e_X11_judge_6 cw_X11_isSlot cv_X11_isSlot lk_11_131 ⟨Nat.le_of_ble_eq_true rfl, Nat.le_of_ble_eq_true rfl⟩ rfl rfl (Nat.le_of_ble_eq_true rfl) ⟨Nat.zero_le _, Nat.zero_le _⟩ ?_
  refine r_if_eq hX e_X11_judge_9 (fun hc => ?_) (fun hc => ?_)
  · have hf := ite_t hf hc
    refine r_bipush hX e_X11_judge_19 bc_m2 ?_
    exact r_iret hX hR e_X11_judge_21 hf
  · have hf := ite_f hf hc
    refine r_aload_n (i := 0) hX e_X11_judge_12 rfl rfl ?_
    obtain ⟨v4, hv4, hf⟩ := bd_s hf
    refine r_cvi (As := fun B => []) hX hn (t_X11_isMarket hv4) e_X11_judge_13 cw_X11_isMarket cv_X11_isMarket lk_11_403 ⟨Nat.le_of_ble_eq_true rfl, Nat.le_of_ble_eq_true rfl⟩ (ci := 11) rfl rfl (Nat.le_of_ble_eq_true rfl) g1 rfl rfl (Nat.le_of_ble_eq_true rfl) ⟨Nat.zero_le _, Nat.zero_le _⟩ ?_
    refine r_if_ne hX e_X11_judge_16 (fun hc => ?_) (fun hc => ?_)
    · have hf := ite_f hf hc
      refine r_aload_n (i := 0) hX e_X11_judge_22 rfl rfl ?_
      obtain ⟨r5, hr5, hf⟩ := bd_s hf
      refine r_getR hX hn e_X11_judge_23 fl_11_7 rfl g1 hr5 ?_
      refine r_iload_n (i := 1) hX e_X11_judge_26 rfl rfl ?_
      obtain ⟨g6, hf⟩ := gd_s hf
      refine r_iald hX hn e_X11_judge_27 g6 ?_
      refine r_iconst hX e_X11_judge_28 ic_m1 ?_
      refine r_icmp_ne hX e_X11_judge_29 (fun hc => ?_) (fun hc => ?_)
      · have hf := ite_f hf hc
        refine r_aload_n (i := 0) hX e_X11_judge_35 rfl rfl ?_
        obtain ⟨u7, hu7, hf⟩ := bd_s hf
        refine r_cvv (As := fun B => []) hX hn (t_X11_plainHour hu7) e_X11_judge_36 cw_X11_plainHour cv_X11_plainHour lk_11_400 ⟨Nat.le_of_ble_eq_true rfl, Nat.le_of_ble_eq_true rfl⟩ (ci := 11) rfl rfl (Nat.le_of_ble_eq_true rfl) g1 rfl rfl (Nat.le_of_ble_eq_true rfl) ⟨Nat.zero_le _, Nat.zero_le _⟩ ?_
        refine r_iconst hX e_X11_judge_39 ic_0 ?_
        refine r_istore_n (i := 2) hX e_X11_judge_40 rfl (Nat.le_of_ble_eq_true rfl) rfl ?_
        exact GoN.weak (t_X11_judge_41 hX hn hR FU u7 (a0) (a1) (0) hf) rfl (sb_s (sb_s (sb_s (sb_z _))))
      · have hf := ite_t hf hc
        refine r_bipush hX e_X11_judge_32 bc_m6 ?_
        exact r_iret hX hR e_X11_judge_34 hf
    · have hf := ite_t hf hc
      refine r_bipush hX e_X11_judge_19 bc_m2 ?_
      exact r_iret hX hR e_X11_judge_21 hf
def s_X11_count_98 (k85 : Mem → Nat → Int32 → Int32 → Option (Mem × Int32)) (k98 : Mem → Nat → Int32 → Int32 → Int32 → Option (Mem × Int32)) (M : Mem) (x0 : Nat) (x2 : Int32) (x3 : Int32) (x4 : Int32) : Option (Mem × Int32) :=
  gd (oB shR x0 11) <| bd (gR M x0 17) fun r2 => gd (aB shR r2 0 1) <| if (gI M r2 (1 : Int32).toNatClampNeg) ≤ x4 then k85 M (x0) (x2) ((x3 + 1)) else bd (f_X11_isStuck M x0 x3 x4) fun v4 => if v4 = 0 then k98 M (x0) ((x2 + 0)) (x3) ((x4 + 1)) else k98 M (x0) ((x2 + 1)) (x3) ((x4 + 1))
def f_X11_count_98 (k85 : Mem → Nat → Int32 → Int32 → Option (Mem × Int32)) : Nat → Mem → Nat → Int32 → Int32 → Int32 → Option (Mem × Int32)
  | 0 => fun _ _ _ _ _ => none
  | n + 1 => fun y0 y1 y2 y3 y4 => s_X11_count_98 k85 (f_X11_count_98 k85 n) y0 y1 y2 y3 y4
def s_X11_count_85 (k85 : Mem → Nat → Int32 → Int32 → Option (Mem × Int32)) (M : Mem) (x0 : Nat) (x2 : Int32) (x3 : Int32) : Option (Mem × Int32) :=
  gd (oB shR x0 11) <| bd (gR M x0 17) fun r2 => gd (aB shR r2 0 2) <| if (gI M r2 (2 : Int32).toNatClampNeg) ≤ x3 then some (M, x2) else f_X11_count_98 k85 FU M (x0) (x2) (x3) (0)
def f_X11_count_85  : Nat → Mem → Nat → Int32 → Int32 → Option (Mem × Int32)
  | 0 => fun _ _ _ _ => none
  | n + 1 => fun y0 y1 y2 y3 => s_X11_count_85  (f_X11_count_85  n) y0 y1 y2 y3
def s_X11_count_143 (k143 : Mem → Nat → Int32 → Int32 → Option (Mem × Int32)) (M : Mem) (x0 : Nat) (x2 : Int32) (x3 : Int32) : Option (Mem × Int32) :=
  if 4 ≤ x3 then some (M, x2) else gd (oB shR x0 11) <| bd (gR M x0 1) fun r2 => gd (aB shR r2 0 x3) <| if (gI M r2 (x3 : Int32).toNatClampNeg) = (-1) then k143 M (x0) ((x2 + 0)) ((x3 + 1)) else k143 M (x0) ((x2 + 1)) ((x3 + 1))
def f_X11_count_143  : Nat → Mem → Nat → Int32 → Int32 → Option (Mem × Int32)
  | 0 => fun _ _ _ _ => none
  | n + 1 => fun y0 y1 y2 y3 => s_X11_count_143  (f_X11_count_143  n) y0 y1 y2 y3
def f_X11_count (M : Mem) (a0 : Nat) (a1 : Int32) : Option (Mem × Int32) :=
  gd (oB shR a0 11) <| nx (sI M a0 0 0) fun M2 => if a1 = 0 then bd (gR M2 a0 17) fun r3 => gd (aB shR r3 0 a1) <| some (M2, (gI M2 r3 (a1 : Int32).toNatClampNeg)) else if a1 = 1 then bd (gR M2 a0 17) fun r5 => gd (aB shR r5 0 a1) <| some (M2, (gI M2 r5 (a1 : Int32).toNatClampNeg)) else if a1 = 2 then bd (gR M2 a0 17) fun r7 => gd (aB shR r7 0 a1) <| some (M2, (gI M2 r7 (a1 : Int32).toNatClampNeg)) else if a1 = 3 then bd (gR M2 a0 17) fun r9 => gd (aB shR r9 0 a1) <| some (M2, (gI M2 r9 (a1 : Int32).toNatClampNeg)) else if a1 = 4 then bd (gR M2 a0 17) fun r11 => gd (aB shR r11 0 a1) <| some (M2, (gI M2 r11 (a1 : Int32).toNatClampNeg)) else if a1 = 5 then bd (gR M2 a0 16) fun r13 => gd (aB shR r13 0 0) <| some (M2, (gI M2 r13 (0 : Int32).toNatClampNeg)) else if a1 = 6 then some (M2, (gI M2 a0 6)) else if a1 = 7 then bd (f_X11_plainly M2 a0) fun u15 => f_X11_count_85 FU u15 (a0) (0) (0) else if a1 = 8 then f_X11_count_143 FU M2 (a0) (0) (0) else some (M2, (-1))
theorem t_s_X11_count_98 {X : Cx} {res : Mem × Int32} {k85 : Mem → Nat → Int32 → Int32 → Option (Mem × Int32)} {k98 : Mem → Nat → Int32 → Int32 → Int32 → Option (Mem × Int32)} (hX : OkX X cX11_count RX11 2 48) (hn : Fit X shR nR) (hR : RetI X shR nR .int res) (hk85 : ∀ M x0 x2 x3, k85 M x0 x2 x3 = some res → GoN X shR nR 0 0 M 85 [some (.ref (X.B + x0)), none, some (.int (x2)), some (.int (x3)), none] []) (hk98 : ∀ M x0 x2 x3 x4, k98 M x0 x2 x3 x4 = some res → GoN X shR nR 0 0 M 98 [some (.ref (X.B + x0)), none, some (.int (x2)), some (.int (x3)), some (.int (x4))] []) (M : Mem) (x0 : Nat) (x2 : Int32) (x3 : Int32) (x4 : Int32) (hf : s_X11_count_98 k85 k98 M x0 x2 x3 x4 = some res) : GoN X shR nR 0 0 M 98 [some (.ref (X.B + x0)), none, some (.int (x2)), some (.int (x3)), some (.int (x4))] [] := by
  refine r_iload hX e_X11_count_98 rfl ?_
  refine r_aload_n (i := 0) hX e_X11_count_100 rfl rfl ?_
  obtain ⟨g1, hf⟩ := gd_s hf
  obtain ⟨r2, hr2, hf⟩ := bd_s hf
  refine r_getR hX hn e_X11_count_101 fl_11_34 rfl g1 hr2 ?_
  refine r_iconst hX e_X11_count_104 ic_1 ?_
  obtain ⟨g3, hf⟩ := gd_s hf
  refine r_iald hX hn e_X11_count_105 g3 ?_
  refine r_icmp_ge hX e_X11_count_106 (fun hc => ?_) (fun hc => ?_)
  · have hf := ite_t hf hc
    refine r_iinc (v := x3 + 1) hX e_X11_count_133 rfl (ii_s ic_1) (Nat.le_of_ble_eq_true rfl) rfl ?_
    refine r_goto hX e_X11_count_136 ?_
    exact GoN.weak (hk85 M (x0) (x2) ((x3 + 1)) hf) rfl (sb_s (sb_n (sb_s (sb_s (sb_n (sb_z _))))))
  · have hf := ite_f hf hc
    refine r_iload_n (i := 2) hX e_X11_count_109 rfl rfl ?_
    refine r_aload_n (i := 0) hX e_X11_count_110 rfl rfl ?_
    refine r_iload_n (i := 3) hX e_X11_count_111 rfl rfl ?_
    refine r_iload hX e_X11_count_112 rfl ?_
    obtain ⟨v4, hv4, hf⟩ := bd_s hf
    refine r_cvi (As := fun B => [.int (x3), .int (x4)]) hX hn (t_X11_isStuck hv4) e_X11_count_114 cw_X11_isStuck cv_X11_isStuck lk_11_343 ⟨Nat.le_of_ble_eq_true rfl, Nat.le_of_ble_eq_true rfl⟩ (ci := 11) rfl rfl (Nat.le_of_ble_eq_true rfl) g1 rfl rfl (Nat.le_of_ble_eq_true rfl) ⟨Nat.zero_le _, Nat.zero_le _⟩ ?_
    refine r_if_eq hX e_X11_count_117 (fun hc => ?_) (fun hc => ?_)
    · have hf := ite_t hf hc
      refine r_iconst hX e_X11_count_124 ic_0 ?_
      refine r_iadd hX e_X11_count_125 ?_
      refine r_istore_n (i := 2) hX e_X11_count_126 rfl (Nat.le_of_ble_eq_true rfl) rfl ?_
      refine r_iinc (v := x4 + 1) hX e_X11_count_127 rfl (ii_s ic_1) (Nat.le_of_ble_eq_true rfl) rfl ?_
      refine r_goto hX e_X11_count_130 ?_
      exact GoN.weak (hk98 M (x0) ((x2 + 0)) (x3) ((x4 + 1)) hf) rfl (sb_s (sb_n (sb_s (sb_s (sb_s (sb_z _))))))
    · have hf := ite_f hf hc
      refine r_iconst hX e_X11_count_120 ic_1 ?_
      refine r_goto hX e_X11_count_121 ?_
      refine r_iadd hX e_X11_count_125 ?_
      refine r_istore_n (i := 2) hX e_X11_count_126 rfl (Nat.le_of_ble_eq_true rfl) rfl ?_
      refine r_iinc (v := x4 + 1) hX e_X11_count_127 rfl (ii_s ic_1) (Nat.le_of_ble_eq_true rfl) rfl ?_
      refine r_goto hX e_X11_count_130 ?_
      exact GoN.weak (hk98 M (x0) ((x2 + 1)) (x3) ((x4 + 1)) hf) rfl (sb_s (sb_n (sb_s (sb_s (sb_s (sb_z _))))))
theorem t_X11_count_98 {X : Cx} {res : Mem × Int32} {k85 : Mem → Nat → Int32 → Int32 → Option (Mem × Int32)} (hX : OkX X cX11_count RX11 2 48) (hn : Fit X shR nR) (hR : RetI X shR nR .int res) (hk85 : ∀ M x0 x2 x3, k85 M x0 x2 x3 = some res → GoN X shR nR 0 0 M 85 [some (.ref (X.B + x0)), none, some (.int (x2)), some (.int (x3)), none] []) : ∀ (n : Nat) (M : Mem) (x0 : Nat) (x2 : Int32) (x3 : Int32) (x4 : Int32),  f_X11_count_98 k85 n M x0 x2 x3 x4 = some res → GoN X shR nR 0 0 M 98 [some (.ref (X.B + x0)), none, some (.int (x2)), some (.int (x3)), some (.int (x4))] [] := by
  intro n
  induction n with
  | zero => intro M x0 x2 x3 x4 hf; cases hf
  | succ n ih => intro M x0 x2 x3 x4 hf; exact t_s_X11_count_98 hX hn hR hk85 ih M x0 x2 x3 x4 hf
theorem t_s_X11_count_85 {X : Cx} {res : Mem × Int32} {k85 : Mem → Nat → Int32 → Int32 → Option (Mem × Int32)} (hX : OkX X cX11_count RX11 2 48) (hn : Fit X shR nR) (hR : RetI X shR nR .int res) (hk85 : ∀ M x0 x2 x3, k85 M x0 x2 x3 = some res → GoN X shR nR 0 0 M 85 [some (.ref (X.B + x0)), none, some (.int (x2)), some (.int (x3)), none] []) (M : Mem) (x0 : Nat) (x2 : Int32) (x3 : Int32) (hf : s_X11_count_85 k85 M x0 x2 x3 = some res) : GoN X shR nR 0 0 M 85 [some (.ref (X.B + x0)), none, some (.int (x2)), some (.int (x3)), none] [] := by
  refine r_iload_n (i := 3) hX e_X11_count_85 rfl rfl ?_
  refine r_aload_n (i := 0) hX e_X11_count_86 rfl rfl ?_
  obtain ⟨g1, hf⟩ := gd_s hf
  obtain ⟨r2, hr2, hf⟩ := bd_s hf
  refine r_getR hX hn e_X11_count_87 fl_11_34 rfl g1 hr2 ?_
  refine r_iconst hX e_X11_count_90 ic_2 ?_
  obtain ⟨g3, hf⟩ := gd_s hf
  refine r_iald hX hn e_X11_count_91 g3 ?_
  refine r_icmp_ge hX e_X11_count_92 (fun hc => ?_) (fun hc => ?_)
  · have hf := ite_t hf hc
    refine r_iload_n (i := 2) hX e_X11_count_139 rfl rfl ?_
    exact r_iret hX hR e_X11_count_140 hf
  · have hf := ite_f hf hc
    refine r_iconst hX e_X11_count_95 ic_0 ?_
    refine r_istore hX e_X11_count_96 (Nat.le_of_ble_eq_true rfl) rfl ?_
    exact GoN.weak (t_X11_count_98 hX hn hR hk85 FU M (x0) (x2) (x3) (0) hf) rfl (sb_s (sb_n (sb_s (sb_s (sb_s (sb_z _))))))
theorem t_X11_count_85 {X : Cx} {res : Mem × Int32}  (hX : OkX X cX11_count RX11 2 48) (hn : Fit X shR nR) (hR : RetI X shR nR .int res)  : ∀ (n : Nat) (M : Mem) (x0 : Nat) (x2 : Int32) (x3 : Int32),  f_X11_count_85  n M x0 x2 x3 = some res → GoN X shR nR 0 0 M 85 [some (.ref (X.B + x0)), none, some (.int (x2)), some (.int (x3)), none] [] := by
  intro n
  induction n with
  | zero => intro M x0 x2 x3 hf; cases hf
  | succ n ih => intro M x0 x2 x3 hf; exact t_s_X11_count_85 hX hn hR  ih M x0 x2 x3 hf
theorem t_s_X11_count_143 {X : Cx} {res : Mem × Int32} {k143 : Mem → Nat → Int32 → Int32 → Option (Mem × Int32)} (hX : OkX X cX11_count RX11 2 48) (hn : Fit X shR nR) (hR : RetI X shR nR .int res) (hk143 : ∀ M x0 x2 x3, k143 M x0 x2 x3 = some res → GoN X shR nR 0 0 M 143 [some (.ref (X.B + x0)), none, some (.int (x2)), some (.int (x3)), none] []) (M : Mem) (x0 : Nat) (x2 : Int32) (x3 : Int32) (hf : s_X11_count_143 k143 M x0 x2 x3 = some res) : GoN X shR nR 0 0 M 143 [some (.ref (X.B + x0)), none, some (.int (x2)), some (.int (x3)), none] [] := by
  refine r_iload_n (i := 3) hX e_X11_count_143 rfl rfl ?_
  refine r_iconst hX e_X11_count_144 ic_4 ?_
  refine r_icmp_ge hX e_X11_count_145 (fun hc => ?_) (fun hc => ?_)
  · have hf := ite_t hf hc
    refine r_iload_n (i := 2) hX e_X11_count_172 rfl rfl ?_
    exact r_iret hX hR e_X11_count_173 hf
  · have hf := ite_f hf hc
    refine r_iload_n (i := 2) hX e_X11_count_148 rfl rfl ?_
    refine r_aload_n (i := 0) hX e_X11_count_149 rfl rfl ?_
    obtain ⟨g1, hf⟩ := gd_s hf
    obtain ⟨r2, hr2, hf⟩ := bd_s hf
    refine r_getR hX hn e_X11_count_150 fl_11_7 rfl g1 hr2 ?_
    refine r_iload_n (i := 3) hX e_X11_count_153 rfl rfl ?_
    obtain ⟨g3, hf⟩ := gd_s hf
    refine r_iald hX hn e_X11_count_154 g3 ?_
    refine r_iconst hX e_X11_count_155 ic_m1 ?_
    refine r_icmp_ne hX e_X11_count_156 (fun hc => ?_) (fun hc => ?_)
    · have hf := ite_f hf hc
      refine r_iconst hX e_X11_count_163 ic_1 ?_
      refine r_iadd hX e_X11_count_164 ?_
      refine r_istore_n (i := 2) hX e_X11_count_165 rfl (Nat.le_of_ble_eq_true rfl) rfl ?_
      refine r_iinc (v := x3 + 1) hX e_X11_count_166 rfl (ii_s ic_1) (Nat.le_of_ble_eq_true rfl) rfl ?_
      refine r_goto hX e_X11_count_169 ?_
      exact GoN.weak (hk143 M (x0) ((x2 + 1)) ((x3 + 1)) hf) rfl (sb_s (sb_n (sb_s (sb_s (sb_n (sb_z _))))))
    · have hf := ite_t hf hc
      refine r_iconst hX e_X11_count_159 ic_0 ?_
      refine r_goto hX e_X11_count_160 ?_
      refine r_iadd hX e_X11_count_164 ?_
      refine r_istore_n (i := 2) hX e_X11_count_165 rfl (Nat.le_of_ble_eq_true rfl) rfl ?_
      refine r_iinc (v := x3 + 1) hX e_X11_count_166 rfl (ii_s ic_1) (Nat.le_of_ble_eq_true rfl) rfl ?_
      refine r_goto hX e_X11_count_169 ?_
      exact GoN.weak (hk143 M (x0) ((x2 + 0)) ((x3 + 1)) hf) rfl (sb_s (sb_n (sb_s (sb_s (sb_n (sb_z _))))))
theorem t_X11_count_143 {X : Cx} {res : Mem × Int32}  (hX : OkX X cX11_count RX11 2 48) (hn : Fit X shR nR) (hR : RetI X shR nR .int res)  : ∀ (n : Nat) (M : Mem) (x0 : Nat) (x2 : Int32) (x3 : Int32),  f_X11_count_143  n M x0 x2 x3 = some res → GoN X shR nR 0 0 M 143 [some (.ref (X.B + x0)), none, some (.int (x2)), some (.int (x3)), none] [] := by
  intro n
  induction n with
  | zero => intro M x0 x2 x3 hf; cases hf
  | succ n ih => intro M x0 x2 x3 hf; exact t_s_X11_count_143 hX hn hR  ih M x0 x2 x3 hf
theorem t_X11_count {l : Launch} {M : Mem} {a0 : Nat} {a1 : Int32} {res : Mem × Int32} (hf : f_X11_count M a0 a1 = some res) : Ci l yX11_count cX11_count 5 (some .int) 2 48 shR nR (fun B => [.ref (B + a0), .int a1]) M res := by
  refine met_i (own := RX11) (lo := fun B => [some (.ref (B + a0)), some (.int a1), none, none, none]) (by decide +kernel) rfl shR_ok (fun _ => rfl) (fun _ => rfl) (fun _ => Nat.le_of_ble_eq_true rfl) (fun X hX hn hlx hR => ?_)
  refine r_aload_n (i := 0) hX e_X11_count_0 rfl rfl ?_
  refine r_iconst hX e_X11_count_1 ic_0 ?_
  obtain ⟨g1, hf⟩ := gd_s hf
  obtain ⟨M2, hM2, hf⟩ := nx_s hf
  refine r_putI hX hn hM2 e_X11_count_2 fl_11_122 fp_11_0 rfl g1 ?_
  refine r_iconst hX e_X11_count_5 ic_0 ?_
  refine r_istore_n (i := 2) hX e_X11_count_6 rfl (Nat.le_of_ble_eq_true rfl) rfl ?_
  refine r_iload_n (i := 1) hX e_X11_count_7 rfl rfl ?_
  by_cases hs0 : a1 = 0
  · have hf := ite_t hf hs0
    refine r_tabIn (tgt := 60) hX e_X11_count_8 (by rw [hs0]; decide) (by rw [hs0]; decide) (off := 52) (by rw [hs0]; decide) (by decide) ?_
    refine r_aload_n (i := 0) hX e_X11_count_60 rfl rfl ?_
    obtain ⟨r3, hr3, hf⟩ := bd_s hf
    refine r_getR hX hn e_X11_count_61 fl_11_34 rfl g1 hr3 ?_
    refine r_iload_n (i := 1) hX e_X11_count_64 rfl rfl ?_
    obtain ⟨g4, hf⟩ := gd_s hf
    refine r_iald hX hn e_X11_count_65 g4 ?_
    exact r_iret hX hR e_X11_count_66 hf
  have hf := ite_f hf hs0
  by_cases hs1 : a1 = 1
  · have hf := ite_t hf hs1
    refine r_tabIn (tgt := 60) hX e_X11_count_8 (by rw [hs1]; decide) (by rw [hs1]; decide) (off := 52) (by rw [hs1]; decide) (by decide) ?_
    refine r_aload_n (i := 0) hX e_X11_count_60 rfl rfl ?_
    obtain ⟨r5, hr5, hf⟩ := bd_s hf
    refine r_getR hX hn e_X11_count_61 fl_11_34 rfl g1 hr5 ?_
    refine r_iload_n (i := 1) hX e_X11_count_64 rfl rfl ?_
    obtain ⟨g6, hf⟩ := gd_s hf
    refine r_iald hX hn e_X11_count_65 g6 ?_
    exact r_iret hX hR e_X11_count_66 hf
  have hf := ite_f hf hs1
  by_cases hs2 : a1 = 2
  · have hf := ite_t hf hs2
    refine r_tabIn (tgt := 60) hX e_X11_count_8 (by rw [hs2]; decide) (by rw [hs2]; decide) (off := 52) (by rw [hs2]; decide) (by decide) ?_
    refine r_aload_n (i := 0) hX e_X11_count_60 rfl rfl ?_
    obtain ⟨r7, hr7, hf⟩ := bd_s hf
    refine r_getR hX hn e_X11_count_61 fl_11_34 rfl g1 hr7 ?_
    refine r_iload_n (i := 1) hX e_X11_count_64 rfl rfl ?_
    obtain ⟨g8, hf⟩ := gd_s hf
    refine r_iald hX hn e_X11_count_65 g8 ?_
    exact r_iret hX hR e_X11_count_66 hf
  have hf := ite_f hf hs2
  by_cases hs3 : a1 = 3
  · have hf := ite_t hf hs3
    refine r_tabIn (tgt := 60) hX e_X11_count_8 (by rw [hs3]; decide) (by rw [hs3]; decide) (off := 52) (by rw [hs3]; decide) (by decide) ?_
    refine r_aload_n (i := 0) hX e_X11_count_60 rfl rfl ?_
    obtain ⟨r9, hr9, hf⟩ := bd_s hf
    refine r_getR hX hn e_X11_count_61 fl_11_34 rfl g1 hr9 ?_
    refine r_iload_n (i := 1) hX e_X11_count_64 rfl rfl ?_
    obtain ⟨g10, hf⟩ := gd_s hf
    refine r_iald hX hn e_X11_count_65 g10 ?_
    exact r_iret hX hR e_X11_count_66 hf
  have hf := ite_f hf hs3
  by_cases hs4 : a1 = 4
  · have hf := ite_t hf hs4
    refine r_tabIn (tgt := 60) hX e_X11_count_8 (by rw [hs4]; decide) (by rw [hs4]; decide) (off := 52) (by rw [hs4]; decide) (by decide) ?_
    refine r_aload_n (i := 0) hX e_X11_count_60 rfl rfl ?_
    obtain ⟨r11, hr11, hf⟩ := bd_s hf
    refine r_getR hX hn e_X11_count_61 fl_11_34 rfl g1 hr11 ?_
    refine r_iload_n (i := 1) hX e_X11_count_64 rfl rfl ?_
    obtain ⟨g12, hf⟩ := gd_s hf
    refine r_iald hX hn e_X11_count_65 g12 ?_
    exact r_iret hX hR e_X11_count_66 hf
  have hf := ite_f hf hs4
  by_cases hs5 : a1 = 5
  · have hf := ite_t hf hs5
    refine r_tabIn (tgt := 67) hX e_X11_count_8 (by rw [hs5]; decide) (by rw [hs5]; decide) (off := 59) (by rw [hs5]; decide) (by decide) ?_
    refine r_aload_n (i := 0) hX e_X11_count_67 rfl rfl ?_
    obtain ⟨r13, hr13, hf⟩ := bd_s hf
    refine r_getR hX hn e_X11_count_68 fl_11_31 rfl g1 hr13 ?_
    refine r_iconst hX e_X11_count_71 ic_0 ?_
    obtain ⟨g14, hf⟩ := gd_s hf
    refine r_iald hX hn e_X11_count_72 g14 ?_
    exact r_iret hX hR e_X11_count_73 hf
  have hf := ite_f hf hs5
  by_cases hs6 : a1 = 6
  · have hf := ite_t hf hs6
    refine r_tabIn (tgt := 74) hX e_X11_count_8 (by rw [hs6]; decide) (by rw [hs6]; decide) (off := 66) (by rw [hs6]; decide) (by decide) ?_
    refine r_aload_n (i := 0) hX e_X11_count_74 rfl rfl ?_
    refine r_getI hX hn e_X11_count_75 fl_11_139 rfl g1 ?_
    exact r_iret hX hR e_X11_count_78 hf
  have hf := ite_f hf hs6
  by_cases hs7 : a1 = 7
  · have hf := ite_t hf hs7
    refine r_tabIn (tgt := 79) hX e_X11_count_8 (by rw [hs7]; decide) (by rw [hs7]; decide) (off := 71) (by rw [hs7]; decide) (by decide) ?_
    refine r_aload_n (i := 0) hX e_X11_count_79 rfl rfl ?_
    obtain ⟨u15, hu15, hf⟩ := bd_s hf
    refine r_cvv (As := fun B => []) hX hn (t_X11_plainly hu15) e_X11_count_80 cw_X11_plainly cv_X11_plainly lk_11_347 ⟨Nat.le_of_ble_eq_true rfl, Nat.le_of_ble_eq_true rfl⟩ (ci := 11) rfl rfl (Nat.le_of_ble_eq_true rfl) g1 rfl rfl (Nat.le_of_ble_eq_true rfl) ⟨Nat.zero_le _, Nat.zero_le _⟩ ?_
    refine r_iconst hX e_X11_count_83 ic_0 ?_
    refine r_istore_n (i := 3) hX e_X11_count_84 rfl (Nat.le_of_ble_eq_true rfl) rfl ?_
    exact GoN.weak (t_X11_count_85 hX hn hR FU u15 (a0) (0) (0) hf) rfl (sb_s (sb_n (sb_s (sb_s (sb_n (sb_z _))))))
  have hf := ite_f hf hs7
  by_cases hs8 : a1 = 8
  · have hf := ite_t hf hs8
    refine r_tabIn (tgt := 141) hX e_X11_count_8 (by rw [hs8]; decide) (by rw [hs8]; decide) (off := 133) (by rw [hs8]; decide) (by decide) ?_
    refine r_iconst hX e_X11_count_141 ic_0 ?_
    refine r_istore_n (i := 3) hX e_X11_count_142 rfl (Nat.le_of_ble_eq_true rfl) rfl ?_
    exact GoN.weak (t_X11_count_143 hX hn hR FU M2 (a0) (0) (0) hf) rfl (sb_s (sb_n (sb_s (sb_s (sb_n (sb_z _))))))
  have hf := ite_f hf hs8
  refine r_tabOut (tgt := 174) hX e_X11_count_8 ?_ (by decide) ?_
  · have z0 : a1.toInt ≠ 0 := i32_ne hs0 (by decide); have z1 : a1.toInt ≠ 1 := i32_ne hs1 (by decide); have z2 : a1.toInt ≠ 2 := i32_ne hs2 (by decide); have z3 : a1.toInt ≠ 3 := i32_ne hs3 (by decide); have z4 : a1.toInt ≠ 4 := i32_ne hs4 (by decide); have z5 : a1.toInt ≠ 5 := i32_ne hs5 (by decide); have z6 : a1.toInt ≠ 6 := i32_ne hs6 (by decide); have z7 : a1.toInt ≠ 7 := i32_ne hs7 (by decide); have z8 : a1.toInt ≠ 8 := i32_ne hs8 (by decide); omega
  refine r_iconst hX e_X11_count_174 ic_m1 ?_
  exact r_iret hX hR e_X11_count_175 hf
def f_X11_keep (M : Mem) (a0 : Nat) (a1 : Int32) : Option (Mem × Int32) :=
  gd (oB shR a0 11) <| nx (sI M a0 0 0) fun M2 => bd (f_X11_in M2 ((a1 : Int32).toInt64) 0 2) fun v3 => if v3 = 0 then some (M2, (-2)) else bd (f_X11_copyMarket M2 a0 0 (1 + a1)) fun u4 => bd (gR u4 a0 23) fun r5 => gd (aB shR r5 2 a1) <| nx (sI u4 r5 (a1 : Int32).toNatClampNeg (vp_nar .boolean 1)) fun M7 => some (M7, 0)
theorem t_X11_keep {l : Launch} {M : Mem} {a0 : Nat} {a1 : Int32} {res : Mem × Int32} (hf : f_X11_keep M a0 a1 = some res) : Ci l yX11_keep cX11_keep 2 (some .int) 2 46 shR nR (fun B => [.ref (B + a0), .int a1]) M res := by
  refine met_i (own := RX11) (lo := fun B => [some (.ref (B + a0)), some (.int a1)]) (by decide +kernel) rfl shR_ok (fun _ => rfl) (fun _ => rfl) (fun _ => Nat.le_of_ble_eq_true rfl) (fun X hX hn hlx hR => ?_)
  refine r_aload_n (i := 0) hX e_X11_keep_0 rfl rfl ?_
  refine r_iconst hX e_X11_keep_1 ic_0 ?_
  obtain ⟨g1, hf⟩ := gd_s hf
  obtain ⟨M2, hM2, hf⟩ := nx_s hf
  refine r_putI hX hn hM2 e_X11_keep_2 fl_11_122 fp_11_0 rfl g1 ?_
  refine r_iload_n (i := 1) hX e_X11_keep_5 rfl rfl ?_
  refine r_i2l hX e_X11_keep_6 ?_
  refine r_lconst hX e_X11_keep_7 lc_0 ?_
  refine r_ldc2 hX e_X11_keep_8 wk_1471 ?_
  obtain ⟨v3, hv3, hf⟩ := bd_s hf
  refine r_csi (As := fun B => [.long ((a1 : Int32).toInt64), .long (0), .long (2)]) hX hn (t_X11_in hv3) e_X11_keep_11 cw_X11_in cv_X11_in lk_11_127 ⟨Nat.le_of_ble_eq_true rfl, Nat.le_of_ble_eq_true rfl⟩ rfl rfl (Nat.le_of_ble_eq_true rfl) ⟨Nat.zero_le _, Nat.zero_le _⟩ ?_
  refine r_if_ne hX e_X11_keep_14 (fun hc => ?_) (fun hc => ?_)
  · have hf := ite_f hf hc
    refine r_aload_n (i := 0) hX e_X11_keep_20 rfl rfl ?_
    refine r_iconst hX e_X11_keep_21 ic_0 ?_
    refine r_iconst hX e_X11_keep_22 ic_1 ?_
    refine r_iload_n (i := 1) hX e_X11_keep_23 rfl rfl ?_
    refine r_iadd hX e_X11_keep_24 ?_
    obtain ⟨u4, hu4, hf⟩ := bd_s hf
    refine r_cvv (As := fun B => [.int (0), .int ((1 + a1))]) hX hn (t_X11_copyMarket hu4) e_X11_keep_25 cw_X11_copyMarket cv_X11_copyMarket lk_11_297 ⟨Nat.le_of_ble_eq_true rfl, Nat.le_of_ble_eq_true rfl⟩ (ci := 11) rfl rfl (Nat.le_of_ble_eq_true rfl) g1 rfl rfl (Nat.le_of_ble_eq_true rfl) ⟨Nat.zero_le _, Nat.zero_le _⟩ ?_
    refine r_aload_n (i := 0) hX e_X11_keep_28 rfl rfl ?_
    obtain ⟨r5, hr5, hf⟩ := bd_s hf
    refine r_getR hX hn e_X11_keep_29 fl_11_52 rfl g1 hr5 ?_
    refine r_iload_n (i := 1) hX e_X11_keep_32 rfl rfl ?_
    refine r_iconst hX e_X11_keep_33 ic_1 ?_
    obtain ⟨g6, hf⟩ := gd_s hf
    obtain ⟨M7, hM7, hf⟩ := nx_s hf
    refine r_zast hX hn hM7 e_X11_keep_34 g6 ?_
    refine r_iconst hX e_X11_keep_35 ic_0 ?_
    exact r_iret hX hR e_X11_keep_36 hf
  · have hf := ite_t hf hc
    refine r_bipush hX e_X11_keep_17 bc_m2 ?_
    exact r_iret hX hR e_X11_keep_19 hf
def f_X11_back (M : Mem) (a0 : Nat) (a1 : Int32) : Option (Mem × Int32) :=
  gd (oB shR a0 11) <| nx (sI M a0 0 0) fun M2 => bd (f_X11_in M2 ((a1 : Int32).toInt64) 0 2) fun v3 => if v3 = 0 then some (M2, (-2)) else bd (gR M2 a0 23) fun r4 => gd (aB shR r4 2 a1) <| if (gI M2 r4 (a1 : Int32).toNatClampNeg) = 0 then some (M2, (-6)) else bd (f_X11_copyMarket M2 a0 (1 + a1) 0) fun u6 => some (u6, 0)
theorem t_X11_back {l : Launch} {M : Mem} {a0 : Nat} {a1 : Int32} {res : Mem × Int32} (hf : f_X11_back M a0 a1 = some res) : Ci l yX11_back cX11_back 2 (some .int) 2 46 shR nR (fun B => [.ref (B + a0), .int a1]) M res := by
  refine met_i (own := RX11) (lo := fun B => [some (.ref (B + a0)), some (.int a1)]) (by decide +kernel) rfl shR_ok (fun _ => rfl) (fun _ => rfl) (fun _ => Nat.le_of_ble_eq_true rfl) (fun X hX hn hlx hR => ?_)
  refine r_aload_n (i := 0) hX e_X11_back_0 rfl rfl ?_
  refine r_iconst hX e_X11_back_1 ic_0 ?_
  obtain ⟨g1, hf⟩ := gd_s hf
  obtain ⟨M2, hM2, hf⟩ := nx_s hf
  refine r_putI hX hn hM2 e_X11_back_2 fl_11_122 fp_11_0 rfl g1 ?_
  refine r_iload_n (i := 1) hX e_X11_back_5 rfl rfl ?_
  refine r_i2l hX e_X11_back_6 ?_
  refine r_lconst hX e_X11_back_7 lc_0 ?_
  refine r_ldc2 hX e_X11_back_8 wk_1471 ?_
  obtain ⟨v3, hv3, hf⟩ := bd_s hf
  refine r_csi (As := fun B => [.long ((a1 : Int32).toInt64), .long (0), .long (2)]) hX hn (t_X11_in hv3) e_X11_back_11 cw_X11_in cv_X11_in lk_11_127 ⟨Nat.le_of_ble_eq_true rfl, Nat.le_of_ble_eq_true rfl⟩ rfl rfl (Nat.le_of_ble_eq_true rfl) ⟨Nat.zero_le _, Nat.zero_le _⟩ ?_
  refine r_if_ne hX e_X11_back_14 (fun hc => ?_) (fun hc => ?_)
  · have hf := ite_f hf hc
    refine r_aload_n (i := 0) hX e_X11_back_20 rfl rfl ?_
    obtain ⟨r4, hr4, hf⟩ := bd_s hf
    refine r_getR hX hn e_X11_back_21 fl_11_52 rfl g1 hr4 ?_
    refine r_iload_n (i := 1) hX e_X11_back_24 rfl rfl ?_
    obtain ⟨g5, hf⟩ := gd_s hf
    refine r_zald hX hn e_X11_back_25 g5 ?_
    refine r_if_ne hX e_X11_back_26 (fun hc => ?_) (fun hc => ?_)
    · have hf := ite_f hf hc
      refine r_aload_n (i := 0) hX e_X11_back_32 rfl rfl ?_
      refine r_iconst hX e_X11_back_33 ic_1 ?_
      refine r_iload_n (i := 1) hX e_X11_back_34 rfl rfl ?_
      refine r_iadd hX e_X11_back_35 ?_
      refine r_iconst hX e_X11_back_36 ic_0 ?_
      obtain ⟨u6, hu6, hf⟩ := bd_s hf
      refine r_cvv (As := fun B => [.int ((1 + a1)), .int (0)]) hX hn (t_X11_copyMarket hu6) e_X11_back_37 cw_X11_copyMarket cv_X11_copyMarket lk_11_297 ⟨Nat.le_of_ble_eq_true rfl, Nat.le_of_ble_eq_true rfl⟩ (ci := 11) rfl rfl (Nat.le_of_ble_eq_true rfl) g1 rfl rfl (Nat.le_of_ble_eq_true rfl) ⟨Nat.zero_le _, Nat.zero_le _⟩ ?_
      refine r_iconst hX e_X11_back_40 ic_0 ?_
      exact r_iret hX hR e_X11_back_41 hf
    · have hf := ite_t hf hc
      refine r_bipush hX e_X11_back_29 bc_m6 ?_
      exact r_iret hX hR e_X11_back_31 hf
  · have hf := ite_t hf hc
    refine r_bipush hX e_X11_back_17 bc_m2 ?_
    exact r_iret hX hR e_X11_back_19 hf
