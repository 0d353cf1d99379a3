def s_X11_round_58 (k58 : Mem → Nat → Int32 → Int32 → Option (Mem × Int32)) (M : Mem) (x0 : Nat) (x3 : Int32) (x4 : Int32) : Option (Mem × Int32) :=
  gd (oB shR x0 11) <| bd (gR M x0 17) fun r2 => gd (aB shR r2 0 0) <| if (gI M r2 (0 : Int32).toNatClampNeg) ≤ x4 then if x3 = 1000000 then some (M, (-1)) else some (M, x3) else bd (f_X11_isHost M x0 x4) fun v4 => if v4 = 0 then k58 M (x0) (x3) ((x4 + 1)) else bd (gR M x0 52) fun r5 => gd (aB shR r5 0 x4) <| if (gI M r5 (x4 : Int32).toNatClampNeg) ≤ x3 then k58 M (x0) (x3) ((x4 + 1)) else k58 M (x0) ((gI M r5 (x4 : Int32).toNatClampNeg)) ((x4 + 1))
def f_X11_round_58  : Nat → Mem → Nat → Int32 → Int32 → Option (Mem × Int32)
  | 0 => fun _ _ _ _ => none
  | n + 1 => fun y0 y1 y2 y3 => s_X11_round_58  (f_X11_round_58  n) y0 y1 y2 y3
def s_X11_round_32 (k32 : Mem → Nat → Int32 → Int32 → Int32 → Option (Mem × Int32)) (M : Mem) (x0 : Nat) (x1 : Int32) (x2 : Int32) (x3 : Int32) : Option (Mem × Int32) :=
  gd (oB shR x0 11) <| bd (gR M x0 17) fun r2 => gd (aB shR r2 0 0) <| if (gI M r2 (0 : Int32).toNatClampNeg) ≤ x3 then f_X11_round_58 FU M (x0) (x2) (0) else bd (f_X11_goesOn M x0 x1) fun u4 => k32 u4 (x0) (x1) (x2) ((x3 + 1))
def f_X11_round_32  : Nat → Mem → Nat → Int32 → Int32 → Int32 → Option (Mem × Int32)
  | 0 => fun _ _ _ _ _ => none
  | n + 1 => fun y0 y1 y2 y3 y4 => s_X11_round_32  (f_X11_round_32  n) y0 y1 y2 y3 y4
def f_X11_round (M : Mem) (a0 : Nat) (a1 : Int32) (a2 : Int32) : Option (Mem × Int32) :=
  gd (oB shR a0 11) <| nx (sI M a0 0 0) fun M2 => bd (f_X11_isPlace M2 a0 a1) fun v3 => if v3 = 0 then some (M2, (-2)) else bd (f_X11_isMinute M2 a0 a2) fun v4 => if v4 = 0 then some (M2, (-2)) else bd (f_X11_sends M2 a0 a1 a2) fun u5 => f_X11_round_32 FU u5 (a0) (a1) (a2) (0)
theorem t_s_X11_round_58 {X : Cx} {res : Mem × Int32} {k58 : Mem → Nat → Int32 → Int32 → Option (Mem × Int32)} (hX : OkX X cX11_round RX11 5 115) (hn : Fit X shR nR) (hR : RetI X shR nR .int res) (hk58 : ∀ M x0 x3 x4, k58 M x0 x3 x4 = some res → GoN X shR nR 0 0 M 58 [some (.ref (X.B + x0)), none, none, some (.int (x3)), some (.int (x4))] []) (M : Mem) (x0 : Nat) (x3 : Int32) (x4 : Int32) (hf : s_X11_round_58 k58 M x0 x3 x4 = some res) : GoN X shR nR 0 0 M 58 [some (.ref (X.B + x0)), none, none, some (.int (x3)), some (.int (x4))] [] := by
  refine r_iload hX e_X11_round_58 rfl ?_
  refine r_aload_n (i := 0) hX e_X11_round_60 rfl rfl ?_
  obtain ⟨g1, hf⟩ := gd_s hf
  obtain ⟨r2, hr2, hf⟩ := bd_s hf
  refine r_getR hX hn e_X11_round_61 fl_11_34 rfl g1 hr2 ?_
  refine r_iconst hX e_X11_round_64 ic_0 ?_
  obtain ⟨g3, hf⟩ := gd_s hf
  refine r_iald hX hn e_X11_round_65 g3 ?_
  refine r_icmp_ge hX e_X11_round_66 (fun hc => ?_) (fun hc => ?_)
  · have hf := ite_t hf hc
    refine r_iload_n (i := 3) hX e_X11_round_107 rfl rfl ?_
    refine r_ldc hX e_X11_round_108 wk_1348 ?_
    refine r_icmp_ne hX e_X11_round_110 (fun hc => ?_) (fun hc => ?_)
    · have hf := ite_f hf hc
      refine r_iload_n (i := 3) hX e_X11_round_117 rfl rfl ?_
      exact r_iret hX hR e_X11_round_118 hf
    · have hf := ite_t hf hc
      refine r_iconst hX e_X11_round_113 ic_m1 ?_
      refine r_goto hX e_X11_round_114 ?_
      exact r_iret hX hR e_X11_round_118 hf
  · have hf := ite_f hf hc
    refine r_aload_n (i := 0) hX e_X11_round_69 rfl rfl ?_
    refine r_iload hX e_X11_round_70 rfl ?_
    obtain ⟨v4, hv4, hf⟩ := bd_s hf
    refine r_cvi (As := fun K B => [.int (x4)]) hX hn (t_X11_isHost hv4) e_X11_round_72 cw_X11_isHost cv_X11_isHost lk_11_417 ⟨Nat.le_of_ble_eq_true rfl, Nat.le_of_ble_eq_true rfl⟩ (ci := 11) rfl rfl (Nat.le_of_ble_eq_true rfl) g1 rfl rfl (Nat.le_of_ble_eq_true rfl) ⟨Nat.zero_le _, Nat.zero_le _⟩ ?_
    refine r_if_eq hX e_X11_round_75 (fun hc => ?_) (fun hc => ?_)
    · have hf := ite_t hf hc
      refine r_iload_n (i := 3) hX e_X11_round_99 rfl rfl ?_
      refine r_istore_n (i := 3) hX e_X11_round_100 rfl (Nat.le_of_ble_eq_true rfl) rfl ?_
      refine r_iinc (v := x4 + 1) hX e_X11_round_101 rfl (ii_s ic_1) (Nat.le_of_ble_eq_true rfl) rfl ?_
      refine r_goto hX e_X11_round_104 ?_
      exact GoN.weak (hk58 M (x0) (x3) ((x4 + 1)) hf) rfl (sb_s (sb_n (sb_n (sb_s (sb_s (sb_z _))))))
    · have hf := ite_f hf hc
      refine r_aload_n (i := 0) hX e_X11_round_78 rfl rfl ?_
      obtain ⟨r5, hr5, hf⟩ := bd_s hf
      refine r_getR hX hn e_X11_round_79 fl_11_116 rfl g1 hr5 ?_
      refine r_iload hX e_X11_round_82 rfl ?_
      obtain ⟨g6, hf⟩ := gd_s hf
      refine r_iald hX hn e_X11_round_84 g6 ?_
      refine r_iload_n (i := 3) hX e_X11_round_85 rfl rfl ?_
      refine r_icmp_le hX e_X11_round_86 (fun hc => ?_) (fun hc => ?_)
      · have hf := ite_t hf hc
        refine r_iload_n (i := 3) hX e_X11_round_99 rfl rfl ?_
        refine r_istore_n (i := 3) hX e_X11_round_100 rfl (Nat.le_of_ble_eq_true rfl) rfl ?_
        refine r_iinc (v := x4 + 1) hX e_X11_round_101 rfl (ii_s ic_1) (Nat.le_of_ble_eq_true rfl) rfl ?_
        refine r_goto hX e_X11_round_104 ?_
        exact GoN.weak (hk58 M (x0) (x3) ((x4 + 1)) hf) rfl (sb_s (sb_n (sb_n (sb_s (sb_s (sb_z _))))))
      · have hf := ite_f hf hc
        refine r_aload_n (i := 0) hX e_X11_round_89 rfl rfl ?_
        refine r_getR hX hn e_X11_round_90 fl_11_116 rfl g1 hr5 ?_
        refine r_iload hX e_X11_round_93 rfl ?_
        refine r_iald hX hn e_X11_round_95 g6 ?_
        refine r_goto hX e_X11_round_96 ?_
        refine r_istore_n (i := 3) hX e_X11_round_100 rfl (Nat.le_of_ble_eq_true rfl) rfl ?_
        refine r_iinc (v := x4 + 1) hX e_X11_round_101 rfl (ii_s ic_1) (Nat.le_of_ble_eq_true rfl) rfl ?_
        refine r_goto hX e_X11_round_104 ?_
        exact GoN.weak (hk58 M (x0) ((gI M r5 (x4 : Int32).toNatClampNeg)) ((x4 + 1)) hf) rfl (sb_s (sb_n (sb_n (sb_s (sb_s (sb_z _))))))
theorem t_X11_round_58 {X : Cx} {res : Mem × Int32}  (hX : OkX X cX11_round RX11 5 115) (hn : Fit X shR nR) (hR : RetI X shR nR .int res)  : ∀ (n : Nat) (M : Mem) (x0 : Nat) (x3 : Int32) (x4 : Int32),  f_X11_round_58  n M x0 x3 x4 = some res → GoN X shR nR 0 0 M 58 [some (.ref (X.B + x0)), none, none, some (.int (x3)), some (.int (x4))] [] := by
  intro n
  induction n with
  | zero => intro M x0 x3 x4 hf; cases hf
  | succ n ih => intro M x0 x3 x4 hf; exact t_s_X11_round_58 hX hn hR  ih M x0 x3 x4 hf
theorem t_s_X11_round_32 {X : Cx} {res : Mem × Int32} {k32 : Mem → Nat → Int32 → Int32 → Int32 → Option (Mem × Int32)} (hX : OkX X cX11_round RX11 5 115) (hn : Fit X shR nR) (hR : RetI X shR nR .int res) (hk32 : ∀ M x0 x1 x2 x3, k32 M x0 x1 x2 x3 = some res → GoN X shR nR 0 0 M 32 [some (.ref (X.B + x0)), some (.int (x1)), some (.int (x2)), some (.int (x3)), none] []) (M : Mem) (x0 : Nat) (x1 : Int32) (x2 : Int32) (x3 : Int32) (hf : s_X11_round_32 k32 M x0 x1 x2 x3 = some res) : GoN X shR nR 0 0 M 32 [some (.ref (X.B + x0)), some (.int (x1)), some (.int (x2)), some (.int (x3)), none] [] := by
  refine r_iload_n (i := 3) hX e_X11_round_32 rfl rfl ?_
  refine r_aload_n (i := 0) hX e_X11_round_33 rfl rfl ?_
  obtain ⟨g1, hf⟩ := gd_s hf
  obtain ⟨r2, hr2, hf⟩ := bd_s hf
  refine r_getR hX hn e_X11_round_34 fl_11_34 rfl g1 hr2 ?_
  refine r_iconst hX e_X11_round_37 ic_0 ?_
  obtain ⟨g3, hf⟩ := gd_s hf
  refine r_iald hX hn e_X11_round_38 g3 ?_
  refine r_icmp_ge hX e_X11_round_39 (fun hc => ?_) (fun hc => ?_)
  · have hf := ite_t hf hc
    refine r_iload_n (i := 2) hX e_X11_round_53 rfl rfl ?_
    refine r_istore_n (i := 3) hX e_X11_round_54 rfl (Nat.le_of_ble_eq_true rfl) rfl ?_
    refine r_iconst hX e_X11_round_55 ic_0 ?_
    refine r_istore hX e_X11_round_56 (Nat.le_of_ble_eq_true rfl) rfl ?_
    exact GoN.weak (t_X11_round_58 hX hn hR FU M (x0) (x2) (0) hf) rfl (sb_s (sb_n (sb_n (sb_s (sb_s (sb_z _))))))
  · have hf := ite_f hf hc
    refine r_aload_n (i := 0) hX e_X11_round_42 rfl rfl ?_
    refine r_iload_n (i := 1) hX e_X11_round_43 rfl rfl ?_
    obtain ⟨u4, hu4, hf⟩ := bd_s hf
    refine r_cvv (As := fun K B => [.int (x1)]) hX hn (t_X11_goesOn hu4) e_X11_round_44 cw_X11_goesOn cv_X11_goesOn lk_11_426 ⟨Nat.le_of_ble_eq_true rfl, Nat.le_of_ble_eq_true rfl⟩ (ci := 11) rfl rfl (Nat.le_of_ble_eq_true rfl) g1 rfl rfl (Nat.le_of_ble_eq_true rfl) ⟨Nat.zero_le _, Nat.zero_le _⟩ ?_
    refine r_iinc (v := x3 + 1) hX e_X11_round_47 rfl (ii_s ic_1) (Nat.le_of_ble_eq_true rfl) rfl ?_
    refine r_goto hX e_X11_round_50 ?_
    exact GoN.weak (hk32 u4 (x0) (x1) (x2) ((x3 + 1)) hf) rfl (sb_s (sb_s (sb_s (sb_s (sb_n (sb_z _))))))
theorem t_X11_round_32 {X : Cx} {res : Mem × Int32}  (hX : OkX X cX11_round RX11 5 115) (hn : Fit X shR nR) (hR : RetI X shR nR .int res)  : ∀ (n : Nat) (M : Mem) (x0 : Nat) (x1 : Int32) (x2 : Int32) (x3 : Int32),  f_X11_round_32  n M x0 x1 x2 x3 = some res → GoN X shR nR 0 0 M 32 [some (.ref (X.B + x0)), some (.int (x1)), some (.int (x2)), some (.int (x3)), none] [] := by
  intro n
  induction n with
  | zero => intro M x0 x1 x2 x3 hf; cases hf
  | succ n ih => intro M x0 x1 x2 x3 hf; exact t_s_X11_round_32 hX hn hR  ih M x0 x1 x2 x3 hf
theorem t_X11_round {l : Launch} {M : Mem} {a0 : Nat} {a1 a2 : Int32} {res : Mem × Int32} (hf : f_X11_round M a0 a1 a2 = some res) : Ci l yX11_round cX11_round 5 (some .int) 5 115 shR nR (fun K B => [.ref (B + a0), .int a1, .int a2]) M res := by
  refine met_i (own := RX11) (lo := fun K B => [some (.ref (B + a0)), some (.int a1), some (.int a2), none, none]) (by decide +kernel) rfl shR_ok (fun _ _ => rfl) (fun _ _ => rfl) (fun _ _ => Nat.le_of_ble_eq_true rfl) (fun X hX hn hlx hR => ?_)
  refine r_aload_n (i := 0) hX e_X11_round_0 rfl rfl ?_
  refine r_iconst hX e_X11_round_1 ic_0 ?_
  obtain ⟨g1, hf⟩ := gd_s hf
  obtain ⟨M2, hM2, hf⟩ := nx_s hf
  refine r_putI hX hn hM2 e_X11_round_2 fl_11_122 fp_11_0 rfl g1 ?_
  refine r_aload_n (i := 0) hX e_X11_round_5 rfl rfl ?_
  refine r_iload_n (i := 1) hX e_X11_round_6 rfl rfl ?_
  obtain ⟨v3, hv3, hf⟩ := bd_s hf
  refine r_cvi (As := fun K B => [.int (a1)]) hX hn (t_X11_isPlace hv3) e_X11_round_7 cw_X11_isPlace cv_X11_isPlace lk_11_362 ⟨Nat.le_of_ble_eq_true rfl, Nat.le_of_ble_eq_true rfl⟩ (ci := 11) rfl rfl (Nat.le_of_ble_eq_true rfl) g1 rfl rfl (Nat.le_of_ble_eq_true rfl) ⟨Nat.zero_le _, Nat.zero_le _⟩ ?_
  refine r_if_eq hX e_X11_round_10 (fun hc => ?_) (fun hc => ?_)
  · have hf := ite_t hf hc
    refine r_bipush hX e_X11_round_21 bc_m2 ?_
    exact r_iret hX hR e_X11_round_23 hf
  · have hf := ite_f hf hc
    refine r_aload_n (i := 0) hX e_X11_round_13 rfl rfl ?_
    refine r_iload_n (i := 2) hX e_X11_round_14 rfl rfl ?_
    obtain ⟨v4, hv4, hf⟩ := bd_s hf
    refine r_cvi (As := fun K B => [.int (a2)]) hX hn (t_X11_isMinute hv4) e_X11_round_15 cw_X11_isMinute cv_X11_isMinute lk_11_353 ⟨Nat.le_of_ble_eq_true rfl, Nat.le_of_ble_eq_true rfl⟩ (ci := 11) rfl rfl (Nat.le_of_ble_eq_true rfl) g1 rfl rfl (Nat.le_of_ble_eq_true rfl) ⟨Nat.zero_le _, Nat.zero_le _⟩ ?_
    refine r_if_ne hX e_X11_round_18 (fun hc => ?_) (fun hc => ?_)
    · have hf := ite_f hf hc
      refine r_aload_n (i := 0) hX e_X11_round_24 rfl rfl ?_
      refine r_iload_n (i := 1) hX e_X11_round_25 rfl rfl ?_
      refine r_iload_n (i := 2) hX e_X11_round_26 rfl rfl ?_
      obtain ⟨u5, hu5, hf⟩ := bd_s hf
      refine r_cvv (As := fun K B => [.int (a1), .int (a2)]) hX hn (t_X11_sends hu5) e_X11_round_27 cw_X11_sends cv_X11_sends lk_11_423 ⟨Nat.le_of_ble_eq_true rfl, Nat.le_of_ble_eq_true rfl⟩ (ci := 11) rfl rfl (Nat.le_of_ble_eq_true rfl) g1 rfl rfl (Nat.le_of_ble_eq_true rfl) ⟨Nat.zero_le _, Nat.zero_le _⟩ ?_
      refine r_iconst hX e_X11_round_30 ic_0 ?_
      refine r_istore_n (i := 3) hX e_X11_round_31 rfl (Nat.le_of_ble_eq_true rfl) rfl ?_
      exact GoN.weak (t_X11_round_32 hX hn hR FU u5 (a0) (a1) (a2) (0) hf) rfl (sb_s (sb_s (sb_s (sb_s (sb_n (sb_z _))))))
    · have hf := ite_t hf hc
      refine r_bipush hX e_X11_round_21 bc_m2 ?_
      exact r_iret hX hR e_X11_round_23 hf
def f_X11_salesNow (M : Mem) (a0 : Nat) : Option (Mem × Int32) :=
  gd (oB shR a0 11) <| bd (f_X11_plainHour M a0) fun u2 => some (u2, (gI u2 a0 46))
theorem t_X11_salesNow {l : Launch} {M : Mem} {a0 : Nat} {res : Mem × Int32} (hf : f_X11_salesNow M a0 = some res) : Ci l yX11_salesNow cX11_salesNow 1 (some .int) 5 116 shR nR (fun K B => [.ref (B + a0)]) M res := by
  refine met_i (own := RX11) (lo := fun K B => [some (.ref (B + a0))]) (by decide +kernel) rfl shR_ok (fun _ _ => rfl) (fun _ _ => rfl) (fun _ _ => Nat.le_of_ble_eq_true rfl) (fun X hX hn hlx hR => ?_)
  refine r_aload_n (i := 0) hX e_X11_salesNow_0 rfl rfl ?_
  obtain ⟨g1, hf⟩ := gd_s hf
  obtain ⟨u2, hu2, hf⟩ := bd_s hf
  refine r_cvv (As := fun K B => []) hX hn (t_X11_plainHour hu2) e_X11_salesNow_1 cw_X11_plainHour cv_X11_plainHour lk_11_400 ⟨Nat.le_of_ble_eq_true rfl, Nat.le_of_ble_eq_true rfl⟩ (ci := 11) rfl rfl (Nat.le_of_ble_eq_true rfl) g1 rfl rfl (Nat.le_of_ble_eq_true rfl) ⟨Nat.zero_le _, Nat.zero_le _⟩ ?_
  refine r_aload_n (i := 0) hX e_X11_salesNow_4 rfl rfl ?_
  refine r_getI hX hn e_X11_salesNow_5 fl_11_371 rfl g1 ?_
  exact r_iret hX hR e_X11_salesNow_8 hf
def f_X11_change (M : Mem) (a0 : Nat) (a1 : Int32) (a2 : Int32) : Option (Mem) :=
  gd (oB shR a0 11) <| bd (gR M a0 20) fun r2 => gd (aB shR r2 0 (4 * a1)) <| gd (aB shR r2 0 (4 * a2)) <| nx (sI M r2 ((4 * a1) : Int32).toNatClampNeg (gI M r2 ((4 * a2) : Int32).toNatClampNeg)) fun M5 => nx (sI M5 r2 ((4 * a2) : Int32).toNatClampNeg (gI M r2 ((4 * a1) : Int32).toNatClampNeg)) fun M6 => some M6
theorem t_X11_change {l : Launch} {M : Mem} {a0 : Nat} {a1 a2 : Int32} {res : Mem} (hf : f_X11_change M a0 a1 a2 = some res) : Cv l yX11_change cX11_change 4 none 0 0 shR nR (fun K B => [.ref (B + a0), .int a1, .int a2]) M res := by
  refine met_v (own := RX11) (lo := fun K B => [some (.ref (B + a0)), some (.int a1), some (.int a2), none]) (by decide +kernel) rfl shR_ok (fun _ _ => rfl) (fun _ _ => rfl) (fun _ _ => Nat.le_of_ble_eq_true rfl) (fun X hX hn hlx hR => ?_)
  refine r_aload_n (i := 0) hX e_X11_change_0 rfl rfl ?_
  obtain ⟨g1, hf⟩ := gd_s hf
  obtain ⟨r2, hr2, hf⟩ := bd_s hf
  refine r_getR hX hn e_X11_change_1 fl_11_43 rfl g1 hr2 ?_
  refine r_iconst hX e_X11_change_4 ic_4 ?_
  refine r_iload_n (i := 1) hX e_X11_change_5 rfl rfl ?_
  refine r_imul hX e_X11_change_6 ?_
  obtain ⟨g3, hf⟩ := gd_s hf
  refine r_iald hX hn e_X11_change_7 g3 ?_
  refine r_istore_n (i := 3) hX e_X11_change_8 rfl (Nat.le_of_ble_eq_true rfl) rfl ?_
  refine r_aload_n (i := 0) hX e_X11_change_9 rfl rfl ?_
  refine r_getR hX hn e_X11_change_10 fl_11_43 rfl g1 hr2 ?_
  refine r_iconst hX e_X11_change_13 ic_4 ?_
  refine r_iload_n (i := 1) hX e_X11_change_14 rfl rfl ?_
  refine r_imul hX e_X11_change_15 ?_
  refine r_aload_n (i := 0) hX e_X11_change_16 rfl rfl ?_
  refine r_getR hX hn e_X11_change_17 fl_11_43 rfl g1 hr2 ?_
  refine r_iconst hX e_X11_change_20 ic_4 ?_
  refine r_iload_n (i := 2) hX e_X11_change_21 rfl rfl ?_
  refine r_imul hX e_X11_change_22 ?_
  obtain ⟨g4, hf⟩ := gd_s hf
  refine r_iald hX hn e_X11_change_23 g4 ?_
  obtain ⟨M5, hM5, hf⟩ := nx_s hf
  refine r_iast hX hn hM5 e_X11_change_24 g3 ?_
  refine r_aload_n (i := 0) hX e_X11_change_25 rfl rfl ?_
  refine r_getR hX hn e_X11_change_26 fl_11_43 rfl g1 (gR_kI hM5 hr2) ?_
  refine r_iconst hX e_X11_change_29 ic_4 ?_
  refine r_iload_n (i := 2) hX e_X11_change_30 rfl rfl ?_
  refine r_imul hX e_X11_change_31 ?_
  refine r_iload_n (i := 3) hX e_X11_change_32 rfl rfl ?_
  obtain ⟨M6, hM6, hf⟩ := nx_s hf
  refine r_iast hX hn hM6 e_X11_change_33 g4 ?_
  exact r_ret hX hR e_X11_change_34 hf
def s_X11_swap_52 (k35 : Mem → Nat → Int32 → Int32 → Int32 → Int32 → Option (Mem × Int32)) (k52 : Mem → Nat → Int32 → Int32 → Int32 → Int32 → Int32 → Option (Mem × Int32)) (M : Mem) (x0 : Nat) (x1 : Int32) (x2 : Int32) (x3 : Int32) (x4 : Int32) (x5 : Int32) : Option (Mem × Int32) :=
  gd (oB shR x0 11) <| bd (gR M x0 17) fun r2 => gd (aB shR r2 0 4) <| if (gI M r2 (4 : Int32).toNatClampNeg) ≤ x5 then k35 M (x0) (x1) (x2) (x3) ((x4 + 1)) else bd (f_X11_change M x0 x4 x5) fun u4 => bd (f_X11_salesNow u4 x0) fun u5 => bd (f_X11_change u5.1 x0 x4 x5) fun u6 => if x2 < u5.2 then k52 u6 (x0) (x1) (u5.2) (((10 * x4) + x5)) (x4) ((x5 + 1)) else k52 u6 (x0) (x1) (x2) (x3) (x4) ((x5 + 1))
def f_X11_swap_52 (k35 : Mem → Nat → Int32 → Int32 → Int32 → Int32 → Option (Mem × Int32)) : Nat → Mem → Nat → Int32 → Int32 → Int32 → Int32 → Int32 → Option (Mem × Int32)
  | 0 => fun _ _ _ _ _ _ _ => none
  | n + 1 => fun y0 y1 y2 y3 y4 y5 y6 => s_X11_swap_52 k35 (f_X11_swap_52 k35 n) y0 y1 y2 y3 y4 y5 y6
def s_X11_swap_35 (k35 : Mem → Nat → Int32 → Int32 → Int32 → Int32 → Option (Mem × Int32)) (M : Mem) (x0 : Nat) (x1 : Int32) (x2 : Int32) (x3 : Int32) (x4 : Int32) : Option (Mem × Int32) :=
  gd (oB shR x0 11) <| bd (gR M x0 17) fun r2 => gd (aB shR r2 0 4) <| if (gI M r2 (4 : Int32).toNatClampNeg) ≤ x4 then if x1 = 0 then some (M, x2) else some (M, x3) else f_X11_swap_52 k35 FU M (x0) (x1) (x2) (x3) (x4) ((x4 + 1))
def f_X11_swap_35  : Nat → Mem → Nat → Int32 → Int32 → Int32 → Int32 → Option (Mem × Int32)
  | 0 => fun _ _ _ _ _ _ => none
  | n + 1 => fun y0 y1 y2 y3 y4 y5 => s_X11_swap_35  (f_X11_swap_35  n) y0 y1 y2 y3 y4 y5
def f_X11_swap (M : Mem) (a0 : Nat) (a1 : Int32) : Option (Mem × Int32) :=
  gd (oB shR a0 11) <| nx (sI M a0 0 0) fun M2 => bd (f_X11_isMarket M2 a0) fun v3 => if v3 = 0 then some (M2, (-2)) else bd (f_X11_in M2 ((a1 : Int32).toInt64) 0 1) fun v4 => if v4 = 0 then some (M2, (-2)) else bd (f_X11_salesNow M2 a0) fun u5 => f_X11_swap_35 FU u5.1 (a0) (a1) (u5.2) ((-1)) (0)
theorem t_s_X11_swap_52 {X : Cx} {res : Mem × Int32} {k35 : Mem → Nat → Int32 → Int32 → Int32 → Int32 → Option (Mem × Int32)} {k52 : Mem → Nat → Int32 → Int32 → Int32 → Int32 → Int32 → Option (Mem × Int32)} (hX : OkX X cX11_swap RX11 6 136) (hn : Fit X shR nR) (hR : RetI X shR nR .int res) (hk35 : ∀ M x0 x1 x2 x3 x4, k35 M x0 x1 x2 x3 x4 = some res → GoN X shR nR 0 0 M 35 [some (.ref (X.B + x0)), some (.int (x1)), some (.int (x2)), some (.int (x3)), some (.int (x4)), none, none] []) (hk52 : ∀ M x0 x1 x2 x3 x4 x5, k52 M x0 x1 x2 x3 x4 x5 = some res → GoN X shR nR 0 0 M 52 [some (.ref (X.B + x0)), some (.int (x1)), some (.int (x2)), some (.int (x3)), some (.int (x4)), some (.int (x5)), none] []) (M : Mem) (x0 : Nat) (x1 : Int32) (x2 : Int32) (x3 : Int32) (x4 : Int32) (x5 : Int32) (hf : s_X11_swap_52 k35 k52 M x0 x1 x2 x3 x4 x5 = some res) : GoN X shR nR 0 0 M 52 [some (.ref (X.B + x0)), some (.int (x1)), some (.int (x2)), some (.int (x3)), some (.int (x4)), some (.int (x5)), none] [] := by
  refine r_iload hX e_X11_swap_52 rfl ?_
  refine r_aload_n (i := 0) hX e_X11_swap_54 rfl rfl ?_
  obtain ⟨g1, hf⟩ := gd_s hf
  obtain ⟨r2, hr2, hf⟩ := bd_s hf
  refine r_getR hX hn e_X11_swap_55 fl_11_34 rfl g1 hr2 ?_
  refine r_iconst hX e_X11_swap_58 ic_4 ?_
  obtain ⟨g3, hf⟩ := gd_s hf
  refine r_iald hX hn e_X11_swap_59 g3 ?_
  refine r_icmp_ge hX e_X11_swap_60 (fun hc => ?_) (fun hc => ?_)
  · have hf := ite_t hf hc
    refine r_iinc (v := x4 + 1) hX e_X11_swap_112 rfl (ii_s ic_1) (Nat.le_of_ble_eq_true rfl) rfl ?_
    refine r_goto hX e_X11_swap_115 ?_
    exact GoN.weak (hk35 M (x0) (x1) (x2) (x3) ((x4 + 1)) hf) rfl (sb_s (sb_s (sb_s (sb_s (sb_s (sb_n (sb_n (sb_z _))))))))
  · have hf := ite_f hf hc
    refine r_aload_n (i := 0) hX e_X11_swap_63 rfl rfl ?_
    refine r_iload hX e_X11_swap_64 rfl ?_
    refine r_iload hX e_X11_swap_66 rfl ?_
    obtain ⟨u4, hu4, hf⟩ := bd_s hf
    refine r_cvv (As := fun K B => [.int (x4), .int (x5)]) hX hn (t_X11_change hu4) e_X11_swap_68 cw_X11_change cv_X11_change lk_11_433 ⟨Nat.le_of_ble_eq_true rfl, Nat.le_of_ble_eq_true rfl⟩ (ci := 11) rfl rfl (Nat.le_of_ble_eq_true rfl) g1 rfl rfl (Nat.le_of_ble_eq_true rfl) ⟨Nat.zero_le _, Nat.zero_le _⟩ ?_
    refine r_aload_n (i := 0) hX e_X11_swap_71 rfl rfl ?_
    obtain ⟨u5, hu5, hf⟩ := bd_s hf
    refine r_cvi (As := fun K B => []) hX hn (t_X11_salesNow hu5) e_X11_swap_72 cw_X11_salesNow cv_X11_salesNow lk_11_429 ⟨Nat.le_of_ble_eq_true rfl, Nat.le_of_ble_eq_true rfl⟩ (ci := 11) rfl rfl (Nat.le_of_ble_eq_true rfl) g1 rfl rfl (Nat.le_of_ble_eq_true rfl) ⟨Nat.zero_le _, Nat.zero_le _⟩ ?_
    refine r_istore hX e_X11_swap_75 (Nat.le_of_ble_eq_true rfl) rfl ?_
    refine r_aload_n (i := 0) hX e_X11_swap_77 rfl rfl ?_
    refine r_iload hX e_X11_swap_78 rfl ?_
    refine r_iload hX e_X11_swap_80 rfl ?_
    obtain ⟨u6, hu6, hf⟩ := bd_s hf
    refine r_cvv (As := fun K B => [.int (x4), .int (x5)]) hX hn (t_X11_change hu6) e_X11_swap_82 cw_X11_change cv_X11_change lk_11_433 ⟨Nat.le_of_ble_eq_true rfl, Nat.le_of_ble_eq_true rfl⟩ (ci := 11) rfl rfl (Nat.le_of_ble_eq_true rfl) g1 rfl rfl (Nat.le_of_ble_eq_true rfl) ⟨Nat.zero_le _, Nat.zero_le _⟩ ?_
    refine r_iload hX e_X11_swap_85 rfl ?_
    refine r_iload_n (i := 2) hX e_X11_swap_87 rfl rfl ?_
    refine r_icmp_gt hX e_X11_swap_88 (fun hc => ?_) (fun hc => ?_)
    · have hf := ite_t hf hc
      refine r_iload hX e_X11_swap_94 rfl ?_
      refine r_istore_n (i := 2) hX e_X11_swap_96 rfl (Nat.le_of_ble_eq_true rfl) rfl ?_
      refine r_bipush hX e_X11_swap_97 bc_10 ?_
      refine r_iload hX e_X11_swap_99 rfl ?_
      refine r_imul hX e_X11_swap_101 ?_
      refine r_iload hX e_X11_swap_102 rfl ?_
      refine r_iadd hX e_X11_swap_104 ?_
      refine r_istore_n (i := 3) hX e_X11_swap_105 rfl (Nat.le_of_ble_eq_true rfl) rfl ?_
      refine r_iinc (v := x5 + 1) hX e_X11_swap_106 rfl (ii_s ic_1) (Nat.le_of_ble_eq_true rfl) rfl ?_
      refine r_goto hX e_X11_swap_109 ?_
      exact GoN.weak (hk52 u6 (x0) (x1) (u5.2) (((10 * x4) + x5)) (x4) ((x5 + 1)) hf) rfl (sb_s (sb_s (sb_s (sb_s (sb_s (sb_s (sb_n (sb_z _))))))))
    · have hf := ite_f hf hc
      refine r_goto hX e_X11_swap_91 ?_
      refine r_iinc (v := x5 + 1) hX e_X11_swap_106 rfl (ii_s ic_1) (Nat.le_of_ble_eq_true rfl) rfl ?_
      refine r_goto hX e_X11_swap_109 ?_
      exact GoN.weak (hk52 u6 (x0) (x1) (x2) (x3) (x4) ((x5 + 1)) hf) rfl (sb_s (sb_s (sb_s (sb_s (sb_s (sb_s (sb_n (sb_z _))))))))
theorem t_X11_swap_52 {X : Cx} {res : Mem × Int32} {k35 : Mem → Nat → Int32 → Int32 → Int32 → Int32 → Option (Mem × Int32)} (hX : OkX X cX11_swap RX11 6 136) (hn : Fit X shR nR) (hR : RetI X shR nR .int res) (hk35 : ∀ M x0 x1 x2 x3 x4, k35 M x0 x1 x2 x3 x4 = some res → GoN X shR nR 0 0 M 35 [some (.ref (X.B + x0)), some (.int (x1)), some (.int (x2)), some (.int (x3)), some (.int (x4)), none, none] []) : ∀ (n : Nat) (M : Mem) (x0 : Nat) (x1 : Int32) (x2 : Int32) (x3 : Int32) (x4 : Int32) (x5 : Int32),  f_X11_swap_52 k35 n M x0 x1 x2 x3 x4 x5 = some res → GoN X shR nR 0 0 M 52 [some (.ref (X.B + x0)), some (.int (x1)), some (.int (x2)), some (.int (x3)), some (.int (x4)), some (.int (x5)), none] [] := by
  intro n
  induction n with
  | zero => intro M x0 x1 x2 x3 x4 x5 hf; cases hf
  | succ n ih => intro M x0 x1 x2 x3 x4 x5 hf; exact t_s_X11_swap_52 hX hn hR hk35 ih M x0 x1 x2 x3 x4 x5 hf
theorem t_s_X11_swap_35 {X : Cx} {res : Mem × Int32} {k35 : Mem → Nat → Int32 → Int32 → Int32 → Int32 → Option (Mem × Int32)} (hX : OkX X cX11_swap RX11 6 136) (hn : Fit X shR nR) (hR : RetI X shR nR .int res) (hk35 : ∀ M x0 x1 x2 x3 x4, k35 M x0 x1 x2 x3 x4 = some res → GoN X shR nR 0 0 M 35 [some (.ref (X.B + x0)), some (.int (x1)), some (.int (x2)), some (.int (x3)), some (.int (x4)), none, none] []) (M : Mem) (x0 : Nat) (x1 : Int32) (x2 : Int32) (x3 : Int32) (x4 : Int32) (hf : s_X11_swap_35 k35 M x0 x1 x2 x3 x4 = some res) : GoN X shR nR 0 0 M 35 [some (.ref (X.B + x0)), some (.int (x1)), some (.int (x2)), some (.int (x3)), some (.int (x4)), none, none] [] := by
  refine r_iload hX e_X11_swap_35 rfl ?_
  refine r_aload_n (i := 0) hX e_X11_swap_37 rfl rfl ?_
  obtain ⟨g1, hf⟩ := gd_s hf
  obtain ⟨r2, hr2, hf⟩ := bd_s hf
  refine r_getR hX hn e_X11_swap_38 fl_11_34 rfl g1 hr2 ?_
  refine r_iconst hX e_X11_swap_41 ic_4 ?_
  obtain ⟨g3, hf⟩ := gd_s hf
  refine r_iald hX hn e_X11_swap_42 g3 ?_
  refine r_icmp_ge hX e_X11_swap_43 (fun hc => ?_) (fun hc => ?_)
  · have hf := ite_t hf hc
    refine r_iload_n (i := 1) hX e_X11_swap_118 rfl rfl ?_
    refine r_if_ne hX e_X11_swap_119 (fun hc => ?_) (fun hc => ?_)
    · have hf := ite_f hf hc
      refine r_iload_n (i := 3) hX e_X11_swap_126 rfl rfl ?_
      exact r_iret hX hR e_X11_swap_127 hf
    · have hf := ite_t hf hc
      refine r_iload_n (i := 2) hX e_X11_swap_122 rfl rfl ?_
      refine r_goto hX e_X11_swap_123 ?_
      exact r_iret hX hR e_X11_swap_127 hf
  · have hf := ite_f hf hc
    refine r_iload hX e_X11_swap_46 rfl ?_
    refine r_iconst hX e_X11_swap_48 ic_1 ?_
    refine r_iadd hX e_X11_swap_49 ?_
    refine r_istore hX e_X11_swap_50 (Nat.le_of_ble_eq_true rfl) rfl ?_
    exact GoN.weak (t_X11_swap_52 hX hn hR hk35 FU M (x0) (x1) (x2) (x3) (x4) ((x4 + 1)) hf) rfl (sb_s (sb_s (sb_s (sb_s (sb_s (sb_s (sb_n (sb_z _))))))))
theorem t_X11_swap_35 {X : Cx} {res : Mem × Int32}  (hX : OkX X cX11_swap RX11 6 136) (hn : Fit X shR nR) (hR : RetI X shR nR .int res)  : ∀ (n : Nat) (M : Mem) (x0 : Nat) (x1 : Int32) (x2 : Int32) (x3 : Int32) (x4 : Int32),  f_X11_swap_35  n M x0 x1 x2 x3 x4 = some res → GoN X shR nR 0 0 M 35 [some (.ref (X.B + x0)), some (.int (x1)), some (.int (x2)), some (.int (x3)), some (.int (x4)), none, none] [] := by
  intro n
  induction n with
  | zero => intro M x0 x1 x2 x3 x4 hf; cases hf
  | succ n ih => intro M x0 x1 x2 x3 x4 hf; exact t_s_X11_swap_35 hX hn hR  ih M x0 x1 x2 x3 x4 hf
theorem t_X11_swap {l : Launch} {M : Mem} {a0 : Nat} {a1 : Int32} {res : Mem × Int32} (hf : f_X11_swap M a0 a1 = some res) : Ci l yX11_swap cX11_swap 7 (some .int) 6 136 shR nR (fun K B => [.ref (B + a0), .int a1]) M res := by
  refine met_i (own := RX11) (lo := fun K B => [some (.ref (B + a0)), some (.int a1), none, none, none, none, none]) (by decide +kernel) rfl shR_ok (fun _ _ => rfl) (fun _ _ => rfl) (fun _ _ => Nat.le_of_ble_eq_true rfl) (fun X hX hn hlx hR => ?_)
  refine r_aload_n (i := 0) hX e_X11_swap_0 rfl rfl ?_
  refine r_iconst hX e_X11_swap_1 ic_0 ?_
  obtain ⟨g1, hf⟩ := gd_s hf
  obtain ⟨M2, hM2, hf⟩ := nx_s hf
  refine r_putI hX hn hM2 e_X11_swap_2 fl_11_122 fp_11_0 rfl g1 ?_
  refine r_aload_n (i := 0) hX e_X11_swap_5 rfl rfl ?_
  obtain ⟨v3, hv3, hf⟩ := bd_s hf
  refine r_cvi (As := fun K B => []) hX hn (t_X11_isMarket hv3) e_X11_swap_6 cw_X11_isMarket cv_X11_isMarket lk_11_403 ⟨Nat.le_of_ble_eq_true rfl, Nat.le_of_ble_eq_true rfl⟩ (ci := 11) rfl rfl (Nat.le_of_ble_eq_true rfl) g1 rfl rfl (Nat.le_of_ble_eq_true rfl) ⟨Nat.zero_le _, Nat.zero_le _⟩ ?_
  refine r_if_eq hX e_X11_swap_9 (fun hc => ?_) (fun hc => ?_)
  · have hf := ite_t hf hc
    refine r_bipush hX e_X11_swap_22 bc_m2 ?_
    exact r_iret hX hR e_X11_swap_24 hf
  · have hf := ite_f hf hc
    refine r_iload_n (i := 1) hX e_X11_swap_12 rfl rfl ?_
    refine r_i2l hX e_X11_swap_13 ?_
    refine r_lconst hX e_X11_swap_14 lc_0 ?_
    refine r_lconst hX e_X11_swap_15 lc_1 ?_
    obtain ⟨v4, hv4, hf⟩ := bd_s hf
    refine r_csi (As := fun K B => [.long ((a1 : Int32).toInt64), .long (0), .long (1)]) hX hn (t_X11_in hv4) e_X11_swap_16 cw_X11_in cv_X11_in lk_11_127 ⟨Nat.le_of_ble_eq_true rfl, Nat.le_of_ble_eq_true rfl⟩ rfl rfl (Nat.le_of_ble_eq_true rfl) ⟨Nat.zero_le _, Nat.zero_le _⟩ ?_
    refine r_if_ne hX e_X11_swap_19 (fun hc => ?_) (fun hc => ?_)
    · have hf := ite_f hf hc
      refine r_aload_n (i := 0) hX e_X11_swap_25 rfl rfl ?_
      obtain ⟨u5, hu5, hf⟩ := bd_s hf
      refine r_cvi (As := fun K B => []) hX hn (t_X11_salesNow hu5) e_X11_swap_26 cw_X11_salesNow cv_X11_salesNow lk_11_429 ⟨Nat.le_of_ble_eq_true rfl, Nat.le_of_ble_eq_true rfl⟩ (ci := 11) rfl rfl (Nat.le_of_ble_eq_true rfl) g1 rfl rfl (Nat.le_of_ble_eq_true rfl) ⟨Nat.zero_le _, Nat.zero_le _⟩ ?_
      refine r_istore_n (i := 2) hX e_X11_swap_29 rfl (Nat.le_of_ble_eq_true rfl) rfl ?_
      refine r_iconst hX e_X11_swap_30 ic_m1 ?_
      refine r_istore_n (i := 3) hX e_X11_swap_31 rfl (Nat.le_of_ble_eq_true rfl) rfl ?_
      refine r_iconst hX e_X11_swap_32 ic_0 ?_
      refine r_istore hX e_X11_swap_33 (Nat.le_of_ble_eq_true rfl) rfl ?_
      exact GoN.weak (t_X11_swap_35 hX hn hR FU u5.1 (a0) (a1) (u5.2) ((-1)) (0) hf) rfl (sb_s (sb_s (sb_s (sb_s (sb_s (sb_n (sb_n (sb_z _))))))))
    · have hf := ite_t hf hc
      refine r_bipush hX e_X11_swap_22 bc_m2 ?_
      exact r_iret hX hR e_X11_swap_24 hf
def f_X11_moves (M : Mem) (a0 : Nat) (a1 : Int32) (a2 : Int32) : Option (Mem × Int32) :=
  gd (oB shR a0 11) <| nx (sI M a0 0 0) fun M2 => bd (f_X11_isBuyer M2 a0 a1) fun v3 => if v3 = 0 then some (M2, (-2)) else bd (f_X11_isPlace M2 a0 a2) fun v4 => if v4 = 0 then some (M2, (-2)) else bd (gR M2 a0 20) fun r5 => gd (aB shR r5 0 (4 * a1)) <| nx (sI M2 r5 ((4 * a1) : Int32).toNatClampNeg a2) fun M7 => some (M7, (gI M2 r5 ((4 * a1) : Int32).toNatClampNeg))
theorem t_X11_moves {l : Launch} {M : Mem} {a0 : Nat} {a1 a2 : Int32} {res : Mem × Int32} (hf : f_X11_moves M a0 a1 a2 = some res) : Ci l yX11_moves cX11_moves 4 (some .int) 2 46 shR nR (fun K B => [.ref (B + a0), .int a1, .int a2]) M res := by
  refine met_i (own := RX11) (lo := fun K B => [some (.ref (B + a0)), some (.int a1), some (.int a2), none]) (by decide +kernel) rfl shR_ok (fun _ _ => rfl) (fun _ _ => rfl) (fun _ _ => Nat.le_of_ble_eq_true rfl) (fun X hX hn hlx hR => ?_)
  refine r_aload_n (i := 0) hX e_X11_moves_0 rfl rfl ?_
  refine r_iconst hX e_X11_moves_1 ic_0 ?_
  obtain ⟨g1, hf⟩ := gd_s hf
  obtain ⟨M2, hM2, hf⟩ := nx_s hf
  refine r_putI hX hn hM2 e_X11_moves_2 fl_11_122 fp_11_0 rfl g1 ?_
  refine r_aload_n (i := 0) hX e_X11_moves_5 rfl rfl ?_
  refine r_iload_n (i := 1) hX e_X11_moves_6 rfl rfl ?_
  obtain ⟨v3, hv3, hf⟩ := bd_s hf
  refine r_cvi (As := fun K B => [.int (a1)]) hX hn (t_X11_isBuyer hv3) e_X11_moves_7 cw_X11_isBuyer cv_X11_isBuyer lk_11_313 ⟨Nat.le_of_ble_eq_true rfl, Nat.le_of_ble_eq_true rfl⟩ (ci := 11) rfl rfl (Nat.le_of_ble_eq_true rfl) g1 rfl rfl (Nat.le_of_ble_eq_true rfl) ⟨Nat.zero_le _, Nat.zero_le _⟩ ?_
  refine r_if_eq hX e_X11_moves_10 (fun hc => ?_) (fun hc => ?_)
  · have hf := ite_t hf hc
    refine r_bipush hX e_X11_moves_21 bc_m2 ?_
    exact r_iret hX hR e_X11_moves_23 hf
  · have hf := ite_f hf hc
    refine r_aload_n (i := 0) hX e_X11_moves_13 rfl rfl ?_
    refine r_iload_n (i := 2) hX e_X11_moves_14 rfl rfl ?_
    obtain ⟨v4, hv4, hf⟩ := bd_s hf
    refine r_cvi (As := fun K B => [.int (a2)]) hX hn (t_X11_isPlace hv4) e_X11_moves_15 cw_X11_isPlace cv_X11_isPlace lk_11_362 ⟨Nat.le_of_ble_eq_true rfl, Nat.le_of_ble_eq_true rfl⟩ (ci := 11) rfl rfl (Nat.le_of_ble_eq_true rfl) g1 rfl rfl (Nat.le_of_ble_eq_true rfl) ⟨Nat.zero_le _, Nat.zero_le _⟩ ?_
    refine r_if_ne hX e_X11_moves_18 (fun hc => ?_) (fun hc => ?_)
    · have hf := ite_f hf hc
      refine r_aload_n (i := 0) hX e_X11_moves_24 rfl rfl ?_
      obtain ⟨r5, hr5, hf⟩ := bd_s hf
      refine r_getR hX hn e_X11_moves_25 fl_11_43 rfl g1 hr5 ?_
      refine r_iconst hX e_X11_moves_28 ic_4 ?_
      refine r_iload_n (i := 1) hX e_X11_moves_29 rfl rfl ?_
      refine r_imul hX e_X11_moves_30 ?_
      obtain ⟨g6, hf⟩ := gd_s hf
      refine r_iald hX hn e_X11_moves_31 g6 ?_
      refine r_istore_n (i := 3) hX e_X11_moves_32 rfl (Nat.le_of_ble_eq_true rfl) rfl ?_
      refine r_aload_n (i := 0) hX e_X11_moves_33 rfl rfl ?_
      refine r_getR hX hn e_X11_moves_34 fl_11_43 rfl g1 hr5 ?_
      refine r_iconst hX e_X11_moves_37 ic_4 ?_
      refine r_iload_n (i := 1) hX e_X11_moves_38 rfl rfl ?_
      refine r_imul hX e_X11_moves_39 ?_
      refine r_iload_n (i := 2) hX e_X11_moves_40 rfl rfl ?_
      obtain ⟨M7, hM7, hf⟩ := nx_s hf
      refine r_iast hX hn hM7 e_X11_moves_41 g6 ?_
      refine r_iload_n (i := 3) hX e_X11_moves_42 rfl rfl ?_
      exact r_iret hX hR e_X11_moves_43 hf
    · have hf := ite_t hf hc
      refine r_bipush hX e_X11_moves_21 bc_m2 ?_
      exact r_iret hX hR e_X11_moves_23 hf
def f_X11_offer (M : Mem) (a0 : Nat) (a1 : Int32) (a2 : Int32) : Option (Mem × Int32) :=
  gd (oB shR a0 11) <| nx (sI M a0 0 0) fun M2 => bd (f_X11_isStall M2 a0 a1) fun v3 => if v3 = 0 then some (M2, (-2)) else bd (f_X11_in M2 ((a2 : Int32).toInt64) 0 99) fun v4 => if v4 = 0 then some (M2, (-2)) else bd (f_X11_of M2 a0 a1 4) fun v5 => bd (gR M2 a0 19) fun r6 => gd (aB shR r6 0 ((7 * a1) + 4)) <| nx (sI M2 r6 (((7 * a1) + 4) : Int32).toNatClampNeg a2) fun M8 => some (M8, v5)
theorem t_X11_offer {l : Launch} {M : Mem} {a0 : Nat} {a1 a2 : Int32} {res : Mem × Int32} (hf : f_X11_offer M a0 a1 a2 = some res) : Ci l yX11_offer cX11_offer 4 (some .int) 2 46 shR nR (fun K B => [.ref (B + a0), .int a1, .int a2]) M res := by
  refine met_i (own := RX11) (lo := fun K B => [some (.ref (B + a0)), some (.int a1), some (.int a2), none]) (by decide +kernel) rfl shR_ok (fun _ _ => rfl) (fun _ _ => rfl) (fun _ _ => Nat.le_of_ble_eq_true rfl) (fun X hX hn hlx hR => ?_)
  refine r_aload_n (i := 0) hX e_X11_offer_0 rfl rfl ?_
  refine r_iconst hX e_X11_offer_1 ic_0 ?_
  obtain ⟨g1, hf⟩ := gd_s hf
  obtain ⟨M2, hM2, hf⟩ := nx_s hf
  refine r_putI hX hn hM2 e_X11_offer_2 fl_11_122 fp_11_0 rfl g1 ?_
  refine r_aload_n (i := 0) hX e_X11_offer_5 rfl rfl ?_
  refine r_iload_n (i := 1) hX e_X11_offer_6 rfl rfl ?_
  obtain ⟨v3, hv3, hf⟩ := bd_s hf
  refine r_cvi (As := fun K B => [.int (a1)]) hX hn (t_X11_isStall hv3) e_X11_offer_7 cw_X11_isStall cv_X11_isStall lk_11_305 ⟨Nat.le_of_ble_eq_true rfl, Nat.le_of_ble_eq_true rfl⟩ (ci := 11) rfl rfl (Nat.le_of_ble_eq_true rfl) g1 rfl rfl (Nat.le_of_ble_eq_true rfl) ⟨Nat.zero_le _, Nat.zero_le _⟩ ?_
  refine r_if_eq hX e_X11_offer_10 (fun hc => ?_) (fun hc => ?_)
  · have hf := ite_t hf hc
    refine r_bipush hX e_X11_offer_25 bc_m2 ?_
    exact r_iret hX hR e_X11_offer_27 hf
  · have hf := ite_f hf hc
    refine r_iload_n (i := 2) hX e_X11_offer_13 rfl rfl ?_
    refine r_i2l hX e_X11_offer_14 ?_
    refine r_lconst hX e_X11_offer_15 lc_0 ?_
    refine r_ldc2 hX e_X11_offer_16 wk_1666 ?_
    obtain ⟨v4, hv4, hf⟩ := bd_s hf
    refine r_csi (As := fun K B => [.long ((a2 : Int32).toInt64), .long (0), .long (99)]) hX hn (t_X11_in hv4) e_X11_offer_19 cw_X11_in cv_X11_in lk_11_127 ⟨Nat.le_of_ble_eq_true rfl, Nat.le_of_ble_eq_true rfl⟩ rfl rfl (Nat.le_of_ble_eq_true rfl) ⟨Nat.zero_le _, Nat.zero_le _⟩ ?_
    refine r_if_ne hX e_X11_offer_22 (fun hc => ?_) (fun hc => ?_)
    · have hf := ite_f hf hc
      refine r_aload_n (i := 0) hX e_X11_offer_28 rfl rfl ?_
      refine r_iload_n (i := 1) hX e_X11_offer_29 rfl rfl ?_
      refine r_iconst hX e_X11_offer_30 ic_4 ?_
      obtain ⟨v5, hv5, hf⟩ := bd_s hf
      refine r_cvi (As := fun K B => [.int (a1), .int (4)]) hX hn (t_X11_of hv5) e_X11_offer_31 cw_X11_of cv_X11_of lk_11_310 ⟨Nat.le_of_ble_eq_true rfl, Nat.le_of_ble_eq_true rfl⟩ (ci := 11) rfl rfl (Nat.le_of_ble_eq_true rfl) g1 rfl rfl (Nat.le_of_ble_eq_true rfl) ⟨Nat.zero_le _, Nat.zero_le _⟩ ?_
      refine r_istore_n (i := 3) hX e_X11_offer_34 rfl (Nat.le_of_ble_eq_true rfl) rfl ?_
      refine r_aload_n (i := 0) hX e_X11_offer_35 rfl rfl ?_
      obtain ⟨r6, hr6, hf⟩ := bd_s hf
      refine r_getR hX hn e_X11_offer_36 fl_11_40 rfl g1 hr6 ?_
      refine r_bipush hX e_X11_offer_39 bc_7 ?_
      refine r_iload_n (i := 1) hX e_X11_offer_41 rfl rfl ?_
      refine r_imul hX e_X11_offer_42 ?_
      refine r_iconst hX e_X11_offer_43 ic_4 ?_
      refine r_iadd hX e_X11_offer_44 ?_
      refine r_iload_n (i := 2) hX e_X11_offer_45 rfl rfl ?_
      obtain ⟨g7, hf⟩ := gd_s hf
      obtain ⟨M8, hM8, hf⟩ := nx_s hf
      refine r_iast hX hn hM8 e_X11_offer_46 g7 ?_
      refine r_iload_n (i := 3) hX e_X11_offer_47 rfl rfl ?_
      exact r_iret hX hR e_X11_offer_48 hf
    · have hf := ite_t hf hc
      refine r_bipush hX e_X11_offer_25 bc_m2 ?_
      exact r_iret hX hR e_X11_offer_27 hf
def s_X11_wise_31 (k31 : Mem → Nat → Int32 → Int32 → Int32 → Int32 → Int32 → Option (Mem × Int32)) (M : Mem) (x0 : Nat) (x1 : Int32) (x2 : Int32) (x3 : Int32) (x4 : Int32) (x5 : Int32) : Option (Mem × Int32) :=
  if 99 < x5 then gd (oB shR x0 11) <| bd (gR M x0 19) fun r2 => gd (aB shR r2 0 ((7 * x1) + 4)) <| nx (sI M r2 (((7 * x1) + 4) : Int32).toNatClampNeg x2) fun M4 => some (M4, x3) else gd (oB shR x0 11) <| bd (gR M x0 19) fun r6 => gd (aB shR r6 0 ((7 * x1) + 4)) <| nx (sI M r6 (((7 * x1) + 4) : Int32).toNatClampNeg x5) fun M8 => bd (f_X11_plainHour M8 x0) fun u9 => bd (gR u9 x0 32) fun r10 => gd (aB shR r10 0 x1) <| if x4 < (gI u9 r10 (x1 : Int32).toNatClampNeg) then k31 u9 (x0) (x1) (x2) (x5) ((gI u9 r10 (x1 : Int32).toNatClampNeg)) ((x5 + 1)) else k31 u9 (x0) (x1) (x2) (x3) (x4) ((x5 + 1))
def f_X11_wise_31  : Nat → Mem → Nat → Int32 → Int32 → Int32 → Int32 → Int32 → Option (Mem × Int32)
  | 0 => fun _ _ _ _ _ _ _ => none
  | n + 1 => fun y0 y1 y2 y3 y4 y5 y6 => s_X11_wise_31  (f_X11_wise_31  n) y0 y1 y2 y3 y4 y5 y6
def f_X11_wise (M : Mem) (a0 : Nat) (a1 : Int32) : Option (Mem × Int32) :=
  gd (oB shR a0 11) <| nx (sI M a0 0 0) fun M2 => bd (f_X11_isStall M2 a0 a1) fun v3 => if v3 = 0 then some (M2, (-2)) else bd (f_X11_of M2 a0 a1 4) fun v4 => f_X11_wise_31 FU M2 (a0) (a1) (v4) ((-1)) ((-1)) (0)
theorem t_s_X11_wise_31 {X : Cx} {res : Mem × Int32} {k31 : Mem → Nat → Int32 → Int32 → Int32 → Int32 → Int32 → Option (Mem × Int32)} (hX : OkX X cX11_wise RX11 5 116) (hn : Fit X shR nR) (hR : RetI X shR nR .int res) (hk31 : ∀ M x0 x1 x2 x3 x4 x5, k31 M x0 x1 x2 x3 x4 x5 = some res → GoN X shR nR 0 0 M 31 [some (.ref (X.B + x0)), some (.int (x1)), some (.int (x2)), some (.int (x3)), some (.int (x4)), some (.int (x5))] []) (M : Mem) (x0 : Nat) (x1 : Int32) (x2 : Int32) (x3 : Int32) (x4 : Int32) (x5 : Int32) (hf : s_X11_wise_31 k31 M x0 x1 x2 x3 x4 x5 = some res) : GoN X shR nR 0 0 M 31 [some (.ref (X.B + x0)), some (.int (x1)), some (.int (x2)), some (.int (x3)), some (.int (x4)), some (.int (x5))] [] := by
  refine r_iload hX e_X11_wise_31 rfl ?_
  refine r_bipush hX e_X11_wise_33 bc_99 ?_
  refine r_icmp_gt hX e_X11_wise_35 (fun hc => ?_) (fun hc => ?_)
  · have hf := ite_t hf hc
    refine r_aload_n (i := 0) hX e_X11_wise_86 rfl rfl ?_
    obtain ⟨g1, hf⟩ := gd_s hf
    obtain ⟨r2, hr2, hf⟩ := bd_s hf
    refine r_getR hX hn e_X11_wise_87 fl_11_40 rfl g1 hr2 ?_
    refine r_bipush hX e_X11_wise_90 bc_7 ?_
    refine r_iload_n (i := 1) hX e_X11_wise_92 rfl rfl ?_
    refine r_imul hX e_X11_wise_93 ?_
    refine r_iconst hX e_X11_wise_94 ic_4 ?_
    refine r_iadd hX e_X11_wise_95 ?_
    refine r_iload_n (i := 2) hX e_X11_wise_96 rfl rfl ?_
    obtain ⟨g3, hf⟩ := gd_s hf
    obtain ⟨M4, hM4, hf⟩ := nx_s hf
    refine r_iast hX hn hM4 e_X11_wise_97 g3 ?_
    refine r_iload_n (i := 3) hX e_X11_wise_98 rfl rfl ?_
    exact r_iret hX hR e_X11_wise_99 hf
  · have hf := ite_f hf hc
    refine r_aload_n (i := 0) hX e_X11_wise_38 rfl rfl ?_
    obtain ⟨g5, hf⟩ := gd_s hf
    obtain ⟨r6, hr6, hf⟩ := bd_s hf
    refine r_getR hX hn e_X11_wise_39 fl_11_40 rfl g5 hr6 ?_
    refine r_bipush hX e_X11_wise_42 bc_7 ?_
    refine r_iload_n (i := 1) hX e_X11_wise_44 rfl rfl ?_
    refine r_imul hX e_X11_wise_45 ?_
    refine r_iconst hX e_X11_wise_46 ic_4 ?_
    refine r_iadd hX e_X11_wise_47 ?_
    refine r_iload hX e_X11_wise_48 rfl ?_
    obtain ⟨g7, hf⟩ := gd_s hf
    obtain ⟨M8, hM8, hf⟩ := nx_s hf
    refine r_iast hX hn hM8 e_X11_wise_50 g7 ?_
    refine r_aload_n (i := 0) hX e_X11_wise_51 rfl rfl ?_
    obtain ⟨u9, hu9, hf⟩ := bd_s hf
    refine r_cvv (As := fun K B => []) hX hn (t_X11_plainHour hu9) e_X11_wise_52 cw_X11_plainHour cv_X11_plainHour lk_11_400 ⟨Nat.le_of_ble_eq_true rfl, Nat.le_of_ble_eq_true rfl⟩ (ci := 11) rfl rfl (Nat.le_of_ble_eq_true rfl) g5 rfl rfl (Nat.le_of_ble_eq_true rfl) ⟨Nat.zero_le _, Nat.zero_le _⟩ ?_
    refine r_aload_n (i := 0) hX e_X11_wise_55 rfl rfl ?_
    obtain ⟨r10, hr10, hf⟩ := bd_s hf
    refine r_getR hX hn e_X11_wise_56 fl_11_68 rfl g5 hr10 ?_
    refine r_iload_n (i := 1) hX e_X11_wise_59 rfl rfl ?_
    obtain ⟨g11, hf⟩ := gd_s hf
    refine r_iald hX hn e_X11_wise_60 g11 ?_
    refine r_iload hX e_X11_wise_61 rfl ?_
    refine r_icmp_gt hX e_X11_wise_63 (fun hc => ?_) (fun hc => ?_)
    · have hf := ite_t hf hc
      refine r_iload hX e_X11_wise_69 rfl ?_
      refine r_istore_n (i := 3) hX e_X11_wise_71 rfl (Nat.le_of_ble_eq_true rfl) rfl ?_
      refine r_aload_n (i := 0) hX e_X11_wise_72 rfl rfl ?_
      refine r_getR hX hn e_X11_wise_73 fl_11_68 rfl g5 hr10 ?_
      refine r_iload_n (i := 1) hX e_X11_wise_76 rfl rfl ?_
      refine r_iald hX hn e_X11_wise_77 g11 ?_
      refine r_istore hX e_X11_wise_78 (Nat.le_of_ble_eq_true rfl) rfl ?_
      refine r_iinc (v := x5 + 1) hX e_X11_wise_80 rfl (ii_s ic_1) (Nat.le_of_ble_eq_true rfl) rfl ?_
      refine r_goto hX e_X11_wise_83 ?_
      exact GoN.weak (hk31 u9 (x0) (x1) (x2) (x5) ((gI u9 r10 (x1 : Int32).toNatClampNeg)) ((x5 + 1)) hf) rfl (sb_s (sb_s (sb_s (sb_s (sb_s (sb_s (sb_z _)))))))
    · have hf := ite_f hf hc
      refine r_goto hX e_X11_wise_66 ?_
      refine r_iinc (v := x5 + 1) hX e_X11_wise_80 rfl (ii_s ic_1) (Nat.le_of_ble_eq_true rfl) rfl ?_
      refine r_goto hX e_X11_wise_83 ?_
      exact GoN.weak (hk31 u9 (x0) (x1) (x2) (x3) (x4) ((x5 + 1)) hf) rfl (sb_s (sb_s (sb_s (sb_s (sb_s (sb_s (sb_z _)))))))
theorem t_X11_wise_31 {X : Cx} {res : Mem × Int32}  (hX : OkX X cX11_wise RX11 5 116) (hn : Fit X shR nR) (hR : RetI X shR nR .int res)  : ∀ (n : Nat) (M : Mem) (x0 : Nat) (x1 : Int32) (x2 : Int32) (x3 : Int32) (x4 : Int32) (x5 : Int32),  f_X11_wise_31  n M x0 x1 x2 x3 x4 x5 = some res → GoN X shR nR 0 0 M 31 [some (.ref (X.B + x0)), some (.int (x1)), some (.int (x2)), some (.int (x3)), some (.int (x4)), some (.int (x5))] [] := by
  intro n
  induction n with
  | zero => intro M x0 x1 x2 x3 x4 x5 hf; cases hf
  | succ n ih => intro M x0 x1 x2 x3 x4 x5 hf; exact t_s_X11_wise_31 hX hn hR  ih M x0 x1 x2 x3 x4 x5 hf
theorem t_X11_wise {l : Launch} {M : Mem} {a0 : Nat} {a1 : Int32} {res : Mem × Int32} (hf : f_X11_wise M a0 a1 = some res) : Ci l yX11_wise cX11_wise 6 (some .int) 5 116 shR nR (fun K B => [.ref (B + a0), .int a1]) M res := by
  refine met_i (own := RX11) (lo := fun K B => [some (.ref (B + a0)), some (.int a1), none, none, none, none]) (by decide +kernel) rfl shR_ok (fun _ _ => rfl) (fun _ _ => rfl) (fun _ _ => Nat.le_of_ble_eq_true rfl) (fun X hX hn hlx hR => ?_)
  refine r_aload_n (i := 0) hX e_X11_wise_0 rfl rfl ?_
  refine r_iconst hX e_X11_wise_1 ic_0 ?_
  obtain ⟨g1, hf⟩ := gd_s hf
  obtain ⟨M2, hM2, hf⟩ := nx_s hf
  refine r_putI hX hn hM2 e_X11_wise_2 fl_11_122 fp_11_0 rfl g1 ?_
  refine r_aload_n (i := 0) hX e_X11_wise_5 rfl rfl ?_
  refine r_iload_n (i := 1) hX e_X11_wise_6 rfl rfl ?_
  obtain ⟨v3, hv3, hf⟩ := bd_s hf
  refine r_cvi (As := fun K B => [.int (a1)]) hX hn (t_X11_isStall hv3) e_X11_wise_7 cw_X11_isStall cv_X11_isStall lk_11_305 ⟨Nat.le_of_ble_eq_true rfl, Nat.le_of_ble_eq_true rfl⟩ (ci := 11) rfl rfl (Nat.le_of_ble_eq_true rfl) g1 rfl rfl (Nat.le_of_ble_eq_true rfl) ⟨Nat.zero_le _, Nat.zero_le _⟩ ?_
  refine r_if_ne hX e_X11_wise_10 (fun hc => ?_) (fun hc => ?_)
  · have hf := ite_f hf hc
    refine r_aload_n (i := 0) hX e_X11_wise_16 rfl rfl ?_
    refine r_iload_n (i := 1) hX e_X11_wise_17 rfl rfl ?_
    refine r_iconst hX e_X11_wise_18 ic_4 ?_
    obtain ⟨v4, hv4, hf⟩ := bd_s hf
    refine r_cvi (As := fun K B => [.int (a1), .int (4)]) hX hn (t_X11_of hv4) e_X11_wise_19 cw_X11_of cv_X11_of lk_11_310 ⟨Nat.le_of_ble_eq_true rfl, Nat.le_of_ble_eq_true rfl⟩ (ci := 11) rfl rfl (Nat.le_of_ble_eq_true rfl) g1 rfl rfl (Nat.le_of_ble_eq_true rfl) ⟨Nat.zero_le _, Nat.zero_le _⟩ ?_
    refine r_istore_n (i := 2) hX e_X11_wise_22 rfl (Nat.le_of_ble_eq_true rfl) rfl ?_
    refine r_iconst hX e_X11_wise_23 ic_m1 ?_
    refine r_istore_n (i := 3) hX e_X11_wise_24 rfl (Nat.le_of_ble_eq_true rfl) rfl ?_
    refine r_iconst hX e_X11_wise_25 ic_m1 ?_
    refine r_istore hX e_X11_wise_26 (Nat.le_of_ble_eq_true rfl) rfl ?_
    refine r_iconst hX e_X11_wise_28 ic_0 ?_
    refine r_istore hX e_X11_wise_29 (Nat.le_of_ble_eq_true rfl) rfl ?_
    exact GoN.weak (t_X11_wise_31 hX hn hR FU M2 (a0) (a1) (v4) ((-1)) ((-1)) (0) hf) rfl (sb_s (sb_s (sb_s (sb_s (sb_s (sb_s (sb_z _)))))))
  · have hf := ite_t hf hc
    refine r_bipush hX e_X11_wise_13 bc_m2 ?_
    exact r_iret hX hR e_X11_wise_15 hf
def f_X11_theft_180 (k122 : Mem → Nat → Int32 → Int32 → Int32 → Int32 → Int32 → Int32 → Option (Mem × Int32)) (M : Mem) (x0 : Nat) (x1 : Int32) (x2 : Int32) (x3 : Int32) (x5 : Int32) (x6 : Int32) (x7 : Int32) (s0 : Int32) : Option (Mem × Int32) :=
  k122 M (x0) (x1) (x2) (x3) (s0) ((x5 + x7)) ((x6 + 1))
def s_X11_theft_122 (k122 : Mem → Nat → Int32 → Int32 → Int32 → Int32 → Int32 → Int32 → Option (Mem × Int32)) (M : Mem) (x0 : Nat) (x1 : Int32) (x2 : Int32) (x3 : Int32) (x4 : Int32) (x5 : Int32) (x6 : Int32) : Option (Mem × Int32) :=
  gd (oB shR x0 11) <| bd (gR M x0 17) fun r2 => gd (aB shR r2 0 3) <| if (gI M r2 (3 : Int32).toNatClampNeg) ≤ x6 then if x2 = 0 then some (M, x3) else if x2 = 1 then some (M, x4) else some (M, x5) else bd (gR M x0 30) fun r4 => gd (aB shR r4 0 x6) <| bd (gR M x0 3) fun r6 => gd (aB shR r6 1 ((60 * x1) + x6)) <| nx ((gL M r6 (((60 * x1) + x6) : Int32).toNatClampNeg)) fun v8 => nx (((gI M r4 (x6 : Int32).toNatClampNeg) - (v8 : Int64).toInt32)) fun v9 => if 0 < v9 then if x4 = (-1) then f_X11_theft_180 k122 M (x0) (x1) (x2) ((x3 + 1)) (x5) (x6) (v9) (x6) else f_X11_theft_180 k122 M (x0) (x1) (x2) ((x3 + 1)) (x5) (x6) (v9) (x4) else k122 M (x0) (x1) (x2) (x3) (x4) (x5) ((x6 + 1))
def f_X11_theft_122  : Nat → Mem → Nat → Int32 → Int32 → Int32 → Int32 → Int32 → Int32 → Option (Mem × Int32)
  | 0 => fun _ _ _ _ _ _ _ _ => none
  | n + 1 => fun y0 y1 y2 y3 y4 y5 y6 y7 => s_X11_theft_122  (f_X11_theft_122  n) y0 y1 y2 y3 y4 y5 y6 y7
def s_X11_theft_67 (k67 : Mem → Nat → Int32 → Int32 → Int32 → Option (Mem × Int32)) (M : Mem) (x0 : Nat) (x1 : Int32) (x2 : Int32) (x3 : Int32) : Option (Mem × Int32) :=
  gd (oB shR x0 11) <| bd (gR M x0 17) fun r2 => gd (aB shR r2 0 3) <| if (gI M r2 (3 : Int32).toNatClampNeg) ≤ x3 then bd (f_X11_plainHour M x0) fun u4 => f_X11_theft_122 FU u4 (x0) (x1) (x2) (0) ((-1)) (0) (0) else bd (gR M x0 3) fun r5 => gd (aB shR r5 1 ((60 * x1) + x3)) <| nx ((gL M r5 (((60 * x1) + x3) : Int32).toNatClampNeg)) fun v7 => bd (f_X11_in M v7 0 20) fun v8 => if v8 = 0 then some (M, (-2)) else k67 M (x0) (x1) (x2) ((x3 + 1))
def f_X11_theft_67  : Nat → Mem → Nat → Int32 → Int32 → Int32 → Option (Mem × Int32)
  | 0 => fun _ _ _ _ _ => none
  | n + 1 => fun y0 y1 y2 y3 y4 => s_X11_theft_67  (f_X11_theft_67  n) y0 y1 y2 y3 y4
def f_X11_theft (M : Mem) (a0 : Nat) (a1 : Int32) (a2 : Int32) : Option (Mem × Int32) :=
  gd (oB shR a0 11) <| nx (sI M a0 0 0) fun M2 => bd (f_X11_isSlot M2 a1) fun v3 => if v3 = 0 then some (M2, (-2)) else bd (f_X11_isMarket M2 a0) fun v4 => if v4 = 0 then some (M2, (-2)) else bd (f_X11_in M2 ((a2 : Int32).toInt64) 0 2) fun v5 => if v5 = 0 then some (M2, (-2)) else bd (gR M2 a0 1) fun r6 => gd (aB shR r6 0 a1) <| if (gI M2 r6 (a1 : Int32).toNatClampNeg) = (-1) then some (M2, (-6)) else bd (gR M2 a0 2) fun r8 => gd (aB shR r8 0 a1) <| bd (gR M2 a0 17) fun r10 => gd (aB shR r10 0 3) <| if (gI M2 r8 (a1 : Int32).toNatClampNeg) = (gI M2 r10 (3 : Int32).toNatClampNeg) then f_X11_theft_67 FU M2 (a0) (a1) (a2) (0) else some (M2, (-7))
theorem t_X11_theft_180 {X : Cx} {res : Mem × Int32} {k122 : Mem → Nat → Int32 → Int32 → Int32 → Int32 → Int32 → Int32 → Option (Mem × Int32)} (hX : OkX X cX11_theft RX11 5 116) (hn : Fit X shR nR) (hR : RetI X shR nR .int res) (hk122 : ∀ M x0 x1 x2 x3 x4 x5 x6, k122 M x0 x1 x2 x3 x4 x5 x6 = some res → GoN X shR nR 0 0 M 122 [some (.ref (X.B + x0)), some (.int (x1)), some (.int (x2)), some (.int (x3)), some (.int (x4)), some (.int (x5)), some (.int (x6)), none] []) (M : Mem) (x0 : Nat) (x1 : Int32) (x2 : Int32) (x3 : Int32) (x5 : Int32) (x6 : Int32) (x7 : Int32) (s0 : Int32) (hf : f_X11_theft_180 k122 M x0 x1 x2 x3 x5 x6 x7 s0 = some res) : GoN X shR nR 0 0 M 180 [some (.ref (X.B + x0)), some (.int (x1)), some (.int (x2)), some (.int (x3)), none, some (.int (x5)), some (.int (x6)), some (.int (x7))] [.int (s0)] := by
  refine r_istore hX e_X11_theft_180 (Nat.le_of_ble_eq_true rfl) rfl ?_
  refine r_iload hX e_X11_theft_182 rfl ?_
  refine r_iload hX e_X11_theft_184 rfl ?_
  refine r_iadd hX e_X11_theft_186 ?_
  refine r_istore hX e_X11_theft_187 (Nat.le_of_ble_eq_true rfl) rfl ?_
  refine r_iinc (v := x6 + 1) hX e_X11_theft_189 rfl (ii_s ic_1) (Nat.le_of_ble_eq_true rfl) rfl ?_
  refine r_goto hX e_X11_theft_192 ?_
  exact GoN.weak (hk122 M (x0) (x1) (x2) (x3) (s0) ((x5 + x7)) ((x6 + 1)) hf) rfl (sb_s (sb_s (sb_s (sb_s (sb_s (sb_s (sb_s (sb_n (sb_z _)))))))))
theorem t_s_X11_theft_122 {X : Cx} {res : Mem × Int32} {k122 : Mem → Nat → Int32 → Int32 → Int32 → Int32 → Int32 → Int32 → Option (Mem × Int32)} (hX : OkX X cX11_theft RX11 5 116) (hn : Fit X shR nR) (hR : RetI X shR nR .int res) (hk122 : ∀ M x0 x1 x2 x3 x4 x5 x6, k122 M x0 x1 x2 x3 x4 x5 x6 = some res → GoN X shR nR 0 0 M 122 [some (.ref (X.B + x0)), some (.int (x1)), some (.int (x2)), some (.int (x3)), some (.int (x4)), some (.int (x5)), some (.int (x6)), none] []) (M : Mem) (x0 : Nat) (x1 : Int32) (x2 : Int32) (x3 : Int32) (x4 : Int32) (x5 : Int32) (x6 : Int32) (hf : s_X11_theft_122 k122 M x0 x1 x2 x3 x4 x5 x6 = some res) : GoN X shR nR 0 0 M 122 [some (.ref (X.B + x0)), some (.int (x1)), some (.int (x2)), some (.int (x3)), some (.int (x4)), some (.int (x5)), some (.int (x6)), none] [] := by
  refine r_iload hX e_X11_theft_122 rfl ?_
  refine r_aload_n (i := 0) hX e_X11_theft_124 rfl rfl ?_
  obtain ⟨g1, hf⟩ := gd_s hf
  obtain ⟨r2, hr2, hf⟩ := bd_s hf
  refine r_getR hX hn e_X11_theft_125 fl_11_34 rfl g1 hr2 ?_
  refine r_iconst hX e_X11_theft_128 ic_3 ?_
  obtain ⟨g3, hf⟩ := gd_s hf
  refine r_iald hX hn e_X11_theft_129 g3 ?_
  refine r_icmp_ge hX e_X11_theft_130 (fun hc => ?_) (fun hc => ?_)
  · have hf := ite_t hf hc
    refine r_iload_n (i := 2) hX e_X11_theft_195 rfl rfl ?_
    refine r_if_ne hX e_X11_theft_196 (fun hc => ?_) (fun hc => ?_)
    · have hf := ite_f hf hc
      refine r_iload_n (i := 2) hX e_X11_theft_203 rfl rfl ?_
      refine r_iconst hX e_X11_theft_204 ic_1 ?_
      refine r_icmp_ne hX e_X11_theft_205 (fun hc => ?_) (fun hc => ?_)
      · have hf := ite_f hf hc
        refine r_iload hX e_X11_theft_213 rfl ?_
        exact r_iret hX hR e_X11_theft_215 hf
      · have hf := ite_t hf hc
        refine r_iload hX e_X11_theft_208 rfl ?_
        refine r_goto hX e_X11_theft_210 ?_
        exact r_iret hX hR e_X11_theft_215 hf
    · have hf := ite_t hf hc
      refine r_iload_n (i := 3) hX e_X11_theft_199 rfl rfl ?_
      refine r_goto hX e_X11_theft_200 ?_
      exact r_iret hX hR e_X11_theft_215 hf
  · have hf := ite_f hf hc
    refine r_aload_n (i := 0) hX e_X11_theft_133 rfl rfl ?_
    obtain ⟨r4, hr4, hf⟩ := bd_s hf
    refine r_getR hX hn e_X11_theft_134 fl_11_62 rfl g1 hr4 ?_
    refine r_iload hX e_X11_theft_137 rfl ?_
    obtain ⟨g5, hf⟩ := gd_s hf
    refine r_iald hX hn e_X11_theft_139 g5 ?_
    refine r_aload_n (i := 0) hX e_X11_theft_140 rfl rfl ?_
    obtain ⟨r6, hr6, hf⟩ := bd_s hf
    refine r_getR hX hn e_X11_theft_141 fl_11_16 rfl g1 hr6 ?_
    refine r_bipush hX e_X11_theft_144 bc_60 ?_
    refine r_iload_n (i := 1) hX e_X11_theft_146 rfl rfl ?_
    refine r_imul hX e_X11_theft_147 ?_
    refine r_iload hX e_X11_theft_148 rfl ?_
    refine r_iadd hX e_X11_theft_150 ?_
    obtain ⟨g7, hf⟩ := gd_s hf
    refine r_lald hX hn e_X11_theft_151 g7 ?_
    obtain ⟨v8, hv8, hf⟩ := nx_s hf
    refine top_l hv8 ?_
    refine r_l2i hX e_X11_theft_152 ?_
    refine r_isub hX e_X11_theft_153 ?_
    obtain ⟨v9, hv9, hf⟩ := nx_s hf
    refine top_i hv9 ?_
    refine r_istore hX e_X11_theft_154 (Nat.le_of_ble_eq_true rfl) rfl ?_
    refine r_iload hX e_X11_theft_156 rfl ?_
    refine r_if_gt hX e_X11_theft_158 (fun hc => ?_) (fun hc => ?_)
    · have hf := ite_t hf hc
      refine r_iinc (v := x3 + 1) hX e_X11_theft_164 rfl (ii_s ic_1) (Nat.le_of_ble_eq_true rfl) rfl ?_
      refine r_iload hX e_X11_theft_167 rfl ?_
      refine r_iconst hX e_X11_theft_169 ic_m1 ?_
      refine r_icmp_ne hX e_X11_theft_170 (fun hc => ?_) (fun hc => ?_)
      · have hf := ite_f hf hc
        refine r_iload hX e_X11_theft_178 rfl ?_
        exact GoN.weak (t_X11_theft_180 hX hn hR hk122 M (x0) (x1) (x2) ((x3 + 1)) (x5) (x6) (v9) (x4) hf) rfl (sb_s (sb_s (sb_s (sb_s (sb_n (sb_s (sb_s (sb_s (sb_z _)))))))))
      · have hf := ite_t hf hc
        refine r_iload hX e_X11_theft_173 rfl ?_
        refine r_goto hX e_X11_theft_175 ?_
        exact GoN.weak (t_X11_theft_180 hX hn hR hk122 M (x0) (x1) (x2) ((x3 + 1)) (x5) (x6) (v9) (x6) hf) rfl (sb_s (sb_s (sb_s (sb_s (sb_n (sb_s (sb_s (sb_s (sb_z _)))))))))
    · have hf := ite_f hf hc
      refine r_goto hX e_X11_theft_161 ?_
      refine r_iinc (v := x6 + 1) hX e_X11_theft_189 rfl (ii_s ic_1) (Nat.le_of_ble_eq_true rfl) rfl ?_
      refine r_goto hX e_X11_theft_192 ?_
      exact GoN.weak (hk122 M (x0) (x1) (x2) (x3) (x4) (x5) ((x6 + 1)) hf) rfl (sb_s (sb_s (sb_s (sb_s (sb_s (sb_s (sb_s (sb_n (sb_z _)))))))))
theorem t_X11_theft_122 {X : Cx} {res : Mem × Int32}  (hX : OkX X cX11_theft RX11 5 116) (hn : Fit X shR nR) (hR : RetI X shR nR .int res)  : ∀ (n : Nat) (M : Mem) (x0 : Nat) (x1 : Int32) (x2 : Int32) (x3 : Int32) (x4 : Int32) (x5 : Int32) (x6 : Int32),  f_X11_theft_122  n M x0 x1 x2 x3 x4 x5 x6 = some res → GoN X shR nR 0 0 M 122 [some (.ref (X.B + x0)), some (.int (x1)), some (.int (x2)), some (.int (x3)), some (.int (x4)), some (.int (x5)), some (.int (x6)), none] [] := by
  intro n
  induction n with
  | zero => intro M x0 x1 x2 x3 x4 x5 x6 hf; cases hf
  | succ n ih => intro M x0 x1 x2 x3 x4 x5 x6 hf; exact t_s_X11_theft_122 hX hn hR  ih M x0 x1 x2 x3 x4 x5 x6 hf
theorem t_s_X11_theft_67 {X : Cx} {res : Mem × Int32} {k67 : Mem → Nat → Int32 → Int32 → Int32 → Option (Mem × Int32)} (hX : OkX X cX11_theft RX11 5 116) (hn : Fit X shR nR) (hR : RetI X shR nR .int res) (hk67 : ∀ M x0 x1 x2 x3, k67 M x0 x1 x2 x3 = some res → GoN X shR nR 0 0 M 67 [some (.ref (X.B + x0)), some (.int (x1)), some (.int (x2)), some (.int (x3)), none, none, none, none] []) (M : Mem) (x0 : Nat) (x1 : Int32) (x2 : Int32) (x3 : Int32) (hf : s_X11_theft_67 k67 M x0 x1 x2 x3 = some res) : GoN X shR nR 0 0 M 67 [some (.ref (X.B + x0)), some (.int (x1)), some (.int (x2)), some (.int (x3)), none, none, none, none] [] := by
  refine r_iload_n (i := 3) hX e_X11_theft_67 rfl rfl ?_
  refine r_aload_n (i := 0) hX e_X11_theft_68 rfl rfl ?_
  obtain ⟨g1, hf⟩ := gd_s hf
  obtain ⟨r2, hr2, hf⟩ := bd_s hf
  refine r_getR hX hn e_X11_theft_69 fl_11_34 rfl g1 hr2 ?_
  refine r_iconst hX e_X11_theft_72 ic_3 ?_
  obtain ⟨g3, hf⟩ := gd_s hf
  refine r_iald hX hn e_X11_theft_73 g3 ?_
  refine r_icmp_ge hX e_X11_theft_74 (fun hc => ?_) (fun hc => ?_)
  · have hf := ite_t hf hc
    refine r_aload_n (i := 0) hX e_X11_theft_107 rfl rfl ?_
    obtain ⟨u4, hu4, hf⟩ := bd_s hf
    refine r_cvv (As := fun K B => []) hX hn (t_X11_plainHour hu4) e_X11_theft_108 cw_X11_plainHour cv_X11_plainHour lk_11_400 ⟨Nat.le_of_ble_eq_true rfl, Nat.le_of_ble_eq_true rfl⟩ (ci := 11) rfl rfl (Nat.le_of_ble_eq_true rfl) g1 rfl rfl (Nat.le_of_ble_eq_true rfl) ⟨Nat.zero_le _, Nat.zero_le _⟩ ?_
    refine r_iconst hX e_X11_theft_111 ic_0 ?_
    refine r_istore_n (i := 3) hX e_X11_theft_112 rfl (Nat.le_of_ble_eq_true rfl) rfl ?_
    refine r_iconst hX e_X11_theft_113 ic_m1 ?_
    refine r_istore hX e_X11_theft_114 (Nat.le_of_ble_eq_true rfl) rfl ?_
    refine r_iconst hX e_X11_theft_116 ic_0 ?_
    refine r_istore hX e_X11_theft_117 (Nat.le_of_ble_eq_true rfl) rfl ?_
    refine r_iconst hX e_X11_theft_119 ic_0 ?_
    refine r_istore hX e_X11_theft_120 (Nat.le_of_ble_eq_true rfl) rfl ?_
    exact GoN.weak (t_X11_theft_122 hX hn hR FU u4 (x0) (x1) (x2) (0) ((-1)) (0) (0) hf) rfl (sb_s (sb_s (sb_s (sb_s (sb_s (sb_s (sb_s (sb_n (sb_z _)))))))))
  · have hf := ite_f hf hc
    refine r_aload_n (i := 0) hX e_X11_theft_77 rfl rfl ?_
    obtain ⟨r5, hr5, hf⟩ := bd_s hf
    refine r_getR hX hn e_X11_theft_78 fl_11_16 rfl g1 hr5 ?_
    refine r_bipush hX e_X11_theft_81 bc_60 ?_
    refine r_iload_n (i := 1) hX e_X11_theft_83 rfl rfl ?_
    refine r_imul hX e_X11_theft_84 ?_
    refine r_iload_n (i := 3) hX e_X11_theft_85 rfl rfl ?_
    refine r_iadd hX e_X11_theft_86 ?_
    obtain ⟨g6, hf⟩ := gd_s hf
    refine r_lald hX hn e_X11_theft_87 g6 ?_
    obtain ⟨v7, hv7, hf⟩ := nx_s hf
    refine top_l hv7 ?_
    refine r_lconst hX e_X11_theft_88 lc_0 ?_
    refine r_ldc2 hX e_X11_theft_89 wk_1675 ?_
    obtain ⟨v8, hv8, hf⟩ := bd_s hf
    refine r_csi (As := fun K B => [.long (v7), .long (0), .long (20)]) hX hn (t_X11_in hv8) e_X11_theft_92 cw_X11_in cv_X11_in lk_11_127 ⟨Nat.le_of_ble_eq_true rfl, Nat.le_of_ble_eq_true rfl⟩ rfl rfl (Nat.le_of_ble_eq_true rfl) ⟨Nat.zero_le _, Nat.zero_le _⟩ ?_
    refine r_if_ne hX e_X11_theft_95 (fun hc => ?_) (fun hc => ?_)
    · have hf := ite_f hf hc
      refine r_iinc (v := x3 + 1) hX e_X11_theft_101 rfl (ii_s ic_1) (Nat.le_of_ble_eq_true rfl) rfl ?_
      refine r_goto hX e_X11_theft_104 ?_
      exact GoN.weak (hk67 M (x0) (x1) (x2) ((x3 + 1)) hf) rfl (sb_s (sb_s (sb_s (sb_s (sb_n (sb_n (sb_n (sb_n (sb_z _)))))))))
    · have hf := ite_t hf hc
      refine r_bipush hX e_X11_theft_98 bc_m2 ?_
      exact r_iret hX hR e_X11_theft_100 hf
theorem t_X11_theft_67 {X : Cx} {res : Mem × Int32}  (hX : OkX X cX11_theft RX11 5 116) (hn : Fit X shR nR) (hR : RetI X shR nR .int res)  : ∀ (n : Nat) (M : Mem) (x0 : Nat) (x1 : Int32) (x2 : Int32) (x3 : Int32),  f_X11_theft_67  n M x0 x1 x2 x3 = some res → GoN X shR nR 0 0 M 67 [some (.ref (X.B + x0)), some (.int (x1)), some (.int (x2)), some (.int (x3)), none, none, none, none] [] := by
  intro n
  induction n with
  | zero => intro M x0 x1 x2 x3 hf; cases hf
  | succ n ih => intro M x0 x1 x2 x3 hf; exact t_s_X11_theft_67 hX hn hR  ih M x0 x1 x2 x3 hf
theorem t_X11_theft {l : Launch} {M : Mem} {a0 : Nat} {a1 a2 : Int32} {res : Mem × Int32} (hf : f_X11_theft M a0 a1 a2 = some res) : Ci l yX11_theft cX11_theft 8 (some .int) 5 116 shR nR (fun K B => [.ref (B + a0), .int a1, .int a2]) M res := by
  refine met_i (own := RX11) (lo := fun K B => [some (.ref (B + a0)), some (.int a1), some (.int a2), none, none, none, none, none]) (by decide +kernel) rfl shR_ok (fun _ _ => rfl) (fun _ _ => rfl) (fun _ _ => Nat.le_of_ble_eq_true rfl) (fun X hX hn hlx hR => ?_)
  refine r_aload_n (i := 0) hX e_X11_theft_0 rfl rfl ?_
  refine r_iconst hX e_X11_theft_1 ic_0 ?_
  obtain ⟨g1, hf⟩ := gd_s hf
  obtain ⟨M2, hM2, hf⟩ := nx_s hf
  refine r_putI hX hn hM2 e_X11_theft_2 fl_11_122 fp_11_0 rfl g1 ?_
  refine r_iload_n (i := 1) hX e_X11_theft_5 rfl rfl ?_
  obtain ⟨v3, hv3, hf⟩ := bd_s hf
  refine r_csi (As := fun K B => [.int (a1)]) hX hn (t_X11_isSlot hv3) e_X11_theft_6 cw_X11_isSlot cv_X11_isSlot lk_11_131 ⟨Nat.le_of_ble_eq_true rfl, Nat.le_of_ble_eq_true rfl⟩ rfl rfl (Nat.le_of_ble_eq_true rfl) ⟨Nat.zero_le _, Nat.zero_le _⟩ ?_
  refine r_if_eq hX e_X11_theft_9 (fun hc => ?_) (fun hc => ?_)
  · have hf := ite_t hf hc
    refine r_bipush hX e_X11_theft_31 bc_m2 ?_
    exact r_iret hX hR e_X11_theft_33 hf
  · have hf := ite_f hf hc
    refine r_aload_n (i := 0) hX e_X11_theft_12 rfl rfl ?_
    obtain ⟨v4, hv4, hf⟩ := bd_s hf
    refine r_cvi (As := fun K B => []) hX hn (t_X11_isMarket hv4) e_X11_theft_13 cw_X11_isMarket cv_X11_isMarket lk_11_403 ⟨Nat.le_of_ble_eq_true rfl, Nat.le_of_ble_eq_true rfl⟩ (ci := 11) rfl rfl (Nat.le_of_ble_eq_true rfl) g1 rfl rfl (Nat.le_of_ble_eq_true rfl) ⟨Nat.zero_le _, Nat.zero_le _⟩ ?_
    refine r_if_eq hX e_X11_theft_16 (fun hc => ?_) (fun hc => ?_)
    · have hf := ite_t hf hc
      refine r_bipush hX e_X11_theft_31 bc_m2 ?_
      exact r_iret hX hR e_X11_theft_33 hf
    · have hf := ite_f hf hc
      refine r_iload_n (i := 2) hX e_X11_theft_19 rfl rfl ?_
      refine r_i2l hX e_X11_theft_20 ?_
      refine r_lconst hX e_X11_theft_21 lc_0 ?_
      refine r_ldc2 hX e_X11_theft_22 wk_1471 ?_
      obtain ⟨v5, hv5, hf⟩ := bd_s hf
      refine r_csi (As := fun K B => [.long ((a2 : Int32).toInt64), .long (0), .long (2)]) hX hn (t_X11_in hv5) e_X11_theft_25 cw_X11_in cv_X11_in lk_11_127 ⟨Nat.le_of_ble_eq_true rfl, Nat.le_of_ble_eq_true rfl⟩ rfl rfl (Nat.le_of_ble_eq_true rfl) ⟨Nat.zero_le _, Nat.zero_le _⟩ ?_
      refine r_if_ne hX e_X11_theft_28 (fun hc => ?_) (fun hc => ?_)
      · have hf := ite_f hf hc
        refine r_aload_n (i := 0) hX e_X11_theft_34 rfl rfl ?_
        obtain ⟨r6, hr6, hf⟩ := bd_s hf
        refine r_getR hX hn e_X11_theft_35 fl_11_7 rfl g1 hr6 ?_
        refine r_iload_n (i := 1) hX e_X11_theft_38 rfl rfl ?_
        obtain ⟨g7, hf⟩ := gd_s hf
        refine r_iald hX hn e_X11_theft_39 g7 ?_
        refine r_iconst hX e_X11_theft_40 ic_m1 ?_
        refine r_icmp_ne hX e_X11_theft_41 (fun hc => ?_) (fun hc => ?_)
        · have hf := ite_f hf hc
          refine r_aload_n (i := 0) hX e_X11_theft_47 rfl rfl ?_
          obtain ⟨r8, hr8, hf⟩ := bd_s hf
          refine r_getR hX hn e_X11_theft_48 fl_11_13 rfl g1 hr8 ?_
          refine r_iload_n (i := 1) hX e_X11_theft_51 rfl rfl ?_
          obtain ⟨g9, hf⟩ := gd_s hf
          refine r_iald hX hn e_X11_theft_52 g9 ?_
          refine r_aload_n (i := 0) hX e_X11_theft_53 rfl rfl ?_
          obtain ⟨r10, hr10, hf⟩ := bd_s hf
          refine r_getR hX hn e_X11_theft_54 fl_11_34 rfl g1 hr10 ?_
          refine r_iconst hX e_X11_theft_57 ic_3 ?_
          obtain ⟨g11, hf⟩ := gd_s hf
          refine r_iald hX hn e_X11_theft_58 g11 ?_
          refine r_icmp_eq hX e_X11_theft_59 (fun hc => ?_) (fun hc => ?_)
          · have hf := ite_t hf hc
            refine r_iconst hX e_X11_theft_65 ic_0 ?_
            refine r_istore_n (i := 3) hX e_X11_theft_66 rfl (Nat.le_of_ble_eq_true rfl) rfl ?_
            exact GoN.weak (t_X11_theft_67 hX hn hR FU M2 (a0) (a1) (a2) (0) hf) rfl (sb_s (sb_s (sb_s (sb_s (sb_n (sb_n (sb_n (sb_n (sb_z _)))))))))
          · have hf := ite_f hf hc
            refine r_bipush hX e_X11_theft_62 bc_m7 ?_
            exact r_iret hX hR e_X11_theft_64 hf
        · have hf := ite_t hf hc
          refine r_bipush hX e_X11_theft_44 bc_m6 ?_
          exact r_iret hX hR e_X11_theft_46 hf
      · have hf := ite_t hf hc
        refine r_bipush hX e_X11_theft_31 bc_m2 ?_
        exact r_iret hX hR e_X11_theft_33 hf
def s_X11_passed_62 (k53 : Mem → Nat → Int32 → Int32 → Int32 → Int32 → Option (Mem × Int32)) (k62 : Mem → Nat → Int32 → Int32 → Int32 → Int32 → Int32 → Option (Mem × Int32)) (M : Mem) (x0 : Nat) (x1 : Int32) (x3 : Int32) (x4 : Int32) (x5 : Int32) (x6 : Int32) : Option (Mem × Int32) :=
  gd (oB shR x0 11) <| bd (gR M x0 17) fun r2 => gd (aB shR r2 0 4) <| if (gI M r2 (4 : Int32).toNatClampNeg) ≤ x6 then k53 M (x0) (x1) (x3) (x4) ((x5 + 1)) else bd (gR M x0 20) fun r4 => gd (aB shR r4 0 (4 * x6)) <| bd (f_X11_placeOf M x0 x1 x5) fun v6 => if (gI M r4 ((4 * x6) : Int32).toNatClampNeg) = v6 then k62 M (x0) (x1) (x3) ((x4 ||| (1 <<< (x6 &&& 31)))) (x5) ((x6 + 1)) else k62 M (x0) (x1) (x3) ((x4 ||| 0)) (x5) ((x6 + 1))
def f_X11_passed_62 (k53 : Mem → Nat → Int32 → Int32 → Int32 → Int32 → Option (Mem × Int32)) : Nat → Mem → Nat → Int32 → Int32 → Int32 → Int32 → Int32 → Option (Mem × Int32)
  | 0 => fun _ _ _ _ _ _ _ => none
  | n + 1 => fun y0 y1 y2 y3 y4 y5 y6 => s_X11_passed_62 k53 (f_X11_passed_62 k53 n) y0 y1 y2 y3 y4 y5 y6
def s_X11_passed_53 (k53 : Mem → Nat → Int32 → Int32 → Int32 → Int32 → Option (Mem × Int32)) (M : Mem) (x0 : Nat) (x1 : Int32) (x3 : Int32) (x4 : Int32) (x5 : Int32) : Option (Mem × Int32) :=
  if x3 < x5 then some (M, x4) else f_X11_passed_62 k53 FU M (x0) (x1) (x3) (x4) (x5) (0)
def f_X11_passed_53  : Nat → Mem → Nat → Int32 → Int32 → Int32 → Int32 → Option (Mem × Int32)
  | 0 => fun _ _ _ _ _ _ => none
  | n + 1 => fun y0 y1 y2 y3 y4 y5 => s_X11_passed_53  (f_X11_passed_53  n) y0 y1 y2 y3 y4 y5
def f_X11_passed (M : Mem) (a0 : Nat) (a1 : Int32) (a2 : Int32) (a3 : Int32) : Option (Mem × Int32) :=
  gd (oB shR a0 11) <| nx (sI M a0 0 0) fun M2 => bd (f_X11_isStall M2 a0 a1) fun v3 => if v3 = 0 then some (M2, (-2)) else bd (f_X11_isMinute M2 a0 a2) fun v4 => if v4 = 0 then some (M2, (-2)) else bd (gR M2 a0 17) fun r5 => gd (aB shR r5 0 1) <| nx ((((gI M2 r5 (1 : Int32).toNatClampNeg) - 1) : Int32).toInt64) fun v7 => bd (f_X11_in M2 ((a3 : Int32).toInt64) ((a2 : Int32).toInt64) v7) fun v8 => if v8 = 0 then some (M2, (-2)) else bd (f_X11_asTold M2 a0) fun u9 => f_X11_passed_53 FU u9 (a0) (a1) (a3) (0) (a2)
theorem t_s_X11_passed_62 {X : Cx} {res : Mem × Int32} {k53 : Mem → Nat → Int32 → Int32 → Int32 → Int32 → Option (Mem × Int32)} {k62 : Mem → Nat → Int32 → Int32 → Int32 → Int32 → Int32 → Option (Mem × Int32)} (hX : OkX X cX11_passed RX11 4 92) (hn : Fit X shR nR) (hR : RetI X shR nR .int res) (hk53 : ∀ M x0 x1 x3 x4 x5, k53 M x0 x1 x3 x4 x5 = some res → GoN X shR nR 0 0 M 53 [some (.ref (X.B + x0)), some (.int (x1)), none, some (.int (x3)), some (.int (x4)), some (.int (x5)), none] []) (hk62 : ∀ M x0 x1 x3 x4 x5 x6, k62 M x0 x1 x3 x4 x5 x6 = some res → GoN X shR nR 0 0 M 62 [some (.ref (X.B + x0)), some (.int (x1)), none, some (.int (x3)), some (.int (x4)), some (.int (x5)), some (.int (x6))] []) (M : Mem) (x0 : Nat) (x1 : Int32) (x3 : Int32) (x4 : Int32) (x5 : Int32) (x6 : Int32) (hf : s_X11_passed_62 k53 k62 M x0 x1 x3 x4 x5 x6 = some res) : GoN X shR nR 0 0 M 62 [some (.ref (X.B + x0)), some (.int (x1)), none, some (.int (x3)), some (.int (x4)), some (.int (x5)), some (.int (x6))] [] := by
  refine r_iload hX e_X11_passed_62 rfl ?_
  refine r_aload_n (i := 0) hX e_X11_passed_64 rfl rfl ?_
  obtain ⟨g1, hf⟩ := gd_s hf
  obtain ⟨r2, hr2, hf⟩ := bd_s hf
  refine r_getR hX hn e_X11_passed_65 fl_11_34 rfl g1 hr2 ?_
  refine r_iconst hX e_X11_passed_68 ic_4 ?_
  obtain ⟨g3, hf⟩ := gd_s hf
  refine r_iald hX hn e_X11_passed_69 g3 ?_
  refine r_icmp_ge hX e_X11_passed_70 (fun hc => ?_) (fun hc => ?_)
  · have hf := ite_t hf hc
    refine r_iinc (v := x5 + 1) hX e_X11_passed_111 rfl (ii_s ic_1) (Nat.le_of_ble_eq_true rfl) rfl ?_
    refine r_goto hX e_X11_passed_114 ?_
    exact GoN.weak (hk53 M (x0) (x1) (x3) (x4) ((x5 + 1)) hf) rfl (sb_s (sb_s (sb_n (sb_s (sb_s (sb_s (sb_n (sb_z _))))))))
  · have hf := ite_f hf hc
    refine r_iload hX e_X11_passed_73 rfl ?_
    refine r_aload_n (i := 0) hX e_X11_passed_75 rfl rfl ?_
    obtain ⟨r4, hr4, hf⟩ := bd_s hf
    refine r_getR hX hn e_X11_passed_76 fl_11_43 rfl g1 hr4 ?_
    refine r_iconst hX e_X11_passed_79 ic_4 ?_
    refine r_iload hX e_X11_passed_80 rfl ?_
    refine r_imul hX e_X11_passed_82 ?_
    obtain ⟨g5, hf⟩ := gd_s hf
    refine r_iald hX hn e_X11_passed_83 g5 ?_
    refine r_aload_n (i := 0) hX e_X11_passed_84 rfl rfl ?_
    refine r_iload_n (i := 1) hX e_X11_passed_85 rfl rfl ?_
    refine r_iload hX e_X11_passed_86 rfl ?_
    obtain ⟨v6, hv6, hf⟩ := bd_s hf
    refine r_cvi (As := fun K B => [.int (x1), .int (x5)]) hX hn (t_X11_placeOf hv6) e_X11_passed_88 cw_X11_placeOf cv_X11_placeOf lk_11_359 ⟨Nat.le_of_ble_eq_true rfl, Nat.le_of_ble_eq_true rfl⟩ (ci := 11) rfl rfl (Nat.le_of_ble_eq_true rfl) g1 rfl rfl (Nat.le_of_ble_eq_true rfl) ⟨Nat.zero_le _, Nat.zero_le _⟩ ?_
    refine r_icmp_ne hX e_X11_passed_91 (fun hc => ?_) (fun hc => ?_)
    · have hf := ite_f hf hc
      refine r_iconst hX e_X11_passed_101 ic_0 ?_
      refine r_ior hX e_X11_passed_102 ?_
      refine r_istore hX e_X11_passed_103 (Nat.le_of_ble_eq_true rfl) rfl ?_
      refine r_iinc (v := x6 + 1) hX e_X11_passed_105 rfl (ii_s ic_1) (Nat.le_of_ble_eq_true rfl) rfl ?_
      refine r_goto hX e_X11_passed_108 ?_
      exact GoN.weak (hk62 M (x0) (x1) (x3) ((x4 ||| 0)) (x5) ((x6 + 1)) hf) rfl (sb_s (sb_s (sb_n (sb_s (sb_s (sb_s (sb_s (sb_z _))))))))
    · have hf := ite_t hf hc
      refine r_iconst hX e_X11_passed_94 ic_1 ?_
      refine r_iload hX e_X11_passed_95 rfl ?_
      refine r_ishl hX e_X11_passed_97 ?_
      refine r_goto hX e_X11_passed_98 ?_
      refine r_ior hX e_X11_passed_102 ?_
      refine r_istore hX e_X11_passed_103 (Nat.le_of_ble_eq_true rfl) rfl ?_
      refine r_iinc (v := x6 + 1) hX e_X11_passed_105 rfl (ii_s ic_1) (Nat.le_of_ble_eq_true rfl) rfl ?_
      refine r_goto hX e_X11_passed_108 ?_
      exact GoN.weak (hk62 M (x0) (x1) (x3) ((x4 ||| (1 <<< (x6 &&& 31)))) (x5) ((x6 + 1)) hf) rfl (sb_s (sb_s (sb_n (sb_s (sb_s (sb_s (sb_s (sb_z _))))))))
theorem t_X11_passed_62 {X : Cx} {res : Mem × Int32} {k53 : Mem → Nat → Int32 → Int32 → Int32 → Int32 → Option (Mem × Int32)} (hX : OkX X cX11_passed RX11 4 92) (hn : Fit X shR nR) (hR : RetI X shR nR .int res) (hk53 : ∀ M x0 x1 x3 x4 x5, k53 M x0 x1 x3 x4 x5 = some res → GoN X shR nR 0 0 M 53 [some (.ref (X.B + x0)), some (.int (x1)), none, some (.int (x3)), some (.int (x4)), some (.int (x5)), none] []) : ∀ (n : Nat) (M : Mem) (x0 : Nat) (x1 : Int32) (x3 : Int32) (x4 : Int32) (x5 : Int32) (x6 : Int32),  f_X11_passed_62 k53 n M x0 x1 x3 x4 x5 x6 = some res → GoN X shR nR 0 0 M 62 [some (.ref (X.B + x0)), some (.int (x1)), none, some (.int (x3)), some (.int (x4)), some (.int (x5)), some (.int (x6))] [] := by
  intro n
  induction n with
  | zero => intro M x0 x1 x3 x4 x5 x6 hf; cases hf
  | succ n ih => intro M x0 x1 x3 x4 x5 x6 hf; exact t_s_X11_passed_62 hX hn hR hk53 ih M x0 x1 x3 x4 x5 x6 hf
theorem t_s_X11_passed_53 {X : Cx} {res : Mem × Int32} {k53 : Mem → Nat → Int32 → Int32 → Int32 → Int32 → Option (Mem × Int32)} (hX : OkX X cX11_passed RX11 4 92) (hn : Fit X shR nR) (hR : RetI X shR nR .int res) (hk53 : ∀ M x0 x1 x3 x4 x5, k53 M x0 x1 x3 x4 x5 = some res → GoN X shR nR 0 0 M 53 [some (.ref (X.B + x0)), some (.int (x1)), none, some (.int (x3)), some (.int (x4)), some (.int (x5)), none] []) (M : Mem) (x0 : Nat) (x1 : Int32) (x3 : Int32) (x4 : Int32) (x5 : Int32) (hf : s_X11_passed_53 k53 M x0 x1 x3 x4 x5 = some res) : GoN X shR nR 0 0 M 53 [some (.ref (X.B + x0)), some (.int (x1)), none, some (.int (x3)), some (.int (x4)), some (.int (x5)), none] [] := by
  refine r_iload hX e_X11_passed_53 rfl ?_
  refine r_iload_n (i := 3) hX e_X11_passed_55 rfl rfl ?_
  refine r_icmp_gt hX e_X11_passed_56 (fun hc => ?_) (fun hc => ?_)
  · have hf := ite_t hf hc
    refine r_iload hX e_X11_passed_117 rfl ?_
    exact r_iret hX hR e_X11_passed_119 hf
  · have hf := ite_f hf hc
    refine r_iconst hX e_X11_passed_59 ic_0 ?_
    refine r_istore hX e_X11_passed_60 (Nat.le_of_ble_eq_true rfl) rfl ?_
    exact GoN.weak (t_X11_passed_62 hX hn hR hk53 FU M (x0) (x1) (x3) (x4) (x5) (0) hf) rfl (sb_s (sb_s (sb_n (sb_s (sb_s (sb_s (sb_s (sb_z _))))))))
theorem t_X11_passed_53 {X : Cx} {res : Mem × Int32}  (hX : OkX X cX11_passed RX11 4 92) (hn : Fit X shR nR) (hR : RetI X shR nR .int res)  : ∀ (n : Nat) (M : Mem) (x0 : Nat) (x1 : Int32) (x3 : Int32) (x4 : Int32) (x5 : Int32),  f_X11_passed_53  n M x0 x1 x3 x4 x5 = some res → GoN X shR nR 0 0 M 53 [some (.ref (X.B + x0)), some (.int (x1)), none, some (.int (x3)), some (.int (x4)), some (.int (x5)), none] [] := by
  intro n
  induction n with
  | zero => intro M x0 x1 x3 x4 x5 hf; cases hf
  | succ n ih => intro M x0 x1 x3 x4 x5 hf; exact t_s_X11_passed_53 hX hn hR  ih M x0 x1 x3 x4 x5 hf
theorem t_X11_passed {l : Launch} {M : Mem} {a0 : Nat} {a1 a2 a3 : Int32} {res : Mem × Int32} (hf : f_X11_passed M a0 a1 a2 a3 = some res) : Ci l yX11_passed cX11_passed 7 (some .int) 4 92 shR nR (fun K B => [.ref (B + a0), .int a1, .int a2, .int a3]) M res := by
  refine met_i (own := RX11) (lo := fun K B => [some (.ref (B + a0)), some (.int a1), some (.int a2), some (.int a3), none, none, none]) (by decide +kernel) rfl shR_ok (fun _ _ => rfl) (fun _ _ => rfl) (fun _ _ => Nat.le_of_ble_eq_true rfl) (fun X hX hn hlx hR => ?_)
  refine r_aload_n (i := 0) hX e_X11_passed_0 rfl rfl ?_
  refine r_iconst hX e_X11_passed_1 ic_0 ?_
  obtain ⟨g1, hf⟩ := gd_s hf
  obtain ⟨M2, hM2, hf⟩ := nx_s hf
  refine r_putI hX hn hM2 e_X11_passed_2 fl_11_122 fp_11_0 rfl g1 ?_
  refine r_aload_n (i := 0) hX e_X11_passed_5 rfl rfl ?_
  refine r_iload_n (i := 1) hX e_X11_passed_6 rfl rfl ?_
  obtain ⟨v3, hv3, hf⟩ := bd_s hf
  refine r_cvi (As := fun K B => [.int (a1)]) hX hn (t_X11_isStall hv3) e_X11_passed_7 cw_X11_isStall cv_X11_isStall lk_11_305 ⟨Nat.le_of_ble_eq_true rfl, Nat.le_of_ble_eq_true rfl⟩ (ci := 11) rfl rfl (Nat.le_of_ble_eq_true rfl) g1 rfl rfl (Nat.le_of_ble_eq_true rfl) ⟨Nat.zero_le _, Nat.zero_le _⟩ ?_
  refine r_if_eq hX e_X11_passed_10 (fun hc => ?_) (fun hc => ?_)
  · have hf := ite_t hf hc
    refine r_bipush hX e_X11_passed_40 bc_m2 ?_
    exact r_iret hX hR e_X11_passed_42 hf
  · have hf := ite_f hf hc
    refine r_aload_n (i := 0) hX e_X11_passed_13 rfl rfl ?_
    refine r_iload_n (i := 2) hX e_X11_passed_14 rfl rfl ?_
    obtain ⟨v4, hv4, hf⟩ := bd_s hf
    refine r_cvi (As := fun K B => [.int (a2)]) hX hn (t_X11_isMinute hv4) e_X11_passed_15 cw_X11_isMinute cv_X11_isMinute lk_11_353 ⟨Nat.le_of_ble_eq_true rfl, Nat.le_of_ble_eq_true rfl⟩ (ci := 11) rfl rfl (Nat.le_of_ble_eq_true rfl) g1 rfl rfl (Nat.le_of_ble_eq_true rfl) ⟨Nat.zero_le _, Nat.zero_le _⟩ ?_
    refine r_if_eq hX e_X11_passed_18 (fun hc => ?_) (fun hc => ?_)
    · have hf := ite_t hf hc
      refine r_bipush hX e_X11_passed_40 bc_m2 ?_
      exact r_iret hX hR e_X11_passed_42 hf
    · have hf := ite_f hf hc
      refine r_iload_n (i := 3) hX e_X11_passed_21 rfl rfl ?_
      refine r_i2l hX e_X11_passed_22 ?_
      refine r_iload_n (i := 2) hX e_X11_passed_23 rfl rfl ?_
      refine r_i2l hX e_X11_passed_24 ?_
      refine r_aload_n (i := 0) hX e_X11_passed_25 rfl rfl ?_
      obtain ⟨r5, hr5, hf⟩ := bd_s hf
      refine r_getR hX hn e_X11_passed_26 fl_11_34 rfl g1 hr5 ?_
      refine r_iconst hX e_X11_passed_29 ic_1 ?_
      obtain ⟨g6, hf⟩ := gd_s hf
      refine r_iald hX hn e_X11_passed_30 g6 ?_
      refine r_iconst hX e_X11_passed_31 ic_1 ?_
      refine r_isub hX e_X11_passed_32 ?_
      refine r_i2l hX e_X11_passed_33 ?_
      obtain ⟨v7, hv7, hf⟩ := nx_s hf
      refine top_l hv7 ?_
      obtain ⟨v8, hv8, hf⟩ := bd_s hf
      refine r_csi (As := fun K B => [.long ((a3 : Int32).toInt64), .long ((a2 : Int32).toInt64), .long (v7)]) hX hn (t_X11_in hv8) e_X11_passed_34 cw_X11_in cv_X11_in lk_11_127 ⟨Nat.le_of_ble_eq_true rfl, Nat.le_of_ble_eq_true rfl⟩ rfl rfl (Nat.le_of_ble_eq_true rfl) ⟨Nat.zero_le _, Nat.zero_le _⟩ ?_
      refine r_if_ne hX e_X11_passed_37 (fun hc => ?_) (fun hc => ?_)
      · have hf := ite_f hf hc
        refine r_aload_n (i := 0) hX e_X11_passed_43 rfl rfl ?_
        obtain ⟨u9, hu9, hf⟩ := bd_s hf
        refine r_cvv (As := fun K B => []) hX hn (t_X11_asTold hu9) e_X11_passed_44 cw_X11_asTold cv_X11_asTold lk_11_356 ⟨Nat.le_of_ble_eq_true rfl, Nat.le_of_ble_eq_true rfl⟩ (ci := 11) rfl rfl (Nat.le_of_ble_eq_true rfl) g1 rfl rfl (Nat.le_of_ble_eq_true rfl) ⟨Nat.zero_le _, Nat.zero_le _⟩ ?_
        refine r_iconst hX e_X11_passed_47 ic_0 ?_
        refine r_istore hX e_X11_passed_48 (Nat.le_of_ble_eq_true rfl) rfl ?_
        refine r_iload_n (i := 2) hX e_X11_passed_50 rfl rfl ?_
        refine r_istore hX e_X11_passed_51 (Nat.le_of_ble_eq_true rfl) rfl ?_
        exact GoN.weak (t_X11_passed_53 hX hn hR FU u9 (a0) (a1) (a3) (0) (a2) hf) rfl (sb_s (sb_s (sb_n (sb_s (sb_s (sb_s (sb_n (sb_z _))))))))
      · have hf := ite_t hf hc
        refine r_bipush hX e_X11_passed_40 bc_m2 ?_
        exact r_iret hX hR e_X11_passed_42 hf
def f_X11_harmOf (M : Mem) (a0 : Nat) (a1 : Int32) (a2 : Int32) : Option (Mem × Int32) :=
  gd (oB shR a0 11) <| bd (f_X11_salesNow M a0) fun u2 => nx (sI u2.1 a0 25 a1) fun M3 => nx (sI M3 a0 26 a2) fun M4 => bd (f_X11_hour M4 a0) fun u5 => nx (sI u5 a0 25 (-1)) fun M6 => some (M6, (u2.2 - (gI M6 a0 46)))
theorem t_X11_harmOf {l : Launch} {M : Mem} {a0 : Nat} {a1 a2 : Int32} {res : Mem × Int32} (hf : f_X11_harmOf M a0 a1 a2 = some res) : Ci l yX11_harmOf cX11_harmOf 4 (some .int) 6 136 shR nR (fun K B => [.ref (B + a0), .int a1, .int a2]) M res := by
  refine met_i (own := RX11) (lo := fun K B => [some (.ref (B + a0)), some (.int a1), some (.int a2), none]) (by decide +kernel) rfl shR_ok (fun _ _ => rfl) (fun _ _ => rfl) (fun _ _ => Nat.le_of_ble_eq_true rfl) (fun X hX hn hlx hR => ?_)
  refine r_aload_n (i := 0) hX e_X11_harmOf_0 rfl rfl ?_
  obtain ⟨g1, hf⟩ := gd_s hf
  obtain ⟨u2, hu2, hf⟩ := bd_s hf
  refine r_cvi (As := fun K B => []) hX hn (t_X11_salesNow hu2) e_X11_harmOf_1 cw_X11_salesNow cv_X11_salesNow lk_11_429 ⟨Nat.le_of_ble_eq_true rfl, Nat.le_of_ble_eq_true rfl⟩ (ci := 11) rfl rfl (Nat.le_of_ble_eq_true rfl) g1 rfl rfl (Nat.le_of_ble_eq_true rfl) ⟨Nat.zero_le _, Nat.zero_le _⟩ ?_
  refine r_istore_n (i := 3) hX e_X11_harmOf_4 rfl (Nat.le_of_ble_eq_true rfl) rfl ?_
  refine r_aload_n (i := 0) hX e_X11_harmOf_5 rfl rfl ?_
  refine r_iload_n (i := 1) hX e_X11_harmOf_6 rfl rfl ?_
  obtain ⟨M3, hM3, hf⟩ := nx_s hf
  refine r_putI hX hn hM3 e_X11_harmOf_7 fl_11_318 fp_11_25 rfl g1 ?_
  refine r_aload_n (i := 0) hX e_X11_harmOf_10 rfl rfl ?_
  refine r_iload_n (i := 2) hX e_X11_harmOf_11 rfl rfl ?_
  obtain ⟨M4, hM4, hf⟩ := nx_s hf
  refine r_putI hX hn hM4 e_X11_harmOf_12 fl_11_321 fp_11_26 rfl g1 ?_
  refine r_aload_n (i := 0) hX e_X11_harmOf_15 rfl rfl ?_
  obtain ⟨u5, hu5, hf⟩ := bd_s hf
  refine r_cvv (As := fun K B => []) hX hn (t_X11_hour hu5) e_X11_harmOf_16 cw_X11_hour cv_X11_hour lk_11_397 ⟨Nat.le_of_ble_eq_true rfl, Nat.le_of_ble_eq_true rfl⟩ (ci := 11) rfl rfl (Nat.le_of_ble_eq_true rfl) g1 rfl rfl (Nat.le_of_ble_eq_true rfl) ⟨Nat.zero_le _, Nat.zero_le _⟩ ?_
  refine r_aload_n (i := 0) hX e_X11_harmOf_19 rfl rfl ?_
  refine r_iconst hX e_X11_harmOf_20 ic_m1 ?_
  obtain ⟨M6, hM6, hf⟩ := nx_s hf
  refine r_putI hX hn hM6 e_X11_harmOf_21 fl_11_318 fp_11_25 rfl g1 ?_
  refine r_iload_n (i := 3) hX e_X11_harmOf_24 rfl rfl ?_
  refine r_aload_n (i := 0) hX e_X11_harmOf_25 rfl rfl ?_
  refine r_getI hX hn e_X11_harmOf_26 fl_11_371 rfl g1 ?_
  refine r_isub hX e_X11_harmOf_29 ?_
  exact r_iret hX hR e_X11_harmOf_30 hf
def f_X11_harm (M : Mem) (a0 : Nat) (a1 : Int32) (a2 : Int32) : Option (Mem × Int32) :=
  gd (oB shR a0 11) <| nx (sI M a0 0 0) fun M2 => bd (f_X11_isRing M2 a0 a1) fun v3 => if v3 = 0 then some (M2, (-2000000)) else bd (f_X11_isMinute M2 a0 a2) fun v4 => if v4 = 0 then some (M2, (-2000000)) else bd (f_X11_harmOf M2 a0 a1 a2) fun u5 => some (u5.1, u5.2)
theorem t_X11_harm {l : Launch} {M : Mem} {a0 : Nat} {a1 a2 : Int32} {res : Mem × Int32} (hf : f_X11_harm M a0 a1 a2 = some res) : Ci l yX11_harm cX11_harm 3 (some .int) 7 159 shR nR (fun K B => [.ref (B + a0), .int a1, .int a2]) M res := by
  refine met_i (own := RX11) (lo := fun K B => [some (.ref (B + a0)), some (.int a1), some (.int a2)]) (by decide +kernel) rfl shR_ok (fun _ _ => rfl) (fun _ _ => rfl) (fun _ _ => Nat.le_of_ble_eq_true rfl) (fun X hX hn hlx hR => ?_)
  refine r_aload_n (i := 0) hX e_X11_harm_0 rfl rfl ?_
  refine r_iconst hX e_X11_harm_1 ic_0 ?_
  obtain ⟨g1, hf⟩ := gd_s hf
  obtain ⟨M2, hM2, hf⟩ := nx_s hf
  refine r_putI hX hn hM2 e_X11_harm_2 fl_11_122 fp_11_0 rfl g1 ?_
  refine r_aload_n (i := 0) hX e_X11_harm_5 rfl rfl ?_
  refine r_iload_n (i := 1) hX e_X11_harm_6 rfl rfl ?_
  obtain ⟨v3, hv3, hf⟩ := bd_s hf
  refine r_cvi (As := fun K B => [.int (a1)]) hX hn (t_X11_isRing hv3) e_X11_harm_7 cw_X11_isRing cv_X11_isRing lk_11_365 ⟨Nat.le_of_ble_eq_true rfl, Nat.le_of_ble_eq_true rfl⟩ (ci := 11) rfl rfl (Nat.le_of_ble_eq_true rfl) g1 rfl rfl (Nat.le_of_ble_eq_true rfl) ⟨Nat.zero_le _, Nat.zero_le _⟩ ?_
  refine r_if_eq hX e_X11_harm_10 (fun hc => ?_) (fun hc => ?_)
  · have hf := ite_t hf hc
    refine r_ldcw hX e_X11_harm_30 wk_1688 ?_
    exact r_iret hX hR e_X11_harm_33 hf
  · have hf := ite_f hf hc
    refine r_aload_n (i := 0) hX e_X11_harm_13 rfl rfl ?_
    refine r_iload_n (i := 2) hX e_X11_harm_14 rfl rfl ?_
    obtain ⟨v4, hv4, hf⟩ := bd_s hf
    refine r_cvi (As := fun K B => [.int (a2)]) hX hn (t_X11_isMinute hv4) e_X11_harm_15 cw_X11_isMinute cv_X11_isMinute lk_11_353 ⟨Nat.le_of_ble_eq_true rfl, Nat.le_of_ble_eq_true rfl⟩ (ci := 11) rfl rfl (Nat.le_of_ble_eq_true rfl) g1 rfl rfl (Nat.le_of_ble_eq_true rfl) ⟨Nat.zero_le _, Nat.zero_le _⟩ ?_
    refine r_if_eq hX e_X11_harm_18 (fun hc => ?_) (fun hc => ?_)
    · have hf := ite_t hf hc
      refine r_ldcw hX e_X11_harm_30 wk_1688 ?_
      exact r_iret hX hR e_X11_harm_33 hf
    · have hf := ite_f hf hc
      refine r_aload_n (i := 0) hX e_X11_harm_21 rfl rfl ?_
      refine r_iload_n (i := 1) hX e_X11_harm_22 rfl rfl ?_
      refine r_iload_n (i := 2) hX e_X11_harm_23 rfl rfl ?_
      obtain ⟨u5, hu5, hf⟩ := bd_s hf
      refine r_cvi (As := fun K B => [.int (a1), .int (a2)]) hX hn (t_X11_harmOf hu5) e_X11_harm_24 cw_X11_harmOf cv_X11_harmOf lk_11_440 ⟨Nat.le_of_ble_eq_true rfl, Nat.le_of_ble_eq_true rfl⟩ (ci := 11) rfl rfl (Nat.le_of_ble_eq_true rfl) g1 rfl rfl (Nat.le_of_ble_eq_true rfl) ⟨Nat.zero_le _, Nat.zero_le _⟩ ?_
      refine r_goto hX e_X11_harm_27 ?_
      exact r_iret hX hR e_X11_harm_33 hf
def s_X11_least_24 (k24 : Mem → Nat → Int32 → Int32 → Int32 → Int32 → Option (Mem × Int32)) (M : Mem) (x0 : Nat) (x1 : Int32) (x2 : Int32) (x3 : Int32) (x4 : Int32) : Option (Mem × Int32) :=
  gd (oB shR x0 11) <| bd (gR M x0 17) fun r2 => gd (aB shR r2 0 2) <| if (gI M r2 (2 : Int32).toNatClampNeg) ≤ x4 then some (M, x2) else bd (f_X11_harmOf M x0 x4 x1) fun u4 => if u4.2 < x3 then k24 u4.1 (x0) (x1) (x4) (u4.2) ((x4 + 1)) else k24 u4.1 (x0) (x1) (x2) (x3) ((x4 + 1))
def f_X11_least_24  : Nat → Mem → Nat → Int32 → Int32 → Int32 → Int32 → Option (Mem × Int32)
  | 0 => fun _ _ _ _ _ _ => none
  | n + 1 => fun y0 y1 y2 y3 y4 y5 => s_X11_least_24  (f_X11_least_24  n) y0 y1 y2 y3 y4 y5
def f_X11_least (M : Mem) (a0 : Nat) (a1 : Int32) : Option (Mem × Int32) :=
  gd (oB shR a0 11) <| nx (sI M a0 0 0) fun M2 => bd (f_X11_isMinute M2 a0 a1) fun v3 => if v3 = 0 then some (M2, (-2)) else f_X11_least_24 FU M2 (a0) (a1) ((-1)) (1000000) (0)
theorem t_s_X11_least_24 {X : Cx} {res : Mem × Int32} {k24 : Mem → Nat → Int32 → Int32 → Int32 → Int32 → Option (Mem × Int32)} (hX : OkX X cX11_least RX11 7 159) (hn : Fit X shR nR) (hR : RetI X shR nR .int res) (hk24 : ∀ M x0 x1 x2 x3 x4, k24 M x0 x1 x2 x3 x4 = some res → GoN X shR nR 0 0 M 24 [some (.ref (X.B + x0)), some (.int (x1)), some (.int (x2)), some (.int (x3)), some (.int (x4)), none] []) (M : Mem) (x0 : Nat) (x1 : Int32) (x2 : Int32) (x3 : Int32) (x4 : Int32) (hf : s_X11_least_24 k24 M x0 x1 x2 x3 x4 = some res) : GoN X shR nR 0 0 M 24 [some (.ref (X.B + x0)), some (.int (x1)), some (.int (x2)), some (.int (x3)), some (.int (x4)), none] [] := by
  refine r_iload hX e_X11_least_24 rfl ?_
  refine r_aload_n (i := 0) hX e_X11_least_26 rfl rfl ?_
  obtain ⟨g1, hf⟩ := gd_s hf
  obtain ⟨r2, hr2, hf⟩ := bd_s hf
  refine r_getR hX hn e_X11_least_27 fl_11_34 rfl g1 hr2 ?_
  refine r_iconst hX e_X11_least_30 ic_2 ?_
  obtain ⟨g3, hf⟩ := gd_s hf
  refine r_iald hX hn e_X11_least_31 g3 ?_
  refine r_icmp_ge hX e_X11_least_32 (fun hc => ?_) (fun hc => ?_)
  · have hf := ite_t hf hc
    refine r_iload_n (i := 2) hX e_X11_least_65 rfl rfl ?_
    exact r_iret hX hR e_X11_least_66 hf
  · have hf := ite_f hf hc
    refine r_aload_n (i := 0) hX e_X11_least_35 rfl rfl ?_
    refine r_iload hX e_X11_least_36 rfl ?_
    refine r_iload_n (i := 1) hX e_X11_least_38 rfl rfl ?_
    obtain ⟨u4, hu4, hf⟩ := bd_s hf
    refine r_cvi (As := fun K B => [.int (x4), .int (x1)]) hX hn (t_X11_harmOf hu4) e_X11_least_39 cw_X11_harmOf cv_X11_harmOf lk_11_440 ⟨Nat.le_of_ble_eq_true rfl, Nat.le_of_ble_eq_true rfl⟩ (ci := 11) rfl rfl (Nat.le_of_ble_eq_true rfl) g1 rfl rfl (Nat.le_of_ble_eq_true rfl) ⟨Nat.zero_le _, Nat.zero_le _⟩ ?_
    refine r_istore hX e_X11_least_42 (Nat.le_of_ble_eq_true rfl) rfl ?_
    refine r_iload hX e_X11_least_44 rfl ?_
    refine r_iload_n (i := 3) hX e_X11_least_46 rfl rfl ?_
    refine r_icmp_lt hX e_X11_least_47 (fun hc => ?_) (fun hc => ?_)
    · have hf := ite_t hf hc
      refine r_iload hX e_X11_least_53 rfl ?_
      refine r_istore_n (i := 2) hX e_X11_least_55 rfl (Nat.le_of_ble_eq_true rfl) rfl ?_
      refine r_iload hX e_X11_least_56 rfl ?_
      refine r_istore_n (i := 3) hX e_X11_least_58 rfl (Nat.le_of_ble_eq_true rfl) rfl ?_
      refine r_iinc (v := x4 + 1) hX e_X11_least_59 rfl (ii_s ic_1) (Nat.le_of_ble_eq_true rfl) rfl ?_
      refine r_goto hX e_X11_least_62 ?_
      exact GoN.weak (hk24 u4.1 (x0) (x1) (x4) (u4.2) ((x4 + 1)) hf) rfl (sb_s (sb_s (sb_s (sb_s (sb_s (sb_n (sb_z _)))))))
    · have hf := ite_f hf hc
      refine r_goto hX e_X11_least_50 ?_
      refine r_iinc (v := x4 + 1) hX e_X11_least_59 rfl (ii_s ic_1) (Nat.le_of_ble_eq_true rfl) rfl ?_
      refine r_goto hX e_X11_least_62 ?_
      exact GoN.weak (hk24 u4.1 (x0) (x1) (x2) (x3) ((x4 + 1)) hf) rfl (sb_s (sb_s (sb_s (sb_s (sb_s (sb_n (sb_z _)))))))
theorem t_X11_least_24 {X : Cx} {res : Mem × Int32}  (hX : OkX X cX11_least RX11 7 159) (hn : Fit X shR nR) (hR : RetI X shR nR .int res)  : ∀ (n : Nat) (M : Mem) (x0 : Nat) (x1 : Int32) (x2 : Int32) (x3 : Int32) (x4 : Int32),  f_X11_least_24  n M x0 x1 x2 x3 x4 = some res → GoN X shR nR 0 0 M 24 [some (.ref (X.B + x0)), some (.int (x1)), some (.int (x2)), some (.int (x3)), some (.int (x4)), none] [] := by
  intro n
  induction n with
  | zero => intro M x0 x1 x2 x3 x4 hf; cases hf
  | succ n ih => intro M x0 x1 x2 x3 x4 hf; exact t_s_X11_least_24 hX hn hR  ih M x0 x1 x2 x3 x4 hf
theorem t_X11_least {l : Launch} {M : Mem} {a0 : Nat} {a1 : Int32} {res : Mem × Int32} (hf : f_X11_least M a0 a1 = some res) : Ci l yX11_least cX11_least 6 (some .int) 7 159 shR nR (fun K B => [.ref (B + a0), .int a1]) M res := by
  refine met_i (own := RX11) (lo := fun K B => [some (.ref (B + a0)), some (.int a1), none, none, none, none]) (by decide +kernel) rfl shR_ok (fun _ _ => rfl) (fun _ _ => rfl) (fun _ _ => Nat.le_of_ble_eq_true rfl) (fun X hX hn hlx hR => ?_)
  refine r_aload_n (i := 0) hX e_X11_least_0 rfl rfl ?_
  refine r_iconst hX e_X11_least_1 ic_0 ?_
  obtain ⟨g1, hf⟩ := gd_s hf
  obtain ⟨M2, hM2, hf⟩ := nx_s hf
  refine r_putI hX hn hM2 e_X11_least_2 fl_11_122 fp_11_0 rfl g1 ?_
  refine r_aload_n (i := 0) hX e_X11_least_5 rfl rfl ?_
  refine r_iload_n (i := 1) hX e_X11_least_6 rfl rfl ?_
  obtain ⟨v3, hv3, hf⟩ := bd_s hf
  refine r_cvi (As := fun K B => [.int (a1)]) hX hn (t_X11_isMinute hv3) e_X11_least_7 cw_X11_isMinute cv_X11_isMinute lk_11_353 ⟨Nat.le_of_ble_eq_true rfl, Nat.le_of_ble_eq_true rfl⟩ (ci := 11) rfl rfl (Nat.le_of_ble_eq_true rfl) g1 rfl rfl (Nat.le_of_ble_eq_true rfl) ⟨Nat.zero_le _, Nat.zero_le _⟩ ?_
  refine r_if_ne hX e_X11_least_10 (fun hc => ?_) (fun hc => ?_)
  · have hf := ite_f hf hc
    refine r_iconst hX e_X11_least_16 ic_m1 ?_
    refine r_istore_n (i := 2) hX e_X11_least_17 rfl (Nat.le_of_ble_eq_true rfl) rfl ?_
    refine r_ldc hX e_X11_least_18 wk_1348 ?_
    refine r_istore_n (i := 3) hX e_X11_least_20 rfl (Nat.le_of_ble_eq_true rfl) rfl ?_
    refine r_iconst hX e_X11_least_21 ic_0 ?_
    refine r_istore hX e_X11_least_22 (Nat.le_of_ble_eq_true rfl) rfl ?_
    exact GoN.weak (t_X11_least_24 hX hn hR FU M2 (a0) (a1) ((-1)) (1000000) (0) hf) rfl (sb_s (sb_s (sb_s (sb_s (sb_s (sb_n (sb_z _)))))))
  · have hf := ite_t hf hc
    refine r_bipush hX e_X11_least_13 bc_m2 ?_
    exact r_iret hX hR e_X11_least_15 hf
def f_X11_turn (M : Mem) (a0 : Nat) (a1 : Int32) (a2 : Int32) : Option (Mem × Int32) :=
  gd (oB shR a0 11) <| nx (sI M a0 0 0) fun M2 => bd (f_X11_isRing M2 a0 a1) fun v3 => if v3 = 0 then some (M2, (-2)) else bd (f_X11_in M2 ((a2 : Int32).toInt64) 0 60) fun v4 => if v4 = 0 then some (M2, (-2)) else bd (gR M2 a0 18) fun r5 => gd (aB shR r5 0 (2 * a1)) <| nx (sI M2 r5 ((2 * a1) : Int32).toNatClampNeg a2) fun M7 => some (M7, (gI M2 r5 ((2 * a1) : Int32).toNatClampNeg))
theorem t_X11_turn {l : Launch} {M : Mem} {a0 : Nat} {a1 a2 : Int32} {res : Mem × Int32} (hf : f_X11_turn M a0 a1 a2 = some res) : Ci l yX11_turn cX11_turn 4 (some .int) 2 46 shR nR (fun K B => [.ref (B + a0), .int a1, .int a2]) M res := by
  refine met_i (own := RX11) (lo := fun K B => [some (.ref (B + a0)), some (.int a1), some (.int a2), none]) (by decide +kernel) rfl shR_ok (fun _ _ => rfl) (fun _ _ => rfl) (fun _ _ => Nat.le_of_ble_eq_true rfl) (fun X hX hn hlx hR => ?_)
  refine r_aload_n (i := 0) hX e_X11_turn_0 rfl rfl ?_
  refine r_iconst hX e_X11_turn_1 ic_0 ?_
  obtain ⟨g1, hf⟩ := gd_s hf
  obtain ⟨M2, hM2, hf⟩ := nx_s hf
  refine r_putI hX hn hM2 e_X11_turn_2 fl_11_122 fp_11_0 rfl g1 ?_
  refine r_aload_n (i := 0) hX e_X11_turn_5 rfl rfl ?_
  refine r_iload_n (i := 1) hX e_X11_turn_6 rfl rfl ?_
  obtain ⟨v3, hv3, hf⟩ := bd_s hf
  refine r_cvi (As := fun K B => [.int (a1)]) hX hn (t_X11_isRing hv3) e_X11_turn_7 cw_X11_isRing cv_X11_isRing lk_11_365 ⟨Nat.le_of_ble_eq_true rfl, Nat.le_of_ble_eq_true rfl⟩ (ci := 11) rfl rfl (Nat.le_of_ble_eq_true rfl) g1 rfl rfl (Nat.le_of_ble_eq_true rfl) ⟨Nat.zero_le _, Nat.zero_le _⟩ ?_
  refine r_if_eq hX e_X11_turn_10 (fun hc => ?_) (fun hc => ?_)
  · have hf := ite_t hf hc
    refine r_bipush hX e_X11_turn_25 bc_m2 ?_
    exact r_iret hX hR e_X11_turn_27 hf
  · have hf := ite_f hf hc
    refine r_iload_n (i := 2) hX e_X11_turn_13 rfl rfl ?_
    refine r_i2l hX e_X11_turn_14 ?_
    refine r_lconst hX e_X11_turn_15 lc_0 ?_
    refine r_ldc2 hX e_X11_turn_16 wk_1697 ?_
    obtain ⟨v4, hv4, hf⟩ := bd_s hf
    refine r_csi (As := fun K B => [.long ((a2 : Int32).toInt64), .long (0), .long (60)]) hX hn (t_X11_in hv4) e_X11_turn_19 cw_X11_in cv_X11_in lk_11_127 ⟨Nat.le_of_ble_eq_true rfl, Nat.le_of_ble_eq_true rfl⟩ rfl rfl (Nat.le_of_ble_eq_true rfl) ⟨Nat.zero_le _, Nat.zero_le _⟩ ?_
    refine r_if_ne hX e_X11_turn_22 (fun hc => ?_) (fun hc => ?_)
    · have hf := ite_f hf hc
      refine r_aload_n (i := 0) hX e_X11_turn_28 rfl rfl ?_
      obtain ⟨r5, hr5, hf⟩ := bd_s hf
      refine r_getR hX hn e_X11_turn_29 fl_11_37 rfl g1 hr5 ?_
      refine r_iconst hX e_X11_turn_32 ic_2 ?_
      refine r_iload_n (i := 1) hX e_X11_turn_33 rfl rfl ?_
      refine r_imul hX e_X11_turn_34 ?_
      obtain ⟨g6, hf⟩ := gd_s hf
      refine r_iald hX hn e_X11_turn_35 g6 ?_
      refine r_istore_n (i := 3) hX e_X11_turn_36 rfl (Nat.le_of_ble_eq_true rfl) rfl ?_
      refine r_aload_n (i := 0) hX e_X11_turn_37 rfl rfl ?_
      refine r_getR hX hn e_X11_turn_38 fl_11_37 rfl g1 hr5 ?_
      refine r_iconst hX e_X11_turn_41 ic_2 ?_
      refine r_iload_n (i := 1) hX e_X11_turn_42 rfl rfl ?_
      refine r_imul hX e_X11_turn_43 ?_
      refine r_iload_n (i := 2) hX e_X11_turn_44 rfl rfl ?_
      obtain ⟨M7, hM7, hf⟩ := nx_s hf
      refine r_iast hX hn hM7 e_X11_turn_45 g6 ?_
      refine r_iload_n (i := 3) hX e_X11_turn_46 rfl rfl ?_
      exact r_iret hX hR e_X11_turn_47 hf
    · have hf := ite_t hf hc
      refine r_bipush hX e_X11_turn_25 bc_m2 ?_
      exact r_iret hX hR e_X11_turn_27 hf
def s_X11_isAsAtFirst_2 (M : Mem) (k2 : Nat → Int32 → Int32 → Option (Int32)) (x0 : Nat) (x1 : Int32) (x2 : Int32) : Option (Int32) :=
  gd (oB shR x0 11) <| bd (gR M x0 17) fun r2 => gd (aB shR r2 0 2) <| if (gI M r2 (2 : Int32).toNatClampNeg) ≤ x2 then some 1 else bd (gR M x0 18) fun r4 => gd (aB shR r4 0 (2 * x2)) <| if (gI M r4 ((2 * x2) : Int32).toNatClampNeg) ≤ 0 then k2 (x0) (x1) ((x2 + 1)) else gd (aB shR r2 0 0) <| nx (((gI M r4 ((2 * x2) : Int32).toNatClampNeg) * (gI M r2 (0 : Int32).toNatClampNeg))) fun v7 => gd (!(v7 == 0)) <| if (x1 - x1 / v7 * v7) = 0 then k2 (x0) (x1) ((x2 + 1)) else some 0
def f_X11_isAsAtFirst_2 (M : Mem)  : Nat → Nat → Int32 → Int32 → Option (Int32)
  | 0 => fun _ _ _ => none
  | n + 1 => fun y0 y1 y2 => s_X11_isAsAtFirst_2 M  (f_X11_isAsAtFirst_2 M  n) y0 y1 y2
def f_X11_isAsAtFirst (M : Mem) (a0 : Nat) (a1 : Int32) : Option (Int32) :=
  f_X11_isAsAtFirst_2 M FU (a0) (a1) (0)
theorem t_s_X11_isAsAtFirst_2 {X : Cx} {M : Mem} {res : Int32} {k2 : Nat → Int32 → Int32 → Option (Int32)} (hX : OkX X cX11_isAsAtFirst RX11 0 0) (hn : Fit X shR nR) (hR : RetI X shR nR .boolean (M, res)) (hk2 : ∀ x0 x1 x2, k2 x0 x1 x2 = some res → GoN X shR nR 0 0 M 2 [some (.ref (X.B + x0)), some (.int (x1)), some (.int (x2))] []) (x0 : Nat) (x1 : Int32) (x2 : Int32) (hf : s_X11_isAsAtFirst_2 M k2 x0 x1 x2 = some res) : GoN X shR nR 0 0 M 2 [some (.ref (X.B + x0)), some (.int (x1)), some (.int (x2))] [] := by
  refine r_iload_n (i := 2) hX e_X11_isAsAtFirst_2 rfl rfl ?_
  refine r_aload_n (i := 0) hX e_X11_isAsAtFirst_3 rfl rfl ?_
  obtain ⟨g1, hf⟩ := gd_s hf
  obtain ⟨r2, hr2, hf⟩ := bd_s hf
  refine r_getR hX hn e_X11_isAsAtFirst_4 fl_11_34 rfl g1 hr2 ?_
  refine r_iconst hX e_X11_isAsAtFirst_7 ic_2 ?_
  obtain ⟨g3, hf⟩ := gd_s hf
  refine r_iald hX hn e_X11_isAsAtFirst_8 g3 ?_
  refine r_icmp_ge hX e_X11_isAsAtFirst_9 (fun hc => ?_) (fun hc => ?_)
  · have hf := ite_t hf hc
    refine r_iconst hX e_X11_isAsAtFirst_51 ic_1 ?_
    exact r_zret hX hR rfl e_X11_isAsAtFirst_52 (ro_s hf)
  · have hf := ite_f hf hc
    refine r_aload_n (i := 0) hX e_X11_isAsAtFirst_12 rfl rfl ?_
    obtain ⟨r4, hr4, hf⟩ := bd_s hf
    refine r_getR hX hn e_X11_isAsAtFirst_13 fl_11_37 rfl g1 hr4 ?_
    refine r_iconst hX e_X11_isAsAtFirst_16 ic_2 ?_
    refine r_iload_n (i := 2) hX e_X11_isAsAtFirst_17 rfl rfl ?_
    refine r_imul hX e_X11_isAsAtFirst_18 ?_
    obtain ⟨g5, hf⟩ := gd_s hf
    refine r_iald hX hn e_X11_isAsAtFirst_19 g5 ?_
    refine r_if_le hX e_X11_isAsAtFirst_20 (fun hc => ?_) (fun hc => ?_)
    · have hf := ite_t hf hc
      refine r_iinc (v := x2 + 1) hX e_X11_isAsAtFirst_45 rfl (ii_s ic_1) (Nat.le_of_ble_eq_true rfl) rfl ?_
      refine r_goto hX e_X11_isAsAtFirst_48 ?_
      exact GoN.weak (hk2 (x0) (x1) ((x2 + 1)) hf) rfl (sb_s (sb_s (sb_s (sb_z _))))
    · have hf := ite_f hf hc
      refine r_iload_n (i := 1) hX e_X11_isAsAtFirst_23 rfl rfl ?_
      refine r_aload_n (i := 0) hX e_X11_isAsAtFirst_24 rfl rfl ?_
      refine r_getR hX hn e_X11_isAsAtFirst_25 fl_11_37 rfl g1 hr4 ?_
      refine r_iconst hX e_X11_isAsAtFirst_28 ic_2 ?_
      refine r_iload_n (i := 2) hX e_X11_isAsAtFirst_29 rfl rfl ?_
      refine r_imul hX e_X11_isAsAtFirst_30 ?_
      refine r_iald hX hn e_X11_isAsAtFirst_31 g5 ?_
      refine r_aload_n (i := 0) hX e_X11_isAsAtFirst_32 rfl rfl ?_
      refine r_getR hX hn e_X11_isAsAtFirst_33 fl_11_34 rfl g1 hr2 ?_
      refine r_iconst hX e_X11_isAsAtFirst_36 ic_0 ?_
      obtain ⟨g6, hf⟩ := gd_s hf
      refine r_iald hX hn e_X11_isAsAtFirst_37 g6 ?_
      refine r_imul hX e_X11_isAsAtFirst_38 ?_
      obtain ⟨v7, hv7, hf⟩ := nx_s hf
      refine top_i hv7 ?_
      obtain ⟨g8, hf⟩ := gd_s hf
      refine r_irem hX e_X11_isAsAtFirst_39 (by simpa using g8) ?_
      refine r_if_eq hX e_X11_isAsAtFirst_40 (fun hc => ?_) (fun hc => ?_)
      · have hf := ite_t hf hc
        refine r_iinc (v := x2 + 1) hX e_X11_isAsAtFirst_45 rfl (ii_s ic_1) (Nat.le_of_ble_eq_true rfl) rfl ?_
        refine r_goto hX e_X11_isAsAtFirst_48 ?_
        exact GoN.weak (hk2 (x0) (x1) ((x2 + 1)) hf) rfl (sb_s (sb_s (sb_s (sb_z _))))
      · have hf := ite_f hf hc
        refine r_iconst hX e_X11_isAsAtFirst_43 ic_0 ?_
        exact r_zret hX hR rfl e_X11_isAsAtFirst_44 (ro_s hf)
theorem t_X11_isAsAtFirst_2 {X : Cx} {M : Mem} {res : Int32}  (hX : OkX X cX11_isAsAtFirst RX11 0 0) (hn : Fit X shR nR) (hR : RetI X shR nR .boolean (M, res))  : ∀ (n : Nat) (x0 : Nat) (x1 : Int32) (x2 : Int32),  f_X11_isAsAtFirst_2 M  n x0 x1 x2 = some res → GoN X shR nR 0 0 M 2 [some (.ref (X.B + x0)), some (.int (x1)), some (.int (x2))] [] := by
  intro n
  induction n with
  | zero => intro x0 x1 x2 hf; cases hf
  | succ n ih => intro x0 x1 x2 hf; exact t_s_X11_isAsAtFirst_2 hX hn hR  ih x0 x1 x2 hf
theorem t_X11_isAsAtFirst {l : Launch} {M : Mem} {a0 : Nat} {a1 : Int32} {res : Int32} (hf : f_X11_isAsAtFirst M a0 a1 = some res) : Ci l yX11_isAsAtFirst cX11_isAsAtFirst 3 (some .boolean) 0 0 shR nR (fun K B => [.ref (B + a0), .int a1]) M (M, res) := by
  refine met_i (own := RX11) (lo := fun K B => [some (.ref (B + a0)), some (.int a1), none]) (by decide +kernel) rfl shR_ok (fun _ _ => rfl) (fun _ _ => rfl) (fun _ _ => Nat.le_of_ble_eq_true rfl) (fun X hX hn hlx hR => ?_)
  refine r_iconst hX e_X11_isAsAtFirst_0 ic_0 ?_
  refine r_istore_n (i := 2) hX e_X11_isAsAtFirst_1 rfl (Nat.le_of_ble_eq_true rfl) rfl ?_
  exact GoN.weak (t_X11_isAsAtFirst_2 hX hn hR FU (a0) (a1) (0) hf) rfl (sb_s (sb_s (sb_s (sb_z _))))
def s_X11_again_17 (k17 : Mem → Nat → Int32 → Option (Mem × Int32)) (M : Mem) (x0 : Nat) (x1 : Int32) : Option (Mem × Int32) :=
  if 3600 < x1 then some (M, (-1)) else gd (oB shR x0 11) <| bd (f_X11_isAsAtFirst M x0 x1) fun v2 => if v2 = 0 then k17 M (x0) ((x1 + 1)) else some (M, x1)
def f_X11_again_17  : Nat → Mem → Nat → Int32 → Option (Mem × Int32)
  | 0 => fun _ _ _ => none
  | n + 1 => fun y0 y1 y2 => s_X11_again_17  (f_X11_again_17  n) y0 y1 y2
def f_X11_again (M : Mem) (a0 : Nat) : Option (Mem × Int32) :=
  gd (oB shR a0 11) <| nx (sI M a0 0 0) fun M2 => bd (f_X11_isMarket M2 a0) fun v3 => if v3 = 0 then some (M2, (-2)) else f_X11_again_17 FU M2 (a0) (1)
theorem t_s_X11_again_17 {X : Cx} {res : Mem × Int32} {k17 : Mem → Nat → Int32 → Option (Mem × Int32)} (hX : OkX X cX11_again RX11 1 22) (hn : Fit X shR nR) (hR : RetI X shR nR .int res) (hk17 : ∀ M x0 x1, k17 M x0 x1 = some res → GoN X shR nR 0 0 M 17 [some (.ref (X.B + x0)), some (.int (x1))] []) (M : Mem) (x0 : Nat) (x1 : Int32) (hf : s_X11_again_17 k17 M x0 x1 = some res) : GoN X shR nR 0 0 M 17 [some (.ref (X.B + x0)), some (.int (x1))] [] := by
  refine r_iload_n (i := 1) hX e_X11_again_17 rfl rfl ?_
  refine r_sipush hX e_X11_again_18 sc_3600 ?_
  refine r_icmp_gt hX e_X11_again_21 (fun hc => ?_) (fun hc => ?_)
  · have hf := ite_t hf hc
    refine r_iconst hX e_X11_again_40 ic_m1 ?_
    exact r_iret hX hR e_X11_again_41 hf
  · have hf := ite_f hf hc
    refine r_aload_n (i := 0) hX e_X11_again_24 rfl rfl ?_
    refine r_iload_n (i := 1) hX e_X11_again_25 rfl rfl ?_
    obtain ⟨g1, hf⟩ := gd_s hf
    obtain ⟨v2, hv2, hf⟩ := bd_s hf
    refine r_cvi (As := fun K B => [.int (x1)]) hX hn (t_X11_isAsAtFirst hv2) e_X11_again_26 cw_X11_isAsAtFirst cv_X11_isAsAtFirst lk_11_446 ⟨Nat.le_of_ble_eq_true rfl, Nat.le_of_ble_eq_true rfl⟩ (ci := 11) rfl rfl (Nat.le_of_ble_eq_true rfl) g1 rfl rfl (Nat.le_of_ble_eq_true rfl) ⟨Nat.zero_le _, Nat.zero_le _⟩ ?_
    refine r_if_eq hX e_X11_again_29 (fun hc => ?_) (fun hc => ?_)
    · have hf := ite_t hf hc
      refine r_iinc (v := x1 + 1) hX e_X11_again_34 rfl (ii_s ic_1) (Nat.le_of_ble_eq_true rfl) rfl ?_
      refine r_goto hX e_X11_again_37 ?_
      exact GoN.weak (hk17 M (x0) ((x1 + 1)) hf) rfl (sb_s (sb_s (sb_z _)))
    · have hf := ite_f hf hc
      refine r_iload_n (i := 1) hX e_X11_again_32 rfl rfl ?_
      exact r_iret hX hR e_X11_again_33 hf
theorem t_X11_again_17 {X : Cx} {res : Mem × Int32}  (hX : OkX X cX11_again RX11 1 22) (hn : Fit X shR nR) (hR : RetI X shR nR .int res)  : ∀ (n : Nat) (M : Mem) (x0 : Nat) (x1 : Int32),  f_X11_again_17  n M x0 x1 = some res → GoN X shR nR 0 0 M 17 [some (.ref (X.B + x0)), some (.int (x1))] [] := by
  intro n
  induction n with
  | zero => intro M x0 x1 hf; cases hf
  | succ n ih => intro M x0 x1 hf; exact t_s_X11_again_17 hX hn hR  ih M x0 x1 hf
theorem t_X11_again {l : Launch} {M : Mem} {a0 : Nat} {res : Mem × Int32} (hf : f_X11_again M a0 = some res) : Ci l yX11_again cX11_again 2 (some .int) 1 22 shR nR (fun K B => [.ref (B + a0)]) M res := by
  refine met_i (own := RX11) (lo := fun K B => [some (.ref (B + a0)), none]) (by decide +kernel) rfl shR_ok (fun _ _ => rfl) (fun _ _ => rfl) (fun _ _ => Nat.le_of_ble_eq_true rfl) (fun X hX hn hlx hR => ?_)
  refine r_aload_n (i := 0) hX e_X11_again_0 rfl rfl ?_
  refine r_iconst hX e_X11_again_1 ic_0 ?_
  obtain ⟨g1, hf⟩ := gd_s hf
  obtain ⟨M2, hM2, hf⟩ := nx_s hf
  refine r_putI hX hn hM2 e_X11_again_2 fl_11_122 fp_11_0 rfl g1 ?_
  refine r_aload_n (i := 0) hX e_X11_again_5 rfl rfl ?_
  obtain ⟨v3, hv3, hf⟩ := bd_s hf
  refine r_cvi (As := fun K B => []) hX hn (t_X11_isMarket hv3) e_X11_again_6 cw_X11_isMarket cv_X11_isMarket lk_11_403 ⟨Nat.le_of_ble_eq_true rfl, Nat.le_of_ble_eq_true rfl⟩ (ci := 11) rfl rfl (Nat.le_of_ble_eq_true rfl) g1 rfl rfl (Nat.le_of_ble_eq_true rfl) ⟨Nat.zero_le _, Nat.zero_le _⟩ ?_
  refine r_if_ne hX e_X11_again_9 (fun hc => ?_) (fun hc => ?_)
  · have hf := ite_f hf hc
    refine r_iconst hX e_X11_again_15 ic_1 ?_
    refine r_istore_n (i := 1) hX e_X11_again_16 rfl (Nat.le_of_ble_eq_true rfl) rfl ?_
    exact GoN.weak (t_X11_again_17 hX hn hR FU M2 (a0) (1) hf) rfl (sb_s (sb_s (sb_z _)))
  · have hf := ite_t hf hc
    refine r_bipush hX e_X11_again_12 bc_m2 ?_
    exact r_iret hX hR e_X11_again_14 hf
def f_X11_draws (M : Mem) (a0 : Nat) (a1 : Int64) (a2 : Int32) : Option (Mem) :=
  gd (oB shR a0 11) <| bd (f_X11_plainly M a0) fun u2 => nx (sI u2 a0 27 a2) fun M3 => nx (sL M3 a0 28 a1) fun M4 => bd (f_X11_hour M4 a0) fun u5 => nx (sI u5 a0 27 (-1)) fun M6 => some M6
theorem t_X11_draws {l : Launch} {M : Mem} {a0 : Nat} {a2 : Int32} {a1 : Int64} {res : Mem} (hf : f_X11_draws M a0 a1 a2 = some res) : Cv l yX11_draws cX11_draws 4 none 4 96 shR nR (fun K B => [.ref (B + a0), .long a1, .int a2]) M res := by
  refine met_v (own := RX11) (lo := fun K B => [some (.ref (B + a0)), some (.long a1), none, some (.int a2)]) (by decide +kernel) rfl shR_ok (fun _ _ => rfl) (fun _ _ => rfl) (fun _ _ => Nat.le_of_ble_eq_true rfl) (fun X hX hn hlx hR => ?_)
  refine r_aload_n (i := 0) hX e_X11_draws_0 rfl rfl ?_
  obtain ⟨g1, hf⟩ := gd_s hf
  obtain ⟨u2, hu2, hf⟩ := bd_s hf
  refine r_cvv (As := fun K B => []) hX hn (t_X11_plainly hu2) e_X11_draws_1 cw_X11_plainly cv_X11_plainly lk_11_347 ⟨Nat.le_of_ble_eq_true rfl, Nat.le_of_ble_eq_true rfl⟩ (ci := 11) rfl rfl (Nat.le_of_ble_eq_true rfl) g1 rfl rfl (Nat.le_of_ble_eq_true rfl) ⟨Nat.zero_le _, Nat.zero_le _⟩ ?_
  refine r_aload_n (i := 0) hX e_X11_draws_4 rfl rfl ?_
  refine r_iload_n (i := 3) hX e_X11_draws_5 rfl rfl ?_
  obtain ⟨M3, hM3, hf⟩ := nx_s hf
  refine r_putI hX hn hM3 e_X11_draws_6 fl_11_337 fp_11_27 rfl g1 ?_
  refine r_aload_n (i := 0) hX e_X11_draws_9 rfl rfl ?_
  refine r_lload_n (i := 1) hX e_X11_draws_10 rfl rfl ?_
  obtain ⟨M4, hM4, hf⟩ := nx_s hf
  refine r_putL hX hn hM4 e_X11_draws_11 fl_11_326 fp_11_28 rfl g1 ?_
  refine r_aload_n (i := 0) hX e_X11_draws_14 rfl rfl ?_
  obtain ⟨u5, hu5, hf⟩ := bd_s hf
  refine r_cvv (As := fun K B => []) hX hn (t_X11_hour hu5) e_X11_draws_15 cw_X11_hour cv_X11_hour lk_11_397 ⟨Nat.le_of_ble_eq_true rfl, Nat.le_of_ble_eq_true rfl⟩ (ci := 11) rfl rfl (Nat.le_of_ble_eq_true rfl) g1 rfl rfl (Nat.le_of_ble_eq_true rfl) ⟨Nat.zero_le _, Nat.zero_le _⟩ ?_
  refine r_aload_n (i := 0) hX e_X11_draws_18 rfl rfl ?_
  refine r_iconst hX e_X11_draws_19 ic_m1 ?_
  obtain ⟨M6, hM6, hf⟩ := nx_s hf
  refine r_putI hX hn hM6 e_X11_draws_20 fl_11_337 fp_11_27 rfl g1 ?_
  exact r_ret hX hR e_X11_draws_23 hf
def f_X11_isDraw (M : Mem) (a0 : Nat) (a1 : Int32) (a2 : Int32) : Option (Int32) :=
  gd (oB shR a0 11) <| bd (f_X11_isMarket M a0) fun v2 => if v2 = 0 then some 0 else bd (f_X11_in M ((a1 : Int32).toInt64) 0 2000000000) fun v3 => if v3 = 0 then some 0 else bd (f_X11_in M ((a2 : Int32).toInt64) 0 100) fun v4 => if v4 = 0 then some 0 else some 1
theorem t_X11_isDraw {l : Launch} {M : Mem} {a0 : Nat} {a1 a2 : Int32} {res : Int32} (hf : f_X11_isDraw M a0 a1 a2 = some res) : Ci l yX11_isDraw cX11_isDraw 3 (some .boolean) 1 25 shR nR (fun K B => [.ref (B + a0), .int a1, .int a2]) M (M, res) := by
  refine met_i (own := RX11) (lo := fun K B => [some (.ref (B + a0)), some (.int a1), some (.int a2)]) (by decide +kernel) rfl shR_ok (fun _ _ => rfl) (fun _ _ => rfl) (fun _ _ => Nat.le_of_ble_eq_true rfl) (fun X hX hn hlx hR => ?_)
  refine r_aload_n (i := 0) hX e_X11_isDraw_0 rfl rfl ?_
  obtain ⟨g1, hf⟩ := gd_s hf
  obtain ⟨v2, hv2, hf⟩ := bd_s hf
  refine r_cvi (As := fun K B => []) hX hn (t_X11_isMarket hv2) e_X11_isDraw_1 cw_X11_isMarket cv_X11_isMarket lk_11_403 ⟨Nat.le_of_ble_eq_true rfl, Nat.le_of_ble_eq_true rfl⟩ (ci := 11) rfl rfl (Nat.le_of_ble_eq_true rfl) g1 rfl rfl (Nat.le_of_ble_eq_true rfl) ⟨Nat.zero_le _, Nat.zero_le _⟩ ?_
  refine r_if_eq hX e_X11_isDraw_4 (fun hc => ?_) (fun hc => ?_)
  · have hf := ite_t hf hc
    refine r_iconst hX e_X11_isDraw_35 ic_0 ?_
    exact r_zret hX hR rfl e_X11_isDraw_36 (ro_s hf)
  · have hf := ite_f hf hc
    refine r_iload_n (i := 1) hX e_X11_isDraw_7 rfl rfl ?_
    refine r_i2l hX e_X11_isDraw_8 ?_
    refine r_lconst hX e_X11_isDraw_9 lc_0 ?_
    refine r_ldc2 hX e_X11_isDraw_10 wk_1714 ?_
    obtain ⟨v3, hv3, hf⟩ := bd_s hf
    refine r_csi (As := fun K B => [.long ((a1 : Int32).toInt64), .long (0), .long (2000000000)]) hX hn (t_X11_in hv3) e_X11_isDraw_13 cw_X11_in cv_X11_in lk_11_127 ⟨Nat.le_of_ble_eq_true rfl, Nat.le_of_ble_eq_true rfl⟩ rfl rfl (Nat.le_of_ble_eq_true rfl) ⟨Nat.zero_le _, Nat.zero_le _⟩ ?_
    refine r_if_eq hX e_X11_isDraw_16 (fun hc => ?_) (fun hc => ?_)
    · have hf := ite_t hf hc
      refine r_iconst hX e_X11_isDraw_35 ic_0 ?_
      exact r_zret hX hR rfl e_X11_isDraw_36 (ro_s hf)
    · have hf := ite_f hf hc
      refine r_iload_n (i := 2) hX e_X11_isDraw_19 rfl rfl ?_
      refine r_i2l hX e_X11_isDraw_20 ?_
      refine r_lconst hX e_X11_isDraw_21 lc_0 ?_
      refine r_ldc2 hX e_X11_isDraw_22 wk_1500 ?_
      obtain ⟨v4, hv4, hf⟩ := bd_s hf
      refine r_csi (As := fun K B => [.long ((a2 : Int32).toInt64), .long (0), .long (100)]) hX hn (t_X11_in hv4) e_X11_isDraw_25 cw_X11_in cv_X11_in lk_11_127 ⟨Nat.le_of_ble_eq_true rfl, Nat.le_of_ble_eq_true rfl⟩ rfl rfl (Nat.le_of_ble_eq_true rfl) ⟨Nat.zero_le _, Nat.zero_le _⟩ ?_
      refine r_if_eq hX e_X11_isDraw_28 (fun hc => ?_) (fun hc => ?_)
      · have hf := ite_t hf hc
        refine r_iconst hX e_X11_isDraw_35 ic_0 ?_
        exact r_zret hX hR rfl e_X11_isDraw_36 (ro_s hf)
      · have hf := ite_f hf hc
        refine r_iconst hX e_X11_isDraw_31 ic_1 ?_
        refine r_goto hX e_X11_isDraw_32 ?_
        exact r_zret hX hR rfl e_X11_isDraw_36 (ro_s hf)
def f_X11_drawn (M : Mem) (a0 : Nat) (a1 : Int32) (a2 : Int32) : Option (Mem × Int32) :=
  gd (oB shR a0 11) <| nx (sI M a0 0 0) fun M2 => bd (f_X11_isDraw M2 a0 a1 a2) fun v3 => if v3 = 0 then some (M2, (-2)) else bd (f_X11_draws M2 a0 ((a1 : Int32).toInt64) a2) fun u4 => some (u4, (gI u4 a0 46))
theorem t_X11_drawn {l : Launch} {M : Mem} {a0 : Nat} {a1 a2 : Int32} {res : Mem × Int32} (hf : f_X11_drawn M a0 a1 a2 = some res) : Ci l yX11_drawn cX11_drawn 3 (some .int) 5 119 shR nR (fun K B => [.ref (B + a0), .int a1, .int a2]) M res := by
  refine met_i (own := RX11) (lo := fun K B => [some (.ref (B + a0)), some (.int a1), some (.int a2)]) (by decide +kernel) rfl shR_ok (fun _ _ => rfl) (fun _ _ => rfl) (fun _ _ => Nat.le_of_ble_eq_true rfl) (fun X hX hn hlx hR => ?_)
  refine r_aload_n (i := 0) hX e_X11_drawn_0 rfl rfl ?_
  refine r_iconst hX e_X11_drawn_1 ic_0 ?_
  obtain ⟨g1, hf⟩ := gd_s hf
  obtain ⟨M2, hM2, hf⟩ := nx_s hf
  refine r_putI hX hn hM2 e_X11_drawn_2 fl_11_122 fp_11_0 rfl g1 ?_
  refine r_aload_n (i := 0) hX e_X11_drawn_5 rfl rfl ?_
  refine r_iload_n (i := 1) hX e_X11_drawn_6 rfl rfl ?_
  refine r_iload_n (i := 2) hX e_X11_drawn_7 rfl rfl ?_
  obtain ⟨v3, hv3, hf⟩ := bd_s hf
  refine r_cvi (As := fun K B => [.int (a1), .int (a2)]) hX hn (t_X11_isDraw hv3) e_X11_drawn_8 cw_X11_isDraw cv_X11_isDraw lk_11_451 ⟨Nat.le_of_ble_eq_true rfl, Nat.le_of_ble_eq_true rfl⟩ (ci := 11) rfl rfl (Nat.le_of_ble_eq_true rfl) g1 rfl rfl (Nat.le_of_ble_eq_true rfl) ⟨Nat.zero_le _, Nat.zero_le _⟩ ?_
  refine r_if_ne hX e_X11_drawn_11 (fun hc => ?_) (fun hc => ?_)
  · have hf := ite_f hf hc
    refine r_aload_n (i := 0) hX e_X11_drawn_17 rfl rfl ?_
    refine r_iload_n (i := 1) hX e_X11_drawn_18 rfl rfl ?_
    refine r_i2l hX e_X11_drawn_19 ?_
    refine r_iload_n (i := 2) hX e_X11_drawn_20 rfl rfl ?_
    obtain ⟨u4, hu4, hf⟩ := bd_s hf
    refine r_cvv (As := fun K B => [.long ((a1 : Int32).toInt64), .int (a2)]) hX hn (t_X11_draws hu4) e_X11_drawn_21 cw_X11_draws cv_X11_draws lk_11_454 ⟨Nat.le_of_ble_eq_true rfl, Nat.le_of_ble_eq_true rfl⟩ (ci := 11) rfl rfl (Nat.le_of_ble_eq_true rfl) g1 rfl rfl (Nat.le_of_ble_eq_true rfl) ⟨Nat.zero_le _, Nat.zero_le _⟩ ?_
    refine r_aload_n (i := 0) hX e_X11_drawn_24 rfl rfl ?_
    refine r_getI hX hn e_X11_drawn_25 fl_11_371 rfl g1 ?_
    exact r_iret hX hR e_X11_drawn_28 hf
  · have hf := ite_t hf hc
    refine r_bipush hX e_X11_drawn_14 bc_m2 ?_
    exact r_iret hX hR e_X11_drawn_16 hf
def s_X11_chance_44 (k44 : Mem → Nat → Int32 → Int32 → Int32 → Int32 → Int32 → Int32 → Option (Mem × Int32)) (M : Mem) (x0 : Nat) (x1 : Int32) (x2 : Int32) (x3 : Int32) (x4 : Int32) (x5 : Int32) (x6 : Int32) : Option (Mem × Int32) :=
  if x2 ≤ x6 then some (M, x5) else gd (oB shR x0 11) <| bd (f_X11_draws M x0 ((x1 : Int32).toInt64 + (x6 : Int32).toInt64) x3) fun u2 => bd (f_X11_lackOf u2 x0 x4) fun v3 => if v3 = 0 then k44 u2 (x0) (x1) (x2) (x3) (x4) ((x5 + 1)) ((x6 + 1)) else k44 u2 (x0) (x1) (x2) (x3) (x4) ((x5 + 0)) ((x6 + 1))
def f_X11_chance_44  : Nat → Mem → Nat → Int32 → Int32 → Int32 → Int32 → Int32 → Int32 → Option (Mem × Int32)
  | 0 => fun _ _ _ _ _ _ _ _ => none
  | n + 1 => fun y0 y1 y2 y3 y4 y5 y6 y7 => s_X11_chance_44  (f_X11_chance_44  n) y0 y1 y2 y3 y4 y5 y6 y7
def f_X11_chance (M : Mem) (a0 : Nat) (a1 : Int32) (a2 : Int32) (a3 : Int32) (a4 : Int32) : Option (Mem × Int32) :=
  gd (oB shR a0 11) <| nx (sI M a0 0 0) fun M2 => bd (f_X11_isDraw M2 a0 a1 a3) fun v3 => if v3 = 0 then some (M2, (-2)) else bd (f_X11_in M2 ((a2 : Int32).toInt64) 1 20) fun v4 => if v4 = 0 then some (M2, (-2)) else bd (f_X11_isBuyer M2 a0 a4) fun v5 => if v5 = 0 then some (M2, (-2)) else f_X11_chance_44 FU M2 (a0) (a1) (a2) (a3) (a4) (0) (0)
theorem t_s_X11_chance_44 {X : Cx} {res : Mem × Int32} {k44 : Mem → Nat → Int32 → Int32 → Int32 → Int32 → Int32 → Int32 → Option (Mem × Int32)} (hX : OkX X cX11_chance RX11 5 119) (hn : Fit X shR nR) (hR : RetI X shR nR .int res) (hk44 : ∀ M x0 x1 x2 x3 x4 x5 x6, k44 M x0 x1 x2 x3 x4 x5 x6 = some res → GoN X shR nR 0 0 M 44 [some (.ref (X.B + x0)), some (.int (x1)), some (.int (x2)), some (.int (x3)), some (.int (x4)), some (.int (x5)), some (.int (x6))] []) (M : Mem) (x0 : Nat) (x1 : Int32) (x2 : Int32) (x3 : Int32) (x4 : Int32) (x5 : Int32) (x6 : Int32) (hf : s_X11_chance_44 k44 M x0 x1 x2 x3 x4 x5 x6 = some res) : GoN X shR nR 0 0 M 44 [some (.ref (X.B + x0)), some (.int (x1)), some (.int (x2)), some (.int (x3)), some (.int (x4)), some (.int (x5)), some (.int (x6))] [] := by
  refine r_iload hX e_X11_chance_44 rfl ?_
  refine r_iload_n (i := 2) hX e_X11_chance_46 rfl rfl ?_
  refine r_icmp_ge hX e_X11_chance_47 (fun hc => ?_) (fun hc => ?_)
  · have hf := ite_t hf hc
    refine r_iload hX e_X11_chance_86 rfl ?_
    exact r_iret hX hR e_X11_chance_88 hf
  · have hf := ite_f hf hc
    refine r_aload_n (i := 0) hX e_X11_chance_50 rfl rfl ?_
    refine r_iload_n (i := 1) hX e_X11_chance_51 rfl rfl ?_
    refine r_i2l hX e_X11_chance_52 ?_
    refine r_iload hX e_X11_chance_53 rfl ?_
    refine r_i2l hX e_X11_chance_55 ?_
    refine r_ladd hX e_X11_chance_56 ?_
    refine r_iload_n (i := 3) hX e_X11_chance_57 rfl rfl ?_
    obtain ⟨g1, hf⟩ := gd_s hf
    obtain ⟨u2, hu2, hf⟩ := bd_s hf
    refine r_cvv (As := fun K B => [.long (((x1 : Int32).toInt64 + (x6 : Int32).toInt64)), .int (x3)]) hX hn (t_X11_draws hu2) e_X11_chance_58 cw_X11_draws cv_X11_draws lk_11_454 ⟨Nat.le_of_ble_eq_true rfl, Nat.le_of_ble_eq_true rfl⟩ (ci := 11) rfl rfl (Nat.le_of_ble_eq_true rfl) g1 rfl rfl (Nat.le_of_ble_eq_true rfl) ⟨Nat.zero_le _, Nat.zero_le _⟩ ?_
    refine r_iload hX e_X11_chance_61 rfl ?_
    refine r_aload_n (i := 0) hX e_X11_chance_63 rfl rfl ?_
    refine r_iload hX e_X11_chance_64 rfl ?_
    obtain ⟨v3, hv3, hf⟩ := bd_s hf
    refine r_cvi (As := fun K B => [.int (x4)]) hX hn (t_X11_lackOf hv3) e_X11_chance_66 cw_X11_lackOf cv_X11_lackOf lk_11_368 ⟨Nat.le_of_ble_eq_true rfl, Nat.le_of_ble_eq_true rfl⟩ (ci := 11) rfl rfl (Nat.le_of_ble_eq_true rfl) g1 rfl rfl (Nat.le_of_ble_eq_true rfl) ⟨Nat.zero_le _, Nat.zero_le _⟩ ?_
    refine r_if_ne hX e_X11_chance_69 (fun hc => ?_) (fun hc => ?_)
    · have hf := ite_f hf hc
      refine r_iconst hX e_X11_chance_76 ic_0 ?_
      refine r_iadd hX e_X11_chance_77 ?_
      refine r_istore hX e_X11_chance_78 (Nat.le_of_ble_eq_true rfl) rfl ?_
      refine r_iinc (v := x6 + 1) hX e_X11_chance_80 rfl (ii_s ic_1) (Nat.le_of_ble_eq_true rfl) rfl ?_
      refine r_goto hX e_X11_chance_83 ?_
      exact GoN.weak (hk44 u2 (x0) (x1) (x2) (x3) (x4) ((x5 + 0)) ((x6 + 1)) hf) rfl (sb_s (sb_s (sb_s (sb_s (sb_s (sb_s (sb_s (sb_z _))))))))
    · have hf := ite_t hf hc
      refine r_iconst hX e_X11_chance_72 ic_1 ?_
      refine r_goto hX e_X11_chance_73 ?_
      refine r_iadd hX e_X11_chance_77 ?_
      refine r_istore hX e_X11_chance_78 (Nat.le_of_ble_eq_true rfl) rfl ?_
      refine r_iinc (v := x6 + 1) hX e_X11_chance_80 rfl (ii_s ic_1) (Nat.le_of_ble_eq_true rfl) rfl ?_
      refine r_goto hX e_X11_chance_83 ?_
      exact GoN.weak (hk44 u2 (x0) (x1) (x2) (x3) (x4) ((x5 + 1)) ((x6 + 1)) hf) rfl (sb_s (sb_s (sb_s (sb_s (sb_s (sb_s (sb_s (sb_z _))))))))
theorem t_X11_chance_44 {X : Cx} {res : Mem × Int32}  (hX : OkX X cX11_chance RX11 5 119) (hn : Fit X shR nR) (hR : RetI X shR nR .int res)  : ∀ (n : Nat) (M : Mem) (x0 : Nat) (x1 : Int32) (x2 : Int32) (x3 : Int32) (x4 : Int32) (x5 : Int32) (x6 : Int32),  f_X11_chance_44  n M x0 x1 x2 x3 x4 x5 x6 = some res → GoN X shR nR 0 0 M 44 [some (.ref (X.B + x0)), some (.int (x1)), some (.int (x2)), some (.int (x3)), some (.int (x4)), some (.int (x5)), some (.int (x6))] [] := by
  intro n
  induction n with
  | zero => intro M x0 x1 x2 x3 x4 x5 x6 hf; cases hf
  | succ n ih => intro M x0 x1 x2 x3 x4 x5 x6 hf; exact t_s_X11_chance_44 hX hn hR  ih M x0 x1 x2 x3 x4 x5 x6 hf
theorem t_X11_chance {l : Launch} {M : Mem} {a0 : Nat} {a1 a2 a3 a4 : Int32} {res : Mem × Int32} (hf : f_X11_chance M a0 a1 a2 a3 a4 = some res) : Ci l yX11_chance cX11_chance 7 (some .int) 5 119 shR nR (fun K B => [.ref (B + a0), .int a1, .int a2, .int a3, .int a4]) M res := by
  refine met_i (own := RX11) (lo := fun K B => [some (.ref (B + a0)), some (.int a1), some (.int a2), some (.int a3), some (.int a4), none, none]) (by decide +kernel) rfl shR_ok (fun _ _ => rfl) (fun _ _ => rfl) (fun _ _ => Nat.le_of_ble_eq_true rfl) (fun X hX hn hlx hR => ?_)
  refine r_aload_n (i := 0) hX e_X11_chance_0 rfl rfl ?_
  refine r_iconst hX e_X11_chance_1 ic_0 ?_
  obtain ⟨g1, hf⟩ := gd_s hf
  obtain ⟨M2, hM2, hf⟩ := nx_s hf
  refine r_putI hX hn hM2 e_X11_chance_2 fl_11_122 fp_11_0 rfl g1 ?_
  refine r_aload_n (i := 0) hX e_X11_chance_5 rfl rfl ?_
  refine r_iload_n (i := 1) hX e_X11_chance_6 rfl rfl ?_
  refine r_iload_n (i := 3) hX e_X11_chance_7 rfl rfl ?_
  obtain ⟨v3, hv3, hf⟩ := bd_s hf
  refine r_cvi (As := fun K B => [.int (a1), .int (a3)]) hX hn (t_X11_isDraw hv3) e_X11_chance_8 cw_X11_isDraw cv_X11_isDraw lk_11_451 ⟨Nat.le_of_ble_eq_true rfl, Nat.le_of_ble_eq_true rfl⟩ (ci := 11) rfl rfl (Nat.le_of_ble_eq_true rfl) g1 rfl rfl (Nat.le_of_ble_eq_true rfl) ⟨Nat.zero_le _, Nat.zero_le _⟩ ?_
  refine r_if_eq hX e_X11_chance_11 (fun hc => ?_) (fun hc => ?_)
  · have hf := ite_t hf hc
    refine r_bipush hX e_X11_chance_35 bc_m2 ?_
    exact r_iret hX hR e_X11_chance_37 hf
  · have hf := ite_f hf hc
    refine r_iload_n (i := 2) hX e_X11_chance_14 rfl rfl ?_
    refine r_i2l hX e_X11_chance_15 ?_
    refine r_lconst hX e_X11_chance_16 lc_1 ?_
    refine r_ldc2 hX e_X11_chance_17 wk_1675 ?_
    obtain ⟨v4, hv4, hf⟩ := bd_s hf
    refine r_csi (As := fun K B => [.long ((a2 : Int32).toInt64), .long (1), .long (20)]) hX hn (t_X11_in hv4) e_X11_chance_20 cw_X11_in cv_X11_in lk_11_127 ⟨Nat.le_of_ble_eq_true rfl, Nat.le_of_ble_eq_true rfl⟩ rfl rfl (Nat.le_of_ble_eq_true rfl) ⟨Nat.zero_le _, Nat.zero_le _⟩ ?_
    refine r_if_eq hX e_X11_chance_23 (fun hc => ?_) (fun hc => ?_)
    · have hf := ite_t hf hc
      refine r_bipush hX e_X11_chance_35 bc_m2 ?_
      exact r_iret hX hR e_X11_chance_37 hf
    · have hf := ite_f hf hc
      refine r_aload_n (i := 0) hX e_X11_chance_26 rfl rfl ?_
      refine r_iload hX e_X11_chance_27 rfl ?_
      obtain ⟨v5, hv5, hf⟩ := bd_s hf
      refine r_cvi (As := fun K B => [.int (a4)]) hX hn (t_X11_isBuyer hv5) e_X11_chance_29 cw_X11_isBuyer cv_X11_isBuyer lk_11_313 ⟨Nat.le_of_ble_eq_true rfl, Nat.le_of_ble_eq_true rfl⟩ (ci := 11) rfl rfl (Nat.le_of_ble_eq_true rfl) g1 rfl rfl (Nat.le_of_ble_eq_true rfl) ⟨Nat.zero_le _, Nat.zero_le _⟩ ?_
      refine r_if_ne hX e_X11_chance_32 (fun hc => ?_) (fun hc => ?_)
      · have hf := ite_f hf hc
        refine r_iconst hX e_X11_chance_38 ic_0 ?_
        refine r_istore hX e_X11_chance_39 (Nat.le_of_ble_eq_true rfl) rfl ?_
        refine r_iconst hX e_X11_chance_41 ic_0 ?_
        refine r_istore hX e_X11_chance_42 (Nat.le_of_ble_eq_true rfl) rfl ?_
        exact GoN.weak (t_X11_chance_44 hX hn hR FU M2 (a0) (a1) (a2) (a3) (a4) (0) (0) hf) rfl (sb_s (sb_s (sb_s (sb_s (sb_s (sb_s (sb_s (sb_z _))))))))
      · have hf := ite_t hf hc
        refine r_bipush hX e_X11_chance_35 bc_m2 ?_
        exact r_iret hX hR e_X11_chance_37 hf
def s_X11_judge_41 (k41 : Mem → Nat → Int32 → Int32 → Option (Mem × Int32)) (M : Mem) (x0 : Nat) (x1 : Int32) (x2 : Int32) : Option (Mem × Int32) :=
  gd (oB shR x0 11) <| bd (gR M x0 2) fun r2 => gd (aB shR r2 0 x1) <| if (gI M r2 (x1 : Int32).toNatClampNeg) ≤ x2 then some (M, x2) else if (gI M x0 46) ≤ x2 then some (M, x2) else bd (gR M x0 3) fun r4 => gd (aB shR r4 1 ((60 * x1) + x2)) <| nx ((gL M r4 (((60 * x1) + x2) : Int32).toNatClampNeg)) fun v6 => bd (gR M x0 45) fun r7 => gd (aB shR r7 0 ((4 * x2) + 3)) <| nx ((gI M r7 (((4 * x2) + 3) : Int32).toNatClampNeg)) fun v9 => if (lg_cmp v6 ((v9 : Int32).toInt64)) = 0 then k41 M (x0) (x1) ((x2 + 1)) else some (M, x2)
def f_X11_judge_41  : Nat → Mem → Nat → Int32 → Int32 → Option (Mem × Int32)
  | 0 => fun _ _ _ _ => none
  | n + 1 => fun y0 y1 y2 y3 => s_X11_judge_41  (f_X11_judge_41  n) y0 y1 y2 y3
def f_X11_judge (M : Mem) (a0 : Nat) (a1 : Int32) : Option (Mem × Int32) :=
  gd (oB shR a0 11) <| nx (sI M a0 0 0) fun M2 => bd (f_X11_isSlot M2 a1) fun v3 => if v3 = 0 then some (M2, (-2)) else bd (f_X11_isMarket M2 a0) fun v4 => if v4 = 0 then some (M2, (-2)) else bd (gR M2 a0 1) fun r5 => gd (aB shR r5 0 a1) <| if (gI M2 r5 (a1 : Int32).toNatClampNeg) = (-1) then some (M2, (-6)) else bd (f_X11_plainHour M2 a0) fun u7 => f_X11_judge_41 FU u7 (a0) (a1) (0)
theorem t_s_X11_judge_41 {X : Cx} {res : Mem × Int32} {k41 : Mem → Nat → Int32 → Int32 → Option (Mem × Int32)} (hX : OkX X cX11_judge RX11 5 116) (hn : Fit X shR nR) (hR : RetI X shR nR .int res) (hk41 : ∀ M x0 x1 x2, k41 M x0 x1 x2 = some res → GoN X shR nR 0 0 M 41 [some (.ref (X.B + x0)), some (.int (x1)), some (.int (x2))] []) (M : Mem) (x0 : Nat) (x1 : Int32) (x2 : Int32) (hf : s_X11_judge_41 k41 M x0 x1 x2 = some res) : GoN X shR nR 0 0 M 41 [some (.ref (X.B + x0)), some (.int (x1)), some (.int (x2))] [] := by
  refine r_iload_n (i := 2) hX e_X11_judge_41 rfl rfl ?_
  refine r_aload_n (i := 0) hX e_X11_judge_42 rfl rfl ?_
  obtain ⟨g1, hf⟩ := gd_s hf
  obtain ⟨r2, hr2, hf⟩ := bd_s hf
  refine r_getR hX hn e_X11_judge_43 fl_11_13 rfl g1 hr2 ?_
  refine r_iload_n (i := 1) hX e_X11_judge_46 rfl rfl ?_
  obtain ⟨g3, hf⟩ := gd_s hf
  refine r_iald hX hn e_X11_judge_47 g3 ?_
  refine r_icmp_ge hX e_X11_judge_48 (fun hc => ?_) (fun hc => ?_)
  · have hf := ite_t hf hc
    refine r_iload_n (i := 2) hX e_X11_judge_91 rfl rfl ?_
    exact r_iret hX hR e_X11_judge_92 hf
  · have hf := ite_f hf hc
    refine r_iload_n (i := 2) hX e_X11_judge_51 rfl rfl ?_
    refine r_aload_n (i := 0) hX e_X11_judge_52 rfl rfl ?_
    refine r_getI hX hn e_X11_judge_53 fl_11_371 rfl g1 ?_
    refine r_icmp_ge hX e_X11_judge_56 (fun hc => ?_) (fun hc => ?_)
    · have hf := ite_t hf hc
      refine r_iload_n (i := 2) hX e_X11_judge_91 rfl rfl ?_
      exact r_iret hX hR e_X11_judge_92 hf
    · have hf := ite_f hf hc
      refine r_aload_n (i := 0) hX e_X11_judge_59 rfl rfl ?_
      obtain ⟨r4, hr4, hf⟩ := bd_s hf
      refine r_getR hX hn e_X11_judge_60 fl_11_16 rfl g1 hr4 ?_
      refine r_bipush hX e_X11_judge_63 bc_60 ?_
      refine r_iload_n (i := 1) hX e_X11_judge_65 rfl rfl ?_
      refine r_imul hX e_X11_judge_66 ?_
      refine r_iload_n (i := 2) hX e_X11_judge_67 rfl rfl ?_
      refine r_iadd hX e_X11_judge_68 ?_
      obtain ⟨g5, hf⟩ := gd_s hf
      refine r_lald hX hn e_X11_judge_69 g5 ?_
      obtain ⟨v6, hv6, hf⟩ := nx_s hf
      refine top_l hv6 ?_
      refine r_aload_n (i := 0) hX e_X11_judge_70 rfl rfl ?_
      obtain ⟨r7, hr7, hf⟩ := bd_s hf
      refine r_getR hX hn e_X11_judge_71 fl_11_107 rfl g1 hr7 ?_
      refine r_iconst hX e_X11_judge_74 ic_4 ?_
      refine r_iload_n (i := 2) hX e_X11_judge_75 rfl rfl ?_
      refine r_imul hX e_X11_judge_76 ?_
      refine r_iconst hX e_X11_judge_77 ic_3 ?_
      refine r_iadd hX e_X11_judge_78 ?_
      obtain ⟨g8, hf⟩ := gd_s hf
      refine r_iald hX hn e_X11_judge_79 g8 ?_
      obtain ⟨v9, hv9, hf⟩ := nx_s hf
      refine top_i hv9 ?_
      refine r_i2l hX e_X11_judge_80 ?_
      refine r_lcmp hX e_X11_judge_81 ?_
      refine r_if_ne hX e_X11_judge_82 (fun hc => ?_) (fun hc => ?_)
      · have hf := ite_f hf hc
        refine r_iload_n (i := 2) hX e_X11_judge_91 rfl rfl ?_
        exact r_iret hX hR e_X11_judge_92 hf
      · have hf := ite_t hf hc
        refine r_iinc (v := x2 + 1) hX e_X11_judge_85 rfl (ii_s ic_1) (Nat.le_of_ble_eq_true rfl) rfl ?_
        refine r_goto hX e_X11_judge_88 ?_
        exact GoN.weak (hk41 M (x0) (x1) ((x2 + 1)) hf) rfl (sb_s (sb_s (sb_s (sb_z _))))
theorem t_X11_judge_41 {X : Cx} {res : Mem × Int32}  (hX : OkX X cX11_judge RX11 5 116) (hn : Fit X shR nR) (hR : RetI X shR nR .int res)  : ∀ (n : Nat) (M : Mem) (x0 : Nat) (x1 : Int32) (x2 : Int32),  f_X11_judge_41  n M x0 x1 x2 = some res → GoN X shR nR 0 0 M 41 [some (.ref (X.B + x0)), some (.int (x1)), some (.int (x2))] [] := by
  intro n
  induction n with
  | zero => intro M x0 x1 x2 hf; cases hf
  | succ n ih => intro M x0 x1 x2 hf; exact t_s_X11_judge_41 hX hn hR  ih M x0 x1 x2 hf
theorem t_X11_judge {l : Launch} {M : Mem} {a0 : Nat} {a1 : Int32} {res : Mem × Int32} (hf : f_X11_judge M a0 a1 = some res) : Ci l yX11_judge cX11_judge 3 (some .int) 5 116 shR nR (fun K B => [.ref (B + a0), .int a1]) M res := by
  refine met_i (own := RX11) (lo := fun K B => [some (.ref (B + a0)), some (.int a1), none]) (by decide +kernel) rfl shR_ok (fun _ _ => rfl) (fun _ _ => rfl) (fun _ _ => Nat.le_of_ble_eq_true rfl) (fun X hX hn hlx hR => ?_)
  refine r_aload_n (i := 0) hX e_X11_judge_0 rfl rfl ?_
  refine r_iconst hX e_X11_judge_1 ic_0 ?_
  obtain ⟨g1, hf⟩ := gd_s hf
  obtain ⟨M2, hM2, hf⟩ := nx_s hf
  refine r_putI hX hn hM2 e_X11_judge_2 fl_11_122 fp_11_0 rfl g1 ?_
  refine r_iload_n (i := 1) hX e_X11_judge_5 rfl rfl ?_
  obtain ⟨v3, hv3, hf⟩ := bd_s hf
  refine r_csi (As := fun K B => [.int (a1)]) hX hn (t_X11_isSlot hv3) e_X11_judge_6 cw_X11_isSlot cv_X11_isSlot lk_11_131 ⟨Nat.le_of_ble_eq_true rfl, Nat.le_of_ble_eq_true rfl⟩ rfl rfl (Nat.le_of_ble_eq_true rfl) ⟨Nat.zero_le _, Nat.zero_le _⟩ ?_
  refine r_if_eq hX e_X11_judge_9 (fun hc => ?_) (fun hc => ?_)
  · have hf := ite_t hf hc
    refine r_bipush hX e_X11_judge_19 bc_m2 ?_
    exact r_iret hX hR e_X11_judge_21 hf
  · have hf := ite_f hf hc
    refine r_aload_n (i := 0) hX e_X11_judge_12 rfl rfl ?_
    obtain ⟨v4, hv4, hf⟩ := bd_s hf
    refine r_cvi (As := fun K B => []) hX hn (t_X11_isMarket hv4) e_X11_judge_13 cw_X11_isMarket cv_X11_isMarket lk_11_403 ⟨Nat.le_of_ble_eq_true rfl, Nat.le_of_ble_eq_true rfl⟩ (ci := 11) rfl rfl (Nat.le_of_ble_eq_true rfl) g1 rfl rfl (Nat.le_of_ble_eq_true rfl) ⟨Nat.zero_le _, Nat.zero_le _⟩ ?_
    refine r_if_ne hX e_X11_judge_16 (fun hc => ?_) (fun hc => ?_)
    · have hf := ite_f hf hc
      refine r_aload_n (i := 0) hX e_X11_judge_22 rfl rfl ?_
      obtain ⟨r5, hr5, hf⟩ := bd_s hf
      refine r_getR hX hn e_X11_judge_23 fl_11_7 rfl g1 hr5 ?_
      refine r_iload_n (i := 1) hX e_X11_judge_26 rfl rfl ?_
      obtain ⟨g6, hf⟩ := gd_s hf
      refine r_iald hX hn e_X11_judge_27 g6 ?_
      refine r_iconst hX e_X11_judge_28 ic_m1 ?_
      refine r_icmp_ne hX e_X11_judge_29 (fun hc => ?_) (fun hc => ?_)
      · have hf := ite_f hf hc
        refine r_aload_n (i := 0) hX e_X11_judge_35 rfl rfl ?_
        obtain ⟨u7, hu7, hf⟩ := bd_s hf
        refine r_cvv (As := fun K B => []) hX hn (t_X11_plainHour hu7) e_X11_judge_36 cw_X11_plainHour cv_X11_plainHour lk_11_400 ⟨Nat.le_of_ble_eq_true rfl, Nat.le_of_ble_eq_true rfl⟩ (ci := 11) rfl rfl (Nat.le_of_ble_eq_true rfl) g1 rfl rfl (Nat.le_of_ble_eq_true rfl) ⟨Nat.zero_le _, Nat.zero_le _⟩ ?_
        refine r_iconst hX e_X11_judge_39 ic_0 ?_
        refine r_istore_n (i := 2) hX e_X11_judge_40 rfl (Nat.le_of_ble_eq_true rfl) rfl ?_
        exact GoN.weak (t_X11_judge_41 hX hn hR FU u7 (a0) (a1) (0) hf) rfl (sb_s (sb_s (sb_s (sb_z _))))
      · have hf := ite_t hf hc
        refine r_bipush hX e_X11_judge_32 bc_m6 ?_
        exact r_iret hX hR e_X11_judge_34 hf
    · have hf := ite_t hf hc
      refine r_bipush hX e_X11_judge_19 bc_m2 ?_
      exact r_iret hX hR e_X11_judge_21 hf
def s_X11_count_98 (k85 : Mem → Nat → Int32 → Int32 → Option (Mem × Int32)) (k98 : Mem → Nat → Int32 → Int32 → Int32 → Option (Mem × Int32)) (M : Mem) (x0 : Nat) (x2 : Int32) (x3 : Int32) (x4 : Int32) : Option (Mem × Int32) :=
  gd (oB shR x0 11) <| bd (gR M x0 17) fun r2 => gd (aB shR r2 0 1) <| if (gI M r2 (1 : Int32).toNatClampNeg) ≤ x4 then k85 M (x0) (x2) ((x3 + 1)) else bd (f_X11_isStuck M x0 x3 x4) fun v4 => if v4 = 0 then k98 M (x0) ((x2 + 0)) (x3) ((x4 + 1)) else k98 M (x0) ((x2 + 1)) (x3) ((x4 + 1))
def f_X11_count_98 (k85 : Mem → Nat → Int32 → Int32 → Option (Mem × Int32)) : Nat → Mem → Nat → Int32 → Int32 → Int32 → Option (Mem × Int32)
  | 0 => fun _ _ _ _ _ => none
  | n + 1 => fun y0 y1 y2 y3 y4 => s_X11_count_98 k85 (f_X11_count_98 k85 n) y0 y1 y2 y3 y4
def s_X11_count_85 (k85 : Mem → Nat → Int32 → Int32 → Option (Mem × Int32)) (M : Mem) (x0 : Nat) (x2 : Int32) (x3 : Int32) : Option (Mem × Int32) :=
  gd (oB shR x0 11) <| bd (gR M x0 17) fun r2 => gd (aB shR r2 0 2) <| if (gI M r2 (2 : Int32).toNatClampNeg) ≤ x3 then some (M, x2) else f_X11_count_98 k85 FU M (x0) (x2) (x3) (0)
def f_X11_count_85  : Nat → Mem → Nat → Int32 → Int32 → Option (Mem × Int32)
  | 0 => fun _ _ _ _ => none
  | n + 1 => fun y0 y1 y2 y3 => s_X11_count_85  (f_X11_count_85  n) y0 y1 y2 y3
def s_X11_count_143 (k143 : Mem → Nat → Int32 → Int32 → Option (Mem × Int32)) (M : Mem) (x0 : Nat) (x2 : Int32) (x3 : Int32) : Option (Mem × Int32) :=
  if 4 ≤ x3 then some (M, x2) else gd (oB shR x0 11) <| bd (gR M x0 1) fun r2 => gd (aB shR r2 0 x3) <| if (gI M r2 (x3 : Int32).toNatClampNeg) = (-1) then k143 M (x0) ((x2 + 0)) ((x3 + 1)) else k143 M (x0) ((x2 + 1)) ((x3 + 1))
def f_X11_count_143  : Nat → Mem → Nat → Int32 → Int32 → Option (Mem × Int32)
  | 0 => fun _ _ _ _ => none
  | n + 1 => fun y0 y1 y2 y3 => s_X11_count_143  (f_X11_count_143  n) y0 y1 y2 y3
def f_X11_count (M : Mem) (a0 : Nat) (a1 : Int32) : Option (Mem × Int32) :=
  gd (oB shR a0 11) <| nx (sI M a0 0 0) fun M2 => if a1 = 0 then bd (gR M2 a0 17) fun r3 => gd (aB shR r3 0 a1) <| some (M2, (gI M2 r3 (a1 : Int32).toNatClampNeg)) else if a1 = 1 then bd (gR M2 a0 17) fun r5 => gd (aB shR r5 0 a1) <| some (M2, (gI M2 r5 (a1 : Int32).toNatClampNeg)) else if a1 = 2 then bd (gR M2 a0 17) fun r7 => gd (aB shR r7 0 a1) <| some (M2, (gI M2 r7 (a1 : Int32).toNatClampNeg)) else if a1 = 3 then bd (gR M2 a0 17) fun r9 => gd (aB shR r9 0 a1) <| some (M2, (gI M2 r9 (a1 : Int32).toNatClampNeg)) else if a1 = 4 then bd (gR M2 a0 17) fun r11 => gd (aB shR r11 0 a1) <| some (M2, (gI M2 r11 (a1 : Int32).toNatClampNeg)) else if a1 = 5 then bd (gR M2 a0 16) fun r13 => gd (aB shR r13 0 0) <| some (M2, (gI M2 r13 (0 : Int32).toNatClampNeg)) else if a1 = 6 then some (M2, (gI M2 a0 6)) else if a1 = 7 then bd (f_X11_plainly M2 a0) fun u15 => f_X11_count_85 FU u15 (a0) (0) (0) else if a1 = 8 then f_X11_count_143 FU M2 (a0) (0) (0) else some (M2, (-1))
theorem t_s_X11_count_98 {X : Cx} {res : Mem × Int32} {k85 : Mem → Nat → Int32 → Int32 → Option (Mem × Int32)} {k98 : Mem → Nat → Int32 → Int32 → Int32 → Option (Mem × Int32)} (hX : OkX X cX11_count RX11 2 48) (hn : Fit X shR nR) (hR : RetI X shR nR .int res) (hk85 : ∀ M x0 x2 x3, k85 M x0 x2 x3 = some res → GoN X shR nR 0 0 M 85 [some (.ref (X.B + x0)), none, some (.int (x2)), some (.int (x3)), none] []) (hk98 : ∀ M x0 x2 x3 x4, k98 M x0 x2 x3 x4 = some res → GoN X shR nR 0 0 M 98 [some (.ref (X.B + x0)), none, some (.int (x2)), some (.int (x3)), some (.int (x4))] []) (M : Mem) (x0 : Nat) (x2 : Int32) (x3 : Int32) (x4 : Int32) (hf : s_X11_count_98 k85 k98 M x0 x2 x3 x4 = some res) : GoN X shR nR 0 0 M 98 [some (.ref (X.B + x0)), none, some (.int (x2)), some (.int (x3)), some (.int (x4))] [] := by
  refine r_iload hX e_X11_count_98 rfl ?_
  refine r_aload_n (i := 0) hX e_X11_count_100 rfl rfl ?_
  obtain ⟨g1, hf⟩ := gd_s hf
  obtain ⟨r2, hr2, hf⟩ := bd_s hf
  refine r_getR hX hn e_X11_count_101 fl_11_34 rfl g1 hr2 ?_
  refine r_iconst hX e_X11_count_104 ic_1 ?_
  obtain ⟨g3, hf⟩ := gd_s hf
  refine r_iald hX hn e_X11_count_105 g3 ?_
  refine r_icmp_ge hX e_X11_count_106 (fun hc => ?_) (fun hc => ?_)
  · have hf := ite_t hf hc
    refine r_iinc (v := x3 + 1) hX e_X11_count_133 rfl (ii_s ic_1) (Nat.le_of_ble_eq_true rfl) rfl ?_
    refine r_goto hX e_X11_count_136 ?_
    exact GoN.weak (hk85 M (x0) (x2) ((x3 + 1)) hf) rfl (sb_s (sb_n (sb_s (sb_s (sb_n (sb_z _))))))
  · have hf := ite_f hf hc
    refine r_iload_n (i := 2) hX e_X11_count_109 rfl rfl ?_
    refine r_aload_n (i := 0) hX e_X11_count_110 rfl rfl ?_
    refine r_iload_n (i := 3) hX e_X11_count_111 rfl rfl ?_
    refine r_iload hX e_X11_count_112 rfl ?_
    obtain ⟨v4, hv4, hf⟩ := bd_s hf
    refine r_cvi (As := fun K B => [.int (x3), .int (x4)]) hX hn (t_X11_isStuck hv4) e_X11_count_114 cw_X11_isStuck cv_X11_isStuck lk_11_343 ⟨Nat.le_of_ble_eq_true rfl, Nat.le_of_ble_eq_true rfl⟩ (ci := 11) rfl rfl (Nat.le_of_ble_eq_true rfl) g1 rfl rfl (Nat.le_of_ble_eq_true rfl) ⟨Nat.zero_le _, Nat.zero_le _⟩ ?_
    refine r_if_eq hX e_X11_count_117 (fun hc => ?_) (fun hc => ?_)
    · have hf := ite_t hf hc
      refine r_iconst hX e_X11_count_124 ic_0 ?_
      refine r_iadd hX e_X11_count_125 ?_
      refine r_istore_n (i := 2) hX e_X11_count_126 rfl (Nat.le_of_ble_eq_true rfl) rfl ?_
      refine r_iinc (v := x4 + 1) hX e_X11_count_127 rfl (ii_s ic_1) (Nat.le_of_ble_eq_true rfl) rfl ?_
      refine r_goto hX e_X11_count_130 ?_
      exact GoN.weak (hk98 M (x0) ((x2 + 0)) (x3) ((x4 + 1)) hf) rfl (sb_s (sb_n (sb_s (sb_s (sb_s (sb_z _))))))
    · have hf := ite_f hf hc
      refine r_iconst hX e_X11_count_120 ic_1 ?_
      refine r_goto hX e_X11_count_121 ?_
      refine r_iadd hX e_X11_count_125 ?_
      refine r_istore_n (i := 2) hX e_X11_count_126 rfl (Nat.le_of_ble_eq_true rfl) rfl ?_
      refine r_iinc (v := x4 + 1) hX e_X11_count_127 rfl (ii_s ic_1) (Nat.le_of_ble_eq_true rfl) rfl ?_
      refine r_goto hX e_X11_count_130 ?_
      exact GoN.weak (hk98 M (x0) ((x2 + 1)) (x3) ((x4 + 1)) hf) rfl (sb_s (sb_n (sb_s (sb_s (sb_s (sb_z _))))))
theorem t_X11_count_98 {X : Cx} {res : Mem × Int32} {k85 : Mem → Nat → Int32 → Int32 → Option (Mem × Int32)} (hX : OkX X cX11_count RX11 2 48) (hn : Fit X shR nR) (hR : RetI X shR nR .int res) (hk85 : ∀ M x0 x2 x3, k85 M x0 x2 x3 = some res → GoN X shR nR 0 0 M 85 [some (.ref (X.B + x0)), none, some (.int (x2)), some (.int (x3)), none] []) : ∀ (n : Nat) (M : Mem) (x0 : Nat) (x2 : Int32) (x3 : Int32) (x4 : Int32),  f_X11_count_98 k85 n M x0 x2 x3 x4 = some res → GoN X shR nR 0 0 M 98 [some (.ref (X.B + x0)), none, some (.int (x2)), some (.int (x3)), some (.int (x4))] [] := by
  intro n
  induction n with
  | zero => intro M x0 x2 x3 x4 hf; cases hf
  | succ n ih => intro M x0 x2 x3 x4 hf; exact t_s_X11_count_98 hX hn hR hk85 ih M x0 x2 x3 x4 hf
theorem t_s_X11_count_85 {X : Cx} {res : Mem × Int32} {k85 : Mem → Nat → Int32 → Int32 → Option (Mem × Int32)} (hX : OkX X cX11_count RX11 2 48) (hn : Fit X shR nR) (hR : RetI X shR nR .int res) (hk85 : ∀ M x0 x2 x3, k85 M x0 x2 x3 = some res → GoN X shR nR 0 0 M 85 [some (.ref (X.B + x0)), none, some (.int (x2)), some (.int (x3)), none] []) (M : Mem) (x0 : Nat) (x2 : Int32) (x3 : Int32) (hf : s_X11_count_85 k85 M x0 x2 x3 = some res) : GoN X shR nR 0 0 M 85 [some (.ref (X.B + x0)), none, some (.int (x2)), some (.int (x3)), none] [] := by
  refine r_iload_n (i := 3) hX e_X11_count_85 rfl rfl ?_
  refine r_aload_n (i := 0) hX e_X11_count_86 rfl rfl ?_
  obtain ⟨g1, hf⟩ := gd_s hf
  obtain ⟨r2, hr2, hf⟩ := bd_s hf
  refine r_getR hX hn e_X11_count_87 fl_11_34 rfl g1 hr2 ?_
  refine r_iconst hX e_X11_count_90 ic_2 ?_
  obtain ⟨g3, hf⟩ := gd_s hf
  refine r_iald hX hn e_X11_count_91 g3 ?_
  refine r_icmp_ge hX e_X11_count_92 (fun hc => ?_) (fun hc => ?_)
  · have hf := ite_t hf hc
    refine r_iload_n (i := 2) hX e_X11_count_139 rfl rfl ?_
    exact r_iret hX hR e_X11_count_140 hf
  · have hf := ite_f hf hc
    refine r_iconst hX e_X11_count_95 ic_0 ?_
    refine r_istore hX e_X11_count_96 (Nat.le_of_ble_eq_true rfl) rfl ?_
    exact GoN.weak (t_X11_count_98 hX hn hR hk85 FU M (x0) (x2) (x3) (0) hf) rfl (sb_s (sb_n (sb_s (sb_s (sb_s (sb_z _))))))
theorem t_X11_count_85 {X : Cx} {res : Mem × Int32}  (hX : OkX X cX11_count RX11 2 48) (hn : Fit X shR nR) (hR : RetI X shR nR .int res)  : ∀ (n : Nat) (M : Mem) (x0 : Nat) (x2 : Int32) (x3 : Int32),  f_X11_count_85  n M x0 x2 x3 = some res → GoN X shR nR 0 0 M 85 [some (.ref (X.B + x0)), none, some (.int (x2)), some (.int (x3)), none] [] := by
  intro n
  induction n with
  | zero => intro M x0 x2 x3 hf; cases hf
  | succ n ih => intro M x0 x2 x3 hf; exact t_s_X11_count_85 hX hn hR  ih M x0 x2 x3 hf
theorem t_s_X11_count_143 {X : Cx} {res : Mem × Int32} {k143 : Mem → Nat → Int32 → Int32 → Option (Mem × Int32)} (hX : OkX X cX11_count RX11 2 48) (hn : Fit X shR nR) (hR : RetI X shR nR .int res) (hk143 : ∀ M x0 x2 x3, k143 M x0 x2 x3 = some res → GoN X shR nR 0 0 M 143 [some (.ref (X.B + x0)), none, some (.int (x2)), some (.int (x3)), none] []) (M : Mem) (x0 : Nat) (x2 : Int32) (x3 : Int32) (hf : s_X11_count_143 k143 M x0 x2 x3 = some res) : GoN X shR nR 0 0 M 143 [some (.ref (X.B + x0)), none, some (.int (x2)), some (.int (x3)), none] [] := by
  refine r_iload_n (i := 3) hX e_X11_count_143 rfl rfl ?_
  refine r_iconst hX e_X11_count_144 ic_4 ?_
  refine r_icmp_ge hX e_X11_count_145 (fun hc => ?_) (fun hc => ?_)
  · have hf := ite_t hf hc
    refine r_iload_n (i := 2) hX e_X11_count_172 rfl rfl ?_
    exact r_iret hX hR e_X11_count_173 hf
  · have hf := ite_f hf hc
    refine r_iload_n (i := 2) hX e_X11_count_148 rfl rfl ?_
    refine r_aload_n (i := 0) hX e_X11_count_149 rfl rfl ?_
    obtain ⟨g1, hf⟩ := gd_s hf
    obtain ⟨r2, hr2, hf⟩ := bd_s hf
    refine r_getR hX hn e_X11_count_150 fl_11_7 rfl g1 hr2 ?_
    refine r_iload_n (i := 3) hX e_X11_count_153 rfl rfl ?_
    obtain ⟨g3, hf⟩ := gd_s hf
    refine r_iald hX hn e_X11_count_154 g3 ?_
    refine r_iconst hX e_X11_count_155 ic_m1 ?_
    refine r_icmp_ne hX e_X11_count_156 (fun hc => ?_) (fun hc => ?_)
    · have hf := ite_f hf hc
      refine r_iconst hX e_X11_count_163 ic_1 ?_
      refine r_iadd hX e_X11_count_164 ?_
      refine r_istore_n (i := 2) hX e_X11_count_165 rfl (Nat.le_of_ble_eq_true rfl) rfl ?_
      refine r_iinc (v := x3 + 1) hX e_X11_count_166 rfl (ii_s ic_1) (Nat.le_of_ble_eq_true rfl) rfl ?_
      refine r_goto hX e_X11_count_169 ?_
      exact GoN.weak (hk143 M (x0) ((x2 + 1)) ((x3 + 1)) hf) rfl (sb_s (sb_n (sb_s (sb_s (sb_n (sb_z _))))))
    · have hf := ite_t hf hc
      refine r_iconst hX e_X11_count_159 ic_0 ?_
      refine r_goto hX e_X11_count_160 ?_
      refine r_iadd hX e_X11_count_164 ?_
      refine r_istore_n (i := 2) hX e_X11_count_165 rfl (Nat.le_of_ble_eq_true rfl) rfl ?_
      refine r_iinc (v := x3 + 1) hX e_X11_count_166 rfl (ii_s ic_1) (Nat.le_of_ble_eq_true rfl) rfl ?_
      refine r_goto hX e_X11_count_169 ?_
      exact GoN.weak (hk143 M (x0) ((x2 + 0)) ((x3 + 1)) hf) rfl (sb_s (sb_n (sb_s (sb_s (sb_n (sb_z _))))))
theorem t_X11_count_143 {X : Cx} {res : Mem × Int32}  (hX : OkX X cX11_count RX11 2 48) (hn : Fit X shR nR) (hR : RetI X shR nR .int res)  : ∀ (n : Nat) (M : Mem) (x0 : Nat) (x2 : Int32) (x3 : Int32),  f_X11_count_143  n M x0 x2 x3 = some res → GoN X shR nR 0 0 M 143 [some (.ref (X.B + x0)), none, some (.int (x2)), some (.int (x3)), none] [] := by
  intro n
  induction n with
  | zero => intro M x0 x2 x3 hf; cases hf
  | succ n ih => intro M x0 x2 x3 hf; exact t_s_X11_count_143 hX hn hR  ih M x0 x2 x3 hf
theorem t_X11_count {l : Launch} {M : Mem} {a0 : Nat} {a1 : Int32} {res : Mem × Int32} (hf : f_X11_count M a0 a1 = some res) : Ci l yX11_count cX11_count 5 (some .int) 2 48 shR nR (fun K B => [.ref (B + a0), .int a1]) M res := by
  refine met_i (own := RX11) (lo := fun K B => [some (.ref (B + a0)), some (.int a1), none, none, none]) (by decide +kernel) rfl shR_ok (fun _ _ => rfl) (fun _ _ => rfl) (fun _ _ => Nat.le_of_ble_eq_true rfl) (fun X hX hn hlx hR => ?_)
  refine r_aload_n (i := 0) hX e_X11_count_0 rfl rfl ?_
  refine r_iconst hX e_X11_count_1 ic_0 ?_
  obtain ⟨g1, hf⟩ := gd_s hf
  obtain ⟨M2, hM2, hf⟩ := nx_s hf
  refine r_putI hX hn hM2 e_X11_count_2 fl_11_122 fp_11_0 rfl g1 ?_
  refine r_iconst hX e_X11_count_5 ic_0 ?_
  refine r_istore_n (i := 2) hX e_X11_count_6 rfl (Nat.le_of_ble_eq_true rfl) rfl ?_
  refine r_iload_n (i := 1) hX e_X11_count_7 rfl rfl ?_
  by_cases hs0 : a1 = 0
  · have hf := ite_t hf hs0
    refine r_tabIn (tgt := 60) hX e_X11_count_8 (by rw [hs0]; decide) (by rw [hs0]; decide) (off := 52) (by rw [hs0]; decide) (by decide) ?_
    refine r_aload_n (i := 0) hX e_X11_count_60 rfl rfl ?_
    obtain ⟨r3, hr3, hf⟩ := bd_s hf
    refine r_getR hX hn e_X11_count_61 fl_11_34 rfl g1 hr3 ?_
    refine r_iload_n (i := 1) hX e_X11_count_64 rfl rfl ?_
    obtain ⟨g4, hf⟩ := gd_s hf
    refine r_iald hX hn e_X11_count_65 g4 ?_
    exact r_iret hX hR e_X11_count_66 hf
  have hf := ite_f hf hs0
  by_cases hs1 : a1 = 1
  · have hf := ite_t hf hs1
    refine r_tabIn (tgt := 60) hX e_X11_count_8 (by rw [hs1]; decide) (by rw [hs1]; decide) (off := 52) (by rw [hs1]; decide) (by decide) ?_
    refine r_aload_n (i := 0) hX e_X11_count_60 rfl rfl ?_
    obtain ⟨r5, hr5, hf⟩ := bd_s hf
    refine r_getR hX hn e_X11_count_61 fl_11_34 rfl g1 hr5 ?_
    refine r_iload_n (i := 1) hX e_X11_count_64 rfl rfl ?_
    obtain ⟨g6, hf⟩ := gd_s hf
    refine r_iald hX hn e_X11_count_65 g6 ?_
    exact r_iret hX hR e_X11_count_66 hf
  have hf := ite_f hf hs1
  by_cases hs2 : a1 = 2
  · have hf := ite_t hf hs2
    refine r_tabIn (tgt := 60) hX e_X11_count_8 (by rw [hs2]; decide) (by rw [hs2]; decide) (off := 52) (by rw [hs2]; decide) (by decide) ?_
    refine r_aload_n (i := 0) hX e_X11_count_60 rfl rfl ?_
    obtain ⟨r7, hr7, hf⟩ := bd_s hf
    refine r_getR hX hn e_X11_count_61 fl_11_34 rfl g1 hr7 ?_
    refine r_iload_n (i := 1) hX e_X11_count_64 rfl rfl ?_
    obtain ⟨g8, hf⟩ := gd_s hf
    refine r_iald hX hn e_X11_count_65 g8 ?_
    exact r_iret hX hR e_X11_count_66 hf
  have hf := ite_f hf hs2
  by_cases hs3 : a1 = 3
  · have hf := ite_t hf hs3
    refine r_tabIn (tgt := 60) hX e_X11_count_8 (by rw [hs3]; decide) (by rw [hs3]; decide) (off := 52) (by rw [hs3]; decide) (by decide) ?_
    refine r_aload_n (i := 0) hX e_X11_count_60 rfl rfl ?_
    obtain ⟨r9, hr9, hf⟩ := bd_s hf
    refine r_getR hX hn e_X11_count_61 fl_11_34 rfl g1 hr9 ?_
    refine r_iload_n (i := 1) hX e_X11_count_64 rfl rfl ?_
    obtain ⟨g10, hf⟩ := gd_s hf
    refine r_iald hX hn e_X11_count_65 g10 ?_
    exact r_iret hX hR e_X11_count_66 hf
  have hf := ite_f hf hs3
  by_cases hs4 : a1 = 4
  · have hf := ite_t hf hs4
    refine r_tabIn (tgt := 60) hX e_X11_count_8 (by rw [hs4]; decide) (by rw [hs4]; decide) (off := 52) (by rw [hs4]; decide) (by decide) ?_
    refine r_aload_n (i := 0) hX e_X11_count_60 rfl rfl ?_
    obtain ⟨r11, hr11, hf⟩ := bd_s hf
    refine r_getR hX hn e_X11_count_61 fl_11_34 rfl g1 hr11 ?_
    refine r_iload_n (i := 1) hX e_X11_count_64 rfl rfl ?_
    obtain ⟨g12, hf⟩ := gd_s hf
    refine r_iald hX hn e_X11_count_65 g12 ?_
    exact r_iret hX hR e_X11_count_66 hf
  have hf := ite_f hf hs4
  by_cases hs5 : a1 = 5
  · have hf := ite_t hf hs5
    refine r_tabIn (tgt := 67) hX e_X11_count_8 (by rw [hs5]; decide) (by rw [hs5]; decide) (off := 59) (by rw [hs5]; decide) (by decide) ?_
    refine r_aload_n (i := 0) hX e_X11_count_67 rfl rfl ?_
    obtain ⟨r13, hr13, hf⟩ := bd_s hf
    refine r_getR hX hn e_X11_count_68 fl_11_31 rfl g1 hr13 ?_
    refine r_iconst hX e_X11_count_71 ic_0 ?_
    obtain ⟨g14, hf⟩ := gd_s hf
    refine r_iald hX hn e_X11_count_72 g14 ?_
    exact r_iret hX hR e_X11_count_73 hf
  have hf := ite_f hf hs5
  by_cases hs6 : a1 = 6
  · have hf := ite_t hf hs6
    refine r_tabIn (tgt := 74) hX e_X11_count_8 (by rw [hs6]; decide) (by rw [hs6]; decide) (off := 66) (by rw [hs6]; decide) (by decide) ?_
    refine r_aload_n (i := 0) hX e_X11_count_74 rfl rfl ?_
    refine r_getI hX hn e_X11_count_75 fl_11_139 rfl g1 ?_
    exact r_iret hX hR e_X11_count_78 hf
  have hf := ite_f hf hs6
  by_cases hs7 : a1 = 7
  · have hf := ite_t hf hs7
    refine r_tabIn (tgt := 79) hX e_X11_count_8 (by rw [hs7]; decide) (by rw [hs7]; decide) (off := 71) (by rw [hs7]; decide) (by decide) ?_
    refine r_aload_n (i := 0) hX e_X11_count_79 rfl rfl ?_
    obtain ⟨u15, hu15, hf⟩ := bd_s hf
    refine r_cvv (As := fun K B => []) hX hn (t_X11_plainly hu15) e_X11_count_80 cw_X11_plainly cv_X11_plainly lk_11_347 ⟨Nat.le_of_ble_eq_true rfl, Nat.le_of_ble_eq_true rfl⟩ (ci := 11) rfl rfl (Nat.le_of_ble_eq_true rfl) g1 rfl rfl (Nat.le_of_ble_eq_true rfl) ⟨Nat.zero_le _, Nat.zero_le _⟩ ?_
    refine r_iconst hX e_X11_count_83 ic_0 ?_
    refine r_istore_n (i := 3) hX e_X11_count_84 rfl (Nat.le_of_ble_eq_true rfl) rfl ?_
    exact GoN.weak (t_X11_count_85 hX hn hR FU u15 (a0) (0) (0) hf) rfl (sb_s (sb_n (sb_s (sb_s (sb_n (sb_z _))))))
  have hf := ite_f hf hs7
  by_cases hs8 : a1 = 8
  · have hf := ite_t hf hs8
    refine r_tabIn (tgt := 141) hX e_X11_count_8 (by rw [hs8]; decide) (by rw [hs8]; decide) (off := 133) (by rw [hs8]; decide) (by decide) ?_
    refine r_iconst hX e_X11_count_141 ic_0 ?_
    refine r_istore_n (i := 3) hX e_X11_count_142 rfl (Nat.le_of_ble_eq_true rfl) rfl ?_
    exact GoN.weak (t_X11_count_143 hX hn hR FU M2 (a0) (0) (0) hf) rfl (sb_s (sb_n (sb_s (sb_s (sb_n (sb_z _))))))
  have hf := ite_f hf hs8
  refine r_tabOut (tgt := 174) hX e_X11_count_8 ?_ (by decide) ?_
  · have z0 : a1.toInt ≠ 0 := i32_ne hs0 (by decide); have z1 : a1.toInt ≠ 1 := i32_ne hs1 (by decide); have z2 : a1.toInt ≠ 2 := i32_ne hs2 (by decide); have z3 : a1.toInt ≠ 3 := i32_ne hs3 (by decide); have z4 : a1.toInt ≠ 4 := i32_ne hs4 (by decide); have z5 : a1.toInt ≠ 5 := i32_ne hs5 (by decide); have z6 : a1.toInt ≠ 6 := i32_ne hs6 (by decide); have z7 : a1.toInt ≠ 7 := i32_ne hs7 (by decide); have z8 : a1.toInt ≠ 8 := i32_ne hs8 (by decide); omega
  refine r_iconst hX e_X11_count_174 ic_m1 ?_
  exact r_iret hX hR e_X11_count_175 hf
def f_X11_keep (M : Mem) (a0 : Nat) (a1 : Int32) : Option (Mem × Int32) :=
  gd (oB shR a0 11) <| nx (sI M a0 0 0) fun M2 => bd (f_X11_in M2 ((a1 : Int32).toInt64) 0 2) fun v3 => if v3 = 0 then some (M2, (-2)) else bd (f_X11_copyMarket M2 a0 0 (1 + a1)) fun u4 => bd (gR u4 a0 23) fun r5 => gd (aB shR r5 2 a1) <| nx (sI u4 r5 (a1 : Int32).toNatClampNeg (vp_nar .boolean 1)) fun M7 => some (M7, 0)
theorem t_X11_keep {l : Launch} {M : Mem} {a0 : Nat} {a1 : Int32} {res : Mem × Int32} (hf : f_X11_keep M a0 a1 = some res) : Ci l yX11_keep cX11_keep 2 (some .int) 2 46 shR nR (fun K B => [.ref (B + a0), .int a1]) M res := by
  refine met_i (own := RX11) (lo := fun K B => [some (.ref (B + a0)), some (.int a1)]) (by decide +kernel) rfl shR_ok (fun _ _ => rfl) (fun _ _ => rfl) (fun _ _ => Nat.le_of_ble_eq_true rfl) (fun X hX hn hlx hR => ?_)
  refine r_aload_n (i := 0) hX e_X11_keep_0 rfl rfl ?_
  refine r_iconst hX e_X11_keep_1 ic_0 ?_
  obtain ⟨g1, hf⟩ := gd_s hf
  obtain ⟨M2, hM2, hf⟩ := nx_s hf
  refine r_putI hX hn hM2 e_X11_keep_2 fl_11_122 fp_11_0 rfl g1 ?_
  refine r_iload_n (i := 1) hX e_X11_keep_5 rfl rfl ?_
  refine r_i2l hX e_X11_keep_6 ?_
  refine r_lconst hX e_X11_keep_7 lc_0 ?_
  refine r_ldc2 hX e_X11_keep_8 wk_1471 ?_
  obtain ⟨v3, hv3, hf⟩ := bd_s hf
  refine r_csi (As := fun K B => [.long ((a1 : Int32).toInt64), .long (0), .long (2)]) hX hn (t_X11_in hv3) e_X11_keep_11 cw_X11_in cv_X11_in lk_11_127 ⟨Nat.le_of_ble_eq_true rfl, Nat.le_of_ble_eq_true rfl⟩ rfl rfl (Nat.le_of_ble_eq_true rfl) ⟨Nat.zero_le _, Nat.zero_le _⟩ ?_
  refine r_if_ne hX e_X11_keep_14 (fun hc => ?_) (fun hc => ?_)
  · have hf := ite_f hf hc
    refine r_aload_n (i := 0) hX e_X11_keep_20 rfl rfl ?_
    refine r_iconst hX e_X11_keep_21 ic_0 ?_
    refine r_iconst hX e_X11_keep_22 ic_1 ?_
    refine r_iload_n (i := 1) hX e_X11_keep_23 rfl rfl ?_
    refine r_iadd hX e_X11_keep_24 ?_
    obtain ⟨u4, hu4, hf⟩ := bd_s hf
    refine r_cvv (As := fun K B => [.int (0), .int ((1 + a1))]) hX hn (t_X11_copyMarket hu4) e_X11_keep_25 cw_X11_copyMarket cv_X11_copyMarket lk_11_297 ⟨Nat.le_of_ble_eq_true rfl, Nat.le_of_ble_eq_true rfl⟩ (ci := 11) rfl rfl (Nat.le_of_ble_eq_true rfl) g1 rfl rfl (Nat.le_of_ble_eq_true rfl) ⟨Nat.zero_le _, Nat.zero_le _⟩ ?_
    refine r_aload_n (i := 0) hX e_X11_keep_28 rfl rfl ?_
    obtain ⟨r5, hr5, hf⟩ := bd_s hf
    refine r_getR hX hn e_X11_keep_29 fl_11_52 rfl g1 hr5 ?_
    refine r_iload_n (i := 1) hX e_X11_keep_32 rfl rfl ?_
    refine r_iconst hX e_X11_keep_33 ic_1 ?_
    obtain ⟨g6, hf⟩ := gd_s hf
    obtain ⟨M7, hM7, hf⟩ := nx_s hf
    refine r_zast hX hn hM7 e_X11_keep_34 g6 ?_
    refine r_iconst hX e_X11_keep_35 ic_0 ?_
    exact r_iret hX hR e_X11_keep_36 hf
  · have hf := ite_t hf hc
    refine r_bipush hX e_X11_keep_17 bc_m2 ?_
    exact r_iret hX hR e_X11_keep_19 hf
def f_X11_back (M : Mem) (a0 : Nat) (a1 : Int32) : Option (Mem × Int32) :=
  gd (oB shR a0 11) <| nx (sI M a0 0 0) fun M2 => bd (f_X11_in M2 ((a1 : Int32).toInt64) 0 2) fun v3 => if v3 = 0 then some (M2, (-2)) else bd (gR M2 a0 23) fun r4 => gd (aB shR r4 2 a1) <| if (gI M2 r4 (a1 : Int32).toNatClampNeg) = 0 then some (M2, (-6)) else bd (f_X11_copyMarket M2 a0 (1 + a1) 0) fun u6 => some (u6, 0)
theorem t_X11_back {l : Launch} {M : Mem} {a0 : Nat} {a1 : Int32} {res : Mem × Int32} (hf : f_X11_back M a0 a1 = some res) : Ci l yX11_back cX11_back 2 (some .int) 2 46 shR nR (fun K B => [.ref (B + a0), .int a1]) M res := by
  refine met_i (own := RX11) (lo := fun K B => [some (.ref (B + a0)), some (.int a1)]) (by decide +kernel) rfl shR_ok (fun _ _ => rfl) (fun _ _ => rfl) (fun _ _ => Nat.le_of_ble_eq_true rfl) (fun X hX hn hlx hR => ?_)
  refine r_aload_n (i := 0) hX e_X11_back_0 rfl rfl ?_
  refine r_iconst hX e_X11_back_1 ic_0 ?_
  obtain ⟨g1, hf⟩ := gd_s hf
  obtain ⟨M2, hM2, hf⟩ := nx_s hf
  refine r_putI hX hn hM2 e_X11_back_2 fl_11_122 fp_11_0 rfl g1 ?_
  refine r_iload_n (i := 1) hX e_X11_back_5 rfl rfl ?_
  refine r_i2l hX e_X11_back_6 ?_
  refine r_lconst hX e_X11_back_7 lc_0 ?_
  refine r_ldc2 hX e_X11_back_8 wk_1471 ?_
  obtain ⟨v3, hv3, hf⟩ := bd_s hf
  refine r_csi (As := fun K B => [.long ((a1 : Int32).toInt64), .long (0), .long (2)]) hX hn (t_X11_in hv3) e_X11_back_11 cw_X11_in cv_X11_in lk_11_127 ⟨Nat.le_of_ble_eq_true rfl, Nat.le_of_ble_eq_true rfl⟩ rfl rfl (Nat.le_of_ble_eq_true rfl) ⟨Nat.zero_le _, Nat.zero_le _⟩ ?_
  refine r_if_ne hX e_X11_back_14 (fun hc => ?_) (fun hc => ?_)
  · have hf := ite_f hf hc
    refine r_aload_n (i := 0) hX e_X11_back_20 rfl rfl ?_
    obtain ⟨r4, hr4, hf⟩ := bd_s hf
    refine r_getR hX hn e_X11_back_21 fl_11_52 rfl g1 hr4 ?_
    refine r_iload_n (i := 1) hX e_X11_back_24 rfl rfl ?_
    obtain ⟨g5, hf⟩ := gd_s hf
    refine r_zald hX hn e_X11_back_25 g5 ?_
    refine r_if_ne hX e_X11_back_26 (fun hc => ?_) (fun hc => ?_)
    · have hf := ite_f hf hc
      refine r_aload_n (i := 0) hX e_X11_back_32 rfl rfl ?_
      refine r_iconst hX e_X11_back_33 ic_1 ?_
      refine r_iload_n (i := 1) hX e_X11_back_34 rfl rfl ?_
      refine r_iadd hX e_X11_back_35 ?_
      refine r_iconst hX e_X11_back_36 ic_0 ?_
      obtain ⟨u6, hu6, hf⟩ := bd_s hf
      refine r_cvv (As := fun K B => [.int ((1 + a1)), .int (0)]) hX hn (t_X11_copyMarket hu6) e_X11_back_37 cw_X11_copyMarket cv_X11_copyMarket lk_11_297 ⟨Nat.le_of_ble_eq_true rfl, Nat.le_of_ble_eq_true rfl⟩ (ci := 11) rfl rfl (Nat.le_of_ble_eq_true rfl) g1 rfl rfl (Nat.le_of_ble_eq_true rfl) ⟨Nat.zero_le _, Nat.zero_le _⟩ ?_
      refine r_iconst hX e_X11_back_40 ic_0 ?_
      exact r_iret hX hR e_X11_back_41 hf
    · have hf := ite_t hf hc
      refine r_bipush hX e_X11_back_29 bc_m6 ?_
      exact r_iret hX hR e_X11_back_31 hf
  · have hf := ite_t hf hc
    refine r_bipush hX e_X11_back_17 bc_m2 ?_
    exact r_iret hX hR e_X11_back_19 hf
