def f_X11_market_108  (M : Mem) (x0 : Nat) : Option (Mem × Int32) :=
  gd (oB shR x0 11) <| bd (f_X11_isOver M x0) fun u2 => if (gI u2 x0 12) = 0 then bd (f_X11_copyMarket u2 x0 4 0) fun u3 => bd (gR u3 x0 16) fun r4 => gd (aB shR r4 0 0) <| some (u3, (gI u3 r4 (0 : Int32).toNatClampNeg)) else some (u2, (-4))
def f_X11_market_95 (k13 : Mem → Nat → Option (Mem × Int32)) (M : Mem) (x0 : Nat) : Option (Mem × Int32) :=
  gd (oB shR x0 11) <| bd (gR M x0 16) fun r2 => gd (aB shR r2 0 4) <| nx (sI M r2 (4 : Int32).toNatClampNeg ((gI M r2 (4 : Int32).toNatClampNeg) + 1)) fun M4 => k13 M4 (x0)
def f_X11_market_84 (k13 : Mem → Nat → Option (Mem × Int32)) (M : Mem) (x0 : Nat) : Option (Mem × Int32) :=
  gd (oB shR x0 11) <| bd (f_X11_isGood M x0) fun v2 => if v2 = 0 then f_X11_market_95 k13 M (x0) else bd (f_X11_ends M x0) fun u3 => f_X11_market_95 k13 u3 (x0)
def s_X11_market_13 (k13 : Mem → Nat → Option (Mem × Int32)) (M : Mem) (x0 : Nat) : Option (Mem × Int32) :=
  gd (oB shR x0 11) <| bd (f_X11_isGood M x0) fun v2 => if v2 = 0 then f_X11_market_108 M (x0) else if (gI M x0 8) = 0 then f_X11_market_108 M (x0) else bd (gR M x0 16) fun r3 => gd (aB shR r3 0 4) <| if (gI M r3 (4 : Int32).toNatClampNeg) = 0 then bd (f_X11_asks M x0 187429700) fun u6 => bd (gR u6 x0 17) fun r7 => bd (f_X11_number_ u6 x0 235981828 2 12) fun u8 => gd (aB shR r7 0 24) <| nx (sI u8.1 r7 (24 : Int32).toNatClampNeg u8.2) fun M10 => bd (gR M10 x0 17) fun r11 => bd (f_X11_number_ M10 x0 5173474771 1 60) fun u12 => gd (aB shR r11 0 25) <| nx (sI u12.1 r11 (25 : Int32).toNatClampNeg u12.2) fun M14 => f_X11_market_84 k13 M14 (x0) else bd (f_X11_line M x0) fun u5 => f_X11_market_84 k13 u5 (x0)
def f_X11_market_13  : Nat → Mem → Nat → Option (Mem × Int32)
  | 0 => fun _ _ => none
  | n + 1 => fun y0 y1 => s_X11_market_13  (f_X11_market_13  n) y0 y1
def f_X11_market (M : Mem) (a0 : Nat) : Option (Mem × Int32) :=
  gd (oB shR a0 11) <| nx (sI M a0 0 0) fun M2 => bd (f_X11_clears M2 a0) fun u3 => bd (f_X11_begins u3 a0) fun u4 => f_X11_market_13 FU u4 (a0)
theorem t_X11_market_108 {X : Cx} {res : Mem × Int32}  (hX : OkX X cX11_market RX11 7 157) (hn : Fit X shR nR) (hR : RetI X shR nR .int res)  (M : Mem) (x0 : Nat) (hf : f_X11_market_108  M x0 = some res) : GoN X shR nR 0 0 M 108 [some (.ref (X.B + x0))] [] := by
  refine r_aload_n (i := 0) hX e_X11_market_108 rfl rfl ?_
  obtain ⟨g1, hf⟩ := gd_s hf
  obtain ⟨u2, hu2, hf⟩ := bd_s hf
  refine r_cvv (As := fun K B => []) hX hn (t_X11_isOver hu2) e_X11_market_109 cw_X11_isOver cv_X11_isOver lk_11_294 ⟨Nat.le_of_ble_eq_true rfl, Nat.le_of_ble_eq_true rfl⟩ (ci := 11) rfl rfl (Nat.le_of_ble_eq_true rfl) g1 rfl rfl (Nat.le_of_ble_eq_true rfl) ⟨Nat.zero_le _, Nat.zero_le _⟩ ?_
  refine r_aload_n (i := 0) hX e_X11_market_112 rfl rfl ?_
  refine r_getI hX hn e_X11_market_113 fl_11_174 rfl g1 ?_
  refine r_if_eq hX e_X11_market_116 (fun hc => ?_) (fun hc => ?_)
  · have hf := ite_t hf hc
    refine r_aload_n (i := 0) hX e_X11_market_122 rfl rfl ?_
    refine r_iconst hX e_X11_market_123 ic_4 ?_
    refine r_iconst hX e_X11_market_124 ic_0 ?_
    obtain ⟨u3, hu3, hf⟩ := bd_s hf
    refine r_cvv (As := fun K B => [.int (4), .int (0)]) hX hn (t_X11_copyMarket hu3) e_X11_market_125 cw_X11_copyMarket cv_X11_copyMarket lk_11_297 ⟨Nat.le_of_ble_eq_true rfl, Nat.le_of_ble_eq_true rfl⟩ (ci := 11) rfl rfl (Nat.le_of_ble_eq_true rfl) g1 rfl rfl (Nat.le_of_ble_eq_true rfl) ⟨Nat.zero_le _, Nat.zero_le _⟩ ?_
    refine r_aload_n (i := 0) hX e_X11_market_128 rfl rfl ?_
    obtain ⟨r4, hr4, hf⟩ := bd_s hf
    refine r_getR hX hn e_X11_market_129 fl_11_31 rfl g1 hr4 ?_
    refine r_iconst hX e_X11_market_132 ic_0 ?_
    obtain ⟨g5, hf⟩ := gd_s hf
    refine r_iald hX hn e_X11_market_133 g5 ?_
    exact r_iret hX hR e_X11_market_134 hf
  · have hf := ite_f hf hc
    refine r_bipush hX e_X11_market_119 bc_m4 ?_
    exact r_iret hX hR e_X11_market_121 hf
theorem t_X11_market_95 {X : Cx} {res : Mem × Int32} {k13 : Mem → Nat → Option (Mem × Int32)} (hX : OkX X cX11_market RX11 7 157) (hn : Fit X shR nR) (hR : RetI X shR nR .int res) (hk13 : ∀ M x0, k13 M x0 = some res → GoN X shR nR 0 0 M 13 [some (.ref (X.B + x0))] []) (M : Mem) (x0 : Nat) (hf : f_X11_market_95 k13 M x0 = some res) : GoN X shR nR 0 0 M 95 [some (.ref (X.B + x0))] [] := by
  refine r_aload_n (i := 0) hX e_X11_market_95 rfl rfl ?_
  obtain ⟨g1, hf⟩ := gd_s hf
  obtain ⟨r2, hr2, hf⟩ := bd_s hf
  refine r_getR hX hn e_X11_market_96 fl_11_31 rfl g1 hr2 ?_
  refine r_iconst hX e_X11_market_99 ic_4 ?_
  refine r_dup2_11 hX e_X11_market_100 rfl rfl ?_
  obtain ⟨g3, hf⟩ := gd_s hf
  refine r_iald hX hn e_X11_market_101 g3 ?_
  refine r_iconst hX e_X11_market_102 ic_1 ?_
  refine r_iadd hX e_X11_market_103 ?_
  obtain ⟨M4, hM4, hf⟩ := nx_s hf
  refine r_iast hX hn hM4 e_X11_market_104 g3 ?_
  refine r_goto hX e_X11_market_105 ?_
  exact GoN.weak (hk13 M4 (x0) hf) rfl (sb_s (sb_z _))
theorem t_X11_market_84 {X : Cx} {res : Mem × Int32} {k13 : Mem → Nat → Option (Mem × Int32)} (hX : OkX X cX11_market RX11 7 157) (hn : Fit X shR nR) (hR : RetI X shR nR .int res) (hk13 : ∀ M x0, k13 M x0 = some res → GoN X shR nR 0 0 M 13 [some (.ref (X.B + x0))] []) (M : Mem) (x0 : Nat) (hf : f_X11_market_84 k13 M x0 = some res) : GoN X shR nR 0 0 M 84 [some (.ref (X.B + x0))] [] := by
  refine r_aload_n (i := 0) hX e_X11_market_84 rfl rfl ?_
  obtain ⟨g1, hf⟩ := gd_s hf
  obtain ⟨v2, hv2, hf⟩ := bd_s hf
  refine r_cvi (As := fun K B => []) hX hn (t_X11_isGood hv2) e_X11_market_85 cw_X11_isGood cv_X11_isGood lk_11_278 ⟨Nat.le_of_ble_eq_true rfl, Nat.le_of_ble_eq_true rfl⟩ (ci := 11) rfl rfl (Nat.le_of_ble_eq_true rfl) g1 rfl rfl (Nat.le_of_ble_eq_true rfl) ⟨Nat.zero_le _, Nat.zero_le _⟩ ?_
  refine r_if_eq hX e_X11_market_88 (fun hc => ?_) (fun hc => ?_)
  · have hf := ite_t hf hc
    exact GoN.weak (t_X11_market_95 hX hn hR hk13 M (x0) hf) rfl (sb_s (sb_z _))
  · have hf := ite_f hf hc
    refine r_aload_n (i := 0) hX e_X11_market_91 rfl rfl ?_
    obtain ⟨u3, hu3, hf⟩ := bd_s hf
    refine r_cvv (As := fun K B => []) hX hn (t_X11_ends hu3) e_X11_market_92 cw_X11_ends cv_X11_ends lk_11_291 ⟨Nat.le_of_ble_eq_true rfl, Nat.le_of_ble_eq_true rfl⟩ (ci := 11) rfl rfl (Nat.le_of_ble_eq_true rfl) g1 rfl rfl (Nat.le_of_ble_eq_true rfl) ⟨Nat.zero_le _, Nat.zero_le _⟩ ?_
    exact GoN.weak (t_X11_market_95 hX hn hR hk13 u3 (x0) hf) rfl (sb_s (sb_z _))
theorem t_s_X11_market_13 {X : Cx} {res : Mem × Int32} {k13 : Mem → Nat → Option (Mem × Int32)} (hX : OkX X cX11_market RX11 7 157) (hn : Fit X shR nR) (hR : RetI X shR nR .int res) (hk13 : ∀ M x0, k13 M x0 = some res → GoN X shR nR 0 0 M 13 [some (.ref (X.B + x0))] []) (M : Mem) (x0 : Nat) (hf : s_X11_market_13 k13 M x0 = some res) : GoN X shR nR 0 0 M 13 [some (.ref (X.B + x0))] [] := by
  refine r_aload_n (i := 0) hX e_X11_market_13 rfl rfl ?_
  obtain ⟨g1, hf⟩ := gd_s hf
  obtain ⟨v2, hv2, hf⟩ := bd_s hf
  refine r_cvi (As := fun K B => []) hX hn (t_X11_isGood hv2) e_X11_market_14 cw_X11_isGood cv_X11_isGood lk_11_278 ⟨Nat.le_of_ble_eq_true rfl, Nat.le_of_ble_eq_true rfl⟩ (ci := 11) rfl rfl (Nat.le_of_ble_eq_true rfl) g1 rfl rfl (Nat.le_of_ble_eq_true rfl) ⟨Nat.zero_le _, Nat.zero_le _⟩ ?_
  refine r_if_eq hX e_X11_market_17 (fun hc => ?_) (fun hc => ?_)
  · have hf := ite_t hf hc
    exact GoN.weak (t_X11_market_108 hX hn hR M (x0) hf) rfl (sb_s (sb_z _))
  · have hf := ite_f hf hc
    refine r_aload_n (i := 0) hX e_X11_market_20 rfl rfl ?_
    refine r_getI hX hn e_X11_market_21 fl_11_163 rfl g1 ?_
    refine r_if_eq hX e_X11_market_24 (fun hc => ?_) (fun hc => ?_)
    · have hf := ite_t hf hc
      exact GoN.weak (t_X11_market_108 hX hn hR M (x0) hf) rfl (sb_s (sb_z _))
    · have hf := ite_f hf hc
      refine r_aload_n (i := 0) hX e_X11_market_27 rfl rfl ?_
      obtain ⟨r3, hr3, hf⟩ := bd_s hf
      refine r_getR hX hn e_X11_market_28 fl_11_31 rfl g1 hr3 ?_
      refine r_iconst hX e_X11_market_31 ic_4 ?_
      obtain ⟨g4, hf⟩ := gd_s hf
      refine r_iald hX hn e_X11_market_32 g4 ?_
      refine r_if_ne hX e_X11_market_33 (fun hc => ?_) (fun hc => ?_)
      · have hf := ite_f hf hc
        refine r_aload_n (i := 0) hX e_X11_market_80 rfl rfl ?_
        obtain ⟨u5, hu5, hf⟩ := bd_s hf
        refine r_cvv (As := fun K B => []) hX hn (t_X11_line hu5) e_X11_market_81 cw_X11_line cv_X11_line lk_11_288 ⟨Nat.le_of_ble_eq_true rfl, Nat.le_of_ble_eq_true rfl⟩ (ci := 11) rfl rfl (Nat.le_of_ble_eq_true rfl) g1 rfl rfl (Nat.le_of_ble_eq_true rfl) ⟨Nat.zero_le _, Nat.zero_le _⟩ ?_
        exact GoN.weak (t_X11_market_84 hX hn hR hk13 u5 (x0) hf) rfl (sb_s (sb_z _))
      · have hf := ite_t hf hc
        refine r_aload_n (i := 0) hX e_X11_market_36 rfl rfl ?_
        refine r_ldc2 hX e_X11_market_37 wk_1353 ?_
        obtain ⟨u6, hu6, hf⟩ := bd_s hf
        refine r_cvv (As := fun K B => [.long (187429700)]) hX hn (t_X11_asks hu6) e_X11_market_40 cw_X11_asks cv_X11_asks lk_11_193 ⟨Nat.le_of_ble_eq_true rfl, Nat.le_of_ble_eq_true rfl⟩ (ci := 11) rfl rfl (Nat.le_of_ble_eq_true rfl) g1 rfl rfl (Nat.le_of_ble_eq_true rfl) ⟨Nat.zero_le _, Nat.zero_le _⟩ ?_
        refine r_aload_n (i := 0) hX e_X11_market_43 rfl rfl ?_
        obtain ⟨r7, hr7, hf⟩ := bd_s hf
        refine r_getR hX hn e_X11_market_44 fl_11_34 rfl g1 hr7 ?_
        refine r_bipush hX e_X11_market_47 bc_24 ?_
        refine r_aload_n (i := 0) hX e_X11_market_49 rfl rfl ?_
        refine r_ldc2 hX e_X11_market_50 wk_1370 ?_
        refine r_iconst hX e_X11_market_53 ic_2 ?_
        refine r_bipush hX e_X11_market_54 bc_12 ?_
        obtain ⟨u8, hu8, hf⟩ := bd_s hf
        refine r_cvi (As := fun K B => [.long (235981828), .int (2), .int (12)]) hX hn (t_X11_number_ hu8) e_X11_market_56 cw_X11_number_ cv_X11_number_ lk_11_210 ⟨Nat.le_of_ble_eq_true rfl, Nat.le_of_ble_eq_true rfl⟩ (ci := 11) rfl rfl (Nat.le_of_ble_eq_true rfl) g1 rfl rfl (Nat.le_of_ble_eq_true rfl) ⟨Nat.zero_le _, Nat.zero_le _⟩ ?_
        obtain ⟨g9, hf⟩ := gd_s hf
        obtain ⟨M10, hM10, hf⟩ := nx_s hf
        refine r_iast hX hn hM10 e_X11_market_59 g9 ?_
        refine r_aload_n (i := 0) hX e_X11_market_60 rfl rfl ?_
        obtain ⟨r11, hr11, hf⟩ := bd_s hf
        refine r_getR hX hn e_X11_market_61 fl_11_34 rfl g1 hr11 ?_
        refine r_bipush hX e_X11_market_64 bc_25 ?_
        refine r_aload_n (i := 0) hX e_X11_market_66 rfl rfl ?_
        refine r_ldc2 hX e_X11_market_67 wk_1379 ?_
        refine r_iconst hX e_X11_market_70 ic_1 ?_
        refine r_bipush hX e_X11_market_71 bc_60 ?_
        obtain ⟨u12, hu12, hf⟩ := bd_s hf
        refine r_cvi (As := fun K B => [.long (5173474771), .int (1), .int (60)]) hX hn (t_X11_number_ hu12) e_X11_market_73 cw_X11_number_ cv_X11_number_ lk_11_210 ⟨Nat.le_of_ble_eq_true rfl, Nat.le_of_ble_eq_true rfl⟩ (ci := 11) rfl rfl (Nat.le_of_ble_eq_true rfl) g1 rfl rfl (Nat.le_of_ble_eq_true rfl) ⟨Nat.zero_le _, Nat.zero_le _⟩ ?_
        obtain ⟨g13, hf⟩ := gd_s hf
        obtain ⟨M14, hM14, hf⟩ := nx_s hf
        refine r_iast hX hn hM14 e_X11_market_76 g13 ?_
        refine r_goto hX e_X11_market_77 ?_
        exact GoN.weak (t_X11_market_84 hX hn hR hk13 M14 (x0) hf) rfl (sb_s (sb_z _))
theorem t_X11_market_13 {X : Cx} {res : Mem × Int32}  (hX : OkX X cX11_market RX11 7 157) (hn : Fit X shR nR) (hR : RetI X shR nR .int res)  : ∀ (n : Nat) (M : Mem) (x0 : Nat),  f_X11_market_13  n M x0 = some res → GoN X shR nR 0 0 M 13 [some (.ref (X.B + x0))] [] := by
  intro n
  induction n with
  | zero => intro M x0 hf; cases hf
  | succ n ih => intro M x0 hf; exact t_s_X11_market_13 hX hn hR  ih M x0 hf
theorem t_X11_market {l : Launch} {M : Mem} {a0 : Nat} {res : Mem × Int32} (hf : f_X11_market M a0 = some res) : Ci l yX11_market cX11_market 1 (some .int) 7 157 shR nR (fun K B => [.ref (B + a0)]) M res := by
  refine met_i (own := RX11) (lo := fun K B => [some (.ref (B + a0))]) (by decide +kernel) rfl shR_ok (fun _ _ => rfl) (fun _ _ => rfl) (fun _ _ => Nat.le_of_ble_eq_true rfl) (fun X hX hn hlx hR => ?_)
  refine r_aload_n (i := 0) hX e_X11_market_0 rfl rfl ?_
  refine r_iconst hX e_X11_market_1 ic_0 ?_
  obtain ⟨g1, hf⟩ := gd_s hf
  obtain ⟨M2, hM2, hf⟩ := nx_s hf
  refine r_putI hX hn hM2 e_X11_market_2 fl_11_122 fp_11_0 rfl g1 ?_
  refine r_aload_n (i := 0) hX e_X11_market_5 rfl rfl ?_
  obtain ⟨u3, hu3, hf⟩ := bd_s hf
  refine r_cvv (As := fun K B => []) hX hn (t_X11_clears hu3) e_X11_market_6 cw_X11_clears cv_X11_clears lk_11_272 ⟨Nat.le_of_ble_eq_true rfl, Nat.le_of_ble_eq_true rfl⟩ (ci := 11) rfl rfl (Nat.le_of_ble_eq_true rfl) g1 rfl rfl (Nat.le_of_ble_eq_true rfl) ⟨Nat.zero_le _, Nat.zero_le _⟩ ?_
  refine r_aload_n (i := 0) hX e_X11_market_9 rfl rfl ?_
  obtain ⟨u4, hu4, hf⟩ := bd_s hf
  refine r_cvv (As := fun K B => []) hX hn (t_X11_begins hu4) e_X11_market_10 cw_X11_begins cv_X11_begins lk_11_275 ⟨Nat.le_of_ble_eq_true rfl, Nat.le_of_ble_eq_true rfl⟩ (ci := 11) rfl rfl (Nat.le_of_ble_eq_true rfl) g1 rfl rfl (Nat.le_of_ble_eq_true rfl) ⟨Nat.zero_le _, Nat.zero_le _⟩ ?_
  exact GoN.weak (t_X11_market_13 hX hn hR FU u4 (a0) hf) rfl (sb_s (sb_z _))
def f_X11_isMarket (M : Mem) (a0 : Nat) : Option (Int32) :=
  gd (oB shR a0 11) <| bd (gR M a0 16) fun r2 => gd (aB shR r2 0 0) <| if (gI M r2 (0 : Int32).toNatClampNeg) ≤ 0 then some 0 else some 1
theorem t_X11_isMarket {l : Launch} {M : Mem} {a0 : Nat} {res : Int32} (hf : f_X11_isMarket M a0 = some res) : Ci l yX11_isMarket cX11_isMarket 1 (some .boolean) 0 0 shR nR (fun K B => [.ref (B + a0)]) M (M, res) := by
  refine met_i (own := RX11) (lo := fun K B => [some (.ref (B + a0))]) (by decide +kernel) rfl shR_ok (fun _ _ => rfl) (fun _ _ => rfl) (fun _ _ => Nat.le_of_ble_eq_true rfl) (fun X hX hn hlx hR => ?_)
  refine r_aload_n (i := 0) hX e_X11_isMarket_0 rfl rfl ?_
  obtain ⟨g1, hf⟩ := gd_s hf
  obtain ⟨r2, hr2, hf⟩ := bd_s hf
  refine r_getR hX hn e_X11_isMarket_1 fl_11_31 rfl g1 hr2 ?_
  refine r_iconst hX e_X11_isMarket_4 ic_0 ?_
  obtain ⟨g3, hf⟩ := gd_s hf
  refine r_iald hX hn e_X11_isMarket_5 g3 ?_
  refine r_if_le hX e_X11_isMarket_6 (fun hc => ?_) (fun hc => ?_)
  · have hf := ite_t hf hc
    refine r_iconst hX e_X11_isMarket_13 ic_0 ?_
    exact r_zret hX hR rfl e_X11_isMarket_14 (ro_s hf)
  · have hf := ite_f hf hc
    refine r_iconst hX e_X11_isMarket_9 ic_1 ?_
    refine r_goto hX e_X11_isMarket_10 ?_
    exact r_zret hX hR rfl e_X11_isMarket_14 (ro_s hf)
def f_X11_isPlace (M : Mem) (a0 : Nat) (a1 : Int32) : Option (Int32) :=
  gd (oB shR a0 11) <| bd (gR M a0 17) fun r2 => gd (aB shR r2 0 0) <| nx ((((gI M r2 (0 : Int32).toNatClampNeg) - 1) : Int32).toInt64) fun v4 => bd (f_X11_in M ((a1 : Int32).toInt64) 0 v4) fun v5 => gd (isZ v5) <| some v5
theorem t_X11_isPlace {l : Launch} {M : Mem} {a0 : Nat} {a1 : Int32} {res : Int32} (hf : f_X11_isPlace M a0 a1 = some res) : Ci l yX11_isPlace cX11_isPlace 2 (some .boolean) 1 25 shR nR (fun K B => [.ref (B + a0), .int a1]) M (M, res) := by
  refine met_i (own := RX11) (lo := fun K B => [some (.ref (B + a0)), some (.int a1)]) (by decide +kernel) rfl shR_ok (fun _ _ => rfl) (fun _ _ => rfl) (fun _ _ => Nat.le_of_ble_eq_true rfl) (fun X hX hn hlx hR => ?_)
  refine r_iload_n (i := 1) hX e_X11_isPlace_0 rfl rfl ?_
  refine r_i2l hX e_X11_isPlace_1 ?_
  refine r_lconst hX e_X11_isPlace_2 lc_0 ?_
  refine r_aload_n (i := 0) hX e_X11_isPlace_3 rfl rfl ?_
  obtain ⟨g1, hf⟩ := gd_s hf
  obtain ⟨r2, hr2, hf⟩ := bd_s hf
  refine r_getR hX hn e_X11_isPlace_4 fl_11_34 rfl g1 hr2 ?_
  refine r_iconst hX e_X11_isPlace_7 ic_0 ?_
  obtain ⟨g3, hf⟩ := gd_s hf
  refine r_iald hX hn e_X11_isPlace_8 g3 ?_
  refine r_iconst hX e_X11_isPlace_9 ic_1 ?_
  refine r_isub hX e_X11_isPlace_10 ?_
  refine r_i2l hX e_X11_isPlace_11 ?_
  obtain ⟨v4, hv4, hf⟩ := nx_s hf
  refine top_l hv4 ?_
  obtain ⟨v5, hv5, hf⟩ := bd_s hf
  refine r_csi (As := fun K B => [.long ((a1 : Int32).toInt64), .long (0), .long (v4)]) hX hn (t_X11_in hv5) e_X11_isPlace_12 cw_X11_in cv_X11_in lk_11_127 ⟨Nat.le_of_ble_eq_true rfl, Nat.le_of_ble_eq_true rfl⟩ rfl rfl (Nat.le_of_ble_eq_true rfl) ⟨Nat.zero_le _, Nat.zero_le _⟩ ?_
  obtain ⟨g6, hf⟩ := gd_s hf
  exact r_zret hX hR g6 e_X11_isPlace_15 (ro_s hf)
def f_X11_isMinute (M : Mem) (a0 : Nat) (a1 : Int32) : Option (Int32) :=
  gd (oB shR a0 11) <| bd (gR M a0 17) fun r2 => gd (aB shR r2 0 1) <| nx ((((gI M r2 (1 : Int32).toNatClampNeg) - 1) : Int32).toInt64) fun v4 => bd (f_X11_in M ((a1 : Int32).toInt64) 0 v4) fun v5 => gd (isZ v5) <| some v5
theorem t_X11_isMinute {l : Launch} {M : Mem} {a0 : Nat} {a1 : Int32} {res : Int32} (hf : f_X11_isMinute M a0 a1 = some res) : Ci l yX11_isMinute cX11_isMinute 2 (some .boolean) 1 25 shR nR (fun K B => [.ref (B + a0), .int a1]) M (M, res) := by
  refine met_i (own := RX11) (lo := fun K B => [some (.ref (B + a0)), some (.int a1)]) (by decide +kernel) rfl shR_ok (fun _ _ => rfl) (fun _ _ => rfl) (fun _ _ => Nat.le_of_ble_eq_true rfl) (fun X hX hn hlx hR => ?_)
  refine r_iload_n (i := 1) hX e_X11_isMinute_0 rfl rfl ?_
  refine r_i2l hX e_X11_isMinute_1 ?_
  refine r_lconst hX e_X11_isMinute_2 lc_0 ?_
  refine r_aload_n (i := 0) hX e_X11_isMinute_3 rfl rfl ?_
  obtain ⟨g1, hf⟩ := gd_s hf
  obtain ⟨r2, hr2, hf⟩ := bd_s hf
  refine r_getR hX hn e_X11_isMinute_4 fl_11_34 rfl g1 hr2 ?_
  refine r_iconst hX e_X11_isMinute_7 ic_1 ?_
  obtain ⟨g3, hf⟩ := gd_s hf
  refine r_iald hX hn e_X11_isMinute_8 g3 ?_
  refine r_iconst hX e_X11_isMinute_9 ic_1 ?_
  refine r_isub hX e_X11_isMinute_10 ?_
  refine r_i2l hX e_X11_isMinute_11 ?_
  obtain ⟨v4, hv4, hf⟩ := nx_s hf
  refine top_l hv4 ?_
  obtain ⟨v5, hv5, hf⟩ := bd_s hf
  refine r_csi (As := fun K B => [.long ((a1 : Int32).toInt64), .long (0), .long (v4)]) hX hn (t_X11_in hv5) e_X11_isMinute_12 cw_X11_in cv_X11_in lk_11_127 ⟨Nat.le_of_ble_eq_true rfl, Nat.le_of_ble_eq_true rfl⟩ rfl rfl (Nat.le_of_ble_eq_true rfl) ⟨Nat.zero_le _, Nat.zero_le _⟩ ?_
  obtain ⟨g6, hf⟩ := gd_s hf
  exact r_zret hX hR g6 e_X11_isMinute_15 (ro_s hf)
def f_X11_isRing (M : Mem) (a0 : Nat) (a1 : Int32) : Option (Int32) :=
  gd (oB shR a0 11) <| bd (gR M a0 17) fun r2 => gd (aB shR r2 0 2) <| nx ((((gI M r2 (2 : Int32).toNatClampNeg) - 1) : Int32).toInt64) fun v4 => bd (f_X11_in M ((a1 : Int32).toInt64) 0 v4) fun v5 => gd (isZ v5) <| some v5
theorem t_X11_isRing {l : Launch} {M : Mem} {a0 : Nat} {a1 : Int32} {res : Int32} (hf : f_X11_isRing M a0 a1 = some res) : Ci l yX11_isRing cX11_isRing 2 (some .boolean) 1 25 shR nR (fun K B => [.ref (B + a0), .int a1]) M (M, res) := by
  refine met_i (own := RX11) (lo := fun K B => [some (.ref (B + a0)), some (.int a1)]) (by decide +kernel) rfl shR_ok (fun _ _ => rfl) (fun _ _ => rfl) (fun _ _ => Nat.le_of_ble_eq_true rfl) (fun X hX hn hlx hR => ?_)
  refine r_iload_n (i := 1) hX e_X11_isRing_0 rfl rfl ?_
  refine r_i2l hX e_X11_isRing_1 ?_
  refine r_lconst hX e_X11_isRing_2 lc_0 ?_
  refine r_aload_n (i := 0) hX e_X11_isRing_3 rfl rfl ?_
  obtain ⟨g1, hf⟩ := gd_s hf
  obtain ⟨r2, hr2, hf⟩ := bd_s hf
  refine r_getR hX hn e_X11_isRing_4 fl_11_34 rfl g1 hr2 ?_
  refine r_iconst hX e_X11_isRing_7 ic_2 ?_
  obtain ⟨g3, hf⟩ := gd_s hf
  refine r_iald hX hn e_X11_isRing_8 g3 ?_
  refine r_iconst hX e_X11_isRing_9 ic_1 ?_
  refine r_isub hX e_X11_isRing_10 ?_
  refine r_i2l hX e_X11_isRing_11 ?_
  obtain ⟨v4, hv4, hf⟩ := nx_s hf
  refine top_l hv4 ?_
  obtain ⟨v5, hv5, hf⟩ := bd_s hf
  refine r_csi (As := fun K B => [.long ((a1 : Int32).toInt64), .long (0), .long (v4)]) hX hn (t_X11_in hv5) e_X11_isRing_12 cw_X11_in cv_X11_in lk_11_127 ⟨Nat.le_of_ble_eq_true rfl, Nat.le_of_ble_eq_true rfl⟩ rfl rfl (Nat.le_of_ble_eq_true rfl) ⟨Nat.zero_le _, Nat.zero_le _⟩ ?_
  obtain ⟨g6, hf⟩ := gd_s hf
  exact r_zret hX hR g6 e_X11_isRing_15 (ro_s hf)
def f_X11_isStall (M : Mem) (a0 : Nat) (a1 : Int32) : Option (Int32) :=
  gd (oB shR a0 11) <| bd (gR M a0 17) fun r2 => gd (aB shR r2 0 3) <| nx ((((gI M r2 (3 : Int32).toNatClampNeg) - 1) : Int32).toInt64) fun v4 => bd (f_X11_in M ((a1 : Int32).toInt64) 0 v4) fun v5 => gd (isZ v5) <| some v5
theorem t_X11_isStall {l : Launch} {M : Mem} {a0 : Nat} {a1 : Int32} {res : Int32} (hf : f_X11_isStall M a0 a1 = some res) : Ci l yX11_isStall cX11_isStall 2 (some .boolean) 1 25 shR nR (fun K B => [.ref (B + a0), .int a1]) M (M, res) := by
  refine met_i (own := RX11) (lo := fun K B => [some (.ref (B + a0)), some (.int a1)]) (by decide +kernel) rfl shR_ok (fun _ _ => rfl) (fun _ _ => rfl) (fun _ _ => Nat.le_of_ble_eq_true rfl) (fun X hX hn hlx hR => ?_)
  refine r_iload_n (i := 1) hX e_X11_isStall_0 rfl rfl ?_
  refine r_i2l hX e_X11_isStall_1 ?_
  refine r_lconst hX e_X11_isStall_2 lc_0 ?_
  refine r_aload_n (i := 0) hX e_X11_isStall_3 rfl rfl ?_
  obtain ⟨g1, hf⟩ := gd_s hf
  obtain ⟨r2, hr2, hf⟩ := bd_s hf
  refine r_getR hX hn e_X11_isStall_4 fl_11_34 rfl g1 hr2 ?_
  refine r_iconst hX e_X11_isStall_7 ic_3 ?_
  obtain ⟨g3, hf⟩ := gd_s hf
  refine r_iald hX hn e_X11_isStall_8 g3 ?_
  refine r_iconst hX e_X11_isStall_9 ic_1 ?_
  refine r_isub hX e_X11_isStall_10 ?_
  refine r_i2l hX e_X11_isStall_11 ?_
  obtain ⟨v4, hv4, hf⟩ := nx_s hf
  refine top_l hv4 ?_
  obtain ⟨v5, hv5, hf⟩ := bd_s hf
  refine r_csi (As := fun K B => [.long ((a1 : Int32).toInt64), .long (0), .long (v4)]) hX hn (t_X11_in hv5) e_X11_isStall_12 cw_X11_in cv_X11_in lk_11_127 ⟨Nat.le_of_ble_eq_true rfl, Nat.le_of_ble_eq_true rfl⟩ rfl rfl (Nat.le_of_ble_eq_true rfl) ⟨Nat.zero_le _, Nat.zero_le _⟩ ?_
  obtain ⟨g6, hf⟩ := gd_s hf
  exact r_zret hX hR g6 e_X11_isStall_15 (ro_s hf)
def f_X11_isBuyer (M : Mem) (a0 : Nat) (a1 : Int32) : Option (Int32) :=
  gd (oB shR a0 11) <| bd (gR M a0 17) fun r2 => gd (aB shR r2 0 4) <| nx ((((gI M r2 (4 : Int32).toNatClampNeg) - 1) : Int32).toInt64) fun v4 => bd (f_X11_in M ((a1 : Int32).toInt64) 0 v4) fun v5 => gd (isZ v5) <| some v5
theorem t_X11_isBuyer {l : Launch} {M : Mem} {a0 : Nat} {a1 : Int32} {res : Int32} (hf : f_X11_isBuyer M a0 a1 = some res) : Ci l yX11_isBuyer cX11_isBuyer 2 (some .boolean) 1 25 shR nR (fun K B => [.ref (B + a0), .int a1]) M (M, res) := by
  refine met_i (own := RX11) (lo := fun K B => [some (.ref (B + a0)), some (.int a1)]) (by decide +kernel) rfl shR_ok (fun _ _ => rfl) (fun _ _ => rfl) (fun _ _ => Nat.le_of_ble_eq_true rfl) (fun X hX hn hlx hR => ?_)
  refine r_iload_n (i := 1) hX e_X11_isBuyer_0 rfl rfl ?_
  refine r_i2l hX e_X11_isBuyer_1 ?_
  refine r_lconst hX e_X11_isBuyer_2 lc_0 ?_
  refine r_aload_n (i := 0) hX e_X11_isBuyer_3 rfl rfl ?_
  obtain ⟨g1, hf⟩ := gd_s hf
  obtain ⟨r2, hr2, hf⟩ := bd_s hf
  refine r_getR hX hn e_X11_isBuyer_4 fl_11_34 rfl g1 hr2 ?_
  refine r_iconst hX e_X11_isBuyer_7 ic_4 ?_
  obtain ⟨g3, hf⟩ := gd_s hf
  refine r_iald hX hn e_X11_isBuyer_8 g3 ?_
  refine r_iconst hX e_X11_isBuyer_9 ic_1 ?_
  refine r_isub hX e_X11_isBuyer_10 ?_
  refine r_i2l hX e_X11_isBuyer_11 ?_
  obtain ⟨v4, hv4, hf⟩ := nx_s hf
  refine top_l hv4 ?_
  obtain ⟨v5, hv5, hf⟩ := bd_s hf
  refine r_csi (As := fun K B => [.long ((a1 : Int32).toInt64), .long (0), .long (v4)]) hX hn (t_X11_in hv5) e_X11_isBuyer_12 cw_X11_in cv_X11_in lk_11_127 ⟨Nat.le_of_ble_eq_true rfl, Nat.le_of_ble_eq_true rfl⟩ rfl rfl (Nat.le_of_ble_eq_true rfl) ⟨Nat.zero_le _, Nat.zero_le _⟩ ?_
  obtain ⟨g6, hf⟩ := gd_s hf
  exact r_zret hX hR g6 e_X11_isBuyer_15 (ro_s hf)
def f_X11_of (M : Mem) (a0 : Nat) (a1 : Int32) (a2 : Int32) : Option (Int32) :=
  gd (oB shR a0 11) <| bd (gR M a0 19) fun r2 => gd (aB shR r2 0 ((7 * a1) + a2)) <| nx ((gI M r2 (((7 * a1) + a2) : Int32).toNatClampNeg)) fun v4 => some v4
theorem t_X11_of {l : Launch} {M : Mem} {a0 : Nat} {a1 a2 : Int32} {res : Int32} (hf : f_X11_of M a0 a1 a2 = some res) : Ci l yX11_of cX11_of 3 (some .int) 0 0 shR nR (fun K B => [.ref (B + a0), .int a1, .int a2]) M (M, res) := by
  refine met_i (own := RX11) (lo := fun K B => [some (.ref (B + a0)), some (.int a1), some (.int a2)]) (by decide +kernel) rfl shR_ok (fun _ _ => rfl) (fun _ _ => rfl) (fun _ _ => Nat.le_of_ble_eq_true rfl) (fun X hX hn hlx hR => ?_)
  refine r_aload_n (i := 0) hX e_X11_of_0 rfl rfl ?_
  obtain ⟨g1, hf⟩ := gd_s hf
  obtain ⟨r2, hr2, hf⟩ := bd_s hf
  refine r_getR hX hn e_X11_of_1 fl_11_40 rfl g1 hr2 ?_
  refine r_bipush hX e_X11_of_4 bc_7 ?_
  refine r_iload_n (i := 1) hX e_X11_of_6 rfl rfl ?_
  refine r_imul hX e_X11_of_7 ?_
  refine r_iload_n (i := 2) hX e_X11_of_8 rfl rfl ?_
  refine r_iadd hX e_X11_of_9 ?_
  obtain ⟨g3, hf⟩ := gd_s hf
  refine r_iald hX hn e_X11_of_10 g3 ?_
  obtain ⟨v4, hv4, hf⟩ := nx_s hf
  refine top_i hv4 ?_
  exact r_iret hX hR e_X11_of_11 (ro_s hf)
def f_X11_stall (M : Mem) (a0 : Nat) (a1 : Int32) (a2 : Int32) : Option (Mem × Int32) :=
  gd (oB shR a0 11) <| nx (sI M a0 0 0) fun M2 => bd (f_X11_isStall M2 a0 a1) fun v3 => if v3 = 0 then some (M2, (-2)) else bd (f_X11_in M2 ((a2 : Int32).toInt64) 0 6) fun v4 => if v4 = 0 then some (M2, (-2)) else bd (f_X11_of M2 a0 a1 a2) fun v5 => some (M2, v5)
theorem t_X11_stall {l : Launch} {M : Mem} {a0 : Nat} {a1 a2 : Int32} {res : Mem × Int32} (hf : f_X11_stall M a0 a1 a2 = some res) : Ci l yX11_stall cX11_stall 3 (some .int) 2 46 shR nR (fun K B => [.ref (B + a0), .int a1, .int a2]) M res := by
  refine met_i (own := RX11) (lo := fun K B => [some (.ref (B + a0)), some (.int a1), some (.int a2)]) (by decide +kernel) rfl shR_ok (fun _ _ => rfl) (fun _ _ => rfl) (fun _ _ => Nat.le_of_ble_eq_true rfl) (fun X hX hn hlx hR => ?_)
  refine r_aload_n (i := 0) hX e_X11_stall_0 rfl rfl ?_
  refine r_iconst hX e_X11_stall_1 ic_0 ?_
  obtain ⟨g1, hf⟩ := gd_s hf
  obtain ⟨M2, hM2, hf⟩ := nx_s hf
  refine r_putI hX hn hM2 e_X11_stall_2 fl_11_122 fp_11_0 rfl g1 ?_
  refine r_aload_n (i := 0) hX e_X11_stall_5 rfl rfl ?_
  refine r_iload_n (i := 1) hX e_X11_stall_6 rfl rfl ?_
  obtain ⟨v3, hv3, hf⟩ := bd_s hf
  refine r_cvi (As := fun K B => [.int (a1)]) hX hn (t_X11_isStall hv3) e_X11_stall_7 cw_X11_isStall cv_X11_isStall lk_11_305 ⟨Nat.le_of_ble_eq_true rfl, Nat.le_of_ble_eq_true rfl⟩ (ci := 11) rfl rfl (Nat.le_of_ble_eq_true rfl) g1 rfl rfl (Nat.le_of_ble_eq_true rfl) ⟨Nat.zero_le _, Nat.zero_le _⟩ ?_
  refine r_if_eq hX e_X11_stall_10 (fun hc => ?_) (fun hc => ?_)
  · have hf := ite_t hf hc
    refine r_bipush hX e_X11_stall_34 bc_m2 ?_
    exact r_iret hX hR e_X11_stall_36 hf
  · have hf := ite_f hf hc
    refine r_iload_n (i := 2) hX e_X11_stall_13 rfl rfl ?_
    refine r_i2l hX e_X11_stall_14 ?_
    refine r_lconst hX e_X11_stall_15 lc_0 ?_
    refine r_ldc2 hX e_X11_stall_16 wk_1454 ?_
    obtain ⟨v4, hv4, hf⟩ := bd_s hf
    refine r_csi (As := fun K B => [.long ((a2 : Int32).toInt64), .long (0), .long (6)]) hX hn (t_X11_in hv4) e_X11_stall_19 cw_X11_in cv_X11_in lk_11_127 ⟨Nat.le_of_ble_eq_true rfl, Nat.le_of_ble_eq_true rfl⟩ rfl rfl (Nat.le_of_ble_eq_true rfl) ⟨Nat.zero_le _, Nat.zero_le _⟩ ?_
    refine r_if_eq hX e_X11_stall_22 (fun hc => ?_) (fun hc => ?_)
    · have hf := ite_t hf hc
      refine r_bipush hX e_X11_stall_34 bc_m2 ?_
      exact r_iret hX hR e_X11_stall_36 hf
    · have hf := ite_f hf hc
      refine r_aload_n (i := 0) hX e_X11_stall_25 rfl rfl ?_
      refine r_iload_n (i := 1) hX e_X11_stall_26 rfl rfl ?_
      refine r_iload_n (i := 2) hX e_X11_stall_27 rfl rfl ?_
      obtain ⟨v5, hv5, hf⟩ := bd_s hf
      refine r_cvi (As := fun K B => [.int (a1), .int (a2)]) hX hn (t_X11_of hv5) e_X11_stall_28 cw_X11_of cv_X11_of lk_11_310 ⟨Nat.le_of_ble_eq_true rfl, Nat.le_of_ble_eq_true rfl⟩ (ci := 11) rfl rfl (Nat.le_of_ble_eq_true rfl) g1 rfl rfl (Nat.le_of_ble_eq_true rfl) ⟨Nat.zero_le _, Nat.zero_le _⟩ ?_
      refine r_goto hX e_X11_stall_31 ?_
      exact r_iret hX hR e_X11_stall_36 hf
def f_X11_buyer (M : Mem) (a0 : Nat) (a1 : Int32) (a2 : Int32) : Option (Mem × Int32) :=
  gd (oB shR a0 11) <| nx (sI M a0 0 0) fun M2 => bd (f_X11_isBuyer M2 a0 a1) fun v3 => if v3 = 0 then some (M2, (-2)) else bd (f_X11_in M2 ((a2 : Int32).toInt64) 0 3) fun v4 => if v4 = 0 then some (M2, (-2)) else bd (gR M2 a0 20) fun r5 => gd (aB shR r5 0 ((4 * a1) + a2)) <| nx ((gI M2 r5 (((4 * a1) + a2) : Int32).toNatClampNeg)) fun v7 => some (M2, v7)
theorem t_X11_buyer {l : Launch} {M : Mem} {a0 : Nat} {a1 a2 : Int32} {res : Mem × Int32} (hf : f_X11_buyer M a0 a1 a2 = some res) : Ci l yX11_buyer cX11_buyer 3 (some .int) 2 46 shR nR (fun K B => [.ref (B + a0), .int a1, .int a2]) M res := by
  refine met_i (own := RX11) (lo := fun K B => [some (.ref (B + a0)), some (.int a1), some (.int a2)]) (by decide +kernel) rfl shR_ok (fun _ _ => rfl) (fun _ _ => rfl) (fun _ _ => Nat.le_of_ble_eq_true rfl) (fun X hX hn hlx hR => ?_)
  refine r_aload_n (i := 0) hX e_X11_buyer_0 rfl rfl ?_
  refine r_iconst hX e_X11_buyer_1 ic_0 ?_
  obtain ⟨g1, hf⟩ := gd_s hf
  obtain ⟨M2, hM2, hf⟩ := nx_s hf
  refine r_putI hX hn hM2 e_X11_buyer_2 fl_11_122 fp_11_0 rfl g1 ?_
  refine r_aload_n (i := 0) hX e_X11_buyer_5 rfl rfl ?_
  refine r_iload_n (i := 1) hX e_X11_buyer_6 rfl rfl ?_
  obtain ⟨v3, hv3, hf⟩ := bd_s hf
  refine r_cvi (As := fun K B => [.int (a1)]) hX hn (t_X11_isBuyer hv3) e_X11_buyer_7 cw_X11_isBuyer cv_X11_isBuyer lk_11_313 ⟨Nat.le_of_ble_eq_true rfl, Nat.le_of_ble_eq_true rfl⟩ (ci := 11) rfl rfl (Nat.le_of_ble_eq_true rfl) g1 rfl rfl (Nat.le_of_ble_eq_true rfl) ⟨Nat.zero_le _, Nat.zero_le _⟩ ?_
  refine r_if_eq hX e_X11_buyer_10 (fun hc => ?_) (fun hc => ?_)
  · have hf := ite_t hf hc
    refine r_bipush hX e_X11_buyer_38 bc_m2 ?_
    exact r_iret hX hR e_X11_buyer_40 hf
  · have hf := ite_f hf hc
    refine r_iload_n (i := 2) hX e_X11_buyer_13 rfl rfl ?_
    refine r_i2l hX e_X11_buyer_14 ?_
    refine r_lconst hX e_X11_buyer_15 lc_0 ?_
    refine r_ldc2 hX e_X11_buyer_16 wk_1293 ?_
    obtain ⟨v4, hv4, hf⟩ := bd_s hf
    refine r_csi (As := fun K B => [.long ((a2 : Int32).toInt64), .long (0), .long (3)]) hX hn (t_X11_in hv4) e_X11_buyer_19 cw_X11_in cv_X11_in lk_11_127 ⟨Nat.le_of_ble_eq_true rfl, Nat.le_of_ble_eq_true rfl⟩ rfl rfl (Nat.le_of_ble_eq_true rfl) ⟨Nat.zero_le _, Nat.zero_le _⟩ ?_
    refine r_if_eq hX e_X11_buyer_22 (fun hc => ?_) (fun hc => ?_)
    · have hf := ite_t hf hc
      refine r_bipush hX e_X11_buyer_38 bc_m2 ?_
      exact r_iret hX hR e_X11_buyer_40 hf
    · have hf := ite_f hf hc
      refine r_aload_n (i := 0) hX e_X11_buyer_25 rfl rfl ?_
      obtain ⟨r5, hr5, hf⟩ := bd_s hf
      refine r_getR hX hn e_X11_buyer_26 fl_11_43 rfl g1 hr5 ?_
      refine r_iconst hX e_X11_buyer_29 ic_4 ?_
      refine r_iload_n (i := 1) hX e_X11_buyer_30 rfl rfl ?_
      refine r_imul hX e_X11_buyer_31 ?_
      refine r_iload_n (i := 2) hX e_X11_buyer_32 rfl rfl ?_
      refine r_iadd hX e_X11_buyer_33 ?_
      obtain ⟨g6, hf⟩ := gd_s hf
      refine r_iald hX hn e_X11_buyer_34 g6 ?_
      obtain ⟨v7, hv7, hf⟩ := nx_s hf
      refine top_i hv7 ?_
      refine r_goto hX e_X11_buyer_35 ?_
      exact r_iret hX hR e_X11_buyer_40 hf
def f_X11_want (M : Mem) (a0 : Nat) (a1 : Int32) (a2 : Int32) (a3 : Int32) : Option (Mem × Int32) :=
  gd (oB shR a0 11) <| nx (sI M a0 0 0) fun M2 => bd (f_X11_isBuyer M2 a0 a1) fun v3 => if v3 = 0 then some (M2, (-2)) else bd (gR M2 a0 20) fun r4 => gd (aB shR r4 0 ((4 * a1) + 3)) <| nx ((gI M2 r4 (((4 * a1) + 3) : Int32).toNatClampNeg)) fun v6 => bd (f_X11_in M2 ((a2 : Int32).toInt64) 0 (((v6 - 1) : Int32).toInt64)) fun v7 => if v7 = 0 then some (M2, (-2)) else bd (f_X11_in M2 ((a3 : Int32).toInt64) 0 2) fun v8 => if v8 = 0 then some (M2, (-2)) else bd (gR M2 a0 21) fun r9 => gd (aB shR r9 0 (((9 * a1) + (3 * a2)) + a3)) <| nx ((gI M2 r9 ((((9 * a1) + (3 * a2)) + a3) : Int32).toNatClampNeg)) fun v11 => some (M2, v11)
theorem t_X11_want {l : Launch} {M : Mem} {a0 : Nat} {a1 a2 a3 : Int32} {res : Mem × Int32} (hf : f_X11_want M a0 a1 a2 a3 = some res) : Ci l yX11_want cX11_want 4 (some .int) 2 46 shR nR (fun K B => [.ref (B + a0), .int a1, .int a2, .int a3]) M res := by
  refine met_i (own := RX11) (lo := fun K B => [some (.ref (B + a0)), some (.int a1), some (.int a2), some (.int a3)]) (by decide +kernel) rfl shR_ok (fun _ _ => rfl) (fun _ _ => rfl) (fun _ _ => Nat.le_of_ble_eq_true rfl) (fun X hX hn hlx hR => ?_)
  refine r_aload_n (i := 0) hX e_X11_want_0 rfl rfl ?_
  refine r_iconst hX e_X11_want_1 ic_0 ?_
  obtain ⟨g1, hf⟩ := gd_s hf
  obtain ⟨M2, hM2, hf⟩ := nx_s hf
  refine r_putI hX hn hM2 e_X11_want_2 fl_11_122 fp_11_0 rfl g1 ?_
  refine r_aload_n (i := 0) hX e_X11_want_5 rfl rfl ?_
  refine r_iload_n (i := 1) hX e_X11_want_6 rfl rfl ?_
  obtain ⟨v3, hv3, hf⟩ := bd_s hf
  refine r_cvi (As := fun K B => [.int (a1)]) hX hn (t_X11_isBuyer hv3) e_X11_want_7 cw_X11_isBuyer cv_X11_isBuyer lk_11_313 ⟨Nat.le_of_ble_eq_true rfl, Nat.le_of_ble_eq_true rfl⟩ (ci := 11) rfl rfl (Nat.le_of_ble_eq_true rfl) g1 rfl rfl (Nat.le_of_ble_eq_true rfl) ⟨Nat.zero_le _, Nat.zero_le _⟩ ?_
  refine r_if_eq hX e_X11_want_10 (fun hc => ?_) (fun hc => ?_)
  · have hf := ite_t hf hc
    refine r_bipush hX e_X11_want_65 bc_m2 ?_
    exact r_iret hX hR e_X11_want_67 hf
  · have hf := ite_f hf hc
    refine r_iload_n (i := 2) hX e_X11_want_13 rfl rfl ?_
    refine r_i2l hX e_X11_want_14 ?_
    refine r_lconst hX e_X11_want_15 lc_0 ?_
    refine r_aload_n (i := 0) hX e_X11_want_16 rfl rfl ?_
    obtain ⟨r4, hr4, hf⟩ := bd_s hf
    refine r_getR hX hn e_X11_want_17 fl_11_43 rfl g1 hr4 ?_
    refine r_iconst hX e_X11_want_20 ic_4 ?_
    refine r_iload_n (i := 1) hX e_X11_want_21 rfl rfl ?_
    refine r_imul hX e_X11_want_22 ?_
    refine r_iconst hX e_X11_want_23 ic_3 ?_
    refine r_iadd hX e_X11_want_24 ?_
    obtain ⟨g5, hf⟩ := gd_s hf
    refine r_iald hX hn e_X11_want_25 g5 ?_
    obtain ⟨v6, hv6, hf⟩ := nx_s hf
    refine top_i hv6 ?_
    refine r_iconst hX e_X11_want_26 ic_1 ?_
    refine r_isub hX e_X11_want_27 ?_
    refine r_i2l hX e_X11_want_28 ?_
    obtain ⟨v7, hv7, hf⟩ := bd_s hf
    refine r_csi (As := fun K B => [.long ((a2 : Int32).toInt64), .long (0), .long (((v6 - 1) : Int32).toInt64)]) hX hn (t_X11_in hv7) e_X11_want_29 cw_X11_in cv_X11_in lk_11_127 ⟨Nat.le_of_ble_eq_true rfl, Nat.le_of_ble_eq_true rfl⟩ rfl rfl (Nat.le_of_ble_eq_true rfl) ⟨Nat.zero_le _, Nat.zero_le _⟩ ?_
    refine r_if_eq hX e_X11_want_32 (fun hc => ?_) (fun hc => ?_)
    · have hf := ite_t hf hc
      refine r_bipush hX e_X11_want_65 bc_m2 ?_
      exact r_iret hX hR e_X11_want_67 hf
    · have hf := ite_f hf hc
      refine r_iload_n (i := 3) hX e_X11_want_35 rfl rfl ?_
      refine r_i2l hX e_X11_want_36 ?_
      refine r_lconst hX e_X11_want_37 lc_0 ?_
      refine r_ldc2 hX e_X11_want_38 wk_1471 ?_
      obtain ⟨v8, hv8, hf⟩ := bd_s hf
      refine r_csi (As := fun K B => [.long ((a3 : Int32).toInt64), .long (0), .long (2)]) hX hn (t_X11_in hv8) e_X11_want_41 cw_X11_in cv_X11_in lk_11_127 ⟨Nat.le_of_ble_eq_true rfl, Nat.le_of_ble_eq_true rfl⟩ rfl rfl (Nat.le_of_ble_eq_true rfl) ⟨Nat.zero_le _, Nat.zero_le _⟩ ?_
      refine r_if_eq hX e_X11_want_44 (fun hc => ?_) (fun hc => ?_)
      · have hf := ite_t hf hc
        refine r_bipush hX e_X11_want_65 bc_m2 ?_
        exact r_iret hX hR e_X11_want_67 hf
      · have hf := ite_f hf hc
        refine r_aload_n (i := 0) hX e_X11_want_47 rfl rfl ?_
        obtain ⟨r9, hr9, hf⟩ := bd_s hf
        refine r_getR hX hn e_X11_want_48 fl_11_46 rfl g1 hr9 ?_
        refine r_bipush hX e_X11_want_51 bc_9 ?_
        refine r_iload_n (i := 1) hX e_X11_want_53 rfl rfl ?_
        refine r_imul hX e_X11_want_54 ?_
        refine r_iconst hX e_X11_want_55 ic_3 ?_
        refine r_iload_n (i := 2) hX e_X11_want_56 rfl rfl ?_
        refine r_imul hX e_X11_want_57 ?_
        refine r_iadd hX e_X11_want_58 ?_
        refine r_iload_n (i := 3) hX e_X11_want_59 rfl rfl ?_
        refine r_iadd hX e_X11_want_60 ?_
        obtain ⟨g10, hf⟩ := gd_s hf
        refine r_iald hX hn e_X11_want_61 g10 ?_
        obtain ⟨v11, hv11, hf⟩ := nx_s hf
        refine top_i hv11 ?_
        refine r_goto hX e_X11_want_62 ?_
        exact r_iret hX hR e_X11_want_67 hf
def s_X11_isStuck_2 (M : Mem) (k2 : Nat → Int32 → Int32 → Int32 → Option (Int32)) (x0 : Nat) (x1 : Int32) (x2 : Int32) (x3 : Int32) : Option (Int32) :=
  gd (oB shR x0 11) <| bd (gR M x0 17) fun r2 => gd (aB shR r2 0 5) <| if (gI M r2 (5 : Int32).toNatClampNeg) ≤ x3 then if x1 = (gI M x0 25) then if x2 < (gI M x0 26) then some 0 else some 1 else some 0 else bd (gR M x0 22) fun r4 => gd (aB shR r4 0 (3 * x3)) <| if (gI M r4 ((3 * x3) : Int32).toNatClampNeg) = x1 then gd (aB shR r4 0 ((3 * x3) + 1)) <| nx ((gI M r4 (((3 * x3) + 1) : Int32).toNatClampNeg)) fun v7 => gd (aB shR r4 0 ((3 * x3) + 2)) <| nx ((gI M r4 (((3 * x3) + 2) : Int32).toNatClampNeg)) fun v9 => bd (f_X11_in M ((x2 : Int32).toInt64) ((v7 : Int32).toInt64) ((v9 : Int32).toInt64)) fun v10 => if v10 = 0 then k2 (x0) (x1) (x2) ((x3 + 1)) else some 1 else k2 (x0) (x1) (x2) ((x3 + 1))
def f_X11_isStuck_2 (M : Mem)  : Nat → Nat → Int32 → Int32 → Int32 → Option (Int32)
  | 0 => fun _ _ _ _ => none
  | n + 1 => fun y0 y1 y2 y3 => s_X11_isStuck_2 M  (f_X11_isStuck_2 M  n) y0 y1 y2 y3
def f_X11_isStuck (M : Mem) (a0 : Nat) (a1 : Int32) (a2 : Int32) : Option (Int32) :=
  f_X11_isStuck_2 M FU (a0) (a1) (a2) (0)
theorem t_s_X11_isStuck_2 {X : Cx} {M : Mem} {res : Int32} {k2 : Nat → Int32 → Int32 → Int32 → Option (Int32)} (hX : OkX X cX11_isStuck RX11 1 25) (hn : Fit X shR nR) (hR : RetI X shR nR .boolean (M, res)) (hk2 : ∀ x0 x1 x2 x3, k2 x0 x1 x2 x3 = some res → GoN X shR nR 0 0 M 2 [some (.ref (X.B + x0)), some (.int (x1)), some (.int (x2)), some (.int (x3))] []) (x0 : Nat) (x1 : Int32) (x2 : Int32) (x3 : Int32) (hf : s_X11_isStuck_2 M k2 x0 x1 x2 x3 = some res) : GoN X shR nR 0 0 M 2 [some (.ref (X.B + x0)), some (.int (x1)), some (.int (x2)), some (.int (x3))] [] := by
  refine r_iload_n (i := 3) hX e_X11_isStuck_2 rfl rfl ?_
  refine r_aload_n (i := 0) hX e_X11_isStuck_3 rfl rfl ?_
  obtain ⟨g1, hf⟩ := gd_s hf
  obtain ⟨r2, hr2, hf⟩ := bd_s hf
  refine r_getR hX hn e_X11_isStuck_4 fl_11_34 rfl g1 hr2 ?_
  refine r_iconst hX e_X11_isStuck_7 ic_5 ?_
  obtain ⟨g3, hf⟩ := gd_s hf
  refine r_iald hX hn e_X11_isStuck_8 g3 ?_
  refine r_icmp_ge hX e_X11_isStuck_9 (fun hc => ?_) (fun hc => ?_)
  · have hf := ite_t hf hc
    refine r_iload_n (i := 1) hX e_X11_isStuck_62 rfl rfl ?_
    refine r_aload_n (i := 0) hX e_X11_isStuck_63 rfl rfl ?_
    refine r_getI hX hn e_X11_isStuck_64 fl_11_318 rfl g1 ?_
    refine r_icmp_ne hX e_X11_isStuck_67 (fun hc => ?_) (fun hc => ?_)
    · have hf := ite_f hf hc
      refine r_iconst hX e_X11_isStuck_82 ic_0 ?_
      exact r_zret hX hR rfl e_X11_isStuck_83 (ro_s hf)
    · have hf := ite_t hf hc
      refine r_iload_n (i := 2) hX e_X11_isStuck_70 rfl rfl ?_
      refine r_aload_n (i := 0) hX e_X11_isStuck_71 rfl rfl ?_
      refine r_getI hX hn e_X11_isStuck_72 fl_11_321 rfl g1 ?_
      refine r_icmp_lt hX e_X11_isStuck_75 (fun hc => ?_) (fun hc => ?_)
      · have hf := ite_t hf hc
        refine r_iconst hX e_X11_isStuck_82 ic_0 ?_
        exact r_zret hX hR rfl e_X11_isStuck_83 (ro_s hf)
      · have hf := ite_f hf hc
        refine r_iconst hX e_X11_isStuck_78 ic_1 ?_
        refine r_goto hX e_X11_isStuck_79 ?_
        exact r_zret hX hR rfl e_X11_isStuck_83 (ro_s hf)
  · have hf := ite_f hf hc
    refine r_aload_n (i := 0) hX e_X11_isStuck_12 rfl rfl ?_
    obtain ⟨r4, hr4, hf⟩ := bd_s hf
    refine r_getR hX hn e_X11_isStuck_13 fl_11_49 rfl g1 hr4 ?_
    refine r_iconst hX e_X11_isStuck_16 ic_3 ?_
    refine r_iload_n (i := 3) hX e_X11_isStuck_17 rfl rfl ?_
    refine r_imul hX e_X11_isStuck_18 ?_
    obtain ⟨g5, hf⟩ := gd_s hf
    refine r_iald hX hn e_X11_isStuck_19 g5 ?_
    refine r_iload_n (i := 1) hX e_X11_isStuck_20 rfl rfl ?_
    refine r_icmp_ne hX e_X11_isStuck_21 (fun hc => ?_) (fun hc => ?_)
    · have hf := ite_f hf hc
      refine r_iinc (v := x3 + 1) hX e_X11_isStuck_56 rfl (ii_s ic_1) (Nat.le_of_ble_eq_true rfl) rfl ?_
      refine r_goto hX e_X11_isStuck_59 ?_
      exact GoN.weak (hk2 (x0) (x1) (x2) ((x3 + 1)) hf) rfl (sb_s (sb_s (sb_s (sb_s (sb_z _)))))
    · have hf := ite_t hf hc
      refine r_iload_n (i := 2) hX e_X11_isStuck_24 rfl rfl ?_
      refine r_i2l hX e_X11_isStuck_25 ?_
      refine r_aload_n (i := 0) hX e_X11_isStuck_26 rfl rfl ?_
      refine r_getR hX hn e_X11_isStuck_27 fl_11_49 rfl g1 hr4 ?_
      refine r_iconst hX e_X11_isStuck_30 ic_3 ?_
      refine r_iload_n (i := 3) hX e_X11_isStuck_31 rfl rfl ?_
      refine r_imul hX e_X11_isStuck_32 ?_
      refine r_iconst hX e_X11_isStuck_33 ic_1 ?_
      refine r_iadd hX e_X11_isStuck_34 ?_
      obtain ⟨g6, hf⟩ := gd_s hf
      refine r_iald hX hn e_X11_isStuck_35 g6 ?_
      obtain ⟨v7, hv7, hf⟩ := nx_s hf
      refine top_i hv7 ?_
      refine r_i2l hX e_X11_isStuck_36 ?_
      refine r_aload_n (i := 0) hX e_X11_isStuck_37 rfl rfl ?_
      refine r_getR hX hn e_X11_isStuck_38 fl_11_49 rfl g1 hr4 ?_
      refine r_iconst hX e_X11_isStuck_41 ic_3 ?_
      refine r_iload_n (i := 3) hX e_X11_isStuck_42 rfl rfl ?_
      refine r_imul hX e_X11_isStuck_43 ?_
      refine r_iconst hX e_X11_isStuck_44 ic_2 ?_
      refine r_iadd hX e_X11_isStuck_45 ?_
      obtain ⟨g8, hf⟩ := gd_s hf
      refine r_iald hX hn e_X11_isStuck_46 g8 ?_
      obtain ⟨v9, hv9, hf⟩ := nx_s hf
      refine top_i hv9 ?_
      refine r_i2l hX e_X11_isStuck_47 ?_
      obtain ⟨v10, hv10, hf⟩ := bd_s hf
      refine r_csi (As := fun K B => [.long ((x2 : Int32).toInt64), .long ((v7 : Int32).toInt64), .long ((v9 : Int32).toInt64)]) hX hn (t_X11_in hv10) e_X11_isStuck_48 cw_X11_in cv_X11_in lk_11_127 ⟨Nat.le_of_ble_eq_true rfl, Nat.le_of_ble_eq_true rfl⟩ rfl rfl (Nat.le_of_ble_eq_true rfl) ⟨Nat.zero_le _, Nat.zero_le _⟩ ?_
      refine r_if_eq hX e_X11_isStuck_51 (fun hc => ?_) (fun hc => ?_)
      · have hf := ite_t hf hc
        refine r_iinc (v := x3 + 1) hX e_X11_isStuck_56 rfl (ii_s ic_1) (Nat.le_of_ble_eq_true rfl) rfl ?_
        refine r_goto hX e_X11_isStuck_59 ?_
        exact GoN.weak (hk2 (x0) (x1) (x2) ((x3 + 1)) hf) rfl (sb_s (sb_s (sb_s (sb_s (sb_z _)))))
      · have hf := ite_f hf hc
        refine r_iconst hX e_X11_isStuck_54 ic_1 ?_
        exact r_zret hX hR rfl e_X11_isStuck_55 (ro_s hf)
theorem t_X11_isStuck_2 {X : Cx} {M : Mem} {res : Int32}  (hX : OkX X cX11_isStuck RX11 1 25) (hn : Fit X shR nR) (hR : RetI X shR nR .boolean (M, res))  : ∀ (n : Nat) (x0 : Nat) (x1 : Int32) (x2 : Int32) (x3 : Int32),  f_X11_isStuck_2 M  n x0 x1 x2 x3 = some res → GoN X shR nR 0 0 M 2 [some (.ref (X.B + x0)), some (.int (x1)), some (.int (x2)), some (.int (x3))] [] := by
  intro n
  induction n with
  | zero => intro x0 x1 x2 x3 hf; cases hf
  | succ n ih => intro x0 x1 x2 x3 hf; exact t_s_X11_isStuck_2 hX hn hR  ih x0 x1 x2 x3 hf
theorem t_X11_isStuck {l : Launch} {M : Mem} {a0 : Nat} {a1 a2 : Int32} {res : Int32} (hf : f_X11_isStuck M a0 a1 a2 = some res) : Ci l yX11_isStuck cX11_isStuck 4 (some .boolean) 1 25 shR nR (fun K B => [.ref (B + a0), .int a1, .int a2]) M (M, res) := by
  refine met_i (own := RX11) (lo := fun K B => [some (.ref (B + a0)), some (.int a1), some (.int a2), none]) (by decide +kernel) rfl shR_ok (fun _ _ => rfl) (fun _ _ => rfl) (fun _ _ => Nat.le_of_ble_eq_true rfl) (fun X hX hn hlx hR => ?_)
  refine r_iconst hX e_X11_isStuck_0 ic_0 ?_
  refine r_istore_n (i := 3) hX e_X11_isStuck_1 rfl (Nat.le_of_ble_eq_true rfl) rfl ?_
  exact GoN.weak (t_X11_isStuck_2 hX hn hR FU (a0) (a1) (a2) (0) hf) rfl (sb_s (sb_s (sb_s (sb_s (sb_z _)))))
def f_X11_isDrawn (M : Mem) (a0 : Nat) : Option (Mem × Int32) :=
  gd (oB shR a0 11) <| nx ((((1103515245 * (gL M a0 28)) + 12345) - ((1103515245 * (gL M a0 28)) + 12345) / 2147483648 * 2147483648)) fun v2 => nx (sL M a0 28 v2) fun M3 => nx ((((gL M3 a0 28) / 65536) - ((gL M3 a0 28) / 65536) / 100 * 100)) fun v4 => if 0 ≤ (lg_cmp v4 (((gI M3 a0 27) : Int32).toInt64)) then some (M3, 0) else some (M3, 1)
theorem t_X11_isDrawn {l : Launch} {M : Mem} {a0 : Nat} {res : Mem × Int32} (hf : f_X11_isDrawn M a0 = some res) : Ci l yX11_isDrawn cX11_isDrawn 1 (some .boolean) 0 0 shR nR (fun K B => [.ref (B + a0)]) M res := by
  refine met_i (own := RX11) (lo := fun K B => [some (.ref (B + a0))]) (by decide +kernel) rfl shR_ok (fun _ _ => rfl) (fun _ _ => rfl) (fun _ _ => Nat.le_of_ble_eq_true rfl) (fun X hX hn hlx hR => ?_)
  refine r_aload_n (i := 0) hX e_X11_isDrawn_0 rfl rfl ?_
  refine r_ldc2 hX e_X11_isDrawn_1 wk_1496 ?_
  refine r_aload_n (i := 0) hX e_X11_isDrawn_4 rfl rfl ?_
  obtain ⟨g1, hf⟩ := gd_s hf
  refine r_getL hX hn e_X11_isDrawn_5 fl_11_326 rfl g1 ?_
  refine r_lmul hX e_X11_isDrawn_8 ?_
  refine r_ldc2 hX e_X11_isDrawn_9 wk_1497 ?_
  refine r_ladd hX e_X11_isDrawn_12 ?_
  refine r_ldc2 hX e_X11_isDrawn_13 wk_1498 ?_
  refine r_lrem hX e_X11_isDrawn_16 (by decide) ?_
  obtain ⟨v2, hv2, hf⟩ := nx_s hf
  refine top_l hv2 ?_
  obtain ⟨M3, hM3, hf⟩ := nx_s hf
  refine r_putL hX hn hM3 e_X11_isDrawn_17 fl_11_326 fp_11_28 rfl g1 ?_
  refine r_aload_n (i := 0) hX e_X11_isDrawn_20 rfl rfl ?_
  refine r_getL hX hn e_X11_isDrawn_21 fl_11_326 rfl g1 ?_
  refine r_ldc2 hX e_X11_isDrawn_24 wk_1499 ?_
  refine r_ldiv hX e_X11_isDrawn_27 (by decide) ?_
  refine r_ldc2 hX e_X11_isDrawn_28 wk_1500 ?_
  refine r_lrem hX e_X11_isDrawn_31 (by decide) ?_
  obtain ⟨v4, hv4, hf⟩ := nx_s hf
  refine top_l hv4 ?_
  refine r_aload_n (i := 0) hX e_X11_isDrawn_32 rfl rfl ?_
  refine r_getI hX hn e_X11_isDrawn_33 fl_11_337 rfl g1 ?_
  refine r_i2l hX e_X11_isDrawn_36 ?_
  refine r_lcmp hX e_X11_isDrawn_37 ?_
  refine r_if_ge hX e_X11_isDrawn_38 (fun hc => ?_) (fun hc => ?_)
  · have hf := ite_t hf hc
    refine r_iconst hX e_X11_isDrawn_45 ic_0 ?_
    exact r_zret hX hR rfl e_X11_isDrawn_46 hf
  · have hf := ite_f hf hc
    refine r_iconst hX e_X11_isDrawn_41 ic_1 ?_
    refine r_goto hX e_X11_isDrawn_42 ?_
    exact r_zret hX hR rfl e_X11_isDrawn_46 hf
def f_X11_laysTurns_162 (k22 : Mem → Nat → Int32 → Option (Mem)) (k34 : Mem → Nat → Int32 → Int32 → Option (Mem)) (M : Mem) (x0 : Nat) (x1 : Int32) (x2 : Int32) (x3 : Int32) : Option (Mem) :=
  gd (oB shR x0 11) <| bd (gR M x0 24) fun r2 => gd (aB shR r2 0 ((60 * x2) + x1)) <| nx (sI M r2 (((60 * x2) + x1) : Int32).toNatClampNeg x3) fun M4 => k34 M4 (x0) (x1) ((x2 + 1))
def f_X11_laysTurns_152 (k22 : Mem → Nat → Int32 → Option (Mem)) (k34 : Mem → Nat → Int32 → Int32 → Option (Mem)) (M : Mem) (x0 : Nat) (x1 : Int32) (x2 : Int32) (x3 : Int32) : Option (Mem) :=
  gd (oB shR x0 11) <| bd (gR M x0 29) fun r2 => gd (aB shR r2 0 x2) <| nx (sI M r2 (x2 : Int32).toNatClampNeg ((gI M r2 (x2 : Int32).toNatClampNeg) + 1)) fun M4 => f_X11_laysTurns_162 k22 k34 M4 (x0) (x1) (x2) (x3)
def f_X11_laysTurns_107 (k22 : Mem → Nat → Int32 → Option (Mem)) (k34 : Mem → Nat → Int32 → Int32 → Option (Mem)) (M : Mem) (x0 : Nat) (x1 : Int32) (x2 : Int32) (x3 : Int32) (s0 : Int32) : Option (Mem) :=
  if s0 = 0 then gd (oB shR x0 11) <| bd (gR M x0 18) fun r2 => gd (aB shR r2 0 (2 * x2)) <| if (gI M r2 ((2 * x2) : Int32).toNatClampNeg) ≤ 0 then f_X11_laysTurns_152 k22 k34 M (x0) (x1) (x2) (x3) else bd (gR M x0 29) fun r4 => gd (aB shR r4 0 x2) <| if (gI M r4 (x2 : Int32).toNatClampNeg) = (gI M r2 ((2 * x2) : Int32).toNatClampNeg) then nx (sI M r4 (x2 : Int32).toNatClampNeg 0) fun M6 => f_X11_laysTurns_152 k22 k34 M6 (x0) (x1) (x2) ((x3 + 1)) else f_X11_laysTurns_152 k22 k34 M (x0) (x1) (x2) (x3) else f_X11_laysTurns_162 k22 k34 M (x0) (x1) (x2) (x3)
def f_X11_laysTurns_102 (k22 : Mem → Nat → Int32 → Option (Mem)) (k34 : Mem → Nat → Int32 → Int32 → Option (Mem)) (M : Mem) (x0 : Nat) (x1 : Int32) (x2 : Int32) (x3 : Int32) : Option (Mem) :=
  f_X11_laysTurns_107 k22 k34 M (x0) (x1) (x2) (x3) (1)
def f_X11_laysTurns_86 (k22 : Mem → Nat → Int32 → Option (Mem)) (k34 : Mem → Nat → Int32 → Int32 → Option (Mem)) (M : Mem) (x0 : Nat) (x1 : Int32) (x2 : Int32) (x3 : Int32) (s0 : Int32) : Option (Mem) :=
  gd (oB shR x0 11) <| bd (f_X11_isStuck M x0 x2 x1) fun v2 => if v2 = 0 then if s0 = 0 then f_X11_laysTurns_107 k22 k34 M (x0) (x1) (x2) (x3) (0) else f_X11_laysTurns_102 k22 k34 M (x0) (x1) (x2) (x3) else f_X11_laysTurns_102 k22 k34 M (x0) (x1) (x2) (x3)
def f_X11_laysTurns_85 (k22 : Mem → Nat → Int32 → Option (Mem)) (k34 : Mem → Nat → Int32 → Int32 → Option (Mem)) (M : Mem) (x0 : Nat) (x1 : Int32) (x2 : Int32) (x3 : Int32) : Option (Mem) :=
  f_X11_laysTurns_86 k22 k34 M (x0) (x1) (x2) (x3) (0)
def f_X11_laysTurns_65 (k22 : Mem → Nat → Int32 → Option (Mem)) (k34 : Mem → Nat → Int32 → Int32 → Option (Mem)) (M : Mem) (x0 : Nat) (x1 : Int32) (x2 : Int32) (s0 : Int32) : Option (Mem) :=
  gd (oB shR x0 11) <| if (gI M x0 27) = (-1) then f_X11_laysTurns_85 k22 k34 M (x0) (x1) (x2) (s0) else bd (f_X11_isDrawn M x0) fun u2 => if u2.2 = 0 then f_X11_laysTurns_85 k22 k34 u2.1 (x0) (x1) (x2) (s0) else f_X11_laysTurns_86 k22 k34 u2.1 (x0) (x1) (x2) (s0) (1)
def s_X11_laysTurns_34 (k22 : Mem → Nat → Int32 → Option (Mem)) (k34 : Mem → Nat → Int32 → Int32 → Option (Mem)) (M : Mem) (x0 : Nat) (x1 : Int32) (x2 : Int32) : Option (Mem) :=
  gd (oB shR x0 11) <| bd (gR M x0 17) fun r2 => gd (aB shR r2 0 2) <| if (gI M r2 (2 : Int32).toNatClampNeg) ≤ x2 then k22 M (x0) ((x1 + 1)) else if x1 = 0 then f_X11_laysTurns_65 k22 k34 M (x0) (x1) (x2) (0) else bd (gR M x0 24) fun r4 => gd (aB shR r4 0 (((60 * x2) + x1) - 1)) <| nx ((gI M r4 ((((60 * x2) + x1) - 1) : Int32).toNatClampNeg)) fun v6 => f_X11_laysTurns_65 k22 k34 M (x0) (x1) (x2) (v6)
def f_X11_laysTurns_34 (k22 : Mem → Nat → Int32 → Option (Mem)) : Nat → Mem → Nat → Int32 → Int32 → Option (Mem)
  | 0 => fun _ _ _ _ => none
  | n + 1 => fun y0 y1 y2 y3 => s_X11_laysTurns_34 k22 (f_X11_laysTurns_34 k22 n) y0 y1 y2 y3
def s_X11_laysTurns_22 (k22 : Mem → Nat → Int32 → Option (Mem)) (M : Mem) (x0 : Nat) (x1 : Int32) : Option (Mem) :=
  gd (oB shR x0 11) <| bd (gR M x0 17) fun r2 => gd (aB shR r2 0 1) <| if (gI M r2 (1 : Int32).toNatClampNeg) ≤ x1 then some M else f_X11_laysTurns_34 k22 FU M (x0) (x1) (0)
def f_X11_laysTurns_22  : Nat → Mem → Nat → Int32 → Option (Mem)
  | 0 => fun _ _ _ => none
  | n + 1 => fun y0 y1 y2 => s_X11_laysTurns_22  (f_X11_laysTurns_22  n) y0 y1 y2
def s_X11_laysTurns_2 (k2 : Mem → Nat → Int32 → Option (Mem)) (M : Mem) (x0 : Nat) (x1 : Int32) : Option (Mem) :=
  if 3 ≤ x1 then f_X11_laysTurns_22 FU M (x0) (0) else gd (oB shR x0 11) <| bd (gR M x0 29) fun r2 => gd (aB shR r2 0 x1) <| nx (sI M r2 (x1 : Int32).toNatClampNeg 0) fun M4 => k2 M4 (x0) ((x1 + 1))
def f_X11_laysTurns_2  : Nat → Mem → Nat → Int32 → Option (Mem)
  | 0 => fun _ _ _ => none
  | n + 1 => fun y0 y1 y2 => s_X11_laysTurns_2  (f_X11_laysTurns_2  n) y0 y1 y2
def f_X11_laysTurns (M : Mem) (a0 : Nat) : Option (Mem) :=
  f_X11_laysTurns_2 FU M (a0) (0)
theorem t_X11_laysTurns_162 {X : Cx} {res : Mem} {k22 : Mem → Nat → Int32 → Option (Mem)} {k34 : Mem → Nat → Int32 → Int32 → Option (Mem)} (hX : OkX X cX11_laysTurns RX11 2 48) (hn : Fit X shR nR) (hR : RetV X shR nR res) (hk22 : ∀ M x0 x1, k22 M x0 x1 = some res → GoN X shR nR 0 0 M 22 [some (.ref (X.B + x0)), some (.int (x1)), none, none, none] []) (hk34 : ∀ M x0 x1 x2, k34 M x0 x1 x2 = some res → GoN X shR nR 0 0 M 34 [some (.ref (X.B + x0)), some (.int (x1)), some (.int (x2)), none, none] []) (M : Mem) (x0 : Nat) (x1 : Int32) (x2 : Int32) (x3 : Int32) (hf : f_X11_laysTurns_162 k22 k34 M x0 x1 x2 x3 = some res) : GoN X shR nR 0 0 M 162 [some (.ref (X.B + x0)), some (.int (x1)), some (.int (x2)), some (.int (x3)), none] [] := by
  refine r_aload_n (i := 0) hX e_X11_laysTurns_162 rfl rfl ?_
  obtain ⟨g1, hf⟩ := gd_s hf
  obtain ⟨r2, hr2, hf⟩ := bd_s hf
  refine r_getR hX hn e_X11_laysTurns_163 fl_11_56 rfl g1 hr2 ?_
  refine r_bipush hX e_X11_laysTurns_166 bc_60 ?_
  refine r_iload_n (i := 2) hX e_X11_laysTurns_168 rfl rfl ?_
  refine r_imul hX e_X11_laysTurns_169 ?_
  refine r_iload_n (i := 1) hX e_X11_laysTurns_170 rfl rfl ?_
  refine r_iadd hX e_X11_laysTurns_171 ?_
  refine r_iload_n (i := 3) hX e_X11_laysTurns_172 rfl rfl ?_
  obtain ⟨g3, hf⟩ := gd_s hf
  obtain ⟨M4, hM4, hf⟩ := nx_s hf
  refine r_iast hX hn hM4 e_X11_laysTurns_173 g3 ?_
  refine r_iinc (v := x2 + 1) hX e_X11_laysTurns_174 rfl (ii_s ic_1) (Nat.le_of_ble_eq_true rfl) rfl ?_
  refine r_goto hX e_X11_laysTurns_177 ?_
  exact GoN.weak (hk34 M4 (x0) (x1) ((x2 + 1)) hf) rfl (sb_s (sb_s (sb_s (sb_n (sb_n (sb_z _))))))
theorem t_X11_laysTurns_152 {X : Cx} {res : Mem} {k22 : Mem → Nat → Int32 → Option (Mem)} {k34 : Mem → Nat → Int32 → Int32 → Option (Mem)} (hX : OkX X cX11_laysTurns RX11 2 48) (hn : Fit X shR nR) (hR : RetV X shR nR res) (hk22 : ∀ M x0 x1, k22 M x0 x1 = some res → GoN X shR nR 0 0 M 22 [some (.ref (X.B + x0)), some (.int (x1)), none, none, none] []) (hk34 : ∀ M x0 x1 x2, k34 M x0 x1 x2 = some res → GoN X shR nR 0 0 M 34 [some (.ref (X.B + x0)), some (.int (x1)), some (.int (x2)), none, none] []) (M : Mem) (x0 : Nat) (x1 : Int32) (x2 : Int32) (x3 : Int32) (hf : f_X11_laysTurns_152 k22 k34 M x0 x1 x2 x3 = some res) : GoN X shR nR 0 0 M 152 [some (.ref (X.B + x0)), some (.int (x1)), some (.int (x2)), some (.int (x3)), none] [] := by
  refine r_aload_n (i := 0) hX e_X11_laysTurns_152 rfl rfl ?_
  obtain ⟨g1, hf⟩ := gd_s hf
  obtain ⟨r2, hr2, hf⟩ := bd_s hf
  refine r_getR hX hn e_X11_laysTurns_153 fl_11_59 rfl g1 hr2 ?_
  refine r_iload_n (i := 2) hX e_X11_laysTurns_156 rfl rfl ?_
  refine r_dup2_11 hX e_X11_laysTurns_157 rfl rfl ?_
  obtain ⟨g3, hf⟩ := gd_s hf
  refine r_iald hX hn e_X11_laysTurns_158 g3 ?_
  refine r_iconst hX e_X11_laysTurns_159 ic_1 ?_
  refine r_iadd hX e_X11_laysTurns_160 ?_
  obtain ⟨M4, hM4, hf⟩ := nx_s hf
  refine r_iast hX hn hM4 e_X11_laysTurns_161 g3 ?_
  exact GoN.weak (t_X11_laysTurns_162 hX hn hR hk22 hk34 M4 (x0) (x1) (x2) (x3) hf) rfl (sb_s (sb_s (sb_s (sb_s (sb_n (sb_z _))))))
theorem t_X11_laysTurns_107 {X : Cx} {res : Mem} {k22 : Mem → Nat → Int32 → Option (Mem)} {k34 : Mem → Nat → Int32 → Int32 → Option (Mem)} (hX : OkX X cX11_laysTurns RX11 2 48) (hn : Fit X shR nR) (hR : RetV X shR nR res) (hk22 : ∀ M x0 x1, k22 M x0 x1 = some res → GoN X shR nR 0 0 M 22 [some (.ref (X.B + x0)), some (.int (x1)), none, none, none] []) (hk34 : ∀ M x0 x1 x2, k34 M x0 x1 x2 = some res → GoN X shR nR 0 0 M 34 [some (.ref (X.B + x0)), some (.int (x1)), some (.int (x2)), none, none] []) (M : Mem) (x0 : Nat) (x1 : Int32) (x2 : Int32) (x3 : Int32) (s0 : Int32) (hf : f_X11_laysTurns_107 k22 k34 M x0 x1 x2 x3 s0 = some res) : GoN X shR nR 0 0 M 107 [some (.ref (X.B + x0)), some (.int (x1)), some (.int (x2)), some (.int (x3)), none] [.int (s0)] := by
  refine r_istore hX e_X11_laysTurns_107 (Nat.le_of_ble_eq_true rfl) rfl ?_
  refine r_iload hX e_X11_laysTurns_109 rfl ?_
  refine r_if_ne hX e_X11_laysTurns_111 (fun hc => ?_) (fun hc => ?_)
  · have hf := ite_f hf hc
    exact GoN.weak (t_X11_laysTurns_162 hX hn hR hk22 hk34 M (x0) (x1) (x2) (x3) hf) rfl (sb_s (sb_s (sb_s (sb_s (sb_n (sb_z _))))))
  · have hf := ite_t hf hc
    refine r_aload_n (i := 0) hX e_X11_laysTurns_114 rfl rfl ?_
    obtain ⟨g1, hf⟩ := gd_s hf
    obtain ⟨r2, hr2, hf⟩ := bd_s hf
    refine r_getR hX hn e_X11_laysTurns_115 fl_11_37 rfl g1 hr2 ?_
    refine r_iconst hX e_X11_laysTurns_118 ic_2 ?_
    refine r_iload_n (i := 2) hX e_X11_laysTurns_119 rfl rfl ?_
    refine r_imul hX e_X11_laysTurns_120 ?_
    obtain ⟨g3, hf⟩ := gd_s hf
    refine r_iald hX hn e_X11_laysTurns_121 g3 ?_
    refine r_if_le hX e_X11_laysTurns_122 (fun hc => ?_) (fun hc => ?_)
    · have hf := ite_t hf hc
      exact GoN.weak (t_X11_laysTurns_152 hX hn hR hk22 hk34 M (x0) (x1) (x2) (x3) hf) rfl (sb_s (sb_s (sb_s (sb_s (sb_n (sb_z _))))))
    · have hf := ite_f hf hc
      refine r_aload_n (i := 0) hX e_X11_laysTurns_125 rfl rfl ?_
      obtain ⟨r4, hr4, hf⟩ := bd_s hf
      refine r_getR hX hn e_X11_laysTurns_126 fl_11_59 rfl g1 hr4 ?_
      refine r_iload_n (i := 2) hX e_X11_laysTurns_129 rfl rfl ?_
      obtain ⟨g5, hf⟩ := gd_s hf
      refine r_iald hX hn e_X11_laysTurns_130 g5 ?_
      refine r_aload_n (i := 0) hX e_X11_laysTurns_131 rfl rfl ?_
      refine r_getR hX hn e_X11_laysTurns_132 fl_11_37 rfl g1 hr2 ?_
      refine r_iconst hX e_X11_laysTurns_135 ic_2 ?_
      refine r_iload_n (i := 2) hX e_X11_laysTurns_136 rfl rfl ?_
      refine r_imul hX e_X11_laysTurns_137 ?_
      refine r_iald hX hn e_X11_laysTurns_138 g3 ?_
      refine r_icmp_ne hX e_X11_laysTurns_139 (fun hc => ?_) (fun hc => ?_)
      · have hf := ite_f hf hc
        exact GoN.weak (t_X11_laysTurns_152 hX hn hR hk22 hk34 M (x0) (x1) (x2) (x3) hf) rfl (sb_s (sb_s (sb_s (sb_s (sb_n (sb_z _))))))
      · have hf := ite_t hf hc
        refine r_iinc (v := x3 + 1) hX e_X11_laysTurns_142 rfl (ii_s ic_1) (Nat.le_of_ble_eq_true rfl) rfl ?_
        refine r_aload_n (i := 0) hX e_X11_laysTurns_145 rfl rfl ?_
        refine r_getR hX hn e_X11_laysTurns_146 fl_11_59 rfl g1 hr4 ?_
        refine r_iload_n (i := 2) hX e_X11_laysTurns_149 rfl rfl ?_
        refine r_iconst hX e_X11_laysTurns_150 ic_0 ?_
        obtain ⟨M6, hM6, hf⟩ := nx_s hf
        refine r_iast hX hn hM6 e_X11_laysTurns_151 g5 ?_
        exact GoN.weak (t_X11_laysTurns_152 hX hn hR hk22 hk34 M6 (x0) (x1) (x2) ((x3 + 1)) hf) rfl (sb_s (sb_s (sb_s (sb_s (sb_n (sb_z _))))))
theorem t_X11_laysTurns_102 {X : Cx} {res : Mem} {k22 : Mem → Nat → Int32 → Option (Mem)} {k34 : Mem → Nat → Int32 → Int32 → Option (Mem)} (hX : OkX X cX11_laysTurns RX11 2 48) (hn : Fit X shR nR) (hR : RetV X shR nR res) (hk22 : ∀ M x0 x1, k22 M x0 x1 = some res → GoN X shR nR 0 0 M 22 [some (.ref (X.B + x0)), some (.int (x1)), none, none, none] []) (hk34 : ∀ M x0 x1 x2, k34 M x0 x1 x2 = some res → GoN X shR nR 0 0 M 34 [some (.ref (X.B + x0)), some (.int (x1)), some (.int (x2)), none, none] []) (M : Mem) (x0 : Nat) (x1 : Int32) (x2 : Int32) (x3 : Int32) (hf : f_X11_laysTurns_102 k22 k34 M x0 x1 x2 x3 = some res) : GoN X shR nR 0 0 M 102 [some (.ref (X.B + x0)), some (.int (x1)), some (.int (x2)), some (.int (x3)), none] [] := by
  refine r_iconst hX e_X11_laysTurns_102 ic_1 ?_
  refine r_goto hX e_X11_laysTurns_103 ?_
  exact GoN.weak (t_X11_laysTurns_107 hX hn hR hk22 hk34 M (x0) (x1) (x2) (x3) (1) hf) rfl (sb_s (sb_s (sb_s (sb_s (sb_n (sb_z _))))))
theorem t_X11_laysTurns_86 {X : Cx} {res : Mem} {k22 : Mem → Nat → Int32 → Option (Mem)} {k34 : Mem → Nat → Int32 → Int32 → Option (Mem)} (hX : OkX X cX11_laysTurns RX11 2 48) (hn : Fit X shR nR) (hR : RetV X shR nR res) (hk22 : ∀ M x0 x1, k22 M x0 x1 = some res → GoN X shR nR 0 0 M 22 [some (.ref (X.B + x0)), some (.int (x1)), none, none, none] []) (hk34 : ∀ M x0 x1 x2, k34 M x0 x1 x2 = some res → GoN X shR nR 0 0 M 34 [some (.ref (X.B + x0)), some (.int (x1)), some (.int (x2)), none, none] []) (M : Mem) (x0 : Nat) (x1 : Int32) (x2 : Int32) (x3 : Int32) (s0 : Int32) (hf : f_X11_laysTurns_86 k22 k34 M x0 x1 x2 x3 s0 = some res) : GoN X shR nR 0 0 M 86 [some (.ref (X.B + x0)), some (.int (x1)), some (.int (x2)), some (.int (x3)), none] [.int (s0)] := by
  refine r_istore hX e_X11_laysTurns_86 (Nat.le_of_ble_eq_true rfl) rfl ?_
  refine r_aload_n (i := 0) hX e_X11_laysTurns_88 rfl rfl ?_
  refine r_iload_n (i := 2) hX e_X11_laysTurns_89 rfl rfl ?_
  refine r_iload_n (i := 1) hX e_X11_laysTurns_90 rfl rfl ?_
  obtain ⟨g1, hf⟩ := gd_s hf
  obtain ⟨v2, hv2, hf⟩ := bd_s hf
  refine r_cvi (As := fun K B => [.int (x2), .int (x1)]) hX hn (t_X11_isStuck hv2) e_X11_laysTurns_91 cw_X11_isStuck cv_X11_isStuck lk_11_343 ⟨Nat.le_of_ble_eq_true rfl, Nat.le_of_ble_eq_true rfl⟩ (ci := 11) rfl rfl (Nat.le_of_ble_eq_true rfl) g1 rfl rfl (Nat.le_of_ble_eq_true rfl) ⟨Nat.zero_le _, Nat.zero_le _⟩ ?_
  refine r_if_ne hX e_X11_laysTurns_94 (fun hc => ?_) (fun hc => ?_)
  · have hf := ite_f hf hc
    exact GoN.weak (t_X11_laysTurns_102 hX hn hR hk22 hk34 M (x0) (x1) (x2) (x3) hf) rfl (sb_s (sb_s (sb_s (sb_s (sb_n (sb_z _))))))
  · have hf := ite_t hf hc
    refine r_iload hX e_X11_laysTurns_97 rfl ?_
    refine r_if_eq hX e_X11_laysTurns_99 (fun hc => ?_) (fun hc => ?_)
    · have hf := ite_t hf hc
      refine r_iconst hX e_X11_laysTurns_106 ic_0 ?_
      exact GoN.weak (t_X11_laysTurns_107 hX hn hR hk22 hk34 M (x0) (x1) (x2) (x3) (0) hf) rfl (sb_s (sb_s (sb_s (sb_s (sb_n (sb_z _))))))
    · have hf := ite_f hf hc
      exact GoN.weak (t_X11_laysTurns_102 hX hn hR hk22 hk34 M (x0) (x1) (x2) (x3) hf) rfl (sb_s (sb_s (sb_s (sb_s (sb_n (sb_z _))))))
theorem t_X11_laysTurns_85 {X : Cx} {res : Mem} {k22 : Mem → Nat → Int32 → Option (Mem)} {k34 : Mem → Nat → Int32 → Int32 → Option (Mem)} (hX : OkX X cX11_laysTurns RX11 2 48) (hn : Fit X shR nR) (hR : RetV X shR nR res) (hk22 : ∀ M x0 x1, k22 M x0 x1 = some res → GoN X shR nR 0 0 M 22 [some (.ref (X.B + x0)), some (.int (x1)), none, none, none] []) (hk34 : ∀ M x0 x1 x2, k34 M x0 x1 x2 = some res → GoN X shR nR 0 0 M 34 [some (.ref (X.B + x0)), some (.int (x1)), some (.int (x2)), none, none] []) (M : Mem) (x0 : Nat) (x1 : Int32) (x2 : Int32) (x3 : Int32) (hf : f_X11_laysTurns_85 k22 k34 M x0 x1 x2 x3 = some res) : GoN X shR nR 0 0 M 85 [some (.ref (X.B + x0)), some (.int (x1)), some (.int (x2)), some (.int (x3)), none] [] := by
  refine r_iconst hX e_X11_laysTurns_85 ic_0 ?_
  exact GoN.weak (t_X11_laysTurns_86 hX hn hR hk22 hk34 M (x0) (x1) (x2) (x3) (0) hf) rfl (sb_s (sb_s (sb_s (sb_s (sb_n (sb_z _))))))
theorem t_X11_laysTurns_65 {X : Cx} {res : Mem} {k22 : Mem → Nat → Int32 → Option (Mem)} {k34 : Mem → Nat → Int32 → Int32 → Option (Mem)} (hX : OkX X cX11_laysTurns RX11 2 48) (hn : Fit X shR nR) (hR : RetV X shR nR res) (hk22 : ∀ M x0 x1, k22 M x0 x1 = some res → GoN X shR nR 0 0 M 22 [some (.ref (X.B + x0)), some (.int (x1)), none, none, none] []) (hk34 : ∀ M x0 x1 x2, k34 M x0 x1 x2 = some res → GoN X shR nR 0 0 M 34 [some (.ref (X.B + x0)), some (.int (x1)), some (.int (x2)), none, none] []) (M : Mem) (x0 : Nat) (x1 : Int32) (x2 : Int32) (s0 : Int32) (hf : f_X11_laysTurns_65 k22 k34 M x0 x1 x2 s0 = some res) : GoN X shR nR 0 0 M 65 [some (.ref (X.B + x0)), some (.int (x1)), some (.int (x2)), none, none] [.int (s0)] := by
  refine r_istore_n (i := 3) hX e_X11_laysTurns_65 rfl (Nat.le_of_ble_eq_true rfl) rfl ?_
  refine r_aload_n (i := 0) hX e_X11_laysTurns_66 rfl rfl ?_
  obtain ⟨g1, hf⟩ := gd_s hf
  refine r_getI hX hn e_X11_laysTurns_67 fl_11_337 rfl g1 ?_
  refine r_iconst hX e_X11_laysTurns_70 ic_m1 ?_
  refine r_icmp_eq hX e_X11_laysTurns_71 (fun hc => ?_) (fun hc => ?_)
  · have hf := ite_t hf hc
    exact GoN.weak (t_X11_laysTurns_85 hX hn hR hk22 hk34 M (x0) (x1) (x2) (s0) hf) rfl (sb_s (sb_s (sb_s (sb_s (sb_n (sb_z _))))))
  · have hf := ite_f hf hc
    refine r_aload_n (i := 0) hX e_X11_laysTurns_74 rfl rfl ?_
    obtain ⟨u2, hu2, hf⟩ := bd_s hf
    refine r_cvi (As := fun K B => []) hX hn (t_X11_isDrawn hu2) e_X11_laysTurns_75 cw_X11_isDrawn cv_X11_isDrawn lk_11_340 ⟨Nat.le_of_ble_eq_true rfl, Nat.le_of_ble_eq_true rfl⟩ (ci := 11) rfl rfl (Nat.le_of_ble_eq_true rfl) g1 rfl rfl (Nat.le_of_ble_eq_true rfl) ⟨Nat.zero_le _, Nat.zero_le _⟩ ?_
    refine r_if_eq hX e_X11_laysTurns_78 (fun hc => ?_) (fun hc => ?_)
    · have hf := ite_t hf hc
      exact GoN.weak (t_X11_laysTurns_85 hX hn hR hk22 hk34 u2.1 (x0) (x1) (x2) (s0) hf) rfl (sb_s (sb_s (sb_s (sb_s (sb_n (sb_z _))))))
    · have hf := ite_f hf hc
      refine r_iconst hX e_X11_laysTurns_81 ic_1 ?_
      refine r_goto hX e_X11_laysTurns_82 ?_
      exact GoN.weak (t_X11_laysTurns_86 hX hn hR hk22 hk34 u2.1 (x0) (x1) (x2) (s0) (1) hf) rfl (sb_s (sb_s (sb_s (sb_s (sb_n (sb_z _))))))
theorem t_s_X11_laysTurns_34 {X : Cx} {res : Mem} {k22 : Mem → Nat → Int32 → Option (Mem)} {k34 : Mem → Nat → Int32 → Int32 → Option (Mem)} (hX : OkX X cX11_laysTurns RX11 2 48) (hn : Fit X shR nR) (hR : RetV X shR nR res) (hk22 : ∀ M x0 x1, k22 M x0 x1 = some res → GoN X shR nR 0 0 M 22 [some (.ref (X.B + x0)), some (.int (x1)), none, none, none] []) (hk34 : ∀ M x0 x1 x2, k34 M x0 x1 x2 = some res → GoN X shR nR 0 0 M 34 [some (.ref (X.B + x0)), some (.int (x1)), some (.int (x2)), none, none] []) (M : Mem) (x0 : Nat) (x1 : Int32) (x2 : Int32) (hf : s_X11_laysTurns_34 k22 k34 M x0 x1 x2 = some res) : GoN X shR nR 0 0 M 34 [some (.ref (X.B + x0)), some (.int (x1)), some (.int (x2)), none, none] [] := by
  refine r_iload_n (i := 2) hX e_X11_laysTurns_34 rfl rfl ?_
  refine r_aload_n (i := 0) hX e_X11_laysTurns_35 rfl rfl ?_
  obtain ⟨g1, hf⟩ := gd_s hf
  obtain ⟨r2, hr2, hf⟩ := bd_s hf
  refine r_getR hX hn e_X11_laysTurns_36 fl_11_34 rfl g1 hr2 ?_
  refine r_iconst hX e_X11_laysTurns_39 ic_2 ?_
  obtain ⟨g3, hf⟩ := gd_s hf
  refine r_iald hX hn e_X11_laysTurns_40 g3 ?_
  refine r_icmp_ge hX e_X11_laysTurns_41 (fun hc => ?_) (fun hc => ?_)
  · have hf := ite_t hf hc
    refine r_iinc (v := x1 + 1) hX e_X11_laysTurns_180 rfl (ii_s ic_1) (Nat.le_of_ble_eq_true rfl) rfl ?_
    refine r_goto hX e_X11_laysTurns_183 ?_
    exact GoN.weak (hk22 M (x0) ((x1 + 1)) hf) rfl (sb_s (sb_s (sb_n (sb_n (sb_n (sb_z _))))))
  · have hf := ite_f hf hc
    refine r_iload_n (i := 1) hX e_X11_laysTurns_44 rfl rfl ?_
    refine r_if_ne hX e_X11_laysTurns_45 (fun hc => ?_) (fun hc => ?_)
    · have hf := ite_f hf hc
      refine r_aload_n (i := 0) hX e_X11_laysTurns_52 rfl rfl ?_
      obtain ⟨r4, hr4, hf⟩ := bd_s hf
      refine r_getR hX hn e_X11_laysTurns_53 fl_11_56 rfl g1 hr4 ?_
      refine r_bipush hX e_X11_laysTurns_56 bc_60 ?_
      refine r_iload_n (i := 2) hX e_X11_laysTurns_58 rfl rfl ?_
      refine r_imul hX e_X11_laysTurns_59 ?_
      refine r_iload_n (i := 1) hX e_X11_laysTurns_60 rfl rfl ?_
      refine r_iadd hX e_X11_laysTurns_61 ?_
      refine r_iconst hX e_X11_laysTurns_62 ic_1 ?_
      refine r_isub hX e_X11_laysTurns_63 ?_
      obtain ⟨g5, hf⟩ := gd_s hf
      refine r_iald hX hn e_X11_laysTurns_64 g5 ?_
      obtain ⟨v6, hv6, hf⟩ := nx_s hf
      refine top_i hv6 ?_
      exact GoN.weak (t_X11_laysTurns_65 hX hn hR hk22 hk34 M (x0) (x1) (x2) (v6) hf) rfl (sb_s (sb_s (sb_s (sb_n (sb_n (sb_z _))))))
    · have hf := ite_t hf hc
      refine r_iconst hX e_X11_laysTurns_48 ic_0 ?_
      refine r_goto hX e_X11_laysTurns_49 ?_
      exact GoN.weak (t_X11_laysTurns_65 hX hn hR hk22 hk34 M (x0) (x1) (x2) (0) hf) rfl (sb_s (sb_s (sb_s (sb_n (sb_n (sb_z _))))))
theorem t_X11_laysTurns_34 {X : Cx} {res : Mem} {k22 : Mem → Nat → Int32 → Option (Mem)} (hX : OkX X cX11_laysTurns RX11 2 48) (hn : Fit X shR nR) (hR : RetV X shR nR res) (hk22 : ∀ M x0 x1, k22 M x0 x1 = some res → GoN X shR nR 0 0 M 22 [some (.ref (X.B + x0)), some (.int (x1)), none, none, none] []) : ∀ (n : Nat) (M : Mem) (x0 : Nat) (x1 : Int32) (x2 : Int32),  f_X11_laysTurns_34 k22 n M x0 x1 x2 = some res → GoN X shR nR 0 0 M 34 [some (.ref (X.B + x0)), some (.int (x1)), some (.int (x2)), none, none] [] := by
  intro n
  induction n with
  | zero => intro M x0 x1 x2 hf; cases hf
  | succ n ih => intro M x0 x1 x2 hf; exact t_s_X11_laysTurns_34 hX hn hR hk22 ih M x0 x1 x2 hf
theorem t_s_X11_laysTurns_22 {X : Cx} {res : Mem} {k22 : Mem → Nat → Int32 → Option (Mem)} (hX : OkX X cX11_laysTurns RX11 2 48) (hn : Fit X shR nR) (hR : RetV X shR nR res) (hk22 : ∀ M x0 x1, k22 M x0 x1 = some res → GoN X shR nR 0 0 M 22 [some (.ref (X.B + x0)), some (.int (x1)), none, none, none] []) (M : Mem) (x0 : Nat) (x1 : Int32) (hf : s_X11_laysTurns_22 k22 M x0 x1 = some res) : GoN X shR nR 0 0 M 22 [some (.ref (X.B + x0)), some (.int (x1)), none, none, none] [] := by
  refine r_iload_n (i := 1) hX e_X11_laysTurns_22 rfl rfl ?_
  refine r_aload_n (i := 0) hX e_X11_laysTurns_23 rfl rfl ?_
  obtain ⟨g1, hf⟩ := gd_s hf
  obtain ⟨r2, hr2, hf⟩ := bd_s hf
  refine r_getR hX hn e_X11_laysTurns_24 fl_11_34 rfl g1 hr2 ?_
  refine r_iconst hX e_X11_laysTurns_27 ic_1 ?_
  obtain ⟨g3, hf⟩ := gd_s hf
  refine r_iald hX hn e_X11_laysTurns_28 g3 ?_
  refine r_icmp_ge hX e_X11_laysTurns_29 (fun hc => ?_) (fun hc => ?_)
  · have hf := ite_t hf hc
    exact r_ret hX hR e_X11_laysTurns_186 hf
  · have hf := ite_f hf hc
    refine r_iconst hX e_X11_laysTurns_32 ic_0 ?_
    refine r_istore_n (i := 2) hX e_X11_laysTurns_33 rfl (Nat.le_of_ble_eq_true rfl) rfl ?_
    exact GoN.weak (t_X11_laysTurns_34 hX hn hR hk22 FU M (x0) (x1) (0) hf) rfl (sb_s (sb_s (sb_s (sb_n (sb_n (sb_z _))))))
theorem t_X11_laysTurns_22 {X : Cx} {res : Mem}  (hX : OkX X cX11_laysTurns RX11 2 48) (hn : Fit X shR nR) (hR : RetV X shR nR res)  : ∀ (n : Nat) (M : Mem) (x0 : Nat) (x1 : Int32),  f_X11_laysTurns_22  n M x0 x1 = some res → GoN X shR nR 0 0 M 22 [some (.ref (X.B + x0)), some (.int (x1)), none, none, none] [] := by
  intro n
  induction n with
  | zero => intro M x0 x1 hf; cases hf
  | succ n ih => intro M x0 x1 hf; exact t_s_X11_laysTurns_22 hX hn hR  ih M x0 x1 hf
theorem t_s_X11_laysTurns_2 {X : Cx} {res : Mem} {k2 : Mem → Nat → Int32 → Option (Mem)} (hX : OkX X cX11_laysTurns RX11 2 48) (hn : Fit X shR nR) (hR : RetV X shR nR res) (hk2 : ∀ M x0 x1, k2 M x0 x1 = some res → GoN X shR nR 0 0 M 2 [some (.ref (X.B + x0)), some (.int (x1)), none, none, none] []) (M : Mem) (x0 : Nat) (x1 : Int32) (hf : s_X11_laysTurns_2 k2 M x0 x1 = some res) : GoN X shR nR 0 0 M 2 [some (.ref (X.B + x0)), some (.int (x1)), none, none, none] [] := by
  refine r_iload_n (i := 1) hX e_X11_laysTurns_2 rfl rfl ?_
  refine r_iconst hX e_X11_laysTurns_3 ic_3 ?_
  refine r_icmp_ge hX e_X11_laysTurns_4 (fun hc => ?_) (fun hc => ?_)
  · have hf := ite_t hf hc
    refine r_iconst hX e_X11_laysTurns_20 ic_0 ?_
    refine r_istore_n (i := 1) hX e_X11_laysTurns_21 rfl (Nat.le_of_ble_eq_true rfl) rfl ?_
    exact GoN.weak (t_X11_laysTurns_22 hX hn hR FU M (x0) (0) hf) rfl (sb_s (sb_s (sb_n (sb_n (sb_n (sb_z _))))))
  · have hf := ite_f hf hc
    refine r_aload_n (i := 0) hX e_X11_laysTurns_7 rfl rfl ?_
    obtain ⟨g1, hf⟩ := gd_s hf
    obtain ⟨r2, hr2, hf⟩ := bd_s hf
    refine r_getR hX hn e_X11_laysTurns_8 fl_11_59 rfl g1 hr2 ?_
    refine r_iload_n (i := 1) hX e_X11_laysTurns_11 rfl rfl ?_
    refine r_iconst hX e_X11_laysTurns_12 ic_0 ?_
    obtain ⟨g3, hf⟩ := gd_s hf
    obtain ⟨M4, hM4, hf⟩ := nx_s hf
    refine r_iast hX hn hM4 e_X11_laysTurns_13 g3 ?_
    refine r_iinc (v := x1 + 1) hX e_X11_laysTurns_14 rfl (ii_s ic_1) (Nat.le_of_ble_eq_true rfl) rfl ?_
    refine r_goto hX e_X11_laysTurns_17 ?_
    exact GoN.weak (hk2 M4 (x0) ((x1 + 1)) hf) rfl (sb_s (sb_s (sb_n (sb_n (sb_n (sb_z _))))))
theorem t_X11_laysTurns_2 {X : Cx} {res : Mem}  (hX : OkX X cX11_laysTurns RX11 2 48) (hn : Fit X shR nR) (hR : RetV X shR nR res)  : ∀ (n : Nat) (M : Mem) (x0 : Nat) (x1 : Int32),  f_X11_laysTurns_2  n M x0 x1 = some res → GoN X shR nR 0 0 M 2 [some (.ref (X.B + x0)), some (.int (x1)), none, none, none] [] := by
  intro n
  induction n with
  | zero => intro M x0 x1 hf; cases hf
  | succ n ih => intro M x0 x1 hf; exact t_s_X11_laysTurns_2 hX hn hR  ih M x0 x1 hf
theorem t_X11_laysTurns {l : Launch} {M : Mem} {a0 : Nat} {res : Mem} (hf : f_X11_laysTurns M a0 = some res) : Cv l yX11_laysTurns cX11_laysTurns 5 none 2 48 shR nR (fun K B => [.ref (B + a0)]) M res := by
  refine met_v (own := RX11) (lo := fun K B => [some (.ref (B + a0)), none, none, none, none]) (by decide +kernel) rfl shR_ok (fun _ _ => rfl) (fun _ _ => rfl) (fun _ _ => Nat.le_of_ble_eq_true rfl) (fun X hX hn hlx hR => ?_)
  refine r_iconst hX e_X11_laysTurns_0 ic_0 ?_
  refine r_istore_n (i := 1) hX e_X11_laysTurns_1 rfl (Nat.le_of_ble_eq_true rfl) rfl ?_
  exact GoN.weak (t_X11_laysTurns_2 hX hn hR FU M (a0) (0) hf) rfl (sb_s (sb_s (sb_n (sb_n (sb_n (sb_z _))))))
def f_X11_plainly (M : Mem) (a0 : Nat) : Option (Mem) :=
  gd (oB shR a0 11) <| nx (sI M a0 25 (-1)) fun M2 => nx (sI M2 a0 27 (-1)) fun M3 => some M3
theorem t_X11_plainly {l : Launch} {M : Mem} {a0 : Nat} {res : Mem} (hf : f_X11_plainly M a0 = some res) : Cv l yX11_plainly cX11_plainly 1 none 0 0 shR nR (fun K B => [.ref (B + a0)]) M res := by
  refine met_v (own := RX11) (lo := fun K B => [some (.ref (B + a0))]) (by decide +kernel) rfl shR_ok (fun _ _ => rfl) (fun _ _ => rfl) (fun _ _ => Nat.le_of_ble_eq_true rfl) (fun X hX hn hlx hR => ?_)
  refine r_aload_n (i := 0) hX e_X11_plainly_0 rfl rfl ?_
  refine r_iconst hX e_X11_plainly_1 ic_m1 ?_
  obtain ⟨g1, hf⟩ := gd_s hf
  obtain ⟨M2, hM2, hf⟩ := nx_s hf
  refine r_putI hX hn hM2 e_X11_plainly_2 fl_11_318 fp_11_25 rfl g1 ?_
  refine r_aload_n (i := 0) hX e_X11_plainly_5 rfl rfl ?_
  refine r_iconst hX e_X11_plainly_6 ic_m1 ?_
  obtain ⟨M3, hM3, hf⟩ := nx_s hf
  refine r_putI hX hn hM3 e_X11_plainly_7 fl_11_337 fp_11_27 rfl g1 ?_
  exact r_ret hX hR e_X11_plainly_10 hf
def f_X11_asTold (M : Mem) (a0 : Nat) : Option (Mem) :=
  gd (oB shR a0 11) <| bd (f_X11_plainly M a0) fun u2 => bd (f_X11_laysTurns u2 a0) fun u3 => some u3
theorem t_X11_asTold {l : Launch} {M : Mem} {a0 : Nat} {res : Mem} (hf : f_X11_asTold M a0 = some res) : Cv l yX11_asTold cX11_asTold 1 none 3 72 shR nR (fun K B => [.ref (B + a0)]) M res := by
  refine met_v (own := RX11) (lo := fun K B => [some (.ref (B + a0))]) (by decide +kernel) rfl shR_ok (fun _ _ => rfl) (fun _ _ => rfl) (fun _ _ => Nat.le_of_ble_eq_true rfl) (fun X hX hn hlx hR => ?_)
  refine r_aload_n (i := 0) hX e_X11_asTold_0 rfl rfl ?_
  obtain ⟨g1, hf⟩ := gd_s hf
  obtain ⟨u2, hu2, hf⟩ := bd_s hf
  refine r_cvv (As := fun K B => []) hX hn (t_X11_plainly hu2) e_X11_asTold_1 cw_X11_plainly cv_X11_plainly lk_11_347 ⟨Nat.le_of_ble_eq_true rfl, Nat.le_of_ble_eq_true rfl⟩ (ci := 11) rfl rfl (Nat.le_of_ble_eq_true rfl) g1 rfl rfl (Nat.le_of_ble_eq_true rfl) ⟨Nat.zero_le _, Nat.zero_le _⟩ ?_
  refine r_aload_n (i := 0) hX e_X11_asTold_4 rfl rfl ?_
  obtain ⟨u3, hu3, hf⟩ := bd_s hf
  refine r_cvv (As := fun K B => []) hX hn (t_X11_laysTurns hu3) e_X11_asTold_5 cw_X11_laysTurns cv_X11_laysTurns lk_11_350 ⟨Nat.le_of_ble_eq_true rfl, Nat.le_of_ble_eq_true rfl⟩ (ci := 11) rfl rfl (Nat.le_of_ble_eq_true rfl) g1 rfl rfl (Nat.le_of_ble_eq_true rfl) ⟨Nat.zero_le _, Nat.zero_le _⟩ ?_
  exact r_ret hX hR e_X11_asTold_8 hf
def f_X11_placeOf (M : Mem) (a0 : Nat) (a1 : Int32) (a2 : Int32) : Option (Int32) :=
  gd (oB shR a0 11) <| bd (f_X11_of M a0 a1 0) fun v2 => bd (f_X11_of M a0 a1 1) fun v3 => bd (gR M a0 18) fun r4 => gd (aB shR r4 0 ((2 * v2) + 1)) <| nx ((gI M r4 (((2 * v2) + 1) : Int32).toNatClampNeg)) fun v6 => bd (gR M a0 24) fun r7 => gd (aB shR r7 0 ((60 * v2) + a2)) <| nx ((gI M r7 (((60 * v2) + a2) : Int32).toNatClampNeg)) fun v9 => bd (gR M a0 17) fun r10 => gd (aB shR r10 0 0) <| gd (!((gI M r10 (0 : Int32).toNatClampNeg) == 0)) <| nx (((v3 + (v6 * v9)) - (v3 + (v6 * v9)) / (gI M r10 (0 : Int32).toNatClampNeg) * (gI M r10 (0 : Int32).toNatClampNeg))) fun v13 => if 0 ≤ v13 then some v13 else some (v13 + (gI M r10 (0 : Int32).toNatClampNeg))
theorem t_X11_placeOf {l : Launch} {M : Mem} {a0 : Nat} {a1 a2 : Int32} {res : Int32} (hf : f_X11_placeOf M a0 a1 a2 = some res) : Ci l yX11_placeOf cX11_placeOf 5 (some .int) 1 22 shR nR (fun K B => [.ref (B + a0), .int a1, .int a2]) M (M, res) := by
  refine met_i (own := RX11) (lo := fun K B => [some (.ref (B + a0)), some (.int a1), some (.int a2), none, none]) (by decide +kernel) rfl shR_ok (fun _ _ => rfl) (fun _ _ => rfl) (fun _ _ => Nat.le_of_ble_eq_true rfl) (fun X hX hn hlx hR => ?_)
  refine r_aload_n (i := 0) hX e_X11_placeOf_0 rfl rfl ?_
  refine r_iload_n (i := 1) hX e_X11_placeOf_1 rfl rfl ?_
  refine r_iconst hX e_X11_placeOf_2 ic_0 ?_
  obtain ⟨g1, hf⟩ := gd_s hf
  obtain ⟨v2, hv2, hf⟩ := bd_s hf
  refine r_cvi (As := fun K B => [.int (a1), .int (0)]) hX hn (t_X11_of hv2) e_X11_placeOf_3 cw_X11_of cv_X11_of lk_11_310 ⟨Nat.le_of_ble_eq_true rfl, Nat.le_of_ble_eq_true rfl⟩ (ci := 11) rfl rfl (Nat.le_of_ble_eq_true rfl) g1 rfl rfl (Nat.le_of_ble_eq_true rfl) ⟨Nat.zero_le _, Nat.zero_le _⟩ ?_
  refine r_istore_n (i := 3) hX e_X11_placeOf_6 rfl (Nat.le_of_ble_eq_true rfl) rfl ?_
  refine r_aload_n (i := 0) hX e_X11_placeOf_7 rfl rfl ?_
  refine r_iload_n (i := 1) hX e_X11_placeOf_8 rfl rfl ?_
  refine r_iconst hX e_X11_placeOf_9 ic_1 ?_
  obtain ⟨v3, hv3, hf⟩ := bd_s hf
  refine r_cvi (As := fun K B => [.int (a1), .int (1)]) hX hn (t_X11_of hv3) e_X11_placeOf_10 cw_X11_of cv_X11_of lk_11_310 ⟨Nat.le_of_ble_eq_true rfl, Nat.le_of_ble_eq_true rfl⟩ (ci := 11) rfl rfl (Nat.le_of_ble_eq_true rfl) g1 rfl rfl (Nat.le_of_ble_eq_true rfl) ⟨Nat.zero_le _, Nat.zero_le _⟩ ?_
  refine r_aload_n (i := 0) hX e_X11_placeOf_13 rfl rfl ?_
  obtain ⟨r4, hr4, hf⟩ := bd_s hf
  refine r_getR hX hn e_X11_placeOf_14 fl_11_37 rfl g1 hr4 ?_
  refine r_iconst hX e_X11_placeOf_17 ic_2 ?_
  refine r_iload_n (i := 3) hX e_X11_placeOf_18 rfl rfl ?_
  refine r_imul hX e_X11_placeOf_19 ?_
  refine r_iconst hX e_X11_placeOf_20 ic_1 ?_
  refine r_iadd hX e_X11_placeOf_21 ?_
  obtain ⟨g5, hf⟩ := gd_s hf
  refine r_iald hX hn e_X11_placeOf_22 g5 ?_
  obtain ⟨v6, hv6, hf⟩ := nx_s hf
  refine top_i hv6 ?_
  refine r_aload_n (i := 0) hX e_X11_placeOf_23 rfl rfl ?_
  obtain ⟨r7, hr7, hf⟩ := bd_s hf
  refine r_getR hX hn e_X11_placeOf_24 fl_11_56 rfl g1 hr7 ?_
  refine r_bipush hX e_X11_placeOf_27 bc_60 ?_
  refine r_iload_n (i := 3) hX e_X11_placeOf_29 rfl rfl ?_
  refine r_imul hX e_X11_placeOf_30 ?_
  refine r_iload_n (i := 2) hX e_X11_placeOf_31 rfl rfl ?_
  refine r_iadd hX e_X11_placeOf_32 ?_
  obtain ⟨g8, hf⟩ := gd_s hf
  refine r_iald hX hn e_X11_placeOf_33 g8 ?_
  obtain ⟨v9, hv9, hf⟩ := nx_s hf
  refine top_i hv9 ?_
  refine r_imul hX e_X11_placeOf_34 ?_
  refine r_iadd hX e_X11_placeOf_35 ?_
  refine r_aload_n (i := 0) hX e_X11_placeOf_36 rfl rfl ?_
  obtain ⟨r10, hr10, hf⟩ := bd_s hf
  refine r_getR hX hn e_X11_placeOf_37 fl_11_34 rfl g1 hr10 ?_
  refine r_iconst hX e_X11_placeOf_40 ic_0 ?_
  obtain ⟨g11, hf⟩ := gd_s hf
  refine r_iald hX hn e_X11_placeOf_41 g11 ?_
  obtain ⟨g12, hf⟩ := gd_s hf
  refine r_irem hX e_X11_placeOf_42 (by simpa using g12) ?_
  obtain ⟨v13, hv13, hf⟩ := nx_s hf
  refine top_i hv13 ?_
  refine r_istore hX e_X11_placeOf_43 (Nat.le_of_ble_eq_true rfl) rfl ?_
  refine r_iload hX e_X11_placeOf_45 rfl ?_
  refine r_if_ge hX e_X11_placeOf_47 (fun hc => ?_) (fun hc => ?_)
  · have hf := ite_t hf hc
    refine r_iload hX e_X11_placeOf_62 rfl ?_
    exact r_iret hX hR e_X11_placeOf_64 (ro_s hf)
  · have hf := ite_f hf hc
    refine r_iload hX e_X11_placeOf_50 rfl ?_
    refine r_aload_n (i := 0) hX e_X11_placeOf_52 rfl rfl ?_
    refine r_getR hX hn e_X11_placeOf_53 fl_11_34 rfl g1 hr10 ?_
    refine r_iconst hX e_X11_placeOf_56 ic_0 ?_
    refine r_iald hX hn e_X11_placeOf_57 g11 ?_
    refine r_iadd hX e_X11_placeOf_58 ?_
    refine r_goto hX e_X11_placeOf_59 ?_
    exact r_iret hX hR e_X11_placeOf_64 (ro_s hf)
def f_X11_at (M : Mem) (a0 : Nat) (a1 : Int32) (a2 : Int32) : Option (Mem × Int32) :=
  gd (oB shR a0 11) <| nx (sI M a0 0 0) fun M2 => bd (f_X11_isStall M2 a0 a1) fun v3 => if v3 = 0 then some (M2, (-2)) else bd (f_X11_isMinute M2 a0 a2) fun v4 => if v4 = 0 then some (M2, (-2)) else bd (f_X11_asTold M2 a0) fun u5 => bd (f_X11_placeOf u5 a0 a1 a2) fun v6 => some (u5, v6)
theorem t_X11_at {l : Launch} {M : Mem} {a0 : Nat} {a1 a2 : Int32} {res : Mem × Int32} (hf : f_X11_at M a0 a1 a2 = some res) : Ci l yX11_at cX11_at 3 (some .int) 4 92 shR nR (fun K B => [.ref (B + a0), .int a1, .int a2]) M res := by
  refine met_i (own := RX11) (lo := fun K B => [some (.ref (B + a0)), some (.int a1), some (.int a2)]) (by decide +kernel) rfl shR_ok (fun _ _ => rfl) (fun _ _ => rfl) (fun _ _ => Nat.le_of_ble_eq_true rfl) (fun X hX hn hlx hR => ?_)
  refine r_aload_n (i := 0) hX e_X11_at_0 rfl rfl ?_
  refine r_iconst hX e_X11_at_1 ic_0 ?_
  obtain ⟨g1, hf⟩ := gd_s hf
  obtain ⟨M2, hM2, hf⟩ := nx_s hf
  refine r_putI hX hn hM2 e_X11_at_2 fl_11_122 fp_11_0 rfl g1 ?_
  refine r_aload_n (i := 0) hX e_X11_at_5 rfl rfl ?_
  refine r_iload_n (i := 1) hX e_X11_at_6 rfl rfl ?_
  obtain ⟨v3, hv3, hf⟩ := bd_s hf
  refine r_cvi (As := fun K B => [.int (a1)]) hX hn (t_X11_isStall hv3) e_X11_at_7 cw_X11_isStall cv_X11_isStall lk_11_305 ⟨Nat.le_of_ble_eq_true rfl, Nat.le_of_ble_eq_true rfl⟩ (ci := 11) rfl rfl (Nat.le_of_ble_eq_true rfl) g1 rfl rfl (Nat.le_of_ble_eq_true rfl) ⟨Nat.zero_le _, Nat.zero_le _⟩ ?_
  refine r_if_eq hX e_X11_at_10 (fun hc => ?_) (fun hc => ?_)
  · have hf := ite_t hf hc
    refine r_bipush hX e_X11_at_21 bc_m2 ?_
    exact r_iret hX hR e_X11_at_23 hf
  · have hf := ite_f hf hc
    refine r_aload_n (i := 0) hX e_X11_at_13 rfl rfl ?_
    refine r_iload_n (i := 2) hX e_X11_at_14 rfl rfl ?_
    obtain ⟨v4, hv4, hf⟩ := bd_s hf
    refine r_cvi (As := fun K B => [.int (a2)]) hX hn (t_X11_isMinute hv4) e_X11_at_15 cw_X11_isMinute cv_X11_isMinute lk_11_353 ⟨Nat.le_of_ble_eq_true rfl, Nat.le_of_ble_eq_true rfl⟩ (ci := 11) rfl rfl (Nat.le_of_ble_eq_true rfl) g1 rfl rfl (Nat.le_of_ble_eq_true rfl) ⟨Nat.zero_le _, Nat.zero_le _⟩ ?_
    refine r_if_ne hX e_X11_at_18 (fun hc => ?_) (fun hc => ?_)
    · have hf := ite_f hf hc
      refine r_aload_n (i := 0) hX e_X11_at_24 rfl rfl ?_
      obtain ⟨u5, hu5, hf⟩ := bd_s hf
      refine r_cvv (As := fun K B => []) hX hn (t_X11_asTold hu5) e_X11_at_25 cw_X11_asTold cv_X11_asTold lk_11_356 ⟨Nat.le_of_ble_eq_true rfl, Nat.le_of_ble_eq_true rfl⟩ (ci := 11) rfl rfl (Nat.le_of_ble_eq_true rfl) g1 rfl rfl (Nat.le_of_ble_eq_true rfl) ⟨Nat.zero_le _, Nat.zero_le _⟩ ?_
      refine r_aload_n (i := 0) hX e_X11_at_28 rfl rfl ?_
      refine r_iload_n (i := 1) hX e_X11_at_29 rfl rfl ?_
      refine r_iload_n (i := 2) hX e_X11_at_30 rfl rfl ?_
      obtain ⟨v6, hv6, hf⟩ := bd_s hf
      refine r_cvi (As := fun K B => [.int (a1), .int (a2)]) hX hn (t_X11_placeOf hv6) e_X11_at_31 cw_X11_placeOf cv_X11_placeOf lk_11_359 ⟨Nat.le_of_ble_eq_true rfl, Nat.le_of_ble_eq_true rfl⟩ (ci := 11) rfl rfl (Nat.le_of_ble_eq_true rfl) g1 rfl rfl (Nat.le_of_ble_eq_true rfl) ⟨Nat.zero_le _, Nat.zero_le _⟩ ?_
      exact r_iret hX hR e_X11_at_34 hf
    · have hf := ite_t hf hc
      refine r_bipush hX e_X11_at_21 bc_m2 ?_
      exact r_iret hX hR e_X11_at_23 hf
def s_X11_comes_39 (k39 : Mem → Nat → Int32 → Int32 → Int32 → Option (Mem × Int32)) (M : Mem) (x0 : Nat) (x1 : Int32) (x2 : Int32) (x4 : Int32) : Option (Mem × Int32) :=
  gd (oB shR x0 11) <| bd (gR M x0 17) fun r2 => gd (aB shR r2 0 1) <| if (gI M r2 (1 : Int32).toNatClampNeg) ≤ x4 then some (M, (-1)) else bd (f_X11_placeOf M x0 x1 x4) fun v4 => if v4 = x2 then some (M, x4) else k39 M (x0) (x1) (x2) ((x4 + 1))
def f_X11_comes_39  : Nat → Mem → Nat → Int32 → Int32 → Int32 → Option (Mem × Int32)
  | 0 => fun _ _ _ _ _ => none
  | n + 1 => fun y0 y1 y2 y3 y4 => s_X11_comes_39  (f_X11_comes_39  n) y0 y1 y2 y3 y4
def f_X11_comes (M : Mem) (a0 : Nat) (a1 : Int32) (a2 : Int32) (a3 : Int32) : Option (Mem × Int32) :=
  gd (oB shR a0 11) <| nx (sI M a0 0 0) fun M2 => bd (f_X11_isStall M2 a0 a1) fun v3 => if v3 = 0 then some (M2, (-2)) else bd (f_X11_isPlace M2 a0 a2) fun v4 => if v4 = 0 then some (M2, (-2)) else bd (f_X11_isMinute M2 a0 a3) fun v5 => if v5 = 0 then some (M2, (-2)) else bd (f_X11_asTold M2 a0) fun u6 => f_X11_comes_39 FU u6 (a0) (a1) (a2) (a3)
theorem t_s_X11_comes_39 {X : Cx} {res : Mem × Int32} {k39 : Mem → Nat → Int32 → Int32 → Int32 → Option (Mem × Int32)} (hX : OkX X cX11_comes RX11 4 92) (hn : Fit X shR nR) (hR : RetI X shR nR .int res) (hk39 : ∀ M x0 x1 x2 x4, k39 M x0 x1 x2 x4 = some res → GoN X shR nR 0 0 M 39 [some (.ref (X.B + x0)), some (.int (x1)), some (.int (x2)), none, some (.int (x4))] []) (M : Mem) (x0 : Nat) (x1 : Int32) (x2 : Int32) (x4 : Int32) (hf : s_X11_comes_39 k39 M x0 x1 x2 x4 = some res) : GoN X shR nR 0 0 M 39 [some (.ref (X.B + x0)), some (.int (x1)), some (.int (x2)), none, some (.int (x4))] [] := by
  refine r_iload hX e_X11_comes_39 rfl ?_
  refine r_aload_n (i := 0) hX e_X11_comes_41 rfl rfl ?_
  obtain ⟨g1, hf⟩ := gd_s hf
  obtain ⟨r2, hr2, hf⟩ := bd_s hf
  refine r_getR hX hn e_X11_comes_42 fl_11_34 rfl g1 hr2 ?_
  refine r_iconst hX e_X11_comes_45 ic_1 ?_
  obtain ⟨g3, hf⟩ := gd_s hf
  refine r_iald hX hn e_X11_comes_46 g3 ?_
  refine r_icmp_ge hX e_X11_comes_47 (fun hc => ?_) (fun hc => ?_)
  · have hf := ite_t hf hc
    refine r_iconst hX e_X11_comes_70 ic_m1 ?_
    exact r_iret hX hR e_X11_comes_71 hf
  · have hf := ite_f hf hc
    refine r_aload_n (i := 0) hX e_X11_comes_50 rfl rfl ?_
    refine r_iload_n (i := 1) hX e_X11_comes_51 rfl rfl ?_
    refine r_iload hX e_X11_comes_52 rfl ?_
    obtain ⟨v4, hv4, hf⟩ := bd_s hf
    refine r_cvi (As := fun K B => [.int (x1), .int (x4)]) hX hn (t_X11_placeOf hv4) e_X11_comes_54 cw_X11_placeOf cv_X11_placeOf lk_11_359 ⟨Nat.le_of_ble_eq_true rfl, Nat.le_of_ble_eq_true rfl⟩ (ci := 11) rfl rfl (Nat.le_of_ble_eq_true rfl) g1 rfl rfl (Nat.le_of_ble_eq_true rfl) ⟨Nat.zero_le _, Nat.zero_le _⟩ ?_
    refine r_iload_n (i := 2) hX e_X11_comes_57 rfl rfl ?_
    refine r_icmp_ne hX e_X11_comes_58 (fun hc => ?_) (fun hc => ?_)
    · have hf := ite_f hf hc
      refine r_iinc (v := x4 + 1) hX e_X11_comes_64 rfl (ii_s ic_1) (Nat.le_of_ble_eq_true rfl) rfl ?_
      refine r_goto hX e_X11_comes_67 ?_
      exact GoN.weak (hk39 M (x0) (x1) (x2) ((x4 + 1)) hf) rfl (sb_s (sb_s (sb_s (sb_n (sb_s (sb_z _))))))
    · have hf := ite_t hf hc
      refine r_iload hX e_X11_comes_61 rfl ?_
      exact r_iret hX hR e_X11_comes_63 hf
theorem t_X11_comes_39 {X : Cx} {res : Mem × Int32}  (hX : OkX X cX11_comes RX11 4 92) (hn : Fit X shR nR) (hR : RetI X shR nR .int res)  : ∀ (n : Nat) (M : Mem) (x0 : Nat) (x1 : Int32) (x2 : Int32) (x4 : Int32),  f_X11_comes_39  n M x0 x1 x2 x4 = some res → GoN X shR nR 0 0 M 39 [some (.ref (X.B + x0)), some (.int (x1)), some (.int (x2)), none, some (.int (x4))] [] := by
  intro n
  induction n with
  | zero => intro M x0 x1 x2 x4 hf; cases hf
  | succ n ih => intro M x0 x1 x2 x4 hf; exact t_s_X11_comes_39 hX hn hR  ih M x0 x1 x2 x4 hf
theorem t_X11_comes {l : Launch} {M : Mem} {a0 : Nat} {a1 a2 a3 : Int32} {res : Mem × Int32} (hf : f_X11_comes M a0 a1 a2 a3 = some res) : Ci l yX11_comes cX11_comes 5 (some .int) 4 92 shR nR (fun K B => [.ref (B + a0), .int a1, .int a2, .int a3]) M res := by
  refine met_i (own := RX11) (lo := fun K B => [some (.ref (B + a0)), some (.int a1), some (.int a2), some (.int a3), none]) (by decide +kernel) rfl shR_ok (fun _ _ => rfl) (fun _ _ => rfl) (fun _ _ => Nat.le_of_ble_eq_true rfl) (fun X hX hn hlx hR => ?_)
  refine r_aload_n (i := 0) hX e_X11_comes_0 rfl rfl ?_
  refine r_iconst hX e_X11_comes_1 ic_0 ?_
  obtain ⟨g1, hf⟩ := gd_s hf
  obtain ⟨M2, hM2, hf⟩ := nx_s hf
  refine r_putI hX hn hM2 e_X11_comes_2 fl_11_122 fp_11_0 rfl g1 ?_
  refine r_aload_n (i := 0) hX e_X11_comes_5 rfl rfl ?_
  refine r_iload_n (i := 1) hX e_X11_comes_6 rfl rfl ?_
  obtain ⟨v3, hv3, hf⟩ := bd_s hf
  refine r_cvi (As := fun K B => [.int (a1)]) hX hn (t_X11_isStall hv3) e_X11_comes_7 cw_X11_isStall cv_X11_isStall lk_11_305 ⟨Nat.le_of_ble_eq_true rfl, Nat.le_of_ble_eq_true rfl⟩ (ci := 11) rfl rfl (Nat.le_of_ble_eq_true rfl) g1 rfl rfl (Nat.le_of_ble_eq_true rfl) ⟨Nat.zero_le _, Nat.zero_le _⟩ ?_
  refine r_if_eq hX e_X11_comes_10 (fun hc => ?_) (fun hc => ?_)
  · have hf := ite_t hf hc
    refine r_bipush hX e_X11_comes_29 bc_m2 ?_
    exact r_iret hX hR e_X11_comes_31 hf
  · have hf := ite_f hf hc
    refine r_aload_n (i := 0) hX e_X11_comes_13 rfl rfl ?_
    refine r_iload_n (i := 2) hX e_X11_comes_14 rfl rfl ?_
    obtain ⟨v4, hv4, hf⟩ := bd_s hf
    refine r_cvi (As := fun K B => [.int (a2)]) hX hn (t_X11_isPlace hv4) e_X11_comes_15 cw_X11_isPlace cv_X11_isPlace lk_11_362 ⟨Nat.le_of_ble_eq_true rfl, Nat.le_of_ble_eq_true rfl⟩ (ci := 11) rfl rfl (Nat.le_of_ble_eq_true rfl) g1 rfl rfl (Nat.le_of_ble_eq_true rfl) ⟨Nat.zero_le _, Nat.zero_le _⟩ ?_
    refine r_if_eq hX e_X11_comes_18 (fun hc => ?_) (fun hc => ?_)
    · have hf := ite_t hf hc
      refine r_bipush hX e_X11_comes_29 bc_m2 ?_
      exact r_iret hX hR e_X11_comes_31 hf
    · have hf := ite_f hf hc
      refine r_aload_n (i := 0) hX e_X11_comes_21 rfl rfl ?_
      refine r_iload_n (i := 3) hX e_X11_comes_22 rfl rfl ?_
      obtain ⟨v5, hv5, hf⟩ := bd_s hf
      refine r_cvi (As := fun K B => [.int (a3)]) hX hn (t_X11_isMinute hv5) e_X11_comes_23 cw_X11_isMinute cv_X11_isMinute lk_11_353 ⟨Nat.le_of_ble_eq_true rfl, Nat.le_of_ble_eq_true rfl⟩ (ci := 11) rfl rfl (Nat.le_of_ble_eq_true rfl) g1 rfl rfl (Nat.le_of_ble_eq_true rfl) ⟨Nat.zero_le _, Nat.zero_le _⟩ ?_
      refine r_if_ne hX e_X11_comes_26 (fun hc => ?_) (fun hc => ?_)
      · have hf := ite_f hf hc
        refine r_aload_n (i := 0) hX e_X11_comes_32 rfl rfl ?_
        obtain ⟨u6, hu6, hf⟩ := bd_s hf
        refine r_cvv (As := fun K B => []) hX hn (t_X11_asTold hu6) e_X11_comes_33 cw_X11_asTold cv_X11_asTold lk_11_356 ⟨Nat.le_of_ble_eq_true rfl, Nat.le_of_ble_eq_true rfl⟩ (ci := 11) rfl rfl (Nat.le_of_ble_eq_true rfl) g1 rfl rfl (Nat.le_of_ble_eq_true rfl) ⟨Nat.zero_le _, Nat.zero_le _⟩ ?_
        refine r_iload_n (i := 3) hX e_X11_comes_36 rfl rfl ?_
        refine r_istore hX e_X11_comes_37 (Nat.le_of_ble_eq_true rfl) rfl ?_
        exact GoN.weak (t_X11_comes_39 hX hn hR FU u6 (a0) (a1) (a2) (a3) hf) rfl (sb_s (sb_s (sb_s (sb_n (sb_s (sb_z _))))))
      · have hf := ite_t hf hc
        refine r_bipush hX e_X11_comes_29 bc_m2 ?_
        exact r_iret hX hR e_X11_comes_31 hf
def s_X11_there_39 (k39 : Mem → Nat → Int32 → Int32 → Int32 → Int32 → Option (Mem × Int32)) (M : Mem) (x0 : Nat) (x1 : Int32) (x2 : Int32) (x3 : Int32) (x4 : Int32) : Option (Mem × Int32) :=
  gd (oB shR x0 11) <| bd (gR M x0 17) fun r2 => gd (aB shR r2 0 3) <| if (gI M r2 (3 : Int32).toNatClampNeg) ≤ x4 then some (M, (-1)) else bd (f_X11_of M x0 x4 0) fun v4 => if v4 = x1 then bd (f_X11_placeOf M x0 x4 x3) fun v5 => if v5 = x2 then some (M, x4) else k39 M (x0) (x1) (x2) (x3) ((x4 + 1)) else k39 M (x0) (x1) (x2) (x3) ((x4 + 1))
def f_X11_there_39  : Nat → Mem → Nat → Int32 → Int32 → Int32 → Int32 → Option (Mem × Int32)
  | 0 => fun _ _ _ _ _ _ => none
  | n + 1 => fun y0 y1 y2 y3 y4 y5 => s_X11_there_39  (f_X11_there_39  n) y0 y1 y2 y3 y4 y5
def f_X11_there (M : Mem) (a0 : Nat) (a1 : Int32) (a2 : Int32) (a3 : Int32) : Option (Mem × Int32) :=
  gd (oB shR a0 11) <| nx (sI M a0 0 0) fun M2 => bd (f_X11_isRing M2 a0 a1) fun v3 => if v3 = 0 then some (M2, (-2)) else bd (f_X11_isPlace M2 a0 a2) fun v4 => if v4 = 0 then some (M2, (-2)) else bd (f_X11_isMinute M2 a0 a3) fun v5 => if v5 = 0 then some (M2, (-2)) else bd (f_X11_asTold M2 a0) fun u6 => f_X11_there_39 FU u6 (a0) (a1) (a2) (a3) (0)
theorem t_s_X11_there_39 {X : Cx} {res : Mem × Int32} {k39 : Mem → Nat → Int32 → Int32 → Int32 → Int32 → Option (Mem × Int32)} (hX : OkX X cX11_there RX11 4 92) (hn : Fit X shR nR) (hR : RetI X shR nR .int res) (hk39 : ∀ M x0 x1 x2 x3 x4, k39 M x0 x1 x2 x3 x4 = some res → GoN X shR nR 0 0 M 39 [some (.ref (X.B + x0)), some (.int (x1)), some (.int (x2)), some (.int (x3)), some (.int (x4))] []) (M : Mem) (x0 : Nat) (x1 : Int32) (x2 : Int32) (x3 : Int32) (x4 : Int32) (hf : s_X11_there_39 k39 M x0 x1 x2 x3 x4 = some res) : GoN X shR nR 0 0 M 39 [some (.ref (X.B + x0)), some (.int (x1)), some (.int (x2)), some (.int (x3)), some (.int (x4))] [] := by
  refine r_iload hX e_X11_there_39 rfl ?_
  refine r_aload_n (i := 0) hX e_X11_there_41 rfl rfl ?_
  obtain ⟨g1, hf⟩ := gd_s hf
  obtain ⟨r2, hr2, hf⟩ := bd_s hf
  refine r_getR hX hn e_X11_there_42 fl_11_34 rfl g1 hr2 ?_
  refine r_iconst hX e_X11_there_45 ic_3 ?_
  obtain ⟨g3, hf⟩ := gd_s hf
  refine r_iald hX hn e_X11_there_46 g3 ?_
  refine r_icmp_ge hX e_X11_there_47 (fun hc => ?_) (fun hc => ?_)
  · have hf := ite_t hf hc
    refine r_iconst hX e_X11_there_81 ic_m1 ?_
    exact r_iret hX hR e_X11_there_82 hf
  · have hf := ite_f hf hc
    refine r_aload_n (i := 0) hX e_X11_there_50 rfl rfl ?_
    refine r_iload hX e_X11_there_51 rfl ?_
    refine r_iconst hX e_X11_there_53 ic_0 ?_
    obtain ⟨v4, hv4, hf⟩ := bd_s hf
    refine r_cvi (As := fun K B => [.int (x4), .int (0)]) hX hn (t_X11_of hv4) e_X11_there_54 cw_X11_of cv_X11_of lk_11_310 ⟨Nat.le_of_ble_eq_true rfl, Nat.le_of_ble_eq_true rfl⟩ (ci := 11) rfl rfl (Nat.le_of_ble_eq_true rfl) g1 rfl rfl (Nat.le_of_ble_eq_true rfl) ⟨Nat.zero_le _, Nat.zero_le _⟩ ?_
    refine r_iload_n (i := 1) hX e_X11_there_57 rfl rfl ?_
    refine r_icmp_ne hX e_X11_there_58 (fun hc => ?_) (fun hc => ?_)
    · have hf := ite_f hf hc
      refine r_iinc (v := x4 + 1) hX e_X11_there_75 rfl (ii_s ic_1) (Nat.le_of_ble_eq_true rfl) rfl ?_
      refine r_goto hX e_X11_there_78 ?_
      exact GoN.weak (hk39 M (x0) (x1) (x2) (x3) ((x4 + 1)) hf) rfl (sb_s (sb_s (sb_s (sb_s (sb_s (sb_z _))))))
    · have hf := ite_t hf hc
      refine r_aload_n (i := 0) hX e_X11_there_61 rfl rfl ?_
      refine r_iload hX e_X11_there_62 rfl ?_
      refine r_iload_n (i := 3) hX e_X11_there_64 rfl rfl ?_
      obtain ⟨v5, hv5, hf⟩ := bd_s hf
      refine r_cvi (As := fun K B => [.int (x4), .int (x3)]) hX hn (t_X11_placeOf hv5) e_X11_there_65 cw_X11_placeOf cv_X11_placeOf lk_11_359 ⟨Nat.le_of_ble_eq_true rfl, Nat.le_of_ble_eq_true rfl⟩ (ci := 11) rfl rfl (Nat.le_of_ble_eq_true rfl) g1 rfl rfl (Nat.le_of_ble_eq_true rfl) ⟨Nat.zero_le _, Nat.zero_le _⟩ ?_
      refine r_iload_n (i := 2) hX e_X11_there_68 rfl rfl ?_
      refine r_icmp_ne hX e_X11_there_69 (fun hc => ?_) (fun hc => ?_)
      · have hf := ite_f hf hc
        refine r_iinc (v := x4 + 1) hX e_X11_there_75 rfl (ii_s ic_1) (Nat.le_of_ble_eq_true rfl) rfl ?_
        refine r_goto hX e_X11_there_78 ?_
        exact GoN.weak (hk39 M (x0) (x1) (x2) (x3) ((x4 + 1)) hf) rfl (sb_s (sb_s (sb_s (sb_s (sb_s (sb_z _))))))
      · have hf := ite_t hf hc
        refine r_iload hX e_X11_there_72 rfl ?_
        exact r_iret hX hR e_X11_there_74 hf
theorem t_X11_there_39 {X : Cx} {res : Mem × Int32}  (hX : OkX X cX11_there RX11 4 92) (hn : Fit X shR nR) (hR : RetI X shR nR .int res)  : ∀ (n : Nat) (M : Mem) (x0 : Nat) (x1 : Int32) (x2 : Int32) (x3 : Int32) (x4 : Int32),  f_X11_there_39  n M x0 x1 x2 x3 x4 = some res → GoN X shR nR 0 0 M 39 [some (.ref (X.B + x0)), some (.int (x1)), some (.int (x2)), some (.int (x3)), some (.int (x4))] [] := by
  intro n
  induction n with
  | zero => intro M x0 x1 x2 x3 x4 hf; cases hf
  | succ n ih => intro M x0 x1 x2 x3 x4 hf; exact t_s_X11_there_39 hX hn hR  ih M x0 x1 x2 x3 x4 hf
theorem t_X11_there {l : Launch} {M : Mem} {a0 : Nat} {a1 a2 a3 : Int32} {res : Mem × Int32} (hf : f_X11_there M a0 a1 a2 a3 = some res) : Ci l yX11_there cX11_there 5 (some .int) 4 92 shR nR (fun K B => [.ref (B + a0), .int a1, .int a2, .int a3]) M res := by
  refine met_i (own := RX11) (lo := fun K B => [some (.ref (B + a0)), some (.int a1), some (.int a2), some (.int a3), none]) (by decide +kernel) rfl shR_ok (fun _ _ => rfl) (fun _ _ => rfl) (fun _ _ => Nat.le_of_ble_eq_true rfl) (fun X hX hn hlx hR => ?_)
  refine r_aload_n (i := 0) hX e_X11_there_0 rfl rfl ?_
  refine r_iconst hX e_X11_there_1 ic_0 ?_
  obtain ⟨g1, hf⟩ := gd_s hf
  obtain ⟨M2, hM2, hf⟩ := nx_s hf
  refine r_putI hX hn hM2 e_X11_there_2 fl_11_122 fp_11_0 rfl g1 ?_
  refine r_aload_n (i := 0) hX e_X11_there_5 rfl rfl ?_
  refine r_iload_n (i := 1) hX e_X11_there_6 rfl rfl ?_
  obtain ⟨v3, hv3, hf⟩ := bd_s hf
  refine r_cvi (As := fun K B => [.int (a1)]) hX hn (t_X11_isRing hv3) e_X11_there_7 cw_X11_isRing cv_X11_isRing lk_11_365 ⟨Nat.le_of_ble_eq_true rfl, Nat.le_of_ble_eq_true rfl⟩ (ci := 11) rfl rfl (Nat.le_of_ble_eq_true rfl) g1 rfl rfl (Nat.le_of_ble_eq_true rfl) ⟨Nat.zero_le _, Nat.zero_le _⟩ ?_
  refine r_if_eq hX e_X11_there_10 (fun hc => ?_) (fun hc => ?_)
  · have hf := ite_t hf hc
    refine r_bipush hX e_X11_there_29 bc_m2 ?_
    exact r_iret hX hR e_X11_there_31 hf
  · have hf := ite_f hf hc
    refine r_aload_n (i := 0) hX e_X11_there_13 rfl rfl ?_
    refine r_iload_n (i := 2) hX e_X11_there_14 rfl rfl ?_
    obtain ⟨v4, hv4, hf⟩ := bd_s hf
    refine r_cvi (As := fun K B => [.int (a2)]) hX hn (t_X11_isPlace hv4) e_X11_there_15 cw_X11_isPlace cv_X11_isPlace lk_11_362 ⟨Nat.le_of_ble_eq_true rfl, Nat.le_of_ble_eq_true rfl⟩ (ci := 11) rfl rfl (Nat.le_of_ble_eq_true rfl) g1 rfl rfl (Nat.le_of_ble_eq_true rfl) ⟨Nat.zero_le _, Nat.zero_le _⟩ ?_
    refine r_if_eq hX e_X11_there_18 (fun hc => ?_) (fun hc => ?_)
    · have hf := ite_t hf hc
      refine r_bipush hX e_X11_there_29 bc_m2 ?_
      exact r_iret hX hR e_X11_there_31 hf
    · have hf := ite_f hf hc
      refine r_aload_n (i := 0) hX e_X11_there_21 rfl rfl ?_
      refine r_iload_n (i := 3) hX e_X11_there_22 rfl rfl ?_
      obtain ⟨v5, hv5, hf⟩ := bd_s hf
      refine r_cvi (As := fun K B => [.int (a3)]) hX hn (t_X11_isMinute hv5) e_X11_there_23 cw_X11_isMinute cv_X11_isMinute lk_11_353 ⟨Nat.le_of_ble_eq_true rfl, Nat.le_of_ble_eq_true rfl⟩ (ci := 11) rfl rfl (Nat.le_of_ble_eq_true rfl) g1 rfl rfl (Nat.le_of_ble_eq_true rfl) ⟨Nat.zero_le _, Nat.zero_le _⟩ ?_
      refine r_if_ne hX e_X11_there_26 (fun hc => ?_) (fun hc => ?_)
      · have hf := ite_f hf hc
        refine r_aload_n (i := 0) hX e_X11_there_32 rfl rfl ?_
        obtain ⟨u6, hu6, hf⟩ := bd_s hf
        refine r_cvv (As := fun K B => []) hX hn (t_X11_asTold hu6) e_X11_there_33 cw_X11_asTold cv_X11_asTold lk_11_356 ⟨Nat.le_of_ble_eq_true rfl, Nat.le_of_ble_eq_true rfl⟩ (ci := 11) rfl rfl (Nat.le_of_ble_eq_true rfl) g1 rfl rfl (Nat.le_of_ble_eq_true rfl) ⟨Nat.zero_le _, Nat.zero_le _⟩ ?_
        refine r_iconst hX e_X11_there_36 ic_0 ?_
        refine r_istore hX e_X11_there_37 (Nat.le_of_ble_eq_true rfl) rfl ?_
        exact GoN.weak (t_X11_there_39 hX hn hR FU u6 (a0) (a1) (a2) (a3) (0) hf) rfl (sb_s (sb_s (sb_s (sb_s (sb_s (sb_z _))))))
      · have hf := ite_t hf hc
        refine r_bipush hX e_X11_there_29 bc_m2 ?_
        exact r_iret hX hR e_X11_there_31 hf
def s_X11_face_44 (k44 : Mem → Nat → Int32 → Int32 → Int32 → Option (Mem × Int32)) (M : Mem) (x0 : Nat) (x1 : Int32) (x2 : Int32) (x4 : Int32) : Option (Mem × Int32) :=
  gd (oB shR x0 11) <| bd (gR M x0 17) fun r2 => gd (aB shR r2 0 1) <| if (gI M r2 (1 : Int32).toNatClampNeg) ≤ x4 then some (M, (-1)) else bd (f_X11_placeOf M x0 x1 x4) fun v4 => bd (f_X11_placeOf M x0 x2 x4) fun v5 => if v4 = v5 then some (M, x4) else k44 M (x0) (x1) (x2) ((x4 + 1))
def f_X11_face_44  : Nat → Mem → Nat → Int32 → Int32 → Int32 → Option (Mem × Int32)
  | 0 => fun _ _ _ _ _ => none
  | n + 1 => fun y0 y1 y2 y3 y4 => s_X11_face_44  (f_X11_face_44  n) y0 y1 y2 y3 y4
def f_X11_face (M : Mem) (a0 : Nat) (a1 : Int32) (a2 : Int32) (a3 : Int32) : Option (Mem × Int32) :=
  gd (oB shR a0 11) <| nx (sI M a0 0 0) fun M2 => bd (f_X11_isStall M2 a0 a1) fun v3 => if v3 = 0 then some (M2, (-2)) else bd (f_X11_isStall M2 a0 a2) fun v4 => if v4 = 0 then some (M2, (-2)) else if a1 = a2 then some (M2, (-2)) else bd (f_X11_isMinute M2 a0 a3) fun v5 => if v5 = 0 then some (M2, (-2)) else bd (f_X11_asTold M2 a0) fun u6 => f_X11_face_44 FU u6 (a0) (a1) (a2) (a3)
theorem t_s_X11_face_44 {X : Cx} {res : Mem × Int32} {k44 : Mem → Nat → Int32 → Int32 → Int32 → Option (Mem × Int32)} (hX : OkX X cX11_face RX11 4 92) (hn : Fit X shR nR) (hR : RetI X shR nR .int res) (hk44 : ∀ M x0 x1 x2 x4, k44 M x0 x1 x2 x4 = some res → GoN X shR nR 0 0 M 44 [some (.ref (X.B + x0)), some (.int (x1)), some (.int (x2)), none, some (.int (x4))] []) (M : Mem) (x0 : Nat) (x1 : Int32) (x2 : Int32) (x4 : Int32) (hf : s_X11_face_44 k44 M x0 x1 x2 x4 = some res) : GoN X shR nR 0 0 M 44 [some (.ref (X.B + x0)), some (.int (x1)), some (.int (x2)), none, some (.int (x4))] [] := by
  refine r_iload hX e_X11_face_44 rfl ?_
  refine r_aload_n (i := 0) hX e_X11_face_46 rfl rfl ?_
  obtain ⟨g1, hf⟩ := gd_s hf
  obtain ⟨r2, hr2, hf⟩ := bd_s hf
  refine r_getR hX hn e_X11_face_47 fl_11_34 rfl g1 hr2 ?_
  refine r_iconst hX e_X11_face_50 ic_1 ?_
  obtain ⟨g3, hf⟩ := gd_s hf
  refine r_iald hX hn e_X11_face_51 g3 ?_
  refine r_icmp_ge hX e_X11_face_52 (fun hc => ?_) (fun hc => ?_)
  · have hf := ite_t hf hc
    refine r_iconst hX e_X11_face_81 ic_m1 ?_
    exact r_iret hX hR e_X11_face_82 hf
  · have hf := ite_f hf hc
    refine r_aload_n (i := 0) hX e_X11_face_55 rfl rfl ?_
    refine r_iload_n (i := 1) hX e_X11_face_56 rfl rfl ?_
    refine r_iload hX e_X11_face_57 rfl ?_
    obtain ⟨v4, hv4, hf⟩ := bd_s hf
    refine r_cvi (As := fun K B => [.int (x1), .int (x4)]) hX hn (t_X11_placeOf hv4) e_X11_face_59 cw_X11_placeOf cv_X11_placeOf lk_11_359 ⟨Nat.le_of_ble_eq_true rfl, Nat.le_of_ble_eq_true rfl⟩ (ci := 11) rfl rfl (Nat.le_of_ble_eq_true rfl) g1 rfl rfl (Nat.le_of_ble_eq_true rfl) ⟨Nat.zero_le _, Nat.zero_le _⟩ ?_
    refine r_aload_n (i := 0) hX e_X11_face_62 rfl rfl ?_
    refine r_iload_n (i := 2) hX e_X11_face_63 rfl rfl ?_
    refine r_iload hX e_X11_face_64 rfl ?_
    obtain ⟨v5, hv5, hf⟩ := bd_s hf
    refine r_cvi (As := fun K B => [.int (x2), .int (x4)]) hX hn (t_X11_placeOf hv5) e_X11_face_66 cw_X11_placeOf cv_X11_placeOf lk_11_359 ⟨Nat.le_of_ble_eq_true rfl, Nat.le_of_ble_eq_true rfl⟩ (ci := 11) rfl rfl (Nat.le_of_ble_eq_true rfl) g1 rfl rfl (Nat.le_of_ble_eq_true rfl) ⟨Nat.zero_le _, Nat.zero_le _⟩ ?_
    refine r_icmp_ne hX e_X11_face_69 (fun hc => ?_) (fun hc => ?_)
    · have hf := ite_f hf hc
      refine r_iinc (v := x4 + 1) hX e_X11_face_75 rfl (ii_s ic_1) (Nat.le_of_ble_eq_true rfl) rfl ?_
      refine r_goto hX e_X11_face_78 ?_
      exact GoN.weak (hk44 M (x0) (x1) (x2) ((x4 + 1)) hf) rfl (sb_s (sb_s (sb_s (sb_n (sb_s (sb_z _))))))
    · have hf := ite_t hf hc
      refine r_iload hX e_X11_face_72 rfl ?_
      exact r_iret hX hR e_X11_face_74 hf
theorem t_X11_face_44 {X : Cx} {res : Mem × Int32}  (hX : OkX X cX11_face RX11 4 92) (hn : Fit X shR nR) (hR : RetI X shR nR .int res)  : ∀ (n : Nat) (M : Mem) (x0 : Nat) (x1 : Int32) (x2 : Int32) (x4 : Int32),  f_X11_face_44  n M x0 x1 x2 x4 = some res → GoN X shR nR 0 0 M 44 [some (.ref (X.B + x0)), some (.int (x1)), some (.int (x2)), none, some (.int (x4))] [] := by
  intro n
  induction n with
  | zero => intro M x0 x1 x2 x4 hf; cases hf
  | succ n ih => intro M x0 x1 x2 x4 hf; exact t_s_X11_face_44 hX hn hR  ih M x0 x1 x2 x4 hf
theorem t_X11_face {l : Launch} {M : Mem} {a0 : Nat} {a1 a2 a3 : Int32} {res : Mem × Int32} (hf : f_X11_face M a0 a1 a2 a3 = some res) : Ci l yX11_face cX11_face 5 (some .int) 4 92 shR nR (fun K B => [.ref (B + a0), .int a1, .int a2, .int a3]) M res := by
  refine met_i (own := RX11) (lo := fun K B => [some (.ref (B + a0)), some (.int a1), some (.int a2), some (.int a3), none]) (by decide +kernel) rfl shR_ok (fun _ _ => rfl) (fun _ _ => rfl) (fun _ _ => Nat.le_of_ble_eq_true rfl) (fun X hX hn hlx hR => ?_)
  refine r_aload_n (i := 0) hX e_X11_face_0 rfl rfl ?_
  refine r_iconst hX e_X11_face_1 ic_0 ?_
  obtain ⟨g1, hf⟩ := gd_s hf
  obtain ⟨M2, hM2, hf⟩ := nx_s hf
  refine r_putI hX hn hM2 e_X11_face_2 fl_11_122 fp_11_0 rfl g1 ?_
  refine r_aload_n (i := 0) hX e_X11_face_5 rfl rfl ?_
  refine r_iload_n (i := 1) hX e_X11_face_6 rfl rfl ?_
  obtain ⟨v3, hv3, hf⟩ := bd_s hf
  refine r_cvi (As := fun K B => [.int (a1)]) hX hn (t_X11_isStall hv3) e_X11_face_7 cw_X11_isStall cv_X11_isStall lk_11_305 ⟨Nat.le_of_ble_eq_true rfl, Nat.le_of_ble_eq_true rfl⟩ (ci := 11) rfl rfl (Nat.le_of_ble_eq_true rfl) g1 rfl rfl (Nat.le_of_ble_eq_true rfl) ⟨Nat.zero_le _, Nat.zero_le _⟩ ?_
  refine r_if_eq hX e_X11_face_10 (fun hc => ?_) (fun hc => ?_)
  · have hf := ite_t hf hc
    refine r_bipush hX e_X11_face_34 bc_m2 ?_
    exact r_iret hX hR e_X11_face_36 hf
  · have hf := ite_f hf hc
    refine r_aload_n (i := 0) hX e_X11_face_13 rfl rfl ?_
    refine r_iload_n (i := 2) hX e_X11_face_14 rfl rfl ?_
    obtain ⟨v4, hv4, hf⟩ := bd_s hf
    refine r_cvi (As := fun K B => [.int (a2)]) hX hn (t_X11_isStall hv4) e_X11_face_15 cw_X11_isStall cv_X11_isStall lk_11_305 ⟨Nat.le_of_ble_eq_true rfl, Nat.le_of_ble_eq_true rfl⟩ (ci := 11) rfl rfl (Nat.le_of_ble_eq_true rfl) g1 rfl rfl (Nat.le_of_ble_eq_true rfl) ⟨Nat.zero_le _, Nat.zero_le _⟩ ?_
    refine r_if_eq hX e_X11_face_18 (fun hc => ?_) (fun hc => ?_)
    · have hf := ite_t hf hc
      refine r_bipush hX e_X11_face_34 bc_m2 ?_
      exact r_iret hX hR e_X11_face_36 hf
    · have hf := ite_f hf hc
      refine r_iload_n (i := 1) hX e_X11_face_21 rfl rfl ?_
      refine r_iload_n (i := 2) hX e_X11_face_22 rfl rfl ?_
      refine r_icmp_eq hX e_X11_face_23 (fun hc => ?_) (fun hc => ?_)
      · have hf := ite_t hf hc
        refine r_bipush hX e_X11_face_34 bc_m2 ?_
        exact r_iret hX hR e_X11_face_36 hf
      · have hf := ite_f hf hc
        refine r_aload_n (i := 0) hX e_X11_face_26 rfl rfl ?_
        refine r_iload_n (i := 3) hX e_X11_face_27 rfl rfl ?_
        obtain ⟨v5, hv5, hf⟩ := bd_s hf
        refine r_cvi (As := fun K B => [.int (a3)]) hX hn (t_X11_isMinute hv5) e_X11_face_28 cw_X11_isMinute cv_X11_isMinute lk_11_353 ⟨Nat.le_of_ble_eq_true rfl, Nat.le_of_ble_eq_true rfl⟩ (ci := 11) rfl rfl (Nat.le_of_ble_eq_true rfl) g1 rfl rfl (Nat.le_of_ble_eq_true rfl) ⟨Nat.zero_le _, Nat.zero_le _⟩ ?_
        refine r_if_ne hX e_X11_face_31 (fun hc => ?_) (fun hc => ?_)
        · have hf := ite_f hf hc
          refine r_aload_n (i := 0) hX e_X11_face_37 rfl rfl ?_
          obtain ⟨u6, hu6, hf⟩ := bd_s hf
          refine r_cvv (As := fun K B => []) hX hn (t_X11_asTold hu6) e_X11_face_38 cw_X11_asTold cv_X11_asTold lk_11_356 ⟨Nat.le_of_ble_eq_true rfl, Nat.le_of_ble_eq_true rfl⟩ (ci := 11) rfl rfl (Nat.le_of_ble_eq_true rfl) g1 rfl rfl (Nat.le_of_ble_eq_true rfl) ⟨Nat.zero_le _, Nat.zero_le _⟩ ?_
          refine r_iload_n (i := 3) hX e_X11_face_41 rfl rfl ?_
          refine r_istore hX e_X11_face_42 (Nat.le_of_ble_eq_true rfl) rfl ?_
          exact GoN.weak (t_X11_face_44 hX hn hR FU u6 (a0) (a1) (a2) (a3) hf) rfl (sb_s (sb_s (sb_s (sb_n (sb_s (sb_z _))))))
        · have hf := ite_t hf hc
          refine r_bipush hX e_X11_face_34 bc_m2 ?_
          exact r_iret hX hR e_X11_face_36 hf
def s_X11_often_38 (k38 : Mem → Nat → Int32 → Int32 → Int32 → Int32 → Option (Mem × Int32)) (M : Mem) (x0 : Nat) (x1 : Int32) (x2 : Int32) (x3 : Int32) (x4 : Int32) : Option (Mem × Int32) :=
  gd (oB shR x0 11) <| bd (gR M x0 17) fun r2 => gd (aB shR r2 0 1) <| if (gI M r2 (1 : Int32).toNatClampNeg) ≤ x4 then some (M, x3) else bd (f_X11_placeOf M x0 x1 x4) fun v4 => bd (f_X11_placeOf M x0 x2 x4) fun v5 => if v4 = v5 then k38 M (x0) (x1) (x2) ((x3 + 1)) ((x4 + 1)) else k38 M (x0) (x1) (x2) ((x3 + 0)) ((x4 + 1))
def f_X11_often_38  : Nat → Mem → Nat → Int32 → Int32 → Int32 → Int32 → Option (Mem × Int32)
  | 0 => fun _ _ _ _ _ _ => none
  | n + 1 => fun y0 y1 y2 y3 y4 y5 => s_X11_often_38  (f_X11_often_38  n) y0 y1 y2 y3 y4 y5
def f_X11_often (M : Mem) (a0 : Nat) (a1 : Int32) (a2 : Int32) : Option (Mem × Int32) :=
  gd (oB shR a0 11) <| nx (sI M a0 0 0) fun M2 => bd (f_X11_isStall M2 a0 a1) fun v3 => if v3 = 0 then some (M2, (-2)) else bd (f_X11_isStall M2 a0 a2) fun v4 => if v4 = 0 then some (M2, (-2)) else if a1 = a2 then some (M2, (-2)) else bd (f_X11_asTold M2 a0) fun u5 => f_X11_often_38 FU u5 (a0) (a1) (a2) (0) (0)
theorem t_s_X11_often_38 {X : Cx} {res : Mem × Int32} {k38 : Mem → Nat → Int32 → Int32 → Int32 → Int32 → Option (Mem × Int32)} (hX : OkX X cX11_often RX11 4 92) (hn : Fit X shR nR) (hR : RetI X shR nR .int res) (hk38 : ∀ M x0 x1 x2 x3 x4, k38 M x0 x1 x2 x3 x4 = some res → GoN X shR nR 0 0 M 38 [some (.ref (X.B + x0)), some (.int (x1)), some (.int (x2)), some (.int (x3)), some (.int (x4))] []) (M : Mem) (x0 : Nat) (x1 : Int32) (x2 : Int32) (x3 : Int32) (x4 : Int32) (hf : s_X11_often_38 k38 M x0 x1 x2 x3 x4 = some res) : GoN X shR nR 0 0 M 38 [some (.ref (X.B + x0)), some (.int (x1)), some (.int (x2)), some (.int (x3)), some (.int (x4))] [] := by
  refine r_iload hX e_X11_often_38 rfl ?_
  refine r_aload_n (i := 0) hX e_X11_often_40 rfl rfl ?_
  obtain ⟨g1, hf⟩ := gd_s hf
  obtain ⟨r2, hr2, hf⟩ := bd_s hf
  refine r_getR hX hn e_X11_often_41 fl_11_34 rfl g1 hr2 ?_
  refine r_iconst hX e_X11_often_44 ic_1 ?_
  obtain ⟨g3, hf⟩ := gd_s hf
  refine r_iald hX hn e_X11_often_45 g3 ?_
  refine r_icmp_ge hX e_X11_often_46 (fun hc => ?_) (fun hc => ?_)
  · have hf := ite_t hf hc
    refine r_iload_n (i := 3) hX e_X11_often_80 rfl rfl ?_
    exact r_iret hX hR e_X11_often_81 hf
  · have hf := ite_f hf hc
    refine r_iload_n (i := 3) hX e_X11_often_49 rfl rfl ?_
    refine r_aload_n (i := 0) hX e_X11_often_50 rfl rfl ?_
    refine r_iload_n (i := 1) hX e_X11_often_51 rfl rfl ?_
    refine r_iload hX e_X11_often_52 rfl ?_
    obtain ⟨v4, hv4, hf⟩ := bd_s hf
    refine r_cvi (As := fun K B => [.int (x1), .int (x4)]) hX hn (t_X11_placeOf hv4) e_X11_often_54 cw_X11_placeOf cv_X11_placeOf lk_11_359 ⟨Nat.le_of_ble_eq_true rfl, Nat.le_of_ble_eq_true rfl⟩ (ci := 11) rfl rfl (Nat.le_of_ble_eq_true rfl) g1 rfl rfl (Nat.le_of_ble_eq_true rfl) ⟨Nat.zero_le _, Nat.zero_le _⟩ ?_
    refine r_aload_n (i := 0) hX e_X11_often_57 rfl rfl ?_
    refine r_iload_n (i := 2) hX e_X11_often_58 rfl rfl ?_
    refine r_iload hX e_X11_often_59 rfl ?_
    obtain ⟨v5, hv5, hf⟩ := bd_s hf
    refine r_cvi (As := fun K B => [.int (x2), .int (x4)]) hX hn (t_X11_placeOf hv5) e_X11_often_61 cw_X11_placeOf cv_X11_placeOf lk_11_359 ⟨Nat.le_of_ble_eq_true rfl, Nat.le_of_ble_eq_true rfl⟩ (ci := 11) rfl rfl (Nat.le_of_ble_eq_true rfl) g1 rfl rfl (Nat.le_of_ble_eq_true rfl) ⟨Nat.zero_le _, Nat.zero_le _⟩ ?_
    refine r_icmp_ne hX e_X11_often_64 (fun hc => ?_) (fun hc => ?_)
    · have hf := ite_f hf hc
      refine r_iconst hX e_X11_often_71 ic_0 ?_
      refine r_iadd hX e_X11_often_72 ?_
      refine r_istore_n (i := 3) hX e_X11_often_73 rfl (Nat.le_of_ble_eq_true rfl) rfl ?_
      refine r_iinc (v := x4 + 1) hX e_X11_often_74 rfl (ii_s ic_1) (Nat.le_of_ble_eq_true rfl) rfl ?_
      refine r_goto hX e_X11_often_77 ?_
      exact GoN.weak (hk38 M (x0) (x1) (x2) ((x3 + 0)) ((x4 + 1)) hf) rfl (sb_s (sb_s (sb_s (sb_s (sb_s (sb_z _))))))
    · have hf := ite_t hf hc
      refine r_iconst hX e_X11_often_67 ic_1 ?_
      refine r_goto hX e_X11_often_68 ?_
      refine r_iadd hX e_X11_often_72 ?_
      refine r_istore_n (i := 3) hX e_X11_often_73 rfl (Nat.le_of_ble_eq_true rfl) rfl ?_
      refine r_iinc (v := x4 + 1) hX e_X11_often_74 rfl (ii_s ic_1) (Nat.le_of_ble_eq_true rfl) rfl ?_
      refine r_goto hX e_X11_often_77 ?_
      exact GoN.weak (hk38 M (x0) (x1) (x2) ((x3 + 1)) ((x4 + 1)) hf) rfl (sb_s (sb_s (sb_s (sb_s (sb_s (sb_z _))))))
theorem t_X11_often_38 {X : Cx} {res : Mem × Int32}  (hX : OkX X cX11_often RX11 4 92) (hn : Fit X shR nR) (hR : RetI X shR nR .int res)  : ∀ (n : Nat) (M : Mem) (x0 : Nat) (x1 : Int32) (x2 : Int32) (x3 : Int32) (x4 : Int32),  f_X11_often_38  n M x0 x1 x2 x3 x4 = some res → GoN X shR nR 0 0 M 38 [some (.ref (X.B + x0)), some (.int (x1)), some (.int (x2)), some (.int (x3)), some (.int (x4))] [] := by
  intro n
  induction n with
  | zero => intro M x0 x1 x2 x3 x4 hf; cases hf
  | succ n ih => intro M x0 x1 x2 x3 x4 hf; exact t_s_X11_often_38 hX hn hR  ih M x0 x1 x2 x3 x4 hf
theorem t_X11_often {l : Launch} {M : Mem} {a0 : Nat} {a1 a2 : Int32} {res : Mem × Int32} (hf : f_X11_often M a0 a1 a2 = some res) : Ci l yX11_often cX11_often 5 (some .int) 4 92 shR nR (fun K B => [.ref (B + a0), .int a1, .int a2]) M res := by
  refine met_i (own := RX11) (lo := fun K B => [some (.ref (B + a0)), some (.int a1), some (.int a2), none, none]) (by decide +kernel) rfl shR_ok (fun _ _ => rfl) (fun _ _ => rfl) (fun _ _ => Nat.le_of_ble_eq_true rfl) (fun X hX hn hlx hR => ?_)
  refine r_aload_n (i := 0) hX e_X11_often_0 rfl rfl ?_
  refine r_iconst hX e_X11_often_1 ic_0 ?_
  obtain ⟨g1, hf⟩ := gd_s hf
  obtain ⟨M2, hM2, hf⟩ := nx_s hf
  refine r_putI hX hn hM2 e_X11_often_2 fl_11_122 fp_11_0 rfl g1 ?_
  refine r_aload_n (i := 0) hX e_X11_often_5 rfl rfl ?_
  refine r_iload_n (i := 1) hX e_X11_often_6 rfl rfl ?_
  obtain ⟨v3, hv3, hf⟩ := bd_s hf
  refine r_cvi (As := fun K B => [.int (a1)]) hX hn (t_X11_isStall hv3) e_X11_often_7 cw_X11_isStall cv_X11_isStall lk_11_305 ⟨Nat.le_of_ble_eq_true rfl, Nat.le_of_ble_eq_true rfl⟩ (ci := 11) rfl rfl (Nat.le_of_ble_eq_true rfl) g1 rfl rfl (Nat.le_of_ble_eq_true rfl) ⟨Nat.zero_le _, Nat.zero_le _⟩ ?_
  refine r_if_eq hX e_X11_often_10 (fun hc => ?_) (fun hc => ?_)
  · have hf := ite_t hf hc
    refine r_bipush hX e_X11_often_26 bc_m2 ?_
    exact r_iret hX hR e_X11_often_28 hf
  · have hf := ite_f hf hc
    refine r_aload_n (i := 0) hX e_X11_often_13 rfl rfl ?_
    refine r_iload_n (i := 2) hX e_X11_often_14 rfl rfl ?_
    obtain ⟨v4, hv4, hf⟩ := bd_s hf
    refine r_cvi (As := fun K B => [.int (a2)]) hX hn (t_X11_isStall hv4) e_X11_often_15 cw_X11_isStall cv_X11_isStall lk_11_305 ⟨Nat.le_of_ble_eq_true rfl, Nat.le_of_ble_eq_true rfl⟩ (ci := 11) rfl rfl (Nat.le_of_ble_eq_true rfl) g1 rfl rfl (Nat.le_of_ble_eq_true rfl) ⟨Nat.zero_le _, Nat.zero_le _⟩ ?_
    refine r_if_eq hX e_X11_often_18 (fun hc => ?_) (fun hc => ?_)
    · have hf := ite_t hf hc
      refine r_bipush hX e_X11_often_26 bc_m2 ?_
      exact r_iret hX hR e_X11_often_28 hf
    · have hf := ite_f hf hc
      refine r_iload_n (i := 1) hX e_X11_often_21 rfl rfl ?_
      refine r_iload_n (i := 2) hX e_X11_often_22 rfl rfl ?_
      refine r_icmp_ne hX e_X11_often_23 (fun hc => ?_) (fun hc => ?_)
      · have hf := ite_f hf hc
        refine r_aload_n (i := 0) hX e_X11_often_29 rfl rfl ?_
        obtain ⟨u5, hu5, hf⟩ := bd_s hf
        refine r_cvv (As := fun K B => []) hX hn (t_X11_asTold hu5) e_X11_often_30 cw_X11_asTold cv_X11_asTold lk_11_356 ⟨Nat.le_of_ble_eq_true rfl, Nat.le_of_ble_eq_true rfl⟩ (ci := 11) rfl rfl (Nat.le_of_ble_eq_true rfl) g1 rfl rfl (Nat.le_of_ble_eq_true rfl) ⟨Nat.zero_le _, Nat.zero_le _⟩ ?_
        refine r_iconst hX e_X11_often_33 ic_0 ?_
        refine r_istore_n (i := 3) hX e_X11_often_34 rfl (Nat.le_of_ble_eq_true rfl) rfl ?_
        refine r_iconst hX e_X11_often_35 ic_0 ?_
        refine r_istore hX e_X11_often_36 (Nat.le_of_ble_eq_true rfl) rfl ?_
        exact GoN.weak (t_X11_often_38 hX hn hR FU u5 (a0) (a1) (a2) (0) (0) hf) rfl (sb_s (sb_s (sb_s (sb_s (sb_s (sb_z _))))))
      · have hf := ite_t hf hc
        refine r_bipush hX e_X11_often_26 bc_m2 ?_
        exact r_iret hX hR e_X11_often_28 hf
def s_X11_wantOf_2 (M : Mem) (k2 : Nat → Int32 → Int32 → Int32 → Option (Int32)) (x0 : Nat) (x1 : Int32) (x2 : Int32) (x3 : Int32) : Option (Int32) :=
  gd (oB shR x0 11) <| bd (gR M x0 20) fun r2 => gd (aB shR r2 0 ((4 * x1) + 3)) <| nx ((gI M r2 (((4 * x1) + 3) : Int32).toNatClampNeg)) fun v4 => if v4 ≤ x3 then some (-1) else bd (gR M x0 21) fun r5 => gd (aB shR r5 0 ((9 * x1) + (3 * x3))) <| nx ((gI M r5 (((9 * x1) + (3 * x3)) : Int32).toNatClampNeg)) fun v7 => if v7 = x2 then some x3 else k2 (x0) (x1) (x2) ((x3 + 1))
def f_X11_wantOf_2 (M : Mem)  : Nat → Nat → Int32 → Int32 → Int32 → Option (Int32)
  | 0 => fun _ _ _ _ => none
  | n + 1 => fun y0 y1 y2 y3 => s_X11_wantOf_2 M  (f_X11_wantOf_2 M  n) y0 y1 y2 y3
def f_X11_wantOf (M : Mem) (a0 : Nat) (a1 : Int32) (a2 : Int32) : Option (Int32) :=
  f_X11_wantOf_2 M FU (a0) (a1) (a2) (0)
theorem t_s_X11_wantOf_2 {X : Cx} {M : Mem} {res : Int32} {k2 : Nat → Int32 → Int32 → Int32 → Option (Int32)} (hX : OkX X cX11_wantOf RX11 0 0) (hn : Fit X shR nR) (hR : RetI X shR nR .int (M, res)) (hk2 : ∀ x0 x1 x2 x3, k2 x0 x1 x2 x3 = some res → GoN X shR nR 0 0 M 2 [some (.ref (X.B + x0)), some (.int (x1)), some (.int (x2)), some (.int (x3))] []) (x0 : Nat) (x1 : Int32) (x2 : Int32) (x3 : Int32) (hf : s_X11_wantOf_2 M k2 x0 x1 x2 x3 = some res) : GoN X shR nR 0 0 M 2 [some (.ref (X.B + x0)), some (.int (x1)), some (.int (x2)), some (.int (x3))] [] := by
  refine r_iload_n (i := 3) hX e_X11_wantOf_2 rfl rfl ?_
  refine r_aload_n (i := 0) hX e_X11_wantOf_3 rfl rfl ?_
  obtain ⟨g1, hf⟩ := gd_s hf
  obtain ⟨r2, hr2, hf⟩ := bd_s hf
  refine r_getR hX hn e_X11_wantOf_4 fl_11_43 rfl g1 hr2 ?_
  refine r_iconst hX e_X11_wantOf_7 ic_4 ?_
  refine r_iload_n (i := 1) hX e_X11_wantOf_8 rfl rfl ?_
  refine r_imul hX e_X11_wantOf_9 ?_
  refine r_iconst hX e_X11_wantOf_10 ic_3 ?_
  refine r_iadd hX e_X11_wantOf_11 ?_
  obtain ⟨g3, hf⟩ := gd_s hf
  refine r_iald hX hn e_X11_wantOf_12 g3 ?_
  obtain ⟨v4, hv4, hf⟩ := nx_s hf
  refine top_i hv4 ?_
  refine r_icmp_ge hX e_X11_wantOf_13 (fun hc => ?_) (fun hc => ?_)
  · have hf := ite_t hf hc
    refine r_iconst hX e_X11_wantOf_41 ic_m1 ?_
    exact r_iret hX hR e_X11_wantOf_42 (ro_s hf)
  · have hf := ite_f hf hc
    refine r_aload_n (i := 0) hX e_X11_wantOf_16 rfl rfl ?_
    obtain ⟨r5, hr5, hf⟩ := bd_s hf
    refine r_getR hX hn e_X11_wantOf_17 fl_11_46 rfl g1 hr5 ?_
    refine r_bipush hX e_X11_wantOf_20 bc_9 ?_
    refine r_iload_n (i := 1) hX e_X11_wantOf_22 rfl rfl ?_
    refine r_imul hX e_X11_wantOf_23 ?_
    refine r_iconst hX e_X11_wantOf_24 ic_3 ?_
    refine r_iload_n (i := 3) hX e_X11_wantOf_25 rfl rfl ?_
    refine r_imul hX e_X11_wantOf_26 ?_
    refine r_iadd hX e_X11_wantOf_27 ?_
    obtain ⟨g6, hf⟩ := gd_s hf
    refine r_iald hX hn e_X11_wantOf_28 g6 ?_
    obtain ⟨v7, hv7, hf⟩ := nx_s hf
    refine top_i hv7 ?_
    refine r_iload_n (i := 2) hX e_X11_wantOf_29 rfl rfl ?_
    refine r_icmp_ne hX e_X11_wantOf_30 (fun hc => ?_) (fun hc => ?_)
    · have hf := ite_f hf hc
      refine r_iinc (v := x3 + 1) hX e_X11_wantOf_35 rfl (ii_s ic_1) (Nat.le_of_ble_eq_true rfl) rfl ?_
      refine r_goto hX e_X11_wantOf_38 ?_
      exact GoN.weak (hk2 (x0) (x1) (x2) ((x3 + 1)) hf) rfl (sb_s (sb_s (sb_s (sb_s (sb_z _)))))
    · have hf := ite_t hf hc
      refine r_iload_n (i := 3) hX e_X11_wantOf_33 rfl rfl ?_
      exact r_iret hX hR e_X11_wantOf_34 (ro_s hf)
theorem t_X11_wantOf_2 {X : Cx} {M : Mem} {res : Int32}  (hX : OkX X cX11_wantOf RX11 0 0) (hn : Fit X shR nR) (hR : RetI X shR nR .int (M, res))  : ∀ (n : Nat) (x0 : Nat) (x1 : Int32) (x2 : Int32) (x3 : Int32),  f_X11_wantOf_2 M  n x0 x1 x2 x3 = some res → GoN X shR nR 0 0 M 2 [some (.ref (X.B + x0)), some (.int (x1)), some (.int (x2)), some (.int (x3))] [] := by
  intro n
  induction n with
  | zero => intro x0 x1 x2 x3 hf; cases hf
  | succ n ih => intro x0 x1 x2 x3 hf; exact t_s_X11_wantOf_2 hX hn hR  ih x0 x1 x2 x3 hf
theorem t_X11_wantOf {l : Launch} {M : Mem} {a0 : Nat} {a1 a2 : Int32} {res : Int32} (hf : f_X11_wantOf M a0 a1 a2 = some res) : Ci l yX11_wantOf cX11_wantOf 4 (some .int) 0 0 shR nR (fun K B => [.ref (B + a0), .int a1, .int a2]) M (M, res) := by
  refine met_i (own := RX11) (lo := fun K B => [some (.ref (B + a0)), some (.int a1), some (.int a2), none]) (by decide +kernel) rfl shR_ok (fun _ _ => rfl) (fun _ _ => rfl) (fun _ _ => Nat.le_of_ble_eq_true rfl) (fun X hX hn hlx hR => ?_)
  refine r_iconst hX e_X11_wantOf_0 ic_0 ?_
  refine r_istore_n (i := 3) hX e_X11_wantOf_1 rfl (Nat.le_of_ble_eq_true rfl) rfl ?_
  exact GoN.weak (t_X11_wantOf_2 hX hn hR FU (a0) (a1) (a2) (0) hf) rfl (sb_s (sb_s (sb_s (sb_s (sb_z _)))))
def f_X11_lackOf (M : Mem) (a0 : Nat) (a1 : Int32) : Option (Int32) :=
  gd (oB shR a0 11) <| bd (gR M a0 40) fun r2 => gd (aB shR r2 0 (3 * a1)) <| gd (aB shR r2 0 ((3 * a1) + 1)) <| nx ((gI M r2 (((3 * a1) + 1) : Int32).toNatClampNeg)) fun v5 => nx (((gI M r2 ((3 * a1) : Int32).toNatClampNeg) + v5)) fun v6 => gd (aB shR r2 0 ((3 * a1) + 2)) <| nx ((gI M r2 (((3 * a1) + 2) : Int32).toNatClampNeg)) fun v8 => some (v6 + v8)
theorem t_X11_lackOf {l : Launch} {M : Mem} {a0 : Nat} {a1 : Int32} {res : Int32} (hf : f_X11_lackOf M a0 a1 = some res) : Ci l yX11_lackOf cX11_lackOf 2 (some .int) 0 0 shR nR (fun K B => [.ref (B + a0), .int a1]) M (M, res) := by
  refine met_i (own := RX11) (lo := fun K B => [some (.ref (B + a0)), some (.int a1)]) (by decide +kernel) rfl shR_ok (fun _ _ => rfl) (fun _ _ => rfl) (fun _ _ => Nat.le_of_ble_eq_true rfl) (fun X hX hn hlx hR => ?_)
  refine r_aload_n (i := 0) hX e_X11_lackOf_0 rfl rfl ?_
  obtain ⟨g1, hf⟩ := gd_s hf
  obtain ⟨r2, hr2, hf⟩ := bd_s hf
  refine r_getR hX hn e_X11_lackOf_1 fl_11_92 rfl g1 hr2 ?_
  refine r_iconst hX e_X11_lackOf_4 ic_3 ?_
  refine r_iload_n (i := 1) hX e_X11_lackOf_5 rfl rfl ?_
  refine r_imul hX e_X11_lackOf_6 ?_
  obtain ⟨g3, hf⟩ := gd_s hf
  refine r_iald hX hn e_X11_lackOf_7 g3 ?_
  refine r_aload_n (i := 0) hX e_X11_lackOf_8 rfl rfl ?_
  refine r_getR hX hn e_X11_lackOf_9 fl_11_92 rfl g1 hr2 ?_
  refine r_iconst hX e_X11_lackOf_12 ic_3 ?_
  refine r_iload_n (i := 1) hX e_X11_lackOf_13 rfl rfl ?_
  refine r_imul hX e_X11_lackOf_14 ?_
  refine r_iconst hX e_X11_lackOf_15 ic_1 ?_
  refine r_iadd hX e_X11_lackOf_16 ?_
  obtain ⟨g4, hf⟩ := gd_s hf
  refine r_iald hX hn e_X11_lackOf_17 g4 ?_
  obtain ⟨v5, hv5, hf⟩ := nx_s hf
  refine top_i hv5 ?_
  refine r_iadd hX e_X11_lackOf_18 ?_
  obtain ⟨v6, hv6, hf⟩ := nx_s hf
  refine top_i hv6 ?_
  refine r_aload_n (i := 0) hX e_X11_lackOf_19 rfl rfl ?_
  refine r_getR hX hn e_X11_lackOf_20 fl_11_92 rfl g1 hr2 ?_
  refine r_iconst hX e_X11_lackOf_23 ic_3 ?_
  refine r_iload_n (i := 1) hX e_X11_lackOf_24 rfl rfl ?_
  refine r_imul hX e_X11_lackOf_25 ?_
  refine r_iconst hX e_X11_lackOf_26 ic_2 ?_
  refine r_iadd hX e_X11_lackOf_27 ?_
  obtain ⟨g7, hf⟩ := gd_s hf
  refine r_iald hX hn e_X11_lackOf_28 g7 ?_
  obtain ⟨v8, hv8, hf⟩ := nx_s hf
  refine top_i hv8 ?_
  refine r_iadd hX e_X11_lackOf_29 ?_
  exact r_iret hX hR e_X11_lackOf_30 (ro_s hf)
def s_X11_begin_181 (k181 : Mem → Nat → Int32 → Option (Mem)) (M : Mem) (x0 : Nat) (x1 : Int32) : Option (Mem) :=
  if 360 ≤ x1 then gd (oB shR x0 11) <| nx (sI M x0 46 0) fun M2 => nx (sI M2 x0 47 0) fun M3 => some M3 else gd (oB shR x0 11) <| bd (gR M x0 41) fun r5 => gd (aB shR r5 2 x1) <| nx (sI M r5 (x1 : Int32).toNatClampNeg (vp_nar .boolean 0)) fun M7 => k181 M7 (x0) ((x1 + 1))
def f_X11_begin_181  : Nat → Mem → Nat → Int32 → Option (Mem)
  | 0 => fun _ _ _ => none
  | n + 1 => fun y0 y1 y2 => s_X11_begin_181  (f_X11_begin_181  n) y0 y1 y2
def s_X11_begin_100 (k65 : Mem → Nat → Int32 → Option (Mem)) (k100 : Mem → Nat → Int32 → Int32 → Option (Mem)) (M : Mem) (x0 : Nat) (x1 : Int32) (x2 : Int32) : Option (Mem) :=
  if 3 ≤ x2 then gd (oB shR x0 11) <| bd (gR M x0 39) fun r2 => bd (f_X11_lackOf M x0 x1) fun v3 => if v3 = 0 then gd (aB shR r2 0 x1) <| nx (sI M r2 (x1 : Int32).toNatClampNeg 0) fun M7 => k65 M7 (x0) ((x1 + 1)) else gd (aB shR r2 0 x1) <| nx (sI M r2 (x1 : Int32).toNatClampNeg (-1)) fun M5 => k65 M5 (x0) ((x1 + 1)) else gd (oB shR x0 11) <| bd (gR M x0 40) fun r9 => bd (gR M x0 20) fun r10 => gd (aB shR r10 0 ((4 * x1) + 3)) <| nx ((gI M r10 (((4 * x1) + 3) : Int32).toNatClampNeg)) fun v12 => if v12 ≤ x2 then gd (aB shR r9 0 ((3 * x1) + x2)) <| nx (sI M r9 (((3 * x1) + x2) : Int32).toNatClampNeg 0) fun M14 => k100 M14 (x0) (x1) ((x2 + 1)) else bd (gR M x0 21) fun r15 => gd (aB shR r15 0 (((9 * x1) + (3 * x2)) + 1)) <| nx ((gI M r15 ((((9 * x1) + (3 * x2)) + 1) : Int32).toNatClampNeg)) fun v17 => gd (aB shR r9 0 ((3 * x1) + x2)) <| nx (sI M r9 (((3 * x1) + x2) : Int32).toNatClampNeg v17) fun M19 => k100 M19 (x0) (x1) ((x2 + 1))
def f_X11_begin_100 (k65 : Mem → Nat → Int32 → Option (Mem)) : Nat → Mem → Nat → Int32 → Int32 → Option (Mem)
  | 0 => fun _ _ _ _ => none
  | n + 1 => fun y0 y1 y2 y3 => s_X11_begin_100 k65 (f_X11_begin_100 k65 n) y0 y1 y2 y3
def s_X11_begin_65 (k65 : Mem → Nat → Int32 → Option (Mem)) (M : Mem) (x0 : Nat) (x1 : Int32) : Option (Mem) :=
  gd (oB shR x0 11) <| bd (gR M x0 17) fun r2 => gd (aB shR r2 0 4) <| if (gI M r2 (4 : Int32).toNatClampNeg) ≤ x1 then f_X11_begin_181 FU M (x0) (0) else bd (gR M x0 37) fun r4 => bd (gR M x0 20) fun r5 => gd (aB shR r5 0 ((4 * x1) + 1)) <| nx ((gI M r5 (((4 * x1) + 1) : Int32).toNatClampNeg)) fun v7 => gd (aB shR r4 0 x1) <| nx (sI M r4 (x1 : Int32).toNatClampNeg v7) fun M9 => bd (gR M9 x0 38) fun r10 => gd (aB shR r10 0 x1) <| nx (sI M9 r10 (x1 : Int32).toNatClampNeg 0) fun M12 => f_X11_begin_100 k65 FU M12 (x0) (x1) (0)
def f_X11_begin_65  : Nat → Mem → Nat → Int32 → Option (Mem)
  | 0 => fun _ _ _ => none
  | n + 1 => fun y0 y1 y2 => s_X11_begin_65  (f_X11_begin_65  n) y0 y1 y2
def s_X11_begin_2 (k2 : Mem → Nat → Int32 → Option (Mem)) (M : Mem) (x0 : Nat) (x1 : Int32) : Option (Mem) :=
  gd (oB shR x0 11) <| bd (gR M x0 17) fun r2 => gd (aB shR r2 0 3) <| if (gI M r2 (3 : Int32).toNatClampNeg) ≤ x1 then f_X11_begin_65 FU M (x0) (0) else bd (gR M x0 30) fun r4 => bd (f_X11_of M x0 x1 3) fun v5 => gd (aB shR r4 0 x1) <| nx (sI M r4 (x1 : Int32).toNatClampNeg v5) fun M7 => bd (gR M7 x0 31) fun r8 => bd (f_X11_of M7 x0 x1 4) fun v9 => gd (aB shR r8 0 x1) <| nx (sI M7 r8 (x1 : Int32).toNatClampNeg v9) fun M11 => bd (gR M11 x0 32) fun r12 => gd (aB shR r12 0 x1) <| nx (sI M11 r12 (x1 : Int32).toNatClampNeg 0) fun M14 => bd (gR M14 x0 33) fun r15 => gd (aB shR r15 0 x1) <| nx (sI M14 r15 (x1 : Int32).toNatClampNeg 0) fun M17 => bd (gR M17 x0 34) fun r18 => gd (aB shR r18 0 x1) <| nx (sI M17 r18 (x1 : Int32).toNatClampNeg (-1)) fun M20 => k2 M20 (x0) ((x1 + 1))
def f_X11_begin_2  : Nat → Mem → Nat → Int32 → Option (Mem)
  | 0 => fun _ _ _ => none
  | n + 1 => fun y0 y1 y2 => s_X11_begin_2  (f_X11_begin_2  n) y0 y1 y2
def f_X11_begin (M : Mem) (a0 : Nat) : Option (Mem) :=
  f_X11_begin_2 FU M (a0) (0)
theorem t_s_X11_begin_181 {X : Cx} {res : Mem} {k181 : Mem → Nat → Int32 → Option (Mem)} (hX : OkX X cX11_begin RX11 1 22) (hn : Fit X shR nR) (hR : RetV X shR nR res) (hk181 : ∀ M x0 x1, k181 M x0 x1 = some res → GoN X shR nR 0 0 M 181 [some (.ref (X.B + x0)), some (.int (x1)), none] []) (M : Mem) (x0 : Nat) (x1 : Int32) (hf : s_X11_begin_181 k181 M x0 x1 = some res) : GoN X shR nR 0 0 M 181 [some (.ref (X.B + x0)), some (.int (x1)), none] [] := by
  refine r_iload_n (i := 1) hX e_X11_begin_181 rfl rfl ?_
  refine r_sipush hX e_X11_begin_182 sc_360 ?_
  refine r_icmp_ge hX e_X11_begin_185 (fun hc => ?_) (fun hc => ?_)
  · have hf := ite_t hf hc
    refine r_aload_n (i := 0) hX e_X11_begin_201 rfl rfl ?_
    refine r_iconst hX e_X11_begin_202 ic_0 ?_
    obtain ⟨g1, hf⟩ := gd_s hf
    obtain ⟨M2, hM2, hf⟩ := nx_s hf
    refine r_putI hX hn hM2 e_X11_begin_203 fl_11_371 fp_11_46 rfl g1 ?_
    refine r_aload_n (i := 0) hX e_X11_begin_206 rfl rfl ?_
    refine r_iconst hX e_X11_begin_207 ic_0 ?_
    obtain ⟨M3, hM3, hf⟩ := nx_s hf
    refine r_putI hX hn hM3 e_X11_begin_208 fl_11_374 fp_11_47 rfl g1 ?_
    exact r_ret hX hR e_X11_begin_211 hf
  · have hf := ite_f hf hc
    refine r_aload_n (i := 0) hX e_X11_begin_188 rfl rfl ?_
    obtain ⟨g4, hf⟩ := gd_s hf
    obtain ⟨r5, hr5, hf⟩ := bd_s hf
    refine r_getR hX hn e_X11_begin_189 fl_11_95 rfl g4 hr5 ?_
    refine r_iload_n (i := 1) hX e_X11_begin_192 rfl rfl ?_
    refine r_iconst hX e_X11_begin_193 ic_0 ?_
    obtain ⟨g6, hf⟩ := gd_s hf
    obtain ⟨M7, hM7, hf⟩ := nx_s hf
    refine r_zast hX hn hM7 e_X11_begin_194 g6 ?_
    refine r_iinc (v := x1 + 1) hX e_X11_begin_195 rfl (ii_s ic_1) (Nat.le_of_ble_eq_true rfl) rfl ?_
    refine r_goto hX e_X11_begin_198 ?_
    exact GoN.weak (hk181 M7 (x0) ((x1 + 1)) hf) rfl (sb_s (sb_s (sb_n (sb_z _))))
theorem t_X11_begin_181 {X : Cx} {res : Mem}  (hX : OkX X cX11_begin RX11 1 22) (hn : Fit X shR nR) (hR : RetV X shR nR res)  : ∀ (n : Nat) (M : Mem) (x0 : Nat) (x1 : Int32),  f_X11_begin_181  n M x0 x1 = some res → GoN X shR nR 0 0 M 181 [some (.ref (X.B + x0)), some (.int (x1)), none] [] := by
  intro n
  induction n with
  | zero => intro M x0 x1 hf; cases hf
  | succ n ih => intro M x0 x1 hf; exact t_s_X11_begin_181 hX hn hR  ih M x0 x1 hf
theorem t_s_X11_begin_100 {X : Cx} {res : Mem} {k65 : Mem → Nat → Int32 → Option (Mem)} {k100 : Mem → Nat → Int32 → Int32 → Option (Mem)} (hX : OkX X cX11_begin RX11 1 22) (hn : Fit X shR nR) (hR : RetV X shR nR res) (hk65 : ∀ M x0 x1, k65 M x0 x1 = some res → GoN X shR nR 0 0 M 65 [some (.ref (X.B + x0)), some (.int (x1)), none] []) (hk100 : ∀ M x0 x1 x2, k100 M x0 x1 x2 = some res → GoN X shR nR 0 0 M 100 [some (.ref (X.B + x0)), some (.int (x1)), some (.int (x2))] []) (M : Mem) (x0 : Nat) (x1 : Int32) (x2 : Int32) (hf : s_X11_begin_100 k65 k100 M x0 x1 x2 = some res) : GoN X shR nR 0 0 M 100 [some (.ref (X.B + x0)), some (.int (x1)), some (.int (x2))] [] := by
  refine r_iload_n (i := 2) hX e_X11_begin_100 rfl rfl ?_
  refine r_iconst hX e_X11_begin_101 ic_3 ?_
  refine r_icmp_ge hX e_X11_begin_102 (fun hc => ?_) (fun hc => ?_)
  · have hf := ite_t hf hc
    refine r_aload_n (i := 0) hX e_X11_begin_154 rfl rfl ?_
    obtain ⟨g1, hf⟩ := gd_s hf
    obtain ⟨r2, hr2, hf⟩ := bd_s hf
    refine r_getR hX hn e_X11_begin_155 fl_11_89 rfl g1 hr2 ?_
    refine r_iload_n (i := 1) hX e_X11_begin_158 rfl rfl ?_
    refine r_aload_n (i := 0) hX e_X11_begin_159 rfl rfl ?_
    refine r_iload_n (i := 1) hX e_X11_begin_160 rfl rfl ?_
    obtain ⟨v3, hv3, hf⟩ := bd_s hf
    refine r_cvi (As := fun K B => [.int (x1)]) hX hn (t_X11_lackOf hv3) e_X11_begin_161 cw_X11_lackOf cv_X11_lackOf lk_11_368 ⟨Nat.le_of_ble_eq_true rfl, Nat.le_of_ble_eq_true rfl⟩ (ci := 11) rfl rfl (Nat.le_of_ble_eq_true rfl) g1 rfl rfl (Nat.le_of_ble_eq_true rfl) ⟨Nat.zero_le _, Nat.zero_le _⟩ ?_
    refine r_if_ne hX e_X11_begin_164 (fun hc => ?_) (fun hc => ?_)
    · have hf := ite_f hf hc
      refine r_iconst hX e_X11_begin_171 ic_m1 ?_
      obtain ⟨g4, hf⟩ := gd_s hf
      obtain ⟨M5, hM5, hf⟩ := nx_s hf
      refine r_iast hX hn hM5 e_X11_begin_172 g4 ?_
      refine r_iinc (v := x1 + 1) hX e_X11_begin_173 rfl (ii_s ic_1) (Nat.le_of_ble_eq_true rfl) rfl ?_
      refine r_goto hX e_X11_begin_176 ?_
      exact GoN.weak (hk65 M5 (x0) ((x1 + 1)) hf) rfl (sb_s (sb_s (sb_n (sb_z _))))
    · have hf := ite_t hf hc
      refine r_iconst hX e_X11_begin_167 ic_0 ?_
      refine r_goto hX e_X11_begin_168 ?_
      obtain ⟨g6, hf⟩ := gd_s hf
      obtain ⟨M7, hM7, hf⟩ := nx_s hf
      refine r_iast hX hn hM7 e_X11_begin_172 g6 ?_
      refine r_iinc (v := x1 + 1) hX e_X11_begin_173 rfl (ii_s ic_1) (Nat.le_of_ble_eq_true rfl) rfl ?_
      refine r_goto hX e_X11_begin_176 ?_
      exact GoN.weak (hk65 M7 (x0) ((x1 + 1)) hf) rfl (sb_s (sb_s (sb_n (sb_z _))))
  · have hf := ite_f hf hc
    refine r_aload_n (i := 0) hX e_X11_begin_105 rfl rfl ?_
    obtain ⟨g8, hf⟩ := gd_s hf
    obtain ⟨r9, hr9, hf⟩ := bd_s hf
    refine r_getR hX hn e_X11_begin_106 fl_11_92 rfl g8 hr9 ?_
    refine r_iconst hX e_X11_begin_109 ic_3 ?_
    refine r_iload_n (i := 1) hX e_X11_begin_110 rfl rfl ?_
    refine r_imul hX e_X11_begin_111 ?_
    refine r_iload_n (i := 2) hX e_X11_begin_112 rfl rfl ?_
    refine r_iadd hX e_X11_begin_113 ?_
    refine r_iload_n (i := 2) hX e_X11_begin_114 rfl rfl ?_
    refine r_aload_n (i := 0) hX e_X11_begin_115 rfl rfl ?_
    obtain ⟨r10, hr10, hf⟩ := bd_s hf
    refine r_getR hX hn e_X11_begin_116 fl_11_43 rfl g8 hr10 ?_
    refine r_iconst hX e_X11_begin_119 ic_4 ?_
    refine r_iload_n (i := 1) hX e_X11_begin_120 rfl rfl ?_
    refine r_imul hX e_X11_begin_121 ?_
    refine r_iconst hX e_X11_begin_122 ic_3 ?_
    refine r_iadd hX e_X11_begin_123 ?_
    obtain ⟨g11, hf⟩ := gd_s hf
    refine r_iald hX hn e_X11_begin_124 g11 ?_
    obtain ⟨v12, hv12, hf⟩ := nx_s hf
    refine top_i hv12 ?_
    refine r_icmp_ge hX e_X11_begin_125 (fun hc => ?_) (fun hc => ?_)
    · have hf := ite_t hf hc
      refine r_iconst hX e_X11_begin_146 ic_0 ?_
      obtain ⟨g13, hf⟩ := gd_s hf
      obtain ⟨M14, hM14, hf⟩ := nx_s hf
      refine r_iast hX hn hM14 e_X11_begin_147 g13 ?_
      refine r_iinc (v := x2 + 1) hX e_X11_begin_148 rfl (ii_s ic_1) (Nat.le_of_ble_eq_true rfl) rfl ?_
      refine r_goto hX e_X11_begin_151 ?_
      exact GoN.weak (hk100 M14 (x0) (x1) ((x2 + 1)) hf) rfl (sb_s (sb_s (sb_s (sb_z _))))
    · have hf := ite_f hf hc
      refine r_aload_n (i := 0) hX e_X11_begin_128 rfl rfl ?_
      obtain ⟨r15, hr15, hf⟩ := bd_s hf
      refine r_getR hX hn e_X11_begin_129 fl_11_46 rfl g8 hr15 ?_
      refine r_bipush hX e_X11_begin_132 bc_9 ?_
      refine r_iload_n (i := 1) hX e_X11_begin_134 rfl rfl ?_
      refine r_imul hX e_X11_begin_135 ?_
      refine r_iconst hX e_X11_begin_136 ic_3 ?_
      refine r_iload_n (i := 2) hX e_X11_begin_137 rfl rfl ?_
      refine r_imul hX e_X11_begin_138 ?_
      refine r_iadd hX e_X11_begin_139 ?_
      refine r_iconst hX e_X11_begin_140 ic_1 ?_
      refine r_iadd hX e_X11_begin_141 ?_
      obtain ⟨g16, hf⟩ := gd_s hf
      refine r_iald hX hn e_X11_begin_142 g16 ?_
      obtain ⟨v17, hv17, hf⟩ := nx_s hf
      refine top_i hv17 ?_
      refine r_goto hX e_X11_begin_143 ?_
      obtain ⟨g18, hf⟩ := gd_s hf
      obtain ⟨M19, hM19, hf⟩ := nx_s hf
      refine r_iast hX hn hM19 e_X11_begin_147 g18 ?_
      refine r_iinc (v := x2 + 1) hX e_X11_begin_148 rfl (ii_s ic_1) (Nat.le_of_ble_eq_true rfl) rfl ?_
      refine r_goto hX e_X11_begin_151 ?_
      exact GoN.weak (hk100 M19 (x0) (x1) ((x2 + 1)) hf) rfl (sb_s (sb_s (sb_s (sb_z _))))
theorem t_X11_begin_100 {X : Cx} {res : Mem} {k65 : Mem → Nat → Int32 → Option (Mem)} (hX : OkX X cX11_begin RX11 1 22) (hn : Fit X shR nR) (hR : RetV X shR nR res) (hk65 : ∀ M x0 x1, k65 M x0 x1 = some res → GoN X shR nR 0 0 M 65 [some (.ref (X.B + x0)), some (.int (x1)), none] []) : ∀ (n : Nat) (M : Mem) (x0 : Nat) (x1 : Int32) (x2 : Int32),  f_X11_begin_100 k65 n M x0 x1 x2 = some res → GoN X shR nR 0 0 M 100 [some (.ref (X.B + x0)), some (.int (x1)), some (.int (x2))] [] := by
  intro n
  induction n with
  | zero => intro M x0 x1 x2 hf; cases hf
  | succ n ih => intro M x0 x1 x2 hf; exact t_s_X11_begin_100 hX hn hR hk65 ih M x0 x1 x2 hf
theorem t_s_X11_begin_65 {X : Cx} {res : Mem} {k65 : Mem → Nat → Int32 → Option (Mem)} (hX : OkX X cX11_begin RX11 1 22) (hn : Fit X shR nR) (hR : RetV X shR nR res) (hk65 : ∀ M x0 x1, k65 M x0 x1 = some res → GoN X shR nR 0 0 M 65 [some (.ref (X.B + x0)), some (.int (x1)), none] []) (M : Mem) (x0 : Nat) (x1 : Int32) (hf : s_X11_begin_65 k65 M x0 x1 = some res) : GoN X shR nR 0 0 M 65 [some (.ref (X.B + x0)), some (.int (x1)), none] [] := by
  refine r_iload_n (i := 1) hX e_X11_begin_65 rfl rfl ?_
  refine r_aload_n (i := 0) hX e_X11_begin_66 rfl rfl ?_
  obtain ⟨g1, hf⟩ := gd_s hf
  obtain ⟨r2, hr2, hf⟩ := bd_s hf
  refine r_getR hX hn e_X11_begin_67 fl_11_34 rfl g1 hr2 ?_
  refine r_iconst hX e_X11_begin_70 ic_4 ?_
  obtain ⟨g3, hf⟩ := gd_s hf
  refine r_iald hX hn e_X11_begin_71 g3 ?_
  refine r_icmp_ge hX e_X11_begin_72 (fun hc => ?_) (fun hc => ?_)
  · have hf := ite_t hf hc
    refine r_iconst hX e_X11_begin_179 ic_0 ?_
    refine r_istore_n (i := 1) hX e_X11_begin_180 rfl (Nat.le_of_ble_eq_true rfl) rfl ?_
    exact GoN.weak (t_X11_begin_181 hX hn hR FU M (x0) (0) hf) rfl (sb_s (sb_s (sb_n (sb_z _))))
  · have hf := ite_f hf hc
    refine r_aload_n (i := 0) hX e_X11_begin_75 rfl rfl ?_
    obtain ⟨r4, hr4, hf⟩ := bd_s hf
    refine r_getR hX hn e_X11_begin_76 fl_11_83 rfl g1 hr4 ?_
    refine r_iload_n (i := 1) hX e_X11_begin_79 rfl rfl ?_
    refine r_aload_n (i := 0) hX e_X11_begin_80 rfl rfl ?_
    obtain ⟨r5, hr5, hf⟩ := bd_s hf
    refine r_getR hX hn e_X11_begin_81 fl_11_43 rfl g1 hr5 ?_
    refine r_iconst hX e_X11_begin_84 ic_4 ?_
    refine r_iload_n (i := 1) hX e_X11_begin_85 rfl rfl ?_
    refine r_imul hX e_X11_begin_86 ?_
    refine r_iconst hX e_X11_begin_87 ic_1 ?_
    refine r_iadd hX e_X11_begin_88 ?_
    obtain ⟨g6, hf⟩ := gd_s hf
    refine r_iald hX hn e_X11_begin_89 g6 ?_
    obtain ⟨v7, hv7, hf⟩ := nx_s hf
    refine top_i hv7 ?_
    obtain ⟨g8, hf⟩ := gd_s hf
    obtain ⟨M9, hM9, hf⟩ := nx_s hf
    refine r_iast hX hn hM9 e_X11_begin_90 g8 ?_
    refine r_aload_n (i := 0) hX e_X11_begin_91 rfl rfl ?_
    obtain ⟨r10, hr10, hf⟩ := bd_s hf
    refine r_getR hX hn e_X11_begin_92 fl_11_86 rfl g1 hr10 ?_
    refine r_iload_n (i := 1) hX e_X11_begin_95 rfl rfl ?_
    refine r_iconst hX e_X11_begin_96 ic_0 ?_
    obtain ⟨g11, hf⟩ := gd_s hf
    obtain ⟨M12, hM12, hf⟩ := nx_s hf
    refine r_iast hX hn hM12 e_X11_begin_97 g11 ?_
    refine r_iconst hX e_X11_begin_98 ic_0 ?_
    refine r_istore_n (i := 2) hX e_X11_begin_99 rfl (Nat.le_of_ble_eq_true rfl) rfl ?_
    exact GoN.weak (t_X11_begin_100 hX hn hR hk65 FU M12 (x0) (x1) (0) hf) rfl (sb_s (sb_s (sb_s (sb_z _))))
theorem t_X11_begin_65 {X : Cx} {res : Mem}  (hX : OkX X cX11_begin RX11 1 22) (hn : Fit X shR nR) (hR : RetV X shR nR res)  : ∀ (n : Nat) (M : Mem) (x0 : Nat) (x1 : Int32),  f_X11_begin_65  n M x0 x1 = some res → GoN X shR nR 0 0 M 65 [some (.ref (X.B + x0)), some (.int (x1)), none] [] := by
  intro n
  induction n with
  | zero => intro M x0 x1 hf; cases hf
  | succ n ih => intro M x0 x1 hf; exact t_s_X11_begin_65 hX hn hR  ih M x0 x1 hf
theorem t_s_X11_begin_2 {X : Cx} {res : Mem} {k2 : Mem → Nat → Int32 → Option (Mem)} (hX : OkX X cX11_begin RX11 1 22) (hn : Fit X shR nR) (hR : RetV X shR nR res) (hk2 : ∀ M x0 x1, k2 M x0 x1 = some res → GoN X shR nR 0 0 M 2 [some (.ref (X.B + x0)), some (.int (x1)), none] []) (M : Mem) (x0 : Nat) (x1 : Int32) (hf : s_X11_begin_2 k2 M x0 x1 = some res) : GoN X shR nR 0 0 M 2 [some (.ref (X.B + x0)), some (.int (x1)), none] [] := by
  refine r_iload_n (i := 1) hX e_X11_begin_2 rfl rfl ?_
  refine r_aload_n (i := 0) hX e_X11_begin_3 rfl rfl ?_
  obtain ⟨g1, hf⟩ := gd_s hf
  obtain ⟨r2, hr2, hf⟩ := bd_s hf
  refine r_getR hX hn e_X11_begin_4 fl_11_34 rfl g1 hr2 ?_
  refine r_iconst hX e_X11_begin_7 ic_3 ?_
  obtain ⟨g3, hf⟩ := gd_s hf
  refine r_iald hX hn e_X11_begin_8 g3 ?_
  refine r_icmp_ge hX e_X11_begin_9 (fun hc => ?_) (fun hc => ?_)
  · have hf := ite_t hf hc
    refine r_iconst hX e_X11_begin_63 ic_0 ?_
    refine r_istore_n (i := 1) hX e_X11_begin_64 rfl (Nat.le_of_ble_eq_true rfl) rfl ?_
    exact GoN.weak (t_X11_begin_65 hX hn hR FU M (x0) (0) hf) rfl (sb_s (sb_s (sb_n (sb_z _))))
  · have hf := ite_f hf hc
    refine r_aload_n (i := 0) hX e_X11_begin_12 rfl rfl ?_
    obtain ⟨r4, hr4, hf⟩ := bd_s hf
    refine r_getR hX hn e_X11_begin_13 fl_11_62 rfl g1 hr4 ?_
    refine r_iload_n (i := 1) hX e_X11_begin_16 rfl rfl ?_
    refine r_aload_n (i := 0) hX e_X11_begin_17 rfl rfl ?_
    refine r_iload_n (i := 1) hX e_X11_begin_18 rfl rfl ?_
    refine r_iconst hX e_X11_begin_19 ic_3 ?_
    obtain ⟨v5, hv5, hf⟩ := bd_s hf
    refine r_cvi (As := fun K B => [.int (x1), .int (3)]) hX hn (t_X11_of hv5) e_X11_begin_20 cw_X11_of cv_X11_of lk_11_310 ⟨Nat.le_of_ble_eq_true rfl, Nat.le_of_ble_eq_true rfl⟩ (ci := 11) rfl rfl (Nat.le_of_ble_eq_true rfl) g1 rfl rfl (Nat.le_of_ble_eq_true rfl) ⟨Nat.zero_le _, Nat.zero_le _⟩ ?_
    obtain ⟨g6, hf⟩ := gd_s hf
    obtain ⟨M7, hM7, hf⟩ := nx_s hf
    refine r_iast hX hn hM7 e_X11_begin_23 g6 ?_
    refine r_aload_n (i := 0) hX e_X11_begin_24 rfl rfl ?_
    obtain ⟨r8, hr8, hf⟩ := bd_s hf
    refine r_getR hX hn e_X11_begin_25 fl_11_65 rfl g1 hr8 ?_
    refine r_iload_n (i := 1) hX e_X11_begin_28 rfl rfl ?_
    refine r_aload_n (i := 0) hX e_X11_begin_29 rfl rfl ?_
    refine r_iload_n (i := 1) hX e_X11_begin_30 rfl rfl ?_
    refine r_iconst hX e_X11_begin_31 ic_4 ?_
    obtain ⟨v9, hv9, hf⟩ := bd_s hf
    refine r_cvi (As := fun K B => [.int (x1), .int (4)]) hX hn (t_X11_of hv9) e_X11_begin_32 cw_X11_of cv_X11_of lk_11_310 ⟨Nat.le_of_ble_eq_true rfl, Nat.le_of_ble_eq_true rfl⟩ (ci := 11) rfl rfl (Nat.le_of_ble_eq_true rfl) g1 rfl rfl (Nat.le_of_ble_eq_true rfl) ⟨Nat.zero_le _, Nat.zero_le _⟩ ?_
    obtain ⟨g10, hf⟩ := gd_s hf
    obtain ⟨M11, hM11, hf⟩ := nx_s hf
    refine r_iast hX hn hM11 e_X11_begin_35 g10 ?_
    refine r_aload_n (i := 0) hX e_X11_begin_36 rfl rfl ?_
    obtain ⟨r12, hr12, hf⟩ := bd_s hf
    refine r_getR hX hn e_X11_begin_37 fl_11_68 rfl g1 hr12 ?_
    refine r_iload_n (i := 1) hX e_X11_begin_40 rfl rfl ?_
    refine r_iconst hX e_X11_begin_41 ic_0 ?_
    obtain ⟨g13, hf⟩ := gd_s hf
    obtain ⟨M14, hM14, hf⟩ := nx_s hf
    refine r_iast hX hn hM14 e_X11_begin_42 g13 ?_
    refine r_aload_n (i := 0) hX e_X11_begin_43 rfl rfl ?_
    obtain ⟨r15, hr15, hf⟩ := bd_s hf
    refine r_getR hX hn e_X11_begin_44 fl_11_71 rfl g1 hr15 ?_
    refine r_iload_n (i := 1) hX e_X11_begin_47 rfl rfl ?_
    refine r_iconst hX e_X11_begin_48 ic_0 ?_
    obtain ⟨g16, hf⟩ := gd_s hf
    obtain ⟨M17, hM17, hf⟩ := nx_s hf
    refine r_iast hX hn hM17 e_X11_begin_49 g16 ?_
    refine r_aload_n (i := 0) hX e_X11_begin_50 rfl rfl ?_
    obtain ⟨r18, hr18, hf⟩ := bd_s hf
    refine r_getR hX hn e_X11_begin_51 fl_11_74 rfl g1 hr18 ?_
    refine r_iload_n (i := 1) hX e_X11_begin_54 rfl rfl ?_
    refine r_iconst hX e_X11_begin_55 ic_m1 ?_
    obtain ⟨g19, hf⟩ := gd_s hf
    obtain ⟨M20, hM20, hf⟩ := nx_s hf
    refine r_iast hX hn hM20 e_X11_begin_56 g19 ?_
    refine r_iinc (v := x1 + 1) hX e_X11_begin_57 rfl (ii_s ic_1) (Nat.le_of_ble_eq_true rfl) rfl ?_
    refine r_goto hX e_X11_begin_60 ?_
    exact GoN.weak (hk2 M20 (x0) ((x1 + 1)) hf) rfl (sb_s (sb_s (sb_n (sb_z _))))
theorem t_X11_begin_2 {X : Cx} {res : Mem}  (hX : OkX X cX11_begin RX11 1 22) (hn : Fit X shR nR) (hR : RetV X shR nR res)  : ∀ (n : Nat) (M : Mem) (x0 : Nat) (x1 : Int32),  f_X11_begin_2  n M x0 x1 = some res → GoN X shR nR 0 0 M 2 [some (.ref (X.B + x0)), some (.int (x1)), none] [] := by
  intro n
  induction n with
  | zero => intro M x0 x1 hf; cases hf
  | succ n ih => intro M x0 x1 hf; exact t_s_X11_begin_2 hX hn hR  ih M x0 x1 hf
theorem t_X11_begin {l : Launch} {M : Mem} {a0 : Nat} {res : Mem} (hf : f_X11_begin M a0 = some res) : Cv l yX11_begin cX11_begin 3 none 1 22 shR nR (fun K B => [.ref (B + a0)]) M res := by
  refine met_v (own := RX11) (lo := fun K B => [some (.ref (B + a0)), none, none]) (by decide +kernel) rfl shR_ok (fun _ _ => rfl) (fun _ _ => rfl) (fun _ _ => Nat.le_of_ble_eq_true rfl) (fun X hX hn hlx hR => ?_)
  refine r_iconst hX e_X11_begin_0 ic_0 ?_
  refine r_istore_n (i := 1) hX e_X11_begin_1 rfl (Nat.le_of_ble_eq_true rfl) rfl ?_
  exact GoN.weak (t_X11_begin_2 hX hn hR FU M (a0) (0) hf) rfl (sb_s (sb_s (sb_n (sb_z _))))
def f_X11_asked (M : Mem) (a0 : Nat) (a1 : Int32) (a2 : Int32) : Option (Int32) :=
  gd (oB shR a0 11) <| bd (f_X11_of M a0 a1 5) fun v2 => if v2 = 1 then bd (f_X11_of M a0 a1 4) fun v3 => bd (f_X11_of M a0 a1 6) fun v4 => bd (gR M a0 24) fun r5 => bd (f_X11_of M a0 a1 0) fun v6 => gd (aB shR r5 0 ((60 * v6) + a2)) <| nx ((gI M r5 (((60 * v6) + a2) : Int32).toNatClampNeg)) fun v8 => if 0 ≤ (v3 - (v4 * v8)) then some (v3 - (v4 * v8)) else some 0 else bd (gR M a0 31) fun r9 => gd (aB shR r9 0 a1) <| some (gI M r9 (a1 : Int32).toNatClampNeg)
theorem t_X11_asked {l : Launch} {M : Mem} {a0 : Nat} {a1 a2 : Int32} {res : Int32} (hf : f_X11_asked M a0 a1 a2 = some res) : Ci l yX11_asked cX11_asked 4 (some .int) 1 22 shR nR (fun K B => [.ref (B + a0), .int a1, .int a2]) M (M, res) := by
  refine met_i (own := RX11) (lo := fun K B => [some (.ref (B + a0)), some (.int a1), some (.int a2), none]) (by decide +kernel) rfl shR_ok (fun _ _ => rfl) (fun _ _ => rfl) (fun _ _ => Nat.le_of_ble_eq_true rfl) (fun X hX hn hlx hR => ?_)
  refine r_aload_n (i := 0) hX e_X11_asked_0 rfl rfl ?_
  refine r_iload_n (i := 1) hX e_X11_asked_1 rfl rfl ?_
  refine r_iconst hX e_X11_asked_2 ic_5 ?_
  obtain ⟨g1, hf⟩ := gd_s hf
  obtain ⟨v2, hv2, hf⟩ := bd_s hf
  refine r_cvi (As := fun K B => [.int (a1), .int (5)]) hX hn (t_X11_of hv2) e_X11_asked_3 cw_X11_of cv_X11_of lk_11_310 ⟨Nat.le_of_ble_eq_true rfl, Nat.le_of_ble_eq_true rfl⟩ (ci := 11) rfl rfl (Nat.le_of_ble_eq_true rfl) g1 rfl rfl (Nat.le_of_ble_eq_true rfl) ⟨Nat.zero_le _, Nat.zero_le _⟩ ?_
  refine r_iconst hX e_X11_asked_6 ic_1 ?_
  refine r_icmp_eq hX e_X11_asked_7 (fun hc => ?_) (fun hc => ?_)
  · have hf := ite_t hf hc
    refine r_aload_n (i := 0) hX e_X11_asked_17 rfl rfl ?_
    refine r_iload_n (i := 1) hX e_X11_asked_18 rfl rfl ?_
    refine r_iconst hX e_X11_asked_19 ic_4 ?_
    obtain ⟨v3, hv3, hf⟩ := bd_s hf
    refine r_cvi (As := fun K B => [.int (a1), .int (4)]) hX hn (t_X11_of hv3) e_X11_asked_20 cw_X11_of cv_X11_of lk_11_310 ⟨Nat.le_of_ble_eq_true rfl, Nat.le_of_ble_eq_true rfl⟩ (ci := 11) rfl rfl (Nat.le_of_ble_eq_true rfl) g1 rfl rfl (Nat.le_of_ble_eq_true rfl) ⟨Nat.zero_le _, Nat.zero_le _⟩ ?_
    refine r_aload_n (i := 0) hX e_X11_asked_23 rfl rfl ?_
    refine r_iload_n (i := 1) hX e_X11_asked_24 rfl rfl ?_
    refine r_bipush hX e_X11_asked_25 bc_6 ?_
    obtain ⟨v4, hv4, hf⟩ := bd_s hf
    refine r_cvi (As := fun K B => [.int (a1), .int (6)]) hX hn (t_X11_of hv4) e_X11_asked_27 cw_X11_of cv_X11_of lk_11_310 ⟨Nat.le_of_ble_eq_true rfl, Nat.le_of_ble_eq_true rfl⟩ (ci := 11) rfl rfl (Nat.le_of_ble_eq_true rfl) g1 rfl rfl (Nat.le_of_ble_eq_true rfl) ⟨Nat.zero_le _, Nat.zero_le _⟩ ?_
    refine r_aload_n (i := 0) hX e_X11_asked_30 rfl rfl ?_
    obtain ⟨r5, hr5, hf⟩ := bd_s hf
    refine r_getR hX hn e_X11_asked_31 fl_11_56 rfl g1 hr5 ?_
    refine r_bipush hX e_X11_asked_34 bc_60 ?_
    refine r_aload_n (i := 0) hX e_X11_asked_36 rfl rfl ?_
    refine r_iload_n (i := 1) hX e_X11_asked_37 rfl rfl ?_
    refine r_iconst hX e_X11_asked_38 ic_0 ?_
    obtain ⟨v6, hv6, hf⟩ := bd_s hf
    refine r_cvi (As := fun K B => [.int (a1), .int (0)]) hX hn (t_X11_of hv6) e_X11_asked_39 cw_X11_of cv_X11_of lk_11_310 ⟨Nat.le_of_ble_eq_true rfl, Nat.le_of_ble_eq_true rfl⟩ (ci := 11) rfl rfl (Nat.le_of_ble_eq_true rfl) g1 rfl rfl (Nat.le_of_ble_eq_true rfl) ⟨Nat.zero_le _, Nat.zero_le _⟩ ?_
    refine r_imul hX e_X11_asked_42 ?_
    refine r_iload_n (i := 2) hX e_X11_asked_43 rfl rfl ?_
    refine r_iadd hX e_X11_asked_44 ?_
    obtain ⟨g7, hf⟩ := gd_s hf
    refine r_iald hX hn e_X11_asked_45 g7 ?_
    obtain ⟨v8, hv8, hf⟩ := nx_s hf
    refine top_i hv8 ?_
    refine r_imul hX e_X11_asked_46 ?_
    refine r_isub hX e_X11_asked_47 ?_
    refine r_istore_n (i := 3) hX e_X11_asked_48 rfl (Nat.le_of_ble_eq_true rfl) rfl ?_
    refine r_iload_n (i := 3) hX e_X11_asked_49 rfl rfl ?_
    refine r_if_ge hX e_X11_asked_50 (fun hc => ?_) (fun hc => ?_)
    · have hf := ite_t hf hc
      refine r_iload_n (i := 3) hX e_X11_asked_57 rfl rfl ?_
      exact r_iret hX hR e_X11_asked_58 (ro_s hf)
    · have hf := ite_f hf hc
      refine r_iconst hX e_X11_asked_53 ic_0 ?_
      refine r_goto hX e_X11_asked_54 ?_
      exact r_iret hX hR e_X11_asked_58 (ro_s hf)
  · have hf := ite_f hf hc
    refine r_aload_n (i := 0) hX e_X11_asked_10 rfl rfl ?_
    obtain ⟨r9, hr9, hf⟩ := bd_s hf
    refine r_getR hX hn e_X11_asked_11 fl_11_65 rfl g1 hr9 ?_
    refine r_iload_n (i := 1) hX e_X11_asked_14 rfl rfl ?_
    obtain ⟨g10, hf⟩ := gd_s hf
    refine r_iald hX hn e_X11_asked_15 g10 ?_
    exact r_iret hX hR e_X11_asked_16 (ro_s hf)
def f_X11_would_97 (M : Mem)  (x2 : Int32) (x3 : Int32) : Option (Int32) :=
  if x2 < x3 then some 0 else some 1
def f_X11_would_72 (M : Mem)  (x0 : Nat) (x1 : Int32) (x2 : Int32) (x3 : Int32) (x4 : Int32) : Option (Int32) :=
  if x4 ≤ 1 then f_X11_would_97 M (x2) (x3) else gd (oB shR x0 11) <| bd (gR M x0 41) fun r2 => gd (aB shR r2 2 (((60 * x1) + x4) - 2)) <| nx ((gI M r2 ((((60 * x1) + x4) - 2) : Int32).toNatClampNeg)) fun v4 => if v4 = 0 then f_X11_would_97 M (x2) (x3) else some 0
def f_X11_would_44 (M : Mem)  (x0 : Nat) (x1 : Int32) (x2 : Int32) (x3 : Int32) (x4 : Int32) (x5 : Int32) : Option (Int32) :=
  if x5 = 2 then if x4 ≤ 0 then f_X11_would_72 M (x0) (x1) (x2) (x3) (x4) else gd (oB shR x0 11) <| bd (gR M x0 41) fun r2 => gd (aB shR r2 2 (((60 * x1) + x4) - 1)) <| nx ((gI M r2 ((((60 * x1) + x4) - 1) : Int32).toNatClampNeg)) fun v4 => if v4 = 0 then f_X11_would_72 M (x0) (x1) (x2) (x3) (x4) else some 0 else f_X11_would_97 M (x2) (x3)
def f_X11_would (M : Mem) (a0 : Nat) (a1 : Int32) (a2 : Int32) (a3 : Int32) (a4 : Int32) : Option (Int32) :=
  gd (oB shR a0 11) <| bd (gR M a0 20) fun r2 => gd (aB shR r2 0 ((4 * a1) + 2)) <| nx ((gI M r2 (((4 * a1) + 2) : Int32).toNatClampNeg)) fun v4 => if v4 = 1 then bd (gR M a0 17) fun r5 => gd (aB shR r5 0 1) <| if (gI M r5 (1 : Int32).toNatClampNeg) ≤ (2 * a4) then f_X11_would_44 M (a0) (a1) (a2) (a3) (a4) (v4) else if (a2 / 2) < a3 then some 0 else some 1 else f_X11_would_44 M (a0) (a1) (a2) (a3) (a4) (v4)
theorem t_X11_would_97 {X : Cx} {M : Mem} {res : Int32}  (hX : OkX X cX11_would RX11 0 0) (hn : Fit X shR nR) (hR : RetI X shR nR .boolean (M, res))  (x2 : Int32) (x3 : Int32) (hf : f_X11_would_97 M  x2 x3 = some res) : GoN X shR nR 0 0 M 97 [none, none, some (.int (x2)), some (.int (x3)), none, none] [] := by
  refine r_iload_n (i := 3) hX e_X11_would_97 rfl rfl ?_
  refine r_iload_n (i := 2) hX e_X11_would_98 rfl rfl ?_
  refine r_icmp_gt hX e_X11_would_99 (fun hc => ?_) (fun hc => ?_)
  · have hf := ite_t hf hc
    refine r_iconst hX e_X11_would_106 ic_0 ?_
    exact r_zret hX hR rfl e_X11_would_107 (ro_s hf)
  · have hf := ite_f hf hc
    refine r_iconst hX e_X11_would_102 ic_1 ?_
    refine r_goto hX e_X11_would_103 ?_
    exact r_zret hX hR rfl e_X11_would_107 (ro_s hf)
theorem t_X11_would_72 {X : Cx} {M : Mem} {res : Int32}  (hX : OkX X cX11_would RX11 0 0) (hn : Fit X shR nR) (hR : RetI X shR nR .boolean (M, res))  (x0 : Nat) (x1 : Int32) (x2 : Int32) (x3 : Int32) (x4 : Int32) (hf : f_X11_would_72 M  x0 x1 x2 x3 x4 = some res) : GoN X shR nR 0 0 M 72 [some (.ref (X.B + x0)), some (.int (x1)), some (.int (x2)), some (.int (x3)), some (.int (x4)), none] [] := by
  refine r_iload hX e_X11_would_72 rfl ?_
  refine r_iconst hX e_X11_would_74 ic_1 ?_
  refine r_icmp_le hX e_X11_would_75 (fun hc => ?_) (fun hc => ?_)
  · have hf := ite_t hf hc
    exact GoN.weak (t_X11_would_97 hX hn hR (x2) (x3) hf) rfl (sb_n (sb_n (sb_s (sb_s (sb_n (sb_n (sb_z _)))))))
  · have hf := ite_f hf hc
    refine r_aload_n (i := 0) hX e_X11_would_78 rfl rfl ?_
    obtain ⟨g1, hf⟩ := gd_s hf
    obtain ⟨r2, hr2, hf⟩ := bd_s hf
    refine r_getR hX hn e_X11_would_79 fl_11_95 rfl g1 hr2 ?_
    refine r_bipush hX e_X11_would_82 bc_60 ?_
    refine r_iload_n (i := 1) hX e_X11_would_84 rfl rfl ?_
    refine r_imul hX e_X11_would_85 ?_
    refine r_iload hX e_X11_would_86 rfl ?_
    refine r_iadd hX e_X11_would_88 ?_
    refine r_iconst hX e_X11_would_89 ic_2 ?_
    refine r_isub hX e_X11_would_90 ?_
    obtain ⟨g3, hf⟩ := gd_s hf
    refine r_zald hX hn e_X11_would_91 g3 ?_
    obtain ⟨v4, hv4, hf⟩ := nx_s hf
    refine top_i hv4 ?_
    refine r_if_eq hX e_X11_would_92 (fun hc => ?_) (fun hc => ?_)
    · have hf := ite_t hf hc
      exact GoN.weak (t_X11_would_97 hX hn hR (x2) (x3) hf) rfl (sb_n (sb_n (sb_s (sb_s (sb_n (sb_n (sb_z _)))))))
    · have hf := ite_f hf hc
      refine r_iconst hX e_X11_would_95 ic_0 ?_
      exact r_zret hX hR rfl e_X11_would_96 (ro_s hf)
theorem t_X11_would_44 {X : Cx} {M : Mem} {res : Int32}  (hX : OkX X cX11_would RX11 0 0) (hn : Fit X shR nR) (hR : RetI X shR nR .boolean (M, res))  (x0 : Nat) (x1 : Int32) (x2 : Int32) (x3 : Int32) (x4 : Int32) (x5 : Int32) (hf : f_X11_would_44 M  x0 x1 x2 x3 x4 x5 = some res) : GoN X shR nR 0 0 M 44 [some (.ref (X.B + x0)), some (.int (x1)), some (.int (x2)), some (.int (x3)), some (.int (x4)), some (.int (x5))] [] := by
  refine r_iload hX e_X11_would_44 rfl ?_
  refine r_iconst hX e_X11_would_46 ic_2 ?_
  refine r_icmp_ne hX e_X11_would_47 (fun hc => ?_) (fun hc => ?_)
  · have hf := ite_f hf hc
    exact GoN.weak (t_X11_would_97 hX hn hR (x2) (x3) hf) rfl (sb_n (sb_n (sb_s (sb_s (sb_n (sb_n (sb_z _)))))))
  · have hf := ite_t hf hc
    refine r_iload hX e_X11_would_50 rfl ?_
    refine r_if_le hX e_X11_would_52 (fun hc => ?_) (fun hc => ?_)
    · have hf := ite_t hf hc
      exact GoN.weak (t_X11_would_72 hX hn hR (x0) (x1) (x2) (x3) (x4) hf) rfl (sb_s (sb_s (sb_s (sb_s (sb_s (sb_n (sb_z _)))))))
    · have hf := ite_f hf hc
      refine r_aload_n (i := 0) hX e_X11_would_55 rfl rfl ?_
      obtain ⟨g1, hf⟩ := gd_s hf
      obtain ⟨r2, hr2, hf⟩ := bd_s hf
      refine r_getR hX hn e_X11_would_56 fl_11_95 rfl g1 hr2 ?_
      refine r_bipush hX e_X11_would_59 bc_60 ?_
      refine r_iload_n (i := 1) hX e_X11_would_61 rfl rfl ?_
      refine r_imul hX e_X11_would_62 ?_
      refine r_iload hX e_X11_would_63 rfl ?_
      refine r_iadd hX e_X11_would_65 ?_
      refine r_iconst hX e_X11_would_66 ic_1 ?_
      refine r_isub hX e_X11_would_67 ?_
      obtain ⟨g3, hf⟩ := gd_s hf
      refine r_zald hX hn e_X11_would_68 g3 ?_
      obtain ⟨v4, hv4, hf⟩ := nx_s hf
      refine top_i hv4 ?_
      refine r_if_ne hX e_X11_would_69 (fun hc => ?_) (fun hc => ?_)
      · have hf := ite_f hf hc
        refine r_iconst hX e_X11_would_95 ic_0 ?_
        exact r_zret hX hR rfl e_X11_would_96 (ro_s hf)
      · have hf := ite_t hf hc
        exact GoN.weak (t_X11_would_72 hX hn hR (x0) (x1) (x2) (x3) (x4) hf) rfl (sb_s (sb_s (sb_s (sb_s (sb_s (sb_n (sb_z _)))))))
theorem t_X11_would {l : Launch} {M : Mem} {a0 : Nat} {a1 a2 a3 a4 : Int32} {res : Int32} (hf : f_X11_would M a0 a1 a2 a3 a4 = some res) : Ci l yX11_would cX11_would 6 (some .boolean) 0 0 shR nR (fun K B => [.ref (B + a0), .int a1, .int a2, .int a3, .int a4]) M (M, res) := by
  refine met_i (own := RX11) (lo := fun K B => [some (.ref (B + a0)), some (.int a1), some (.int a2), some (.int a3), some (.int a4), none]) (by decide +kernel) rfl shR_ok (fun _ _ => rfl) (fun _ _ => rfl) (fun _ _ => Nat.le_of_ble_eq_true rfl) (fun X hX hn hlx hR => ?_)
  refine r_aload_n (i := 0) hX e_X11_would_0 rfl rfl ?_
  obtain ⟨g1, hf⟩ := gd_s hf
  obtain ⟨r2, hr2, hf⟩ := bd_s hf
  refine r_getR hX hn e_X11_would_1 fl_11_43 rfl g1 hr2 ?_
  refine r_iconst hX e_X11_would_4 ic_4 ?_
  refine r_iload_n (i := 1) hX e_X11_would_5 rfl rfl ?_
  refine r_imul hX e_X11_would_6 ?_
  refine r_iconst hX e_X11_would_7 ic_2 ?_
  refine r_iadd hX e_X11_would_8 ?_
  obtain ⟨g3, hf⟩ := gd_s hf
  refine r_iald hX hn e_X11_would_9 g3 ?_
  obtain ⟨v4, hv4, hf⟩ := nx_s hf
  refine top_i hv4 ?_
  refine r_istore hX e_X11_would_10 (Nat.le_of_ble_eq_true rfl) rfl ?_
  refine r_iload hX e_X11_would_12 rfl ?_
  refine r_iconst hX e_X11_would_14 ic_1 ?_
  refine r_icmp_ne hX e_X11_would_15 (fun hc => ?_) (fun hc => ?_)
  · have hf := ite_f hf hc
    exact GoN.weak (t_X11_would_44 hX hn hR (a0) (a1) (a2) (a3) (a4) (v4) hf) rfl (sb_s (sb_s (sb_s (sb_s (sb_s (sb_s (sb_z _)))))))
  · have hf := ite_t hf hc
    refine r_iconst hX e_X11_would_18 ic_2 ?_
    refine r_iload hX e_X11_would_19 rfl ?_
    refine r_imul hX e_X11_would_21 ?_
    refine r_aload_n (i := 0) hX e_X11_would_22 rfl rfl ?_
    obtain ⟨r5, hr5, hf⟩ := bd_s hf
    refine r_getR hX hn e_X11_would_23 fl_11_34 rfl g1 hr5 ?_
    refine r_iconst hX e_X11_would_26 ic_1 ?_
    obtain ⟨g6, hf⟩ := gd_s hf
    refine r_iald hX hn e_X11_would_27 g6 ?_
    refine r_icmp_ge hX e_X11_would_28 (fun hc => ?_) (fun hc => ?_)
    · have hf := ite_t hf hc
      exact GoN.weak (t_X11_would_44 hX hn hR (a0) (a1) (a2) (a3) (a4) (v4) hf) rfl (sb_s (sb_s (sb_s (sb_s (sb_s (sb_s (sb_z _)))))))
    · have hf := ite_f hf hc
      refine r_iload_n (i := 3) hX e_X11_would_31 rfl rfl ?_
      refine r_iload_n (i := 2) hX e_X11_would_32 rfl rfl ?_
      refine r_iconst hX e_X11_would_33 ic_2 ?_
      refine r_idiv hX e_X11_would_34 (by decide) ?_
      refine r_icmp_gt hX e_X11_would_35 (fun hc => ?_) (fun hc => ?_)
      · have hf := ite_t hf hc
        refine r_iconst hX e_X11_would_42 ic_0 ?_
        exact r_zret hX hR rfl e_X11_would_43 (ro_s hf)
      · have hf := ite_f hf hc
        refine r_iconst hX e_X11_would_38 ic_1 ?_
        refine r_goto hX e_X11_would_39 ?_
        exact r_zret hX hR rfl e_X11_would_43 (ro_s hf)
def f_X11_trades_261  (M : Mem) (x0 : Nat) (x1 : Int32) (x2 : Int32) (x3 : Int32) (x5 : Int32) (s0 : Int32) (s1 : Int32) (s2 : Nat) : Option (Mem) :=
  gd (aB shR s2 0 s1) <| nx (sI M s2 (s1 : Int32).toNatClampNeg s0) fun M2 => gd (oB shR x0 11) <| bd (gR M2 x0 35) fun r4 => gd (aB shR r4 2 x1) <| nx (sI M2 r4 (x1 : Int32).toNatClampNeg (vp_nar .boolean 1)) fun M6 => bd (gR M6 x0 45) fun r7 => gd (aB shR r7 0 (4 * (gI M6 x0 46))) <| nx (sI M6 r7 ((4 * (gI M6 x0 46)) : Int32).toNatClampNeg x3) fun M9 => gd (aB shR r7 0 ((4 * (gI M9 x0 46)) + 1)) <| nx (sI M9 r7 (((4 * (gI M9 x0 46)) + 1) : Int32).toNatClampNeg x1) fun M11 => gd (aB shR r7 0 ((4 * (gI M11 x0 46)) + 2)) <| nx (sI M11 r7 (((4 * (gI M11 x0 46)) + 2) : Int32).toNatClampNeg x2) fun M13 => gd (aB shR r7 0 ((4 * (gI M13 x0 46)) + 3)) <| nx (sI M13 r7 (((4 * (gI M13 x0 46)) + 3) : Int32).toNatClampNeg x5) fun M15 => nx (sI M15 x0 46 ((gI M15 x0 46) + 1)) fun M16 => nx (sI M16 x0 47 ((gI M16 x0 47) + x5)) fun M17 => some M17
def f_X11_trades_215  (M : Mem) (x0 : Nat) (x1 : Int32) (x2 : Int32) (x3 : Int32) (x5 : Int32) : Option (Mem) :=
  gd (oB shR x0 11) <| bd (gR M x0 32) fun r2 => gd (aB shR r2 0 x1) <| nx (sI M r2 (x1 : Int32).toNatClampNeg ((gI M r2 (x1 : Int32).toNatClampNeg) + x5)) fun M4 => bd (gR M4 x0 33) fun r5 => gd (aB shR r5 0 x1) <| nx (sI M4 r5 (x1 : Int32).toNatClampNeg ((gI M4 r5 (x1 : Int32).toNatClampNeg) + 1)) fun M7 => bd (gR M7 x0 34) fun r8 => gd (aB shR r8 0 x1) <| if (gI M7 r8 (x1 : Int32).toNatClampNeg) = (-1) then f_X11_trades_261 M7 (x0) (x1) (x2) (x3) (x5) (x3) (x1) (r8) else f_X11_trades_261 M7 (x0) (x1) (x2) (x3) (x5) ((gI M7 r8 (x1 : Int32).toNatClampNeg)) (x1) (r8)
def f_X11_trades_102  (M : Mem) (x0 : Nat) (x1 : Int32) (x2 : Int32) (x3 : Int32) (x4 : Int32) (x5 : Int32) (s0 : Int32) (s1 : Int32) (s2 : Nat) : Option (Mem) :=
  gd (aB shR s2 2 s1) <| nx (sI M s2 (s1 : Int32).toNatClampNeg (vp_nar .boolean s0)) fun M2 => gd (oB shR x0 11) <| bd (gR M2 x0 37) fun r4 => gd (aB shR r4 0 x2) <| if (gI M2 r4 (x2 : Int32).toNatClampNeg) < x5 then some M2 else bd (gR M2 x0 21) fun r6 => gd (aB shR r6 0 (((9 * x2) + (3 * x4)) + 2)) <| nx ((gI M2 r6 ((((9 * x2) + (3 * x4)) + 2) : Int32).toNatClampNeg)) fun v8 => bd (f_X11_would M2 x0 x2 v8 x5 x3) fun v9 => if v9 = 0 then some M2 else bd (gR M2 x0 30) fun r10 => gd (aB shR r10 0 x1) <| nx (sI M2 r10 (x1 : Int32).toNatClampNeg ((gI M2 r10 (x1 : Int32).toNatClampNeg) - 1)) fun M12 => bd (gR M12 x0 40) fun r13 => gd (aB shR r13 0 ((3 * x2) + x4)) <| nx ((gI M12 r13 (((3 * x2) + x4) : Int32).toNatClampNeg)) fun v15 => nx (sI M12 r13 (((3 * x2) + x4) : Int32).toNatClampNeg (v15 - 1)) fun M16 => nx (sI M16 r4 (x2 : Int32).toNatClampNeg ((gI M16 r4 (x2 : Int32).toNatClampNeg) - x5)) fun M17 => bd (gR M17 x0 38) fun r18 => gd (aB shR r18 0 x2) <| nx (sI M17 r18 (x2 : Int32).toNatClampNeg ((gI M17 r18 (x2 : Int32).toNatClampNeg) + 1)) fun M20 => bd (gR M20 x0 41) fun r21 => gd (aB shR r21 2 ((60 * x2) + x3)) <| nx (sI M20 r21 (((60 * x2) + x3) : Int32).toNatClampNeg (vp_nar .boolean 1)) fun M23 => bd (f_X11_lackOf M23 x0 x2) fun v24 => if v24 = 0 then bd (gR M23 x0 39) fun r25 => gd (aB shR r25 0 x2) <| nx (sI M23 r25 (x2 : Int32).toNatClampNeg x3) fun M27 => f_X11_trades_215 M27 (x0) (x1) (x2) (x3) (x5) else f_X11_trades_215 M23 (x0) (x1) (x2) (x3) (x5)
def f_X11_trades_97  (M : Mem) (x0 : Nat) (x1 : Int32) (x2 : Int32) (x3 : Int32) (x4 : Int32) (x5 : Int32) (s0 : Int32) (s1 : Nat) : Option (Mem) :=
  f_X11_trades_102 M (x0) (x1) (x2) (x3) (x4) (x5) (1) (s0) (s1)
def f_X11_trades (M : Mem) (a0 : Nat) (a1 : Int32) (a2 : Int32) (a3 : Int32) : Option (Mem) :=
  gd (oB shR a0 11) <| bd (f_X11_of M a0 a1 2) fun v2 => bd (f_X11_wantOf M a0 a2 v2) fun v3 => if v3 = (-1) then some M else bd (gR M a0 40) fun r4 => gd (aB shR r4 0 ((3 * a2) + v3)) <| nx ((gI M r4 (((3 * a2) + v3) : Int32).toNatClampNeg)) fun v6 => if v6 = 0 then some M else bd (gR M a0 30) fun r7 => gd (aB shR r7 0 a1) <| if (gI M r7 (a1 : Int32).toNatClampNeg) = 0 then some M else bd (f_X11_asked M a0 a1 a3) fun v9 => bd (gR M a0 36) fun r10 => gd (aB shR r10 2 a1) <| if (gI M r10 (a1 : Int32).toNatClampNeg) = 0 then bd (gR M a0 21) fun r12 => gd (aB shR r12 0 (((9 * a2) + (3 * v3)) + 2)) <| nx ((gI M r12 ((((9 * a2) + (3 * v3)) + 2) : Int32).toNatClampNeg)) fun v14 => if v14 < v9 then f_X11_trades_97 M (a0) (a1) (a2) (a3) (v3) (v9) (a1) (r10) else bd (gR M a0 37) fun r15 => gd (aB shR r15 0 a2) <| if v9 ≤ (gI M r15 (a2 : Int32).toNatClampNeg) then f_X11_trades_102 M (a0) (a1) (a2) (a3) (v3) (v9) (0) (a1) (r10) else f_X11_trades_97 M (a0) (a1) (a2) (a3) (v3) (v9) (a1) (r10) else f_X11_trades_97 M (a0) (a1) (a2) (a3) (v3) (v9) (a1) (r10)
theorem t_X11_trades_261 {X : Cx} {res : Mem}  (hX : OkX X cX11_trades RX11 2 45) (hn : Fit X shR nR) (hR : RetV X shR nR res)  (M : Mem) (x0 : Nat) (x1 : Int32) (x2 : Int32) (x3 : Int32) (x5 : Int32) (s0 : Int32) (s1 : Int32) (s2 : Nat) (hf : f_X11_trades_261  M x0 x1 x2 x3 x5 s0 s1 s2 = some res) : GoN X shR nR 0 0 M 261 [some (.ref (X.B + x0)), some (.int (x1)), some (.int (x2)), some (.int (x3)), none, some (.int (x5))] [.int (s0), .int (s1), .ref (X.B + s2)] := by
  obtain ⟨g1, hf⟩ := gd_s hf
  obtain ⟨M2, hM2, hf⟩ := nx_s hf
  refine r_iast hX hn hM2 e_X11_trades_261 g1 ?_
  refine r_aload_n (i := 0) hX e_X11_trades_262 rfl rfl ?_
  obtain ⟨g3, hf⟩ := gd_s hf
  obtain ⟨r4, hr4, hf⟩ := bd_s hf
  refine r_getR hX hn e_X11_trades_263 fl_11_77 rfl g3 hr4 ?_
  refine r_iload_n (i := 1) hX e_X11_trades_266 rfl rfl ?_
  refine r_iconst hX e_X11_trades_267 ic_1 ?_
  obtain ⟨g5, hf⟩ := gd_s hf
  obtain ⟨M6, hM6, hf⟩ := nx_s hf
  refine r_zast hX hn hM6 e_X11_trades_268 g5 ?_
  refine r_aload_n (i := 0) hX e_X11_trades_269 rfl rfl ?_
  obtain ⟨r7, hr7, hf⟩ := bd_s hf
  refine r_getR hX hn e_X11_trades_270 fl_11_107 rfl g3 hr7 ?_
  refine r_iconst hX e_X11_trades_273 ic_4 ?_
  refine r_aload_n (i := 0) hX e_X11_trades_274 rfl rfl ?_
  refine r_getI hX hn e_X11_trades_275 fl_11_371 rfl g3 ?_
  refine r_imul hX e_X11_trades_278 ?_
  refine r_iload_n (i := 3) hX e_X11_trades_279 rfl rfl ?_
  obtain ⟨g8, hf⟩ := gd_s hf
  obtain ⟨M9, hM9, hf⟩ := nx_s hf
  refine r_iast hX hn hM9 e_X11_trades_280 g8 ?_
  refine r_aload_n (i := 0) hX e_X11_trades_281 rfl rfl ?_
  refine r_getR hX hn e_X11_trades_282 fl_11_107 rfl g3 (gR_kI hM9 hr7) ?_
  refine r_iconst hX e_X11_trades_285 ic_4 ?_
  refine r_aload_n (i := 0) hX e_X11_trades_286 rfl rfl ?_
  refine r_getI hX hn e_X11_trades_287 fl_11_371 rfl g3 ?_
  refine r_imul hX e_X11_trades_290 ?_
  refine r_iconst hX e_X11_trades_291 ic_1 ?_
  refine r_iadd hX e_X11_trades_292 ?_
  refine r_iload_n (i := 1) hX e_X11_trades_293 rfl rfl ?_
  obtain ⟨g10, hf⟩ := gd_s hf
  obtain ⟨M11, hM11, hf⟩ := nx_s hf
  refine r_iast hX hn hM11 e_X11_trades_294 g10 ?_
  refine r_aload_n (i := 0) hX e_X11_trades_295 rfl rfl ?_
  refine r_getR hX hn e_X11_trades_296 fl_11_107 rfl g3 (gR_kI hM11 (gR_kI hM9 hr7)) ?_
  refine r_iconst hX e_X11_trades_299 ic_4 ?_
  refine r_aload_n (i := 0) hX e_X11_trades_300 rfl rfl ?_
  refine r_getI hX hn e_X11_trades_301 fl_11_371 rfl g3 ?_
  refine r_imul hX e_X11_trades_304 ?_
  refine r_iconst hX e_X11_trades_305 ic_2 ?_
  refine r_iadd hX e_X11_trades_306 ?_
  refine r_iload_n (i := 2) hX e_X11_trades_307 rfl rfl ?_
  obtain ⟨g12, hf⟩ := gd_s hf
  obtain ⟨M13, hM13, hf⟩ := nx_s hf
  refine r_iast hX hn hM13 e_X11_trades_308 g12 ?_
  refine r_aload_n (i := 0) hX e_X11_trades_309 rfl rfl ?_
  refine r_getR hX hn e_X11_trades_310 fl_11_107 rfl g3 (gR_kI hM13 (gR_kI hM11 (gR_kI hM9 hr7))) ?_
  refine r_iconst hX e_X11_trades_313 ic_4 ?_
  refine r_aload_n (i := 0) hX e_X11_trades_314 rfl rfl ?_
  refine r_getI hX hn e_X11_trades_315 fl_11_371 rfl g3 ?_
  refine r_imul hX e_X11_trades_318 ?_
  refine r_iconst hX e_X11_trades_319 ic_3 ?_
  refine r_iadd hX e_X11_trades_320 ?_
  refine r_iload hX e_X11_trades_321 rfl ?_
  obtain ⟨g14, hf⟩ := gd_s hf
  obtain ⟨M15, hM15, hf⟩ := nx_s hf
  refine r_iast hX hn hM15 e_X11_trades_323 g14 ?_
  refine r_aload_n (i := 0) hX e_X11_trades_324 rfl rfl ?_
  refine r_dup hX e_X11_trades_325 rfl ?_
  refine r_getI hX hn e_X11_trades_326 fl_11_371 rfl g3 ?_
  refine r_iconst hX e_X11_trades_329 ic_1 ?_
  refine r_iadd hX e_X11_trades_330 ?_
  obtain ⟨M16, hM16, hf⟩ := nx_s hf
  refine r_putI hX hn hM16 e_X11_trades_331 fl_11_371 fp_11_46 rfl g3 ?_
  refine r_aload_n (i := 0) hX e_X11_trades_334 rfl rfl ?_
  refine r_dup hX e_X11_trades_335 rfl ?_
  refine r_getI hX hn e_X11_trades_336 fl_11_374 rfl g3 ?_
  refine r_iload hX e_X11_trades_339 rfl ?_
  refine r_iadd hX e_X11_trades_341 ?_
  obtain ⟨M17, hM17, hf⟩ := nx_s hf
  refine r_putI hX hn hM17 e_X11_trades_342 fl_11_374 fp_11_47 rfl g3 ?_
  exact r_ret hX hR e_X11_trades_345 hf
theorem t_X11_trades_215 {X : Cx} {res : Mem}  (hX : OkX X cX11_trades RX11 2 45) (hn : Fit X shR nR) (hR : RetV X shR nR res)  (M : Mem) (x0 : Nat) (x1 : Int32) (x2 : Int32) (x3 : Int32) (x5 : Int32) (hf : f_X11_trades_215  M x0 x1 x2 x3 x5 = some res) : GoN X shR nR 0 0 M 215 [some (.ref (X.B + x0)), some (.int (x1)), some (.int (x2)), some (.int (x3)), none, some (.int (x5))] [] := by
  refine r_aload_n (i := 0) hX e_X11_trades_215 rfl rfl ?_
  obtain ⟨g1, hf⟩ := gd_s hf
  obtain ⟨r2, hr2, hf⟩ := bd_s hf
  refine r_getR hX hn e_X11_trades_216 fl_11_68 rfl g1 hr2 ?_
  refine r_iload_n (i := 1) hX e_X11_trades_219 rfl rfl ?_
  refine r_dup2_11 hX e_X11_trades_220 rfl rfl ?_
  obtain ⟨g3, hf⟩ := gd_s hf
  refine r_iald hX hn e_X11_trades_221 g3 ?_
  refine r_iload hX e_X11_trades_222 rfl ?_
  refine r_iadd hX e_X11_trades_224 ?_
  obtain ⟨M4, hM4, hf⟩ := nx_s hf
  refine r_iast hX hn hM4 e_X11_trades_225 g3 ?_
  refine r_aload_n (i := 0) hX e_X11_trades_226 rfl rfl ?_
  obtain ⟨r5, hr5, hf⟩ := bd_s hf
  refine r_getR hX hn e_X11_trades_227 fl_11_71 rfl g1 hr5 ?_
  refine r_iload_n (i := 1) hX e_X11_trades_230 rfl rfl ?_
  refine r_dup2_11 hX e_X11_trades_231 rfl rfl ?_
  obtain ⟨g6, hf⟩ := gd_s hf
  refine r_iald hX hn e_X11_trades_232 g6 ?_
  refine r_iconst hX e_X11_trades_233 ic_1 ?_
  refine r_iadd hX e_X11_trades_234 ?_
  obtain ⟨M7, hM7, hf⟩ := nx_s hf
  refine r_iast hX hn hM7 e_X11_trades_235 g6 ?_
  refine r_aload_n (i := 0) hX e_X11_trades_236 rfl rfl ?_
  obtain ⟨r8, hr8, hf⟩ := bd_s hf
  refine r_getR hX hn e_X11_trades_237 fl_11_74 rfl g1 hr8 ?_
  refine r_iload_n (i := 1) hX e_X11_trades_240 rfl rfl ?_
  refine r_aload_n (i := 0) hX e_X11_trades_241 rfl rfl ?_
  refine r_getR hX hn e_X11_trades_242 fl_11_74 rfl g1 hr8 ?_
  refine r_iload_n (i := 1) hX e_X11_trades_245 rfl rfl ?_
  obtain ⟨g9, hf⟩ := gd_s hf
  refine r_iald hX hn e_X11_trades_246 g9 ?_
  refine r_iconst hX e_X11_trades_247 ic_m1 ?_
  refine r_icmp_ne hX e_X11_trades_248 (fun hc => ?_) (fun hc => ?_)
  · have hf := ite_f hf hc
    refine r_aload_n (i := 0) hX e_X11_trades_255 rfl rfl ?_
    refine r_getR hX hn e_X11_trades_256 fl_11_74 rfl g1 hr8 ?_
    refine r_iload_n (i := 1) hX e_X11_trades_259 rfl rfl ?_
    refine r_iald hX hn e_X11_trades_260 g9 ?_
    exact GoN.weak (t_X11_trades_261 hX hn hR M7 (x0) (x1) (x2) (x3) (x5) ((gI M7 r8 (x1 : Int32).toNatClampNeg)) (x1) (r8) hf) rfl (sb_s (sb_s (sb_s (sb_s (sb_n (sb_s (sb_z _)))))))
  · have hf := ite_t hf hc
    refine r_iload_n (i := 3) hX e_X11_trades_251 rfl rfl ?_
    refine r_goto hX e_X11_trades_252 ?_
    exact GoN.weak (t_X11_trades_261 hX hn hR M7 (x0) (x1) (x2) (x3) (x5) (x3) (x1) (r8) hf) rfl (sb_s (sb_s (sb_s (sb_s (sb_n (sb_s (sb_z _)))))))
theorem t_X11_trades_102 {X : Cx} {res : Mem}  (hX : OkX X cX11_trades RX11 2 45) (hn : Fit X shR nR) (hR : RetV X shR nR res)  (M : Mem) (x0 : Nat) (x1 : Int32) (x2 : Int32) (x3 : Int32) (x4 : Int32) (x5 : Int32) (s0 : Int32) (s1 : Int32) (s2 : Nat) (hf : f_X11_trades_102  M x0 x1 x2 x3 x4 x5 s0 s1 s2 = some res) : GoN X shR nR 0 0 M 102 [some (.ref (X.B + x0)), some (.int (x1)), some (.int (x2)), some (.int (x3)), some (.int (x4)), some (.int (x5))] [.int (s0), .int (s1), .ref (X.B + s2)] := by
  obtain ⟨g1, hf⟩ := gd_s hf
  obtain ⟨M2, hM2, hf⟩ := nx_s hf
  refine r_zast hX hn hM2 e_X11_trades_102 g1 ?_
  refine r_iload hX e_X11_trades_103 rfl ?_
  refine r_aload_n (i := 0) hX e_X11_trades_105 rfl rfl ?_
  obtain ⟨g3, hf⟩ := gd_s hf
  obtain ⟨r4, hr4, hf⟩ := bd_s hf
  refine r_getR hX hn e_X11_trades_106 fl_11_83 rfl g3 hr4 ?_
  refine r_iload_n (i := 2) hX e_X11_trades_109 rfl rfl ?_
  obtain ⟨g5, hf⟩ := gd_s hf
  refine r_iald hX hn e_X11_trades_110 g5 ?_
  refine r_icmp_gt hX e_X11_trades_111 (fun hc => ?_) (fun hc => ?_)
  · have hf := ite_t hf hc
    exact r_ret hX hR e_X11_trades_141 hf
  · have hf := ite_f hf hc
    refine r_aload_n (i := 0) hX e_X11_trades_114 rfl rfl ?_
    refine r_iload_n (i := 2) hX e_X11_trades_115 rfl rfl ?_
    refine r_aload_n (i := 0) hX e_X11_trades_116 rfl rfl ?_
    obtain ⟨r6, hr6, hf⟩ := bd_s hf
    refine r_getR hX hn e_X11_trades_117 fl_11_46 rfl g3 hr6 ?_
    refine r_bipush hX e_X11_trades_120 bc_9 ?_
    refine r_iload_n (i := 2) hX e_X11_trades_122 rfl rfl ?_
    refine r_imul hX e_X11_trades_123 ?_
    refine r_iconst hX e_X11_trades_124 ic_3 ?_
    refine r_iload hX e_X11_trades_125 rfl ?_
    refine r_imul hX e_X11_trades_127 ?_
    refine r_iadd hX e_X11_trades_128 ?_
    refine r_iconst hX e_X11_trades_129 ic_2 ?_
    refine r_iadd hX e_X11_trades_130 ?_
    obtain ⟨g7, hf⟩ := gd_s hf
    refine r_iald hX hn e_X11_trades_131 g7 ?_
    obtain ⟨v8, hv8, hf⟩ := nx_s hf
    refine top_i hv8 ?_
    refine r_iload hX e_X11_trades_132 rfl ?_
    refine r_iload_n (i := 3) hX e_X11_trades_134 rfl rfl ?_
    obtain ⟨v9, hv9, hf⟩ := bd_s hf
    refine r_cvi (As := fun K B => [.int (x2), .int (v8), .int (x5), .int (x3)]) hX hn (t_X11_would hv9) e_X11_trades_135 cw_X11_would cv_X11_would lk_11_383 ⟨Nat.le_of_ble_eq_true rfl, Nat.le_of_ble_eq_true rfl⟩ (ci := 11) rfl rfl (Nat.le_of_ble_eq_true rfl) g3 rfl rfl (Nat.le_of_ble_eq_true rfl) ⟨Nat.zero_le _, Nat.zero_le _⟩ ?_
    refine r_if_ne hX e_X11_trades_138 (fun hc => ?_) (fun hc => ?_)
    · have hf := ite_f hf hc
      refine r_aload_n (i := 0) hX e_X11_trades_142 rfl rfl ?_
      obtain ⟨r10, hr10, hf⟩ := bd_s hf
      refine r_getR hX hn e_X11_trades_143 fl_11_62 rfl g3 hr10 ?_
      refine r_iload_n (i := 1) hX e_X11_trades_146 rfl rfl ?_
      refine r_dup2_11 hX e_X11_trades_147 rfl rfl ?_
      obtain ⟨g11, hf⟩ := gd_s hf
      refine r_iald hX hn e_X11_trades_148 g11 ?_
      refine r_iconst hX e_X11_trades_149 ic_1 ?_
      refine r_isub hX e_X11_trades_150 ?_
      obtain ⟨M12, hM12, hf⟩ := nx_s hf
      refine r_iast hX hn hM12 e_X11_trades_151 g11 ?_
      refine r_aload_n (i := 0) hX e_X11_trades_152 rfl rfl ?_
      obtain ⟨r13, hr13, hf⟩ := bd_s hf
      refine r_getR hX hn e_X11_trades_153 fl_11_92 rfl g3 hr13 ?_
      refine r_iconst hX e_X11_trades_156 ic_3 ?_
      refine r_iload_n (i := 2) hX e_X11_trades_157 rfl rfl ?_
      refine r_imul hX e_X11_trades_158 ?_
      refine r_iload hX e_X11_trades_159 rfl ?_
      refine r_iadd hX e_X11_trades_161 ?_
      refine r_dup2_11 hX e_X11_trades_162 rfl rfl ?_
      obtain ⟨g14, hf⟩ := gd_s hf
      refine r_iald hX hn e_X11_trades_163 g14 ?_
      obtain ⟨v15, hv15, hf⟩ := nx_s hf
      refine top_i hv15 ?_
      refine r_iconst hX e_X11_trades_164 ic_1 ?_
      refine r_isub hX e_X11_trades_165 ?_
      obtain ⟨M16, hM16, hf⟩ := nx_s hf
      refine r_iast hX hn hM16 e_X11_trades_166 g14 ?_
      refine r_aload_n (i := 0) hX e_X11_trades_167 rfl rfl ?_
      refine r_getR hX hn e_X11_trades_168 fl_11_83 rfl g3 (gR_kI hM16 (gR_kI hM12 hr4)) ?_
      refine r_iload_n (i := 2) hX e_X11_trades_171 rfl rfl ?_
      refine r_dup2_11 hX e_X11_trades_172 rfl rfl ?_
      refine r_iald hX hn e_X11_trades_173 g5 ?_
      refine r_iload hX e_X11_trades_174 rfl ?_
      refine r_isub hX e_X11_trades_176 ?_
      obtain ⟨M17, hM17, hf⟩ := nx_s hf
      refine r_iast hX hn hM17 e_X11_trades_177 g5 ?_
      refine r_aload_n (i := 0) hX e_X11_trades_178 rfl rfl ?_
      obtain ⟨r18, hr18, hf⟩ := bd_s hf
      refine r_getR hX hn e_X11_trades_179 fl_11_86 rfl g3 hr18 ?_
      refine r_iload_n (i := 2) hX e_X11_trades_182 rfl rfl ?_
      refine r_dup2_11 hX e_X11_trades_183 rfl rfl ?_
      obtain ⟨g19, hf⟩ := gd_s hf
      refine r_iald hX hn e_X11_trades_184 g19 ?_
      refine r_iconst hX e_X11_trades_185 ic_1 ?_
      refine r_iadd hX e_X11_trades_186 ?_
      obtain ⟨M20, hM20, hf⟩ := nx_s hf
      refine r_iast hX hn hM20 e_X11_trades_187 g19 ?_
      refine r_aload_n (i := 0) hX e_X11_trades_188 rfl rfl ?_
      obtain ⟨r21, hr21, hf⟩ := bd_s hf
      refine r_getR hX hn e_X11_trades_189 fl_11_95 rfl g3 hr21 ?_
      refine r_bipush hX e_X11_trades_192 bc_60 ?_
      refine r_iload_n (i := 2) hX e_X11_trades_194 rfl rfl ?_
      refine r_imul hX e_X11_trades_195 ?_
      refine r_iload_n (i := 3) hX e_X11_trades_196 rfl rfl ?_
      refine r_iadd hX e_X11_trades_197 ?_
      refine r_iconst hX e_X11_trades_198 ic_1 ?_
      obtain ⟨g22, hf⟩ := gd_s hf
      obtain ⟨M23, hM23, hf⟩ := nx_s hf
      refine r_zast hX hn hM23 e_X11_trades_199 g22 ?_
      refine r_aload_n (i := 0) hX e_X11_trades_200 rfl rfl ?_
      refine r_iload_n (i := 2) hX e_X11_trades_201 rfl rfl ?_
      obtain ⟨v24, hv24, hf⟩ := bd_s hf
      refine r_cvi (As := fun K B => [.int (x2)]) hX hn (t_X11_lackOf hv24) e_X11_trades_202 cw_X11_lackOf cv_X11_lackOf lk_11_368 ⟨Nat.le_of_ble_eq_true rfl, Nat.le_of_ble_eq_true rfl⟩ (ci := 11) rfl rfl (Nat.le_of_ble_eq_true rfl) g3 rfl rfl (Nat.le_of_ble_eq_true rfl) ⟨Nat.zero_le _, Nat.zero_le _⟩ ?_
      refine r_if_ne hX e_X11_trades_205 (fun hc => ?_) (fun hc => ?_)
      · have hf := ite_f hf hc
        exact GoN.weak (t_X11_trades_215 hX hn hR M23 (x0) (x1) (x2) (x3) (x5) hf) rfl (sb_s (sb_s (sb_s (sb_s (sb_n (sb_s (sb_z _)))))))
      · have hf := ite_t hf hc
        refine r_aload_n (i := 0) hX e_X11_trades_208 rfl rfl ?_
        obtain ⟨r25, hr25, hf⟩ := bd_s hf
        refine r_getR hX hn e_X11_trades_209 fl_11_89 rfl g3 hr25 ?_
        refine r_iload_n (i := 2) hX e_X11_trades_212 rfl rfl ?_
        refine r_iload_n (i := 3) hX e_X11_trades_213 rfl rfl ?_
        obtain ⟨g26, hf⟩ := gd_s hf
        obtain ⟨M27, hM27, hf⟩ := nx_s hf
        refine r_iast hX hn hM27 e_X11_trades_214 g26 ?_
        exact GoN.weak (t_X11_trades_215 hX hn hR M27 (x0) (x1) (x2) (x3) (x5) hf) rfl (sb_s (sb_s (sb_s (sb_s (sb_n (sb_s (sb_z _)))))))
    · have hf := ite_t hf hc
      exact r_ret hX hR e_X11_trades_141 hf
theorem t_X11_trades_97 {X : Cx} {res : Mem}  (hX : OkX X cX11_trades RX11 2 45) (hn : Fit X shR nR) (hR : RetV X shR nR res)  (M : Mem) (x0 : Nat) (x1 : Int32) (x2 : Int32) (x3 : Int32) (x4 : Int32) (x5 : Int32) (s0 : Int32) (s1 : Nat) (hf : f_X11_trades_97  M x0 x1 x2 x3 x4 x5 s0 s1 = some res) : GoN X shR nR 0 0 M 97 [some (.ref (X.B + x0)), some (.int (x1)), some (.int (x2)), some (.int (x3)), some (.int (x4)), some (.int (x5))] [.int (s0), .ref (X.B + s1)] := by
  refine r_iconst hX e_X11_trades_97 ic_1 ?_
  refine r_goto hX e_X11_trades_98 ?_
  exact GoN.weak (t_X11_trades_102 hX hn hR M (x0) (x1) (x2) (x3) (x4) (x5) (1) (s0) (s1) hf) rfl (sb_s (sb_s (sb_s (sb_s (sb_s (sb_s (sb_z _)))))))
theorem t_X11_trades {l : Launch} {M : Mem} {a0 : Nat} {a1 a2 a3 : Int32} {res : Mem} (hf : f_X11_trades M a0 a1 a2 a3 = some res) : Cv l yX11_trades cX11_trades 6 none 2 45 shR nR (fun K B => [.ref (B + a0), .int a1, .int a2, .int a3]) M res := by
  refine met_v (own := RX11) (lo := fun K B => [some (.ref (B + a0)), some (.int a1), some (.int a2), some (.int a3), none, none]) (by decide +kernel) rfl shR_ok (fun _ _ => rfl) (fun _ _ => rfl) (fun _ _ => Nat.le_of_ble_eq_true rfl) (fun X hX hn hlx hR => ?_)
  refine r_aload_n (i := 0) hX e_X11_trades_0 rfl rfl ?_
  refine r_iload_n (i := 2) hX e_X11_trades_1 rfl rfl ?_
  refine r_aload_n (i := 0) hX e_X11_trades_2 rfl rfl ?_
  refine r_iload_n (i := 1) hX e_X11_trades_3 rfl rfl ?_
  refine r_iconst hX e_X11_trades_4 ic_2 ?_
  obtain ⟨g1, hf⟩ := gd_s hf
  obtain ⟨v2, hv2, hf⟩ := bd_s hf
  refine r_cvi (As := fun K B => [.int (a1), .int (2)]) hX hn (t_X11_of hv2) e_X11_trades_5 cw_X11_of cv_X11_of lk_11_310 ⟨Nat.le_of_ble_eq_true rfl, Nat.le_of_ble_eq_true rfl⟩ (ci := 11) rfl rfl (Nat.le_of_ble_eq_true rfl) g1 rfl rfl (Nat.le_of_ble_eq_true rfl) ⟨Nat.zero_le _, Nat.zero_le _⟩ ?_
  obtain ⟨v3, hv3, hf⟩ := bd_s hf
  refine r_cvi (As := fun K B => [.int (a2), .int (v2)]) hX hn (t_X11_wantOf hv3) e_X11_trades_8 cw_X11_wantOf cv_X11_wantOf lk_11_377 ⟨Nat.le_of_ble_eq_true rfl, Nat.le_of_ble_eq_true rfl⟩ (ci := 11) rfl rfl (Nat.le_of_ble_eq_true rfl) g1 rfl rfl (Nat.le_of_ble_eq_true rfl) ⟨Nat.zero_le _, Nat.zero_le _⟩ ?_
  refine r_istore hX e_X11_trades_11 (Nat.le_of_ble_eq_true rfl) rfl ?_
  refine r_iload hX e_X11_trades_13 rfl ?_
  refine r_iconst hX e_X11_trades_15 ic_m1 ?_
  refine r_icmp_eq hX e_X11_trades_16 (fun hc => ?_) (fun hc => ?_)
  · have hf := ite_t hf hc
    exact r_ret hX hR e_X11_trades_42 hf
  · have hf := ite_f hf hc
    refine r_aload_n (i := 0) hX e_X11_trades_19 rfl rfl ?_
    obtain ⟨r4, hr4, hf⟩ := bd_s hf
    refine r_getR hX hn e_X11_trades_20 fl_11_92 rfl g1 hr4 ?_
    refine r_iconst hX e_X11_trades_23 ic_3 ?_
    refine r_iload_n (i := 2) hX e_X11_trades_24 rfl rfl ?_
    refine r_imul hX e_X11_trades_25 ?_
    refine r_iload hX e_X11_trades_26 rfl ?_
    refine r_iadd hX e_X11_trades_28 ?_
    obtain ⟨g5, hf⟩ := gd_s hf
    refine r_iald hX hn e_X11_trades_29 g5 ?_
    obtain ⟨v6, hv6, hf⟩ := nx_s hf
    refine top_i hv6 ?_
    refine r_if_eq hX e_X11_trades_30 (fun hc => ?_) (fun hc => ?_)
    · have hf := ite_t hf hc
      exact r_ret hX hR e_X11_trades_42 hf
    · have hf := ite_f hf hc
      refine r_aload_n (i := 0) hX e_X11_trades_33 rfl rfl ?_
      obtain ⟨r7, hr7, hf⟩ := bd_s hf
      refine r_getR hX hn e_X11_trades_34 fl_11_62 rfl g1 hr7 ?_
      refine r_iload_n (i := 1) hX e_X11_trades_37 rfl rfl ?_
      obtain ⟨g8, hf⟩ := gd_s hf
      refine r_iald hX hn e_X11_trades_38 g8 ?_
      refine r_if_ne hX e_X11_trades_39 (fun hc => ?_) (fun hc => ?_)
      · have hf := ite_f hf hc
        refine r_aload_n (i := 0) hX e_X11_trades_43 rfl rfl ?_
        refine r_iload_n (i := 1) hX e_X11_trades_44 rfl rfl ?_
        refine r_iload_n (i := 3) hX e_X11_trades_45 rfl rfl ?_
        obtain ⟨v9, hv9, hf⟩ := bd_s hf
        refine r_cvi (As := fun K B => [.int (a1), .int (a3)]) hX hn (t_X11_asked hv9) e_X11_trades_46 cw_X11_asked cv_X11_asked lk_11_380 ⟨Nat.le_of_ble_eq_true rfl, Nat.le_of_ble_eq_true rfl⟩ (ci := 11) rfl rfl (Nat.le_of_ble_eq_true rfl) g1 rfl rfl (Nat.le_of_ble_eq_true rfl) ⟨Nat.zero_le _, Nat.zero_le _⟩ ?_
        refine r_istore hX e_X11_trades_49 (Nat.le_of_ble_eq_true rfl) rfl ?_
        refine r_aload_n (i := 0) hX e_X11_trades_51 rfl rfl ?_
        obtain ⟨r10, hr10, hf⟩ := bd_s hf
        refine r_getR hX hn e_X11_trades_52 fl_11_80 rfl g1 hr10 ?_
        refine r_iload_n (i := 1) hX e_X11_trades_55 rfl rfl ?_
        refine r_aload_n (i := 0) hX e_X11_trades_56 rfl rfl ?_
        refine r_getR hX hn e_X11_trades_57 fl_11_80 rfl g1 hr10 ?_
        refine r_iload_n (i := 1) hX e_X11_trades_60 rfl rfl ?_
        obtain ⟨g11, hf⟩ := gd_s hf
        refine r_zald hX hn e_X11_trades_61 g11 ?_
        refine r_if_ne hX e_X11_trades_62 (fun hc => ?_) (fun hc => ?_)
        · have hf := ite_f hf hc
          exact GoN.weak (t_X11_trades_97 hX hn hR M (a0) (a1) (a2) (a3) (v3) (v9) (a1) (r10) hf) rfl (sb_s (sb_s (sb_s (sb_s (sb_s (sb_s (sb_z _)))))))
        · have hf := ite_t hf hc
          refine r_iload hX e_X11_trades_65 rfl ?_
          refine r_aload_n (i := 0) hX e_X11_trades_67 rfl rfl ?_
          obtain ⟨r12, hr12, hf⟩ := bd_s hf
          refine r_getR hX hn e_X11_trades_68 fl_11_46 rfl g1 hr12 ?_
          refine r_bipush hX e_X11_trades_71 bc_9 ?_
          refine r_iload_n (i := 2) hX e_X11_trades_73 rfl rfl ?_
          refine r_imul hX e_X11_trades_74 ?_
          refine r_iconst hX e_X11_trades_75 ic_3 ?_
          refine r_iload hX e_X11_trades_76 rfl ?_
          refine r_imul hX e_X11_trades_78 ?_
          refine r_iadd hX e_X11_trades_79 ?_
          refine r_iconst hX e_X11_trades_80 ic_2 ?_
          refine r_iadd hX e_X11_trades_81 ?_
          obtain ⟨g13, hf⟩ := gd_s hf
          refine r_iald hX hn e_X11_trades_82 g13 ?_
          obtain ⟨v14, hv14, hf⟩ := nx_s hf
          refine top_i hv14 ?_
          refine r_icmp_gt hX e_X11_trades_83 (fun hc => ?_) (fun hc => ?_)
          · have hf := ite_t hf hc
            exact GoN.weak (t_X11_trades_97 hX hn hR M (a0) (a1) (a2) (a3) (v3) (v9) (a1) (r10) hf) rfl (sb_s (sb_s (sb_s (sb_s (sb_s (sb_s (sb_z _)))))))
          · have hf := ite_f hf hc
            refine r_iload hX e_X11_trades_86 rfl ?_
            refine r_aload_n (i := 0) hX e_X11_trades_88 rfl rfl ?_
            obtain ⟨r15, hr15, hf⟩ := bd_s hf
            refine r_getR hX hn e_X11_trades_89 fl_11_83 rfl g1 hr15 ?_
            refine r_iload_n (i := 2) hX e_X11_trades_92 rfl rfl ?_
            obtain ⟨g16, hf⟩ := gd_s hf
            refine r_iald hX hn e_X11_trades_93 g16 ?_
            refine r_icmp_le hX e_X11_trades_94 (fun hc => ?_) (fun hc => ?_)
            · have hf := ite_t hf hc
              refine r_iconst hX e_X11_trades_101 ic_0 ?_
              exact GoN.weak (t_X11_trades_102 hX hn hR M (a0) (a1) (a2) (a3) (v3) (v9) (0) (a1) (r10) hf) rfl (sb_s (sb_s (sb_s (sb_s (sb_s (sb_s (sb_z _)))))))
            · have hf := ite_f hf hc
              exact GoN.weak (t_X11_trades_97 hX hn hR M (a0) (a1) (a2) (a3) (v3) (v9) (a1) (r10) hf) rfl (sb_s (sb_s (sb_s (sb_s (sb_s (sb_s (sb_z _)))))))
      · have hf := ite_t hf hc
        exact r_ret hX hR e_X11_trades_42 hf
