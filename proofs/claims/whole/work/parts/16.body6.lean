def s_X11_learns_2 (k2 : Mem → Nat → Int32 → Option (Mem)) (M : Mem) (x0 : Nat) (x1 : Int32) : Option (Mem) :=
  gd (oB shR x0 11) <| bd (gR M x0 17) fun r2 => gd (aB shR r2 0 3) <| if (gI M r2 (3 : Int32).toNatClampNeg) ≤ x1 then some M else bd (f_X11_of M x0 x1 5) fun v4 => if v4 = 2 then bd (gR M x0 35) fun r5 => gd (aB shR r5 2 x1) <| if (gI M r5 (x1 : Int32).toNatClampNeg) = 0 then bd (gR M x0 30) fun r7 => gd (aB shR r7 0 x1) <| if (gI M r7 (x1 : Int32).toNatClampNeg) ≤ 0 then k2 M (x0) ((x1 + 1)) else bd (gR M x0 36) fun r9 => gd (aB shR r9 2 x1) <| if (gI M r9 (x1 : Int32).toNatClampNeg) = 0 then k2 M (x0) ((x1 + 1)) else bd (gR M x0 31) fun r11 => gd (aB shR r11 0 x1) <| bd (f_X11_of M x0 x1 6) fun v13 => if v13 ≤ (gI M r11 (x1 : Int32).toNatClampNeg) then bd (f_X11_of M x0 x1 6) fun v14 => nx (sI M r11 (x1 : Int32).toNatClampNeg ((gI M r11 (x1 : Int32).toNatClampNeg) - v14)) fun M15 => k2 M15 (x0) ((x1 + 1)) else nx (sI M r11 (x1 : Int32).toNatClampNeg 0) fun M16 => k2 M16 (x0) ((x1 + 1)) else bd (gR M x0 31) fun r17 => gd (aB shR r17 0 x1) <| bd (f_X11_of M x0 x1 6) fun v19 => if ((gI M r17 (x1 : Int32).toNatClampNeg) + v19) ≤ 99 then bd (f_X11_of M x0 x1 6) fun v20 => nx (sI M r17 (x1 : Int32).toNatClampNeg ((gI M r17 (x1 : Int32).toNatClampNeg) + v20)) fun M21 => k2 M21 (x0) ((x1 + 1)) else nx (sI M r17 (x1 : Int32).toNatClampNeg 99) fun M22 => k2 M22 (x0) ((x1 + 1)) else k2 M (x0) ((x1 + 1))
def f_X11_learns_2  : Nat → Mem → Nat → Int32 → Option (Mem)
  | 0 => fun _ _ _ => none
  | n + 1 => fun y0 y1 y2 => s_X11_learns_2  (f_X11_learns_2  n) y0 y1 y2
def f_X11_learns (M : Mem) (a0 : Nat) : Option (Mem) :=
  f_X11_learns_2 FU M (a0) (0)
theorem t_s_X11_learns_2 {X : Cx} {res : Mem} {k2 : Mem → Nat → Int32 → Option (Mem)} (hX : OkX X cX11_learns RX11 1 22) (hn : Fit X shR nR) (hR : RetV X shR nR res) (hk2 : ∀ M x0 x1, k2 M x0 x1 = some res → GoN X shR nR 0 0 M 2 [some (.ref (X.B + x0)), some (.int (x1))] []) (M : Mem) (x0 : Nat) (x1 : Int32) (hf : s_X11_learns_2 k2 M x0 x1 = some res) : GoN X shR nR 0 0 M 2 [some (.ref (X.B + x0)), some (.int (x1))] [] := by
  refine r_iload_n (i := 1) hX e_X11_learns_2 rfl rfl ?_
  refine r_aload_n (i := 0) hX e_X11_learns_3 rfl rfl ?_
  obtain ⟨g1, hf⟩ := gd_s hf
  obtain ⟨r2, hr2, hf⟩ := bd_s hf
  refine r_getR hX hn e_X11_learns_4 fl_11_34 rfl g1 hr2 ?_
  refine r_iconst hX e_X11_learns_7 ic_3 ?_
  obtain ⟨g3, hf⟩ := gd_s hf
  refine r_iald hX hn e_X11_learns_8 g3 ?_
  refine r_icmp_ge hX e_X11_learns_9 (fun hc => ?_) (fun hc => ?_)
  · have hf := ite_t hf hc
    exact r_ret hX hR e_X11_learns_145 hf
  · have hf := ite_f hf hc
    refine r_aload_n (i := 0) hX e_X11_learns_12 rfl rfl ?_
    refine r_iload_n (i := 1) hX e_X11_learns_13 rfl rfl ?_
    refine r_iconst hX e_X11_learns_14 ic_5 ?_
    obtain ⟨v4, hv4, hf⟩ := bd_s hf
    refine r_cvi (As := fun K B => [.int (x1), .int (5)]) hX hn (t_X11_of hv4) e_X11_learns_15 cw_X11_of cv_X11_of lk_11_310 ⟨Nat.le_of_ble_eq_true rfl, Nat.le_of_ble_eq_true rfl⟩ (ci := 11) rfl rfl (Nat.le_of_ble_eq_true rfl) g1 rfl rfl (Nat.le_of_ble_eq_true rfl) ⟨Nat.zero_le _, Nat.zero_le _⟩ ?_
    refine r_iconst hX e_X11_learns_18 ic_2 ?_
    refine r_icmp_eq hX e_X11_learns_19 (fun hc => ?_) (fun hc => ?_)
    · have hf := ite_t hf hc
      refine r_aload_n (i := 0) hX e_X11_learns_25 rfl rfl ?_
      obtain ⟨r5, hr5, hf⟩ := bd_s hf
      refine r_getR hX hn e_X11_learns_26 fl_11_77 rfl g1 hr5 ?_
      refine r_iload_n (i := 1) hX e_X11_learns_29 rfl rfl ?_
      obtain ⟨g6, hf⟩ := gd_s hf
      refine r_zald hX hn e_X11_learns_30 g6 ?_
      refine r_if_eq hX e_X11_learns_31 (fun hc => ?_) (fun hc => ?_)
      · have hf := ite_t hf hc
        refine r_aload_n (i := 0) hX e_X11_learns_81 rfl rfl ?_
        obtain ⟨r7, hr7, hf⟩ := bd_s hf
        refine r_getR hX hn e_X11_learns_82 fl_11_62 rfl g1 hr7 ?_
        refine r_iload_n (i := 1) hX e_X11_learns_85 rfl rfl ?_
        obtain ⟨g8, hf⟩ := gd_s hf
        refine r_iald hX hn e_X11_learns_86 g8 ?_
        refine r_if_le hX e_X11_learns_87 (fun hc => ?_) (fun hc => ?_)
        · have hf := ite_t hf hc
          refine r_iinc (v := x1 + 1) hX e_X11_learns_139 rfl (ii_s ic_1) (Nat.le_of_ble_eq_true rfl) rfl ?_
          refine r_goto hX e_X11_learns_142 ?_
          exact GoN.weak (hk2 M (x0) ((x1 + 1)) hf) rfl (sb_s (sb_s (sb_z _)))
        · have hf := ite_f hf hc
          refine r_aload_n (i := 0) hX e_X11_learns_90 rfl rfl ?_
          obtain ⟨r9, hr9, hf⟩ := bd_s hf
          refine r_getR hX hn e_X11_learns_91 fl_11_80 rfl g1 hr9 ?_
          refine r_iload_n (i := 1) hX e_X11_learns_94 rfl rfl ?_
          obtain ⟨g10, hf⟩ := gd_s hf
          refine r_zald hX hn e_X11_learns_95 g10 ?_
          refine r_if_eq hX e_X11_learns_96 (fun hc => ?_) (fun hc => ?_)
          · have hf := ite_t hf hc
            refine r_iinc (v := x1 + 1) hX e_X11_learns_139 rfl (ii_s ic_1) (Nat.le_of_ble_eq_true rfl) rfl ?_
            refine r_goto hX e_X11_learns_142 ?_
            exact GoN.weak (hk2 M (x0) ((x1 + 1)) hf) rfl (sb_s (sb_s (sb_z _)))
          · have hf := ite_f hf hc
            refine r_aload_n (i := 0) hX e_X11_learns_99 rfl rfl ?_
            obtain ⟨r11, hr11, hf⟩ := bd_s hf
            refine r_getR hX hn e_X11_learns_100 fl_11_65 rfl g1 hr11 ?_
            refine r_iload_n (i := 1) hX e_X11_learns_103 rfl rfl ?_
            refine r_aload_n (i := 0) hX e_X11_learns_104 rfl rfl ?_
            refine r_getR hX hn e_X11_learns_105 fl_11_65 rfl g1 hr11 ?_
            refine r_iload_n (i := 1) hX e_X11_learns_108 rfl rfl ?_
            obtain ⟨g12, hf⟩ := gd_s hf
            refine r_iald hX hn e_X11_learns_109 g12 ?_
            refine r_aload_n (i := 0) hX e_X11_learns_110 rfl rfl ?_
            refine r_iload_n (i := 1) hX e_X11_learns_111 rfl rfl ?_
            refine r_bipush hX e_X11_learns_112 bc_6 ?_
            obtain ⟨v13, hv13, hf⟩ := bd_s hf
            refine r_cvi (As := fun K B => [.int (x1), .int (6)]) hX hn (t_X11_of hv13) e_X11_learns_114 cw_X11_of cv_X11_of lk_11_310 ⟨Nat.le_of_ble_eq_true rfl, Nat.le_of_ble_eq_true rfl⟩ (ci := 11) rfl rfl (Nat.le_of_ble_eq_true rfl) g1 rfl rfl (Nat.le_of_ble_eq_true rfl) ⟨Nat.zero_le _, Nat.zero_le _⟩ ?_
            refine r_icmp_ge hX e_X11_learns_117 (fun hc => ?_) (fun hc => ?_)
            · have hf := ite_t hf hc
              refine r_aload_n (i := 0) hX e_X11_learns_124 rfl rfl ?_
              refine r_getR hX hn e_X11_learns_125 fl_11_65 rfl g1 hr11 ?_
              refine r_iload_n (i := 1) hX e_X11_learns_128 rfl rfl ?_
              refine r_iald hX hn e_X11_learns_129 g12 ?_
              refine r_aload_n (i := 0) hX e_X11_learns_130 rfl rfl ?_
              refine r_iload_n (i := 1) hX e_X11_learns_131 rfl rfl ?_
              refine r_bipush hX e_X11_learns_132 bc_6 ?_
              obtain ⟨v14, hv14, hf⟩ := bd_s hf
              refine r_cvi (As := fun K B => [.int (x1), .int (6)]) hX hn (t_X11_of hv14) e_X11_learns_134 cw_X11_of cv_X11_of lk_11_310 ⟨Nat.le_of_ble_eq_true rfl, Nat.le_of_ble_eq_true rfl⟩ (ci := 11) rfl rfl (Nat.le_of_ble_eq_true rfl) g1 rfl rfl (Nat.le_of_ble_eq_true rfl) ⟨Nat.zero_le _, Nat.zero_le _⟩ ?_
              refine r_isub hX e_X11_learns_137 ?_
              obtain ⟨M15, hM15, hf⟩ := nx_s hf
              refine r_iast hX hn hM15 e_X11_learns_138 g12 ?_
              refine r_iinc (v := x1 + 1) hX e_X11_learns_139 rfl (ii_s ic_1) (Nat.le_of_ble_eq_true rfl) rfl ?_
              refine r_goto hX e_X11_learns_142 ?_
              exact GoN.weak (hk2 M15 (x0) ((x1 + 1)) hf) rfl (sb_s (sb_s (sb_z _)))
            · have hf := ite_f hf hc
              refine r_iconst hX e_X11_learns_120 ic_0 ?_
              refine r_goto hX e_X11_learns_121 ?_
              obtain ⟨M16, hM16, hf⟩ := nx_s hf
              refine r_iast hX hn hM16 e_X11_learns_138 g12 ?_
              refine r_iinc (v := x1 + 1) hX e_X11_learns_139 rfl (ii_s ic_1) (Nat.le_of_ble_eq_true rfl) rfl ?_
              refine r_goto hX e_X11_learns_142 ?_
              exact GoN.weak (hk2 M16 (x0) ((x1 + 1)) hf) rfl (sb_s (sb_s (sb_z _)))
      · have hf := ite_f hf hc
        refine r_aload_n (i := 0) hX e_X11_learns_34 rfl rfl ?_
        obtain ⟨r17, hr17, hf⟩ := bd_s hf
        refine r_getR hX hn e_X11_learns_35 fl_11_65 rfl g1 hr17 ?_
        refine r_iload_n (i := 1) hX e_X11_learns_38 rfl rfl ?_
        refine r_aload_n (i := 0) hX e_X11_learns_39 rfl rfl ?_
        refine r_getR hX hn e_X11_learns_40 fl_11_65 rfl g1 hr17 ?_
        refine r_iload_n (i := 1) hX e_X11_learns_43 rfl rfl ?_
        obtain ⟨g18, hf⟩ := gd_s hf
        refine r_iald hX hn e_X11_learns_44 g18 ?_
        refine r_aload_n (i := 0) hX e_X11_learns_45 rfl rfl ?_
        refine r_iload_n (i := 1) hX e_X11_learns_46 rfl rfl ?_
        refine r_bipush hX e_X11_learns_47 bc_6 ?_
        obtain ⟨v19, hv19, hf⟩ := bd_s hf
        refine r_cvi (As := fun K B => [.int (x1), .int (6)]) hX hn (t_X11_of hv19) e_X11_learns_49 cw_X11_of cv_X11_of lk_11_310 ⟨Nat.le_of_ble_eq_true rfl, Nat.le_of_ble_eq_true rfl⟩ (ci := 11) rfl rfl (Nat.le_of_ble_eq_true rfl) g1 rfl rfl (Nat.le_of_ble_eq_true rfl) ⟨Nat.zero_le _, Nat.zero_le _⟩ ?_
        refine r_iadd hX e_X11_learns_52 ?_
        refine r_bipush hX e_X11_learns_53 bc_99 ?_
        refine r_icmp_le hX e_X11_learns_55 (fun hc => ?_) (fun hc => ?_)
        · have hf := ite_t hf hc
          refine r_aload_n (i := 0) hX e_X11_learns_63 rfl rfl ?_
          refine r_getR hX hn e_X11_learns_64 fl_11_65 rfl g1 hr17 ?_
          refine r_iload_n (i := 1) hX e_X11_learns_67 rfl rfl ?_
          refine r_iald hX hn e_X11_learns_68 g18 ?_
          refine r_aload_n (i := 0) hX e_X11_learns_69 rfl rfl ?_
          refine r_iload_n (i := 1) hX e_X11_learns_70 rfl rfl ?_
          refine r_bipush hX e_X11_learns_71 bc_6 ?_
          obtain ⟨v20, hv20, hf⟩ := bd_s hf
          refine r_cvi (As := fun K B => [.int (x1), .int (6)]) hX hn (t_X11_of hv20) e_X11_learns_73 cw_X11_of cv_X11_of lk_11_310 ⟨Nat.le_of_ble_eq_true rfl, Nat.le_of_ble_eq_true rfl⟩ (ci := 11) rfl rfl (Nat.le_of_ble_eq_true rfl) g1 rfl rfl (Nat.le_of_ble_eq_true rfl) ⟨Nat.zero_le _, Nat.zero_le _⟩ ?_
          refine r_iadd hX e_X11_learns_76 ?_
          obtain ⟨M21, hM21, hf⟩ := nx_s hf
          refine r_iast hX hn hM21 e_X11_learns_77 g18 ?_
          refine r_goto hX e_X11_learns_78 ?_
          refine r_iinc (v := x1 + 1) hX e_X11_learns_139 rfl (ii_s ic_1) (Nat.le_of_ble_eq_true rfl) rfl ?_
          refine r_goto hX e_X11_learns_142 ?_
          exact GoN.weak (hk2 M21 (x0) ((x1 + 1)) hf) rfl (sb_s (sb_s (sb_z _)))
        · have hf := ite_f hf hc
          refine r_bipush hX e_X11_learns_58 bc_99 ?_
          refine r_goto hX e_X11_learns_60 ?_
          obtain ⟨M22, hM22, hf⟩ := nx_s hf
          refine r_iast hX hn hM22 e_X11_learns_77 g18 ?_
          refine r_goto hX e_X11_learns_78 ?_
          refine r_iinc (v := x1 + 1) hX e_X11_learns_139 rfl (ii_s ic_1) (Nat.le_of_ble_eq_true rfl) rfl ?_
          refine r_goto hX e_X11_learns_142 ?_
          exact GoN.weak (hk2 M22 (x0) ((x1 + 1)) hf) rfl (sb_s (sb_s (sb_z _)))
    · have hf := ite_f hf hc
      refine r_goto hX e_X11_learns_22 ?_
      refine r_iinc (v := x1 + 1) hX e_X11_learns_139 rfl (ii_s ic_1) (Nat.le_of_ble_eq_true rfl) rfl ?_
      refine r_goto hX e_X11_learns_142 ?_
      exact GoN.weak (hk2 M (x0) ((x1 + 1)) hf) rfl (sb_s (sb_s (sb_z _)))
theorem t_X11_learns_2 {X : Cx} {res : Mem}  (hX : OkX X cX11_learns RX11 1 22) (hn : Fit X shR nR) (hR : RetV X shR nR res)  : ∀ (n : Nat) (M : Mem) (x0 : Nat) (x1 : Int32),  f_X11_learns_2  n M x0 x1 = some res → GoN X shR nR 0 0 M 2 [some (.ref (X.B + x0)), some (.int (x1))] [] := by
  intro n
  induction n with
  | zero => intro M x0 x1 hf; cases hf
  | succ n ih => intro M x0 x1 hf; exact t_s_X11_learns_2 hX hn hR  ih M x0 x1 hf
theorem t_X11_learns {l : Launch} {M : Mem} {a0 : Nat} {res : Mem} (hf : f_X11_learns M a0 = some res) : Cv l yX11_learns cX11_learns 2 none 1 22 shR nR (fun K B => [.ref (B + a0)]) M res := by
  refine met_v (own := RX11) (lo := fun K B => [some (.ref (B + a0)), none]) (by decide +kernel) rfl shR_ok (fun _ _ => rfl) (fun _ _ => rfl) (fun _ _ => Nat.le_of_ble_eq_true rfl) (fun X hX hn hlx hR => ?_)
  refine r_iconst hX e_X11_learns_0 ic_0 ?_
  refine r_istore_n (i := 1) hX e_X11_learns_1 rfl (Nat.le_of_ble_eq_true rfl) rfl ?_
  exact GoN.weak (t_X11_learns_2 hX hn hR FU M (a0) (0) hf) rfl (sb_s (sb_s (sb_z _)))
def s_X11_hour_200 (k10 : Mem → Nat → Int32 → Option (Mem)) (k200 : Mem → Nat → Int32 → Int32 → Option (Mem)) (M : Mem) (x0 : Nat) (x1 : Int32) (x2 : Int32) : Option (Mem) :=
  gd (oB shR x0 11) <| bd (gR M x0 17) fun r2 => gd (aB shR r2 0 4) <| if (gI M r2 (4 : Int32).toNatClampNeg) ≤ x2 then k10 M (x0) ((x1 + 1)) else bd (gR M x0 44) fun r4 => bd (gR M x0 37) fun r5 => gd (aB shR r5 0 x2) <| gd (aB shR r4 0 ((60 * x2) + x1)) <| nx (sI M r4 (((60 * x2) + x1) : Int32).toNatClampNeg (gI M r5 (x2 : Int32).toNatClampNeg)) fun M8 => k200 M8 (x0) (x1) ((x2 + 1))
def f_X11_hour_200 (k10 : Mem → Nat → Int32 → Option (Mem)) : Nat → Mem → Nat → Int32 → Int32 → Option (Mem)
  | 0 => fun _ _ _ _ => none
  | n + 1 => fun y0 y1 y2 y3 => s_X11_hour_200 k10 (f_X11_hour_200 k10 n) y0 y1 y2 y3
def s_X11_hour_165 (k10 : Mem → Nat → Int32 → Option (Mem)) (k165 : Mem → Nat → Int32 → Int32 → Option (Mem)) (M : Mem) (x0 : Nat) (x1 : Int32) (x2 : Int32) : Option (Mem) :=
  gd (oB shR x0 11) <| bd (gR M x0 17) fun r2 => gd (aB shR r2 0 3) <| if (gI M r2 (3 : Int32).toNatClampNeg) ≤ x2 then f_X11_hour_200 k10 FU M (x0) (x1) (0) else bd (gR M x0 43) fun r4 => bd (gR M x0 30) fun r5 => gd (aB shR r5 0 x2) <| gd (aB shR r4 0 ((60 * x2) + x1)) <| nx (sI M r4 (((60 * x2) + x1) : Int32).toNatClampNeg (gI M r5 (x2 : Int32).toNatClampNeg)) fun M8 => k165 M8 (x0) (x1) ((x2 + 1))
def f_X11_hour_165 (k10 : Mem → Nat → Int32 → Option (Mem)) : Nat → Mem → Nat → Int32 → Int32 → Option (Mem)
  | 0 => fun _ _ _ _ => none
  | n + 1 => fun y0 y1 y2 y3 => s_X11_hour_165 k10 (f_X11_hour_165 k10 n) y0 y1 y2 y3
def s_X11_hour_109 (k10 : Mem → Nat → Int32 → Option (Mem)) (k71 : Mem → Nat → Int32 → Int32 → Option (Mem)) (k83 : Mem → Nat → Int32 → Int32 → Int32 → Option (Mem)) (k109 : Mem → Nat → Int32 → Int32 → Int32 → Int32 → Option (Mem)) (M : Mem) (x0 : Nat) (x1 : Int32) (x2 : Int32) (x3 : Int32) (x4 : Int32) : Option (Mem) :=
  gd (oB shR x0 11) <| bd (gR M x0 17) fun r2 => gd (aB shR r2 0 4) <| if (gI M r2 (4 : Int32).toNatClampNeg) ≤ x4 then k83 M (x0) (x1) (x2) ((x3 + 1)) else bd (gR M x0 20) fun r4 => gd (aB shR r4 0 (4 * x4)) <| if (gI M r4 ((4 * x4) : Int32).toNatClampNeg) = x2 then bd (f_X11_trades M x0 x3 x4 x1) fun u6 => k109 u6 (x0) (x1) (x2) (x3) ((x4 + 1)) else k109 M (x0) (x1) (x2) (x3) ((x4 + 1))
def f_X11_hour_109 (k10 : Mem → Nat → Int32 → Option (Mem)) (k71 : Mem → Nat → Int32 → Int32 → Option (Mem)) (k83 : Mem → Nat → Int32 → Int32 → Int32 → Option (Mem)) : Nat → Mem → Nat → Int32 → Int32 → Int32 → Int32 → Option (Mem)
  | 0 => fun _ _ _ _ _ _ => none
  | n + 1 => fun y0 y1 y2 y3 y4 y5 => s_X11_hour_109 k10 k71 k83 (f_X11_hour_109 k10 k71 k83 n) y0 y1 y2 y3 y4 y5
def s_X11_hour_83 (k10 : Mem → Nat → Int32 → Option (Mem)) (k71 : Mem → Nat → Int32 → Int32 → Option (Mem)) (k83 : Mem → Nat → Int32 → Int32 → Int32 → Option (Mem)) (M : Mem) (x0 : Nat) (x1 : Int32) (x2 : Int32) (x3 : Int32) : Option (Mem) :=
  gd (oB shR x0 11) <| bd (gR M x0 17) fun r2 => gd (aB shR r2 0 3) <| if (gI M r2 (3 : Int32).toNatClampNeg) ≤ x3 then k71 M (x0) (x1) ((x2 + 1)) else bd (f_X11_placeOf M x0 x3 x1) fun v4 => if v4 = x2 then f_X11_hour_109 k10 k71 k83 FU M (x0) (x1) (x2) (x3) (0) else k83 M (x0) (x1) (x2) ((x3 + 1))
def f_X11_hour_83 (k10 : Mem → Nat → Int32 → Option (Mem)) (k71 : Mem → Nat → Int32 → Int32 → Option (Mem)) : Nat → Mem → Nat → Int32 → Int32 → Int32 → Option (Mem)
  | 0 => fun _ _ _ _ _ => none
  | n + 1 => fun y0 y1 y2 y3 y4 => s_X11_hour_83 k10 k71 (f_X11_hour_83 k10 k71 n) y0 y1 y2 y3 y4
def s_X11_hour_71 (k10 : Mem → Nat → Int32 → Option (Mem)) (k71 : Mem → Nat → Int32 → Int32 → Option (Mem)) (M : Mem) (x0 : Nat) (x1 : Int32) (x2 : Int32) : Option (Mem) :=
  gd (oB shR x0 11) <| bd (gR M x0 17) fun r2 => gd (aB shR r2 0 0) <| if (gI M r2 (0 : Int32).toNatClampNeg) ≤ x2 then bd (f_X11_learns M x0) fun u4 => f_X11_hour_165 k10 FU u4 (x0) (x1) (0) else f_X11_hour_83 k10 k71 FU M (x0) (x1) (x2) (0)
def f_X11_hour_71 (k10 : Mem → Nat → Int32 → Option (Mem)) : Nat → Mem → Nat → Int32 → Int32 → Option (Mem)
  | 0 => fun _ _ _ _ => none
  | n + 1 => fun y0 y1 y2 y3 => s_X11_hour_71 k10 (f_X11_hour_71 k10 n) y0 y1 y2 y3
def s_X11_hour_22 (k10 : Mem → Nat → Int32 → Option (Mem)) (k22 : Mem → Nat → Int32 → Int32 → Option (Mem)) (M : Mem) (x0 : Nat) (x1 : Int32) (x2 : Int32) : Option (Mem) :=
  gd (oB shR x0 11) <| bd (gR M x0 17) fun r2 => gd (aB shR r2 0 3) <| if (gI M r2 (3 : Int32).toNatClampNeg) ≤ x2 then f_X11_hour_71 k10 FU M (x0) (x1) (0) else bd (gR M x0 35) fun r4 => gd (aB shR r4 2 x2) <| nx (sI M r4 (x2 : Int32).toNatClampNeg (vp_nar .boolean 0)) fun M6 => bd (gR M6 x0 36) fun r7 => gd (aB shR r7 2 x2) <| nx (sI M6 r7 (x2 : Int32).toNatClampNeg (vp_nar .boolean 0)) fun M9 => bd (gR M9 x0 42) fun r10 => bd (f_X11_asked M9 x0 x2 x1) fun v11 => gd (aB shR r10 0 ((60 * x2) + x1)) <| nx (sI M9 r10 (((60 * x2) + x1) : Int32).toNatClampNeg v11) fun M13 => k22 M13 (x0) (x1) ((x2 + 1))
def f_X11_hour_22 (k10 : Mem → Nat → Int32 → Option (Mem)) : Nat → Mem → Nat → Int32 → Int32 → Option (Mem)
  | 0 => fun _ _ _ _ => none
  | n + 1 => fun y0 y1 y2 y3 => s_X11_hour_22 k10 (f_X11_hour_22 k10 n) y0 y1 y2 y3
def s_X11_hour_10 (k10 : Mem → Nat → Int32 → Option (Mem)) (M : Mem) (x0 : Nat) (x1 : Int32) : Option (Mem) :=
  gd (oB shR x0 11) <| bd (gR M x0 17) fun r2 => gd (aB shR r2 0 1) <| if (gI M r2 (1 : Int32).toNatClampNeg) ≤ x1 then some M else f_X11_hour_22 k10 FU M (x0) (x1) (0)
def f_X11_hour_10  : Nat → Mem → Nat → Int32 → Option (Mem)
  | 0 => fun _ _ _ => none
  | n + 1 => fun y0 y1 y2 => s_X11_hour_10  (f_X11_hour_10  n) y0 y1 y2
def f_X11_hour (M : Mem) (a0 : Nat) : Option (Mem) :=
  gd (oB shR a0 11) <| bd (f_X11_laysTurns M a0) fun u2 => bd (f_X11_begin u2 a0) fun u3 => f_X11_hour_10 FU u3 (a0) (0)
theorem t_s_X11_hour_200 {X : Cx} {res : Mem} {k10 : Mem → Nat → Int32 → Option (Mem)} {k200 : Mem → Nat → Int32 → Int32 → Option (Mem)} (hX : OkX X cX11_hour RX11 3 72) (hn : Fit X shR nR) (hR : RetV X shR nR res) (hk10 : ∀ M x0 x1, k10 M x0 x1 = some res → GoN X shR nR 0 0 M 10 [some (.ref (X.B + x0)), some (.int (x1)), none, none, none] []) (hk200 : ∀ M x0 x1 x2, k200 M x0 x1 x2 = some res → GoN X shR nR 0 0 M 200 [some (.ref (X.B + x0)), some (.int (x1)), some (.int (x2)), none, none] []) (M : Mem) (x0 : Nat) (x1 : Int32) (x2 : Int32) (hf : s_X11_hour_200 k10 k200 M x0 x1 x2 = some res) : GoN X shR nR 0 0 M 200 [some (.ref (X.B + x0)), some (.int (x1)), some (.int (x2)), none, none] [] := by
  refine r_iload_n (i := 2) hX e_X11_hour_200 rfl rfl ?_
  refine r_aload_n (i := 0) hX e_X11_hour_201 rfl rfl ?_
  obtain ⟨g1, hf⟩ := gd_s hf
  obtain ⟨r2, hr2, hf⟩ := bd_s hf
  refine r_getR hX hn e_X11_hour_202 fl_11_34 rfl g1 hr2 ?_
  refine r_iconst hX e_X11_hour_205 ic_4 ?_
  obtain ⟨g3, hf⟩ := gd_s hf
  refine r_iald hX hn e_X11_hour_206 g3 ?_
  refine r_icmp_ge hX e_X11_hour_207 (fun hc => ?_) (fun hc => ?_)
  · have hf := ite_t hf hc
    refine r_iinc (v := x1 + 1) hX e_X11_hour_233 rfl (ii_s ic_1) (Nat.le_of_ble_eq_true rfl) rfl ?_
    refine r_goto hX e_X11_hour_236 ?_
    exact GoN.weak (hk10 M (x0) ((x1 + 1)) hf) rfl (sb_s (sb_s (sb_n (sb_n (sb_n (sb_z _))))))
  · have hf := ite_f hf hc
    refine r_aload_n (i := 0) hX e_X11_hour_210 rfl rfl ?_
    obtain ⟨r4, hr4, hf⟩ := bd_s hf
    refine r_getR hX hn e_X11_hour_211 fl_11_104 rfl g1 hr4 ?_
    refine r_bipush hX e_X11_hour_214 bc_60 ?_
    refine r_iload_n (i := 2) hX e_X11_hour_216 rfl rfl ?_
    refine r_imul hX e_X11_hour_217 ?_
    refine r_iload_n (i := 1) hX e_X11_hour_218 rfl rfl ?_
    refine r_iadd hX e_X11_hour_219 ?_
    refine r_aload_n (i := 0) hX e_X11_hour_220 rfl rfl ?_
    obtain ⟨r5, hr5, hf⟩ := bd_s hf
    refine r_getR hX hn e_X11_hour_221 fl_11_83 rfl g1 hr5 ?_
    refine r_iload_n (i := 2) hX e_X11_hour_224 rfl rfl ?_
    obtain ⟨g6, hf⟩ := gd_s hf
    refine r_iald hX hn e_X11_hour_225 g6 ?_
    obtain ⟨g7, hf⟩ := gd_s hf
    obtain ⟨M8, hM8, hf⟩ := nx_s hf
    refine r_iast hX hn hM8 e_X11_hour_226 g7 ?_
    refine r_iinc (v := x2 + 1) hX e_X11_hour_227 rfl (ii_s ic_1) (Nat.le_of_ble_eq_true rfl) rfl ?_
    refine r_goto hX e_X11_hour_230 ?_
    exact GoN.weak (hk200 M8 (x0) (x1) ((x2 + 1)) hf) rfl (sb_s (sb_s (sb_s (sb_n (sb_n (sb_z _))))))
theorem t_X11_hour_200 {X : Cx} {res : Mem} {k10 : Mem → Nat → Int32 → Option (Mem)} (hX : OkX X cX11_hour RX11 3 72) (hn : Fit X shR nR) (hR : RetV X shR nR res) (hk10 : ∀ M x0 x1, k10 M x0 x1 = some res → GoN X shR nR 0 0 M 10 [some (.ref (X.B + x0)), some (.int (x1)), none, none, none] []) : ∀ (n : Nat) (M : Mem) (x0 : Nat) (x1 : Int32) (x2 : Int32),  f_X11_hour_200 k10 n M x0 x1 x2 = some res → GoN X shR nR 0 0 M 200 [some (.ref (X.B + x0)), some (.int (x1)), some (.int (x2)), none, none] [] := by
  intro n
  induction n with
  | zero => intro M x0 x1 x2 hf; cases hf
  | succ n ih => intro M x0 x1 x2 hf; exact t_s_X11_hour_200 hX hn hR hk10 ih M x0 x1 x2 hf
theorem t_s_X11_hour_165 {X : Cx} {res : Mem} {k10 : Mem → Nat → Int32 → Option (Mem)} {k165 : Mem → Nat → Int32 → Int32 → Option (Mem)} (hX : OkX X cX11_hour RX11 3 72) (hn : Fit X shR nR) (hR : RetV X shR nR res) (hk10 : ∀ M x0 x1, k10 M x0 x1 = some res → GoN X shR nR 0 0 M 10 [some (.ref (X.B + x0)), some (.int (x1)), none, none, none] []) (hk165 : ∀ M x0 x1 x2, k165 M x0 x1 x2 = some res → GoN X shR nR 0 0 M 165 [some (.ref (X.B + x0)), some (.int (x1)), some (.int (x2)), none, none] []) (M : Mem) (x0 : Nat) (x1 : Int32) (x2 : Int32) (hf : s_X11_hour_165 k10 k165 M x0 x1 x2 = some res) : GoN X shR nR 0 0 M 165 [some (.ref (X.B + x0)), some (.int (x1)), some (.int (x2)), none, none] [] := by
  refine r_iload_n (i := 2) hX e_X11_hour_165 rfl rfl ?_
  refine r_aload_n (i := 0) hX e_X11_hour_166 rfl rfl ?_
  obtain ⟨g1, hf⟩ := gd_s hf
  obtain ⟨r2, hr2, hf⟩ := bd_s hf
  refine r_getR hX hn e_X11_hour_167 fl_11_34 rfl g1 hr2 ?_
  refine r_iconst hX e_X11_hour_170 ic_3 ?_
  obtain ⟨g3, hf⟩ := gd_s hf
  refine r_iald hX hn e_X11_hour_171 g3 ?_
  refine r_icmp_ge hX e_X11_hour_172 (fun hc => ?_) (fun hc => ?_)
  · have hf := ite_t hf hc
    refine r_iconst hX e_X11_hour_198 ic_0 ?_
    refine r_istore_n (i := 2) hX e_X11_hour_199 rfl (Nat.le_of_ble_eq_true rfl) rfl ?_
    exact GoN.weak (t_X11_hour_200 hX hn hR hk10 FU M (x0) (x1) (0) hf) rfl (sb_s (sb_s (sb_s (sb_n (sb_n (sb_z _))))))
  · have hf := ite_f hf hc
    refine r_aload_n (i := 0) hX e_X11_hour_175 rfl rfl ?_
    obtain ⟨r4, hr4, hf⟩ := bd_s hf
    refine r_getR hX hn e_X11_hour_176 fl_11_101 rfl g1 hr4 ?_
    refine r_bipush hX e_X11_hour_179 bc_60 ?_
    refine r_iload_n (i := 2) hX e_X11_hour_181 rfl rfl ?_
    refine r_imul hX e_X11_hour_182 ?_
    refine r_iload_n (i := 1) hX e_X11_hour_183 rfl rfl ?_
    refine r_iadd hX e_X11_hour_184 ?_
    refine r_aload_n (i := 0) hX e_X11_hour_185 rfl rfl ?_
    obtain ⟨r5, hr5, hf⟩ := bd_s hf
    refine r_getR hX hn e_X11_hour_186 fl_11_62 rfl g1 hr5 ?_
    refine r_iload_n (i := 2) hX e_X11_hour_189 rfl rfl ?_
    obtain ⟨g6, hf⟩ := gd_s hf
    refine r_iald hX hn e_X11_hour_190 g6 ?_
    obtain ⟨g7, hf⟩ := gd_s hf
    obtain ⟨M8, hM8, hf⟩ := nx_s hf
    refine r_iast hX hn hM8 e_X11_hour_191 g7 ?_
    refine r_iinc (v := x2 + 1) hX e_X11_hour_192 rfl (ii_s ic_1) (Nat.le_of_ble_eq_true rfl) rfl ?_
    refine r_goto hX e_X11_hour_195 ?_
    exact GoN.weak (hk165 M8 (x0) (x1) ((x2 + 1)) hf) rfl (sb_s (sb_s (sb_s (sb_n (sb_n (sb_z _))))))
theorem t_X11_hour_165 {X : Cx} {res : Mem} {k10 : Mem → Nat → Int32 → Option (Mem)} (hX : OkX X cX11_hour RX11 3 72) (hn : Fit X shR nR) (hR : RetV X shR nR res) (hk10 : ∀ M x0 x1, k10 M x0 x1 = some res → GoN X shR nR 0 0 M 10 [some (.ref (X.B + x0)), some (.int (x1)), none, none, none] []) : ∀ (n : Nat) (M : Mem) (x0 : Nat) (x1 : Int32) (x2 : Int32),  f_X11_hour_165 k10 n M x0 x1 x2 = some res → GoN X shR nR 0 0 M 165 [some (.ref (X.B + x0)), some (.int (x1)), some (.int (x2)), none, none] [] := by
  intro n
  induction n with
  | zero => intro M x0 x1 x2 hf; cases hf
  | succ n ih => intro M x0 x1 x2 hf; exact t_s_X11_hour_165 hX hn hR hk10 ih M x0 x1 x2 hf
theorem t_s_X11_hour_109 {X : Cx} {res : Mem} {k10 : Mem → Nat → Int32 → Option (Mem)} {k71 : Mem → Nat → Int32 → Int32 → Option (Mem)} {k83 : Mem → Nat → Int32 → Int32 → Int32 → Option (Mem)} {k109 : Mem → Nat → Int32 → Int32 → Int32 → Int32 → Option (Mem)} (hX : OkX X cX11_hour RX11 3 72) (hn : Fit X shR nR) (hR : RetV X shR nR res) (hk10 : ∀ M x0 x1, k10 M x0 x1 = some res → GoN X shR nR 0 0 M 10 [some (.ref (X.B + x0)), some (.int (x1)), none, none, none] []) (hk71 : ∀ M x0 x1 x2, k71 M x0 x1 x2 = some res → GoN X shR nR 0 0 M 71 [some (.ref (X.B + x0)), some (.int (x1)), some (.int (x2)), none, none] []) (hk83 : ∀ M x0 x1 x2 x3, k83 M x0 x1 x2 x3 = some res → GoN X shR nR 0 0 M 83 [some (.ref (X.B + x0)), some (.int (x1)), some (.int (x2)), some (.int (x3)), none] []) (hk109 : ∀ M x0 x1 x2 x3 x4, k109 M x0 x1 x2 x3 x4 = some res → GoN X shR nR 0 0 M 109 [some (.ref (X.B + x0)), some (.int (x1)), some (.int (x2)), some (.int (x3)), some (.int (x4))] []) (M : Mem) (x0 : Nat) (x1 : Int32) (x2 : Int32) (x3 : Int32) (x4 : Int32) (hf : s_X11_hour_109 k10 k71 k83 k109 M x0 x1 x2 x3 x4 = some res) : GoN X shR nR 0 0 M 109 [some (.ref (X.B + x0)), some (.int (x1)), some (.int (x2)), some (.int (x3)), some (.int (x4))] [] := by
  refine r_iload hX e_X11_hour_109 rfl ?_
  refine r_aload_n (i := 0) hX e_X11_hour_111 rfl rfl ?_
  obtain ⟨g1, hf⟩ := gd_s hf
  obtain ⟨r2, hr2, hf⟩ := bd_s hf
  refine r_getR hX hn e_X11_hour_112 fl_11_34 rfl g1 hr2 ?_
  refine r_iconst hX e_X11_hour_115 ic_4 ?_
  obtain ⟨g3, hf⟩ := gd_s hf
  refine r_iald hX hn e_X11_hour_116 g3 ?_
  refine r_icmp_ge hX e_X11_hour_117 (fun hc => ?_) (fun hc => ?_)
  · have hf := ite_t hf hc
    refine r_iinc (v := x3 + 1) hX e_X11_hour_147 rfl (ii_s ic_1) (Nat.le_of_ble_eq_true rfl) rfl ?_
    refine r_goto hX e_X11_hour_150 ?_
    exact GoN.weak (hk83 M (x0) (x1) (x2) ((x3 + 1)) hf) rfl (sb_s (sb_s (sb_s (sb_s (sb_n (sb_z _))))))
  · have hf := ite_f hf hc
    refine r_aload_n (i := 0) hX e_X11_hour_120 rfl rfl ?_
    obtain ⟨r4, hr4, hf⟩ := bd_s hf
    refine r_getR hX hn e_X11_hour_121 fl_11_43 rfl g1 hr4 ?_
    refine r_iconst hX e_X11_hour_124 ic_4 ?_
    refine r_iload hX e_X11_hour_125 rfl ?_
    refine r_imul hX e_X11_hour_127 ?_
    obtain ⟨g5, hf⟩ := gd_s hf
    refine r_iald hX hn e_X11_hour_128 g5 ?_
    refine r_iload_n (i := 2) hX e_X11_hour_129 rfl rfl ?_
    refine r_icmp_ne hX e_X11_hour_130 (fun hc => ?_) (fun hc => ?_)
    · have hf := ite_f hf hc
      refine r_iinc (v := x4 + 1) hX e_X11_hour_141 rfl (ii_s ic_1) (Nat.le_of_ble_eq_true rfl) rfl ?_
      refine r_goto hX e_X11_hour_144 ?_
      exact GoN.weak (hk109 M (x0) (x1) (x2) (x3) ((x4 + 1)) hf) rfl (sb_s (sb_s (sb_s (sb_s (sb_s (sb_z _))))))
    · have hf := ite_t hf hc
      refine r_aload_n (i := 0) hX e_X11_hour_133 rfl rfl ?_
      refine r_iload_n (i := 3) hX e_X11_hour_134 rfl rfl ?_
      refine r_iload hX e_X11_hour_135 rfl ?_
      refine r_iload_n (i := 1) hX e_X11_hour_137 rfl rfl ?_
      obtain ⟨u6, hu6, hf⟩ := bd_s hf
      refine r_cvv (As := fun K B => [.int (x3), .int (x4), .int (x1)]) hX hn (t_X11_trades hu6) e_X11_hour_138 cw_X11_trades cv_X11_trades lk_11_390 ⟨Nat.le_of_ble_eq_true rfl, Nat.le_of_ble_eq_true rfl⟩ (ci := 11) rfl rfl (Nat.le_of_ble_eq_true rfl) g1 rfl rfl (Nat.le_of_ble_eq_true rfl) ⟨Nat.zero_le _, Nat.zero_le _⟩ ?_
      refine r_iinc (v := x4 + 1) hX e_X11_hour_141 rfl (ii_s ic_1) (Nat.le_of_ble_eq_true rfl) rfl ?_
      refine r_goto hX e_X11_hour_144 ?_
      exact GoN.weak (hk109 u6 (x0) (x1) (x2) (x3) ((x4 + 1)) hf) rfl (sb_s (sb_s (sb_s (sb_s (sb_s (sb_z _))))))
theorem t_X11_hour_109 {X : Cx} {res : Mem} {k10 : Mem → Nat → Int32 → Option (Mem)} {k71 : Mem → Nat → Int32 → Int32 → Option (Mem)} {k83 : Mem → Nat → Int32 → Int32 → Int32 → Option (Mem)} (hX : OkX X cX11_hour RX11 3 72) (hn : Fit X shR nR) (hR : RetV X shR nR res) (hk10 : ∀ M x0 x1, k10 M x0 x1 = some res → GoN X shR nR 0 0 M 10 [some (.ref (X.B + x0)), some (.int (x1)), none, none, none] []) (hk71 : ∀ M x0 x1 x2, k71 M x0 x1 x2 = some res → GoN X shR nR 0 0 M 71 [some (.ref (X.B + x0)), some (.int (x1)), some (.int (x2)), none, none] []) (hk83 : ∀ M x0 x1 x2 x3, k83 M x0 x1 x2 x3 = some res → GoN X shR nR 0 0 M 83 [some (.ref (X.B + x0)), some (.int (x1)), some (.int (x2)), some (.int (x3)), none] []) : ∀ (n : Nat) (M : Mem) (x0 : Nat) (x1 : Int32) (x2 : Int32) (x3 : Int32) (x4 : Int32),  f_X11_hour_109 k10 k71 k83 n M x0 x1 x2 x3 x4 = some res → GoN X shR nR 0 0 M 109 [some (.ref (X.B + x0)), some (.int (x1)), some (.int (x2)), some (.int (x3)), some (.int (x4))] [] := by
  intro n
  induction n with
  | zero => intro M x0 x1 x2 x3 x4 hf; cases hf
  | succ n ih => intro M x0 x1 x2 x3 x4 hf; exact t_s_X11_hour_109 hX hn hR hk10 hk71 hk83 ih M x0 x1 x2 x3 x4 hf
theorem t_s_X11_hour_83 {X : Cx} {res : Mem} {k10 : Mem → Nat → Int32 → Option (Mem)} {k71 : Mem → Nat → Int32 → Int32 → Option (Mem)} {k83 : Mem → Nat → Int32 → Int32 → Int32 → Option (Mem)} (hX : OkX X cX11_hour RX11 3 72) (hn : Fit X shR nR) (hR : RetV X shR nR res) (hk10 : ∀ M x0 x1, k10 M x0 x1 = some res → GoN X shR nR 0 0 M 10 [some (.ref (X.B + x0)), some (.int (x1)), none, none, none] []) (hk71 : ∀ M x0 x1 x2, k71 M x0 x1 x2 = some res → GoN X shR nR 0 0 M 71 [some (.ref (X.B + x0)), some (.int (x1)), some (.int (x2)), none, none] []) (hk83 : ∀ M x0 x1 x2 x3, k83 M x0 x1 x2 x3 = some res → GoN X shR nR 0 0 M 83 [some (.ref (X.B + x0)), some (.int (x1)), some (.int (x2)), some (.int (x3)), none] []) (M : Mem) (x0 : Nat) (x1 : Int32) (x2 : Int32) (x3 : Int32) (hf : s_X11_hour_83 k10 k71 k83 M x0 x1 x2 x3 = some res) : GoN X shR nR 0 0 M 83 [some (.ref (X.B + x0)), some (.int (x1)), some (.int (x2)), some (.int (x3)), none] [] := by
  refine r_iload_n (i := 3) hX e_X11_hour_83 rfl rfl ?_
  refine r_aload_n (i := 0) hX e_X11_hour_84 rfl rfl ?_
  obtain ⟨g1, hf⟩ := gd_s hf
  obtain ⟨r2, hr2, hf⟩ := bd_s hf
  refine r_getR hX hn e_X11_hour_85 fl_11_34 rfl g1 hr2 ?_
  refine r_iconst hX e_X11_hour_88 ic_3 ?_
  obtain ⟨g3, hf⟩ := gd_s hf
  refine r_iald hX hn e_X11_hour_89 g3 ?_
  refine r_icmp_ge hX e_X11_hour_90 (fun hc => ?_) (fun hc => ?_)
  · have hf := ite_t hf hc
    refine r_iinc (v := x2 + 1) hX e_X11_hour_153 rfl (ii_s ic_1) (Nat.le_of_ble_eq_true rfl) rfl ?_
    refine r_goto hX e_X11_hour_156 ?_
    exact GoN.weak (hk71 M (x0) (x1) ((x2 + 1)) hf) rfl (sb_s (sb_s (sb_s (sb_n (sb_n (sb_z _))))))
  · have hf := ite_f hf hc
    refine r_aload_n (i := 0) hX e_X11_hour_93 rfl rfl ?_
    refine r_iload_n (i := 3) hX e_X11_hour_94 rfl rfl ?_
    refine r_iload_n (i := 1) hX e_X11_hour_95 rfl rfl ?_
    obtain ⟨v4, hv4, hf⟩ := bd_s hf
    refine r_cvi (As := fun K B => [.int (x3), .int (x1)]) hX hn (t_X11_placeOf hv4) e_X11_hour_96 cw_X11_placeOf cv_X11_placeOf lk_11_359 ⟨Nat.le_of_ble_eq_true rfl, Nat.le_of_ble_eq_true rfl⟩ (ci := 11) rfl rfl (Nat.le_of_ble_eq_true rfl) g1 rfl rfl (Nat.le_of_ble_eq_true rfl) ⟨Nat.zero_le _, Nat.zero_le _⟩ ?_
    refine r_iload_n (i := 2) hX e_X11_hour_99 rfl rfl ?_
    refine r_icmp_eq hX e_X11_hour_100 (fun hc => ?_) (fun hc => ?_)
    · have hf := ite_t hf hc
      refine r_iconst hX e_X11_hour_106 ic_0 ?_
      refine r_istore hX e_X11_hour_107 (Nat.le_of_ble_eq_true rfl) rfl ?_
      exact GoN.weak (t_X11_hour_109 hX hn hR hk10 hk71 hk83 FU M (x0) (x1) (x2) (x3) (0) hf) rfl (sb_s (sb_s (sb_s (sb_s (sb_s (sb_z _))))))
    · have hf := ite_f hf hc
      refine r_goto hX e_X11_hour_103 ?_
      refine r_iinc (v := x3 + 1) hX e_X11_hour_147 rfl (ii_s ic_1) (Nat.le_of_ble_eq_true rfl) rfl ?_
      refine r_goto hX e_X11_hour_150 ?_
      exact GoN.weak (hk83 M (x0) (x1) (x2) ((x3 + 1)) hf) rfl (sb_s (sb_s (sb_s (sb_s (sb_n (sb_z _))))))
theorem t_X11_hour_83 {X : Cx} {res : Mem} {k10 : Mem → Nat → Int32 → Option (Mem)} {k71 : Mem → Nat → Int32 → Int32 → Option (Mem)} (hX : OkX X cX11_hour RX11 3 72) (hn : Fit X shR nR) (hR : RetV X shR nR res) (hk10 : ∀ M x0 x1, k10 M x0 x1 = some res → GoN X shR nR 0 0 M 10 [some (.ref (X.B + x0)), some (.int (x1)), none, none, none] []) (hk71 : ∀ M x0 x1 x2, k71 M x0 x1 x2 = some res → GoN X shR nR 0 0 M 71 [some (.ref (X.B + x0)), some (.int (x1)), some (.int (x2)), none, none] []) : ∀ (n : Nat) (M : Mem) (x0 : Nat) (x1 : Int32) (x2 : Int32) (x3 : Int32),  f_X11_hour_83 k10 k71 n M x0 x1 x2 x3 = some res → GoN X shR nR 0 0 M 83 [some (.ref (X.B + x0)), some (.int (x1)), some (.int (x2)), some (.int (x3)), none] [] := by
  intro n
  induction n with
  | zero => intro M x0 x1 x2 x3 hf; cases hf
  | succ n ih => intro M x0 x1 x2 x3 hf; exact t_s_X11_hour_83 hX hn hR hk10 hk71 ih M x0 x1 x2 x3 hf
theorem t_s_X11_hour_71 {X : Cx} {res : Mem} {k10 : Mem → Nat → Int32 → Option (Mem)} {k71 : Mem → Nat → Int32 → Int32 → Option (Mem)} (hX : OkX X cX11_hour RX11 3 72) (hn : Fit X shR nR) (hR : RetV X shR nR res) (hk10 : ∀ M x0 x1, k10 M x0 x1 = some res → GoN X shR nR 0 0 M 10 [some (.ref (X.B + x0)), some (.int (x1)), none, none, none] []) (hk71 : ∀ M x0 x1 x2, k71 M x0 x1 x2 = some res → GoN X shR nR 0 0 M 71 [some (.ref (X.B + x0)), some (.int (x1)), some (.int (x2)), none, none] []) (M : Mem) (x0 : Nat) (x1 : Int32) (x2 : Int32) (hf : s_X11_hour_71 k10 k71 M x0 x1 x2 = some res) : GoN X shR nR 0 0 M 71 [some (.ref (X.B + x0)), some (.int (x1)), some (.int (x2)), none, none] [] := by
  refine r_iload_n (i := 2) hX e_X11_hour_71 rfl rfl ?_
  refine r_aload_n (i := 0) hX e_X11_hour_72 rfl rfl ?_
  obtain ⟨g1, hf⟩ := gd_s hf
  obtain ⟨r2, hr2, hf⟩ := bd_s hf
  refine r_getR hX hn e_X11_hour_73 fl_11_34 rfl g1 hr2 ?_
  refine r_iconst hX e_X11_hour_76 ic_0 ?_
  obtain ⟨g3, hf⟩ := gd_s hf
  refine r_iald hX hn e_X11_hour_77 g3 ?_
  refine r_icmp_ge hX e_X11_hour_78 (fun hc => ?_) (fun hc => ?_)
  · have hf := ite_t hf hc
    refine r_aload_n (i := 0) hX e_X11_hour_159 rfl rfl ?_
    obtain ⟨u4, hu4, hf⟩ := bd_s hf
    refine r_cvv (As := fun K B => []) hX hn (t_X11_learns hu4) e_X11_hour_160 cw_X11_learns cv_X11_learns lk_11_394 ⟨Nat.le_of_ble_eq_true rfl, Nat.le_of_ble_eq_true rfl⟩ (ci := 11) rfl rfl (Nat.le_of_ble_eq_true rfl) g1 rfl rfl (Nat.le_of_ble_eq_true rfl) ⟨Nat.zero_le _, Nat.zero_le _⟩ ?_
    refine r_iconst hX e_X11_hour_163 ic_0 ?_
    refine r_istore_n (i := 2) hX e_X11_hour_164 rfl (Nat.le_of_ble_eq_true rfl) rfl ?_
    exact GoN.weak (t_X11_hour_165 hX hn hR hk10 FU u4 (x0) (x1) (0) hf) rfl (sb_s (sb_s (sb_s (sb_n (sb_n (sb_z _))))))
  · have hf := ite_f hf hc
    refine r_iconst hX e_X11_hour_81 ic_0 ?_
    refine r_istore_n (i := 3) hX e_X11_hour_82 rfl (Nat.le_of_ble_eq_true rfl) rfl ?_
    exact GoN.weak (t_X11_hour_83 hX hn hR hk10 hk71 FU M (x0) (x1) (x2) (0) hf) rfl (sb_s (sb_s (sb_s (sb_s (sb_n (sb_z _))))))
theorem t_X11_hour_71 {X : Cx} {res : Mem} {k10 : Mem → Nat → Int32 → Option (Mem)} (hX : OkX X cX11_hour RX11 3 72) (hn : Fit X shR nR) (hR : RetV X shR nR res) (hk10 : ∀ M x0 x1, k10 M x0 x1 = some res → GoN X shR nR 0 0 M 10 [some (.ref (X.B + x0)), some (.int (x1)), none, none, none] []) : ∀ (n : Nat) (M : Mem) (x0 : Nat) (x1 : Int32) (x2 : Int32),  f_X11_hour_71 k10 n M x0 x1 x2 = some res → GoN X shR nR 0 0 M 71 [some (.ref (X.B + x0)), some (.int (x1)), some (.int (x2)), none, none] [] := by
  intro n
  induction n with
  | zero => intro M x0 x1 x2 hf; cases hf
  | succ n ih => intro M x0 x1 x2 hf; exact t_s_X11_hour_71 hX hn hR hk10 ih M x0 x1 x2 hf
theorem t_s_X11_hour_22 {X : Cx} {res : Mem} {k10 : Mem → Nat → Int32 → Option (Mem)} {k22 : Mem → Nat → Int32 → Int32 → Option (Mem)} (hX : OkX X cX11_hour RX11 3 72) (hn : Fit X shR nR) (hR : RetV X shR nR res) (hk10 : ∀ M x0 x1, k10 M x0 x1 = some res → GoN X shR nR 0 0 M 10 [some (.ref (X.B + x0)), some (.int (x1)), none, none, none] []) (hk22 : ∀ M x0 x1 x2, k22 M x0 x1 x2 = some res → GoN X shR nR 0 0 M 22 [some (.ref (X.B + x0)), some (.int (x1)), some (.int (x2)), none, none] []) (M : Mem) (x0 : Nat) (x1 : Int32) (x2 : Int32) (hf : s_X11_hour_22 k10 k22 M x0 x1 x2 = some res) : GoN X shR nR 0 0 M 22 [some (.ref (X.B + x0)), some (.int (x1)), some (.int (x2)), none, none] [] := by
  refine r_iload_n (i := 2) hX e_X11_hour_22 rfl rfl ?_
  refine r_aload_n (i := 0) hX e_X11_hour_23 rfl rfl ?_
  obtain ⟨g1, hf⟩ := gd_s hf
  obtain ⟨r2, hr2, hf⟩ := bd_s hf
  refine r_getR hX hn e_X11_hour_24 fl_11_34 rfl g1 hr2 ?_
  refine r_iconst hX e_X11_hour_27 ic_3 ?_
  obtain ⟨g3, hf⟩ := gd_s hf
  refine r_iald hX hn e_X11_hour_28 g3 ?_
  refine r_icmp_ge hX e_X11_hour_29 (fun hc => ?_) (fun hc => ?_)
  · have hf := ite_t hf hc
    refine r_iconst hX e_X11_hour_69 ic_0 ?_
    refine r_istore_n (i := 2) hX e_X11_hour_70 rfl (Nat.le_of_ble_eq_true rfl) rfl ?_
    exact GoN.weak (t_X11_hour_71 hX hn hR hk10 FU M (x0) (x1) (0) hf) rfl (sb_s (sb_s (sb_s (sb_n (sb_n (sb_z _))))))
  · have hf := ite_f hf hc
    refine r_aload_n (i := 0) hX e_X11_hour_32 rfl rfl ?_
    obtain ⟨r4, hr4, hf⟩ := bd_s hf
    refine r_getR hX hn e_X11_hour_33 fl_11_77 rfl g1 hr4 ?_
    refine r_iload_n (i := 2) hX e_X11_hour_36 rfl rfl ?_
    refine r_iconst hX e_X11_hour_37 ic_0 ?_
    obtain ⟨g5, hf⟩ := gd_s hf
    obtain ⟨M6, hM6, hf⟩ := nx_s hf
    refine r_zast hX hn hM6 e_X11_hour_38 g5 ?_
    refine r_aload_n (i := 0) hX e_X11_hour_39 rfl rfl ?_
    obtain ⟨r7, hr7, hf⟩ := bd_s hf
    refine r_getR hX hn e_X11_hour_40 fl_11_80 rfl g1 hr7 ?_
    refine r_iload_n (i := 2) hX e_X11_hour_43 rfl rfl ?_
    refine r_iconst hX e_X11_hour_44 ic_0 ?_
    obtain ⟨g8, hf⟩ := gd_s hf
    obtain ⟨M9, hM9, hf⟩ := nx_s hf
    refine r_zast hX hn hM9 e_X11_hour_45 g8 ?_
    refine r_aload_n (i := 0) hX e_X11_hour_46 rfl rfl ?_
    obtain ⟨r10, hr10, hf⟩ := bd_s hf
    refine r_getR hX hn e_X11_hour_47 fl_11_98 rfl g1 hr10 ?_
    refine r_bipush hX e_X11_hour_50 bc_60 ?_
    refine r_iload_n (i := 2) hX e_X11_hour_52 rfl rfl ?_
    refine r_imul hX e_X11_hour_53 ?_
    refine r_iload_n (i := 1) hX e_X11_hour_54 rfl rfl ?_
    refine r_iadd hX e_X11_hour_55 ?_
    refine r_aload_n (i := 0) hX e_X11_hour_56 rfl rfl ?_
    refine r_iload_n (i := 2) hX e_X11_hour_57 rfl rfl ?_
    refine r_iload_n (i := 1) hX e_X11_hour_58 rfl rfl ?_
    obtain ⟨v11, hv11, hf⟩ := bd_s hf
    refine r_cvi (As := fun K B => [.int (x2), .int (x1)]) hX hn (t_X11_asked hv11) e_X11_hour_59 cw_X11_asked cv_X11_asked lk_11_380 ⟨Nat.le_of_ble_eq_true rfl, Nat.le_of_ble_eq_true rfl⟩ (ci := 11) rfl rfl (Nat.le_of_ble_eq_true rfl) g1 rfl rfl (Nat.le_of_ble_eq_true rfl) ⟨Nat.zero_le _, Nat.zero_le _⟩ ?_
    obtain ⟨g12, hf⟩ := gd_s hf
    obtain ⟨M13, hM13, hf⟩ := nx_s hf
    refine r_iast hX hn hM13 e_X11_hour_62 g12 ?_
    refine r_iinc (v := x2 + 1) hX e_X11_hour_63 rfl (ii_s ic_1) (Nat.le_of_ble_eq_true rfl) rfl ?_
    refine r_goto hX e_X11_hour_66 ?_
    exact GoN.weak (hk22 M13 (x0) (x1) ((x2 + 1)) hf) rfl (sb_s (sb_s (sb_s (sb_n (sb_n (sb_z _))))))
theorem t_X11_hour_22 {X : Cx} {res : Mem} {k10 : Mem → Nat → Int32 → Option (Mem)} (hX : OkX X cX11_hour RX11 3 72) (hn : Fit X shR nR) (hR : RetV X shR nR res) (hk10 : ∀ M x0 x1, k10 M x0 x1 = some res → GoN X shR nR 0 0 M 10 [some (.ref (X.B + x0)), some (.int (x1)), none, none, none] []) : ∀ (n : Nat) (M : Mem) (x0 : Nat) (x1 : Int32) (x2 : Int32),  f_X11_hour_22 k10 n M x0 x1 x2 = some res → GoN X shR nR 0 0 M 22 [some (.ref (X.B + x0)), some (.int (x1)), some (.int (x2)), none, none] [] := by
  intro n
  induction n with
  | zero => intro M x0 x1 x2 hf; cases hf
  | succ n ih => intro M x0 x1 x2 hf; exact t_s_X11_hour_22 hX hn hR hk10 ih M x0 x1 x2 hf
theorem t_s_X11_hour_10 {X : Cx} {res : Mem} {k10 : Mem → Nat → Int32 → Option (Mem)} (hX : OkX X cX11_hour RX11 3 72) (hn : Fit X shR nR) (hR : RetV X shR nR res) (hk10 : ∀ M x0 x1, k10 M x0 x1 = some res → GoN X shR nR 0 0 M 10 [some (.ref (X.B + x0)), some (.int (x1)), none, none, none] []) (M : Mem) (x0 : Nat) (x1 : Int32) (hf : s_X11_hour_10 k10 M x0 x1 = some res) : GoN X shR nR 0 0 M 10 [some (.ref (X.B + x0)), some (.int (x1)), none, none, none] [] := by
  refine r_iload_n (i := 1) hX e_X11_hour_10 rfl rfl ?_
  refine r_aload_n (i := 0) hX e_X11_hour_11 rfl rfl ?_
  obtain ⟨g1, hf⟩ := gd_s hf
  obtain ⟨r2, hr2, hf⟩ := bd_s hf
  refine r_getR hX hn e_X11_hour_12 fl_11_34 rfl g1 hr2 ?_
  refine r_iconst hX e_X11_hour_15 ic_1 ?_
  obtain ⟨g3, hf⟩ := gd_s hf
  refine r_iald hX hn e_X11_hour_16 g3 ?_
  refine r_icmp_ge hX e_X11_hour_17 (fun hc => ?_) (fun hc => ?_)
  · have hf := ite_t hf hc
    exact r_ret hX hR e_X11_hour_239 hf
  · have hf := ite_f hf hc
    refine r_iconst hX e_X11_hour_20 ic_0 ?_
    refine r_istore_n (i := 2) hX e_X11_hour_21 rfl (Nat.le_of_ble_eq_true rfl) rfl ?_
    exact GoN.weak (t_X11_hour_22 hX hn hR hk10 FU M (x0) (x1) (0) hf) rfl (sb_s (sb_s (sb_s (sb_n (sb_n (sb_z _))))))
theorem t_X11_hour_10 {X : Cx} {res : Mem}  (hX : OkX X cX11_hour RX11 3 72) (hn : Fit X shR nR) (hR : RetV X shR nR res)  : ∀ (n : Nat) (M : Mem) (x0 : Nat) (x1 : Int32),  f_X11_hour_10  n M x0 x1 = some res → GoN X shR nR 0 0 M 10 [some (.ref (X.B + x0)), some (.int (x1)), none, none, none] [] := by
  intro n
  induction n with
  | zero => intro M x0 x1 hf; cases hf
  | succ n ih => intro M x0 x1 hf; exact t_s_X11_hour_10 hX hn hR  ih M x0 x1 hf
theorem t_X11_hour {l : Launch} {M : Mem} {a0 : Nat} {res : Mem} (hf : f_X11_hour M a0 = some res) : Cv l yX11_hour cX11_hour 5 none 3 72 shR nR (fun K B => [.ref (B + a0)]) M res := by
  refine met_v (own := RX11) (lo := fun K B => [some (.ref (B + a0)), none, none, none, none]) (by decide +kernel) rfl shR_ok (fun _ _ => rfl) (fun _ _ => rfl) (fun _ _ => Nat.le_of_ble_eq_true rfl) (fun X hX hn hlx hR => ?_)
  refine r_aload_n (i := 0) hX e_X11_hour_0 rfl rfl ?_
  obtain ⟨g1, hf⟩ := gd_s hf
  obtain ⟨u2, hu2, hf⟩ := bd_s hf
  refine r_cvv (As := fun K B => []) hX hn (t_X11_laysTurns hu2) e_X11_hour_1 cw_X11_laysTurns cv_X11_laysTurns lk_11_350 ⟨Nat.le_of_ble_eq_true rfl, Nat.le_of_ble_eq_true rfl⟩ (ci := 11) rfl rfl (Nat.le_of_ble_eq_true rfl) g1 rfl rfl (Nat.le_of_ble_eq_true rfl) ⟨Nat.zero_le _, Nat.zero_le _⟩ ?_
  refine r_aload_n (i := 0) hX e_X11_hour_4 rfl rfl ?_
  obtain ⟨u3, hu3, hf⟩ := bd_s hf
  refine r_cvv (As := fun K B => []) hX hn (t_X11_begin hu3) e_X11_hour_5 cw_X11_begin cv_X11_begin lk_11_387 ⟨Nat.le_of_ble_eq_true rfl, Nat.le_of_ble_eq_true rfl⟩ (ci := 11) rfl rfl (Nat.le_of_ble_eq_true rfl) g1 rfl rfl (Nat.le_of_ble_eq_true rfl) ⟨Nat.zero_le _, Nat.zero_le _⟩ ?_
  refine r_iconst hX e_X11_hour_8 ic_0 ?_
  refine r_istore_n (i := 1) hX e_X11_hour_9 rfl (Nat.le_of_ble_eq_true rfl) rfl ?_
  exact GoN.weak (t_X11_hour_10 hX hn hR FU u3 (a0) (0) hf) rfl (sb_s (sb_s (sb_n (sb_n (sb_n (sb_z _))))))
def f_X11_plainHour (M : Mem) (a0 : Nat) : Option (Mem) :=
  gd (oB shR a0 11) <| bd (f_X11_plainly M a0) fun u2 => bd (f_X11_hour u2 a0) fun u3 => some u3
theorem t_X11_plainHour {l : Launch} {M : Mem} {a0 : Nat} {res : Mem} (hf : f_X11_plainHour M a0 = some res) : Cv l yX11_plainHour cX11_plainHour 1 none 4 96 shR nR (fun K B => [.ref (B + a0)]) M res := by
  refine met_v (own := RX11) (lo := fun K B => [some (.ref (B + a0))]) (by decide +kernel) rfl shR_ok (fun _ _ => rfl) (fun _ _ => rfl) (fun _ _ => Nat.le_of_ble_eq_true rfl) (fun X hX hn hlx hR => ?_)
  refine r_aload_n (i := 0) hX e_X11_plainHour_0 rfl rfl ?_
  obtain ⟨g1, hf⟩ := gd_s hf
  obtain ⟨u2, hu2, hf⟩ := bd_s hf
  refine r_cvv (As := fun K B => []) hX hn (t_X11_plainly hu2) e_X11_plainHour_1 cw_X11_plainly cv_X11_plainly lk_11_347 ⟨Nat.le_of_ble_eq_true rfl, Nat.le_of_ble_eq_true rfl⟩ (ci := 11) rfl rfl (Nat.le_of_ble_eq_true rfl) g1 rfl rfl (Nat.le_of_ble_eq_true rfl) ⟨Nat.zero_le _, Nat.zero_le _⟩ ?_
  refine r_aload_n (i := 0) hX e_X11_plainHour_4 rfl rfl ?_
  obtain ⟨u3, hu3, hf⟩ := bd_s hf
  refine r_cvv (As := fun K B => []) hX hn (t_X11_hour hu3) e_X11_plainHour_5 cw_X11_hour cv_X11_hour lk_11_397 ⟨Nat.le_of_ble_eq_true rfl, Nat.le_of_ble_eq_true rfl⟩ (ci := 11) rfl rfl (Nat.le_of_ble_eq_true rfl) g1 rfl rfl (Nat.le_of_ble_eq_true rfl) ⟨Nat.zero_le _, Nat.zero_le _⟩ ?_
  exact r_ret hX hR e_X11_plainHour_8 hf
def f_X11_asks_ (M : Mem) (a0 : Nat) (a1 : Int32) (a2 : Int32) : Option (Mem × Int32) :=
  gd (oB shR a0 11) <| nx (sI M a0 0 0) fun M2 => bd (f_X11_isStall M2 a0 a1) fun v3 => if v3 = 0 then some (M2, (-2)) else bd (f_X11_isMinute M2 a0 a2) fun v4 => if v4 = 0 then some (M2, (-2)) else bd (f_X11_plainHour M2 a0) fun u5 => bd (gR u5 a0 42) fun r6 => gd (aB shR r6 0 ((60 * a1) + a2)) <| nx ((gI u5 r6 (((60 * a1) + a2) : Int32).toNatClampNeg)) fun v8 => some (u5, v8)
theorem t_X11_asks_ {l : Launch} {M : Mem} {a0 : Nat} {a1 a2 : Int32} {res : Mem × Int32} (hf : f_X11_asks_ M a0 a1 a2 = some res) : Ci l yX11_asks_ cX11_asks_ 3 (some .int) 5 116 shR nR (fun K B => [.ref (B + a0), .int a1, .int a2]) M res := by
  refine met_i (own := RX11) (lo := fun K B => [some (.ref (B + a0)), some (.int a1), some (.int a2)]) (by decide +kernel) rfl shR_ok (fun _ _ => rfl) (fun _ _ => rfl) (fun _ _ => Nat.le_of_ble_eq_true rfl) (fun X hX hn hlx hR => ?_)
  refine r_aload_n (i := 0) hX e_X11_asks__0 rfl rfl ?_
  refine r_iconst hX e_X11_asks__1 ic_0 ?_
  obtain ⟨g1, hf⟩ := gd_s hf
  obtain ⟨M2, hM2, hf⟩ := nx_s hf
  refine r_putI hX hn hM2 e_X11_asks__2 fl_11_122 fp_11_0 rfl g1 ?_
  refine r_aload_n (i := 0) hX e_X11_asks__5 rfl rfl ?_
  refine r_iload_n (i := 1) hX e_X11_asks__6 rfl rfl ?_
  obtain ⟨v3, hv3, hf⟩ := bd_s hf
  refine r_cvi (As := fun K B => [.int (a1)]) hX hn (t_X11_isStall hv3) e_X11_asks__7 cw_X11_isStall cv_X11_isStall lk_11_305 ⟨Nat.le_of_ble_eq_true rfl, Nat.le_of_ble_eq_true rfl⟩ (ci := 11) rfl rfl (Nat.le_of_ble_eq_true rfl) g1 rfl rfl (Nat.le_of_ble_eq_true rfl) ⟨Nat.zero_le _, Nat.zero_le _⟩ ?_
  refine r_if_eq hX e_X11_asks__10 (fun hc => ?_) (fun hc => ?_)
  · have hf := ite_t hf hc
    refine r_bipush hX e_X11_asks__21 bc_m2 ?_
    exact r_iret hX hR e_X11_asks__23 hf
  · have hf := ite_f hf hc
    refine r_aload_n (i := 0) hX e_X11_asks__13 rfl rfl ?_
    refine r_iload_n (i := 2) hX e_X11_asks__14 rfl rfl ?_
    obtain ⟨v4, hv4, hf⟩ := bd_s hf
    refine r_cvi (As := fun K B => [.int (a2)]) hX hn (t_X11_isMinute hv4) e_X11_asks__15 cw_X11_isMinute cv_X11_isMinute lk_11_353 ⟨Nat.le_of_ble_eq_true rfl, Nat.le_of_ble_eq_true rfl⟩ (ci := 11) rfl rfl (Nat.le_of_ble_eq_true rfl) g1 rfl rfl (Nat.le_of_ble_eq_true rfl) ⟨Nat.zero_le _, Nat.zero_le _⟩ ?_
    refine r_if_ne hX e_X11_asks__18 (fun hc => ?_) (fun hc => ?_)
    · have hf := ite_f hf hc
      refine r_aload_n (i := 0) hX e_X11_asks__24 rfl rfl ?_
      obtain ⟨u5, hu5, hf⟩ := bd_s hf
      refine r_cvv (As := fun K B => []) hX hn (t_X11_plainHour hu5) e_X11_asks__25 cw_X11_plainHour cv_X11_plainHour lk_11_400 ⟨Nat.le_of_ble_eq_true rfl, Nat.le_of_ble_eq_true rfl⟩ (ci := 11) rfl rfl (Nat.le_of_ble_eq_true rfl) g1 rfl rfl (Nat.le_of_ble_eq_true rfl) ⟨Nat.zero_le _, Nat.zero_le _⟩ ?_
      refine r_aload_n (i := 0) hX e_X11_asks__28 rfl rfl ?_
      obtain ⟨r6, hr6, hf⟩ := bd_s hf
      refine r_getR hX hn e_X11_asks__29 fl_11_98 rfl g1 hr6 ?_
      refine r_bipush hX e_X11_asks__32 bc_60 ?_
      refine r_iload_n (i := 1) hX e_X11_asks__34 rfl rfl ?_
      refine r_imul hX e_X11_asks__35 ?_
      refine r_iload_n (i := 2) hX e_X11_asks__36 rfl rfl ?_
      refine r_iadd hX e_X11_asks__37 ?_
      obtain ⟨g7, hf⟩ := gd_s hf
      refine r_iald hX hn e_X11_asks__38 g7 ?_
      obtain ⟨v8, hv8, hf⟩ := nx_s hf
      refine top_i hv8 ?_
      exact r_iret hX hR e_X11_asks__39 hf
    · have hf := ite_t hf hc
      refine r_bipush hX e_X11_asks__21 bc_m2 ?_
      exact r_iret hX hR e_X11_asks__23 hf
def f_X11_has (M : Mem) (a0 : Nat) (a1 : Int32) (a2 : Int32) : Option (Mem × Int32) :=
  gd (oB shR a0 11) <| nx (sI M a0 0 0) fun M2 => bd (f_X11_isStall M2 a0 a1) fun v3 => if v3 = 0 then some (M2, (-2)) else bd (f_X11_isMinute M2 a0 a2) fun v4 => if v4 = 0 then some (M2, (-2)) else bd (f_X11_plainHour M2 a0) fun u5 => bd (gR u5 a0 43) fun r6 => gd (aB shR r6 0 ((60 * a1) + a2)) <| nx ((gI u5 r6 (((60 * a1) + a2) : Int32).toNatClampNeg)) fun v8 => some (u5, v8)
theorem t_X11_has {l : Launch} {M : Mem} {a0 : Nat} {a1 a2 : Int32} {res : Mem × Int32} (hf : f_X11_has M a0 a1 a2 = some res) : Ci l yX11_has cX11_has 3 (some .int) 5 116 shR nR (fun K B => [.ref (B + a0), .int a1, .int a2]) M res := by
  refine met_i (own := RX11) (lo := fun K B => [some (.ref (B + a0)), some (.int a1), some (.int a2)]) (by decide +kernel) rfl shR_ok (fun _ _ => rfl) (fun _ _ => rfl) (fun _ _ => Nat.le_of_ble_eq_true rfl) (fun X hX hn hlx hR => ?_)
  refine r_aload_n (i := 0) hX e_X11_has_0 rfl rfl ?_
  refine r_iconst hX e_X11_has_1 ic_0 ?_
  obtain ⟨g1, hf⟩ := gd_s hf
  obtain ⟨M2, hM2, hf⟩ := nx_s hf
  refine r_putI hX hn hM2 e_X11_has_2 fl_11_122 fp_11_0 rfl g1 ?_
  refine r_aload_n (i := 0) hX e_X11_has_5 rfl rfl ?_
  refine r_iload_n (i := 1) hX e_X11_has_6 rfl rfl ?_
  obtain ⟨v3, hv3, hf⟩ := bd_s hf
  refine r_cvi (As := fun K B => [.int (a1)]) hX hn (t_X11_isStall hv3) e_X11_has_7 cw_X11_isStall cv_X11_isStall lk_11_305 ⟨Nat.le_of_ble_eq_true rfl, Nat.le_of_ble_eq_true rfl⟩ (ci := 11) rfl rfl (Nat.le_of_ble_eq_true rfl) g1 rfl rfl (Nat.le_of_ble_eq_true rfl) ⟨Nat.zero_le _, Nat.zero_le _⟩ ?_
  refine r_if_eq hX e_X11_has_10 (fun hc => ?_) (fun hc => ?_)
  · have hf := ite_t hf hc
    refine r_bipush hX e_X11_has_21 bc_m2 ?_
    exact r_iret hX hR e_X11_has_23 hf
  · have hf := ite_f hf hc
    refine r_aload_n (i := 0) hX e_X11_has_13 rfl rfl ?_
    refine r_iload_n (i := 2) hX e_X11_has_14 rfl rfl ?_
    obtain ⟨v4, hv4, hf⟩ := bd_s hf
    refine r_cvi (As := fun K B => [.int (a2)]) hX hn (t_X11_isMinute hv4) e_X11_has_15 cw_X11_isMinute cv_X11_isMinute lk_11_353 ⟨Nat.le_of_ble_eq_true rfl, Nat.le_of_ble_eq_true rfl⟩ (ci := 11) rfl rfl (Nat.le_of_ble_eq_true rfl) g1 rfl rfl (Nat.le_of_ble_eq_true rfl) ⟨Nat.zero_le _, Nat.zero_le _⟩ ?_
    refine r_if_ne hX e_X11_has_18 (fun hc => ?_) (fun hc => ?_)
    · have hf := ite_f hf hc
      refine r_aload_n (i := 0) hX e_X11_has_24 rfl rfl ?_
      obtain ⟨u5, hu5, hf⟩ := bd_s hf
      refine r_cvv (As := fun K B => []) hX hn (t_X11_plainHour hu5) e_X11_has_25 cw_X11_plainHour cv_X11_plainHour lk_11_400 ⟨Nat.le_of_ble_eq_true rfl, Nat.le_of_ble_eq_true rfl⟩ (ci := 11) rfl rfl (Nat.le_of_ble_eq_true rfl) g1 rfl rfl (Nat.le_of_ble_eq_true rfl) ⟨Nat.zero_le _, Nat.zero_le _⟩ ?_
      refine r_aload_n (i := 0) hX e_X11_has_28 rfl rfl ?_
      obtain ⟨r6, hr6, hf⟩ := bd_s hf
      refine r_getR hX hn e_X11_has_29 fl_11_101 rfl g1 hr6 ?_
      refine r_bipush hX e_X11_has_32 bc_60 ?_
      refine r_iload_n (i := 1) hX e_X11_has_34 rfl rfl ?_
      refine r_imul hX e_X11_has_35 ?_
      refine r_iload_n (i := 2) hX e_X11_has_36 rfl rfl ?_
      refine r_iadd hX e_X11_has_37 ?_
      obtain ⟨g7, hf⟩ := gd_s hf
      refine r_iald hX hn e_X11_has_38 g7 ?_
      obtain ⟨v8, hv8, hf⟩ := nx_s hf
      refine top_i hv8 ?_
      exact r_iret hX hR e_X11_has_39 hf
    · have hf := ite_t hf hc
      refine r_bipush hX e_X11_has_21 bc_m2 ?_
      exact r_iret hX hR e_X11_has_23 hf
def f_X11_sold (M : Mem) (a0 : Nat) (a1 : Int32) (a2 : Int32) : Option (Mem × Int32) :=
  gd (oB shR a0 11) <| nx (sI M a0 0 0) fun M2 => bd (f_X11_isStall M2 a0 a1) fun v3 => if v3 = 0 then some (M2, (-2)) else bd (f_X11_in M2 ((a2 : Int32).toInt64) 0 2) fun v4 => if v4 = 0 then some (M2, (-2)) else bd (f_X11_plainHour M2 a0) fun u5 => if a2 = 0 then bd (gR u5 a0 33) fun r10 => gd (aB shR r10 0 a1) <| some (u5, (gI u5 r10 (a1 : Int32).toNatClampNeg)) else if a2 = 1 then bd (gR u5 a0 32) fun r8 => gd (aB shR r8 0 a1) <| some (u5, (gI u5 r8 (a1 : Int32).toNatClampNeg)) else bd (gR u5 a0 34) fun r6 => gd (aB shR r6 0 a1) <| some (u5, (gI u5 r6 (a1 : Int32).toNatClampNeg))
theorem t_X11_sold {l : Launch} {M : Mem} {a0 : Nat} {a1 a2 : Int32} {res : Mem × Int32} (hf : f_X11_sold M a0 a1 a2 = some res) : Ci l yX11_sold cX11_sold 3 (some .int) 5 116 shR nR (fun K B => [.ref (B + a0), .int a1, .int a2]) M res := by
  refine met_i (own := RX11) (lo := fun K B => [some (.ref (B + a0)), some (.int a1), some (.int a2)]) (by decide +kernel) rfl shR_ok (fun _ _ => rfl) (fun _ _ => rfl) (fun _ _ => Nat.le_of_ble_eq_true rfl) (fun X hX hn hlx hR => ?_)
  refine r_aload_n (i := 0) hX e_X11_sold_0 rfl rfl ?_
  refine r_iconst hX e_X11_sold_1 ic_0 ?_
  obtain ⟨g1, hf⟩ := gd_s hf
  obtain ⟨M2, hM2, hf⟩ := nx_s hf
  refine r_putI hX hn hM2 e_X11_sold_2 fl_11_122 fp_11_0 rfl g1 ?_
  refine r_aload_n (i := 0) hX e_X11_sold_5 rfl rfl ?_
  refine r_iload_n (i := 1) hX e_X11_sold_6 rfl rfl ?_
  obtain ⟨v3, hv3, hf⟩ := bd_s hf
  refine r_cvi (As := fun K B => [.int (a1)]) hX hn (t_X11_isStall hv3) e_X11_sold_7 cw_X11_isStall cv_X11_isStall lk_11_305 ⟨Nat.le_of_ble_eq_true rfl, Nat.le_of_ble_eq_true rfl⟩ (ci := 11) rfl rfl (Nat.le_of_ble_eq_true rfl) g1 rfl rfl (Nat.le_of_ble_eq_true rfl) ⟨Nat.zero_le _, Nat.zero_le _⟩ ?_
  refine r_if_eq hX e_X11_sold_10 (fun hc => ?_) (fun hc => ?_)
  · have hf := ite_t hf hc
    refine r_bipush hX e_X11_sold_25 bc_m2 ?_
    exact r_iret hX hR e_X11_sold_27 hf
  · have hf := ite_f hf hc
    refine r_iload_n (i := 2) hX e_X11_sold_13 rfl rfl ?_
    refine r_i2l hX e_X11_sold_14 ?_
    refine r_lconst hX e_X11_sold_15 lc_0 ?_
    refine r_ldc2 hX e_X11_sold_16 wk_1471 ?_
    obtain ⟨v4, hv4, hf⟩ := bd_s hf
    refine r_csi (As := fun K B => [.long ((a2 : Int32).toInt64), .long (0), .long (2)]) hX hn (t_X11_in hv4) e_X11_sold_19 cw_X11_in cv_X11_in lk_11_127 ⟨Nat.le_of_ble_eq_true rfl, Nat.le_of_ble_eq_true rfl⟩ rfl rfl (Nat.le_of_ble_eq_true rfl) ⟨Nat.zero_le _, Nat.zero_le _⟩ ?_
    refine r_if_ne hX e_X11_sold_22 (fun hc => ?_) (fun hc => ?_)
    · have hf := ite_f hf hc
      refine r_aload_n (i := 0) hX e_X11_sold_28 rfl rfl ?_
      obtain ⟨u5, hu5, hf⟩ := bd_s hf
      refine r_cvv (As := fun K B => []) hX hn (t_X11_plainHour hu5) e_X11_sold_29 cw_X11_plainHour cv_X11_plainHour lk_11_400 ⟨Nat.le_of_ble_eq_true rfl, Nat.le_of_ble_eq_true rfl⟩ (ci := 11) rfl rfl (Nat.le_of_ble_eq_true rfl) g1 rfl rfl (Nat.le_of_ble_eq_true rfl) ⟨Nat.zero_le _, Nat.zero_le _⟩ ?_
      refine r_iload_n (i := 2) hX e_X11_sold_32 rfl rfl ?_
      refine r_if_ne hX e_X11_sold_33 (fun hc => ?_) (fun hc => ?_)
      · have hf := ite_f hf hc
        refine r_iload_n (i := 2) hX e_X11_sold_45 rfl rfl ?_
        refine r_iconst hX e_X11_sold_46 ic_1 ?_
        refine r_icmp_ne hX e_X11_sold_47 (fun hc => ?_) (fun hc => ?_)
        · have hf := ite_f hf hc
          refine r_aload_n (i := 0) hX e_X11_sold_59 rfl rfl ?_
          obtain ⟨r6, hr6, hf⟩ := bd_s hf
          refine r_getR hX hn e_X11_sold_60 fl_11_74 rfl g1 hr6 ?_
          refine r_iload_n (i := 1) hX e_X11_sold_63 rfl rfl ?_
          obtain ⟨g7, hf⟩ := gd_s hf
          refine r_iald hX hn e_X11_sold_64 g7 ?_
          exact r_iret hX hR e_X11_sold_65 hf
        · have hf := ite_t hf hc
          refine r_aload_n (i := 0) hX e_X11_sold_50 rfl rfl ?_
          obtain ⟨r8, hr8, hf⟩ := bd_s hf
          refine r_getR hX hn e_X11_sold_51 fl_11_68 rfl g1 hr8 ?_
          refine r_iload_n (i := 1) hX e_X11_sold_54 rfl rfl ?_
          obtain ⟨g9, hf⟩ := gd_s hf
          refine r_iald hX hn e_X11_sold_55 g9 ?_
          refine r_goto hX e_X11_sold_56 ?_
          exact r_iret hX hR e_X11_sold_65 hf
      · have hf := ite_t hf hc
        refine r_aload_n (i := 0) hX e_X11_sold_36 rfl rfl ?_
        obtain ⟨r10, hr10, hf⟩ := bd_s hf
        refine r_getR hX hn e_X11_sold_37 fl_11_71 rfl g1 hr10 ?_
        refine r_iload_n (i := 1) hX e_X11_sold_40 rfl rfl ?_
        obtain ⟨g11, hf⟩ := gd_s hf
        refine r_iald hX hn e_X11_sold_41 g11 ?_
        refine r_goto hX e_X11_sold_42 ?_
        exact r_iret hX hR e_X11_sold_65 hf
    · have hf := ite_t hf hc
      refine r_bipush hX e_X11_sold_25 bc_m2 ?_
      exact r_iret hX hR e_X11_sold_27 hf
def f_X11_bought (M : Mem) (a0 : Nat) (a1 : Int32) (a2 : Int32) : Option (Mem × Int32) :=
  gd (oB shR a0 11) <| nx (sI M a0 0 0) fun M2 => bd (f_X11_isBuyer M2 a0 a1) fun v3 => if v3 = 0 then some (M2, (-2)) else bd (f_X11_in M2 ((a2 : Int32).toInt64) 0 3) fun v4 => if v4 = 0 then some (M2, (-2)) else bd (f_X11_plainHour M2 a0) fun u5 => if a2 = 0 then bd (gR u5 a0 38) fun r14 => gd (aB shR r14 0 a1) <| some (u5, (gI u5 r14 (a1 : Int32).toNatClampNeg)) else if a2 = 1 then bd (gR u5 a0 20) fun r9 => gd (aB shR r9 0 ((4 * a1) + 1)) <| nx ((gI u5 r9 (((4 * a1) + 1) : Int32).toNatClampNeg)) fun v11 => bd (gR u5 a0 37) fun r12 => gd (aB shR r12 0 a1) <| some (u5, (v11 - (gI u5 r12 (a1 : Int32).toNatClampNeg))) else if a2 = 2 then bd (f_X11_lackOf u5 a0 a1) fun v8 => some (u5, v8) else bd (gR u5 a0 39) fun r6 => gd (aB shR r6 0 a1) <| some (u5, (gI u5 r6 (a1 : Int32).toNatClampNeg))
theorem t_X11_bought {l : Launch} {M : Mem} {a0 : Nat} {a1 a2 : Int32} {res : Mem × Int32} (hf : f_X11_bought M a0 a1 a2 = some res) : Ci l yX11_bought cX11_bought 3 (some .int) 5 116 shR nR (fun K B => [.ref (B + a0), .int a1, .int a2]) M res := by
  refine met_i (own := RX11) (lo := fun K B => [some (.ref (B + a0)), some (.int a1), some (.int a2)]) (by decide +kernel) rfl shR_ok (fun _ _ => rfl) (fun _ _ => rfl) (fun _ _ => Nat.le_of_ble_eq_true rfl) (fun X hX hn hlx hR => ?_)
  refine r_aload_n (i := 0) hX e_X11_bought_0 rfl rfl ?_
  refine r_iconst hX e_X11_bought_1 ic_0 ?_
  obtain ⟨g1, hf⟩ := gd_s hf
  obtain ⟨M2, hM2, hf⟩ := nx_s hf
  refine r_putI hX hn hM2 e_X11_bought_2 fl_11_122 fp_11_0 rfl g1 ?_
  refine r_aload_n (i := 0) hX e_X11_bought_5 rfl rfl ?_
  refine r_iload_n (i := 1) hX e_X11_bought_6 rfl rfl ?_
  obtain ⟨v3, hv3, hf⟩ := bd_s hf
  refine r_cvi (As := fun K B => [.int (a1)]) hX hn (t_X11_isBuyer hv3) e_X11_bought_7 cw_X11_isBuyer cv_X11_isBuyer lk_11_313 ⟨Nat.le_of_ble_eq_true rfl, Nat.le_of_ble_eq_true rfl⟩ (ci := 11) rfl rfl (Nat.le_of_ble_eq_true rfl) g1 rfl rfl (Nat.le_of_ble_eq_true rfl) ⟨Nat.zero_le _, Nat.zero_le _⟩ ?_
  refine r_if_eq hX e_X11_bought_10 (fun hc => ?_) (fun hc => ?_)
  · have hf := ite_t hf hc
    refine r_bipush hX e_X11_bought_25 bc_m2 ?_
    exact r_iret hX hR e_X11_bought_27 hf
  · have hf := ite_f hf hc
    refine r_iload_n (i := 2) hX e_X11_bought_13 rfl rfl ?_
    refine r_i2l hX e_X11_bought_14 ?_
    refine r_lconst hX e_X11_bought_15 lc_0 ?_
    refine r_ldc2 hX e_X11_bought_16 wk_1293 ?_
    obtain ⟨v4, hv4, hf⟩ := bd_s hf
    refine r_csi (As := fun K B => [.long ((a2 : Int32).toInt64), .long (0), .long (3)]) hX hn (t_X11_in hv4) e_X11_bought_19 cw_X11_in cv_X11_in lk_11_127 ⟨Nat.le_of_ble_eq_true rfl, Nat.le_of_ble_eq_true rfl⟩ rfl rfl (Nat.le_of_ble_eq_true rfl) ⟨Nat.zero_le _, Nat.zero_le _⟩ ?_
    refine r_if_ne hX e_X11_bought_22 (fun hc => ?_) (fun hc => ?_)
    · have hf := ite_f hf hc
      refine r_aload_n (i := 0) hX e_X11_bought_28 rfl rfl ?_
      obtain ⟨u5, hu5, hf⟩ := bd_s hf
      refine r_cvv (As := fun K B => []) hX hn (t_X11_plainHour hu5) e_X11_bought_29 cw_X11_plainHour cv_X11_plainHour lk_11_400 ⟨Nat.le_of_ble_eq_true rfl, Nat.le_of_ble_eq_true rfl⟩ (ci := 11) rfl rfl (Nat.le_of_ble_eq_true rfl) g1 rfl rfl (Nat.le_of_ble_eq_true rfl) ⟨Nat.zero_le _, Nat.zero_le _⟩ ?_
      refine r_iload_n (i := 2) hX e_X11_bought_32 rfl rfl ?_
      refine r_if_ne hX e_X11_bought_33 (fun hc => ?_) (fun hc => ?_)
      · have hf := ite_f hf hc
        refine r_iload_n (i := 2) hX e_X11_bought_45 rfl rfl ?_
        refine r_iconst hX e_X11_bought_46 ic_1 ?_
        refine r_icmp_ne hX e_X11_bought_47 (fun hc => ?_) (fun hc => ?_)
        · have hf := ite_f hf hc
          refine r_iload_n (i := 2) hX e_X11_bought_70 rfl rfl ?_
          refine r_iconst hX e_X11_bought_71 ic_2 ?_
          refine r_icmp_ne hX e_X11_bought_72 (fun hc => ?_) (fun hc => ?_)
          · have hf := ite_f hf hc
            refine r_aload_n (i := 0) hX e_X11_bought_83 rfl rfl ?_
            obtain ⟨r6, hr6, hf⟩ := bd_s hf
            refine r_getR hX hn e_X11_bought_84 fl_11_89 rfl g1 hr6 ?_
            refine r_iload_n (i := 1) hX e_X11_bought_87 rfl rfl ?_
            obtain ⟨g7, hf⟩ := gd_s hf
            refine r_iald hX hn e_X11_bought_88 g7 ?_
            exact r_iret hX hR e_X11_bought_89 hf
          · have hf := ite_t hf hc
            refine r_aload_n (i := 0) hX e_X11_bought_75 rfl rfl ?_
            refine r_iload_n (i := 1) hX e_X11_bought_76 rfl rfl ?_
            obtain ⟨v8, hv8, hf⟩ := bd_s hf
            refine r_cvi (As := fun K B => [.int (a1)]) hX hn (t_X11_lackOf hv8) e_X11_bought_77 cw_X11_lackOf cv_X11_lackOf lk_11_368 ⟨Nat.le_of_ble_eq_true rfl, Nat.le_of_ble_eq_true rfl⟩ (ci := 11) rfl rfl (Nat.le_of_ble_eq_true rfl) g1 rfl rfl (Nat.le_of_ble_eq_true rfl) ⟨Nat.zero_le _, Nat.zero_le _⟩ ?_
            refine r_goto hX e_X11_bought_80 ?_
            exact r_iret hX hR e_X11_bought_89 hf
        · have hf := ite_t hf hc
          refine r_aload_n (i := 0) hX e_X11_bought_50 rfl rfl ?_
          obtain ⟨r9, hr9, hf⟩ := bd_s hf
          refine r_getR hX hn e_X11_bought_51 fl_11_43 rfl g1 hr9 ?_
          refine r_iconst hX e_X11_bought_54 ic_4 ?_
          refine r_iload_n (i := 1) hX e_X11_bought_55 rfl rfl ?_
          refine r_imul hX e_X11_bought_56 ?_
          refine r_iconst hX e_X11_bought_57 ic_1 ?_
          refine r_iadd hX e_X11_bought_58 ?_
          obtain ⟨g10, hf⟩ := gd_s hf
          refine r_iald hX hn e_X11_bought_59 g10 ?_
          obtain ⟨v11, hv11, hf⟩ := nx_s hf
          refine top_i hv11 ?_
          refine r_aload_n (i := 0) hX e_X11_bought_60 rfl rfl ?_
          obtain ⟨r12, hr12, hf⟩ := bd_s hf
          refine r_getR hX hn e_X11_bought_61 fl_11_83 rfl g1 hr12 ?_
          refine r_iload_n (i := 1) hX e_X11_bought_64 rfl rfl ?_
          obtain ⟨g13, hf⟩ := gd_s hf
          refine r_iald hX hn e_X11_bought_65 g13 ?_
          refine r_isub hX e_X11_bought_66 ?_
          refine r_goto hX e_X11_bought_67 ?_
          exact r_iret hX hR e_X11_bought_89 hf
      · have hf := ite_t hf hc
        refine r_aload_n (i := 0) hX e_X11_bought_36 rfl rfl ?_
        obtain ⟨r14, hr14, hf⟩ := bd_s hf
        refine r_getR hX hn e_X11_bought_37 fl_11_86 rfl g1 hr14 ?_
        refine r_iload_n (i := 1) hX e_X11_bought_40 rfl rfl ?_
        obtain ⟨g15, hf⟩ := gd_s hf
        refine r_iald hX hn e_X11_bought_41 g15 ?_
        refine r_goto hX e_X11_bought_42 ?_
        exact r_iret hX hR e_X11_bought_89 hf
    · have hf := ite_t hf hc
      refine r_bipush hX e_X11_bought_25 bc_m2 ?_
      exact r_iret hX hR e_X11_bought_27 hf
def f_X11_coins (M : Mem) (a0 : Nat) (a1 : Int32) (a2 : Int32) : Option (Mem × Int32) :=
  gd (oB shR a0 11) <| nx (sI M a0 0 0) fun M2 => bd (f_X11_isBuyer M2 a0 a1) fun v3 => if v3 = 0 then some (M2, (-2)) else bd (f_X11_isMinute M2 a0 a2) fun v4 => if v4 = 0 then some (M2, (-2)) else bd (f_X11_plainHour M2 a0) fun u5 => bd (gR u5 a0 44) fun r6 => gd (aB shR r6 0 ((60 * a1) + a2)) <| nx ((gI u5 r6 (((60 * a1) + a2) : Int32).toNatClampNeg)) fun v8 => some (u5, v8)
theorem t_X11_coins {l : Launch} {M : Mem} {a0 : Nat} {a1 a2 : Int32} {res : Mem × Int32} (hf : f_X11_coins M a0 a1 a2 = some res) : Ci l yX11_coins cX11_coins 3 (some .int) 5 116 shR nR (fun K B => [.ref (B + a0), .int a1, .int a2]) M res := by
  refine met_i (own := RX11) (lo := fun K B => [some (.ref (B + a0)), some (.int a1), some (.int a2)]) (by decide +kernel) rfl shR_ok (fun _ _ => rfl) (fun _ _ => rfl) (fun _ _ => Nat.le_of_ble_eq_true rfl) (fun X hX hn hlx hR => ?_)
  refine r_aload_n (i := 0) hX e_X11_coins_0 rfl rfl ?_
  refine r_iconst hX e_X11_coins_1 ic_0 ?_
  obtain ⟨g1, hf⟩ := gd_s hf
  obtain ⟨M2, hM2, hf⟩ := nx_s hf
  refine r_putI hX hn hM2 e_X11_coins_2 fl_11_122 fp_11_0 rfl g1 ?_
  refine r_aload_n (i := 0) hX e_X11_coins_5 rfl rfl ?_
  refine r_iload_n (i := 1) hX e_X11_coins_6 rfl rfl ?_
  obtain ⟨v3, hv3, hf⟩ := bd_s hf
  refine r_cvi (As := fun K B => [.int (a1)]) hX hn (t_X11_isBuyer hv3) e_X11_coins_7 cw_X11_isBuyer cv_X11_isBuyer lk_11_313 ⟨Nat.le_of_ble_eq_true rfl, Nat.le_of_ble_eq_true rfl⟩ (ci := 11) rfl rfl (Nat.le_of_ble_eq_true rfl) g1 rfl rfl (Nat.le_of_ble_eq_true rfl) ⟨Nat.zero_le _, Nat.zero_le _⟩ ?_
  refine r_if_eq hX e_X11_coins_10 (fun hc => ?_) (fun hc => ?_)
  · have hf := ite_t hf hc
    refine r_bipush hX e_X11_coins_21 bc_m2 ?_
    exact r_iret hX hR e_X11_coins_23 hf
  · have hf := ite_f hf hc
    refine r_aload_n (i := 0) hX e_X11_coins_13 rfl rfl ?_
    refine r_iload_n (i := 2) hX e_X11_coins_14 rfl rfl ?_
    obtain ⟨v4, hv4, hf⟩ := bd_s hf
    refine r_cvi (As := fun K B => [.int (a2)]) hX hn (t_X11_isMinute hv4) e_X11_coins_15 cw_X11_isMinute cv_X11_isMinute lk_11_353 ⟨Nat.le_of_ble_eq_true rfl, Nat.le_of_ble_eq_true rfl⟩ (ci := 11) rfl rfl (Nat.le_of_ble_eq_true rfl) g1 rfl rfl (Nat.le_of_ble_eq_true rfl) ⟨Nat.zero_le _, Nat.zero_le _⟩ ?_
    refine r_if_ne hX e_X11_coins_18 (fun hc => ?_) (fun hc => ?_)
    · have hf := ite_f hf hc
      refine r_aload_n (i := 0) hX e_X11_coins_24 rfl rfl ?_
      obtain ⟨u5, hu5, hf⟩ := bd_s hf
      refine r_cvv (As := fun K B => []) hX hn (t_X11_plainHour hu5) e_X11_coins_25 cw_X11_plainHour cv_X11_plainHour lk_11_400 ⟨Nat.le_of_ble_eq_true rfl, Nat.le_of_ble_eq_true rfl⟩ (ci := 11) rfl rfl (Nat.le_of_ble_eq_true rfl) g1 rfl rfl (Nat.le_of_ble_eq_true rfl) ⟨Nat.zero_le _, Nat.zero_le _⟩ ?_
      refine r_aload_n (i := 0) hX e_X11_coins_28 rfl rfl ?_
      obtain ⟨r6, hr6, hf⟩ := bd_s hf
      refine r_getR hX hn e_X11_coins_29 fl_11_104 rfl g1 hr6 ?_
      refine r_bipush hX e_X11_coins_32 bc_60 ?_
      refine r_iload_n (i := 1) hX e_X11_coins_34 rfl rfl ?_
      refine r_imul hX e_X11_coins_35 ?_
      refine r_iload_n (i := 2) hX e_X11_coins_36 rfl rfl ?_
      refine r_iadd hX e_X11_coins_37 ?_
      obtain ⟨g7, hf⟩ := gd_s hf
      refine r_iald hX hn e_X11_coins_38 g7 ?_
      obtain ⟨v8, hv8, hf⟩ := nx_s hf
      refine top_i hv8 ?_
      exact r_iret hX hR e_X11_coins_39 hf
    · have hf := ite_t hf hc
      refine r_bipush hX e_X11_coins_21 bc_m2 ?_
      exact r_iret hX hR e_X11_coins_23 hf
def f_X11_sale (M : Mem) (a0 : Nat) (a1 : Int32) (a2 : Int32) : Option (Mem × Int32) :=
  gd (oB shR a0 11) <| nx (sI M a0 0 0) fun M2 => bd (f_X11_isMarket M2 a0) fun v3 => if v3 = 0 then some (M2, (-2)) else bd (f_X11_in M2 ((a2 : Int32).toInt64) 0 3) fun v4 => if v4 = 0 then some (M2, (-2)) else bd (f_X11_plainHour M2 a0) fun u5 => bd (f_X11_in u5 ((a1 : Int32).toInt64) 0 ((((gI u5 a0 46) - 1) : Int32).toInt64)) fun v6 => if v6 = 0 then some (u5, (-1)) else bd (gR u5 a0 45) fun r7 => gd (aB shR r7 0 ((4 * a1) + a2)) <| nx ((gI u5 r7 (((4 * a1) + a2) : Int32).toNatClampNeg)) fun v9 => some (u5, v9)
theorem t_X11_sale {l : Launch} {M : Mem} {a0 : Nat} {a1 a2 : Int32} {res : Mem × Int32} (hf : f_X11_sale M a0 a1 a2 = some res) : Ci l yX11_sale cX11_sale 3 (some .int) 5 116 shR nR (fun K B => [.ref (B + a0), .int a1, .int a2]) M res := by
  refine met_i (own := RX11) (lo := fun K B => [some (.ref (B + a0)), some (.int a1), some (.int a2)]) (by decide +kernel) rfl shR_ok (fun _ _ => rfl) (fun _ _ => rfl) (fun _ _ => Nat.le_of_ble_eq_true rfl) (fun X hX hn hlx hR => ?_)
  refine r_aload_n (i := 0) hX e_X11_sale_0 rfl rfl ?_
  refine r_iconst hX e_X11_sale_1 ic_0 ?_
  obtain ⟨g1, hf⟩ := gd_s hf
  obtain ⟨M2, hM2, hf⟩ := nx_s hf
  refine r_putI hX hn hM2 e_X11_sale_2 fl_11_122 fp_11_0 rfl g1 ?_
  refine r_aload_n (i := 0) hX e_X11_sale_5 rfl rfl ?_
  obtain ⟨v3, hv3, hf⟩ := bd_s hf
  refine r_cvi (As := fun K B => []) hX hn (t_X11_isMarket hv3) e_X11_sale_6 cw_X11_isMarket cv_X11_isMarket lk_11_403 ⟨Nat.le_of_ble_eq_true rfl, Nat.le_of_ble_eq_true rfl⟩ (ci := 11) rfl rfl (Nat.le_of_ble_eq_true rfl) g1 rfl rfl (Nat.le_of_ble_eq_true rfl) ⟨Nat.zero_le _, Nat.zero_le _⟩ ?_
  refine r_if_eq hX e_X11_sale_9 (fun hc => ?_) (fun hc => ?_)
  · have hf := ite_t hf hc
    refine r_bipush hX e_X11_sale_24 bc_m2 ?_
    exact r_iret hX hR e_X11_sale_26 hf
  · have hf := ite_f hf hc
    refine r_iload_n (i := 2) hX e_X11_sale_12 rfl rfl ?_
    refine r_i2l hX e_X11_sale_13 ?_
    refine r_lconst hX e_X11_sale_14 lc_0 ?_
    refine r_ldc2 hX e_X11_sale_15 wk_1293 ?_
    obtain ⟨v4, hv4, hf⟩ := bd_s hf
    refine r_csi (As := fun K B => [.long ((a2 : Int32).toInt64), .long (0), .long (3)]) hX hn (t_X11_in hv4) e_X11_sale_18 cw_X11_in cv_X11_in lk_11_127 ⟨Nat.le_of_ble_eq_true rfl, Nat.le_of_ble_eq_true rfl⟩ rfl rfl (Nat.le_of_ble_eq_true rfl) ⟨Nat.zero_le _, Nat.zero_le _⟩ ?_
    refine r_if_ne hX e_X11_sale_21 (fun hc => ?_) (fun hc => ?_)
    · have hf := ite_f hf hc
      refine r_aload_n (i := 0) hX e_X11_sale_27 rfl rfl ?_
      obtain ⟨u5, hu5, hf⟩ := bd_s hf
      refine r_cvv (As := fun K B => []) hX hn (t_X11_plainHour hu5) e_X11_sale_28 cw_X11_plainHour cv_X11_plainHour lk_11_400 ⟨Nat.le_of_ble_eq_true rfl, Nat.le_of_ble_eq_true rfl⟩ (ci := 11) rfl rfl (Nat.le_of_ble_eq_true rfl) g1 rfl rfl (Nat.le_of_ble_eq_true rfl) ⟨Nat.zero_le _, Nat.zero_le _⟩ ?_
      refine r_iload_n (i := 1) hX e_X11_sale_31 rfl rfl ?_
      refine r_i2l hX e_X11_sale_32 ?_
      refine r_lconst hX e_X11_sale_33 lc_0 ?_
      refine r_aload_n (i := 0) hX e_X11_sale_34 rfl rfl ?_
      refine r_getI hX hn e_X11_sale_35 fl_11_371 rfl g1 ?_
      refine r_iconst hX e_X11_sale_38 ic_1 ?_
      refine r_isub hX e_X11_sale_39 ?_
      refine r_i2l hX e_X11_sale_40 ?_
      obtain ⟨v6, hv6, hf⟩ := bd_s hf
      refine r_csi (As := fun K B => [.long ((a1 : Int32).toInt64), .long (0), .long ((((gI u5 a0 46) - 1) : Int32).toInt64)]) hX hn (t_X11_in hv6) e_X11_sale_41 cw_X11_in cv_X11_in lk_11_127 ⟨Nat.le_of_ble_eq_true rfl, Nat.le_of_ble_eq_true rfl⟩ rfl rfl (Nat.le_of_ble_eq_true rfl) ⟨Nat.zero_le _, Nat.zero_le _⟩ ?_
      refine r_if_eq hX e_X11_sale_44 (fun hc => ?_) (fun hc => ?_)
      · have hf := ite_t hf hc
        refine r_iconst hX e_X11_sale_60 ic_m1 ?_
        exact r_iret hX hR e_X11_sale_61 hf
      · have hf := ite_f hf hc
        refine r_aload_n (i := 0) hX e_X11_sale_47 rfl rfl ?_
        obtain ⟨r7, hr7, hf⟩ := bd_s hf
        refine r_getR hX hn e_X11_sale_48 fl_11_107 rfl g1 hr7 ?_
        refine r_iconst hX e_X11_sale_51 ic_4 ?_
        refine r_iload_n (i := 1) hX e_X11_sale_52 rfl rfl ?_
        refine r_imul hX e_X11_sale_53 ?_
        refine r_iload_n (i := 2) hX e_X11_sale_54 rfl rfl ?_
        refine r_iadd hX e_X11_sale_55 ?_
        obtain ⟨g8, hf⟩ := gd_s hf
        refine r_iald hX hn e_X11_sale_56 g8 ?_
        obtain ⟨v9, hv9, hf⟩ := nx_s hf
        refine top_i hv9 ?_
        refine r_goto hX e_X11_sale_57 ?_
        exact r_iret hX hR e_X11_sale_61 hf
    · have hf := ite_t hf hc
      refine r_bipush hX e_X11_sale_24 bc_m2 ?_
      exact r_iret hX hR e_X11_sale_26 hf
def s_X11_all_133 (k116 : Mem → Nat → Int32 → Int32 → Int32 → Option (Mem × Int32)) (k133 : Mem → Nat → Int32 → Int32 → Int32 → Int32 → Int32 → Option (Mem × Int32)) (M : Mem) (x0 : Nat) (x3 : Int32) (x4 : Int32) (x5 : Int32) (x6 : Int32) (x7 : Int32) : Option (Mem × Int32) :=
  gd (oB shR x0 11) <| if (gI M x0 46) ≤ x7 then if x4 < x6 then k116 M (x0) (x5) (x6) ((x5 + 1)) else k116 M (x0) (x3) (x4) ((x5 + 1)) else bd (gR M x0 45) fun r2 => gd (aB shR r2 0 (4 * x7)) <| if (gI M r2 ((4 * x7) : Int32).toNatClampNeg) = x5 then k133 M (x0) (x3) (x4) (x5) ((x6 + 1)) ((x7 + 1)) else k133 M (x0) (x3) (x4) (x5) ((x6 + 0)) ((x7 + 1))
def f_X11_all_133 (k116 : Mem → Nat → Int32 → Int32 → Int32 → Option (Mem × Int32)) : Nat → Mem → Nat → Int32 → Int32 → Int32 → Int32 → Int32 → Option (Mem × Int32)
  | 0 => fun _ _ _ _ _ _ _ => none
  | n + 1 => fun y0 y1 y2 y3 y4 y5 y6 => s_X11_all_133 k116 (f_X11_all_133 k116 n) y0 y1 y2 y3 y4 y5 y6
def s_X11_all_116 (k116 : Mem → Nat → Int32 → Int32 → Int32 → Option (Mem × Int32)) (M : Mem) (x0 : Nat) (x3 : Int32) (x4 : Int32) (x5 : Int32) : Option (Mem × Int32) :=
  gd (oB shR x0 11) <| bd (gR M x0 17) fun r2 => gd (aB shR r2 0 1) <| if (gI M r2 (1 : Int32).toNatClampNeg) ≤ x5 then some (M, x3) else f_X11_all_133 k116 FU M (x0) (x3) (x4) (x5) (0) (0)
def f_X11_all_116  : Nat → Mem → Nat → Int32 → Int32 → Int32 → Option (Mem × Int32)
  | 0 => fun _ _ _ _ _ => none
  | n + 1 => fun y0 y1 y2 y3 y4 => s_X11_all_116  (f_X11_all_116  n) y0 y1 y2 y3 y4
def s_X11_all_56 (k56 : Mem → Nat → Int32 → Int32 → Int32 → Option (Mem × Int32)) (M : Mem) (x0 : Nat) (x1 : Int32) (x2 : Int32) (x3 : Int32) : Option (Mem × Int32) :=
  gd (oB shR x0 11) <| bd (gR M x0 17) fun r2 => gd (aB shR r2 0 4) <| if (gI M r2 (4 : Int32).toNatClampNeg) ≤ x3 then if 4 ≤ x1 then f_X11_all_116 FU M (x0) ((-1)) (0) (0) else some (M, x2) else if x1 = 2 then bd (f_X11_lackOf M x0 x3) fun v5 => k56 M (x0) (x1) ((x2 + v5)) ((x3 + 1)) else bd (f_X11_lackOf M x0 x3) fun v4 => if v4 = 0 then k56 M (x0) (x1) ((x2 + 1)) ((x3 + 1)) else k56 M (x0) (x1) ((x2 + 0)) ((x3 + 1))
def f_X11_all_56  : Nat → Mem → Nat → Int32 → Int32 → Int32 → Option (Mem × Int32)
  | 0 => fun _ _ _ _ _ => none
  | n + 1 => fun y0 y1 y2 y3 y4 => s_X11_all_56  (f_X11_all_56  n) y0 y1 y2 y3 y4
def f_X11_all (M : Mem) (a0 : Nat) (a1 : Int32) : Option (Mem × Int32) :=
  gd (oB shR a0 11) <| nx (sI M a0 0 0) fun M2 => bd (f_X11_isMarket M2 a0) fun v3 => if v3 = 0 then some (M2, (-2)) else bd (f_X11_in M2 ((a1 : Int32).toInt64) 0 4) fun v4 => if v4 = 0 then some (M2, (-2)) else bd (f_X11_plainHour M2 a0) fun u5 => if 2 ≤ a1 then f_X11_all_56 FU u5 (a0) (a1) (0) (0) else if a1 = 0 then some (u5, (gI u5 a0 46)) else some (u5, (gI u5 a0 47))
theorem t_s_X11_all_133 {X : Cx} {res : Mem × Int32} {k116 : Mem → Nat → Int32 → Int32 → Int32 → Option (Mem × Int32)} {k133 : Mem → Nat → Int32 → Int32 → Int32 → Int32 → Int32 → Option (Mem × Int32)} (hX : OkX X cX11_all RX11 5 116) (hn : Fit X shR nR) (hR : RetI X shR nR .int res) (hk116 : ∀ M x0 x3 x4 x5, k116 M x0 x3 x4 x5 = some res → GoN X shR nR 0 0 M 116 [some (.ref (X.B + x0)), none, none, some (.int (x3)), some (.int (x4)), some (.int (x5)), none, none] []) (hk133 : ∀ M x0 x3 x4 x5 x6 x7, k133 M x0 x3 x4 x5 x6 x7 = some res → GoN X shR nR 0 0 M 133 [some (.ref (X.B + x0)), none, none, some (.int (x3)), some (.int (x4)), some (.int (x5)), some (.int (x6)), some (.int (x7))] []) (M : Mem) (x0 : Nat) (x3 : Int32) (x4 : Int32) (x5 : Int32) (x6 : Int32) (x7 : Int32) (hf : s_X11_all_133 k116 k133 M x0 x3 x4 x5 x6 x7 = some res) : GoN X shR nR 0 0 M 133 [some (.ref (X.B + x0)), none, none, some (.int (x3)), some (.int (x4)), some (.int (x5)), some (.int (x6)), some (.int (x7))] [] := by
  refine r_iload hX e_X11_all_133 rfl ?_
  refine r_aload_n (i := 0) hX e_X11_all_135 rfl rfl ?_
  obtain ⟨g1, hf⟩ := gd_s hf
  refine r_getI hX hn e_X11_all_136 fl_11_371 rfl g1 ?_
  refine r_icmp_ge hX e_X11_all_139 (fun hc => ?_) (fun hc => ?_)
  · have hf := ite_t hf hc
    refine r_iload hX e_X11_all_172 rfl ?_
    refine r_iload hX e_X11_all_174 rfl ?_
    refine r_icmp_gt hX e_X11_all_176 (fun hc => ?_) (fun hc => ?_)
    · have hf := ite_t hf hc
      refine r_iload hX e_X11_all_182 rfl ?_
      refine r_istore_n (i := 3) hX e_X11_all_184 rfl (Nat.le_of_ble_eq_true rfl) rfl ?_
      refine r_iload hX e_X11_all_185 rfl ?_
      refine r_istore hX e_X11_all_187 (Nat.le_of_ble_eq_true rfl) rfl ?_
      refine r_iinc (v := x5 + 1) hX e_X11_all_189 rfl (ii_s ic_1) (Nat.le_of_ble_eq_true rfl) rfl ?_
      refine r_goto hX e_X11_all_192 ?_
      exact GoN.weak (hk116 M (x0) (x5) (x6) ((x5 + 1)) hf) rfl (sb_s (sb_n (sb_n (sb_s (sb_s (sb_s (sb_n (sb_n (sb_z _)))))))))
    · have hf := ite_f hf hc
      refine r_goto hX e_X11_all_179 ?_
      refine r_iinc (v := x5 + 1) hX e_X11_all_189 rfl (ii_s ic_1) (Nat.le_of_ble_eq_true rfl) rfl ?_
      refine r_goto hX e_X11_all_192 ?_
      exact GoN.weak (hk116 M (x0) (x3) (x4) ((x5 + 1)) hf) rfl (sb_s (sb_n (sb_n (sb_s (sb_s (sb_s (sb_n (sb_n (sb_z _)))))))))
  · have hf := ite_f hf hc
    refine r_iload hX e_X11_all_142 rfl ?_
    refine r_aload_n (i := 0) hX e_X11_all_144 rfl rfl ?_
    obtain ⟨r2, hr2, hf⟩ := bd_s hf
    refine r_getR hX hn e_X11_all_145 fl_11_107 rfl g1 hr2 ?_
    refine r_iconst hX e_X11_all_148 ic_4 ?_
    refine r_iload hX e_X11_all_149 rfl ?_
    refine r_imul hX e_X11_all_151 ?_
    obtain ⟨g3, hf⟩ := gd_s hf
    refine r_iald hX hn e_X11_all_152 g3 ?_
    refine r_iload hX e_X11_all_153 rfl ?_
    refine r_icmp_ne hX e_X11_all_155 (fun hc => ?_) (fun hc => ?_)
    · have hf := ite_f hf hc
      refine r_iconst hX e_X11_all_162 ic_0 ?_
      refine r_iadd hX e_X11_all_163 ?_
      refine r_istore hX e_X11_all_164 (Nat.le_of_ble_eq_true rfl) rfl ?_
      refine r_iinc (v := x7 + 1) hX e_X11_all_166 rfl (ii_s ic_1) (Nat.le_of_ble_eq_true rfl) rfl ?_
      refine r_goto hX e_X11_all_169 ?_
      exact GoN.weak (hk133 M (x0) (x3) (x4) (x5) ((x6 + 0)) ((x7 + 1)) hf) rfl (sb_s (sb_n (sb_n (sb_s (sb_s (sb_s (sb_s (sb_s (sb_z _)))))))))
    · have hf := ite_t hf hc
      refine r_iconst hX e_X11_all_158 ic_1 ?_
      refine r_goto hX e_X11_all_159 ?_
      refine r_iadd hX e_X11_all_163 ?_
      refine r_istore hX e_X11_all_164 (Nat.le_of_ble_eq_true rfl) rfl ?_
      refine r_iinc (v := x7 + 1) hX e_X11_all_166 rfl (ii_s ic_1) (Nat.le_of_ble_eq_true rfl) rfl ?_
      refine r_goto hX e_X11_all_169 ?_
      exact GoN.weak (hk133 M (x0) (x3) (x4) (x5) ((x6 + 1)) ((x7 + 1)) hf) rfl (sb_s (sb_n (sb_n (sb_s (sb_s (sb_s (sb_s (sb_s (sb_z _)))))))))
theorem t_X11_all_133 {X : Cx} {res : Mem × Int32} {k116 : Mem → Nat → Int32 → Int32 → Int32 → Option (Mem × Int32)} (hX : OkX X cX11_all RX11 5 116) (hn : Fit X shR nR) (hR : RetI X shR nR .int res) (hk116 : ∀ M x0 x3 x4 x5, k116 M x0 x3 x4 x5 = some res → GoN X shR nR 0 0 M 116 [some (.ref (X.B + x0)), none, none, some (.int (x3)), some (.int (x4)), some (.int (x5)), none, none] []) : ∀ (n : Nat) (M : Mem) (x0 : Nat) (x3 : Int32) (x4 : Int32) (x5 : Int32) (x6 : Int32) (x7 : Int32),  f_X11_all_133 k116 n M x0 x3 x4 x5 x6 x7 = some res → GoN X shR nR 0 0 M 133 [some (.ref (X.B + x0)), none, none, some (.int (x3)), some (.int (x4)), some (.int (x5)), some (.int (x6)), some (.int (x7))] [] := by
  intro n
  induction n with
  | zero => intro M x0 x3 x4 x5 x6 x7 hf; cases hf
  | succ n ih => intro M x0 x3 x4 x5 x6 x7 hf; exact t_s_X11_all_133 hX hn hR hk116 ih M x0 x3 x4 x5 x6 x7 hf
theorem t_s_X11_all_116 {X : Cx} {res : Mem × Int32} {k116 : Mem → Nat → Int32 → Int32 → Int32 → Option (Mem × Int32)} (hX : OkX X cX11_all RX11 5 116) (hn : Fit X shR nR) (hR : RetI X shR nR .int res) (hk116 : ∀ M x0 x3 x4 x5, k116 M x0 x3 x4 x5 = some res → GoN X shR nR 0 0 M 116 [some (.ref (X.B + x0)), none, none, some (.int (x3)), some (.int (x4)), some (.int (x5)), none, none] []) (M : Mem) (x0 : Nat) (x3 : Int32) (x4 : Int32) (x5 : Int32) (hf : s_X11_all_116 k116 M x0 x3 x4 x5 = some res) : GoN X shR nR 0 0 M 116 [some (.ref (X.B + x0)), none, none, some (.int (x3)), some (.int (x4)), some (.int (x5)), none, none] [] := by
  refine r_iload hX e_X11_all_116 rfl ?_
  refine r_aload_n (i := 0) hX e_X11_all_118 rfl rfl ?_
  obtain ⟨g1, hf⟩ := gd_s hf
  obtain ⟨r2, hr2, hf⟩ := bd_s hf
  refine r_getR hX hn e_X11_all_119 fl_11_34 rfl g1 hr2 ?_
  refine r_iconst hX e_X11_all_122 ic_1 ?_
  obtain ⟨g3, hf⟩ := gd_s hf
  refine r_iald hX hn e_X11_all_123 g3 ?_
  refine r_icmp_ge hX e_X11_all_124 (fun hc => ?_) (fun hc => ?_)
  · have hf := ite_t hf hc
    refine r_iload_n (i := 3) hX e_X11_all_195 rfl rfl ?_
    exact r_iret hX hR e_X11_all_196 hf
  · have hf := ite_f hf hc
    refine r_iconst hX e_X11_all_127 ic_0 ?_
    refine r_istore hX e_X11_all_128 (Nat.le_of_ble_eq_true rfl) rfl ?_
    refine r_iconst hX e_X11_all_130 ic_0 ?_
    refine r_istore hX e_X11_all_131 (Nat.le_of_ble_eq_true rfl) rfl ?_
    exact GoN.weak (t_X11_all_133 hX hn hR hk116 FU M (x0) (x3) (x4) (x5) (0) (0) hf) rfl (sb_s (sb_n (sb_n (sb_s (sb_s (sb_s (sb_s (sb_s (sb_z _)))))))))
theorem t_X11_all_116 {X : Cx} {res : Mem × Int32}  (hX : OkX X cX11_all RX11 5 116) (hn : Fit X shR nR) (hR : RetI X shR nR .int res)  : ∀ (n : Nat) (M : Mem) (x0 : Nat) (x3 : Int32) (x4 : Int32) (x5 : Int32),  f_X11_all_116  n M x0 x3 x4 x5 = some res → GoN X shR nR 0 0 M 116 [some (.ref (X.B + x0)), none, none, some (.int (x3)), some (.int (x4)), some (.int (x5)), none, none] [] := by
  intro n
  induction n with
  | zero => intro M x0 x3 x4 x5 hf; cases hf
  | succ n ih => intro M x0 x3 x4 x5 hf; exact t_s_X11_all_116 hX hn hR  ih M x0 x3 x4 x5 hf
theorem t_s_X11_all_56 {X : Cx} {res : Mem × Int32} {k56 : Mem → Nat → Int32 → Int32 → Int32 → Option (Mem × Int32)} (hX : OkX X cX11_all RX11 5 116) (hn : Fit X shR nR) (hR : RetI X shR nR .int res) (hk56 : ∀ M x0 x1 x2 x3, k56 M x0 x1 x2 x3 = some res → GoN X shR nR 0 0 M 56 [some (.ref (X.B + x0)), some (.int (x1)), some (.int (x2)), some (.int (x3)), none, none, none, none] []) (M : Mem) (x0 : Nat) (x1 : Int32) (x2 : Int32) (x3 : Int32) (hf : s_X11_all_56 k56 M x0 x1 x2 x3 = some res) : GoN X shR nR 0 0 M 56 [some (.ref (X.B + x0)), some (.int (x1)), some (.int (x2)), some (.int (x3)), none, none, none, none] [] := by
  refine r_iload_n (i := 3) hX e_X11_all_56 rfl rfl ?_
  refine r_aload_n (i := 0) hX e_X11_all_57 rfl rfl ?_
  obtain ⟨g1, hf⟩ := gd_s hf
  obtain ⟨r2, hr2, hf⟩ := bd_s hf
  refine r_getR hX hn e_X11_all_58 fl_11_34 rfl g1 hr2 ?_
  refine r_iconst hX e_X11_all_61 ic_4 ?_
  obtain ⟨g3, hf⟩ := gd_s hf
  refine r_iald hX hn e_X11_all_62 g3 ?_
  refine r_icmp_ge hX e_X11_all_63 (fun hc => ?_) (fun hc => ?_)
  · have hf := ite_t hf hc
    refine r_iload_n (i := 1) hX e_X11_all_101 rfl rfl ?_
    refine r_iconst hX e_X11_all_102 ic_4 ?_
    refine r_icmp_ge hX e_X11_all_103 (fun hc => ?_) (fun hc => ?_)
    · have hf := ite_t hf hc
      refine r_iconst hX e_X11_all_108 ic_m1 ?_
      refine r_istore_n (i := 3) hX e_X11_all_109 rfl (Nat.le_of_ble_eq_true rfl) rfl ?_
      refine r_iconst hX e_X11_all_110 ic_0 ?_
      refine r_istore hX e_X11_all_111 (Nat.le_of_ble_eq_true rfl) rfl ?_
      refine r_iconst hX e_X11_all_113 ic_0 ?_
      refine r_istore hX e_X11_all_114 (Nat.le_of_ble_eq_true rfl) rfl ?_
      exact GoN.weak (t_X11_all_116 hX hn hR FU M (x0) ((-1)) (0) (0) hf) rfl (sb_s (sb_n (sb_n (sb_s (sb_s (sb_s (sb_n (sb_n (sb_z _)))))))))
    · have hf := ite_f hf hc
      refine r_iload_n (i := 2) hX e_X11_all_106 rfl rfl ?_
      exact r_iret hX hR e_X11_all_107 hf
  · have hf := ite_f hf hc
    refine r_iload_n (i := 2) hX e_X11_all_66 rfl rfl ?_
    refine r_iload_n (i := 1) hX e_X11_all_67 rfl rfl ?_
    refine r_iconst hX e_X11_all_68 ic_2 ?_
    refine r_icmp_ne hX e_X11_all_69 (fun hc => ?_) (fun hc => ?_)
    · have hf := ite_f hf hc
      refine r_aload_n (i := 0) hX e_X11_all_80 rfl rfl ?_
      refine r_iload_n (i := 3) hX e_X11_all_81 rfl rfl ?_
      obtain ⟨v4, hv4, hf⟩ := bd_s hf
      refine r_cvi (As := fun K B => [.int (x3)]) hX hn (t_X11_lackOf hv4) e_X11_all_82 cw_X11_lackOf cv_X11_lackOf lk_11_368 ⟨Nat.le_of_ble_eq_true rfl, Nat.le_of_ble_eq_true rfl⟩ (ci := 11) rfl rfl (Nat.le_of_ble_eq_true rfl) g1 rfl rfl (Nat.le_of_ble_eq_true rfl) ⟨Nat.zero_le _, Nat.zero_le _⟩ ?_
      refine r_if_ne hX e_X11_all_85 (fun hc => ?_) (fun hc => ?_)
      · have hf := ite_f hf hc
        refine r_iconst hX e_X11_all_92 ic_0 ?_
        refine r_iadd hX e_X11_all_93 ?_
        refine r_istore_n (i := 2) hX e_X11_all_94 rfl (Nat.le_of_ble_eq_true rfl) rfl ?_
        refine r_iinc (v := x3 + 1) hX e_X11_all_95 rfl (ii_s ic_1) (Nat.le_of_ble_eq_true rfl) rfl ?_
        refine r_goto hX e_X11_all_98 ?_
        exact GoN.weak (hk56 M (x0) (x1) ((x2 + 0)) ((x3 + 1)) hf) rfl (sb_s (sb_s (sb_s (sb_s (sb_n (sb_n (sb_n (sb_n (sb_z _)))))))))
      · have hf := ite_t hf hc
        refine r_iconst hX e_X11_all_88 ic_1 ?_
        refine r_goto hX e_X11_all_89 ?_
        refine r_iadd hX e_X11_all_93 ?_
        refine r_istore_n (i := 2) hX e_X11_all_94 rfl (Nat.le_of_ble_eq_true rfl) rfl ?_
        refine r_iinc (v := x3 + 1) hX e_X11_all_95 rfl (ii_s ic_1) (Nat.le_of_ble_eq_true rfl) rfl ?_
        refine r_goto hX e_X11_all_98 ?_
        exact GoN.weak (hk56 M (x0) (x1) ((x2 + 1)) ((x3 + 1)) hf) rfl (sb_s (sb_s (sb_s (sb_s (sb_n (sb_n (sb_n (sb_n (sb_z _)))))))))
    · have hf := ite_t hf hc
      refine r_aload_n (i := 0) hX e_X11_all_72 rfl rfl ?_
      refine r_iload_n (i := 3) hX e_X11_all_73 rfl rfl ?_
      obtain ⟨v5, hv5, hf⟩ := bd_s hf
      refine r_cvi (As := fun K B => [.int (x3)]) hX hn (t_X11_lackOf hv5) e_X11_all_74 cw_X11_lackOf cv_X11_lackOf lk_11_368 ⟨Nat.le_of_ble_eq_true rfl, Nat.le_of_ble_eq_true rfl⟩ (ci := 11) rfl rfl (Nat.le_of_ble_eq_true rfl) g1 rfl rfl (Nat.le_of_ble_eq_true rfl) ⟨Nat.zero_le _, Nat.zero_le _⟩ ?_
      refine r_goto hX e_X11_all_77 ?_
      refine r_iadd hX e_X11_all_93 ?_
      refine r_istore_n (i := 2) hX e_X11_all_94 rfl (Nat.le_of_ble_eq_true rfl) rfl ?_
      refine r_iinc (v := x3 + 1) hX e_X11_all_95 rfl (ii_s ic_1) (Nat.le_of_ble_eq_true rfl) rfl ?_
      refine r_goto hX e_X11_all_98 ?_
      exact GoN.weak (hk56 M (x0) (x1) ((x2 + v5)) ((x3 + 1)) hf) rfl (sb_s (sb_s (sb_s (sb_s (sb_n (sb_n (sb_n (sb_n (sb_z _)))))))))
theorem t_X11_all_56 {X : Cx} {res : Mem × Int32}  (hX : OkX X cX11_all RX11 5 116) (hn : Fit X shR nR) (hR : RetI X shR nR .int res)  : ∀ (n : Nat) (M : Mem) (x0 : Nat) (x1 : Int32) (x2 : Int32) (x3 : Int32),  f_X11_all_56  n M x0 x1 x2 x3 = some res → GoN X shR nR 0 0 M 56 [some (.ref (X.B + x0)), some (.int (x1)), some (.int (x2)), some (.int (x3)), none, none, none, none] [] := by
  intro n
  induction n with
  | zero => intro M x0 x1 x2 x3 hf; cases hf
  | succ n ih => intro M x0 x1 x2 x3 hf; exact t_s_X11_all_56 hX hn hR  ih M x0 x1 x2 x3 hf
theorem t_X11_all {l : Launch} {M : Mem} {a0 : Nat} {a1 : Int32} {res : Mem × Int32} (hf : f_X11_all M a0 a1 = some res) : Ci l yX11_all cX11_all 8 (some .int) 5 116 shR nR (fun K B => [.ref (B + a0), .int a1]) M res := by
  refine met_i (own := RX11) (lo := fun K B => [some (.ref (B + a0)), some (.int a1), none, none, none, none, none, none]) (by decide +kernel) rfl shR_ok (fun _ _ => rfl) (fun _ _ => rfl) (fun _ _ => Nat.le_of_ble_eq_true rfl) (fun X hX hn hlx hR => ?_)
  refine r_aload_n (i := 0) hX e_X11_all_0 rfl rfl ?_
  refine r_iconst hX e_X11_all_1 ic_0 ?_
  obtain ⟨g1, hf⟩ := gd_s hf
  obtain ⟨M2, hM2, hf⟩ := nx_s hf
  refine r_putI hX hn hM2 e_X11_all_2 fl_11_122 fp_11_0 rfl g1 ?_
  refine r_aload_n (i := 0) hX e_X11_all_5 rfl rfl ?_
  obtain ⟨v3, hv3, hf⟩ := bd_s hf
  refine r_cvi (As := fun K B => []) hX hn (t_X11_isMarket hv3) e_X11_all_6 cw_X11_isMarket cv_X11_isMarket lk_11_403 ⟨Nat.le_of_ble_eq_true rfl, Nat.le_of_ble_eq_true rfl⟩ (ci := 11) rfl rfl (Nat.le_of_ble_eq_true rfl) g1 rfl rfl (Nat.le_of_ble_eq_true rfl) ⟨Nat.zero_le _, Nat.zero_le _⟩ ?_
  refine r_if_eq hX e_X11_all_9 (fun hc => ?_) (fun hc => ?_)
  · have hf := ite_t hf hc
    refine r_bipush hX e_X11_all_24 bc_m2 ?_
    exact r_iret hX hR e_X11_all_26 hf
  · have hf := ite_f hf hc
    refine r_iload_n (i := 1) hX e_X11_all_12 rfl rfl ?_
    refine r_i2l hX e_X11_all_13 ?_
    refine r_lconst hX e_X11_all_14 lc_0 ?_
    refine r_ldc2 hX e_X11_all_15 wk_1601 ?_
    obtain ⟨v4, hv4, hf⟩ := bd_s hf
    refine r_csi (As := fun K B => [.long ((a1 : Int32).toInt64), .long (0), .long (4)]) hX hn (t_X11_in hv4) e_X11_all_18 cw_X11_in cv_X11_in lk_11_127 ⟨Nat.le_of_ble_eq_true rfl, Nat.le_of_ble_eq_true rfl⟩ rfl rfl (Nat.le_of_ble_eq_true rfl) ⟨Nat.zero_le _, Nat.zero_le _⟩ ?_
    refine r_if_ne hX e_X11_all_21 (fun hc => ?_) (fun hc => ?_)
    · have hf := ite_f hf hc
      refine r_aload_n (i := 0) hX e_X11_all_27 rfl rfl ?_
      obtain ⟨u5, hu5, hf⟩ := bd_s hf
      refine r_cvv (As := fun K B => []) hX hn (t_X11_plainHour hu5) e_X11_all_28 cw_X11_plainHour cv_X11_plainHour lk_11_400 ⟨Nat.le_of_ble_eq_true rfl, Nat.le_of_ble_eq_true rfl⟩ (ci := 11) rfl rfl (Nat.le_of_ble_eq_true rfl) g1 rfl rfl (Nat.le_of_ble_eq_true rfl) ⟨Nat.zero_le _, Nat.zero_le _⟩ ?_
      refine r_iload_n (i := 1) hX e_X11_all_31 rfl rfl ?_
      refine r_iconst hX e_X11_all_32 ic_2 ?_
      refine r_icmp_ge hX e_X11_all_33 (fun hc => ?_) (fun hc => ?_)
      · have hf := ite_t hf hc
        refine r_iconst hX e_X11_all_52 ic_0 ?_
        refine r_istore_n (i := 2) hX e_X11_all_53 rfl (Nat.le_of_ble_eq_true rfl) rfl ?_
        refine r_iconst hX e_X11_all_54 ic_0 ?_
        refine r_istore_n (i := 3) hX e_X11_all_55 rfl (Nat.le_of_ble_eq_true rfl) rfl ?_
        exact GoN.weak (t_X11_all_56 hX hn hR FU u5 (a0) (a1) (0) (0) hf) rfl (sb_s (sb_s (sb_s (sb_s (sb_n (sb_n (sb_n (sb_n (sb_z _)))))))))
      · have hf := ite_f hf hc
        refine r_iload_n (i := 1) hX e_X11_all_36 rfl rfl ?_
        refine r_if_ne hX e_X11_all_37 (fun hc => ?_) (fun hc => ?_)
        · have hf := ite_f hf hc
          refine r_aload_n (i := 0) hX e_X11_all_47 rfl rfl ?_
          refine r_getI hX hn e_X11_all_48 fl_11_374 rfl g1 ?_
          exact r_iret hX hR e_X11_all_51 hf
        · have hf := ite_t hf hc
          refine r_aload_n (i := 0) hX e_X11_all_40 rfl rfl ?_
          refine r_getI hX hn e_X11_all_41 fl_11_371 rfl g1 ?_
          refine r_goto hX e_X11_all_44 ?_
          exact r_iret hX hR e_X11_all_51 hf
    · have hf := ite_t hf hc
      refine r_bipush hX e_X11_all_24 bc_m2 ?_
      exact r_iret hX hR e_X11_all_26 hf
def f_X11_chooses_273 (k63 : Mem → Nat → Int32 → Int32 → Int32 → Option (Mem)) (M : Mem) (x0 : Nat) (x1 : Int32) (x2 : Int32) (x4 : Int32) (x5 : Int32) (s0 : Int32) : Option (Mem) :=
  if s0 = 0 then k63 M (x0) (x1) (x2) (s0) else gd (oB shR x0 11) <| bd (gR M x0 51) fun r2 => gd (aB shR r2 2 x4) <| nx (sI M r2 (x4 : Int32).toNatClampNeg (vp_nar .boolean 1)) fun M4 => bd (gR M4 x0 30) fun r5 => gd (aB shR r5 0 (x4 / 60)) <| nx (((gI M4 r5 ((x4 / 60) : Int32).toNatClampNeg) - 1)) fun v7 => nx (sI M4 r5 ((x4 / 60) : Int32).toNatClampNeg v7) fun M8 => bd (gR M8 x0 40) fun r9 => bd (f_X11_of M8 x0 (x4 / 60) 2) fun v10 => bd (f_X11_wantOf M8 x0 x1 v10) fun v11 => gd (aB shR r9 0 ((3 * x1) + v11)) <| nx ((gI M8 r9 (((3 * x1) + v11) : Int32).toNatClampNeg)) fun v13 => nx (sI M8 r9 (((3 * x1) + v11) : Int32).toNatClampNeg (v13 - 1)) fun M14 => bd (gR M14 x0 50) fun r15 => gd (aB shR r15 0 (x4 - x4 / 60 * 60)) <| nx ((gI M14 r15 ((x4 - x4 / 60 * 60) : Int32).toNatClampNeg)) fun v17 => nx (sI M14 r15 ((x4 - x4 / 60 * 60) : Int32).toNatClampNeg (v17 + 1)) fun M18 => nx (sI M18 x0 48 ((gI M18 x0 48) + 1)) fun M19 => nx (sI M19 x0 49 ((gI M19 x0 49) + x5)) fun M20 => k63 M20 (x0) (x1) (x2) (s0)
def f_X11_chooses_272 (k63 : Mem → Nat → Int32 → Int32 → Int32 → Option (Mem)) (M : Mem) (x0 : Nat) (x1 : Int32) (x2 : Int32) (x4 : Int32) (x5 : Int32) : Option (Mem) :=
  f_X11_chooses_273 k63 M (x0) (x1) (x2) (x4) (x5) (0)
def s_X11_chooses_91 (k63 : Mem → Nat → Int32 → Int32 → Int32 → Option (Mem)) (k77 : Mem → Nat → Int32 → Int32 → Int32 → Int32 → Int32 → Option (Mem)) (k91 : Mem → Nat → Int32 → Int32 → Int32 → Int32 → Int32 → Int32 → Option (Mem)) (M : Mem) (x0 : Nat) (x1 : Int32) (x2 : Int32) (x4 : Int32) (x5 : Int32) (x6 : Int32) (x7 : Int32) : Option (Mem) :=
  gd (oB shR x0 11) <| bd (gR M x0 17) fun r2 => gd (aB shR r2 0 3) <| if (gI M r2 (3 : Int32).toNatClampNeg) ≤ x7 then k77 M (x0) (x1) (x2) (x4) (x5) ((x6 + 1)) else bd (f_X11_of M x0 x7 2) fun v4 => bd (f_X11_wantOf M x0 x1 v4) fun v5 => bd (gR M x0 51) fun r6 => gd (aB shR r6 2 ((60 * x7) + x6)) <| nx ((gI M r6 (((60 * x7) + x6) : Int32).toNatClampNeg)) fun v8 => if v8 = 0 then bd (f_X11_placeOf M x0 x7 x6) fun v9 => bd (gR M x0 20) fun r10 => gd (aB shR r10 0 (4 * x1)) <| if v9 = (gI M r10 ((4 * x1) : Int32).toNatClampNeg) then if v5 = (-1) then k91 M (x0) (x1) (x2) (x4) (x5) (x6) ((x7 + 1)) else bd (gR M x0 40) fun r12 => gd (aB shR r12 0 ((3 * x1) + v5)) <| nx ((gI M r12 (((3 * x1) + v5) : Int32).toNatClampNeg)) fun v14 => if v14 = 0 then k91 M (x0) (x1) (x2) (x4) (x5) (x6) ((x7 + 1)) else bd (gR M x0 30) fun r15 => gd (aB shR r15 0 x7) <| if (gI M r15 (x7 : Int32).toNatClampNeg) = 0 then k91 M (x0) (x1) (x2) (x4) (x5) (x6) ((x7 + 1)) else bd (f_X11_asked M x0 x7 x6) fun v17 => bd (gR M x0 21) fun r18 => gd (aB shR r18 0 (((9 * x1) + (3 * v5)) + 2)) <| nx ((gI M r18 ((((9 * x1) + (3 * v5)) + 2) : Int32).toNatClampNeg)) fun v20 => if v20 < v17 then k91 M (x0) (x1) (x2) (x4) (x5) (x6) ((x7 + 1)) else if v17 < x5 then k91 M (x0) (x1) (x2) (((60 * x7) + x6)) (v17) (x6) ((x7 + 1)) else k91 M (x0) (x1) (x2) (x4) (x5) (x6) ((x7 + 1)) else k91 M (x0) (x1) (x2) (x4) (x5) (x6) ((x7 + 1)) else k91 M (x0) (x1) (x2) (x4) (x5) (x6) ((x7 + 1))
def f_X11_chooses_91 (k63 : Mem → Nat → Int32 → Int32 → Int32 → Option (Mem)) (k77 : Mem → Nat → Int32 → Int32 → Int32 → Int32 → Int32 → Option (Mem)) : Nat → Mem → Nat → Int32 → Int32 → Int32 → Int32 → Int32 → Int32 → Option (Mem)
  | 0 => fun _ _ _ _ _ _ _ _ => none
  | n + 1 => fun y0 y1 y2 y3 y4 y5 y6 y7 => s_X11_chooses_91 k63 k77 (f_X11_chooses_91 k63 k77 n) y0 y1 y2 y3 y4 y5 y6 y7
def s_X11_chooses_77 (k63 : Mem → Nat → Int32 → Int32 → Int32 → Option (Mem)) (k77 : Mem → Nat → Int32 → Int32 → Int32 → Int32 → Int32 → Option (Mem)) (M : Mem) (x0 : Nat) (x1 : Int32) (x2 : Int32) (x4 : Int32) (x5 : Int32) (x6 : Int32) : Option (Mem) :=
  gd (oB shR x0 11) <| bd (gR M x0 17) fun r2 => gd (aB shR r2 0 1) <| if (gI M r2 (1 : Int32).toNatClampNeg) ≤ x6 then if x4 = (-1) then f_X11_chooses_272 k63 M (x0) (x1) (x2) (x4) (x5) else if x2 < ((gI M x0 49) + x5) then f_X11_chooses_272 k63 M (x0) (x1) (x2) (x4) (x5) else f_X11_chooses_273 k63 M (x0) (x1) (x2) (x4) (x5) (1) else f_X11_chooses_91 k63 k77 FU M (x0) (x1) (x2) (x4) (x5) (x6) (0)
def f_X11_chooses_77 (k63 : Mem → Nat → Int32 → Int32 → Int32 → Option (Mem)) : Nat → Mem → Nat → Int32 → Int32 → Int32 → Int32 → Int32 → Option (Mem)
  | 0 => fun _ _ _ _ _ _ _ => none
  | n + 1 => fun y0 y1 y2 y3 y4 y5 y6 => s_X11_chooses_77 k63 (f_X11_chooses_77 k63 n) y0 y1 y2 y3 y4 y5 y6
def s_X11_chooses_63 (k63 : Mem → Nat → Int32 → Int32 → Int32 → Option (Mem)) (M : Mem) (x0 : Nat) (x1 : Int32) (x2 : Int32) (x3 : Int32) : Option (Mem) :=
  if x3 = 0 then some M else f_X11_chooses_77 k63 FU M (x0) (x1) (x2) ((-1)) (1000000) (0)
def f_X11_chooses_63  : Nat → Mem → Nat → Int32 → Int32 → Int32 → Option (Mem)
  | 0 => fun _ _ _ _ _ => none
  | n + 1 => fun y0 y1 y2 y3 y4 => s_X11_chooses_63  (f_X11_chooses_63  n) y0 y1 y2 y3 y4
def s_X11_chooses_41 (k41 : Mem → Nat → Int32 → Int32 → Int32 → Option (Mem)) (M : Mem) (x0 : Nat) (x1 : Int32) (x2 : Int32) (x3 : Int32) : Option (Mem) :=
  if 480 ≤ x3 then f_X11_chooses_63 FU M (x0) (x1) (x2) (1) else gd (oB shR x0 11) <| bd (gR M x0 51) fun r2 => gd (aB shR r2 2 x3) <| nx (sI M r2 (x3 : Int32).toNatClampNeg (vp_nar .boolean 0)) fun M4 => k41 M4 (x0) (x1) (x2) ((x3 + 1))
def f_X11_chooses_41  : Nat → Mem → Nat → Int32 → Int32 → Int32 → Option (Mem)
  | 0 => fun _ _ _ _ _ => none
  | n + 1 => fun y0 y1 y2 y3 y4 => s_X11_chooses_41  (f_X11_chooses_41  n) y0 y1 y2 y3 y4
def s_X11_chooses_20 (k20 : Mem → Nat → Int32 → Int32 → Int32 → Option (Mem)) (M : Mem) (x0 : Nat) (x1 : Int32) (x2 : Int32) (x3 : Int32) : Option (Mem) :=
  if 60 ≤ x3 then f_X11_chooses_41 FU M (x0) (x1) (x2) (0) else gd (oB shR x0 11) <| bd (gR M x0 50) fun r2 => gd (aB shR r2 0 x3) <| nx (sI M r2 (x3 : Int32).toNatClampNeg 0) fun M4 => k20 M4 (x0) (x1) (x2) ((x3 + 1))
def f_X11_chooses_20  : Nat → Mem → Nat → Int32 → Int32 → Int32 → Option (Mem)
  | 0 => fun _ _ _ _ _ => none
  | n + 1 => fun y0 y1 y2 y3 y4 => s_X11_chooses_20  (f_X11_chooses_20  n) y0 y1 y2 y3 y4
def f_X11_chooses (M : Mem) (a0 : Nat) (a1 : Int32) (a2 : Int32) : Option (Mem) :=
  gd (oB shR a0 11) <| bd (f_X11_asTold M a0) fun u2 => bd (f_X11_begin u2 a0) fun u3 => nx (sI u3 a0 48 0) fun M4 => nx (sI M4 a0 49 0) fun M5 => f_X11_chooses_20 FU M5 (a0) (a1) (a2) (0)
theorem t_X11_chooses_273 {X : Cx} {res : Mem} {k63 : Mem → Nat → Int32 → Int32 → Int32 → Option (Mem)} (hX : OkX X cX11_chooses RX11 4 92) (hn : Fit X shR nR) (hR : RetV X shR nR res) (hk63 : ∀ M x0 x1 x2 x3, k63 M x0 x1 x2 x3 = some res → GoN X shR nR 0 0 M 63 [some (.ref (X.B + x0)), some (.int (x1)), some (.int (x2)), some (.int (x3)), none, none, none, none, none, none] []) (M : Mem) (x0 : Nat) (x1 : Int32) (x2 : Int32) (x4 : Int32) (x5 : Int32) (s0 : Int32) (hf : f_X11_chooses_273 k63 M x0 x1 x2 x4 x5 s0 = some res) : GoN X shR nR 0 0 M 273 [some (.ref (X.B + x0)), some (.int (x1)), some (.int (x2)), none, some (.int (x4)), some (.int (x5)), none, none, none, none] [.int (s0)] := by
  refine r_istore_n (i := 3) hX e_X11_chooses_273 rfl (Nat.le_of_ble_eq_true rfl) rfl ?_
  refine r_iload_n (i := 3) hX e_X11_chooses_274 rfl rfl ?_
  refine r_if_ne hX e_X11_chooses_275 (fun hc => ?_) (fun hc => ?_)
  · have hf := ite_f hf hc
    refine r_iload hX e_X11_chooses_281 rfl ?_
    refine r_bipush hX e_X11_chooses_283 bc_60 ?_
    refine r_idiv hX e_X11_chooses_285 (by decide) ?_
    refine r_istore hX e_X11_chooses_286 (Nat.le_of_ble_eq_true rfl) rfl ?_
    refine r_aload_n (i := 0) hX e_X11_chooses_288 rfl rfl ?_
    obtain ⟨g1, hf⟩ := gd_s hf
    obtain ⟨r2, hr2, hf⟩ := bd_s hf
    refine r_getR hX hn e_X11_chooses_289 fl_11_113 rfl g1 hr2 ?_
    refine r_iload hX e_X11_chooses_292 rfl ?_
    refine r_iconst hX e_X11_chooses_294 ic_1 ?_
    obtain ⟨g3, hf⟩ := gd_s hf
    obtain ⟨M4, hM4, hf⟩ := nx_s hf
    refine r_zast hX hn hM4 e_X11_chooses_295 g3 ?_
    refine r_aload_n (i := 0) hX e_X11_chooses_296 rfl rfl ?_
    obtain ⟨r5, hr5, hf⟩ := bd_s hf
    refine r_getR hX hn e_X11_chooses_297 fl_11_62 rfl g1 hr5 ?_
    refine r_iload hX e_X11_chooses_300 rfl ?_
    refine r_dup2_11 hX e_X11_chooses_302 rfl rfl ?_
    obtain ⟨g6, hf⟩ := gd_s hf
    refine r_iald hX hn e_X11_chooses_303 g6 ?_
    refine r_iconst hX e_X11_chooses_304 ic_1 ?_
    refine r_isub hX e_X11_chooses_305 ?_
    obtain ⟨v7, hv7, hf⟩ := nx_s hf
    refine top_i hv7 ?_
    obtain ⟨M8, hM8, hf⟩ := nx_s hf
    refine r_iast hX hn hM8 e_X11_chooses_306 g6 ?_
    refine r_aload_n (i := 0) hX e_X11_chooses_307 rfl rfl ?_
    obtain ⟨r9, hr9, hf⟩ := bd_s hf
    refine r_getR hX hn e_X11_chooses_308 fl_11_92 rfl g1 hr9 ?_
    refine r_iconst hX e_X11_chooses_311 ic_3 ?_
    refine r_iload_n (i := 1) hX e_X11_chooses_312 rfl rfl ?_
    refine r_imul hX e_X11_chooses_313 ?_
    refine r_aload_n (i := 0) hX e_X11_chooses_314 rfl rfl ?_
    refine r_iload_n (i := 1) hX e_X11_chooses_315 rfl rfl ?_
    refine r_aload_n (i := 0) hX e_X11_chooses_316 rfl rfl ?_
    refine r_iload hX e_X11_chooses_317 rfl ?_
    refine r_iconst hX e_X11_chooses_319 ic_2 ?_
    obtain ⟨v10, hv10, hf⟩ := bd_s hf
    refine r_cvi (As := fun K B => [.int ((x4 / 60)), .int (2)]) hX hn (t_X11_of hv10) e_X11_chooses_320 cw_X11_of cv_X11_of lk_11_310 ⟨Nat.le_of_ble_eq_true rfl, Nat.le_of_ble_eq_true rfl⟩ (ci := 11) rfl rfl (Nat.le_of_ble_eq_true rfl) g1 rfl rfl (Nat.le_of_ble_eq_true rfl) ⟨Nat.zero_le _, Nat.zero_le _⟩ ?_
    obtain ⟨v11, hv11, hf⟩ := bd_s hf
    refine r_cvi (As := fun K B => [.int (x1), .int (v10)]) hX hn (t_X11_wantOf hv11) e_X11_chooses_323 cw_X11_wantOf cv_X11_wantOf lk_11_377 ⟨Nat.le_of_ble_eq_true rfl, Nat.le_of_ble_eq_true rfl⟩ (ci := 11) rfl rfl (Nat.le_of_ble_eq_true rfl) g1 rfl rfl (Nat.le_of_ble_eq_true rfl) ⟨Nat.zero_le _, Nat.zero_le _⟩ ?_
    refine r_iadd hX e_X11_chooses_326 ?_
    refine r_dup2_11 hX e_X11_chooses_327 rfl rfl ?_
    obtain ⟨g12, hf⟩ := gd_s hf
    refine r_iald hX hn e_X11_chooses_328 g12 ?_
    obtain ⟨v13, hv13, hf⟩ := nx_s hf
    refine top_i hv13 ?_
    refine r_iconst hX e_X11_chooses_329 ic_1 ?_
    refine r_isub hX e_X11_chooses_330 ?_
    obtain ⟨M14, hM14, hf⟩ := nx_s hf
    refine r_iast hX hn hM14 e_X11_chooses_331 g12 ?_
    refine r_aload_n (i := 0) hX e_X11_chooses_332 rfl rfl ?_
    obtain ⟨r15, hr15, hf⟩ := bd_s hf
    refine r_getR hX hn e_X11_chooses_333 fl_11_110 rfl g1 hr15 ?_
    refine r_iload hX e_X11_chooses_336 rfl ?_
    refine r_bipush hX e_X11_chooses_338 bc_60 ?_
    refine r_irem hX e_X11_chooses_340 (by decide) ?_
    refine r_dup2_11 hX e_X11_chooses_341 rfl rfl ?_
    obtain ⟨g16, hf⟩ := gd_s hf
    refine r_iald hX hn e_X11_chooses_342 g16 ?_
    obtain ⟨v17, hv17, hf⟩ := nx_s hf
    refine top_i hv17 ?_
    refine r_iconst hX e_X11_chooses_343 ic_1 ?_
    refine r_iadd hX e_X11_chooses_344 ?_
    obtain ⟨M18, hM18, hf⟩ := nx_s hf
    refine r_iast hX hn hM18 e_X11_chooses_345 g16 ?_
    refine r_aload_n (i := 0) hX e_X11_chooses_346 rfl rfl ?_
    refine r_dup hX e_X11_chooses_347 rfl ?_
    refine r_getI hX hn e_X11_chooses_348 fl_11_408 rfl g1 ?_
    refine r_iconst hX e_X11_chooses_351 ic_1 ?_
    refine r_iadd hX e_X11_chooses_352 ?_
    obtain ⟨M19, hM19, hf⟩ := nx_s hf
    refine r_putI hX hn hM19 e_X11_chooses_353 fl_11_408 fp_11_48 rfl g1 ?_
    refine r_aload_n (i := 0) hX e_X11_chooses_356 rfl rfl ?_
    refine r_dup hX e_X11_chooses_357 rfl ?_
    refine r_getI hX hn e_X11_chooses_358 fl_11_411 rfl g1 ?_
    refine r_iload hX e_X11_chooses_361 rfl ?_
    refine r_iadd hX e_X11_chooses_363 ?_
    obtain ⟨M20, hM20, hf⟩ := nx_s hf
    refine r_putI hX hn hM20 e_X11_chooses_364 fl_11_411 fp_11_49 rfl g1 ?_
    refine r_goto hX e_X11_chooses_367 ?_
    exact GoN.weak (hk63 M20 (x0) (x1) (x2) (s0) hf) rfl (sb_s (sb_s (sb_s (sb_s (sb_n (sb_n (sb_n (sb_n (sb_n (sb_n (sb_z _)))))))))))
  · have hf := ite_t hf hc
    refine r_goto hX e_X11_chooses_278 ?_
    exact GoN.weak (hk63 M (x0) (x1) (x2) (s0) hf) rfl (sb_s (sb_s (sb_s (sb_s (sb_n (sb_n (sb_n (sb_n (sb_n (sb_n (sb_z _)))))))))))
theorem t_X11_chooses_272 {X : Cx} {res : Mem} {k63 : Mem → Nat → Int32 → Int32 → Int32 → Option (Mem)} (hX : OkX X cX11_chooses RX11 4 92) (hn : Fit X shR nR) (hR : RetV X shR nR res) (hk63 : ∀ M x0 x1 x2 x3, k63 M x0 x1 x2 x3 = some res → GoN X shR nR 0 0 M 63 [some (.ref (X.B + x0)), some (.int (x1)), some (.int (x2)), some (.int (x3)), none, none, none, none, none, none] []) (M : Mem) (x0 : Nat) (x1 : Int32) (x2 : Int32) (x4 : Int32) (x5 : Int32) (hf : f_X11_chooses_272 k63 M x0 x1 x2 x4 x5 = some res) : GoN X shR nR 0 0 M 272 [some (.ref (X.B + x0)), some (.int (x1)), some (.int (x2)), none, some (.int (x4)), some (.int (x5)), none, none, none, none] [] := by
  refine r_iconst hX e_X11_chooses_272 ic_0 ?_
  exact GoN.weak (t_X11_chooses_273 hX hn hR hk63 M (x0) (x1) (x2) (x4) (x5) (0) hf) rfl (sb_s (sb_s (sb_s (sb_n (sb_s (sb_s (sb_n (sb_n (sb_n (sb_n (sb_z _)))))))))))
theorem t_s_X11_chooses_91 {X : Cx} {res : Mem} {k63 : Mem → Nat → Int32 → Int32 → Int32 → Option (Mem)} {k77 : Mem → Nat → Int32 → Int32 → Int32 → Int32 → Int32 → Option (Mem)} {k91 : Mem → Nat → Int32 → Int32 → Int32 → Int32 → Int32 → Int32 → Option (Mem)} (hX : OkX X cX11_chooses RX11 4 92) (hn : Fit X shR nR) (hR : RetV X shR nR res) (hk63 : ∀ M x0 x1 x2 x3, k63 M x0 x1 x2 x3 = some res → GoN X shR nR 0 0 M 63 [some (.ref (X.B + x0)), some (.int (x1)), some (.int (x2)), some (.int (x3)), none, none, none, none, none, none] []) (hk77 : ∀ M x0 x1 x2 x4 x5 x6, k77 M x0 x1 x2 x4 x5 x6 = some res → GoN X shR nR 0 0 M 77 [some (.ref (X.B + x0)), some (.int (x1)), some (.int (x2)), none, some (.int (x4)), some (.int (x5)), some (.int (x6)), none, none, none] []) (hk91 : ∀ M x0 x1 x2 x4 x5 x6 x7, k91 M x0 x1 x2 x4 x5 x6 x7 = some res → GoN X shR nR 0 0 M 91 [some (.ref (X.B + x0)), some (.int (x1)), some (.int (x2)), none, some (.int (x4)), some (.int (x5)), some (.int (x6)), some (.int (x7)), none, none] []) (M : Mem) (x0 : Nat) (x1 : Int32) (x2 : Int32) (x4 : Int32) (x5 : Int32) (x6 : Int32) (x7 : Int32) (hf : s_X11_chooses_91 k63 k77 k91 M x0 x1 x2 x4 x5 x6 x7 = some res) : GoN X shR nR 0 0 M 91 [some (.ref (X.B + x0)), some (.int (x1)), some (.int (x2)), none, some (.int (x4)), some (.int (x5)), some (.int (x6)), some (.int (x7)), none, none] [] := by
  refine r_iload hX e_X11_chooses_91 rfl ?_
  refine r_aload_n (i := 0) hX e_X11_chooses_93 rfl rfl ?_
  obtain ⟨g1, hf⟩ := gd_s hf
  obtain ⟨r2, hr2, hf⟩ := bd_s hf
  refine r_getR hX hn e_X11_chooses_94 fl_11_34 rfl g1 hr2 ?_
  refine r_iconst hX e_X11_chooses_97 ic_3 ?_
  obtain ⟨g3, hf⟩ := gd_s hf
  refine r_iald hX hn e_X11_chooses_98 g3 ?_
  refine r_icmp_ge hX e_X11_chooses_99 (fun hc => ?_) (fun hc => ?_)
  · have hf := ite_t hf hc
    refine r_iinc (v := x6 + 1) hX e_X11_chooses_245 rfl (ii_s ic_1) (Nat.le_of_ble_eq_true rfl) rfl ?_
    refine r_goto hX e_X11_chooses_248 ?_
    exact GoN.weak (hk77 M (x0) (x1) (x2) (x4) (x5) ((x6 + 1)) hf) rfl (sb_s (sb_s (sb_s (sb_n (sb_s (sb_s (sb_s (sb_n (sb_n (sb_n (sb_z _)))))))))))
  · have hf := ite_f hf hc
    refine r_aload_n (i := 0) hX e_X11_chooses_102 rfl rfl ?_
    refine r_iload_n (i := 1) hX e_X11_chooses_103 rfl rfl ?_
    refine r_aload_n (i := 0) hX e_X11_chooses_104 rfl rfl ?_
    refine r_iload hX e_X11_chooses_105 rfl ?_
    refine r_iconst hX e_X11_chooses_107 ic_2 ?_
    obtain ⟨v4, hv4, hf⟩ := bd_s hf
    refine r_cvi (As := fun K B => [.int (x7), .int (2)]) hX hn (t_X11_of hv4) e_X11_chooses_108 cw_X11_of cv_X11_of lk_11_310 ⟨Nat.le_of_ble_eq_true rfl, Nat.le_of_ble_eq_true rfl⟩ (ci := 11) rfl rfl (Nat.le_of_ble_eq_true rfl) g1 rfl rfl (Nat.le_of_ble_eq_true rfl) ⟨Nat.zero_le _, Nat.zero_le _⟩ ?_
    obtain ⟨v5, hv5, hf⟩ := bd_s hf
    refine r_cvi (As := fun K B => [.int (x1), .int (v4)]) hX hn (t_X11_wantOf hv5) e_X11_chooses_111 cw_X11_wantOf cv_X11_wantOf lk_11_377 ⟨Nat.le_of_ble_eq_true rfl, Nat.le_of_ble_eq_true rfl⟩ (ci := 11) rfl rfl (Nat.le_of_ble_eq_true rfl) g1 rfl rfl (Nat.le_of_ble_eq_true rfl) ⟨Nat.zero_le _, Nat.zero_le _⟩ ?_
    refine r_istore hX e_X11_chooses_114 (Nat.le_of_ble_eq_true rfl) rfl ?_
    refine r_aload_n (i := 0) hX e_X11_chooses_116 rfl rfl ?_
    obtain ⟨r6, hr6, hf⟩ := bd_s hf
    refine r_getR hX hn e_X11_chooses_117 fl_11_113 rfl g1 hr6 ?_
    refine r_bipush hX e_X11_chooses_120 bc_60 ?_
    refine r_iload hX e_X11_chooses_122 rfl ?_
    refine r_imul hX e_X11_chooses_124 ?_
    refine r_iload hX e_X11_chooses_125 rfl ?_
    refine r_iadd hX e_X11_chooses_127 ?_
    obtain ⟨g7, hf⟩ := gd_s hf
    refine r_zald hX hn e_X11_chooses_128 g7 ?_
    obtain ⟨v8, hv8, hf⟩ := nx_s hf
    refine top_i hv8 ?_
    refine r_if_ne hX e_X11_chooses_129 (fun hc => ?_) (fun hc => ?_)
    · have hf := ite_f hf hc
      refine r_iinc (v := x7 + 1) hX e_X11_chooses_239 rfl (ii_s ic_1) (Nat.le_of_ble_eq_true rfl) rfl ?_
      refine r_goto hX e_X11_chooses_242 ?_
      exact GoN.weak (hk91 M (x0) (x1) (x2) (x4) (x5) (x6) ((x7 + 1)) hf) rfl (sb_s (sb_s (sb_s (sb_n (sb_s (sb_s (sb_s (sb_s (sb_n (sb_n (sb_z _)))))))))))
    · have hf := ite_t hf hc
      refine r_aload_n (i := 0) hX e_X11_chooses_132 rfl rfl ?_
      refine r_iload hX e_X11_chooses_133 rfl ?_
      refine r_iload hX e_X11_chooses_135 rfl ?_
      obtain ⟨v9, hv9, hf⟩ := bd_s hf
      refine r_cvi (As := fun K B => [.int (x7), .int (x6)]) hX hn (t_X11_placeOf hv9) e_X11_chooses_137 cw_X11_placeOf cv_X11_placeOf lk_11_359 ⟨Nat.le_of_ble_eq_true rfl, Nat.le_of_ble_eq_true rfl⟩ (ci := 11) rfl rfl (Nat.le_of_ble_eq_true rfl) g1 rfl rfl (Nat.le_of_ble_eq_true rfl) ⟨Nat.zero_le _, Nat.zero_le _⟩ ?_
      refine r_aload_n (i := 0) hX e_X11_chooses_140 rfl rfl ?_
      obtain ⟨r10, hr10, hf⟩ := bd_s hf
      refine r_getR hX hn e_X11_chooses_141 fl_11_43 rfl g1 hr10 ?_
      refine r_iconst hX e_X11_chooses_144 ic_4 ?_
      refine r_iload_n (i := 1) hX e_X11_chooses_145 rfl rfl ?_
      refine r_imul hX e_X11_chooses_146 ?_
      obtain ⟨g11, hf⟩ := gd_s hf
      refine r_iald hX hn e_X11_chooses_147 g11 ?_
      refine r_icmp_ne hX e_X11_chooses_148 (fun hc => ?_) (fun hc => ?_)
      · have hf := ite_f hf hc
        refine r_iinc (v := x7 + 1) hX e_X11_chooses_239 rfl (ii_s ic_1) (Nat.le_of_ble_eq_true rfl) rfl ?_
        refine r_goto hX e_X11_chooses_242 ?_
        exact GoN.weak (hk91 M (x0) (x1) (x2) (x4) (x5) (x6) ((x7 + 1)) hf) rfl (sb_s (sb_s (sb_s (sb_n (sb_s (sb_s (sb_s (sb_s (sb_n (sb_n (sb_z _)))))))))))
      · have hf := ite_t hf hc
        refine r_iload hX e_X11_chooses_151 rfl ?_
        refine r_iconst hX e_X11_chooses_153 ic_m1 ?_
        refine r_icmp_eq hX e_X11_chooses_154 (fun hc => ?_) (fun hc => ?_)
        · have hf := ite_t hf hc
          refine r_iinc (v := x7 + 1) hX e_X11_chooses_239 rfl (ii_s ic_1) (Nat.le_of_ble_eq_true rfl) rfl ?_
          refine r_goto hX e_X11_chooses_242 ?_
          exact GoN.weak (hk91 M (x0) (x1) (x2) (x4) (x5) (x6) ((x7 + 1)) hf) rfl (sb_s (sb_s (sb_s (sb_n (sb_s (sb_s (sb_s (sb_s (sb_n (sb_n (sb_z _)))))))))))
        · have hf := ite_f hf hc
          refine r_aload_n (i := 0) hX e_X11_chooses_157 rfl rfl ?_
          obtain ⟨r12, hr12, hf⟩ := bd_s hf
          refine r_getR hX hn e_X11_chooses_158 fl_11_92 rfl g1 hr12 ?_
          refine r_iconst hX e_X11_chooses_161 ic_3 ?_
          refine r_iload_n (i := 1) hX e_X11_chooses_162 rfl rfl ?_
          refine r_imul hX e_X11_chooses_163 ?_
          refine r_iload hX e_X11_chooses_164 rfl ?_
          refine r_iadd hX e_X11_chooses_166 ?_
          obtain ⟨g13, hf⟩ := gd_s hf
          refine r_iald hX hn e_X11_chooses_167 g13 ?_
          obtain ⟨v14, hv14, hf⟩ := nx_s hf
          refine top_i hv14 ?_
          refine r_if_eq hX e_X11_chooses_168 (fun hc => ?_) (fun hc => ?_)
          · have hf := ite_t hf hc
            refine r_iinc (v := x7 + 1) hX e_X11_chooses_239 rfl (ii_s ic_1) (Nat.le_of_ble_eq_true rfl) rfl ?_
            refine r_goto hX e_X11_chooses_242 ?_
            exact GoN.weak (hk91 M (x0) (x1) (x2) (x4) (x5) (x6) ((x7 + 1)) hf) rfl (sb_s (sb_s (sb_s (sb_n (sb_s (sb_s (sb_s (sb_s (sb_n (sb_n (sb_z _)))))))))))
          · have hf := ite_f hf hc
            refine r_aload_n (i := 0) hX e_X11_chooses_171 rfl rfl ?_
            obtain ⟨r15, hr15, hf⟩ := bd_s hf
            refine r_getR hX hn e_X11_chooses_172 fl_11_62 rfl g1 hr15 ?_
            refine r_iload hX e_X11_chooses_175 rfl ?_
            obtain ⟨g16, hf⟩ := gd_s hf
            refine r_iald hX hn e_X11_chooses_177 g16 ?_
            refine r_if_ne hX e_X11_chooses_178 (fun hc => ?_) (fun hc => ?_)
            · have hf := ite_f hf hc
              refine r_aload_n (i := 0) hX e_X11_chooses_184 rfl rfl ?_
              refine r_iload hX e_X11_chooses_185 rfl ?_
              refine r_iload hX e_X11_chooses_187 rfl ?_
              obtain ⟨v17, hv17, hf⟩ := bd_s hf
              refine r_cvi (As := fun K B => [.int (x7), .int (x6)]) hX hn (t_X11_asked hv17) e_X11_chooses_189 cw_X11_asked cv_X11_asked lk_11_380 ⟨Nat.le_of_ble_eq_true rfl, Nat.le_of_ble_eq_true rfl⟩ (ci := 11) rfl rfl (Nat.le_of_ble_eq_true rfl) g1 rfl rfl (Nat.le_of_ble_eq_true rfl) ⟨Nat.zero_le _, Nat.zero_le _⟩ ?_
              refine r_istore hX e_X11_chooses_192 (Nat.le_of_ble_eq_true rfl) rfl ?_
              refine r_iload hX e_X11_chooses_194 rfl ?_
              refine r_aload_n (i := 0) hX e_X11_chooses_196 rfl rfl ?_
              obtain ⟨r18, hr18, hf⟩ := bd_s hf
              refine r_getR hX hn e_X11_chooses_197 fl_11_46 rfl g1 hr18 ?_
              refine r_bipush hX e_X11_chooses_200 bc_9 ?_
              refine r_iload_n (i := 1) hX e_X11_chooses_202 rfl rfl ?_
              refine r_imul hX e_X11_chooses_203 ?_
              refine r_iconst hX e_X11_chooses_204 ic_3 ?_
              refine r_iload hX e_X11_chooses_205 rfl ?_
              refine r_imul hX e_X11_chooses_207 ?_
              refine r_iadd hX e_X11_chooses_208 ?_
              refine r_iconst hX e_X11_chooses_209 ic_2 ?_
              refine r_iadd hX e_X11_chooses_210 ?_
              obtain ⟨g19, hf⟩ := gd_s hf
              refine r_iald hX hn e_X11_chooses_211 g19 ?_
              obtain ⟨v20, hv20, hf⟩ := nx_s hf
              refine top_i hv20 ?_
              refine r_icmp_gt hX e_X11_chooses_212 (fun hc => ?_) (fun hc => ?_)
              · have hf := ite_t hf hc
                refine r_iinc (v := x7 + 1) hX e_X11_chooses_239 rfl (ii_s ic_1) (Nat.le_of_ble_eq_true rfl) rfl ?_
                refine r_goto hX e_X11_chooses_242 ?_
                exact GoN.weak (hk91 M (x0) (x1) (x2) (x4) (x5) (x6) ((x7 + 1)) hf) rfl (sb_s (sb_s (sb_s (sb_n (sb_s (sb_s (sb_s (sb_s (sb_n (sb_n (sb_z _)))))))))))
              · have hf := ite_f hf hc
                refine r_iload hX e_X11_chooses_215 rfl ?_
                refine r_iload hX e_X11_chooses_217 rfl ?_
                refine r_icmp_lt hX e_X11_chooses_219 (fun hc => ?_) (fun hc => ?_)
                · have hf := ite_t hf hc
                  refine r_bipush hX e_X11_chooses_225 bc_60 ?_
                  refine r_iload hX e_X11_chooses_227 rfl ?_
                  refine r_imul hX e_X11_chooses_229 ?_
                  refine r_iload hX e_X11_chooses_230 rfl ?_
                  refine r_iadd hX e_X11_chooses_232 ?_
                  refine r_istore hX e_X11_chooses_233 (Nat.le_of_ble_eq_true rfl) rfl ?_
                  refine r_iload hX e_X11_chooses_235 rfl ?_
                  refine r_istore hX e_X11_chooses_237 (Nat.le_of_ble_eq_true rfl) rfl ?_
                  refine r_iinc (v := x7 + 1) hX e_X11_chooses_239 rfl (ii_s ic_1) (Nat.le_of_ble_eq_true rfl) rfl ?_
                  refine r_goto hX e_X11_chooses_242 ?_
                  exact GoN.weak (hk91 M (x0) (x1) (x2) (((60 * x7) + x6)) (v17) (x6) ((x7 + 1)) hf) rfl (sb_s (sb_s (sb_s (sb_n (sb_s (sb_s (sb_s (sb_s (sb_n (sb_n (sb_z _)))))))))))
                · have hf := ite_f hf hc
                  refine r_goto hX e_X11_chooses_222 ?_
                  refine r_iinc (v := x7 + 1) hX e_X11_chooses_239 rfl (ii_s ic_1) (Nat.le_of_ble_eq_true rfl) rfl ?_
                  refine r_goto hX e_X11_chooses_242 ?_
                  exact GoN.weak (hk91 M (x0) (x1) (x2) (x4) (x5) (x6) ((x7 + 1)) hf) rfl (sb_s (sb_s (sb_s (sb_n (sb_s (sb_s (sb_s (sb_s (sb_n (sb_n (sb_z _)))))))))))
            · have hf := ite_t hf hc
              refine r_goto hX e_X11_chooses_181 ?_
              refine r_iinc (v := x7 + 1) hX e_X11_chooses_239 rfl (ii_s ic_1) (Nat.le_of_ble_eq_true rfl) rfl ?_
              refine r_goto hX e_X11_chooses_242 ?_
              exact GoN.weak (hk91 M (x0) (x1) (x2) (x4) (x5) (x6) ((x7 + 1)) hf) rfl (sb_s (sb_s (sb_s (sb_n (sb_s (sb_s (sb_s (sb_s (sb_n (sb_n (sb_z _)))))))))))
theorem t_X11_chooses_91 {X : Cx} {res : Mem} {k63 : Mem → Nat → Int32 → Int32 → Int32 → Option (Mem)} {k77 : Mem → Nat → Int32 → Int32 → Int32 → Int32 → Int32 → Option (Mem)} (hX : OkX X cX11_chooses RX11 4 92) (hn : Fit X shR nR) (hR : RetV X shR nR res) (hk63 : ∀ M x0 x1 x2 x3, k63 M x0 x1 x2 x3 = some res → GoN X shR nR 0 0 M 63 [some (.ref (X.B + x0)), some (.int (x1)), some (.int (x2)), some (.int (x3)), none, none, none, none, none, none] []) (hk77 : ∀ M x0 x1 x2 x4 x5 x6, k77 M x0 x1 x2 x4 x5 x6 = some res → GoN X shR nR 0 0 M 77 [some (.ref (X.B + x0)), some (.int (x1)), some (.int (x2)), none, some (.int (x4)), some (.int (x5)), some (.int (x6)), none, none, none] []) : ∀ (n : Nat) (M : Mem) (x0 : Nat) (x1 : Int32) (x2 : Int32) (x4 : Int32) (x5 : Int32) (x6 : Int32) (x7 : Int32),  f_X11_chooses_91 k63 k77 n M x0 x1 x2 x4 x5 x6 x7 = some res → GoN X shR nR 0 0 M 91 [some (.ref (X.B + x0)), some (.int (x1)), some (.int (x2)), none, some (.int (x4)), some (.int (x5)), some (.int (x6)), some (.int (x7)), none, none] [] := by
  intro n
  induction n with
  | zero => intro M x0 x1 x2 x4 x5 x6 x7 hf; cases hf
  | succ n ih => intro M x0 x1 x2 x4 x5 x6 x7 hf; exact t_s_X11_chooses_91 hX hn hR hk63 hk77 ih M x0 x1 x2 x4 x5 x6 x7 hf
theorem t_s_X11_chooses_77 {X : Cx} {res : Mem} {k63 : Mem → Nat → Int32 → Int32 → Int32 → Option (Mem)} {k77 : Mem → Nat → Int32 → Int32 → Int32 → Int32 → Int32 → Option (Mem)} (hX : OkX X cX11_chooses RX11 4 92) (hn : Fit X shR nR) (hR : RetV X shR nR res) (hk63 : ∀ M x0 x1 x2 x3, k63 M x0 x1 x2 x3 = some res → GoN X shR nR 0 0 M 63 [some (.ref (X.B + x0)), some (.int (x1)), some (.int (x2)), some (.int (x3)), none, none, none, none, none, none] []) (hk77 : ∀ M x0 x1 x2 x4 x5 x6, k77 M x0 x1 x2 x4 x5 x6 = some res → GoN X shR nR 0 0 M 77 [some (.ref (X.B + x0)), some (.int (x1)), some (.int (x2)), none, some (.int (x4)), some (.int (x5)), some (.int (x6)), none, none, none] []) (M : Mem) (x0 : Nat) (x1 : Int32) (x2 : Int32) (x4 : Int32) (x5 : Int32) (x6 : Int32) (hf : s_X11_chooses_77 k63 k77 M x0 x1 x2 x4 x5 x6 = some res) : GoN X shR nR 0 0 M 77 [some (.ref (X.B + x0)), some (.int (x1)), some (.int (x2)), none, some (.int (x4)), some (.int (x5)), some (.int (x6)), none, none, none] [] := by
  refine r_iload hX e_X11_chooses_77 rfl ?_
  refine r_aload_n (i := 0) hX e_X11_chooses_79 rfl rfl ?_
  obtain ⟨g1, hf⟩ := gd_s hf
  obtain ⟨r2, hr2, hf⟩ := bd_s hf
  refine r_getR hX hn e_X11_chooses_80 fl_11_34 rfl g1 hr2 ?_
  refine r_iconst hX e_X11_chooses_83 ic_1 ?_
  obtain ⟨g3, hf⟩ := gd_s hf
  refine r_iald hX hn e_X11_chooses_84 g3 ?_
  refine r_icmp_ge hX e_X11_chooses_85 (fun hc => ?_) (fun hc => ?_)
  · have hf := ite_t hf hc
    refine r_iload hX e_X11_chooses_251 rfl ?_
    refine r_iconst hX e_X11_chooses_253 ic_m1 ?_
    refine r_icmp_eq hX e_X11_chooses_254 (fun hc => ?_) (fun hc => ?_)
    · have hf := ite_t hf hc
      exact GoN.weak (t_X11_chooses_272 hX hn hR hk63 M (x0) (x1) (x2) (x4) (x5) hf) rfl (sb_s (sb_s (sb_s (sb_n (sb_s (sb_s (sb_n (sb_n (sb_n (sb_n (sb_z _)))))))))))
    · have hf := ite_f hf hc
      refine r_aload_n (i := 0) hX e_X11_chooses_257 rfl rfl ?_
      refine r_getI hX hn e_X11_chooses_258 fl_11_411 rfl g1 ?_
      refine r_iload hX e_X11_chooses_261 rfl ?_
      refine r_iadd hX e_X11_chooses_263 ?_
      refine r_iload_n (i := 2) hX e_X11_chooses_264 rfl rfl ?_
      refine r_icmp_gt hX e_X11_chooses_265 (fun hc => ?_) (fun hc => ?_)
      · have hf := ite_t hf hc
        exact GoN.weak (t_X11_chooses_272 hX hn hR hk63 M (x0) (x1) (x2) (x4) (x5) hf) rfl (sb_s (sb_s (sb_s (sb_n (sb_s (sb_s (sb_n (sb_n (sb_n (sb_n (sb_z _)))))))))))
      · have hf := ite_f hf hc
        refine r_iconst hX e_X11_chooses_268 ic_1 ?_
        refine r_goto hX e_X11_chooses_269 ?_
        exact GoN.weak (t_X11_chooses_273 hX hn hR hk63 M (x0) (x1) (x2) (x4) (x5) (1) hf) rfl (sb_s (sb_s (sb_s (sb_n (sb_s (sb_s (sb_n (sb_n (sb_n (sb_n (sb_z _)))))))))))
  · have hf := ite_f hf hc
    refine r_iconst hX e_X11_chooses_88 ic_0 ?_
    refine r_istore hX e_X11_chooses_89 (Nat.le_of_ble_eq_true rfl) rfl ?_
    exact GoN.weak (t_X11_chooses_91 hX hn hR hk63 hk77 FU M (x0) (x1) (x2) (x4) (x5) (x6) (0) hf) rfl (sb_s (sb_s (sb_s (sb_n (sb_s (sb_s (sb_s (sb_s (sb_n (sb_n (sb_z _)))))))))))
theorem t_X11_chooses_77 {X : Cx} {res : Mem} {k63 : Mem → Nat → Int32 → Int32 → Int32 → Option (Mem)} (hX : OkX X cX11_chooses RX11 4 92) (hn : Fit X shR nR) (hR : RetV X shR nR res) (hk63 : ∀ M x0 x1 x2 x3, k63 M x0 x1 x2 x3 = some res → GoN X shR nR 0 0 M 63 [some (.ref (X.B + x0)), some (.int (x1)), some (.int (x2)), some (.int (x3)), none, none, none, none, none, none] []) : ∀ (n : Nat) (M : Mem) (x0 : Nat) (x1 : Int32) (x2 : Int32) (x4 : Int32) (x5 : Int32) (x6 : Int32),  f_X11_chooses_77 k63 n M x0 x1 x2 x4 x5 x6 = some res → GoN X shR nR 0 0 M 77 [some (.ref (X.B + x0)), some (.int (x1)), some (.int (x2)), none, some (.int (x4)), some (.int (x5)), some (.int (x6)), none, none, none] [] := by
  intro n
  induction n with
  | zero => intro M x0 x1 x2 x4 x5 x6 hf; cases hf
  | succ n ih => intro M x0 x1 x2 x4 x5 x6 hf; exact t_s_X11_chooses_77 hX hn hR hk63 ih M x0 x1 x2 x4 x5 x6 hf
theorem t_s_X11_chooses_63 {X : Cx} {res : Mem} {k63 : Mem → Nat → Int32 → Int32 → Int32 → Option (Mem)} (hX : OkX X cX11_chooses RX11 4 92) (hn : Fit X shR nR) (hR : RetV X shR nR res) (hk63 : ∀ M x0 x1 x2 x3, k63 M x0 x1 x2 x3 = some res → GoN X shR nR 0 0 M 63 [some (.ref (X.B + x0)), some (.int (x1)), some (.int (x2)), some (.int (x3)), none, none, none, none, none, none] []) (M : Mem) (x0 : Nat) (x1 : Int32) (x2 : Int32) (x3 : Int32) (hf : s_X11_chooses_63 k63 M x0 x1 x2 x3 = some res) : GoN X shR nR 0 0 M 63 [some (.ref (X.B + x0)), some (.int (x1)), some (.int (x2)), some (.int (x3)), none, none, none, none, none, none] [] := by
  refine r_iload_n (i := 3) hX e_X11_chooses_63 rfl rfl ?_
  refine r_if_eq hX e_X11_chooses_64 (fun hc => ?_) (fun hc => ?_)
  · have hf := ite_t hf hc
    exact r_ret hX hR e_X11_chooses_370 hf
  · have hf := ite_f hf hc
    refine r_iconst hX e_X11_chooses_67 ic_m1 ?_
    refine r_istore hX e_X11_chooses_68 (Nat.le_of_ble_eq_true rfl) rfl ?_
    refine r_ldc hX e_X11_chooses_70 wk_1348 ?_
    refine r_istore hX e_X11_chooses_72 (Nat.le_of_ble_eq_true rfl) rfl ?_
    refine r_iconst hX e_X11_chooses_74 ic_0 ?_
    refine r_istore hX e_X11_chooses_75 (Nat.le_of_ble_eq_true rfl) rfl ?_
    exact GoN.weak (t_X11_chooses_77 hX hn hR hk63 FU M (x0) (x1) (x2) ((-1)) (1000000) (0) hf) rfl (sb_s (sb_s (sb_s (sb_n (sb_s (sb_s (sb_s (sb_n (sb_n (sb_n (sb_z _)))))))))))
theorem t_X11_chooses_63 {X : Cx} {res : Mem}  (hX : OkX X cX11_chooses RX11 4 92) (hn : Fit X shR nR) (hR : RetV X shR nR res)  : ∀ (n : Nat) (M : Mem) (x0 : Nat) (x1 : Int32) (x2 : Int32) (x3 : Int32),  f_X11_chooses_63  n M x0 x1 x2 x3 = some res → GoN X shR nR 0 0 M 63 [some (.ref (X.B + x0)), some (.int (x1)), some (.int (x2)), some (.int (x3)), none, none, none, none, none, none] [] := by
  intro n
  induction n with
  | zero => intro M x0 x1 x2 x3 hf; cases hf
  | succ n ih => intro M x0 x1 x2 x3 hf; exact t_s_X11_chooses_63 hX hn hR  ih M x0 x1 x2 x3 hf
theorem t_s_X11_chooses_41 {X : Cx} {res : Mem} {k41 : Mem → Nat → Int32 → Int32 → Int32 → Option (Mem)} (hX : OkX X cX11_chooses RX11 4 92) (hn : Fit X shR nR) (hR : RetV X shR nR res) (hk41 : ∀ M x0 x1 x2 x3, k41 M x0 x1 x2 x3 = some res → GoN X shR nR 0 0 M 41 [some (.ref (X.B + x0)), some (.int (x1)), some (.int (x2)), some (.int (x3)), none, none, none, none, none, none] []) (M : Mem) (x0 : Nat) (x1 : Int32) (x2 : Int32) (x3 : Int32) (hf : s_X11_chooses_41 k41 M x0 x1 x2 x3 = some res) : GoN X shR nR 0 0 M 41 [some (.ref (X.B + x0)), some (.int (x1)), some (.int (x2)), some (.int (x3)), none, none, none, none, none, none] [] := by
  refine r_iload_n (i := 3) hX e_X11_chooses_41 rfl rfl ?_
  refine r_sipush hX e_X11_chooses_42 sc_480 ?_
  refine r_icmp_ge hX e_X11_chooses_45 (fun hc => ?_) (fun hc => ?_)
  · have hf := ite_t hf hc
    refine r_iconst hX e_X11_chooses_61 ic_1 ?_
    refine r_istore_n (i := 3) hX e_X11_chooses_62 rfl (Nat.le_of_ble_eq_true rfl) rfl ?_
    exact GoN.weak (t_X11_chooses_63 hX hn hR FU M (x0) (x1) (x2) (1) hf) rfl (sb_s (sb_s (sb_s (sb_s (sb_n (sb_n (sb_n (sb_n (sb_n (sb_n (sb_z _)))))))))))
  · have hf := ite_f hf hc
    refine r_aload_n (i := 0) hX e_X11_chooses_48 rfl rfl ?_
    obtain ⟨g1, hf⟩ := gd_s hf
    obtain ⟨r2, hr2, hf⟩ := bd_s hf
    refine r_getR hX hn e_X11_chooses_49 fl_11_113 rfl g1 hr2 ?_
    refine r_iload_n (i := 3) hX e_X11_chooses_52 rfl rfl ?_
    refine r_iconst hX e_X11_chooses_53 ic_0 ?_
    obtain ⟨g3, hf⟩ := gd_s hf
    obtain ⟨M4, hM4, hf⟩ := nx_s hf
    refine r_zast hX hn hM4 e_X11_chooses_54 g3 ?_
    refine r_iinc (v := x3 + 1) hX e_X11_chooses_55 rfl (ii_s ic_1) (Nat.le_of_ble_eq_true rfl) rfl ?_
    refine r_goto hX e_X11_chooses_58 ?_
    exact GoN.weak (hk41 M4 (x0) (x1) (x2) ((x3 + 1)) hf) rfl (sb_s (sb_s (sb_s (sb_s (sb_n (sb_n (sb_n (sb_n (sb_n (sb_n (sb_z _)))))))))))
theorem t_X11_chooses_41 {X : Cx} {res : Mem}  (hX : OkX X cX11_chooses RX11 4 92) (hn : Fit X shR nR) (hR : RetV X shR nR res)  : ∀ (n : Nat) (M : Mem) (x0 : Nat) (x1 : Int32) (x2 : Int32) (x3 : Int32),  f_X11_chooses_41  n M x0 x1 x2 x3 = some res → GoN X shR nR 0 0 M 41 [some (.ref (X.B + x0)), some (.int (x1)), some (.int (x2)), some (.int (x3)), none, none, none, none, none, none] [] := by
  intro n
  induction n with
  | zero => intro M x0 x1 x2 x3 hf; cases hf
  | succ n ih => intro M x0 x1 x2 x3 hf; exact t_s_X11_chooses_41 hX hn hR  ih M x0 x1 x2 x3 hf
theorem t_s_X11_chooses_20 {X : Cx} {res : Mem} {k20 : Mem → Nat → Int32 → Int32 → Int32 → Option (Mem)} (hX : OkX X cX11_chooses RX11 4 92) (hn : Fit X shR nR) (hR : RetV X shR nR res) (hk20 : ∀ M x0 x1 x2 x3, k20 M x0 x1 x2 x3 = some res → GoN X shR nR 0 0 M 20 [some (.ref (X.B + x0)), some (.int (x1)), some (.int (x2)), some (.int (x3)), none, none, none, none, none, none] []) (M : Mem) (x0 : Nat) (x1 : Int32) (x2 : Int32) (x3 : Int32) (hf : s_X11_chooses_20 k20 M x0 x1 x2 x3 = some res) : GoN X shR nR 0 0 M 20 [some (.ref (X.B + x0)), some (.int (x1)), some (.int (x2)), some (.int (x3)), none, none, none, none, none, none] [] := by
  refine r_iload_n (i := 3) hX e_X11_chooses_20 rfl rfl ?_
  refine r_bipush hX e_X11_chooses_21 bc_60 ?_
  refine r_icmp_ge hX e_X11_chooses_23 (fun hc => ?_) (fun hc => ?_)
  · have hf := ite_t hf hc
    refine r_iconst hX e_X11_chooses_39 ic_0 ?_
    refine r_istore_n (i := 3) hX e_X11_chooses_40 rfl (Nat.le_of_ble_eq_true rfl) rfl ?_
    exact GoN.weak (t_X11_chooses_41 hX hn hR FU M (x0) (x1) (x2) (0) hf) rfl (sb_s (sb_s (sb_s (sb_s (sb_n (sb_n (sb_n (sb_n (sb_n (sb_n (sb_z _)))))))))))
  · have hf := ite_f hf hc
    refine r_aload_n (i := 0) hX e_X11_chooses_26 rfl rfl ?_
    obtain ⟨g1, hf⟩ := gd_s hf
    obtain ⟨r2, hr2, hf⟩ := bd_s hf
    refine r_getR hX hn e_X11_chooses_27 fl_11_110 rfl g1 hr2 ?_
    refine r_iload_n (i := 3) hX e_X11_chooses_30 rfl rfl ?_
    refine r_iconst hX e_X11_chooses_31 ic_0 ?_
    obtain ⟨g3, hf⟩ := gd_s hf
    obtain ⟨M4, hM4, hf⟩ := nx_s hf
    refine r_iast hX hn hM4 e_X11_chooses_32 g3 ?_
    refine r_iinc (v := x3 + 1) hX e_X11_chooses_33 rfl (ii_s ic_1) (Nat.le_of_ble_eq_true rfl) rfl ?_
    refine r_goto hX e_X11_chooses_36 ?_
    exact GoN.weak (hk20 M4 (x0) (x1) (x2) ((x3 + 1)) hf) rfl (sb_s (sb_s (sb_s (sb_s (sb_n (sb_n (sb_n (sb_n (sb_n (sb_n (sb_z _)))))))))))
theorem t_X11_chooses_20 {X : Cx} {res : Mem}  (hX : OkX X cX11_chooses RX11 4 92) (hn : Fit X shR nR) (hR : RetV X shR nR res)  : ∀ (n : Nat) (M : Mem) (x0 : Nat) (x1 : Int32) (x2 : Int32) (x3 : Int32),  f_X11_chooses_20  n M x0 x1 x2 x3 = some res → GoN X shR nR 0 0 M 20 [some (.ref (X.B + x0)), some (.int (x1)), some (.int (x2)), some (.int (x3)), none, none, none, none, none, none] [] := by
  intro n
  induction n with
  | zero => intro M x0 x1 x2 x3 hf; cases hf
  | succ n ih => intro M x0 x1 x2 x3 hf; exact t_s_X11_chooses_20 hX hn hR  ih M x0 x1 x2 x3 hf
theorem t_X11_chooses {l : Launch} {M : Mem} {a0 : Nat} {a1 a2 : Int32} {res : Mem} (hf : f_X11_chooses M a0 a1 a2 = some res) : Cv l yX11_chooses cX11_chooses 10 none 4 92 shR nR (fun K B => [.ref (B + a0), .int a1, .int a2]) M res := by
  refine met_v (own := RX11) (lo := fun K B => [some (.ref (B + a0)), some (.int a1), some (.int a2), none, none, none, none, none, none, none]) (by decide +kernel) rfl shR_ok (fun _ _ => rfl) (fun _ _ => rfl) (fun _ _ => Nat.le_of_ble_eq_true rfl) (fun X hX hn hlx hR => ?_)
  refine r_aload_n (i := 0) hX e_X11_chooses_0 rfl rfl ?_
  obtain ⟨g1, hf⟩ := gd_s hf
  obtain ⟨u2, hu2, hf⟩ := bd_s hf
  refine r_cvv (As := fun K B => []) hX hn (t_X11_asTold hu2) e_X11_chooses_1 cw_X11_asTold cv_X11_asTold lk_11_356 ⟨Nat.le_of_ble_eq_true rfl, Nat.le_of_ble_eq_true rfl⟩ (ci := 11) rfl rfl (Nat.le_of_ble_eq_true rfl) g1 rfl rfl (Nat.le_of_ble_eq_true rfl) ⟨Nat.zero_le _, Nat.zero_le _⟩ ?_
  refine r_aload_n (i := 0) hX e_X11_chooses_4 rfl rfl ?_
  obtain ⟨u3, hu3, hf⟩ := bd_s hf
  refine r_cvv (As := fun K B => []) hX hn (t_X11_begin hu3) e_X11_chooses_5 cw_X11_begin cv_X11_begin lk_11_387 ⟨Nat.le_of_ble_eq_true rfl, Nat.le_of_ble_eq_true rfl⟩ (ci := 11) rfl rfl (Nat.le_of_ble_eq_true rfl) g1 rfl rfl (Nat.le_of_ble_eq_true rfl) ⟨Nat.zero_le _, Nat.zero_le _⟩ ?_
  refine r_aload_n (i := 0) hX e_X11_chooses_8 rfl rfl ?_
  refine r_iconst hX e_X11_chooses_9 ic_0 ?_
  obtain ⟨M4, hM4, hf⟩ := nx_s hf
  refine r_putI hX hn hM4 e_X11_chooses_10 fl_11_408 fp_11_48 rfl g1 ?_
  refine r_aload_n (i := 0) hX e_X11_chooses_13 rfl rfl ?_
  refine r_iconst hX e_X11_chooses_14 ic_0 ?_
  obtain ⟨M5, hM5, hf⟩ := nx_s hf
  refine r_putI hX hn hM5 e_X11_chooses_15 fl_11_411 fp_11_49 rfl g1 ?_
  refine r_iconst hX e_X11_chooses_18 ic_0 ?_
  refine r_istore_n (i := 3) hX e_X11_chooses_19 rfl (Nat.le_of_ble_eq_true rfl) rfl ?_
  exact GoN.weak (t_X11_chooses_20 hX hn hR FU M5 (a0) (a1) (a2) (0) hf) rfl (sb_s (sb_s (sb_s (sb_s (sb_n (sb_n (sb_n (sb_n (sb_n (sb_n (sb_z _)))))))))))
def f_X11_best (M : Mem) (a0 : Nat) (a1 : Int32) : Option (Mem × Int32) :=
  gd (oB shR a0 11) <| nx (sI M a0 0 0) fun M2 => bd (f_X11_isBuyer M2 a0 a1) fun v3 => if v3 = 0 then some (M2, (-2)) else bd (gR M2 a0 20) fun r4 => gd (aB shR r4 0 ((4 * a1) + 1)) <| nx ((gI M2 r4 (((4 * a1) + 1) : Int32).toNatClampNeg)) fun v6 => bd (f_X11_chooses M2 a0 a1 v6) fun u7 => some (u7, (gI u7 a0 48))
theorem t_X11_best {l : Launch} {M : Mem} {a0 : Nat} {a1 : Int32} {res : Mem × Int32} (hf : f_X11_best M a0 a1 = some res) : Ci l yX11_best cX11_best 2 (some .int) 5 121 shR nR (fun K B => [.ref (B + a0), .int a1]) M res := by
  refine met_i (own := RX11) (lo := fun K B => [some (.ref (B + a0)), some (.int a1)]) (by decide +kernel) rfl shR_ok (fun _ _ => rfl) (fun _ _ => rfl) (fun _ _ => Nat.le_of_ble_eq_true rfl) (fun X hX hn hlx hR => ?_)
  refine r_aload_n (i := 0) hX e_X11_best_0 rfl rfl ?_
  refine r_iconst hX e_X11_best_1 ic_0 ?_
  obtain ⟨g1, hf⟩ := gd_s hf
  obtain ⟨M2, hM2, hf⟩ := nx_s hf
  refine r_putI hX hn hM2 e_X11_best_2 fl_11_122 fp_11_0 rfl g1 ?_
  refine r_aload_n (i := 0) hX e_X11_best_5 rfl rfl ?_
  refine r_iload_n (i := 1) hX e_X11_best_6 rfl rfl ?_
  obtain ⟨v3, hv3, hf⟩ := bd_s hf
  refine r_cvi (As := fun K B => [.int (a1)]) hX hn (t_X11_isBuyer hv3) e_X11_best_7 cw_X11_isBuyer cv_X11_isBuyer lk_11_313 ⟨Nat.le_of_ble_eq_true rfl, Nat.le_of_ble_eq_true rfl⟩ (ci := 11) rfl rfl (Nat.le_of_ble_eq_true rfl) g1 rfl rfl (Nat.le_of_ble_eq_true rfl) ⟨Nat.zero_le _, Nat.zero_le _⟩ ?_
  refine r_if_ne hX e_X11_best_10 (fun hc => ?_) (fun hc => ?_)
  · have hf := ite_f hf hc
    refine r_aload_n (i := 0) hX e_X11_best_16 rfl rfl ?_
    refine r_iload_n (i := 1) hX e_X11_best_17 rfl rfl ?_
    refine r_aload_n (i := 0) hX e_X11_best_18 rfl rfl ?_
    obtain ⟨r4, hr4, hf⟩ := bd_s hf
    refine r_getR hX hn e_X11_best_19 fl_11_43 rfl g1 hr4 ?_
    refine r_iconst hX e_X11_best_22 ic_4 ?_
    refine r_iload_n (i := 1) hX e_X11_best_23 rfl rfl ?_
    refine r_imul hX e_X11_best_24 ?_
    refine r_iconst hX e_X11_best_25 ic_1 ?_
    refine r_iadd hX e_X11_best_26 ?_
    obtain ⟨g5, hf⟩ := gd_s hf
    refine r_iald hX hn e_X11_best_27 g5 ?_
    obtain ⟨v6, hv6, hf⟩ := nx_s hf
    refine top_i hv6 ?_
    obtain ⟨u7, hu7, hf⟩ := bd_s hf
    refine r_cvv (As := fun K B => [.int (a1), .int (v6)]) hX hn (t_X11_chooses hu7) e_X11_best_28 cw_X11_chooses cv_X11_chooses lk_11_414 ⟨Nat.le_of_ble_eq_true rfl, Nat.le_of_ble_eq_true rfl⟩ (ci := 11) rfl rfl (Nat.le_of_ble_eq_true rfl) g1 rfl rfl (Nat.le_of_ble_eq_true rfl) ⟨Nat.zero_le _, Nat.zero_le _⟩ ?_
    refine r_aload_n (i := 0) hX e_X11_best_31 rfl rfl ?_
    refine r_getI hX hn e_X11_best_32 fl_11_408 rfl g1 ?_
    exact r_iret hX hR e_X11_best_35 hf
  · have hf := ite_t hf hc
    refine r_bipush hX e_X11_best_13 bc_m2 ?_
    exact r_iret hX hR e_X11_best_15 hf
def f_X11_cost (M : Mem) (a0 : Nat) (a1 : Int32) : Option (Mem × Int32) :=
  gd (oB shR a0 11) <| nx (sI M a0 0 0) fun M2 => bd (f_X11_isBuyer M2 a0 a1) fun v3 => if v3 = 0 then some (M2, (-2)) else bd (gR M2 a0 20) fun r4 => gd (aB shR r4 0 ((4 * a1) + 1)) <| nx ((gI M2 r4 (((4 * a1) + 1) : Int32).toNatClampNeg)) fun v6 => bd (f_X11_chooses M2 a0 a1 v6) fun u7 => some (u7, (gI u7 a0 49))
theorem t_X11_cost {l : Launch} {M : Mem} {a0 : Nat} {a1 : Int32} {res : Mem × Int32} (hf : f_X11_cost M a0 a1 = some res) : Ci l yX11_cost cX11_cost 2 (some .int) 5 121 shR nR (fun K B => [.ref (B + a0), .int a1]) M res := by
  refine met_i (own := RX11) (lo := fun K B => [some (.ref (B + a0)), some (.int a1)]) (by decide +kernel) rfl shR_ok (fun _ _ => rfl) (fun _ _ => rfl) (fun _ _ => Nat.le_of_ble_eq_true rfl) (fun X hX hn hlx hR => ?_)
  refine r_aload_n (i := 0) hX e_X11_cost_0 rfl rfl ?_
  refine r_iconst hX e_X11_cost_1 ic_0 ?_
  obtain ⟨g1, hf⟩ := gd_s hf
  obtain ⟨M2, hM2, hf⟩ := nx_s hf
  refine r_putI hX hn hM2 e_X11_cost_2 fl_11_122 fp_11_0 rfl g1 ?_
  refine r_aload_n (i := 0) hX e_X11_cost_5 rfl rfl ?_
  refine r_iload_n (i := 1) hX e_X11_cost_6 rfl rfl ?_
  obtain ⟨v3, hv3, hf⟩ := bd_s hf
  refine r_cvi (As := fun K B => [.int (a1)]) hX hn (t_X11_isBuyer hv3) e_X11_cost_7 cw_X11_isBuyer cv_X11_isBuyer lk_11_313 ⟨Nat.le_of_ble_eq_true rfl, Nat.le_of_ble_eq_true rfl⟩ (ci := 11) rfl rfl (Nat.le_of_ble_eq_true rfl) g1 rfl rfl (Nat.le_of_ble_eq_true rfl) ⟨Nat.zero_le _, Nat.zero_le _⟩ ?_
  refine r_if_ne hX e_X11_cost_10 (fun hc => ?_) (fun hc => ?_)
  · have hf := ite_f hf hc
    refine r_aload_n (i := 0) hX e_X11_cost_16 rfl rfl ?_
    refine r_iload_n (i := 1) hX e_X11_cost_17 rfl rfl ?_
    refine r_aload_n (i := 0) hX e_X11_cost_18 rfl rfl ?_
    obtain ⟨r4, hr4, hf⟩ := bd_s hf
    refine r_getR hX hn e_X11_cost_19 fl_11_43 rfl g1 hr4 ?_
    refine r_iconst hX e_X11_cost_22 ic_4 ?_
    refine r_iload_n (i := 1) hX e_X11_cost_23 rfl rfl ?_
    refine r_imul hX e_X11_cost_24 ?_
    refine r_iconst hX e_X11_cost_25 ic_1 ?_
    refine r_iadd hX e_X11_cost_26 ?_
    obtain ⟨g5, hf⟩ := gd_s hf
    refine r_iald hX hn e_X11_cost_27 g5 ?_
    obtain ⟨v6, hv6, hf⟩ := nx_s hf
    refine top_i hv6 ?_
    obtain ⟨u7, hu7, hf⟩ := bd_s hf
    refine r_cvv (As := fun K B => [.int (a1), .int (v6)]) hX hn (t_X11_chooses hu7) e_X11_cost_28 cw_X11_chooses cv_X11_chooses lk_11_414 ⟨Nat.le_of_ble_eq_true rfl, Nat.le_of_ble_eq_true rfl⟩ (ci := 11) rfl rfl (Nat.le_of_ble_eq_true rfl) g1 rfl rfl (Nat.le_of_ble_eq_true rfl) ⟨Nat.zero_le _, Nat.zero_le _⟩ ?_
    refine r_aload_n (i := 0) hX e_X11_cost_31 rfl rfl ?_
    refine r_getI hX hn e_X11_cost_32 fl_11_411 rfl g1 ?_
    exact r_iret hX hR e_X11_cost_35 hf
  · have hf := ite_t hf hc
    refine r_bipush hX e_X11_cost_13 bc_m2 ?_
    exact r_iret hX hR e_X11_cost_15 hf
def f_X11_choice (M : Mem) (a0 : Nat) (a1 : Int32) (a2 : Int32) : Option (Mem × Int32) :=
  gd (oB shR a0 11) <| nx (sI M a0 0 0) fun M2 => bd (f_X11_isBuyer M2 a0 a1) fun v3 => if v3 = 0 then some (M2, (-2)) else bd (f_X11_isMinute M2 a0 a2) fun v4 => if v4 = 0 then some (M2, (-2)) else bd (gR M2 a0 20) fun r5 => gd (aB shR r5 0 ((4 * a1) + 1)) <| nx ((gI M2 r5 (((4 * a1) + 1) : Int32).toNatClampNeg)) fun v7 => bd (f_X11_chooses M2 a0 a1 v7) fun u8 => bd (gR u8 a0 50) fun r9 => gd (aB shR r9 0 a2) <| some (u8, (gI u8 r9 (a2 : Int32).toNatClampNeg))
theorem t_X11_choice {l : Launch} {M : Mem} {a0 : Nat} {a1 a2 : Int32} {res : Mem × Int32} (hf : f_X11_choice M a0 a1 a2 = some res) : Ci l yX11_choice cX11_choice 3 (some .int) 5 121 shR nR (fun K B => [.ref (B + a0), .int a1, .int a2]) M res := by
  refine met_i (own := RX11) (lo := fun K B => [some (.ref (B + a0)), some (.int a1), some (.int a2)]) (by decide +kernel) rfl shR_ok (fun _ _ => rfl) (fun _ _ => rfl) (fun _ _ => Nat.le_of_ble_eq_true rfl) (fun X hX hn hlx hR => ?_)
  refine r_aload_n (i := 0) hX e_X11_choice_0 rfl rfl ?_
  refine r_iconst hX e_X11_choice_1 ic_0 ?_
  obtain ⟨g1, hf⟩ := gd_s hf
  obtain ⟨M2, hM2, hf⟩ := nx_s hf
  refine r_putI hX hn hM2 e_X11_choice_2 fl_11_122 fp_11_0 rfl g1 ?_
  refine r_aload_n (i := 0) hX e_X11_choice_5 rfl rfl ?_
  refine r_iload_n (i := 1) hX e_X11_choice_6 rfl rfl ?_
  obtain ⟨v3, hv3, hf⟩ := bd_s hf
  refine r_cvi (As := fun K B => [.int (a1)]) hX hn (t_X11_isBuyer hv3) e_X11_choice_7 cw_X11_isBuyer cv_X11_isBuyer lk_11_313 ⟨Nat.le_of_ble_eq_true rfl, Nat.le_of_ble_eq_true rfl⟩ (ci := 11) rfl rfl (Nat.le_of_ble_eq_true rfl) g1 rfl rfl (Nat.le_of_ble_eq_true rfl) ⟨Nat.zero_le _, Nat.zero_le _⟩ ?_
  refine r_if_eq hX e_X11_choice_10 (fun hc => ?_) (fun hc => ?_)
  · have hf := ite_t hf hc
    refine r_bipush hX e_X11_choice_21 bc_m2 ?_
    exact r_iret hX hR e_X11_choice_23 hf
  · have hf := ite_f hf hc
    refine r_aload_n (i := 0) hX e_X11_choice_13 rfl rfl ?_
    refine r_iload_n (i := 2) hX e_X11_choice_14 rfl rfl ?_
    obtain ⟨v4, hv4, hf⟩ := bd_s hf
    refine r_cvi (As := fun K B => [.int (a2)]) hX hn (t_X11_isMinute hv4) e_X11_choice_15 cw_X11_isMinute cv_X11_isMinute lk_11_353 ⟨Nat.le_of_ble_eq_true rfl, Nat.le_of_ble_eq_true rfl⟩ (ci := 11) rfl rfl (Nat.le_of_ble_eq_true rfl) g1 rfl rfl (Nat.le_of_ble_eq_true rfl) ⟨Nat.zero_le _, Nat.zero_le _⟩ ?_
    refine r_if_ne hX e_X11_choice_18 (fun hc => ?_) (fun hc => ?_)
    · have hf := ite_f hf hc
      refine r_aload_n (i := 0) hX e_X11_choice_24 rfl rfl ?_
      refine r_iload_n (i := 1) hX e_X11_choice_25 rfl rfl ?_
      refine r_aload_n (i := 0) hX e_X11_choice_26 rfl rfl ?_
      obtain ⟨r5, hr5, hf⟩ := bd_s hf
      refine r_getR hX hn e_X11_choice_27 fl_11_43 rfl g1 hr5 ?_
      refine r_iconst hX e_X11_choice_30 ic_4 ?_
      refine r_iload_n (i := 1) hX e_X11_choice_31 rfl rfl ?_
      refine r_imul hX e_X11_choice_32 ?_
      refine r_iconst hX e_X11_choice_33 ic_1 ?_
      refine r_iadd hX e_X11_choice_34 ?_
      obtain ⟨g6, hf⟩ := gd_s hf
      refine r_iald hX hn e_X11_choice_35 g6 ?_
      obtain ⟨v7, hv7, hf⟩ := nx_s hf
      refine top_i hv7 ?_
      obtain ⟨u8, hu8, hf⟩ := bd_s hf
      refine r_cvv (As := fun K B => [.int (a1), .int (v7)]) hX hn (t_X11_chooses hu8) e_X11_choice_36 cw_X11_chooses cv_X11_chooses lk_11_414 ⟨Nat.le_of_ble_eq_true rfl, Nat.le_of_ble_eq_true rfl⟩ (ci := 11) rfl rfl (Nat.le_of_ble_eq_true rfl) g1 rfl rfl (Nat.le_of_ble_eq_true rfl) ⟨Nat.zero_le _, Nat.zero_le _⟩ ?_
      refine r_aload_n (i := 0) hX e_X11_choice_39 rfl rfl ?_
      obtain ⟨r9, hr9, hf⟩ := bd_s hf
      refine r_getR hX hn e_X11_choice_40 fl_11_110 rfl g1 hr9 ?_
      refine r_iload_n (i := 2) hX e_X11_choice_43 rfl rfl ?_
      obtain ⟨g10, hf⟩ := gd_s hf
      refine r_iald hX hn e_X11_choice_44 g10 ?_
      exact r_iret hX hR e_X11_choice_45 hf
    · have hf := ite_t hf hc
      refine r_bipush hX e_X11_choice_21 bc_m2 ?_
      exact r_iret hX hR e_X11_choice_23 hf
def f_X11_needs (M : Mem) (a0 : Nat) (a1 : Int32) : Option (Mem × Int32) :=
  gd (oB shR a0 11) <| nx (sI M a0 0 0) fun M2 => bd (f_X11_isBuyer M2 a0 a1) fun v3 => if v3 = 0 then some (M2, (-2)) else bd (f_X11_chooses M2 a0 a1 1000000) fun u4 => bd (f_X11_lackOf u4 a0 a1) fun v5 => if v5 = 0 then some (u4, (gI u4 a0 49)) else some (u4, (-1))
theorem t_X11_needs {l : Launch} {M : Mem} {a0 : Nat} {a1 : Int32} {res : Mem × Int32} (hf : f_X11_needs M a0 a1 = some res) : Ci l yX11_needs cX11_needs 2 (some .int) 5 121 shR nR (fun K B => [.ref (B + a0), .int a1]) M res := by
  refine met_i (own := RX11) (lo := fun K B => [some (.ref (B + a0)), some (.int a1)]) (by decide +kernel) rfl shR_ok (fun _ _ => rfl) (fun _ _ => rfl) (fun _ _ => Nat.le_of_ble_eq_true rfl) (fun X hX hn hlx hR => ?_)
  refine r_aload_n (i := 0) hX e_X11_needs_0 rfl rfl ?_
  refine r_iconst hX e_X11_needs_1 ic_0 ?_
  obtain ⟨g1, hf⟩ := gd_s hf
  obtain ⟨M2, hM2, hf⟩ := nx_s hf
  refine r_putI hX hn hM2 e_X11_needs_2 fl_11_122 fp_11_0 rfl g1 ?_
  refine r_aload_n (i := 0) hX e_X11_needs_5 rfl rfl ?_
  refine r_iload_n (i := 1) hX e_X11_needs_6 rfl rfl ?_
  obtain ⟨v3, hv3, hf⟩ := bd_s hf
  refine r_cvi (As := fun K B => [.int (a1)]) hX hn (t_X11_isBuyer hv3) e_X11_needs_7 cw_X11_isBuyer cv_X11_isBuyer lk_11_313 ⟨Nat.le_of_ble_eq_true rfl, Nat.le_of_ble_eq_true rfl⟩ (ci := 11) rfl rfl (Nat.le_of_ble_eq_true rfl) g1 rfl rfl (Nat.le_of_ble_eq_true rfl) ⟨Nat.zero_le _, Nat.zero_le _⟩ ?_
  refine r_if_ne hX e_X11_needs_10 (fun hc => ?_) (fun hc => ?_)
  · have hf := ite_f hf hc
    refine r_aload_n (i := 0) hX e_X11_needs_16 rfl rfl ?_
    refine r_iload_n (i := 1) hX e_X11_needs_17 rfl rfl ?_
    refine r_ldc hX e_X11_needs_18 wk_1348 ?_
    obtain ⟨u4, hu4, hf⟩ := bd_s hf
    refine r_cvv (As := fun K B => [.int (a1), .int (1000000)]) hX hn (t_X11_chooses hu4) e_X11_needs_20 cw_X11_chooses cv_X11_chooses lk_11_414 ⟨Nat.le_of_ble_eq_true rfl, Nat.le_of_ble_eq_true rfl⟩ (ci := 11) rfl rfl (Nat.le_of_ble_eq_true rfl) g1 rfl rfl (Nat.le_of_ble_eq_true rfl) ⟨Nat.zero_le _, Nat.zero_le _⟩ ?_
    refine r_aload_n (i := 0) hX e_X11_needs_23 rfl rfl ?_
    refine r_iload_n (i := 1) hX e_X11_needs_24 rfl rfl ?_
    obtain ⟨v5, hv5, hf⟩ := bd_s hf
    refine r_cvi (As := fun K B => [.int (a1)]) hX hn (t_X11_lackOf hv5) e_X11_needs_25 cw_X11_lackOf cv_X11_lackOf lk_11_368 ⟨Nat.le_of_ble_eq_true rfl, Nat.le_of_ble_eq_true rfl⟩ (ci := 11) rfl rfl (Nat.le_of_ble_eq_true rfl) g1 rfl rfl (Nat.le_of_ble_eq_true rfl) ⟨Nat.zero_le _, Nat.zero_le _⟩ ?_
    refine r_if_ne hX e_X11_needs_28 (fun hc => ?_) (fun hc => ?_)
    · have hf := ite_f hf hc
      refine r_iconst hX e_X11_needs_38 ic_m1 ?_
      exact r_iret hX hR e_X11_needs_39 hf
    · have hf := ite_t hf hc
      refine r_aload_n (i := 0) hX e_X11_needs_31 rfl rfl ?_
      refine r_getI hX hn e_X11_needs_32 fl_11_411 rfl g1 ?_
      refine r_goto hX e_X11_needs_35 ?_
      exact r_iret hX hR e_X11_needs_39 hf
  · have hf := ite_t hf hc
    refine r_bipush hX e_X11_needs_13 bc_m2 ?_
    exact r_iret hX hR e_X11_needs_15 hf
def s_X11_isHost_2 (M : Mem) (k2 : Nat → Int32 → Int32 → Option (Int32)) (x0 : Nat) (x1 : Int32) (x2 : Int32) : Option (Int32) :=
  gd (oB shR x0 11) <| bd (gR M x0 17) fun r2 => gd (aB shR r2 0 4) <| if (gI M r2 (4 : Int32).toNatClampNeg) ≤ x2 then some 0 else bd (gR M x0 20) fun r4 => gd (aB shR r4 0 (4 * x2)) <| if (gI M r4 ((4 * x2) : Int32).toNatClampNeg) = x1 then some 1 else k2 (x0) (x1) ((x2 + 1))
def f_X11_isHost_2 (M : Mem)  : Nat → Nat → Int32 → Int32 → Option (Int32)
  | 0 => fun _ _ _ => none
  | n + 1 => fun y0 y1 y2 => s_X11_isHost_2 M  (f_X11_isHost_2 M  n) y0 y1 y2
def f_X11_isHost (M : Mem) (a0 : Nat) (a1 : Int32) : Option (Int32) :=
  f_X11_isHost_2 M FU (a0) (a1) (0)
theorem t_s_X11_isHost_2 {X : Cx} {M : Mem} {res : Int32} {k2 : Nat → Int32 → Int32 → Option (Int32)} (hX : OkX X cX11_isHost RX11 0 0) (hn : Fit X shR nR) (hR : RetI X shR nR .boolean (M, res)) (hk2 : ∀ x0 x1 x2, k2 x0 x1 x2 = some res → GoN X shR nR 0 0 M 2 [some (.ref (X.B + x0)), some (.int (x1)), some (.int (x2))] []) (x0 : Nat) (x1 : Int32) (x2 : Int32) (hf : s_X11_isHost_2 M k2 x0 x1 x2 = some res) : GoN X shR nR 0 0 M 2 [some (.ref (X.B + x0)), some (.int (x1)), some (.int (x2))] [] := by
  refine r_iload_n (i := 2) hX e_X11_isHost_2 rfl rfl ?_
  refine r_aload_n (i := 0) hX e_X11_isHost_3 rfl rfl ?_
  obtain ⟨g1, hf⟩ := gd_s hf
  obtain ⟨r2, hr2, hf⟩ := bd_s hf
  refine r_getR hX hn e_X11_isHost_4 fl_11_34 rfl g1 hr2 ?_
  refine r_iconst hX e_X11_isHost_7 ic_4 ?_
  obtain ⟨g3, hf⟩ := gd_s hf
  refine r_iald hX hn e_X11_isHost_8 g3 ?_
  refine r_icmp_ge hX e_X11_isHost_9 (fun hc => ?_) (fun hc => ?_)
  · have hf := ite_t hf hc
    refine r_iconst hX e_X11_isHost_32 ic_0 ?_
    exact r_zret hX hR rfl e_X11_isHost_33 (ro_s hf)
  · have hf := ite_f hf hc
    refine r_aload_n (i := 0) hX e_X11_isHost_12 rfl rfl ?_
    obtain ⟨r4, hr4, hf⟩ := bd_s hf
    refine r_getR hX hn e_X11_isHost_13 fl_11_43 rfl g1 hr4 ?_
    refine r_iconst hX e_X11_isHost_16 ic_4 ?_
    refine r_iload_n (i := 2) hX e_X11_isHost_17 rfl rfl ?_
    refine r_imul hX e_X11_isHost_18 ?_
    obtain ⟨g5, hf⟩ := gd_s hf
    refine r_iald hX hn e_X11_isHost_19 g5 ?_
    refine r_iload_n (i := 1) hX e_X11_isHost_20 rfl rfl ?_
    refine r_icmp_ne hX e_X11_isHost_21 (fun hc => ?_) (fun hc => ?_)
    · have hf := ite_f hf hc
      refine r_iinc (v := x2 + 1) hX e_X11_isHost_26 rfl (ii_s ic_1) (Nat.le_of_ble_eq_true rfl) rfl ?_
      refine r_goto hX e_X11_isHost_29 ?_
      exact GoN.weak (hk2 (x0) (x1) ((x2 + 1)) hf) rfl (sb_s (sb_s (sb_s (sb_z _))))
    · have hf := ite_t hf hc
      refine r_iconst hX e_X11_isHost_24 ic_1 ?_
      exact r_zret hX hR rfl e_X11_isHost_25 (ro_s hf)
theorem t_X11_isHost_2 {X : Cx} {M : Mem} {res : Int32}  (hX : OkX X cX11_isHost RX11 0 0) (hn : Fit X shR nR) (hR : RetI X shR nR .boolean (M, res))  : ∀ (n : Nat) (x0 : Nat) (x1 : Int32) (x2 : Int32),  f_X11_isHost_2 M  n x0 x1 x2 = some res → GoN X shR nR 0 0 M 2 [some (.ref (X.B + x0)), some (.int (x1)), some (.int (x2))] [] := by
  intro n
  induction n with
  | zero => intro x0 x1 x2 hf; cases hf
  | succ n ih => intro x0 x1 x2 hf; exact t_s_X11_isHost_2 hX hn hR  ih x0 x1 x2 hf
theorem t_X11_isHost {l : Launch} {M : Mem} {a0 : Nat} {a1 : Int32} {res : Int32} (hf : f_X11_isHost M a0 a1 = some res) : Ci l yX11_isHost cX11_isHost 3 (some .boolean) 0 0 shR nR (fun K B => [.ref (B + a0), .int a1]) M (M, res) := by
  refine met_i (own := RX11) (lo := fun K B => [some (.ref (B + a0)), some (.int a1), none]) (by decide +kernel) rfl shR_ok (fun _ _ => rfl) (fun _ _ => rfl) (fun _ _ => Nat.le_of_ble_eq_true rfl) (fun X hX hn hlx hR => ?_)
  refine r_iconst hX e_X11_isHost_0 ic_0 ?_
  refine r_istore_n (i := 2) hX e_X11_isHost_1 rfl (Nat.le_of_ble_eq_true rfl) rfl ?_
  exact GoN.weak (t_X11_isHost_2 hX hn hR FU (a0) (a1) (0) hf) rfl (sb_s (sb_s (sb_s (sb_z _))))
def s_X11_rides_4 (k4 : Mem → Nat → Int32 → Int32 → Option (Mem)) (M : Mem) (x0 : Nat) (x1 : Int32) (x3 : Int32) : Option (Mem) :=
  gd (oB shR x0 11) <| bd (gR M x0 17) fun r2 => gd (aB shR r2 0 1) <| if (gI M r2 (1 : Int32).toNatClampNeg) ≤ x3 then some M else bd (f_X11_placeOf M x0 x1 x3) fun v4 => bd (gR M x0 53) fun r5 => gd (aB shR r5 0 v4) <| if (gI M r5 (v4 : Int32).toNatClampNeg) ≤ x3 then k4 M (x0) (x1) ((x3 + 1)) else nx (sI M r5 (v4 : Int32).toNatClampNeg x3) fun M7 => k4 M7 (x0) (x1) ((x3 + 1))
def f_X11_rides_4  : Nat → Mem → Nat → Int32 → Int32 → Option (Mem)
  | 0 => fun _ _ _ _ => none
  | n + 1 => fun y0 y1 y2 y3 => s_X11_rides_4  (f_X11_rides_4  n) y0 y1 y2 y3
def f_X11_rides (M : Mem) (a0 : Nat) (a1 : Int32) (a2 : Int32) : Option (Mem) :=
  f_X11_rides_4 FU M (a0) (a1) ((a2 + 1))
theorem t_s_X11_rides_4 {X : Cx} {res : Mem} {k4 : Mem → Nat → Int32 → Int32 → Option (Mem)} (hX : OkX X cX11_rides RX11 2 46) (hn : Fit X shR nR) (hR : RetV X shR nR res) (hk4 : ∀ M x0 x1 x3, k4 M x0 x1 x3 = some res → GoN X shR nR 0 0 M 4 [some (.ref (X.B + x0)), some (.int (x1)), none, some (.int (x3)), none] []) (M : Mem) (x0 : Nat) (x1 : Int32) (x3 : Int32) (hf : s_X11_rides_4 k4 M x0 x1 x3 = some res) : GoN X shR nR 0 0 M 4 [some (.ref (X.B + x0)), some (.int (x1)), none, some (.int (x3)), none] [] := by
  refine r_iload_n (i := 3) hX e_X11_rides_4 rfl rfl ?_
  refine r_aload_n (i := 0) hX e_X11_rides_5 rfl rfl ?_
  obtain ⟨g1, hf⟩ := gd_s hf
  obtain ⟨r2, hr2, hf⟩ := bd_s hf
  refine r_getR hX hn e_X11_rides_6 fl_11_34 rfl g1 hr2 ?_
  refine r_iconst hX e_X11_rides_9 ic_1 ?_
  obtain ⟨g3, hf⟩ := gd_s hf
  refine r_iald hX hn e_X11_rides_10 g3 ?_
  refine r_icmp_ge hX e_X11_rides_11 (fun hc => ?_) (fun hc => ?_)
  · have hf := ite_t hf hc
    exact r_ret hX hR e_X11_rides_47 hf
  · have hf := ite_f hf hc
    refine r_aload_n (i := 0) hX e_X11_rides_14 rfl rfl ?_
    refine r_iload_n (i := 1) hX e_X11_rides_15 rfl rfl ?_
    refine r_iload_n (i := 3) hX e_X11_rides_16 rfl rfl ?_
    obtain ⟨v4, hv4, hf⟩ := bd_s hf
    refine r_cvi (As := fun K B => [.int (x1), .int (x3)]) hX hn (t_X11_placeOf hv4) e_X11_rides_17 cw_X11_placeOf cv_X11_placeOf lk_11_359 ⟨Nat.le_of_ble_eq_true rfl, Nat.le_of_ble_eq_true rfl⟩ (ci := 11) rfl rfl (Nat.le_of_ble_eq_true rfl) g1 rfl rfl (Nat.le_of_ble_eq_true rfl) ⟨Nat.zero_le _, Nat.zero_le _⟩ ?_
    refine r_istore hX e_X11_rides_20 (Nat.le_of_ble_eq_true rfl) rfl ?_
    refine r_iload_n (i := 3) hX e_X11_rides_22 rfl rfl ?_
    refine r_aload_n (i := 0) hX e_X11_rides_23 rfl rfl ?_
    obtain ⟨r5, hr5, hf⟩ := bd_s hf
    refine r_getR hX hn e_X11_rides_24 fl_11_119 rfl g1 hr5 ?_
    refine r_iload hX e_X11_rides_27 rfl ?_
    obtain ⟨g6, hf⟩ := gd_s hf
    refine r_iald hX hn e_X11_rides_29 g6 ?_
    refine r_icmp_ge hX e_X11_rides_30 (fun hc => ?_) (fun hc => ?_)
    · have hf := ite_t hf hc
      refine r_iinc (v := x3 + 1) hX e_X11_rides_41 rfl (ii_s ic_1) (Nat.le_of_ble_eq_true rfl) rfl ?_
      refine r_goto hX e_X11_rides_44 ?_
      exact GoN.weak (hk4 M (x0) (x1) ((x3 + 1)) hf) rfl (sb_s (sb_s (sb_n (sb_s (sb_n (sb_z _))))))
    · have hf := ite_f hf hc
      refine r_aload_n (i := 0) hX e_X11_rides_33 rfl rfl ?_
      refine r_getR hX hn e_X11_rides_34 fl_11_119 rfl g1 hr5 ?_
      refine r_iload hX e_X11_rides_37 rfl ?_
      refine r_iload_n (i := 3) hX e_X11_rides_39 rfl rfl ?_
      obtain ⟨M7, hM7, hf⟩ := nx_s hf
      refine r_iast hX hn hM7 e_X11_rides_40 g6 ?_
      refine r_iinc (v := x3 + 1) hX e_X11_rides_41 rfl (ii_s ic_1) (Nat.le_of_ble_eq_true rfl) rfl ?_
      refine r_goto hX e_X11_rides_44 ?_
      exact GoN.weak (hk4 M7 (x0) (x1) ((x3 + 1)) hf) rfl (sb_s (sb_s (sb_n (sb_s (sb_n (sb_z _))))))
theorem t_X11_rides_4 {X : Cx} {res : Mem}  (hX : OkX X cX11_rides RX11 2 46) (hn : Fit X shR nR) (hR : RetV X shR nR res)  : ∀ (n : Nat) (M : Mem) (x0 : Nat) (x1 : Int32) (x3 : Int32),  f_X11_rides_4  n M x0 x1 x3 = some res → GoN X shR nR 0 0 M 4 [some (.ref (X.B + x0)), some (.int (x1)), none, some (.int (x3)), none] [] := by
  intro n
  induction n with
  | zero => intro M x0 x1 x3 hf; cases hf
  | succ n ih => intro M x0 x1 x3 hf; exact t_s_X11_rides_4 hX hn hR  ih M x0 x1 x3 hf
theorem t_X11_rides {l : Launch} {M : Mem} {a0 : Nat} {a1 a2 : Int32} {res : Mem} (hf : f_X11_rides M a0 a1 a2 = some res) : Cv l yX11_rides cX11_rides 5 none 2 46 shR nR (fun K B => [.ref (B + a0), .int a1, .int a2]) M res := by
  refine met_v (own := RX11) (lo := fun K B => [some (.ref (B + a0)), some (.int a1), some (.int a2), none, none]) (by decide +kernel) rfl shR_ok (fun _ _ => rfl) (fun _ _ => rfl) (fun _ _ => Nat.le_of_ble_eq_true rfl) (fun X hX hn hlx hR => ?_)
  refine r_iload_n (i := 2) hX e_X11_rides_0 rfl rfl ?_
  refine r_iconst hX e_X11_rides_1 ic_1 ?_
  refine r_iadd hX e_X11_rides_2 ?_
  refine r_istore_n (i := 3) hX e_X11_rides_3 rfl (Nat.le_of_ble_eq_true rfl) rfl ?_
  exact GoN.weak (t_X11_rides_4 hX hn hR FU M (a0) (a1) ((a2 + 1)) hf) rfl (sb_s (sb_s (sb_n (sb_s (sb_n (sb_z _))))))
def s_X11_goesOn_138 (k138 : Mem → Nat → Int32 → Option (Mem)) (M : Mem) (x0 : Nat) (x2 : Int32) : Option (Mem) :=
  gd (oB shR x0 11) <| bd (gR M x0 17) fun r2 => gd (aB shR r2 0 0) <| if (gI M r2 (0 : Int32).toNatClampNeg) ≤ x2 then some M else bd (gR M x0 52) fun r4 => bd (gR M x0 53) fun r5 => gd (aB shR r5 0 x2) <| gd (aB shR r4 0 x2) <| nx (sI M r4 (x2 : Int32).toNatClampNeg (gI M r5 (x2 : Int32).toNatClampNeg)) fun M8 => k138 M8 (x0) ((x2 + 1))
def f_X11_goesOn_138  : Nat → Mem → Nat → Int32 → Option (Mem)
  | 0 => fun _ _ _ => none
  | n + 1 => fun y0 y1 y2 => s_X11_goesOn_138  (f_X11_goesOn_138  n) y0 y1 y2
def s_X11_goesOn_89 (k32 : Mem → Nat → Int32 → Int32 → Option (Mem)) (k76 : Mem → Nat → Int32 → Int32 → Int32 → Option (Mem)) (k89 : Mem → Nat → Int32 → Int32 → Int32 → Int32 → Option (Mem)) (M : Mem) (x0 : Nat) (x1 : Int32) (x2 : Int32) (x3 : Int32) (x4 : Int32) : Option (Mem) :=
  gd (oB shR x0 11) <| bd (gR M x0 17) fun r2 => gd (aB shR r2 0 3) <| if (gI M r2 (3 : Int32).toNatClampNeg) ≤ x4 then k76 M (x0) (x1) (x2) ((x3 + 1)) else bd (f_X11_placeOf M x0 x4 x3) fun v4 => if v4 = x2 then bd (f_X11_rides M x0 x4 x3) fun u5 => k89 u5 (x0) (x1) (x2) (x3) ((x4 + 1)) else k89 M (x0) (x1) (x2) (x3) ((x4 + 1))
def f_X11_goesOn_89 (k32 : Mem → Nat → Int32 → Int32 → Option (Mem)) (k76 : Mem → Nat → Int32 → Int32 → Int32 → Option (Mem)) : Nat → Mem → Nat → Int32 → Int32 → Int32 → Int32 → Option (Mem)
  | 0 => fun _ _ _ _ _ _ => none
  | n + 1 => fun y0 y1 y2 y3 y4 y5 => s_X11_goesOn_89 k32 k76 (f_X11_goesOn_89 k32 k76 n) y0 y1 y2 y3 y4 y5
def s_X11_goesOn_76 (k32 : Mem → Nat → Int32 → Int32 → Option (Mem)) (k76 : Mem → Nat → Int32 → Int32 → Int32 → Option (Mem)) (M : Mem) (x0 : Nat) (x1 : Int32) (x2 : Int32) (x3 : Int32) : Option (Mem) :=
  gd (oB shR x0 11) <| bd (gR M x0 17) fun r2 => gd (aB shR r2 0 1) <| if (gI M r2 (1 : Int32).toNatClampNeg) ≤ x3 then k32 M (x0) (x1) ((x2 + 1)) else f_X11_goesOn_89 k32 k76 FU M (x0) (x1) (x2) (x3) (0)
def f_X11_goesOn_76 (k32 : Mem → Nat → Int32 → Int32 → Option (Mem)) : Nat → Mem → Nat → Int32 → Int32 → Int32 → Option (Mem)
  | 0 => fun _ _ _ _ _ => none
  | n + 1 => fun y0 y1 y2 y3 y4 => s_X11_goesOn_76 k32 (f_X11_goesOn_76 k32 n) y0 y1 y2 y3 y4
def s_X11_goesOn_32 (k32 : Mem → Nat → Int32 → Int32 → Option (Mem)) (M : Mem) (x0 : Nat) (x1 : Int32) (x2 : Int32) : Option (Mem) :=
  gd (oB shR x0 11) <| bd (gR M x0 17) fun r2 => gd (aB shR r2 0 0) <| if (gI M r2 (0 : Int32).toNatClampNeg) ≤ x2 then f_X11_goesOn_138 FU M (x0) (0) else bd (gR M x0 52) fun r4 => gd (aB shR r4 0 x2) <| if (gI M r4 (x2 : Int32).toNatClampNeg) = 1000000 then k32 M (x0) (x1) ((x2 + 1)) else if x2 = x1 then f_X11_goesOn_76 k32 FU M (x0) (x1) (x2) ((gI M r4 (x2 : Int32).toNatClampNeg)) else bd (f_X11_isHost M x0 x2) fun v6 => if v6 = 0 then k32 M (x0) (x1) ((x2 + 1)) else f_X11_goesOn_76 k32 FU M (x0) (x1) (x2) ((gI M r4 (x2 : Int32).toNatClampNeg))
def f_X11_goesOn_32  : Nat → Mem → Nat → Int32 → Int32 → Option (Mem)
  | 0 => fun _ _ _ _ => none
  | n + 1 => fun y0 y1 y2 y3 => s_X11_goesOn_32  (f_X11_goesOn_32  n) y0 y1 y2 y3
def s_X11_goesOn_2 (k2 : Mem → Nat → Int32 → Int32 → Option (Mem)) (M : Mem) (x0 : Nat) (x1 : Int32) (x2 : Int32) : Option (Mem) :=
  gd (oB shR x0 11) <| bd (gR M x0 17) fun r2 => gd (aB shR r2 0 0) <| if (gI M r2 (0 : Int32).toNatClampNeg) ≤ x2 then f_X11_goesOn_32 FU M (x0) (x1) (0) else bd (gR M x0 53) fun r4 => bd (gR M x0 52) fun r5 => gd (aB shR r5 0 x2) <| gd (aB shR r4 0 x2) <| nx (sI M r4 (x2 : Int32).toNatClampNeg (gI M r5 (x2 : Int32).toNatClampNeg)) fun M8 => k2 M8 (x0) (x1) ((x2 + 1))
def f_X11_goesOn_2  : Nat → Mem → Nat → Int32 → Int32 → Option (Mem)
  | 0 => fun _ _ _ _ => none
  | n + 1 => fun y0 y1 y2 y3 => s_X11_goesOn_2  (f_X11_goesOn_2  n) y0 y1 y2 y3
def f_X11_goesOn (M : Mem) (a0 : Nat) (a1 : Int32) : Option (Mem) :=
  f_X11_goesOn_2 FU M (a0) (a1) (0)
theorem t_s_X11_goesOn_138 {X : Cx} {res : Mem} {k138 : Mem → Nat → Int32 → Option (Mem)} (hX : OkX X cX11_goesOn RX11 3 70) (hn : Fit X shR nR) (hR : RetV X shR nR res) (hk138 : ∀ M x0 x2, k138 M x0 x2 = some res → GoN X shR nR 0 0 M 138 [some (.ref (X.B + x0)), none, some (.int (x2)), none, none] []) (M : Mem) (x0 : Nat) (x2 : Int32) (hf : s_X11_goesOn_138 k138 M x0 x2 = some res) : GoN X shR nR 0 0 M 138 [some (.ref (X.B + x0)), none, some (.int (x2)), none, none] [] := by
  refine r_iload_n (i := 2) hX e_X11_goesOn_138 rfl rfl ?_
  refine r_aload_n (i := 0) hX e_X11_goesOn_139 rfl rfl ?_
  obtain ⟨g1, hf⟩ := gd_s hf
  obtain ⟨r2, hr2, hf⟩ := bd_s hf
  refine r_getR hX hn e_X11_goesOn_140 fl_11_34 rfl g1 hr2 ?_
  refine r_iconst hX e_X11_goesOn_143 ic_0 ?_
  obtain ⟨g3, hf⟩ := gd_s hf
  refine r_iald hX hn e_X11_goesOn_144 g3 ?_
  refine r_icmp_ge hX e_X11_goesOn_145 (fun hc => ?_) (fun hc => ?_)
  · have hf := ite_t hf hc
    exact r_ret hX hR e_X11_goesOn_166 hf
  · have hf := ite_f hf hc
    refine r_aload_n (i := 0) hX e_X11_goesOn_148 rfl rfl ?_
    obtain ⟨r4, hr4, hf⟩ := bd_s hf
    refine r_getR hX hn e_X11_goesOn_149 fl_11_116 rfl g1 hr4 ?_
    refine r_iload_n (i := 2) hX e_X11_goesOn_152 rfl rfl ?_
    refine r_aload_n (i := 0) hX e_X11_goesOn_153 rfl rfl ?_
    obtain ⟨r5, hr5, hf⟩ := bd_s hf
    refine r_getR hX hn e_X11_goesOn_154 fl_11_119 rfl g1 hr5 ?_
    refine r_iload_n (i := 2) hX e_X11_goesOn_157 rfl rfl ?_
    obtain ⟨g6, hf⟩ := gd_s hf
    refine r_iald hX hn e_X11_goesOn_158 g6 ?_
    obtain ⟨g7, hf⟩ := gd_s hf
    obtain ⟨M8, hM8, hf⟩ := nx_s hf
    refine r_iast hX hn hM8 e_X11_goesOn_159 g7 ?_
    refine r_iinc (v := x2 + 1) hX e_X11_goesOn_160 rfl (ii_s ic_1) (Nat.le_of_ble_eq_true rfl) rfl ?_
    refine r_goto hX e_X11_goesOn_163 ?_
    exact GoN.weak (hk138 M8 (x0) ((x2 + 1)) hf) rfl (sb_s (sb_n (sb_s (sb_n (sb_n (sb_z _))))))
theorem t_X11_goesOn_138 {X : Cx} {res : Mem}  (hX : OkX X cX11_goesOn RX11 3 70) (hn : Fit X shR nR) (hR : RetV X shR nR res)  : ∀ (n : Nat) (M : Mem) (x0 : Nat) (x2 : Int32),  f_X11_goesOn_138  n M x0 x2 = some res → GoN X shR nR 0 0 M 138 [some (.ref (X.B + x0)), none, some (.int (x2)), none, none] [] := by
  intro n
  induction n with
  | zero => intro M x0 x2 hf; cases hf
  | succ n ih => intro M x0 x2 hf; exact t_s_X11_goesOn_138 hX hn hR  ih M x0 x2 hf
theorem t_s_X11_goesOn_89 {X : Cx} {res : Mem} {k32 : Mem → Nat → Int32 → Int32 → Option (Mem)} {k76 : Mem → Nat → Int32 → Int32 → Int32 → Option (Mem)} {k89 : Mem → Nat → Int32 → Int32 → Int32 → Int32 → Option (Mem)} (hX : OkX X cX11_goesOn RX11 3 70) (hn : Fit X shR nR) (hR : RetV X shR nR res) (hk32 : ∀ M x0 x1 x2, k32 M x0 x1 x2 = some res → GoN X shR nR 0 0 M 32 [some (.ref (X.B + x0)), some (.int (x1)), some (.int (x2)), none, none] []) (hk76 : ∀ M x0 x1 x2 x3, k76 M x0 x1 x2 x3 = some res → GoN X shR nR 0 0 M 76 [some (.ref (X.B + x0)), some (.int (x1)), some (.int (x2)), some (.int (x3)), none] []) (hk89 : ∀ M x0 x1 x2 x3 x4, k89 M x0 x1 x2 x3 x4 = some res → GoN X shR nR 0 0 M 89 [some (.ref (X.B + x0)), some (.int (x1)), some (.int (x2)), some (.int (x3)), some (.int (x4))] []) (M : Mem) (x0 : Nat) (x1 : Int32) (x2 : Int32) (x3 : Int32) (x4 : Int32) (hf : s_X11_goesOn_89 k32 k76 k89 M x0 x1 x2 x3 x4 = some res) : GoN X shR nR 0 0 M 89 [some (.ref (X.B + x0)), some (.int (x1)), some (.int (x2)), some (.int (x3)), some (.int (x4))] [] := by
  refine r_iload hX e_X11_goesOn_89 rfl ?_
  refine r_aload_n (i := 0) hX e_X11_goesOn_91 rfl rfl ?_
  obtain ⟨g1, hf⟩ := gd_s hf
  obtain ⟨r2, hr2, hf⟩ := bd_s hf
  refine r_getR hX hn e_X11_goesOn_92 fl_11_34 rfl g1 hr2 ?_
  refine r_iconst hX e_X11_goesOn_95 ic_3 ?_
  obtain ⟨g3, hf⟩ := gd_s hf
  refine r_iald hX hn e_X11_goesOn_96 g3 ?_
  refine r_icmp_ge hX e_X11_goesOn_97 (fun hc => ?_) (fun hc => ?_)
  · have hf := ite_t hf hc
    refine r_iinc (v := x3 + 1) hX e_X11_goesOn_124 rfl (ii_s ic_1) (Nat.le_of_ble_eq_true rfl) rfl ?_
    refine r_goto hX e_X11_goesOn_127 ?_
    exact GoN.weak (hk76 M (x0) (x1) (x2) ((x3 + 1)) hf) rfl (sb_s (sb_s (sb_s (sb_s (sb_n (sb_z _))))))
  · have hf := ite_f hf hc
    refine r_aload_n (i := 0) hX e_X11_goesOn_100 rfl rfl ?_
    refine r_iload hX e_X11_goesOn_101 rfl ?_
    refine r_iload_n (i := 3) hX e_X11_goesOn_103 rfl rfl ?_
    obtain ⟨v4, hv4, hf⟩ := bd_s hf
    refine r_cvi (As := fun K B => [.int (x4), .int (x3)]) hX hn (t_X11_placeOf hv4) e_X11_goesOn_104 cw_X11_placeOf cv_X11_placeOf lk_11_359 ⟨Nat.le_of_ble_eq_true rfl, Nat.le_of_ble_eq_true rfl⟩ (ci := 11) rfl rfl (Nat.le_of_ble_eq_true rfl) g1 rfl rfl (Nat.le_of_ble_eq_true rfl) ⟨Nat.zero_le _, Nat.zero_le _⟩ ?_
    refine r_iload_n (i := 2) hX e_X11_goesOn_107 rfl rfl ?_
    refine r_icmp_ne hX e_X11_goesOn_108 (fun hc => ?_) (fun hc => ?_)
    · have hf := ite_f hf hc
      refine r_iinc (v := x4 + 1) hX e_X11_goesOn_118 rfl (ii_s ic_1) (Nat.le_of_ble_eq_true rfl) rfl ?_
      refine r_goto hX e_X11_goesOn_121 ?_
      exact GoN.weak (hk89 M (x0) (x1) (x2) (x3) ((x4 + 1)) hf) rfl (sb_s (sb_s (sb_s (sb_s (sb_s (sb_z _))))))
    · have hf := ite_t hf hc
      refine r_aload_n (i := 0) hX e_X11_goesOn_111 rfl rfl ?_
      refine r_iload hX e_X11_goesOn_112 rfl ?_
      refine r_iload_n (i := 3) hX e_X11_goesOn_114 rfl rfl ?_
      obtain ⟨u5, hu5, hf⟩ := bd_s hf
      refine r_cvv (As := fun K B => [.int (x4), .int (x3)]) hX hn (t_X11_rides hu5) e_X11_goesOn_115 cw_X11_rides cv_X11_rides lk_11_420 ⟨Nat.le_of_ble_eq_true rfl, Nat.le_of_ble_eq_true rfl⟩ (ci := 11) rfl rfl (Nat.le_of_ble_eq_true rfl) g1 rfl rfl (Nat.le_of_ble_eq_true rfl) ⟨Nat.zero_le _, Nat.zero_le _⟩ ?_
      refine r_iinc (v := x4 + 1) hX e_X11_goesOn_118 rfl (ii_s ic_1) (Nat.le_of_ble_eq_true rfl) rfl ?_
      refine r_goto hX e_X11_goesOn_121 ?_
      exact GoN.weak (hk89 u5 (x0) (x1) (x2) (x3) ((x4 + 1)) hf) rfl (sb_s (sb_s (sb_s (sb_s (sb_s (sb_z _))))))
theorem t_X11_goesOn_89 {X : Cx} {res : Mem} {k32 : Mem → Nat → Int32 → Int32 → Option (Mem)} {k76 : Mem → Nat → Int32 → Int32 → Int32 → Option (Mem)} (hX : OkX X cX11_goesOn RX11 3 70) (hn : Fit X shR nR) (hR : RetV X shR nR res) (hk32 : ∀ M x0 x1 x2, k32 M x0 x1 x2 = some res → GoN X shR nR 0 0 M 32 [some (.ref (X.B + x0)), some (.int (x1)), some (.int (x2)), none, none] []) (hk76 : ∀ M x0 x1 x2 x3, k76 M x0 x1 x2 x3 = some res → GoN X shR nR 0 0 M 76 [some (.ref (X.B + x0)), some (.int (x1)), some (.int (x2)), some (.int (x3)), none] []) : ∀ (n : Nat) (M : Mem) (x0 : Nat) (x1 : Int32) (x2 : Int32) (x3 : Int32) (x4 : Int32),  f_X11_goesOn_89 k32 k76 n M x0 x1 x2 x3 x4 = some res → GoN X shR nR 0 0 M 89 [some (.ref (X.B + x0)), some (.int (x1)), some (.int (x2)), some (.int (x3)), some (.int (x4))] [] := by
  intro n
  induction n with
  | zero => intro M x0 x1 x2 x3 x4 hf; cases hf
  | succ n ih => intro M x0 x1 x2 x3 x4 hf; exact t_s_X11_goesOn_89 hX hn hR hk32 hk76 ih M x0 x1 x2 x3 x4 hf
theorem t_s_X11_goesOn_76 {X : Cx} {res : Mem} {k32 : Mem → Nat → Int32 → Int32 → Option (Mem)} {k76 : Mem → Nat → Int32 → Int32 → Int32 → Option (Mem)} (hX : OkX X cX11_goesOn RX11 3 70) (hn : Fit X shR nR) (hR : RetV X shR nR res) (hk32 : ∀ M x0 x1 x2, k32 M x0 x1 x2 = some res → GoN X shR nR 0 0 M 32 [some (.ref (X.B + x0)), some (.int (x1)), some (.int (x2)), none, none] []) (hk76 : ∀ M x0 x1 x2 x3, k76 M x0 x1 x2 x3 = some res → GoN X shR nR 0 0 M 76 [some (.ref (X.B + x0)), some (.int (x1)), some (.int (x2)), some (.int (x3)), none] []) (M : Mem) (x0 : Nat) (x1 : Int32) (x2 : Int32) (x3 : Int32) (hf : s_X11_goesOn_76 k32 k76 M x0 x1 x2 x3 = some res) : GoN X shR nR 0 0 M 76 [some (.ref (X.B + x0)), some (.int (x1)), some (.int (x2)), some (.int (x3)), none] [] := by
  refine r_iload_n (i := 3) hX e_X11_goesOn_76 rfl rfl ?_
  refine r_aload_n (i := 0) hX e_X11_goesOn_77 rfl rfl ?_
  obtain ⟨g1, hf⟩ := gd_s hf
  obtain ⟨r2, hr2, hf⟩ := bd_s hf
  refine r_getR hX hn e_X11_goesOn_78 fl_11_34 rfl g1 hr2 ?_
  refine r_iconst hX e_X11_goesOn_81 ic_1 ?_
  obtain ⟨g3, hf⟩ := gd_s hf
  refine r_iald hX hn e_X11_goesOn_82 g3 ?_
  refine r_icmp_ge hX e_X11_goesOn_83 (fun hc => ?_) (fun hc => ?_)
  · have hf := ite_t hf hc
    refine r_iinc (v := x2 + 1) hX e_X11_goesOn_130 rfl (ii_s ic_1) (Nat.le_of_ble_eq_true rfl) rfl ?_
    refine r_goto hX e_X11_goesOn_133 ?_
    exact GoN.weak (hk32 M (x0) (x1) ((x2 + 1)) hf) rfl (sb_s (sb_s (sb_s (sb_n (sb_n (sb_z _))))))
  · have hf := ite_f hf hc
    refine r_iconst hX e_X11_goesOn_86 ic_0 ?_
    refine r_istore hX e_X11_goesOn_87 (Nat.le_of_ble_eq_true rfl) rfl ?_
    exact GoN.weak (t_X11_goesOn_89 hX hn hR hk32 hk76 FU M (x0) (x1) (x2) (x3) (0) hf) rfl (sb_s (sb_s (sb_s (sb_s (sb_s (sb_z _))))))
theorem t_X11_goesOn_76 {X : Cx} {res : Mem} {k32 : Mem → Nat → Int32 → Int32 → Option (Mem)} (hX : OkX X cX11_goesOn RX11 3 70) (hn : Fit X shR nR) (hR : RetV X shR nR res) (hk32 : ∀ M x0 x1 x2, k32 M x0 x1 x2 = some res → GoN X shR nR 0 0 M 32 [some (.ref (X.B + x0)), some (.int (x1)), some (.int (x2)), none, none] []) : ∀ (n : Nat) (M : Mem) (x0 : Nat) (x1 : Int32) (x2 : Int32) (x3 : Int32),  f_X11_goesOn_76 k32 n M x0 x1 x2 x3 = some res → GoN X shR nR 0 0 M 76 [some (.ref (X.B + x0)), some (.int (x1)), some (.int (x2)), some (.int (x3)), none] [] := by
  intro n
  induction n with
  | zero => intro M x0 x1 x2 x3 hf; cases hf
  | succ n ih => intro M x0 x1 x2 x3 hf; exact t_s_X11_goesOn_76 hX hn hR hk32 ih M x0 x1 x2 x3 hf
theorem t_s_X11_goesOn_32 {X : Cx} {res : Mem} {k32 : Mem → Nat → Int32 → Int32 → Option (Mem)} (hX : OkX X cX11_goesOn RX11 3 70) (hn : Fit X shR nR) (hR : RetV X shR nR res) (hk32 : ∀ M x0 x1 x2, k32 M x0 x1 x2 = some res → GoN X shR nR 0 0 M 32 [some (.ref (X.B + x0)), some (.int (x1)), some (.int (x2)), none, none] []) (M : Mem) (x0 : Nat) (x1 : Int32) (x2 : Int32) (hf : s_X11_goesOn_32 k32 M x0 x1 x2 = some res) : GoN X shR nR 0 0 M 32 [some (.ref (X.B + x0)), some (.int (x1)), some (.int (x2)), none, none] [] := by
  refine r_iload_n (i := 2) hX e_X11_goesOn_32 rfl rfl ?_
  refine r_aload_n (i := 0) hX e_X11_goesOn_33 rfl rfl ?_
  obtain ⟨g1, hf⟩ := gd_s hf
  obtain ⟨r2, hr2, hf⟩ := bd_s hf
  refine r_getR hX hn e_X11_goesOn_34 fl_11_34 rfl g1 hr2 ?_
  refine r_iconst hX e_X11_goesOn_37 ic_0 ?_
  obtain ⟨g3, hf⟩ := gd_s hf
  refine r_iald hX hn e_X11_goesOn_38 g3 ?_
  refine r_icmp_ge hX e_X11_goesOn_39 (fun hc => ?_) (fun hc => ?_)
  · have hf := ite_t hf hc
    refine r_iconst hX e_X11_goesOn_136 ic_0 ?_
    refine r_istore_n (i := 2) hX e_X11_goesOn_137 rfl (Nat.le_of_ble_eq_true rfl) rfl ?_
    exact GoN.weak (t_X11_goesOn_138 hX hn hR FU M (x0) (0) hf) rfl (sb_s (sb_n (sb_s (sb_n (sb_n (sb_z _))))))
  · have hf := ite_f hf hc
    refine r_aload_n (i := 0) hX e_X11_goesOn_42 rfl rfl ?_
    obtain ⟨r4, hr4, hf⟩ := bd_s hf
    refine r_getR hX hn e_X11_goesOn_43 fl_11_116 rfl g1 hr4 ?_
    refine r_iload_n (i := 2) hX e_X11_goesOn_46 rfl rfl ?_
    obtain ⟨g5, hf⟩ := gd_s hf
    refine r_iald hX hn e_X11_goesOn_47 g5 ?_
    refine r_ldc hX e_X11_goesOn_48 wk_1348 ?_
    refine r_icmp_eq hX e_X11_goesOn_50 (fun hc => ?_) (fun hc => ?_)
    · have hf := ite_t hf hc
      refine r_iinc (v := x2 + 1) hX e_X11_goesOn_130 rfl (ii_s ic_1) (Nat.le_of_ble_eq_true rfl) rfl ?_
      refine r_goto hX e_X11_goesOn_133 ?_
      exact GoN.weak (hk32 M (x0) (x1) ((x2 + 1)) hf) rfl (sb_s (sb_s (sb_s (sb_n (sb_n (sb_z _))))))
    · have hf := ite_f hf hc
      refine r_iload_n (i := 2) hX e_X11_goesOn_53 rfl rfl ?_
      refine r_iload_n (i := 1) hX e_X11_goesOn_54 rfl rfl ?_
      refine r_icmp_eq hX e_X11_goesOn_55 (fun hc => ?_) (fun hc => ?_)
      · have hf := ite_t hf hc
        refine r_aload_n (i := 0) hX e_X11_goesOn_69 rfl rfl ?_
        refine r_getR hX hn e_X11_goesOn_70 fl_11_116 rfl g1 hr4 ?_
        refine r_iload_n (i := 2) hX e_X11_goesOn_73 rfl rfl ?_
        refine r_iald hX hn e_X11_goesOn_74 g5 ?_
        refine r_istore_n (i := 3) hX e_X11_goesOn_75 rfl (Nat.le_of_ble_eq_true rfl) rfl ?_
        exact GoN.weak (t_X11_goesOn_76 hX hn hR hk32 FU M (x0) (x1) (x2) ((gI M r4 (x2 : Int32).toNatClampNeg)) hf) rfl (sb_s (sb_s (sb_s (sb_s (sb_n (sb_z _))))))
      · have hf := ite_f hf hc
        refine r_aload_n (i := 0) hX e_X11_goesOn_58 rfl rfl ?_
        refine r_iload_n (i := 2) hX e_X11_goesOn_59 rfl rfl ?_
        obtain ⟨v6, hv6, hf⟩ := bd_s hf
        refine r_cvi (As := fun K B => [.int (x2)]) hX hn (t_X11_isHost hv6) e_X11_goesOn_60 cw_X11_isHost cv_X11_isHost lk_11_417 ⟨Nat.le_of_ble_eq_true rfl, Nat.le_of_ble_eq_true rfl⟩ (ci := 11) rfl rfl (Nat.le_of_ble_eq_true rfl) g1 rfl rfl (Nat.le_of_ble_eq_true rfl) ⟨Nat.zero_le _, Nat.zero_le _⟩ ?_
        refine r_if_ne hX e_X11_goesOn_63 (fun hc => ?_) (fun hc => ?_)
        · have hf := ite_f hf hc
          refine r_aload_n (i := 0) hX e_X11_goesOn_69 rfl rfl ?_
          refine r_getR hX hn e_X11_goesOn_70 fl_11_116 rfl g1 hr4 ?_
          refine r_iload_n (i := 2) hX e_X11_goesOn_73 rfl rfl ?_
          refine r_iald hX hn e_X11_goesOn_74 g5 ?_
          refine r_istore_n (i := 3) hX e_X11_goesOn_75 rfl (Nat.le_of_ble_eq_true rfl) rfl ?_
          exact GoN.weak (t_X11_goesOn_76 hX hn hR hk32 FU M (x0) (x1) (x2) ((gI M r4 (x2 : Int32).toNatClampNeg)) hf) rfl (sb_s (sb_s (sb_s (sb_s (sb_n (sb_z _))))))
        · have hf := ite_t hf hc
          refine r_goto hX e_X11_goesOn_66 ?_
          refine r_iinc (v := x2 + 1) hX e_X11_goesOn_130 rfl (ii_s ic_1) (Nat.le_of_ble_eq_true rfl) rfl ?_
          refine r_goto hX e_X11_goesOn_133 ?_
          exact GoN.weak (hk32 M (x0) (x1) ((x2 + 1)) hf) rfl (sb_s (sb_s (sb_s (sb_n (sb_n (sb_z _))))))
theorem t_X11_goesOn_32 {X : Cx} {res : Mem}  (hX : OkX X cX11_goesOn RX11 3 70) (hn : Fit X shR nR) (hR : RetV X shR nR res)  : ∀ (n : Nat) (M : Mem) (x0 : Nat) (x1 : Int32) (x2 : Int32),  f_X11_goesOn_32  n M x0 x1 x2 = some res → GoN X shR nR 0 0 M 32 [some (.ref (X.B + x0)), some (.int (x1)), some (.int (x2)), none, none] [] := by
  intro n
  induction n with
  | zero => intro M x0 x1 x2 hf; cases hf
  | succ n ih => intro M x0 x1 x2 hf; exact t_s_X11_goesOn_32 hX hn hR  ih M x0 x1 x2 hf
theorem t_s_X11_goesOn_2 {X : Cx} {res : Mem} {k2 : Mem → Nat → Int32 → Int32 → Option (Mem)} (hX : OkX X cX11_goesOn RX11 3 70) (hn : Fit X shR nR) (hR : RetV X shR nR res) (hk2 : ∀ M x0 x1 x2, k2 M x0 x1 x2 = some res → GoN X shR nR 0 0 M 2 [some (.ref (X.B + x0)), some (.int (x1)), some (.int (x2)), none, none] []) (M : Mem) (x0 : Nat) (x1 : Int32) (x2 : Int32) (hf : s_X11_goesOn_2 k2 M x0 x1 x2 = some res) : GoN X shR nR 0 0 M 2 [some (.ref (X.B + x0)), some (.int (x1)), some (.int (x2)), none, none] [] := by
  refine r_iload_n (i := 2) hX e_X11_goesOn_2 rfl rfl ?_
  refine r_aload_n (i := 0) hX e_X11_goesOn_3 rfl rfl ?_
  obtain ⟨g1, hf⟩ := gd_s hf
  obtain ⟨r2, hr2, hf⟩ := bd_s hf
  refine r_getR hX hn e_X11_goesOn_4 fl_11_34 rfl g1 hr2 ?_
  refine r_iconst hX e_X11_goesOn_7 ic_0 ?_
  obtain ⟨g3, hf⟩ := gd_s hf
  refine r_iald hX hn e_X11_goesOn_8 g3 ?_
  refine r_icmp_ge hX e_X11_goesOn_9 (fun hc => ?_) (fun hc => ?_)
  · have hf := ite_t hf hc
    refine r_iconst hX e_X11_goesOn_30 ic_0 ?_
    refine r_istore_n (i := 2) hX e_X11_goesOn_31 rfl (Nat.le_of_ble_eq_true rfl) rfl ?_
    exact GoN.weak (t_X11_goesOn_32 hX hn hR FU M (x0) (x1) (0) hf) rfl (sb_s (sb_s (sb_s (sb_n (sb_n (sb_z _))))))
  · have hf := ite_f hf hc
    refine r_aload_n (i := 0) hX e_X11_goesOn_12 rfl rfl ?_
    obtain ⟨r4, hr4, hf⟩ := bd_s hf
    refine r_getR hX hn e_X11_goesOn_13 fl_11_119 rfl g1 hr4 ?_
    refine r_iload_n (i := 2) hX e_X11_goesOn_16 rfl rfl ?_
    refine r_aload_n (i := 0) hX e_X11_goesOn_17 rfl rfl ?_
    obtain ⟨r5, hr5, hf⟩ := bd_s hf
    refine r_getR hX hn e_X11_goesOn_18 fl_11_116 rfl g1 hr5 ?_
    refine r_iload_n (i := 2) hX e_X11_goesOn_21 rfl rfl ?_
    obtain ⟨g6, hf⟩ := gd_s hf
    refine r_iald hX hn e_X11_goesOn_22 g6 ?_
    obtain ⟨g7, hf⟩ := gd_s hf
    obtain ⟨M8, hM8, hf⟩ := nx_s hf
    refine r_iast hX hn hM8 e_X11_goesOn_23 g7 ?_
    refine r_iinc (v := x2 + 1) hX e_X11_goesOn_24 rfl (ii_s ic_1) (Nat.le_of_ble_eq_true rfl) rfl ?_
    refine r_goto hX e_X11_goesOn_27 ?_
    exact GoN.weak (hk2 M8 (x0) (x1) ((x2 + 1)) hf) rfl (sb_s (sb_s (sb_s (sb_n (sb_n (sb_z _))))))
theorem t_X11_goesOn_2 {X : Cx} {res : Mem}  (hX : OkX X cX11_goesOn RX11 3 70) (hn : Fit X shR nR) (hR : RetV X shR nR res)  : ∀ (n : Nat) (M : Mem) (x0 : Nat) (x1 : Int32) (x2 : Int32),  f_X11_goesOn_2  n M x0 x1 x2 = some res → GoN X shR nR 0 0 M 2 [some (.ref (X.B + x0)), some (.int (x1)), some (.int (x2)), none, none] [] := by
  intro n
  induction n with
  | zero => intro M x0 x1 x2 hf; cases hf
  | succ n ih => intro M x0 x1 x2 hf; exact t_s_X11_goesOn_2 hX hn hR  ih M x0 x1 x2 hf
theorem t_X11_goesOn {l : Launch} {M : Mem} {a0 : Nat} {a1 : Int32} {res : Mem} (hf : f_X11_goesOn M a0 a1 = some res) : Cv l yX11_goesOn cX11_goesOn 5 none 3 70 shR nR (fun K B => [.ref (B + a0), .int a1]) M res := by
  refine met_v (own := RX11) (lo := fun K B => [some (.ref (B + a0)), some (.int a1), none, none, none]) (by decide +kernel) rfl shR_ok (fun _ _ => rfl) (fun _ _ => rfl) (fun _ _ => Nat.le_of_ble_eq_true rfl) (fun X hX hn hlx hR => ?_)
  refine r_iconst hX e_X11_goesOn_0 ic_0 ?_
  refine r_istore_n (i := 2) hX e_X11_goesOn_1 rfl (Nat.le_of_ble_eq_true rfl) rfl ?_
  exact GoN.weak (t_X11_goesOn_2 hX hn hR FU M (a0) (a1) (0) hf) rfl (sb_s (sb_s (sb_s (sb_n (sb_n (sb_z _))))))
def s_X11_sends_6 (k6 : Mem → Nat → Int32 → Int32 → Int32 → Option (Mem)) (M : Mem) (x0 : Nat) (x1 : Int32) (x2 : Int32) (x3 : Int32) : Option (Mem) :=
  if 12 ≤ x3 then some M else gd (oB shR x0 11) <| bd (gR M x0 52) fun r2 => if x3 = x1 then gd (aB shR r2 0 x3) <| nx (sI M r2 (x3 : Int32).toNatClampNeg x2) fun M6 => k6 M6 (x0) (x1) (x2) ((x3 + 1)) else gd (aB shR r2 0 x3) <| nx (sI M r2 (x3 : Int32).toNatClampNeg 1000000) fun M4 => k6 M4 (x0) (x1) (x2) ((x3 + 1))
def f_X11_sends_6  : Nat → Mem → Nat → Int32 → Int32 → Int32 → Option (Mem)
  | 0 => fun _ _ _ _ _ => none
  | n + 1 => fun y0 y1 y2 y3 y4 => s_X11_sends_6  (f_X11_sends_6  n) y0 y1 y2 y3 y4
def f_X11_sends (M : Mem) (a0 : Nat) (a1 : Int32) (a2 : Int32) : Option (Mem) :=
  gd (oB shR a0 11) <| bd (f_X11_asTold M a0) fun u2 => f_X11_sends_6 FU u2 (a0) (a1) (a2) (0)
theorem t_s_X11_sends_6 {X : Cx} {res : Mem} {k6 : Mem → Nat → Int32 → Int32 → Int32 → Option (Mem)} (hX : OkX X cX11_sends RX11 4 92) (hn : Fit X shR nR) (hR : RetV X shR nR res) (hk6 : ∀ M x0 x1 x2 x3, k6 M x0 x1 x2 x3 = some res → GoN X shR nR 0 0 M 6 [some (.ref (X.B + x0)), some (.int (x1)), some (.int (x2)), some (.int (x3))] []) (M : Mem) (x0 : Nat) (x1 : Int32) (x2 : Int32) (x3 : Int32) (hf : s_X11_sends_6 k6 M x0 x1 x2 x3 = some res) : GoN X shR nR 0 0 M 6 [some (.ref (X.B + x0)), some (.int (x1)), some (.int (x2)), some (.int (x3))] [] := by
  refine r_iload_n (i := 3) hX e_X11_sends_6 rfl rfl ?_
  refine r_bipush hX e_X11_sends_7 bc_12 ?_
  refine r_icmp_ge hX e_X11_sends_9 (fun hc => ?_) (fun hc => ?_)
  · have hf := ite_t hf hc
    exact r_ret hX hR e_X11_sends_35 hf
  · have hf := ite_f hf hc
    refine r_aload_n (i := 0) hX e_X11_sends_12 rfl rfl ?_
    obtain ⟨g1, hf⟩ := gd_s hf
    obtain ⟨r2, hr2, hf⟩ := bd_s hf
    refine r_getR hX hn e_X11_sends_13 fl_11_116 rfl g1 hr2 ?_
    refine r_iload_n (i := 3) hX e_X11_sends_16 rfl rfl ?_
    refine r_iload_n (i := 3) hX e_X11_sends_17 rfl rfl ?_
    refine r_iload_n (i := 1) hX e_X11_sends_18 rfl rfl ?_
    refine r_icmp_ne hX e_X11_sends_19 (fun hc => ?_) (fun hc => ?_)
    · have hf := ite_f hf hc
      refine r_ldc hX e_X11_sends_26 wk_1348 ?_
      obtain ⟨g3, hf⟩ := gd_s hf
      obtain ⟨M4, hM4, hf⟩ := nx_s hf
      refine r_iast hX hn hM4 e_X11_sends_28 g3 ?_
      refine r_iinc (v := x3 + 1) hX e_X11_sends_29 rfl (ii_s ic_1) (Nat.le_of_ble_eq_true rfl) rfl ?_
      refine r_goto hX e_X11_sends_32 ?_
      exact GoN.weak (hk6 M4 (x0) (x1) (x2) ((x3 + 1)) hf) rfl (sb_s (sb_s (sb_s (sb_s (sb_z _)))))
    · have hf := ite_t hf hc
      refine r_iload_n (i := 2) hX e_X11_sends_22 rfl rfl ?_
      refine r_goto hX e_X11_sends_23 ?_
      obtain ⟨g5, hf⟩ := gd_s hf
      obtain ⟨M6, hM6, hf⟩ := nx_s hf
      refine r_iast hX hn hM6 e_X11_sends_28 g5 ?_
      refine r_iinc (v := x3 + 1) hX e_X11_sends_29 rfl (ii_s ic_1) (Nat.le_of_ble_eq_true rfl) rfl ?_
      refine r_goto hX e_X11_sends_32 ?_
      exact GoN.weak (hk6 M6 (x0) (x1) (x2) ((x3 + 1)) hf) rfl (sb_s (sb_s (sb_s (sb_s (sb_z _)))))
theorem t_X11_sends_6 {X : Cx} {res : Mem}  (hX : OkX X cX11_sends RX11 4 92) (hn : Fit X shR nR) (hR : RetV X shR nR res)  : ∀ (n : Nat) (M : Mem) (x0 : Nat) (x1 : Int32) (x2 : Int32) (x3 : Int32),  f_X11_sends_6  n M x0 x1 x2 x3 = some res → GoN X shR nR 0 0 M 6 [some (.ref (X.B + x0)), some (.int (x1)), some (.int (x2)), some (.int (x3))] [] := by
  intro n
  induction n with
  | zero => intro M x0 x1 x2 x3 hf; cases hf
  | succ n ih => intro M x0 x1 x2 x3 hf; exact t_s_X11_sends_6 hX hn hR  ih M x0 x1 x2 x3 hf
theorem t_X11_sends {l : Launch} {M : Mem} {a0 : Nat} {a1 a2 : Int32} {res : Mem} (hf : f_X11_sends M a0 a1 a2 = some res) : Cv l yX11_sends cX11_sends 4 none 4 92 shR nR (fun K B => [.ref (B + a0), .int a1, .int a2]) M res := by
  refine met_v (own := RX11) (lo := fun K B => [some (.ref (B + a0)), some (.int a1), some (.int a2), none]) (by decide +kernel) rfl shR_ok (fun _ _ => rfl) (fun _ _ => rfl) (fun _ _ => Nat.le_of_ble_eq_true rfl) (fun X hX hn hlx hR => ?_)
  refine r_aload_n (i := 0) hX e_X11_sends_0 rfl rfl ?_
  obtain ⟨g1, hf⟩ := gd_s hf
  obtain ⟨u2, hu2, hf⟩ := bd_s hf
  refine r_cvv (As := fun K B => []) hX hn (t_X11_asTold hu2) e_X11_sends_1 cw_X11_asTold cv_X11_asTold lk_11_356 ⟨Nat.le_of_ble_eq_true rfl, Nat.le_of_ble_eq_true rfl⟩ (ci := 11) rfl rfl (Nat.le_of_ble_eq_true rfl) g1 rfl rfl (Nat.le_of_ble_eq_true rfl) ⟨Nat.zero_le _, Nat.zero_le _⟩ ?_
  refine r_iconst hX e_X11_sends_4 ic_0 ?_
  refine r_istore_n (i := 3) hX e_X11_sends_5 rfl (Nat.le_of_ble_eq_true rfl) rfl ?_
  exact GoN.weak (t_X11_sends_6 hX hn hR FU u2 (a0) (a1) (a2) (0) hf) rfl (sb_s (sb_s (sb_s (sb_s (sb_z _)))))
def s_X11_send_64 (k64 : Mem → Nat → Int32 → Int32 → Int32 → Int32 → Int32 → Int32 → Option (Mem × Int32)) (M : Mem) (x0 : Nat) (x1 : Int32) (x2 : Int32) (x4 : Int32) (x5 : Int32) (x6 : Int32) (x7 : Int32) : Option (Mem × Int32) :=
  gd (oB shR x0 11) <| bd (gR M x0 17) fun r2 => gd (aB shR r2 0 0) <| if (gI M r2 (0 : Int32).toNatClampNeg) < x7 then if x6 = 1000000 then some (M, (-1)) else if x4 = 0 then some (M, x6) else some (M, x5) else bd (f_X11_goesOn M x0 x1) fun u4 => bd (gR u4 x0 52) fun r5 => gd (aB shR r5 0 x2) <| if (gI u4 r5 (x2 : Int32).toNatClampNeg) < x6 then k64 u4 (x0) (x1) (x2) (x4) (x7) ((gI u4 r5 (x2 : Int32).toNatClampNeg)) ((x7 + 1)) else k64 u4 (x0) (x1) (x2) (x4) (x5) (x6) ((x7 + 1))
def f_X11_send_64  : Nat → Mem → Nat → Int32 → Int32 → Int32 → Int32 → Int32 → Int32 → Option (Mem × Int32)
  | 0 => fun _ _ _ _ _ _ _ _ => none
  | n + 1 => fun y0 y1 y2 y3 y4 y5 y6 y7 => s_X11_send_64  (f_X11_send_64  n) y0 y1 y2 y3 y4 y5 y6 y7
def f_X11_send (M : Mem) (a0 : Nat) (a1 : Int32) (a2 : Int32) (a3 : Int32) (a4 : Int32) : Option (Mem × Int32) :=
  gd (oB shR a0 11) <| nx (sI M a0 0 0) fun M2 => bd (f_X11_isPlace M2 a0 a1) fun v3 => if v3 = 0 then some (M2, (-2)) else bd (f_X11_isPlace M2 a0 a2) fun v4 => if v4 = 0 then some (M2, (-2)) else if a1 = a2 then some (M2, (-2)) else bd (f_X11_isMinute M2 a0 a3) fun v5 => if v5 = 0 then some (M2, (-2)) else bd (f_X11_in M2 ((a4 : Int32).toInt64) 0 1) fun v6 => if v6 = 0 then some (M2, (-2)) else bd (f_X11_sends M2 a0 a1 a3) fun u7 => f_X11_send_64 FU u7 (a0) (a1) (a2) (a4) ((-1)) (1000000) (1)
theorem t_s_X11_send_64 {X : Cx} {res : Mem × Int32} {k64 : Mem → Nat → Int32 → Int32 → Int32 → Int32 → Int32 → Int32 → Option (Mem × Int32)} (hX : OkX X cX11_send RX11 5 115) (hn : Fit X shR nR) (hR : RetI X shR nR .int res) (hk64 : ∀ M x0 x1 x2 x4 x5 x6 x7, k64 M x0 x1 x2 x4 x5 x6 x7 = some res → GoN X shR nR 0 0 M 64 [some (.ref (X.B + x0)), some (.int (x1)), some (.int (x2)), none, some (.int (x4)), some (.int (x5)), some (.int (x6)), some (.int (x7))] []) (M : Mem) (x0 : Nat) (x1 : Int32) (x2 : Int32) (x4 : Int32) (x5 : Int32) (x6 : Int32) (x7 : Int32) (hf : s_X11_send_64 k64 M x0 x1 x2 x4 x5 x6 x7 = some res) : GoN X shR nR 0 0 M 64 [some (.ref (X.B + x0)), some (.int (x1)), some (.int (x2)), none, some (.int (x4)), some (.int (x5)), some (.int (x6)), some (.int (x7))] [] := by
  refine r_iload hX e_X11_send_64 rfl ?_
  refine r_aload_n (i := 0) hX e_X11_send_66 rfl rfl ?_
  obtain ⟨g1, hf⟩ := gd_s hf
  obtain ⟨r2, hr2, hf⟩ := bd_s hf
  refine r_getR hX hn e_X11_send_67 fl_11_34 rfl g1 hr2 ?_
  refine r_iconst hX e_X11_send_70 ic_0 ?_
  obtain ⟨g3, hf⟩ := gd_s hf
  refine r_iald hX hn e_X11_send_71 g3 ?_
  refine r_icmp_gt hX e_X11_send_72 (fun hc => ?_) (fun hc => ?_)
  · have hf := ite_t hf hc
    refine r_iload hX e_X11_send_112 rfl ?_
    refine r_ldc hX e_X11_send_114 wk_1348 ?_
    refine r_icmp_ne hX e_X11_send_116 (fun hc => ?_) (fun hc => ?_)
    · have hf := ite_f hf hc
      refine r_iload hX e_X11_send_123 rfl ?_
      refine r_if_ne hX e_X11_send_125 (fun hc => ?_) (fun hc => ?_)
      · have hf := ite_f hf hc
        refine r_iload hX e_X11_send_133 rfl ?_
        exact r_iret hX hR e_X11_send_135 hf
      · have hf := ite_t hf hc
        refine r_iload hX e_X11_send_128 rfl ?_
        refine r_goto hX e_X11_send_130 ?_
        exact r_iret hX hR e_X11_send_135 hf
    · have hf := ite_t hf hc
      refine r_iconst hX e_X11_send_119 ic_m1 ?_
      refine r_goto hX e_X11_send_120 ?_
      exact r_iret hX hR e_X11_send_135 hf
  · have hf := ite_f hf hc
    refine r_aload_n (i := 0) hX e_X11_send_75 rfl rfl ?_
    refine r_iload_n (i := 1) hX e_X11_send_76 rfl rfl ?_
    obtain ⟨u4, hu4, hf⟩ := bd_s hf
    refine r_cvv (As := fun K B => [.int (x1)]) hX hn (t_X11_goesOn hu4) e_X11_send_77 cw_X11_goesOn cv_X11_goesOn lk_11_426 ⟨Nat.le_of_ble_eq_true rfl, Nat.le_of_ble_eq_true rfl⟩ (ci := 11) rfl rfl (Nat.le_of_ble_eq_true rfl) g1 rfl rfl (Nat.le_of_ble_eq_true rfl) ⟨Nat.zero_le _, Nat.zero_le _⟩ ?_
    refine r_aload_n (i := 0) hX e_X11_send_80 rfl rfl ?_
    obtain ⟨r5, hr5, hf⟩ := bd_s hf
    refine r_getR hX hn e_X11_send_81 fl_11_116 rfl g1 hr5 ?_
    refine r_iload_n (i := 2) hX e_X11_send_84 rfl rfl ?_
    obtain ⟨g6, hf⟩ := gd_s hf
    refine r_iald hX hn e_X11_send_85 g6 ?_
    refine r_iload hX e_X11_send_86 rfl ?_
    refine r_icmp_lt hX e_X11_send_88 (fun hc => ?_) (fun hc => ?_)
    · have hf := ite_t hf hc
      refine r_aload_n (i := 0) hX e_X11_send_94 rfl rfl ?_
      refine r_getR hX hn e_X11_send_95 fl_11_116 rfl g1 hr5 ?_
      refine r_iload_n (i := 2) hX e_X11_send_98 rfl rfl ?_
      refine r_iald hX hn e_X11_send_99 g6 ?_
      refine r_istore hX e_X11_send_100 (Nat.le_of_ble_eq_true rfl) rfl ?_
      refine r_iload hX e_X11_send_102 rfl ?_
      refine r_istore hX e_X11_send_104 (Nat.le_of_ble_eq_true rfl) rfl ?_
      refine r_iinc (v := x7 + 1) hX e_X11_send_106 rfl (ii_s ic_1) (Nat.le_of_ble_eq_true rfl) rfl ?_
      refine r_goto hX e_X11_send_109 ?_
      exact GoN.weak (hk64 u4 (x0) (x1) (x2) (x4) (x7) ((gI u4 r5 (x2 : Int32).toNatClampNeg)) ((x7 + 1)) hf) rfl (sb_s (sb_s (sb_s (sb_n (sb_s (sb_s (sb_s (sb_s (sb_z _)))))))))
    · have hf := ite_f hf hc
      refine r_goto hX e_X11_send_91 ?_
      refine r_iinc (v := x7 + 1) hX e_X11_send_106 rfl (ii_s ic_1) (Nat.le_of_ble_eq_true rfl) rfl ?_
      refine r_goto hX e_X11_send_109 ?_
      exact GoN.weak (hk64 u4 (x0) (x1) (x2) (x4) (x5) (x6) ((x7 + 1)) hf) rfl (sb_s (sb_s (sb_s (sb_n (sb_s (sb_s (sb_s (sb_s (sb_z _)))))))))
theorem t_X11_send_64 {X : Cx} {res : Mem × Int32}  (hX : OkX X cX11_send RX11 5 115) (hn : Fit X shR nR) (hR : RetI X shR nR .int res)  : ∀ (n : Nat) (M : Mem) (x0 : Nat) (x1 : Int32) (x2 : Int32) (x4 : Int32) (x5 : Int32) (x6 : Int32) (x7 : Int32),  f_X11_send_64  n M x0 x1 x2 x4 x5 x6 x7 = some res → GoN X shR nR 0 0 M 64 [some (.ref (X.B + x0)), some (.int (x1)), some (.int (x2)), none, some (.int (x4)), some (.int (x5)), some (.int (x6)), some (.int (x7))] [] := by
  intro n
  induction n with
  | zero => intro M x0 x1 x2 x4 x5 x6 x7 hf; cases hf
  | succ n ih => intro M x0 x1 x2 x4 x5 x6 x7 hf; exact t_s_X11_send_64 hX hn hR  ih M x0 x1 x2 x4 x5 x6 x7 hf
theorem t_X11_send {l : Launch} {M : Mem} {a0 : Nat} {a1 a2 a3 a4 : Int32} {res : Mem × Int32} (hf : f_X11_send M a0 a1 a2 a3 a4 = some res) : Ci l yX11_send cX11_send 8 (some .int) 5 115 shR nR (fun K B => [.ref (B + a0), .int a1, .int a2, .int a3, .int a4]) M res := by
  refine met_i (own := RX11) (lo := fun K B => [some (.ref (B + a0)), some (.int a1), some (.int a2), some (.int a3), some (.int a4), none, none, none]) (by decide +kernel) rfl shR_ok (fun _ _ => rfl) (fun _ _ => rfl) (fun _ _ => Nat.le_of_ble_eq_true rfl) (fun X hX hn hlx hR => ?_)
  refine r_aload_n (i := 0) hX e_X11_send_0 rfl rfl ?_
  refine r_iconst hX e_X11_send_1 ic_0 ?_
  obtain ⟨g1, hf⟩ := gd_s hf
  obtain ⟨M2, hM2, hf⟩ := nx_s hf
  refine r_putI hX hn hM2 e_X11_send_2 fl_11_122 fp_11_0 rfl g1 ?_
  refine r_aload_n (i := 0) hX e_X11_send_5 rfl rfl ?_
  refine r_iload_n (i := 1) hX e_X11_send_6 rfl rfl ?_
  obtain ⟨v3, hv3, hf⟩ := bd_s hf
  refine r_cvi (As := fun K B => [.int (a1)]) hX hn (t_X11_isPlace hv3) e_X11_send_7 cw_X11_isPlace cv_X11_isPlace lk_11_362 ⟨Nat.le_of_ble_eq_true rfl, Nat.le_of_ble_eq_true rfl⟩ (ci := 11) rfl rfl (Nat.le_of_ble_eq_true rfl) g1 rfl rfl (Nat.le_of_ble_eq_true rfl) ⟨Nat.zero_le _, Nat.zero_le _⟩ ?_
  refine r_if_eq hX e_X11_send_10 (fun hc => ?_) (fun hc => ?_)
  · have hf := ite_t hf hc
    refine r_bipush hX e_X11_send_45 bc_m2 ?_
    exact r_iret hX hR e_X11_send_47 hf
  · have hf := ite_f hf hc
    refine r_aload_n (i := 0) hX e_X11_send_13 rfl rfl ?_
    refine r_iload_n (i := 2) hX e_X11_send_14 rfl rfl ?_
    obtain ⟨v4, hv4, hf⟩ := bd_s hf
    refine r_cvi (As := fun K B => [.int (a2)]) hX hn (t_X11_isPlace hv4) e_X11_send_15 cw_X11_isPlace cv_X11_isPlace lk_11_362 ⟨Nat.le_of_ble_eq_true rfl, Nat.le_of_ble_eq_true rfl⟩ (ci := 11) rfl rfl (Nat.le_of_ble_eq_true rfl) g1 rfl rfl (Nat.le_of_ble_eq_true rfl) ⟨Nat.zero_le _, Nat.zero_le _⟩ ?_
    refine r_if_eq hX e_X11_send_18 (fun hc => ?_) (fun hc => ?_)
    · have hf := ite_t hf hc
      refine r_bipush hX e_X11_send_45 bc_m2 ?_
      exact r_iret hX hR e_X11_send_47 hf
    · have hf := ite_f hf hc
      refine r_iload_n (i := 1) hX e_X11_send_21 rfl rfl ?_
      refine r_iload_n (i := 2) hX e_X11_send_22 rfl rfl ?_
      refine r_icmp_eq hX e_X11_send_23 (fun hc => ?_) (fun hc => ?_)
      · have hf := ite_t hf hc
        refine r_bipush hX e_X11_send_45 bc_m2 ?_
        exact r_iret hX hR e_X11_send_47 hf
      · have hf := ite_f hf hc
        refine r_aload_n (i := 0) hX e_X11_send_26 rfl rfl ?_
        refine r_iload_n (i := 3) hX e_X11_send_27 rfl rfl ?_
        obtain ⟨v5, hv5, hf⟩ := bd_s hf
        refine r_cvi (As := fun K B => [.int (a3)]) hX hn (t_X11_isMinute hv5) e_X11_send_28 cw_X11_isMinute cv_X11_isMinute lk_11_353 ⟨Nat.le_of_ble_eq_true rfl, Nat.le_of_ble_eq_true rfl⟩ (ci := 11) rfl rfl (Nat.le_of_ble_eq_true rfl) g1 rfl rfl (Nat.le_of_ble_eq_true rfl) ⟨Nat.zero_le _, Nat.zero_le _⟩ ?_
        refine r_if_eq hX e_X11_send_31 (fun hc => ?_) (fun hc => ?_)
        · have hf := ite_t hf hc
          refine r_bipush hX e_X11_send_45 bc_m2 ?_
          exact r_iret hX hR e_X11_send_47 hf
        · have hf := ite_f hf hc
          refine r_iload hX e_X11_send_34 rfl ?_
          refine r_i2l hX e_X11_send_36 ?_
          refine r_lconst hX e_X11_send_37 lc_0 ?_
          refine r_lconst hX e_X11_send_38 lc_1 ?_
          obtain ⟨v6, hv6, hf⟩ := bd_s hf
          refine r_csi (As := fun K B => [.long ((a4 : Int32).toInt64), .long (0), .long (1)]) hX hn (t_X11_in hv6) e_X11_send_39 cw_X11_in cv_X11_in lk_11_127 ⟨Nat.le_of_ble_eq_true rfl, Nat.le_of_ble_eq_true rfl⟩ rfl rfl (Nat.le_of_ble_eq_true rfl) ⟨Nat.zero_le _, Nat.zero_le _⟩ ?_
          refine r_if_ne hX e_X11_send_42 (fun hc => ?_) (fun hc => ?_)
          · have hf := ite_f hf hc
            refine r_aload_n (i := 0) hX e_X11_send_48 rfl rfl ?_
            refine r_iload_n (i := 1) hX e_X11_send_49 rfl rfl ?_
            refine r_iload_n (i := 3) hX e_X11_send_50 rfl rfl ?_
            obtain ⟨u7, hu7, hf⟩ := bd_s hf
            refine r_cvv (As := fun K B => [.int (a1), .int (a3)]) hX hn (t_X11_sends hu7) e_X11_send_51 cw_X11_sends cv_X11_sends lk_11_423 ⟨Nat.le_of_ble_eq_true rfl, Nat.le_of_ble_eq_true rfl⟩ (ci := 11) rfl rfl (Nat.le_of_ble_eq_true rfl) g1 rfl rfl (Nat.le_of_ble_eq_true rfl) ⟨Nat.zero_le _, Nat.zero_le _⟩ ?_
            refine r_iconst hX e_X11_send_54 ic_m1 ?_
            refine r_istore hX e_X11_send_55 (Nat.le_of_ble_eq_true rfl) rfl ?_
            refine r_ldc hX e_X11_send_57 wk_1348 ?_
            refine r_istore hX e_X11_send_59 (Nat.le_of_ble_eq_true rfl) rfl ?_
            refine r_iconst hX e_X11_send_61 ic_1 ?_
            refine r_istore hX e_X11_send_62 (Nat.le_of_ble_eq_true rfl) rfl ?_
            exact GoN.weak (t_X11_send_64 hX hn hR FU u7 (a0) (a1) (a2) (a4) ((-1)) (1000000) (1) hf) rfl (sb_s (sb_s (sb_s (sb_n (sb_s (sb_s (sb_s (sb_s (sb_z _)))))))))
          · have hf := ite_t hf hc
            refine r_bipush hX e_X11_send_45 bc_m2 ?_
            exact r_iret hX hR e_X11_send_47 hf
