def f_X11_cut (M : Mem) (a0 : Int64) (a1 : Int32) : Option (Int64) :=
  if a1 = 0 then nx ((((a0 : Int64).toInt32 : Int32).toInt8.toInt32 : Int32).toInt64) fun v2 => some v2 else if a1 = 1 then nx ((((a0 : Int64).toInt32 : Int32).toInt16.toInt32 : Int32).toInt64) fun v1 => some v1 else if a1 = 2 then some (((a0 : Int64).toInt32 : Int32).toInt64) else some a0
theorem t_X11_cut {l : Launch} {M : Mem} {a1 : Int32} {a0 : Int64} {res : Int64} (hf : f_X11_cut M a0 a1 = some res) : Cl l yX11_cut cX11_cut 3 (some .long) 0 0 shR nR (fun K B => [.long a0, .int a1]) M (M, res) := by
  refine met_l (own := RX11) (lo := fun K B => [some (.long a0), none, some (.int a1)]) (by decide +kernel) rfl shR_ok (fun _ _ => rfl) (fun _ _ => rfl) (fun _ _ => Nat.le_of_ble_eq_true rfl) (fun X hX hn hlx hR => ?_)
  refine r_iload_n (i := 2) hX e_X11_cut_0 rfl rfl ?_
  refine r_if_ne hX e_X11_cut_1 (fun hc => ?_) (fun hc => ?_)
  · have hf := ite_f hf hc
    refine r_iload_n (i := 2) hX e_X11_cut_11 rfl rfl ?_
    refine r_iconst hX e_X11_cut_12 ic_1 ?_
    refine r_icmp_ne hX e_X11_cut_13 (fun hc => ?_) (fun hc => ?_)
    · have hf := ite_f hf hc
      refine r_iload_n (i := 2) hX e_X11_cut_23 rfl rfl ?_
      refine r_iconst hX e_X11_cut_24 ic_2 ?_
      refine r_icmp_ne hX e_X11_cut_25 (fun hc => ?_) (fun hc => ?_)
      · have hf := ite_f hf hc
        refine r_lload_n (i := 0) hX e_X11_cut_34 rfl rfl ?_
        exact r_lret hX hR e_X11_cut_35 (ro_s hf)
      · have hf := ite_t hf hc
        refine r_lload_n (i := 0) hX e_X11_cut_28 rfl rfl ?_
        refine r_l2i hX e_X11_cut_29 ?_
        refine r_i2l hX e_X11_cut_30 ?_
        refine r_goto hX e_X11_cut_31 ?_
        exact r_lret hX hR e_X11_cut_35 (ro_s hf)
    · have hf := ite_t hf hc
      refine r_lload_n (i := 0) hX e_X11_cut_16 rfl rfl ?_
      refine r_l2i hX e_X11_cut_17 ?_
      refine r_i2s hX e_X11_cut_18 ?_
      refine r_i2l hX e_X11_cut_19 ?_
      obtain ⟨v1, hv1, hf⟩ := nx_s hf
      refine top_l hv1 ?_
      refine r_goto hX e_X11_cut_20 ?_
      exact r_lret hX hR e_X11_cut_35 (ro_s hf)
  · have hf := ite_t hf hc
    refine r_lload_n (i := 0) hX e_X11_cut_4 rfl rfl ?_
    refine r_l2i hX e_X11_cut_5 ?_
    refine r_i2b hX e_X11_cut_6 ?_
    refine r_i2l hX e_X11_cut_7 ?_
    obtain ⟨v2, hv2, hf⟩ := nx_s hf
    refine top_l hv2 ?_
    refine r_goto hX e_X11_cut_8 ?_
    exact r_lret hX hR e_X11_cut_35 (ro_s hf)
def f_X11_write (M : Mem) (a0 : Nat) (a1 : Int32) (a2 : Int32) (a3 : Int64) : Option (Mem × Int32) :=
  gd (oB shR a0 11) <| nx (sI M a0 0 0) fun M2 => bd (f_X11_isSlot M2 a1) fun v3 => if v3 = 0 then some (M2, (-2)) else bd (gR M2 a0 1) fun r4 => gd (aB shR r4 0 a1) <| if (gI M2 r4 (a1 : Int32).toNatClampNeg) = (-1) then some (M2, (-6)) else bd (gR M2 a0 2) fun r6 => gd (aB shR r6 0 a1) <| nx ((((gI M2 r6 (a1 : Int32).toNatClampNeg) - 1) : Int32).toInt64) fun v8 => bd (f_X11_in M2 ((a2 : Int32).toInt64) 0 v8) fun v9 => if v9 = 0 then some (M2, (-7)) else bd (gR M2 a0 3) fun r10 => bd (f_X11_cut M2 a3 (gI M2 r4 (a1 : Int32).toNatClampNeg)) fun v11 => gd (aB shR r10 1 ((60 * a1) + a2)) <| nx (sL M2 r10 (((60 * a1) + a2) : Int32).toNatClampNeg v11) fun M13 => some (M13, 0)
theorem t_X11_write {l : Launch} {M : Mem} {a0 : Nat} {a1 a2 : Int32} {a3 : Int64} {res : Mem × Int32} (hf : f_X11_write M a0 a1 a2 a3 = some res) : Ci l yX11_write cX11_write 5 (some .int) 2 45 shR nR (fun K B => [.ref (B + a0), .int a1, .int a2, .long a3]) M res := by
  refine met_i (own := RX11) (lo := fun K B => [some (.ref (B + a0)), some (.int a1), some (.int a2), some (.long a3), none]) (by decide +kernel) rfl shR_ok (fun _ _ => rfl) (fun _ _ => rfl) (fun _ _ => Nat.le_of_ble_eq_true rfl) (fun X hX hn hlx hR => ?_)
  refine r_aload_n (i := 0) hX e_X11_write_0 rfl rfl ?_
  refine r_iconst hX e_X11_write_1 ic_0 ?_
  obtain ⟨g1, hf⟩ := gd_s hf
  obtain ⟨M2, hM2, hf⟩ := nx_s hf
  refine r_putI hX hn hM2 e_X11_write_2 fl_11_122 fp_11_0 rfl g1 ?_
  refine r_iload_n (i := 1) hX e_X11_write_5 rfl rfl ?_
  obtain ⟨v3, hv3, hf⟩ := bd_s hf
  refine r_csi (As := fun K B => [.int (a1)]) hX hn (t_X11_isSlot hv3) e_X11_write_6 cw_X11_isSlot cv_X11_isSlot lk_11_131 ⟨Nat.le_of_ble_eq_true rfl, Nat.le_of_ble_eq_true rfl⟩ rfl rfl (Nat.le_of_ble_eq_true rfl) ⟨Nat.zero_le _, Nat.zero_le _⟩ ?_
  refine r_if_ne hX e_X11_write_9 (fun hc => ?_) (fun hc => ?_)
  · have hf := ite_f hf hc
    refine r_aload_n (i := 0) hX e_X11_write_15 rfl rfl ?_
    obtain ⟨r4, hr4, hf⟩ := bd_s hf
    refine r_getR hX hn e_X11_write_16 fl_11_7 rfl g1 hr4 ?_
    refine r_iload_n (i := 1) hX e_X11_write_19 rfl rfl ?_
    obtain ⟨g5, hf⟩ := gd_s hf
    refine r_iald hX hn e_X11_write_20 g5 ?_
    refine r_iconst hX e_X11_write_21 ic_m1 ?_
    refine r_icmp_ne hX e_X11_write_22 (fun hc => ?_) (fun hc => ?_)
    · have hf := ite_f hf hc
      refine r_iload_n (i := 2) hX e_X11_write_28 rfl rfl ?_
      refine r_i2l hX e_X11_write_29 ?_
      refine r_lconst hX e_X11_write_30 lc_0 ?_
      refine r_aload_n (i := 0) hX e_X11_write_31 rfl rfl ?_
      obtain ⟨r6, hr6, hf⟩ := bd_s hf
      refine r_getR hX hn e_X11_write_32 fl_11_13 rfl g1 hr6 ?_
      refine r_iload_n (i := 1) hX e_X11_write_35 rfl rfl ?_
      obtain ⟨g7, hf⟩ := gd_s hf
      refine r_iald hX hn e_X11_write_36 g7 ?_
      refine r_iconst hX e_X11_write_37 ic_1 ?_
      refine r_isub hX e_X11_write_38 ?_
      refine r_i2l hX e_X11_write_39 ?_
      obtain ⟨v8, hv8, hf⟩ := nx_s hf
      refine top_l hv8 ?_
      obtain ⟨v9, hv9, hf⟩ := bd_s hf
      refine r_csi (As := fun K B => [.long ((a2 : Int32).toInt64), .long (0), .long (v8)]) hX hn (t_X11_in hv9) e_X11_write_40 cw_X11_in cv_X11_in lk_11_127 ⟨Nat.le_of_ble_eq_true rfl, Nat.le_of_ble_eq_true rfl⟩ rfl rfl (Nat.le_of_ble_eq_true rfl) ⟨Nat.zero_le _, Nat.zero_le _⟩ ?_
      refine r_if_ne hX e_X11_write_43 (fun hc => ?_) (fun hc => ?_)
      · have hf := ite_f hf hc
        refine r_aload_n (i := 0) hX e_X11_write_49 rfl rfl ?_
        obtain ⟨r10, hr10, hf⟩ := bd_s hf
        refine r_getR hX hn e_X11_write_50 fl_11_16 rfl g1 hr10 ?_
        refine r_bipush hX e_X11_write_53 bc_60 ?_
        refine r_iload_n (i := 1) hX e_X11_write_55 rfl rfl ?_
        refine r_imul hX e_X11_write_56 ?_
        refine r_iload_n (i := 2) hX e_X11_write_57 rfl rfl ?_
        refine r_iadd hX e_X11_write_58 ?_
        refine r_lload_n (i := 3) hX e_X11_write_59 rfl rfl ?_
        refine r_aload_n (i := 0) hX e_X11_write_60 rfl rfl ?_
        refine r_getR hX hn e_X11_write_61 fl_11_7 rfl g1 hr4 ?_
        refine r_iload_n (i := 1) hX e_X11_write_64 rfl rfl ?_
        refine r_iald hX hn e_X11_write_65 g5 ?_
        obtain ⟨v11, hv11, hf⟩ := bd_s hf
        refine r_csl (As := fun K B => [.long (a3), .int ((gI M2 r4 (a1 : Int32).toNatClampNeg))]) hX hn (t_X11_cut hv11) e_X11_write_66 cw_X11_cut cv_X11_cut lk_11_135 ⟨Nat.le_of_ble_eq_true rfl, Nat.le_of_ble_eq_true rfl⟩ rfl rfl (Nat.le_of_ble_eq_true rfl) ⟨Nat.zero_le _, Nat.zero_le _⟩ ?_
        obtain ⟨g12, hf⟩ := gd_s hf
        obtain ⟨M13, hM13, hf⟩ := nx_s hf
        refine r_last hX hn hM13 e_X11_write_69 g12 ?_
        refine r_iconst hX e_X11_write_70 ic_0 ?_
        exact r_iret hX hR e_X11_write_71 hf
      · have hf := ite_t hf hc
        refine r_bipush hX e_X11_write_46 bc_m7 ?_
        exact r_iret hX hR e_X11_write_48 hf
    · have hf := ite_t hf hc
      refine r_bipush hX e_X11_write_25 bc_m6 ?_
      exact r_iret hX hR e_X11_write_27 hf
  · have hf := ite_t hf hc
    refine r_bipush hX e_X11_write_12 bc_m2 ?_
    exact r_iret hX hR e_X11_write_14 hf
def s_X11_paste_155 (k155 : Mem → Nat → Int32 → Int32 → Int32 → Int32 → Option (Mem × Int32)) (M : Mem) (x0 : Nat) (x3 : Int32) (x4 : Int32) (x5 : Int32) (x6 : Int32) : Option (Mem × Int32) :=
  if x5 ≤ x6 then some (M, 0) else gd (oB shR x0 11) <| bd (gR M x0 3) fun r2 => bd (gR M x0 4) fun r3 => gd (aB shR r3 1 x6) <| gd (aB shR r2 1 (((60 * x3) + x4) + x6)) <| nx (sL M r2 ((((60 * x3) + x4) + x6) : Int32).toNatClampNeg (gL M r3 (x6 : Int32).toNatClampNeg)) fun M6 => k155 M6 (x0) (x3) (x4) (x5) ((x6 + 1))
def f_X11_paste_155  : Nat → Mem → Nat → Int32 → Int32 → Int32 → Int32 → Option (Mem × Int32)
  | 0 => fun _ _ _ _ _ _ => none
  | n + 1 => fun y0 y1 y2 y3 y4 y5 => s_X11_paste_155  (f_X11_paste_155  n) y0 y1 y2 y3 y4 y5
def s_X11_paste_118 (k118 : Mem → Nat → Int32 → Int32 → Int32 → Int32 → Int32 → Int32 → Option (Mem × Int32)) (M : Mem) (x0 : Nat) (x1 : Int32) (x2 : Int32) (x3 : Int32) (x4 : Int32) (x5 : Int32) (x6 : Int32) : Option (Mem × Int32) :=
  if x5 ≤ x6 then f_X11_paste_155 FU M (x0) (x3) (x4) (x5) (0) else gd (oB shR x0 11) <| bd (gR M x0 4) fun r2 => bd (gR M x0 3) fun r3 => gd (aB shR r3 1 (((60 * x1) + x2) + x6)) <| nx ((gL M r3 ((((60 * x1) + x2) + x6) : Int32).toNatClampNeg)) fun v5 => gd (aB shR r2 1 x6) <| nx (sL M r2 (x6 : Int32).toNatClampNeg v5) fun M7 => k118 M7 (x0) (x1) (x2) (x3) (x4) (x5) ((x6 + 1))
def f_X11_paste_118  : Nat → Mem → Nat → Int32 → Int32 → Int32 → Int32 → Int32 → Int32 → Option (Mem × Int32)
  | 0 => fun _ _ _ _ _ _ _ _ => none
  | n + 1 => fun y0 y1 y2 y3 y4 y5 y6 y7 => s_X11_paste_118  (f_X11_paste_118  n) y0 y1 y2 y3 y4 y5 y6 y7
def f_X11_paste (M : Mem) (a0 : Nat) (a1 : Int32) (a2 : Int32) (a3 : Int32) (a4 : Int32) (a5 : Int32) : Option (Mem × Int32) :=
  gd (oB shR a0 11) <| nx (sI M a0 0 0) fun M2 => bd (f_X11_isSlot M2 a1) fun v3 => if v3 = 0 then some (M2, (-2)) else bd (f_X11_isSlot M2 a3) fun v4 => if v4 = 0 then some (M2, (-2)) else bd (gR M2 a0 1) fun r5 => gd (aB shR r5 0 a1) <| if (gI M2 r5 (a1 : Int32).toNatClampNeg) = (-1) then some (M2, (-6)) else gd (aB shR r5 0 a3) <| if (gI M2 r5 (a3 : Int32).toNatClampNeg) = (-1) then some (M2, (-6)) else if (gI M2 r5 (a1 : Int32).toNatClampNeg) = (gI M2 r5 (a3 : Int32).toNatClampNeg) then if a2 < 0 then some (M2, (-7)) else if a4 < 0 then some (M2, (-7)) else if a5 < 0 then some (M2, (-7)) else bd (gR M2 a0 2) fun r8 => gd (aB shR r8 0 a1) <| nx (((gI M2 r8 (a1 : Int32).toNatClampNeg) : Int32).toInt64) fun v10 => nx ((lg_cmp ((a2 : Int32).toInt64 + (a5 : Int32).toInt64) v10)) fun v11 => if 0 < v11 then some (M2, (-7)) else gd (aB shR r8 0 a3) <| nx (((gI M2 r8 (a3 : Int32).toNatClampNeg) : Int32).toInt64) fun v13 => nx ((lg_cmp ((a4 : Int32).toInt64 + (a5 : Int32).toInt64) v13)) fun v14 => if v14 ≤ 0 then f_X11_paste_118 FU M2 (a0) (a1) (a2) (a3) (a4) (a5) (0) else some (M2, (-7)) else some (M2, (-8))
theorem t_s_X11_paste_155 {X : Cx} {res : Mem × Int32} {k155 : Mem → Nat → Int32 → Int32 → Int32 → Int32 → Option (Mem × Int32)} (hX : OkX X cX11_paste RX11 2 45) (hn : Fit X shR nR) (hR : RetI X shR nR .int res) (hk155 : ∀ M x0 x3 x4 x5 x6, k155 M x0 x3 x4 x5 x6 = some res → GoN X shR nR 0 0 M 155 [some (.ref (X.B + x0)), none, none, some (.int (x3)), some (.int (x4)), some (.int (x5)), some (.int (x6))] []) (M : Mem) (x0 : Nat) (x3 : Int32) (x4 : Int32) (x5 : Int32) (x6 : Int32) (hf : s_X11_paste_155 k155 M x0 x3 x4 x5 x6 = some res) : GoN X shR nR 0 0 M 155 [some (.ref (X.B + x0)), none, none, some (.int (x3)), some (.int (x4)), some (.int (x5)), some (.int (x6))] [] := by
  refine r_iload hX e_X11_paste_155 rfl ?_
  refine r_iload hX e_X11_paste_157 rfl ?_
  refine r_icmp_ge hX e_X11_paste_159 (fun hc => ?_) (fun hc => ?_)
  · have hf := ite_t hf hc
    refine r_iconst hX e_X11_paste_190 ic_0 ?_
    exact r_iret hX hR e_X11_paste_191 hf
  · have hf := ite_f hf hc
    refine r_aload_n (i := 0) hX e_X11_paste_162 rfl rfl ?_
    obtain ⟨g1, hf⟩ := gd_s hf
    obtain ⟨r2, hr2, hf⟩ := bd_s hf
    refine r_getR hX hn e_X11_paste_163 fl_11_16 rfl g1 hr2 ?_
    refine r_bipush hX e_X11_paste_166 bc_60 ?_
    refine r_iload_n (i := 3) hX e_X11_paste_168 rfl rfl ?_
    refine r_imul hX e_X11_paste_169 ?_
    refine r_iload hX e_X11_paste_170 rfl ?_
    refine r_iadd hX e_X11_paste_172 ?_
    refine r_iload hX e_X11_paste_173 rfl ?_
    refine r_iadd hX e_X11_paste_175 ?_
    refine r_aload_n (i := 0) hX e_X11_paste_176 rfl rfl ?_
    obtain ⟨r3, hr3, hf⟩ := bd_s hf
    refine r_getR hX hn e_X11_paste_177 fl_11_20 rfl g1 hr3 ?_
    refine r_iload hX e_X11_paste_180 rfl ?_
    obtain ⟨g4, hf⟩ := gd_s hf
    refine r_lald hX hn e_X11_paste_182 g4 ?_
    obtain ⟨g5, hf⟩ := gd_s hf
    obtain ⟨M6, hM6, hf⟩ := nx_s hf
    refine r_last hX hn hM6 e_X11_paste_183 g5 ?_
    refine r_iinc (v := x6 + 1) hX e_X11_paste_184 rfl (ii_s ic_1) (Nat.le_of_ble_eq_true rfl) rfl ?_
    refine r_goto hX e_X11_paste_187 ?_
    exact GoN.weak (hk155 M6 (x0) (x3) (x4) (x5) ((x6 + 1)) hf) rfl (sb_s (sb_n (sb_n (sb_s (sb_s (sb_s (sb_s (sb_z _))))))))
theorem t_X11_paste_155 {X : Cx} {res : Mem × Int32}  (hX : OkX X cX11_paste RX11 2 45) (hn : Fit X shR nR) (hR : RetI X shR nR .int res)  : ∀ (n : Nat) (M : Mem) (x0 : Nat) (x3 : Int32) (x4 : Int32) (x5 : Int32) (x6 : Int32),  f_X11_paste_155  n M x0 x3 x4 x5 x6 = some res → GoN X shR nR 0 0 M 155 [some (.ref (X.B + x0)), none, none, some (.int (x3)), some (.int (x4)), some (.int (x5)), some (.int (x6))] [] := by
  intro n
  induction n with
  | zero => intro M x0 x3 x4 x5 x6 hf; cases hf
  | succ n ih => intro M x0 x3 x4 x5 x6 hf; exact t_s_X11_paste_155 hX hn hR  ih M x0 x3 x4 x5 x6 hf
theorem t_s_X11_paste_118 {X : Cx} {res : Mem × Int32} {k118 : Mem → Nat → Int32 → Int32 → Int32 → Int32 → Int32 → Int32 → Option (Mem × Int32)} (hX : OkX X cX11_paste RX11 2 45) (hn : Fit X shR nR) (hR : RetI X shR nR .int res) (hk118 : ∀ M x0 x1 x2 x3 x4 x5 x6, k118 M x0 x1 x2 x3 x4 x5 x6 = some res → GoN X shR nR 0 0 M 118 [some (.ref (X.B + x0)), some (.int (x1)), some (.int (x2)), some (.int (x3)), some (.int (x4)), some (.int (x5)), some (.int (x6))] []) (M : Mem) (x0 : Nat) (x1 : Int32) (x2 : Int32) (x3 : Int32) (x4 : Int32) (x5 : Int32) (x6 : Int32) (hf : s_X11_paste_118 k118 M x0 x1 x2 x3 x4 x5 x6 = some res) : GoN X shR nR 0 0 M 118 [some (.ref (X.B + x0)), some (.int (x1)), some (.int (x2)), some (.int (x3)), some (.int (x4)), some (.int (x5)), some (.int (x6))] [] := by
  refine r_iload hX e_X11_paste_118 rfl ?_
  refine r_iload hX e_X11_paste_120 rfl ?_
  refine r_icmp_ge hX e_X11_paste_122 (fun hc => ?_) (fun hc => ?_)
  · have hf := ite_t hf hc
    refine r_iconst hX e_X11_paste_152 ic_0 ?_
    refine r_istore hX e_X11_paste_153 (Nat.le_of_ble_eq_true rfl) rfl ?_
    exact GoN.weak (t_X11_paste_155 hX hn hR FU M (x0) (x3) (x4) (x5) (0) hf) rfl (sb_s (sb_n (sb_n (sb_s (sb_s (sb_s (sb_s (sb_z _))))))))
  · have hf := ite_f hf hc
    refine r_aload_n (i := 0) hX e_X11_paste_125 rfl rfl ?_
    obtain ⟨g1, hf⟩ := gd_s hf
    obtain ⟨r2, hr2, hf⟩ := bd_s hf
    refine r_getR hX hn e_X11_paste_126 fl_11_20 rfl g1 hr2 ?_
    refine r_iload hX e_X11_paste_129 rfl ?_
    refine r_aload_n (i := 0) hX e_X11_paste_131 rfl rfl ?_
    obtain ⟨r3, hr3, hf⟩ := bd_s hf
    refine r_getR hX hn e_X11_paste_132 fl_11_16 rfl g1 hr3 ?_
    refine r_bipush hX e_X11_paste_135 bc_60 ?_
    refine r_iload_n (i := 1) hX e_X11_paste_137 rfl rfl ?_
    refine r_imul hX e_X11_paste_138 ?_
    refine r_iload_n (i := 2) hX e_X11_paste_139 rfl rfl ?_
    refine r_iadd hX e_X11_paste_140 ?_
    refine r_iload hX e_X11_paste_141 rfl ?_
    refine r_iadd hX e_X11_paste_143 ?_
    obtain ⟨g4, hf⟩ := gd_s hf
    refine r_lald hX hn e_X11_paste_144 g4 ?_
    obtain ⟨v5, hv5, hf⟩ := nx_s hf
    refine top_l hv5 ?_
    obtain ⟨g6, hf⟩ := gd_s hf
    obtain ⟨M7, hM7, hf⟩ := nx_s hf
    refine r_last hX hn hM7 e_X11_paste_145 g6 ?_
    refine r_iinc (v := x6 + 1) hX e_X11_paste_146 rfl (ii_s ic_1) (Nat.le_of_ble_eq_true rfl) rfl ?_
    refine r_goto hX e_X11_paste_149 ?_
    exact GoN.weak (hk118 M7 (x0) (x1) (x2) (x3) (x4) (x5) ((x6 + 1)) hf) rfl (sb_s (sb_s (sb_s (sb_s (sb_s (sb_s (sb_s (sb_z _))))))))
theorem t_X11_paste_118 {X : Cx} {res : Mem × Int32}  (hX : OkX X cX11_paste RX11 2 45) (hn : Fit X shR nR) (hR : RetI X shR nR .int res)  : ∀ (n : Nat) (M : Mem) (x0 : Nat) (x1 : Int32) (x2 : Int32) (x3 : Int32) (x4 : Int32) (x5 : Int32) (x6 : Int32),  f_X11_paste_118  n M x0 x1 x2 x3 x4 x5 x6 = some res → GoN X shR nR 0 0 M 118 [some (.ref (X.B + x0)), some (.int (x1)), some (.int (x2)), some (.int (x3)), some (.int (x4)), some (.int (x5)), some (.int (x6))] [] := by
  intro n
  induction n with
  | zero => intro M x0 x1 x2 x3 x4 x5 x6 hf; cases hf
  | succ n ih => intro M x0 x1 x2 x3 x4 x5 x6 hf; exact t_s_X11_paste_118 hX hn hR  ih M x0 x1 x2 x3 x4 x5 x6 hf
theorem t_X11_paste {l : Launch} {M : Mem} {a0 : Nat} {a1 a2 a3 a4 a5 : Int32} {res : Mem × Int32} (hf : f_X11_paste M a0 a1 a2 a3 a4 a5 = some res) : Ci l yX11_paste cX11_paste 7 (some .int) 2 45 shR nR (fun K B => [.ref (B + a0), .int a1, .int a2, .int a3, .int a4, .int a5]) M res := by
  refine met_i (own := RX11) (lo := fun K B => [some (.ref (B + a0)), some (.int a1), some (.int a2), some (.int a3), some (.int a4), some (.int a5), none]) (by decide +kernel) rfl shR_ok (fun _ _ => rfl) (fun _ _ => rfl) (fun _ _ => Nat.le_of_ble_eq_true rfl) (fun X hX hn hlx hR => ?_)
  refine r_aload_n (i := 0) hX e_X11_paste_0 rfl rfl ?_
  refine r_iconst hX e_X11_paste_1 ic_0 ?_
  obtain ⟨g1, hf⟩ := gd_s hf
  obtain ⟨M2, hM2, hf⟩ := nx_s hf
  refine r_putI hX hn hM2 e_X11_paste_2 fl_11_122 fp_11_0 rfl g1 ?_
  refine r_iload_n (i := 1) hX e_X11_paste_5 rfl rfl ?_
  obtain ⟨v3, hv3, hf⟩ := bd_s hf
  refine r_csi (As := fun K B => [.int (a1)]) hX hn (t_X11_isSlot hv3) e_X11_paste_6 cw_X11_isSlot cv_X11_isSlot lk_11_131 ⟨Nat.le_of_ble_eq_true rfl, Nat.le_of_ble_eq_true rfl⟩ rfl rfl (Nat.le_of_ble_eq_true rfl) ⟨Nat.zero_le _, Nat.zero_le _⟩ ?_
  refine r_if_eq hX e_X11_paste_9 (fun hc => ?_) (fun hc => ?_)
  · have hf := ite_t hf hc
    refine r_bipush hX e_X11_paste_19 bc_m2 ?_
    exact r_iret hX hR e_X11_paste_21 hf
  · have hf := ite_f hf hc
    refine r_iload_n (i := 3) hX e_X11_paste_12 rfl rfl ?_
    obtain ⟨v4, hv4, hf⟩ := bd_s hf
    refine r_csi (As := fun K B => [.int (a3)]) hX hn (t_X11_isSlot hv4) e_X11_paste_13 cw_X11_isSlot cv_X11_isSlot lk_11_131 ⟨Nat.le_of_ble_eq_true rfl, Nat.le_of_ble_eq_true rfl⟩ rfl rfl (Nat.le_of_ble_eq_true rfl) ⟨Nat.zero_le _, Nat.zero_le _⟩ ?_
    refine r_if_ne hX e_X11_paste_16 (fun hc => ?_) (fun hc => ?_)
    · have hf := ite_f hf hc
      refine r_aload_n (i := 0) hX e_X11_paste_22 rfl rfl ?_
      obtain ⟨r5, hr5, hf⟩ := bd_s hf
      refine r_getR hX hn e_X11_paste_23 fl_11_7 rfl g1 hr5 ?_
      refine r_iload_n (i := 1) hX e_X11_paste_26 rfl rfl ?_
      obtain ⟨g6, hf⟩ := gd_s hf
      refine r_iald hX hn e_X11_paste_27 g6 ?_
      refine r_iconst hX e_X11_paste_28 ic_m1 ?_
      refine r_icmp_eq hX e_X11_paste_29 (fun hc => ?_) (fun hc => ?_)
      · have hf := ite_t hf hc
        refine r_bipush hX e_X11_paste_42 bc_m6 ?_
        exact r_iret hX hR e_X11_paste_44 hf
      · have hf := ite_f hf hc
        refine r_aload_n (i := 0) hX e_X11_paste_32 rfl rfl ?_
        refine r_getR hX hn e_X11_paste_33 fl_11_7 rfl g1 hr5 ?_
        refine r_iload_n (i := 3) hX e_X11_paste_36 rfl rfl ?_
        obtain ⟨g7, hf⟩ := gd_s hf
        refine r_iald hX hn e_X11_paste_37 g7 ?_
        refine r_iconst hX e_X11_paste_38 ic_m1 ?_
        refine r_icmp_ne hX e_X11_paste_39 (fun hc => ?_) (fun hc => ?_)
        · have hf := ite_f hf hc
          refine r_aload_n (i := 0) hX e_X11_paste_45 rfl rfl ?_
          refine r_getR hX hn e_X11_paste_46 fl_11_7 rfl g1 hr5 ?_
          refine r_iload_n (i := 1) hX e_X11_paste_49 rfl rfl ?_
          refine r_iald hX hn e_X11_paste_50 g6 ?_
          refine r_aload_n (i := 0) hX e_X11_paste_51 rfl rfl ?_
          refine r_getR hX hn e_X11_paste_52 fl_11_7 rfl g1 hr5 ?_
          refine r_iload_n (i := 3) hX e_X11_paste_55 rfl rfl ?_
          refine r_iald hX hn e_X11_paste_56 g7 ?_
          refine r_icmp_eq hX e_X11_paste_57 (fun hc => ?_) (fun hc => ?_)
          · have hf := ite_t hf hc
            refine r_iload_n (i := 2) hX e_X11_paste_63 rfl rfl ?_
            refine r_if_lt hX e_X11_paste_64 (fun hc => ?_) (fun hc => ?_)
            · have hf := ite_t hf hc
              refine r_bipush hX e_X11_paste_112 bc_m7 ?_
              exact r_iret hX hR e_X11_paste_114 hf
            · have hf := ite_f hf hc
              refine r_iload hX e_X11_paste_67 rfl ?_
              refine r_if_lt hX e_X11_paste_69 (fun hc => ?_) (fun hc => ?_)
              · have hf := ite_t hf hc
                refine r_bipush hX e_X11_paste_112 bc_m7 ?_
                exact r_iret hX hR e_X11_paste_114 hf
              · have hf := ite_f hf hc
                refine r_iload hX e_X11_paste_72 rfl ?_
                refine r_if_lt hX e_X11_paste_74 (fun hc => ?_) (fun hc => ?_)
                · have hf := ite_t hf hc
                  refine r_bipush hX e_X11_paste_112 bc_m7 ?_
                  exact r_iret hX hR e_X11_paste_114 hf
                · have hf := ite_f hf hc
                  refine r_iload_n (i := 2) hX e_X11_paste_77 rfl rfl ?_
                  refine r_i2l hX e_X11_paste_78 ?_
                  refine r_iload hX e_X11_paste_79 rfl ?_
                  refine r_i2l hX e_X11_paste_81 ?_
                  refine r_ladd hX e_X11_paste_82 ?_
                  refine r_aload_n (i := 0) hX e_X11_paste_83 rfl rfl ?_
                  obtain ⟨r8, hr8, hf⟩ := bd_s hf
                  refine r_getR hX hn e_X11_paste_84 fl_11_13 rfl g1 hr8 ?_
                  refine r_iload_n (i := 1) hX e_X11_paste_87 rfl rfl ?_
                  obtain ⟨g9, hf⟩ := gd_s hf
                  refine r_iald hX hn e_X11_paste_88 g9 ?_
                  refine r_i2l hX e_X11_paste_89 ?_
                  obtain ⟨v10, hv10, hf⟩ := nx_s hf
                  refine top_l hv10 ?_
                  refine r_lcmp hX e_X11_paste_90 ?_
                  obtain ⟨v11, hv11, hf⟩ := nx_s hf
                  refine top_i hv11 ?_
                  refine r_if_gt hX e_X11_paste_91 (fun hc => ?_) (fun hc => ?_)
                  · have hf := ite_t hf hc
                    refine r_bipush hX e_X11_paste_112 bc_m7 ?_
                    exact r_iret hX hR e_X11_paste_114 hf
                  · have hf := ite_f hf hc
                    refine r_iload hX e_X11_paste_94 rfl ?_
                    refine r_i2l hX e_X11_paste_96 ?_
                    refine r_iload hX e_X11_paste_97 rfl ?_
                    refine r_i2l hX e_X11_paste_99 ?_
                    refine r_ladd hX e_X11_paste_100 ?_
                    refine r_aload_n (i := 0) hX e_X11_paste_101 rfl rfl ?_
                    refine r_getR hX hn e_X11_paste_102 fl_11_13 rfl g1 hr8 ?_
                    refine r_iload_n (i := 3) hX e_X11_paste_105 rfl rfl ?_
                    obtain ⟨g12, hf⟩ := gd_s hf
                    refine r_iald hX hn e_X11_paste_106 g12 ?_
                    refine r_i2l hX e_X11_paste_107 ?_
                    obtain ⟨v13, hv13, hf⟩ := nx_s hf
                    refine top_l hv13 ?_
                    refine r_lcmp hX e_X11_paste_108 ?_
                    obtain ⟨v14, hv14, hf⟩ := nx_s hf
                    refine top_i hv14 ?_
                    refine r_if_le hX e_X11_paste_109 (fun hc => ?_) (fun hc => ?_)
                    · have hf := ite_t hf hc
                      refine r_iconst hX e_X11_paste_115 ic_0 ?_
                      refine r_istore hX e_X11_paste_116 (Nat.le_of_ble_eq_true rfl) rfl ?_
                      exact GoN.weak (t_X11_paste_118 hX hn hR FU M2 (a0) (a1) (a2) (a3) (a4) (a5) (0) hf) rfl (sb_s (sb_s (sb_s (sb_s (sb_s (sb_s (sb_s (sb_z _))))))))
                    · have hf := ite_f hf hc
                      refine r_bipush hX e_X11_paste_112 bc_m7 ?_
                      exact r_iret hX hR e_X11_paste_114 hf
          · have hf := ite_f hf hc
            refine r_bipush hX e_X11_paste_60 bc_m8 ?_
            exact r_iret hX hR e_X11_paste_62 hf
        · have hf := ite_t hf hc
          refine r_bipush hX e_X11_paste_42 bc_m6 ?_
          exact r_iret hX hR e_X11_paste_44 hf
    · have hf := ite_t hf hc
      refine r_bipush hX e_X11_paste_19 bc_m2 ?_
      exact r_iret hX hR e_X11_paste_21 hf
def s_X11_four_3 (k3 : Mem → Nat → Int32 → Int32 → Option (Mem)) (M : Mem) (x0 : Nat) (x1 : Int32) (x2 : Int32) : Option (Mem) :=
  if x2 < 0 then some M else gd (oB shR x0 11) <| bd (gR M x0 5) fun r2 => gd (aB shR r2 3 (gI M x0 6)) <| nx (sI M r2 ((gI M x0 6) : Int32).toNatClampNeg (vp_nar .byte (((x1 >>> (x2 &&& 31)) : Int32).toInt8.toInt32))) fun M4 => nx (sI M4 x0 6 ((gI M4 x0 6) + 1)) fun M5 => k3 M5 (x0) (x1) ((x2 + (-8)))
def f_X11_four_3  : Nat → Mem → Nat → Int32 → Int32 → Option (Mem)
  | 0 => fun _ _ _ _ => none
  | n + 1 => fun y0 y1 y2 y3 => s_X11_four_3  (f_X11_four_3  n) y0 y1 y2 y3
def f_X11_four (M : Mem) (a0 : Nat) (a1 : Int32) : Option (Mem) :=
  f_X11_four_3 FU M (a0) (a1) (24)
theorem t_s_X11_four_3 {X : Cx} {res : Mem} {k3 : Mem → Nat → Int32 → Int32 → Option (Mem)} (hX : OkX X cX11_four RX11 0 0) (hn : Fit X shR nR) (hR : RetV X shR nR res) (hk3 : ∀ M x0 x1 x2, k3 M x0 x1 x2 = some res → GoN X shR nR 0 0 M 3 [some (.ref (X.B + x0)), some (.int (x1)), some (.int (x2))] []) (M : Mem) (x0 : Nat) (x1 : Int32) (x2 : Int32) (hf : s_X11_four_3 k3 M x0 x1 x2 = some res) : GoN X shR nR 0 0 M 3 [some (.ref (X.B + x0)), some (.int (x1)), some (.int (x2))] [] := by
  refine r_iload_n (i := 2) hX e_X11_four_3 rfl rfl ?_
  refine r_if_lt hX e_X11_four_4 (fun hc => ?_) (fun hc => ?_)
  · have hf := ite_t hf hc
    exact r_ret hX hR e_X11_four_36 hf
  · have hf := ite_f hf hc
    refine r_aload_n (i := 0) hX e_X11_four_7 rfl rfl ?_
    obtain ⟨g1, hf⟩ := gd_s hf
    obtain ⟨r2, hr2, hf⟩ := bd_s hf
    refine r_getR hX hn e_X11_four_8 fl_11_23 rfl g1 hr2 ?_
    refine r_aload_n (i := 0) hX e_X11_four_11 rfl rfl ?_
    refine r_getI hX hn e_X11_four_12 fl_11_139 rfl g1 ?_
    refine r_iload_n (i := 1) hX e_X11_four_15 rfl rfl ?_
    refine r_iload_n (i := 2) hX e_X11_four_16 rfl rfl ?_
    refine r_ishr hX e_X11_four_17 ?_
    refine r_i2b hX e_X11_four_18 ?_
    obtain ⟨g3, hf⟩ := gd_s hf
    obtain ⟨M4, hM4, hf⟩ := nx_s hf
    refine r_bast hX hn hM4 e_X11_four_19 g3 ?_
    refine r_aload_n (i := 0) hX e_X11_four_20 rfl rfl ?_
    refine r_dup hX e_X11_four_21 rfl ?_
    refine r_getI hX hn e_X11_four_22 fl_11_139 rfl g1 ?_
    refine r_iconst hX e_X11_four_25 ic_1 ?_
    refine r_iadd hX e_X11_four_26 ?_
    obtain ⟨M5, hM5, hf⟩ := nx_s hf
    refine r_putI hX hn hM5 e_X11_four_27 fl_11_139 fp_11_6 rfl g1 ?_
    refine r_iinc (v := x2 + (-8)) hX e_X11_four_30 rfl (ii_s ic_m8) (Nat.le_of_ble_eq_true rfl) rfl ?_
    refine r_goto hX e_X11_four_33 ?_
    exact GoN.weak (hk3 M5 (x0) (x1) ((x2 + (-8))) hf) rfl (sb_s (sb_s (sb_s (sb_z _))))
theorem t_X11_four_3 {X : Cx} {res : Mem}  (hX : OkX X cX11_four RX11 0 0) (hn : Fit X shR nR) (hR : RetV X shR nR res)  : ∀ (n : Nat) (M : Mem) (x0 : Nat) (x1 : Int32) (x2 : Int32),  f_X11_four_3  n M x0 x1 x2 = some res → GoN X shR nR 0 0 M 3 [some (.ref (X.B + x0)), some (.int (x1)), some (.int (x2))] [] := by
  intro n
  induction n with
  | zero => intro M x0 x1 x2 hf; cases hf
  | succ n ih => intro M x0 x1 x2 hf; exact t_s_X11_four_3 hX hn hR  ih M x0 x1 x2 hf
theorem t_X11_four {l : Launch} {M : Mem} {a0 : Nat} {a1 : Int32} {res : Mem} (hf : f_X11_four M a0 a1 = some res) : Cv l yX11_four cX11_four 3 none 0 0 shR nR (fun K B => [.ref (B + a0), .int a1]) M res := by
  refine met_v (own := RX11) (lo := fun K B => [some (.ref (B + a0)), some (.int a1), none]) (by decide +kernel) rfl shR_ok (fun _ _ => rfl) (fun _ _ => rfl) (fun _ _ => Nat.le_of_ble_eq_true rfl) (fun X hX hn hlx hR => ?_)
  refine r_bipush hX e_X11_four_0 bc_24 ?_
  refine r_istore_n (i := 2) hX e_X11_four_2 rfl (Nat.le_of_ble_eq_true rfl) rfl ?_
  exact GoN.weak (t_X11_four_3 hX hn hR FU M (a0) (a1) (24) hf) rfl (sb_s (sb_s (sb_s (sb_z _))))
def f_X11_feed (M : Mem) (a0 : Nat) (a1 : Int32) (a2 : Int32) (a3 : Int32) (a4 : Int32) (a5 : Int32) : Option (Mem × Int32) :=
  gd (oB shR a0 11) <| nx (sI M a0 0 0) fun M2 => if ((gI M2 a0 6) + 20) ≤ 2000 then bd (f_X11_four M2 a0 a1) fun u3 => bd (f_X11_four u3 a0 a2) fun u4 => bd (f_X11_four u4 a0 a3) fun u5 => bd (f_X11_four u5 a0 a4) fun u6 => bd (f_X11_four u6 a0 a5) fun u7 => some (u7, (gI u7 a0 6)) else some (M2, (-1))
theorem t_X11_feed {l : Launch} {M : Mem} {a0 : Nat} {a1 a2 a3 a4 a5 : Int32} {res : Mem × Int32} (hf : f_X11_feed M a0 a1 a2 a3 a4 a5 = some res) : Ci l yX11_feed cX11_feed 6 (some .int) 1 22 shR nR (fun K B => [.ref (B + a0), .int a1, .int a2, .int a3, .int a4, .int a5]) M res := by
  refine met_i (own := RX11) (lo := fun K B => [some (.ref (B + a0)), some (.int a1), some (.int a2), some (.int a3), some (.int a4), some (.int a5)]) (by decide +kernel) rfl shR_ok (fun _ _ => rfl) (fun _ _ => rfl) (fun _ _ => Nat.le_of_ble_eq_true rfl) (fun X hX hn hlx hR => ?_)
  refine r_aload_n (i := 0) hX e_X11_feed_0 rfl rfl ?_
  refine r_iconst hX e_X11_feed_1 ic_0 ?_
  obtain ⟨g1, hf⟩ := gd_s hf
  obtain ⟨M2, hM2, hf⟩ := nx_s hf
  refine r_putI hX hn hM2 e_X11_feed_2 fl_11_122 fp_11_0 rfl g1 ?_
  refine r_aload_n (i := 0) hX e_X11_feed_5 rfl rfl ?_
  refine r_getI hX hn e_X11_feed_6 fl_11_139 rfl g1 ?_
  refine r_bipush hX e_X11_feed_9 bc_20 ?_
  refine r_iadd hX e_X11_feed_11 ?_
  refine r_sipush hX e_X11_feed_12 sc_2000 ?_
  refine r_icmp_le hX e_X11_feed_15 (fun hc => ?_) (fun hc => ?_)
  · have hf := ite_t hf hc
    refine r_aload_n (i := 0) hX e_X11_feed_20 rfl rfl ?_
    refine r_iload_n (i := 1) hX e_X11_feed_21 rfl rfl ?_
    obtain ⟨u3, hu3, hf⟩ := bd_s hf
    refine r_cvv (As := fun K B => [.int (a1)]) hX hn (t_X11_four hu3) e_X11_feed_22 cw_X11_four cv_X11_four lk_11_142 ⟨Nat.le_of_ble_eq_true rfl, Nat.le_of_ble_eq_true rfl⟩ (ci := 11) rfl rfl (Nat.le_of_ble_eq_true rfl) g1 rfl rfl (Nat.le_of_ble_eq_true rfl) ⟨Nat.zero_le _, Nat.zero_le _⟩ ?_
    refine r_aload_n (i := 0) hX e_X11_feed_25 rfl rfl ?_
    refine r_iload_n (i := 2) hX e_X11_feed_26 rfl rfl ?_
    obtain ⟨u4, hu4, hf⟩ := bd_s hf
    refine r_cvv (As := fun K B => [.int (a2)]) hX hn (t_X11_four hu4) e_X11_feed_27 cw_X11_four cv_X11_four lk_11_142 ⟨Nat.le_of_ble_eq_true rfl, Nat.le_of_ble_eq_true rfl⟩ (ci := 11) rfl rfl (Nat.le_of_ble_eq_true rfl) g1 rfl rfl (Nat.le_of_ble_eq_true rfl) ⟨Nat.zero_le _, Nat.zero_le _⟩ ?_
    refine r_aload_n (i := 0) hX e_X11_feed_30 rfl rfl ?_
    refine r_iload_n (i := 3) hX e_X11_feed_31 rfl rfl ?_
    obtain ⟨u5, hu5, hf⟩ := bd_s hf
    refine r_cvv (As := fun K B => [.int (a3)]) hX hn (t_X11_four hu5) e_X11_feed_32 cw_X11_four cv_X11_four lk_11_142 ⟨Nat.le_of_ble_eq_true rfl, Nat.le_of_ble_eq_true rfl⟩ (ci := 11) rfl rfl (Nat.le_of_ble_eq_true rfl) g1 rfl rfl (Nat.le_of_ble_eq_true rfl) ⟨Nat.zero_le _, Nat.zero_le _⟩ ?_
    refine r_aload_n (i := 0) hX e_X11_feed_35 rfl rfl ?_
    refine r_iload hX e_X11_feed_36 rfl ?_
    obtain ⟨u6, hu6, hf⟩ := bd_s hf
    refine r_cvv (As := fun K B => [.int (a4)]) hX hn (t_X11_four hu6) e_X11_feed_38 cw_X11_four cv_X11_four lk_11_142 ⟨Nat.le_of_ble_eq_true rfl, Nat.le_of_ble_eq_true rfl⟩ (ci := 11) rfl rfl (Nat.le_of_ble_eq_true rfl) g1 rfl rfl (Nat.le_of_ble_eq_true rfl) ⟨Nat.zero_le _, Nat.zero_le _⟩ ?_
    refine r_aload_n (i := 0) hX e_X11_feed_41 rfl rfl ?_
    refine r_iload hX e_X11_feed_42 rfl ?_
    obtain ⟨u7, hu7, hf⟩ := bd_s hf
    refine r_cvv (As := fun K B => [.int (a5)]) hX hn (t_X11_four hu7) e_X11_feed_44 cw_X11_four cv_X11_four lk_11_142 ⟨Nat.le_of_ble_eq_true rfl, Nat.le_of_ble_eq_true rfl⟩ (ci := 11) rfl rfl (Nat.le_of_ble_eq_true rfl) g1 rfl rfl (Nat.le_of_ble_eq_true rfl) ⟨Nat.zero_le _, Nat.zero_le _⟩ ?_
    refine r_aload_n (i := 0) hX e_X11_feed_47 rfl rfl ?_
    refine r_getI hX hn e_X11_feed_48 fl_11_139 rfl g1 ?_
    exact r_iret hX hR e_X11_feed_51 hf
  · have hf := ite_f hf hc
    refine r_iconst hX e_X11_feed_18 ic_m1 ?_
    exact r_iret hX hR e_X11_feed_19 hf
def f_X11_end (M : Mem) (a0 : Nat) (a1 : Int32) : Option (Mem × Int32) :=
  gd (oB shR a0 11) <| nx (sI M a0 0 0) fun M2 => bd (f_X11_in M2 ((a1 : Int32).toInt64) 0 (((gI M2 a0 6) : Int32).toInt64)) fun v3 => if v3 = 0 then some (M2, (-1)) else nx (sI M2 a0 6 a1) fun M4 => some (M4, a1)
theorem t_X11_end {l : Launch} {M : Mem} {a0 : Nat} {a1 : Int32} {res : Mem × Int32} (hf : f_X11_end M a0 a1 = some res) : Ci l yX11_end cX11_end 2 (some .int) 1 25 shR nR (fun K B => [.ref (B + a0), .int a1]) M res := by
  refine met_i (own := RX11) (lo := fun K B => [some (.ref (B + a0)), some (.int a1)]) (by decide +kernel) rfl shR_ok (fun _ _ => rfl) (fun _ _ => rfl) (fun _ _ => Nat.le_of_ble_eq_true rfl) (fun X hX hn hlx hR => ?_)
  refine r_aload_n (i := 0) hX e_X11_end_0 rfl rfl ?_
  refine r_iconst hX e_X11_end_1 ic_0 ?_
  obtain ⟨g1, hf⟩ := gd_s hf
  obtain ⟨M2, hM2, hf⟩ := nx_s hf
  refine r_putI hX hn hM2 e_X11_end_2 fl_11_122 fp_11_0 rfl g1 ?_
  refine r_iload_n (i := 1) hX e_X11_end_5 rfl rfl ?_
  refine r_i2l hX e_X11_end_6 ?_
  refine r_lconst hX e_X11_end_7 lc_0 ?_
  refine r_aload_n (i := 0) hX e_X11_end_8 rfl rfl ?_
  refine r_getI hX hn e_X11_end_9 fl_11_139 rfl g1 ?_
  refine r_i2l hX e_X11_end_12 ?_
  obtain ⟨v3, hv3, hf⟩ := bd_s hf
  refine r_csi (As := fun K B => [.long ((a1 : Int32).toInt64), .long (0), .long (((gI M2 a0 6) : Int32).toInt64)]) hX hn (t_X11_in hv3) e_X11_end_13 cw_X11_in cv_X11_in lk_11_127 ⟨Nat.le_of_ble_eq_true rfl, Nat.le_of_ble_eq_true rfl⟩ rfl rfl (Nat.le_of_ble_eq_true rfl) ⟨Nat.zero_le _, Nat.zero_le _⟩ ?_
  refine r_if_ne hX e_X11_end_16 (fun hc => ?_) (fun hc => ?_)
  · have hf := ite_f hf hc
    refine r_aload_n (i := 0) hX e_X11_end_21 rfl rfl ?_
    refine r_iload_n (i := 1) hX e_X11_end_22 rfl rfl ?_
    obtain ⟨M4, hM4, hf⟩ := nx_s hf
    refine r_putI hX hn hM4 e_X11_end_23 fl_11_139 fp_11_6 rfl g1 ?_
    refine r_iload_n (i := 1) hX e_X11_end_26 rfl rfl ?_
    exact r_iret hX hR e_X11_end_27 hf
  · have hf := ite_t hf hc
    refine r_iconst hX e_X11_end_19 ic_m1 ?_
    exact r_iret hX hR e_X11_end_20 hf
def f_X11_isByte (M : Mem) (a0 : Nat) (a1 : Int32) (a2 : Int32) (a3 : Int32) : Option (Int32) :=
  gd (oB shR a0 11) <| if (gI M a0 6) ≤ a1 then some 0 else bd (gR M a0 5) fun r2 => gd (aB shR r2 3 a1) <| if (gI M r2 (a1 : Int32).toNatClampNeg) < a2 then some 0 else if a3 < (gI M r2 (a1 : Int32).toNatClampNeg) then some 0 else some 1
theorem t_X11_isByte {l : Launch} {M : Mem} {a0 : Nat} {a1 a2 a3 : Int32} {res : Int32} (hf : f_X11_isByte M a0 a1 a2 a3 = some res) : Ci l yX11_isByte cX11_isByte 4 (some .boolean) 0 0 shR nR (fun K B => [.ref (B + a0), .int a1, .int a2, .int a3]) M (M, res) := by
  refine met_i (own := RX11) (lo := fun K B => [some (.ref (B + a0)), some (.int a1), some (.int a2), some (.int a3)]) (by decide +kernel) rfl shR_ok (fun _ _ => rfl) (fun _ _ => rfl) (fun _ _ => Nat.le_of_ble_eq_true rfl) (fun X hX hn hlx hR => ?_)
  refine r_iload_n (i := 1) hX e_X11_isByte_0 rfl rfl ?_
  refine r_aload_n (i := 0) hX e_X11_isByte_1 rfl rfl ?_
  obtain ⟨g1, hf⟩ := gd_s hf
  refine r_getI hX hn e_X11_isByte_2 fl_11_139 rfl g1 ?_
  refine r_icmp_ge hX e_X11_isByte_5 (fun hc => ?_) (fun hc => ?_)
  · have hf := ite_t hf hc
    refine r_iconst hX e_X11_isByte_32 ic_0 ?_
    exact r_zret hX hR rfl e_X11_isByte_33 (ro_s hf)
  · have hf := ite_f hf hc
    refine r_aload_n (i := 0) hX e_X11_isByte_8 rfl rfl ?_
    obtain ⟨r2, hr2, hf⟩ := bd_s hf
    refine r_getR hX hn e_X11_isByte_9 fl_11_23 rfl g1 hr2 ?_
    refine r_iload_n (i := 1) hX e_X11_isByte_12 rfl rfl ?_
    obtain ⟨g3, hf⟩ := gd_s hf
    refine r_bald hX hn e_X11_isByte_13 g3 ?_
    refine r_iload_n (i := 2) hX e_X11_isByte_14 rfl rfl ?_
    refine r_icmp_lt hX e_X11_isByte_15 (fun hc => ?_) (fun hc => ?_)
    · have hf := ite_t hf hc
      refine r_iconst hX e_X11_isByte_32 ic_0 ?_
      exact r_zret hX hR rfl e_X11_isByte_33 (ro_s hf)
    · have hf := ite_f hf hc
      refine r_aload_n (i := 0) hX e_X11_isByte_18 rfl rfl ?_
      refine r_getR hX hn e_X11_isByte_19 fl_11_23 rfl g1 hr2 ?_
      refine r_iload_n (i := 1) hX e_X11_isByte_22 rfl rfl ?_
      refine r_bald hX hn e_X11_isByte_23 g3 ?_
      refine r_iload_n (i := 3) hX e_X11_isByte_24 rfl rfl ?_
      refine r_icmp_gt hX e_X11_isByte_25 (fun hc => ?_) (fun hc => ?_)
      · have hf := ite_t hf hc
        refine r_iconst hX e_X11_isByte_32 ic_0 ?_
        exact r_zret hX hR rfl e_X11_isByte_33 (ro_s hf)
      · have hf := ite_f hf hc
        refine r_iconst hX e_X11_isByte_28 ic_1 ?_
        refine r_goto hX e_X11_isByte_29 ?_
        exact r_zret hX hR rfl e_X11_isByte_33 (ro_s hf)
def f_X11_next_30 (k0 : Mem → Nat → Option (Mem)) (M : Mem) (x0 : Nat) : Option (Mem) :=
  gd (oB shR x0 11) <| nx (sI M x0 7 ((gI M x0 7) + 1)) fun M2 => k0 M2 (x0)
def f_X11_next_294  (M : Mem) (x0 : Nat) (s0 : Int32) (s1 : Nat) : Option (Mem) :=
  gd (oB shR s1 11) <| nx (sI M s1 8 s0) fun M2 => gd (oB shR x0 11) <| nx (sI M2 x0 7 ((gI M2 x0 7) + 1)) fun M4 => some M4
def f_X11_next_258 (k208 : Mem → Nat → Option (Mem)) (M : Mem) (x0 : Nat) (s0 : Int32) (s1 : Nat) : Option (Mem) :=
  gd (oB shR s1 11) <| nx (sI M s1 10 s0) fun M2 => gd (oB shR x0 11) <| nx (sI M2 x0 7 ((gI M2 x0 7) + 1)) fun M4 => k208 M4 (x0)
def s_X11_next_208 (k208 : Mem → Nat → Option (Mem)) (M : Mem) (x0 : Nat) : Option (Mem) :=
  gd (oB shR x0 11) <| bd (f_X11_isByte M x0 (gI M x0 7) 48 57) fun v2 => if v2 = 0 then some M else if (gI M x0 10) ≤ 100000 then bd (gR M x0 5) fun r3 => gd (aB shR r3 3 (gI M x0 7)) <| nx (((10 * (gI M x0 10)) + (gI M r3 ((gI M x0 7) : Int32).toNatClampNeg))) fun v5 => f_X11_next_258 k208 M (x0) ((v5 - 48)) (x0) else f_X11_next_258 k208 M (x0) (1000000) (x0)
def f_X11_next_208  : Nat → Mem → Nat → Option (Mem)
  | 0 => fun _ _ => none
  | n + 1 => fun y0 y1 => s_X11_next_208  (f_X11_next_208  n) y0 y1
def f_X11_next_169 (k102 : Mem → Nat → Int32 → Option (Mem)) (M : Mem) (x0 : Nat) (x1 : Int32) : Option (Mem) :=
  gd (oB shR x0 11) <| nx (sI M x0 7 ((gI M x0 7) + 1)) fun M2 => k102 M2 (x0) ((x1 + 1))
def f_X11_next_153 (k102 : Mem → Nat → Int32 → Option (Mem)) (M : Mem) (x0 : Nat) (x1 : Int32) (s0 : Int64) (s1 : Nat) : Option (Mem) :=
  gd (oB shR s1 11) <| nx (sL M s1 11 s0) fun M2 => if x1 ≤ 11 then f_X11_next_169 k102 M2 (x0) (x1) else gd (oB shR x0 11) <| nx (sL M2 x0 11 (-1)) fun M4 => f_X11_next_169 k102 M4 (x0) (x1)
def s_X11_next_102 (k102 : Mem → Nat → Int32 → Option (Mem)) (M : Mem) (x0 : Nat) (x1 : Int32) : Option (Mem) :=
  gd (oB shR x0 11) <| bd (f_X11_isByte M x0 (gI M x0 7) 97 122) fun v2 => if v2 = 0 then some M else if x1 ≤ 11 then bd (gR M x0 5) fun r3 => gd (aB shR r3 3 (gI M x0 7)) <| nx (((gI M r3 ((gI M x0 7) : Int32).toNatClampNeg) : Int32).toInt64) fun v5 => f_X11_next_153 k102 M (x0) (x1) ((((27 * (gL M x0 11)) + v5) - 96)) (x0) else f_X11_next_153 k102 M (x0) (x1) ((-1)) (x0)
def f_X11_next_102  : Nat → Mem → Nat → Int32 → Option (Mem)
  | 0 => fun _ _ _ => none
  | n + 1 => fun y0 y1 y2 => s_X11_next_102  (f_X11_next_102  n) y0 y1 y2
def s_X11_next_0 (k0 : Mem → Nat → Option (Mem)) (M : Mem) (x0 : Nat) : Option (Mem) :=
  gd (oB shR x0 11) <| bd (f_X11_isByte M x0 (gI M x0 7) 32 32) fun v2 => if v2 = 0 then bd (f_X11_isByte M x0 (gI M x0 7) 10 10) fun v3 => if v3 = 0 then nx (sI M x0 9 (gI M x0 7)) fun M4 => nx (sI M4 x0 10 0) fun M5 => nx (sL M5 x0 11 0) fun M6 => if (gI M6 x0 7) = (gI M6 x0 6) then nx (sI M6 x0 8 0) fun M14 => some M14 else bd (f_X11_isByte M6 x0 (gI M6 x0 7) 97 122) fun v7 => if v7 = 0 then bd (f_X11_isByte M6 x0 (gI M6 x0 7) 48 57) fun v8 => if v8 = 0 then bd (gR M6 x0 5) fun r9 => gd (aB shR r9 3 (gI M6 x0 7)) <| nx ((gI M6 r9 ((gI M6 x0 7) : Int32).toNatClampNeg)) fun v11 => if v11 = 59 then f_X11_next_294 M6 (x0) (3) (x0) else f_X11_next_294 M6 (x0) (4) (x0) else nx (sI M6 x0 8 2) fun M12 => f_X11_next_208 FU M12 (x0) else nx (sI M6 x0 8 1) fun M13 => f_X11_next_102 FU M13 (x0) (0) else f_X11_next_30 k0 M (x0) else f_X11_next_30 k0 M (x0)
def f_X11_next_0  : Nat → Mem → Nat → Option (Mem)
  | 0 => fun _ _ => none
  | n + 1 => fun y0 y1 => s_X11_next_0  (f_X11_next_0  n) y0 y1
def f_X11_next (M : Mem) (a0 : Nat) : Option (Mem) :=
  f_X11_next_0 FU M (a0)
theorem t_X11_next_30 {X : Cx} {res : Mem} {k0 : Mem → Nat → Option (Mem)} (hX : OkX X cX11_next RX11 1 23) (hn : Fit X shR nR) (hR : RetV X shR nR res) (hk0 : ∀ M x0, k0 M x0 = some res → GoN X shR nR 0 0 M 0 [some (.ref (X.B + x0)), none] []) (M : Mem) (x0 : Nat) (hf : f_X11_next_30 k0 M x0 = some res) : GoN X shR nR 0 0 M 30 [some (.ref (X.B + x0)), none] [] := by
  refine r_aload_n (i := 0) hX e_X11_next_30 rfl rfl ?_
  refine r_dup hX e_X11_next_31 rfl ?_
  obtain ⟨g1, hf⟩ := gd_s hf
  refine r_getI hX hn e_X11_next_32 fl_11_146 rfl g1 ?_
  refine r_iconst hX e_X11_next_35 ic_1 ?_
  refine r_iadd hX e_X11_next_36 ?_
  obtain ⟨M2, hM2, hf⟩ := nx_s hf
  refine r_putI hX hn hM2 e_X11_next_37 fl_11_146 fp_11_7 rfl g1 ?_
  refine r_goto hX e_X11_next_40 ?_
  exact GoN.weak (hk0 M2 (x0) hf) rfl (sb_s (sb_n (sb_z _)))
theorem t_X11_next_294 {X : Cx} {res : Mem}  (hX : OkX X cX11_next RX11 1 23) (hn : Fit X shR nR) (hR : RetV X shR nR res)  (M : Mem) (x0 : Nat) (s0 : Int32) (s1 : Nat) (hf : f_X11_next_294  M x0 s0 s1 = some res) : GoN X shR nR 0 0 M 294 [some (.ref (X.B + x0)), none] [.int (s0), .ref (X.B + s1)] := by
  obtain ⟨g1, hf⟩ := gd_s hf
  obtain ⟨M2, hM2, hf⟩ := nx_s hf
  refine r_putI hX hn hM2 e_X11_next_294 fl_11_163 fp_11_8 rfl g1 ?_
  refine r_aload_n (i := 0) hX e_X11_next_297 rfl rfl ?_
  refine r_dup hX e_X11_next_298 rfl ?_
  obtain ⟨g3, hf⟩ := gd_s hf
  refine r_getI hX hn e_X11_next_299 fl_11_146 rfl g3 ?_
  refine r_iconst hX e_X11_next_302 ic_1 ?_
  refine r_iadd hX e_X11_next_303 ?_
  obtain ⟨M4, hM4, hf⟩ := nx_s hf
  refine r_putI hX hn hM4 e_X11_next_304 fl_11_146 fp_11_7 rfl g3 ?_
  exact r_ret hX hR e_X11_next_307 hf
theorem t_X11_next_258 {X : Cx} {res : Mem} {k208 : Mem → Nat → Option (Mem)} (hX : OkX X cX11_next RX11 1 23) (hn : Fit X shR nR) (hR : RetV X shR nR res) (hk208 : ∀ M x0, k208 M x0 = some res → GoN X shR nR 0 0 M 208 [some (.ref (X.B + x0)), none] []) (M : Mem) (x0 : Nat) (s0 : Int32) (s1 : Nat) (hf : f_X11_next_258 k208 M x0 s0 s1 = some res) : GoN X shR nR 0 0 M 258 [some (.ref (X.B + x0)), none] [.int (s0), .ref (X.B + s1)] := by
  obtain ⟨g1, hf⟩ := gd_s hf
  obtain ⟨M2, hM2, hf⟩ := nx_s hf
  refine r_putI hX hn hM2 e_X11_next_258 fl_11_156 fp_11_10 rfl g1 ?_
  refine r_aload_n (i := 0) hX e_X11_next_261 rfl rfl ?_
  refine r_dup hX e_X11_next_262 rfl ?_
  obtain ⟨g3, hf⟩ := gd_s hf
  refine r_getI hX hn e_X11_next_263 fl_11_146 rfl g3 ?_
  refine r_iconst hX e_X11_next_266 ic_1 ?_
  refine r_iadd hX e_X11_next_267 ?_
  obtain ⟨M4, hM4, hf⟩ := nx_s hf
  refine r_putI hX hn hM4 e_X11_next_268 fl_11_146 fp_11_7 rfl g3 ?_
  refine r_goto hX e_X11_next_271 ?_
  exact GoN.weak (hk208 M4 (x0) hf) rfl (sb_s (sb_n (sb_z _)))
theorem t_s_X11_next_208 {X : Cx} {res : Mem} {k208 : Mem → Nat → Option (Mem)} (hX : OkX X cX11_next RX11 1 23) (hn : Fit X shR nR) (hR : RetV X shR nR res) (hk208 : ∀ M x0, k208 M x0 = some res → GoN X shR nR 0 0 M 208 [some (.ref (X.B + x0)), none] []) (M : Mem) (x0 : Nat) (hf : s_X11_next_208 k208 M x0 = some res) : GoN X shR nR 0 0 M 208 [some (.ref (X.B + x0)), none] [] := by
  refine r_aload_n (i := 0) hX e_X11_next_208 rfl rfl ?_
  refine r_aload_n (i := 0) hX e_X11_next_209 rfl rfl ?_
  obtain ⟨g1, hf⟩ := gd_s hf
  refine r_getI hX hn e_X11_next_210 fl_11_146 rfl g1 ?_
  refine r_bipush hX e_X11_next_213 bc_48 ?_
  refine r_bipush hX e_X11_next_215 bc_57 ?_
  obtain ⟨v2, hv2, hf⟩ := bd_s hf
  refine r_cvi (As := fun K B => [.int ((gI M x0 7)), .int (48), .int (57)]) hX hn (t_X11_isByte hv2) e_X11_next_217 cw_X11_isByte cv_X11_isByte lk_11_149 ⟨Nat.le_of_ble_eq_true rfl, Nat.le_of_ble_eq_true rfl⟩ (ci := 11) rfl rfl (Nat.le_of_ble_eq_true rfl) g1 rfl rfl (Nat.le_of_ble_eq_true rfl) ⟨Nat.zero_le _, Nat.zero_le _⟩ ?_
  refine r_if_eq hX e_X11_next_220 (fun hc => ?_) (fun hc => ?_)
  · have hf := ite_t hf hc
    exact r_ret hX hR e_X11_next_307 hf
  · have hf := ite_f hf hc
    refine r_aload_n (i := 0) hX e_X11_next_223 rfl rfl ?_
    refine r_aload_n (i := 0) hX e_X11_next_224 rfl rfl ?_
    refine r_getI hX hn e_X11_next_225 fl_11_156 rfl g1 ?_
    refine r_ldc hX e_X11_next_228 wk_1347 ?_
    refine r_icmp_le hX e_X11_next_230 (fun hc => ?_) (fun hc => ?_)
    · have hf := ite_t hf hc
      refine r_bipush hX e_X11_next_238 bc_10 ?_
      refine r_aload_n (i := 0) hX e_X11_next_240 rfl rfl ?_
      refine r_getI hX hn e_X11_next_241 fl_11_156 rfl g1 ?_
      refine r_imul hX e_X11_next_244 ?_
      refine r_aload_n (i := 0) hX e_X11_next_245 rfl rfl ?_
      obtain ⟨r3, hr3, hf⟩ := bd_s hf
      refine r_getR hX hn e_X11_next_246 fl_11_23 rfl g1 hr3 ?_
      refine r_aload_n (i := 0) hX e_X11_next_249 rfl rfl ?_
      refine r_getI hX hn e_X11_next_250 fl_11_146 rfl g1 ?_
      obtain ⟨g4, hf⟩ := gd_s hf
      refine r_bald hX hn e_X11_next_253 g4 ?_
      refine r_iadd hX e_X11_next_254 ?_
      obtain ⟨v5, hv5, hf⟩ := nx_s hf
      refine top_i hv5 ?_
      refine r_bipush hX e_X11_next_255 bc_48 ?_
      refine r_isub hX e_X11_next_257 ?_
      exact GoN.weak (t_X11_next_258 hX hn hR hk208 M (x0) ((v5 - 48)) (x0) hf) rfl (sb_s (sb_n (sb_z _)))
    · have hf := ite_f hf hc
      refine r_ldc hX e_X11_next_233 wk_1348 ?_
      refine r_goto hX e_X11_next_235 ?_
      exact GoN.weak (t_X11_next_258 hX hn hR hk208 M (x0) (1000000) (x0) hf) rfl (sb_s (sb_n (sb_z _)))
theorem t_X11_next_208 {X : Cx} {res : Mem}  (hX : OkX X cX11_next RX11 1 23) (hn : Fit X shR nR) (hR : RetV X shR nR res)  : ∀ (n : Nat) (M : Mem) (x0 : Nat),  f_X11_next_208  n M x0 = some res → GoN X shR nR 0 0 M 208 [some (.ref (X.B + x0)), none] [] := by
  intro n
  induction n with
  | zero => intro M x0 hf; cases hf
  | succ n ih => intro M x0 hf; exact t_s_X11_next_208 hX hn hR  ih M x0 hf
theorem t_X11_next_169 {X : Cx} {res : Mem} {k102 : Mem → Nat → Int32 → Option (Mem)} (hX : OkX X cX11_next RX11 1 23) (hn : Fit X shR nR) (hR : RetV X shR nR res) (hk102 : ∀ M x0 x1, k102 M x0 x1 = some res → GoN X shR nR 0 0 M 102 [some (.ref (X.B + x0)), some (.int (x1))] []) (M : Mem) (x0 : Nat) (x1 : Int32) (hf : f_X11_next_169 k102 M x0 x1 = some res) : GoN X shR nR 0 0 M 169 [some (.ref (X.B + x0)), some (.int (x1))] [] := by
  refine r_aload_n (i := 0) hX e_X11_next_169 rfl rfl ?_
  refine r_dup hX e_X11_next_170 rfl ?_
  obtain ⟨g1, hf⟩ := gd_s hf
  refine r_getI hX hn e_X11_next_171 fl_11_146 rfl g1 ?_
  refine r_iconst hX e_X11_next_174 ic_1 ?_
  refine r_iadd hX e_X11_next_175 ?_
  obtain ⟨M2, hM2, hf⟩ := nx_s hf
  refine r_putI hX hn hM2 e_X11_next_176 fl_11_146 fp_11_7 rfl g1 ?_
  refine r_iinc (v := x1 + 1) hX e_X11_next_179 rfl (ii_s ic_1) (Nat.le_of_ble_eq_true rfl) rfl ?_
  refine r_goto hX e_X11_next_182 ?_
  exact GoN.weak (hk102 M2 (x0) ((x1 + 1)) hf) rfl (sb_s (sb_s (sb_z _)))
theorem t_X11_next_153 {X : Cx} {res : Mem} {k102 : Mem → Nat → Int32 → Option (Mem)} (hX : OkX X cX11_next RX11 1 23) (hn : Fit X shR nR) (hR : RetV X shR nR res) (hk102 : ∀ M x0 x1, k102 M x0 x1 = some res → GoN X shR nR 0 0 M 102 [some (.ref (X.B + x0)), some (.int (x1))] []) (M : Mem) (x0 : Nat) (x1 : Int32) (s0 : Int64) (s1 : Nat) (hf : f_X11_next_153 k102 M x0 x1 s0 s1 = some res) : GoN X shR nR 0 0 M 153 [some (.ref (X.B + x0)), some (.int (x1))] [.long (s0), .ref (X.B + s1)] := by
  obtain ⟨g1, hf⟩ := gd_s hf
  obtain ⟨M2, hM2, hf⟩ := nx_s hf
  refine r_putL hX hn hM2 e_X11_next_153 fl_11_159 fp_11_11 rfl g1 ?_
  refine r_iload_n (i := 1) hX e_X11_next_156 rfl rfl ?_
  refine r_bipush hX e_X11_next_157 bc_11 ?_
  refine r_icmp_le hX e_X11_next_159 (fun hc => ?_) (fun hc => ?_)
  · have hf := ite_t hf hc
    exact GoN.weak (t_X11_next_169 hX hn hR hk102 M2 (x0) (x1) hf) rfl (sb_s (sb_s (sb_z _)))
  · have hf := ite_f hf hc
    refine r_aload_n (i := 0) hX e_X11_next_162 rfl rfl ?_
    refine r_ldc2 hX e_X11_next_163 wk_1344 ?_
    obtain ⟨g3, hf⟩ := gd_s hf
    obtain ⟨M4, hM4, hf⟩ := nx_s hf
    refine r_putL hX hn hM4 e_X11_next_166 fl_11_159 fp_11_11 rfl g3 ?_
    exact GoN.weak (t_X11_next_169 hX hn hR hk102 M4 (x0) (x1) hf) rfl (sb_s (sb_s (sb_z _)))
theorem t_s_X11_next_102 {X : Cx} {res : Mem} {k102 : Mem → Nat → Int32 → Option (Mem)} (hX : OkX X cX11_next RX11 1 23) (hn : Fit X shR nR) (hR : RetV X shR nR res) (hk102 : ∀ M x0 x1, k102 M x0 x1 = some res → GoN X shR nR 0 0 M 102 [some (.ref (X.B + x0)), some (.int (x1))] []) (M : Mem) (x0 : Nat) (x1 : Int32) (hf : s_X11_next_102 k102 M x0 x1 = some res) : GoN X shR nR 0 0 M 102 [some (.ref (X.B + x0)), some (.int (x1))] [] := by
  refine r_aload_n (i := 0) hX e_X11_next_102 rfl rfl ?_
  refine r_aload_n (i := 0) hX e_X11_next_103 rfl rfl ?_
  obtain ⟨g1, hf⟩ := gd_s hf
  refine r_getI hX hn e_X11_next_104 fl_11_146 rfl g1 ?_
  refine r_bipush hX e_X11_next_107 bc_97 ?_
  refine r_bipush hX e_X11_next_109 bc_122 ?_
  obtain ⟨v2, hv2, hf⟩ := bd_s hf
  refine r_cvi (As := fun K B => [.int ((gI M x0 7)), .int (97), .int (122)]) hX hn (t_X11_isByte hv2) e_X11_next_111 cw_X11_isByte cv_X11_isByte lk_11_149 ⟨Nat.le_of_ble_eq_true rfl, Nat.le_of_ble_eq_true rfl⟩ (ci := 11) rfl rfl (Nat.le_of_ble_eq_true rfl) g1 rfl rfl (Nat.le_of_ble_eq_true rfl) ⟨Nat.zero_le _, Nat.zero_le _⟩ ?_
  refine r_if_eq hX e_X11_next_114 (fun hc => ?_) (fun hc => ?_)
  · have hf := ite_t hf hc
    refine r_goto hX e_X11_next_185 ?_
    exact r_ret hX hR e_X11_next_307 hf
  · have hf := ite_f hf hc
    refine r_aload_n (i := 0) hX e_X11_next_117 rfl rfl ?_
    refine r_iload_n (i := 1) hX e_X11_next_118 rfl rfl ?_
    refine r_bipush hX e_X11_next_119 bc_11 ?_
    refine r_icmp_le hX e_X11_next_121 (fun hc => ?_) (fun hc => ?_)
    · have hf := ite_t hf hc
      refine r_ldc2 hX e_X11_next_130 wk_1345 ?_
      refine r_aload_n (i := 0) hX e_X11_next_133 rfl rfl ?_
      refine r_getL hX hn e_X11_next_134 fl_11_159 rfl g1 ?_
      refine r_lmul hX e_X11_next_137 ?_
      refine r_aload_n (i := 0) hX e_X11_next_138 rfl rfl ?_
      obtain ⟨r3, hr3, hf⟩ := bd_s hf
      refine r_getR hX hn e_X11_next_139 fl_11_23 rfl g1 hr3 ?_
      refine r_aload_n (i := 0) hX e_X11_next_142 rfl rfl ?_
      refine r_getI hX hn e_X11_next_143 fl_11_146 rfl g1 ?_
      obtain ⟨g4, hf⟩ := gd_s hf
      refine r_bald hX hn e_X11_next_146 g4 ?_
      refine r_i2l hX e_X11_next_147 ?_
      obtain ⟨v5, hv5, hf⟩ := nx_s hf
      refine top_l hv5 ?_
      refine r_ladd hX e_X11_next_148 ?_
      refine r_ldc2 hX e_X11_next_149 wk_1346 ?_
      refine r_lsub hX e_X11_next_152 ?_
      exact GoN.weak (t_X11_next_153 hX hn hR hk102 M (x0) (x1) ((((27 * (gL M x0 11)) + v5) - 96)) (x0) hf) rfl (sb_s (sb_s (sb_z _)))
    · have hf := ite_f hf hc
      refine r_ldc2 hX e_X11_next_124 wk_1344 ?_
      refine r_goto hX e_X11_next_127 ?_
      exact GoN.weak (t_X11_next_153 hX hn hR hk102 M (x0) (x1) ((-1)) (x0) hf) rfl (sb_s (sb_s (sb_z _)))
theorem t_X11_next_102 {X : Cx} {res : Mem}  (hX : OkX X cX11_next RX11 1 23) (hn : Fit X shR nR) (hR : RetV X shR nR res)  : ∀ (n : Nat) (M : Mem) (x0 : Nat) (x1 : Int32),  f_X11_next_102  n M x0 x1 = some res → GoN X shR nR 0 0 M 102 [some (.ref (X.B + x0)), some (.int (x1))] [] := by
  intro n
  induction n with
  | zero => intro M x0 x1 hf; cases hf
  | succ n ih => intro M x0 x1 hf; exact t_s_X11_next_102 hX hn hR  ih M x0 x1 hf
theorem t_s_X11_next_0 {X : Cx} {res : Mem} {k0 : Mem → Nat → Option (Mem)} (hX : OkX X cX11_next RX11 1 23) (hn : Fit X shR nR) (hR : RetV X shR nR res) (hk0 : ∀ M x0, k0 M x0 = some res → GoN X shR nR 0 0 M 0 [some (.ref (X.B + x0)), none] []) (M : Mem) (x0 : Nat) (hf : s_X11_next_0 k0 M x0 = some res) : GoN X shR nR 0 0 M 0 [some (.ref (X.B + x0)), none] [] := by
  refine r_aload_n (i := 0) hX e_X11_next_0 rfl rfl ?_
  refine r_aload_n (i := 0) hX e_X11_next_1 rfl rfl ?_
  obtain ⟨g1, hf⟩ := gd_s hf
  refine r_getI hX hn e_X11_next_2 fl_11_146 rfl g1 ?_
  refine r_bipush hX e_X11_next_5 bc_32 ?_
  refine r_bipush hX e_X11_next_7 bc_32 ?_
  obtain ⟨v2, hv2, hf⟩ := bd_s hf
  refine r_cvi (As := fun K B => [.int ((gI M x0 7)), .int (32), .int (32)]) hX hn (t_X11_isByte hv2) e_X11_next_9 cw_X11_isByte cv_X11_isByte lk_11_149 ⟨Nat.le_of_ble_eq_true rfl, Nat.le_of_ble_eq_true rfl⟩ (ci := 11) rfl rfl (Nat.le_of_ble_eq_true rfl) g1 rfl rfl (Nat.le_of_ble_eq_true rfl) ⟨Nat.zero_le _, Nat.zero_le _⟩ ?_
  refine r_if_ne hX e_X11_next_12 (fun hc => ?_) (fun hc => ?_)
  · have hf := ite_f hf hc
    exact GoN.weak (t_X11_next_30 hX hn hR hk0 M (x0) hf) rfl (sb_s (sb_n (sb_z _)))
  · have hf := ite_t hf hc
    refine r_aload_n (i := 0) hX e_X11_next_15 rfl rfl ?_
    refine r_aload_n (i := 0) hX e_X11_next_16 rfl rfl ?_
    refine r_getI hX hn e_X11_next_17 fl_11_146 rfl g1 ?_
    refine r_bipush hX e_X11_next_20 bc_10 ?_
    refine r_bipush hX e_X11_next_22 bc_10 ?_
    obtain ⟨v3, hv3, hf⟩ := bd_s hf
    refine r_cvi (As := fun K B => [.int ((gI M x0 7)), .int (10), .int (10)]) hX hn (t_X11_isByte hv3) e_X11_next_24 cw_X11_isByte cv_X11_isByte lk_11_149 ⟨Nat.le_of_ble_eq_true rfl, Nat.le_of_ble_eq_true rfl⟩ (ci := 11) rfl rfl (Nat.le_of_ble_eq_true rfl) g1 rfl rfl (Nat.le_of_ble_eq_true rfl) ⟨Nat.zero_le _, Nat.zero_le _⟩ ?_
    refine r_if_eq hX e_X11_next_27 (fun hc => ?_) (fun hc => ?_)
    · have hf := ite_t hf hc
      refine r_aload_n (i := 0) hX e_X11_next_43 rfl rfl ?_
      refine r_aload_n (i := 0) hX e_X11_next_44 rfl rfl ?_
      refine r_getI hX hn e_X11_next_45 fl_11_146 rfl g1 ?_
      obtain ⟨M4, hM4, hf⟩ := nx_s hf
      refine r_putI hX hn hM4 e_X11_next_48 fl_11_153 fp_11_9 rfl g1 ?_
      refine r_aload_n (i := 0) hX e_X11_next_51 rfl rfl ?_
      refine r_iconst hX e_X11_next_52 ic_0 ?_
      obtain ⟨M5, hM5, hf⟩ := nx_s hf
      refine r_putI hX hn hM5 e_X11_next_53 fl_11_156 fp_11_10 rfl g1 ?_
      refine r_aload_n (i := 0) hX e_X11_next_56 rfl rfl ?_
      refine r_lconst hX e_X11_next_57 lc_0 ?_
      obtain ⟨M6, hM6, hf⟩ := nx_s hf
      refine r_putL hX hn hM6 e_X11_next_58 fl_11_159 fp_11_11 rfl g1 ?_
      refine r_aload_n (i := 0) hX e_X11_next_61 rfl rfl ?_
      refine r_getI hX hn e_X11_next_62 fl_11_146 rfl g1 ?_
      refine r_aload_n (i := 0) hX e_X11_next_65 rfl rfl ?_
      refine r_getI hX hn e_X11_next_66 fl_11_139 rfl g1 ?_
      refine r_icmp_ne hX e_X11_next_69 (fun hc => ?_) (fun hc => ?_)
      · have hf := ite_f hf hc
        refine r_aload_n (i := 0) hX e_X11_next_80 rfl rfl ?_
        refine r_aload_n (i := 0) hX e_X11_next_81 rfl rfl ?_
        refine r_getI hX hn e_X11_next_82 fl_11_146 rfl g1 ?_
        refine r_bipush hX e_X11_next_85 bc_97 ?_
        refine r_bipush hX e_X11_next_87 bc_122 ?_
        obtain ⟨v7, hv7, hf⟩ := bd_s hf
        refine r_cvi (As := fun K B => [.int ((gI M6 x0 7)), .int (97), .int (122)]) hX hn (t_X11_isByte hv7) e_X11_next_89 cw_X11_isByte cv_X11_isByte lk_11_149 ⟨Nat.le_of_ble_eq_true rfl, Nat.le_of_ble_eq_true rfl⟩ (ci := 11) rfl rfl (Nat.le_of_ble_eq_true rfl) g1 rfl rfl (Nat.le_of_ble_eq_true rfl) ⟨Nat.zero_le _, Nat.zero_le _⟩ ?_
        refine r_if_eq hX e_X11_next_92 (fun hc => ?_) (fun hc => ?_)
        · have hf := ite_t hf hc
          refine r_aload_n (i := 0) hX e_X11_next_188 rfl rfl ?_
          refine r_aload_n (i := 0) hX e_X11_next_189 rfl rfl ?_
          refine r_getI hX hn e_X11_next_190 fl_11_146 rfl g1 ?_
          refine r_bipush hX e_X11_next_193 bc_48 ?_
          refine r_bipush hX e_X11_next_195 bc_57 ?_
          obtain ⟨v8, hv8, hf⟩ := bd_s hf
          refine r_cvi (As := fun K B => [.int ((gI M6 x0 7)), .int (48), .int (57)]) hX hn (t_X11_isByte hv8) e_X11_next_197 cw_X11_isByte cv_X11_isByte lk_11_149 ⟨Nat.le_of_ble_eq_true rfl, Nat.le_of_ble_eq_true rfl⟩ (ci := 11) rfl rfl (Nat.le_of_ble_eq_true rfl) g1 rfl rfl (Nat.le_of_ble_eq_true rfl) ⟨Nat.zero_le _, Nat.zero_le _⟩ ?_
          refine r_if_eq hX e_X11_next_200 (fun hc => ?_) (fun hc => ?_)
          · have hf := ite_t hf hc
            refine r_aload_n (i := 0) hX e_X11_next_274 rfl rfl ?_
            refine r_aload_n (i := 0) hX e_X11_next_275 rfl rfl ?_
            obtain ⟨r9, hr9, hf⟩ := bd_s hf
            refine r_getR hX hn e_X11_next_276 fl_11_23 rfl g1 hr9 ?_
            refine r_aload_n (i := 0) hX e_X11_next_279 rfl rfl ?_
            refine r_getI hX hn e_X11_next_280 fl_11_146 rfl g1 ?_
            obtain ⟨g10, hf⟩ := gd_s hf
            refine r_bald hX hn e_X11_next_283 g10 ?_
            obtain ⟨v11, hv11, hf⟩ := nx_s hf
            refine top_i hv11 ?_
            refine r_bipush hX e_X11_next_284 bc_59 ?_
            refine r_icmp_ne hX e_X11_next_286 (fun hc => ?_) (fun hc => ?_)
            · have hf := ite_f hf hc
              refine r_iconst hX e_X11_next_293 ic_4 ?_
              exact GoN.weak (t_X11_next_294 hX hn hR M6 (x0) (4) (x0) hf) rfl (sb_s (sb_n (sb_z _)))
            · have hf := ite_t hf hc
              refine r_iconst hX e_X11_next_289 ic_3 ?_
              refine r_goto hX e_X11_next_290 ?_
              exact GoN.weak (t_X11_next_294 hX hn hR M6 (x0) (3) (x0) hf) rfl (sb_s (sb_n (sb_z _)))
          · have hf := ite_f hf hc
            refine r_aload_n (i := 0) hX e_X11_next_203 rfl rfl ?_
            refine r_iconst hX e_X11_next_204 ic_2 ?_
            obtain ⟨M12, hM12, hf⟩ := nx_s hf
            refine r_putI hX hn hM12 e_X11_next_205 fl_11_163 fp_11_8 rfl g1 ?_
            exact GoN.weak (t_X11_next_208 hX hn hR FU M12 (x0) hf) rfl (sb_s (sb_n (sb_z _)))
        · have hf := ite_f hf hc
          refine r_aload_n (i := 0) hX e_X11_next_95 rfl rfl ?_
          refine r_iconst hX e_X11_next_96 ic_1 ?_
          obtain ⟨M13, hM13, hf⟩ := nx_s hf
          refine r_putI hX hn hM13 e_X11_next_97 fl_11_163 fp_11_8 rfl g1 ?_
          refine r_iconst hX e_X11_next_100 ic_0 ?_
          refine r_istore_n (i := 1) hX e_X11_next_101 rfl (Nat.le_of_ble_eq_true rfl) rfl ?_
          exact GoN.weak (t_X11_next_102 hX hn hR FU M13 (x0) (0) hf) rfl (sb_s (sb_s (sb_z _)))
      · have hf := ite_t hf hc
        refine r_aload_n (i := 0) hX e_X11_next_72 rfl rfl ?_
        refine r_iconst hX e_X11_next_73 ic_0 ?_
        obtain ⟨M14, hM14, hf⟩ := nx_s hf
        refine r_putI hX hn hM14 e_X11_next_74 fl_11_163 fp_11_8 rfl g1 ?_
        refine r_goto hX e_X11_next_77 ?_
        exact r_ret hX hR e_X11_next_307 hf
    · have hf := ite_f hf hc
      exact GoN.weak (t_X11_next_30 hX hn hR hk0 M (x0) hf) rfl (sb_s (sb_n (sb_z _)))
theorem t_X11_next_0 {X : Cx} {res : Mem}  (hX : OkX X cX11_next RX11 1 23) (hn : Fit X shR nR) (hR : RetV X shR nR res)  : ∀ (n : Nat) (M : Mem) (x0 : Nat),  f_X11_next_0  n M x0 = some res → GoN X shR nR 0 0 M 0 [some (.ref (X.B + x0)), none] [] := by
  intro n
  induction n with
  | zero => intro M x0 hf; cases hf
  | succ n ih => intro M x0 hf; exact t_s_X11_next_0 hX hn hR  ih M x0 hf
theorem t_X11_next {l : Launch} {M : Mem} {a0 : Nat} {res : Mem} (hf : f_X11_next M a0 = some res) : Cv l yX11_next cX11_next 2 none 1 23 shR nR (fun K B => [.ref (B + a0)]) M res := by
  refine met_v (own := RX11) (lo := fun K B => [some (.ref (B + a0)), none]) (by decide +kernel) rfl shR_ok (fun _ _ => rfl) (fun _ _ => rfl) (fun _ _ => Nat.le_of_ble_eq_true rfl) (fun X hX hn hlx hR => ?_)
  exact GoN.weak (t_X11_next_0 hX hn hR FU M (a0) hf) rfl (sb_s (sb_n (sb_z _)))
def f_X11_isGood (M : Mem) (a0 : Nat) : Option (Int32) :=
  gd (oB shR a0 11) <| if (gI M a0 12) = 0 then some 1 else some 0
theorem t_X11_isGood {l : Launch} {M : Mem} {a0 : Nat} {res : Int32} (hf : f_X11_isGood M a0 = some res) : Ci l yX11_isGood cX11_isGood 1 (some .boolean) 0 0 shR nR (fun K B => [.ref (B + a0)]) M (M, res) := by
  refine met_i (own := RX11) (lo := fun K B => [some (.ref (B + a0))]) (by decide +kernel) rfl shR_ok (fun _ _ => rfl) (fun _ _ => rfl) (fun _ _ => Nat.le_of_ble_eq_true rfl) (fun X hX hn hlx hR => ?_)
  refine r_aload_n (i := 0) hX e_X11_isGood_0 rfl rfl ?_
  obtain ⟨g1, hf⟩ := gd_s hf
  refine r_getI hX hn e_X11_isGood_1 fl_11_174 rfl g1 ?_
  refine r_if_ne hX e_X11_isGood_4 (fun hc => ?_) (fun hc => ?_)
  · have hf := ite_f hf hc
    refine r_iconst hX e_X11_isGood_11 ic_0 ?_
    exact r_zret hX hR rfl e_X11_isGood_12 (ro_s hf)
  · have hf := ite_t hf hc
    refine r_iconst hX e_X11_isGood_7 ic_1 ?_
    refine r_goto hX e_X11_isGood_8 ?_
    exact r_zret hX hR rfl e_X11_isGood_12 (ro_s hf)
def f_X11_fails (M : Mem) (a0 : Nat) (a1 : Int32) : Option (Mem) :=
  gd (oB shR a0 11) <| if (gI M a0 12) = 0 then nx (sI M a0 12 a1) fun M2 => nx (sI M2 a0 13 (gI M2 a0 9)) fun M3 => some M3 else some M
theorem t_X11_fails {l : Launch} {M : Mem} {a0 : Nat} {a1 : Int32} {res : Mem} (hf : f_X11_fails M a0 a1 = some res) : Cv l yX11_fails cX11_fails 2 none 0 0 shR nR (fun K B => [.ref (B + a0), .int a1]) M res := by
  refine met_v (own := RX11) (lo := fun K B => [some (.ref (B + a0)), some (.int a1)]) (by decide +kernel) rfl shR_ok (fun _ _ => rfl) (fun _ _ => rfl) (fun _ _ => Nat.le_of_ble_eq_true rfl) (fun X hX hn hlx hR => ?_)
  refine r_aload_n (i := 0) hX e_X11_fails_0 rfl rfl ?_
  obtain ⟨g1, hf⟩ := gd_s hf
  refine r_getI hX hn e_X11_fails_1 fl_11_174 rfl g1 ?_
  refine r_if_eq hX e_X11_fails_4 (fun hc => ?_) (fun hc => ?_)
  · have hf := ite_t hf hc
    refine r_aload_n (i := 0) hX e_X11_fails_8 rfl rfl ?_
    refine r_iload_n (i := 1) hX e_X11_fails_9 rfl rfl ?_
    obtain ⟨M2, hM2, hf⟩ := nx_s hf
    refine r_putI hX hn hM2 e_X11_fails_10 fl_11_174 fp_11_12 rfl g1 ?_
    refine r_aload_n (i := 0) hX e_X11_fails_13 rfl rfl ?_
    refine r_aload_n (i := 0) hX e_X11_fails_14 rfl rfl ?_
    refine r_getI hX hn e_X11_fails_15 fl_11_153 rfl g1 ?_
    obtain ⟨M3, hM3, hf⟩ := nx_s hf
    refine r_putI hX hn hM3 e_X11_fails_18 fl_11_177 fp_11_13 rfl g1 ?_
    exact r_ret hX hR e_X11_fails_21 hf
  · have hf := ite_f hf hc
    exact r_ret hX hR e_X11_fails_7 hf
def f_X11_is (M : Mem) (a0 : Nat) (a1 : Int64) : Option (Int32) :=
  gd (oB shR a0 11) <| if (gI M a0 12) = 0 then if (gI M a0 8) = 1 then if (lg_cmp (gL M a0 11) a1) = 0 then some 1 else some 0 else some 0 else some 0
theorem t_X11_is {l : Launch} {M : Mem} {a0 : Nat} {a1 : Int64} {res : Int32} (hf : f_X11_is M a0 a1 = some res) : Ci l yX11_is cX11_is 3 (some .boolean) 0 0 shR nR (fun K B => [.ref (B + a0), .long a1]) M (M, res) := by
  refine met_i (own := RX11) (lo := fun K B => [some (.ref (B + a0)), some (.long a1), none]) (by decide +kernel) rfl shR_ok (fun _ _ => rfl) (fun _ _ => rfl) (fun _ _ => Nat.le_of_ble_eq_true rfl) (fun X hX hn hlx hR => ?_)
  refine r_aload_n (i := 0) hX e_X11_is_0 rfl rfl ?_
  obtain ⟨g1, hf⟩ := gd_s hf
  refine r_getI hX hn e_X11_is_1 fl_11_174 rfl g1 ?_
  refine r_if_ne hX e_X11_is_4 (fun hc => ?_) (fun hc => ?_)
  · have hf := ite_f hf hc
    refine r_iconst hX e_X11_is_28 ic_0 ?_
    exact r_zret hX hR rfl e_X11_is_29 (ro_s hf)
  · have hf := ite_t hf hc
    refine r_aload_n (i := 0) hX e_X11_is_7 rfl rfl ?_
    refine r_getI hX hn e_X11_is_8 fl_11_163 rfl g1 ?_
    refine r_iconst hX e_X11_is_11 ic_1 ?_
    refine r_icmp_ne hX e_X11_is_12 (fun hc => ?_) (fun hc => ?_)
    · have hf := ite_f hf hc
      refine r_iconst hX e_X11_is_28 ic_0 ?_
      exact r_zret hX hR rfl e_X11_is_29 (ro_s hf)
    · have hf := ite_t hf hc
      refine r_aload_n (i := 0) hX e_X11_is_15 rfl rfl ?_
      refine r_getL hX hn e_X11_is_16 fl_11_159 rfl g1 ?_
      refine r_lload_n (i := 1) hX e_X11_is_19 rfl rfl ?_
      refine r_lcmp hX e_X11_is_20 ?_
      refine r_if_ne hX e_X11_is_21 (fun hc => ?_) (fun hc => ?_)
      · have hf := ite_f hf hc
        refine r_iconst hX e_X11_is_28 ic_0 ?_
        exact r_zret hX hR rfl e_X11_is_29 (ro_s hf)
      · have hf := ite_t hf hc
        refine r_iconst hX e_X11_is_24 ic_1 ?_
        refine r_goto hX e_X11_is_25 ?_
        exact r_zret hX hR rfl e_X11_is_29 (ro_s hf)
def f_X11_takes (M : Mem) (a0 : Nat) (a1 : Int64) : Option (Mem × Int32) :=
  gd (oB shR a0 11) <| bd (f_X11_is M a0 a1) fun v2 => if v2 = 0 then some (M, 0) else bd (f_X11_next M a0) fun u3 => some (u3, 1)
theorem t_X11_takes {l : Launch} {M : Mem} {a0 : Nat} {a1 : Int64} {res : Mem × Int32} (hf : f_X11_takes M a0 a1 = some res) : Ci l yX11_takes cX11_takes 3 (some .boolean) 2 44 shR nR (fun K B => [.ref (B + a0), .long a1]) M res := by
  refine met_i (own := RX11) (lo := fun K B => [some (.ref (B + a0)), some (.long a1), none]) (by decide +kernel) rfl shR_ok (fun _ _ => rfl) (fun _ _ => rfl) (fun _ _ => Nat.le_of_ble_eq_true rfl) (fun X hX hn hlx hR => ?_)
  refine r_aload_n (i := 0) hX e_X11_takes_0 rfl rfl ?_
  refine r_lload_n (i := 1) hX e_X11_takes_1 rfl rfl ?_
  obtain ⟨g1, hf⟩ := gd_s hf
  obtain ⟨v2, hv2, hf⟩ := bd_s hf
  refine r_cvi (As := fun K B => [.long (a1)]) hX hn (t_X11_is hv2) e_X11_takes_2 cw_X11_is cv_X11_is lk_11_180 ⟨Nat.le_of_ble_eq_true rfl, Nat.le_of_ble_eq_true rfl⟩ (ci := 11) rfl rfl (Nat.le_of_ble_eq_true rfl) g1 rfl rfl (Nat.le_of_ble_eq_true rfl) ⟨Nat.zero_le _, Nat.zero_le _⟩ ?_
  refine r_if_ne hX e_X11_takes_5 (fun hc => ?_) (fun hc => ?_)
  · have hf := ite_f hf hc
    refine r_aload_n (i := 0) hX e_X11_takes_10 rfl rfl ?_
    obtain ⟨u3, hu3, hf⟩ := bd_s hf
    refine r_cvv (As := fun K B => []) hX hn (t_X11_next hu3) e_X11_takes_11 cw_X11_next cv_X11_next lk_11_184 ⟨Nat.le_of_ble_eq_true rfl, Nat.le_of_ble_eq_true rfl⟩ (ci := 11) rfl rfl (Nat.le_of_ble_eq_true rfl) g1 rfl rfl (Nat.le_of_ble_eq_true rfl) ⟨Nat.zero_le _, Nat.zero_le _⟩ ?_
    refine r_iconst hX e_X11_takes_14 ic_1 ?_
    exact r_zret hX hR rfl e_X11_takes_15 hf
  · have hf := ite_t hf hc
    refine r_iconst hX e_X11_takes_8 ic_0 ?_
    exact r_zret hX hR rfl e_X11_takes_9 hf
def f_X11_asks (M : Mem) (a0 : Nat) (a1 : Int64) : Option (Mem) :=
  gd (oB shR a0 11) <| bd (f_X11_takes M a0 a1) fun u2 => if u2.2 = 0 then bd (f_X11_fails u2.1 a0 1) fun u3 => some u3 else some u2.1
theorem t_X11_asks {l : Launch} {M : Mem} {a0 : Nat} {a1 : Int64} {res : Mem} (hf : f_X11_asks M a0 a1 = some res) : Cv l yX11_asks cX11_asks 3 none 3 66 shR nR (fun K B => [.ref (B + a0), .long a1]) M res := by
  refine met_v (own := RX11) (lo := fun K B => [some (.ref (B + a0)), some (.long a1), none]) (by decide +kernel) rfl shR_ok (fun _ _ => rfl) (fun _ _ => rfl) (fun _ _ => Nat.le_of_ble_eq_true rfl) (fun X hX hn hlx hR => ?_)
  refine r_aload_n (i := 0) hX e_X11_asks_0 rfl rfl ?_
  refine r_lload_n (i := 1) hX e_X11_asks_1 rfl rfl ?_
  obtain ⟨g1, hf⟩ := gd_s hf
  obtain ⟨u2, hu2, hf⟩ := bd_s hf
  refine r_cvi (As := fun K B => [.long (a1)]) hX hn (t_X11_takes hu2) e_X11_asks_2 cw_X11_takes cv_X11_takes lk_11_187 ⟨Nat.le_of_ble_eq_true rfl, Nat.le_of_ble_eq_true rfl⟩ (ci := 11) rfl rfl (Nat.le_of_ble_eq_true rfl) g1 rfl rfl (Nat.le_of_ble_eq_true rfl) ⟨Nat.zero_le _, Nat.zero_le _⟩ ?_
  refine r_if_ne hX e_X11_asks_5 (fun hc => ?_) (fun hc => ?_)
  · have hf := ite_f hf hc
    exact r_ret hX hR e_X11_asks_13 hf
  · have hf := ite_t hf hc
    refine r_aload_n (i := 0) hX e_X11_asks_8 rfl rfl ?_
    refine r_iconst hX e_X11_asks_9 ic_1 ?_
    obtain ⟨u3, hu3, hf⟩ := bd_s hf
    refine r_cvv (As := fun K B => [.int (1)]) hX hn (t_X11_fails hu3) e_X11_asks_10 cw_X11_fails cv_X11_fails lk_11_190 ⟨Nat.le_of_ble_eq_true rfl, Nat.le_of_ble_eq_true rfl⟩ (ci := 11) rfl rfl (Nat.le_of_ble_eq_true rfl) g1 rfl rfl (Nat.le_of_ble_eq_true rfl) ⟨Nat.zero_le _, Nat.zero_le _⟩ ?_
    exact r_ret hX hR e_X11_asks_13 hf
def f_X11_number (M : Mem) (a0 : Nat) (a1 : Int32) (a2 : Int32) : Option (Mem × Int32) :=
  gd (oB shR a0 11) <| if (gI M a0 12) = 0 then if (gI M a0 8) = 2 then bd (f_X11_in M (((gI M a0 10) : Int32).toInt64) ((a1 : Int32).toInt64) ((a2 : Int32).toInt64)) fun v2 => if v2 = 0 then bd (f_X11_fails M a0 2) fun u4 => some (u4, a1) else bd (f_X11_next M a0) fun u3 => some (u3, (gI M a0 10)) else bd (f_X11_fails M a0 1) fun u5 => some (u5, a1) else some (M, a1)
theorem t_X11_number {l : Launch} {M : Mem} {a0 : Nat} {a1 a2 : Int32} {res : Mem × Int32} (hf : f_X11_number M a0 a1 a2 = some res) : Ci l yX11_number cX11_number 4 (some .int) 2 44 shR nR (fun K B => [.ref (B + a0), .int a1, .int a2]) M res := by
  refine met_i (own := RX11) (lo := fun K B => [some (.ref (B + a0)), some (.int a1), some (.int a2), none]) (by decide +kernel) rfl shR_ok (fun _ _ => rfl) (fun _ _ => rfl) (fun _ _ => Nat.le_of_ble_eq_true rfl) (fun X hX hn hlx hR => ?_)
  refine r_aload_n (i := 0) hX e_X11_number_0 rfl rfl ?_
  obtain ⟨g1, hf⟩ := gd_s hf
  refine r_getI hX hn e_X11_number_1 fl_11_174 rfl g1 ?_
  refine r_if_eq hX e_X11_number_4 (fun hc => ?_) (fun hc => ?_)
  · have hf := ite_t hf hc
    refine r_aload_n (i := 0) hX e_X11_number_9 rfl rfl ?_
    refine r_getI hX hn e_X11_number_10 fl_11_163 rfl g1 ?_
    refine r_iconst hX e_X11_number_13 ic_2 ?_
    refine r_icmp_eq hX e_X11_number_14 (fun hc => ?_) (fun hc => ?_)
    · have hf := ite_t hf hc
      refine r_aload_n (i := 0) hX e_X11_number_24 rfl rfl ?_
      refine r_getI hX hn e_X11_number_25 fl_11_156 rfl g1 ?_
      refine r_i2l hX e_X11_number_28 ?_
      refine r_iload_n (i := 1) hX e_X11_number_29 rfl rfl ?_
      refine r_i2l hX e_X11_number_30 ?_
      refine r_iload_n (i := 2) hX e_X11_number_31 rfl rfl ?_
      refine r_i2l hX e_X11_number_32 ?_
      obtain ⟨v2, hv2, hf⟩ := bd_s hf
      refine r_csi (As := fun K B => [.long (((gI M a0 10) : Int32).toInt64), .long ((a1 : Int32).toInt64), .long ((a2 : Int32).toInt64)]) hX hn (t_X11_in hv2) e_X11_number_33 cw_X11_in cv_X11_in lk_11_127 ⟨Nat.le_of_ble_eq_true rfl, Nat.le_of_ble_eq_true rfl⟩ rfl rfl (Nat.le_of_ble_eq_true rfl) ⟨Nat.zero_le _, Nat.zero_le _⟩ ?_
      refine r_if_ne hX e_X11_number_36 (fun hc => ?_) (fun hc => ?_)
      · have hf := ite_f hf hc
        refine r_aload_n (i := 0) hX e_X11_number_46 rfl rfl ?_
        refine r_getI hX hn e_X11_number_47 fl_11_156 rfl g1 ?_
        refine r_istore_n (i := 3) hX e_X11_number_50 rfl (Nat.le_of_ble_eq_true rfl) rfl ?_
        refine r_aload_n (i := 0) hX e_X11_number_51 rfl rfl ?_
        obtain ⟨u3, hu3, hf⟩ := bd_s hf
        refine r_cvv (As := fun K B => []) hX hn (t_X11_next hu3) e_X11_number_52 cw_X11_next cv_X11_next lk_11_184 ⟨Nat.le_of_ble_eq_true rfl, Nat.le_of_ble_eq_true rfl⟩ (ci := 11) rfl rfl (Nat.le_of_ble_eq_true rfl) g1 rfl rfl (Nat.le_of_ble_eq_true rfl) ⟨Nat.zero_le _, Nat.zero_le _⟩ ?_
        refine r_iload_n (i := 3) hX e_X11_number_55 rfl rfl ?_
        exact r_iret hX hR e_X11_number_56 hf
      · have hf := ite_t hf hc
        refine r_aload_n (i := 0) hX e_X11_number_39 rfl rfl ?_
        refine r_iconst hX e_X11_number_40 ic_2 ?_
        obtain ⟨u4, hu4, hf⟩ := bd_s hf
        refine r_cvv (As := fun K B => [.int (2)]) hX hn (t_X11_fails hu4) e_X11_number_41 cw_X11_fails cv_X11_fails lk_11_190 ⟨Nat.le_of_ble_eq_true rfl, Nat.le_of_ble_eq_true rfl⟩ (ci := 11) rfl rfl (Nat.le_of_ble_eq_true rfl) g1 rfl rfl (Nat.le_of_ble_eq_true rfl) ⟨Nat.zero_le _, Nat.zero_le _⟩ ?_
        refine r_iload_n (i := 1) hX e_X11_number_44 rfl rfl ?_
        exact r_iret hX hR e_X11_number_45 hf
    · have hf := ite_f hf hc
      refine r_aload_n (i := 0) hX e_X11_number_17 rfl rfl ?_
      refine r_iconst hX e_X11_number_18 ic_1 ?_
      obtain ⟨u5, hu5, hf⟩ := bd_s hf
      refine r_cvv (As := fun K B => [.int (1)]) hX hn (t_X11_fails hu5) e_X11_number_19 cw_X11_fails cv_X11_fails lk_11_190 ⟨Nat.le_of_ble_eq_true rfl, Nat.le_of_ble_eq_true rfl⟩ (ci := 11) rfl rfl (Nat.le_of_ble_eq_true rfl) g1 rfl rfl (Nat.le_of_ble_eq_true rfl) ⟨Nat.zero_le _, Nat.zero_le _⟩ ?_
      refine r_iload_n (i := 1) hX e_X11_number_22 rfl rfl ?_
      exact r_iret hX hR e_X11_number_23 hf
  · have hf := ite_f hf hc
    refine r_iload_n (i := 1) hX e_X11_number_7 rfl rfl ?_
    exact r_iret hX hR e_X11_number_8 hf
def f_X11_number_ (M : Mem) (a0 : Nat) (a1 : Int64) (a2 : Int32) (a3 : Int32) : Option (Mem × Int32) :=
  gd (oB shR a0 11) <| bd (f_X11_asks M a0 a1) fun u2 => bd (f_X11_number u2 a0 a2 a3) fun u3 => some (u3.1, u3.2)
theorem t_X11_number_ {l : Launch} {M : Mem} {a0 : Nat} {a2 a3 : Int32} {a1 : Int64} {res : Mem × Int32} (hf : f_X11_number_ M a0 a1 a2 a3 = some res) : Ci l yX11_number_ cX11_number_ 5 (some .int) 4 88 shR nR (fun K B => [.ref (B + a0), .long a1, .int a2, .int a3]) M res := by
  refine met_i (own := RX11) (lo := fun K B => [some (.ref (B + a0)), some (.long a1), none, some (.int a2), some (.int a3)]) (by decide +kernel) rfl shR_ok (fun _ _ => rfl) (fun _ _ => rfl) (fun _ _ => Nat.le_of_ble_eq_true rfl) (fun X hX hn hlx hR => ?_)
  refine r_aload_n (i := 0) hX e_X11_number__0 rfl rfl ?_
  refine r_lload_n (i := 1) hX e_X11_number__1 rfl rfl ?_
  obtain ⟨g1, hf⟩ := gd_s hf
  obtain ⟨u2, hu2, hf⟩ := bd_s hf
  refine r_cvv (As := fun K B => [.long (a1)]) hX hn (t_X11_asks hu2) e_X11_number__2 cw_X11_asks cv_X11_asks lk_11_193 ⟨Nat.le_of_ble_eq_true rfl, Nat.le_of_ble_eq_true rfl⟩ (ci := 11) rfl rfl (Nat.le_of_ble_eq_true rfl) g1 rfl rfl (Nat.le_of_ble_eq_true rfl) ⟨Nat.zero_le _, Nat.zero_le _⟩ ?_
  refine r_aload_n (i := 0) hX e_X11_number__5 rfl rfl ?_
  refine r_iload_n (i := 3) hX e_X11_number__6 rfl rfl ?_
  refine r_iload hX e_X11_number__7 rfl ?_
  obtain ⟨u3, hu3, hf⟩ := bd_s hf
  refine r_cvi (As := fun K B => [.int (a2), .int (a3)]) hX hn (t_X11_number hu3) e_X11_number__9 cw_X11_number cv_X11_number lk_11_197 ⟨Nat.le_of_ble_eq_true rfl, Nat.le_of_ble_eq_true rfl⟩ (ci := 11) rfl rfl (Nat.le_of_ble_eq_true rfl) g1 rfl rfl (Nat.le_of_ble_eq_true rfl) ⟨Nat.zero_le _, Nat.zero_le _⟩ ?_
  exact r_iret hX hR e_X11_number__12 hf
def f_X11_ends_13  (M : Mem) (x0 : Nat) : Option (Mem) :=
  gd (oB shR x0 11) <| if (gI M x0 12) = 0 then bd (f_X11_next M x0) fun u2 => some u2 else some M
def f_X11_ends (M : Mem) (a0 : Nat) : Option (Mem) :=
  gd (oB shR a0 11) <| if (gI M a0 8) = 3 then f_X11_ends_13 M (a0) else bd (f_X11_fails M a0 1) fun u2 => f_X11_ends_13 u2 (a0)
theorem t_X11_ends_13 {X : Cx} {res : Mem}  (hX : OkX X cX11_ends RX11 2 44) (hn : Fit X shR nR) (hR : RetV X shR nR res)  (M : Mem) (x0 : Nat) (hf : f_X11_ends_13  M x0 = some res) : GoN X shR nR 0 0 M 13 [some (.ref (X.B + x0))] [] := by
  refine r_aload_n (i := 0) hX e_X11_ends_13 rfl rfl ?_
  obtain ⟨g1, hf⟩ := gd_s hf
  refine r_getI hX hn e_X11_ends_14 fl_11_174 rfl g1 ?_
  refine r_if_ne hX e_X11_ends_17 (fun hc => ?_) (fun hc => ?_)
  · have hf := ite_f hf hc
    exact r_ret hX hR e_X11_ends_24 hf
  · have hf := ite_t hf hc
    refine r_aload_n (i := 0) hX e_X11_ends_20 rfl rfl ?_
    obtain ⟨u2, hu2, hf⟩ := bd_s hf
    refine r_cvv (As := fun K B => []) hX hn (t_X11_next hu2) e_X11_ends_21 cw_X11_next cv_X11_next lk_11_184 ⟨Nat.le_of_ble_eq_true rfl, Nat.le_of_ble_eq_true rfl⟩ (ci := 11) rfl rfl (Nat.le_of_ble_eq_true rfl) g1 rfl rfl (Nat.le_of_ble_eq_true rfl) ⟨Nat.zero_le _, Nat.zero_le _⟩ ?_
    exact r_ret hX hR e_X11_ends_24 hf
theorem t_X11_ends {l : Launch} {M : Mem} {a0 : Nat} {res : Mem} (hf : f_X11_ends M a0 = some res) : Cv l yX11_ends cX11_ends 1 none 2 44 shR nR (fun K B => [.ref (B + a0)]) M res := by
  refine met_v (own := RX11) (lo := fun K B => [some (.ref (B + a0))]) (by decide +kernel) rfl shR_ok (fun _ _ => rfl) (fun _ _ => rfl) (fun _ _ => Nat.le_of_ble_eq_true rfl) (fun X hX hn hlx hR => ?_)
  refine r_aload_n (i := 0) hX e_X11_ends_0 rfl rfl ?_
  obtain ⟨g1, hf⟩ := gd_s hf
  refine r_getI hX hn e_X11_ends_1 fl_11_163 rfl g1 ?_
  refine r_iconst hX e_X11_ends_4 ic_3 ?_
  refine r_icmp_eq hX e_X11_ends_5 (fun hc => ?_) (fun hc => ?_)
  · have hf := ite_t hf hc
    exact GoN.weak (t_X11_ends_13 hX hn hR M (a0) hf) rfl (sb_s (sb_z _))
  · have hf := ite_f hf hc
    refine r_aload_n (i := 0) hX e_X11_ends_8 rfl rfl ?_
    refine r_iconst hX e_X11_ends_9 ic_1 ?_
    obtain ⟨u2, hu2, hf⟩ := bd_s hf
    refine r_cvv (As := fun K B => [.int (1)]) hX hn (t_X11_fails hu2) e_X11_ends_10 cw_X11_fails cv_X11_fails lk_11_190 ⟨Nat.le_of_ble_eq_true rfl, Nat.le_of_ble_eq_true rfl⟩ (ci := 11) rfl rfl (Nat.le_of_ble_eq_true rfl) g1 rfl rfl (Nat.le_of_ble_eq_true rfl) ⟨Nat.zero_le _, Nat.zero_le _⟩ ?_
    exact GoN.weak (t_X11_ends_13 hX hn hR u2 (a0) hf) rfl (sb_s (sb_z _))
def f_X11_begins (M : Mem) (a0 : Nat) : Option (Mem) :=
  gd (oB shR a0 11) <| nx (sI M a0 12 0) fun M2 => nx (sI M2 a0 13 (-1)) fun M3 => nx (sI M3 a0 7 0) fun M4 => bd (f_X11_next M4 a0) fun u5 => some u5
theorem t_X11_begins {l : Launch} {M : Mem} {a0 : Nat} {res : Mem} (hf : f_X11_begins M a0 = some res) : Cv l yX11_begins cX11_begins 1 none 2 44 shR nR (fun K B => [.ref (B + a0)]) M res := by
  refine met_v (own := RX11) (lo := fun K B => [some (.ref (B + a0))]) (by decide +kernel) rfl shR_ok (fun _ _ => rfl) (fun _ _ => rfl) (fun _ _ => Nat.le_of_ble_eq_true rfl) (fun X hX hn hlx hR => ?_)
  refine r_aload_n (i := 0) hX e_X11_begins_0 rfl rfl ?_
  refine r_iconst hX e_X11_begins_1 ic_0 ?_
  obtain ⟨g1, hf⟩ := gd_s hf
  obtain ⟨M2, hM2, hf⟩ := nx_s hf
  refine r_putI hX hn hM2 e_X11_begins_2 fl_11_174 fp_11_12 rfl g1 ?_
  refine r_aload_n (i := 0) hX e_X11_begins_5 rfl rfl ?_
  refine r_iconst hX e_X11_begins_6 ic_m1 ?_
  obtain ⟨M3, hM3, hf⟩ := nx_s hf
  refine r_putI hX hn hM3 e_X11_begins_7 fl_11_177 fp_11_13 rfl g1 ?_
  refine r_aload_n (i := 0) hX e_X11_begins_10 rfl rfl ?_
  refine r_iconst hX e_X11_begins_11 ic_0 ?_
  obtain ⟨M4, hM4, hf⟩ := nx_s hf
  refine r_putI hX hn hM4 e_X11_begins_12 fl_11_146 fp_11_7 rfl g1 ?_
  refine r_aload_n (i := 0) hX e_X11_begins_15 rfl rfl ?_
  obtain ⟨u5, hu5, hf⟩ := bd_s hf
  refine r_cvv (As := fun K B => []) hX hn (t_X11_next hu5) e_X11_begins_16 cw_X11_next cv_X11_next lk_11_184 ⟨Nat.le_of_ble_eq_true rfl, Nat.le_of_ble_eq_true rfl⟩ (ci := 11) rfl rfl (Nat.le_of_ble_eq_true rfl) g1 rfl rfl (Nat.le_of_ble_eq_true rfl) ⟨Nat.zero_le _, Nat.zero_le _⟩ ?_
  exact r_ret hX hR e_X11_begins_19 hf
def f_X11_isOver (M : Mem) (a0 : Nat) : Option (Mem) :=
  gd (oB shR a0 11) <| nx (sI M a0 6 0) fun M2 => nx (sI M2 a0 14 (gI M2 a0 12)) fun M3 => if (gI M3 a0 12) = 0 then nx (sI M3 a0 15 (-1)) fun M5 => some M5 else nx (sI M3 a0 15 (gI M3 a0 13)) fun M4 => some M4
theorem t_X11_isOver {l : Launch} {M : Mem} {a0 : Nat} {res : Mem} (hf : f_X11_isOver M a0 = some res) : Cv l yX11_isOver cX11_isOver 1 none 0 0 shR nR (fun K B => [.ref (B + a0)]) M res := by
  refine met_v (own := RX11) (lo := fun K B => [some (.ref (B + a0))]) (by decide +kernel) rfl shR_ok (fun _ _ => rfl) (fun _ _ => rfl) (fun _ _ => Nat.le_of_ble_eq_true rfl) (fun X hX hn hlx hR => ?_)
  refine r_aload_n (i := 0) hX e_X11_isOver_0 rfl rfl ?_
  refine r_iconst hX e_X11_isOver_1 ic_0 ?_
  obtain ⟨g1, hf⟩ := gd_s hf
  obtain ⟨M2, hM2, hf⟩ := nx_s hf
  refine r_putI hX hn hM2 e_X11_isOver_2 fl_11_139 fp_11_6 rfl g1 ?_
  refine r_aload_n (i := 0) hX e_X11_isOver_5 rfl rfl ?_
  refine r_aload_n (i := 0) hX e_X11_isOver_6 rfl rfl ?_
  refine r_getI hX hn e_X11_isOver_7 fl_11_174 rfl g1 ?_
  obtain ⟨M3, hM3, hf⟩ := nx_s hf
  refine r_putI hX hn hM3 e_X11_isOver_10 fl_11_201 fp_11_14 rfl g1 ?_
  refine r_aload_n (i := 0) hX e_X11_isOver_13 rfl rfl ?_
  refine r_aload_n (i := 0) hX e_X11_isOver_14 rfl rfl ?_
  refine r_getI hX hn e_X11_isOver_15 fl_11_174 rfl g1 ?_
  refine r_if_ne hX e_X11_isOver_18 (fun hc => ?_) (fun hc => ?_)
  · have hf := ite_f hf hc
    refine r_aload_n (i := 0) hX e_X11_isOver_25 rfl rfl ?_
    refine r_getI hX hn e_X11_isOver_26 fl_11_177 rfl g1 ?_
    obtain ⟨M4, hM4, hf⟩ := nx_s hf
    refine r_putI hX hn hM4 e_X11_isOver_29 fl_11_27 fp_11_15 rfl g1 ?_
    exact r_ret hX hR e_X11_isOver_32 hf
  · have hf := ite_t hf hc
    refine r_iconst hX e_X11_isOver_21 ic_m1 ?_
    refine r_goto hX e_X11_isOver_22 ?_
    obtain ⟨M5, hM5, hf⟩ := nx_s hf
    refine r_putI hX hn hM5 e_X11_isOver_29 fl_11_27 fp_11_15 rfl g1 ?_
    exact r_ret hX hR e_X11_isOver_32 hf
def f_X11_fault (M : Mem) (a0 : Nat) (a1 : Int32) : Option (Mem × Int32) :=
  gd (oB shR a0 11) <| nx (sI M a0 0 0) fun M2 => if a1 = 0 then some (M2, (gI M2 a0 14)) else if a1 = 1 then some (M2, (gI M2 a0 15)) else some (M2, (-1))
theorem t_X11_fault {l : Launch} {M : Mem} {a0 : Nat} {a1 : Int32} {res : Mem × Int32} (hf : f_X11_fault M a0 a1 = some res) : Ci l yX11_fault cX11_fault 2 (some .int) 0 0 shR nR (fun K B => [.ref (B + a0), .int a1]) M res := by
  refine met_i (own := RX11) (lo := fun K B => [some (.ref (B + a0)), some (.int a1)]) (by decide +kernel) rfl shR_ok (fun _ _ => rfl) (fun _ _ => rfl) (fun _ _ => Nat.le_of_ble_eq_true rfl) (fun X hX hn hlx hR => ?_)
  refine r_aload_n (i := 0) hX e_X11_fault_0 rfl rfl ?_
  refine r_iconst hX e_X11_fault_1 ic_0 ?_
  obtain ⟨g1, hf⟩ := gd_s hf
  obtain ⟨M2, hM2, hf⟩ := nx_s hf
  refine r_putI hX hn hM2 e_X11_fault_2 fl_11_122 fp_11_0 rfl g1 ?_
  refine r_iload_n (i := 1) hX e_X11_fault_5 rfl rfl ?_
  refine r_if_ne hX e_X11_fault_6 (fun hc => ?_) (fun hc => ?_)
  · have hf := ite_f hf hc
    refine r_iload_n (i := 1) hX e_X11_fault_16 rfl rfl ?_
    refine r_iconst hX e_X11_fault_17 ic_1 ?_
    refine r_icmp_ne hX e_X11_fault_18 (fun hc => ?_) (fun hc => ?_)
    · have hf := ite_f hf hc
      refine r_iconst hX e_X11_fault_28 ic_m1 ?_
      exact r_iret hX hR e_X11_fault_29 hf
    · have hf := ite_t hf hc
      refine r_aload_n (i := 0) hX e_X11_fault_21 rfl rfl ?_
      refine r_getI hX hn e_X11_fault_22 fl_11_27 rfl g1 ?_
      refine r_goto hX e_X11_fault_25 ?_
      exact r_iret hX hR e_X11_fault_29 hf
  · have hf := ite_t hf hc
    refine r_aload_n (i := 0) hX e_X11_fault_9 rfl rfl ?_
    refine r_getI hX hn e_X11_fault_10 fl_11_201 rfl g1 ?_
    refine r_goto hX e_X11_fault_13 ?_
    exact r_iret hX hR e_X11_fault_29 hf
def f_X11_hasRead (M : Mem) (a0 : Nat) (a1 : Int32) : Option (Int32) :=
  gd (oB shR a0 11) <| bd (gR M a0 17) fun r2 => gd (aB shR r2 0 (24 + a1)) <| some (gI M r2 ((24 + a1) : Int32).toNatClampNeg)
theorem t_X11_hasRead {l : Launch} {M : Mem} {a0 : Nat} {a1 : Int32} {res : Int32} (hf : f_X11_hasRead M a0 a1 = some res) : Ci l yX11_hasRead cX11_hasRead 2 (some .int) 0 0 shR nR (fun K B => [.ref (B + a0), .int a1]) M (M, res) := by
  refine met_i (own := RX11) (lo := fun K B => [some (.ref (B + a0)), some (.int a1)]) (by decide +kernel) rfl shR_ok (fun _ _ => rfl) (fun _ _ => rfl) (fun _ _ => Nat.le_of_ble_eq_true rfl) (fun X hX hn hlx hR => ?_)
  refine r_aload_n (i := 0) hX e_X11_hasRead_0 rfl rfl ?_
  obtain ⟨g1, hf⟩ := gd_s hf
  obtain ⟨r2, hr2, hf⟩ := bd_s hf
  refine r_getR hX hn e_X11_hasRead_1 fl_11_34 rfl g1 hr2 ?_
  refine r_bipush hX e_X11_hasRead_4 bc_24 ?_
  refine r_iload_n (i := 1) hX e_X11_hasRead_6 rfl rfl ?_
  refine r_iadd hX e_X11_hasRead_7 ?_
  obtain ⟨g3, hf⟩ := gd_s hf
  refine r_iald hX hn e_X11_hasRead_8 g3 ?_
  exact r_iret hX hR e_X11_hasRead_9 (ro_s hf)
def f_X11_ringLine_82  (M : Mem) (x0 : Nat) (s0 : Int32) (s1 : Int32) (s2 : Nat) : Option (Mem) :=
  gd (aB shR s2 0 s1) <| nx (sI M s2 (s1 : Int32).toNatClampNeg s0) fun M2 => gd (oB shR x0 11) <| bd (gR M2 x0 17) fun r4 => gd (aB shR r4 0 26) <| nx (sI M2 r4 (26 : Int32).toNatClampNeg ((gI M2 r4 (26 : Int32).toNatClampNeg) + 1)) fun M6 => some M6
def f_X11_ringLine_54  (M : Mem) (x0 : Nat) (x1 : Int32) (x2 : Int32) : Option (Mem) :=
  gd (oB shR x0 11) <| if (gI M x0 12) = 0 then bd (f_X11_next M x0) fun u2 => bd (gR u2 x0 18) fun r3 => if x2 = 0 then f_X11_ringLine_82 u2 (x0) ((-1)) ((x1 + 1)) (r3) else f_X11_ringLine_82 u2 (x0) (1) ((x1 + 1)) (r3) else some M
def f_X11_ringLine (M : Mem) (a0 : Nat) : Option (Mem) :=
  gd (oB shR a0 11) <| bd (f_X11_hasRead M a0 2) fun v2 => bd (gR M a0 18) fun r3 => bd (f_X11_number_ M a0 11055682 0 60) fun u4 => gd (aB shR r3 0 (2 * (12 + v2))) <| nx (sI u4.1 r3 ((2 * (12 + v2)) : Int32).toNatClampNeg u4.2) fun M6 => bd (f_X11_is M6 a0 99677) fun v7 => if v7 = 0 then bd (f_X11_is M6 a0 456887) fun v8 => if v8 = 0 then bd (f_X11_fails M6 a0 1) fun u9 => f_X11_ringLine_54 u9 (a0) ((2 * (12 + v2))) (v7) else f_X11_ringLine_54 M6 (a0) ((2 * (12 + v2))) (v7) else f_X11_ringLine_54 M6 (a0) ((2 * (12 + v2))) (v7)
theorem t_X11_ringLine_82 {X : Cx} {res : Mem}  (hX : OkX X cX11_ringLine RX11 5 112) (hn : Fit X shR nR) (hR : RetV X shR nR res)  (M : Mem) (x0 : Nat) (s0 : Int32) (s1 : Int32) (s2 : Nat) (hf : f_X11_ringLine_82  M x0 s0 s1 s2 = some res) : GoN X shR nR 0 0 M 82 [some (.ref (X.B + x0)), none, none] [.int (s0), .int (s1), .ref (X.B + s2)] := by
  obtain ⟨g1, hf⟩ := gd_s hf
  obtain ⟨M2, hM2, hf⟩ := nx_s hf
  refine r_iast hX hn hM2 e_X11_ringLine_82 g1 ?_
  refine r_aload_n (i := 0) hX e_X11_ringLine_83 rfl rfl ?_
  obtain ⟨g3, hf⟩ := gd_s hf
  obtain ⟨r4, hr4, hf⟩ := bd_s hf
  refine r_getR hX hn e_X11_ringLine_84 fl_11_34 rfl g3 hr4 ?_
  refine r_bipush hX e_X11_ringLine_87 bc_26 ?_
  refine r_dup2_11 hX e_X11_ringLine_89 rfl rfl ?_
  obtain ⟨g5, hf⟩ := gd_s hf
  refine r_iald hX hn e_X11_ringLine_90 g5 ?_
  refine r_iconst hX e_X11_ringLine_91 ic_1 ?_
  refine r_iadd hX e_X11_ringLine_92 ?_
  obtain ⟨M6, hM6, hf⟩ := nx_s hf
  refine r_iast hX hn hM6 e_X11_ringLine_93 g5 ?_
  exact r_ret hX hR e_X11_ringLine_94 hf
theorem t_X11_ringLine_54 {X : Cx} {res : Mem}  (hX : OkX X cX11_ringLine RX11 5 112) (hn : Fit X shR nR) (hR : RetV X shR nR res)  (M : Mem) (x0 : Nat) (x1 : Int32) (x2 : Int32) (hf : f_X11_ringLine_54  M x0 x1 x2 = some res) : GoN X shR nR 0 0 M 54 [some (.ref (X.B + x0)), some (.int (x1)), some (.int (x2))] [] := by
  refine r_aload_n (i := 0) hX e_X11_ringLine_54 rfl rfl ?_
  obtain ⟨g1, hf⟩ := gd_s hf
  refine r_getI hX hn e_X11_ringLine_55 fl_11_174 rfl g1 ?_
  refine r_if_eq hX e_X11_ringLine_58 (fun hc => ?_) (fun hc => ?_)
  · have hf := ite_t hf hc
    refine r_aload_n (i := 0) hX e_X11_ringLine_62 rfl rfl ?_
    obtain ⟨u2, hu2, hf⟩ := bd_s hf
    refine r_cvv (As := fun K B => []) hX hn (t_X11_next hu2) e_X11_ringLine_63 cw_X11_next cv_X11_next lk_11_184 ⟨Nat.le_of_ble_eq_true rfl, Nat.le_of_ble_eq_true rfl⟩ (ci := 11) rfl rfl (Nat.le_of_ble_eq_true rfl) g1 rfl rfl (Nat.le_of_ble_eq_true rfl) ⟨Nat.zero_le _, Nat.zero_le _⟩ ?_
    refine r_aload_n (i := 0) hX e_X11_ringLine_66 rfl rfl ?_
    obtain ⟨r3, hr3, hf⟩ := bd_s hf
    refine r_getR hX hn e_X11_ringLine_67 fl_11_37 rfl g1 hr3 ?_
    refine r_iload_n (i := 1) hX e_X11_ringLine_70 rfl rfl ?_
    refine r_iconst hX e_X11_ringLine_71 ic_1 ?_
    refine r_iadd hX e_X11_ringLine_72 ?_
    refine r_iload_n (i := 2) hX e_X11_ringLine_73 rfl rfl ?_
    refine r_if_eq hX e_X11_ringLine_74 (fun hc => ?_) (fun hc => ?_)
    · have hf := ite_t hf hc
      refine r_iconst hX e_X11_ringLine_81 ic_m1 ?_
      exact GoN.weak (t_X11_ringLine_82 hX hn hR u2 (x0) ((-1)) ((x1 + 1)) (r3) hf) rfl (sb_s (sb_n (sb_n (sb_z _))))
    · have hf := ite_f hf hc
      refine r_iconst hX e_X11_ringLine_77 ic_1 ?_
      refine r_goto hX e_X11_ringLine_78 ?_
      exact GoN.weak (t_X11_ringLine_82 hX hn hR u2 (x0) (1) ((x1 + 1)) (r3) hf) rfl (sb_s (sb_n (sb_n (sb_z _))))
  · have hf := ite_f hf hc
    exact r_ret hX hR e_X11_ringLine_61 hf
theorem t_X11_ringLine {l : Launch} {M : Mem} {a0 : Nat} {res : Mem} (hf : f_X11_ringLine M a0 = some res) : Cv l yX11_ringLine cX11_ringLine 3 none 5 112 shR nR (fun K B => [.ref (B + a0)]) M res := by
  refine met_v (own := RX11) (lo := fun K B => [some (.ref (B + a0)), none, none]) (by decide +kernel) rfl shR_ok (fun _ _ => rfl) (fun _ _ => rfl) (fun _ _ => Nat.le_of_ble_eq_true rfl) (fun X hX hn hlx hR => ?_)
  refine r_iconst hX e_X11_ringLine_0 ic_2 ?_
  refine r_bipush hX e_X11_ringLine_1 bc_12 ?_
  refine r_aload_n (i := 0) hX e_X11_ringLine_3 rfl rfl ?_
  refine r_iconst hX e_X11_ringLine_4 ic_2 ?_
  obtain ⟨g1, hf⟩ := gd_s hf
  obtain ⟨v2, hv2, hf⟩ := bd_s hf
  refine r_cvi (As := fun K B => [.int (2)]) hX hn (t_X11_hasRead hv2) e_X11_ringLine_5 cw_X11_hasRead cv_X11_hasRead lk_11_204 ⟨Nat.le_of_ble_eq_true rfl, Nat.le_of_ble_eq_true rfl⟩ (ci := 11) rfl rfl (Nat.le_of_ble_eq_true rfl) g1 rfl rfl (Nat.le_of_ble_eq_true rfl) ⟨Nat.zero_le _, Nat.zero_le _⟩ ?_
  refine r_iadd hX e_X11_ringLine_8 ?_
  refine r_imul hX e_X11_ringLine_9 ?_
  refine r_istore_n (i := 1) hX e_X11_ringLine_10 rfl (Nat.le_of_ble_eq_true rfl) rfl ?_
  refine r_aload_n (i := 0) hX e_X11_ringLine_11 rfl rfl ?_
  obtain ⟨r3, hr3, hf⟩ := bd_s hf
  refine r_getR hX hn e_X11_ringLine_12 fl_11_37 rfl g1 hr3 ?_
  refine r_iload_n (i := 1) hX e_X11_ringLine_15 rfl rfl ?_
  refine r_aload_n (i := 0) hX e_X11_ringLine_16 rfl rfl ?_
  refine r_ldc2 hX e_X11_ringLine_17 wk_1397 ?_
  refine r_iconst hX e_X11_ringLine_20 ic_0 ?_
  refine r_bipush hX e_X11_ringLine_21 bc_60 ?_
  obtain ⟨u4, hu4, hf⟩ := bd_s hf
  refine r_cvi (As := fun K B => [.long (11055682), .int (0), .int (60)]) hX hn (t_X11_number_ hu4) e_X11_ringLine_23 cw_X11_number_ cv_X11_number_ lk_11_210 ⟨Nat.le_of_ble_eq_true rfl, Nat.le_of_ble_eq_true rfl⟩ (ci := 11) rfl rfl (Nat.le_of_ble_eq_true rfl) g1 rfl rfl (Nat.le_of_ble_eq_true rfl) ⟨Nat.zero_le _, Nat.zero_le _⟩ ?_
  obtain ⟨g5, hf⟩ := gd_s hf
  obtain ⟨M6, hM6, hf⟩ := nx_s hf
  refine r_iast hX hn hM6 e_X11_ringLine_26 g5 ?_
  refine r_aload_n (i := 0) hX e_X11_ringLine_27 rfl rfl ?_
  refine r_ldc2 hX e_X11_ringLine_28 wk_1398 ?_
  obtain ⟨v7, hv7, hf⟩ := bd_s hf
  refine r_cvi (As := fun K B => [.long (99677)]) hX hn (t_X11_is hv7) e_X11_ringLine_31 cw_X11_is cv_X11_is lk_11_180 ⟨Nat.le_of_ble_eq_true rfl, Nat.le_of_ble_eq_true rfl⟩ (ci := 11) rfl rfl (Nat.le_of_ble_eq_true rfl) g1 rfl rfl (Nat.le_of_ble_eq_true rfl) ⟨Nat.zero_le _, Nat.zero_le _⟩ ?_
  refine r_istore_n (i := 2) hX e_X11_ringLine_34 rfl (Nat.le_of_ble_eq_true rfl) rfl ?_
  refine r_iload_n (i := 2) hX e_X11_ringLine_35 rfl rfl ?_
  refine r_if_ne hX e_X11_ringLine_36 (fun hc => ?_) (fun hc => ?_)
  · have hf := ite_f hf hc
    exact GoN.weak (t_X11_ringLine_54 hX hn hR M6 (a0) ((2 * (12 + v2))) (v7) hf) rfl (sb_s (sb_s (sb_s (sb_z _))))
  · have hf := ite_t hf hc
    refine r_aload_n (i := 0) hX e_X11_ringLine_39 rfl rfl ?_
    refine r_ldc2 hX e_X11_ringLine_40 wk_1399 ?_
    obtain ⟨v8, hv8, hf⟩ := bd_s hf
    refine r_cvi (As := fun K B => [.long (456887)]) hX hn (t_X11_is hv8) e_X11_ringLine_43 cw_X11_is cv_X11_is lk_11_180 ⟨Nat.le_of_ble_eq_true rfl, Nat.le_of_ble_eq_true rfl⟩ (ci := 11) rfl rfl (Nat.le_of_ble_eq_true rfl) g1 rfl rfl (Nat.le_of_ble_eq_true rfl) ⟨Nat.zero_le _, Nat.zero_le _⟩ ?_
    refine r_if_ne hX e_X11_ringLine_46 (fun hc => ?_) (fun hc => ?_)
    · have hf := ite_f hf hc
      exact GoN.weak (t_X11_ringLine_54 hX hn hR M6 (a0) ((2 * (12 + v2))) (v7) hf) rfl (sb_s (sb_s (sb_s (sb_z _))))
    · have hf := ite_t hf hc
      refine r_aload_n (i := 0) hX e_X11_ringLine_49 rfl rfl ?_
      refine r_iconst hX e_X11_ringLine_50 ic_1 ?_
      obtain ⟨u9, hu9, hf⟩ := bd_s hf
      refine r_cvv (As := fun K B => [.int (1)]) hX hn (t_X11_fails hu9) e_X11_ringLine_51 cw_X11_fails cv_X11_fails lk_11_190 ⟨Nat.le_of_ble_eq_true rfl, Nat.le_of_ble_eq_true rfl⟩ (ci := 11) rfl rfl (Nat.le_of_ble_eq_true rfl) g1 rfl rfl (Nat.le_of_ble_eq_true rfl) ⟨Nat.zero_le _, Nat.zero_le _⟩ ?_
      exact GoN.weak (t_X11_ringLine_54 hX hn hR u9 (a0) ((2 * (12 + v2))) (v7) hf) rfl (sb_s (sb_s (sb_s (sb_z _))))
def f_X11_stallLine_204  (M : Mem) (x0 : Nat) (s0 : Int32) (s1 : Int32) (s2 : Nat) : Option (Mem) :=
  gd (aB shR s2 0 s1) <| nx (sI M s2 (s1 : Int32).toNatClampNeg s0) fun M2 => gd (oB shR x0 11) <| bd (gR M2 x0 17) fun r4 => gd (aB shR r4 0 27) <| nx (sI M2 r4 (27 : Int32).toNatClampNeg ((gI M2 r4 (27 : Int32).toNatClampNeg) + 1)) fun M6 => some M6
def f_X11_stallLine_160  (M : Mem) (x0 : Nat) (x1 : Int32) (x2 : Int32) : Option (Mem) :=
  gd (oB shR x0 11) <| if (gI M x0 12) = 0 then bd (f_X11_next M x0) fun u2 => bd (gR u2 x0 19) fun r3 => gd (aB shR r3 0 (x1 + 5)) <| nx (sI u2 r3 ((x1 + 5) : Int32).toNatClampNeg x2) fun M5 => if x2 = 0 then f_X11_stallLine_204 M5 (x0) (0) ((x1 + 6)) (r3) else bd (f_X11_number M5 x0 1 20) fun u6 => f_X11_stallLine_204 u6.1 (x0) (u6.2) ((x1 + 6)) (r3) else some M
def f_X11_stallLine_149  (M : Mem) (x0 : Nat) (x1 : Int32) (s0 : Int32) : Option (Mem) :=
  if s0 = (-1) then gd (oB shR x0 11) <| bd (f_X11_fails M x0 1) fun u2 => f_X11_stallLine_160 u2 (x0) (x1) (s0) else f_X11_stallLine_160 M (x0) (x1) (s0)
def f_X11_stallLine (M : Mem) (a0 : Nat) : Option (Mem) :=
  gd (oB shR a0 11) <| bd (f_X11_hasRead M a0 3) fun v2 => bd (gR M a0 19) fun r3 => bd (f_X11_hasRead M a0 2) fun v4 => bd (f_X11_number M a0 0 (v4 - 1)) fun u5 => gd (aB shR r3 0 (7 * (32 + v2))) <| nx (sI u5.1 r3 ((7 * (32 + v2)) : Int32).toNatClampNeg u5.2) fun M7 => bd (gR M7 a0 19) fun r8 => bd (f_X11_hasRead M7 a0 0) fun v9 => bd (f_X11_number_ M7 a0 47 0 (v9 - 1)) fun u10 => gd (aB shR r8 0 ((7 * (32 + v2)) + 1)) <| nx (sI u10.1 r8 (((7 * (32 + v2)) + 1) : Int32).toNatClampNeg u10.2) fun M12 => bd (gR M12 a0 19) fun r13 => bd (f_X11_number_ M12 a0 10204885 0 5) fun u14 => gd (aB shR r13 0 ((7 * (32 + v2)) + 2)) <| nx (sI u14.1 r13 (((7 * (32 + v2)) + 2) : Int32).toNatClampNeg u14.2) fun M16 => bd (gR M16 a0 19) fun r17 => bd (f_X11_number_ M16 a0 234466237 0 20) fun u18 => gd (aB shR r17 0 ((7 * (32 + v2)) + 3)) <| nx (sI u18.1 r17 (((7 * (32 + v2)) + 3) : Int32).toNatClampNeg u18.2) fun M20 => bd (gR M20 a0 19) fun r21 => bd (f_X11_number_ M20 a0 8863997 0 99) fun u22 => gd (aB shR r21 0 ((7 * (32 + v2)) + 4)) <| nx (sI u22.1 r21 (((7 * (32 + v2)) + 4) : Int32).toNatClampNeg u22.2) fun M24 => bd (f_X11_is M24 a0 3383428) fun v25 => if v25 = 0 then bd (f_X11_is M24 a0 3217420) fun v26 => if v26 = 0 then bd (f_X11_is M24 a0 174877291) fun v27 => if v27 = 0 then f_X11_stallLine_149 M24 (a0) ((7 * (32 + v2))) ((-1)) else f_X11_stallLine_149 M24 (a0) ((7 * (32 + v2))) (2) else f_X11_stallLine_149 M24 (a0) ((7 * (32 + v2))) (1) else f_X11_stallLine_149 M24 (a0) ((7 * (32 + v2))) (0)
theorem t_X11_stallLine_204 {X : Cx} {res : Mem}  (hX : OkX X cX11_stallLine RX11 5 112) (hn : Fit X shR nR) (hR : RetV X shR nR res)  (M : Mem) (x0 : Nat) (s0 : Int32) (s1 : Int32) (s2 : Nat) (hf : f_X11_stallLine_204  M x0 s0 s1 s2 = some res) : GoN X shR nR 0 0 M 204 [some (.ref (X.B + x0)), none, none] [.int (s0), .int (s1), .ref (X.B + s2)] := by
  obtain ⟨g1, hf⟩ := gd_s hf
  obtain ⟨M2, hM2, hf⟩ := nx_s hf
  refine r_iast hX hn hM2 e_X11_stallLine_204 g1 ?_
  refine r_aload_n (i := 0) hX e_X11_stallLine_205 rfl rfl ?_
  obtain ⟨g3, hf⟩ := gd_s hf
  obtain ⟨r4, hr4, hf⟩ := bd_s hf
  refine r_getR hX hn e_X11_stallLine_206 fl_11_34 rfl g3 hr4 ?_
  refine r_bipush hX e_X11_stallLine_209 bc_27 ?_
  refine r_dup2_11 hX e_X11_stallLine_211 rfl rfl ?_
  obtain ⟨g5, hf⟩ := gd_s hf
  refine r_iald hX hn e_X11_stallLine_212 g5 ?_
  refine r_iconst hX e_X11_stallLine_213 ic_1 ?_
  refine r_iadd hX e_X11_stallLine_214 ?_
  obtain ⟨M6, hM6, hf⟩ := nx_s hf
  refine r_iast hX hn hM6 e_X11_stallLine_215 g5 ?_
  exact r_ret hX hR e_X11_stallLine_216 hf
theorem t_X11_stallLine_160 {X : Cx} {res : Mem}  (hX : OkX X cX11_stallLine RX11 5 112) (hn : Fit X shR nR) (hR : RetV X shR nR res)  (M : Mem) (x0 : Nat) (x1 : Int32) (x2 : Int32) (hf : f_X11_stallLine_160  M x0 x1 x2 = some res) : GoN X shR nR 0 0 M 160 [some (.ref (X.B + x0)), some (.int (x1)), some (.int (x2))] [] := by
  refine r_aload_n (i := 0) hX e_X11_stallLine_160 rfl rfl ?_
  obtain ⟨g1, hf⟩ := gd_s hf
  refine r_getI hX hn e_X11_stallLine_161 fl_11_174 rfl g1 ?_
  refine r_if_eq hX e_X11_stallLine_164 (fun hc => ?_) (fun hc => ?_)
  · have hf := ite_t hf hc
    refine r_aload_n (i := 0) hX e_X11_stallLine_168 rfl rfl ?_
    obtain ⟨u2, hu2, hf⟩ := bd_s hf
    refine r_cvv (As := fun K B => []) hX hn (t_X11_next hu2) e_X11_stallLine_169 cw_X11_next cv_X11_next lk_11_184 ⟨Nat.le_of_ble_eq_true rfl, Nat.le_of_ble_eq_true rfl⟩ (ci := 11) rfl rfl (Nat.le_of_ble_eq_true rfl) g1 rfl rfl (Nat.le_of_ble_eq_true rfl) ⟨Nat.zero_le _, Nat.zero_le _⟩ ?_
    refine r_aload_n (i := 0) hX e_X11_stallLine_172 rfl rfl ?_
    obtain ⟨r3, hr3, hf⟩ := bd_s hf
    refine r_getR hX hn e_X11_stallLine_173 fl_11_40 rfl g1 hr3 ?_
    refine r_iload_n (i := 1) hX e_X11_stallLine_176 rfl rfl ?_
    refine r_iconst hX e_X11_stallLine_177 ic_5 ?_
    refine r_iadd hX e_X11_stallLine_178 ?_
    refine r_iload_n (i := 2) hX e_X11_stallLine_179 rfl rfl ?_
    obtain ⟨g4, hf⟩ := gd_s hf
    obtain ⟨M5, hM5, hf⟩ := nx_s hf
    refine r_iast hX hn hM5 e_X11_stallLine_180 g4 ?_
    refine r_aload_n (i := 0) hX e_X11_stallLine_181 rfl rfl ?_
    refine r_getR hX hn e_X11_stallLine_182 fl_11_40 rfl g1 (gR_kI hM5 hr3) ?_
    refine r_iload_n (i := 1) hX e_X11_stallLine_185 rfl rfl ?_
    refine r_bipush hX e_X11_stallLine_186 bc_6 ?_
    refine r_iadd hX e_X11_stallLine_188 ?_
    refine r_iload_n (i := 2) hX e_X11_stallLine_189 rfl rfl ?_
    refine r_if_ne hX e_X11_stallLine_190 (fun hc => ?_) (fun hc => ?_)
    · have hf := ite_f hf hc
      refine r_aload_n (i := 0) hX e_X11_stallLine_197 rfl rfl ?_
      refine r_iconst hX e_X11_stallLine_198 ic_1 ?_
      refine r_bipush hX e_X11_stallLine_199 bc_20 ?_
      obtain ⟨u6, hu6, hf⟩ := bd_s hf
      refine r_cvi (As := fun K B => [.int (1), .int (20)]) hX hn (t_X11_number hu6) e_X11_stallLine_201 cw_X11_number cv_X11_number lk_11_197 ⟨Nat.le_of_ble_eq_true rfl, Nat.le_of_ble_eq_true rfl⟩ (ci := 11) rfl rfl (Nat.le_of_ble_eq_true rfl) g1 rfl rfl (Nat.le_of_ble_eq_true rfl) ⟨Nat.zero_le _, Nat.zero_le _⟩ ?_
      exact GoN.weak (t_X11_stallLine_204 hX hn hR u6.1 (x0) (u6.2) ((x1 + 6)) (r3) hf) rfl (sb_s (sb_n (sb_n (sb_z _))))
    · have hf := ite_t hf hc
      refine r_iconst hX e_X11_stallLine_193 ic_0 ?_
      refine r_goto hX e_X11_stallLine_194 ?_
      exact GoN.weak (t_X11_stallLine_204 hX hn hR M5 (x0) (0) ((x1 + 6)) (r3) hf) rfl (sb_s (sb_n (sb_n (sb_z _))))
  · have hf := ite_f hf hc
    exact r_ret hX hR e_X11_stallLine_167 hf
theorem t_X11_stallLine_149 {X : Cx} {res : Mem}  (hX : OkX X cX11_stallLine RX11 5 112) (hn : Fit X shR nR) (hR : RetV X shR nR res)  (M : Mem) (x0 : Nat) (x1 : Int32) (s0 : Int32) (hf : f_X11_stallLine_149  M x0 x1 s0 = some res) : GoN X shR nR 0 0 M 149 [some (.ref (X.B + x0)), some (.int (x1)), none] [.int (s0)] := by
  refine r_istore_n (i := 2) hX e_X11_stallLine_149 rfl (Nat.le_of_ble_eq_true rfl) rfl ?_
  refine r_iload_n (i := 2) hX e_X11_stallLine_150 rfl rfl ?_
  refine r_iconst hX e_X11_stallLine_151 ic_m1 ?_
  refine r_icmp_ne hX e_X11_stallLine_152 (fun hc => ?_) (fun hc => ?_)
  · have hf := ite_f hf hc
    exact GoN.weak (t_X11_stallLine_160 hX hn hR M (x0) (x1) (s0) hf) rfl (sb_s (sb_s (sb_s (sb_z _))))
  · have hf := ite_t hf hc
    refine r_aload_n (i := 0) hX e_X11_stallLine_155 rfl rfl ?_
    refine r_iconst hX e_X11_stallLine_156 ic_1 ?_
    obtain ⟨g1, hf⟩ := gd_s hf
    obtain ⟨u2, hu2, hf⟩ := bd_s hf
    refine r_cvv (As := fun K B => [.int (1)]) hX hn (t_X11_fails hu2) e_X11_stallLine_157 cw_X11_fails cv_X11_fails lk_11_190 ⟨Nat.le_of_ble_eq_true rfl, Nat.le_of_ble_eq_true rfl⟩ (ci := 11) rfl rfl (Nat.le_of_ble_eq_true rfl) g1 rfl rfl (Nat.le_of_ble_eq_true rfl) ⟨Nat.zero_le _, Nat.zero_le _⟩ ?_
    exact GoN.weak (t_X11_stallLine_160 hX hn hR u2 (x0) (x1) (s0) hf) rfl (sb_s (sb_s (sb_s (sb_z _))))
theorem t_X11_stallLine {l : Launch} {M : Mem} {a0 : Nat} {res : Mem} (hf : f_X11_stallLine M a0 = some res) : Cv l yX11_stallLine cX11_stallLine 3 none 5 112 shR nR (fun K B => [.ref (B + a0)]) M res := by
  refine met_v (own := RX11) (lo := fun K B => [some (.ref (B + a0)), none, none]) (by decide +kernel) rfl shR_ok (fun _ _ => rfl) (fun _ _ => rfl) (fun _ _ => Nat.le_of_ble_eq_true rfl) (fun X hX hn hlx hR => ?_)
  refine r_bipush hX e_X11_stallLine_0 bc_7 ?_
  refine r_bipush hX e_X11_stallLine_2 bc_32 ?_
  refine r_aload_n (i := 0) hX e_X11_stallLine_4 rfl rfl ?_
  refine r_iconst hX e_X11_stallLine_5 ic_3 ?_
  obtain ⟨g1, hf⟩ := gd_s hf
  obtain ⟨v2, hv2, hf⟩ := bd_s hf
  refine r_cvi (As := fun K B => [.int (3)]) hX hn (t_X11_hasRead hv2) e_X11_stallLine_6 cw_X11_hasRead cv_X11_hasRead lk_11_204 ⟨Nat.le_of_ble_eq_true rfl, Nat.le_of_ble_eq_true rfl⟩ (ci := 11) rfl rfl (Nat.le_of_ble_eq_true rfl) g1 rfl rfl (Nat.le_of_ble_eq_true rfl) ⟨Nat.zero_le _, Nat.zero_le _⟩ ?_
  refine r_iadd hX e_X11_stallLine_9 ?_
  refine r_imul hX e_X11_stallLine_10 ?_
  refine r_istore_n (i := 1) hX e_X11_stallLine_11 rfl (Nat.le_of_ble_eq_true rfl) rfl ?_
  refine r_aload_n (i := 0) hX e_X11_stallLine_12 rfl rfl ?_
  obtain ⟨r3, hr3, hf⟩ := bd_s hf
  refine r_getR hX hn e_X11_stallLine_13 fl_11_40 rfl g1 hr3 ?_
  refine r_iload_n (i := 1) hX e_X11_stallLine_16 rfl rfl ?_
  refine r_aload_n (i := 0) hX e_X11_stallLine_17 rfl rfl ?_
  refine r_iconst hX e_X11_stallLine_18 ic_0 ?_
  refine r_aload_n (i := 0) hX e_X11_stallLine_19 rfl rfl ?_
  refine r_iconst hX e_X11_stallLine_20 ic_2 ?_
  obtain ⟨v4, hv4, hf⟩ := bd_s hf
  refine r_cvi (As := fun K B => [.int (2)]) hX hn (t_X11_hasRead hv4) e_X11_stallLine_21 cw_X11_hasRead cv_X11_hasRead lk_11_204 ⟨Nat.le_of_ble_eq_true rfl, Nat.le_of_ble_eq_true rfl⟩ (ci := 11) rfl rfl (Nat.le_of_ble_eq_true rfl) g1 rfl rfl (Nat.le_of_ble_eq_true rfl) ⟨Nat.zero_le _, Nat.zero_le _⟩ ?_
  refine r_iconst hX e_X11_stallLine_24 ic_1 ?_
  refine r_isub hX e_X11_stallLine_25 ?_
  obtain ⟨u5, hu5, hf⟩ := bd_s hf
  refine r_cvi (As := fun K B => [.int (0), .int ((v4 - 1))]) hX hn (t_X11_number hu5) e_X11_stallLine_26 cw_X11_number cv_X11_number lk_11_197 ⟨Nat.le_of_ble_eq_true rfl, Nat.le_of_ble_eq_true rfl⟩ (ci := 11) rfl rfl (Nat.le_of_ble_eq_true rfl) g1 rfl rfl (Nat.le_of_ble_eq_true rfl) ⟨Nat.zero_le _, Nat.zero_le _⟩ ?_
  obtain ⟨g6, hf⟩ := gd_s hf
  obtain ⟨M7, hM7, hf⟩ := nx_s hf
  refine r_iast hX hn hM7 e_X11_stallLine_29 g6 ?_
  refine r_aload_n (i := 0) hX e_X11_stallLine_30 rfl rfl ?_
  obtain ⟨r8, hr8, hf⟩ := bd_s hf
  refine r_getR hX hn e_X11_stallLine_31 fl_11_40 rfl g1 hr8 ?_
  refine r_iload_n (i := 1) hX e_X11_stallLine_34 rfl rfl ?_
  refine r_iconst hX e_X11_stallLine_35 ic_1 ?_
  refine r_iadd hX e_X11_stallLine_36 ?_
  refine r_aload_n (i := 0) hX e_X11_stallLine_37 rfl rfl ?_
  refine r_ldc2 hX e_X11_stallLine_38 wk_1404 ?_
  refine r_iconst hX e_X11_stallLine_41 ic_0 ?_
  refine r_aload_n (i := 0) hX e_X11_stallLine_42 rfl rfl ?_
  refine r_iconst hX e_X11_stallLine_43 ic_0 ?_
  obtain ⟨v9, hv9, hf⟩ := bd_s hf
  refine r_cvi (As := fun K B => [.int (0)]) hX hn (t_X11_hasRead hv9) e_X11_stallLine_44 cw_X11_hasRead cv_X11_hasRead lk_11_204 ⟨Nat.le_of_ble_eq_true rfl, Nat.le_of_ble_eq_true rfl⟩ (ci := 11) rfl rfl (Nat.le_of_ble_eq_true rfl) g1 rfl rfl (Nat.le_of_ble_eq_true rfl) ⟨Nat.zero_le _, Nat.zero_le _⟩ ?_
  refine r_iconst hX e_X11_stallLine_47 ic_1 ?_
  refine r_isub hX e_X11_stallLine_48 ?_
  obtain ⟨u10, hu10, hf⟩ := bd_s hf
  refine r_cvi (As := fun K B => [.long (47), .int (0), .int ((v9 - 1))]) hX hn (t_X11_number_ hu10) e_X11_stallLine_49 cw_X11_number_ cv_X11_number_ lk_11_210 ⟨Nat.le_of_ble_eq_true rfl, Nat.le_of_ble_eq_true rfl⟩ (ci := 11) rfl rfl (Nat.le_of_ble_eq_true rfl) g1 rfl rfl (Nat.le_of_ble_eq_true rfl) ⟨Nat.zero_le _, Nat.zero_le _⟩ ?_
  obtain ⟨g11, hf⟩ := gd_s hf
  obtain ⟨M12, hM12, hf⟩ := nx_s hf
  refine r_iast hX hn hM12 e_X11_stallLine_52 g11 ?_
  refine r_aload_n (i := 0) hX e_X11_stallLine_53 rfl rfl ?_
  obtain ⟨r13, hr13, hf⟩ := bd_s hf
  refine r_getR hX hn e_X11_stallLine_54 fl_11_40 rfl g1 hr13 ?_
  refine r_iload_n (i := 1) hX e_X11_stallLine_57 rfl rfl ?_
  refine r_iconst hX e_X11_stallLine_58 ic_2 ?_
  refine r_iadd hX e_X11_stallLine_59 ?_
  refine r_aload_n (i := 0) hX e_X11_stallLine_60 rfl rfl ?_
  refine r_ldc2 hX e_X11_stallLine_61 wk_1405 ?_
  refine r_iconst hX e_X11_stallLine_64 ic_0 ?_
  refine r_iconst hX e_X11_stallLine_65 ic_5 ?_
  obtain ⟨u14, hu14, hf⟩ := bd_s hf
  refine r_cvi (As := fun K B => [.long (10204885), .int (0), .int (5)]) hX hn (t_X11_number_ hu14) e_X11_stallLine_66 cw_X11_number_ cv_X11_number_ lk_11_210 ⟨Nat.le_of_ble_eq_true rfl, Nat.le_of_ble_eq_true rfl⟩ (ci := 11) rfl rfl (Nat.le_of_ble_eq_true rfl) g1 rfl rfl (Nat.le_of_ble_eq_true rfl) ⟨Nat.zero_le _, Nat.zero_le _⟩ ?_
  obtain ⟨g15, hf⟩ := gd_s hf
  obtain ⟨M16, hM16, hf⟩ := nx_s hf
  refine r_iast hX hn hM16 e_X11_stallLine_69 g15 ?_
  refine r_aload_n (i := 0) hX e_X11_stallLine_70 rfl rfl ?_
  obtain ⟨r17, hr17, hf⟩ := bd_s hf
  refine r_getR hX hn e_X11_stallLine_71 fl_11_40 rfl g1 hr17 ?_
  refine r_iload_n (i := 1) hX e_X11_stallLine_74 rfl rfl ?_
  refine r_iconst hX e_X11_stallLine_75 ic_3 ?_
  refine r_iadd hX e_X11_stallLine_76 ?_
  refine r_aload_n (i := 0) hX e_X11_stallLine_77 rfl rfl ?_
  refine r_ldc2 hX e_X11_stallLine_78 wk_1406 ?_
  refine r_iconst hX e_X11_stallLine_81 ic_0 ?_
  refine r_bipush hX e_X11_stallLine_82 bc_20 ?_
  obtain ⟨u18, hu18, hf⟩ := bd_s hf
  refine r_cvi (As := fun K B => [.long (234466237), .int (0), .int (20)]) hX hn (t_X11_number_ hu18) e_X11_stallLine_84 cw_X11_number_ cv_X11_number_ lk_11_210 ⟨Nat.le_of_ble_eq_true rfl, Nat.le_of_ble_eq_true rfl⟩ (ci := 11) rfl rfl (Nat.le_of_ble_eq_true rfl) g1 rfl rfl (Nat.le_of_ble_eq_true rfl) ⟨Nat.zero_le _, Nat.zero_le _⟩ ?_
  obtain ⟨g19, hf⟩ := gd_s hf
  obtain ⟨M20, hM20, hf⟩ := nx_s hf
  refine r_iast hX hn hM20 e_X11_stallLine_87 g19 ?_
  refine r_aload_n (i := 0) hX e_X11_stallLine_88 rfl rfl ?_
  obtain ⟨r21, hr21, hf⟩ := bd_s hf
  refine r_getR hX hn e_X11_stallLine_89 fl_11_40 rfl g1 hr21 ?_
  refine r_iload_n (i := 1) hX e_X11_stallLine_92 rfl rfl ?_
  refine r_iconst hX e_X11_stallLine_93 ic_4 ?_
  refine r_iadd hX e_X11_stallLine_94 ?_
  refine r_aload_n (i := 0) hX e_X11_stallLine_95 rfl rfl ?_
  refine r_ldc2 hX e_X11_stallLine_96 wk_1407 ?_
  refine r_iconst hX e_X11_stallLine_99 ic_0 ?_
  refine r_bipush hX e_X11_stallLine_100 bc_99 ?_
  obtain ⟨u22, hu22, hf⟩ := bd_s hf
  refine r_cvi (As := fun K B => [.long (8863997), .int (0), .int (99)]) hX hn (t_X11_number_ hu22) e_X11_stallLine_102 cw_X11_number_ cv_X11_number_ lk_11_210 ⟨Nat.le_of_ble_eq_true rfl, Nat.le_of_ble_eq_true rfl⟩ (ci := 11) rfl rfl (Nat.le_of_ble_eq_true rfl) g1 rfl rfl (Nat.le_of_ble_eq_true rfl) ⟨Nat.zero_le _, Nat.zero_le _⟩ ?_
  obtain ⟨g23, hf⟩ := gd_s hf
  obtain ⟨M24, hM24, hf⟩ := nx_s hf
  refine r_iast hX hn hM24 e_X11_stallLine_105 g23 ?_
  refine r_aload_n (i := 0) hX e_X11_stallLine_106 rfl rfl ?_
  refine r_ldc2 hX e_X11_stallLine_107 wk_1408 ?_
  obtain ⟨v25, hv25, hf⟩ := bd_s hf
  refine r_cvi (As := fun K B => [.long (3383428)]) hX hn (t_X11_is hv25) e_X11_stallLine_110 cw_X11_is cv_X11_is lk_11_180 ⟨Nat.le_of_ble_eq_true rfl, Nat.le_of_ble_eq_true rfl⟩ (ci := 11) rfl rfl (Nat.le_of_ble_eq_true rfl) g1 rfl rfl (Nat.le_of_ble_eq_true rfl) ⟨Nat.zero_le _, Nat.zero_le _⟩ ?_
  refine r_if_eq hX e_X11_stallLine_113 (fun hc => ?_) (fun hc => ?_)
  · have hf := ite_t hf hc
    refine r_aload_n (i := 0) hX e_X11_stallLine_120 rfl rfl ?_
    refine r_ldc2 hX e_X11_stallLine_121 wk_1409 ?_
    obtain ⟨v26, hv26, hf⟩ := bd_s hf
    refine r_cvi (As := fun K B => [.long (3217420)]) hX hn (t_X11_is hv26) e_X11_stallLine_124 cw_X11_is cv_X11_is lk_11_180 ⟨Nat.le_of_ble_eq_true rfl, Nat.le_of_ble_eq_true rfl⟩ (ci := 11) rfl rfl (Nat.le_of_ble_eq_true rfl) g1 rfl rfl (Nat.le_of_ble_eq_true rfl) ⟨Nat.zero_le _, Nat.zero_le _⟩ ?_
    refine r_if_eq hX e_X11_stallLine_127 (fun hc => ?_) (fun hc => ?_)
    · have hf := ite_t hf hc
      refine r_aload_n (i := 0) hX e_X11_stallLine_134 rfl rfl ?_
      refine r_ldc2 hX e_X11_stallLine_135 wk_1410 ?_
      obtain ⟨v27, hv27, hf⟩ := bd_s hf
      refine r_cvi (As := fun K B => [.long (174877291)]) hX hn (t_X11_is hv27) e_X11_stallLine_138 cw_X11_is cv_X11_is lk_11_180 ⟨Nat.le_of_ble_eq_true rfl, Nat.le_of_ble_eq_true rfl⟩ (ci := 11) rfl rfl (Nat.le_of_ble_eq_true rfl) g1 rfl rfl (Nat.le_of_ble_eq_true rfl) ⟨Nat.zero_le _, Nat.zero_le _⟩ ?_
      refine r_if_eq hX e_X11_stallLine_141 (fun hc => ?_) (fun hc => ?_)
      · have hf := ite_t hf hc
        refine r_iconst hX e_X11_stallLine_148 ic_m1 ?_
        exact GoN.weak (t_X11_stallLine_149 hX hn hR M24 (a0) ((7 * (32 + v2))) ((-1)) hf) rfl (sb_s (sb_s (sb_n (sb_z _))))
      · have hf := ite_f hf hc
        refine r_iconst hX e_X11_stallLine_144 ic_2 ?_
        refine r_goto hX e_X11_stallLine_145 ?_
        exact GoN.weak (t_X11_stallLine_149 hX hn hR M24 (a0) ((7 * (32 + v2))) (2) hf) rfl (sb_s (sb_s (sb_n (sb_z _))))
    · have hf := ite_f hf hc
      refine r_iconst hX e_X11_stallLine_130 ic_1 ?_
      refine r_goto hX e_X11_stallLine_131 ?_
      exact GoN.weak (t_X11_stallLine_149 hX hn hR M24 (a0) ((7 * (32 + v2))) (1) hf) rfl (sb_s (sb_s (sb_n (sb_z _))))
  · have hf := ite_f hf hc
    refine r_iconst hX e_X11_stallLine_116 ic_0 ?_
    refine r_goto hX e_X11_stallLine_117 ?_
    exact GoN.weak (t_X11_stallLine_149 hX hn hR M24 (a0) ((7 * (32 + v2))) (0) hf) rfl (sb_s (sb_s (sb_n (sb_z _))))
def f_X11_buyerLine_112  (M : Mem) (x0 : Nat) (x1 : Int32) (x2 : Int32) : Option (Mem) :=
  gd (oB shR x0 11) <| if (gI M x0 12) = 0 then bd (f_X11_next M x0) fun u2 => bd (gR u2 x0 20) fun r3 => gd (aB shR r3 0 (x1 + 2)) <| nx (sI u2 r3 ((x1 + 2) : Int32).toNatClampNeg x2) fun M5 => gd (aB shR r3 0 (x1 + 3)) <| nx (sI M5 r3 ((x1 + 3) : Int32).toNatClampNeg 0) fun M7 => bd (gR M7 x0 17) fun r8 => gd (aB shR r8 0 28) <| nx (sI M7 r8 (28 : Int32).toNatClampNeg ((gI M7 r8 (28 : Int32).toNatClampNeg) + 1)) fun M10 => some M10 else some M
def f_X11_buyerLine_101  (M : Mem) (x0 : Nat) (x1 : Int32) (s0 : Int32) : Option (Mem) :=
  if s0 = (-1) then gd (oB shR x0 11) <| bd (f_X11_fails M x0 1) fun u2 => f_X11_buyerLine_112 u2 (x0) (x1) (s0) else f_X11_buyerLine_112 M (x0) (x1) (s0)
def f_X11_buyerLine (M : Mem) (a0 : Nat) : Option (Mem) :=
  gd (oB shR a0 11) <| bd (f_X11_hasRead M a0 4) fun v2 => bd (gR M a0 20) fun r3 => bd (f_X11_hasRead M a0 0) fun v4 => bd (f_X11_number_ M a0 47 0 (v4 - 1)) fun u5 => gd (aB shR r3 0 (4 * (24 + v2))) <| nx (sI u5.1 r3 ((4 * (24 + v2)) : Int32).toNatClampNeg u5.2) fun M7 => bd (gR M7 a0 20) fun r8 => bd (f_X11_number_ M7 a0 1896526 0 999) fun u9 => gd (aB shR r8 0 ((4 * (24 + v2)) + 1)) <| nx (sI u9.1 r8 (((4 * (24 + v2)) + 1) : Int32).toNatClampNeg u9.2) fun M11 => bd (f_X11_asks M11 a0 4272932) fun u12 => bd (f_X11_is u12 a0 2682144) fun v13 => if v13 = 0 then bd (f_X11_is u12 a0 7872949060) fun v14 => if v14 = 0 then bd (f_X11_is u12 a0 383153) fun v15 => if v15 = 0 then f_X11_buyerLine_101 u12 (a0) ((4 * (24 + v2))) ((-1)) else f_X11_buyerLine_101 u12 (a0) ((4 * (24 + v2))) (2) else f_X11_buyerLine_101 u12 (a0) ((4 * (24 + v2))) (1) else f_X11_buyerLine_101 u12 (a0) ((4 * (24 + v2))) (0)
theorem t_X11_buyerLine_112 {X : Cx} {res : Mem}  (hX : OkX X cX11_buyerLine RX11 5 112) (hn : Fit X shR nR) (hR : RetV X shR nR res)  (M : Mem) (x0 : Nat) (x1 : Int32) (x2 : Int32) (hf : f_X11_buyerLine_112  M x0 x1 x2 = some res) : GoN X shR nR 0 0 M 112 [some (.ref (X.B + x0)), some (.int (x1)), some (.int (x2))] [] := by
  refine r_aload_n (i := 0) hX e_X11_buyerLine_112 rfl rfl ?_
  obtain ⟨g1, hf⟩ := gd_s hf
  refine r_getI hX hn e_X11_buyerLine_113 fl_11_174 rfl g1 ?_
  refine r_if_eq hX e_X11_buyerLine_116 (fun hc => ?_) (fun hc => ?_)
  · have hf := ite_t hf hc
    refine r_aload_n (i := 0) hX e_X11_buyerLine_120 rfl rfl ?_
    obtain ⟨u2, hu2, hf⟩ := bd_s hf
    refine r_cvv (As := fun K B => []) hX hn (t_X11_next hu2) e_X11_buyerLine_121 cw_X11_next cv_X11_next lk_11_184 ⟨Nat.le_of_ble_eq_true rfl, Nat.le_of_ble_eq_true rfl⟩ (ci := 11) rfl rfl (Nat.le_of_ble_eq_true rfl) g1 rfl rfl (Nat.le_of_ble_eq_true rfl) ⟨Nat.zero_le _, Nat.zero_le _⟩ ?_
    refine r_aload_n (i := 0) hX e_X11_buyerLine_124 rfl rfl ?_
    obtain ⟨r3, hr3, hf⟩ := bd_s hf
    refine r_getR hX hn e_X11_buyerLine_125 fl_11_43 rfl g1 hr3 ?_
    refine r_iload_n (i := 1) hX e_X11_buyerLine_128 rfl rfl ?_
    refine r_iconst hX e_X11_buyerLine_129 ic_2 ?_
    refine r_iadd hX e_X11_buyerLine_130 ?_
    refine r_iload_n (i := 2) hX e_X11_buyerLine_131 rfl rfl ?_
    obtain ⟨g4, hf⟩ := gd_s hf
    obtain ⟨M5, hM5, hf⟩ := nx_s hf
    refine r_iast hX hn hM5 e_X11_buyerLine_132 g4 ?_
    refine r_aload_n (i := 0) hX e_X11_buyerLine_133 rfl rfl ?_
    refine r_getR hX hn e_X11_buyerLine_134 fl_11_43 rfl g1 (gR_kI hM5 hr3) ?_
    refine r_iload_n (i := 1) hX e_X11_buyerLine_137 rfl rfl ?_
    refine r_iconst hX e_X11_buyerLine_138 ic_3 ?_
    refine r_iadd hX e_X11_buyerLine_139 ?_
    refine r_iconst hX e_X11_buyerLine_140 ic_0 ?_
    obtain ⟨g6, hf⟩ := gd_s hf
    obtain ⟨M7, hM7, hf⟩ := nx_s hf
    refine r_iast hX hn hM7 e_X11_buyerLine_141 g6 ?_
    refine r_aload_n (i := 0) hX e_X11_buyerLine_142 rfl rfl ?_
    obtain ⟨r8, hr8, hf⟩ := bd_s hf
    refine r_getR hX hn e_X11_buyerLine_143 fl_11_34 rfl g1 hr8 ?_
    refine r_bipush hX e_X11_buyerLine_146 bc_28 ?_
    refine r_dup2_11 hX e_X11_buyerLine_148 rfl rfl ?_
    obtain ⟨g9, hf⟩ := gd_s hf
    refine r_iald hX hn e_X11_buyerLine_149 g9 ?_
    refine r_iconst hX e_X11_buyerLine_150 ic_1 ?_
    refine r_iadd hX e_X11_buyerLine_151 ?_
    obtain ⟨M10, hM10, hf⟩ := nx_s hf
    refine r_iast hX hn hM10 e_X11_buyerLine_152 g9 ?_
    exact r_ret hX hR e_X11_buyerLine_153 hf
  · have hf := ite_f hf hc
    exact r_ret hX hR e_X11_buyerLine_119 hf
theorem t_X11_buyerLine_101 {X : Cx} {res : Mem}  (hX : OkX X cX11_buyerLine RX11 5 112) (hn : Fit X shR nR) (hR : RetV X shR nR res)  (M : Mem) (x0 : Nat) (x1 : Int32) (s0 : Int32) (hf : f_X11_buyerLine_101  M x0 x1 s0 = some res) : GoN X shR nR 0 0 M 101 [some (.ref (X.B + x0)), some (.int (x1)), none] [.int (s0)] := by
  refine r_istore_n (i := 2) hX e_X11_buyerLine_101 rfl (Nat.le_of_ble_eq_true rfl) rfl ?_
  refine r_iload_n (i := 2) hX e_X11_buyerLine_102 rfl rfl ?_
  refine r_iconst hX e_X11_buyerLine_103 ic_m1 ?_
  refine r_icmp_ne hX e_X11_buyerLine_104 (fun hc => ?_) (fun hc => ?_)
  · have hf := ite_f hf hc
    exact GoN.weak (t_X11_buyerLine_112 hX hn hR M (x0) (x1) (s0) hf) rfl (sb_s (sb_s (sb_s (sb_z _))))
  · have hf := ite_t hf hc
    refine r_aload_n (i := 0) hX e_X11_buyerLine_107 rfl rfl ?_
    refine r_iconst hX e_X11_buyerLine_108 ic_1 ?_
    obtain ⟨g1, hf⟩ := gd_s hf
    obtain ⟨u2, hu2, hf⟩ := bd_s hf
    refine r_cvv (As := fun K B => [.int (1)]) hX hn (t_X11_fails hu2) e_X11_buyerLine_109 cw_X11_fails cv_X11_fails lk_11_190 ⟨Nat.le_of_ble_eq_true rfl, Nat.le_of_ble_eq_true rfl⟩ (ci := 11) rfl rfl (Nat.le_of_ble_eq_true rfl) g1 rfl rfl (Nat.le_of_ble_eq_true rfl) ⟨Nat.zero_le _, Nat.zero_le _⟩ ?_
    exact GoN.weak (t_X11_buyerLine_112 hX hn hR u2 (x0) (x1) (s0) hf) rfl (sb_s (sb_s (sb_s (sb_z _))))
theorem t_X11_buyerLine {l : Launch} {M : Mem} {a0 : Nat} {res : Mem} (hf : f_X11_buyerLine M a0 = some res) : Cv l yX11_buyerLine cX11_buyerLine 3 none 5 112 shR nR (fun K B => [.ref (B + a0)]) M res := by
  refine met_v (own := RX11) (lo := fun K B => [some (.ref (B + a0)), none, none]) (by decide +kernel) rfl shR_ok (fun _ _ => rfl) (fun _ _ => rfl) (fun _ _ => Nat.le_of_ble_eq_true rfl) (fun X hX hn hlx hR => ?_)
  refine r_iconst hX e_X11_buyerLine_0 ic_4 ?_
  refine r_bipush hX e_X11_buyerLine_1 bc_24 ?_
  refine r_aload_n (i := 0) hX e_X11_buyerLine_3 rfl rfl ?_
  refine r_iconst hX e_X11_buyerLine_4 ic_4 ?_
  obtain ⟨g1, hf⟩ := gd_s hf
  obtain ⟨v2, hv2, hf⟩ := bd_s hf
  refine r_cvi (As := fun K B => [.int (4)]) hX hn (t_X11_hasRead hv2) e_X11_buyerLine_5 cw_X11_hasRead cv_X11_hasRead lk_11_204 ⟨Nat.le_of_ble_eq_true rfl, Nat.le_of_ble_eq_true rfl⟩ (ci := 11) rfl rfl (Nat.le_of_ble_eq_true rfl) g1 rfl rfl (Nat.le_of_ble_eq_true rfl) ⟨Nat.zero_le _, Nat.zero_le _⟩ ?_
  refine r_iadd hX e_X11_buyerLine_8 ?_
  refine r_imul hX e_X11_buyerLine_9 ?_
  refine r_istore_n (i := 1) hX e_X11_buyerLine_10 rfl (Nat.le_of_ble_eq_true rfl) rfl ?_
  refine r_aload_n (i := 0) hX e_X11_buyerLine_11 rfl rfl ?_
  obtain ⟨r3, hr3, hf⟩ := bd_s hf
  refine r_getR hX hn e_X11_buyerLine_12 fl_11_43 rfl g1 hr3 ?_
  refine r_iload_n (i := 1) hX e_X11_buyerLine_15 rfl rfl ?_
  refine r_aload_n (i := 0) hX e_X11_buyerLine_16 rfl rfl ?_
  refine r_ldc2 hX e_X11_buyerLine_17 wk_1404 ?_
  refine r_iconst hX e_X11_buyerLine_20 ic_0 ?_
  refine r_aload_n (i := 0) hX e_X11_buyerLine_21 rfl rfl ?_
  refine r_iconst hX e_X11_buyerLine_22 ic_0 ?_
  obtain ⟨v4, hv4, hf⟩ := bd_s hf
  refine r_cvi (As := fun K B => [.int (0)]) hX hn (t_X11_hasRead hv4) e_X11_buyerLine_23 cw_X11_hasRead cv_X11_hasRead lk_11_204 ⟨Nat.le_of_ble_eq_true rfl, Nat.le_of_ble_eq_true rfl⟩ (ci := 11) rfl rfl (Nat.le_of_ble_eq_true rfl) g1 rfl rfl (Nat.le_of_ble_eq_true rfl) ⟨Nat.zero_le _, Nat.zero_le _⟩ ?_
  refine r_iconst hX e_X11_buyerLine_26 ic_1 ?_
  refine r_isub hX e_X11_buyerLine_27 ?_
  obtain ⟨u5, hu5, hf⟩ := bd_s hf
  refine r_cvi (As := fun K B => [.long (47), .int (0), .int ((v4 - 1))]) hX hn (t_X11_number_ hu5) e_X11_buyerLine_28 cw_X11_number_ cv_X11_number_ lk_11_210 ⟨Nat.le_of_ble_eq_true rfl, Nat.le_of_ble_eq_true rfl⟩ (ci := 11) rfl rfl (Nat.le_of_ble_eq_true rfl) g1 rfl rfl (Nat.le_of_ble_eq_true rfl) ⟨Nat.zero_le _, Nat.zero_le _⟩ ?_
  obtain ⟨g6, hf⟩ := gd_s hf
  obtain ⟨M7, hM7, hf⟩ := nx_s hf
  refine r_iast hX hn hM7 e_X11_buyerLine_31 g6 ?_
  refine r_aload_n (i := 0) hX e_X11_buyerLine_32 rfl rfl ?_
  obtain ⟨r8, hr8, hf⟩ := bd_s hf
  refine r_getR hX hn e_X11_buyerLine_33 fl_11_43 rfl g1 hr8 ?_
  refine r_iload_n (i := 1) hX e_X11_buyerLine_36 rfl rfl ?_
  refine r_iconst hX e_X11_buyerLine_37 ic_1 ?_
  refine r_iadd hX e_X11_buyerLine_38 ?_
  refine r_aload_n (i := 0) hX e_X11_buyerLine_39 rfl rfl ?_
  refine r_ldc2 hX e_X11_buyerLine_40 wk_1415 ?_
  refine r_iconst hX e_X11_buyerLine_43 ic_0 ?_
  refine r_sipush hX e_X11_buyerLine_44 sc_999 ?_
  obtain ⟨u9, hu9, hf⟩ := bd_s hf
  refine r_cvi (As := fun K B => [.long (1896526), .int (0), .int (999)]) hX hn (t_X11_number_ hu9) e_X11_buyerLine_47 cw_X11_number_ cv_X11_number_ lk_11_210 ⟨Nat.le_of_ble_eq_true rfl, Nat.le_of_ble_eq_true rfl⟩ (ci := 11) rfl rfl (Nat.le_of_ble_eq_true rfl) g1 rfl rfl (Nat.le_of_ble_eq_true rfl) ⟨Nat.zero_le _, Nat.zero_le _⟩ ?_
  obtain ⟨g10, hf⟩ := gd_s hf
  obtain ⟨M11, hM11, hf⟩ := nx_s hf
  refine r_iast hX hn hM11 e_X11_buyerLine_50 g10 ?_
  refine r_aload_n (i := 0) hX e_X11_buyerLine_51 rfl rfl ?_
  refine r_ldc2 hX e_X11_buyerLine_52 wk_1416 ?_
  obtain ⟨u12, hu12, hf⟩ := bd_s hf
  refine r_cvv (As := fun K B => [.long (4272932)]) hX hn (t_X11_asks hu12) e_X11_buyerLine_55 cw_X11_asks cv_X11_asks lk_11_193 ⟨Nat.le_of_ble_eq_true rfl, Nat.le_of_ble_eq_true rfl⟩ (ci := 11) rfl rfl (Nat.le_of_ble_eq_true rfl) g1 rfl rfl (Nat.le_of_ble_eq_true rfl) ⟨Nat.zero_le _, Nat.zero_le _⟩ ?_
  refine r_aload_n (i := 0) hX e_X11_buyerLine_58 rfl rfl ?_
  refine r_ldc2 hX e_X11_buyerLine_59 wk_1417 ?_
  obtain ⟨v13, hv13, hf⟩ := bd_s hf
  refine r_cvi (As := fun K B => [.long (2682144)]) hX hn (t_X11_is hv13) e_X11_buyerLine_62 cw_X11_is cv_X11_is lk_11_180 ⟨Nat.le_of_ble_eq_true rfl, Nat.le_of_ble_eq_true rfl⟩ (ci := 11) rfl rfl (Nat.le_of_ble_eq_true rfl) g1 rfl rfl (Nat.le_of_ble_eq_true rfl) ⟨Nat.zero_le _, Nat.zero_le _⟩ ?_
  refine r_if_eq hX e_X11_buyerLine_65 (fun hc => ?_) (fun hc => ?_)
  · have hf := ite_t hf hc
    refine r_aload_n (i := 0) hX e_X11_buyerLine_72 rfl rfl ?_
    refine r_ldc2 hX e_X11_buyerLine_73 wk_1418 ?_
    obtain ⟨v14, hv14, hf⟩ := bd_s hf
    refine r_cvi (As := fun K B => [.long (7872949060)]) hX hn (t_X11_is hv14) e_X11_buyerLine_76 cw_X11_is cv_X11_is lk_11_180 ⟨Nat.le_of_ble_eq_true rfl, Nat.le_of_ble_eq_true rfl⟩ (ci := 11) rfl rfl (Nat.le_of_ble_eq_true rfl) g1 rfl rfl (Nat.le_of_ble_eq_true rfl) ⟨Nat.zero_le _, Nat.zero_le _⟩ ?_
    refine r_if_eq hX e_X11_buyerLine_79 (fun hc => ?_) (fun hc => ?_)
    · have hf := ite_t hf hc
      refine r_aload_n (i := 0) hX e_X11_buyerLine_86 rfl rfl ?_
      refine r_ldc2 hX e_X11_buyerLine_87 wk_1419 ?_
      obtain ⟨v15, hv15, hf⟩ := bd_s hf
      refine r_cvi (As := fun K B => [.long (383153)]) hX hn (t_X11_is hv15) e_X11_buyerLine_90 cw_X11_is cv_X11_is lk_11_180 ⟨Nat.le_of_ble_eq_true rfl, Nat.le_of_ble_eq_true rfl⟩ (ci := 11) rfl rfl (Nat.le_of_ble_eq_true rfl) g1 rfl rfl (Nat.le_of_ble_eq_true rfl) ⟨Nat.zero_le _, Nat.zero_le _⟩ ?_
      refine r_if_eq hX e_X11_buyerLine_93 (fun hc => ?_) (fun hc => ?_)
      · have hf := ite_t hf hc
        refine r_iconst hX e_X11_buyerLine_100 ic_m1 ?_
        exact GoN.weak (t_X11_buyerLine_101 hX hn hR u12 (a0) ((4 * (24 + v2))) ((-1)) hf) rfl (sb_s (sb_s (sb_n (sb_z _))))
      · have hf := ite_f hf hc
        refine r_iconst hX e_X11_buyerLine_96 ic_2 ?_
        refine r_goto hX e_X11_buyerLine_97 ?_
        exact GoN.weak (t_X11_buyerLine_101 hX hn hR u12 (a0) ((4 * (24 + v2))) (2) hf) rfl (sb_s (sb_s (sb_n (sb_z _))))
    · have hf := ite_f hf hc
      refine r_iconst hX e_X11_buyerLine_82 ic_1 ?_
      refine r_goto hX e_X11_buyerLine_83 ?_
      exact GoN.weak (t_X11_buyerLine_101 hX hn hR u12 (a0) ((4 * (24 + v2))) (1) hf) rfl (sb_s (sb_s (sb_n (sb_z _))))
  · have hf := ite_f hf hc
    refine r_iconst hX e_X11_buyerLine_68 ic_0 ?_
    refine r_goto hX e_X11_buyerLine_69 ?_
    exact GoN.weak (t_X11_buyerLine_101 hX hn hR u12 (a0) ((4 * (24 + v2))) (0) hf) rfl (sb_s (sb_s (sb_n (sb_z _))))
def f_X11_wantLine_147  (M : Mem) (x0 : Nat) (x2 : Int32) (x3 : Int32) : Option (Mem) :=
  gd (oB shR x0 11) <| bd (gR M x0 21) fun r2 => bd (f_X11_number M x0 0 5) fun u3 => gd (aB shR r2 0 ((9 * x2) + (3 * x3))) <| nx (sI u3.1 r2 (((9 * x2) + (3 * x3)) : Int32).toNatClampNeg u3.2) fun M5 => bd (gR M5 x0 21) fun r6 => bd (f_X11_number_ M5 x0 234466237 1 9) fun u7 => gd (aB shR r6 0 (((9 * x2) + (3 * x3)) + 1)) <| nx (sI u7.1 r6 ((((9 * x2) + (3 * x3)) + 1) : Int32).toNatClampNeg u7.2) fun M9 => bd (gR M9 x0 21) fun r10 => bd (f_X11_number_ M9 x0 6564179 0 99) fun u11 => gd (aB shR r10 0 (((9 * x2) + (3 * x3)) + 2)) <| nx (sI u11.1 r10 ((((9 * x2) + (3 * x3)) + 2) : Int32).toNatClampNeg u11.2) fun M13 => bd (gR M13 x0 20) fun r14 => gd (aB shR r14 0 ((4 * x2) + 3)) <| nx ((gI M13 r14 (((4 * x2) + 3) : Int32).toNatClampNeg)) fun v16 => nx (sI M13 r14 (((4 * x2) + 3) : Int32).toNatClampNeg (v16 + 1)) fun M17 => some M17
def s_X11_wantLine_109 (k109 : Mem → Nat → Int32 → Int32 → Int32 → Option (Mem)) (M : Mem) (x0 : Nat) (x2 : Int32) (x3 : Int32) (x4 : Int32) : Option (Mem) :=
  if x3 ≤ x4 then f_X11_wantLine_147 M (x0) (x2) (x3) else gd (oB shR x0 11) <| bd (gR M x0 21) fun r2 => gd (aB shR r2 0 ((9 * x2) + (3 * x4))) <| nx ((gI M r2 (((9 * x2) + (3 * x4)) : Int32).toNatClampNeg)) fun v4 => if v4 = (gI M x0 10) then bd (f_X11_fails M x0 2) fun u5 => k109 u5 (x0) (x2) (x3) ((x4 + 1)) else k109 M (x0) (x2) (x3) ((x4 + 1))
def f_X11_wantLine_109  : Nat → Mem → Nat → Int32 → Int32 → Int32 → Option (Mem)
  | 0 => fun _ _ _ _ _ => none
  | n + 1 => fun y0 y1 y2 y3 y4 => s_X11_wantLine_109  (f_X11_wantLine_109  n) y0 y1 y2 y3 y4
def f_X11_wantLine_52  (M : Mem) (x0 : Nat) : Option (Mem) :=
  gd (oB shR x0 11) <| bd (f_X11_hasRead M x0 4) fun v2 => bd (f_X11_number M x0 0 (v2 - 1)) fun u3 => if (gI u3.1 x0 12) = 0 then bd (gR u3.1 x0 20) fun r4 => gd (aB shR r4 0 ((4 * (24 + u3.2)) + 3)) <| nx ((gI u3.1 r4 (((4 * (24 + u3.2)) + 3) : Int32).toNatClampNeg)) fun v6 => if (gI u3.1 x0 8) = 2 then if 6 ≤ (gI u3.1 x0 10) then f_X11_wantLine_147 u3.1 (x0) ((24 + u3.2)) (v6) else f_X11_wantLine_109 FU u3.1 (x0) ((24 + u3.2)) (v6) (0) else f_X11_wantLine_147 u3.1 (x0) ((24 + u3.2)) (v6) else some u3.1
def f_X11_wantLine (M : Mem) (a0 : Nat) : Option (Mem) :=
  gd (oB shR a0 11) <| if (gI M a0 12) = 0 then if (gI M a0 8) = 2 then bd (f_X11_hasRead M a0 4) fun v2 => if v2 ≤ (gI M a0 10) then f_X11_wantLine_52 M (a0) else bd (gR M a0 20) fun r3 => gd (aB shR r3 0 ((4 * (24 + (gI M a0 10))) + 3)) <| nx ((gI M r3 (((4 * (24 + (gI M a0 10))) + 3) : Int32).toNatClampNeg)) fun v5 => if v5 = 3 then bd (f_X11_fails M a0 3) fun u6 => f_X11_wantLine_52 u6 (a0) else f_X11_wantLine_52 M (a0) else f_X11_wantLine_52 M (a0) else f_X11_wantLine_52 M (a0)
theorem t_X11_wantLine_147 {X : Cx} {res : Mem}  (hX : OkX X cX11_wantLine RX11 5 112) (hn : Fit X shR nR) (hR : RetV X shR nR res)  (M : Mem) (x0 : Nat) (x2 : Int32) (x3 : Int32) (hf : f_X11_wantLine_147  M x0 x2 x3 = some res) : GoN X shR nR 0 0 M 147 [some (.ref (X.B + x0)), none, some (.int (x2)), some (.int (x3)), none] [] := by
  refine r_aload_n (i := 0) hX e_X11_wantLine_147 rfl rfl ?_
  obtain ⟨g1, hf⟩ := gd_s hf
  obtain ⟨r2, hr2, hf⟩ := bd_s hf
  refine r_getR hX hn e_X11_wantLine_148 fl_11_46 rfl g1 hr2 ?_
  refine r_bipush hX e_X11_wantLine_151 bc_9 ?_
  refine r_iload_n (i := 2) hX e_X11_wantLine_153 rfl rfl ?_
  refine r_imul hX e_X11_wantLine_154 ?_
  refine r_iconst hX e_X11_wantLine_155 ic_3 ?_
  refine r_iload_n (i := 3) hX e_X11_wantLine_156 rfl rfl ?_
  refine r_imul hX e_X11_wantLine_157 ?_
  refine r_iadd hX e_X11_wantLine_158 ?_
  refine r_aload_n (i := 0) hX e_X11_wantLine_159 rfl rfl ?_
  refine r_iconst hX e_X11_wantLine_160 ic_0 ?_
  refine r_iconst hX e_X11_wantLine_161 ic_5 ?_
  obtain ⟨u3, hu3, hf⟩ := bd_s hf
  refine r_cvi (As := fun K B => [.int (0), .int (5)]) hX hn (t_X11_number hu3) e_X11_wantLine_162 cw_X11_number cv_X11_number lk_11_197 ⟨Nat.le_of_ble_eq_true rfl, Nat.le_of_ble_eq_true rfl⟩ (ci := 11) rfl rfl (Nat.le_of_ble_eq_true rfl) g1 rfl rfl (Nat.le_of_ble_eq_true rfl) ⟨Nat.zero_le _, Nat.zero_le _⟩ ?_
  obtain ⟨g4, hf⟩ := gd_s hf
  obtain ⟨M5, hM5, hf⟩ := nx_s hf
  refine r_iast hX hn hM5 e_X11_wantLine_165 g4 ?_
  refine r_aload_n (i := 0) hX e_X11_wantLine_166 rfl rfl ?_
  obtain ⟨r6, hr6, hf⟩ := bd_s hf
  refine r_getR hX hn e_X11_wantLine_167 fl_11_46 rfl g1 hr6 ?_
  refine r_bipush hX e_X11_wantLine_170 bc_9 ?_
  refine r_iload_n (i := 2) hX e_X11_wantLine_172 rfl rfl ?_
  refine r_imul hX e_X11_wantLine_173 ?_
  refine r_iconst hX e_X11_wantLine_174 ic_3 ?_
  refine r_iload_n (i := 3) hX e_X11_wantLine_175 rfl rfl ?_
  refine r_imul hX e_X11_wantLine_176 ?_
  refine r_iadd hX e_X11_wantLine_177 ?_
  refine r_iconst hX e_X11_wantLine_178 ic_1 ?_
  refine r_iadd hX e_X11_wantLine_179 ?_
  refine r_aload_n (i := 0) hX e_X11_wantLine_180 rfl rfl ?_
  refine r_ldc2 hX e_X11_wantLine_181 wk_1406 ?_
  refine r_iconst hX e_X11_wantLine_184 ic_1 ?_
  refine r_bipush hX e_X11_wantLine_185 bc_9 ?_
  obtain ⟨u7, hu7, hf⟩ := bd_s hf
  refine r_cvi (As := fun K B => [.long (234466237), .int (1), .int (9)]) hX hn (t_X11_number_ hu7) e_X11_wantLine_187 cw_X11_number_ cv_X11_number_ lk_11_210 ⟨Nat.le_of_ble_eq_true rfl, Nat.le_of_ble_eq_true rfl⟩ (ci := 11) rfl rfl (Nat.le_of_ble_eq_true rfl) g1 rfl rfl (Nat.le_of_ble_eq_true rfl) ⟨Nat.zero_le _, Nat.zero_le _⟩ ?_
  obtain ⟨g8, hf⟩ := gd_s hf
  obtain ⟨M9, hM9, hf⟩ := nx_s hf
  refine r_iast hX hn hM9 e_X11_wantLine_190 g8 ?_
  refine r_aload_n (i := 0) hX e_X11_wantLine_191 rfl rfl ?_
  obtain ⟨r10, hr10, hf⟩ := bd_s hf
  refine r_getR hX hn e_X11_wantLine_192 fl_11_46 rfl g1 hr10 ?_
  refine r_bipush hX e_X11_wantLine_195 bc_9 ?_
  refine r_iload_n (i := 2) hX e_X11_wantLine_197 rfl rfl ?_
  refine r_imul hX e_X11_wantLine_198 ?_
  refine r_iconst hX e_X11_wantLine_199 ic_3 ?_
  refine r_iload_n (i := 3) hX e_X11_wantLine_200 rfl rfl ?_
  refine r_imul hX e_X11_wantLine_201 ?_
  refine r_iadd hX e_X11_wantLine_202 ?_
  refine r_iconst hX e_X11_wantLine_203 ic_2 ?_
  refine r_iadd hX e_X11_wantLine_204 ?_
  refine r_aload_n (i := 0) hX e_X11_wantLine_205 rfl rfl ?_
  refine r_ldc2 hX e_X11_wantLine_206 wk_1430 ?_
  refine r_iconst hX e_X11_wantLine_209 ic_0 ?_
  refine r_bipush hX e_X11_wantLine_210 bc_99 ?_
  obtain ⟨u11, hu11, hf⟩ := bd_s hf
  refine r_cvi (As := fun K B => [.long (6564179), .int (0), .int (99)]) hX hn (t_X11_number_ hu11) e_X11_wantLine_212 cw_X11_number_ cv_X11_number_ lk_11_210 ⟨Nat.le_of_ble_eq_true rfl, Nat.le_of_ble_eq_true rfl⟩ (ci := 11) rfl rfl (Nat.le_of_ble_eq_true rfl) g1 rfl rfl (Nat.le_of_ble_eq_true rfl) ⟨Nat.zero_le _, Nat.zero_le _⟩ ?_
  obtain ⟨g12, hf⟩ := gd_s hf
  obtain ⟨M13, hM13, hf⟩ := nx_s hf
  refine r_iast hX hn hM13 e_X11_wantLine_215 g12 ?_
  refine r_aload_n (i := 0) hX e_X11_wantLine_216 rfl rfl ?_
  obtain ⟨r14, hr14, hf⟩ := bd_s hf
  refine r_getR hX hn e_X11_wantLine_217 fl_11_43 rfl g1 hr14 ?_
  refine r_iconst hX e_X11_wantLine_220 ic_4 ?_
  refine r_iload_n (i := 2) hX e_X11_wantLine_221 rfl rfl ?_
  refine r_imul hX e_X11_wantLine_222 ?_
  refine r_iconst hX e_X11_wantLine_223 ic_3 ?_
  refine r_iadd hX e_X11_wantLine_224 ?_
  refine r_dup2_11 hX e_X11_wantLine_225 rfl rfl ?_
  obtain ⟨g15, hf⟩ := gd_s hf
  refine r_iald hX hn e_X11_wantLine_226 g15 ?_
  obtain ⟨v16, hv16, hf⟩ := nx_s hf
  refine top_i hv16 ?_
  refine r_iconst hX e_X11_wantLine_227 ic_1 ?_
  refine r_iadd hX e_X11_wantLine_228 ?_
  obtain ⟨M17, hM17, hf⟩ := nx_s hf
  refine r_iast hX hn hM17 e_X11_wantLine_229 g15 ?_
  exact r_ret hX hR e_X11_wantLine_230 hf
theorem t_s_X11_wantLine_109 {X : Cx} {res : Mem} {k109 : Mem → Nat → Int32 → Int32 → Int32 → Option (Mem)} (hX : OkX X cX11_wantLine RX11 5 112) (hn : Fit X shR nR) (hR : RetV X shR nR res) (hk109 : ∀ M x0 x2 x3 x4, k109 M x0 x2 x3 x4 = some res → GoN X shR nR 0 0 M 109 [some (.ref (X.B + x0)), none, some (.int (x2)), some (.int (x3)), some (.int (x4))] []) (M : Mem) (x0 : Nat) (x2 : Int32) (x3 : Int32) (x4 : Int32) (hf : s_X11_wantLine_109 k109 M x0 x2 x3 x4 = some res) : GoN X shR nR 0 0 M 109 [some (.ref (X.B + x0)), none, some (.int (x2)), some (.int (x3)), some (.int (x4))] [] := by
  refine r_iload hX e_X11_wantLine_109 rfl ?_
  refine r_iload_n (i := 3) hX e_X11_wantLine_111 rfl rfl ?_
  refine r_icmp_ge hX e_X11_wantLine_112 (fun hc => ?_) (fun hc => ?_)
  · have hf := ite_t hf hc
    exact GoN.weak (t_X11_wantLine_147 hX hn hR M (x0) (x2) (x3) hf) rfl (sb_s (sb_n (sb_s (sb_s (sb_n (sb_z _))))))
  · have hf := ite_f hf hc
    refine r_aload_n (i := 0) hX e_X11_wantLine_115 rfl rfl ?_
    obtain ⟨g1, hf⟩ := gd_s hf
    obtain ⟨r2, hr2, hf⟩ := bd_s hf
    refine r_getR hX hn e_X11_wantLine_116 fl_11_46 rfl g1 hr2 ?_
    refine r_bipush hX e_X11_wantLine_119 bc_9 ?_
    refine r_iload_n (i := 2) hX e_X11_wantLine_121 rfl rfl ?_
    refine r_imul hX e_X11_wantLine_122 ?_
    refine r_iconst hX e_X11_wantLine_123 ic_3 ?_
    refine r_iload hX e_X11_wantLine_124 rfl ?_
    refine r_imul hX e_X11_wantLine_126 ?_
    refine r_iadd hX e_X11_wantLine_127 ?_
    obtain ⟨g3, hf⟩ := gd_s hf
    refine r_iald hX hn e_X11_wantLine_128 g3 ?_
    obtain ⟨v4, hv4, hf⟩ := nx_s hf
    refine top_i hv4 ?_
    refine r_aload_n (i := 0) hX e_X11_wantLine_129 rfl rfl ?_
    refine r_getI hX hn e_X11_wantLine_130 fl_11_156 rfl g1 ?_
    refine r_icmp_ne hX e_X11_wantLine_133 (fun hc => ?_) (fun hc => ?_)
    · have hf := ite_f hf hc
      refine r_iinc (v := x4 + 1) hX e_X11_wantLine_141 rfl (ii_s ic_1) (Nat.le_of_ble_eq_true rfl) rfl ?_
      refine r_goto hX e_X11_wantLine_144 ?_
      exact GoN.weak (hk109 M (x0) (x2) (x3) ((x4 + 1)) hf) rfl (sb_s (sb_n (sb_s (sb_s (sb_s (sb_z _))))))
    · have hf := ite_t hf hc
      refine r_aload_n (i := 0) hX e_X11_wantLine_136 rfl rfl ?_
      refine r_iconst hX e_X11_wantLine_137 ic_2 ?_
      obtain ⟨u5, hu5, hf⟩ := bd_s hf
      refine r_cvv (As := fun K B => [.int (2)]) hX hn (t_X11_fails hu5) e_X11_wantLine_138 cw_X11_fails cv_X11_fails lk_11_190 ⟨Nat.le_of_ble_eq_true rfl, Nat.le_of_ble_eq_true rfl⟩ (ci := 11) rfl rfl (Nat.le_of_ble_eq_true rfl) g1 rfl rfl (Nat.le_of_ble_eq_true rfl) ⟨Nat.zero_le _, Nat.zero_le _⟩ ?_
      refine r_iinc (v := x4 + 1) hX e_X11_wantLine_141 rfl (ii_s ic_1) (Nat.le_of_ble_eq_true rfl) rfl ?_
      refine r_goto hX e_X11_wantLine_144 ?_
      exact GoN.weak (hk109 u5 (x0) (x2) (x3) ((x4 + 1)) hf) rfl (sb_s (sb_n (sb_s (sb_s (sb_s (sb_z _))))))
theorem t_X11_wantLine_109 {X : Cx} {res : Mem}  (hX : OkX X cX11_wantLine RX11 5 112) (hn : Fit X shR nR) (hR : RetV X shR nR res)  : ∀ (n : Nat) (M : Mem) (x0 : Nat) (x2 : Int32) (x3 : Int32) (x4 : Int32),  f_X11_wantLine_109  n M x0 x2 x3 x4 = some res → GoN X shR nR 0 0 M 109 [some (.ref (X.B + x0)), none, some (.int (x2)), some (.int (x3)), some (.int (x4))] [] := by
  intro n
  induction n with
  | zero => intro M x0 x2 x3 x4 hf; cases hf
  | succ n ih => intro M x0 x2 x3 x4 hf; exact t_s_X11_wantLine_109 hX hn hR  ih M x0 x2 x3 x4 hf
theorem t_X11_wantLine_52 {X : Cx} {res : Mem}  (hX : OkX X cX11_wantLine RX11 5 112) (hn : Fit X shR nR) (hR : RetV X shR nR res)  (M : Mem) (x0 : Nat) (hf : f_X11_wantLine_52  M x0 = some res) : GoN X shR nR 0 0 M 52 [some (.ref (X.B + x0)), none, none, none, none] [] := by
  refine r_aload_n (i := 0) hX e_X11_wantLine_52 rfl rfl ?_
  refine r_iconst hX e_X11_wantLine_53 ic_0 ?_
  refine r_aload_n (i := 0) hX e_X11_wantLine_54 rfl rfl ?_
  refine r_iconst hX e_X11_wantLine_55 ic_4 ?_
  obtain ⟨g1, hf⟩ := gd_s hf
  obtain ⟨v2, hv2, hf⟩ := bd_s hf
  refine r_cvi (As := fun K B => [.int (4)]) hX hn (t_X11_hasRead hv2) e_X11_wantLine_56 cw_X11_hasRead cv_X11_hasRead lk_11_204 ⟨Nat.le_of_ble_eq_true rfl, Nat.le_of_ble_eq_true rfl⟩ (ci := 11) rfl rfl (Nat.le_of_ble_eq_true rfl) g1 rfl rfl (Nat.le_of_ble_eq_true rfl) ⟨Nat.zero_le _, Nat.zero_le _⟩ ?_
  refine r_iconst hX e_X11_wantLine_59 ic_1 ?_
  refine r_isub hX e_X11_wantLine_60 ?_
  obtain ⟨u3, hu3, hf⟩ := bd_s hf
  refine r_cvi (As := fun K B => [.int (0), .int ((v2 - 1))]) hX hn (t_X11_number hu3) e_X11_wantLine_61 cw_X11_number cv_X11_number lk_11_197 ⟨Nat.le_of_ble_eq_true rfl, Nat.le_of_ble_eq_true rfl⟩ (ci := 11) rfl rfl (Nat.le_of_ble_eq_true rfl) g1 rfl rfl (Nat.le_of_ble_eq_true rfl) ⟨Nat.zero_le _, Nat.zero_le _⟩ ?_
  refine r_istore_n (i := 1) hX e_X11_wantLine_64 rfl (Nat.le_of_ble_eq_true rfl) rfl ?_
  refine r_aload_n (i := 0) hX e_X11_wantLine_65 rfl rfl ?_
  refine r_getI hX hn e_X11_wantLine_66 fl_11_174 rfl g1 ?_
  refine r_if_eq hX e_X11_wantLine_69 (fun hc => ?_) (fun hc => ?_)
  · have hf := ite_t hf hc
    refine r_bipush hX e_X11_wantLine_73 bc_24 ?_
    refine r_iload_n (i := 1) hX e_X11_wantLine_75 rfl rfl ?_
    refine r_iadd hX e_X11_wantLine_76 ?_
    refine r_istore_n (i := 2) hX e_X11_wantLine_77 rfl (Nat.le_of_ble_eq_true rfl) rfl ?_
    refine r_aload_n (i := 0) hX e_X11_wantLine_78 rfl rfl ?_
    obtain ⟨r4, hr4, hf⟩ := bd_s hf
    refine r_getR hX hn e_X11_wantLine_79 fl_11_43 rfl g1 hr4 ?_
    refine r_iconst hX e_X11_wantLine_82 ic_4 ?_
    refine r_iload_n (i := 2) hX e_X11_wantLine_83 rfl rfl ?_
    refine r_imul hX e_X11_wantLine_84 ?_
    refine r_iconst hX e_X11_wantLine_85 ic_3 ?_
    refine r_iadd hX e_X11_wantLine_86 ?_
    obtain ⟨g5, hf⟩ := gd_s hf
    refine r_iald hX hn e_X11_wantLine_87 g5 ?_
    obtain ⟨v6, hv6, hf⟩ := nx_s hf
    refine top_i hv6 ?_
    refine r_istore_n (i := 3) hX e_X11_wantLine_88 rfl (Nat.le_of_ble_eq_true rfl) rfl ?_
    refine r_aload_n (i := 0) hX e_X11_wantLine_89 rfl rfl ?_
    refine r_getI hX hn e_X11_wantLine_90 fl_11_163 rfl g1 ?_
    refine r_iconst hX e_X11_wantLine_93 ic_2 ?_
    refine r_icmp_ne hX e_X11_wantLine_94 (fun hc => ?_) (fun hc => ?_)
    · have hf := ite_f hf hc
      exact GoN.weak (t_X11_wantLine_147 hX hn hR u3.1 (x0) ((24 + u3.2)) (v6) hf) rfl (sb_s (sb_n (sb_s (sb_s (sb_n (sb_z _))))))
    · have hf := ite_t hf hc
      refine r_aload_n (i := 0) hX e_X11_wantLine_97 rfl rfl ?_
      refine r_getI hX hn e_X11_wantLine_98 fl_11_156 rfl g1 ?_
      refine r_bipush hX e_X11_wantLine_101 bc_6 ?_
      refine r_icmp_ge hX e_X11_wantLine_103 (fun hc => ?_) (fun hc => ?_)
      · have hf := ite_t hf hc
        exact GoN.weak (t_X11_wantLine_147 hX hn hR u3.1 (x0) ((24 + u3.2)) (v6) hf) rfl (sb_s (sb_n (sb_s (sb_s (sb_n (sb_z _))))))
      · have hf := ite_f hf hc
        refine r_iconst hX e_X11_wantLine_106 ic_0 ?_
        refine r_istore hX e_X11_wantLine_107 (Nat.le_of_ble_eq_true rfl) rfl ?_
        exact GoN.weak (t_X11_wantLine_109 hX hn hR FU u3.1 (x0) ((24 + u3.2)) (v6) (0) hf) rfl (sb_s (sb_n (sb_s (sb_s (sb_s (sb_z _))))))
  · have hf := ite_f hf hc
    exact r_ret hX hR e_X11_wantLine_72 hf
theorem t_X11_wantLine {l : Launch} {M : Mem} {a0 : Nat} {res : Mem} (hf : f_X11_wantLine M a0 = some res) : Cv l yX11_wantLine cX11_wantLine 5 none 5 112 shR nR (fun K B => [.ref (B + a0)]) M res := by
  refine met_v (own := RX11) (lo := fun K B => [some (.ref (B + a0)), none, none, none, none]) (by decide +kernel) rfl shR_ok (fun _ _ => rfl) (fun _ _ => rfl) (fun _ _ => Nat.le_of_ble_eq_true rfl) (fun X hX hn hlx hR => ?_)
  refine r_aload_n (i := 0) hX e_X11_wantLine_0 rfl rfl ?_
  obtain ⟨g1, hf⟩ := gd_s hf
  refine r_getI hX hn e_X11_wantLine_1 fl_11_174 rfl g1 ?_
  refine r_if_ne hX e_X11_wantLine_4 (fun hc => ?_) (fun hc => ?_)
  · have hf := ite_f hf hc
    exact GoN.weak (t_X11_wantLine_52 hX hn hR M (a0) hf) rfl (sb_s (sb_n (sb_n (sb_n (sb_n (sb_z _))))))
  · have hf := ite_t hf hc
    refine r_aload_n (i := 0) hX e_X11_wantLine_7 rfl rfl ?_
    refine r_getI hX hn e_X11_wantLine_8 fl_11_163 rfl g1 ?_
    refine r_iconst hX e_X11_wantLine_11 ic_2 ?_
    refine r_icmp_ne hX e_X11_wantLine_12 (fun hc => ?_) (fun hc => ?_)
    · have hf := ite_f hf hc
      exact GoN.weak (t_X11_wantLine_52 hX hn hR M (a0) hf) rfl (sb_s (sb_n (sb_n (sb_n (sb_n (sb_z _))))))
    · have hf := ite_t hf hc
      refine r_aload_n (i := 0) hX e_X11_wantLine_15 rfl rfl ?_
      refine r_getI hX hn e_X11_wantLine_16 fl_11_156 rfl g1 ?_
      refine r_aload_n (i := 0) hX e_X11_wantLine_19 rfl rfl ?_
      refine r_iconst hX e_X11_wantLine_20 ic_4 ?_
      obtain ⟨v2, hv2, hf⟩ := bd_s hf
      refine r_cvi (As := fun K B => [.int (4)]) hX hn (t_X11_hasRead hv2) e_X11_wantLine_21 cw_X11_hasRead cv_X11_hasRead lk_11_204 ⟨Nat.le_of_ble_eq_true rfl, Nat.le_of_ble_eq_true rfl⟩ (ci := 11) rfl rfl (Nat.le_of_ble_eq_true rfl) g1 rfl rfl (Nat.le_of_ble_eq_true rfl) ⟨Nat.zero_le _, Nat.zero_le _⟩ ?_
      refine r_icmp_ge hX e_X11_wantLine_24 (fun hc => ?_) (fun hc => ?_)
      · have hf := ite_t hf hc
        exact GoN.weak (t_X11_wantLine_52 hX hn hR M (a0) hf) rfl (sb_s (sb_n (sb_n (sb_n (sb_n (sb_z _))))))
      · have hf := ite_f hf hc
        refine r_aload_n (i := 0) hX e_X11_wantLine_27 rfl rfl ?_
        obtain ⟨r3, hr3, hf⟩ := bd_s hf
        refine r_getR hX hn e_X11_wantLine_28 fl_11_43 rfl g1 hr3 ?_
        refine r_iconst hX e_X11_wantLine_31 ic_4 ?_
        refine r_bipush hX e_X11_wantLine_32 bc_24 ?_
        refine r_aload_n (i := 0) hX e_X11_wantLine_34 rfl rfl ?_
        refine r_getI hX hn e_X11_wantLine_35 fl_11_156 rfl g1 ?_
        refine r_iadd hX e_X11_wantLine_38 ?_
        refine r_imul hX e_X11_wantLine_39 ?_
        refine r_iconst hX e_X11_wantLine_40 ic_3 ?_
        refine r_iadd hX e_X11_wantLine_41 ?_
        obtain ⟨g4, hf⟩ := gd_s hf
        refine r_iald hX hn e_X11_wantLine_42 g4 ?_
        obtain ⟨v5, hv5, hf⟩ := nx_s hf
        refine top_i hv5 ?_
        refine r_iconst hX e_X11_wantLine_43 ic_3 ?_
        refine r_icmp_ne hX e_X11_wantLine_44 (fun hc => ?_) (fun hc => ?_)
        · have hf := ite_f hf hc
          exact GoN.weak (t_X11_wantLine_52 hX hn hR M (a0) hf) rfl (sb_s (sb_n (sb_n (sb_n (sb_n (sb_z _))))))
        · have hf := ite_t hf hc
          refine r_aload_n (i := 0) hX e_X11_wantLine_47 rfl rfl ?_
          refine r_iconst hX e_X11_wantLine_48 ic_3 ?_
          obtain ⟨u6, hu6, hf⟩ := bd_s hf
          refine r_cvv (As := fun K B => [.int (3)]) hX hn (t_X11_fails hu6) e_X11_wantLine_49 cw_X11_fails cv_X11_fails lk_11_190 ⟨Nat.le_of_ble_eq_true rfl, Nat.le_of_ble_eq_true rfl⟩ (ci := 11) rfl rfl (Nat.le_of_ble_eq_true rfl) g1 rfl rfl (Nat.le_of_ble_eq_true rfl) ⟨Nat.zero_le _, Nat.zero_le _⟩ ?_
          exact GoN.weak (t_X11_wantLine_52 hX hn hR u6 (a0) hf) rfl (sb_s (sb_n (sb_n (sb_n (sb_n (sb_z _))))))
def f_X11_stuckLine (M : Mem) (a0 : Nat) : Option (Mem) :=
  gd (oB shR a0 11) <| bd (f_X11_hasRead M a0 5) fun v2 => bd (gR M a0 22) fun r3 => bd (f_X11_hasRead M a0 2) fun v4 => bd (f_X11_number M a0 0 (v4 - 1)) fun u5 => gd (aB shR r3 0 (3 * (16 + v2))) <| nx (sI u5.1 r3 ((3 * (16 + v2)) : Int32).toNatClampNeg u5.2) fun M7 => bd (gR M7 a0 22) fun r8 => bd (f_X11_hasRead M7 a0 1) fun v9 => bd (f_X11_number_ M7 a0 131638 0 (v9 - 1)) fun u10 => gd (aB shR r8 0 ((3 * (16 + v2)) + 1)) <| nx (sI u10.1 r8 (((3 * (16 + v2)) + 1) : Int32).toNatClampNeg u10.2) fun M12 => bd (gR M12 a0 22) fun r13 => gd (aB shR r13 0 ((3 * (16 + v2)) + 1)) <| nx ((gI M12 r13 (((3 * (16 + v2)) + 1) : Int32).toNatClampNeg)) fun v15 => bd (f_X11_hasRead M12 a0 1) fun v16 => bd (f_X11_number_ M12 a0 555 v15 (v16 - 1)) fun u17 => gd (aB shR r13 0 ((3 * (16 + v2)) + 2)) <| nx (sI u17.1 r13 (((3 * (16 + v2)) + 2) : Int32).toNatClampNeg u17.2) fun M19 => bd (gR M19 a0 17) fun r20 => gd (aB shR r20 0 29) <| nx (sI M19 r20 (29 : Int32).toNatClampNeg ((gI M19 r20 (29 : Int32).toNatClampNeg) + 1)) fun M22 => some M22
theorem t_X11_stuckLine {l : Launch} {M : Mem} {a0 : Nat} {res : Mem} (hf : f_X11_stuckLine M a0 = some res) : Cv l yX11_stuckLine cX11_stuckLine 2 none 5 112 shR nR (fun K B => [.ref (B + a0)]) M res := by
  refine met_v (own := RX11) (lo := fun K B => [some (.ref (B + a0)), none]) (by decide +kernel) rfl shR_ok (fun _ _ => rfl) (fun _ _ => rfl) (fun _ _ => Nat.le_of_ble_eq_true rfl) (fun X hX hn hlx hR => ?_)
  refine r_iconst hX e_X11_stuckLine_0 ic_3 ?_
  refine r_bipush hX e_X11_stuckLine_1 bc_16 ?_
  refine r_aload_n (i := 0) hX e_X11_stuckLine_3 rfl rfl ?_
  refine r_iconst hX e_X11_stuckLine_4 ic_5 ?_
  obtain ⟨g1, hf⟩ := gd_s hf
  obtain ⟨v2, hv2, hf⟩ := bd_s hf
  refine r_cvi (As := fun K B => [.int (5)]) hX hn (t_X11_hasRead hv2) e_X11_stuckLine_5 cw_X11_hasRead cv_X11_hasRead lk_11_204 ⟨Nat.le_of_ble_eq_true rfl, Nat.le_of_ble_eq_true rfl⟩ (ci := 11) rfl rfl (Nat.le_of_ble_eq_true rfl) g1 rfl rfl (Nat.le_of_ble_eq_true rfl) ⟨Nat.zero_le _, Nat.zero_le _⟩ ?_
  refine r_iadd hX e_X11_stuckLine_8 ?_
  refine r_imul hX e_X11_stuckLine_9 ?_
  refine r_istore_n (i := 1) hX e_X11_stuckLine_10 rfl (Nat.le_of_ble_eq_true rfl) rfl ?_
  refine r_aload_n (i := 0) hX e_X11_stuckLine_11 rfl rfl ?_
  obtain ⟨r3, hr3, hf⟩ := bd_s hf
  refine r_getR hX hn e_X11_stuckLine_12 fl_11_49 rfl g1 hr3 ?_
  refine r_iload_n (i := 1) hX e_X11_stuckLine_15 rfl rfl ?_
  refine r_aload_n (i := 0) hX e_X11_stuckLine_16 rfl rfl ?_
  refine r_iconst hX e_X11_stuckLine_17 ic_0 ?_
  refine r_aload_n (i := 0) hX e_X11_stuckLine_18 rfl rfl ?_
  refine r_iconst hX e_X11_stuckLine_19 ic_2 ?_
  obtain ⟨v4, hv4, hf⟩ := bd_s hf
  refine r_cvi (As := fun K B => [.int (2)]) hX hn (t_X11_hasRead hv4) e_X11_stuckLine_20 cw_X11_hasRead cv_X11_hasRead lk_11_204 ⟨Nat.le_of_ble_eq_true rfl, Nat.le_of_ble_eq_true rfl⟩ (ci := 11) rfl rfl (Nat.le_of_ble_eq_true rfl) g1 rfl rfl (Nat.le_of_ble_eq_true rfl) ⟨Nat.zero_le _, Nat.zero_le _⟩ ?_
  refine r_iconst hX e_X11_stuckLine_23 ic_1 ?_
  refine r_isub hX e_X11_stuckLine_24 ?_
  obtain ⟨u5, hu5, hf⟩ := bd_s hf
  refine r_cvi (As := fun K B => [.int (0), .int ((v4 - 1))]) hX hn (t_X11_number hu5) e_X11_stuckLine_25 cw_X11_number cv_X11_number lk_11_197 ⟨Nat.le_of_ble_eq_true rfl, Nat.le_of_ble_eq_true rfl⟩ (ci := 11) rfl rfl (Nat.le_of_ble_eq_true rfl) g1 rfl rfl (Nat.le_of_ble_eq_true rfl) ⟨Nat.zero_le _, Nat.zero_le _⟩ ?_
  obtain ⟨g6, hf⟩ := gd_s hf
  obtain ⟨M7, hM7, hf⟩ := nx_s hf
  refine r_iast hX hn hM7 e_X11_stuckLine_28 g6 ?_
  refine r_aload_n (i := 0) hX e_X11_stuckLine_29 rfl rfl ?_
  obtain ⟨r8, hr8, hf⟩ := bd_s hf
  refine r_getR hX hn e_X11_stuckLine_30 fl_11_49 rfl g1 hr8 ?_
  refine r_iload_n (i := 1) hX e_X11_stuckLine_33 rfl rfl ?_
  refine r_iconst hX e_X11_stuckLine_34 ic_1 ?_
  refine r_iadd hX e_X11_stuckLine_35 ?_
  refine r_aload_n (i := 0) hX e_X11_stuckLine_36 rfl rfl ?_
  refine r_ldc2 hX e_X11_stuckLine_37 wk_1424 ?_
  refine r_iconst hX e_X11_stuckLine_40 ic_0 ?_
  refine r_aload_n (i := 0) hX e_X11_stuckLine_41 rfl rfl ?_
  refine r_iconst hX e_X11_stuckLine_42 ic_1 ?_
  obtain ⟨v9, hv9, hf⟩ := bd_s hf
  refine r_cvi (As := fun K B => [.int (1)]) hX hn (t_X11_hasRead hv9) e_X11_stuckLine_43 cw_X11_hasRead cv_X11_hasRead lk_11_204 ⟨Nat.le_of_ble_eq_true rfl, Nat.le_of_ble_eq_true rfl⟩ (ci := 11) rfl rfl (Nat.le_of_ble_eq_true rfl) g1 rfl rfl (Nat.le_of_ble_eq_true rfl) ⟨Nat.zero_le _, Nat.zero_le _⟩ ?_
  refine r_iconst hX e_X11_stuckLine_46 ic_1 ?_
  refine r_isub hX e_X11_stuckLine_47 ?_
  obtain ⟨u10, hu10, hf⟩ := bd_s hf
  refine r_cvi (As := fun K B => [.long (131638), .int (0), .int ((v9 - 1))]) hX hn (t_X11_number_ hu10) e_X11_stuckLine_48 cw_X11_number_ cv_X11_number_ lk_11_210 ⟨Nat.le_of_ble_eq_true rfl, Nat.le_of_ble_eq_true rfl⟩ (ci := 11) rfl rfl (Nat.le_of_ble_eq_true rfl) g1 rfl rfl (Nat.le_of_ble_eq_true rfl) ⟨Nat.zero_le _, Nat.zero_le _⟩ ?_
  obtain ⟨g11, hf⟩ := gd_s hf
  obtain ⟨M12, hM12, hf⟩ := nx_s hf
  refine r_iast hX hn hM12 e_X11_stuckLine_51 g11 ?_
  refine r_aload_n (i := 0) hX e_X11_stuckLine_52 rfl rfl ?_
  obtain ⟨r13, hr13, hf⟩ := bd_s hf
  refine r_getR hX hn e_X11_stuckLine_53 fl_11_49 rfl g1 hr13 ?_
  refine r_iload_n (i := 1) hX e_X11_stuckLine_56 rfl rfl ?_
  refine r_iconst hX e_X11_stuckLine_57 ic_2 ?_
  refine r_iadd hX e_X11_stuckLine_58 ?_
  refine r_aload_n (i := 0) hX e_X11_stuckLine_59 rfl rfl ?_
  refine r_ldc2 hX e_X11_stuckLine_60 wk_1425 ?_
  refine r_aload_n (i := 0) hX e_X11_stuckLine_63 rfl rfl ?_
  refine r_getR hX hn e_X11_stuckLine_64 fl_11_49 rfl g1 hr13 ?_
  refine r_iload_n (i := 1) hX e_X11_stuckLine_67 rfl rfl ?_
  refine r_iconst hX e_X11_stuckLine_68 ic_1 ?_
  refine r_iadd hX e_X11_stuckLine_69 ?_
  obtain ⟨g14, hf⟩ := gd_s hf
  refine r_iald hX hn e_X11_stuckLine_70 g14 ?_
  obtain ⟨v15, hv15, hf⟩ := nx_s hf
  refine top_i hv15 ?_
  refine r_aload_n (i := 0) hX e_X11_stuckLine_71 rfl rfl ?_
  refine r_iconst hX e_X11_stuckLine_72 ic_1 ?_
  obtain ⟨v16, hv16, hf⟩ := bd_s hf
  refine r_cvi (As := fun K B => [.int (1)]) hX hn (t_X11_hasRead hv16) e_X11_stuckLine_73 cw_X11_hasRead cv_X11_hasRead lk_11_204 ⟨Nat.le_of_ble_eq_true rfl, Nat.le_of_ble_eq_true rfl⟩ (ci := 11) rfl rfl (Nat.le_of_ble_eq_true rfl) g1 rfl rfl (Nat.le_of_ble_eq_true rfl) ⟨Nat.zero_le _, Nat.zero_le _⟩ ?_
  refine r_iconst hX e_X11_stuckLine_76 ic_1 ?_
  refine r_isub hX e_X11_stuckLine_77 ?_
  obtain ⟨u17, hu17, hf⟩ := bd_s hf
  refine r_cvi (As := fun K B => [.long (555), .int (v15), .int ((v16 - 1))]) hX hn (t_X11_number_ hu17) e_X11_stuckLine_78 cw_X11_number_ cv_X11_number_ lk_11_210 ⟨Nat.le_of_ble_eq_true rfl, Nat.le_of_ble_eq_true rfl⟩ (ci := 11) rfl rfl (Nat.le_of_ble_eq_true rfl) g1 rfl rfl (Nat.le_of_ble_eq_true rfl) ⟨Nat.zero_le _, Nat.zero_le _⟩ ?_
  obtain ⟨g18, hf⟩ := gd_s hf
  obtain ⟨M19, hM19, hf⟩ := nx_s hf
  refine r_iast hX hn hM19 e_X11_stuckLine_81 g18 ?_
  refine r_aload_n (i := 0) hX e_X11_stuckLine_82 rfl rfl ?_
  obtain ⟨r20, hr20, hf⟩ := bd_s hf
  refine r_getR hX hn e_X11_stuckLine_83 fl_11_34 rfl g1 hr20 ?_
  refine r_bipush hX e_X11_stuckLine_86 bc_29 ?_
  refine r_dup2_11 hX e_X11_stuckLine_88 rfl rfl ?_
  obtain ⟨g21, hf⟩ := gd_s hf
  refine r_iald hX hn e_X11_stuckLine_89 g21 ?_
  refine r_iconst hX e_X11_stuckLine_90 ic_1 ?_
  refine r_iadd hX e_X11_stuckLine_91 ?_
  obtain ⟨M22, hM22, hf⟩ := nx_s hf
  refine r_iast hX hn hM22 e_X11_stuckLine_92 g21 ?_
  exact r_ret hX hR e_X11_stuckLine_93 hf
def f_X11_line_146  (M : Mem) (x0 : Nat) (x1 : Int32) : Option (Mem) :=
  gd (oB shR x0 11) <| if (gI M x0 12) = 0 then bd (f_X11_next M x0) fun u2 => if x1 = 2 then bd (f_X11_ringLine u2 x0) fun u7 => some u7 else if x1 = 3 then bd (f_X11_stallLine u2 x0) fun u6 => some u6 else if x1 = 4 then bd (f_X11_buyerLine u2 x0) fun u5 => some u5 else if x1 = 5 then bd (f_X11_stuckLine u2 x0) fun u4 => some u4 else bd (f_X11_wantLine u2 x0) fun u3 => some u3 else some M
def f_X11_line_141  (M : Mem) (x0 : Nat) (x1 : Int32) : Option (Mem) :=
  gd (oB shR x0 11) <| bd (f_X11_fails M x0 3) fun u2 => f_X11_line_146 u2 (x0) (x1)
def f_X11_line_127  (M : Mem) (x0 : Nat) (x1 : Int32) : Option (Mem) :=
  if x1 = 5 then gd (oB shR x0 11) <| bd (f_X11_hasRead M x0 5) fun v2 => if v2 = 4 then f_X11_line_141 M (x0) (x1) else f_X11_line_146 M (x0) (x1) else f_X11_line_146 M (x0) (x1)
def f_X11_line_112  (M : Mem) (x0 : Nat) (x1 : Int32) : Option (Mem) :=
  if x1 = 4 then gd (oB shR x0 11) <| bd (f_X11_hasRead M x0 4) fun v2 => if v2 = 6 then f_X11_line_141 M (x0) (x1) else f_X11_line_127 M (x0) (x1) else f_X11_line_127 M (x0) (x1)
def f_X11_line_97  (M : Mem) (x0 : Nat) (x1 : Int32) : Option (Mem) :=
  if x1 = 3 then gd (oB shR x0 11) <| bd (f_X11_hasRead M x0 3) fun v2 => if v2 = 8 then f_X11_line_141 M (x0) (x1) else f_X11_line_112 M (x0) (x1) else f_X11_line_112 M (x0) (x1)
def f_X11_line_83  (M : Mem) (x0 : Nat) (x1 : Int32) : Option (Mem) :=
  if x1 = 2 then gd (oB shR x0 11) <| bd (f_X11_hasRead M x0 2) fun v2 => if v2 = 3 then f_X11_line_141 M (x0) (x1) else f_X11_line_97 M (x0) (x1) else f_X11_line_97 M (x0) (x1)
def f_X11_line_72  (M : Mem) (x0 : Nat) (s0 : Int32) : Option (Mem) :=
  if s0 = (-1) then gd (oB shR x0 11) <| bd (f_X11_fails M x0 1) fun u2 => f_X11_line_83 u2 (x0) (s0) else f_X11_line_83 M (x0) (s0)
def f_X11_line (M : Mem) (a0 : Nat) : Option (Mem) :=
  gd (oB shR a0 11) <| bd (f_X11_is M a0 361240) fun v2 => if v2 = 0 then bd (f_X11_is M a0 10492104) fun v3 => if v3 = 0 then bd (f_X11_is M a0 1494603) fun v4 => if v4 = 0 then bd (f_X11_is M a0 10506440) fun v5 => if v5 = 0 then bd (f_X11_is M a0 12253591) fun v6 => if v6 = 0 then f_X11_line_72 M (a0) ((-1)) else f_X11_line_72 M (a0) (9) else f_X11_line_72 M (a0) (5) else f_X11_line_72 M (a0) (4) else f_X11_line_72 M (a0) (3) else f_X11_line_72 M (a0) (2)
theorem t_X11_line_146 {X : Cx} {res : Mem}  (hX : OkX X cX11_line RX11 6 136) (hn : Fit X shR nR) (hR : RetV X shR nR res)  (M : Mem) (x0 : Nat) (x1 : Int32) (hf : f_X11_line_146  M x0 x1 = some res) : GoN X shR nR 0 0 M 146 [some (.ref (X.B + x0)), some (.int (x1))] [] := by
  refine r_aload_n (i := 0) hX e_X11_line_146 rfl rfl ?_
  obtain ⟨g1, hf⟩ := gd_s hf
  refine r_getI hX hn e_X11_line_147 fl_11_174 rfl g1 ?_
  refine r_if_eq hX e_X11_line_150 (fun hc => ?_) (fun hc => ?_)
  · have hf := ite_t hf hc
    refine r_aload_n (i := 0) hX e_X11_line_154 rfl rfl ?_
    obtain ⟨u2, hu2, hf⟩ := bd_s hf
    refine r_cvv (As := fun K B => []) hX hn (t_X11_next hu2) e_X11_line_155 cw_X11_next cv_X11_next lk_11_184 ⟨Nat.le_of_ble_eq_true rfl, Nat.le_of_ble_eq_true rfl⟩ (ci := 11) rfl rfl (Nat.le_of_ble_eq_true rfl) g1 rfl rfl (Nat.le_of_ble_eq_true rfl) ⟨Nat.zero_le _, Nat.zero_le _⟩ ?_
    refine r_iload_n (i := 1) hX e_X11_line_158 rfl rfl ?_
    refine r_iconst hX e_X11_line_159 ic_2 ?_
    refine r_icmp_ne hX e_X11_line_160 (fun hc => ?_) (fun hc => ?_)
    · have hf := ite_f hf hc
      refine r_iload_n (i := 1) hX e_X11_line_170 rfl rfl ?_
      refine r_iconst hX e_X11_line_171 ic_3 ?_
      refine r_icmp_ne hX e_X11_line_172 (fun hc => ?_) (fun hc => ?_)
      · have hf := ite_f hf hc
        refine r_iload_n (i := 1) hX e_X11_line_182 rfl rfl ?_
        refine r_iconst hX e_X11_line_183 ic_4 ?_
        refine r_icmp_ne hX e_X11_line_184 (fun hc => ?_) (fun hc => ?_)
        · have hf := ite_f hf hc
          refine r_iload_n (i := 1) hX e_X11_line_194 rfl rfl ?_
          refine r_iconst hX e_X11_line_195 ic_5 ?_
          refine r_icmp_ne hX e_X11_line_196 (fun hc => ?_) (fun hc => ?_)
          · have hf := ite_f hf hc
            refine r_aload_n (i := 0) hX e_X11_line_206 rfl rfl ?_
            obtain ⟨u3, hu3, hf⟩ := bd_s hf
            refine r_cvv (As := fun K B => []) hX hn (t_X11_wantLine hu3) e_X11_line_207 cw_X11_wantLine cv_X11_wantLine lk_11_269 ⟨Nat.le_of_ble_eq_true rfl, Nat.le_of_ble_eq_true rfl⟩ (ci := 11) rfl rfl (Nat.le_of_ble_eq_true rfl) g1 rfl rfl (Nat.le_of_ble_eq_true rfl) ⟨Nat.zero_le _, Nat.zero_le _⟩ ?_
            exact r_ret hX hR e_X11_line_210 hf
          · have hf := ite_t hf hc
            refine r_aload_n (i := 0) hX e_X11_line_199 rfl rfl ?_
            obtain ⟨u4, hu4, hf⟩ := bd_s hf
            refine r_cvv (As := fun K B => []) hX hn (t_X11_stuckLine hu4) e_X11_line_200 cw_X11_stuckLine cv_X11_stuckLine lk_11_266 ⟨Nat.le_of_ble_eq_true rfl, Nat.le_of_ble_eq_true rfl⟩ (ci := 11) rfl rfl (Nat.le_of_ble_eq_true rfl) g1 rfl rfl (Nat.le_of_ble_eq_true rfl) ⟨Nat.zero_le _, Nat.zero_le _⟩ ?_
            refine r_goto hX e_X11_line_203 ?_
            exact r_ret hX hR e_X11_line_210 hf
        · have hf := ite_t hf hc
          refine r_aload_n (i := 0) hX e_X11_line_187 rfl rfl ?_
          obtain ⟨u5, hu5, hf⟩ := bd_s hf
          refine r_cvv (As := fun K B => []) hX hn (t_X11_buyerLine hu5) e_X11_line_188 cw_X11_buyerLine cv_X11_buyerLine lk_11_263 ⟨Nat.le_of_ble_eq_true rfl, Nat.le_of_ble_eq_true rfl⟩ (ci := 11) rfl rfl (Nat.le_of_ble_eq_true rfl) g1 rfl rfl (Nat.le_of_ble_eq_true rfl) ⟨Nat.zero_le _, Nat.zero_le _⟩ ?_
          refine r_goto hX e_X11_line_191 ?_
          exact r_ret hX hR e_X11_line_210 hf
      · have hf := ite_t hf hc
        refine r_aload_n (i := 0) hX e_X11_line_175 rfl rfl ?_
        obtain ⟨u6, hu6, hf⟩ := bd_s hf
        refine r_cvv (As := fun K B => []) hX hn (t_X11_stallLine hu6) e_X11_line_176 cw_X11_stallLine cv_X11_stallLine lk_11_260 ⟨Nat.le_of_ble_eq_true rfl, Nat.le_of_ble_eq_true rfl⟩ (ci := 11) rfl rfl (Nat.le_of_ble_eq_true rfl) g1 rfl rfl (Nat.le_of_ble_eq_true rfl) ⟨Nat.zero_le _, Nat.zero_le _⟩ ?_
        refine r_goto hX e_X11_line_179 ?_
        exact r_ret hX hR e_X11_line_210 hf
    · have hf := ite_t hf hc
      refine r_aload_n (i := 0) hX e_X11_line_163 rfl rfl ?_
      obtain ⟨u7, hu7, hf⟩ := bd_s hf
      refine r_cvv (As := fun K B => []) hX hn (t_X11_ringLine hu7) e_X11_line_164 cw_X11_ringLine cv_X11_ringLine lk_11_257 ⟨Nat.le_of_ble_eq_true rfl, Nat.le_of_ble_eq_true rfl⟩ (ci := 11) rfl rfl (Nat.le_of_ble_eq_true rfl) g1 rfl rfl (Nat.le_of_ble_eq_true rfl) ⟨Nat.zero_le _, Nat.zero_le _⟩ ?_
      refine r_goto hX e_X11_line_167 ?_
      exact r_ret hX hR e_X11_line_210 hf
  · have hf := ite_f hf hc
    exact r_ret hX hR e_X11_line_153 hf
theorem t_X11_line_141 {X : Cx} {res : Mem}  (hX : OkX X cX11_line RX11 6 136) (hn : Fit X shR nR) (hR : RetV X shR nR res)  (M : Mem) (x0 : Nat) (x1 : Int32) (hf : f_X11_line_141  M x0 x1 = some res) : GoN X shR nR 0 0 M 141 [some (.ref (X.B + x0)), some (.int (x1))] [] := by
  refine r_aload_n (i := 0) hX e_X11_line_141 rfl rfl ?_
  refine r_iconst hX e_X11_line_142 ic_3 ?_
  obtain ⟨g1, hf⟩ := gd_s hf
  obtain ⟨u2, hu2, hf⟩ := bd_s hf
  refine r_cvv (As := fun K B => [.int (3)]) hX hn (t_X11_fails hu2) e_X11_line_143 cw_X11_fails cv_X11_fails lk_11_190 ⟨Nat.le_of_ble_eq_true rfl, Nat.le_of_ble_eq_true rfl⟩ (ci := 11) rfl rfl (Nat.le_of_ble_eq_true rfl) g1 rfl rfl (Nat.le_of_ble_eq_true rfl) ⟨Nat.zero_le _, Nat.zero_le _⟩ ?_
  exact GoN.weak (t_X11_line_146 hX hn hR u2 (x0) (x1) hf) rfl (sb_s (sb_s (sb_z _)))
theorem t_X11_line_127 {X : Cx} {res : Mem}  (hX : OkX X cX11_line RX11 6 136) (hn : Fit X shR nR) (hR : RetV X shR nR res)  (M : Mem) (x0 : Nat) (x1 : Int32) (hf : f_X11_line_127  M x0 x1 = some res) : GoN X shR nR 0 0 M 127 [some (.ref (X.B + x0)), some (.int (x1))] [] := by
  refine r_iload_n (i := 1) hX e_X11_line_127 rfl rfl ?_
  refine r_iconst hX e_X11_line_128 ic_5 ?_
  refine r_icmp_ne hX e_X11_line_129 (fun hc => ?_) (fun hc => ?_)
  · have hf := ite_f hf hc
    exact GoN.weak (t_X11_line_146 hX hn hR M (x0) (x1) hf) rfl (sb_s (sb_s (sb_z _)))
  · have hf := ite_t hf hc
    refine r_aload_n (i := 0) hX e_X11_line_132 rfl rfl ?_
    refine r_iconst hX e_X11_line_133 ic_5 ?_
    obtain ⟨g1, hf⟩ := gd_s hf
    obtain ⟨v2, hv2, hf⟩ := bd_s hf
    refine r_cvi (As := fun K B => [.int (5)]) hX hn (t_X11_hasRead hv2) e_X11_line_134 cw_X11_hasRead cv_X11_hasRead lk_11_204 ⟨Nat.le_of_ble_eq_true rfl, Nat.le_of_ble_eq_true rfl⟩ (ci := 11) rfl rfl (Nat.le_of_ble_eq_true rfl) g1 rfl rfl (Nat.le_of_ble_eq_true rfl) ⟨Nat.zero_le _, Nat.zero_le _⟩ ?_
    refine r_iconst hX e_X11_line_137 ic_4 ?_
    refine r_icmp_ne hX e_X11_line_138 (fun hc => ?_) (fun hc => ?_)
    · have hf := ite_f hf hc
      exact GoN.weak (t_X11_line_146 hX hn hR M (x0) (x1) hf) rfl (sb_s (sb_s (sb_z _)))
    · have hf := ite_t hf hc
      exact GoN.weak (t_X11_line_141 hX hn hR M (x0) (x1) hf) rfl (sb_s (sb_s (sb_z _)))
theorem t_X11_line_112 {X : Cx} {res : Mem}  (hX : OkX X cX11_line RX11 6 136) (hn : Fit X shR nR) (hR : RetV X shR nR res)  (M : Mem) (x0 : Nat) (x1 : Int32) (hf : f_X11_line_112  M x0 x1 = some res) : GoN X shR nR 0 0 M 112 [some (.ref (X.B + x0)), some (.int (x1))] [] := by
  refine r_iload_n (i := 1) hX e_X11_line_112 rfl rfl ?_
  refine r_iconst hX e_X11_line_113 ic_4 ?_
  refine r_icmp_ne hX e_X11_line_114 (fun hc => ?_) (fun hc => ?_)
  · have hf := ite_f hf hc
    exact GoN.weak (t_X11_line_127 hX hn hR M (x0) (x1) hf) rfl (sb_s (sb_s (sb_z _)))
  · have hf := ite_t hf hc
    refine r_aload_n (i := 0) hX e_X11_line_117 rfl rfl ?_
    refine r_iconst hX e_X11_line_118 ic_4 ?_
    obtain ⟨g1, hf⟩ := gd_s hf
    obtain ⟨v2, hv2, hf⟩ := bd_s hf
    refine r_cvi (As := fun K B => [.int (4)]) hX hn (t_X11_hasRead hv2) e_X11_line_119 cw_X11_hasRead cv_X11_hasRead lk_11_204 ⟨Nat.le_of_ble_eq_true rfl, Nat.le_of_ble_eq_true rfl⟩ (ci := 11) rfl rfl (Nat.le_of_ble_eq_true rfl) g1 rfl rfl (Nat.le_of_ble_eq_true rfl) ⟨Nat.zero_le _, Nat.zero_le _⟩ ?_
    refine r_bipush hX e_X11_line_122 bc_6 ?_
    refine r_icmp_eq hX e_X11_line_124 (fun hc => ?_) (fun hc => ?_)
    · have hf := ite_t hf hc
      exact GoN.weak (t_X11_line_141 hX hn hR M (x0) (x1) hf) rfl (sb_s (sb_s (sb_z _)))
    · have hf := ite_f hf hc
      exact GoN.weak (t_X11_line_127 hX hn hR M (x0) (x1) hf) rfl (sb_s (sb_s (sb_z _)))
theorem t_X11_line_97 {X : Cx} {res : Mem}  (hX : OkX X cX11_line RX11 6 136) (hn : Fit X shR nR) (hR : RetV X shR nR res)  (M : Mem) (x0 : Nat) (x1 : Int32) (hf : f_X11_line_97  M x0 x1 = some res) : GoN X shR nR 0 0 M 97 [some (.ref (X.B + x0)), some (.int (x1))] [] := by
  refine r_iload_n (i := 1) hX e_X11_line_97 rfl rfl ?_
  refine r_iconst hX e_X11_line_98 ic_3 ?_
  refine r_icmp_ne hX e_X11_line_99 (fun hc => ?_) (fun hc => ?_)
  · have hf := ite_f hf hc
    exact GoN.weak (t_X11_line_112 hX hn hR M (x0) (x1) hf) rfl (sb_s (sb_s (sb_z _)))
  · have hf := ite_t hf hc
    refine r_aload_n (i := 0) hX e_X11_line_102 rfl rfl ?_
    refine r_iconst hX e_X11_line_103 ic_3 ?_
    obtain ⟨g1, hf⟩ := gd_s hf
    obtain ⟨v2, hv2, hf⟩ := bd_s hf
    refine r_cvi (As := fun K B => [.int (3)]) hX hn (t_X11_hasRead hv2) e_X11_line_104 cw_X11_hasRead cv_X11_hasRead lk_11_204 ⟨Nat.le_of_ble_eq_true rfl, Nat.le_of_ble_eq_true rfl⟩ (ci := 11) rfl rfl (Nat.le_of_ble_eq_true rfl) g1 rfl rfl (Nat.le_of_ble_eq_true rfl) ⟨Nat.zero_le _, Nat.zero_le _⟩ ?_
    refine r_bipush hX e_X11_line_107 bc_8 ?_
    refine r_icmp_eq hX e_X11_line_109 (fun hc => ?_) (fun hc => ?_)
    · have hf := ite_t hf hc
      exact GoN.weak (t_X11_line_141 hX hn hR M (x0) (x1) hf) rfl (sb_s (sb_s (sb_z _)))
    · have hf := ite_f hf hc
      exact GoN.weak (t_X11_line_112 hX hn hR M (x0) (x1) hf) rfl (sb_s (sb_s (sb_z _)))
theorem t_X11_line_83 {X : Cx} {res : Mem}  (hX : OkX X cX11_line RX11 6 136) (hn : Fit X shR nR) (hR : RetV X shR nR res)  (M : Mem) (x0 : Nat) (x1 : Int32) (hf : f_X11_line_83  M x0 x1 = some res) : GoN X shR nR 0 0 M 83 [some (.ref (X.B + x0)), some (.int (x1))] [] := by
  refine r_iload_n (i := 1) hX e_X11_line_83 rfl rfl ?_
  refine r_iconst hX e_X11_line_84 ic_2 ?_
  refine r_icmp_ne hX e_X11_line_85 (fun hc => ?_) (fun hc => ?_)
  · have hf := ite_f hf hc
    exact GoN.weak (t_X11_line_97 hX hn hR M (x0) (x1) hf) rfl (sb_s (sb_s (sb_z _)))
  · have hf := ite_t hf hc
    refine r_aload_n (i := 0) hX e_X11_line_88 rfl rfl ?_
    refine r_iconst hX e_X11_line_89 ic_2 ?_
    obtain ⟨g1, hf⟩ := gd_s hf
    obtain ⟨v2, hv2, hf⟩ := bd_s hf
    refine r_cvi (As := fun K B => [.int (2)]) hX hn (t_X11_hasRead hv2) e_X11_line_90 cw_X11_hasRead cv_X11_hasRead lk_11_204 ⟨Nat.le_of_ble_eq_true rfl, Nat.le_of_ble_eq_true rfl⟩ (ci := 11) rfl rfl (Nat.le_of_ble_eq_true rfl) g1 rfl rfl (Nat.le_of_ble_eq_true rfl) ⟨Nat.zero_le _, Nat.zero_le _⟩ ?_
    refine r_iconst hX e_X11_line_93 ic_3 ?_
    refine r_icmp_eq hX e_X11_line_94 (fun hc => ?_) (fun hc => ?_)
    · have hf := ite_t hf hc
      exact GoN.weak (t_X11_line_141 hX hn hR M (x0) (x1) hf) rfl (sb_s (sb_s (sb_z _)))
    · have hf := ite_f hf hc
      exact GoN.weak (t_X11_line_97 hX hn hR M (x0) (x1) hf) rfl (sb_s (sb_s (sb_z _)))
theorem t_X11_line_72 {X : Cx} {res : Mem}  (hX : OkX X cX11_line RX11 6 136) (hn : Fit X shR nR) (hR : RetV X shR nR res)  (M : Mem) (x0 : Nat) (s0 : Int32) (hf : f_X11_line_72  M x0 s0 = some res) : GoN X shR nR 0 0 M 72 [some (.ref (X.B + x0)), none] [.int (s0)] := by
  refine r_istore_n (i := 1) hX e_X11_line_72 rfl (Nat.le_of_ble_eq_true rfl) rfl ?_
  refine r_iload_n (i := 1) hX e_X11_line_73 rfl rfl ?_
  refine r_iconst hX e_X11_line_74 ic_m1 ?_
  refine r_icmp_ne hX e_X11_line_75 (fun hc => ?_) (fun hc => ?_)
  · have hf := ite_f hf hc
    exact GoN.weak (t_X11_line_83 hX hn hR M (x0) (s0) hf) rfl (sb_s (sb_s (sb_z _)))
  · have hf := ite_t hf hc
    refine r_aload_n (i := 0) hX e_X11_line_78 rfl rfl ?_
    refine r_iconst hX e_X11_line_79 ic_1 ?_
    obtain ⟨g1, hf⟩ := gd_s hf
    obtain ⟨u2, hu2, hf⟩ := bd_s hf
    refine r_cvv (As := fun K B => [.int (1)]) hX hn (t_X11_fails hu2) e_X11_line_80 cw_X11_fails cv_X11_fails lk_11_190 ⟨Nat.le_of_ble_eq_true rfl, Nat.le_of_ble_eq_true rfl⟩ (ci := 11) rfl rfl (Nat.le_of_ble_eq_true rfl) g1 rfl rfl (Nat.le_of_ble_eq_true rfl) ⟨Nat.zero_le _, Nat.zero_le _⟩ ?_
    exact GoN.weak (t_X11_line_83 hX hn hR u2 (x0) (s0) hf) rfl (sb_s (sb_s (sb_z _)))
theorem t_X11_line {l : Launch} {M : Mem} {a0 : Nat} {res : Mem} (hf : f_X11_line M a0 = some res) : Cv l yX11_line cX11_line 2 none 6 136 shR nR (fun K B => [.ref (B + a0)]) M res := by
  refine met_v (own := RX11) (lo := fun K B => [some (.ref (B + a0)), none]) (by decide +kernel) rfl shR_ok (fun _ _ => rfl) (fun _ _ => rfl) (fun _ _ => Nat.le_of_ble_eq_true rfl) (fun X hX hn hlx hR => ?_)
  refine r_aload_n (i := 0) hX e_X11_line_0 rfl rfl ?_
  refine r_ldc2 hX e_X11_line_1 wk_1384 ?_
  obtain ⟨g1, hf⟩ := gd_s hf
  obtain ⟨v2, hv2, hf⟩ := bd_s hf
  refine r_cvi (As := fun K B => [.long (361240)]) hX hn (t_X11_is hv2) e_X11_line_4 cw_X11_is cv_X11_is lk_11_180 ⟨Nat.le_of_ble_eq_true rfl, Nat.le_of_ble_eq_true rfl⟩ (ci := 11) rfl rfl (Nat.le_of_ble_eq_true rfl) g1 rfl rfl (Nat.le_of_ble_eq_true rfl) ⟨Nat.zero_le _, Nat.zero_le _⟩ ?_
  refine r_if_eq hX e_X11_line_7 (fun hc => ?_) (fun hc => ?_)
  · have hf := ite_t hf hc
    refine r_aload_n (i := 0) hX e_X11_line_14 rfl rfl ?_
    refine r_ldc2 hX e_X11_line_15 wk_1385 ?_
    obtain ⟨v3, hv3, hf⟩ := bd_s hf
    refine r_cvi (As := fun K B => [.long (10492104)]) hX hn (t_X11_is hv3) e_X11_line_18 cw_X11_is cv_X11_is lk_11_180 ⟨Nat.le_of_ble_eq_true rfl, Nat.le_of_ble_eq_true rfl⟩ (ci := 11) rfl rfl (Nat.le_of_ble_eq_true rfl) g1 rfl rfl (Nat.le_of_ble_eq_true rfl) ⟨Nat.zero_le _, Nat.zero_le _⟩ ?_
    refine r_if_eq hX e_X11_line_21 (fun hc => ?_) (fun hc => ?_)
    · have hf := ite_t hf hc
      refine r_aload_n (i := 0) hX e_X11_line_28 rfl rfl ?_
      refine r_ldc2 hX e_X11_line_29 wk_1386 ?_
      obtain ⟨v4, hv4, hf⟩ := bd_s hf
      refine r_cvi (As := fun K B => [.long (1494603)]) hX hn (t_X11_is hv4) e_X11_line_32 cw_X11_is cv_X11_is lk_11_180 ⟨Nat.le_of_ble_eq_true rfl, Nat.le_of_ble_eq_true rfl⟩ (ci := 11) rfl rfl (Nat.le_of_ble_eq_true rfl) g1 rfl rfl (Nat.le_of_ble_eq_true rfl) ⟨Nat.zero_le _, Nat.zero_le _⟩ ?_
      refine r_if_eq hX e_X11_line_35 (fun hc => ?_) (fun hc => ?_)
      · have hf := ite_t hf hc
        refine r_aload_n (i := 0) hX e_X11_line_42 rfl rfl ?_
        refine r_ldc2 hX e_X11_line_43 wk_1387 ?_
        obtain ⟨v5, hv5, hf⟩ := bd_s hf
        refine r_cvi (As := fun K B => [.long (10506440)]) hX hn (t_X11_is hv5) e_X11_line_46 cw_X11_is cv_X11_is lk_11_180 ⟨Nat.le_of_ble_eq_true rfl, Nat.le_of_ble_eq_true rfl⟩ (ci := 11) rfl rfl (Nat.le_of_ble_eq_true rfl) g1 rfl rfl (Nat.le_of_ble_eq_true rfl) ⟨Nat.zero_le _, Nat.zero_le _⟩ ?_
        refine r_if_eq hX e_X11_line_49 (fun hc => ?_) (fun hc => ?_)
        · have hf := ite_t hf hc
          refine r_aload_n (i := 0) hX e_X11_line_56 rfl rfl ?_
          refine r_ldc2 hX e_X11_line_57 wk_1388 ?_
          obtain ⟨v6, hv6, hf⟩ := bd_s hf
          refine r_cvi (As := fun K B => [.long (12253591)]) hX hn (t_X11_is hv6) e_X11_line_60 cw_X11_is cv_X11_is lk_11_180 ⟨Nat.le_of_ble_eq_true rfl, Nat.le_of_ble_eq_true rfl⟩ (ci := 11) rfl rfl (Nat.le_of_ble_eq_true rfl) g1 rfl rfl (Nat.le_of_ble_eq_true rfl) ⟨Nat.zero_le _, Nat.zero_le _⟩ ?_
          refine r_if_eq hX e_X11_line_63 (fun hc => ?_) (fun hc => ?_)
          · have hf := ite_t hf hc
            refine r_iconst hX e_X11_line_71 ic_m1 ?_
            exact GoN.weak (t_X11_line_72 hX hn hR M (a0) ((-1)) hf) rfl (sb_s (sb_n (sb_z _)))
          · have hf := ite_f hf hc
            refine r_bipush hX e_X11_line_66 bc_9 ?_
            refine r_goto hX e_X11_line_68 ?_
            exact GoN.weak (t_X11_line_72 hX hn hR M (a0) (9) hf) rfl (sb_s (sb_n (sb_z _)))
        · have hf := ite_f hf hc
          refine r_iconst hX e_X11_line_52 ic_5 ?_
          refine r_goto hX e_X11_line_53 ?_
          exact GoN.weak (t_X11_line_72 hX hn hR M (a0) (5) hf) rfl (sb_s (sb_n (sb_z _)))
      · have hf := ite_f hf hc
        refine r_iconst hX e_X11_line_38 ic_4 ?_
        refine r_goto hX e_X11_line_39 ?_
        exact GoN.weak (t_X11_line_72 hX hn hR M (a0) (4) hf) rfl (sb_s (sb_n (sb_z _)))
    · have hf := ite_f hf hc
      refine r_iconst hX e_X11_line_24 ic_3 ?_
      refine r_goto hX e_X11_line_25 ?_
      exact GoN.weak (t_X11_line_72 hX hn hR M (a0) (3) hf) rfl (sb_s (sb_n (sb_z _)))
  · have hf := ite_f hf hc
    refine r_iconst hX e_X11_line_10 ic_2 ?_
    refine r_goto hX e_X11_line_11 ?_
    exact GoN.weak (t_X11_line_72 hX hn hR M (a0) (2) hf) rfl (sb_s (sb_n (sb_z _)))
def s_X11_clears_9 (k9 : Mem → Nat → Int32 → Option (Mem)) (M : Mem) (x0 : Nat) (x1 : Int32) : Option (Mem) :=
  if 6 ≤ x1 then some M else gd (oB shR x0 11) <| bd (gR M x0 17) fun r2 => gd (aB shR r2 0 (24 + x1)) <| nx (sI M r2 ((24 + x1) : Int32).toNatClampNeg 0) fun M4 => k9 M4 (x0) ((x1 + 1))
def f_X11_clears_9  : Nat → Mem → Nat → Int32 → Option (Mem)
  | 0 => fun _ _ _ => none
  | n + 1 => fun y0 y1 y2 => s_X11_clears_9  (f_X11_clears_9  n) y0 y1 y2
def f_X11_clears (M : Mem) (a0 : Nat) : Option (Mem) :=
  gd (oB shR a0 11) <| bd (gR M a0 16) fun r2 => gd (aB shR r2 0 4) <| nx (sI M r2 (4 : Int32).toNatClampNeg 0) fun M4 => f_X11_clears_9 FU M4 (a0) (0)
theorem t_s_X11_clears_9 {X : Cx} {res : Mem} {k9 : Mem → Nat → Int32 → Option (Mem)} (hX : OkX X cX11_clears RX11 0 0) (hn : Fit X shR nR) (hR : RetV X shR nR res) (hk9 : ∀ M x0 x1, k9 M x0 x1 = some res → GoN X shR nR 0 0 M 9 [some (.ref (X.B + x0)), some (.int (x1))] []) (M : Mem) (x0 : Nat) (x1 : Int32) (hf : s_X11_clears_9 k9 M x0 x1 = some res) : GoN X shR nR 0 0 M 9 [some (.ref (X.B + x0)), some (.int (x1))] [] := by
  refine r_iload_n (i := 1) hX e_X11_clears_9 rfl rfl ?_
  refine r_bipush hX e_X11_clears_10 bc_6 ?_
  refine r_icmp_ge hX e_X11_clears_12 (fun hc => ?_) (fun hc => ?_)
  · have hf := ite_t hf hc
    exact r_ret hX hR e_X11_clears_31 hf
  · have hf := ite_f hf hc
    refine r_aload_n (i := 0) hX e_X11_clears_15 rfl rfl ?_
    obtain ⟨g1, hf⟩ := gd_s hf
    obtain ⟨r2, hr2, hf⟩ := bd_s hf
    refine r_getR hX hn e_X11_clears_16 fl_11_34 rfl g1 hr2 ?_
    refine r_bipush hX e_X11_clears_19 bc_24 ?_
    refine r_iload_n (i := 1) hX e_X11_clears_21 rfl rfl ?_
    refine r_iadd hX e_X11_clears_22 ?_
    refine r_iconst hX e_X11_clears_23 ic_0 ?_
    obtain ⟨g3, hf⟩ := gd_s hf
    obtain ⟨M4, hM4, hf⟩ := nx_s hf
    refine r_iast hX hn hM4 e_X11_clears_24 g3 ?_
    refine r_iinc (v := x1 + 1) hX e_X11_clears_25 rfl (ii_s ic_1) (Nat.le_of_ble_eq_true rfl) rfl ?_
    refine r_goto hX e_X11_clears_28 ?_
    exact GoN.weak (hk9 M4 (x0) ((x1 + 1)) hf) rfl (sb_s (sb_s (sb_z _)))
theorem t_X11_clears_9 {X : Cx} {res : Mem}  (hX : OkX X cX11_clears RX11 0 0) (hn : Fit X shR nR) (hR : RetV X shR nR res)  : ∀ (n : Nat) (M : Mem) (x0 : Nat) (x1 : Int32),  f_X11_clears_9  n M x0 x1 = some res → GoN X shR nR 0 0 M 9 [some (.ref (X.B + x0)), some (.int (x1))] [] := by
  intro n
  induction n with
  | zero => intro M x0 x1 hf; cases hf
  | succ n ih => intro M x0 x1 hf; exact t_s_X11_clears_9 hX hn hR  ih M x0 x1 hf
theorem t_X11_clears {l : Launch} {M : Mem} {a0 : Nat} {res : Mem} (hf : f_X11_clears M a0 = some res) : Cv l yX11_clears cX11_clears 2 none 0 0 shR nR (fun K B => [.ref (B + a0)]) M res := by
  refine met_v (own := RX11) (lo := fun K B => [some (.ref (B + a0)), none]) (by decide +kernel) rfl shR_ok (fun _ _ => rfl) (fun _ _ => rfl) (fun _ _ => Nat.le_of_ble_eq_true rfl) (fun X hX hn hlx hR => ?_)
  refine r_aload_n (i := 0) hX e_X11_clears_0 rfl rfl ?_
  obtain ⟨g1, hf⟩ := gd_s hf
  obtain ⟨r2, hr2, hf⟩ := bd_s hf
  refine r_getR hX hn e_X11_clears_1 fl_11_31 rfl g1 hr2 ?_
  refine r_iconst hX e_X11_clears_4 ic_4 ?_
  refine r_iconst hX e_X11_clears_5 ic_0 ?_
  obtain ⟨g3, hf⟩ := gd_s hf
  obtain ⟨M4, hM4, hf⟩ := nx_s hf
  refine r_iast hX hn hM4 e_X11_clears_6 g3 ?_
  refine r_iconst hX e_X11_clears_7 ic_0 ?_
  refine r_istore_n (i := 1) hX e_X11_clears_8 rfl (Nat.le_of_ble_eq_true rfl) rfl ?_
  exact GoN.weak (t_X11_clears_9 hX hn hR FU M4 (a0) (0) hf) rfl (sb_s (sb_s (sb_z _)))
def s_X11_copyRow_3 (k3 : Mem → Nat → Int32 → Int32 → Int32 → Int32 → Option (Mem)) (M : Mem) (x0 : Nat) (x1 : Int32) (x2 : Int32) (x3 : Int32) (x4 : Int32) : Option (Mem) :=
  if x1 ≤ x4 then some M else gd (aB shR x0 0 ((x1 * x2) + x4)) <| nx ((gI M x0 (((x1 * x2) + x4) : Int32).toNatClampNeg)) fun v2 => gd (aB shR x0 0 ((x1 * x3) + x4)) <| nx (sI M x0 (((x1 * x3) + x4) : Int32).toNatClampNeg v2) fun M4 => k3 M4 (x0) (x1) (x2) (x3) ((x4 + 1))
def f_X11_copyRow_3  : Nat → Mem → Nat → Int32 → Int32 → Int32 → Int32 → Option (Mem)
  | 0 => fun _ _ _ _ _ _ => none
  | n + 1 => fun y0 y1 y2 y3 y4 y5 => s_X11_copyRow_3  (f_X11_copyRow_3  n) y0 y1 y2 y3 y4 y5
def f_X11_copyRow (M : Mem) (a0 : Nat) (a1 : Int32) (a2 : Int32) (a3 : Int32) : Option (Mem) :=
  f_X11_copyRow_3 FU M (a0) (a1) (a2) (a3) (0)
theorem t_s_X11_copyRow_3 {X : Cx} {res : Mem} {k3 : Mem → Nat → Int32 → Int32 → Int32 → Int32 → Option (Mem)} (hX : OkX X cX11_copyRow RX11 0 0) (hn : Fit X shR nR) (hR : RetV X shR nR res) (hk3 : ∀ M x0 x1 x2 x3 x4, k3 M x0 x1 x2 x3 x4 = some res → GoN X shR nR 0 0 M 3 [some (.ref (X.B + x0)), some (.int (x1)), some (.int (x2)), some (.int (x3)), some (.int (x4))] []) (M : Mem) (x0 : Nat) (x1 : Int32) (x2 : Int32) (x3 : Int32) (x4 : Int32) (hf : s_X11_copyRow_3 k3 M x0 x1 x2 x3 x4 = some res) : GoN X shR nR 0 0 M 3 [some (.ref (X.B + x0)), some (.int (x1)), some (.int (x2)), some (.int (x3)), some (.int (x4))] [] := by
  refine r_iload hX e_X11_copyRow_3 rfl ?_
  refine r_iload_n (i := 1) hX e_X11_copyRow_5 rfl rfl ?_
  refine r_icmp_ge hX e_X11_copyRow_6 (fun hc => ?_) (fun hc => ?_)
  · have hf := ite_t hf hc
    exact r_ret hX hR e_X11_copyRow_31 hf
  · have hf := ite_f hf hc
    refine r_aload_n (i := 0) hX e_X11_copyRow_9 rfl rfl ?_
    refine r_iload_n (i := 1) hX e_X11_copyRow_10 rfl rfl ?_
    refine r_iload_n (i := 3) hX e_X11_copyRow_11 rfl rfl ?_
    refine r_imul hX e_X11_copyRow_12 ?_
    refine r_iload hX e_X11_copyRow_13 rfl ?_
    refine r_iadd hX e_X11_copyRow_15 ?_
    refine r_aload_n (i := 0) hX e_X11_copyRow_16 rfl rfl ?_
    refine r_iload_n (i := 1) hX e_X11_copyRow_17 rfl rfl ?_
    refine r_iload_n (i := 2) hX e_X11_copyRow_18 rfl rfl ?_
    refine r_imul hX e_X11_copyRow_19 ?_
    refine r_iload hX e_X11_copyRow_20 rfl ?_
    refine r_iadd hX e_X11_copyRow_22 ?_
    obtain ⟨g1, hf⟩ := gd_s hf
    refine r_iald hX hn e_X11_copyRow_23 g1 ?_
    obtain ⟨v2, hv2, hf⟩ := nx_s hf
    refine top_i hv2 ?_
    obtain ⟨g3, hf⟩ := gd_s hf
    obtain ⟨M4, hM4, hf⟩ := nx_s hf
    refine r_iast hX hn hM4 e_X11_copyRow_24 g3 ?_
    refine r_iinc (v := x4 + 1) hX e_X11_copyRow_25 rfl (ii_s ic_1) (Nat.le_of_ble_eq_true rfl) rfl ?_
    refine r_goto hX e_X11_copyRow_28 ?_
    exact GoN.weak (hk3 M4 (x0) (x1) (x2) (x3) ((x4 + 1)) hf) rfl (sb_s (sb_s (sb_s (sb_s (sb_s (sb_z _))))))
theorem t_X11_copyRow_3 {X : Cx} {res : Mem}  (hX : OkX X cX11_copyRow RX11 0 0) (hn : Fit X shR nR) (hR : RetV X shR nR res)  : ∀ (n : Nat) (M : Mem) (x0 : Nat) (x1 : Int32) (x2 : Int32) (x3 : Int32) (x4 : Int32),  f_X11_copyRow_3  n M x0 x1 x2 x3 x4 = some res → GoN X shR nR 0 0 M 3 [some (.ref (X.B + x0)), some (.int (x1)), some (.int (x2)), some (.int (x3)), some (.int (x4))] [] := by
  intro n
  induction n with
  | zero => intro M x0 x1 x2 x3 x4 hf; cases hf
  | succ n ih => intro M x0 x1 x2 x3 x4 hf; exact t_s_X11_copyRow_3 hX hn hR  ih M x0 x1 x2 x3 x4 hf
theorem t_X11_copyRow {l : Launch} {M : Mem} {a0 : Nat} {a1 a2 a3 : Int32} {res : Mem} (hf : f_X11_copyRow M a0 a1 a2 a3 = some res) : Cv l yX11_copyRow cX11_copyRow 5 none 0 0 shR nR (fun K B => [.ref (B + a0), .int a1, .int a2, .int a3]) M res := by
  refine met_v (own := RX11) (lo := fun K B => [some (.ref (B + a0)), some (.int a1), some (.int a2), some (.int a3), none]) (by decide +kernel) rfl shR_ok (fun _ _ => rfl) (fun _ _ => rfl) (fun _ _ => Nat.le_of_ble_eq_true rfl) (fun X hX hn hlx hR => ?_)
  refine r_iconst hX e_X11_copyRow_0 ic_0 ?_
  refine r_istore hX e_X11_copyRow_1 (Nat.le_of_ble_eq_true rfl) rfl ?_
  exact GoN.weak (t_X11_copyRow_3 hX hn hR FU M (a0) (a1) (a2) (a3) (0) hf) rfl (sb_s (sb_s (sb_s (sb_s (sb_s (sb_z _))))))
def f_X11_copyMarket (M : Mem) (a0 : Nat) (a1 : Int32) (a2 : Int32) : Option (Mem) :=
  gd (oB shR a0 11) <| bd (gR M a0 16) fun r2 => bd (f_X11_copyRow M r2 1 a1 a2) fun u3 => bd (gR u3 a0 17) fun r4 => bd (f_X11_copyRow u3 r4 6 a1 a2) fun u5 => bd (gR u5 a0 18) fun r6 => bd (f_X11_copyRow u5 r6 6 a1 a2) fun u7 => bd (gR u7 a0 19) fun r8 => bd (f_X11_copyRow u7 r8 56 a1 a2) fun u9 => bd (gR u9 a0 20) fun r10 => bd (f_X11_copyRow u9 r10 24 a1 a2) fun u11 => bd (gR u11 a0 21) fun r12 => bd (f_X11_copyRow u11 r12 54 a1 a2) fun u13 => bd (gR u13 a0 22) fun r14 => bd (f_X11_copyRow u13 r14 12 a1 a2) fun u15 => some u15
theorem t_X11_copyMarket {l : Launch} {M : Mem} {a0 : Nat} {a1 a2 : Int32} {res : Mem} (hf : f_X11_copyMarket M a0 a1 a2 = some res) : Cv l yX11_copyMarket cX11_copyMarket 3 none 1 24 shR nR (fun K B => [.ref (B + a0), .int a1, .int a2]) M res := by
  refine met_v (own := RX11) (lo := fun K B => [some (.ref (B + a0)), some (.int a1), some (.int a2)]) (by decide +kernel) rfl shR_ok (fun _ _ => rfl) (fun _ _ => rfl) (fun _ _ => Nat.le_of_ble_eq_true rfl) (fun X hX hn hlx hR => ?_)
  refine r_aload_n (i := 0) hX e_X11_copyMarket_0 rfl rfl ?_
  obtain ⟨g1, hf⟩ := gd_s hf
  obtain ⟨r2, hr2, hf⟩ := bd_s hf
  refine r_getR hX hn e_X11_copyMarket_1 fl_11_31 rfl g1 hr2 ?_
  refine r_iconst hX e_X11_copyMarket_4 ic_1 ?_
  refine r_iload_n (i := 1) hX e_X11_copyMarket_5 rfl rfl ?_
  refine r_iload_n (i := 2) hX e_X11_copyMarket_6 rfl rfl ?_
  obtain ⟨u3, hu3, hf⟩ := bd_s hf
  refine r_csv (As := fun K B => [.ref (B + r2), .int (1), .int (a1), .int (a2)]) hX hn (t_X11_copyRow hu3) e_X11_copyMarket_7 cw_X11_copyRow cv_X11_copyRow lk_11_301 ⟨Nat.le_of_ble_eq_true rfl, Nat.le_of_ble_eq_true rfl⟩ rfl rfl (Nat.le_of_ble_eq_true rfl) ⟨Nat.zero_le _, Nat.zero_le _⟩ ?_
  refine r_aload_n (i := 0) hX e_X11_copyMarket_10 rfl rfl ?_
  obtain ⟨r4, hr4, hf⟩ := bd_s hf
  refine r_getR hX hn e_X11_copyMarket_11 fl_11_34 rfl g1 hr4 ?_
  refine r_bipush hX e_X11_copyMarket_14 bc_6 ?_
  refine r_iload_n (i := 1) hX e_X11_copyMarket_16 rfl rfl ?_
  refine r_iload_n (i := 2) hX e_X11_copyMarket_17 rfl rfl ?_
  obtain ⟨u5, hu5, hf⟩ := bd_s hf
  refine r_csv (As := fun K B => [.ref (B + r4), .int (6), .int (a1), .int (a2)]) hX hn (t_X11_copyRow hu5) e_X11_copyMarket_18 cw_X11_copyRow cv_X11_copyRow lk_11_301 ⟨Nat.le_of_ble_eq_true rfl, Nat.le_of_ble_eq_true rfl⟩ rfl rfl (Nat.le_of_ble_eq_true rfl) ⟨Nat.zero_le _, Nat.zero_le _⟩ ?_
  refine r_aload_n (i := 0) hX e_X11_copyMarket_21 rfl rfl ?_
  obtain ⟨r6, hr6, hf⟩ := bd_s hf
  refine r_getR hX hn e_X11_copyMarket_22 fl_11_37 rfl g1 hr6 ?_
  refine r_bipush hX e_X11_copyMarket_25 bc_6 ?_
  refine r_iload_n (i := 1) hX e_X11_copyMarket_27 rfl rfl ?_
  refine r_iload_n (i := 2) hX e_X11_copyMarket_28 rfl rfl ?_
  obtain ⟨u7, hu7, hf⟩ := bd_s hf
  refine r_csv (As := fun K B => [.ref (B + r6), .int (6), .int (a1), .int (a2)]) hX hn (t_X11_copyRow hu7) e_X11_copyMarket_29 cw_X11_copyRow cv_X11_copyRow lk_11_301 ⟨Nat.le_of_ble_eq_true rfl, Nat.le_of_ble_eq_true rfl⟩ rfl rfl (Nat.le_of_ble_eq_true rfl) ⟨Nat.zero_le _, Nat.zero_le _⟩ ?_
  refine r_aload_n (i := 0) hX e_X11_copyMarket_32 rfl rfl ?_
  obtain ⟨r8, hr8, hf⟩ := bd_s hf
  refine r_getR hX hn e_X11_copyMarket_33 fl_11_40 rfl g1 hr8 ?_
  refine r_bipush hX e_X11_copyMarket_36 bc_56 ?_
  refine r_iload_n (i := 1) hX e_X11_copyMarket_38 rfl rfl ?_
  refine r_iload_n (i := 2) hX e_X11_copyMarket_39 rfl rfl ?_
  obtain ⟨u9, hu9, hf⟩ := bd_s hf
  refine r_csv (As := fun K B => [.ref (B + r8), .int (56), .int (a1), .int (a2)]) hX hn (t_X11_copyRow hu9) e_X11_copyMarket_40 cw_X11_copyRow cv_X11_copyRow lk_11_301 ⟨Nat.le_of_ble_eq_true rfl, Nat.le_of_ble_eq_true rfl⟩ rfl rfl (Nat.le_of_ble_eq_true rfl) ⟨Nat.zero_le _, Nat.zero_le _⟩ ?_
  refine r_aload_n (i := 0) hX e_X11_copyMarket_43 rfl rfl ?_
  obtain ⟨r10, hr10, hf⟩ := bd_s hf
  refine r_getR hX hn e_X11_copyMarket_44 fl_11_43 rfl g1 hr10 ?_
  refine r_bipush hX e_X11_copyMarket_47 bc_24 ?_
  refine r_iload_n (i := 1) hX e_X11_copyMarket_49 rfl rfl ?_
  refine r_iload_n (i := 2) hX e_X11_copyMarket_50 rfl rfl ?_
  obtain ⟨u11, hu11, hf⟩ := bd_s hf
  refine r_csv (As := fun K B => [.ref (B + r10), .int (24), .int (a1), .int (a2)]) hX hn (t_X11_copyRow hu11) e_X11_copyMarket_51 cw_X11_copyRow cv_X11_copyRow lk_11_301 ⟨Nat.le_of_ble_eq_true rfl, Nat.le_of_ble_eq_true rfl⟩ rfl rfl (Nat.le_of_ble_eq_true rfl) ⟨Nat.zero_le _, Nat.zero_le _⟩ ?_
  refine r_aload_n (i := 0) hX e_X11_copyMarket_54 rfl rfl ?_
  obtain ⟨r12, hr12, hf⟩ := bd_s hf
  refine r_getR hX hn e_X11_copyMarket_55 fl_11_46 rfl g1 hr12 ?_
  refine r_bipush hX e_X11_copyMarket_58 bc_54 ?_
  refine r_iload_n (i := 1) hX e_X11_copyMarket_60 rfl rfl ?_
  refine r_iload_n (i := 2) hX e_X11_copyMarket_61 rfl rfl ?_
  obtain ⟨u13, hu13, hf⟩ := bd_s hf
  refine r_csv (As := fun K B => [.ref (B + r12), .int (54), .int (a1), .int (a2)]) hX hn (t_X11_copyRow hu13) e_X11_copyMarket_62 cw_X11_copyRow cv_X11_copyRow lk_11_301 ⟨Nat.le_of_ble_eq_true rfl, Nat.le_of_ble_eq_true rfl⟩ rfl rfl (Nat.le_of_ble_eq_true rfl) ⟨Nat.zero_le _, Nat.zero_le _⟩ ?_
  refine r_aload_n (i := 0) hX e_X11_copyMarket_65 rfl rfl ?_
  obtain ⟨r14, hr14, hf⟩ := bd_s hf
  refine r_getR hX hn e_X11_copyMarket_66 fl_11_49 rfl g1 hr14 ?_
  refine r_bipush hX e_X11_copyMarket_69 bc_12 ?_
  refine r_iload_n (i := 1) hX e_X11_copyMarket_71 rfl rfl ?_
  refine r_iload_n (i := 2) hX e_X11_copyMarket_72 rfl rfl ?_
  obtain ⟨u15, hu15, hf⟩ := bd_s hf
  refine r_csv (As := fun K B => [.ref (B + r14), .int (12), .int (a1), .int (a2)]) hX hn (t_X11_copyRow hu15) e_X11_copyMarket_73 cw_X11_copyRow cv_X11_copyRow lk_11_301 ⟨Nat.le_of_ble_eq_true rfl, Nat.le_of_ble_eq_true rfl⟩ rfl rfl (Nat.le_of_ble_eq_true rfl) ⟨Nat.zero_le _, Nat.zero_le _⟩ ?_
  exact r_ret hX hR e_X11_copyMarket_76 hf
