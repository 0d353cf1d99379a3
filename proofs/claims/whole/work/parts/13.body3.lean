def f_X10_send (M : Mem) (a0 : Nat) (a1 : Int32) (a2 : Int32) (a3 : Int32) (a4 : Int32) : Option (Mem × Int32) :=
  gd (oB shC a0 10) <| bd (gR M a0 1) fun r2 => gd (oB shC r2 4) <| bd (f_X4_hasPlace M r2 a1) fun v4 => if v4 = 0 then some (M, (-2)) else bd (f_X4_hasPlace M r2 a2) fun v5 => if v5 = 0 then some (M, (-2)) else if a1 = a2 then some (M, (-2)) else bd (f_X4_hasMinute M r2 a3) fun v6 => if v6 = 0 then some (M, (-2)) else if a4 < 0 then some (M, (-2)) else if a4 ≤ 1 then bd (gR M a0 9) fun r7 => bd (f_X10_toldHour M a0) fun u8 => gd (oB shC u8.2 3) <| bd (gR u8.1 u8.2 0) fun r10 => gd (oB shC r7 5) <| bd (f_X5_bring u8.1 r7 r2 r10 a1 a2 a3) fun u12 => if a4 = 0 then bd (gR u12 a0 9) fun r15 => gd (oB shC r15 5) <| some (u12, (gI u12 r15 0)) else bd (gR u12 a0 9) fun r13 => gd (oB shC r13 5) <| some (u12, (gI u12 r13 1)) else some (M, (-2))
theorem t_X10_send {l : Launch} {M : Mem} {a0 : Nat} {a1 a2 a3 a4 : Int32} {res : Mem × Int32} (hf : f_X10_send M a0 a1 a2 a3 a4 = some res) : Ci l yX10_send cX10_send 5 (some .int) 6 139 shC nC (fun K B => [.ref (B + a0), .int a1, .int a2, .int a3, .int a4]) M res := by
  refine met_i (own := RX10) (lo := fun K B => [some (.ref (B + a0)), some (.int a1), some (.int a2), some (.int a3), some (.int a4)]) (by decide +kernel) rfl shC_ok (fun _ _ => rfl) (fun _ _ => rfl) (fun _ _ => Nat.le_of_ble_eq_true rfl) (fun X hX hn hlx hR => ?_)
  refine r_aload_n (i := 0) hX e_X10_send_0 rfl rfl ?_
  obtain ⟨g1, hf⟩ := gd_s hf
  obtain ⟨r2, hr2, hf⟩ := bd_s hf
  refine r_getR hX hn e_X10_send_1 fl_10_19 rfl g1 hr2 ?_
  refine r_iload_n (i := 1) hX e_X10_send_4 rfl rfl ?_
  obtain ⟨g3, hf⟩ := gd_s hf
  obtain ⟨v4, hv4, hf⟩ := bd_s hf
  refine r_cvi (As := fun K B => [.int (a1)]) hX hn (t_X4_hasPlace hv4) e_X10_send_5 cw_X4_hasPlace cv_X4_hasPlace lk_10_163 ⟨Nat.le_of_ble_eq_true rfl, Nat.le_of_ble_eq_true rfl⟩ (ci := 4) rfl rfl (Nat.le_of_ble_eq_true rfl) g3 rfl rfl (Nat.le_of_ble_eq_true rfl) ⟨Nat.zero_le _, Nat.zero_le _⟩ ?_
  refine r_if_eq hX e_X10_send_8 (fun hc => ?_) (fun hc => ?_)
  · have hf := ite_t hf hc
    refine r_bipush hX e_X10_send_38 bc_m2 ?_
    exact r_iret hX hR e_X10_send_40 hf
  · have hf := ite_f hf hc
    refine r_aload_n (i := 0) hX e_X10_send_11 rfl rfl ?_
    refine r_getR hX hn e_X10_send_12 fl_10_19 rfl g1 hr2 ?_
    refine r_iload_n (i := 2) hX e_X10_send_15 rfl rfl ?_
    obtain ⟨v5, hv5, hf⟩ := bd_s hf
    refine r_cvi (As := fun K B => [.int (a2)]) hX hn (t_X4_hasPlace hv5) e_X10_send_16 cw_X4_hasPlace cv_X4_hasPlace lk_10_163 ⟨Nat.le_of_ble_eq_true rfl, Nat.le_of_ble_eq_true rfl⟩ (ci := 4) rfl rfl (Nat.le_of_ble_eq_true rfl) g3 rfl rfl (Nat.le_of_ble_eq_true rfl) ⟨Nat.zero_le _, Nat.zero_le _⟩ ?_
    refine r_if_eq hX e_X10_send_19 (fun hc => ?_) (fun hc => ?_)
    · have hf := ite_t hf hc
      refine r_bipush hX e_X10_send_38 bc_m2 ?_
      exact r_iret hX hR e_X10_send_40 hf
    · have hf := ite_f hf hc
      refine r_iload_n (i := 1) hX e_X10_send_22 rfl rfl ?_
      refine r_iload_n (i := 2) hX e_X10_send_23 rfl rfl ?_
      refine r_icmp_eq hX e_X10_send_24 (fun hc => ?_) (fun hc => ?_)
      · have hf := ite_t hf hc
        refine r_bipush hX e_X10_send_38 bc_m2 ?_
        exact r_iret hX hR e_X10_send_40 hf
      · have hf := ite_f hf hc
        refine r_aload_n (i := 0) hX e_X10_send_27 rfl rfl ?_
        refine r_getR hX hn e_X10_send_28 fl_10_19 rfl g1 hr2 ?_
        refine r_iload_n (i := 3) hX e_X10_send_31 rfl rfl ?_
        obtain ⟨v6, hv6, hf⟩ := bd_s hf
        refine r_cvi (As := fun K B => [.int (a3)]) hX hn (t_X4_hasMinute hv6) e_X10_send_32 cw_X4_hasMinute cv_X4_hasMinute lk_10_147 ⟨Nat.le_of_ble_eq_true rfl, Nat.le_of_ble_eq_true rfl⟩ (ci := 4) rfl rfl (Nat.le_of_ble_eq_true rfl) g3 rfl rfl (Nat.le_of_ble_eq_true rfl) ⟨Nat.zero_le _, Nat.zero_le _⟩ ?_
        refine r_if_ne hX e_X10_send_35 (fun hc => ?_) (fun hc => ?_)
        · have hf := ite_f hf hc
          refine r_iload hX e_X10_send_41 rfl ?_
          refine r_if_lt hX e_X10_send_43 (fun hc => ?_) (fun hc => ?_)
          · have hf := ite_t hf hc
            refine r_bipush hX e_X10_send_52 bc_m2 ?_
            exact r_iret hX hR e_X10_send_54 hf
          · have hf := ite_f hf hc
            refine r_iload hX e_X10_send_46 rfl ?_
            refine r_iconst hX e_X10_send_48 ic_1 ?_
            refine r_icmp_le hX e_X10_send_49 (fun hc => ?_) (fun hc => ?_)
            · have hf := ite_t hf hc
              refine r_aload_n (i := 0) hX e_X10_send_55 rfl rfl ?_
              obtain ⟨r7, hr7, hf⟩ := bd_s hf
              refine r_getR hX hn e_X10_send_56 fl_10_61 rfl g1 hr7 ?_
              refine r_aload_n (i := 0) hX e_X10_send_59 rfl rfl ?_
              refine r_getR hX hn e_X10_send_60 fl_10_19 rfl g1 hr2 ?_
              refine r_aload_n (i := 0) hX e_X10_send_63 rfl rfl ?_
              obtain ⟨u8, hu8, hf⟩ := bd_s hf
              refine r_cvr (As := fun K B => []) hX hn (t_X10_toldHour hu8) e_X10_send_64 cw_X10_toldHour cv_X10_toldHour lk_10_150 ⟨Nat.le_of_ble_eq_true rfl, Nat.le_of_ble_eq_true rfl⟩ (ci := 10) rfl rfl (Nat.le_of_ble_eq_true rfl) g1 rfl rfl (Nat.le_of_ble_eq_true rfl) ⟨Nat.zero_le _, Nat.zero_le _⟩ ?_
              obtain ⟨g9, hf⟩ := gd_s hf
              obtain ⟨r10, hr10, hf⟩ := bd_s hf
              refine r_getR hX hn e_X10_send_67 fl_10_154 rfl g9 hr10 ?_
              refine r_iload_n (i := 1) hX e_X10_send_70 rfl rfl ?_
              refine r_iload_n (i := 2) hX e_X10_send_71 rfl rfl ?_
              refine r_iload_n (i := 3) hX e_X10_send_72 rfl rfl ?_
              obtain ⟨g11, hf⟩ := gd_s hf
              obtain ⟨u12, hu12, hf⟩ := bd_s hf
              refine r_cvv (As := fun K B => [.ref (B + r2), .ref (B + r10), .int (a1), .int (a2), .int (a3)]) hX hn (t_X5_bring hu12) e_X10_send_73 cw_X5_bring cv_X5_bring lk_10_257 ⟨Nat.le_of_ble_eq_true rfl, Nat.le_of_ble_eq_true rfl⟩ (ci := 5) rfl rfl (Nat.le_of_ble_eq_true rfl) g11 rfl rfl (Nat.le_of_ble_eq_true rfl) ⟨Nat.zero_le _, Nat.zero_le _⟩ ?_
              refine r_iload hX e_X10_send_76 rfl ?_
              refine r_if_ne hX e_X10_send_78 (fun hc => ?_) (fun hc => ?_)
              · have hf := ite_f hf hc
                refine r_aload_n (i := 0) hX e_X10_send_91 rfl rfl ?_
                obtain ⟨r13, hr13, hf⟩ := bd_s hf
                refine r_getR hX hn e_X10_send_92 fl_10_61 rfl g1 hr13 ?_
                obtain ⟨g14, hf⟩ := gd_s hf
                refine r_getI hX hn e_X10_send_95 fl_10_264 rfl g14 ?_
                exact r_iret hX hR e_X10_send_98 hf
              · have hf := ite_t hf hc
                refine r_aload_n (i := 0) hX e_X10_send_81 rfl rfl ?_
                obtain ⟨r15, hr15, hf⟩ := bd_s hf
                refine r_getR hX hn e_X10_send_82 fl_10_61 rfl g1 hr15 ?_
                obtain ⟨g16, hf⟩ := gd_s hf
                refine r_getI hX hn e_X10_send_85 fl_10_261 rfl g16 ?_
                refine r_goto hX e_X10_send_88 ?_
                exact r_iret hX hR e_X10_send_98 hf
            · have hf := ite_f hf hc
              refine r_bipush hX e_X10_send_52 bc_m2 ?_
              exact r_iret hX hR e_X10_send_54 hf
        · have hf := ite_t hf hc
          refine r_bipush hX e_X10_send_38 bc_m2 ?_
          exact r_iret hX hR e_X10_send_40 hf
def s_X10_round_39 (k39 : Mem → Nat → Int32 → Int32 → Nat → Int32 → Int32 → Option (Mem × Int32)) (M : Mem) (x0 : Nat) (x1 : Int32) (x2 : Int32) (x3 : Nat) (x4 : Int32) (x5 : Int32) : Option (Mem × Int32) :=
  gd (oB shC x0 10) <| bd (gR M x0 1) fun r2 => gd (oB shC r2 4) <| if (gI M r2 5) ≤ x5 then some (M, x4) else bd (gR M r2 8) fun r4 => gd (aB shC r4 6 x5) <| bd (gR M r4 (x5 : Int32).toNatClampNeg) fun r6 => gd (oB shC r6 1) <| if (gI M r6 0) = x1 then k39 M (x0) (x1) (x2) (x3) (x4) ((x5 + 1)) else bd (gR M x0 9) fun r8 => gd (oB shC r8 5) <| bd (f_X5_bring M r8 r2 x3 x1 (gI M r6 0) x2) fun u10 => bd (gR u10 x0 9) fun r11 => gd (oB shC r11 5) <| if (gI u10 r11 0) = (-1) then some (u10, (-1)) else bd (f_X20_max u10 x4 (gI u10 r11 0)) fun v13 => k39 u10 (x0) (x1) (x2) (x3) (v13) ((x5 + 1))
def f_X10_round_39  : Nat → Mem → Nat → Int32 → Int32 → Nat → Int32 → Int32 → Option (Mem × Int32)
  | 0 => fun _ _ _ _ _ _ _ => none
  | n + 1 => fun y0 y1 y2 y3 y4 y5 y6 => s_X10_round_39  (f_X10_round_39  n) y0 y1 y2 y3 y4 y5 y6
def f_X10_round (M : Mem) (a0 : Nat) (a1 : Int32) (a2 : Int32) : Option (Mem × Int32) :=
  gd (oB shC a0 10) <| bd (gR M a0 1) fun r2 => gd (oB shC r2 4) <| bd (f_X4_hasPlace M r2 a1) fun v4 => if v4 = 0 then some (M, (-2)) else bd (f_X4_hasMinute M r2 a2) fun v5 => if v5 = 0 then some (M, (-2)) else bd (f_X10_toldHour M a0) fun u6 => gd (oB shC u6.2 3) <| bd (gR u6.1 u6.2 0) fun r8 => f_X10_round_39 FU u6.1 (a0) (a1) (a2) (r8) (a2) (0)
theorem t_s_X10_round_39 {X : Cx} {res : Mem × Int32} {k39 : Mem → Nat → Int32 → Int32 → Nat → Int32 → Int32 → Option (Mem × Int32)} (hX : OkX X cX10_round RX10 6 139) (hn : Fit X shC nC) (hR : RetI X shC nC .int res) (hk39 : ∀ M x0 x1 x2 x3 x4 x5, k39 M x0 x1 x2 x3 x4 x5 = some res → GoN X shC nC 0 0 M 39 [some (.ref (X.B + x0)), some (.int (x1)), some (.int (x2)), some (.ref (X.B + x3)), some (.int (x4)), some (.int (x5)), none] []) (M : Mem) (x0 : Nat) (x1 : Int32) (x2 : Int32) (x3 : Nat) (x4 : Int32) (x5 : Int32) (hf : s_X10_round_39 k39 M x0 x1 x2 x3 x4 x5 = some res) : GoN X shC nC 0 0 M 39 [some (.ref (X.B + x0)), some (.int (x1)), some (.int (x2)), some (.ref (X.B + x3)), some (.int (x4)), some (.int (x5)), none] [] := by
  refine r_iload hX e_X10_round_39 rfl ?_
  refine r_aload_n (i := 0) hX e_X10_round_41 rfl rfl ?_
  obtain ⟨g1, hf⟩ := gd_s hf
  obtain ⟨r2, hr2, hf⟩ := bd_s hf
  refine r_getR hX hn e_X10_round_42 fl_10_19 rfl g1 hr2 ?_
  obtain ⟨g3, hf⟩ := gd_s hf
  refine r_getI hX hn e_X10_round_45 fl_10_267 rfl g3 ?_
  refine r_icmp_ge hX e_X10_round_48 (fun hc => ?_) (fun hc => ?_)
  · have hf := ite_t hf hc
    refine r_iload hX e_X10_round_124 rfl ?_
    exact r_iret hX hR e_X10_round_126 hf
  · have hf := ite_f hf hc
    refine r_aload_n (i := 0) hX e_X10_round_51 rfl rfl ?_
    refine r_getR hX hn e_X10_round_52 fl_10_19 rfl g1 hr2 ?_
    obtain ⟨r4, hr4, hf⟩ := bd_s hf
    refine r_getR hX hn e_X10_round_55 fl_10_121 rfl g3 hr4 ?_
    refine r_iload hX e_X10_round_58 rfl ?_
    obtain ⟨g5, hf⟩ := gd_s hf
    obtain ⟨r6, hr6, hf⟩ := bd_s hf
    refine r_aald hX hn e_X10_round_60 g5 (Nat.le_of_ble_eq_true rfl) rfl rfl rfl hr6 ?_
    obtain ⟨g7, hf⟩ := gd_s hf
    refine r_getI hX hn e_X10_round_61 fl_10_125 rfl g7 ?_
    refine r_istore hX e_X10_round_64 (Nat.le_of_ble_eq_true rfl) rfl ?_
    refine r_iload hX e_X10_round_66 rfl ?_
    refine r_iload_n (i := 1) hX e_X10_round_68 rfl rfl ?_
    refine r_icmp_ne hX e_X10_round_69 (fun hc => ?_) (fun hc => ?_)
    · have hf := ite_f hf hc
      refine r_aload_n (i := 0) hX e_X10_round_75 rfl rfl ?_
      obtain ⟨r8, hr8, hf⟩ := bd_s hf
      refine r_getR hX hn e_X10_round_76 fl_10_61 rfl g1 hr8 ?_
      refine r_aload_n (i := 0) hX e_X10_round_79 rfl rfl ?_
      refine r_getR hX hn e_X10_round_80 fl_10_19 rfl g1 hr2 ?_
      refine r_aload_n (i := 3) hX e_X10_round_83 rfl rfl ?_
      refine r_iload_n (i := 1) hX e_X10_round_84 rfl rfl ?_
      refine r_iload hX e_X10_round_85 rfl ?_
      refine r_iload_n (i := 2) hX e_X10_round_87 rfl rfl ?_
      obtain ⟨g9, hf⟩ := gd_s hf
      obtain ⟨u10, hu10, hf⟩ := bd_s hf
      refine r_cvv (As := fun K B => [.ref (B + r2), .ref (B + x3), .int (x1), .int ((gI M r6 0)), .int (x2)]) hX hn (t_X5_bring hu10) e_X10_round_88 cw_X5_bring cv_X5_bring lk_10_257 ⟨Nat.le_of_ble_eq_true rfl, Nat.le_of_ble_eq_true rfl⟩ (ci := 5) rfl rfl (Nat.le_of_ble_eq_true rfl) g9 rfl rfl (Nat.le_of_ble_eq_true rfl) ⟨Nat.zero_le _, Nat.zero_le _⟩ ?_
      refine r_aload_n (i := 0) hX e_X10_round_91 rfl rfl ?_
      obtain ⟨r11, hr11, hf⟩ := bd_s hf
      refine r_getR hX hn e_X10_round_92 fl_10_61 rfl g1 hr11 ?_
      obtain ⟨g12, hf⟩ := gd_s hf
      refine r_getI hX hn e_X10_round_95 fl_10_261 rfl g12 ?_
      refine r_iconst hX e_X10_round_98 ic_m1 ?_
      refine r_icmp_ne hX e_X10_round_99 (fun hc => ?_) (fun hc => ?_)
      · have hf := ite_f hf hc
        refine r_iload hX e_X10_round_104 rfl ?_
        refine r_aload_n (i := 0) hX e_X10_round_106 rfl rfl ?_
        refine r_getR hX hn e_X10_round_107 fl_10_61 rfl g1 hr11 ?_
        refine r_getI hX hn e_X10_round_110 fl_10_261 rfl g12 ?_
        obtain ⟨v13, hv13, hf⟩ := bd_s hf
        refine r_csi (As := fun K B => [.int (x4), .int ((gI u10 r11 0))]) hX hn (t_X20_max hv13) e_X10_round_113 cw_X20_max cv_X20_max lk_10_270 ⟨Nat.le_of_ble_eq_true rfl, Nat.le_of_ble_eq_true rfl⟩ rfl rfl (Nat.le_of_ble_eq_true rfl) ⟨Nat.zero_le _, Nat.zero_le _⟩ ?_
        refine r_istore hX e_X10_round_116 (Nat.le_of_ble_eq_true rfl) rfl ?_
        refine r_iinc (v := x5 + 1) hX e_X10_round_118 rfl (ii_s ic_1) (Nat.le_of_ble_eq_true rfl) rfl ?_
        refine r_goto hX e_X10_round_121 ?_
        exact GoN.weak (hk39 u10 (x0) (x1) (x2) (x3) (v13) ((x5 + 1)) hf) rfl (sb_s (sb_s (sb_s (sb_s (sb_s (sb_s (sb_n (sb_z _))))))))
      · have hf := ite_t hf hc
        refine r_iconst hX e_X10_round_102 ic_m1 ?_
        exact r_iret hX hR e_X10_round_103 hf
    · have hf := ite_t hf hc
      refine r_goto hX e_X10_round_72 ?_
      refine r_iinc (v := x5 + 1) hX e_X10_round_118 rfl (ii_s ic_1) (Nat.le_of_ble_eq_true rfl) rfl ?_
      refine r_goto hX e_X10_round_121 ?_
      exact GoN.weak (hk39 M (x0) (x1) (x2) (x3) (x4) ((x5 + 1)) hf) rfl (sb_s (sb_s (sb_s (sb_s (sb_s (sb_s (sb_n (sb_z _))))))))
theorem t_X10_round_39 {X : Cx} {res : Mem × Int32}  (hX : OkX X cX10_round RX10 6 139) (hn : Fit X shC nC) (hR : RetI X shC nC .int res)  : ∀ (n : Nat) (M : Mem) (x0 : Nat) (x1 : Int32) (x2 : Int32) (x3 : Nat) (x4 : Int32) (x5 : Int32),  f_X10_round_39  n M x0 x1 x2 x3 x4 x5 = some res → GoN X shC nC 0 0 M 39 [some (.ref (X.B + x0)), some (.int (x1)), some (.int (x2)), some (.ref (X.B + x3)), some (.int (x4)), some (.int (x5)), none] [] := by
  intro n
  induction n with
  | zero => intro M x0 x1 x2 x3 x4 x5 hf; cases hf
  | succ n ih => intro M x0 x1 x2 x3 x4 x5 hf; exact t_s_X10_round_39 hX hn hR  ih M x0 x1 x2 x3 x4 x5 hf
theorem t_X10_round {l : Launch} {M : Mem} {a0 : Nat} {a1 a2 : Int32} {res : Mem × Int32} (hf : f_X10_round M a0 a1 a2 = some res) : Ci l yX10_round cX10_round 7 (some .int) 6 139 shC nC (fun K B => [.ref (B + a0), .int a1, .int a2]) M res := by
  refine met_i (own := RX10) (lo := fun K B => [some (.ref (B + a0)), some (.int a1), some (.int a2), none, none, none, none]) (by decide +kernel) rfl shC_ok (fun _ _ => rfl) (fun _ _ => rfl) (fun _ _ => Nat.le_of_ble_eq_true rfl) (fun X hX hn hlx hR => ?_)
  refine r_aload_n (i := 0) hX e_X10_round_0 rfl rfl ?_
  obtain ⟨g1, hf⟩ := gd_s hf
  obtain ⟨r2, hr2, hf⟩ := bd_s hf
  refine r_getR hX hn e_X10_round_1 fl_10_19 rfl g1 hr2 ?_
  refine r_iload_n (i := 1) hX e_X10_round_4 rfl rfl ?_
  obtain ⟨g3, hf⟩ := gd_s hf
  obtain ⟨v4, hv4, hf⟩ := bd_s hf
  refine r_cvi (As := fun K B => [.int (a1)]) hX hn (t_X4_hasPlace hv4) e_X10_round_5 cw_X4_hasPlace cv_X4_hasPlace lk_10_163 ⟨Nat.le_of_ble_eq_true rfl, Nat.le_of_ble_eq_true rfl⟩ (ci := 4) rfl rfl (Nat.le_of_ble_eq_true rfl) g3 rfl rfl (Nat.le_of_ble_eq_true rfl) ⟨Nat.zero_le _, Nat.zero_le _⟩ ?_
  refine r_if_eq hX e_X10_round_8 (fun hc => ?_) (fun hc => ?_)
  · have hf := ite_t hf hc
    refine r_bipush hX e_X10_round_22 bc_m2 ?_
    exact r_iret hX hR e_X10_round_24 hf
  · have hf := ite_f hf hc
    refine r_aload_n (i := 0) hX e_X10_round_11 rfl rfl ?_
    refine r_getR hX hn e_X10_round_12 fl_10_19 rfl g1 hr2 ?_
    refine r_iload_n (i := 2) hX e_X10_round_15 rfl rfl ?_
    obtain ⟨v5, hv5, hf⟩ := bd_s hf
    refine r_cvi (As := fun K B => [.int (a2)]) hX hn (t_X4_hasMinute hv5) e_X10_round_16 cw_X4_hasMinute cv_X4_hasMinute lk_10_147 ⟨Nat.le_of_ble_eq_true rfl, Nat.le_of_ble_eq_true rfl⟩ (ci := 4) rfl rfl (Nat.le_of_ble_eq_true rfl) g3 rfl rfl (Nat.le_of_ble_eq_true rfl) ⟨Nat.zero_le _, Nat.zero_le _⟩ ?_
    refine r_if_ne hX e_X10_round_19 (fun hc => ?_) (fun hc => ?_)
    · have hf := ite_f hf hc
      refine r_aload_n (i := 0) hX e_X10_round_25 rfl rfl ?_
      obtain ⟨u6, hu6, hf⟩ := bd_s hf
      refine r_cvr (As := fun K B => []) hX hn (t_X10_toldHour hu6) e_X10_round_26 cw_X10_toldHour cv_X10_toldHour lk_10_150 ⟨Nat.le_of_ble_eq_true rfl, Nat.le_of_ble_eq_true rfl⟩ (ci := 10) rfl rfl (Nat.le_of_ble_eq_true rfl) g1 rfl rfl (Nat.le_of_ble_eq_true rfl) ⟨Nat.zero_le _, Nat.zero_le _⟩ ?_
      obtain ⟨g7, hf⟩ := gd_s hf
      obtain ⟨r8, hr8, hf⟩ := bd_s hf
      refine r_getR hX hn e_X10_round_29 fl_10_154 rfl g7 hr8 ?_
      refine r_astore_n (i := 3) hX e_X10_round_32 rfl (Nat.le_of_ble_eq_true rfl) rfl ?_
      refine r_iload_n (i := 2) hX e_X10_round_33 rfl rfl ?_
      refine r_istore hX e_X10_round_34 (Nat.le_of_ble_eq_true rfl) rfl ?_
      refine r_iconst hX e_X10_round_36 ic_0 ?_
      refine r_istore hX e_X10_round_37 (Nat.le_of_ble_eq_true rfl) rfl ?_
      exact GoN.weak (t_X10_round_39 hX hn hR FU u6.1 (a0) (a1) (a2) (r8) (a2) (0) hf) rfl (sb_s (sb_s (sb_s (sb_s (sb_s (sb_s (sb_n (sb_z _))))))))
    · have hf := ite_t hf hc
      refine r_bipush hX e_X10_round_22 bc_m2 ?_
      exact r_iret hX hR e_X10_round_24 hf
def f_X10_trialMarket (M : Mem) (a0 : Nat) : Option (Mem × Nat) :=
  gd (oB shC a0 10) <| bd (gR M a0 2) fun r2 => bd (gR M a0 1) fun r3 => gd (oB shC r2 4) <| bd (f_X4_take M r2 r3) fun u5 => bd (gR u5 a0 2) fun r6 => some (u5, r6)
theorem t_X10_trialMarket {l : Launch} {M : Mem} {a0 : Nat} {res : Mem × Nat} (hf : f_X10_trialMarket M a0 = some res) : Cr l yX10_trialMarket cX10_trialMarket 1 (some (.object "TurningMarket$Market")) 3 69 shC nC (fun K B => [.ref (B + a0)]) M res := by
  refine met_r (own := RX10) (lo := fun K B => [some (.ref (B + a0))]) (by decide +kernel) rfl shC_ok (fun _ _ => rfl) (fun _ _ => rfl) (fun _ _ => Nat.le_of_ble_eq_true rfl) (fun X hX hn hlx hR => ?_)
  refine r_aload_n (i := 0) hX e_X10_trialMarket_0 rfl rfl ?_
  obtain ⟨g1, hf⟩ := gd_s hf
  obtain ⟨r2, hr2, hf⟩ := bd_s hf
  refine r_getR hX hn e_X10_trialMarket_1 fl_10_23 rfl g1 hr2 ?_
  refine r_aload_n (i := 0) hX e_X10_trialMarket_4 rfl rfl ?_
  obtain ⟨r3, hr3, hf⟩ := bd_s hf
  refine r_getR hX hn e_X10_trialMarket_5 fl_10_19 rfl g1 hr3 ?_
  obtain ⟨g4, hf⟩ := gd_s hf
  obtain ⟨u5, hu5, hf⟩ := bd_s hf
  refine r_cvv (As := fun K B => [.ref (B + r3)]) hX hn (t_X4_take hu5) e_X10_trialMarket_8 cw_X4_take cv_X4_take lk_10_343 ⟨Nat.le_of_ble_eq_true rfl, Nat.le_of_ble_eq_true rfl⟩ (ci := 4) rfl rfl (Nat.le_of_ble_eq_true rfl) g4 rfl rfl (Nat.le_of_ble_eq_true rfl) ⟨Nat.zero_le _, Nat.zero_le _⟩ ?_
  refine r_aload_n (i := 0) hX e_X10_trialMarket_11 rfl rfl ?_
  obtain ⟨r6, hr6, hf⟩ := bd_s hf
  refine r_getR hX hn e_X10_trialMarket_12 fl_10_23 rfl g1 hr6 ?_
  exact r_aret hX hR e_X10_trialMarket_15 hf
def f_X10_trialHour (M : Mem) (a0 : Nat) (a1 : Nat) : Option (Mem × Nat) :=
  gd (oB shC a0 10) <| bd (gR M a0 6) fun r2 => gd (oB shC r2 3) <| bd (f_X3_play M r2 a1) fun u4 => nx (sI u4 a0 7 0) fun M5 => bd (gR M5 a0 6) fun r6 => some (M5, r6)
theorem t_X10_trialHour {l : Launch} {M : Mem} {a0 a1 : Nat} {res : Mem × Nat} (hf : f_X10_trialHour M a0 a1 = some res) : Cr l yX10_trialHour cX10_trialHour 2 (some (.object "TurningMarket$Hour")) 5 119 shC nC (fun K B => [.ref (B + a0), .ref (B + a1)]) M res := by
  refine met_r (own := RX10) (lo := fun K B => [some (.ref (B + a0)), some (.ref (B + a1))]) (by decide +kernel) rfl shC_ok (fun _ _ => rfl) (fun _ _ => rfl) (fun _ _ => Nat.le_of_ble_eq_true rfl) (fun X hX hn hlx hR => ?_)
  refine r_aload_n (i := 0) hX e_X10_trialHour_0 rfl rfl ?_
  obtain ⟨g1, hf⟩ := gd_s hf
  obtain ⟨r2, hr2, hf⟩ := bd_s hf
  refine r_getR hX hn e_X10_trialHour_1 fl_10_43 rfl g1 hr2 ?_
  refine r_aload_n (i := 1) hX e_X10_trialHour_4 rfl rfl ?_
  obtain ⟨g3, hf⟩ := gd_s hf
  obtain ⟨u4, hu4, hf⟩ := bd_s hf
  refine r_cvv (As := fun K B => [.ref (B + a1)]) hX hn (t_X3_play hu4) e_X10_trialHour_5 cw_X3_play cv_X3_play lk_10_368 ⟨Nat.le_of_ble_eq_true rfl, Nat.le_of_ble_eq_true rfl⟩ (ci := 3) rfl rfl (Nat.le_of_ble_eq_true rfl) g3 rfl rfl (Nat.le_of_ble_eq_true rfl) ⟨Nat.zero_le _, Nat.zero_le _⟩ ?_
  refine r_aload_n (i := 0) hX e_X10_trialHour_8 rfl rfl ?_
  refine r_iconst hX e_X10_trialHour_9 ic_0 ?_
  obtain ⟨M5, hM5, hf⟩ := nx_s hf
  refine r_putZ hX hn hM5 rfl e_X10_trialHour_10 fl_10_47 fp_10_7 rfl g1 ?_
  refine r_aload_n (i := 0) hX e_X10_trialHour_13 rfl rfl ?_
  obtain ⟨r6, hr6, hf⟩ := bd_s hf
  refine r_getR hX hn e_X10_trialHour_14 fl_10_43 rfl g1 hr6 ?_
  exact r_aret hX hR e_X10_trialHour_17 hf
def f_X10_salesIfSwapped (M : Mem) (a0 : Nat) (a1 : Int32) (a2 : Int32) : Option (Mem × Int32) :=
  gd (oB shC a0 10) <| bd (f_X10_trialMarket M a0) fun u2 => gd (oB shC u2.2 4) <| bd (gR u2.1 u2.2 8) fun r4 => gd (aB shC r4 6 a1) <| bd (gR u2.1 r4 (a1 : Int32).toNatClampNeg) fun r6 => bd (gR u2.1 a0 1) fun r7 => gd (oB shC r7 4) <| bd (gR u2.1 r7 8) fun r9 => gd (aB shC r9 6 a2) <| bd (gR u2.1 r9 (a2 : Int32).toNatClampNeg) fun r11 => gd (oB shC r11 1) <| gd (oB shC r6 1) <| nx (sI u2.1 r6 0 (gI u2.1 r11 0)) fun M14 => gd (aB shC r4 6 a2) <| bd (gR M14 r4 (a2 : Int32).toNatClampNeg) fun r16 => gd (aB shC r9 6 a1) <| bd (gR M14 r9 (a1 : Int32).toNatClampNeg) fun r18 => gd (oB shC r18 1) <| gd (oB shC r16 1) <| nx (sI M14 r16 0 (gI M14 r18 0)) fun M21 => bd (f_X10_trialHour M21 a0 u2.2) fun u22 => gd (oB shC u22.2 3) <| some (u22.1, (gI u22.1 u22.2 4))
theorem t_X10_salesIfSwapped {l : Launch} {M : Mem} {a0 : Nat} {a1 a2 : Int32} {res : Mem × Int32} (hf : f_X10_salesIfSwapped M a0 a1 a2 = some res) : Ci l yX10_salesIfSwapped cX10_salesIfSwapped 4 (some .int) 6 140 shC nC (fun K B => [.ref (B + a0), .int a1, .int a2]) M res := by
  refine met_i (own := RX10) (lo := fun K B => [some (.ref (B + a0)), some (.int a1), some (.int a2), none]) (by decide +kernel) rfl shC_ok (fun _ _ => rfl) (fun _ _ => rfl) (fun _ _ => Nat.le_of_ble_eq_true rfl) (fun X hX hn hlx hR => ?_)
  refine r_aload_n (i := 0) hX e_X10_salesIfSwapped_0 rfl rfl ?_
  obtain ⟨g1, hf⟩ := gd_s hf
  obtain ⟨u2, hu2, hf⟩ := bd_s hf
  refine r_cvr (As := fun K B => []) hX hn (t_X10_trialMarket hu2) e_X10_salesIfSwapped_1 cw_X10_trialMarket cv_X10_trialMarket lk_10_279 ⟨Nat.le_of_ble_eq_true rfl, Nat.le_of_ble_eq_true rfl⟩ (ci := 10) rfl rfl (Nat.le_of_ble_eq_true rfl) g1 rfl rfl (Nat.le_of_ble_eq_true rfl) ⟨Nat.zero_le _, Nat.zero_le _⟩ ?_
  refine r_astore_n (i := 3) hX e_X10_salesIfSwapped_4 rfl (Nat.le_of_ble_eq_true rfl) rfl ?_
  refine r_aload_n (i := 3) hX e_X10_salesIfSwapped_5 rfl rfl ?_
  obtain ⟨g3, hf⟩ := gd_s hf
  obtain ⟨r4, hr4, hf⟩ := bd_s hf
  refine r_getR hX hn e_X10_salesIfSwapped_6 fl_10_121 rfl g3 hr4 ?_
  refine r_iload_n (i := 1) hX e_X10_salesIfSwapped_9 rfl rfl ?_
  obtain ⟨g5, hf⟩ := gd_s hf
  obtain ⟨r6, hr6, hf⟩ := bd_s hf
  refine r_aald hX hn e_X10_salesIfSwapped_10 g5 (Nat.le_of_ble_eq_true rfl) rfl rfl rfl hr6 ?_
  refine r_aload_n (i := 0) hX e_X10_salesIfSwapped_11 rfl rfl ?_
  obtain ⟨r7, hr7, hf⟩ := bd_s hf
  refine r_getR hX hn e_X10_salesIfSwapped_12 fl_10_19 rfl g1 hr7 ?_
  obtain ⟨g8, hf⟩ := gd_s hf
  obtain ⟨r9, hr9, hf⟩ := bd_s hf
  refine r_getR hX hn e_X10_salesIfSwapped_15 fl_10_121 rfl g8 hr9 ?_
  refine r_iload_n (i := 2) hX e_X10_salesIfSwapped_18 rfl rfl ?_
  obtain ⟨g10, hf⟩ := gd_s hf
  obtain ⟨r11, hr11, hf⟩ := bd_s hf
  refine r_aald hX hn e_X10_salesIfSwapped_19 g10 (Nat.le_of_ble_eq_true rfl) rfl rfl rfl hr11 ?_
  obtain ⟨g12, hf⟩ := gd_s hf
  refine r_getI hX hn e_X10_salesIfSwapped_20 fl_10_125 rfl g12 ?_
  obtain ⟨g13, hf⟩ := gd_s hf
  obtain ⟨M14, hM14, hf⟩ := nx_s hf
  refine r_putI hX hn hM14 e_X10_salesIfSwapped_23 fl_10_125 fp_1_0 rfl g13 ?_
  refine r_aload_n (i := 3) hX e_X10_salesIfSwapped_26 rfl rfl ?_
  refine r_getR hX hn e_X10_salesIfSwapped_27 fl_10_121 rfl g3 (gR_kI hM14 hr4) ?_
  refine r_iload_n (i := 2) hX e_X10_salesIfSwapped_30 rfl rfl ?_
  obtain ⟨g15, hf⟩ := gd_s hf
  obtain ⟨r16, hr16, hf⟩ := bd_s hf
  refine r_aald hX hn e_X10_salesIfSwapped_31 g15 (Nat.le_of_ble_eq_true rfl) rfl rfl rfl hr16 ?_
  refine r_aload_n (i := 0) hX e_X10_salesIfSwapped_32 rfl rfl ?_
  refine r_getR hX hn e_X10_salesIfSwapped_33 fl_10_19 rfl g1 (gR_kI hM14 hr7) ?_
  refine r_getR hX hn e_X10_salesIfSwapped_36 fl_10_121 rfl g8 (gR_kI hM14 hr9) ?_
  refine r_iload_n (i := 1) hX e_X10_salesIfSwapped_39 rfl rfl ?_
  obtain ⟨g17, hf⟩ := gd_s hf
  obtain ⟨r18, hr18, hf⟩ := bd_s hf
  refine r_aald hX hn e_X10_salesIfSwapped_40 g17 (Nat.le_of_ble_eq_true rfl) rfl rfl rfl hr18 ?_
  obtain ⟨g19, hf⟩ := gd_s hf
  refine r_getI hX hn e_X10_salesIfSwapped_41 fl_10_125 rfl g19 ?_
  obtain ⟨g20, hf⟩ := gd_s hf
  obtain ⟨M21, hM21, hf⟩ := nx_s hf
  refine r_putI hX hn hM21 e_X10_salesIfSwapped_44 fl_10_125 fp_1_0 rfl g20 ?_
  refine r_aload_n (i := 0) hX e_X10_salesIfSwapped_47 rfl rfl ?_
  refine r_aload_n (i := 3) hX e_X10_salesIfSwapped_48 rfl rfl ?_
  obtain ⟨u22, hu22, hf⟩ := bd_s hf
  refine r_cvr (As := fun K B => [.ref (B + u2.2)]) hX hn (t_X10_trialHour hu22) e_X10_salesIfSwapped_49 cw_X10_trialHour cv_X10_trialHour lk_10_283 ⟨Nat.le_of_ble_eq_true rfl, Nat.le_of_ble_eq_true rfl⟩ (ci := 10) rfl rfl (Nat.le_of_ble_eq_true rfl) g1 rfl rfl (Nat.le_of_ble_eq_true rfl) ⟨Nat.zero_le _, Nat.zero_le _⟩ ?_
  obtain ⟨g23, hf⟩ := gd_s hf
  refine r_getI hX hn e_X10_salesIfSwapped_52 fl_10_214 rfl g23 ?_
  exact r_iret hX hR e_X10_salesIfSwapped_55 hf
def s_X10_swap_53 (k35 : Mem → Nat → Int32 → Int32 → Int32 → Int32 → Option (Mem × Int32)) (k53 : Mem → Nat → Int32 → Int32 → Int32 → Int32 → Int32 → Option (Mem × Int32)) (M : Mem) (x0 : Nat) (x1 : Int32) (x2 : Int32) (x3 : Int32) (x4 : Int32) (x5 : Int32) : Option (Mem × Int32) :=
  gd (oB shC x0 10) <| bd (gR M x0 1) fun r2 => gd (oB shC r2 4) <| if (gI M r2 5) ≤ x5 then k35 M (x0) (x1) (x2) (x3) ((x4 + 1)) else bd (f_X10_salesIfSwapped M x0 x4 x5) fun u4 => if u4.2 ≤ x2 then k53 u4.1 (x0) (x1) (x2) (x3) (x4) ((x5 + 1)) else k53 u4.1 (x0) (x1) (u4.2) (((10 * x4) + x5)) (x4) ((x5 + 1))
def f_X10_swap_53 (k35 : Mem → Nat → Int32 → Int32 → Int32 → Int32 → Option (Mem × Int32)) : Nat → Mem → Nat → Int32 → Int32 → Int32 → Int32 → Int32 → Option (Mem × Int32)
  | 0 => fun _ _ _ _ _ _ _ => none
  | n + 1 => fun y0 y1 y2 y3 y4 y5 y6 => s_X10_swap_53 k35 (f_X10_swap_53 k35 n) y0 y1 y2 y3 y4 y5 y6
def s_X10_swap_35 (k35 : Mem → Nat → Int32 → Int32 → Int32 → Int32 → Option (Mem × Int32)) (M : Mem) (x0 : Nat) (x1 : Int32) (x2 : Int32) (x3 : Int32) (x4 : Int32) : Option (Mem × Int32) :=
  gd (oB shC x0 10) <| bd (gR M x0 1) fun r2 => gd (oB shC r2 4) <| if (gI M r2 5) ≤ x4 then if x1 = 0 then some (M, x2) else some (M, x3) else f_X10_swap_53 k35 FU M (x0) (x1) (x2) (x3) (x4) ((x4 + 1))
def f_X10_swap_35  : Nat → Mem → Nat → Int32 → Int32 → Int32 → Int32 → Option (Mem × Int32)
  | 0 => fun _ _ _ _ _ _ => none
  | n + 1 => fun y0 y1 y2 y3 y4 y5 => s_X10_swap_35  (f_X10_swap_35  n) y0 y1 y2 y3 y4 y5
def f_X10_swap (M : Mem) (a0 : Nat) (a1 : Int32) : Option (Mem × Int32) :=
  gd (oB shC a0 10) <| bd (gR M a0 1) fun r2 => gd (oB shC r2 4) <| bd (f_X4_isTold M r2) fun v4 => if v4 = 0 then some (M, (-2)) else if a1 < 0 then some (M, (-2)) else if a1 ≤ 1 then bd (f_X10_toldHour M a0) fun u5 => gd (oB shC u5.2 3) <| f_X10_swap_35 FU u5.1 (a0) (a1) ((gI u5.1 u5.2 4)) ((-1)) (0) else some (M, (-2))
theorem t_s_X10_swap_53 {X : Cx} {res : Mem × Int32} {k35 : Mem → Nat → Int32 → Int32 → Int32 → Int32 → Option (Mem × Int32)} {k53 : Mem → Nat → Int32 → Int32 → Int32 → Int32 → Int32 → Option (Mem × Int32)} (hX : OkX X cX10_swap RX10 7 163) (hn : Fit X shC nC) (hR : RetI X shC nC .int res) (hk35 : ∀ M x0 x1 x2 x3 x4, k35 M x0 x1 x2 x3 x4 = some res → GoN X shC nC 0 0 M 35 [some (.ref (X.B + x0)), some (.int (x1)), some (.int (x2)), some (.int (x3)), some (.int (x4)), none, none] []) (hk53 : ∀ M x0 x1 x2 x3 x4 x5, k53 M x0 x1 x2 x3 x4 x5 = some res → GoN X shC nC 0 0 M 53 [some (.ref (X.B + x0)), some (.int (x1)), some (.int (x2)), some (.int (x3)), some (.int (x4)), some (.int (x5)), none] []) (M : Mem) (x0 : Nat) (x1 : Int32) (x2 : Int32) (x3 : Int32) (x4 : Int32) (x5 : Int32) (hf : s_X10_swap_53 k35 k53 M x0 x1 x2 x3 x4 x5 = some res) : GoN X shC nC 0 0 M 53 [some (.ref (X.B + x0)), some (.int (x1)), some (.int (x2)), some (.int (x3)), some (.int (x4)), some (.int (x5)), none] [] := by
  refine r_iload hX e_X10_swap_53 rfl ?_
  refine r_aload_n (i := 0) hX e_X10_swap_55 rfl rfl ?_
  obtain ⟨g1, hf⟩ := gd_s hf
  obtain ⟨r2, hr2, hf⟩ := bd_s hf
  refine r_getR hX hn e_X10_swap_56 fl_10_19 rfl g1 hr2 ?_
  obtain ⟨g3, hf⟩ := gd_s hf
  refine r_getI hX hn e_X10_swap_59 fl_10_267 rfl g3 ?_
  refine r_icmp_ge hX e_X10_swap_62 (fun hc => ?_) (fun hc => ?_)
  · have hf := ite_t hf hc
    refine r_iinc (v := x4 + 1) hX e_X10_swap_99 rfl (ii_s ic_1) (Nat.le_of_ble_eq_true rfl) rfl ?_
    refine r_goto hX e_X10_swap_102 ?_
    exact GoN.weak (hk35 M (x0) (x1) (x2) (x3) ((x4 + 1)) hf) rfl (sb_s (sb_s (sb_s (sb_s (sb_s (sb_n (sb_n (sb_z _))))))))
  · have hf := ite_f hf hc
    refine r_aload_n (i := 0) hX e_X10_swap_65 rfl rfl ?_
    refine r_iload hX e_X10_swap_66 rfl ?_
    refine r_iload hX e_X10_swap_68 rfl ?_
    obtain ⟨u4, hu4, hf⟩ := bd_s hf
    refine r_cvi (As := fun K B => [.int (x4), .int (x5)]) hX hn (t_X10_salesIfSwapped hu4) e_X10_swap_70 cw_X10_salesIfSwapped cv_X10_salesIfSwapped lk_10_276 ⟨Nat.le_of_ble_eq_true rfl, Nat.le_of_ble_eq_true rfl⟩ (ci := 10) rfl rfl (Nat.le_of_ble_eq_true rfl) g1 rfl rfl (Nat.le_of_ble_eq_true rfl) ⟨Nat.zero_le _, Nat.zero_le _⟩ ?_
    refine r_istore hX e_X10_swap_73 (Nat.le_of_ble_eq_true rfl) rfl ?_
    refine r_iload hX e_X10_swap_75 rfl ?_
    refine r_iload_n (i := 2) hX e_X10_swap_77 rfl rfl ?_
    refine r_icmp_le hX e_X10_swap_78 (fun hc => ?_) (fun hc => ?_)
    · have hf := ite_t hf hc
      refine r_iinc (v := x5 + 1) hX e_X10_swap_93 rfl (ii_s ic_1) (Nat.le_of_ble_eq_true rfl) rfl ?_
      refine r_goto hX e_X10_swap_96 ?_
      exact GoN.weak (hk53 u4.1 (x0) (x1) (x2) (x3) (x4) ((x5 + 1)) hf) rfl (sb_s (sb_s (sb_s (sb_s (sb_s (sb_s (sb_n (sb_z _))))))))
    · have hf := ite_f hf hc
      refine r_iload hX e_X10_swap_81 rfl ?_
      refine r_istore_n (i := 2) hX e_X10_swap_83 rfl (Nat.le_of_ble_eq_true rfl) rfl ?_
      refine r_bipush hX e_X10_swap_84 bc_10 ?_
      refine r_iload hX e_X10_swap_86 rfl ?_
      refine r_imul hX e_X10_swap_88 ?_
      refine r_iload hX e_X10_swap_89 rfl ?_
      refine r_iadd hX e_X10_swap_91 ?_
      refine r_istore_n (i := 3) hX e_X10_swap_92 rfl (Nat.le_of_ble_eq_true rfl) rfl ?_
      refine r_iinc (v := x5 + 1) hX e_X10_swap_93 rfl (ii_s ic_1) (Nat.le_of_ble_eq_true rfl) rfl ?_
      refine r_goto hX e_X10_swap_96 ?_
      exact GoN.weak (hk53 u4.1 (x0) (x1) (u4.2) (((10 * x4) + x5)) (x4) ((x5 + 1)) hf) rfl (sb_s (sb_s (sb_s (sb_s (sb_s (sb_s (sb_n (sb_z _))))))))
theorem t_X10_swap_53 {X : Cx} {res : Mem × Int32} {k35 : Mem → Nat → Int32 → Int32 → Int32 → Int32 → Option (Mem × Int32)} (hX : OkX X cX10_swap RX10 7 163) (hn : Fit X shC nC) (hR : RetI X shC nC .int res) (hk35 : ∀ M x0 x1 x2 x3 x4, k35 M x0 x1 x2 x3 x4 = some res → GoN X shC nC 0 0 M 35 [some (.ref (X.B + x0)), some (.int (x1)), some (.int (x2)), some (.int (x3)), some (.int (x4)), none, none] []) : ∀ (n : Nat) (M : Mem) (x0 : Nat) (x1 : Int32) (x2 : Int32) (x3 : Int32) (x4 : Int32) (x5 : Int32),  f_X10_swap_53 k35 n M x0 x1 x2 x3 x4 x5 = some res → GoN X shC nC 0 0 M 53 [some (.ref (X.B + x0)), some (.int (x1)), some (.int (x2)), some (.int (x3)), some (.int (x4)), some (.int (x5)), none] [] := by
  intro n
  induction n with
  | zero => intro M x0 x1 x2 x3 x4 x5 hf; cases hf
  | succ n ih => intro M x0 x1 x2 x3 x4 x5 hf; exact t_s_X10_swap_53 hX hn hR hk35 ih M x0 x1 x2 x3 x4 x5 hf
theorem t_s_X10_swap_35 {X : Cx} {res : Mem × Int32} {k35 : Mem → Nat → Int32 → Int32 → Int32 → Int32 → Option (Mem × Int32)} (hX : OkX X cX10_swap RX10 7 163) (hn : Fit X shC nC) (hR : RetI X shC nC .int res) (hk35 : ∀ M x0 x1 x2 x3 x4, k35 M x0 x1 x2 x3 x4 = some res → GoN X shC nC 0 0 M 35 [some (.ref (X.B + x0)), some (.int (x1)), some (.int (x2)), some (.int (x3)), some (.int (x4)), none, none] []) (M : Mem) (x0 : Nat) (x1 : Int32) (x2 : Int32) (x3 : Int32) (x4 : Int32) (hf : s_X10_swap_35 k35 M x0 x1 x2 x3 x4 = some res) : GoN X shC nC 0 0 M 35 [some (.ref (X.B + x0)), some (.int (x1)), some (.int (x2)), some (.int (x3)), some (.int (x4)), none, none] [] := by
  refine r_iload hX e_X10_swap_35 rfl ?_
  refine r_aload_n (i := 0) hX e_X10_swap_37 rfl rfl ?_
  obtain ⟨g1, hf⟩ := gd_s hf
  obtain ⟨r2, hr2, hf⟩ := bd_s hf
  refine r_getR hX hn e_X10_swap_38 fl_10_19 rfl g1 hr2 ?_
  obtain ⟨g3, hf⟩ := gd_s hf
  refine r_getI hX hn e_X10_swap_41 fl_10_267 rfl g3 ?_
  refine r_icmp_ge hX e_X10_swap_44 (fun hc => ?_) (fun hc => ?_)
  · have hf := ite_t hf hc
    refine r_iload_n (i := 1) hX e_X10_swap_105 rfl rfl ?_
    refine r_if_ne hX e_X10_swap_106 (fun hc => ?_) (fun hc => ?_)
    · have hf := ite_f hf hc
      refine r_iload_n (i := 3) hX e_X10_swap_113 rfl rfl ?_
      exact r_iret hX hR e_X10_swap_114 hf
    · have hf := ite_t hf hc
      refine r_iload_n (i := 2) hX e_X10_swap_109 rfl rfl ?_
      refine r_goto hX e_X10_swap_110 ?_
      exact r_iret hX hR e_X10_swap_114 hf
  · have hf := ite_f hf hc
    refine r_iload hX e_X10_swap_47 rfl ?_
    refine r_iconst hX e_X10_swap_49 ic_1 ?_
    refine r_iadd hX e_X10_swap_50 ?_
    refine r_istore hX e_X10_swap_51 (Nat.le_of_ble_eq_true rfl) rfl ?_
    exact GoN.weak (t_X10_swap_53 hX hn hR hk35 FU M (x0) (x1) (x2) (x3) (x4) ((x4 + 1)) hf) rfl (sb_s (sb_s (sb_s (sb_s (sb_s (sb_s (sb_n (sb_z _))))))))
theorem t_X10_swap_35 {X : Cx} {res : Mem × Int32}  (hX : OkX X cX10_swap RX10 7 163) (hn : Fit X shC nC) (hR : RetI X shC nC .int res)  : ∀ (n : Nat) (M : Mem) (x0 : Nat) (x1 : Int32) (x2 : Int32) (x3 : Int32) (x4 : Int32),  f_X10_swap_35  n M x0 x1 x2 x3 x4 = some res → GoN X shC nC 0 0 M 35 [some (.ref (X.B + x0)), some (.int (x1)), some (.int (x2)), some (.int (x3)), some (.int (x4)), none, none] [] := by
  intro n
  induction n with
  | zero => intro M x0 x1 x2 x3 x4 hf; cases hf
  | succ n ih => intro M x0 x1 x2 x3 x4 hf; exact t_s_X10_swap_35 hX hn hR  ih M x0 x1 x2 x3 x4 hf
theorem t_X10_swap {l : Launch} {M : Mem} {a0 : Nat} {a1 : Int32} {res : Mem × Int32} (hf : f_X10_swap M a0 a1 = some res) : Ci l yX10_swap cX10_swap 7 (some .int) 7 163 shC nC (fun K B => [.ref (B + a0), .int a1]) M res := by
  refine met_i (own := RX10) (lo := fun K B => [some (.ref (B + a0)), some (.int a1), none, none, none, none, none]) (by decide +kernel) rfl shC_ok (fun _ _ => rfl) (fun _ _ => rfl) (fun _ _ => Nat.le_of_ble_eq_true rfl) (fun X hX hn hlx hR => ?_)
  refine r_aload_n (i := 0) hX e_X10_swap_0 rfl rfl ?_
  obtain ⟨g1, hf⟩ := gd_s hf
  obtain ⟨r2, hr2, hf⟩ := bd_s hf
  refine r_getR hX hn e_X10_swap_1 fl_10_19 rfl g1 hr2 ?_
  obtain ⟨g3, hf⟩ := gd_s hf
  obtain ⟨v4, hv4, hf⟩ := bd_s hf
  refine r_cvi (As := fun K B => []) hX hn (t_X4_isTold hv4) e_X10_swap_4 cw_X4_isTold cv_X4_isTold lk_10_210 ⟨Nat.le_of_ble_eq_true rfl, Nat.le_of_ble_eq_true rfl⟩ (ci := 4) rfl rfl (Nat.le_of_ble_eq_true rfl) g3 rfl rfl (Nat.le_of_ble_eq_true rfl) ⟨Nat.zero_le _, Nat.zero_le _⟩ ?_
  refine r_if_eq hX e_X10_swap_7 (fun hc => ?_) (fun hc => ?_)
  · have hf := ite_t hf hc
    refine r_bipush hX e_X10_swap_19 bc_m2 ?_
    exact r_iret hX hR e_X10_swap_21 hf
  · have hf := ite_f hf hc
    refine r_iload_n (i := 1) hX e_X10_swap_10 rfl rfl ?_
    refine r_if_lt hX e_X10_swap_11 (fun hc => ?_) (fun hc => ?_)
    · have hf := ite_t hf hc
      refine r_bipush hX e_X10_swap_19 bc_m2 ?_
      exact r_iret hX hR e_X10_swap_21 hf
    · have hf := ite_f hf hc
      refine r_iload_n (i := 1) hX e_X10_swap_14 rfl rfl ?_
      refine r_iconst hX e_X10_swap_15 ic_1 ?_
      refine r_icmp_le hX e_X10_swap_16 (fun hc => ?_) (fun hc => ?_)
      · have hf := ite_t hf hc
        refine r_aload_n (i := 0) hX e_X10_swap_22 rfl rfl ?_
        obtain ⟨u5, hu5, hf⟩ := bd_s hf
        refine r_cvr (As := fun K B => []) hX hn (t_X10_toldHour hu5) e_X10_swap_23 cw_X10_toldHour cv_X10_toldHour lk_10_150 ⟨Nat.le_of_ble_eq_true rfl, Nat.le_of_ble_eq_true rfl⟩ (ci := 10) rfl rfl (Nat.le_of_ble_eq_true rfl) g1 rfl rfl (Nat.le_of_ble_eq_true rfl) ⟨Nat.zero_le _, Nat.zero_le _⟩ ?_
        obtain ⟨g6, hf⟩ := gd_s hf
        refine r_getI hX hn e_X10_swap_26 fl_10_214 rfl g6 ?_
        refine r_istore_n (i := 2) hX e_X10_swap_29 rfl (Nat.le_of_ble_eq_true rfl) rfl ?_
        refine r_iconst hX e_X10_swap_30 ic_m1 ?_
        refine r_istore_n (i := 3) hX e_X10_swap_31 rfl (Nat.le_of_ble_eq_true rfl) rfl ?_
        refine r_iconst hX e_X10_swap_32 ic_0 ?_
        refine r_istore hX e_X10_swap_33 (Nat.le_of_ble_eq_true rfl) rfl ?_
        exact GoN.weak (t_X10_swap_35 hX hn hR FU u5.1 (a0) (a1) ((gI u5.1 u5.2 4)) ((-1)) (0) hf) rfl (sb_s (sb_s (sb_s (sb_s (sb_s (sb_n (sb_n (sb_z _))))))))
      · have hf := ite_f hf hc
        refine r_bipush hX e_X10_swap_19 bc_m2 ?_
        exact r_iret hX hR e_X10_swap_21 hf
def f_X10_moves (M : Mem) (a0 : Nat) (a1 : Int32) (a2 : Int32) : Option (Mem × Int32) :=
  gd (oB shC a0 10) <| bd (gR M a0 1) fun r2 => gd (oB shC r2 4) <| bd (f_X4_hasBuyer M r2 a1) fun v4 => if v4 = 0 then some (M, (-2)) else bd (f_X4_hasPlace M r2 a2) fun v5 => if v5 = 0 then some (M, (-2)) else bd (gR M r2 8) fun r6 => gd (aB shC r6 6 a1) <| bd (gR M r6 (a1 : Int32).toNatClampNeg) fun r8 => gd (oB shC r8 1) <| nx (sI M r8 0 a2) fun M10 => nx (sI M10 a0 7 0) fun M11 => some (M11, (gI M r8 0))
theorem t_X10_moves {l : Launch} {M : Mem} {a0 : Nat} {a1 a2 : Int32} {res : Mem × Int32} (hf : f_X10_moves M a0 a1 a2 = some res) : Ci l yX10_moves cX10_moves 4 (some .int) 1 21 shC nC (fun K B => [.ref (B + a0), .int a1, .int a2]) M res := by
  refine met_i (own := RX10) (lo := fun K B => [some (.ref (B + a0)), some (.int a1), some (.int a2), none]) (by decide +kernel) rfl shC_ok (fun _ _ => rfl) (fun _ _ => rfl) (fun _ _ => Nat.le_of_ble_eq_true rfl) (fun X hX hn hlx hR => ?_)
  refine r_aload_n (i := 0) hX e_X10_moves_0 rfl rfl ?_
  obtain ⟨g1, hf⟩ := gd_s hf
  obtain ⟨r2, hr2, hf⟩ := bd_s hf
  refine r_getR hX hn e_X10_moves_1 fl_10_19 rfl g1 hr2 ?_
  refine r_iload_n (i := 1) hX e_X10_moves_4 rfl rfl ?_
  obtain ⟨g3, hf⟩ := gd_s hf
  obtain ⟨v4, hv4, hf⟩ := bd_s hf
  refine r_cvi (As := fun K B => [.int (a1)]) hX hn (t_X4_hasBuyer hv4) e_X10_moves_5 cw_X4_hasBuyer cv_X4_hasBuyer lk_10_118 ⟨Nat.le_of_ble_eq_true rfl, Nat.le_of_ble_eq_true rfl⟩ (ci := 4) rfl rfl (Nat.le_of_ble_eq_true rfl) g3 rfl rfl (Nat.le_of_ble_eq_true rfl) ⟨Nat.zero_le _, Nat.zero_le _⟩ ?_
  refine r_if_eq hX e_X10_moves_8 (fun hc => ?_) (fun hc => ?_)
  · have hf := ite_t hf hc
    refine r_bipush hX e_X10_moves_22 bc_m2 ?_
    exact r_iret hX hR e_X10_moves_24 hf
  · have hf := ite_f hf hc
    refine r_aload_n (i := 0) hX e_X10_moves_11 rfl rfl ?_
    refine r_getR hX hn e_X10_moves_12 fl_10_19 rfl g1 hr2 ?_
    refine r_iload_n (i := 2) hX e_X10_moves_15 rfl rfl ?_
    obtain ⟨v5, hv5, hf⟩ := bd_s hf
    refine r_cvi (As := fun K B => [.int (a2)]) hX hn (t_X4_hasPlace hv5) e_X10_moves_16 cw_X4_hasPlace cv_X4_hasPlace lk_10_163 ⟨Nat.le_of_ble_eq_true rfl, Nat.le_of_ble_eq_true rfl⟩ (ci := 4) rfl rfl (Nat.le_of_ble_eq_true rfl) g3 rfl rfl (Nat.le_of_ble_eq_true rfl) ⟨Nat.zero_le _, Nat.zero_le _⟩ ?_
    refine r_if_ne hX e_X10_moves_19 (fun hc => ?_) (fun hc => ?_)
    · have hf := ite_f hf hc
      refine r_aload_n (i := 0) hX e_X10_moves_25 rfl rfl ?_
      refine r_getR hX hn e_X10_moves_26 fl_10_19 rfl g1 hr2 ?_
      obtain ⟨r6, hr6, hf⟩ := bd_s hf
      refine r_getR hX hn e_X10_moves_29 fl_10_121 rfl g3 hr6 ?_
      refine r_iload_n (i := 1) hX e_X10_moves_32 rfl rfl ?_
      obtain ⟨g7, hf⟩ := gd_s hf
      obtain ⟨r8, hr8, hf⟩ := bd_s hf
      refine r_aald hX hn e_X10_moves_33 g7 (Nat.le_of_ble_eq_true rfl) rfl rfl rfl hr8 ?_
      obtain ⟨g9, hf⟩ := gd_s hf
      refine r_getI hX hn e_X10_moves_34 fl_10_125 rfl g9 ?_
      refine r_istore_n (i := 3) hX e_X10_moves_37 rfl (Nat.le_of_ble_eq_true rfl) rfl ?_
      refine r_aload_n (i := 0) hX e_X10_moves_38 rfl rfl ?_
      refine r_getR hX hn e_X10_moves_39 fl_10_19 rfl g1 hr2 ?_
      refine r_getR hX hn e_X10_moves_42 fl_10_121 rfl g3 hr6 ?_
      refine r_iload_n (i := 1) hX e_X10_moves_45 rfl rfl ?_
      refine r_aald hX hn e_X10_moves_46 g7 (Nat.le_of_ble_eq_true rfl) rfl rfl rfl hr8 ?_
      refine r_iload_n (i := 2) hX e_X10_moves_47 rfl rfl ?_
      obtain ⟨M10, hM10, hf⟩ := nx_s hf
      refine r_putI hX hn hM10 e_X10_moves_48 fl_10_125 fp_1_0 rfl g9 ?_
      refine r_aload_n (i := 0) hX e_X10_moves_51 rfl rfl ?_
      refine r_iconst hX e_X10_moves_52 ic_0 ?_
      obtain ⟨M11, hM11, hf⟩ := nx_s hf
      refine r_putZ hX hn hM11 rfl e_X10_moves_53 fl_10_47 fp_10_7 rfl g1 ?_
      refine r_iload_n (i := 3) hX e_X10_moves_56 rfl rfl ?_
      exact r_iret hX hR e_X10_moves_57 hf
    · have hf := ite_t hf hc
      refine r_bipush hX e_X10_moves_22 bc_m2 ?_
      exact r_iret hX hR e_X10_moves_24 hf
def f_X10_offer (M : Mem) (a0 : Nat) (a1 : Int32) (a2 : Int32) : Option (Mem × Int32) :=
  gd (oB shC a0 10) <| bd (gR M a0 1) fun r2 => gd (oB shC r2 4) <| bd (f_X4_hasStall M r2 a1) fun v4 => if v4 = 0 then some (M, (-2)) else if a2 < 0 then some (M, (-2)) else if a2 ≤ 99 then bd (gR M r2 7) fun r5 => gd (aB shC r5 5 a1) <| bd (gR M r5 (a1 : Int32).toNatClampNeg) fun r7 => gd (oB shC r7 9) <| nx (sI M r7 4 a2) fun M9 => nx (sI M9 a0 7 0) fun M10 => some (M10, (gI M r7 4)) else some (M, (-2))
theorem t_X10_offer {l : Launch} {M : Mem} {a0 : Nat} {a1 a2 : Int32} {res : Mem × Int32} (hf : f_X10_offer M a0 a1 a2 = some res) : Ci l yX10_offer cX10_offer 4 (some .int) 1 21 shC nC (fun K B => [.ref (B + a0), .int a1, .int a2]) M res := by
  refine met_i (own := RX10) (lo := fun K B => [some (.ref (B + a0)), some (.int a1), some (.int a2), none]) (by decide +kernel) rfl shC_ok (fun _ _ => rfl) (fun _ _ => rfl) (fun _ _ => Nat.le_of_ble_eq_true rfl) (fun X hX hn hlx hR => ?_)
  refine r_aload_n (i := 0) hX e_X10_offer_0 rfl rfl ?_
  obtain ⟨g1, hf⟩ := gd_s hf
  obtain ⟨r2, hr2, hf⟩ := bd_s hf
  refine r_getR hX hn e_X10_offer_1 fl_10_19 rfl g1 hr2 ?_
  refine r_iload_n (i := 1) hX e_X10_offer_4 rfl rfl ?_
  obtain ⟨g3, hf⟩ := gd_s hf
  obtain ⟨v4, hv4, hf⟩ := bd_s hf
  refine r_cvi (As := fun K B => [.int (a1)]) hX hn (t_X4_hasStall hv4) e_X10_offer_5 cw_X4_hasStall cv_X4_hasStall lk_10_87 ⟨Nat.le_of_ble_eq_true rfl, Nat.le_of_ble_eq_true rfl⟩ (ci := 4) rfl rfl (Nat.le_of_ble_eq_true rfl) g3 rfl rfl (Nat.le_of_ble_eq_true rfl) ⟨Nat.zero_le _, Nat.zero_le _⟩ ?_
  refine r_if_eq hX e_X10_offer_8 (fun hc => ?_) (fun hc => ?_)
  · have hf := ite_t hf hc
    refine r_bipush hX e_X10_offer_21 bc_m2 ?_
    exact r_iret hX hR e_X10_offer_23 hf
  · have hf := ite_f hf hc
    refine r_iload_n (i := 2) hX e_X10_offer_11 rfl rfl ?_
    refine r_if_lt hX e_X10_offer_12 (fun hc => ?_) (fun hc => ?_)
    · have hf := ite_t hf hc
      refine r_bipush hX e_X10_offer_21 bc_m2 ?_
      exact r_iret hX hR e_X10_offer_23 hf
    · have hf := ite_f hf hc
      refine r_iload_n (i := 2) hX e_X10_offer_15 rfl rfl ?_
      refine r_bipush hX e_X10_offer_16 bc_99 ?_
      refine r_icmp_le hX e_X10_offer_18 (fun hc => ?_) (fun hc => ?_)
      · have hf := ite_t hf hc
        refine r_aload_n (i := 0) hX e_X10_offer_24 rfl rfl ?_
        refine r_getR hX hn e_X10_offer_25 fl_10_19 rfl g1 hr2 ?_
        obtain ⟨r5, hr5, hf⟩ := bd_s hf
        refine r_getR hX hn e_X10_offer_28 fl_10_91 rfl g3 hr5 ?_
        refine r_iload_n (i := 1) hX e_X10_offer_31 rfl rfl ?_
        obtain ⟨g6, hf⟩ := gd_s hf
        obtain ⟨r7, hr7, hf⟩ := bd_s hf
        refine r_aald hX hn e_X10_offer_32 g6 (Nat.le_of_ble_eq_true rfl) rfl rfl rfl hr7 ?_
        obtain ⟨g8, hf⟩ := gd_s hf
        refine r_getI hX hn e_X10_offer_33 fl_10_109 rfl g8 ?_
        refine r_istore_n (i := 3) hX e_X10_offer_36 rfl (Nat.le_of_ble_eq_true rfl) rfl ?_
        refine r_aload_n (i := 0) hX e_X10_offer_37 rfl rfl ?_
        refine r_getR hX hn e_X10_offer_38 fl_10_19 rfl g1 hr2 ?_
        refine r_getR hX hn e_X10_offer_41 fl_10_91 rfl g3 hr5 ?_
        refine r_iload_n (i := 1) hX e_X10_offer_44 rfl rfl ?_
        refine r_aald hX hn e_X10_offer_45 g6 (Nat.le_of_ble_eq_true rfl) rfl rfl rfl hr7 ?_
        refine r_iload_n (i := 2) hX e_X10_offer_46 rfl rfl ?_
        obtain ⟨M9, hM9, hf⟩ := nx_s hf
        refine r_putI hX hn hM9 e_X10_offer_47 fl_10_109 fp_9_4 rfl g8 ?_
        refine r_aload_n (i := 0) hX e_X10_offer_50 rfl rfl ?_
        refine r_iconst hX e_X10_offer_51 ic_0 ?_
        obtain ⟨M10, hM10, hf⟩ := nx_s hf
        refine r_putZ hX hn hM10 rfl e_X10_offer_52 fl_10_47 fp_10_7 rfl g1 ?_
        refine r_iload_n (i := 3) hX e_X10_offer_55 rfl rfl ?_
        exact r_iret hX hR e_X10_offer_56 hf
      · have hf := ite_f hf hc
        refine r_bipush hX e_X10_offer_21 bc_m2 ?_
        exact r_iret hX hR e_X10_offer_23 hf
def s_X10_wise_27 (k27 : Mem → Nat → Int32 → Nat → Int32 → Int32 → Int32 → Option (Mem × Int32)) (M : Mem) (x0 : Nat) (x1 : Int32) (x2 : Nat) (x3 : Int32) (x4 : Int32) (x5 : Int32) : Option (Mem × Int32) :=
  if 99 < x5 then some (M, x4) else gd (oB shC x2 4) <| bd (gR M x2 7) fun r2 => gd (aB shC r2 5 x1) <| bd (gR M r2 (x1 : Int32).toNatClampNeg) fun r4 => gd (oB shC r4 9) <| nx (sI M r4 4 x5) fun M6 => gd (oB shC x0 10) <| bd (f_X10_trialHour M6 x0 x2) fun u8 => gd (oB shC u8.2 3) <| bd (f_X3_takenAt u8.1 u8.2 x1) fun v10 => if v10 ≤ x3 then k27 u8.1 (x0) (x1) (x2) (x3) (x4) ((x5 + 1)) else k27 u8.1 (x0) (x1) (x2) (v10) (x5) ((x5 + 1))
def f_X10_wise_27  : Nat → Mem → Nat → Int32 → Nat → Int32 → Int32 → Int32 → Option (Mem × Int32)
  | 0 => fun _ _ _ _ _ _ _ => none
  | n + 1 => fun y0 y1 y2 y3 y4 y5 y6 => s_X10_wise_27  (f_X10_wise_27  n) y0 y1 y2 y3 y4 y5 y6
def f_X10_wise (M : Mem) (a0 : Nat) (a1 : Int32) : Option (Mem × Int32) :=
  gd (oB shC a0 10) <| bd (gR M a0 1) fun r2 => gd (oB shC r2 4) <| bd (f_X4_hasStall M r2 a1) fun v4 => if v4 = 0 then some (M, (-2)) else bd (f_X10_trialMarket M a0) fun u5 => f_X10_wise_27 FU u5.1 (a0) (a1) (u5.2) ((-1)) (0) (0)
theorem t_s_X10_wise_27 {X : Cx} {res : Mem × Int32} {k27 : Mem → Nat → Int32 → Nat → Int32 → Int32 → Int32 → Option (Mem × Int32)} (hX : OkX X cX10_wise RX10 6 140) (hn : Fit X shC nC) (hR : RetI X shC nC .int res) (hk27 : ∀ M x0 x1 x2 x3 x4 x5, k27 M x0 x1 x2 x3 x4 x5 = some res → GoN X shC nC 0 0 M 27 [some (.ref (X.B + x0)), some (.int (x1)), some (.ref (X.B + x2)), some (.int (x3)), some (.int (x4)), some (.int (x5)), none] []) (M : Mem) (x0 : Nat) (x1 : Int32) (x2 : Nat) (x3 : Int32) (x4 : Int32) (x5 : Int32) (hf : s_X10_wise_27 k27 M x0 x1 x2 x3 x4 x5 = some res) : GoN X shC nC 0 0 M 27 [some (.ref (X.B + x0)), some (.int (x1)), some (.ref (X.B + x2)), some (.int (x3)), some (.int (x4)), some (.int (x5)), none] [] := by
  refine r_iload hX e_X10_wise_27 rfl ?_
  refine r_bipush hX e_X10_wise_29 bc_99 ?_
  refine r_icmp_gt hX e_X10_wise_31 (fun hc => ?_) (fun hc => ?_)
  · have hf := ite_t hf hc
    refine r_iload hX e_X10_wise_75 rfl ?_
    exact r_iret hX hR e_X10_wise_77 hf
  · have hf := ite_f hf hc
    refine r_aload_n (i := 2) hX e_X10_wise_34 rfl rfl ?_
    obtain ⟨g1, hf⟩ := gd_s hf
    obtain ⟨r2, hr2, hf⟩ := bd_s hf
    refine r_getR hX hn e_X10_wise_35 fl_10_91 rfl g1 hr2 ?_
    refine r_iload_n (i := 1) hX e_X10_wise_38 rfl rfl ?_
    obtain ⟨g3, hf⟩ := gd_s hf
    obtain ⟨r4, hr4, hf⟩ := bd_s hf
    refine r_aald hX hn e_X10_wise_39 g3 (Nat.le_of_ble_eq_true rfl) rfl rfl rfl hr4 ?_
    refine r_iload hX e_X10_wise_40 rfl ?_
    obtain ⟨g5, hf⟩ := gd_s hf
    obtain ⟨M6, hM6, hf⟩ := nx_s hf
    refine r_putI hX hn hM6 e_X10_wise_42 fl_10_109 fp_9_4 rfl g5 ?_
    refine r_aload_n (i := 0) hX e_X10_wise_45 rfl rfl ?_
    refine r_aload_n (i := 2) hX e_X10_wise_46 rfl rfl ?_
    obtain ⟨g7, hf⟩ := gd_s hf
    obtain ⟨u8, hu8, hf⟩ := bd_s hf
    refine r_cvr (As := fun K B => [.ref (B + x2)]) hX hn (t_X10_trialHour hu8) e_X10_wise_47 cw_X10_trialHour cv_X10_trialHour lk_10_283 ⟨Nat.le_of_ble_eq_true rfl, Nat.le_of_ble_eq_true rfl⟩ (ci := 10) rfl rfl (Nat.le_of_ble_eq_true rfl) g7 rfl rfl (Nat.le_of_ble_eq_true rfl) ⟨Nat.zero_le _, Nat.zero_le _⟩ ?_
    refine r_iload_n (i := 1) hX e_X10_wise_50 rfl rfl ?_
    obtain ⟨g9, hf⟩ := gd_s hf
    obtain ⟨v10, hv10, hf⟩ := bd_s hf
    refine r_cvi (As := fun K B => [.int (x1)]) hX hn (t_X3_takenAt hv10) e_X10_wise_51 cw_X3_takenAt cv_X3_takenAt lk_10_189 ⟨Nat.le_of_ble_eq_true rfl, Nat.le_of_ble_eq_true rfl⟩ (ci := 3) rfl rfl (Nat.le_of_ble_eq_true rfl) g9 rfl rfl (Nat.le_of_ble_eq_true rfl) ⟨Nat.zero_le _, Nat.zero_le _⟩ ?_
    refine r_istore hX e_X10_wise_54 (Nat.le_of_ble_eq_true rfl) rfl ?_
    refine r_iload hX e_X10_wise_56 rfl ?_
    refine r_iload_n (i := 3) hX e_X10_wise_58 rfl rfl ?_
    refine r_icmp_le hX e_X10_wise_59 (fun hc => ?_) (fun hc => ?_)
    · have hf := ite_t hf hc
      refine r_iinc (v := x5 + 1) hX e_X10_wise_69 rfl (ii_s ic_1) (Nat.le_of_ble_eq_true rfl) rfl ?_
      refine r_goto hX e_X10_wise_72 ?_
      exact GoN.weak (hk27 u8.1 (x0) (x1) (x2) (x3) (x4) ((x5 + 1)) hf) rfl (sb_s (sb_s (sb_s (sb_s (sb_s (sb_s (sb_n (sb_z _))))))))
    · have hf := ite_f hf hc
      refine r_iload hX e_X10_wise_62 rfl ?_
      refine r_istore_n (i := 3) hX e_X10_wise_64 rfl (Nat.le_of_ble_eq_true rfl) rfl ?_
      refine r_iload hX e_X10_wise_65 rfl ?_
      refine r_istore hX e_X10_wise_67 (Nat.le_of_ble_eq_true rfl) rfl ?_
      refine r_iinc (v := x5 + 1) hX e_X10_wise_69 rfl (ii_s ic_1) (Nat.le_of_ble_eq_true rfl) rfl ?_
      refine r_goto hX e_X10_wise_72 ?_
      exact GoN.weak (hk27 u8.1 (x0) (x1) (x2) (v10) (x5) ((x5 + 1)) hf) rfl (sb_s (sb_s (sb_s (sb_s (sb_s (sb_s (sb_n (sb_z _))))))))
theorem t_X10_wise_27 {X : Cx} {res : Mem × Int32}  (hX : OkX X cX10_wise RX10 6 140) (hn : Fit X shC nC) (hR : RetI X shC nC .int res)  : ∀ (n : Nat) (M : Mem) (x0 : Nat) (x1 : Int32) (x2 : Nat) (x3 : Int32) (x4 : Int32) (x5 : Int32),  f_X10_wise_27  n M x0 x1 x2 x3 x4 x5 = some res → GoN X shC nC 0 0 M 27 [some (.ref (X.B + x0)), some (.int (x1)), some (.ref (X.B + x2)), some (.int (x3)), some (.int (x4)), some (.int (x5)), none] [] := by
  intro n
  induction n with
  | zero => intro M x0 x1 x2 x3 x4 x5 hf; cases hf
  | succ n ih => intro M x0 x1 x2 x3 x4 x5 hf; exact t_s_X10_wise_27 hX hn hR  ih M x0 x1 x2 x3 x4 x5 hf
theorem t_X10_wise {l : Launch} {M : Mem} {a0 : Nat} {a1 : Int32} {res : Mem × Int32} (hf : f_X10_wise M a0 a1 = some res) : Ci l yX10_wise cX10_wise 7 (some .int) 6 140 shC nC (fun K B => [.ref (B + a0), .int a1]) M res := by
  refine met_i (own := RX10) (lo := fun K B => [some (.ref (B + a0)), some (.int a1), none, none, none, none, none]) (by decide +kernel) rfl shC_ok (fun _ _ => rfl) (fun _ _ => rfl) (fun _ _ => Nat.le_of_ble_eq_true rfl) (fun X hX hn hlx hR => ?_)
  refine r_aload_n (i := 0) hX e_X10_wise_0 rfl rfl ?_
  obtain ⟨g1, hf⟩ := gd_s hf
  obtain ⟨r2, hr2, hf⟩ := bd_s hf
  refine r_getR hX hn e_X10_wise_1 fl_10_19 rfl g1 hr2 ?_
  refine r_iload_n (i := 1) hX e_X10_wise_4 rfl rfl ?_
  obtain ⟨g3, hf⟩ := gd_s hf
  obtain ⟨v4, hv4, hf⟩ := bd_s hf
  refine r_cvi (As := fun K B => [.int (a1)]) hX hn (t_X4_hasStall hv4) e_X10_wise_5 cw_X4_hasStall cv_X4_hasStall lk_10_87 ⟨Nat.le_of_ble_eq_true rfl, Nat.le_of_ble_eq_true rfl⟩ (ci := 4) rfl rfl (Nat.le_of_ble_eq_true rfl) g3 rfl rfl (Nat.le_of_ble_eq_true rfl) ⟨Nat.zero_le _, Nat.zero_le _⟩ ?_
  refine r_if_ne hX e_X10_wise_8 (fun hc => ?_) (fun hc => ?_)
  · have hf := ite_f hf hc
    refine r_aload_n (i := 0) hX e_X10_wise_14 rfl rfl ?_
    obtain ⟨u5, hu5, hf⟩ := bd_s hf
    refine r_cvr (As := fun K B => []) hX hn (t_X10_trialMarket hu5) e_X10_wise_15 cw_X10_trialMarket cv_X10_trialMarket lk_10_279 ⟨Nat.le_of_ble_eq_true rfl, Nat.le_of_ble_eq_true rfl⟩ (ci := 10) rfl rfl (Nat.le_of_ble_eq_true rfl) g1 rfl rfl (Nat.le_of_ble_eq_true rfl) ⟨Nat.zero_le _, Nat.zero_le _⟩ ?_
    refine r_astore_n (i := 2) hX e_X10_wise_18 rfl (Nat.le_of_ble_eq_true rfl) rfl ?_
    refine r_iconst hX e_X10_wise_19 ic_m1 ?_
    refine r_istore_n (i := 3) hX e_X10_wise_20 rfl (Nat.le_of_ble_eq_true rfl) rfl ?_
    refine r_iconst hX e_X10_wise_21 ic_0 ?_
    refine r_istore hX e_X10_wise_22 (Nat.le_of_ble_eq_true rfl) rfl ?_
    refine r_iconst hX e_X10_wise_24 ic_0 ?_
    refine r_istore hX e_X10_wise_25 (Nat.le_of_ble_eq_true rfl) rfl ?_
    exact GoN.weak (t_X10_wise_27 hX hn hR FU u5.1 (a0) (a1) (u5.2) ((-1)) (0) (0) hf) rfl (sb_s (sb_s (sb_s (sb_s (sb_s (sb_s (sb_n (sb_z _))))))))
  · have hf := ite_t hf hc
    refine r_bipush hX e_X10_wise_11 bc_m2 ?_
    exact r_iret hX hR e_X10_wise_13 hf
def f_X10_isSlot (M : Mem) (a0 : Int32) : Option (Int32) :=
  if a0 < 0 then some 0 else if 4 ≤ a0 then some 0 else some 1
theorem t_X10_isSlot {l : Launch} {M : Mem} {a0 : Int32} {res : Int32} (hf : f_X10_isSlot M a0 = some res) : Ci l yX10_isSlot cX10_isSlot 1 (some .boolean) 0 0 shC nC (fun K B => [.int a0]) M (M, res) := by
  refine met_i (own := RX10) (lo := fun K B => [some (.int a0)]) (by decide +kernel) rfl shC_ok (fun _ _ => rfl) (fun _ _ => rfl) (fun _ _ => Nat.le_of_ble_eq_true rfl) (fun X hX hn hlx hR => ?_)
  refine r_iload_n (i := 0) hX e_X10_isSlot_0 rfl rfl ?_
  refine r_if_lt hX e_X10_isSlot_1 (fun hc => ?_) (fun hc => ?_)
  · have hf := ite_t hf hc
    refine r_iconst hX e_X10_isSlot_13 ic_0 ?_
    exact r_zret hX hR rfl e_X10_isSlot_14 (ro_s hf)
  · have hf := ite_f hf hc
    refine r_iload_n (i := 0) hX e_X10_isSlot_4 rfl rfl ?_
    refine r_iconst hX e_X10_isSlot_5 ic_4 ?_
    refine r_icmp_ge hX e_X10_isSlot_6 (fun hc => ?_) (fun hc => ?_)
    · have hf := ite_t hf hc
      refine r_iconst hX e_X10_isSlot_13 ic_0 ?_
      exact r_zret hX hR rfl e_X10_isSlot_14 (ro_s hf)
    · have hf := ite_f hf hc
      refine r_iconst hX e_X10_isSlot_9 ic_1 ?_
      refine r_goto hX e_X10_isSlot_10 ?_
      exact r_zret hX hR rfl e_X10_isSlot_14 (ro_s hf)
def f_X10_thefts_78 (k17 : Mem → Nat → Nat → Int32 → Nat → Int32 → Int32 → Int32 → Int32 → Option (Mem × Int32)) (M : Mem) (x0 : Nat) (x1 : Nat) (x2 : Int32) (x3 : Nat) (x4 : Int32) (x6 : Int32) (x7 : Int32) (x8 : Int32) (s0 : Int32) : Option (Mem × Int32) :=
  k17 M (x0) (x1) (x2) (x3) (x4) (s0) ((x6 + x8)) ((x7 + 1))
def s_X10_thefts_17 (k17 : Mem → Nat → Nat → Int32 → Nat → Int32 → Int32 → Int32 → Int32 → Option (Mem × Int32)) (M : Mem) (x0 : Nat) (x1 : Nat) (x2 : Int32) (x3 : Nat) (x4 : Int32) (x5 : Int32) (x6 : Int32) (x7 : Int32) : Option (Mem × Int32) :=
  gd (oB shC x0 10) <| bd (gR M x0 1) fun r2 => gd (oB shC r2 4) <| if (gI M r2 4) ≤ x7 then if x2 = 0 then some (M, x4) else if x2 = 1 then some (M, x5) else some (M, x6) else gd (oB shC x3 3) <| bd (gR M x3 2) fun r5 => gd (aB shC r5 9 x7) <| bd (gR M r5 (x7 : Int32).toNatClampNeg) fun r7 => gd (aB shC r7 0 ((gI M r2 1) - 1)) <| nx ((gI M r7 (((gI M r2 1) - 1) : Int32).toNatClampNeg)) fun v9 => gd (oB shC x1 8) <| bd (gR M x1 3) fun r11 => gd (aB shC r11 1 x7) <| nx (((gL M r11 (x7 : Int32).toNatClampNeg) : Int64).toInt32) fun v13 => if (v9 - v13) ≤ 0 then k17 M (x0) (x1) (x2) (x3) (x4) (x5) (x6) ((x7 + 1)) else if x5 = (-1) then f_X10_thefts_78 k17 M (x0) (x1) (x2) (x3) ((x4 + 1)) (x6) (x7) ((v9 - v13)) (x7) else f_X10_thefts_78 k17 M (x0) (x1) (x2) (x3) ((x4 + 1)) (x6) (x7) ((v9 - v13)) (x5)
def f_X10_thefts_17  : Nat → Mem → Nat → Nat → Int32 → Nat → Int32 → Int32 → Int32 → Int32 → Option (Mem × Int32)
  | 0 => fun _ _ _ _ _ _ _ _ _ => none
  | n + 1 => fun y0 y1 y2 y3 y4 y5 y6 y7 y8 => s_X10_thefts_17  (f_X10_thefts_17  n) y0 y1 y2 y3 y4 y5 y6 y7 y8
def f_X10_thefts (M : Mem) (a0 : Nat) (a1 : Nat) (a2 : Int32) : Option (Mem × Int32) :=
  gd (oB shC a0 10) <| bd (f_X10_toldHour M a0) fun u2 => f_X10_thefts_17 FU u2.1 (a0) (a1) (a2) (u2.2) (0) ((-1)) (0) (0)
theorem t_X10_thefts_78 {X : Cx} {res : Mem × Int32} {k17 : Mem → Nat → Nat → Int32 → Nat → Int32 → Int32 → Int32 → Int32 → Option (Mem × Int32)} (hX : OkX X cX10_thefts RX10 6 139) (hn : Fit X shC nC) (hR : RetI X shC nC .int res) (hk17 : ∀ M x0 x1 x2 x3 x4 x5 x6 x7, k17 M x0 x1 x2 x3 x4 x5 x6 x7 = some res → GoN X shC nC 0 0 M 17 [some (.ref (X.B + x0)), some (.ref (X.B + x1)), some (.int (x2)), some (.ref (X.B + x3)), some (.int (x4)), some (.int (x5)), some (.int (x6)), some (.int (x7)), none] []) (M : Mem) (x0 : Nat) (x1 : Nat) (x2 : Int32) (x3 : Nat) (x4 : Int32) (x6 : Int32) (x7 : Int32) (x8 : Int32) (s0 : Int32) (hf : f_X10_thefts_78 k17 M x0 x1 x2 x3 x4 x6 x7 x8 s0 = some res) : GoN X shC nC 0 0 M 78 [some (.ref (X.B + x0)), some (.ref (X.B + x1)), some (.int (x2)), some (.ref (X.B + x3)), some (.int (x4)), none, some (.int (x6)), some (.int (x7)), some (.int (x8))] [.int (s0)] := by
  refine r_istore hX e_X10_thefts_78 (Nat.le_of_ble_eq_true rfl) rfl ?_
  refine r_iload hX e_X10_thefts_80 rfl ?_
  refine r_iload hX e_X10_thefts_82 rfl ?_
  refine r_iadd hX e_X10_thefts_84 ?_
  refine r_istore hX e_X10_thefts_85 (Nat.le_of_ble_eq_true rfl) rfl ?_
  refine r_iinc (v := x7 + 1) hX e_X10_thefts_87 rfl (ii_s ic_1) (Nat.le_of_ble_eq_true rfl) rfl ?_
  refine r_goto hX e_X10_thefts_90 ?_
  exact GoN.weak (hk17 M (x0) (x1) (x2) (x3) (x4) (s0) ((x6 + x8)) ((x7 + 1)) hf) rfl (sb_s (sb_s (sb_s (sb_s (sb_s (sb_s (sb_s (sb_s (sb_n (sb_z _))))))))))
theorem t_s_X10_thefts_17 {X : Cx} {res : Mem × Int32} {k17 : Mem → Nat → Nat → Int32 → Nat → Int32 → Int32 → Int32 → Int32 → Option (Mem × Int32)} (hX : OkX X cX10_thefts RX10 6 139) (hn : Fit X shC nC) (hR : RetI X shC nC .int res) (hk17 : ∀ M x0 x1 x2 x3 x4 x5 x6 x7, k17 M x0 x1 x2 x3 x4 x5 x6 x7 = some res → GoN X shC nC 0 0 M 17 [some (.ref (X.B + x0)), some (.ref (X.B + x1)), some (.int (x2)), some (.ref (X.B + x3)), some (.int (x4)), some (.int (x5)), some (.int (x6)), some (.int (x7)), none] []) (M : Mem) (x0 : Nat) (x1 : Nat) (x2 : Int32) (x3 : Nat) (x4 : Int32) (x5 : Int32) (x6 : Int32) (x7 : Int32) (hf : s_X10_thefts_17 k17 M x0 x1 x2 x3 x4 x5 x6 x7 = some res) : GoN X shC nC 0 0 M 17 [some (.ref (X.B + x0)), some (.ref (X.B + x1)), some (.int (x2)), some (.ref (X.B + x3)), some (.int (x4)), some (.int (x5)), some (.int (x6)), some (.int (x7)), none] [] := by
  refine r_iload hX e_X10_thefts_17 rfl ?_
  refine r_aload_n (i := 0) hX e_X10_thefts_19 rfl rfl ?_
  obtain ⟨g1, hf⟩ := gd_s hf
  obtain ⟨r2, hr2, hf⟩ := bd_s hf
  refine r_getR hX hn e_X10_thefts_20 fl_10_19 rfl g1 hr2 ?_
  obtain ⟨g3, hf⟩ := gd_s hf
  refine r_getI hX hn e_X10_thefts_23 fl_10_172 rfl g3 ?_
  refine r_icmp_ge hX e_X10_thefts_26 (fun hc => ?_) (fun hc => ?_)
  · have hf := ite_t hf hc
    refine r_iload_n (i := 2) hX e_X10_thefts_93 rfl rfl ?_
    by_cases hs0 : x2 = 0
    · have hf := ite_t hf hs0
      refine r_lookup (tgt := 120) (off := 26) hX e_X10_thefts_94 (by decide) (by rw [hs0]; decide) (by decide) ?_
      refine r_iload hX e_X10_thefts_120 rfl ?_
      exact r_iret hX hR e_X10_thefts_122 hf
    have hf := ite_f hf hs0
    by_cases hs1 : x2 = 1
    · have hf := ite_t hf hs1
      refine r_lookup (tgt := 123) (off := 29) hX e_X10_thefts_94 (by decide) (by rw [hs1]; decide) (by decide) ?_
      refine r_iload hX e_X10_thefts_123 rfl ?_
      exact r_iret hX hR e_X10_thefts_125 hf
    have hf := ite_f hf hs1
    refine r_lookup (tgt := 126) (off := 32) hX e_X10_thefts_94 (by decide) ?_ (by decide) ?_
    · have z0 : x2.toInt ≠ 0 := i32_ne hs0 (by decide); have z1 : x2.toInt ≠ 1 := i32_ne hs1 (by decide); simp [Op.lookupswitch.offset, z0, z0.symm, z1, z1.symm]
    refine r_iload hX e_X10_thefts_126 rfl ?_
    exact r_iret hX hR e_X10_thefts_128 hf
  · have hf := ite_f hf hc
    refine r_aload_n (i := 3) hX e_X10_thefts_29 rfl rfl ?_
    obtain ⟨g4, hf⟩ := gd_s hf
    obtain ⟨r5, hr5, hf⟩ := bd_s hf
    refine r_getR hX hn e_X10_thefts_30 fl_10_182 rfl g4 hr5 ?_
    refine r_iload hX e_X10_thefts_33 rfl ?_
    obtain ⟨g6, hf⟩ := gd_s hf
    obtain ⟨r7, hr7, hf⟩ := bd_s hf
    refine r_aald hX hn e_X10_thefts_35 g6 (Nat.le_of_ble_eq_true rfl) rfl rfl rfl hr7 ?_
    refine r_aload_n (i := 0) hX e_X10_thefts_36 rfl rfl ?_
    refine r_getR hX hn e_X10_thefts_37 fl_10_19 rfl g1 hr2 ?_
    refine r_getI hX hn e_X10_thefts_40 fl_10_166 rfl g3 ?_
    refine r_iconst hX e_X10_thefts_43 ic_1 ?_
    refine r_isub hX e_X10_thefts_44 ?_
    obtain ⟨g8, hf⟩ := gd_s hf
    refine r_iald hX hn e_X10_thefts_45 g8 ?_
    obtain ⟨v9, hv9, hf⟩ := nx_s hf
    refine top_i hv9 ?_
    refine r_aload_n (i := 1) hX e_X10_thefts_46 rfl rfl ?_
    obtain ⟨g10, hf⟩ := gd_s hf
    obtain ⟨r11, hr11, hf⟩ := bd_s hf
    refine r_getR hX hn e_X10_thefts_47 fl_10_330 rfl g10 hr11 ?_
    refine r_iload hX e_X10_thefts_50 rfl ?_
    obtain ⟨g12, hf⟩ := gd_s hf
    refine r_lald hX hn e_X10_thefts_52 g12 ?_
    refine r_l2i hX e_X10_thefts_53 ?_
    obtain ⟨v13, hv13, hf⟩ := nx_s hf
    refine top_i hv13 ?_
    refine r_isub hX e_X10_thefts_54 ?_
    refine r_istore hX e_X10_thefts_55 (Nat.le_of_ble_eq_true rfl) rfl ?_
    refine r_iload hX e_X10_thefts_57 rfl ?_
    refine r_if_le hX e_X10_thefts_59 (fun hc => ?_) (fun hc => ?_)
    · have hf := ite_t hf hc
      refine r_iinc (v := x7 + 1) hX e_X10_thefts_87 rfl (ii_s ic_1) (Nat.le_of_ble_eq_true rfl) rfl ?_
      refine r_goto hX e_X10_thefts_90 ?_
      exact GoN.weak (hk17 M (x0) (x1) (x2) (x3) (x4) (x5) (x6) ((x7 + 1)) hf) rfl (sb_s (sb_s (sb_s (sb_s (sb_s (sb_s (sb_s (sb_s (sb_n (sb_z _))))))))))
    · have hf := ite_f hf hc
      refine r_iinc (v := x4 + 1) hX e_X10_thefts_62 rfl (ii_s ic_1) (Nat.le_of_ble_eq_true rfl) rfl ?_
      refine r_iload hX e_X10_thefts_65 rfl ?_
      refine r_iconst hX e_X10_thefts_67 ic_m1 ?_
      refine r_icmp_ne hX e_X10_thefts_68 (fun hc => ?_) (fun hc => ?_)
      · have hf := ite_f hf hc
        refine r_iload hX e_X10_thefts_76 rfl ?_
        exact GoN.weak (t_X10_thefts_78 hX hn hR hk17 M (x0) (x1) (x2) (x3) ((x4 + 1)) (x6) (x7) ((v9 - v13)) (x5) hf) rfl (sb_s (sb_s (sb_s (sb_s (sb_s (sb_n (sb_s (sb_s (sb_s (sb_z _))))))))))
      · have hf := ite_t hf hc
        refine r_iload hX e_X10_thefts_71 rfl ?_
        refine r_goto hX e_X10_thefts_73 ?_
        exact GoN.weak (t_X10_thefts_78 hX hn hR hk17 M (x0) (x1) (x2) (x3) ((x4 + 1)) (x6) (x7) ((v9 - v13)) (x7) hf) rfl (sb_s (sb_s (sb_s (sb_s (sb_s (sb_n (sb_s (sb_s (sb_s (sb_z _))))))))))
theorem t_X10_thefts_17 {X : Cx} {res : Mem × Int32}  (hX : OkX X cX10_thefts RX10 6 139) (hn : Fit X shC nC) (hR : RetI X shC nC .int res)  : ∀ (n : Nat) (M : Mem) (x0 : Nat) (x1 : Nat) (x2 : Int32) (x3 : Nat) (x4 : Int32) (x5 : Int32) (x6 : Int32) (x7 : Int32),  f_X10_thefts_17  n M x0 x1 x2 x3 x4 x5 x6 x7 = some res → GoN X shC nC 0 0 M 17 [some (.ref (X.B + x0)), some (.ref (X.B + x1)), some (.int (x2)), some (.ref (X.B + x3)), some (.int (x4)), some (.int (x5)), some (.int (x6)), some (.int (x7)), none] [] := by
  intro n
  induction n with
  | zero => intro M x0 x1 x2 x3 x4 x5 x6 x7 hf; cases hf
  | succ n ih => intro M x0 x1 x2 x3 x4 x5 x6 x7 hf; exact t_s_X10_thefts_17 hX hn hR  ih M x0 x1 x2 x3 x4 x5 x6 x7 hf
theorem t_X10_thefts {l : Launch} {M : Mem} {a0 a1 : Nat} {a2 : Int32} {res : Mem × Int32} (hf : f_X10_thefts M a0 a1 a2 = some res) : Ci l yX10_thefts cX10_thefts 9 (some .int) 6 139 shC nC (fun K B => [.ref (B + a0), .ref (B + a1), .int a2]) M res := by
  refine met_i (own := RX10) (lo := fun K B => [some (.ref (B + a0)), some (.ref (B + a1)), some (.int a2), none, none, none, none, none, none]) (by decide +kernel) rfl shC_ok (fun _ _ => rfl) (fun _ _ => rfl) (fun _ _ => Nat.le_of_ble_eq_true rfl) (fun X hX hn hlx hR => ?_)
  refine r_aload_n (i := 0) hX e_X10_thefts_0 rfl rfl ?_
  obtain ⟨g1, hf⟩ := gd_s hf
  obtain ⟨u2, hu2, hf⟩ := bd_s hf
  refine r_cvr (As := fun K B => []) hX hn (t_X10_toldHour hu2) e_X10_thefts_1 cw_X10_toldHour cv_X10_toldHour lk_10_150 ⟨Nat.le_of_ble_eq_true rfl, Nat.le_of_ble_eq_true rfl⟩ (ci := 10) rfl rfl (Nat.le_of_ble_eq_true rfl) g1 rfl rfl (Nat.le_of_ble_eq_true rfl) ⟨Nat.zero_le _, Nat.zero_le _⟩ ?_
  refine r_astore_n (i := 3) hX e_X10_thefts_4 rfl (Nat.le_of_ble_eq_true rfl) rfl ?_
  refine r_iconst hX e_X10_thefts_5 ic_0 ?_
  refine r_istore hX e_X10_thefts_6 (Nat.le_of_ble_eq_true rfl) rfl ?_
  refine r_iconst hX e_X10_thefts_8 ic_m1 ?_
  refine r_istore hX e_X10_thefts_9 (Nat.le_of_ble_eq_true rfl) rfl ?_
  refine r_iconst hX e_X10_thefts_11 ic_0 ?_
  refine r_istore hX e_X10_thefts_12 (Nat.le_of_ble_eq_true rfl) rfl ?_
  refine r_iconst hX e_X10_thefts_14 ic_0 ?_
  refine r_istore hX e_X10_thefts_15 (Nat.le_of_ble_eq_true rfl) rfl ?_
  exact GoN.weak (t_X10_thefts_17 hX hn hR FU u2.1 (a0) (a1) (a2) (u2.2) (0) ((-1)) (0) (0) hf) rfl (sb_s (sb_s (sb_s (sb_s (sb_s (sb_s (sb_s (sb_s (sb_n (sb_z _))))))))))
def f_X10_theft (M : Mem) (a0 : Nat) (a1 : Int32) (a2 : Int32) : Option (Mem × Int32) :=
  bd (f_X10_isSlot M a1) fun v1 => if v1 = 0 then some (M, (-2)) else if a2 < 0 then some (M, (-2)) else if 2 < a2 then some (M, (-2)) else gd (oB shC a0 10) <| bd (gR M a0 1) fun r3 => gd (oB shC r3 4) <| bd (f_X4_isTold M r3) fun v5 => if v5 = 0 then some (M, (-2)) else bd (gR M a0 5) fun r6 => gd (aB shC r6 8 a1) <| bd (gR M r6 (a1 : Int32).toNatClampNeg) fun r8 => gd (oB shC r8 8) <| if (gI M r8 0) = 0 then some (M, (-6)) else if (gI M r8 2) = (gI M r3 4) then bd (f_X8_isWithin M r8 0 20) fun v10 => if v10 = 0 then some (M, (-2)) else bd (f_X10_thefts M a0 r8 a2) fun u11 => some (u11.1, u11.2) else some (M, (-7))
theorem t_X10_theft {l : Launch} {M : Mem} {a0 : Nat} {a1 a2 : Int32} {res : Mem × Int32} (hf : f_X10_theft M a0 a1 a2 = some res) : Ci l yX10_theft cX10_theft 4 (some .int) 7 167 shC nC (fun K B => [.ref (B + a0), .int a1, .int a2]) M res := by
  refine met_i (own := RX10) (lo := fun K B => [some (.ref (B + a0)), some (.int a1), some (.int a2), none]) (by decide +kernel) rfl shC_ok (fun _ _ => rfl) (fun _ _ => rfl) (fun _ _ => Nat.le_of_ble_eq_true rfl) (fun X hX hn hlx hR => ?_)
  refine r_iload_n (i := 1) hX e_X10_theft_0 rfl rfl ?_
  obtain ⟨v1, hv1, hf⟩ := bd_s hf
  refine r_csi (As := fun K B => [.int (a1)]) hX hn (t_X10_isSlot hv1) e_X10_theft_1 cw_X10_isSlot cv_X10_isSlot lk_10_287 ⟨Nat.le_of_ble_eq_true rfl, Nat.le_of_ble_eq_true rfl⟩ rfl rfl (Nat.le_of_ble_eq_true rfl) ⟨Nat.zero_le _, Nat.zero_le _⟩ ?_
  refine r_if_eq hX e_X10_theft_4 (fun hc => ?_) (fun hc => ?_)
  · have hf := ite_t hf hc
    refine r_bipush hX e_X10_theft_26 bc_m2 ?_
    exact r_iret hX hR e_X10_theft_28 hf
  · have hf := ite_f hf hc
    refine r_iload_n (i := 2) hX e_X10_theft_7 rfl rfl ?_
    refine r_if_lt hX e_X10_theft_8 (fun hc => ?_) (fun hc => ?_)
    · have hf := ite_t hf hc
      refine r_bipush hX e_X10_theft_26 bc_m2 ?_
      exact r_iret hX hR e_X10_theft_28 hf
    · have hf := ite_f hf hc
      refine r_iload_n (i := 2) hX e_X10_theft_11 rfl rfl ?_
      refine r_iconst hX e_X10_theft_12 ic_2 ?_
      refine r_icmp_gt hX e_X10_theft_13 (fun hc => ?_) (fun hc => ?_)
      · have hf := ite_t hf hc
        refine r_bipush hX e_X10_theft_26 bc_m2 ?_
        exact r_iret hX hR e_X10_theft_28 hf
      · have hf := ite_f hf hc
        refine r_aload_n (i := 0) hX e_X10_theft_16 rfl rfl ?_
        obtain ⟨g2, hf⟩ := gd_s hf
        obtain ⟨r3, hr3, hf⟩ := bd_s hf
        refine r_getR hX hn e_X10_theft_17 fl_10_19 rfl g2 hr3 ?_
        obtain ⟨g4, hf⟩ := gd_s hf
        obtain ⟨v5, hv5, hf⟩ := bd_s hf
        refine r_cvi (As := fun K B => []) hX hn (t_X4_isTold hv5) e_X10_theft_20 cw_X4_isTold cv_X4_isTold lk_10_210 ⟨Nat.le_of_ble_eq_true rfl, Nat.le_of_ble_eq_true rfl⟩ (ci := 4) rfl rfl (Nat.le_of_ble_eq_true rfl) g4 rfl rfl (Nat.le_of_ble_eq_true rfl) ⟨Nat.zero_le _, Nat.zero_le _⟩ ?_
        refine r_if_ne hX e_X10_theft_23 (fun hc => ?_) (fun hc => ?_)
        · have hf := ite_f hf hc
          refine r_aload_n (i := 0) hX e_X10_theft_29 rfl rfl ?_
          obtain ⟨r6, hr6, hf⟩ := bd_s hf
          refine r_getR hX hn e_X10_theft_30 fl_10_36 rfl g2 hr6 ?_
          refine r_iload_n (i := 1) hX e_X10_theft_33 rfl rfl ?_
          obtain ⟨g7, hf⟩ := gd_s hf
          obtain ⟨r8, hr8, hf⟩ := bd_s hf
          refine r_aald hX hn e_X10_theft_34 g7 (Nat.le_of_ble_eq_true rfl) rfl rfl rfl hr8 ?_
          refine r_astore_n (i := 3) hX e_X10_theft_35 rfl (Nat.le_of_ble_eq_true rfl) rfl ?_
          refine r_aload_n (i := 3) hX e_X10_theft_36 rfl rfl ?_
          obtain ⟨g9, hf⟩ := gd_s hf
          refine r_getI hX hn e_X10_theft_37 fl_10_290 rfl g9 ?_
          refine r_if_ne hX e_X10_theft_40 (fun hc => ?_) (fun hc => ?_)
          · have hf := ite_f hf hc
            refine r_aload_n (i := 3) hX e_X10_theft_46 rfl rfl ?_
            refine r_getI hX hn e_X10_theft_47 fl_10_293 rfl g9 ?_
            refine r_aload_n (i := 0) hX e_X10_theft_50 rfl rfl ?_
            refine r_getR hX hn e_X10_theft_51 fl_10_19 rfl g2 hr3 ?_
            refine r_getI hX hn e_X10_theft_54 fl_10_172 rfl g4 ?_
            refine r_icmp_eq hX e_X10_theft_57 (fun hc => ?_) (fun hc => ?_)
            · have hf := ite_t hf hc
              refine r_aload_n (i := 3) hX e_X10_theft_63 rfl rfl ?_
              refine r_iconst hX e_X10_theft_64 ic_0 ?_
              refine r_bipush hX e_X10_theft_65 bc_20 ?_
              obtain ⟨v10, hv10, hf⟩ := bd_s hf
              refine r_cvi (As := fun K B => [.int (0), .int (20)]) hX hn (t_X8_isWithin hv10) e_X10_theft_67 cw_X8_isWithin cv_X8_isWithin lk_10_294 ⟨Nat.le_of_ble_eq_true rfl, Nat.le_of_ble_eq_true rfl⟩ (ci := 8) rfl rfl (Nat.le_of_ble_eq_true rfl) g9 rfl rfl (Nat.le_of_ble_eq_true rfl) ⟨Nat.zero_le _, Nat.zero_le _⟩ ?_
              refine r_if_ne hX e_X10_theft_70 (fun hc => ?_) (fun hc => ?_)
              · have hf := ite_f hf hc
                refine r_aload_n (i := 0) hX e_X10_theft_76 rfl rfl ?_
                refine r_aload_n (i := 3) hX e_X10_theft_77 rfl rfl ?_
                refine r_iload_n (i := 2) hX e_X10_theft_78 rfl rfl ?_
                obtain ⟨u11, hu11, hf⟩ := bd_s hf
                refine r_cvi (As := fun K B => [.ref (B + r8), .int (a2)]) hX hn (t_X10_thefts hu11) e_X10_theft_79 cw_X10_thefts cv_X10_thefts lk_10_297 ⟨Nat.le_of_ble_eq_true rfl, Nat.le_of_ble_eq_true rfl⟩ (ci := 10) rfl rfl (Nat.le_of_ble_eq_true rfl) g2 rfl rfl (Nat.le_of_ble_eq_true rfl) ⟨Nat.zero_le _, Nat.zero_le _⟩ ?_
                exact r_iret hX hR e_X10_theft_82 hf
              · have hf := ite_t hf hc
                refine r_bipush hX e_X10_theft_73 bc_m2 ?_
                exact r_iret hX hR e_X10_theft_75 hf
            · have hf := ite_f hf hc
              refine r_bipush hX e_X10_theft_60 bc_m7 ?_
              exact r_iret hX hR e_X10_theft_62 hf
          · have hf := ite_t hf hc
            refine r_bipush hX e_X10_theft_43 bc_m6 ?_
            exact r_iret hX hR e_X10_theft_45 hf
        · have hf := ite_t hf hc
          refine r_bipush hX e_X10_theft_26 bc_m2 ?_
          exact r_iret hX hR e_X10_theft_28 hf
def s_X10_passed_56 (k56 : Mem → Nat → Int32 → Int32 → Nat → Int32 → Int32 → Option (Mem × Int32)) (M : Mem) (x0 : Nat) (x1 : Int32) (x3 : Int32) (x4 : Nat) (x5 : Int32) (x6 : Int32) : Option (Mem × Int32) :=
  if x3 < x6 then some (M, x5) else gd (oB shC x0 10) <| bd (gR M x0 1) fun r2 => gd (oB shC x4 2) <| bd (gR M x4 1) fun r4 => gd (aB shC r4 9 x1) <| bd (gR M r4 (x1 : Int32).toNatClampNeg) fun r6 => gd (aB shC r6 0 x6) <| gd (oB shC r2 4) <| bd (f_X4_buyersAt M r2 (gI M r6 (x6 : Int32).toNatClampNeg)) fun v9 => k56 M (x0) (x1) (x3) (x4) ((x5 ||| v9)) ((x6 + 1))
def f_X10_passed_56  : Nat → Mem → Nat → Int32 → Int32 → Nat → Int32 → Int32 → Option (Mem × Int32)
  | 0 => fun _ _ _ _ _ _ _ => none
  | n + 1 => fun y0 y1 y2 y3 y4 y5 y6 => s_X10_passed_56  (f_X10_passed_56  n) y0 y1 y2 y3 y4 y5 y6
def f_X10_passed (M : Mem) (a0 : Nat) (a1 : Int32) (a2 : Int32) (a3 : Int32) : Option (Mem × Int32) :=
  gd (oB shC a0 10) <| bd (gR M a0 1) fun r2 => gd (oB shC r2 4) <| bd (f_X4_hasStall M r2 a1) fun v4 => if v4 = 0 then some (M, (-2)) else bd (f_X4_hasMinute M r2 a2) fun v5 => if v5 = 0 then some (M, (-2)) else bd (f_X4_hasMinute M r2 a3) fun v6 => if v6 = 0 then some (M, (-2)) else if a2 ≤ a3 then bd (f_X10_toldHour M a0) fun u7 => gd (oB shC u7.2 3) <| bd (gR u7.1 u7.2 0) fun r9 => f_X10_passed_56 FU u7.1 (a0) (a1) (a3) (r9) (0) (a2) else some (M, (-2))
theorem t_s_X10_passed_56 {X : Cx} {res : Mem × Int32} {k56 : Mem → Nat → Int32 → Int32 → Nat → Int32 → Int32 → Option (Mem × Int32)} (hX : OkX X cX10_passed RX10 6 139) (hn : Fit X shC nC) (hR : RetI X shC nC .int res) (hk56 : ∀ M x0 x1 x3 x4 x5 x6, k56 M x0 x1 x3 x4 x5 x6 = some res → GoN X shC nC 0 0 M 56 [some (.ref (X.B + x0)), some (.int (x1)), none, some (.int (x3)), some (.ref (X.B + x4)), some (.int (x5)), some (.int (x6))] []) (M : Mem) (x0 : Nat) (x1 : Int32) (x3 : Int32) (x4 : Nat) (x5 : Int32) (x6 : Int32) (hf : s_X10_passed_56 k56 M x0 x1 x3 x4 x5 x6 = some res) : GoN X shC nC 0 0 M 56 [some (.ref (X.B + x0)), some (.int (x1)), none, some (.int (x3)), some (.ref (X.B + x4)), some (.int (x5)), some (.int (x6))] [] := by
  refine r_iload hX e_X10_passed_56 rfl ?_
  refine r_iload_n (i := 3) hX e_X10_passed_58 rfl rfl ?_
  refine r_icmp_gt hX e_X10_passed_59 (fun hc => ?_) (fun hc => ?_)
  · have hf := ite_t hf hc
    refine r_iload hX e_X10_passed_90 rfl ?_
    exact r_iret hX hR e_X10_passed_92 hf
  · have hf := ite_f hf hc
    refine r_iload hX e_X10_passed_62 rfl ?_
    refine r_aload_n (i := 0) hX e_X10_passed_64 rfl rfl ?_
    obtain ⟨g1, hf⟩ := gd_s hf
    obtain ⟨r2, hr2, hf⟩ := bd_s hf
    refine r_getR hX hn e_X10_passed_65 fl_10_19 rfl g1 hr2 ?_
    refine r_aload hX e_X10_passed_68 rfl ?_
    obtain ⟨g3, hf⟩ := gd_s hf
    obtain ⟨r4, hr4, hf⟩ := bd_s hf
    refine r_getR hX hn e_X10_passed_70 fl_10_158 rfl g3 hr4 ?_
    refine r_iload_n (i := 1) hX e_X10_passed_73 rfl rfl ?_
    obtain ⟨g5, hf⟩ := gd_s hf
    obtain ⟨r6, hr6, hf⟩ := bd_s hf
    refine r_aald hX hn e_X10_passed_74 g5 (Nat.le_of_ble_eq_true rfl) rfl rfl rfl hr6 ?_
    refine r_iload hX e_X10_passed_75 rfl ?_
    obtain ⟨g7, hf⟩ := gd_s hf
    refine r_iald hX hn e_X10_passed_77 g7 ?_
    obtain ⟨g8, hf⟩ := gd_s hf
    obtain ⟨v9, hv9, hf⟩ := bd_s hf
    refine r_cvi (As := fun K B => [.int ((gI M r6 (x6 : Int32).toNatClampNeg))]) hX hn (t_X4_buyersAt hv9) e_X10_passed_78 cw_X4_buyersAt cv_X4_buyersAt lk_10_301 ⟨Nat.le_of_ble_eq_true rfl, Nat.le_of_ble_eq_true rfl⟩ (ci := 4) rfl rfl (Nat.le_of_ble_eq_true rfl) g8 rfl rfl (Nat.le_of_ble_eq_true rfl) ⟨Nat.zero_le _, Nat.zero_le _⟩ ?_
    refine r_ior hX e_X10_passed_81 ?_
    refine r_istore hX e_X10_passed_82 (Nat.le_of_ble_eq_true rfl) rfl ?_
    refine r_iinc (v := x6 + 1) hX e_X10_passed_84 rfl (ii_s ic_1) (Nat.le_of_ble_eq_true rfl) rfl ?_
    refine r_goto hX e_X10_passed_87 ?_
    exact GoN.weak (hk56 M (x0) (x1) (x3) (x4) ((x5 ||| v9)) ((x6 + 1)) hf) rfl (sb_s (sb_s (sb_n (sb_s (sb_s (sb_s (sb_s (sb_z _))))))))
theorem t_X10_passed_56 {X : Cx} {res : Mem × Int32}  (hX : OkX X cX10_passed RX10 6 139) (hn : Fit X shC nC) (hR : RetI X shC nC .int res)  : ∀ (n : Nat) (M : Mem) (x0 : Nat) (x1 : Int32) (x3 : Int32) (x4 : Nat) (x5 : Int32) (x6 : Int32),  f_X10_passed_56  n M x0 x1 x3 x4 x5 x6 = some res → GoN X shC nC 0 0 M 56 [some (.ref (X.B + x0)), some (.int (x1)), none, some (.int (x3)), some (.ref (X.B + x4)), some (.int (x5)), some (.int (x6))] [] := by
  intro n
  induction n with
  | zero => intro M x0 x1 x3 x4 x5 x6 hf; cases hf
  | succ n ih => intro M x0 x1 x3 x4 x5 x6 hf; exact t_s_X10_passed_56 hX hn hR  ih M x0 x1 x3 x4 x5 x6 hf
theorem t_X10_passed {l : Launch} {M : Mem} {a0 : Nat} {a1 a2 a3 : Int32} {res : Mem × Int32} (hf : f_X10_passed M a0 a1 a2 a3 = some res) : Ci l yX10_passed cX10_passed 7 (some .int) 6 139 shC nC (fun K B => [.ref (B + a0), .int a1, .int a2, .int a3]) M res := by
  refine met_i (own := RX10) (lo := fun K B => [some (.ref (B + a0)), some (.int a1), some (.int a2), some (.int a3), none, none, none]) (by decide +kernel) rfl shC_ok (fun _ _ => rfl) (fun _ _ => rfl) (fun _ _ => Nat.le_of_ble_eq_true rfl) (fun X hX hn hlx hR => ?_)
  refine r_aload_n (i := 0) hX e_X10_passed_0 rfl rfl ?_
  obtain ⟨g1, hf⟩ := gd_s hf
  obtain ⟨r2, hr2, hf⟩ := bd_s hf
  refine r_getR hX hn e_X10_passed_1 fl_10_19 rfl g1 hr2 ?_
  refine r_iload_n (i := 1) hX e_X10_passed_4 rfl rfl ?_
  obtain ⟨g3, hf⟩ := gd_s hf
  obtain ⟨v4, hv4, hf⟩ := bd_s hf
  refine r_cvi (As := fun K B => [.int (a1)]) hX hn (t_X4_hasStall hv4) e_X10_passed_5 cw_X4_hasStall cv_X4_hasStall lk_10_87 ⟨Nat.le_of_ble_eq_true rfl, Nat.le_of_ble_eq_true rfl⟩ (ci := 4) rfl rfl (Nat.le_of_ble_eq_true rfl) g3 rfl rfl (Nat.le_of_ble_eq_true rfl) ⟨Nat.zero_le _, Nat.zero_le _⟩ ?_
  refine r_if_eq hX e_X10_passed_8 (fun hc => ?_) (fun hc => ?_)
  · have hf := ite_t hf hc
    refine r_bipush hX e_X10_passed_38 bc_m2 ?_
    exact r_iret hX hR e_X10_passed_40 hf
  · have hf := ite_f hf hc
    refine r_aload_n (i := 0) hX e_X10_passed_11 rfl rfl ?_
    refine r_getR hX hn e_X10_passed_12 fl_10_19 rfl g1 hr2 ?_
    refine r_iload_n (i := 2) hX e_X10_passed_15 rfl rfl ?_
    obtain ⟨v5, hv5, hf⟩ := bd_s hf
    refine r_cvi (As := fun K B => [.int (a2)]) hX hn (t_X4_hasMinute hv5) e_X10_passed_16 cw_X4_hasMinute cv_X4_hasMinute lk_10_147 ⟨Nat.le_of_ble_eq_true rfl, Nat.le_of_ble_eq_true rfl⟩ (ci := 4) rfl rfl (Nat.le_of_ble_eq_true rfl) g3 rfl rfl (Nat.le_of_ble_eq_true rfl) ⟨Nat.zero_le _, Nat.zero_le _⟩ ?_
    refine r_if_eq hX e_X10_passed_19 (fun hc => ?_) (fun hc => ?_)
    · have hf := ite_t hf hc
      refine r_bipush hX e_X10_passed_38 bc_m2 ?_
      exact r_iret hX hR e_X10_passed_40 hf
    · have hf := ite_f hf hc
      refine r_aload_n (i := 0) hX e_X10_passed_22 rfl rfl ?_
      refine r_getR hX hn e_X10_passed_23 fl_10_19 rfl g1 hr2 ?_
      refine r_iload_n (i := 3) hX e_X10_passed_26 rfl rfl ?_
      obtain ⟨v6, hv6, hf⟩ := bd_s hf
      refine r_cvi (As := fun K B => [.int (a3)]) hX hn (t_X4_hasMinute hv6) e_X10_passed_27 cw_X4_hasMinute cv_X4_hasMinute lk_10_147 ⟨Nat.le_of_ble_eq_true rfl, Nat.le_of_ble_eq_true rfl⟩ (ci := 4) rfl rfl (Nat.le_of_ble_eq_true rfl) g3 rfl rfl (Nat.le_of_ble_eq_true rfl) ⟨Nat.zero_le _, Nat.zero_le _⟩ ?_
      refine r_if_eq hX e_X10_passed_30 (fun hc => ?_) (fun hc => ?_)
      · have hf := ite_t hf hc
        refine r_bipush hX e_X10_passed_38 bc_m2 ?_
        exact r_iret hX hR e_X10_passed_40 hf
      · have hf := ite_f hf hc
        refine r_iload_n (i := 3) hX e_X10_passed_33 rfl rfl ?_
        refine r_iload_n (i := 2) hX e_X10_passed_34 rfl rfl ?_
        refine r_icmp_ge hX e_X10_passed_35 (fun hc => ?_) (fun hc => ?_)
        · have hf := ite_t hf hc
          refine r_aload_n (i := 0) hX e_X10_passed_41 rfl rfl ?_
          obtain ⟨u7, hu7, hf⟩ := bd_s hf
          refine r_cvr (As := fun K B => []) hX hn (t_X10_toldHour hu7) e_X10_passed_42 cw_X10_toldHour cv_X10_toldHour lk_10_150 ⟨Nat.le_of_ble_eq_true rfl, Nat.le_of_ble_eq_true rfl⟩ (ci := 10) rfl rfl (Nat.le_of_ble_eq_true rfl) g1 rfl rfl (Nat.le_of_ble_eq_true rfl) ⟨Nat.zero_le _, Nat.zero_le _⟩ ?_
          obtain ⟨g8, hf⟩ := gd_s hf
          obtain ⟨r9, hr9, hf⟩ := bd_s hf
          refine r_getR hX hn e_X10_passed_45 fl_10_154 rfl g8 hr9 ?_
          refine r_astore hX e_X10_passed_48 (Nat.le_of_ble_eq_true rfl) rfl ?_
          refine r_iconst hX e_X10_passed_50 ic_0 ?_
          refine r_istore hX e_X10_passed_51 (Nat.le_of_ble_eq_true rfl) rfl ?_
          refine r_iload_n (i := 2) hX e_X10_passed_53 rfl rfl ?_
          refine r_istore hX e_X10_passed_54 (Nat.le_of_ble_eq_true rfl) rfl ?_
          exact GoN.weak (t_X10_passed_56 hX hn hR FU u7.1 (a0) (a1) (a3) (r9) (0) (a2) hf) rfl (sb_s (sb_s (sb_n (sb_s (sb_s (sb_s (sb_s (sb_z _))))))))
        · have hf := ite_f hf hc
          refine r_bipush hX e_X10_passed_38 bc_m2 ?_
          exact r_iret hX hR e_X10_passed_40 hf
def f_X10_salesIfStuck (M : Mem) (a0 : Nat) (a1 : Int32) (a2 : Int32) : Option (Mem × Int32) :=
  gd (oB shC a0 10) <| bd (f_X10_trialMarket M a0) fun u2 => gd (oB shC u2.2 4) <| bd (gR u2.1 u2.2 6) fun r4 => gd (aB shC r4 4 a1) <| bd (gR u2.1 r4 (a1 : Int32).toNatClampNeg) fun r6 => gd (oB shC r6 7) <| nx (((gL u2.1 r6 2) ||| ((-1) <<< ((a2 : Int32).toInt64 &&& 63)))) fun v8 => nx (sL u2.1 r6 2 v8) fun M9 => bd (f_X10_trialHour M9 a0 u2.2) fun u10 => gd (oB shC u10.2 3) <| some (u10.1, (gI u10.1 u10.2 4))
theorem t_X10_salesIfStuck {l : Launch} {M : Mem} {a0 : Nat} {a1 a2 : Int32} {res : Mem × Int32} (hf : f_X10_salesIfStuck M a0 a1 a2 = some res) : Ci l yX10_salesIfStuck cX10_salesIfStuck 4 (some .int) 6 140 shC nC (fun K B => [.ref (B + a0), .int a1, .int a2]) M res := by
  refine met_i (own := RX10) (lo := fun K B => [some (.ref (B + a0)), some (.int a1), some (.int a2), none]) (by decide +kernel) rfl shC_ok (fun _ _ => rfl) (fun _ _ => rfl) (fun _ _ => Nat.le_of_ble_eq_true rfl) (fun X hX hn hlx hR => ?_)
  refine r_aload_n (i := 0) hX e_X10_salesIfStuck_0 rfl rfl ?_
  obtain ⟨g1, hf⟩ := gd_s hf
  obtain ⟨u2, hu2, hf⟩ := bd_s hf
  refine r_cvr (As := fun K B => []) hX hn (t_X10_trialMarket hu2) e_X10_salesIfStuck_1 cw_X10_trialMarket cv_X10_trialMarket lk_10_279 ⟨Nat.le_of_ble_eq_true rfl, Nat.le_of_ble_eq_true rfl⟩ (ci := 10) rfl rfl (Nat.le_of_ble_eq_true rfl) g1 rfl rfl (Nat.le_of_ble_eq_true rfl) ⟨Nat.zero_le _, Nat.zero_le _⟩ ?_
  refine r_astore_n (i := 3) hX e_X10_salesIfStuck_4 rfl (Nat.le_of_ble_eq_true rfl) rfl ?_
  refine r_aload_n (i := 3) hX e_X10_salesIfStuck_5 rfl rfl ?_
  obtain ⟨g3, hf⟩ := gd_s hf
  obtain ⟨r4, hr4, hf⟩ := bd_s hf
  refine r_getR hX hn e_X10_salesIfStuck_6 fl_10_311 rfl g3 hr4 ?_
  refine r_iload_n (i := 1) hX e_X10_salesIfStuck_9 rfl rfl ?_
  obtain ⟨g5, hf⟩ := gd_s hf
  obtain ⟨r6, hr6, hf⟩ := bd_s hf
  refine r_aald hX hn e_X10_salesIfStuck_10 g5 (Nat.le_of_ble_eq_true rfl) rfl rfl rfl hr6 ?_
  refine r_dup hX e_X10_salesIfStuck_11 rfl ?_
  obtain ⟨g7, hf⟩ := gd_s hf
  refine r_getL hX hn e_X10_salesIfStuck_12 fl_10_371 rfl g7 ?_
  refine r_ldc2 hX e_X10_salesIfStuck_15 wk_1028 ?_
  refine r_iload_n (i := 2) hX e_X10_salesIfStuck_18 rfl rfl ?_
  refine r_lshl hX e_X10_salesIfStuck_19 ?_
  refine r_lor hX e_X10_salesIfStuck_20 ?_
  obtain ⟨v8, hv8, hf⟩ := nx_s hf
  refine top_l hv8 ?_
  obtain ⟨M9, hM9, hf⟩ := nx_s hf
  refine r_putL hX hn hM9 e_X10_salesIfStuck_21 fl_10_371 fp_7_2 rfl g7 ?_
  refine r_aload_n (i := 0) hX e_X10_salesIfStuck_24 rfl rfl ?_
  refine r_aload_n (i := 3) hX e_X10_salesIfStuck_25 rfl rfl ?_
  obtain ⟨u10, hu10, hf⟩ := bd_s hf
  refine r_cvr (As := fun K B => [.ref (B + u2.2)]) hX hn (t_X10_trialHour hu10) e_X10_salesIfStuck_26 cw_X10_trialHour cv_X10_trialHour lk_10_283 ⟨Nat.le_of_ble_eq_true rfl, Nat.le_of_ble_eq_true rfl⟩ (ci := 10) rfl rfl (Nat.le_of_ble_eq_true rfl) g1 rfl rfl (Nat.le_of_ble_eq_true rfl) ⟨Nat.zero_le _, Nat.zero_le _⟩ ?_
  obtain ⟨g11, hf⟩ := gd_s hf
  refine r_getI hX hn e_X10_salesIfStuck_29 fl_10_214 rfl g11 ?_
  exact r_iret hX hR e_X10_salesIfStuck_32 hf
def f_X10_harm (M : Mem) (a0 : Nat) (a1 : Int32) (a2 : Int32) : Option (Mem × Int32) :=
  gd (oB shC a0 10) <| bd (gR M a0 1) fun r2 => gd (oB shC r2 4) <| bd (f_X4_hasRing M r2 a1) fun v4 => if v4 = 0 then some (M, (-2000000)) else bd (f_X4_hasMinute M r2 a2) fun v5 => if v5 = 0 then some (M, (-2000000)) else bd (f_X10_toldHour M a0) fun u6 => gd (oB shC u6.2 3) <| bd (f_X10_salesIfStuck u6.1 a0 a1 a2) fun u8 => some (u8.1, ((gI u6.1 u6.2 4) - u8.2))
theorem t_X10_harm {l : Launch} {M : Mem} {a0 : Nat} {a1 a2 : Int32} {res : Mem × Int32} (hf : f_X10_harm M a0 a1 a2 = some res) : Ci l yX10_harm cX10_harm 3 (some .int) 7 163 shC nC (fun K B => [.ref (B + a0), .int a1, .int a2]) M res := by
  refine met_i (own := RX10) (lo := fun K B => [some (.ref (B + a0)), some (.int a1), some (.int a2)]) (by decide +kernel) rfl shC_ok (fun _ _ => rfl) (fun _ _ => rfl) (fun _ _ => Nat.le_of_ble_eq_true rfl) (fun X hX hn hlx hR => ?_)
  refine r_aload_n (i := 0) hX e_X10_harm_0 rfl rfl ?_
  obtain ⟨g1, hf⟩ := gd_s hf
  obtain ⟨r2, hr2, hf⟩ := bd_s hf
  refine r_getR hX hn e_X10_harm_1 fl_10_19 rfl g1 hr2 ?_
  refine r_iload_n (i := 1) hX e_X10_harm_4 rfl rfl ?_
  obtain ⟨g3, hf⟩ := gd_s hf
  obtain ⟨v4, hv4, hf⟩ := bd_s hf
  refine r_cvi (As := fun K B => [.int (a1)]) hX hn (t_X4_hasRing hv4) e_X10_harm_5 cw_X4_hasRing cv_X4_hasRing lk_10_169 ⟨Nat.le_of_ble_eq_true rfl, Nat.le_of_ble_eq_true rfl⟩ (ci := 4) rfl rfl (Nat.le_of_ble_eq_true rfl) g3 rfl rfl (Nat.le_of_ble_eq_true rfl) ⟨Nat.zero_le _, Nat.zero_le _⟩ ?_
  refine r_if_eq hX e_X10_harm_8 (fun hc => ?_) (fun hc => ?_)
  · have hf := ite_t hf hc
    refine r_ldcw hX e_X10_harm_22 wk_1023 ?_
    exact r_iret hX hR e_X10_harm_25 hf
  · have hf := ite_f hf hc
    refine r_aload_n (i := 0) hX e_X10_harm_11 rfl rfl ?_
    refine r_getR hX hn e_X10_harm_12 fl_10_19 rfl g1 hr2 ?_
    refine r_iload_n (i := 2) hX e_X10_harm_15 rfl rfl ?_
    obtain ⟨v5, hv5, hf⟩ := bd_s hf
    refine r_cvi (As := fun K B => [.int (a2)]) hX hn (t_X4_hasMinute hv5) e_X10_harm_16 cw_X4_hasMinute cv_X4_hasMinute lk_10_147 ⟨Nat.le_of_ble_eq_true rfl, Nat.le_of_ble_eq_true rfl⟩ (ci := 4) rfl rfl (Nat.le_of_ble_eq_true rfl) g3 rfl rfl (Nat.le_of_ble_eq_true rfl) ⟨Nat.zero_le _, Nat.zero_le _⟩ ?_
    refine r_if_ne hX e_X10_harm_19 (fun hc => ?_) (fun hc => ?_)
    · have hf := ite_f hf hc
      refine r_aload_n (i := 0) hX e_X10_harm_26 rfl rfl ?_
      obtain ⟨u6, hu6, hf⟩ := bd_s hf
      refine r_cvr (As := fun K B => []) hX hn (t_X10_toldHour hu6) e_X10_harm_27 cw_X10_toldHour cv_X10_toldHour lk_10_150 ⟨Nat.le_of_ble_eq_true rfl, Nat.le_of_ble_eq_true rfl⟩ (ci := 10) rfl rfl (Nat.le_of_ble_eq_true rfl) g1 rfl rfl (Nat.le_of_ble_eq_true rfl) ⟨Nat.zero_le _, Nat.zero_le _⟩ ?_
      obtain ⟨g7, hf⟩ := gd_s hf
      refine r_getI hX hn e_X10_harm_30 fl_10_214 rfl g7 ?_
      refine r_aload_n (i := 0) hX e_X10_harm_33 rfl rfl ?_
      refine r_iload_n (i := 1) hX e_X10_harm_34 rfl rfl ?_
      refine r_iload_n (i := 2) hX e_X10_harm_35 rfl rfl ?_
      obtain ⟨u8, hu8, hf⟩ := bd_s hf
      refine r_cvi (As := fun K B => [.int (a1), .int (a2)]) hX hn (t_X10_salesIfStuck hu8) e_X10_harm_36 cw_X10_salesIfStuck cv_X10_salesIfStuck lk_10_305 ⟨Nat.le_of_ble_eq_true rfl, Nat.le_of_ble_eq_true rfl⟩ (ci := 10) rfl rfl (Nat.le_of_ble_eq_true rfl) g1 rfl rfl (Nat.le_of_ble_eq_true rfl) ⟨Nat.zero_le _, Nat.zero_le _⟩ ?_
      refine r_isub hX e_X10_harm_39 ?_
      exact r_iret hX hR e_X10_harm_40 hf
    · have hf := ite_t hf hc
      refine r_ldcw hX e_X10_harm_22 wk_1023 ?_
      exact r_iret hX hR e_X10_harm_25 hf
def s_X10_least_21 (k21 : Mem → Nat → Int32 → Int32 → Int32 → Int32 → Option (Mem × Int32)) (M : Mem) (x0 : Nat) (x1 : Int32) (x2 : Int32) (x3 : Int32) (x4 : Int32) : Option (Mem × Int32) :=
  gd (oB shC x0 10) <| bd (gR M x0 1) fun r2 => gd (oB shC r2 4) <| if (gI M r2 3) ≤ x4 then some (M, x3) else bd (f_X10_salesIfStuck M x0 x4 x1) fun u4 => if u4.2 ≤ x2 then k21 u4.1 (x0) (x1) (x2) (x3) ((x4 + 1)) else k21 u4.1 (x0) (x1) (u4.2) (x4) ((x4 + 1))
def f_X10_least_21  : Nat → Mem → Nat → Int32 → Int32 → Int32 → Int32 → Option (Mem × Int32)
  | 0 => fun _ _ _ _ _ _ => none
  | n + 1 => fun y0 y1 y2 y3 y4 y5 => s_X10_least_21  (f_X10_least_21  n) y0 y1 y2 y3 y4 y5
def f_X10_least (M : Mem) (a0 : Nat) (a1 : Int32) : Option (Mem × Int32) :=
  gd (oB shC a0 10) <| bd (gR M a0 1) fun r2 => gd (oB shC r2 4) <| bd (f_X4_hasMinute M r2 a1) fun v4 => if v4 = 0 then some (M, (-2)) else f_X10_least_21 FU M (a0) (a1) ((-1)) ((-1)) (0)
theorem t_s_X10_least_21 {X : Cx} {res : Mem × Int32} {k21 : Mem → Nat → Int32 → Int32 → Int32 → Int32 → Option (Mem × Int32)} (hX : OkX X cX10_least RX10 7 163) (hn : Fit X shC nC) (hR : RetI X shC nC .int res) (hk21 : ∀ M x0 x1 x2 x3 x4, k21 M x0 x1 x2 x3 x4 = some res → GoN X shC nC 0 0 M 21 [some (.ref (X.B + x0)), some (.int (x1)), some (.int (x2)), some (.int (x3)), some (.int (x4)), none] []) (M : Mem) (x0 : Nat) (x1 : Int32) (x2 : Int32) (x3 : Int32) (x4 : Int32) (hf : s_X10_least_21 k21 M x0 x1 x2 x3 x4 = some res) : GoN X shC nC 0 0 M 21 [some (.ref (X.B + x0)), some (.int (x1)), some (.int (x2)), some (.int (x3)), some (.int (x4)), none] [] := by
  refine r_iload hX e_X10_least_21 rfl ?_
  refine r_aload_n (i := 0) hX e_X10_least_23 rfl rfl ?_
  obtain ⟨g1, hf⟩ := gd_s hf
  obtain ⟨r2, hr2, hf⟩ := bd_s hf
  refine r_getR hX hn e_X10_least_24 fl_10_19 rfl g1 hr2 ?_
  obtain ⟨g3, hf⟩ := gd_s hf
  refine r_getI hX hn e_X10_least_27 fl_10_308 rfl g3 ?_
  refine r_icmp_ge hX e_X10_least_30 (fun hc => ?_) (fun hc => ?_)
  · have hf := ite_t hf hc
    refine r_iload_n (i := 3) hX e_X10_least_60 rfl rfl ?_
    exact r_iret hX hR e_X10_least_61 hf
  · have hf := ite_f hf hc
    refine r_aload_n (i := 0) hX e_X10_least_33 rfl rfl ?_
    refine r_iload hX e_X10_least_34 rfl ?_
    refine r_iload_n (i := 1) hX e_X10_least_36 rfl rfl ?_
    obtain ⟨u4, hu4, hf⟩ := bd_s hf
    refine r_cvi (As := fun K B => [.int (x4), .int (x1)]) hX hn (t_X10_salesIfStuck hu4) e_X10_least_37 cw_X10_salesIfStuck cv_X10_salesIfStuck lk_10_305 ⟨Nat.le_of_ble_eq_true rfl, Nat.le_of_ble_eq_true rfl⟩ (ci := 10) rfl rfl (Nat.le_of_ble_eq_true rfl) g1 rfl rfl (Nat.le_of_ble_eq_true rfl) ⟨Nat.zero_le _, Nat.zero_le _⟩ ?_
    refine r_istore hX e_X10_least_40 (Nat.le_of_ble_eq_true rfl) rfl ?_
    refine r_iload hX e_X10_least_42 rfl ?_
    refine r_iload_n (i := 2) hX e_X10_least_44 rfl rfl ?_
    refine r_icmp_le hX e_X10_least_45 (fun hc => ?_) (fun hc => ?_)
    · have hf := ite_t hf hc
      refine r_iinc (v := x4 + 1) hX e_X10_least_54 rfl (ii_s ic_1) (Nat.le_of_ble_eq_true rfl) rfl ?_
      refine r_goto hX e_X10_least_57 ?_
      exact GoN.weak (hk21 u4.1 (x0) (x1) (x2) (x3) ((x4 + 1)) hf) rfl (sb_s (sb_s (sb_s (sb_s (sb_s (sb_n (sb_z _)))))))
    · have hf := ite_f hf hc
      refine r_iload hX e_X10_least_48 rfl ?_
      refine r_istore_n (i := 2) hX e_X10_least_50 rfl (Nat.le_of_ble_eq_true rfl) rfl ?_
      refine r_iload hX e_X10_least_51 rfl ?_
      refine r_istore_n (i := 3) hX e_X10_least_53 rfl (Nat.le_of_ble_eq_true rfl) rfl ?_
      refine r_iinc (v := x4 + 1) hX e_X10_least_54 rfl (ii_s ic_1) (Nat.le_of_ble_eq_true rfl) rfl ?_
      refine r_goto hX e_X10_least_57 ?_
      exact GoN.weak (hk21 u4.1 (x0) (x1) (u4.2) (x4) ((x4 + 1)) hf) rfl (sb_s (sb_s (sb_s (sb_s (sb_s (sb_n (sb_z _)))))))
theorem t_X10_least_21 {X : Cx} {res : Mem × Int32}  (hX : OkX X cX10_least RX10 7 163) (hn : Fit X shC nC) (hR : RetI X shC nC .int res)  : ∀ (n : Nat) (M : Mem) (x0 : Nat) (x1 : Int32) (x2 : Int32) (x3 : Int32) (x4 : Int32),  f_X10_least_21  n M x0 x1 x2 x3 x4 = some res → GoN X shC nC 0 0 M 21 [some (.ref (X.B + x0)), some (.int (x1)), some (.int (x2)), some (.int (x3)), some (.int (x4)), none] [] := by
  intro n
  induction n with
  | zero => intro M x0 x1 x2 x3 x4 hf; cases hf
  | succ n ih => intro M x0 x1 x2 x3 x4 hf; exact t_s_X10_least_21 hX hn hR  ih M x0 x1 x2 x3 x4 hf
theorem t_X10_least {l : Launch} {M : Mem} {a0 : Nat} {a1 : Int32} {res : Mem × Int32} (hf : f_X10_least M a0 a1 = some res) : Ci l yX10_least cX10_least 6 (some .int) 7 163 shC nC (fun K B => [.ref (B + a0), .int a1]) M res := by
  refine met_i (own := RX10) (lo := fun K B => [some (.ref (B + a0)), some (.int a1), none, none, none, none]) (by decide +kernel) rfl shC_ok (fun _ _ => rfl) (fun _ _ => rfl) (fun _ _ => Nat.le_of_ble_eq_true rfl) (fun X hX hn hlx hR => ?_)
  refine r_aload_n (i := 0) hX e_X10_least_0 rfl rfl ?_
  obtain ⟨g1, hf⟩ := gd_s hf
  obtain ⟨r2, hr2, hf⟩ := bd_s hf
  refine r_getR hX hn e_X10_least_1 fl_10_19 rfl g1 hr2 ?_
  refine r_iload_n (i := 1) hX e_X10_least_4 rfl rfl ?_
  obtain ⟨g3, hf⟩ := gd_s hf
  obtain ⟨v4, hv4, hf⟩ := bd_s hf
  refine r_cvi (As := fun K B => [.int (a1)]) hX hn (t_X4_hasMinute hv4) e_X10_least_5 cw_X4_hasMinute cv_X4_hasMinute lk_10_147 ⟨Nat.le_of_ble_eq_true rfl, Nat.le_of_ble_eq_true rfl⟩ (ci := 4) rfl rfl (Nat.le_of_ble_eq_true rfl) g3 rfl rfl (Nat.le_of_ble_eq_true rfl) ⟨Nat.zero_le _, Nat.zero_le _⟩ ?_
  refine r_if_ne hX e_X10_least_8 (fun hc => ?_) (fun hc => ?_)
  · have hf := ite_f hf hc
    refine r_iconst hX e_X10_least_14 ic_m1 ?_
    refine r_istore_n (i := 2) hX e_X10_least_15 rfl (Nat.le_of_ble_eq_true rfl) rfl ?_
    refine r_iconst hX e_X10_least_16 ic_m1 ?_
    refine r_istore_n (i := 3) hX e_X10_least_17 rfl (Nat.le_of_ble_eq_true rfl) rfl ?_
    refine r_iconst hX e_X10_least_18 ic_0 ?_
    refine r_istore hX e_X10_least_19 (Nat.le_of_ble_eq_true rfl) rfl ?_
    exact GoN.weak (t_X10_least_21 hX hn hR FU M (a0) (a1) ((-1)) ((-1)) (0) hf) rfl (sb_s (sb_s (sb_s (sb_s (sb_s (sb_n (sb_z _)))))))
  · have hf := ite_t hf hc
    refine r_bipush hX e_X10_least_11 bc_m2 ?_
    exact r_iret hX hR e_X10_least_13 hf
def f_X10_turn (M : Mem) (a0 : Nat) (a1 : Int32) (a2 : Int32) : Option (Mem × Int32) :=
  gd (oB shC a0 10) <| bd (gR M a0 1) fun r2 => gd (oB shC r2 4) <| bd (f_X4_hasRing M r2 a1) fun v4 => if v4 = 0 then some (M, (-2)) else if a2 < 0 then some (M, (-2)) else if a2 ≤ 60 then bd (gR M r2 6) fun r5 => gd (aB shC r5 4 a1) <| bd (gR M r5 (a1 : Int32).toNatClampNeg) fun r7 => gd (oB shC r7 7) <| nx (sI M r7 0 a2) fun M9 => nx (sI M9 a0 7 0) fun M10 => some (M10, (gI M r7 0)) else some (M, (-2))
theorem t_X10_turn {l : Launch} {M : Mem} {a0 : Nat} {a1 a2 : Int32} {res : Mem × Int32} (hf : f_X10_turn M a0 a1 a2 = some res) : Ci l yX10_turn cX10_turn 4 (some .int) 1 21 shC nC (fun K B => [.ref (B + a0), .int a1, .int a2]) M res := by
  refine met_i (own := RX10) (lo := fun K B => [some (.ref (B + a0)), some (.int a1), some (.int a2), none]) (by decide +kernel) rfl shC_ok (fun _ _ => rfl) (fun _ _ => rfl) (fun _ _ => Nat.le_of_ble_eq_true rfl) (fun X hX hn hlx hR => ?_)
  refine r_aload_n (i := 0) hX e_X10_turn_0 rfl rfl ?_
  obtain ⟨g1, hf⟩ := gd_s hf
  obtain ⟨r2, hr2, hf⟩ := bd_s hf
  refine r_getR hX hn e_X10_turn_1 fl_10_19 rfl g1 hr2 ?_
  refine r_iload_n (i := 1) hX e_X10_turn_4 rfl rfl ?_
  obtain ⟨g3, hf⟩ := gd_s hf
  obtain ⟨v4, hv4, hf⟩ := bd_s hf
  refine r_cvi (As := fun K B => [.int (a1)]) hX hn (t_X4_hasRing hv4) e_X10_turn_5 cw_X4_hasRing cv_X4_hasRing lk_10_169 ⟨Nat.le_of_ble_eq_true rfl, Nat.le_of_ble_eq_true rfl⟩ (ci := 4) rfl rfl (Nat.le_of_ble_eq_true rfl) g3 rfl rfl (Nat.le_of_ble_eq_true rfl) ⟨Nat.zero_le _, Nat.zero_le _⟩ ?_
  refine r_if_eq hX e_X10_turn_8 (fun hc => ?_) (fun hc => ?_)
  · have hf := ite_t hf hc
    refine r_bipush hX e_X10_turn_21 bc_m2 ?_
    exact r_iret hX hR e_X10_turn_23 hf
  · have hf := ite_f hf hc
    refine r_iload_n (i := 2) hX e_X10_turn_11 rfl rfl ?_
    refine r_if_lt hX e_X10_turn_12 (fun hc => ?_) (fun hc => ?_)
    · have hf := ite_t hf hc
      refine r_bipush hX e_X10_turn_21 bc_m2 ?_
      exact r_iret hX hR e_X10_turn_23 hf
    · have hf := ite_f hf hc
      refine r_iload_n (i := 2) hX e_X10_turn_15 rfl rfl ?_
      refine r_bipush hX e_X10_turn_16 bc_60 ?_
      refine r_icmp_le hX e_X10_turn_18 (fun hc => ?_) (fun hc => ?_)
      · have hf := ite_t hf hc
        refine r_aload_n (i := 0) hX e_X10_turn_24 rfl rfl ?_
        refine r_getR hX hn e_X10_turn_25 fl_10_19 rfl g1 hr2 ?_
        obtain ⟨r5, hr5, hf⟩ := bd_s hf
        refine r_getR hX hn e_X10_turn_28 fl_10_311 rfl g3 hr5 ?_
        refine r_iload_n (i := 1) hX e_X10_turn_31 rfl rfl ?_
        obtain ⟨g6, hf⟩ := gd_s hf
        obtain ⟨r7, hr7, hf⟩ := bd_s hf
        refine r_aald hX hn e_X10_turn_32 g6 (Nat.le_of_ble_eq_true rfl) rfl rfl rfl hr7 ?_
        obtain ⟨g8, hf⟩ := gd_s hf
        refine r_getI hX hn e_X10_turn_33 fl_10_315 rfl g8 ?_
        refine r_istore_n (i := 3) hX e_X10_turn_36 rfl (Nat.le_of_ble_eq_true rfl) rfl ?_
        refine r_aload_n (i := 0) hX e_X10_turn_37 rfl rfl ?_
        refine r_getR hX hn e_X10_turn_38 fl_10_19 rfl g1 hr2 ?_
        refine r_getR hX hn e_X10_turn_41 fl_10_311 rfl g3 hr5 ?_
        refine r_iload_n (i := 1) hX e_X10_turn_44 rfl rfl ?_
        refine r_aald hX hn e_X10_turn_45 g6 (Nat.le_of_ble_eq_true rfl) rfl rfl rfl hr7 ?_
        refine r_iload_n (i := 2) hX e_X10_turn_46 rfl rfl ?_
        obtain ⟨M9, hM9, hf⟩ := nx_s hf
        refine r_putI hX hn hM9 e_X10_turn_47 fl_10_315 fp_7_0 rfl g8 ?_
        refine r_aload_n (i := 0) hX e_X10_turn_50 rfl rfl ?_
        refine r_iconst hX e_X10_turn_51 ic_0 ?_
        obtain ⟨M10, hM10, hf⟩ := nx_s hf
        refine r_putZ hX hn hM10 rfl e_X10_turn_52 fl_10_47 fp_10_7 rfl g1 ?_
        refine r_iload_n (i := 3) hX e_X10_turn_55 rfl rfl ?_
        exact r_iret hX hR e_X10_turn_56 hf
      · have hf := ite_f hf hc
        refine r_bipush hX e_X10_turn_21 bc_m2 ?_
        exact r_iret hX hR e_X10_turn_23 hf
def s_X10_areRingsRound_2 (M : Mem) (k2 : Nat → Int32 → Int32 → Option (Int32)) (x0 : Nat) (x1 : Int32) (x2 : Int32) : Option (Int32) :=
  gd (oB shC x0 10) <| bd (gR M x0 1) fun r2 => gd (oB shC r2 4) <| if (gI M r2 3) ≤ x2 then some 1 else bd (gR M r2 6) fun r4 => gd (aB shC r4 4 x2) <| bd (gR M r4 (x2 : Int32).toNatClampNeg) fun r6 => gd (oB shC r6 7) <| if ((gI M r6 0) * (gI M r2 0)) ≤ 0 then k2 (x0) (x1) ((x2 + 1)) else gd (!(((gI M r6 0) * (gI M r2 0)) == 0)) <| nx ((x1 - x1 / ((gI M r6 0) * (gI M r2 0)) * ((gI M r6 0) * (gI M r2 0)))) fun v9 => if v9 = 0 then k2 (x0) (x1) ((x2 + 1)) else some 0
def f_X10_areRingsRound_2 (M : Mem)  : Nat → Nat → Int32 → Int32 → Option (Int32)
  | 0 => fun _ _ _ => none
  | n + 1 => fun y0 y1 y2 => s_X10_areRingsRound_2 M  (f_X10_areRingsRound_2 M  n) y0 y1 y2
def f_X10_areRingsRound (M : Mem) (a0 : Nat) (a1 : Int32) : Option (Int32) :=
  f_X10_areRingsRound_2 M FU (a0) (a1) (0)
theorem t_s_X10_areRingsRound_2 {X : Cx} {M : Mem} {res : Int32} {k2 : Nat → Int32 → Int32 → Option (Int32)} (hX : OkX X cX10_areRingsRound RX10 0 0) (hn : Fit X shC nC) (hR : RetI X shC nC .boolean (M, res)) (hk2 : ∀ x0 x1 x2, k2 x0 x1 x2 = some res → GoN X shC nC 0 0 M 2 [some (.ref (X.B + x0)), some (.int (x1)), some (.int (x2)), none] []) (x0 : Nat) (x1 : Int32) (x2 : Int32) (hf : s_X10_areRingsRound_2 M k2 x0 x1 x2 = some res) : GoN X shC nC 0 0 M 2 [some (.ref (X.B + x0)), some (.int (x1)), some (.int (x2)), none] [] := by
  refine r_iload_n (i := 2) hX e_X10_areRingsRound_2 rfl rfl ?_
  refine r_aload_n (i := 0) hX e_X10_areRingsRound_3 rfl rfl ?_
  obtain ⟨g1, hf⟩ := gd_s hf
  obtain ⟨r2, hr2, hf⟩ := bd_s hf
  refine r_getR hX hn e_X10_areRingsRound_4 fl_10_19 rfl g1 hr2 ?_
  obtain ⟨g3, hf⟩ := gd_s hf
  refine r_getI hX hn e_X10_areRingsRound_7 fl_10_308 rfl g3 ?_
  refine r_icmp_ge hX e_X10_areRingsRound_10 (fun hc => ?_) (fun hc => ?_)
  · have hf := ite_t hf hc
    refine r_iconst hX e_X10_areRingsRound_52 ic_1 ?_
    exact r_zret hX hR rfl e_X10_areRingsRound_53 (ro_s hf)
  · have hf := ite_f hf hc
    refine r_aload_n (i := 0) hX e_X10_areRingsRound_13 rfl rfl ?_
    refine r_getR hX hn e_X10_areRingsRound_14 fl_10_19 rfl g1 hr2 ?_
    obtain ⟨r4, hr4, hf⟩ := bd_s hf
    refine r_getR hX hn e_X10_areRingsRound_17 fl_10_311 rfl g3 hr4 ?_
    refine r_iload_n (i := 2) hX e_X10_areRingsRound_20 rfl rfl ?_
    obtain ⟨g5, hf⟩ := gd_s hf
    obtain ⟨r6, hr6, hf⟩ := bd_s hf
    refine r_aald hX hn e_X10_areRingsRound_21 g5 (Nat.le_of_ble_eq_true rfl) rfl rfl rfl hr6 ?_
    obtain ⟨g7, hf⟩ := gd_s hf
    refine r_getI hX hn e_X10_areRingsRound_22 fl_10_315 rfl g7 ?_
    refine r_aload_n (i := 0) hX e_X10_areRingsRound_25 rfl rfl ?_
    refine r_getR hX hn e_X10_areRingsRound_26 fl_10_19 rfl g1 hr2 ?_
    refine r_getI hX hn e_X10_areRingsRound_29 fl_10_334 rfl g3 ?_
    refine r_imul hX e_X10_areRingsRound_32 ?_
    refine r_istore_n (i := 3) hX e_X10_areRingsRound_33 rfl (Nat.le_of_ble_eq_true rfl) rfl ?_
    refine r_iload_n (i := 3) hX e_X10_areRingsRound_34 rfl rfl ?_
    refine r_if_le hX e_X10_areRingsRound_35 (fun hc => ?_) (fun hc => ?_)
    · have hf := ite_t hf hc
      refine r_iinc (v := x2 + 1) hX e_X10_areRingsRound_46 rfl (ii_s ic_1) (Nat.le_of_ble_eq_true rfl) rfl ?_
      refine r_goto hX e_X10_areRingsRound_49 ?_
      exact GoN.weak (hk2 (x0) (x1) ((x2 + 1)) hf) rfl (sb_s (sb_s (sb_s (sb_n (sb_z _)))))
    · have hf := ite_f hf hc
      refine r_iload_n (i := 1) hX e_X10_areRingsRound_38 rfl rfl ?_
      refine r_iload_n (i := 3) hX e_X10_areRingsRound_39 rfl rfl ?_
      obtain ⟨g8, hf⟩ := gd_s hf
      refine r_irem hX e_X10_areRingsRound_40 (by simpa using g8) ?_
      obtain ⟨v9, hv9, hf⟩ := nx_s hf
      refine top_i hv9 ?_
      refine r_if_eq hX e_X10_areRingsRound_41 (fun hc => ?_) (fun hc => ?_)
      · have hf := ite_t hf hc
        refine r_iinc (v := x2 + 1) hX e_X10_areRingsRound_46 rfl (ii_s ic_1) (Nat.le_of_ble_eq_true rfl) rfl ?_
        refine r_goto hX e_X10_areRingsRound_49 ?_
        exact GoN.weak (hk2 (x0) (x1) ((x2 + 1)) hf) rfl (sb_s (sb_s (sb_s (sb_n (sb_z _)))))
      · have hf := ite_f hf hc
        refine r_iconst hX e_X10_areRingsRound_44 ic_0 ?_
        exact r_zret hX hR rfl e_X10_areRingsRound_45 (ro_s hf)
theorem t_X10_areRingsRound_2 {X : Cx} {M : Mem} {res : Int32}  (hX : OkX X cX10_areRingsRound RX10 0 0) (hn : Fit X shC nC) (hR : RetI X shC nC .boolean (M, res))  : ∀ (n : Nat) (x0 : Nat) (x1 : Int32) (x2 : Int32),  f_X10_areRingsRound_2 M  n x0 x1 x2 = some res → GoN X shC nC 0 0 M 2 [some (.ref (X.B + x0)), some (.int (x1)), some (.int (x2)), none] [] := by
  intro n
  induction n with
  | zero => intro x0 x1 x2 hf; cases hf
  | succ n ih => intro x0 x1 x2 hf; exact t_s_X10_areRingsRound_2 hX hn hR  ih x0 x1 x2 hf
theorem t_X10_areRingsRound {l : Launch} {M : Mem} {a0 : Nat} {a1 : Int32} {res : Int32} (hf : f_X10_areRingsRound M a0 a1 = some res) : Ci l yX10_areRingsRound cX10_areRingsRound 4 (some .boolean) 0 0 shC nC (fun K B => [.ref (B + a0), .int a1]) M (M, res) := by
  refine met_i (own := RX10) (lo := fun K B => [some (.ref (B + a0)), some (.int a1), none, none]) (by decide +kernel) rfl shC_ok (fun _ _ => rfl) (fun _ _ => rfl) (fun _ _ => Nat.le_of_ble_eq_true rfl) (fun X hX hn hlx hR => ?_)
  refine r_iconst hX e_X10_areRingsRound_0 ic_0 ?_
  refine r_istore_n (i := 2) hX e_X10_areRingsRound_1 rfl (Nat.le_of_ble_eq_true rfl) rfl ?_
  exact GoN.weak (t_X10_areRingsRound_2 hX hn hR FU (a0) (a1) (0) hf) rfl (sb_s (sb_s (sb_s (sb_n (sb_z _)))))
def s_X10_again_15 (M : Mem) (k15 : Nat → Int32 → Option (Int32)) (x0 : Nat) (x1 : Int32) : Option (Int32) :=
  if 3600 < x1 then some (-1) else gd (oB shC x0 10) <| bd (f_X10_areRingsRound M x0 x1) fun v2 => if v2 = 0 then k15 (x0) ((x1 + 1)) else some x1
def f_X10_again_15 (M : Mem)  : Nat → Nat → Int32 → Option (Int32)
  | 0 => fun _ _ => none
  | n + 1 => fun y0 y1 => s_X10_again_15 M  (f_X10_again_15 M  n) y0 y1
def f_X10_again (M : Mem) (a0 : Nat) : Option (Int32) :=
  gd (oB shC a0 10) <| bd (gR M a0 1) fun r2 => gd (oB shC r2 4) <| bd (f_X4_isTold M r2) fun v4 => if v4 = 0 then some (-2) else f_X10_again_15 M FU (a0) (1)
theorem t_s_X10_again_15 {X : Cx} {M : Mem} {res : Int32} {k15 : Nat → Int32 → Option (Int32)} (hX : OkX X cX10_again RX10 1 23) (hn : Fit X shC nC) (hR : RetI X shC nC .int (M, res)) (hk15 : ∀ x0 x1, k15 x0 x1 = some res → GoN X shC nC 0 0 M 15 [some (.ref (X.B + x0)), some (.int (x1))] []) (x0 : Nat) (x1 : Int32) (hf : s_X10_again_15 M k15 x0 x1 = some res) : GoN X shC nC 0 0 M 15 [some (.ref (X.B + x0)), some (.int (x1))] [] := by
  refine r_iload_n (i := 1) hX e_X10_again_15 rfl rfl ?_
  refine r_sipush hX e_X10_again_16 sc_3600 ?_
  refine r_icmp_gt hX e_X10_again_19 (fun hc => ?_) (fun hc => ?_)
  · have hf := ite_t hf hc
    refine r_iconst hX e_X10_again_38 ic_m1 ?_
    exact r_iret hX hR e_X10_again_39 (ro_s hf)
  · have hf := ite_f hf hc
    refine r_aload_n (i := 0) hX e_X10_again_22 rfl rfl ?_
    refine r_iload_n (i := 1) hX e_X10_again_23 rfl rfl ?_
    obtain ⟨g1, hf⟩ := gd_s hf
    obtain ⟨v2, hv2, hf⟩ := bd_s hf
    refine r_cvi (As := fun K B => [.int (x1)]) hX hn (t_X10_areRingsRound hv2) e_X10_again_24 cw_X10_areRingsRound cv_X10_areRingsRound lk_10_320 ⟨Nat.le_of_ble_eq_true rfl, Nat.le_of_ble_eq_true rfl⟩ (ci := 10) rfl rfl (Nat.le_of_ble_eq_true rfl) g1 rfl rfl (Nat.le_of_ble_eq_true rfl) ⟨Nat.zero_le _, Nat.zero_le _⟩ ?_
    refine r_if_eq hX e_X10_again_27 (fun hc => ?_) (fun hc => ?_)
    · have hf := ite_t hf hc
      refine r_iinc (v := x1 + 1) hX e_X10_again_32 rfl (ii_s ic_1) (Nat.le_of_ble_eq_true rfl) rfl ?_
      refine r_goto hX e_X10_again_35 ?_
      exact GoN.weak (hk15 (x0) ((x1 + 1)) hf) rfl (sb_s (sb_s (sb_z _)))
    · have hf := ite_f hf hc
      refine r_iload_n (i := 1) hX e_X10_again_30 rfl rfl ?_
      exact r_iret hX hR e_X10_again_31 (ro_s hf)
theorem t_X10_again_15 {X : Cx} {M : Mem} {res : Int32}  (hX : OkX X cX10_again RX10 1 23) (hn : Fit X shC nC) (hR : RetI X shC nC .int (M, res))  : ∀ (n : Nat) (x0 : Nat) (x1 : Int32),  f_X10_again_15 M  n x0 x1 = some res → GoN X shC nC 0 0 M 15 [some (.ref (X.B + x0)), some (.int (x1))] [] := by
  intro n
  induction n with
  | zero => intro x0 x1 hf; cases hf
  | succ n ih => intro x0 x1 hf; exact t_s_X10_again_15 hX hn hR  ih x0 x1 hf
theorem t_X10_again {l : Launch} {M : Mem} {a0 : Nat} {res : Int32} (hf : f_X10_again M a0 = some res) : Ci l yX10_again cX10_again 2 (some .int) 1 23 shC nC (fun K B => [.ref (B + a0)]) M (M, res) := by
  refine met_i (own := RX10) (lo := fun K B => [some (.ref (B + a0)), none]) (by decide +kernel) rfl shC_ok (fun _ _ => rfl) (fun _ _ => rfl) (fun _ _ => Nat.le_of_ble_eq_true rfl) (fun X hX hn hlx hR => ?_)
  refine r_aload_n (i := 0) hX e_X10_again_0 rfl rfl ?_
  obtain ⟨g1, hf⟩ := gd_s hf
  obtain ⟨r2, hr2, hf⟩ := bd_s hf
  refine r_getR hX hn e_X10_again_1 fl_10_19 rfl g1 hr2 ?_
  obtain ⟨g3, hf⟩ := gd_s hf
  obtain ⟨v4, hv4, hf⟩ := bd_s hf
  refine r_cvi (As := fun K B => []) hX hn (t_X4_isTold hv4) e_X10_again_4 cw_X4_isTold cv_X4_isTold lk_10_210 ⟨Nat.le_of_ble_eq_true rfl, Nat.le_of_ble_eq_true rfl⟩ (ci := 4) rfl rfl (Nat.le_of_ble_eq_true rfl) g3 rfl rfl (Nat.le_of_ble_eq_true rfl) ⟨Nat.zero_le _, Nat.zero_le _⟩ ?_
  refine r_if_ne hX e_X10_again_7 (fun hc => ?_) (fun hc => ?_)
  · have hf := ite_f hf hc
    refine r_iconst hX e_X10_again_13 ic_1 ?_
    refine r_istore_n (i := 1) hX e_X10_again_14 rfl (Nat.le_of_ble_eq_true rfl) rfl ?_
    exact GoN.weak (t_X10_again_15 hX hn hR FU (a0) (1) hf) rfl (sb_s (sb_s (sb_z _)))
  · have hf := ite_t hf hc
    refine r_bipush hX e_X10_again_10 bc_m2 ?_
    exact r_iret hX hR e_X10_again_12 (ro_s hf)
def f_X10_areOdds (M : Mem) (a0 : Int32) (a1 : Int32) : Option (Int32) :=
  if a0 < 0 then some 0 else if 2000000000 < a0 then some 0 else if a1 < 0 then some 0 else if 100 < a1 then some 0 else some 1
theorem t_X10_areOdds {l : Launch} {M : Mem} {a0 a1 : Int32} {res : Int32} (hf : f_X10_areOdds M a0 a1 = some res) : Ci l yX10_areOdds cX10_areOdds 2 (some .boolean) 0 0 shC nC (fun K B => [.int a0, .int a1]) M (M, res) := by
  refine met_i (own := RX10) (lo := fun K B => [some (.int a0), some (.int a1)]) (by decide +kernel) rfl shC_ok (fun _ _ => rfl) (fun _ _ => rfl) (fun _ _ => Nat.le_of_ble_eq_true rfl) (fun X hX hn hlx hR => ?_)
  refine r_iload_n (i := 0) hX e_X10_areOdds_0 rfl rfl ?_
  refine r_if_lt hX e_X10_areOdds_1 (fun hc => ?_) (fun hc => ?_)
  · have hf := ite_t hf hc
    refine r_iconst hX e_X10_areOdds_25 ic_0 ?_
    exact r_zret hX hR rfl e_X10_areOdds_26 (ro_s hf)
  · have hf := ite_f hf hc
    refine r_iload_n (i := 0) hX e_X10_areOdds_4 rfl rfl ?_
    refine r_ldcw hX e_X10_areOdds_5 wk_1052 ?_
    refine r_icmp_gt hX e_X10_areOdds_8 (fun hc => ?_) (fun hc => ?_)
    · have hf := ite_t hf hc
      refine r_iconst hX e_X10_areOdds_25 ic_0 ?_
      exact r_zret hX hR rfl e_X10_areOdds_26 (ro_s hf)
    · have hf := ite_f hf hc
      refine r_iload_n (i := 1) hX e_X10_areOdds_11 rfl rfl ?_
      refine r_if_lt hX e_X10_areOdds_12 (fun hc => ?_) (fun hc => ?_)
      · have hf := ite_t hf hc
        refine r_iconst hX e_X10_areOdds_25 ic_0 ?_
        exact r_zret hX hR rfl e_X10_areOdds_26 (ro_s hf)
      · have hf := ite_f hf hc
        refine r_iload_n (i := 1) hX e_X10_areOdds_15 rfl rfl ?_
        refine r_bipush hX e_X10_areOdds_16 bc_100 ?_
        refine r_icmp_gt hX e_X10_areOdds_18 (fun hc => ?_) (fun hc => ?_)
        · have hf := ite_t hf hc
          refine r_iconst hX e_X10_areOdds_25 ic_0 ?_
          exact r_zret hX hR rfl e_X10_areOdds_26 (ro_s hf)
        · have hf := ite_f hf hc
          refine r_iconst hX e_X10_areOdds_21 ic_1 ?_
          refine r_goto hX e_X10_areOdds_22 ?_
          exact r_zret hX hR rfl e_X10_areOdds_26 (ro_s hf)
def s_X10_drawnHour_24 (k12 : Mem → Nat → Int32 → Nat → Int64 → Int32 → Option (Mem × Nat)) (k24 : Mem → Nat → Int32 → Nat → Int64 → Int32 → Int32 → Option (Mem × Nat)) (M : Mem) (x0 : Nat) (x2 : Int32) (x3 : Nat) (x4 : Int64) (x6 : Int32) (x7 : Int32) : Option (Mem × Nat) :=
  gd (oB shC x3 4) <| if (gI M x3 3) ≤ x7 then k12 M (x0) (x2) (x3) (x4) ((x6 + 1)) else nx ((((1103515245 * x4) + 12345) - ((1103515245 * x4) + 12345) / 2147483648 * 2147483648)) fun v2 => nx ((lg_cmp ((v2 / 65536) - (v2 / 65536) / 100 * 100) ((x2 : Int32).toInt64))) fun v3 => if 0 ≤ v3 then k24 M (x0) (x2) (x3) (v2) (x6) ((x7 + 1)) else bd (gR M x3 6) fun r4 => gd (aB shC r4 4 x7) <| bd (gR M r4 (x7 : Int32).toNatClampNeg) fun r6 => gd (oB shC r6 7) <| nx (((gL M r6 2) ||| (1 <<< ((x6 : Int32).toInt64 &&& 63)))) fun v8 => nx (sL M r6 2 v8) fun M9 => k24 M9 (x0) (x2) (x3) (v2) (x6) ((x7 + 1))
def f_X10_drawnHour_24 (k12 : Mem → Nat → Int32 → Nat → Int64 → Int32 → Option (Mem × Nat)) : Nat → Mem → Nat → Int32 → Nat → Int64 → Int32 → Int32 → Option (Mem × Nat)
  | 0 => fun _ _ _ _ _ _ _ => none
  | n + 1 => fun y0 y1 y2 y3 y4 y5 y6 => s_X10_drawnHour_24 k12 (f_X10_drawnHour_24 k12 n) y0 y1 y2 y3 y4 y5 y6
def s_X10_drawnHour_12 (k12 : Mem → Nat → Int32 → Nat → Int64 → Int32 → Option (Mem × Nat)) (M : Mem) (x0 : Nat) (x2 : Int32) (x3 : Nat) (x4 : Int64) (x6 : Int32) : Option (Mem × Nat) :=
  gd (oB shC x3 4) <| if (gI M x3 1) ≤ x6 then gd (oB shC x0 10) <| bd (f_X10_trialHour M x0 x3) fun u3 => some (u3.1, u3.2) else f_X10_drawnHour_24 k12 FU M (x0) (x2) (x3) (x4) (x6) (0)
def f_X10_drawnHour_12  : Nat → Mem → Nat → Int32 → Nat → Int64 → Int32 → Option (Mem × Nat)
  | 0 => fun _ _ _ _ _ _ => none
  | n + 1 => fun y0 y1 y2 y3 y4 y5 => s_X10_drawnHour_12  (f_X10_drawnHour_12  n) y0 y1 y2 y3 y4 y5
def f_X10_drawnHour (M : Mem) (a0 : Nat) (a1 : Int32) (a2 : Int32) : Option (Mem × Nat) :=
  gd (oB shC a0 10) <| bd (f_X10_trialMarket M a0) fun u2 => f_X10_drawnHour_12 FU u2.1 (a0) (a2) (u2.2) ((a1 : Int32).toInt64) (0)
theorem t_s_X10_drawnHour_24 {X : Cx} {res : Mem × Nat} {k12 : Mem → Nat → Int32 → Nat → Int64 → Int32 → Option (Mem × Nat)} {k24 : Mem → Nat → Int32 → Nat → Int64 → Int32 → Int32 → Option (Mem × Nat)} (hX : OkX X cX10_drawnHour RX10 6 140) (hn : Fit X shC nC) (hR : RetR X shC nC (.object "TurningMarket$Hour") res) (hk12 : ∀ M x0 x2 x3 x4 x6, k12 M x0 x2 x3 x4 x6 = some res → GoN X shC nC 0 0 M 12 [some (.ref (X.B + x0)), none, some (.int (x2)), some (.ref (X.B + x3)), some (.long (x4)), none, some (.int (x6)), none] []) (hk24 : ∀ M x0 x2 x3 x4 x6 x7, k24 M x0 x2 x3 x4 x6 x7 = some res → GoN X shC nC 0 0 M 24 [some (.ref (X.B + x0)), none, some (.int (x2)), some (.ref (X.B + x3)), some (.long (x4)), none, some (.int (x6)), some (.int (x7))] []) (M : Mem) (x0 : Nat) (x2 : Int32) (x3 : Nat) (x4 : Int64) (x6 : Int32) (x7 : Int32) (hf : s_X10_drawnHour_24 k12 k24 M x0 x2 x3 x4 x6 x7 = some res) : GoN X shC nC 0 0 M 24 [some (.ref (X.B + x0)), none, some (.int (x2)), some (.ref (X.B + x3)), some (.long (x4)), none, some (.int (x6)), some (.int (x7))] [] := by
  refine r_iload hX e_X10_drawnHour_24 rfl ?_
  refine r_aload_n (i := 3) hX e_X10_drawnHour_26 rfl rfl ?_
  obtain ⟨g1, hf⟩ := gd_s hf
  refine r_getI hX hn e_X10_drawnHour_27 fl_10_308 rfl g1 ?_
  refine r_icmp_ge hX e_X10_drawnHour_30 (fun hc => ?_) (fun hc => ?_)
  · have hf := ite_t hf hc
    refine r_iinc (v := x6 + 1) hX e_X10_drawnHour_90 rfl (ii_s ic_1) (Nat.le_of_ble_eq_true rfl) rfl ?_
    refine r_goto hX e_X10_drawnHour_93 ?_
    exact GoN.weak (hk12 M (x0) (x2) (x3) (x4) ((x6 + 1)) hf) rfl (sb_s (sb_n (sb_s (sb_s (sb_s (sb_n (sb_s (sb_n (sb_z _)))))))))
  · have hf := ite_f hf hc
    refine r_ldc2 hX e_X10_drawnHour_33 wk_1057 ?_
    refine r_lload hX e_X10_drawnHour_36 rfl ?_
    refine r_lmul hX e_X10_drawnHour_38 ?_
    refine r_ldc2 hX e_X10_drawnHour_39 wk_1058 ?_
    refine r_ladd hX e_X10_drawnHour_42 ?_
    refine r_ldc2 hX e_X10_drawnHour_43 wk_1059 ?_
    refine r_lrem hX e_X10_drawnHour_46 (by decide) ?_
    obtain ⟨v2, hv2, hf⟩ := nx_s hf
    refine top_l hv2 ?_
    refine r_lstore hX e_X10_drawnHour_47 (Nat.le_of_ble_eq_true rfl) rfl ?_
    refine r_lload hX e_X10_drawnHour_49 rfl ?_
    refine r_ldc2 hX e_X10_drawnHour_51 wk_1060 ?_
    refine r_ldiv hX e_X10_drawnHour_54 (by decide) ?_
    refine r_ldc2 hX e_X10_drawnHour_55 wk_1061 ?_
    refine r_lrem hX e_X10_drawnHour_58 (by decide) ?_
    refine r_iload_n (i := 2) hX e_X10_drawnHour_59 rfl rfl ?_
    refine r_i2l hX e_X10_drawnHour_60 ?_
    refine r_lcmp hX e_X10_drawnHour_61 ?_
    obtain ⟨v3, hv3, hf⟩ := nx_s hf
    refine top_i hv3 ?_
    refine r_if_ge hX e_X10_drawnHour_62 (fun hc => ?_) (fun hc => ?_)
    · have hf := ite_t hf hc
      refine r_iinc (v := x7 + 1) hX e_X10_drawnHour_84 rfl (ii_s ic_1) (Nat.le_of_ble_eq_true rfl) rfl ?_
      refine r_goto hX e_X10_drawnHour_87 ?_
      exact GoN.weak (hk24 M (x0) (x2) (x3) (v2) (x6) ((x7 + 1)) hf) rfl (sb_s (sb_n (sb_s (sb_s (sb_s (sb_n (sb_s (sb_s (sb_z _)))))))))
    · have hf := ite_f hf hc
      refine r_aload_n (i := 3) hX e_X10_drawnHour_65 rfl rfl ?_
      obtain ⟨r4, hr4, hf⟩ := bd_s hf
      refine r_getR hX hn e_X10_drawnHour_66 fl_10_311 rfl g1 hr4 ?_
      refine r_iload hX e_X10_drawnHour_69 rfl ?_
      obtain ⟨g5, hf⟩ := gd_s hf
      obtain ⟨r6, hr6, hf⟩ := bd_s hf
      refine r_aald hX hn e_X10_drawnHour_71 g5 (Nat.le_of_ble_eq_true rfl) rfl rfl rfl hr6 ?_
      refine r_dup hX e_X10_drawnHour_72 rfl ?_
      obtain ⟨g7, hf⟩ := gd_s hf
      refine r_getL hX hn e_X10_drawnHour_73 fl_10_371 rfl g7 ?_
      refine r_lconst hX e_X10_drawnHour_76 lc_1 ?_
      refine r_iload hX e_X10_drawnHour_77 rfl ?_
      refine r_lshl hX e_X10_drawnHour_79 ?_
      refine r_lor hX e_X10_drawnHour_80 ?_
      obtain ⟨v8, hv8, hf⟩ := nx_s hf
      refine top_l hv8 ?_
      obtain ⟨M9, hM9, hf⟩ := nx_s hf
      refine r_putL hX hn hM9 e_X10_drawnHour_81 fl_10_371 fp_7_2 rfl g7 ?_
      refine r_iinc (v := x7 + 1) hX e_X10_drawnHour_84 rfl (ii_s ic_1) (Nat.le_of_ble_eq_true rfl) rfl ?_
      refine r_goto hX e_X10_drawnHour_87 ?_
      exact GoN.weak (hk24 M9 (x0) (x2) (x3) (v2) (x6) ((x7 + 1)) hf) rfl (sb_s (sb_n (sb_s (sb_s (sb_s (sb_n (sb_s (sb_s (sb_z _)))))))))
theorem t_X10_drawnHour_24 {X : Cx} {res : Mem × Nat} {k12 : Mem → Nat → Int32 → Nat → Int64 → Int32 → Option (Mem × Nat)} (hX : OkX X cX10_drawnHour RX10 6 140) (hn : Fit X shC nC) (hR : RetR X shC nC (.object "TurningMarket$Hour") res) (hk12 : ∀ M x0 x2 x3 x4 x6, k12 M x0 x2 x3 x4 x6 = some res → GoN X shC nC 0 0 M 12 [some (.ref (X.B + x0)), none, some (.int (x2)), some (.ref (X.B + x3)), some (.long (x4)), none, some (.int (x6)), none] []) : ∀ (n : Nat) (M : Mem) (x0 : Nat) (x2 : Int32) (x3 : Nat) (x4 : Int64) (x6 : Int32) (x7 : Int32),  f_X10_drawnHour_24 k12 n M x0 x2 x3 x4 x6 x7 = some res → GoN X shC nC 0 0 M 24 [some (.ref (X.B + x0)), none, some (.int (x2)), some (.ref (X.B + x3)), some (.long (x4)), none, some (.int (x6)), some (.int (x7))] [] := by
  intro n
  induction n with
  | zero => intro M x0 x2 x3 x4 x6 x7 hf; cases hf
  | succ n ih => intro M x0 x2 x3 x4 x6 x7 hf; exact t_s_X10_drawnHour_24 hX hn hR hk12 ih M x0 x2 x3 x4 x6 x7 hf
theorem t_s_X10_drawnHour_12 {X : Cx} {res : Mem × Nat} {k12 : Mem → Nat → Int32 → Nat → Int64 → Int32 → Option (Mem × Nat)} (hX : OkX X cX10_drawnHour RX10 6 140) (hn : Fit X shC nC) (hR : RetR X shC nC (.object "TurningMarket$Hour") res) (hk12 : ∀ M x0 x2 x3 x4 x6, k12 M x0 x2 x3 x4 x6 = some res → GoN X shC nC 0 0 M 12 [some (.ref (X.B + x0)), none, some (.int (x2)), some (.ref (X.B + x3)), some (.long (x4)), none, some (.int (x6)), none] []) (M : Mem) (x0 : Nat) (x2 : Int32) (x3 : Nat) (x4 : Int64) (x6 : Int32) (hf : s_X10_drawnHour_12 k12 M x0 x2 x3 x4 x6 = some res) : GoN X shC nC 0 0 M 12 [some (.ref (X.B + x0)), none, some (.int (x2)), some (.ref (X.B + x3)), some (.long (x4)), none, some (.int (x6)), none] [] := by
  refine r_iload hX e_X10_drawnHour_12 rfl ?_
  refine r_aload_n (i := 3) hX e_X10_drawnHour_14 rfl rfl ?_
  obtain ⟨g1, hf⟩ := gd_s hf
  refine r_getI hX hn e_X10_drawnHour_15 fl_10_166 rfl g1 ?_
  refine r_icmp_ge hX e_X10_drawnHour_18 (fun hc => ?_) (fun hc => ?_)
  · have hf := ite_t hf hc
    refine r_aload_n (i := 0) hX e_X10_drawnHour_96 rfl rfl ?_
    refine r_aload_n (i := 3) hX e_X10_drawnHour_97 rfl rfl ?_
    obtain ⟨g2, hf⟩ := gd_s hf
    obtain ⟨u3, hu3, hf⟩ := bd_s hf
    refine r_cvr (As := fun K B => [.ref (B + x3)]) hX hn (t_X10_trialHour hu3) e_X10_drawnHour_98 cw_X10_trialHour cv_X10_trialHour lk_10_283 ⟨Nat.le_of_ble_eq_true rfl, Nat.le_of_ble_eq_true rfl⟩ (ci := 10) rfl rfl (Nat.le_of_ble_eq_true rfl) g2 rfl rfl (Nat.le_of_ble_eq_true rfl) ⟨Nat.zero_le _, Nat.zero_le _⟩ ?_
    exact r_aret hX hR e_X10_drawnHour_101 hf
  · have hf := ite_f hf hc
    refine r_iconst hX e_X10_drawnHour_21 ic_0 ?_
    refine r_istore hX e_X10_drawnHour_22 (Nat.le_of_ble_eq_true rfl) rfl ?_
    exact GoN.weak (t_X10_drawnHour_24 hX hn hR hk12 FU M (x0) (x2) (x3) (x4) (x6) (0) hf) rfl (sb_s (sb_n (sb_s (sb_s (sb_s (sb_n (sb_s (sb_s (sb_z _)))))))))
theorem t_X10_drawnHour_12 {X : Cx} {res : Mem × Nat}  (hX : OkX X cX10_drawnHour RX10 6 140) (hn : Fit X shC nC) (hR : RetR X shC nC (.object "TurningMarket$Hour") res)  : ∀ (n : Nat) (M : Mem) (x0 : Nat) (x2 : Int32) (x3 : Nat) (x4 : Int64) (x6 : Int32),  f_X10_drawnHour_12  n M x0 x2 x3 x4 x6 = some res → GoN X shC nC 0 0 M 12 [some (.ref (X.B + x0)), none, some (.int (x2)), some (.ref (X.B + x3)), some (.long (x4)), none, some (.int (x6)), none] [] := by
  intro n
  induction n with
  | zero => intro M x0 x2 x3 x4 x6 hf; cases hf
  | succ n ih => intro M x0 x2 x3 x4 x6 hf; exact t_s_X10_drawnHour_12 hX hn hR  ih M x0 x2 x3 x4 x6 hf
theorem t_X10_drawnHour {l : Launch} {M : Mem} {a0 : Nat} {a1 a2 : Int32} {res : Mem × Nat} (hf : f_X10_drawnHour M a0 a1 a2 = some res) : Cr l yX10_drawnHour cX10_drawnHour 8 (some (.object "TurningMarket$Hour")) 6 140 shC nC (fun K B => [.ref (B + a0), .int a1, .int a2]) M res := by
  refine met_r (own := RX10) (lo := fun K B => [some (.ref (B + a0)), some (.int a1), some (.int a2), none, none, none, none, none]) (by decide +kernel) rfl shC_ok (fun _ _ => rfl) (fun _ _ => rfl) (fun _ _ => Nat.le_of_ble_eq_true rfl) (fun X hX hn hlx hR => ?_)
  refine r_aload_n (i := 0) hX e_X10_drawnHour_0 rfl rfl ?_
  obtain ⟨g1, hf⟩ := gd_s hf
  obtain ⟨u2, hu2, hf⟩ := bd_s hf
  refine r_cvr (As := fun K B => []) hX hn (t_X10_trialMarket hu2) e_X10_drawnHour_1 cw_X10_trialMarket cv_X10_trialMarket lk_10_279 ⟨Nat.le_of_ble_eq_true rfl, Nat.le_of_ble_eq_true rfl⟩ (ci := 10) rfl rfl (Nat.le_of_ble_eq_true rfl) g1 rfl rfl (Nat.le_of_ble_eq_true rfl) ⟨Nat.zero_le _, Nat.zero_le _⟩ ?_
  refine r_astore_n (i := 3) hX e_X10_drawnHour_4 rfl (Nat.le_of_ble_eq_true rfl) rfl ?_
  refine r_iload_n (i := 1) hX e_X10_drawnHour_5 rfl rfl ?_
  refine r_i2l hX e_X10_drawnHour_6 ?_
  refine r_lstore hX e_X10_drawnHour_7 (Nat.le_of_ble_eq_true rfl) rfl ?_
  refine r_iconst hX e_X10_drawnHour_9 ic_0 ?_
  refine r_istore hX e_X10_drawnHour_10 (Nat.le_of_ble_eq_true rfl) rfl ?_
  exact GoN.weak (t_X10_drawnHour_12 hX hn hR FU u2.1 (a0) (a2) (u2.2) ((a1 : Int32).toInt64) (0) hf) rfl (sb_s (sb_n (sb_s (sb_s (sb_s (sb_n (sb_s (sb_n (sb_z _)))))))))
def f_X10_drawn (M : Mem) (a0 : Nat) (a1 : Int32) (a2 : Int32) : Option (Mem × Int32) :=
  gd (oB shC a0 10) <| bd (gR M a0 1) fun r2 => gd (oB shC r2 4) <| bd (f_X4_isTold M r2) fun v4 => if v4 = 0 then some (M, (-2)) else bd (f_X10_areOdds M a1 a2) fun v5 => if v5 = 0 then some (M, (-2)) else bd (f_X10_drawnHour M a0 a1 a2) fun u6 => gd (oB shC u6.2 3) <| some (u6.1, (gI u6.1 u6.2 4))
theorem t_X10_drawn {l : Launch} {M : Mem} {a0 : Nat} {a1 a2 : Int32} {res : Mem × Int32} (hf : f_X10_drawn M a0 a1 a2 = some res) : Ci l yX10_drawn cX10_drawn 3 (some .int) 7 167 shC nC (fun K B => [.ref (B + a0), .int a1, .int a2]) M res := by
  refine met_i (own := RX10) (lo := fun K B => [some (.ref (B + a0)), some (.int a1), some (.int a2)]) (by decide +kernel) rfl shC_ok (fun _ _ => rfl) (fun _ _ => rfl) (fun _ _ => Nat.le_of_ble_eq_true rfl) (fun X hX hn hlx hR => ?_)
  refine r_aload_n (i := 0) hX e_X10_drawn_0 rfl rfl ?_
  obtain ⟨g1, hf⟩ := gd_s hf
  obtain ⟨r2, hr2, hf⟩ := bd_s hf
  refine r_getR hX hn e_X10_drawn_1 fl_10_19 rfl g1 hr2 ?_
  obtain ⟨g3, hf⟩ := gd_s hf
  obtain ⟨v4, hv4, hf⟩ := bd_s hf
  refine r_cvi (As := fun K B => []) hX hn (t_X4_isTold hv4) e_X10_drawn_4 cw_X4_isTold cv_X4_isTold lk_10_210 ⟨Nat.le_of_ble_eq_true rfl, Nat.le_of_ble_eq_true rfl⟩ (ci := 4) rfl rfl (Nat.le_of_ble_eq_true rfl) g3 rfl rfl (Nat.le_of_ble_eq_true rfl) ⟨Nat.zero_le _, Nat.zero_le _⟩ ?_
  refine r_if_eq hX e_X10_drawn_7 (fun hc => ?_) (fun hc => ?_)
  · have hf := ite_t hf hc
    refine r_bipush hX e_X10_drawn_18 bc_m2 ?_
    exact r_iret hX hR e_X10_drawn_20 hf
  · have hf := ite_f hf hc
    refine r_iload_n (i := 1) hX e_X10_drawn_10 rfl rfl ?_
    refine r_iload_n (i := 2) hX e_X10_drawn_11 rfl rfl ?_
    obtain ⟨v5, hv5, hf⟩ := bd_s hf
    refine r_csi (As := fun K B => [.int (a1), .int (a2)]) hX hn (t_X10_areOdds hv5) e_X10_drawn_12 cw_X10_areOdds cv_X10_areOdds lk_10_323 ⟨Nat.le_of_ble_eq_true rfl, Nat.le_of_ble_eq_true rfl⟩ rfl rfl (Nat.le_of_ble_eq_true rfl) ⟨Nat.zero_le _, Nat.zero_le _⟩ ?_
    refine r_if_ne hX e_X10_drawn_15 (fun hc => ?_) (fun hc => ?_)
    · have hf := ite_f hf hc
      refine r_aload_n (i := 0) hX e_X10_drawn_21 rfl rfl ?_
      refine r_iload_n (i := 1) hX e_X10_drawn_22 rfl rfl ?_
      refine r_iload_n (i := 2) hX e_X10_drawn_23 rfl rfl ?_
      obtain ⟨u6, hu6, hf⟩ := bd_s hf
      refine r_cvr (As := fun K B => [.int (a1), .int (a2)]) hX hn (t_X10_drawnHour hu6) e_X10_drawn_24 cw_X10_drawnHour cv_X10_drawnHour lk_10_326 ⟨Nat.le_of_ble_eq_true rfl, Nat.le_of_ble_eq_true rfl⟩ (ci := 10) rfl rfl (Nat.le_of_ble_eq_true rfl) g1 rfl rfl (Nat.le_of_ble_eq_true rfl) ⟨Nat.zero_le _, Nat.zero_le _⟩ ?_
      obtain ⟨g7, hf⟩ := gd_s hf
      refine r_getI hX hn e_X10_drawn_27 fl_10_214 rfl g7 ?_
      exact r_iret hX hR e_X10_drawn_30 hf
    · have hf := ite_t hf hc
      refine r_bipush hX e_X10_drawn_18 bc_m2 ?_
      exact r_iret hX hR e_X10_drawn_20 hf
def s_X10_chance_40 (k40 : Mem → Nat → Int32 → Int32 → Int32 → Int32 → Int32 → Int32 → Option (Mem × Int32)) (M : Mem) (x0 : Nat) (x1 : Int32) (x2 : Int32) (x3 : Int32) (x4 : Int32) (x5 : Int32) (x6 : Int32) : Option (Mem × Int32) :=
  if x2 ≤ x6 then some (M, x5) else gd (oB shC x0 10) <| bd (f_X10_drawnHour M x0 (x1 + x6) x3) fun u2 => gd (oB shC u2.2 3) <| bd (gR u2.1 u2.2 9) fun r4 => gd (aB shC r4 0 x4) <| if (gI u2.1 r4 (x4 : Int32).toNatClampNeg) = (-1) then k40 u2.1 (x0) (x1) (x2) (x3) (x4) (x5) ((x6 + 1)) else k40 u2.1 (x0) (x1) (x2) (x3) (x4) ((x5 + 1)) ((x6 + 1))
def f_X10_chance_40  : Nat → Mem → Nat → Int32 → Int32 → Int32 → Int32 → Int32 → Int32 → Option (Mem × Int32)
  | 0 => fun _ _ _ _ _ _ _ _ => none
  | n + 1 => fun y0 y1 y2 y3 y4 y5 y6 y7 => s_X10_chance_40  (f_X10_chance_40  n) y0 y1 y2 y3 y4 y5 y6 y7
def f_X10_chance (M : Mem) (a0 : Nat) (a1 : Int32) (a2 : Int32) (a3 : Int32) (a4 : Int32) : Option (Mem × Int32) :=
  bd (f_X10_areOdds M a1 a3) fun v1 => if v1 = 0 then some (M, (-2)) else if a2 < 1 then some (M, (-2)) else if 20 < a2 then some (M, (-2)) else gd (oB shC a0 10) <| bd (gR M a0 1) fun r3 => gd (oB shC r3 4) <| bd (f_X4_hasBuyer M r3 a4) fun v5 => if v5 = 0 then some (M, (-2)) else f_X10_chance_40 FU M (a0) (a1) (a2) (a3) (a4) (0) (0)
theorem t_s_X10_chance_40 {X : Cx} {res : Mem × Int32} {k40 : Mem → Nat → Int32 → Int32 → Int32 → Int32 → Int32 → Int32 → Option (Mem × Int32)} (hX : OkX X cX10_chance RX10 7 167) (hn : Fit X shC nC) (hR : RetI X shC nC .int res) (hk40 : ∀ M x0 x1 x2 x3 x4 x5 x6, k40 M x0 x1 x2 x3 x4 x5 x6 = some res → GoN X shC nC 0 0 M 40 [some (.ref (X.B + x0)), some (.int (x1)), some (.int (x2)), some (.int (x3)), some (.int (x4)), some (.int (x5)), some (.int (x6))] []) (M : Mem) (x0 : Nat) (x1 : Int32) (x2 : Int32) (x3 : Int32) (x4 : Int32) (x5 : Int32) (x6 : Int32) (hf : s_X10_chance_40 k40 M x0 x1 x2 x3 x4 x5 x6 = some res) : GoN X shC nC 0 0 M 40 [some (.ref (X.B + x0)), some (.int (x1)), some (.int (x2)), some (.int (x3)), some (.int (x4)), some (.int (x5)), some (.int (x6))] [] := by
  refine r_iload hX e_X10_chance_40 rfl ?_
  refine r_iload_n (i := 2) hX e_X10_chance_42 rfl rfl ?_
  refine r_icmp_ge hX e_X10_chance_43 (fun hc => ?_) (fun hc => ?_)
  · have hf := ite_t hf hc
    refine r_iload hX e_X10_chance_74 rfl ?_
    exact r_iret hX hR e_X10_chance_76 hf
  · have hf := ite_f hf hc
    refine r_aload_n (i := 0) hX e_X10_chance_46 rfl rfl ?_
    refine r_iload_n (i := 1) hX e_X10_chance_47 rfl rfl ?_
    refine r_iload hX e_X10_chance_48 rfl ?_
    refine r_iadd hX e_X10_chance_50 ?_
    refine r_iload_n (i := 3) hX e_X10_chance_51 rfl rfl ?_
    obtain ⟨g1, hf⟩ := gd_s hf
    obtain ⟨u2, hu2, hf⟩ := bd_s hf
    refine r_cvr (As := fun K B => [.int ((x1 + x6)), .int (x3)]) hX hn (t_X10_drawnHour hu2) e_X10_chance_52 cw_X10_drawnHour cv_X10_drawnHour lk_10_326 ⟨Nat.le_of_ble_eq_true rfl, Nat.le_of_ble_eq_true rfl⟩ (ci := 10) rfl rfl (Nat.le_of_ble_eq_true rfl) g1 rfl rfl (Nat.le_of_ble_eq_true rfl) ⟨Nat.zero_le _, Nat.zero_le _⟩ ?_
    obtain ⟨g3, hf⟩ := gd_s hf
    obtain ⟨r4, hr4, hf⟩ := bd_s hf
    refine r_getR hX hn e_X10_chance_55 fl_10_204 rfl g3 hr4 ?_
    refine r_iload hX e_X10_chance_58 rfl ?_
    obtain ⟨g5, hf⟩ := gd_s hf
    refine r_iald hX hn e_X10_chance_60 g5 ?_
    refine r_iconst hX e_X10_chance_61 ic_m1 ?_
    refine r_icmp_eq hX e_X10_chance_62 (fun hc => ?_) (fun hc => ?_)
    · have hf := ite_t hf hc
      refine r_iinc (v := x6 + 1) hX e_X10_chance_68 rfl (ii_s ic_1) (Nat.le_of_ble_eq_true rfl) rfl ?_
      refine r_goto hX e_X10_chance_71 ?_
      exact GoN.weak (hk40 u2.1 (x0) (x1) (x2) (x3) (x4) (x5) ((x6 + 1)) hf) rfl (sb_s (sb_s (sb_s (sb_s (sb_s (sb_s (sb_s (sb_z _))))))))
    · have hf := ite_f hf hc
      refine r_iinc (v := x5 + 1) hX e_X10_chance_65 rfl (ii_s ic_1) (Nat.le_of_ble_eq_true rfl) rfl ?_
      refine r_iinc (v := x6 + 1) hX e_X10_chance_68 rfl (ii_s ic_1) (Nat.le_of_ble_eq_true rfl) rfl ?_
      refine r_goto hX e_X10_chance_71 ?_
      exact GoN.weak (hk40 u2.1 (x0) (x1) (x2) (x3) (x4) ((x5 + 1)) ((x6 + 1)) hf) rfl (sb_s (sb_s (sb_s (sb_s (sb_s (sb_s (sb_s (sb_z _))))))))
theorem t_X10_chance_40 {X : Cx} {res : Mem × Int32}  (hX : OkX X cX10_chance RX10 7 167) (hn : Fit X shC nC) (hR : RetI X shC nC .int res)  : ∀ (n : Nat) (M : Mem) (x0 : Nat) (x1 : Int32) (x2 : Int32) (x3 : Int32) (x4 : Int32) (x5 : Int32) (x6 : Int32),  f_X10_chance_40  n M x0 x1 x2 x3 x4 x5 x6 = some res → GoN X shC nC 0 0 M 40 [some (.ref (X.B + x0)), some (.int (x1)), some (.int (x2)), some (.int (x3)), some (.int (x4)), some (.int (x5)), some (.int (x6))] [] := by
  intro n
  induction n with
  | zero => intro M x0 x1 x2 x3 x4 x5 x6 hf; cases hf
  | succ n ih => intro M x0 x1 x2 x3 x4 x5 x6 hf; exact t_s_X10_chance_40 hX hn hR  ih M x0 x1 x2 x3 x4 x5 x6 hf
theorem t_X10_chance {l : Launch} {M : Mem} {a0 : Nat} {a1 a2 a3 a4 : Int32} {res : Mem × Int32} (hf : f_X10_chance M a0 a1 a2 a3 a4 = some res) : Ci l yX10_chance cX10_chance 7 (some .int) 7 167 shC nC (fun K B => [.ref (B + a0), .int a1, .int a2, .int a3, .int a4]) M res := by
  refine met_i (own := RX10) (lo := fun K B => [some (.ref (B + a0)), some (.int a1), some (.int a2), some (.int a3), some (.int a4), none, none]) (by decide +kernel) rfl shC_ok (fun _ _ => rfl) (fun _ _ => rfl) (fun _ _ => Nat.le_of_ble_eq_true rfl) (fun X hX hn hlx hR => ?_)
  refine r_iload_n (i := 1) hX e_X10_chance_0 rfl rfl ?_
  refine r_iload_n (i := 3) hX e_X10_chance_1 rfl rfl ?_
  obtain ⟨v1, hv1, hf⟩ := bd_s hf
  refine r_csi (As := fun K B => [.int (a1), .int (a3)]) hX hn (t_X10_areOdds hv1) e_X10_chance_2 cw_X10_areOdds cv_X10_areOdds lk_10_323 ⟨Nat.le_of_ble_eq_true rfl, Nat.le_of_ble_eq_true rfl⟩ rfl rfl (Nat.le_of_ble_eq_true rfl) ⟨Nat.zero_le _, Nat.zero_le _⟩ ?_
  refine r_if_eq hX e_X10_chance_5 (fun hc => ?_) (fun hc => ?_)
  · have hf := ite_t hf hc
    refine r_bipush hX e_X10_chance_31 bc_m2 ?_
    exact r_iret hX hR e_X10_chance_33 hf
  · have hf := ite_f hf hc
    refine r_iload_n (i := 2) hX e_X10_chance_8 rfl rfl ?_
    refine r_iconst hX e_X10_chance_9 ic_1 ?_
    refine r_icmp_lt hX e_X10_chance_10 (fun hc => ?_) (fun hc => ?_)
    · have hf := ite_t hf hc
      refine r_bipush hX e_X10_chance_31 bc_m2 ?_
      exact r_iret hX hR e_X10_chance_33 hf
    · have hf := ite_f hf hc
      refine r_iload_n (i := 2) hX e_X10_chance_13 rfl rfl ?_
      refine r_bipush hX e_X10_chance_14 bc_20 ?_
      refine r_icmp_gt hX e_X10_chance_16 (fun hc => ?_) (fun hc => ?_)
      · have hf := ite_t hf hc
        refine r_bipush hX e_X10_chance_31 bc_m2 ?_
        exact r_iret hX hR e_X10_chance_33 hf
      · have hf := ite_f hf hc
        refine r_aload_n (i := 0) hX e_X10_chance_19 rfl rfl ?_
        obtain ⟨g2, hf⟩ := gd_s hf
        obtain ⟨r3, hr3, hf⟩ := bd_s hf
        refine r_getR hX hn e_X10_chance_20 fl_10_19 rfl g2 hr3 ?_
        refine r_iload hX e_X10_chance_23 rfl ?_
        obtain ⟨g4, hf⟩ := gd_s hf
        obtain ⟨v5, hv5, hf⟩ := bd_s hf
        refine r_cvi (As := fun K B => [.int (a4)]) hX hn (t_X4_hasBuyer hv5) e_X10_chance_25 cw_X4_hasBuyer cv_X4_hasBuyer lk_10_118 ⟨Nat.le_of_ble_eq_true rfl, Nat.le_of_ble_eq_true rfl⟩ (ci := 4) rfl rfl (Nat.le_of_ble_eq_true rfl) g4 rfl rfl (Nat.le_of_ble_eq_true rfl) ⟨Nat.zero_le _, Nat.zero_le _⟩ ?_
        refine r_if_ne hX e_X10_chance_28 (fun hc => ?_) (fun hc => ?_)
        · have hf := ite_f hf hc
          refine r_iconst hX e_X10_chance_34 ic_0 ?_
          refine r_istore hX e_X10_chance_35 (Nat.le_of_ble_eq_true rfl) rfl ?_
          refine r_iconst hX e_X10_chance_37 ic_0 ?_
          refine r_istore hX e_X10_chance_38 (Nat.le_of_ble_eq_true rfl) rfl ?_
          exact GoN.weak (t_X10_chance_40 hX hn hR FU M (a0) (a1) (a2) (a3) (a4) (0) (0) hf) rfl (sb_s (sb_s (sb_s (sb_s (sb_s (sb_s (sb_s (sb_z _))))))))
        · have hf := ite_t hf hc
          refine r_bipush hX e_X10_chance_31 bc_m2 ?_
          exact r_iret hX hR e_X10_chance_33 hf
def s_X10_judge_45 (k45 : Mem → Nat → Nat → Int32 → Option (Mem × Int32)) (M : Mem) (x2 : Nat) (x3 : Nat) (x4 : Int32) : Option (Mem × Int32) :=
  gd (oB shC x2 8) <| if (gI M x2 2) ≤ x4 then some (M, x4) else gd (oB shC x3 3) <| if (gI M x3 4) ≤ x4 then some (M, x4) else bd (gR M x2 3) fun r3 => gd (aB shC r3 1 x4) <| bd (gR M x3 8) fun r5 => gd (aB shC r5 0 x4) <| nx (((gI M r5 (x4 : Int32).toNatClampNeg) : Int32).toInt64) fun v7 => nx ((lg_cmp (gL M r3 (x4 : Int32).toNatClampNeg) v7)) fun v8 => if v8 = 0 then k45 M (x2) (x3) ((x4 + 1)) else some (M, x4)
def f_X10_judge_45  : Nat → Mem → Nat → Nat → Int32 → Option (Mem × Int32)
  | 0 => fun _ _ _ _ => none
  | n + 1 => fun y0 y1 y2 y3 => s_X10_judge_45  (f_X10_judge_45  n) y0 y1 y2 y3
def f_X10_judge (M : Mem) (a0 : Nat) (a1 : Int32) : Option (Mem × Int32) :=
  bd (f_X10_isSlot M a1) fun v1 => if v1 = 0 then some (M, (-2)) else gd (oB shC a0 10) <| bd (gR M a0 1) fun r3 => gd (oB shC r3 4) <| bd (f_X4_isTold M r3) fun v5 => if v5 = 0 then some (M, (-2)) else bd (gR M a0 5) fun r6 => gd (aB shC r6 8 a1) <| bd (gR M r6 (a1 : Int32).toNatClampNeg) fun r8 => gd (oB shC r8 8) <| if (gI M r8 0) = 0 then some (M, (-6)) else bd (f_X10_toldHour M a0) fun u10 => f_X10_judge_45 FU u10.1 (r8) (u10.2) (0)
theorem t_s_X10_judge_45 {X : Cx} {res : Mem × Int32} {k45 : Mem → Nat → Nat → Int32 → Option (Mem × Int32)} (hX : OkX X cX10_judge RX10 6 139) (hn : Fit X shC nC) (hR : RetI X shC nC .int res) (hk45 : ∀ M x2 x3 x4, k45 M x2 x3 x4 = some res → GoN X shC nC 0 0 M 45 [none, none, some (.ref (X.B + x2)), some (.ref (X.B + x3)), some (.int (x4))] []) (M : Mem) (x2 : Nat) (x3 : Nat) (x4 : Int32) (hf : s_X10_judge_45 k45 M x2 x3 x4 = some res) : GoN X shC nC 0 0 M 45 [none, none, some (.ref (X.B + x2)), some (.ref (X.B + x3)), some (.int (x4))] [] := by
  refine r_iload hX e_X10_judge_45 rfl ?_
  refine r_aload_n (i := 2) hX e_X10_judge_47 rfl rfl ?_
  obtain ⟨g1, hf⟩ := gd_s hf
  refine r_getI hX hn e_X10_judge_48 fl_10_293 rfl g1 ?_
  refine r_icmp_ge hX e_X10_judge_51 (fun hc => ?_) (fun hc => ?_)
  · have hf := ite_t hf hc
    refine r_iload hX e_X10_judge_88 rfl ?_
    exact r_iret hX hR e_X10_judge_90 hf
  · have hf := ite_f hf hc
    refine r_iload hX e_X10_judge_54 rfl ?_
    refine r_aload_n (i := 3) hX e_X10_judge_56 rfl rfl ?_
    obtain ⟨g2, hf⟩ := gd_s hf
    refine r_getI hX hn e_X10_judge_57 fl_10_214 rfl g2 ?_
    refine r_icmp_ge hX e_X10_judge_60 (fun hc => ?_) (fun hc => ?_)
    · have hf := ite_t hf hc
      refine r_iload hX e_X10_judge_88 rfl ?_
      exact r_iret hX hR e_X10_judge_90 hf
    · have hf := ite_f hf hc
      refine r_aload_n (i := 2) hX e_X10_judge_63 rfl rfl ?_
      obtain ⟨r3, hr3, hf⟩ := bd_s hf
      refine r_getR hX hn e_X10_judge_64 fl_10_330 rfl g1 hr3 ?_
      refine r_iload hX e_X10_judge_67 rfl ?_
      obtain ⟨g4, hf⟩ := gd_s hf
      refine r_lald hX hn e_X10_judge_69 g4 ?_
      refine r_aload_n (i := 3) hX e_X10_judge_70 rfl rfl ?_
      obtain ⟨r5, hr5, hf⟩ := bd_s hf
      refine r_getR hX hn e_X10_judge_71 fl_10_226 rfl g2 hr5 ?_
      refine r_iload hX e_X10_judge_74 rfl ?_
      obtain ⟨g6, hf⟩ := gd_s hf
      refine r_iald hX hn e_X10_judge_76 g6 ?_
      refine r_i2l hX e_X10_judge_77 ?_
      obtain ⟨v7, hv7, hf⟩ := nx_s hf
      refine top_l hv7 ?_
      refine r_lcmp hX e_X10_judge_78 ?_
      obtain ⟨v8, hv8, hf⟩ := nx_s hf
      refine top_i hv8 ?_
      refine r_if_ne hX e_X10_judge_79 (fun hc => ?_) (fun hc => ?_)
      · have hf := ite_f hf hc
        refine r_iload hX e_X10_judge_88 rfl ?_
        exact r_iret hX hR e_X10_judge_90 hf
      · have hf := ite_t hf hc
        refine r_iinc (v := x4 + 1) hX e_X10_judge_82 rfl (ii_s ic_1) (Nat.le_of_ble_eq_true rfl) rfl ?_
        refine r_goto hX e_X10_judge_85 ?_
        exact GoN.weak (hk45 M (x2) (x3) ((x4 + 1)) hf) rfl (sb_n (sb_n (sb_s (sb_s (sb_s (sb_z _))))))
theorem t_X10_judge_45 {X : Cx} {res : Mem × Int32}  (hX : OkX X cX10_judge RX10 6 139) (hn : Fit X shC nC) (hR : RetI X shC nC .int res)  : ∀ (n : Nat) (M : Mem) (x2 : Nat) (x3 : Nat) (x4 : Int32),  f_X10_judge_45  n M x2 x3 x4 = some res → GoN X shC nC 0 0 M 45 [none, none, some (.ref (X.B + x2)), some (.ref (X.B + x3)), some (.int (x4))] [] := by
  intro n
  induction n with
  | zero => intro M x2 x3 x4 hf; cases hf
  | succ n ih => intro M x2 x3 x4 hf; exact t_s_X10_judge_45 hX hn hR  ih M x2 x3 x4 hf
theorem t_X10_judge {l : Launch} {M : Mem} {a0 : Nat} {a1 : Int32} {res : Mem × Int32} (hf : f_X10_judge M a0 a1 = some res) : Ci l yX10_judge cX10_judge 5 (some .int) 6 139 shC nC (fun K B => [.ref (B + a0), .int a1]) M res := by
  refine met_i (own := RX10) (lo := fun K B => [some (.ref (B + a0)), some (.int a1), none, none, none]) (by decide +kernel) rfl shC_ok (fun _ _ => rfl) (fun _ _ => rfl) (fun _ _ => Nat.le_of_ble_eq_true rfl) (fun X hX hn hlx hR => ?_)
  refine r_iload_n (i := 1) hX e_X10_judge_0 rfl rfl ?_
  obtain ⟨v1, hv1, hf⟩ := bd_s hf
  refine r_csi (As := fun K B => [.int (a1)]) hX hn (t_X10_isSlot hv1) e_X10_judge_1 cw_X10_isSlot cv_X10_isSlot lk_10_287 ⟨Nat.le_of_ble_eq_true rfl, Nat.le_of_ble_eq_true rfl⟩ rfl rfl (Nat.le_of_ble_eq_true rfl) ⟨Nat.zero_le _, Nat.zero_le _⟩ ?_
  refine r_if_eq hX e_X10_judge_4 (fun hc => ?_) (fun hc => ?_)
  · have hf := ite_t hf hc
    refine r_bipush hX e_X10_judge_17 bc_m2 ?_
    exact r_iret hX hR e_X10_judge_19 hf
  · have hf := ite_f hf hc
    refine r_aload_n (i := 0) hX e_X10_judge_7 rfl rfl ?_
    obtain ⟨g2, hf⟩ := gd_s hf
    obtain ⟨r3, hr3, hf⟩ := bd_s hf
    refine r_getR hX hn e_X10_judge_8 fl_10_19 rfl g2 hr3 ?_
    obtain ⟨g4, hf⟩ := gd_s hf
    obtain ⟨v5, hv5, hf⟩ := bd_s hf
    refine r_cvi (As := fun K B => []) hX hn (t_X4_isTold hv5) e_X10_judge_11 cw_X4_isTold cv_X4_isTold lk_10_210 ⟨Nat.le_of_ble_eq_true rfl, Nat.le_of_ble_eq_true rfl⟩ (ci := 4) rfl rfl (Nat.le_of_ble_eq_true rfl) g4 rfl rfl (Nat.le_of_ble_eq_true rfl) ⟨Nat.zero_le _, Nat.zero_le _⟩ ?_
    refine r_if_ne hX e_X10_judge_14 (fun hc => ?_) (fun hc => ?_)
    · have hf := ite_f hf hc
      refine r_aload_n (i := 0) hX e_X10_judge_20 rfl rfl ?_
      obtain ⟨r6, hr6, hf⟩ := bd_s hf
      refine r_getR hX hn e_X10_judge_21 fl_10_36 rfl g2 hr6 ?_
      refine r_iload_n (i := 1) hX e_X10_judge_24 rfl rfl ?_
      obtain ⟨g7, hf⟩ := gd_s hf
      obtain ⟨r8, hr8, hf⟩ := bd_s hf
      refine r_aald hX hn e_X10_judge_25 g7 (Nat.le_of_ble_eq_true rfl) rfl rfl rfl hr8 ?_
      refine r_astore_n (i := 2) hX e_X10_judge_26 rfl (Nat.le_of_ble_eq_true rfl) rfl ?_
      refine r_aload_n (i := 2) hX e_X10_judge_27 rfl rfl ?_
      obtain ⟨g9, hf⟩ := gd_s hf
      refine r_getI hX hn e_X10_judge_28 fl_10_290 rfl g9 ?_
      refine r_if_ne hX e_X10_judge_31 (fun hc => ?_) (fun hc => ?_)
      · have hf := ite_f hf hc
        refine r_aload_n (i := 0) hX e_X10_judge_37 rfl rfl ?_
        obtain ⟨u10, hu10, hf⟩ := bd_s hf
        refine r_cvr (As := fun K B => []) hX hn (t_X10_toldHour hu10) e_X10_judge_38 cw_X10_toldHour cv_X10_toldHour lk_10_150 ⟨Nat.le_of_ble_eq_true rfl, Nat.le_of_ble_eq_true rfl⟩ (ci := 10) rfl rfl (Nat.le_of_ble_eq_true rfl) g2 rfl rfl (Nat.le_of_ble_eq_true rfl) ⟨Nat.zero_le _, Nat.zero_le _⟩ ?_
        refine r_astore_n (i := 3) hX e_X10_judge_41 rfl (Nat.le_of_ble_eq_true rfl) rfl ?_
        refine r_iconst hX e_X10_judge_42 ic_0 ?_
        refine r_istore hX e_X10_judge_43 (Nat.le_of_ble_eq_true rfl) rfl ?_
        exact GoN.weak (t_X10_judge_45 hX hn hR FU u10.1 (r8) (u10.2) (0) hf) rfl (sb_n (sb_n (sb_s (sb_s (sb_s (sb_z _))))))
      · have hf := ite_t hf hc
        refine r_bipush hX e_X10_judge_34 bc_m6 ?_
        exact r_iret hX hR e_X10_judge_36 hf
    · have hf := ite_t hf hc
      refine r_bipush hX e_X10_judge_17 bc_m2 ?_
      exact r_iret hX hR e_X10_judge_19 hf
def s_X10_rowsThere_13 (M : Mem) (k13 : Int32 → Nat → Int32 → Int32 → Option (Int32)) (x1 : Int32) (x2 : Nat) (x3 : Int32) (x4 : Int32) : Option (Int32) :=
  if x3 ≤ x4 then some x1 else gd (aB shC x2 8 x4) <| bd (gR M x2 (x4 : Int32).toNatClampNeg) fun r2 => gd (oB shC r2 8) <| if (gI M r2 0) = 0 then k13 (x1) (x2) (x3) ((x4 + 1)) else k13 ((x1 + 1)) (x2) (x3) ((x4 + 1))
def f_X10_rowsThere_13 (M : Mem)  : Nat → Int32 → Nat → Int32 → Int32 → Option (Int32)
  | 0 => fun _ _ _ _ => none
  | n + 1 => fun y0 y1 y2 y3 => s_X10_rowsThere_13 M  (f_X10_rowsThere_13 M  n) y0 y1 y2 y3
def f_X10_rowsThere (M : Mem) (a0 : Nat) : Option (Int32) :=
  gd (oB shC a0 10) <| bd (gR M a0 5) fun r2 => gd (oB shC r2 108) <| f_X10_rowsThere_13 M FU (0) (r2) ((Int32.ofNat (shC r2).2)) (0)
theorem t_s_X10_rowsThere_13 {X : Cx} {M : Mem} {res : Int32} {k13 : Int32 → Nat → Int32 → Int32 → Option (Int32)} (hX : OkX X cX10_rowsThere RX10 0 0) (hn : Fit X shC nC) (hR : RetI X shC nC .int (M, res)) (hk13 : ∀ x1 x2 x3 x4, k13 x1 x2 x3 x4 = some res → GoN X shC nC 0 0 M 13 [none, some (.int (x1)), some (.ref (X.B + x2)), some (.int (x3)), some (.int (x4)), none] []) (x1 : Int32) (x2 : Nat) (x3 : Int32) (x4 : Int32) (hf : s_X10_rowsThere_13 M k13 x1 x2 x3 x4 = some res) : GoN X shC nC 0 0 M 13 [none, some (.int (x1)), some (.ref (X.B + x2)), some (.int (x3)), some (.int (x4)), none] [] := by
  refine r_iload hX e_X10_rowsThere_13 rfl ?_
  refine r_iload_n (i := 3) hX e_X10_rowsThere_15 rfl rfl ?_
  refine r_icmp_ge hX e_X10_rowsThere_16 (fun hc => ?_) (fun hc => ?_)
  · have hf := ite_t hf hc
    refine r_iload_n (i := 1) hX e_X10_rowsThere_42 rfl rfl ?_
    exact r_iret hX hR e_X10_rowsThere_43 (ro_s hf)
  · have hf := ite_f hf hc
    refine r_aload_n (i := 2) hX e_X10_rowsThere_19 rfl rfl ?_
    refine r_iload hX e_X10_rowsThere_20 rfl ?_
    obtain ⟨g1, hf⟩ := gd_s hf
    obtain ⟨r2, hr2, hf⟩ := bd_s hf
    refine r_aald hX hn e_X10_rowsThere_22 g1 (Nat.le_of_ble_eq_true rfl) rfl rfl rfl hr2 ?_
    refine r_astore hX e_X10_rowsThere_23 (Nat.le_of_ble_eq_true rfl) rfl ?_
    refine r_aload hX e_X10_rowsThere_25 rfl ?_
    obtain ⟨g3, hf⟩ := gd_s hf
    refine r_getI hX hn e_X10_rowsThere_27 fl_10_290 rfl g3 ?_
    refine r_if_eq hX e_X10_rowsThere_30 (fun hc => ?_) (fun hc => ?_)
    · have hf := ite_t hf hc
      refine r_iinc (v := x4 + 1) hX e_X10_rowsThere_36 rfl (ii_s ic_1) (Nat.le_of_ble_eq_true rfl) rfl ?_
      refine r_goto hX e_X10_rowsThere_39 ?_
      exact GoN.weak (hk13 (x1) (x2) (x3) ((x4 + 1)) hf) rfl (sb_n (sb_s (sb_s (sb_s (sb_s (sb_n (sb_z _)))))))
    · have hf := ite_f hf hc
      refine r_iinc (v := x1 + 1) hX e_X10_rowsThere_33 rfl (ii_s ic_1) (Nat.le_of_ble_eq_true rfl) rfl ?_
      refine r_iinc (v := x4 + 1) hX e_X10_rowsThere_36 rfl (ii_s ic_1) (Nat.le_of_ble_eq_true rfl) rfl ?_
      refine r_goto hX e_X10_rowsThere_39 ?_
      exact GoN.weak (hk13 ((x1 + 1)) (x2) (x3) ((x4 + 1)) hf) rfl (sb_n (sb_s (sb_s (sb_s (sb_s (sb_n (sb_z _)))))))
theorem t_X10_rowsThere_13 {X : Cx} {M : Mem} {res : Int32}  (hX : OkX X cX10_rowsThere RX10 0 0) (hn : Fit X shC nC) (hR : RetI X shC nC .int (M, res))  : ∀ (n : Nat) (x1 : Int32) (x2 : Nat) (x3 : Int32) (x4 : Int32),  f_X10_rowsThere_13 M  n x1 x2 x3 x4 = some res → GoN X shC nC 0 0 M 13 [none, some (.int (x1)), some (.ref (X.B + x2)), some (.int (x3)), some (.int (x4)), none] [] := by
  intro n
  induction n with
  | zero => intro x1 x2 x3 x4 hf; cases hf
  | succ n ih => intro x1 x2 x3 x4 hf; exact t_s_X10_rowsThere_13 hX hn hR  ih x1 x2 x3 x4 hf
theorem t_X10_rowsThere {l : Launch} {M : Mem} {a0 : Nat} {res : Int32} (hf : f_X10_rowsThere M a0 = some res) : Ci l yX10_rowsThere cX10_rowsThere 6 (some .int) 0 0 shC nC (fun K B => [.ref (B + a0)]) M (M, res) := by
  refine met_i (own := RX10) (lo := fun K B => [some (.ref (B + a0)), none, none, none, none, none]) (by decide +kernel) rfl shC_ok (fun _ _ => rfl) (fun _ _ => rfl) (fun _ _ => Nat.le_of_ble_eq_true rfl) (fun X hX hn hlx hR => ?_)
  refine r_iconst hX e_X10_rowsThere_0 ic_0 ?_
  refine r_istore_n (i := 1) hX e_X10_rowsThere_1 rfl (Nat.le_of_ble_eq_true rfl) rfl ?_
  refine r_aload_n (i := 0) hX e_X10_rowsThere_2 rfl rfl ?_
  obtain ⟨g1, hf⟩ := gd_s hf
  obtain ⟨r2, hr2, hf⟩ := bd_s hf
  refine r_getR hX hn e_X10_rowsThere_3 fl_10_36 rfl g1 hr2 ?_
  refine r_astore_n (i := 2) hX e_X10_rowsThere_6 rfl (Nat.le_of_ble_eq_true rfl) rfl ?_
  refine r_aload_n (i := 2) hX e_X10_rowsThere_7 rfl rfl ?_
  obtain ⟨g3, hf⟩ := gd_s hf
  refine r_alen (t := 8) hX hn e_X10_rowsThere_8 g3 (Nat.le_of_ble_eq_true rfl) rfl ?_
  refine r_istore_n (i := 3) hX e_X10_rowsThere_9 rfl (Nat.le_of_ble_eq_true rfl) rfl ?_
  refine r_iconst hX e_X10_rowsThere_10 ic_0 ?_
  refine r_istore hX e_X10_rowsThere_11 (Nat.le_of_ble_eq_true rfl) rfl ?_
  exact GoN.weak (t_X10_rowsThere_13 hX hn hR FU (0) (r2) ((Int32.ofNat (shC r2).2)) (0) hf) rfl (sb_n (sb_s (sb_s (sb_s (sb_s (sb_n (sb_z _)))))))
def f_X10_count (M : Mem) (a0 : Nat) (a1 : Int32) : Option (Int32) :=
  if a1 = 0 then gd (oB shC a0 10) <| bd (gR M a0 1) fun r2 => gd (oB shC r2 4) <| some (gI M r2 0) else if a1 = 1 then gd (oB shC a0 10) <| bd (gR M a0 1) fun r5 => gd (oB shC r5 4) <| some (gI M r5 1) else if a1 = 2 then gd (oB shC a0 10) <| bd (gR M a0 1) fun r8 => gd (oB shC r8 4) <| some (gI M r8 3) else if a1 = 3 then gd (oB shC a0 10) <| bd (gR M a0 1) fun r11 => gd (oB shC r11 4) <| some (gI M r11 4) else if a1 = 4 then gd (oB shC a0 10) <| bd (gR M a0 1) fun r14 => gd (oB shC r14 4) <| some (gI M r14 5) else if a1 = 5 then gd (oB shC a0 10) <| bd (gR M a0 1) fun r17 => gd (oB shC r17 4) <| some (gI M r17 2) else if a1 = 6 then gd (oB shC a0 10) <| bd (gR M a0 0) fun r20 => gd (oB shC r20 6) <| some (gI M r20 1) else if a1 = 7 then gd (oB shC a0 10) <| bd (gR M a0 1) fun r23 => gd (oB shC r23 4) <| bd (f_X4_stuckMinutes M r23) fun v25 => some v25 else if a1 = 8 then gd (oB shC a0 10) <| bd (f_X10_rowsThere M a0) fun v27 => some v27 else some (-1)
theorem t_X10_count {l : Launch} {M : Mem} {a0 : Nat} {a1 : Int32} {res : Int32} (hf : f_X10_count M a0 a1 = some res) : Ci l yX10_count cX10_count 2 (some .int) 2 43 shC nC (fun K B => [.ref (B + a0), .int a1]) M (M, res) := by
  refine met_i (own := RX10) (lo := fun K B => [some (.ref (B + a0)), some (.int a1)]) (by decide +kernel) rfl shC_ok (fun _ _ => rfl) (fun _ _ => rfl) (fun _ _ => Nat.le_of_ble_eq_true rfl) (fun X hX hn hlx hR => ?_)
  refine r_iload_n (i := 1) hX e_X10_count_0 rfl rfl ?_
  by_cases hs0 : a1 = 0
  · have hf := ite_t hf hs0
    refine r_tabIn (tgt := 52) hX e_X10_count_1 (by rw [hs0]; decide) (by rw [hs0]; decide) (off := 51) (by rw [hs0]; decide) (by decide) ?_
    refine r_aload_n (i := 0) hX e_X10_count_52 rfl rfl ?_
    obtain ⟨g1, hf⟩ := gd_s hf
    obtain ⟨r2, hr2, hf⟩ := bd_s hf
    refine r_getR hX hn e_X10_count_53 fl_10_19 rfl g1 hr2 ?_
    obtain ⟨g3, hf⟩ := gd_s hf
    refine r_getI hX hn e_X10_count_56 fl_10_334 rfl g3 ?_
    exact r_iret hX hR e_X10_count_59 (ro_s hf)
  have hf := ite_f hf hs0
  by_cases hs1 : a1 = 1
  · have hf := ite_t hf hs1
    refine r_tabIn (tgt := 60) hX e_X10_count_1 (by rw [hs1]; decide) (by rw [hs1]; decide) (off := 59) (by rw [hs1]; decide) (by decide) ?_
    refine r_aload_n (i := 0) hX e_X10_count_60 rfl rfl ?_
    obtain ⟨g4, hf⟩ := gd_s hf
    obtain ⟨r5, hr5, hf⟩ := bd_s hf
    refine r_getR hX hn e_X10_count_61 fl_10_19 rfl g4 hr5 ?_
    obtain ⟨g6, hf⟩ := gd_s hf
    refine r_getI hX hn e_X10_count_64 fl_10_166 rfl g6 ?_
    exact r_iret hX hR e_X10_count_67 (ro_s hf)
  have hf := ite_f hf hs1
  by_cases hs2 : a1 = 2
  · have hf := ite_t hf hs2
    refine r_tabIn (tgt := 68) hX e_X10_count_1 (by rw [hs2]; decide) (by rw [hs2]; decide) (off := 67) (by rw [hs2]; decide) (by decide) ?_
    refine r_aload_n (i := 0) hX e_X10_count_68 rfl rfl ?_
    obtain ⟨g7, hf⟩ := gd_s hf
    obtain ⟨r8, hr8, hf⟩ := bd_s hf
    refine r_getR hX hn e_X10_count_69 fl_10_19 rfl g7 hr8 ?_
    obtain ⟨g9, hf⟩ := gd_s hf
    refine r_getI hX hn e_X10_count_72 fl_10_308 rfl g9 ?_
    exact r_iret hX hR e_X10_count_75 (ro_s hf)
  have hf := ite_f hf hs2
  by_cases hs3 : a1 = 3
  · have hf := ite_t hf hs3
    refine r_tabIn (tgt := 76) hX e_X10_count_1 (by rw [hs3]; decide) (by rw [hs3]; decide) (off := 75) (by rw [hs3]; decide) (by decide) ?_
    refine r_aload_n (i := 0) hX e_X10_count_76 rfl rfl ?_
    obtain ⟨g10, hf⟩ := gd_s hf
    obtain ⟨r11, hr11, hf⟩ := bd_s hf
    refine r_getR hX hn e_X10_count_77 fl_10_19 rfl g10 hr11 ?_
    obtain ⟨g12, hf⟩ := gd_s hf
    refine r_getI hX hn e_X10_count_80 fl_10_172 rfl g12 ?_
    exact r_iret hX hR e_X10_count_83 (ro_s hf)
  have hf := ite_f hf hs3
  by_cases hs4 : a1 = 4
  · have hf := ite_t hf hs4
    refine r_tabIn (tgt := 84) hX e_X10_count_1 (by rw [hs4]; decide) (by rw [hs4]; decide) (off := 83) (by rw [hs4]; decide) (by decide) ?_
    refine r_aload_n (i := 0) hX e_X10_count_84 rfl rfl ?_
    obtain ⟨g13, hf⟩ := gd_s hf
    obtain ⟨r14, hr14, hf⟩ := bd_s hf
    refine r_getR hX hn e_X10_count_85 fl_10_19 rfl g13 hr14 ?_
    obtain ⟨g15, hf⟩ := gd_s hf
    refine r_getI hX hn e_X10_count_88 fl_10_267 rfl g15 ?_
    exact r_iret hX hR e_X10_count_91 (ro_s hf)
  have hf := ite_f hf hs4
  by_cases hs5 : a1 = 5
  · have hf := ite_t hf hs5
    refine r_tabIn (tgt := 92) hX e_X10_count_1 (by rw [hs5]; decide) (by rw [hs5]; decide) (off := 91) (by rw [hs5]; decide) (by decide) ?_
    refine r_aload_n (i := 0) hX e_X10_count_92 rfl rfl ?_
    obtain ⟨g16, hf⟩ := gd_s hf
    obtain ⟨r17, hr17, hf⟩ := bd_s hf
    refine r_getR hX hn e_X10_count_93 fl_10_19 rfl g16 hr17 ?_
    obtain ⟨g18, hf⟩ := gd_s hf
    refine r_getI hX hn e_X10_count_96 fl_10_78 rfl g18 ?_
    exact r_iret hX hR e_X10_count_99 (ro_s hf)
  have hf := ite_f hf hs5
  by_cases hs6 : a1 = 6
  · have hf := ite_t hf hs6
    refine r_tabIn (tgt := 100) hX e_X10_count_1 (by rw [hs6]; decide) (by rw [hs6]; decide) (off := 99) (by rw [hs6]; decide) (by decide) ?_
    refine r_aload_n (i := 0) hX e_X10_count_100 rfl rfl ?_
    obtain ⟨g19, hf⟩ := gd_s hf
    obtain ⟨r20, hr20, hf⟩ := bd_s hf
    refine r_getR hX hn e_X10_count_101 fl_10_12 rfl g19 hr20 ?_
    obtain ⟨g21, hf⟩ := gd_s hf
    refine r_getI hX hn e_X10_count_104 fl_10_66 rfl g21 ?_
    exact r_iret hX hR e_X10_count_107 (ro_s hf)
  have hf := ite_f hf hs6
  by_cases hs7 : a1 = 7
  · have hf := ite_t hf hs7
    refine r_tabIn (tgt := 108) hX e_X10_count_1 (by rw [hs7]; decide) (by rw [hs7]; decide) (off := 107) (by rw [hs7]; decide) (by decide) ?_
    refine r_aload_n (i := 0) hX e_X10_count_108 rfl rfl ?_
    obtain ⟨g22, hf⟩ := gd_s hf
    obtain ⟨r23, hr23, hf⟩ := bd_s hf
    refine r_getR hX hn e_X10_count_109 fl_10_19 rfl g22 hr23 ?_
    obtain ⟨g24, hf⟩ := gd_s hf
    obtain ⟨v25, hv25, hf⟩ := bd_s hf
    refine r_cvi (As := fun K B => []) hX hn (t_X4_stuckMinutes hv25) e_X10_count_112 cw_X4_stuckMinutes cv_X4_stuckMinutes lk_10_337 ⟨Nat.le_of_ble_eq_true rfl, Nat.le_of_ble_eq_true rfl⟩ (ci := 4) rfl rfl (Nat.le_of_ble_eq_true rfl) g24 rfl rfl (Nat.le_of_ble_eq_true rfl) ⟨Nat.zero_le _, Nat.zero_le _⟩ ?_
    exact r_iret hX hR e_X10_count_115 (ro_s hf)
  have hf := ite_f hf hs7
  by_cases hs8 : a1 = 8
  · have hf := ite_t hf hs8
    refine r_tabIn (tgt := 116) hX e_X10_count_1 (by rw [hs8]; decide) (by rw [hs8]; decide) (off := 115) (by rw [hs8]; decide) (by decide) ?_
    refine r_aload_n (i := 0) hX e_X10_count_116 rfl rfl ?_
    obtain ⟨g26, hf⟩ := gd_s hf
    obtain ⟨v27, hv27, hf⟩ := bd_s hf
    refine r_cvi (As := fun K B => []) hX hn (t_X10_rowsThere hv27) e_X10_count_117 cw_X10_rowsThere cv_X10_rowsThere lk_10_340 ⟨Nat.le_of_ble_eq_true rfl, Nat.le_of_ble_eq_true rfl⟩ (ci := 10) rfl rfl (Nat.le_of_ble_eq_true rfl) g26 rfl rfl (Nat.le_of_ble_eq_true rfl) ⟨Nat.zero_le _, Nat.zero_le _⟩ ?_
    exact r_iret hX hR e_X10_count_120 (ro_s hf)
  have hf := ite_f hf hs8
  refine r_tabOut (tgt := 121) hX e_X10_count_1 ?_ (by decide) ?_
  · have z0 : a1.toInt ≠ 0 := i32_ne hs0 (by decide); have z1 : a1.toInt ≠ 1 := i32_ne hs1 (by decide); have z2 : a1.toInt ≠ 2 := i32_ne hs2 (by decide); have z3 : a1.toInt ≠ 3 := i32_ne hs3 (by decide); have z4 : a1.toInt ≠ 4 := i32_ne hs4 (by decide); have z5 : a1.toInt ≠ 5 := i32_ne hs5 (by decide); have z6 : a1.toInt ≠ 6 := i32_ne hs6 (by decide); have z7 : a1.toInt ≠ 7 := i32_ne hs7 (by decide); have z8 : a1.toInt ≠ 8 := i32_ne hs8 (by decide); omega
  refine r_iconst hX e_X10_count_121 ic_m1 ?_
  exact r_iret hX hR e_X10_count_122 (ro_s hf)
def f_X10_keep (M : Mem) (a0 : Nat) (a1 : Int32) : Option (Mem × Int32) :=
  if a1 < 0 then some (M, (-2)) else if a1 < 3 then gd (oB shC a0 10) <| bd (gR M a0 3) fun r2 => gd (aB shC r2 7 a1) <| bd (gR M r2 (a1 : Int32).toNatClampNeg) fun r4 => bd (gR M a0 1) fun r5 => gd (oB shC r4 4) <| bd (f_X4_take M r4 r5) fun u7 => bd (gR u7 a0 4) fun r8 => gd (aB shC r8 2 a1) <| nx (sI u7 r8 (a1 : Int32).toNatClampNeg (vp_nar .boolean 1)) fun M10 => some (M10, 0) else some (M, (-2))
theorem t_X10_keep {l : Launch} {M : Mem} {a0 : Nat} {a1 : Int32} {res : Mem × Int32} (hf : f_X10_keep M a0 a1 = some res) : Ci l yX10_keep cX10_keep 2 (some .int) 3 69 shC nC (fun K B => [.ref (B + a0), .int a1]) M res := by
  refine met_i (own := RX10) (lo := fun K B => [some (.ref (B + a0)), some (.int a1)]) (by decide +kernel) rfl shC_ok (fun _ _ => rfl) (fun _ _ => rfl) (fun _ _ => Nat.le_of_ble_eq_true rfl) (fun X hX hn hlx hR => ?_)
  refine r_iload_n (i := 1) hX e_X10_keep_0 rfl rfl ?_
  refine r_if_lt hX e_X10_keep_1 (fun hc => ?_) (fun hc => ?_)
  · have hf := ite_t hf hc
    refine r_bipush hX e_X10_keep_9 bc_m2 ?_
    exact r_iret hX hR e_X10_keep_11 hf
  · have hf := ite_f hf hc
    refine r_iload_n (i := 1) hX e_X10_keep_4 rfl rfl ?_
    refine r_iconst hX e_X10_keep_5 ic_3 ?_
    refine r_icmp_lt hX e_X10_keep_6 (fun hc => ?_) (fun hc => ?_)
    · have hf := ite_t hf hc
      refine r_aload_n (i := 0) hX e_X10_keep_12 rfl rfl ?_
      obtain ⟨g1, hf⟩ := gd_s hf
      obtain ⟨r2, hr2, hf⟩ := bd_s hf
      refine r_getR hX hn e_X10_keep_13 fl_10_26 rfl g1 hr2 ?_
      refine r_iload_n (i := 1) hX e_X10_keep_16 rfl rfl ?_
      obtain ⟨g3, hf⟩ := gd_s hf
      obtain ⟨r4, hr4, hf⟩ := bd_s hf
      refine r_aald hX hn e_X10_keep_17 g3 (Nat.le_of_ble_eq_true rfl) rfl rfl rfl hr4 ?_
      refine r_aload_n (i := 0) hX e_X10_keep_18 rfl rfl ?_
      obtain ⟨r5, hr5, hf⟩ := bd_s hf
      refine r_getR hX hn e_X10_keep_19 fl_10_19 rfl g1 hr5 ?_
      obtain ⟨g6, hf⟩ := gd_s hf
      obtain ⟨u7, hu7, hf⟩ := bd_s hf
      refine r_cvv (As := fun K B => [.ref (B + r5)]) hX hn (t_X4_take hu7) e_X10_keep_22 cw_X4_take cv_X4_take lk_10_343 ⟨Nat.le_of_ble_eq_true rfl, Nat.le_of_ble_eq_true rfl⟩ (ci := 4) rfl rfl (Nat.le_of_ble_eq_true rfl) g6 rfl rfl (Nat.le_of_ble_eq_true rfl) ⟨Nat.zero_le _, Nat.zero_le _⟩ ?_
      refine r_aload_n (i := 0) hX e_X10_keep_25 rfl rfl ?_
      obtain ⟨r8, hr8, hf⟩ := bd_s hf
      refine r_getR hX hn e_X10_keep_26 fl_10_30 rfl g1 hr8 ?_
      refine r_iload_n (i := 1) hX e_X10_keep_29 rfl rfl ?_
      refine r_iconst hX e_X10_keep_30 ic_1 ?_
      obtain ⟨g9, hf⟩ := gd_s hf
      obtain ⟨M10, hM10, hf⟩ := nx_s hf
      refine r_zast hX hn hM10 e_X10_keep_31 g9 ?_
      refine r_iconst hX e_X10_keep_32 ic_0 ?_
      exact r_iret hX hR e_X10_keep_33 hf
    · have hf := ite_f hf hc
      refine r_bipush hX e_X10_keep_9 bc_m2 ?_
      exact r_iret hX hR e_X10_keep_11 hf
def f_X10_back (M : Mem) (a0 : Nat) (a1 : Int32) : Option (Mem × Int32) :=
  if a1 < 0 then some (M, (-2)) else if a1 < 3 then gd (oB shC a0 10) <| bd (gR M a0 4) fun r2 => gd (aB shC r2 2 a1) <| if (gI M r2 (a1 : Int32).toNatClampNeg) = 0 then some (M, (-6)) else bd (gR M a0 1) fun r4 => bd (gR M a0 3) fun r5 => gd (aB shC r5 7 a1) <| bd (gR M r5 (a1 : Int32).toNatClampNeg) fun r7 => gd (oB shC r4 4) <| bd (f_X4_take M r4 r7) fun u9 => nx (sI u9 a0 7 0) fun M10 => some (M10, 0) else some (M, (-2))
theorem t_X10_back {l : Launch} {M : Mem} {a0 : Nat} {a1 : Int32} {res : Mem × Int32} (hf : f_X10_back M a0 a1 = some res) : Ci l yX10_back cX10_back 2 (some .int) 3 69 shC nC (fun K B => [.ref (B + a0), .int a1]) M res := by
  refine met_i (own := RX10) (lo := fun K B => [some (.ref (B + a0)), some (.int a1)]) (by decide +kernel) rfl shC_ok (fun _ _ => rfl) (fun _ _ => rfl) (fun _ _ => Nat.le_of_ble_eq_true rfl) (fun X hX hn hlx hR => ?_)
  refine r_iload_n (i := 1) hX e_X10_back_0 rfl rfl ?_
  refine r_if_lt hX e_X10_back_1 (fun hc => ?_) (fun hc => ?_)
  · have hf := ite_t hf hc
    refine r_bipush hX e_X10_back_9 bc_m2 ?_
    exact r_iret hX hR e_X10_back_11 hf
  · have hf := ite_f hf hc
    refine r_iload_n (i := 1) hX e_X10_back_4 rfl rfl ?_
    refine r_iconst hX e_X10_back_5 ic_3 ?_
    refine r_icmp_lt hX e_X10_back_6 (fun hc => ?_) (fun hc => ?_)
    · have hf := ite_t hf hc
      refine r_aload_n (i := 0) hX e_X10_back_12 rfl rfl ?_
      obtain ⟨g1, hf⟩ := gd_s hf
      obtain ⟨r2, hr2, hf⟩ := bd_s hf
      refine r_getR hX hn e_X10_back_13 fl_10_30 rfl g1 hr2 ?_
      refine r_iload_n (i := 1) hX e_X10_back_16 rfl rfl ?_
      obtain ⟨g3, hf⟩ := gd_s hf
      refine r_zald hX hn e_X10_back_17 g3 ?_
      refine r_if_ne hX e_X10_back_18 (fun hc => ?_) (fun hc => ?_)
      · have hf := ite_f hf hc
        refine r_aload_n (i := 0) hX e_X10_back_24 rfl rfl ?_
        obtain ⟨r4, hr4, hf⟩ := bd_s hf
        refine r_getR hX hn e_X10_back_25 fl_10_19 rfl g1 hr4 ?_
        refine r_aload_n (i := 0) hX e_X10_back_28 rfl rfl ?_
        obtain ⟨r5, hr5, hf⟩ := bd_s hf
        refine r_getR hX hn e_X10_back_29 fl_10_26 rfl g1 hr5 ?_
        refine r_iload_n (i := 1) hX e_X10_back_32 rfl rfl ?_
        obtain ⟨g6, hf⟩ := gd_s hf
        obtain ⟨r7, hr7, hf⟩ := bd_s hf
        refine r_aald hX hn e_X10_back_33 g6 (Nat.le_of_ble_eq_true rfl) rfl rfl rfl hr7 ?_
        obtain ⟨g8, hf⟩ := gd_s hf
        obtain ⟨u9, hu9, hf⟩ := bd_s hf
        refine r_cvv (As := fun K B => [.ref (B + r7)]) hX hn (t_X4_take hu9) e_X10_back_34 cw_X4_take cv_X4_take lk_10_343 ⟨Nat.le_of_ble_eq_true rfl, Nat.le_of_ble_eq_true rfl⟩ (ci := 4) rfl rfl (Nat.le_of_ble_eq_true rfl) g8 rfl rfl (Nat.le_of_ble_eq_true rfl) ⟨Nat.zero_le _, Nat.zero_le _⟩ ?_
        refine r_aload_n (i := 0) hX e_X10_back_37 rfl rfl ?_
        refine r_iconst hX e_X10_back_38 ic_0 ?_
        obtain ⟨M10, hM10, hf⟩ := nx_s hf
        refine r_putZ hX hn hM10 rfl e_X10_back_39 fl_10_47 fp_10_7 rfl g1 ?_
        refine r_iconst hX e_X10_back_42 ic_0 ?_
        exact r_iret hX hR e_X10_back_43 hf
      · have hf := ite_t hf hc
        refine r_bipush hX e_X10_back_21 bc_m6 ?_
        exact r_iret hX hR e_X10_back_23 hf
    · have hf := ite_f hf hc
      refine r_bipush hX e_X10_back_9 bc_m2 ?_
      exact r_iret hX hR e_X10_back_11 hf
def f_X10_row (M : Mem) (a0 : Nat) (a1 : Int32) (a2 : Int32) (a3 : Int32) : Option (Mem × Int32) :=
  bd (f_X10_isSlot M a1) fun v1 => if v1 = 0 then some (M, (-2)) else if a2 < 0 then some (M, (-2)) else if 4 ≤ a2 then some (M, (-2)) else if a3 ≤ 60 then if 0 ≤ a3 then gd (oB shC a0 10) <| bd (gR M a0 5) fun r3 => gd (aB shC r3 8 a1) <| bd (gR M r3 (a1 : Int32).toNatClampNeg) fun r5 => gd (oB shC r5 8) <| bd (f_X8_begin M r5 a2 a3) fun u7 => some (u7, 0) else some (M, (-3)) else some (M, (-2))
theorem t_X10_row {l : Launch} {M : Mem} {a0 : Nat} {a1 a2 a3 : Int32} {res : Mem × Int32} (hf : f_X10_row M a0 a1 a2 a3 = some res) : Ci l yX10_row cX10_row 4 (some .int) 2 46 shC nC (fun K B => [.ref (B + a0), .int a1, .int a2, .int a3]) M res := by
  refine met_i (own := RX10) (lo := fun K B => [some (.ref (B + a0)), some (.int a1), some (.int a2), some (.int a3)]) (by decide +kernel) rfl shC_ok (fun _ _ => rfl) (fun _ _ => rfl) (fun _ _ => Nat.le_of_ble_eq_true rfl) (fun X hX hn hlx hR => ?_)
  refine r_iload_n (i := 1) hX e_X10_row_0 rfl rfl ?_
  obtain ⟨v1, hv1, hf⟩ := bd_s hf
  refine r_csi (As := fun K B => [.int (a1)]) hX hn (t_X10_isSlot hv1) e_X10_row_1 cw_X10_isSlot cv_X10_isSlot lk_10_287 ⟨Nat.le_of_ble_eq_true rfl, Nat.le_of_ble_eq_true rfl⟩ rfl rfl (Nat.le_of_ble_eq_true rfl) ⟨Nat.zero_le _, Nat.zero_le _⟩ ?_
  refine r_if_eq hX e_X10_row_4 (fun hc => ?_) (fun hc => ?_)
  · have hf := ite_t hf hc
    refine r_bipush hX e_X10_row_22 bc_m2 ?_
    exact r_iret hX hR e_X10_row_24 hf
  · have hf := ite_f hf hc
    refine r_iload_n (i := 2) hX e_X10_row_7 rfl rfl ?_
    refine r_if_lt hX e_X10_row_8 (fun hc => ?_) (fun hc => ?_)
    · have hf := ite_t hf hc
      refine r_bipush hX e_X10_row_22 bc_m2 ?_
      exact r_iret hX hR e_X10_row_24 hf
    · have hf := ite_f hf hc
      refine r_iload_n (i := 2) hX e_X10_row_11 rfl rfl ?_
      refine r_iconst hX e_X10_row_12 ic_4 ?_
      refine r_icmp_ge hX e_X10_row_13 (fun hc => ?_) (fun hc => ?_)
      · have hf := ite_t hf hc
        refine r_bipush hX e_X10_row_22 bc_m2 ?_
        exact r_iret hX hR e_X10_row_24 hf
      · have hf := ite_f hf hc
        refine r_iload_n (i := 3) hX e_X10_row_16 rfl rfl ?_
        refine r_bipush hX e_X10_row_17 bc_60 ?_
        refine r_icmp_le hX e_X10_row_19 (fun hc => ?_) (fun hc => ?_)
        · have hf := ite_t hf hc
          refine r_iload_n (i := 3) hX e_X10_row_25 rfl rfl ?_
          refine r_if_ge hX e_X10_row_26 (fun hc => ?_) (fun hc => ?_)
          · have hf := ite_t hf hc
            refine r_aload_n (i := 0) hX e_X10_row_32 rfl rfl ?_
            obtain ⟨g2, hf⟩ := gd_s hf
            obtain ⟨r3, hr3, hf⟩ := bd_s hf
            refine r_getR hX hn e_X10_row_33 fl_10_36 rfl g2 hr3 ?_
            refine r_iload_n (i := 1) hX e_X10_row_36 rfl rfl ?_
            obtain ⟨g4, hf⟩ := gd_s hf
            obtain ⟨r5, hr5, hf⟩ := bd_s hf
            refine r_aald hX hn e_X10_row_37 g4 (Nat.le_of_ble_eq_true rfl) rfl rfl rfl hr5 ?_
            refine r_iload_n (i := 2) hX e_X10_row_38 rfl rfl ?_
            refine r_iload_n (i := 3) hX e_X10_row_39 rfl rfl ?_
            obtain ⟨g6, hf⟩ := gd_s hf
            obtain ⟨u7, hu7, hf⟩ := bd_s hf
            refine r_cvv (As := fun K B => [.int (a2), .int (a3)]) hX hn (t_X8_begin hu7) e_X10_row_40 cw_X8_begin cv_X8_begin lk_10_347 ⟨Nat.le_of_ble_eq_true rfl, Nat.le_of_ble_eq_true rfl⟩ (ci := 8) rfl rfl (Nat.le_of_ble_eq_true rfl) g6 rfl rfl (Nat.le_of_ble_eq_true rfl) ⟨Nat.zero_le _, Nat.zero_le _⟩ ?_
            refine r_iconst hX e_X10_row_43 ic_0 ?_
            exact r_iret hX hR e_X10_row_44 hf
          · have hf := ite_f hf hc
            refine r_bipush hX e_X10_row_29 bc_m3 ?_
            exact r_iret hX hR e_X10_row_31 hf
        · have hf := ite_f hf hc
          refine r_bipush hX e_X10_row_22 bc_m2 ?_
          exact r_iret hX hR e_X10_row_24 hf
def f_X10_write (M : Mem) (a0 : Nat) (a1 : Int32) (a2 : Int32) (a3 : Int64) : Option (Mem × Int32) :=
  bd (f_X10_isSlot M a1) fun v1 => if v1 = 0 then some (M, (-2)) else gd (oB shC a0 10) <| bd (gR M a0 5) fun r3 => gd (aB shC r3 8 a1) <| bd (gR M r3 (a1 : Int32).toNatClampNeg) fun r5 => gd (oB shC r5 8) <| if (gI M r5 0) = 0 then some (M, (-6)) else if a2 < 0 then some (M, (-7)) else if a2 < (gI M r5 2) then bd (gR M r5 3) fun r7 => bd (f_X8_cut M r5 a3) fun v8 => gd (aB shC r7 1 a2) <| nx (sL M r7 (a2 : Int32).toNatClampNeg v8) fun M10 => some (M10, 0) else some (M, (-7))
theorem t_X10_write {l : Launch} {M : Mem} {a0 : Nat} {a1 a2 : Int32} {a3 : Int64} {res : Mem × Int32} (hf : f_X10_write M a0 a1 a2 a3 = some res) : Ci l yX10_write cX10_write 6 (some .int) 1 22 shC nC (fun K B => [.ref (B + a0), .int a1, .int a2, .long a3]) M res := by
  refine met_i (own := RX10) (lo := fun K B => [some (.ref (B + a0)), some (.int a1), some (.int a2), some (.long a3), none, none]) (by decide +kernel) rfl shC_ok (fun _ _ => rfl) (fun _ _ => rfl) (fun _ _ => Nat.le_of_ble_eq_true rfl) (fun X hX hn hlx hR => ?_)
  refine r_iload_n (i := 1) hX e_X10_write_0 rfl rfl ?_
  obtain ⟨v1, hv1, hf⟩ := bd_s hf
  refine r_csi (As := fun K B => [.int (a1)]) hX hn (t_X10_isSlot hv1) e_X10_write_1 cw_X10_isSlot cv_X10_isSlot lk_10_287 ⟨Nat.le_of_ble_eq_true rfl, Nat.le_of_ble_eq_true rfl⟩ rfl rfl (Nat.le_of_ble_eq_true rfl) ⟨Nat.zero_le _, Nat.zero_le _⟩ ?_
  refine r_if_ne hX e_X10_write_4 (fun hc => ?_) (fun hc => ?_)
  · have hf := ite_f hf hc
    refine r_aload_n (i := 0) hX e_X10_write_10 rfl rfl ?_
    obtain ⟨g2, hf⟩ := gd_s hf
    obtain ⟨r3, hr3, hf⟩ := bd_s hf
    refine r_getR hX hn e_X10_write_11 fl_10_36 rfl g2 hr3 ?_
    refine r_iload_n (i := 1) hX e_X10_write_14 rfl rfl ?_
    obtain ⟨g4, hf⟩ := gd_s hf
    obtain ⟨r5, hr5, hf⟩ := bd_s hf
    refine r_aald hX hn e_X10_write_15 g4 (Nat.le_of_ble_eq_true rfl) rfl rfl rfl hr5 ?_
    refine r_astore hX e_X10_write_16 (Nat.le_of_ble_eq_true rfl) rfl ?_
    refine r_aload hX e_X10_write_18 rfl ?_
    obtain ⟨g6, hf⟩ := gd_s hf
    refine r_getI hX hn e_X10_write_20 fl_10_290 rfl g6 ?_
    refine r_if_ne hX e_X10_write_23 (fun hc => ?_) (fun hc => ?_)
    · have hf := ite_f hf hc
      refine r_iload_n (i := 2) hX e_X10_write_29 rfl rfl ?_
      refine r_if_lt hX e_X10_write_30 (fun hc => ?_) (fun hc => ?_)
      · have hf := ite_t hf hc
        refine r_bipush hX e_X10_write_42 bc_m7 ?_
        exact r_iret hX hR e_X10_write_44 hf
      · have hf := ite_f hf hc
        refine r_iload_n (i := 2) hX e_X10_write_33 rfl rfl ?_
        refine r_aload hX e_X10_write_34 rfl ?_
        refine r_getI hX hn e_X10_write_36 fl_10_293 rfl g6 ?_
        refine r_icmp_lt hX e_X10_write_39 (fun hc => ?_) (fun hc => ?_)
        · have hf := ite_t hf hc
          refine r_aload hX e_X10_write_45 rfl ?_
          obtain ⟨r7, hr7, hf⟩ := bd_s hf
          refine r_getR hX hn e_X10_write_47 fl_10_330 rfl g6 hr7 ?_
          refine r_iload_n (i := 2) hX e_X10_write_50 rfl rfl ?_
          refine r_aload hX e_X10_write_51 rfl ?_
          refine r_lload_n (i := 3) hX e_X10_write_53 rfl rfl ?_
          obtain ⟨v8, hv8, hf⟩ := bd_s hf
          refine r_cvl (As := fun K B => [.long (a3)]) hX hn (t_X8_cut hv8) e_X10_write_54 cw_X8_cut cv_X8_cut lk_10_351 ⟨Nat.le_of_ble_eq_true rfl, Nat.le_of_ble_eq_true rfl⟩ (ci := 8) rfl rfl (Nat.le_of_ble_eq_true rfl) g6 rfl rfl (Nat.le_of_ble_eq_true rfl) ⟨Nat.zero_le _, Nat.zero_le _⟩ ?_
          obtain ⟨g9, hf⟩ := gd_s hf
          obtain ⟨M10, hM10, hf⟩ := nx_s hf
          refine r_last hX hn hM10 e_X10_write_57 g9 ?_
          refine r_iconst hX e_X10_write_58 ic_0 ?_
          exact r_iret hX hR e_X10_write_59 hf
        · have hf := ite_f hf hc
          refine r_bipush hX e_X10_write_42 bc_m7 ?_
          exact r_iret hX hR e_X10_write_44 hf
    · have hf := ite_t hf hc
      refine r_bipush hX e_X10_write_26 bc_m6 ?_
      exact r_iret hX hR e_X10_write_28 hf
  · have hf := ite_t hf hc
    refine r_bipush hX e_X10_write_7 bc_m2 ?_
    exact r_iret hX hR e_X10_write_9 hf
def f_X10_paste (M : Mem) (a0 : Nat) (a1 : Int32) (a2 : Int32) (a3 : Int32) (a4 : Int32) (a5 : Int32) : Option (Mem × Int32) :=
  bd (f_X10_isSlot M a1) fun v1 => if v1 = 0 then some (M, (-2)) else bd (f_X10_isSlot M a3) fun v2 => if v2 = 0 then some (M, (-2)) else gd (oB shC a0 10) <| bd (gR M a0 5) fun r4 => gd (aB shC r4 8 a1) <| bd (gR M r4 (a1 : Int32).toNatClampNeg) fun r6 => gd (aB shC r4 8 a3) <| bd (gR M r4 (a3 : Int32).toNatClampNeg) fun r8 => gd (oB shC r6 8) <| if (gI M r6 0) = 0 then some (M, (-6)) else gd (oB shC r8 8) <| if (gI M r8 0) = 0 then some (M, (-6)) else if (gI M r6 1) = (gI M r8 1) then bd (f_X8_holds M r6 a2 a5) fun v11 => if v11 = 0 then some (M, (-7)) else bd (f_X8_holds M r8 a4 a5) fun v12 => if v12 = 0 then some (M, (-7)) else bd (gR M r6 3) fun r13 => bd (gR M r8 3) fun r14 => gd (cB shC 1 r13 a2 r14 a4 a5) <| nx (cpL M r13 (a2 : Int32).toNatClampNeg r14 (a4 : Int32).toNatClampNeg (a5 : Int32).toNatClampNeg) fun M16 => some (M16, 0) else some (M, (-8))
theorem t_X10_paste {l : Launch} {M : Mem} {a0 : Nat} {a1 a2 a3 a4 a5 : Int32} {res : Mem × Int32} (hf : f_X10_paste M a0 a1 a2 a3 a4 a5 = some res) : Ci l yX10_paste cX10_paste 8 (some .int) 1 26 shC nC (fun K B => [.ref (B + a0), .int a1, .int a2, .int a3, .int a4, .int a5]) M res := by
  refine met_i (own := RX10) (lo := fun K B => [some (.ref (B + a0)), some (.int a1), some (.int a2), some (.int a3), some (.int a4), some (.int a5), none, none]) (by decide +kernel) rfl shC_ok (fun _ _ => rfl) (fun _ _ => rfl) (fun _ _ => Nat.le_of_ble_eq_true rfl) (fun X hX hn hlx hR => ?_)
  refine r_iload_n (i := 1) hX e_X10_paste_0 rfl rfl ?_
  obtain ⟨v1, hv1, hf⟩ := bd_s hf
  refine r_csi (As := fun K B => [.int (a1)]) hX hn (t_X10_isSlot hv1) e_X10_paste_1 cw_X10_isSlot cv_X10_isSlot lk_10_287 ⟨Nat.le_of_ble_eq_true rfl, Nat.le_of_ble_eq_true rfl⟩ rfl rfl (Nat.le_of_ble_eq_true rfl) ⟨Nat.zero_le _, Nat.zero_le _⟩ ?_
  refine r_if_eq hX e_X10_paste_4 (fun hc => ?_) (fun hc => ?_)
  · have hf := ite_t hf hc
    refine r_bipush hX e_X10_paste_14 bc_m2 ?_
    exact r_iret hX hR e_X10_paste_16 hf
  · have hf := ite_f hf hc
    refine r_iload_n (i := 3) hX e_X10_paste_7 rfl rfl ?_
    obtain ⟨v2, hv2, hf⟩ := bd_s hf
    refine r_csi (As := fun K B => [.int (a3)]) hX hn (t_X10_isSlot hv2) e_X10_paste_8 cw_X10_isSlot cv_X10_isSlot lk_10_287 ⟨Nat.le_of_ble_eq_true rfl, Nat.le_of_ble_eq_true rfl⟩ rfl rfl (Nat.le_of_ble_eq_true rfl) ⟨Nat.zero_le _, Nat.zero_le _⟩ ?_
    refine r_if_ne hX e_X10_paste_11 (fun hc => ?_) (fun hc => ?_)
    · have hf := ite_f hf hc
      refine r_aload_n (i := 0) hX e_X10_paste_17 rfl rfl ?_
      obtain ⟨g3, hf⟩ := gd_s hf
      obtain ⟨r4, hr4, hf⟩ := bd_s hf
      refine r_getR hX hn e_X10_paste_18 fl_10_36 rfl g3 hr4 ?_
      refine r_iload_n (i := 1) hX e_X10_paste_21 rfl rfl ?_
      obtain ⟨g5, hf⟩ := gd_s hf
      obtain ⟨r6, hr6, hf⟩ := bd_s hf
      refine r_aald hX hn e_X10_paste_22 g5 (Nat.le_of_ble_eq_true rfl) rfl rfl rfl hr6 ?_
      refine r_astore hX e_X10_paste_23 (Nat.le_of_ble_eq_true rfl) rfl ?_
      refine r_aload_n (i := 0) hX e_X10_paste_25 rfl rfl ?_
      refine r_getR hX hn e_X10_paste_26 fl_10_36 rfl g3 hr4 ?_
      refine r_iload_n (i := 3) hX e_X10_paste_29 rfl rfl ?_
      obtain ⟨g7, hf⟩ := gd_s hf
      obtain ⟨r8, hr8, hf⟩ := bd_s hf
      refine r_aald hX hn e_X10_paste_30 g7 (Nat.le_of_ble_eq_true rfl) rfl rfl rfl hr8 ?_
      refine r_astore hX e_X10_paste_31 (Nat.le_of_ble_eq_true rfl) rfl ?_
      refine r_aload hX e_X10_paste_33 rfl ?_
      obtain ⟨g9, hf⟩ := gd_s hf
      refine r_getI hX hn e_X10_paste_35 fl_10_290 rfl g9 ?_
      refine r_if_eq hX e_X10_paste_38 (fun hc => ?_) (fun hc => ?_)
      · have hf := ite_t hf hc
        refine r_bipush hX e_X10_paste_49 bc_m6 ?_
        exact r_iret hX hR e_X10_paste_51 hf
      · have hf := ite_f hf hc
        refine r_aload hX e_X10_paste_41 rfl ?_
        obtain ⟨g10, hf⟩ := gd_s hf
        refine r_getI hX hn e_X10_paste_43 fl_10_290 rfl g10 ?_
        refine r_if_ne hX e_X10_paste_46 (fun hc => ?_) (fun hc => ?_)
        · have hf := ite_f hf hc
          refine r_aload hX e_X10_paste_52 rfl ?_
          refine r_getI hX hn e_X10_paste_54 fl_10_355 rfl g9 ?_
          refine r_aload hX e_X10_paste_57 rfl ?_
          refine r_getI hX hn e_X10_paste_59 fl_10_355 rfl g10 ?_
          refine r_icmp_eq hX e_X10_paste_62 (fun hc => ?_) (fun hc => ?_)
          · have hf := ite_t hf hc
            refine r_aload hX e_X10_paste_68 rfl ?_
            refine r_iload_n (i := 2) hX e_X10_paste_70 rfl rfl ?_
            refine r_iload hX e_X10_paste_71 rfl ?_
            obtain ⟨v11, hv11, hf⟩ := bd_s hf
            refine r_cvi (As := fun K B => [.int (a2), .int (a5)]) hX hn (t_X8_holds hv11) e_X10_paste_73 cw_X8_holds cv_X8_holds lk_10_358 ⟨Nat.le_of_ble_eq_true rfl, Nat.le_of_ble_eq_true rfl⟩ (ci := 8) rfl rfl (Nat.le_of_ble_eq_true rfl) g9 rfl rfl (Nat.le_of_ble_eq_true rfl) ⟨Nat.zero_le _, Nat.zero_le _⟩ ?_
            refine r_if_eq hX e_X10_paste_76 (fun hc => ?_) (fun hc => ?_)
            · have hf := ite_t hf hc
              refine r_bipush hX e_X10_paste_91 bc_m7 ?_
              exact r_iret hX hR e_X10_paste_93 hf
            · have hf := ite_f hf hc
              refine r_aload hX e_X10_paste_79 rfl ?_
              refine r_iload hX e_X10_paste_81 rfl ?_
              refine r_iload hX e_X10_paste_83 rfl ?_
              obtain ⟨v12, hv12, hf⟩ := bd_s hf
              refine r_cvi (As := fun K B => [.int (a4), .int (a5)]) hX hn (t_X8_holds hv12) e_X10_paste_85 cw_X8_holds cv_X8_holds lk_10_358 ⟨Nat.le_of_ble_eq_true rfl, Nat.le_of_ble_eq_true rfl⟩ (ci := 8) rfl rfl (Nat.le_of_ble_eq_true rfl) g10 rfl rfl (Nat.le_of_ble_eq_true rfl) ⟨Nat.zero_le _, Nat.zero_le _⟩ ?_
              refine r_if_ne hX e_X10_paste_88 (fun hc => ?_) (fun hc => ?_)
              · have hf := ite_f hf hc
                refine r_aload hX e_X10_paste_94 rfl ?_
                obtain ⟨r13, hr13, hf⟩ := bd_s hf
                refine r_getR hX hn e_X10_paste_96 fl_10_330 rfl g9 hr13 ?_
                refine r_iload_n (i := 2) hX e_X10_paste_99 rfl rfl ?_
                refine r_aload hX e_X10_paste_100 rfl ?_
                obtain ⟨r14, hr14, hf⟩ := bd_s hf
                refine r_getR hX hn e_X10_paste_102 fl_10_330 rfl g10 hr14 ?_
                refine r_iload hX e_X10_paste_105 rfl ?_
                refine r_iload hX e_X10_paste_107 rfl ?_
                obtain ⟨g15, hf⟩ := gd_s hf
                obtain ⟨M16, hM16, hf⟩ := nx_s hf
                refine r_cpL hX hn hM16 e_X10_paste_109 cp_10_361 g15 (Nat.le_of_ble_eq_true rfl) (Nat.le_of_ble_eq_true rfl) ?_
                refine r_iconst hX e_X10_paste_112 ic_0 ?_
                exact r_iret hX hR e_X10_paste_113 hf
              · have hf := ite_t hf hc
                refine r_bipush hX e_X10_paste_91 bc_m7 ?_
                exact r_iret hX hR e_X10_paste_93 hf
          · have hf := ite_f hf hc
            refine r_bipush hX e_X10_paste_65 bc_m8 ?_
            exact r_iret hX hR e_X10_paste_67 hf
        · have hf := ite_t hf hc
          refine r_bipush hX e_X10_paste_49 bc_m6 ?_
          exact r_iret hX hR e_X10_paste_51 hf
    · have hf := ite_t hf hc
      refine r_bipush hX e_X10_paste_14 bc_m2 ?_
      exact r_iret hX hR e_X10_paste_16 hf
def f_X11_in (M : Mem) (a0 : Int64) (a1 : Int64) (a2 : Int64) : Option (Int32) :=
  if (lg_cmp a0 a1) < 0 then some 0 else if 0 < (lg_cmp a0 a2) then some 0 else some 1
theorem t_X11_in {l : Launch} {M : Mem} {a0 a1 a2 : Int64} {res : Int32} (hf : f_X11_in M a0 a1 a2 = some res) : Ci l yX11_in cX11_in 6 (some .boolean) 0 0 shR nR (fun K B => [.long a0, .long a1, .long a2]) M (M, res) := by
  refine met_i (own := RX11) (lo := fun K B => [some (.long a0), none, some (.long a1), none, some (.long a2), none]) (by decide +kernel) rfl shR_ok (fun _ _ => rfl) (fun _ _ => rfl) (fun _ _ => Nat.le_of_ble_eq_true rfl) (fun X hX hn hlx hR => ?_)
  refine r_lload_n (i := 0) hX e_X11_in_0 rfl rfl ?_
  refine r_lload_n (i := 2) hX e_X11_in_1 rfl rfl ?_
  refine r_lcmp hX e_X11_in_2 ?_
  refine r_if_lt hX e_X11_in_3 (fun hc => ?_) (fun hc => ?_)
  · have hf := ite_t hf hc
    refine r_iconst hX e_X11_in_17 ic_0 ?_
    exact r_zret hX hR rfl e_X11_in_18 (ro_s hf)
  · have hf := ite_f hf hc
    refine r_lload_n (i := 0) hX e_X11_in_6 rfl rfl ?_
    refine r_lload hX e_X11_in_7 rfl ?_
    refine r_lcmp hX e_X11_in_9 ?_
    refine r_if_gt hX e_X11_in_10 (fun hc => ?_) (fun hc => ?_)
    · have hf := ite_t hf hc
      refine r_iconst hX e_X11_in_17 ic_0 ?_
      exact r_zret hX hR rfl e_X11_in_18 (ro_s hf)
    · have hf := ite_f hf hc
      refine r_iconst hX e_X11_in_13 ic_1 ?_
      refine r_goto hX e_X11_in_14 ?_
      exact r_zret hX hR rfl e_X11_in_18 (ro_s hf)
def f_X11_isSlot (M : Mem) (a0 : Int32) : Option (Int32) :=
  bd (f_X11_in M ((a0 : Int32).toInt64) 0 3) fun v1 => gd (isZ v1) <| some v1
theorem t_X11_isSlot {l : Launch} {M : Mem} {a0 : Int32} {res : Int32} (hf : f_X11_isSlot M a0 = some res) : Ci l yX11_isSlot cX11_isSlot 1 (some .boolean) 1 25 shR nR (fun K B => [.int a0]) M (M, res) := by
  refine met_i (own := RX11) (lo := fun K B => [some (.int a0)]) (by decide +kernel) rfl shR_ok (fun _ _ => rfl) (fun _ _ => rfl) (fun _ _ => Nat.le_of_ble_eq_true rfl) (fun X hX hn hlx hR => ?_)
  refine r_iload_n (i := 0) hX e_X11_isSlot_0 rfl rfl ?_
  refine r_i2l hX e_X11_isSlot_1 ?_
  refine r_lconst hX e_X11_isSlot_2 lc_0 ?_
  refine r_ldc2 hX e_X11_isSlot_3 wk_1293 ?_
  obtain ⟨v1, hv1, hf⟩ := bd_s hf
  refine r_csi (As := fun K B => [.long ((a0 : Int32).toInt64), .long (0), .long (3)]) hX hn (t_X11_in hv1) e_X11_isSlot_6 cw_X11_in cv_X11_in lk_11_127 ⟨Nat.le_of_ble_eq_true rfl, Nat.le_of_ble_eq_true rfl⟩ rfl rfl (Nat.le_of_ble_eq_true rfl) ⟨Nat.zero_le _, Nat.zero_le _⟩ ?_
  obtain ⟨g2, hf⟩ := gd_s hf
  exact r_zret hX hR g2 e_X11_isSlot_9 (ro_s hf)
def s_X11_row_57 (k57 : Mem → Nat → Int32 → Int32 → Int32 → Option (Mem × Int32)) (M : Mem) (x0 : Nat) (x1 : Int32) (x3 : Int32) (x4 : Int32) : Option (Mem × Int32) :=
  if x3 ≤ x4 then some (M, 0) else gd (oB shR x0 11) <| bd (gR M x0 3) fun r2 => gd (aB shR r2 1 ((60 * x1) + x4)) <| nx (sL M r2 (((60 * x1) + x4) : Int32).toNatClampNeg 0) fun M4 => k57 M4 (x0) (x1) (x3) ((x4 + 1))
def f_X11_row_57  : Nat → Mem → Nat → Int32 → Int32 → Int32 → Option (Mem × Int32)
  | 0 => fun _ _ _ _ _ => none
  | n + 1 => fun y0 y1 y2 y3 y4 => s_X11_row_57  (f_X11_row_57  n) y0 y1 y2 y3 y4
def f_X11_row (M : Mem) (a0 : Nat) (a1 : Int32) (a2 : Int32) (a3 : Int32) : Option (Mem × Int32) :=
  gd (oB shR a0 11) <| nx (sI M a0 0 0) fun M2 => bd (f_X11_isSlot M2 a1) fun v3 => if v3 = 0 then some (M2, (-2)) else bd (f_X11_in M2 ((a2 : Int32).toInt64) 0 3) fun v4 => if v4 = 0 then some (M2, (-2)) else if a3 ≤ 60 then if 0 ≤ a3 then bd (gR M2 a0 1) fun r5 => gd (aB shR r5 0 a1) <| nx (sI M2 r5 (a1 : Int32).toNatClampNeg a2) fun M7 => bd (gR M7 a0 2) fun r8 => gd (aB shR r8 0 a1) <| nx (sI M7 r8 (a1 : Int32).toNatClampNeg a3) fun M10 => f_X11_row_57 FU M10 (a0) (a1) (a3) (0) else some (M2, (-3)) else some (M2, (-2))
theorem t_s_X11_row_57 {X : Cx} {res : Mem × Int32} {k57 : Mem → Nat → Int32 → Int32 → Int32 → Option (Mem × Int32)} (hX : OkX X cX11_row RX11 2 45) (hn : Fit X shR nR) (hR : RetI X shR nR .int res) (hk57 : ∀ M x0 x1 x3 x4, k57 M x0 x1 x3 x4 = some res → GoN X shR nR 0 0 M 57 [some (.ref (X.B + x0)), some (.int (x1)), none, some (.int (x3)), some (.int (x4))] []) (M : Mem) (x0 : Nat) (x1 : Int32) (x3 : Int32) (x4 : Int32) (hf : s_X11_row_57 k57 M x0 x1 x3 x4 = some res) : GoN X shR nR 0 0 M 57 [some (.ref (X.B + x0)), some (.int (x1)), none, some (.int (x3)), some (.int (x4))] [] := by
  refine r_iload hX e_X11_row_57 rfl ?_
  refine r_iload_n (i := 3) hX e_X11_row_59 rfl rfl ?_
  refine r_icmp_ge hX e_X11_row_60 (fun hc => ?_) (fun hc => ?_)
  · have hf := ite_t hf hc
    refine r_iconst hX e_X11_row_82 ic_0 ?_
    exact r_iret hX hR e_X11_row_83 hf
  · have hf := ite_f hf hc
    refine r_aload_n (i := 0) hX e_X11_row_63 rfl rfl ?_
    obtain ⟨g1, hf⟩ := gd_s hf
    obtain ⟨r2, hr2, hf⟩ := bd_s hf
    refine r_getR hX hn e_X11_row_64 fl_11_16 rfl g1 hr2 ?_
    refine r_bipush hX e_X11_row_67 bc_60 ?_
    refine r_iload_n (i := 1) hX e_X11_row_69 rfl rfl ?_
    refine r_imul hX e_X11_row_70 ?_
    refine r_iload hX e_X11_row_71 rfl ?_
    refine r_iadd hX e_X11_row_73 ?_
    refine r_lconst hX e_X11_row_74 lc_0 ?_
    obtain ⟨g3, hf⟩ := gd_s hf
    obtain ⟨M4, hM4, hf⟩ := nx_s hf
    refine r_last hX hn hM4 e_X11_row_75 g3 ?_
    refine r_iinc (v := x4 + 1) hX e_X11_row_76 rfl (ii_s ic_1) (Nat.le_of_ble_eq_true rfl) rfl ?_
    refine r_goto hX e_X11_row_79 ?_
    exact GoN.weak (hk57 M4 (x0) (x1) (x3) ((x4 + 1)) hf) rfl (sb_s (sb_s (sb_n (sb_s (sb_s (sb_z _))))))
theorem t_X11_row_57 {X : Cx} {res : Mem × Int32}  (hX : OkX X cX11_row RX11 2 45) (hn : Fit X shR nR) (hR : RetI X shR nR .int res)  : ∀ (n : Nat) (M : Mem) (x0 : Nat) (x1 : Int32) (x3 : Int32) (x4 : Int32),  f_X11_row_57  n M x0 x1 x3 x4 = some res → GoN X shR nR 0 0 M 57 [some (.ref (X.B + x0)), some (.int (x1)), none, some (.int (x3)), some (.int (x4))] [] := by
  intro n
  induction n with
  | zero => intro M x0 x1 x3 x4 hf; cases hf
  | succ n ih => intro M x0 x1 x3 x4 hf; exact t_s_X11_row_57 hX hn hR  ih M x0 x1 x3 x4 hf
theorem t_X11_row {l : Launch} {M : Mem} {a0 : Nat} {a1 a2 a3 : Int32} {res : Mem × Int32} (hf : f_X11_row M a0 a1 a2 a3 = some res) : Ci l yX11_row cX11_row 5 (some .int) 2 45 shR nR (fun K B => [.ref (B + a0), .int a1, .int a2, .int a3]) M res := by
  refine met_i (own := RX11) (lo := fun K B => [some (.ref (B + a0)), some (.int a1), some (.int a2), some (.int a3), none]) (by decide +kernel) rfl shR_ok (fun _ _ => rfl) (fun _ _ => rfl) (fun _ _ => Nat.le_of_ble_eq_true rfl) (fun X hX hn hlx hR => ?_)
  refine r_aload_n (i := 0) hX e_X11_row_0 rfl rfl ?_
  refine r_iconst hX e_X11_row_1 ic_0 ?_
  obtain ⟨g1, hf⟩ := gd_s hf
  obtain ⟨M2, hM2, hf⟩ := nx_s hf
  refine r_putI hX hn hM2 e_X11_row_2 fl_11_122 fp_11_0 rfl g1 ?_
  refine r_iload_n (i := 1) hX e_X11_row_5 rfl rfl ?_
  obtain ⟨v3, hv3, hf⟩ := bd_s hf
  refine r_csi (As := fun K B => [.int (a1)]) hX hn (t_X11_isSlot hv3) e_X11_row_6 cw_X11_isSlot cv_X11_isSlot lk_11_131 ⟨Nat.le_of_ble_eq_true rfl, Nat.le_of_ble_eq_true rfl⟩ rfl rfl (Nat.le_of_ble_eq_true rfl) ⟨Nat.zero_le _, Nat.zero_le _⟩ ?_
  refine r_if_eq hX e_X11_row_9 (fun hc => ?_) (fun hc => ?_)
  · have hf := ite_t hf hc
    refine r_bipush hX e_X11_row_30 bc_m2 ?_
    exact r_iret hX hR e_X11_row_32 hf
  · have hf := ite_f hf hc
    refine r_iload_n (i := 2) hX e_X11_row_12 rfl rfl ?_
    refine r_i2l hX e_X11_row_13 ?_
    refine r_lconst hX e_X11_row_14 lc_0 ?_
    refine r_ldc2 hX e_X11_row_15 wk_1293 ?_
    obtain ⟨v4, hv4, hf⟩ := bd_s hf
    refine r_csi (As := fun K B => [.long ((a2 : Int32).toInt64), .long (0), .long (3)]) hX hn (t_X11_in hv4) e_X11_row_18 cw_X11_in cv_X11_in lk_11_127 ⟨Nat.le_of_ble_eq_true rfl, Nat.le_of_ble_eq_true rfl⟩ rfl rfl (Nat.le_of_ble_eq_true rfl) ⟨Nat.zero_le _, Nat.zero_le _⟩ ?_
    refine r_if_eq hX e_X11_row_21 (fun hc => ?_) (fun hc => ?_)
    · have hf := ite_t hf hc
      refine r_bipush hX e_X11_row_30 bc_m2 ?_
      exact r_iret hX hR e_X11_row_32 hf
    · have hf := ite_f hf hc
      refine r_iload_n (i := 3) hX e_X11_row_24 rfl rfl ?_
      refine r_bipush hX e_X11_row_25 bc_60 ?_
      refine r_icmp_le hX e_X11_row_27 (fun hc => ?_) (fun hc => ?_)
      · have hf := ite_t hf hc
        refine r_iload_n (i := 3) hX e_X11_row_33 rfl rfl ?_
        refine r_if_ge hX e_X11_row_34 (fun hc => ?_) (fun hc => ?_)
        · have hf := ite_t hf hc
          refine r_aload_n (i := 0) hX e_X11_row_40 rfl rfl ?_
          obtain ⟨r5, hr5, hf⟩ := bd_s hf
          refine r_getR hX hn e_X11_row_41 fl_11_7 rfl g1 hr5 ?_
          refine r_iload_n (i := 1) hX e_X11_row_44 rfl rfl ?_
          refine r_iload_n (i := 2) hX e_X11_row_45 rfl rfl ?_
          obtain ⟨g6, hf⟩ := gd_s hf
          obtain ⟨M7, hM7, hf⟩ := nx_s hf
          refine r_iast hX hn hM7 e_X11_row_46 g6 ?_
          refine r_aload_n (i := 0) hX e_X11_row_47 rfl rfl ?_
          obtain ⟨r8, hr8, hf⟩ := bd_s hf
          refine r_getR hX hn e_X11_row_48 fl_11_13 rfl g1 hr8 ?_
          refine r_iload_n (i := 1) hX e_X11_row_51 rfl rfl ?_
          refine r_iload_n (i := 3) hX e_X11_row_52 rfl rfl ?_
          obtain ⟨g9, hf⟩ := gd_s hf
          obtain ⟨M10, hM10, hf⟩ := nx_s hf
          refine r_iast hX hn hM10 e_X11_row_53 g9 ?_
          refine r_iconst hX e_X11_row_54 ic_0 ?_
          refine r_istore hX e_X11_row_55 (Nat.le_of_ble_eq_true rfl) rfl ?_
          exact GoN.weak (t_X11_row_57 hX hn hR FU M10 (a0) (a1) (a3) (0) hf) rfl (sb_s (sb_s (sb_n (sb_s (sb_s (sb_z _))))))
        · have hf := ite_f hf hc
          refine r_bipush hX e_X11_row_37 bc_m3 ?_
          exact r_iret hX hR e_X11_row_39 hf
      · have hf := ite_f hf hc
        refine r_bipush hX e_X11_row_30 bc_m2 ?_
        exact r_iret hX hR e_X11_row_32 hf
