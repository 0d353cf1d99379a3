def f_X6_readWants_82  (M : Mem) (x0 : Nat) (x3 : Nat) (x4 : Int32) : Option (Mem) :=
  gd (oB shC x0 6) <| bd (f_X6_next M x0) fun u2 => gd (oB shC x3 1) <| bd (gR u2 x3 4) fun r4 => gd (aB shC r4 0 (gI u2 x3 3)) <| nx (sI u2 r4 ((gI u2 x3 3) : Int32).toNatClampNeg x4) fun M6 => bd (f_X6_word M6 x0 13) fun u7 => bd (gR u7 x3 5) fun r8 => bd (f_X6_number u7 x0 1 9) fun u9 => gd (aB shC r8 0 (gI u2 x3 3)) <| nx (sI u9.1 r8 ((gI u2 x3 3) : Int32).toNatClampNeg u9.2) fun M11 => bd (f_X6_word M11 x0 23) fun u12 => bd (gR u12 x3 6) fun r13 => bd (f_X6_number u12 x0 0 99) fun u14 => gd (aB shC r13 0 (gI u2 x3 3)) <| nx (sI u14.1 r13 ((gI u2 x3 3) : Int32).toNatClampNeg u14.2) fun M16 => nx (sI M16 x3 3 ((gI M16 x3 3) + 1)) fun M17 => some M17
def f_X6_readWants (M : Mem) (a0 : Nat) (a1 : Nat) : Option (Mem) :=
  gd (oB shC a0 6) <| bd (f_X6_next M a0) fun u2 => gd (oB shC a1 4) <| bd (f_X6_numberHere u2 a0 0 ((gI u2 a1 5) - 1)) fun u4 => if (gI u4.1 a0 2) = 0 then bd (gR u4.1 a1 8) fun r5 => gd (aB shC r5 6 u4.2) <| bd (gR u4.1 r5 (u4.2 : Int32).toNatClampNeg) fun r7 => gd (oB shC r7 1) <| bd (f_X6_isFull u4.1 a0 (gI u4.1 r7 3) 3) fun u9 => if u9.2 = 0 then bd (gR u9.1 a1 8) fun r10 => gd (aB shC r10 6 u4.2) <| bd (gR u9.1 r10 (u4.2 : Int32).toNatClampNeg) fun r12 => bd (f_X6_next u9.1 a0) fun u13 => bd (f_X6_numberHere u13 a0 0 5) fun u14 => if (gI u14.1 a0 2) = 0 then gd (oB shC r12 1) <| bd (f_X1_wantOf u14.1 r12 u14.2) fun v16 => if v16 = (-1) then f_X6_readWants_82 u14.1 (a0) (r12) (u14.2) else bd (f_X6_refuse u14.1 a0 2) fun u17 => f_X6_readWants_82 u17 (a0) (r12) (u14.2) else f_X6_readWants_82 u14.1 (a0) (r12) (u14.2) else some u9.1 else some u4.1
theorem t_X6_readWants_82 {X : Cx} {res : Mem}  (hX : OkX X cX6_readWants RX6 6 128) (hn : Fit X shC nC) (hR : RetV X shC nC res)  (M : Mem) (x0 : Nat) (x3 : Nat) (x4 : Int32) (hf : f_X6_readWants_82  M x0 x3 x4 = some res) : GoN X shC nC 0 0 M 82 [some (.ref (X.B + x0)), none, none, some (.ref (X.B + x3)), some (.int (x4)), none] [] := by
  refine r_aload_n (i := 0) hX e_X6_readWants_82 rfl rfl ?_
  obtain ⟨g1, hf⟩ := gd_s hf
  obtain ⟨u2, hu2, hf⟩ := bd_s hf
  refine r_cvv (As := fun K B => []) hX hn (t_X6_next hu2) e_X6_readWants_83 cw_X6_next cv_X6_next lk_6_36 ⟨Nat.le_of_ble_eq_true rfl, Nat.le_of_ble_eq_true rfl⟩ (ci := 6) rfl rfl (Nat.le_of_ble_eq_true rfl) g1 rfl rfl (Nat.le_of_ble_eq_true rfl) ⟨Nat.zero_le _, Nat.zero_le _⟩ ?_
  refine r_aload_n (i := 3) hX e_X6_readWants_86 rfl rfl ?_
  obtain ⟨g3, hf⟩ := gd_s hf
  refine r_getI hX hn e_X6_readWants_87 fl_6_200 rfl g3 ?_
  refine r_istore hX e_X6_readWants_90 (Nat.le_of_ble_eq_true rfl) rfl ?_
  refine r_aload_n (i := 3) hX e_X6_readWants_92 rfl rfl ?_
  obtain ⟨r4, hr4, hf⟩ := bd_s hf
  refine r_getR hX hn e_X6_readWants_93 fl_6_217 rfl g3 hr4 ?_
  refine r_iload hX e_X6_readWants_96 rfl ?_
  refine r_iload hX e_X6_readWants_98 rfl ?_
  obtain ⟨g5, hf⟩ := gd_s hf
  obtain ⟨M6, hM6, hf⟩ := nx_s hf
  refine r_iast hX hn hM6 e_X6_readWants_100 g5 ?_
  refine r_aload_n (i := 0) hX e_X6_readWants_101 rfl rfl ?_
  refine r_ldcS (i := 13) hX rfl e_X6_readWants_102 rfl ?_
  obtain ⟨u7, hu7, hf⟩ := bd_s hf
  refine r_cvv (As := fun K B => [.ref (K (1000 + 13))]) hX hn (t_X6_word hu7) e_X6_readWants_104 cw_X6_word cv_X6_word lk_6_90 ⟨Nat.le_of_ble_eq_true rfl, Nat.le_of_ble_eq_true rfl⟩ (ci := 6) rfl rfl (Nat.le_of_ble_eq_true rfl) g1 rfl rfl (Nat.le_of_ble_eq_true rfl) ⟨Nat.zero_le _, Nat.zero_le _⟩ ?_
  refine r_aload_n (i := 3) hX e_X6_readWants_107 rfl rfl ?_
  obtain ⟨r8, hr8, hf⟩ := bd_s hf
  refine r_getR hX hn e_X6_readWants_108 fl_6_220 rfl g3 hr8 ?_
  refine r_iload hX e_X6_readWants_111 rfl ?_
  refine r_aload_n (i := 0) hX e_X6_readWants_113 rfl rfl ?_
  refine r_iconst hX e_X6_readWants_114 ic_1 ?_
  refine r_bipush hX e_X6_readWants_115 bc_9 ?_
  obtain ⟨u9, hu9, hf⟩ := bd_s hf
  refine r_cvi (As := fun K B => [.int (1), .int (9)]) hX hn (t_X6_number hu9) e_X6_readWants_117 cw_X6_number cv_X6_number lk_6_96 ⟨Nat.le_of_ble_eq_true rfl, Nat.le_of_ble_eq_true rfl⟩ (ci := 6) rfl rfl (Nat.le_of_ble_eq_true rfl) g1 rfl rfl (Nat.le_of_ble_eq_true rfl) ⟨Nat.zero_le _, Nat.zero_le _⟩ ?_
  obtain ⟨g10, hf⟩ := gd_s hf
  obtain ⟨M11, hM11, hf⟩ := nx_s hf
  refine r_iast hX hn hM11 e_X6_readWants_120 g10 ?_
  refine r_aload_n (i := 0) hX e_X6_readWants_121 rfl rfl ?_
  refine r_ldcS (i := 23) hX rfl e_X6_readWants_122 rfl ?_
  obtain ⟨u12, hu12, hf⟩ := bd_s hf
  refine r_cvv (As := fun K B => [.ref (K (1000 + 23))]) hX hn (t_X6_word hu12) e_X6_readWants_124 cw_X6_word cv_X6_word lk_6_90 ⟨Nat.le_of_ble_eq_true rfl, Nat.le_of_ble_eq_true rfl⟩ (ci := 6) rfl rfl (Nat.le_of_ble_eq_true rfl) g1 rfl rfl (Nat.le_of_ble_eq_true rfl) ⟨Nat.zero_le _, Nat.zero_le _⟩ ?_
  refine r_aload_n (i := 3) hX e_X6_readWants_127 rfl rfl ?_
  obtain ⟨r13, hr13, hf⟩ := bd_s hf
  refine r_getR hX hn e_X6_readWants_128 fl_6_224 rfl g3 hr13 ?_
  refine r_iload hX e_X6_readWants_131 rfl ?_
  refine r_aload_n (i := 0) hX e_X6_readWants_133 rfl rfl ?_
  refine r_iconst hX e_X6_readWants_134 ic_0 ?_
  refine r_bipush hX e_X6_readWants_135 bc_99 ?_
  obtain ⟨u14, hu14, hf⟩ := bd_s hf
  refine r_cvi (As := fun K B => [.int (0), .int (99)]) hX hn (t_X6_number hu14) e_X6_readWants_137 cw_X6_number cv_X6_number lk_6_96 ⟨Nat.le_of_ble_eq_true rfl, Nat.le_of_ble_eq_true rfl⟩ (ci := 6) rfl rfl (Nat.le_of_ble_eq_true rfl) g1 rfl rfl (Nat.le_of_ble_eq_true rfl) ⟨Nat.zero_le _, Nat.zero_le _⟩ ?_
  obtain ⟨g15, hf⟩ := gd_s hf
  obtain ⟨M16, hM16, hf⟩ := nx_s hf
  refine r_iast hX hn hM16 e_X6_readWants_140 g15 ?_
  refine r_aload_n (i := 3) hX e_X6_readWants_141 rfl rfl ?_
  refine r_dup hX e_X6_readWants_142 rfl ?_
  refine r_getI hX hn e_X6_readWants_143 fl_6_200 rfl g3 ?_
  refine r_iconst hX e_X6_readWants_146 ic_1 ?_
  refine r_iadd hX e_X6_readWants_147 ?_
  obtain ⟨M17, hM17, hf⟩ := nx_s hf
  refine r_putI hX hn hM17 e_X6_readWants_148 fl_6_200 fp_1_3 rfl g3 ?_
  exact r_ret hX hR e_X6_readWants_151 hf
theorem t_X6_readWants {l : Launch} {M : Mem} {a0 a1 : Nat} {res : Mem} (hf : f_X6_readWants M a0 a1 = some res) : Cv l yX6_readWants cX6_readWants 6 none 6 128 shC nC (fun K B => [.ref (B + a0), .ref (B + a1)]) M res := by
  refine met_v (own := RX6) (lo := fun K B => [some (.ref (B + a0)), some (.ref (B + a1)), none, none, none, none]) (by decide +kernel) rfl shC_ok (fun _ _ => rfl) (fun _ _ => rfl) (fun _ _ => Nat.le_of_ble_eq_true rfl) (fun X hX hn hlx hR => ?_)
  refine r_aload_n (i := 0) hX e_X6_readWants_0 rfl rfl ?_
  obtain ⟨g1, hf⟩ := gd_s hf
  obtain ⟨u2, hu2, hf⟩ := bd_s hf
  refine r_cvv (As := fun K B => []) hX hn (t_X6_next hu2) e_X6_readWants_1 cw_X6_next cv_X6_next lk_6_36 ⟨Nat.le_of_ble_eq_true rfl, Nat.le_of_ble_eq_true rfl⟩ (ci := 6) rfl rfl (Nat.le_of_ble_eq_true rfl) g1 rfl rfl (Nat.le_of_ble_eq_true rfl) ⟨Nat.zero_le _, Nat.zero_le _⟩ ?_
  refine r_aload_n (i := 0) hX e_X6_readWants_4 rfl rfl ?_
  refine r_iconst hX e_X6_readWants_5 ic_0 ?_
  refine r_aload_n (i := 1) hX e_X6_readWants_6 rfl rfl ?_
  obtain ⟨g3, hf⟩ := gd_s hf
  refine r_getI hX hn e_X6_readWants_7 fl_6_178 rfl g3 ?_
  refine r_iconst hX e_X6_readWants_10 ic_1 ?_
  refine r_isub hX e_X6_readWants_11 ?_
  obtain ⟨u4, hu4, hf⟩ := bd_s hf
  refine r_cvi (As := fun K B => [.int (0), .int (((gI u2 a1 5) - 1))]) hX hn (t_X6_numberHere hu4) e_X6_readWants_12 cw_X6_numberHere cv_X6_numberHere lk_6_210 ⟨Nat.le_of_ble_eq_true rfl, Nat.le_of_ble_eq_true rfl⟩ (ci := 6) rfl rfl (Nat.le_of_ble_eq_true rfl) g1 rfl rfl (Nat.le_of_ble_eq_true rfl) ⟨Nat.zero_le _, Nat.zero_le _⟩ ?_
  refine r_istore_n (i := 2) hX e_X6_readWants_15 rfl (Nat.le_of_ble_eq_true rfl) rfl ?_
  refine r_aload_n (i := 0) hX e_X6_readWants_16 rfl rfl ?_
  refine r_getI hX hn e_X6_readWants_17 fl_6_19 rfl g1 ?_
  refine r_if_ne hX e_X6_readWants_20 (fun hc => ?_) (fun hc => ?_)
  · have hf := ite_f hf hc
    exact r_ret hX hR e_X6_readWants_40 hf
  · have hf := ite_t hf hc
    refine r_aload_n (i := 0) hX e_X6_readWants_23 rfl rfl ?_
    refine r_aload_n (i := 1) hX e_X6_readWants_24 rfl rfl ?_
    obtain ⟨r5, hr5, hf⟩ := bd_s hf
    refine r_getR hX hn e_X6_readWants_25 fl_6_181 rfl g3 hr5 ?_
    refine r_iload_n (i := 2) hX e_X6_readWants_28 rfl rfl ?_
    obtain ⟨g6, hf⟩ := gd_s hf
    obtain ⟨r7, hr7, hf⟩ := bd_s hf
    refine r_aald hX hn e_X6_readWants_29 g6 (Nat.le_of_ble_eq_true rfl) rfl rfl rfl hr7 ?_
    obtain ⟨g8, hf⟩ := gd_s hf
    refine r_getI hX hn e_X6_readWants_30 fl_6_200 rfl g8 ?_
    refine r_iconst hX e_X6_readWants_33 ic_3 ?_
    obtain ⟨u9, hu9, hf⟩ := bd_s hf
    refine r_cvi (As := fun K B => [.int ((gI u4.1 r7 3)), .int (3)]) hX hn (t_X6_isFull hu9) e_X6_readWants_34 cw_X6_isFull cv_X6_isFull lk_6_109 ⟨Nat.le_of_ble_eq_true rfl, Nat.le_of_ble_eq_true rfl⟩ (ci := 6) rfl rfl (Nat.le_of_ble_eq_true rfl) g1 rfl rfl (Nat.le_of_ble_eq_true rfl) ⟨Nat.zero_le _, Nat.zero_le _⟩ ?_
    refine r_if_eq hX e_X6_readWants_37 (fun hc => ?_) (fun hc => ?_)
    · have hf := ite_t hf hc
      refine r_aload_n (i := 1) hX e_X6_readWants_41 rfl rfl ?_
      obtain ⟨r10, hr10, hf⟩ := bd_s hf
      refine r_getR hX hn e_X6_readWants_42 fl_6_181 rfl g3 hr10 ?_
      refine r_iload_n (i := 2) hX e_X6_readWants_45 rfl rfl ?_
      obtain ⟨g11, hf⟩ := gd_s hf
      obtain ⟨r12, hr12, hf⟩ := bd_s hf
      refine r_aald hX hn e_X6_readWants_46 g11 (Nat.le_of_ble_eq_true rfl) rfl rfl rfl hr12 ?_
      refine r_astore_n (i := 3) hX e_X6_readWants_47 rfl (Nat.le_of_ble_eq_true rfl) rfl ?_
      refine r_aload_n (i := 0) hX e_X6_readWants_48 rfl rfl ?_
      obtain ⟨u13, hu13, hf⟩ := bd_s hf
      refine r_cvv (As := fun K B => []) hX hn (t_X6_next hu13) e_X6_readWants_49 cw_X6_next cv_X6_next lk_6_36 ⟨Nat.le_of_ble_eq_true rfl, Nat.le_of_ble_eq_true rfl⟩ (ci := 6) rfl rfl (Nat.le_of_ble_eq_true rfl) g1 rfl rfl (Nat.le_of_ble_eq_true rfl) ⟨Nat.zero_le _, Nat.zero_le _⟩ ?_
      refine r_aload_n (i := 0) hX e_X6_readWants_52 rfl rfl ?_
      refine r_iconst hX e_X6_readWants_53 ic_0 ?_
      refine r_iconst hX e_X6_readWants_54 ic_5 ?_
      obtain ⟨u14, hu14, hf⟩ := bd_s hf
      refine r_cvi (As := fun K B => [.int (0), .int (5)]) hX hn (t_X6_numberHere hu14) e_X6_readWants_55 cw_X6_numberHere cv_X6_numberHere lk_6_210 ⟨Nat.le_of_ble_eq_true rfl, Nat.le_of_ble_eq_true rfl⟩ (ci := 6) rfl rfl (Nat.le_of_ble_eq_true rfl) g1 rfl rfl (Nat.le_of_ble_eq_true rfl) ⟨Nat.zero_le _, Nat.zero_le _⟩ ?_
      refine r_istore hX e_X6_readWants_58 (Nat.le_of_ble_eq_true rfl) rfl ?_
      refine r_aload_n (i := 0) hX e_X6_readWants_60 rfl rfl ?_
      refine r_getI hX hn e_X6_readWants_61 fl_6_19 rfl g1 ?_
      refine r_if_ne hX e_X6_readWants_64 (fun hc => ?_) (fun hc => ?_)
      · have hf := ite_f hf hc
        exact GoN.weak (t_X6_readWants_82 hX hn hR u14.1 (a0) (r12) (u14.2) hf) rfl (sb_s (sb_n (sb_n (sb_s (sb_s (sb_n (sb_z _)))))))
      · have hf := ite_t hf hc
        refine r_aload_n (i := 3) hX e_X6_readWants_67 rfl rfl ?_
        refine r_iload hX e_X6_readWants_68 rfl ?_
        obtain ⟨g15, hf⟩ := gd_s hf
        obtain ⟨v16, hv16, hf⟩ := bd_s hf
        refine r_cvi (As := fun K B => [.int (u14.2)]) hX hn (t_X1_wantOf hv16) e_X6_readWants_70 cw_X1_wantOf cv_X1_wantOf lk_6_213 ⟨Nat.le_of_ble_eq_true rfl, Nat.le_of_ble_eq_true rfl⟩ (ci := 1) rfl rfl (Nat.le_of_ble_eq_true rfl) g15 rfl rfl (Nat.le_of_ble_eq_true rfl) ⟨Nat.zero_le _, Nat.zero_le _⟩ ?_
        refine r_iconst hX e_X6_readWants_73 ic_m1 ?_
        refine r_icmp_eq hX e_X6_readWants_74 (fun hc => ?_) (fun hc => ?_)
        · have hf := ite_t hf hc
          exact GoN.weak (t_X6_readWants_82 hX hn hR u14.1 (a0) (r12) (u14.2) hf) rfl (sb_s (sb_n (sb_n (sb_s (sb_s (sb_n (sb_z _)))))))
        · have hf := ite_f hf hc
          refine r_aload_n (i := 0) hX e_X6_readWants_77 rfl rfl ?_
          refine r_iconst hX e_X6_readWants_78 ic_2 ?_
          obtain ⟨u17, hu17, hf⟩ := bd_s hf
          refine r_cvv (As := fun K B => [.int (2)]) hX hn (t_X6_refuse hu17) e_X6_readWants_79 cw_X6_refuse cv_X6_refuse lk_6_81 ⟨Nat.le_of_ble_eq_true rfl, Nat.le_of_ble_eq_true rfl⟩ (ci := 6) rfl rfl (Nat.le_of_ble_eq_true rfl) g1 rfl rfl (Nat.le_of_ble_eq_true rfl) ⟨Nat.zero_le _, Nat.zero_le _⟩ ?_
          exact GoN.weak (t_X6_readWants_82 hX hn hR u17 (a0) (r12) (u14.2) hf) rfl (sb_s (sb_n (sb_n (sb_s (sb_s (sb_n (sb_z _)))))))
    · have hf := ite_f hf hc
      exact r_ret hX hR e_X6_readWants_40 hf
def s_X6_readStuck_77 (k77 : Mem → Nat → Nat → Int32 → Int32 → Int32 → Option (Mem)) (M : Mem) (x0 : Nat) (x1 : Nat) (x2 : Int32) (x4 : Int32) (x5 : Int32) : Option (Mem) :=
  if x4 < x5 then gd (oB shC x0 6) <| nx (sI M x0 8 ((gI M x0 8) + 1)) fun M2 => some M2 else gd (oB shC x1 4) <| bd (gR M x1 6) fun r4 => gd (aB shC r4 4 x2) <| bd (gR M r4 (x2 : Int32).toNatClampNeg) fun r6 => gd (oB shC r6 7) <| nx (((gL M r6 2) ||| (1 <<< ((x5 : Int32).toInt64 &&& 63)))) fun v8 => nx (sL M r6 2 v8) fun M9 => k77 M9 (x0) (x1) (x2) (x4) ((x5 + 1))
def f_X6_readStuck_77  : Nat → Mem → Nat → Nat → Int32 → Int32 → Int32 → Option (Mem)
  | 0 => fun _ _ _ _ _ _ => none
  | n + 1 => fun y0 y1 y2 y3 y4 y5 => s_X6_readStuck_77  (f_X6_readStuck_77  n) y0 y1 y2 y3 y4 y5
def f_X6_readStuck (M : Mem) (a0 : Nat) (a1 : Nat) : Option (Mem) :=
  gd (oB shC a0 6) <| bd (f_X6_isFull M a0 (gI M a0 8) 4) fun u2 => if u2.2 = 0 then bd (f_X6_next u2.1 a0) fun u3 => gd (oB shC a1 4) <| bd (f_X6_number u3 a0 0 ((gI u3 a1 3) - 1)) fun u5 => bd (f_X6_word u5.1 a0 24) fun u6 => bd (f_X6_number u6 a0 0 ((gI u6 a1 1) - 1)) fun u7 => bd (f_X6_word u7.1 a0 25) fun u8 => bd (f_X6_number u8 a0 u7.2 ((gI u8 a1 1) - 1)) fun u9 => if (gI u9.1 a0 2) = 0 then f_X6_readStuck_77 FU u9.1 (a0) (a1) (u5.2) (u9.2) (u7.2) else some u9.1 else some u2.1
theorem t_s_X6_readStuck_77 {X : Cx} {res : Mem} {k77 : Mem → Nat → Nat → Int32 → Int32 → Int32 → Option (Mem)} (hX : OkX X cX6_readStuck RX6 6 128) (hn : Fit X shC nC) (hR : RetV X shC nC res) (hk77 : ∀ M x0 x1 x2 x4 x5, k77 M x0 x1 x2 x4 x5 = some res → GoN X shC nC 0 0 M 77 [some (.ref (X.B + x0)), some (.ref (X.B + x1)), some (.int (x2)), none, some (.int (x4)), some (.int (x5))] []) (M : Mem) (x0 : Nat) (x1 : Nat) (x2 : Int32) (x4 : Int32) (x5 : Int32) (hf : s_X6_readStuck_77 k77 M x0 x1 x2 x4 x5 = some res) : GoN X shC nC 0 0 M 77 [some (.ref (X.B + x0)), some (.ref (X.B + x1)), some (.int (x2)), none, some (.int (x4)), some (.int (x5))] [] := by
  refine r_iload hX e_X6_readStuck_77 rfl ?_
  refine r_iload hX e_X6_readStuck_79 rfl ?_
  refine r_icmp_gt hX e_X6_readStuck_81 (fun hc => ?_) (fun hc => ?_)
  · have hf := ite_t hf hc
    refine r_aload_n (i := 0) hX e_X6_readStuck_108 rfl rfl ?_
    refine r_dup hX e_X6_readStuck_109 rfl ?_
    obtain ⟨g1, hf⟩ := gd_s hf
    refine r_getI hX hn e_X6_readStuck_110 fl_6_28 rfl g1 ?_
    refine r_iconst hX e_X6_readStuck_113 ic_1 ?_
    refine r_iadd hX e_X6_readStuck_114 ?_
    obtain ⟨M2, hM2, hf⟩ := nx_s hf
    refine r_putI hX hn hM2 e_X6_readStuck_115 fl_6_28 fp_6_8 rfl g1 ?_
    exact r_ret hX hR e_X6_readStuck_118 hf
  · have hf := ite_f hf hc
    refine r_aload_n (i := 1) hX e_X6_readStuck_84 rfl rfl ?_
    obtain ⟨g3, hf⟩ := gd_s hf
    obtain ⟨r4, hr4, hf⟩ := bd_s hf
    refine r_getR hX hn e_X6_readStuck_85 fl_6_113 rfl g3 hr4 ?_
    refine r_iload_n (i := 2) hX e_X6_readStuck_88 rfl rfl ?_
    obtain ⟨g5, hf⟩ := gd_s hf
    obtain ⟨r6, hr6, hf⟩ := bd_s hf
    refine r_aald hX hn e_X6_readStuck_89 g5 (Nat.le_of_ble_eq_true rfl) rfl rfl rfl hr6 ?_
    refine r_dup hX e_X6_readStuck_90 rfl ?_
    obtain ⟨g7, hf⟩ := gd_s hf
    refine r_getL hX hn e_X6_readStuck_91 fl_6_130 rfl g7 ?_
    refine r_lconst hX e_X6_readStuck_94 lc_1 ?_
    refine r_iload hX e_X6_readStuck_95 rfl ?_
    refine r_lshl hX e_X6_readStuck_97 ?_
    refine r_lor hX e_X6_readStuck_98 ?_
    obtain ⟨v8, hv8, hf⟩ := nx_s hf
    refine top_l hv8 ?_
    obtain ⟨M9, hM9, hf⟩ := nx_s hf
    refine r_putL hX hn hM9 e_X6_readStuck_99 fl_6_130 fp_7_2 rfl g7 ?_
    refine r_iinc (v := x5 + 1) hX e_X6_readStuck_102 rfl (ii_s ic_1) (Nat.le_of_ble_eq_true rfl) rfl ?_
    refine r_goto hX e_X6_readStuck_105 ?_
    exact GoN.weak (hk77 M9 (x0) (x1) (x2) (x4) ((x5 + 1)) hf) rfl (sb_s (sb_s (sb_s (sb_n (sb_s (sb_s (sb_z _)))))))
theorem t_X6_readStuck_77 {X : Cx} {res : Mem}  (hX : OkX X cX6_readStuck RX6 6 128) (hn : Fit X shC nC) (hR : RetV X shC nC res)  : ∀ (n : Nat) (M : Mem) (x0 : Nat) (x1 : Nat) (x2 : Int32) (x4 : Int32) (x5 : Int32),  f_X6_readStuck_77  n M x0 x1 x2 x4 x5 = some res → GoN X shC nC 0 0 M 77 [some (.ref (X.B + x0)), some (.ref (X.B + x1)), some (.int (x2)), none, some (.int (x4)), some (.int (x5))] [] := by
  intro n
  induction n with
  | zero => intro M x0 x1 x2 x4 x5 hf; cases hf
  | succ n ih => intro M x0 x1 x2 x4 x5 hf; exact t_s_X6_readStuck_77 hX hn hR  ih M x0 x1 x2 x4 x5 hf
theorem t_X6_readStuck {l : Launch} {M : Mem} {a0 a1 : Nat} {res : Mem} (hf : f_X6_readStuck M a0 a1 = some res) : Cv l yX6_readStuck cX6_readStuck 6 none 6 128 shC nC (fun K B => [.ref (B + a0), .ref (B + a1)]) M res := by
  refine met_v (own := RX6) (lo := fun K B => [some (.ref (B + a0)), some (.ref (B + a1)), none, none, none, none]) (by decide +kernel) rfl shC_ok (fun _ _ => rfl) (fun _ _ => rfl) (fun _ _ => Nat.le_of_ble_eq_true rfl) (fun X hX hn hlx hR => ?_)
  refine r_aload_n (i := 0) hX e_X6_readStuck_0 rfl rfl ?_
  refine r_aload_n (i := 0) hX e_X6_readStuck_1 rfl rfl ?_
  obtain ⟨g1, hf⟩ := gd_s hf
  refine r_getI hX hn e_X6_readStuck_2 fl_6_28 rfl g1 ?_
  refine r_iconst hX e_X6_readStuck_5 ic_4 ?_
  obtain ⟨u2, hu2, hf⟩ := bd_s hf
  refine r_cvi (As := fun K B => [.int ((gI M a0 8)), .int (4)]) hX hn (t_X6_isFull hu2) e_X6_readStuck_6 cw_X6_isFull cv_X6_isFull lk_6_109 ⟨Nat.le_of_ble_eq_true rfl, Nat.le_of_ble_eq_true rfl⟩ (ci := 6) rfl rfl (Nat.le_of_ble_eq_true rfl) g1 rfl rfl (Nat.le_of_ble_eq_true rfl) ⟨Nat.zero_le _, Nat.zero_le _⟩ ?_
  refine r_if_eq hX e_X6_readStuck_9 (fun hc => ?_) (fun hc => ?_)
  · have hf := ite_t hf hc
    refine r_aload_n (i := 0) hX e_X6_readStuck_13 rfl rfl ?_
    obtain ⟨u3, hu3, hf⟩ := bd_s hf
    refine r_cvv (As := fun K B => []) hX hn (t_X6_next hu3) e_X6_readStuck_14 cw_X6_next cv_X6_next lk_6_36 ⟨Nat.le_of_ble_eq_true rfl, Nat.le_of_ble_eq_true rfl⟩ (ci := 6) rfl rfl (Nat.le_of_ble_eq_true rfl) g1 rfl rfl (Nat.le_of_ble_eq_true rfl) ⟨Nat.zero_le _, Nat.zero_le _⟩ ?_
    refine r_aload_n (i := 0) hX e_X6_readStuck_17 rfl rfl ?_
    refine r_iconst hX e_X6_readStuck_18 ic_0 ?_
    refine r_aload_n (i := 1) hX e_X6_readStuck_19 rfl rfl ?_
    obtain ⟨g4, hf⟩ := gd_s hf
    refine r_getI hX hn e_X6_readStuck_20 fl_6_106 rfl g4 ?_
    refine r_iconst hX e_X6_readStuck_23 ic_1 ?_
    refine r_isub hX e_X6_readStuck_24 ?_
    obtain ⟨u5, hu5, hf⟩ := bd_s hf
    refine r_cvi (As := fun K B => [.int (0), .int (((gI u3 a1 3) - 1))]) hX hn (t_X6_number hu5) e_X6_readStuck_25 cw_X6_number cv_X6_number lk_6_96 ⟨Nat.le_of_ble_eq_true rfl, Nat.le_of_ble_eq_true rfl⟩ (ci := 6) rfl rfl (Nat.le_of_ble_eq_true rfl) g1 rfl rfl (Nat.le_of_ble_eq_true rfl) ⟨Nat.zero_le _, Nat.zero_le _⟩ ?_
    refine r_istore_n (i := 2) hX e_X6_readStuck_28 rfl (Nat.le_of_ble_eq_true rfl) rfl ?_
    refine r_aload_n (i := 0) hX e_X6_readStuck_29 rfl rfl ?_
    refine r_ldcS (i := 24) hX rfl e_X6_readStuck_30 rfl ?_
    obtain ⟨u6, hu6, hf⟩ := bd_s hf
    refine r_cvv (As := fun K B => [.ref (K (1000 + 24))]) hX hn (t_X6_word hu6) e_X6_readStuck_32 cw_X6_word cv_X6_word lk_6_90 ⟨Nat.le_of_ble_eq_true rfl, Nat.le_of_ble_eq_true rfl⟩ (ci := 6) rfl rfl (Nat.le_of_ble_eq_true rfl) g1 rfl rfl (Nat.le_of_ble_eq_true rfl) ⟨Nat.zero_le _, Nat.zero_le _⟩ ?_
    refine r_aload_n (i := 0) hX e_X6_readStuck_35 rfl rfl ?_
    refine r_iconst hX e_X6_readStuck_36 ic_0 ?_
    refine r_aload_n (i := 1) hX e_X6_readStuck_37 rfl rfl ?_
    refine r_getI hX hn e_X6_readStuck_38 fl_6_104 rfl g4 ?_
    refine r_iconst hX e_X6_readStuck_41 ic_1 ?_
    refine r_isub hX e_X6_readStuck_42 ?_
    obtain ⟨u7, hu7, hf⟩ := bd_s hf
    refine r_cvi (As := fun K B => [.int (0), .int (((gI u6 a1 1) - 1))]) hX hn (t_X6_number hu7) e_X6_readStuck_43 cw_X6_number cv_X6_number lk_6_96 ⟨Nat.le_of_ble_eq_true rfl, Nat.le_of_ble_eq_true rfl⟩ (ci := 6) rfl rfl (Nat.le_of_ble_eq_true rfl) g1 rfl rfl (Nat.le_of_ble_eq_true rfl) ⟨Nat.zero_le _, Nat.zero_le _⟩ ?_
    refine r_istore_n (i := 3) hX e_X6_readStuck_46 rfl (Nat.le_of_ble_eq_true rfl) rfl ?_
    refine r_aload_n (i := 0) hX e_X6_readStuck_47 rfl rfl ?_
    refine r_ldcS (i := 25) hX rfl e_X6_readStuck_48 rfl ?_
    obtain ⟨u8, hu8, hf⟩ := bd_s hf
    refine r_cvv (As := fun K B => [.ref (K (1000 + 25))]) hX hn (t_X6_word hu8) e_X6_readStuck_50 cw_X6_word cv_X6_word lk_6_90 ⟨Nat.le_of_ble_eq_true rfl, Nat.le_of_ble_eq_true rfl⟩ (ci := 6) rfl rfl (Nat.le_of_ble_eq_true rfl) g1 rfl rfl (Nat.le_of_ble_eq_true rfl) ⟨Nat.zero_le _, Nat.zero_le _⟩ ?_
    refine r_aload_n (i := 0) hX e_X6_readStuck_53 rfl rfl ?_
    refine r_iload_n (i := 3) hX e_X6_readStuck_54 rfl rfl ?_
    refine r_aload_n (i := 1) hX e_X6_readStuck_55 rfl rfl ?_
    refine r_getI hX hn e_X6_readStuck_56 fl_6_104 rfl g4 ?_
    refine r_iconst hX e_X6_readStuck_59 ic_1 ?_
    refine r_isub hX e_X6_readStuck_60 ?_
    obtain ⟨u9, hu9, hf⟩ := bd_s hf
    refine r_cvi (As := fun K B => [.int (u7.2), .int (((gI u8 a1 1) - 1))]) hX hn (t_X6_number hu9) e_X6_readStuck_61 cw_X6_number cv_X6_number lk_6_96 ⟨Nat.le_of_ble_eq_true rfl, Nat.le_of_ble_eq_true rfl⟩ (ci := 6) rfl rfl (Nat.le_of_ble_eq_true rfl) g1 rfl rfl (Nat.le_of_ble_eq_true rfl) ⟨Nat.zero_le _, Nat.zero_le _⟩ ?_
    refine r_istore hX e_X6_readStuck_64 (Nat.le_of_ble_eq_true rfl) rfl ?_
    refine r_aload_n (i := 0) hX e_X6_readStuck_66 rfl rfl ?_
    refine r_getI hX hn e_X6_readStuck_67 fl_6_19 rfl g1 ?_
    refine r_if_eq hX e_X6_readStuck_70 (fun hc => ?_) (fun hc => ?_)
    · have hf := ite_t hf hc
      refine r_iload_n (i := 3) hX e_X6_readStuck_74 rfl rfl ?_
      refine r_istore hX e_X6_readStuck_75 (Nat.le_of_ble_eq_true rfl) rfl ?_
      exact GoN.weak (t_X6_readStuck_77 hX hn hR FU u9.1 (a0) (a1) (u5.2) (u9.2) (u7.2) hf) rfl (sb_s (sb_s (sb_s (sb_n (sb_s (sb_s (sb_z _)))))))
    · have hf := ite_f hf hc
      exact r_ret hX hR e_X6_readStuck_73 hf
  · have hf := ite_f hf hc
    exact r_ret hX hR e_X6_readStuck_12 hf
def f_X6_sign (M : Mem) (a0 : Nat) : Option (Mem) :=
  gd (oB shC a0 6) <| if (gI M a0 6) = 3 then bd (f_X6_next M a0) fun u2 => some u2 else bd (f_X6_refuse M a0 1) fun u3 => bd (f_X6_next u3 a0) fun u4 => some u4
theorem t_X6_sign {l : Launch} {M : Mem} {a0 : Nat} {res : Mem} (hf : f_X6_sign M a0 = some res) : Cv l yX6_sign cX6_sign 1 none 3 61 shC nC (fun K B => [.ref (B + a0)]) M res := by
  refine met_v (own := RX6) (lo := fun K B => [some (.ref (B + a0))]) (by decide +kernel) rfl shC_ok (fun _ _ => rfl) (fun _ _ => rfl) (fun _ _ => Nat.le_of_ble_eq_true rfl) (fun X hX hn hlx hR => ?_)
  refine r_aload_n (i := 0) hX e_X6_sign_0 rfl rfl ?_
  obtain ⟨g1, hf⟩ := gd_s hf
  refine r_getI hX hn e_X6_sign_1 fl_6_39 rfl g1 ?_
  refine r_iconst hX e_X6_sign_4 ic_3 ?_
  refine r_icmp_eq hX e_X6_sign_5 (fun hc => ?_) (fun hc => ?_)
  · have hf := ite_t hf hc
    refine r_aload_n (i := 0) hX e_X6_sign_13 rfl rfl ?_
    obtain ⟨u2, hu2, hf⟩ := bd_s hf
    refine r_cvv (As := fun K B => []) hX hn (t_X6_next hu2) e_X6_sign_14 cw_X6_next cv_X6_next lk_6_36 ⟨Nat.le_of_ble_eq_true rfl, Nat.le_of_ble_eq_true rfl⟩ (ci := 6) rfl rfl (Nat.le_of_ble_eq_true rfl) g1 rfl rfl (Nat.le_of_ble_eq_true rfl) ⟨Nat.zero_le _, Nat.zero_le _⟩ ?_
    exact r_ret hX hR e_X6_sign_17 hf
  · have hf := ite_f hf hc
    refine r_aload_n (i := 0) hX e_X6_sign_8 rfl rfl ?_
    refine r_iconst hX e_X6_sign_9 ic_1 ?_
    obtain ⟨u3, hu3, hf⟩ := bd_s hf
    refine r_cvv (As := fun K B => [.int (1)]) hX hn (t_X6_refuse hu3) e_X6_sign_10 cw_X6_refuse cv_X6_refuse lk_6_81 ⟨Nat.le_of_ble_eq_true rfl, Nat.le_of_ble_eq_true rfl⟩ (ci := 6) rfl rfl (Nat.le_of_ble_eq_true rfl) g1 rfl rfl (Nat.le_of_ble_eq_true rfl) ⟨Nat.zero_le _, Nat.zero_le _⟩ ?_
    refine r_aload_n (i := 0) hX e_X6_sign_13 rfl rfl ?_
    obtain ⟨u4, hu4, hf⟩ := bd_s hf
    refine r_cvv (As := fun K B => []) hX hn (t_X6_next hu4) e_X6_sign_14 cw_X6_next cv_X6_next lk_6_36 ⟨Nat.le_of_ble_eq_true rfl, Nat.le_of_ble_eq_true rfl⟩ (ci := 6) rfl rfl (Nat.le_of_ble_eq_true rfl) g1 rfl rfl (Nat.le_of_ble_eq_true rfl) ⟨Nat.zero_le _, Nat.zero_le _⟩ ?_
    exact r_ret hX hR e_X6_sign_17 hf
def f_X6_readLine_105  (M : Mem) (x0 : Nat) (x1 : Nat) : Option (Mem) :=
  gd (oB shC x0 6) <| bd (f_X6_sign M x0) fun u2 => gd (oB shC x1 4) <| nx (sI u2 x1 2 ((gI u2 x1 2) + 1)) fun M4 => some M4
def f_X6_readLine (M : Mem) (a0 : Nat) (a1 : Nat) : Option (Mem) :=
  gd (oB shC a1 4) <| if (gI M a1 2) = 0 then gd (oB shC a0 6) <| bd (f_X6_readMarket M a0 a1) fun u15 => f_X6_readLine_105 u15 (a0) (a1) else gd (oB shC a0 6) <| bd (f_X6_isWord M a0 0) fun v3 => if v3 = 0 then bd (f_X6_isWord M a0 1) fun v4 => if v4 = 0 then bd (f_X6_isWord M a0 2) fun v5 => if v5 = 0 then bd (f_X6_isWord M a0 3) fun v6 => if v6 = 0 then bd (f_X6_isWord M a0 4) fun v7 => if v7 = 0 then bd (f_X6_refuse M a0 1) fun u8 => f_X6_readLine_105 u8 (a0) (a1) else bd (f_X6_readStuck M a0 a1) fun u9 => f_X6_readLine_105 u9 (a0) (a1) else bd (f_X6_readWants M a0 a1) fun u10 => f_X6_readLine_105 u10 (a0) (a1) else bd (f_X6_readBuyer M a0 a1) fun u11 => f_X6_readLine_105 u11 (a0) (a1) else bd (f_X6_readStall M a0 a1) fun u12 => f_X6_readLine_105 u12 (a0) (a1) else bd (f_X6_readRing M a0 a1) fun u13 => f_X6_readLine_105 u13 (a0) (a1)
theorem t_X6_readLine_105 {X : Cx} {res : Mem}  (hX : OkX X cX6_readLine RX6 7 153) (hn : Fit X shC nC) (hR : RetV X shC nC res)  (M : Mem) (x0 : Nat) (x1 : Nat) (hf : f_X6_readLine_105  M x0 x1 = some res) : GoN X shC nC 0 0 M 105 [some (.ref (X.B + x0)), some (.ref (X.B + x1))] [] := by
  refine r_aload_n (i := 0) hX e_X6_readLine_105 rfl rfl ?_
  obtain ⟨g1, hf⟩ := gd_s hf
  obtain ⟨u2, hu2, hf⟩ := bd_s hf
  refine r_cvv (As := fun K B => []) hX hn (t_X6_sign hu2) e_X6_readLine_106 cw_X6_sign cv_X6_sign lk_6_85 ⟨Nat.le_of_ble_eq_true rfl, Nat.le_of_ble_eq_true rfl⟩ (ci := 6) rfl rfl (Nat.le_of_ble_eq_true rfl) g1 rfl rfl (Nat.le_of_ble_eq_true rfl) ⟨Nat.zero_le _, Nat.zero_le _⟩ ?_
  refine r_aload_n (i := 1) hX e_X6_readLine_109 rfl rfl ?_
  refine r_dup hX e_X6_readLine_110 rfl ?_
  obtain ⟨g3, hf⟩ := gd_s hf
  refine r_getI hX hn e_X6_readLine_111 fl_6_46 rfl g3 ?_
  refine r_iconst hX e_X6_readLine_114 ic_1 ?_
  refine r_iadd hX e_X6_readLine_115 ?_
  obtain ⟨M4, hM4, hf⟩ := nx_s hf
  refine r_putI hX hn hM4 e_X6_readLine_116 fl_6_46 fp_4_2 rfl g3 ?_
  exact r_ret hX hR e_X6_readLine_119 hf
theorem t_X6_readLine {l : Launch} {M : Mem} {a0 a1 : Nat} {res : Mem} (hf : f_X6_readLine M a0 a1 = some res) : Cv l yX6_readLine cX6_readLine 2 none 7 153 shC nC (fun K B => [.ref (B + a0), .ref (B + a1)]) M res := by
  refine met_v (own := RX6) (lo := fun K B => [some (.ref (B + a0)), some (.ref (B + a1))]) (by decide +kernel) rfl shC_ok (fun _ _ => rfl) (fun _ _ => rfl) (fun _ _ => Nat.le_of_ble_eq_true rfl) (fun X hX hn hlx hR => ?_)
  refine r_aload_n (i := 1) hX e_X6_readLine_0 rfl rfl ?_
  obtain ⟨g1, hf⟩ := gd_s hf
  refine r_getI hX hn e_X6_readLine_1 fl_6_46 rfl g1 ?_
  refine r_if_ne hX e_X6_readLine_4 (fun hc => ?_) (fun hc => ?_)
  · have hf := ite_f hf hc
    refine r_aload_n (i := 0) hX e_X6_readLine_15 rfl rfl ?_
    refine r_ldcS (i := 0) hX rfl e_X6_readLine_16 rfl ?_
    obtain ⟨g2, hf⟩ := gd_s hf
    obtain ⟨v3, hv3, hf⟩ := bd_s hf
    refine r_cvi (As := fun K B => [.ref (K (1000 + 0))]) hX hn (t_X6_isWord hv3) e_X6_readLine_18 cw_X6_isWord cv_X6_isWord lk_6_54 ⟨Nat.le_of_ble_eq_true rfl, Nat.le_of_ble_eq_true rfl⟩ (ci := 6) rfl rfl (Nat.le_of_ble_eq_true rfl) g2 rfl rfl (Nat.le_of_ble_eq_true rfl) ⟨Nat.zero_le _, Nat.zero_le _⟩ ?_
    refine r_if_eq hX e_X6_readLine_21 (fun hc => ?_) (fun hc => ?_)
    · have hf := ite_t hf hc
      refine r_aload_n (i := 0) hX e_X6_readLine_32 rfl rfl ?_
      refine r_ldcS (i := 1) hX rfl e_X6_readLine_33 rfl ?_
      obtain ⟨v4, hv4, hf⟩ := bd_s hf
      refine r_cvi (As := fun K B => [.ref (K (1000 + 1))]) hX hn (t_X6_isWord hv4) e_X6_readLine_35 cw_X6_isWord cv_X6_isWord lk_6_54 ⟨Nat.le_of_ble_eq_true rfl, Nat.le_of_ble_eq_true rfl⟩ (ci := 6) rfl rfl (Nat.le_of_ble_eq_true rfl) g2 rfl rfl (Nat.le_of_ble_eq_true rfl) ⟨Nat.zero_le _, Nat.zero_le _⟩ ?_
      refine r_if_eq hX e_X6_readLine_38 (fun hc => ?_) (fun hc => ?_)
      · have hf := ite_t hf hc
        refine r_aload_n (i := 0) hX e_X6_readLine_49 rfl rfl ?_
        refine r_ldcS (i := 2) hX rfl e_X6_readLine_50 rfl ?_
        obtain ⟨v5, hv5, hf⟩ := bd_s hf
        refine r_cvi (As := fun K B => [.ref (K (1000 + 2))]) hX hn (t_X6_isWord hv5) e_X6_readLine_52 cw_X6_isWord cv_X6_isWord lk_6_54 ⟨Nat.le_of_ble_eq_true rfl, Nat.le_of_ble_eq_true rfl⟩ (ci := 6) rfl rfl (Nat.le_of_ble_eq_true rfl) g2 rfl rfl (Nat.le_of_ble_eq_true rfl) ⟨Nat.zero_le _, Nat.zero_le _⟩ ?_
        refine r_if_eq hX e_X6_readLine_55 (fun hc => ?_) (fun hc => ?_)
        · have hf := ite_t hf hc
          refine r_aload_n (i := 0) hX e_X6_readLine_66 rfl rfl ?_
          refine r_ldcS (i := 3) hX rfl e_X6_readLine_67 rfl ?_
          obtain ⟨v6, hv6, hf⟩ := bd_s hf
          refine r_cvi (As := fun K B => [.ref (K (1000 + 3))]) hX hn (t_X6_isWord hv6) e_X6_readLine_69 cw_X6_isWord cv_X6_isWord lk_6_54 ⟨Nat.le_of_ble_eq_true rfl, Nat.le_of_ble_eq_true rfl⟩ (ci := 6) rfl rfl (Nat.le_of_ble_eq_true rfl) g2 rfl rfl (Nat.le_of_ble_eq_true rfl) ⟨Nat.zero_le _, Nat.zero_le _⟩ ?_
          refine r_if_eq hX e_X6_readLine_72 (fun hc => ?_) (fun hc => ?_)
          · have hf := ite_t hf hc
            refine r_aload_n (i := 0) hX e_X6_readLine_83 rfl rfl ?_
            refine r_ldcS (i := 4) hX rfl e_X6_readLine_84 rfl ?_
            obtain ⟨v7, hv7, hf⟩ := bd_s hf
            refine r_cvi (As := fun K B => [.ref (K (1000 + 4))]) hX hn (t_X6_isWord hv7) e_X6_readLine_86 cw_X6_isWord cv_X6_isWord lk_6_54 ⟨Nat.le_of_ble_eq_true rfl, Nat.le_of_ble_eq_true rfl⟩ (ci := 6) rfl rfl (Nat.le_of_ble_eq_true rfl) g2 rfl rfl (Nat.le_of_ble_eq_true rfl) ⟨Nat.zero_le _, Nat.zero_le _⟩ ?_
            refine r_if_eq hX e_X6_readLine_89 (fun hc => ?_) (fun hc => ?_)
            · have hf := ite_t hf hc
              refine r_aload_n (i := 0) hX e_X6_readLine_100 rfl rfl ?_
              refine r_iconst hX e_X6_readLine_101 ic_1 ?_
              obtain ⟨u8, hu8, hf⟩ := bd_s hf
              refine r_cvv (As := fun K B => [.int (1)]) hX hn (t_X6_refuse hu8) e_X6_readLine_102 cw_X6_refuse cv_X6_refuse lk_6_81 ⟨Nat.le_of_ble_eq_true rfl, Nat.le_of_ble_eq_true rfl⟩ (ci := 6) rfl rfl (Nat.le_of_ble_eq_true rfl) g2 rfl rfl (Nat.le_of_ble_eq_true rfl) ⟨Nat.zero_le _, Nat.zero_le _⟩ ?_
              exact GoN.weak (t_X6_readLine_105 hX hn hR u8 (a0) (a1) hf) rfl (sb_s (sb_s (sb_z _)))
            · have hf := ite_f hf hc
              refine r_aload_n (i := 0) hX e_X6_readLine_92 rfl rfl ?_
              refine r_aload_n (i := 1) hX e_X6_readLine_93 rfl rfl ?_
              obtain ⟨u9, hu9, hf⟩ := bd_s hf
              refine r_cvv (As := fun K B => [.ref (B + a1)]) hX hn (t_X6_readStuck hu9) e_X6_readLine_94 cw_X6_readStuck cv_X6_readStuck lk_6_78 ⟨Nat.le_of_ble_eq_true rfl, Nat.le_of_ble_eq_true rfl⟩ (ci := 6) rfl rfl (Nat.le_of_ble_eq_true rfl) g2 rfl rfl (Nat.le_of_ble_eq_true rfl) ⟨Nat.zero_le _, Nat.zero_le _⟩ ?_
              refine r_goto hX e_X6_readLine_97 ?_
              exact GoN.weak (t_X6_readLine_105 hX hn hR u9 (a0) (a1) hf) rfl (sb_s (sb_s (sb_z _)))
          · have hf := ite_f hf hc
            refine r_aload_n (i := 0) hX e_X6_readLine_75 rfl rfl ?_
            refine r_aload_n (i := 1) hX e_X6_readLine_76 rfl rfl ?_
            obtain ⟨u10, hu10, hf⟩ := bd_s hf
            refine r_cvv (As := fun K B => [.ref (B + a1)]) hX hn (t_X6_readWants hu10) e_X6_readLine_77 cw_X6_readWants cv_X6_readWants lk_6_73 ⟨Nat.le_of_ble_eq_true rfl, Nat.le_of_ble_eq_true rfl⟩ (ci := 6) rfl rfl (Nat.le_of_ble_eq_true rfl) g2 rfl rfl (Nat.le_of_ble_eq_true rfl) ⟨Nat.zero_le _, Nat.zero_le _⟩ ?_
            refine r_goto hX e_X6_readLine_80 ?_
            exact GoN.weak (t_X6_readLine_105 hX hn hR u10 (a0) (a1) hf) rfl (sb_s (sb_s (sb_z _)))
        · have hf := ite_f hf hc
          refine r_aload_n (i := 0) hX e_X6_readLine_58 rfl rfl ?_
          refine r_aload_n (i := 1) hX e_X6_readLine_59 rfl rfl ?_
          obtain ⟨u11, hu11, hf⟩ := bd_s hf
          refine r_cvv (As := fun K B => [.ref (B + a1)]) hX hn (t_X6_readBuyer hu11) e_X6_readLine_60 cw_X6_readBuyer cv_X6_readBuyer lk_6_68 ⟨Nat.le_of_ble_eq_true rfl, Nat.le_of_ble_eq_true rfl⟩ (ci := 6) rfl rfl (Nat.le_of_ble_eq_true rfl) g2 rfl rfl (Nat.le_of_ble_eq_true rfl) ⟨Nat.zero_le _, Nat.zero_le _⟩ ?_
          refine r_goto hX e_X6_readLine_63 ?_
          exact GoN.weak (t_X6_readLine_105 hX hn hR u11 (a0) (a1) hf) rfl (sb_s (sb_s (sb_z _)))
      · have hf := ite_f hf hc
        refine r_aload_n (i := 0) hX e_X6_readLine_41 rfl rfl ?_
        refine r_aload_n (i := 1) hX e_X6_readLine_42 rfl rfl ?_
        obtain ⟨u12, hu12, hf⟩ := bd_s hf
        refine r_cvv (As := fun K B => [.ref (B + a1)]) hX hn (t_X6_readStall hu12) e_X6_readLine_43 cw_X6_readStall cv_X6_readStall lk_6_63 ⟨Nat.le_of_ble_eq_true rfl, Nat.le_of_ble_eq_true rfl⟩ (ci := 6) rfl rfl (Nat.le_of_ble_eq_true rfl) g2 rfl rfl (Nat.le_of_ble_eq_true rfl) ⟨Nat.zero_le _, Nat.zero_le _⟩ ?_
        refine r_goto hX e_X6_readLine_46 ?_
        exact GoN.weak (t_X6_readLine_105 hX hn hR u12 (a0) (a1) hf) rfl (sb_s (sb_s (sb_z _)))
    · have hf := ite_f hf hc
      refine r_aload_n (i := 0) hX e_X6_readLine_24 rfl rfl ?_
      refine r_aload_n (i := 1) hX e_X6_readLine_25 rfl rfl ?_
      obtain ⟨u13, hu13, hf⟩ := bd_s hf
      refine r_cvv (As := fun K B => [.ref (B + a1)]) hX hn (t_X6_readRing hu13) e_X6_readLine_26 cw_X6_readRing cv_X6_readRing lk_6_58 ⟨Nat.le_of_ble_eq_true rfl, Nat.le_of_ble_eq_true rfl⟩ (ci := 6) rfl rfl (Nat.le_of_ble_eq_true rfl) g2 rfl rfl (Nat.le_of_ble_eq_true rfl) ⟨Nat.zero_le _, Nat.zero_le _⟩ ?_
      refine r_goto hX e_X6_readLine_29 ?_
      exact GoN.weak (t_X6_readLine_105 hX hn hR u13 (a0) (a1) hf) rfl (sb_s (sb_s (sb_z _)))
  · have hf := ite_t hf hc
    refine r_aload_n (i := 0) hX e_X6_readLine_7 rfl rfl ?_
    refine r_aload_n (i := 1) hX e_X6_readLine_8 rfl rfl ?_
    obtain ⟨g14, hf⟩ := gd_s hf
    obtain ⟨u15, hu15, hf⟩ := bd_s hf
    refine r_cvv (As := fun K B => [.ref (B + a1)]) hX hn (t_X6_readMarket hu15) e_X6_readLine_9 cw_X6_readMarket cv_X6_readMarket lk_6_49 ⟨Nat.le_of_ble_eq_true rfl, Nat.le_of_ble_eq_true rfl⟩ (ci := 6) rfl rfl (Nat.le_of_ble_eq_true rfl) g14 rfl rfl (Nat.le_of_ble_eq_true rfl) ⟨Nat.zero_le _, Nat.zero_le _⟩ ?_
    refine r_goto hX e_X6_readLine_12 ?_
    exact GoN.weak (t_X6_readLine_105 hX hn hR u15 (a0) (a1) hf) rfl (sb_s (sb_s (sb_z _)))
def f_X6_read_62  (M : Mem) (x0 : Nat) : Option (Mem × Int32) :=
  gd (oB shC x0 6) <| nx (sI M x0 1 0) fun M2 => if (gI M2 x0 2) = 0 then some (M2, 1) else some (M2, 0)
def s_X6_read_30 (k30 : Mem → Nat → Nat → Int32 → Option (Mem × Int32)) (M : Mem) (x0 : Nat) (x1 : Nat) (x2 : Int32) : Option (Mem × Int32) :=
  if 2000 ≤ x2 then f_X6_read_62 M (x0) else gd (oB shC x0 6) <| if (gI M x0 2) = 0 then if (gI M x0 6) = 0 then f_X6_read_62 M (x0) else bd (f_X6_readLine M x0 x1) fun u2 => k30 u2 (x0) (x1) ((x2 + 1)) else f_X6_read_62 M (x0)
def f_X6_read_30  : Nat → Mem → Nat → Nat → Int32 → Option (Mem × Int32)
  | 0 => fun _ _ _ _ => none
  | n + 1 => fun y0 y1 y2 y3 => s_X6_read_30  (f_X6_read_30  n) y0 y1 y2 y3
def f_X6_read (M : Mem) (a0 : Nat) (a1 : Nat) : Option (Mem × Int32) :=
  gd (oB shC a0 6) <| nx (sI M a0 2 0) fun M2 => nx (sI M2 a0 3 (-1)) fun M3 => nx (sI M3 a0 5 0) fun M4 => nx (sI M4 a0 8 0) fun M5 => gd (oB shC a1 4) <| bd (f_X4_clear M5 a1) fun u7 => bd (f_X6_next u7 a0) fun u8 => f_X6_read_30 FU u8 (a0) (a1) (0)
theorem t_X6_read_62 {X : Cx} {res : Mem × Int32}  (hX : OkX X cX6_read RX6 8 174) (hn : Fit X shC nC) (hR : RetI X shC nC .boolean res)  (M : Mem) (x0 : Nat) (hf : f_X6_read_62  M x0 = some res) : GoN X shC nC 0 0 M 62 [some (.ref (X.B + x0)), none, none] [] := by
  refine r_aload_n (i := 0) hX e_X6_read_62 rfl rfl ?_
  refine r_iconst hX e_X6_read_63 ic_0 ?_
  obtain ⟨g1, hf⟩ := gd_s hf
  obtain ⟨M2, hM2, hf⟩ := nx_s hf
  refine r_putI hX hn hM2 e_X6_read_64 fl_6_15 fp_6_1 rfl g1 ?_
  refine r_aload_n (i := 0) hX e_X6_read_67 rfl rfl ?_
  refine r_getI hX hn e_X6_read_68 fl_6_19 rfl g1 ?_
  refine r_if_ne hX e_X6_read_71 (fun hc => ?_) (fun hc => ?_)
  · have hf := ite_f hf hc
    refine r_iconst hX e_X6_read_78 ic_0 ?_
    exact r_zret hX hR rfl e_X6_read_79 hf
  · have hf := ite_t hf hc
    refine r_iconst hX e_X6_read_74 ic_1 ?_
    refine r_goto hX e_X6_read_75 ?_
    exact r_zret hX hR rfl e_X6_read_79 hf
theorem t_s_X6_read_30 {X : Cx} {res : Mem × Int32} {k30 : Mem → Nat → Nat → Int32 → Option (Mem × Int32)} (hX : OkX X cX6_read RX6 8 174) (hn : Fit X shC nC) (hR : RetI X shC nC .boolean res) (hk30 : ∀ M x0 x1 x2, k30 M x0 x1 x2 = some res → GoN X shC nC 0 0 M 30 [some (.ref (X.B + x0)), some (.ref (X.B + x1)), some (.int (x2))] []) (M : Mem) (x0 : Nat) (x1 : Nat) (x2 : Int32) (hf : s_X6_read_30 k30 M x0 x1 x2 = some res) : GoN X shC nC 0 0 M 30 [some (.ref (X.B + x0)), some (.ref (X.B + x1)), some (.int (x2))] [] := by
  refine r_iload_n (i := 2) hX e_X6_read_30 rfl rfl ?_
  refine r_sipush hX e_X6_read_31 sc_2000 ?_
  refine r_icmp_ge hX e_X6_read_34 (fun hc => ?_) (fun hc => ?_)
  · have hf := ite_t hf hc
    exact GoN.weak (t_X6_read_62 hX hn hR M (x0) hf) rfl (sb_s (sb_n (sb_n (sb_z _))))
  · have hf := ite_f hf hc
    refine r_aload_n (i := 0) hX e_X6_read_37 rfl rfl ?_
    obtain ⟨g1, hf⟩ := gd_s hf
    refine r_getI hX hn e_X6_read_38 fl_6_19 rfl g1 ?_
    refine r_if_ne hX e_X6_read_41 (fun hc => ?_) (fun hc => ?_)
    · have hf := ite_f hf hc
      exact GoN.weak (t_X6_read_62 hX hn hR M (x0) hf) rfl (sb_s (sb_n (sb_n (sb_z _))))
    · have hf := ite_t hf hc
      refine r_aload_n (i := 0) hX e_X6_read_44 rfl rfl ?_
      refine r_getI hX hn e_X6_read_45 fl_6_39 rfl g1 ?_
      refine r_if_eq hX e_X6_read_48 (fun hc => ?_) (fun hc => ?_)
      · have hf := ite_t hf hc
        exact GoN.weak (t_X6_read_62 hX hn hR M (x0) hf) rfl (sb_s (sb_n (sb_n (sb_z _))))
      · have hf := ite_f hf hc
        refine r_aload_n (i := 0) hX e_X6_read_51 rfl rfl ?_
        refine r_aload_n (i := 1) hX e_X6_read_52 rfl rfl ?_
        obtain ⟨u2, hu2, hf⟩ := bd_s hf
        refine r_cvv (As := fun K B => [.ref (B + x1)]) hX hn (t_X6_readLine hu2) e_X6_read_53 cw_X6_readLine cv_X6_readLine lk_6_42 ⟨Nat.le_of_ble_eq_true rfl, Nat.le_of_ble_eq_true rfl⟩ (ci := 6) rfl rfl (Nat.le_of_ble_eq_true rfl) g1 rfl rfl (Nat.le_of_ble_eq_true rfl) ⟨Nat.zero_le _, Nat.zero_le _⟩ ?_
        refine r_iinc (v := x2 + 1) hX e_X6_read_56 rfl (ii_s ic_1) (Nat.le_of_ble_eq_true rfl) rfl ?_
        refine r_goto hX e_X6_read_59 ?_
        exact GoN.weak (hk30 u2 (x0) (x1) ((x2 + 1)) hf) rfl (sb_s (sb_s (sb_s (sb_z _))))
theorem t_X6_read_30 {X : Cx} {res : Mem × Int32}  (hX : OkX X cX6_read RX6 8 174) (hn : Fit X shC nC) (hR : RetI X shC nC .boolean res)  : ∀ (n : Nat) (M : Mem) (x0 : Nat) (x1 : Nat) (x2 : Int32),  f_X6_read_30  n M x0 x1 x2 = some res → GoN X shC nC 0 0 M 30 [some (.ref (X.B + x0)), some (.ref (X.B + x1)), some (.int (x2))] [] := by
  intro n
  induction n with
  | zero => intro M x0 x1 x2 hf; cases hf
  | succ n ih => intro M x0 x1 x2 hf; exact t_s_X6_read_30 hX hn hR  ih M x0 x1 x2 hf
theorem t_X6_read {l : Launch} {M : Mem} {a0 a1 : Nat} {res : Mem × Int32} (hf : f_X6_read M a0 a1 = some res) : Ci l yX6_read cX6_read 3 (some .boolean) 8 174 shC nC (fun K B => [.ref (B + a0), .ref (B + a1)]) M res := by
  refine met_i (own := RX6) (lo := fun K B => [some (.ref (B + a0)), some (.ref (B + a1)), none]) (by decide +kernel) rfl shC_ok (fun _ _ => rfl) (fun _ _ => rfl) (fun _ _ => Nat.le_of_ble_eq_true rfl) (fun X hX hn hlx hR => ?_)
  refine r_aload_n (i := 0) hX e_X6_read_0 rfl rfl ?_
  refine r_iconst hX e_X6_read_1 ic_0 ?_
  obtain ⟨g1, hf⟩ := gd_s hf
  obtain ⟨M2, hM2, hf⟩ := nx_s hf
  refine r_putI hX hn hM2 e_X6_read_2 fl_6_19 fp_6_2 rfl g1 ?_
  refine r_aload_n (i := 0) hX e_X6_read_5 rfl rfl ?_
  refine r_iconst hX e_X6_read_6 ic_m1 ?_
  obtain ⟨M3, hM3, hf⟩ := nx_s hf
  refine r_putI hX hn hM3 e_X6_read_7 fl_6_22 fp_6_3 rfl g1 ?_
  refine r_aload_n (i := 0) hX e_X6_read_10 rfl rfl ?_
  refine r_iconst hX e_X6_read_11 ic_0 ?_
  obtain ⟨M4, hM4, hf⟩ := nx_s hf
  refine r_putI hX hn hM4 e_X6_read_12 fl_6_25 fp_6_5 rfl g1 ?_
  refine r_aload_n (i := 0) hX e_X6_read_15 rfl rfl ?_
  refine r_iconst hX e_X6_read_16 ic_0 ?_
  obtain ⟨M5, hM5, hf⟩ := nx_s hf
  refine r_putI hX hn hM5 e_X6_read_17 fl_6_28 fp_6_8 rfl g1 ?_
  refine r_aload_n (i := 1) hX e_X6_read_20 rfl rfl ?_
  obtain ⟨g6, hf⟩ := gd_s hf
  obtain ⟨u7, hu7, hf⟩ := bd_s hf
  refine r_cvv (As := fun K B => []) hX hn (t_X4_clear hu7) e_X6_read_21 cw_X4_clear cv_X4_clear lk_6_31 ⟨Nat.le_of_ble_eq_true rfl, Nat.le_of_ble_eq_true rfl⟩ (ci := 4) rfl rfl (Nat.le_of_ble_eq_true rfl) g6 rfl rfl (Nat.le_of_ble_eq_true rfl) ⟨Nat.zero_le _, Nat.zero_le _⟩ ?_
  refine r_aload_n (i := 0) hX e_X6_read_24 rfl rfl ?_
  obtain ⟨u8, hu8, hf⟩ := bd_s hf
  refine r_cvv (As := fun K B => []) hX hn (t_X6_next hu8) e_X6_read_25 cw_X6_next cv_X6_next lk_6_36 ⟨Nat.le_of_ble_eq_true rfl, Nat.le_of_ble_eq_true rfl⟩ (ci := 6) rfl rfl (Nat.le_of_ble_eq_true rfl) g1 rfl rfl (Nat.le_of_ble_eq_true rfl) ⟨Nat.zero_le _, Nat.zero_le _⟩ ?_
  refine r_iconst hX e_X6_read_28 ic_0 ?_
  refine r_istore_n (i := 2) hX e_X6_read_29 rfl (Nat.le_of_ble_eq_true rfl) rfl ?_
  exact GoN.weak (t_X6_read_30 hX hn hR FU u8 (a0) (a1) (0) hf) rfl (sb_s (sb_s (sb_s (sb_z _))))
def f_X8_begin (M : Mem) (a0 : Nat) (a1 : Int32) (a2 : Int32) : Option (Mem) :=
  gd (oB shC a0 8) <| nx (sI M a0 0 1) fun M2 => nx (sI M2 a0 1 a1) fun M3 => nx (sI M3 a0 2 a2) fun M4 => bd (gR M4 a0 3) fun r5 => bd (f_X21_fillJ M4 r5 0) fun u6 => some u6
theorem t_X8_begin {l : Launch} {M : Mem} {a0 : Nat} {a1 a2 : Int32} {res : Mem} (hf : f_X8_begin M a0 a1 a2 = some res) : Cv l yX8_begin cX8_begin 3 none 1 24 shC nC (fun K B => [.ref (B + a0), .int a1, .int a2]) M res := by
  refine met_v (own := RX8) (lo := fun K B => [some (.ref (B + a0)), some (.int a1), some (.int a2)]) (by decide +kernel) rfl shC_ok (fun _ _ => rfl) (fun _ _ => rfl) (fun _ _ => Nat.le_of_ble_eq_true rfl) (fun X hX hn hlx hR => ?_)
  refine r_aload_n (i := 0) hX e_X8_begin_0 rfl rfl ?_
  refine r_iconst hX e_X8_begin_1 ic_1 ?_
  obtain ⟨g1, hf⟩ := gd_s hf
  obtain ⟨M2, hM2, hf⟩ := nx_s hf
  refine r_putZ hX hn hM2 rfl e_X8_begin_2 fl_8_9 fp_8_0 rfl g1 ?_
  refine r_aload_n (i := 0) hX e_X8_begin_5 rfl rfl ?_
  refine r_iload_n (i := 1) hX e_X8_begin_6 rfl rfl ?_
  obtain ⟨M3, hM3, hf⟩ := nx_s hf
  refine r_putI hX hn hM3 e_X8_begin_7 fl_8_19 fp_8_1 rfl g1 ?_
  refine r_aload_n (i := 0) hX e_X8_begin_10 rfl rfl ?_
  refine r_iload_n (i := 2) hX e_X8_begin_11 rfl rfl ?_
  obtain ⟨M4, hM4, hf⟩ := nx_s hf
  refine r_putI hX hn hM4 e_X8_begin_12 fl_8_23 fp_8_2 rfl g1 ?_
  refine r_aload_n (i := 0) hX e_X8_begin_15 rfl rfl ?_
  obtain ⟨r5, hr5, hf⟩ := bd_s hf
  refine r_getR hX hn e_X8_begin_16 fl_8_15 rfl g1 hr5 ?_
  refine r_lconst hX e_X8_begin_19 lc_0 ?_
  obtain ⟨u6, hu6, hf⟩ := bd_s hf
  refine r_csv (As := fun K B => [.ref (B + r5), .long (0)]) hX hn (t_X21_fillJ hu6) e_X8_begin_20 cw_X21_fillJ cv_X21_fillJ lk_8_26 ⟨Nat.le_of_ble_eq_true rfl, Nat.le_of_ble_eq_true rfl⟩ rfl rfl (Nat.le_of_ble_eq_true rfl) ⟨Nat.zero_le _, Nat.zero_le _⟩ ?_
  exact r_ret hX hR e_X8_begin_23 hf
def f_X8_cut (M : Mem) (a0 : Nat) (a1 : Int64) : Option (Int64) :=
  gd (oB shC a0 8) <| if (gI M a0 1) = 0 then nx ((((a1 : Int64).toInt32 : Int32).toInt8.toInt32 : Int32).toInt64) fun v2 => some v2 else if (gI M a0 1) = 1 then nx ((((a1 : Int64).toInt32 : Int32).toInt16.toInt32 : Int32).toInt64) fun v3 => some v3 else if (gI M a0 1) = 2 then some (((a1 : Int64).toInt32 : Int32).toInt64) else some a1
theorem t_X8_cut {l : Launch} {M : Mem} {a0 : Nat} {a1 : Int64} {res : Int64} (hf : f_X8_cut M a0 a1 = some res) : Cl l yX8_cut cX8_cut 3 (some .long) 0 0 shC nC (fun K B => [.ref (B + a0), .long a1]) M (M, res) := by
  refine met_l (own := RX8) (lo := fun K B => [some (.ref (B + a0)), some (.long a1), none]) (by decide +kernel) rfl shC_ok (fun _ _ => rfl) (fun _ _ => rfl) (fun _ _ => Nat.le_of_ble_eq_true rfl) (fun X hX hn hlx hR => ?_)
  refine r_aload_n (i := 0) hX e_X8_cut_0 rfl rfl ?_
  obtain ⟨g1, hf⟩ := gd_s hf
  refine r_getI hX hn e_X8_cut_1 fl_8_19 rfl g1 ?_
  by_cases hs0 : (gI M a0 1) = 0
  · have hf := ite_t hf hs0
    refine r_tabIn (tgt := 32) hX e_X8_cut_4 (by rw [hs0]; decide) (by rw [hs0]; decide) (off := 28) (by rw [hs0]; decide) (by decide) ?_
    refine r_lload_n (i := 1) hX e_X8_cut_32 rfl rfl ?_
    refine r_l2i hX e_X8_cut_33 ?_
    refine r_i2b hX e_X8_cut_34 ?_
    refine r_i2l hX e_X8_cut_35 ?_
    obtain ⟨v2, hv2, hf⟩ := nx_s hf
    refine top_l hv2 ?_
    exact r_lret hX hR e_X8_cut_36 (ro_s hf)
  have hf := ite_f hf hs0
  by_cases hs1 : (gI M a0 1) = 1
  · have hf := ite_t hf hs1
    refine r_tabIn (tgt := 37) hX e_X8_cut_4 (by rw [hs1]; decide) (by rw [hs1]; decide) (off := 33) (by rw [hs1]; decide) (by decide) ?_
    refine r_lload_n (i := 1) hX e_X8_cut_37 rfl rfl ?_
    refine r_l2i hX e_X8_cut_38 ?_
    refine r_i2s hX e_X8_cut_39 ?_
    refine r_i2l hX e_X8_cut_40 ?_
    obtain ⟨v3, hv3, hf⟩ := nx_s hf
    refine top_l hv3 ?_
    exact r_lret hX hR e_X8_cut_41 (ro_s hf)
  have hf := ite_f hf hs1
  by_cases hs2 : (gI M a0 1) = 2
  · have hf := ite_t hf hs2
    refine r_tabIn (tgt := 42) hX e_X8_cut_4 (by rw [hs2]; decide) (by rw [hs2]; decide) (off := 38) (by rw [hs2]; decide) (by decide) ?_
    refine r_lload_n (i := 1) hX e_X8_cut_42 rfl rfl ?_
    refine r_l2i hX e_X8_cut_43 ?_
    refine r_i2l hX e_X8_cut_44 ?_
    exact r_lret hX hR e_X8_cut_45 (ro_s hf)
  have hf := ite_f hf hs2
  refine r_tabOut (tgt := 46) hX e_X8_cut_4 ?_ (by decide) ?_
  · have z0 : (gI M a0 1).toInt ≠ 0 := i32_ne hs0 (by decide); have z1 : (gI M a0 1).toInt ≠ 1 := i32_ne hs1 (by decide); have z2 : (gI M a0 1).toInt ≠ 2 := i32_ne hs2 (by decide); omega
  refine r_lload_n (i := 1) hX e_X8_cut_46 rfl rfl ?_
  exact r_lret hX hR e_X8_cut_47 (ro_s hf)
def f_X8_holds (M : Mem) (a0 : Nat) (a1 : Int32) (a2 : Int32) : Option (Int32) :=
  if a1 < 0 then some 0 else if a2 < 0 then some 0 else gd (oB shC a0 8) <| if (gI M a0 2) < a1 then some 0 else if ((gI M a0 2) - a1) < a2 then some 0 else some 1
theorem t_X8_holds {l : Launch} {M : Mem} {a0 : Nat} {a1 a2 : Int32} {res : Int32} (hf : f_X8_holds M a0 a1 a2 = some res) : Ci l yX8_holds cX8_holds 3 (some .boolean) 0 0 shC nC (fun K B => [.ref (B + a0), .int a1, .int a2]) M (M, res) := by
  refine met_i (own := RX8) (lo := fun K B => [some (.ref (B + a0)), some (.int a1), some (.int a2)]) (by decide +kernel) rfl shC_ok (fun _ _ => rfl) (fun _ _ => rfl) (fun _ _ => Nat.le_of_ble_eq_true rfl) (fun X hX hn hlx hR => ?_)
  refine r_iload_n (i := 1) hX e_X8_holds_0 rfl rfl ?_
  refine r_if_lt hX e_X8_holds_1 (fun hc => ?_) (fun hc => ?_)
  · have hf := ite_t hf hc
    refine r_iconst hX e_X8_holds_30 ic_0 ?_
    exact r_zret hX hR rfl e_X8_holds_31 (ro_s hf)
  · have hf := ite_f hf hc
    refine r_iload_n (i := 2) hX e_X8_holds_4 rfl rfl ?_
    refine r_if_lt hX e_X8_holds_5 (fun hc => ?_) (fun hc => ?_)
    · have hf := ite_t hf hc
      refine r_iconst hX e_X8_holds_30 ic_0 ?_
      exact r_zret hX hR rfl e_X8_holds_31 (ro_s hf)
    · have hf := ite_f hf hc
      refine r_iload_n (i := 1) hX e_X8_holds_8 rfl rfl ?_
      refine r_aload_n (i := 0) hX e_X8_holds_9 rfl rfl ?_
      obtain ⟨g1, hf⟩ := gd_s hf
      refine r_getI hX hn e_X8_holds_10 fl_8_23 rfl g1 ?_
      refine r_icmp_gt hX e_X8_holds_13 (fun hc => ?_) (fun hc => ?_)
      · have hf := ite_t hf hc
        refine r_iconst hX e_X8_holds_30 ic_0 ?_
        exact r_zret hX hR rfl e_X8_holds_31 (ro_s hf)
      · have hf := ite_f hf hc
        refine r_iload_n (i := 2) hX e_X8_holds_16 rfl rfl ?_
        refine r_aload_n (i := 0) hX e_X8_holds_17 rfl rfl ?_
        refine r_getI hX hn e_X8_holds_18 fl_8_23 rfl g1 ?_
        refine r_iload_n (i := 1) hX e_X8_holds_21 rfl rfl ?_
        refine r_isub hX e_X8_holds_22 ?_
        refine r_icmp_gt hX e_X8_holds_23 (fun hc => ?_) (fun hc => ?_)
        · have hf := ite_t hf hc
          refine r_iconst hX e_X8_holds_30 ic_0 ?_
          exact r_zret hX hR rfl e_X8_holds_31 (ro_s hf)
        · have hf := ite_f hf hc
          refine r_iconst hX e_X8_holds_26 ic_1 ?_
          refine r_goto hX e_X8_holds_27 ?_
          exact r_zret hX hR rfl e_X8_holds_31 (ro_s hf)
def s_X8_isWithin_2 (M : Mem) (k2 : Nat → Int32 → Int32 → Int32 → Option (Int32)) (x0 : Nat) (x1 : Int32) (x2 : Int32) (x3 : Int32) : Option (Int32) :=
  gd (oB shC x0 8) <| if (gI M x0 2) ≤ x3 then some 1 else bd (gR M x0 3) fun r2 => gd (aB shC r2 1 x3) <| nx ((lg_cmp (gL M r2 (x3 : Int32).toNatClampNeg) ((x1 : Int32).toInt64))) fun v4 => if v4 < 0 then some 0 else nx ((lg_cmp (gL M r2 (x3 : Int32).toNatClampNeg) ((x2 : Int32).toInt64))) fun v5 => if v5 ≤ 0 then k2 (x0) (x1) (x2) ((x3 + 1)) else some 0
def f_X8_isWithin_2 (M : Mem)  : Nat → Nat → Int32 → Int32 → Int32 → Option (Int32)
  | 0 => fun _ _ _ _ => none
  | n + 1 => fun y0 y1 y2 y3 => s_X8_isWithin_2 M  (f_X8_isWithin_2 M  n) y0 y1 y2 y3
def f_X8_isWithin (M : Mem) (a0 : Nat) (a1 : Int32) (a2 : Int32) : Option (Int32) :=
  f_X8_isWithin_2 M FU (a0) (a1) (a2) (0)
theorem t_s_X8_isWithin_2 {X : Cx} {M : Mem} {res : Int32} {k2 : Nat → Int32 → Int32 → Int32 → Option (Int32)} (hX : OkX X cX8_isWithin RX8 0 0) (hn : Fit X shC nC) (hR : RetI X shC nC .boolean (M, res)) (hk2 : ∀ x0 x1 x2 x3, k2 x0 x1 x2 x3 = some res → GoN X shC nC 0 0 M 2 [some (.ref (X.B + x0)), some (.int (x1)), some (.int (x2)), some (.int (x3))] []) (x0 : Nat) (x1 : Int32) (x2 : Int32) (x3 : Int32) (hf : s_X8_isWithin_2 M k2 x0 x1 x2 x3 = some res) : GoN X shC nC 0 0 M 2 [some (.ref (X.B + x0)), some (.int (x1)), some (.int (x2)), some (.int (x3))] [] := by
  refine r_iload_n (i := 3) hX e_X8_isWithin_2 rfl rfl ?_
  refine r_aload_n (i := 0) hX e_X8_isWithin_3 rfl rfl ?_
  obtain ⟨g1, hf⟩ := gd_s hf
  refine r_getI hX hn e_X8_isWithin_4 fl_8_23 rfl g1 ?_
  refine r_icmp_ge hX e_X8_isWithin_7 (fun hc => ?_) (fun hc => ?_)
  · have hf := ite_t hf hc
    refine r_iconst hX e_X8_isWithin_42 ic_1 ?_
    exact r_zret hX hR rfl e_X8_isWithin_43 (ro_s hf)
  · have hf := ite_f hf hc
    refine r_aload_n (i := 0) hX e_X8_isWithin_10 rfl rfl ?_
    obtain ⟨r2, hr2, hf⟩ := bd_s hf
    refine r_getR hX hn e_X8_isWithin_11 fl_8_15 rfl g1 hr2 ?_
    refine r_iload_n (i := 3) hX e_X8_isWithin_14 rfl rfl ?_
    obtain ⟨g3, hf⟩ := gd_s hf
    refine r_lald hX hn e_X8_isWithin_15 g3 ?_
    refine r_iload_n (i := 1) hX e_X8_isWithin_16 rfl rfl ?_
    refine r_i2l hX e_X8_isWithin_17 ?_
    refine r_lcmp hX e_X8_isWithin_18 ?_
    obtain ⟨v4, hv4, hf⟩ := nx_s hf
    refine top_i hv4 ?_
    refine r_if_lt hX e_X8_isWithin_19 (fun hc => ?_) (fun hc => ?_)
    · have hf := ite_t hf hc
      refine r_iconst hX e_X8_isWithin_34 ic_0 ?_
      exact r_zret hX hR rfl e_X8_isWithin_35 (ro_s hf)
    · have hf := ite_f hf hc
      refine r_aload_n (i := 0) hX e_X8_isWithin_22 rfl rfl ?_
      refine r_getR hX hn e_X8_isWithin_23 fl_8_15 rfl g1 hr2 ?_
      refine r_iload_n (i := 3) hX e_X8_isWithin_26 rfl rfl ?_
      refine r_lald hX hn e_X8_isWithin_27 g3 ?_
      refine r_iload_n (i := 2) hX e_X8_isWithin_28 rfl rfl ?_
      refine r_i2l hX e_X8_isWithin_29 ?_
      refine r_lcmp hX e_X8_isWithin_30 ?_
      obtain ⟨v5, hv5, hf⟩ := nx_s hf
      refine top_i hv5 ?_
      refine r_if_le hX e_X8_isWithin_31 (fun hc => ?_) (fun hc => ?_)
      · have hf := ite_t hf hc
        refine r_iinc (v := x3 + 1) hX e_X8_isWithin_36 rfl (ii_s ic_1) (Nat.le_of_ble_eq_true rfl) rfl ?_
        refine r_goto hX e_X8_isWithin_39 ?_
        exact GoN.weak (hk2 (x0) (x1) (x2) ((x3 + 1)) hf) rfl (sb_s (sb_s (sb_s (sb_s (sb_z _)))))
      · have hf := ite_f hf hc
        refine r_iconst hX e_X8_isWithin_34 ic_0 ?_
        exact r_zret hX hR rfl e_X8_isWithin_35 (ro_s hf)
theorem t_X8_isWithin_2 {X : Cx} {M : Mem} {res : Int32}  (hX : OkX X cX8_isWithin RX8 0 0) (hn : Fit X shC nC) (hR : RetI X shC nC .boolean (M, res))  : ∀ (n : Nat) (x0 : Nat) (x1 : Int32) (x2 : Int32) (x3 : Int32),  f_X8_isWithin_2 M  n x0 x1 x2 x3 = some res → GoN X shC nC 0 0 M 2 [some (.ref (X.B + x0)), some (.int (x1)), some (.int (x2)), some (.int (x3))] [] := by
  intro n
  induction n with
  | zero => intro x0 x1 x2 x3 hf; cases hf
  | succ n ih => intro x0 x1 x2 x3 hf; exact t_s_X8_isWithin_2 hX hn hR  ih x0 x1 x2 x3 hf
theorem t_X8_isWithin {l : Launch} {M : Mem} {a0 : Nat} {a1 a2 : Int32} {res : Int32} (hf : f_X8_isWithin M a0 a1 a2 = some res) : Ci l yX8_isWithin cX8_isWithin 4 (some .boolean) 0 0 shC nC (fun K B => [.ref (B + a0), .int a1, .int a2]) M (M, res) := by
  refine met_i (own := RX8) (lo := fun K B => [some (.ref (B + a0)), some (.int a1), some (.int a2), none]) (by decide +kernel) rfl shC_ok (fun _ _ => rfl) (fun _ _ => rfl) (fun _ _ => Nat.le_of_ble_eq_true rfl) (fun X hX hn hlx hR => ?_)
  refine r_iconst hX e_X8_isWithin_0 ic_0 ?_
  refine r_istore_n (i := 3) hX e_X8_isWithin_1 rfl (Nat.le_of_ble_eq_true rfl) rfl ?_
  exact GoN.weak (t_X8_isWithin_2 hX hn hR FU (a0) (a1) (a2) (0) hf) rfl (sb_s (sb_s (sb_s (sb_s (sb_z _)))))
def f_X10_feed (M : Mem) (a0 : Nat) (a1 : Int32) (a2 : Int32) (a3 : Int32) (a4 : Int32) (a5 : Int32) : Option (Mem × Int32) :=
  gd (oB shC a0 10) <| bd (gR M a0 0) fun r2 => gd (oB shC r2 6) <| if (gI M r2 1) ≤ 1980 then bd (f_X6_add M r2 a1) fun u4 => bd (gR u4 a0 0) fun r5 => gd (oB shC r5 6) <| bd (f_X6_add u4 r5 a2) fun u7 => bd (gR u7 a0 0) fun r8 => gd (oB shC r8 6) <| bd (f_X6_add u7 r8 a3) fun u10 => bd (gR u10 a0 0) fun r11 => gd (oB shC r11 6) <| bd (f_X6_add u10 r11 a4) fun u13 => bd (gR u13 a0 0) fun r14 => gd (oB shC r14 6) <| bd (f_X6_add u13 r14 a5) fun u16 => bd (gR u16 a0 0) fun r17 => gd (oB shC r17 6) <| some (u16, (gI u16 r17 1)) else some (M, (-1))
theorem t_X10_feed {l : Launch} {M : Mem} {a0 : Nat} {a1 a2 a3 a4 a5 : Int32} {res : Mem × Int32} (hf : f_X10_feed M a0 a1 a2 a3 a4 a5 = some res) : Ci l yX10_feed cX10_feed 6 (some .int) 1 22 shC nC (fun K B => [.ref (B + a0), .int a1, .int a2, .int a3, .int a4, .int a5]) M res := by
  refine met_i (own := RX10) (lo := fun K B => [some (.ref (B + a0)), some (.int a1), some (.int a2), some (.int a3), some (.int a4), some (.int a5)]) (by decide +kernel) rfl shC_ok (fun _ _ => rfl) (fun _ _ => rfl) (fun _ _ => Nat.le_of_ble_eq_true rfl) (fun X hX hn hlx hR => ?_)
  refine r_aload_n (i := 0) hX e_X10_feed_0 rfl rfl ?_
  obtain ⟨g1, hf⟩ := gd_s hf
  obtain ⟨r2, hr2, hf⟩ := bd_s hf
  refine r_getR hX hn e_X10_feed_1 fl_10_12 rfl g1 hr2 ?_
  obtain ⟨g3, hf⟩ := gd_s hf
  refine r_getI hX hn e_X10_feed_4 fl_10_66 rfl g3 ?_
  refine r_sipush hX e_X10_feed_7 sc_1980 ?_
  refine r_icmp_le hX e_X10_feed_10 (fun hc => ?_) (fun hc => ?_)
  · have hf := ite_t hf hc
    refine r_aload_n (i := 0) hX e_X10_feed_15 rfl rfl ?_
    refine r_getR hX hn e_X10_feed_16 fl_10_12 rfl g1 hr2 ?_
    refine r_iload_n (i := 1) hX e_X10_feed_19 rfl rfl ?_
    obtain ⟨u4, hu4, hf⟩ := bd_s hf
    refine r_cvv (As := fun K B => [.int (a1)]) hX hn (t_X6_add hu4) e_X10_feed_20 cw_X6_add cv_X6_add lk_10_70 ⟨Nat.le_of_ble_eq_true rfl, Nat.le_of_ble_eq_true rfl⟩ (ci := 6) rfl rfl (Nat.le_of_ble_eq_true rfl) g3 rfl rfl (Nat.le_of_ble_eq_true rfl) ⟨Nat.zero_le _, Nat.zero_le _⟩ ?_
    refine r_aload_n (i := 0) hX e_X10_feed_23 rfl rfl ?_
    obtain ⟨r5, hr5, hf⟩ := bd_s hf
    refine r_getR hX hn e_X10_feed_24 fl_10_12 rfl g1 hr5 ?_
    refine r_iload_n (i := 2) hX e_X10_feed_27 rfl rfl ?_
    obtain ⟨g6, hf⟩ := gd_s hf
    obtain ⟨u7, hu7, hf⟩ := bd_s hf
    refine r_cvv (As := fun K B => [.int (a2)]) hX hn (t_X6_add hu7) e_X10_feed_28 cw_X6_add cv_X6_add lk_10_70 ⟨Nat.le_of_ble_eq_true rfl, Nat.le_of_ble_eq_true rfl⟩ (ci := 6) rfl rfl (Nat.le_of_ble_eq_true rfl) g6 rfl rfl (Nat.le_of_ble_eq_true rfl) ⟨Nat.zero_le _, Nat.zero_le _⟩ ?_
    refine r_aload_n (i := 0) hX e_X10_feed_31 rfl rfl ?_
    obtain ⟨r8, hr8, hf⟩ := bd_s hf
    refine r_getR hX hn e_X10_feed_32 fl_10_12 rfl g1 hr8 ?_
    refine r_iload_n (i := 3) hX e_X10_feed_35 rfl rfl ?_
    obtain ⟨g9, hf⟩ := gd_s hf
    obtain ⟨u10, hu10, hf⟩ := bd_s hf
    refine r_cvv (As := fun K B => [.int (a3)]) hX hn (t_X6_add hu10) e_X10_feed_36 cw_X6_add cv_X6_add lk_10_70 ⟨Nat.le_of_ble_eq_true rfl, Nat.le_of_ble_eq_true rfl⟩ (ci := 6) rfl rfl (Nat.le_of_ble_eq_true rfl) g9 rfl rfl (Nat.le_of_ble_eq_true rfl) ⟨Nat.zero_le _, Nat.zero_le _⟩ ?_
    refine r_aload_n (i := 0) hX e_X10_feed_39 rfl rfl ?_
    obtain ⟨r11, hr11, hf⟩ := bd_s hf
    refine r_getR hX hn e_X10_feed_40 fl_10_12 rfl g1 hr11 ?_
    refine r_iload hX e_X10_feed_43 rfl ?_
    obtain ⟨g12, hf⟩ := gd_s hf
    obtain ⟨u13, hu13, hf⟩ := bd_s hf
    refine r_cvv (As := fun K B => [.int (a4)]) hX hn (t_X6_add hu13) e_X10_feed_45 cw_X6_add cv_X6_add lk_10_70 ⟨Nat.le_of_ble_eq_true rfl, Nat.le_of_ble_eq_true rfl⟩ (ci := 6) rfl rfl (Nat.le_of_ble_eq_true rfl) g12 rfl rfl (Nat.le_of_ble_eq_true rfl) ⟨Nat.zero_le _, Nat.zero_le _⟩ ?_
    refine r_aload_n (i := 0) hX e_X10_feed_48 rfl rfl ?_
    obtain ⟨r14, hr14, hf⟩ := bd_s hf
    refine r_getR hX hn e_X10_feed_49 fl_10_12 rfl g1 hr14 ?_
    refine r_iload hX e_X10_feed_52 rfl ?_
    obtain ⟨g15, hf⟩ := gd_s hf
    obtain ⟨u16, hu16, hf⟩ := bd_s hf
    refine r_cvv (As := fun K B => [.int (a5)]) hX hn (t_X6_add hu16) e_X10_feed_54 cw_X6_add cv_X6_add lk_10_70 ⟨Nat.le_of_ble_eq_true rfl, Nat.le_of_ble_eq_true rfl⟩ (ci := 6) rfl rfl (Nat.le_of_ble_eq_true rfl) g15 rfl rfl (Nat.le_of_ble_eq_true rfl) ⟨Nat.zero_le _, Nat.zero_le _⟩ ?_
    refine r_aload_n (i := 0) hX e_X10_feed_57 rfl rfl ?_
    obtain ⟨r17, hr17, hf⟩ := bd_s hf
    refine r_getR hX hn e_X10_feed_58 fl_10_12 rfl g1 hr17 ?_
    obtain ⟨g18, hf⟩ := gd_s hf
    refine r_getI hX hn e_X10_feed_61 fl_10_66 rfl g18 ?_
    exact r_iret hX hR e_X10_feed_64 hf
  · have hf := ite_f hf hc
    refine r_iconst hX e_X10_feed_13 ic_m1 ?_
    exact r_iret hX hR e_X10_feed_14 hf
def f_X10_end (M : Mem) (a0 : Nat) (a1 : Int32) : Option (Mem × Int32) :=
  if a1 < 0 then some (M, (-1)) else gd (oB shC a0 10) <| bd (gR M a0 0) fun r2 => gd (oB shC r2 6) <| if a1 ≤ (gI M r2 1) then nx (sI M r2 1 a1) fun M4 => some (M4, a1) else some (M, (-1))
theorem t_X10_end {l : Launch} {M : Mem} {a0 : Nat} {a1 : Int32} {res : Mem × Int32} (hf : f_X10_end M a0 a1 = some res) : Ci l yX10_end cX10_end 2 (some .int) 0 0 shC nC (fun K B => [.ref (B + a0), .int a1]) M res := by
  refine met_i (own := RX10) (lo := fun K B => [some (.ref (B + a0)), some (.int a1)]) (by decide +kernel) rfl shC_ok (fun _ _ => rfl) (fun _ _ => rfl) (fun _ _ => Nat.le_of_ble_eq_true rfl) (fun X hX hn hlx hR => ?_)
  refine r_iload_n (i := 1) hX e_X10_end_0 rfl rfl ?_
  refine r_if_lt hX e_X10_end_1 (fun hc => ?_) (fun hc => ?_)
  · have hf := ite_t hf hc
    refine r_iconst hX e_X10_end_15 ic_m1 ?_
    exact r_iret hX hR e_X10_end_16 hf
  · have hf := ite_f hf hc
    refine r_iload_n (i := 1) hX e_X10_end_4 rfl rfl ?_
    refine r_aload_n (i := 0) hX e_X10_end_5 rfl rfl ?_
    obtain ⟨g1, hf⟩ := gd_s hf
    obtain ⟨r2, hr2, hf⟩ := bd_s hf
    refine r_getR hX hn e_X10_end_6 fl_10_12 rfl g1 hr2 ?_
    obtain ⟨g3, hf⟩ := gd_s hf
    refine r_getI hX hn e_X10_end_9 fl_10_66 rfl g3 ?_
    refine r_icmp_le hX e_X10_end_12 (fun hc => ?_) (fun hc => ?_)
    · have hf := ite_t hf hc
      refine r_aload_n (i := 0) hX e_X10_end_17 rfl rfl ?_
      refine r_getR hX hn e_X10_end_18 fl_10_12 rfl g1 hr2 ?_
      refine r_iload_n (i := 1) hX e_X10_end_21 rfl rfl ?_
      obtain ⟨M4, hM4, hf⟩ := nx_s hf
      refine r_putI hX hn hM4 e_X10_end_22 fl_10_66 fp_6_1 rfl g3 ?_
      refine r_iload_n (i := 1) hX e_X10_end_25 rfl rfl ?_
      exact r_iret hX hR e_X10_end_26 hf
    · have hf := ite_f hf hc
      refine r_iconst hX e_X10_end_15 ic_m1 ?_
      exact r_iret hX hR e_X10_end_16 hf
def f_X10_market (M : Mem) (a0 : Nat) : Option (Mem × Int32) :=
  gd (oB shC a0 10) <| bd (gR M a0 0) fun r2 => bd (gR M a0 2) fun r3 => gd (oB shC r2 6) <| bd (f_X6_read M r2 r3) fun u5 => if u5.2 = 0 then some (u5.1, (-4)) else bd (gR u5.1 a0 2) fun r6 => bd (gR u5.1 a0 1) fun r7 => nx (sR u5.1 a0 2 (some r7)) fun M8 => nx (sR M8 a0 1 (some r6)) fun M9 => nx (sI M9 a0 7 0) fun M10 => bd (gR M10 a0 1) fun r11 => gd (oB shC r11 4) <| some (M10, (gI M10 r11 2))
theorem t_X10_market {l : Launch} {M : Mem} {a0 : Nat} {res : Mem × Int32} (hf : f_X10_market M a0 = some res) : Ci l yX10_market cX10_market 2 (some .int) 9 196 shC nC (fun K B => [.ref (B + a0)]) M res := by
  refine met_i (own := RX10) (lo := fun K B => [some (.ref (B + a0)), none]) (by decide +kernel) rfl shC_ok (fun _ _ => rfl) (fun _ _ => rfl) (fun _ _ => Nat.le_of_ble_eq_true rfl) (fun X hX hn hlx hR => ?_)
  refine r_aload_n (i := 0) hX e_X10_market_0 rfl rfl ?_
  obtain ⟨g1, hf⟩ := gd_s hf
  obtain ⟨r2, hr2, hf⟩ := bd_s hf
  refine r_getR hX hn e_X10_market_1 fl_10_12 rfl g1 hr2 ?_
  refine r_aload_n (i := 0) hX e_X10_market_4 rfl rfl ?_
  obtain ⟨r3, hr3, hf⟩ := bd_s hf
  refine r_getR hX hn e_X10_market_5 fl_10_23 rfl g1 hr3 ?_
  obtain ⟨g4, hf⟩ := gd_s hf
  obtain ⟨u5, hu5, hf⟩ := bd_s hf
  refine r_cvi (As := fun K B => [.ref (B + r3)]) hX hn (t_X6_read hu5) e_X10_market_8 cw_X6_read cv_X6_read lk_10_74 ⟨Nat.le_of_ble_eq_true rfl, Nat.le_of_ble_eq_true rfl⟩ (ci := 6) rfl rfl (Nat.le_of_ble_eq_true rfl) g4 rfl rfl (Nat.le_of_ble_eq_true rfl) ⟨Nat.zero_le _, Nat.zero_le _⟩ ?_
  refine r_if_ne hX e_X10_market_11 (fun hc => ?_) (fun hc => ?_)
  · have hf := ite_f hf hc
    refine r_aload_n (i := 0) hX e_X10_market_17 rfl rfl ?_
    obtain ⟨r6, hr6, hf⟩ := bd_s hf
    refine r_getR hX hn e_X10_market_18 fl_10_23 rfl g1 hr6 ?_
    refine r_astore_n (i := 1) hX e_X10_market_21 rfl (Nat.le_of_ble_eq_true rfl) rfl ?_
    refine r_aload_n (i := 0) hX e_X10_market_22 rfl rfl ?_
    refine r_aload_n (i := 0) hX e_X10_market_23 rfl rfl ?_
    obtain ⟨r7, hr7, hf⟩ := bd_s hf
    refine r_getR hX hn e_X10_market_24 fl_10_19 rfl g1 hr7 ?_
    obtain ⟨M8, hM8, hf⟩ := nx_s hf
    refine r_putR hX hn hM8 e_X10_market_27 fl_10_23 fp_10_2 rfl g1 rfl rfl ?_
    refine r_aload_n (i := 0) hX e_X10_market_30 rfl rfl ?_
    refine r_aload_n (i := 1) hX e_X10_market_31 rfl rfl ?_
    obtain ⟨M9, hM9, hf⟩ := nx_s hf
    refine r_putR hX hn hM9 e_X10_market_32 fl_10_19 fp_10_1 rfl g1 rfl rfl ?_
    refine r_aload_n (i := 0) hX e_X10_market_35 rfl rfl ?_
    refine r_iconst hX e_X10_market_36 ic_0 ?_
    obtain ⟨M10, hM10, hf⟩ := nx_s hf
    refine r_putZ hX hn hM10 rfl e_X10_market_37 fl_10_47 fp_10_7 rfl g1 ?_
    refine r_aload_n (i := 0) hX e_X10_market_40 rfl rfl ?_
    obtain ⟨r11, hr11, hf⟩ := bd_s hf
    refine r_getR hX hn e_X10_market_41 fl_10_19 rfl g1 hr11 ?_
    obtain ⟨g12, hf⟩ := gd_s hf
    refine r_getI hX hn e_X10_market_44 fl_10_78 rfl g12 ?_
    exact r_iret hX hR e_X10_market_47 hf
  · have hf := ite_t hf hc
    refine r_bipush hX e_X10_market_14 bc_m4 ?_
    exact r_iret hX hR e_X10_market_16 hf
def f_X10_fault (M : Mem) (a0 : Nat) (a1 : Int32) : Option (Int32) :=
  if a1 = 0 then gd (oB shC a0 10) <| bd (gR M a0 0) fun r2 => gd (oB shC r2 6) <| some (gI M r2 2) else if a1 = 1 then gd (oB shC a0 10) <| bd (gR M a0 0) fun r5 => gd (oB shC r5 6) <| some (gI M r5 3) else some (-1)
theorem t_X10_fault {l : Launch} {M : Mem} {a0 : Nat} {a1 : Int32} {res : Int32} (hf : f_X10_fault M a0 a1 = some res) : Ci l yX10_fault cX10_fault 2 (some .int) 0 0 shC nC (fun K B => [.ref (B + a0), .int a1]) M (M, res) := by
  refine met_i (own := RX10) (lo := fun K B => [some (.ref (B + a0)), some (.int a1)]) (by decide +kernel) rfl shC_ok (fun _ _ => rfl) (fun _ _ => rfl) (fun _ _ => Nat.le_of_ble_eq_true rfl) (fun X hX hn hlx hR => ?_)
  refine r_iload_n (i := 1) hX e_X10_fault_0 rfl rfl ?_
  by_cases hs0 : a1 = 0
  · have hf := ite_t hf hs0
    refine r_lookup (tgt := 28) (off := 27) hX e_X10_fault_1 (by decide) (by rw [hs0]; decide) (by decide) ?_
    refine r_aload_n (i := 0) hX e_X10_fault_28 rfl rfl ?_
    obtain ⟨g1, hf⟩ := gd_s hf
    obtain ⟨r2, hr2, hf⟩ := bd_s hf
    refine r_getR hX hn e_X10_fault_29 fl_10_12 rfl g1 hr2 ?_
    obtain ⟨g3, hf⟩ := gd_s hf
    refine r_getI hX hn e_X10_fault_32 fl_10_81 rfl g3 ?_
    exact r_iret hX hR e_X10_fault_35 (ro_s hf)
  have hf := ite_f hf hs0
  by_cases hs1 : a1 = 1
  · have hf := ite_t hf hs1
    refine r_lookup (tgt := 36) (off := 35) hX e_X10_fault_1 (by decide) (by rw [hs1]; decide) (by decide) ?_
    refine r_aload_n (i := 0) hX e_X10_fault_36 rfl rfl ?_
    obtain ⟨g4, hf⟩ := gd_s hf
    obtain ⟨r5, hr5, hf⟩ := bd_s hf
    refine r_getR hX hn e_X10_fault_37 fl_10_12 rfl g4 hr5 ?_
    obtain ⟨g6, hf⟩ := gd_s hf
    refine r_getI hX hn e_X10_fault_40 fl_10_84 rfl g6 ?_
    exact r_iret hX hR e_X10_fault_43 (ro_s hf)
  have hf := ite_f hf hs1
  refine r_lookup (tgt := 44) (off := 43) hX e_X10_fault_1 (by decide) ?_ (by decide) ?_
  · have z0 : a1.toInt ≠ 0 := i32_ne hs0 (by decide); have z1 : a1.toInt ≠ 1 := i32_ne hs1 (by decide); simp [Op.lookupswitch.offset, z0, z0.symm, z1, z1.symm]
  refine r_iconst hX e_X10_fault_44 ic_m1 ?_
  exact r_iret hX hR e_X10_fault_45 (ro_s hf)
def f_X10_stall (M : Mem) (a0 : Nat) (a1 : Int32) (a2 : Int32) : Option (Int32) :=
  gd (oB shC a0 10) <| bd (gR M a0 1) fun r2 => gd (oB shC r2 4) <| bd (f_X4_hasStall M r2 a1) fun v4 => if v4 = 0 then some (-2) else bd (gR M r2 7) fun r5 => gd (aB shC r5 5 a1) <| bd (gR M r5 (a1 : Int32).toNatClampNeg) fun r7 => if a2 = 0 then gd (oB shC r7 9) <| some (gI M r7 0) else if a2 = 1 then gd (oB shC r7 9) <| some (gI M r7 1) else if a2 = 2 then gd (oB shC r7 9) <| some (gI M r7 2) else if a2 = 3 then gd (oB shC r7 9) <| some (gI M r7 3) else if a2 = 4 then gd (oB shC r7 9) <| some (gI M r7 4) else if a2 = 5 then gd (oB shC r7 9) <| some (gI M r7 5) else if a2 = 6 then gd (oB shC r7 9) <| some (gI M r7 6) else some (-2)
theorem t_X10_stall {l : Launch} {M : Mem} {a0 : Nat} {a1 a2 : Int32} {res : Int32} (hf : f_X10_stall M a0 a1 a2 = some res) : Ci l yX10_stall cX10_stall 4 (some .int) 1 21 shC nC (fun K B => [.ref (B + a0), .int a1, .int a2]) M (M, res) := by
  refine met_i (own := RX10) (lo := fun K B => [some (.ref (B + a0)), some (.int a1), some (.int a2), none]) (by decide +kernel) rfl shC_ok (fun _ _ => rfl) (fun _ _ => rfl) (fun _ _ => Nat.le_of_ble_eq_true rfl) (fun X hX hn hlx hR => ?_)
  refine r_aload_n (i := 0) hX e_X10_stall_0 rfl rfl ?_
  obtain ⟨g1, hf⟩ := gd_s hf
  obtain ⟨r2, hr2, hf⟩ := bd_s hf
  refine r_getR hX hn e_X10_stall_1 fl_10_19 rfl g1 hr2 ?_
  refine r_iload_n (i := 1) hX e_X10_stall_4 rfl rfl ?_
  obtain ⟨g3, hf⟩ := gd_s hf
  obtain ⟨v4, hv4, hf⟩ := bd_s hf
  refine r_cvi (As := fun K B => [.int (a1)]) hX hn (t_X4_hasStall hv4) e_X10_stall_5 cw_X4_hasStall cv_X4_hasStall lk_10_87 ⟨Nat.le_of_ble_eq_true rfl, Nat.le_of_ble_eq_true rfl⟩ (ci := 4) rfl rfl (Nat.le_of_ble_eq_true rfl) g3 rfl rfl (Nat.le_of_ble_eq_true rfl) ⟨Nat.zero_le _, Nat.zero_le _⟩ ?_
  refine r_if_ne hX e_X10_stall_8 (fun hc => ?_) (fun hc => ?_)
  · have hf := ite_f hf hc
    refine r_aload_n (i := 0) hX e_X10_stall_14 rfl rfl ?_
    refine r_getR hX hn e_X10_stall_15 fl_10_19 rfl g1 hr2 ?_
    obtain ⟨r5, hr5, hf⟩ := bd_s hf
    refine r_getR hX hn e_X10_stall_18 fl_10_91 rfl g3 hr5 ?_
    refine r_iload_n (i := 1) hX e_X10_stall_21 rfl rfl ?_
    obtain ⟨g6, hf⟩ := gd_s hf
    obtain ⟨r7, hr7, hf⟩ := bd_s hf
    refine r_aald hX hn e_X10_stall_22 g6 (Nat.le_of_ble_eq_true rfl) rfl rfl rfl hr7 ?_
    refine r_astore_n (i := 3) hX e_X10_stall_23 rfl (Nat.le_of_ble_eq_true rfl) rfl ?_
    refine r_iload_n (i := 2) hX e_X10_stall_24 rfl rfl ?_
    by_cases hs0 : a2 = 0
    · have hf := ite_t hf hs0
      refine r_tabIn (tgt := 68) hX e_X10_stall_25 (by rw [hs0]; decide) (by rw [hs0]; decide) (off := 43) (by rw [hs0]; decide) (by decide) ?_
      refine r_aload_n (i := 3) hX e_X10_stall_68 rfl rfl ?_
      obtain ⟨g8, hf⟩ := gd_s hf
      refine r_getI hX hn e_X10_stall_69 fl_10_95 rfl g8 ?_
      exact r_iret hX hR e_X10_stall_72 (ro_s hf)
    have hf := ite_f hf hs0
    by_cases hs1 : a2 = 1
    · have hf := ite_t hf hs1
      refine r_tabIn (tgt := 73) hX e_X10_stall_25 (by rw [hs1]; decide) (by rw [hs1]; decide) (off := 48) (by rw [hs1]; decide) (by decide) ?_
      refine r_aload_n (i := 3) hX e_X10_stall_73 rfl rfl ?_
      obtain ⟨g9, hf⟩ := gd_s hf
      refine r_getI hX hn e_X10_stall_74 fl_10_100 rfl g9 ?_
      exact r_iret hX hR e_X10_stall_77 (ro_s hf)
    have hf := ite_f hf hs1
    by_cases hs2 : a2 = 2
    · have hf := ite_t hf hs2
      refine r_tabIn (tgt := 78) hX e_X10_stall_25 (by rw [hs2]; decide) (by rw [hs2]; decide) (off := 53) (by rw [hs2]; decide) (by decide) ?_
      refine r_aload_n (i := 3) hX e_X10_stall_78 rfl rfl ?_
      obtain ⟨g10, hf⟩ := gd_s hf
      refine r_getI hX hn e_X10_stall_79 fl_10_103 rfl g10 ?_
      exact r_iret hX hR e_X10_stall_82 (ro_s hf)
    have hf := ite_f hf hs2
    by_cases hs3 : a2 = 3
    · have hf := ite_t hf hs3
      refine r_tabIn (tgt := 83) hX e_X10_stall_25 (by rw [hs3]; decide) (by rw [hs3]; decide) (off := 58) (by rw [hs3]; decide) (by decide) ?_
      refine r_aload_n (i := 3) hX e_X10_stall_83 rfl rfl ?_
      obtain ⟨g11, hf⟩ := gd_s hf
      refine r_getI hX hn e_X10_stall_84 fl_10_106 rfl g11 ?_
      exact r_iret hX hR e_X10_stall_87 (ro_s hf)
    have hf := ite_f hf hs3
    by_cases hs4 : a2 = 4
    · have hf := ite_t hf hs4
      refine r_tabIn (tgt := 88) hX e_X10_stall_25 (by rw [hs4]; decide) (by rw [hs4]; decide) (off := 63) (by rw [hs4]; decide) (by decide) ?_
      refine r_aload_n (i := 3) hX e_X10_stall_88 rfl rfl ?_
      obtain ⟨g12, hf⟩ := gd_s hf
      refine r_getI hX hn e_X10_stall_89 fl_10_109 rfl g12 ?_
      exact r_iret hX hR e_X10_stall_92 (ro_s hf)
    have hf := ite_f hf hs4
    by_cases hs5 : a2 = 5
    · have hf := ite_t hf hs5
      refine r_tabIn (tgt := 93) hX e_X10_stall_25 (by rw [hs5]; decide) (by rw [hs5]; decide) (off := 68) (by rw [hs5]; decide) (by decide) ?_
      refine r_aload_n (i := 3) hX e_X10_stall_93 rfl rfl ?_
      obtain ⟨g13, hf⟩ := gd_s hf
      refine r_getI hX hn e_X10_stall_94 fl_10_112 rfl g13 ?_
      exact r_iret hX hR e_X10_stall_97 (ro_s hf)
    have hf := ite_f hf hs5
    by_cases hs6 : a2 = 6
    · have hf := ite_t hf hs6
      refine r_tabIn (tgt := 98) hX e_X10_stall_25 (by rw [hs6]; decide) (by rw [hs6]; decide) (off := 73) (by rw [hs6]; decide) (by decide) ?_
      refine r_aload_n (i := 3) hX e_X10_stall_98 rfl rfl ?_
      obtain ⟨g14, hf⟩ := gd_s hf
      refine r_getI hX hn e_X10_stall_99 fl_10_115 rfl g14 ?_
      exact r_iret hX hR e_X10_stall_102 (ro_s hf)
    have hf := ite_f hf hs6
    refine r_tabOut (tgt := 103) hX e_X10_stall_25 ?_ (by decide) ?_
    · have z0 : a2.toInt ≠ 0 := i32_ne hs0 (by decide); have z1 : a2.toInt ≠ 1 := i32_ne hs1 (by decide); have z2 : a2.toInt ≠ 2 := i32_ne hs2 (by decide); have z3 : a2.toInt ≠ 3 := i32_ne hs3 (by decide); have z4 : a2.toInt ≠ 4 := i32_ne hs4 (by decide); have z5 : a2.toInt ≠ 5 := i32_ne hs5 (by decide); have z6 : a2.toInt ≠ 6 := i32_ne hs6 (by decide); omega
    refine r_bipush hX e_X10_stall_103 bc_m2 ?_
    exact r_iret hX hR e_X10_stall_105 (ro_s hf)
  · have hf := ite_t hf hc
    refine r_bipush hX e_X10_stall_11 bc_m2 ?_
    exact r_iret hX hR e_X10_stall_13 (ro_s hf)
def f_X10_buyer (M : Mem) (a0 : Nat) (a1 : Int32) (a2 : Int32) : Option (Int32) :=
  gd (oB shC a0 10) <| bd (gR M a0 1) fun r2 => gd (oB shC r2 4) <| bd (f_X4_hasBuyer M r2 a1) fun v4 => if v4 = 0 then some (-2) else bd (gR M r2 8) fun r5 => gd (aB shC r5 6 a1) <| bd (gR M r5 (a1 : Int32).toNatClampNeg) fun r7 => if a2 = 0 then gd (oB shC r7 1) <| some (gI M r7 0) else if a2 = 1 then gd (oB shC r7 1) <| some (gI M r7 1) else if a2 = 2 then gd (oB shC r7 1) <| some (gI M r7 2) else if a2 = 3 then gd (oB shC r7 1) <| some (gI M r7 3) else some (-2)
theorem t_X10_buyer {l : Launch} {M : Mem} {a0 : Nat} {a1 a2 : Int32} {res : Int32} (hf : f_X10_buyer M a0 a1 a2 = some res) : Ci l yX10_buyer cX10_buyer 4 (some .int) 1 21 shC nC (fun K B => [.ref (B + a0), .int a1, .int a2]) M (M, res) := by
  refine met_i (own := RX10) (lo := fun K B => [some (.ref (B + a0)), some (.int a1), some (.int a2), none]) (by decide +kernel) rfl shC_ok (fun _ _ => rfl) (fun _ _ => rfl) (fun _ _ => Nat.le_of_ble_eq_true rfl) (fun X hX hn hlx hR => ?_)
  refine r_aload_n (i := 0) hX e_X10_buyer_0 rfl rfl ?_
  obtain ⟨g1, hf⟩ := gd_s hf
  obtain ⟨r2, hr2, hf⟩ := bd_s hf
  refine r_getR hX hn e_X10_buyer_1 fl_10_19 rfl g1 hr2 ?_
  refine r_iload_n (i := 1) hX e_X10_buyer_4 rfl rfl ?_
  obtain ⟨g3, hf⟩ := gd_s hf
  obtain ⟨v4, hv4, hf⟩ := bd_s hf
  refine r_cvi (As := fun K B => [.int (a1)]) hX hn (t_X4_hasBuyer hv4) e_X10_buyer_5 cw_X4_hasBuyer cv_X4_hasBuyer lk_10_118 ⟨Nat.le_of_ble_eq_true rfl, Nat.le_of_ble_eq_true rfl⟩ (ci := 4) rfl rfl (Nat.le_of_ble_eq_true rfl) g3 rfl rfl (Nat.le_of_ble_eq_true rfl) ⟨Nat.zero_le _, Nat.zero_le _⟩ ?_
  refine r_if_ne hX e_X10_buyer_8 (fun hc => ?_) (fun hc => ?_)
  · have hf := ite_f hf hc
    refine r_aload_n (i := 0) hX e_X10_buyer_14 rfl rfl ?_
    refine r_getR hX hn e_X10_buyer_15 fl_10_19 rfl g1 hr2 ?_
    obtain ⟨r5, hr5, hf⟩ := bd_s hf
    refine r_getR hX hn e_X10_buyer_18 fl_10_121 rfl g3 hr5 ?_
    refine r_iload_n (i := 1) hX e_X10_buyer_21 rfl rfl ?_
    obtain ⟨g6, hf⟩ := gd_s hf
    obtain ⟨r7, hr7, hf⟩ := bd_s hf
    refine r_aald hX hn e_X10_buyer_22 g6 (Nat.le_of_ble_eq_true rfl) rfl rfl rfl hr7 ?_
    refine r_astore_n (i := 3) hX e_X10_buyer_23 rfl (Nat.le_of_ble_eq_true rfl) rfl ?_
    refine r_iload_n (i := 2) hX e_X10_buyer_24 rfl rfl ?_
    by_cases hs0 : a2 = 0
    · have hf := ite_t hf hs0
      refine r_tabIn (tgt := 56) hX e_X10_buyer_25 (by rw [hs0]; decide) (by rw [hs0]; decide) (off := 31) (by rw [hs0]; decide) (by decide) ?_
      refine r_aload_n (i := 3) hX e_X10_buyer_56 rfl rfl ?_
      obtain ⟨g8, hf⟩ := gd_s hf
      refine r_getI hX hn e_X10_buyer_57 fl_10_125 rfl g8 ?_
      exact r_iret hX hR e_X10_buyer_60 (ro_s hf)
    have hf := ite_f hf hs0
    by_cases hs1 : a2 = 1
    · have hf := ite_t hf hs1
      refine r_tabIn (tgt := 61) hX e_X10_buyer_25 (by rw [hs1]; decide) (by rw [hs1]; decide) (off := 36) (by rw [hs1]; decide) (by decide) ?_
      refine r_aload_n (i := 3) hX e_X10_buyer_61 rfl rfl ?_
      obtain ⟨g9, hf⟩ := gd_s hf
      refine r_getI hX hn e_X10_buyer_62 fl_10_130 rfl g9 ?_
      exact r_iret hX hR e_X10_buyer_65 (ro_s hf)
    have hf := ite_f hf hs1
    by_cases hs2 : a2 = 2
    · have hf := ite_t hf hs2
      refine r_tabIn (tgt := 66) hX e_X10_buyer_25 (by rw [hs2]; decide) (by rw [hs2]; decide) (off := 41) (by rw [hs2]; decide) (by decide) ?_
      refine r_aload_n (i := 3) hX e_X10_buyer_66 rfl rfl ?_
      obtain ⟨g10, hf⟩ := gd_s hf
      refine r_getI hX hn e_X10_buyer_67 fl_10_133 rfl g10 ?_
      exact r_iret hX hR e_X10_buyer_70 (ro_s hf)
    have hf := ite_f hf hs2
    by_cases hs3 : a2 = 3
    · have hf := ite_t hf hs3
      refine r_tabIn (tgt := 71) hX e_X10_buyer_25 (by rw [hs3]; decide) (by rw [hs3]; decide) (off := 46) (by rw [hs3]; decide) (by decide) ?_
      refine r_aload_n (i := 3) hX e_X10_buyer_71 rfl rfl ?_
      obtain ⟨g11, hf⟩ := gd_s hf
      refine r_getI hX hn e_X10_buyer_72 fl_10_136 rfl g11 ?_
      exact r_iret hX hR e_X10_buyer_75 (ro_s hf)
    have hf := ite_f hf hs3
    refine r_tabOut (tgt := 76) hX e_X10_buyer_25 ?_ (by decide) ?_
    · have z0 : a2.toInt ≠ 0 := i32_ne hs0 (by decide); have z1 : a2.toInt ≠ 1 := i32_ne hs1 (by decide); have z2 : a2.toInt ≠ 2 := i32_ne hs2 (by decide); have z3 : a2.toInt ≠ 3 := i32_ne hs3 (by decide); omega
    refine r_bipush hX e_X10_buyer_76 bc_m2 ?_
    exact r_iret hX hR e_X10_buyer_78 (ro_s hf)
  · have hf := ite_t hf hc
    refine r_bipush hX e_X10_buyer_11 bc_m2 ?_
    exact r_iret hX hR e_X10_buyer_13 (ro_s hf)
def f_X10_want (M : Mem) (a0 : Nat) (a1 : Int32) (a2 : Int32) (a3 : Int32) : Option (Int32) :=
  gd (oB shC a0 10) <| bd (gR M a0 1) fun r2 => gd (oB shC r2 4) <| bd (f_X4_hasBuyer M r2 a1) fun v4 => if v4 = 0 then some (-2) else if a2 < 0 then some (-2) else bd (gR M r2 8) fun r5 => gd (aB shC r5 6 a1) <| bd (gR M r5 (a1 : Int32).toNatClampNeg) fun r7 => gd (oB shC r7 1) <| if a2 < (gI M r7 3) then if a3 = 0 then bd (gR M r7 4) fun r9 => gd (aB shC r9 0 a2) <| some (gI M r9 (a2 : Int32).toNatClampNeg) else if a3 = 1 then bd (gR M r7 5) fun r11 => gd (aB shC r11 0 a2) <| some (gI M r11 (a2 : Int32).toNatClampNeg) else if a3 = 2 then bd (gR M r7 6) fun r13 => gd (aB shC r13 0 a2) <| some (gI M r13 (a2 : Int32).toNatClampNeg) else some (-2) else some (-2)
theorem t_X10_want {l : Launch} {M : Mem} {a0 : Nat} {a1 a2 a3 : Int32} {res : Int32} (hf : f_X10_want M a0 a1 a2 a3 = some res) : Ci l yX10_want cX10_want 5 (some .int) 1 21 shC nC (fun K B => [.ref (B + a0), .int a1, .int a2, .int a3]) M (M, res) := by
  refine met_i (own := RX10) (lo := fun K B => [some (.ref (B + a0)), some (.int a1), some (.int a2), some (.int a3), none]) (by decide +kernel) rfl shC_ok (fun _ _ => rfl) (fun _ _ => rfl) (fun _ _ => Nat.le_of_ble_eq_true rfl) (fun X hX hn hlx hR => ?_)
  refine r_aload_n (i := 0) hX e_X10_want_0 rfl rfl ?_
  obtain ⟨g1, hf⟩ := gd_s hf
  obtain ⟨r2, hr2, hf⟩ := bd_s hf
  refine r_getR hX hn e_X10_want_1 fl_10_19 rfl g1 hr2 ?_
  refine r_iload_n (i := 1) hX e_X10_want_4 rfl rfl ?_
  obtain ⟨g3, hf⟩ := gd_s hf
  obtain ⟨v4, hv4, hf⟩ := bd_s hf
  refine r_cvi (As := fun K B => [.int (a1)]) hX hn (t_X4_hasBuyer hv4) e_X10_want_5 cw_X4_hasBuyer cv_X4_hasBuyer lk_10_118 ⟨Nat.le_of_ble_eq_true rfl, Nat.le_of_ble_eq_true rfl⟩ (ci := 4) rfl rfl (Nat.le_of_ble_eq_true rfl) g3 rfl rfl (Nat.le_of_ble_eq_true rfl) ⟨Nat.zero_le _, Nat.zero_le _⟩ ?_
  refine r_if_eq hX e_X10_want_8 (fun hc => ?_) (fun hc => ?_)
  · have hf := ite_t hf hc
    refine r_bipush hX e_X10_want_31 bc_m2 ?_
    exact r_iret hX hR e_X10_want_33 (ro_s hf)
  · have hf := ite_f hf hc
    refine r_iload_n (i := 2) hX e_X10_want_11 rfl rfl ?_
    refine r_if_lt hX e_X10_want_12 (fun hc => ?_) (fun hc => ?_)
    · have hf := ite_t hf hc
      refine r_bipush hX e_X10_want_31 bc_m2 ?_
      exact r_iret hX hR e_X10_want_33 (ro_s hf)
    · have hf := ite_f hf hc
      refine r_iload_n (i := 2) hX e_X10_want_15 rfl rfl ?_
      refine r_aload_n (i := 0) hX e_X10_want_16 rfl rfl ?_
      refine r_getR hX hn e_X10_want_17 fl_10_19 rfl g1 hr2 ?_
      obtain ⟨r5, hr5, hf⟩ := bd_s hf
      refine r_getR hX hn e_X10_want_20 fl_10_121 rfl g3 hr5 ?_
      refine r_iload_n (i := 1) hX e_X10_want_23 rfl rfl ?_
      obtain ⟨g6, hf⟩ := gd_s hf
      obtain ⟨r7, hr7, hf⟩ := bd_s hf
      refine r_aald hX hn e_X10_want_24 g6 (Nat.le_of_ble_eq_true rfl) rfl rfl rfl hr7 ?_
      obtain ⟨g8, hf⟩ := gd_s hf
      refine r_getI hX hn e_X10_want_25 fl_10_136 rfl g8 ?_
      refine r_icmp_lt hX e_X10_want_28 (fun hc => ?_) (fun hc => ?_)
      · have hf := ite_t hf hc
        refine r_aload_n (i := 0) hX e_X10_want_34 rfl rfl ?_
        refine r_getR hX hn e_X10_want_35 fl_10_19 rfl g1 hr2 ?_
        refine r_getR hX hn e_X10_want_38 fl_10_121 rfl g3 hr5 ?_
        refine r_iload_n (i := 1) hX e_X10_want_41 rfl rfl ?_
        refine r_aald hX hn e_X10_want_42 g6 (Nat.le_of_ble_eq_true rfl) rfl rfl rfl hr7 ?_
        refine r_astore hX e_X10_want_43 (Nat.le_of_ble_eq_true rfl) rfl ?_
        refine r_iload_n (i := 3) hX e_X10_want_45 rfl rfl ?_
        by_cases hs0 : a3 = 0
        · have hf := ite_t hf hs0
          refine r_tabIn (tgt := 72) hX e_X10_want_46 (by rw [hs0]; decide) (by rw [hs0]; decide) (off := 26) (by rw [hs0]; decide) (by decide) ?_
          refine r_aload hX e_X10_want_72 rfl ?_
          obtain ⟨r9, hr9, hf⟩ := bd_s hf
          refine r_getR hX hn e_X10_want_74 fl_10_139 rfl g8 hr9 ?_
          refine r_iload_n (i := 2) hX e_X10_want_77 rfl rfl ?_
          obtain ⟨g10, hf⟩ := gd_s hf
          refine r_iald hX hn e_X10_want_78 g10 ?_
          exact r_iret hX hR e_X10_want_79 (ro_s hf)
        have hf := ite_f hf hs0
        by_cases hs1 : a3 = 1
        · have hf := ite_t hf hs1
          refine r_tabIn (tgt := 80) hX e_X10_want_46 (by rw [hs1]; decide) (by rw [hs1]; decide) (off := 34) (by rw [hs1]; decide) (by decide) ?_
          refine r_aload hX e_X10_want_80 rfl ?_
          obtain ⟨r11, hr11, hf⟩ := bd_s hf
          refine r_getR hX hn e_X10_want_82 fl_10_142 rfl g8 hr11 ?_
          refine r_iload_n (i := 2) hX e_X10_want_85 rfl rfl ?_
          obtain ⟨g12, hf⟩ := gd_s hf
          refine r_iald hX hn e_X10_want_86 g12 ?_
          exact r_iret hX hR e_X10_want_87 (ro_s hf)
        have hf := ite_f hf hs1
        by_cases hs2 : a3 = 2
        · have hf := ite_t hf hs2
          refine r_tabIn (tgt := 88) hX e_X10_want_46 (by rw [hs2]; decide) (by rw [hs2]; decide) (off := 42) (by rw [hs2]; decide) (by decide) ?_
          refine r_aload hX e_X10_want_88 rfl ?_
          obtain ⟨r13, hr13, hf⟩ := bd_s hf
          refine r_getR hX hn e_X10_want_90 fl_10_144 rfl g8 hr13 ?_
          refine r_iload_n (i := 2) hX e_X10_want_93 rfl rfl ?_
          obtain ⟨g14, hf⟩ := gd_s hf
          refine r_iald hX hn e_X10_want_94 g14 ?_
          exact r_iret hX hR e_X10_want_95 (ro_s hf)
        have hf := ite_f hf hs2
        refine r_tabOut (tgt := 96) hX e_X10_want_46 ?_ (by decide) ?_
        · have z0 : a3.toInt ≠ 0 := i32_ne hs0 (by decide); have z1 : a3.toInt ≠ 1 := i32_ne hs1 (by decide); have z2 : a3.toInt ≠ 2 := i32_ne hs2 (by decide); omega
        refine r_bipush hX e_X10_want_96 bc_m2 ?_
        exact r_iret hX hR e_X10_want_98 (ro_s hf)
      · have hf := ite_f hf hc
        refine r_bipush hX e_X10_want_31 bc_m2 ?_
        exact r_iret hX hR e_X10_want_33 (ro_s hf)
def f_X10_toldHour (M : Mem) (a0 : Nat) : Option (Mem × Nat) :=
  gd (oB shC a0 10) <| if (gI M a0 7) = 0 then bd (gR M a0 6) fun r3 => bd (gR M a0 1) fun r4 => gd (oB shC r3 3) <| bd (f_X3_play M r3 r4) fun u6 => nx (sI u6 a0 7 1) fun M7 => bd (gR M7 a0 6) fun r8 => some (M7, r8) else bd (gR M a0 6) fun r2 => some (M, r2)
theorem t_X10_toldHour {l : Launch} {M : Mem} {a0 : Nat} {res : Mem × Nat} (hf : f_X10_toldHour M a0 = some res) : Cr l yX10_toldHour cX10_toldHour 1 (some (.object "TurningMarket$Hour")) 5 119 shC nC (fun K B => [.ref (B + a0)]) M res := by
  refine met_r (own := RX10) (lo := fun K B => [some (.ref (B + a0))]) (by decide +kernel) rfl shC_ok (fun _ _ => rfl) (fun _ _ => rfl) (fun _ _ => Nat.le_of_ble_eq_true rfl) (fun X hX hn hlx hR => ?_)
  refine r_aload_n (i := 0) hX e_X10_toldHour_0 rfl rfl ?_
  obtain ⟨g1, hf⟩ := gd_s hf
  refine r_getI hX hn e_X10_toldHour_1 fl_10_47 rfl g1 ?_
  refine r_if_ne hX e_X10_toldHour_4 (fun hc => ?_) (fun hc => ?_)
  · have hf := ite_f hf hc
    refine r_aload_n (i := 0) hX e_X10_toldHour_23 rfl rfl ?_
    obtain ⟨r2, hr2, hf⟩ := bd_s hf
    refine r_getR hX hn e_X10_toldHour_24 fl_10_43 rfl g1 hr2 ?_
    exact r_aret hX hR e_X10_toldHour_27 hf
  · have hf := ite_t hf hc
    refine r_aload_n (i := 0) hX e_X10_toldHour_7 rfl rfl ?_
    obtain ⟨r3, hr3, hf⟩ := bd_s hf
    refine r_getR hX hn e_X10_toldHour_8 fl_10_43 rfl g1 hr3 ?_
    refine r_aload_n (i := 0) hX e_X10_toldHour_11 rfl rfl ?_
    obtain ⟨r4, hr4, hf⟩ := bd_s hf
    refine r_getR hX hn e_X10_toldHour_12 fl_10_19 rfl g1 hr4 ?_
    obtain ⟨g5, hf⟩ := gd_s hf
    obtain ⟨u6, hu6, hf⟩ := bd_s hf
    refine r_cvv (As := fun K B => [.ref (B + r4)]) hX hn (t_X3_play hu6) e_X10_toldHour_15 cw_X3_play cv_X3_play lk_10_368 ⟨Nat.le_of_ble_eq_true rfl, Nat.le_of_ble_eq_true rfl⟩ (ci := 3) rfl rfl (Nat.le_of_ble_eq_true rfl) g5 rfl rfl (Nat.le_of_ble_eq_true rfl) ⟨Nat.zero_le _, Nat.zero_le _⟩ ?_
    refine r_aload_n (i := 0) hX e_X10_toldHour_18 rfl rfl ?_
    refine r_iconst hX e_X10_toldHour_19 ic_1 ?_
    obtain ⟨M7, hM7, hf⟩ := nx_s hf
    refine r_putZ hX hn hM7 rfl e_X10_toldHour_20 fl_10_47 fp_10_7 rfl g1 ?_
    refine r_aload_n (i := 0) hX e_X10_toldHour_23 rfl rfl ?_
    obtain ⟨r8, hr8, hf⟩ := bd_s hf
    refine r_getR hX hn e_X10_toldHour_24 fl_10_43 rfl g1 hr8 ?_
    exact r_aret hX hR e_X10_toldHour_27 hf
def f_X10_at (M : Mem) (a0 : Nat) (a1 : Int32) (a2 : Int32) : Option (Mem × Int32) :=
  gd (oB shC a0 10) <| bd (gR M a0 1) fun r2 => gd (oB shC r2 4) <| bd (f_X4_hasStall M r2 a1) fun v4 => if v4 = 0 then some (M, (-2)) else bd (f_X4_hasMinute M r2 a2) fun v5 => if v5 = 0 then some (M, (-2)) else bd (f_X10_toldHour M a0) fun u6 => gd (oB shC u6.2 3) <| bd (gR u6.1 u6.2 0) fun r8 => gd (oB shC r8 2) <| bd (gR u6.1 r8 1) fun r10 => gd (aB shC r10 9 a1) <| bd (gR u6.1 r10 (a1 : Int32).toNatClampNeg) fun r12 => gd (aB shC r12 0 a2) <| some (u6.1, (gI u6.1 r12 (a2 : Int32).toNatClampNeg))
theorem t_X10_at {l : Launch} {M : Mem} {a0 : Nat} {a1 a2 : Int32} {res : Mem × Int32} (hf : f_X10_at M a0 a1 a2 = some res) : Ci l yX10_at cX10_at 3 (some .int) 6 139 shC nC (fun K B => [.ref (B + a0), .int a1, .int a2]) M res := by
  refine met_i (own := RX10) (lo := fun K B => [some (.ref (B + a0)), some (.int a1), some (.int a2)]) (by decide +kernel) rfl shC_ok (fun _ _ => rfl) (fun _ _ => rfl) (fun _ _ => Nat.le_of_ble_eq_true rfl) (fun X hX hn hlx hR => ?_)
  refine r_aload_n (i := 0) hX e_X10_at_0 rfl rfl ?_
  obtain ⟨g1, hf⟩ := gd_s hf
  obtain ⟨r2, hr2, hf⟩ := bd_s hf
  refine r_getR hX hn e_X10_at_1 fl_10_19 rfl g1 hr2 ?_
  refine r_iload_n (i := 1) hX e_X10_at_4 rfl rfl ?_
  obtain ⟨g3, hf⟩ := gd_s hf
  obtain ⟨v4, hv4, hf⟩ := bd_s hf
  refine r_cvi (As := fun K B => [.int (a1)]) hX hn (t_X4_hasStall hv4) e_X10_at_5 cw_X4_hasStall cv_X4_hasStall lk_10_87 ⟨Nat.le_of_ble_eq_true rfl, Nat.le_of_ble_eq_true rfl⟩ (ci := 4) rfl rfl (Nat.le_of_ble_eq_true rfl) g3 rfl rfl (Nat.le_of_ble_eq_true rfl) ⟨Nat.zero_le _, Nat.zero_le _⟩ ?_
  refine r_if_eq hX e_X10_at_8 (fun hc => ?_) (fun hc => ?_)
  · have hf := ite_t hf hc
    refine r_bipush hX e_X10_at_22 bc_m2 ?_
    exact r_iret hX hR e_X10_at_24 hf
  · have hf := ite_f hf hc
    refine r_aload_n (i := 0) hX e_X10_at_11 rfl rfl ?_
    refine r_getR hX hn e_X10_at_12 fl_10_19 rfl g1 hr2 ?_
    refine r_iload_n (i := 2) hX e_X10_at_15 rfl rfl ?_
    obtain ⟨v5, hv5, hf⟩ := bd_s hf
    refine r_cvi (As := fun K B => [.int (a2)]) hX hn (t_X4_hasMinute hv5) e_X10_at_16 cw_X4_hasMinute cv_X4_hasMinute lk_10_147 ⟨Nat.le_of_ble_eq_true rfl, Nat.le_of_ble_eq_true rfl⟩ (ci := 4) rfl rfl (Nat.le_of_ble_eq_true rfl) g3 rfl rfl (Nat.le_of_ble_eq_true rfl) ⟨Nat.zero_le _, Nat.zero_le _⟩ ?_
    refine r_if_ne hX e_X10_at_19 (fun hc => ?_) (fun hc => ?_)
    · have hf := ite_f hf hc
      refine r_aload_n (i := 0) hX e_X10_at_25 rfl rfl ?_
      obtain ⟨u6, hu6, hf⟩ := bd_s hf
      refine r_cvr (As := fun K B => []) hX hn (t_X10_toldHour hu6) e_X10_at_26 cw_X10_toldHour cv_X10_toldHour lk_10_150 ⟨Nat.le_of_ble_eq_true rfl, Nat.le_of_ble_eq_true rfl⟩ (ci := 10) rfl rfl (Nat.le_of_ble_eq_true rfl) g1 rfl rfl (Nat.le_of_ble_eq_true rfl) ⟨Nat.zero_le _, Nat.zero_le _⟩ ?_
      obtain ⟨g7, hf⟩ := gd_s hf
      obtain ⟨r8, hr8, hf⟩ := bd_s hf
      refine r_getR hX hn e_X10_at_29 fl_10_154 rfl g7 hr8 ?_
      obtain ⟨g9, hf⟩ := gd_s hf
      obtain ⟨r10, hr10, hf⟩ := bd_s hf
      refine r_getR hX hn e_X10_at_32 fl_10_158 rfl g9 hr10 ?_
      refine r_iload_n (i := 1) hX e_X10_at_35 rfl rfl ?_
      obtain ⟨g11, hf⟩ := gd_s hf
      obtain ⟨r12, hr12, hf⟩ := bd_s hf
      refine r_aald hX hn e_X10_at_36 g11 (Nat.le_of_ble_eq_true rfl) rfl rfl rfl hr12 ?_
      refine r_iload_n (i := 2) hX e_X10_at_37 rfl rfl ?_
      obtain ⟨g13, hf⟩ := gd_s hf
      refine r_iald hX hn e_X10_at_38 g13 ?_
      exact r_iret hX hR e_X10_at_39 hf
    · have hf := ite_t hf hc
      refine r_bipush hX e_X10_at_22 bc_m2 ?_
      exact r_iret hX hR e_X10_at_24 hf
def s_X10_comes_48 (k48 : Mem → Nat → Int32 → Int32 → Nat → Int32 → Option (Mem × Int32)) (M : Mem) (x0 : Nat) (x1 : Int32) (x2 : Int32) (x4 : Nat) (x5 : Int32) : Option (Mem × Int32) :=
  gd (oB shC x0 10) <| bd (gR M x0 1) fun r2 => gd (oB shC r2 4) <| if (gI M r2 1) ≤ x5 then some (M, (-1)) else gd (oB shC x4 2) <| bd (gR M x4 1) fun r5 => gd (aB shC r5 9 x1) <| bd (gR M r5 (x1 : Int32).toNatClampNeg) fun r7 => gd (aB shC r7 0 x5) <| if (gI M r7 (x5 : Int32).toNatClampNeg) = x2 then some (M, x5) else k48 M (x0) (x1) (x2) (x4) ((x5 + 1))
def f_X10_comes_48  : Nat → Mem → Nat → Int32 → Int32 → Nat → Int32 → Option (Mem × Int32)
  | 0 => fun _ _ _ _ _ _ => none
  | n + 1 => fun y0 y1 y2 y3 y4 y5 => s_X10_comes_48  (f_X10_comes_48  n) y0 y1 y2 y3 y4 y5
def f_X10_comes (M : Mem) (a0 : Nat) (a1 : Int32) (a2 : Int32) (a3 : Int32) : Option (Mem × Int32) :=
  gd (oB shC a0 10) <| bd (gR M a0 1) fun r2 => gd (oB shC r2 4) <| bd (f_X4_hasStall M r2 a1) fun v4 => if v4 = 0 then some (M, (-2)) else bd (f_X4_hasPlace M r2 a2) fun v5 => if v5 = 0 then some (M, (-2)) else bd (f_X4_hasMinute M r2 a3) fun v6 => if v6 = 0 then some (M, (-2)) else bd (f_X10_toldHour M a0) fun u7 => gd (oB shC u7.2 3) <| bd (gR u7.1 u7.2 0) fun r9 => f_X10_comes_48 FU u7.1 (a0) (a1) (a2) (r9) (a3)
theorem t_s_X10_comes_48 {X : Cx} {res : Mem × Int32} {k48 : Mem → Nat → Int32 → Int32 → Nat → Int32 → Option (Mem × Int32)} (hX : OkX X cX10_comes RX10 6 139) (hn : Fit X shC nC) (hR : RetI X shC nC .int res) (hk48 : ∀ M x0 x1 x2 x4 x5, k48 M x0 x1 x2 x4 x5 = some res → GoN X shC nC 0 0 M 48 [some (.ref (X.B + x0)), some (.int (x1)), some (.int (x2)), none, some (.ref (X.B + x4)), some (.int (x5))] []) (M : Mem) (x0 : Nat) (x1 : Int32) (x2 : Int32) (x4 : Nat) (x5 : Int32) (hf : s_X10_comes_48 k48 M x0 x1 x2 x4 x5 = some res) : GoN X shC nC 0 0 M 48 [some (.ref (X.B + x0)), some (.int (x1)), some (.int (x2)), none, some (.ref (X.B + x4)), some (.int (x5))] [] := by
  refine r_iload hX e_X10_comes_48 rfl ?_
  refine r_aload_n (i := 0) hX e_X10_comes_50 rfl rfl ?_
  obtain ⟨g1, hf⟩ := gd_s hf
  obtain ⟨r2, hr2, hf⟩ := bd_s hf
  refine r_getR hX hn e_X10_comes_51 fl_10_19 rfl g1 hr2 ?_
  obtain ⟨g3, hf⟩ := gd_s hf
  refine r_getI hX hn e_X10_comes_54 fl_10_166 rfl g3 ?_
  refine r_icmp_ge hX e_X10_comes_57 (fun hc => ?_) (fun hc => ?_)
  · have hf := ite_t hf hc
    refine r_iconst hX e_X10_comes_83 ic_m1 ?_
    exact r_iret hX hR e_X10_comes_84 hf
  · have hf := ite_f hf hc
    refine r_aload hX e_X10_comes_60 rfl ?_
    obtain ⟨g4, hf⟩ := gd_s hf
    obtain ⟨r5, hr5, hf⟩ := bd_s hf
    refine r_getR hX hn e_X10_comes_62 fl_10_158 rfl g4 hr5 ?_
    refine r_iload_n (i := 1) hX e_X10_comes_65 rfl rfl ?_
    obtain ⟨g6, hf⟩ := gd_s hf
    obtain ⟨r7, hr7, hf⟩ := bd_s hf
    refine r_aald hX hn e_X10_comes_66 g6 (Nat.le_of_ble_eq_true rfl) rfl rfl rfl hr7 ?_
    refine r_iload hX e_X10_comes_67 rfl ?_
    obtain ⟨g8, hf⟩ := gd_s hf
    refine r_iald hX hn e_X10_comes_69 g8 ?_
    refine r_iload_n (i := 2) hX e_X10_comes_70 rfl rfl ?_
    refine r_icmp_ne hX e_X10_comes_71 (fun hc => ?_) (fun hc => ?_)
    · have hf := ite_f hf hc
      refine r_iinc (v := x5 + 1) hX e_X10_comes_77 rfl (ii_s ic_1) (Nat.le_of_ble_eq_true rfl) rfl ?_
      refine r_goto hX e_X10_comes_80 ?_
      exact GoN.weak (hk48 M (x0) (x1) (x2) (x4) ((x5 + 1)) hf) rfl (sb_s (sb_s (sb_s (sb_n (sb_s (sb_s (sb_z _)))))))
    · have hf := ite_t hf hc
      refine r_iload hX e_X10_comes_74 rfl ?_
      exact r_iret hX hR e_X10_comes_76 hf
theorem t_X10_comes_48 {X : Cx} {res : Mem × Int32}  (hX : OkX X cX10_comes RX10 6 139) (hn : Fit X shC nC) (hR : RetI X shC nC .int res)  : ∀ (n : Nat) (M : Mem) (x0 : Nat) (x1 : Int32) (x2 : Int32) (x4 : Nat) (x5 : Int32),  f_X10_comes_48  n M x0 x1 x2 x4 x5 = some res → GoN X shC nC 0 0 M 48 [some (.ref (X.B + x0)), some (.int (x1)), some (.int (x2)), none, some (.ref (X.B + x4)), some (.int (x5))] [] := by
  intro n
  induction n with
  | zero => intro M x0 x1 x2 x4 x5 hf; cases hf
  | succ n ih => intro M x0 x1 x2 x4 x5 hf; exact t_s_X10_comes_48 hX hn hR  ih M x0 x1 x2 x4 x5 hf
theorem t_X10_comes {l : Launch} {M : Mem} {a0 : Nat} {a1 a2 a3 : Int32} {res : Mem × Int32} (hf : f_X10_comes M a0 a1 a2 a3 = some res) : Ci l yX10_comes cX10_comes 6 (some .int) 6 139 shC nC (fun K B => [.ref (B + a0), .int a1, .int a2, .int a3]) M res := by
  refine met_i (own := RX10) (lo := fun K B => [some (.ref (B + a0)), some (.int a1), some (.int a2), some (.int a3), none, none]) (by decide +kernel) rfl shC_ok (fun _ _ => rfl) (fun _ _ => rfl) (fun _ _ => Nat.le_of_ble_eq_true rfl) (fun X hX hn hlx hR => ?_)
  refine r_aload_n (i := 0) hX e_X10_comes_0 rfl rfl ?_
  obtain ⟨g1, hf⟩ := gd_s hf
  obtain ⟨r2, hr2, hf⟩ := bd_s hf
  refine r_getR hX hn e_X10_comes_1 fl_10_19 rfl g1 hr2 ?_
  refine r_iload_n (i := 1) hX e_X10_comes_4 rfl rfl ?_
  obtain ⟨g3, hf⟩ := gd_s hf
  obtain ⟨v4, hv4, hf⟩ := bd_s hf
  refine r_cvi (As := fun K B => [.int (a1)]) hX hn (t_X4_hasStall hv4) e_X10_comes_5 cw_X4_hasStall cv_X4_hasStall lk_10_87 ⟨Nat.le_of_ble_eq_true rfl, Nat.le_of_ble_eq_true rfl⟩ (ci := 4) rfl rfl (Nat.le_of_ble_eq_true rfl) g3 rfl rfl (Nat.le_of_ble_eq_true rfl) ⟨Nat.zero_le _, Nat.zero_le _⟩ ?_
  refine r_if_eq hX e_X10_comes_8 (fun hc => ?_) (fun hc => ?_)
  · have hf := ite_t hf hc
    refine r_bipush hX e_X10_comes_33 bc_m2 ?_
    exact r_iret hX hR e_X10_comes_35 hf
  · have hf := ite_f hf hc
    refine r_aload_n (i := 0) hX e_X10_comes_11 rfl rfl ?_
    refine r_getR hX hn e_X10_comes_12 fl_10_19 rfl g1 hr2 ?_
    refine r_iload_n (i := 2) hX e_X10_comes_15 rfl rfl ?_
    obtain ⟨v5, hv5, hf⟩ := bd_s hf
    refine r_cvi (As := fun K B => [.int (a2)]) hX hn (t_X4_hasPlace hv5) e_X10_comes_16 cw_X4_hasPlace cv_X4_hasPlace lk_10_163 ⟨Nat.le_of_ble_eq_true rfl, Nat.le_of_ble_eq_true rfl⟩ (ci := 4) rfl rfl (Nat.le_of_ble_eq_true rfl) g3 rfl rfl (Nat.le_of_ble_eq_true rfl) ⟨Nat.zero_le _, Nat.zero_le _⟩ ?_
    refine r_if_eq hX e_X10_comes_19 (fun hc => ?_) (fun hc => ?_)
    · have hf := ite_t hf hc
      refine r_bipush hX e_X10_comes_33 bc_m2 ?_
      exact r_iret hX hR e_X10_comes_35 hf
    · have hf := ite_f hf hc
      refine r_aload_n (i := 0) hX e_X10_comes_22 rfl rfl ?_
      refine r_getR hX hn e_X10_comes_23 fl_10_19 rfl g1 hr2 ?_
      refine r_iload_n (i := 3) hX e_X10_comes_26 rfl rfl ?_
      obtain ⟨v6, hv6, hf⟩ := bd_s hf
      refine r_cvi (As := fun K B => [.int (a3)]) hX hn (t_X4_hasMinute hv6) e_X10_comes_27 cw_X4_hasMinute cv_X4_hasMinute lk_10_147 ⟨Nat.le_of_ble_eq_true rfl, Nat.le_of_ble_eq_true rfl⟩ (ci := 4) rfl rfl (Nat.le_of_ble_eq_true rfl) g3 rfl rfl (Nat.le_of_ble_eq_true rfl) ⟨Nat.zero_le _, Nat.zero_le _⟩ ?_
      refine r_if_ne hX e_X10_comes_30 (fun hc => ?_) (fun hc => ?_)
      · have hf := ite_f hf hc
        refine r_aload_n (i := 0) hX e_X10_comes_36 rfl rfl ?_
        obtain ⟨u7, hu7, hf⟩ := bd_s hf
        refine r_cvr (As := fun K B => []) hX hn (t_X10_toldHour hu7) e_X10_comes_37 cw_X10_toldHour cv_X10_toldHour lk_10_150 ⟨Nat.le_of_ble_eq_true rfl, Nat.le_of_ble_eq_true rfl⟩ (ci := 10) rfl rfl (Nat.le_of_ble_eq_true rfl) g1 rfl rfl (Nat.le_of_ble_eq_true rfl) ⟨Nat.zero_le _, Nat.zero_le _⟩ ?_
        obtain ⟨g8, hf⟩ := gd_s hf
        obtain ⟨r9, hr9, hf⟩ := bd_s hf
        refine r_getR hX hn e_X10_comes_40 fl_10_154 rfl g8 hr9 ?_
        refine r_astore hX e_X10_comes_43 (Nat.le_of_ble_eq_true rfl) rfl ?_
        refine r_iload_n (i := 3) hX e_X10_comes_45 rfl rfl ?_
        refine r_istore hX e_X10_comes_46 (Nat.le_of_ble_eq_true rfl) rfl ?_
        exact GoN.weak (t_X10_comes_48 hX hn hR FU u7.1 (a0) (a1) (a2) (r9) (a3) hf) rfl (sb_s (sb_s (sb_s (sb_n (sb_s (sb_s (sb_z _)))))))
      · have hf := ite_t hf hc
        refine r_bipush hX e_X10_comes_33 bc_m2 ?_
        exact r_iret hX hR e_X10_comes_35 hf
def s_X10_there_48 (k48 : Mem → Nat → Int32 → Int32 → Int32 → Nat → Int32 → Option (Mem × Int32)) (M : Mem) (x0 : Nat) (x1 : Int32) (x2 : Int32) (x3 : Int32) (x4 : Nat) (x5 : Int32) : Option (Mem × Int32) :=
  gd (oB shC x0 10) <| bd (gR M x0 1) fun r2 => gd (oB shC r2 4) <| if (gI M r2 4) ≤ x5 then some (M, (-1)) else bd (gR M r2 7) fun r4 => gd (aB shC r4 5 x5) <| bd (gR M r4 (x5 : Int32).toNatClampNeg) fun r6 => gd (oB shC r6 9) <| if (gI M r6 0) = x1 then gd (oB shC x4 2) <| bd (gR M x4 1) fun r9 => gd (aB shC r9 9 x5) <| bd (gR M r9 (x5 : Int32).toNatClampNeg) fun r11 => gd (aB shC r11 0 x3) <| if (gI M r11 (x3 : Int32).toNatClampNeg) = x2 then some (M, x5) else k48 M (x0) (x1) (x2) (x3) (x4) ((x5 + 1)) else k48 M (x0) (x1) (x2) (x3) (x4) ((x5 + 1))
def f_X10_there_48  : Nat → Mem → Nat → Int32 → Int32 → Int32 → Nat → Int32 → Option (Mem × Int32)
  | 0 => fun _ _ _ _ _ _ _ => none
  | n + 1 => fun y0 y1 y2 y3 y4 y5 y6 => s_X10_there_48  (f_X10_there_48  n) y0 y1 y2 y3 y4 y5 y6
def f_X10_there (M : Mem) (a0 : Nat) (a1 : Int32) (a2 : Int32) (a3 : Int32) : Option (Mem × Int32) :=
  gd (oB shC a0 10) <| bd (gR M a0 1) fun r2 => gd (oB shC r2 4) <| bd (f_X4_hasRing M r2 a1) fun v4 => if v4 = 0 then some (M, (-2)) else bd (f_X4_hasPlace M r2 a2) fun v5 => if v5 = 0 then some (M, (-2)) else bd (f_X4_hasMinute M r2 a3) fun v6 => if v6 = 0 then some (M, (-2)) else bd (f_X10_toldHour M a0) fun u7 => gd (oB shC u7.2 3) <| bd (gR u7.1 u7.2 0) fun r9 => f_X10_there_48 FU u7.1 (a0) (a1) (a2) (a3) (r9) (0)
theorem t_s_X10_there_48 {X : Cx} {res : Mem × Int32} {k48 : Mem → Nat → Int32 → Int32 → Int32 → Nat → Int32 → Option (Mem × Int32)} (hX : OkX X cX10_there RX10 6 139) (hn : Fit X shC nC) (hR : RetI X shC nC .int res) (hk48 : ∀ M x0 x1 x2 x3 x4 x5, k48 M x0 x1 x2 x3 x4 x5 = some res → GoN X shC nC 0 0 M 48 [some (.ref (X.B + x0)), some (.int (x1)), some (.int (x2)), some (.int (x3)), some (.ref (X.B + x4)), some (.int (x5))] []) (M : Mem) (x0 : Nat) (x1 : Int32) (x2 : Int32) (x3 : Int32) (x4 : Nat) (x5 : Int32) (hf : s_X10_there_48 k48 M x0 x1 x2 x3 x4 x5 = some res) : GoN X shC nC 0 0 M 48 [some (.ref (X.B + x0)), some (.int (x1)), some (.int (x2)), some (.int (x3)), some (.ref (X.B + x4)), some (.int (x5))] [] := by
  refine r_iload hX e_X10_there_48 rfl ?_
  refine r_aload_n (i := 0) hX e_X10_there_50 rfl rfl ?_
  obtain ⟨g1, hf⟩ := gd_s hf
  obtain ⟨r2, hr2, hf⟩ := bd_s hf
  refine r_getR hX hn e_X10_there_51 fl_10_19 rfl g1 hr2 ?_
  obtain ⟨g3, hf⟩ := gd_s hf
  refine r_getI hX hn e_X10_there_54 fl_10_172 rfl g3 ?_
  refine r_icmp_ge hX e_X10_there_57 (fun hc => ?_) (fun hc => ?_)
  · have hf := ite_t hf hc
    refine r_iconst hX e_X10_there_100 ic_m1 ?_
    exact r_iret hX hR e_X10_there_101 hf
  · have hf := ite_f hf hc
    refine r_aload_n (i := 0) hX e_X10_there_60 rfl rfl ?_
    refine r_getR hX hn e_X10_there_61 fl_10_19 rfl g1 hr2 ?_
    obtain ⟨r4, hr4, hf⟩ := bd_s hf
    refine r_getR hX hn e_X10_there_64 fl_10_91 rfl g3 hr4 ?_
    refine r_iload hX e_X10_there_67 rfl ?_
    obtain ⟨g5, hf⟩ := gd_s hf
    obtain ⟨r6, hr6, hf⟩ := bd_s hf
    refine r_aald hX hn e_X10_there_69 g5 (Nat.le_of_ble_eq_true rfl) rfl rfl rfl hr6 ?_
    obtain ⟨g7, hf⟩ := gd_s hf
    refine r_getI hX hn e_X10_there_70 fl_10_95 rfl g7 ?_
    refine r_iload_n (i := 1) hX e_X10_there_73 rfl rfl ?_
    refine r_icmp_ne hX e_X10_there_74 (fun hc => ?_) (fun hc => ?_)
    · have hf := ite_f hf hc
      refine r_iinc (v := x5 + 1) hX e_X10_there_94 rfl (ii_s ic_1) (Nat.le_of_ble_eq_true rfl) rfl ?_
      refine r_goto hX e_X10_there_97 ?_
      exact GoN.weak (hk48 M (x0) (x1) (x2) (x3) (x4) ((x5 + 1)) hf) rfl (sb_s (sb_s (sb_s (sb_s (sb_s (sb_s (sb_z _)))))))
    · have hf := ite_t hf hc
      refine r_aload hX e_X10_there_77 rfl ?_
      obtain ⟨g8, hf⟩ := gd_s hf
      obtain ⟨r9, hr9, hf⟩ := bd_s hf
      refine r_getR hX hn e_X10_there_79 fl_10_158 rfl g8 hr9 ?_
      refine r_iload hX e_X10_there_82 rfl ?_
      obtain ⟨g10, hf⟩ := gd_s hf
      obtain ⟨r11, hr11, hf⟩ := bd_s hf
      refine r_aald hX hn e_X10_there_84 g10 (Nat.le_of_ble_eq_true rfl) rfl rfl rfl hr11 ?_
      refine r_iload_n (i := 3) hX e_X10_there_85 rfl rfl ?_
      obtain ⟨g12, hf⟩ := gd_s hf
      refine r_iald hX hn e_X10_there_86 g12 ?_
      refine r_iload_n (i := 2) hX e_X10_there_87 rfl rfl ?_
      refine r_icmp_ne hX e_X10_there_88 (fun hc => ?_) (fun hc => ?_)
      · have hf := ite_f hf hc
        refine r_iinc (v := x5 + 1) hX e_X10_there_94 rfl (ii_s ic_1) (Nat.le_of_ble_eq_true rfl) rfl ?_
        refine r_goto hX e_X10_there_97 ?_
        exact GoN.weak (hk48 M (x0) (x1) (x2) (x3) (x4) ((x5 + 1)) hf) rfl (sb_s (sb_s (sb_s (sb_s (sb_s (sb_s (sb_z _)))))))
      · have hf := ite_t hf hc
        refine r_iload hX e_X10_there_91 rfl ?_
        exact r_iret hX hR e_X10_there_93 hf
theorem t_X10_there_48 {X : Cx} {res : Mem × Int32}  (hX : OkX X cX10_there RX10 6 139) (hn : Fit X shC nC) (hR : RetI X shC nC .int res)  : ∀ (n : Nat) (M : Mem) (x0 : Nat) (x1 : Int32) (x2 : Int32) (x3 : Int32) (x4 : Nat) (x5 : Int32),  f_X10_there_48  n M x0 x1 x2 x3 x4 x5 = some res → GoN X shC nC 0 0 M 48 [some (.ref (X.B + x0)), some (.int (x1)), some (.int (x2)), some (.int (x3)), some (.ref (X.B + x4)), some (.int (x5))] [] := by
  intro n
  induction n with
  | zero => intro M x0 x1 x2 x3 x4 x5 hf; cases hf
  | succ n ih => intro M x0 x1 x2 x3 x4 x5 hf; exact t_s_X10_there_48 hX hn hR  ih M x0 x1 x2 x3 x4 x5 hf
theorem t_X10_there {l : Launch} {M : Mem} {a0 : Nat} {a1 a2 a3 : Int32} {res : Mem × Int32} (hf : f_X10_there M a0 a1 a2 a3 = some res) : Ci l yX10_there cX10_there 6 (some .int) 6 139 shC nC (fun K B => [.ref (B + a0), .int a1, .int a2, .int a3]) M res := by
  refine met_i (own := RX10) (lo := fun K B => [some (.ref (B + a0)), some (.int a1), some (.int a2), some (.int a3), none, none]) (by decide +kernel) rfl shC_ok (fun _ _ => rfl) (fun _ _ => rfl) (fun _ _ => Nat.le_of_ble_eq_true rfl) (fun X hX hn hlx hR => ?_)
  refine r_aload_n (i := 0) hX e_X10_there_0 rfl rfl ?_
  obtain ⟨g1, hf⟩ := gd_s hf
  obtain ⟨r2, hr2, hf⟩ := bd_s hf
  refine r_getR hX hn e_X10_there_1 fl_10_19 rfl g1 hr2 ?_
  refine r_iload_n (i := 1) hX e_X10_there_4 rfl rfl ?_
  obtain ⟨g3, hf⟩ := gd_s hf
  obtain ⟨v4, hv4, hf⟩ := bd_s hf
  refine r_cvi (As := fun K B => [.int (a1)]) hX hn (t_X4_hasRing hv4) e_X10_there_5 cw_X4_hasRing cv_X4_hasRing lk_10_169 ⟨Nat.le_of_ble_eq_true rfl, Nat.le_of_ble_eq_true rfl⟩ (ci := 4) rfl rfl (Nat.le_of_ble_eq_true rfl) g3 rfl rfl (Nat.le_of_ble_eq_true rfl) ⟨Nat.zero_le _, Nat.zero_le _⟩ ?_
  refine r_if_eq hX e_X10_there_8 (fun hc => ?_) (fun hc => ?_)
  · have hf := ite_t hf hc
    refine r_bipush hX e_X10_there_33 bc_m2 ?_
    exact r_iret hX hR e_X10_there_35 hf
  · have hf := ite_f hf hc
    refine r_aload_n (i := 0) hX e_X10_there_11 rfl rfl ?_
    refine r_getR hX hn e_X10_there_12 fl_10_19 rfl g1 hr2 ?_
    refine r_iload_n (i := 2) hX e_X10_there_15 rfl rfl ?_
    obtain ⟨v5, hv5, hf⟩ := bd_s hf
    refine r_cvi (As := fun K B => [.int (a2)]) hX hn (t_X4_hasPlace hv5) e_X10_there_16 cw_X4_hasPlace cv_X4_hasPlace lk_10_163 ⟨Nat.le_of_ble_eq_true rfl, Nat.le_of_ble_eq_true rfl⟩ (ci := 4) rfl rfl (Nat.le_of_ble_eq_true rfl) g3 rfl rfl (Nat.le_of_ble_eq_true rfl) ⟨Nat.zero_le _, Nat.zero_le _⟩ ?_
    refine r_if_eq hX e_X10_there_19 (fun hc => ?_) (fun hc => ?_)
    · have hf := ite_t hf hc
      refine r_bipush hX e_X10_there_33 bc_m2 ?_
      exact r_iret hX hR e_X10_there_35 hf
    · have hf := ite_f hf hc
      refine r_aload_n (i := 0) hX e_X10_there_22 rfl rfl ?_
      refine r_getR hX hn e_X10_there_23 fl_10_19 rfl g1 hr2 ?_
      refine r_iload_n (i := 3) hX e_X10_there_26 rfl rfl ?_
      obtain ⟨v6, hv6, hf⟩ := bd_s hf
      refine r_cvi (As := fun K B => [.int (a3)]) hX hn (t_X4_hasMinute hv6) e_X10_there_27 cw_X4_hasMinute cv_X4_hasMinute lk_10_147 ⟨Nat.le_of_ble_eq_true rfl, Nat.le_of_ble_eq_true rfl⟩ (ci := 4) rfl rfl (Nat.le_of_ble_eq_true rfl) g3 rfl rfl (Nat.le_of_ble_eq_true rfl) ⟨Nat.zero_le _, Nat.zero_le _⟩ ?_
      refine r_if_ne hX e_X10_there_30 (fun hc => ?_) (fun hc => ?_)
      · have hf := ite_f hf hc
        refine r_aload_n (i := 0) hX e_X10_there_36 rfl rfl ?_
        obtain ⟨u7, hu7, hf⟩ := bd_s hf
        refine r_cvr (As := fun K B => []) hX hn (t_X10_toldHour hu7) e_X10_there_37 cw_X10_toldHour cv_X10_toldHour lk_10_150 ⟨Nat.le_of_ble_eq_true rfl, Nat.le_of_ble_eq_true rfl⟩ (ci := 10) rfl rfl (Nat.le_of_ble_eq_true rfl) g1 rfl rfl (Nat.le_of_ble_eq_true rfl) ⟨Nat.zero_le _, Nat.zero_le _⟩ ?_
        obtain ⟨g8, hf⟩ := gd_s hf
        obtain ⟨r9, hr9, hf⟩ := bd_s hf
        refine r_getR hX hn e_X10_there_40 fl_10_154 rfl g8 hr9 ?_
        refine r_astore hX e_X10_there_43 (Nat.le_of_ble_eq_true rfl) rfl ?_
        refine r_iconst hX e_X10_there_45 ic_0 ?_
        refine r_istore hX e_X10_there_46 (Nat.le_of_ble_eq_true rfl) rfl ?_
        exact GoN.weak (t_X10_there_48 hX hn hR FU u7.1 (a0) (a1) (a2) (a3) (r9) (0) hf) rfl (sb_s (sb_s (sb_s (sb_s (sb_s (sb_s (sb_z _)))))))
      · have hf := ite_t hf hc
        refine r_bipush hX e_X10_there_33 bc_m2 ?_
        exact r_iret hX hR e_X10_there_35 hf
def f_X10_areTwoStalls (M : Mem) (a0 : Nat) (a1 : Int32) (a2 : Int32) : Option (Int32) :=
  gd (oB shC a0 10) <| bd (gR M a0 1) fun r2 => gd (oB shC r2 4) <| bd (f_X4_hasStall M r2 a1) fun v4 => if v4 = 0 then some 0 else bd (f_X4_hasStall M r2 a2) fun v5 => if v5 = 0 then some 0 else if a1 = a2 then some 0 else some 1
theorem t_X10_areTwoStalls {l : Launch} {M : Mem} {a0 : Nat} {a1 a2 : Int32} {res : Int32} (hf : f_X10_areTwoStalls M a0 a1 a2 = some res) : Ci l yX10_areTwoStalls cX10_areTwoStalls 3 (some .boolean) 1 21 shC nC (fun K B => [.ref (B + a0), .int a1, .int a2]) M (M, res) := by
  refine met_i (own := RX10) (lo := fun K B => [some (.ref (B + a0)), some (.int a1), some (.int a2)]) (by decide +kernel) rfl shC_ok (fun _ _ => rfl) (fun _ _ => rfl) (fun _ _ => Nat.le_of_ble_eq_true rfl) (fun X hX hn hlx hR => ?_)
  refine r_aload_n (i := 0) hX e_X10_areTwoStalls_0 rfl rfl ?_
  obtain ⟨g1, hf⟩ := gd_s hf
  obtain ⟨r2, hr2, hf⟩ := bd_s hf
  refine r_getR hX hn e_X10_areTwoStalls_1 fl_10_19 rfl g1 hr2 ?_
  refine r_iload_n (i := 1) hX e_X10_areTwoStalls_4 rfl rfl ?_
  obtain ⟨g3, hf⟩ := gd_s hf
  obtain ⟨v4, hv4, hf⟩ := bd_s hf
  refine r_cvi (As := fun K B => [.int (a1)]) hX hn (t_X4_hasStall hv4) e_X10_areTwoStalls_5 cw_X4_hasStall cv_X4_hasStall lk_10_87 ⟨Nat.le_of_ble_eq_true rfl, Nat.le_of_ble_eq_true rfl⟩ (ci := 4) rfl rfl (Nat.le_of_ble_eq_true rfl) g3 rfl rfl (Nat.le_of_ble_eq_true rfl) ⟨Nat.zero_le _, Nat.zero_le _⟩ ?_
  refine r_if_eq hX e_X10_areTwoStalls_8 (fun hc => ?_) (fun hc => ?_)
  · have hf := ite_t hf hc
    refine r_iconst hX e_X10_areTwoStalls_31 ic_0 ?_
    exact r_zret hX hR rfl e_X10_areTwoStalls_32 (ro_s hf)
  · have hf := ite_f hf hc
    refine r_aload_n (i := 0) hX e_X10_areTwoStalls_11 rfl rfl ?_
    refine r_getR hX hn e_X10_areTwoStalls_12 fl_10_19 rfl g1 hr2 ?_
    refine r_iload_n (i := 2) hX e_X10_areTwoStalls_15 rfl rfl ?_
    obtain ⟨v5, hv5, hf⟩ := bd_s hf
    refine r_cvi (As := fun K B => [.int (a2)]) hX hn (t_X4_hasStall hv5) e_X10_areTwoStalls_16 cw_X4_hasStall cv_X4_hasStall lk_10_87 ⟨Nat.le_of_ble_eq_true rfl, Nat.le_of_ble_eq_true rfl⟩ (ci := 4) rfl rfl (Nat.le_of_ble_eq_true rfl) g3 rfl rfl (Nat.le_of_ble_eq_true rfl) ⟨Nat.zero_le _, Nat.zero_le _⟩ ?_
    refine r_if_eq hX e_X10_areTwoStalls_19 (fun hc => ?_) (fun hc => ?_)
    · have hf := ite_t hf hc
      refine r_iconst hX e_X10_areTwoStalls_31 ic_0 ?_
      exact r_zret hX hR rfl e_X10_areTwoStalls_32 (ro_s hf)
    · have hf := ite_f hf hc
      refine r_iload_n (i := 1) hX e_X10_areTwoStalls_22 rfl rfl ?_
      refine r_iload_n (i := 2) hX e_X10_areTwoStalls_23 rfl rfl ?_
      refine r_icmp_eq hX e_X10_areTwoStalls_24 (fun hc => ?_) (fun hc => ?_)
      · have hf := ite_t hf hc
        refine r_iconst hX e_X10_areTwoStalls_31 ic_0 ?_
        exact r_zret hX hR rfl e_X10_areTwoStalls_32 (ro_s hf)
      · have hf := ite_f hf hc
        refine r_iconst hX e_X10_areTwoStalls_27 ic_1 ?_
        refine r_goto hX e_X10_areTwoStalls_28 ?_
        exact r_zret hX hR rfl e_X10_areTwoStalls_32 (ro_s hf)
def s_X10_face_35 (k35 : Mem → Nat → Int32 → Int32 → Nat → Int32 → Option (Mem × Int32)) (M : Mem) (x0 : Nat) (x1 : Int32) (x2 : Int32) (x4 : Nat) (x5 : Int32) : Option (Mem × Int32) :=
  gd (oB shC x0 10) <| bd (gR M x0 1) fun r2 => gd (oB shC r2 4) <| if (gI M r2 1) ≤ x5 then some (M, (-1)) else gd (oB shC x4 2) <| bd (gR M x4 1) fun r5 => gd (aB shC r5 9 x1) <| bd (gR M r5 (x1 : Int32).toNatClampNeg) fun r7 => gd (aB shC r7 0 x5) <| gd (aB shC r5 9 x2) <| bd (gR M r5 (x2 : Int32).toNatClampNeg) fun r10 => gd (aB shC r10 0 x5) <| if (gI M r7 (x5 : Int32).toNatClampNeg) = (gI M r10 (x5 : Int32).toNatClampNeg) then some (M, x5) else k35 M (x0) (x1) (x2) (x4) ((x5 + 1))
def f_X10_face_35  : Nat → Mem → Nat → Int32 → Int32 → Nat → Int32 → Option (Mem × Int32)
  | 0 => fun _ _ _ _ _ _ => none
  | n + 1 => fun y0 y1 y2 y3 y4 y5 => s_X10_face_35  (f_X10_face_35  n) y0 y1 y2 y3 y4 y5
def f_X10_face (M : Mem) (a0 : Nat) (a1 : Int32) (a2 : Int32) (a3 : Int32) : Option (Mem × Int32) :=
  gd (oB shC a0 10) <| bd (f_X10_areTwoStalls M a0 a1 a2) fun v2 => if v2 = 0 then some (M, (-2)) else bd (gR M a0 1) fun r3 => gd (oB shC r3 4) <| bd (f_X4_hasMinute M r3 a3) fun v5 => if v5 = 0 then some (M, (-2)) else bd (f_X10_toldHour M a0) fun u6 => gd (oB shC u6.2 3) <| bd (gR u6.1 u6.2 0) fun r8 => f_X10_face_35 FU u6.1 (a0) (a1) (a2) (r8) (a3)
theorem t_s_X10_face_35 {X : Cx} {res : Mem × Int32} {k35 : Mem → Nat → Int32 → Int32 → Nat → Int32 → Option (Mem × Int32)} (hX : OkX X cX10_face RX10 6 139) (hn : Fit X shC nC) (hR : RetI X shC nC .int res) (hk35 : ∀ M x0 x1 x2 x4 x5, k35 M x0 x1 x2 x4 x5 = some res → GoN X shC nC 0 0 M 35 [some (.ref (X.B + x0)), some (.int (x1)), some (.int (x2)), none, some (.ref (X.B + x4)), some (.int (x5))] []) (M : Mem) (x0 : Nat) (x1 : Int32) (x2 : Int32) (x4 : Nat) (x5 : Int32) (hf : s_X10_face_35 k35 M x0 x1 x2 x4 x5 = some res) : GoN X shC nC 0 0 M 35 [some (.ref (X.B + x0)), some (.int (x1)), some (.int (x2)), none, some (.ref (X.B + x4)), some (.int (x5))] [] := by
  refine r_iload hX e_X10_face_35 rfl ?_
  refine r_aload_n (i := 0) hX e_X10_face_37 rfl rfl ?_
  obtain ⟨g1, hf⟩ := gd_s hf
  obtain ⟨r2, hr2, hf⟩ := bd_s hf
  refine r_getR hX hn e_X10_face_38 fl_10_19 rfl g1 hr2 ?_
  obtain ⟨g3, hf⟩ := gd_s hf
  refine r_getI hX hn e_X10_face_41 fl_10_166 rfl g3 ?_
  refine r_icmp_ge hX e_X10_face_44 (fun hc => ?_) (fun hc => ?_)
  · have hf := ite_t hf hc
    refine r_iconst hX e_X10_face_79 ic_m1 ?_
    exact r_iret hX hR e_X10_face_80 hf
  · have hf := ite_f hf hc
    refine r_aload hX e_X10_face_47 rfl ?_
    obtain ⟨g4, hf⟩ := gd_s hf
    obtain ⟨r5, hr5, hf⟩ := bd_s hf
    refine r_getR hX hn e_X10_face_49 fl_10_158 rfl g4 hr5 ?_
    refine r_iload_n (i := 1) hX e_X10_face_52 rfl rfl ?_
    obtain ⟨g6, hf⟩ := gd_s hf
    obtain ⟨r7, hr7, hf⟩ := bd_s hf
    refine r_aald hX hn e_X10_face_53 g6 (Nat.le_of_ble_eq_true rfl) rfl rfl rfl hr7 ?_
    refine r_iload hX e_X10_face_54 rfl ?_
    obtain ⟨g8, hf⟩ := gd_s hf
    refine r_iald hX hn e_X10_face_56 g8 ?_
    refine r_aload hX e_X10_face_57 rfl ?_
    refine r_getR hX hn e_X10_face_59 fl_10_158 rfl g4 hr5 ?_
    refine r_iload_n (i := 2) hX e_X10_face_62 rfl rfl ?_
    obtain ⟨g9, hf⟩ := gd_s hf
    obtain ⟨r10, hr10, hf⟩ := bd_s hf
    refine r_aald hX hn e_X10_face_63 g9 (Nat.le_of_ble_eq_true rfl) rfl rfl rfl hr10 ?_
    refine r_iload hX e_X10_face_64 rfl ?_
    obtain ⟨g11, hf⟩ := gd_s hf
    refine r_iald hX hn e_X10_face_66 g11 ?_
    refine r_icmp_ne hX e_X10_face_67 (fun hc => ?_) (fun hc => ?_)
    · have hf := ite_f hf hc
      refine r_iinc (v := x5 + 1) hX e_X10_face_73 rfl (ii_s ic_1) (Nat.le_of_ble_eq_true rfl) rfl ?_
      refine r_goto hX e_X10_face_76 ?_
      exact GoN.weak (hk35 M (x0) (x1) (x2) (x4) ((x5 + 1)) hf) rfl (sb_s (sb_s (sb_s (sb_n (sb_s (sb_s (sb_z _)))))))
    · have hf := ite_t hf hc
      refine r_iload hX e_X10_face_70 rfl ?_
      exact r_iret hX hR e_X10_face_72 hf
theorem t_X10_face_35 {X : Cx} {res : Mem × Int32}  (hX : OkX X cX10_face RX10 6 139) (hn : Fit X shC nC) (hR : RetI X shC nC .int res)  : ∀ (n : Nat) (M : Mem) (x0 : Nat) (x1 : Int32) (x2 : Int32) (x4 : Nat) (x5 : Int32),  f_X10_face_35  n M x0 x1 x2 x4 x5 = some res → GoN X shC nC 0 0 M 35 [some (.ref (X.B + x0)), some (.int (x1)), some (.int (x2)), none, some (.ref (X.B + x4)), some (.int (x5))] [] := by
  intro n
  induction n with
  | zero => intro M x0 x1 x2 x4 x5 hf; cases hf
  | succ n ih => intro M x0 x1 x2 x4 x5 hf; exact t_s_X10_face_35 hX hn hR  ih M x0 x1 x2 x4 x5 hf
theorem t_X10_face {l : Launch} {M : Mem} {a0 : Nat} {a1 a2 a3 : Int32} {res : Mem × Int32} (hf : f_X10_face M a0 a1 a2 a3 = some res) : Ci l yX10_face cX10_face 6 (some .int) 6 139 shC nC (fun K B => [.ref (B + a0), .int a1, .int a2, .int a3]) M res := by
  refine met_i (own := RX10) (lo := fun K B => [some (.ref (B + a0)), some (.int a1), some (.int a2), some (.int a3), none, none]) (by decide +kernel) rfl shC_ok (fun _ _ => rfl) (fun _ _ => rfl) (fun _ _ => Nat.le_of_ble_eq_true rfl) (fun X hX hn hlx hR => ?_)
  refine r_aload_n (i := 0) hX e_X10_face_0 rfl rfl ?_
  refine r_iload_n (i := 1) hX e_X10_face_1 rfl rfl ?_
  refine r_iload_n (i := 2) hX e_X10_face_2 rfl rfl ?_
  obtain ⟨g1, hf⟩ := gd_s hf
  obtain ⟨v2, hv2, hf⟩ := bd_s hf
  refine r_cvi (As := fun K B => [.int (a1), .int (a2)]) hX hn (t_X10_areTwoStalls hv2) e_X10_face_3 cw_X10_areTwoStalls cv_X10_areTwoStalls lk_10_175 ⟨Nat.le_of_ble_eq_true rfl, Nat.le_of_ble_eq_true rfl⟩ (ci := 10) rfl rfl (Nat.le_of_ble_eq_true rfl) g1 rfl rfl (Nat.le_of_ble_eq_true rfl) ⟨Nat.zero_le _, Nat.zero_le _⟩ ?_
  refine r_if_eq hX e_X10_face_6 (fun hc => ?_) (fun hc => ?_)
  · have hf := ite_t hf hc
    refine r_bipush hX e_X10_face_20 bc_m2 ?_
    exact r_iret hX hR e_X10_face_22 hf
  · have hf := ite_f hf hc
    refine r_aload_n (i := 0) hX e_X10_face_9 rfl rfl ?_
    obtain ⟨r3, hr3, hf⟩ := bd_s hf
    refine r_getR hX hn e_X10_face_10 fl_10_19 rfl g1 hr3 ?_
    refine r_iload_n (i := 3) hX e_X10_face_13 rfl rfl ?_
    obtain ⟨g4, hf⟩ := gd_s hf
    obtain ⟨v5, hv5, hf⟩ := bd_s hf
    refine r_cvi (As := fun K B => [.int (a3)]) hX hn (t_X4_hasMinute hv5) e_X10_face_14 cw_X4_hasMinute cv_X4_hasMinute lk_10_147 ⟨Nat.le_of_ble_eq_true rfl, Nat.le_of_ble_eq_true rfl⟩ (ci := 4) rfl rfl (Nat.le_of_ble_eq_true rfl) g4 rfl rfl (Nat.le_of_ble_eq_true rfl) ⟨Nat.zero_le _, Nat.zero_le _⟩ ?_
    refine r_if_ne hX e_X10_face_17 (fun hc => ?_) (fun hc => ?_)
    · have hf := ite_f hf hc
      refine r_aload_n (i := 0) hX e_X10_face_23 rfl rfl ?_
      obtain ⟨u6, hu6, hf⟩ := bd_s hf
      refine r_cvr (As := fun K B => []) hX hn (t_X10_toldHour hu6) e_X10_face_24 cw_X10_toldHour cv_X10_toldHour lk_10_150 ⟨Nat.le_of_ble_eq_true rfl, Nat.le_of_ble_eq_true rfl⟩ (ci := 10) rfl rfl (Nat.le_of_ble_eq_true rfl) g1 rfl rfl (Nat.le_of_ble_eq_true rfl) ⟨Nat.zero_le _, Nat.zero_le _⟩ ?_
      obtain ⟨g7, hf⟩ := gd_s hf
      obtain ⟨r8, hr8, hf⟩ := bd_s hf
      refine r_getR hX hn e_X10_face_27 fl_10_154 rfl g7 hr8 ?_
      refine r_astore hX e_X10_face_30 (Nat.le_of_ble_eq_true rfl) rfl ?_
      refine r_iload_n (i := 3) hX e_X10_face_32 rfl rfl ?_
      refine r_istore hX e_X10_face_33 (Nat.le_of_ble_eq_true rfl) rfl ?_
      exact GoN.weak (t_X10_face_35 hX hn hR FU u6.1 (a0) (a1) (a2) (r8) (a3) hf) rfl (sb_s (sb_s (sb_s (sb_n (sb_s (sb_s (sb_z _)))))))
    · have hf := ite_t hf hc
      refine r_bipush hX e_X10_face_20 bc_m2 ?_
      exact r_iret hX hR e_X10_face_22 hf
def s_X10_often_26 (k26 : Mem → Nat → Int32 → Int32 → Nat → Int32 → Int32 → Option (Mem × Int32)) (M : Mem) (x0 : Nat) (x1 : Int32) (x2 : Int32) (x3 : Nat) (x4 : Int32) (x5 : Int32) : Option (Mem × Int32) :=
  gd (oB shC x0 10) <| bd (gR M x0 1) fun r2 => gd (oB shC r2 4) <| if (gI M r2 1) ≤ x5 then some (M, x4) else gd (oB shC x3 2) <| bd (gR M x3 1) fun r5 => gd (aB shC r5 9 x1) <| bd (gR M r5 (x1 : Int32).toNatClampNeg) fun r7 => gd (aB shC r7 0 x5) <| gd (aB shC r5 9 x2) <| bd (gR M r5 (x2 : Int32).toNatClampNeg) fun r10 => gd (aB shC r10 0 x5) <| if (gI M r7 (x5 : Int32).toNatClampNeg) = (gI M r10 (x5 : Int32).toNatClampNeg) then k26 M (x0) (x1) (x2) (x3) ((x4 + 1)) ((x5 + 1)) else k26 M (x0) (x1) (x2) (x3) (x4) ((x5 + 1))
def f_X10_often_26  : Nat → Mem → Nat → Int32 → Int32 → Nat → Int32 → Int32 → Option (Mem × Int32)
  | 0 => fun _ _ _ _ _ _ _ => none
  | n + 1 => fun y0 y1 y2 y3 y4 y5 y6 => s_X10_often_26  (f_X10_often_26  n) y0 y1 y2 y3 y4 y5 y6
def f_X10_often (M : Mem) (a0 : Nat) (a1 : Int32) (a2 : Int32) : Option (Mem × Int32) :=
  gd (oB shC a0 10) <| bd (f_X10_areTwoStalls M a0 a1 a2) fun v2 => if v2 = 0 then some (M, (-2)) else bd (f_X10_toldHour M a0) fun u3 => gd (oB shC u3.2 3) <| bd (gR u3.1 u3.2 0) fun r5 => f_X10_often_26 FU u3.1 (a0) (a1) (a2) (r5) (0) (0)
theorem t_s_X10_often_26 {X : Cx} {res : Mem × Int32} {k26 : Mem → Nat → Int32 → Int32 → Nat → Int32 → Int32 → Option (Mem × Int32)} (hX : OkX X cX10_often RX10 6 139) (hn : Fit X shC nC) (hR : RetI X shC nC .int res) (hk26 : ∀ M x0 x1 x2 x3 x4 x5, k26 M x0 x1 x2 x3 x4 x5 = some res → GoN X shC nC 0 0 M 26 [some (.ref (X.B + x0)), some (.int (x1)), some (.int (x2)), some (.ref (X.B + x3)), some (.int (x4)), some (.int (x5))] []) (M : Mem) (x0 : Nat) (x1 : Int32) (x2 : Int32) (x3 : Nat) (x4 : Int32) (x5 : Int32) (hf : s_X10_often_26 k26 M x0 x1 x2 x3 x4 x5 = some res) : GoN X shC nC 0 0 M 26 [some (.ref (X.B + x0)), some (.int (x1)), some (.int (x2)), some (.ref (X.B + x3)), some (.int (x4)), some (.int (x5))] [] := by
  refine r_iload hX e_X10_often_26 rfl ?_
  refine r_aload_n (i := 0) hX e_X10_often_28 rfl rfl ?_
  obtain ⟨g1, hf⟩ := gd_s hf
  obtain ⟨r2, hr2, hf⟩ := bd_s hf
  refine r_getR hX hn e_X10_often_29 fl_10_19 rfl g1 hr2 ?_
  obtain ⟨g3, hf⟩ := gd_s hf
  refine r_getI hX hn e_X10_often_32 fl_10_166 rfl g3 ?_
  refine r_icmp_ge hX e_X10_often_35 (fun hc => ?_) (fun hc => ?_)
  · have hf := ite_t hf hc
    refine r_iload hX e_X10_often_68 rfl ?_
    exact r_iret hX hR e_X10_often_70 hf
  · have hf := ite_f hf hc
    refine r_aload_n (i := 3) hX e_X10_often_38 rfl rfl ?_
    obtain ⟨g4, hf⟩ := gd_s hf
    obtain ⟨r5, hr5, hf⟩ := bd_s hf
    refine r_getR hX hn e_X10_often_39 fl_10_158 rfl g4 hr5 ?_
    refine r_iload_n (i := 1) hX e_X10_often_42 rfl rfl ?_
    obtain ⟨g6, hf⟩ := gd_s hf
    obtain ⟨r7, hr7, hf⟩ := bd_s hf
    refine r_aald hX hn e_X10_often_43 g6 (Nat.le_of_ble_eq_true rfl) rfl rfl rfl hr7 ?_
    refine r_iload hX e_X10_often_44 rfl ?_
    obtain ⟨g8, hf⟩ := gd_s hf
    refine r_iald hX hn e_X10_often_46 g8 ?_
    refine r_aload_n (i := 3) hX e_X10_often_47 rfl rfl ?_
    refine r_getR hX hn e_X10_often_48 fl_10_158 rfl g4 hr5 ?_
    refine r_iload_n (i := 2) hX e_X10_often_51 rfl rfl ?_
    obtain ⟨g9, hf⟩ := gd_s hf
    obtain ⟨r10, hr10, hf⟩ := bd_s hf
    refine r_aald hX hn e_X10_often_52 g9 (Nat.le_of_ble_eq_true rfl) rfl rfl rfl hr10 ?_
    refine r_iload hX e_X10_often_53 rfl ?_
    obtain ⟨g11, hf⟩ := gd_s hf
    refine r_iald hX hn e_X10_often_55 g11 ?_
    refine r_icmp_ne hX e_X10_often_56 (fun hc => ?_) (fun hc => ?_)
    · have hf := ite_f hf hc
      refine r_iinc (v := x5 + 1) hX e_X10_often_62 rfl (ii_s ic_1) (Nat.le_of_ble_eq_true rfl) rfl ?_
      refine r_goto hX e_X10_often_65 ?_
      exact GoN.weak (hk26 M (x0) (x1) (x2) (x3) (x4) ((x5 + 1)) hf) rfl (sb_s (sb_s (sb_s (sb_s (sb_s (sb_s (sb_z _)))))))
    · have hf := ite_t hf hc
      refine r_iinc (v := x4 + 1) hX e_X10_often_59 rfl (ii_s ic_1) (Nat.le_of_ble_eq_true rfl) rfl ?_
      refine r_iinc (v := x5 + 1) hX e_X10_often_62 rfl (ii_s ic_1) (Nat.le_of_ble_eq_true rfl) rfl ?_
      refine r_goto hX e_X10_often_65 ?_
      exact GoN.weak (hk26 M (x0) (x1) (x2) (x3) ((x4 + 1)) ((x5 + 1)) hf) rfl (sb_s (sb_s (sb_s (sb_s (sb_s (sb_s (sb_z _)))))))
theorem t_X10_often_26 {X : Cx} {res : Mem × Int32}  (hX : OkX X cX10_often RX10 6 139) (hn : Fit X shC nC) (hR : RetI X shC nC .int res)  : ∀ (n : Nat) (M : Mem) (x0 : Nat) (x1 : Int32) (x2 : Int32) (x3 : Nat) (x4 : Int32) (x5 : Int32),  f_X10_often_26  n M x0 x1 x2 x3 x4 x5 = some res → GoN X shC nC 0 0 M 26 [some (.ref (X.B + x0)), some (.int (x1)), some (.int (x2)), some (.ref (X.B + x3)), some (.int (x4)), some (.int (x5))] [] := by
  intro n
  induction n with
  | zero => intro M x0 x1 x2 x3 x4 x5 hf; cases hf
  | succ n ih => intro M x0 x1 x2 x3 x4 x5 hf; exact t_s_X10_often_26 hX hn hR  ih M x0 x1 x2 x3 x4 x5 hf
theorem t_X10_often {l : Launch} {M : Mem} {a0 : Nat} {a1 a2 : Int32} {res : Mem × Int32} (hf : f_X10_often M a0 a1 a2 = some res) : Ci l yX10_often cX10_often 6 (some .int) 6 139 shC nC (fun K B => [.ref (B + a0), .int a1, .int a2]) M res := by
  refine met_i (own := RX10) (lo := fun K B => [some (.ref (B + a0)), some (.int a1), some (.int a2), none, none, none]) (by decide +kernel) rfl shC_ok (fun _ _ => rfl) (fun _ _ => rfl) (fun _ _ => Nat.le_of_ble_eq_true rfl) (fun X hX hn hlx hR => ?_)
  refine r_aload_n (i := 0) hX e_X10_often_0 rfl rfl ?_
  refine r_iload_n (i := 1) hX e_X10_often_1 rfl rfl ?_
  refine r_iload_n (i := 2) hX e_X10_often_2 rfl rfl ?_
  obtain ⟨g1, hf⟩ := gd_s hf
  obtain ⟨v2, hv2, hf⟩ := bd_s hf
  refine r_cvi (As := fun K B => [.int (a1), .int (a2)]) hX hn (t_X10_areTwoStalls hv2) e_X10_often_3 cw_X10_areTwoStalls cv_X10_areTwoStalls lk_10_175 ⟨Nat.le_of_ble_eq_true rfl, Nat.le_of_ble_eq_true rfl⟩ (ci := 10) rfl rfl (Nat.le_of_ble_eq_true rfl) g1 rfl rfl (Nat.le_of_ble_eq_true rfl) ⟨Nat.zero_le _, Nat.zero_le _⟩ ?_
  refine r_if_ne hX e_X10_often_6 (fun hc => ?_) (fun hc => ?_)
  · have hf := ite_f hf hc
    refine r_aload_n (i := 0) hX e_X10_often_12 rfl rfl ?_
    obtain ⟨u3, hu3, hf⟩ := bd_s hf
    refine r_cvr (As := fun K B => []) hX hn (t_X10_toldHour hu3) e_X10_often_13 cw_X10_toldHour cv_X10_toldHour lk_10_150 ⟨Nat.le_of_ble_eq_true rfl, Nat.le_of_ble_eq_true rfl⟩ (ci := 10) rfl rfl (Nat.le_of_ble_eq_true rfl) g1 rfl rfl (Nat.le_of_ble_eq_true rfl) ⟨Nat.zero_le _, Nat.zero_le _⟩ ?_
    obtain ⟨g4, hf⟩ := gd_s hf
    obtain ⟨r5, hr5, hf⟩ := bd_s hf
    refine r_getR hX hn e_X10_often_16 fl_10_154 rfl g4 hr5 ?_
    refine r_astore_n (i := 3) hX e_X10_often_19 rfl (Nat.le_of_ble_eq_true rfl) rfl ?_
    refine r_iconst hX e_X10_often_20 ic_0 ?_
    refine r_istore hX e_X10_often_21 (Nat.le_of_ble_eq_true rfl) rfl ?_
    refine r_iconst hX e_X10_often_23 ic_0 ?_
    refine r_istore hX e_X10_often_24 (Nat.le_of_ble_eq_true rfl) rfl ?_
    exact GoN.weak (t_X10_often_26 hX hn hR FU u3.1 (a0) (a1) (a2) (r5) (0) (0) hf) rfl (sb_s (sb_s (sb_s (sb_s (sb_s (sb_s (sb_z _)))))))
  · have hf := ite_t hf hc
    refine r_bipush hX e_X10_often_9 bc_m2 ?_
    exact r_iret hX hR e_X10_often_11 hf
def f_X10_asks (M : Mem) (a0 : Nat) (a1 : Int32) (a2 : Int32) : Option (Mem × Int32) :=
  gd (oB shC a0 10) <| bd (gR M a0 1) fun r2 => gd (oB shC r2 4) <| bd (f_X4_hasStall M r2 a1) fun v4 => if v4 = 0 then some (M, (-2)) else bd (f_X4_hasMinute M r2 a2) fun v5 => if v5 = 0 then some (M, (-2)) else bd (f_X10_toldHour M a0) fun u6 => gd (oB shC u6.2 3) <| bd (gR u6.1 u6.2 1) fun r8 => gd (aB shC r8 9 a1) <| bd (gR u6.1 r8 (a1 : Int32).toNatClampNeg) fun r10 => gd (aB shC r10 0 a2) <| some (u6.1, (gI u6.1 r10 (a2 : Int32).toNatClampNeg))
theorem t_X10_asks {l : Launch} {M : Mem} {a0 : Nat} {a1 a2 : Int32} {res : Mem × Int32} (hf : f_X10_asks M a0 a1 a2 = some res) : Ci l yX10_asks cX10_asks 3 (some .int) 6 139 shC nC (fun K B => [.ref (B + a0), .int a1, .int a2]) M res := by
  refine met_i (own := RX10) (lo := fun K B => [some (.ref (B + a0)), some (.int a1), some (.int a2)]) (by decide +kernel) rfl shC_ok (fun _ _ => rfl) (fun _ _ => rfl) (fun _ _ => Nat.le_of_ble_eq_true rfl) (fun X hX hn hlx hR => ?_)
  refine r_aload_n (i := 0) hX e_X10_asks_0 rfl rfl ?_
  obtain ⟨g1, hf⟩ := gd_s hf
  obtain ⟨r2, hr2, hf⟩ := bd_s hf
  refine r_getR hX hn e_X10_asks_1 fl_10_19 rfl g1 hr2 ?_
  refine r_iload_n (i := 1) hX e_X10_asks_4 rfl rfl ?_
  obtain ⟨g3, hf⟩ := gd_s hf
  obtain ⟨v4, hv4, hf⟩ := bd_s hf
  refine r_cvi (As := fun K B => [.int (a1)]) hX hn (t_X4_hasStall hv4) e_X10_asks_5 cw_X4_hasStall cv_X4_hasStall lk_10_87 ⟨Nat.le_of_ble_eq_true rfl, Nat.le_of_ble_eq_true rfl⟩ (ci := 4) rfl rfl (Nat.le_of_ble_eq_true rfl) g3 rfl rfl (Nat.le_of_ble_eq_true rfl) ⟨Nat.zero_le _, Nat.zero_le _⟩ ?_
  refine r_if_eq hX e_X10_asks_8 (fun hc => ?_) (fun hc => ?_)
  · have hf := ite_t hf hc
    refine r_bipush hX e_X10_asks_22 bc_m2 ?_
    exact r_iret hX hR e_X10_asks_24 hf
  · have hf := ite_f hf hc
    refine r_aload_n (i := 0) hX e_X10_asks_11 rfl rfl ?_
    refine r_getR hX hn e_X10_asks_12 fl_10_19 rfl g1 hr2 ?_
    refine r_iload_n (i := 2) hX e_X10_asks_15 rfl rfl ?_
    obtain ⟨v5, hv5, hf⟩ := bd_s hf
    refine r_cvi (As := fun K B => [.int (a2)]) hX hn (t_X4_hasMinute hv5) e_X10_asks_16 cw_X4_hasMinute cv_X4_hasMinute lk_10_147 ⟨Nat.le_of_ble_eq_true rfl, Nat.le_of_ble_eq_true rfl⟩ (ci := 4) rfl rfl (Nat.le_of_ble_eq_true rfl) g3 rfl rfl (Nat.le_of_ble_eq_true rfl) ⟨Nat.zero_le _, Nat.zero_le _⟩ ?_
    refine r_if_ne hX e_X10_asks_19 (fun hc => ?_) (fun hc => ?_)
    · have hf := ite_f hf hc
      refine r_aload_n (i := 0) hX e_X10_asks_25 rfl rfl ?_
      obtain ⟨u6, hu6, hf⟩ := bd_s hf
      refine r_cvr (As := fun K B => []) hX hn (t_X10_toldHour hu6) e_X10_asks_26 cw_X10_toldHour cv_X10_toldHour lk_10_150 ⟨Nat.le_of_ble_eq_true rfl, Nat.le_of_ble_eq_true rfl⟩ (ci := 10) rfl rfl (Nat.le_of_ble_eq_true rfl) g1 rfl rfl (Nat.le_of_ble_eq_true rfl) ⟨Nat.zero_le _, Nat.zero_le _⟩ ?_
      obtain ⟨g7, hf⟩ := gd_s hf
      obtain ⟨r8, hr8, hf⟩ := bd_s hf
      refine r_getR hX hn e_X10_asks_29 fl_10_179 rfl g7 hr8 ?_
      refine r_iload_n (i := 1) hX e_X10_asks_32 rfl rfl ?_
      obtain ⟨g9, hf⟩ := gd_s hf
      obtain ⟨r10, hr10, hf⟩ := bd_s hf
      refine r_aald hX hn e_X10_asks_33 g9 (Nat.le_of_ble_eq_true rfl) rfl rfl rfl hr10 ?_
      refine r_iload_n (i := 2) hX e_X10_asks_34 rfl rfl ?_
      obtain ⟨g11, hf⟩ := gd_s hf
      refine r_iald hX hn e_X10_asks_35 g11 ?_
      exact r_iret hX hR e_X10_asks_36 hf
    · have hf := ite_t hf hc
      refine r_bipush hX e_X10_asks_22 bc_m2 ?_
      exact r_iret hX hR e_X10_asks_24 hf
def f_X10_has (M : Mem) (a0 : Nat) (a1 : Int32) (a2 : Int32) : Option (Mem × Int32) :=
  gd (oB shC a0 10) <| bd (gR M a0 1) fun r2 => gd (oB shC r2 4) <| bd (f_X4_hasStall M r2 a1) fun v4 => if v4 = 0 then some (M, (-2)) else bd (f_X4_hasMinute M r2 a2) fun v5 => if v5 = 0 then some (M, (-2)) else bd (f_X10_toldHour M a0) fun u6 => gd (oB shC u6.2 3) <| bd (gR u6.1 u6.2 2) fun r8 => gd (aB shC r8 9 a1) <| bd (gR u6.1 r8 (a1 : Int32).toNatClampNeg) fun r10 => gd (aB shC r10 0 a2) <| some (u6.1, (gI u6.1 r10 (a2 : Int32).toNatClampNeg))
theorem t_X10_has {l : Launch} {M : Mem} {a0 : Nat} {a1 a2 : Int32} {res : Mem × Int32} (hf : f_X10_has M a0 a1 a2 = some res) : Ci l yX10_has cX10_has 3 (some .int) 6 139 shC nC (fun K B => [.ref (B + a0), .int a1, .int a2]) M res := by
  refine met_i (own := RX10) (lo := fun K B => [some (.ref (B + a0)), some (.int a1), some (.int a2)]) (by decide +kernel) rfl shC_ok (fun _ _ => rfl) (fun _ _ => rfl) (fun _ _ => Nat.le_of_ble_eq_true rfl) (fun X hX hn hlx hR => ?_)
  refine r_aload_n (i := 0) hX e_X10_has_0 rfl rfl ?_
  obtain ⟨g1, hf⟩ := gd_s hf
  obtain ⟨r2, hr2, hf⟩ := bd_s hf
  refine r_getR hX hn e_X10_has_1 fl_10_19 rfl g1 hr2 ?_
  refine r_iload_n (i := 1) hX e_X10_has_4 rfl rfl ?_
  obtain ⟨g3, hf⟩ := gd_s hf
  obtain ⟨v4, hv4, hf⟩ := bd_s hf
  refine r_cvi (As := fun K B => [.int (a1)]) hX hn (t_X4_hasStall hv4) e_X10_has_5 cw_X4_hasStall cv_X4_hasStall lk_10_87 ⟨Nat.le_of_ble_eq_true rfl, Nat.le_of_ble_eq_true rfl⟩ (ci := 4) rfl rfl (Nat.le_of_ble_eq_true rfl) g3 rfl rfl (Nat.le_of_ble_eq_true rfl) ⟨Nat.zero_le _, Nat.zero_le _⟩ ?_
  refine r_if_eq hX e_X10_has_8 (fun hc => ?_) (fun hc => ?_)
  · have hf := ite_t hf hc
    refine r_bipush hX e_X10_has_22 bc_m2 ?_
    exact r_iret hX hR e_X10_has_24 hf
  · have hf := ite_f hf hc
    refine r_aload_n (i := 0) hX e_X10_has_11 rfl rfl ?_
    refine r_getR hX hn e_X10_has_12 fl_10_19 rfl g1 hr2 ?_
    refine r_iload_n (i := 2) hX e_X10_has_15 rfl rfl ?_
    obtain ⟨v5, hv5, hf⟩ := bd_s hf
    refine r_cvi (As := fun K B => [.int (a2)]) hX hn (t_X4_hasMinute hv5) e_X10_has_16 cw_X4_hasMinute cv_X4_hasMinute lk_10_147 ⟨Nat.le_of_ble_eq_true rfl, Nat.le_of_ble_eq_true rfl⟩ (ci := 4) rfl rfl (Nat.le_of_ble_eq_true rfl) g3 rfl rfl (Nat.le_of_ble_eq_true rfl) ⟨Nat.zero_le _, Nat.zero_le _⟩ ?_
    refine r_if_ne hX e_X10_has_19 (fun hc => ?_) (fun hc => ?_)
    · have hf := ite_f hf hc
      refine r_aload_n (i := 0) hX e_X10_has_25 rfl rfl ?_
      obtain ⟨u6, hu6, hf⟩ := bd_s hf
      refine r_cvr (As := fun K B => []) hX hn (t_X10_toldHour hu6) e_X10_has_26 cw_X10_toldHour cv_X10_toldHour lk_10_150 ⟨Nat.le_of_ble_eq_true rfl, Nat.le_of_ble_eq_true rfl⟩ (ci := 10) rfl rfl (Nat.le_of_ble_eq_true rfl) g1 rfl rfl (Nat.le_of_ble_eq_true rfl) ⟨Nat.zero_le _, Nat.zero_le _⟩ ?_
      obtain ⟨g7, hf⟩ := gd_s hf
      obtain ⟨r8, hr8, hf⟩ := bd_s hf
      refine r_getR hX hn e_X10_has_29 fl_10_182 rfl g7 hr8 ?_
      refine r_iload_n (i := 1) hX e_X10_has_32 rfl rfl ?_
      obtain ⟨g9, hf⟩ := gd_s hf
      obtain ⟨r10, hr10, hf⟩ := bd_s hf
      refine r_aald hX hn e_X10_has_33 g9 (Nat.le_of_ble_eq_true rfl) rfl rfl rfl hr10 ?_
      refine r_iload_n (i := 2) hX e_X10_has_34 rfl rfl ?_
      obtain ⟨g11, hf⟩ := gd_s hf
      refine r_iald hX hn e_X10_has_35 g11 ?_
      exact r_iret hX hR e_X10_has_36 hf
    · have hf := ite_t hf hc
      refine r_bipush hX e_X10_has_22 bc_m2 ?_
      exact r_iret hX hR e_X10_has_24 hf
def f_X10_sold (M : Mem) (a0 : Nat) (a1 : Int32) (a2 : Int32) : Option (Mem × Int32) :=
  gd (oB shC a0 10) <| bd (gR M a0 1) fun r2 => gd (oB shC r2 4) <| bd (f_X4_hasStall M r2 a1) fun v4 => if v4 = 0 then some (M, (-2)) else if a2 = 0 then bd (f_X10_toldHour M a0) fun u5 => gd (oB shC u5.2 3) <| bd (f_X3_salesAt u5.1 u5.2 a1) fun v7 => some (u5.1, v7) else if a2 = 1 then bd (f_X10_toldHour M a0) fun u8 => gd (oB shC u8.2 3) <| bd (f_X3_takenAt u8.1 u8.2 a1) fun v10 => some (u8.1, v10) else if a2 = 2 then bd (f_X10_toldHour M a0) fun u11 => gd (oB shC u11.2 3) <| bd (f_X3_firstMinuteAt u11.1 u11.2 a1) fun v13 => some (u11.1, v13) else some (M, (-2))
theorem t_X10_sold {l : Launch} {M : Mem} {a0 : Nat} {a1 a2 : Int32} {res : Mem × Int32} (hf : f_X10_sold M a0 a1 a2 = some res) : Ci l yX10_sold cX10_sold 3 (some .int) 6 139 shC nC (fun K B => [.ref (B + a0), .int a1, .int a2]) M res := by
  refine met_i (own := RX10) (lo := fun K B => [some (.ref (B + a0)), some (.int a1), some (.int a2)]) (by decide +kernel) rfl shC_ok (fun _ _ => rfl) (fun _ _ => rfl) (fun _ _ => Nat.le_of_ble_eq_true rfl) (fun X hX hn hlx hR => ?_)
  refine r_aload_n (i := 0) hX e_X10_sold_0 rfl rfl ?_
  obtain ⟨g1, hf⟩ := gd_s hf
  obtain ⟨r2, hr2, hf⟩ := bd_s hf
  refine r_getR hX hn e_X10_sold_1 fl_10_19 rfl g1 hr2 ?_
  refine r_iload_n (i := 1) hX e_X10_sold_4 rfl rfl ?_
  obtain ⟨g3, hf⟩ := gd_s hf
  obtain ⟨v4, hv4, hf⟩ := bd_s hf
  refine r_cvi (As := fun K B => [.int (a1)]) hX hn (t_X4_hasStall hv4) e_X10_sold_5 cw_X4_hasStall cv_X4_hasStall lk_10_87 ⟨Nat.le_of_ble_eq_true rfl, Nat.le_of_ble_eq_true rfl⟩ (ci := 4) rfl rfl (Nat.le_of_ble_eq_true rfl) g3 rfl rfl (Nat.le_of_ble_eq_true rfl) ⟨Nat.zero_le _, Nat.zero_le _⟩ ?_
  refine r_if_ne hX e_X10_sold_8 (fun hc => ?_) (fun hc => ?_)
  · have hf := ite_f hf hc
    refine r_iload_n (i := 2) hX e_X10_sold_14 rfl rfl ?_
    by_cases hs0 : a2 = 0
    · have hf := ite_t hf hs0
      refine r_tabIn (tgt := 40) hX e_X10_sold_15 (by rw [hs0]; decide) (by rw [hs0]; decide) (off := 25) (by rw [hs0]; decide) (by decide) ?_
      refine r_aload_n (i := 0) hX e_X10_sold_40 rfl rfl ?_
      obtain ⟨u5, hu5, hf⟩ := bd_s hf
      refine r_cvr (As := fun K B => []) hX hn (t_X10_toldHour hu5) e_X10_sold_41 cw_X10_toldHour cv_X10_toldHour lk_10_150 ⟨Nat.le_of_ble_eq_true rfl, Nat.le_of_ble_eq_true rfl⟩ (ci := 10) rfl rfl (Nat.le_of_ble_eq_true rfl) g1 rfl rfl (Nat.le_of_ble_eq_true rfl) ⟨Nat.zero_le _, Nat.zero_le _⟩ ?_
      refine r_iload_n (i := 1) hX e_X10_sold_44 rfl rfl ?_
      obtain ⟨g6, hf⟩ := gd_s hf
      obtain ⟨v7, hv7, hf⟩ := bd_s hf
      refine r_cvi (As := fun K B => [.int (a1)]) hX hn (t_X3_salesAt hv7) e_X10_sold_45 cw_X3_salesAt cv_X3_salesAt lk_10_185 ⟨Nat.le_of_ble_eq_true rfl, Nat.le_of_ble_eq_true rfl⟩ (ci := 3) rfl rfl (Nat.le_of_ble_eq_true rfl) g6 rfl rfl (Nat.le_of_ble_eq_true rfl) ⟨Nat.zero_le _, Nat.zero_le _⟩ ?_
      exact r_iret hX hR e_X10_sold_48 hf
    have hf := ite_f hf hs0
    by_cases hs1 : a2 = 1
    · have hf := ite_t hf hs1
      refine r_tabIn (tgt := 49) hX e_X10_sold_15 (by rw [hs1]; decide) (by rw [hs1]; decide) (off := 34) (by rw [hs1]; decide) (by decide) ?_
      refine r_aload_n (i := 0) hX e_X10_sold_49 rfl rfl ?_
      obtain ⟨u8, hu8, hf⟩ := bd_s hf
      refine r_cvr (As := fun K B => []) hX hn (t_X10_toldHour hu8) e_X10_sold_50 cw_X10_toldHour cv_X10_toldHour lk_10_150 ⟨Nat.le_of_ble_eq_true rfl, Nat.le_of_ble_eq_true rfl⟩ (ci := 10) rfl rfl (Nat.le_of_ble_eq_true rfl) g1 rfl rfl (Nat.le_of_ble_eq_true rfl) ⟨Nat.zero_le _, Nat.zero_le _⟩ ?_
      refine r_iload_n (i := 1) hX e_X10_sold_53 rfl rfl ?_
      obtain ⟨g9, hf⟩ := gd_s hf
      obtain ⟨v10, hv10, hf⟩ := bd_s hf
      refine r_cvi (As := fun K B => [.int (a1)]) hX hn (t_X3_takenAt hv10) e_X10_sold_54 cw_X3_takenAt cv_X3_takenAt lk_10_189 ⟨Nat.le_of_ble_eq_true rfl, Nat.le_of_ble_eq_true rfl⟩ (ci := 3) rfl rfl (Nat.le_of_ble_eq_true rfl) g9 rfl rfl (Nat.le_of_ble_eq_true rfl) ⟨Nat.zero_le _, Nat.zero_le _⟩ ?_
      exact r_iret hX hR e_X10_sold_57 hf
    have hf := ite_f hf hs1
    by_cases hs2 : a2 = 2
    · have hf := ite_t hf hs2
      refine r_tabIn (tgt := 58) hX e_X10_sold_15 (by rw [hs2]; decide) (by rw [hs2]; decide) (off := 43) (by rw [hs2]; decide) (by decide) ?_
      refine r_aload_n (i := 0) hX e_X10_sold_58 rfl rfl ?_
      obtain ⟨u11, hu11, hf⟩ := bd_s hf
      refine r_cvr (As := fun K B => []) hX hn (t_X10_toldHour hu11) e_X10_sold_59 cw_X10_toldHour cv_X10_toldHour lk_10_150 ⟨Nat.le_of_ble_eq_true rfl, Nat.le_of_ble_eq_true rfl⟩ (ci := 10) rfl rfl (Nat.le_of_ble_eq_true rfl) g1 rfl rfl (Nat.le_of_ble_eq_true rfl) ⟨Nat.zero_le _, Nat.zero_le _⟩ ?_
      refine r_iload_n (i := 1) hX e_X10_sold_62 rfl rfl ?_
      obtain ⟨g12, hf⟩ := gd_s hf
      obtain ⟨v13, hv13, hf⟩ := bd_s hf
      refine r_cvi (As := fun K B => [.int (a1)]) hX hn (t_X3_firstMinuteAt hv13) e_X10_sold_63 cw_X3_firstMinuteAt cv_X3_firstMinuteAt lk_10_192 ⟨Nat.le_of_ble_eq_true rfl, Nat.le_of_ble_eq_true rfl⟩ (ci := 3) rfl rfl (Nat.le_of_ble_eq_true rfl) g12 rfl rfl (Nat.le_of_ble_eq_true rfl) ⟨Nat.zero_le _, Nat.zero_le _⟩ ?_
      exact r_iret hX hR e_X10_sold_66 hf
    have hf := ite_f hf hs2
    refine r_tabOut (tgt := 67) hX e_X10_sold_15 ?_ (by decide) ?_
    · have z0 : a2.toInt ≠ 0 := i32_ne hs0 (by decide); have z1 : a2.toInt ≠ 1 := i32_ne hs1 (by decide); have z2 : a2.toInt ≠ 2 := i32_ne hs2 (by decide); omega
    refine r_bipush hX e_X10_sold_67 bc_m2 ?_
    exact r_iret hX hR e_X10_sold_69 hf
  · have hf := ite_t hf hc
    refine r_bipush hX e_X10_sold_11 bc_m2 ?_
    exact r_iret hX hR e_X10_sold_13 hf
def f_X10_bought (M : Mem) (a0 : Nat) (a1 : Int32) (a2 : Int32) : Option (Mem × Int32) :=
  gd (oB shC a0 10) <| bd (gR M a0 1) fun r2 => gd (oB shC r2 4) <| bd (f_X4_hasBuyer M r2 a1) fun v4 => if v4 = 0 then some (M, (-2)) else if a2 = 0 then bd (f_X10_toldHour M a0) fun u5 => gd (oB shC u5.2 3) <| bd (f_X3_salesTo u5.1 u5.2 a1) fun v7 => some (u5.1, v7) else if a2 = 1 then bd (f_X10_toldHour M a0) fun u8 => gd (oB shC u8.2 3) <| bd (f_X3_spentBy u8.1 u8.2 a1) fun v10 => some (u8.1, v10) else if a2 = 2 then bd (f_X10_toldHour M a0) fun u11 => gd (oB shC u11.2 3) <| bd (f_X3_lackOf u11.1 u11.2 a1) fun v13 => some (u11.1, v13) else if a2 = 3 then bd (f_X10_toldHour M a0) fun u14 => gd (oB shC u14.2 3) <| bd (gR u14.1 u14.2 9) fun r16 => gd (aB shC r16 0 a1) <| some (u14.1, (gI u14.1 r16 (a1 : Int32).toNatClampNeg)) else some (M, (-2))
theorem t_X10_bought {l : Launch} {M : Mem} {a0 : Nat} {a1 a2 : Int32} {res : Mem × Int32} (hf : f_X10_bought M a0 a1 a2 = some res) : Ci l yX10_bought cX10_bought 3 (some .int) 6 139 shC nC (fun K B => [.ref (B + a0), .int a1, .int a2]) M res := by
  refine met_i (own := RX10) (lo := fun K B => [some (.ref (B + a0)), some (.int a1), some (.int a2)]) (by decide +kernel) rfl shC_ok (fun _ _ => rfl) (fun _ _ => rfl) (fun _ _ => Nat.le_of_ble_eq_true rfl) (fun X hX hn hlx hR => ?_)
  refine r_aload_n (i := 0) hX e_X10_bought_0 rfl rfl ?_
  obtain ⟨g1, hf⟩ := gd_s hf
  obtain ⟨r2, hr2, hf⟩ := bd_s hf
  refine r_getR hX hn e_X10_bought_1 fl_10_19 rfl g1 hr2 ?_
  refine r_iload_n (i := 1) hX e_X10_bought_4 rfl rfl ?_
  obtain ⟨g3, hf⟩ := gd_s hf
  obtain ⟨v4, hv4, hf⟩ := bd_s hf
  refine r_cvi (As := fun K B => [.int (a1)]) hX hn (t_X4_hasBuyer hv4) e_X10_bought_5 cw_X4_hasBuyer cv_X4_hasBuyer lk_10_118 ⟨Nat.le_of_ble_eq_true rfl, Nat.le_of_ble_eq_true rfl⟩ (ci := 4) rfl rfl (Nat.le_of_ble_eq_true rfl) g3 rfl rfl (Nat.le_of_ble_eq_true rfl) ⟨Nat.zero_le _, Nat.zero_le _⟩ ?_
  refine r_if_ne hX e_X10_bought_8 (fun hc => ?_) (fun hc => ?_)
  · have hf := ite_f hf hc
    refine r_iload_n (i := 2) hX e_X10_bought_14 rfl rfl ?_
    by_cases hs0 : a2 = 0
    · have hf := ite_t hf hs0
      refine r_tabIn (tgt := 44) hX e_X10_bought_15 (by rw [hs0]; decide) (by rw [hs0]; decide) (off := 29) (by rw [hs0]; decide) (by decide) ?_
      refine r_aload_n (i := 0) hX e_X10_bought_44 rfl rfl ?_
      obtain ⟨u5, hu5, hf⟩ := bd_s hf
      refine r_cvr (As := fun K B => []) hX hn (t_X10_toldHour hu5) e_X10_bought_45 cw_X10_toldHour cv_X10_toldHour lk_10_150 ⟨Nat.le_of_ble_eq_true rfl, Nat.le_of_ble_eq_true rfl⟩ (ci := 10) rfl rfl (Nat.le_of_ble_eq_true rfl) g1 rfl rfl (Nat.le_of_ble_eq_true rfl) ⟨Nat.zero_le _, Nat.zero_le _⟩ ?_
      refine r_iload_n (i := 1) hX e_X10_bought_48 rfl rfl ?_
      obtain ⟨g6, hf⟩ := gd_s hf
      obtain ⟨v7, hv7, hf⟩ := bd_s hf
      refine r_cvi (As := fun K B => [.int (a1)]) hX hn (t_X3_salesTo hv7) e_X10_bought_49 cw_X3_salesTo cv_X3_salesTo lk_10_195 ⟨Nat.le_of_ble_eq_true rfl, Nat.le_of_ble_eq_true rfl⟩ (ci := 3) rfl rfl (Nat.le_of_ble_eq_true rfl) g6 rfl rfl (Nat.le_of_ble_eq_true rfl) ⟨Nat.zero_le _, Nat.zero_le _⟩ ?_
      exact r_iret hX hR e_X10_bought_52 hf
    have hf := ite_f hf hs0
    by_cases hs1 : a2 = 1
    · have hf := ite_t hf hs1
      refine r_tabIn (tgt := 53) hX e_X10_bought_15 (by rw [hs1]; decide) (by rw [hs1]; decide) (off := 38) (by rw [hs1]; decide) (by decide) ?_
      refine r_aload_n (i := 0) hX e_X10_bought_53 rfl rfl ?_
      obtain ⟨u8, hu8, hf⟩ := bd_s hf
      refine r_cvr (As := fun K B => []) hX hn (t_X10_toldHour hu8) e_X10_bought_54 cw_X10_toldHour cv_X10_toldHour lk_10_150 ⟨Nat.le_of_ble_eq_true rfl, Nat.le_of_ble_eq_true rfl⟩ (ci := 10) rfl rfl (Nat.le_of_ble_eq_true rfl) g1 rfl rfl (Nat.le_of_ble_eq_true rfl) ⟨Nat.zero_le _, Nat.zero_le _⟩ ?_
      refine r_iload_n (i := 1) hX e_X10_bought_57 rfl rfl ?_
      obtain ⟨g9, hf⟩ := gd_s hf
      obtain ⟨v10, hv10, hf⟩ := bd_s hf
      refine r_cvi (As := fun K B => [.int (a1)]) hX hn (t_X3_spentBy hv10) e_X10_bought_58 cw_X3_spentBy cv_X3_spentBy lk_10_198 ⟨Nat.le_of_ble_eq_true rfl, Nat.le_of_ble_eq_true rfl⟩ (ci := 3) rfl rfl (Nat.le_of_ble_eq_true rfl) g9 rfl rfl (Nat.le_of_ble_eq_true rfl) ⟨Nat.zero_le _, Nat.zero_le _⟩ ?_
      exact r_iret hX hR e_X10_bought_61 hf
    have hf := ite_f hf hs1
    by_cases hs2 : a2 = 2
    · have hf := ite_t hf hs2
      refine r_tabIn (tgt := 62) hX e_X10_bought_15 (by rw [hs2]; decide) (by rw [hs2]; decide) (off := 47) (by rw [hs2]; decide) (by decide) ?_
      refine r_aload_n (i := 0) hX e_X10_bought_62 rfl rfl ?_
      obtain ⟨u11, hu11, hf⟩ := bd_s hf
      refine r_cvr (As := fun K B => []) hX hn (t_X10_toldHour hu11) e_X10_bought_63 cw_X10_toldHour cv_X10_toldHour lk_10_150 ⟨Nat.le_of_ble_eq_true rfl, Nat.le_of_ble_eq_true rfl⟩ (ci := 10) rfl rfl (Nat.le_of_ble_eq_true rfl) g1 rfl rfl (Nat.le_of_ble_eq_true rfl) ⟨Nat.zero_le _, Nat.zero_le _⟩ ?_
      refine r_iload_n (i := 1) hX e_X10_bought_66 rfl rfl ?_
      obtain ⟨g12, hf⟩ := gd_s hf
      obtain ⟨v13, hv13, hf⟩ := bd_s hf
      refine r_cvi (As := fun K B => [.int (a1)]) hX hn (t_X3_lackOf hv13) e_X10_bought_67 cw_X3_lackOf cv_X3_lackOf lk_10_201 ⟨Nat.le_of_ble_eq_true rfl, Nat.le_of_ble_eq_true rfl⟩ (ci := 3) rfl rfl (Nat.le_of_ble_eq_true rfl) g12 rfl rfl (Nat.le_of_ble_eq_true rfl) ⟨Nat.zero_le _, Nat.zero_le _⟩ ?_
      exact r_iret hX hR e_X10_bought_70 hf
    have hf := ite_f hf hs2
    by_cases hs3 : a2 = 3
    · have hf := ite_t hf hs3
      refine r_tabIn (tgt := 71) hX e_X10_bought_15 (by rw [hs3]; decide) (by rw [hs3]; decide) (off := 56) (by rw [hs3]; decide) (by decide) ?_
      refine r_aload_n (i := 0) hX e_X10_bought_71 rfl rfl ?_
      obtain ⟨u14, hu14, hf⟩ := bd_s hf
      refine r_cvr (As := fun K B => []) hX hn (t_X10_toldHour hu14) e_X10_bought_72 cw_X10_toldHour cv_X10_toldHour lk_10_150 ⟨Nat.le_of_ble_eq_true rfl, Nat.le_of_ble_eq_true rfl⟩ (ci := 10) rfl rfl (Nat.le_of_ble_eq_true rfl) g1 rfl rfl (Nat.le_of_ble_eq_true rfl) ⟨Nat.zero_le _, Nat.zero_le _⟩ ?_
      obtain ⟨g15, hf⟩ := gd_s hf
      obtain ⟨r16, hr16, hf⟩ := bd_s hf
      refine r_getR hX hn e_X10_bought_75 fl_10_204 rfl g15 hr16 ?_
      refine r_iload_n (i := 1) hX e_X10_bought_78 rfl rfl ?_
      obtain ⟨g17, hf⟩ := gd_s hf
      refine r_iald hX hn e_X10_bought_79 g17 ?_
      exact r_iret hX hR e_X10_bought_80 hf
    have hf := ite_f hf hs3
    refine r_tabOut (tgt := 81) hX e_X10_bought_15 ?_ (by decide) ?_
    · have z0 : a2.toInt ≠ 0 := i32_ne hs0 (by decide); have z1 : a2.toInt ≠ 1 := i32_ne hs1 (by decide); have z2 : a2.toInt ≠ 2 := i32_ne hs2 (by decide); have z3 : a2.toInt ≠ 3 := i32_ne hs3 (by decide); omega
    refine r_bipush hX e_X10_bought_81 bc_m2 ?_
    exact r_iret hX hR e_X10_bought_83 hf
  · have hf := ite_t hf hc
    refine r_bipush hX e_X10_bought_11 bc_m2 ?_
    exact r_iret hX hR e_X10_bought_13 hf
def f_X10_coins (M : Mem) (a0 : Nat) (a1 : Int32) (a2 : Int32) : Option (Mem × Int32) :=
  gd (oB shC a0 10) <| bd (gR M a0 1) fun r2 => gd (oB shC r2 4) <| bd (f_X4_hasBuyer M r2 a1) fun v4 => if v4 = 0 then some (M, (-2)) else bd (f_X4_hasMinute M r2 a2) fun v5 => if v5 = 0 then some (M, (-2)) else bd (f_X10_toldHour M a0) fun u6 => gd (oB shC u6.2 3) <| bd (gR u6.1 u6.2 3) fun r8 => gd (aB shC r8 9 a1) <| bd (gR u6.1 r8 (a1 : Int32).toNatClampNeg) fun r10 => gd (aB shC r10 0 a2) <| some (u6.1, (gI u6.1 r10 (a2 : Int32).toNatClampNeg))
theorem t_X10_coins {l : Launch} {M : Mem} {a0 : Nat} {a1 a2 : Int32} {res : Mem × Int32} (hf : f_X10_coins M a0 a1 a2 = some res) : Ci l yX10_coins cX10_coins 3 (some .int) 6 139 shC nC (fun K B => [.ref (B + a0), .int a1, .int a2]) M res := by
  refine met_i (own := RX10) (lo := fun K B => [some (.ref (B + a0)), some (.int a1), some (.int a2)]) (by decide +kernel) rfl shC_ok (fun _ _ => rfl) (fun _ _ => rfl) (fun _ _ => Nat.le_of_ble_eq_true rfl) (fun X hX hn hlx hR => ?_)
  refine r_aload_n (i := 0) hX e_X10_coins_0 rfl rfl ?_
  obtain ⟨g1, hf⟩ := gd_s hf
  obtain ⟨r2, hr2, hf⟩ := bd_s hf
  refine r_getR hX hn e_X10_coins_1 fl_10_19 rfl g1 hr2 ?_
  refine r_iload_n (i := 1) hX e_X10_coins_4 rfl rfl ?_
  obtain ⟨g3, hf⟩ := gd_s hf
  obtain ⟨v4, hv4, hf⟩ := bd_s hf
  refine r_cvi (As := fun K B => [.int (a1)]) hX hn (t_X4_hasBuyer hv4) e_X10_coins_5 cw_X4_hasBuyer cv_X4_hasBuyer lk_10_118 ⟨Nat.le_of_ble_eq_true rfl, Nat.le_of_ble_eq_true rfl⟩ (ci := 4) rfl rfl (Nat.le_of_ble_eq_true rfl) g3 rfl rfl (Nat.le_of_ble_eq_true rfl) ⟨Nat.zero_le _, Nat.zero_le _⟩ ?_
  refine r_if_eq hX e_X10_coins_8 (fun hc => ?_) (fun hc => ?_)
  · have hf := ite_t hf hc
    refine r_bipush hX e_X10_coins_22 bc_m2 ?_
    exact r_iret hX hR e_X10_coins_24 hf
  · have hf := ite_f hf hc
    refine r_aload_n (i := 0) hX e_X10_coins_11 rfl rfl ?_
    refine r_getR hX hn e_X10_coins_12 fl_10_19 rfl g1 hr2 ?_
    refine r_iload_n (i := 2) hX e_X10_coins_15 rfl rfl ?_
    obtain ⟨v5, hv5, hf⟩ := bd_s hf
    refine r_cvi (As := fun K B => [.int (a2)]) hX hn (t_X4_hasMinute hv5) e_X10_coins_16 cw_X4_hasMinute cv_X4_hasMinute lk_10_147 ⟨Nat.le_of_ble_eq_true rfl, Nat.le_of_ble_eq_true rfl⟩ (ci := 4) rfl rfl (Nat.le_of_ble_eq_true rfl) g3 rfl rfl (Nat.le_of_ble_eq_true rfl) ⟨Nat.zero_le _, Nat.zero_le _⟩ ?_
    refine r_if_ne hX e_X10_coins_19 (fun hc => ?_) (fun hc => ?_)
    · have hf := ite_f hf hc
      refine r_aload_n (i := 0) hX e_X10_coins_25 rfl rfl ?_
      obtain ⟨u6, hu6, hf⟩ := bd_s hf
      refine r_cvr (As := fun K B => []) hX hn (t_X10_toldHour hu6) e_X10_coins_26 cw_X10_toldHour cv_X10_toldHour lk_10_150 ⟨Nat.le_of_ble_eq_true rfl, Nat.le_of_ble_eq_true rfl⟩ (ci := 10) rfl rfl (Nat.le_of_ble_eq_true rfl) g1 rfl rfl (Nat.le_of_ble_eq_true rfl) ⟨Nat.zero_le _, Nat.zero_le _⟩ ?_
      obtain ⟨g7, hf⟩ := gd_s hf
      obtain ⟨r8, hr8, hf⟩ := bd_s hf
      refine r_getR hX hn e_X10_coins_29 fl_10_207 rfl g7 hr8 ?_
      refine r_iload_n (i := 1) hX e_X10_coins_32 rfl rfl ?_
      obtain ⟨g9, hf⟩ := gd_s hf
      obtain ⟨r10, hr10, hf⟩ := bd_s hf
      refine r_aald hX hn e_X10_coins_33 g9 (Nat.le_of_ble_eq_true rfl) rfl rfl rfl hr10 ?_
      refine r_iload_n (i := 2) hX e_X10_coins_34 rfl rfl ?_
      obtain ⟨g11, hf⟩ := gd_s hf
      refine r_iald hX hn e_X10_coins_35 g11 ?_
      exact r_iret hX hR e_X10_coins_36 hf
    · have hf := ite_t hf hc
      refine r_bipush hX e_X10_coins_22 bc_m2 ?_
      exact r_iret hX hR e_X10_coins_24 hf
def f_X10_sale (M : Mem) (a0 : Nat) (a1 : Int32) (a2 : Int32) : Option (Mem × Int32) :=
  gd (oB shC a0 10) <| bd (gR M a0 1) fun r2 => gd (oB shC r2 4) <| bd (f_X4_isTold M r2) fun v4 => if v4 = 0 then some (M, (-2)) else if a2 < 0 then some (M, (-2)) else if a2 ≤ 3 then bd (f_X10_toldHour M a0) fun u5 => if a1 < 0 then some (u5.1, (-1)) else gd (oB shC u5.2 3) <| if a1 < (gI u5.1 u5.2 4) then if a2 = 0 then bd (gR u5.1 u5.2 5) fun r7 => gd (aB shC r7 0 a1) <| some (u5.1, (gI u5.1 r7 (a1 : Int32).toNatClampNeg)) else if a2 = 1 then bd (gR u5.1 u5.2 6) fun r9 => gd (aB shC r9 0 a1) <| some (u5.1, (gI u5.1 r9 (a1 : Int32).toNatClampNeg)) else if a2 = 2 then bd (gR u5.1 u5.2 7) fun r11 => gd (aB shC r11 0 a1) <| some (u5.1, (gI u5.1 r11 (a1 : Int32).toNatClampNeg)) else bd (gR u5.1 u5.2 8) fun r13 => gd (aB shC r13 0 a1) <| some (u5.1, (gI u5.1 r13 (a1 : Int32).toNatClampNeg)) else some (u5.1, (-1)) else some (M, (-2))
theorem t_X10_sale {l : Launch} {M : Mem} {a0 : Nat} {a1 a2 : Int32} {res : Mem × Int32} (hf : f_X10_sale M a0 a1 a2 = some res) : Ci l yX10_sale cX10_sale 4 (some .int) 6 139 shC nC (fun K B => [.ref (B + a0), .int a1, .int a2]) M res := by
  refine met_i (own := RX10) (lo := fun K B => [some (.ref (B + a0)), some (.int a1), some (.int a2), none]) (by decide +kernel) rfl shC_ok (fun _ _ => rfl) (fun _ _ => rfl) (fun _ _ => Nat.le_of_ble_eq_true rfl) (fun X hX hn hlx hR => ?_)
  refine r_aload_n (i := 0) hX e_X10_sale_0 rfl rfl ?_
  obtain ⟨g1, hf⟩ := gd_s hf
  obtain ⟨r2, hr2, hf⟩ := bd_s hf
  refine r_getR hX hn e_X10_sale_1 fl_10_19 rfl g1 hr2 ?_
  obtain ⟨g3, hf⟩ := gd_s hf
  obtain ⟨v4, hv4, hf⟩ := bd_s hf
  refine r_cvi (As := fun K B => []) hX hn (t_X4_isTold hv4) e_X10_sale_4 cw_X4_isTold cv_X4_isTold lk_10_210 ⟨Nat.le_of_ble_eq_true rfl, Nat.le_of_ble_eq_true rfl⟩ (ci := 4) rfl rfl (Nat.le_of_ble_eq_true rfl) g3 rfl rfl (Nat.le_of_ble_eq_true rfl) ⟨Nat.zero_le _, Nat.zero_le _⟩ ?_
  refine r_if_eq hX e_X10_sale_7 (fun hc => ?_) (fun hc => ?_)
  · have hf := ite_t hf hc
    refine r_bipush hX e_X10_sale_19 bc_m2 ?_
    exact r_iret hX hR e_X10_sale_21 hf
  · have hf := ite_f hf hc
    refine r_iload_n (i := 2) hX e_X10_sale_10 rfl rfl ?_
    refine r_if_lt hX e_X10_sale_11 (fun hc => ?_) (fun hc => ?_)
    · have hf := ite_t hf hc
      refine r_bipush hX e_X10_sale_19 bc_m2 ?_
      exact r_iret hX hR e_X10_sale_21 hf
    · have hf := ite_f hf hc
      refine r_iload_n (i := 2) hX e_X10_sale_14 rfl rfl ?_
      refine r_iconst hX e_X10_sale_15 ic_3 ?_
      refine r_icmp_le hX e_X10_sale_16 (fun hc => ?_) (fun hc => ?_)
      · have hf := ite_t hf hc
        refine r_aload_n (i := 0) hX e_X10_sale_22 rfl rfl ?_
        obtain ⟨u5, hu5, hf⟩ := bd_s hf
        refine r_cvr (As := fun K B => []) hX hn (t_X10_toldHour hu5) e_X10_sale_23 cw_X10_toldHour cv_X10_toldHour lk_10_150 ⟨Nat.le_of_ble_eq_true rfl, Nat.le_of_ble_eq_true rfl⟩ (ci := 10) rfl rfl (Nat.le_of_ble_eq_true rfl) g1 rfl rfl (Nat.le_of_ble_eq_true rfl) ⟨Nat.zero_le _, Nat.zero_le _⟩ ?_
        refine r_astore_n (i := 3) hX e_X10_sale_26 rfl (Nat.le_of_ble_eq_true rfl) rfl ?_
        refine r_iload_n (i := 1) hX e_X10_sale_27 rfl rfl ?_
        refine r_if_lt hX e_X10_sale_28 (fun hc => ?_) (fun hc => ?_)
        · have hf := ite_t hf hc
          refine r_iconst hX e_X10_sale_39 ic_m1 ?_
          exact r_iret hX hR e_X10_sale_40 hf
        · have hf := ite_f hf hc
          refine r_iload_n (i := 1) hX e_X10_sale_31 rfl rfl ?_
          refine r_aload_n (i := 3) hX e_X10_sale_32 rfl rfl ?_
          obtain ⟨g6, hf⟩ := gd_s hf
          refine r_getI hX hn e_X10_sale_33 fl_10_214 rfl g6 ?_
          refine r_icmp_lt hX e_X10_sale_36 (fun hc => ?_) (fun hc => ?_)
          · have hf := ite_t hf hc
            refine r_iload_n (i := 2) hX e_X10_sale_41 rfl rfl ?_
            by_cases hs0 : a2 = 0
            · have hf := ite_t hf hs0
              refine r_tabIn (tgt := 68) hX e_X10_sale_42 (by rw [hs0]; decide) (by rw [hs0]; decide) (off := 26) (by rw [hs0]; decide) (by decide) ?_
              refine r_aload_n (i := 3) hX e_X10_sale_68 rfl rfl ?_
              obtain ⟨r7, hr7, hf⟩ := bd_s hf
              refine r_getR hX hn e_X10_sale_69 fl_10_217 rfl g6 hr7 ?_
              refine r_iload_n (i := 1) hX e_X10_sale_72 rfl rfl ?_
              obtain ⟨g8, hf⟩ := gd_s hf
              refine r_iald hX hn e_X10_sale_73 g8 ?_
              exact r_iret hX hR e_X10_sale_74 hf
            have hf := ite_f hf hs0
            by_cases hs1 : a2 = 1
            · have hf := ite_t hf hs1
              refine r_tabIn (tgt := 75) hX e_X10_sale_42 (by rw [hs1]; decide) (by rw [hs1]; decide) (off := 33) (by rw [hs1]; decide) (by decide) ?_
              refine r_aload_n (i := 3) hX e_X10_sale_75 rfl rfl ?_
              obtain ⟨r9, hr9, hf⟩ := bd_s hf
              refine r_getR hX hn e_X10_sale_76 fl_10_220 rfl g6 hr9 ?_
              refine r_iload_n (i := 1) hX e_X10_sale_79 rfl rfl ?_
              obtain ⟨g10, hf⟩ := gd_s hf
              refine r_iald hX hn e_X10_sale_80 g10 ?_
              exact r_iret hX hR e_X10_sale_81 hf
            have hf := ite_f hf hs1
            by_cases hs2 : a2 = 2
            · have hf := ite_t hf hs2
              refine r_tabIn (tgt := 82) hX e_X10_sale_42 (by rw [hs2]; decide) (by rw [hs2]; decide) (off := 40) (by rw [hs2]; decide) (by decide) ?_
              refine r_aload_n (i := 3) hX e_X10_sale_82 rfl rfl ?_
              obtain ⟨r11, hr11, hf⟩ := bd_s hf
              refine r_getR hX hn e_X10_sale_83 fl_10_223 rfl g6 hr11 ?_
              refine r_iload_n (i := 1) hX e_X10_sale_86 rfl rfl ?_
              obtain ⟨g12, hf⟩ := gd_s hf
              refine r_iald hX hn e_X10_sale_87 g12 ?_
              exact r_iret hX hR e_X10_sale_88 hf
            have hf := ite_f hf hs2
            refine r_tabOut (tgt := 89) hX e_X10_sale_42 ?_ (by decide) ?_
            · have z0 : a2.toInt ≠ 0 := i32_ne hs0 (by decide); have z1 : a2.toInt ≠ 1 := i32_ne hs1 (by decide); have z2 : a2.toInt ≠ 2 := i32_ne hs2 (by decide); omega
            refine r_aload_n (i := 3) hX e_X10_sale_89 rfl rfl ?_
            obtain ⟨r13, hr13, hf⟩ := bd_s hf
            refine r_getR hX hn e_X10_sale_90 fl_10_226 rfl g6 hr13 ?_
            refine r_iload_n (i := 1) hX e_X10_sale_93 rfl rfl ?_
            obtain ⟨g14, hf⟩ := gd_s hf
            refine r_iald hX hn e_X10_sale_94 g14 ?_
            exact r_iret hX hR e_X10_sale_95 hf
          · have hf := ite_f hf hc
            refine r_iconst hX e_X10_sale_39 ic_m1 ?_
            exact r_iret hX hR e_X10_sale_40 hf
      · have hf := ite_f hf hc
        refine r_bipush hX e_X10_sale_19 bc_m2 ?_
        exact r_iret hX hR e_X10_sale_21 hf
def f_X10_all (M : Mem) (a0 : Nat) (a1 : Int32) : Option (Mem × Int32) :=
  gd (oB shC a0 10) <| bd (gR M a0 1) fun r2 => gd (oB shC r2 4) <| bd (f_X4_isTold M r2) fun v4 => if v4 = 0 then some (M, (-2)) else if a1 = 0 then bd (f_X10_toldHour M a0) fun u5 => gd (oB shC u5.2 3) <| some (u5.1, (gI u5.1 u5.2 4)) else if a1 = 1 then bd (f_X10_toldHour M a0) fun u7 => gd (oB shC u7.2 3) <| bd (f_X3_paidInAll u7.1 u7.2) fun v9 => some (u7.1, v9) else if a1 = 2 then bd (f_X10_toldHour M a0) fun u10 => gd (oB shC u10.2 3) <| bd (f_X3_lackInAll u10.1 u10.2) fun v12 => some (u10.1, v12) else if a1 = 3 then bd (f_X10_toldHour M a0) fun u13 => gd (oB shC u13.2 3) <| bd (f_X3_buyersDone u13.1 u13.2) fun v15 => some (u13.1, v15) else if a1 = 4 then bd (f_X10_toldHour M a0) fun u16 => gd (oB shC u16.2 3) <| bd (f_X3_busiestMinute u16.1 u16.2) fun v18 => some (u16.1, v18) else some (M, (-2))
theorem t_X10_all {l : Launch} {M : Mem} {a0 : Nat} {a1 : Int32} {res : Mem × Int32} (hf : f_X10_all M a0 a1 = some res) : Ci l yX10_all cX10_all 2 (some .int) 6 139 shC nC (fun K B => [.ref (B + a0), .int a1]) M res := by
  refine met_i (own := RX10) (lo := fun K B => [some (.ref (B + a0)), some (.int a1)]) (by decide +kernel) rfl shC_ok (fun _ _ => rfl) (fun _ _ => rfl) (fun _ _ => Nat.le_of_ble_eq_true rfl) (fun X hX hn hlx hR => ?_)
  refine r_aload_n (i := 0) hX e_X10_all_0 rfl rfl ?_
  obtain ⟨g1, hf⟩ := gd_s hf
  obtain ⟨r2, hr2, hf⟩ := bd_s hf
  refine r_getR hX hn e_X10_all_1 fl_10_19 rfl g1 hr2 ?_
  obtain ⟨g3, hf⟩ := gd_s hf
  obtain ⟨v4, hv4, hf⟩ := bd_s hf
  refine r_cvi (As := fun K B => []) hX hn (t_X4_isTold hv4) e_X10_all_4 cw_X4_isTold cv_X4_isTold lk_10_210 ⟨Nat.le_of_ble_eq_true rfl, Nat.le_of_ble_eq_true rfl⟩ (ci := 4) rfl rfl (Nat.le_of_ble_eq_true rfl) g3 rfl rfl (Nat.le_of_ble_eq_true rfl) ⟨Nat.zero_le _, Nat.zero_le _⟩ ?_
  refine r_if_ne hX e_X10_all_7 (fun hc => ?_) (fun hc => ?_)
  · have hf := ite_f hf hc
    refine r_iload_n (i := 1) hX e_X10_all_13 rfl rfl ?_
    by_cases hs0 : a1 = 0
    · have hf := ite_t hf hs0
      refine r_tabIn (tgt := 48) hX e_X10_all_14 (by rw [hs0]; decide) (by rw [hs0]; decide) (off := 34) (by rw [hs0]; decide) (by decide) ?_
      refine r_aload_n (i := 0) hX e_X10_all_48 rfl rfl ?_
      obtain ⟨u5, hu5, hf⟩ := bd_s hf
      refine r_cvr (As := fun K B => []) hX hn (t_X10_toldHour hu5) e_X10_all_49 cw_X10_toldHour cv_X10_toldHour lk_10_150 ⟨Nat.le_of_ble_eq_true rfl, Nat.le_of_ble_eq_true rfl⟩ (ci := 10) rfl rfl (Nat.le_of_ble_eq_true rfl) g1 rfl rfl (Nat.le_of_ble_eq_true rfl) ⟨Nat.zero_le _, Nat.zero_le _⟩ ?_
      obtain ⟨g6, hf⟩ := gd_s hf
      refine r_getI hX hn e_X10_all_52 fl_10_214 rfl g6 ?_
      exact r_iret hX hR e_X10_all_55 hf
    have hf := ite_f hf hs0
    by_cases hs1 : a1 = 1
    · have hf := ite_t hf hs1
      refine r_tabIn (tgt := 56) hX e_X10_all_14 (by rw [hs1]; decide) (by rw [hs1]; decide) (off := 42) (by rw [hs1]; decide) (by decide) ?_
      refine r_aload_n (i := 0) hX e_X10_all_56 rfl rfl ?_
      obtain ⟨u7, hu7, hf⟩ := bd_s hf
      refine r_cvr (As := fun K B => []) hX hn (t_X10_toldHour hu7) e_X10_all_57 cw_X10_toldHour cv_X10_toldHour lk_10_150 ⟨Nat.le_of_ble_eq_true rfl, Nat.le_of_ble_eq_true rfl⟩ (ci := 10) rfl rfl (Nat.le_of_ble_eq_true rfl) g1 rfl rfl (Nat.le_of_ble_eq_true rfl) ⟨Nat.zero_le _, Nat.zero_le _⟩ ?_
      obtain ⟨g8, hf⟩ := gd_s hf
      obtain ⟨v9, hv9, hf⟩ := bd_s hf
      refine r_cvi (As := fun K B => []) hX hn (t_X3_paidInAll hv9) e_X10_all_60 cw_X3_paidInAll cv_X3_paidInAll lk_10_229 ⟨Nat.le_of_ble_eq_true rfl, Nat.le_of_ble_eq_true rfl⟩ (ci := 3) rfl rfl (Nat.le_of_ble_eq_true rfl) g8 rfl rfl (Nat.le_of_ble_eq_true rfl) ⟨Nat.zero_le _, Nat.zero_le _⟩ ?_
      exact r_iret hX hR e_X10_all_63 hf
    have hf := ite_f hf hs1
    by_cases hs2 : a1 = 2
    · have hf := ite_t hf hs2
      refine r_tabIn (tgt := 64) hX e_X10_all_14 (by rw [hs2]; decide) (by rw [hs2]; decide) (off := 50) (by rw [hs2]; decide) (by decide) ?_
      refine r_aload_n (i := 0) hX e_X10_all_64 rfl rfl ?_
      obtain ⟨u10, hu10, hf⟩ := bd_s hf
      refine r_cvr (As := fun K B => []) hX hn (t_X10_toldHour hu10) e_X10_all_65 cw_X10_toldHour cv_X10_toldHour lk_10_150 ⟨Nat.le_of_ble_eq_true rfl, Nat.le_of_ble_eq_true rfl⟩ (ci := 10) rfl rfl (Nat.le_of_ble_eq_true rfl) g1 rfl rfl (Nat.le_of_ble_eq_true rfl) ⟨Nat.zero_le _, Nat.zero_le _⟩ ?_
      obtain ⟨g11, hf⟩ := gd_s hf
      obtain ⟨v12, hv12, hf⟩ := bd_s hf
      refine r_cvi (As := fun K B => []) hX hn (t_X3_lackInAll hv12) e_X10_all_68 cw_X3_lackInAll cv_X3_lackInAll lk_10_233 ⟨Nat.le_of_ble_eq_true rfl, Nat.le_of_ble_eq_true rfl⟩ (ci := 3) rfl rfl (Nat.le_of_ble_eq_true rfl) g11 rfl rfl (Nat.le_of_ble_eq_true rfl) ⟨Nat.zero_le _, Nat.zero_le _⟩ ?_
      exact r_iret hX hR e_X10_all_71 hf
    have hf := ite_f hf hs2
    by_cases hs3 : a1 = 3
    · have hf := ite_t hf hs3
      refine r_tabIn (tgt := 72) hX e_X10_all_14 (by rw [hs3]; decide) (by rw [hs3]; decide) (off := 58) (by rw [hs3]; decide) (by decide) ?_
      refine r_aload_n (i := 0) hX e_X10_all_72 rfl rfl ?_
      obtain ⟨u13, hu13, hf⟩ := bd_s hf
      refine r_cvr (As := fun K B => []) hX hn (t_X10_toldHour hu13) e_X10_all_73 cw_X10_toldHour cv_X10_toldHour lk_10_150 ⟨Nat.le_of_ble_eq_true rfl, Nat.le_of_ble_eq_true rfl⟩ (ci := 10) rfl rfl (Nat.le_of_ble_eq_true rfl) g1 rfl rfl (Nat.le_of_ble_eq_true rfl) ⟨Nat.zero_le _, Nat.zero_le _⟩ ?_
      obtain ⟨g14, hf⟩ := gd_s hf
      obtain ⟨v15, hv15, hf⟩ := bd_s hf
      refine r_cvi (As := fun K B => []) hX hn (t_X3_buyersDone hv15) e_X10_all_76 cw_X3_buyersDone cv_X3_buyersDone lk_10_236 ⟨Nat.le_of_ble_eq_true rfl, Nat.le_of_ble_eq_true rfl⟩ (ci := 3) rfl rfl (Nat.le_of_ble_eq_true rfl) g14 rfl rfl (Nat.le_of_ble_eq_true rfl) ⟨Nat.zero_le _, Nat.zero_le _⟩ ?_
      exact r_iret hX hR e_X10_all_79 hf
    have hf := ite_f hf hs3
    by_cases hs4 : a1 = 4
    · have hf := ite_t hf hs4
      refine r_tabIn (tgt := 80) hX e_X10_all_14 (by rw [hs4]; decide) (by rw [hs4]; decide) (off := 66) (by rw [hs4]; decide) (by decide) ?_
      refine r_aload_n (i := 0) hX e_X10_all_80 rfl rfl ?_
      obtain ⟨u16, hu16, hf⟩ := bd_s hf
      refine r_cvr (As := fun K B => []) hX hn (t_X10_toldHour hu16) e_X10_all_81 cw_X10_toldHour cv_X10_toldHour lk_10_150 ⟨Nat.le_of_ble_eq_true rfl, Nat.le_of_ble_eq_true rfl⟩ (ci := 10) rfl rfl (Nat.le_of_ble_eq_true rfl) g1 rfl rfl (Nat.le_of_ble_eq_true rfl) ⟨Nat.zero_le _, Nat.zero_le _⟩ ?_
      obtain ⟨g17, hf⟩ := gd_s hf
      obtain ⟨v18, hv18, hf⟩ := bd_s hf
      refine r_cvi (As := fun K B => []) hX hn (t_X3_busiestMinute hv18) e_X10_all_84 cw_X3_busiestMinute cv_X3_busiestMinute lk_10_239 ⟨Nat.le_of_ble_eq_true rfl, Nat.le_of_ble_eq_true rfl⟩ (ci := 3) rfl rfl (Nat.le_of_ble_eq_true rfl) g17 rfl rfl (Nat.le_of_ble_eq_true rfl) ⟨Nat.zero_le _, Nat.zero_le _⟩ ?_
      exact r_iret hX hR e_X10_all_87 hf
    have hf := ite_f hf hs4
    refine r_tabOut (tgt := 88) hX e_X10_all_14 ?_ (by decide) ?_
    · have z0 : a1.toInt ≠ 0 := i32_ne hs0 (by decide); have z1 : a1.toInt ≠ 1 := i32_ne hs1 (by decide); have z2 : a1.toInt ≠ 2 := i32_ne hs2 (by decide); have z3 : a1.toInt ≠ 3 := i32_ne hs3 (by decide); have z4 : a1.toInt ≠ 4 := i32_ne hs4 (by decide); omega
    refine r_bipush hX e_X10_all_88 bc_m2 ?_
    exact r_iret hX hR e_X10_all_90 hf
  · have hf := ite_t hf hc
    refine r_bipush hX e_X10_all_10 bc_m2 ?_
    exact r_iret hX hR e_X10_all_12 hf
def f_X10_best (M : Mem) (a0 : Nat) (a1 : Int32) : Option (Mem × Int32) :=
  gd (oB shC a0 10) <| bd (gR M a0 1) fun r2 => gd (oB shC r2 4) <| bd (f_X4_hasBuyer M r2 a1) fun v4 => if v4 = 0 then some (M, (-2)) else bd (gR M a0 8) fun r5 => bd (f_X10_toldHour M a0) fun u6 => gd (oB shC u6.2 3) <| bd (gR u6.1 u6.2 0) fun r8 => bd (gR u6.1 a0 1) fun r9 => gd (oB shC r9 4) <| bd (gR u6.1 r9 8) fun r11 => gd (aB shC r11 6 a1) <| bd (gR u6.1 r11 (a1 : Int32).toNatClampNeg) fun r13 => gd (oB shC r13 1) <| gd (oB shC r5 0) <| bd (f_X0_shop u6.1 r5 r2 r8 a1 (gI u6.1 r13 1)) fun u16 => bd (gR u16 a0 8) fun r17 => gd (oB shC r17 0) <| some (u16, (gI u16 r17 0))
theorem t_X10_best {l : Launch} {M : Mem} {a0 : Nat} {a1 : Int32} {res : Mem × Int32} (hf : f_X10_best M a0 a1 = some res) : Ci l yX10_best cX10_best 2 (some .int) 6 139 shC nC (fun K B => [.ref (B + a0), .int a1]) M res := by
  refine met_i (own := RX10) (lo := fun K B => [some (.ref (B + a0)), some (.int a1)]) (by decide +kernel) rfl shC_ok (fun _ _ => rfl) (fun _ _ => rfl) (fun _ _ => Nat.le_of_ble_eq_true rfl) (fun X hX hn hlx hR => ?_)
  refine r_aload_n (i := 0) hX e_X10_best_0 rfl rfl ?_
  obtain ⟨g1, hf⟩ := gd_s hf
  obtain ⟨r2, hr2, hf⟩ := bd_s hf
  refine r_getR hX hn e_X10_best_1 fl_10_19 rfl g1 hr2 ?_
  refine r_iload_n (i := 1) hX e_X10_best_4 rfl rfl ?_
  obtain ⟨g3, hf⟩ := gd_s hf
  obtain ⟨v4, hv4, hf⟩ := bd_s hf
  refine r_cvi (As := fun K B => [.int (a1)]) hX hn (t_X4_hasBuyer hv4) e_X10_best_5 cw_X4_hasBuyer cv_X4_hasBuyer lk_10_118 ⟨Nat.le_of_ble_eq_true rfl, Nat.le_of_ble_eq_true rfl⟩ (ci := 4) rfl rfl (Nat.le_of_ble_eq_true rfl) g3 rfl rfl (Nat.le_of_ble_eq_true rfl) ⟨Nat.zero_le _, Nat.zero_le _⟩ ?_
  refine r_if_ne hX e_X10_best_8 (fun hc => ?_) (fun hc => ?_)
  · have hf := ite_f hf hc
    refine r_aload_n (i := 0) hX e_X10_best_14 rfl rfl ?_
    obtain ⟨r5, hr5, hf⟩ := bd_s hf
    refine r_getR hX hn e_X10_best_15 fl_10_54 rfl g1 hr5 ?_
    refine r_aload_n (i := 0) hX e_X10_best_18 rfl rfl ?_
    refine r_getR hX hn e_X10_best_19 fl_10_19 rfl g1 hr2 ?_
    refine r_aload_n (i := 0) hX e_X10_best_22 rfl rfl ?_
    obtain ⟨u6, hu6, hf⟩ := bd_s hf
    refine r_cvr (As := fun K B => []) hX hn (t_X10_toldHour hu6) e_X10_best_23 cw_X10_toldHour cv_X10_toldHour lk_10_150 ⟨Nat.le_of_ble_eq_true rfl, Nat.le_of_ble_eq_true rfl⟩ (ci := 10) rfl rfl (Nat.le_of_ble_eq_true rfl) g1 rfl rfl (Nat.le_of_ble_eq_true rfl) ⟨Nat.zero_le _, Nat.zero_le _⟩ ?_
    obtain ⟨g7, hf⟩ := gd_s hf
    obtain ⟨r8, hr8, hf⟩ := bd_s hf
    refine r_getR hX hn e_X10_best_26 fl_10_154 rfl g7 hr8 ?_
    refine r_iload_n (i := 1) hX e_X10_best_29 rfl rfl ?_
    refine r_aload_n (i := 0) hX e_X10_best_30 rfl rfl ?_
    obtain ⟨r9, hr9, hf⟩ := bd_s hf
    refine r_getR hX hn e_X10_best_31 fl_10_19 rfl g1 hr9 ?_
    obtain ⟨g10, hf⟩ := gd_s hf
    obtain ⟨r11, hr11, hf⟩ := bd_s hf
    refine r_getR hX hn e_X10_best_34 fl_10_121 rfl g10 hr11 ?_
    refine r_iload_n (i := 1) hX e_X10_best_37 rfl rfl ?_
    obtain ⟨g12, hf⟩ := gd_s hf
    obtain ⟨r13, hr13, hf⟩ := bd_s hf
    refine r_aald hX hn e_X10_best_38 g12 (Nat.le_of_ble_eq_true rfl) rfl rfl rfl hr13 ?_
    obtain ⟨g14, hf⟩ := gd_s hf
    refine r_getI hX hn e_X10_best_39 fl_10_130 rfl g14 ?_
    obtain ⟨g15, hf⟩ := gd_s hf
    obtain ⟨u16, hu16, hf⟩ := bd_s hf
    refine r_cvv (As := fun K B => [.ref (B + r2), .ref (B + r8), .int (a1), .int ((gI u6.1 r13 1))]) hX hn (t_X0_shop hu16) e_X10_best_42 cw_X0_shop cv_X0_shop lk_10_242 ⟨Nat.le_of_ble_eq_true rfl, Nat.le_of_ble_eq_true rfl⟩ (ci := 0) rfl rfl (Nat.le_of_ble_eq_true rfl) g15 rfl rfl (Nat.le_of_ble_eq_true rfl) ⟨Nat.zero_le _, Nat.zero_le _⟩ ?_
    refine r_aload_n (i := 0) hX e_X10_best_45 rfl rfl ?_
    obtain ⟨r17, hr17, hf⟩ := bd_s hf
    refine r_getR hX hn e_X10_best_46 fl_10_54 rfl g1 hr17 ?_
    obtain ⟨g18, hf⟩ := gd_s hf
    refine r_getI hX hn e_X10_best_49 fl_10_246 rfl g18 ?_
    exact r_iret hX hR e_X10_best_52 hf
  · have hf := ite_t hf hc
    refine r_bipush hX e_X10_best_11 bc_m2 ?_
    exact r_iret hX hR e_X10_best_13 hf
def f_X10_cost (M : Mem) (a0 : Nat) (a1 : Int32) : Option (Mem × Int32) :=
  gd (oB shC a0 10) <| bd (gR M a0 1) fun r2 => gd (oB shC r2 4) <| bd (f_X4_hasBuyer M r2 a1) fun v4 => if v4 = 0 then some (M, (-2)) else bd (gR M a0 8) fun r5 => bd (f_X10_toldHour M a0) fun u6 => gd (oB shC u6.2 3) <| bd (gR u6.1 u6.2 0) fun r8 => bd (gR u6.1 a0 1) fun r9 => gd (oB shC r9 4) <| bd (gR u6.1 r9 8) fun r11 => gd (aB shC r11 6 a1) <| bd (gR u6.1 r11 (a1 : Int32).toNatClampNeg) fun r13 => gd (oB shC r13 1) <| gd (oB shC r5 0) <| bd (f_X0_shop u6.1 r5 r2 r8 a1 (gI u6.1 r13 1)) fun u16 => bd (gR u16 a0 8) fun r17 => gd (oB shC r17 0) <| some (u16, (gI u16 r17 1))
theorem t_X10_cost {l : Launch} {M : Mem} {a0 : Nat} {a1 : Int32} {res : Mem × Int32} (hf : f_X10_cost M a0 a1 = some res) : Ci l yX10_cost cX10_cost 2 (some .int) 6 139 shC nC (fun K B => [.ref (B + a0), .int a1]) M res := by
  refine met_i (own := RX10) (lo := fun K B => [some (.ref (B + a0)), some (.int a1)]) (by decide +kernel) rfl shC_ok (fun _ _ => rfl) (fun _ _ => rfl) (fun _ _ => Nat.le_of_ble_eq_true rfl) (fun X hX hn hlx hR => ?_)
  refine r_aload_n (i := 0) hX e_X10_cost_0 rfl rfl ?_
  obtain ⟨g1, hf⟩ := gd_s hf
  obtain ⟨r2, hr2, hf⟩ := bd_s hf
  refine r_getR hX hn e_X10_cost_1 fl_10_19 rfl g1 hr2 ?_
  refine r_iload_n (i := 1) hX e_X10_cost_4 rfl rfl ?_
  obtain ⟨g3, hf⟩ := gd_s hf
  obtain ⟨v4, hv4, hf⟩ := bd_s hf
  refine r_cvi (As := fun K B => [.int (a1)]) hX hn (t_X4_hasBuyer hv4) e_X10_cost_5 cw_X4_hasBuyer cv_X4_hasBuyer lk_10_118 ⟨Nat.le_of_ble_eq_true rfl, Nat.le_of_ble_eq_true rfl⟩ (ci := 4) rfl rfl (Nat.le_of_ble_eq_true rfl) g3 rfl rfl (Nat.le_of_ble_eq_true rfl) ⟨Nat.zero_le _, Nat.zero_le _⟩ ?_
  refine r_if_ne hX e_X10_cost_8 (fun hc => ?_) (fun hc => ?_)
  · have hf := ite_f hf hc
    refine r_aload_n (i := 0) hX e_X10_cost_14 rfl rfl ?_
    obtain ⟨r5, hr5, hf⟩ := bd_s hf
    refine r_getR hX hn e_X10_cost_15 fl_10_54 rfl g1 hr5 ?_
    refine r_aload_n (i := 0) hX e_X10_cost_18 rfl rfl ?_
    refine r_getR hX hn e_X10_cost_19 fl_10_19 rfl g1 hr2 ?_
    refine r_aload_n (i := 0) hX e_X10_cost_22 rfl rfl ?_
    obtain ⟨u6, hu6, hf⟩ := bd_s hf
    refine r_cvr (As := fun K B => []) hX hn (t_X10_toldHour hu6) e_X10_cost_23 cw_X10_toldHour cv_X10_toldHour lk_10_150 ⟨Nat.le_of_ble_eq_true rfl, Nat.le_of_ble_eq_true rfl⟩ (ci := 10) rfl rfl (Nat.le_of_ble_eq_true rfl) g1 rfl rfl (Nat.le_of_ble_eq_true rfl) ⟨Nat.zero_le _, Nat.zero_le _⟩ ?_
    obtain ⟨g7, hf⟩ := gd_s hf
    obtain ⟨r8, hr8, hf⟩ := bd_s hf
    refine r_getR hX hn e_X10_cost_26 fl_10_154 rfl g7 hr8 ?_
    refine r_iload_n (i := 1) hX e_X10_cost_29 rfl rfl ?_
    refine r_aload_n (i := 0) hX e_X10_cost_30 rfl rfl ?_
    obtain ⟨r9, hr9, hf⟩ := bd_s hf
    refine r_getR hX hn e_X10_cost_31 fl_10_19 rfl g1 hr9 ?_
    obtain ⟨g10, hf⟩ := gd_s hf
    obtain ⟨r11, hr11, hf⟩ := bd_s hf
    refine r_getR hX hn e_X10_cost_34 fl_10_121 rfl g10 hr11 ?_
    refine r_iload_n (i := 1) hX e_X10_cost_37 rfl rfl ?_
    obtain ⟨g12, hf⟩ := gd_s hf
    obtain ⟨r13, hr13, hf⟩ := bd_s hf
    refine r_aald hX hn e_X10_cost_38 g12 (Nat.le_of_ble_eq_true rfl) rfl rfl rfl hr13 ?_
    obtain ⟨g14, hf⟩ := gd_s hf
    refine r_getI hX hn e_X10_cost_39 fl_10_130 rfl g14 ?_
    obtain ⟨g15, hf⟩ := gd_s hf
    obtain ⟨u16, hu16, hf⟩ := bd_s hf
    refine r_cvv (As := fun K B => [.ref (B + r2), .ref (B + r8), .int (a1), .int ((gI u6.1 r13 1))]) hX hn (t_X0_shop hu16) e_X10_cost_42 cw_X0_shop cv_X0_shop lk_10_242 ⟨Nat.le_of_ble_eq_true rfl, Nat.le_of_ble_eq_true rfl⟩ (ci := 0) rfl rfl (Nat.le_of_ble_eq_true rfl) g15 rfl rfl (Nat.le_of_ble_eq_true rfl) ⟨Nat.zero_le _, Nat.zero_le _⟩ ?_
    refine r_aload_n (i := 0) hX e_X10_cost_45 rfl rfl ?_
    obtain ⟨r17, hr17, hf⟩ := bd_s hf
    refine r_getR hX hn e_X10_cost_46 fl_10_54 rfl g1 hr17 ?_
    obtain ⟨g18, hf⟩ := gd_s hf
    refine r_getI hX hn e_X10_cost_49 fl_10_247 rfl g18 ?_
    exact r_iret hX hR e_X10_cost_52 hf
  · have hf := ite_t hf hc
    refine r_bipush hX e_X10_cost_11 bc_m2 ?_
    exact r_iret hX hR e_X10_cost_13 hf
def f_X10_choice (M : Mem) (a0 : Nat) (a1 : Int32) (a2 : Int32) : Option (Mem × Int32) :=
  gd (oB shC a0 10) <| bd (gR M a0 1) fun r2 => gd (oB shC r2 4) <| bd (f_X4_hasBuyer M r2 a1) fun v4 => if v4 = 0 then some (M, (-2)) else bd (f_X4_hasMinute M r2 a2) fun v5 => if v5 = 0 then some (M, (-2)) else bd (gR M a0 8) fun r6 => bd (f_X10_toldHour M a0) fun u7 => gd (oB shC u7.2 3) <| bd (gR u7.1 u7.2 0) fun r9 => bd (gR u7.1 a0 1) fun r10 => gd (oB shC r10 4) <| bd (gR u7.1 r10 8) fun r12 => gd (aB shC r12 6 a1) <| bd (gR u7.1 r12 (a1 : Int32).toNatClampNeg) fun r14 => gd (oB shC r14 1) <| gd (oB shC r6 0) <| bd (f_X0_shop u7.1 r6 r2 r9 a1 (gI u7.1 r14 1)) fun u17 => bd (gR u17 a0 8) fun r18 => gd (oB shC r18 0) <| bd (gR u17 r18 2) fun r20 => gd (aB shC r20 0 a2) <| some (u17, (gI u17 r20 (a2 : Int32).toNatClampNeg))
theorem t_X10_choice {l : Launch} {M : Mem} {a0 : Nat} {a1 a2 : Int32} {res : Mem × Int32} (hf : f_X10_choice M a0 a1 a2 = some res) : Ci l yX10_choice cX10_choice 3 (some .int) 6 139 shC nC (fun K B => [.ref (B + a0), .int a1, .int a2]) M res := by
  refine met_i (own := RX10) (lo := fun K B => [some (.ref (B + a0)), some (.int a1), some (.int a2)]) (by decide +kernel) rfl shC_ok (fun _ _ => rfl) (fun _ _ => rfl) (fun _ _ => Nat.le_of_ble_eq_true rfl) (fun X hX hn hlx hR => ?_)
  refine r_aload_n (i := 0) hX e_X10_choice_0 rfl rfl ?_
  obtain ⟨g1, hf⟩ := gd_s hf
  obtain ⟨r2, hr2, hf⟩ := bd_s hf
  refine r_getR hX hn e_X10_choice_1 fl_10_19 rfl g1 hr2 ?_
  refine r_iload_n (i := 1) hX e_X10_choice_4 rfl rfl ?_
  obtain ⟨g3, hf⟩ := gd_s hf
  obtain ⟨v4, hv4, hf⟩ := bd_s hf
  refine r_cvi (As := fun K B => [.int (a1)]) hX hn (t_X4_hasBuyer hv4) e_X10_choice_5 cw_X4_hasBuyer cv_X4_hasBuyer lk_10_118 ⟨Nat.le_of_ble_eq_true rfl, Nat.le_of_ble_eq_true rfl⟩ (ci := 4) rfl rfl (Nat.le_of_ble_eq_true rfl) g3 rfl rfl (Nat.le_of_ble_eq_true rfl) ⟨Nat.zero_le _, Nat.zero_le _⟩ ?_
  refine r_if_eq hX e_X10_choice_8 (fun hc => ?_) (fun hc => ?_)
  · have hf := ite_t hf hc
    refine r_bipush hX e_X10_choice_22 bc_m2 ?_
    exact r_iret hX hR e_X10_choice_24 hf
  · have hf := ite_f hf hc
    refine r_aload_n (i := 0) hX e_X10_choice_11 rfl rfl ?_
    refine r_getR hX hn e_X10_choice_12 fl_10_19 rfl g1 hr2 ?_
    refine r_iload_n (i := 2) hX e_X10_choice_15 rfl rfl ?_
    obtain ⟨v5, hv5, hf⟩ := bd_s hf
    refine r_cvi (As := fun K B => [.int (a2)]) hX hn (t_X4_hasMinute hv5) e_X10_choice_16 cw_X4_hasMinute cv_X4_hasMinute lk_10_147 ⟨Nat.le_of_ble_eq_true rfl, Nat.le_of_ble_eq_true rfl⟩ (ci := 4) rfl rfl (Nat.le_of_ble_eq_true rfl) g3 rfl rfl (Nat.le_of_ble_eq_true rfl) ⟨Nat.zero_le _, Nat.zero_le _⟩ ?_
    refine r_if_ne hX e_X10_choice_19 (fun hc => ?_) (fun hc => ?_)
    · have hf := ite_f hf hc
      refine r_aload_n (i := 0) hX e_X10_choice_25 rfl rfl ?_
      obtain ⟨r6, hr6, hf⟩ := bd_s hf
      refine r_getR hX hn e_X10_choice_26 fl_10_54 rfl g1 hr6 ?_
      refine r_aload_n (i := 0) hX e_X10_choice_29 rfl rfl ?_
      refine r_getR hX hn e_X10_choice_30 fl_10_19 rfl g1 hr2 ?_
      refine r_aload_n (i := 0) hX e_X10_choice_33 rfl rfl ?_
      obtain ⟨u7, hu7, hf⟩ := bd_s hf
      refine r_cvr (As := fun K B => []) hX hn (t_X10_toldHour hu7) e_X10_choice_34 cw_X10_toldHour cv_X10_toldHour lk_10_150 ⟨Nat.le_of_ble_eq_true rfl, Nat.le_of_ble_eq_true rfl⟩ (ci := 10) rfl rfl (Nat.le_of_ble_eq_true rfl) g1 rfl rfl (Nat.le_of_ble_eq_true rfl) ⟨Nat.zero_le _, Nat.zero_le _⟩ ?_
      obtain ⟨g8, hf⟩ := gd_s hf
      obtain ⟨r9, hr9, hf⟩ := bd_s hf
      refine r_getR hX hn e_X10_choice_37 fl_10_154 rfl g8 hr9 ?_
      refine r_iload_n (i := 1) hX e_X10_choice_40 rfl rfl ?_
      refine r_aload_n (i := 0) hX e_X10_choice_41 rfl rfl ?_
      obtain ⟨r10, hr10, hf⟩ := bd_s hf
      refine r_getR hX hn e_X10_choice_42 fl_10_19 rfl g1 hr10 ?_
      obtain ⟨g11, hf⟩ := gd_s hf
      obtain ⟨r12, hr12, hf⟩ := bd_s hf
      refine r_getR hX hn e_X10_choice_45 fl_10_121 rfl g11 hr12 ?_
      refine r_iload_n (i := 1) hX e_X10_choice_48 rfl rfl ?_
      obtain ⟨g13, hf⟩ := gd_s hf
      obtain ⟨r14, hr14, hf⟩ := bd_s hf
      refine r_aald hX hn e_X10_choice_49 g13 (Nat.le_of_ble_eq_true rfl) rfl rfl rfl hr14 ?_
      obtain ⟨g15, hf⟩ := gd_s hf
      refine r_getI hX hn e_X10_choice_50 fl_10_130 rfl g15 ?_
      obtain ⟨g16, hf⟩ := gd_s hf
      obtain ⟨u17, hu17, hf⟩ := bd_s hf
      refine r_cvv (As := fun K B => [.ref (B + r2), .ref (B + r9), .int (a1), .int ((gI u7.1 r14 1))]) hX hn (t_X0_shop hu17) e_X10_choice_53 cw_X0_shop cv_X0_shop lk_10_242 ⟨Nat.le_of_ble_eq_true rfl, Nat.le_of_ble_eq_true rfl⟩ (ci := 0) rfl rfl (Nat.le_of_ble_eq_true rfl) g16 rfl rfl (Nat.le_of_ble_eq_true rfl) ⟨Nat.zero_le _, Nat.zero_le _⟩ ?_
      refine r_aload_n (i := 0) hX e_X10_choice_56 rfl rfl ?_
      obtain ⟨r18, hr18, hf⟩ := bd_s hf
      refine r_getR hX hn e_X10_choice_57 fl_10_54 rfl g1 hr18 ?_
      obtain ⟨g19, hf⟩ := gd_s hf
      obtain ⟨r20, hr20, hf⟩ := bd_s hf
      refine r_getR hX hn e_X10_choice_60 fl_10_250 rfl g19 hr20 ?_
      refine r_iload_n (i := 2) hX e_X10_choice_63 rfl rfl ?_
      obtain ⟨g21, hf⟩ := gd_s hf
      refine r_iald hX hn e_X10_choice_64 g21 ?_
      exact r_iret hX hR e_X10_choice_65 hf
    · have hf := ite_t hf hc
      refine r_bipush hX e_X10_choice_22 bc_m2 ?_
      exact r_iret hX hR e_X10_choice_24 hf
def f_X10_needs (M : Mem) (a0 : Nat) (a1 : Int32) : Option (Mem × Int32) :=
  gd (oB shC a0 10) <| bd (gR M a0 1) fun r2 => gd (oB shC r2 4) <| bd (f_X4_hasBuyer M r2 a1) fun v4 => if v4 = 0 then some (M, (-2)) else bd (gR M a0 8) fun r5 => bd (f_X10_toldHour M a0) fun u6 => gd (oB shC u6.2 3) <| bd (gR u6.1 u6.2 0) fun r8 => gd (oB shC r5 0) <| bd (f_X0_shop u6.1 r5 r2 r8 a1 1000000) fun u10 => bd (gR u10 a0 8) fun r11 => gd (oB shC r11 0) <| bd (gR u10 a0 1) fun r13 => gd (oB shC r13 4) <| bd (gR u10 r13 8) fun r15 => gd (aB shC r15 6 a1) <| bd (gR u10 r15 (a1 : Int32).toNatClampNeg) fun r17 => gd (oB shC r17 1) <| bd (f_X1_wanted u10 r17) fun v19 => if (gI u10 r11 0) = v19 then some (u10, (gI u10 r11 1)) else some (u10, (-1))
theorem t_X10_needs {l : Launch} {M : Mem} {a0 : Nat} {a1 : Int32} {res : Mem × Int32} (hf : f_X10_needs M a0 a1 = some res) : Ci l yX10_needs cX10_needs 2 (some .int) 6 139 shC nC (fun K B => [.ref (B + a0), .int a1]) M res := by
  refine met_i (own := RX10) (lo := fun K B => [some (.ref (B + a0)), some (.int a1)]) (by decide +kernel) rfl shC_ok (fun _ _ => rfl) (fun _ _ => rfl) (fun _ _ => Nat.le_of_ble_eq_true rfl) (fun X hX hn hlx hR => ?_)
  refine r_aload_n (i := 0) hX e_X10_needs_0 rfl rfl ?_
  obtain ⟨g1, hf⟩ := gd_s hf
  obtain ⟨r2, hr2, hf⟩ := bd_s hf
  refine r_getR hX hn e_X10_needs_1 fl_10_19 rfl g1 hr2 ?_
  refine r_iload_n (i := 1) hX e_X10_needs_4 rfl rfl ?_
  obtain ⟨g3, hf⟩ := gd_s hf
  obtain ⟨v4, hv4, hf⟩ := bd_s hf
  refine r_cvi (As := fun K B => [.int (a1)]) hX hn (t_X4_hasBuyer hv4) e_X10_needs_5 cw_X4_hasBuyer cv_X4_hasBuyer lk_10_118 ⟨Nat.le_of_ble_eq_true rfl, Nat.le_of_ble_eq_true rfl⟩ (ci := 4) rfl rfl (Nat.le_of_ble_eq_true rfl) g3 rfl rfl (Nat.le_of_ble_eq_true rfl) ⟨Nat.zero_le _, Nat.zero_le _⟩ ?_
  refine r_if_ne hX e_X10_needs_8 (fun hc => ?_) (fun hc => ?_)
  · have hf := ite_f hf hc
    refine r_aload_n (i := 0) hX e_X10_needs_14 rfl rfl ?_
    obtain ⟨r5, hr5, hf⟩ := bd_s hf
    refine r_getR hX hn e_X10_needs_15 fl_10_54 rfl g1 hr5 ?_
    refine r_aload_n (i := 0) hX e_X10_needs_18 rfl rfl ?_
    refine r_getR hX hn e_X10_needs_19 fl_10_19 rfl g1 hr2 ?_
    refine r_aload_n (i := 0) hX e_X10_needs_22 rfl rfl ?_
    obtain ⟨u6, hu6, hf⟩ := bd_s hf
    refine r_cvr (As := fun K B => []) hX hn (t_X10_toldHour hu6) e_X10_needs_23 cw_X10_toldHour cv_X10_toldHour lk_10_150 ⟨Nat.le_of_ble_eq_true rfl, Nat.le_of_ble_eq_true rfl⟩ (ci := 10) rfl rfl (Nat.le_of_ble_eq_true rfl) g1 rfl rfl (Nat.le_of_ble_eq_true rfl) ⟨Nat.zero_le _, Nat.zero_le _⟩ ?_
    obtain ⟨g7, hf⟩ := gd_s hf
    obtain ⟨r8, hr8, hf⟩ := bd_s hf
    refine r_getR hX hn e_X10_needs_26 fl_10_154 rfl g7 hr8 ?_
    refine r_iload_n (i := 1) hX e_X10_needs_29 rfl rfl ?_
    refine r_ldc hX e_X10_needs_30 wk_927 ?_
    obtain ⟨g9, hf⟩ := gd_s hf
    obtain ⟨u10, hu10, hf⟩ := bd_s hf
    refine r_cvv (As := fun K B => [.ref (B + r2), .ref (B + r8), .int (a1), .int (1000000)]) hX hn (t_X0_shop hu10) e_X10_needs_32 cw_X0_shop cv_X0_shop lk_10_242 ⟨Nat.le_of_ble_eq_true rfl, Nat.le_of_ble_eq_true rfl⟩ (ci := 0) rfl rfl (Nat.le_of_ble_eq_true rfl) g9 rfl rfl (Nat.le_of_ble_eq_true rfl) ⟨Nat.zero_le _, Nat.zero_le _⟩ ?_
    refine r_aload_n (i := 0) hX e_X10_needs_35 rfl rfl ?_
    obtain ⟨r11, hr11, hf⟩ := bd_s hf
    refine r_getR hX hn e_X10_needs_36 fl_10_54 rfl g1 hr11 ?_
    obtain ⟨g12, hf⟩ := gd_s hf
    refine r_getI hX hn e_X10_needs_39 fl_10_246 rfl g12 ?_
    refine r_aload_n (i := 0) hX e_X10_needs_42 rfl rfl ?_
    obtain ⟨r13, hr13, hf⟩ := bd_s hf
    refine r_getR hX hn e_X10_needs_43 fl_10_19 rfl g1 hr13 ?_
    obtain ⟨g14, hf⟩ := gd_s hf
    obtain ⟨r15, hr15, hf⟩ := bd_s hf
    refine r_getR hX hn e_X10_needs_46 fl_10_121 rfl g14 hr15 ?_
    refine r_iload_n (i := 1) hX e_X10_needs_49 rfl rfl ?_
    obtain ⟨g16, hf⟩ := gd_s hf
    obtain ⟨r17, hr17, hf⟩ := bd_s hf
    refine r_aald hX hn e_X10_needs_50 g16 (Nat.le_of_ble_eq_true rfl) rfl rfl rfl hr17 ?_
    obtain ⟨g18, hf⟩ := gd_s hf
    obtain ⟨v19, hv19, hf⟩ := bd_s hf
    refine r_cvi (As := fun K B => []) hX hn (t_X1_wanted hv19) e_X10_needs_51 cw_X1_wanted cv_X1_wanted lk_10_254 ⟨Nat.le_of_ble_eq_true rfl, Nat.le_of_ble_eq_true rfl⟩ (ci := 1) rfl rfl (Nat.le_of_ble_eq_true rfl) g18 rfl rfl (Nat.le_of_ble_eq_true rfl) ⟨Nat.zero_le _, Nat.zero_le _⟩ ?_
    refine r_icmp_ne hX e_X10_needs_54 (fun hc => ?_) (fun hc => ?_)
    · have hf := ite_f hf hc
      refine r_iconst hX e_X10_needs_67 ic_m1 ?_
      exact r_iret hX hR e_X10_needs_68 hf
    · have hf := ite_t hf hc
      refine r_aload_n (i := 0) hX e_X10_needs_57 rfl rfl ?_
      refine r_getR hX hn e_X10_needs_58 fl_10_54 rfl g1 hr11 ?_
      refine r_getI hX hn e_X10_needs_61 fl_10_247 rfl g12 ?_
      refine r_goto hX e_X10_needs_64 ?_
      exact r_iret hX hR e_X10_needs_68 hf
  · have hf := ite_t hf hc
    refine r_bipush hX e_X10_needs_11 bc_m2 ?_
    exact r_iret hX hR e_X10_needs_13 hf
