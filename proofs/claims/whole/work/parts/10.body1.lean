def s_X8_isWithin_2 (M : Mem) (k2 : Nat → Int32 → Int32 → Int32 → Option (Int32)) (x0 : Nat) (x1 : Int32) (x2 : Int32) (x3 : Int32) : Option (Int32) :=
  gd (oB shC x0 8) <| if (gI M x0 2) ≤ x3 then some 1 else bd (gR M x0 3) fun r2 => gd (aB shC r2 1 x3) <| nx ((lg_cmp (gL M r2 (x3 : Int32).toNatClampNeg) ((x1 : Int32).toInt64))) fun v4 => if v4 < 0 then some 0 else nx ((lg_cmp (gL M r2 (x3 : Int32).toNatClampNeg) ((x2 : Int32).toInt64))) fun v5 => if v5 ≤ 0 then k2 (x0) (x1) (x2) ((x3 + 1)) else some 0
def f_X8_isWithin_2 (M : Mem)  : Nat → Nat → Int32 → Int32 → Int32 → Option (Int32)
  | 0 => fun _ _ _ _ => none
  | n + 1 => fun y0 y1 y2 y3 => s_X8_isWithin_2 M  (f_X8_isWithin_2 M  n) y0 y1 y2 y3
def f_X8_isWithin (M : Mem) (a0 : Nat) (a1 : Int32) (a2 : Int32) : Option (Int32) :=
  f_X8_isWithin_2 M FU (a0) (a1) (a2) (0)
theorem t_s_X8_isWithin_2 {X : Cx} {M : Mem} {res : Int32} {k2 : Nat → Int32 → Int32 → Int32 → Option (Int32)} (hX : OkX X cX8_isWithin RX8 0 0) (hn : Fit X shC nC) (hR : RetI X shC nC .boolean (M, res)) (hk2 : ∀ x0 x1 x2 x3, k2 x0 x1 x2 x3 = some res → GoN X shC nC 0 0 M 2 [some (.ref (X.B + x0)), some (.int (x1)), some (.int (x2)), some (.int (x3))] []) (x0 : Nat) (x1 : Int32) (x2 : Int32) (x3 : Int32) (hf : s_X8_isWithin_2 M k2 x0 x1 x2 x3 = some res) : GoN X shC nC 0 0 M 2 [some (.ref (X.B + x0)), some (.int (x1)), some (.int (x2)), some (.int (x3))] [] := by
  refine r_iload_n (i := 3) hX e_X8_isWithin_2 rfl rfl ?_
  refine r_aload_n (i := 0) hX e_X8_isWithin_3 rfl rfl ?_
  obtain ⟨g1, hf⟩ := gd_s hf
  refine r_getI hX hn e_X8_isWithin_4 fl_8_23 rfl g1 ?_
  refine r_icmp_ge hX e_X8_isWithin_7 (fun hc => ?_) (fun hc => ?_)
  · have hf := ite_t hf hc
    refine r_iconst hX e_X8_isWithin_42 ic_1 ?_
    exact r_zret hX hR rfl e_X8_isWithin_43 (ro_s hf)
  · have hf := ite_f hf hc
    refine r_aload_n (i := 0) hX e_X8_isWithin_10 rfl rfl ?_
    obtain ⟨r2, hr2, hf⟩ := bd_s hf
    refine r_getR hX hn e_X8_isWithin_11 fl_8_15 rfl g1 hr2 ?_
    refine r_iload_n (i := 3) hX e_X8_isWithin_14 rfl rfl ?_
    obtain ⟨g3, hf⟩ := gd_s hf
    refine r_lald hX hn e_X8_isWithin_15 g3 ?_
    refine r_iload_n (i := 1) hX e_X8_isWithin_16 rfl rfl ?_
    refine r_i2l hX e_X8_isWithin_17 ?_
    refine r_lcmp hX e_X8_isWithin_18 ?_
    obtain ⟨v4, hv4, hf⟩ := nx_s hf
    refine top_i hv4 ?_
    refine r_if_lt hX e_X8_isWithin_19 (fun hc => ?_) (fun hc => ?_)
    · have hf := ite_t hf hc
      refine r_iconst hX e_X8_isWithin_34 ic_0 ?_
      exact r_zret hX hR rfl e_X8_isWithin_35 (ro_s hf)
    · have hf := ite_f hf hc
      refine r_aload_n (i := 0) hX e_X8_isWithin_22 rfl rfl ?_
      refine r_getR hX hn e_X8_isWithin_23 fl_8_15 rfl g1 hr2 ?_
      refine r_iload_n (i := 3) hX e_X8_isWithin_26 rfl rfl ?_
      refine r_lald hX hn e_X8_isWithin_27 g3 ?_
      refine r_iload_n (i := 2) hX e_X8_isWithin_28 rfl rfl ?_
      refine r_i2l hX e_X8_isWithin_29 ?_
      refine r_lcmp hX e_X8_isWithin_30 ?_
      obtain ⟨v5, hv5, hf⟩ := nx_s hf
      refine top_i hv5 ?_
      refine r_if_le hX e_X8_isWithin_31 (fun hc => ?_) (fun hc => ?_)
      · have hf := ite_t hf hc
        refine r_iinc (v := x3 + 1) hX e_X8_isWithin_36 rfl (ii_s ic_1) (Nat.le_of_ble_eq_true rfl) rfl ?_
        refine r_goto hX e_X8_isWithin_39 ?_
        exact GoN.weak (hk2 (x0) (x1) (x2) ((x3 + 1)) hf) rfl (sb_s (sb_s (sb_s (sb_s (sb_z _)))))
      · have hf := ite_f hf hc
        refine r_iconst hX e_X8_isWithin_34 ic_0 ?_
        exact r_zret hX hR rfl e_X8_isWithin_35 (ro_s hf)
theorem t_X8_isWithin_2 {X : Cx} {M : Mem} {res : Int32}  (hX : OkX X cX8_isWithin RX8 0 0) (hn : Fit X shC nC) (hR : RetI X shC nC .boolean (M, res))  : ∀ (n : Nat) (x0 : Nat) (x1 : Int32) (x2 : Int32) (x3 : Int32),  f_X8_isWithin_2 M  n x0 x1 x2 x3 = some res → GoN X shC nC 0 0 M 2 [some (.ref (X.B + x0)), some (.int (x1)), some (.int (x2)), some (.int (x3))] [] := by
  intro n
  induction n with
  | zero => intro x0 x1 x2 x3 hf; cases hf
  | succ n ih => intro x0 x1 x2 x3 hf; exact t_s_X8_isWithin_2 hX hn hR  ih x0 x1 x2 x3 hf
theorem t_X8_isWithin {l : Launch} {M : Mem} {a0 : Nat} {a1 a2 : Int32} {res : Int32} (hf : f_X8_isWithin M a0 a1 a2 = some res) : Ci l yX8_isWithin cX8_isWithin 4 (some .boolean) 0 0 shC nC (fun B => [.ref (B + a0), .int a1, .int a2]) M (M, res) := by
  refine met_i (own := RX8) (lo := fun B => [some (.ref (B + a0)), some (.int a1), some (.int a2), none]) (by decide +kernel) rfl shC_ok (fun _ => rfl) (fun _ => rfl) (fun _ => Nat.le_of_ble_eq_true rfl) (fun X hX hn hlx hR => ?_)
  refine r_iconst hX e_X8_isWithin_0 ic_0 ?_
  refine r_istore_n (i := 3) hX e_X8_isWithin_1 rfl (Nat.le_of_ble_eq_true rfl) rfl ?_
  exact GoN.weak (t_X8_isWithin_2 hX hn hR FU (a0) (a1) (a2) (0) hf) rfl (sb_s (sb_s (sb_s (sb_s (sb_z _)))))
def f_X10_feed (M : Mem) (a0 : Nat) (a1 : Int32) (a2 : Int32) (a3 : Int32) (a4 : Int32) (a5 : Int32) : Option (Mem × Int32) :=
  gd (oB shC a0 10) <| bd (gR M a0 0) fun r2 => gd (oB shC r2 6) <| if (gI M r2 1) ≤ 1980 then bd (f_X6_add M r2 a1) fun u4 => bd (gR u4 a0 0) fun r5 => gd (oB shC r5 6) <| bd (f_X6_add u4 r5 a2) fun u7 => bd (gR u7 a0 0) fun r8 => gd (oB shC r8 6) <| bd (f_X6_add u7 r8 a3) fun u10 => bd (gR u10 a0 0) fun r11 => gd (oB shC r11 6) <| bd (f_X6_add u10 r11 a4) fun u13 => bd (gR u13 a0 0) fun r14 => gd (oB shC r14 6) <| bd (f_X6_add u13 r14 a5) fun u16 => bd (gR u16 a0 0) fun r17 => gd (oB shC r17 6) <| some (u16, (gI u16 r17 1)) else some (M, (-1))
theorem t_X10_feed {l : Launch} {M : Mem} {a0 : Nat} {a1 a2 a3 a4 a5 : Int32} {res : Mem × Int32} (hf : f_X10_feed M a0 a1 a2 a3 a4 a5 = some res) : Ci l yX10_feed cX10_feed 6 (some .int) 1 22 shC nC (fun B => [.ref (B + a0), .int a1, .int a2, .int a3, .int a4, .int a5]) M res := by
  refine met_i (own := RX10) (lo := fun B => [some (.ref (B + a0)), some (.int a1), some (.int a2), some (.int a3), some (.int a4), some (.int a5)]) (by decide +kernel) rfl shC_ok (fun _ => rfl) (fun _ => rfl) (fun _ => Nat.le_of_ble_eq_true rfl) (fun X hX hn hlx hR => ?_)
  refine r_aload_n (i := 0) hX e_X10_feed_0 rfl rfl ?_
  obtain ⟨g1, hf⟩ := gd_s hf
  obtain ⟨r2, hr2, hf⟩ := bd_s hf
  refine r_getR hX hn e_X10_feed_1 fl_10_12 rfl g1 hr2 ?_
  obtain ⟨g3, hf⟩ := gd_s hf
  refine r_getI hX hn e_X10_feed_4 fl_10_66 rfl g3 ?_
  refine r_sipush hX e_X10_feed_7 sc_1980 ?_
  refine r_icmp_le hX e_X10_feed_10 (fun hc => ?_) (fun hc => ?_)
  · have hf := ite_t hf hc
    refine r_aload_n (i := 0) hX e_X10_feed_15 rfl rfl ?_
    refine r_getR hX hn e_X10_feed_16 fl_10_12 rfl g1 hr2 ?_
    refine r_iload_n (i := 1) hX e_X10_feed_19 rfl rfl ?_
    obtain ⟨u4, hu4, hf⟩ := bd_s hf
    refine r_cvv (As := fun B => [.int (a1)]) hX hn (t_X6_add hu4) e_X10_feed_20 cw_X6_add cv_X6_add lk_10_70 ⟨Nat.le_of_ble_eq_true rfl, Nat.le_of_ble_eq_true rfl⟩ (ci := 6) rfl rfl (Nat.le_of_ble_eq_true rfl) g3 rfl rfl (Nat.le_of_ble_eq_true rfl) ⟨Nat.zero_le _, Nat.zero_le _⟩ ?_
    refine r_aload_n (i := 0) hX e_X10_feed_23 rfl rfl ?_
    obtain ⟨r5, hr5, hf⟩ := bd_s hf
    refine r_getR hX hn e_X10_feed_24 fl_10_12 rfl g1 hr5 ?_
    refine r_iload_n (i := 2) hX e_X10_feed_27 rfl rfl ?_
    obtain ⟨g6, hf⟩ := gd_s hf
    obtain ⟨u7, hu7, hf⟩ := bd_s hf
    refine r_cvv (As := fun B => [.int (a2)]) hX hn (t_X6_add hu7) e_X10_feed_28 cw_X6_add cv_X6_add lk_10_70 ⟨Nat.le_of_ble_eq_true rfl, Nat.le_of_ble_eq_true rfl⟩ (ci := 6) rfl rfl (Nat.le_of_ble_eq_true rfl) g6 rfl rfl (Nat.le_of_ble_eq_true rfl) ⟨Nat.zero_le _, Nat.zero_le _⟩ ?_
    refine r_aload_n (i := 0) hX e_X10_feed_31 rfl rfl ?_
    obtain ⟨r8, hr8, hf⟩ := bd_s hf
    refine r_getR hX hn e_X10_feed_32 fl_10_12 rfl g1 hr8 ?_
    refine r_iload_n (i := 3) hX e_X10_feed_35 rfl rfl ?_
    obtain ⟨g9, hf⟩ := gd_s hf
    obtain ⟨u10, hu10, hf⟩ := bd_s hf
    refine r_cvv (As := fun B => [.int (a3)]) hX hn (t_X6_add hu10) e_X10_feed_36 cw_X6_add cv_X6_add lk_10_70 ⟨Nat.le_of_ble_eq_true rfl, Nat.le_of_ble_eq_true rfl⟩ (ci := 6) rfl rfl (Nat.le_of_ble_eq_true rfl) g9 rfl rfl (Nat.le_of_ble_eq_true rfl) ⟨Nat.zero_le _, Nat.zero_le _⟩ ?_
    refine r_aload_n (i := 0) hX e_X10_feed_39 rfl rfl ?_
    obtain ⟨r11, hr11, hf⟩ := bd_s hf
    refine r_getR hX hn e_X10_feed_40 fl_10_12 rfl g1 hr11 ?_
    refine r_iload hX e_X10_feed_43 rfl ?_
    obtain ⟨g12, hf⟩ := gd_s hf
    obtain ⟨u13, hu13, hf⟩ := bd_s hf
    refine r_cvv (As := fun B => [.int (a4)]) hX hn (t_X6_add hu13) e_X10_feed_45 cw_X6_add cv_X6_add lk_10_70 ⟨Nat.le_of_ble_eq_true rfl, Nat.le_of_ble_eq_true rfl⟩ (ci := 6) rfl rfl (Nat.le_of_ble_eq_true rfl) g12 rfl rfl (Nat.le_of_ble_eq_true rfl) ⟨Nat.zero_le _, Nat.zero_le _⟩ ?_
    refine r_aload_n (i := 0) hX e_X10_feed_48 rfl rfl ?_
    obtain ⟨r14, hr14, hf⟩ := bd_s hf
    refine r_getR hX hn e_X10_feed_49 fl_10_12 rfl g1 hr14 ?_
    refine r_iload hX e_X10_feed_52 rfl ?_
    obtain ⟨g15, hf⟩ := gd_s hf
    obtain ⟨u16, hu16, hf⟩ := bd_s hf
    refine r_cvv (As := fun B => [.int (a5)]) hX hn (t_X6_add hu16) e_X10_feed_54 cw_X6_add cv_X6_add lk_10_70 ⟨Nat.le_of_ble_eq_true rfl, Nat.le_of_ble_eq_true rfl⟩ (ci := 6) rfl rfl (Nat.le_of_ble_eq_true rfl) g15 rfl rfl (Nat.le_of_ble_eq_true rfl) ⟨Nat.zero_le _, Nat.zero_le _⟩ ?_
    refine r_aload_n (i := 0) hX e_X10_feed_57 rfl rfl ?_
    obtain ⟨r17, hr17, hf⟩ := bd_s hf
    refine r_getR hX hn e_X10_feed_58 fl_10_12 rfl g1 hr17 ?_
    obtain ⟨g18, hf⟩ := gd_s hf
    refine r_getI hX hn e_X10_feed_61 fl_10_66 rfl g18 ?_
    exact r_iret hX hR e_X10_feed_64 hf
  · have hf := ite_f hf hc
    refine r_iconst hX e_X10_feed_13 ic_m1 ?_
    exact r_iret hX hR e_X10_feed_14 hf
def f_X10_end (M : Mem) (a0 : Nat) (a1 : Int32) : Option (Mem × Int32) :=
  if a1 < 0 then some (M, (-1)) else gd (oB shC a0 10) <| bd (gR M a0 0) fun r2 => gd (oB shC r2 6) <| if a1 ≤ (gI M r2 1) then nx (sI M r2 1 a1) fun M4 => some (M4, a1) else some (M, (-1))
theorem t_X10_end {l : Launch} {M : Mem} {a0 : Nat} {a1 : Int32} {res : Mem × Int32} (hf : f_X10_end M a0 a1 = some res) : Ci l yX10_end cX10_end 2 (some .int) 0 0 shC nC (fun B => [.ref (B + a0), .int a1]) M res := by
  refine met_i (own := RX10) (lo := fun B => [some (.ref (B + a0)), some (.int a1)]) (by decide +kernel) rfl shC_ok (fun _ => rfl) (fun _ => rfl) (fun _ => Nat.le_of_ble_eq_true rfl) (fun X hX hn hlx hR => ?_)
  refine r_iload_n (i := 1) hX e_X10_end_0 rfl rfl ?_
  refine r_if_lt hX e_X10_end_1 (fun hc => ?_) (fun hc => ?_)
  · have hf := ite_t hf hc
    refine r_iconst hX e_X10_end_15 ic_m1 ?_
    exact r_iret hX hR e_X10_end_16 hf
  · have hf := ite_f hf hc
    refine r_iload_n (i := 1) hX e_X10_end_4 rfl rfl ?_
    refine r_aload_n (i := 0) hX e_X10_end_5 rfl rfl ?_
    obtain ⟨g1, hf⟩ := gd_s hf
    obtain ⟨r2, hr2, hf⟩ := bd_s hf
    refine r_getR hX hn e_X10_end_6 fl_10_12 rfl g1 hr2 ?_
    obtain ⟨g3, hf⟩ := gd_s hf
    refine r_getI hX hn e_X10_end_9 fl_10_66 rfl g3 ?_
    refine r_icmp_le hX e_X10_end_12 (fun hc => ?_) (fun hc => ?_)
    · have hf := ite_t hf hc
      refine r_aload_n (i := 0) hX e_X10_end_17 rfl rfl ?_
      refine r_getR hX hn e_X10_end_18 fl_10_12 rfl g1 hr2 ?_
      refine r_iload_n (i := 1) hX e_X10_end_21 rfl rfl ?_
      obtain ⟨M4, hM4, hf⟩ := nx_s hf
      refine r_putI hX hn hM4 e_X10_end_22 fl_10_66 fp_6_1 rfl g3 ?_
      refine r_iload_n (i := 1) hX e_X10_end_25 rfl rfl ?_
      exact r_iret hX hR e_X10_end_26 hf
    · have hf := ite_f hf hc
      refine r_iconst hX e_X10_end_15 ic_m1 ?_
      exact r_iret hX hR e_X10_end_16 hf
def f_X10_fault (M : Mem) (a0 : Nat) (a1 : Int32) : Option (Int32) :=
  if a1 = 0 then gd (oB shC a0 10) <| bd (gR M a0 0) fun r2 => gd (oB shC r2 6) <| some (gI M r2 2) else if a1 = 1 then gd (oB shC a0 10) <| bd (gR M a0 0) fun r5 => gd (oB shC r5 6) <| some (gI M r5 3) else some (-1)
theorem t_X10_fault {l : Launch} {M : Mem} {a0 : Nat} {a1 : Int32} {res : Int32} (hf : f_X10_fault M a0 a1 = some res) : Ci l yX10_fault cX10_fault 2 (some .int) 0 0 shC nC (fun B => [.ref (B + a0), .int a1]) M (M, res) := by
  refine met_i (own := RX10) (lo := fun B => [some (.ref (B + a0)), some (.int a1)]) (by decide +kernel) rfl shC_ok (fun _ => rfl) (fun _ => rfl) (fun _ => Nat.le_of_ble_eq_true rfl) (fun X hX hn hlx hR => ?_)
  refine r_iload_n (i := 1) hX e_X10_fault_0 rfl rfl ?_
  by_cases hs0 : a1 = 0
  · have hf := ite_t hf hs0
    refine r_lookup (tgt := 28) (off := 27) hX e_X10_fault_1 (by decide) (by rw [hs0]; decide) (by decide) ?_
    refine r_aload_n (i := 0) hX e_X10_fault_28 rfl rfl ?_
    obtain ⟨g1, hf⟩ := gd_s hf
    obtain ⟨r2, hr2, hf⟩ := bd_s hf
    refine r_getR hX hn e_X10_fault_29 fl_10_12 rfl g1 hr2 ?_
    obtain ⟨g3, hf⟩ := gd_s hf
    refine r_getI hX hn e_X10_fault_32 fl_10_81 rfl g3 ?_
    exact r_iret hX hR e_X10_fault_35 (ro_s hf)
  have hf := ite_f hf hs0
  by_cases hs1 : a1 = 1
  · have hf := ite_t hf hs1
    refine r_lookup (tgt := 36) (off := 35) hX e_X10_fault_1 (by decide) (by rw [hs1]; decide) (by decide) ?_
    refine r_aload_n (i := 0) hX e_X10_fault_36 rfl rfl ?_
    obtain ⟨g4, hf⟩ := gd_s hf
    obtain ⟨r5, hr5, hf⟩ := bd_s hf
    refine r_getR hX hn e_X10_fault_37 fl_10_12 rfl g4 hr5 ?_
    obtain ⟨g6, hf⟩ := gd_s hf
    refine r_getI hX hn e_X10_fault_40 fl_10_84 rfl g6 ?_
    exact r_iret hX hR e_X10_fault_43 (ro_s hf)
  have hf := ite_f hf hs1
  refine r_lookup (tgt := 44) (off := 43) hX e_X10_fault_1 (by decide) ?_ (by decide) ?_
  · have z0 : a1.toInt ≠ 0 := i32_ne hs0 (by decide); have z1 : a1.toInt ≠ 1 := i32_ne hs1 (by decide); simp [Op.lookupswitch.offset, z0, z0.symm, z1, z1.symm]
  refine r_iconst hX e_X10_fault_44 ic_m1 ?_
  exact r_iret hX hR e_X10_fault_45 (ro_s hf)
def f_X10_stall (M : Mem) (a0 : Nat) (a1 : Int32) (a2 : Int32) : Option (Int32) :=
  gd (oB shC a0 10) <| bd (gR M a0 1) fun r2 => gd (oB shC r2 4) <| bd (f_X4_hasStall M r2 a1) fun v4 => if v4 = 0 then some (-2) else bd (gR M r2 7) fun r5 => gd (aB shC r5 5 a1) <| bd (gR M r5 (a1 : Int32).toNatClampNeg) fun r7 => if a2 = 0 then gd (oB shC r7 9) <| some (gI M r7 0) else if a2 = 1 then gd (oB shC r7 9) <| some (gI M r7 1) else if a2 = 2 then gd (oB shC r7 9) <| some (gI M r7 2) else if a2 = 3 then gd (oB shC r7 9) <| some (gI M r7 3) else if a2 = 4 then gd (oB shC r7 9) <| some (gI M r7 4) else if a2 = 5 then gd (oB shC r7 9) <| some (gI M r7 5) else if a2 = 6 then gd (oB shC r7 9) <| some (gI M r7 6) else some (-2)
theorem t_X10_stall {l : Launch} {M : Mem} {a0 : Nat} {a1 a2 : Int32} {res : Int32} (hf : f_X10_stall M a0 a1 a2 = some res) : Ci l yX10_stall cX10_stall 4 (some .int) 1 21 shC nC (fun B => [.ref (B + a0), .int a1, .int a2]) M (M, res) := by
  refine met_i (own := RX10) (lo := fun B => [some (.ref (B + a0)), some (.int a1), some (.int a2), none]) (by decide +kernel) rfl shC_ok (fun _ => rfl) (fun _ => rfl) (fun _ => Nat.le_of_ble_eq_true rfl) (fun X hX hn hlx hR => ?_)
  refine r_aload_n (i := 0) hX e_X10_stall_0 rfl rfl ?_
  obtain ⟨g1, hf⟩ := gd_s hf
  obtain ⟨r2, hr2, hf⟩ := bd_s hf
  refine r_getR hX hn e_X10_stall_1 fl_10_19 rfl g1 hr2 ?_
  refine r_iload_n (i := 1) hX e_X10_stall_4 rfl rfl ?_
  obtain ⟨g3, hf⟩ := gd_s hf
  obtain ⟨v4, hv4, hf⟩ := bd_s hf
  refine r_cvi (As := fun B => [.int (a1)]) hX hn (t_X4_hasStall hv4) e_X10_stall_5 cw_X4_hasStall cv_X4_hasStall lk_10_87 ⟨Nat.le_of_ble_eq_true rfl, Nat.le_of_ble_eq_true rfl⟩ (ci := 4) rfl rfl (Nat.le_of_ble_eq_true rfl) g3 rfl rfl (Nat.le_of_ble_eq_true rfl) ⟨Nat.zero_le _, Nat.zero_le _⟩ ?_
  refine r_if_ne hX e_X10_stall_8 (fun hc => ?_) (fun hc => ?_)
  · have hf := ite_f hf hc
    refine r_aload_n (i := 0) hX e_X10_stall_14 rfl rfl ?_
    refine r_getR hX hn e_X10_stall_15 fl_10_19 rfl g1 hr2 ?_
    obtain ⟨r5, hr5, hf⟩ := bd_s hf
    refine r_getR hX hn e_X10_stall_18 fl_10_91 rfl g3 hr5 ?_
    refine r_iload_n (i := 1) hX e_X10_stall_21 rfl rfl ?_
    obtain ⟨g6, hf⟩ := gd_s hf
    obtain ⟨r7, hr7, hf⟩ := bd_s hf
    refine r_aald hX hn e_X10_stall_22 g6 (Nat.le_of_ble_eq_true rfl) rfl rfl rfl hr7 ?_
    refine r_astore_n (i := 3) hX e_X10_stall_23 rfl (Nat.le_of_ble_eq_true rfl) rfl ?_
    refine r_iload_n (i := 2) hX e_X10_stall_24 rfl rfl ?_
    by_cases hs0 : a2 = 0
    · have hf := ite_t hf hs0
      refine r_tabIn (tgt := 68) hX e_X10_stall_25 (by rw [hs0]; decide) (by rw [hs0]; decide) (off := 43) (by rw [hs0]; decide) (by decide) ?_
      refine r_aload_n (i := 3) hX e_X10_stall_68 rfl rfl ?_
      obtain ⟨g8, hf⟩ := gd_s hf
      refine r_getI hX hn e_X10_stall_69 fl_10_95 rfl g8 ?_
      exact r_iret hX hR e_X10_stall_72 (ro_s hf)
    have hf := ite_f hf hs0
    by_cases hs1 : a2 = 1
    · have hf := ite_t hf hs1
      refine r_tabIn (tgt := 73) hX e_X10_stall_25 (by rw [hs1]; decide) (by rw [hs1]; decide) (off := 48) (by rw [hs1]; decide) (by decide) ?_
      refine r_aload_n (i := 3) hX e_X10_stall_73 rfl rfl ?_
      obtain ⟨g9, hf⟩ := gd_s hf
      refine r_getI hX hn e_X10_stall_74 fl_10_100 rfl g9 ?_
      exact r_iret hX hR e_X10_stall_77 (ro_s hf)
    have hf := ite_f hf hs1
    by_cases hs2 : a2 = 2
    · have hf := ite_t hf hs2
      refine r_tabIn (tgt := 78) hX e_X10_stall_25 (by rw [hs2]; decide) (by rw [hs2]; decide) (off := 53) (by rw [hs2]; decide) (by decide) ?_
      refine r_aload_n (i := 3) hX e_X10_stall_78 rfl rfl ?_
      obtain ⟨g10, hf⟩ := gd_s hf
      refine r_getI hX hn e_X10_stall_79 fl_10_103 rfl g10 ?_
      exact r_iret hX hR e_X10_stall_82 (ro_s hf)
    have hf := ite_f hf hs2
    by_cases hs3 : a2 = 3
    · have hf := ite_t hf hs3
      refine r_tabIn (tgt := 83) hX e_X10_stall_25 (by rw [hs3]; decide) (by rw [hs3]; decide) (off := 58) (by rw [hs3]; decide) (by decide) ?_
      refine r_aload_n (i := 3) hX e_X10_stall_83 rfl rfl ?_
      obtain ⟨g11, hf⟩ := gd_s hf
      refine r_getI hX hn e_X10_stall_84 fl_10_106 rfl g11 ?_
      exact r_iret hX hR e_X10_stall_87 (ro_s hf)
    have hf := ite_f hf hs3
    by_cases hs4 : a2 = 4
    · have hf := ite_t hf hs4
      refine r_tabIn (tgt := 88) hX e_X10_stall_25 (by rw [hs4]; decide) (by rw [hs4]; decide) (off := 63) (by rw [hs4]; decide) (by decide) ?_
      refine r_aload_n (i := 3) hX e_X10_stall_88 rfl rfl ?_
      obtain ⟨g12, hf⟩ := gd_s hf
      refine r_getI hX hn e_X10_stall_89 fl_10_109 rfl g12 ?_
      exact r_iret hX hR e_X10_stall_92 (ro_s hf)
    have hf := ite_f hf hs4
    by_cases hs5 : a2 = 5
    · have hf := ite_t hf hs5
      refine r_tabIn (tgt := 93) hX e_X10_stall_25 (by rw [hs5]; decide) (by rw [hs5]; decide) (off := 68) (by rw [hs5]; decide) (by decide) ?_
      refine r_aload_n (i := 3) hX e_X10_stall_93 rfl rfl ?_
      obtain ⟨g13, hf⟩ := gd_s hf
      refine r_getI hX hn e_X10_stall_94 fl_10_112 rfl g13 ?_
      exact r_iret hX hR e_X10_stall_97 (ro_s hf)
    have hf := ite_f hf hs5
    by_cases hs6 : a2 = 6
    · have hf := ite_t hf hs6
      refine r_tabIn (tgt := 98) hX e_X10_stall_25 (by rw [hs6]; decide) (by rw [hs6]; decide) (off := 73) (by rw [hs6]; decide) (by decide) ?_
      refine r_aload_n (i := 3) hX e_X10_stall_98 rfl rfl ?_
      obtain ⟨g14, hf⟩ := gd_s hf
      refine r_getI hX hn e_X10_stall_99 fl_10_115 rfl g14 ?_
      exact r_iret hX hR e_X10_stall_102 (ro_s hf)
    have hf := ite_f hf hs6
    refine r_tabOut (tgt := 103) hX e_X10_stall_25 ?_ (by decide) ?_
    · have z0 : a2.toInt ≠ 0 := i32_ne hs0 (by decide); have z1 : a2.toInt ≠ 1 := i32_ne hs1 (by decide); have z2 : a2.toInt ≠ 2 := i32_ne hs2 (by decide); have z3 : a2.toInt ≠ 3 := i32_ne hs3 (by decide); have z4 : a2.toInt ≠ 4 := i32_ne hs4 (by decide); have z5 : a2.toInt ≠ 5 := i32_ne hs5 (by decide); have z6 : a2.toInt ≠ 6 := i32_ne hs6 (by decide); omega
    refine r_bipush hX e_X10_stall_103 bc_m2 ?_
    exact r_iret hX hR e_X10_stall_105 (ro_s hf)
  · have hf := ite_t hf hc
    refine r_bipush hX e_X10_stall_11 bc_m2 ?_
    exact r_iret hX hR e_X10_stall_13 (ro_s hf)
def f_X10_buyer (M : Mem) (a0 : Nat) (a1 : Int32) (a2 : Int32) : Option (Int32) :=
  gd (oB shC a0 10) <| bd (gR M a0 1) fun r2 => gd (oB shC r2 4) <| bd (f_X4_hasBuyer M r2 a1) fun v4 => if v4 = 0 then some (-2) else bd (gR M r2 8) fun r5 => gd (aB shC r5 6 a1) <| bd (gR M r5 (a1 : Int32).toNatClampNeg) fun r7 => if a2 = 0 then gd (oB shC r7 1) <| some (gI M r7 0) else if a2 = 1 then gd (oB shC r7 1) <| some (gI M r7 1) else if a2 = 2 then gd (oB shC r7 1) <| some (gI M r7 2) else if a2 = 3 then gd (oB shC r7 1) <| some (gI M r7 3) else some (-2)
theorem t_X10_buyer {l : Launch} {M : Mem} {a0 : Nat} {a1 a2 : Int32} {res : Int32} (hf : f_X10_buyer M a0 a1 a2 = some res) : Ci l yX10_buyer cX10_buyer 4 (some .int) 1 21 shC nC (fun B => [.ref (B + a0), .int a1, .int a2]) M (M, res) := by
  refine met_i (own := RX10) (lo := fun B => [some (.ref (B + a0)), some (.int a1), some (.int a2), none]) (by decide +kernel) rfl shC_ok (fun _ => rfl) (fun _ => rfl) (fun _ => Nat.le_of_ble_eq_true rfl) (fun X hX hn hlx hR => ?_)
  refine r_aload_n (i := 0) hX e_X10_buyer_0 rfl rfl ?_
  obtain ⟨g1, hf⟩ := gd_s hf
  obtain ⟨r2, hr2, hf⟩ := bd_s hf
  refine r_getR hX hn e_X10_buyer_1 fl_10_19 rfl g1 hr2 ?_
  refine r_iload_n (i := 1) hX e_X10_buyer_4 rfl rfl ?_
  obtain ⟨g3, hf⟩ := gd_s hf
  obtain ⟨v4, hv4, hf⟩ := bd_s hf
  refine r_cvi (As := fun B => [.int (a1)]) hX hn (t_X4_hasBuyer hv4) e_X10_buyer_5 cw_X4_hasBuyer cv_X4_hasBuyer lk_10_118 ⟨Nat.le_of_ble_eq_true rfl, Nat.le_of_ble_eq_true rfl⟩ (ci := 4) rfl rfl (Nat.le_of_ble_eq_true rfl) g3 rfl rfl (Nat.le_of_ble_eq_true rfl) ⟨Nat.zero_le _, Nat.zero_le _⟩ ?_
  refine r_if_ne hX e_X10_buyer_8 (fun hc => ?_) (fun hc => ?_)
  · have hf := ite_f hf hc
    refine r_aload_n (i := 0) hX e_X10_buyer_14 rfl rfl ?_
    refine r_getR hX hn e_X10_buyer_15 fl_10_19 rfl g1 hr2 ?_
    obtain ⟨r5, hr5, hf⟩ := bd_s hf
    refine r_getR hX hn e_X10_buyer_18 fl_10_121 rfl g3 hr5 ?_
    refine r_iload_n (i := 1) hX e_X10_buyer_21 rfl rfl ?_
    obtain ⟨g6, hf⟩ := gd_s hf
    obtain ⟨r7, hr7, hf⟩ := bd_s hf
    refine r_aald hX hn e_X10_buyer_22 g6 (Nat.le_of_ble_eq_true rfl) rfl rfl rfl hr7 ?_
    refine r_astore_n (i := 3) hX e_X10_buyer_23 rfl (Nat.le_of_ble_eq_true rfl) rfl ?_
    refine r_iload_n (i := 2) hX e_X10_buyer_24 rfl rfl ?_
    by_cases hs0 : a2 = 0
    · have hf := ite_t hf hs0
      refine r_tabIn (tgt := 56) hX e_X10_buyer_25 (by rw [hs0]; decide) (by rw [hs0]; decide) (off := 31) (by rw [hs0]; decide) (by decide) ?_
      refine r_aload_n (i := 3) hX e_X10_buyer_56 rfl rfl ?_
      obtain ⟨g8, hf⟩ := gd_s hf
      refine r_getI hX hn e_X10_buyer_57 fl_10_125 rfl g8 ?_
      exact r_iret hX hR e_X10_buyer_60 (ro_s hf)
    have hf := ite_f hf hs0
    by_cases hs1 : a2 = 1
    · have hf := ite_t hf hs1
      refine r_tabIn (tgt := 61) hX e_X10_buyer_25 (by rw [hs1]; decide) (by rw [hs1]; decide) (off := 36) (by rw [hs1]; decide) (by decide) ?_
      refine r_aload_n (i := 3) hX e_X10_buyer_61 rfl rfl ?_
      obtain ⟨g9, hf⟩ := gd_s hf
      refine r_getI hX hn e_X10_buyer_62 fl_10_130 rfl g9 ?_
      exact r_iret hX hR e_X10_buyer_65 (ro_s hf)
    have hf := ite_f hf hs1
    by_cases hs2 : a2 = 2
    · have hf := ite_t hf hs2
      refine r_tabIn (tgt := 66) hX e_X10_buyer_25 (by rw [hs2]; decide) (by rw [hs2]; decide) (off := 41) (by rw [hs2]; decide) (by decide) ?_
      refine r_aload_n (i := 3) hX e_X10_buyer_66 rfl rfl ?_
      obtain ⟨g10, hf⟩ := gd_s hf
      refine r_getI hX hn e_X10_buyer_67 fl_10_133 rfl g10 ?_
      exact r_iret hX hR e_X10_buyer_70 (ro_s hf)
    have hf := ite_f hf hs2
    by_cases hs3 : a2 = 3
    · have hf := ite_t hf hs3
      refine r_tabIn (tgt := 71) hX e_X10_buyer_25 (by rw [hs3]; decide) (by rw [hs3]; decide) (off := 46) (by rw [hs3]; decide) (by decide) ?_
      refine r_aload_n (i := 3) hX e_X10_buyer_71 rfl rfl ?_
      obtain ⟨g11, hf⟩ := gd_s hf
      refine r_getI hX hn e_X10_buyer_72 fl_10_136 rfl g11 ?_
      exact r_iret hX hR e_X10_buyer_75 (ro_s hf)
    have hf := ite_f hf hs3
    refine r_tabOut (tgt := 76) hX e_X10_buyer_25 ?_ (by decide) ?_
    · have z0 : a2.toInt ≠ 0 := i32_ne hs0 (by decide); have z1 : a2.toInt ≠ 1 := i32_ne hs1 (by decide); have z2 : a2.toInt ≠ 2 := i32_ne hs2 (by decide); have z3 : a2.toInt ≠ 3 := i32_ne hs3 (by decide); omega
    refine r_bipush hX e_X10_buyer_76 bc_m2 ?_
    exact r_iret hX hR e_X10_buyer_78 (ro_s hf)
  · have hf := ite_t hf hc
    refine r_bipush hX e_X10_buyer_11 bc_m2 ?_
    exact r_iret hX hR e_X10_buyer_13 (ro_s hf)
def f_X10_want (M : Mem) (a0 : Nat) (a1 : Int32) (a2 : Int32) (a3 : Int32) : Option (Int32) :=
  gd (oB shC a0 10) <| bd (gR M a0 1) fun r2 => gd (oB shC r2 4) <| bd (f_X4_hasBuyer M r2 a1) fun v4 => if v4 = 0 then some (-2) else if a2 < 0 then some (-2) else bd (gR M r2 8) fun r5 => gd (aB shC r5 6 a1) <| bd (gR M r5 (a1 : Int32).toNatClampNeg) fun r7 => gd (oB shC r7 1) <| if a2 < (gI M r7 3) then if a3 = 0 then bd (gR M r7 4) fun r9 => gd (aB shC r9 0 a2) <| some (gI M r9 (a2 : Int32).toNatClampNeg) else if a3 = 1 then bd (gR M r7 5) fun r11 => gd (aB shC r11 0 a2) <| some (gI M r11 (a2 : Int32).toNatClampNeg) else if a3 = 2 then bd (gR M r7 6) fun r13 => gd (aB shC r13 0 a2) <| some (gI M r13 (a2 : Int32).toNatClampNeg) else some (-2) else some (-2)
theorem t_X10_want {l : Launch} {M : Mem} {a0 : Nat} {a1 a2 a3 : Int32} {res : Int32} (hf : f_X10_want M a0 a1 a2 a3 = some res) : Ci l yX10_want cX10_want 5 (some .int) 1 21 shC nC (fun B => [.ref (B + a0), .int a1, .int a2, .int a3]) M (M, res) := by
  refine met_i (own := RX10) (lo := fun B => [some (.ref (B + a0)), some (.int a1), some (.int a2), some (.int a3), none]) (by decide +kernel) rfl shC_ok (fun _ => rfl) (fun _ => rfl) (fun _ => Nat.le_of_ble_eq_true rfl) (fun X hX hn hlx hR => ?_)
  refine r_aload_n (i := 0) hX e_X10_want_0 rfl rfl ?_
  obtain ⟨g1, hf⟩ := gd_s hf
  obtain ⟨r2, hr2, hf⟩ := bd_s hf
  refine r_getR hX hn e_X10_want_1 fl_10_19 rfl g1 hr2 ?_
  refine r_iload_n (i := 1) hX e_X10_want_4 rfl rfl ?_
  obtain ⟨g3, hf⟩ := gd_s hf
  obtain ⟨v4, hv4, hf⟩ := bd_s hf
  refine r_cvi (As := fun B => [.int (a1)]) hX hn (t_X4_hasBuyer hv4) e_X10_want_5 cw_X4_hasBuyer cv_X4_hasBuyer lk_10_118 ⟨Nat.le_of_ble_eq_true rfl, Nat.le_of_ble_eq_true rfl⟩ (ci := 4) rfl rfl (Nat.le_of_ble_eq_true rfl) g3 rfl rfl (Nat.le_of_ble_eq_true rfl) ⟨Nat.zero_le _, Nat.zero_le _⟩ ?_
  refine r_if_eq hX e_X10_want_8 (fun hc => ?_) (fun hc => ?_)
  · have hf := ite_t hf hc
    refine r_bipush hX e_X10_want_31 bc_m2 ?_
    exact r_iret hX hR e_X10_want_33 (ro_s hf)
  · have hf := ite_f hf hc
    refine r_iload_n (i := 2) hX e_X10_want_11 rfl rfl ?_
    refine r_if_lt hX e_X10_want_12 (fun hc => ?_) (fun hc => ?_)
    · have hf := ite_t hf hc
      refine r_bipush hX e_X10_want_31 bc_m2 ?_
      exact r_iret hX hR e_X10_want_33 (ro_s hf)
    · have hf := ite_f hf hc
      refine r_iload_n (i := 2) hX e_X10_want_15 rfl rfl ?_
      refine r_aload_n (i := 0) hX e_X10_want_16 rfl rfl ?_
      refine r_getR hX hn e_X10_want_17 fl_10_19 rfl g1 hr2 ?_
      obtain ⟨r5, hr5, hf⟩ := bd_s hf
      refine r_getR hX hn e_X10_want_20 fl_10_121 rfl g3 hr5 ?_
      refine r_iload_n (i := 1) hX e_X10_want_23 rfl rfl ?_
      obtain ⟨g6, hf⟩ := gd_s hf
      obtain ⟨r7, hr7, hf⟩ := bd_s hf
      refine r_aald hX hn e_X10_want_24 g6 (Nat.le_of_ble_eq_true rfl) rfl rfl rfl hr7 ?_
      obtain ⟨g8, hf⟩ := gd_s hf
      refine r_getI hX hn e_X10_want_25 fl_10_136 rfl g8 ?_
      refine r_icmp_lt hX e_X10_want_28 (fun hc => ?_) (fun hc => ?_)
      · have hf := ite_t hf hc
        refine r_aload_n (i := 0) hX e_X10_want_34 rfl rfl ?_
        refine r_getR hX hn e_X10_want_35 fl_10_19 rfl g1 hr2 ?_
        refine r_getR hX hn e_X10_want_38 fl_10_121 rfl g3 hr5 ?_
        refine r_iload_n (i := 1) hX e_X10_want_41 rfl rfl ?_
        refine r_aald hX hn e_X10_want_42 g6 (Nat.le_of_ble_eq_true rfl) rfl rfl rfl hr7 ?_
        refine r_astore hX e_X10_want_43 (Nat.le_of_ble_eq_true rfl) rfl ?_
        refine r_iload_n (i := 3) hX e_X10_want_45 rfl rfl ?_
        by_cases hs0 : a3 = 0
        · have hf := ite_t hf hs0
          refine r_tabIn (tgt := 72) hX e_X10_want_46 (by rw [hs0]; decide) (by rw [hs0]; decide) (off := 26) (by rw [hs0]; decide) (by decide) ?_
          refine r_aload hX e_X10_want_72 rfl ?_
          obtain ⟨r9, hr9, hf⟩ := bd_s hf
          refine r_getR hX hn e_X10_want_74 fl_10_139 rfl g8 hr9 ?_
          refine r_iload_n (i := 2) hX e_X10_want_77 rfl rfl ?_
          obtain ⟨g10, hf⟩ := gd_s hf
          refine r_iald hX hn e_X10_want_78 g10 ?_
          exact r_iret hX hR e_X10_want_79 (ro_s hf)
        have hf := ite_f hf hs0
        by_cases hs1 : a3 = 1
        · have hf := ite_t hf hs1
          refine r_tabIn (tgt := 80) hX e_X10_want_46 (by rw [hs1]; decide) (by rw [hs1]; decide) (off := 34) (by rw [hs1]; decide) (by decide) ?_
          refine r_aload hX e_X10_want_80 rfl ?_
          obtain ⟨r11, hr11, hf⟩ := bd_s hf
          refine r_getR hX hn e_X10_want_82 fl_10_142 rfl g8 hr11 ?_
          refine r_iload_n (i := 2) hX e_X10_want_85 rfl rfl ?_
          obtain ⟨g12, hf⟩ := gd_s hf
          refine r_iald hX hn e_X10_want_86 g12 ?_
          exact r_iret hX hR e_X10_want_87 (ro_s hf)
        have hf := ite_f hf hs1
        by_cases hs2 : a3 = 2
        · have hf := ite_t hf hs2
          refine r_tabIn (tgt := 88) hX e_X10_want_46 (by rw [hs2]; decide) (by rw [hs2]; decide) (off := 42) (by rw [hs2]; decide) (by decide) ?_
          refine r_aload hX e_X10_want_88 rfl ?_
          obtain ⟨r13, hr13, hf⟩ := bd_s hf
          refine r_getR hX hn e_X10_want_90 fl_10_144 rfl g8 hr13 ?_
          refine r_iload_n (i := 2) hX e_X10_want_93 rfl rfl ?_
          obtain ⟨g14, hf⟩ := gd_s hf
          refine r_iald hX hn e_X10_want_94 g14 ?_
          exact r_iret hX hR e_X10_want_95 (ro_s hf)
        have hf := ite_f hf hs2
        refine r_tabOut (tgt := 96) hX e_X10_want_46 ?_ (by decide) ?_
        · have z0 : a3.toInt ≠ 0 := i32_ne hs0 (by decide); have z1 : a3.toInt ≠ 1 := i32_ne hs1 (by decide); have z2 : a3.toInt ≠ 2 := i32_ne hs2 (by decide); omega
        refine r_bipush hX e_X10_want_96 bc_m2 ?_
        exact r_iret hX hR e_X10_want_98 (ro_s hf)
      · have hf := ite_f hf hc
        refine r_bipush hX e_X10_want_31 bc_m2 ?_
        exact r_iret hX hR e_X10_want_33 (ro_s hf)
def f_X10_areTwoStalls (M : Mem) (a0 : Nat) (a1 : Int32) (a2 : Int32) : Option (Int32) :=
  gd (oB shC a0 10) <| bd (gR M a0 1) fun r2 => gd (oB shC r2 4) <| bd (f_X4_hasStall M r2 a1) fun v4 => if v4 = 0 then some 0 else bd (f_X4_hasStall M r2 a2) fun v5 => if v5 = 0 then some 0 else if a1 = a2 then some 0 else some 1
theorem t_X10_areTwoStalls {l : Launch} {M : Mem} {a0 : Nat} {a1 a2 : Int32} {res : Int32} (hf : f_X10_areTwoStalls M a0 a1 a2 = some res) : Ci l yX10_areTwoStalls cX10_areTwoStalls 3 (some .boolean) 1 21 shC nC (fun B => [.ref (B + a0), .int a1, .int a2]) M (M, res) := by
  refine met_i (own := RX10) (lo := fun B => [some (.ref (B + a0)), some (.int a1), some (.int a2)]) (by decide +kernel) rfl shC_ok (fun _ => rfl) (fun _ => rfl) (fun _ => Nat.le_of_ble_eq_true rfl) (fun X hX hn hlx hR => ?_)
  refine r_aload_n (i := 0) hX e_X10_areTwoStalls_0 rfl rfl ?_
  obtain ⟨g1, hf⟩ := gd_s hf
  obtain ⟨r2, hr2, hf⟩ := bd_s hf
  refine r_getR hX hn e_X10_areTwoStalls_1 fl_10_19 rfl g1 hr2 ?_
  refine r_iload_n (i := 1) hX e_X10_areTwoStalls_4 rfl rfl ?_
  obtain ⟨g3, hf⟩ := gd_s hf
  obtain ⟨v4, hv4, hf⟩ := bd_s hf
  refine r_cvi (As := fun B => [.int (a1)]) hX hn (t_X4_hasStall hv4) e_X10_areTwoStalls_5 cw_X4_hasStall cv_X4_hasStall lk_10_87 ⟨Nat.le_of_ble_eq_true rfl, Nat.le_of_ble_eq_true rfl⟩ (ci := 4) rfl rfl (Nat.le_of_ble_eq_true rfl) g3 rfl rfl (Nat.le_of_ble_eq_true rfl) ⟨Nat.zero_le _, Nat.zero_le _⟩ ?_
  refine r_if_eq hX e_X10_areTwoStalls_8 (fun hc => ?_) (fun hc => ?_)
  · have hf := ite_t hf hc
    refine r_iconst hX e_X10_areTwoStalls_31 ic_0 ?_
    exact r_zret hX hR rfl e_X10_areTwoStalls_32 (ro_s hf)
  · have hf := ite_f hf hc
    refine r_aload_n (i := 0) hX e_X10_areTwoStalls_11 rfl rfl ?_
    refine r_getR hX hn e_X10_areTwoStalls_12 fl_10_19 rfl g1 hr2 ?_
    refine r_iload_n (i := 2) hX e_X10_areTwoStalls_15 rfl rfl ?_
    obtain ⟨v5, hv5, hf⟩ := bd_s hf
    refine r_cvi (As := fun B => [.int (a2)]) hX hn (t_X4_hasStall hv5) e_X10_areTwoStalls_16 cw_X4_hasStall cv_X4_hasStall lk_10_87 ⟨Nat.le_of_ble_eq_true rfl, Nat.le_of_ble_eq_true rfl⟩ (ci := 4) rfl rfl (Nat.le_of_ble_eq_true rfl) g3 rfl rfl (Nat.le_of_ble_eq_true rfl) ⟨Nat.zero_le _, Nat.zero_le _⟩ ?_
    refine r_if_eq hX e_X10_areTwoStalls_19 (fun hc => ?_) (fun hc => ?_)
    · have hf := ite_t hf hc
      refine r_iconst hX e_X10_areTwoStalls_31 ic_0 ?_
      exact r_zret hX hR rfl e_X10_areTwoStalls_32 (ro_s hf)
    · have hf := ite_f hf hc
      refine r_iload_n (i := 1) hX e_X10_areTwoStalls_22 rfl rfl ?_
      refine r_iload_n (i := 2) hX e_X10_areTwoStalls_23 rfl rfl ?_
      refine r_icmp_eq hX e_X10_areTwoStalls_24 (fun hc => ?_) (fun hc => ?_)
      · have hf := ite_t hf hc
        refine r_iconst hX e_X10_areTwoStalls_31 ic_0 ?_
        exact r_zret hX hR rfl e_X10_areTwoStalls_32 (ro_s hf)
      · have hf := ite_f hf hc
        refine r_iconst hX e_X10_areTwoStalls_27 ic_1 ?_
        refine r_goto hX e_X10_areTwoStalls_28 ?_
        exact r_zret hX hR rfl e_X10_areTwoStalls_32 (ro_s hf)
def f_X10_moves (M : Mem) (a0 : Nat) (a1 : Int32) (a2 : Int32) : Option (Mem × Int32) :=
  gd (oB shC a0 10) <| bd (gR M a0 1) fun r2 => gd (oB shC r2 4) <| bd (f_X4_hasBuyer M r2 a1) fun v4 => if v4 = 0 then some (M, (-2)) else bd (f_X4_hasPlace M r2 a2) fun v5 => if v5 = 0 then some (M, (-2)) else bd (gR M r2 8) fun r6 => gd (aB shC r6 6 a1) <| bd (gR M r6 (a1 : Int32).toNatClampNeg) fun r8 => gd (oB shC r8 1) <| nx (sI M r8 0 a2) fun M10 => nx (sI M10 a0 7 0) fun M11 => some (M11, (gI M r8 0))
theorem t_X10_moves {l : Launch} {M : Mem} {a0 : Nat} {a1 a2 : Int32} {res : Mem × Int32} (hf : f_X10_moves M a0 a1 a2 = some res) : Ci l yX10_moves cX10_moves 4 (some .int) 1 21 shC nC (fun B => [.ref (B + a0), .int a1, .int a2]) M res := by
  refine met_i (own := RX10) (lo := fun B => [some (.ref (B + a0)), some (.int a1), some (.int a2), none]) (by decide +kernel) rfl shC_ok (fun _ => rfl) (fun _ => rfl) (fun _ => Nat.le_of_ble_eq_true rfl) (fun X hX hn hlx hR => ?_)
  refine r_aload_n (i := 0) hX e_X10_moves_0 rfl rfl ?_
  obtain ⟨g1, hf⟩ := gd_s hf
  obtain ⟨r2, hr2, hf⟩ := bd_s hf
  refine r_getR hX hn e_X10_moves_1 fl_10_19 rfl g1 hr2 ?_
  refine r_iload_n (i := 1) hX e_X10_moves_4 rfl rfl ?_
  obtain ⟨g3, hf⟩ := gd_s hf
  obtain ⟨v4, hv4, hf⟩ := bd_s hf
  refine r_cvi (As := fun B => [.int (a1)]) hX hn (t_X4_hasBuyer hv4) e_X10_moves_5 cw_X4_hasBuyer cv_X4_hasBuyer lk_10_118 ⟨Nat.le_of_ble_eq_true rfl, Nat.le_of_ble_eq_true rfl⟩ (ci := 4) rfl rfl (Nat.le_of_ble_eq_true rfl) g3 rfl rfl (Nat.le_of_ble_eq_true rfl) ⟨Nat.zero_le _, Nat.zero_le _⟩ ?_
  refine r_if_eq hX e_X10_moves_8 (fun hc => ?_) (fun hc => ?_)
  · have hf := ite_t hf hc
    refine r_bipush hX e_X10_moves_22 bc_m2 ?_
    exact r_iret hX hR e_X10_moves_24 hf
  · have hf := ite_f hf hc
    refine r_aload_n (i := 0) hX e_X10_moves_11 rfl rfl ?_
    refine r_getR hX hn e_X10_moves_12 fl_10_19 rfl g1 hr2 ?_
    refine r_iload_n (i := 2) hX e_X10_moves_15 rfl rfl ?_
    obtain ⟨v5, hv5, hf⟩ := bd_s hf
    refine r_cvi (As := fun B => [.int (a2)]) hX hn (t_X4_hasPlace hv5) e_X10_moves_16 cw_X4_hasPlace cv_X4_hasPlace lk_10_163 ⟨Nat.le_of_ble_eq_true rfl, Nat.le_of_ble_eq_true rfl⟩ (ci := 4) rfl rfl (Nat.le_of_ble_eq_true rfl) g3 rfl rfl (Nat.le_of_ble_eq_true rfl) ⟨Nat.zero_le _, Nat.zero_le _⟩ ?_
    refine r_if_ne hX e_X10_moves_19 (fun hc => ?_) (fun hc => ?_)
    · have hf := ite_f hf hc
      refine r_aload_n (i := 0) hX e_X10_moves_25 rfl rfl ?_
      refine r_getR hX hn e_X10_moves_26 fl_10_19 rfl g1 hr2 ?_
      obtain ⟨r6, hr6, hf⟩ := bd_s hf
      refine r_getR hX hn e_X10_moves_29 fl_10_121 rfl g3 hr6 ?_
      refine r_iload_n (i := 1) hX e_X10_moves_32 rfl rfl ?_
      obtain ⟨g7, hf⟩ := gd_s hf
      obtain ⟨r8, hr8, hf⟩ := bd_s hf
      refine r_aald hX hn e_X10_moves_33 g7 (Nat.le_of_ble_eq_true rfl) rfl rfl rfl hr8 ?_
      obtain ⟨g9, hf⟩ := gd_s hf
      refine r_getI hX hn e_X10_moves_34 fl_10_125 rfl g9 ?_
      refine r_istore_n (i := 3) hX e_X10_moves_37 rfl (Nat.le_of_ble_eq_true rfl) rfl ?_
      refine r_aload_n (i := 0) hX e_X10_moves_38 rfl rfl ?_
      refine r_getR hX hn e_X10_moves_39 fl_10_19 rfl g1 hr2 ?_
      refine r_getR hX hn e_X10_moves_42 fl_10_121 rfl g3 hr6 ?_
      refine r_iload_n (i := 1) hX e_X10_moves_45 rfl rfl ?_
      refine r_aald hX hn e_X10_moves_46 g7 (Nat.le_of_ble_eq_true rfl) rfl rfl rfl hr8 ?_
      refine r_iload_n (i := 2) hX e_X10_moves_47 rfl rfl ?_
      obtain ⟨M10, hM10, hf⟩ := nx_s hf
      refine r_putI hX hn hM10 e_X10_moves_48 fl_10_125 fp_1_0 rfl g9 ?_
      refine r_aload_n (i := 0) hX e_X10_moves_51 rfl rfl ?_
      refine r_iconst hX e_X10_moves_52 ic_0 ?_
      obtain ⟨M11, hM11, hf⟩ := nx_s hf
      refine r_putZ hX hn hM11 rfl e_X10_moves_53 fl_10_47 fp_10_7 rfl g1 ?_
      refine r_iload_n (i := 3) hX e_X10_moves_56 rfl rfl ?_
      exact r_iret hX hR e_X10_moves_57 hf
    · have hf := ite_t hf hc
      refine r_bipush hX e_X10_moves_22 bc_m2 ?_
      exact r_iret hX hR e_X10_moves_24 hf
def f_X10_offer (M : Mem) (a0 : Nat) (a1 : Int32) (a2 : Int32) : Option (Mem × Int32) :=
  gd (oB shC a0 10) <| bd (gR M a0 1) fun r2 => gd (oB shC r2 4) <| bd (f_X4_hasStall M r2 a1) fun v4 => if v4 = 0 then some (M, (-2)) else if a2 < 0 then some (M, (-2)) else if a2 ≤ 99 then bd (gR M r2 7) fun r5 => gd (aB shC r5 5 a1) <| bd (gR M r5 (a1 : Int32).toNatClampNeg) fun r7 => gd (oB shC r7 9) <| nx (sI M r7 4 a2) fun M9 => nx (sI M9 a0 7 0) fun M10 => some (M10, (gI M r7 4)) else some (M, (-2))
theorem t_X10_offer {l : Launch} {M : Mem} {a0 : Nat} {a1 a2 : Int32} {res : Mem × Int32} (hf : f_X10_offer M a0 a1 a2 = some res) : Ci l yX10_offer cX10_offer 4 (some .int) 1 21 shC nC (fun B => [.ref (B + a0), .int a1, .int a2]) M res := by
  refine met_i (own := RX10) (lo := fun B => [some (.ref (B + a0)), some (.int a1), some (.int a2), none]) (by decide +kernel) rfl shC_ok (fun _ => rfl) (fun _ => rfl) (fun _ => Nat.le_of_ble_eq_true rfl) (fun X hX hn hlx hR => ?_)
  refine r_aload_n (i := 0) hX e_X10_offer_0 rfl rfl ?_
  obtain ⟨g1, hf⟩ := gd_s hf
  obtain ⟨r2, hr2, hf⟩ := bd_s hf
  refine r_getR hX hn e_X10_offer_1 fl_10_19 rfl g1 hr2 ?_
  refine r_iload_n (i := 1) hX e_X10_offer_4 rfl rfl ?_
  obtain ⟨g3, hf⟩ := gd_s hf
  obtain ⟨v4, hv4, hf⟩ := bd_s hf
  refine r_cvi (As := fun B => [.int (a1)]) hX hn (t_X4_hasStall hv4) e_X10_offer_5 cw_X4_hasStall cv_X4_hasStall lk_10_87 ⟨Nat.le_of_ble_eq_true rfl, Nat.le_of_ble_eq_true rfl⟩ (ci := 4) rfl rfl (Nat.le_of_ble_eq_true rfl) g3 rfl rfl (Nat.le_of_ble_eq_true rfl) ⟨Nat.zero_le _, Nat.zero_le _⟩ ?_
  refine r_if_eq hX e_X10_offer_8 (fun hc => ?_) (fun hc => ?_)
  · have hf := ite_t hf hc
    refine r_bipush hX e_X10_offer_21 bc_m2 ?_
    exact r_iret hX hR e_X10_offer_23 hf
  · have hf := ite_f hf hc
    refine r_iload_n (i := 2) hX e_X10_offer_11 rfl rfl ?_
    refine r_if_lt hX e_X10_offer_12 (fun hc => ?_) (fun hc => ?_)
    · have hf := ite_t hf hc
      refine r_bipush hX e_X10_offer_21 bc_m2 ?_
      exact r_iret hX hR e_X10_offer_23 hf
    · have hf := ite_f hf hc
      refine r_iload_n (i := 2) hX e_X10_offer_15 rfl rfl ?_
      refine r_bipush hX e_X10_offer_16 bc_99 ?_
      refine r_icmp_le hX e_X10_offer_18 (fun hc => ?_) (fun hc => ?_)
      · have hf := ite_t hf hc
        refine r_aload_n (i := 0) hX e_X10_offer_24 rfl rfl ?_
        refine r_getR hX hn e_X10_offer_25 fl_10_19 rfl g1 hr2 ?_
        obtain ⟨r5, hr5, hf⟩ := bd_s hf
        refine r_getR hX hn e_X10_offer_28 fl_10_91 rfl g3 hr5 ?_
        refine r_iload_n (i := 1) hX e_X10_offer_31 rfl rfl ?_
        obtain ⟨g6, hf⟩ := gd_s hf
        obtain ⟨r7, hr7, hf⟩ := bd_s hf
        refine r_aald hX hn e_X10_offer_32 g6 (Nat.le_of_ble_eq_true rfl) rfl rfl rfl hr7 ?_
        obtain ⟨g8, hf⟩ := gd_s hf
        refine r_getI hX hn e_X10_offer_33 fl_10_109 rfl g8 ?_
        refine r_istore_n (i := 3) hX e_X10_offer_36 rfl (Nat.le_of_ble_eq_true rfl) rfl ?_
        refine r_aload_n (i := 0) hX e_X10_offer_37 rfl rfl ?_
        refine r_getR hX hn e_X10_offer_38 fl_10_19 rfl g1 hr2 ?_
        refine r_getR hX hn e_X10_offer_41 fl_10_91 rfl g3 hr5 ?_
        refine r_iload_n (i := 1) hX e_X10_offer_44 rfl rfl ?_
        refine r_aald hX hn e_X10_offer_45 g6 (Nat.le_of_ble_eq_true rfl) rfl rfl rfl hr7 ?_
        refine r_iload_n (i := 2) hX e_X10_offer_46 rfl rfl ?_
        obtain ⟨M9, hM9, hf⟩ := nx_s hf
        refine r_putI hX hn hM9 e_X10_offer_47 fl_10_109 fp_9_4 rfl g8 ?_
        refine r_aload_n (i := 0) hX e_X10_offer_50 rfl rfl ?_
        refine r_iconst hX e_X10_offer_51 ic_0 ?_
        obtain ⟨M10, hM10, hf⟩ := nx_s hf
        refine r_putZ hX hn hM10 rfl e_X10_offer_52 fl_10_47 fp_10_7 rfl g1 ?_
        refine r_iload_n (i := 3) hX e_X10_offer_55 rfl rfl ?_
        exact r_iret hX hR e_X10_offer_56 hf
      · have hf := ite_f hf hc
        refine r_bipush hX e_X10_offer_21 bc_m2 ?_
        exact r_iret hX hR e_X10_offer_23 hf
def f_X10_isSlot (M : Mem) (a0 : Int32) : Option (Int32) :=
  if a0 < 0 then some 0 else if 4 ≤ a0 then some 0 else some 1
theorem t_X10_isSlot {l : Launch} {M : Mem} {a0 : Int32} {res : Int32} (hf : f_X10_isSlot M a0 = some res) : Ci l yX10_isSlot cX10_isSlot 1 (some .boolean) 0 0 shC nC (fun B => [.int a0]) M (M, res) := by
  refine met_i (own := RX10) (lo := fun B => [some (.int a0)]) (by decide +kernel) rfl shC_ok (fun _ => rfl) (fun _ => rfl) (fun _ => Nat.le_of_ble_eq_true rfl) (fun X hX hn hlx hR => ?_)
  refine r_iload_n (i := 0) hX e_X10_isSlot_0 rfl rfl ?_
  refine r_if_lt hX e_X10_isSlot_1 (fun hc => ?_) (fun hc => ?_)
  · have hf := ite_t hf hc
    refine r_iconst hX e_X10_isSlot_13 ic_0 ?_
    exact r_zret hX hR rfl e_X10_isSlot_14 (ro_s hf)
  · have hf := ite_f hf hc
    refine r_iload_n (i := 0) hX e_X10_isSlot_4 rfl rfl ?_
    refine r_iconst hX e_X10_isSlot_5 ic_4 ?_
    refine r_icmp_ge hX e_X10_isSlot_6 (fun hc => ?_) (fun hc => ?_)
    · have hf := ite_t hf hc
      refine r_iconst hX e_X10_isSlot_13 ic_0 ?_
      exact r_zret hX hR rfl e_X10_isSlot_14 (ro_s hf)
    · have hf := ite_f hf hc
      refine r_iconst hX e_X10_isSlot_9 ic_1 ?_
      refine r_goto hX e_X10_isSlot_10 ?_
      exact r_zret hX hR rfl e_X10_isSlot_14 (ro_s hf)
def f_X10_turn (M : Mem) (a0 : Nat) (a1 : Int32) (a2 : Int32) : Option (Mem × Int32) :=
  gd (oB shC a0 10) <| bd (gR M a0 1) fun r2 => gd (oB shC r2 4) <| bd (f_X4_hasRing M r2 a1) fun v4 => if v4 = 0 then some (M, (-2)) else if a2 < 0 then some (M, (-2)) else if a2 ≤ 60 then bd (gR M r2 6) fun r5 => gd (aB shC r5 4 a1) <| bd (gR M r5 (a1 : Int32).toNatClampNeg) fun r7 => gd (oB shC r7 7) <| nx (sI M r7 0 a2) fun M9 => nx (sI M9 a0 7 0) fun M10 => some (M10, (gI M r7 0)) else some (M, (-2))
theorem t_X10_turn {l : Launch} {M : Mem} {a0 : Nat} {a1 a2 : Int32} {res : Mem × Int32} (hf : f_X10_turn M a0 a1 a2 = some res) : Ci l yX10_turn cX10_turn 4 (some .int) 1 21 shC nC (fun B => [.ref (B + a0), .int a1, .int a2]) M res := by
  refine met_i (own := RX10) (lo := fun B => [some (.ref (B + a0)), some (.int a1), some (.int a2), none]) (by decide +kernel) rfl shC_ok (fun _ => rfl) (fun _ => rfl) (fun _ => Nat.le_of_ble_eq_true rfl) (fun X hX hn hlx hR => ?_)
  refine r_aload_n (i := 0) hX e_X10_turn_0 rfl rfl ?_
  obtain ⟨g1, hf⟩ := gd_s hf
  obtain ⟨r2, hr2, hf⟩ := bd_s hf
  refine r_getR hX hn e_X10_turn_1 fl_10_19 rfl g1 hr2 ?_
  refine r_iload_n (i := 1) hX e_X10_turn_4 rfl rfl ?_
  obtain ⟨g3, hf⟩ := gd_s hf
  obtain ⟨v4, hv4, hf⟩ := bd_s hf
  refine r_cvi (As := fun B => [.int (a1)]) hX hn (t_X4_hasRing hv4) e_X10_turn_5 cw_X4_hasRing cv_X4_hasRing lk_10_169 ⟨Nat.le_of_ble_eq_true rfl, Nat.le_of_ble_eq_true rfl⟩ (ci := 4) rfl rfl (Nat.le_of_ble_eq_true rfl) g3 rfl rfl (Nat.le_of_ble_eq_true rfl) ⟨Nat.zero_le _, Nat.zero_le _⟩ ?_
  refine r_if_eq hX e_X10_turn_8 (fun hc => ?_) (fun hc => ?_)
  · have hf := ite_t hf hc
    refine r_bipush hX e_X10_turn_21 bc_m2 ?_
    exact r_iret hX hR e_X10_turn_23 hf
  · have hf := ite_f hf hc
    refine r_iload_n (i := 2) hX e_X10_turn_11 rfl rfl ?_
    refine r_if_lt hX e_X10_turn_12 (fun hc => ?_) (fun hc => ?_)
    · have hf := ite_t hf hc
      refine r_bipush hX e_X10_turn_21 bc_m2 ?_
      exact r_iret hX hR e_X10_turn_23 hf
    · have hf := ite_f hf hc
      refine r_iload_n (i := 2) hX e_X10_turn_15 rfl rfl ?_
      refine r_bipush hX e_X10_turn_16 bc_60 ?_
      refine r_icmp_le hX e_X10_turn_18 (fun hc => ?_) (fun hc => ?_)
      · have hf := ite_t hf hc
        refine r_aload_n (i := 0) hX e_X10_turn_24 rfl rfl ?_
        refine r_getR hX hn e_X10_turn_25 fl_10_19 rfl g1 hr2 ?_
        obtain ⟨r5, hr5, hf⟩ := bd_s hf
        refine r_getR hX hn e_X10_turn_28 fl_10_311 rfl g3 hr5 ?_
        refine r_iload_n (i := 1) hX e_X10_turn_31 rfl rfl ?_
        obtain ⟨g6, hf⟩ := gd_s hf
        obtain ⟨r7, hr7, hf⟩ := bd_s hf
        refine r_aald hX hn e_X10_turn_32 g6 (Nat.le_of_ble_eq_true rfl) rfl rfl rfl hr7 ?_
        obtain ⟨g8, hf⟩ := gd_s hf
        refine r_getI hX hn e_X10_turn_33 fl_10_315 rfl g8 ?_
        refine r_istore_n (i := 3) hX e_X10_turn_36 rfl (Nat.le_of_ble_eq_true rfl) rfl ?_
        refine r_aload_n (i := 0) hX e_X10_turn_37 rfl rfl ?_
        refine r_getR hX hn e_X10_turn_38 fl_10_19 rfl g1 hr2 ?_
        refine r_getR hX hn e_X10_turn_41 fl_10_311 rfl g3 hr5 ?_
        refine r_iload_n (i := 1) hX e_X10_turn_44 rfl rfl ?_
        refine r_aald hX hn e_X10_turn_45 g6 (Nat.le_of_ble_eq_true rfl) rfl rfl rfl hr7 ?_
        refine r_iload_n (i := 2) hX e_X10_turn_46 rfl rfl ?_
        obtain ⟨M9, hM9, hf⟩ := nx_s hf
        refine r_putI hX hn hM9 e_X10_turn_47 fl_10_315 fp_7_0 rfl g8 ?_
        refine r_aload_n (i := 0) hX e_X10_turn_50 rfl rfl ?_
        refine r_iconst hX e_X10_turn_51 ic_0 ?_
        obtain ⟨M10, hM10, hf⟩ := nx_s hf
        refine r_putZ hX hn hM10 rfl e_X10_turn_52 fl_10_47 fp_10_7 rfl g1 ?_
        refine r_iload_n (i := 3) hX e_X10_turn_55 rfl rfl ?_
        exact r_iret hX hR e_X10_turn_56 hf
      · have hf := ite_f hf hc
        refine r_bipush hX e_X10_turn_21 bc_m2 ?_
        exact r_iret hX hR e_X10_turn_23 hf
def s_X10_areRingsRound_2 (M : Mem) (k2 : Nat → Int32 → Int32 → Option (Int32)) (x0 : Nat) (x1 : Int32) (x2 : Int32) : Option (Int32) :=
  gd (oB shC x0 10) <| bd (gR M x0 1) fun r2 => gd (oB shC r2 4) <| if (gI M r2 3) ≤ x2 then some 1 else bd (gR M r2 6) fun r4 => gd (aB shC r4 4 x2) <| bd (gR M r4 (x2 : Int32).toNatClampNeg) fun r6 => gd (oB shC r6 7) <| if ((gI M r6 0) * (gI M r2 0)) ≤ 0 then k2 (x0) (x1) ((x2 + 1)) else gd (!(((gI M r6 0) * (gI M r2 0)) == 0)) <| nx ((x1 - x1 / ((gI M r6 0) * (gI M r2 0)) * ((gI M r6 0) * (gI M r2 0)))) fun v9 => if v9 = 0 then k2 (x0) (x1) ((x2 + 1)) else some 0
def f_X10_areRingsRound_2 (M : Mem)  : Nat → Nat → Int32 → Int32 → Option (Int32)
  | 0 => fun _ _ _ => none
  | n + 1 => fun y0 y1 y2 => s_X10_areRingsRound_2 M  (f_X10_areRingsRound_2 M  n) y0 y1 y2
def f_X10_areRingsRound (M : Mem) (a0 : Nat) (a1 : Int32) : Option (Int32) :=
  f_X10_areRingsRound_2 M FU (a0) (a1) (0)
theorem t_s_X10_areRingsRound_2 {X : Cx} {M : Mem} {res : Int32} {k2 : Nat → Int32 → Int32 → Option (Int32)} (hX : OkX X cX10_areRingsRound RX10 0 0) (hn : Fit X shC nC) (hR : RetI X shC nC .boolean (M, res)) (hk2 : ∀ x0 x1 x2, k2 x0 x1 x2 = some res → GoN X shC nC 0 0 M 2 [some (.ref (X.B + x0)), some (.int (x1)), some (.int (x2)), none] []) (x0 : Nat) (x1 : Int32) (x2 : Int32) (hf : s_X10_areRingsRound_2 M k2 x0 x1 x2 = some res) : GoN X shC nC 0 0 M 2 [some (.ref (X.B + x0)), some (.int (x1)), some (.int (x2)), none] [] := by
  refine r_iload_n (i := 2) hX e_X10_areRingsRound_2 rfl rfl ?_
  refine r_aload_n (i := 0) hX e_X10_areRingsRound_3 rfl rfl ?_
  obtain ⟨g1, hf⟩ := gd_s hf
  obtain ⟨r2, hr2, hf⟩ := bd_s hf
  refine r_getR hX hn e_X10_areRingsRound_4 fl_10_19 rfl g1 hr2 ?_
  obtain ⟨g3, hf⟩ := gd_s hf
  refine r_getI hX hn e_X10_areRingsRound_7 fl_10_308 rfl g3 ?_
  refine r_icmp_ge hX e_X10_areRingsRound_10 (fun hc => ?_) (fun hc => ?_)
  · have hf := ite_t hf hc
    refine r_iconst hX e_X10_areRingsRound_52 ic_1 ?_
    exact r_zret hX hR rfl e_X10_areRingsRound_53 (ro_s hf)
  · have hf := ite_f hf hc
    refine r_aload_n (i := 0) hX e_X10_areRingsRound_13 rfl rfl ?_
    refine r_getR hX hn e_X10_areRingsRound_14 fl_10_19 rfl g1 hr2 ?_
    obtain ⟨r4, hr4, hf⟩ := bd_s hf
    refine r_getR hX hn e_X10_areRingsRound_17 fl_10_311 rfl g3 hr4 ?_
    refine r_iload_n (i := 2) hX e_X10_areRingsRound_20 rfl rfl ?_
    obtain ⟨g5, hf⟩ := gd_s hf
    obtain ⟨r6, hr6, hf⟩ := bd_s hf
    refine r_aald hX hn e_X10_areRingsRound_21 g5 (Nat.le_of_ble_eq_true rfl) rfl rfl rfl hr6 ?_
    obtain ⟨g7, hf⟩ := gd_s hf
    refine r_getI hX hn e_X10_areRingsRound_22 fl_10_315 rfl g7 ?_
    refine r_aload_n (i := 0) hX e_X10_areRingsRound_25 rfl rfl ?_
    refine r_getR hX hn e_X10_areRingsRound_26 fl_10_19 rfl g1 hr2 ?_
    refine r_getI hX hn e_X10_areRingsRound_29 fl_10_334 rfl g3 ?_
    refine r_imul hX e_X10_areRingsRound_32 ?_
    refine r_istore_n (i := 3) hX e_X10_areRingsRound_33 rfl (Nat.le_of_ble_eq_true rfl) rfl ?_
    refine r_iload_n (i := 3) hX e_X10_areRingsRound_34 rfl rfl ?_
    refine r_if_le hX e_X10_areRingsRound_35 (fun hc => ?_) (fun hc => ?_)
    · have hf := ite_t hf hc
      refine r_iinc (v := x2 + 1) hX e_X10_areRingsRound_46 rfl (ii_s ic_1) (Nat.le_of_ble_eq_true rfl) rfl ?_
      refine r_goto hX e_X10_areRingsRound_49 ?_
      exact GoN.weak (hk2 (x0) (x1) ((x2 + 1)) hf) rfl (sb_s (sb_s (sb_s (sb_n (sb_z _)))))
    · have hf := ite_f hf hc
      refine r_iload_n (i := 1) hX e_X10_areRingsRound_38 rfl rfl ?_
      refine r_iload_n (i := 3) hX e_X10_areRingsRound_39 rfl rfl ?_
      obtain ⟨g8, hf⟩ := gd_s hf
      refine r_irem hX e_X10_areRingsRound_40 (by simpa using g8) ?_
      obtain ⟨v9, hv9, hf⟩ := nx_s hf
      refine top_i hv9 ?_
      refine r_if_eq hX e_X10_areRingsRound_41 (fun hc => ?_) (fun hc => ?_)
      · have hf := ite_t hf hc
        refine r_iinc (v := x2 + 1) hX e_X10_areRingsRound_46 rfl (ii_s ic_1) (Nat.le_of_ble_eq_true rfl) rfl ?_
        refine r_goto hX e_X10_areRingsRound_49 ?_
        exact GoN.weak (hk2 (x0) (x1) ((x2 + 1)) hf) rfl (sb_s (sb_s (sb_s (sb_n (sb_z _)))))
      · have hf := ite_f hf hc
        refine r_iconst hX e_X10_areRingsRound_44 ic_0 ?_
        exact r_zret hX hR rfl e_X10_areRingsRound_45 (ro_s hf)
theorem t_X10_areRingsRound_2 {X : Cx} {M : Mem} {res : Int32}  (hX : OkX X cX10_areRingsRound RX10 0 0) (hn : Fit X shC nC) (hR : RetI X shC nC .boolean (M, res))  : ∀ (n : Nat) (x0 : Nat) (x1 : Int32) (x2 : Int32),  f_X10_areRingsRound_2 M  n x0 x1 x2 = some res → GoN X shC nC 0 0 M 2 [some (.ref (X.B + x0)), some (.int (x1)), some (.int (x2)), none] [] := by
  intro n
  induction n with
  | zero => intro x0 x1 x2 hf; cases hf
  | succ n ih => intro x0 x1 x2 hf; exact t_s_X10_areRingsRound_2 hX hn hR  ih x0 x1 x2 hf
theorem t_X10_areRingsRound {l : Launch} {M : Mem} {a0 : Nat} {a1 : Int32} {res : Int32} (hf : f_X10_areRingsRound M a0 a1 = some res) : Ci l yX10_areRingsRound cX10_areRingsRound 4 (some .boolean) 0 0 shC nC (fun B => [.ref (B + a0), .int a1]) M (M, res) := by
  refine met_i (own := RX10) (lo := fun B => [some (.ref (B + a0)), some (.int a1), none, none]) (by decide +kernel) rfl shC_ok (fun _ => rfl) (fun _ => rfl) (fun _ => Nat.le_of_ble_eq_true rfl) (fun X hX hn hlx hR => ?_)
  refine r_iconst hX e_X10_areRingsRound_0 ic_0 ?_
  refine r_istore_n (i := 2) hX e_X10_areRingsRound_1 rfl (Nat.le_of_ble_eq_true rfl) rfl ?_
  exact GoN.weak (t_X10_areRingsRound_2 hX hn hR FU (a0) (a1) (0) hf) rfl (sb_s (sb_s (sb_s (sb_n (sb_z _)))))
def s_X10_again_15 (M : Mem) (k15 : Nat → Int32 → Option (Int32)) (x0 : Nat) (x1 : Int32) : Option (Int32) :=
  if 3600 < x1 then some (-1) else gd (oB shC x0 10) <| bd (f_X10_areRingsRound M x0 x1) fun v2 => if v2 = 0 then k15 (x0) ((x1 + 1)) else some x1
def f_X10_again_15 (M : Mem)  : Nat → Nat → Int32 → Option (Int32)
  | 0 => fun _ _ => none
  | n + 1 => fun y0 y1 => s_X10_again_15 M  (f_X10_again_15 M  n) y0 y1
def f_X10_again (M : Mem) (a0 : Nat) : Option (Int32) :=
  gd (oB shC a0 10) <| bd (gR M a0 1) fun r2 => gd (oB shC r2 4) <| bd (f_X4_isTold M r2) fun v4 => if v4 = 0 then some (-2) else f_X10_again_15 M FU (a0) (1)
theorem t_s_X10_again_15 {X : Cx} {M : Mem} {res : Int32} {k15 : Nat → Int32 → Option (Int32)} (hX : OkX X cX10_again RX10 1 23) (hn : Fit X shC nC) (hR : RetI X shC nC .int (M, res)) (hk15 : ∀ x0 x1, k15 x0 x1 = some res → GoN X shC nC 0 0 M 15 [some (.ref (X.B + x0)), some (.int (x1))] []) (x0 : Nat) (x1 : Int32) (hf : s_X10_again_15 M k15 x0 x1 = some res) : GoN X shC nC 0 0 M 15 [some (.ref (X.B + x0)), some (.int (x1))] [] := by
  refine r_iload_n (i := 1) hX e_X10_again_15 rfl rfl ?_
  refine r_sipush hX e_X10_again_16 sc_3600 ?_
  refine r_icmp_gt hX e_X10_again_19 (fun hc => ?_) (fun hc => ?_)
  · have hf := ite_t hf hc
    refine r_iconst hX e_X10_again_38 ic_m1 ?_
    exact r_iret hX hR e_X10_again_39 (ro_s hf)
  · have hf := ite_f hf hc
    refine r_aload_n (i := 0) hX e_X10_again_22 rfl rfl ?_
    refine r_iload_n (i := 1) hX e_X10_again_23 rfl rfl ?_
    obtain ⟨g1, hf⟩ := gd_s hf
    obtain ⟨v2, hv2, hf⟩ := bd_s hf
    refine r_cvi (As := fun B => [.int (x1)]) hX hn (t_X10_areRingsRound hv2) e_X10_again_24 cw_X10_areRingsRound cv_X10_areRingsRound lk_10_320 ⟨Nat.le_of_ble_eq_true rfl, Nat.le_of_ble_eq_true rfl⟩ (ci := 10) rfl rfl (Nat.le_of_ble_eq_true rfl) g1 rfl rfl (Nat.le_of_ble_eq_true rfl) ⟨Nat.zero_le _, Nat.zero_le _⟩ ?_
    refine r_if_eq hX e_X10_again_27 (fun hc => ?_) (fun hc => ?_)
    · have hf := ite_t hf hc
      refine r_iinc (v := x1 + 1) hX e_X10_again_32 rfl (ii_s ic_1) (Nat.le_of_ble_eq_true rfl) rfl ?_
      refine r_goto hX e_X10_again_35 ?_
      exact GoN.weak (hk15 (x0) ((x1 + 1)) hf) rfl (sb_s (sb_s (sb_z _)))
    · have hf := ite_f hf hc
      refine r_iload_n (i := 1) hX e_X10_again_30 rfl rfl ?_
      exact r_iret hX hR e_X10_again_31 (ro_s hf)
theorem t_X10_again_15 {X : Cx} {M : Mem} {res : Int32}  (hX : OkX X cX10_again RX10 1 23) (hn : Fit X shC nC) (hR : RetI X shC nC .int (M, res))  : ∀ (n : Nat) (x0 : Nat) (x1 : Int32),  f_X10_again_15 M  n x0 x1 = some res → GoN X shC nC 0 0 M 15 [some (.ref (X.B + x0)), some (.int (x1))] [] := by
  intro n
  induction n with
  | zero => intro x0 x1 hf; cases hf
  | succ n ih => intro x0 x1 hf; exact t_s_X10_again_15 hX hn hR  ih x0 x1 hf
theorem t_X10_again {l : Launch} {M : Mem} {a0 : Nat} {res : Int32} (hf : f_X10_again M a0 = some res) : Ci l yX10_again cX10_again 2 (some .int) 1 23 shC nC (fun B => [.ref (B + a0)]) M (M, res) := by
  refine met_i (own := RX10) (lo := fun B => [some (.ref (B + a0)), none]) (by decide +kernel) rfl shC_ok (fun _ => rfl) (fun _ => rfl) (fun _ => Nat.le_of_ble_eq_true rfl) (fun X hX hn hlx hR => ?_)
  refine r_aload_n (i := 0) hX e_X10_again_0 rfl rfl ?_
  obtain ⟨g1, hf⟩ := gd_s hf
  obtain ⟨r2, hr2, hf⟩ := bd_s hf
  refine r_getR hX hn e_X10_again_1 fl_10_19 rfl g1 hr2 ?_
  obtain ⟨g3, hf⟩ := gd_s hf
  obtain ⟨v4, hv4, hf⟩ := bd_s hf
  refine r_cvi (As := fun B => []) hX hn (t_X4_isTold hv4) e_X10_again_4 cw_X4_isTold cv_X4_isTold lk_10_210 ⟨Nat.le_of_ble_eq_true rfl, Nat.le_of_ble_eq_true rfl⟩ (ci := 4) rfl rfl (Nat.le_of_ble_eq_true rfl) g3 rfl rfl (Nat.le_of_ble_eq_true rfl) ⟨Nat.zero_le _, Nat.zero_le _⟩ ?_
  refine r_if_ne hX e_X10_again_7 (fun hc => ?_) (fun hc => ?_)
  · have hf := ite_f hf hc
    refine r_iconst hX e_X10_again_13 ic_1 ?_
    refine r_istore_n (i := 1) hX e_X10_again_14 rfl (Nat.le_of_ble_eq_true rfl) rfl ?_
    exact GoN.weak (t_X10_again_15 hX hn hR FU (a0) (1) hf) rfl (sb_s (sb_s (sb_z _)))
  · have hf := ite_t hf hc
    refine r_bipush hX e_X10_again_10 bc_m2 ?_
    exact r_iret hX hR e_X10_again_12 (ro_s hf)
def f_X10_areOdds (M : Mem) (a0 : Int32) (a1 : Int32) : Option (Int32) :=
  if a0 < 0 then some 0 else if 2000000000 < a0 then some 0 else if a1 < 0 then some 0 else if 100 < a1 then some 0 else some 1
theorem t_X10_areOdds {l : Launch} {M : Mem} {a0 a1 : Int32} {res : Int32} (hf : f_X10_areOdds M a0 a1 = some res) : Ci l yX10_areOdds cX10_areOdds 2 (some .boolean) 0 0 shC nC (fun B => [.int a0, .int a1]) M (M, res) := by
  refine met_i (own := RX10) (lo := fun B => [some (.int a0), some (.int a1)]) (by decide +kernel) rfl shC_ok (fun _ => rfl) (fun _ => rfl) (fun _ => Nat.le_of_ble_eq_true rfl) (fun X hX hn hlx hR => ?_)
  refine r_iload_n (i := 0) hX e_X10_areOdds_0 rfl rfl ?_
  refine r_if_lt hX e_X10_areOdds_1 (fun hc => ?_) (fun hc => ?_)
  · have hf := ite_t hf hc
    refine r_iconst hX e_X10_areOdds_25 ic_0 ?_
    exact r_zret hX hR rfl e_X10_areOdds_26 (ro_s hf)
  · have hf := ite_f hf hc
    refine r_iload_n (i := 0) hX e_X10_areOdds_4 rfl rfl ?_
    refine r_ldcw hX e_X10_areOdds_5 wk_1052 ?_
    refine r_icmp_gt hX e_X10_areOdds_8 (fun hc => ?_) (fun hc => ?_)
    · have hf := ite_t hf hc
      refine r_iconst hX e_X10_areOdds_25 ic_0 ?_
      exact r_zret hX hR rfl e_X10_areOdds_26 (ro_s hf)
    · have hf := ite_f hf hc
      refine r_iload_n (i := 1) hX e_X10_areOdds_11 rfl rfl ?_
      refine r_if_lt hX e_X10_areOdds_12 (fun hc => ?_) (fun hc => ?_)
      · have hf := ite_t hf hc
        refine r_iconst hX e_X10_areOdds_25 ic_0 ?_
        exact r_zret hX hR rfl e_X10_areOdds_26 (ro_s hf)
      · have hf := ite_f hf hc
        refine r_iload_n (i := 1) hX e_X10_areOdds_15 rfl rfl ?_
        refine r_bipush hX e_X10_areOdds_16 bc_100 ?_
        refine r_icmp_gt hX e_X10_areOdds_18 (fun hc => ?_) (fun hc => ?_)
        · have hf := ite_t hf hc
          refine r_iconst hX e_X10_areOdds_25 ic_0 ?_
          exact r_zret hX hR rfl e_X10_areOdds_26 (ro_s hf)
        · have hf := ite_f hf hc
          refine r_iconst hX e_X10_areOdds_21 ic_1 ?_
          refine r_goto hX e_X10_areOdds_22 ?_
          exact r_zret hX hR rfl e_X10_areOdds_26 (ro_s hf)
def s_X10_rowsThere_13 (M : Mem) (k13 : Int32 → Nat → Int32 → Int32 → Option (Int32)) (x1 : Int32) (x2 : Nat) (x3 : Int32) (x4 : Int32) : Option (Int32) :=
  if x3 ≤ x4 then some x1 else gd (aB shC x2 8 x4) <| bd (gR M x2 (x4 : Int32).toNatClampNeg) fun r2 => gd (oB shC r2 8) <| if (gI M r2 0) = 0 then k13 (x1) (x2) (x3) ((x4 + 1)) else k13 ((x1 + 1)) (x2) (x3) ((x4 + 1))
def f_X10_rowsThere_13 (M : Mem)  : Nat → Int32 → Nat → Int32 → Int32 → Option (Int32)
  | 0 => fun _ _ _ _ => none
  | n + 1 => fun y0 y1 y2 y3 => s_X10_rowsThere_13 M  (f_X10_rowsThere_13 M  n) y0 y1 y2 y3
def f_X10_rowsThere (M : Mem) (a0 : Nat) : Option (Int32) :=
  gd (oB shC a0 10) <| bd (gR M a0 5) fun r2 => gd (oB shC r2 108) <| f_X10_rowsThere_13 M FU (0) (r2) ((Int32.ofNat (shC r2).2)) (0)
theorem t_s_X10_rowsThere_13 {X : Cx} {M : Mem} {res : Int32} {k13 : Int32 → Nat → Int32 → Int32 → Option (Int32)} (hX : OkX X cX10_rowsThere RX10 0 0) (hn : Fit X shC nC) (hR : RetI X shC nC .int (M, res)) (hk13 : ∀ x1 x2 x3 x4, k13 x1 x2 x3 x4 = some res → GoN X shC nC 0 0 M 13 [none, some (.int (x1)), some (.ref (X.B + x2)), some (.int (x3)), some (.int (x4)), none] []) (x1 : Int32) (x2 : Nat) (x3 : Int32) (x4 : Int32) (hf : s_X10_rowsThere_13 M k13 x1 x2 x3 x4 = some res) : GoN X shC nC 0 0 M 13 [none, some (.int (x1)), some (.ref (X.B + x2)), some (.int (x3)), some (.int (x4)), none] [] := by
  refine r_iload hX e_X10_rowsThere_13 rfl ?_
  refine r_iload_n (i := 3) hX e_X10_rowsThere_15 rfl rfl ?_
  refine r_icmp_ge hX e_X10_rowsThere_16 (fun hc => ?_) (fun hc => ?_)
  · have hf := ite_t hf hc
    refine r_iload_n (i := 1) hX e_X10_rowsThere_42 rfl rfl ?_
    exact r_iret hX hR e_X10_rowsThere_43 (ro_s hf)
  · have hf := ite_f hf hc
    refine r_aload_n (i := 2) hX e_X10_rowsThere_19 rfl rfl ?_
    refine r_iload hX e_X10_rowsThere_20 rfl ?_
    obtain ⟨g1, hf⟩ := gd_s hf
    obtain ⟨r2, hr2, hf⟩ := bd_s hf
    refine r_aald hX hn e_X10_rowsThere_22 g1 (Nat.le_of_ble_eq_true rfl) rfl rfl rfl hr2 ?_
    refine r_astore hX e_X10_rowsThere_23 (Nat.le_of_ble_eq_true rfl) rfl ?_
    refine r_aload hX e_X10_rowsThere_25 rfl ?_
    obtain ⟨g3, hf⟩ := gd_s hf
    refine r_getI hX hn e_X10_rowsThere_27 fl_10_290 rfl g3 ?_
    refine r_if_eq hX e_X10_rowsThere_30 (fun hc => ?_) (fun hc => ?_)
    · have hf := ite_t hf hc
      refine r_iinc (v := x4 + 1) hX e_X10_rowsThere_36 rfl (ii_s ic_1) (Nat.le_of_ble_eq_true rfl) rfl ?_
      refine r_goto hX e_X10_rowsThere_39 ?_
      exact GoN.weak (hk13 (x1) (x2) (x3) ((x4 + 1)) hf) rfl (sb_n (sb_s (sb_s (sb_s (sb_s (sb_n (sb_z _)))))))
    · have hf := ite_f hf hc
      refine r_iinc (v := x1 + 1) hX e_X10_rowsThere_33 rfl (ii_s ic_1) (Nat.le_of_ble_eq_true rfl) rfl ?_
      refine r_iinc (v := x4 + 1) hX e_X10_rowsThere_36 rfl (ii_s ic_1) (Nat.le_of_ble_eq_true rfl) rfl ?_
      refine r_goto hX e_X10_rowsThere_39 ?_
      exact GoN.weak (hk13 ((x1 + 1)) (x2) (x3) ((x4 + 1)) hf) rfl (sb_n (sb_s (sb_s (sb_s (sb_s (sb_n (sb_z _)))))))
theorem t_X10_rowsThere_13 {X : Cx} {M : Mem} {res : Int32}  (hX : OkX X cX10_rowsThere RX10 0 0) (hn : Fit X shC nC) (hR : RetI X shC nC .int (M, res))  : ∀ (n : Nat) (x1 : Int32) (x2 : Nat) (x3 : Int32) (x4 : Int32),  f_X10_rowsThere_13 M  n x1 x2 x3 x4 = some res → GoN X shC nC 0 0 M 13 [none, some (.int (x1)), some (.ref (X.B + x2)), some (.int (x3)), some (.int (x4)), none] [] := by
  intro n
  induction n with
  | zero => intro x1 x2 x3 x4 hf; cases hf
  | succ n ih => intro x1 x2 x3 x4 hf; exact t_s_X10_rowsThere_13 hX hn hR  ih x1 x2 x3 x4 hf
theorem t_X10_rowsThere {l : Launch} {M : Mem} {a0 : Nat} {res : Int32} (hf : f_X10_rowsThere M a0 = some res) : Ci l yX10_rowsThere cX10_rowsThere 6 (some .int) 0 0 shC nC (fun B => [.ref (B + a0)]) M (M, res) := by
  refine met_i (own := RX10) (lo := fun B => [some (.ref (B + a0)), none, none, none, none, none]) (by decide +kernel) rfl shC_ok (fun _ => rfl) (fun _ => rfl) (fun _ => Nat.le_of_ble_eq_true rfl) (fun X hX hn hlx hR => ?_)
  refine r_iconst hX e_X10_rowsThere_0 ic_0 ?_
  refine r_istore_n (i := 1) hX e_X10_rowsThere_1 rfl (Nat.le_of_ble_eq_true rfl) rfl ?_
  refine r_aload_n (i := 0) hX e_X10_rowsThere_2 rfl rfl ?_
  obtain ⟨g1, hf⟩ := gd_s hf
  obtain ⟨r2, hr2, hf⟩ := bd_s hf
  refine r_getR hX hn e_X10_rowsThere_3 fl_10_36 rfl g1 hr2 ?_
  refine r_astore_n (i := 2) hX e_X10_rowsThere_6 rfl (Nat.le_of_ble_eq_true rfl) rfl ?_
  refine r_aload_n (i := 2) hX e_X10_rowsThere_7 rfl rfl ?_
  obtain ⟨g3, hf⟩ := gd_s hf
  refine r_alen (t := 8) hX hn e_X10_rowsThere_8 g3 (Nat.le_of_ble_eq_true rfl) rfl ?_
  refine r_istore_n (i := 3) hX e_X10_rowsThere_9 rfl (Nat.le_of_ble_eq_true rfl) rfl ?_
  refine r_iconst hX e_X10_rowsThere_10 ic_0 ?_
  refine r_istore hX e_X10_rowsThere_11 (Nat.le_of_ble_eq_true rfl) rfl ?_
  exact GoN.weak (t_X10_rowsThere_13 hX hn hR FU (0) (r2) ((Int32.ofNat (shC r2).2)) (0) hf) rfl (sb_n (sb_s (sb_s (sb_s (sb_s (sb_n (sb_z _)))))))
def f_X10_write (M : Mem) (a0 : Nat) (a1 : Int32) (a2 : Int32) (a3 : Int64) : Option (Mem × Int32) :=
  bd (f_X10_isSlot M a1) fun v1 => if v1 = 0 then some (M, (-2)) else gd (oB shC a0 10) <| bd (gR M a0 5) fun r3 => gd (aB shC r3 8 a1) <| bd (gR M r3 (a1 : Int32).toNatClampNeg) fun r5 => gd (oB shC r5 8) <| if (gI M r5 0) = 0 then some (M, (-6)) else if a2 < 0 then some (M, (-7)) else if a2 < (gI M r5 2) then bd (gR M r5 3) fun r7 => bd (f_X8_cut M r5 a3) fun v8 => gd (aB shC r7 1 a2) <| nx (sL M r7 (a2 : Int32).toNatClampNeg v8) fun M10 => some (M10, 0) else some (M, (-7))
theorem t_X10_write {l : Launch} {M : Mem} {a0 : Nat} {a1 a2 : Int32} {a3 : Int64} {res : Mem × Int32} (hf : f_X10_write M a0 a1 a2 a3 = some res) : Ci l yX10_write cX10_write 6 (some .int) 1 22 shC nC (fun B => [.ref (B + a0), .int a1, .int a2, .long a3]) M res := by
  refine met_i (own := RX10) (lo := fun B => [some (.ref (B + a0)), some (.int a1), some (.int a2), some (.long a3), none, none]) (by decide +kernel) rfl shC_ok (fun _ => rfl) (fun _ => rfl) (fun _ => Nat.le_of_ble_eq_true rfl) (fun X hX hn hlx hR => ?_)
  refine r_iload_n (i := 1) hX e_X10_write_0 rfl rfl ?_
  obtain ⟨v1, hv1, hf⟩ := bd_s hf
  refine r_csi (As := fun B => [.int (a1)]) hX hn (t_X10_isSlot hv1) e_X10_write_1 cw_X10_isSlot cv_X10_isSlot lk_10_287 ⟨Nat.le_of_ble_eq_true rfl, Nat.le_of_ble_eq_true rfl⟩ rfl rfl (Nat.le_of_ble_eq_true rfl) ⟨Nat.zero_le _, Nat.zero_le _⟩ ?_
  refine r_if_ne hX e_X10_write_4 (fun hc => ?_) (fun hc => ?_)
  · have hf := ite_f hf hc
    refine r_aload_n (i := 0) hX e_X10_write_10 rfl rfl ?_
    obtain ⟨g2, hf⟩ := gd_s hf
    obtain ⟨r3, hr3, hf⟩ := bd_s hf
    refine r_getR hX hn e_X10_write_11 fl_10_36 rfl g2 hr3 ?_
    refine r_iload_n (i := 1) hX e_X10_write_14 rfl rfl ?_
    obtain ⟨g4, hf⟩ := gd_s hf
    obtain ⟨r5, hr5, hf⟩ := bd_s hf
    refine r_aald hX hn e_X10_write_15 g4 (Nat.le_of_ble_eq_true rfl) rfl rfl rfl hr5 ?_
    refine r_astore hX e_X10_write_16 (Nat.le_of_ble_eq_true rfl) rfl ?_
    refine r_aload hX e_X10_write_18 rfl ?_
    obtain ⟨g6, hf⟩ := gd_s hf
    refine r_getI hX hn e_X10_write_20 fl_10_290 rfl g6 ?_
    refine r_if_ne hX e_X10_write_23 (fun hc => ?_) (fun hc => ?_)
    · have hf := ite_f hf hc
      refine r_iload_n (i := 2) hX e_X10_write_29 rfl rfl ?_
      refine r_if_lt hX e_X10_write_30 (fun hc => ?_) (fun hc => ?_)
      · have hf := ite_t hf hc
        refine r_bipush hX e_X10_write_42 bc_m7 ?_
        exact r_iret hX hR e_X10_write_44 hf
      · have hf := ite_f hf hc
        refine r_iload_n (i := 2) hX e_X10_write_33 rfl rfl ?_
        refine r_aload hX e_X10_write_34 rfl ?_
        refine r_getI hX hn e_X10_write_36 fl_10_293 rfl g6 ?_
        refine r_icmp_lt hX e_X10_write_39 (fun hc => ?_) (fun hc => ?_)
        · have hf := ite_t hf hc
          refine r_aload hX e_X10_write_45 rfl ?_
          obtain ⟨r7, hr7, hf⟩ := bd_s hf
          refine r_getR hX hn e_X10_write_47 fl_10_330 rfl g6 hr7 ?_
          refine r_iload_n (i := 2) hX e_X10_write_50 rfl rfl ?_
          refine r_aload hX e_X10_write_51 rfl ?_
          refine r_lload_n (i := 3) hX e_X10_write_53 rfl rfl ?_
          obtain ⟨v8, hv8, hf⟩ := bd_s hf
          refine r_cvl (As := fun B => [.long (a3)]) hX hn (t_X8_cut hv8) e_X10_write_54 cw_X8_cut cv_X8_cut lk_10_351 ⟨Nat.le_of_ble_eq_true rfl, Nat.le_of_ble_eq_true rfl⟩ (ci := 8) rfl rfl (Nat.le_of_ble_eq_true rfl) g6 rfl rfl (Nat.le_of_ble_eq_true rfl) ⟨Nat.zero_le _, Nat.zero_le _⟩ ?_
          obtain ⟨g9, hf⟩ := gd_s hf
          obtain ⟨M10, hM10, hf⟩ := nx_s hf
          refine r_last hX hn hM10 e_X10_write_57 g9 ?_
          refine r_iconst hX e_X10_write_58 ic_0 ?_
          exact r_iret hX hR e_X10_write_59 hf
        · have hf := ite_f hf hc
          refine r_bipush hX e_X10_write_42 bc_m7 ?_
          exact r_iret hX hR e_X10_write_44 hf
    · have hf := ite_t hf hc
      refine r_bipush hX e_X10_write_26 bc_m6 ?_
      exact r_iret hX hR e_X10_write_28 hf
  · have hf := ite_t hf hc
    refine r_bipush hX e_X10_write_7 bc_m2 ?_
    exact r_iret hX hR e_X10_write_9 hf
def f_X11_in (M : Mem) (a0 : Int64) (a1 : Int64) (a2 : Int64) : Option (Int32) :=
  if (lg_cmp a0 a1) < 0 then some 0 else if 0 < (lg_cmp a0 a2) then some 0 else some 1
theorem t_X11_in {l : Launch} {M : Mem} {a0 a1 a2 : Int64} {res : Int32} (hf : f_X11_in M a0 a1 a2 = some res) : Ci l yX11_in cX11_in 6 (some .boolean) 0 0 shR nR (fun B => [.long a0, .long a1, .long a2]) M (M, res) := by
  refine met_i (own := RX11) (lo := fun B => [some (.long a0), none, some (.long a1), none, some (.long a2), none]) (by decide +kernel) rfl shR_ok (fun _ => rfl) (fun _ => rfl) (fun _ => Nat.le_of_ble_eq_true rfl) (fun X hX hn hlx hR => ?_)
  refine r_lload_n (i := 0) hX e_X11_in_0 rfl rfl ?_
  refine r_lload_n (i := 2) hX e_X11_in_1 rfl rfl ?_
  refine r_lcmp hX e_X11_in_2 ?_
  refine r_if_lt hX e_X11_in_3 (fun hc => ?_) (fun hc => ?_)
  · have hf := ite_t hf hc
    refine r_iconst hX e_X11_in_17 ic_0 ?_
    exact r_zret hX hR rfl e_X11_in_18 (ro_s hf)
  · have hf := ite_f hf hc
    refine r_lload_n (i := 0) hX e_X11_in_6 rfl rfl ?_
    refine r_lload hX e_X11_in_7 rfl ?_
    refine r_lcmp hX e_X11_in_9 ?_
    refine r_if_gt hX e_X11_in_10 (fun hc => ?_) (fun hc => ?_)
    · have hf := ite_t hf hc
      refine r_iconst hX e_X11_in_17 ic_0 ?_
      exact r_zret hX hR rfl e_X11_in_18 (ro_s hf)
    · have hf := ite_f hf hc
      refine r_iconst hX e_X11_in_13 ic_1 ?_
      refine r_goto hX e_X11_in_14 ?_
      exact r_zret hX hR rfl e_X11_in_18 (ro_s hf)
def f_X11_isSlot (M : Mem) (a0 : Int32) : Option (Int32) :=
  bd (f_X11_in M ((a0 : Int32).toInt64) 0 3) fun v1 => gd (isZ v1) <| some v1
theorem t_X11_isSlot {l : Launch} {M : Mem} {a0 : Int32} {res : Int32} (hf : f_X11_isSlot M a0 = some res) : Ci l yX11_isSlot cX11_isSlot 1 (some .boolean) 1 25 shR nR (fun B => [.int a0]) M (M, res) := by
  refine met_i (own := RX11) (lo := fun B => [some (.int a0)]) (by decide +kernel) rfl shR_ok (fun _ => rfl) (fun _ => rfl) (fun _ => Nat.le_of_ble_eq_true rfl) (fun X hX hn hlx hR => ?_)
  refine r_iload_n (i := 0) hX e_X11_isSlot_0 rfl rfl ?_
  refine r_i2l hX e_X11_isSlot_1 ?_
  refine r_lconst hX e_X11_isSlot_2 lc_0 ?_
  refine r_ldc2 hX e_X11_isSlot_3 wk_1293 ?_
  obtain ⟨v1, hv1, hf⟩ := bd_s hf
  refine r_csi (As := fun B => [.long ((a0 : Int32).toInt64), .long (0), .long (3)]) hX hn (t_X11_in hv1) e_X11_isSlot_6 cw_X11_in cv_X11_in lk_11_127 ⟨Nat.le_of_ble_eq_true rfl, Nat.le_of_ble_eq_true rfl⟩ rfl rfl (Nat.le_of_ble_eq_true rfl) ⟨Nat.zero_le _, Nat.zero_le _⟩ ?_
  obtain ⟨g2, hf⟩ := gd_s hf
  exact r_zret hX hR g2 e_X11_isSlot_9 (ro_s hf)
def s_X11_row_57 (k57 : Mem → Nat → Int32 → Int32 → Int32 → Option (Mem × Int32)) (M : Mem) (x0 : Nat) (x1 : Int32) (x3 : Int32) (x4 : Int32) : Option (Mem × Int32) :=
  if x3 ≤ x4 then some (M, 0) else gd (oB shR x0 11) <| bd (gR M x0 3) fun r2 => gd (aB shR r2 1 ((60 * x1) + x4)) <| nx (sL M r2 (((60 * x1) + x4) : Int32).toNatClampNeg 0) fun M4 => k57 M4 (x0) (x1) (x3) ((x4 + 1))
def f_X11_row_57  : Nat → Mem → Nat → Int32 → Int32 → Int32 → Option (Mem × Int32)
  | 0 => fun _ _ _ _ _ => none
  | n + 1 => fun y0 y1 y2 y3 y4 => s_X11_row_57  (f_X11_row_57  n) y0 y1 y2 y3 y4
def f_X11_row (M : Mem) (a0 : Nat) (a1 : Int32) (a2 : Int32) (a3 : Int32) : Option (Mem × Int32) :=
  gd (oB shR a0 11) <| nx (sI M a0 0 0) fun M2 => bd (f_X11_isSlot M2 a1) fun v3 => if v3 = 0 then some (M2, (-2)) else bd (f_X11_in M2 ((a2 : Int32).toInt64) 0 3) fun v4 => if v4 = 0 then some (M2, (-2)) else if a3 ≤ 60 then if 0 ≤ a3 then bd (gR M2 a0 1) fun r5 => gd (aB shR r5 0 a1) <| nx (sI M2 r5 (a1 : Int32).toNatClampNeg a2) fun M7 => bd (gR M7 a0 2) fun r8 => gd (aB shR r8 0 a1) <| nx (sI M7 r8 (a1 : Int32).toNatClampNeg a3) fun M10 => f_X11_row_57 FU M10 (a0) (a1) (a3) (0) else some (M2, (-3)) else some (M2, (-2))
theorem t_s_X11_row_57 {X : Cx} {res : Mem × Int32} {k57 : Mem → Nat → Int32 → Int32 → Int32 → Option (Mem × Int32)} (hX : OkX X cX11_row RX11 2 45) (hn : Fit X shR nR) (hR : RetI X shR nR .int res) (hk57 : ∀ M x0 x1 x3 x4, k57 M x0 x1 x3 x4 = some res → GoN X shR nR 0 0 M 57 [some (.ref (X.B + x0)), some (.int (x1)), none, some (.int (x3)), some (.int (x4))] []) (M : Mem) (x0 : Nat) (x1 : Int32) (x3 : Int32) (x4 : Int32) (hf : s_X11_row_57 k57 M x0 x1 x3 x4 = some res) : GoN X shR nR 0 0 M 57 [some (.ref (X.B + x0)), some (.int (x1)), none, some (.int (x3)), some (.int (x4))] [] := by
  refine r_iload hX e_X11_row_57 rfl ?_
  refine r_iload_n (i := 3) hX e_X11_row_59 rfl rfl ?_
  refine r_icmp_ge hX e_X11_row_60 (fun hc => ?_) (fun hc => ?_)
  · have hf := ite_t hf hc
    refine r_iconst hX e_X11_row_82 ic_0 ?_
    exact r_iret hX hR e_X11_row_83 hf
  · have hf := ite_f hf hc
    refine r_aload_n (i := 0) hX e_X11_row_63 rfl rfl ?_
    obtain ⟨g1, hf⟩ := gd_s hf
    obtain ⟨r2, hr2, hf⟩ := bd_s hf
    refine r_getR hX hn e_X11_row_64 fl_11_16 rfl g1 hr2 ?_
    refine r_bipush hX e_X11_row_67 bc_60 ?_
    refine r_iload_n (i := 1) hX e_X11_row_69 rfl rfl ?_
    refine r_imul hX e_X11_row_70 ?_
    refine r_iload hX e_X11_row_71 rfl ?_
    refine r_iadd hX e_X11_row_73 ?_
    refine r_lconst hX e_X11_row_74 lc_0 ?_
    obtain ⟨g3, hf⟩ := gd_s hf
    obtain ⟨M4, hM4, hf⟩ := nx_s hf
    refine r_last hX hn hM4 e_X11_row_75 g3 ?_
    refine r_iinc (v := x4 + 1) hX e_X11_row_76 rfl (ii_s ic_1) (Nat.le_of_ble_eq_true rfl) rfl ?_
    refine r_goto hX e_X11_row_79 ?_
    exact GoN.weak (hk57 M4 (x0) (x1) (x3) ((x4 + 1)) hf) rfl (sb_s (sb_s (sb_n (sb_s (sb_s (sb_z _))))))
theorem t_X11_row_57 {X : Cx} {res : Mem × Int32}  (hX : OkX X cX11_row RX11 2 45) (hn : Fit X shR nR) (hR : RetI X shR nR .int res)  : ∀ (n : Nat) (M : Mem) (x0 : Nat) (x1 : Int32) (x3 : Int32) (x4 : Int32),  f_X11_row_57  n M x0 x1 x3 x4 = some res → GoN X shR nR 0 0 M 57 [some (.ref (X.B + x0)), some (.int (x1)), none, some (.int (x3)), some (.int (x4))] [] := by
  intro n
  induction n with
  | zero => intro M x0 x1 x3 x4 hf; cases hf
  | succ n ih => intro M x0 x1 x3 x4 hf; exact t_s_X11_row_57 hX hn hR  ih M x0 x1 x3 x4 hf
theorem t_X11_row {l : Launch} {M : Mem} {a0 : Nat} {a1 a2 a3 : Int32} {res : Mem × Int32} (hf : f_X11_row M a0 a1 a2 a3 = some res) : Ci l yX11_row cX11_row 5 (some .int) 2 45 shR nR (fun B => [.ref (B + a0), .int a1, .int a2, .int a3]) M res := by
  refine met_i (own := RX11) (lo := fun B => [some (.ref (B + a0)), some (.int a1), some (.int a2), some (.int a3), none]) (by decide +kernel) rfl shR_ok (fun _ => rfl) (fun _ => rfl) (fun _ => Nat.le_of_ble_eq_true rfl) (fun X hX hn hlx hR => ?_)
  refine r_aload_n (i := 0) hX e_X11_row_0 rfl rfl ?_
  refine r_iconst hX e_X11_row_1 ic_0 ?_
  obtain ⟨g1, hf⟩ := gd_s hf
  obtain ⟨M2, hM2, hf⟩ := nx_s hf
  refine r_putI hX hn hM2 e_X11_row_2 fl_11_122 fp_11_0 rfl g1 ?_
  refine r_iload_n (i := 1) hX e_X11_row_5 rfl rfl ?_
  obtain ⟨v3, hv3, hf⟩ := bd_s hf
  refine r_csi (As := fun B => [.int (a1)]) hX hn (t_X11_isSlot hv3) e_X11_row_6 cw_X11_isSlot cv_X11_isSlot lk_11_131 ⟨Nat.le_of_ble_eq_true rfl, Nat.le_of_ble_eq_true rfl⟩ rfl rfl (Nat.le_of_ble_eq_true rfl) ⟨Nat.zero_le _, Nat.zero_le _⟩ ?_
  refine r_if_eq hX e_X11_row_9 (fun hc => ?_) (fun hc => ?_)
  · have hf := ite_t hf hc
    refine r_bipush hX e_X11_row_30 bc_m2 ?_
    exact r_iret hX hR e_X11_row_32 hf
  · have hf := ite_f hf hc
    refine r_iload_n (i := 2) hX e_X11_row_12 rfl rfl ?_
    refine r_i2l hX e_X11_row_13 ?_
    refine r_lconst hX e_X11_row_14 lc_0 ?_
    refine r_ldc2 hX e_X11_row_15 wk_1293 ?_
    obtain ⟨v4, hv4, hf⟩ := bd_s hf
    refine r_csi (As := fun B => [.long ((a2 : Int32).toInt64), .long (0), .long (3)]) hX hn (t_X11_in hv4) e_X11_row_18 cw_X11_in cv_X11_in lk_11_127 ⟨Nat.le_of_ble_eq_true rfl, Nat.le_of_ble_eq_true rfl⟩ rfl rfl (Nat.le_of_ble_eq_true rfl) ⟨Nat.zero_le _, Nat.zero_le _⟩ ?_
    refine r_if_eq hX e_X11_row_21 (fun hc => ?_) (fun hc => ?_)
    · have hf := ite_t hf hc
      refine r_bipush hX e_X11_row_30 bc_m2 ?_
      exact r_iret hX hR e_X11_row_32 hf
    · have hf := ite_f hf hc
      refine r_iload_n (i := 3) hX e_X11_row_24 rfl rfl ?_
      refine r_bipush hX e_X11_row_25 bc_60 ?_
      refine r_icmp_le hX e_X11_row_27 (fun hc => ?_) (fun hc => ?_)
      · have hf := ite_t hf hc
        refine r_iload_n (i := 3) hX e_X11_row_33 rfl rfl ?_
        refine r_if_ge hX e_X11_row_34 (fun hc => ?_) (fun hc => ?_)
        · have hf := ite_t hf hc
          refine r_aload_n (i := 0) hX e_X11_row_40 rfl rfl ?_
          obtain ⟨r5, hr5, hf⟩ := bd_s hf
          refine r_getR hX hn e_X11_row_41 fl_11_7 rfl g1 hr5 ?_
          refine r_iload_n (i := 1) hX e_X11_row_44 rfl rfl ?_
          refine r_iload_n (i := 2) hX e_X11_row_45 rfl rfl ?_
          obtain ⟨g6, hf⟩ := gd_s hf
          obtain ⟨M7, hM7, hf⟩ := nx_s hf
          refine r_iast hX hn hM7 e_X11_row_46 g6 ?_
          refine r_aload_n (i := 0) hX e_X11_row_47 rfl rfl ?_
          obtain ⟨r8, hr8, hf⟩ := bd_s hf
          refine r_getR hX hn e_X11_row_48 fl_11_13 rfl g1 hr8 ?_
          refine r_iload_n (i := 1) hX e_X11_row_51 rfl rfl ?_
          refine r_iload_n (i := 3) hX e_X11_row_52 rfl rfl ?_
          obtain ⟨g9, hf⟩ := gd_s hf
          obtain ⟨M10, hM10, hf⟩ := nx_s hf
          refine r_iast hX hn hM10 e_X11_row_53 g9 ?_
          refine r_iconst hX e_X11_row_54 ic_0 ?_
          refine r_istore hX e_X11_row_55 (Nat.le_of_ble_eq_true rfl) rfl ?_
          exact GoN.weak (t_X11_row_57 hX hn hR FU M10 (a0) (a1) (a3) (0) hf) rfl (sb_s (sb_s (sb_n (sb_s (sb_s (sb_z _))))))
        · have hf := ite_f hf hc
          refine r_bipush hX e_X11_row_37 bc_m3 ?_
          exact r_iret hX hR e_X11_row_39 hf
      · have hf := ite_f hf hc
        refine r_bipush hX e_X11_row_30 bc_m2 ?_
        exact r_iret hX hR e_X11_row_32 hf
def f_X11_cut (M : Mem) (a0 : Int64) (a1 : Int32) : Option (Int64) :=
  if a1 = 0 then nx ((((a0 : Int64).toInt32 : Int32).toInt8.toInt32 : Int32).toInt64) fun v2 => some v2 else if a1 = 1 then nx ((((a0 : Int64).toInt32 : Int32).toInt16.toInt32 : Int32).toInt64) fun v1 => some v1 else if a1 = 2 then some (((a0 : Int64).toInt32 : Int32).toInt64) else some a0
theorem t_X11_cut {l : Launch} {M : Mem} {a1 : Int32} {a0 : Int64} {res : Int64} (hf : f_X11_cut M a0 a1 = some res) : Cl l yX11_cut cX11_cut 3 (some .long) 0 0 shR nR (fun B => [.long a0, .int a1]) M (M, res) := by
  refine met_l (own := RX11) (lo := fun B => [some (.long a0), none, some (.int a1)]) (by decide +kernel) rfl shR_ok (fun _ => rfl) (fun _ => rfl) (fun _ => Nat.le_of_ble_eq_true rfl) (fun X hX hn hlx hR => ?_)
  refine r_iload_n (i := 2) hX e_X11_cut_0 rfl rfl ?_
  refine r_if_ne hX e_X11_cut_1 (fun hc => ?_) (fun hc => ?_)
  · have hf := ite_f hf hc
    refine r_iload_n (i := 2) hX e_X11_cut_11 rfl rfl ?_
    refine r_iconst hX e_X11_cut_12 ic_1 ?_
    refine r_icmp_ne hX e_X11_cut_13 (fun hc => ?_) (fun hc => ?_)
    · have hf := ite_f hf hc
      refine r_iload_n (i := 2) hX e_X11_cut_23 rfl rfl ?_
      refine r_iconst hX e_X11_cut_24 ic_2 ?_
      refine r_icmp_ne hX e_X11_cut_25 (fun hc => ?_) (fun hc => ?_)
      · have hf := ite_f hf hc
        refine r_lload_n (i := 0) hX e_X11_cut_34 rfl rfl ?_
        exact r_lret hX hR e_X11_cut_35 (ro_s hf)
      · have hf := ite_t hf hc
        refine r_lload_n (i := 0) hX e_X11_cut_28 rfl rfl ?_
        refine r_l2i hX e_X11_cut_29 ?_
        refine r_i2l hX e_X11_cut_30 ?_
        refine r_goto hX e_X11_cut_31 ?_
        exact r_lret hX hR e_X11_cut_35 (ro_s hf)
    · have hf := ite_t hf hc
      refine r_lload_n (i := 0) hX e_X11_cut_16 rfl rfl ?_
      refine r_l2i hX e_X11_cut_17 ?_
      refine r_i2s hX e_X11_cut_18 ?_
      refine r_i2l hX e_X11_cut_19 ?_
      obtain ⟨v1, hv1, hf⟩ := nx_s hf
      refine top_l hv1 ?_
      refine r_goto hX e_X11_cut_20 ?_
      exact r_lret hX hR e_X11_cut_35 (ro_s hf)
  · have hf := ite_t hf hc
    refine r_lload_n (i := 0) hX e_X11_cut_4 rfl rfl ?_
    refine r_l2i hX e_X11_cut_5 ?_
    refine r_i2b hX e_X11_cut_6 ?_
    refine r_i2l hX e_X11_cut_7 ?_
    obtain ⟨v2, hv2, hf⟩ := nx_s hf
    refine top_l hv2 ?_
    refine r_goto hX e_X11_cut_8 ?_
    exact r_lret hX hR e_X11_cut_35 (ro_s hf)
def f_X11_write (M : Mem) (a0 : Nat) (a1 : Int32) (a2 : Int32) (a3 : Int64) : Option (Mem × Int32) :=
  gd (oB shR a0 11) <| nx (sI M a0 0 0) fun M2 => bd (f_X11_isSlot M2 a1) fun v3 => if v3 = 0 then some (M2, (-2)) else bd (gR M2 a0 1) fun r4 => gd (aB shR r4 0 a1) <| if (gI M2 r4 (a1 : Int32).toNatClampNeg) = (-1) then some (M2, (-6)) else bd (gR M2 a0 2) fun r6 => gd (aB shR r6 0 a1) <| nx ((((gI M2 r6 (a1 : Int32).toNatClampNeg) - 1) : Int32).toInt64) fun v8 => bd (f_X11_in M2 ((a2 : Int32).toInt64) 0 v8) fun v9 => if v9 = 0 then some (M2, (-7)) else bd (gR M2 a0 3) fun r10 => bd (f_X11_cut M2 a3 (gI M2 r4 (a1 : Int32).toNatClampNeg)) fun v11 => gd (aB shR r10 1 ((60 * a1) + a2)) <| nx (sL M2 r10 (((60 * a1) + a2) : Int32).toNatClampNeg v11) fun M13 => some (M13, 0)
theorem t_X11_write {l : Launch} {M : Mem} {a0 : Nat} {a1 a2 : Int32} {a3 : Int64} {res : Mem × Int32} (hf : f_X11_write M a0 a1 a2 a3 = some res) : Ci l yX11_write cX11_write 5 (some .int) 2 45 shR nR (fun B => [.ref (B + a0), .int a1, .int a2, .long a3]) M res := by
  refine met_i (own := RX11) (lo := fun B => [some (.ref (B + a0)), some (.int a1), some (.int a2), some (.long a3), none]) (by decide +kernel) rfl shR_ok (fun _ => rfl) (fun _ => rfl) (fun _ => Nat.le_of_ble_eq_true rfl) (fun X hX hn hlx hR => ?_)
  refine r_aload_n (i := 0) hX e_X11_write_0 rfl rfl ?_
  refine r_iconst hX e_X11_write_1 ic_0 ?_
  obtain ⟨g1, hf⟩ := gd_s hf
  obtain ⟨M2, hM2, hf⟩ := nx_s hf
  refine r_putI hX hn hM2 e_X11_write_2 fl_11_122 fp_11_0 rfl g1 ?_
  refine r_iload_n (i := 1) hX e_X11_write_5 rfl rfl ?_
  obtain ⟨v3, hv3, hf⟩ := bd_s hf
  refine r_csi (As := fun B => [.int (a1)]) hX hn (t_X11_isSlot hv3) e_X11_write_6 cw_X11_isSlot cv_X11_isSlot lk_11_131 ⟨Nat.le_of_ble_eq_true rfl, Nat.le_of_ble_eq_true rfl⟩ rfl rfl (Nat.le_of_ble_eq_true rfl) ⟨Nat.zero_le _, Nat.zero_le _⟩ ?_
  refine r_if_ne hX e_X11_write_9 (fun hc => ?_) (fun hc => ?_)
  · have hf := ite_f hf hc
    refine r_aload_n (i := 0) hX e_X11_write_15 rfl rfl ?_
    obtain ⟨r4, hr4, hf⟩ := bd_s hf
    refine r_getR hX hn e_X11_write_16 fl_11_7 rfl g1 hr4 ?_
    refine r_iload_n (i := 1) hX e_X11_write_19 rfl rfl ?_
    obtain ⟨g5, hf⟩ := gd_s hf
    refine r_iald hX hn e_X11_write_20 g5 ?_
    refine r_iconst hX e_X11_write_21 ic_m1 ?_
    refine r_icmp_ne hX e_X11_write_22 (fun hc => ?_) (fun hc => ?_)
    · have hf := ite_f hf hc
      refine r_iload_n (i := 2) hX e_X11_write_28 rfl rfl ?_
      refine r_i2l hX e_X11_write_29 ?_
      refine r_lconst hX e_X11_write_30 lc_0 ?_
      refine r_aload_n (i := 0) hX e_X11_write_31 rfl rfl ?_
      obtain ⟨r6, hr6, hf⟩ := bd_s hf
      refine r_getR hX hn e_X11_write_32 fl_11_13 rfl g1 hr6 ?_
      refine r_iload_n (i := 1) hX e_X11_write_35 rfl rfl ?_
      obtain ⟨g7, hf⟩ := gd_s hf
      refine r_iald hX hn e_X11_write_36 g7 ?_
      refine r_iconst hX e_X11_write_37 ic_1 ?_
      refine r_isub hX e_X11_write_38 ?_
      refine r_i2l hX e_X11_write_39 ?_
      obtain ⟨v8, hv8, hf⟩ := nx_s hf
      refine top_l hv8 ?_
      obtain ⟨v9, hv9, hf⟩ := bd_s hf
      refine r_csi (As := fun B => [.long ((a2 : Int32).toInt64), .long (0), .long (v8)]) hX hn (t_X11_in hv9) e_X11_write_40 cw_X11_in cv_X11_in lk_11_127 ⟨Nat.le_of_ble_eq_true rfl, Nat.le_of_ble_eq_true rfl⟩ rfl rfl (Nat.le_of_ble_eq_true rfl) ⟨Nat.zero_le _, Nat.zero_le _⟩ ?_
      refine r_if_ne hX e_X11_write_43 (fun hc => ?_) (fun hc => ?_)
      · have hf := ite_f hf hc
        refine r_aload_n (i := 0) hX e_X11_write_49 rfl rfl ?_
        obtain ⟨r10, hr10, hf⟩ := bd_s hf
        refine r_getR hX hn e_X11_write_50 fl_11_16 rfl g1 hr10 ?_
        refine r_bipush hX e_X11_write_53 bc_60 ?_
        refine r_iload_n (i := 1) hX e_X11_write_55 rfl rfl ?_
        refine r_imul hX e_X11_write_56 ?_
        refine r_iload_n (i := 2) hX e_X11_write_57 rfl rfl ?_
        refine r_iadd hX e_X11_write_58 ?_
        refine r_lload_n (i := 3) hX e_X11_write_59 rfl rfl ?_
        refine r_aload_n (i := 0) hX e_X11_write_60 rfl rfl ?_
        refine r_getR hX hn e_X11_write_61 fl_11_7 rfl g1 hr4 ?_
        refine r_iload_n (i := 1) hX e_X11_write_64 rfl rfl ?_
        refine r_iald hX hn e_X11_write_65 g5 ?_
        obtain ⟨v11, hv11, hf⟩ := bd_s hf
        refine r_csl (As := fun B => [.long (a3), .int ((gI M2 r4 (a1 : Int32).toNatClampNeg))]) hX hn (t_X11_cut hv11) e_X11_write_66 cw_X11_cut cv_X11_cut lk_11_135 ⟨Nat.le_of_ble_eq_true rfl, Nat.le_of_ble_eq_true rfl⟩ rfl rfl (Nat.le_of_ble_eq_true rfl) ⟨Nat.zero_le _, Nat.zero_le _⟩ ?_
        obtain ⟨g12, hf⟩ := gd_s hf
        obtain ⟨M13, hM13, hf⟩ := nx_s hf
        refine r_last hX hn hM13 e_X11_write_69 g12 ?_
        refine r_iconst hX e_X11_write_70 ic_0 ?_
        exact r_iret hX hR e_X11_write_71 hf
      · have hf := ite_t hf hc
        refine r_bipush hX e_X11_write_46 bc_m7 ?_
        exact r_iret hX hR e_X11_write_48 hf
    · have hf := ite_t hf hc
      refine r_bipush hX e_X11_write_25 bc_m6 ?_
      exact r_iret hX hR e_X11_write_27 hf
  · have hf := ite_t hf hc
    refine r_bipush hX e_X11_write_12 bc_m2 ?_
    exact r_iret hX hR e_X11_write_14 hf
def s_X11_paste_155 (k155 : Mem → Nat → Int32 → Int32 → Int32 → Int32 → Option (Mem × Int32)) (M : Mem) (x0 : Nat) (x3 : Int32) (x4 : Int32) (x5 : Int32) (x6 : Int32) : Option (Mem × Int32) :=
  if x5 ≤ x6 then some (M, 0) else gd (oB shR x0 11) <| bd (gR M x0 3) fun r2 => bd (gR M x0 4) fun r3 => gd (aB shR r3 1 x6) <| gd (aB shR r2 1 (((60 * x3) + x4) + x6)) <| nx (sL M r2 ((((60 * x3) + x4) + x6) : Int32).toNatClampNeg (gL M r3 (x6 : Int32).toNatClampNeg)) fun M6 => k155 M6 (x0) (x3) (x4) (x5) ((x6 + 1))
def f_X11_paste_155  : Nat → Mem → Nat → Int32 → Int32 → Int32 → Int32 → Option (Mem × Int32)
  | 0 => fun _ _ _ _ _ _ => none
  | n + 1 => fun y0 y1 y2 y3 y4 y5 => s_X11_paste_155  (f_X11_paste_155  n) y0 y1 y2 y3 y4 y5
def s_X11_paste_118 (k118 : Mem → Nat → Int32 → Int32 → Int32 → Int32 → Int32 → Int32 → Option (Mem × Int32)) (M : Mem) (x0 : Nat) (x1 : Int32) (x2 : Int32) (x3 : Int32) (x4 : Int32) (x5 : Int32) (x6 : Int32) : Option (Mem × Int32) :=
  if x5 ≤ x6 then f_X11_paste_155 FU M (x0) (x3) (x4) (x5) (0) else gd (oB shR x0 11) <| bd (gR M x0 4) fun r2 => bd (gR M x0 3) fun r3 => gd (aB shR r3 1 (((60 * x1) + x2) + x6)) <| nx ((gL M r3 ((((60 * x1) + x2) + x6) : Int32).toNatClampNeg)) fun v5 => gd (aB shR r2 1 x6) <| nx (sL M r2 (x6 : Int32).toNatClampNeg v5) fun M7 => k118 M7 (x0) (x1) (x2) (x3) (x4) (x5) ((x6 + 1))
def f_X11_paste_118  : Nat → Mem → Nat → Int32 → Int32 → Int32 → Int32 → Int32 → Int32 → Option (Mem × Int32)
  | 0 => fun _ _ _ _ _ _ _ _ => none
  | n + 1 => fun y0 y1 y2 y3 y4 y5 y6 y7 => s_X11_paste_118  (f_X11_paste_118  n) y0 y1 y2 y3 y4 y5 y6 y7
def f_X11_paste (M : Mem) (a0 : Nat) (a1 : Int32) (a2 : Int32) (a3 : Int32) (a4 : Int32) (a5 : Int32) : Option (Mem × Int32) :=
  gd (oB shR a0 11) <| nx (sI M a0 0 0) fun M2 => bd (f_X11_isSlot M2 a1) fun v3 => if v3 = 0 then some (M2, (-2)) else bd (f_X11_isSlot M2 a3) fun v4 => if v4 = 0 then some (M2, (-2)) else bd (gR M2 a0 1) fun r5 => gd (aB shR r5 0 a1) <| if (gI M2 r5 (a1 : Int32).toNatClampNeg) = (-1) then some (M2, (-6)) else gd (aB shR r5 0 a3) <| if (gI M2 r5 (a3 : Int32).toNatClampNeg) = (-1) then some (M2, (-6)) else if (gI M2 r5 (a1 : Int32).toNatClampNeg) = (gI M2 r5 (a3 : Int32).toNatClampNeg) then if a2 < 0 then some (M2, (-7)) else if a4 < 0 then some (M2, (-7)) else if a5 < 0 then some (M2, (-7)) else bd (gR M2 a0 2) fun r8 => gd (aB shR r8 0 a1) <| nx (((gI M2 r8 (a1 : Int32).toNatClampNeg) : Int32).toInt64) fun v10 => nx ((lg_cmp ((a2 : Int32).toInt64 + (a5 : Int32).toInt64) v10)) fun v11 => if 0 < v11 then some (M2, (-7)) else gd (aB shR r8 0 a3) <| nx (((gI M2 r8 (a3 : Int32).toNatClampNeg) : Int32).toInt64) fun v13 => nx ((lg_cmp ((a4 : Int32).toInt64 + (a5 : Int32).toInt64) v13)) fun v14 => if v14 ≤ 0 then f_X11_paste_118 FU M2 (a0) (a1) (a2) (a3) (a4) (a5) (0) else some (M2, (-7)) else some (M2, (-8))
theorem t_s_X11_paste_155 {X : Cx} {res : Mem × Int32} {k155 : Mem → Nat → Int32 → Int32 → Int32 → Int32 → Option (Mem × Int32)} (hX : OkX X cX11_paste RX11 2 45) (hn : Fit X shR nR) (hR : RetI X shR nR .int res) (hk155 : ∀ M x0 x3 x4 x5 x6, k155 M x0 x3 x4 x5 x6 = some res → GoN X shR nR 0 0 M 155 [some (.ref (X.B + x0)), none, none, some (.int (x3)), some (.int (x4)), some (.int (x5)), some (.int (x6))] []) (M : Mem) (x0 : Nat) (x3 : Int32) (x4 : Int32) (x5 : Int32) (x6 : Int32) (hf : s_X11_paste_155 k155 M x0 x3 x4 x5 x6 = some res) : GoN X shR nR 0 0 M 155 [some (.ref (X.B + x0)), none, none, some (.int (x3)), some (.int (x4)), some (.int (x5)), some (.int (x6))] [] := by
  refine r_iload hX e_X11_paste_155 rfl ?_
  refine r_iload hX e_X11_paste_157 rfl ?_
  refine r_icmp_ge hX e_X11_paste_159 (fun hc => ?_) (fun hc => ?_)
  · have hf := ite_t hf hc
    refine r_iconst hX e_X11_paste_190 ic_0 ?_
    exact r_iret hX hR e_X11_paste_191 hf
  · have hf := ite_f hf hc
    refine r_aload_n (i := 0) hX e_X11_paste_162 rfl rfl ?_
    obtain ⟨g1, hf⟩ := gd_s hf
    obtain ⟨r2, hr2, hf⟩ := bd_s hf
    refine r_getR hX hn e_X11_paste_163 fl_11_16 rfl g1 hr2 ?_
    refine r_bipush hX e_X11_paste_166 bc_60 ?_
    refine r_iload_n (i := 3) hX e_X11_paste_168 rfl rfl ?_
    refine r_imul hX e_X11_paste_169 ?_
    refine r_iload hX e_X11_paste_170 rfl ?_
    refine r_iadd hX e_X11_paste_172 ?_
    refine r_iload hX e_X11_paste_173 rfl ?_
    refine r_iadd hX e_X11_paste_175 ?_
    refine r_aload_n (i := 0) hX e_X11_paste_176 rfl rfl ?_
    obtain ⟨r3, hr3, hf⟩ := bd_s hf
    refine r_getR hX hn e_X11_paste_177 fl_11_20 rfl g1 hr3 ?_
    refine r_iload hX e_X11_paste_180 rfl ?_
    obtain ⟨g4, hf⟩ := gd_s hf
    refine r_lald hX hn e_X11_paste_182 g4 ?_
    obtain ⟨g5, hf⟩ := gd_s hf
    obtain ⟨M6, hM6, hf⟩ := nx_s hf
    refine r_last hX hn hM6 e_X11_paste_183 g5 ?_
    refine r_iinc (v := x6 + 1) hX e_X11_paste_184 rfl (ii_s ic_1) (Nat.le_of_ble_eq_true rfl) rfl ?_
    refine r_goto hX e_X11_paste_187 ?_
    exact GoN.weak (hk155 M6 (x0) (x3) (x4) (x5) ((x6 + 1)) hf) rfl (sb_s (sb_n (sb_n (sb_s (sb_s (sb_s (sb_s (sb_z _))))))))
theorem t_X11_paste_155 {X : Cx} {res : Mem × Int32}  (hX : OkX X cX11_paste RX11 2 45) (hn : Fit X shR nR) (hR : RetI X shR nR .int res)  : ∀ (n : Nat) (M : Mem) (x0 : Nat) (x3 : Int32) (x4 : Int32) (x5 : Int32) (x6 : Int32),  f_X11_paste_155  n M x0 x3 x4 x5 x6 = some res → GoN X shR nR 0 0 M 155 [some (.ref (X.B + x0)), none, none, some (.int (x3)), some (.int (x4)), some (.int (x5)), some (.int (x6))] [] := by
  intro n
  induction n with
  | zero => intro M x0 x3 x4 x5 x6 hf; cases hf
  | succ n ih => intro M x0 x3 x4 x5 x6 hf; exact t_s_X11_paste_155 hX hn hR  ih M x0 x3 x4 x5 x6 hf
theorem t_s_X11_paste_118 {X : Cx} {res : Mem × Int32} {k118 : Mem → Nat → Int32 → Int32 → Int32 → Int32 → Int32 → Int32 → Option (Mem × Int32)} (hX : OkX X cX11_paste RX11 2 45) (hn : Fit X shR nR) (hR : RetI X shR nR .int res) (hk118 : ∀ M x0 x1 x2 x3 x4 x5 x6, k118 M x0 x1 x2 x3 x4 x5 x6 = some res → GoN X shR nR 0 0 M 118 [some (.ref (X.B + x0)), some (.int (x1)), some (.int (x2)), some (.int (x3)), some (.int (x4)), some (.int (x5)), some (.int (x6))] []) (M : Mem) (x0 : Nat) (x1 : Int32) (x2 : Int32) (x3 : Int32) (x4 : Int32) (x5 : Int32) (x6 : Int32) (hf : s_X11_paste_118 k118 M x0 x1 x2 x3 x4 x5 x6 = some res) : GoN X shR nR 0 0 M 118 [some (.ref (X.B + x0)), some (.int (x1)), some (.int (x2)), some (.int (x3)), some (.int (x4)), some (.int (x5)), some (.int (x6))] [] := by
  refine r_iload hX e_X11_paste_118 rfl ?_
  refine r_iload hX e_X11_paste_120 rfl ?_
  refine r_icmp_ge hX e_X11_paste_122 (fun hc => ?_) (fun hc => ?_)
  · have hf := ite_t hf hc
    refine r_iconst hX e_X11_paste_152 ic_0 ?_
    refine r_istore hX e_X11_paste_153 (Nat.le_of_ble_eq_true rfl) rfl ?_
    exact GoN.weak (t_X11_paste_155 hX hn hR FU M (x0) (x3) (x4) (x5) (0) hf) rfl (sb_s (sb_n (sb_n (sb_s (sb_s (sb_s (sb_s (sb_z _))))))))
  · have hf := ite_f hf hc
    refine r_aload_n (i := 0) hX e_X11_paste_125 rfl rfl ?_
    obtain ⟨g1, hf⟩ := gd_s hf
    obtain ⟨r2, hr2, hf⟩ := bd_s hf
    refine r_getR hX hn e_X11_paste_126 fl_11_20 rfl g1 hr2 ?_
    refine r_iload hX e_X11_paste_129 rfl ?_
    refine r_aload_n (i := 0) hX e_X11_paste_131 rfl rfl ?_
    obtain ⟨r3, hr3, hf⟩ := bd_s hf
    refine r_getR hX hn e_X11_paste_132 fl_11_16 rfl g1 hr3 ?_
    refine r_bipush hX e_X11_paste_135 bc_60 ?_
    refine r_iload_n (i := 1) hX e_X11_paste_137 rfl rfl ?_
    refine r_imul hX e_X11_paste_138 ?_
    refine r_iload_n (i := 2) hX e_X11_paste_139 rfl rfl ?_
    refine r_iadd hX e_X11_paste_140 ?_
    refine r_iload hX e_X11_paste_141 rfl ?_
    refine r_iadd hX e_X11_paste_143 ?_
    obtain ⟨g4, hf⟩ := gd_s hf
    refine r_lald hX hn e_X11_paste_144 g4 ?_
    obtain ⟨v5, hv5, hf⟩ := nx_s hf
    refine top_l hv5 ?_
    obtain ⟨g6, hf⟩ := gd_s hf
    obtain ⟨M7, hM7, hf⟩ := nx_s hf
    refine r_last hX hn hM7 e_X11_paste_145 g6 ?_
    refine r_iinc (v := x6 + 1) hX e_X11_paste_146 rfl (ii_s ic_1) (Nat.le_of_ble_eq_true rfl) rfl ?_
    refine r_goto hX e_X11_paste_149 ?_
    exact GoN.weak (hk118 M7 (x0) (x1) (x2) (x3) (x4) (x5) ((x6 + 1)) hf) rfl (sb_s (sb_s (sb_s (sb_s (sb_s (sb_s (sb_s (sb_z _))))))))
theorem t_X11_paste_118 {X : Cx} {res : Mem × Int32}  (hX : OkX X cX11_paste RX11 2 45) (hn : Fit X shR nR) (hR : RetI X shR nR .int res)  : ∀ (n : Nat) (M : Mem) (x0 : Nat) (x1 : Int32) (x2 : Int32) (x3 : Int32) (x4 : Int32) (x5 : Int32) (x6 : Int32),  f_X11_paste_118  n M x0 x1 x2 x3 x4 x5 x6 = some res → GoN X shR nR 0 0 M 118 [some (.ref (X.B + x0)), some (.int (x1)), some (.int (x2)), some (.int (x3)), some (.int (x4)), some (.int (x5)), some (.int (x6))] [] := by
  intro n
  induction n with
  | zero => intro M x0 x1 x2 x3 x4 x5 x6 hf; cases hf
  | succ n ih => intro M x0 x1 x2 x3 x4 x5 x6 hf; exact t_s_X11_paste_118 hX hn hR  ih M x0 x1 x2 x3 x4 x5 x6 hf
theorem t_X11_paste {l : Launch} {M : Mem} {a0 : Nat} {a1 a2 a3 a4 a5 : Int32} {res : Mem × Int32} (hf : f_X11_paste M a0 a1 a2 a3 a4 a5 = some res) : Ci l yX11_paste cX11_paste 7 (some .int) 2 45 shR nR (fun B => [.ref (B + a0), .int a1, .int a2, .int a3, .int a4, .int a5]) M res := by
  refine met_i (own := RX11) (lo := fun B => [some (.ref (B + a0)), some (.int a1), some (.int a2), some (.int a3), some (.int a4), some (.int a5), none]) (by decide +kernel) rfl shR_ok (fun _ => rfl) (fun _ => rfl) (fun _ => Nat.le_of_ble_eq_true rfl) (fun X hX hn hlx hR => ?_)
  refine r_aload_n (i := 0) hX e_X11_paste_0 rfl rfl ?_
  refine r_iconst hX e_X11_paste_1 ic_0 ?_
  obtain ⟨g1, hf⟩ := gd_s hf
  obtain ⟨M2, hM2, hf⟩ := nx_s hf
  refine r_putI hX hn hM2 e_X11_paste_2 fl_11_122 fp_11_0 rfl g1 ?_
  refine r_iload_n (i := 1) hX e_X11_paste_5 rfl rfl ?_
  obtain ⟨v3, hv3, hf⟩ := bd_s hf
  refine r_csi (As := fun B => [.int (a1)]) hX hn (t_X11_isSlot hv3) e_X11_paste_6 cw_X11_isSlot cv_X11_isSlot lk_11_131 ⟨Nat.le_of_ble_eq_true rfl, Nat.le_of_ble_eq_true rfl⟩ rfl rfl (Nat.le_of_ble_eq_true rfl) ⟨Nat.zero_le _, Nat.zero_le _⟩ ?_
  refine r_if_eq hX e_X11_paste_9 (fun hc => ?_) (fun hc => ?_)
  · have hf := ite_t hf hc
    refine r_bipush hX e_X11_paste_19 bc_m2 ?_
    exact r_iret hX hR e_X11_paste_21 hf
  · have hf := ite_f hf hc
    refine r_iload_n (i := 3) hX e_X11_paste_12 rfl rfl ?_
    obtain ⟨v4, hv4, hf⟩ := bd_s hf
    refine r_csi (As := fun B => [.int (a3)]) hX hn (t_X11_isSlot hv4) e_X11_paste_13 cw_X11_isSlot cv_X11_isSlot lk_11_131 ⟨Nat.le_of_ble_eq_true rfl, Nat.le_of_ble_eq_true rfl⟩ rfl rfl (Nat.le_of_ble_eq_true rfl) ⟨Nat.zero_le _, Nat.zero_le _⟩ ?_
    refine r_if_ne hX e_X11_paste_16 (fun hc => ?_) (fun hc => ?_)
    · have hf := ite_f hf hc
      refine r_aload_n (i := 0) hX e_X11_paste_22 rfl rfl ?_
      obtain ⟨r5, hr5, hf⟩ := bd_s hf
      refine r_getR hX hn e_X11_paste_23 fl_11_7 rfl g1 hr5 ?_
      refine r_iload_n (i := 1) hX e_X11_paste_26 rfl rfl ?_
      obtain ⟨g6, hf⟩ := gd_s hf
      refine r_iald hX hn e_X11_paste_27 g6 ?_
      refine r_iconst hX e_X11_paste_28 ic_m1 ?_
      refine r_icmp_eq hX e_X11_paste_29 (fun hc => ?_) (fun hc => ?_)
      · have hf := ite_t hf hc
        refine r_bipush hX e_X11_paste_42 bc_m6 ?_
        exact r_iret hX hR e_X11_paste_44 hf
      · have hf := ite_f hf hc
        refine r_aload_n (i := 0) hX e_X11_paste_32 rfl rfl ?_
        refine r_getR hX hn e_X11_paste_33 fl_11_7 rfl g1 hr5 ?_
        refine r_iload_n (i := 3) hX e_X11_paste_36 rfl rfl ?_
        obtain ⟨g7, hf⟩ := gd_s hf
        refine r_iald hX hn e_X11_paste_37 g7 ?_
        refine r_iconst hX e_X11_paste_38 ic_m1 ?_
        refine r_icmp_ne hX e_X11_paste_39 (fun hc => ?_) (fun hc => ?_)
        · have hf := ite_f hf hc
          refine r_aload_n (i := 0) hX e_X11_paste_45 rfl rfl ?_
          refine r_getR hX hn e_X11_paste_46 fl_11_7 rfl g1 hr5 ?_
          refine r_iload_n (i := 1) hX e_X11_paste_49 rfl rfl ?_
          refine r_iald hX hn e_X11_paste_50 g6 ?_
          refine r_aload_n (i := 0) hX e_X11_paste_51 rfl rfl ?_
          refine r_getR hX hn e_X11_paste_52 fl_11_7 rfl g1 hr5 ?_
          refine r_iload_n (i := 3) hX e_X11_paste_55 rfl rfl ?_
          refine r_iald hX hn e_X11_paste_56 g7 ?_
          refine r_icmp_eq hX e_X11_paste_57 (fun hc => ?_) (fun hc => ?_)
          · have hf := ite_t hf hc
            refine r_iload_n (i := 2) hX e_X11_paste_63 rfl rfl ?_
            refine r_if_lt hX e_X11_paste_64 (fun hc => ?_) (fun hc => ?_)
            · have hf := ite_t hf hc
              refine r_bipush hX e_X11_paste_112 bc_m7 ?_
              exact r_iret hX hR e_X11_paste_114 hf
            · have hf := ite_f hf hc
              refine r_iload hX e_X11_paste_67 rfl ?_
              refine r_if_lt hX e_X11_paste_69 (fun hc => ?_) (fun hc => ?_)
              · have hf := ite_t hf hc
                refine r_bipush hX e_X11_paste_112 bc_m7 ?_
                exact r_iret hX hR e_X11_paste_114 hf
              · have hf := ite_f hf hc
                refine r_iload hX e_X11_paste_72 rfl ?_
                refine r_if_lt hX e_X11_paste_74 (fun hc => ?_) (fun hc => ?_)
                · have hf := ite_t hf hc
                  refine r_bipush hX e_X11_paste_112 bc_m7 ?_
                  exact r_iret hX hR e_X11_paste_114 hf
                · have hf := ite_f hf hc
                  refine r_iload_n (i := 2) hX e_X11_paste_77 rfl rfl ?_
                  refine r_i2l hX e_X11_paste_78 ?_
                  refine r_iload hX e_X11_paste_79 rfl ?_
                  refine r_i2l hX e_X11_paste_81 ?_
                  refine r_ladd hX e_X11_paste_82 ?_
                  refine r_aload_n (i := 0) hX e_X11_paste_83 rfl rfl ?_
                  obtain ⟨r8, hr8, hf⟩ := bd_s hf
                  refine r_getR hX hn e_X11_paste_84 fl_11_13 rfl g1 hr8 ?_
                  refine r_iload_n (i := 1) hX e_X11_paste_87 rfl rfl ?_
                  obtain ⟨g9, hf⟩ := gd_s hf
                  refine r_iald hX hn e_X11_paste_88 g9 ?_
                  refine r_i2l hX e_X11_paste_89 ?_
                  obtain ⟨v10, hv10, hf⟩ := nx_s hf
                  refine top_l hv10 ?_
                  refine r_lcmp hX e_X11_paste_90 ?_
                  obtain ⟨v11, hv11, hf⟩ := nx_s hf
                  refine top_i hv11 ?_
                  refine r_if_gt hX e_X11_paste_91 (fun hc => ?_) (fun hc => ?_)
                  · have hf := ite_t hf hc
                    refine r_bipush hX e_X11_paste_112 bc_m7 ?_
                    exact r_iret hX hR e_X11_paste_114 hf
                  · have hf := ite_f hf hc
                    refine r_iload hX e_X11_paste_94 rfl ?_
                    refine r_i2l hX e_X11_paste_96 ?_
                    refine r_iload hX e_X11_paste_97 rfl ?_
                    refine r_i2l hX e_X11_paste_99 ?_
                    refine r_ladd hX e_X11_paste_100 ?_
                    refine r_aload_n (i := 0) hX e_X11_paste_101 rfl rfl ?_
                    refine r_getR hX hn e_X11_paste_102 fl_11_13 rfl g1 hr8 ?_
                    refine r_iload_n (i := 3) hX e_X11_paste_105 rfl rfl ?_
                    obtain ⟨g12, hf⟩ := gd_s hf
                    refine r_iald hX hn e_X11_paste_106 g12 ?_
                    refine r_i2l hX e_X11_paste_107 ?_
                    obtain ⟨v13, hv13, hf⟩ := nx_s hf
                    refine top_l hv13 ?_
                    refine r_lcmp hX e_X11_paste_108 ?_
                    obtain ⟨v14, hv14, hf⟩ := nx_s hf
                    refine top_i hv14 ?_
                    refine r_if_le hX e_X11_paste_109 (fun hc => ?_) (fun hc => ?_)
                    · have hf := ite_t hf hc
                      refine r_iconst hX e_X11_paste_115 ic_0 ?_
                      refine r_istore hX e_X11_paste_116 (Nat.le_of_ble_eq_true rfl) rfl ?_
                      exact GoN.weak (t_X11_paste_118 hX hn hR FU M2 (a0) (a1) (a2) (a3) (a4) (a5) (0) hf) rfl (sb_s (sb_s (sb_s (sb_s (sb_s (sb_s (sb_s (sb_z _))))))))
                    · have hf := ite_f hf hc
                      refine r_bipush hX e_X11_paste_112 bc_m7 ?_
                      exact r_iret hX hR e_X11_paste_114 hf
          · have hf := ite_f hf hc
            refine r_bipush hX e_X11_paste_60 bc_m8 ?_
            exact r_iret hX hR e_X11_paste_62 hf
        · have hf := ite_t hf hc
          refine r_bipush hX e_X11_paste_42 bc_m6 ?_
          exact r_iret hX hR e_X11_paste_44 hf
    · have hf := ite_t hf hc
      refine r_bipush hX e_X11_paste_19 bc_m2 ?_
      exact r_iret hX hR e_X11_paste_21 hf
def s_X11_four_3 (k3 : Mem → Nat → Int32 → Int32 → Option (Mem)) (M : Mem) (x0 : Nat) (x1 : Int32) (x2 : Int32) : Option (Mem) :=
  if x2 < 0 then some M else gd (oB shR x0 11) <| bd (gR M x0 5) fun r2 => gd (aB shR r2 3 (gI M x0 6)) <| nx (sI M r2 ((gI M x0 6) : Int32).toNatClampNeg (vp_nar .byte (((x1 >>> (x2 &&& 31)) : Int32).toInt8.toInt32))) fun M4 => nx (sI M4 x0 6 ((gI M4 x0 6) + 1)) fun M5 => k3 M5 (x0) (x1) ((x2 + (-8)))
def f_X11_four_3  : Nat → Mem → Nat → Int32 → Int32 → Option (Mem)
  | 0 => fun _ _ _ _ => none
  | n + 1 => fun y0 y1 y2 y3 => s_X11_four_3  (f_X11_four_3  n) y0 y1 y2 y3
def f_X11_four (M : Mem) (a0 : Nat) (a1 : Int32) : Option (Mem) :=
  f_X11_four_3 FU M (a0) (a1) (24)
theorem t_s_X11_four_3 {X : Cx} {res : Mem} {k3 : Mem → Nat → Int32 → Int32 → Option (Mem)} (hX : OkX X cX11_four RX11 0 0) (hn : Fit X shR nR) (hR : RetV X shR nR res) (hk3 : ∀ M x0 x1 x2, k3 M x0 x1 x2 = some res → GoN X shR nR 0 0 M 3 [some (.ref (X.B + x0)), some (.int (x1)), some (.int (x2))] []) (M : Mem) (x0 : Nat) (x1 : Int32) (x2 : Int32) (hf : s_X11_four_3 k3 M x0 x1 x2 = some res) : GoN X shR nR 0 0 M 3 [some (.ref (X.B + x0)), some (.int (x1)), some (.int (x2))] [] := by
  refine r_iload_n (i := 2) hX e_X11_four_3 rfl rfl ?_
  refine r_if_lt hX e_X11_four_4 (fun hc => ?_) (fun hc => ?_)
  · have hf := ite_t hf hc
    exact r_ret hX hR e_X11_four_36 hf
  · have hf := ite_f hf hc
    refine r_aload_n (i := 0) hX e_X11_four_7 rfl rfl ?_
    obtain ⟨g1, hf⟩ := gd_s hf
    obtain ⟨r2, hr2, hf⟩ := bd_s hf
    refine r_getR hX hn e_X11_four_8 fl_11_23 rfl g1 hr2 ?_
    refine r_aload_n (i := 0) hX e_X11_four_11 rfl rfl ?_
    refine r_getI hX hn e_X11_four_12 fl_11_139 rfl g1 ?_
    refine r_iload_n (i := 1) hX e_X11_four_15 rfl rfl ?_
    refine r_iload_n (i := 2) hX e_X11_four_16 rfl rfl ?_
    refine r_ishr hX e_X11_four_17 ?_
    refine r_i2b hX e_X11_four_18 ?_
    obtain ⟨g3, hf⟩ := gd_s hf
    obtain ⟨M4, hM4, hf⟩ := nx_s hf
    refine r_bast hX hn hM4 e_X11_four_19 g3 ?_
    refine r_aload_n (i := 0) hX e_X11_four_20 rfl rfl ?_
    refine r_dup hX e_X11_four_21 rfl ?_
    refine r_getI hX hn e_X11_four_22 fl_11_139 rfl g1 ?_
    refine r_iconst hX e_X11_four_25 ic_1 ?_
    refine r_iadd hX e_X11_four_26 ?_
    obtain ⟨M5, hM5, hf⟩ := nx_s hf
    refine r_putI hX hn hM5 e_X11_four_27 fl_11_139 fp_11_6 rfl g1 ?_
    refine r_iinc (v := x2 + (-8)) hX e_X11_four_30 rfl (ii_s ic_m8) (Nat.le_of_ble_eq_true rfl) rfl ?_
    refine r_goto hX e_X11_four_33 ?_
    exact GoN.weak (hk3 M5 (x0) (x1) ((x2 + (-8))) hf) rfl (sb_s (sb_s (sb_s (sb_z _))))
theorem t_X11_four_3 {X : Cx} {res : Mem}  (hX : OkX X cX11_four RX11 0 0) (hn : Fit X shR nR) (hR : RetV X shR nR res)  : ∀ (n : Nat) (M : Mem) (x0 : Nat) (x1 : Int32) (x2 : Int32),  f_X11_four_3  n M x0 x1 x2 = some res → GoN X shR nR 0 0 M 3 [some (.ref (X.B + x0)), some (.int (x1)), some (.int (x2))] [] := by
  intro n
  induction n with
  | zero => intro M x0 x1 x2 hf; cases hf
  | succ n ih => intro M x0 x1 x2 hf; exact t_s_X11_four_3 hX hn hR  ih M x0 x1 x2 hf
theorem t_X11_four {l : Launch} {M : Mem} {a0 : Nat} {a1 : Int32} {res : Mem} (hf : f_X11_four M a0 a1 = some res) : Cv l yX11_four cX11_four 3 none 0 0 shR nR (fun B => [.ref (B + a0), .int a1]) M res := by
  refine met_v (own := RX11) (lo := fun B => [some (.ref (B + a0)), some (.int a1), none]) (by decide +kernel) rfl shR_ok (fun _ => rfl) (fun _ => rfl) (fun _ => Nat.le_of_ble_eq_true rfl) (fun X hX hn hlx hR => ?_)
  refine r_bipush hX e_X11_four_0 bc_24 ?_
  refine r_istore_n (i := 2) hX e_X11_four_2 rfl (Nat.le_of_ble_eq_true rfl) rfl ?_
  exact GoN.weak (t_X11_four_3 hX hn hR FU M (a0) (a1) (24) hf) rfl (sb_s (sb_s (sb_s (sb_z _))))
def f_X11_feed (M : Mem) (a0 : Nat) (a1 : Int32) (a2 : Int32) (a3 : Int32) (a4 : Int32) (a5 : Int32) : Option (Mem × Int32) :=
  gd (oB shR a0 11) <| nx (sI M a0 0 0) fun M2 => if ((gI M2 a0 6) + 20) ≤ 2000 then bd (f_X11_four M2 a0 a1) fun u3 => bd (f_X11_four u3 a0 a2) fun u4 => bd (f_X11_four u4 a0 a3) fun u5 => bd (f_X11_four u5 a0 a4) fun u6 => bd (f_X11_four u6 a0 a5) fun u7 => some (u7, (gI u7 a0 6)) else some (M2, (-1))
theorem t_X11_feed {l : Launch} {M : Mem} {a0 : Nat} {a1 a2 a3 a4 a5 : Int32} {res : Mem × Int32} (hf : f_X11_feed M a0 a1 a2 a3 a4 a5 = some res) : Ci l yX11_feed cX11_feed 6 (some .int) 1 22 shR nR (fun B => [.ref (B + a0), .int a1, .int a2, .int a3, .int a4, .int a5]) M res := by
  refine met_i (own := RX11) (lo := fun B => [some (.ref (B + a0)), some (.int a1), some (.int a2), some (.int a3), some (.int a4), some (.int a5)]) (by decide +kernel) rfl shR_ok (fun _ => rfl) (fun _ => rfl) (fun _ => Nat.le_of_ble_eq_true rfl) (fun X hX hn hlx hR => ?_)
  refine r_aload_n (i := 0) hX e_X11_feed_0 rfl rfl ?_
  refine r_iconst hX e_X11_feed_1 ic_0 ?_
  obtain ⟨g1, hf⟩ := gd_s hf
  obtain ⟨M2, hM2, hf⟩ := nx_s hf
  refine r_putI hX hn hM2 e_X11_feed_2 fl_11_122 fp_11_0 rfl g1 ?_
  refine r_aload_n (i := 0) hX e_X11_feed_5 rfl rfl ?_
  refine r_getI hX hn e_X11_feed_6 fl_11_139 rfl g1 ?_
  refine r_bipush hX e_X11_feed_9 bc_20 ?_
  refine r_iadd hX e_X11_feed_11 ?_
  refine r_sipush hX e_X11_feed_12 sc_2000 ?_
  refine r_icmp_le hX e_X11_feed_15 (fun hc => ?_) (fun hc => ?_)
  · have hf := ite_t hf hc
    refine r_aload_n (i := 0) hX e_X11_feed_20 rfl rfl ?_
    refine r_iload_n (i := 1) hX e_X11_feed_21 rfl rfl ?_
    obtain ⟨u3, hu3, hf⟩ := bd_s hf
    refine r_cvv (As := fun B => [.int (a1)]) hX hn (t_X11_four hu3) e_X11_feed_22 cw_X11_four cv_X11_four lk_11_142 ⟨Nat.le_of_ble_eq_true rfl, Nat.le_of_ble_eq_true rfl⟩ (ci := 11) rfl rfl (Nat.le_of_ble_eq_true rfl) g1 rfl rfl (Nat.le_of_ble_eq_true rfl) ⟨Nat.zero_le _, Nat.zero_le _⟩ ?_
    refine r_aload_n (i := 0) hX e_X11_feed_25 rfl rfl ?_
    refine r_iload_n (i := 2) hX e_X11_feed_26 rfl rfl ?_
    obtain ⟨u4, hu4, hf⟩ := bd_s hf
    refine r_cvv (As := fun B => [.int (a2)]) hX hn (t_X11_four hu4) e_X11_feed_27 cw_X11_four cv_X11_four lk_11_142 ⟨Nat.le_of_ble_eq_true rfl, Nat.le_of_ble_eq_true rfl⟩ (ci := 11) rfl rfl (Nat.le_of_ble_eq_true rfl) g1 rfl rfl (Nat.le_of_ble_eq_true rfl) ⟨Nat.zero_le _, Nat.zero_le _⟩ ?_
    refine r_aload_n (i := 0) hX e_X11_feed_30 rfl rfl ?_
    refine r_iload_n (i := 3) hX e_X11_feed_31 rfl rfl ?_
    obtain ⟨u5, hu5, hf⟩ := bd_s hf
    refine r_cvv (As := fun B => [.int (a3)]) hX hn (t_X11_four hu5) e_X11_feed_32 cw_X11_four cv_X11_four lk_11_142 ⟨Nat.le_of_ble_eq_true rfl, Nat.le_of_ble_eq_true rfl⟩ (ci := 11) rfl rfl (Nat.le_of_ble_eq_true rfl) g1 rfl rfl (Nat.le_of_ble_eq_true rfl) ⟨Nat.zero_le _, Nat.zero_le _⟩ ?_
    refine r_aload_n (i := 0) hX e_X11_feed_35 rfl rfl ?_
    refine r_iload hX e_X11_feed_36 rfl ?_
    obtain ⟨u6, hu6, hf⟩ := bd_s hf
    refine r_cvv (As := fun B => [.int (a4)]) hX hn (t_X11_four hu6) e_X11_feed_38 cw_X11_four cv_X11_four lk_11_142 ⟨Nat.le_of_ble_eq_true rfl, Nat.le_of_ble_eq_true rfl⟩ (ci := 11) rfl rfl (Nat.le_of_ble_eq_true rfl) g1 rfl rfl (Nat.le_of_ble_eq_true rfl) ⟨Nat.zero_le _, Nat.zero_le _⟩ ?_
    refine r_aload_n (i := 0) hX e_X11_feed_41 rfl rfl ?_
    refine r_iload hX e_X11_feed_42 rfl ?_
    obtain ⟨u7, hu7, hf⟩ := bd_s hf
    refine r_cvv (As := fun B => [.int (a5)]) hX hn (t_X11_four hu7) e_X11_feed_44 cw_X11_four cv_X11_four lk_11_142 ⟨Nat.le_of_ble_eq_true rfl, Nat.le_of_ble_eq_true rfl⟩ (ci := 11) rfl rfl (Nat.le_of_ble_eq_true rfl) g1 rfl rfl (Nat.le_of_ble_eq_true rfl) ⟨Nat.zero_le _, Nat.zero_le _⟩ ?_
    refine r_aload_n (i := 0) hX e_X11_feed_47 rfl rfl ?_
    refine r_getI hX hn e_X11_feed_48 fl_11_139 rfl g1 ?_
    exact r_iret hX hR e_X11_feed_51 hf
  · have hf := ite_f hf hc
    refine r_iconst hX e_X11_feed_18 ic_m1 ?_
    exact r_iret hX hR e_X11_feed_19 hf
def f_X11_end (M : Mem) (a0 : Nat) (a1 : Int32) : Option (Mem × Int32) :=
  gd (oB shR a0 11) <| nx (sI M a0 0 0) fun M2 => bd (f_X11_in M2 ((a1 : Int32).toInt64) 0 (((gI M2 a0 6) : Int32).toInt64)) fun v3 => if v3 = 0 then some (M2, (-1)) else nx (sI M2 a0 6 a1) fun M4 => some (M4, a1)
theorem t_X11_end {l : Launch} {M : Mem} {a0 : Nat} {a1 : Int32} {res : Mem × Int32} (hf : f_X11_end M a0 a1 = some res) : Ci l yX11_end cX11_end 2 (some .int) 1 25 shR nR (fun B => [.ref (B + a0), .int a1]) M res := by
  refine met_i (own := RX11) (lo := fun B => [some (.ref (B + a0)), some (.int a1)]) (by decide +kernel) rfl shR_ok (fun _ => rfl) (fun _ => rfl) (fun _ => Nat.le_of_ble_eq_true rfl) (fun X hX hn hlx hR => ?_)
  refine r_aload_n (i := 0) hX e_X11_end_0 rfl rfl ?_
  refine r_iconst hX e_X11_end_1 ic_0 ?_
  obtain ⟨g1, hf⟩ := gd_s hf
  obtain ⟨M2, hM2, hf⟩ := nx_s hf
  refine r_putI hX hn hM2 e_X11_end_2 fl_11_122 fp_11_0 rfl g1 ?_
  refine r_iload_n (i := 1) hX e_X11_end_5 rfl rfl ?_
  refine r_i2l hX e_X11_end_6 ?_
  refine r_lconst hX e_X11_end_7 lc_0 ?_
  refine r_aload_n (i := 0) hX e_X11_end_8 rfl rfl ?_
  refine r_getI hX hn e_X11_end_9 fl_11_139 rfl g1 ?_
  refine r_i2l hX e_X11_end_12 ?_
  obtain ⟨v3, hv3, hf⟩ := bd_s hf
  refine r_csi (As := fun B => [.long ((a1 : Int32).toInt64), .long (0), .long (((gI M2 a0 6) : Int32).toInt64)]) hX hn (t_X11_in hv3) e_X11_end_13 cw_X11_in cv_X11_in lk_11_127 ⟨Nat.le_of_ble_eq_true rfl, Nat.le_of_ble_eq_true rfl⟩ rfl rfl (Nat.le_of_ble_eq_true rfl) ⟨Nat.zero_le _, Nat.zero_le _⟩ ?_
  refine r_if_ne hX e_X11_end_16 (fun hc => ?_) (fun hc => ?_)
  · have hf := ite_f hf hc
    refine r_aload_n (i := 0) hX e_X11_end_21 rfl rfl ?_
    refine r_iload_n (i := 1) hX e_X11_end_22 rfl rfl ?_
    obtain ⟨M4, hM4, hf⟩ := nx_s hf
    refine r_putI hX hn hM4 e_X11_end_23 fl_11_139 fp_11_6 rfl g1 ?_
    refine r_iload_n (i := 1) hX e_X11_end_26 rfl rfl ?_
    exact r_iret hX hR e_X11_end_27 hf
  · have hf := ite_t hf hc
    refine r_iconst hX e_X11_end_19 ic_m1 ?_
    exact r_iret hX hR e_X11_end_20 hf
def f_X11_isByte (M : Mem) (a0 : Nat) (a1 : Int32) (a2 : Int32) (a3 : Int32) : Option (Int32) :=
  gd (oB shR a0 11) <| if (gI M a0 6) ≤ a1 then some 0 else bd (gR M a0 5) fun r2 => gd (aB shR r2 3 a1) <| if (gI M r2 (a1 : Int32).toNatClampNeg) < a2 then some 0 else if a3 < (gI M r2 (a1 : Int32).toNatClampNeg) then some 0 else some 1
theorem t_X11_isByte {l : Launch} {M : Mem} {a0 : Nat} {a1 a2 a3 : Int32} {res : Int32} (hf : f_X11_isByte M a0 a1 a2 a3 = some res) : Ci l yX11_isByte cX11_isByte 4 (some .boolean) 0 0 shR nR (fun B => [.ref (B + a0), .int a1, .int a2, .int a3]) M (M, res) := by
  refine met_i (own := RX11) (lo := fun B => [some (.ref (B + a0)), some (.int a1), some (.int a2), some (.int a3)]) (by decide +kernel) rfl shR_ok (fun _ => rfl) (fun _ => rfl) (fun _ => Nat.le_of_ble_eq_true rfl) (fun X hX hn hlx hR => ?_)
  refine r_iload_n (i := 1) hX e_X11_isByte_0 rfl rfl ?_
  refine r_aload_n (i := 0) hX e_X11_isByte_1 rfl rfl ?_
  obtain ⟨g1, hf⟩ := gd_s hf
  refine r_getI hX hn e_X11_isByte_2 fl_11_139 rfl g1 ?_
  refine r_icmp_ge hX e_X11_isByte_5 (fun hc => ?_) (fun hc => ?_)
  · have hf := ite_t hf hc
    refine r_iconst hX e_X11_isByte_32 ic_0 ?_
    exact r_zret hX hR rfl e_X11_isByte_33 (ro_s hf)
  · have hf := ite_f hf hc
    refine r_aload_n (i := 0) hX e_X11_isByte_8 rfl rfl ?_
    obtain ⟨r2, hr2, hf⟩ := bd_s hf
    refine r_getR hX hn e_X11_isByte_9 fl_11_23 rfl g1 hr2 ?_
    refine r_iload_n (i := 1) hX e_X11_isByte_12 rfl rfl ?_
    obtain ⟨g3, hf⟩ := gd_s hf
    refine r_bald hX hn e_X11_isByte_13 g3 ?_
    refine r_iload_n (i := 2) hX e_X11_isByte_14 rfl rfl ?_
    refine r_icmp_lt hX e_X11_isByte_15 (fun hc => ?_) (fun hc => ?_)
    · have hf := ite_t hf hc
      refine r_iconst hX e_X11_isByte_32 ic_0 ?_
      exact r_zret hX hR rfl e_X11_isByte_33 (ro_s hf)
    · have hf := ite_f hf hc
      refine r_aload_n (i := 0) hX e_X11_isByte_18 rfl rfl ?_
      refine r_getR hX hn e_X11_isByte_19 fl_11_23 rfl g1 hr2 ?_
      refine r_iload_n (i := 1) hX e_X11_isByte_22 rfl rfl ?_
      refine r_bald hX hn e_X11_isByte_23 g3 ?_
      refine r_iload_n (i := 3) hX e_X11_isByte_24 rfl rfl ?_
      refine r_icmp_gt hX e_X11_isByte_25 (fun hc => ?_) (fun hc => ?_)
      · have hf := ite_t hf hc
        refine r_iconst hX e_X11_isByte_32 ic_0 ?_
        exact r_zret hX hR rfl e_X11_isByte_33 (ro_s hf)
      · have hf := ite_f hf hc
        refine r_iconst hX e_X11_isByte_28 ic_1 ?_
        refine r_goto hX e_X11_isByte_29 ?_
        exact r_zret hX hR rfl e_X11_isByte_33 (ro_s hf)
def f_X11_next_30 (k0 : Mem → Nat → Option (Mem)) (M : Mem) (x0 : Nat) : Option (Mem) :=
  gd (oB shR x0 11) <| nx (sI M x0 7 ((gI M x0 7) + 1)) fun M2 => k0 M2 (x0)
def f_X11_next_294  (M : Mem) (x0 : Nat) (s0 : Int32) (s1 : Nat) : Option (Mem) :=
  gd (oB shR s1 11) <| nx (sI M s1 8 s0) fun M2 => gd (oB shR x0 11) <| nx (sI M2 x0 7 ((gI M2 x0 7) + 1)) fun M4 => some M4
def f_X11_next_258 (k208 : Mem → Nat → Option (Mem)) (M : Mem) (x0 : Nat) (s0 : Int32) (s1 : Nat) : Option (Mem) :=
  gd (oB shR s1 11) <| nx (sI M s1 10 s0) fun M2 => gd (oB shR x0 11) <| nx (sI M2 x0 7 ((gI M2 x0 7) + 1)) fun M4 => k208 M4 (x0)
def s_X11_next_208 (k208 : Mem → Nat → Option (Mem)) (M : Mem) (x0 : Nat) : Option (Mem) :=
  gd (oB shR x0 11) <| bd (f_X11_isByte M x0 (gI M x0 7) 48 57) fun v2 => if v2 = 0 then some M else if (gI M x0 10) ≤ 100000 then bd (gR M x0 5) fun r3 => gd (aB shR r3 3 (gI M x0 7)) <| nx (((10 * (gI M x0 10)) + (gI M r3 ((gI M x0 7) : Int32).toNatClampNeg))) fun v5 => f_X11_next_258 k208 M (x0) ((v5 - 48)) (x0) else f_X11_next_258 k208 M (x0) (1000000) (x0)
def f_X11_next_208  : Nat → Mem → Nat → Option (Mem)
  | 0 => fun _ _ => none
  | n + 1 => fun y0 y1 => s_X11_next_208  (f_X11_next_208  n) y0 y1
def f_X11_next_169 (k102 : Mem → Nat → Int32 → Option (Mem)) (M : Mem) (x0 : Nat) (x1 : Int32) : Option (Mem) :=
  gd (oB shR x0 11) <| nx (sI M x0 7 ((gI M x0 7) + 1)) fun M2 => k102 M2 (x0) ((x1 + 1))
def f_X11_next_153 (k102 : Mem → Nat → Int32 → Option (Mem)) (M : Mem) (x0 : Nat) (x1 : Int32) (s0 : Int64) (s1 : Nat) : Option (Mem) :=
  gd (oB shR s1 11) <| nx (sL M s1 11 s0) fun M2 => if x1 ≤ 11 then f_X11_next_169 k102 M2 (x0) (x1) else gd (oB shR x0 11) <| nx (sL M2 x0 11 (-1)) fun M4 => f_X11_next_169 k102 M4 (x0) (x1)
def s_X11_next_102 (k102 : Mem → Nat → Int32 → Option (Mem)) (M : Mem) (x0 : Nat) (x1 : Int32) : Option (Mem) :=
  gd (oB shR x0 11) <| bd (f_X11_isByte M x0 (gI M x0 7) 97 122) fun v2 => if v2 = 0 then some M else if x1 ≤ 11 then bd (gR M x0 5) fun r3 => gd (aB shR r3 3 (gI M x0 7)) <| nx (((gI M r3 ((gI M x0 7) : Int32).toNatClampNeg) : Int32).toInt64) fun v5 => f_X11_next_153 k102 M (x0) (x1) ((((27 * (gL M x0 11)) + v5) - 96)) (x0) else f_X11_next_153 k102 M (x0) (x1) ((-1)) (x0)
def f_X11_next_102  : Nat → Mem → Nat → Int32 → Option (Mem)
  | 0 => fun _ _ _ => none
  | n + 1 => fun y0 y1 y2 => s_X11_next_102  (f_X11_next_102  n) y0 y1 y2
def s_X11_next_0 (k0 : Mem → Nat → Option (Mem)) (M : Mem) (x0 : Nat) : Option (Mem) :=
  gd (oB shR x0 11) <| bd (f_X11_isByte M x0 (gI M x0 7) 32 32) fun v2 => if v2 = 0 then bd (f_X11_isByte M x0 (gI M x0 7) 10 10) fun v3 => if v3 = 0 then nx (sI M x0 9 (gI M x0 7)) fun M4 => nx (sI M4 x0 10 0) fun M5 => nx (sL M5 x0 11 0) fun M6 => if (gI M6 x0 7) = (gI M6 x0 6) then nx (sI M6 x0 8 0) fun M14 => some M14 else bd (f_X11_isByte M6 x0 (gI M6 x0 7) 97 122) fun v7 => if v7 = 0 then bd (f_X11_isByte M6 x0 (gI M6 x0 7) 48 57) fun v8 => if v8 = 0 then bd (gR M6 x0 5) fun r9 => gd (aB shR r9 3 (gI M6 x0 7)) <| nx ((gI M6 r9 ((gI M6 x0 7) : Int32).toNatClampNeg)) fun v11 => if v11 = 59 then f_X11_next_294 M6 (x0) (3) (x0) else f_X11_next_294 M6 (x0) (4) (x0) else nx (sI M6 x0 8 2) fun M12 => f_X11_next_208 FU M12 (x0) else nx (sI M6 x0 8 1) fun M13 => f_X11_next_102 FU M13 (x0) (0) else f_X11_next_30 k0 M (x0) else f_X11_next_30 k0 M (x0)
def f_X11_next_0  : Nat → Mem → Nat → Option (Mem)
  | 0 => fun _ _ => none
  | n + 1 => fun y0 y1 => s_X11_next_0  (f_X11_next_0  n) y0 y1
def f_X11_next (M : Mem) (a0 : Nat) : Option (Mem) :=
  f_X11_next_0 FU M (a0)
theorem t_X11_next_30 {X : Cx} {res : Mem} {k0 : Mem → Nat → Option (Mem)} (hX : OkX X cX11_next RX11 1 23) (hn : Fit X shR nR) (hR : RetV X shR nR res) (hk0 : ∀ M x0, k0 M x0 = some res → GoN X shR nR 0 0 M 0 [some (.ref (X.B + x0)), none] []) (M : Mem) (x0 : Nat) (hf : f_X11_next_30 k0 M x0 = some res) : GoN X shR nR 0 0 M 30 [some (.ref (X.B + x0)), none] [] := by
  refine r_aload_n (i := 0) hX e_X11_next_30 rfl rfl ?_
  refine r_dup hX e_X11_next_31 rfl ?_
  obtain ⟨g1, hf⟩ := gd_s hf
  refine r_getI hX hn e_X11_next_32 fl_11_146 rfl g1 ?_
  refine r_iconst hX e_X11_next_35 ic_1 ?_
  refine r_iadd hX e_X11_next_36 ?_
  obtain ⟨M2, hM2, hf⟩ := nx_s hf
  refine r_putI hX hn hM2 e_X11_next_37 fl_11_146 fp_11_7 rfl g1 ?_
  refine r_goto hX e_X11_next_40 ?_
  exact GoN.weak (hk0 M2 (x0) hf) rfl (sb_s (sb_n (sb_z _)))
theorem t_X11_next_294 {X : Cx} {res : Mem}  (hX : OkX X cX11_next RX11 1 23) (hn : Fit X shR nR) (hR : RetV X shR nR res)  (M : Mem) (x0 : Nat) (s0 : Int32) (s1 : Nat) (hf : f_X11_next_294  M x0 s0 s1 = some res) : GoN X shR nR 0 0 M 294 [some (.ref (X.B + x0)), none] [.int (s0), .ref (X.B + s1)] := by
  obtain ⟨g1, hf⟩ := gd_s hf
  obtain ⟨M2, hM2, hf⟩ := nx_s hf
  refine r_putI hX hn hM2 e_X11_next_294 fl_11_163 fp_11_8 rfl g1 ?_
  refine r_aload_n (i := 0) hX e_X11_next_297 rfl rfl ?_
  refine r_dup hX e_X11_next_298 rfl ?_
  obtain ⟨g3, hf⟩ := gd_s hf
  refine r_getI hX hn e_X11_next_299 fl_11_146 rfl g3 ?_
  refine r_iconst hX e_X11_next_302 ic_1 ?_
  refine r_iadd hX e_X11_next_303 ?_
  obtain ⟨M4, hM4, hf⟩ := nx_s hf
  refine r_putI hX hn hM4 e_X11_next_304 fl_11_146 fp_11_7 rfl g3 ?_
  exact r_ret hX hR e_X11_next_307 hf
theorem t_X11_next_258 {X : Cx} {res : Mem} {k208 : Mem → Nat → Option (Mem)} (hX : OkX X cX11_next RX11 1 23) (hn : Fit X shR nR) (hR : RetV X shR nR res) (hk208 : ∀ M x0, k208 M x0 = some res → GoN X shR nR 0 0 M 208 [some (.ref (X.B + x0)), none] []) (M : Mem) (x0 : Nat) (s0 : Int32) (s1 : Nat) (hf : f_X11_next_258 k208 M x0 s0 s1 = some res) : GoN X shR nR 0 0 M 258 [some (.ref (X.B + x0)), none] [.int (s0), .ref (X.B + s1)] := by
  obtain ⟨g1, hf⟩ := gd_s hf
  obtain ⟨M2, hM2, hf⟩ := nx_s hf
  refine r_putI hX hn hM2 e_X11_next_258 fl_11_156 fp_11_10 rfl g1 ?_
  refine r_aload_n (i := 0) hX e_X11_next_261 rfl rfl ?_
  refine r_dup hX e_X11_next_262 rfl ?_
  obtain ⟨g3, hf⟩ := gd_s hf
  refine r_getI hX hn e_X11_next_263 fl_11_146 rfl g3 ?_
  refine r_iconst hX e_X11_next_266 ic_1 ?_
  refine r_iadd hX e_X11_next_267 ?_
  obtain ⟨M4, hM4, hf⟩ := nx_s hf
  refine r_putI hX hn hM4 e_X11_next_268 fl_11_146 fp_11_7 rfl g3 ?_
  refine r_goto hX e_X11_next_271 ?_
  exact GoN.weak (hk208 M4 (x0) hf) rfl (sb_s (sb_n (sb_z _)))
theorem t_s_X11_next_208 {X : Cx} {res : Mem} {k208 : Mem → Nat → Option (Mem)} (hX : OkX X cX11_next RX11 1 23) (hn : Fit X shR nR) (hR : RetV X shR nR res) (hk208 : ∀ M x0, k208 M x0 = some res → GoN X shR nR 0 0 M 208 [some (.ref (X.B + x0)), none] []) (M : Mem) (x0 : Nat) (hf : s_X11_next_208 k208 M x0 = some res) : GoN X shR nR 0 0 M 208 [some (.ref (X.B + x0)), none] [] := by
  refine r_aload_n (i := 0) hX e_X11_next_208 rfl rfl ?_
  refine r_aload_n (i := 0) hX e_X11_next_209 rfl rfl ?_
  obtain ⟨g1, hf⟩ := gd_s hf
  refine r_getI hX hn e_X11_next_210 fl_11_146 rfl g1 ?_
  refine r_bipush hX e_X11_next_213 bc_48 ?_
  refine r_bipush hX e_X11_next_215 bc_57 ?_
  obtain ⟨v2, hv2, hf⟩ := bd_s hf
  refine r_cvi (As := fun B => [.int ((gI M x0 7)), .int (48), .int (57)]) hX hn (t_X11_isByte hv2) e_X11_next_217 cw_X11_isByte cv_X11_isByte lk_11_149 ⟨Nat.le_of_ble_eq_true rfl, Nat.le_of_ble_eq_true rfl⟩ (ci := 11) rfl rfl (Nat.le_of_ble_eq_true rfl) g1 rfl rfl (Nat.le_of_ble_eq_true rfl) ⟨Nat.zero_le _, Nat.zero_le _⟩ ?_
  refine r_if_eq hX e_X11_next_220 (fun hc => ?_) (fun hc => ?_)
  · have hf := ite_t hf hc
    exact r_ret hX hR e_X11_next_307 hf
  · have hf := ite_f hf hc
    refine r_aload_n (i := 0) hX e_X11_next_223 rfl rfl ?_
    refine r_aload_n (i := 0) hX e_X11_next_224 rfl rfl ?_
    refine r_getI hX hn e_X11_next_225 fl_11_156 rfl g1 ?_
    refine r_ldc hX e_X11_next_228 wk_1347 ?_
    refine r_icmp_le hX e_X11_next_230 (fun hc => ?_) (fun hc => ?_)
    · have hf := ite_t hf hc
      refine r_bipush hX e_X11_next_238 bc_10 ?_
      refine r_aload_n (i := 0) hX e_X11_next_240 rfl rfl ?_
      refine r_getI hX hn e_X11_next_241 fl_11_156 rfl g1 ?_
      refine r_imul hX e_X11_next_244 ?_
      refine r_aload_n (i := 0) hX e_X11_next_245 rfl rfl ?_
      obtain ⟨r3, hr3, hf⟩ := bd_s hf
      refine r_getR hX hn e_X11_next_246 fl_11_23 rfl g1 hr3 ?_
      refine r_aload_n (i := 0) hX e_X11_next_249 rfl rfl ?_
      refine r_getI hX hn e_X11_next_250 fl_11_146 rfl g1 ?_
      obtain ⟨g4, hf⟩ := gd_s hf
      refine r_bald hX hn e_X11_next_253 g4 ?_
      refine r_iadd hX e_X11_next_254 ?_
      obtain ⟨v5, hv5, hf⟩ := nx_s hf
      refine top_i hv5 ?_
      refine r_bipush hX e_X11_next_255 bc_48 ?_
      refine r_isub hX e_X11_next_257 ?_
      exact GoN.weak (t_X11_next_258 hX hn hR hk208 M (x0) ((v5 - 48)) (x0) hf) rfl (sb_s (sb_n (sb_z _)))
    · have hf := ite_f hf hc
      refine r_ldc hX e_X11_next_233 wk_1348 ?_
      refine r_goto hX e_X11_next_235 ?_
      exact GoN.weak (t_X11_next_258 hX hn hR hk208 M (x0) (1000000) (x0) hf) rfl (sb_s (sb_n (sb_z _)))
theorem t_X11_next_208 {X : Cx} {res : Mem}  (hX : OkX X cX11_next RX11 1 23) (hn : Fit X shR nR) (hR : RetV X shR nR res)  : ∀ (n : Nat) (M : Mem) (x0 : Nat),  f_X11_next_208  n M x0 = some res → GoN X shR nR 0 0 M 208 [some (.ref (X.B + x0)), none] [] := by
  intro n
  induction n with
  | zero => intro M x0 hf; cases hf
  | succ n ih => intro M x0 hf; exact t_s_X11_next_208 hX hn hR  ih M x0 hf
theorem t_X11_next_169 {X : Cx} {res : Mem} {k102 : Mem → Nat → Int32 → Option (Mem)} (hX : OkX X cX11_next RX11 1 23) (hn : Fit X shR nR) (hR : RetV X shR nR res) (hk102 : ∀ M x0 x1, k102 M x0 x1 = some res → GoN X shR nR 0 0 M 102 [some (.ref (X.B + x0)), some (.int (x1))] []) (M : Mem) (x0 : Nat) (x1 : Int32) (hf : f_X11_next_169 k102 M x0 x1 = some res) : GoN X shR nR 0 0 M 169 [some (.ref (X.B + x0)), some (.int (x1))] [] := by
  refine r_aload_n (i := 0) hX e_X11_next_169 rfl rfl ?_
  refine r_dup hX e_X11_next_170 rfl ?_
  obtain ⟨g1, hf⟩ := gd_s hf
  refine r_getI hX hn e_X11_next_171 fl_11_146 rfl g1 ?_
  refine r_iconst hX e_X11_next_174 ic_1 ?_
  refine r_iadd hX e_X11_next_175 ?_
  obtain ⟨M2, hM2, hf⟩ := nx_s hf
  refine r_putI hX hn hM2 e_X11_next_176 fl_11_146 fp_11_7 rfl g1 ?_
  refine r_iinc (v := x1 + 1) hX e_X11_next_179 rfl (ii_s ic_1) (Nat.le_of_ble_eq_true rfl) rfl ?_
  refine r_goto hX e_X11_next_182 ?_
  exact GoN.weak (hk102 M2 (x0) ((x1 + 1)) hf) rfl (sb_s (sb_s (sb_z _)))
theorem t_X11_next_153 {X : Cx} {res : Mem} {k102 : Mem → Nat → Int32 → Option (Mem)} (hX : OkX X cX11_next RX11 1 23) (hn : Fit X shR nR) (hR : RetV X shR nR res) (hk102 : ∀ M x0 x1, k102 M x0 x1 = some res → GoN X shR nR 0 0 M 102 [some (.ref (X.B + x0)), some (.int (x1))] []) (M : Mem) (x0 : Nat) (x1 : Int32) (s0 : Int64) (s1 : Nat) (hf : f_X11_next_153 k102 M x0 x1 s0 s1 = some res) : GoN X shR nR 0 0 M 153 [some (.ref (X.B + x0)), some (.int (x1))] [.long (s0), .ref (X.B + s1)] := by
  obtain ⟨g1, hf⟩ := gd_s hf
  obtain ⟨M2, hM2, hf⟩ := nx_s hf
  refine r_putL hX hn hM2 e_X11_next_153 fl_11_159 fp_11_11 rfl g1 ?_
  refine r_iload_n (i := 1) hX e_X11_next_156 rfl rfl ?_
  refine r_bipush hX e_X11_next_157 bc_11 ?_
  refine r_icmp_le hX e_X11_next_159 (fun hc => ?_) (fun hc => ?_)
  · have hf := ite_t hf hc
    exact GoN.weak (t_X11_next_169 hX hn hR hk102 M2 (x0) (x1) hf) rfl (sb_s (sb_s (sb_z _)))
  · have hf := ite_f hf hc
    refine r_aload_n (i := 0) hX e_X11_next_162 rfl rfl ?_
    refine r_ldc2 hX e_X11_next_163 wk_1344 ?_
    obtain ⟨g3, hf⟩ := gd_s hf
    obtain ⟨M4, hM4, hf⟩ := nx_s hf
    refine r_putL hX hn hM4 e_X11_next_166 fl_11_159 fp_11_11 rfl g3 ?_
    exact GoN.weak (t_X11_next_169 hX hn hR hk102 M4 (x0) (x1) hf) rfl (sb_s (sb_s (sb_z _)))
theorem t_s_X11_next_102 {X : Cx} {res : Mem} {k102 : Mem → Nat → Int32 → Option (Mem)} (hX : OkX X cX11_next RX11 1 23) (hn : Fit X shR nR) (hR : RetV X shR nR res) (hk102 : ∀ M x0 x1, k102 M x0 x1 = some res → GoN X shR nR 0 0 M 102 [some (.ref (X.B + x0)), some (.int (x1))] []) (M : Mem) (x0 : Nat) (x1 : Int32) (hf : s_X11_next_102 k102 M x0 x1 = some res) : GoN X shR nR 0 0 M 102 [some (.ref (X.B + x0)), some (.int (x1))] [] := by
  refine r_aload_n (i := 0) hX e_X11_next_102 rfl rfl ?_
  refine r_aload_n (i := 0) hX e_X11_next_103 rfl rfl ?_
  obtain ⟨g1, hf⟩ := gd_s hf
  refine r_getI hX hn e_X11_next_104 fl_11_146 rfl g1 ?_
  refine r_bipush hX e_X11_next_107 bc_97 ?_
  refine r_bipush hX e_X11_next_109 bc_122 ?_
  obtain ⟨v2, hv2, hf⟩ := bd_s hf
  refine r_cvi (As := fun B => [.int ((gI M x0 7)), .int (97), .int (122)]) hX hn (t_X11_isByte hv2) e_X11_next_111 cw_X11_isByte cv_X11_isByte lk_11_149 ⟨Nat.le_of_ble_eq_true rfl, Nat.le_of_ble_eq_true rfl⟩ (ci := 11) rfl rfl (Nat.le_of_ble_eq_true rfl) g1 rfl rfl (Nat.le_of_ble_eq_true rfl) ⟨Nat.zero_le _, Nat.zero_le _⟩ ?_
  refine r_if_eq hX e_X11_next_114 (fun hc => ?_) (fun hc => ?_)
  · have hf := ite_t hf hc
    refine r_goto hX e_X11_next_185 ?_
    exact r_ret hX hR e_X11_next_307 hf
  · have hf := ite_f hf hc
    refine r_aload_n (i := 0) hX e_X11_next_117 rfl rfl ?_
    refine r_iload_n (i := 1) hX e_X11_next_118 rfl rfl ?_
    refine r_bipush hX e_X11_next_119 bc_11 ?_
    refine r_icmp_le hX e_X11_next_121 (fun hc => ?_) (fun hc => ?_)
    · have hf := ite_t hf hc
      refine r_ldc2 hX e_X11_next_130 wk_1345 ?_
      refine r_aload_n (i := 0) hX e_X11_next_133 rfl rfl ?_
      refine r_getL hX hn e_X11_next_134 fl_11_159 rfl g1 ?_
      refine r_lmul hX e_X11_next_137 ?_
      refine r_aload_n (i := 0) hX e_X11_next_138 rfl rfl ?_
      obtain ⟨r3, hr3, hf⟩ := bd_s hf
      refine r_getR hX hn e_X11_next_139 fl_11_23 rfl g1 hr3 ?_
      refine r_aload_n (i := 0) hX e_X11_next_142 rfl rfl ?_
      refine r_getI hX hn e_X11_next_143 fl_11_146 rfl g1 ?_
      obtain ⟨g4, hf⟩ := gd_s hf
      refine r_bald hX hn e_X11_next_146 g4 ?_
      refine r_i2l hX e_X11_next_147 ?_
      obtain ⟨v5, hv5, hf⟩ := nx_s hf
      refine top_l hv5 ?_
      refine r_ladd hX e_X11_next_148 ?_
      refine r_ldc2 hX e_X11_next_149 wk_1346 ?_
      refine r_lsub hX e_X11_next_152 ?_
      exact GoN.weak (t_X11_next_153 hX hn hR hk102 M (x0) (x1) ((((27 * (gL M x0 11)) + v5) - 96)) (x0) hf) rfl (sb_s (sb_s (sb_z _)))
    · have hf := ite_f hf hc
      refine r_ldc2 hX e_X11_next_124 wk_1344 ?_
      refine r_goto hX e_X11_next_127 ?_
      exact GoN.weak (t_X11_next_153 hX hn hR hk102 M (x0) (x1) ((-1)) (x0) hf) rfl (sb_s (sb_s (sb_z _)))
theorem t_X11_next_102 {X : Cx} {res : Mem}  (hX : OkX X cX11_next RX11 1 23) (hn : Fit X shR nR) (hR : RetV X shR nR res)  : ∀ (n : Nat) (M : Mem) (x0 : Nat) (x1 : Int32),  f_X11_next_102  n M x0 x1 = some res → GoN X shR nR 0 0 M 102 [some (.ref (X.B + x0)), some (.int (x1))] [] := by
  intro n
  induction n with
  | zero => intro M x0 x1 hf; cases hf
  | succ n ih => intro M x0 x1 hf; exact t_s_X11_next_102 hX hn hR  ih M x0 x1 hf
theorem t_s_X11_next_0 {X : Cx} {res : Mem} {k0 : Mem → Nat → Option (Mem)} (hX : OkX X cX11_next RX11 1 23) (hn : Fit X shR nR) (hR : RetV X shR nR res) (hk0 : ∀ M x0, k0 M x0 = some res → GoN X shR nR 0 0 M 0 [some (.ref (X.B + x0)), none] []) (M : Mem) (x0 : Nat) (hf : s_X11_next_0 k0 M x0 = some res) : GoN X shR nR 0 0 M 0 [some (.ref (X.B + x0)), none] [] := by
  refine r_aload_n (i := 0) hX e_X11_next_0 rfl rfl ?_
  refine r_aload_n (i := 0) hX e_X11_next_1 rfl rfl ?_
  obtain ⟨g1, hf⟩ := gd_s hf
  refine r_getI hX hn e_X11_next_2 fl_11_146 rfl g1 ?_
  refine r_bipush hX e_X11_next_5 bc_32 ?_
  refine r_bipush hX e_X11_next_7 bc_32 ?_
  obtain ⟨v2, hv2, hf⟩ := bd_s hf
  refine r_cvi (As := fun B => [.int ((gI M x0 7)), .int (32), .int (32)]) hX hn (t_X11_isByte hv2) e_X11_next_9 cw_X11_isByte cv_X11_isByte lk_11_149 ⟨Nat.le_of_ble_eq_true rfl, Nat.le_of_ble_eq_true rfl⟩ (ci := 11) rfl rfl (Nat.le_of_ble_eq_true rfl) g1 rfl rfl (Nat.le_of_ble_eq_true rfl) ⟨Nat.zero_le _, Nat.zero_le _⟩ ?_
  refine r_if_ne hX e_X11_next_12 (fun hc => ?_) (fun hc => ?_)
  · have hf := ite_f hf hc
    exact GoN.weak (t_X11_next_30 hX hn hR hk0 M (x0) hf) rfl (sb_s (sb_n (sb_z _)))
  · have hf := ite_t hf hc
    refine r_aload_n (i := 0) hX e_X11_next_15 rfl rfl ?_
    refine r_aload_n (i := 0) hX e_X11_next_16 rfl rfl ?_
    refine r_getI hX hn e_X11_next_17 fl_11_146 rfl g1 ?_
    refine r_bipush hX e_X11_next_20 bc_10 ?_
    refine r_bipush hX e_X11_next_22 bc_10 ?_
    obtain ⟨v3, hv3, hf⟩ := bd_s hf
    refine r_cvi (As := fun B => [.int ((gI M x0 7)), .int (10), .int (10)]) hX hn (t_X11_isByte hv3) e_X11_next_24 cw_X11_isByte cv_X11_isByte lk_11_149 ⟨Nat.le_of_ble_eq_true rfl, Nat.le_of_ble_eq_true rfl⟩ (ci := 11) rfl rfl (Nat.le_of_ble_eq_true rfl) g1 rfl rfl (Nat.le_of_ble_eq_true rfl) ⟨Nat.zero_le _, Nat.zero_le _⟩ ?_
    refine r_if_eq hX e_X11_next_27 (fun hc => ?_) (fun hc => ?_)
    · have hf := ite_t hf hc
      refine r_aload_n (i := 0) hX e_X11_next_43 rfl rfl ?_
      refine r_aload_n (i := 0) hX e_X11_next_44 rfl rfl ?_
      refine r_getI hX hn e_X11_next_45 fl_11_146 rfl g1 ?_
      obtain ⟨M4, hM4, hf⟩ := nx_s hf
      refine r_putI hX hn hM4 e_X11_next_48 fl_11_153 fp_11_9 rfl g1 ?_
      refine r_aload_n (i := 0) hX e_X11_next_51 rfl rfl ?_
      refine r_iconst hX e_X11_next_52 ic_0 ?_
      obtain ⟨M5, hM5, hf⟩ := nx_s hf
      refine r_putI hX hn hM5 e_X11_next_53 fl_11_156 fp_11_10 rfl g1 ?_
      refine r_aload_n (i := 0) hX e_X11_next_56 rfl rfl ?_
      refine r_lconst hX e_X11_next_57 lc_0 ?_
      obtain ⟨M6, hM6, hf⟩ := nx_s hf
      refine r_putL hX hn hM6 e_X11_next_58 fl_11_159 fp_11_11 rfl g1 ?_
      refine r_aload_n (i := 0) hX e_X11_next_61 rfl rfl ?_
      refine r_getI hX hn e_X11_next_62 fl_11_146 rfl g1 ?_
      refine r_aload_n (i := 0) hX e_X11_next_65 rfl rfl ?_
      refine r_getI hX hn e_X11_next_66 fl_11_139 rfl g1 ?_
      refine r_icmp_ne hX e_X11_next_69 (fun hc => ?_) (fun hc => ?_)
      · have hf := ite_f hf hc
        refine r_aload_n (i := 0) hX e_X11_next_80 rfl rfl ?_
        refine r_aload_n (i := 0) hX e_X11_next_81 rfl rfl ?_
        refine r_getI hX hn e_X11_next_82 fl_11_146 rfl g1 ?_
        refine r_bipush hX e_X11_next_85 bc_97 ?_
        refine r_bipush hX e_X11_next_87 bc_122 ?_
        obtain ⟨v7, hv7, hf⟩ := bd_s hf
        refine r_cvi (As := fun B => [.int ((gI M6 x0 7)), .int (97), .int (122)]) hX hn (t_X11_isByte hv7) e_X11_next_89 cw_X11_isByte cv_X11_isByte lk_11_149 ⟨Nat.le_of_ble_eq_true rfl, Nat.le_of_ble_eq_true rfl⟩ (ci := 11) rfl rfl (Nat.le_of_ble_eq_true rfl) g1 rfl rfl (Nat.le_of_ble_eq_true rfl) ⟨Nat.zero_le _, Nat.zero_le _⟩ ?_
        refine r_if_eq hX e_X11_next_92 (fun hc => ?_) (fun hc => ?_)
        · have hf := ite_t hf hc
          refine r_aload_n (i := 0) hX e_X11_next_188 rfl rfl ?_
          refine r_aload_n (i := 0) hX e_X11_next_189 rfl rfl ?_
          refine r_getI hX hn e_X11_next_190 fl_11_146 rfl g1 ?_
          refine r_bipush hX e_X11_next_193 bc_48 ?_
          refine r_bipush hX e_X11_next_195 bc_57 ?_
          obtain ⟨v8, hv8, hf⟩ := bd_s hf
          refine r_cvi (As := fun B => [.int ((gI M6 x0 7)), .int (48), .int (57)]) hX hn (t_X11_isByte hv8) e_X11_next_197 cw_X11_isByte cv_X11_isByte lk_11_149 ⟨Nat.le_of_ble_eq_true rfl, Nat.le_of_ble_eq_true rfl⟩ (ci := 11) rfl rfl (Nat.le_of_ble_eq_true rfl) g1 rfl rfl (Nat.le_of_ble_eq_true rfl) ⟨Nat.zero_le _, Nat.zero_le _⟩ ?_
          refine r_if_eq hX e_X11_next_200 (fun hc => ?_) (fun hc => ?_)
          · have hf := ite_t hf hc
            refine r_aload_n (i := 0) hX e_X11_next_274 rfl rfl ?_
            refine r_aload_n (i := 0) hX e_X11_next_275 rfl rfl ?_
            obtain ⟨r9, hr9, hf⟩ := bd_s hf
            refine r_getR hX hn e_X11_next_276 fl_11_23 rfl g1 hr9 ?_
            refine r_aload_n (i := 0) hX e_X11_next_279 rfl rfl ?_
            refine r_getI hX hn e_X11_next_280 fl_11_146 rfl g1 ?_
            obtain ⟨g10, hf⟩ := gd_s hf
            refine r_bald hX hn e_X11_next_283 g10 ?_
            obtain ⟨v11, hv11, hf⟩ := nx_s hf
            refine top_i hv11 ?_
            refine r_bipush hX e_X11_next_284 bc_59 ?_
            refine r_icmp_ne hX e_X11_next_286 (fun hc => ?_) (fun hc => ?_)
            · have hf := ite_f hf hc
              refine r_iconst hX e_X11_next_293 ic_4 ?_
              exact GoN.weak (t_X11_next_294 hX hn hR M6 (x0) (4) (x0) hf) rfl (sb_s (sb_n (sb_z _)))
            · have hf := ite_t hf hc
              refine r_iconst hX e_X11_next_289 ic_3 ?_
              refine r_goto hX e_X11_next_290 ?_
              exact GoN.weak (t_X11_next_294 hX hn hR M6 (x0) (3) (x0) hf) rfl (sb_s (sb_n (sb_z _)))
          · have hf := ite_f hf hc
            refine r_aload_n (i := 0) hX e_X11_next_203 rfl rfl ?_
            refine r_iconst hX e_X11_next_204 ic_2 ?_
            obtain ⟨M12, hM12, hf⟩ := nx_s hf
            refine r_putI hX hn hM12 e_X11_next_205 fl_11_163 fp_11_8 rfl g1 ?_
            exact GoN.weak (t_X11_next_208 hX hn hR FU M12 (x0) hf) rfl (sb_s (sb_n (sb_z _)))
        · have hf := ite_f hf hc
          refine r_aload_n (i := 0) hX e_X11_next_95 rfl rfl ?_
          refine r_iconst hX e_X11_next_96 ic_1 ?_
          obtain ⟨M13, hM13, hf⟩ := nx_s hf
          refine r_putI hX hn hM13 e_X11_next_97 fl_11_163 fp_11_8 rfl g1 ?_
          refine r_iconst hX e_X11_next_100 ic_0 ?_
          refine r_istore_n (i := 1) hX e_X11_next_101 rfl (Nat.le_of_ble_eq_true rfl) rfl ?_
          exact GoN.weak (t_X11_next_102 hX hn hR FU M13 (x0) (0) hf) rfl (sb_s (sb_s (sb_z _)))
      · have hf := ite_t hf hc
        refine r_aload_n (i := 0) hX e_X11_next_72 rfl rfl ?_
        refine r_iconst hX e_X11_next_73 ic_0 ?_
        obtain ⟨M14, hM14, hf⟩ := nx_s hf
        refine r_putI hX hn hM14 e_X11_next_74 fl_11_163 fp_11_8 rfl g1 ?_
        refine r_goto hX e_X11_next_77 ?_
        exact r_ret hX hR e_X11_next_307 hf
    · have hf := ite_f hf hc
      exact GoN.weak (t_X11_next_30 hX hn hR hk0 M (x0) hf) rfl (sb_s (sb_n (sb_z _)))
theorem t_X11_next_0 {X : Cx} {res : Mem}  (hX : OkX X cX11_next RX11 1 23) (hn : Fit X shR nR) (hR : RetV X shR nR res)  : ∀ (n : Nat) (M : Mem) (x0 : Nat),  f_X11_next_0  n M x0 = some res → GoN X shR nR 0 0 M 0 [some (.ref (X.B + x0)), none] [] := by
  intro n
  induction n with
  | zero => intro M x0 hf; cases hf
  | succ n ih => intro M x0 hf; exact t_s_X11_next_0 hX hn hR  ih M x0 hf
theorem t_X11_next {l : Launch} {M : Mem} {a0 : Nat} {res : Mem} (hf : f_X11_next M a0 = some res) : Cv l yX11_next cX11_next 2 none 1 23 shR nR (fun B => [.ref (B + a0)]) M res := by
  refine met_v (own := RX11) (lo := fun B => [some (.ref (B + a0)), none]) (by decide +kernel) rfl shR_ok (fun _ => rfl) (fun _ => rfl) (fun _ => Nat.le_of_ble_eq_true rfl) (fun X hX hn hlx hR => ?_)
  exact GoN.weak (t_X11_next_0 hX hn hR FU M (a0) hf) rfl (sb_s (sb_n (sb_z _)))
def f_X11_isGood (M : Mem) (a0 : Nat) : Option (Int32) :=
  gd (oB shR a0 11) <| if (gI M a0 12) = 0 then some 1 else some 0
theorem t_X11_isGood {l : Launch} {M : Mem} {a0 : Nat} {res : Int32} (hf : f_X11_isGood M a0 = some res) : Ci l yX11_isGood cX11_isGood 1 (some .boolean) 0 0 shR nR (fun B => [.ref (B + a0)]) M (M, res) := by
  refine met_i (own := RX11) (lo := fun B => [some (.ref (B + a0))]) (by decide +kernel) rfl shR_ok (fun _ => rfl) (fun _ => rfl) (fun _ => Nat.le_of_ble_eq_true rfl) (fun X hX hn hlx hR => ?_)
  refine r_aload_n (i := 0) hX e_X11_isGood_0 rfl rfl ?_
  obtain ⟨g1, hf⟩ := gd_s hf
  refine r_getI hX hn e_X11_isGood_1 fl_11_174 rfl g1 ?_
  refine r_if_ne hX e_X11_isGood_4 (fun hc => ?_) (fun hc => ?_)
  · have hf := ite_f hf hc
    refine r_iconst hX e_X11_isGood_11 ic_0 ?_
    exact r_zret hX hR rfl e_X11_isGood_12 (ro_s hf)
  · have hf := ite_t hf hc
    refine r_iconst hX e_X11_isGood_7 ic_1 ?_
    refine r_goto hX e_X11_isGood_8 ?_
    exact r_zret hX hR rfl e_X11_isGood_12 (ro_s hf)
def f_X11_fails (M : Mem) (a0 : Nat) (a1 : Int32) : Option (Mem) :=
  gd (oB shR a0 11) <| if (gI M a0 12) = 0 then nx (sI M a0 12 a1) fun M2 => nx (sI M2 a0 13 (gI M2 a0 9)) fun M3 => some M3 else some M
theorem t_X11_fails {l : Launch} {M : Mem} {a0 : Nat} {a1 : Int32} {res : Mem} (hf : f_X11_fails M a0 a1 = some res) : Cv l yX11_fails cX11_fails 2 none 0 0 shR nR (fun B => [.ref (B + a0), .int a1]) M res := by
  refine met_v (own := RX11) (lo := fun B => [some (.ref (B + a0)), some (.int a1)]) (by decide +kernel) rfl shR_ok (fun _ => rfl) (fun _ => rfl) (fun _ => Nat.le_of_ble_eq_true rfl) (fun X hX hn hlx hR => ?_)
  refine r_aload_n (i := 0) hX e_X11_fails_0 rfl rfl ?_
  obtain ⟨g1, hf⟩ := gd_s hf
  refine r_getI hX hn e_X11_fails_1 fl_11_174 rfl g1 ?_
  refine r_if_eq hX e_X11_fails_4 (fun hc => ?_) (fun hc => ?_)
  · have hf := ite_t hf hc
    refine r_aload_n (i := 0) hX e_X11_fails_8 rfl rfl ?_
    refine r_iload_n (i := 1) hX e_X11_fails_9 rfl rfl ?_
    obtain ⟨M2, hM2, hf⟩ := nx_s hf
    refine r_putI hX hn hM2 e_X11_fails_10 fl_11_174 fp_11_12 rfl g1 ?_
    refine r_aload_n (i := 0) hX e_X11_fails_13 rfl rfl ?_
    refine r_aload_n (i := 0) hX e_X11_fails_14 rfl rfl ?_
    refine r_getI hX hn e_X11_fails_15 fl_11_153 rfl g1 ?_
    obtain ⟨M3, hM3, hf⟩ := nx_s hf
    refine r_putI hX hn hM3 e_X11_fails_18 fl_11_177 fp_11_13 rfl g1 ?_
    exact r_ret hX hR e_X11_fails_21 hf
  · have hf := ite_f hf hc
    exact r_ret hX hR e_X11_fails_7 hf
def f_X11_is (M : Mem) (a0 : Nat) (a1 : Int64) : Option (Int32) :=
  gd (oB shR a0 11) <| if (gI M a0 12) = 0 then if (gI M a0 8) = 1 then if (lg_cmp (gL M a0 11) a1) = 0 then some 1 else some 0 else some 0 else some 0
theorem t_X11_is {l : Launch} {M : Mem} {a0 : Nat} {a1 : Int64} {res : Int32} (hf : f_X11_is M a0 a1 = some res) : Ci l yX11_is cX11_is 3 (some .boolean) 0 0 shR nR (fun B => [.ref (B + a0), .long a1]) M (M, res) := by
  refine met_i (own := RX11) (lo := fun B => [some (.ref (B + a0)), some (.long a1), none]) (by decide +kernel) rfl shR_ok (fun _ => rfl) (fun _ => rfl) (fun _ => Nat.le_of_ble_eq_true rfl) (fun X hX hn hlx hR => ?_)
  refine r_aload_n (i := 0) hX e_X11_is_0 rfl rfl ?_
  obtain ⟨g1, hf⟩ := gd_s hf
  refine r_getI hX hn e_X11_is_1 fl_11_174 rfl g1 ?_
  refine r_if_ne hX e_X11_is_4 (fun hc => ?_) (fun hc => ?_)
  · have hf := ite_f hf hc
    refine r_iconst hX e_X11_is_28 ic_0 ?_
    exact r_zret hX hR rfl e_X11_is_29 (ro_s hf)
  · have hf := ite_t hf hc
    refine r_aload_n (i := 0) hX e_X11_is_7 rfl rfl ?_
    refine r_getI hX hn e_X11_is_8 fl_11_163 rfl g1 ?_
    refine r_iconst hX e_X11_is_11 ic_1 ?_
    refine r_icmp_ne hX e_X11_is_12 (fun hc => ?_) (fun hc => ?_)
    · have hf := ite_f hf hc
      refine r_iconst hX e_X11_is_28 ic_0 ?_
      exact r_zret hX hR rfl e_X11_is_29 (ro_s hf)
    · have hf := ite_t hf hc
      refine r_aload_n (i := 0) hX e_X11_is_15 rfl rfl ?_
      refine r_getL hX hn e_X11_is_16 fl_11_159 rfl g1 ?_
      refine r_lload_n (i := 1) hX e_X11_is_19 rfl rfl ?_
      refine r_lcmp hX e_X11_is_20 ?_
      refine r_if_ne hX e_X11_is_21 (fun hc => ?_) (fun hc => ?_)
      · have hf := ite_f hf hc
        refine r_iconst hX e_X11_is_28 ic_0 ?_
        exact r_zret hX hR rfl e_X11_is_29 (ro_s hf)
      · have hf := ite_t hf hc
        refine r_iconst hX e_X11_is_24 ic_1 ?_
        refine r_goto hX e_X11_is_25 ?_
        exact r_zret hX hR rfl e_X11_is_29 (ro_s hf)
def f_X11_takes (M : Mem) (a0 : Nat) (a1 : Int64) : Option (Mem × Int32) :=
  gd (oB shR a0 11) <| bd (f_X11_is M a0 a1) fun v2 => if v2 = 0 then some (M, 0) else bd (f_X11_next M a0) fun u3 => some (u3, 1)
theorem t_X11_takes {l : Launch} {M : Mem} {a0 : Nat} {a1 : Int64} {res : Mem × Int32} (hf : f_X11_takes M a0 a1 = some res) : Ci l yX11_takes cX11_takes 3 (some .boolean) 2 44 shR nR (fun B => [.ref (B + a0), .long a1]) M res := by
  refine met_i (own := RX11) (lo := fun B => [some (.ref (B + a0)), some (.long a1), none]) (by decide +kernel) rfl shR_ok (fun _ => rfl) (fun _ => rfl) (fun _ => Nat.le_of_ble_eq_true rfl) (fun X hX hn hlx hR => ?_)
  refine r_aload_n (i := 0) hX e_X11_takes_0 rfl rfl ?_
  refine r_lload_n (i := 1) hX e_X11_takes_1 rfl rfl ?_
  obtain ⟨g1, hf⟩ := gd_s hf
  obtain ⟨v2, hv2, hf⟩ := bd_s hf
  refine r_cvi (As := fun B => [.long (a1)]) hX hn (t_X11_is hv2) e_X11_takes_2 cw_X11_is cv_X11_is lk_11_180 ⟨Nat.le_of_ble_eq_true rfl, Nat.le_of_ble_eq_true rfl⟩ (ci := 11) rfl rfl (Nat.le_of_ble_eq_true rfl) g1 rfl rfl (Nat.le_of_ble_eq_true rfl) ⟨Nat.zero_le _, Nat.zero_le _⟩ ?_
  refine r_if_ne hX e_X11_takes_5 (fun hc => ?_) (fun hc => ?_)
  · have hf := ite_f hf hc
    refine r_aload_n (i := 0) hX e_X11_takes_10 rfl rfl ?_
    obtain ⟨u3, hu3, hf⟩ := bd_s hf
    refine r_cvv (As := fun B => []) hX hn (t_X11_next hu3) e_X11_takes_11 cw_X11_next cv_X11_next lk_11_184 ⟨Nat.le_of_ble_eq_true rfl, Nat.le_of_ble_eq_true rfl⟩ (ci := 11) rfl rfl (Nat.le_of_ble_eq_true rfl) g1 rfl rfl (Nat.le_of_ble_eq_true rfl) ⟨Nat.zero_le _, Nat.zero_le _⟩ ?_
    refine r_iconst hX e_X11_takes_14 ic_1 ?_
    exact r_zret hX hR rfl e_X11_takes_15 hf
  · have hf := ite_t hf hc
    refine r_iconst hX e_X11_takes_8 ic_0 ?_
    exact r_zret hX hR rfl e_X11_takes_9 hf
